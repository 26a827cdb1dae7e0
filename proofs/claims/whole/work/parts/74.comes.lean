section B74
variable {sc : Nat × (Nat → Int32)} {n : Nat} {cl : Int32} {P : Nat → PL} {ly : Nat → Int64} {sp st : Nat → Int32} {sk : Int32} {sd : Nat → Int32} {sm : Nat → Int64} {X M : Nat → rx_C} {w : Nat → Int64} {g : List rx_C} {th mc pk : Int32} {kd td : Nat → Int32} {fm pr : Nat → Int64} {sz : Nat → Int32} {ro : Nat → Int64} {tu pe tr : Nat → Int32} {as : Nat → Int64}
theorem rel_sets {p : Nat} (hR : relR n cl P ly sp sk sm mc pk kd td fm pr sz ro pe) (hp_ : p < 16) {j t : Nat} (hj : j < 6) (hkj : kd p = nI j) (ht : t ≤ n) (htt : (j = 2 ∨ j = 4 ∨ j = 5) → (P p).2.1 = nI t ∧ td p = nI t) (hpp : j = 5 → (P p).2.2.2.1 = pr p ∧ fits (2 ^ n) (pr p)) {b : Int64} (hb : fits (2 ^ n) b) (hkv : kinv j t b (pr p)) : relR n cl (updP P p ((P p).1, (P p).2.1, b, (P p).2.2.2)) ly sp sk sm mc pk kd td (vp_updL fm p b) pr sz ro pe := by
  refine ⟨hR.1, hR.2.1, fun p' hp' => ?_, hR.2.2.2⟩
  by_cases e : p' = p
  · subst e
    rw [updP_same, pk_uLs]
    exact ⟨(hR.2.2.1 p' hp').1, Or.inr (Or.inl ⟨j, hj, hkj, rfl, hb, t, ht, htt, hpp, hkv⟩)⟩
  · unfold updP
    rw [if_neg e, pk_uLn e]
    exact hR.2.2.1 p' hp'
theorem f_comes_no {F : Nat × Nat} (hF : 100000 ≤ F.1) (hn6 : n ≤ 6) {p j t x : Nat} {a r : Int64} (hp_ : p < 16) (hj : j < 6) (hx : x < 2 ^ n) (ht : t ≤ n) (h1 : (P p).1 = nI j) (h2 : (P p).2.2.1 = a) (h3 : (j = 2 ∨ j = 4 ∨ j = 5) → (P p).2.1 = nI t) (h4 : j = 5 → (P p).2.2.2.1 = r) (hfi : fits (2 ^ n) a) (hk : kinv j t a r) (hc : clO n j t a r x = none) : f_X6_comes F 0 (2 + 2 * p) (nI x) (hp sc (cx n cl P ly sp st sk sd sm) M w g) = some (1, hp sc (cx n cl (updP P p ((P p).1, (P p).2.1, a ||| one x, (P p).2.2.2)) ly sp st sk sd sm) M w g) := by
  unfold f_X6_comes f_X6_comes_0
  rw [f_coming_eq hF hn6 hp_ hj hx ht h1 h2 h3 h4 hfi hk, Option.bind_some, hc, if_pos (show enc (-2) none = -2 from rfl), gp_se hp_, Option.bind_some, h2, pp_se hp_, Option.bind_some]
theorem f_comes_yes {F : Nat × Nat} (hF : 100000 ≤ F.1) (hn6 : n ≤ 6) {p j t x y : Nat} {a r : Int64} (hp_ : p < 16) (hj : j < 6) (hx : x < 2 ^ n) (ht : t ≤ n) (h1 : (P p).1 = nI j) (h2 : (P p).2.2.1 = a) (h3 : (j = 2 ∨ j = 4 ∨ j = 5) → (P p).2.1 = nI t) (h4 : j = 5 → (P p).2.2.2.1 = r) (hfi : fits (2 ^ n) a) (hk : kinv j t a r) (hc : clO n j t a r x = some y) : f_X6_comes F 0 (2 + 2 * p) (nI x) (hp sc (cx n cl P ly sp st sk sd sm) M w g) = some (0, hp sc (cx n (nI y) P ly sp st sk sd sm) M w g) := by
  have ha := all_le hn6
  have hne := (enc_ne (o := clO n j t a r x) (fun z hz => clO_lt hn6 (by omega) hz)).1
  unfold f_X6_comes f_X6_comes_0
  rw [f_coming_eq hF hn6 hp_ hj hx ht h1 h2 h3 h4 hfi hk, Option.bind_some, if_neg (fun e => by rw [hne.mp e] at hc; cases hc), hc, px_cl, Option.bind_some]
  rfl
theorem f_adds_no {F : Nat × Nat} (hF : 100000 ≤ F.1) (hn6 : n ≤ 6) {p j t x : Nat} (hp_ : p < 16) (hj : j < 6) (hx : x < 2 ^ n) (ht : t ≤ n) (h1 : kd p = nI j) (h3 : (j = 2 ∨ j = 4 ∨ j = 5) → td p = nI t) (hc : clO n j t (fm p) (pr p) x = none) : f_X7_adds F 40 (nI p) (nI x) (hp sc X (cm n th mc pk kd td fm pr sz ro tu pe tr as) w g) = some (nI (fb_ct (qb (fm p ||| one x)) 64), hp sc X (cm n th mc pk kd td (vp_updL fm p (fm p ||| one x)) pr sz ro tu pe tr as) w g) := by
  unfold f_X7_adds f_X7_adds_0
  rw [ck_40, Option.bind_some, f_hinders_eq hF hn6 hp_ hj hx ht h1 h3, Option.bind_some, hc, if_pos (show enc (-1) none < 0 by decide), gm_fm, Option.bind_some, am_fm hp_, Option.bind_some, sm_fm hp_, Option.bind_some, gm_fm, Option.bind_some, am_fm hp_, Option.bind_some, pk_uLs, f_many_eq (by omega), Option.bind_some]
theorem f_adds_yes {F : Nat × Nat} (hF : 100000 ≤ F.1) (hn6 : n ≤ 6) {p j t x y : Nat} (hp_ : p < 16) (hj : j < 6) (hx : x < 2 ^ n) (ht : t ≤ n) (h1 : kd p = nI j) (h3 : (j = 2 ∨ j = 4 ∨ j = 5) → td p = nI t) (hc : clO n j t (fm p) (pr p) x = some y) : f_X7_adds F 40 (nI p) (nI x) (hp sc X (cm n th mc pk kd td fm pr sz ro tu pe tr as) w g) = some (-3, hp sc X (cm n th (nI y) pk kd td fm pr sz ro tu pe tr as) w g) := by
  have ha := all_le hn6
  have hne := (enc_ne (o := clO n j t (fm p) (pr p) x) (fun z hz => clO_lt hn6 (by omega) hz)).2
  unfold f_X7_adds f_X7_adds_0
  rw [ck_40, Option.bind_some, f_hinders_eq hF hn6 hp_ hj hx ht h1 h3, Option.bind_some, if_neg (fun e => by rw [hne.mp e] at hc; cases hc), hc, pm_mc, Option.bind_some]
  rfl
/-! drop -/
def drC (a : Int64) (x y : Nat) : Bool := !decide (y = x) && (qb a y && decide (x &&& y = x))
def drO (n j : Nat) (a : Int64) (x : Nat) : Option Nat := if j = 3 then fo (drC a x) 0 (2 ^ n) else none
theorem f_going_eq {F : Nat × Nat} (hF : 100000 ≤ F.1) (hn6 : n ≤ 6) {p j x : Nat} {a : Int64} (hp_ : p < 16) (hj : j < 6) (hx : x < 2 ^ n) (h1 : (P p).1 = nI j) (h2 : (P p).2.2.1 = a) (hfi : fits (2 ^ n) a) : f_X1_goingClash F (2 + 2 * p) (nI x) (hp sc (cx n cl P ly sp st sk sd sm) M w g) = some (enc (-2) (drO n j a x), (hp sc (cx n cl P ly sp st sk sd sm) M w g)) := by
  have ha := all_le hn6
  have hx64 : x < 64 := by omega
  have e0 : fo (qb ((a &&& aRo x) &&& (one x ^^^ (-1)))) 0 64 = fo (drC a x) 0 (2 ^ n) := by
    rw [fo_64 ha (fun z hz => by rw [qb_and, qb_and, hfi z hz]; rfl)]
    refine fo_cong _ 0 fun z _ hz => ?_
    rw [qb_and, qb_and, qb_aRo hx64 (by omega), qb_not _ (by omega), qb_one hx64]
    unfold drC
    cases qb a z <;> cases decide (x &&& z = x) <;> cases decide (z = x) <;> rfl
  unfold f_X1_goingClash f_X1_goingClash_0 drO
  rw [gp_ho hp_, Option.bind_some, h1]
  by_cases e : j = 3
  · rw [if_pos (by rw [e]; rfl), if_pos e, gp_se hp_, Option.bind_some, h2, f_around_eq (by omega) hx64, Option.bind_some, leastOf_fo, Option.bind_some, e0]
  · rw [if_neg (show ¬ nI j = 3 from nI_is (k := 3) (by omega) (by omega) e), if_neg e]
    rfl
theorem f_mdrop_loop {F : Nat × Nat} (hF : 100000 ≤ F.1) (hn6 : n ≤ 6) {p j x : Nat} (hp_ : p < 16) (hj : j < 6) (hx : x < 2 ^ n) (h1 : kd p = nI j) : f_X7_drop_49 F F.1 40 (nI p) (nI x) 0 (hp sc X (cm n th mc pk kd td fm pr sz ro tu pe tr as) w g) = match drO n j (fm p) x with
    | none => some (nI (fb_ct (qb (fm p &&& (one x ^^^ (-1)))) 64), hp sc X (cm n th mc pk kd td (vp_updL fm p (fm p &&& (one x ^^^ (-1)))) pr sz ro tu pe tr as) w g)
    | some y => some (-3, hp sc X (cm n th (nI y) pk kd td fm pr sz ro tu pe tr as) w g) := by
  have ha := all_le hn6
  have hpos : 0 < 2 ^ n := Nat.two_pow_pos n
  have fin : f_X7_drop_107 F 40 (nI p) (nI x) (hp sc X (cm n th mc pk kd td fm pr sz ro tu pe tr as) w g) = some (nI (fb_ct (qb (fm p &&& (one x ^^^ (-1)))) 64), hp sc X (cm n th mc pk kd td (vp_updL fm p (fm p &&& (one x ^^^ (-1)))) pr sz ro tu pe tr as) w g) := by
    unfold f_X7_drop_107
    rw [gm_fm, Option.bind_some, am_fm hp_, Option.bind_some, sm_fm hp_, Option.bind_some, gm_fm, Option.bind_some, am_fm hp_, Option.bind_some, pk_uLs, f_many_eq (by omega), Option.bind_some]
  by_cases e : j = 3
  · have e3 : (nI j = 3) = True := eq_true (by rw [e]; rfl)
    have key : ∀ k i f, i + k = 2 ^ n → k < f → f_X7_drop_49 F f 40 (nI p) (nI x) (nI i) (hp sc X (cm n th mc pk kd td fm pr sz ro tu pe tr as) w g) = match fo (drC (fm p) x) i k with
        | none => some (nI (fb_ct (qb (fm p &&& (one x ^^^ (-1)))) 64), hp sc X (cm n th mc pk kd td (vp_updL fm p (fm p &&& (one x ^^^ (-1)))) pr sz ro tu pe tr as) w g)
        | some y => some (-3, hp sc X (cm n th (nI y) pk kd td fm pr sz ro tu pe tr as) w g) := by
      intro k
      induction k with
      | zero =>
        intro i f hi hf
        obtain ⟨f, rfl⟩ : ∃ g, f = g + 1 := ⟨f - 1, by omega⟩
        obtain rfl : i = 2 ^ n := by omega
        rw [f_X7_drop_49, gm_all, Option.bind_some, if_neg (nI_nlt (Nat.le_refl _) (by omega)), fin]
        rfl
      | succ k ih =>
        intro i f hi hf
        obtain ⟨f, rfl⟩ : ∃ g, f = g + 1 := ⟨f - 1, by omega⟩
        have hiM : i < 2 ^ n := by omega
        rw [f_X7_drop_49, gm_all, Option.bind_some, if_pos (nI_lt hiM (by omega))]
        simp only [gm_kd, Option.bind_some, am_kd hp_, h1, e3, if_true, nI_1]
        by_cases ex : i = x
        · rw [if_pos (by rw [ex]), fo_no k (by simp [drC, ex]), ih (i + 1) f (by omega) (by omega)]
        · rw [if_neg (fun h => ex ((nI_eq (by omega) (by omega)).mp h)), gm_fm, Option.bind_some, am_fm hp_, Option.bind_some, f_mhas_eq F _ (by omega), Option.bind_some]
          cases q : qb (fm p) i
          · rw [bf, if_pos rfl, fo_no k (by simp [drC, q]), ih (i + 1) f (by omega) (by omega)]
          · rw [bt, if_neg ne10, f_isWithin_eq F (by omega) (by omega), Option.bind_some]
            by_cases hw : x &&& i = x
            · rw [if_pos hw, if_neg ne10, fo_yes k (by simp [drC, q, hw, ex]), pm_mc, Option.bind_some]
            · rw [if_neg hw, if_pos rfl, fo_no k (by simp [drC, hw]), ih (i + 1) f (by omega) (by omega)]
    unfold drO
    rw [if_pos e]
    exact key (2 ^ n) 0 F.1 (by omega) (by omega)
  · obtain ⟨m, hm⟩ : ∃ m, F.1 = m + 1 := ⟨F.1 - 1, by omega⟩
    unfold drO
    rw [if_neg e, hm, f_X7_drop_49, gm_all, Option.bind_some, if_pos (show (0 : Int32) < nI (2 ^ n) from nI_lt hpos (by omega)), gm_kd, Option.bind_some, am_kd hp_, Option.bind_some, h1, if_neg (show ¬ nI j = 3 from nI_is (k := 3) (by omega) (by omega) e), fin]
theorem qb_drop (a : Int64) {x : Nat} (hx : x < 64) (j : Nat) : qb (a &&& (one x ^^^ (-1))) j = true ↔ qb a j = true ∧ j ≠ x := by
  by_cases hj : j < 64
  · rw [qb_and, Bool.and_eq_true, qb_not _ hj, qb_one hx]
    simp
  · rw [qb_big (by omega)]
    constructor
    · intro h; cases h
    · intro h; rw [qb_big (by omega)] at h; cases h.1
theorem kinv_drop (hn6 : n ≤ 6) {j t x : Nat} {a r : Int64} (hfi : fits (2 ^ n) a) (hx : x < 2 ^ n) (hk : kinv j t a r) (hc : drO n j a x = none) : kinv j t (a &&& (one x ^^^ (-1))) r := by
  have ha := all_le hn6
  by_cases h3 : j = 3
  · subst h3
    have hc' : fo (drC a x) 0 (2 ^ n) = none := hc
    refine ⟨fun h => by omega, fun h => by omega, fun _ y z hy hzy => ?_, fun h => by omega, fun h => by omega⟩
    obtain ⟨h1, h2⟩ := (qb_drop a (by omega) y).mp hy
    refine (qb_drop a (by omega) z).mpr ⟨hk.2.2.1 rfl y z h1 hzy, fun e => ?_⟩
    subst e
    have := fo_none _ 0 hc' y (Nat.zero_le _) (by have := fits_lt hfi h1; omega)
    unfold drC at this
    rw [decide_eq_false h2, h1, decide_eq_true hzy] at this
    cases this
  · exact kinv_less hk h3 fun y hy => ((qb_drop a (by omega) y).mp hy).1
end B74
