section B62
variable {sc : Nat × (Nat → Int32)} {n : Nat} {cl : Int32} {P : Nat → PL} {ly : Nat → Int64} {sp st : Nat → Int32} {sk : Int32} {sd : Nat → Int32} {sm : Nat → Int64} {X M : Nat → rx_C} {w : Nat → Int64} {g : List rx_C} {th mc pk : Int32} {kd td : Nat → Int32} {fm pr : Nat → Int64} {sz : Nat → Int32} {ro : Nat → Int64} {tu pe tr : Nat → Int32} {as : Nat → Int64}
/-! rest -/
def reC (n : Nat) (b : Int32) (a : Int64) (x : Nat) : Bool := if b = 0 then !qb a x else qb a (2 ^ n - 1 - x)
def reH (n : Nat) (b : Int32) (a : Int64) : Int64 := oR (fun x => if reC n b a x then one x else 0) (2 ^ n)
theorem f_rest_loop {F : Nat × Nat} (hF : 100000 ≤ F.1) (hn6 : n ≤ 6) {p q : Nat} (hp_ : p < 16) (hq_ : q < 16) (b : Int32) : f_X7_rest_36 F F.1 40 (nI p) b (nI q) 0 0 (hp sc X (cm n th mc pk kd td fm pr sz ro tu pe tr as) w g) = some (nI (fb_ct (qb (reH n b (fm p))) 64), hp sc X (cm n th mc pk (upd kd q 0) (upd td q 0) (vp_updL fm q (reH n b (fm p))) (vp_updL pr q 0) sz ro tu pe tr as) w g) := by
  have ha := all_le hn6
  have key : ∀ k  i f, i + k = 2 ^ n → k < f → f_X7_rest_36 F f 40 (nI p) b (nI q) (oR (fun x => if reC n b (fm p) x then one x else 0) i) (nI i) (hp sc X (cm n th mc pk kd td fm pr sz ro tu pe tr as) w g) = some (nI (fb_ct (qb (reH n b (fm p))) 64), hp sc X (cm n th mc pk (upd kd q 0) (upd td q 0) (vp_updL fm q (reH n b (fm p))) (vp_updL pr q 0) sz ro tu pe tr as) w g) := by
    intro k
    induction k with
    | zero =>
      intro  i f  hi hf
      obtain ⟨f, rfl⟩ : ∃ g, f = g + 1 := ⟨f - 1, by omega⟩
      obtain rfl : i = 2 ^ n := by omega
      rw [f_X7_rest_36, gm_all, Option.bind_some, if_neg (nI_nlt (Nat.le_refl _) (by omega)), ck_40, Option.bind_some, f_holdsNow_eq (by omega) hq_, Option.bind_some]
      rfl
    | succ k ih =>
      intro  i f  hi hf
      obtain ⟨f, rfl⟩ : ∃ g, f = g + 1 := ⟨f - 1, by omega⟩
      have hiM : i < 2 ^ n := by omega
      rw [f_X7_rest_36, gm_all, Option.bind_some, if_pos (nI_lt hiM (by omega)), gm_fm, Option.bind_some, am_fm hp_, Option.bind_some, nI_1]
      by_cases hb : b = 0
      · rw [if_pos hb, f_mhas_eq F _ (by omega), Option.bind_some]
        cases q : qb (fm p) i
        · rw [bf, if_pos rfl, oR_t0 (i := i) (by simp only [reC, hb, q]; rfl), ih (i + 1) f (by omega) (by omega)]
        · rw [bt, if_neg ne10, oR_f0 (i := i) (by simp only [reC, hb, q]; rfl), ih (i + 1) f (by omega) (by omega)]
      · rw [if_neg hb, Option.bind_some, am_fm hp_, Option.bind_some, Option.bind_some, show (1 : Int32) = nI 1 from rfl, pk_sub (by omega), pk_sub (by omega), f_mhas_eq F _ (by omega), Option.bind_some]
        cases q : qb (fm p) (2 ^ n - 1 - i)
        · rw [bf, if_pos rfl, oR_f0 (i := i) (by simp only [reC, hb, q]; rfl), ih (i + 1) f (by omega) (by omega)]
        · rw [bt, if_neg ne10, oR_t0 (i := i) (by simp only [reC, hb, q]; rfl), ih (i + 1) f (by omega) (by omega)]
  exact key (2 ^ n) 0 F.1 (by omega) (by omega)
theorem fits_re (hn6 : n ≤ 6) (b : Int32) (a : Int64) : fits (2 ^ n) (reH n b a) := fits_oR fun x hx => fits_if fun _ => fits_one hx (all_le hn6)
theorem p_all {n j : Nat} (hn : n ≤ 6) (hj : j < 64) : (j &&& (2 ^ n - 1) = j) ↔ j < 2 ^ n := by
  have h : ∀ n, n < 7 → ∀ j, j < 64 → ((j &&& (2 ^ n - 1) = j) ↔ j < 2 ^ n) := by decide +kernel
  exact h n (by omega) j hj
theorem rest_eq0 {F : Nat × Nat} (hF : 100000 ≤ F.1) (hn6 : n ≤ 6) (a : Int64) : (f_X0_within F (nI (2 ^ n) - 1)) = some (wIn (2 ^ n - 1)) ∧ wIn (2 ^ n - 1) &&& (a ^^^ (-1)) = reH n 0 a := by
  have ha := all_le hn6
  have hpos : 0 < 2 ^ n := Nat.two_pow_pos n
  constructor
  · rw [show (1 : Int32) = nI 1 from rfl, pk_sub (by omega), f_within_eq (by omega) (by omega)]
  · refine qb_ext fun j hj => ?_
    unfold reH
    rw [qb_and, qb_not a hj, qb_wIn (by omega) hj, qb_oRc _ ha]
    have e : decide (j &&& (2 ^ n - 1) = j) = decide (j < 2 ^ n) := by
      by_cases h : j < 2 ^ n
      · rw [decide_eq_true h, decide_eq_true ((p_all hn6 hj).mpr h)]
      · rw [decide_eq_false h, decide_eq_false (fun q => h ((p_all hn6 hj).mp q))]
    rw [e]
    rfl
theorem rest_eq1 {F : Nat × Nat} (hF : 100000 ≤ F.1) (hn6 : n ≤ 6) {a : Int64} (hfi : fits (2 ^ n) a) {b : Int32} (hb : ¬ b = 0) : f_X0_lacking F a (nI n) = some (reH n b a) := by
  have ha := all_le hn6
  have hpos : 0 < 2 ^ n := Nat.two_pow_pos n
  rw [f_lacking_eq (by omega) a hn6, uh_eq (uh_lacking hn6) ha hfi]
  refine congrArg some (qb_ext fun j hj => bool_ext ?_)
  unfold reH
  rw [qb_oRi, qb_oRc _ ha, Bool.and_eq_true, decide_eq_true_iff]
  constructor
  · rintro ⟨x, hx, q1, q2⟩
    rw [s_lacking hn6 hx, qb_one (by omega), decide_eq_true_iff] at q2
    subst q2
    refine ⟨by omega, ?_⟩
    unfold reC
    rw [if_neg hb, show 2 ^ n - 1 - (2 ^ n - 1 - x) = x by omega]
    exact q1
  · rintro ⟨q1, q2⟩
    unfold reC at q2
    rw [if_neg hb] at q2
    refine ⟨2 ^ n - 1 - j, by omega, q2, ?_⟩
    rw [s_lacking hn6 (by omega), qb_one (by omega), decide_eq_true_iff]
    omega
/-! ends -/
def enO (b : Int32) (a : Int64) (x y : Nat) : Bool := decide (y = x) || (!qb a y || !cB b x y)
def enC (n : Nat) (b : Int32) (a : Int64) (x : Nat) : Bool := qb a x && alw (enO b a x) 0 (2 ^ n)
def enH (n : Nat) (b : Int32) (a : Int64) : Int64 := oR (fun x => if enC n b a x then one x else 0) (2 ^ n)
theorem f_ends_in {F : Nat × Nat} (hn6 : n ≤ 6) {p q : Nat} (hp_ : p < 16) (b : Int32) {x : Nat} (hx : x < 2 ^ n) (acc : Int64) (k36 : Nat → Int32 → Int32 → Int32 → Int64 → Int32 → Option rx_H → Option (Int32 × Option rx_H)) {f0 : Nat} (hf0 : 2 ^ n + 1 < f0) : f_X7_ends_61 F k36 f0 40 (nI p) b (nI q) acc (nI x) 1 0 (hp sc X (cm n th mc pk kd td fm pr sz ro tu pe tr as) w g) = f_X7_ends_136 F k36 40 (nI p) b (nI q) acc (nI x) (if alw (enO b (fm p) x) 0 (2 ^ n) then 1 else 0) (hp sc X (cm n th mc pk kd td fm pr sz ro tu pe tr as) w g) := by
  have ha := all_le hn6
  have e0 : ∀ f y, f_X7_ends_61 F k36 (f + 1) 40 (nI p) b (nI q) acc (nI x) 0 y (hp sc X (cm n th mc pk kd td fm pr sz ro tu pe tr as) w g) = f_X7_ends_136 F k36 40 (nI p) b (nI q) acc (nI x) 0 (hp sc X (cm n th mc pk kd td fm pr sz ro tu pe tr as) w g) := by
    intro f y
    rw [f_X7_ends_61, gm_all, Option.bind_some, if_pos rfl]
    by_cases h : y < nI (2 ^ n)
    · rw [if_pos h]
    · rw [if_neg h]
  have key : ∀ k i f, i + k = 2 ^ n → k + 1 < f → f_X7_ends_61 F k36 f 40 (nI p) b (nI q) acc (nI x) 1 (nI i) (hp sc X (cm n th mc pk kd td fm pr sz ro tu pe tr as) w g) = f_X7_ends_136 F k36 40 (nI p) b (nI q) acc (nI x) (if alw (enO b (fm p) x) i k then 1 else 0) (hp sc X (cm n th mc pk kd td fm pr sz ro tu pe tr as) w g) := by
    intro k
    induction k with
    | zero =>
      intro i f hi hf
      obtain ⟨f, rfl⟩ : ∃ g, f = g + 1 := ⟨f - 1, by omega⟩
      obtain rfl : i = 2 ^ n := by omega
      rw [f_X7_ends_61, gm_all, Option.bind_some, if_neg (nI_nlt (Nat.le_refl _) (by omega))]
      rfl
    | succ k ih =>
      intro i f hi hf
      obtain ⟨f, rfl⟩ : ∃ g, f = g + 2 := ⟨f - 2, by omega⟩
      have hiM : i < 2 ^ n := by omega
      have yes : enO b (fm p) x i = true → f_X7_ends_61 F k36 (f + 1) 40 (nI p) b (nI q) acc (nI x) 1 (nI (i + 1)) (hp sc X (cm n th mc pk kd td fm pr sz ro tu pe tr as) w g) = f_X7_ends_136 F k36 40 (nI p) b (nI q) acc (nI x) (if alw (enO b (fm p) x) i (k + 1) then 1 else 0) (hp sc X (cm n th mc pk kd td fm pr sz ro tu pe tr as) w g) := by
        intro h
        rw [ih (i + 1) (f + 1) (by omega) (by omega), show alw (enO b (fm p) x) i (k + 1) = (enO b (fm p) x i && alw (enO b (fm p) x) (i + 1) k) from rfl, h, Bool.true_and]
      have no : enO b (fm p) x i = false → f_X7_ends_61 F k36 (f + 1) 40 (nI p) b (nI q) acc (nI x) 0 (nI (i + 1)) (hp sc X (cm n th mc pk kd td fm pr sz ro tu pe tr as) w g) = f_X7_ends_136 F k36 40 (nI p) b (nI q) acc (nI x) (if alw (enO b (fm p) x) i (k + 1) then 1 else 0) (hp sc X (cm n th mc pk kd td fm pr sz ro tu pe tr as) w g) := by
        intro h
        rw [e0, show alw (enO b (fm p) x) i (k + 1) = (enO b (fm p) x i && alw (enO b (fm p) x) (i + 1) k) from rfl, h, Bool.false_and]
        rfl
      rw [f_X7_ends_61, gm_all, Option.bind_some, if_pos (nI_lt hiM (by omega)), if_neg ne10, nI_1]
      by_cases hxi : i = x
      · subst hxi
        rw [if_pos rfl]
        exact yes (by simp [enO])
      · have hne : ¬ nI i = nI x := fun h => hxi ((nI_eq (by omega) (by omega)).mp h)
        rw [if_neg hne, gm_fm, Option.bind_some, am_fm hp_, Option.bind_some, f_mhas_eq F _ (by omega), Option.bind_some]
        cases q1 : qb (fm p) i
        · rw [bf, if_pos rfl]
          exact yes (by simp [enO, q1])
        · rw [bt, if_neg ne10]
          by_cases hb : b = 0
          · rw [if_pos hb, f_isWithin_eq F (by omega) (by omega), Option.bind_some]
            by_cases hw : i &&& x = i
            · rw [if_pos hw, if_neg ne10]
              exact no (by simp [enO, q1, cB, hb, hw, hxi])
            · rw [if_neg hw, if_pos rfl]
              exact yes (by simp [enO, q1, cB, hb, hw])
          · rw [if_neg hb, f_isWithin_eq F (by omega) (by omega), Option.bind_some]
            by_cases hw : x &&& i = x
            · rw [if_pos hw, if_neg ne10]
              exact no (by simp [enO, q1, cB, hb, hw, hxi])
            · rw [if_neg hw, if_pos rfl]
              exact yes (by simp [enO, q1, cB, hb, hw])
  exact key (2 ^ n) 0 f0 (by omega) (by omega)
theorem f_ends_loop {F : Nat × Nat} (hF : 100000 ≤ F.1) (hn6 : n ≤ 6) {p q : Nat} (hp_ : p < 16) (hq_ : q < 16) (b : Int32) : f_X7_ends_36 F F.1 40 (nI p) b (nI q) 0 0 (hp sc X (cm n th mc pk kd td fm pr sz ro tu pe tr as) w g) = some (nI (fb_ct (qb (enH n b (fm p))) 64), hp sc X (cm n th mc pk (upd kd q 1) (upd td q 0) (vp_updL fm q (enH n b (fm p))) (vp_updL pr q 0) sz ro tu pe tr as) w g) := by
  have ha := all_le hn6
  have hpos : 0 < 2 ^ n := Nat.two_pow_pos n
  have key : ∀ k  i f, i + k = 2 ^ n → k < f → f_X7_ends_36 F f 40 (nI p) b (nI q) (oR (fun x => if enC n b (fm p) x then one x else 0) i) (nI i) (hp sc X (cm n th mc pk kd td fm pr sz ro tu pe tr as) w g) = some (nI (fb_ct (qb (enH n b (fm p))) 64), hp sc X (cm n th mc pk (upd kd q 1) (upd td q 0) (vp_updL fm q (enH n b (fm p))) (vp_updL pr q 0) sz ro tu pe tr as) w g) := by
    intro k
    induction k with
    | zero =>
      intro  i f  hi hf
      obtain ⟨f, rfl⟩ : ∃ g, f = g + 1 := ⟨f - 1, by omega⟩
      obtain rfl : i = 2 ^ n := by omega
      rw [f_X7_ends_36, gm_all, Option.bind_some, if_neg (nI_nlt (Nat.le_refl _) (by omega)), ck_40, Option.bind_some, f_holdsNow_eq (by omega) hq_, Option.bind_some]
      rfl
    | succ k ih =>
      intro  i f  hi hf
      obtain ⟨f, rfl⟩ : ∃ g, f = g + 1 := ⟨f - 1, by omega⟩
      have hiM : i < 2 ^ n := by omega
      rw [f_X7_ends_36, gm_all, Option.bind_some, if_pos (nI_lt hiM (by omega)), gm_fm, Option.bind_some, am_fm hp_, Option.bind_some, f_mhas_eq F _ (by omega), Option.bind_some]
      cases q : qb (fm p) i
      · obtain ⟨m, hm⟩ : ∃ m, F.1 = m + 1 := ⟨F.1 - 1, by omega⟩
        rw [if_neg (by decide), hm, f_X7_ends_61, gm_all, Option.bind_some, if_pos (show (0 : Int32) < nI (2 ^ n) from nI_lt hpos (by omega)), if_pos rfl, f_X7_ends_136, if_pos rfl, nI_1, oR_f0 (i := i) (by simp only [enC, q]; rfl), ih (i + 1) f (by omega) (by omega)]
      · rw [if_pos rfl, f_ends_in hn6 hp_ b hiM _ _ (by omega), f_X7_ends_136, nI_1]
        cases q2 : alw (enO b (fm p) i) 0 (2 ^ n)
        · rw [bf, if_pos rfl, oR_f0 (i := i) (by simp only [enC, q, q2]; rfl), ih (i + 1) f (by omega) (by omega)]
        · rw [bt, if_neg ne10, oR_t0 (i := i) (by simp only [enC, q, q2]; rfl), ih (i + 1) f (by omega) (by omega)]
  exact key (2 ^ n) 0 F.1 (by omega) (by omega)
theorem fits_en (hn6 : n ≤ 6) (b : Int32) (a : Int64) : fits (2 ^ n) (enH n b a) := fits_oR fun x hx => fits_if fun _ => fits_one hx (all_le hn6)
theorem qb_en (hn6 : n ≤ 6) (b : Int32) (a : Int64) (j : Nat) : qb (enH n b a) j = true ↔ j < 2 ^ n ∧ qb a j = true ∧ ∀ y, y < 2 ^ n → y = j ∨ qb a y = false ∨ cB b j y = false := by
  unfold enH
  rw [qb_oRc _ (all_le hn6), Bool.and_eq_true, decide_eq_true_iff]
  unfold enC
  rw [Bool.and_eq_true, alw_iff]
  constructor
  · rintro ⟨h1, h2, h3⟩
    refine ⟨h1, h2, fun y hy => ?_⟩
    have := h3 y (Nat.zero_le _) (by omega)
    unfold enO at this
    simpa using this
  · rintro ⟨h1, h2, h3⟩
    refine ⟨h1, h2, fun y _ hy => ?_⟩
    have := h3 y (by omega)
    unfold enO
    simpa using this
theorem s_strictA {n x j : Nat} (hn : n ≤ 6) (hx : x < 2 ^ n) (hj : j < 64) : qb (fold6 (fun a i => a ||| mrT a i) (fold6 (fun a i => a ||| mrT (one x) i) 0 0 n) 0 n) j = (decide (j < 2 ^ n) && (decide (x &&& j = x) && !decide (x = j))) := by
  have h : ∀ n, n < 7 → ∀ x, x < 2 ^ n → ∀ j, j < 64 → qb (fold6 (fun a i => a ||| mrT a i) (fold6 (fun a i => a ||| mrT (one x) i) 0 0 n) 0 n) j = (decide (j < 2 ^ n) && (decide (x &&& j = x) && !decide (x = j))) := by decide +kernel
  exact h n (by omega) x hx j hj
theorem s_strictB {x j : Nat} (hx : x < 64) (hj : j < 64) : qb (fold6 (fun a i => a ||| lsT a i) (fold6 (fun a i => a ||| lsT (one x) i) 0 0 6) 0 6) j = (decide (j &&& x = j) && !decide (x = j)) := by
  have h : ∀ x, x < 64 → ∀ j, j < 64 → qb (fold6 (fun a i => a ||| lsT a i) (fold6 (fun a i => a ||| lsT (one x) i) 0 0 6) 0 6) j = (decide (j &&& x = j) && !decide (x = j)) := by decide +kernel
  exact h x hx j hj
theorem ends_c0 (hn6 : n ≤ 6) {a : Int64} (hfi : fits (2 ^ n) a) : a &&& (fold6 (fun b i => b ||| mrT b i) (fold6 (fun b i => b ||| mrT a i) 0 0 n) 0 n ^^^ (-1)) = enH n 0 a := by
  have ha := all_le hn6
  refine qb_ext fun j hj => bool_ext ?_
  rw [qb_and, qb_not _ hj, Bool.and_eq_true, qb_en hn6, uh_eq (uh_comp (uh_allAbove hn6) (uh_oneMore hn6)) ha hfi, Bool.not_eq_true']
  constructor
  · rintro ⟨h1, h2⟩
    have hjn := fits_lt hfi h1
    refine ⟨hjn, h1, fun y hy => ?_⟩
    by_cases e : y = j
    · exact Or.inl e
    cases q : qb a y
    · exact Or.inr (Or.inl rfl)
    refine Or.inr (Or.inr ?_)
    cases q2 : cB 0 j y
    · rfl
    · have : qb (oR (fun x => if qb a x then (fold6 (fun b i => b ||| mrT b i) (fold6 (fun b i => b ||| mrT (one x) i) 0 0 n) 0 n) else 0) (2 ^ n)) j = true := (qb_oRi _ _ _ _).mpr ⟨y, hy, q, by
        rw [s_strictA hn6 hy hj]
        have q3 : y &&& j = y := of_decide_eq_true q2
        simp [hjn, q3, e]⟩
      rw [this] at h2
      cases h2
  · rintro ⟨h1, h2, h3⟩
    refine ⟨h2, ?_⟩
    cases q : qb (oR (fun x => if qb a x then (fold6 (fun b i => b ||| mrT b i) (fold6 (fun b i => b ||| mrT (one x) i) 0 0 n) 0 n) else 0) (2 ^ n)) j
    · rfl
    · obtain ⟨x, hx, q1, q2⟩ := (qb_oRi _ _ _ _).mp q
      rw [s_strictA hn6 hx hj] at q2
      simp at q2
      rcases h3 x hx with h | h | h
      · exact absurd h q2.2.2
      · rw [q1] at h; cases h
      · have := of_decide_eq_false h
        exact absurd q2.2.1 this
theorem ends_c1 (hn6 : n ≤ 6) {a : Int64} (hfi : fits (2 ^ n) a) {b : Int32} (hb : ¬ b = 0) : a &&& (fold6 (fun b i => b ||| lsT b i) (fold6 (fun b i => b ||| lsT a i) 0 0 6) 0 6 ^^^ (-1)) = enH n b a := by
  have ha := all_le hn6
  refine qb_ext fun j hj => bool_ext ?_
  rw [qb_and, qb_not _ hj, Bool.and_eq_true, qb_en hn6, uh_eq (uh_comp uh_allBelow uh_oneLess) ha hfi, Bool.not_eq_true']
  constructor
  · rintro ⟨h1, h2⟩
    have hjn := fits_lt hfi h1
    refine ⟨hjn, h1, fun y hy => ?_⟩
    by_cases e : y = j
    · exact Or.inl e
    cases q : qb a y
    · exact Or.inr (Or.inl rfl)
    refine Or.inr (Or.inr ?_)
    cases q2 : cB b j y
    · rfl
    · have : qb (oR (fun x => if qb a x then (fold6 (fun b i => b ||| lsT b i) (fold6 (fun b i => b ||| lsT (one x) i) 0 0 6) 0 6) else 0) (2 ^ n)) j = true := (qb_oRi _ _ _ _).mpr ⟨y, hy, q, by
        rw [s_strictB (by omega) hj]
        unfold cB at q2
        rw [if_neg hb] at q2
        have q3 : j &&& y = j := of_decide_eq_true q2
        simp [q3, e]⟩
      rw [this] at h2
      cases h2
  · rintro ⟨h1, h2, h3⟩
    refine ⟨h2, ?_⟩
    cases q : qb (oR (fun x => if qb a x then (fold6 (fun b i => b ||| lsT b i) (fold6 (fun b i => b ||| lsT (one x) i) 0 0 6) 0 6) else 0) (2 ^ n)) j
    · rfl
    · obtain ⟨x, hx, q1, q2⟩ := (qb_oRi _ _ _ _).mp q
      rw [s_strictB (by omega) hj] at q2
      simp at q2
      rcases h3 x hx with h | h | h
      · exact absurd h q2.2
      · rw [q1] at h; cases h
      · unfold cB at h
        rw [if_neg hb] at h
        exact absurd q2.1 (of_decide_eq_false h)
theorem kinv_en (hn6 : n ≤ 6) (b : Int32) (a : Int64) : kinv 1 0 (enH n b a) 0 := by
  refine kinv_apart 0 0 fun x y hx hy hxy hw => ?_
  obtain ⟨hx1, hx2, hx3⟩ := (qb_en hn6 b a x).mp hx
  obtain ⟨hy1, hy2, hy3⟩ := (qb_en hn6 b a y).mp hy
  by_cases hb : b = 0
  · rcases hy3 x hx1 with h | h | h
    · exact hxy h
    · rw [hx2] at h; cases h
    · unfold cB at h
      rw [if_pos hb] at h
      exact of_decide_eq_false h hw
  · rcases hx3 y hy1 with h | h | h
    · exact hxy h.symm
    · rw [hy2] at h; cases h
    · unfold cB at h
      rw [if_neg hb] at h
      exact of_decide_eq_false h hw
end B62
