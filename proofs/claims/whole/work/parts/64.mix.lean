section B64
variable {sc : Nat × (Nat → Int32)} {n : Nat} {cl : Int32} {P : Nat → PL} {ly : Nat → Int64} {sp st : Nat → Int32} {sk : Int32} {sd : Nat → Int32} {sm : Nat → Int64} {X M : Nat → rx_C} {w : Nat → Int64} {g : List rx_C} {th mc pk : Int32} {kd td : Nat → Int32} {fm pr : Nat → Int64} {sz : Nat → Int32} {ro : Nat → Int64} {tu pe tr : Nat → Int32} {as : Nat → Int64}
/-! mix -/
theorem f_fams_no (F : Nat × Nat) (x y : Int32) : f_X6_familiesRefusal F 0 x y 0 (hp sc (cx n cl P ly sp st sk sd sm) M w g) = some (-1, (hp sc (cx n cl P ly sp st sk sd sm) M w g)) := by
  unfold f_X6_familiesRefusal f_X6_familiesRefusal_0 f_X6_familiesRefusal_19
  rw [if_pos rfl, ck_0, Option.bind_some, f_famRef_no, Option.bind_some, if_neg nm10]
def opI (c : Bool) (x s : Nat) : Nat := if c then x &&& s else x ||| s
theorem opI_lt (c : Bool) {x s n : Nat} (hx : x < 2 ^ n) (hs : s < 2 ^ n) : opI c x s < 2 ^ n := by
  cases c
  · exact or_l hx hs
  · exact and_l hx
theorem join_eq {F : Nat × Nat} (hF : 100000 ≤ F.1) {a : Int64} (hn6 : n ≤ 6) (hfi : fits (2 ^ n) a) {s : Nat} (hs : s < 64) : f_X0_joinedTo F a (nI s) = some (oR (fun x => if qb a x then one (x ||| s) else 0) (2 ^ n)) := by
  have ha := all_le hn6
  rw [f_joinedTo_eq (by omega) a hs, uh_eq (uh_join s) ha hfi]
  exact congrArg some (oR_cong fun x hx => by rw [one_join (by omega) hs])
def mpH (n : Nat) (c : Bool) (a b : Int64) : Int64 := oR (fun s => if qb b s then oR (fun x => if qb a x then one (opI c x s) else 0) (2 ^ n) else 0) 64
theorem f_pairs_eq {F : Nat × Nat} (hF : 100000 ≤ F.1) (hn6 : n ≤ 6) {a : Int64} (hfi : fits (2 ^ n) a) (b : Int64) (c : Bool) : f_X0_mixedInPairs F a b (upI c) = some (mpH n c a b) := by
  have ha := all_le hn6
  have key : ∀ k  i f, i + k = 64 → k < f → f_X0_mixedInPairs_10 F f a b (upI c) (oR (fun s => if qb b s then oR (fun x => if qb a x then one (opI c x s) else 0) (2 ^ n) else 0) i) (nI (qn b i)) = some (mpH n c a b) := by
    intro k
    induction k with
    | zero =>
      intro  i f  hi hf
      obtain ⟨f, rfl⟩ : ∃ g, f = g + 1 := ⟨f - 1, by omega⟩
      obtain rfl : i = 64 := by omega
      rw [qn_big b (Nat.le_refl _)]
      rw [f_X0_mixedInPairs_10, if_neg (by decide)]
      rfl
    | succ k ih =>
      intro  i f  hi hf
      obtain ⟨f, rfl⟩ : ∃ g, f = g + 1 := ⟨f - 1, by omega⟩
      cases q : qb b i
      · rw [qn_no q, oR_f0 (i := i) (by simp only [q]; rfl)]
        exact ih (i + 1) (f + 1) (by omega) (by omega)
      · rw [qn_yes q]
        rw [f_X0_mixedInPairs_10, if_pos (show nI i < 64 from nI_lt (b := 64) (by omega) (by decide))]
        unfold f_X0_mixedInPairs_39
        cases c
        · rw [if_pos (show upI false = 0 from rfl), join_eq hF hn6 hfi (by omega), Option.bind_some, nI_1, f_next_eq F b (by omega), Option.bind_some, ← ih (i + 1) f (by omega) (by omega)]
          rw [← oR_t0 (i := i) (e := oR (fun x => if qb a x then one (x ||| i) else 0) (2 ^ n)) (by simp only [q]; rfl)]
        · rw [if_neg (show ¬ upI true = 0 by decide), cut_eq hF hn6 hfi (by omega), Option.bind_some, nI_1, f_next_eq F b (by omega), Option.bind_some, ← ih (i + 1) f (by omega) (by omega)]
          rw [← oR_t0 (i := i) (e := oR (fun x => if qb a x then one (x &&& i) else 0) (2 ^ n)) (by simp only [q]; rfl)]
  unfold f_X0_mixedInPairs f_X0_mixedInPairs_0
  rw [show (0 : Int32) = nI 0 from rfl, f_next_eq F b (by omega), Option.bind_some]
  exact key 64 0 F.1 (by omega) (by omega)
def eaH (n : Nat) (c : Bool) (a b : Int64) : Int64 := oR (fun x => if qb a x then oR (fun y => if qb b y then one (opI c x y) else 0) (2 ^ n) else 0) (2 ^ n)
theorem mp_ea (hn6 : n ≤ 6) (c : Bool) {a b : Int64} (hfb : fits (2 ^ n) b) : mpH n c a b = eaH n c a b := by
  have ha := all_le hn6
  refine qb_ext fun j hj => bool_ext ?_
  unfold mpH eaH
  rw [qb_oRi, qb_oRi]
  constructor
  · rintro ⟨s, hs, q1, q2⟩
    obtain ⟨x, hx, q3, q4⟩ := (qb_oRi _ _ _ _).mp q2
    exact ⟨x, hx, q3, (qb_oRi _ _ _ _).mpr ⟨s, fits_lt hfb q1, q1, q4⟩⟩
  · rintro ⟨s, hs, q1, q2⟩
    obtain ⟨x, hx, q3, q4⟩ := (qb_oRi _ _ _ _).mp q2
    exact ⟨x, by omega, q3, (qb_oRi _ _ _ _).mpr ⟨s, hs, q1, q4⟩⟩
theorem f_each_in {F : Nat × Nat} (hn6 : n ≤ 6) (c : Bool) {x : Nat} (hx : x < 2 ^ n) {a : Int64} (b : Int64) (hq : qb a x = true) (acc : Int64) (k6 : Nat → Int64 → Int64 → Int32 → Int64 → Int32 → Option rx_H → Option (Int64 × Option rx_H)) {f0 : Nat} (hf0 : 2 ^ n < f0) : f_X7_each_18 F k6 f0 40 a b (upI c) acc (nI x) 0 (hp sc X (cm n th mc pk kd td fm pr sz ro tu pe tr as) w g) = k6 40 a b (upI c) (acc ||| oR (fun y => if qb b y then one (opI c x y) else 0) (2 ^ n)) (nI (x + 1)) (hp sc X (cm n th mc pk kd td fm pr sz ro tu pe tr as) w g) := by
  have ha := all_le hn6
  have key : ∀ k  i f, i + k = 2 ^ n → k < f → f_X7_each_18 F k6 f 40 a b (upI c) (acc ||| oR (fun y => if qb b y then one (opI c x y) else 0) i) (nI x) (nI i) (hp sc X (cm n th mc pk kd td fm pr sz ro tu pe tr as) w g) = k6 40 a b (upI c) (acc ||| oR (fun y => if qb b y then one (opI c x y) else 0) (2 ^ n)) (nI (x + 1)) (hp sc X (cm n th mc pk kd td fm pr sz ro tu pe tr as) w g) := by
    intro k
    induction k with
    | zero =>
      intro  i f  hi hf
      obtain ⟨f, rfl⟩ : ∃ g, f = g + 1 := ⟨f - 1, by omega⟩
      obtain rfl : i = 2 ^ n := by omega
      rw [f_X7_each_18, gm_all, Option.bind_some, if_neg (nI_nlt (Nat.le_refl _) (by omega)), nI_1]
    | succ k ih =>
      intro  i f  hi hf
      obtain ⟨f, rfl⟩ : ∃ g, f = g + 1 := ⟨f - 1, by omega⟩
      have hiM : i < 2 ^ n := by omega
      rw [f_X7_each_18, gm_all, Option.bind_some, if_pos (nI_lt hiM (by omega)), f_mhas_eq F _ (by omega), Option.bind_some, hq, bt, if_neg ne10, f_mhas_eq F _ (by omega), Option.bind_some, nI_1, nI_or (by omega) (by omega), nI_and (by omega) (by omega)]
      cases q : qb b i
      · rw [bf, if_pos rfl, oR_f (i := i) acc (by simp only [q]; rfl), ih (i + 1) f (by omega) (by omega)]
      · rw [bt, if_neg ne10]
        cases c
        · rw [if_pos (show upI false = 0 from rfl), oR_t (i := i) acc (by simp only [q]; rfl), ih (i + 1) f (by omega) (by omega)]
        · rw [if_neg (show ¬ upI true = 0 by decide), oR_t (i := i) acc (by simp only [q]; rfl), ih (i + 1) f (by omega) (by omega)]
  have h0 := key (2 ^ n) 0 f0 (by omega) hf0
  rw [show oR (fun y => if qb b y then one (opI c x y) else 0) 0 = 0 from rfl, or_0] at h0
  exact h0
theorem f_each_eq {F : Nat × Nat} (hF : 100000 ≤ F.1) (hn6 : n ≤ 6) (c : Bool) (a b : Int64) : f_X7_each F 40 a b (upI c) (hp sc X (cm n th mc pk kd td fm pr sz ro tu pe tr as) w g) = some (eaH n c a b, (hp sc X (cm n th mc pk kd td fm pr sz ro tu pe tr as) w g)) := by
  have ha := all_le hn6
  have hpos : 0 < 2 ^ n := Nat.two_pow_pos n
  have key : ∀ k  i f, i + k = 2 ^ n → k < f → f_X7_each_6 F f 40 a b (upI c) (oR (fun x => if qb a x then oR (fun y => if qb b y then one (opI c x y) else 0) (2 ^ n) else 0) i) (nI i) (hp sc X (cm n th mc pk kd td fm pr sz ro tu pe tr as) w g) = some (eaH n c a b, (hp sc X (cm n th mc pk kd td fm pr sz ro tu pe tr as) w g)) := by
    intro k
    induction k with
    | zero =>
      intro  i f  hi hf
      obtain ⟨f, rfl⟩ : ∃ g, f = g + 1 := ⟨f - 1, by omega⟩
      obtain rfl : i = 2 ^ n := by omega
      rw [f_X7_each_6, gm_all, Option.bind_some, if_neg (nI_nlt (Nat.le_refl _) (by omega))]
      rfl
    | succ k ih =>
      intro  i f  hi hf
      obtain ⟨f, rfl⟩ : ∃ g, f = g + 1 := ⟨f - 1, by omega⟩
      have hiM : i < 2 ^ n := by omega
      rw [f_X7_each_6, gm_all, Option.bind_some, if_pos (nI_lt hiM (by omega))]
      cases q : qb a i
      · obtain ⟨m, hm⟩ : ∃ m, F.1 = m + 1 := ⟨F.1 - 1, by omega⟩
        rw [hm, f_X7_each_18, gm_all, Option.bind_some, if_pos (show (0 : Int32) < nI (2 ^ n) from nI_lt hpos (by omega)), f_mhas_eq F _ (by omega), Option.bind_some, q, bf, if_pos rfl, nI_1, oR_f0 (i := i) (by simp only [q]; rfl), ih (i + 1) f (by omega) (by omega)]
      · rw [f_each_in hn6 c hiM b q _ _ (by omega), oR_t0 (i := i) (by simp only [q]; rfl), ih (i + 1) f (by omega) (by omega)]
  exact key (2 ^ n) 0 F.1 (by omega) (by omega)
theorem fits_ea (hn6 : n ≤ 6) (c : Bool) (a b : Int64) : fits (2 ^ n) (eaH n c a b) :=
  fits_oR fun x hx => fits_if fun _ => fits_oR fun y hy => fits_if fun _ => fits_one (opI_lt c hx hy) (all_le hn6)
theorem mixed_0 (F : Nat × Nat) (a b : Int64) : f_X0_mixed F a b 0 = some (a &&& b) := rfl
theorem mixed_1 (F : Nat × Nat) (a b : Int64) : f_X0_mixed F a b 1 = some (a ||| b) := rfl
theorem mixed_2 (F : Nat × Nat) (a b : Int64) : f_X0_mixed F a b 2 = some (a &&& (b ^^^ (-1))) := rfl
theorem mixed_3 (F : Nat × Nat) (a b : Int64) : f_X0_mixed F a b 3 = some (a ^^^ b) := rfl
theorem mixed_4 {F : Nat × Nat} (hF : 100000 ≤ F.1) (hn6 : n ≤ 6) {a b : Int64} (hfi : fits (2 ^ n) a) (hfb : fits (2 ^ n) b) : f_X0_mixed F a b 4 = some (eaH n true a b) := by
  show (f_X0_mixedInPairs F a b (upI true)).bind some = _
  rw [f_pairs_eq hF hn6 hfi, mp_ea hn6 _ hfb]; rfl
theorem mixed_5 {F : Nat × Nat} (hF : 100000 ≤ F.1) (hn6 : n ≤ 6) {a b : Int64} (hfi : fits (2 ^ n) a) (hfb : fits (2 ^ n) b) : f_X0_mixed F a b 5 = some (eaH n false a b) := by
  show (f_X0_mixedInPairs F a b (upI false)).bind some = _
  rw [f_pairs_eq hF hn6 hfi, mp_ea hn6 _ hfb]; rfl
theorem how_range {k : Int32} (h1 : ¬ k < 0) (h2 : ¬ 5 < k) : k = 0 ∨ k = 1 ∨ k = 2 ∨ k = 3 ∨ k = 4 ∨ k = 5 := by
  obtain ⟨j, hj, rfl⟩ := nI_of h1
  have h3 : j < 6 := Nat.not_le.mp fun q => h2 (nI_lt (a := 5) (by omega) hj)
  match j, h3 with
  | 0, _ => exact Or.inl rfl
  | 1, _ => exact Or.inr (Or.inl rfl)
  | 2, _ => exact Or.inr (Or.inr (Or.inl rfl))
  | 3, _ => exact Or.inr (Or.inr (Or.inr (Or.inl rfl)))
  | 4, _ => exact Or.inr (Or.inr (Or.inr (Or.inr (Or.inl rfl))))
  | 5, _ => exact Or.inr (Or.inr (Or.inr (Or.inr (Or.inr rfl))))
theorem each_4 {F : Nat × Nat} (hF : 100000 ≤ F.1) (hn6 : n ≤ 6) (a b : Int64) : f_X7_each F 40 a b 1 (hp sc X (cm n th mc pk kd td fm pr sz ro tu pe tr as) w g) = some (eaH n true a b, (hp sc X (cm n th mc pk kd td fm pr sz ro tu pe tr as) w g)) := f_each_eq hF hn6 true a b
theorem each_5 {F : Nat × Nat} (hF : 100000 ≤ F.1) (hn6 : n ≤ 6) (a b : Int64) : f_X7_each F 40 a b 0 (hp sc X (cm n th mc pk kd td fm pr sz ro tu pe tr as) w g) = some (eaH n false a b, (hp sc X (cm n th mc pk kd td fm pr sz ro tu pe tr as) w g)) := f_each_eq hF hn6 false a b
end B64
