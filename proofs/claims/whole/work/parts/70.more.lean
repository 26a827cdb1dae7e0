/-! ===== chain, first, weight ===== -/
theorem oR_tail {h : Nat → Int64} {i : Nat} : ∀ d, (∀ x, i ≤ x → x < i + d → h x = 0) → oR h (i + d) = oR h i
  | 0, _ => rfl
  | d + 1, hh => by
    show oR h (i + d + 1) = _
    rw [oR_succ, hh (i + d) (by omega) (by omega), or_0]
    exact oR_tail d (fun x h1 h2 => hh x h1 (by omega))
def mS (s : Nat) (st : Int32 × Int32) (i : Nat) : Int32 × Int32 := if s.testBit i then (if 0 < st.1 then (st.1 + (-1), st.2 ||| nI (2 ^ i)) else st) else (st.1 + 1, st.2)
def moI (n s : Nat) : Int32 := (fold6 (mS s) (0, 0) 0 n).2
def mo (n s : Nat) : Nat := (moI n s).toNatClampNeg
theorem mo_eq {n s : Nat} (hn : n ≤ 6) (hs : s < 2 ^ n) : moI n s = nI (mo n s) ∧ mo n s < 2 ^ n := by
  have h : ∀ n, n < 7 → ∀ s, s < 2 ^ n → moI n s = nI (mo n s) ∧ mo n s < 2 ^ n := by decide +kernel
  exact h n (by omega) s hs
theorem mo_ct {n s : Nat} (hn : n ≤ 6) (hs : s < 2 ^ n) : (nI n - 2 * nI (pc (mo n s))) + 1 = nI (fb_ct (fun y => decide (mo n y = mo n s)) (2 ^ n)) := by
  have h : ∀ n, n < 7 → ∀ s, s < 2 ^ n → (nI n - 2 * nI (pc (mo n s))) + 1 = nI (fb_ct (fun y => decide (mo n y = mo n s)) (2 ^ n)) := by decide +kernel
  exact h n (by omega) s hs
theorem f_mo_eq {F : Nat × Nat} (hF : 100000 ≤ F.1) {n s : Nat} (hn6 : n ≤ 6) (hs : s < 2 ^ n) : f_X2_matchedOnes F (nI s) (nI n) = some (nI (mo n s)) := by
  have ha := all_le hn6
  have key : ∀ k i f (o m : Int32), i + k = n → k < f → f_X2_matchedOnes_7 F f (nI s) (nI n) o m (nI i) = some ((fold6 (mS s) (o, m) i k).2) := by
    intro k
    induction k with
    | zero =>
      intro i f o m hi hf
      obtain ⟨f, rfl⟩ : ∃ g, f = g + 1 := ⟨f - 1, by omega⟩
      obtain rfl : i = n := by omega
      rw [f_X2_matchedOnes_7, if_neg (nI_nlt (Nat.le_refl _) (by omega))]
      rfl
    | succ k ih =>
      intro i f o m hi hf
      obtain ⟨f, rfl⟩ : ∃ g, f = g + 1 := ⟨f - 1, by omega⟩
      rw [f_X2_matchedOnes_7, if_pos (nI_lt (by omega) (by omega)), bitI (by omega) (by omega), fold6, nI_1 i, sh_eq (by omega)]
      cases hb : s.testBit i
      · rw [bf, if_pos rfl, ih (i + 1) f _ _ (by omega) (by omega)]
        unfold mS
        simp only [hb]
        rfl
      · rw [bt, if_neg ne10]
        by_cases ho : 0 < o
        · rw [if_pos ho, ih (i + 1) f _ _ (by omega) (by omega), show mS s (o, m) i = (o + (-1), m ||| nI (2 ^ i)) by unfold mS; simp only [hb, if_true, if_pos ho]]
        · rw [if_neg ho, ih (i + 1) f _ _ (by omega) (by omega), show mS s (o, m) i = (o, m) by unfold mS; simp only [hb, if_true, if_neg ho]]
  rw [← (mo_eq hn6 hs).1]
  exact key n 0 F.1 0 0 (by omega) (by omega)
theorem mo_iff {n y b : Nat} (hn6 : n ≤ 6) (hy : y < 2 ^ n) (hb : b < 2 ^ n) : nI (mo n y) = nI b ↔ mo n y = b := by
  have ha := all_le hn6
  have := (mo_eq hn6 hy).2
  exact nI_eq (by omega) (by omega)
theorem f_pow2 {F : Nat × Nat} (hF : 100000 ≤ F.1) {a k0 : Nat} (ha : a < 10) (hk : k0 < 7) : f_X2_power F (nI a) (nI k0) = some (lN (a ^ k0)) := by
  have key : ∀ k  i f, i + k = k0 → k < f → f_X2_power_5 F f (nI a) (nI k0) (lN (a ^ i)) (nI i) = some (lN (a ^ k0)) := by
    intro k
    induction k with
    | zero =>
      intro  i f  hi hf
      obtain ⟨f, rfl⟩ : ∃ g, f = g + 1 := ⟨f - 1, by omega⟩
      obtain rfl : i = k0 := by omega
      rw [f_X2_power_5, if_neg (nI_nlt (Nat.le_refl _) (by omega))]
    | succ k ih =>
      intro  i f  hi hf
      obtain ⟨f, rfl⟩ : ∃ g, f = g + 1 := ⟨f - 1, by omega⟩
      have hiM : i < k0 := by omega
      rw [f_X2_power_5, if_pos (nI_lt hiM (by omega)), nI_l (by omega), lN_mul, nI_1, ← Nat.pow_succ]
      exact ih (i + 1) f (by omega) (by omega)
  exact key k0 0 F.1 (by omega) (by omega)
theorem f_pow7 {F : Nat × Nat} (hF : 100000 ≤ F.1) {a k0 : Nat} (ha : a < 10) (hk : k0 < 7) : f_X7_power F (nI a) (nI k0) = some (lN (a ^ k0)) := by
  have key : ∀ k  i f, i + k = k0 → k < f → f_X7_power_5 F f (nI a) (nI k0) (lN (a ^ i)) (nI i) = some (lN (a ^ k0)) := by
    intro k
    induction k with
    | zero =>
      intro  i f  hi hf
      obtain ⟨f, rfl⟩ : ∃ g, f = g + 1 := ⟨f - 1, by omega⟩
      obtain rfl : i = k0 := by omega
      rw [f_X7_power_5, if_neg (nI_nlt (Nat.le_refl _) (by omega))]
    | succ k ih =>
      intro  i f  hi hf
      obtain ⟨f, rfl⟩ : ∃ g, f = g + 1 := ⟨f - 1, by omega⟩
      have hiM : i < k0 := by omega
      rw [f_X7_power_5, if_pos (nI_lt hiM (by omega)), nI_l (by omega), lN_mul, nI_1, ← Nat.pow_succ]
      exact ih (i + 1) f (by omega) (by omega)
  exact key k0 0 F.1 (by omega) (by omega)
section B70
variable {sc : Nat × (Nat → Int32)} {n : Nat} {cl : Int32} {P : Nat → PL} {ly : Nat → Int64} {sp st : Nat → Int32} {sk : Int32} {sd : Nat → Int32} {sm : Nat → Int64} {X M : Nat → rx_C} {w : Nat → Int64} {g : List rx_C} {th mc pk : Int32} {kd td : Nat → Int32} {fm pr : Nat → Int64} {sz : Nat → Int32} {ro : Nat → Int64} {tu pe tr : Nat → Int32} {as : Nat → Int64}
theorem f_mmo_eq {F : Nat × Nat} (hF : 100000 ≤ F.1) {s : Nat} (hn6 : n ≤ 6) (hs : s < 2 ^ n) : f_X7_chainFirst F 40 (nI s) (hp sc X (cm n th mc pk kd td fm pr sz ro tu pe tr as) w g) = some (nI (mo n s), (hp sc X (cm n th mc pk kd td fm pr sz ro tu pe tr as) w g)) := by
  have ha := all_le hn6
  have key : ∀ k i f (o m : Int32), i + k = n → k < f → f_X7_chainFirst_7 F f 40 (nI s) m o (nI i) (hp sc X (cm n th mc pk kd td fm pr sz ro tu pe tr as) w g) = some ((fold6 (mS s) (o, m) i k).2, (hp sc X (cm n th mc pk kd td fm pr sz ro tu pe tr as) w g)) := by
    intro k
    induction k with
    | zero =>
      intro i f o m hi hf
      obtain ⟨f, rfl⟩ : ∃ g, f = g + 1 := ⟨f - 1, by omega⟩
      obtain rfl : i = n := by omega
      rw [f_X7_chainFirst_7, gm_n, Option.bind_some, if_neg (nI_nlt (Nat.le_refl _) (by omega))]
      rfl
    | succ k ih =>
      intro i f o m hi hf
      obtain ⟨f, rfl⟩ : ∃ g, f = g + 1 := ⟨f - 1, by omega⟩
      rw [f_X7_chainFirst_7, gm_n, Option.bind_some, if_pos (nI_lt (by omega) (by omega)), bitI (by omega) (by omega), fold6, nI_1 i, sh_eq (by omega)]
      cases hb : s.testBit i
      · rw [bf, if_pos rfl, ih (i + 1) f _ _ (by omega) (by omega)]
        unfold mS
        simp only [hb]
        rfl
      · rw [bt, if_neg ne10]
        by_cases ho : 0 < o
        · rw [if_pos ho, ih (i + 1) f _ _ (by omega) (by omega), show mS s (o, m) i = (o + (-1), m ||| nI (2 ^ i)) by unfold mS; simp only [hb, if_true, if_pos ho]]
        · rw [if_neg ho, ih (i + 1) f _ _ (by omega) (by omega), show mS s (o, m) i = (o, m) by unfold mS; simp only [hb, if_true, if_neg ho]]
  rw [← (mo_eq hn6 hs).1]
  exact key n 0 F.1 0 0 (by omega) (by omega)
theorem f_cchain {F : Nat × Nat} (hF : 100000 ≤ F.1) (hn6 : n ≤ 6) {b : Nat} (hb : b < 2 ^ n) : f_X6_chain_60 F F.1 0 (nI b) 0 0 (hp sc (cx n cl P ly sp st sk sd sm) M w g) = some (nI (fb_ct (fun y => decide (mo n y = y)) b), (hp sc (cx n cl P ly sp st sk sd sm) M w g)) := by
  have ha := all_le hn6
  have key : ∀ k  i f, i + k = b → k < f → f_X6_chain_60 F f 0 (nI b) (nI (fb_ct (fun y => decide (mo n y = y)) i)) (nI i) (hp sc (cx n cl P ly sp st sk sd sm) M w g) = some (nI (fb_ct (fun y => decide (mo n y = y)) b), (hp sc (cx n cl P ly sp st sk sd sm) M w g)) := by
    intro k
    induction k with
    | zero =>
      intro  i f  hi hf
      obtain ⟨f, rfl⟩ : ∃ g, f = g + 1 := ⟨f - 1, by omega⟩
      obtain rfl : i = b := by omega
      rw [f_X6_chain_60, if_neg (nI_nlt (Nat.le_refl _) (by omega))]
    | succ k ih =>
      intro  i f  hi hf
      obtain ⟨f, rfl⟩ : ∃ g, f = g + 1 := ⟨f - 1, by omega⟩
      have hiM : i < b := by omega
      rw [f_X6_chain_60, if_pos (nI_lt hiM (by omega)), gx_n, Option.bind_some, f_mo_eq hF hn6 (by omega), Option.bind_some, nI_1 i]
      by_cases e : mo n i = i
      · rw [if_pos (by rw [e]), nI_ct1 (c := fun y => decide (mo n y = y)) (i := i) (decide_eq_true e), ih (i + 1) f (by omega) (by omega)]
      · rw [if_neg (fun h => e ((mo_iff hn6 (by omega) (by omega)).mp h)), nI_ct0 (c := fun y => decide (mo n y = y)) (i := i) (decide_eq_false e), ih (i + 1) f (by omega) (by omega)]
  exact key b 0 F.1 (by omega) (by omega)
theorem f_mchain0 {F : Nat × Nat} (hF : 100000 ≤ F.1) (hn6 : n ≤ 6) {b : Nat} (hb : b < 2 ^ n) : f_X7_chain_38 F F.1 40 (nI 0) (nI b) 0 0 (hp sc X (cm n th mc pk kd td fm pr sz ro tu pe tr as) w g) = some (nI (fb_ct (fun y => decide (mo n y = y)) b), (hp sc X (cm n th mc pk kd td fm pr sz ro tu pe tr as) w g)) := by
  have ha := all_le hn6
  have e0 : fb_ct (fun y => decide (mo n y = y)) b = fb_ct (fun y => decide (y < b) && decide (mo n y = y)) (2 ^ n) := by
    rw [ct_fit (c := fun y => decide (y < b) && decide (mo n y = y)) (Nat.le_of_lt hb) (fun j hj => by simp only [decide_eq_false (show ¬ j < b by omega)]; rfl)]
    exact fb_ct_cong fun j hj => by simp only [decide_eq_true hj]; rfl
  rw [e0]
  have key : ∀ k  i f, i + k = 2 ^ n → k < f → f_X7_chain_38 F f 40 (nI 0) (nI b) (nI (fb_ct (fun y => decide (y < b) && decide (mo n y = y)) i)) (nI i) (hp sc X (cm n th mc pk kd td fm pr sz ro tu pe tr as) w g) = some (nI (fb_ct (fun y => decide (y < b) && decide (mo n y = y)) (2 ^ n)), (hp sc X (cm n th mc pk kd td fm pr sz ro tu pe tr as) w g)) := by
    intro k
    induction k with
    | zero =>
      intro  i f  hi hf
      obtain ⟨f, rfl⟩ : ∃ g, f = g + 1 := ⟨f - 1, by omega⟩
      obtain rfl : i = 2 ^ n := by omega
      rw [f_X7_chain_38, gm_all, Option.bind_some, if_neg (nI_nlt (Nat.le_refl _) (by omega))]
    | succ k ih =>
      intro  i f  hi hf
      obtain ⟨f, rfl⟩ : ∃ g, f = g + 1 := ⟨f - 1, by omega⟩
      have hiM : i < 2 ^ n := by omega
      rw [f_X7_chain_38, gm_all, Option.bind_some, if_pos (nI_lt hiM (by omega)), if_neg (show ¬ nI 0 = 2 by decide), nI_1 i]
      by_cases e1 : i < b
      · rw [if_pos (nI_lt e1 (by omega)), ck_40, Option.bind_some, f_mmo_eq hF hn6 hiM, Option.bind_some]
        by_cases e : mo n i = i
        · rw [if_pos (by rw [e]), nI_ct1 (c := fun y => decide (y < b) && decide (mo n y = y)) (i := i) (by simp [e, e1]), ih (i + 1) f (by omega) (by omega)]
        · rw [if_neg (fun h => e ((mo_iff hn6 (by omega) (by omega)).mp h)), nI_ct0 (c := fun y => decide (y < b) && decide (mo n y = y)) (i := i) (by simp [e]), ih (i + 1) f (by omega) (by omega)]
      · rw [if_neg (nI_nlt (by omega) (by omega)), nI_ct0 (c := fun y => decide (y < b) && decide (mo n y = y)) (i := i) (by simp [e1]), ih (i + 1) f (by omega) (by omega)]
  exact key (2 ^ n) 0 F.1 (by omega) (by omega)
theorem f_mchain2 {F : Nat × Nat} (hF : 100000 ≤ F.1) (hn6 : n ≤ 6) {b : Nat} (hb : b < 2 ^ n) : f_X7_chain_38 F F.1 40 (nI 2) (nI b) 0 0 (hp sc X (cm n th mc pk kd td fm pr sz ro tu pe tr as) w g) = some (nI (fb_ct (fun y => decide (mo n y = b)) (2 ^ n)), (hp sc X (cm n th mc pk kd td fm pr sz ro tu pe tr as) w g)) := by
  have ha := all_le hn6
  have key : ∀ k  i f, i + k = 2 ^ n → k < f → f_X7_chain_38 F f 40 (nI 2) (nI b) (nI (fb_ct (fun y => decide (mo n y = b)) i)) (nI i) (hp sc X (cm n th mc pk kd td fm pr sz ro tu pe tr as) w g) = some (nI (fb_ct (fun y => decide (mo n y = b)) (2 ^ n)), (hp sc X (cm n th mc pk kd td fm pr sz ro tu pe tr as) w g)) := by
    intro k
    induction k with
    | zero =>
      intro  i f  hi hf
      obtain ⟨f, rfl⟩ : ∃ g, f = g + 1 := ⟨f - 1, by omega⟩
      obtain rfl : i = 2 ^ n := by omega
      rw [f_X7_chain_38, gm_all, Option.bind_some, if_neg (nI_nlt (Nat.le_refl _) (by omega))]
    | succ k ih =>
      intro  i f  hi hf
      obtain ⟨f, rfl⟩ : ∃ g, f = g + 1 := ⟨f - 1, by omega⟩
      have hiM : i < 2 ^ n := by omega
      rw [f_X7_chain_38, gm_all, Option.bind_some, if_pos (nI_lt hiM (by omega)), if_pos (show nI 2 = 2 from rfl), ck_40, Option.bind_some, f_mmo_eq hF hn6 hiM, Option.bind_some, nI_1 i]
      by_cases e : mo n i = b
      · rw [if_pos (by rw [e]), nI_ct1 (c := fun y => decide (mo n y = b)) (i := i) (decide_eq_true e), ih (i + 1) f (by omega) (by omega)]
      · rw [if_neg (fun h => e ((mo_iff hn6 (by omega) (by omega)).mp h)), nI_ct0 (c := fun y => decide (mo n y = b)) (i := i) (decide_eq_false e), ih (i + 1) f (by omega) (by omega)]
  exact key (2 ^ n) 0 F.1 (by omega) (by omega)
/-! first -/
def fiC (m0 m x : Nat) : Bool := isL m0 x && decide (fb_ct (isL m0) x < m)
def fiH (n m0 m : Nat) : Int64 := oR (fun x => if fiC m0 m x then one x else 0) (2 ^ n)
theorem fits_fi (hn6 : n ≤ 6) (m0 m : Nat) : fits (2 ^ n) (fiH n m0 m) := fits_oR fun x hx => fits_if fun _ => fits_one hx (all_le hn6)
theorem kinv_fi (hn6 : n ≤ 6) (m0 m : Nat) : kinv 4 m0 (fiH n m0 m) 0 := kinv_layer 0 fun x hx => by
  unfold fiH at hx
  rw [qb_oRc _ (all_le hn6), Bool.and_eq_true] at hx
  have := hx.2
  unfold fiC isL at this
  rw [Bool.and_eq_true] at this
  exact of_decide_eq_true this.1
theorem f_mfirst_loop {F : Nat × Nat} (hF : 100000 ≤ F.1) (hn6 : n ≤ 6) {q m0 m : Nat} (hq_ : q < 16) (hm0 : m0 < 7) (hm : m < 2 ^ 31) : f_X7_first_34 F F.1 40 (nI m0) (nI q) 0 (nI m) 0 (hp sc X (cm n th mc pk kd td fm pr sz ro tu pe tr as) w g) = if m ≤ fb_ct (isL m0) (2 ^ n) then some (nI (fb_ct (qb (fiH n m0 m)) 64), hp sc X (cm n th mc pk (upd kd q 4) (upd td q (nI m0)) (vp_updL fm q (fiH n m0 m)) (vp_updL pr q 0) sz ro tu pe tr as) w g) else some (-1, (hp sc X (cm n th mc pk kd td fm pr sz ro tu pe tr as) w g)) := by
  have ha := all_le hn6
  have key : ∀ k i f, fb_ct (isL m0) i ≤ m → i + k = 2 ^ n → k < f → f_X7_first_34 F f 40 (nI m0) (nI q) (oR (fun x => if fiC m0 m x then one x else 0) i) (nI (m - fb_ct (isL m0) i)) (nI i) (hp sc X (cm n th mc pk kd td fm pr sz ro tu pe tr as) w g) = if m ≤ fb_ct (isL m0) (2 ^ n) then some (nI (fb_ct (qb (fiH n m0 m)) 64), hp sc X (cm n th mc pk (upd kd q 4) (upd td q (nI m0)) (vp_updL fm q (fiH n m0 m)) (vp_updL pr q 0) sz ro tu pe tr as) w g) else some (-1, (hp sc X (cm n th mc pk kd td fm pr sz ro tu pe tr as) w g)) := by
    intro k
    induction k with
    | zero =>
      intro i f hd hi hf
      obtain ⟨f, rfl⟩ : ∃ g, f = g + 1 := ⟨f - 1, by omega⟩
      obtain rfl : i = 2 ^ n := by omega
      rw [f_X7_first_34, gm_all, Option.bind_some, if_neg (nI_nlt (Nat.le_refl _) (by omega)), f_X7_first_78]
      by_cases h : m ≤ fb_ct (isL m0) (2 ^ n)
      · rw [if_pos h, show m - fb_ct (isL m0) (2 ^ n) = 0 by omega, if_neg (show ¬ (0 : Int32) < nI 0 by decide), ck_40, Option.bind_some, f_holdsNow_eq (by omega) hq_, Option.bind_some]
        rfl
      · rw [if_neg h, if_pos (show (0 : Int32) < nI (m - fb_ct (isL m0) (2 ^ n)) from nI_lt (a := 0) (by omega) (by omega))]
    | succ k ih =>
      intro i f hd hi hf
      obtain ⟨f, rfl⟩ : ∃ g, f = g + 1 := ⟨f - 1, by omega⟩
      have hpi := pc_le i
      have hs := fb_ct_succ (isL m0) i
      rw [f_X7_first_34, gm_all, Option.bind_some, if_pos (nI_lt (by omega) (by omega))]
      by_cases h : fb_ct (isL m0) i < m
      · rw [if_pos (show (0 : Int32) < nI (m - fb_ct (isL m0) i) from nI_lt (a := 0) (by omega) (by omega)), f_ones_eq (by omega) (by omega), Option.bind_some, nI_1 i]
        by_cases e : pc i = m0
        · have ql : isL m0 i = true := decide_eq_true e
          rw [ql] at hs
          simp only [if_true] at hs
          obtain ⟨z, hz⟩ : ∃ z, m - fb_ct (isL m0) i = z + 1 := ⟨m - fb_ct (isL m0) i - 1, by omega⟩
          rw [if_pos (by rw [e]), oR_t0 (i := i) (by simp only [fiC, ql, decide_eq_true h]; rfl), hz, pk_m1, show z = m - fb_ct (isL m0) (i + 1) by omega]
          exact ih (i + 1) f (by omega) (by omega) (by omega)
        · have ql : isL m0 i = false := decide_eq_false e
          rw [ql] at hs
          simp at hs
          rw [if_neg (fun h => e ((nI_eq (by omega) (by omega)).mp h)), oR_f0 (i := i) (by simp only [fiC, ql]; rfl), ← hs]
          exact ih (i + 1) f (by omega) (by omega) (by omega)
      · have hm2 := fb_ct_mono (isL m0) (show i ≤ 2 ^ n by omega)
        have e2 : oR (fun x => if fiC m0 m x then one x else 0) i = fiH n m0 m := by
          unfold fiH
          rw [← hi]
          exact (oR_tail (k + 1) (fun x h1 h2 => by
            have := fb_ct_mono (isL m0) h1
            simp only [fiC, decide_eq_false (show ¬ fb_ct (isL m0) x < m by omega), Bool.and_false]
            rfl)).symm
        rw [if_pos (show m ≤ fb_ct (isL m0) (2 ^ n) by omega), show m - fb_ct (isL m0) i = 0 by omega, if_neg (show ¬ (0 : Int32) < nI 0 by decide), f_X7_first_78, if_neg (show ¬ (0 : Int32) < nI 0 by decide), ck_40, Option.bind_some, f_holdsNow_eq (by omega) hq_, Option.bind_some, e2]
  exact key (2 ^ n) 0 F.1 (Nat.zero_le _) (by omega) (by omega)
theorem first_cls {F : Nat × Nat} (hF : 100000 ≤ F.1) (hn6 : n ≤ 6) {q m0 m : Nat} (hq_ : q < 16) (hm0 : m0 < 7) (hm : m < 2 ^ 31) (hly : ∀ k, k < 7 → ly k = lyr n k) (hle : m ≤ fb_ct (isL m0) (2 ^ n)) : (if nI m = 0 then f_X6_first_57 F 0 (nI m0) (nI q) 0 (hp sc (cx n cl P ly sp st sk sd sm) M w g) else (f_X0_setAt F (lyr n m0) (nI m - 1)).bind fun v8 => f_X6_first_57 F 0 (nI m0) (nI q) (v8 + 1) (hp sc (cx n cl P ly sp st sk sd sm) M w g)) = some (nI (fb_ct (qb (fiH n m0 m)) 64), hp sc (cx n cl (updP P q (4, nI m0, fiH n m0 m, 0, (P q).2.2.2.2)) ly sp st sk sd sm) M w g) := by
  have ha := all_le hn6
  have fin : ∀ e, e ≤ 64 → (∀ j, j < 2 ^ n → isL m0 j = true → (j < e ↔ fb_ct (isL m0) j < m)) → f_X6_first_57 F 0 (nI m0) (nI q) (nI e) (hp sc (cx n cl P ly sp st sk sd sm) M w g) = some (nI (fb_ct (qb (fiH n m0 m)) 64), hp sc (cx n cl (updP P q (4, nI m0, fiH n m0 m, 0, (P q).2.2.2.2)) ly sp st sk sd sm) M w g) := by
    intro e he hh
    obtain ⟨mk, e1, e2⟩ := f_below_eq F (s := e) he
    have e3 : lyr n m0 &&& mk = fiH n m0 m := by
      refine qb_ext fun j hj => ?_
      unfold fiH
      rw [qb_and, qb_lyr hn6, e2 j hj, qb_oRc _ ha]
      by_cases hjn : j < 2 ^ n
      · unfold fiC
        cases ql : isL m0 j
        · unfold isL at ql
          rw [ql, Bool.and_false]
          simp
        · have := hh j hjn ql
          unfold isL at ql
          rw [ql]
          by_cases hj2 : j < e
          · rw [decide_eq_true hjn, decide_eq_true hj2, decide_eq_true (this.mp hj2)]; rfl
          · rw [decide_eq_true hjn, decide_eq_false hj2, decide_eq_false (fun h => hj2 (this.mpr h))]; rfl
      · rw [decide_eq_false hjn]; rfl
    unfold f_X6_first_57
    rw [gx_lay, Option.bind_some, ax_ly hm0, Option.bind_some, e1, Option.bind_some, ck_0, Option.bind_some, hly m0 hm0, e3, f_keep_eq F hq_, Option.bind_some]
  by_cases h0 : m = 0
  · subst h0
    rw [if_pos (show nI 0 = 0 from rfl)]
    exact fin 0 (by omega) (fun j _ _ => by omega)
  · rw [if_neg (nI_ne0 (by omega) hm), show (1 : Int32) = nI 1 from rfl, pk_sub (by omega), f_setAt_eq hF _ (by omega), sa_lyr hn6, Option.bind_some]
    obtain ⟨e, he1, he2, he3⟩ := fb_ct_kth (p := isL m0) (k := m - 1) (n := 2 ^ n) (by omega)
    rw [sa_spec he2 (2 ^ n) (m - 1) 0 (Nat.zero_le _) (by omega) (by rw [he3]; show _ = 0 + _; omega), nI_add]
    refine fin (e + 1) (by omega) (fun j hj hl => ?_)
    constructor
    · intro h
      have := fb_ct_mono (isL m0) (show j ≤ e by omega)
      omega
    · intro h
      false_or_by_contra
      rename_i hn
      have h1 := fb_ct_mono (isL m0) (show e + 1 ≤ j by omega)
      have h2 := fb_ct_succ (isL m0) e
      rw [he2] at h2
      simp only [if_true] at h2
      omega
/-! weight -/
def gW (n a b k : Nat) : Nat := a ^ k * (b - a) ^ (n - k)
theorem f_cweight_loop {F : Nat × Nat} (hF : 100000 ≤ F.1) (hn6 : n ≤ 6) {p a b : Nat} (hp_ : p < 16) (hb : b < 10) (hab : a ≤ b) (hly : ∀ k, k < 7 → ly k = lyr n k) : f_X6_weight_47 F F.1 0 (nI p) (nI a) (nI b) 0 0 (hp sc (cx n cl P ly sp st sk sd sm) M w g) = some (lN (fb_sm (fun k => fb_ct (fun x => qb (P p).2.2.1 x && isL k x) (2 ^ n) * gW n a b k) (n + 1)), (hp sc (cx n cl P ly sp st sk sd sm) M w g)) := by
  have ha := all_le hn6
  have key : ∀ k  i f, i + k = n + 1 → k < f → f_X6_weight_47 F f 0 (nI p) (nI a) (nI b) (lN (fb_sm (fun k => fb_ct (fun x => qb (P p).2.2.1 x && isL k x) (2 ^ n) * gW n a b k) i)) (nI i) (hp sc (cx n cl P ly sp st sk sd sm) M w g) = some (lN (fb_sm (fun k => fb_ct (fun x => qb (P p).2.2.1 x && isL k x) (2 ^ n) * gW n a b k) (n + 1)), (hp sc (cx n cl P ly sp st sk sd sm) M w g)) := by
    intro k
    induction k with
    | zero =>
      intro  i f  hi hf
      obtain ⟨f, rfl⟩ : ∃ g, f = g + 1 := ⟨f - 1, by omega⟩
      obtain rfl : i = n + 1 := by omega
      rw [f_X6_weight_47, gx_n, Option.bind_some, if_pos (nI_lt (by omega) (by omega))]
    | succ k ih =>
      intro  i f  hi hf
      obtain ⟨f, rfl⟩ : ∃ g, f = g + 1 := ⟨f - 1, by omega⟩
      have hiM : i < n + 1 := by omega
      have hct := fb_ct_le (fun x => qb (P p).2.2.1 x && isL i x) (2 ^ n)
      rw [f_X6_weight_47, gx_n, Option.bind_some, if_neg (nI_nlt (by omega) (by omega)), gx_shelf, Option.bind_some, ax_shelf hp_, Option.bind_some, gp_se hp_, Option.bind_some, gx_lay, Option.bind_some, ax_ly (by omega), Option.bind_some, hly i (by omega), f_size_eq, Option.bind_some, ct_lay hn6, f_pow2 hF (by omega) (by omega), Option.bind_some, Option.bind_some, pk_sub (by omega), pk_sub (by omega), f_pow2 hF (by omega) (by omega), Option.bind_some, nI_l (by omega), lN_mul, lN_mul, lN_add, nI_1, Nat.mul_assoc]
      exact ih (i + 1) f (by omega) (by omega)
  exact key (n + 1) 0 F.1 (by omega) (by omega)
theorem l_add_0 (x : Int64) : x + 0 = x := by simp
theorem f_mweight_loop {F : Nat × Nat} (hF : 100000 ≤ F.1) (hn6 : n ≤ 6) {p a b : Nat} (hp_ : p < 16) (hb : b < 10) (hab : a ≤ b) : f_X7_weight_51 F F.1 40 (nI p) (nI a) (nI b) 0 0 (hp sc X (cm n th mc pk kd td fm pr sz ro tu pe tr as) w g) = some (lN (fb_sm (fun x => if qb (fm p) x then gW n a b (pc x) else 0) (2 ^ n)), (hp sc X (cm n th mc pk kd td fm pr sz ro tu pe tr as) w g)) := by
  have ha := all_le hn6
  have key : ∀ k  i f, i + k = 2 ^ n → k < f → f_X7_weight_51 F f 40 (nI p) (nI a) (nI b) (lN (fb_sm (fun x => if qb (fm p) x then gW n a b (pc x) else 0) i)) (nI i) (hp sc X (cm n th mc pk kd td fm pr sz ro tu pe tr as) w g) = some (lN (fb_sm (fun x => if qb (fm p) x then gW n a b (pc x) else 0) (2 ^ n)), (hp sc X (cm n th mc pk kd td fm pr sz ro tu pe tr as) w g)) := by
    intro k
    induction k with
    | zero =>
      intro  i f  hi hf
      obtain ⟨f, rfl⟩ : ∃ g, f = g + 1 := ⟨f - 1, by omega⟩
      obtain rfl : i = 2 ^ n := by omega
      rw [f_X7_weight_51, gm_all, Option.bind_some, if_neg (nI_nlt (Nat.le_refl _) (by omega))]
    | succ k ih =>
      intro  i f  hi hf
      obtain ⟨f, rfl⟩ : ∃ g, f = g + 1 := ⟨f - 1, by omega⟩
      have hiM : i < 2 ^ n := by omega
      have hpi := pc_le i
      have hpn := pc_n hn6 hiM
      rw [f_X7_weight_51, gm_all, Option.bind_some, if_pos (nI_lt hiM (by omega)), gm_fm, Option.bind_some, am_fm hp_, Option.bind_some, f_mhas_eq F _ (by omega), Option.bind_some, nI_1 i]
      have hs := fb_sm_succ (fun x => if qb (fm p) x then gW n a b (pc x) else 0) i
      cases q : qb (fm p) i
      · rw [bf, if_pos rfl, ← ih (i + 1) f (by omega) (by omega), hs]
        simp only [q]
        rfl
      · rw [bt, if_neg ne10, f_ones_eq (by omega) (by omega), Option.bind_some, f_pow7 hF (by omega) (by omega), Option.bind_some, gm_n, Option.bind_some, Option.bind_some, pk_sub (by omega), pk_sub (by omega), f_pow7 hF (by omega) (by omega), Option.bind_some, lN_mul, lN_add, ← ih (i + 1) f (by omega) (by omega), hs]
        simp only [q]
        rfl
  exact key (2 ^ n) 0 F.1 (by omega) (by omega)
end B70
/-- one call with a long for an answer -/
def stepJ (sc : Nat × (Nat → Int32)) (c : Nat) (fx fm : Option rx_H → Option (Int64 × Option rx_H)) : Prop := ∀ u, okH sc c u → ∃ (r : Int64) (X M : Nat → rx_C) (w : Nat → Int64) (g : List rx_C) (u2 : Option rx_H), fx u = some (r, hp sc X M w g) ∧ rx_ck (hp sc X M w g) 40 3 = some () ∧ fm (hp sc X M w g) = some (r, u2) ∧ okH sc (c + 1) u2
theorem stepJ.mk {sc : Nat × (Nat → Int32)} {c : Nat} {fx fy : Option rx_H → Option (Int64 × Option rx_H)}
    (h : ∀ (n : Nat) (cl : Int32) (P : Nat → PL) (ly : Nat → Int64) (sp st : Nat → Int32) (sk : Int32) (sd : Nat → Int32) (sm : Nat → Int64) (th mc pk : Int32) (kd td : Nat → Int32) (fm pr : Nat → Int64) (sz : Nat → Int32) (ro : Nat → Int64) (tu pe tr : Nat → Int32) (as : Nat → Int64) (w : Nat → Int64) (g : List rx_C),
      relR n cl P ly sp sk sm mc pk kd td fm pr sz ro pe →
      ∃ (r : Int64), fx (hp sc (cx n cl P ly sp st sk sd sm) (cm n th mc pk kd td fm pr sz ro tu pe tr as) w g) = some (r, (hp sc (cx n cl P ly sp st sk sd sm) (cm n th mc pk kd td fm pr sz ro tu pe tr as) w g)) ∧ fy (hp sc (cx n cl P ly sp st sk sd sm) (cm n th mc pk kd td fm pr sz ro tu pe tr as) w g) = some (r, (hp sc (cx n cl P ly sp st sk sd sm) (cm n th mc pk kd td fm pr sz ro tu pe tr as) w g))) : stepJ sc c fx fy := by
  rintro u ⟨n, cl, P, ly, sp, st, sk, sd, sm, th, mc, pk, kd, td, fm, pr, sz, ro, tu, pe, tr, as, w, g, rfl, hR, hg, hx⟩
  obtain ⟨r, e1, e2⟩ := h n cl P ly sp st sk sd sm th mc pk kd td fm pr sz ro tu pe tr as w g hR
  exact ⟨r, _, _, w, g, _, e1, ck_40, e2, n, cl, P, ly, sp, st, sk, sd, sm, th, mc, pk, kd, td, fm, pr, sz, ro, tu, pe, tr, as, w, g, rfl, hR, by omega, hx⟩
