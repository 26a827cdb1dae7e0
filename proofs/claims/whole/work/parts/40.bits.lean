/-! ===== Families by their bits ===== -/
def qb (w : Int64) (j : Nat) : Bool := w.toBitVec.getLsbD j
theorem qb_ext {x y : Int64} (h : ∀ j, j < 64 → qb x j = qb y j) : x = y := Int64.toBitVec_inj.mp (BitVec.eq_of_getLsbD_eq (fun i hi => h i hi))
theorem qb_big {x : Int64} {j : Nat} (h : 64 ≤ j) : qb x j = false := BitVec.getLsbD_of_ge _ _ h
theorem qb_lt {x : Int64} {j : Nat} (h : qb x j = true) : j < 64 := Nat.not_le.mp fun q => by rw [qb_big q] at h; cases h
theorem qb_or (x y : Int64) (j : Nat) : qb (x ||| y) j = (qb x j || qb y j) := by unfold qb; rw [Int64.toBitVec_or, BitVec.getLsbD_or]
theorem qb_and (x y : Int64) (j : Nat) : qb (x &&& y) j = (qb x j && qb y j) := by unfold qb; rw [Int64.toBitVec_and, BitVec.getLsbD_and]
theorem qb_xor (x y : Int64) (j : Nat) : qb (x ^^^ y) j = (qb x j ^^ qb y j) := by unfold qb; rw [Int64.toBitVec_xor, BitVec.getLsbD_xor]
theorem qb_0 (j : Nat) : qb 0 j = false := BitVec.getLsbD_zero
theorem qb_m1 {j : Nat} (h : j < 64) : qb (-1) j = true := by
  have : ∀ j, j < 64 → qb (-1) j = true := by decide +kernel
  exact this j h
theorem qb_not (x : Int64) {j : Nat} (h : j < 64) : qb (x ^^^ (-1)) j = !qb x j := by rw [qb_xor, qb_m1 h]; cases qb x j <;> rfl
theorem qb_c : ∀ k, k < 64 → ((nI k).toInt64 &&& 63) = lN k := by decide +kernel
theorem qb_cu : ∀ k, k < 64 → ((nI k).toInt64.toUInt64 &&& Int64.toUInt64 63) = UInt64.ofNat k := by decide +kernel
theorem qb_sm : ∀ k, k < 64 → ((lN k).toBitVec.smod 64).toNat = k := by decide +kernel
theorem qb_shl (x : Int64) {k : Nat} (hk : k < 64) {j : Nat} (hj : j < 64) : qb (x <<< ((nI k).toInt64 &&& 63)) j = (decide (k ≤ j) && qb x (j - k)) := by
  rw [qb_c k hk]
  unfold qb
  rw [Int64.toBitVec_shiftLeft, BitVec.shiftLeft_eq', BitVec.getLsbD_shiftLeft, qb_sm k hk]
  by_cases h : j < k
  · simp [h, hj, Nat.not_le.mpr h]
  · simp [h, hj, Nat.not_lt.mp h]
theorem qb_un : ∀ k, k < 64 → (UInt64.ofNat k).toBitVec.toNat % 64 = k := by decide +kernel
theorem qb_shr (x : Int64) {k : Nat} (hk : k < 64) (j : Nat) : qb ((Int64.toUInt64 x >>> ((nI k).toInt64.toUInt64 &&& Int64.toUInt64 63)).toInt64) j = qb x (k + j) := by
  rw [qb_cu k hk]
  show (x.toUInt64 >>> UInt64.ofNat k).toBitVec.getLsbD j = _
  have hm : ((UInt64.ofNat k).toBitVec % 64).toNat = k := by rw [BitVec.toNat_umod]; exact qb_un k hk
  rw [UInt64.toBitVec_shiftRight, BitVec.ushiftRight_eq', hm, BitVec.getLsbD_ushiftRight]
  rfl
theorem qb_one {k : Nat} (hk : k < 64) (j : Nat) : qb ((1 : Int64) <<< ((nI k).toInt64 &&& 63)) j = decide (j = k) := by
  by_cases hj : j < 64
  · have : ∀ k, k < 64 → ∀ j, j < 64 → qb ((1 : Int64) <<< ((nI k).toInt64 &&& 63)) j = decide (j = k) := by decide +kernel
    exact this k hk j hj
  · rw [qb_big (Nat.not_lt.mp hj)]
    have : ¬ j = k := by omega
    simp [this]
theorem qb_one1 : ∀ j, j < 64 → qb 1 j = decide (j = 0) := by decide +kernel
/-- a bit asked for -/
theorem qb_ask (x : Int64) {k : Nat} (hk : k < 64) : (((Int64.toUInt64 x >>> ((nI k).toInt64.toUInt64 &&& Int64.toUInt64 63)).toInt64) &&& (1 : Int64)) = if qb x k then 1 else 0 := by
  refine qb_ext fun j hj => ?_
  rw [qb_and, qb_shr x hk, qb_one1 j hj]
  by_cases h : j = 0
  · subst h
    rw [Nat.add_zero]
    cases hs : qb x k
    · simp [qb_0]
    · simp [qb_one1]
  · cases qb x k
    · simp [qb_0, h]
    · rw [if_pos rfl, qb_one1 j hj]; simp [h]
theorem qb_ne0 {x : Int64} : ¬ x = 0 ↔ ∃ j, j < 64 ∧ qb x j = true := by
  constructor
  · intro h
    false_or_by_contra
    rename_i hn
    refine h (qb_ext fun j hj => ?_)
    rw [qb_0]
    cases hs : qb x j
    · rfl
    · exact (hn ⟨j, hj, hs⟩).elim
  · rintro ⟨j, hj, hs⟩ rfl
    rw [qb_0] at hs
    cases hs
/-! the least bit not below a place -/
def qn (x : Int64) (s : Nat) : Nat := if h : s < 64 then (if qb x s then s else qn x (s + 1)) else 64
termination_by 64 - s
theorem qn_big (x : Int64) {s : Nat} (h : 64 ≤ s) : qn x s = 64 := by rw [qn, dif_neg (by omega)]
theorem qn_yes {x : Int64} {s : Nat} (h : qb x s = true) : qn x s = s := by rw [qn, dif_pos (qb_lt h), if_pos h]
theorem qn_no {x : Int64} {s : Nat} (h : qb x s = false) : qn x s = qn x (s + 1) := by
  by_cases hs : s < 64
  · rw [qn, dif_pos hs, if_neg (by rw [h]; decide)]
  · rw [qn_big x (by omega), qn_big x (by omega)]
theorem qn_le (x : Int64) (s : Nat) : qn x s ≤ 64 := by
  induction h : 64 - s generalizing s with
  | zero => rw [qn_big x (by omega)]; exact Nat.le_refl _
  | succ d ih =>
    cases hs : qb x s
    · rw [qn_no hs]; exact ih (s + 1) (by omega)
    · rw [qn_yes hs]; omega
theorem qn_ge (x : Int64) {s : Nat} (hs : s ≤ 64) : s ≤ qn x s := by
  induction h : 64 - s generalizing s with
  | zero => rw [qn_big x (by omega)]; exact hs
  | succ d ih =>
    cases hb : qb x s
    · rw [qn_no hb]; exact Nat.le_trans (Nat.le_succ s) (ih (by omega) (by omega))
    · rw [qn_yes hb]; exact Nat.le_refl _
theorem qn_not (x : Int64) {s j : Nat} (h1 : s ≤ j) (h2 : j < qn x s) : qb x j = false := by
  induction h : 64 - s generalizing s with
  | zero =>
    have := qn_le x s
    exact qb_big (by omega)
  | succ d ih =>
    cases hb : qb x s
    · by_cases hj : j = s
      · subst hj; exact hb
      · rw [qn_no hb] at h2
        exact ih (by omega) h2 (by omega)
    · rw [qn_yes hb] at h2; omega
theorem qn_is (x : Int64) {s : Nat} (h2 : qn x s < 64) : qb x (qn x s) = true := by
  induction h : 64 - s generalizing s with
  | zero => rw [qn_big x (by omega)] at h2; omega
  | succ d ih =>
    cases hb : qb x s
    · rw [qn_no hb] at h2 ⊢; exact ih h2 (by omega)
    · rw [qn_yes hb]; exact hb
theorem qn_uniq {x : Int64} {s t : Nat} (h1 : s ≤ t) (ht : t ≤ 64) (h2 : ∀ j, s ≤ j → j < t → qb x j = false) (h3 : t < 64 → qb x t = true) : qn x s = t := by
  induction h : t - s generalizing s with
  | zero =>
    have e : s = t := by omega
    subst e
    by_cases hs : s < 64
    · exact qn_yes (h3 hs)
    · rw [qn_big x (by omega)]; omega
  | succ d ih =>
    rw [qn_no (h2 s (Nat.le_refl _) (by omega))]
    exact ih (by omega) (fun j a b => h2 j (by omega) b) (by omega)
/-! the program's 'next' -/
theorem f_below_eq (F : Nat × Nat) {s : Nat} (hs : s ≤ 64) : ∃ m, f_X0_below F (nI s) = some m ∧ ∀ j, j < 64 → qb m j = decide (j < s) := by
  have h : ∀ s, s < 65 → (f_X0_below (0, 0) (nI s)).isSome = true ∧ ∀ j, j < 64 → qb ((f_X0_below (0, 0) (nI s)).getD 0) j = decide (j < s) := by decide +kernel
  obtain ⟨h1, h2⟩ := h s (by omega)
  obtain ⟨m, hm⟩ := Option.isSome_iff_exists.mp h1
  have e : f_X0_below F (nI s) = f_X0_below (0, 0) (nI s) := rfl
  rw [hm] at h2
  exact ⟨m, by rw [e, hm], h2⟩
theorem f_cnt_low (F : Nat × Nat) : ∀ s, s < 64 → f_J13_bitCount_95d88 F (((1 : Int64) <<< ((nI s).toInt64 &&& 63)) - 1) = some (nI s) := by
  have h : ∀ s, s < 64 → f_J13_bitCount_95d88 (0, 0) (((1 : Int64) <<< ((nI s).toInt64 &&& 63)) - 1) = some (nI s) := by decide +kernel
  exact h
theorem qb_neg (x : Int64) {j : Nat} (hj : j < 64) : qb (-x) j = (qb x j ^^ decide (∃ i, i < j ∧ qb x i = true)) := by
  unfold qb
  rw [Int64.toBitVec_neg, BitVec.getLsbD_neg]
  simp [hj]
theorem f_next_eq (F : Nat × Nat) (x : Int64) {s : Nat} (hs : s ≤ 64) : f_X0_next F x (nI s) = some (nI (qn x s)) := by
  obtain ⟨m, hm, hb⟩ := f_below_eq F hs
  unfold f_X0_next f_X0_next_0
  rw [hm, Option.bind_some]
  have hl : ∀ j, j < 64 → qb (x &&& (m ^^^ (-1))) j = (qb x j && decide (s ≤ j)) := by
    intro j hj
    rw [qb_and, qb_not m hj, hb j hj]
    by_cases h : j < s
    · simp [h, Nat.not_le.mpr h]
    · simp [h, Nat.not_lt.mp h]
  generalize x &&& (m ^^^ (-1)) = l at hl
  by_cases ht : qn x s < 64
  · have e : l &&& (-l) = (1 : Int64) <<< ((nI (qn x s)).toInt64 &&& 63) := by
      refine qb_ext fun j hj => ?_
      rw [qb_and, qb_one ht, qb_neg l hj]
      by_cases hjs : j = qn x s
      · subst hjs
        have h1 : qb l (qn x s) = true := by rw [hl _ hj, qn_is x ht]; simp [qn_ge x hs]
        have h2 : ¬ ∃ i, i < qn x s ∧ qb l i = true := by
          rintro ⟨i, hi, hi2⟩
          rw [hl i (by omega)] at hi2
          by_cases hsi : s ≤ i
          · rw [qn_not x hsi hi] at hi2; cases hi2
          · simp [hsi] at hi2
        simp [h1, h2]
      · cases hlj : qb l j
        · simp [hjs]
        · have h2 : ∃ i, i < j ∧ qb l i = true := by
            rw [hl j hj] at hlj
            have hsj : s ≤ j := by
              by_cases q : s ≤ j
              · exact q
              · simp [q] at hlj
            have : ¬ j < qn x s := fun q => by rw [qn_not x hsj q] at hlj; cases hlj
            refine ⟨qn x s, by omega, ?_⟩
            rw [hl _ ht, qn_is x ht]
            simp [qn_ge x hs]
          simp [h2, hjs]
    rw [e, f_cnt_low F _ ht]
    rfl
  · have e64 : qn x s = 64 := by have := qn_le x s; omega
    have e : l = 0 := by
      refine qb_ext fun j hj => ?_
      rw [hl j hj, qb_0]
      by_cases hsj : s ≤ j
      · rw [qn_not x hsj (by omega)]; rfl
      · simp [hsj]
    rw [e, e64]
    have h : f_J13_bitCount_95d88 (0, 0) (((0 : Int64) &&& (-0)) - 1) = some (nI 64) := by decide +kernel
    have h2 : f_J13_bitCount_95d88 F (((0 : Int64) &&& (-0)) - 1) = some (nI 64) := h
    rw [h2]
    rfl
