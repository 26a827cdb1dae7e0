section B67
variable {sc : Nat × (Nat → Int32)} {n : Nat} {cl : Int32} {P : Nat → PL} {ly : Nat → Int64} {sp st : Nat → Int32} {sk : Int32} {sd : Nat → Int32} {sm : Nat → Int64} {X M : Nat → rx_C} {w : Nat → Int64} {g : List rx_C} {th mc pk : Int32} {kd td : Nat → Int32} {fm pr : Nat → Int64} {sz : Nat → Int32} {ro : Nat → Int64} {tu pe tr : Nat → Int32} {as : Nat → Int64}
theorem thing_or (n : Nat) (x : Int32) : (∃ s, s < n ∧ x = nI s) ∨ ∀ s, s < n → ¬ x = nI s := by
  by_cases h : ∃ p, p < n ∧ x = nI p
  · exact Or.inl h
  · exact Or.inr fun p hp q => h ⟨p, hp, q⟩
theorem f_isThing_yes (F : Nat × Nat) (hn : n ≤ 6) {i : Nat} (h : i < n) : f_X6_isThing F 0 (nI i) (hp sc (cx n cl P ly sp st sk sd sm) M w g) = some (1, (hp sc (cx n cl P ly sp st sk sd sm) M w g)) := by
  unfold f_X6_isThing f_X6_isThing_0
  rw [if_neg (nI_pos (by omega)), gx_n, Option.bind_some, if_pos (nI_lt h (by omega))]
theorem f_isThing_no (F : Nat × Nat) (hn : n ≤ 6) {x : Int32} (h : ∀ s, s < n → ¬ x = nI s) : f_X6_isThing F 0 x (hp sc (cx n cl P ly sp st sk sd sm) M w g) = some (0, (hp sc (cx n cl P ly sp st sk sd sm) M w g)) := by
  unfold f_X6_isThing f_X6_isThing_0
  by_cases q : x < 0
  · rw [if_pos q]
  · obtain ⟨j, hj, rfl⟩ := nI_of q
    rw [if_neg q, gx_n, Option.bind_some, if_neg (nI_nlt (Nat.not_lt.mp fun q2 => h j q2 rfl) hj)]
theorem f_mThing_yes (F : Nat × Nat) (hn : n ≤ 6) {i : Nat} (h : i < n) : f_X7_isIn F (nI i) 0 (nI n - 1) = some 1 := by
  rw [f_isIn_eq, show (1 : Int32) = nI 1 from rfl, pk_sub (by omega), if_neg (nI_pos (by omega)), if_neg (nI_nlt (by omega) (by omega))]
theorem f_mThing_no (F : Nat × Nat) (hn : n ≤ 6) (hn3 : 3 ≤ n) {x : Int32} (h : ∀ s, s < n → ¬ x = nI s) : f_X7_isIn F x 0 (nI n - 1) = some 0 := by
  rw [f_isIn_eq, show (1 : Int32) = nI 1 from rfl, pk_sub (by omega)]
  by_cases q : x < 0
  · rw [if_pos q]
  · obtain ⟨j, hj, rfl⟩ := nI_of q
    rw [if_neg q, if_pos (nI_lt (Nat.not_le.mp fun q2 => h j (by omega) rfl) hj)]
theorem num_to {m : Nat} {x M : Int32} (hM : M = nI m) (hm : m < 2 ^ 31) (h1 : ¬ x < 0) (h2 : ¬ M < x) : ∃ j, j ≤ m ∧ x = nI j := by
  obtain ⟨j, hj, rfl⟩ := nI_of h1
  exact ⟨j, Nat.not_lt.mp fun q => h2 (by rw [hM]; exact nI_lt q hj), rfl⟩
theorem f_hasNum {F : Nat × Nat} {j : Nat} (hj : j < 6) : f_X1_hasNumber F (nI j) = some (if j = 2 ∨ j = 4 ∨ j = 5 then 1 else 0) := by
  have h : ∀ j, j < 6 → f_X1_hasNumber (0, 0) (nI j) = some (if j = 2 ∨ j = 4 ∨ j = 5 then 1 else 0) := by decide +kernel
  exact h j hj
theorem nI_is {j k : Nat} (hj : j < 100) (hk : k < 100) (h : ¬ j = k) : ¬ nI j = nI k := fun q => h ((nI_eq (by omega) (by omega)).mp q)
end B67
