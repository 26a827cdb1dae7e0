/-! ===== The small functions of the model ===== -/
theorem f_mhas_eq (F : Nat × Nat) (x : Int64) {k : Nat} (hk : k < 64) : f_X7_has F x (nI k) = some (if qb x k then 1 else 0) := by
  unfold f_X7_has f_X7_has_0
  rw [qb_ask x hk]
  cases qb x k
  · rfl
  · rw [if_pos rfl, if_pos rfl]; rfl
theorem f_many_eq {F : Nat × Nat} (hF : 100 ≤ F.1) (x : Int64) : f_X7_many F x = some (nI (fb_ct (qb x) 64)) := by
  have key : ∀ k i f, i + k = 64 → k < f → f_X7_many_4 F f x (nI (fb_ct (qb x) i)) (nI i) = some (nI (fb_ct (qb x) 64)) := by
    intro k
    induction k with
    | zero =>
      intro i f hi hf
      obtain ⟨f, rfl⟩ : ∃ g, f = g + 1 := ⟨f - 1, by omega⟩
      obtain rfl : i = 64 := by omega
      rfl
    | succ k ih =>
      intro i f hi hf
      obtain ⟨f, rfl⟩ : ∃ g, f = g + 1 := ⟨f - 1, by omega⟩
      have e : Int64.toInt32 (if qb x i = true then (1 : Int64) else 0) = nI (if qb x i then 1 else 0) := by cases qb x i <;> rfl
      rw [f_X7_many_4, if_pos (show nI i < 64 from nI_lt (b := 64) (by omega) (by decide)), qb_ask x (by omega), e, nI_add, ← fb_ct_succ, nI_1]
      exact ih (i + 1) f (by omega) (by omega)
  exact key 64 0 F.1 rfl (by omega)
/-- how many things a set has -/
def pc (s : Nat) : Nat := fb_ct (fun i => s.testBit i) 6
theorem ones_mono (F0 F : Nat × Nat) (f : Nat) : ∀ (m : Nat) (a x z : Int32), f_X7_ones_4 F0 m a x = some z → f_X7_ones_4 F (m + f) a x = some z
  | 0, a, x, z, h => by cases h
  | m + 1, a, x, z, h => by
    rw [show m + 1 + f = (m + f) + 1 by omega, f_X7_ones_4]
    rw [f_X7_ones_4] at h
    by_cases q : 0 < x
    · rw [if_pos q] at h ⊢
      exact ones_mono F0 F f m _ _ _ h
    · rw [if_neg q] at h ⊢
      exact h
theorem f_ones_eq {F : Nat × Nat} (hF : 100 ≤ F.1) {s : Nat} (hs : s < 64) : f_X7_ones F (nI s) = some (nI (pc s)) := by
  have h : ∀ s, s < 64 → f_X7_ones_4 (0, 0) 8 0 (nI s) = some (nI (pc s)) := by decide +kernel
  have := ones_mono (0, 0) F (F.1 - 8) 8 _ _ _ (h s hs)
  rw [show 8 + (F.1 - 8) = F.1 by omega] at this
  exact this
theorem f_bits_eq (F : Nat × Nat) {s : Nat} (hs : s < 64) : f_J6_bitCount_0f7a4 F (nI s) = some (nI (pc s)) := by
  have h : ∀ s, s < 64 → f_J6_bitCount_0f7a4 (0, 0) (nI s) = some (nI (pc s)) := by decide +kernel
  exact h s hs
theorem f_isWithin_eq (F : Nat × Nat) {x y : Nat} (hx : x < 64) (hy : y < 64) : f_X7_isWithin F (nI x) (nI y) = some (if x &&& y = x then 1 else 0) := by
  have h : ∀ x, x < 64 → ∀ y, y < 64 → f_X7_isWithin (0, 0) (nI x) (nI y) = some (if x &&& y = x then 1 else 0) := by decide +kernel
  exact h x hx y hy
theorem f_mPlace_yes (F : Nat × Nat) {p : Nat} (h : p < 16) : f_X7_isPlace F (nI p) = some 1 := by
  have h2 : ∀ p, p < 16 → f_X7_isPlace (0, 0) (nI p) = some 1 := by decide +kernel
  exact h2 p h
theorem f_mPlace_no (F : Nat × Nat) {x : Int32} (h : ∀ p, p < 16 → ¬ x = nI p) : f_X7_isPlace F x = some 0 := by
  unfold f_X7_isPlace f_X7_isPlace_0 f_X7_isIn f_X7_isIn_0
  rcases pk_ix x (n := 16) (by decide) with q | q | ⟨j, hj, q⟩
  · rw [if_pos q]; rfl
  · by_cases q2 : x < 0
    · rw [if_pos q2]; rfl
    · rw [if_neg q2, if_pos (by
        rw [Int32.lt_iff_toInt_lt]
        rw [Int32.le_iff_toInt_le] at q
        have e : (nI 16).toInt = 16 := rfl
        have e2 : (15 : Int32).toInt = 15 := rfl
        omega)]
      rfl
  · exact absurd q (h j hj)
section B45
variable {sc : Nat × (Nat → Int32)} {n : Nat} {X : Nat → rx_C} {th mc pk : Int32} {kd td : Nat → Int32} {fm pr : Nat → Int64} {sz : Nat → Int32} {rw : Nat → Int64} {tu pe tr : Nat → Int32} {as : Nat → Int64} {w : Nat → Int64} {g : List rx_C}
/-- why the model refuses -/
def refm (k : Int32) : Int32 := if k = -2 then -11 else if 5 < k then -12 else 0
theorem refm_eq (k : Int32) : refm k = refu k := by
  unfold refm refu
  by_cases e : k = -2
  · rw [if_pos e, if_pos e]
  · rw [if_neg e, if_neg e]
    have h : (5 < k) ↔ ¬ k < 6 := by
      rw [Int32.lt_iff_toInt_lt, Int32.lt_iff_toInt_lt]
      have e1 : (5 : Int32).toInt = 5 := rfl
      have e2 : (6 : Int32).toInt = 6 := rfl
      omega
    by_cases q : k < 6
    · rw [if_pos q, if_neg (fun z => h.mp z q)]
    · rw [if_neg q, if_pos (h.mpr q)]
theorem f_lacks_eq (F : Nat × Nat) {p : Nat} (h : p < 16) : f_X7_lacks F 40 (nI p) (hp sc X (cm n th mc pk kd td fm pr sz rw tu pe tr as) w g) = some (refu (kd p), hp sc X (cm n th mc pk kd td fm pr sz rw tu pe tr as) w g) := by
  rw [← refm_eq]
  unfold f_X7_lacks f_X7_lacks_0 refm
  rw [gm_kd, Option.bind_some, am_kd h, Option.bind_some]
  by_cases e : kd p = -2
  · rw [if_pos e, if_pos e]
  · rw [if_neg e, if_neg e, Option.bind_some, am_kd h, Option.bind_some]
    by_cases q : 5 < kd p
    · rw [if_pos q, if_pos q]
    · rw [if_neg q, if_neg q]
theorem f_holdsNow_eq {F : Nat × Nat} (hF : 100 ≤ F.1) {p : Nat} (h : p < 16) (k t : Int32) (f : Int64) : f_X7_holdsNow F 40 (nI p) k t f (hp sc X (cm n th mc pk kd td fm pr sz rw tu pe tr as) w g) = some (nI (fb_ct (qb f) 64), hp sc X (cm n th mc pk (upd kd p k) (upd td p t) (vp_updL fm p f) (vp_updL pr p 0) sz rw tu pe tr as) w g) := by
  unfold f_X7_holdsNow f_X7_holdsNow_0
  rw [gm_kd, Option.bind_some, sm_kd h, Option.bind_some, gm_td, Option.bind_some, sm_td h, Option.bind_some, gm_fm, Option.bind_some, sm_fm h, Option.bind_some, gm_pr, Option.bind_some, sm_pr h, Option.bind_some, f_many_eq hF, Option.bind_some]
end B45
