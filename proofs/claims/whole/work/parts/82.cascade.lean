/-! ===== Cascades ===== -/
def bn (a : Nat) : Nat → Nat
  | 0 => 1
  | k + 1 => bn a k * (a - k) / (k + 1)
theorem bn_1 (a : Nat) : bn a 1 = a := by show 1 * (a - 0) / (0 + 1) = a; omega
theorem ch2_mono (F0 F : Nat × Nat) (f : Nat) : ∀ (m : Nat) (a b x y z : Int32), f_X2_choose_4 F0 m a b x y = some z → f_X2_choose_4 F (m + f) a b x y = some z
  | 0, a, b, x, y, z, h => by cases h
  | m + 1, a, b, x, y, z, h => by
    rw [show m + 1 + f = (m + f) + 1 by omega, f_X2_choose_4]
    rw [f_X2_choose_4] at h
    by_cases q : b < y
    · rw [if_pos q] at h ⊢
      exact h
    · rw [if_neg q] at h ⊢
      by_cases q2 : y = 0
      · rw [if_pos q2] at h; cases h
      · rw [if_neg q2] at h ⊢
        exact ch2_mono F0 F f m _ _ _ _ _ h
theorem ch7_mono (F0 F : Nat × Nat) (f : Nat) : ∀ (m : Nat) (a b x y z : Int32), f_X7_choose_4 F0 m a b x y = some z → f_X7_choose_4 F (m + f) a b x y = some z
  | 0, a, b, x, y, z, h => by cases h
  | m + 1, a, b, x, y, z, h => by
    rw [show m + 1 + f = (m + f) + 1 by omega, f_X7_choose_4]
    rw [f_X7_choose_4] at h
    by_cases q : y < b
    · rw [if_pos q] at h ⊢
      by_cases q1 : 2000 < x
      · rw [if_pos q1] at h ⊢; exact h
      · rw [if_neg q1] at h ⊢
        by_cases q2 : y + 1 = 0
        · rw [if_pos q2] at h; cases h
        · rw [if_neg q2] at h ⊢
          exact ch7_mono F0 F f m _ _ _ _ _ h
    · rw [if_neg q] at h ⊢
      exact h
theorem ca_mono (F0 F : Nat × Nat) (f : Nat) : ∀ (m : Nat) (a b : Int32) (x : Int64) (y z : Int32), f_X7_chooseAll_5 F0 m a b x y = some z → f_X7_chooseAll_5 F (m + f) a b x y = some z
  | 0, a, b, x, y, z, h => by cases h
  | m + 1, a, b, x, y, z, h => by
    rw [show m + 1 + f = (m + f) + 1 by omega, f_X7_chooseAll_5]
    rw [f_X7_chooseAll_5] at h
    by_cases q : y < b
    · rw [if_pos q] at h ⊢
      by_cases q2 : Int32.toInt64 (y + 1) = 0
      · rw [if_pos q2] at h; cases h
      · rw [if_neg q2] at h ⊢
        exact ca_mono F0 F f m _ _ _ _ _ h
    · rw [if_neg q] at h ⊢
      exact h
theorem ch2_fin : ∀ k, k < 7 → 2 ≤ k → ∀ a, a < 46 → k ≤ a → f_X2_choose_4 (0, 0) 8 (nI a) (nI k) 1 1 = some (nI (bn a k)) := by decide +kernel
theorem f_ch2 {F : Nat × Nat} (hF : 100000 ≤ F.1) {a k : Nat} (hk : k < 7) (hka : k ≤ a) (ha : (k < 2 ∧ a ≤ 1000) ∨ a < 46) : f_X2_choose F (nI a) (nI k) = some (nI (bn a k)) := by
  unfold f_X2_choose f_X2_choose_0
  by_cases h2 : 2 ≤ k
  · have := ch2_mono (0, 0) F (F.1 - 8) 8 _ _ _ _ _ (ch2_fin k hk h2 a (by omega) hka)
    rw [show 8 + (F.1 - 8) = F.1 by omega] at this
    exact this
  · obtain ⟨f, hf⟩ : ∃ g, F.1 = g + 2 := ⟨F.1 - 2, by omega⟩
    rw [hf]
    by_cases h0 : k = 0
    · subst h0; rfl
    · obtain rfl : k = 1 := by omega
      rw [f_X2_choose_4, if_neg (by decide), if_neg (by decide), f_X2_choose_4, if_pos (by decide), bn_1]
      have e : (1 : Int32) * ((nI a - nI 1) + 1) = nI a := by
        rw [pk_sub hka, nI_1, show a - 1 + 1 = a by omega, show (1 : Int32) = nI 1 from rfl, pk_mul, Nat.one_mul]
      rw [e, show (1 : Int32) = nI 1 from rfl, pk_div (by omega) (by decide) (by decide), Nat.div_one]
def chV (a k : Nat) : Nat := ((f_X7_choose_4 (0, 0) 8 (nI a) (nI k) 1 0).getD 0).toNatClampNeg
theorem ch7_fin0 : ∀ k, k < 7 → ∀ a, a < 47 → k < 2 ∨ a < k ∨ (f_X7_choose_4 (0, 0) 8 (nI a) (nI k) 1 0 = some (nI (chV a k)) ∧ ((bn a k ≤ 1000 ∧ chV a k = bn a k) ∨ (1000 < bn a k ∧ 1000 < chV a k ∧ chV a k < 2147483648))) := by decide +kernel
theorem ch7_fin (k : Nat) (hk : k < 7) (h2 : 2 ≤ k) (a : Nat) (ha : a < 47) (hka : k ≤ a) : f_X7_choose_4 (0, 0) 8 (nI a) (nI k) 1 0 = some (nI (chV a k)) ∧ ((bn a k ≤ 1000 ∧ chV a k = bn a k) ∨ (1000 < bn a k ∧ 1000 < chV a k ∧ chV a k < 2147483648)) :=
  ((ch7_fin0 k hk a ha).resolve_left (by omega)).resolve_left (by omega)
theorem f_ch7 {F : Nat × Nat} (hF : 100000 ≤ F.1) {a k : Nat} (hk : k < 7) (hk1 : 1 ≤ k) (hka : k ≤ a) (ha : (k = 1 ∧ a ≤ 1001) ∨ a < 47) : ∃ v, v < 2 ^ 31 ∧ f_X7_choose F (nI a) (nI k) = some (nI v) ∧ (bn a k ≤ 1000 → v = bn a k) ∧ ∀ m, m ≤ 1000 → (m < v ↔ m < bn a k) := by
  unfold f_X7_choose f_X7_choose_0
  by_cases h2 : 2 ≤ k
  · obtain ⟨e, h⟩ := ch7_fin k hk h2 a (by omega) hka
    have := ch7_mono (0, 0) F (F.1 - 8) 8 _ _ _ _ _ e
    rw [show 8 + (F.1 - 8) = F.1 by omega] at this
    refine ⟨chV a k, ?_, this, ?_, ?_⟩
    · omega
    · intro q; omega
    · intro m hm; omega
  · obtain rfl : k = 1 := by omega
    obtain ⟨f, hf⟩ : ∃ g, F.1 = g + 2 := ⟨F.1 - 2, by omega⟩
    refine ⟨a, by omega, ?_, fun _ => (bn_1 a).symm, fun m _ => by rw [bn_1]⟩
    rw [hf, f_X7_choose_4, if_pos (by decide), if_neg (by decide), if_neg (by decide), f_X7_choose_4, if_neg (by decide), f_X7_choose_32, if_neg (nI_nlt hka (by omega))]
    have e : (1 : Int32) * (nI a - 0) = nI a := by
      rw [show (0 : Int32) = nI 0 from rfl, pk_sub (Nat.zero_le _), Nat.sub_zero, show (1 : Int32) = nI 1 from rfl, pk_mul, Nat.one_mul]
    rw [e, show (0 : Int32) + 1 = nI 1 from rfl, pk_div (by omega) (by decide) (by decide), Nat.div_one]
theorem ca_fin : ∀ k, k < 6 → ∀ a, a < 46 → k ≤ a → f_X7_chooseAll_5 (0, 0) 8 (nI a) (nI k) 1 0 = some (nI (bn a k)) := by decide +kernel
theorem f_ca {F : Nat × Nat} (hF : 100000 ≤ F.1) {a k : Nat} (hk : k < 6) (hka : k ≤ a) (ha : k = 0 ∨ a < 46) : f_X7_chooseAll F (nI a) (nI k) = some (nI (bn a k)) := by
  unfold f_X7_chooseAll f_X7_chooseAll_0
  by_cases h0 : k = 0
  · subst h0
    obtain ⟨f, hf⟩ : ∃ g, F.1 = g + 2 := ⟨F.1 - 2, by omega⟩
    rw [hf]; rfl
  · have := ca_mono (0, 0) F (F.1 - 8) 8 _ _ _ _ _ (ca_fin k hk a (by omega) hka)
    rw [show 8 + (F.1 - 8) = F.1 by omega] at this
    exact this
def tp (m k : Nat) : Nat → Nat → Nat
  | 0, a => a
  | d + 1, a => if m < bn (a + 1) k then a else tp m k d (a + 1)
def top (m k : Nat) : Nat := tp m k (1000 - k) k
theorem bn_fin : ∀ k, k < 7 → 2 ≤ k → (∀ a, a < 46 → k ≤ a → bn a k * (a + 1) / (a + 1 - k) = bn (a + 1) k ∧ bn a k * (a + 1) < 2 ^ 31) ∧ 1000 < bn 46 k := by decide +kernel
theorem bn_kk : ∀ k, k < 7 → bn k k = 1 := by decide +kernel
theorem tp_ok {m k : Nat} (hm : m ≤ 1000) (hk : k < 7) (hk1 : 1 ≤ k) : ∀ d a, a + d = 1000 → k ≤ a → bn a k ≤ m → (k = 1 ∨ a < 46) → k ≤ tp m k d a ∧ bn (tp m k d a) k ≤ m ∧ tp m k d a ≤ 1000 ∧ (k = 1 ∨ tp m k d a < 46)
  | 0, a, h1, h2, h3, h4 => ⟨h2, h3, by show a ≤ 1000; omega, h4⟩
  | d + 1, a, h1, h2, h3, h4 => by
    show k ≤ (if m < bn (a + 1) k then a else tp m k d (a + 1)) ∧ bn (if m < bn (a + 1) k then a else tp m k d (a + 1)) k ≤ m ∧ (if m < bn (a + 1) k then a else tp m k d (a + 1)) ≤ 1000 ∧ (k = 1 ∨ (if m < bn (a + 1) k then a else tp m k d (a + 1)) < 46)
    by_cases q : m < bn (a + 1) k
    · rw [if_pos q]; exact ⟨h2, h3, by omega, h4⟩
    · rw [if_neg q]
      refine tp_ok hm hk hk1 d (a + 1) (by omega) (by omega) (by omega) ?_
      by_cases e : k = 1
      · exact Or.inl e
      · have hb := (bn_fin k hk (by omega)).2
        by_cases e2 : a = 45
        · subst e2; have hb' : 1000 < bn (45 + 1) k := hb; omega
        · omega
theorem top_ok {m k : Nat} (h0 : 1 ≤ m) (hm : m ≤ 1000) (hk : k < 7) (hk1 : 1 ≤ k) : k ≤ top m k ∧ bn (top m k) k ≤ m ∧ top m k ≤ 1000 ∧ (k = 1 ∨ top m k < 46) :=
  tp_ok hm hk hk1 (1000 - k) k (by omega) (Nat.le_refl _) (by rw [bn_kk k hk]; exact h0) (by omega)
theorem f_top2 {F : Nat × Nat} (hF : 100000 ≤ F.1) {m k : Nat} (h0 : 1 ≤ m) (hm : m ≤ 1000) (hk : k < 7) (hk1 : 1 ≤ k) : f_X2_cascadeTop F (nI m) (nI k) = some (nI (top m k)) := by
  have key : ∀ d a f, a + d = 1000 → d < f → k ≤ a → bn a k ≤ m → (k = 1 ∨ a < 46) → f_X2_cascadeTop_4 F f (nI m) (nI k) (nI (bn a k)) (nI a) = some (nI (tp m k d a)) := by
    intro d
    induction d with
    | zero =>
      intro a f h1 hf _ _ _
      obtain ⟨f, rfl⟩ : ∃ g, f = g + 1 := ⟨f - 1, by omega⟩
      obtain rfl : a = 1000 := by omega
      rw [f_X2_cascadeTop_4, if_neg (by decide)]
      rfl
    | succ d ih =>
      intro a f h1 hf h2 h3 h4
      obtain ⟨f, rfl⟩ : ∃ g, f = g + 1 := ⟨f - 1, by omega⟩
      have st : bn a k * (a + 1) / (a + 1 - k) = bn (a + 1) k ∧ bn a k * (a + 1) < 2 ^ 31 := by
        by_cases e : k = 1
        · subst e
          rw [bn_1, bn_1, show a + 1 - 1 = a by omega, Nat.mul_comm, Nat.mul_div_cancel _ (by omega)]
          refine ⟨rfl, ?_⟩
          have : (a + 1) * a ≤ 1000 * 1000 := Nat.mul_le_mul (by omega) (by omega)
          omega
        · exact (bn_fin k hk (by omega)).1 a (by omega) h2
      have hle : bn (a + 1) k < 2 ^ 31 := by
        rw [← st.1]
        exact Nat.lt_of_le_of_lt (Nat.div_le_self _ _) st.2
      rw [f_X2_cascadeTop_4, if_pos (show nI a < 1000 from nI_lt (b := 1000) (by omega) (by decide)), nI_1, pk_sub (by omega), if_neg (nI_ne0 (by omega) (by omega)), pk_mul, pk_div st.2 (by omega) (by omega), st.1]
      show _ = some (nI (if m < bn (a + 1) k then a else tp m k d (a + 1)))
      by_cases q : m < bn (a + 1) k
      · rw [if_pos (nI_lt q hle), if_pos q]
      · rw [if_neg (nI_nlt (by omega) (by omega)), if_neg q]
        refine ih (a + 1) f (by omega) (by omega) (by omega) (by omega) ?_
        by_cases e : k = 1
        · exact Or.inl e
        · have hb := (bn_fin k hk (by omega)).2
          by_cases e2 : a = 45
          · subst e2; have hb' : 1000 < bn (45 + 1) k := hb; omega
          · omega
  unfold f_X2_cascadeTop f_X2_cascadeTop_0
  have := key (1000 - k) k F.1 (by omega) (by omega) (Nat.le_refl _) (by rw [bn_kk k hk]; exact h0) (by omega)
  rw [bn_kk k hk] at this
  exact this
theorem f_top7 {F : Nat × Nat} (hF : 100000 ≤ F.1) {m k : Nat} (h0 : 1 ≤ m) (hm : m ≤ 1000) (hk : k < 7) (hk1 : 1 ≤ k) : f_X7_greatestBelow F (nI m) (nI k) = some (nI (top m k)) := by
  have key : ∀ d a f, a + d = 1000 → d < f → k ≤ a → bn a k ≤ m → (k = 1 ∨ a < 46) → f_X7_greatestBelow_2 F f (nI m) (nI k) (nI a) = some (nI (tp m k d a)) := by
    intro d
    induction d with
    | zero =>
      intro a f h1 hf h2 _ h4
      obtain ⟨f, rfl⟩ : ∃ g, f = g + 1 := ⟨f - 1, by omega⟩
      obtain ⟨v, v0, v1, v2, v3⟩ := f_ch7 hF (a := a + 1) hk hk1 (by omega) (by omega)
      have hb : m < bn (a + 1) k := by
        rcases h4 with e | e
        · subst e; rw [bn_1]; omega
        · omega
      rw [f_X7_greatestBelow_2, nI_1, v1, Option.bind_some, if_pos (nI_lt ((v3 m hm).mpr hb) v0)]
      rfl
    | succ d ih =>
      intro a f h1 hf h2 h3 h4
      obtain ⟨f, rfl⟩ : ∃ g, f = g + 1 := ⟨f - 1, by omega⟩
      obtain ⟨v, v0, v1, v2, v3⟩ := f_ch7 hF (a := a + 1) hk hk1 (by omega) (by omega)
      rw [f_X7_greatestBelow_2, nI_1, v1, Option.bind_some]
      show _ = some (nI (if m < bn (a + 1) k then a else tp m k d (a + 1)))
      by_cases q : m < bn (a + 1) k
      · rw [if_pos (nI_lt ((v3 m hm).mpr q) v0), if_pos q]
      · have q' : ¬ m < v := fun h => q ((v3 m hm).mp h)
        rw [if_neg (nI_nlt (by omega) (by omega)), if_neg q]
        refine ih (a + 1) f (by omega) (by omega) (by omega) (by omega) ?_
        by_cases e : k = 1
        · exact Or.inl e
        · have hb := (bn_fin k hk (by omega)).2
          by_cases e2 : a = 45
          · subst e2; have hb' : 1000 < bn (45 + 1) k := hb; omega
          · omega
  unfold f_X7_greatestBelow f_X7_greatestBelow_0
  exact key (1000 - k) k F.1 (by omega) (by omega) (Nat.le_refl _) (by rw [bn_kk k hk]; exact h0) (by omega)
theorem f_top_ch {F : Nat × Nat} (hF : 100000 ≤ F.1) {m k : Nat} (h0 : 1 ≤ m) (hm : m ≤ 1000) (hk : k < 7) (hk1 : 1 ≤ k) : f_X2_choose F (nI (top m k)) (nI k) = some (nI (bn (top m k) k)) ∧ f_X7_choose F (nI (top m k)) (nI k) = some (nI (bn (top m k) k)) := by
  obtain ⟨t1, t2, t3, t4⟩ := top_ok h0 hm hk hk1
  refine ⟨f_ch2 hF hk t1 (by omega), ?_⟩
  obtain ⟨v, v0, v1, v2, v3⟩ := f_ch7 hF (a := top m k) hk hk1 t1 (by omega)
  rw [v1, v2 (by omega)]
theorem f_cas_both {F : Nat × Nat} (hF : 100000 ≤ F.1) (K i : Int32) : ∀ s m f f', s < 7 → m ≤ 1000 → s < f → s < f' → ∃ r, f_X2_cascadeNumber_5 F f K i (nI m) (nI s) = some r ∧ f_X7_cascade_33 F f' K i (nI m) (nI s) = some r := by
  intro s
  induction s with
  | zero =>
    intro m f f' _ _ hf hf'
    obtain ⟨f, rfl⟩ : ∃ g, f = g + 1 := ⟨f - 1, by omega⟩
    obtain ⟨f', rfl⟩ : ∃ g, f' = g + 1 := ⟨f' - 1, by omega⟩
    exact ⟨-2, by rw [f_X2_cascadeNumber_5, if_pos (by decide)], by rw [f_X7_cascade_33, if_neg (by decide)]⟩
  | succ s ih =>
    intro m f f' hs hm hf hf'
    obtain ⟨f, rfl⟩ : ∃ g, f = g + 1 := ⟨f - 1, by omega⟩
    obtain ⟨f', rfl⟩ : ∃ g, f' = g + 1 := ⟨f' - 1, by omega⟩
    rw [f_X2_cascadeNumber_5, if_neg (show ¬ nI (s + 1) < 1 from nI_nlt (b := 1) (by omega) (by omega)), f_X7_cascade_33, if_pos (show (0 : Int32) < nI (s + 1) from nI_lt (a := 0) (by omega) (by omega))]
    by_cases h0 : m = 0
    · subst h0
      exact ⟨-2, by rw [if_neg (by decide)], by rw [if_neg (by decide)]⟩
    · have hp : (0 : Int32) < nI m := nI_lt (a := 0) (by omega) (by omega)
      rw [if_pos hp, if_pos hp, f_top2 hF (by omega) hm hs (by omega), f_top7 hF (by omega) hm hs (by omega), Option.bind_some, Option.bind_some]
      by_cases q : K - nI (s + 1) = i
      · exact ⟨_, by rw [if_pos q], by rw [if_pos q]⟩
      · obtain ⟨c1, c2⟩ := f_top_ch hF (m := m) (k := s + 1) (by omega) hm hs (by omega)
        have hb := (top_ok (m := m) (k := s + 1) (by omega) hm hs (by omega)).2.1
        rw [if_neg q, if_neg q, c1, c2, Option.bind_some, Option.bind_some, pk_sub hb, pk_m1]
        exact ih (m - bn (top m (s + 1)) (s + 1)) f f' (by omega) (by omega) (by omega) (by omega)
theorem f_lea_both {F : Nat × Nat} (hF : 100000 ≤ F.1) : ∀ s m (v : Int32) f f', s < 7 → m ≤ 1000 → s < f → s < f' → ∃ r, f_X2_leastShadow_7 F f (nI m) v (nI s) = some r ∧ f_X7_least_31 F f' (nI m) v (nI s) = some r := by
  intro s
  induction s with
  | zero =>
    intro m v f f' _ _ hf hf'
    obtain ⟨f, rfl⟩ : ∃ g, f = g + 1 := ⟨f - 1, by omega⟩
    obtain ⟨f', rfl⟩ : ∃ g, f' = g + 1 := ⟨f' - 1, by omega⟩
    exact ⟨v, by rw [f_X2_leastShadow_7, if_pos (by decide)], by rw [f_X7_least_31, if_neg (by decide)]⟩
  | succ s ih =>
    intro m v f f' hs hm hf hf'
    obtain ⟨f, rfl⟩ : ∃ g, f = g + 1 := ⟨f - 1, by omega⟩
    obtain ⟨f', rfl⟩ : ∃ g, f' = g + 1 := ⟨f' - 1, by omega⟩
    rw [f_X2_leastShadow_7, if_neg (show ¬ nI (s + 1) < 1 from nI_nlt (b := 1) (by omega) (by omega)), f_X7_least_31, if_pos (show (0 : Int32) < nI (s + 1) from nI_lt (a := 0) (by omega) (by omega))]
    by_cases h0 : m = 0
    · subst h0
      exact ⟨v, by rw [if_neg (by decide)], by rw [if_neg (by decide)]⟩
    · have hp : (0 : Int32) < nI m := nI_lt (a := 0) (by omega) (by omega)
      obtain ⟨c1, c2⟩ := f_top_ch hF (m := m) (k := s + 1) (by omega) hm hs (by omega)
      obtain ⟨t1, t2, t3, t4⟩ := top_ok (m := m) (k := s + 1) (by omega) hm hs (by omega)
      rw [if_pos hp, if_pos hp, f_top2 hF (by omega) hm hs (by omega), f_top7 hF (by omega) hm hs (by omega), Option.bind_some, Option.bind_some, nI_pred, f_ch2 hF (by omega) (by omega) (by omega), f_ca hF (by omega) (by omega) (by omega), Option.bind_some, Option.bind_some, c1, c2, Option.bind_some, Option.bind_some, pk_sub t2, pk_m1]
      exact ih (m - bn (top m (s + 1)) (s + 1)) _ f f' (by omega) (by omega) (by omega) (by omega)
theorem num_12 {a b : Nat} {x A B : Int32} (hA : A = nI a) (hB : B = nI b) (hb : b < 2 ^ 31) (ha : a < 2 ^ 31) (h1 : ¬ x < A) (h2 : ¬ B < x) : ∃ j, a ≤ j ∧ j ≤ b ∧ x = nI j := by
  have h0 : ¬ x < 0 := fun q => h1 (by
    rw [hA]
    have := nI_pos' (n := a) ha
    rw [Int32.le_iff_toInt_le] at this
    rw [Int32.lt_iff_toInt_lt] at q ⊢
    omega)
  obtain ⟨j, hj, rfl⟩ := nI_of h0
  exact ⟨j, Nat.not_lt.mp fun q => h1 (by rw [hA]; exact nI_lt q ha), Nat.not_lt.mp fun q => h2 (by rw [hB]; exact nI_lt q hj), rfl⟩
theorem eq_cascade {F : Nat × Nat} (hF : 100000 ≤ F.1) (x y z : Int32) : ∃ r, f_X6_cascade F 0 x y z = some r ∧ f_X7_cascade F 40 x y z = some r := by
  unfold f_X6_cascade f_X6_cascade_0 f_X7_cascade f_X7_cascade_0 f_X2_cascades f_X2_cascades_0
  rw [f_isIn_eq, f_isIn_eq]
  by_cases h1 : x < 1
  · exact ⟨-1, by rw [if_pos h1]; rfl, by rw [if_pos h1]; rfl⟩
  by_cases h2 : 1000 < x
  · exact ⟨-1, by rw [if_neg h1, if_pos h2]; rfl, by rw [if_neg h1, if_pos h2]; rfl⟩
  by_cases h3 : y < 1
  · exact ⟨-1, by rw [if_neg h1, if_neg h2, if_pos h3]; rfl, by rw [if_neg h1, if_neg h2, if_pos h3]; rfl⟩
  by_cases h4 : 6 < y
  · exact ⟨-1, by rw [if_neg h1, if_neg h2, if_neg h3, if_pos h4]; rfl, by rw [if_neg h1, if_neg h2, if_neg h3, if_pos h4]; rfl⟩
  obtain ⟨m, m1, m2, rfl⟩ := num_12 (a := 1) (b := 1000) rfl rfl (by decide) (by decide) h1 h2
  obtain ⟨k, k1, k2, rfl⟩ := num_12 (a := 1) (b := 6) rfl rfl (by decide) (by decide) h3 h4
  rw [if_neg h1, if_neg h2, if_neg h3, if_neg h4, if_neg h1, if_neg h2, if_neg h3, if_neg h4, Option.bind_some, Option.bind_some, Option.bind_some, if_neg ne10, if_neg ne10]
  by_cases h5 : z < 0
  · exact ⟨-1, by rw [if_pos h5], by rw [if_neg ne10, if_pos h5]⟩
  · obtain ⟨r, r1, r2⟩ := f_cas_both hF (nI k) z k m F.1 F.1 (by omega) m2 (by omega) (by omega)
    refine ⟨r, ?_, ?_⟩
    · rw [if_neg h5]
      unfold f_X2_cascadeNumber f_X2_cascadeNumber_0
      rw [r1]; rfl
    · rw [if_neg ne10, if_neg h5]; exact r2
theorem eq_least {F : Nat × Nat} (hF : 100000 ≤ F.1) (x y : Int32) : ∃ r, f_X6_least F 0 x y = some r ∧ f_X7_least F 40 x y = some r := by
  unfold f_X6_least f_X6_least_0 f_X7_least f_X7_least_0 f_X2_cascades f_X2_cascades_0
  rw [f_isIn_eq, f_isIn_eq]
  by_cases h1 : x < 1
  · exact ⟨-1, by rw [if_pos h1]; rfl, by rw [if_pos h1]; rfl⟩
  by_cases h2 : 1000 < x
  · exact ⟨-1, by rw [if_neg h1, if_pos h2]; rfl, by rw [if_neg h1, if_pos h2]; rfl⟩
  by_cases h3 : y < 1
  · exact ⟨-1, by rw [if_neg h1, if_neg h2, if_pos h3]; rfl, by rw [if_neg h1, if_neg h2, if_pos h3]; rfl⟩
  by_cases h4 : 6 < y
  · exact ⟨-1, by rw [if_neg h1, if_neg h2, if_neg h3, if_pos h4]; rfl, by rw [if_neg h1, if_neg h2, if_neg h3, if_pos h4]; rfl⟩
  obtain ⟨m, m1, m2, rfl⟩ := num_12 (a := 1) (b := 1000) rfl rfl (by decide) (by decide) h1 h2
  obtain ⟨k, k1, k2, rfl⟩ := num_12 (a := 1) (b := 6) rfl rfl (by decide) (by decide) h3 h4
  rw [if_neg h1, if_neg h2, if_neg h3, if_neg h4, if_neg h1, if_neg h2, if_neg h3, if_neg h4, Option.bind_some, Option.bind_some, Option.bind_some, if_neg ne10, if_neg ne10]
  obtain ⟨r, r1, r2⟩ := f_lea_both hF k m 0 F.1 F.1 (by omega) m2 (by omega) (by omega)
  refine ⟨r, ?_, ?_⟩
  · unfold f_X2_leastShadow f_X2_leastShadow_0
    rw [r1]; rfl
  · rw [if_neg ne10]; exact r2
