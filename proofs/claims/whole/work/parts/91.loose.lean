/-! ===== Sets no two of which share a thing ===== -/
theorem sub_iff {y u : Nat} : y &&& u = y ↔ ∀ j, y.testBit j = true → u.testBit j = true := by
  constructor
  · intro h j q; exact sub_bit h q
  · intro h
    refine Nat.eq_of_testBit_eq fun j => ?_
    rw [Nat.testBit_and]
    cases q : y.testBit j
    · rfl
    · rw [h j q]; rfl
theorem dis_iff {y x : Nat} : y &&& x = 0 ↔ ∀ j, ¬ (y.testBit j = true ∧ x.testBit j = true) := by
  constructor
  · intro h j q
    have : (y &&& x).testBit j = true := by rw [Nat.testBit_and, q.1, q.2]; rfl
    rw [h, Nat.zero_testBit] at this; cases this
  · intro h
    refine Nat.eq_of_testBit_eq fun j => ?_
    rw [Nat.testBit_and, Nat.zero_testBit]
    cases q : y.testBit j
    · rfl
    · cases q2 : x.testBit j
      · rfl
      · exact absurd ⟨q, q2⟩ (h j)
theorem sb_0 : ∀ x, x < 64 → ∀ u, u < 64 → ¬ x &&& u = x ∨ u - x = u ^^^ x := by decide +kernel
theorem sb_iff {x u y : Nat} (hu : u < 64) (hx : x &&& u = x) : y &&& (u - x) = y ↔ y &&& u = y ∧ y &&& x = 0 := by
  have hxl := sub_bits hx
  rw [(sb_0 x (by omega) u hu).resolve_left (fun q => q hx), sub_iff, sub_iff, dis_iff]
  constructor
  · intro h
    refine ⟨fun j q => ?_, fun j q => ?_⟩
    · have := h j q
      rw [Nat.testBit_xor] at this
      cases q2 : u.testBit j
      · rw [q2] at this
        have q3 : x.testBit j = true := by rw [Bool.false_xor] at this; exact this
        rw [sub_bit hx q3] at q2; cases q2
      · rfl
    · have := h j q.1
      rw [Nat.testBit_xor, q.2, sub_bit hx q.2] at this; cases this
  · rintro ⟨h1, h2⟩ j q
    rw [Nat.testBit_xor, h1 j q]
    cases q2 : x.testBit j
    · rfl
    · exact absurd ⟨q, q2⟩ (h2 j)
def cf (a : Int64) (f : Nat) : Nat → Nat → Prop
  | 0, _ => True
  | k + 1, u => ∃ x, f ≤ x ∧ qb a x = true ∧ x &&& u = x ∧ cf a f k (u - x)
theorem cf_weak {a : Int64} {f f' : Nat} (h : f ≤ f') : ∀ {k u : Nat}, cf a f' k u → cf a f k u
  | 0, _, _ => True.intro
  | k + 1, u, ⟨x, h1, h2, h3, h4⟩ => ⟨x, by omega, h2, h3, cf_weak h h4⟩
theorem cf_sub {a : Int64} {f : Nat} : ∀ {k u u' : Nat}, u' < 64 → u &&& u' = u → cf a f k u → cf a f k u'
  | 0, _, _, _, _, _ => True.intro
  | k + 1, u, u', hu, hs, ⟨x, h1, h2, h3, h4⟩ => by
    have hul := sub_bits hs
    have hxu : x &&& u' = x := wi_trans h3 hs
    refine ⟨x, h1, h2, hxu, cf_sub (by omega) ?_ h4⟩
    rw [sb_iff hu hxu]
    have := (sb_iff (y := u - x) (u := u) (x := x) (by omega) h3).mp (Nat.and_self _)
    exact ⟨wi_trans this.1 hs, this.2⟩
theorem cf_rem {a : Int64} {f : Nat} (hf : 1 ≤ f) : ∀ {k u : Nat}, u < 64 → cf a f k u → cf a (f + 1) k u ∨ (1 ≤ k ∧ qb a f = true ∧ f &&& u = f ∧ cf a (f + 1) (k - 1) (u - f))
  | 0, u, _, _ => Or.inl True.intro
  | k + 1, u, hu, ⟨x, h1, h2, h3, h4⟩ => by
    have hxu := sub_bits h3
    rcases cf_rem hf (k := k) (u := u - x) (by omega) h4 with r | ⟨r1, r2, r3, r4⟩
    · by_cases e : x = f
      · subst e
        exact Or.inr ⟨by omega, h2, h3, by rw [Nat.add_sub_cancel]; exact r⟩
      · exact Or.inl ⟨x, by omega, h2, h3, r⟩
    · have s := (sb_iff (y := f) hu h3).mp r3
      by_cases e : x = f
      · subst e
        have := s.2
        rw [Nat.and_self] at this; omega
      · refine Or.inr ⟨by omega, r2, s.1, ?_⟩
        obtain ⟨m, rfl⟩ : ∃ m, k = m + 1 := ⟨k - 1, by omega⟩
        rw [Nat.add_sub_cancel] at r4 ⊢
        refine ⟨x, by omega, h2, (sb_iff hu s.1).mpr ⟨h3, by rw [Nat.and_comm]; exact s.2⟩, ?_⟩
        rw [show u - f - x = u - x - f by omega]; exact r4
theorem cf_bit {a : Int64} {b : Nat} (hb0 : 0 < b) (hb : ∀ x, x < 64 → b &&& x = b ∨ b &&& x = 0) : ∀ {k u : Nat}, u < 64 → b &&& u = b → cf a 1 k u → cf a 1 k (u - b) ∨ ∃ s, s &&& u = s ∧ b &&& s = b ∧ qb a s = true ∧ 1 ≤ k ∧ cf a 1 (k - 1) (u - s)
  | 0, u, _, _, _ => Or.inl True.intro
  | k + 1, u, hu, hbu, ⟨x, h1, h2, h3, h4⟩ => by
    have hxu := sub_bits h3
    rcases hb x (by omega) with q | q
    · exact Or.inr ⟨x, h3, q, h2, by omega, by rw [Nat.add_sub_cancel]; exact h4⟩
    · have hbx : b &&& (u - x) = b := (sb_iff hu h3).mpr ⟨hbu, q⟩
      have hxb : x &&& (u - b) = x := (sb_iff hu hbu).mpr ⟨h3, by rw [Nat.and_comm]; exact q⟩
      rcases cf_bit hb0 hb (k := k) (u := u - x) (by omega) hbx h4 with r | ⟨s, r1, r2, r3, r4, r5⟩
      · exact Or.inl ⟨x, h1, h2, hxb, by rw [show u - b - x = u - x - b by omega]; exact r⟩
      · have s1 := (sb_iff (y := s) hu h3).mp r1
        refine Or.inr ⟨s, s1.1, r2, r3, by omega, ?_⟩
        obtain ⟨m, rfl⟩ : ∃ m, k = m + 1 := ⟨k - 1, by omega⟩
        rw [Nat.add_sub_cancel] at r5 ⊢
        refine ⟨x, h1, h2, (sb_iff hu s1.1).mpr ⟨h3, by rw [Nat.and_comm]; exact s1.2⟩, ?_⟩
        rw [show u - s - x = u - x - s by omega]; exact r5
def lo (a : Int64) : Nat → Nat → Nat → Nat
  | 0, _, _ => 0
  | k + 1, i, u => if qb a i && decide (i &&& u = i) then max (1 + lo a k (i + 1) (u - i)) (lo a k (i + 1) u) else lo a k (i + 1) u
theorem lo_step (a : Int64) (k i u : Nat) : lo a (k + 1) i u = if qb a i && decide (i &&& u = i) then max (1 + lo a k (i + 1) (u - i)) (lo a k (i + 1) u) else lo a k (i + 1) u := rfl
theorem lo_le (a : Int64) : ∀ k i u, lo a k i u ≤ k
  | 0, _, _ => Nat.le_refl _
  | k + 1, i, u => by
    have h1 := lo_le a k (i + 1) (u - i)
    have h2 := lo_le a k (i + 1) u
    show (if (qb a i && decide (i &&& u = i)) = true then max (1 + lo a k (i + 1) (u - i)) (lo a k (i + 1) u) else lo a k (i + 1) u) ≤ k + 1
    cases (qb a i && decide (i &&& u = i))
    · rw [if_neg (by decide)]; omega
    · rw [if_pos rfl]; omega
theorem lo_fit {a : Int64} {m : Nat} (hfi : fits m a) : ∀ k e i u, i + k = m → lo a (k + e) i u = lo a k i u
  | 0, e, i, u, hi => by
    have key : ∀ e i u, m ≤ i → lo a e i u = 0 := by
      intro e
      induction e with
      | zero => intro i u _; rfl
      | succ e ih =>
        intro i u h
        show (if (qb a i && decide (i &&& u = i)) = true then _ else lo a e (i + 1) u) = 0
        rw [hfi i h, Bool.false_and, if_neg (by decide)]; exact ih (i + 1) u (by omega)
    rw [Nat.zero_add, key e i u (by omega)]; rfl
  | k + 1, e, i, u, hi => by
    rw [show k + 1 + e = (k + e) + 1 by omega]
    show (if (qb a i && decide (i &&& u = i)) = true then max (1 + lo a (k + e) (i + 1) (u - i)) (lo a (k + e) (i + 1) u) else lo a (k + e) (i + 1) u) = (if (qb a i && decide (i &&& u = i)) = true then max (1 + lo a k (i + 1) (u - i)) (lo a k (i + 1) u) else lo a k (i + 1) u)
    rw [lo_fit hfi k e (i + 1) (u - i) (by omega), lo_fit hfi k e (i + 1) u (by omega)]
theorem lo_is (a : Int64) : ∀ k i u, cf a i (lo a k i u) u
  | 0, _, _ => True.intro
  | k + 1, i, u => by
    have h1 := lo_is a k (i + 1) (u - i)
    have h2 := lo_is a k (i + 1) u
    show cf a i (if (qb a i && decide (i &&& u = i)) = true then max (1 + lo a k (i + 1) (u - i)) (lo a k (i + 1) u) else lo a k (i + 1) u) u
    cases q : (qb a i && decide (i &&& u = i))
    · rw [if_neg (by decide)]; exact cf_weak (by omega) h2
    · rw [if_pos rfl]
      rw [Bool.and_eq_true, decide_eq_true_iff] at q
      by_cases e : lo a k (i + 1) u ≤ 1 + lo a k (i + 1) (u - i)
      · rw [Nat.max_eq_left e, Nat.add_comm]
        exact ⟨i, Nat.le_refl _, q.1, q.2, cf_weak (by omega) h1⟩
      · rw [Nat.max_eq_right (by omega)]; exact cf_weak (by omega) h2
theorem lo_max (a : Int64) : ∀ k i u m, i + k = 64 → 1 ≤ i → u < 64 → cf a i m u → m ≤ lo a k i u
  | 0, i, u, 0, _, _, _, _ => Nat.le_refl _
  | 0, i, u, m + 1, hi, _, _, ⟨x, h1, h2, _, _⟩ => by have := qb_lt h2; omega
  | k + 1, i, u, m, hi, h1, hu, h => by
    show m ≤ (if (qb a i && decide (i &&& u = i)) = true then max (1 + lo a k (i + 1) (u - i)) (lo a k (i + 1) u) else lo a k (i + 1) u)
    rcases cf_rem h1 hu h with r | ⟨r1, r2, r3, r4⟩
    · have := lo_max a k (i + 1) u m (by omega) (by omega) hu r
      cases (qb a i && decide (i &&& u = i))
      · rw [if_neg (by decide)]; exact this
      · rw [if_pos rfl]; omega
    · have := lo_max a k (i + 1) (u - i) (m - 1) (by omega) (by omega) (by omega) r4
      rw [r2, decide_eq_true r3, Bool.and_self, if_pos rfl]; omega
def dj (a : Int64) (u : Nat) : Nat := lo a 63 1 u
theorem dj_is (a : Int64) (u : Nat) : cf a 1 (dj a u) u := lo_is a 63 1 u
theorem dj_max {a : Int64} {u m : Nat} (hu : u < 64) (h : cf a 1 m u) : m ≤ dj a u := lo_max a 63 1 u m rfl (Nat.le_refl _) hu h
theorem dj_le (a : Int64) (u : Nat) : dj a u ≤ 63 := lo_le a 63 1 u
theorem dj_0 (a : Int64) : dj a 0 = 0 := by
  have h := dj_is a 0
  cases e : dj a 0 with
  | zero => rfl
  | succ m =>
    rw [e] at h
    obtain ⟨x, h1, _, h3, _⟩ := h
    rw [Nat.and_zero] at h3; omega
/-! the class's way -/
def lw (m : Nat) : Nat := (nI m &&& (-nI m)).toNatClampNeg
theorem lw_1 : ∀ m, m < 64 → nI m &&& (-nI m) = nI (lw m) ∧ lw m ≤ m ∧ lw m &&& (63 - (m - lw m)) = lw m ∧ lw m &&& m = lw m := by decide +kernel
theorem lw_2 : ∀ m, m < 64 → ∀ x, x < 64 → lw m &&& x = lw m ∨ lw m &&& x = 0 := by decide +kernel
theorem lw_3 : ∀ m, m < 64 → ∀ s, s < 64 → (s &&& (63 - (m - lw m)) = lw m ↔ s &&& m = s ∧ lw m &&& s = lw m) := by decide +kernel
theorem lw_4 : ∀ m, m < 64 → m = 0 ∨ 0 < lw m := by decide +kernel
/-- the most with sets of r from i on -/
def mxS (a r : Int64) (m : Nat) : Nat → Nat → Nat → Nat
  | 0, _, b => b
  | k + 1, i, b => if qb r i then mxS a r m k (i + 1) (max b (1 + dj a (m - i))) else mxS a r m k (i + 1) b
theorem mxS_ge (a r : Int64) (m : Nat) : ∀ k i b, b ≤ mxS a r m k i b
  | 0, _, _ => Nat.le_refl _
  | k + 1, i, b => by
    show b ≤ (if qb r i = true then mxS a r m k (i + 1) (max b (1 + dj a (m - i))) else mxS a r m k (i + 1) b)
    cases qb r i
    · rw [if_neg (by decide)]; exact mxS_ge a r m k (i + 1) b
    · rw [if_pos rfl]; exact Nat.le_trans (Nat.le_max_left _ _) (mxS_ge a r m k (i + 1) _)
theorem mxS_of (a r : Int64) (m : Nat) {s : Nat} (hs : qb r s = true) : ∀ k i b, i ≤ s → s < i + k → 1 + dj a (m - s) ≤ mxS a r m k i b
  | 0, i, b, h1, h2 => by omega
  | k + 1, i, b, h1, h2 => by
    show _ ≤ (if qb r i = true then mxS a r m k (i + 1) (max b (1 + dj a (m - i))) else mxS a r m k (i + 1) b)
    by_cases e : i = s
    · subst e
      rw [if_pos hs]
      exact Nat.le_trans (Nat.le_max_right _ _) (mxS_ge a r m k (i + 1) _)
    · cases qb r i
      · rw [if_neg (by decide)]; exact mxS_of a r m hs k (i + 1) b (by omega) (by omega)
      · rw [if_pos rfl]; exact mxS_of a r m hs k (i + 1) _ (by omega) (by omega)
theorem mxS_le (a r : Int64) (m V : Nat) (h : ∀ s, qb r s = true → 1 + dj a (m - s) ≤ V) : ∀ k i b, b ≤ V → mxS a r m k i b ≤ V
  | 0, _, _, hb => hb
  | k + 1, i, b, hb => by
    show (if qb r i = true then mxS a r m k (i + 1) (max b (1 + dj a (m - i))) else mxS a r m k (i + 1) b) ≤ V
    cases q : qb r i
    · rw [if_neg (by decide)]; exact mxS_le a r m V h k (i + 1) b hb
    · rw [if_pos rfl]; exact mxS_le a r m V h k (i + 1) _ (Nat.max_le.mpr ⟨hb, h i q⟩)
theorem mxS_dj {a r : Int64} {m : Nat} (h1 : 1 ≤ m) (hm : m < 64) (hr : ∀ s, s < 64 → (qb r s = true ↔ qb a s = true ∧ s &&& m = s ∧ lw m &&& s = lw m)) : mxS a r m 64 0 (dj a (m - lw m)) = dj a m := by
  obtain ⟨w1, w2, w3, w4⟩ := lw_1 m hm
  have w5 := (lw_4 m hm).resolve_left (by omega)
  refine Nat.le_antisymm (mxS_le a r m (dj a m) (fun s hs => ?_) 64 0 _ ?_) ?_
  · have hs64 := qb_lt hs
    obtain ⟨r1, r2, r3⟩ := (hr s hs64).mp hs
    have hs1 : 1 ≤ s := by have := sub_bits r3; omega
    refine dj_max hm ?_
    rw [Nat.add_comm]
    exact ⟨s, hs1, r1, r2, dj_is a (m - s)⟩
  · refine dj_max hm (cf_sub hm ?_ (dj_is a (m - lw m)))
    exact ((sb_iff hm w4).mp (Nat.and_self _)).1
  · rcases cf_bit w5 (lw_2 m hm) hm w4 (dj_is a m) with r0 | ⟨s, r1, r2, r3, r4, r5⟩
    · exact Nat.le_trans (dj_max (by omega) r0) (mxS_ge a r m 64 0 _)
    · have hs64 := qb_lt r3
      have h2 := dj_max (u := m - s) (by omega) r5
      have h3 := mxS_of a r m ((hr s hs64).mpr ⟨r3, r1, r2⟩) 64 0 (dj a (m - lw m)) (by omega) (by omega)
      omega
section B91
variable {sc : Nat × (Nat → Int32)} {n : Nat} {cl : Int32} {P : Nat → PL} {ly : Nat → Int64} {sp st : Nat → Int32} {sk : Int32} {sd : Nat → Int32} {sm : Nat → Int64} {X M : Nat → rx_C} {w : Nat → Int64} {g : List rx_C} {th mc pk : Int32} {kd td : Nat → Int32} {fm pr : Nat → Int64} {sz : Nat → Int32} {ro : Nat → Int64} {tu pe tr : Nat → Int32} {as : Nat → Int64}
theorem f_md_in {F : Nat × Nat} (a r : Int64) {m : Nat} (hm : m < 64) (hr : ∀ s, qb r s = true → 1 ≤ s ∧ s ≤ m) (hsd : ∀ j, j < m → sd j = nI (dj a j)) (al : Int32) (k10 : Nat → Int64 → Int32 → Int32 → Option rx_H → Option (Int32 × Option rx_H)) : ∀ k i f b, i + k = 64 → k < f → b < 1000 → f_X5_mostDisjoint_67 F k10 f 35 a al (nI m) (nI b) r (nI (qn r i)) (hp sc (cx n cl P ly sp st sk sd sm) M w g) = k10 35 a al (nI (m + 1)) (hp sc (cx n cl P ly sp st sk (upd sd m (nI (mxS a r m k i b))) sm) M w g) := by
  intro k
  induction k with
  | zero =>
    intro i f b hi hf hb
    obtain ⟨f, rfl⟩ : ∃ g, f = g + 1 := ⟨f - 1, by omega⟩
    rw [qn_big r (by omega), f_X5_mostDisjoint_67, if_pos (nI_lt hm (by omega)), gx_sd, Option.bind_some, sx_sd hm, Option.bind_some, nI_1]
    rfl
  | succ k ih =>
    intro i f b hi hf hb
    obtain ⟨f, rfl⟩ : ∃ g, f = g + 1 := ⟨f - 1, by omega⟩
    cases q : qb r i
    · rw [qn_no q]
      have e : mxS a r m (k + 1) i b = mxS a r m k (i + 1) b := by show (if qb r i = true then _ else _) = _; rw [q]; rfl
      rw [e]
      exact ih (i + 1) (f + 1) b (by omega) (by omega) hb
    · obtain ⟨r1, r2⟩ := hr i q
      have e : mxS a r m (k + 1) i b = mxS a r m k (i + 1) (max b (1 + dj a (m - i))) := by show (if qb r i = true then _ else _) = _; rw [q]; rfl
      have hd := dj_le a (m - i)
      have e1 : f_J9_max_7cf53 F (nI b) ((1 : Int32) + nI (dj a (m - i))) = some (nI (max b (1 + dj a (m - i)))) := by
        unfold f_J9_max_7cf53 f_J9_max_7cf53_0
        rw [show (1 : Int32) + nI (dj a (m - i)) = nI (1 + dj a (m - i)) from nI_add 1 _]
        by_cases h : b < 1 + dj a (m - i)
        · rw [if_pos (nI_lt h (by omega)), Nat.max_eq_right (by omega)]
        · rw [if_neg (nI_nlt (by omega) (by omega)), Nat.max_eq_left (by omega)]
      rw [qn_yes q, f_X5_mostDisjoint_67, if_neg (nI_nlt r2 (by omega)), gx_sd, Option.bind_some, pk_sub r2, ax_sd (by omega), Option.bind_some, hsd (m - i) (by omega), e1, Option.bind_some, nI_1, f_next_eq F _ (by omega), Option.bind_some, e]
      exact ih (i + 1) f _ (by omega) (by omega) (by omega)
theorem f_md {F : Nat × Nat} (hF : 100000 ≤ F.1) (hn3 : 3 ≤ n) (hn6 : n ≤ 6) (a : Int64) : ∃ sd' : Nat → Int32, f_X5_mostDisjoint F 35 a (nI (2 ^ n)) (hp sc (cx n cl P ly sp st sk sd sm) M w g) = some (nI (dj a (2 ^ n - 1) + if qb a 0 then 1 else 0), (hp sc (cx n cl P ly sp st sk (sd') sm) M w g)) := by
  have ha := all_le hn6
  have h8 : 8 ≤ 2 ^ n := Nat.pow_le_pow_right (n := 2) (by decide) hn3
  have fin : ∀ (sd : Nat → Int32), (∀ j, j < 2 ^ n → sd j = nI (dj a j)) → f_X5_mostDisjoint_122 F 35 a (nI (2 ^ n)) (hp sc (cx n cl P ly sp st sk sd sm) M w g) = some (nI (dj a (2 ^ n - 1) + if qb a 0 then 1 else 0), (hp sc (cx n cl P ly sp st sk sd sm) M w g)) := by
    intro sd h
    rw [f_X5_mostDisjoint_122, gx_sd, Option.bind_some, show (1 : Int32) = nI 1 from rfl, pk_sub (by omega), ax_sd (by omega), Option.bind_some, h _ (by omega), show (0 : Int32) = nI 0 from rfl, f_holdsSet_eq F _ (by omega), Option.bind_some]
    cases qb a 0
    · rw [if_pos (by rfl), nI_add]; rfl
    · rw [if_neg (by decide), nI_add]; rfl
  have key : ∀ k m f (sd : Nat → Int32), m + k = 2 ^ n → 1 ≤ m → k < f → (∀ j, j < m → sd j = nI (dj a j)) → ∃ sd' : Nat → Int32, f_X5_mostDisjoint_10 F f 35 a (nI (2 ^ n)) (nI m) (hp sc (cx n cl P ly sp st sk sd sm) M w g) = some (nI (dj a (2 ^ n - 1) + if qb a 0 then 1 else 0), (hp sc (cx n cl P ly sp st sk (sd') sm) M w g)) := by
    intro k
    induction k with
    | zero =>
      intro m f sd hm _ hf h
      obtain ⟨f, rfl⟩ : ∃ g, f = g + 1 := ⟨f - 1, by omega⟩
      obtain rfl : m = 2 ^ n := by omega
      refine ⟨sd, ?_⟩
      rw [f_X5_mostDisjoint_10, if_neg (nI_nlt (Nat.le_refl _) (by omega))]
      exact fin sd h
    | succ k ih =>
      intro m f sd hm h1 hf h
      obtain ⟨f, rfl⟩ : ∃ g, f = g + 1 := ⟨f - 1, by omega⟩
      have hm64 : m < 64 := by omega
      obtain ⟨w1, w2, w3, w4⟩ := lw_1 m hm64
      have w5 := (lw_4 m hm64).resolve_left (by omega)
      have hr : ∀ s, s < 64 → (qb (a &&& (wIn (m - lw m) <<< ((nI (lw m)).toInt64 &&& 63))) s = true ↔ qb a s = true ∧ s &&& m = s ∧ lw m &&& s = lw m) := fun s hs => by
        rw [qb_and, Bool.and_eq_true, qb_shl _ (by omega) hs, qb_wIn (by omega) (by omega), Bool.and_eq_true, decide_eq_true_iff, decide_eq_true_iff, ← lw_3 m hm64 s hs, ← fl_4 (c := lw m) (u := 63 - (m - lw m)) (by omega) hs w3, show 63 - (63 - (m - lw m)) = m - lw m by omega]
      have hr2 : ∀ s, qb (a &&& (wIn (m - lw m) <<< ((nI (lw m)).toInt64 &&& 63))) s = true → 1 ≤ s ∧ s ≤ m := fun s hs => by
        obtain ⟨r1, r2, r3⟩ := (hr s (qb_lt hs)).mp hs
        have := sub_bits r2
        have := sub_bits r3
        omega
      have hd := dj_le a (m - lw m)
      obtain ⟨sd', s1⟩ := ih (m + 1) f (upd sd m (nI (dj a m))) (by omega) (by omega) (by omega) (fun j hj => by
        by_cases e : j = m
        · subst e; exact pk_us
        · rw [pk_un e]; exact h j (by omega))
      refine ⟨sd', ?_⟩
      rw [f_X5_mostDisjoint_10, if_pos (nI_lt (by omega) (by omega)), if_pos (show nI m < 64 from nI_lt (b := 64) hm64 (by decide)), gx_sd, Option.bind_some, w1, pk_sub w2, ax_sd (by omega), Option.bind_some, h _ (by omega), f_within_eq (by omega) (by omega), Option.bind_some, show (0 : Int32) = nI 0 from rfl, f_next_eq F _ (by omega), Option.bind_some, f_md_in a _ hm64 hr2 h _ _ 64 0 F.1 _ (by omega) (by omega) (by omega), mxS_dj h1 hm64 hr]
      exact s1
  unfold f_X5_mostDisjoint f_X5_mostDisjoint_0
  rw [gx_sd, Option.bind_some, show rx_sI (hp sc (cx n cl P ly sp st sk sd sm) M w g) 38 0 0 = rx_sI (hp sc (cx n cl P ly sp st sk sd sm) M w g) 38 (nI 0) 0 from rfl, sx_sd (by omega), Option.bind_some]
  exact key (2 ^ n - 1) 1 F.1 (upd sd 0 0) (by omega) (by omega) (by omega) (fun j hj => by
    obtain rfl : j = 0 := by omega
    rw [pk_us, dj_0]; rfl)
/-! the model's way -/
theorem f_ml {F : Nat × Nat} (hF : 100000 ≤ F.1) (hn6 : n ≤ 6) (a : Int64) : ∀ d i us, 2 ^ n - i < d → i ≤ 2 ^ n → us < 2 ^ n → f_X7_looseFrom F d 40 a (nI i) (nI us) (hp sc X (cm n th mc pk kd td fm pr sz ro tu pe tr as) w g) = some (nI (lo a (2 ^ n - i) i (2 ^ n - 1 - us)), (hp sc X (cm n th mc pk kd td fm pr sz ro tu pe tr as) w g)) := by
  have ha := all_le hn6
  intro d
  induction d with
  | zero => intro i us h; omega
  | succ d ihd =>
    intro i us hd hi hus
    have loop : ∀ k i f b, i + k = 2 ^ n → 2 ^ n - i ≤ d → k < f → b < 1000 → f_X7_looseFrom_6 F (f_X7_looseFrom F d) f 40 a (nI us) (nI b) (nI i) (hp sc X (cm n th mc pk kd td fm pr sz ro tu pe tr as) w g) = some (nI (max b (lo a k i (2 ^ n - 1 - us))), (hp sc X (cm n th mc pk kd td fm pr sz ro tu pe tr as) w g)) := by
      intro k
      induction k with
      | zero =>
        intro i f b hi _ hf hb
        obtain ⟨f, rfl⟩ : ∃ g, f = g + 1 := ⟨f - 1, by omega⟩
        obtain rfl : i = 2 ^ n := by omega
        rw [f_X7_looseFrom_6, gm_all, Option.bind_some, if_neg (nI_nlt (Nat.le_refl _) (by omega)), show lo a 0 (2 ^ n) (2 ^ n - 1 - us) = 0 from rfl, Nat.max_zero]
      | succ k ih =>
        intro i f b hi hd2 hf hb
        obtain ⟨f, rfl⟩ : ∃ g, f = g + 1 := ⟨f - 1, by omega⟩
        have hi64 : i < 64 := by omega
        have co := co_fin n (by omega) us hus i (by omega)
        have hle := lo_le a k (i + 1) (2 ^ n - 1 - us - i)
        show _ = some (nI (max b (if (qb a i && decide (i &&& (2 ^ n - 1 - us) = i)) = true then max (1 + lo a k (i + 1) (2 ^ n - 1 - us - i)) (lo a k (i + 1) (2 ^ n - 1 - us)) else lo a k (i + 1) (2 ^ n - 1 - us))), (hp sc X (cm n th mc pk kd td fm pr sz ro tu pe tr as) w g))
        rw [f_X7_looseFrom_6, gm_all, Option.bind_some, if_pos (nI_lt (by omega) (by omega)), f_mhas_eq F _ hi64, Option.bind_some]
        cases q : qb a i
        · rw [bf, if_pos rfl, nI_1, Bool.false_and, if_neg (by decide)]
          exact ih (i + 1) f b (by omega) (by omega) (by omega) hb
        · rw [bt, if_neg ne10, nI_and hi64 (by omega)]
          have hand : i &&& us < 64 := and_l hi64
          by_cases h0 : i &&& us = 0
          · have h1 : us &&& i = 0 := by rw [Nat.and_comm]; exact h0
            have h2 := (fl_1 us (by omega) i hi64).resolve_left (fun q => q h1)
            have h3 : us ||| i < 2 ^ n := or_l hus (by omega)
            have ei := ihd (i + 1) (us ||| i) (by omega) (by omega) h3
            rw [show 2 ^ n - (i + 1) = k by omega, show 2 ^ n - 1 - (us ||| i) = 2 ^ n - 1 - us - i by omega] at ei
            rw [if_pos (by rw [h0]; rfl), ck_40, Option.bind_some, nI_or (by omega) hi64, nI_1, ei, Option.bind_some, show (1 : Int32) + nI (lo a k (i + 1) (2 ^ n - 1 - us - i)) = nI (1 + lo a k (i + 1) (2 ^ n - 1 - us - i)) from nI_add 1 _, decide_eq_true (co.mpr h0), Bool.true_and, if_pos rfl]
            by_cases h4 : b < 1 + lo a k (i + 1) (2 ^ n - 1 - us - i)
            · rw [if_pos (nI_lt h4 (by omega)), ih (i + 1) f _ (by omega) (by omega) (by omega) (by omega)]
              congr 3; omega
            · rw [if_neg (nI_nlt (by omega) (by omega)), ih (i + 1) f _ (by omega) (by omega) (by omega) hb]
              congr 3; omega
          · rw [if_neg (nI_ne0 (by omega) (by omega)), nI_1, decide_eq_false (fun h => h0 (co.mp h)), Bool.and_false, if_neg (by decide)]
            exact ih (i + 1) f b (by omega) (by omega) (by omega) hb
    rw [f_X7_looseFrom, f_X7_looseFrom_0]
    have := loop (2 ^ n - i) i F.1 0 (by omega) (by omega) (by omega) (by omega)
    rw [Nat.zero_max] at this
    exact this
theorem lo_all (hn6 : n ≤ 6) {a : Int64} (hfi : fits (2 ^ n) a) : lo a (2 ^ n) 0 (2 ^ n - 1) = dj a (2 ^ n - 1) + if qb a 0 then 1 else 0 := by
  have ha := all_le hn6
  have h1 := Nat.two_pow_pos n
  have e := lo_fit hfi (2 ^ n) (64 - 2 ^ n) 0 (2 ^ n - 1) (by omega)
  rw [show 2 ^ n + (64 - 2 ^ n) = 63 + 1 by omega] at e
  rw [← e, lo_step, decide_eq_true (Nat.zero_and (2 ^ n - 1)), Bool.and_true, Nat.sub_zero, Nat.zero_add]
  unfold dj
  generalize lo a 63 1 (2 ^ n - 1) = V
  cases qb a 0
  · rw [if_neg (by decide), if_neg (by decide), Nat.add_zero]
  · rw [if_pos rfl, if_pos rfl]; omega
end B91
theorem st_loose {F : Nat × Nat} (hF : 100000 ≤ F.1) (hF2 : 100 ≤ F.2) {sc : Nat × (Nat → Int32)} {c : Nat} (x : Int32) : stepI sc c (f_X6_loose F 0 x) (f_X7_loose F 40 x) := by
  refine stepI.mk fun n cl P ly sp st sk sd sm th mc pk kd td fm pr sz ro tu pe tr as w g hR => ?_
  have hn6 := hR.1.2
  have ha := all_le hn6
  rcases place_or x with ⟨p, hp_, rfl⟩ | hnp
  · have hkp := (hR.2.2.1 p hp_).1
    by_cases h0 : refu (kd p) = 0
    · obtain ⟨jp, hjp, hkjp, hsep, hfip, tp, htp, http, hppp, hkvp⟩ := fam_of (hR.2.2.1 p hp_) h0
      obtain ⟨sd', s1⟩ := f_md (sc := sc) (n := n) (cl := cl) (P := P) (ly := ly) (sp := sp) (st := st) (sk := sk) (sd := sd) (sm := sm) (M := cm n th mc pk kd td fm pr sz ro tu pe tr as) (w := w) (g := g) hF hR.1.1 hn6 (fm p)
      have m1 := f_ml (sc := sc) (n := n) (X := cx n cl P ly sp st sk sd' sm) (w := w) (g := g) (th := th) (mc := mc) (pk := pk) (kd := kd) (td := td) (fm := fm) (pr := pr) (sz := sz) (ro := ro) (tu := tu) (pe := pe) (tr := tr) (as := as) hF hn6 (fm p) F.2 0 0 (by omega) (Nat.zero_le _) (Nat.two_pow_pos n)
      rw [Nat.sub_zero, Nat.sub_zero, lo_all hn6 hfip] at m1
      have m2 : f_X7_looseFrom F F.2 40 (fm p) 0 0 (hp sc (cx n cl P ly sp st sk sd' sm) (cm n th mc pk kd td fm pr sz ro tu pe tr as) w g) = some (nI (dj (fm p) (2 ^ n - 1) + if qb (fm p) 0 then 1 else 0), hp sc (cx n cl P ly sp st sk sd' sm) (cm n th mc pk kd td fm pr sz ro tu pe tr as) w g) := m1
      refine ⟨nI (dj (fm p) (2 ^ n - 1) + if qb (fm p) 0 then 1 else 0), cl, P, sp, st, sk, sd', sm, th, mc, pk, kd, td, fm, pr, sz, ro, tu, pe, tr, as, ?_, ?_, hR⟩
      · simp only [f_X6_loose, f_X6_loose_0, Option.bind_some, ck_0, ck_40, ck_35, gx_n, gx_all, gx_shelf, gx_lay, gx_seek, gx_cl, gm_n, gm_all, gm_kd, gm_td, gm_fm, gm_pr, gm_sz, gm_rw, gm_tu, gm_pe, gm_tr, gm_as, gm_mc, gm_pk, gm_th, f_famRef_no, ne10, nm10, if_true, if_false, eq_self, ne10, f_isPlace_yes F _ hp_, f_mPlace_yes F hp_, ax_shelf hp_, f_famRef_eq F hp_, f_lacks_eq F hp_, gp_se hp_, gp_ho hp_, gp_le hp_, gp_pa hp_, am_kd hp_, am_td hp_, am_fm hp_, am_pr hp_, hkp, h0, hsep, s1]
      · simp only [f_X7_loose, f_X7_loose_0, Option.bind_some, ck_0, ck_40, ck_35, gx_n, gx_all, gx_shelf, gx_lay, gx_seek, gx_cl, gm_n, gm_all, gm_kd, gm_td, gm_fm, gm_pr, gm_sz, gm_rw, gm_tu, gm_pe, gm_tr, gm_as, gm_mc, gm_pk, gm_th, f_famRef_no, ne10, nm10, if_true, if_false, eq_self, ne10, f_isPlace_yes F _ hp_, f_mPlace_yes F hp_, ax_shelf hp_, f_famRef_eq F hp_, f_lacks_eq F hp_, gp_se hp_, gp_ho hp_, gp_le hp_, gp_pa hp_, am_kd hp_, am_td hp_, am_fm hp_, am_pr hp_, hkp, h0, hsep, m2]
    · refine ⟨refu (kd p), cl, P, sp, st, sk, sd, sm, th, mc, pk, kd, td, fm, pr, sz, ro, tu, pe, tr, as, ?_, ?_, hR⟩
      · simp only [f_X6_loose, f_X6_loose_0, Option.bind_some, ck_0, ck_40, ck_35, gx_n, gx_all, gx_shelf, gx_lay, gx_seek, gx_cl, gm_n, gm_all, gm_kd, gm_td, gm_fm, gm_pr, gm_sz, gm_rw, gm_tu, gm_pe, gm_tr, gm_as, gm_mc, gm_pk, gm_th, f_famRef_no, ne10, nm10, if_true, if_false, eq_self, ne10, f_isPlace_yes F _ hp_, f_mPlace_yes F hp_, ax_shelf hp_, f_famRef_eq F hp_, f_lacks_eq F hp_, gp_se hp_, gp_ho hp_, gp_le hp_, gp_pa hp_, am_kd hp_, am_td hp_, am_fm hp_, am_pr hp_, hkp, h0]
      · simp only [f_X7_loose, f_X7_loose_0, Option.bind_some, ck_0, ck_40, ck_35, gx_n, gx_all, gx_shelf, gx_lay, gx_seek, gx_cl, gm_n, gm_all, gm_kd, gm_td, gm_fm, gm_pr, gm_sz, gm_rw, gm_tu, gm_pe, gm_tr, gm_as, gm_mc, gm_pk, gm_th, f_famRef_no, ne10, nm10, if_true, if_false, eq_self, ne10, f_isPlace_yes F _ hp_, f_mPlace_yes F hp_, ax_shelf hp_, f_famRef_eq F hp_, f_lacks_eq F hp_, gp_se hp_, gp_ho hp_, gp_le hp_, gp_pa hp_, am_kd hp_, am_td hp_, am_fm hp_, am_pr hp_, hkp, h0]
  · refine ⟨-1, cl, P, sp, st, sk, sd, sm, th, mc, pk, kd, td, fm, pr, sz, ro, tu, pe, tr, as, ?_, ?_, hR⟩
    · simp only [f_X6_loose, f_X6_loose_0, Option.bind_some, ck_0, ck_40, ck_35, gx_n, gx_all, gx_shelf, gx_lay, gx_seek, gx_cl, gm_n, gm_all, gm_kd, gm_td, gm_fm, gm_pr, gm_sz, gm_rw, gm_tu, gm_pe, gm_tr, gm_as, gm_mc, gm_pk, gm_th, f_famRef_no, ne10, nm10, if_true, if_false, eq_self, ne10, f_isPlace_no F _ hnp, f_mPlace_no F hnp, f_famRef_out F hnp, f_rowRef_out F hnp]
    · simp only [f_X7_loose, f_X7_loose_0, Option.bind_some, ck_0, ck_40, ck_35, gx_n, gx_all, gx_shelf, gx_lay, gx_seek, gx_cl, gm_n, gm_all, gm_kd, gm_td, gm_fm, gm_pr, gm_sz, gm_rw, gm_tu, gm_pe, gm_tr, gm_as, gm_mc, gm_pk, gm_th, f_famRef_no, ne10, nm10, if_true, if_false, eq_self, ne10, f_isPlace_no F _ hnp, f_mPlace_no F hnp, f_famRef_out F hnp, f_rowRef_out F hnp]
