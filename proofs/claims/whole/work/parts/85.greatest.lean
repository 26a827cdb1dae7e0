/-! ===== The greatest families any two of which share enough ===== -/
theorem qb_pred (x : Int64) {j : Nat} (hj : j < 64) : qb (x - 1) j = !(qb x j ^^ decide (∃ i, i < j ∧ qb x i = true)) := by
  have e : (x - 1).toBitVec = ~~~(-x).toBitVec := by
    rw [Int64.toBitVec_neg, BitVec.not_neg]; rfl
  show (x - 1).toBitVec.getLsbD j = _
  rw [e, BitVec.getLsbD_not, show (-x).toBitVec.getLsbD j = qb (-x) j from rfl, qb_neg x hj, decide_eq_true hj, Bool.true_and]
def om (nr : Nat → Nat → Bool) : Nat → (Nat → Bool) → Nat → Nat
  | 0, _, _ => 0
  | k + 1, c, i => if c i = true then max (1 + om nr k (fun y => c y && nr i y) (i + 1)) (om nr k c (i + 1)) else om nr k c (i + 1)
def lx (nr : Nat → Nat → Bool) : Nat → (Nat → Bool) → Nat → Int64
  | 0, _, _ => 0
  | k + 1, c, i => if c i = true then (if om nr k c (i + 1) ≤ 1 + om nr k (fun y => c y && nr i y) (i + 1) then one i ||| lx nr k (fun y => c y && nr i y) (i + 1) else lx nr k c (i + 1)) else lx nr k c (i + 1)
theorem om_cong {nr : Nat → Nat → Bool} : ∀ (k i : Nat) {c c' : Nat → Bool}, (∀ y, i ≤ y → y < i + k → c y = c' y) → om nr k c i = om nr k c' i
  | 0, i, c, c', _ => rfl
  | k + 1, i, c, c', h => by
    show (if c i = true then max (1 + om nr k (fun y => c y && nr i y) (i + 1)) (om nr k c (i + 1)) else om nr k c (i + 1)) = (if c' i = true then max (1 + om nr k (fun y => c' y && nr i y) (i + 1)) (om nr k c' (i + 1)) else om nr k c' (i + 1))
    rw [h i (Nat.le_refl _) (by omega), om_cong k (i + 1) (c := c) (c' := c') (fun y h1 h2 => h y (by omega) (by omega)), om_cong k (i + 1) (c := fun y => c y && nr i y) (c' := fun y => c' y && nr i y) (fun y h1 h2 => by rw [h y (by omega) (by omega)])]
theorem lx_cong {nr : Nat → Nat → Bool} : ∀ (k i : Nat) {c c' : Nat → Bool}, (∀ y, i ≤ y → y < i + k → c y = c' y) → lx nr k c i = lx nr k c' i
  | 0, i, c, c', _ => rfl
  | k + 1, i, c, c', h => by
    show (if c i = true then (if om nr k c (i + 1) ≤ 1 + om nr k (fun y => c y && nr i y) (i + 1) then one i ||| lx nr k (fun y => c y && nr i y) (i + 1) else lx nr k c (i + 1)) else lx nr k c (i + 1)) = (if c' i = true then (if om nr k c' (i + 1) ≤ 1 + om nr k (fun y => c' y && nr i y) (i + 1) then one i ||| lx nr k (fun y => c' y && nr i y) (i + 1) else lx nr k c' (i + 1)) else lx nr k c' (i + 1))
    rw [h i (Nat.le_refl _) (by omega), om_cong k (i + 1) (c := c) (c' := c') (fun y h1 h2 => h y (by omega) (by omega)), om_cong k (i + 1) (c := fun y => c y && nr i y) (c' := fun y => c' y && nr i y) (fun y h1 h2 => by rw [h y (by omega) (by omega)]), lx_cong k (i + 1) (c := c) (c' := c') (fun y h1 h2 => h y (by omega) (by omega)), lx_cong k (i + 1) (c := fun y => c y && nr i y) (c' := fun y => c' y && nr i y) (fun y h1 h2 => by rw [h y (by omega) (by omega)])]
def oo (nr : Nat → Nat → Bool) (c : Nat → Bool) (i : Nat) : Nat := om nr (64 - i) c i
def ll (nr : Nat → Nat → Bool) (c : Nat → Bool) (i : Nat) : Int64 := lx nr (64 - i) c i
theorem oo_yes {nr : Nat → Nat → Bool} {c : Nat → Bool} {i : Nat} (hi : i < 64) (h : c i = true) : oo nr c i = max (1 + oo nr (fun y => c y && nr i y) (i + 1)) (oo nr c (i + 1)) := by
  unfold oo
  rw [show 64 - i = (64 - (i + 1)) + 1 by omega]
  show (if c i = true then _ else _) = _
  rw [if_pos h]
theorem oo_no {nr : Nat → Nat → Bool} {c : Nat → Bool} {i : Nat} (hi : i < 64) (h : c i = false) : oo nr c i = oo nr c (i + 1) := by
  unfold oo
  rw [show 64 - i = (64 - (i + 1)) + 1 by omega]
  show (if c i = true then _ else _) = _
  rw [if_neg (by rw [h]; decide)]
theorem ll_yes {nr : Nat → Nat → Bool} {c : Nat → Bool} {i : Nat} (hi : i < 64) (h : c i = true) : ll nr c i = if oo nr c (i + 1) ≤ 1 + oo nr (fun y => c y && nr i y) (i + 1) then one i ||| ll nr (fun y => c y && nr i y) (i + 1) else ll nr c (i + 1) := by
  unfold ll oo
  rw [show 64 - i = (64 - (i + 1)) + 1 by omega]
  show (if c i = true then _ else _) = _
  rw [if_pos h]
theorem ll_no {nr : Nat → Nat → Bool} {c : Nat → Bool} {i : Nat} (hi : i < 64) (h : c i = false) : ll nr c i = ll nr c (i + 1) := by
  unfold ll
  rw [show 64 - i = (64 - (i + 1)) + 1 by omega]
  show (if c i = true then _ else _) = _
  rw [if_neg (by rw [h]; decide)]
theorem oo_cong {nr : Nat → Nat → Bool} {c c' : Nat → Bool} {i : Nat} (h : ∀ y, i ≤ y → y < 64 → c y = c' y) : oo nr c i = oo nr c' i ∧ ll nr c i = ll nr c' i :=
  ⟨om_cong _ i fun y h1 h2 => h y h1 (by omega), lx_cong _ i fun y h1 h2 => h y h1 (by omega)⟩
theorem oo_skip {nr : Nat → Nat → Bool} {c : Nat → Bool} {j : Nat} (hj : j ≤ 64) : ∀ d i, i + d = j → (∀ y, i ≤ y → y < j → c y = false) → oo nr c i = oo nr c j ∧ ll nr c i = ll nr c j
  | 0, i, e, _ => by rw [show i = j by omega]; exact ⟨rfl, rfl⟩
  | d + 1, i, e, h => by
    have q := h i (Nat.le_refl _) (by omega)
    rw [oo_no (by omega) q, ll_no (by omega) q]
    exact oo_skip hj d (i + 1) (by omega) (fun y h1 h2 => h y (by omega) h2)
theorem oo_64 {nr : Nat → Nat → Bool} {c : Nat → Bool} : oo nr c 64 = 0 ∧ ll nr c 64 = 0 := ⟨rfl, rfl⟩
theorem om_le {nr : Nat → Nat → Bool} : ∀ (k i : Nat) (c : Nat → Bool), om nr k c i ≤ fb_ct (fun j => c (i + j)) k
  | 0, i, c => Nat.le_refl _
  | k + 1, i, c => by
    have e : fb_ct (fun j => c (i + j)) (k + 1) = (if c i then 1 else 0) + fb_ct (fun j => c (i + 1 + j)) k := by
      rw [show k + 1 = 1 + k by omega, fb_ct_split]
      have e1 : fb_ct (fun j => c (i + j)) 1 = if c i then 1 else 0 := by
        rw [fb_ct_succ]; show 0 + _ = _; rw [Nat.zero_add]; rfl
      rw [e1]
      congr 1
      exact fb_ct_cong fun j _ => by rw [Nat.add_assoc]
    have h1 := om_le k (i + 1) c (nr := nr)
    have h2 := om_le k (i + 1) (fun y => c y && nr i y) (nr := nr)
    have h3 : fb_ct (fun j => c (i + 1 + j) && nr i (i + 1 + j)) k ≤ fb_ct (fun j => c (i + 1 + j)) k := fb_ct_sub fun j _ q => by
      rw [Bool.and_eq_true] at q; exact q.1
    rw [e]
    show (if c i = true then max (1 + om nr k (fun y => c y && nr i y) (i + 1)) (om nr k c (i + 1)) else om nr k c (i + 1)) ≤ _
    have h2' : om nr k (fun y => c y && nr i y) (i + 1) ≤ fb_ct (fun j => c (i + 1 + j) && nr i (i + 1 + j)) k := h2
    cases q : c i
    · rw [if_neg (by decide), if_neg (by decide)]; omega
    · rw [if_pos rfl, if_pos rfl]; omega
theorem oo_le (nr : Nat → Nat → Bool) (c : Nat → Bool) : oo nr c 0 ≤ fb_ct c 64 := by
  have := om_le (nr := nr) 64 0 c
  have e : fb_ct (fun j => c (0 + j)) 64 = fb_ct c 64 := fb_ct_cong fun j _ => by rw [Nat.zero_add]
  rw [e] at this
  exact this
theorem lx_bit {nr : Nat → Nat → Bool} {y : Nat} : ∀ (k i : Nat) (c : Nat → Bool), i + k ≤ 64 → qb (lx nr k c i) y = true → i ≤ y ∧ c y = true
  | 0, i, c, _, h => by rw [show lx nr 0 c i = 0 from rfl, qb_0] at h; cases h
  | k + 1, i, c, hk, h => by
    have r1 := lx_bit k (i + 1) c (by omega) (nr := nr) (y := y)
    have r2 := lx_bit k (i + 1) (fun y => c y && nr i y) (by omega) (nr := nr) (y := y)
    have h' : qb (if c i = true then (if om nr k c (i + 1) ≤ 1 + om nr k (fun y => c y && nr i y) (i + 1) then one i ||| lx nr k (fun y => c y && nr i y) (i + 1) else lx nr k c (i + 1)) else lx nr k c (i + 1)) y = true := h
    cases q : c i
    · rw [q, if_neg (by decide)] at h'
      have := r1 h'
      exact ⟨by omega, this.2⟩
    · rw [q, if_pos rfl] at h'
      by_cases q2 : om nr k c (i + 1) ≤ 1 + om nr k (fun y => c y && nr i y) (i + 1)
      · rw [if_pos q2, qb_or, Bool.or_eq_true, qb_one (by omega), decide_eq_true_iff] at h'
        rcases h' with e | h'
        · rw [e]; exact ⟨Nat.le_refl _, q⟩
        · have := r2 h'
          rw [Bool.and_eq_true] at this
          exact ⟨by omega, this.2.1⟩
      · rw [if_neg q2] at h'
        have := r1 h'
        exact ⟨by omega, this.2⟩
theorem ll_bit {nr : Nat → Nat → Bool} {c : Nat → Bool} {i y : Nat} (hi : i ≤ 64) (h : qb (ll nr c i) y = true) : i ≤ y ∧ c y = true := lx_bit _ i c (by omega) h
/-- how many -/
theorem sz_or {a b : Int64} (h : ∀ y, ¬ (qb a y = true ∧ qb b y = true)) : fb_ct (qb (a ||| b)) 64 = fb_ct (qb a) 64 + fb_ct (qb b) 64 := by
  have e : fb_ct (qb (a ||| b)) 64 = fb_ct (fun y => qb a y || qb b y) 64 := fb_ct_cong fun y _ => qb_or a b y
  rw [e]
  exact fb_ct_or fun y _ => h y
theorem sz_one {x : Nat} (hx : x < 64) : fb_ct (qb (one x)) 64 = 1 := by
  have e : fb_ct (qb (one x)) 64 = fb_ct (fun y => decide (y = x)) 64 := fb_ct_cong fun y _ => qb_one hx y
  rw [e, ct_one, if_pos hx]
theorem sz_0 : fb_ct (qb 0) 64 = 0 := fb_ct_zero.mpr fun y _ => qb_0 y
theorem ll_sz {nr : Nat → Nat → Bool} : ∀ (k i : Nat) (c : Nat → Bool), i + k = 64 → fb_ct (qb (ll nr c i)) 64 = oo nr c i
  | 0, i, c, h => by rw [show i = 64 by omega]; exact sz_0
  | k + 1, i, c, h => by
    have r1 := ll_sz k (i + 1) c (by omega) (nr := nr)
    have r2 := ll_sz k (i + 1) (fun y => c y && nr i y) (by omega) (nr := nr)
    cases q : c i
    · rw [oo_no (by omega) q, ll_no (by omega) q]; exact r1
    · rw [oo_yes (by omega) q, ll_yes (by omega) q]
      by_cases q2 : oo nr c (i + 1) ≤ 1 + oo nr (fun y => c y && nr i y) (i + 1)
      · rw [if_pos q2, sz_or (fun y hy => by
          rw [qb_one (by omega), decide_eq_true_iff] at hy
          have := ll_bit (by omega) hy.2
          omega), sz_one (by omega), r2]
        omega
      · rw [if_neg q2, r1]; omega
theorem ll_zero {nr : Nat → Nat → Bool} {c : Nat → Bool} {i : Nat} (hi : i ≤ 64) (h : oo nr c i = 0) : ll nr c i = 0 := by
  have e := ll_sz (nr := nr) (64 - i) i c (by omega)
  rw [h] at e
  refine qb_ext fun y hy => ?_
  rw [qb_0]
  exact fb_ct_zero.mp e y hy
def nrT (t x y : Nat) : Bool := !decide (pc (x &&& y) < t)
/-! the class's way -/
def nE (a : Int64) (x t : Nat) : Nat → Int64
  | 0 => a
  | i + 1 => if qb a i && decide (pc (i &&& x) < t) then nE a x t i &&& (one i ^^^ (-1)) else nE a x t i
theorem qb_nE (a : Int64) (x t : Nat) {y : Nat} (hy : y < 64) : ∀ i, i ≤ 64 → qb (nE a x t i) y = (qb a y && !(decide (y < i) && decide (pc (y &&& x) < t)))
  | 0, _ => by simp [nE]
  | i + 1, hi => by
    have ih := qb_nE a x t hy i (by omega)
    show qb (if (qb a i && decide (pc (i &&& x) < t)) = true then nE a x t i &&& (one i ^^^ (-1)) else nE a x t i) y = _
    by_cases e : y = i
    · subst e
      rw [decide_eq_false (Nat.lt_irrefl y)] at ih
      rw [decide_eq_true (Nat.lt_succ_self y)]
      cases q : qb a y
      · rw [if_neg (by rw [Bool.false_and]; decide), ih, q]; rfl
      · cases q2 : decide (pc (y &&& x) < t)
        · rw [if_neg (by decide), ih, q]; rfl
        · rw [if_pos (by decide), qb_and, qb_not _ hy, qb_one hy]; simp
    · have e1 : decide (y < i + 1) = decide (y < i) := by
        by_cases q2 : y < i
        · rw [decide_eq_true q2, decide_eq_true (by omega)]
        · rw [decide_eq_false q2, decide_eq_false (by omega)]
      rw [e1, ← ih]
      cases (qb a i && decide (pc (i &&& x) < t))
      · rfl
      · rw [if_pos rfl, qb_and, qb_not _ hy, qb_one (by omega), decide_eq_false e]; simp
theorem f_near_eq {F : Nat × Nat} (hF : 100000 ≤ F.1) (a : Int64) {x t : Nat} (hx : x < 64) (ht : t < 7) : f_X5_near F a (nI x) (nI t) = some (nE a x t 64) := by
  have key : ∀ k  i f, i + k = 64 → k < f → f_X5_near_10 F f a (nI x) (nI t) (nE a x t i) (nI (qn a i)) = some (nE a x t 64) := by
    intro k
    induction k with
    | zero =>
      intro  i f  hi hf
      obtain ⟨f, rfl⟩ : ∃ g, f = g + 1 := ⟨f - 1, by omega⟩
      obtain rfl : i = 64 := by omega
      rw [qn_big a (Nat.le_refl _)]
      rw [f_X5_near_10, if_neg (by decide)]
    | succ k ih =>
      intro  i f  hi hf
      obtain ⟨f, rfl⟩ : ∃ g, f = g + 1 := ⟨f - 1, by omega⟩
      cases q : qb a i
      · have e : nE a x t (i + 1) = nE a x t i := by
          show (if (qb a i && decide (pc (i &&& x) < t)) = true then _ else _) = _
          rw [q]; rfl
        rw [qn_no q, ← e]
        exact ih (i + 1) (f + 1) (by omega) (by omega)
      · rw [qn_yes q]
        have hand : i &&& x < 64 := and_r hx
        have hp6 := pc_le (i &&& x)
        rw [f_X5_near_10, if_pos (show nI i < 64 from nI_lt (b := 64) (by omega) (by decide)), nI_and (by omega) hx, f_bits_eq F hand, Option.bind_some]
        by_cases h : pc (i &&& x) < t
        · have e : nE a x t (i + 1) = nE a x t i &&& (one i ^^^ (-1)) := by
            show (if (qb a i && decide (pc (i &&& x) < t)) = true then _ else _) = _
            rw [q, decide_eq_true h]; rfl
          rw [if_pos (nI_lt h (by omega)), f_X5_near_41, nI_1, f_next_eq F a (by omega), Option.bind_some, ← e]
          exact ih (i + 1) f (by omega) (by omega)
        · have e : nE a x t (i + 1) = nE a x t i := by
            show (if (qb a i && decide (pc (i &&& x) < t)) = true then _ else _) = _
            rw [q, decide_eq_false h]; rfl
          rw [if_neg (nI_nlt (by omega) (by omega)), f_X5_near_41, nI_1, f_next_eq F a (by omega), Option.bind_some, ← e]
          exact ih (i + 1) f (by omega) (by omega)
  unfold f_X5_near f_X5_near_0
  rw [show (0 : Int32) = nI 0 from rfl, f_next_eq F a (by omega), Option.bind_some]
  exact key 64 0 F.1 (by omega) (by omega)
theorem qn_lt {a : Int64} (h : ¬ a = 0) : qn a 0 < 64 := by
  obtain ⟨j, hj, q⟩ := qb_ne0.mp h
  refine Nat.not_le.mp fun h64 => ?_
  rw [qn_not a (Nat.zero_le j) (by omega)] at q; cases q
theorem qb_rest {a : Int64} (h : ¬ a = 0) {y : Nat} (hy : y < 64) : qb (a &&& (a - 1)) y = (qb a y && decide (qn a 0 < y)) := by
  have hx := qn_lt h
  rw [qb_and, qb_pred a hy]
  cases q : qb a y
  · rfl
  · by_cases e : qn a 0 < y
    · have : ∃ i, i < y ∧ qb a i = true := ⟨qn a 0, e, qn_is a hx⟩
      rw [decide_eq_true this, decide_eq_true e]; rfl
    · have : ¬ ∃ i, i < y ∧ qb a i = true := by
        rintro ⟨i, hi, q2⟩
        rw [qn_not a (Nat.zero_le i) (by omega)] at q2; cases q2
      rw [decide_eq_false this, decide_eq_false e]; rfl
/-- what is left of a family behind its least set, and what of that is near to it -/
theorem oo_split {t : Nat} {a r v : Int64} (h : ¬ a = 0) (hr : ∀ y, y < 64 → qb r y = (qb a y && decide (qn a 0 < y))) (hv : ∀ y, y < 64 → qb v y = (qb r y && nrT t (qn a 0) y)) : oo (nrT t) (qb a) 0 = max (1 + oo (nrT t) (qb v) 0) (oo (nrT t) (qb r) 0) ∧ ll (nrT t) (qb a) 0 = (if oo (nrT t) (qb r) 0 ≤ 1 + oo (nrT t) (qb v) 0 then one (qn a 0) ||| ll (nrT t) (qb v) 0 else ll (nrT t) (qb r) 0) ∧ fb_ct (qb r) 64 + 1 = fb_ct (qb a) 64 ∧ fb_ct (qb v) 64 ≤ fb_ct (qb r) 64 := by
  have hx := qn_lt h
  have hq := qn_is a hx
  obtain ⟨a1, a2⟩ := oo_skip (nr := nrT t) (c := qb a) (j := qn a 0) (by omega) (qn a 0) 0 (by omega) (fun y _ hy => qn_not a (Nat.zero_le y) hy)
  obtain ⟨r1, r2⟩ := oo_skip (nr := nrT t) (c := qb r) (j := qn a 0 + 1) (by omega) (qn a 0 + 1) 0 (by omega) (fun y _ hy => by rw [hr y (by omega), decide_eq_false (by omega)]; simp)
  obtain ⟨v1, v2⟩ := oo_skip (nr := nrT t) (c := qb v) (j := qn a 0 + 1) (by omega) (qn a 0 + 1) 0 (by omega) (fun y _ hy => by rw [hv y (by omega), hr y (by omega), decide_eq_false (by omega)]; simp)
  obtain ⟨r3, r4⟩ := oo_cong (nr := nrT t) (c := qb r) (c' := qb a) (i := qn a 0 + 1) (fun y h1 h2 => by rw [hr y h2, decide_eq_true (by omega)]; simp)
  obtain ⟨v3, v4⟩ := oo_cong (nr := nrT t) (c := qb v) (c' := fun y => qb a y && nrT t (qn a 0) y) (i := qn a 0 + 1) (fun y h1 h2 => by rw [hv y h2, hr y h2, decide_eq_true (by omega)]; simp)
  have s1 : fb_ct (qb r) 64 + 1 = fb_ct (qb a) 64 := by
    have e : a = r ||| one (qn a 0) := qb_ext fun y hy => by
      rw [qb_or, hr y hy, qb_one hx]
      by_cases e : y = qn a 0
      · rw [decide_eq_true e, e, hq]; simp
      · rw [decide_eq_false e]
        by_cases e2 : qn a 0 < y
        · rw [decide_eq_true e2]; simp
        · rw [decide_eq_false e2, qn_not a (Nat.zero_le y) (by omega)]; rfl
    have e2 : fb_ct (qb a) 64 = fb_ct (qb (r ||| one (qn a 0))) 64 := congrArg (fun z => fb_ct (qb z) 64) e
    rw [e2, sz_or (fun y hy => by
      have hy64 := qb_lt hy.1
      rw [hr y hy64, qb_one hx, decide_eq_true_iff, Bool.and_eq_true, decide_eq_true_iff] at hy
      omega), sz_one hx]
  refine ⟨?_, ?_, s1, fb_ct_sub fun y hy q => ?_⟩
  · rw [a1, r1, v1, r3, v3]; exact oo_yes hx hq
  · rw [a2, r1, v1, r3, v3, r2, v2, r4, v4]; exact ll_yes hx hq
  · rw [hv y hy, Bool.and_eq_true] at q; exact q.1
theorem f_lar {F : Nat × Nat} (hF : 100000 ≤ F.1) {t : Nat} (ht : t < 7) : ∀ d ch op best dep, fb_ct (qb op) 64 < d → dep + fb_ct (qb op) 64 ≤ 20 → (∀ y z, qb ch y = true → qb op z = true → y < z) → f_X5_largest F d ch op best (nI t) (nI dep) = some (if fb_ct (qb best) 64 < fb_ct (qb ch) 64 + oo (nrT t) (qb op) 0 then ch ||| ll (nrT t) (qb op) 0 else best) := by
  intro d
  induction d with
  | zero => intro ch op best dep h; omega
  | succ d ih =>
    intro ch op best dep hd hdep hord
    have hch := fb_ct_le (qb ch) 64
    have hop := fb_ct_le (qb op) 64
    have hbe := fb_ct_le (qb best) 64
    rw [f_X5_largest, f_X5_largest_0, f_size_eq, Option.bind_some]
    by_cases h0 : op = 0
    · have o0 : oo (nrT t) (qb op) 0 = 0 := by
        have := oo_le (nrT t) (qb op)
        rw [h0] at this ⊢
        have z := sz_0
        omega
      rw [if_pos h0, f_X5_largest_19, f_size_eq, Option.bind_some, o0, ll_zero (by omega) o0, or_0, Nat.add_zero]
      by_cases q : fb_ct (qb best) 64 < fb_ct (qb ch) 64
      · rw [if_pos (nI_lt q (by omega)), if_pos q]
      · rw [if_neg (nI_nlt (by omega) (by omega)), if_neg q]
    · have hx := qn_lt h0
      have hq := qn_is op hx
      have hr : ∀ y, y < 64 → qb (op &&& (op - 1)) y = (qb op y && decide (qn op 0 < y)) := fun y hy => qb_rest h0 hy
      have hv : ∀ y, y < 64 → qb (nE (op &&& (op - 1)) (qn op 0) t 64) y = (qb (op &&& (op - 1)) y && nrT t (qn op 0) y) := fun y hy => by
        rw [qb_nE _ _ _ hy 64 (Nat.le_refl _), decide_eq_true hy, Bool.true_and, Nat.and_comm y]; rfl
      obtain ⟨s1, s2, s3, s4⟩ := oo_split (t := t) h0 hr hv
      have hle := oo_le (nrT t) (qb op)
      rw [if_neg h0, if_neg (show ¬ (20 : Int32) < nI dep from nI_nlt (b := dep) (a := 20) (by omega) (by decide)), f_size_eq, Option.bind_some, f_size_eq, Option.bind_some, nI_add]
      by_cases hp : fb_ct (qb best) 64 < fb_ct (qb ch) 64 + fb_ct (qb op) 64
      · have hcx : ∀ y, ¬ (qb ch y = true ∧ qb (one (qn op 0)) y = true) := fun y hy => by
          rw [qb_one hx, decide_eq_true_iff] at hy
          have := hord y (qn op 0) hy.1 hq
          omega
        have c1 := sz_or hcx
        rw [sz_one hx] at c1
        have i1 := ih (ch ||| one (qn op 0)) (nE (op &&& (op - 1)) (qn op 0) t 64) best (dep + 1) (by omega) (by omega) (fun y z hy hz => by
          have hz64 := qb_lt hz
          rw [hv z hz64, hr z hz64, Bool.and_eq_true, Bool.and_eq_true, decide_eq_true_iff] at hz
          rw [qb_or, Bool.or_eq_true, qb_one hx, decide_eq_true_iff] at hy
          rcases hy with hy | hy
          · exact hord y z hy hz.1.1
          · omega)
        rw [c1] at i1
        rw [if_pos (nI_lt hp (by omega)), show (0 : Int32) = nI 0 from rfl, f_next_eq F _ (by omega), Option.bind_some, f_near_eq hF _ hx ht, Option.bind_some, nI_1, i1, Option.bind_some]
        have i2 := fun b => ih ch (op &&& (op - 1)) b (dep + 1) (by omega) (by omega) (fun y z hy hz => by
          have hz64 := qb_lt hz
          rw [hr z hz64, Bool.and_eq_true] at hz
          exact hord y z hy hz.1)
        rw [i2, Option.bind_some, s1, s2]
        generalize hA : oo (nrT t) (qb (nE (op &&& (op - 1)) (qn op 0) t 64)) 0 = A
        generalize hB : oo (nrT t) (qb (op &&& (op - 1))) 0 = B
        have tk : fb_ct (qb ((ch ||| one (qn op 0)) ||| ll (nrT t) (qb (nE (op &&& (op - 1)) (qn op 0) t 64)) 0)) 64 = fb_ct (qb ch) 64 + 1 + A := by
          rw [sz_or (fun y hy => by
            have l1 := ll_bit (by omega) hy.2
            have hy64 := qb_lt l1.2
            have l2 := l1.2
            rw [hv y hy64, hr y hy64, Bool.and_eq_true, Bool.and_eq_true, decide_eq_true_iff] at l2
            have h1 := hy.1
            rw [qb_or, Bool.or_eq_true, qb_one hx, decide_eq_true_iff] at h1
            rcases h1 with h1 | h1
            · have := hord y (qn op 0) h1 hq; omega
            · omega), c1, ll_sz 64 0 _ (by omega), hA]
        by_cases q1 : fb_ct (qb best) 64 < fb_ct (qb ch) 64 + 1 + A
        · rw [if_pos q1, tk]
          by_cases q2 : B ≤ 1 + A
          · rw [if_pos q2, if_neg (show ¬ fb_ct (qb ch) 64 + 1 + A < fb_ct (qb ch) 64 + B by omega), if_pos (show fb_ct (qb best) 64 < fb_ct (qb ch) 64 + max (1 + A) B by omega), or_as]
          · rw [if_neg q2, if_pos (show fb_ct (qb ch) 64 + 1 + A < fb_ct (qb ch) 64 + B by omega), if_pos (show fb_ct (qb best) 64 < fb_ct (qb ch) 64 + max (1 + A) B by omega)]
        · rw [if_neg q1]
          by_cases q2 : B ≤ 1 + A
          · rw [if_pos q2, if_neg (show ¬ fb_ct (qb best) 64 < fb_ct (qb ch) 64 + B by omega), if_neg (show ¬ fb_ct (qb best) 64 < fb_ct (qb ch) 64 + max (1 + A) B by omega)]
          · rw [if_neg q2]
            by_cases q3 : fb_ct (qb best) 64 < fb_ct (qb ch) 64 + B
            · rw [if_pos q3, if_pos (show fb_ct (qb best) 64 < fb_ct (qb ch) 64 + max (1 + A) B by omega)]
            · rw [if_neg q3, if_neg (show ¬ fb_ct (qb best) 64 < fb_ct (qb ch) 64 + max (1 + A) B by omega)]
      · rw [if_neg (nI_nlt (by omega) (by omega)), if_neg (show ¬ fb_ct (qb best) 64 < fb_ct (qb ch) 64 + oo (nrT t) (qb op) 0 by omega)]
def gF (n k t : Nat) : Int64 := ll (nrT t) (qb (lyr n k)) 0
theorem lyr_20 {n k : Nat} (hn : n ≤ 6) (hk : k < 7) : fb_ct (qb (lyr n k)) 64 ≤ 20 := by
  have h : ∀ n, n < 7 → ∀ k, k < 7 → fb_ct (isL k) (2 ^ n) ≤ 20 := by decide +kernel
  have e : fb_ct (qb (lyr n k)) 64 = fb_ct (isL k) (2 ^ n) := ct_lyr hn
  rw [e]; exact h n (by omega) k hk
theorem f_gF {F : Nat × Nat} (hF : 100000 ≤ F.1) {d : Nat} (hd : 100 ≤ d) {n k t : Nat} (hn : n ≤ 6) (hk : k < 7) (ht : t < 7) : f_X5_largest F d 0 (lyr n k) 0 (nI t) 0 = some (gF n k t) := by
  have hl := lyr_20 hn hk
  have := f_lar hF ht d 0 (lyr n k) 0 0 (by omega) (by omega) (fun y z hy _ => by rw [qb_0] at hy; cases hy)
  rw [show (0 : Int32) = nI 0 from rfl, this, sz_0, Nat.zero_add, o0_or]
  unfold gF
  by_cases q : 0 < oo (nrT t) (qb (lyr n k)) 0
  · rw [if_pos q]
  · rw [if_neg q, ll_zero (by omega) (by omega)]
section B85
variable {sc : Nat × (Nat → Int32)} {n : Nat} {cl : Int32} {P : Nat → PL} {ly : Nat → Int64} {sp st : Nat → Int32} {sk : Int32} {sd : Nat → Int32} {sm : Nat → Int64} {X M : Nat → rx_C} {w : Nat → Int64} {g : List rx_C} {th mc pk : Int32} {kd td : Nat → Int32} {fm pr : Nat → Int64} {sz : Nat → Int32} {ro : Nat → Int64} {tu pe tr : Nat → Int32} {as : Nat → Int64}
/-! the model's way -/
theorem f_most_near {F : Nat × Nat} (hF : 100000 ≤ F.1) (hn6 : n ≤ 6) (self : Nat → Int64 → Int32 → Int32 → Option rx_H → Option (Int32 × Option rx_H)) {t x : Nat} (ht : t < 7) (hx : x < 2 ^ n) (b : Int32) (r : Int64) : f_X7_mostOf_62 F self F.1 40 (nI t) b (nI x) r 0 (nI (x + 1)) (hp sc X (cm n th mc pk kd td fm pr sz ro tu pe tr as) w g) = f_X7_mostOf_62 F self (F.1 - (2 ^ n - (x + 1))) 40 (nI t) b (nI x) r (oR (fun y => if decide (x < y) && (qb r y && nrT t x y) then one y else 0) (2 ^ n)) (nI (2 ^ n)) (hp sc X (cm n th mc pk kd td fm pr sz ro tu pe tr as) w g) := by
  have ha := all_le hn6
  have key : ∀ k i f, i + k = 2 ^ n → x < i → k < f → f_X7_mostOf_62 F self f 40 (nI t) b (nI x) r (oR (fun y => if decide (x < y) && (qb r y && nrT t x y) then one y else 0) i) (nI i) (hp sc X (cm n th mc pk kd td fm pr sz ro tu pe tr as) w g) = f_X7_mostOf_62 F self (f - k) 40 (nI t) b (nI x) r (oR (fun y => if decide (x < y) && (qb r y && nrT t x y) then one y else 0) (2 ^ n)) (nI (2 ^ n)) (hp sc X (cm n th mc pk kd td fm pr sz ro tu pe tr as) w g) := by
    intro k
    induction k with
    | zero =>
      intro i f hi _ hf
      obtain rfl : i = 2 ^ n := by omega
      rfl
    | succ k ih =>
      intro i f hi hxi hf
      obtain ⟨f, rfl⟩ : ∃ g, f = g + 1 := ⟨f - 1, by omega⟩
      have hand : x &&& i < 64 := and_l (by omega)
      have hp6 := pc_le (x &&& i)
      have ih' := ih (i + 1) f (by omega) (by omega) (by omega)
      rw [show f + 1 - (k + 1) = f - k by omega, ← ih', f_X7_mostOf_62, gm_all, Option.bind_some, if_pos (nI_lt (by omega) (by omega)), f_mhas_eq F _ (by omega), Option.bind_some, nI_1]
      cases q : qb r i
      · rw [bf, if_pos rfl, oR_f0 (h := fun y => if decide (x < y) && (qb r y && nrT t x y) then one y else 0) (show (if (decide (x < i) && (qb r i && nrT t x i)) = true then one i else 0) = 0 by rw [q]; simp)]
      · rw [bt, if_neg ne10, nI_and (by omega) (by omega), f_ones_eq (by omega) hand, Option.bind_some]
        by_cases h : pc (x &&& i) < t
        · rw [if_pos (nI_lt h (by omega)), oR_f0 (h := fun y => if decide (x < y) && (qb r y && nrT t x y) then one y else 0) (show (if (decide (x < i) && (qb r i && nrT t x i)) = true then one i else 0) = 0 by unfold nrT; rw [decide_eq_true h]; simp)]
        · rw [if_neg (nI_nlt (by omega) (by omega)), oR_t0 (h := fun y => if decide (x < y) && (qb r y && nrT t x y) then one y else 0) (show (if (decide (x < i) && (qb r i && nrT t x i)) = true then one i else 0) = one i by unfold nrT; rw [decide_eq_false h, decide_eq_true hxi, q]; rfl)]
  have h0 : oR (fun y => if decide (x < y) && (qb r y && nrT t x y) then one y else 0) (x + 1) = 0 := by
    refine qb_ext fun z hz => ?_
    rw [qb_oRc _ (by omega), qb_0]
    by_cases q : z < x + 1
    · rw [decide_eq_true q, decide_eq_false (show ¬ x < z by omega)]; rfl
    · rw [decide_eq_false q]; rfl
  have := key (2 ^ n - (x + 1)) (x + 1) F.1 (by omega) (by omega) (by omega)
  rw [h0] at this
  exact this
theorem f_most_find {F : Nat × Nat} (self : Nat → Int64 → Int32 → Int32 → Option rx_H → Option (Int32 × Option rx_H)) (a : Int64) (T b : Int32) (u : Option rx_H) : ∀ k i f, i + k = 64 → k < f → qn a i < 64 → f_X7_mostOf_26 F self f 40 a T b (nI i) u = f_X7_mostOf_62 F self F.1 40 T b (nI (qn a i)) (a &&& (one (qn a i) ^^^ (-1))) 0 (nI (qn a i + 1)) u := by
  intro k
  induction k with
  | zero => intro i f hi hf h; rw [qn_big a (by omega)] at h; omega
  | succ k ih =>
    intro i f hi hf h
    obtain ⟨f, rfl⟩ : ∃ g, f = g + 1 := ⟨f - 1, by omega⟩
    rw [f_X7_mostOf_26, f_mhas_eq F _ (by omega), Option.bind_some]
    cases q : qb a i
    · rw [bf, if_pos rfl, nI_1, qn_no q]
      exact ih (i + 1) f (by omega) (by omega) (by rw [← qn_no q]; exact h)
    · rw [bt, if_neg ne10, qn_yes q, nI_1]
theorem f_most {F : Nat × Nat} (hF : 100000 ≤ F.1) (hn6 : n ≤ 6) {t : Nat} (ht : t < 7) : ∀ d a b, fb_ct (qb a) 64 < d → b < 100 → fits (2 ^ n) a → f_X7_mostOf F d 40 a (nI t) (nI b) (hp sc X (cm n th mc pk kd td fm pr sz ro tu pe tr as) w g) = some (nI (min (oo (nrT t) (qb a) 0) b), (hp sc X (cm n th mc pk kd td fm pr sz ro tu pe tr as) w g)) := by
  have ha := all_le hn6
  intro d
  induction d with
  | zero => intro a b h; omega
  | succ d ih =>
    intro a b hd hb hfi
    have hle := oo_le (nrT t) (qb a)
    have hS := fb_ct_le (qb a) 64
    rw [f_X7_mostOf, f_X7_mostOf_0]
    by_cases h0 : a = 0
    · have o0 : oo (nrT t) (qb a) 0 = 0 := by
        have z := sz_0
        rw [h0] at hle ⊢
        omega
      rw [if_pos h0, o0, Nat.zero_min]; rfl
    · rw [if_neg h0]
      by_cases hb0 : b = 0
      · subst hb0
        rw [if_pos (by rfl), Nat.min_zero]; rfl
      · have hx := qn_lt h0
        have hq := qn_is a hx
        have hxn := fits_lt hfi hq
        have hr : ∀ y, y < 64 → qb (a &&& (one (qn a 0) ^^^ (-1))) y = (qb a y && decide (qn a 0 < y)) := fun y hy => by
          rw [qb_and, qb_not _ hy, qb_one hx]
          by_cases e : y = qn a 0
          · rw [decide_eq_true e, decide_eq_false (by omega)]; rfl
          · rw [decide_eq_false e]
            by_cases e2 : qn a 0 < y
            · rw [decide_eq_true e2]; rfl
            · rw [decide_eq_false e2, qn_not a (Nat.zero_le y) (by omega)]; rfl
        have hv : ∀ y, y < 64 → qb (oR (fun y => if decide (qn a 0 < y) && (qb (a &&& (one (qn a 0) ^^^ (-1))) y && nrT t (qn a 0) y) then one y else 0) (2 ^ n)) y = (qb (a &&& (one (qn a 0) ^^^ (-1))) y && nrT t (qn a 0) y) := fun y hy => by
          rw [qb_oRc _ ha, hr y hy]
          cases q : qb a y
          · simp
          · rw [decide_eq_true (fits_lt hfi q)]
            cases decide (qn a 0 < y) <;> simp
        obtain ⟨s1, s2, s3, s4⟩ := oo_split (t := t) h0 hr hv
        have hfr : fits (2 ^ n) (a &&& (one (qn a 0) ^^^ (-1))) := fits_and1 hfi
        have hfv : fits (2 ^ n) (oR (fun y => if decide (qn a 0 < y) && (qb (a &&& (one (qn a 0) ^^^ (-1))) y && nrT t (qn a 0) y) then one y else 0) (2 ^ n)) := fits_oR fun y hy => fits_if fun _ => fits_one hy ha
        rw [if_neg (nI_ne0 (by omega) (by omega)), f_many_eq (by omega), Option.bind_some]
        by_cases h1 : 1 < fb_ct (qb a) 64
        · rw [if_pos (show (1 : Int32) < nI (fb_ct (qb a) 64) from nI_lt (a := 1) h1 (by omega)), show (0 : Int32) = nI 0 from rfl, f_most_find _ a _ _ _ 64 0 F.1 (by omega) (by omega) hx, show (0 : Int64) = 0 from rfl, f_most_near hF hn6 _ ht hxn]
          generalize hgr : (a &&& (one (qn a 0) ^^^ (-1))) = r at *
          generalize hgv : (oR (fun y => if decide (qn a 0 < y) && (qb r y && nrT t (qn a 0) y) then one y else 0) (2 ^ n)) = v at *
          obtain ⟨f, hf⟩ : ∃ g, F.1 - (2 ^ n - (qn a 0 + 1)) = g + 1 := ⟨F.1 - (2 ^ n - (qn a 0 + 1)) - 1, by omega⟩
          have i1 := ih v (b - 1) (by omega) (by omega) hfv
          have i2 := ih r b (by omega) (by omega) hfr
          have eb : nI b - 1 = nI (b - 1) := by rw [show (1 : Int32) = nI 1 from rfl, pk_sub (by omega)]
          have e1 : ∀ m, (1 : Int32) + nI m = nI (1 + m) := fun m => nI_add 1 m
          rw [hf, f_X7_mostOf_62, gm_all, Option.bind_some, if_neg (nI_nlt (Nat.le_refl _) (by omega)), ck_40, Option.bind_some, eb, i1, Option.bind_some, e1]
          have hA := oo_le (nrT t) (qb v)
          have hB := oo_le (nrT t) (qb r)
          generalize hAA : oo (nrT t) (qb v) 0 = A at *
          generalize hBB : oo (nrT t) (qb r) 0 = B at *
          rw [s1]
          by_cases q1 : v = r
          · have : A = B := by rw [← hAA, ← hBB, q1]
            rw [if_pos q1, show 1 + min A (b - 1) = min (max (1 + A) B) b by omega]
          · rw [if_neg q1]
            by_cases q2 : 1 + min A (b - 1) < b
            · rw [if_pos (nI_lt q2 (by omega)), ck_40, Option.bind_some, i2, Option.bind_some]
              by_cases q3 : min B b < 1 + min A (b - 1)
              · rw [if_pos (nI_lt q3 (by omega)), show 1 + min A (b - 1) = min (max (1 + A) B) b by omega]
              · rw [if_neg (nI_nlt (by omega) (by omega)), show min B b = min (max (1 + A) B) b by omega]
            · rw [if_neg (nI_nlt (by omega) (by omega)), show 1 + min A (b - 1) = min (max (1 + A) B) b by omega]
        · have e1 : min (oo (nrT t) (qb a) 0) b = 1 := by omega
          rw [if_neg (show ¬ (1 : Int32) < nI (fb_ct (qb a) 64) from nI_nlt (b := fb_ct (qb a) 64) (a := 1) (by omega) (by decide)), e1]; rfl
theorem f_great_near {F : Nat × Nat} (hF : 100000 ≤ F.1) (hn6 : n ≤ 6) (k86 : Nat → Int32 → Int32 → Int32 → Int64 → Int32 → Int64 → Int32 → Option rx_H → Option (Int32 × Option rx_H)) {t x : Nat} (ht : t < 7) (hx : x < 2 ^ n) (K Q N : Int32) (a g0 : Int64) : f_X7_greatest_122 F k86 F.1 40 K (nI t) Q a N g0 (nI x) 0 (nI (x + 1)) (hp sc X (cm n th mc pk kd td fm pr sz ro tu pe tr as) w g) = f_X7_greatest_122 F k86 (F.1 - (2 ^ n - (x + 1))) 40 K (nI t) Q a N g0 (nI x) (oR (fun y => if decide (x < y) && (qb a y && nrT t x y) then one y else 0) (2 ^ n)) (nI (2 ^ n)) (hp sc X (cm n th mc pk kd td fm pr sz ro tu pe tr as) w g) := by
  have ha := all_le hn6
  have key : ∀ k i f, i + k = 2 ^ n → x < i → k < f → f_X7_greatest_122 F k86 f 40 K (nI t) Q a N g0 (nI x) (oR (fun y => if decide (x < y) && (qb a y && nrT t x y) then one y else 0) i) (nI i) (hp sc X (cm n th mc pk kd td fm pr sz ro tu pe tr as) w g) = f_X7_greatest_122 F k86 (f - k) 40 K (nI t) Q a N g0 (nI x) (oR (fun y => if decide (x < y) && (qb a y && nrT t x y) then one y else 0) (2 ^ n)) (nI (2 ^ n)) (hp sc X (cm n th mc pk kd td fm pr sz ro tu pe tr as) w g) := by
    intro k
    induction k with
    | zero =>
      intro i f hi _ hf
      obtain rfl : i = 2 ^ n := by omega
      rfl
    | succ k ih =>
      intro i f hi hxi hf
      obtain ⟨f, rfl⟩ : ∃ g, f = g + 1 := ⟨f - 1, by omega⟩
      have hand : x &&& i < 64 := and_l (by omega)
      have hp6 := pc_le (x &&& i)
      have ih' := ih (i + 1) f (by omega) (by omega) (by omega)
      rw [show f + 1 - (k + 1) = f - k by omega, ← ih', f_X7_greatest_122, gm_all, Option.bind_some, if_pos (nI_lt (by omega) (by omega)), f_mhas_eq F _ (by omega), Option.bind_some, nI_1]
      cases q : qb a i
      · rw [bf, if_pos rfl, oR_f0 (h := fun y => if decide (x < y) && (qb a y && nrT t x y) then one y else 0) (show (if (decide (x < i) && (qb a i && nrT t x i)) = true then one i else 0) = 0 by rw [q]; simp)]
      · rw [bt, if_neg ne10, nI_and (by omega) (by omega), f_ones_eq (by omega) hand, Option.bind_some]
        by_cases h : pc (x &&& i) < t
        · rw [if_pos (nI_lt h (by omega)), oR_f0 (h := fun y => if decide (x < y) && (qb a y && nrT t x y) then one y else 0) (show (if (decide (x < i) && (qb a i && nrT t x i)) = true then one i else 0) = 0 by unfold nrT; rw [decide_eq_true h]; simp)]
        · rw [if_neg (nI_nlt (by omega) (by omega)), oR_t0 (h := fun y => if decide (x < y) && (qb a y && nrT t x y) then one y else 0) (show (if (decide (x < i) && (qb a i && nrT t x i)) = true then one i else 0) = one i by unfold nrT; rw [decide_eq_false h, decide_eq_true hxi, q]; rfl)]
  have h0 : oR (fun y => if decide (x < y) && (qb a y && nrT t x y) then one y else 0) (x + 1) = 0 := by
    refine qb_ext fun z hz => ?_
    rw [qb_oRc _ (by omega), qb_0]
    by_cases q : z < x + 1
    · rw [decide_eq_true q, decide_eq_false (show ¬ x < z by omega)]; rfl
    · rw [decide_eq_false q]; rfl
  have := key (2 ^ n - (x + 1)) (x + 1) F.1 (by omega) (by omega) (by omega)
  rw [h0] at this
  exact this
theorem f_great_loop {F : Nat × Nat} (hF : 100000 ≤ F.1) (hF2 : 100 ≤ F.2) (hn6 : n ≤ 6) {t : Nat} (ht : t < 7) (K Q : Int32) : ∀ k i f a m g0, i + k = 2 ^ n → k < f → fits (2 ^ n) a → oo (nrT t) (qb a) i = m → f_X7_greatest_86 F f 40 K (nI t) Q a (nI m) g0 (nI i) (hp sc X (cm n th mc pk kd td fm pr sz ro tu pe tr as) w g) = f_X7_greatest_222 F 40 K Q (g0 ||| ll (nrT t) (qb a) i) (hp sc X (cm n th mc pk kd td fm pr sz ro tu pe tr as) w g) := by
  have ha := all_le hn6
  intro k
  induction k with
  | zero =>
    intro i f a m g0 hi hf hfi hm
    obtain ⟨f, rfl⟩ : ∃ g, f = g + 1 := ⟨f - 1, by omega⟩
    obtain rfl : i = 2 ^ n := by omega
    obtain ⟨z1, z2⟩ := oo_skip (nr := nrT t) (c := qb a) (j := 64) (Nat.le_refl _) (64 - 2 ^ n) (2 ^ n) (by omega) (fun y hy _ => hfi y hy)
    rw [f_X7_greatest_86, gm_all, Option.bind_some, if_neg (nI_nlt (Nat.le_refl _) (by omega)), z2, oo_64.2, or_0]
  | succ k ih =>
    intro i f a m g0 hi hf hfi hm
    obtain ⟨f, rfl⟩ : ∃ g, f = g + 1 := ⟨f - 1, by omega⟩
    have hi64 : i < 64 := by omega
    have hmle : m ≤ 64 := by
      have h1 := om_le (nr := nrT t) (64 - i) i (qb a)
      have h2 := fb_ct_le (fun j => qb a (i + j)) (64 - i)
      unfold oo at hm; omega
    rw [f_X7_greatest_86, gm_all, Option.bind_some, if_pos (nI_lt (by omega) (by omega))]
    by_cases h0 : m = 0
    · rw [h0, if_neg (by decide), ll_zero (by omega) (by omega), or_0]
    · rw [if_pos (show (0 : Int32) < nI m from nI_lt (a := 0) (by omega) (by omega)), f_mhas_eq F _ hi64, Option.bind_some]
      cases q : qb a i
      · rw [bf, if_pos rfl, nI_1, ll_no hi64 q]
        exact ih (i + 1) f a m g0 (by omega) (by omega) hfi (by rw [← oo_no hi64 q]; exact hm)
      · rw [bt, if_neg ne10, nI_1, f_great_near hF hn6 _ ht (by omega)]
        have hfv : fits (2 ^ n) (oR (fun y => if decide (i < y) && (qb a y && nrT t i y) then one y else 0) (2 ^ n)) := fits_oR fun y hy => fits_if fun _ => fits_one hy ha
        have hv : ∀ y, y < 64 → qb (oR (fun y => if decide (i < y) && (qb a y && nrT t i y) then one y else 0) (2 ^ n)) y = (decide (i < y) && (qb a y && nrT t i y)) := fun y hy => by
          rw [qb_oRc _ ha]
          cases q : qb a y
          · simp
          · rw [decide_eq_true (fits_lt hfi q)]; rfl
        generalize (oR (fun y => if decide (i < y) && (qb a y && nrT t i y) then one y else 0) (2 ^ n)) = v at *
        obtain ⟨v1, v2⟩ := oo_cong (nr := nrT t) (c := qb v) (c' := fun y => qb a y && nrT t i y) (i := i + 1) (fun y h1 h2 => by rw [hv y h2, decide_eq_true (by omega)]; rfl)
        obtain ⟨v3, v4⟩ := oo_skip (nr := nrT t) (c := qb v) (j := i + 1) (by omega) (i + 1) 0 (by omega) (fun y _ hy => by rw [hv y (by omega), decide_eq_false (by omega)]; rfl)
        obtain ⟨r1, r2⟩ := oo_cong (nr := nrT t) (c := qb (a &&& (one i ^^^ (-1)))) (c' := qb a) (i := i + 1) (fun y h1 h2 => by rw [qb_and, qb_not _ h2, qb_one hi64, decide_eq_false (by omega)]; simp)
        have hm2 := oo_yes (nr := nrT t) hi64 q
        have hl2 := ll_yes (nr := nrT t) hi64 q
        rw [← v1] at hm2
        rw [← v1, ← v2] at hl2
        have hS := fb_ct_le (qb v) 64
        obtain ⟨f2, hf2⟩ : ∃ g, F.1 - (2 ^ n - (i + 1)) = g + 1 := ⟨F.1 - (2 ^ n - (i + 1)) - 1, by omega⟩
        rw [hf2, f_X7_greatest_122, gm_all, Option.bind_some, if_neg (nI_nlt (Nat.le_refl _) (by omega)), ck_40, Option.bind_some, f_most hF hn6 ht F.2 v m (by show fb_ct (qb v) 64 < F.2; omega) (by omega) hfv, Option.bind_some, show ∀ z, (1 : Int32) + nI z = nI (1 + z) from fun z => nI_add 1 z, v3]
        have hA : oo (nrT t) (qb v) (i + 1) ≤ 64 := by
          have h1 := om_le (nr := nrT t) (64 - (i + 1)) (i + 1) (qb v)
          have h2 := fb_ct_le (fun j => qb v (i + 1 + j)) (64 - (i + 1))
          unfold oo; omega
        generalize hAA : oo (nrT t) (qb v) (i + 1) = A at *
        generalize hBB : oo (nrT t) (qb a) (i + 1) = B at *
        rw [hm] at hm2
        by_cases q1 : 1 + min A m < m
        · rw [if_pos (nI_lt q1 (by omega)), nI_1, hl2, if_neg (show ¬ B ≤ 1 + A by omega), ← r2]
          exact ih (i + 1) f _ m g0 (by omega) (by omega) (fits_and1 hfi) (by rw [r1]; omega)
        · rw [if_neg (nI_nlt (by omega) (by omega)), nI_1, hl2, if_pos (show B ≤ 1 + A by omega), ← or_as]
          obtain ⟨m', rfl⟩ : ∃ z, m = z + 1 := ⟨m - 1, by omega⟩
          rw [pk_m1]
          exact ih (i + 1) f v m' _ (by omega) (by omega) hfv (by omega)
theorem f_mgreat {F : Nat × Nat} (hF : 100000 ≤ F.1) (hF2 : 100 ≤ F.2) (hn6 : n ≤ 6) {k0 t q : Nat} (hk : k0 < 7) (ht : t < 7) (hq_ : q < 16) : f_X7_greatest_36 F F.1 40 (nI k0) (nI t) (nI q) 0 0 (hp sc X (cm n th mc pk kd td fm pr sz ro tu pe tr as) w g) = some (nI (fb_ct (qb (gF n k0 t)) 64), hp sc X (cm n th mc pk (upd kd q 4) (upd td q (nI k0)) (vp_updL fm q (gF n k0 t)) (vp_updL pr q 0) sz ro tu pe tr as) w g) := by
  have ha := all_le hn6
  have fin : ∀ f, f_X7_greatest_36 F (f + 1) 40 (nI k0) (nI t) (nI q) (lyr n k0) (nI (2 ^ n)) (hp sc X (cm n th mc pk kd td fm pr sz ro tu pe tr as) w g) = some (nI (fb_ct (qb (gF n k0 t)) 64), hp sc X (cm n th mc pk (upd kd q 4) (upd td q (nI k0)) (vp_updL fm q (gF n k0 t)) (vp_updL pr q 0) sz ro tu pe tr as) w g) := by
    intro f
    have hl := lyr_20 hn6 hk
    have hle := oo_le (nrT t) (qb (lyr n k0))
    have em : min (oo (nrT t) (qb (lyr n k0)) 0) 64 = oo (nrT t) (qb (lyr n k0)) 0 := by omega
    rw [f_X7_greatest_36, gm_all, Option.bind_some, if_neg (nI_nlt (Nat.le_refl _) (by omega)), ck_40, Option.bind_some, show (64 : Int32) = nI 64 from rfl, f_most hF hn6 ht F.2 (lyr n k0) 64 (by omega) (by omega) (fits_lyr hn6), Option.bind_some, em, show (0 : Int32) = nI 0 from rfl, f_great_loop hF hF2 hn6 ht _ _ (2 ^ n) 0 F.1 _ _ 0 (by omega) (by omega) (fits_lyr hn6) rfl, o0_or, f_X7_greatest_222, ck_40, Option.bind_some, show ll (nrT t) (qb (lyr n k0)) 0 = gF n k0 t from rfl, f_holdsNow_eq (by omega) hq_, Option.bind_some]
  have key : ∀ k i f, i + k = 2 ^ n → k < f → f_X7_greatest_36 F f 40 (nI k0) (nI t) (nI q) (oR (fun x => if pc x = k0 then one x else 0) i) (nI i) (hp sc X (cm n th mc pk kd td fm pr sz ro tu pe tr as) w g) = some (nI (fb_ct (qb (gF n k0 t)) 64), hp sc X (cm n th mc pk (upd kd q 4) (upd td q (nI k0)) (vp_updL fm q (gF n k0 t)) (vp_updL pr q 0) sz ro tu pe tr as) w g) := by
    intro k
    induction k with
    | zero =>
      intro i f hi hf
      obtain ⟨f, rfl⟩ : ∃ g, f = g + 1 := ⟨f - 1, by omega⟩
      obtain rfl : i = 2 ^ n := by omega
      exact fin f
    | succ k ih =>
      intro i f hi hf
      obtain ⟨f, rfl⟩ : ∃ g, f = g + 1 := ⟨f - 1, by omega⟩
      have hp6 := pc_le i
      have ih' := ih (i + 1) f (by omega) (by omega)
      rw [f_X7_greatest_36, gm_all, Option.bind_some, if_pos (nI_lt (by omega) (by omega)), f_ones_eq (by omega) (by omega), Option.bind_some, nI_1]
      by_cases h : pc i = k0
      · rw [if_pos (by rw [h]), oR_t0 (h := fun x => if pc x = k0 then one x else 0) (show (if pc i = k0 then one i else 0) = one i by rw [if_pos h])]
        exact ih'
      · rw [if_neg (fun q => h ((nI_eq (by omega) (by omega)).mp q)), oR_f0 (h := fun x => if pc x = k0 then one x else 0) (show (if pc i = k0 then one i else 0) = 0 by rw [if_neg h])]
        exact ih'
  exact key (2 ^ n) 0 F.1 (by omega) (by omega)
theorem f_cgreat {F : Nat × Nat} (hF : 100000 ≤ F.1) (hF2 : 100 ≤ F.2) (hn6 : n ≤ 6) {k t : Nat} (ht1 : 1 ≤ t) (htk : t ≤ k) (hkn : k ≤ n) (hsm : ∀ k t, 1 ≤ t → t ≤ k → k ≤ n → grt n k t (sm (7 * k + t))) : ∃ sm', (∀ k t, 1 ≤ t → t ≤ k → k ≤ n → grt n k t (sm' (7 * k + t))) ∧ f_X5_greatestMeeting F 35 (lyr n k) (nI k) (nI t) (hp sc (cx n cl P ly sp st sk sd sm) M w g) = some (gF n k t, hp sc (cx n cl P ly sp st sk sd sm') M w g) := by
  have e : (7 : Int32) * nI k + nI t = nI (7 * k + t) := by rw [show (7 : Int32) = nI 7 from rfl, pk_mul, nI_add]
  have gr : ∀ k t f, 1 ≤ t → t ≤ k → k ≤ n → (grt n k t f ↔ f = 0 ∨ gF n k t = f) := fun k t f h1 h2 h3 => by
    unfold grt
    rw [f_gF (F := rx_FF) (by decide) (by decide) hn6 (by omega) (by omega)]
    simp
  unfold f_X5_greatestMeeting f_X5_greatestMeeting_0
  rw [gx_sm, Option.bind_some, e, ax_sm (by omega), Option.bind_some]
  by_cases h0 : sm (7 * k + t) = 0
  · refine ⟨vp_updL sm (7 * k + t) (gF n k t), fun k' t' h1 h2 h3 => ?_, ?_⟩
    · by_cases q : 7 * k' + t' = 7 * k + t
      · have : k' = k ∧ t' = t := by omega
        rw [this.1, this.2, pk_uLs]
        exact (gr k t _ ht1 htk hkn).mpr (Or.inr rfl)
      · rw [pk_uLn q]; exact hsm k' t' h1 h2 h3
    · rw [if_pos h0, Option.bind_some, f_gF hF hF2 hn6 (by omega) (by omega), Option.bind_some, sx_sm (by omega), Option.bind_some, gx_sm, Option.bind_some, ax_sm (by omega), Option.bind_some, pk_uLs]
  · refine ⟨sm, hsm, ?_⟩
    have := ((gr k t _ ht1 htk hkn).mp (hsm k t ht1 htk hkn)).resolve_left h0
    rw [if_neg h0, Option.bind_some, ax_sm (by omega), Option.bind_some, this]
theorem fits_gF (hn6 : n ≤ 6) (k t : Nat) : fits (2 ^ n) (gF n k t) := fun j hj => by
  cases q : qb (gF n k t) j
  · rfl
  · have := (ll_bit (by omega) q).2
    rw [fits_lyr hn6 j hj] at this; cases this
theorem kinv_gF (hn6 : n ≤ 6) (k t : Nat) : kinv 4 k (gF n k t) 0 := kinv_layer 0 fun x hx => by
  have := (ll_bit (by omega) hx).2
  rw [qb_lyr hn6, Bool.and_eq_true, decide_eq_true_iff, decide_eq_true_iff] at this
  exact this.2
end B85
theorem st_greatest {F : Nat × Nat} (hF : 100000 ≤ F.1) (hF2 : 100 ≤ F.2) {sc : Nat × (Nat → Int32)} {c : Nat} (x y z : Int32) : stepI sc c (f_X6_greatest F 0 x y z) (f_X7_greatest F 40 x y z) := by
  refine stepI.mk fun n cl P ly sp st sk sd sm th mc pk kd td fm pr sz ro tu pe tr as w g hR => ?_
  have hn6 := hR.1.2
  by_cases h1 : x < 1
  · refine ⟨-1, cl, P, sp, st, sk, sd, sm, th, mc, pk, kd, td, fm, pr, sz, ro, tu, pe, tr, as, ?_, ?_, hR⟩
    · simp only [f_X6_greatest, f_X6_greatest_0, h1, if_true]
    · simp only [f_X7_greatest, f_X7_greatest_0, gm_n, Option.bind_some, f_isIn_eq, h1, if_true]
  by_cases h2 : nI n < x
  · refine ⟨-1, cl, P, sp, st, sk, sd, sm, th, mc, pk, kd, td, fm, pr, sz, ro, tu, pe, tr, as, ?_, ?_, hR⟩
    · simp only [f_X6_greatest, f_X6_greatest_0, h1, if_false, gx_n, Option.bind_some, h2, if_true]
    · simp only [f_X7_greatest, f_X7_greatest_0, gm_n, Option.bind_some, f_isIn_eq, h1, h2, if_true, if_false]
  by_cases h3 : y < 1
  · refine ⟨-1, cl, P, sp, st, sk, sd, sm, th, mc, pk, kd, td, fm, pr, sz, ro, tu, pe, tr, as, ?_, ?_, hR⟩
    · simp only [f_X6_greatest, f_X6_greatest_0, h1, if_false, gx_n, Option.bind_some, h2, h3, if_true]
    · simp only [f_X7_greatest, f_X7_greatest_0, gm_n, Option.bind_some, f_isIn_eq, h1, h2, h3, if_true, if_false, ne10]
  by_cases h4 : x < y
  · refine ⟨-1, cl, P, sp, st, sk, sd, sm, th, mc, pk, kd, td, fm, pr, sz, ro, tu, pe, tr, as, ?_, ?_, hR⟩
    · simp only [f_X6_greatest, f_X6_greatest_0, h1, if_false, gx_n, Option.bind_some, h2, h3, h4, if_true]
    · simp only [f_X7_greatest, f_X7_greatest_0, gm_n, Option.bind_some, f_isIn_eq, h1, h2, h3, h4, if_true, if_false, ne10]
  rcases place_or z with ⟨q, hq_, rfl⟩ | hnq
  · obtain ⟨k, k1, k2, rfl⟩ := num_12 (a := 1) (b := n) rfl rfl (by omega) (by decide) h1 h2
    obtain ⟨t, t1, t2, rfl⟩ := num_12 (a := 1) (b := k) rfl rfl (by omega) (by decide) h3 h4
    obtain ⟨sm', e1, e2⟩ := f_cgreat (sc := sc) (n := n) (cl := cl) (P := P) (ly := ly) (sp := sp) (st := st) (sk := sk) (sd := sd) (sm := sm) (M := cm n th mc pk kd td fm pr sz ro tu pe tr as) (w := w) (g := g) hF hF2 hn6 t1 t2 k2 hR.2.2.2.2.2
    refine ⟨nI (fb_ct (qb (gF n k t)) 64), cl, updP P q (4, nI k, gF n k t, 0, (P q).2.2.2.2), sp, st, sk, sd, sm', th, mc, pk, upd kd q 4, upd td q (nI k), vp_updL fm q (gF n k t), vp_updL pr q 0, sz, ro, tu, pe, tr, as, ?_, ?_, ?_⟩
    · simp only [f_X6_greatest, f_X6_greatest_0, h1, if_false, gx_n, Option.bind_some, h2, h3, h4, ck_0, f_isPlace_yes F _ hq_, ne10, gx_seek, gx_lay, ax_ly (by omega : k < 7), hR.2.2.2.1 k (by omega), ck_35, e2, f_keep_eq F hq_]
    · simp only [f_X7_greatest, f_X7_greatest_0, gm_n, Option.bind_some, f_isIn_eq, h1, h2, h3, h4, if_false, ne10, f_mPlace_yes F hq_, f_mgreat hF hF2 hn6 (by omega : k < 7) (by omega : t < 7) hq_]
    · have r := rel_keep (p := q) (t1 := nI k) (t2 := nI k) hR 4 (by decide) (k := 4) rfl (fits_gF hn6 k t) k k2 (fun _ => ⟨rfl, rfl⟩) (kinv_gF hn6 k t)
      exact ⟨r.1, r.2.1, r.2.2.1, r.2.2.2.1, r.2.2.2.2.1, e1⟩
  · refine ⟨-1, cl, P, sp, st, sk, sd, sm, th, mc, pk, kd, td, fm, pr, sz, ro, tu, pe, tr, as, ?_, ?_, hR⟩
    · simp only [f_X6_greatest, f_X6_greatest_0, h1, if_false, gx_n, Option.bind_some, h2, h3, h4, ck_0, f_isPlace_no F _ hnq, if_true]
    · simp only [f_X7_greatest, f_X7_greatest_0, gm_n, Option.bind_some, f_isIn_eq, h1, h2, h3, h4, if_false, ne10, f_mPlace_no F hnq, if_true]
