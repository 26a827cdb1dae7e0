/-! ===== Tools: first place, all places; within ===== -/
theorem qb_oRi (a : Int64) (W : Nat → Int64) (m j : Nat) : qb (oR (fun x => if qb a x then W x else 0) m) j = true ↔ ∃ x, x < m ∧ qb a x = true ∧ qb (W x) j = true := by
  rw [qb_oR]
  constructor
  · rintro ⟨x, hx, q⟩
    rw [qb_if, Bool.and_eq_true] at q
    exact ⟨x, hx, q⟩
  · rintro ⟨x, hx, q⟩
    exact ⟨x, hx, by rw [qb_if, Bool.and_eq_true]; exact q⟩
theorem qb_oRc (c : Nat → Bool) {m : Nat} (hm : m ≤ 64) (j : Nat) : qb (oR (fun x => if c x then one x else 0) m) j = (decide (j < m) && c j) := by
  refine bool_ext ?_
  rw [qb_oR, Bool.and_eq_true, decide_eq_true_iff]
  constructor
  · rintro ⟨x, hx, q⟩
    rw [qb_if, Bool.and_eq_true, qb_one (by omega), decide_eq_true_iff] at q
    obtain ⟨q1, rfl⟩ := q
    exact ⟨hx, q1⟩
  · rintro ⟨hj, q⟩
    exact ⟨j, hj, by rw [qb_if, Bool.and_eq_true, qb_one (by omega), decide_eq_true_iff]; exact ⟨q, rfl⟩⟩
def alw (c : Nat → Bool) (i : Nat) : Nat → Bool
  | 0 => true
  | k + 1 => c i && alw c (i + 1) k
theorem alw_iff (c : Nat → Bool) : ∀ (k i : Nat), alw c i k = true ↔ ∀ j, i ≤ j → j < i + k → c j = true
  | 0, i => ⟨fun _ j h1 h2 => by omega, fun _ => rfl⟩
  | k + 1, i => by
    show (c i && alw c (i + 1) k) = true ↔ _
    rw [Bool.and_eq_true, alw_iff c k (i + 1)]
    constructor
    · rintro ⟨h1, h2⟩ j hj hj2
      by_cases e : j = i
      · subst e; exact h1
      · exact h2 j (by omega) (by omega)
    · intro h
      exact ⟨h i (Nat.le_refl _) (by omega), fun j h1 h2 => h j (by omega) (by omega)⟩
/-- the first place from i on, of k -/
def ff (c : Nat → Bool) (i : Nat) : Nat → Nat
  | 0 => i
  | k + 1 => if c i then i else ff c (i + 1) k
theorem ff_le (c : Nat → Bool) : ∀ (k i : Nat), i ≤ ff c i k ∧ ff c i k ≤ i + k
  | 0, i => ⟨Nat.le_refl _, Nat.le_refl _⟩
  | k + 1, i => by
    show i ≤ (if c i then i else ff c (i + 1) k) ∧ (if c i then i else ff c (i + 1) k) ≤ i + (k + 1)
    have := ff_le c k (i + 1)
    cases c i <;> simp <;> omega
theorem ff_not (c : Nat → Bool) : ∀ (k i j : Nat), i ≤ j → j < ff c i k → c j = false
  | 0, i, j, h1, h2 => by exact absurd h2 (Nat.not_lt.mpr h1)
  | k + 1, i, j, h1, h2 => by
    cases q : c i
    · have e : ff c i (k + 1) = ff c (i + 1) k := by show (if c i then i else _) = _; rw [q]; rfl
      rw [e] at h2
      by_cases e2 : j = i
      · subst e2; exact q
      · exact ff_not c k (i + 1) j (by omega) h2
    · have e : ff c i (k + 1) = i := by show (if c i then i else _) = _; rw [q]; rfl
      rw [e] at h2; omega
theorem ff_is (c : Nat → Bool) : ∀ (k i : Nat), ff c i k < i + k → c (ff c i k) = true
  | 0, i, h => by exact absurd h (Nat.lt_irrefl _)
  | k + 1, i, h => by
    cases q : c i
    · have e : ff c i (k + 1) = ff c (i + 1) k := by show (if c i then i else _) = _; rw [q]; rfl
      rw [e] at h ⊢
      exact ff_is c k (i + 1) (by omega)
    · have e : ff c i (k + 1) = i := by show (if c i then i else _) = _; rw [q]; rfl
      rw [e]; exact q
theorem ff_yes {c : Nat → Bool} {i : Nat} (k : Nat) (q : c i = true) : ff c i (k + 1) = i := by show (if c i then i else _) = _; rw [q]; rfl
theorem ff_no {c : Nat → Bool} {i : Nat} (k : Nat) (q : c i = false) : ff c i (k + 1) = ff c (i + 1) k := by show (if c i then i else _) = _; rw [q]; rfl
/-- two ways to look for the first one -/
theorem ff_qn {c : Nat → Bool} {x : Int64} {m : Nat} (hm : m ≤ 64) (h1 : ∀ j, j < m → c j = qb x j) (h2 : fits m x) : (ff c 0 m < m → qn x 0 = ff c 0 m) ∧ (ff c 0 m = m → x = 0) := by
  have hle := ff_le c m 0
  constructor
  · intro h
    refine qn_uniq (Nat.zero_le _) (by omega) (fun j _ hj => ?_) (fun _ => ?_)
    · rw [← h1 j (by omega)]; exact ff_not c m 0 j (Nat.zero_le _) hj
    · rw [← h1 _ h]; exact ff_is c m 0 (by omega)
  · intro h
    refine qb_ext fun j hj => ?_
    rw [qb_0]
    by_cases hjm : j < m
    · rw [← h1 j hjm]; exact ff_not c m 0 j (Nat.zero_le _) (by omega)
    · exact h2 j (by omega)
def wiS (s : Nat) (a : Int64) (i : Nat) : Int64 := if s.testBit i then a ||| (a <<< ((nI (2 ^ i)).toInt64 &&& 63)) else a
theorem f_within_fold {F : Nat × Nat} (hF : 10 ≤ F.1) {s : Nat} (hs : s < 64) : f_X0_within F (nI s) = some (fold6 (wiS s) 1 0 6) := by
  have key : ∀ k i f (acc : Int64), i + k = 6 → k < f → f_X0_within_4 F f (nI s) acc (nI i) = some (fold6 (wiS s) acc i k) := by
    intro k
    induction k with
    | zero =>
      intro i f acc hi hf
      obtain ⟨f, rfl⟩ : ∃ g, f = g + 1 := ⟨f - 1, by omega⟩
      obtain rfl : i = 6 := by omega
      rfl
    | succ k ih =>
      intro i f acc hi hf
      obtain ⟨f, rfl⟩ : ∃ g, f = g + 1 := ⟨f - 1, by omega⟩
      rw [f_X0_within_4, if_pos (lt6I (by omega)), bitI hs (by omega), fold6, wiS]
      cases s.testBit i
      · rw [if_pos (by rfl), nI_1, ih (i + 1) f _ (by omega) (by omega)]
        rfl
      · rw [if_neg (by decide), nI_1, sh_eq (by omega), ih (i + 1) f _ (by omega) (by omega)]
        rfl
  exact key 6 0 F.1 1 rfl (by omega)
def wIn (s : Nat) : Int64 := fold6 (wiS s) 1 0 6
theorem f_within_eq {F : Nat × Nat} (hF : 10 ≤ F.1) {s : Nat} (hs : s < 64) : f_X0_within F (nI s) = some (wIn s) := f_within_fold hF hs
theorem qb_wIn {s j : Nat} (hs : s < 64) (hj : j < 64) : qb (wIn s) j = decide (j &&& s = j) := by
  have h : ∀ s, s < 64 → ∀ j, j < 64 → qb (wIn s) j = decide (j &&& s = j) := by decide +kernel
  exact h s hs j hj
def aRo (s : Nat) : Int64 := wIn (63 - s) <<< ((nI s).toInt64 &&& 63)
theorem f_around_eq {F : Nat × Nat} (hF : 10 ≤ F.1) {s : Nat} (hs : s < 64) : f_X0_around F (nI s) = some (aRo s) := by
  unfold f_X0_around f_X0_around_0
  rw [show (63 : Int32) = nI 63 from rfl, pk_sub (by omega), f_within_eq hF (by omega)]
  rfl
theorem qb_aRo {s j : Nat} (hs : s < 64) (hj : j < 64) : qb (aRo s) j = decide (s &&& j = s) := by
  have h : ∀ s, s < 64 → ∀ j, j < 64 → qb (aRo s) j = decide (s &&& j = s) := by decide +kernel
  exact h s hs j hj
theorem sub_bits {y x : Nat} (h : y &&& x = y) : y ≤ x := by rw [← h]; exact Nat.and_le_right
theorem wi_trans {x y z : Nat} (h1 : x &&& y = x) (h2 : y &&& z = y) : x &&& z = x := by
  rw [← h1, Nat.and_assoc, h2]
/-! single sets -/
theorem s_below {n x : Nat} (hn : n ≤ 6) (hx : x < 2 ^ n) : fold6 (fun a i => a ||| lsT a i) (one x) 0 6 = oR (fun y => if decide (y &&& x = y) then one y else 0) (2 ^ n) := by
  have h : ∀ n, n < 7 → ∀ x, x < 2 ^ n → fold6 (fun a i => a ||| lsT a i) (one x) 0 6 = oR (fun y => if decide (y &&& x = y) then one y else 0) (2 ^ n) := by decide +kernel
  exact h n (by omega) x hx
theorem s_above {n x : Nat} (hn : n ≤ 6) (hx : x < 2 ^ n) : fold6 (fun a i => a ||| mrT a i) (one x) 0 n = oR (fun y => if decide (x &&& y = x) then one y else 0) (2 ^ n) := by
  have h : ∀ n, n < 7 → ∀ x, x < 2 ^ n → fold6 (fun a i => a ||| mrT a i) (one x) 0 n = oR (fun y => if decide (x &&& y = x) then one y else 0) (2 ^ n) := by decide +kernel
  exact h n (by omega) x hx
theorem s_less {n x : Nat} (hn : n ≤ 6) (hx : x < 2 ^ n) : fold6 (fun a i => a ||| lsT (one x) i) 0 0 6 = oR (fun i => if x.testBit i != false then one (x ^^^ 2 ^ i) else 0) n := by
  have h : ∀ n, n < 7 → ∀ x, x < 2 ^ n → fold6 (fun a i => a ||| lsT (one x) i) 0 0 6 = oR (fun i => if x.testBit i != false then one (x ^^^ 2 ^ i) else 0) n := by decide +kernel
  exact h n (by omega) x hx
theorem s_more {n x : Nat} (hn : n ≤ 6) (hx : x < 2 ^ n) : fold6 (fun a i => a ||| mrT (one x) i) 0 0 n = oR (fun i => if x.testBit i != true then one (x ^^^ 2 ^ i) else 0) n := by
  have h : ∀ n, n < 7 → ∀ x, x < 2 ^ n → fold6 (fun a i => a ||| mrT (one x) i) 0 0 n = oR (fun i => if x.testBit i != true then one (x ^^^ 2 ^ i) else 0) n := by decide +kernel
  exact h n (by omega) x hx
theorem s_lacking {n x : Nat} (hn : n ≤ 6) (hx : x < 2 ^ n) : fold6 (fun a i => lsT a i ||| mrT a i) (one x) 0 n = one (2 ^ n - 1 - x) := by
  have h : ∀ n, n < 7 → ∀ x, x < 2 ^ n → fold6 (fun a i => lsT a i ||| mrT a i) (one x) 0 n = one (2 ^ n - 1 - x) := by decide +kernel
  exact h n (by omega) x hx
theorem uh_oneMore {n : Nat} (hn : n ≤ 6) : uh (fun x => fold6 (fun a i => a ||| mrT x i) 0 0 n) := by
  have h : ∀ k i, i + k ≤ 6 → ∀ G : Int64 → Int64, uh G → uh (fun x => fold6 (fun a i => a ||| mrT x i) (G x) i k) := by
    intro k
    induction k with
    | zero => intro i _ G hG; exact hG
    | succ k ih => intro i hi G hG; exact ih (i + 1) (by omega) (fun x => G x ||| mrT x i) (uh_or hG (uh_mr (by omega)))
  exact h n 0 (by omega) (fun _ => 0) uh_0
