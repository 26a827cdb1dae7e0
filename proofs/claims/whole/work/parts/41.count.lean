/-! ===== how many places have a property ===== -/
def fb_ct (p : Nat → Bool) : Nat → Nat
  | 0 => 0
  | n + 1 => fb_ct p n + (if p n then 1 else 0)
theorem fb_ct_succ (p : Nat → Bool) (n : Nat) : fb_ct p (n + 1) = fb_ct p n + (if p n then 1 else 0) := rfl
theorem fb_ct_le (p : Nat → Bool) : ∀ n, fb_ct p n ≤ n
  | 0 => Nat.le_refl _
  | n + 1 => by
    have h := fb_ct_le p n
    rw [fb_ct_succ]
    split <;> omega
theorem fb_ct_step (p : Nat → Bool) (m : Nat) : ∀ n, fb_ct p m ≤ fb_ct p (m + n)
  | 0 => Nat.le_refl _
  | n + 1 => by
    have h := fb_ct_step p m n
    show fb_ct p m ≤ fb_ct p (m + n + 1)
    rw [fb_ct_succ]
    omega
theorem fb_ct_mono (p : Nat → Bool) {m n : Nat} (h : m ≤ n) : fb_ct p m ≤ fb_ct p n := by
  have := fb_ct_step p m (n - m)
  rwa [Nat.add_sub_cancel' h] at this
theorem fb_ct_cong {p q : Nat → Bool} : ∀ {n : Nat}, (∀ k, k < n → p k = q k) → fb_ct p n = fb_ct q n
  | 0, _ => rfl
  | n + 1, h => by
    rw [fb_ct_succ, fb_ct_succ, fb_ct_cong (fun k hk => h k (by omega)), h n (by omega)]
/-- one place changed -/
theorem fb_ct_out (p : Nat → Bool) (b : Bool) {i n : Nat} (h : n ≤ i) : fb_ct (fun k => if k = i then b else p k) n = fb_ct p n :=
  fb_ct_cong fun k hk => if_neg (by omega)
theorem fb_ct_upd (p : Nat → Bool) (b : Bool) {i : Nat} : ∀ {n : Nat}, i < n → fb_ct (fun k => if k = i then b else p k) n + (if p i then 1 else 0) = fb_ct p n + (if b then 1 else 0)
  | 0, h => absurd h (Nat.not_lt_zero i)
  | n + 1, h => by
    rw [fb_ct_succ, fb_ct_succ]
    rcases Nat.lt_or_ge i n with q | q
    · have := fb_ct_upd p b q
      have e : (if n = i then b else p n) = p n := if_neg (by omega)
      rw [e]
      omega
    · have e : i = n := by omega
      subst e
      rw [fb_ct_out p b (Nat.le_refl _)]
      simp only [if_true]
      omega
theorem fb_ct_sub {p q : Nat → Bool} : ∀ {n : Nat}, (∀ k, k < n → p k = true → q k = true) → fb_ct p n ≤ fb_ct q n
  | 0, _ => Nat.le_refl _
  | n + 1, h => by
    have h1 := fb_ct_sub (n := n) (p := p) (q := q) (fun k hk => h k (by omega))
    have h2 := h n (by omega)
    rw [fb_ct_succ, fb_ct_succ]
    cases hp : p n <;> cases hq : q n <;> simp_all <;> omega
theorem fb_ct_or {p q : Nat → Bool} : ∀ {n : Nat}, (∀ k, k < n → ¬ (p k = true ∧ q k = true)) → fb_ct (fun k => p k || q k) n = fb_ct p n + fb_ct q n
  | 0, _ => rfl
  | n + 1, h => by
    have h1 := fb_ct_or (n := n) (p := p) (q := q) (fun k hk => h k (by omega))
    have h2 := h n (by omega)
    rw [fb_ct_succ, fb_ct_succ, fb_ct_succ, h1]
    cases hp : p n <;> cases hq : q n <;> simp_all <;> omega
theorem fb_ct_not (p : Nat → Bool) : ∀ n, fb_ct p n + fb_ct (fun k => !p k) n = n
  | 0 => rfl
  | n + 1 => by
    have h := fb_ct_not p n
    rw [fb_ct_succ, fb_ct_succ]
    cases p n <;> simp <;> omega
theorem fb_ct_split (p : Nat → Bool) (m : Nat) : ∀ n, fb_ct p (m + n) = fb_ct p m + fb_ct (fun k => p (m + k)) n
  | 0 => rfl
  | n + 1 => by
    have h := fb_ct_split p m n
    show fb_ct p (m + n + 1) = _
    rw [fb_ct_succ, fb_ct_succ, h, Nat.add_assoc]
theorem fb_ct_zero {p : Nat → Bool} : ∀ {n : Nat}, fb_ct p n = 0 ↔ ∀ k, k < n → p k = false
  | 0 => ⟨fun _ k hk => absurd hk (Nat.not_lt_zero k), fun _ => rfl⟩
  | n + 1 => by
    have h := fb_ct_zero (p := p) (n := n)
    rw [fb_ct_succ]
    constructor
    · intro e k hk
      have e1 : fb_ct p n = 0 := by omega
      rcases Nat.lt_or_ge k n with q | q
      · exact h.mp e1 k q
      · have ek : k = n := by omega
        subst ek
        cases hp : p k
        · rfl
        · simp [hp] at e
    · intro a
      rw [h.mpr (fun k hk => a k (by omega)), a n (by omega)]
      rfl
theorem fb_ct_pos {p : Nat → Bool} {n : Nat} : 0 < fb_ct p n ↔ ∃ k, k < n ∧ p k = true := by
  constructor
  · intro h
    refine Classical.byContradiction fun hx => ?_
    have := fb_ct_zero.mpr (fun k hk => by
      cases hp : p k
      · rfl
      · exact absurd ⟨k, hk, hp⟩ hx : ∀ k, k < n → p k = false)
    omega
  · rintro ⟨k, hk, hp⟩
    rcases Nat.eq_zero_or_pos (fb_ct p n) with e | e
    · have := fb_ct_zero.mp e k hk
      rw [this] at hp
      cases hp
    · exact e
theorem fb_ct_all {p : Nat → Bool} {n : Nat} : fb_ct p n = n ↔ ∀ k, k < n → p k = true := by
  have h := fb_ct_not p n
  constructor
  · intro e k hk
    have z : fb_ct (fun k => !p k) n = 0 := by omega
    have := fb_ct_zero.mp z k hk
    cases hp : p k
    · simp [hp] at this
    · rfl
  · intro a
    have z : fb_ct (fun k => !p k) n = 0 := fb_ct_zero.mpr (fun k hk => by simp [a k hk])
    omega
/-- the k-th place with the property -/
theorem fb_ct_kth {p : Nat → Bool} {k : Nat} : ∀ {n : Nat}, k < fb_ct p n → ∃ i, i < n ∧ p i = true ∧ fb_ct p i = k
  | 0, h => absurd h (Nat.not_lt_zero k)
  | n + 1, h => by
    rcases Nat.lt_or_ge k (fb_ct p n) with q | q
    · obtain ⟨i, h1, h2⟩ := fb_ct_kth q
      exact ⟨i, by omega, h2⟩
    · rw [fb_ct_succ] at h
      cases hp : p n
      · simp [hp] at h; omega
      · simp [hp] at h
        exact ⟨n, by omega, hp, by omega⟩
theorem fb_ct_kth_one {p : Nat → Bool} {i j : Nat} (hi : p i = true) (hj : p j = true) (e : fb_ct p i = fb_ct p j) : i = j := by
  have key : ∀ a b : Nat, a < b → p a = true → fb_ct p a < fb_ct p b := by
    intro a b hab ha
    have h := fb_ct_mono p (show a + 1 ≤ b from hab)
    rw [fb_ct_succ, ha] at h
    simp at h
    omega
  rcases Nat.lt_trichotomy i j with q | q | q
  · have := key i j q hi; omega
  · exact q
  · have := key j i q hj; omega
/-! ===== sums over a range: one place changed, parts, bounds ===== -/
def fb_sm (f : Nat → Nat) : Nat → Nat
  | 0 => 0
  | n + 1 => fb_sm f n + f n
theorem fb_sm_succ (f : Nat → Nat) (n : Nat) : fb_sm f (n + 1) = fb_sm f n + f n := rfl
theorem fb_sm_cong {f g : Nat → Nat} : ∀ {n : Nat}, (∀ k, k < n → f k = g k) → fb_sm f n = fb_sm g n
  | 0, _ => rfl
  | n + 1, h => by rw [fb_sm_succ, fb_sm_succ, fb_sm_cong (fun k hk => h k (by omega)), h n (by omega)]
theorem fb_sm_out (f : Nat → Nat) (v : Nat) {i n : Nat} (h : n ≤ i) : fb_sm (fun k => if k = i then v else f k) n = fb_sm f n :=
  fb_sm_cong fun k hk => if_neg (by omega)
theorem fb_sm_upd (f : Nat → Nat) (v : Nat) {i : Nat} : ∀ {n : Nat}, i < n → fb_sm (fun k => if k = i then v else f k) n + f i = fb_sm f n + v
  | 0, h => absurd h (Nat.not_lt_zero i)
  | n + 1, h => by
    rw [fb_sm_succ, fb_sm_succ]
    rcases Nat.lt_or_ge i n with q | q
    · have := fb_sm_upd f v q
      have e : (if n = i then v else f n) = f n := if_neg (by omega)
      rw [e]
      omega
    · have e : i = n := by omega
      subst e
      rw [fb_sm_out f v (Nat.le_refl _)]
      simp only [if_true]
      omega
theorem fb_sm_add (f g : Nat → Nat) : ∀ n, fb_sm (fun k => f k + g k) n = fb_sm f n + fb_sm g n
  | 0 => rfl
  | n + 1 => by
    have h := fb_sm_add f g n
    rw [fb_sm_succ, fb_sm_succ, fb_sm_succ, h]
    omega
theorem fb_sm_le {f g : Nat → Nat} : ∀ {n : Nat}, (∀ k, k < n → f k ≤ g k) → fb_sm f n ≤ fb_sm g n
  | 0, _ => Nat.le_refl _
  | n + 1, h => by
    have h1 := fb_sm_le (n := n) (f := f) (g := g) (fun k hk => h k (by omega))
    have h2 := h n (by omega)
    rw [fb_sm_succ, fb_sm_succ]
    omega
theorem fb_sm_const (c : Nat) : ∀ n, fb_sm (fun _ => c) n = n * c
  | 0 => by rw [Nat.zero_mul]; rfl
  | n + 1 => by rw [fb_sm_succ, fb_sm_const c n, Nat.succ_mul]
theorem fb_sm_bound {f : Nat → Nat} {c n : Nat} (h : ∀ k, k < n → f k ≤ c) : fb_sm f n ≤ n * c := by
  rw [← fb_sm_const c n]
  exact fb_sm_le h
theorem fb_sm_mono (f : Nat → Nat) (m : Nat) : ∀ n, fb_sm f m ≤ fb_sm f (m + n)
  | 0 => Nat.le_refl _
  | n + 1 => by
    have h := fb_sm_mono f m n
    show fb_sm f m ≤ fb_sm f (m + n + 1)
    rw [fb_sm_succ]
    omega
theorem fb_sm_part (f : Nat → Nat) {i n : Nat} (h : i < n) : fb_sm f i + f i ≤ fb_sm f n := by
  have := fb_sm_mono f (i + 1) (n - (i + 1))
  rw [fb_sm_succ, show i + 1 + (n - (i + 1)) = n by omega] at this
  exact this
theorem fb_sm_split (f : Nat → Nat) (m : Nat) : ∀ n, fb_sm f (m + n) = fb_sm f m + fb_sm (fun k => f (m + k)) n
  | 0 => rfl
  | n + 1 => by
    have h := fb_sm_split f m n
    show fb_sm f (m + n + 1) = _
    rw [fb_sm_succ, fb_sm_succ, h, Nat.add_assoc]
theorem fb_sm_zero {f : Nat → Nat} {n : Nat} (h : fb_sm f n = 0) : ∀ k, k < n → f k = 0 := fun k hk => by
  have := fb_sm_part f hk
  omega
/-! ===== Long.bitCount by digits ===== -/
def qk (B : Nat) (d : Nat → Nat) : Nat → Nat
  | 0 => 0
  | m + 1 => d 0 + B * qk B (fun k => d (k + 1)) m
theorem qk_cong {B : Nat} {d e : Nat → Nat} (h : ∀ k, d k = e k) (m : Nat) : qk B d m = qk B e m := by
  have : d = e := funext h
  rw [this]
theorem qk_add (B : Nat) : ∀ (m : Nat) (d e : Nat → Nat), qk B d m + qk B e m = qk B (fun k => d k + e k) m
  | 0, _, _ => rfl
  | m + 1, d, e => by
    have ih := qk_add B m (fun k => d (k + 1)) (fun k => e (k + 1))
    simp only [qk]
    rw [← ih, Nat.mul_add]
    omega
theorem qk_pair (B : Nat) : ∀ (m : Nat) (d : Nat → Nat), qk B d (2 * m) = qk (B * B) (fun k => d (2 * k) + B * d (2 * k + 1)) m
  | 0, _ => rfl
  | m + 1, d => by
    have ih := qk_pair B m (fun k => d (k + 1 + 1))
    rw [show 2 * (m + 1) = 2 * m + 1 + 1 by omega]
    simp only [qk]
    rw [ih, Nat.mul_add, ← Nat.mul_assoc, Nat.add_assoc]
    rfl
theorem qk_ext (B : Nat) : ∀ (m : Nat) (d : Nat → Nat), d m = 0 → qk B d m = qk B d (m + 1)
  | 0, d, h => by simp [qk, h]
  | m + 1, d, h => by
    have ih := qk_ext B m (fun k => d (k + 1)) h
    rw [qk, qk, ← ih]
theorem qk_shr {B m : Nat} {d : Nat → Nat} (hB : 0 < B) (h : d 0 < B) (h0 : d m = 0) : qk B d m / B = qk B (fun k => d (k + 1)) m := by
  rw [qk_ext B m d h0, qk, Nat.add_mul_div_left _ _ hB, Nat.div_eq_of_lt h, Nat.zero_add]
theorem qk_and1 {w y z d e : Nat} (hd : d < 2 ^ w) (he : e < 2 ^ w) : (d + 2 ^ w * y) &&& (e + 2 ^ w * z) = (d &&& e) + 2 ^ w * (y &&& z) := by
  have hde : d &&& e < 2 ^ w := Nat.and_lt_two_pow _ he
  apply Nat.eq_of_testBit_eq
  intro i
  rw [Nat.testBit_and, Nat.add_comm d, Nat.add_comm e, Nat.add_comm (d &&& e), Nat.testBit_two_pow_mul_add _ hd, Nat.testBit_two_pow_mul_add _ he, Nat.testBit_two_pow_mul_add _ hde]
  by_cases h : i < w <;> simp [h]
theorem qk_and (w : Nat) : ∀ (m : Nat) (d e : Nat → Nat), (∀ k, d k < 2 ^ w) → (∀ k, e k < 2 ^ w) → qk (2 ^ w) d m &&& qk (2 ^ w) e m = qk (2 ^ w) (fun k => d k &&& e k) m
  | 0, _, _, _, _ => by simp [qk]
  | m + 1, d, e, hd, he => by
    have ih := qk_and w m (fun k => d (k + 1)) (fun k => e (k + 1)) (fun k => hd (k + 1)) (fun k => he (k + 1))
    simp only [qk]
    rw [qk_and1 (hd 0) (he 0), ih]
theorem qk_lt {B : Nat} (hB : 0 < B) : ∀ (m : Nat) (d : Nat → Nat), (∀ k, d k < B) → qk B d m < B ^ m
  | 0, _, _ => by simp [qk]
  | m + 1, d, h => by
    have ih := qk_lt hB m (fun k => d (k + 1)) (fun k => h (k + 1))
    simp only [qk]
    have h0 := h 0
    have : B * (qk B (fun k => d (k + 1)) m + 1) ≤ B * B ^ m := Nat.mul_le_mul_left B ih
    rw [Nat.mul_add, Nat.mul_one] at this
    rw [Nat.pow_succ, Nat.mul_comm (B ^ m)]
    omega
abbrev tn (x : Int64) : Nat := x.toBitVec.toNat
theorem tn_lt (x : Int64) : tn x < 2 ^ 64 := x.toBitVec.isLt
theorem tn_and (x y : Int64) : tn (x &&& y) = tn x &&& tn y := by show (x &&& y).toBitVec.toNat = _; rw [Int64.toBitVec_and, BitVec.toNat_and]
theorem tn_add {x y : Int64} (h : tn x + tn y < 2 ^ 64) : tn (x + y) = tn x + tn y := by show (x + y).toBitVec.toNat = _; rw [Int64.toBitVec_add, BitVec.toNat_add, Nat.mod_eq_of_lt h]
theorem tn_sub {x y : Int64} (h : tn y ≤ tn x) : tn (x - y) = tn x - tn y := by
  have h1 := tn_lt x
  have h2 := tn_lt y
  unfold tn at *
  rw [Int64.toBitVec_sub, BitVec.toNat_sub, show 2 ^ 64 - y.toBitVec.toNat + x.toBitVec.toNat = (x.toBitVec.toNat - y.toBitVec.toNat) + 2 ^ 64 by omega, Nat.add_mod_right, Nat.mod_eq_of_lt (by omega)]
theorem tn_shr (x : Int64) {k : Nat} (hk : k < 64) : tn ((Int64.toUInt64 x >>> ((nI k).toInt64.toUInt64 &&& Int64.toUInt64 63)).toInt64) = tn x / 2 ^ k := by
  rw [qb_cu k hk]
  show (x.toUInt64 >>> UInt64.ofNat k).toBitVec.toNat = _
  have hm : ((UInt64.ofNat k).toBitVec % 64).toNat = k := by rw [BitVec.toNat_umod]; exact qb_un k hk
  rw [UInt64.toBitVec_shiftRight, BitVec.ushiftRight_eq', hm, BitVec.toNat_ushiftRight, Nat.shiftRight_eq_div_pow]
  rfl
def qd (x : Int64) (k : Nat) : Nat := if qb x k then 1 else 0
theorem qd_le (x : Int64) (k : Nat) : qd x k ≤ 1 := by unfold qd; split <;> omega
theorem qk_bits : ∀ (m n : Nat), n < 2 ^ m → n = qk 2 (fun k => if n.testBit k then 1 else 0) m
  | 0, n, h => by simp at h; simp [qk, h]
  | m + 1, n, h => by
    have ih := qk_bits m (n / 2) (by rw [Nat.pow_succ] at h; omega)
    simp only [qk]
    have e : (fun k => if n.testBit (k + 1) = true then 1 else 0) = fun k => if (n / 2).testBit k = true then 1 else 0 := by
      funext k
      rw [Nat.testBit_succ]
    rw [e, ← ih, Nat.testBit_zero]
    by_cases h2 : n % 2 = 1
    · simp [h2]; omega
    · simp [h2]; omega
theorem tn_bits (x : Int64) : tn x = qk 2 (qd x) 64 := qk_bits 64 (tn x) (tn_lt x)
theorem qd_big (x : Int64) {k : Nat} (h : 64 ≤ k) : qd x k = 0 := by unfold qd; rw [qb_big h]; rfl
theorem and_low : ∀ p, p < 2 → ∀ q, q < 2 → (p + 2 * q) &&& 1 = p := by decide
theorem and_low2 : ∀ p, p < 4 → ∀ q, q < 4 → (p + 4 * q) &&& 3 = p := by decide
theorem and_low4 : ∀ p, p < 16 → ∀ q, q < 16 → (p + 16 * q) &&& 15 = p := by decide
theorem cnt_end {z : Int64} {n q : Nat} (h : tn z = n + 2 ^ 8 * q) (hn : n < 128) : Int64.toInt32 z &&& 127 = nI n := by
  have hz : z = lN (tn z) := Int64.toBitVec_inj.mp (by show _ = BitVec.ofNat 64 _; simp)
  have e : Int64.toInt32 z = nI (tn z) := (congrArg Int64.toInt32 hz).trans (lN_i _)
  have e2 : (nI (tn z)).toBitVec.toNat = tn z % 2 ^ 32 := BitVec.toNat_ofNat ..
  rw [e, pk_and (nI (tn z)) 7 (by decide), e2, h]
  congr 1
  omega
theorem qs_1 (x : Int64) : tn (x - (((Int64.toUInt64 x >>> ((nI 1).toInt64.toUInt64 &&& Int64.toUInt64 63)).toInt64) &&& 6148914691236517205)) = qk (2 ^ 2) (fun k => qd x (2 * k) + qd x (2 * k + 1)) 32 := by
  have hb := qd_le x
  have hB := @qd_big x
  have m1 : tn 6148914691236517205 = qk (2 ^ 2) (fun _ => 1) 32 := by decide +kernel
  have s1 : tn (((Int64.toUInt64 x >>> ((nI 1).toInt64.toUInt64 &&& Int64.toUInt64 63)).toInt64) &&& 6148914691236517205) = qk (2 ^ 2) (fun k => qd x (2 * k + 1)) 32 := by
    rw [tn_and, tn_shr x (by decide), m1, tn_bits x, show (2 : Nat) ^ 1 = 2 from rfl, qk_shr (by decide) (by have := hb 0; omega) (hB (Nat.le_refl _)), show (64 : Nat) = 2 * 32 from rfl, qk_pair, show (2 : Nat) * 2 = 2 ^ 2 from rfl, qk_and 2 32 _ _ (fun k => by have := hb (2 * k + 1); have := hb (2 * k + 1 + 1); show _ < 4; omega) (fun k => by decide)]
    exact qk_cong (fun k => and_low _ (by have := hb (2 * k + 1); omega) _ (by have := hb (2 * k + 1 + 1); omega)) 32
  have x1 : tn x = qk (2 ^ 2) (fun k => qd x (2 * k) + qd x (2 * k + 1)) 32 + qk (2 ^ 2) (fun k => qd x (2 * k + 1)) 32 := by
    rw [tn_bits x, show (64 : Nat) = 2 * 32 from rfl, qk_pair, qk_add]
    exact qk_cong (fun k => by omega) 32
  have y1 := tn_sub (x := x) (y := ((Int64.toUInt64 x >>> ((nI 1).toInt64.toUInt64 &&& Int64.toUInt64 63)).toInt64) &&& 6148914691236517205) (by rw [s1, x1]; exact Nat.le_add_left _ _)
  rw [s1, x1, Nat.add_sub_cancel] at y1
  exact y1
theorem qs_2 {z1 : Int64} {c : Nat → Nat} (y1 : tn z1 = qk (2 ^ 2) c 32) (hc2 : ∀ k, c k ≤ 2) (hcB : ∀ k, 32 ≤ k → c k = 0) :
    tn ((z1 &&& 3689348814741910323) + (((Int64.toUInt64 z1 >>> ((nI 2).toInt64.toUInt64 &&& Int64.toUInt64 63)).toInt64) &&& 3689348814741910323)) = qk (2 ^ 4) (fun k => c (2 * k) + c (2 * k + 1)) 16 := by
  have m2 : tn 3689348814741910323 = qk (2 ^ 4) (fun _ => 3) 16 := by decide +kernel
  have p2 : qk (2 ^ 2) c 32 = qk (2 ^ 4) (fun k => c (2 * k) + 4 * c (2 * k + 1)) 16 := qk_pair 4 16 c
  have a2 : tn (z1 &&& 3689348814741910323) = qk (2 ^ 4) (fun k => c (2 * k)) 16 := by
    rw [tn_and, y1, m2, p2, qk_and 4 16 _ _ (fun k => by have := hc2 (2 * k); have := hc2 (2 * k + 1); show _ < 16; omega) (fun k => by decide)]
    exact qk_cong (fun k => and_low2 _ (by have := hc2 (2 * k); omega) _ (by have := hc2 (2 * k + 1); omega)) 16
  have b2 : tn (((Int64.toUInt64 z1 >>> ((nI 2).toInt64.toUInt64 &&& Int64.toUInt64 63)).toInt64) &&& 3689348814741910323) = qk (2 ^ 4) (fun k => c (2 * k + 1)) 16 := by
    have q2 : qk 4 (fun k => c (k + 1)) 32 = qk (2 ^ 4) (fun k => c (2 * k + 1) + 4 * c (2 * k + 1 + 1)) 16 := qk_pair 4 16 (fun k => c (k + 1))
    rw [tn_and, tn_shr z1 (by decide), m2, y1, show (2 : Nat) ^ 2 = 4 from rfl, qk_shr (by decide) (by have := hc2 0; omega) (hcB 32 (Nat.le_refl _)), q2, qk_and 4 16 _ _ (fun k => by have := hc2 (2 * k + 1); have := hc2 (2 * k + 1 + 1); show _ < 16; omega) (fun k => by decide)]
    exact qk_cong (fun k => and_low2 _ (by have := hc2 (2 * k + 1); omega) _ (by have := hc2 (2 * k + 1 + 1); omega)) 16
  have y2 := tn_add (x := z1 &&& 3689348814741910323) (y := ((Int64.toUInt64 z1 >>> ((nI 2).toInt64.toUInt64 &&& Int64.toUInt64 63)).toInt64) &&& 3689348814741910323) (by
    rw [a2, b2, qk_add]
    exact Nat.lt_of_lt_of_le (qk_lt (by decide) 16 _ (fun k => by have := hc2 (2 * k); have := hc2 (2 * k + 1); show _ < 16; omega)) (by decide))
  rw [a2, b2, qk_add] at y2
  exact y2
theorem qs_3 {z2 : Int64} {d : Nat → Nat} (y2 : tn z2 = qk (2 ^ 4) d 16) (hd2 : ∀ k, d k ≤ 4) (hdB : ∀ k, 16 ≤ k → d k = 0) :
    tn ((z2 + ((Int64.toUInt64 z2 >>> ((nI 4).toInt64.toUInt64 &&& Int64.toUInt64 63)).toInt64)) &&& 1085102592571150095) = qk (2 ^ 8) (fun k => d (2 * k) + d (2 * k + 1)) 8 := by
  have m3 : tn 1085102592571150095 = qk (2 ^ 8) (fun _ => 15) 8 := by decide +kernel
  have s3 : tn ((Int64.toUInt64 z2 >>> ((nI 4).toInt64.toUInt64 &&& Int64.toUInt64 63)).toInt64) = qk (2 ^ 4) (fun k => d (k + 1)) 16 := by
    rw [tn_shr z2 (by decide), y2, qk_shr (by decide) (by have := hd2 0; show _ < 16; omega) (hdB 16 (Nat.le_refl _))]
  have a3 := tn_add (x := z2) (y := (Int64.toUInt64 z2 >>> ((nI 4).toInt64.toUInt64 &&& Int64.toUInt64 63)).toInt64) (by
    rw [y2, s3, qk_add]
    exact Nat.lt_of_lt_of_le (qk_lt (by decide) 16 _ (fun k => by have := hd2 k; have := hd2 (k + 1); show _ < 16; omega)) (by decide))
  rw [y2, s3, qk_add] at a3
  have p3 : qk (2 ^ 4) (fun k => d k + d (k + 1)) 16 = qk (2 ^ 8) (fun k => (d (2 * k) + d (2 * k + 1)) + 16 * (d (2 * k + 1) + d (2 * k + 1 + 1))) 8 := qk_pair 16 8 (fun k => d k + d (k + 1))
  rw [tn_and, a3, m3, p3, qk_and 8 8 _ _ (fun k => by have := hd2 (2 * k); have := hd2 (2 * k + 1); have := hd2 (2 * k + 1 + 1); show _ < 256; omega) (fun k => by decide)]
  exact qk_cong (fun k => and_low4 _ (by have := hd2 (2 * k); have := hd2 (2 * k + 1); omega) _ (by have := hd2 (2 * k + 1); have := hd2 (2 * k + 1 + 1); omega)) 8
theorem qs_4 {z : Int64} {e : Nat → Nat} (y : tn z = qk (2 ^ 8) e 8) (he2 : ∀ k, e k ≤ 64) (heB : ∀ k, 8 ≤ k → e k = 0) :
    tn (z + ((Int64.toUInt64 z >>> ((nI 8).toInt64.toUInt64 &&& Int64.toUInt64 63)).toInt64)) = qk (2 ^ 8) (fun k => e k + e (k + 1)) 8 ∧
    tn (z + ((Int64.toUInt64 z >>> ((nI 16).toInt64.toUInt64 &&& Int64.toUInt64 63)).toInt64)) = qk (2 ^ 8) (fun k => e k + e (k + 1 + 1)) 8 ∧
    tn (z + ((Int64.toUInt64 z >>> ((nI 32).toInt64.toUInt64 &&& Int64.toUInt64 63)).toInt64)) = qk (2 ^ 8) (fun k => e k + e (k + 1 + 1 + 1 + 1)) 8 := by
  have hl : ∀ k, e k < 2 ^ 8 := fun k => by have := he2 k; show _ < 256; omega
  have r1 : qk (2 ^ 8) e 8 / 2 ^ 8 = qk (2 ^ 8) (fun k => e (k + 1)) 8 := qk_shr (by decide) (hl 0) (heB 8 (by decide))
  have r2 : qk (2 ^ 8) (fun k => e (k + 1)) 8 / 2 ^ 8 = qk (2 ^ 8) (fun k => e (k + 1 + 1)) 8 := qk_shr (d := fun k => e (k + 1)) (by decide) (hl 1) (heB 9 (by decide))
  have r3 : qk (2 ^ 8) (fun k => e (k + 1 + 1)) 8 / 2 ^ 8 = qk (2 ^ 8) (fun k => e (k + 1 + 1 + 1)) 8 := qk_shr (d := fun k => e (k + 1 + 1)) (by decide) (hl 2) (heB 10 (by decide))
  have r4 : qk (2 ^ 8) (fun k => e (k + 1 + 1 + 1)) 8 / 2 ^ 8 = qk (2 ^ 8) (fun k => e (k + 1 + 1 + 1 + 1)) 8 := qk_shr (d := fun k => e (k + 1 + 1 + 1)) (by decide) (hl 3) (heB 11 (by decide))
  have t1 : tn ((Int64.toUInt64 z >>> ((nI 8).toInt64.toUInt64 &&& Int64.toUInt64 63)).toInt64) = qk (2 ^ 8) (fun k => e (k + 1)) 8 := by rw [tn_shr z (by decide), y, r1]
  have t2 : tn ((Int64.toUInt64 z >>> ((nI 16).toInt64.toUInt64 &&& Int64.toUInt64 63)).toInt64) = qk (2 ^ 8) (fun k => e (k + 1 + 1)) 8 := by rw [tn_shr z (by decide), y, show (2 : Nat) ^ 16 = 2 ^ 8 * 2 ^ 8 from rfl, ← Nat.div_div_eq_div_mul, r1, r2]
  have t3 : tn ((Int64.toUInt64 z >>> ((nI 32).toInt64.toUInt64 &&& Int64.toUInt64 63)).toInt64) = qk (2 ^ 8) (fun k => e (k + 1 + 1 + 1 + 1)) 8 := by rw [tn_shr z (by decide), y, show (2 : Nat) ^ 32 = 2 ^ 8 * 2 ^ 8 * 2 ^ 8 * 2 ^ 8 from rfl, ← Nat.div_div_eq_div_mul, ← Nat.div_div_eq_div_mul, ← Nat.div_div_eq_div_mul, r1, r2, r3, r4]
  have lt : ∀ e' : Nat → Nat, (∀ k, e' k ≤ 64) → qk (2 ^ 8) (fun k => e k + e' k) 8 < 2 ^ 64 := fun e' h' => Nat.lt_of_lt_of_le (qk_lt (by decide) 8 _ (fun k => by have := he2 k; have := h' k; show _ < 256; omega)) (by decide)
  refine ⟨?_, ?_, ?_⟩
  · rw [tn_add (by rw [y, t1, qk_add]; exact lt _ (fun k => he2 _)), y, t1, qk_add]
  · rw [tn_add (by rw [y, t2, qk_add]; exact lt _ (fun k => he2 _)), y, t2, qk_add]
  · rw [tn_add (by rw [y, t3, qk_add]; exact lt _ (fun k => he2 _)), y, t3, qk_add]
theorem fb_sm_pair (f : Nat → Nat) : ∀ m, fb_sm (fun k => f (2 * k) + f (2 * k + 1)) m = fb_sm f (2 * m)
  | 0 => rfl
  | m + 1 => by
    rw [fb_sm_succ, fb_sm_pair f m, show 2 * (m + 1) = 2 * m + 1 + 1 by omega, fb_sm_succ, fb_sm_succ]
    omega
theorem fb_sm_ct (p : Nat → Bool) : ∀ m, fb_sm (fun k => if p k then 1 else 0) m = fb_ct p m
  | 0 => rfl
  | m + 1 => by rw [fb_sm_succ, fb_ct_succ, fb_sm_ct p m]
theorem f_cnt_eq (F : Nat × Nat) (x : Int64) : f_J13_bitCount_95d88 F x = some (nI (fb_ct (qb x) 64)) := by
  have hb := qd_le x
  have hB := @qd_big x
  have y1 := qs_1 x
  obtain ⟨c, hc⟩ : ∃ c : Nat → Nat, c = fun k => qd x (2 * k) + qd x (2 * k + 1) := ⟨_, rfl⟩
  have hc2 : ∀ k, c k ≤ 2 := fun k => by rw [hc]; have := hb (2 * k); have := hb (2 * k + 1); show _ + _ ≤ 2; omega
  have hcB : ∀ k, 32 ≤ k → c k = 0 := fun k hk => by rw [hc]; show _ + _ = 0; rw [hB (by omega), hB (by omega)]
  rw [← hc] at y1
  have y2 := qs_2 y1 hc2 hcB
  obtain ⟨d, hd⟩ : ∃ d : Nat → Nat, d = fun k => c (2 * k) + c (2 * k + 1) := ⟨_, rfl⟩
  have hd2 : ∀ k, d k ≤ 4 := fun k => by rw [hd]; have := hc2 (2 * k); have := hc2 (2 * k + 1); show _ + _ ≤ 4; omega
  have hdB : ∀ k, 16 ≤ k → d k = 0 := fun k hk => by rw [hd]; show _ + _ = 0; rw [hcB _ (by omega), hcB _ (by omega)]
  rw [← hd] at y2
  have y3 := qs_3 y2 hd2 hdB
  obtain ⟨e, he⟩ : ∃ e : Nat → Nat, e = fun k => d (2 * k) + d (2 * k + 1) := ⟨_, rfl⟩
  have he2 : ∀ k, e k ≤ 8 := fun k => by rw [he]; have := hd2 (2 * k); have := hd2 (2 * k + 1); show _ + _ ≤ 8; omega
  have heB : ∀ k, 8 ≤ k → e k = 0 := fun k hk => by rw [he]; show _ + _ = 0; rw [hdB _ (by omega), hdB _ (by omega)]
  rw [← he] at y3
  have y4 := (qs_4 y3 (fun k => Nat.le_trans (he2 k) (by decide)) heB).1
  obtain ⟨g, hg⟩ : ∃ g : Nat → Nat, g = fun k => e k + e (k + 1) := ⟨_, rfl⟩
  have hg2 : ∀ k, g k ≤ 16 := fun k => by rw [hg]; have := he2 k; have := he2 (k + 1); show _ + _ ≤ 16; omega
  have hgB : ∀ k, 8 ≤ k → g k = 0 := fun k hk => by rw [hg]; show _ + _ = 0; rw [heB _ (by omega), heB _ (by omega)]
  rw [← hg] at y4
  have y5 := (qs_4 y4 (fun k => Nat.le_trans (hg2 k) (by decide)) hgB).2.1
  obtain ⟨h, hh⟩ : ∃ h : Nat → Nat, h = fun k => g k + g (k + 1 + 1) := ⟨_, rfl⟩
  have hh2 : ∀ k, h k ≤ 32 := fun k => by rw [hh]; have := hg2 k; have := hg2 (k + 1 + 1); show _ + _ ≤ 32; omega
  have hhB : ∀ k, 8 ≤ k → h k = 0 := fun k hk => by rw [hh]; show _ + _ = 0; rw [hgB _ (by omega), hgB _ (by omega)]
  rw [← hh] at y5
  have y6 := (qs_4 y5 (fun k => Nat.le_trans (hh2 k) (by decide)) hhB).2.2
  rw [qk] at y6
  have hfin := cnt_end y6 (by have := hh2 0; have := hh2 4; show h 0 + h 4 < 128; omega)
  have hsum : h 0 + h (0 + 1 + 1 + 1 + 1) = fb_ct (qb x) 64 := by
    have e1 : h 0 + h 4 = fb_sm e 8 := by
      have a0 : h 0 = e 0 + e 1 + (e 2 + e 3) := by rw [hh, hg]
      have a4 : h 4 = e 4 + e 5 + (e 6 + e 7) := by rw [hh, hg]
      have s8 : fb_sm e 8 = 0 + e 0 + e 1 + e 2 + e 3 + e 4 + e 5 + e 6 + e 7 := rfl
      omega
    have e2 : fb_sm e 8 = fb_sm d 16 := by rw [he]; exact fb_sm_pair d 8
    have e3 : fb_sm d 16 = fb_sm c 32 := by rw [hd]; exact fb_sm_pair c 16
    have e4 : fb_sm c 32 = fb_sm (qd x) 64 := by rw [hc]; exact fb_sm_pair (qd x) 32
    have e5 : fb_sm (qd x) 64 = fb_ct (qb x) 64 := fb_sm_ct (qb x) 64
    show h 0 + h 4 = _
    rw [e1, e2, e3, e4, e5]
  rw [hsum] at hfin
  show some _ = some _
  exact congrArg some hfin
