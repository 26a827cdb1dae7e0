/-! ===== Turns one after another ===== -/
theorem nI_xog (a b : Nat) : nI a ^^^ nI b = nI (a ^^^ b) := Int32.toBitVec_inj.mp (by
  rw [Int32.toBitVec_xor]
  exact (BitVec.ofNat_xor (w := 32) (x := a) (y := b)).symm)
def swD (m i j : Nat) : Nat := if i = j then m else (m ^^^ ((dg m i ^^^ dg m j) * 8 ^ i)) ^^^ ((dg m i ^^^ dg m j) * 8 ^ j)
def tau (a b k : Nat) : Nat := if k = a then b else if k = b then a else k
def enl (rec : Nat → List Nat) (told : Nat) : Nat → Nat → Nat → List Nat
  | 0, _, _ => []
  | k + 1, i, m => rec (swD m told i) ++ enl rec told k (i + 1) (swD m told i)
def en : Nat → Nat → Nat → List Nat
  | 0, _, m => [m]
  | d + 1, told, m => enl (fun m' => en d (told + 1) m') told (d + 1) told m
def okS (n m m' a b : Nat) : Bool := decide (m' / 8 ^ n = 0) && (decide (sN m' n = 2 ^ n - 1) && alw (fun k => decide (dg m' k = dg m (tau a b k))) 0 n)
def ckl (n : Nat) (rec : Nat → Bool) (told : Nat) : Nat → Nat → Nat → Bool
  | 0, _, _ => true
  | k + 1, i, m => okS n m (swD m told i) told i && (rec (swD m told i) && ckl n rec told k (i + 1) (swD m told i))
def ck (n : Nat) : Nat → Nat → Nat → Bool
  | 0, _, _ => true
  | d + 1, told, m => ckl n (fun m' => ck n d (told + 1) m') told (d + 1) told m
def idn (n : Nat) : Nat := fold6 (fun a i => a + i * 8 ^ i) 0 0 n
def pl (n : Nat) : List Nat := en n 0 (idn n)
theorem ck_3 : ck 3 3 0 (idn 3) = true := by decide +kernel
theorem ck_4 : ck 4 4 0 (idn 4) = true := by decide +kernel
theorem ck_5 : ck 5 5 0 (idn 5) = true := by decide +kernel
theorem ck_6 : ck 6 6 0 (idn 6) = true := by decide +kernel
theorem ck_n {n : Nat} (h3 : 3 ≤ n) (h6 : n ≤ 6) : ck n n 0 (idn n) = true := by
  rcases (show n = 3 ∨ n = 4 ∨ n = 5 ∨ n = 6 by omega) with rfl | rfl | rfl | rfl
  · exact ck_3
  · exact ck_4
  · exact ck_5
  · exact ck_6
/-- the next turn -/
def asc (σ : Nat → Nat) : Nat → Option Nat
  | 0 => none
  | i + 1 => if σ (i + 1) < σ i then asc σ i else some i
def dsc (σ : Nat → Nat) (v : Nat) : Nat → Nat
  | 0 => 0
  | j + 1 => if σ (j + 1) < v then dsc σ v j else j + 1
def swF (σ : Nat → Nat) (i j : Nat) : Nat → Nat := fun k => if k = j then σ i else if k = i then σ j else σ k
def rv (σ : Nat → Nat) : Nat → Nat → Nat → Nat → Nat
  | 0, _, _ => σ
  | f + 1, a, b => if a < b then rv (swF σ a b) f (a + 1) (b - 1) else σ
def nxF (n : Nat) (σ : Nat → Nat) : Option (Nat → Nat) := match asc σ (n - 1) with
  | none => none
  | some i => some (rv (swF σ i (dsc σ (σ i) (n - 1))) 6 (i + 1) (n - 1))
def okN (n m m' : Nat) : Bool := match nxF n (dg m) with
  | none => false
  | some f => alw (fun k => decide (f k = dg m' k)) 0 n
def chn (n : Nat) : List Nat → Bool
  | [] => true
  | m :: l => match l with
    | [] => (nxF n (dg m)).isNone
    | m' :: _ => okN n m m' && chn n l
theorem ch_3 : chn 3 (pl 3) = true := by decide +kernel
theorem ch_4 : chn 4 (pl 4) = true := by decide +kernel
theorem ch_5 : chn 5 (pl 5) = true := by decide +kernel
theorem ch_6 : chn 6 (pl 6) = true := by decide +kernel
theorem ch_n {n : Nat} (h3 : 3 ≤ n) (h6 : n ≤ 6) : chn n (pl n) = true := by
  rcases (show n = 3 ∨ n = 4 ∨ n = 5 ∨ n = 6 by omega) with rfl | rfl | rfl | rfl
  · exact ch_3
  · exact ch_4
  · exact ch_5
  · exact ch_6
theorem pl_hd {n : Nat} (h3 : 3 ≤ n) (h6 : n ≤ 6) : ∃ l, pl n = idn n :: l ∧ l.length < 1000 := by
  have h : ∀ n, n < 7 → n < 3 ∨ ((pl n).head? = some (idn n) ∧ (pl n).length < 1000) := by decide +kernel
  have h' := (h n (by omega)).resolve_left (by omega)
  cases e : pl n with
  | nil => rw [e] at h'; cases h'.1
  | cons m l =>
    rw [e] at h'
    have h1 : m = idn n := by have := h'.1; cases this; rfl
    have h2 : l.length + 1 < 1000 := h'.2
    exact ⟨l, by rw [h1], by omega⟩
theorem id_dg {n : Nat} (h6 : n ≤ 6) : isT n (idn n) ∧ ∀ i, i < n → dg (idn n) i = i := by
  have h : ∀ n, n < 7 → (idn n / 8 ^ n = 0 ∧ sN (idn n) n = 2 ^ n - 1) ∧ ∀ i, i < n → dg (idn n) i = i := by decide +kernel
  exact h n (by omega)
/-! looking through a list -/
def fnd (p : Nat → Bool) : List Nat → Option Nat
  | [] => none
  | a :: l => if p a then some a else fnd p l
def cnt (p : Nat → Bool) : List Nat → Nat
  | [] => 0
  | a :: l => (if p a then 1 else 0) + cnt p l
theorem fnd_app (p : Nat → Bool) (l2 : List Nat) : ∀ l1, fnd p (l1 ++ l2) = match fnd p l1 with | some a => some a | none => fnd p l2
  | [] => rfl
  | a :: l => by
    show (if p a then some a else fnd p (l ++ l2)) = match (if p a then some a else fnd p l) with | some a => some a | none => fnd p l2
    cases p a
    · rw [if_neg (by decide), if_neg (by decide)]; exact fnd_app p l2 l
    · rfl
theorem cnt_app (p : Nat → Bool) (l2 : List Nat) : ∀ l1, cnt p (l1 ++ l2) = cnt p l1 + cnt p l2
  | [] => by show cnt p l2 = 0 + cnt p l2; omega
  | a :: l => by
    show (if p a then 1 else 0) + cnt p (l ++ l2) = ((if p a then 1 else 0) + cnt p l) + cnt p l2
    rw [cnt_app p l2 l]; omega
theorem fnd_none {p : Nat → Bool} : ∀ {l : List Nat}, (∀ a, a ∈ l → p a = false) → fnd p l = none ∧ cnt p l = 0
  | [], _ => ⟨rfl, rfl⟩
  | a :: l, h => by
    have h1 := h a List.mem_cons_self
    obtain ⟨r1, r2⟩ := fnd_none (l := l) (fun b hb => h b (List.mem_cons_of_mem _ hb))
    refine ⟨?_, ?_⟩
    · show (if p a then some a else fnd p l) = none; rw [h1]; exact r1
    · show (if p a then 1 else 0) + cnt p l = 0; rw [h1, r2]; rfl
theorem fnd_in {p : Nat → Bool} {b : Nat} : ∀ {l : List Nat}, fnd p l = some b → b ∈ l ∧ p b = true
  | [], h => by cases h
  | a :: l, h => by
    have h' : (if p a then some a else fnd p l) = some b := h
    cases q : p a
    · rw [q] at h'
      have := fnd_in (l := l) h'
      exact ⟨List.mem_cons_of_mem _ this.1, this.2⟩
    · rw [q] at h'; cases h'; exact ⟨List.mem_cons_self, q⟩
theorem cnt_le (p : Nat → Bool) : ∀ l : List Nat, cnt p l ≤ l.length
  | [] => Nat.le_refl _
  | a :: l => by
    have := cnt_le p l
    show (if p a then 1 else 0) + cnt p l ≤ l.length + 1
    cases p a
    · rw [if_neg (by decide)]; omega
    · rw [if_pos rfl]; omega
theorem okS_of {n m m' a b : Nat} (h : okS n m m' a b = true) : isT n m' ∧ ∀ k, k < n → dg m' k = dg m (tau a b k) := by
  unfold okS at h
  rw [Bool.and_eq_true, Bool.and_eq_true, decide_eq_true_iff, decide_eq_true_iff, alw_iff] at h
  exact ⟨⟨h.1, h.2.1⟩, fun k hk => of_decide_eq_true (h.2.2 k (Nat.zero_le _) (by omega))⟩
theorem en_in {n : Nat} : ∀ (d told m : Nat), told + d = n → isT n m → ck n d told m = true → ∀ m', m' ∈ en d told m → isT n m' ∧ ∀ k, k < told → dg m' k = dg m k
  | 0, told, m, _, hm, _, m', h => by
    have : m' = m := List.mem_singleton.mp h
    rw [this]; exact ⟨hm, fun _ _ => rfl⟩
  | d + 1, told, m, hd, hm, hck, m', h => by
    have key : ∀ k i m0, i + k = n → told ≤ i → isT n m0 → (∀ k, k < told → dg m0 k = dg m k) → ckl n (fun m' => ck n d (told + 1) m') told k i m0 = true → m' ∈ enl (fun m' => en d (told + 1) m') told k i m0 → isT n m' ∧ ∀ k, k < told → dg m' k = dg m k := by
      intro k
      induction k with
      | zero => intro i m0 _ _ _ _ _ h; cases h
      | succ k ih =>
        intro i m0 hi hti hm0 hd0 hc h
        have hc' : (okS n m0 (swD m0 told i) told i && (ck n d (told + 1) (swD m0 told i) && ckl n (fun m' => ck n d (told + 1) m') told k (i + 1) (swD m0 told i))) = true := hc
        rw [Bool.and_eq_true, Bool.and_eq_true] at hc'
        obtain ⟨o1, o2⟩ := okS_of hc'.1
        have hd1 : ∀ k, k < told → dg (swD m0 told i) k = dg m k := fun k hk => by
          rw [o2 k (by omega)]
          unfold tau
          rw [if_neg (by omega), if_neg (by omega)]
          exact hd0 k hk
        rcases List.mem_append.mp (show m' ∈ en d (told + 1) (swD m0 told i) ++ enl (fun m' => en d (told + 1) m') told k (i + 1) (swD m0 told i) from h) with h1 | h1
        · obtain ⟨r1, r2⟩ := en_in d (told + 1) (swD m0 told i) (by omega) o1 hc'.2.1 m' h1
          exact ⟨r1, fun k hk => by rw [r2 k (by omega)]; exact hd1 k hk⟩
        · exact ih (i + 1) (swD m0 told i) (by omega) (by omega) o1 hd1 hc'.2.2 h1
    exact key (d + 1) told m (by omega) (Nat.le_refl _) hm (fun _ _ => rfl) hck h
/-! when a turn makes of one family another -/
theorem qb_tuI {n : Nat} {σ : Nat → Nat} (hn : n ≤ 6) (h : pm n σ) (a : Int64) {x : Nat} (hx : x < 2 ^ n) : qb (tuF n σ a) (imN σ x n) = qb a x := by
  refine bool_ext ?_
  rw [qb_tuF hn h]
  constructor
  · rintro ⟨y, hy, q, e⟩
    rw [← im_inj h hy hx e]; exact q
  · intro q; exact ⟨x, hx, q, rfl⟩
theorem tst_iff {n : Nat} {σ : Nat → Nat} (hn : n ≤ 6) (h : pm n σ) {a b : Int64} (hb : fits (2 ^ n) b) : tuF n σ a = b ↔ ∀ x, x < 2 ^ n → qb a x = qb b (imN σ x n) := by
  constructor
  · intro e x hx
    rw [← e, qb_tuI hn h a hx]
  · intro e
    refine qb_ext fun z _ => ?_
    by_cases hz : z < 2 ^ n
    · obtain ⟨y, hy, rfl⟩ := im_sur h hz
      rw [qb_tuI hn h a hy, e y hy]
    · rw [fits_tuF hn h a z (by omega), hb z (by omega)]
theorem im_same {n told : Nat} {σ σ' : Nat → Nat} (ht : told ≤ n) (e : ∀ k, k < told → σ' k = σ k) {x : Nat} (hx : x < 2 ^ told) : imN σ' x n = imN σ x n := by
  refine Nat.eq_of_testBit_eq fun j => bool_ext ?_
  rw [imN_bit, imN_bit]
  constructor
  · rintro ⟨k, hk, q, r⟩
    have := bit_lt hx q
    exact ⟨k, hk, q, by rw [← e k this]; exact r⟩
  · rintro ⟨k, hk, q, r⟩
    have := bit_lt hx q
    exact ⟨k, hk, q, by rw [e k this]; exact r⟩
theorem tuF_ct {n : Nat} {σ : Nat → Nat} (hn : n ≤ 6) (h : pm n σ) {a : Int64} (hfi : fits (2 ^ n) a) : fb_ct (qb (tuF n σ a)) 64 = fb_ct (qb a) 64 := by
  have ha := all_le hn
  obtain ⟨p1, p2⟩ := pm_inv h
  have hi : pm n (inv n σ) := ⟨fun i hi => (p2 i hi).1, fun j hj => ⟨σ j, (p1 j hj).1, (p1 j hj).2⟩⟩
  have cc : ∀ (s r : Nat → Nat), pm n s → pm n r → (∀ j, j < n → r (s j) = j) → ∀ x, x < 2 ^ n → imN r (imN s x n) n = x := by
    intro s r hs hr hsr x hx
    refine Nat.eq_of_testBit_eq fun j => ?_
    by_cases hj : j < n
    · have e1 := im_bit hr (imN s x n) (hs.1 j hj)
      rw [hsr j hj] at e1
      rw [e1, im_bit hs x hj]
    · have b : ∀ w, w < 2 ^ n → w.testBit j = false := fun w hw => by
        cases q : w.testBit j
        · rfl
        · exact absurd (bit_lt hw q) hj
      rw [b x hx, b _ (imN_lt hr.1 _ (Nat.le_refl _))]
  have c1 := ct_bij (M := 2 ^ n) (h := fun x => imN σ x n) (h' := fun x => imN (inv n σ) x n) (fun x hx => ⟨imN_lt h.1 x (Nat.le_refl _), cc σ (inv n σ) h hi (fun j hj => (p1 j hj).2) x hx⟩) (fun y hy => ⟨imN_lt hi.1 y (Nat.le_refl _), cc (inv n σ) σ hi h (fun j hj => (p2 j hj).2) y hy⟩) (qb (tuF n σ a))
  rw [ct_fit ha (fits_tuF hn h a), ct_fit ha hfi, ← c1]
  exact fb_ct_cong fun x hx => qb_tuI hn h a hx
/-! the class's way -/
def swb (i j x : Nat) : Nat := if x.testBit i = x.testBit j then x else sw i j x
def swA (a : Int64) (i j : Nat) : Int64 := if i = j then a else
  (((a &&& (((a &&& (rx_W.getD i 0 ^^^ (-1))) &&& rx_W.getD j 0) ^^^ (-1))) &&& (((a &&& rx_W.getD i 0) &&& (rx_W.getD j 0 ^^^ (-1))) ^^^ (-1))) ||| mrT (lsT ((a &&& (rx_W.getD i 0 ^^^ (-1))) &&& rx_W.getD j 0) i) j) ||| mrT (lsT ((a &&& rx_W.getD i 0) &&& (rx_W.getD j 0 ^^^ (-1))) j) i
theorem f_swapped_eq (F : Nat × Nat) (a : Int64) {i j : Nat} (hi : i < 6) (hj : j < 6) : f_X0_swapped F a (nI i) (nI j) = some (swA a i j) := by
  unfold f_X0_swapped f_X0_swapped_0 swA
  by_cases e : i = j
  · rw [if_pos (by rw [e]), if_pos e]
  · rw [if_neg (fun h => e ((nI_eq (by omega) (by omega)).mp h)), if_neg e, f_W_eq hi, Option.bind_some, f_W_eq hj, Option.bind_some, Option.bind_some, Option.bind_some, f_less_eq F _ hi, Option.bind_some, f_more_eq F _ hj, Option.bind_some, f_less_eq F _ hj, Option.bind_some, f_more_eq F _ hi, Option.bind_some]
theorem qb_swA (a : Int64) {i j z : Nat} (hi : i < 6) (hj : j < 6) (hz : z < 64) : qb (swA a i j) z = qb a (swb i j z) := by
  unfold swA swb
  by_cases e : i = j
  · rw [if_pos e, if_pos (by rw [e])]
  · obtain ⟨h1, h2, h3, h4⟩ := sw_fin i hi j hj e z hz
    have first : qb (mrT (lsT ((a &&& (rx_W.getD i 0 ^^^ (-1))) &&& rx_W.getD j 0) i) j) z = (qb a (sw i j z) && (!z.testBit i && z.testBit j)) := by
      rw [qb_mr _ hj hz]
      cases hzj : z.testBit j
      · simp
      · obtain ⟨e1, e2⟩ := sw_A i hi j hj e z hz hzj
        rw [qb_ls _ hi (Nat.lt_of_le_of_lt (Nat.sub_le _ _) hz), e1]
        cases hzi : z.testBit i
        · rw [e2 hzi, qb_and, qb_and, qb_not _ h1, qb_W hi h1, qb_W hj h1, h2, h3, hzi, hzj]
          cases qb a (sw i j z) <;> rfl
        · simp
    have second : qb (mrT (lsT ((a &&& rx_W.getD i 0) &&& (rx_W.getD j 0 ^^^ (-1))) j) i) z = (qb a (sw i j z) && (z.testBit i && !z.testBit j)) := by
      rw [qb_mr _ hi hz]
      cases hzi : z.testBit i
      · simp
      · obtain ⟨e1, e2⟩ := sw_B i hi j hj e z hz hzi
        rw [qb_ls _ hj (Nat.lt_of_le_of_lt (Nat.sub_le _ _) hz), e1]
        cases hzj : z.testBit j
        · rw [e2 hzj, qb_and, qb_and, qb_not _ h1, qb_W hi h1, qb_W hj h1, h2, h3, hzi, hzj]
          cases qb a (sw i j z) <;> rfl
        · simp
    rw [if_neg e, qb_or, qb_or, first, second, qb_and, qb_and, qb_not _ hz, qb_not _ hz, qb_and, qb_and, qb_and, qb_and, qb_not _ hz, qb_not _ hz, qb_W hi hz, qb_W hj hz]
    cases hzi : z.testBit i <;> cases hzj : z.testBit j <;> simp
theorem swb_lt {n i j z : Nat} (hi : i < n) (hj : j < n) (hz : z < 2 ^ n) : swb i j z < 2 ^ n := by
  unfold swb
  by_cases q : z.testBit i = z.testBit j
  · rw [if_pos q]; exact hz
  · rw [if_neg q]; exact sw_lt hi hj hz
theorem swb_bit {i j z k : Nat} (hi : i < 6) (hj : j < 6) (hz : z < 64) (hk : k < 6) : (swb i j z).testBit k = z.testBit (tau i j k) := by
  have h : ∀ i, i < 6 → ∀ j, j < 6 → ∀ k, k < 6 → ∀ z, z < 64 → (swb i j z).testBit k = z.testBit (tau i j k) := by decide +kernel
  exact h i hi j hj k hk z hz
theorem tau_tau (i j k : Nat) : tau i j (tau i j k) = k := by
  unfold tau
  by_cases h1 : k = i
  · rw [if_pos h1]
    by_cases h2 : j = i
    · rw [if_pos h2, h1, h2]
    · rw [if_neg h2, if_pos rfl, h1]
  · rw [if_neg h1]
    by_cases h2 : k = j
    · rw [if_pos h2, if_pos rfl, h2]
    · rw [if_neg h2, if_neg h1, if_neg h2]
theorem tau_lt {n i j k : Nat} (hi : i < n) (hj : j < n) (hk : k < n) : tau i j k < n := by
  unfold tau
  by_cases h1 : k = i
  · rw [if_pos h1]; exact hj
  · rw [if_neg h1]
    by_cases h2 : k = j
    · rw [if_pos h2]; exact hi
    · rw [if_neg h2]; exact hk
theorem im_swb {n i j : Nat} (hn : n ≤ 6) {σ σ' : Nat → Nat} (hi : i < n) (hj : j < n) (e : ∀ k, k < n → σ' k = σ (tau i j k)) {x : Nat} (hx : x < 2 ^ n) : imN σ' x n = imN σ (swb i j x) n := by
  have ha := all_le hn
  refine Nat.eq_of_testBit_eq fun b => bool_ext ?_
  rw [imN_bit, imN_bit]
  constructor
  · rintro ⟨k, hk, q, r⟩
    refine ⟨tau i j k, tau_lt hi hj hk, ?_, by rw [← e k hk]; exact r⟩
    rw [swb_bit (by omega) (by omega) (by omega) (by have := tau_lt hi hj hk; omega), tau_tau]; exact q
  · rintro ⟨k, hk, q, r⟩
    rw [swb_bit (by omega) (by omega) (by omega) (by omega)] at q
    exact ⟨tau i j k, tau_lt hi hj hk, q, by rw [e _ (tau_lt hi hj hk), tau_tau]; exact r⟩
theorem m8 {n m : Nat} (hn : n ≤ 6) (h : m / 8 ^ n = 0) : m < 262144 := by
  have h1 : m < 8 ^ n := by
    rcases Nat.div_eq_zero_iff.mp h with q | q
    · have := Nat.pow_pos (n := n) (show 0 < 8 by decide); omega
    · exact q
  have h2 : 8 ^ n ≤ 8 ^ 6 := Nat.pow_le_pow_right (by decide) hn
  have h3 : 8 ^ 6 = 262144 := by decide
  omega
theorem f_swapDigits_eq (F : Nat × Nat) {m i j : Nat} (hm : m < 2 ^ 31) (hi : i < 6) (hj : j < 6) : f_X3_swapDigits F (nI m) (nI i) (nI j) = some (nI (swD m i j)) := by
  unfold f_X3_swapDigits f_X3_swapDigits_0 swD
  have d1 := dg_lt m i
  have d2 := dg_lt m j
  have dx : dg m i ^^^ dg m j < 8 := Nat.xor_lt_two_pow (n := 3) d1 d2
  have pw : ∀ k, k < 6 → (dg m i ^^^ dg m j) * 2 ^ (3 * k) < 2 ^ 32 := fun k hk => by
    have h1 : 2 ^ (3 * k) ≤ 2 ^ 15 := Nat.pow_le_pow_right (by decide) (by omega)
    have h2 : (dg m i ^^^ dg m j) * 2 ^ (3 * k) ≤ 8 * 2 ^ 15 := Nat.mul_le_mul (by omega) h1
    omega
  rw [f_digit_eq F hm (by omega), Option.bind_some, f_digit_eq F hm (by omega), Option.bind_some]
  by_cases e : i = j
  · rw [if_pos (by rw [e]), if_pos e]
  · rw [if_neg (fun h => e ((nI_eq (by omega) (by omega)).mp h)), if_neg e, nI_xog, pk_shlN _ (3 * i) (s31 i (by omega)) (pw i hi), pk_shlN _ (3 * j) (s31 j (by omega)) (pw j hj), nI_xog, nI_xog, Nat.pow_mul, Nat.pow_mul]
theorem f_agree_eq (F : Nat × Nat) (a b : Int64) {t : Nat} (ht : t ≤ 6) : f_X3_agree F a b (nI t) = some (if alw (fun x => decide (qb a x = qb b x)) 0 (2 ^ t) then 1 else 0) := by
  have ha := all_le ht
  obtain ⟨b1, b2⟩ := f_bel F (s := 2 ^ t) ha
  unfold f_X3_agree f_X3_agree_0
  rw [sh8 t (by omega), b1, Option.bind_some]
  have e : ((a ^^^ b) &&& bel (2 ^ t) = 0) ↔ alw (fun x => decide (qb a x = qb b x)) 0 (2 ^ t) = true := by
    rw [alw_iff]
    constructor
    · intro h x _ hx
      have h1 := congrArg (fun y => qb y x) h
      simp only [qb_and, qb_xor, qb_0, b2 x (by omega), decide_eq_true (show x < 2 ^ t by omega), Bool.and_true] at h1
      refine decide_eq_true ?_
      cases q1 : qb a x <;> cases q2 : qb b x <;> rw [q1, q2] at h1 <;> first | rfl | cases h1
    · intro h
      refine qb_ext fun x hx => ?_
      rw [qb_and, qb_xor, qb_0, b2 x hx]
      by_cases q : x < 2 ^ t
      · rw [of_decide_eq_true (h x (Nat.zero_le _) (by omega))]
        cases qb b x <;> rfl
      · rw [decide_eq_false q]; simp
  by_cases q : (a ^^^ b) &&& bel (2 ^ t) = 0
  · rw [if_pos q, if_pos (e.mp q)]
  · rw [if_neg q, if_neg (fun h => q (e.mpr h))]
def encM (o : Option Nat) : Int32 := match o with | none => -2 | some m => nI m
theorem tst_bad {n d told m : Nat} (hn : n ≤ 6) (hd : told + d = n) (hm : isT n m) (hck : ck n d told m = true) {a b oth : Int64} (hb : fits (2 ^ n) b) (ho : ∀ x, x < 2 ^ n → qb oth x = qb b (imN (dg m) x n)) (h : ¬ alw (fun x => decide (qb a x = qb oth x)) 0 (2 ^ told) = true) : ∀ m', m' ∈ en d told m → decide (tuF n (dg m') a = b) = false := by
  intro m' hm'
  obtain ⟨r1, r2⟩ := en_in d told m hd hm hck m' hm'
  refine decide_eq_false fun e => h ?_
  rw [alw_iff]
  intro x _ hx
  have hp : 2 ^ told ≤ 2 ^ n := Nat.pow_le_pow_right (by decide) (by omega)
  have := (tst_iff hn (isT_pm r1) hb).mp e x (by omega)
  rw [im_same (by omega) r2 (by omega), ← ho x (by omega)] at this
  exact decide_eq_true this
theorem f_least_all {F : Nat × Nat} (hF : 100000 ≤ F.1) {n : Nat} (hn : n ≤ 6) {a b : Int64} (hb : fits (2 ^ n) b) : ∀ (d D told m : Nat) (oth : Int64), told + d = n → d < D → isT n m → ck n d told m = true → (∀ x, x < 2 ^ n → qb oth x = qb b (imN (dg m) x n)) → f_X3_leastTurnFrom F D a oth (nI m) (nI told) (nI n) = some (encM (fnd (fun m' => decide (tuF n (dg m') a = b)) (en d told m))) := by
  have ha := all_le hn
  intro d
  induction d with
  | zero =>
    intro D told m oth hd hD hm hck ho
    obtain ⟨D, rfl⟩ : ∃ g, D = g + 1 := ⟨D - 1, by omega⟩
    obtain rfl : told = n := by omega
    rw [f_X3_leastTurnFrom, f_X3_leastTurnFrom_0, f_agree_eq F a oth hn, Option.bind_some]
    have e : alw (fun x => decide (qb a x = qb oth x)) 0 (2 ^ told) = true ↔ tuF told (dg m) a = b := by
      rw [alw_iff, tst_iff hn (isT_pm hm) hb]
      constructor
      · intro h x hx; rw [← ho x hx]; exact of_decide_eq_true (h x (Nat.zero_le _) (by omega))
      · intro h x _ hx; exact decide_eq_true (by rw [ho x (by omega)]; exact h x (by omega))
    show _ = some (encM (if decide (tuF told (dg m) a = b) = true then some m else none))
    by_cases q : tuF told (dg m) a = b
    · rw [if_pos (e.mpr q), if_neg ne10, if_neg (nI_nlt (Nat.le_refl _) (by omega)), decide_eq_true q, if_pos rfl]; rfl
    · rw [if_neg (fun h => q (e.mp h)), if_pos rfl, decide_eq_false q, if_neg (by decide)]; rfl
  | succ d ihd =>
    intro D told m oth hd hD hm hck ho
    obtain ⟨D, rfl⟩ : ∃ g, D = g + 1 := ⟨D - 1, by omega⟩
    rw [f_X3_leastTurnFrom, f_X3_leastTurnFrom_0, f_agree_eq F a oth (by omega), Option.bind_some]
    by_cases q : alw (fun x => decide (qb a x = qb oth x)) 0 (2 ^ told) = true
    · rw [if_pos q, if_neg ne10, if_pos (nI_lt (by omega) (by omega))]
      have key : ∀ k i f m0 (o : Int64), i + k = n → told ≤ i → k < f → isT n m0 → ckl n (fun m' => ck n d (told + 1) m') told k i m0 = true → (∀ x, x < 2 ^ n → qb o x = qb b (imN (dg m0) x n)) → f_X3_leastTurnFrom_34 F (f_X3_leastTurnFrom F D) f a (nI told) (nI n) o (nI m0) (nI i) = some (encM (fnd (fun m' => decide (tuF n (dg m') a = b)) (enl (fun m' => en d (told + 1) m') told k i m0))) := by
        intro k
        induction k with
        | zero =>
          intro i f m0 o hi hti hf hm0 hc ho0
          obtain ⟨f, rfl⟩ : ∃ g, f = g + 1 := ⟨f - 1, by omega⟩
          rw [f_X3_leastTurnFrom_34, if_neg (nI_nlt (by omega) (by omega))]
          rfl
        | succ k ih =>
          intro i f m0 o hi hti hf hm0 hc ho0
          obtain ⟨f, rfl⟩ : ∃ g, f = g + 1 := ⟨f - 1, by omega⟩
          have hc' : (okS n m0 (swD m0 told i) told i && (ck n d (told + 1) (swD m0 told i) && ckl n (fun m' => ck n d (told + 1) m') told k (i + 1) (swD m0 told i))) = true := hc
          rw [Bool.and_eq_true, Bool.and_eq_true] at hc'
          obtain ⟨o1, o2⟩ := okS_of hc'.1
          have h8 := m8 hn hm0.1
          have ho1 : ∀ x, x < 2 ^ n → qb (swA o told i) x = qb b (imN (dg (swD m0 told i)) x n) := fun x hx => by
            rw [qb_swA o (by omega) (by omega) (by omega), ho0 _ (swb_lt (by omega) (by omega) hx), im_swb hn (by omega) (by omega) o2 hx]
          have i1 := ihd D (told + 1) (swD m0 told i) (swA o told i) (by omega) (by omega) o1 hc'.2.1 ho1
          rw [f_X3_leastTurnFrom_34, if_pos (nI_lt (by omega) (by omega)), f_swapped_eq F _ (by omega) (by omega), Option.bind_some, f_swapDigits_eq F (by omega) (by omega) (by omega), Option.bind_some, nI_1 told, i1, Option.bind_some]
          show _ = some (encM (fnd (fun m' => decide (tuF n (dg m') a = b)) (en d (told + 1) (swD m0 told i) ++ enl (fun m' => en d (told + 1) m') told k (i + 1) (swD m0 told i))))
          rw [fnd_app]
          cases hf2 : fnd (fun m' => decide (tuF n (dg m') a = b)) (en d (told + 1) (swD m0 told i)) with
          | none =>
            rw [if_pos (show encM none = -2 from rfl), nI_1]
            exact ih (i + 1) f (swD m0 told i) (swA o told i) (by omega) (by omega) (by omega) o1 hc'.2.2 ho1
          | some m' =>
            obtain ⟨r1, _⟩ := en_in d (told + 1) _ (by omega) o1 hc'.2.1 m' (fnd_in hf2).1
            have := m8 hn r1.1
            rw [if_neg (show ¬ encM (some m') = -2 from fun e => nI_pos (show m' < 2 ^ 31 by omega) (by rw [show nI m' = -2 from e]; decide))]
      exact key (d + 1) told F.1 m oth (by omega) (Nat.le_refl _) (by omega) hm hck ho
    · rw [if_neg q, if_pos rfl, (fnd_none (tst_bad hn hd hm hck hb ho q)).1]; rfl
theorem f_count_all {F : Nat × Nat} (hF : 100000 ≤ F.1) {n : Nat} (hn : n ≤ 6) {a b : Int64} (hb : fits (2 ^ n) b) : ∀ (d D told m : Nat) (oth : Int64), told + d = n → d < D → isT n m → ck n d told m = true → (∀ x, x < 2 ^ n → qb oth x = qb b (imN (dg m) x n)) → f_X3_countTurnsFrom F D a oth (nI told) (nI n) = some (nI (cnt (fun m' => decide (tuF n (dg m') a = b)) (en d told m))) := by
  have ha := all_le hn
  intro d
  induction d with
  | zero =>
    intro D told m oth hd hD hm hck ho
    obtain ⟨D, rfl⟩ : ∃ g, D = g + 1 := ⟨D - 1, by omega⟩
    obtain rfl : told = n := by omega
    rw [f_X3_countTurnsFrom, f_X3_countTurnsFrom_0, f_agree_eq F a oth hn, Option.bind_some]
    have e : alw (fun x => decide (qb a x = qb oth x)) 0 (2 ^ told) = true ↔ tuF told (dg m) a = b := by
      rw [alw_iff, tst_iff hn (isT_pm hm) hb]
      constructor
      · intro h x hx; rw [← ho x hx]; exact of_decide_eq_true (h x (Nat.zero_le _) (by omega))
      · intro h x _ hx; exact decide_eq_true (by rw [ho x (by omega)]; exact h x (by omega))
    show _ = some (nI ((if decide (tuF told (dg m) a = b) = true then 1 else 0) + 0))
    by_cases q : tuF told (dg m) a = b
    · rw [if_pos (e.mpr q), if_neg ne10, if_neg (nI_nlt (Nat.le_refl _) (by omega)), decide_eq_true q, if_pos rfl]; rfl
    · rw [if_neg (fun h => q (e.mp h)), if_pos rfl, decide_eq_false q, if_neg (by decide)]; rfl
  | succ d ihd =>
    intro D told m oth hd hD hm hck ho
    obtain ⟨D, rfl⟩ : ∃ g, D = g + 1 := ⟨D - 1, by omega⟩
    rw [f_X3_countTurnsFrom, f_X3_countTurnsFrom_0, f_agree_eq F a oth (by omega), Option.bind_some]
    by_cases q : alw (fun x => decide (qb a x = qb oth x)) 0 (2 ^ told) = true
    · rw [if_pos q, if_neg ne10, if_pos (nI_lt (by omega) (by omega))]
      have key : ∀ k i f m0 (o : Int64) c0, i + k = n → told ≤ i → k < f → isT n m0 → ckl n (fun m' => ck n d (told + 1) m') told k i m0 = true → (∀ x, x < 2 ^ n → qb o x = qb b (imN (dg m0) x n)) → f_X3_countTurnsFrom_31 F (f_X3_countTurnsFrom F D) f a (nI told) (nI n) o (nI c0) (nI i) = some (nI (c0 + cnt (fun m' => decide (tuF n (dg m') a = b)) (enl (fun m' => en d (told + 1) m') told k i m0))) := by
        intro k
        induction k with
        | zero =>
          intro i f m0 o c0 hi hti hf hm0 hc ho0
          obtain ⟨f, rfl⟩ : ∃ g, f = g + 1 := ⟨f - 1, by omega⟩
          rw [f_X3_countTurnsFrom_31, if_neg (nI_nlt (by omega) (by omega))]
          rfl
        | succ k ih =>
          intro i f m0 o c0 hi hti hf hm0 hc ho0
          obtain ⟨f, rfl⟩ : ∃ g, f = g + 1 := ⟨f - 1, by omega⟩
          have hc' : (okS n m0 (swD m0 told i) told i && (ck n d (told + 1) (swD m0 told i) && ckl n (fun m' => ck n d (told + 1) m') told k (i + 1) (swD m0 told i))) = true := hc
          rw [Bool.and_eq_true, Bool.and_eq_true] at hc'
          obtain ⟨o1, o2⟩ := okS_of hc'.1
          have ho1 : ∀ x, x < 2 ^ n → qb (swA o told i) x = qb b (imN (dg (swD m0 told i)) x n) := fun x hx => by
            rw [qb_swA o (by omega) (by omega) (by omega), ho0 _ (swb_lt (by omega) (by omega) hx), im_swb hn (by omega) (by omega) o2 hx]
          have i1 := ihd D (told + 1) (swD m0 told i) (swA o told i) (by omega) (by omega) o1 hc'.2.1 ho1
          rw [f_X3_countTurnsFrom_31, if_pos (nI_lt (by omega) (by omega)), f_swapped_eq F _ (by omega) (by omega), Option.bind_some, nI_1 told, i1, Option.bind_some, nI_add, nI_1 i]
          show _ = some (nI (c0 + cnt (fun m' => decide (tuF n (dg m') a = b)) (en d (told + 1) (swD m0 told i) ++ enl (fun m' => en d (told + 1) m') told k (i + 1) (swD m0 told i))))
          rw [cnt_app, ← Nat.add_assoc]
          exact ih (i + 1) f (swD m0 told i) (swA o told i) _ (by omega) (by omega) (by omega) o1 hc'.2.2 ho1
      have := key (d + 1) told F.1 m oth 0 (by omega) (Nat.le_refl _) (by omega) hm hck ho
      rw [Nat.zero_add] at this
      exact this
    · rw [if_neg q, if_pos rfl, (fnd_none (tst_bad hn hd hm hck hb ho q)).2]; rfl
