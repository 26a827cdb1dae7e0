/-! ===== Turns: orders of things ===== -/
theorem nI_org (a b : Nat) : nI a ||| nI b = nI (a ||| b) := Int32.toBitVec_inj.mp (by
  rw [Int32.toBitVec_or]
  exact (BitVec.ofNat_or (w := 32) (x := a) (y := b)).symm)
def dg (m i : Nat) : Nat := m / 8 ^ i % 8
theorem dg_lt (m i : Nat) : dg m i < 8 := Nat.mod_lt _ (by decide)
theorem s31 : ∀ i, i < 7 → ((((3 : Int32) * nI i) &&& 31).toBitVec.smod 32).toNat = 3 * i := by decide +kernel
theorem f_dsh {m i : Nat} (hm : m < 2 ^ 31) (hi : i < 7) : nI m >>> (((3 : Int32) * nI i) &&& 31) = nI (m / 8 ^ i) := by
  rw [pk_shrN hm _ (3 * i) (s31 i hi), Nat.pow_mul]
theorem f_digit_eq (F : Nat × Nat) {m i : Nat} (hm : m < 2 ^ 31) (hi : i < 7) : f_X3_digit F (nI m) (nI i) = some (nI (dg m i)) := by
  unfold f_X3_digit f_X3_digit_0
  have h : m / 8 ^ i ≤ m := Nat.div_le_self _ _
  rw [f_dsh hm hi, pk_andN (by omega) 3 (by decide)]
  rfl
def sN (m : Nat) : Nat → Nat
  | 0 => 0
  | i + 1 => sN m i ||| 2 ^ dg m i
theorem sN_bit (m j : Nat) : ∀ i, (sN m i).testBit j = true ↔ ∃ k, k < i ∧ dg m k = j
  | 0 => by
    constructor
    · intro h; rw [show sN m 0 = 0 from rfl, Nat.zero_testBit] at h; cases h
    · rintro ⟨k, hk, _⟩; omega
  | i + 1 => by
    show (sN m i ||| 2 ^ dg m i).testBit j = true ↔ _
    rw [Nat.testBit_or, Bool.or_eq_true, sN_bit m j i, Nat.testBit_two_pow, decide_eq_true_iff]
    constructor
    · rintro (⟨k, hk, e⟩ | e)
      · exact ⟨k, by omega, e⟩
      · exact ⟨i, by omega, e⟩
    · rintro ⟨k, hk, e⟩
      by_cases q : k = i
      · subst q; exact Or.inr e
      · exact Or.inl ⟨k, by omega, e⟩
theorem sN_lt (m i : Nat) : sN m i < 2 ^ 8 := Nat.lt_pow_two_of_testBit _ fun j hj => by
  cases h : (sN m i).testBit j
  · rfl
  · obtain ⟨k, _, e⟩ := (sN_bit m j i).mp h
    have := dg_lt m k
    omega
theorem sh8 : ∀ d, d < 8 → (1 : Int32) <<< (nI d &&& 31) = nI (2 ^ d) := by decide +kernel
abbrev isT (n m : Nat) : Prop := m / 8 ^ n = 0 ∧ sN m n = 2 ^ n - 1
def pm (n : Nat) (σ : Nat → Nat) : Prop := (∀ i, i < n → σ i < n) ∧ ∀ j, j < n → ∃ i, i < n ∧ σ i = j
theorem isT_pm {n m : Nat} (h : isT n m) : pm n (dg m) := by
  have hb : ∀ j, (∃ k, k < n ∧ dg m k = j) ↔ j < n := fun j => by
    rw [← sN_bit, h.2, Nat.testBit_two_pow_sub_one, decide_eq_true_iff]
  exact ⟨fun i hi => (hb _).mp ⟨i, hi, rfl⟩, fun j hj => (hb j).mpr hj⟩
theorem f_isOrder_eq {F : Nat × Nat} (hF : 100000 ≤ F.1) {n m : Nat} (hn : n ≤ 6) (hm : m < 2 ^ 31) : f_X3_isOrder F (nI m) (nI n) = some (if isT n m then 1 else 0) := by
  have h1 := sN_lt m n
  have fin : ∀ f, f_X3_isOrder_18 F (f + 1) (nI m) (nI n) (nI (sN m n)) (nI n) = some (if sN m n = 2 ^ n - 1 then 1 else 0) := by
    intro f
    have e : ((1 : Int32) <<< (nI n &&& 31)) - 1 = nI (2 ^ n - 1) := by
      rw [sh8 n (by omega), show (1 : Int32) = nI 1 from rfl, pk_sub (Nat.two_pow_pos n)]
    have ha := all_le hn
    rw [f_X3_isOrder_18, if_neg (nI_nlt (Nat.le_refl _) (by omega)), e]
    by_cases q : sN m n = 2 ^ n - 1
    · rw [if_pos (by rw [q]), if_pos q]
    · rw [if_neg (fun h => q ((nI_eq (by omega) (by omega)).mp h)), if_neg q]
  have key : ∀ k i f, i + k = n → k < f → f_X3_isOrder_18 F f (nI m) (nI n) (nI (sN m i)) (nI i) = some (if sN m n = 2 ^ n - 1 then 1 else 0) := by
    intro k
    induction k with
    | zero =>
      intro i f hi hf
      obtain ⟨f, rfl⟩ : ∃ g, f = g + 1 := ⟨f - 1, by omega⟩
      obtain rfl : i = n := by omega
      exact fin f
    | succ k ih =>
      intro i f hi hf
      obtain ⟨f, rfl⟩ : ∃ g, f = g + 1 := ⟨f - 1, by omega⟩
      rw [f_X3_isOrder_18, if_pos (nI_lt (by omega) (by omega)), f_digit_eq F hm (by omega), Option.bind_some, sh8 _ (dg_lt m i), nI_org, nI_1]
      exact ih (i + 1) f (by omega) (by omega)
  unfold f_X3_isOrder f_X3_isOrder_0
  rw [if_neg (nI_pos hm), f_dsh hm (by omega)]
  have hle : m / 8 ^ n ≤ m := Nat.div_le_self _ _
  by_cases q : m / 8 ^ n = 0
  · rw [if_pos (by rw [q]; rfl)]
    rw [show (0 : Int32) = nI (sN m 0) from rfl, show f_X3_isOrder_18 F F.1 (nI m) (nI n) (nI (sN m 0)) (nI (sN m 0)) = f_X3_isOrder_18 F F.1 (nI m) (nI n) (nI (sN m 0)) (nI 0) from rfl, key n 0 F.1 (by omega) (by omega)]
    unfold isT
    by_cases q2 : sN m n = 2 ^ n - 1
    · rw [if_pos q2, if_pos ⟨q, q2⟩]
    · rw [if_neg q2, if_neg (fun h => q2 h.2)]; rfl
  · rw [if_neg (nI_ne0 (Nat.pos_of_ne_zero q) (by omega)), if_neg (fun h => q h.1)]
theorem f_isOrder_neg (F : Nat × Nat) (n : Nat) {x : Int32} (h : x < 0) : f_X3_isOrder F x (nI n) = some 0 := by
  unfold f_X3_isOrder f_X3_isOrder_0
  rw [if_pos h]
/-! one to one -/
theorem ct_one (e : Nat) : ∀ M, fb_ct (fun x => decide (x = e)) M = if e < M then 1 else 0
  | 0 => rfl
  | M + 1 => by
    rw [fb_ct_succ, ct_one e M]
    by_cases h : M = e
    · subst h; rw [if_neg (Nat.lt_irrefl _), if_pos (decide_eq_true rfl), if_pos (Nat.lt_succ_self _)]
    · rw [show (if decide (M = e) = true then 1 else 0) = 0 from if_neg (by rw [decide_eq_false h]; decide)]
      by_cases h2 : e < M
      · rw [if_pos h2, if_pos (by omega)]
      · rw [if_neg h2, if_neg (by omega)]
theorem sm_bij {M : Nat} {h h' : Nat → Nat} (h1 : ∀ x, x < M → h x < M ∧ h' (h x) = x) (h2 : ∀ y, y < M → h' y < M ∧ h (h' y) = y) (g : Nat → Nat) : fb_sm (fun x => g (h x)) M = fb_sm g M := by
  have e1 : fb_sm (fun x => g (h x)) M = fb_sm (fun x => if (fun _ => true) x then g (h x) else 0) M := fb_sm_cong fun _ _ => rfl
  rw [e1, sm_swap (fun _ => true) h g M M (fun x hx => (h1 x hx).1)]
  refine fb_sm_cong fun k hk => ?_
  have e2 : fb_ct (fun x => true && decide (h x = k)) M = fb_ct (fun x => decide (x = h' k)) M := by
    refine fb_ct_cong fun x hx => ?_
    rw [Bool.true_and]
    refine bool_ext ?_
    rw [decide_eq_true_iff, decide_eq_true_iff]
    constructor
    · intro e; rw [← e, (h1 x hx).2]
    · intro e; rw [e, (h2 k hk).2]
  rw [e2, ct_one, if_pos (h2 k hk).1, Nat.one_mul]
theorem ct_bij {M : Nat} {h h' : Nat → Nat} (h1 : ∀ x, x < M → h x < M ∧ h' (h x) = x) (h2 : ∀ y, y < M → h' y < M ∧ h (h' y) = y) (c : Nat → Bool) : fb_ct (fun x => c (h x)) M = fb_ct c M := by
  rw [← fb_sm_ct, ← fb_sm_ct]
  exact sm_bij h1 h2 (fun x => if c x then 1 else 0)
theorem sm_ge1 {g : Nat → Nat} : ∀ {n : Nat}, (∀ k, k < n → 1 ≤ g k) → n ≤ fb_sm g n
  | 0, _ => Nat.zero_le _
  | n + 1, h => by
    rw [fb_sm_succ]
    have := sm_ge1 (n := n) (fun k hk => h k (by omega))
    have := h n (by omega)
    omega
theorem sm_ge2 {g : Nat → Nat} : ∀ {n : Nat}, (∀ k, k < n → 1 ≤ g k) → ∀ e, e < n → 2 ≤ g e → n + 1 ≤ fb_sm g n
  | 0, _, e, he, _ => by omega
  | n + 1, h, e, he, h2 => by
    rw [fb_sm_succ]
    have a := h n (by omega)
    by_cases q : e = n
    · subst q
      have := sm_ge1 (n := e) (fun k hk => h k (by omega))
      omega
    · have := sm_ge2 (n := n) (fun k hk => h k (by omega)) e (by omega) h2
      omega
theorem ct_ge2 {c : Nat → Bool} {a b M : Nat} (hab : a < b) (hb : b < M) (ha : c a = true) (hcb : c b = true) : 2 ≤ fb_ct c M := by
  have h1 : 1 ≤ fb_ct c b := fb_ct_pos.mpr ⟨a, hab, ha⟩
  have h2 : fb_ct c (b + 1) = fb_ct c b + 1 := by rw [fb_ct_succ, if_pos hcb]
  have h3 := fb_ct_mono c (show b + 1 ≤ M by omega)
  omega
theorem pm_inj {n : Nat} {σ : Nat → Nat} (h : pm n σ) : ∀ i j, i < n → j < n → σ i = σ j → i = j := by
  have tot : fb_sm (fun k => fb_ct (fun x => true && decide (σ x = k)) n * 1) n = n := by
    rw [← sm_swap (fun _ => true) σ (fun _ => 1) n n h.1]
    have : fb_sm (fun x => if (fun _ => true) x then (fun _ => 1) (σ x) else 0) n = fb_sm (fun _ => 1) n := fb_sm_cong fun _ _ => rfl
    rw [this, fb_sm_const, Nat.mul_one]
  have ge : ∀ k, k < n → 1 ≤ fb_ct (fun x => true && decide (σ x = k)) n * 1 := by
    intro k hk
    obtain ⟨i, hi, e⟩ := h.2 k hk
    rw [Nat.mul_one]
    exact fb_ct_pos.mpr ⟨i, hi, by rw [Bool.true_and]; exact decide_eq_true e⟩
  have key : ∀ i j, i < j → j < n → σ i = σ j → False := by
    intro i j hij hj e
    have := sm_ge2 ge (σ j) (h.1 j hj) (by
      rw [Nat.mul_one]
      exact ct_ge2 hij hj (by rw [Bool.true_and]; exact decide_eq_true e) (by rw [Bool.true_and]; exact decide_eq_true rfl))
    omega
  intro i j hi hj e
  rcases Nat.lt_trichotomy i j with q | q | q
  · exact (key i j q hj e).elim
  · exact q
  · exact (key j i q hi e.symm).elim
/-! the image of a set -/
def imN (σ : Nat → Nat) (x : Nat) : Nat → Nat
  | 0 => 0
  | i + 1 => imN σ x i ||| (if x.testBit i then 2 ^ σ i else 0)
theorem imN_bit (σ : Nat → Nat) (x j : Nat) : ∀ i, (imN σ x i).testBit j = true ↔ ∃ k, k < i ∧ x.testBit k = true ∧ σ k = j
  | 0 => by
    constructor
    · intro h; rw [show imN σ x 0 = 0 from rfl, Nat.zero_testBit] at h; cases h
    · rintro ⟨k, hk, _⟩; omega
  | i + 1 => by
    show (imN σ x i ||| (if x.testBit i then 2 ^ σ i else 0)).testBit j = true ↔ _
    have e : (if x.testBit i then 2 ^ σ i else 0).testBit j = true ↔ x.testBit i = true ∧ σ i = j := by
      cases q : x.testBit i
      · simp
      · rw [if_pos rfl, Nat.testBit_two_pow, decide_eq_true_iff]; simp
    rw [Nat.testBit_or, Bool.or_eq_true, imN_bit σ x j i, e]
    constructor
    · rintro (⟨k, hk, q⟩ | q)
      · exact ⟨k, by omega, q⟩
      · exact ⟨i, by omega, q⟩
    · rintro ⟨k, hk, q⟩
      by_cases e2 : k = i
      · subst e2; exact Or.inr q
      · exact Or.inl ⟨k, by omega, q⟩
theorem imN_lt {n : Nat} {σ : Nat → Nat} (h : ∀ i, i < n → σ i < n) (x : Nat) {i : Nat} (hi : i ≤ n) : imN σ x i < 2 ^ n := Nat.lt_pow_two_of_testBit _ fun j hj => by
  cases q : (imN σ x i).testBit j
  · rfl
  · obtain ⟨k, hk, _, e⟩ := (imN_bit σ x j i).mp q
    have := h k (by omega)
    omega
theorem bit_lt {n x j : Nat} (hx : x < 2 ^ n) (h : x.testBit j = true) : j < n := Nat.not_le.mp fun q => by
  have : x.testBit j = false := Nat.testBit_lt_two_pow (Nat.lt_of_lt_of_le hx (Nat.pow_le_pow_right (by decide) q))
  rw [this] at h; cases h
theorem im_bit {n : Nat} {σ : Nat → Nat} (h : pm n σ) (x : Nat) {k : Nat} (hk : k < n) : (imN σ x n).testBit (σ k) = x.testBit k := by
  refine bool_ext ?_
  rw [imN_bit]
  constructor
  · rintro ⟨i, hi, q, e⟩
    have := pm_inj h i k hi hk e
    subst this; exact q
  · intro q; exact ⟨k, hk, q, rfl⟩
theorem im_and {n : Nat} {σ : Nat → Nat} (h : pm n σ) (x y : Nat) : imN σ (x &&& y) n = imN σ x n &&& imN σ y n := by
  refine Nat.eq_of_testBit_eq fun j => ?_
  by_cases hj : j < n
  · obtain ⟨i, hi, rfl⟩ := h.2 j hj
    rw [Nat.testBit_and, im_bit h _ hi, im_bit h _ hi, im_bit h _ hi, Nat.testBit_and]
  · have b : ∀ z, (imN σ z n).testBit j = false := fun z => by
      cases q : (imN σ z n).testBit j
      · rfl
      · exact absurd (bit_lt (imN_lt h.1 z (Nat.le_refl _)) q) hj
    rw [Nat.testBit_and, b, b, b]; rfl
theorem im_inj {n : Nat} {σ : Nat → Nat} (h : pm n σ) {x y : Nat} (hx : x < 2 ^ n) (hy : y < 2 ^ n) (e : imN σ x n = imN σ y n) : x = y := by
  refine Nat.eq_of_testBit_eq fun j => ?_
  by_cases hj : j < n
  · rw [← im_bit h x hj, ← im_bit h y hj, e]
  · have b : ∀ z, z < 2 ^ n → z.testBit j = false := fun z hz => by
      cases q : z.testBit j
      · rfl
      · exact absurd (bit_lt hz q) hj
    rw [b x hx, b y hy]
theorem im_0 (σ : Nat → Nat) : ∀ n, imN σ 0 n = 0
  | 0 => rfl
  | n + 1 => by
    show imN σ 0 n ||| (if (0 : Nat).testBit n then 2 ^ σ n else 0) = 0
    rw [im_0 σ n, Nat.zero_testBit]; simp
/-- an inverse -/
def inv (n : Nat) (σ : Nat → Nat) (j : Nat) : Nat := ff (fun i => decide (σ i = j)) 0 n
theorem inv_is {n : Nat} {σ : Nat → Nat} (h : pm n σ) {j : Nat} (hj : j < n) : inv n σ j < n ∧ σ (inv n σ j) = j := by
  obtain ⟨i, hi, e⟩ := h.2 j hj
  have hlt : ff (fun i => decide (σ i = j)) 0 n < 0 + n := by
    refine Nat.not_le.mp fun q => ?_
    have := ff_not (fun i => decide (σ i = j)) n 0 i (Nat.zero_le _) (by omega)
    rw [decide_eq_true e] at this; cases this
  have := ff_is (fun i => decide (σ i = j)) n 0 hlt
  exact ⟨by unfold inv; omega, of_decide_eq_true this⟩
theorem pm_inv {n : Nat} {σ : Nat → Nat} (h : pm n σ) : (∀ x, x < n → σ x < n ∧ inv n σ (σ x) = x) ∧ ∀ y, y < n → inv n σ y < n ∧ σ (inv n σ y) = y :=
  ⟨fun x hx => ⟨h.1 x hx, pm_inj h _ _ (inv_is h (h.1 x hx)).1 hx (inv_is h (h.1 x hx)).2⟩, fun y hy => inv_is h hy⟩
theorem pc_ct {n x : Nat} (hn : n ≤ 6) (hx : x < 2 ^ n) : pc x = fb_ct (fun i => x.testBit i) n := by
  unfold pc
  refine ct_fit hn fun j hj => ?_
  cases q : x.testBit j
  · rfl
  · have := bit_lt hx q; omega
theorem im_pc {n : Nat} {σ : Nat → Nat} (hn : n ≤ 6) (h : pm n σ) {x : Nat} (hx : x < 2 ^ n) : pc (imN σ x n) = pc x := by
  rw [pc_ct hn hx, pc_ct hn (imN_lt h.1 x (Nat.le_refl _))]
  obtain ⟨p1, p2⟩ := pm_inv h
  rw [← ct_bij p1 p2 (fun i => (imN σ x n).testBit i)]
  exact fb_ct_cong fun i hi => im_bit h x hi
/-- the set of which a set is the image -/
theorem im_sur {n : Nat} {σ : Nat → Nat} (h : pm n σ) {z : Nat} (hz : z < 2 ^ n) : ∃ y, y < 2 ^ n ∧ imN σ y n = z := by
  obtain ⟨p1, p2⟩ := pm_inv h
  have hi : pm n (inv n σ) := ⟨fun i hi => (p2 i hi).1, fun j hj => ⟨σ j, (p1 j hj).1, (p1 j hj).2⟩⟩
  refine ⟨imN (inv n σ) z n, imN_lt hi.1 z (Nat.le_refl _), Nat.eq_of_testBit_eq fun j => ?_⟩
  by_cases hj : j < n
  · have e1 := im_bit h (imN (inv n σ) z n) (p2 j hj).1
    rw [(p2 j hj).2] at e1
    rw [e1, im_bit hi z hj]
  · have b : ∀ w, w < 2 ^ n → w.testBit j = false := fun w hw => by
      cases q : w.testBit j
      · rfl
      · exact absurd (bit_lt hw q) hj
    rw [b z hz, b _ (imN_lt h.1 _ (Nat.le_refl _))]
def tuF (n : Nat) (σ : Nat → Nat) (a : Int64) : Int64 := oR (fun x => if qb a x then one (imN σ x n) else 0) (2 ^ n)
theorem qb_tuF {n : Nat} {σ : Nat → Nat} (hn : n ≤ 6) (h : pm n σ) (a : Int64) (z : Nat) : qb (tuF n σ a) z = true ↔ ∃ x, x < 2 ^ n ∧ qb a x = true ∧ imN σ x n = z := by
  have ha := all_le hn
  unfold tuF
  rw [qb_oRi]
  constructor
  · rintro ⟨x, hx, q, q2⟩
    have := imN_lt h.1 x (Nat.le_refl n)
    rw [qb_one (by omega), decide_eq_true_iff] at q2
    exact ⟨x, hx, q, q2.symm⟩
  · rintro ⟨x, hx, q, q2⟩
    have := imN_lt h.1 x (Nat.le_refl n)
    exact ⟨x, hx, q, by rw [qb_one (by omega), decide_eq_true_iff]; exact q2.symm⟩
theorem fits_tuF {n : Nat} {σ : Nat → Nat} (hn : n ≤ 6) (h : pm n σ) (a : Int64) : fits (2 ^ n) (tuF n σ a) := fits_oR fun x _ => fits_if fun _ => fits_one (imN_lt h.1 x (Nat.le_refl _)) (all_le hn)
theorem kinv_turn {n : Nat} {σ : Nat → Nat} (hn : n ≤ 6) (h : pm n σ) {a r : Int64} (hfi : fits (2 ^ n) a) {j t : Nat} (hk : kinv j t a r) : kinv (if j = 5 then 2 else j) t (tuF n σ a) 0 := by
  have me : (j = 2 ∨ j = 5) → ∀ x y, qb (tuF n σ a) x = true → qb (tuF n σ a) y = true → t ≤ pc (x &&& y) := by
    intro hj x y hx hy
    obtain ⟨x', hx', qx, rfl⟩ := (qb_tuF hn h a x).mp hx
    obtain ⟨y', hy', qy, rfl⟩ := (qb_tuF hn h a y).mp hy
    rw [← im_and h, im_pc hn h (and_l hx')]
    exact hk.2.1 hj x' y' qx qy
  by_cases h5 : j = 5
  · rw [if_pos h5]
    exact ⟨fun q => by omega, fun _ => me (Or.inr h5), fun q => by omega, fun q => by omega, fun q => by omega⟩
  rw [if_neg h5]
  refine ⟨fun hj x y hx hy hxy he => ?_, fun hj => me hj, fun hj x y hx hyx => ?_, fun hj x hx => ?_, fun q => absurd q h5⟩
  · obtain ⟨x', hx', qx, rfl⟩ := (qb_tuF hn h a x).mp hx
    obtain ⟨y', hy', qy, rfl⟩ := (qb_tuF hn h a y).mp hy
    rw [← im_and h] at he
    exact hk.1 hj x' y' qx qy (fun e => hxy (by rw [e])) (im_inj h (and_l hx') hx' he)
  · obtain ⟨x', hx', qx, rfl⟩ := (qb_tuF hn h a x).mp hx
    have hxl := imN_lt h.1 x' (Nat.le_refl n)
    have hy : y < 2 ^ n := by have := sub_bits hyx; omega
    obtain ⟨y', hy', rfl⟩ := im_sur h hy
    rw [← im_and h] at hyx
    exact (qb_tuF hn h a _).mpr ⟨y', hy', hk.2.2.1 hj x' y' qx (im_inj h (and_l hy') hy' hyx), rfl⟩
  · obtain ⟨x', hx', qx, rfl⟩ := (qb_tuF hn h a x).mp hx
    rw [im_pc hn h hx']
    exact hk.2.2.2.1 hj x' qx
theorem im_step {n : Nat} {σ : Nat → Nat} (hn : n ≤ 6) (h : ∀ i, i < n → σ i < n) {x i : Nat} (hx : x < 64) (hi : i < n) : nI (imN σ x i) ||| (((nI x >>> (nI i &&& 31)) &&& (1 : Int32)) <<< (nI (σ i) &&& 31)) = nI (imN σ x (i + 1)) := by
  have hs := h i hi
  rw [bitI hx (by omega)]
  show _ = nI (imN σ x i ||| (if x.testBit i then 2 ^ σ i else 0))
  cases x.testBit i
  · rw [if_neg (by decide), if_neg (by decide), ← nI_org]
    have h0 : ∀ d, d < 6 → (0 : Int32) <<< (nI d &&& 31) = nI 0 := by decide +kernel
    rw [h0 _ (by omega)]
  · rw [if_pos rfl, if_pos rfl, ← nI_org, sh_eq (by omega)]
theorem f_turnedBy_in {F : Nat × Nat} (hF : 100000 ≤ F.1) {n m : Nat} (hn : n ≤ 6) (hm : m < 2 ^ 31) (hp : pm n (dg m)) (k10 : Int64 → Int32 → Int32 → Int64 → Int32 → Option Int64) (a acc : Int64) {x : Nat} (hx : x < 64) : f_X3_turnedBy_23 F k10 F.1 a (nI m) (nI n) acc (nI x) 0 0 = k10 a (nI m) (nI n) (acc ||| one (imN (dg m) x n)) (nI (qn a (x + 1))) := by
  have key : ∀ k i f, i + k = n → k < f → f_X3_turnedBy_23 F k10 f a (nI m) (nI n) acc (nI x) (nI (imN (dg m) x i)) (nI i) = k10 a (nI m) (nI n) (acc ||| one (imN (dg m) x n)) (nI (qn a (x + 1))) := by
    intro k
    induction k with
    | zero =>
      intro i f hi hf
      obtain ⟨f, rfl⟩ : ∃ g, f = g + 1 := ⟨f - 1, by omega⟩
      obtain rfl : i = n := by omega
      rw [f_X3_turnedBy_23, if_neg (nI_nlt (Nat.le_refl _) (by omega)), nI_1, f_next_eq F a (by omega), Option.bind_some]
    | succ k ih =>
      intro i f hi hf
      obtain ⟨f, rfl⟩ : ∃ g, f = g + 1 := ⟨f - 1, by omega⟩
      rw [f_X3_turnedBy_23, if_pos (nI_lt (by omega) (by omega)), f_digit_eq F hm (by omega), Option.bind_some, im_step hn hp.1 hx (by omega), nI_1]
      exact ih (i + 1) f (by omega) (by omega)
  exact key n 0 F.1 (by omega) (by omega)
theorem f_turnedBy_eq {F : Nat × Nat} (hF : 100000 ≤ F.1) {n m : Nat} (hn : n ≤ 6) (hm : m < 2 ^ 31) (hp : pm n (dg m)) {a : Int64} (hfi : fits (2 ^ n) a) : f_X3_turnedBy F a (nI m) (nI n) = some (tuF n (dg m) a) := by
  have ha := all_le hn
  have key : ∀ k i f, i + k = 64 → k < f → f_X3_turnedBy_10 F f a (nI m) (nI n) (oR (fun x => if qb a x then one (imN (dg m) x n) else 0) i) (nI (qn a i)) = some (oR (fun x => if qb a x then one (imN (dg m) x n) else 0) 64) := by
    intro k
    induction k with
    | zero =>
      intro i f hi hf
      obtain ⟨f, rfl⟩ : ∃ g, f = g + 1 := ⟨f - 1, by omega⟩
      obtain rfl : i = 64 := by omega
      rw [qn_big a (Nat.le_refl _), f_X3_turnedBy_10, if_neg (by decide)]
    | succ k ih =>
      intro i f hi hf
      obtain ⟨f, rfl⟩ : ∃ g, f = g + 1 := ⟨f - 1, by omega⟩
      cases q : qb a i
      · rw [qn_no q, oR_f0 (h := fun x => if qb a x then one (imN (dg m) x n) else 0) (show (if qb a i then one (imN (dg m) i n) else 0) = 0 by rw [q]; rfl)]
        exact ih (i + 1) (f + 1) (by omega) (by omega)
      · rw [qn_yes q, f_X3_turnedBy_10, if_pos (show nI i < 64 from nI_lt (b := 64) (by omega) (by decide)), f_turnedBy_in hF hn hm hp _ a _ (by omega), oR_t0 (h := fun x => if qb a x then one (imN (dg m) x n) else 0) (show (if qb a i then one (imN (dg m) i n) else 0) = one (imN (dg m) i n) by rw [q]; rfl)]
        exact ih (i + 1) f (by omega) (by omega)
  unfold f_X3_turnedBy f_X3_turnedBy_0
  rw [show (0 : Int32) = nI 0 from rfl, f_next_eq F a (by omega), Option.bind_some, show (0 : Int64) = oR (fun x => if qb a x then one (imN (dg m) x n) else 0) 0 from rfl, key 64 0 F.1 (by omega) (by omega)]
  unfold tuF
  obtain ⟨e, he⟩ : ∃ e, 64 = 2 ^ n + e := ⟨64 - 2 ^ n, by omega⟩
  rw [he, oR_tail e (fun x hx _ => by rw [hfi x hx]; rfl)]
section B78
variable {sc : Nat × (Nat → Int32)} {n : Nat} {cl : Int32} {P : Nat → PL} {ly : Nat → Int64} {sp st : Nat → Int32} {sk : Int32} {sd : Nat → Int32} {sm : Nat → Int64} {X M : Nat → rx_C} {w : Nat → Int64} {g : List rx_C} {th mc pk : Int32} {kd td : Nat → Int32} {fm pr : Nat → Int64} {sz : Nat → Int32} {ro : Nat → Int64} {tu pe tr : Nat → Int32} {as : Nat → Int64}
def tuS (m : Nat) (tu : Nat → Int32) : Nat → Nat → Int32
  | 0 => tu
  | i + 1 => upd (tuS m tu i) i (nI (dg m i))
theorem tuS_is (m : Nat) (tu : Nat → Int32) {j : Nat} : ∀ {i : Nat}, j < i → tuS m tu i j = nI (dg m j)
  | 0, h => by omega
  | i + 1, h => by
    show upd (tuS m tu i) i (nI (dg m i)) j = _
    by_cases e : j = i
    · subst e; exact pk_us
    · rw [pk_un e]; exact tuS_is m tu (by omega)
theorem dg_div (m i : Nat) : m / 8 ^ i / 8 = m / 8 ^ (i + 1) := by rw [Nat.div_div_eq_div_mul, Nat.pow_succ]
theorem f_isTurn_eq {F : Nat × Nat} (hF : 100000 ≤ F.1) (hn6 : n ≤ 6) {m : Nat} (hm : m < 2 ^ 31) : f_X7_isTurn F 40 (nI m) (hp sc X (cm n th mc pk kd td fm pr sz ro tu pe tr as) w g) = some (if isT n m then 1 else 0, hp sc X (cm n th mc pk kd td fm pr sz ro (tuS m tu n) pe tr as) w g) := by
  have ha := all_le hn6
  have hs := sN_lt m n
  have key : ∀ k i f, i + k = n → k < f → f_X7_isTurn_7 F f 40 (nI m) (nI (m / 8 ^ i)) (nI (sN m i)) (nI i) (hp sc X (cm n th mc pk kd td fm pr sz ro (tuS m tu i) pe tr as) w g) = some (if isT n m then 1 else 0, hp sc X (cm n th mc pk kd td fm pr sz ro (tuS m tu n) pe tr as) w g) := by
    intro k
    induction k with
    | zero =>
      intro i f hi hf
      obtain ⟨f, rfl⟩ : ∃ g, f = g + 1 := ⟨f - 1, by omega⟩
      obtain rfl : i = n := by omega
      have hle : m / 8 ^ i ≤ m := Nat.div_le_self _ _
      rw [f_X7_isTurn_7, gm_n, Option.bind_some, if_neg (nI_nlt (Nat.le_refl _) (by omega)), f_X7_isTurn_51, if_neg (nI_pos hm)]
      unfold isT
      by_cases q : m / 8 ^ i = 0
      · rw [if_pos (by rw [q]; rfl), gm_all, Option.bind_some, show (1 : Int32) = nI 1 from rfl, pk_sub (Nat.two_pow_pos i)]
        by_cases q2 : sN m i = 2 ^ i - 1
        · rw [if_pos (by rw [q2]), if_pos ⟨q, q2⟩]
        · rw [if_neg (fun h => q2 ((nI_eq (by omega) (by omega)).mp h)), if_neg (fun h => q2 h.2)]
      · rw [if_neg (nI_ne0 (Nat.pos_of_ne_zero q) (by omega)), if_neg (fun h => q h.1)]
    | succ k ih =>
      intro i f hi hf
      obtain ⟨f, rfl⟩ : ∃ g, f = g + 1 := ⟨f - 1, by omega⟩
      have hle : m / 8 ^ i ≤ m := Nat.div_le_self _ _
      have h8 : (8 : Int32) = nI 8 := rfl
      rw [f_X7_isTurn_7, gm_n, Option.bind_some, if_pos (nI_lt (by omega) (by omega)), if_neg (nI_pos (by omega)), gm_tu, Option.bind_some, h8, pk_rem (by omega) (by decide) (by decide), pk_div (by omega) (by decide) (by decide), dg_div, show m / 8 ^ i % 8 = dg m i from rfl, sm_tu (by omega), Option.bind_some, sh8 _ (dg_lt m i), nI_org, nI_1]
      exact ih (i + 1) f (by omega) (by omega)
  unfold f_X7_isTurn f_X7_isTurn_0
  have := key n 0 F.1 (by omega) (by omega)
  rw [Nat.pow_zero, Nat.div_one] at this
  exact this
theorem f_isTurn_neg {F : Nat × Nat} (hF : 100000 ≤ F.1) (hn3 : 3 ≤ n) (hn6 : n ≤ 6) {x : Int32} (h : x < 0) : f_X7_isTurn F 40 x (hp sc X (cm n th mc pk kd td fm pr sz ro tu pe tr as) w g) = some (0, (hp sc X (cm n th mc pk kd td fm pr sz ro tu pe tr as) w g)) := by
  obtain ⟨f, hf⟩ : ∃ g, F.1 = g + 1 := ⟨F.1 - 1, by omega⟩
  unfold f_X7_isTurn f_X7_isTurn_0
  rw [hf, f_X7_isTurn_7, gm_n, Option.bind_some, if_pos (show (0 : Int32) < nI n from nI_lt (a := 0) (by omega) (by omega)), if_pos h, f_X7_isTurn_51, if_pos h]
/-- a turn in the model's row -/
def tuR (n : Nat) (σ : Nat → Nat) (tu : Nat → Int32) : Prop := ∀ i, i < n → tu i = nI (σ i)
theorem f_tset_eq {F : Nat × Nat} (hF : 100000 ≤ F.1) (hn6 : n ≤ 6) {σ : Nat → Nat} (hs : ∀ i, i < n → σ i < n) (ht : tuR n σ tu) {x : Nat} (hx : x < 64) : f_X7_turnedSet F 40 (nI x) (hp sc X (cm n th mc pk kd td fm pr sz ro tu pe tr as) w g) = some (nI (imN σ x n), (hp sc X (cm n th mc pk kd td fm pr sz ro tu pe tr as) w g)) := by
  have key : ∀ k i f, i + k = n → k < f → f_X7_turnedSet_4 F f 40 (nI x) (nI (imN σ x i)) (nI i) (hp sc X (cm n th mc pk kd td fm pr sz ro tu pe tr as) w g) = some (nI (imN σ x n), (hp sc X (cm n th mc pk kd td fm pr sz ro tu pe tr as) w g)) := by
    intro k
    induction k with
    | zero =>
      intro i f hi hf
      obtain ⟨f, rfl⟩ : ∃ g, f = g + 1 := ⟨f - 1, by omega⟩
      obtain rfl : i = n := by omega
      rw [f_X7_turnedSet_4, gm_n, Option.bind_some, if_neg (nI_nlt (Nat.le_refl _) (by omega))]
    | succ k ih =>
      intro i f hi hf
      obtain ⟨f, rfl⟩ : ∃ g, f = g + 1 := ⟨f - 1, by omega⟩
      rw [f_X7_turnedSet_4, gm_n, Option.bind_some, if_pos (nI_lt (by omega) (by omega)), gm_tu, Option.bind_some, am_tu (by omega), Option.bind_some, ht i (by omega), im_step hn6 hs hx (by omega), nI_1]
      exact ih (i + 1) f (by omega) (by omega)
  exact key n 0 F.1 (by omega) (by omega)
theorem f_tall_eq {F : Nat × Nat} (hF : 100000 ≤ F.1) (hn6 : n ≤ 6) {σ : Nat → Nat} (hs : ∀ i, i < n → σ i < n) (ht : tuR n σ tu) (a : Int64) : f_X7_turnedAll F 40 a (hp sc X (cm n th mc pk kd td fm pr sz ro tu pe tr as) w g) = some (tuF n σ a, (hp sc X (cm n th mc pk kd td fm pr sz ro tu pe tr as) w g)) := by
  have ha := all_le hn6
  have key : ∀ k i f, i + k = 2 ^ n → k < f → f_X7_turnedAll_5 F f 40 a (oR (fun x => if qb a x then one (imN σ x n) else 0) i) (nI i) (hp sc X (cm n th mc pk kd td fm pr sz ro tu pe tr as) w g) = some (tuF n σ a, (hp sc X (cm n th mc pk kd td fm pr sz ro tu pe tr as) w g)) := by
    intro k
    induction k with
    | zero =>
      intro i f hi hf
      obtain ⟨f, rfl⟩ : ∃ g, f = g + 1 := ⟨f - 1, by omega⟩
      obtain rfl : i = 2 ^ n := by omega
      rw [f_X7_turnedAll_5, gm_all, Option.bind_some, if_neg (nI_nlt (Nat.le_refl _) (by omega))]
      rfl
    | succ k ih =>
      intro i f hi hf
      obtain ⟨f, rfl⟩ : ∃ g, f = g + 1 := ⟨f - 1, by omega⟩
      rw [f_X7_turnedAll_5, gm_all, Option.bind_some, if_pos (nI_lt (by omega) (by omega)), f_mhas_eq F _ (by omega), Option.bind_some]
      cases q : qb a i
      · rw [bf, if_pos rfl, nI_1, oR_f0 (h := fun x => if qb a x then one (imN σ x n) else 0) (show (if qb a i then one (imN σ i n) else 0) = 0 by rw [q]; rfl)]
        exact ih (i + 1) f (by omega) (by omega)
      · rw [bt, if_neg ne10, ck_40, Option.bind_some, f_tset_eq hF hn6 hs ht (by omega), Option.bind_some, nI_1, oR_t0 (h := fun x => if qb a x then one (imN σ x n) else 0) (show (if qb a i then one (imN σ i n) else 0) = one (imN σ i n) by rw [q]; rfl)]
        exact ih (i + 1) f (by omega) (by omega)
  exact key (2 ^ n) 0 F.1 (by omega) (by omega)
/-! stretches of a ring -/
def stN (n : Nat) (σ : Nat → Nat) (s : Nat) : Nat → Nat
  | 0 => 0
  | j + 1 => stN n σ s j ||| 2 ^ σ ((s + j) % n)
theorem stN_lt {σ : Nat → Nat} (h : ∀ i, i < n → σ i < n) (h0 : 0 < n) (s : Nat) : ∀ j, stN n σ s j < 2 ^ n
  | 0 => Nat.two_pow_pos n
  | j + 1 => Nat.or_lt_two_pow (stN_lt h h0 s j) (Nat.pow_lt_pow_right (by decide) (h _ (Nat.mod_lt _ h0)))
theorem f_stretch_eq {F : Nat × Nat} (hF : 100000 ≤ F.1) {m s k0 : Nat} (hn6 : n ≤ 6) (hm : m < 2 ^ 31) (hp : pm n (dg m)) (hs : s < n) (hk : k0 < n) : f_X3_stretch F (nI m) (nI s) (nI k0) (nI n) = some (nI (stN n (dg m) s k0)) := by
  have key : ∀ k i f, i + k = k0 → k < f → f_X3_stretch_6 F f (nI m) (nI s) (nI k0) (nI n) (nI (stN n (dg m) s i)) (nI (s + i)) = some (nI (stN n (dg m) s k0)) := by
    intro k
    induction k with
    | zero =>
      intro i f hi hf
      obtain ⟨f, rfl⟩ : ∃ g, f = g + 1 := ⟨f - 1, by omega⟩
      obtain rfl : i = k0 := by omega
      rw [f_X3_stretch_6, nI_add, if_neg (nI_nlt (Nat.le_refl _) (by omega))]
    | succ k ih =>
      intro i f hi hf
      obtain ⟨f, rfl⟩ : ∃ g, f = g + 1 := ⟨f - 1, by omega⟩
      have hd := hp.1 ((s + i) % n) (Nat.mod_lt _ (by omega))
      rw [f_X3_stretch_6, nI_add, if_pos (nI_lt (by omega) (by omega))]
      by_cases q : s + i < n
      · have e : (s + i) % n = s + i := Nat.mod_eq_of_lt q
        rw [if_pos (nI_lt q (by omega)), f_X3_stretch_33, f_digit_eq F hm (by omega), Option.bind_some, sh8 _ (dg_lt _ _), nI_org, nI_1]
        have := ih (i + 1) f (by omega) (by omega)
        rw [show stN n (dg m) s (i + 1) = stN n (dg m) s i ||| 2 ^ dg m ((s + i) % n) from rfl, e] at this
        exact this
      · have e : (s + i) % n = s + i - n := by rw [Nat.mod_eq_sub_mod (by omega)]; exact Nat.mod_eq_of_lt (by omega)
        rw [if_neg (nI_nlt (by omega) (by omega)), f_X3_stretch_33, pk_sub (by omega), f_digit_eq F hm (by omega), Option.bind_some, sh8 _ (dg_lt _ _), nI_org, nI_1]
        have := ih (i + 1) f (by omega) (by omega)
        rw [show stN n (dg m) s (i + 1) = stN n (dg m) s i ||| 2 ^ dg m ((s + i) % n) from rfl, e] at this
        exact this
  exact key k0 0 F.1 (by omega) (by omega)
theorem f_cring {F : Nat × Nat} (hF : 100000 ≤ F.1) (hn6 : n ≤ 6) {p m k0 : Nat} (hp_ : p < 16) (hm : m < 2 ^ 31) (hpm : pm n (dg m)) (hk : k0 < n) : f_X6_ring_50 F F.1 0 (nI p) (nI m) (nI k0) 0 0 (hp sc (cx n cl P ly sp st sk sd sm) M w g) = some (nI (fb_ct (fun s => qb (P p).2.2.1 (stN n (dg m) s k0)) n), (hp sc (cx n cl P ly sp st sk sd sm) M w g)) := by
  have ha := all_le hn6
  have key : ∀ k i f, i + k = n → k < f → f_X6_ring_50 F f 0 (nI p) (nI m) (nI k0) (nI (fb_ct (fun s => qb (P p).2.2.1 (stN n (dg m) s k0)) i)) (nI i) (hp sc (cx n cl P ly sp st sk sd sm) M w g) = some (nI (fb_ct (fun s => qb (P p).2.2.1 (stN n (dg m) s k0)) n), (hp sc (cx n cl P ly sp st sk sd sm) M w g)) := by
    intro k
    induction k with
    | zero =>
      intro i f hi hf
      obtain ⟨f, rfl⟩ : ∃ g, f = g + 1 := ⟨f - 1, by omega⟩
      obtain rfl : i = n := by omega
      rw [f_X6_ring_50, gx_n, Option.bind_some, if_neg (nI_nlt (Nat.le_refl _) (by omega))]
    | succ k ih =>
      intro i f hi hf
      obtain ⟨f, rfl⟩ : ∃ g, f = g + 1 := ⟨f - 1, by omega⟩
      have hlt := stN_lt hpm.1 (by omega) i k0
      rw [f_X6_ring_50, gx_n, Option.bind_some, if_pos (nI_lt (by omega) (by omega)), gx_shelf, Option.bind_some, ax_shelf hp_, Option.bind_some, gp_se hp_, Option.bind_some, Option.bind_some, f_stretch_eq hF hn6 hm hpm (by omega) hk, Option.bind_some, f_holdsSet_eq F _ (by omega), Option.bind_some]
      cases q : qb (P p).2.2.1 (stN n (dg m) i k0)
      · rw [bf, if_pos rfl, nI_ct0 (c := fun s => qb (P p).2.2.1 (stN n (dg m) s k0)) q, nI_1]
        exact ih (i + 1) f (by omega) (by omega)
      · rw [bt, if_neg ne10, nI_ct1 (c := fun s => qb (P p).2.2.1 (stN n (dg m) s k0)) q, nI_1]
        exact ih (i + 1) f (by omega) (by omega)
  exact key n 0 F.1 (by omega) (by omega)
theorem f_mring_in {F : Nat × Nat} (hF : 100000 ≤ F.1) (hn6 : n ≤ 6) {p k0 : Nat} {σ : Nat → Nat} (hp_ : p < 16) (hs : ∀ i, i < n → σ i < n) (ht : tuR n σ tu) (hk : k0 < n) (k51 : Nat → Int32 → Int32 → Int32 → Int32 → Option rx_H → Option (Int32 × Option rx_H)) (c : Int32) {s : Nat} (hsn : s < n) : f_X7_ring_66 F k51 F.1 40 (nI p) (nI k0) c (nI s) 0 0 (hp sc X (cm n th mc pk kd td fm pr sz ro tu pe tr as) w g) = k51 40 (nI p) (nI k0) (c + if qb (fm p) (stN n σ s k0) then 1 else 0) (nI (s + 1)) (hp sc X (cm n th mc pk kd td fm pr sz ro tu pe tr as) w g) := by
  have ha := all_le hn6
  have hlt := stN_lt hs (by omega) s k0
  have key : ∀ k i f, i + k = k0 → k < f → f_X7_ring_66 F k51 f 40 (nI p) (nI k0) c (nI s) (nI (stN n σ s i)) (nI i) (hp sc X (cm n th mc pk kd td fm pr sz ro tu pe tr as) w g) = k51 40 (nI p) (nI k0) (c + if qb (fm p) (stN n σ s k0) then 1 else 0) (nI (s + 1)) (hp sc X (cm n th mc pk kd td fm pr sz ro tu pe tr as) w g) := by
    intro k
    induction k with
    | zero =>
      intro i f hi hf
      obtain ⟨f, rfl⟩ : ∃ g, f = g + 1 := ⟨f - 1, by omega⟩
      obtain rfl : i = k0 := by omega
      rw [f_X7_ring_66, if_neg (nI_nlt (Nat.le_refl _) (by omega)), gm_fm, Option.bind_some, am_fm hp_, Option.bind_some, f_mhas_eq F _ (by omega), Option.bind_some, nI_1]
      cases qb (fm p) (stN n σ s i)
      · rw [bf, if_pos rfl]
      · rw [bt, if_neg ne10]
    | succ k ih =>
      intro i f hi hf
      obtain ⟨f, rfl⟩ : ∃ g, f = g + 1 := ⟨f - 1, by omega⟩
      have hmod := Nat.mod_lt (s + i) (show 0 < n by omega)
      have hd := hs _ hmod
      rw [f_X7_ring_66, if_pos (nI_lt (by omega) (by omega)), gm_tu, Option.bind_some, gm_n, Option.bind_some, if_neg (nI_ne0 (by omega) (by omega)), nI_add, pk_rem (by omega) (by omega) (by omega), am_tu (by omega), Option.bind_some, ht _ hmod, sh8 _ (by omega), nI_org, nI_1]
      exact ih (i + 1) f (by omega) (by omega)
  exact key k0 0 F.1 (by omega) (by omega)
theorem f_mring {F : Nat × Nat} (hF : 100000 ≤ F.1) (hn6 : n ≤ 6) {p k0 : Nat} {σ : Nat → Nat} (hp_ : p < 16) (hs : ∀ i, i < n → σ i < n) (ht : tuR n σ tu) (hk : k0 < n) : f_X7_ring_51 F F.1 40 (nI p) (nI k0) 0 0 (hp sc X (cm n th mc pk kd td fm pr sz ro tu pe tr as) w g) = some (nI (fb_ct (fun s => qb (fm p) (stN n σ s k0)) n), (hp sc X (cm n th mc pk kd td fm pr sz ro tu pe tr as) w g)) := by
  have key : ∀ k i f, i + k = n → k < f → f_X7_ring_51 F f 40 (nI p) (nI k0) (nI (fb_ct (fun s => qb (fm p) (stN n σ s k0)) i)) (nI i) (hp sc X (cm n th mc pk kd td fm pr sz ro tu pe tr as) w g) = some (nI (fb_ct (fun s => qb (fm p) (stN n σ s k0)) n), (hp sc X (cm n th mc pk kd td fm pr sz ro tu pe tr as) w g)) := by
    intro k
    induction k with
    | zero =>
      intro i f hi hf
      obtain ⟨f, rfl⟩ : ∃ g, f = g + 1 := ⟨f - 1, by omega⟩
      obtain rfl : i = n := by omega
      rw [f_X7_ring_51, gm_n, Option.bind_some, if_neg (nI_nlt (Nat.le_refl _) (by omega))]
    | succ k ih =>
      intro i f hi hf
      obtain ⟨f, rfl⟩ : ∃ g, f = g + 1 := ⟨f - 1, by omega⟩
      rw [f_X7_ring_51, gm_n, Option.bind_some, if_pos (nI_lt (by omega) (by omega)), f_mring_in hF hn6 hp_ hs ht hk _ _ (by omega), nI_ct (c := fun s => qb (fm p) (stN n σ s k0)) rfl]
      exact ih (i + 1) f (by omega) (by omega)
  exact key n 0 F.1 (by omega) (by omega)
theorem turn_ex {F : Nat × Nat} (hF : 100000 ≤ F.1) (hn3 : 3 ≤ n) (hn6 : n ≤ 6) (y : Int32) : ∃ (b : Int32) (tu' : Nat → Int32), (b = 0 ∨ b = 1) ∧ (b = 1 → ∃ m, m < 2 ^ 31 ∧ y = nI m ∧ pm n (dg m) ∧ tuR n (dg m) tu') ∧ f_X3_isOrder F y (nI n) = some b ∧ ∀ X : Nat → rx_C, f_X7_isTurn F 40 y (hp sc X (cm n th mc pk kd td fm pr sz ro tu pe tr as) w g) = some (b, hp sc X (cm n th mc pk kd td fm pr sz ro tu' pe tr as) w g) := by
  by_cases hy : y < 0
  · exact ⟨0, tu, Or.inl rfl, fun h => absurd h.symm ne10, f_isOrder_neg F n hy, fun X => f_isTurn_neg hF hn3 hn6 hy⟩
  · obtain ⟨m, hm, rfl⟩ := nI_of hy
    refine ⟨if isT n m then 1 else 0, tuS m tu n, ?_, fun h => ⟨m, hm, rfl, ?_, fun i hi => tuS_is m tu hi⟩, f_isOrder_eq hF hn6 hm, fun X => f_isTurn_eq hF hn6 hm⟩
    · by_cases q : isT n m
      · rw [if_pos q]; exact Or.inr rfl
      · rw [if_neg q]; exact Or.inl rfl
    · by_cases q : isT n m
      · exact isT_pm q
      · rw [if_neg q] at h; exact absurd h.symm ne10
end B78
