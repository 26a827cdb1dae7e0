/-! ===== Families made of families: maps that respect union ===== -/
abbrev one (x : Nat) : Int64 := (1 : Int64) <<< ((nI x).toInt64 &&& 63)
def oR (h : Nat → Int64) : Nat → Int64
  | 0 => 0
  | m + 1 => oR h m ||| h m
theorem oR_succ (h : Nat → Int64) (m : Nat) : oR h (m + 1) = oR h m ||| h m := rfl
theorem oR_cong {h g : Nat → Int64} : ∀ {m : Nat}, (∀ x, x < m → h x = g x) → oR h m = oR g m
  | 0, _ => rfl
  | m + 1, e => by rw [oR_succ, oR_succ, oR_cong (m := m) (fun x hx => e x (by omega)), e m (by omega)]
theorem qb_oR (h : Nat → Int64) (j : Nat) : ∀ m, qb (oR h m) j = true ↔ ∃ x, x < m ∧ qb (h x) j = true
  | 0 => by
    constructor
    · intro q; rw [show oR h 0 = 0 from rfl, qb_0] at q; cases q
    · rintro ⟨x, hx, -⟩; omega
  | m + 1 => by
    rw [oR_succ, qb_or, Bool.or_eq_true, qb_oR h j m]
    constructor
    · rintro (⟨x, hx, q⟩ | q)
      · exact ⟨x, by omega, q⟩
      · exact ⟨m, by omega, q⟩
    · rintro ⟨x, hx, q⟩
      by_cases e : x = m
      · subst e; exact Or.inr q
      · exact Or.inl ⟨x, by omega, q⟩
def fits (m : Nat) (f : Int64) : Prop := ∀ j, m ≤ j → qb f j = false
theorem qb_if (c : Bool) (w : Int64) (j : Nat) : qb (if c = true then w else 0) j = (c && qb w j) := by cases c <;> simp [qb_0]
theorem bool_ext {a b : Bool} (h : a = true ↔ b = true) : a = b := by cases a <;> cases b <;> simp_all
theorem fam_eq {m : Nat} (hm : m ≤ 64) {f : Int64} (hf : fits m f) : f = oR (fun x => if qb f x then one x else 0) m := by
  refine qb_ext fun j hj => bool_ext ?_
  rw [qb_oR]
  constructor
  · intro q
    have hjm : j < m := Nat.not_le.mp fun k => by rw [hf j k] at q; cases q
    exact ⟨j, hjm, by rw [qb_if, q, qb_one (by omega)]; simp⟩
  · rintro ⟨x, hx, q⟩
    rw [qb_if, qb_one (by omega)] at q
    simp at q
    rw [q.2]; exact q.1
def uh (P : Int64 → Int64) : Prop := P 0 = 0 ∧ ∀ a b, P (a ||| b) = P a ||| P b
theorem uh_oR {P : Int64 → Int64} (hP : uh P) (h : Nat → Int64) : ∀ m, P (oR h m) = oR (fun x => P (h x)) m
  | 0 => hP.1
  | m + 1 => by rw [oR_succ, hP.2, uh_oR hP h m]; rfl
theorem uh_eq {P : Int64 → Int64} (hP : uh P) {m : Nat} (hm : m ≤ 64) {f : Int64} (hf : fits m f) : P f = oR (fun x => if qb f x then P (one x) else 0) m := by
  conv => lhs; rw [fam_eq hm hf]
  rw [uh_oR hP]
  refine oR_cong fun x _ => ?_
  cases qb f x
  · exact hP.1
  · rfl
theorem or_self6 (a : Int64) : a ||| a = a := qb_ext fun j _ => by rw [qb_or]; cases qb a j <;> rfl
theorem or_0 (a : Int64) : a ||| 0 = a := qb_ext fun j _ => by rw [qb_or, qb_0]; cases qb a j <;> rfl
theorem o0_or (a : Int64) : 0 ||| a = a := qb_ext fun j _ => by rw [qb_or, qb_0]; cases qb a j <;> rfl
theorem uh_id : uh (fun x => x) := ⟨rfl, fun _ _ => rfl⟩
theorem uh_comp {P Q : Int64 → Int64} (hP : uh P) (hQ : uh Q) : uh (fun x => P (Q x)) := ⟨by show P (Q 0) = 0; rw [hQ.1, hP.1], fun a b => by show P (Q (a ||| b)) = _; rw [hQ.2, hP.2]⟩
theorem uh_or {P Q : Int64 → Int64} (hP : uh P) (hQ : uh Q) : uh (fun x => P x ||| Q x) := ⟨by show P 0 ||| Q 0 = 0; rw [hP.1, hQ.1]; rfl, fun a b => by
  show P (a ||| b) ||| Q (a ||| b) = _
  rw [hP.2, hQ.2]
  refine qb_ext fun j _ => ?_
  simp only [qb_or]
  cases qb (P a) j <;> cases qb (P b) j <;> cases qb (Q a) j <;> cases qb (Q b) j <;> rfl⟩
theorem uh_0 : uh (fun _ => 0) := ⟨rfl, fun _ _ => (or_self6 0).symm⟩
theorem uh_and (m : Int64) : uh (fun x => x &&& m) := ⟨qb_ext fun j _ => by rw [qb_and, qb_0]; rfl, fun a b => qb_ext fun j _ => by
  simp only [qb_or, qb_and]
  cases qb a j <;> cases qb b j <;> cases qb m j <;> rfl⟩
theorem uh_shl {k : Nat} (hk : k < 64) : uh (fun x => x <<< ((nI k).toInt64 &&& 63)) := ⟨qb_ext fun j hj => by rw [qb_shl _ hk hj, qb_0, qb_0]; simp, fun a b => qb_ext fun j hj => by
  simp only [qb_or, qb_shl _ hk hj]
  cases qb a (j - k) <;> cases qb b (j - k) <;> simp⟩
theorem uh_shr {k : Nat} (hk : k < 64) : uh (fun x => (Int64.toUInt64 x >>> ((nI k).toInt64.toUInt64 &&& Int64.toUInt64 63)).toInt64) := ⟨qb_ext fun j hj => by rw [qb_shr _ hk, qb_0, qb_0], fun a b => qb_ext fun j hj => by
  simp only [qb_or, qb_shr _ hk]⟩
/-! one thing less, more -/
def lsT (x : Int64) (i : Nat) : Int64 := ((Int64.toUInt64 x >>> ((nI (2 ^ i)).toInt64.toUInt64 &&& Int64.toUInt64 63)).toInt64) &&& rx_W.getD i 0
def mrT (x : Int64) (i : Nat) : Int64 := (x &&& rx_W.getD i 0) <<< ((nI (2 ^ i)).toInt64 &&& 63)
def lkT (x : Int64) (i : Nat) : Int64 := x &&& rx_W.getD i 0
theorem lt6 {P : Nat → Prop} (h0 : P 0) (h1 : P 1) (h2 : P 2) (h3 : P 3) (h4 : P 4) (h5 : P 5) {i : Nat} (hi : i < 6) : P i := by
  match i, hi with
  | 0, _ => exact h0
  | 1, _ => exact h1
  | 2, _ => exact h2
  | 3, _ => exact h3
  | 4, _ => exact h4
  | 5, _ => exact h5
theorem p2_lt {i : Nat} (hi : i < 6) : 2 ^ i < 64 := Nat.pow_lt_pow_right (a := 2) (m := i) (n := 6) (by decide) hi
theorem f_W_eq {i : Nat} (hi : i < 6) : rx_aJ none 1000001 (nI i) = some (rx_W.getD i 0) := by
  have h : ∀ i, i < 6 → rx_aJ none 1000001 (nI i) = some (rx_W.getD i 0) := by decide +kernel
  exact h i hi
theorem sh_eq {i : Nat} (hi : i < 6) : (1 : Int32) <<< (nI i &&& 31) = nI (2 ^ i) := by
  have h : ∀ i, i < 6 → (1 : Int32) <<< (nI i &&& 31) = nI (2 ^ i) := by decide +kernel
  exact h i hi
theorem f_less_eq (F : Nat × Nat) (x : Int64) {i : Nat} (hi : i < 6) : f_X0_lessThing F x (nI i) = some (lsT x i) := by
  unfold f_X0_lessThing f_X0_lessThing_0
  rw [f_W_eq hi, sh_eq hi]; rfl
theorem f_more_eq (F : Nat × Nat) (x : Int64) {i : Nat} (hi : i < 6) : f_X0_moreThing F x (nI i) = some (mrT x i) := by
  unfold f_X0_moreThing f_X0_moreThing_0
  rw [f_W_eq hi, sh_eq hi]; rfl
theorem f_lack_eq (F : Nat × Nat) (x : Int64) {i : Nat} (hi : i < 6) : f_X0_lackingThing F x (nI i) = some (lkT x i) := by
  unfold f_X0_lackingThing f_X0_lackingThing_0
  rw [f_W_eq hi]; rfl
theorem uh_ls {i : Nat} (hi : i < 6) : uh (fun x => lsT x i) := uh_comp (uh_and (rx_W.getD i 0)) (uh_shr (p2_lt hi))
theorem uh_mr {i : Nat} (hi : i < 6) : uh (fun x => mrT x i) := uh_comp (uh_shl (p2_lt hi)) (uh_and (rx_W.getD i 0))
theorem uh_lk (i : Nat) : uh (fun x => lkT x i) := uh_and _
theorem qb_W {i : Nat} (hi : i < 6) {j : Nat} (hj : j < 64) : qb (rx_W.getD i 0) j = !(j.testBit i) := by
  have h : ∀ i, i < 6 → ∀ j, j < 64 → qb (rx_W.getD i 0) j = !(j.testBit i) := by decide +kernel
  exact h i hi j hj
theorem qb_ls (x : Int64) {i : Nat} (hi : i < 6) {j : Nat} (hj : j < 64) : qb (lsT x i) j = (qb x (2 ^ i + j) && !(j.testBit i)) := by
  unfold lsT; rw [qb_and, qb_shr x (p2_lt hi), qb_W hi hj]
theorem qb_lk (x : Int64) {i : Nat} (hi : i < 6) {j : Nat} (hj : j < 64) : qb (lkT x i) j = (qb x j && !(j.testBit i)) := by
  unfold lkT; rw [qb_and, qb_W hi hj]
theorem qb_mr (x : Int64) {i : Nat} (hi : i < 6) {j : Nat} (hj : j < 64) : qb (mrT x i) j = (j.testBit i && qb x (j - 2 ^ i)) := by
  unfold mrT
  rw [qb_shl _ (p2_lt hi) hj]
  by_cases h : 2 ^ i ≤ j
  · rw [qb_and, qb_W hi (Nat.lt_of_le_of_lt (Nat.sub_le _ _) hj)]
    have t : ∀ i, i < 6 → ∀ j, j < 64 → 2 ^ i ≤ j → (!(j - 2 ^ i).testBit i) = j.testBit i := by decide +kernel
    rw [t i hi j hj h]
    simp [h]
    cases j.testBit i <;> cases qb x (j - 2 ^ i) <;> rfl
  · have t : ∀ i, i < 6 → ∀ j, j < 64 → ¬ 2 ^ i ≤ j → j.testBit i = false := by decide +kernel
    rw [t i hi j hj h]; simp [h]
/-! loops over things -/
theorem lt6I {i : Nat} (h : i < 6) : nI i < (6 : Int32) := nI_lt (b := 6) h (by decide)
theorem it_lt {i n : Nat} (h : i < n) (hn : n < 2 ^ 31) : nI i < nI n := nI_lt h hn
theorem bitI {s i : Nat} (hs : s < 64) (hi : i < 6) : ((nI s >>> (nI i &&& 31)) &&& (1 : Int32)) = if s.testBit i then 1 else 0 := by
  have h : ∀ s, s < 64 → ∀ i, i < 6 → ((nI s >>> (nI i &&& 31)) &&& (1 : Int32)) = if s.testBit i then 1 else 0 := by decide +kernel
  exact h s hs i hi
/-- a fold over things i, i + 1, .. -/
def fold6 {α : Type} (g : α → Nat → α) (a : α) (i : Nat) : Nat → α
  | 0 => a
  | k + 1 => fold6 g (g a i) (i + 1) k
theorem f_oneLess_eq {F : Nat × Nat} (hF : 10 ≤ F.1) (x : Int64) : f_X0_oneLess F x = some (fold6 (fun a i => a ||| lsT x i) 0 0 6) := by
  have key : ∀ k i f (acc : Int64), i + k = 6 → k < f → f_X0_oneLess_5 F f x acc (nI i) = some (fold6 (fun a i => a ||| lsT x i) acc i k) := by
    intro k
    induction k with
    | zero =>
      intro i f acc hi hf
      obtain ⟨f, rfl⟩ : ∃ g, f = g + 1 := ⟨f - 1, by omega⟩
      obtain rfl : i = 6 := by omega
      rfl
    | succ k ih =>
      intro i f acc hi hf
      obtain ⟨f, rfl⟩ : ∃ g, f = g + 1 := ⟨f - 1, by omega⟩
      rw [f_X0_oneLess_5, if_pos (lt6I (by omega)), f_less_eq F x (by omega), Option.bind_some, nI_1, ih (i + 1) f _ (by omega) (by omega)]
      rfl
  exact key 6 0 F.1 0 rfl (by omega)
theorem f_oneMore_eq {F : Nat × Nat} (hF : 10 ≤ F.1) (x : Int64) {n : Nat} (hn : n ≤ 6) : f_X0_oneMore F x (nI n) = some (fold6 (fun a i => a ||| mrT x i) 0 0 n) := by
  have key : ∀ k i f (acc : Int64), i + k = n → k < f → f_X0_oneMore_5 F f x (nI n) acc (nI i) = some (fold6 (fun a i => a ||| mrT x i) acc i k) := by
    intro k
    induction k with
    | zero =>
      intro i f acc hi hf
      obtain ⟨f, rfl⟩ : ∃ g, f = g + 1 := ⟨f - 1, by omega⟩
      obtain rfl : i = n := by omega
      rw [f_X0_oneMore_5, if_neg (nI_nlt (Nat.le_refl _) (by omega))]
      rfl
    | succ k ih =>
      intro i f acc hi hf
      obtain ⟨f, rfl⟩ : ∃ g, f = g + 1 := ⟨f - 1, by omega⟩
      rw [f_X0_oneMore_5, if_pos (nI_lt (by omega) (by omega)), f_more_eq F x (by omega), Option.bind_some, nI_1, ih (i + 1) f _ (by omega) (by omega)]
      rfl
  exact key n 0 F.1 0 (by omega) (by omega)
theorem f_allBelow_eq {F : Nat × Nat} (hF : 10 ≤ F.1) (x : Int64) : f_X0_allBelow F x = some (fold6 (fun a i => a ||| lsT a i) x 0 6) := by
  have key : ∀ k i f (acc : Int64), i + k = 6 → k < f → f_X0_allBelow_5 F f acc (nI i) = some (fold6 (fun a i => a ||| lsT a i) acc i k) := by
    intro k
    induction k with
    | zero =>
      intro i f acc hi hf
      obtain ⟨f, rfl⟩ : ∃ g, f = g + 1 := ⟨f - 1, by omega⟩
      obtain rfl : i = 6 := by omega
      rfl
    | succ k ih =>
      intro i f acc hi hf
      obtain ⟨f, rfl⟩ : ∃ g, f = g + 1 := ⟨f - 1, by omega⟩
      rw [f_X0_allBelow_5, if_pos (lt6I (by omega)), f_less_eq F acc (by omega), Option.bind_some, nI_1, ih (i + 1) f _ (by omega) (by omega)]
      rfl
  exact key 6 0 F.1 x rfl (by omega)
theorem f_allAbove_eq {F : Nat × Nat} (hF : 10 ≤ F.1) (x : Int64) {n : Nat} (hn : n ≤ 6) : f_X0_allAbove F x (nI n) = some (fold6 (fun a i => a ||| mrT a i) x 0 n) := by
  have key : ∀ k i f (acc : Int64), i + k = n → k < f → f_X0_allAbove_5 F f (nI n) acc (nI i) = some (fold6 (fun a i => a ||| mrT a i) acc i k) := by
    intro k
    induction k with
    | zero =>
      intro i f acc hi hf
      obtain ⟨f, rfl⟩ : ∃ g, f = g + 1 := ⟨f - 1, by omega⟩
      obtain rfl : i = n := by omega
      rw [f_X0_allAbove_5, if_neg (nI_nlt (Nat.le_refl _) (by omega))]
      rfl
    | succ k ih =>
      intro i f acc hi hf
      obtain ⟨f, rfl⟩ : ∃ g, f = g + 1 := ⟨f - 1, by omega⟩
      rw [f_X0_allAbove_5, if_pos (nI_lt (by omega) (by omega)), f_more_eq F acc (by omega), Option.bind_some, nI_1, ih (i + 1) f _ (by omega) (by omega)]
      rfl
  exact key n 0 F.1 x (by omega) (by omega)
theorem f_lacking_eq {F : Nat × Nat} (hF : 10 ≤ F.1) (x : Int64) {n : Nat} (hn : n ≤ 6) : f_X0_lacking F x (nI n) = some (fold6 (fun a i => lsT a i ||| mrT a i) x 0 n) := by
  have key : ∀ k i f (acc : Int64), i + k = n → k < f → f_X0_lacking_5 F f (nI n) acc (nI i) = some (fold6 (fun a i => lsT a i ||| mrT a i) acc i k) := by
    intro k
    induction k with
    | zero =>
      intro i f acc hi hf
      obtain ⟨f, rfl⟩ : ∃ g, f = g + 1 := ⟨f - 1, by omega⟩
      obtain rfl : i = n := by omega
      rw [f_X0_lacking_5, if_neg (nI_nlt (Nat.le_refl _) (by omega))]
      rfl
    | succ k ih =>
      intro i f acc hi hf
      obtain ⟨f, rfl⟩ : ∃ g, f = g + 1 := ⟨f - 1, by omega⟩
      rw [f_X0_lacking_5, if_pos (nI_lt (by omega) (by omega)), f_less_eq F acc (by omega), Option.bind_some, f_more_eq F acc (by omega), Option.bind_some, nI_1, ih (i + 1) f _ (by omega) (by omega)]
      rfl
  exact key n 0 F.1 x (by omega) (by omega)
def ctS (s : Nat) (a : Int64) (i : Nat) : Int64 := if s.testBit i then a else lkT a i ||| lsT a i
theorem f_cutTo_eq {F : Nat × Nat} (hF : 10 ≤ F.1) (x : Int64) {s : Nat} (hs : s < 64) : f_X0_cutTo F x (nI s) = some (fold6 (ctS s) x 0 6) := by
  have key : ∀ k i f (acc : Int64), i + k = 6 → k < f → f_X0_cutTo_5 F f (nI s) acc (nI i) = some (fold6 (ctS s) acc i k) := by
    intro k
    induction k with
    | zero =>
      intro i f acc hi hf
      obtain ⟨f, rfl⟩ : ∃ g, f = g + 1 := ⟨f - 1, by omega⟩
      obtain rfl : i = 6 := by omega
      rfl
    | succ k ih =>
      intro i f acc hi hf
      obtain ⟨f, rfl⟩ : ∃ g, f = g + 1 := ⟨f - 1, by omega⟩
      rw [f_X0_cutTo_5, if_pos (lt6I (by omega)), bitI hs (by omega), fold6, ctS]
      cases s.testBit i
      · rw [if_pos (by rfl), f_lack_eq F acc (by omega), Option.bind_some, f_less_eq F acc (by omega), Option.bind_some, nI_1, ih (i + 1) f _ (by omega) (by omega)]
        rfl
      · rw [if_neg (by decide), nI_1, ih (i + 1) f _ (by omega) (by omega)]
        rfl
  exact key 6 0 F.1 x rfl (by omega)
def jnS (s : Nat) (a : Int64) (i : Nat) : Int64 := if s.testBit i then (a &&& (rx_W.getD i 0 ^^^ (-1))) ||| mrT a i else a
theorem f_joinedTo_eq {F : Nat × Nat} (hF : 10 ≤ F.1) (x : Int64) {s : Nat} (hs : s < 64) : f_X0_joinedTo F x (nI s) = some (fold6 (jnS s) x 0 6) := by
  have key : ∀ k i f (acc : Int64), i + k = 6 → k < f → f_X0_joinedTo_5 F f (nI s) acc (nI i) = some (fold6 (jnS s) acc i k) := by
    intro k
    induction k with
    | zero =>
      intro i f acc hi hf
      obtain ⟨f, rfl⟩ : ∃ g, f = g + 1 := ⟨f - 1, by omega⟩
      obtain rfl : i = 6 := by omega
      rfl
    | succ k ih =>
      intro i f acc hi hf
      obtain ⟨f, rfl⟩ : ∃ g, f = g + 1 := ⟨f - 1, by omega⟩
      rw [f_X0_joinedTo_5, if_pos (lt6I (by omega)), bitI hs (by omega), fold6, jnS]
      cases s.testBit i
      · rw [if_pos (by rfl), nI_1, ih (i + 1) f _ (by omega) (by omega)]
        rfl
      · rw [if_neg (by decide), f_W_eq (by omega), Option.bind_some, f_more_eq F acc (by omega), Option.bind_some, nI_1, ih (i + 1) f _ (by omega) (by omega)]
        rfl
  exact key 6 0 F.1 x rfl (by omega)
/-- .. respects union -/
theorem uh_fold {g : Int64 → Nat → Int64} : ∀ (k i : Nat), (∀ j, j < i + k → uh (fun a => g a j)) → uh (fun a => fold6 g a i k)
  | 0, _, _ => uh_id
  | k + 1, i, h => uh_comp (uh_fold k (i + 1) (fun j hj => h j (by omega))) (h i (by omega))
theorem uh_oneLess : uh (fun x => fold6 (fun a i => a ||| lsT x i) 0 0 6) := uh_or (uh_or (uh_or (uh_or (uh_or (uh_or uh_0 (uh_ls (by decide))) (uh_ls (by decide))) (uh_ls (by decide))) (uh_ls (by decide))) (uh_ls (by decide))) (uh_ls (by decide))
theorem uh_allBelow : uh (fun x => fold6 (fun a i => a ||| lsT a i) x 0 6) := uh_fold 6 0 fun j hj => uh_or uh_id (uh_ls (by omega))
theorem uh_allAbove {n : Nat} (hn : n ≤ 6) : uh (fun x => fold6 (fun a i => a ||| mrT a i) x 0 n) := uh_fold n 0 fun j hj => uh_or uh_id (uh_mr (by omega))
theorem uh_lacking {n : Nat} (hn : n ≤ 6) : uh (fun x => fold6 (fun a i => lsT a i ||| mrT a i) x 0 n) := uh_fold n 0 fun j hj => uh_or (uh_ls (by omega)) (uh_mr (by omega))
theorem uh_cut (s : Nat) : uh (fun x => fold6 (ctS s) x 0 6) := uh_fold 6 0 fun j hj => by
  unfold ctS
  cases s.testBit j
  · exact uh_or (uh_lk j) (uh_ls (by omega))
  · exact uh_id
theorem uh_join (s : Nat) : uh (fun x => fold6 (jnS s) x 0 6) := uh_fold 6 0 fun j hj => by
  unfold jnS
  cases s.testBit j
  · exact uh_id
  · exact uh_or (uh_and _) (uh_mr (by omega))
/-! single sets -/
theorem one_cut {x s : Nat} (hx : x < 64) (hs : s < 64) : fold6 (ctS s) (one x) 0 6 = one (x &&& s) := by
  have h : ∀ x, x < 64 → ∀ s, s < 64 → fold6 (ctS s) (one x) 0 6 = one (x &&& s) := by decide +kernel
  exact h x hx s hs
theorem one_join {x s : Nat} (hx : x < 64) (hs : s < 64) : fold6 (jnS s) (one x) 0 6 = one (x ||| s) := by
  have h : ∀ x, x < 64 → ∀ s, s < 64 → fold6 (jnS s) (one x) 0 6 = one (x ||| s) := by decide +kernel
  exact h x hx s hs
theorem one_below {x : Nat} (hx : x < 64) {y : Nat} (hy : y < 64) : qb (fold6 (fun a i => a ||| lsT a i) (one x) 0 6) y = decide (y &&& x = y) := by
  have h : ∀ x, x < 64 → ∀ y, y < 64 → qb (fold6 (fun a i => a ||| lsT a i) (one x) 0 6) y = decide (y &&& x = y) := by decide +kernel
  exact h x hx y hy
