/-! ===== The constructors ===== -/
section B96
variable {sc : Nat × (Nat → Int32)}
theorem c_push {l : List rx_C} {m : Nat} (c : rx_C) (hl : l.length = m) (hm : m < 999999) : rx_push (some (sc, l)) c = some (m, some (sc, l ++ [c])) := by
  unfold rx_push
  simp only [hl]
  rw [if_pos hm]
theorem c_nI {u : Option rx_H} {n : Nat} (hn : n ≤ 100000) : rx_nI u (nI n) = rx_push u (aI n (fun _ => 0)) := by
  unfold rx_nI
  rw [nI_clamp (by omega), if_neg (by
    rintro (q | q)
    · exact nI_pos (by omega) q
    · omega)]
  rfl
theorem c_nJ {u : Option rx_H} {n : Nat} (hn : n ≤ 100000) : rx_nJ u (nI n) = rx_push u (aJ n (fun _ => 0)) := by
  unfold rx_nJ
  rw [nI_clamp (by omega), if_neg (by
    rintro (q | q)
    · exact nI_pos (by omega) q
    · omega)]
  rfl
theorem c_nR {u : Option rx_H} {n : Nat} (hn : n ≤ 100000) : rx_nR u (nI n) = rx_push u (aP n (fun _ => none)) := by
  unfold rx_nR
  rw [nI_clamp (by omega), if_neg (by
    rintro (q | q)
    · exact nI_pos (by omega) q
    · omega)]
  rfl
theorem c_nO {u : Option rx_H} {c : Nat} (hc : c < 4) : rx_nO u c = rx_push u (.inr (c, rx_df c)) := by
  unfold rx_nO
  rw [if_pos hc]
theorem c_p {l : List rx_C} {r c k : Nat} {fs : List Value} (v : Value) (h : l[r]? = some (.inr (c, fs))) (hk : k < fs.length) : rx_p (some (sc, l)) r c k v = some (some (sc, l.set r (.inr (c, fs.set k v)))) := by
  unfold rx_p
  simp only [h, hk, and_self, if_true]
theorem c_gR {l : List rx_C} {r c k x : Nat} {fs : List Value} (h : l[r]? = some (.inr (c, fs))) (hk : fs[k]? = some (.ref x)) : rx_gR (some (sc, l)) r c k = some x := by
  refine rx_gR_of ?_
  unfold rx_fd
  simp only [h, if_true]
  exact hk
theorem c_gI {l : List rx_C} {r c k : Nat} {x : Int32} {fs : List Value} (h : l[r]? = some (.inr (c, fs))) (hk : fs[k]? = some (.int x)) : rx_gI (some (sc, l)) r c k = some x := by
  refine rx_gI_of ?_
  unfold rx_fd
  simp only [h, if_true]
  exact hk
theorem c_aJ {l : List rx_C} {r n i : Nat} {f : Nat → Int64} (h : l[r]? = some (aJ n f)) (hr : ¬ r = 1000001) (hi : i < n) (hn : n < 2 ^ 31) : rx_aJ (some (sc, l)) r (nI i) = some (f i) := by
  unfold rx_aJ
  rw [if_neg hr]
  simp only [h]
  show (if nI i < 0 ∨ n ≤ (nI i).toNatClampNeg then none else some (f (nI i).toNatClampNeg)) = _
  rw [if_neg (nI_in hi hn), nI_clamp (by omega)]
theorem c_sJ {l : List rx_C} {r n i : Nat} {f : Nat → Int64} (x : Int64) (h : l[r]? = some (aJ n f)) (hi : i < n) (hn : n < 2 ^ 31) : rx_sJ (some (sc, l)) r (nI i) x = some (some (sc, l.set r (aJ n (vp_updL f i x)))) := by
  unfold rx_sJ
  simp only [h]
  show (if nI i < 0 ∨ n ≤ (nI i).toNatClampNeg then none else some (some (sc, l.set r (aJ n (vp_updL f (nI i).toNatClampNeg x))))) = _
  rw [if_neg (nI_in hi hn), nI_clamp (by omega)]
theorem c_sI {l : List rx_C} {r n i : Nat} {f : Nat → Int32} (x : Int32) (h : l[r]? = some (aI n f)) (hi : i < n) (hn : n < 2 ^ 31) : rx_sI (some (sc, l)) r (nI i) x = some (some (sc, l.set r (aI n (upd f i x)))) := by
  unfold rx_sI
  simp only [h]
  show (if nI i < 0 ∨ n ≤ (nI i).toNatClampNeg then none else some (some (sc, l.set r (aI n (upd f (nI i).toNatClampNeg x))))) = _
  rw [if_neg (nI_in hi hn), nI_clamp (by omega)]
theorem c_sR {l : List rx_C} {r n i x : Nat} {f : Nat → Option Nat} {fs : List Value} (h : l[r]? = some (aP n f)) (hx : l[x]? = some (.inr (0, fs))) (hi : i < n) (hn : n < 2 ^ 31) : rx_sR (some (sc, l)) r (nI i) x = some (some (sc, l.set r (aP n (va_up f i (some x))))) := by
  unfold rx_sR
  simp only [h, hx]
  show (if nI i < 0 ∨ n ≤ (nI i).toNatClampNeg then none else some (some (sc, l.set r (aP n (va_up f (nI i).toNatClampNeg (some x)))))) = _
  rw [if_neg (nI_in hi hn), nI_clamp (by omega)]
/-! places -/
def shf (k : Nat) : Nat → Option Nat := fun p => if p < k then some (2 + 2 * p) else none
def plZ (r : Nat) : rx_C := plO (-2, 0, 0, 0, 0, fun _ => 0) r
def Zr : rx_C := aJ 64 (fun _ => 0)
def pcs : Nat → List rx_C
  | 0 => []
  | k + 1 => pcs k ++ [plZ (3 + 2 * k), Zr]
theorem pcs_len : ∀ k, (pcs k).length = 2 * k
  | 0 => rfl
  | k + 1 => by
    show (pcs k ++ [plZ (3 + 2 * k), Zr]).length = _
    rw [List.length_append, pcs_len k]; show 2 * k + 2 = _; omega
theorem shf_up (k : Nat) : va_up (shf k) k (some (2 + 2 * k)) = shf (k + 1) := by
  funext p
  unfold va_up shf
  by_cases h : p = k
  · subst h; rw [if_pos rfl, if_pos (by omega)]
  · rw [if_neg h]
    by_cases h2 : p < k
    · rw [if_pos h2, if_pos (by omega)]
    · rw [if_neg h2, if_neg (by omega)]
theorem i4 (F : Nat × Nat) {A : List rx_C} {m : Nat} (hA : A.length = m) (hm : m < 900000) : f_X4_init F m (some (sc, A ++ [.inr (0, rx_df 0)])) = some (some (sc, A ++ [plZ (m + 1), Zr])) := by
  have g : ∀ (x : rx_C) (T : List rx_C), (A ++ (x :: T))[m]? = some x := fun x T => by
    rw [List.getElem?_append_right (by omega), hA, Nat.sub_self]; rfl
  have s : ∀ (x y : rx_C) (T : List rx_C), (A ++ (x :: T)).set m y = A ++ (y :: T) := fun x y T => by
    rw [List.set_append_right m y (by omega), hA, Nat.sub_self]; rfl
  unfold f_X4_init f_X4_init_0
  rw [c_p (k := 0) _ (g _ []) (by decide), Option.bind_some, s, show (64 : Int32) = nI 64 from rfl, c_nJ (by decide), c_push (m := m + 1) _ (by rw [List.length_append, hA]; rfl) (by omega), Option.bind_some, List.append_assoc]
  show (rx_p (some (sc, A ++ (.inr (0, [.int (-2), .int 0, .long 0, .long 0, .int 0, .null]) :: [aJ 64 (fun _ => 0)]))) m 0 5 (.ref (m + 1))).bind _ = _
  rw [c_p (k := 5) _ (g _ _) (by decide), Option.bind_some, s]
  rfl
def OO (n : Nat) (a b c : Value) (d : Int32) : rx_C := .inr (2, [.int (nI n), .int (nI (2 ^ n)), a, b, c, .int d])
theorem i36 (F : Nat × Nat) (n : Nat) : ∀ k i f, i + k = 16 → k < f → f_X6_init_36 F f 0 (nI i) (some (sc, OO n (.ref 1) .null .null 0 :: aP 16 (shf i) :: pcs i)) = f_X6_init_36 F (f - k) 0 (nI 16) (some (sc, OO n (.ref 1) .null .null 0 :: aP 16 (shf 16) :: pcs 16)) := by
  intro k
  induction k with
  | zero =>
    intro i f hi hf
    obtain rfl : i = 16 := by omega
    rfl
  | succ k ih =>
    intro i f hi hf
    obtain ⟨f, rfl⟩ : ∃ g, f = g + 1 := ⟨f - 1, by omega⟩
    have hl : (OO n (.ref 1) .null .null 0 :: aP 16 (shf i) :: pcs i).length = 2 + 2 * i := by
      show (pcs i).length + 1 + 1 = _; rw [pcs_len]; omega
    rw [show f + 1 - (k + 1) = f - k by omega, ← ih (i + 1) f (by omega) (by omega), f_X6_init_36, if_pos (show nI i < 16 from nI_lt (b := 16) (by omega) (by decide)), c_gR (x := 1) (fs := [.int (nI n), .int (nI (2 ^ n)), .ref 1, .null, .null, .int 0]) rfl rfl, Option.bind_some, c_nO (by decide), c_push _ hl (by omega), Option.bind_some]
    dsimp only
    rw [i4 F hl (by omega), Option.bind_some, c_sR (f := shf i) (n := 16) (fs := [.int (-2), .int 0, .long 0, .long 0, .int 0, .ref (2 + 2 * i + 1)]) rfl (by rw [List.getElem?_append_right (by omega), hl, Nat.sub_self]; rfl) (by omega) (by decide), Option.bind_some, nI_1, shf_up, show 2 + 2 * i + 1 = 3 + 2 * i by omega]
    rfl
/-! layers -/
abbrev pre (o s l : rx_C) (T : List rx_C) : List rx_C := o :: s :: plZ 3 :: Zr :: plZ 5 :: Zr :: plZ 7 :: Zr :: plZ 9 :: Zr :: plZ 11 :: Zr :: plZ 13 :: Zr :: plZ 15 :: Zr :: plZ 17 :: Zr :: plZ 19 :: Zr :: plZ 21 :: Zr :: plZ 23 :: Zr :: plZ 25 :: Zr :: plZ 27 :: Zr :: plZ 29 :: Zr :: plZ 31 :: Zr :: plZ 33 :: Zr :: l :: T
def lyS : Nat → Nat → Int64
  | 0 => fun _ => 0
  | s + 1 => vp_updL (lyS s) (pc s) (lyS s (pc s) ||| one s)
theorem lyS_is (k : Nat) : ∀ s, lyS s k = oR (fun x => if pc x = k then one x else 0) s
  | 0 => rfl
  | s + 1 => by
    show vp_updL (lyS s) (pc s) (lyS s (pc s) ||| one s) k = oR _ s ||| (if pc s = k then one s else 0)
    by_cases h : pc s = k
    · rw [if_pos h, ← h, pk_uLs, lyS_is (pc s) s]
    · rw [if_neg h, pk_uLn (fun e => h e.symm), or_0]; exact lyS_is k s
theorem i71 {F : Nat × Nat} {n : Nat} (hn : n ≤ 6) (S : rx_C) : ∀ k i f, i + k = 2 ^ n → k < f → f_X6_init_71 F f 0 (nI i) (some (sc, pre (OO n (.ref 1) (.ref 34) .null 0) S (aJ 7 (lyS i)) [])) = f_X6_init_71 F (f - k) 0 (nI (2 ^ n)) (some (sc, pre (OO n (.ref 1) (.ref 34) .null 0) S (aJ 7 (lyS (2 ^ n))) [])) := by
  have ha := all_le hn
  intro k
  induction k with
  | zero =>
    intro i f hi hf
    obtain rfl : i = 2 ^ n := by omega
    rfl
  | succ k ih =>
    intro i f hi hf
    obtain ⟨f, rfl⟩ : ∃ g, f = g + 1 := ⟨f - 1, by omega⟩
    have hp6 := pc_le i
    have h34 : (pre (OO n (.ref 1) (.ref 34) .null 0) S (aJ 7 (lyS i)) [])[34]? = some (aJ 7 (lyS i)) := rfl
    have h0 : (pre (OO n (.ref 1) (.ref 34) .null 0) S (aJ 7 (lyS i)) [])[0]? = some (.inr (2, [.int (nI n), .int (nI (2 ^ n)), .ref 1, .ref 34, .null, .int 0])) := rfl
    rw [show f + 1 - (k + 1) = f - k by omega, ← ih (i + 1) f (by omega) (by omega), f_X6_init_71, c_gI (k := 1) h0 rfl, Option.bind_some, if_pos (nI_lt (by omega) (by omega)), c_gR (k := 3) h0 rfl, Option.bind_some, f_bits_eq F (by omega), Option.bind_some, c_aJ h34 (by decide) (by omega) (by decide), Option.bind_some, c_sJ _ h34 (by omega) (by decide), Option.bind_some, nI_1]
    rfl
theorem i5 (F : Nat × Nat) (o s l : rx_C) : f_X5_init F 35 (some (sc, pre o s l [.inr (1, rx_df 1)])) = some (some (sc, (pre o s l [(.inr (1, [.ref 36, .ref 37, .int 0, .ref 38, .ref 39]) : rx_C), aI 5 (fun _ => 0), aI 5 (fun _ => 0), aI 64 (fun _ => 0), aJ 49 (fun _ => 0)]))) := by
  have h1 : rx_nI (some (sc, (pre o s l [(.inr (1, [.null, .null, .int 0, .null, .null]) : rx_C)]))) (5 : Int32) = some (36, some (sc, (pre o s l [(.inr (1, [.null, .null, .int 0, .null, .null]) : rx_C), aI 5 (fun _ => 0)]))) := by
    rw [show (5 : Int32) = nI 5 from rfl, c_nI (by decide)]
    exact c_push _ rfl (by decide)
  have h2 : rx_p (some (sc, (pre o s l [(.inr (1, [.null, .null, .int 0, .null, .null]) : rx_C), aI 5 (fun _ => 0)]))) 35 1 0 (.ref 36) = some (some (sc, (pre o s l [(.inr (1, [.ref 36, .null, .int 0, .null, .null]) : rx_C), aI 5 (fun _ => 0)]))) := c_p (fs := [.null, .null, .int 0, .null, .null]) _ rfl (by simp)
  have h3 : rx_nI (some (sc, (pre o s l [(.inr (1, [.ref 36, .null, .int 0, .null, .null]) : rx_C), aI 5 (fun _ => 0)]))) (5 : Int32) = some (37, some (sc, (pre o s l [(.inr (1, [.ref 36, .null, .int 0, .null, .null]) : rx_C), aI 5 (fun _ => 0), aI 5 (fun _ => 0)]))) := by
    rw [show (5 : Int32) = nI 5 from rfl, c_nI (by decide)]
    exact c_push _ rfl (by decide)
  have h4 : rx_p (some (sc, (pre o s l [(.inr (1, [.ref 36, .null, .int 0, .null, .null]) : rx_C), aI 5 (fun _ => 0), aI 5 (fun _ => 0)]))) 35 1 1 (.ref 37) = some (some (sc, (pre o s l [(.inr (1, [.ref 36, .ref 37, .int 0, .null, .null]) : rx_C), aI 5 (fun _ => 0), aI 5 (fun _ => 0)]))) := c_p (fs := [.ref 36, .null, .int 0, .null, .null]) _ rfl (by simp)
  have h5 : rx_nI (some (sc, (pre o s l [(.inr (1, [.ref 36, .ref 37, .int 0, .null, .null]) : rx_C), aI 5 (fun _ => 0), aI 5 (fun _ => 0)]))) (64 : Int32) = some (38, some (sc, (pre o s l [(.inr (1, [.ref 36, .ref 37, .int 0, .null, .null]) : rx_C), aI 5 (fun _ => 0), aI 5 (fun _ => 0), aI 64 (fun _ => 0)]))) := by
    rw [show (64 : Int32) = nI 64 from rfl, c_nI (by decide)]
    exact c_push _ rfl (by decide)
  have h6 : rx_p (some (sc, (pre o s l [(.inr (1, [.ref 36, .ref 37, .int 0, .null, .null]) : rx_C), aI 5 (fun _ => 0), aI 5 (fun _ => 0), aI 64 (fun _ => 0)]))) 35 1 3 (.ref 38) = some (some (sc, (pre o s l [(.inr (1, [.ref 36, .ref 37, .int 0, .ref 38, .null]) : rx_C), aI 5 (fun _ => 0), aI 5 (fun _ => 0), aI 64 (fun _ => 0)]))) := c_p (fs := [.ref 36, .ref 37, .int 0, .null, .null]) _ rfl (by simp)
  have h7 : rx_nJ (some (sc, (pre o s l [(.inr (1, [.ref 36, .ref 37, .int 0, .ref 38, .null]) : rx_C), aI 5 (fun _ => 0), aI 5 (fun _ => 0), aI 64 (fun _ => 0)]))) (49 : Int32) = some (39, some (sc, (pre o s l [(.inr (1, [.ref 36, .ref 37, .int 0, .ref 38, .null]) : rx_C), aI 5 (fun _ => 0), aI 5 (fun _ => 0), aI 64 (fun _ => 0), aJ 49 (fun _ => 0)]))) := by
    rw [show (49 : Int32) = nI 49 from rfl, c_nJ (by decide)]
    exact c_push _ rfl (by decide)
  have h8 : rx_p (some (sc, (pre o s l [(.inr (1, [.ref 36, .ref 37, .int 0, .ref 38, .null]) : rx_C), aI 5 (fun _ => 0), aI 5 (fun _ => 0), aI 64 (fun _ => 0), aJ 49 (fun _ => 0)]))) 35 1 4 (.ref 39) = some (some (sc, (pre o s l [(.inr (1, [.ref 36, .ref 37, .int 0, .ref 38, .ref 39]) : rx_C), aI 5 (fun _ => 0), aI 5 (fun _ => 0), aI 64 (fun _ => 0), aJ 49 (fun _ => 0)]))) := c_p (fs := [.ref 36, .ref 37, .int 0, .ref 38, .null]) _ rfl (by simp)
  unfold f_X5_init f_X5_init_0
  show (rx_nI (some (sc, (pre o s l [(.inr (1, [.null, .null, .int 0, .null, .null]) : rx_C)]))) 5).bind _ = _
  rw [h1, Option.bind_some, h2, Option.bind_some, h3, Option.bind_some, h4, Option.bind_some, h5, Option.bind_some, h6, Option.bind_some, h7, Option.bind_some, h8, Option.bind_some]
def kdS : Nat → Nat → Int32
  | 0 => fun _ => 0
  | k + 1 => upd (kdS k) k (-2)
theorem kdS_is {j : Nat} : ∀ {k : Nat}, j < k → kdS k j = -2
  | 0, h => by omega
  | k + 1, h => by
    show upd (kdS k) k (-2) j = -2
    by_cases e : j = k
    · subst e; exact pk_us
    · rw [pk_un e]; exact kdS_is (by omega)
theorem i114 (F : Nat × Nat) (o s l a0 a1 a2 a3 a4 : rx_C) (n : Nat) : ∀ k i f, i + k = 16 → k < f → f_X7_init_114 F f 40 (nI i) (some (sc, (pre o s l [a0, a1, a2, a3, a4, (.inr (3, [.int 0, .int (nI n), .int (nI (2 ^ n)), .ref 41, .ref 42, .ref 43, .ref 44, .ref 45, .ref 46, .int (-2), .ref 47, .ref 48, .ref 49, .int 0, .ref 50]) : rx_C), aI 16 (kdS i), aI 16 (fun _ => 0), aJ 16 (fun _ => 0), aJ 16 (fun _ => 0), aI 16 (fun _ => 0), aJ 1024 (fun _ => 0), aI 6 (fun _ => 0), aI 5 (fun _ => 0), aI 5 (fun _ => 0), aJ 64 (fun _ => 0)]))) = some (some (sc, (pre o s l [a0, a1, a2, a3, a4, (.inr (3, [.int 0, .int (nI n), .int (nI (2 ^ n)), .ref 41, .ref 42, .ref 43, .ref 44, .ref 45, .ref 46, .int (-2), .ref 47, .ref 48, .ref 49, .int 0, .ref 50]) : rx_C), aI 16 (kdS 16), aI 16 (fun _ => 0), aJ 16 (fun _ => 0), aJ 16 (fun _ => 0), aI 16 (fun _ => 0), aJ 1024 (fun _ => 0), aI 6 (fun _ => 0), aI 5 (fun _ => 0), aI 5 (fun _ => 0), aJ 64 (fun _ => 0)]))) := by
  intro k
  induction k with
  | zero =>
    intro i f hi hf
    obtain ⟨f, rfl⟩ : ∃ g, f = g + 1 := ⟨f - 1, by omega⟩
    obtain rfl : i = 16 := by omega
    rw [f_X7_init_114, if_neg (by decide)]
  | succ k ih =>
    intro i f hi hf
    obtain ⟨f, rfl⟩ : ∃ g, f = g + 1 := ⟨f - 1, by omega⟩
    have h40 : (pre o s l [a0, a1, a2, a3, a4, (.inr (3, [.int 0, .int (nI n), .int (nI (2 ^ n)), .ref 41, .ref 42, .ref 43, .ref 44, .ref 45, .ref 46, .int (-2), .ref 47, .ref 48, .ref 49, .int 0, .ref 50]) : rx_C), aI 16 (kdS i), aI 16 (fun _ => 0), aJ 16 (fun _ => 0), aJ 16 (fun _ => 0), aI 16 (fun _ => 0), aJ 1024 (fun _ => 0), aI 6 (fun _ => 0), aI 5 (fun _ => 0), aI 5 (fun _ => 0), aJ 64 (fun _ => 0)])[40]? = some (.inr (3, [.int 0, .int (nI n), .int (nI (2 ^ n)), .ref 41, .ref 42, .ref 43, .ref 44, .ref 45, .ref 46, .int (-2), .ref 47, .ref 48, .ref 49, .int 0, .ref 50]) : rx_C) := rfl
    have h41 : (pre o s l [a0, a1, a2, a3, a4, (.inr (3, [.int 0, .int (nI n), .int (nI (2 ^ n)), .ref 41, .ref 42, .ref 43, .ref 44, .ref 45, .ref 46, .int (-2), .ref 47, .ref 48, .ref 49, .int 0, .ref 50]) : rx_C), aI 16 (kdS i), aI 16 (fun _ => 0), aJ 16 (fun _ => 0), aJ 16 (fun _ => 0), aI 16 (fun _ => 0), aJ 1024 (fun _ => 0), aI 6 (fun _ => 0), aI 5 (fun _ => 0), aI 5 (fun _ => 0), aJ 64 (fun _ => 0)])[41]? = some (aI 16 (kdS i)) := rfl
    rw [f_X7_init_114, if_pos (show nI i < 16 from nI_lt (b := 16) (by omega) (by decide)), c_gR (k := 3) (x := 41) h40 rfl, Option.bind_some, c_sI _ h41 (by omega) (by decide), Option.bind_some, nI_1]
    exact ih (i + 1) f (by omega) (by omega)
theorem i7 {F : Nat × Nat} (hF : 100000 ≤ F.1) (o s l a0 a1 a2 a3 a4 : rx_C) {n : Nat} (hn : n ≤ 6) {x : Int32} (hx : (3 : Int32) + (((x - x / (4 : Int32) * (4 : Int32)) + (4 : Int32)) - ((x - x / (4 : Int32) * (4 : Int32)) + (4 : Int32)) / (4 : Int32) * (4 : Int32)) = nI n) : f_X7_init F 40 x (some (sc, pre o s l [a0, a1, a2, a3, a4, .inr (3, rx_df 3)])) = some (some (sc, (pre o s l [a0, a1, a2, a3, a4, (.inr (3, [.int 0, .int (nI n), .int (nI (2 ^ n)), .ref 41, .ref 42, .ref 43, .ref 44, .ref 45, .ref 46, .int (-2), .ref 47, .ref 48, .ref 49, .int 0, .ref 50]) : rx_C), aI 16 (kdS 16), aI 16 (fun _ => 0), aJ 16 (fun _ => 0), aJ 16 (fun _ => 0), aI 16 (fun _ => 0), aJ 1024 (fun _ => 0), aI 6 (fun _ => 0), aI 5 (fun _ => 0), aI 5 (fun _ => 0), aJ 64 (fun _ => 0)]))) := by
  have h1 : rx_nI (some (sc, (pre o s l [a0, a1, a2, a3, a4, (.inr (3, [.int 0, .int 0, .int 0, .null, .null, .null, .null, .null, .null, .int 0, .null, .null, .null, .int 0, .null]) : rx_C)]))) (16 : Int32) = some (41, some (sc, (pre o s l [a0, a1, a2, a3, a4, (.inr (3, [.int 0, .int 0, .int 0, .null, .null, .null, .null, .null, .null, .int 0, .null, .null, .null, .int 0, .null]) : rx_C), aI 16 (fun _ => 0)]))) := by
    rw [show (16 : Int32) = nI 16 from rfl, c_nI (by decide)]
    exact c_push _ rfl (by decide)
  have h2 : rx_p (some (sc, (pre o s l [a0, a1, a2, a3, a4, (.inr (3, [.int 0, .int 0, .int 0, .null, .null, .null, .null, .null, .null, .int 0, .null, .null, .null, .int 0, .null]) : rx_C), aI 16 (fun _ => 0)]))) 40 3 3 (.ref 41) = some (some (sc, (pre o s l [a0, a1, a2, a3, a4, (.inr (3, [.int 0, .int 0, .int 0, .ref 41, .null, .null, .null, .null, .null, .int 0, .null, .null, .null, .int 0, .null]) : rx_C), aI 16 (fun _ => 0)]))) := c_p (fs := [.int 0, .int 0, .int 0, .null, .null, .null, .null, .null, .null, .int 0, .null, .null, .null, .int 0, .null]) _ rfl (by simp)
  have h3 : rx_nI (some (sc, (pre o s l [a0, a1, a2, a3, a4, (.inr (3, [.int 0, .int 0, .int 0, .ref 41, .null, .null, .null, .null, .null, .int 0, .null, .null, .null, .int 0, .null]) : rx_C), aI 16 (fun _ => 0)]))) (16 : Int32) = some (42, some (sc, (pre o s l [a0, a1, a2, a3, a4, (.inr (3, [.int 0, .int 0, .int 0, .ref 41, .null, .null, .null, .null, .null, .int 0, .null, .null, .null, .int 0, .null]) : rx_C), aI 16 (fun _ => 0), aI 16 (fun _ => 0)]))) := by
    rw [show (16 : Int32) = nI 16 from rfl, c_nI (by decide)]
    exact c_push _ rfl (by decide)
  have h4 : rx_p (some (sc, (pre o s l [a0, a1, a2, a3, a4, (.inr (3, [.int 0, .int 0, .int 0, .ref 41, .null, .null, .null, .null, .null, .int 0, .null, .null, .null, .int 0, .null]) : rx_C), aI 16 (fun _ => 0), aI 16 (fun _ => 0)]))) 40 3 4 (.ref 42) = some (some (sc, (pre o s l [a0, a1, a2, a3, a4, (.inr (3, [.int 0, .int 0, .int 0, .ref 41, .ref 42, .null, .null, .null, .null, .int 0, .null, .null, .null, .int 0, .null]) : rx_C), aI 16 (fun _ => 0), aI 16 (fun _ => 0)]))) := c_p (fs := [.int 0, .int 0, .int 0, .ref 41, .null, .null, .null, .null, .null, .int 0, .null, .null, .null, .int 0, .null]) _ rfl (by simp)
  have h5 : rx_nJ (some (sc, (pre o s l [a0, a1, a2, a3, a4, (.inr (3, [.int 0, .int 0, .int 0, .ref 41, .ref 42, .null, .null, .null, .null, .int 0, .null, .null, .null, .int 0, .null]) : rx_C), aI 16 (fun _ => 0), aI 16 (fun _ => 0)]))) (16 : Int32) = some (43, some (sc, (pre o s l [a0, a1, a2, a3, a4, (.inr (3, [.int 0, .int 0, .int 0, .ref 41, .ref 42, .null, .null, .null, .null, .int 0, .null, .null, .null, .int 0, .null]) : rx_C), aI 16 (fun _ => 0), aI 16 (fun _ => 0), aJ 16 (fun _ => 0)]))) := by
    rw [show (16 : Int32) = nI 16 from rfl, c_nJ (by decide)]
    exact c_push _ rfl (by decide)
  have h6 : rx_p (some (sc, (pre o s l [a0, a1, a2, a3, a4, (.inr (3, [.int 0, .int 0, .int 0, .ref 41, .ref 42, .null, .null, .null, .null, .int 0, .null, .null, .null, .int 0, .null]) : rx_C), aI 16 (fun _ => 0), aI 16 (fun _ => 0), aJ 16 (fun _ => 0)]))) 40 3 5 (.ref 43) = some (some (sc, (pre o s l [a0, a1, a2, a3, a4, (.inr (3, [.int 0, .int 0, .int 0, .ref 41, .ref 42, .ref 43, .null, .null, .null, .int 0, .null, .null, .null, .int 0, .null]) : rx_C), aI 16 (fun _ => 0), aI 16 (fun _ => 0), aJ 16 (fun _ => 0)]))) := c_p (fs := [.int 0, .int 0, .int 0, .ref 41, .ref 42, .null, .null, .null, .null, .int 0, .null, .null, .null, .int 0, .null]) _ rfl (by simp)
  have h7 : rx_nJ (some (sc, (pre o s l [a0, a1, a2, a3, a4, (.inr (3, [.int 0, .int 0, .int 0, .ref 41, .ref 42, .ref 43, .null, .null, .null, .int 0, .null, .null, .null, .int 0, .null]) : rx_C), aI 16 (fun _ => 0), aI 16 (fun _ => 0), aJ 16 (fun _ => 0)]))) (16 : Int32) = some (44, some (sc, (pre o s l [a0, a1, a2, a3, a4, (.inr (3, [.int 0, .int 0, .int 0, .ref 41, .ref 42, .ref 43, .null, .null, .null, .int 0, .null, .null, .null, .int 0, .null]) : rx_C), aI 16 (fun _ => 0), aI 16 (fun _ => 0), aJ 16 (fun _ => 0), aJ 16 (fun _ => 0)]))) := by
    rw [show (16 : Int32) = nI 16 from rfl, c_nJ (by decide)]
    exact c_push _ rfl (by decide)
  have h8 : rx_p (some (sc, (pre o s l [a0, a1, a2, a3, a4, (.inr (3, [.int 0, .int 0, .int 0, .ref 41, .ref 42, .ref 43, .null, .null, .null, .int 0, .null, .null, .null, .int 0, .null]) : rx_C), aI 16 (fun _ => 0), aI 16 (fun _ => 0), aJ 16 (fun _ => 0), aJ 16 (fun _ => 0)]))) 40 3 6 (.ref 44) = some (some (sc, (pre o s l [a0, a1, a2, a3, a4, (.inr (3, [.int 0, .int 0, .int 0, .ref 41, .ref 42, .ref 43, .ref 44, .null, .null, .int 0, .null, .null, .null, .int 0, .null]) : rx_C), aI 16 (fun _ => 0), aI 16 (fun _ => 0), aJ 16 (fun _ => 0), aJ 16 (fun _ => 0)]))) := c_p (fs := [.int 0, .int 0, .int 0, .ref 41, .ref 42, .ref 43, .null, .null, .null, .int 0, .null, .null, .null, .int 0, .null]) _ rfl (by simp)
  have h9 : rx_nI (some (sc, (pre o s l [a0, a1, a2, a3, a4, (.inr (3, [.int 0, .int 0, .int 0, .ref 41, .ref 42, .ref 43, .ref 44, .null, .null, .int 0, .null, .null, .null, .int 0, .null]) : rx_C), aI 16 (fun _ => 0), aI 16 (fun _ => 0), aJ 16 (fun _ => 0), aJ 16 (fun _ => 0)]))) (16 : Int32) = some (45, some (sc, (pre o s l [a0, a1, a2, a3, a4, (.inr (3, [.int 0, .int 0, .int 0, .ref 41, .ref 42, .ref 43, .ref 44, .null, .null, .int 0, .null, .null, .null, .int 0, .null]) : rx_C), aI 16 (fun _ => 0), aI 16 (fun _ => 0), aJ 16 (fun _ => 0), aJ 16 (fun _ => 0), aI 16 (fun _ => 0)]))) := by
    rw [show (16 : Int32) = nI 16 from rfl, c_nI (by decide)]
    exact c_push _ rfl (by decide)
  have h10 : rx_p (some (sc, (pre o s l [a0, a1, a2, a3, a4, (.inr (3, [.int 0, .int 0, .int 0, .ref 41, .ref 42, .ref 43, .ref 44, .null, .null, .int 0, .null, .null, .null, .int 0, .null]) : rx_C), aI 16 (fun _ => 0), aI 16 (fun _ => 0), aJ 16 (fun _ => 0), aJ 16 (fun _ => 0), aI 16 (fun _ => 0)]))) 40 3 7 (.ref 45) = some (some (sc, (pre o s l [a0, a1, a2, a3, a4, (.inr (3, [.int 0, .int 0, .int 0, .ref 41, .ref 42, .ref 43, .ref 44, .ref 45, .null, .int 0, .null, .null, .null, .int 0, .null]) : rx_C), aI 16 (fun _ => 0), aI 16 (fun _ => 0), aJ 16 (fun _ => 0), aJ 16 (fun _ => 0), aI 16 (fun _ => 0)]))) := c_p (fs := [.int 0, .int 0, .int 0, .ref 41, .ref 42, .ref 43, .ref 44, .null, .null, .int 0, .null, .null, .null, .int 0, .null]) _ rfl (by simp)
  have h11 : rx_nJ (some (sc, (pre o s l [a0, a1, a2, a3, a4, (.inr (3, [.int 0, .int 0, .int 0, .ref 41, .ref 42, .ref 43, .ref 44, .ref 45, .null, .int 0, .null, .null, .null, .int 0, .null]) : rx_C), aI 16 (fun _ => 0), aI 16 (fun _ => 0), aJ 16 (fun _ => 0), aJ 16 (fun _ => 0), aI 16 (fun _ => 0)]))) (1024 : Int32) = some (46, some (sc, (pre o s l [a0, a1, a2, a3, a4, (.inr (3, [.int 0, .int 0, .int 0, .ref 41, .ref 42, .ref 43, .ref 44, .ref 45, .null, .int 0, .null, .null, .null, .int 0, .null]) : rx_C), aI 16 (fun _ => 0), aI 16 (fun _ => 0), aJ 16 (fun _ => 0), aJ 16 (fun _ => 0), aI 16 (fun _ => 0), aJ 1024 (fun _ => 0)]))) := by
    rw [show (1024 : Int32) = nI 1024 from rfl, c_nJ (by decide)]
    exact c_push _ rfl (by decide)
  have h12 : rx_p (some (sc, (pre o s l [a0, a1, a2, a3, a4, (.inr (3, [.int 0, .int 0, .int 0, .ref 41, .ref 42, .ref 43, .ref 44, .ref 45, .null, .int 0, .null, .null, .null, .int 0, .null]) : rx_C), aI 16 (fun _ => 0), aI 16 (fun _ => 0), aJ 16 (fun _ => 0), aJ 16 (fun _ => 0), aI 16 (fun _ => 0), aJ 1024 (fun _ => 0)]))) 40 3 8 (.ref 46) = some (some (sc, (pre o s l [a0, a1, a2, a3, a4, (.inr (3, [.int 0, .int 0, .int 0, .ref 41, .ref 42, .ref 43, .ref 44, .ref 45, .ref 46, .int 0, .null, .null, .null, .int 0, .null]) : rx_C), aI 16 (fun _ => 0), aI 16 (fun _ => 0), aJ 16 (fun _ => 0), aJ 16 (fun _ => 0), aI 16 (fun _ => 0), aJ 1024 (fun _ => 0)]))) := c_p (fs := [.int 0, .int 0, .int 0, .ref 41, .ref 42, .ref 43, .ref 44, .ref 45, .null, .int 0, .null, .null, .null, .int 0, .null]) _ rfl (by simp)
  have h13 : rx_p (some (sc, (pre o s l [a0, a1, a2, a3, a4, (.inr (3, [.int 0, .int 0, .int 0, .ref 41, .ref 42, .ref 43, .ref 44, .ref 45, .ref 46, .int 0, .null, .null, .null, .int 0, .null]) : rx_C), aI 16 (fun _ => 0), aI 16 (fun _ => 0), aJ 16 (fun _ => 0), aJ 16 (fun _ => 0), aI 16 (fun _ => 0), aJ 1024 (fun _ => 0)]))) 40 3 9 (.int (-2)) = some (some (sc, (pre o s l [a0, a1, a2, a3, a4, (.inr (3, [.int 0, .int 0, .int 0, .ref 41, .ref 42, .ref 43, .ref 44, .ref 45, .ref 46, .int (-2), .null, .null, .null, .int 0, .null]) : rx_C), aI 16 (fun _ => 0), aI 16 (fun _ => 0), aJ 16 (fun _ => 0), aJ 16 (fun _ => 0), aI 16 (fun _ => 0), aJ 1024 (fun _ => 0)]))) := c_p (fs := [.int 0, .int 0, .int 0, .ref 41, .ref 42, .ref 43, .ref 44, .ref 45, .ref 46, .int 0, .null, .null, .null, .int 0, .null]) _ rfl (by simp)
  have h14 : rx_nI (some (sc, (pre o s l [a0, a1, a2, a3, a4, (.inr (3, [.int 0, .int 0, .int 0, .ref 41, .ref 42, .ref 43, .ref 44, .ref 45, .ref 46, .int (-2), .null, .null, .null, .int 0, .null]) : rx_C), aI 16 (fun _ => 0), aI 16 (fun _ => 0), aJ 16 (fun _ => 0), aJ 16 (fun _ => 0), aI 16 (fun _ => 0), aJ 1024 (fun _ => 0)]))) (6 : Int32) = some (47, some (sc, (pre o s l [a0, a1, a2, a3, a4, (.inr (3, [.int 0, .int 0, .int 0, .ref 41, .ref 42, .ref 43, .ref 44, .ref 45, .ref 46, .int (-2), .null, .null, .null, .int 0, .null]) : rx_C), aI 16 (fun _ => 0), aI 16 (fun _ => 0), aJ 16 (fun _ => 0), aJ 16 (fun _ => 0), aI 16 (fun _ => 0), aJ 1024 (fun _ => 0), aI 6 (fun _ => 0)]))) := by
    rw [show (6 : Int32) = nI 6 from rfl, c_nI (by decide)]
    exact c_push _ rfl (by decide)
  have h15 : rx_p (some (sc, (pre o s l [a0, a1, a2, a3, a4, (.inr (3, [.int 0, .int 0, .int 0, .ref 41, .ref 42, .ref 43, .ref 44, .ref 45, .ref 46, .int (-2), .null, .null, .null, .int 0, .null]) : rx_C), aI 16 (fun _ => 0), aI 16 (fun _ => 0), aJ 16 (fun _ => 0), aJ 16 (fun _ => 0), aI 16 (fun _ => 0), aJ 1024 (fun _ => 0), aI 6 (fun _ => 0)]))) 40 3 10 (.ref 47) = some (some (sc, (pre o s l [a0, a1, a2, a3, a4, (.inr (3, [.int 0, .int 0, .int 0, .ref 41, .ref 42, .ref 43, .ref 44, .ref 45, .ref 46, .int (-2), .ref 47, .null, .null, .int 0, .null]) : rx_C), aI 16 (fun _ => 0), aI 16 (fun _ => 0), aJ 16 (fun _ => 0), aJ 16 (fun _ => 0), aI 16 (fun _ => 0), aJ 1024 (fun _ => 0), aI 6 (fun _ => 0)]))) := c_p (fs := [.int 0, .int 0, .int 0, .ref 41, .ref 42, .ref 43, .ref 44, .ref 45, .ref 46, .int (-2), .null, .null, .null, .int 0, .null]) _ rfl (by simp)
  have h16 : rx_nI (some (sc, (pre o s l [a0, a1, a2, a3, a4, (.inr (3, [.int 0, .int 0, .int 0, .ref 41, .ref 42, .ref 43, .ref 44, .ref 45, .ref 46, .int (-2), .ref 47, .null, .null, .int 0, .null]) : rx_C), aI 16 (fun _ => 0), aI 16 (fun _ => 0), aJ 16 (fun _ => 0), aJ 16 (fun _ => 0), aI 16 (fun _ => 0), aJ 1024 (fun _ => 0), aI 6 (fun _ => 0)]))) (5 : Int32) = some (48, some (sc, (pre o s l [a0, a1, a2, a3, a4, (.inr (3, [.int 0, .int 0, .int 0, .ref 41, .ref 42, .ref 43, .ref 44, .ref 45, .ref 46, .int (-2), .ref 47, .null, .null, .int 0, .null]) : rx_C), aI 16 (fun _ => 0), aI 16 (fun _ => 0), aJ 16 (fun _ => 0), aJ 16 (fun _ => 0), aI 16 (fun _ => 0), aJ 1024 (fun _ => 0), aI 6 (fun _ => 0), aI 5 (fun _ => 0)]))) := by
    rw [show (5 : Int32) = nI 5 from rfl, c_nI (by decide)]
    exact c_push _ rfl (by decide)
  have h17 : rx_p (some (sc, (pre o s l [a0, a1, a2, a3, a4, (.inr (3, [.int 0, .int 0, .int 0, .ref 41, .ref 42, .ref 43, .ref 44, .ref 45, .ref 46, .int (-2), .ref 47, .null, .null, .int 0, .null]) : rx_C), aI 16 (fun _ => 0), aI 16 (fun _ => 0), aJ 16 (fun _ => 0), aJ 16 (fun _ => 0), aI 16 (fun _ => 0), aJ 1024 (fun _ => 0), aI 6 (fun _ => 0), aI 5 (fun _ => 0)]))) 40 3 11 (.ref 48) = some (some (sc, (pre o s l [a0, a1, a2, a3, a4, (.inr (3, [.int 0, .int 0, .int 0, .ref 41, .ref 42, .ref 43, .ref 44, .ref 45, .ref 46, .int (-2), .ref 47, .ref 48, .null, .int 0, .null]) : rx_C), aI 16 (fun _ => 0), aI 16 (fun _ => 0), aJ 16 (fun _ => 0), aJ 16 (fun _ => 0), aI 16 (fun _ => 0), aJ 1024 (fun _ => 0), aI 6 (fun _ => 0), aI 5 (fun _ => 0)]))) := c_p (fs := [.int 0, .int 0, .int 0, .ref 41, .ref 42, .ref 43, .ref 44, .ref 45, .ref 46, .int (-2), .ref 47, .null, .null, .int 0, .null]) _ rfl (by simp)
  have h18 : rx_nI (some (sc, (pre o s l [a0, a1, a2, a3, a4, (.inr (3, [.int 0, .int 0, .int 0, .ref 41, .ref 42, .ref 43, .ref 44, .ref 45, .ref 46, .int (-2), .ref 47, .ref 48, .null, .int 0, .null]) : rx_C), aI 16 (fun _ => 0), aI 16 (fun _ => 0), aJ 16 (fun _ => 0), aJ 16 (fun _ => 0), aI 16 (fun _ => 0), aJ 1024 (fun _ => 0), aI 6 (fun _ => 0), aI 5 (fun _ => 0)]))) (5 : Int32) = some (49, some (sc, (pre o s l [a0, a1, a2, a3, a4, (.inr (3, [.int 0, .int 0, .int 0, .ref 41, .ref 42, .ref 43, .ref 44, .ref 45, .ref 46, .int (-2), .ref 47, .ref 48, .null, .int 0, .null]) : rx_C), aI 16 (fun _ => 0), aI 16 (fun _ => 0), aJ 16 (fun _ => 0), aJ 16 (fun _ => 0), aI 16 (fun _ => 0), aJ 1024 (fun _ => 0), aI 6 (fun _ => 0), aI 5 (fun _ => 0), aI 5 (fun _ => 0)]))) := by
    rw [show (5 : Int32) = nI 5 from rfl, c_nI (by decide)]
    exact c_push _ rfl (by decide)
  have h19 : rx_p (some (sc, (pre o s l [a0, a1, a2, a3, a4, (.inr (3, [.int 0, .int 0, .int 0, .ref 41, .ref 42, .ref 43, .ref 44, .ref 45, .ref 46, .int (-2), .ref 47, .ref 48, .null, .int 0, .null]) : rx_C), aI 16 (fun _ => 0), aI 16 (fun _ => 0), aJ 16 (fun _ => 0), aJ 16 (fun _ => 0), aI 16 (fun _ => 0), aJ 1024 (fun _ => 0), aI 6 (fun _ => 0), aI 5 (fun _ => 0), aI 5 (fun _ => 0)]))) 40 3 12 (.ref 49) = some (some (sc, (pre o s l [a0, a1, a2, a3, a4, (.inr (3, [.int 0, .int 0, .int 0, .ref 41, .ref 42, .ref 43, .ref 44, .ref 45, .ref 46, .int (-2), .ref 47, .ref 48, .ref 49, .int 0, .null]) : rx_C), aI 16 (fun _ => 0), aI 16 (fun _ => 0), aJ 16 (fun _ => 0), aJ 16 (fun _ => 0), aI 16 (fun _ => 0), aJ 1024 (fun _ => 0), aI 6 (fun _ => 0), aI 5 (fun _ => 0), aI 5 (fun _ => 0)]))) := c_p (fs := [.int 0, .int 0, .int 0, .ref 41, .ref 42, .ref 43, .ref 44, .ref 45, .ref 46, .int (-2), .ref 47, .ref 48, .null, .int 0, .null]) _ rfl (by simp)
  have h20 : rx_nJ (some (sc, (pre o s l [a0, a1, a2, a3, a4, (.inr (3, [.int 0, .int 0, .int 0, .ref 41, .ref 42, .ref 43, .ref 44, .ref 45, .ref 46, .int (-2), .ref 47, .ref 48, .ref 49, .int 0, .null]) : rx_C), aI 16 (fun _ => 0), aI 16 (fun _ => 0), aJ 16 (fun _ => 0), aJ 16 (fun _ => 0), aI 16 (fun _ => 0), aJ 1024 (fun _ => 0), aI 6 (fun _ => 0), aI 5 (fun _ => 0), aI 5 (fun _ => 0)]))) (64 : Int32) = some (50, some (sc, (pre o s l [a0, a1, a2, a3, a4, (.inr (3, [.int 0, .int 0, .int 0, .ref 41, .ref 42, .ref 43, .ref 44, .ref 45, .ref 46, .int (-2), .ref 47, .ref 48, .ref 49, .int 0, .null]) : rx_C), aI 16 (fun _ => 0), aI 16 (fun _ => 0), aJ 16 (fun _ => 0), aJ 16 (fun _ => 0), aI 16 (fun _ => 0), aJ 1024 (fun _ => 0), aI 6 (fun _ => 0), aI 5 (fun _ => 0), aI 5 (fun _ => 0), aJ 64 (fun _ => 0)]))) := by
    rw [show (64 : Int32) = nI 64 from rfl, c_nJ (by decide)]
    exact c_push _ rfl (by decide)
  have h21 : rx_p (some (sc, (pre o s l [a0, a1, a2, a3, a4, (.inr (3, [.int 0, .int 0, .int 0, .ref 41, .ref 42, .ref 43, .ref 44, .ref 45, .ref 46, .int (-2), .ref 47, .ref 48, .ref 49, .int 0, .null]) : rx_C), aI 16 (fun _ => 0), aI 16 (fun _ => 0), aJ 16 (fun _ => 0), aJ 16 (fun _ => 0), aI 16 (fun _ => 0), aJ 1024 (fun _ => 0), aI 6 (fun _ => 0), aI 5 (fun _ => 0), aI 5 (fun _ => 0), aJ 64 (fun _ => 0)]))) 40 3 14 (.ref 50) = some (some (sc, (pre o s l [a0, a1, a2, a3, a4, (.inr (3, [.int 0, .int 0, .int 0, .ref 41, .ref 42, .ref 43, .ref 44, .ref 45, .ref 46, .int (-2), .ref 47, .ref 48, .ref 49, .int 0, .ref 50]) : rx_C), aI 16 (fun _ => 0), aI 16 (fun _ => 0), aJ 16 (fun _ => 0), aJ 16 (fun _ => 0), aI 16 (fun _ => 0), aJ 1024 (fun _ => 0), aI 6 (fun _ => 0), aI 5 (fun _ => 0), aI 5 (fun _ => 0), aJ 64 (fun _ => 0)]))) := c_p (fs := [.int 0, .int 0, .int 0, .ref 41, .ref 42, .ref 43, .ref 44, .ref 45, .ref 46, .int (-2), .ref 47, .ref 48, .ref 49, .int 0, .null]) _ rfl (by simp)
  have h22 : rx_p (some (sc, (pre o s l [a0, a1, a2, a3, a4, (.inr (3, [.int 0, .int 0, .int 0, .ref 41, .ref 42, .ref 43, .ref 44, .ref 45, .ref 46, .int (-2), .ref 47, .ref 48, .ref 49, .int 0, .ref 50]) : rx_C), aI 16 (fun _ => 0), aI 16 (fun _ => 0), aJ 16 (fun _ => 0), aJ 16 (fun _ => 0), aI 16 (fun _ => 0), aJ 1024 (fun _ => 0), aI 6 (fun _ => 0), aI 5 (fun _ => 0), aI 5 (fun _ => 0), aJ 64 (fun _ => 0)]))) 40 3 1 (.int (nI n)) = some (some (sc, (pre o s l [a0, a1, a2, a3, a4, (.inr (3, [.int 0, .int (nI n), .int 0, .ref 41, .ref 42, .ref 43, .ref 44, .ref 45, .ref 46, .int (-2), .ref 47, .ref 48, .ref 49, .int 0, .ref 50]) : rx_C), aI 16 (fun _ => 0), aI 16 (fun _ => 0), aJ 16 (fun _ => 0), aJ 16 (fun _ => 0), aI 16 (fun _ => 0), aJ 1024 (fun _ => 0), aI 6 (fun _ => 0), aI 5 (fun _ => 0), aI 5 (fun _ => 0), aJ 64 (fun _ => 0)]))) := c_p (fs := [.int 0, .int 0, .int 0, .ref 41, .ref 42, .ref 43, .ref 44, .ref 45, .ref 46, .int (-2), .ref 47, .ref 48, .ref 49, .int 0, .ref 50]) _ rfl (by simp)
  have g1 : rx_gI (some (sc, (pre o s l [a0, a1, a2, a3, a4, (.inr (3, [.int 0, .int (nI n), .int 0, .ref 41, .ref 42, .ref 43, .ref 44, .ref 45, .ref 46, .int (-2), .ref 47, .ref 48, .ref 49, .int 0, .ref 50]) : rx_C), aI 16 (fun _ => 0), aI 16 (fun _ => 0), aJ 16 (fun _ => 0), aJ 16 (fun _ => 0), aI 16 (fun _ => 0), aJ 1024 (fun _ => 0), aI 6 (fun _ => 0), aI 5 (fun _ => 0), aI 5 (fun _ => 0), aJ 64 (fun _ => 0)]))) 40 3 1 = some (nI n) := c_gI (fs := [.int 0, .int (nI n), .int 0, .ref 41, .ref 42, .ref 43, .ref 44, .ref 45, .ref 46, .int (-2), .ref 47, .ref 48, .ref 49, .int 0, .ref 50]) rfl rfl
  have g2 : rx_p (some (sc, (pre o s l [a0, a1, a2, a3, a4, (.inr (3, [.int 0, .int (nI n), .int 0, .ref 41, .ref 42, .ref 43, .ref 44, .ref 45, .ref 46, .int (-2), .ref 47, .ref 48, .ref 49, .int 0, .ref 50]) : rx_C), aI 16 (fun _ => 0), aI 16 (fun _ => 0), aJ 16 (fun _ => 0), aJ 16 (fun _ => 0), aI 16 (fun _ => 0), aJ 1024 (fun _ => 0), aI 6 (fun _ => 0), aI 5 (fun _ => 0), aI 5 (fun _ => 0), aJ 64 (fun _ => 0)]))) 40 3 2 (.int (nI (2 ^ n))) = some (some (sc, (pre o s l [a0, a1, a2, a3, a4, (.inr (3, [.int 0, .int (nI n), .int (nI (2 ^ n)), .ref 41, .ref 42, .ref 43, .ref 44, .ref 45, .ref 46, .int (-2), .ref 47, .ref 48, .ref 49, .int 0, .ref 50]) : rx_C), aI 16 (fun _ => 0), aI 16 (fun _ => 0), aJ 16 (fun _ => 0), aJ 16 (fun _ => 0), aI 16 (fun _ => 0), aJ 1024 (fun _ => 0), aI 6 (fun _ => 0), aI 5 (fun _ => 0), aI 5 (fun _ => 0), aJ 64 (fun _ => 0)]))) := c_p (fs := [.int 0, .int (nI n), .int 0, .ref 41, .ref 42, .ref 43, .ref 44, .ref 45, .ref 46, .int (-2), .ref 47, .ref 48, .ref 49, .int 0, .ref 50]) _ rfl (by simp)
  unfold f_X7_init f_X7_init_0
  show (rx_nI (some (sc, (pre o s l [a0, a1, a2, a3, a4, (.inr (3, [.int 0, .int 0, .int 0, .null, .null, .null, .null, .null, .null, .int 0, .null, .null, .null, .int 0, .null]) : rx_C)]))) 16).bind _ = _
  rw [hx, h1, Option.bind_some, h2, Option.bind_some, h3, Option.bind_some, h4, Option.bind_some, h5, Option.bind_some, h6, Option.bind_some, h7, Option.bind_some, h8, Option.bind_some, h9, Option.bind_some, h10, Option.bind_some, h11, Option.bind_some, h12, Option.bind_some, h13, Option.bind_some, h14, Option.bind_some, h15, Option.bind_some, h16, Option.bind_some, h17, Option.bind_some, h18, Option.bind_some, h19, Option.bind_some, h20, Option.bind_some, h21, Option.bind_some, h22, Option.bind_some, g1, Option.bind_some, sh8 n (by omega), g2, Option.bind_some]
  exact i114 F o s l a0 a1 a2 a3 a4 n 16 0 F.1 (by omega) (by omega)
end B96
section B97
variable {sc : Nat × (Nat → Int32)}
theorem i6 {F : Nat × Nat} (hF : 100000 ≤ F.1) {n : Nat} (hn : n ≤ 6) {x : Int32} {r : Int32} (h1 : f_J9_floorMod_7cf53 F x 4 = some r) (h2 : (3 : Int32) + r = nI n) : f_X6_init F 0 x (some (sc, [.inr (2, rx_df 2)])) = some (some (sc, (pre (OO n (.ref 1) (.ref 34) (.ref 35) (-2)) (aP 16 (shf 16)) (aJ 7 (lyS (2 ^ n))) [(.inr (1, [.ref 36, .ref 37, .int 0, .ref 38, .ref 39]) : rx_C), aI 5 (fun _ => 0), aI 5 (fun _ => 0), aI 64 (fun _ => 0), aJ 49 (fun _ => 0)]))) := by
  have ha := all_le hn
  have e1 : rx_p (some (sc, [.inr (2, rx_df 2)])) 0 2 0 (.int (nI n)) = some (some (sc, [.inr (2, [.int (nI n), .int 0, .null, .null, .null, .int 0])])) := c_p (fs := [.int 0, .int 0, .null, .null, .null, .int 0]) _ rfl (by simp)
  have e2 : rx_gI (some (sc, [(.inr (2, [.int (nI n), .int 0, .null, .null, .null, .int 0]) : rx_C)])) 0 2 0 = some (nI n) := c_gI (fs := [.int (nI n), .int 0, .null, .null, .null, .int 0]) rfl rfl
  have e3 : rx_p (some (sc, [(.inr (2, [.int (nI n), .int 0, .null, .null, .null, .int 0]) : rx_C)])) 0 2 1 (.int (nI (2 ^ n))) = some (some (sc, [OO n .null .null .null 0])) := c_p (fs := [.int (nI n), .int 0, .null, .null, .null, .int 0]) _ rfl (by simp)
  have e4 : rx_nR (some (sc, [OO n .null .null .null 0])) 16 = some (1, some (sc, [OO n .null .null .null 0, aP 16 (fun _ => none)])) := by
    rw [show (16 : Int32) = nI 16 from rfl, c_nR (by decide)]
    exact c_push _ rfl (by decide)
  have e5 : rx_p (some (sc, [OO n .null .null .null 0, aP 16 (fun _ => none)])) 0 2 2 (.ref 1) = some (some (sc, [OO n (.ref 1) .null .null 0, aP 16 (fun _ => none)])) := c_p (fs := [.int (nI n), .int (nI (2 ^ n)), .null, .null, .null, .int 0]) _ rfl (by simp)
  have es : (fun _ => none : Nat → Option Nat) = shf 0 := by funext p; unfold shf; rw [if_neg (by omega)]
  obtain ⟨f, hf⟩ : ∃ g, F.1 - 16 = g + 1 := ⟨F.1 - 17, by omega⟩
  have e6 : rx_nJ (some (sc, OO n (.ref 1) .null .null 0 :: aP 16 (shf 16) :: pcs 16)) 7 = some (34, some (sc, pre (OO n (.ref 1) .null .null 0) (aP 16 (shf 16)) (aJ 7 (lyS 0)) [])) := by
    rw [show (7 : Int32) = nI 7 from rfl, c_nJ (by decide)]
    exact c_push _ rfl (by decide)
  have e7 : rx_p (some (sc, pre (OO n (.ref 1) .null .null 0) (aP 16 (shf 16)) (aJ 7 (lyS 0)) [])) 0 2 3 (.ref 34) = some (some (sc, pre (OO n (.ref 1) (.ref 34) .null 0) (aP 16 (shf 16)) (aJ 7 (lyS 0)) [])) := c_p (fs := [.int (nI n), .int (nI (2 ^ n)), .ref 1, .null, .null, .int 0]) _ rfl (by simp)
  obtain ⟨f2, hf2⟩ : ∃ g, F.1 - 2 ^ n = g + 1 := ⟨F.1 - 2 ^ n - 1, by omega⟩
  have e8 : rx_nO (some (sc, (pre (OO n (.ref 1) (.ref 34) .null 0) (aP 16 (shf 16)) (aJ 7 (lyS (2 ^ n))) []))) 1 = some (35, some (sc, (pre (OO n (.ref 1) (.ref 34) .null 0) (aP 16 (shf 16)) (aJ 7 (lyS (2 ^ n))) [.inr (1, rx_df 1)]))) := by
    rw [c_nO (by decide)]
    exact c_push _ rfl (by decide)
  have e9 : rx_gI (some (sc, (pre (OO n (.ref 1) (.ref 34) .null 0) (aP 16 (shf 16)) (aJ 7 (lyS (2 ^ n))) []))) 0 2 1 = some (nI (2 ^ n)) := c_gI (fs := [.int (nI n), .int (nI (2 ^ n)), .ref 1, .ref 34, .null, .int 0]) rfl rfl
  have e10 : rx_p (some (sc, (pre (OO n (.ref 1) (.ref 34) .null 0) (aP 16 (shf 16)) (aJ 7 (lyS (2 ^ n))) [(.inr (1, [.ref 36, .ref 37, .int 0, .ref 38, .ref 39]) : rx_C), aI 5 (fun _ => 0), aI 5 (fun _ => 0), aI 64 (fun _ => 0), aJ 49 (fun _ => 0)]))) 0 2 4 (.ref 35) = some (some (sc, (pre (OO n (.ref 1) (.ref 34) (.ref 35) 0) (aP 16 (shf 16)) (aJ 7 (lyS (2 ^ n))) [(.inr (1, [.ref 36, .ref 37, .int 0, .ref 38, .ref 39]) : rx_C), aI 5 (fun _ => 0), aI 5 (fun _ => 0), aI 64 (fun _ => 0), aJ 49 (fun _ => 0)]))) := c_p (fs := [.int (nI n), .int (nI (2 ^ n)), .ref 1, .ref 34, .null, .int 0]) _ rfl (by simp)
  have e11 : rx_p (some (sc, (pre (OO n (.ref 1) (.ref 34) (.ref 35) 0) (aP 16 (shf 16)) (aJ 7 (lyS (2 ^ n))) [(.inr (1, [.ref 36, .ref 37, .int 0, .ref 38, .ref 39]) : rx_C), aI 5 (fun _ => 0), aI 5 (fun _ => 0), aI 64 (fun _ => 0), aJ 49 (fun _ => 0)]))) 0 2 5 (.int (-2)) = some (some (sc, (pre (OO n (.ref 1) (.ref 34) (.ref 35) (-2)) (aP 16 (shf 16)) (aJ 7 (lyS (2 ^ n))) [(.inr (1, [.ref 36, .ref 37, .int 0, .ref 38, .ref 39]) : rx_C), aI 5 (fun _ => 0), aI 5 (fun _ => 0), aI 64 (fun _ => 0), aJ 49 (fun _ => 0)]))) := c_p (fs := [.int (nI n), .int (nI (2 ^ n)), .ref 1, .ref 34, .ref 35, .int 0]) _ rfl (by simp)
  have i71' : f_X6_init_71 F F.1 0 (0 : Int32) (some (sc, pre (OO n (.ref 1) (.ref 34) .null 0) (aP 16 (shf 16)) (aJ 7 (lyS 0)) [])) = f_X6_init_71 F (F.1 - 2 ^ n) 0 (nI (2 ^ n)) (some (sc, pre (OO n (.ref 1) (.ref 34) .null 0) (aP 16 (shf 16)) (aJ 7 (lyS (2 ^ n))) [])) := i71 hn (aP 16 (shf 16)) (2 ^ n) 0 F.1 (by omega) (by omega)
  unfold f_X6_init f_X6_init_0
  rw [h1, Option.bind_some, h2, e1, Option.bind_some, e2, Option.bind_some, sh8 n (by omega), e3, Option.bind_some, e4, Option.bind_some, e5, Option.bind_some, es]
  rw [show f_X6_init_36 F F.1 0 (0 : Int32) (some (sc, [OO n (.ref 1) .null .null 0, aP 16 (shf 0)])) = f_X6_init_36 F F.1 0 (nI 0) (some (sc, OO n (.ref 1) .null .null 0 :: aP 16 (shf 0) :: pcs 0)) from rfl, i36 F n 16 0 F.1 (by omega) (by omega), hf, f_X6_init_36, if_neg (by decide), e6, Option.bind_some, e7, Option.bind_some, i71', hf2, f_X6_init_71, e9, Option.bind_some, if_neg (nI_nlt (Nat.le_refl _) (by omega)), e8, Option.bind_some, i5 F, Option.bind_some, e10, Option.bind_some, e11, Option.bind_some]
end B97
theorem mp52 (f : Nat → rx_C) : (List.range 52).map f = [f 0, f 1, f 2, f 3, f 4, f 5, f 6, f 7, f 8, f 9, f 10, f 11, f 12, f 13, f 14, f 15, f 16, f 17, f 18, f 19, f 20, f 21, f 22, f 23, f 24, f 25, f 26, f 27, f 28, f 29, f 30, f 31, f 32, f 33, f 34, f 35, f 36, f 37, f 38, f 39, f 40, f 41, f 42, f 43, f 44, f 45, f 46, f 47, f 48, f 49, f 50, f 51] := rfl
theorem hp_start {sc : Nat × (Nat → Int32)} (n : Nat) : hp sc (cx n (-2) (fun _ => (-2, 0, 0, 0, 0, fun _ => 0)) (lyS (2 ^ n)) (fun _ => 0) (fun _ => 0) 0 (fun _ => 0) (fun _ => 0)) (cm n 0 (-2) 0 (kdS 16) (fun _ => 0) (fun _ => 0) (fun _ => 0) (fun _ => 0) (fun _ => 0) (fun _ => 0) (fun _ => 0) (fun _ => 0) (fun _ => 0)) (fun _ => 0) [] = some (sc, (pre (OO n (.ref 1) (.ref 34) (.ref 35) (-2)) (aP 16 (shf 16)) (aJ 7 (lyS (2 ^ n))) [(.inr (1, [.ref 36, .ref 37, .int 0, .ref 38, .ref 39]) : rx_C), aI 5 (fun _ => 0), aI 5 (fun _ => 0), aI 64 (fun _ => 0), aJ 49 (fun _ => 0), (.inr (3, [.int 0, .int (nI n), .int (nI (2 ^ n)), .ref 41, .ref 42, .ref 43, .ref 44, .ref 45, .ref 46, .int (-2), .ref 47, .ref 48, .ref 49, .int 0, .ref 50]) : rx_C), aI 16 (kdS 16), aI 16 (fun _ => 0), aJ 16 (fun _ => 0), aJ 16 (fun _ => 0), aI 16 (fun _ => 0), aJ 1024 (fun _ => 0), aI 6 (fun _ => 0), aI 5 (fun _ => 0), aI 5 (fun _ => 0), aJ 64 (fun _ => 0)]) ++ [aJ 1 (fun _ => 0)]) := by
  unfold hp
  rw [mp52, List.append_nil]
  rfl
theorem rel_start {n : Nat} (h3 : 3 ≤ n) (h6 : n ≤ 6) : relR n (-2) (fun _ => (-2, 0, 0, 0, 0, fun _ => 0)) (lyS (2 ^ n)) (fun _ => 0) 0 (fun _ => 0) (-2) 0 (kdS 16) (fun _ => 0) (fun _ => 0) (fun _ => 0) (fun _ => 0) (fun _ => 0) (fun _ => 0) :=
  ⟨⟨h3, h6⟩, rfl, fun p hp => ⟨(kdS_is hp).symm, Or.inl (kdS_is hp)⟩, fun k _ => lyS_is k (2 ^ n), ⟨0, by omega, rfl, rfl, fun i hi => by omega⟩, fun _ _ _ _ _ => Or.inl rfl⟩
/-! how many things -/
theorem r_of {x : Int32} {z : Int} (h : x.toInt = z) {y : Int32} (hy : y.toInt = z) : x = y := Int32.toInt_inj.mp (h.trans hy.symm)
theorem things (F : Nat × Nat) (x : Int32) : ∃ (r : Int32) (n : Nat), 3 ≤ n ∧ n ≤ 6 ∧ f_J9_floorMod_7cf53 F x 4 = some r ∧ (3 : Int32) + r = nI n ∧ (3 : Int32) + (((x - x / (4 : Int32) * (4 : Int32)) + (4 : Int32)) - ((x - x / (4 : Int32) * (4 : Int32)) + (4 : Int32)) / (4 : Int32) * (4 : Int32)) = nI n := by
  have hr := rem_toInt x 4
  rw [show (4 : Int32).toInt = 4 by decide] at hr
  have hb := tmod_bounds (a := x.toInt) (M := 4) (by decide)
  have hs : x.toInt < 0 → x.toInt.tmod 4 ≤ 0 := fun h => by
    have := Int.neg_tmod (a := -x.toInt) (b := 4)
    rw [Int.neg_neg] at this
    rw [this, Int.tmod_eq_emod_of_nonneg (by omega)]
    omega
  have hs2 : 0 ≤ x.toInt → 0 ≤ x.toInt.tmod 4 := fun h => by
    rw [Int.tmod_eq_emod_of_nonneg h]; omega
  have hxor : (x ^^^ 4 < 0) ↔ x.toInt < 0 := by
    rw [Int32.lt_iff_toInt_lt, show (0 : Int32).toInt = 0 from rfl]
    have a : ∀ y : Int32, y.toInt < 0 ↔ y.toBitVec.msb = true := fun y => by
      show y.toBitVec.toInt < 0 ↔ _
      exact BitVec.msb_eq_toInt ▸ (by simp)
    rw [a, a, Int32.toBitVec_xor, BitVec.msb_xor, show (4 : Int32).toBitVec.msb = false by decide, Bool.xor_false]
  generalize hq : x - x / (4 : Int32) * (4 : Int32) = q at *
  have q7 : q.toInt = -3 ∨ q.toInt = -2 ∨ q.toInt = -1 ∨ q.toInt = 0 ∨ q.toInt = 1 ∨ q.toInt = 2 ∨ q.toInt = 3 := by omega
  unfold f_J9_floorMod_7cf53 f_J9_floorMod_7cf53_0
  rw [if_neg (by decide), hq]
  by_cases hx : x.toInt < 0
  · rw [if_pos (hxor.mpr hx)]
    have := hs hx
    rcases q7 with e | e | e | e | e | e | e
    · have e' : q = -3 := r_of e (by decide)
      subst e'; exact ⟨1, 4, by decide, by decide, by decide, by decide, by decide⟩
    · have e' : q = -2 := r_of e (by decide)
      subst e'; exact ⟨2, 5, by decide, by decide, by decide, by decide, by decide⟩
    · have e' : q = -1 := r_of e (by decide)
      subst e'; exact ⟨3, 6, by decide, by decide, by decide, by decide, by decide⟩
    · have e' : q = 0 := r_of e (by decide)
      subst e'; exact ⟨0, 3, by decide, by decide, by decide, by decide, by decide⟩
    · omega
    · omega
    · omega
  · rw [if_neg (fun h => hx (hxor.mp h))]
    have := hs2 (by omega)
    rcases q7 with e | e | e | e | e | e | e
    · omega
    · omega
    · omega
    · have e' : q = 0 := r_of e (by decide)
      subst e'; exact ⟨0, 3, by decide, by decide, rfl, by decide, by decide⟩
    · have e' : q = 1 := r_of e (by decide)
      subst e'; exact ⟨1, 4, by decide, by decide, rfl, by decide, by decide⟩
    · have e' : q = 2 := r_of e (by decide)
      subst e'; exact ⟨2, 5, by decide, by decide, rfl, by decide, by decide⟩
    · have e' : q = 3 := r_of e (by decide)
      subst e'; exact ⟨3, 6, by decide, by decide, rfl, by decide, by decide⟩
theorem law_start {F : Nat × Nat} {sc : Nat × (Nat → Int32)} (hF : 100000 ≤ F.1) (hF2 : 100 ≤ F.2) (hL : sc.1 ≤ 3073) : res sc (f_L_law F 1000000 (some (sc, []))) := by
  have cellE : ∀ l : List rx_C, f_L_cell F 1000000 0 (some (sc, l)) = some (if 0 < sc.1 then sc.2 0 else 0, some (sc, l)) := by
    intro l
    unfold f_L_cell f_L_cell_0
    rw [show rx_len (some (sc, l)) 1000000 = some (nI sc.1) from rfl, Option.bind_some]
    by_cases h : 0 < sc.1
    · rw [if_pos (show (0 : Int32) < nI sc.1 from nI_lt (a := 0) h (by omega)), if_pos h]
      have e : rx_aI (some (sc, l)) 1000000 0 = some (sc.2 0) := by
        show rx_aI (some (sc, l)) 1000000 (nI 0) = _
        unfold rx_aI
        rw [if_neg (by decide)]
        simp only
        rw [if_pos trivial, if_neg (nI_in h (by omega)), nI_clamp (by omega)]
      rw [e, Option.bind_some]
    · rw [if_neg (show ¬ (0 : Int32) < nI sc.1 by rw [show sc.1 = 0 by omega]; decide), if_neg h]
  obtain ⟨r, n, h3, h6, t1, t2, t3⟩ := things F (if 0 < sc.1 then sc.2 0 else 0)
  have e1 : rx_nO (some (sc, [])) 2 = some (0, some (sc, [.inr (2, rx_df 2)])) := by
    rw [c_nO (by decide)]; exact c_push _ rfl (by decide)
  have e2 : rx_nO (some (sc, (pre (OO n (.ref 1) (.ref 34) (.ref 35) (-2)) (aP 16 (shf 16)) (aJ 7 (lyS (2 ^ n))) [(.inr (1, [.ref 36, .ref 37, .int 0, .ref 38, .ref 39]) : rx_C), aI 5 (fun _ => 0), aI 5 (fun _ => 0), aI 64 (fun _ => 0), aJ 49 (fun _ => 0)]))) 3 = some (40, some (sc, (pre (OO n (.ref 1) (.ref 34) (.ref 35) (-2)) (aP 16 (shf 16)) (aJ 7 (lyS (2 ^ n))) [(.inr (1, [.ref 36, .ref 37, .int 0, .ref 38, .ref 39]) : rx_C), aI 5 (fun _ => 0), aI 5 (fun _ => 0), aI 64 (fun _ => 0), aJ 49 (fun _ => 0), .inr (3, rx_df 3)]))) := by
    rw [c_nO (by decide)]; exact c_push _ rfl (by decide)
  have e3 : rx_nJ (some (sc, (pre (OO n (.ref 1) (.ref 34) (.ref 35) (-2)) (aP 16 (shf 16)) (aJ 7 (lyS (2 ^ n))) [(.inr (1, [.ref 36, .ref 37, .int 0, .ref 38, .ref 39]) : rx_C), aI 5 (fun _ => 0), aI 5 (fun _ => 0), aI 64 (fun _ => 0), aJ 49 (fun _ => 0), (.inr (3, [.int 0, .int (nI n), .int (nI (2 ^ n)), .ref 41, .ref 42, .ref 43, .ref 44, .ref 45, .ref 46, .int (-2), .ref 47, .ref 48, .ref 49, .int 0, .ref 50]) : rx_C), aI 16 (kdS 16), aI 16 (fun _ => 0), aJ 16 (fun _ => 0), aJ 16 (fun _ => 0), aI 16 (fun _ => 0), aJ 1024 (fun _ => 0), aI 6 (fun _ => 0), aI 5 (fun _ => 0), aI 5 (fun _ => 0), aJ 64 (fun _ => 0)]))) 1 = some (51, some (sc, (pre (OO n (.ref 1) (.ref 34) (.ref 35) (-2)) (aP 16 (shf 16)) (aJ 7 (lyS (2 ^ n))) [(.inr (1, [.ref 36, .ref 37, .int 0, .ref 38, .ref 39]) : rx_C), aI 5 (fun _ => 0), aI 5 (fun _ => 0), aI 64 (fun _ => 0), aJ 49 (fun _ => 0), (.inr (3, [.int 0, .int (nI n), .int (nI (2 ^ n)), .ref 41, .ref 42, .ref 43, .ref 44, .ref 45, .ref 46, .int (-2), .ref 47, .ref 48, .ref 49, .int 0, .ref 50]) : rx_C), aI 16 (kdS 16), aI 16 (fun _ => 0), aJ 16 (fun _ => 0), aJ 16 (fun _ => 0), aI 16 (fun _ => 0), aJ 1024 (fun _ => 0), aI 6 (fun _ => 0), aI 5 (fun _ => 0), aI 5 (fun _ => 0), aJ 64 (fun _ => 0)]) ++ [aJ 1 (fun _ => 0)])) := by
    rw [show (1 : Int32) = nI 1 from rfl, c_nJ (by decide)]; exact c_push _ rfl (by decide)
  unfold f_L_law f_L_law_0
  rw [e1, Option.bind_some, cellE, Option.bind_some, i6 hF h6 t1 t2, Option.bind_some, e2, Option.bind_some, cellE, Option.bind_some, i7 hF _ _ _ _ _ _ _ _ h6 t3, Option.bind_some, e3, Option.bind_some, ← hp_start n]
  exact law_loop hF hF2 hL F.1 1 0 _ (by omega) (by omega) (by omega) (by omega) ⟨n, -2, fun _ => (-2, 0, 0, 0, 0, fun _ => 0), lyS (2 ^ n), fun _ => 0, fun _ => 0, 0, fun _ => 0, fun _ => 0, 0, -2, 0, kdS 16, fun _ => 0, fun _ => 0, fun _ => 0, fun _ => 0, fun _ => 0, fun _ => 0, fun _ => 0, fun _ => 0, fun _ => 0, fun _ => 0, [], rfl, rel_start h3 h6, Nat.le_refl _, fun q hq => by cases hq⟩
theorem sl_cx (n : Nat) (cl : Int32) (P : Nat → PL) (ly : Nat → Int64) (sp st : Nat → Int32) (sk : Int32) (sd : Nat → Int32) (sm : Nat → Int64) (k : Nat) : rx_sl1 (cx n cl P ly sp st sk sd sm k) ≤ 1024 := by
  unfold cx
  repeat' split
  all_goals exact Nat.le_of_ble_eq_true rfl
theorem sl_cm (n : Nat) (th mc pk : Int32) (kd td : Nat → Int32) (fm pr : Nat → Int64) (sz : Nat → Int32) (ro : Nat → Int64) (tu pe tr : Nat → Int32) (as : Nat → Int64) (k : Nat) : rx_sl1 (cm n th mc pk kd td fm pr sz ro tu pe tr as k) ≤ 1024 := by
  unfold cm
  repeat' split
  all_goals exact Nat.le_of_ble_eq_true rfl
theorem sl_sum : ∀ l : List rx_C, (∀ q, q ∈ l → rx_sl1 q ≤ 1024) → (l.map rx_sl1).sum ≤ 1024 * l.length
  | [], _ => Nat.le_refl _
  | q :: l, h => by
    have h1 := h q List.mem_cons_self
    have h2 := sl_sum l (fun q hq => h q (List.mem_cons_of_mem _ hq))
    rw [List.map_cons, List.sum_cons]
    show _ ≤ 1024 * (l.length + 1)
    omega
theorem hp_room {sc : Nat × (Nat → Int32)} {h : rx_H} (hk : okH sc 600 (some h)) : h.2.length ≤ 601024 ∧ rx_sl h ≤ 7293000 := by
  obtain ⟨n, cl, P, ly, sp, st, sk, sd, sm, th, mc, pk, kd, td, fm, pr, sz, ro, tu, pe, tr, as, w, g, e, hR, hg, hx⟩ := hk
  have e' : h = (sc, (List.range 52).map (hc (cx n cl P ly sp st sk sd sm) (cm n th mc pk kd td fm pr sz ro tu pe tr as) w) ++ g) := Option.some.inj e
  subst e'
  have hl : ((List.range 52).map (hc (cx n cl P ly sp st sk sd sm) (cm n th mc pk kd td fm pr sz ro tu pe tr as) w) ++ g).length = 52 + g.length := by
    rw [List.length_append, List.length_map, List.length_range]
  have hs := sl_sum ((List.range 52).map (hc (cx n cl P ly sp st sk sd sm) (cm n th mc pk kd td fm pr sz ro tu pe tr as) w) ++ g) (fun q hq => by
    rcases List.mem_append.mp hq with h | h
    · obtain ⟨k, _, rfl⟩ := List.mem_map.mp h
      unfold hc
      by_cases h1 : k < 40
      · rw [if_pos h1]; exact sl_cx n cl P ly sp st sk sd sm k
      · rw [if_neg h1]
        by_cases h2 : k < 51
        · rw [if_pos h2]; exact sl_cm n th mc pk kd td fm pr sz ro tu pe tr as k
        · rw [if_neg h2]; exact Nat.le_of_ble_eq_true rfl
    · rw [hx q h]; exact Nat.le_of_ble_eq_true rfl)
  rw [hl] at hs
  exact ⟨by show List.length _ ≤ _; rw [hl]; omega, Nat.le_trans (show rx_sl _ ≤ 1024 * (52 + g.length) from hs) (by omega)⟩
theorem goal_holds : rx_GOAL := by
  intro L xs hL
  obtain ⟨h', e, hk⟩ := law_start (F := rx_FF) (sc := (L, xs)) (by decide) (by decide) hL
  exact ⟨h', e, hp_room hk⟩
