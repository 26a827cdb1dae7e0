/-! ===== The heap behind the constructors ===== -/
/-- a place: holds, least, sets, partner, length, numbers -/
abbrev PL : Type := Int32 × Int32 × Int64 × Int64 × Int32 × (Nat → Int64)
def plO (q : PL) (r : Nat) : rx_C := .inr (0, [.int q.1, .int q.2.1, .long q.2.2.1, .long q.2.2.2.1, .int q.2.2.2.2.1, .ref r])
def aI (n : Nat) (f : Nat → Int32) : rx_C := .inl (n, .inl f)
def aJ (n : Nat) (f : Nat → Int64) : rx_C := .inl (n, .inr (.inl f))
def aP (n : Nat) (f : Nat → Option Nat) : rx_C := .inl (n, .inr (.inr (.inr (.inr f))))
/-- the class's cells: things, clash, places, layers, the seeker's petals, tried, count, disjoint, meeting -/
def cx (n : Nat) (cl : Int32) (P : Nat → PL) (ly : Nat → Int64) (sp st : Nat → Int32) (sk : Int32) (sd : Nat → Int32) (sm : Nat → Int64) (k : Nat) : rx_C :=
  if k = 0 then .inr (2, [.int (nI n), .int (nI (2 ^ n)), .ref 1, .ref 34, .ref 35, .int cl])
  else if k = 1 then aP 16 (fun p => if p < 16 then some (2 + 2 * p) else none)
  else if k = 34 then aJ 7 ly
  else if k = 35 then .inr (1, [.ref 36, .ref 37, .int sk, .ref 38, .ref 39])
  else if k = 36 then aI 5 sp
  else if k = 37 then aI 5 st
  else if k = 38 then aI 64 sd
  else if k = 39 then aJ 49 sm
  else if k % 2 = 0 then plO (P (k / 2 - 1)) (k + 1)
  else aJ 64 (P (k / 2 - 1)).2.2.2.2.2
/-- the model's cells -/
def cm (n : Nat) (th cl pk : Int32) (kd td : Nat → Int32) (fm pr : Nat → Int64) (sz : Nat → Int32) (rw : Nat → Int64) (tu pe tr : Nat → Int32) (as : Nat → Int64) (k : Nat) : rx_C :=
  if k = 40 then .inr (3, [.int th, .int (nI n), .int (nI (2 ^ n)), .ref 41, .ref 42, .ref 43, .ref 44, .ref 45, .ref 46, .int cl, .ref 47, .ref 48, .ref 49, .int pk, .ref 50])
  else if k = 41 then aI 16 kd
  else if k = 42 then aI 16 td
  else if k = 43 then aJ 16 fm
  else if k = 44 then aJ 16 pr
  else if k = 45 then aI 16 sz
  else if k = 46 then aJ 1024 rw
  else if k = 47 then aI 6 tu
  else if k = 48 then aI 5 pe
  else if k = 49 then aI 5 tr
  else aJ 64 as
def hc (X M : Nat → rx_C) (w : Nat → Int64) (k : Nat) : rx_C := if k < 40 then X k else if k < 51 then M k else aJ 1 w
def hp (sc : Nat × (Nat → Int32)) (X M : Nat → rx_C) (w : Nat → Int64) (g : List rx_C) : Option rx_H := some (sc, (List.range 52).map (hc X M w) ++ g)
section HP
variable {sc : Nat × (Nat → Int32)} {X X' M M' : Nat → rx_C} {w w' : Nat → Int64} {g : List rx_C}
theorem hp_get {k : Nat} (hk : k < 52) : ((List.range 52).map (hc X M w) ++ g)[k]? = some (hc X M w k) := by
  rw [List.getElem?_append_left (by simpa using hk), List.getElem?_map, List.getElem?_range hk]
  rfl
theorem hp_set {k : Nat} {c : rx_C} (hk : k < 52) (h : ∀ j, j < 52 → hc X' M' w' j = if j = k then c else hc X M w j) : some (sc, ((List.range 52).map (hc X M w) ++ g).set k c) = hp sc X' M' w' g := by
  unfold hp
  rw [List.set_append_left _ _ (by simpa using hk)]
  have e : ((List.range 52).map (hc X M w)).set k c = (List.range 52).map (hc X' M' w') := by
    apply List.ext_getElem?
    intro i
    rw [List.getElem?_set, List.getElem?_map, List.getElem?_map]
    by_cases hi : i < 52
    · rw [List.getElem?_range hi]
      simp only [List.length_map, List.length_range, Option.map_some]
      rw [h i hi]
      by_cases hki : k = i
      · subst hki; simp [hk]
      · have hik : ¬ i = k := fun q => hki q.symm
        simp [hki, hik]
    · have e2 : (List.range 52)[i]? = none := List.getElem?_eq_none (by simpa using Nat.not_lt.mp hi)
      rw [e2]
      have hki : ¬ k = i := by omega
      simp [hki]
  rw [e]
theorem hp_fd {k c f : Nat} {fs : List Value} (hk : k < 52) (h : hc X M w k = .inr (c, fs)) : rx_fd (hp sc X M w g) k c f = fs[f]? := by
  unfold rx_fd hp
  simp only
  rw [hp_get hk, h]
  simp
theorem hp_ck {k c : Nat} {fs : List Value} (hk : k < 52) (h : hc X M w k = .inr (c, fs)) : rx_ck (hp sc X M w g) k c = some () := by
  unfold rx_ck hp
  simp only
  rw [hp_get hk, h]
  simp
theorem hp_p {k c f : Nat} {fs : List Value} {v : Value} (hk : k < 52) (h : hc X M w k = .inr (c, fs)) (hf : f < fs.length) (h' : ∀ j, j < 52 → hc X' M' w' j = if j = k then .inr (c, fs.set f v) else hc X M w j) : rx_p (hp sc X M w g) k c f v = some (hp sc X' M' w' g) := by
  unfold rx_p
  rw [show hp sc X M w g = some (sc, (List.range 52).map (hc X M w) ++ g) from rfl]
  simp only
  rw [hp_get hk, h]
  simp only [hf, and_self, if_true]
  rw [hp_set hk h']
theorem hp_aI {k i n : Nat} {f : Nat → Int32} (hk : k < 52) (h : hc X M w k = aI n f) (hi : i < n) (hn : n < 2 ^ 31) : rx_aI (hp sc X M w g) k (nI i) = some (f i) := by
  unfold rx_aI
  rw [if_neg (by omega), show hp sc X M w g = some (sc, (List.range 52).map (hc X M w) ++ g) from rfl]
  simp only
  rw [if_neg (by omega), hp_get hk, h]
  show (if nI i < 0 ∨ n ≤ (nI i).toNatClampNeg then none else some (f (nI i).toNatClampNeg)) = _
  rw [if_neg (nI_in hi hn), nI_clamp (by omega)]
theorem hp_aJ {k i n : Nat} {f : Nat → Int64} (hk : k < 52) (h : hc X M w k = aJ n f) (hi : i < n) (hn : n < 2 ^ 31) : rx_aJ (hp sc X M w g) k (nI i) = some (f i) := by
  unfold rx_aJ
  rw [if_neg (by omega), show hp sc X M w g = some (sc, (List.range 52).map (hc X M w) ++ g) from rfl]
  simp only
  rw [hp_get hk, h]
  show (if nI i < 0 ∨ n ≤ (nI i).toNatClampNeg then none else some (f (nI i).toNatClampNeg)) = _
  rw [if_neg (nI_in hi hn), nI_clamp (by omega)]
theorem hp_aR {k i n : Nat} {f : Nat → Option Nat} (hk : k < 52) (h : hc X M w k = aP n f) (hi : i < n) (hn : n < 2 ^ 31) : rx_aR (hp sc X M w g) k (nI i) = f i := by
  unfold rx_aR
  rw [show hp sc X M w g = some (sc, (List.range 52).map (hc X M w) ++ g) from rfl]
  simp only
  rw [hp_get hk, h]
  show (if nI i < 0 ∨ n ≤ (nI i).toNatClampNeg then none else (f (nI i).toNatClampNeg)) = _
  rw [if_neg (nI_in hi hn), nI_clamp (by omega)]
theorem hp_sI {k i n : Nat} {f : Nat → Int32} {x : Int32} (hk : k < 52) (h : hc X M w k = aI n f) (hi : i < n) (hn : n < 2 ^ 31) (h' : ∀ j, j < 52 → hc X' M' w' j = if j = k then aI n (upd f i x) else hc X M w j) : rx_sI (hp sc X M w g) k (nI i) x = some (hp sc X' M' w' g) := by
  unfold rx_sI
  rw [show hp sc X M w g = some (sc, (List.range 52).map (hc X M w) ++ g) from rfl]
  simp only
  rw [hp_get hk, h]
  show (if nI i < 0 ∨ n ≤ (nI i).toNatClampNeg then none else some (some (sc, ((List.range 52).map (hc X M w) ++ g).set k (aI n (upd f (nI i).toNatClampNeg x))))) = _
  rw [if_neg (nI_in hi hn), nI_clamp (by omega), hp_set hk h']
theorem hp_sJ {k i n : Nat} {f : Nat → Int64} {x : Int64} (hk : k < 52) (h : hc X M w k = aJ n f) (hi : i < n) (hn : n < 2 ^ 31) (h' : ∀ j, j < 52 → hc X' M' w' j = if j = k then aJ n (vp_updL f i x) else hc X M w j) : rx_sJ (hp sc X M w g) k (nI i) x = some (hp sc X' M' w' g) := by
  unfold rx_sJ
  rw [show hp sc X M w g = some (sc, (List.range 52).map (hc X M w) ++ g) from rfl]
  simp only
  rw [hp_get hk, h]
  show (if nI i < 0 ∨ n ≤ (nI i).toNatClampNeg then none else some (some (sc, ((List.range 52).map (hc X M w) ++ g).set k (aJ n (vp_updL f (nI i).toNatClampNeg x))))) = _
  rw [if_neg (nI_in hi hn), nI_clamp (by omega), hp_set hk h']
theorem hp_script {i : Nat} (hi : i < sc.1) (hn : sc.1 < 2 ^ 31) : rx_aI (hp sc X M w g) 1000000 (nI i) = some (sc.2 i) := by
  unfold rx_aI
  rw [if_neg (by decide), show hp sc X M w g = some (sc, (List.range 52).map (hc X M w) ++ g) from rfl]
  simp only
  rw [if_pos trivial, if_neg (nI_in hi hn), nI_clamp (by omega)]
theorem hp_len : rx_len (hp sc X M w g) 1000000 = some (nI sc.1) := rfl
end HP
theorem rx_gI_of {u : Option rx_H} {r c k : Nat} {x : Int32} (h : rx_fd u r c k = some (.int x)) : rx_gI u r c k = some x := by unfold rx_gI; rw [h]
theorem rx_gJ_of {u : Option rx_H} {r c k : Nat} {x : Int64} (h : rx_fd u r c k = some (.long x)) : rx_gJ u r c k = some x := by unfold rx_gJ; rw [h]
theorem rx_gR_of {u : Option rx_H} {r c k : Nat} {x : Nat} (h : rx_fd u r c k = some (.ref x)) : rx_gR u r c k = some x := by unfold rx_gR; rw [h]
/-! what stands where -/
section HX
variable {sc : Nat × (Nat → Int32)} {n : Nat} {cl : Int32} {P : Nat → PL} {ly : Nat → Int64} {sp st : Nat → Int32} {sk : Int32} {sd : Nat → Int32} {sm : Nat → Int64} {M : Nat → rx_C} {w : Nat → Int64} {g : List rx_C}
theorem hx_0 : hc (cx n cl P ly sp st sk sd sm) M w 0 = .inr (2, [.int (nI n), .int (nI (2 ^ n)), .ref 1, .ref 34, .ref 35, .int cl]) := rfl
theorem hx_1 : hc (cx n cl P ly sp st sk sd sm) M w 1 = aP 16 (fun p => if p < 16 then some (2 + 2 * p) else none) := rfl
theorem hx_34 : hc (cx n cl P ly sp st sk sd sm) M w 34 = aJ 7 ly := rfl
theorem hx_35 : hc (cx n cl P ly sp st sk sd sm) M w 35 = .inr (1, [.ref 36, .ref 37, .int sk, .ref 38, .ref 39]) := rfl
theorem hx_36 : hc (cx n cl P ly sp st sk sd sm) M w 36 = aI 5 sp := rfl
theorem hx_37 : hc (cx n cl P ly sp st sk sd sm) M w 37 = aI 5 st := rfl
theorem hx_38 : hc (cx n cl P ly sp st sk sd sm) M w 38 = aI 64 sd := rfl
theorem hx_39 : hc (cx n cl P ly sp st sk sd sm) M w 39 = aJ 49 sm := rfl
theorem hx_P {p : Nat} (h16 : p < 16) : hc (cx n cl P ly sp st sk sd sm) M w (2 + 2 * p) = plO (P p) (3 + 2 * p) := by
  unfold hc cx
  rw [if_pos (by omega), if_neg (by omega), if_neg (by omega), if_neg (by omega), if_neg (by omega), if_neg (by omega), if_neg (by omega), if_neg (by omega), if_neg (by omega), if_pos (by omega), show (2 + 2 * p) / 2 - 1 = p by omega, show 2 + 2 * p + 1 = 3 + 2 * p by omega]
theorem hx_N {p : Nat} (h16 : p < 16) : hc (cx n cl P ly sp st sk sd sm) M w (3 + 2 * p) = aJ 64 (P p).2.2.2.2.2 := by
  unfold hc cx
  rw [if_pos (by omega), if_neg (by omega), if_neg (by omega), if_neg (by omega), if_neg (by omega), if_neg (by omega), if_neg (by omega), if_neg (by omega), if_neg (by omega), if_neg (by omega), show (3 + 2 * p) / 2 - 1 = p by omega]
theorem gx_n : rx_gI (hp sc (cx n cl P ly sp st sk sd sm) M w g) 0 2 0 = some (nI n) := rx_gI_of (hp_fd (by decide) hx_0)
theorem gx_all : rx_gI (hp sc (cx n cl P ly sp st sk sd sm) M w g) 0 2 1 = some (nI (2 ^ n)) := rx_gI_of (hp_fd (by decide) hx_0)
theorem gx_shelf : rx_gR (hp sc (cx n cl P ly sp st sk sd sm) M w g) 0 2 2 = some 1 := rx_gR_of (hp_fd (by decide) hx_0)
theorem gx_lay : rx_gR (hp sc (cx n cl P ly sp st sk sd sm) M w g) 0 2 3 = some 34 := rx_gR_of (hp_fd (by decide) hx_0)
theorem gx_seek : rx_gR (hp sc (cx n cl P ly sp st sk sd sm) M w g) 0 2 4 = some 35 := rx_gR_of (hp_fd (by decide) hx_0)
theorem gx_cl : rx_gI (hp sc (cx n cl P ly sp st sk sd sm) M w g) 0 2 5 = some cl := rx_gI_of (hp_fd (by decide) hx_0)
theorem gx_sp : rx_gR (hp sc (cx n cl P ly sp st sk sd sm) M w g) 35 1 0 = some 36 := rx_gR_of (hp_fd (by decide) hx_35)
theorem gx_st : rx_gR (hp sc (cx n cl P ly sp st sk sd sm) M w g) 35 1 1 = some 37 := rx_gR_of (hp_fd (by decide) hx_35)
theorem gx_sk : rx_gI (hp sc (cx n cl P ly sp st sk sd sm) M w g) 35 1 2 = some sk := rx_gI_of (hp_fd (by decide) hx_35)
theorem gx_sd : rx_gR (hp sc (cx n cl P ly sp st sk sd sm) M w g) 35 1 3 = some 38 := rx_gR_of (hp_fd (by decide) hx_35)
theorem gx_sm : rx_gR (hp sc (cx n cl P ly sp st sk sd sm) M w g) 35 1 4 = some 39 := rx_gR_of (hp_fd (by decide) hx_35)
theorem gp_ho {p : Nat} (h16 : p < 16) : rx_gI (hp sc (cx n cl P ly sp st sk sd sm) M w g) (2 + 2 * p) 0 0 = some (P p).1 := rx_gI_of ((hp_fd (by omega) (hx_P h16)).trans rfl)
theorem gp_le {p : Nat} (h16 : p < 16) : rx_gI (hp sc (cx n cl P ly sp st sk sd sm) M w g) (2 + 2 * p) 0 1 = some (P p).2.1 := rx_gI_of ((hp_fd (by omega) (hx_P h16)).trans rfl)
theorem gp_se {p : Nat} (h16 : p < 16) : rx_gJ (hp sc (cx n cl P ly sp st sk sd sm) M w g) (2 + 2 * p) 0 2 = some (P p).2.2.1 := rx_gJ_of ((hp_fd (by omega) (hx_P h16)).trans rfl)
theorem gp_pa {p : Nat} (h16 : p < 16) : rx_gJ (hp sc (cx n cl P ly sp st sk sd sm) M w g) (2 + 2 * p) 0 3 = some (P p).2.2.2.1 := rx_gJ_of ((hp_fd (by omega) (hx_P h16)).trans rfl)
theorem gp_ln {p : Nat} (h16 : p < 16) : rx_gI (hp sc (cx n cl P ly sp st sk sd sm) M w g) (2 + 2 * p) 0 4 = some (P p).2.2.2.2.1 := rx_gI_of ((hp_fd (by omega) (hx_P h16)).trans rfl)
theorem gp_nu {p : Nat} (h16 : p < 16) : rx_gR (hp sc (cx n cl P ly sp st sk sd sm) M w g) (2 + 2 * p) 0 5 = some (3 + 2 * p) := rx_gR_of ((hp_fd (by omega) (hx_P h16)).trans rfl)
theorem ck_0 : rx_ck (hp sc (cx n cl P ly sp st sk sd sm) M w g) 0 2 = some () := hp_ck (by decide) hx_0
theorem ck_35 : rx_ck (hp sc (cx n cl P ly sp st sk sd sm) M w g) 35 1 = some () := hp_ck (by decide) hx_35
theorem ck_P {p : Nat} (h16 : p < 16) : rx_ck (hp sc (cx n cl P ly sp st sk sd sm) M w g) (2 + 2 * p) 0 = some () := hp_ck (by omega) (hx_P h16)
theorem ax_shelf {p : Nat} (h16 : p < 16) : rx_aR (hp sc (cx n cl P ly sp st sk sd sm) M w g) 1 (nI p) = some (2 + 2 * p) := (hp_aR (by decide) hx_1 h16 (by decide)).trans (if_pos h16)
theorem ax_ly {i : Nat} (hi : i < 7) : rx_aJ (hp sc (cx n cl P ly sp st sk sd sm) M w g) 34 (nI i) = some (ly i) := hp_aJ (by decide) hx_34 hi (by decide)
theorem ax_sp {i : Nat} (hi : i < 5) : rx_aI (hp sc (cx n cl P ly sp st sk sd sm) M w g) 36 (nI i) = some (sp i) := hp_aI (by decide) hx_36 hi (by decide)
theorem ax_st {i : Nat} (hi : i < 5) : rx_aI (hp sc (cx n cl P ly sp st sk sd sm) M w g) 37 (nI i) = some (st i) := hp_aI (by decide) hx_37 hi (by decide)
theorem ax_sd {i : Nat} (hi : i < 64) : rx_aI (hp sc (cx n cl P ly sp st sk sd sm) M w g) 38 (nI i) = some (sd i) := hp_aI (by decide) hx_38 hi (by decide)
theorem ax_sm {i : Nat} (hi : i < 49) : rx_aJ (hp sc (cx n cl P ly sp st sk sd sm) M w g) 39 (nI i) = some (sm i) := hp_aJ (by decide) hx_39 hi (by decide)
theorem ax_nu {p i : Nat} (h16 : p < 16) (hi : i < 64) : rx_aJ (hp sc (cx n cl P ly sp st sk sd sm) M w g) (3 + 2 * p) (nI i) = some ((P p).2.2.2.2.2 i) := hp_aJ (by omega) (hx_N h16) hi (by decide)
theorem px_cl (v : Int32) : rx_p (hp sc (cx n cl P ly sp st sk sd sm) M w g) 0 2 5 (.int v) = some (hp sc (cx n v P ly sp st sk sd sm) M w g) := hp_p (by decide) hx_0 (by simp) (fun j _ => by
    by_cases e : j = 0
    · subst e; rfl
    · rw [if_neg e]; unfold hc cx; simp only [e, if_false])
theorem px_sk (v : Int32) : rx_p (hp sc (cx n cl P ly sp st sk sd sm) M w g) 35 1 2 (.int v) = some (hp sc (cx n cl P ly sp st v sd sm) M w g) := hp_p (by decide) hx_35 (by simp) (fun j _ => by
    by_cases e : j = 35
    · subst e; rfl
    · rw [if_neg e]; unfold hc cx; simp only [e, if_false])
theorem sx_sp {i : Nat} (hi : i < 5) (x : Int32) : rx_sI (hp sc (cx n cl P ly sp st sk sd sm) M w g) 36 (nI i) x = some (hp sc (cx n cl P ly (upd sp i x) st sk sd sm) M w g) := hp_sI (by decide) hx_36 hi (by decide) (fun j _ => by
    by_cases e : j = 36
    · subst e; rfl
    · rw [if_neg e]; unfold hc cx; simp only [e, if_false])
theorem sx_st {i : Nat} (hi : i < 5) (x : Int32) : rx_sI (hp sc (cx n cl P ly sp st sk sd sm) M w g) 37 (nI i) x = some (hp sc (cx n cl P ly sp (upd st i x) sk sd sm) M w g) := hp_sI (by decide) hx_37 hi (by decide) (fun j _ => by
    by_cases e : j = 37
    · subst e; rfl
    · rw [if_neg e]; unfold hc cx; simp only [e, if_false])
theorem sx_sd {i : Nat} (hi : i < 64) (x : Int32) : rx_sI (hp sc (cx n cl P ly sp st sk sd sm) M w g) 38 (nI i) x = some (hp sc (cx n cl P ly sp st sk (upd sd i x) sm) M w g) := hp_sI (by decide) hx_38 hi (by decide) (fun j _ => by
    by_cases e : j = 38
    · subst e; rfl
    · rw [if_neg e]; unfold hc cx; simp only [e, if_false])
theorem sx_sm {i : Nat} (hi : i < 49) (x : Int64) : rx_sJ (hp sc (cx n cl P ly sp st sk sd sm) M w g) 39 (nI i) x = some (hp sc (cx n cl P ly sp st sk sd (vp_updL sm i x)) M w g) := hp_sJ (by decide) hx_39 hi (by decide) (fun j _ => by
    by_cases e : j = 39
    · subst e; rfl
    · rw [if_neg e]; unfold hc cx; simp only [e, if_false])
def updP (P : Nat → PL) (p : Nat) (q : PL) : Nat → PL := fun k => if k = p then q else P k
theorem hx_upd {p : Nat} (h16 : p < 16) {q : PL} (j : Nat) (hj : j < 52) : hc (cx n cl (updP P p q) ly sp st sk sd sm) M w j = if j = 2 + 2 * p then plO q (3 + 2 * p) else if j = 3 + 2 * p then aJ 64 q.2.2.2.2.2 else hc (cx n cl P ly sp st sk sd sm) M w j := by
  by_cases e : j = 2 + 2 * p
  · subst e
    rw [hx_P h16, if_pos rfl]
    unfold updP
    rw [if_pos rfl]
  · rw [if_neg e]
    by_cases e2 : j = 3 + 2 * p
    · subst e2
      rw [hx_N h16, if_pos rfl]
      unfold updP
      rw [if_pos rfl]
    · rw [if_neg e2]
      unfold hc cx
      by_cases h40 : j < 40
      · rw [if_pos h40, if_pos h40]
        by_cases h0 : j = 0
        · simp only [h0, if_true]
        by_cases h1 : j = 1
        · simp only [h1, if_true]
        have hu : updP P p q (j / 2 - 1) = P (j / 2 - 1) := by
          unfold updP
          rw [if_neg (by omega)]
        rw [hu]
      · rw [if_neg h40, if_neg h40]
theorem hx_upd1 {p : Nat} (h16 : p < 16) {q : PL} (hq : q.2.2.2.2.2 = (P p).2.2.2.2.2) (j : Nat) (hj : j < 52) : hc (cx n cl (updP P p q) ly sp st sk sd sm) M w j = if j = 2 + 2 * p then plO q (3 + 2 * p) else hc (cx n cl P ly sp st sk sd sm) M w j := by
  rw [hx_upd h16 j hj]
  by_cases e : j = 2 + 2 * p
  · rw [if_pos e, if_pos e]
  · rw [if_neg e, if_neg e]
    by_cases e2 : j = 3 + 2 * p
    · subst e2
      rw [if_pos rfl, hx_N h16, hq]
    · rw [if_neg e2]
theorem pp_ho {p : Nat} (h16 : p < 16) (v : Int32) : rx_p (hp sc (cx n cl P ly sp st sk sd sm) M w g) (2 + 2 * p) 0 0 (.int v) = some (hp sc (cx n cl (updP P p (v, (P p).2)) ly sp st sk sd sm) M w g) := hp_p (fs := [.int (P p).1, .int (P p).2.1, .long (P p).2.2.1, .long (P p).2.2.2.1, .int (P p).2.2.2.2.1, .ref (3 + 2 * p)]) (by omega) (hx_P h16) (by simp) (fun j hj => by
    rw [hx_upd1 (q := (v, (P p).2)) h16 rfl j hj]
    rfl)
theorem pp_le {p : Nat} (h16 : p < 16) (v : Int32) : rx_p (hp sc (cx n cl P ly sp st sk sd sm) M w g) (2 + 2 * p) 0 1 (.int v) = some (hp sc (cx n cl (updP P p ((P p).1, v, (P p).2.2)) ly sp st sk sd sm) M w g) := hp_p (fs := [.int (P p).1, .int (P p).2.1, .long (P p).2.2.1, .long (P p).2.2.2.1, .int (P p).2.2.2.2.1, .ref (3 + 2 * p)]) (by omega) (hx_P h16) (by simp) (fun j hj => by
    rw [hx_upd1 (q := ((P p).1, v, (P p).2.2)) h16 rfl j hj]
    rfl)
theorem pp_se {p : Nat} (h16 : p < 16) (v : Int64) : rx_p (hp sc (cx n cl P ly sp st sk sd sm) M w g) (2 + 2 * p) 0 2 (.long v) = some (hp sc (cx n cl (updP P p ((P p).1, (P p).2.1, v, (P p).2.2.2)) ly sp st sk sd sm) M w g) := hp_p (fs := [.int (P p).1, .int (P p).2.1, .long (P p).2.2.1, .long (P p).2.2.2.1, .int (P p).2.2.2.2.1, .ref (3 + 2 * p)]) (by omega) (hx_P h16) (by simp) (fun j hj => by
    rw [hx_upd1 (q := ((P p).1, (P p).2.1, v, (P p).2.2.2)) h16 rfl j hj]
    rfl)
theorem pp_pa {p : Nat} (h16 : p < 16) (v : Int64) : rx_p (hp sc (cx n cl P ly sp st sk sd sm) M w g) (2 + 2 * p) 0 3 (.long v) = some (hp sc (cx n cl (updP P p ((P p).1, (P p).2.1, (P p).2.2.1, v, (P p).2.2.2.2)) ly sp st sk sd sm) M w g) := hp_p (fs := [.int (P p).1, .int (P p).2.1, .long (P p).2.2.1, .long (P p).2.2.2.1, .int (P p).2.2.2.2.1, .ref (3 + 2 * p)]) (by omega) (hx_P h16) (by simp) (fun j hj => by
    rw [hx_upd1 (q := ((P p).1, (P p).2.1, (P p).2.2.1, v, (P p).2.2.2.2)) h16 rfl j hj]
    rfl)
theorem pp_ln {p : Nat} (h16 : p < 16) (v : Int32) : rx_p (hp sc (cx n cl P ly sp st sk sd sm) M w g) (2 + 2 * p) 0 4 (.int v) = some (hp sc (cx n cl (updP P p ((P p).1, (P p).2.1, (P p).2.2.1, (P p).2.2.2.1, v, (P p).2.2.2.2.2)) ly sp st sk sd sm) M w g) := hp_p (fs := [.int (P p).1, .int (P p).2.1, .long (P p).2.2.1, .long (P p).2.2.2.1, .int (P p).2.2.2.2.1, .ref (3 + 2 * p)]) (by omega) (hx_P h16) (by simp) (fun j hj => by
    rw [hx_upd1 (q := ((P p).1, (P p).2.1, (P p).2.2.1, (P p).2.2.2.1, v, (P p).2.2.2.2.2)) h16 rfl j hj]
    rfl)
theorem hx_upd2 {p : Nat} (h16 : p < 16) (f : Nat → Int64) (j : Nat) (hj : j < 52) : hc (cx n cl (updP P p ((P p).1, (P p).2.1, (P p).2.2.1, (P p).2.2.2.1, (P p).2.2.2.2.1, f)) ly sp st sk sd sm) M w j = if j = 3 + 2 * p then aJ 64 f else hc (cx n cl P ly sp st sk sd sm) M w j := by
  rw [hx_upd h16 j hj]
  by_cases e2 : j = 3 + 2 * p
  · rw [if_neg (by omega), if_pos e2]
    first | done | rw [if_pos e2]
  · rw [if_neg e2]
    by_cases e : j = 2 + 2 * p
    · subst e
      rw [if_pos rfl]
      first | rw [if_neg (by omega), hx_P h16] | rw [hx_P h16]
      rfl
    · rw [if_neg e]
      first | done | rw [if_neg e2]
theorem sx_nu {p i : Nat} (h16 : p < 16) (hi : i < 64) (x : Int64) : rx_sJ (hp sc (cx n cl P ly sp st sk sd sm) M w g) (3 + 2 * p) (nI i) x = some (hp sc (cx n cl (updP P p ((P p).1, (P p).2.1, (P p).2.2.1, (P p).2.2.2.1, (P p).2.2.2.2.1, vp_updL (P p).2.2.2.2.2 i x)) ly sp st sk sd sm) M w g) := hp_sJ (by omega) (hx_N h16) hi (by decide) (fun j hj => hx_upd2 h16 _ j hj)
end HX
section HM
variable {sc : Nat × (Nat → Int32)} {n : Nat} {X : Nat → rx_C} {th mc pk : Int32} {kd td : Nat → Int32} {fm pr : Nat → Int64} {sz : Nat → Int32} {rw : Nat → Int64} {tu pe tr : Nat → Int32} {as : Nat → Int64} {w : Nat → Int64} {g : List rx_C}
theorem hm_40 : hc X (cm n th mc pk kd td fm pr sz rw tu pe tr as) w 40 = .inr (3, [.int th, .int (nI n), .int (nI (2 ^ n)), .ref 41, .ref 42, .ref 43, .ref 44, .ref 45, .ref 46, .int mc, .ref 47, .ref 48, .ref 49, .int pk, .ref 50]) := rfl
theorem hm_41 : hc X (cm n th mc pk kd td fm pr sz rw tu pe tr as) w 41 = aI 16 kd := rfl
theorem hm_42 : hc X (cm n th mc pk kd td fm pr sz rw tu pe tr as) w 42 = aI 16 td := rfl
theorem hm_43 : hc X (cm n th mc pk kd td fm pr sz rw tu pe tr as) w 43 = aJ 16 fm := rfl
theorem hm_44 : hc X (cm n th mc pk kd td fm pr sz rw tu pe tr as) w 44 = aJ 16 pr := rfl
theorem hm_45 : hc X (cm n th mc pk kd td fm pr sz rw tu pe tr as) w 45 = aI 16 sz := rfl
theorem hm_46 : hc X (cm n th mc pk kd td fm pr sz rw tu pe tr as) w 46 = aJ 1024 rw := rfl
theorem hm_47 : hc X (cm n th mc pk kd td fm pr sz rw tu pe tr as) w 47 = aI 6 tu := rfl
theorem hm_48 : hc X (cm n th mc pk kd td fm pr sz rw tu pe tr as) w 48 = aI 5 pe := rfl
theorem hm_49 : hc X (cm n th mc pk kd td fm pr sz rw tu pe tr as) w 49 = aI 5 tr := rfl
theorem hm_50 : hc X (cm n th mc pk kd td fm pr sz rw tu pe tr as) w 50 = aJ 64 as := rfl
theorem gm_th : rx_gI (hp sc X (cm n th mc pk kd td fm pr sz rw tu pe tr as) w g) 40 3 0 = some th := rx_gI_of (hp_fd (by decide) hm_40)
theorem gm_n : rx_gI (hp sc X (cm n th mc pk kd td fm pr sz rw tu pe tr as) w g) 40 3 1 = some (nI n) := rx_gI_of (hp_fd (by decide) hm_40)
theorem gm_all : rx_gI (hp sc X (cm n th mc pk kd td fm pr sz rw tu pe tr as) w g) 40 3 2 = some (nI (2 ^ n)) := rx_gI_of (hp_fd (by decide) hm_40)
theorem gm_mc : rx_gI (hp sc X (cm n th mc pk kd td fm pr sz rw tu pe tr as) w g) 40 3 9 = some mc := rx_gI_of (hp_fd (by decide) hm_40)
theorem gm_pk : rx_gI (hp sc X (cm n th mc pk kd td fm pr sz rw tu pe tr as) w g) 40 3 13 = some pk := rx_gI_of (hp_fd (by decide) hm_40)
theorem gm_kd : rx_gR (hp sc X (cm n th mc pk kd td fm pr sz rw tu pe tr as) w g) 40 3 3 = some 41 := rx_gR_of (hp_fd (by decide) hm_40)
theorem gm_td : rx_gR (hp sc X (cm n th mc pk kd td fm pr sz rw tu pe tr as) w g) 40 3 4 = some 42 := rx_gR_of (hp_fd (by decide) hm_40)
theorem gm_fm : rx_gR (hp sc X (cm n th mc pk kd td fm pr sz rw tu pe tr as) w g) 40 3 5 = some 43 := rx_gR_of (hp_fd (by decide) hm_40)
theorem gm_pr : rx_gR (hp sc X (cm n th mc pk kd td fm pr sz rw tu pe tr as) w g) 40 3 6 = some 44 := rx_gR_of (hp_fd (by decide) hm_40)
theorem gm_sz : rx_gR (hp sc X (cm n th mc pk kd td fm pr sz rw tu pe tr as) w g) 40 3 7 = some 45 := rx_gR_of (hp_fd (by decide) hm_40)
theorem gm_rw : rx_gR (hp sc X (cm n th mc pk kd td fm pr sz rw tu pe tr as) w g) 40 3 8 = some 46 := rx_gR_of (hp_fd (by decide) hm_40)
theorem gm_tu : rx_gR (hp sc X (cm n th mc pk kd td fm pr sz rw tu pe tr as) w g) 40 3 10 = some 47 := rx_gR_of (hp_fd (by decide) hm_40)
theorem gm_pe : rx_gR (hp sc X (cm n th mc pk kd td fm pr sz rw tu pe tr as) w g) 40 3 11 = some 48 := rx_gR_of (hp_fd (by decide) hm_40)
theorem gm_tr : rx_gR (hp sc X (cm n th mc pk kd td fm pr sz rw tu pe tr as) w g) 40 3 12 = some 49 := rx_gR_of (hp_fd (by decide) hm_40)
theorem gm_as : rx_gR (hp sc X (cm n th mc pk kd td fm pr sz rw tu pe tr as) w g) 40 3 14 = some 50 := rx_gR_of (hp_fd (by decide) hm_40)
theorem ck_40 : rx_ck (hp sc X (cm n th mc pk kd td fm pr sz rw tu pe tr as) w g) 40 3 = some () := hp_ck (by decide) hm_40
theorem am_kd {i : Nat} (hi : i < 16) : rx_aI (hp sc X (cm n th mc pk kd td fm pr sz rw tu pe tr as) w g) 41 (nI i) = some (kd i) := hp_aI (by decide) hm_41 hi (by decide)
theorem sm_kd {i : Nat} (hi : i < 16) (x : Int32) : rx_sI (hp sc X (cm n th mc pk kd td fm pr sz rw tu pe tr as) w g) 41 (nI i) x = some (hp sc X (cm n th mc pk (upd kd i x) td fm pr sz rw tu pe tr as) w g) := hp_sI (by decide) hm_41 hi (by decide) (fun j _ => by
    by_cases e : j = 41
    · subst e; rfl
    · rw [if_neg e]; unfold hc cm; simp only [e, if_false])
theorem am_td {i : Nat} (hi : i < 16) : rx_aI (hp sc X (cm n th mc pk kd td fm pr sz rw tu pe tr as) w g) 42 (nI i) = some (td i) := hp_aI (by decide) hm_42 hi (by decide)
theorem sm_td {i : Nat} (hi : i < 16) (x : Int32) : rx_sI (hp sc X (cm n th mc pk kd td fm pr sz rw tu pe tr as) w g) 42 (nI i) x = some (hp sc X (cm n th mc pk kd (upd td i x) fm pr sz rw tu pe tr as) w g) := hp_sI (by decide) hm_42 hi (by decide) (fun j _ => by
    by_cases e : j = 42
    · subst e; rfl
    · rw [if_neg e]; unfold hc cm; simp only [e, if_false])
theorem am_fm {i : Nat} (hi : i < 16) : rx_aJ (hp sc X (cm n th mc pk kd td fm pr sz rw tu pe tr as) w g) 43 (nI i) = some (fm i) := hp_aJ (by decide) hm_43 hi (by decide)
theorem sm_fm {i : Nat} (hi : i < 16) (x : Int64) : rx_sJ (hp sc X (cm n th mc pk kd td fm pr sz rw tu pe tr as) w g) 43 (nI i) x = some (hp sc X (cm n th mc pk kd td (vp_updL fm i x) pr sz rw tu pe tr as) w g) := hp_sJ (by decide) hm_43 hi (by decide) (fun j _ => by
    by_cases e : j = 43
    · subst e; rfl
    · rw [if_neg e]; unfold hc cm; simp only [e, if_false])
theorem am_pr {i : Nat} (hi : i < 16) : rx_aJ (hp sc X (cm n th mc pk kd td fm pr sz rw tu pe tr as) w g) 44 (nI i) = some (pr i) := hp_aJ (by decide) hm_44 hi (by decide)
theorem sm_pr {i : Nat} (hi : i < 16) (x : Int64) : rx_sJ (hp sc X (cm n th mc pk kd td fm pr sz rw tu pe tr as) w g) 44 (nI i) x = some (hp sc X (cm n th mc pk kd td fm (vp_updL pr i x) sz rw tu pe tr as) w g) := hp_sJ (by decide) hm_44 hi (by decide) (fun j _ => by
    by_cases e : j = 44
    · subst e; rfl
    · rw [if_neg e]; unfold hc cm; simp only [e, if_false])
theorem am_sz {i : Nat} (hi : i < 16) : rx_aI (hp sc X (cm n th mc pk kd td fm pr sz rw tu pe tr as) w g) 45 (nI i) = some (sz i) := hp_aI (by decide) hm_45 hi (by decide)
theorem sm_sz {i : Nat} (hi : i < 16) (x : Int32) : rx_sI (hp sc X (cm n th mc pk kd td fm pr sz rw tu pe tr as) w g) 45 (nI i) x = some (hp sc X (cm n th mc pk kd td fm pr (upd sz i x) rw tu pe tr as) w g) := hp_sI (by decide) hm_45 hi (by decide) (fun j _ => by
    by_cases e : j = 45
    · subst e; rfl
    · rw [if_neg e]; unfold hc cm; simp only [e, if_false])
theorem am_rw {i : Nat} (hi : i < 1024) : rx_aJ (hp sc X (cm n th mc pk kd td fm pr sz rw tu pe tr as) w g) 46 (nI i) = some (rw i) := hp_aJ (by decide) hm_46 hi (by decide)
theorem sm_rw {i : Nat} (hi : i < 1024) (x : Int64) : rx_sJ (hp sc X (cm n th mc pk kd td fm pr sz rw tu pe tr as) w g) 46 (nI i) x = some (hp sc X (cm n th mc pk kd td fm pr sz (vp_updL rw i x) tu pe tr as) w g) := hp_sJ (by decide) hm_46 hi (by decide) (fun j _ => by
    by_cases e : j = 46
    · subst e; rfl
    · rw [if_neg e]; unfold hc cm; simp only [e, if_false])
theorem am_tu {i : Nat} (hi : i < 6) : rx_aI (hp sc X (cm n th mc pk kd td fm pr sz rw tu pe tr as) w g) 47 (nI i) = some (tu i) := hp_aI (by decide) hm_47 hi (by decide)
theorem sm_tu {i : Nat} (hi : i < 6) (x : Int32) : rx_sI (hp sc X (cm n th mc pk kd td fm pr sz rw tu pe tr as) w g) 47 (nI i) x = some (hp sc X (cm n th mc pk kd td fm pr sz rw (upd tu i x) pe tr as) w g) := hp_sI (by decide) hm_47 hi (by decide) (fun j _ => by
    by_cases e : j = 47
    · subst e; rfl
    · rw [if_neg e]; unfold hc cm; simp only [e, if_false])
theorem am_pe {i : Nat} (hi : i < 5) : rx_aI (hp sc X (cm n th mc pk kd td fm pr sz rw tu pe tr as) w g) 48 (nI i) = some (pe i) := hp_aI (by decide) hm_48 hi (by decide)
theorem sm_pe {i : Nat} (hi : i < 5) (x : Int32) : rx_sI (hp sc X (cm n th mc pk kd td fm pr sz rw tu pe tr as) w g) 48 (nI i) x = some (hp sc X (cm n th mc pk kd td fm pr sz rw tu (upd pe i x) tr as) w g) := hp_sI (by decide) hm_48 hi (by decide) (fun j _ => by
    by_cases e : j = 48
    · subst e; rfl
    · rw [if_neg e]; unfold hc cm; simp only [e, if_false])
theorem am_tr {i : Nat} (hi : i < 5) : rx_aI (hp sc X (cm n th mc pk kd td fm pr sz rw tu pe tr as) w g) 49 (nI i) = some (tr i) := hp_aI (by decide) hm_49 hi (by decide)
theorem sm_tr {i : Nat} (hi : i < 5) (x : Int32) : rx_sI (hp sc X (cm n th mc pk kd td fm pr sz rw tu pe tr as) w g) 49 (nI i) x = some (hp sc X (cm n th mc pk kd td fm pr sz rw tu pe (upd tr i x) as) w g) := hp_sI (by decide) hm_49 hi (by decide) (fun j _ => by
    by_cases e : j = 49
    · subst e; rfl
    · rw [if_neg e]; unfold hc cm; simp only [e, if_false])
theorem am_as {i : Nat} (hi : i < 64) : rx_aJ (hp sc X (cm n th mc pk kd td fm pr sz rw tu pe tr as) w g) 50 (nI i) = some (as i) := hp_aJ (by decide) hm_50 hi (by decide)
theorem sm_as {i : Nat} (hi : i < 64) (x : Int64) : rx_sJ (hp sc X (cm n th mc pk kd td fm pr sz rw tu pe tr as) w g) 50 (nI i) x = some (hp sc X (cm n th mc pk kd td fm pr sz rw tu pe tr (vp_updL as i x)) w g) := hp_sJ (by decide) hm_50 hi (by decide) (fun j hj => by
    by_cases e : j = 50
    · subst e; rfl
    · rw [if_neg e]; unfold hc cm; by_cases h1 : j < 40 <;> by_cases h2 : j < 51 <;> simp only [h1, h2, if_true, if_false] <;> (first | rfl | (have hj2 : j = 40 ∨ j = 41 ∨ j = 42 ∨ j = 43 ∨ j = 44 ∨ j = 45 ∨ j = 46 ∨ j = 47 ∨ j = 48 ∨ j = 49 := by omega) <;> rcases hj2 with rfl | rfl | rfl | rfl | rfl | rfl | rfl | rfl | rfl | rfl <;> rfl))
theorem pm_th (v : Int32) : rx_p (hp sc X (cm n th mc pk kd td fm pr sz rw tu pe tr as) w g) 40 3 0 (.int v) = some (hp sc X (cm n v mc pk kd td fm pr sz rw tu pe tr as) w g) := hp_p (by decide) hm_40 (by simp) (fun j _ => by
    by_cases e : j = 40
    · subst e; rfl
    · rw [if_neg e]; unfold hc cm; simp only [e, if_false])
theorem pm_mc (v : Int32) : rx_p (hp sc X (cm n th mc pk kd td fm pr sz rw tu pe tr as) w g) 40 3 9 (.int v) = some (hp sc X (cm n th v pk kd td fm pr sz rw tu pe tr as) w g) := hp_p (by decide) hm_40 (by simp) (fun j _ => by
    by_cases e : j = 40
    · subst e; rfl
    · rw [if_neg e]; unfold hc cm; simp only [e, if_false])
theorem pm_pk (v : Int32) : rx_p (hp sc X (cm n th mc pk kd td fm pr sz rw tu pe tr as) w g) 40 3 13 (.int v) = some (hp sc X (cm n th mc v kd td fm pr sz rw tu pe tr as) w g) := hp_p (by decide) hm_40 (by simp) (fun j _ => by
    by_cases e : j = 40
    · subst e; rfl
    · rw [if_neg e]; unfold hc cm; simp only [e, if_false])
end HM
theorem aw_0 {sc : Nat × (Nat → Int32)} {X M : Nat → rx_C} {w : Nat → Int64} {g : List rx_C} : rx_aJ (hp sc X M w g) 51 0 = some (w 0) := hp_aJ (i := 0) (by decide) (show hc X M w 51 = aJ 1 w from rfl) (by decide) (by decide)
theorem sw_0 {sc : Nat × (Nat → Int32)} {X M : Nat → rx_C} {w : Nat → Int64} {g : List rx_C} (x : Int64) : rx_sJ (hp sc X M w g) 51 0 x = some (hp sc X M (vp_updL w 0 x) g) := hp_sJ (i := 0) (by decide) (show hc X M w 51 = aJ 1 w from rfl) (by decide) (by decide) (fun j hj => by
  by_cases e : j = 51
  · subst e; rfl
  · rw [if_neg e]; unfold hc; by_cases h1 : j < 40 <;> by_cases h2 : j < 51 <;> simp only [h1, h2, if_true, if_false]; omega)
