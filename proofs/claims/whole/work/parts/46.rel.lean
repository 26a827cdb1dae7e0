/-! ===== What stands between the class's state and the model's ===== -/
/-- a family is of its kind -/
def kinv (j t : Nat) (f r : Int64) : Prop :=
  (j = 1 → ∀ x y, qb f x = true → qb f y = true → x ≠ y → ¬ x &&& y = x) ∧
  (j = 2 ∨ j = 5 → ∀ x y, qb f x = true → qb f y = true → t ≤ pc (x &&& y)) ∧
  (j = 3 → ∀ x y, qb f x = true → y &&& x = y → qb f y = true) ∧
  (j = 4 → ∀ x, qb f x = true → pc x = t) ∧
  (j = 5 → ∀ x y, qb f x = true → qb r y = true → t ≤ pc (x &&& y))
def famR (n : Nat) (q : PL) (k t : Int32) (f r : Int64) : Prop := ∃ j, j < 6 ∧ k = nI j ∧ q.2.2.1 = f ∧ fits (2 ^ n) f ∧ ∃ t', t' ≤ n ∧ ((j = 2 ∨ j = 4 ∨ j = 5) → q.2.1 = nI t' ∧ t = nI t') ∧ (j = 5 → q.2.2.2.1 = r ∧ fits (2 ^ n) r) ∧ kinv j t' f r
def rowR (q : PL) (k m : Int32) (row : Nat → Int64) : Prop := ∃ j, (j = 6 ∨ j = 7 ∨ j = 8) ∧ k = nI j ∧ ∃ l, l ≤ 64 ∧ q.2.2.2.2.1 = nI l ∧ m = nI l ∧ ∀ i, i < 64 → q.2.2.2.2.2 i = row i
def plR (n : Nat) (q : PL) (k t : Int32) (f r : Int64) (m : Int32) (row : Nat → Int64) : Prop := q.1 = k ∧ (k = -2 ∨ famR n q k t f r ∨ rowR q k m row)
/-- the layer of k things, of n -/
def lyr (n k : Nat) : Int64 := oR (fun x => if pc x = k then one x else 0) (2 ^ n)
def grt (n k t : Nat) (f : Int64) : Prop := f = 0 ∨ (f_X5_largest rx_FF rx_FF.2 0 (lyr n k) 0 (nI t) 0 = some f)
def relR (n : Nat) (cl : Int32) (P : Nat → PL) (ly : Nat → Int64) (sp : Nat → Int32) (sk : Int32) (sm : Nat → Int64) (mc pk : Int32) (kd td : Nat → Int32) (fm pr : Nat → Int64) (sz : Nat → Int32) (rw : Nat → Int64) (pe : Nat → Int32) : Prop :=
  (3 ≤ n ∧ n ≤ 6) ∧ cl = mc ∧ (∀ p, p < 16 → plR n (P p) (kd p) (td p) (fm p) (pr p) (sz p) (fun i => rw (64 * p + i))) ∧ (∀ k, k < 7 → ly k = lyr n k) ∧ (∃ c, c ≤ 5 ∧ sk = nI c ∧ pk = nI c ∧ ∀ i, i < c → sp i = pe i) ∧ ∀ k t, 1 ≤ t → t ≤ k → k ≤ n → grt n k t (sm (7 * k + t))
/-- a heap of both, with at most so many cells more -/
def okH (sc : Nat × (Nat → Int32)) (c : Nat) (u : Option rx_H) : Prop := ∃ (n : Nat) (cl : Int32) (P : Nat → PL) (ly : Nat → Int64) (sp st : Nat → Int32) (sk : Int32) (sd : Nat → Int32) (sm : Nat → Int64) (th mc pk : Int32) (kd td : Nat → Int32) (fm pr : Nat → Int64) (sz : Nat → Int32) (rw : Nat → Int64) (tu pe tr : Nat → Int32) (as : Nat → Int64) (w : Nat → Int64) (g : List rx_C),
  u = hp sc (cx n cl P ly sp st sk sd sm) (cm n th mc pk kd td fm pr sz rw tu pe tr as) w g ∧ relR n cl P ly sp sk sm mc pk kd td fm pr sz rw pe ∧ g.length ≤ c ∧ (∀ q ∈ g, q = rx_exc)
/-- one call: the class, then the model; the answers are alike -/
def stepI (sc : Nat × (Nat → Int32)) (c : Nat) (fx fm : Option rx_H → Option (Int32 × Option rx_H)) : Prop := ∀ u, okH sc c u → ∃ (r : Int32) (X M : Nat → rx_C) (w : Nat → Int64) (g : List rx_C) (u2 : Option rx_H), fx u = some (r, hp sc X M w g) ∧ rx_ck (hp sc X M w g) 40 3 = some () ∧ fm (hp sc X M w g) = some (r, u2) ∧ okH sc (c + 1) u2
theorem plR_upd {n : Nat} {P : Nat → PL} {kd td : Nat → Int32} {fm pr : Nat → Int64} {sz : Nat → Int32} {rw : Nat → Int64} (h : ∀ p, p < 16 → plR n (P p) (kd p) (td p) (fm p) (pr p) (sz p) (fun i => rw (64 * p + i))) {p0 : Nat} {q : PL} {k t : Int32} {f r : Int64} (h0 : plR n q k t f r (sz p0) (fun i => rw (64 * p0 + i))) :
    ∀ p, p < 16 → plR n (updP P p0 q p) (upd kd p0 k p) (upd td p0 t p) (vp_updL fm p0 f p) (vp_updL pr p0 r p) (sz p) (fun i => rw (64 * p + i)) := by
  intro p hp
  by_cases e : p = p0
  · subst e
    rw [updP_same, pk_us, pk_us, pk_uLs, pk_uLs]
    exact h0
  · unfold updP
    rw [if_neg e, pk_un e, pk_un e, pk_uLn e, pk_uLn e]
    exact h p hp
