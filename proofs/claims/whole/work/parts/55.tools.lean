/-! ===== Tools for the calls ===== -/
theorem bf : (if false = true then (1 : Int32) else 0) = 0 := rfl
theorem bt : (if true = true then (1 : Int32) else 0) = 1 := rfl
theorem n01 : ¬ (0 : Int32) = 1 := by decide
theorem nm10 : ¬ (-1 : Int32) = 0 := by decide
theorem or_as (a b c : Int64) : a ||| b ||| c = a ||| (b ||| c) := qb_ext fun j _ => by simp only [qb_or, Bool.or_assoc]
theorem oR_t {h : Nat → Int64} {i : Nat} {e : Int64} (a : Int64) (hh : h i = e) : (a ||| oR h i) ||| e = a ||| oR h (i + 1) := by rw [oR_succ, hh, or_as]
theorem oR_f {h : Nat → Int64} {i : Nat} (a : Int64) (hh : h i = 0) : a ||| oR h i = a ||| oR h (i + 1) := by rw [oR_succ, hh, or_0]
theorem oR_t0 {h : Nat → Int64} {i : Nat} {e : Int64} (hh : h i = e) : oR h i ||| e = oR h (i + 1) := by rw [oR_succ, hh]
theorem oR_f0 {h : Nat → Int64} {i : Nat} (hh : h i = 0) : oR h i = oR h (i + 1) := by rw [oR_succ, hh, or_0]
theorem nI_and {x y : Nat} (hx : x < 64) (hy : y < 64) : nI x &&& nI y = nI (x &&& y) := by
  have h : ∀ x, x < 64 → ∀ y, y < 64 → nI x &&& nI y = nI (x &&& y) := by decide +kernel
  exact h x hx y hy
theorem nI_or {x y : Nat} (hx : x < 64) (hy : y < 64) : nI x ||| nI y = nI (x ||| y) := by
  have h : ∀ x, x < 64 → ∀ y, y < 64 → nI x ||| nI y = nI (x ||| y) := by decide +kernel
  exact h x hx y hy
theorem nI_xor {x y : Nat} (hx : x < 64) (hy : y < 64) : nI x ^^^ nI y = nI (x ^^^ y) := by
  have h : ∀ x, x < 64 → ∀ y, y < 64 → nI x ^^^ nI y = nI (x ^^^ y) := by decide +kernel
  exact h x hx y hy
theorem and_l {x y m : Nat} (hx : x < m) : x &&& y < m := Nat.lt_of_le_of_lt Nat.and_le_left hx
theorem and_r {x y m : Nat} (hy : y < m) : x &&& y < m := Nat.lt_of_le_of_lt Nat.and_le_right hy
theorem or_l {x y n : Nat} (hx : x < 2 ^ n) (hy : y < 2 ^ n) : x ||| y < 2 ^ n := Nat.or_lt_two_pow hx hy
theorem xor_l {x y n : Nat} (hx : x < 2 ^ n) (hy : y < 2 ^ n) : x ^^^ y < 2 ^ n := Nat.xor_lt_two_pow hx hy
theorem fits_oR {M m : Nat} {h : Nat → Int64} (hh : ∀ x, x < m → fits M (h x)) : fits M (oR h m) := fun j hj => by
  cases q : qb (oR h m) j
  · rfl
  · obtain ⟨x, hx, q2⟩ := (qb_oR h j m).mp q
    rw [hh x hx j hj] at q2
    cases q2
theorem fits_if {M : Nat} {c : Bool} {w : Int64} (h : c = true → fits M w) : fits M (if c = true then w else 0) := fun j hj => by
  cases c
  · exact qb_0 j
  · exact h rfl j hj
theorem fits_one {M x : Nat} (hx : x < M) (hM : M ≤ 64) : fits M (one x) := fun j hj => by
  rw [qb_one (by omega)]
  exact decide_eq_false (by omega)
theorem fits_and1 {M : Nat} {a b : Int64} (h : fits M a) : fits M (a &&& b) := fun j hj => by rw [qb_and, h j hj]; rfl
theorem fits_and2 {M : Nat} {a b : Int64} (h : fits M b) : fits M (a &&& b) := fun j hj => by rw [qb_and, h j hj]; cases qb a j <;> rfl
theorem fits_or {M : Nat} {a b : Int64} (h : fits M a) (h2 : fits M b) : fits M (a ||| b) := fun j hj => by rw [qb_or, h j hj, h2 j hj]; rfl
theorem fits_xor {M : Nat} {a b : Int64} (h : fits M a) (h2 : fits M b) : fits M (a ^^^ b) := fun j hj => by rw [qb_xor, h j hj, h2 j hj]; rfl
theorem fits_lt {M : Nat} {a : Int64} (h : fits M a) {j : Nat} (q : qb a j = true) : j < M := Nat.not_le.mp fun k => by rw [h j k] at q; cases q
theorem kinv_free (t : Nat) (f r : Int64) : kinv 0 t f r := ⟨fun h => by omega, fun h => by omega, fun h => by omega, fun h => by omega, fun h => by omega⟩
theorem kinv_layer {t : Nat} {f : Int64} (r : Int64) (h : ∀ x, qb f x = true → pc x = t) : kinv 4 t f r := ⟨fun h => by omega, fun h => by omega, fun h => by omega, fun _ => h, fun h => by omega⟩
theorem kinv_down {f : Int64} (t : Nat) (r : Int64) (h : ∀ x y, qb f x = true → y &&& x = y → qb f y = true) : kinv 3 t f r := ⟨fun h => by omega, fun h => by omega, fun _ => h, fun h => by omega, fun h => by omega⟩
theorem kinv_apart {f : Int64} (t : Nat) (r : Int64) (h : ∀ x y, qb f x = true → qb f y = true → x ≠ y → ¬ x &&& y = x) : kinv 1 t f r := ⟨fun _ => h, fun h => by omega, fun h => by omega, fun h => by omega, fun h => by omega⟩
section B55
variable {sc : Nat × (Nat → Int32)} {n : Nat} {cl : Int32} {P : Nat → PL} {ly : Nat → Int64} {sp st : Nat → Int32} {sk : Int32} {sd : Nat → Int32} {sm : Nat → Int64} {X M : Nat → rx_C} {w : Nat → Int64} {g : List rx_C} {th mc pk : Int32} {kd td : Nat → Int32} {fm pr : Nat → Int64} {sz : Nat → Int32} {ro : Nat → Int64} {tu pe tr : Nat → Int32} {as : Nat → Int64}
theorem rel_keep {p : Nat} {k t1 t2 : Int32} {f : Int64} (hR : relR n cl P ly sp sk sm mc pk kd td fm pr sz ro pe) (j : Nat) (hj : j < 5) (hk : k = nI j) (hfi : fits (2 ^ n) f) (t' : Nat) (ht' : t' ≤ n) (htt : (j = 2 ∨ j = 4) → t1 = nI t' ∧ t2 = nI t') (hkv : kinv j t' f 0) : relR n cl (updP P p (k, t1, f, 0, (P p).2.2.2.2)) ly sp sk sm mc pk (upd kd p k) (upd td p t2) (vp_updL fm p f) (vp_updL pr p 0) sz ro pe :=
  ⟨hR.1, hR.2.1, plR_upd hR.2.2.1 ⟨rfl, Or.inr (Or.inl ⟨j, by omega, hk, rfl, hfi, t', ht', fun h => htt (by omega), fun h => by omega, hkv⟩)⟩, hR.2.2.2⟩
theorem rel_free {p : Nat} {t1 t2 : Int32} {f : Int64} (hR : relR n cl P ly sp sk sm mc pk kd td fm pr sz ro pe) (hfi : fits (2 ^ n) f) : relR n cl (updP P p (0, t1, f, 0, (P p).2.2.2.2)) ly sp sk sm mc pk (upd kd p 0) (upd td p t2) (vp_updL fm p f) (vp_updL pr p 0) sz ro pe :=
  rel_keep hR 0 (by decide) rfl hfi 0 (by omega) (fun h => by omega) (kinv_free _ _ _)
theorem f_rowRef_out (F : Nat × Nat) {x : Int32} (h : ∀ p, p < 16 → ¬ x = nI p) : f_X6_rowRefusal F 0 x (hp sc (cx n cl P ly sp st sk sd sm) M w g) = some (-1, (hp sc (cx n cl P ly sp st sk sd sm) M w g)) := by
  unfold f_X6_rowRefusal f_X6_rowRefusal_0
  rw [ck_0, Option.bind_some, f_isPlace_no F 0 h, Option.bind_some, if_pos rfl]
end B55
