/-! ===== Rows ===== -/
def refr (k : Int32) : Int32 := if k = -2 then -11 else if k < 6 then -12 else 0
theorem plR_row {n : Nat} {q : PL} {k t : Int32} {f r : Int64} {m : Int32} {row row' : Nat → Int64} (h : plR n q k t f r m row) (e : ∀ i, i < 64 → row i = row' i) : plR n q k t f r m row' := by
  refine ⟨h.1, ?_⟩
  rcases h.2 with h2 | h2 | h2
  · exact Or.inl h2
  · exact Or.inr (Or.inl h2)
  · obtain ⟨j, hj, hk, l, hl, h3, h4, h5⟩ := h2
    exact Or.inr (Or.inr ⟨j, hj, hk, l, hl, h3, h4, fun i hi => (h5 i hi).trans (e i hi)⟩)
theorem row_of {n : Nat} {q : PL} {k t : Int32} {f r : Int64} {m : Int32} {row : Nat → Int64} (h : plR n q k t f r m row) (h0 : refr k = 0) : rowR q k m row := by
  rcases h.2 with h2 | h2 | h2
  · rw [h2] at h0; exact absurd h0 (by decide)
  · obtain ⟨j, hj, hk, _⟩ := h2
    have n2 : ¬ nI j = -2 := fun e => nI_pos (show j < 2 ^ 31 by omega) (by rw [e]; decide)
    unfold refr at h0
    rw [hk, if_neg n2, if_pos (show nI j < 6 from nI_lt (b := 6) hj (by decide))] at h0
    exact absurd h0 (by decide)
  · exact h2
theorem refr_row {k : Int32} {j : Nat} (hk : k = nI j) (hj : j = 6 ∨ j = 7 ∨ j = 8) : ¬ k = -2 ∧ ¬ k < 6 := by
  rw [hk]
  rcases hj with rfl | rfl | rfl <;> decide
def zRo (f : Nat → Int64) : Nat → Nat → Int64
  | 0 => f
  | i + 1 => vp_updL (zRo f i) i 0
theorem zRo_is (f : Nat → Int64) {j : Nat} : ∀ {i : Nat}, j < i → zRo f i j = 0
  | 0, h => by omega
  | i + 1, h => by
    show vp_updL (zRo f i) i 0 j = 0
    by_cases e : j = i
    · subst e; exact pk_uLs
    · rw [pk_uLn e]; exact zRo_is f (by omega)
def rS (f : Nat → Int64) (p : Nat) : Nat → Nat → Int64
  | 0 => f
  | i + 1 => vp_updL (rS f p i) (64 * p + i) 0
theorem rS_is (f : Nat → Int64) {p j : Nat} : ∀ {i : Nat}, j < i → rS f p i (64 * p + j) = 0
  | 0, h => by omega
  | i + 1, h => by
    show vp_updL (rS f p i) (64 * p + i) 0 (64 * p + j) = 0
    by_cases e : j = i
    · subst e; exact pk_uLs
    · rw [pk_uLn (by omega)]; exact rS_is f (by omega)
theorem rS_out (f : Nat → Int64) {p x : Nat} (h : x < 64 * p ∨ 64 * p + 64 ≤ x) : ∀ {i : Nat}, i ≤ 64 → rS f p i x = f x
  | 0, _ => rfl
  | i + 1, hi => by
    show vp_updL (rS f p i) (64 * p + i) 0 x = f x
    rw [pk_uLn (by omega)]; exact rS_out f h (by omega)
theorem i64 {p i : Nat} : (64 : Int32) * nI p + nI i = nI (64 * p + i) := by rw [show (64 : Int32) = nI 64 from rfl, pk_mul, nI_add]
section B86
variable {sc : Nat × (Nat → Int32)} {n : Nat} {cl : Int32} {P : Nat → PL} {ly : Nat → Int64} {sp st : Nat → Int32} {sk : Int32} {sd : Nat → Int32} {sm : Nat → Int64} {X M : Nat → rx_C} {w : Nat → Int64} {g : List rx_C} {th mc pk : Int32} {kd td : Nat → Int32} {fm pr : Nat → Int64} {sz : Nat → Int32} {ro : Nat → Int64} {tu pe tr : Nat → Int32} {as : Nat → Int64}
theorem f_rowRef_eq (F : Nat × Nat) {p : Nat} (h : p < 16) : f_X6_rowRefusal F 0 (nI p) (hp sc (cx n cl P ly sp st sk sd sm) M w g) = some (refr (P p).1, (hp sc (cx n cl P ly sp st sk sd sm) M w g)) := by
  unfold f_X6_rowRefusal f_X6_rowRefusal_0 refr
  simp only [ck_0, Option.bind_some, f_isPlace_yes F 0 h, ne10, if_false, gx_shelf, ax_shelf h, gp_ho h, ck_P h, f_isRow_eq F h]
  by_cases h1 : (P p).1 = -2
  · rw [if_pos h1, if_pos h1]
  · rw [if_neg h1, if_neg h1]
    by_cases h2 : (P p).1 < 6
    · rw [if_pos h2, if_pos h2, if_pos rfl]
    · rw [if_neg h2, if_neg h2, if_neg ne10]
theorem f_becomeRow_eq {F : Nat × Nat} (hF : 100000 ≤ F.1) {p : Nat} (h : p < 16) (s m : Int32) : f_X4_becomeRow F (2 + 2 * p) s m (hp sc (cx n cl P ly sp st sk sd sm) M w g) = some (hp sc (cx n (cl) (updP P p (s, (P p).2.1, (P p).2.2.1, (P p).2.2.2.1, m, zRo (P p).2.2.2.2.2 64)) ly sp st sk sd sm) M w g) := by
  have key : ∀ k i f, i + k = 64 → k < f → f_X4_becomeRow_12 F f (2 + 2 * p) (nI i) (hp sc (cx n (cl) (updP P p (s, (P p).2.1, (P p).2.2.1, (P p).2.2.2.1, m, zRo (P p).2.2.2.2.2 i)) ly sp st sk sd sm) M w g) = some (hp sc (cx n (cl) (updP P p (s, (P p).2.1, (P p).2.2.1, (P p).2.2.2.1, m, zRo (P p).2.2.2.2.2 64)) ly sp st sk sd sm) M w g) := by
    intro k
    induction k with
    | zero =>
      intro i f hi hf
      obtain ⟨f, rfl⟩ : ∃ g, f = g + 1 := ⟨f - 1, by omega⟩
      obtain rfl : i = 64 := by omega
      rw [f_X4_becomeRow_12, if_neg (by decide)]
    | succ k ih =>
      intro i f hi hf
      obtain ⟨f, rfl⟩ : ∃ g, f = g + 1 := ⟨f - 1, by omega⟩
      rw [f_X4_becomeRow_12, if_pos (show nI i < 64 from nI_lt (b := 64) (by omega) (by decide)), gp_nu h, Option.bind_some, sx_nu h (by omega), Option.bind_some, updP_same, updP_twice, nI_1]
      exact ih (i + 1) f (by omega) (by omega)
  unfold f_X4_becomeRow f_X4_becomeRow_0
  rw [pp_ho h, Option.bind_some, pp_ln h, Option.bind_some, updP_same, updP_twice]
  exact key 64 0 F.1 (by omega) (by omega)
theorem f_mrow_loop {F : Nat × Nat} (hF : 100000 ≤ F.1) {p : Nat} (h : p < 16) : f_X7_row_50 F F.1 40 (nI p) 0 (hp sc X (cm n th mc pk kd td fm pr sz ro tu pe tr as) w g) = some (0, (hp sc X (cm n th (mc) pk (kd) td (fm) pr (sz) (rS ro p 64) tu pe tr (as)) w g)) := by
  have key : ∀ k i f, i + k = 64 → k < f → f_X7_row_50 F f 40 (nI p) (nI i) (hp sc X (cm n th (mc) pk (kd) td (fm) pr (sz) (rS ro p i) tu pe tr (as)) w g) = some (0, (hp sc X (cm n th (mc) pk (kd) td (fm) pr (sz) (rS ro p 64) tu pe tr (as)) w g)) := by
    intro k
    induction k with
    | zero =>
      intro i f hi hf
      obtain ⟨f, rfl⟩ : ∃ g, f = g + 1 := ⟨f - 1, by omega⟩
      obtain rfl : i = 64 := by omega
      rw [f_X7_row_50, if_neg (by decide)]
    | succ k ih =>
      intro i f hi hf
      obtain ⟨f, rfl⟩ : ∃ g, f = g + 1 := ⟨f - 1, by omega⟩
      rw [f_X7_row_50, if_pos (show nI i < 64 from nI_lt (b := 64) (by omega) (by decide)), gm_rw, Option.bind_some, i64, sm_rw (by omega), Option.bind_some, nI_1]
      exact ih (i + 1) f (by omega) (by omega)
  exact key 64 0 F.1 (by omega) (by omega)
theorem rel_row {p : Nat} (hR : relR n cl P ly sp sk sm mc pk kd td fm pr sz ro pe) {s m : Int32} {q : PL} {ro' : Nat → Int64} (h1 : q.1 = s) (h2 : rowR q s m (fun i => ro' (64 * p + i))) (h3 : ∀ x, x < 64 * p ∨ 64 * p + 64 ≤ x → ro' x = ro x) : relR n cl (updP P p q) ly sp sk sm mc pk (upd kd p s) td fm pr (upd sz p m) ro' pe := by
  refine ⟨hR.1, hR.2.1, fun p' hp' => ?_, hR.2.2.2⟩
  by_cases e : p' = p
  · subst e
    rw [updP_same, pk_us, pk_us]
    exact ⟨h1, Or.inr (Or.inr h2)⟩
  · unfold updP
    rw [if_neg e, pk_un e, pk_un e]
    exact plR_row (hR.2.2.1 p' hp') fun i hi => (h3 (64 * p' + i) (by omega)).symm
end B86
theorem upd_self (f : Nat → Int32) (p : Nat) : upd f p (f p) = f := by
  funext k
  by_cases e : k = p
  · subst e; exact pk_us
  · exact pk_un e
theorem upd_same {f : Nat → Int32} {p : Nat} {x : Int32} (h : f p = x) : upd f p x = f := by rw [← h]; exact upd_self f p
theorem st_row {F : Nat × Nat} (hF : 100000 ≤ F.1) {sc : Nat × (Nat → Int32)} {c : Nat} (x y z : Int32) : stepI sc c (f_X6_row F 0 x y z) (f_X7_row F 40 x y z) := by
  refine stepI.mk fun n cl P ly sp st sk sd sm th mc pk kd td fm pr sz ro tu pe tr as w g hR => ?_
  rcases place_or x with ⟨p, hp_, rfl⟩ | hnp
  · by_cases h1 : y < 6
    · refine ⟨-1, cl, P, sp, st, sk, sd, sm, th, mc, pk, kd, td, fm, pr, sz, ro, tu, pe, tr, as, ?_, ?_, hR⟩
      · simp only [f_X6_row, f_X6_row_0, ck_0, Option.bind_some, f_isPlace_yes F _ hp_, ne10, if_false, h1, if_true]
      · simp only [f_X7_row, f_X7_row_0, Option.bind_some, f_mPlace_yes F hp_, ne10, if_false, f_isIn_eq, h1, if_true]
    by_cases h2 : 8 < y
    · refine ⟨-1, cl, P, sp, st, sk, sd, sm, th, mc, pk, kd, td, fm, pr, sz, ro, tu, pe, tr, as, ?_, ?_, hR⟩
      · simp only [f_X6_row, f_X6_row_0, ck_0, Option.bind_some, f_isPlace_yes F _ hp_, ne10, if_false, h1, h2, if_true]
      · simp only [f_X7_row, f_X7_row_0, Option.bind_some, f_mPlace_yes F hp_, ne10, if_false, f_isIn_eq, h1, h2, if_true]
    by_cases h3 : 64 < z
    · refine ⟨-1, cl, P, sp, st, sk, sd, sm, th, mc, pk, kd, td, fm, pr, sz, ro, tu, pe, tr, as, ?_, ?_, hR⟩
      · simp only [f_X6_row, f_X6_row_0, ck_0, Option.bind_some, f_isPlace_yes F _ hp_, ne10, if_false, h1, h2, h3, if_true]
      · simp only [f_X7_row, f_X7_row_0, Option.bind_some, f_mPlace_yes F hp_, ne10, if_false, f_isIn_eq, h1, h2, h3, if_true]
    by_cases h4 : z < 0
    · refine ⟨-14, cl, P, sp, st, sk, sd, sm, th, mc, pk, kd, td, fm, pr, sz, ro, tu, pe, tr, as, ?_, ?_, hR⟩
      · simp only [f_X6_row, f_X6_row_0, ck_0, Option.bind_some, f_isPlace_yes F _ hp_, ne10, if_false, h1, h2, h3, h4, if_true]
      · simp only [f_X7_row, f_X7_row_0, Option.bind_some, f_mPlace_yes F hp_, ne10, if_false, f_isIn_eq, h1, h2, h3, h4, if_true]
    obtain ⟨j, j1, j2, rfl⟩ := num_12 (a := 6) (b := 8) rfl rfl (by decide) (by decide) h1 h2
    obtain ⟨l, hl, rfl⟩ := num_to (m := 64) rfl (by decide) h4 h3
    refine ⟨0, cl, updP P p (nI j, (P p).2.1, (P p).2.2.1, (P p).2.2.2.1, nI l, zRo (P p).2.2.2.2.2 64), sp, st, sk, sd, sm, th, mc, pk, upd kd p (nI j), td, fm, pr, upd sz p (nI l), rS ro p 64, tu, pe, tr, as, ?_, ?_, rel_row hR rfl ⟨j, by omega, rfl, l, hl, rfl, rfl, fun i hi => ?_⟩ (fun x hx => rS_out ro hx (Nat.le_refl _))⟩
    · simp only [f_X6_row, f_X6_row_0, ck_0, Option.bind_some, f_isPlace_yes F _ hp_, ne10, if_false, h1, h2, h3, h4, gx_shelf, ax_shelf hp_, ck_P hp_, f_becomeRow_eq hF hp_]
    · simp only [f_X7_row, f_X7_row_0, Option.bind_some, f_mPlace_yes F hp_, ne10, if_false, f_isIn_eq, h1, h2, h3, h4, gm_kd, sm_kd hp_, gm_sz, sm_sz hp_, f_mrow_loop hF hp_]
    · show zRo (P p).2.2.2.2.2 64 i = rS ro p 64 (64 * p + i)
      rw [zRo_is _ hi, rS_is _ hi]
  · refine ⟨-1, cl, P, sp, st, sk, sd, sm, th, mc, pk, kd, td, fm, pr, sz, ro, tu, pe, tr, as, ?_, ?_, hR⟩
    · simp only [f_X6_row, f_X6_row_0, ck_0, Option.bind_some, f_isPlace_no F _ hnp, if_true]
    · simp only [f_X7_row, f_X7_row_0, Option.bind_some, f_mPlace_no F hnp, if_true]
def cutV (k : Int32) (v : Int64) : Int64 := if k = 6 then Int32.toInt64 ((Int32.toInt8 (Int64.toInt32 v)).toInt32) else if k = 7 then Int32.toInt64 (Int64.toInt32 v) else v
theorem st_put {F : Nat × Nat} {sc : Nat × (Nat → Int32)} {c : Nat} (x y : Int32) (v : Int64) : stepI sc c (f_X6_put F 0 x y v) (f_X7_put F 40 x y v) := by
  refine stepI.mk fun n cl P ly sp st sk sd sm th mc pk kd td fm pr sz ro tu pe tr as w g hR => ?_
  rcases place_or x with ⟨p, hp_, rfl⟩ | hnp
  · have hkp := (hR.2.2.1 p hp_).1
    by_cases h0 : refr (kd p) = 0
    · obtain ⟨j, hj, hk, l, hl, h1, h2, h3⟩ := row_of (hR.2.2.1 p hp_) h0
      obtain ⟨n2, n6⟩ := refr_row hk hj
      have r0 : refr (P p).1 = 0 := by rw [hkp]; exact h0
      by_cases hy : y < 0
      · refine ⟨-13, cl, P, sp, st, sk, sd, sm, th, mc, pk, kd, td, fm, pr, sz, ro, tu, pe, tr, as, ?_, ?_, hR⟩
        · simp only [f_X6_put, f_X6_put_0, ck_0, Option.bind_some, f_rowRef_eq F hp_, r0, h0, if_true, gx_shelf, ax_shelf hp_, hy]
        · simp only [f_X7_put, f_X7_put_0, Option.bind_some, f_mPlace_yes F hp_, ne10, if_false, gm_kd, am_kd hp_, n2, n6, gm_sz, am_sz hp_, f_isIn_eq, hy, if_true]
      obtain ⟨i, hi, rfl⟩ := nI_of hy
      by_cases hil : i < l
      · have a1 : nI i < (P p).2.2.2.2.1 := by rw [h1]; exact nI_lt hil (by omega)
        have a2 : ¬ sz p - 1 < nI i := by rw [h2, show (1 : Int32) = nI 1 from rfl, pk_sub (by omega)]; exact nI_nlt (by omega) (by omega)
        refine ⟨0, cl, updP P p ((P p).1, (P p).2.1, (P p).2.2.1, (P p).2.2.2.1, (P p).2.2.2.2.1, vp_updL (P p).2.2.2.2.2 i (cutV (kd p) v)), sp, st, sk, sd, sm, th, mc, pk, kd, td, fm, pr, sz, vp_updL ro (64 * p + i) (cutV (kd p) v), tu, pe, tr, as, ?_, ?_, ?_⟩
        · simp only [f_X6_put, f_X6_put_0, ck_0, Option.bind_some, f_rowRef_eq F hp_, r0, h0, if_true, gx_shelf, ax_shelf hp_, hy, if_false, gp_ln hp_, a1, gp_nu hp_, gp_ho hp_, sx_nu hp_ (show i < 64 by omega), hkp]
          unfold cutV
          by_cases e6 : kd p = 6
          · rw [if_pos e6, if_pos e6]
          · rw [if_neg e6, if_neg e6]
            by_cases e7 : kd p = 7
            · rw [if_pos e7, if_pos e7]
            · rw [if_neg e7, if_neg e7]
        · simp only [f_X7_put, f_X7_put_0, Option.bind_some, f_mPlace_yes F hp_, ne10, if_false, gm_kd, am_kd hp_, n2, n6, gm_sz, am_sz hp_, f_isIn_eq, hy, a2, gm_rw, i64, sm_rw (show 64 * p + i < 1024 by omega)]
          unfold cutV
          by_cases e6 : kd p = 6
          · rw [if_pos e6, if_pos e6]
          · rw [if_neg e6, if_neg e6]
            by_cases e7 : kd p = 7
            · rw [if_pos e7, if_pos e7]
            · rw [if_neg e7, if_neg e7]
        · have r := rel_row (p := p) (s := kd p) (m := sz p) (q := ((P p).1, (P p).2.1, (P p).2.2.1, (P p).2.2.2.1, (P p).2.2.2.2.1, vp_updL (P p).2.2.2.2.2 i (cutV (kd p) v))) (ro' := vp_updL ro (64 * p + i) (cutV (kd p) v)) hR hkp ⟨j, hj, hk, l, hl, h1, h2, fun i' hi' => by
            show vp_updL (P p).2.2.2.2.2 i (cutV (kd p) v) i' = vp_updL ro (64 * p + i) (cutV (kd p) v) (64 * p + i')
            by_cases e : i' = i
            · subst e; rw [pk_uLs, pk_uLs]
            · rw [pk_uLn e, pk_uLn (by omega)]; exact h3 i' hi'⟩ (fun x hx => pk_uLn (by omega))
          rw [upd_self, upd_self] at r
          exact r
      · have a1 : ¬ nI i < (P p).2.2.2.2.1 := by rw [h1]; exact nI_nlt (by omega) hi
        have a2 : sz p - 1 < nI i := by
          rw [h2]
          by_cases e : l = 0
          · rw [e]
            have : nI 0 - 1 < 0 := by decide
            have h0' := nI_pos' hi
            rw [Int32.lt_iff_toInt_lt] at this ⊢
            rw [Int32.le_iff_toInt_le] at h0'
            omega
          · rw [show (1 : Int32) = nI 1 from rfl, pk_sub (by omega)]; exact nI_lt (by omega) hi
        refine ⟨-13, cl, P, sp, st, sk, sd, sm, th, mc, pk, kd, td, fm, pr, sz, ro, tu, pe, tr, as, ?_, ?_, hR⟩
        · simp only [f_X6_put, f_X6_put_0, ck_0, Option.bind_some, f_rowRef_eq F hp_, r0, h0, if_true, gx_shelf, ax_shelf hp_, hy, if_false, gp_ln hp_, a1]
        · simp only [f_X7_put, f_X7_put_0, Option.bind_some, f_mPlace_yes F hp_, ne10, if_false, gm_kd, am_kd hp_, n2, n6, gm_sz, am_sz hp_, f_isIn_eq, hy, a2, if_true]
    · have r0 : ¬ refr (P p).1 = 0 := by rw [hkp]; exact h0
      refine ⟨refr (kd p), cl, P, sp, st, sk, sd, sm, th, mc, pk, kd, td, fm, pr, sz, ro, tu, pe, tr, as, ?_, ?_, hR⟩
      · simp only [f_X6_put, f_X6_put_0, ck_0, Option.bind_some, f_rowRef_eq F hp_, r0, h0, if_false, hkp]
      · simp only [f_X7_put, f_X7_put_0, Option.bind_some, f_mPlace_yes F hp_, ne10, if_false, gm_kd, am_kd hp_]
        unfold refr at h0 ⊢
        by_cases e : kd p = -2
        · rw [if_pos e, if_pos e]
        · rw [if_neg e] at h0 ⊢
          rw [if_neg e]
          by_cases e2 : kd p < 6
          · rw [if_pos e2, if_pos e2]
          · rw [if_neg e2] at h0; exact absurd rfl h0
  · refine ⟨-1, cl, P, sp, st, sk, sd, sm, th, mc, pk, kd, td, fm, pr, sz, ro, tu, pe, tr, as, ?_, ?_, hR⟩
    · simp only [f_X6_put, f_X6_put_0, ck_0, Option.bind_some, f_rowRef_out F hnp, nm10, if_false]
    · simp only [f_X7_put, f_X7_put_0, Option.bind_some, f_mPlace_no F hnp, if_true]
/-! copy -/
theorem hp_cp {sc : Nat × (Nat → Int32)} {X X' M M' : Nat → rx_C} {w w' : Nat → Int64} {g : List rx_C} {r0 r1 sp dp m n0 n1 : Nat} {f h : Nat → Int64} (h0 : r0 < 52) (h1 : r1 < 52) (e0 : hc X M w r0 = aJ n0 f) (e1 : hc X M w r1 = aJ n1 h) (hs : sp + m ≤ n0) (hd : dp + m ≤ n1) (hn0 : n0 < 2 ^ 31) (hn1 : n1 < 2 ^ 31) (h' : ∀ j, j < 52 → hc X' M' w' j = if j = r1 then aJ n1 (va_cpy f h sp dp m) else hc X M w j) : rx_cp (hp sc X M w g) r0 (nI sp) r1 (nI dp) (nI m) = some (hp sc X' M' w' g) := by
  unfold hp rx_cp
  simp only [hp_get h0, hp_get h1, e0, e1, aJ]
  rw [if_neg (by
    rw [nI_clamp (by omega), nI_clamp (by omega), nI_clamp (by omega)]
    have a := nI_pos (n := sp) (by omega)
    have b := nI_pos (n := dp) (by omega)
    have c := nI_pos (n := m) (by omega)
    rintro (q | q | q | q | q)
    · exact a q
    · exact b q
    · exact c q
    · omega
    · omega), nI_clamp (by omega), nI_clamp (by omega), nI_clamp (by omega)]
  exact congrArg some (hp_set h1 h')
section B87
variable {sc : Nat × (Nat → Int32)} {n : Nat} {cl : Int32} {P : Nat → PL} {ly : Nat → Int64} {sp st : Nat → Int32} {sk : Int32} {sd : Nat → Int32} {sm : Nat → Int64} {X M : Nat → rx_C} {w : Nat → Int64} {g : List rx_C} {th mc pk : Int32} {kd td : Nat → Int32} {fm pr : Nat → Int64} {sz : Nat → Int32} {ro : Nat → Int64} {tu pe tr : Nat → Int32} {as : Nat → Int64}
theorem f_copy_cls {p o i j m : Nat} (hp_ : p < 16) (ho_ : o < 16) (hi : i + m ≤ 64) (hj : j + m ≤ 64) : rx_cp (hp sc (cx n cl P ly sp st sk sd sm) M w g) (3 + 2 * p) (nI i) (3 + 2 * o) (nI j) (nI m) = some (hp sc (cx n (cl) (updP P o ((P o).1, (P o).2.1, (P o).2.2.1, (P o).2.2.2.1, (P o).2.2.2.2.1, va_cpy (P p).2.2.2.2.2 (P o).2.2.2.2.2 i j m)) ly sp st sk sd sm) M w g) :=
  hp_cp (by omega) (by omega) (hx_N hp_) (hx_N ho_) hi hj (by decide) (by decide) (fun k hk => hx_upd2 ho_ _ k hk)
theorem f_hasStr (F : Nat × Nat) {p l : Nat} (hp_ : p < 16) (hl : l ≤ 64) (h : (P p).2.2.2.2.1 = nI l) (i m : Int32) : f_X4_hasStretch F (2 + 2 * p) i m (hp sc (cx n cl P ly sp st sk sd sm) M w g) = some (if ¬ i < 0 ∧ ¬ m < 0 ∧ ¬ nI l < i ∧ ¬ nI l - i < m then 1 else 0, (hp sc (cx n cl P ly sp st sk sd sm) M w g)) := by
  unfold f_X4_hasStretch f_X4_hasStretch_0
  by_cases h1 : i < 0
  · rw [if_pos h1, if_neg (fun q => q.1 h1)]
  · rw [if_neg h1]
    by_cases h2 : m < 0
    · rw [if_pos h2, if_neg (fun q => q.2.1 h2)]
    · rw [if_neg h2, gp_ln hp_, Option.bind_some, h]
      by_cases h3 : nI l < i
      · rw [if_pos h3, if_neg (fun q => q.2.2.1 h3)]
      · rw [if_neg h3, Option.bind_some]
        by_cases h4 : nI l - i < m
        · rw [if_pos h4, if_neg (fun q => q.2.2.2 h4)]
        · rw [if_neg h4, if_pos ⟨h1, h2, h3, h4⟩]
/-- a stretch, as the model asks for it -/
theorem str_iff {l : Nat} (hl : l ≤ 64) {i m : Int32} (h1 : ¬ i < 0) (h2 : ¬ m < 0) : (¬ nI l < i ∧ ¬ nI l - i < m) ↔ ¬ nI l - m < i := by
  obtain ⟨a, ha, rfl⟩ := nI_of h1
  obtain ⟨b, hb, rfl⟩ := nI_of h2
  have sb : ∀ {z : Nat}, z < 2 ^ 31 → (nI l - nI z).toInt = (l : Int) - z := fun {z} hz => by
    rw [Int32.toInt_sub, nI_toInt (by omega), nI_toInt hz]
    refine Int.bmod_eq_of_le ?_ ?_ <;> omega
  rw [Int32.lt_iff_toInt_lt, Int32.lt_iff_toInt_lt, Int32.lt_iff_toInt_lt, sb ha, sb hb, nI_toInt (by omega), nI_toInt ha, nI_toInt hb]
  omega
theorem str_get {l : Nat} (hl : l ≤ 64) {i m : Int32} (h1 : ¬ i < 0) (h2 : ¬ m < 0) (h3 : ¬ nI l < i) (h4 : ¬ nI l - i < m) : ∃ a b, i = nI a ∧ m = nI b ∧ a + b ≤ l := by
  obtain ⟨a, ha, rfl⟩ := nI_of h1
  obtain ⟨b, hb, rfl⟩ := nI_of h2
  have al : a ≤ l := Nat.not_lt.mp fun q => h3 (nI_lt q ha)
  rw [pk_sub al] at h4
  have bl : b ≤ l - a := Nat.not_lt.mp fun q => h4 (nI_lt q hb)
  exact ⟨a, b, rfl, rfl, by omega⟩
def asS (ro as : Nat → Int64) (b : Nat) : Nat → Nat → Int64
  | 0 => as
  | k + 1 => vp_updL (asS ro as b k) k (ro (b + k))
theorem asS_is (ro as : Nat → Int64) (b : Nat) {j : Nat} : ∀ {k : Nat}, j < k → asS ro as b k j = ro (b + j)
  | 0, h => by omega
  | k + 1, h => by
    show vp_updL (asS ro as b k) k (ro (b + k)) j = _
    by_cases e : j = k
    · subst e; exact pk_uLs
    · rw [pk_uLn e]; exact asS_is ro as b (by omega)
def cpS (ro as : Nat → Int64) (b : Nat) : Nat → Nat → Int64
  | 0 => ro
  | k + 1 => vp_updL (cpS ro as b k) (b + k) (as k)
theorem cpS_in (ro as : Nat → Int64) (b : Nat) {j : Nat} : ∀ {k : Nat}, j < k → cpS ro as b k (b + j) = as j
  | 0, h => by omega
  | k + 1, h => by
    show vp_updL (cpS ro as b k) (b + k) (as k) (b + j) = _
    by_cases e : j = k
    · subst e; exact pk_uLs
    · rw [pk_uLn (by omega)]; exact cpS_in ro as b (by omega)
theorem cpS_out (ro as : Nat → Int64) {b x : Nat} : ∀ {k : Nat}, (x < b ∨ b + k ≤ x) → cpS ro as b k x = ro x
  | 0, _ => rfl
  | k + 1, h => by
    show vp_updL (cpS ro as b k) (b + k) (as k) x = _
    rw [pk_uLn (by omega)]; exact cpS_out ro as (by omega)
theorem f_mcopy {F : Nat × Nat} (hF : 100000 ≤ F.1) {p o i j m : Nat} (hp_ : p < 16) (ho_ : o < 16) (hi : i + m ≤ 64) (hj : j + m ≤ 64) : f_X7_copy_117 F F.1 40 (nI p) (nI i) (nI o) (nI j) (nI m) 0 (hp sc X (cm n th mc pk kd td fm pr sz ro tu pe tr as) w g) = some (nI m, (hp sc X (cm n th (mc) pk (kd) td (fm) pr (sz) (cpS ro (asS ro as (64 * p + i) m) (64 * o + j) m) tu pe tr (asS ro as (64 * p + i) m)) w g)) := by
  have e3 : ∀ a b c : Nat, (64 : Int32) * nI a + nI b + nI c = nI (64 * a + b + c) := fun a b c => by rw [i64, nI_add]
  have k2 : ∀ A : Nat → Int64, ∀ k a f, a + k = m → k < f → f_X7_copy_154 F f 40 (nI o) (nI j) (nI m) (nI a) (hp sc X (cm n th (mc) pk (kd) td (fm) pr (sz) (cpS ro A (64 * o + j) a) tu pe tr (A)) w g) = some (nI m, (hp sc X (cm n th (mc) pk (kd) td (fm) pr (sz) (cpS ro A (64 * o + j) m) tu pe tr (A)) w g)) := by
    intro A k
    induction k with
    | zero =>
      intro a f ha hf
      obtain ⟨f, rfl⟩ : ∃ g, f = g + 1 := ⟨f - 1, by omega⟩
      obtain rfl : a = m := by omega
      rw [f_X7_copy_154, if_neg (nI_nlt (Nat.le_refl _) (by omega))]
    | succ k ih =>
      intro a f ha hf
      obtain ⟨f, rfl⟩ : ∃ g, f = g + 1 := ⟨f - 1, by omega⟩
      rw [f_X7_copy_154, if_pos (nI_lt (by omega) (by omega)), gm_rw, Option.bind_some, gm_as, Option.bind_some, am_as (by omega), Option.bind_some, e3, sm_rw (by omega), Option.bind_some, nI_1]
      exact ih (a + 1) f (by omega) (by omega)
  have k1 : ∀ k a f, a + k = m → k < f → f_X7_copy_117 F f 40 (nI p) (nI i) (nI o) (nI j) (nI m) (nI a) (hp sc X (cm n th (mc) pk (kd) td (fm) pr (sz) (ro) tu pe tr (asS ro as (64 * p + i) a)) w g) = some (nI m, (hp sc X (cm n th (mc) pk (kd) td (fm) pr (sz) (cpS ro (asS ro as (64 * p + i) m) (64 * o + j) m) tu pe tr (asS ro as (64 * p + i) m)) w g)) := by
    intro k
    induction k with
    | zero =>
      intro a f ha hf
      obtain ⟨f, rfl⟩ : ∃ g, f = g + 1 := ⟨f - 1, by omega⟩
      obtain rfl : a = m := by omega
      rw [f_X7_copy_117, if_neg (nI_nlt (Nat.le_refl _) (by omega))]
      exact k2 _ a 0 F.1 (by omega) (by omega)
    | succ k ih =>
      intro a f ha hf
      obtain ⟨f, rfl⟩ : ∃ g, f = g + 1 := ⟨f - 1, by omega⟩
      rw [f_X7_copy_117, if_pos (nI_lt (by omega) (by omega)), gm_as, Option.bind_some, gm_rw, Option.bind_some, e3, am_rw (by omega), Option.bind_some, sm_as (by omega), Option.bind_some, nI_1]
      exact ih (a + 1) f (by omega) (by omega)
  exact k1 m 0 F.1 (by omega) (by omega)
end B87
