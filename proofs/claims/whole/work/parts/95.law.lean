/-! ===== The law's calls ===== -/
def res (sc : Nat × (Nat → Int32)) (r : Option (Int32 × Option rx_H)) : Prop := ∃ h' : rx_H, r = some (1, some h') ∧ okH sc 600 (some h')
theorem res_ite {sc : Nat × (Nat → Int32)} {p : Prop} {dp : Decidable p} {A B : Option (Int32 × Option rx_H)} (h1 : p → res sc A) (h2 : ¬ p → res sc B) : res sc (if p then A else B) := by
  by_cases h : p
  · rw [if_pos h]; exact h1 h
  · rw [if_neg h]; exact h2 h
theorem okH_mono {sc : Nat × (Nat → Int32)} {c c' : Nat} {u : Option rx_H} (h : okH sc c u) (hc : c ≤ c') : okH sc c' u := by
  obtain ⟨n, cl, P, ly, sp, st, sk, sd, sm, th, mc, pk, kd, td, fm, pr, sz, ro, tu, pe, tr, as, w, g, e, hR, hg, hx⟩ := h
  exact ⟨n, cl, P, ly, sp, st, sk, sd, sm, th, mc, pk, kd, td, fm, pr, sz, ro, tu, pe, tr, as, w, g, e, hR, by omega, hx⟩
section B95
variable {F : Nat × Nat} {sc : Nat × (Nat → Int32)} {c i : Nat} {u : Option rx_H} {K : Nat → Nat → Nat → Nat → Int32 → Option rx_H → Option (Int32 × Option rx_H)}
theorem scr {X M : Nat → rx_C} {w : Nat → Int64} {g : List rx_C} (hL : sc.1 < 1000000) {j : Nat} {x : Int32} (hx : x = nI j) (hj : i + j < sc.1) : rx_aI (hp sc X M w g) 1000000 (nI i + x) = some (sc.2 (i + j)) := by
  rw [hx, nI_add]; exact hp_script hj (by omega)
theorem L_252 (hF : 100000 ≤ F.1) (hF2 : 100 ≤ F.2) (hc : c ≤ 10000) (hi : i + 6 ≤ sc.1) (hL : sc.1 < 1000000) (hu : okH sc c u) (hK : ∀ u2, okH sc (c + 1) u2 → res sc (K 1000000 0 40 51 (nI i + 6) u2)) : res sc (f_L_law_252 F K 1000000 0 40 51 (nI i) u) := by
  have s1 : ∀ (X M : Nat → rx_C) (w : Nat → Int64) (g : List rx_C), rx_aI (hp sc X M w g) 1000000 (nI i + 1) = some (sc.2 (i + 1)) := fun X M w g => scr hL (j := 1) rfl (by omega)
  have s2 : ∀ (X M : Nat → rx_C) (w : Nat → Int64) (g : List rx_C), rx_aI (hp sc X M w g) 1000000 (nI i + 2) = some (sc.2 (i + 2)) := fun X M w g => scr hL (j := 2) rfl (by omega)
  have s3 : ∀ (X M : Nat → rx_C) (w : Nat → Int64) (g : List rx_C), rx_aI (hp sc X M w g) 1000000 (nI i + 3) = some (sc.2 (i + 3)) := fun X M w g => scr hL (j := 3) rfl (by omega)
  have s4 : ∀ (X M : Nat → rx_C) (w : Nat → Int64) (g : List rx_C), rx_aI (hp sc X M w g) 1000000 (nI i + 4) = some (sc.2 (i + 4)) := fun X M w g => scr hL (j := 4) rfl (by omega)
  have s5 : ∀ (X M : Nat → rx_C) (w : Nat → Int64) (g : List rx_C), rx_aI (hp sc X M w g) 1000000 (nI i + 5) = some (sc.2 (i + 5)) := fun X M w g => scr hL (j := 5) rfl (by omega)
  have hu' := hu
  obtain ⟨n, cl, P, ly, sp, st, sk, sd, sm, th, mc, pk, kd, td, fm, pr, sz, ro, tu, pe, tr, as, w, g, rfl, hR, hg, hx⟩ := hu'
  obtain ⟨r, X', M', w', g', u2, e1, e2, e3, e4⟩ := st_make (F := F) (by omega) (sc.2 (i + 1)) (sc.2 (i + 2)) (sc.2 (i + 3)) _ hu
  unfold f_L_law_252
  simp only [s1, s2, s3, s4, s5, Option.bind_some, ck_0, e1, e2, e3, if_true]
  exact hK u2 e4
theorem L_301 (hF : 100000 ≤ F.1) (hF2 : 100 ≤ F.2) (hc : c ≤ 10000) (hi : i + 6 ≤ sc.1) (hL : sc.1 < 1000000) (hu : okH sc c u) (hK : ∀ u2, okH sc (c + 1) u2 → res sc (K 1000000 0 40 51 (nI i + 6) u2)) : res sc (f_L_law_301 F K 1000000 0 40 51 (nI i) u) := by
  have s1 : ∀ (X M : Nat → rx_C) (w : Nat → Int64) (g : List rx_C), rx_aI (hp sc X M w g) 1000000 (nI i + 1) = some (sc.2 (i + 1)) := fun X M w g => scr hL (j := 1) rfl (by omega)
  have s2 : ∀ (X M : Nat → rx_C) (w : Nat → Int64) (g : List rx_C), rx_aI (hp sc X M w g) 1000000 (nI i + 2) = some (sc.2 (i + 2)) := fun X M w g => scr hL (j := 2) rfl (by omega)
  have s3 : ∀ (X M : Nat → rx_C) (w : Nat → Int64) (g : List rx_C), rx_aI (hp sc X M w g) 1000000 (nI i + 3) = some (sc.2 (i + 3)) := fun X M w g => scr hL (j := 3) rfl (by omega)
  have s4 : ∀ (X M : Nat → rx_C) (w : Nat → Int64) (g : List rx_C), rx_aI (hp sc X M w g) 1000000 (nI i + 4) = some (sc.2 (i + 4)) := fun X M w g => scr hL (j := 4) rfl (by omega)
  have s5 : ∀ (X M : Nat → rx_C) (w : Nat → Int64) (g : List rx_C), rx_aI (hp sc X M w g) 1000000 (nI i + 5) = some (sc.2 (i + 5)) := fun X M w g => scr hL (j := 5) rfl (by omega)
  have hu' := hu
  obtain ⟨n, cl, P, ly, sp, st, sk, sd, sm, th, mc, pk, kd, td, fm, pr, sz, ro, tu, pe, tr, as, w, g, rfl, hR, hg, hx⟩ := hu'
  obtain ⟨r, X', M', w', g', u2, e1, e2, e3, e4⟩ := st_cross (F := F) (by omega) (sc.2 (i + 1)) (sc.2 (i + 2)) (sc.2 (i + 3)) _ hu
  unfold f_L_law_301
  simp only [s1, s2, s3, s4, s5, Option.bind_some, ck_0, e1, e2, e3, if_true]
  exact hK u2 e4
theorem L_350 (hF : 100000 ≤ F.1) (hF2 : 100 ≤ F.2) (hc : c ≤ 10000) (hi : i + 6 ≤ sc.1) (hL : sc.1 < 1000000) (hu : okH sc c u) (hK : ∀ u2, okH sc (c + 1) u2 → res sc (K 1000000 0 40 51 (nI i + 6) u2)) : res sc (f_L_law_350 F K 1000000 0 40 51 (nI i) u) := by
  have s1 : ∀ (X M : Nat → rx_C) (w : Nat → Int64) (g : List rx_C), rx_aI (hp sc X M w g) 1000000 (nI i + 1) = some (sc.2 (i + 1)) := fun X M w g => scr hL (j := 1) rfl (by omega)
  have s2 : ∀ (X M : Nat → rx_C) (w : Nat → Int64) (g : List rx_C), rx_aI (hp sc X M w g) 1000000 (nI i + 2) = some (sc.2 (i + 2)) := fun X M w g => scr hL (j := 2) rfl (by omega)
  have s3 : ∀ (X M : Nat → rx_C) (w : Nat → Int64) (g : List rx_C), rx_aI (hp sc X M w g) 1000000 (nI i + 3) = some (sc.2 (i + 3)) := fun X M w g => scr hL (j := 3) rfl (by omega)
  have s4 : ∀ (X M : Nat → rx_C) (w : Nat → Int64) (g : List rx_C), rx_aI (hp sc X M w g) 1000000 (nI i + 4) = some (sc.2 (i + 4)) := fun X M w g => scr hL (j := 4) rfl (by omega)
  have s5 : ∀ (X M : Nat → rx_C) (w : Nat → Int64) (g : List rx_C), rx_aI (hp sc X M w g) 1000000 (nI i + 5) = some (sc.2 (i + 5)) := fun X M w g => scr hL (j := 5) rfl (by omega)
  have hu' := hu
  obtain ⟨n, cl, P, ly, sp, st, sk, sd, sm, th, mc, pk, kd, td, fm, pr, sz, ro, tu, pe, tr, as, w, g, rfl, hR, hg, hx⟩ := hu'
  obtain ⟨r, X', M', w', g', u2, e1, e2, e3, e4⟩ := st_add hF (sc.2 (i + 1)) (sc.2 (i + 2)) _ hu
  unfold f_L_law_350
  simp only [s1, s2, s3, s4, s5, Option.bind_some, ck_0, e1, e2, e3, if_true]
  exact hK u2 e4
theorem L_387 (hF : 100000 ≤ F.1) (hF2 : 100 ≤ F.2) (hc : c ≤ 10000) (hi : i + 6 ≤ sc.1) (hL : sc.1 < 1000000) (hu : okH sc c u) (hK : ∀ u2, okH sc (c + 1) u2 → res sc (K 1000000 0 40 51 (nI i + 6) u2)) : res sc (f_L_law_387 F K 1000000 0 40 51 (nI i) u) := by
  have s1 : ∀ (X M : Nat → rx_C) (w : Nat → Int64) (g : List rx_C), rx_aI (hp sc X M w g) 1000000 (nI i + 1) = some (sc.2 (i + 1)) := fun X M w g => scr hL (j := 1) rfl (by omega)
  have s2 : ∀ (X M : Nat → rx_C) (w : Nat → Int64) (g : List rx_C), rx_aI (hp sc X M w g) 1000000 (nI i + 2) = some (sc.2 (i + 2)) := fun X M w g => scr hL (j := 2) rfl (by omega)
  have s3 : ∀ (X M : Nat → rx_C) (w : Nat → Int64) (g : List rx_C), rx_aI (hp sc X M w g) 1000000 (nI i + 3) = some (sc.2 (i + 3)) := fun X M w g => scr hL (j := 3) rfl (by omega)
  have s4 : ∀ (X M : Nat → rx_C) (w : Nat → Int64) (g : List rx_C), rx_aI (hp sc X M w g) 1000000 (nI i + 4) = some (sc.2 (i + 4)) := fun X M w g => scr hL (j := 4) rfl (by omega)
  have s5 : ∀ (X M : Nat → rx_C) (w : Nat → Int64) (g : List rx_C), rx_aI (hp sc X M w g) 1000000 (nI i + 5) = some (sc.2 (i + 5)) := fun X M w g => scr hL (j := 5) rfl (by omega)
  have hu' := hu
  obtain ⟨n, cl, P, ly, sp, st, sk, sd, sm, th, mc, pk, kd, td, fm, pr, sz, ro, tu, pe, tr, as, w, g, rfl, hR, hg, hx⟩ := hu'
  obtain ⟨r, X', M', w', g', u2, e1, e2, e3, e4⟩ := st_drop hF (sc.2 (i + 1)) (sc.2 (i + 2)) _ hu
  unfold f_L_law_387
  simp only [s1, s2, s3, s4, s5, Option.bind_some, ck_0, e1, e2, e3, if_true]
  exact hK u2 e4
theorem L_424 (hF : 100000 ≤ F.1) (hF2 : 100 ≤ F.2) (hc : c ≤ 10000) (hi : i + 6 ≤ sc.1) (hL : sc.1 < 1000000) (hu : okH sc c u) (hK : ∀ u2, okH sc (c + 1) u2 → res sc (K 1000000 0 40 51 (nI i + 6) u2)) : res sc (f_L_law_424 F K 1000000 0 40 51 (nI i) u) := by
  have s1 : ∀ (X M : Nat → rx_C) (w : Nat → Int64) (g : List rx_C), rx_aI (hp sc X M w g) 1000000 (nI i + 1) = some (sc.2 (i + 1)) := fun X M w g => scr hL (j := 1) rfl (by omega)
  have s2 : ∀ (X M : Nat → rx_C) (w : Nat → Int64) (g : List rx_C), rx_aI (hp sc X M w g) 1000000 (nI i + 2) = some (sc.2 (i + 2)) := fun X M w g => scr hL (j := 2) rfl (by omega)
  have s3 : ∀ (X M : Nat → rx_C) (w : Nat → Int64) (g : List rx_C), rx_aI (hp sc X M w g) 1000000 (nI i + 3) = some (sc.2 (i + 3)) := fun X M w g => scr hL (j := 3) rfl (by omega)
  have s4 : ∀ (X M : Nat → rx_C) (w : Nat → Int64) (g : List rx_C), rx_aI (hp sc X M w g) 1000000 (nI i + 4) = some (sc.2 (i + 4)) := fun X M w g => scr hL (j := 4) rfl (by omega)
  have s5 : ∀ (X M : Nat → rx_C) (w : Nat → Int64) (g : List rx_C), rx_aI (hp sc X M w g) 1000000 (nI i + 5) = some (sc.2 (i + 5)) := fun X M w g => scr hL (j := 5) rfl (by omega)
  have hu' := hu
  obtain ⟨n, cl, P, ly, sp, st, sk, sd, sm, th, mc, pk, kd, td, fm, pr, sz, ro, tu, pe, tr, as, w, g, rfl, hR, hg, hx⟩ := hu'
  obtain ⟨r, X', M', w', g', u2, e1, e2, e3, e4⟩ := st_clash F  _ hu
  unfold f_L_law_424
  simp only [s1, s2, s3, s4, s5, Option.bind_some, ck_0, e1, e2, e3, if_true]
  exact hK u2 e4
theorem L_437 (hF : 100000 ≤ F.1) (hF2 : 100 ≤ F.2) (hc : c ≤ 10000) (hi : i + 6 ≤ sc.1) (hL : sc.1 < 1000000) (hu : okH sc c u) (hK : ∀ u2, okH sc (c + 1) u2 → res sc (K 1000000 0 40 51 (nI i + 6) u2)) : res sc (f_L_law_437 F K 1000000 0 40 51 (nI i) u) := by
  have s1 : ∀ (X M : Nat → rx_C) (w : Nat → Int64) (g : List rx_C), rx_aI (hp sc X M w g) 1000000 (nI i + 1) = some (sc.2 (i + 1)) := fun X M w g => scr hL (j := 1) rfl (by omega)
  have s2 : ∀ (X M : Nat → rx_C) (w : Nat → Int64) (g : List rx_C), rx_aI (hp sc X M w g) 1000000 (nI i + 2) = some (sc.2 (i + 2)) := fun X M w g => scr hL (j := 2) rfl (by omega)
  have s3 : ∀ (X M : Nat → rx_C) (w : Nat → Int64) (g : List rx_C), rx_aI (hp sc X M w g) 1000000 (nI i + 3) = some (sc.2 (i + 3)) := fun X M w g => scr hL (j := 3) rfl (by omega)
  have s4 : ∀ (X M : Nat → rx_C) (w : Nat → Int64) (g : List rx_C), rx_aI (hp sc X M w g) 1000000 (nI i + 4) = some (sc.2 (i + 4)) := fun X M w g => scr hL (j := 4) rfl (by omega)
  have s5 : ∀ (X M : Nat → rx_C) (w : Nat → Int64) (g : List rx_C), rx_aI (hp sc X M w g) 1000000 (nI i + 5) = some (sc.2 (i + 5)) := fun X M w g => scr hL (j := 5) rfl (by omega)
  have hu' := hu
  obtain ⟨n, cl, P, ly, sp, st, sk, sd, sm, th, mc, pk, kd, td, fm, pr, sz, ro, tu, pe, tr, as, w, g, rfl, hR, hg, hx⟩ := hu'
  obtain ⟨r, X', M', w', g', u2, e1, e2, e3, e4⟩ := st_empty F (sc.2 (i + 1)) _ hu
  unfold f_L_law_437
  simp only [s1, s2, s3, s4, s5, Option.bind_some, ck_0, e1, e2, e3, if_true]
  exact hK u2 e4
theorem L_462 (hF : 100000 ≤ F.1) (hF2 : 100 ≤ F.2) (hc : c ≤ 10000) (hi : i + 6 ≤ sc.1) (hL : sc.1 < 1000000) (hu : okH sc c u) (hK : ∀ u2, okH sc (c + 1) u2 → res sc (K 1000000 0 40 51 (nI i + 6) u2)) : res sc (f_L_law_462 F K 1000000 0 40 51 (nI i) u) := by
  have s1 : ∀ (X M : Nat → rx_C) (w : Nat → Int64) (g : List rx_C), rx_aI (hp sc X M w g) 1000000 (nI i + 1) = some (sc.2 (i + 1)) := fun X M w g => scr hL (j := 1) rfl (by omega)
  have s2 : ∀ (X M : Nat → rx_C) (w : Nat → Int64) (g : List rx_C), rx_aI (hp sc X M w g) 1000000 (nI i + 2) = some (sc.2 (i + 2)) := fun X M w g => scr hL (j := 2) rfl (by omega)
  have s3 : ∀ (X M : Nat → rx_C) (w : Nat → Int64) (g : List rx_C), rx_aI (hp sc X M w g) 1000000 (nI i + 3) = some (sc.2 (i + 3)) := fun X M w g => scr hL (j := 3) rfl (by omega)
  have s4 : ∀ (X M : Nat → rx_C) (w : Nat → Int64) (g : List rx_C), rx_aI (hp sc X M w g) 1000000 (nI i + 4) = some (sc.2 (i + 4)) := fun X M w g => scr hL (j := 4) rfl (by omega)
  have s5 : ∀ (X M : Nat → rx_C) (w : Nat → Int64) (g : List rx_C), rx_aI (hp sc X M w g) 1000000 (nI i + 5) = some (sc.2 (i + 5)) := fun X M w g => scr hL (j := 5) rfl (by omega)
  have hu' := hu
  obtain ⟨n, cl, P, ly, sp, st, sk, sd, sm, th, mc, pk, kd, td, fm, pr, sz, ro, tu, pe, tr, as, w, g, rfl, hR, hg, hx⟩ := hu'
  obtain ⟨r, X', M', w', g', u2, e1, e2, e3, e4⟩ := st_holds F (sc.2 (i + 1)) _ hu
  unfold f_L_law_462
  simp only [s1, s2, s3, s4, s5, Option.bind_some, ck_0, e1, e2, e3, if_true]
  exact hK u2 e4
theorem L_487 (hF : 100000 ≤ F.1) (hF2 : 100 ≤ F.2) (hc : c ≤ 10000) (hi : i + 6 ≤ sc.1) (hL : sc.1 < 1000000) (hu : okH sc c u) (hK : ∀ u2, okH sc (c + 1) u2 → res sc (K 1000000 0 40 51 (nI i + 6) u2)) : res sc (f_L_law_487 F K 1000000 0 40 51 (nI i) u) := by
  have s1 : ∀ (X M : Nat → rx_C) (w : Nat → Int64) (g : List rx_C), rx_aI (hp sc X M w g) 1000000 (nI i + 1) = some (sc.2 (i + 1)) := fun X M w g => scr hL (j := 1) rfl (by omega)
  have s2 : ∀ (X M : Nat → rx_C) (w : Nat → Int64) (g : List rx_C), rx_aI (hp sc X M w g) 1000000 (nI i + 2) = some (sc.2 (i + 2)) := fun X M w g => scr hL (j := 2) rfl (by omega)
  have s3 : ∀ (X M : Nat → rx_C) (w : Nat → Int64) (g : List rx_C), rx_aI (hp sc X M w g) 1000000 (nI i + 3) = some (sc.2 (i + 3)) := fun X M w g => scr hL (j := 3) rfl (by omega)
  have s4 : ∀ (X M : Nat → rx_C) (w : Nat → Int64) (g : List rx_C), rx_aI (hp sc X M w g) 1000000 (nI i + 4) = some (sc.2 (i + 4)) := fun X M w g => scr hL (j := 4) rfl (by omega)
  have s5 : ∀ (X M : Nat → rx_C) (w : Nat → Int64) (g : List rx_C), rx_aI (hp sc X M w g) 1000000 (nI i + 5) = some (sc.2 (i + 5)) := fun X M w g => scr hL (j := 5) rfl (by omega)
  have hu' := hu
  obtain ⟨n, cl, P, ly, sp, st, sk, sd, sm, th, mc, pk, kd, td, fm, pr, sz, ro, tu, pe, tr, as, w, g, rfl, hR, hg, hx⟩ := hu'
  obtain ⟨r, X', M', w', g', u2, e1, e2, e3, e4⟩ := st_count hF (sc.2 (i + 1)) (sc.2 (i + 2)) _ hu
  unfold f_L_law_487
  simp only [s1, s2, s3, s4, s5, Option.bind_some, ck_0, e1, e2, e3, if_true]
  exact hK u2 e4
theorem L_524 (hF : 100000 ≤ F.1) (hF2 : 100 ≤ F.2) (hc : c ≤ 10000) (hi : i + 6 ≤ sc.1) (hL : sc.1 < 1000000) (hu : okH sc c u) (hK : ∀ u2, okH sc (c + 1) u2 → res sc (K 1000000 0 40 51 (nI i + 6) u2)) : res sc (f_L_law_524 F K 1000000 0 40 51 (nI i) u) := by
  have s1 : ∀ (X M : Nat → rx_C) (w : Nat → Int64) (g : List rx_C), rx_aI (hp sc X M w g) 1000000 (nI i + 1) = some (sc.2 (i + 1)) := fun X M w g => scr hL (j := 1) rfl (by omega)
  have s2 : ∀ (X M : Nat → rx_C) (w : Nat → Int64) (g : List rx_C), rx_aI (hp sc X M w g) 1000000 (nI i + 2) = some (sc.2 (i + 2)) := fun X M w g => scr hL (j := 2) rfl (by omega)
  have s3 : ∀ (X M : Nat → rx_C) (w : Nat → Int64) (g : List rx_C), rx_aI (hp sc X M w g) 1000000 (nI i + 3) = some (sc.2 (i + 3)) := fun X M w g => scr hL (j := 3) rfl (by omega)
  have s4 : ∀ (X M : Nat → rx_C) (w : Nat → Int64) (g : List rx_C), rx_aI (hp sc X M w g) 1000000 (nI i + 4) = some (sc.2 (i + 4)) := fun X M w g => scr hL (j := 4) rfl (by omega)
  have s5 : ∀ (X M : Nat → rx_C) (w : Nat → Int64) (g : List rx_C), rx_aI (hp sc X M w g) 1000000 (nI i + 5) = some (sc.2 (i + 5)) := fun X M w g => scr hL (j := 5) rfl (by omega)
  have hu' := hu
  obtain ⟨n, cl, P, ly, sp, st, sk, sd, sm, th, mc, pk, kd, td, fm, pr, sz, ro, tu, pe, tr, as, w, g, rfl, hR, hg, hx⟩ := hu'
  obtain ⟨r, X', M', w', g', u2, e1, e2, e3, e4⟩ := st_has F (sc.2 (i + 1)) (sc.2 (i + 2)) _ hu
  unfold f_L_law_524
  simp only [s1, s2, s3, s4, s5, Option.bind_some, ck_0, e1, e2, e3, if_true]
  exact hK u2 e4
theorem L_561 (hF : 100000 ≤ F.1) (hF2 : 100 ≤ F.2) (hc : c ≤ 10000) (hi : i + 6 ≤ sc.1) (hL : sc.1 < 1000000) (hu : okH sc c u) (hK : ∀ u2, okH sc (c + 1) u2 → res sc (K 1000000 0 40 51 (nI i + 6) u2)) : res sc (f_L_law_561 F K 1000000 0 40 51 (nI i) u) := by
  have s1 : ∀ (X M : Nat → rx_C) (w : Nat → Int64) (g : List rx_C), rx_aI (hp sc X M w g) 1000000 (nI i + 1) = some (sc.2 (i + 1)) := fun X M w g => scr hL (j := 1) rfl (by omega)
  have s2 : ∀ (X M : Nat → rx_C) (w : Nat → Int64) (g : List rx_C), rx_aI (hp sc X M w g) 1000000 (nI i + 2) = some (sc.2 (i + 2)) := fun X M w g => scr hL (j := 2) rfl (by omega)
  have s3 : ∀ (X M : Nat → rx_C) (w : Nat → Int64) (g : List rx_C), rx_aI (hp sc X M w g) 1000000 (nI i + 3) = some (sc.2 (i + 3)) := fun X M w g => scr hL (j := 3) rfl (by omega)
  have s4 : ∀ (X M : Nat → rx_C) (w : Nat → Int64) (g : List rx_C), rx_aI (hp sc X M w g) 1000000 (nI i + 4) = some (sc.2 (i + 4)) := fun X M w g => scr hL (j := 4) rfl (by omega)
  have s5 : ∀ (X M : Nat → rx_C) (w : Nat → Int64) (g : List rx_C), rx_aI (hp sc X M w g) 1000000 (nI i + 5) = some (sc.2 (i + 5)) := fun X M w g => scr hL (j := 5) rfl (by omega)
  have hu' := hu
  obtain ⟨n, cl, P, ly, sp, st, sk, sd, sm, th, mc, pk, kd, td, fm, pr, sz, ro, tu, pe, tr, as, w, g, rfl, hR, hg, hx⟩ := hu'
  obtain ⟨r, X', M', w', g', u2, e1, e2, e3, e4⟩ := st_set hF (sc.2 (i + 1)) (sc.2 (i + 2)) _ hu
  unfold f_L_law_561
  simp only [s1, s2, s3, s4, s5, Option.bind_some, ck_0, e1, e2, e3, if_true]
  exact hK u2 e4
theorem L_598 (hF : 100000 ≤ F.1) (hF2 : 100 ≤ F.2) (hc : c ≤ 10000) (hi : i + 6 ≤ sc.1) (hL : sc.1 < 1000000) (hu : okH sc c u) (hK : ∀ u2, okH sc (c + 1) u2 → res sc (K 1000000 0 40 51 (nI i + 6) u2)) : res sc (f_L_law_598 F K 1000000 0 40 51 (nI i) u) := by
  have s1 : ∀ (X M : Nat → rx_C) (w : Nat → Int64) (g : List rx_C), rx_aI (hp sc X M w g) 1000000 (nI i + 1) = some (sc.2 (i + 1)) := fun X M w g => scr hL (j := 1) rfl (by omega)
  have s2 : ∀ (X M : Nat → rx_C) (w : Nat → Int64) (g : List rx_C), rx_aI (hp sc X M w g) 1000000 (nI i + 2) = some (sc.2 (i + 2)) := fun X M w g => scr hL (j := 2) rfl (by omega)
  have s3 : ∀ (X M : Nat → rx_C) (w : Nat → Int64) (g : List rx_C), rx_aI (hp sc X M w g) 1000000 (nI i + 3) = some (sc.2 (i + 3)) := fun X M w g => scr hL (j := 3) rfl (by omega)
  have s4 : ∀ (X M : Nat → rx_C) (w : Nat → Int64) (g : List rx_C), rx_aI (hp sc X M w g) 1000000 (nI i + 4) = some (sc.2 (i + 4)) := fun X M w g => scr hL (j := 4) rfl (by omega)
  have s5 : ∀ (X M : Nat → rx_C) (w : Nat → Int64) (g : List rx_C), rx_aI (hp sc X M w g) 1000000 (nI i + 5) = some (sc.2 (i + 5)) := fun X M w g => scr hL (j := 5) rfl (by omega)
  have hu' := hu
  obtain ⟨n, cl, P, ly, sp, st, sk, sd, sm, th, mc, pk, kd, td, fm, pr, sz, ro, tu, pe, tr, as, w, g, rfl, hR, hg, hx⟩ := hu'
  obtain ⟨r, X', M', w', g', u2, e1, e2, e3, e4⟩ := st_is hF (sc.2 (i + 1)) (sc.2 (i + 2)) (sc.2 (i + 3)) _ hu
  unfold f_L_law_598
  simp only [s1, s2, s3, s4, s5, Option.bind_some, ck_0, e1, e2, e3, if_true]
  exact hK u2 e4
theorem L_647 (hF : 100000 ≤ F.1) (hF2 : 100 ≤ F.2) (hc : c ≤ 10000) (hi : i + 6 ≤ sc.1) (hL : sc.1 < 1000000) (hu : okH sc c u) (hK : ∀ u2, okH sc (c + 1) u2 → res sc (K 1000000 0 40 51 (nI i + 6) u2)) : res sc (f_L_law_647 F K 1000000 0 40 51 (nI i) u) := by
  have s1 : ∀ (X M : Nat → rx_C) (w : Nat → Int64) (g : List rx_C), rx_aI (hp sc X M w g) 1000000 (nI i + 1) = some (sc.2 (i + 1)) := fun X M w g => scr hL (j := 1) rfl (by omega)
  have s2 : ∀ (X M : Nat → rx_C) (w : Nat → Int64) (g : List rx_C), rx_aI (hp sc X M w g) 1000000 (nI i + 2) = some (sc.2 (i + 2)) := fun X M w g => scr hL (j := 2) rfl (by omega)
  have s3 : ∀ (X M : Nat → rx_C) (w : Nat → Int64) (g : List rx_C), rx_aI (hp sc X M w g) 1000000 (nI i + 3) = some (sc.2 (i + 3)) := fun X M w g => scr hL (j := 3) rfl (by omega)
  have s4 : ∀ (X M : Nat → rx_C) (w : Nat → Int64) (g : List rx_C), rx_aI (hp sc X M w g) 1000000 (nI i + 4) = some (sc.2 (i + 4)) := fun X M w g => scr hL (j := 4) rfl (by omega)
  have s5 : ∀ (X M : Nat → rx_C) (w : Nat → Int64) (g : List rx_C), rx_aI (hp sc X M w g) 1000000 (nI i + 5) = some (sc.2 (i + 5)) := fun X M w g => scr hL (j := 5) rfl (by omega)
  have hu' := hu
  obtain ⟨n, cl, P, ly, sp, st, sk, sd, sm, th, mc, pk, kd, td, fm, pr, sz, ro, tu, pe, tr, as, w, g, rfl, hR, hg, hx⟩ := hu'
  obtain ⟨r, X', M', w', g', u2, e1, e2, e3, e4⟩ := st_shadow hF (sc.2 (i + 1)) (sc.2 (i + 2)) _ hu
  unfold f_L_law_647
  simp only [s1, s2, s3, s4, s5, Option.bind_some, ck_0, e1, e2, e3, if_true]
  exact hK u2 e4
theorem L_684 (hF : 100000 ≤ F.1) (hF2 : 100 ≤ F.2) (hc : c ≤ 10000) (hi : i + 6 ≤ sc.1) (hL : sc.1 < 1000000) (hu : okH sc c u) (hK : ∀ u2, okH sc (c + 1) u2 → res sc (K 1000000 0 40 51 (nI i + 6) u2)) : res sc (f_L_law_684 F K 1000000 0 40 51 (nI i) u) := by
  have s1 : ∀ (X M : Nat → rx_C) (w : Nat → Int64) (g : List rx_C), rx_aI (hp sc X M w g) 1000000 (nI i + 1) = some (sc.2 (i + 1)) := fun X M w g => scr hL (j := 1) rfl (by omega)
  have s2 : ∀ (X M : Nat → rx_C) (w : Nat → Int64) (g : List rx_C), rx_aI (hp sc X M w g) 1000000 (nI i + 2) = some (sc.2 (i + 2)) := fun X M w g => scr hL (j := 2) rfl (by omega)
  have s3 : ∀ (X M : Nat → rx_C) (w : Nat → Int64) (g : List rx_C), rx_aI (hp sc X M w g) 1000000 (nI i + 3) = some (sc.2 (i + 3)) := fun X M w g => scr hL (j := 3) rfl (by omega)
  have s4 : ∀ (X M : Nat → rx_C) (w : Nat → Int64) (g : List rx_C), rx_aI (hp sc X M w g) 1000000 (nI i + 4) = some (sc.2 (i + 4)) := fun X M w g => scr hL (j := 4) rfl (by omega)
  have s5 : ∀ (X M : Nat → rx_C) (w : Nat → Int64) (g : List rx_C), rx_aI (hp sc X M w g) 1000000 (nI i + 5) = some (sc.2 (i + 5)) := fun X M w g => scr hL (j := 5) rfl (by omega)
  have hu' := hu
  obtain ⟨n, cl, P, ly, sp, st, sk, sd, sm, th, mc, pk, kd, td, fm, pr, sz, ro, tu, pe, tr, as, w, g, rfl, hR, hg, hx⟩ := hu'
  obtain ⟨r, X', M', w', g', u2, e1, e2, e3, e4⟩ := st_up hF (sc.2 (i + 1)) (sc.2 (i + 2)) _ hu
  unfold f_L_law_684
  simp only [s1, s2, s3, s4, s5, Option.bind_some, ck_0, e1, e2, e3, if_true]
  exact hK u2 e4
theorem L_721 (hF : 100000 ≤ F.1) (hF2 : 100 ≤ F.2) (hc : c ≤ 10000) (hi : i + 6 ≤ sc.1) (hL : sc.1 < 1000000) (hu : okH sc c u) (hK : ∀ u2, okH sc (c + 1) u2 → res sc (K 1000000 0 40 51 (nI i + 6) u2)) : res sc (f_L_law_721 F K 1000000 0 40 51 (nI i) u) := by
  have s1 : ∀ (X M : Nat → rx_C) (w : Nat → Int64) (g : List rx_C), rx_aI (hp sc X M w g) 1000000 (nI i + 1) = some (sc.2 (i + 1)) := fun X M w g => scr hL (j := 1) rfl (by omega)
  have s2 : ∀ (X M : Nat → rx_C) (w : Nat → Int64) (g : List rx_C), rx_aI (hp sc X M w g) 1000000 (nI i + 2) = some (sc.2 (i + 2)) := fun X M w g => scr hL (j := 2) rfl (by omega)
  have s3 : ∀ (X M : Nat → rx_C) (w : Nat → Int64) (g : List rx_C), rx_aI (hp sc X M w g) 1000000 (nI i + 3) = some (sc.2 (i + 3)) := fun X M w g => scr hL (j := 3) rfl (by omega)
  have s4 : ∀ (X M : Nat → rx_C) (w : Nat → Int64) (g : List rx_C), rx_aI (hp sc X M w g) 1000000 (nI i + 4) = some (sc.2 (i + 4)) := fun X M w g => scr hL (j := 4) rfl (by omega)
  have s5 : ∀ (X M : Nat → rx_C) (w : Nat → Int64) (g : List rx_C), rx_aI (hp sc X M w g) 1000000 (nI i + 5) = some (sc.2 (i + 5)) := fun X M w g => scr hL (j := 5) rfl (by omega)
  have hu' := hu
  obtain ⟨n, cl, P, ly, sp, st, sk, sd, sm, th, mc, pk, kd, td, fm, pr, sz, ro, tu, pe, tr, as, w, g, rfl, hR, hg, hx⟩ := hu'
  by_cases hb : sc.2 (i + 2) = 0
  · obtain ⟨r, X', M', w', g', u2, e1, e2, e3, e4⟩ := st_closed hF (sc.2 (i + 1)) 0 (sc.2 (i + 3)) _ hu
    simp only [f_L_law_721, f_L_law_742, f_L_law_772, s1, s2, s3, s4, s5, Option.bind_some, hb, ck_0, e1, e2, e3, if_true]
    exact hK u2 e4
  · obtain ⟨r, X', M', w', g', u2, e1, e2, e3, e4⟩ := st_closed hF (sc.2 (i + 1)) 1 (sc.2 (i + 3)) _ hu
    simp only [f_L_law_721, f_L_law_742, f_L_law_772, s1, s2, s3, s4, s5, Option.bind_some, hb, if_false, ck_0, e1, e2, e3, if_true]
    exact hK u2 e4
theorem L_786 (hF : 100000 ≤ F.1) (hF2 : 100 ≤ F.2) (hc : c ≤ 10000) (hi : i + 6 ≤ sc.1) (hL : sc.1 < 1000000) (hu : okH sc c u) (hK : ∀ u2, okH sc (c + 1) u2 → res sc (K 1000000 0 40 51 (nI i + 6) u2)) : res sc (f_L_law_786 F K 1000000 0 40 51 (nI i) u) := by
  have s1 : ∀ (X M : Nat → rx_C) (w : Nat → Int64) (g : List rx_C), rx_aI (hp sc X M w g) 1000000 (nI i + 1) = some (sc.2 (i + 1)) := fun X M w g => scr hL (j := 1) rfl (by omega)
  have s2 : ∀ (X M : Nat → rx_C) (w : Nat → Int64) (g : List rx_C), rx_aI (hp sc X M w g) 1000000 (nI i + 2) = some (sc.2 (i + 2)) := fun X M w g => scr hL (j := 2) rfl (by omega)
  have s3 : ∀ (X M : Nat → rx_C) (w : Nat → Int64) (g : List rx_C), rx_aI (hp sc X M w g) 1000000 (nI i + 3) = some (sc.2 (i + 3)) := fun X M w g => scr hL (j := 3) rfl (by omega)
  have s4 : ∀ (X M : Nat → rx_C) (w : Nat → Int64) (g : List rx_C), rx_aI (hp sc X M w g) 1000000 (nI i + 4) = some (sc.2 (i + 4)) := fun X M w g => scr hL (j := 4) rfl (by omega)
  have s5 : ∀ (X M : Nat → rx_C) (w : Nat → Int64) (g : List rx_C), rx_aI (hp sc X M w g) 1000000 (nI i + 5) = some (sc.2 (i + 5)) := fun X M w g => scr hL (j := 5) rfl (by omega)
  have hu' := hu
  obtain ⟨n, cl, P, ly, sp, st, sk, sd, sm, th, mc, pk, kd, td, fm, pr, sz, ro, tu, pe, tr, as, w, g, rfl, hR, hg, hx⟩ := hu'
  by_cases hb : sc.2 (i + 2) = 0
  · obtain ⟨r, X', M', w', g', u2, e1, e2, e3, e4⟩ := st_ends hF (sc.2 (i + 1)) 0 (sc.2 (i + 3)) _ hu
    simp only [f_L_law_786, f_L_law_807, f_L_law_837, s1, s2, s3, s4, s5, Option.bind_some, hb, ck_0, e1, e2, e3, if_true]
    exact hK u2 e4
  · obtain ⟨r, X', M', w', g', u2, e1, e2, e3, e4⟩ := st_ends hF (sc.2 (i + 1)) 1 (sc.2 (i + 3)) _ hu
    simp only [f_L_law_786, f_L_law_807, f_L_law_837, s1, s2, s3, s4, s5, Option.bind_some, hb, if_false, ck_0, e1, e2, e3, if_true]
    exact hK u2 e4
theorem L_851 (hF : 100000 ≤ F.1) (hF2 : 100 ≤ F.2) (hc : c ≤ 10000) (hi : i + 6 ≤ sc.1) (hL : sc.1 < 1000000) (hu : okH sc c u) (hK : ∀ u2, okH sc (c + 1) u2 → res sc (K 1000000 0 40 51 (nI i + 6) u2)) : res sc (f_L_law_851 F K 1000000 0 40 51 (nI i) u) := by
  have s1 : ∀ (X M : Nat → rx_C) (w : Nat → Int64) (g : List rx_C), rx_aI (hp sc X M w g) 1000000 (nI i + 1) = some (sc.2 (i + 1)) := fun X M w g => scr hL (j := 1) rfl (by omega)
  have s2 : ∀ (X M : Nat → rx_C) (w : Nat → Int64) (g : List rx_C), rx_aI (hp sc X M w g) 1000000 (nI i + 2) = some (sc.2 (i + 2)) := fun X M w g => scr hL (j := 2) rfl (by omega)
  have s3 : ∀ (X M : Nat → rx_C) (w : Nat → Int64) (g : List rx_C), rx_aI (hp sc X M w g) 1000000 (nI i + 3) = some (sc.2 (i + 3)) := fun X M w g => scr hL (j := 3) rfl (by omega)
  have s4 : ∀ (X M : Nat → rx_C) (w : Nat → Int64) (g : List rx_C), rx_aI (hp sc X M w g) 1000000 (nI i + 4) = some (sc.2 (i + 4)) := fun X M w g => scr hL (j := 4) rfl (by omega)
  have s5 : ∀ (X M : Nat → rx_C) (w : Nat → Int64) (g : List rx_C), rx_aI (hp sc X M w g) 1000000 (nI i + 5) = some (sc.2 (i + 5)) := fun X M w g => scr hL (j := 5) rfl (by omega)
  have hu' := hu
  obtain ⟨n, cl, P, ly, sp, st, sk, sd, sm, th, mc, pk, kd, td, fm, pr, sz, ro, tu, pe, tr, as, w, g, rfl, hR, hg, hx⟩ := hu'
  obtain ⟨r, X', M', w', g', u2, e1, e2, e3, e4⟩ := st_mix hF (sc.2 (i + 1)) (sc.2 (i + 2)) (sc.2 (i + 3)) (sc.2 (i + 4)) _ hu
  unfold f_L_law_851
  simp only [s1, s2, s3, s4, s5, Option.bind_some, ck_0, e1, e2, e3, if_true]
  exact hK u2 e4
theorem L_912 (hF : 100000 ≤ F.1) (hF2 : 100 ≤ F.2) (hc : c ≤ 10000) (hi : i + 6 ≤ sc.1) (hL : sc.1 < 1000000) (hu : okH sc c u) (hK : ∀ u2, okH sc (c + 1) u2 → res sc (K 1000000 0 40 51 (nI i + 6) u2)) : res sc (f_L_law_912 F K 1000000 0 40 51 (nI i) u) := by
  have s1 : ∀ (X M : Nat → rx_C) (w : Nat → Int64) (g : List rx_C), rx_aI (hp sc X M w g) 1000000 (nI i + 1) = some (sc.2 (i + 1)) := fun X M w g => scr hL (j := 1) rfl (by omega)
  have s2 : ∀ (X M : Nat → rx_C) (w : Nat → Int64) (g : List rx_C), rx_aI (hp sc X M w g) 1000000 (nI i + 2) = some (sc.2 (i + 2)) := fun X M w g => scr hL (j := 2) rfl (by omega)
  have s3 : ∀ (X M : Nat → rx_C) (w : Nat → Int64) (g : List rx_C), rx_aI (hp sc X M w g) 1000000 (nI i + 3) = some (sc.2 (i + 3)) := fun X M w g => scr hL (j := 3) rfl (by omega)
  have s4 : ∀ (X M : Nat → rx_C) (w : Nat → Int64) (g : List rx_C), rx_aI (hp sc X M w g) 1000000 (nI i + 4) = some (sc.2 (i + 4)) := fun X M w g => scr hL (j := 4) rfl (by omega)
  have s5 : ∀ (X M : Nat → rx_C) (w : Nat → Int64) (g : List rx_C), rx_aI (hp sc X M w g) 1000000 (nI i + 5) = some (sc.2 (i + 5)) := fun X M w g => scr hL (j := 5) rfl (by omega)
  have hu' := hu
  obtain ⟨n, cl, P, ly, sp, st, sk, sd, sm, th, mc, pk, kd, td, fm, pr, sz, ro, tu, pe, tr, as, w, g, rfl, hR, hg, hx⟩ := hu'
  by_cases hb : sc.2 (i + 2) = 0
  · obtain ⟨r, X', M', w', g', u2, e1, e2, e3, e4⟩ := st_rest hF (sc.2 (i + 1)) 0 (sc.2 (i + 3)) _ hu
    simp only [f_L_law_912, f_L_law_933, f_L_law_963, s1, s2, s3, s4, s5, Option.bind_some, hb, ck_0, e1, e2, e3, if_true]
    exact hK u2 e4
  · obtain ⟨r, X', M', w', g', u2, e1, e2, e3, e4⟩ := st_rest hF (sc.2 (i + 1)) 1 (sc.2 (i + 3)) _ hu
    simp only [f_L_law_912, f_L_law_933, f_L_law_963, s1, s2, s3, s4, s5, Option.bind_some, hb, if_false, ck_0, e1, e2, e3, if_true]
    exact hK u2 e4
theorem L_977 (hF : 100000 ≤ F.1) (hF2 : 100 ≤ F.2) (hc : c ≤ 10000) (hi : i + 6 ≤ sc.1) (hL : sc.1 < 1000000) (hu : okH sc c u) (hK : ∀ u2, okH sc (c + 1) u2 → res sc (K 1000000 0 40 51 (nI i + 6) u2)) : res sc (f_L_law_977 F K 1000000 0 40 51 (nI i) u) := by
  have s1 : ∀ (X M : Nat → rx_C) (w : Nat → Int64) (g : List rx_C), rx_aI (hp sc X M w g) 1000000 (nI i + 1) = some (sc.2 (i + 1)) := fun X M w g => scr hL (j := 1) rfl (by omega)
  have s2 : ∀ (X M : Nat → rx_C) (w : Nat → Int64) (g : List rx_C), rx_aI (hp sc X M w g) 1000000 (nI i + 2) = some (sc.2 (i + 2)) := fun X M w g => scr hL (j := 2) rfl (by omega)
  have s3 : ∀ (X M : Nat → rx_C) (w : Nat → Int64) (g : List rx_C), rx_aI (hp sc X M w g) 1000000 (nI i + 3) = some (sc.2 (i + 3)) := fun X M w g => scr hL (j := 3) rfl (by omega)
  have s4 : ∀ (X M : Nat → rx_C) (w : Nat → Int64) (g : List rx_C), rx_aI (hp sc X M w g) 1000000 (nI i + 4) = some (sc.2 (i + 4)) := fun X M w g => scr hL (j := 4) rfl (by omega)
  have s5 : ∀ (X M : Nat → rx_C) (w : Nat → Int64) (g : List rx_C), rx_aI (hp sc X M w g) 1000000 (nI i + 5) = some (sc.2 (i + 5)) := fun X M w g => scr hL (j := 5) rfl (by omega)
  have hu' := hu
  obtain ⟨n, cl, P, ly, sp, st, sk, sd, sm, th, mc, pk, kd, td, fm, pr, sz, ro, tu, pe, tr, as, w, g, rfl, hR, hg, hx⟩ := hu'
  obtain ⟨r, X', M', w', g', u2, e1, e2, e3, e4⟩ := st_trace hF (sc.2 (i + 1)) (sc.2 (i + 2)) (sc.2 (i + 3)) _ hu
  unfold f_L_law_977
  simp only [s1, s2, s3, s4, s5, Option.bind_some, ck_0, e1, e2, e3, if_true]
  exact hK u2 e4
theorem L_1026 (hF : 100000 ≤ F.1) (hF2 : 100 ≤ F.2) (hc : c ≤ 10000) (hi : i + 6 ≤ sc.1) (hL : sc.1 < 1000000) (hu : okH sc c u) (hK : ∀ u2, okH sc (c + 1) u2 → res sc (K 1000000 0 40 51 (nI i + 6) u2)) : res sc (f_L_law_1026 F K 1000000 0 40 51 (nI i) u) := by
  have s1 : ∀ (X M : Nat → rx_C) (w : Nat → Int64) (g : List rx_C), rx_aI (hp sc X M w g) 1000000 (nI i + 1) = some (sc.2 (i + 1)) := fun X M w g => scr hL (j := 1) rfl (by omega)
  have s2 : ∀ (X M : Nat → rx_C) (w : Nat → Int64) (g : List rx_C), rx_aI (hp sc X M w g) 1000000 (nI i + 2) = some (sc.2 (i + 2)) := fun X M w g => scr hL (j := 2) rfl (by omega)
  have s3 : ∀ (X M : Nat → rx_C) (w : Nat → Int64) (g : List rx_C), rx_aI (hp sc X M w g) 1000000 (nI i + 3) = some (sc.2 (i + 3)) := fun X M w g => scr hL (j := 3) rfl (by omega)
  have s4 : ∀ (X M : Nat → rx_C) (w : Nat → Int64) (g : List rx_C), rx_aI (hp sc X M w g) 1000000 (nI i + 4) = some (sc.2 (i + 4)) := fun X M w g => scr hL (j := 4) rfl (by omega)
  have s5 : ∀ (X M : Nat → rx_C) (w : Nat → Int64) (g : List rx_C), rx_aI (hp sc X M w g) 1000000 (nI i + 5) = some (sc.2 (i + 5)) := fun X M w g => scr hL (j := 5) rfl (by omega)
  have hu' := hu
  obtain ⟨n, cl, P, ly, sp, st, sk, sd, sm, th, mc, pk, kd, td, fm, pr, sz, ro, tu, pe, tr, as, w, g, rfl, hR, hg, hx⟩ := hu'
  obtain ⟨r, X', M', w', g', u2, e1, e2, e3, e4⟩ := st_turned hF (sc.2 (i + 1)) (sc.2 (i + 2)) (sc.2 (i + 3)) _ hu
  unfold f_L_law_1026
  simp only [s1, s2, s3, s4, s5, Option.bind_some, ck_0, e1, e2, e3, if_true]
  exact hK u2 e4
theorem L_1075 (hF : 100000 ≤ F.1) (hF2 : 100 ≤ F.2) (hc : c ≤ 10000) (hi : i + 6 ≤ sc.1) (hL : sc.1 < 1000000) (hu : okH sc c u) (hK : ∀ u2, okH sc (c + 1) u2 → res sc (K 1000000 0 40 51 (nI i + 6) u2)) : res sc (f_L_law_1075 F K 1000000 0 40 51 (nI i) u) := by
  have s1 : ∀ (X M : Nat → rx_C) (w : Nat → Int64) (g : List rx_C), rx_aI (hp sc X M w g) 1000000 (nI i + 1) = some (sc.2 (i + 1)) := fun X M w g => scr hL (j := 1) rfl (by omega)
  have s2 : ∀ (X M : Nat → rx_C) (w : Nat → Int64) (g : List rx_C), rx_aI (hp sc X M w g) 1000000 (nI i + 2) = some (sc.2 (i + 2)) := fun X M w g => scr hL (j := 2) rfl (by omega)
  have s3 : ∀ (X M : Nat → rx_C) (w : Nat → Int64) (g : List rx_C), rx_aI (hp sc X M w g) 1000000 (nI i + 3) = some (sc.2 (i + 3)) := fun X M w g => scr hL (j := 3) rfl (by omega)
  have s4 : ∀ (X M : Nat → rx_C) (w : Nat → Int64) (g : List rx_C), rx_aI (hp sc X M w g) 1000000 (nI i + 4) = some (sc.2 (i + 4)) := fun X M w g => scr hL (j := 4) rfl (by omega)
  have s5 : ∀ (X M : Nat → rx_C) (w : Nat → Int64) (g : List rx_C), rx_aI (hp sc X M w g) 1000000 (nI i + 5) = some (sc.2 (i + 5)) := fun X M w g => scr hL (j := 5) rfl (by omega)
  have hu' := hu
  obtain ⟨n, cl, P, ly, sp, st, sk, sd, sm, th, mc, pk, kd, td, fm, pr, sz, ro, tu, pe, tr, as, w, g, rfl, hR, hg, hx⟩ := hu'
  obtain ⟨r, X', M', w', g', u2, e1, e2, e3, e4⟩ := st_push hF (sc.2 (i + 1)) (sc.2 (i + 2)) (sc.2 (i + 3)) _ hu
  unfold f_L_law_1075
  simp only [s1, s2, s3, s4, s5, Option.bind_some, ck_0, e1, e2, e3, if_true]
  exact hK u2 e4
theorem L_1124 (hF : 100000 ≤ F.1) (hF2 : 100 ≤ F.2) (hc : c ≤ 10000) (hi : i + 6 ≤ sc.1) (hL : sc.1 < 1000000) (hu : okH sc c u) (hK : ∀ u2, okH sc (c + 1) u2 → res sc (K 1000000 0 40 51 (nI i + 6) u2)) : res sc (f_L_law_1124 F K 1000000 0 40 51 (nI i) u) := by
  have s1 : ∀ (X M : Nat → rx_C) (w : Nat → Int64) (g : List rx_C), rx_aI (hp sc X M w g) 1000000 (nI i + 1) = some (sc.2 (i + 1)) := fun X M w g => scr hL (j := 1) rfl (by omega)
  have s2 : ∀ (X M : Nat → rx_C) (w : Nat → Int64) (g : List rx_C), rx_aI (hp sc X M w g) 1000000 (nI i + 2) = some (sc.2 (i + 2)) := fun X M w g => scr hL (j := 2) rfl (by omega)
  have s3 : ∀ (X M : Nat → rx_C) (w : Nat → Int64) (g : List rx_C), rx_aI (hp sc X M w g) 1000000 (nI i + 3) = some (sc.2 (i + 3)) := fun X M w g => scr hL (j := 3) rfl (by omega)
  have s4 : ∀ (X M : Nat → rx_C) (w : Nat → Int64) (g : List rx_C), rx_aI (hp sc X M w g) 1000000 (nI i + 4) = some (sc.2 (i + 4)) := fun X M w g => scr hL (j := 4) rfl (by omega)
  have s5 : ∀ (X M : Nat → rx_C) (w : Nat → Int64) (g : List rx_C), rx_aI (hp sc X M w g) 1000000 (nI i + 5) = some (sc.2 (i + 5)) := fun X M w g => scr hL (j := 5) rfl (by omega)
  have hu' := hu
  obtain ⟨n, cl, P, ly, sp, st, sk, sd, sm, th, mc, pk, kd, td, fm, pr, sz, ro, tu, pe, tr, as, w, g, rfl, hR, hg, hx⟩ := hu'
  obtain ⟨r, X', M', w', g', u2, e1, e2, e3, e4⟩ := st_pushed hF (sc.2 (i + 1)) _ hu
  unfold f_L_law_1124
  simp only [s1, s2, s3, s4, s5, Option.bind_some, ck_0, e1, e2, e3, if_true]
  exact hK u2 e4
theorem L_1149 (hF : 100000 ≤ F.1) (hF2 : 100 ≤ F.2) (hc : c ≤ 10000) (hi : i + 6 ≤ sc.1) (hL : sc.1 < 1000000) (hu : okH sc c u) (hK : ∀ u2, okH sc (c + 1) u2 → res sc (K 1000000 0 40 51 (nI i + 6) u2)) : res sc (f_L_law_1149 F K 1000000 0 40 51 (nI i) u) := by
  have s1 : ∀ (X M : Nat → rx_C) (w : Nat → Int64) (g : List rx_C), rx_aI (hp sc X M w g) 1000000 (nI i + 1) = some (sc.2 (i + 1)) := fun X M w g => scr hL (j := 1) rfl (by omega)
  have s2 : ∀ (X M : Nat → rx_C) (w : Nat → Int64) (g : List rx_C), rx_aI (hp sc X M w g) 1000000 (nI i + 2) = some (sc.2 (i + 2)) := fun X M w g => scr hL (j := 2) rfl (by omega)
  have s3 : ∀ (X M : Nat → rx_C) (w : Nat → Int64) (g : List rx_C), rx_aI (hp sc X M w g) 1000000 (nI i + 3) = some (sc.2 (i + 3)) := fun X M w g => scr hL (j := 3) rfl (by omega)
  have s4 : ∀ (X M : Nat → rx_C) (w : Nat → Int64) (g : List rx_C), rx_aI (hp sc X M w g) 1000000 (nI i + 4) = some (sc.2 (i + 4)) := fun X M w g => scr hL (j := 4) rfl (by omega)
  have s5 : ∀ (X M : Nat → rx_C) (w : Nat → Int64) (g : List rx_C), rx_aI (hp sc X M w g) 1000000 (nI i + 5) = some (sc.2 (i + 5)) := fun X M w g => scr hL (j := 5) rfl (by omega)
  have hu' := hu
  obtain ⟨n, cl, P, ly, sp, st, sk, sd, sm, th, mc, pk, kd, td, fm, pr, sz, ro, tu, pe, tr, as, w, g, rfl, hR, hg, hx⟩ := hu'
  obtain ⟨r, X', M', w', g', u2, e1, e2, e3, e4⟩ := st_first hF (sc.2 (i + 1)) (sc.2 (i + 2)) (sc.2 (i + 3)) _ hu
  unfold f_L_law_1149
  simp only [s1, s2, s3, s4, s5, Option.bind_some, ck_0, e1, e2, e3, if_true]
  exact hK u2 e4
theorem L_1198 (hF : 100000 ≤ F.1) (hF2 : 100 ≤ F.2) (hc : c ≤ 10000) (hi : i + 6 ≤ sc.1) (hL : sc.1 < 1000000) (hu : okH sc c u) (hK : ∀ u2, okH sc (c + 1) u2 → res sc (K 1000000 0 40 51 (nI i + 6) u2)) : res sc (f_L_law_1198 F K 1000000 0 40 51 (nI i) u) := by
  have s1 : ∀ (X M : Nat → rx_C) (w : Nat → Int64) (g : List rx_C), rx_aI (hp sc X M w g) 1000000 (nI i + 1) = some (sc.2 (i + 1)) := fun X M w g => scr hL (j := 1) rfl (by omega)
  have s2 : ∀ (X M : Nat → rx_C) (w : Nat → Int64) (g : List rx_C), rx_aI (hp sc X M w g) 1000000 (nI i + 2) = some (sc.2 (i + 2)) := fun X M w g => scr hL (j := 2) rfl (by omega)
  have s3 : ∀ (X M : Nat → rx_C) (w : Nat → Int64) (g : List rx_C), rx_aI (hp sc X M w g) 1000000 (nI i + 3) = some (sc.2 (i + 3)) := fun X M w g => scr hL (j := 3) rfl (by omega)
  have s4 : ∀ (X M : Nat → rx_C) (w : Nat → Int64) (g : List rx_C), rx_aI (hp sc X M w g) 1000000 (nI i + 4) = some (sc.2 (i + 4)) := fun X M w g => scr hL (j := 4) rfl (by omega)
  have s5 : ∀ (X M : Nat → rx_C) (w : Nat → Int64) (g : List rx_C), rx_aI (hp sc X M w g) 1000000 (nI i + 5) = some (sc.2 (i + 5)) := fun X M w g => scr hL (j := 5) rfl (by omega)
  have hu' := hu
  obtain ⟨n, cl, P, ly, sp, st, sk, sd, sm, th, mc, pk, kd, td, fm, pr, sz, ro, tu, pe, tr, as, w, g, rfl, hR, hg, hx⟩ := hu'
  obtain ⟨r, X', M', w', g', u2, e1, e2, e3, e4⟩ := st_sum hF (sc.2 (i + 1)) _ hu
  unfold f_L_law_1198
  simp only [s1, s2, s3, s4, s5, Option.bind_some, ck_0, e1, e2, e3, if_true]
  exact hK u2 e4
theorem L_1223 (hF : 100000 ≤ F.1) (hF2 : 100 ≤ F.2) (hc : c ≤ 10000) (hi : i + 6 ≤ sc.1) (hL : sc.1 < 1000000) (hu : okH sc c u) (hK : ∀ u2, okH sc (c + 1) u2 → res sc (K 1000000 0 40 51 (nI i + 6) u2)) : res sc (f_L_law_1223 F K 1000000 0 40 51 (nI i) u) := by
  have s1 : ∀ (X M : Nat → rx_C) (w : Nat → Int64) (g : List rx_C), rx_aI (hp sc X M w g) 1000000 (nI i + 1) = some (sc.2 (i + 1)) := fun X M w g => scr hL (j := 1) rfl (by omega)
  have s2 : ∀ (X M : Nat → rx_C) (w : Nat → Int64) (g : List rx_C), rx_aI (hp sc X M w g) 1000000 (nI i + 2) = some (sc.2 (i + 2)) := fun X M w g => scr hL (j := 2) rfl (by omega)
  have s3 : ∀ (X M : Nat → rx_C) (w : Nat → Int64) (g : List rx_C), rx_aI (hp sc X M w g) 1000000 (nI i + 3) = some (sc.2 (i + 3)) := fun X M w g => scr hL (j := 3) rfl (by omega)
  have s4 : ∀ (X M : Nat → rx_C) (w : Nat → Int64) (g : List rx_C), rx_aI (hp sc X M w g) 1000000 (nI i + 4) = some (sc.2 (i + 4)) := fun X M w g => scr hL (j := 4) rfl (by omega)
  have s5 : ∀ (X M : Nat → rx_C) (w : Nat → Int64) (g : List rx_C), rx_aI (hp sc X M w g) 1000000 (nI i + 5) = some (sc.2 (i + 5)) := fun X M w g => scr hL (j := 5) rfl (by omega)
  have hu' := hu
  obtain ⟨n, cl, P, ly, sp, st, sk, sd, sm, th, mc, pk, kd, td, fm, pr, sz, ro, tu, pe, tr, as, w, g, rfl, hR, hg, hx⟩ := hu'
  obtain ⟨r, X', M', w', g', u2, e1, e2, e3, e4⟩ := st_rank hF (sc.2 (i + 1)) _ hu
  unfold f_L_law_1223
  simp only [s1, s2, s3, s4, s5, Option.bind_some, ck_0, e1, e2, e3, if_true]
  exact hK u2 e4
theorem L_1248 (hF : 100000 ≤ F.1) (hF2 : 100 ≤ F.2) (hc : c ≤ 10000) (hi : i + 6 ≤ sc.1) (hL : sc.1 < 1000000) (hu : okH sc c u) (hK : ∀ u2, okH sc (c + 1) u2 → res sc (K 1000000 0 40 51 (nI i + 6) u2)) : res sc (f_L_law_1248 F K 1000000 0 40 51 (nI i) u) := by
  have s1 : ∀ (X M : Nat → rx_C) (w : Nat → Int64) (g : List rx_C), rx_aI (hp sc X M w g) 1000000 (nI i + 1) = some (sc.2 (i + 1)) := fun X M w g => scr hL (j := 1) rfl (by omega)
  have s2 : ∀ (X M : Nat → rx_C) (w : Nat → Int64) (g : List rx_C), rx_aI (hp sc X M w g) 1000000 (nI i + 2) = some (sc.2 (i + 2)) := fun X M w g => scr hL (j := 2) rfl (by omega)
  have s3 : ∀ (X M : Nat → rx_C) (w : Nat → Int64) (g : List rx_C), rx_aI (hp sc X M w g) 1000000 (nI i + 3) = some (sc.2 (i + 3)) := fun X M w g => scr hL (j := 3) rfl (by omega)
  have s4 : ∀ (X M : Nat → rx_C) (w : Nat → Int64) (g : List rx_C), rx_aI (hp sc X M w g) 1000000 (nI i + 4) = some (sc.2 (i + 4)) := fun X M w g => scr hL (j := 4) rfl (by omega)
  have s5 : ∀ (X M : Nat → rx_C) (w : Nat → Int64) (g : List rx_C), rx_aI (hp sc X M w g) 1000000 (nI i + 5) = some (sc.2 (i + 5)) := fun X M w g => scr hL (j := 5) rfl (by omega)
  have hu' := hu
  obtain ⟨n, cl, P, ly, sp, st, sk, sd, sm, th, mc, pk, kd, td, fm, pr, sz, ro, tu, pe, tr, as, w, g, rfl, hR, hg, hx⟩ := hu'
  obtain ⟨r, X', M', w', g', u2, e1, e2, e3, e4⟩ := st_ranked hF (sc.2 (i + 1)) (sc.2 (i + 2)) _ hu
  unfold f_L_law_1248
  simp only [s1, s2, s3, s4, s5, Option.bind_some, ck_0, e1, e2, e3, if_true]
  exact hK u2 e4
theorem L_1285 (hF : 100000 ≤ F.1) (hF2 : 100 ≤ F.2) (hc : c ≤ 10000) (hi : i + 6 ≤ sc.1) (hL : sc.1 < 1000000) (hu : okH sc c u) (hK : ∀ u2, okH sc (c + 1) u2 → res sc (K 1000000 0 40 51 (nI i + 6) u2)) : res sc (f_L_law_1285 F K 1000000 0 40 51 (nI i) u) := by
  have s1 : ∀ (X M : Nat → rx_C) (w : Nat → Int64) (g : List rx_C), rx_aI (hp sc X M w g) 1000000 (nI i + 1) = some (sc.2 (i + 1)) := fun X M w g => scr hL (j := 1) rfl (by omega)
  have s2 : ∀ (X M : Nat → rx_C) (w : Nat → Int64) (g : List rx_C), rx_aI (hp sc X M w g) 1000000 (nI i + 2) = some (sc.2 (i + 2)) := fun X M w g => scr hL (j := 2) rfl (by omega)
  have s3 : ∀ (X M : Nat → rx_C) (w : Nat → Int64) (g : List rx_C), rx_aI (hp sc X M w g) 1000000 (nI i + 3) = some (sc.2 (i + 3)) := fun X M w g => scr hL (j := 3) rfl (by omega)
  have s4 : ∀ (X M : Nat → rx_C) (w : Nat → Int64) (g : List rx_C), rx_aI (hp sc X M w g) 1000000 (nI i + 4) = some (sc.2 (i + 4)) := fun X M w g => scr hL (j := 4) rfl (by omega)
  have s5 : ∀ (X M : Nat → rx_C) (w : Nat → Int64) (g : List rx_C), rx_aI (hp sc X M w g) 1000000 (nI i + 5) = some (sc.2 (i + 5)) := fun X M w g => scr hL (j := 5) rfl (by omega)
  have hu' := hu
  obtain ⟨n, cl, P, ly, sp, st, sk, sd, sm, th, mc, pk, kd, td, fm, pr, sz, ro, tu, pe, tr, as, w, g, rfl, hR, hg, hx⟩ := hu'
  obtain ⟨r, e1, e2⟩ := eq_cascade hF (sc.2 (i + 1)) (sc.2 (i + 2)) (sc.2 (i + 3))
  unfold f_L_law_1285
  simp only [s1, s2, s3, s4, s5, Option.bind_some, ck_0, ck_40, e1, e2, if_true]
  exact hK _ (okH_mono hu (by omega))
theorem L_1334 (hF : 100000 ≤ F.1) (hF2 : 100 ≤ F.2) (hc : c ≤ 10000) (hi : i + 6 ≤ sc.1) (hL : sc.1 < 1000000) (hu : okH sc c u) (hK : ∀ u2, okH sc (c + 1) u2 → res sc (K 1000000 0 40 51 (nI i + 6) u2)) : res sc (f_L_law_1334 F K 1000000 0 40 51 (nI i) u) := by
  have s1 : ∀ (X M : Nat → rx_C) (w : Nat → Int64) (g : List rx_C), rx_aI (hp sc X M w g) 1000000 (nI i + 1) = some (sc.2 (i + 1)) := fun X M w g => scr hL (j := 1) rfl (by omega)
  have s2 : ∀ (X M : Nat → rx_C) (w : Nat → Int64) (g : List rx_C), rx_aI (hp sc X M w g) 1000000 (nI i + 2) = some (sc.2 (i + 2)) := fun X M w g => scr hL (j := 2) rfl (by omega)
  have s3 : ∀ (X M : Nat → rx_C) (w : Nat → Int64) (g : List rx_C), rx_aI (hp sc X M w g) 1000000 (nI i + 3) = some (sc.2 (i + 3)) := fun X M w g => scr hL (j := 3) rfl (by omega)
  have s4 : ∀ (X M : Nat → rx_C) (w : Nat → Int64) (g : List rx_C), rx_aI (hp sc X M w g) 1000000 (nI i + 4) = some (sc.2 (i + 4)) := fun X M w g => scr hL (j := 4) rfl (by omega)
  have s5 : ∀ (X M : Nat → rx_C) (w : Nat → Int64) (g : List rx_C), rx_aI (hp sc X M w g) 1000000 (nI i + 5) = some (sc.2 (i + 5)) := fun X M w g => scr hL (j := 5) rfl (by omega)
  have hu' := hu
  obtain ⟨n, cl, P, ly, sp, st, sk, sd, sm, th, mc, pk, kd, td, fm, pr, sz, ro, tu, pe, tr, as, w, g, rfl, hR, hg, hx⟩ := hu'
  obtain ⟨r, e1, e2⟩ := eq_least hF (sc.2 (i + 1)) (sc.2 (i + 2))
  unfold f_L_law_1334
  simp only [s1, s2, s3, s4, s5, Option.bind_some, ck_0, ck_40, e1, e2, if_true]
  exact hK _ (okH_mono hu (by omega))
theorem L_1371 (hF : 100000 ≤ F.1) (hF2 : 100 ≤ F.2) (hc : c ≤ 10000) (hi : i + 6 ≤ sc.1) (hL : sc.1 < 1000000) (hu : okH sc c u) (hK : ∀ u2, okH sc (c + 1) u2 → res sc (K 1000000 0 40 51 (nI i + 6) u2)) : res sc (f_L_law_1371 F K 1000000 0 40 51 (nI i) u) := by
  have s1 : ∀ (X M : Nat → rx_C) (w : Nat → Int64) (g : List rx_C), rx_aI (hp sc X M w g) 1000000 (nI i + 1) = some (sc.2 (i + 1)) := fun X M w g => scr hL (j := 1) rfl (by omega)
  have s2 : ∀ (X M : Nat → rx_C) (w : Nat → Int64) (g : List rx_C), rx_aI (hp sc X M w g) 1000000 (nI i + 2) = some (sc.2 (i + 2)) := fun X M w g => scr hL (j := 2) rfl (by omega)
  have s3 : ∀ (X M : Nat → rx_C) (w : Nat → Int64) (g : List rx_C), rx_aI (hp sc X M w g) 1000000 (nI i + 3) = some (sc.2 (i + 3)) := fun X M w g => scr hL (j := 3) rfl (by omega)
  have s4 : ∀ (X M : Nat → rx_C) (w : Nat → Int64) (g : List rx_C), rx_aI (hp sc X M w g) 1000000 (nI i + 4) = some (sc.2 (i + 4)) := fun X M w g => scr hL (j := 4) rfl (by omega)
  have s5 : ∀ (X M : Nat → rx_C) (w : Nat → Int64) (g : List rx_C), rx_aI (hp sc X M w g) 1000000 (nI i + 5) = some (sc.2 (i + 5)) := fun X M w g => scr hL (j := 5) rfl (by omega)
  have hu' := hu
  obtain ⟨n, cl, P, ly, sp, st, sk, sd, sm, th, mc, pk, kd, td, fm, pr, sz, ro, tu, pe, tr, as, w, g, rfl, hR, hg, hx⟩ := hu'
  obtain ⟨r, X', M', w', g', u2, e1, e2, e3, e4⟩ := st_chain hF (sc.2 (i + 1)) (sc.2 (i + 2)) _ hu
  unfold f_L_law_1371
  simp only [s1, s2, s3, s4, s5, Option.bind_some, ck_0, e1, e2, e3, if_true]
  exact hK u2 e4
theorem L_1408 (hF : 100000 ≤ F.1) (hF2 : 100 ≤ F.2) (hc : c ≤ 10000) (hi : i + 6 ≤ sc.1) (hL : sc.1 < 1000000) (hu : okH sc c u) (hK : ∀ u2, okH sc (c + 1) u2 → res sc (K 1000000 0 40 51 (nI i + 6) u2)) : res sc (f_L_law_1408 F K 1000000 0 40 51 (nI i) u) := by
  have s1 : ∀ (X M : Nat → rx_C) (w : Nat → Int64) (g : List rx_C), rx_aI (hp sc X M w g) 1000000 (nI i + 1) = some (sc.2 (i + 1)) := fun X M w g => scr hL (j := 1) rfl (by omega)
  have s2 : ∀ (X M : Nat → rx_C) (w : Nat → Int64) (g : List rx_C), rx_aI (hp sc X M w g) 1000000 (nI i + 2) = some (sc.2 (i + 2)) := fun X M w g => scr hL (j := 2) rfl (by omega)
  have s3 : ∀ (X M : Nat → rx_C) (w : Nat → Int64) (g : List rx_C), rx_aI (hp sc X M w g) 1000000 (nI i + 3) = some (sc.2 (i + 3)) := fun X M w g => scr hL (j := 3) rfl (by omega)
  have s4 : ∀ (X M : Nat → rx_C) (w : Nat → Int64) (g : List rx_C), rx_aI (hp sc X M w g) 1000000 (nI i + 4) = some (sc.2 (i + 4)) := fun X M w g => scr hL (j := 4) rfl (by omega)
  have s5 : ∀ (X M : Nat → rx_C) (w : Nat → Int64) (g : List rx_C), rx_aI (hp sc X M w g) 1000000 (nI i + 5) = some (sc.2 (i + 5)) := fun X M w g => scr hL (j := 5) rfl (by omega)
  have hu' := hu
  obtain ⟨n, cl, P, ly, sp, st, sk, sd, sm, th, mc, pk, kd, td, fm, pr, sz, ro, tu, pe, tr, as, w, g, rfl, hR, hg, hx⟩ := hu'
  obtain ⟨r, X', M', w', g', u2, e1, e2, e3, e4⟩ := st_ring hF (sc.2 (i + 1)) (sc.2 (i + 2)) (sc.2 (i + 3)) _ hu
  unfold f_L_law_1408
  simp only [s1, s2, s3, s4, s5, Option.bind_some, ck_0, e1, e2, e3, if_true]
  exact hK u2 e4
theorem L_1457 (hF : 100000 ≤ F.1) (hF2 : 100 ≤ F.2) (hc : c ≤ 10000) (hi : i + 6 ≤ sc.1) (hL : sc.1 < 1000000) (hu : okH sc c u) (hK : ∀ u2, okH sc (c + 1) u2 → res sc (K 1000000 0 40 51 (nI i + 6) u2)) : res sc (f_L_law_1457 F K 1000000 0 40 51 (nI i) u) := by
  have s1 : ∀ (X M : Nat → rx_C) (w : Nat → Int64) (g : List rx_C), rx_aI (hp sc X M w g) 1000000 (nI i + 1) = some (sc.2 (i + 1)) := fun X M w g => scr hL (j := 1) rfl (by omega)
  have s2 : ∀ (X M : Nat → rx_C) (w : Nat → Int64) (g : List rx_C), rx_aI (hp sc X M w g) 1000000 (nI i + 2) = some (sc.2 (i + 2)) := fun X M w g => scr hL (j := 2) rfl (by omega)
  have s3 : ∀ (X M : Nat → rx_C) (w : Nat → Int64) (g : List rx_C), rx_aI (hp sc X M w g) 1000000 (nI i + 3) = some (sc.2 (i + 3)) := fun X M w g => scr hL (j := 3) rfl (by omega)
  have s4 : ∀ (X M : Nat → rx_C) (w : Nat → Int64) (g : List rx_C), rx_aI (hp sc X M w g) 1000000 (nI i + 4) = some (sc.2 (i + 4)) := fun X M w g => scr hL (j := 4) rfl (by omega)
  have s5 : ∀ (X M : Nat → rx_C) (w : Nat → Int64) (g : List rx_C), rx_aI (hp sc X M w g) 1000000 (nI i + 5) = some (sc.2 (i + 5)) := fun X M w g => scr hL (j := 5) rfl (by omega)
  have hu' := hu
  obtain ⟨n, cl, P, ly, sp, st, sk, sd, sm, th, mc, pk, kd, td, fm, pr, sz, ro, tu, pe, tr, as, w, g, rfl, hR, hg, hx⟩ := hu'
  obtain ⟨r, X', M', w', g', u2, e1, e2, e3, e4⟩ := st_weight hF (sc.2 (i + 1)) (sc.2 (i + 2)) (sc.2 (i + 3)) _ hu
  unfold f_L_law_1457
  simp only [s1, s2, s3, s4, s5, Option.bind_some, ck_0, e1, e2, e3, if_true]
  exact hK u2 e4
theorem L_1507 (hF : 100000 ≤ F.1) (hF2 : 100 ≤ F.2) (hc : c ≤ 10000) (hi : i + 6 ≤ sc.1) (hL : sc.1 < 1000000) (hu : okH sc c u) (hK : ∀ u2, okH sc (c + 1) u2 → res sc (K 1000000 0 40 51 (nI i + 6) u2)) : res sc (f_L_law_1507 F K 1000000 0 40 51 (nI i) u) := by
  have s1 : ∀ (X M : Nat → rx_C) (w : Nat → Int64) (g : List rx_C), rx_aI (hp sc X M w g) 1000000 (nI i + 1) = some (sc.2 (i + 1)) := fun X M w g => scr hL (j := 1) rfl (by omega)
  have s2 : ∀ (X M : Nat → rx_C) (w : Nat → Int64) (g : List rx_C), rx_aI (hp sc X M w g) 1000000 (nI i + 2) = some (sc.2 (i + 2)) := fun X M w g => scr hL (j := 2) rfl (by omega)
  have s3 : ∀ (X M : Nat → rx_C) (w : Nat → Int64) (g : List rx_C), rx_aI (hp sc X M w g) 1000000 (nI i + 3) = some (sc.2 (i + 3)) := fun X M w g => scr hL (j := 3) rfl (by omega)
  have s4 : ∀ (X M : Nat → rx_C) (w : Nat → Int64) (g : List rx_C), rx_aI (hp sc X M w g) 1000000 (nI i + 4) = some (sc.2 (i + 4)) := fun X M w g => scr hL (j := 4) rfl (by omega)
  have s5 : ∀ (X M : Nat → rx_C) (w : Nat → Int64) (g : List rx_C), rx_aI (hp sc X M w g) 1000000 (nI i + 5) = some (sc.2 (i + 5)) := fun X M w g => scr hL (j := 5) rfl (by omega)
  have hu' := hu
  obtain ⟨n, cl, P, ly, sp, st, sk, sd, sm, th, mc, pk, kd, td, fm, pr, sz, ro, tu, pe, tr, as, w, g, rfl, hR, hg, hx⟩ := hu'
  obtain ⟨r, X', M', w', g', u2, e1, e2, e3, e4⟩ := st_matters hF (sc.2 (i + 1)) (sc.2 (i + 2)) _ hu
  unfold f_L_law_1507
  simp only [s1, s2, s3, s4, s5, Option.bind_some, ck_0, e1, e2, e3, if_true]
  exact hK u2 e4
theorem L_1544 (hF : 100000 ≤ F.1) (hF2 : 100 ≤ F.2) (hc : c ≤ 10000) (hi : i + 6 ≤ sc.1) (hL : sc.1 < 1000000) (hu : okH sc c u) (hK : ∀ u2, okH sc (c + 1) u2 → res sc (K 1000000 0 40 51 (nI i + 6) u2)) : res sc (f_L_law_1544 F K 1000000 0 40 51 (nI i) u) := by
  have s1 : ∀ (X M : Nat → rx_C) (w : Nat → Int64) (g : List rx_C), rx_aI (hp sc X M w g) 1000000 (nI i + 1) = some (sc.2 (i + 1)) := fun X M w g => scr hL (j := 1) rfl (by omega)
  have s2 : ∀ (X M : Nat → rx_C) (w : Nat → Int64) (g : List rx_C), rx_aI (hp sc X M w g) 1000000 (nI i + 2) = some (sc.2 (i + 2)) := fun X M w g => scr hL (j := 2) rfl (by omega)
  have s3 : ∀ (X M : Nat → rx_C) (w : Nat → Int64) (g : List rx_C), rx_aI (hp sc X M w g) 1000000 (nI i + 3) = some (sc.2 (i + 3)) := fun X M w g => scr hL (j := 3) rfl (by omega)
  have s4 : ∀ (X M : Nat → rx_C) (w : Nat → Int64) (g : List rx_C), rx_aI (hp sc X M w g) 1000000 (nI i + 4) = some (sc.2 (i + 4)) := fun X M w g => scr hL (j := 4) rfl (by omega)
  have s5 : ∀ (X M : Nat → rx_C) (w : Nat → Int64) (g : List rx_C), rx_aI (hp sc X M w g) 1000000 (nI i + 5) = some (sc.2 (i + 5)) := fun X M w g => scr hL (j := 5) rfl (by omega)
  have hu' := hu
  obtain ⟨n, cl, P, ly, sp, st, sk, sd, sm, th, mc, pk, kd, td, fm, pr, sz, ro, tu, pe, tr, as, w, g, rfl, hR, hg, hx⟩ := hu'
  obtain ⟨r, X', M', w', g', u2, e1, e2, e3, e4⟩ := st_product (F := F) (by omega) (sc.2 (i + 1)) (sc.2 (i + 2)) _ hu
  unfold f_L_law_1544
  simp only [s1, s2, s3, s4, s5, Option.bind_some, ck_0, e1, e2, e3, if_true]
  exact hK u2 e4
theorem L_1581 (hF : 100000 ≤ F.1) (hF2 : 100 ≤ F.2) (hc : c ≤ 10000) (hi : i + 6 ≤ sc.1) (hL : sc.1 < 1000000) (hu : okH sc c u) (hK : ∀ u2, okH sc (c + 1) u2 → res sc (K 1000000 0 40 51 (nI i + 6) u2)) : res sc (f_L_law_1581 F K 1000000 0 40 51 (nI i) u) := by
  have s1 : ∀ (X M : Nat → rx_C) (w : Nat → Int64) (g : List rx_C), rx_aI (hp sc X M w g) 1000000 (nI i + 1) = some (sc.2 (i + 1)) := fun X M w g => scr hL (j := 1) rfl (by omega)
  have s2 : ∀ (X M : Nat → rx_C) (w : Nat → Int64) (g : List rx_C), rx_aI (hp sc X M w g) 1000000 (nI i + 2) = some (sc.2 (i + 2)) := fun X M w g => scr hL (j := 2) rfl (by omega)
  have s3 : ∀ (X M : Nat → rx_C) (w : Nat → Int64) (g : List rx_C), rx_aI (hp sc X M w g) 1000000 (nI i + 3) = some (sc.2 (i + 3)) := fun X M w g => scr hL (j := 3) rfl (by omega)
  have s4 : ∀ (X M : Nat → rx_C) (w : Nat → Int64) (g : List rx_C), rx_aI (hp sc X M w g) 1000000 (nI i + 4) = some (sc.2 (i + 4)) := fun X M w g => scr hL (j := 4) rfl (by omega)
  have s5 : ∀ (X M : Nat → rx_C) (w : Nat → Int64) (g : List rx_C), rx_aI (hp sc X M w g) 1000000 (nI i + 5) = some (sc.2 (i + 5)) := fun X M w g => scr hL (j := 5) rfl (by omega)
  have hu' := hu
  obtain ⟨n, cl, P, ly, sp, st, sk, sd, sm, th, mc, pk, kd, td, fm, pr, sz, ro, tu, pe, tr, as, w, g, rfl, hR, hg, hx⟩ := hu'
  obtain ⟨r, X', M', w', g', u2, e1, e2, e3, e4⟩ := st_flower hF hF2 (sc.2 (i + 1)) (sc.2 (i + 2)) _ hu
  unfold f_L_law_1581
  simp only [s1, s2, s3, s4, s5, Option.bind_some, ck_0, e1, e2, e3, if_true]
  exact hK u2 e4
theorem L_1618 (hF : 100000 ≤ F.1) (hF2 : 100 ≤ F.2) (hc : c ≤ 10000) (hi : i + 6 ≤ sc.1) (hL : sc.1 < 1000000) (hu : okH sc c u) (hK : ∀ u2, okH sc (c + 1) u2 → res sc (K 1000000 0 40 51 (nI i + 6) u2)) : res sc (f_L_law_1618 F K 1000000 0 40 51 (nI i) u) := by
  have s1 : ∀ (X M : Nat → rx_C) (w : Nat → Int64) (g : List rx_C), rx_aI (hp sc X M w g) 1000000 (nI i + 1) = some (sc.2 (i + 1)) := fun X M w g => scr hL (j := 1) rfl (by omega)
  have s2 : ∀ (X M : Nat → rx_C) (w : Nat → Int64) (g : List rx_C), rx_aI (hp sc X M w g) 1000000 (nI i + 2) = some (sc.2 (i + 2)) := fun X M w g => scr hL (j := 2) rfl (by omega)
  have s3 : ∀ (X M : Nat → rx_C) (w : Nat → Int64) (g : List rx_C), rx_aI (hp sc X M w g) 1000000 (nI i + 3) = some (sc.2 (i + 3)) := fun X M w g => scr hL (j := 3) rfl (by omega)
  have s4 : ∀ (X M : Nat → rx_C) (w : Nat → Int64) (g : List rx_C), rx_aI (hp sc X M w g) 1000000 (nI i + 4) = some (sc.2 (i + 4)) := fun X M w g => scr hL (j := 4) rfl (by omega)
  have s5 : ∀ (X M : Nat → rx_C) (w : Nat → Int64) (g : List rx_C), rx_aI (hp sc X M w g) 1000000 (nI i + 5) = some (sc.2 (i + 5)) := fun X M w g => scr hL (j := 5) rfl (by omega)
  have hu' := hu
  obtain ⟨n, cl, P, ly, sp, st, sk, sd, sm, th, mc, pk, kd, td, fm, pr, sz, ro, tu, pe, tr, as, w, g, rfl, hR, hg, hx⟩ := hu'
  obtain ⟨r, X', M', w', g', u2, e1, e2, e3, e4⟩ := st_petal F (sc.2 (i + 1)) _ hu
  unfold f_L_law_1618
  simp only [s1, s2, s3, s4, s5, Option.bind_some, ck_0, e1, e2, e3, if_true]
  exact hK u2 e4
theorem L_1643 (hF : 100000 ≤ F.1) (hF2 : 100 ≤ F.2) (hc : c ≤ 10000) (hi : i + 6 ≤ sc.1) (hL : sc.1 < 1000000) (hu : okH sc c u) (hK : ∀ u2, okH sc (c + 1) u2 → res sc (K 1000000 0 40 51 (nI i + 6) u2)) : res sc (f_L_law_1643 F K 1000000 0 40 51 (nI i) u) := by
  have s1 : ∀ (X M : Nat → rx_C) (w : Nat → Int64) (g : List rx_C), rx_aI (hp sc X M w g) 1000000 (nI i + 1) = some (sc.2 (i + 1)) := fun X M w g => scr hL (j := 1) rfl (by omega)
  have s2 : ∀ (X M : Nat → rx_C) (w : Nat → Int64) (g : List rx_C), rx_aI (hp sc X M w g) 1000000 (nI i + 2) = some (sc.2 (i + 2)) := fun X M w g => scr hL (j := 2) rfl (by omega)
  have s3 : ∀ (X M : Nat → rx_C) (w : Nat → Int64) (g : List rx_C), rx_aI (hp sc X M w g) 1000000 (nI i + 3) = some (sc.2 (i + 3)) := fun X M w g => scr hL (j := 3) rfl (by omega)
  have s4 : ∀ (X M : Nat → rx_C) (w : Nat → Int64) (g : List rx_C), rx_aI (hp sc X M w g) 1000000 (nI i + 4) = some (sc.2 (i + 4)) := fun X M w g => scr hL (j := 4) rfl (by omega)
  have s5 : ∀ (X M : Nat → rx_C) (w : Nat → Int64) (g : List rx_C), rx_aI (hp sc X M w g) 1000000 (nI i + 5) = some (sc.2 (i + 5)) := fun X M w g => scr hL (j := 5) rfl (by omega)
  have hu' := hu
  obtain ⟨n, cl, P, ly, sp, st, sk, sd, sm, th, mc, pk, kd, td, fm, pr, sz, ro, tu, pe, tr, as, w, g, rfl, hR, hg, hx⟩ := hu'
  obtain ⟨r, X', M', w', g', u2, e1, e2, e3, e4⟩ := st_cover hF (sc.2 (i + 1)) _ hu
  unfold f_L_law_1643
  simp only [s1, s2, s3, s4, s5, Option.bind_some, ck_0, e1, e2, e3, if_true]
  exact hK u2 e4
theorem L_1668 (hF : 100000 ≤ F.1) (hF2 : 100 ≤ F.2) (hc : c ≤ 10000) (hi : i + 6 ≤ sc.1) (hL : sc.1 < 1000000) (hu : okH sc c u) (hK : ∀ u2, okH sc (c + 1) u2 → res sc (K 1000000 0 40 51 (nI i + 6) u2)) : res sc (f_L_law_1668 F K 1000000 0 40 51 (nI i) u) := by
  have s1 : ∀ (X M : Nat → rx_C) (w : Nat → Int64) (g : List rx_C), rx_aI (hp sc X M w g) 1000000 (nI i + 1) = some (sc.2 (i + 1)) := fun X M w g => scr hL (j := 1) rfl (by omega)
  have s2 : ∀ (X M : Nat → rx_C) (w : Nat → Int64) (g : List rx_C), rx_aI (hp sc X M w g) 1000000 (nI i + 2) = some (sc.2 (i + 2)) := fun X M w g => scr hL (j := 2) rfl (by omega)
  have s3 : ∀ (X M : Nat → rx_C) (w : Nat → Int64) (g : List rx_C), rx_aI (hp sc X M w g) 1000000 (nI i + 3) = some (sc.2 (i + 3)) := fun X M w g => scr hL (j := 3) rfl (by omega)
  have s4 : ∀ (X M : Nat → rx_C) (w : Nat → Int64) (g : List rx_C), rx_aI (hp sc X M w g) 1000000 (nI i + 4) = some (sc.2 (i + 4)) := fun X M w g => scr hL (j := 4) rfl (by omega)
  have s5 : ∀ (X M : Nat → rx_C) (w : Nat → Int64) (g : List rx_C), rx_aI (hp sc X M w g) 1000000 (nI i + 5) = some (sc.2 (i + 5)) := fun X M w g => scr hL (j := 5) rfl (by omega)
  have hu' := hu
  obtain ⟨n, cl, P, ly, sp, st, sk, sd, sm, th, mc, pk, kd, td, fm, pr, sz, ro, tu, pe, tr, as, w, g, rfl, hR, hg, hx⟩ := hu'
  obtain ⟨r, X', M', w', g', u2, e1, e2, e3, e4⟩ := st_loose hF hF2 (sc.2 (i + 1)) _ hu
  unfold f_L_law_1668
  simp only [s1, s2, s3, s4, s5, Option.bind_some, ck_0, e1, e2, e3, if_true]
  exact hK u2 e4
theorem L_1693 (hF : 100000 ≤ F.1) (hF2 : 100 ≤ F.2) (hc : c ≤ 10000) (hi : i + 6 ≤ sc.1) (hL : sc.1 < 1000000) (hu : okH sc c u) (hK : ∀ u2, okH sc (c + 1) u2 → res sc (K 1000000 0 40 51 (nI i + 6) u2)) : res sc (f_L_law_1693 F K 1000000 0 40 51 (nI i) u) := by
  have s1 : ∀ (X M : Nat → rx_C) (w : Nat → Int64) (g : List rx_C), rx_aI (hp sc X M w g) 1000000 (nI i + 1) = some (sc.2 (i + 1)) := fun X M w g => scr hL (j := 1) rfl (by omega)
  have s2 : ∀ (X M : Nat → rx_C) (w : Nat → Int64) (g : List rx_C), rx_aI (hp sc X M w g) 1000000 (nI i + 2) = some (sc.2 (i + 2)) := fun X M w g => scr hL (j := 2) rfl (by omega)
  have s3 : ∀ (X M : Nat → rx_C) (w : Nat → Int64) (g : List rx_C), rx_aI (hp sc X M w g) 1000000 (nI i + 3) = some (sc.2 (i + 3)) := fun X M w g => scr hL (j := 3) rfl (by omega)
  have s4 : ∀ (X M : Nat → rx_C) (w : Nat → Int64) (g : List rx_C), rx_aI (hp sc X M w g) 1000000 (nI i + 4) = some (sc.2 (i + 4)) := fun X M w g => scr hL (j := 4) rfl (by omega)
  have s5 : ∀ (X M : Nat → rx_C) (w : Nat → Int64) (g : List rx_C), rx_aI (hp sc X M w g) 1000000 (nI i + 5) = some (sc.2 (i + 5)) := fun X M w g => scr hL (j := 5) rfl (by omega)
  have hu' := hu
  obtain ⟨n, cl, P, ly, sp, st, sk, sd, sm, th, mc, pk, kd, td, fm, pr, sz, ro, tu, pe, tr, as, w, g, rfl, hR, hg, hx⟩ := hu'
  obtain ⟨r, X', M', w', g', u2, e1, e2, e3, e4⟩ := st_shattered hF (sc.2 (i + 1)) (sc.2 (i + 2)) _ hu
  unfold f_L_law_1693
  simp only [s1, s2, s3, s4, s5, Option.bind_some, ck_0, e1, e2, e3, if_true]
  exact hK u2 e4
theorem L_1730 (hF : 100000 ≤ F.1) (hF2 : 100 ≤ F.2) (hc : c ≤ 10000) (hi : i + 6 ≤ sc.1) (hL : sc.1 < 1000000) (hu : okH sc c u) (hK : ∀ u2, okH sc (c + 1) u2 → res sc (K 1000000 0 40 51 (nI i + 6) u2)) : res sc (f_L_law_1730 F K 1000000 0 40 51 (nI i) u) := by
  have s1 : ∀ (X M : Nat → rx_C) (w : Nat → Int64) (g : List rx_C), rx_aI (hp sc X M w g) 1000000 (nI i + 1) = some (sc.2 (i + 1)) := fun X M w g => scr hL (j := 1) rfl (by omega)
  have s2 : ∀ (X M : Nat → rx_C) (w : Nat → Int64) (g : List rx_C), rx_aI (hp sc X M w g) 1000000 (nI i + 2) = some (sc.2 (i + 2)) := fun X M w g => scr hL (j := 2) rfl (by omega)
  have s3 : ∀ (X M : Nat → rx_C) (w : Nat → Int64) (g : List rx_C), rx_aI (hp sc X M w g) 1000000 (nI i + 3) = some (sc.2 (i + 3)) := fun X M w g => scr hL (j := 3) rfl (by omega)
  have s4 : ∀ (X M : Nat → rx_C) (w : Nat → Int64) (g : List rx_C), rx_aI (hp sc X M w g) 1000000 (nI i + 4) = some (sc.2 (i + 4)) := fun X M w g => scr hL (j := 4) rfl (by omega)
  have s5 : ∀ (X M : Nat → rx_C) (w : Nat → Int64) (g : List rx_C), rx_aI (hp sc X M w g) 1000000 (nI i + 5) = some (sc.2 (i + 5)) := fun X M w g => scr hL (j := 5) rfl (by omega)
  have hu' := hu
  obtain ⟨n, cl, P, ly, sp, st, sk, sd, sm, th, mc, pk, kd, td, fm, pr, sz, ro, tu, pe, tr, as, w, g, rfl, hR, hg, hx⟩ := hu'
  obtain ⟨r, X', M', w', g', u2, e1, e2, e3, e4⟩ := st_greatest hF hF2 (sc.2 (i + 1)) (sc.2 (i + 2)) (sc.2 (i + 3)) _ hu
  unfold f_L_law_1730
  simp only [s1, s2, s3, s4, s5, Option.bind_some, ck_0, e1, e2, e3, if_true]
  exact hK u2 e4
theorem L_1779 (hF : 100000 ≤ F.1) (hF2 : 100 ≤ F.2) (hc : c ≤ 10000) (hi : i + 6 ≤ sc.1) (hL : sc.1 < 1000000) (hu : okH sc c u) (hK : ∀ u2, okH sc (c + 1) u2 → res sc (K 1000000 0 40 51 (nI i + 6) u2)) : res sc (f_L_law_1779 F K 1000000 0 40 51 (nI i) u) := by
  have s1 : ∀ (X M : Nat → rx_C) (w : Nat → Int64) (g : List rx_C), rx_aI (hp sc X M w g) 1000000 (nI i + 1) = some (sc.2 (i + 1)) := fun X M w g => scr hL (j := 1) rfl (by omega)
  have s2 : ∀ (X M : Nat → rx_C) (w : Nat → Int64) (g : List rx_C), rx_aI (hp sc X M w g) 1000000 (nI i + 2) = some (sc.2 (i + 2)) := fun X M w g => scr hL (j := 2) rfl (by omega)
  have s3 : ∀ (X M : Nat → rx_C) (w : Nat → Int64) (g : List rx_C), rx_aI (hp sc X M w g) 1000000 (nI i + 3) = some (sc.2 (i + 3)) := fun X M w g => scr hL (j := 3) rfl (by omega)
  have s4 : ∀ (X M : Nat → rx_C) (w : Nat → Int64) (g : List rx_C), rx_aI (hp sc X M w g) 1000000 (nI i + 4) = some (sc.2 (i + 4)) := fun X M w g => scr hL (j := 4) rfl (by omega)
  have s5 : ∀ (X M : Nat → rx_C) (w : Nat → Int64) (g : List rx_C), rx_aI (hp sc X M w g) 1000000 (nI i + 5) = some (sc.2 (i + 5)) := fun X M w g => scr hL (j := 5) rfl (by omega)
  have hu' := hu
  obtain ⟨n, cl, P, ly, sp, st, sk, sd, sm, th, mc, pk, kd, td, fm, pr, sz, ro, tu, pe, tr, as, w, g, rfl, hR, hg, hx⟩ := hu'
  obtain ⟨r, X', M', w', g', u2, e1, e2, e3, e4⟩ := st_same hF hF2 (sc.2 (i + 1)) (sc.2 (i + 2)) _ hu
  unfold f_L_law_1779
  simp only [s1, s2, s3, s4, s5, Option.bind_some, ck_0, e1, e2, e3, if_true]
  exact hK u2 e4
theorem L_1816 (hF : 100000 ≤ F.1) (hF2 : 100 ≤ F.2) (hc : c ≤ 10000) (hi : i + 6 ≤ sc.1) (hL : sc.1 < 1000000) (hu : okH sc c u) (hK : ∀ u2, okH sc (c + 1) u2 → res sc (K 1000000 0 40 51 (nI i + 6) u2)) : res sc (f_L_law_1816 F K 1000000 0 40 51 (nI i) u) := by
  have s1 : ∀ (X M : Nat → rx_C) (w : Nat → Int64) (g : List rx_C), rx_aI (hp sc X M w g) 1000000 (nI i + 1) = some (sc.2 (i + 1)) := fun X M w g => scr hL (j := 1) rfl (by omega)
  have s2 : ∀ (X M : Nat → rx_C) (w : Nat → Int64) (g : List rx_C), rx_aI (hp sc X M w g) 1000000 (nI i + 2) = some (sc.2 (i + 2)) := fun X M w g => scr hL (j := 2) rfl (by omega)
  have s3 : ∀ (X M : Nat → rx_C) (w : Nat → Int64) (g : List rx_C), rx_aI (hp sc X M w g) 1000000 (nI i + 3) = some (sc.2 (i + 3)) := fun X M w g => scr hL (j := 3) rfl (by omega)
  have s4 : ∀ (X M : Nat → rx_C) (w : Nat → Int64) (g : List rx_C), rx_aI (hp sc X M w g) 1000000 (nI i + 4) = some (sc.2 (i + 4)) := fun X M w g => scr hL (j := 4) rfl (by omega)
  have s5 : ∀ (X M : Nat → rx_C) (w : Nat → Int64) (g : List rx_C), rx_aI (hp sc X M w g) 1000000 (nI i + 5) = some (sc.2 (i + 5)) := fun X M w g => scr hL (j := 5) rfl (by omega)
  have hu' := hu
  obtain ⟨n, cl, P, ly, sp, st, sk, sd, sm, th, mc, pk, kd, td, fm, pr, sz, ro, tu, pe, tr, as, w, g, rfl, hR, hg, hx⟩ := hu'
  obtain ⟨r, X', M', w', g', u2, e1, e2, e3, e4⟩ := st_turns hF hF2 (sc.2 (i + 1)) _ hu
  unfold f_L_law_1816
  simp only [s1, s2, s3, s4, s5, Option.bind_some, ck_0, e1, e2, e3, if_true]
  exact hK u2 e4
theorem L_1841 (hF : 100000 ≤ F.1) (hF2 : 100 ≤ F.2) (hc : c ≤ 10000) (hi : i + 6 ≤ sc.1) (hL : sc.1 < 1000000) (hu : okH sc c u) (hK : ∀ u2, okH sc (c + 1) u2 → res sc (K 1000000 0 40 51 (nI i + 6) u2)) : res sc (f_L_law_1841 F K 1000000 0 40 51 (nI i) u) := by
  have s1 : ∀ (X M : Nat → rx_C) (w : Nat → Int64) (g : List rx_C), rx_aI (hp sc X M w g) 1000000 (nI i + 1) = some (sc.2 (i + 1)) := fun X M w g => scr hL (j := 1) rfl (by omega)
  have s2 : ∀ (X M : Nat → rx_C) (w : Nat → Int64) (g : List rx_C), rx_aI (hp sc X M w g) 1000000 (nI i + 2) = some (sc.2 (i + 2)) := fun X M w g => scr hL (j := 2) rfl (by omega)
  have s3 : ∀ (X M : Nat → rx_C) (w : Nat → Int64) (g : List rx_C), rx_aI (hp sc X M w g) 1000000 (nI i + 3) = some (sc.2 (i + 3)) := fun X M w g => scr hL (j := 3) rfl (by omega)
  have s4 : ∀ (X M : Nat → rx_C) (w : Nat → Int64) (g : List rx_C), rx_aI (hp sc X M w g) 1000000 (nI i + 4) = some (sc.2 (i + 4)) := fun X M w g => scr hL (j := 4) rfl (by omega)
  have s5 : ∀ (X M : Nat → rx_C) (w : Nat → Int64) (g : List rx_C), rx_aI (hp sc X M w g) 1000000 (nI i + 5) = some (sc.2 (i + 5)) := fun X M w g => scr hL (j := 5) rfl (by omega)
  have hu' := hu
  obtain ⟨n, cl, P, ly, sp, st, sk, sd, sm, th, mc, pk, kd, td, fm, pr, sz, ro, tu, pe, tr, as, w, g, rfl, hR, hg, hx⟩ := hu'
  obtain ⟨r, X', M', w', g', u2, e1, e2, e3, e4⟩ := st_row hF (sc.2 (i + 1)) (sc.2 (i + 2)) (sc.2 (i + 3)) _ hu
  unfold f_L_law_1841
  simp only [s1, s2, s3, s4, s5, Option.bind_some, ck_0, e1, e2, e3, if_true]
  exact hK u2 e4
theorem L_1890 (hF : 100000 ≤ F.1) (hF2 : 100 ≤ F.2) (hc : c ≤ 10000) (hi : i + 6 ≤ sc.1) (hL : sc.1 < 1000000) (hu : okH sc c u) (hK : ∀ u2, okH sc (c + 1) u2 → res sc (K 1000000 0 40 51 (nI i + 6) u2)) : res sc (f_L_law_1890 F K 1000000 0 40 51 (nI i) u) := by
  have s1 : ∀ (X M : Nat → rx_C) (w : Nat → Int64) (g : List rx_C), rx_aI (hp sc X M w g) 1000000 (nI i + 1) = some (sc.2 (i + 1)) := fun X M w g => scr hL (j := 1) rfl (by omega)
  have s2 : ∀ (X M : Nat → rx_C) (w : Nat → Int64) (g : List rx_C), rx_aI (hp sc X M w g) 1000000 (nI i + 2) = some (sc.2 (i + 2)) := fun X M w g => scr hL (j := 2) rfl (by omega)
  have s3 : ∀ (X M : Nat → rx_C) (w : Nat → Int64) (g : List rx_C), rx_aI (hp sc X M w g) 1000000 (nI i + 3) = some (sc.2 (i + 3)) := fun X M w g => scr hL (j := 3) rfl (by omega)
  have s4 : ∀ (X M : Nat → rx_C) (w : Nat → Int64) (g : List rx_C), rx_aI (hp sc X M w g) 1000000 (nI i + 4) = some (sc.2 (i + 4)) := fun X M w g => scr hL (j := 4) rfl (by omega)
  have s5 : ∀ (X M : Nat → rx_C) (w : Nat → Int64) (g : List rx_C), rx_aI (hp sc X M w g) 1000000 (nI i + 5) = some (sc.2 (i + 5)) := fun X M w g => scr hL (j := 5) rfl (by omega)
  have hu' := hu
  obtain ⟨n, cl, P, ly, sp, st, sk, sd, sm, th, mc, pk, kd, td, fm, pr, sz, ro, tu, pe, tr, as, w, g, rfl, hR, hg, hx⟩ := hu'
  obtain ⟨r, X', M', w', g', u2, e1, e2, e3, e4⟩ := st_put (F := F) (sc.2 (i + 1)) (sc.2 (i + 2)) (((Int32.toInt64 (sc.2 (i + 3))) <<< (Int32.toInt64 (32 : Int32) &&& 63)) ||| ((Int32.toInt64 (sc.2 (i + 4))) &&& (4294967295 : Int64))) _ hu
  unfold f_L_law_1890
  simp only [s1, s2, s3, s4, s5, Option.bind_some, ck_0, e1, e2, e3, if_true]
  exact hK u2 e4
theorem L_1971 (hF : 100000 ≤ F.1) (hF2 : 100 ≤ F.2) (hc : c ≤ 10000) (hi : i + 6 ≤ sc.1) (hL : sc.1 < 1000000) (hu : okH sc c u) (hK : ∀ u2, okH sc (c + 1) u2 → res sc (K 1000000 0 40 51 (nI i + 6) u2)) : res sc (f_L_law_1971 F K 1000000 0 40 51 (nI i) u) := by
  have s1 : ∀ (X M : Nat → rx_C) (w : Nat → Int64) (g : List rx_C), rx_aI (hp sc X M w g) 1000000 (nI i + 1) = some (sc.2 (i + 1)) := fun X M w g => scr hL (j := 1) rfl (by omega)
  have s2 : ∀ (X M : Nat → rx_C) (w : Nat → Int64) (g : List rx_C), rx_aI (hp sc X M w g) 1000000 (nI i + 2) = some (sc.2 (i + 2)) := fun X M w g => scr hL (j := 2) rfl (by omega)
  have s3 : ∀ (X M : Nat → rx_C) (w : Nat → Int64) (g : List rx_C), rx_aI (hp sc X M w g) 1000000 (nI i + 3) = some (sc.2 (i + 3)) := fun X M w g => scr hL (j := 3) rfl (by omega)
  have s4 : ∀ (X M : Nat → rx_C) (w : Nat → Int64) (g : List rx_C), rx_aI (hp sc X M w g) 1000000 (nI i + 4) = some (sc.2 (i + 4)) := fun X M w g => scr hL (j := 4) rfl (by omega)
  have s5 : ∀ (X M : Nat → rx_C) (w : Nat → Int64) (g : List rx_C), rx_aI (hp sc X M w g) 1000000 (nI i + 5) = some (sc.2 (i + 5)) := fun X M w g => scr hL (j := 5) rfl (by omega)
  have hu' := hu
  obtain ⟨n, cl, P, ly, sp, st, sk, sd, sm, th, mc, pk, kd, td, fm, pr, sz, ro, tu, pe, tr, as, w, g, rfl, hR, hg, hx⟩ := hu'
  obtain ⟨k, X', M', w', g', b, u2, e1, e2, e3, e4, e5, e6, e7⟩ := st_element (F := F) hc (sc.2 (i + 1)) (sc.2 (i + 2)) _ hu
  unfold f_L_law_1971
  simp only [s1, s2, s3, s4, s5, Option.bind_some, e1, e2, e3, e4, e5, if_true]
  by_cases k0 : k = 0
  · rw [if_pos k0, e6 k0, Option.bind_some, if_pos rfl]; exact hK u2 e7
  · rw [if_neg k0]; exact hK u2 e7
theorem L_2038 (hF : 100000 ≤ F.1) (hF2 : 100 ≤ F.2) (hc : c ≤ 10000) (hi : i + 6 ≤ sc.1) (hL : sc.1 < 1000000) (hu : okH sc c u) (hK : ∀ u2, okH sc (c + 1) u2 → res sc (K 1000000 0 40 51 (nI i + 6) u2)) : res sc (f_L_law_2038 F K 1000000 0 40 51 (nI i) u) := by
  have s1 : ∀ (X M : Nat → rx_C) (w : Nat → Int64) (g : List rx_C), rx_aI (hp sc X M w g) 1000000 (nI i + 1) = some (sc.2 (i + 1)) := fun X M w g => scr hL (j := 1) rfl (by omega)
  have s2 : ∀ (X M : Nat → rx_C) (w : Nat → Int64) (g : List rx_C), rx_aI (hp sc X M w g) 1000000 (nI i + 2) = some (sc.2 (i + 2)) := fun X M w g => scr hL (j := 2) rfl (by omega)
  have s3 : ∀ (X M : Nat → rx_C) (w : Nat → Int64) (g : List rx_C), rx_aI (hp sc X M w g) 1000000 (nI i + 3) = some (sc.2 (i + 3)) := fun X M w g => scr hL (j := 3) rfl (by omega)
  have s4 : ∀ (X M : Nat → rx_C) (w : Nat → Int64) (g : List rx_C), rx_aI (hp sc X M w g) 1000000 (nI i + 4) = some (sc.2 (i + 4)) := fun X M w g => scr hL (j := 4) rfl (by omega)
  have s5 : ∀ (X M : Nat → rx_C) (w : Nat → Int64) (g : List rx_C), rx_aI (hp sc X M w g) 1000000 (nI i + 5) = some (sc.2 (i + 5)) := fun X M w g => scr hL (j := 5) rfl (by omega)
  have hu' := hu
  obtain ⟨n, cl, P, ly, sp, st, sk, sd, sm, th, mc, pk, kd, td, fm, pr, sz, ro, tu, pe, tr, as, w, g, rfl, hR, hg, hx⟩ := hu'
  obtain ⟨r, X', M', w', g', u2, e1, e2, e3, e4⟩ := st_copy hF (sc.2 (i + 1)) (sc.2 (i + 2)) (sc.2 (i + 3)) (sc.2 (i + 4)) (sc.2 (i + 5)) _ hu
  unfold f_L_law_2038
  simp only [s1, s2, s3, s4, s5, Option.bind_some, ck_0, e1, e2, e3, if_true]
  exact hK u2 e4
theorem L_2111 (hF : 100000 ≤ F.1) (hF2 : 100 ≤ F.2) (hc : c ≤ 10000) (hi : i + 6 ≤ sc.1) (hL : sc.1 < 1000000) (hu : okH sc c u) (hK : ∀ u2, okH sc (c + 1) u2 → res sc (K 1000000 0 40 51 (nI i + 6) u2)) : res sc (f_L_law_2111 F K 1000000 0 40 51 (nI i) u) := by
  have s1 : ∀ (X M : Nat → rx_C) (w : Nat → Int64) (g : List rx_C), rx_aI (hp sc X M w g) 1000000 (nI i + 1) = some (sc.2 (i + 1)) := fun X M w g => scr hL (j := 1) rfl (by omega)
  have s2 : ∀ (X M : Nat → rx_C) (w : Nat → Int64) (g : List rx_C), rx_aI (hp sc X M w g) 1000000 (nI i + 2) = some (sc.2 (i + 2)) := fun X M w g => scr hL (j := 2) rfl (by omega)
  have s3 : ∀ (X M : Nat → rx_C) (w : Nat → Int64) (g : List rx_C), rx_aI (hp sc X M w g) 1000000 (nI i + 3) = some (sc.2 (i + 3)) := fun X M w g => scr hL (j := 3) rfl (by omega)
  have s4 : ∀ (X M : Nat → rx_C) (w : Nat → Int64) (g : List rx_C), rx_aI (hp sc X M w g) 1000000 (nI i + 4) = some (sc.2 (i + 4)) := fun X M w g => scr hL (j := 4) rfl (by omega)
  have s5 : ∀ (X M : Nat → rx_C) (w : Nat → Int64) (g : List rx_C), rx_aI (hp sc X M w g) 1000000 (nI i + 5) = some (sc.2 (i + 5)) := fun X M w g => scr hL (j := 5) rfl (by omega)
  have hu' := hu
  obtain ⟨n, cl, P, ly, sp, st, sk, sd, sm, th, mc, pk, kd, td, fm, pr, sz, ro, tu, pe, tr, as, w, g, rfl, hR, hg, hx⟩ := hu'
  obtain ⟨r, X', M', w', g', u2, e1, e2, e3, e4⟩ := st_take hF (sc.2 (i + 1)) (sc.2 (i + 2)) _ hu
  unfold f_L_law_2111
  simp only [s1, s2, s3, s4, s5, Option.bind_some, ck_0, e1, e2, e3, if_true]
  exact hK u2 e4
theorem L_2148 (hF : 100000 ≤ F.1) (hF2 : 100 ≤ F.2) (hc : c ≤ 10000) (hi : i + 6 ≤ sc.1) (hL : sc.1 < 1000000) (hu : okH sc c u) (hK : ∀ u2, okH sc (c + 1) u2 → res sc (K 1000000 0 40 51 (nI i + 6) u2)) : res sc (f_L_law_2148 F K 1000000 0 40 51 (nI i) u) := by
  have s1 : ∀ (X M : Nat → rx_C) (w : Nat → Int64) (g : List rx_C), rx_aI (hp sc X M w g) 1000000 (nI i + 1) = some (sc.2 (i + 1)) := fun X M w g => scr hL (j := 1) rfl (by omega)
  have s2 : ∀ (X M : Nat → rx_C) (w : Nat → Int64) (g : List rx_C), rx_aI (hp sc X M w g) 1000000 (nI i + 2) = some (sc.2 (i + 2)) := fun X M w g => scr hL (j := 2) rfl (by omega)
  have s3 : ∀ (X M : Nat → rx_C) (w : Nat → Int64) (g : List rx_C), rx_aI (hp sc X M w g) 1000000 (nI i + 3) = some (sc.2 (i + 3)) := fun X M w g => scr hL (j := 3) rfl (by omega)
  have s4 : ∀ (X M : Nat → rx_C) (w : Nat → Int64) (g : List rx_C), rx_aI (hp sc X M w g) 1000000 (nI i + 4) = some (sc.2 (i + 4)) := fun X M w g => scr hL (j := 4) rfl (by omega)
  have s5 : ∀ (X M : Nat → rx_C) (w : Nat → Int64) (g : List rx_C), rx_aI (hp sc X M w g) 1000000 (nI i + 5) = some (sc.2 (i + 5)) := fun X M w g => scr hL (j := 5) rfl (by omega)
  have hu' := hu
  obtain ⟨n, cl, P, ly, sp, st, sk, sd, sm, th, mc, pk, kd, td, fm, pr, sz, ro, tu, pe, tr, as, w, g, rfl, hR, hg, hx⟩ := hu'
  obtain ⟨r, X', M', w', g', u2, e1, e2, e3, e4⟩ := st_heft (F := F) (by omega) (sc.2 (i + 1)) _ hu
  unfold f_L_law_2148
  simp only [s1, s2, s3, s4, s5, Option.bind_some, ck_0, e1, e2, e3, if_true]
  exact hK u2 e4
theorem L_2173 (hF : 100000 ≤ F.1) (hF2 : 100 ≤ F.2) (hc : c ≤ 10000) (hi : i + 6 ≤ sc.1) (hL : sc.1 < 1000000) (hu : okH sc c u) (hK : ∀ u2, okH sc (c + 1) u2 → res sc (K 1000000 0 40 51 (nI i + 6) u2)) : res sc (f_L_law_2173 F K 1000000 0 40 51 (nI i) u) := by
  have s1 : ∀ (X M : Nat → rx_C) (w : Nat → Int64) (g : List rx_C), rx_aI (hp sc X M w g) 1000000 (nI i + 1) = some (sc.2 (i + 1)) := fun X M w g => scr hL (j := 1) rfl (by omega)
  have s2 : ∀ (X M : Nat → rx_C) (w : Nat → Int64) (g : List rx_C), rx_aI (hp sc X M w g) 1000000 (nI i + 2) = some (sc.2 (i + 2)) := fun X M w g => scr hL (j := 2) rfl (by omega)
  have s3 : ∀ (X M : Nat → rx_C) (w : Nat → Int64) (g : List rx_C), rx_aI (hp sc X M w g) 1000000 (nI i + 3) = some (sc.2 (i + 3)) := fun X M w g => scr hL (j := 3) rfl (by omega)
  have s4 : ∀ (X M : Nat → rx_C) (w : Nat → Int64) (g : List rx_C), rx_aI (hp sc X M w g) 1000000 (nI i + 4) = some (sc.2 (i + 4)) := fun X M w g => scr hL (j := 4) rfl (by omega)
  have s5 : ∀ (X M : Nat → rx_C) (w : Nat → Int64) (g : List rx_C), rx_aI (hp sc X M w g) 1000000 (nI i + 5) = some (sc.2 (i + 5)) := fun X M w g => scr hL (j := 5) rfl (by omega)
  have hu' := hu
  obtain ⟨n, cl, P, ly, sp, st, sk, sd, sm, th, mc, pk, kd, td, fm, pr, sz, ro, tu, pe, tr, as, w, g, rfl, hR, hg, hx⟩ := hu'
  obtain ⟨r, X', M', w', g', u2, e1, e2, e3, e4⟩ := st_toss (F := F) hc (sc.2 (i + 1)) _ hu
  unfold f_L_law_2173
  simp only [s1, s2, s3, s4, s5, Option.bind_some, ck_0, e1, e2, e3, if_true]
  exact hK u2 e4
end B95
theorem len6 {L i : Nat} (hL : L < 1000000) (hi : i < 1000000) : (nI L - 6 < nI i) ↔ L < i + 6 := by
  rw [Int32.lt_iff_toInt_lt, show (6 : Int32) = nI 6 from rfl, pk_sub_toInt (by omega) (by omega), nI_toInt (by omega)]
  omega
theorem law_loop {F : Nat × Nat} {sc : Nat × (Nat → Int32)} (hF : 100000 ≤ F.1) (hF2 : 100 ≤ F.2) (hL : sc.1 ≤ 3073) : ∀ (f i c : Nat) (u : Option rx_H), sc.1 < i + 6 * f → 1 ≤ f → 6 * c + 1 = i → (i ≤ 1 ∨ i ≤ sc.1) → okH sc c u → res sc (f_L_law_33 F f 1000000 0 40 51 (nI i) u) := by
  intro f
  induction f with
  | zero => intro i c u _ h; omega
  | succ f ih =>
    intro i c u h1 h2 h3 h4 hu
    have hu' := hu
    obtain ⟨n, cl, P, ly, sp, st, sk, sd, sm, th, mc, pk, kd, td, fm, pr, sz, ro, tu, pe, tr, as, w, g, rfl, hR, hg, hx⟩ := hu'
    rw [f_L_law_33, hp_len, Option.bind_some]
    refine res_ite (fun _ => ⟨_, rfl, okH_mono hu (by omega)⟩) (fun hlt => ?_)
    rw [len6 (by omega) (by omega)] at hlt
    have hK : ∀ u2, okH sc (c + 1) u2 → res sc (f_L_law_33 F f 1000000 0 40 51 (nI i + 6) u2) := fun u2 h => by
      rw [show (6 : Int32) = nI 6 from rfl, nI_add]
      exact ih (i + 6) (c + 1) u2 (by omega) (by omega) (by omega) (by omega) h
    rw [hp_script (show i < sc.1 by omega) (by omega), Option.bind_some]
    generalize (sc.2 i &&& (63 : Int32)) = q
    refine res_ite (fun _ => L_252 hF hF2 (by omega) (by omega) (by omega) hu hK) (fun _ => ?_)
    refine res_ite (fun _ => L_301 hF hF2 (by omega) (by omega) (by omega) hu hK) (fun _ => ?_)
    refine res_ite (fun _ => L_350 hF hF2 (by omega) (by omega) (by omega) hu hK) (fun _ => ?_)
    refine res_ite (fun _ => L_387 hF hF2 (by omega) (by omega) (by omega) hu hK) (fun _ => ?_)
    refine res_ite (fun _ => L_424 hF hF2 (by omega) (by omega) (by omega) hu hK) (fun _ => ?_)
    refine res_ite (fun _ => L_437 hF hF2 (by omega) (by omega) (by omega) hu hK) (fun _ => ?_)
    refine res_ite (fun _ => L_462 hF hF2 (by omega) (by omega) (by omega) hu hK) (fun _ => ?_)
    refine res_ite (fun _ => L_487 hF hF2 (by omega) (by omega) (by omega) hu hK) (fun _ => ?_)
    refine res_ite (fun _ => L_524 hF hF2 (by omega) (by omega) (by omega) hu hK) (fun _ => ?_)
    refine res_ite (fun _ => L_561 hF hF2 (by omega) (by omega) (by omega) hu hK) (fun _ => ?_)
    refine res_ite (fun _ => L_598 hF hF2 (by omega) (by omega) (by omega) hu hK) (fun _ => ?_)
    refine res_ite (fun _ => L_647 hF hF2 (by omega) (by omega) (by omega) hu hK) (fun _ => ?_)
    refine res_ite (fun _ => L_684 hF hF2 (by omega) (by omega) (by omega) hu hK) (fun _ => ?_)
    refine res_ite (fun _ => L_721 hF hF2 (by omega) (by omega) (by omega) hu hK) (fun _ => ?_)
    refine res_ite (fun _ => L_786 hF hF2 (by omega) (by omega) (by omega) hu hK) (fun _ => ?_)
    refine res_ite (fun _ => L_851 hF hF2 (by omega) (by omega) (by omega) hu hK) (fun _ => ?_)
    refine res_ite (fun _ => L_912 hF hF2 (by omega) (by omega) (by omega) hu hK) (fun _ => ?_)
    refine res_ite (fun _ => L_977 hF hF2 (by omega) (by omega) (by omega) hu hK) (fun _ => ?_)
    refine res_ite (fun _ => L_1026 hF hF2 (by omega) (by omega) (by omega) hu hK) (fun _ => ?_)
    refine res_ite (fun _ => L_1075 hF hF2 (by omega) (by omega) (by omega) hu hK) (fun _ => ?_)
    refine res_ite (fun _ => L_1124 hF hF2 (by omega) (by omega) (by omega) hu hK) (fun _ => ?_)
    refine res_ite (fun _ => L_1149 hF hF2 (by omega) (by omega) (by omega) hu hK) (fun _ => ?_)
    refine res_ite (fun _ => L_1198 hF hF2 (by omega) (by omega) (by omega) hu hK) (fun _ => ?_)
    refine res_ite (fun _ => L_1223 hF hF2 (by omega) (by omega) (by omega) hu hK) (fun _ => ?_)
    refine res_ite (fun _ => L_1248 hF hF2 (by omega) (by omega) (by omega) hu hK) (fun _ => ?_)
    refine res_ite (fun _ => L_1285 hF hF2 (by omega) (by omega) (by omega) hu hK) (fun _ => ?_)
    refine res_ite (fun _ => L_1334 hF hF2 (by omega) (by omega) (by omega) hu hK) (fun _ => ?_)
    refine res_ite (fun _ => L_1371 hF hF2 (by omega) (by omega) (by omega) hu hK) (fun _ => ?_)
    refine res_ite (fun _ => L_1408 hF hF2 (by omega) (by omega) (by omega) hu hK) (fun _ => ?_)
    refine res_ite (fun _ => L_1457 hF hF2 (by omega) (by omega) (by omega) hu hK) (fun _ => ?_)
    refine res_ite (fun _ => L_1507 hF hF2 (by omega) (by omega) (by omega) hu hK) (fun _ => ?_)
    refine res_ite (fun _ => L_1544 hF hF2 (by omega) (by omega) (by omega) hu hK) (fun _ => ?_)
    refine res_ite (fun _ => L_1581 hF hF2 (by omega) (by omega) (by omega) hu hK) (fun _ => ?_)
    refine res_ite (fun _ => L_1618 hF hF2 (by omega) (by omega) (by omega) hu hK) (fun _ => ?_)
    refine res_ite (fun _ => L_1643 hF hF2 (by omega) (by omega) (by omega) hu hK) (fun _ => ?_)
    refine res_ite (fun _ => L_1668 hF hF2 (by omega) (by omega) (by omega) hu hK) (fun _ => ?_)
    refine res_ite (fun _ => L_1693 hF hF2 (by omega) (by omega) (by omega) hu hK) (fun _ => ?_)
    refine res_ite (fun _ => L_1730 hF hF2 (by omega) (by omega) (by omega) hu hK) (fun _ => ?_)
    refine res_ite (fun _ => L_1779 hF hF2 (by omega) (by omega) (by omega) hu hK) (fun _ => ?_)
    refine res_ite (fun _ => L_1816 hF hF2 (by omega) (by omega) (by omega) hu hK) (fun _ => ?_)
    refine res_ite (fun _ => L_1841 hF hF2 (by omega) (by omega) (by omega) hu hK) (fun _ => ?_)
    refine res_ite (fun _ => L_1890 hF hF2 (by omega) (by omega) (by omega) hu hK) (fun _ => ?_)
    refine res_ite (fun _ => L_1971 hF hF2 (by omega) (by omega) (by omega) hu hK) (fun _ => ?_)
    refine res_ite (fun _ => L_2038 hF hF2 (by omega) (by omega) (by omega) hu hK) (fun _ => ?_)
    refine res_ite (fun _ => L_2111 hF hF2 (by omega) (by omega) (by omega) hu hK) (fun _ => ?_)
    refine res_ite (fun _ => L_2148 hF hF2 (by omega) (by omega) (by omega) hu hK) (fun _ => ?_)
    refine res_ite (fun _ => L_2173 hF hF2 (by omega) (by omega) (by omega) hu hK) (fun _ => ?_)
    exact hK _ (okH_mono hu (by omega))
