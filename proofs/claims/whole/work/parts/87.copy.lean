theorem st_copy {F : Nat × Nat} (hF : 100000 ≤ F.1) {sc : Nat × (Nat → Int32)} {c : Nat} (x i y j m : Int32) : stepI sc c (f_X6_copy F 0 x i y j m) (f_X7_copy F 40 x i y j m) := by
  refine stepI.mk fun n cl P ly sp st sk sd sm th mc pk kd td fm pr sz ro tu pe tr as w g hR => ?_
  rcases place_or x with ⟨p, hp_, rfl⟩ | hnp
  · have hkp := (hR.2.2.1 p hp_).1
    rcases place_or y with ⟨o, ho_, rfl⟩ | hno
    · have hko := (hR.2.2.1 o ho_).1
      by_cases h1 : kd p = -2
      · refine ⟨-11, cl, P, sp, st, sk, sd, sm, th, mc, pk, kd, td, fm, pr, sz, ro, tu, pe, tr, as, ?_, ?_, hR⟩
        · simp only [f_X6_copy, f_X6_copy_0, ck_0, Option.bind_some, ne10, if_true, if_false, eq_self, gx_shelf, gm_kd, gm_sz, gm_rw, f_isPlace_yes F _ hp_, f_mPlace_yes F hp_, ax_shelf hp_, gp_ho hp_, am_kd hp_, ck_P hp_, f_isRow_eq F hp_, am_sz hp_, gp_nu hp_, f_isPlace_yes F _ ho_, f_mPlace_yes F ho_, ax_shelf ho_, gp_ho ho_, am_kd ho_, ck_P ho_, am_sz ho_, gp_nu ho_, hkp, hko, h1]
        · simp only [f_X7_copy, f_X7_copy_0, ck_0, Option.bind_some, ne10, if_true, if_false, eq_self, gx_shelf, gm_kd, gm_sz, gm_rw, f_isPlace_yes F _ hp_, f_mPlace_yes F hp_, ax_shelf hp_, gp_ho hp_, am_kd hp_, ck_P hp_, f_isRow_eq F hp_, am_sz hp_, gp_nu hp_, f_isPlace_yes F _ ho_, f_mPlace_yes F ho_, ax_shelf ho_, gp_ho ho_, am_kd ho_, ck_P ho_, am_sz ho_, gp_nu ho_, hkp, hko, h1]
      by_cases h2 : kd o = -2
      · refine ⟨-11, cl, P, sp, st, sk, sd, sm, th, mc, pk, kd, td, fm, pr, sz, ro, tu, pe, tr, as, ?_, ?_, hR⟩
        · simp only [f_X6_copy, f_X6_copy_0, ck_0, Option.bind_some, ne10, if_true, if_false, eq_self, gx_shelf, gm_kd, gm_sz, gm_rw, f_isPlace_yes F _ hp_, f_mPlace_yes F hp_, ax_shelf hp_, gp_ho hp_, am_kd hp_, ck_P hp_, f_isRow_eq F hp_, am_sz hp_, gp_nu hp_, f_isPlace_yes F _ ho_, f_mPlace_yes F ho_, ax_shelf ho_, gp_ho ho_, am_kd ho_, ck_P ho_, am_sz ho_, gp_nu ho_, hkp, hko, h1, h2]
        · simp only [f_X7_copy, f_X7_copy_0, ck_0, Option.bind_some, ne10, if_true, if_false, eq_self, gx_shelf, gm_kd, gm_sz, gm_rw, f_isPlace_yes F _ hp_, f_mPlace_yes F hp_, ax_shelf hp_, gp_ho hp_, am_kd hp_, ck_P hp_, f_isRow_eq F hp_, am_sz hp_, gp_nu hp_, f_isPlace_yes F _ ho_, f_mPlace_yes F ho_, ax_shelf ho_, gp_ho ho_, am_kd ho_, ck_P ho_, am_sz ho_, gp_nu ho_, hkp, hko, h1, h2]
      by_cases h3 : kd p < 6
      · refine ⟨-12, cl, P, sp, st, sk, sd, sm, th, mc, pk, kd, td, fm, pr, sz, ro, tu, pe, tr, as, ?_, ?_, hR⟩
        · simp only [f_X6_copy, f_X6_copy_0, ck_0, Option.bind_some, ne10, if_true, if_false, eq_self, gx_shelf, gm_kd, gm_sz, gm_rw, f_isPlace_yes F _ hp_, f_mPlace_yes F hp_, ax_shelf hp_, gp_ho hp_, am_kd hp_, ck_P hp_, f_isRow_eq F hp_, am_sz hp_, gp_nu hp_, f_isPlace_yes F _ ho_, f_mPlace_yes F ho_, ax_shelf ho_, gp_ho ho_, am_kd ho_, ck_P ho_, am_sz ho_, gp_nu ho_, hkp, hko, h1, h2, h3]
        · simp only [f_X7_copy, f_X7_copy_0, ck_0, Option.bind_some, ne10, if_true, if_false, eq_self, gx_shelf, gm_kd, gm_sz, gm_rw, f_isPlace_yes F _ hp_, f_mPlace_yes F hp_, ax_shelf hp_, gp_ho hp_, am_kd hp_, ck_P hp_, f_isRow_eq F hp_, am_sz hp_, gp_nu hp_, f_isPlace_yes F _ ho_, f_mPlace_yes F ho_, ax_shelf ho_, gp_ho ho_, am_kd ho_, ck_P ho_, am_sz ho_, gp_nu ho_, hkp, hko, h1, h2, h3]
      by_cases h4 : kd o = kd p
      · have r0 : refr (kd p) = 0 := by unfold refr; rw [if_neg h1, if_neg h3]
        have r1 : refr (kd o) = 0 := by rw [h4]; exact r0
        obtain ⟨jp, hjp, hkp', lp, hlp, p1, p2, p3⟩ := row_of (hR.2.2.1 p hp_) r0
        obtain ⟨jo, hjo, hko', lo, hlo, o1, o2, o3⟩ := row_of (hR.2.2.1 o ho_) r1
        by_cases hm : m < 0
        · refine ⟨-13, cl, P, sp, st, sk, sd, sm, th, mc, pk, kd, td, fm, pr, sz, ro, tu, pe, tr, as, ?_, ?_, hR⟩
          · simp only [f_X6_copy, f_X6_copy_0, ck_0, Option.bind_some, ne10, if_true, if_false, eq_self, gx_shelf, gm_kd, gm_sz, gm_rw, f_isPlace_yes F _ hp_, f_mPlace_yes F hp_, ax_shelf hp_, gp_ho hp_, am_kd hp_, ck_P hp_, f_isRow_eq F hp_, am_sz hp_, gp_nu hp_, f_isPlace_yes F _ ho_, f_mPlace_yes F ho_, ax_shelf ho_, gp_ho ho_, am_kd ho_, ck_P ho_, am_sz ho_, gp_nu ho_, hkp, hko, h1, h3, h4, hm, f_hasStr F hp_ hlp p1, not_true, false_and, and_false]
          · simp only [f_X7_copy, f_X7_copy_0, ck_0, Option.bind_some, ne10, if_true, if_false, eq_self, gx_shelf, gm_kd, gm_sz, gm_rw, f_isPlace_yes F _ hp_, f_mPlace_yes F hp_, ax_shelf hp_, gp_ho hp_, am_kd hp_, ck_P hp_, f_isRow_eq F hp_, am_sz hp_, gp_nu hp_, f_isPlace_yes F _ ho_, f_mPlace_yes F ho_, ax_shelf ho_, gp_ho ho_, am_kd ho_, ck_P ho_, am_sz ho_, gp_nu ho_, hkp, hko, h1, h3, h4, hm, f_hasStr F hp_ hlp p1, not_true, false_and, and_false]
        by_cases hi : i < 0
        · refine ⟨-13, cl, P, sp, st, sk, sd, sm, th, mc, pk, kd, td, fm, pr, sz, ro, tu, pe, tr, as, ?_, ?_, hR⟩
          · simp only [f_X6_copy, f_X6_copy_0, ck_0, Option.bind_some, ne10, if_true, if_false, eq_self, gx_shelf, gm_kd, gm_sz, gm_rw, f_isPlace_yes F _ hp_, f_mPlace_yes F hp_, ax_shelf hp_, gp_ho hp_, am_kd hp_, ck_P hp_, f_isRow_eq F hp_, am_sz hp_, gp_nu hp_, f_isPlace_yes F _ ho_, f_mPlace_yes F ho_, ax_shelf ho_, gp_ho ho_, am_kd ho_, ck_P ho_, am_sz ho_, gp_nu ho_, hkp, hko, h1, h3, h4, hm, hi, f_hasStr F hp_ hlp p1, not_true, false_and, and_false]
          · simp only [f_X7_copy, f_X7_copy_0, ck_0, Option.bind_some, ne10, if_true, if_false, eq_self, gx_shelf, gm_kd, gm_sz, gm_rw, f_isPlace_yes F _ hp_, f_mPlace_yes F hp_, ax_shelf hp_, gp_ho hp_, am_kd hp_, ck_P hp_, f_isRow_eq F hp_, am_sz hp_, gp_nu hp_, f_isPlace_yes F _ ho_, f_mPlace_yes F ho_, ax_shelf ho_, gp_ho ho_, am_kd ho_, ck_P ho_, am_sz ho_, gp_nu ho_, hkp, hko, h1, h3, h4, hm, hi, f_hasStr F hp_ hlp p1, not_true, false_and, and_false]
        by_cases a1 : nI lp - m < i
        · have a2 : ¬ (¬ nI lp < i ∧ ¬ nI lp - i < m) := fun q => (str_iff hlp hi hm).mp q a1
          have a3 : ¬ (¬ i < 0 ∧ ¬ m < 0 ∧ ¬ nI lp < i ∧ ¬ nI lp - i < m) := fun q => a2 q.2.2
          have bj : j < 0 ∨ ¬ j < 0 := Classical.em _
          refine ⟨-13, cl, P, sp, st, sk, sd, sm, th, mc, pk, kd, td, fm, pr, sz, ro, tu, pe, tr, as, ?_, ?_, hR⟩
          · simp only [f_X6_copy, f_X6_copy_0, ck_0, Option.bind_some, ne10, if_true, if_false, eq_self, gx_shelf, gm_kd, gm_sz, gm_rw, f_isPlace_yes F _ hp_, f_mPlace_yes F hp_, ax_shelf hp_, gp_ho hp_, am_kd hp_, ck_P hp_, f_isRow_eq F hp_, am_sz hp_, gp_nu hp_, f_isPlace_yes F _ ho_, f_mPlace_yes F ho_, ax_shelf ho_, gp_ho ho_, am_kd ho_, ck_P ho_, am_sz ho_, gp_nu ho_, hkp, hko, h1, h3, h4, f_hasStr F hp_ hlp p1, a3]
          · rcases bj with hj | hj
            · simp only [f_X7_copy, f_X7_copy_0, ck_0, Option.bind_some, ne10, if_true, if_false, eq_self, gx_shelf, gm_kd, gm_sz, gm_rw, f_isPlace_yes F _ hp_, f_mPlace_yes F hp_, ax_shelf hp_, gp_ho hp_, am_kd hp_, ck_P hp_, f_isRow_eq F hp_, am_sz hp_, gp_nu hp_, f_isPlace_yes F _ ho_, f_mPlace_yes F ho_, ax_shelf ho_, gp_ho ho_, am_kd ho_, ck_P ho_, am_sz ho_, gp_nu ho_, h1, h3, h4, hm, hi, hj, p2, a1]
            · simp only [f_X7_copy, f_X7_copy_0, ck_0, Option.bind_some, ne10, if_true, if_false, eq_self, gx_shelf, gm_kd, gm_sz, gm_rw, f_isPlace_yes F _ hp_, f_mPlace_yes F hp_, ax_shelf hp_, gp_ho hp_, am_kd hp_, ck_P hp_, f_isRow_eq F hp_, am_sz hp_, gp_nu hp_, f_isPlace_yes F _ ho_, f_mPlace_yes F ho_, ax_shelf ho_, gp_ho ho_, am_kd ho_, ck_P ho_, am_sz ho_, gp_nu ho_, h1, h3, h4, hm, hi, hj, p2, a1]
        have a2 := (str_iff hlp hi hm).mpr a1
        have a3 : (¬ i < 0 ∧ ¬ m < 0 ∧ ¬ nI lp < i ∧ ¬ nI lp - i < m) = True := eq_true ⟨hi, hm, a2⟩
        by_cases hj : j < 0
        · have b3 : ¬ (¬ j < 0 ∧ ¬ m < 0 ∧ ¬ nI lo < j ∧ ¬ nI lo - j < m) := fun q => q.1 hj
          refine ⟨-13, cl, P, sp, st, sk, sd, sm, th, mc, pk, kd, td, fm, pr, sz, ro, tu, pe, tr, as, ?_, ?_, hR⟩
          · simp only [f_X6_copy, f_X6_copy_0, ck_0, Option.bind_some, ne10, if_true, if_false, eq_self, gx_shelf, gm_kd, gm_sz, gm_rw, f_isPlace_yes F _ hp_, f_mPlace_yes F hp_, ax_shelf hp_, gp_ho hp_, am_kd hp_, ck_P hp_, f_isRow_eq F hp_, am_sz hp_, gp_nu hp_, f_isPlace_yes F _ ho_, f_mPlace_yes F ho_, ax_shelf ho_, gp_ho ho_, am_kd ho_, ck_P ho_, am_sz ho_, gp_nu ho_, hkp, hko, h1, h3, h4, f_hasStr F hp_ hlp p1, f_hasStr F ho_ hlo o1, a3, b3]
          · simp only [f_X7_copy, f_X7_copy_0, ck_0, Option.bind_some, ne10, if_true, if_false, eq_self, gx_shelf, gm_kd, gm_sz, gm_rw, f_isPlace_yes F _ hp_, f_mPlace_yes F hp_, ax_shelf hp_, gp_ho hp_, am_kd hp_, ck_P hp_, f_isRow_eq F hp_, am_sz hp_, gp_nu hp_, f_isPlace_yes F _ ho_, f_mPlace_yes F ho_, ax_shelf ho_, gp_ho ho_, am_kd ho_, ck_P ho_, am_sz ho_, gp_nu ho_, h1, h3, h4, hm, hi, hj]
        by_cases b1 : nI lo - m < j
        · have b3 : ¬ (¬ j < 0 ∧ ¬ m < 0 ∧ ¬ nI lo < j ∧ ¬ nI lo - j < m) := fun q => (str_iff hlo hj hm).mp q.2.2 b1
          refine ⟨-13, cl, P, sp, st, sk, sd, sm, th, mc, pk, kd, td, fm, pr, sz, ro, tu, pe, tr, as, ?_, ?_, hR⟩
          · simp only [f_X6_copy, f_X6_copy_0, ck_0, Option.bind_some, ne10, if_true, if_false, eq_self, gx_shelf, gm_kd, gm_sz, gm_rw, f_isPlace_yes F _ hp_, f_mPlace_yes F hp_, ax_shelf hp_, gp_ho hp_, am_kd hp_, ck_P hp_, f_isRow_eq F hp_, am_sz hp_, gp_nu hp_, f_isPlace_yes F _ ho_, f_mPlace_yes F ho_, ax_shelf ho_, gp_ho ho_, am_kd ho_, ck_P ho_, am_sz ho_, gp_nu ho_, hkp, hko, h1, h3, h4, f_hasStr F hp_ hlp p1, f_hasStr F ho_ hlo o1, a3, b3]
          · simp only [f_X7_copy, f_X7_copy_0, ck_0, Option.bind_some, ne10, if_true, if_false, eq_self, gx_shelf, gm_kd, gm_sz, gm_rw, f_isPlace_yes F _ hp_, f_mPlace_yes F hp_, ax_shelf hp_, gp_ho hp_, am_kd hp_, ck_P hp_, f_isRow_eq F hp_, am_sz hp_, gp_nu hp_, f_isPlace_yes F _ ho_, f_mPlace_yes F ho_, ax_shelf ho_, gp_ho ho_, am_kd ho_, ck_P ho_, am_sz ho_, gp_nu ho_, h1, h3, h4, hm, hi, hj, p2, o2, a1, b1]
        have b2 := (str_iff hlo hj hm).mpr b1
        have b3 : (¬ j < 0 ∧ ¬ m < 0 ∧ ¬ nI lo < j ∧ ¬ nI lo - j < m) = True := eq_true ⟨hj, hm, b2⟩
        obtain ⟨a, m0, rfl, rfl, ham⟩ := str_get hlp hi hm a2.1 a2.2
        obtain ⟨b, m1, rfl, em, hbm⟩ := str_get hlo hj hm b2.1 b2.2
        have em' : m0 = m1 := (nI_eq (by omega) (by omega)).mp em
        subst em'
        refine ⟨nI m0, cl, updP P o ((P o).1, (P o).2.1, (P o).2.2.1, (P o).2.2.2.1, (P o).2.2.2.2.1, va_cpy (P p).2.2.2.2.2 (P o).2.2.2.2.2 a b m0), sp, st, sk, sd, sm, th, mc, pk, kd, td, fm, pr, sz, cpS ro (asS ro as (64 * p + a) m0) (64 * o + b) m0, tu, pe, tr, asS ro as (64 * p + a) m0, ?_, ?_, ?_⟩
        · simp only [f_X6_copy, f_X6_copy_0, ck_0, Option.bind_some, ne10, if_true, if_false, eq_self, gx_shelf, gm_kd, gm_sz, gm_rw, f_isPlace_yes F _ hp_, f_mPlace_yes F hp_, ax_shelf hp_, gp_ho hp_, am_kd hp_, ck_P hp_, f_isRow_eq F hp_, am_sz hp_, gp_nu hp_, f_isPlace_yes F _ ho_, f_mPlace_yes F ho_, ax_shelf ho_, gp_ho ho_, am_kd ho_, ck_P ho_, am_sz ho_, gp_nu ho_, hkp, hko, h1, h3, h4, f_hasStr F hp_ hlp p1, f_hasStr F ho_ hlo o1, a3, b3, f_copy_cls hp_ ho_ (show a + m0 ≤ 64 by omega) (show b + m0 ≤ 64 by omega)]
        · simp only [f_X7_copy, f_X7_copy_0, ck_0, Option.bind_some, ne10, if_true, if_false, eq_self, gx_shelf, gm_kd, gm_sz, gm_rw, f_isPlace_yes F _ hp_, f_mPlace_yes F hp_, ax_shelf hp_, gp_ho hp_, am_kd hp_, ck_P hp_, f_isRow_eq F hp_, am_sz hp_, gp_nu hp_, f_isPlace_yes F _ ho_, f_mPlace_yes F ho_, ax_shelf ho_, gp_ho ho_, am_kd ho_, ck_P ho_, am_sz ho_, gp_nu ho_, h1, h3, h4, hm, hi, hj, p2, o2, a1, b1, f_mcopy hF hp_ ho_ (show a + m0 ≤ 64 by omega) (show b + m0 ≤ 64 by omega)]
        · have r := rel_row (p := o) (s := kd o) (m := sz o) (q := ((P o).1, (P o).2.1, (P o).2.2.1, (P o).2.2.2.1, (P o).2.2.2.2.1, va_cpy (P p).2.2.2.2.2 (P o).2.2.2.2.2 a b m0)) (ro' := cpS ro (asS ro as (64 * p + a) m0) (64 * o + b) m0) hR hko ⟨jo, hjo, hko', lo, hlo, o1, o2, fun i' hi' => by
            show va_cpy (P p).2.2.2.2.2 (P o).2.2.2.2.2 a b m0 i' = cpS ro (asS ro as (64 * p + a) m0) (64 * o + b) m0 (64 * o + i')
            by_cases q : b ≤ i' ∧ i' < b + m0
            · rw [pk_cpy_in q.1 q.2, show 64 * o + i' = 64 * o + b + (i' - b) by omega, cpS_in ro _ _ (by omega), asS_is ro as _ (by omega), p3 _ (by omega)]
              show ro _ = ro _
              congr 1; omega
            · rw [pk_cpy_out (by omega), cpS_out ro _ (by omega)]; exact o3 i' hi'⟩ (fun x hx => cpS_out ro _ (by omega))
          rw [upd_self, upd_self] at r
          exact r
      · refine ⟨-12, cl, P, sp, st, sk, sd, sm, th, mc, pk, kd, td, fm, pr, sz, ro, tu, pe, tr, as, ?_, ?_, hR⟩
        · simp only [f_X6_copy, f_X6_copy_0, ck_0, Option.bind_some, ne10, if_true, if_false, eq_self, gx_shelf, gm_kd, gm_sz, gm_rw, f_isPlace_yes F _ hp_, f_mPlace_yes F hp_, ax_shelf hp_, gp_ho hp_, am_kd hp_, ck_P hp_, f_isRow_eq F hp_, am_sz hp_, gp_nu hp_, f_isPlace_yes F _ ho_, f_mPlace_yes F ho_, ax_shelf ho_, gp_ho ho_, am_kd ho_, ck_P ho_, am_sz ho_, gp_nu ho_, hkp, hko, h1, h2, h3, h4]
        · simp only [f_X7_copy, f_X7_copy_0, ck_0, Option.bind_some, ne10, if_true, if_false, eq_self, gx_shelf, gm_kd, gm_sz, gm_rw, f_isPlace_yes F _ hp_, f_mPlace_yes F hp_, ax_shelf hp_, gp_ho hp_, am_kd hp_, ck_P hp_, f_isRow_eq F hp_, am_sz hp_, gp_nu hp_, f_isPlace_yes F _ ho_, f_mPlace_yes F ho_, ax_shelf ho_, gp_ho ho_, am_kd ho_, ck_P ho_, am_sz ho_, gp_nu ho_, hkp, hko, h1, h2, h3, h4]
    · refine ⟨-1, cl, P, sp, st, sk, sd, sm, th, mc, pk, kd, td, fm, pr, sz, ro, tu, pe, tr, as, ?_, ?_, hR⟩
      · simp only [f_X6_copy, f_X6_copy_0, ck_0, Option.bind_some, ne10, if_true, if_false, eq_self, gx_shelf, gm_kd, gm_sz, gm_rw, f_isPlace_yes F _ hp_, f_mPlace_yes F hp_, ax_shelf hp_, gp_ho hp_, am_kd hp_, ck_P hp_, f_isRow_eq F hp_, am_sz hp_, gp_nu hp_, f_isPlace_no F _ hno, f_mPlace_no F hno]
      · simp only [f_X7_copy, f_X7_copy_0, ck_0, Option.bind_some, ne10, if_true, if_false, eq_self, gx_shelf, gm_kd, gm_sz, gm_rw, f_isPlace_yes F _ hp_, f_mPlace_yes F hp_, ax_shelf hp_, gp_ho hp_, am_kd hp_, ck_P hp_, f_isRow_eq F hp_, am_sz hp_, gp_nu hp_, f_isPlace_no F _ hno, f_mPlace_no F hno]
  · refine ⟨-1, cl, P, sp, st, sk, sd, sm, th, mc, pk, kd, td, fm, pr, sz, ro, tu, pe, tr, as, ?_, ?_, hR⟩
    · simp only [f_X6_copy, f_X6_copy_0, ck_0, Option.bind_some, ne10, if_true, if_false, eq_self, gx_shelf, gm_kd, gm_sz, gm_rw, f_isPlace_no F _ hnp, f_mPlace_no F hnp]
    · simp only [f_X7_copy, f_X7_copy_0, ck_0, Option.bind_some, ne10, if_true, if_false, eq_self, gx_shelf, gm_kd, gm_sz, gm_rw, f_isPlace_no F _ hnp, f_mPlace_no F hnp]
