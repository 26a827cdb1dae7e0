theorem st_is {F : Nat × Nat} (hF : 100000 ≤ F.1) {sc : Nat × (Nat → Int32)} {c : Nat} (x y z : Int32) : stepI sc c (f_X6_is F 0 x y z) (f_X7_is F 40 x y z) := by
  refine stepI.mk fun n cl P ly sp st sk sd sm th mc pk kd td fm pr sz ro tu pe tr as w g hR => ?_
  have hn6 := hR.1.2
  have ha := all_le hn6
  obtain ⟨b, hb, hb1, e1, e2⟩ := f_isKind_eq (sc := sc) (n := n) (cl := cl) (P := P) (ly := ly) (sp := sp) (st := st) (sk := sk) (sd := sd) (sm := sm) (M := cm n th mc pk kd td fm pr sz ro tu pe tr as) (w := w) (g := g) (th := th) (mc := mc) (pk := pk) (kd := kd) (td := td) (fm := fm) (pr := pr) (sz := sz) (ro := ro) (tu := tu) (pe := pe) (tr := tr) (as := as) F y z
  rcases place_or x with ⟨p, hp_, rfl⟩ | hnp
  · have hkp := (hR.2.2.1 p hp_).1
    rcases hb.symm with rfl | rfl
    · by_cases h0 : refu (kd p) = 0
      · obtain ⟨jp, hjp, hkjp, hsep, hfip, tp, htp, http, hppp, hkvp⟩ := fam_of (hR.2.2.1 p hp_) h0
        obtain ⟨i1, i2, i3⟩ := hb1 rfl
        have hj : ∃ j, j < 5 ∧ y = nI j := by
          rcases k_range i1 i2 with q | q | q | q | q
          · exact ⟨0, by decide, q⟩
          · exact ⟨1, by decide, q⟩
          · exact ⟨2, by decide, q⟩
          · exact ⟨3, by decide, q⟩
          · exact ⟨4, by decide, q⟩
        obtain ⟨j, hj5, rfl⟩ := hj
        have ht : ∃ t, t ≤ n ∧ ((j = 2 ∨ j = 4) → z = nI t) := by
          by_cases h24 : j = 2 ∨ j = 4
          · obtain ⟨q1, q2⟩ := i3 (by rcases h24 with rfl | rfl; exact Or.inl rfl; exact Or.inr rfl)
            obtain ⟨t', ht', rfl⟩ := num_in hR.1.2 q1 q2
            exact ⟨t', ht', fun _ => rfl⟩
          · exact ⟨0, by omega, fun q => absurd q h24⟩
        obtain ⟨t, ht, hT⟩ := ht
        cases hc : isO n j t (fm p) with
        | none =>
          have e3 : (encP (decide (j = 3)) none = -2) = True := eq_true rfl
          refine ⟨1, cl, P, sp, st, sk, sd, sm, th, mc, pk, kd, td, fm, pr, sz, ro, tu, pe, tr, as, ?_, ?_, hR⟩
          · simp only [f_X6_is, f_X6_is_0, Option.bind_some, ck_0, ck_40, ck_35, gx_n, gx_all, gx_shelf, gx_lay, gx_seek, gx_cl, gm_n, gm_all, gm_kd, gm_td, gm_fm, gm_pr, gm_sz, gm_rw, gm_tu, gm_pe, gm_tr, gm_as, gm_mc, gm_pk, gm_th, f_famRef_no, ne10, nm10, if_true, if_false, eq_self, ne10, f_isPlace_yes F _ hp_, f_mPlace_yes F hp_, ax_shelf hp_, f_famRef_eq F hp_, f_lacks_eq F hp_, gp_se hp_, gp_ho hp_, gp_le hp_, gp_pa hp_, am_kd hp_, am_td hp_, am_fm hp_, am_pr hp_, hkp, e1, e2, h0, hsep, f_famClash_eq hF hn6 hfip hj5 ht hT, hc, e3]
          · simp only [f_X7_is, f_X7_is_0, Option.bind_some, ck_0, ck_40, ck_35, gx_n, gx_all, gx_shelf, gx_lay, gx_seek, gx_cl, gm_n, gm_all, gm_kd, gm_td, gm_fm, gm_pr, gm_sz, gm_rw, gm_tu, gm_pe, gm_tr, gm_as, gm_mc, gm_pk, gm_th, f_famRef_no, ne10, nm10, if_true, if_false, eq_self, ne10, f_isPlace_yes F _ hp_, f_mPlace_yes F hp_, ax_shelf hp_, f_famRef_eq F hp_, f_lacks_eq F hp_, gp_se hp_, gp_ho hp_, gp_le hp_, gp_pa hp_, am_kd hp_, am_td hp_, am_fm hp_, am_pr hp_, hkp, e1, e2, h0, hsep, f_mis_loop hF hn6 _ hj5 ht hT, hc]
        | some q =>
          have hq := isO_lt hc
          have e3 : ¬ encP (decide (j = 3)) (some q) = -2 := encP_ne (by omega) (by omega)
          refine ⟨0, encP (decide (j = 3)) (some q), P, sp, st, sk, sd, sm, th, encP (decide (j = 3)) (some q), pk, kd, td, fm, pr, sz, ro, tu, pe, tr, as, ?_, ?_, hR.1, rfl, hR.2.2⟩
          · simp only [f_X6_is, f_X6_is_0, Option.bind_some, ck_0, ck_40, ck_35, gx_n, gx_all, gx_shelf, gx_lay, gx_seek, gx_cl, gm_n, gm_all, gm_kd, gm_td, gm_fm, gm_pr, gm_sz, gm_rw, gm_tu, gm_pe, gm_tr, gm_as, gm_mc, gm_pk, gm_th, f_famRef_no, ne10, nm10, if_true, if_false, eq_self, ne10, f_isPlace_yes F _ hp_, f_mPlace_yes F hp_, ax_shelf hp_, f_famRef_eq F hp_, f_lacks_eq F hp_, gp_se hp_, gp_ho hp_, gp_le hp_, gp_pa hp_, am_kd hp_, am_td hp_, am_fm hp_, am_pr hp_, hkp, e1, e2, h0, hsep, f_famClash_eq hF hn6 hfip hj5 ht hT, hc, e3, px_cl]
          · simp only [f_X7_is, f_X7_is_0, Option.bind_some, ck_0, ck_40, ck_35, gx_n, gx_all, gx_shelf, gx_lay, gx_seek, gx_cl, gm_n, gm_all, gm_kd, gm_td, gm_fm, gm_pr, gm_sz, gm_rw, gm_tu, gm_pe, gm_tr, gm_as, gm_mc, gm_pk, gm_th, f_famRef_no, ne10, nm10, if_true, if_false, eq_self, ne10, f_isPlace_yes F _ hp_, f_mPlace_yes F hp_, ax_shelf hp_, f_famRef_eq F hp_, f_lacks_eq F hp_, gp_se hp_, gp_ho hp_, gp_le hp_, gp_pa hp_, am_kd hp_, am_td hp_, am_fm hp_, am_pr hp_, hkp, e1, e2, h0, hsep, f_mis_loop hF hn6 _ hj5 ht hT, hc]
      · refine ⟨refu (kd p), cl, P, sp, st, sk, sd, sm, th, mc, pk, kd, td, fm, pr, sz, ro, tu, pe, tr, as, ?_, ?_, hR⟩
        · simp only [f_X6_is, f_X6_is_0, Option.bind_some, ck_0, ck_40, ck_35, gx_n, gx_all, gx_shelf, gx_lay, gx_seek, gx_cl, gm_n, gm_all, gm_kd, gm_td, gm_fm, gm_pr, gm_sz, gm_rw, gm_tu, gm_pe, gm_tr, gm_as, gm_mc, gm_pk, gm_th, f_famRef_no, ne10, nm10, if_true, if_false, eq_self, ne10, f_isPlace_yes F _ hp_, f_mPlace_yes F hp_, ax_shelf hp_, f_famRef_eq F hp_, f_lacks_eq F hp_, gp_se hp_, gp_ho hp_, gp_le hp_, gp_pa hp_, am_kd hp_, am_td hp_, am_fm hp_, am_pr hp_, hkp, e1, e2, h0]
        · simp only [f_X7_is, f_X7_is_0, Option.bind_some, ck_0, ck_40, ck_35, gx_n, gx_all, gx_shelf, gx_lay, gx_seek, gx_cl, gm_n, gm_all, gm_kd, gm_td, gm_fm, gm_pr, gm_sz, gm_rw, gm_tu, gm_pe, gm_tr, gm_as, gm_mc, gm_pk, gm_th, f_famRef_no, ne10, nm10, if_true, if_false, eq_self, ne10, f_isPlace_yes F _ hp_, f_mPlace_yes F hp_, ax_shelf hp_, f_famRef_eq F hp_, f_lacks_eq F hp_, gp_se hp_, gp_ho hp_, gp_le hp_, gp_pa hp_, am_kd hp_, am_td hp_, am_fm hp_, am_pr hp_, hkp, e1, e2, h0]
    · refine ⟨-1, cl, P, sp, st, sk, sd, sm, th, mc, pk, kd, td, fm, pr, sz, ro, tu, pe, tr, as, ?_, ?_, hR⟩
      · simp only [f_X6_is, f_X6_is_0, Option.bind_some, ck_0, ck_40, ck_35, gx_n, gx_all, gx_shelf, gx_lay, gx_seek, gx_cl, gm_n, gm_all, gm_kd, gm_td, gm_fm, gm_pr, gm_sz, gm_rw, gm_tu, gm_pe, gm_tr, gm_as, gm_mc, gm_pk, gm_th, f_famRef_no, ne10, nm10, if_true, if_false, eq_self, ne10, f_isPlace_yes F _ hp_, f_mPlace_yes F hp_, ax_shelf hp_, f_famRef_eq F hp_, f_lacks_eq F hp_, gp_se hp_, gp_ho hp_, gp_le hp_, gp_pa hp_, am_kd hp_, am_td hp_, am_fm hp_, am_pr hp_, hkp, e1, e2]
      · simp only [f_X7_is, f_X7_is_0, Option.bind_some, ck_0, ck_40, ck_35, gx_n, gx_all, gx_shelf, gx_lay, gx_seek, gx_cl, gm_n, gm_all, gm_kd, gm_td, gm_fm, gm_pr, gm_sz, gm_rw, gm_tu, gm_pe, gm_tr, gm_as, gm_mc, gm_pk, gm_th, f_famRef_no, ne10, nm10, if_true, if_false, eq_self, ne10, f_isPlace_yes F _ hp_, f_mPlace_yes F hp_, ax_shelf hp_, f_famRef_eq F hp_, f_lacks_eq F hp_, gp_se hp_, gp_ho hp_, gp_le hp_, gp_pa hp_, am_kd hp_, am_td hp_, am_fm hp_, am_pr hp_, hkp, e1, e2]
  · rcases hb.symm with rfl | rfl
    · refine ⟨-1, cl, P, sp, st, sk, sd, sm, th, mc, pk, kd, td, fm, pr, sz, ro, tu, pe, tr, as, ?_, ?_, hR⟩
      · simp only [f_X6_is, f_X6_is_0, Option.bind_some, ck_0, ck_40, ck_35, gx_n, gx_all, gx_shelf, gx_lay, gx_seek, gx_cl, gm_n, gm_all, gm_kd, gm_td, gm_fm, gm_pr, gm_sz, gm_rw, gm_tu, gm_pe, gm_tr, gm_as, gm_mc, gm_pk, gm_th, f_famRef_no, ne10, nm10, if_true, if_false, eq_self, ne10, f_isPlace_no F _ hnp, f_mPlace_no F hnp, f_famRef_out F hnp, f_rowRef_out F hnp, e1, e2]
      · simp only [f_X7_is, f_X7_is_0, Option.bind_some, ck_0, ck_40, ck_35, gx_n, gx_all, gx_shelf, gx_lay, gx_seek, gx_cl, gm_n, gm_all, gm_kd, gm_td, gm_fm, gm_pr, gm_sz, gm_rw, gm_tu, gm_pe, gm_tr, gm_as, gm_mc, gm_pk, gm_th, f_famRef_no, ne10, nm10, if_true, if_false, eq_self, ne10, f_isPlace_no F _ hnp, f_mPlace_no F hnp, f_famRef_out F hnp, f_rowRef_out F hnp, e1, e2]
    · refine ⟨-1, cl, P, sp, st, sk, sd, sm, th, mc, pk, kd, td, fm, pr, sz, ro, tu, pe, tr, as, ?_, ?_, hR⟩
      · simp only [f_X6_is, f_X6_is_0, Option.bind_some, ck_0, ck_40, ck_35, gx_n, gx_all, gx_shelf, gx_lay, gx_seek, gx_cl, gm_n, gm_all, gm_kd, gm_td, gm_fm, gm_pr, gm_sz, gm_rw, gm_tu, gm_pe, gm_tr, gm_as, gm_mc, gm_pk, gm_th, f_famRef_no, ne10, nm10, if_true, if_false, eq_self, ne10, f_isPlace_no F _ hnp, f_mPlace_no F hnp, f_famRef_out F hnp, f_rowRef_out F hnp, e1, e2]
      · simp only [f_X7_is, f_X7_is_0, Option.bind_some, ck_0, ck_40, ck_35, gx_n, gx_all, gx_shelf, gx_lay, gx_seek, gx_cl, gm_n, gm_all, gm_kd, gm_td, gm_fm, gm_pr, gm_sz, gm_rw, gm_tu, gm_pe, gm_tr, gm_as, gm_mc, gm_pk, gm_th, f_famRef_no, ne10, nm10, if_true, if_false, eq_self, ne10, f_isPlace_no F _ hnp, f_mPlace_no F hnp, f_famRef_out F hnp, f_rowRef_out F hnp, e1, e2]
