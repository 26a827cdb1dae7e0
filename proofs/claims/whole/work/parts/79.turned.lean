theorem st_turned {F : Nat × Nat} (hF : 100000 ≤ F.1) {sc : Nat × (Nat → Int32)} {c : Nat} (x y z : Int32) : stepI sc c (f_X6_turned F 0 x y z) (f_X7_turned F 40 x y z) := by
  refine stepI.mk fun n cl P ly sp st sk sd sm th mc pk kd td fm pr sz ro tu pe tr as w g hR => ?_
  have hn6 := hR.1.2
  have ha := all_le hn6
  have hn3 := hR.1.1
  obtain ⟨b, tu2, hb, hb1, o1, o2⟩ := turn_ex (sc := sc) (n := n) (w := w) (g := g) (th := th) (mc := mc) (pk := pk) (kd := kd) (td := td) (fm := fm) (pr := pr) (sz := sz) (ro := ro) (tu := tu) (pe := pe) (tr := tr) (as := as) hF hR.1.1 hn6 y
  rcases place_or x with ⟨p, hp_, rfl⟩ | hnp
  · have hkp := (hR.2.2.1 p hp_).1
    rcases hb with rfl | rfl
    · refine ⟨-1, cl, P, sp, st, sk, sd, sm, th, mc, pk, kd, td, fm, pr, sz, ro, tu2, pe, tr, as, ?_, ?_, hR⟩
      · simp only [f_X6_turned, f_X6_turned_0, f_X6_turned_26, f_X6_turned_65, Option.bind_some, ck_0, ck_40, ck_35, gx_n, gx_all, gx_shelf, gx_lay, gx_seek, gx_cl, gm_n, gm_all, gm_kd, gm_td, gm_fm, gm_pr, gm_sz, gm_rw, gm_tu, gm_pe, gm_tr, gm_as, gm_mc, gm_pk, gm_th, f_famRef_no, ne10, nm10, if_true, if_false, eq_self, o1, f_isPlace_yes F _ hp_, f_mPlace_yes F hp_, ax_shelf hp_]
      · simp only [f_X7_turned, f_X7_turned_0, f_X7_turned_60, Option.bind_some, ck_0, ck_40, ck_35, gx_n, gx_all, gx_shelf, gx_lay, gx_seek, gx_cl, gm_n, gm_all, gm_kd, gm_td, gm_fm, gm_pr, gm_sz, gm_rw, gm_tu, gm_pe, gm_tr, gm_as, gm_mc, gm_pk, gm_th, f_famRef_no, ne10, nm10, if_true, if_false, eq_self, o2, f_isPlace_yes F _ hp_, f_mPlace_yes F hp_, ax_shelf hp_]
    · obtain ⟨m, hm, rfl, hpm, htu⟩ := hb1 rfl
      rcases place_or z with ⟨q, hq_, rfl⟩ | hnq
      · by_cases h0 : refu (kd p) = 0
        · obtain ⟨jp, hjp, hkjp, hsep, hfip, tp, htp, http, hppp, hkvp⟩ := fam_of (hR.2.2.1 p hp_) h0
          by_cases h5 : jp = 5
          · have e5 : (nI jp = 5) = True := eq_true (by rw [h5]; rfl)
            have h0' : refu (nI jp) = 0 := by rw [← hkjp]; exact h0
            have kt := kinv_turn hn6 hpm hfip hkvp
            rw [if_pos h5] at kt
            refine ⟨nI (fb_ct (qb (tuF n (dg m) (fm p))) 64), cl, updP P q (2, (P p).2.1, tuF n (dg m) (fm p), 0, (P q).2.2.2.2), sp, st, sk, sd, sm, th, mc, pk, upd kd q 2, upd td q (td p), vp_updL fm q (tuF n (dg m) (fm p)), vp_updL pr q 0, sz, ro, tu2, pe, tr, as, ?_, ?_, rel_keep hR 2 (by omega) rfl (fits_tuF hn6 hpm _) tp htp (fun h => http (by omega)) kt⟩
            · simp only [f_X6_turned, f_X6_turned_0, f_X6_turned_26, f_X6_turned_65, Option.bind_some, ck_0, ck_40, ck_35, gx_n, gx_all, gx_shelf, gx_lay, gx_seek, gx_cl, gm_n, gm_all, gm_kd, gm_td, gm_fm, gm_pr, gm_sz, gm_rw, gm_tu, gm_pe, gm_tr, gm_as, gm_mc, gm_pk, gm_th, f_famRef_no, ne10, nm10, if_true, if_false, eq_self, o1, f_isPlace_yes F _ hp_, f_mPlace_yes F hp_, ax_shelf hp_, f_isPlace_yes F _ hq_, f_mPlace_yes F hq_, ax_shelf hq_, f_famRef_eq F hp_, f_lacks_eq F hp_, gp_se hp_, gp_ho hp_, gp_le hp_, gp_pa hp_, am_kd hp_, am_td hp_, am_fm hp_, am_pr hp_, hkp, h0, h0', hsep, hkjp, e5, f_turnedBy_eq hF hn6 hm hpm hfip, f_keep_eq F hq_]
            · simp only [f_X7_turned, f_X7_turned_0, f_X7_turned_60, Option.bind_some, ck_0, ck_40, ck_35, gx_n, gx_all, gx_shelf, gx_lay, gx_seek, gx_cl, gm_n, gm_all, gm_kd, gm_td, gm_fm, gm_pr, gm_sz, gm_rw, gm_tu, gm_pe, gm_tr, gm_as, gm_mc, gm_pk, gm_th, f_famRef_no, ne10, nm10, if_true, if_false, eq_self, o2, f_isPlace_yes F _ hp_, f_mPlace_yes F hp_, ax_shelf hp_, f_isPlace_yes F _ hq_, f_mPlace_yes F hq_, ax_shelf hq_, f_famRef_eq F hp_, f_lacks_eq F hp_, gp_se hp_, gp_ho hp_, gp_le hp_, gp_pa hp_, am_kd hp_, am_td hp_, am_fm hp_, am_pr hp_, hkp, h0, h0', hsep, hkjp, e5, f_tall_eq hF hn6 hpm.1 htu, f_holdsNow_eq (by omega : 100 ≤ F.1) hq_]
          · have e5 : ¬ nI jp = 5 := nI_is (k := 5) (by omega) (by omega) h5
            have h0' : refu (nI jp) = 0 := by rw [← hkjp]; exact h0
            have kt := kinv_turn hn6 hpm hfip hkvp
            rw [if_neg h5] at kt
            refine ⟨nI (fb_ct (qb (tuF n (dg m) (fm p))) 64), cl, updP P q ((nI jp), (P p).2.1, tuF n (dg m) (fm p), 0, (P q).2.2.2.2), sp, st, sk, sd, sm, th, mc, pk, upd kd q (nI jp), upd td q (td p), vp_updL fm q (tuF n (dg m) (fm p)), vp_updL pr q 0, sz, ro, tu2, pe, tr, as, ?_, ?_, rel_keep hR jp (by omega) rfl (fits_tuF hn6 hpm _) tp htp (fun h => http (by omega)) kt⟩
            · simp only [f_X6_turned, f_X6_turned_0, f_X6_turned_26, f_X6_turned_65, Option.bind_some, ck_0, ck_40, ck_35, gx_n, gx_all, gx_shelf, gx_lay, gx_seek, gx_cl, gm_n, gm_all, gm_kd, gm_td, gm_fm, gm_pr, gm_sz, gm_rw, gm_tu, gm_pe, gm_tr, gm_as, gm_mc, gm_pk, gm_th, f_famRef_no, ne10, nm10, if_true, if_false, eq_self, o1, f_isPlace_yes F _ hp_, f_mPlace_yes F hp_, ax_shelf hp_, f_isPlace_yes F _ hq_, f_mPlace_yes F hq_, ax_shelf hq_, f_famRef_eq F hp_, f_lacks_eq F hp_, gp_se hp_, gp_ho hp_, gp_le hp_, gp_pa hp_, am_kd hp_, am_td hp_, am_fm hp_, am_pr hp_, hkp, h0, h0', hsep, hkjp, e5, f_turnedBy_eq hF hn6 hm hpm hfip, f_keep_eq F hq_]
            · simp only [f_X7_turned, f_X7_turned_0, f_X7_turned_60, Option.bind_some, ck_0, ck_40, ck_35, gx_n, gx_all, gx_shelf, gx_lay, gx_seek, gx_cl, gm_n, gm_all, gm_kd, gm_td, gm_fm, gm_pr, gm_sz, gm_rw, gm_tu, gm_pe, gm_tr, gm_as, gm_mc, gm_pk, gm_th, f_famRef_no, ne10, nm10, if_true, if_false, eq_self, o2, f_isPlace_yes F _ hp_, f_mPlace_yes F hp_, ax_shelf hp_, f_isPlace_yes F _ hq_, f_mPlace_yes F hq_, ax_shelf hq_, f_famRef_eq F hp_, f_lacks_eq F hp_, gp_se hp_, gp_ho hp_, gp_le hp_, gp_pa hp_, am_kd hp_, am_td hp_, am_fm hp_, am_pr hp_, hkp, h0, h0', hsep, hkjp, e5, f_tall_eq hF hn6 hpm.1 htu, f_holdsNow_eq (by omega : 100 ≤ F.1) hq_]
        · refine ⟨refu (kd p), cl, P, sp, st, sk, sd, sm, th, mc, pk, kd, td, fm, pr, sz, ro, tu2, pe, tr, as, ?_, ?_, hR⟩
          · simp only [f_X6_turned, f_X6_turned_0, f_X6_turned_26, f_X6_turned_65, Option.bind_some, ck_0, ck_40, ck_35, gx_n, gx_all, gx_shelf, gx_lay, gx_seek, gx_cl, gm_n, gm_all, gm_kd, gm_td, gm_fm, gm_pr, gm_sz, gm_rw, gm_tu, gm_pe, gm_tr, gm_as, gm_mc, gm_pk, gm_th, f_famRef_no, ne10, nm10, if_true, if_false, eq_self, o1, f_isPlace_yes F _ hp_, f_mPlace_yes F hp_, ax_shelf hp_, f_isPlace_yes F _ hq_, f_mPlace_yes F hq_, ax_shelf hq_, f_famRef_eq F hp_, f_lacks_eq F hp_, gp_se hp_, gp_ho hp_, gp_le hp_, gp_pa hp_, am_kd hp_, am_td hp_, am_fm hp_, am_pr hp_, hkp, h0]
          · simp only [f_X7_turned, f_X7_turned_0, f_X7_turned_60, Option.bind_some, ck_0, ck_40, ck_35, gx_n, gx_all, gx_shelf, gx_lay, gx_seek, gx_cl, gm_n, gm_all, gm_kd, gm_td, gm_fm, gm_pr, gm_sz, gm_rw, gm_tu, gm_pe, gm_tr, gm_as, gm_mc, gm_pk, gm_th, f_famRef_no, ne10, nm10, if_true, if_false, eq_self, o2, f_isPlace_yes F _ hp_, f_mPlace_yes F hp_, ax_shelf hp_, f_isPlace_yes F _ hq_, f_mPlace_yes F hq_, ax_shelf hq_, f_famRef_eq F hp_, f_lacks_eq F hp_, gp_se hp_, gp_ho hp_, gp_le hp_, gp_pa hp_, am_kd hp_, am_td hp_, am_fm hp_, am_pr hp_, hkp, h0]
      · refine ⟨-1, cl, P, sp, st, sk, sd, sm, th, mc, pk, kd, td, fm, pr, sz, ro, tu2, pe, tr, as, ?_, ?_, hR⟩
        · simp only [f_X6_turned, f_X6_turned_0, f_X6_turned_26, f_X6_turned_65, Option.bind_some, ck_0, ck_40, ck_35, gx_n, gx_all, gx_shelf, gx_lay, gx_seek, gx_cl, gm_n, gm_all, gm_kd, gm_td, gm_fm, gm_pr, gm_sz, gm_rw, gm_tu, gm_pe, gm_tr, gm_as, gm_mc, gm_pk, gm_th, f_famRef_no, ne10, nm10, if_true, if_false, eq_self, o1, f_isPlace_yes F _ hp_, f_mPlace_yes F hp_, ax_shelf hp_, f_isPlace_no F _ hnq, f_mPlace_no F hnq]
        · simp only [f_X7_turned, f_X7_turned_0, f_X7_turned_60, Option.bind_some, ck_0, ck_40, ck_35, gx_n, gx_all, gx_shelf, gx_lay, gx_seek, gx_cl, gm_n, gm_all, gm_kd, gm_td, gm_fm, gm_pr, gm_sz, gm_rw, gm_tu, gm_pe, gm_tr, gm_as, gm_mc, gm_pk, gm_th, f_famRef_no, ne10, nm10, if_true, if_false, eq_self, o2, f_isPlace_yes F _ hp_, f_mPlace_yes F hp_, ax_shelf hp_, f_isPlace_no F _ hnq, f_mPlace_no F hnq]
  · rcases hb with rfl | rfl
    · refine ⟨-1, cl, P, sp, st, sk, sd, sm, th, mc, pk, kd, td, fm, pr, sz, ro, tu, pe, tr, as, ?_, ?_, hR⟩
      · simp only [f_X6_turned, f_X6_turned_0, f_X6_turned_26, f_X6_turned_65, Option.bind_some, ck_0, ck_40, ck_35, gx_n, gx_all, gx_shelf, gx_lay, gx_seek, gx_cl, gm_n, gm_all, gm_kd, gm_td, gm_fm, gm_pr, gm_sz, gm_rw, gm_tu, gm_pe, gm_tr, gm_as, gm_mc, gm_pk, gm_th, f_famRef_no, ne10, nm10, if_true, if_false, eq_self, o1, f_isPlace_no F _ hnp, f_mPlace_no F hnp]
      · simp only [f_X7_turned, f_X7_turned_0, f_X7_turned_60, Option.bind_some, ck_0, ck_40, ck_35, gx_n, gx_all, gx_shelf, gx_lay, gx_seek, gx_cl, gm_n, gm_all, gm_kd, gm_td, gm_fm, gm_pr, gm_sz, gm_rw, gm_tu, gm_pe, gm_tr, gm_as, gm_mc, gm_pk, gm_th, f_famRef_no, ne10, nm10, if_true, if_false, eq_self, o2, f_isPlace_no F _ hnp, f_mPlace_no F hnp]
    · rcases place_or z with ⟨q, hq_, rfl⟩ | hnq
      · refine ⟨-1, cl, P, sp, st, sk, sd, sm, th, mc, pk, kd, td, fm, pr, sz, ro, tu, pe, tr, as, ?_, ?_, hR⟩
        · simp only [f_X6_turned, f_X6_turned_0, f_X6_turned_26, f_X6_turned_65, Option.bind_some, ck_0, ck_40, ck_35, gx_n, gx_all, gx_shelf, gx_lay, gx_seek, gx_cl, gm_n, gm_all, gm_kd, gm_td, gm_fm, gm_pr, gm_sz, gm_rw, gm_tu, gm_pe, gm_tr, gm_as, gm_mc, gm_pk, gm_th, f_famRef_no, ne10, nm10, if_true, if_false, eq_self, o1, f_isPlace_no F _ hnp, f_mPlace_no F hnp, f_famRef_out F hnp, f_isPlace_yes F _ hq_, f_mPlace_yes F hq_, ax_shelf hq_]
        · simp only [f_X7_turned, f_X7_turned_0, f_X7_turned_60, Option.bind_some, ck_0, ck_40, ck_35, gx_n, gx_all, gx_shelf, gx_lay, gx_seek, gx_cl, gm_n, gm_all, gm_kd, gm_td, gm_fm, gm_pr, gm_sz, gm_rw, gm_tu, gm_pe, gm_tr, gm_as, gm_mc, gm_pk, gm_th, f_famRef_no, ne10, nm10, if_true, if_false, eq_self, o2, f_isPlace_no F _ hnp, f_mPlace_no F hnp, f_famRef_out F hnp, f_isPlace_yes F _ hq_, f_mPlace_yes F hq_, ax_shelf hq_]
      · refine ⟨-1, cl, P, sp, st, sk, sd, sm, th, mc, pk, kd, td, fm, pr, sz, ro, tu, pe, tr, as, ?_, ?_, hR⟩
        · simp only [f_X6_turned, f_X6_turned_0, f_X6_turned_26, f_X6_turned_65, Option.bind_some, ck_0, ck_40, ck_35, gx_n, gx_all, gx_shelf, gx_lay, gx_seek, gx_cl, gm_n, gm_all, gm_kd, gm_td, gm_fm, gm_pr, gm_sz, gm_rw, gm_tu, gm_pe, gm_tr, gm_as, gm_mc, gm_pk, gm_th, f_famRef_no, ne10, nm10, if_true, if_false, eq_self, o1, f_isPlace_no F _ hnp, f_mPlace_no F hnp, f_famRef_out F hnp, f_isPlace_no F _ hnq, f_mPlace_no F hnq]
        · simp only [f_X7_turned, f_X7_turned_0, f_X7_turned_60, Option.bind_some, ck_0, ck_40, ck_35, gx_n, gx_all, gx_shelf, gx_lay, gx_seek, gx_cl, gm_n, gm_all, gm_kd, gm_td, gm_fm, gm_pr, gm_sz, gm_rw, gm_tu, gm_pe, gm_tr, gm_as, gm_mc, gm_pk, gm_th, f_famRef_no, ne10, nm10, if_true, if_false, eq_self, o2, f_isPlace_no F _ hnp, f_mPlace_no F hnp, f_famRef_out F hnp, f_isPlace_no F _ hnq, f_mPlace_no F hnq]
theorem st_ring {F : Nat × Nat} (hF : 100000 ≤ F.1) {sc : Nat × (Nat → Int32)} {c : Nat} (x y z : Int32) : stepI sc c (f_X6_ring F 0 x y z) (f_X7_ring F 40 x y z) := by
  refine stepI.mk fun n cl P ly sp st sk sd sm th mc pk kd td fm pr sz ro tu pe tr as w g hR => ?_
  have hn6 := hR.1.2
  have ha := all_le hn6
  have hn3 := hR.1.1
  obtain ⟨b, tu2, hb, hb1, o1, o2⟩ := turn_ex (sc := sc) (n := n) (w := w) (g := g) (th := th) (mc := mc) (pk := pk) (kd := kd) (td := td) (fm := fm) (pr := pr) (sz := sz) (ro := ro) (tu := tu) (pe := pe) (tr := tr) (as := as) hF hR.1.1 hn6 y
  rcases place_or x with ⟨p, hp_, rfl⟩ | hnp
  · have hkp := (hR.2.2.1 p hp_).1
    rcases hb with rfl | rfl
    · refine ⟨-1, cl, P, sp, st, sk, sd, sm, th, mc, pk, kd, td, fm, pr, sz, ro, tu2, pe, tr, as, ?_, ?_, hR⟩
      · simp only [f_X6_ring, f_X6_ring_0, f_X6_ring_31, Option.bind_some, ck_0, ck_40, ck_35, gx_n, gx_all, gx_shelf, gx_lay, gx_seek, gx_cl, gm_n, gm_all, gm_kd, gm_td, gm_fm, gm_pr, gm_sz, gm_rw, gm_tu, gm_pe, gm_tr, gm_as, gm_mc, gm_pk, gm_th, f_famRef_no, ne10, nm10, if_true, if_false, eq_self, o1, f_isPlace_yes F _ hp_, f_mPlace_yes F hp_, ax_shelf hp_]
      · simp only [f_X7_ring, f_X7_ring_0, Option.bind_some, ck_0, ck_40, ck_35, gx_n, gx_all, gx_shelf, gx_lay, gx_seek, gx_cl, gm_n, gm_all, gm_kd, gm_td, gm_fm, gm_pr, gm_sz, gm_rw, gm_tu, gm_pe, gm_tr, gm_as, gm_mc, gm_pk, gm_th, f_famRef_no, ne10, nm10, if_true, if_false, eq_self, o2, f_isPlace_yes F _ hp_, f_mPlace_yes F hp_, ax_shelf hp_]
    · obtain ⟨m, hm, rfl, hpm, htu⟩ := hb1 rfl
      by_cases h1 : z < 1
      · refine ⟨-1, cl, P, sp, st, sk, sd, sm, th, mc, pk, kd, td, fm, pr, sz, ro, tu2, pe, tr, as, ?_, ?_, hR⟩
        · simp only [f_X6_ring, f_X6_ring_0, f_X6_ring_31, Option.bind_some, ck_0, ck_40, ck_35, gx_n, gx_all, gx_shelf, gx_lay, gx_seek, gx_cl, gm_n, gm_all, gm_kd, gm_td, gm_fm, gm_pr, gm_sz, gm_rw, gm_tu, gm_pe, gm_tr, gm_as, gm_mc, gm_pk, gm_th, f_famRef_no, ne10, nm10, if_true, if_false, eq_self, o1, f_isPlace_yes F _ hp_, f_mPlace_yes F hp_, ax_shelf hp_, f_isIn_eq, h1]
        · simp only [f_X7_ring, f_X7_ring_0, Option.bind_some, ck_0, ck_40, ck_35, gx_n, gx_all, gx_shelf, gx_lay, gx_seek, gx_cl, gm_n, gm_all, gm_kd, gm_td, gm_fm, gm_pr, gm_sz, gm_rw, gm_tu, gm_pe, gm_tr, gm_as, gm_mc, gm_pk, gm_th, f_famRef_no, ne10, nm10, if_true, if_false, eq_self, o2, f_isPlace_yes F _ hp_, f_mPlace_yes F hp_, ax_shelf hp_, f_isIn_eq, h1]
      · have hz0 : ¬ z < 0 := fun q => h1 (by have h01 : (0 : Int32) < 1 := by decide
                                              rw [Int32.lt_iff_toInt_lt] at q h01 ⊢; omega)
        obtain ⟨k, hk, rfl⟩ := nI_of hz0
        have hk1 : 1 ≤ k := Nat.not_lt.mp fun q => h1 (show nI k < nI 1 from nI_lt q (by omega))
        have h1' : ¬ nI k < 1 := h1
        have en : nI n - 1 = nI (n - 1) := by rw [show (1 : Int32) = nI 1 from rfl, pk_sub (by omega)]
        by_cases hkn : k < n
        · have h2 : nI k < nI n := nI_lt hkn (by omega)
          have h3 : ¬ nI (n - 1) < nI k := nI_nlt (by omega) (by omega)
          by_cases h0 : refu (kd p) = 0
          · obtain ⟨jp, hjp, hkjp, hsep, hfip, tp, htp, http, hppp, hkvp⟩ := fam_of (hR.2.2.1 p hp_) h0
            refine ⟨nI (fb_ct (fun s => qb (fm p) (stN n (dg m) s k)) n), cl, P, sp, st, sk, sd, sm, th, mc, pk, kd, td, fm, pr, sz, ro, tu2, pe, tr, as, ?_, ?_, hR⟩
            · simp only [f_X6_ring, f_X6_ring_0, f_X6_ring_31, Option.bind_some, ck_0, ck_40, ck_35, gx_n, gx_all, gx_shelf, gx_lay, gx_seek, gx_cl, gm_n, gm_all, gm_kd, gm_td, gm_fm, gm_pr, gm_sz, gm_rw, gm_tu, gm_pe, gm_tr, gm_as, gm_mc, gm_pk, gm_th, f_famRef_no, ne10, nm10, if_true, if_false, eq_self, o1, f_isPlace_yes F _ hp_, f_mPlace_yes F hp_, ax_shelf hp_, f_famRef_eq F hp_, f_lacks_eq F hp_, gp_se hp_, gp_ho hp_, gp_le hp_, gp_pa hp_, am_kd hp_, am_td hp_, am_fm hp_, am_pr hp_, hkp, h0, hsep, h1, h2, h3, f_cring hF hn6 hp_ hm hpm hkn]
            · simp only [f_X7_ring, f_X7_ring_0, Option.bind_some, ck_0, ck_40, ck_35, gx_n, gx_all, gx_shelf, gx_lay, gx_seek, gx_cl, gm_n, gm_all, gm_kd, gm_td, gm_fm, gm_pr, gm_sz, gm_rw, gm_tu, gm_pe, gm_tr, gm_as, gm_mc, gm_pk, gm_th, f_famRef_no, ne10, nm10, if_true, if_false, eq_self, o2, f_isPlace_yes F _ hp_, f_mPlace_yes F hp_, ax_shelf hp_, f_famRef_eq F hp_, f_lacks_eq F hp_, gp_se hp_, gp_ho hp_, gp_le hp_, gp_pa hp_, am_kd hp_, am_td hp_, am_fm hp_, am_pr hp_, hkp, h0, hsep, f_isIn_eq, h1, h2, h3, en, f_mring hF hn6 hp_ hpm.1 htu hkn]
          · refine ⟨refu (kd p), cl, P, sp, st, sk, sd, sm, th, mc, pk, kd, td, fm, pr, sz, ro, tu2, pe, tr, as, ?_, ?_, hR⟩
            · simp only [f_X6_ring, f_X6_ring_0, f_X6_ring_31, Option.bind_some, ck_0, ck_40, ck_35, gx_n, gx_all, gx_shelf, gx_lay, gx_seek, gx_cl, gm_n, gm_all, gm_kd, gm_td, gm_fm, gm_pr, gm_sz, gm_rw, gm_tu, gm_pe, gm_tr, gm_as, gm_mc, gm_pk, gm_th, f_famRef_no, ne10, nm10, if_true, if_false, eq_self, o1, f_isPlace_yes F _ hp_, f_mPlace_yes F hp_, ax_shelf hp_, f_famRef_eq F hp_, f_lacks_eq F hp_, gp_se hp_, gp_ho hp_, gp_le hp_, gp_pa hp_, am_kd hp_, am_td hp_, am_fm hp_, am_pr hp_, hkp, h0, h1, h2, h3, f_isIn_eq, en]
            · simp only [f_X7_ring, f_X7_ring_0, Option.bind_some, ck_0, ck_40, ck_35, gx_n, gx_all, gx_shelf, gx_lay, gx_seek, gx_cl, gm_n, gm_all, gm_kd, gm_td, gm_fm, gm_pr, gm_sz, gm_rw, gm_tu, gm_pe, gm_tr, gm_as, gm_mc, gm_pk, gm_th, f_famRef_no, ne10, nm10, if_true, if_false, eq_self, o2, f_isPlace_yes F _ hp_, f_mPlace_yes F hp_, ax_shelf hp_, f_famRef_eq F hp_, f_lacks_eq F hp_, gp_se hp_, gp_ho hp_, gp_le hp_, gp_pa hp_, am_kd hp_, am_td hp_, am_fm hp_, am_pr hp_, hkp, h0, h1, h2, h3, f_isIn_eq, en]
        · have h2 : ¬ nI k < nI n := nI_nlt (by omega) (by omega)
          have h3 : nI (n - 1) < nI k := nI_lt (by omega) (by omega)
          refine ⟨-1, cl, P, sp, st, sk, sd, sm, th, mc, pk, kd, td, fm, pr, sz, ro, tu2, pe, tr, as, ?_, ?_, hR⟩
          · simp only [f_X6_ring, f_X6_ring_0, f_X6_ring_31, Option.bind_some, ck_0, ck_40, ck_35, gx_n, gx_all, gx_shelf, gx_lay, gx_seek, gx_cl, gm_n, gm_all, gm_kd, gm_td, gm_fm, gm_pr, gm_sz, gm_rw, gm_tu, gm_pe, gm_tr, gm_as, gm_mc, gm_pk, gm_th, f_famRef_no, ne10, nm10, if_true, if_false, eq_self, o1, f_isPlace_yes F _ hp_, f_mPlace_yes F hp_, ax_shelf hp_, f_isIn_eq, h1, h2, h3, en]
          · simp only [f_X7_ring, f_X7_ring_0, Option.bind_some, ck_0, ck_40, ck_35, gx_n, gx_all, gx_shelf, gx_lay, gx_seek, gx_cl, gm_n, gm_all, gm_kd, gm_td, gm_fm, gm_pr, gm_sz, gm_rw, gm_tu, gm_pe, gm_tr, gm_as, gm_mc, gm_pk, gm_th, f_famRef_no, ne10, nm10, if_true, if_false, eq_self, o2, f_isPlace_yes F _ hp_, f_mPlace_yes F hp_, ax_shelf hp_, f_isIn_eq, h1, h2, h3, en]
  · rcases hb with rfl | rfl
    · refine ⟨-1, cl, P, sp, st, sk, sd, sm, th, mc, pk, kd, td, fm, pr, sz, ro, tu, pe, tr, as, ?_, ?_, hR⟩
      · simp only [f_X6_ring, f_X6_ring_0, f_X6_ring_31, Option.bind_some, ck_0, ck_40, ck_35, gx_n, gx_all, gx_shelf, gx_lay, gx_seek, gx_cl, gm_n, gm_all, gm_kd, gm_td, gm_fm, gm_pr, gm_sz, gm_rw, gm_tu, gm_pe, gm_tr, gm_as, gm_mc, gm_pk, gm_th, f_famRef_no, ne10, nm10, if_true, if_false, eq_self, o1, f_isPlace_no F _ hnp, f_mPlace_no F hnp]
      · simp only [f_X7_ring, f_X7_ring_0, Option.bind_some, ck_0, ck_40, ck_35, gx_n, gx_all, gx_shelf, gx_lay, gx_seek, gx_cl, gm_n, gm_all, gm_kd, gm_td, gm_fm, gm_pr, gm_sz, gm_rw, gm_tu, gm_pe, gm_tr, gm_as, gm_mc, gm_pk, gm_th, f_famRef_no, ne10, nm10, if_true, if_false, eq_self, o2, f_isPlace_no F _ hnp, f_mPlace_no F hnp]
    · by_cases h1 : z < 1
      · refine ⟨-1, cl, P, sp, st, sk, sd, sm, th, mc, pk, kd, td, fm, pr, sz, ro, tu, pe, tr, as, ?_, ?_, hR⟩
        · simp only [f_X6_ring, f_X6_ring_0, f_X6_ring_31, Option.bind_some, ck_0, ck_40, ck_35, gx_n, gx_all, gx_shelf, gx_lay, gx_seek, gx_cl, gm_n, gm_all, gm_kd, gm_td, gm_fm, gm_pr, gm_sz, gm_rw, gm_tu, gm_pe, gm_tr, gm_as, gm_mc, gm_pk, gm_th, f_famRef_no, ne10, nm10, if_true, if_false, eq_self, o1, f_isPlace_no F _ hnp, f_mPlace_no F hnp, f_famRef_out F hnp, h1]
        · simp only [f_X7_ring, f_X7_ring_0, Option.bind_some, ck_0, ck_40, ck_35, gx_n, gx_all, gx_shelf, gx_lay, gx_seek, gx_cl, gm_n, gm_all, gm_kd, gm_td, gm_fm, gm_pr, gm_sz, gm_rw, gm_tu, gm_pe, gm_tr, gm_as, gm_mc, gm_pk, gm_th, f_famRef_no, ne10, nm10, if_true, if_false, eq_self, o2, f_isPlace_no F _ hnp, f_mPlace_no F hnp, f_famRef_out F hnp, h1]
      · have hz0 : ¬ z < 0 := fun q => h1 (by have h01 : (0 : Int32) < 1 := by decide
                                              rw [Int32.lt_iff_toInt_lt] at q h01 ⊢; omega)
        obtain ⟨k, hk, rfl⟩ := nI_of hz0
        have hk1 : 1 ≤ k := Nat.not_lt.mp fun q => h1 (show nI k < nI 1 from nI_lt q (by omega))
        have h1' : ¬ nI k < 1 := h1
        have en : nI n - 1 = nI (n - 1) := by rw [show (1 : Int32) = nI 1 from rfl, pk_sub (by omega)]
        by_cases hkn : k < n
        · have h2 : nI k < nI n := nI_lt hkn (by omega)
          have h3 : ¬ nI (n - 1) < nI k := nI_nlt (by omega) (by omega)
          refine ⟨-1, cl, P, sp, st, sk, sd, sm, th, mc, pk, kd, td, fm, pr, sz, ro, tu, pe, tr, as, ?_, ?_, hR⟩
          · simp only [f_X6_ring, f_X6_ring_0, f_X6_ring_31, Option.bind_some, ck_0, ck_40, ck_35, gx_n, gx_all, gx_shelf, gx_lay, gx_seek, gx_cl, gm_n, gm_all, gm_kd, gm_td, gm_fm, gm_pr, gm_sz, gm_rw, gm_tu, gm_pe, gm_tr, gm_as, gm_mc, gm_pk, gm_th, f_famRef_no, ne10, nm10, if_true, if_false, eq_self, o1, f_isPlace_no F _ hnp, f_mPlace_no F hnp, f_famRef_out F hnp, h1, h2]
          · simp only [f_X7_ring, f_X7_ring_0, Option.bind_some, ck_0, ck_40, ck_35, gx_n, gx_all, gx_shelf, gx_lay, gx_seek, gx_cl, gm_n, gm_all, gm_kd, gm_td, gm_fm, gm_pr, gm_sz, gm_rw, gm_tu, gm_pe, gm_tr, gm_as, gm_mc, gm_pk, gm_th, f_famRef_no, ne10, nm10, if_true, if_false, eq_self, o2, f_isPlace_no F _ hnp, f_mPlace_no F hnp, f_famRef_out F hnp, h1, h2]
        · have h2 : ¬ nI k < nI n := nI_nlt (by omega) (by omega)
          have h3 : nI (n - 1) < nI k := nI_lt (by omega) (by omega)
          refine ⟨-1, cl, P, sp, st, sk, sd, sm, th, mc, pk, kd, td, fm, pr, sz, ro, tu, pe, tr, as, ?_, ?_, hR⟩
          · simp only [f_X6_ring, f_X6_ring_0, f_X6_ring_31, Option.bind_some, ck_0, ck_40, ck_35, gx_n, gx_all, gx_shelf, gx_lay, gx_seek, gx_cl, gm_n, gm_all, gm_kd, gm_td, gm_fm, gm_pr, gm_sz, gm_rw, gm_tu, gm_pe, gm_tr, gm_as, gm_mc, gm_pk, gm_th, f_famRef_no, ne10, nm10, if_true, if_false, eq_self, o1, f_isPlace_no F _ hnp, f_mPlace_no F hnp, f_famRef_out F hnp, h1, h2, h3, en]
          · simp only [f_X7_ring, f_X7_ring_0, Option.bind_some, ck_0, ck_40, ck_35, gx_n, gx_all, gx_shelf, gx_lay, gx_seek, gx_cl, gm_n, gm_all, gm_kd, gm_td, gm_fm, gm_pr, gm_sz, gm_rw, gm_tu, gm_pe, gm_tr, gm_as, gm_mc, gm_pk, gm_th, f_famRef_no, ne10, nm10, if_true, if_false, eq_self, o2, f_isPlace_no F _ hnp, f_mPlace_no F hnp, f_famRef_out F hnp, h1, h2, h3, en]
