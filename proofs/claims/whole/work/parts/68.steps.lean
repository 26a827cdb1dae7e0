theorem st_set {F : Nat × Nat} (hF : 100000 ≤ F.1) {sc : Nat × (Nat → Int32)} {c : Nat} (x y : Int32) : stepI sc c (f_X6_set F 0 x y) (f_X7_set F 40 x y) := by
  refine stepI.mk fun n cl P ly sp st sk sd sm th mc pk kd td fm pr sz ro tu pe tr as w g hR => ?_
  have hn6 := hR.1.2
  have ha := all_le hn6
  rcases place_or x with ⟨p, hp_, rfl⟩ | hnp
  · have hkp := (hR.2.2.1 p hp_).1
    rcases (Classical.em (y < 0)).symm with hy | hy
    · by_cases h0 : refu (kd p) = 0
      · obtain ⟨jp, hjp, hkjp, hsep, hfip, tp, htp, http, hppp, hkvp⟩ := fam_of (hR.2.2.1 p hp_) h0
        obtain ⟨m, hm, rfl⟩ := nI_of hy
        refine ⟨sa (qb (fm p)) m 0 (2 ^ n), cl, P, sp, st, sk, sd, sm, th, mc, pk, kd, td, fm, pr, sz, ro, tu, pe, tr, as, ?_, ?_, hR⟩
        · simp only [f_X6_set, f_X6_set_0, f_X6_set_11, Option.bind_some, ck_0, ck_40, ck_35, gx_n, gx_all, gx_shelf, gx_lay, gx_seek, gx_cl, gm_n, gm_all, gm_kd, gm_td, gm_fm, gm_pr, gm_sz, gm_rw, gm_tu, gm_pe, gm_tr, gm_as, gm_mc, gm_pk, gm_th, f_famRef_no, ne10, nm10, if_true, if_false, eq_self, ne10, f_isPlace_yes F _ hp_, f_mPlace_yes F hp_, ax_shelf hp_, f_famRef_eq F hp_, f_lacks_eq F hp_, gp_se hp_, gp_ho hp_, gp_le hp_, gp_pa hp_, am_kd hp_, am_td hp_, am_fm hp_, am_pr hp_, hkp, hy, h0, hsep, f_setAt_eq hF _ hm, sa_all hn6 hfip]
        · simp only [f_X7_set, f_X7_set_0, Option.bind_some, ck_0, ck_40, ck_35, gx_n, gx_all, gx_shelf, gx_lay, gx_seek, gx_cl, gm_n, gm_all, gm_kd, gm_td, gm_fm, gm_pr, gm_sz, gm_rw, gm_tu, gm_pe, gm_tr, gm_as, gm_mc, gm_pk, gm_th, f_famRef_no, ne10, nm10, if_true, if_false, eq_self, ne10, f_isPlace_yes F _ hp_, f_mPlace_yes F hp_, ax_shelf hp_, f_famRef_eq F hp_, f_lacks_eq F hp_, gp_se hp_, gp_ho hp_, gp_le hp_, gp_pa hp_, am_kd hp_, am_td hp_, am_fm hp_, am_pr hp_, hkp, hy, h0, hsep, f_mset_loop hF hn6 hp_ hm]
      · refine ⟨refu (kd p), cl, P, sp, st, sk, sd, sm, th, mc, pk, kd, td, fm, pr, sz, ro, tu, pe, tr, as, ?_, ?_, hR⟩
        · simp only [f_X6_set, f_X6_set_0, f_X6_set_11, Option.bind_some, ck_0, ck_40, ck_35, gx_n, gx_all, gx_shelf, gx_lay, gx_seek, gx_cl, gm_n, gm_all, gm_kd, gm_td, gm_fm, gm_pr, gm_sz, gm_rw, gm_tu, gm_pe, gm_tr, gm_as, gm_mc, gm_pk, gm_th, f_famRef_no, ne10, nm10, if_true, if_false, eq_self, ne10, f_isPlace_yes F _ hp_, f_mPlace_yes F hp_, ax_shelf hp_, f_famRef_eq F hp_, f_lacks_eq F hp_, gp_se hp_, gp_ho hp_, gp_le hp_, gp_pa hp_, am_kd hp_, am_td hp_, am_fm hp_, am_pr hp_, hkp, hy, h0]
        · simp only [f_X7_set, f_X7_set_0, Option.bind_some, ck_0, ck_40, ck_35, gx_n, gx_all, gx_shelf, gx_lay, gx_seek, gx_cl, gm_n, gm_all, gm_kd, gm_td, gm_fm, gm_pr, gm_sz, gm_rw, gm_tu, gm_pe, gm_tr, gm_as, gm_mc, gm_pk, gm_th, f_famRef_no, ne10, nm10, if_true, if_false, eq_self, ne10, f_isPlace_yes F _ hp_, f_mPlace_yes F hp_, ax_shelf hp_, f_famRef_eq F hp_, f_lacks_eq F hp_, gp_se hp_, gp_ho hp_, gp_le hp_, gp_pa hp_, am_kd hp_, am_td hp_, am_fm hp_, am_pr hp_, hkp, hy, h0]
    · refine ⟨-1, cl, P, sp, st, sk, sd, sm, th, mc, pk, kd, td, fm, pr, sz, ro, tu, pe, tr, as, ?_, ?_, hR⟩
      · simp only [f_X6_set, f_X6_set_0, f_X6_set_11, Option.bind_some, ck_0, ck_40, ck_35, gx_n, gx_all, gx_shelf, gx_lay, gx_seek, gx_cl, gm_n, gm_all, gm_kd, gm_td, gm_fm, gm_pr, gm_sz, gm_rw, gm_tu, gm_pe, gm_tr, gm_as, gm_mc, gm_pk, gm_th, f_famRef_no, ne10, nm10, if_true, if_false, eq_self, ne10, f_isPlace_yes F _ hp_, f_mPlace_yes F hp_, ax_shelf hp_, f_famRef_eq F hp_, f_lacks_eq F hp_, gp_se hp_, gp_ho hp_, gp_le hp_, gp_pa hp_, am_kd hp_, am_td hp_, am_fm hp_, am_pr hp_, hkp, hy]
      · simp only [f_X7_set, f_X7_set_0, Option.bind_some, ck_0, ck_40, ck_35, gx_n, gx_all, gx_shelf, gx_lay, gx_seek, gx_cl, gm_n, gm_all, gm_kd, gm_td, gm_fm, gm_pr, gm_sz, gm_rw, gm_tu, gm_pe, gm_tr, gm_as, gm_mc, gm_pk, gm_th, f_famRef_no, ne10, nm10, if_true, if_false, eq_self, ne10, f_isPlace_yes F _ hp_, f_mPlace_yes F hp_, ax_shelf hp_, f_famRef_eq F hp_, f_lacks_eq F hp_, gp_se hp_, gp_ho hp_, gp_le hp_, gp_pa hp_, am_kd hp_, am_td hp_, am_fm hp_, am_pr hp_, hkp, hy]
  · rcases (Classical.em (y < 0)).symm with hy | hy
    · refine ⟨-1, cl, P, sp, st, sk, sd, sm, th, mc, pk, kd, td, fm, pr, sz, ro, tu, pe, tr, as, ?_, ?_, hR⟩
      · simp only [f_X6_set, f_X6_set_0, f_X6_set_11, Option.bind_some, ck_0, ck_40, ck_35, gx_n, gx_all, gx_shelf, gx_lay, gx_seek, gx_cl, gm_n, gm_all, gm_kd, gm_td, gm_fm, gm_pr, gm_sz, gm_rw, gm_tu, gm_pe, gm_tr, gm_as, gm_mc, gm_pk, gm_th, f_famRef_no, ne10, nm10, if_true, if_false, eq_self, ne10, f_isPlace_no F _ hnp, f_mPlace_no F hnp, f_famRef_out F hnp, f_rowRef_out F hnp, hy]
      · simp only [f_X7_set, f_X7_set_0, Option.bind_some, ck_0, ck_40, ck_35, gx_n, gx_all, gx_shelf, gx_lay, gx_seek, gx_cl, gm_n, gm_all, gm_kd, gm_td, gm_fm, gm_pr, gm_sz, gm_rw, gm_tu, gm_pe, gm_tr, gm_as, gm_mc, gm_pk, gm_th, f_famRef_no, ne10, nm10, if_true, if_false, eq_self, ne10, f_isPlace_no F _ hnp, f_mPlace_no F hnp, f_famRef_out F hnp, f_rowRef_out F hnp, hy]
    · refine ⟨-1, cl, P, sp, st, sk, sd, sm, th, mc, pk, kd, td, fm, pr, sz, ro, tu, pe, tr, as, ?_, ?_, hR⟩
      · simp only [f_X6_set, f_X6_set_0, f_X6_set_11, Option.bind_some, ck_0, ck_40, ck_35, gx_n, gx_all, gx_shelf, gx_lay, gx_seek, gx_cl, gm_n, gm_all, gm_kd, gm_td, gm_fm, gm_pr, gm_sz, gm_rw, gm_tu, gm_pe, gm_tr, gm_as, gm_mc, gm_pk, gm_th, f_famRef_no, ne10, nm10, if_true, if_false, eq_self, ne10, f_isPlace_no F _ hnp, f_mPlace_no F hnp, f_famRef_out F hnp, f_rowRef_out F hnp, hy]
      · simp only [f_X7_set, f_X7_set_0, Option.bind_some, ck_0, ck_40, ck_35, gx_n, gx_all, gx_shelf, gx_lay, gx_seek, gx_cl, gm_n, gm_all, gm_kd, gm_td, gm_fm, gm_pr, gm_sz, gm_rw, gm_tu, gm_pe, gm_tr, gm_as, gm_mc, gm_pk, gm_th, f_famRef_no, ne10, nm10, if_true, if_false, eq_self, ne10, f_isPlace_no F _ hnp, f_mPlace_no F hnp, f_famRef_out F hnp, f_rowRef_out F hnp, hy]
theorem st_sum {F : Nat × Nat} (hF : 100000 ≤ F.1) {sc : Nat × (Nat → Int32)} {c : Nat} (x : Int32) : stepI sc c (f_X6_sum F 0 x) (f_X7_sum F 40 x) := by
  refine stepI.mk fun n cl P ly sp st sk sd sm th mc pk kd td fm pr sz ro tu pe tr as w g hR => ?_
  have hn6 := hR.1.2
  have ha := all_le hn6
  rcases place_or x with ⟨p, hp_, rfl⟩ | hnp
  · have hkp := (hR.2.2.1 p hp_).1
    by_cases h0 : refu (kd p) = 0
    · obtain ⟨jp, hjp, hkjp, hsep, hfip, tp, htp, http, hppp, hkvp⟩ := fam_of (hR.2.2.1 p hp_) h0
      refine ⟨nI (fb_sm (fun k => fb_ct (fun x => qb (fm p) x && isL k x) (2 ^ n) * gS n k) (n + 1)), cl, P, sp, st, sk, sd, sm, th, mc, pk, kd, td, fm, pr, sz, ro, tu, pe, tr, as, ?_, ?_, hR⟩
      · simp only [f_X6_sum, f_X6_sum_0, Option.bind_some, ck_0, ck_40, ck_35, gx_n, gx_all, gx_shelf, gx_lay, gx_seek, gx_cl, gm_n, gm_all, gm_kd, gm_td, gm_fm, gm_pr, gm_sz, gm_rw, gm_tu, gm_pe, gm_tr, gm_as, gm_mc, gm_pk, gm_th, f_famRef_no, ne10, nm10, if_true, if_false, eq_self, ne10, f_isPlace_yes F _ hp_, f_mPlace_yes F hp_, ax_shelf hp_, f_famRef_eq F hp_, f_lacks_eq F hp_, gp_se hp_, gp_ho hp_, gp_le hp_, gp_pa hp_, am_kd hp_, am_td hp_, am_fm hp_, am_pr hp_, hkp, h0, hsep, f_csum_loop hF hn6 hp_ hR.2.2.2.1]
      · simp only [f_X7_sum, f_X7_sum_0, Option.bind_some, ck_0, ck_40, ck_35, gx_n, gx_all, gx_shelf, gx_lay, gx_seek, gx_cl, gm_n, gm_all, gm_kd, gm_td, gm_fm, gm_pr, gm_sz, gm_rw, gm_tu, gm_pe, gm_tr, gm_as, gm_mc, gm_pk, gm_th, f_famRef_no, ne10, nm10, if_true, if_false, eq_self, ne10, f_isPlace_yes F _ hp_, f_mPlace_yes F hp_, ax_shelf hp_, f_famRef_eq F hp_, f_lacks_eq F hp_, gp_se hp_, gp_ho hp_, gp_le hp_, gp_pa hp_, am_kd hp_, am_td hp_, am_fm hp_, am_pr hp_, hkp, h0, hsep, f_msum_loop hF hn6 hp_, sum_swap hn6]
    · refine ⟨refu (kd p), cl, P, sp, st, sk, sd, sm, th, mc, pk, kd, td, fm, pr, sz, ro, tu, pe, tr, as, ?_, ?_, hR⟩
      · simp only [f_X6_sum, f_X6_sum_0, Option.bind_some, ck_0, ck_40, ck_35, gx_n, gx_all, gx_shelf, gx_lay, gx_seek, gx_cl, gm_n, gm_all, gm_kd, gm_td, gm_fm, gm_pr, gm_sz, gm_rw, gm_tu, gm_pe, gm_tr, gm_as, gm_mc, gm_pk, gm_th, f_famRef_no, ne10, nm10, if_true, if_false, eq_self, ne10, f_isPlace_yes F _ hp_, f_mPlace_yes F hp_, ax_shelf hp_, f_famRef_eq F hp_, f_lacks_eq F hp_, gp_se hp_, gp_ho hp_, gp_le hp_, gp_pa hp_, am_kd hp_, am_td hp_, am_fm hp_, am_pr hp_, hkp, h0]
      · simp only [f_X7_sum, f_X7_sum_0, Option.bind_some, ck_0, ck_40, ck_35, gx_n, gx_all, gx_shelf, gx_lay, gx_seek, gx_cl, gm_n, gm_all, gm_kd, gm_td, gm_fm, gm_pr, gm_sz, gm_rw, gm_tu, gm_pe, gm_tr, gm_as, gm_mc, gm_pk, gm_th, f_famRef_no, ne10, nm10, if_true, if_false, eq_self, ne10, f_isPlace_yes F _ hp_, f_mPlace_yes F hp_, ax_shelf hp_, f_famRef_eq F hp_, f_lacks_eq F hp_, gp_se hp_, gp_ho hp_, gp_le hp_, gp_pa hp_, am_kd hp_, am_td hp_, am_fm hp_, am_pr hp_, hkp, h0]
  · refine ⟨-1, cl, P, sp, st, sk, sd, sm, th, mc, pk, kd, td, fm, pr, sz, ro, tu, pe, tr, as, ?_, ?_, hR⟩
    · simp only [f_X6_sum, f_X6_sum_0, Option.bind_some, ck_0, ck_40, ck_35, gx_n, gx_all, gx_shelf, gx_lay, gx_seek, gx_cl, gm_n, gm_all, gm_kd, gm_td, gm_fm, gm_pr, gm_sz, gm_rw, gm_tu, gm_pe, gm_tr, gm_as, gm_mc, gm_pk, gm_th, f_famRef_no, ne10, nm10, if_true, if_false, eq_self, ne10, f_isPlace_no F _ hnp, f_mPlace_no F hnp, f_famRef_out F hnp, f_rowRef_out F hnp]
    · simp only [f_X7_sum, f_X7_sum_0, Option.bind_some, ck_0, ck_40, ck_35, gx_n, gx_all, gx_shelf, gx_lay, gx_seek, gx_cl, gm_n, gm_all, gm_kd, gm_td, gm_fm, gm_pr, gm_sz, gm_rw, gm_tu, gm_pe, gm_tr, gm_as, gm_mc, gm_pk, gm_th, f_famRef_no, ne10, nm10, if_true, if_false, eq_self, ne10, f_isPlace_no F _ hnp, f_mPlace_no F hnp, f_famRef_out F hnp, f_rowRef_out F hnp]
theorem st_rank {F : Nat × Nat} (hF : 100000 ≤ F.1) {sc : Nat × (Nat → Int32)} {c : Nat} (x : Int32) : stepI sc c (f_X6_rank F 0 x) (f_X7_rank F 40 x) := by
  refine stepI.mk fun n cl P ly sp st sk sd sm th mc pk kd td fm pr sz ro tu pe tr as w g hR => ?_
  have hn6 := hR.1.2
  have ha := all_le hn6
  rcases set_or n x with ⟨s, hs, rfl⟩ | hns
  · obtain ⟨m, e1, e2⟩ := f_below_eq F (s := s) (by omega)
    have hps := pc_le s
    have e3 : fb_ct (qb (lyr n (pc s) &&& m)) 64 = fb_ct (isL (pc s)) s := by
      rw [ct_fit (show s ≤ 64 by omega) (fun j hj => by
        by_cases h64 : j < 64
        · rw [qb_and, e2 j h64, decide_eq_false (by omega)]; cases qb (lyr n (pc s)) j <;> rfl
        · exact qb_big (by omega))]
      exact fb_ct_cong fun j hj => by
        rw [qb_and, e2 j (by omega), qb_lyr hn6, decide_eq_true (show j < s from hj), decide_eq_true (show j < 2 ^ n by omega)]
        unfold isL
        cases decide (pc j = pc s) <;> rfl
    refine ⟨nI (fb_ct (isL (pc s)) s), cl, P, sp, st, sk, sd, sm, th, mc, pk, kd, td, fm, pr, sz, ro, tu, pe, tr, as, ?_, ?_, hR⟩
    · simp only [f_X6_rank, f_X6_rank_0, Option.bind_some, ck_0, ck_40, ck_35, gx_n, gx_all, gx_shelf, gx_lay, gx_seek, gx_cl, gm_n, gm_all, gm_kd, gm_td, gm_fm, gm_pr, gm_sz, gm_rw, gm_tu, gm_pe, gm_tr, gm_as, gm_mc, gm_pk, gm_th, f_famRef_no, ne10, nm10, if_true, if_false, eq_self, ne10, f_isSet_yes F hn6 hs, f_mSet_yes F hn6 hs, f_bits_eq F (by omega : s < 64), ax_ly (by omega : pc s < 7), hR.2.2.2.1 (pc s) (by omega), e1, f_size_eq, e3]
    · exact f_mrank_eq hF hn6 hs
  · refine ⟨-1, cl, P, sp, st, sk, sd, sm, th, mc, pk, kd, td, fm, pr, sz, ro, tu, pe, tr, as, ?_, ?_, hR⟩
    · simp only [f_X6_rank, f_X6_rank_0, Option.bind_some, ck_0, ck_40, ck_35, gx_n, gx_all, gx_shelf, gx_lay, gx_seek, gx_cl, gm_n, gm_all, gm_kd, gm_td, gm_fm, gm_pr, gm_sz, gm_rw, gm_tu, gm_pe, gm_tr, gm_as, gm_mc, gm_pk, gm_th, f_famRef_no, ne10, nm10, if_true, if_false, eq_self, ne10, f_isSet_no F hn6 hns, f_mSet_no F hn6 hns]
    · simp only [f_X7_rank, f_X7_rank_0, Option.bind_some, ck_0, ck_40, ck_35, gx_n, gx_all, gx_shelf, gx_lay, gx_seek, gx_cl, gm_n, gm_all, gm_kd, gm_td, gm_fm, gm_pr, gm_sz, gm_rw, gm_tu, gm_pe, gm_tr, gm_as, gm_mc, gm_pk, gm_th, f_famRef_no, ne10, nm10, if_true, if_false, eq_self, ne10, f_isSet_no F hn6 hns, f_mSet_no F hn6 hns]
theorem st_ranked {F : Nat × Nat} (hF : 100000 ≤ F.1) {sc : Nat × (Nat → Int32)} {c : Nat} (x y : Int32) : stepI sc c (f_X6_ranked F 0 x y) (f_X7_ranked F 40 x y) := by
  refine stepI.mk fun n cl P ly sp st sk sd sm th mc pk kd td fm pr sz ro tu pe tr as w g hR => ?_
  have hn6 := hR.1.2
  have ha := all_le hn6
  rcases (Classical.em (x < 0)).symm with h1 | h1
  · rcases (Classical.em (nI n < x)).symm with h2 | h2
    · rcases (Classical.em (y < 0)).symm with h3 | h3
      · obtain ⟨m, hm, rfl⟩ := num_in hn6 h1 h2
        obtain ⟨r, hr, rfl⟩ := nI_of h3
        refine ⟨sa (isL m) r 0 (2 ^ n), cl, P, sp, st, sk, sd, sm, th, mc, pk, kd, td, fm, pr, sz, ro, tu, pe, tr, as, ?_, ?_, hR⟩
        · simp only [f_X6_ranked, f_X6_ranked_0, Option.bind_some, ck_0, ck_40, ck_35, gx_n, gx_all, gx_shelf, gx_lay, gx_seek, gx_cl, gm_n, gm_all, gm_kd, gm_td, gm_fm, gm_pr, gm_sz, gm_rw, gm_tu, gm_pe, gm_tr, gm_as, gm_mc, gm_pk, gm_th, f_famRef_no, ne10, nm10, if_true, if_false, eq_self, ne10, h1, f_isSize_eq, f_isIn_eq, h2, h3, ax_ly (by omega : m < 7), hR.2.2.2.1 m (by omega), f_setAt_eq hF _ hr, sa_lyr hn6]
        · simp only [f_X7_ranked, f_X7_ranked_0, Option.bind_some, ck_0, ck_40, ck_35, gx_n, gx_all, gx_shelf, gx_lay, gx_seek, gx_cl, gm_n, gm_all, gm_kd, gm_td, gm_fm, gm_pr, gm_sz, gm_rw, gm_tu, gm_pe, gm_tr, gm_as, gm_mc, gm_pk, gm_th, f_famRef_no, ne10, nm10, if_true, if_false, eq_self, ne10, h1, f_isSize_eq, f_isIn_eq, h2, h3, f_mranked_loop hF hn6 (by omega : m < 7) hr]
      · refine ⟨-1, cl, P, sp, st, sk, sd, sm, th, mc, pk, kd, td, fm, pr, sz, ro, tu, pe, tr, as, ?_, ?_, hR⟩
        · simp only [f_X6_ranked, f_X6_ranked_0, Option.bind_some, ck_0, ck_40, ck_35, gx_n, gx_all, gx_shelf, gx_lay, gx_seek, gx_cl, gm_n, gm_all, gm_kd, gm_td, gm_fm, gm_pr, gm_sz, gm_rw, gm_tu, gm_pe, gm_tr, gm_as, gm_mc, gm_pk, gm_th, f_famRef_no, ne10, nm10, if_true, if_false, eq_self, ne10, h1, f_isSize_eq, f_isIn_eq, h2, h3]
        · simp only [f_X7_ranked, f_X7_ranked_0, Option.bind_some, ck_0, ck_40, ck_35, gx_n, gx_all, gx_shelf, gx_lay, gx_seek, gx_cl, gm_n, gm_all, gm_kd, gm_td, gm_fm, gm_pr, gm_sz, gm_rw, gm_tu, gm_pe, gm_tr, gm_as, gm_mc, gm_pk, gm_th, f_famRef_no, ne10, nm10, if_true, if_false, eq_self, ne10, h1, f_isSize_eq, f_isIn_eq, h2, h3]
    · rcases (Classical.em (y < 0)).symm with h3 | h3
      · refine ⟨-1, cl, P, sp, st, sk, sd, sm, th, mc, pk, kd, td, fm, pr, sz, ro, tu, pe, tr, as, ?_, ?_, hR⟩
        · simp only [f_X6_ranked, f_X6_ranked_0, Option.bind_some, ck_0, ck_40, ck_35, gx_n, gx_all, gx_shelf, gx_lay, gx_seek, gx_cl, gm_n, gm_all, gm_kd, gm_td, gm_fm, gm_pr, gm_sz, gm_rw, gm_tu, gm_pe, gm_tr, gm_as, gm_mc, gm_pk, gm_th, f_famRef_no, ne10, nm10, if_true, if_false, eq_self, ne10, h1, f_isSize_eq, f_isIn_eq, h2, h3]
        · simp only [f_X7_ranked, f_X7_ranked_0, Option.bind_some, ck_0, ck_40, ck_35, gx_n, gx_all, gx_shelf, gx_lay, gx_seek, gx_cl, gm_n, gm_all, gm_kd, gm_td, gm_fm, gm_pr, gm_sz, gm_rw, gm_tu, gm_pe, gm_tr, gm_as, gm_mc, gm_pk, gm_th, f_famRef_no, ne10, nm10, if_true, if_false, eq_self, ne10, h1, f_isSize_eq, f_isIn_eq, h2, h3]
      · refine ⟨-1, cl, P, sp, st, sk, sd, sm, th, mc, pk, kd, td, fm, pr, sz, ro, tu, pe, tr, as, ?_, ?_, hR⟩
        · simp only [f_X6_ranked, f_X6_ranked_0, Option.bind_some, ck_0, ck_40, ck_35, gx_n, gx_all, gx_shelf, gx_lay, gx_seek, gx_cl, gm_n, gm_all, gm_kd, gm_td, gm_fm, gm_pr, gm_sz, gm_rw, gm_tu, gm_pe, gm_tr, gm_as, gm_mc, gm_pk, gm_th, f_famRef_no, ne10, nm10, if_true, if_false, eq_self, ne10, h1, f_isSize_eq, f_isIn_eq, h2, h3]
        · simp only [f_X7_ranked, f_X7_ranked_0, Option.bind_some, ck_0, ck_40, ck_35, gx_n, gx_all, gx_shelf, gx_lay, gx_seek, gx_cl, gm_n, gm_all, gm_kd, gm_td, gm_fm, gm_pr, gm_sz, gm_rw, gm_tu, gm_pe, gm_tr, gm_as, gm_mc, gm_pk, gm_th, f_famRef_no, ne10, nm10, if_true, if_false, eq_self, ne10, h1, f_isSize_eq, f_isIn_eq, h2, h3]
  · rcases (Classical.em (nI n < x)).symm with h2 | h2
    · rcases (Classical.em (y < 0)).symm with h3 | h3
      · refine ⟨-1, cl, P, sp, st, sk, sd, sm, th, mc, pk, kd, td, fm, pr, sz, ro, tu, pe, tr, as, ?_, ?_, hR⟩
        · simp only [f_X6_ranked, f_X6_ranked_0, Option.bind_some, ck_0, ck_40, ck_35, gx_n, gx_all, gx_shelf, gx_lay, gx_seek, gx_cl, gm_n, gm_all, gm_kd, gm_td, gm_fm, gm_pr, gm_sz, gm_rw, gm_tu, gm_pe, gm_tr, gm_as, gm_mc, gm_pk, gm_th, f_famRef_no, ne10, nm10, if_true, if_false, eq_self, ne10, h1, f_isSize_eq, f_isIn_eq, h2, h3]
        · simp only [f_X7_ranked, f_X7_ranked_0, Option.bind_some, ck_0, ck_40, ck_35, gx_n, gx_all, gx_shelf, gx_lay, gx_seek, gx_cl, gm_n, gm_all, gm_kd, gm_td, gm_fm, gm_pr, gm_sz, gm_rw, gm_tu, gm_pe, gm_tr, gm_as, gm_mc, gm_pk, gm_th, f_famRef_no, ne10, nm10, if_true, if_false, eq_self, ne10, h1, f_isSize_eq, f_isIn_eq, h2, h3]
      · refine ⟨-1, cl, P, sp, st, sk, sd, sm, th, mc, pk, kd, td, fm, pr, sz, ro, tu, pe, tr, as, ?_, ?_, hR⟩
        · simp only [f_X6_ranked, f_X6_ranked_0, Option.bind_some, ck_0, ck_40, ck_35, gx_n, gx_all, gx_shelf, gx_lay, gx_seek, gx_cl, gm_n, gm_all, gm_kd, gm_td, gm_fm, gm_pr, gm_sz, gm_rw, gm_tu, gm_pe, gm_tr, gm_as, gm_mc, gm_pk, gm_th, f_famRef_no, ne10, nm10, if_true, if_false, eq_self, ne10, h1, f_isSize_eq, f_isIn_eq, h2, h3]
        · simp only [f_X7_ranked, f_X7_ranked_0, Option.bind_some, ck_0, ck_40, ck_35, gx_n, gx_all, gx_shelf, gx_lay, gx_seek, gx_cl, gm_n, gm_all, gm_kd, gm_td, gm_fm, gm_pr, gm_sz, gm_rw, gm_tu, gm_pe, gm_tr, gm_as, gm_mc, gm_pk, gm_th, f_famRef_no, ne10, nm10, if_true, if_false, eq_self, ne10, h1, f_isSize_eq, f_isIn_eq, h2, h3]
    · rcases (Classical.em (y < 0)).symm with h3 | h3
      · refine ⟨-1, cl, P, sp, st, sk, sd, sm, th, mc, pk, kd, td, fm, pr, sz, ro, tu, pe, tr, as, ?_, ?_, hR⟩
        · simp only [f_X6_ranked, f_X6_ranked_0, Option.bind_some, ck_0, ck_40, ck_35, gx_n, gx_all, gx_shelf, gx_lay, gx_seek, gx_cl, gm_n, gm_all, gm_kd, gm_td, gm_fm, gm_pr, gm_sz, gm_rw, gm_tu, gm_pe, gm_tr, gm_as, gm_mc, gm_pk, gm_th, f_famRef_no, ne10, nm10, if_true, if_false, eq_self, ne10, h1, f_isSize_eq, f_isIn_eq, h2, h3]
        · simp only [f_X7_ranked, f_X7_ranked_0, Option.bind_some, ck_0, ck_40, ck_35, gx_n, gx_all, gx_shelf, gx_lay, gx_seek, gx_cl, gm_n, gm_all, gm_kd, gm_td, gm_fm, gm_pr, gm_sz, gm_rw, gm_tu, gm_pe, gm_tr, gm_as, gm_mc, gm_pk, gm_th, f_famRef_no, ne10, nm10, if_true, if_false, eq_self, ne10, h1, f_isSize_eq, f_isIn_eq, h2, h3]
      · refine ⟨-1, cl, P, sp, st, sk, sd, sm, th, mc, pk, kd, td, fm, pr, sz, ro, tu, pe, tr, as, ?_, ?_, hR⟩
        · simp only [f_X6_ranked, f_X6_ranked_0, Option.bind_some, ck_0, ck_40, ck_35, gx_n, gx_all, gx_shelf, gx_lay, gx_seek, gx_cl, gm_n, gm_all, gm_kd, gm_td, gm_fm, gm_pr, gm_sz, gm_rw, gm_tu, gm_pe, gm_tr, gm_as, gm_mc, gm_pk, gm_th, f_famRef_no, ne10, nm10, if_true, if_false, eq_self, ne10, h1, f_isSize_eq, f_isIn_eq, h2, h3]
        · simp only [f_X7_ranked, f_X7_ranked_0, Option.bind_some, ck_0, ck_40, ck_35, gx_n, gx_all, gx_shelf, gx_lay, gx_seek, gx_cl, gm_n, gm_all, gm_kd, gm_td, gm_fm, gm_pr, gm_sz, gm_rw, gm_tu, gm_pe, gm_tr, gm_as, gm_mc, gm_pk, gm_th, f_famRef_no, ne10, nm10, if_true, if_false, eq_self, ne10, h1, f_isSize_eq, f_isIn_eq, h2, h3]
theorem st_matters {F : Nat × Nat} (hF : 100000 ≤ F.1) {sc : Nat × (Nat → Int32)} {c : Nat} (x y : Int32) : stepI sc c (f_X6_matters F 0 x y) (f_X7_matters F 40 x y) := by
  refine stepI.mk fun n cl P ly sp st sk sd sm th mc pk kd td fm pr sz ro tu pe tr as w g hR => ?_
  have hn6 := hR.1.2
  have ha := all_le hn6
  rcases place_or x with ⟨p, hp_, rfl⟩ | hnp
  · have hkp := (hR.2.2.1 p hp_).1
    rcases thing_or n y with ⟨i, hi_, rfl⟩ | hni
    · by_cases h0 : refu (kd p) = 0
      · obtain ⟨jp, hjp, hkjp, hsep, hfip, tp, htp, http, hppp, hkvp⟩ := fam_of (hR.2.2.1 p hp_) h0
        refine ⟨nI (fb_ct (maC (fm p) i) (2 ^ n)), cl, P, sp, st, sk, sd, sm, th, mc, pk, kd, td, fm, pr, sz, ro, tu, pe, tr, as, ?_, ?_, hR⟩
        · simp only [f_X6_matters, f_X6_matters_0, Option.bind_some, ck_0, ck_40, ck_35, gx_n, gx_all, gx_shelf, gx_lay, gx_seek, gx_cl, gm_n, gm_all, gm_kd, gm_td, gm_fm, gm_pr, gm_sz, gm_rw, gm_tu, gm_pe, gm_tr, gm_as, gm_mc, gm_pk, gm_th, f_famRef_no, ne10, nm10, if_true, if_false, eq_self, ne10, f_isPlace_yes F _ hp_, f_mPlace_yes F hp_, ax_shelf hp_, f_famRef_eq F hp_, f_lacks_eq F hp_, gp_se hp_, gp_ho hp_, gp_le hp_, gp_pa hp_, am_kd hp_, am_td hp_, am_fm hp_, am_pr hp_, hkp, f_isThing_yes F hn6 hi_, f_mThing_yes F hn6 hi_, h0, hsep, f_less_eq F _ (by omega : i < 6), f_lack_eq F _ (by omega : i < 6), f_size_eq, ct_matters hn6 hfip hi_]
        · simp only [f_X7_matters, f_X7_matters_0, Option.bind_some, ck_0, ck_40, ck_35, gx_n, gx_all, gx_shelf, gx_lay, gx_seek, gx_cl, gm_n, gm_all, gm_kd, gm_td, gm_fm, gm_pr, gm_sz, gm_rw, gm_tu, gm_pe, gm_tr, gm_as, gm_mc, gm_pk, gm_th, f_famRef_no, ne10, nm10, if_true, if_false, eq_self, ne10, f_isPlace_yes F _ hp_, f_mPlace_yes F hp_, ax_shelf hp_, f_famRef_eq F hp_, f_lacks_eq F hp_, gp_se hp_, gp_ho hp_, gp_le hp_, gp_pa hp_, am_kd hp_, am_td hp_, am_fm hp_, am_pr hp_, hkp, f_isThing_yes F hn6 hi_, f_mThing_yes F hn6 hi_, h0, hsep, f_mmatters_loop hF hn6 hp_ hi_]
      · refine ⟨refu (kd p), cl, P, sp, st, sk, sd, sm, th, mc, pk, kd, td, fm, pr, sz, ro, tu, pe, tr, as, ?_, ?_, hR⟩
        · simp only [f_X6_matters, f_X6_matters_0, Option.bind_some, ck_0, ck_40, ck_35, gx_n, gx_all, gx_shelf, gx_lay, gx_seek, gx_cl, gm_n, gm_all, gm_kd, gm_td, gm_fm, gm_pr, gm_sz, gm_rw, gm_tu, gm_pe, gm_tr, gm_as, gm_mc, gm_pk, gm_th, f_famRef_no, ne10, nm10, if_true, if_false, eq_self, ne10, f_isPlace_yes F _ hp_, f_mPlace_yes F hp_, ax_shelf hp_, f_famRef_eq F hp_, f_lacks_eq F hp_, gp_se hp_, gp_ho hp_, gp_le hp_, gp_pa hp_, am_kd hp_, am_td hp_, am_fm hp_, am_pr hp_, hkp, f_isThing_yes F hn6 hi_, f_mThing_yes F hn6 hi_, h0]
        · simp only [f_X7_matters, f_X7_matters_0, Option.bind_some, ck_0, ck_40, ck_35, gx_n, gx_all, gx_shelf, gx_lay, gx_seek, gx_cl, gm_n, gm_all, gm_kd, gm_td, gm_fm, gm_pr, gm_sz, gm_rw, gm_tu, gm_pe, gm_tr, gm_as, gm_mc, gm_pk, gm_th, f_famRef_no, ne10, nm10, if_true, if_false, eq_self, ne10, f_isPlace_yes F _ hp_, f_mPlace_yes F hp_, ax_shelf hp_, f_famRef_eq F hp_, f_lacks_eq F hp_, gp_se hp_, gp_ho hp_, gp_le hp_, gp_pa hp_, am_kd hp_, am_td hp_, am_fm hp_, am_pr hp_, hkp, f_isThing_yes F hn6 hi_, f_mThing_yes F hn6 hi_, h0]
    · refine ⟨-1, cl, P, sp, st, sk, sd, sm, th, mc, pk, kd, td, fm, pr, sz, ro, tu, pe, tr, as, ?_, ?_, hR⟩
      · simp only [f_X6_matters, f_X6_matters_0, Option.bind_some, ck_0, ck_40, ck_35, gx_n, gx_all, gx_shelf, gx_lay, gx_seek, gx_cl, gm_n, gm_all, gm_kd, gm_td, gm_fm, gm_pr, gm_sz, gm_rw, gm_tu, gm_pe, gm_tr, gm_as, gm_mc, gm_pk, gm_th, f_famRef_no, ne10, nm10, if_true, if_false, eq_self, ne10, f_isPlace_yes F _ hp_, f_mPlace_yes F hp_, ax_shelf hp_, f_famRef_eq F hp_, f_lacks_eq F hp_, gp_se hp_, gp_ho hp_, gp_le hp_, gp_pa hp_, am_kd hp_, am_td hp_, am_fm hp_, am_pr hp_, hkp, f_isThing_no F hn6 hni, f_mThing_no F hn6 hR.1.1 hni]
      · simp only [f_X7_matters, f_X7_matters_0, Option.bind_some, ck_0, ck_40, ck_35, gx_n, gx_all, gx_shelf, gx_lay, gx_seek, gx_cl, gm_n, gm_all, gm_kd, gm_td, gm_fm, gm_pr, gm_sz, gm_rw, gm_tu, gm_pe, gm_tr, gm_as, gm_mc, gm_pk, gm_th, f_famRef_no, ne10, nm10, if_true, if_false, eq_self, ne10, f_isPlace_yes F _ hp_, f_mPlace_yes F hp_, ax_shelf hp_, f_famRef_eq F hp_, f_lacks_eq F hp_, gp_se hp_, gp_ho hp_, gp_le hp_, gp_pa hp_, am_kd hp_, am_td hp_, am_fm hp_, am_pr hp_, hkp, f_isThing_no F hn6 hni, f_mThing_no F hn6 hR.1.1 hni]
  · rcases thing_or n y with ⟨i, hi_, rfl⟩ | hni
    · refine ⟨-1, cl, P, sp, st, sk, sd, sm, th, mc, pk, kd, td, fm, pr, sz, ro, tu, pe, tr, as, ?_, ?_, hR⟩
      · simp only [f_X6_matters, f_X6_matters_0, Option.bind_some, ck_0, ck_40, ck_35, gx_n, gx_all, gx_shelf, gx_lay, gx_seek, gx_cl, gm_n, gm_all, gm_kd, gm_td, gm_fm, gm_pr, gm_sz, gm_rw, gm_tu, gm_pe, gm_tr, gm_as, gm_mc, gm_pk, gm_th, f_famRef_no, ne10, nm10, if_true, if_false, eq_self, ne10, f_isPlace_no F _ hnp, f_mPlace_no F hnp, f_famRef_out F hnp, f_rowRef_out F hnp, f_isThing_yes F hn6 hi_, f_mThing_yes F hn6 hi_]
      · simp only [f_X7_matters, f_X7_matters_0, Option.bind_some, ck_0, ck_40, ck_35, gx_n, gx_all, gx_shelf, gx_lay, gx_seek, gx_cl, gm_n, gm_all, gm_kd, gm_td, gm_fm, gm_pr, gm_sz, gm_rw, gm_tu, gm_pe, gm_tr, gm_as, gm_mc, gm_pk, gm_th, f_famRef_no, ne10, nm10, if_true, if_false, eq_self, ne10, f_isPlace_no F _ hnp, f_mPlace_no F hnp, f_famRef_out F hnp, f_rowRef_out F hnp, f_isThing_yes F hn6 hi_, f_mThing_yes F hn6 hi_]
    · refine ⟨-1, cl, P, sp, st, sk, sd, sm, th, mc, pk, kd, td, fm, pr, sz, ro, tu, pe, tr, as, ?_, ?_, hR⟩
      · simp only [f_X6_matters, f_X6_matters_0, Option.bind_some, ck_0, ck_40, ck_35, gx_n, gx_all, gx_shelf, gx_lay, gx_seek, gx_cl, gm_n, gm_all, gm_kd, gm_td, gm_fm, gm_pr, gm_sz, gm_rw, gm_tu, gm_pe, gm_tr, gm_as, gm_mc, gm_pk, gm_th, f_famRef_no, ne10, nm10, if_true, if_false, eq_self, ne10, f_isPlace_no F _ hnp, f_mPlace_no F hnp, f_famRef_out F hnp, f_rowRef_out F hnp, f_isThing_no F hn6 hni, f_mThing_no F hn6 hR.1.1 hni]
      · simp only [f_X7_matters, f_X7_matters_0, Option.bind_some, ck_0, ck_40, ck_35, gx_n, gx_all, gx_shelf, gx_lay, gx_seek, gx_cl, gm_n, gm_all, gm_kd, gm_td, gm_fm, gm_pr, gm_sz, gm_rw, gm_tu, gm_pe, gm_tr, gm_as, gm_mc, gm_pk, gm_th, f_famRef_no, ne10, nm10, if_true, if_false, eq_self, ne10, f_isPlace_no F _ hnp, f_mPlace_no F hnp, f_famRef_out F hnp, f_rowRef_out F hnp, f_isThing_no F hn6 hni, f_mThing_no F hn6 hR.1.1 hni]
