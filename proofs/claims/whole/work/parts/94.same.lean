theorem st_turns {F : Nat × Nat} (hF : 100000 ≤ F.1) (hF2 : 100 ≤ F.2) {sc : Nat × (Nat → Int32)} {c : Nat} (x : Int32) : stepI sc c (f_X6_turns F 0 x) (f_X7_turns F 40 x) := by
  refine stepI.mk fun n cl P ly sp st sk sd sm th mc pk kd td fm pr sz ro tu pe tr as w g hR => ?_
  have hn6 := hR.1.2
  have ha := all_le hn6
  rcases place_or x with ⟨p, hp_, rfl⟩ | hnp
  · have hkp := (hR.2.2.1 p hp_).1
    by_cases h0 : refu (kd p) = 0
    · obtain ⟨jp, hjp, hkjp, hsep, hfip, tp, htp, http, hppp, hkvp⟩ := fam_of (hR.2.2.1 p hp_) h0
      obtain ⟨tu1, t1, t2⟩ := f_first_eq (sc := sc) (n := n) (X := cx n cl P ly sp st sk sd sm) (w := w) (g := g) (th := th) (mc := mc) (pk := pk) (kd := kd) (td := td) (fm := fm) (pr := pr) (sz := sz) (ro := ro) (pe := pe) (tr := tr) (as := as) (tu := tu) hF hn6
      obtain ⟨l, l1, l2⟩ := pl_hd hR.1.1 hn6
      have hch := ch_n hR.1.1 hn6
      have hTT := pl_T hR.1.1 hn6
      rw [l1] at hch hTT
      obtain ⟨tu2, s1⟩ := f_mturns (sc := sc) (n := n) (X := cx n cl P ly sp st sk sd sm) (w := w) (g := g) (th := th) (mc := mc) (pk := pk) (kd := kd) (td := td) (fm := fm) (pr := pr) (sz := sz) (ro := ro) (pe := pe) (tr := tr) (as := as) hF hR.1.1 hn6 hp_ l (idn n) F.1 tu1 0 (by omega) hch hTT t2
      rw [← l1, Nat.zero_add] at s1
      have s2 : f_X7_turns_31 F F.1 40 (nI p) 0 1 (hp sc (cx n cl P ly sp st sk sd sm) (cm n th mc pk kd td fm pr sz ro tu1 pe tr as) w g) = some (nI (cnt (fun m' => decide (tuF n (dg m') (fm p) = fm p)) (pl n)), hp sc (cx n cl P ly sp st sk sd sm) (cm n th mc pk kd td fm pr sz ro tu2 pe tr as) w g) := s1
      refine ⟨nI (cnt (fun m' => decide (tuF n (dg m') (fm p) = fm p)) (pl n)), cl, P, sp, st, sk, sd, sm, th, mc, pk, kd, td, fm, pr, sz, ro, tu2, pe, tr, as, ?_, ?_, hR⟩
      · simp only [f_X6_turns, f_X6_turns_0, Option.bind_some, ck_0, ck_40, ck_35, gx_n, gx_all, gx_shelf, gx_lay, gx_seek, gx_cl, gm_n, gm_all, gm_kd, gm_td, gm_fm, gm_pr, gm_sz, gm_rw, gm_tu, gm_pe, gm_tr, gm_as, gm_mc, gm_pk, gm_th, f_famRef_no, ne10, nm10, if_true, if_false, eq_self, ne10, f_isPlace_yes F _ hp_, f_mPlace_yes F hp_, ax_shelf hp_, f_famRef_eq F hp_, f_lacks_eq F hp_, gp_se hp_, gp_ho hp_, gp_le hp_, gp_pa hp_, am_kd hp_, am_td hp_, am_fm hp_, am_pr hp_, hkp, h0, hsep, f_X3_countTurns, f_X3_countTurns_0, f_cturns hF hF2 hR.1.1 hn6 hfip]
      · simp only [f_X7_turns, f_X7_turns_0, Option.bind_some, ck_0, ck_40, ck_35, gx_n, gx_all, gx_shelf, gx_lay, gx_seek, gx_cl, gm_n, gm_all, gm_kd, gm_td, gm_fm, gm_pr, gm_sz, gm_rw, gm_tu, gm_pe, gm_tr, gm_as, gm_mc, gm_pk, gm_th, f_famRef_no, ne10, nm10, if_true, if_false, eq_self, ne10, f_isPlace_yes F _ hp_, f_mPlace_yes F hp_, ax_shelf hp_, f_famRef_eq F hp_, f_lacks_eq F hp_, gp_se hp_, gp_ho hp_, gp_le hp_, gp_pa hp_, am_kd hp_, am_td hp_, am_fm hp_, am_pr hp_, hkp, h0, hsep, t1, s2]
    · refine ⟨refu (kd p), cl, P, sp, st, sk, sd, sm, th, mc, pk, kd, td, fm, pr, sz, ro, tu, pe, tr, as, ?_, ?_, hR⟩
      · simp only [f_X6_turns, f_X6_turns_0, Option.bind_some, ck_0, ck_40, ck_35, gx_n, gx_all, gx_shelf, gx_lay, gx_seek, gx_cl, gm_n, gm_all, gm_kd, gm_td, gm_fm, gm_pr, gm_sz, gm_rw, gm_tu, gm_pe, gm_tr, gm_as, gm_mc, gm_pk, gm_th, f_famRef_no, ne10, nm10, if_true, if_false, eq_self, ne10, f_isPlace_yes F _ hp_, f_mPlace_yes F hp_, ax_shelf hp_, f_famRef_eq F hp_, f_lacks_eq F hp_, gp_se hp_, gp_ho hp_, gp_le hp_, gp_pa hp_, am_kd hp_, am_td hp_, am_fm hp_, am_pr hp_, hkp, h0]
      · simp only [f_X7_turns, f_X7_turns_0, Option.bind_some, ck_0, ck_40, ck_35, gx_n, gx_all, gx_shelf, gx_lay, gx_seek, gx_cl, gm_n, gm_all, gm_kd, gm_td, gm_fm, gm_pr, gm_sz, gm_rw, gm_tu, gm_pe, gm_tr, gm_as, gm_mc, gm_pk, gm_th, f_famRef_no, ne10, nm10, if_true, if_false, eq_self, ne10, f_isPlace_yes F _ hp_, f_mPlace_yes F hp_, ax_shelf hp_, f_famRef_eq F hp_, f_lacks_eq F hp_, gp_se hp_, gp_ho hp_, gp_le hp_, gp_pa hp_, am_kd hp_, am_td hp_, am_fm hp_, am_pr hp_, hkp, h0]
  · refine ⟨-1, cl, P, sp, st, sk, sd, sm, th, mc, pk, kd, td, fm, pr, sz, ro, tu, pe, tr, as, ?_, ?_, hR⟩
    · simp only [f_X6_turns, f_X6_turns_0, Option.bind_some, ck_0, ck_40, ck_35, gx_n, gx_all, gx_shelf, gx_lay, gx_seek, gx_cl, gm_n, gm_all, gm_kd, gm_td, gm_fm, gm_pr, gm_sz, gm_rw, gm_tu, gm_pe, gm_tr, gm_as, gm_mc, gm_pk, gm_th, f_famRef_no, ne10, nm10, if_true, if_false, eq_self, ne10, f_isPlace_no F _ hnp, f_mPlace_no F hnp, f_famRef_out F hnp, f_rowRef_out F hnp]
    · simp only [f_X7_turns, f_X7_turns_0, Option.bind_some, ck_0, ck_40, ck_35, gx_n, gx_all, gx_shelf, gx_lay, gx_seek, gx_cl, gm_n, gm_all, gm_kd, gm_td, gm_fm, gm_pr, gm_sz, gm_rw, gm_tu, gm_pe, gm_tr, gm_as, gm_mc, gm_pk, gm_th, f_famRef_no, ne10, nm10, if_true, if_false, eq_self, ne10, f_isPlace_no F _ hnp, f_mPlace_no F hnp, f_famRef_out F hnp, f_rowRef_out F hnp]
theorem st_same {F : Nat × Nat} (hF : 100000 ≤ F.1) (hF2 : 100 ≤ F.2) {sc : Nat × (Nat → Int32)} {c : Nat} (x y : Int32) : stepI sc c (f_X6_same F 0 x y) (f_X7_same F 40 x y) := by
  refine stepI.mk fun n cl P ly sp st sk sd sm th mc pk kd td fm pr sz ro tu pe tr as w g hR => ?_
  have hn6 := hR.1.2
  have ha := all_le hn6
  rcases place_or y with ⟨o, ho_, rfl⟩ | hno
  · have hko := (hR.2.2.1 o ho_).1
    rcases place_or x with ⟨p, hp_, rfl⟩ | hnp
    · have hkp := (hR.2.2.1 p hp_).1
      by_cases h0 : ref2 (refu (kd p)) (refu (kd o)) = 0
      · obtain ⟨z1, z2⟩ := ref2_0 h0
        obtain ⟨jp, hjp, hkjp, hsep, hfip, tp, htp, http, hppp, hkvp⟩ := fam_of (hR.2.2.1 p hp_) z1
        obtain ⟨jo, hjo, hkjo, hseo, hfio, to, hto, htto, hppo, hkvo⟩ := fam_of (hR.2.2.1 o ho_) z2
        obtain ⟨tu1, t1, t2⟩ := f_first_eq (sc := sc) (n := n) (X := cx n cl P ly sp st sk sd sm) (w := w) (g := g) (th := th) (mc := mc) (pk := pk) (kd := kd) (td := td) (fm := fm) (pr := pr) (sz := sz) (ro := ro) (pe := pe) (tr := tr) (as := as) (tu := tu) hF hn6
        obtain ⟨l, l1, l2⟩ := pl_hd hR.1.1 hn6
        have hch := ch_n hR.1.1 hn6
        have hTT := pl_T hR.1.1 hn6
        have hTT' := hTT
        rw [l1] at hch hTT
        obtain ⟨tu2, s1⟩ := f_msame (sc := sc) (n := n) (X := cx n cl P ly sp st sk sd sm) (w := w) (g := g) (th := th) (mc := mc) (pk := pk) (kd := kd) (td := td) (fm := fm) (pr := pr) (sz := sz) (ro := ro) (pe := pe) (tr := tr) (as := as) hF hR.1.1 hn6 hp_ ho_ l (idn n) F.1 tu1 (by omega) hch hTT t2
        rw [← l1] at s1
        have c1 := fb_ct_le (qb (fm p)) 64
        have c2 := fb_ct_le (qb (fm o)) 64
        refine ⟨encM (fnd (fun m' => decide (tuF n (dg m') (fm p) = fm o)) (pl n)), cl, P, sp, st, sk, sd, sm, th, mc, pk, kd, td, fm, pr, sz, ro, tu2, pe, tr, as, ?_, ?_, hR⟩
        · by_cases hz : fb_ct (qb (fm p)) 64 = fb_ct (qb (fm o)) 64
          · have hz' : (nI (fb_ct (qb (fm p)) 64) = nI (fb_ct (qb (fm o)) 64)) = True := eq_true (by rw [hz])
            simp only [f_X6_same, f_X6_same_0, Option.bind_some, ck_0, ck_40, ck_35, gx_n, gx_all, gx_shelf, gx_lay, gx_seek, gx_cl, gm_n, gm_all, gm_kd, gm_td, gm_fm, gm_pr, gm_sz, gm_rw, gm_tu, gm_pe, gm_tr, gm_as, gm_mc, gm_pk, gm_th, f_famRef_no, ne10, nm10, if_true, if_false, eq_self, ne10, f_isPlace_yes F _ ho_, f_mPlace_yes F ho_, ax_shelf ho_, f_famRef_eq F ho_, f_lacks_eq F ho_, gp_se ho_, gp_ho ho_, gp_le ho_, gp_pa ho_, am_kd ho_, am_td ho_, am_fm ho_, am_pr ho_, hko, f_isPlace_yes F _ hp_, f_mPlace_yes F hp_, ax_shelf hp_, f_famRef_eq F hp_, f_lacks_eq F hp_, gp_se hp_, gp_ho hp_, gp_le hp_, gp_pa hp_, am_kd hp_, am_td hp_, am_fm hp_, am_pr hp_, f_fams_eq F hp_ ho_, f_fams_no, f_lack2_eq, hkp, h0, hsep, hseo, f_size_eq, hz', f_X3_leastTurn, f_X3_leastTurn_0, f_unt hF hn6, f_csame hF hF2 hR.1.1 hn6 hfio]
          · have hz' : ¬ nI (fb_ct (qb (fm p)) 64) = nI (fb_ct (qb (fm o)) 64) := fun q => hz ((nI_eq (by omega) (by omega)).mp q)
            have hn0 : fnd (fun m' => decide (tuF n (dg m') (fm p) = fm o)) (pl n) = none := by
              refine (fnd_none fun m' hm' => decide_eq_false fun e => hz ?_).1
              rw [← e, tuF_ct hn6 (isT_pm (hTT' m' hm')) hfip]
            rw [hn0]
            simp only [f_X6_same, f_X6_same_0, Option.bind_some, ck_0, ck_40, ck_35, gx_n, gx_all, gx_shelf, gx_lay, gx_seek, gx_cl, gm_n, gm_all, gm_kd, gm_td, gm_fm, gm_pr, gm_sz, gm_rw, gm_tu, gm_pe, gm_tr, gm_as, gm_mc, gm_pk, gm_th, f_famRef_no, ne10, nm10, if_true, if_false, eq_self, ne10, f_isPlace_yes F _ ho_, f_mPlace_yes F ho_, ax_shelf ho_, f_famRef_eq F ho_, f_lacks_eq F ho_, gp_se ho_, gp_ho ho_, gp_le ho_, gp_pa ho_, am_kd ho_, am_td ho_, am_fm ho_, am_pr ho_, hko, f_isPlace_yes F _ hp_, f_mPlace_yes F hp_, ax_shelf hp_, f_famRef_eq F hp_, f_lacks_eq F hp_, gp_se hp_, gp_ho hp_, gp_le hp_, gp_pa hp_, am_kd hp_, am_td hp_, am_fm hp_, am_pr hp_, f_fams_eq F hp_ ho_, f_fams_no, f_lack2_eq, hkp, h0, hsep, hseo, f_size_eq, hz']
            rfl
        · simp only [f_X7_same, f_X7_same_0, Option.bind_some, ck_0, ck_40, ck_35, gx_n, gx_all, gx_shelf, gx_lay, gx_seek, gx_cl, gm_n, gm_all, gm_kd, gm_td, gm_fm, gm_pr, gm_sz, gm_rw, gm_tu, gm_pe, gm_tr, gm_as, gm_mc, gm_pk, gm_th, f_famRef_no, ne10, nm10, if_true, if_false, eq_self, ne10, f_isPlace_yes F _ ho_, f_mPlace_yes F ho_, ax_shelf ho_, f_famRef_eq F ho_, f_lacks_eq F ho_, gp_se ho_, gp_ho ho_, gp_le ho_, gp_pa ho_, am_kd ho_, am_td ho_, am_fm ho_, am_pr ho_, hko, f_isPlace_yes F _ hp_, f_mPlace_yes F hp_, ax_shelf hp_, f_famRef_eq F hp_, f_lacks_eq F hp_, gp_se hp_, gp_ho hp_, gp_le hp_, gp_pa hp_, am_kd hp_, am_td hp_, am_fm hp_, am_pr hp_, f_fams_eq F hp_ ho_, f_fams_no, f_lack2_eq, hkp, h0, hsep, hseo, t1, s1]
      · refine ⟨ref2 (refu (kd p)) (refu (kd o)), cl, P, sp, st, sk, sd, sm, th, mc, pk, kd, td, fm, pr, sz, ro, tu, pe, tr, as, ?_, ?_, hR⟩
        · simp only [f_X6_same, f_X6_same_0, Option.bind_some, ck_0, ck_40, ck_35, gx_n, gx_all, gx_shelf, gx_lay, gx_seek, gx_cl, gm_n, gm_all, gm_kd, gm_td, gm_fm, gm_pr, gm_sz, gm_rw, gm_tu, gm_pe, gm_tr, gm_as, gm_mc, gm_pk, gm_th, f_famRef_no, ne10, nm10, if_true, if_false, eq_self, ne10, f_isPlace_yes F _ ho_, f_mPlace_yes F ho_, ax_shelf ho_, f_famRef_eq F ho_, f_lacks_eq F ho_, gp_se ho_, gp_ho ho_, gp_le ho_, gp_pa ho_, am_kd ho_, am_td ho_, am_fm ho_, am_pr ho_, hko, f_isPlace_yes F _ hp_, f_mPlace_yes F hp_, ax_shelf hp_, f_famRef_eq F hp_, f_lacks_eq F hp_, gp_se hp_, gp_ho hp_, gp_le hp_, gp_pa hp_, am_kd hp_, am_td hp_, am_fm hp_, am_pr hp_, f_fams_eq F hp_ ho_, f_fams_no, f_lack2_eq, hkp, h0]
        · simp only [f_X7_same, f_X7_same_0, Option.bind_some, ck_0, ck_40, ck_35, gx_n, gx_all, gx_shelf, gx_lay, gx_seek, gx_cl, gm_n, gm_all, gm_kd, gm_td, gm_fm, gm_pr, gm_sz, gm_rw, gm_tu, gm_pe, gm_tr, gm_as, gm_mc, gm_pk, gm_th, f_famRef_no, ne10, nm10, if_true, if_false, eq_self, ne10, f_isPlace_yes F _ ho_, f_mPlace_yes F ho_, ax_shelf ho_, f_famRef_eq F ho_, f_lacks_eq F ho_, gp_se ho_, gp_ho ho_, gp_le ho_, gp_pa ho_, am_kd ho_, am_td ho_, am_fm ho_, am_pr ho_, hko, f_isPlace_yes F _ hp_, f_mPlace_yes F hp_, ax_shelf hp_, f_famRef_eq F hp_, f_lacks_eq F hp_, gp_se hp_, gp_ho hp_, gp_le hp_, gp_pa hp_, am_kd hp_, am_td hp_, am_fm hp_, am_pr hp_, f_fams_eq F hp_ ho_, f_fams_no, f_lack2_eq, hkp, h0]
    · refine ⟨-1, cl, P, sp, st, sk, sd, sm, th, mc, pk, kd, td, fm, pr, sz, ro, tu, pe, tr, as, ?_, ?_, hR⟩
      · simp only [f_X6_same, f_X6_same_0, Option.bind_some, ck_0, ck_40, ck_35, gx_n, gx_all, gx_shelf, gx_lay, gx_seek, gx_cl, gm_n, gm_all, gm_kd, gm_td, gm_fm, gm_pr, gm_sz, gm_rw, gm_tu, gm_pe, gm_tr, gm_as, gm_mc, gm_pk, gm_th, f_famRef_no, ne10, nm10, if_true, if_false, eq_self, ne10, f_isPlace_yes F _ ho_, f_mPlace_yes F ho_, ax_shelf ho_, f_famRef_eq F ho_, f_lacks_eq F ho_, gp_se ho_, gp_ho ho_, gp_le ho_, gp_pa ho_, am_kd ho_, am_td ho_, am_fm ho_, am_pr ho_, hko, f_isPlace_no F _ hnp, f_mPlace_no F hnp, f_fams_out1 F ho_ hnp, f_fams_no]
      · simp only [f_X7_same, f_X7_same_0, Option.bind_some, ck_0, ck_40, ck_35, gx_n, gx_all, gx_shelf, gx_lay, gx_seek, gx_cl, gm_n, gm_all, gm_kd, gm_td, gm_fm, gm_pr, gm_sz, gm_rw, gm_tu, gm_pe, gm_tr, gm_as, gm_mc, gm_pk, gm_th, f_famRef_no, ne10, nm10, if_true, if_false, eq_self, ne10, f_isPlace_yes F _ ho_, f_mPlace_yes F ho_, ax_shelf ho_, f_famRef_eq F ho_, f_lacks_eq F ho_, gp_se ho_, gp_ho ho_, gp_le ho_, gp_pa ho_, am_kd ho_, am_td ho_, am_fm ho_, am_pr ho_, hko, f_isPlace_no F _ hnp, f_mPlace_no F hnp, f_fams_out1 F ho_ hnp, f_fams_no]
  · rcases place_or x with ⟨p, hp_, rfl⟩ | hnp
    · have hkp := (hR.2.2.1 p hp_).1
      refine ⟨-1, cl, P, sp, st, sk, sd, sm, th, mc, pk, kd, td, fm, pr, sz, ro, tu, pe, tr, as, ?_, ?_, hR⟩
      · simp only [f_X6_same, f_X6_same_0, Option.bind_some, ck_0, ck_40, ck_35, gx_n, gx_all, gx_shelf, gx_lay, gx_seek, gx_cl, gm_n, gm_all, gm_kd, gm_td, gm_fm, gm_pr, gm_sz, gm_rw, gm_tu, gm_pe, gm_tr, gm_as, gm_mc, gm_pk, gm_th, f_famRef_no, ne10, nm10, if_true, if_false, eq_self, ne10, f_isPlace_no F _ hno, f_mPlace_no F hno, f_fams_out2 F _ hno, f_fams_no, f_isPlace_yes F _ hp_, f_mPlace_yes F hp_, ax_shelf hp_, f_famRef_eq F hp_, f_lacks_eq F hp_, gp_se hp_, gp_ho hp_, gp_le hp_, gp_pa hp_, am_kd hp_, am_td hp_, am_fm hp_, am_pr hp_]
      · simp only [f_X7_same, f_X7_same_0, Option.bind_some, ck_0, ck_40, ck_35, gx_n, gx_all, gx_shelf, gx_lay, gx_seek, gx_cl, gm_n, gm_all, gm_kd, gm_td, gm_fm, gm_pr, gm_sz, gm_rw, gm_tu, gm_pe, gm_tr, gm_as, gm_mc, gm_pk, gm_th, f_famRef_no, ne10, nm10, if_true, if_false, eq_self, ne10, f_isPlace_no F _ hno, f_mPlace_no F hno, f_fams_out2 F _ hno, f_fams_no, f_isPlace_yes F _ hp_, f_mPlace_yes F hp_, ax_shelf hp_, f_famRef_eq F hp_, f_lacks_eq F hp_, gp_se hp_, gp_ho hp_, gp_le hp_, gp_pa hp_, am_kd hp_, am_td hp_, am_fm hp_, am_pr hp_]
    · refine ⟨-1, cl, P, sp, st, sk, sd, sm, th, mc, pk, kd, td, fm, pr, sz, ro, tu, pe, tr, as, ?_, ?_, hR⟩
      · simp only [f_X6_same, f_X6_same_0, Option.bind_some, ck_0, ck_40, ck_35, gx_n, gx_all, gx_shelf, gx_lay, gx_seek, gx_cl, gm_n, gm_all, gm_kd, gm_td, gm_fm, gm_pr, gm_sz, gm_rw, gm_tu, gm_pe, gm_tr, gm_as, gm_mc, gm_pk, gm_th, f_famRef_no, ne10, nm10, if_true, if_false, eq_self, ne10, f_isPlace_no F _ hno, f_mPlace_no F hno, f_fams_out2 F _ hno, f_fams_no, f_isPlace_no F _ hnp, f_mPlace_no F hnp]
      · simp only [f_X7_same, f_X7_same_0, Option.bind_some, ck_0, ck_40, ck_35, gx_n, gx_all, gx_shelf, gx_lay, gx_seek, gx_cl, gm_n, gm_all, gm_kd, gm_td, gm_fm, gm_pr, gm_sz, gm_rw, gm_tu, gm_pe, gm_tr, gm_as, gm_mc, gm_pk, gm_th, f_famRef_no, ne10, nm10, if_true, if_false, eq_self, ne10, f_isPlace_no F _ hno, f_mPlace_no F hno, f_fams_out2 F _ hno, f_fams_no, f_isPlace_no F _ hnp, f_mPlace_no F hnp]
