theorem st_product {F : Nat × Nat} (hF : 100 ≤ F.1) {sc : Nat × (Nat → Int32)} {c : Nat} (x y : Int32) : stepI sc c (f_X6_product F 0 x y) (f_X7_product F 40 x y) := by
  refine stepI.mk fun n cl P ly sp st sk sd sm th mc pk kd td fm pr sz ro tu pe tr as w g hR => ?_
  rcases place_or y with ⟨o, ho, rfl⟩ | hny
  · rcases place_or x with ⟨p, hp', rfl⟩ | hn
    · have hk := (hR.2.2.1 p hp').1
      have hk2 := (hR.2.2.1 o ho).1
      by_cases h0 : ref2 (refu (kd p)) (refu (kd o)) = 0
      · obtain ⟨z1, z2⟩ := ref2_0 h0
        obtain ⟨j, hj, -, hse, -⟩ := fam_of (hR.2.2.1 p hp') z1
        obtain ⟨j2, hj2, -, hse2, -⟩ := fam_of (hR.2.2.1 o ho) z2
        refine ⟨nI (fb_ct (qb (fm p &&& fm o)) 64) * nI (2 ^ n) - nI (fb_ct (qb (fm p)) 64) * nI (fb_ct (qb (fm o)) 64), cl, P, sp, st, sk, sd, sm, th, mc, pk, kd, td, fm, pr, sz, ro, tu, pe, tr, as, ?_, ?_, hR⟩
        · unfold f_X6_product f_X6_product_0
          rw [ck_0, Option.bind_some, f_fams_eq F hp' ho, Option.bind_some, hk, hk2, if_pos h0, gx_shelf, Option.bind_some, ax_shelf hp', Option.bind_some, gp_se hp', Option.bind_some, Option.bind_some, ax_shelf ho, Option.bind_some, gp_se ho, Option.bind_some, hse, hse2, f_size_eq, Option.bind_some, gx_all, Option.bind_some, f_size_eq, Option.bind_some, f_size_eq, Option.bind_some]
        · unfold f_X7_product f_X7_product_0
          rw [f_mPlace_yes F hp', Option.bind_some, if_neg (by decide), f_mPlace_yes F ho, Option.bind_some, if_neg (by decide), ck_40, Option.bind_some, f_lacks_eq F hp', Option.bind_some, ck_40, Option.bind_some, f_lacks_eq F ho, Option.bind_some, f_lack2_eq, Option.bind_some, if_pos h0]
          simp only [gm_fm, Option.bind_some, am_fm hp', am_fm ho, f_many_eq hF, gm_all]
      · refine ⟨ref2 (refu (kd p)) (refu (kd o)), cl, P, sp, st, sk, sd, sm, th, mc, pk, kd, td, fm, pr, sz, ro, tu, pe, tr, as, ?_, ?_, hR⟩
        · unfold f_X6_product f_X6_product_0
          rw [ck_0, Option.bind_some, f_fams_eq F hp' ho, Option.bind_some, hk, hk2, if_neg h0]
        · unfold f_X7_product f_X7_product_0
          rw [f_mPlace_yes F hp', Option.bind_some, if_neg (by decide), f_mPlace_yes F ho, Option.bind_some, if_neg (by decide), ck_40, Option.bind_some, f_lacks_eq F hp', Option.bind_some, ck_40, Option.bind_some, f_lacks_eq F ho, Option.bind_some, f_lack2_eq, Option.bind_some, if_neg h0]
          simp only [ck_40, Option.bind_some, f_lacks_eq F hp', f_lacks_eq F ho, f_lack2_eq]
    · refine ⟨-1, cl, P, sp, st, sk, sd, sm, th, mc, pk, kd, td, fm, pr, sz, ro, tu, pe, tr, as, ?_, ?_, hR⟩
      · unfold f_X6_product f_X6_product_0
        rw [ck_0, Option.bind_some, f_fams_out1 F ho hn, Option.bind_some, if_neg (show ¬ (-1 : Int32) = 0 by decide)]
      · unfold f_X7_product f_X7_product_0
        rw [f_mPlace_no F hn, Option.bind_some, if_pos rfl]
  · refine ⟨-1, cl, P, sp, st, sk, sd, sm, th, mc, pk, kd, td, fm, pr, sz, ro, tu, pe, tr, as, ?_, ?_, hR⟩
    · unfold f_X6_product f_X6_product_0
      rw [ck_0, Option.bind_some, f_fams_out2 F x hny, Option.bind_some, if_neg (show ¬ (-1 : Int32) = 0 by decide)]
    · unfold f_X7_product f_X7_product_0
      rcases place_or x with ⟨p, hp', rfl⟩ | hn
      · rw [f_mPlace_yes F hp', Option.bind_some, if_neg (by decide), f_mPlace_no F hny, Option.bind_some, if_pos rfl]
      · rw [f_mPlace_no F hn, Option.bind_some, if_pos rfl]
