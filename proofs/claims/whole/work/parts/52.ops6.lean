theorem st_petal (F : Nat × Nat) {sc : Nat × (Nat → Int32)} {c : Nat} (x : Int32) : stepI sc c (f_X6_petal F 0 x) (f_X7_petal F 40 x) := by
  refine stepI.mk fun n cl P ly sp st sk sd sm th mc pk kd td fm pr sz ro tu pe tr as w g hR => ?_
  obtain ⟨m, hm, hsk, hpk, hpe⟩ := hR.2.2.2.2.1
  have hpk1 : pk - 1 = nI m - nI 1 := by rw [hpk]; rfl
  by_cases hx : x < 0
  · refine ⟨-2, cl, P, sp, st, sk, sd, sm, th, mc, pk, kd, td, fm, pr, sz, ro, tu, pe, tr, as, ?_, ?_, hR⟩
    · unfold f_X6_petal f_X6_petal_0 f_X5_petalAt f_X5_petalAt_0
      rw [gx_seek, Option.bind_some, ck_35, Option.bind_some, if_pos hx, Option.bind_some]
    · unfold f_X7_petal f_X7_petal_0
      rw [gm_pk, Option.bind_some, f_isIn_eq, Option.bind_some, if_pos hx]
      rfl
  · obtain ⟨i, hi, rfl⟩ := nI_of hx
    by_cases him : i < m
    · refine ⟨sp i, cl, P, sp, st, sk, sd, sm, th, mc, pk, kd, td, fm, pr, sz, ro, tu, pe, tr, as, ?_, ?_, hR⟩
      · unfold f_X6_petal f_X6_petal_0 f_X5_petalAt f_X5_petalAt_0
        rw [gx_seek, Option.bind_some, ck_35, Option.bind_some, if_neg hx, gx_sk, Option.bind_some, hsk, if_pos (nI_lt him (by omega)), ← hsk, gx_sp, Option.bind_some, ax_sp (by omega), Option.bind_some, Option.bind_some]
      · unfold f_X7_petal f_X7_petal_0
        rw [gm_pk, Option.bind_some, f_isIn_eq, Option.bind_some, if_neg hx, hpk1, pk_sub (by omega), if_neg (nI_nlt (by omega) (by omega)), if_neg ne10, gm_pe, Option.bind_some, am_pe (by omega), Option.bind_some, hpe i him]
    · refine ⟨-2, cl, P, sp, st, sk, sd, sm, th, mc, pk, kd, td, fm, pr, sz, ro, tu, pe, tr, as, ?_, ?_, hR⟩
      · unfold f_X6_petal f_X6_petal_0 f_X5_petalAt f_X5_petalAt_0
        rw [gx_seek, Option.bind_some, ck_35, Option.bind_some, if_neg hx, gx_sk, Option.bind_some, hsk, if_neg (nI_nlt (by omega) hi), ← hsk, Option.bind_some]
      · unfold f_X7_petal f_X7_petal_0
        have hlt : pk - 1 < nI i := by
          rw [hpk1]
          by_cases h0 : m = 0
          · subst h0
            rw [Int32.lt_iff_toInt_lt, nI_toInt hi]
            have e : (nI 0 - nI 1).toInt = -1 := by decide +kernel
            omega
          · rw [pk_sub (by omega)]
            exact nI_lt (by omega) hi
        rw [gm_pk, Option.bind_some, f_isIn_eq, Option.bind_some, if_neg hx, if_pos hlt]
        rfl
