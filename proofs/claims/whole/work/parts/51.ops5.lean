theorem st_heft {F : Nat × Nat} (hF : 100 ≤ F.1) {sc : Nat × (Nat → Int32)} {c : Nat} (x : Int32) : stepI sc c (f_X6_heft F 0 x) (f_X7_heft F 40 x) := by
  refine stepI.mk fun n cl P ly sp st sk sd sm th mc pk kd td fm pr sz ro tu pe tr as w g hR => ?_
  rcases place_or x with ⟨p, hp', rfl⟩ | hn
  · have hk := (hR.2.2.1 p hp').1
    by_cases h0 : refu (kd p) = 0
    · obtain ⟨j, hj, hkj, hse, -, t', ht', htt, hpp, -⟩ := fam_of (hR.2.2.1 p hp') h0
      have key : ∃ r : Int32, f_X1_heftOf F (2 + 2 * p) (hp sc (cx n cl P ly sp st sk sd sm) (cm n th mc pk kd td fm pr sz ro tu pe tr as) w g) = some (r, hp sc (cx n cl P ly sp st sk sd sm) (cm n th mc pk kd td fm pr sz ro tu pe tr as) w g) ∧ f_X7_heft F 40 (nI p) (hp sc (cx n cl P ly sp st sk sd sm) (cm n th mc pk kd td fm pr sz ro tu pe tr as) w g) = some (r, hp sc (cx n cl P ly sp st sk sd sm) (cm n th mc pk kd td fm pr sz ro tu pe tr as) w g) := by
        unfold f_X1_heftOf f_X1_heftOf_0 f_X7_heft f_X7_heft_0
        rw [f_mPlace_yes F hp', Option.bind_some, if_neg (by decide), ck_40, Option.bind_some, f_lacks_eq F hp', Option.bind_some, if_pos h0, gp_se hp', Option.bind_some, hse, f_size_eq, Option.bind_some, gp_ho hp', Option.bind_some, hk, gm_fm, Option.bind_some, am_fm hp', Option.bind_some, f_many_eq hF, Option.bind_some, gm_kd, Option.bind_some, am_kd hp', Option.bind_some, hkj]
        match j, hj with
        | 0, _ => exact ⟨_, rfl, rfl⟩
        | 1, _ => exact ⟨_, rfl, rfl⟩
        | 2, _ =>
          obtain ⟨q1, q2⟩ := htt (Or.inl rfl)
          rw [if_neg (by decide), if_pos (by rfl), gp_le hp', Option.bind_some, q1, if_neg (by decide), if_pos (by rfl), gm_td, Option.bind_some, am_td hp', Option.bind_some, q2]
          exact ⟨_, rfl, rfl⟩
        | 3, _ => exact ⟨_, rfl, rfl⟩
        | 4, _ => exact ⟨_, rfl, rfl⟩
        | 5, _ =>
          obtain ⟨q1, q2⟩ := htt (Or.inr (Or.inr rfl))
          obtain ⟨q3, -⟩ := hpp rfl
          rw [if_neg (by decide), if_neg (by decide), if_neg (by decide), if_neg (by decide), if_pos (by rfl), gp_le hp', Option.bind_some, q1, gp_pa hp', Option.bind_some, q3, f_size_eq, Option.bind_some, if_neg (by decide), if_neg (by decide), if_neg (by decide), if_neg (by decide), if_pos (by rfl), gm_td, Option.bind_some, am_td hp', Option.bind_some, q2, gm_pr, Option.bind_some, am_pr hp', Option.bind_some, f_many_eq hF, Option.bind_some]
          exact ⟨_, rfl, rfl⟩
      obtain ⟨r, k1, k2⟩ := key
      refine ⟨r, cl, P, sp, st, sk, sd, sm, th, mc, pk, kd, td, fm, pr, sz, ro, tu, pe, tr, as, ?_, k2, hR⟩
      unfold f_X6_heft f_X6_heft_0
      rw [ck_0, Option.bind_some, f_famRef_eq F hp', Option.bind_some, hk, if_pos h0, gx_shelf, Option.bind_some, ax_shelf hp', Option.bind_some, k1, Option.bind_some]
    · refine ⟨refu (kd p), cl, P, sp, st, sk, sd, sm, th, mc, pk, kd, td, fm, pr, sz, ro, tu, pe, tr, as, ?_, ?_, hR⟩
      · unfold f_X6_heft f_X6_heft_0
        rw [ck_0, Option.bind_some, f_famRef_eq F hp', Option.bind_some, hk, if_neg h0]
      · unfold f_X7_heft f_X7_heft_0
        rw [f_mPlace_yes F hp', Option.bind_some, if_neg (by decide), ck_40, Option.bind_some, f_lacks_eq F hp', Option.bind_some, if_neg h0, ck_40, Option.bind_some, f_lacks_eq F hp', Option.bind_some]
  · refine ⟨-1, cl, P, sp, st, sk, sd, sm, th, mc, pk, kd, td, fm, pr, sz, ro, tu, pe, tr, as, ?_, ?_, hR⟩
    · unfold f_X6_heft f_X6_heft_0
      rw [ck_0, Option.bind_some, f_famRef_out F hn, Option.bind_some, if_neg (show ¬ (-1 : Int32) = 0 by decide)]
    · unfold f_X7_heft f_X7_heft_0
      rw [f_mPlace_no F hn, Option.bind_some, if_pos rfl]
