/-! ===== The calls, one by one ===== -/
theorem stepI.mk {sc : Nat × (Nat → Int32)} {c : Nat} {fx fy : Option rx_H → Option (Int32 × Option rx_H)}
    (h : ∀ (n : Nat) (cl : Int32) (P : Nat → PL) (ly : Nat → Int64) (sp st : Nat → Int32) (sk : Int32) (sd : Nat → Int32) (sm : Nat → Int64) (th mc pk : Int32) (kd td : Nat → Int32) (fm pr : Nat → Int64) (sz : Nat → Int32) (ro : Nat → Int64) (tu pe tr : Nat → Int32) (as : Nat → Int64) (w : Nat → Int64) (g : List rx_C),
      relR n cl P ly sp sk sm mc pk kd td fm pr sz ro pe →
      ∃ (r : Int32) (cl' : Int32) (P' : Nat → PL) (sp' st' : Nat → Int32) (sk' : Int32) (sd' : Nat → Int32) (sm' : Nat → Int64) (th' mc' pk' : Int32) (kd' td' : Nat → Int32) (fm' pr' : Nat → Int64) (sz' : Nat → Int32) (ro' : Nat → Int64) (tu' pe' tr' : Nat → Int32) (as' : Nat → Int64),
        fx (hp sc (cx n cl P ly sp st sk sd sm) (cm n th mc pk kd td fm pr sz ro tu pe tr as) w g) = some (r, hp sc (cx n cl' P' ly sp' st' sk' sd' sm') (cm n th mc pk kd td fm pr sz ro tu pe tr as) w g) ∧
        fy (hp sc (cx n cl' P' ly sp' st' sk' sd' sm') (cm n th mc pk kd td fm pr sz ro tu pe tr as) w g) = some (r, hp sc (cx n cl' P' ly sp' st' sk' sd' sm') (cm n th' mc' pk' kd' td' fm' pr' sz' ro' tu' pe' tr' as') w g) ∧
        relR n cl' P' ly sp' sk' sm' mc' pk' kd' td' fm' pr' sz' ro' pe') : stepI sc c fx fy := by
  rintro u ⟨n, cl, P, ly, sp, st, sk, sd, sm, th, mc, pk, kd, td, fm, pr, sz, ro, tu, pe, tr, as, w, g, rfl, hR, hg, hx⟩
  obtain ⟨r, cl', P', sp', st', sk', sd', sm', th', mc', pk', kd', td', fm', pr', sz', ro', tu', pe', tr', as', e1, e2, e3⟩ := h n cl P ly sp st sk sd sm th mc pk kd td fm pr sz ro tu pe tr as w g hR
  exact ⟨r, _, _, w, g, _, e1, ck_40, e2, n, cl', P', ly, sp', st', sk', sd', sm', th', mc', pk', kd', td', fm', pr', sz', ro', tu', pe', tr', as', w, g, rfl, e3, by omega, hx⟩
theorem st_clash (F : Nat × Nat) {sc : Nat × (Nat → Int32)} {c : Nat} : stepI sc c (f_X6_clash F 0) (f_X7_clash F 40) := by
  refine stepI.mk fun n cl P ly sp st sk sd sm th mc pk kd td fm pr sz ro tu pe tr as w g hR => ?_
  refine ⟨cl, cl, P, sp, st, sk, sd, sm, th, mc, pk, kd, td, fm, pr, sz, ro, tu, pe, tr, as, ?_, ?_, hR⟩
  · unfold f_X6_clash f_X6_clash_0
    rw [gx_cl, Option.bind_some]
  · unfold f_X7_clash f_X7_clash_0
    rw [gm_mc, Option.bind_some, hR.2.1]
theorem st_holds (F : Nat × Nat) {sc : Nat × (Nat → Int32)} {c : Nat} (x : Int32) : stepI sc c (f_X6_holds F 0 x) (f_X7_holds F 40 x) := by
  refine stepI.mk fun n cl P ly sp st sk sd sm th mc pk kd td fm pr sz ro tu pe tr as w g hR => ?_
  rcases place_or x with ⟨p, hp, rfl⟩ | hn
  · refine ⟨(P p).1, cl, P, sp, st, sk, sd, sm, th, mc, pk, kd, td, fm, pr, sz, ro, tu, pe, tr, as, ?_, ?_, hR⟩
    · unfold f_X6_holds f_X6_holds_0
      rw [ck_0, Option.bind_some, f_isPlace_yes F 0 hp, Option.bind_some, if_neg (by decide), gx_shelf, Option.bind_some, ax_shelf hp, Option.bind_some, gp_ho hp, Option.bind_some]
    · unfold f_X7_holds f_X7_holds_0
      rw [f_mPlace_yes F hp, Option.bind_some, if_neg (by decide), gm_kd, Option.bind_some, am_kd hp, Option.bind_some, (hR.2.2.1 p hp).1]
  · refine ⟨-1, cl, P, sp, st, sk, sd, sm, th, mc, pk, kd, td, fm, pr, sz, ro, tu, pe, tr, as, ?_, ?_, hR⟩
    · unfold f_X6_holds f_X6_holds_0
      rw [ck_0, Option.bind_some, f_isPlace_no F 0 hn, Option.bind_some, if_pos rfl]
    · unfold f_X7_holds f_X7_holds_0
      rw [f_mPlace_no F hn, Option.bind_some, if_pos rfl]
