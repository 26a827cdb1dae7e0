theorem fb_ext {a : Int64} {p : Nat} : ∀ (k at_ : Nat) (v v' : Nat → Nat) (i : Nat), fb a p k at_ v i = some v' → ∀ j, j < at_ → v' j = v j
  | 0, at_, v, v', i, h, j, hj => by
    have h' : (if at_ = p then some v else none) = some v' := h
    by_cases e : at_ = p
    · rw [if_pos e] at h'; cases h'; rfl
    · rw [if_neg e] at h'; cases h'
  | k + 1, at_, v, v', i, h, j, hj => by
    by_cases e : at_ = p
    · subst e; rw [fb_end] at h; cases h; rfl
    · cases q : okP a v at_ i
      · rw [fb_no e k q] at h; exact fb_ext k at_ v v' (i + 1) h j hj
      · cases q2 : fb a p k (at_ + 1) (updN v at_ i) (i + 1) with
        | none => rw [fb_none e k q q2] at h; exact fb_ext k at_ v v' (i + 1) h j hj
        | some w =>
          rw [fb_some e k q q2] at h; cases h
          rw [fb_ext k (at_ + 1) _ _ (i + 1) q2 j (by omega), updN_n (by omega)]
theorem okP_0 (a : Int64) (v : Nat → Nat) (x : Nat) : okP a v 0 x = qb a x := by unfold okP; exact Bool.and_true _
theorem okP_1 (a : Int64) (v : Nat → Nat) (x : Nat) : okP a v 1 x = qb a x := by
  unfold okP
  have : alw (fun k => decide (v k &&& x = coreO v 1 x)) 0 1 = true := by
    rw [alw_iff]
    intro j _ hj
    obtain rfl : j = 0 := by omega
    exact decide_eq_true rfl
  rw [this, Bool.and_true]
section B90
variable {sc : Nat × (Nat → Int32)} {n : Nat} {cl : Int32} {P : Nat → PL} {ly : Nat → Int64} {sp st : Nat → Int32} {sk : Int32} {sd : Nat → Int32} {sm : Nat → Int64} {X M : Nat → rx_C} {w : Nat → Int64} {g : List rx_C} {th mc pk : Int32} {kd td : Nat → Int32} {fm pr : Nat → Int64} {sz : Nat → Int32} {ro : Nat → Int64} {tu pe tr : Nat → Int32} {as : Nat → Int64}
theorem f_ff32 {F : Nat × Nat} (hF : 100000 ≤ F.1) (hF2 : 100 ≤ F.2) (a : Int64) {p x : Nat} (h2 : 2 ≤ p) (hp5 : p ≤ 5) (hx : x < 64) (v : Nat → Nat) (hv : v 0 = x) (k7 : Nat → Int64 → Int32 → Int32 → Option rx_H → Option (Int32 × Option rx_H)) : ∀ k i f (st : Nat → Int32), i + k = 64 → x < i → k < f → st 0 = nI x → ∃ st' : Nat → Int32, (fb a p k 1 v i = none → f_X5_findFlower_32 F k7 f 35 a (nI p) (nI x) (nI (qn a i)) (hp sc (cx n cl P ly (sp) (st) (sk) sd sm) M w g) = k7 35 a (nI p) (nI (qn a (x + 1))) (hp sc (cx n cl P ly (sp) (st') (sk) sd sm) M w g)) ∧ ∀ v', fb a p k 1 v i = some v' → f_X5_findFlower_32 F k7 f 35 a (nI p) (nI x) (nI (qn a i)) (hp sc (cx n cl P ly (sp) (st) (sk) sd sm) M w g) = some (nI (v' 0 &&& v' 1), (hp sc (cx n cl P ly (cpN sp st' p) st' (nI p) sd sm) M w g)) ∧ ∀ k, k < p → st' k = nI (v' k) := by
  have e1 : ¬ 1 = p := by omega
  intro k
  induction k with
  | zero =>
    intro i f st hi hxi hf hst
    obtain ⟨f, rfl⟩ : ∃ g, f = g + 1 := ⟨f - 1, by omega⟩
    have hn : fb a p 0 1 v i = none := by show (if 1 = p then _ else _) = _; rw [if_neg e1]
    refine ⟨st, fun _ => ?_, fun v' h => by rw [hn] at h; cases h⟩
    rw [qn_big a (by omega), f_X5_findFlower_32, if_neg (by decide), nI_1, f_next_eq F _ (by omega), Option.bind_some]
  | succ k ih =>
    intro i f st hi hxi hf hst
    obtain ⟨f, rfl⟩ : ∃ g, f = g + 1 := ⟨f - 1, by omega⟩
    cases q : qb a i
    · rw [qn_no q, fb_no e1 k (by rw [okP_1]; exact q)]
      exact ih (i + 1) (f + 1) st (by omega) (by omega) (by omega) hst
    · have hok : okP a v 1 i = true := by rw [okP_1]; exact q
      have u0 : updN v 1 i 0 = x := by rw [updN_n (by decide)]; exact hv
      have u1 : updN v 1 i 1 = i := updN_s
      have hun : un (updN v 1 i) 2 = x ||| i := by
        show (0 ||| updN v 1 i 0) ||| updN v 1 i 1 = _
        rw [u0, u1, Nat.zero_or]
      obtain ⟨st1, s1, s2, s3⟩ := f_opens_all (sc := sc) (n := n) (cl := cl) (P := P) (ly := ly) (sp := sp) (sk := sk) (sd := sd) (sm := sm) (M := M) (w := w) (g := g) hF a (p := p) (c := x &&& i) hp5 F.2 a 2 (updN v 1 i) i (upd st 1 (nI i)) (by omega) (by omega) h2 (by omega) Nat.and_le_right (by rw [u0, u1]) (fun j hj => by
          by_cases e : j = 1
          · subst e; rw [u1]; omega
          · obtain rfl : j = 0 := by omega
            rw [u0]; exact hx) (fun j hj => by
          by_cases e : j = 1
          · subst e; rw [u1, Nat.and_assoc, Nat.and_self]
          · obtain rfl : j = 0 := by omega
            rw [u0, Nat.and_comm x i, Nat.and_assoc, Nat.and_self]) (fun _ _ _ _ => rfl) (fun j hj => by
          by_cases e : j = 1
          · subst e; rw [u1, pk_us]
          · obtain rfl : j = 0 := by omega
            rw [u0, pk_un (by decide)]; exact hst)
      rw [hun, show 63 - i = k by omega] at s1
      rw [show 63 - i = k by omega] at s3
      have st1_0 : st1 0 = nI x := by rw [s2 0 (by omega), pk_un (by decide)]; exact hst
      have stp : f_X5_findFlower_32 F k7 (f + 1) 35 a (nI p) (nI x) (nI i) (hp sc (cx n cl P ly (sp) (st) (sk) sd sm) M w g) = (if (if (fb a p k 2 (updN v 1 i) (i + 1)).isSome = true then (1 : Int32) else 0) = 0 then (f_X0_next F a (nI i + 1)).bind fun v4 => f_X5_findFlower_32 F k7 f 35 a (nI p) (nI x) v4 (hp sc (cx n cl P ly (sp) (st1) (sk) sd sm) M w g) else (f_X5_keepPetals F 35 (nI p) (hp sc (cx n cl P ly (sp) (st1) (sk) sd sm) M w g)).bind fun v5 => some (nI (x &&& i), v5)) := by
        rw [f_X5_findFlower_32, if_pos (show nI i < 64 from nI_lt (b := 64) (by omega) (by decide)), gx_st, Option.bind_some, show (1 : Int32) = nI 1 from rfl, sx_st (by omega), Option.bind_some, ck_35, Option.bind_some, nI_and hx (by omega), nI_or hx (by omega), show (2 : Int32) = nI 2 from rfl, s1, Option.bind_some, ck_35, Option.bind_some]
        rfl
      rw [qn_yes q, stp]
      cases q2 : fb a p k 2 (updN v 1 i) (i + 1) with
      | none =>
        obtain ⟨st2, t1, t2⟩ := ih (i + 1) f st1 (by omega) (by omega) (by omega) st1_0
        rw [fb_none e1 k hok q2]
        refine ⟨st2, fun h => ?_, fun v' h => ?_⟩
        · rw [if_pos (by rfl), nI_1, f_next_eq F _ (by omega), Option.bind_some]; exact t1 h
        · refine ⟨?_, (t2 v' h).2⟩
          rw [if_pos (by rfl), nI_1, f_next_eq F _ (by omega), Option.bind_some]; exact (t2 v' h).1
      | some u =>
        rw [fb_some e1 k hok q2]
        refine ⟨st1, (fun h => by cases h), fun v' h => ⟨?_, ?_⟩⟩
        · cases h
          have x0 := fb_ext _ _ _ _ _ q2 0 (by omega)
          have x1 := fb_ext _ _ _ _ _ q2 1 (by omega)
          rw [u0] at x0
          rw [u1] at x1
          rw [if_neg (show ¬ (if (some u).isSome = true then (1 : Int32) else 0) = 0 from ne10), f_keepP hF h2 hp5, Option.bind_some, x0, x1]
        · cases h; exact s3 _ q2
theorem f_ff7 {F : Nat × Nat} (hF : 100000 ≤ F.1) (hF2 : 100 ≤ F.2) (a : Int64) {p : Nat} (h2 : 2 ≤ p) (hp5 : p ≤ 5) (v : Nat → Nat) : ∀ k i f (st : Nat → Int32), i + k = 64 → k < f → ∃ st' : Nat → Int32, (fb a p k 0 v i = none → f_X5_findFlower_7 F f 35 a (nI p) (nI (qn a i)) (hp sc (cx n cl P ly (sp) (st) (sk) sd sm) M w g) = some (-2, (hp sc (cx n cl P ly (sp) (st') (sk) sd sm) M w g))) ∧ ∀ v', fb a p k 0 v i = some v' → f_X5_findFlower_7 F f 35 a (nI p) (nI (qn a i)) (hp sc (cx n cl P ly (sp) (st) (sk) sd sm) M w g) = some (nI (v' 0 &&& v' 1), (hp sc (cx n cl P ly (cpN sp st' p) st' (nI p) sd sm) M w g)) ∧ ∀ k, k < p → st' k = nI (v' k) := by
  have e1 : ¬ 0 = p := by omega
  intro k
  induction k with
  | zero =>
    intro i f st hi hf
    obtain ⟨f, rfl⟩ : ∃ g, f = g + 1 := ⟨f - 1, by omega⟩
    have hn : fb a p 0 0 v i = none := by show (if 0 = p then _ else _) = _; rw [if_neg e1]
    refine ⟨st, fun _ => ?_, fun v' h => by rw [hn] at h; cases h⟩
    rw [qn_big a (by omega), f_X5_findFlower_7, if_neg (by decide)]
  | succ k ih =>
    intro i f st hi hf
    obtain ⟨f, rfl⟩ : ∃ g, f = g + 1 := ⟨f - 1, by omega⟩
    cases q : qb a i
    · rw [qn_no q, fb_no e1 k (by rw [okP_0]; exact q)]
      exact ih (i + 1) (f + 1) st (by omega) (by omega)
    · have hok : okP a v 0 i = true := by rw [okP_0]; exact q
      have stp : f_X5_findFlower_7 F (f + 1) 35 a (nI p) (nI i) (hp sc (cx n cl P ly (sp) (st) (sk) sd sm) M w g) = f_X5_findFlower_32 F (f_X5_findFlower_7 F f) F.1 35 a (nI p) (nI i) (nI (qn a (i + 1))) (hp sc (cx n cl P ly (sp) (upd st 0 (nI i)) (sk) sd sm) M w g) := by
        rw [f_X5_findFlower_7, if_pos (show nI i < 64 from nI_lt (b := 64) (by omega) (by decide)), gx_st, Option.bind_some, show (0 : Int32) = nI 0 from rfl, sx_st (by omega), Option.bind_some, nI_1, f_next_eq F _ (by omega), Option.bind_some]
      obtain ⟨st1, s1, s2⟩ := f_ff32 (sc := sc) (n := n) (cl := cl) (P := P) (ly := ly) (sp := sp) (sk := sk) (sd := sd) (sm := sm) (M := M) (w := w) (g := g) hF hF2 a h2 hp5 (x := i) (by omega) (updN v 0 i) updN_s (f_X5_findFlower_7 F f) k (i + 1) F.1 (upd st 0 (nI i)) (by omega) (by omega) (by omega) pk_us
      rw [qn_yes q, stp]
      cases q2 : fb a p k 1 (updN v 0 i) (i + 1) with
      | none =>
        obtain ⟨st2, t1, t2⟩ := ih (i + 1) f st1 (by omega) (by omega)
        rw [fb_none e1 k hok q2, s1 q2]
        exact ⟨st2, t1, t2⟩
      | some u =>
        rw [fb_some e1 k hok q2]
        refine ⟨st1, (fun h => by cases h), fun v' h => ?_⟩
        cases h; exact s2 _ q2
end B90
theorem fb_lt (a : Int64) (p : Nat) : ∀ (k at_ : Nat) (v v' : Nat → Nat) (i : Nat), i + k ≤ 64 → (∀ j, j < at_ → v j < 64) → fb a p k at_ v i = some v' → ∀ j, j < p → v' j < 64
  | 0, at_, v, v', i, _, hv, h, j, hj => by
    have h' : (if at_ = p then some v else none) = some v' := h
    by_cases e : at_ = p
    · rw [if_pos e] at h'; cases h'; exact hv j (by omega)
    · rw [if_neg e] at h'; cases h'
  | k + 1, at_, v, v', i, hi, hv, h, j, hj => by
    by_cases e : at_ = p
    · subst e; rw [fb_end] at h; cases h; exact hv j hj
    · cases q : okP a v at_ i
      · rw [fb_no e k q] at h; exact fb_lt a p k at_ v v' (i + 1) (by omega) hv h j hj
      · cases q2 : fb a p k (at_ + 1) (updN v at_ i) (i + 1) with
        | none => rw [fb_none e k q q2] at h; exact fb_lt a p k at_ v v' (i + 1) (by omega) hv h j hj
        | some w =>
          rw [fb_some e k q q2] at h; cases h
          exact fb_lt a p k (at_ + 1) _ _ (i + 1) (by omega) (fun j' hj' => by
            by_cases e2 : j' = at_
            · subst e2; rw [updN_s]; omega
            · rw [updN_n e2]; exact hv j' (by omega)) q2 j hj
theorem st_flower {F : Nat × Nat} (hF : 100000 ≤ F.1) (hF2 : 100 ≤ F.2) {sc : Nat × (Nat → Int32)} {c : Nat} (x y : Int32) : stepI sc c (f_X6_flower F 0 x y) (f_X7_flower F 40 x y) := by
  refine stepI.mk fun n cl P ly sp st sk sd sm th mc pk kd td fm pr sz ro tu pe tr as w g hR => ?_
  have hn6 := hR.1.2
  have ha := all_le hn6
  rcases place_or x with ⟨p, hp_, rfl⟩ | hnp
  · have hkp := (hR.2.2.1 p hp_).1
    by_cases h1 : y < 2
    · refine ⟨-1, cl, P, sp, st, sk, sd, sm, th, mc, pk, kd, td, fm, pr, sz, ro, tu, pe, tr, as, ?_, ?_, hR⟩
      · simp only [f_X6_flower, f_X6_flower_0, f_X6_flower_17, Option.bind_some, ck_0, ck_40, ck_35, gx_n, gx_all, gx_shelf, gx_lay, gx_seek, gx_cl, gm_n, gm_all, gm_kd, gm_td, gm_fm, gm_pr, gm_sz, gm_rw, gm_tu, gm_pe, gm_tr, gm_as, gm_mc, gm_pk, gm_th, f_famRef_no, ne10, nm10, if_true, if_false, eq_self, ne10, f_isPlace_yes F _ hp_, f_mPlace_yes F hp_, ax_shelf hp_, f_famRef_eq F hp_, f_lacks_eq F hp_, gp_se hp_, gp_ho hp_, gp_le hp_, gp_pa hp_, am_kd hp_, am_td hp_, am_fm hp_, am_pr hp_, hkp, f_isIn_eq, h1]
      · simp only [f_X7_flower, f_X7_flower_0, Option.bind_some, ck_0, ck_40, ck_35, gx_n, gx_all, gx_shelf, gx_lay, gx_seek, gx_cl, gm_n, gm_all, gm_kd, gm_td, gm_fm, gm_pr, gm_sz, gm_rw, gm_tu, gm_pe, gm_tr, gm_as, gm_mc, gm_pk, gm_th, f_famRef_no, ne10, nm10, if_true, if_false, eq_self, ne10, f_isPlace_yes F _ hp_, f_mPlace_yes F hp_, ax_shelf hp_, f_famRef_eq F hp_, f_lacks_eq F hp_, gp_se hp_, gp_ho hp_, gp_le hp_, gp_pa hp_, am_kd hp_, am_td hp_, am_fm hp_, am_pr hp_, hkp, f_isIn_eq, h1]
    by_cases h2 : 5 < y
    · refine ⟨-1, cl, P, sp, st, sk, sd, sm, th, mc, pk, kd, td, fm, pr, sz, ro, tu, pe, tr, as, ?_, ?_, hR⟩
      · simp only [f_X6_flower, f_X6_flower_0, f_X6_flower_17, Option.bind_some, ck_0, ck_40, ck_35, gx_n, gx_all, gx_shelf, gx_lay, gx_seek, gx_cl, gm_n, gm_all, gm_kd, gm_td, gm_fm, gm_pr, gm_sz, gm_rw, gm_tu, gm_pe, gm_tr, gm_as, gm_mc, gm_pk, gm_th, f_famRef_no, ne10, nm10, if_true, if_false, eq_self, ne10, f_isPlace_yes F _ hp_, f_mPlace_yes F hp_, ax_shelf hp_, f_famRef_eq F hp_, f_lacks_eq F hp_, gp_se hp_, gp_ho hp_, gp_le hp_, gp_pa hp_, am_kd hp_, am_td hp_, am_fm hp_, am_pr hp_, hkp, f_isIn_eq, h1, h2]
      · simp only [f_X7_flower, f_X7_flower_0, Option.bind_some, ck_0, ck_40, ck_35, gx_n, gx_all, gx_shelf, gx_lay, gx_seek, gx_cl, gm_n, gm_all, gm_kd, gm_td, gm_fm, gm_pr, gm_sz, gm_rw, gm_tu, gm_pe, gm_tr, gm_as, gm_mc, gm_pk, gm_th, f_famRef_no, ne10, nm10, if_true, if_false, eq_self, ne10, f_isPlace_yes F _ hp_, f_mPlace_yes F hp_, ax_shelf hp_, f_famRef_eq F hp_, f_lacks_eq F hp_, gp_se hp_, gp_ho hp_, gp_le hp_, gp_pa hp_, am_kd hp_, am_td hp_, am_fm hp_, am_pr hp_, hkp, f_isIn_eq, h1, h2]
    by_cases h0 : refu (kd p) = 0
    · obtain ⟨jp, hjp, hkjp, hsep, hfip, tp, htp, http, hppp, hkvp⟩ := fam_of (hR.2.2.1 p hp_) h0
      obtain ⟨m, m1, m2, rfl⟩ := num_12 (a := 2) (b := 5) rfl rfl (by decide) (by decide) h1 h2
      obtain ⟨st', s1, s2⟩ := f_ff7 (sc := sc) (n := n) (cl := cl) (P := P) (ly := ly) (sp := sp) (sk := sk) (sd := sd) (sm := sm) (M := cm n th mc pk kd td fm pr sz ro tu pe tr as) (w := w) (g := g) hF hF2 (fm p) (p := m) (by omega) (by omega) (fun _ => 0) 64 0 F.1 st (by omega) (by omega)
      have ff0 : ∀ r, f_X5_findFlower_7 F F.1 35 (fm p) (nI m) (nI (qn (fm p) 0)) (hp sc (cx n cl P ly sp st sk sd sm) (cm n th mc pk kd td fm pr sz ro tu pe tr as) w g) = r → f_X5_findFlower F 35 (fm p) (nI m) (hp sc (cx n cl P ly sp st sk sd sm) (cm n th mc pk kd td fm pr sz ro tu pe tr as) w g) = r := fun r h => by
        unfold f_X5_findFlower f_X5_findFlower_0
        rw [show (0 : Int32) = nI 0 from rfl, f_next_eq F _ (by omega), Option.bind_some]; exact h
      have hff : fb (fm p) m 64 0 (fun _ => 0) 0 = fb (fm p) m (2 ^ n) 0 (fun _ => 0) 0 := by
        have := fb_fit hfip (p := m) (2 ^ n) (64 - 2 ^ n) 0 (fun _ => 0) 0 (by omega)
        rw [show 2 ^ n + (64 - 2 ^ n) = 64 by omega] at this
        exact this
      have bl := fun X : Nat → rx_C => f_blooms_all (sc := sc) (n := n) (X := X) (w := w) (g := g) (th := th) (mc := mc) (pk := pk) (kd := kd) (td := td) (fm := fm) (pr := pr) (sz := sz) (ro := ro) (tu := tu) (pe := pe) (as := as) hF hn6 (fm p) (p := m) (by omega) F.2 0 (fun _ => 0) 0 tr (by omega) (by omega) (Nat.zero_le _) (fun j hj => by omega) (fun j hj => by omega)
      rw [Nat.sub_zero, ← hff] at bl
      cases hfb : fb (fm p) m 64 0 (fun _ => 0) 0 with
      | none =>
        have c1 := ff0 _ (s1 hfb)
        obtain ⟨tr', t1, t2, t3⟩ := bl (cx n cl P ly sp st' sk sd sm)
        have t1' : f_X7_blooms F F.2 40 (fm p) 0 0 (nI m) (hp sc (cx n cl P ly sp st' sk sd sm) (cm n th mc pk kd td fm pr sz ro tu pe tr as) w g) = some (0, hp sc (cx n cl P ly sp st' sk sd sm) (cm n th mc pk kd td fm pr sz ro tu pe tr' as) w g) := by
          rw [hfb] at t1; exact t1
        refine ⟨-2, cl, P, sp, st', sk, sd, sm, th, mc, pk, kd, td, fm, pr, sz, ro, tu, pe, tr', as, ?_, ?_, hR⟩
        · simp only [f_X6_flower, f_X6_flower_0, f_X6_flower_17, Option.bind_some, ck_0, ck_40, ck_35, gx_n, gx_all, gx_shelf, gx_lay, gx_seek, gx_cl, gm_n, gm_all, gm_kd, gm_td, gm_fm, gm_pr, gm_sz, gm_rw, gm_tu, gm_pe, gm_tr, gm_as, gm_mc, gm_pk, gm_th, f_famRef_no, ne10, nm10, if_true, if_false, eq_self, ne10, f_isPlace_yes F _ hp_, f_mPlace_yes F hp_, ax_shelf hp_, f_famRef_eq F hp_, f_lacks_eq F hp_, gp_se hp_, gp_ho hp_, gp_le hp_, gp_pa hp_, am_kd hp_, am_td hp_, am_fm hp_, am_pr hp_, hkp, f_isIn_eq, h1, h2, h0, hsep, c1]
        · simp only [f_X7_flower, f_X7_flower_0, Option.bind_some, ck_0, ck_40, ck_35, gx_n, gx_all, gx_shelf, gx_lay, gx_seek, gx_cl, gm_n, gm_all, gm_kd, gm_td, gm_fm, gm_pr, gm_sz, gm_rw, gm_tu, gm_pe, gm_tr, gm_as, gm_mc, gm_pk, gm_th, f_famRef_no, ne10, nm10, if_true, if_false, eq_self, ne10, f_isPlace_yes F _ hp_, f_mPlace_yes F hp_, ax_shelf hp_, f_famRef_eq F hp_, f_lacks_eq F hp_, gp_se hp_, gp_ho hp_, gp_le hp_, gp_pa hp_, am_kd hp_, am_td hp_, am_fm hp_, am_pr hp_, hkp, f_isIn_eq, h1, h2, h0, hsep, t1']
      | some v' =>
        obtain ⟨c0, c4⟩ := s2 v' hfb
        have c1 := ff0 _ c0
        obtain ⟨tr', t1, t2, t3⟩ := bl (cx n cl P ly (cpN sp st' m) st' (nI m) sd sm)
        have t1' : f_X7_blooms F F.2 40 (fm p) 0 0 (nI m) (hp sc (cx n cl P ly (cpN sp st' m) st' (nI m) sd sm) (cm n th mc pk kd td fm pr sz ro tu pe tr as) w g) = some (1, hp sc (cx n cl P ly (cpN sp st' m) st' (nI m) sd sm) (cm n th mc pk kd td fm pr sz ro tu pe tr' as) w g) := by
          rw [hfb] at t1; exact t1
        have t4 := t3 v' hfb
        have v64 : ∀ k, k < m → v' k < 64 := fb_lt (fm p) m 64 0 _ v' 0 (by omega) (fun j hj => by omega) hfb
        have ans : tr' 0 &&& tr' 1 = nI (v' 0 &&& v' 1) := by rw [t4 0 (by omega), t4 1 (by omega), nI_and (v64 0 (by omega)) (v64 1 (by omega))]
        refine ⟨nI (v' 0 &&& v' 1), cl, P, cpN sp st' m, st', nI m, sd, sm, th, mc, nI m, kd, td, fm, pr, sz, ro, tu, cpN pe tr' m, tr', as, ?_, ?_, hR.1, hR.2.1, hR.2.2.1, hR.2.2.2.1, ⟨m, by omega, rfl, rfl, fun i hi => ?_⟩, hR.2.2.2.2.2⟩
        · simp only [f_X6_flower, f_X6_flower_0, f_X6_flower_17, Option.bind_some, ck_0, ck_40, ck_35, gx_n, gx_all, gx_shelf, gx_lay, gx_seek, gx_cl, gm_n, gm_all, gm_kd, gm_td, gm_fm, gm_pr, gm_sz, gm_rw, gm_tu, gm_pe, gm_tr, gm_as, gm_mc, gm_pk, gm_th, f_famRef_no, ne10, nm10, if_true, if_false, eq_self, ne10, f_isPlace_yes F _ hp_, f_mPlace_yes F hp_, ax_shelf hp_, f_famRef_eq F hp_, f_lacks_eq F hp_, gp_se hp_, gp_ho hp_, gp_le hp_, gp_pa hp_, am_kd hp_, am_td hp_, am_fm hp_, am_pr hp_, hkp, f_isIn_eq, h1, h2, h0, hsep, c1]
        · simp only [f_X7_flower, f_X7_flower_0, Option.bind_some, ck_0, ck_40, ck_35, gx_n, gx_all, gx_shelf, gx_lay, gx_seek, gx_cl, gm_n, gm_all, gm_kd, gm_td, gm_fm, gm_pr, gm_sz, gm_rw, gm_tu, gm_pe, gm_tr, gm_as, gm_mc, gm_pk, gm_th, f_famRef_no, ne10, nm10, if_true, if_false, eq_self, ne10, f_isPlace_yes F _ hp_, f_mPlace_yes F hp_, ax_shelf hp_, f_famRef_eq F hp_, f_lacks_eq F hp_, gp_se hp_, gp_ho hp_, gp_le hp_, gp_pa hp_, am_kd hp_, am_td hp_, am_fm hp_, am_pr hp_, hkp, f_isIn_eq, h1, h2, h0, hsep, t1', pm_pk, f_mkeep hF m1 m2, ans]
        · rw [cpN_is _ _ hi, cpN_is _ _ hi, c4 i hi, t4 i hi]
    · refine ⟨refu (kd p), cl, P, sp, st, sk, sd, sm, th, mc, pk, kd, td, fm, pr, sz, ro, tu, pe, tr, as, ?_, ?_, hR⟩
      · simp only [f_X6_flower, f_X6_flower_0, f_X6_flower_17, Option.bind_some, ck_0, ck_40, ck_35, gx_n, gx_all, gx_shelf, gx_lay, gx_seek, gx_cl, gm_n, gm_all, gm_kd, gm_td, gm_fm, gm_pr, gm_sz, gm_rw, gm_tu, gm_pe, gm_tr, gm_as, gm_mc, gm_pk, gm_th, f_famRef_no, ne10, nm10, if_true, if_false, eq_self, ne10, f_isPlace_yes F _ hp_, f_mPlace_yes F hp_, ax_shelf hp_, f_famRef_eq F hp_, f_lacks_eq F hp_, gp_se hp_, gp_ho hp_, gp_le hp_, gp_pa hp_, am_kd hp_, am_td hp_, am_fm hp_, am_pr hp_, hkp, f_isIn_eq, h1, h2, h0]
      · simp only [f_X7_flower, f_X7_flower_0, Option.bind_some, ck_0, ck_40, ck_35, gx_n, gx_all, gx_shelf, gx_lay, gx_seek, gx_cl, gm_n, gm_all, gm_kd, gm_td, gm_fm, gm_pr, gm_sz, gm_rw, gm_tu, gm_pe, gm_tr, gm_as, gm_mc, gm_pk, gm_th, f_famRef_no, ne10, nm10, if_true, if_false, eq_self, ne10, f_isPlace_yes F _ hp_, f_mPlace_yes F hp_, ax_shelf hp_, f_famRef_eq F hp_, f_lacks_eq F hp_, gp_se hp_, gp_ho hp_, gp_le hp_, gp_pa hp_, am_kd hp_, am_td hp_, am_fm hp_, am_pr hp_, hkp, f_isIn_eq, h1, h2, h0]
  · by_cases h1 : y < 2
    · refine ⟨-1, cl, P, sp, st, sk, sd, sm, th, mc, pk, kd, td, fm, pr, sz, ro, tu, pe, tr, as, ?_, ?_, hR⟩
      · simp only [f_X6_flower, f_X6_flower_0, f_X6_flower_17, Option.bind_some, ck_0, ck_40, ck_35, gx_n, gx_all, gx_shelf, gx_lay, gx_seek, gx_cl, gm_n, gm_all, gm_kd, gm_td, gm_fm, gm_pr, gm_sz, gm_rw, gm_tu, gm_pe, gm_tr, gm_as, gm_mc, gm_pk, gm_th, f_famRef_no, ne10, nm10, if_true, if_false, eq_self, ne10, f_isPlace_no F _ hnp, f_mPlace_no F hnp, f_famRef_out F hnp, f_rowRef_out F hnp, f_isIn_eq, h1]
      · simp only [f_X7_flower, f_X7_flower_0, Option.bind_some, ck_0, ck_40, ck_35, gx_n, gx_all, gx_shelf, gx_lay, gx_seek, gx_cl, gm_n, gm_all, gm_kd, gm_td, gm_fm, gm_pr, gm_sz, gm_rw, gm_tu, gm_pe, gm_tr, gm_as, gm_mc, gm_pk, gm_th, f_famRef_no, ne10, nm10, if_true, if_false, eq_self, ne10, f_isPlace_no F _ hnp, f_mPlace_no F hnp, f_famRef_out F hnp, f_rowRef_out F hnp, f_isIn_eq, h1]
    by_cases h2 : 5 < y
    · refine ⟨-1, cl, P, sp, st, sk, sd, sm, th, mc, pk, kd, td, fm, pr, sz, ro, tu, pe, tr, as, ?_, ?_, hR⟩
      · simp only [f_X6_flower, f_X6_flower_0, f_X6_flower_17, Option.bind_some, ck_0, ck_40, ck_35, gx_n, gx_all, gx_shelf, gx_lay, gx_seek, gx_cl, gm_n, gm_all, gm_kd, gm_td, gm_fm, gm_pr, gm_sz, gm_rw, gm_tu, gm_pe, gm_tr, gm_as, gm_mc, gm_pk, gm_th, f_famRef_no, ne10, nm10, if_true, if_false, eq_self, ne10, f_isPlace_no F _ hnp, f_mPlace_no F hnp, f_famRef_out F hnp, f_rowRef_out F hnp, f_isIn_eq, h1, h2]
      · simp only [f_X7_flower, f_X7_flower_0, Option.bind_some, ck_0, ck_40, ck_35, gx_n, gx_all, gx_shelf, gx_lay, gx_seek, gx_cl, gm_n, gm_all, gm_kd, gm_td, gm_fm, gm_pr, gm_sz, gm_rw, gm_tu, gm_pe, gm_tr, gm_as, gm_mc, gm_pk, gm_th, f_famRef_no, ne10, nm10, if_true, if_false, eq_self, ne10, f_isPlace_no F _ hnp, f_mPlace_no F hnp, f_famRef_out F hnp, f_rowRef_out F hnp, f_isIn_eq, h1, h2]
    refine ⟨-1, cl, P, sp, st, sk, sd, sm, th, mc, pk, kd, td, fm, pr, sz, ro, tu, pe, tr, as, ?_, ?_, hR⟩
    · simp only [f_X6_flower, f_X6_flower_0, f_X6_flower_17, Option.bind_some, ck_0, ck_40, ck_35, gx_n, gx_all, gx_shelf, gx_lay, gx_seek, gx_cl, gm_n, gm_all, gm_kd, gm_td, gm_fm, gm_pr, gm_sz, gm_rw, gm_tu, gm_pe, gm_tr, gm_as, gm_mc, gm_pk, gm_th, f_famRef_no, ne10, nm10, if_true, if_false, eq_self, ne10, f_isPlace_no F _ hnp, f_mPlace_no F hnp, f_famRef_out F hnp, f_rowRef_out F hnp, f_isIn_eq, h1, h2]
    · simp only [f_X7_flower, f_X7_flower_0, Option.bind_some, ck_0, ck_40, ck_35, gx_n, gx_all, gx_shelf, gx_lay, gx_seek, gx_cl, gm_n, gm_all, gm_kd, gm_td, gm_fm, gm_pr, gm_sz, gm_rw, gm_tu, gm_pe, gm_tr, gm_as, gm_mc, gm_pk, gm_th, f_famRef_no, ne10, nm10, if_true, if_false, eq_self, ne10, f_isPlace_no F _ hnp, f_mPlace_no F hnp, f_famRef_out F hnp, f_rowRef_out F hnp, f_isIn_eq, h1, h2]
