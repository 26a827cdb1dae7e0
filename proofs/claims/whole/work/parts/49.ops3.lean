theorem refu_0 {k : Int32} (h : refu k = 0) : ¬ k = -2 ∧ k < 6 := by
  unfold refu at h
  by_cases e : k = -2
  · rw [if_pos e] at h; exact absurd h (by decide)
  · refine ⟨e, ?_⟩
    rw [if_neg e] at h
    by_cases q : k < 6
    · exact q
    · rw [if_neg q] at h; exact absurd h (by decide)
theorem fam_of {n : Nat} {q : PL} {k t : Int32} {f r : Int64} {m : Int32} {row : Nat → Int64} (h : plR n q k t f r m row) (h0 : refu k = 0) : famR n q k t f r := by
  obtain ⟨h1, h2⟩ := refu_0 h0
  rcases h.2 with e | e | ⟨j, hj, rfl, -⟩
  · exact absurd e h1
  · exact e
  · exfalso
    rcases hj with rfl | rfl | rfl <;> revert h2 <;> decide
theorem f_isIn_eq (F : Nat × Nat) (x a b : Int32) : f_X7_isIn F x a b = some (if x < a then 0 else if b < x then 0 else 1) := by
  unfold f_X7_isIn f_X7_isIn_0
  by_cases h : x < a
  · rw [if_pos h, if_pos h]
  · rw [if_neg h, if_neg h]
    by_cases h2 : b < x
    · rw [if_pos h2, if_pos h2]
    · rw [if_neg h2, if_neg h2]
theorem updL_twice (f : Nat → Int64) (p : Nat) (a b : Int64) : vp_updL (vp_updL f p a) p b = vp_updL f p b := by
  funext k
  by_cases e : k = p
  · subst e; rw [pk_uLs, pk_uLs]
  · rw [pk_uLn e, pk_uLn e, pk_uLn e]
section B49
variable {sc : Nat × (Nat → Int32)} {n : Nat} {cl : Int32} {P : Nat → PL} {ly : Nat → Int64} {sp st : Nat → Int32} {sk : Int32} {sd : Nat → Int32} {sm : Nat → Int64} {X M : Nat → rx_C} {w : Nat → Int64} {g : List rx_C} {th mc pk : Int32} {kd td : Nat → Int32} {fm pr : Nat → Int64} {sz : Nat → Int32} {ro : Nat → Int64} {tu pe tr : Nat → Int32} {as : Nat → Int64}
theorem f_cross27_no (F : Nat × Nat) (x y t : Int32) : f_X6_cross_27 F 0 x y t 0 y 0 (hp sc (cx n cl P ly sp st sk sd sm) M w g) = some (-1, hp sc (cx n cl P ly sp st sk sd sm) M w g) := by
  unfold f_X6_cross_27
  rw [ck_0, Option.bind_some, f_famRef_no, Option.bind_some, if_neg (show ¬ (-1 : Int32) = 0 by decide)]
theorem f_cross27_out (F : Nat × Nat) (x t : Int32) {y : Int32} (h : ∀ p, p < 16 → ¬ y = nI p) : f_X6_cross_27 F 0 x y t 0 y 1 (hp sc (cx n cl P ly sp st sk sd sm) M w g) = some (-1, hp sc (cx n cl P ly sp st sk sd sm) M w g) := by
  unfold f_X6_cross_27
  rw [ck_0, Option.bind_some, f_famRef_out F h, Option.bind_some, if_neg (show ¬ (-1 : Int32) = 0 by decide)]
theorem f_cross27_ref (F : Nat × Nat) (x t : Int32) {o : Nat} (h : o < 16) (h0 : ¬ refu (P o).1 = 0) : f_X6_cross_27 F 0 x (nI o) t 0 (nI o) 1 (hp sc (cx n cl P ly sp st sk sd sm) M w g) = some (refu (P o).1, hp sc (cx n cl P ly sp st sk sd sm) M w g) := by
  unfold f_X6_cross_27
  rw [ck_0, Option.bind_some, f_famRef_eq F h, Option.bind_some, if_neg h0]
theorem f_cross27_yes (F : Nat × Nat) (t : Int32) {p o : Nat} (hp' : p < 16) (h : o < 16) (h0 : refu (P o).1 = 0) : f_X6_cross_27 F 0 (nI p) (nI o) t 0 (nI o) 1 (hp sc (cx n cl P ly sp st sk sd sm) M w g) = some (0, hp sc (cx n cl (updP P p (5, t, 0, (P o).2.2.1, (P p).2.2.2.2)) ly sp st sk sd sm) M w g) := by
  unfold f_X6_cross_27
  rw [ck_0, Option.bind_some, f_famRef_eq F h, Option.bind_some, if_pos h0, gx_shelf, Option.bind_some, ax_shelf hp', Option.bind_some, Option.bind_some, ax_shelf h, Option.bind_some, gp_se h, Option.bind_some, ck_P hp', Option.bind_some, f_becomeFamily_eq F hp', Option.bind_some]
end B49
theorem st_cross {F : Nat × Nat} (hF : 100 ≤ F.1) {sc : Nat × (Nat → Int32)} {c : Nat} (x y t : Int32) : stepI sc c (f_X6_cross F 0 x y t) (f_X7_cross F 40 x y t) := by
  refine stepI.mk fun n cl P ly sp st sk sd sm th mc pk kd td fm pr sz ro tu pe tr as w g hR => ?_
  rcases place_or x with ⟨p, hp', rfl⟩ | hn
  case inr =>
    refine ⟨-1, cl, P, sp, st, sk, sd, sm, th, mc, pk, kd, td, fm, pr, sz, ro, tu, pe, tr, as, ?_, ?_, hR⟩
    · unfold f_X6_cross f_X6_cross_0
      rw [ck_0, Option.bind_some, f_isPlace_no F 0 hn, Option.bind_some, if_pos rfl, f_cross27_no]
    · unfold f_X7_cross f_X7_cross_0
      rw [f_mPlace_no F hn, Option.bind_some, if_pos rfl]
  by_cases ht : t < 0 ∨ nI n < t
  · have e1 : f_X6_cross F 0 (nI p) y t (hp sc (cx n cl P ly sp st sk sd sm) (cm n th mc pk kd td fm pr sz ro tu pe tr as) w g) = some (-1, hp sc (cx n cl P ly sp st sk sd sm) (cm n th mc pk kd td fm pr sz ro tu pe tr as) w g) := by
      unfold f_X6_cross f_X6_cross_0
      rw [ck_0, Option.bind_some, f_isPlace_yes F 0 hp', Option.bind_some, if_neg (by decide)]
      by_cases q : t < 0
      · rw [if_pos q, f_cross27_no]
      · rw [if_neg q, gx_n, Option.bind_some, if_pos (ht.resolve_left q), f_cross27_no]
    refine ⟨-1, cl, P, sp, st, sk, sd, sm, th, mc, pk, kd, td, fm, pr, sz, ro, tu, pe, tr, as, e1, ?_, hR⟩
    unfold f_X7_cross f_X7_cross_0
    rw [f_mPlace_yes F hp', Option.bind_some, if_neg (by decide)]
    rcases place_or y with ⟨o, ho, rfl⟩ | hn
    · rw [f_mPlace_yes F ho, Option.bind_some, if_neg (by decide), gm_n, Option.bind_some, f_isIn_eq, Option.bind_some]
      by_cases q : t < 0
      · rw [if_pos q]; rfl
      · rw [if_neg q, if_pos (ht.resolve_left q)]; rfl
    · rw [f_mPlace_no F hn, Option.bind_some, if_pos rfl]
  have ht1 : ¬ t < 0 := fun q => ht (Or.inl q)
  have ht2 : ¬ nI n < t := fun q => ht (Or.inr q)
  have e1 : f_X6_cross F 0 (nI p) y t (hp sc (cx n cl P ly sp st sk sd sm) (cm n th mc pk kd td fm pr sz ro tu pe tr as) w g) = f_X6_cross_27 F 0 (nI p) y t 0 y 1 (hp sc (cx n cl P ly sp st sk sd sm) (cm n th mc pk kd td fm pr sz ro tu pe tr as) w g) := by
    unfold f_X6_cross f_X6_cross_0
    rw [ck_0, Option.bind_some, f_isPlace_yes F 0 hp', Option.bind_some, if_neg (by decide), if_neg ht1, gx_n, Option.bind_some, if_neg ht2]
  rcases place_or y with ⟨o, ho, rfl⟩ | hn
  case inr =>
    refine ⟨-1, cl, P, sp, st, sk, sd, sm, th, mc, pk, kd, td, fm, pr, sz, ro, tu, pe, tr, as, ?_, ?_, hR⟩
    · rw [e1, f_cross27_out F _ _ hn]
    · unfold f_X7_cross f_X7_cross_0
      rw [f_mPlace_yes F hp', Option.bind_some, if_neg (by decide), f_mPlace_no F hn, Option.bind_some, if_pos rfl]
  have hko := (hR.2.2.1 o ho).1
  by_cases h0 : refu (kd o) = 0
  · obtain ⟨j, hj, -, hs, hfo, -⟩ := fam_of (hR.2.2.1 o ho) h0
    obtain ⟨t', ht', rfl⟩ := num_in hR.1.2 ht1 ht2
    refine ⟨0, cl, updP P p (5, nI t', 0, fm o, (P p).2.2.2.2), sp, st, sk, sd, sm, th, mc, pk, upd kd p 5, upd td p (nI t'), vp_updL fm p 0, vp_updL pr p (fm o), sz, ro, tu, pe, tr, as, ?_, ?_, hR.1, hR.2.1, plR_upd hR.2.2.1 ⟨rfl, Or.inr (Or.inl ⟨5, by decide, rfl, rfl, fits_0 _, t', ht', fun _ => ⟨rfl, rfl⟩, fun _ => ⟨rfl, hfo⟩, kinv_0 _ _ _⟩)⟩, hR.2.2.2⟩
    · rw [e1, f_cross27_yes F _ hp' ho (by rw [hko]; exact h0), hs]
    · unfold f_X7_cross f_X7_cross_0
      rw [f_mPlace_yes F hp', Option.bind_some, if_neg (by decide), f_mPlace_yes F ho, Option.bind_some, if_neg (by decide), gm_n, Option.bind_some, f_isIn_eq, Option.bind_some, if_neg ht1, if_neg ht2, if_neg (by decide), ck_40, Option.bind_some, f_lacks_eq F ho, Option.bind_some, if_pos h0, gm_fm, Option.bind_some, am_fm ho, Option.bind_some, ck_40, Option.bind_some, f_holdsNow_eq hF hp', Option.bind_some, gm_pr, Option.bind_some, sm_pr hp', Option.bind_some]
      rw [updL_twice]
  · refine ⟨refu (kd o), cl, P, sp, st, sk, sd, sm, th, mc, pk, kd, td, fm, pr, sz, ro, tu, pe, tr, as, ?_, ?_, hR⟩
    · rw [e1, f_cross27_ref F _ _ ho (by rw [hko]; exact h0), hko]
    · unfold f_X7_cross f_X7_cross_0
      rw [f_mPlace_yes F hp', Option.bind_some, if_neg (by decide), f_mPlace_yes F ho, Option.bind_some, if_neg (by decide), gm_n, Option.bind_some, f_isIn_eq, Option.bind_some, if_neg ht1, if_neg ht2, if_neg (by decide), ck_40, Option.bind_some, f_lacks_eq F ho, Option.bind_some, if_neg h0, ck_40, Option.bind_some, f_lacks_eq F ho, Option.bind_some]
