set_option maxRecDepth 100000 in
theorem tk_L_law_p0 : t_L_law_p0.all (rx_eok "SetHouseLaw" code 8 false true) = true := by decide +kernel
set_option maxRecDepth 100000 in
theorem tk_L_law_p1 : t_L_law_p1.all (rx_eok "SetHouseLaw" code 8 false true) = true := by decide +kernel
set_option maxRecDepth 100000 in
theorem tk_L_law_p2 : t_L_law_p2.all (rx_eok "SetHouseLaw" code 8 false true) = true := by decide +kernel
set_option maxRecDepth 100000 in
theorem tk_L_law_p3 : t_L_law_p3.all (rx_eok "SetHouseLaw" code 8 false true) = true := by decide +kernel
set_option maxRecDepth 100000 in
theorem tk_L_law_p4 : t_L_law_p4.all (rx_eok "SetHouseLaw" code 8 false true) = true := by decide +kernel
set_option maxRecDepth 100000 in
theorem tk_L_law_p5 : t_L_law_p5.all (rx_eok "SetHouseLaw" code 8 false true) = true := by decide +kernel
set_option maxRecDepth 100000 in
theorem tk_L_law_p6 : t_L_law_p6.all (rx_eok "SetHouseLaw" code 8 false true) = true := by decide +kernel
set_option maxRecDepth 100000 in
theorem tk_L_law_p7 : t_L_law_p7.all (rx_eok "SetHouseLaw" code 8 false true) = true := by decide +kernel
set_option maxRecDepth 100000 in
theorem tk_L_law_p8 : t_L_law_p8.all (rx_eok "SetHouseLaw" code 8 false true) = true := by decide +kernel
set_option maxRecDepth 100000 in
theorem tk_L_law_p9 : t_L_law_p9.all (rx_eok "SetHouseLaw" code 8 false true) = true := by decide +kernel
set_option maxRecDepth 100000 in
theorem tk_L_law_p10 : t_L_law_p10.all (rx_eok "SetHouseLaw" code 8 false true) = true := by decide +kernel
set_option maxRecDepth 100000 in
theorem tk_L_law_p11 : t_L_law_p11.all (rx_eok "SetHouseLaw" code 8 false true) = true := by decide +kernel
set_option maxRecDepth 100000 in
theorem tk_L_law_p12 : t_L_law_p12.all (rx_eok "SetHouseLaw" code 8 false true) = true := by decide +kernel
set_option maxRecDepth 100000 in
theorem tk_L_law_p13 : t_L_law_p13.all (rx_eok "SetHouseLaw" code 8 false true) = true := by decide +kernel
set_option maxRecDepth 100000 in
theorem tk_L_law_p14 : t_L_law_p14.all (rx_eok "SetHouseLaw" code 8 false true) = true := by decide +kernel
set_option maxRecDepth 100000 in
theorem tk_L_law_adj : rx_adj t_L_law = true := by decide +kernel
theorem tk_L_law : (t_L_law.all (rx_eok "SetHouseLaw" code 8 false true) && rx_adj t_L_law) = true := by
  rw [tk_L_law_adj]
  unfold t_L_law
  simp only [List.all_append, tk_L_law_p0, tk_L_law_p1, tk_L_law_p2, tk_L_law_p3, tk_L_law_p4, tk_L_law_p5, tk_L_law_p6, tk_L_law_p7, tk_L_law_p8, tk_L_law_p9, tk_L_law_p10, tk_L_law_p11, tk_L_law_p12, tk_L_law_p13, tk_L_law_p14, Bool.and_self]
theorem s_L_law_252 {F : Nat × Nat} {l : Launch} {G : rx_G} {D : Nat} {hf : rx_H} {z : (Int32 × Option rx_H)} (hC : rx_CC l G D (C_L_law F) z) {k33 : Nat → Nat → Nat → Nat → Int32 → Option rx_H → Option (Int32 × Option rx_H)} (hk33 : ∀ (x0 : Nat) (x1 : Nat) (x2 : Nat) (x3 : Nat) (x4 : Int32) (u : Option rx_H), k33 x0 x1 x2 x3 x4 u = some z → rx_S l G ("SetHouseLaw", code, 8, false, true, D) hf (z.2.getD hf) rx_hI z 33 [some (.ref x0), some (.ref x1), some (.ref x2), some (.ref x3), some (.int x4), none, none, none] [] u) (x0 : Nat) (x1 : Nat) (x2 : Nat) (x3 : Nat) (x4 : Int32) (u : Option rx_H) (h : f_L_law_252 F k33 x0 x1 x2 x3 x4 u = some z) : rx_S l G ("SetHouseLaw", code, 8, false, true, D) hf (z.2.getD hf) rx_hI z 252 [some (.ref x0), some (.ref x1), some (.ref x2), some (.ref x3), some (.int x4), none, none, none] [] u := by
  rw [g_L_law_252] at h
  refine rx_S_node (md := ("SetHouseLaw", code, 8, false, true, D)) tk_L_law hC rx_m_hI (fun t ls st u h => ?_) h
  unfold kk_L_law_252 at h
  rcases rx_rec_eq h with ⟨hb, h⟩ | ⟨hb, h⟩
  · have ht := Nat.eq_of_beq_eq_true hb
    subst ht
    unfold n_L_law_33 at h
    split at h
    · exact (hk33 _ _ _ _ _ _ h).le ⟨Or.inr rfl, Or.inr rfl, Or.inr rfl, Or.inr rfl, Or.inr rfl, Or.inl rfl, Or.inl rfl, Or.inl rfl, trivial⟩
    · cases h
  cases h
theorem s_L_law_301 {F : Nat × Nat} {l : Launch} {G : rx_G} {D : Nat} {hf : rx_H} {z : (Int32 × Option rx_H)} (hC : rx_CC l G D (C_L_law F) z) {k33 : Nat → Nat → Nat → Nat → Int32 → Option rx_H → Option (Int32 × Option rx_H)} (hk33 : ∀ (x0 : Nat) (x1 : Nat) (x2 : Nat) (x3 : Nat) (x4 : Int32) (u : Option rx_H), k33 x0 x1 x2 x3 x4 u = some z → rx_S l G ("SetHouseLaw", code, 8, false, true, D) hf (z.2.getD hf) rx_hI z 33 [some (.ref x0), some (.ref x1), some (.ref x2), some (.ref x3), some (.int x4), none, none, none] [] u) (x0 : Nat) (x1 : Nat) (x2 : Nat) (x3 : Nat) (x4 : Int32) (u : Option rx_H) (h : f_L_law_301 F k33 x0 x1 x2 x3 x4 u = some z) : rx_S l G ("SetHouseLaw", code, 8, false, true, D) hf (z.2.getD hf) rx_hI z 301 [some (.ref x0), some (.ref x1), some (.ref x2), some (.ref x3), some (.int x4), none, none, none] [] u := by
  rw [g_L_law_301] at h
  refine rx_S_node (md := ("SetHouseLaw", code, 8, false, true, D)) tk_L_law hC rx_m_hI (fun t ls st u h => ?_) h
  unfold kk_L_law_301 at h
  rcases rx_rec_eq h with ⟨hb, h⟩ | ⟨hb, h⟩
  · have ht := Nat.eq_of_beq_eq_true hb
    subst ht
    unfold n_L_law_33 at h
    split at h
    · exact (hk33 _ _ _ _ _ _ h).le ⟨Or.inr rfl, Or.inr rfl, Or.inr rfl, Or.inr rfl, Or.inr rfl, Or.inl rfl, Or.inl rfl, Or.inl rfl, trivial⟩
    · cases h
  cases h
theorem s_L_law_350 {F : Nat × Nat} {l : Launch} {G : rx_G} {D : Nat} {hf : rx_H} {z : (Int32 × Option rx_H)} (hC : rx_CC l G D (C_L_law F) z) {k33 : Nat → Nat → Nat → Nat → Int32 → Option rx_H → Option (Int32 × Option rx_H)} (hk33 : ∀ (x0 : Nat) (x1 : Nat) (x2 : Nat) (x3 : Nat) (x4 : Int32) (u : Option rx_H), k33 x0 x1 x2 x3 x4 u = some z → rx_S l G ("SetHouseLaw", code, 8, false, true, D) hf (z.2.getD hf) rx_hI z 33 [some (.ref x0), some (.ref x1), some (.ref x2), some (.ref x3), some (.int x4), none, none, none] [] u) (x0 : Nat) (x1 : Nat) (x2 : Nat) (x3 : Nat) (x4 : Int32) (u : Option rx_H) (h : f_L_law_350 F k33 x0 x1 x2 x3 x4 u = some z) : rx_S l G ("SetHouseLaw", code, 8, false, true, D) hf (z.2.getD hf) rx_hI z 350 [some (.ref x0), some (.ref x1), some (.ref x2), some (.ref x3), some (.int x4), none, none, none] [] u := by
  rw [g_L_law_350] at h
  refine rx_S_node (md := ("SetHouseLaw", code, 8, false, true, D)) tk_L_law hC rx_m_hI (fun t ls st u h => ?_) h
  unfold kk_L_law_350 at h
  rcases rx_rec_eq h with ⟨hb, h⟩ | ⟨hb, h⟩
  · have ht := Nat.eq_of_beq_eq_true hb
    subst ht
    unfold n_L_law_33 at h
    split at h
    · exact (hk33 _ _ _ _ _ _ h).le ⟨Or.inr rfl, Or.inr rfl, Or.inr rfl, Or.inr rfl, Or.inr rfl, Or.inl rfl, Or.inl rfl, Or.inl rfl, trivial⟩
    · cases h
  cases h
theorem s_L_law_387 {F : Nat × Nat} {l : Launch} {G : rx_G} {D : Nat} {hf : rx_H} {z : (Int32 × Option rx_H)} (hC : rx_CC l G D (C_L_law F) z) {k33 : Nat → Nat → Nat → Nat → Int32 → Option rx_H → Option (Int32 × Option rx_H)} (hk33 : ∀ (x0 : Nat) (x1 : Nat) (x2 : Nat) (x3 : Nat) (x4 : Int32) (u : Option rx_H), k33 x0 x1 x2 x3 x4 u = some z → rx_S l G ("SetHouseLaw", code, 8, false, true, D) hf (z.2.getD hf) rx_hI z 33 [some (.ref x0), some (.ref x1), some (.ref x2), some (.ref x3), some (.int x4), none, none, none] [] u) (x0 : Nat) (x1 : Nat) (x2 : Nat) (x3 : Nat) (x4 : Int32) (u : Option rx_H) (h : f_L_law_387 F k33 x0 x1 x2 x3 x4 u = some z) : rx_S l G ("SetHouseLaw", code, 8, false, true, D) hf (z.2.getD hf) rx_hI z 387 [some (.ref x0), some (.ref x1), some (.ref x2), some (.ref x3), some (.int x4), none, none, none] [] u := by
  rw [g_L_law_387] at h
  refine rx_S_node (md := ("SetHouseLaw", code, 8, false, true, D)) tk_L_law hC rx_m_hI (fun t ls st u h => ?_) h
  unfold kk_L_law_387 at h
  rcases rx_rec_eq h with ⟨hb, h⟩ | ⟨hb, h⟩
  · have ht := Nat.eq_of_beq_eq_true hb
    subst ht
    unfold n_L_law_33 at h
    split at h
    · exact (hk33 _ _ _ _ _ _ h).le ⟨Or.inr rfl, Or.inr rfl, Or.inr rfl, Or.inr rfl, Or.inr rfl, Or.inl rfl, Or.inl rfl, Or.inl rfl, trivial⟩
    · cases h
  cases h
theorem s_L_law_424 {F : Nat × Nat} {l : Launch} {G : rx_G} {D : Nat} {hf : rx_H} {z : (Int32 × Option rx_H)} (hC : rx_CC l G D (C_L_law F) z) {k33 : Nat → Nat → Nat → Nat → Int32 → Option rx_H → Option (Int32 × Option rx_H)} (hk33 : ∀ (x0 : Nat) (x1 : Nat) (x2 : Nat) (x3 : Nat) (x4 : Int32) (u : Option rx_H), k33 x0 x1 x2 x3 x4 u = some z → rx_S l G ("SetHouseLaw", code, 8, false, true, D) hf (z.2.getD hf) rx_hI z 33 [some (.ref x0), some (.ref x1), some (.ref x2), some (.ref x3), some (.int x4), none, none, none] [] u) (x0 : Nat) (x1 : Nat) (x2 : Nat) (x3 : Nat) (x4 : Int32) (u : Option rx_H) (h : f_L_law_424 F k33 x0 x1 x2 x3 x4 u = some z) : rx_S l G ("SetHouseLaw", code, 8, false, true, D) hf (z.2.getD hf) rx_hI z 424 [some (.ref x0), some (.ref x1), some (.ref x2), some (.ref x3), some (.int x4), none, none, none] [] u := by
  rw [g_L_law_424] at h
  refine rx_S_node (md := ("SetHouseLaw", code, 8, false, true, D)) tk_L_law hC rx_m_hI (fun t ls st u h => ?_) h
  unfold kk_L_law_424 at h
  rcases rx_rec_eq h with ⟨hb, h⟩ | ⟨hb, h⟩
  · have ht := Nat.eq_of_beq_eq_true hb
    subst ht
    unfold n_L_law_33 at h
    split at h
    · exact (hk33 _ _ _ _ _ _ h).le ⟨Or.inr rfl, Or.inr rfl, Or.inr rfl, Or.inr rfl, Or.inr rfl, Or.inl rfl, Or.inl rfl, Or.inl rfl, trivial⟩
    · cases h
  cases h
theorem s_L_law_437 {F : Nat × Nat} {l : Launch} {G : rx_G} {D : Nat} {hf : rx_H} {z : (Int32 × Option rx_H)} (hC : rx_CC l G D (C_L_law F) z) {k33 : Nat → Nat → Nat → Nat → Int32 → Option rx_H → Option (Int32 × Option rx_H)} (hk33 : ∀ (x0 : Nat) (x1 : Nat) (x2 : Nat) (x3 : Nat) (x4 : Int32) (u : Option rx_H), k33 x0 x1 x2 x3 x4 u = some z → rx_S l G ("SetHouseLaw", code, 8, false, true, D) hf (z.2.getD hf) rx_hI z 33 [some (.ref x0), some (.ref x1), some (.ref x2), some (.ref x3), some (.int x4), none, none, none] [] u) (x0 : Nat) (x1 : Nat) (x2 : Nat) (x3 : Nat) (x4 : Int32) (u : Option rx_H) (h : f_L_law_437 F k33 x0 x1 x2 x3 x4 u = some z) : rx_S l G ("SetHouseLaw", code, 8, false, true, D) hf (z.2.getD hf) rx_hI z 437 [some (.ref x0), some (.ref x1), some (.ref x2), some (.ref x3), some (.int x4), none, none, none] [] u := by
  rw [g_L_law_437] at h
  refine rx_S_node (md := ("SetHouseLaw", code, 8, false, true, D)) tk_L_law hC rx_m_hI (fun t ls st u h => ?_) h
  unfold kk_L_law_437 at h
  rcases rx_rec_eq h with ⟨hb, h⟩ | ⟨hb, h⟩
  · have ht := Nat.eq_of_beq_eq_true hb
    subst ht
    unfold n_L_law_33 at h
    split at h
    · exact (hk33 _ _ _ _ _ _ h).le ⟨Or.inr rfl, Or.inr rfl, Or.inr rfl, Or.inr rfl, Or.inr rfl, Or.inl rfl, Or.inl rfl, Or.inl rfl, trivial⟩
    · cases h
  cases h
theorem s_L_law_462 {F : Nat × Nat} {l : Launch} {G : rx_G} {D : Nat} {hf : rx_H} {z : (Int32 × Option rx_H)} (hC : rx_CC l G D (C_L_law F) z) {k33 : Nat → Nat → Nat → Nat → Int32 → Option rx_H → Option (Int32 × Option rx_H)} (hk33 : ∀ (x0 : Nat) (x1 : Nat) (x2 : Nat) (x3 : Nat) (x4 : Int32) (u : Option rx_H), k33 x0 x1 x2 x3 x4 u = some z → rx_S l G ("SetHouseLaw", code, 8, false, true, D) hf (z.2.getD hf) rx_hI z 33 [some (.ref x0), some (.ref x1), some (.ref x2), some (.ref x3), some (.int x4), none, none, none] [] u) (x0 : Nat) (x1 : Nat) (x2 : Nat) (x3 : Nat) (x4 : Int32) (u : Option rx_H) (h : f_L_law_462 F k33 x0 x1 x2 x3 x4 u = some z) : rx_S l G ("SetHouseLaw", code, 8, false, true, D) hf (z.2.getD hf) rx_hI z 462 [some (.ref x0), some (.ref x1), some (.ref x2), some (.ref x3), some (.int x4), none, none, none] [] u := by
  rw [g_L_law_462] at h
  refine rx_S_node (md := ("SetHouseLaw", code, 8, false, true, D)) tk_L_law hC rx_m_hI (fun t ls st u h => ?_) h
  unfold kk_L_law_462 at h
  rcases rx_rec_eq h with ⟨hb, h⟩ | ⟨hb, h⟩
  · have ht := Nat.eq_of_beq_eq_true hb
    subst ht
    unfold n_L_law_33 at h
    split at h
    · exact (hk33 _ _ _ _ _ _ h).le ⟨Or.inr rfl, Or.inr rfl, Or.inr rfl, Or.inr rfl, Or.inr rfl, Or.inl rfl, Or.inl rfl, Or.inl rfl, trivial⟩
    · cases h
  cases h
theorem s_L_law_487 {F : Nat × Nat} {l : Launch} {G : rx_G} {D : Nat} {hf : rx_H} {z : (Int32 × Option rx_H)} (hC : rx_CC l G D (C_L_law F) z) {k33 : Nat → Nat → Nat → Nat → Int32 → Option rx_H → Option (Int32 × Option rx_H)} (hk33 : ∀ (x0 : Nat) (x1 : Nat) (x2 : Nat) (x3 : Nat) (x4 : Int32) (u : Option rx_H), k33 x0 x1 x2 x3 x4 u = some z → rx_S l G ("SetHouseLaw", code, 8, false, true, D) hf (z.2.getD hf) rx_hI z 33 [some (.ref x0), some (.ref x1), some (.ref x2), some (.ref x3), some (.int x4), none, none, none] [] u) (x0 : Nat) (x1 : Nat) (x2 : Nat) (x3 : Nat) (x4 : Int32) (u : Option rx_H) (h : f_L_law_487 F k33 x0 x1 x2 x3 x4 u = some z) : rx_S l G ("SetHouseLaw", code, 8, false, true, D) hf (z.2.getD hf) rx_hI z 487 [some (.ref x0), some (.ref x1), some (.ref x2), some (.ref x3), some (.int x4), none, none, none] [] u := by
  rw [g_L_law_487] at h
  refine rx_S_node (md := ("SetHouseLaw", code, 8, false, true, D)) tk_L_law hC rx_m_hI (fun t ls st u h => ?_) h
  unfold kk_L_law_487 at h
  rcases rx_rec_eq h with ⟨hb, h⟩ | ⟨hb, h⟩
  · have ht := Nat.eq_of_beq_eq_true hb
    subst ht
    unfold n_L_law_33 at h
    split at h
    · exact (hk33 _ _ _ _ _ _ h).le ⟨Or.inr rfl, Or.inr rfl, Or.inr rfl, Or.inr rfl, Or.inr rfl, Or.inl rfl, Or.inl rfl, Or.inl rfl, trivial⟩
    · cases h
  cases h
theorem s_L_law_524 {F : Nat × Nat} {l : Launch} {G : rx_G} {D : Nat} {hf : rx_H} {z : (Int32 × Option rx_H)} (hC : rx_CC l G D (C_L_law F) z) {k33 : Nat → Nat → Nat → Nat → Int32 → Option rx_H → Option (Int32 × Option rx_H)} (hk33 : ∀ (x0 : Nat) (x1 : Nat) (x2 : Nat) (x3 : Nat) (x4 : Int32) (u : Option rx_H), k33 x0 x1 x2 x3 x4 u = some z → rx_S l G ("SetHouseLaw", code, 8, false, true, D) hf (z.2.getD hf) rx_hI z 33 [some (.ref x0), some (.ref x1), some (.ref x2), some (.ref x3), some (.int x4), none, none, none] [] u) (x0 : Nat) (x1 : Nat) (x2 : Nat) (x3 : Nat) (x4 : Int32) (u : Option rx_H) (h : f_L_law_524 F k33 x0 x1 x2 x3 x4 u = some z) : rx_S l G ("SetHouseLaw", code, 8, false, true, D) hf (z.2.getD hf) rx_hI z 524 [some (.ref x0), some (.ref x1), some (.ref x2), some (.ref x3), some (.int x4), none, none, none] [] u := by
  rw [g_L_law_524] at h
  refine rx_S_node (md := ("SetHouseLaw", code, 8, false, true, D)) tk_L_law hC rx_m_hI (fun t ls st u h => ?_) h
  unfold kk_L_law_524 at h
  rcases rx_rec_eq h with ⟨hb, h⟩ | ⟨hb, h⟩
  · have ht := Nat.eq_of_beq_eq_true hb
    subst ht
    unfold n_L_law_33 at h
    split at h
    · exact (hk33 _ _ _ _ _ _ h).le ⟨Or.inr rfl, Or.inr rfl, Or.inr rfl, Or.inr rfl, Or.inr rfl, Or.inl rfl, Or.inl rfl, Or.inl rfl, trivial⟩
    · cases h
  cases h
theorem s_L_law_561 {F : Nat × Nat} {l : Launch} {G : rx_G} {D : Nat} {hf : rx_H} {z : (Int32 × Option rx_H)} (hC : rx_CC l G D (C_L_law F) z) {k33 : Nat → Nat → Nat → Nat → Int32 → Option rx_H → Option (Int32 × Option rx_H)} (hk33 : ∀ (x0 : Nat) (x1 : Nat) (x2 : Nat) (x3 : Nat) (x4 : Int32) (u : Option rx_H), k33 x0 x1 x2 x3 x4 u = some z → rx_S l G ("SetHouseLaw", code, 8, false, true, D) hf (z.2.getD hf) rx_hI z 33 [some (.ref x0), some (.ref x1), some (.ref x2), some (.ref x3), some (.int x4), none, none, none] [] u) (x0 : Nat) (x1 : Nat) (x2 : Nat) (x3 : Nat) (x4 : Int32) (u : Option rx_H) (h : f_L_law_561 F k33 x0 x1 x2 x3 x4 u = some z) : rx_S l G ("SetHouseLaw", code, 8, false, true, D) hf (z.2.getD hf) rx_hI z 561 [some (.ref x0), some (.ref x1), some (.ref x2), some (.ref x3), some (.int x4), none, none, none] [] u := by
  rw [g_L_law_561] at h
  refine rx_S_node (md := ("SetHouseLaw", code, 8, false, true, D)) tk_L_law hC rx_m_hI (fun t ls st u h => ?_) h
  unfold kk_L_law_561 at h
  rcases rx_rec_eq h with ⟨hb, h⟩ | ⟨hb, h⟩
  · have ht := Nat.eq_of_beq_eq_true hb
    subst ht
    unfold n_L_law_33 at h
    split at h
    · exact (hk33 _ _ _ _ _ _ h).le ⟨Or.inr rfl, Or.inr rfl, Or.inr rfl, Or.inr rfl, Or.inr rfl, Or.inl rfl, Or.inl rfl, Or.inl rfl, trivial⟩
    · cases h
  cases h
theorem s_L_law_598 {F : Nat × Nat} {l : Launch} {G : rx_G} {D : Nat} {hf : rx_H} {z : (Int32 × Option rx_H)} (hC : rx_CC l G D (C_L_law F) z) {k33 : Nat → Nat → Nat → Nat → Int32 → Option rx_H → Option (Int32 × Option rx_H)} (hk33 : ∀ (x0 : Nat) (x1 : Nat) (x2 : Nat) (x3 : Nat) (x4 : Int32) (u : Option rx_H), k33 x0 x1 x2 x3 x4 u = some z → rx_S l G ("SetHouseLaw", code, 8, false, true, D) hf (z.2.getD hf) rx_hI z 33 [some (.ref x0), some (.ref x1), some (.ref x2), some (.ref x3), some (.int x4), none, none, none] [] u) (x0 : Nat) (x1 : Nat) (x2 : Nat) (x3 : Nat) (x4 : Int32) (u : Option rx_H) (h : f_L_law_598 F k33 x0 x1 x2 x3 x4 u = some z) : rx_S l G ("SetHouseLaw", code, 8, false, true, D) hf (z.2.getD hf) rx_hI z 598 [some (.ref x0), some (.ref x1), some (.ref x2), some (.ref x3), some (.int x4), none, none, none] [] u := by
  rw [g_L_law_598] at h
  refine rx_S_node (md := ("SetHouseLaw", code, 8, false, true, D)) tk_L_law hC rx_m_hI (fun t ls st u h => ?_) h
  unfold kk_L_law_598 at h
  rcases rx_rec_eq h with ⟨hb, h⟩ | ⟨hb, h⟩
  · have ht := Nat.eq_of_beq_eq_true hb
    subst ht
    unfold n_L_law_33 at h
    split at h
    · exact (hk33 _ _ _ _ _ _ h).le ⟨Or.inr rfl, Or.inr rfl, Or.inr rfl, Or.inr rfl, Or.inr rfl, Or.inl rfl, Or.inl rfl, Or.inl rfl, trivial⟩
    · cases h
  cases h
theorem s_L_law_647 {F : Nat × Nat} {l : Launch} {G : rx_G} {D : Nat} {hf : rx_H} {z : (Int32 × Option rx_H)} (hC : rx_CC l G D (C_L_law F) z) {k33 : Nat → Nat → Nat → Nat → Int32 → Option rx_H → Option (Int32 × Option rx_H)} (hk33 : ∀ (x0 : Nat) (x1 : Nat) (x2 : Nat) (x3 : Nat) (x4 : Int32) (u : Option rx_H), k33 x0 x1 x2 x3 x4 u = some z → rx_S l G ("SetHouseLaw", code, 8, false, true, D) hf (z.2.getD hf) rx_hI z 33 [some (.ref x0), some (.ref x1), some (.ref x2), some (.ref x3), some (.int x4), none, none, none] [] u) (x0 : Nat) (x1 : Nat) (x2 : Nat) (x3 : Nat) (x4 : Int32) (u : Option rx_H) (h : f_L_law_647 F k33 x0 x1 x2 x3 x4 u = some z) : rx_S l G ("SetHouseLaw", code, 8, false, true, D) hf (z.2.getD hf) rx_hI z 647 [some (.ref x0), some (.ref x1), some (.ref x2), some (.ref x3), some (.int x4), none, none, none] [] u := by
  rw [g_L_law_647] at h
  refine rx_S_node (md := ("SetHouseLaw", code, 8, false, true, D)) tk_L_law hC rx_m_hI (fun t ls st u h => ?_) h
  unfold kk_L_law_647 at h
  rcases rx_rec_eq h with ⟨hb, h⟩ | ⟨hb, h⟩
  · have ht := Nat.eq_of_beq_eq_true hb
    subst ht
    unfold n_L_law_33 at h
    split at h
    · exact (hk33 _ _ _ _ _ _ h).le ⟨Or.inr rfl, Or.inr rfl, Or.inr rfl, Or.inr rfl, Or.inr rfl, Or.inl rfl, Or.inl rfl, Or.inl rfl, trivial⟩
    · cases h
  cases h
theorem s_L_law_684 {F : Nat × Nat} {l : Launch} {G : rx_G} {D : Nat} {hf : rx_H} {z : (Int32 × Option rx_H)} (hC : rx_CC l G D (C_L_law F) z) {k33 : Nat → Nat → Nat → Nat → Int32 → Option rx_H → Option (Int32 × Option rx_H)} (hk33 : ∀ (x0 : Nat) (x1 : Nat) (x2 : Nat) (x3 : Nat) (x4 : Int32) (u : Option rx_H), k33 x0 x1 x2 x3 x4 u = some z → rx_S l G ("SetHouseLaw", code, 8, false, true, D) hf (z.2.getD hf) rx_hI z 33 [some (.ref x0), some (.ref x1), some (.ref x2), some (.ref x3), some (.int x4), none, none, none] [] u) (x0 : Nat) (x1 : Nat) (x2 : Nat) (x3 : Nat) (x4 : Int32) (u : Option rx_H) (h : f_L_law_684 F k33 x0 x1 x2 x3 x4 u = some z) : rx_S l G ("SetHouseLaw", code, 8, false, true, D) hf (z.2.getD hf) rx_hI z 684 [some (.ref x0), some (.ref x1), some (.ref x2), some (.ref x3), some (.int x4), none, none, none] [] u := by
  rw [g_L_law_684] at h
  refine rx_S_node (md := ("SetHouseLaw", code, 8, false, true, D)) tk_L_law hC rx_m_hI (fun t ls st u h => ?_) h
  unfold kk_L_law_684 at h
  rcases rx_rec_eq h with ⟨hb, h⟩ | ⟨hb, h⟩
  · have ht := Nat.eq_of_beq_eq_true hb
    subst ht
    unfold n_L_law_33 at h
    split at h
    · exact (hk33 _ _ _ _ _ _ h).le ⟨Or.inr rfl, Or.inr rfl, Or.inr rfl, Or.inr rfl, Or.inr rfl, Or.inl rfl, Or.inl rfl, Or.inl rfl, trivial⟩
    · cases h
  cases h
theorem s_L_law_772 {F : Nat × Nat} {l : Launch} {G : rx_G} {D : Nat} {hf : rx_H} {z : (Int32 × Option rx_H)} (hC : rx_CC l G D (C_L_law F) z) {k33 : Nat → Nat → Nat → Nat → Int32 → Option rx_H → Option (Int32 × Option rx_H)} (hk33 : ∀ (x0 : Nat) (x1 : Nat) (x2 : Nat) (x3 : Nat) (x4 : Int32) (u : Option rx_H), k33 x0 x1 x2 x3 x4 u = some z → rx_S l G ("SetHouseLaw", code, 8, false, true, D) hf (z.2.getD hf) rx_hI z 33 [some (.ref x0), some (.ref x1), some (.ref x2), some (.ref x3), some (.int x4), none, none, none] [] u) (x0 : Nat) (x1 : Nat) (x2 : Nat) (x3 : Nat) (x4 : Int32) (s0 : Int32) (s1 : Nat) (s2 : Int32) (s3 : Int32) (u : Option rx_H) (h : f_L_law_772 F k33 x0 x1 x2 x3 x4 s0 s1 s2 s3 u = some z) : rx_S l G ("SetHouseLaw", code, 8, false, true, D) hf (z.2.getD hf) rx_hI z 772 [some (.ref x0), some (.ref x1), some (.ref x2), some (.ref x3), some (.int x4), none, none, none] [.int s3, .int s2, .ref s1, .int s0] u := by
  rw [g_L_law_772] at h
  refine rx_S_node (md := ("SetHouseLaw", code, 8, false, true, D)) tk_L_law hC rx_m_hI (fun t ls st u h => ?_) h
  unfold kk_L_law_772 at h
  rcases rx_rec_eq h with ⟨hb, h⟩ | ⟨hb, h⟩
  · have ht := Nat.eq_of_beq_eq_true hb
    subst ht
    unfold n_L_law_33 at h
    split at h
    · exact (hk33 _ _ _ _ _ _ h).le ⟨Or.inr rfl, Or.inr rfl, Or.inr rfl, Or.inr rfl, Or.inr rfl, Or.inl rfl, Or.inl rfl, Or.inl rfl, trivial⟩
    · cases h
  cases h
theorem s_L_law_742 {F : Nat × Nat} {l : Launch} {G : rx_G} {D : Nat} {hf : rx_H} {z : (Int32 × Option rx_H)} (hC : rx_CC l G D (C_L_law F) z) {k33 : Nat → Nat → Nat → Nat → Int32 → Option rx_H → Option (Int32 × Option rx_H)} (hk33 : ∀ (x0 : Nat) (x1 : Nat) (x2 : Nat) (x3 : Nat) (x4 : Int32) (u : Option rx_H), k33 x0 x1 x2 x3 x4 u = some z → rx_S l G ("SetHouseLaw", code, 8, false, true, D) hf (z.2.getD hf) rx_hI z 33 [some (.ref x0), some (.ref x1), some (.ref x2), some (.ref x3), some (.int x4), none, none, none] [] u) (x0 : Nat) (x1 : Nat) (x2 : Nat) (x3 : Nat) (x4 : Int32) (s0 : Nat) (s1 : Int32) (s2 : Int32) (u : Option rx_H) (h : f_L_law_742 F k33 x0 x1 x2 x3 x4 s0 s1 s2 u = some z) : rx_S l G ("SetHouseLaw", code, 8, false, true, D) hf (z.2.getD hf) rx_hI z 742 [some (.ref x0), some (.ref x1), some (.ref x2), some (.ref x3), some (.int x4), none, none, none] [.int s2, .int s1, .ref s0] u := by
  rw [g_L_law_742] at h
  refine rx_S_node (md := ("SetHouseLaw", code, 8, false, true, D)) tk_L_law hC rx_m_hI (fun t ls st u h => ?_) h
  unfold kk_L_law_742 at h
  rcases rx_rec_eq h with ⟨hb, h⟩ | ⟨hb, h⟩
  · have ht := Nat.eq_of_beq_eq_true hb
    subst ht
    unfold n_L_law_772 at h
    split at h
    · exact (s_L_law_772 hC hk33 _ _ _ _ _ _ _ _ _ _ h).le ⟨Or.inr rfl, Or.inr rfl, Or.inr rfl, Or.inr rfl, Or.inr rfl, Or.inl rfl, Or.inl rfl, Or.inl rfl, trivial⟩
    · cases h
  cases h
theorem s_L_law_721 {F : Nat × Nat} {l : Launch} {G : rx_G} {D : Nat} {hf : rx_H} {z : (Int32 × Option rx_H)} (hC : rx_CC l G D (C_L_law F) z) {k33 : Nat → Nat → Nat → Nat → Int32 → Option rx_H → Option (Int32 × Option rx_H)} (hk33 : ∀ (x0 : Nat) (x1 : Nat) (x2 : Nat) (x3 : Nat) (x4 : Int32) (u : Option rx_H), k33 x0 x1 x2 x3 x4 u = some z → rx_S l G ("SetHouseLaw", code, 8, false, true, D) hf (z.2.getD hf) rx_hI z 33 [some (.ref x0), some (.ref x1), some (.ref x2), some (.ref x3), some (.int x4), none, none, none] [] u) (x0 : Nat) (x1 : Nat) (x2 : Nat) (x3 : Nat) (x4 : Int32) (u : Option rx_H) (h : f_L_law_721 F k33 x0 x1 x2 x3 x4 u = some z) : rx_S l G ("SetHouseLaw", code, 8, false, true, D) hf (z.2.getD hf) rx_hI z 721 [some (.ref x0), some (.ref x1), some (.ref x2), some (.ref x3), some (.int x4), none, none, none] [] u := by
  rw [g_L_law_721] at h
  refine rx_S_node (md := ("SetHouseLaw", code, 8, false, true, D)) tk_L_law hC rx_m_hI (fun t ls st u h => ?_) h
  unfold kk_L_law_721 at h
  rcases rx_rec_eq h with ⟨hb, h⟩ | ⟨hb, h⟩
  · have ht := Nat.eq_of_beq_eq_true hb
    subst ht
    unfold n_L_law_742 at h
    split at h
    · exact (s_L_law_742 hC hk33 _ _ _ _ _ _ _ _ _ h).le ⟨Or.inr rfl, Or.inr rfl, Or.inr rfl, Or.inr rfl, Or.inr rfl, Or.inl rfl, Or.inl rfl, Or.inl rfl, trivial⟩
    · cases h
  cases h
theorem s_L_law_837 {F : Nat × Nat} {l : Launch} {G : rx_G} {D : Nat} {hf : rx_H} {z : (Int32 × Option rx_H)} (hC : rx_CC l G D (C_L_law F) z) {k33 : Nat → Nat → Nat → Nat → Int32 → Option rx_H → Option (Int32 × Option rx_H)} (hk33 : ∀ (x0 : Nat) (x1 : Nat) (x2 : Nat) (x3 : Nat) (x4 : Int32) (u : Option rx_H), k33 x0 x1 x2 x3 x4 u = some z → rx_S l G ("SetHouseLaw", code, 8, false, true, D) hf (z.2.getD hf) rx_hI z 33 [some (.ref x0), some (.ref x1), some (.ref x2), some (.ref x3), some (.int x4), none, none, none] [] u) (x0 : Nat) (x1 : Nat) (x2 : Nat) (x3 : Nat) (x4 : Int32) (s0 : Int32) (s1 : Nat) (s2 : Int32) (s3 : Int32) (u : Option rx_H) (h : f_L_law_837 F k33 x0 x1 x2 x3 x4 s0 s1 s2 s3 u = some z) : rx_S l G ("SetHouseLaw", code, 8, false, true, D) hf (z.2.getD hf) rx_hI z 837 [some (.ref x0), some (.ref x1), some (.ref x2), some (.ref x3), some (.int x4), none, none, none] [.int s3, .int s2, .ref s1, .int s0] u := by
  rw [g_L_law_837] at h
  refine rx_S_node (md := ("SetHouseLaw", code, 8, false, true, D)) tk_L_law hC rx_m_hI (fun t ls st u h => ?_) h
  unfold kk_L_law_837 at h
  rcases rx_rec_eq h with ⟨hb, h⟩ | ⟨hb, h⟩
  · have ht := Nat.eq_of_beq_eq_true hb
    subst ht
    unfold n_L_law_33 at h
    split at h
    · exact (hk33 _ _ _ _ _ _ h).le ⟨Or.inr rfl, Or.inr rfl, Or.inr rfl, Or.inr rfl, Or.inr rfl, Or.inl rfl, Or.inl rfl, Or.inl rfl, trivial⟩
    · cases h
  cases h
theorem s_L_law_807 {F : Nat × Nat} {l : Launch} {G : rx_G} {D : Nat} {hf : rx_H} {z : (Int32 × Option rx_H)} (hC : rx_CC l G D (C_L_law F) z) {k33 : Nat → Nat → Nat → Nat → Int32 → Option rx_H → Option (Int32 × Option rx_H)} (hk33 : ∀ (x0 : Nat) (x1 : Nat) (x2 : Nat) (x3 : Nat) (x4 : Int32) (u : Option rx_H), k33 x0 x1 x2 x3 x4 u = some z → rx_S l G ("SetHouseLaw", code, 8, false, true, D) hf (z.2.getD hf) rx_hI z 33 [some (.ref x0), some (.ref x1), some (.ref x2), some (.ref x3), some (.int x4), none, none, none] [] u) (x0 : Nat) (x1 : Nat) (x2 : Nat) (x3 : Nat) (x4 : Int32) (s0 : Nat) (s1 : Int32) (s2 : Int32) (u : Option rx_H) (h : f_L_law_807 F k33 x0 x1 x2 x3 x4 s0 s1 s2 u = some z) : rx_S l G ("SetHouseLaw", code, 8, false, true, D) hf (z.2.getD hf) rx_hI z 807 [some (.ref x0), some (.ref x1), some (.ref x2), some (.ref x3), some (.int x4), none, none, none] [.int s2, .int s1, .ref s0] u := by
  rw [g_L_law_807] at h
  refine rx_S_node (md := ("SetHouseLaw", code, 8, false, true, D)) tk_L_law hC rx_m_hI (fun t ls st u h => ?_) h
  unfold kk_L_law_807 at h
  rcases rx_rec_eq h with ⟨hb, h⟩ | ⟨hb, h⟩
  · have ht := Nat.eq_of_beq_eq_true hb
    subst ht
    unfold n_L_law_837 at h
    split at h
    · exact (s_L_law_837 hC hk33 _ _ _ _ _ _ _ _ _ _ h).le ⟨Or.inr rfl, Or.inr rfl, Or.inr rfl, Or.inr rfl, Or.inr rfl, Or.inl rfl, Or.inl rfl, Or.inl rfl, trivial⟩
    · cases h
  cases h
theorem s_L_law_786 {F : Nat × Nat} {l : Launch} {G : rx_G} {D : Nat} {hf : rx_H} {z : (Int32 × Option rx_H)} (hC : rx_CC l G D (C_L_law F) z) {k33 : Nat → Nat → Nat → Nat → Int32 → Option rx_H → Option (Int32 × Option rx_H)} (hk33 : ∀ (x0 : Nat) (x1 : Nat) (x2 : Nat) (x3 : Nat) (x4 : Int32) (u : Option rx_H), k33 x0 x1 x2 x3 x4 u = some z → rx_S l G ("SetHouseLaw", code, 8, false, true, D) hf (z.2.getD hf) rx_hI z 33 [some (.ref x0), some (.ref x1), some (.ref x2), some (.ref x3), some (.int x4), none, none, none] [] u) (x0 : Nat) (x1 : Nat) (x2 : Nat) (x3 : Nat) (x4 : Int32) (u : Option rx_H) (h : f_L_law_786 F k33 x0 x1 x2 x3 x4 u = some z) : rx_S l G ("SetHouseLaw", code, 8, false, true, D) hf (z.2.getD hf) rx_hI z 786 [some (.ref x0), some (.ref x1), some (.ref x2), some (.ref x3), some (.int x4), none, none, none] [] u := by
  rw [g_L_law_786] at h
  refine rx_S_node (md := ("SetHouseLaw", code, 8, false, true, D)) tk_L_law hC rx_m_hI (fun t ls st u h => ?_) h
  unfold kk_L_law_786 at h
  rcases rx_rec_eq h with ⟨hb, h⟩ | ⟨hb, h⟩
  · have ht := Nat.eq_of_beq_eq_true hb
    subst ht
    unfold n_L_law_807 at h
    split at h
    · exact (s_L_law_807 hC hk33 _ _ _ _ _ _ _ _ _ h).le ⟨Or.inr rfl, Or.inr rfl, Or.inr rfl, Or.inr rfl, Or.inr rfl, Or.inl rfl, Or.inl rfl, Or.inl rfl, trivial⟩
    · cases h
  cases h
theorem s_L_law_851 {F : Nat × Nat} {l : Launch} {G : rx_G} {D : Nat} {hf : rx_H} {z : (Int32 × Option rx_H)} (hC : rx_CC l G D (C_L_law F) z) {k33 : Nat → Nat → Nat → Nat → Int32 → Option rx_H → Option (Int32 × Option rx_H)} (hk33 : ∀ (x0 : Nat) (x1 : Nat) (x2 : Nat) (x3 : Nat) (x4 : Int32) (u : Option rx_H), k33 x0 x1 x2 x3 x4 u = some z → rx_S l G ("SetHouseLaw", code, 8, false, true, D) hf (z.2.getD hf) rx_hI z 33 [some (.ref x0), some (.ref x1), some (.ref x2), some (.ref x3), some (.int x4), none, none, none] [] u) (x0 : Nat) (x1 : Nat) (x2 : Nat) (x3 : Nat) (x4 : Int32) (u : Option rx_H) (h : f_L_law_851 F k33 x0 x1 x2 x3 x4 u = some z) : rx_S l G ("SetHouseLaw", code, 8, false, true, D) hf (z.2.getD hf) rx_hI z 851 [some (.ref x0), some (.ref x1), some (.ref x2), some (.ref x3), some (.int x4), none, none, none] [] u := by
  rw [g_L_law_851] at h
  refine rx_S_node (md := ("SetHouseLaw", code, 8, false, true, D)) tk_L_law hC rx_m_hI (fun t ls st u h => ?_) h
  unfold kk_L_law_851 at h
  rcases rx_rec_eq h with ⟨hb, h⟩ | ⟨hb, h⟩
  · have ht := Nat.eq_of_beq_eq_true hb
    subst ht
    unfold n_L_law_33 at h
    split at h
    · exact (hk33 _ _ _ _ _ _ h).le ⟨Or.inr rfl, Or.inr rfl, Or.inr rfl, Or.inr rfl, Or.inr rfl, Or.inl rfl, Or.inl rfl, Or.inl rfl, trivial⟩
    · cases h
  cases h
theorem s_L_law_963 {F : Nat × Nat} {l : Launch} {G : rx_G} {D : Nat} {hf : rx_H} {z : (Int32 × Option rx_H)} (hC : rx_CC l G D (C_L_law F) z) {k33 : Nat → Nat → Nat → Nat → Int32 → Option rx_H → Option (Int32 × Option rx_H)} (hk33 : ∀ (x0 : Nat) (x1 : Nat) (x2 : Nat) (x3 : Nat) (x4 : Int32) (u : Option rx_H), k33 x0 x1 x2 x3 x4 u = some z → rx_S l G ("SetHouseLaw", code, 8, false, true, D) hf (z.2.getD hf) rx_hI z 33 [some (.ref x0), some (.ref x1), some (.ref x2), some (.ref x3), some (.int x4), none, none, none] [] u) (x0 : Nat) (x1 : Nat) (x2 : Nat) (x3 : Nat) (x4 : Int32) (s0 : Int32) (s1 : Nat) (s2 : Int32) (s3 : Int32) (u : Option rx_H) (h : f_L_law_963 F k33 x0 x1 x2 x3 x4 s0 s1 s2 s3 u = some z) : rx_S l G ("SetHouseLaw", code, 8, false, true, D) hf (z.2.getD hf) rx_hI z 963 [some (.ref x0), some (.ref x1), some (.ref x2), some (.ref x3), some (.int x4), none, none, none] [.int s3, .int s2, .ref s1, .int s0] u := by
  rw [g_L_law_963] at h
  refine rx_S_node (md := ("SetHouseLaw", code, 8, false, true, D)) tk_L_law hC rx_m_hI (fun t ls st u h => ?_) h
  unfold kk_L_law_963 at h
  rcases rx_rec_eq h with ⟨hb, h⟩ | ⟨hb, h⟩
  · have ht := Nat.eq_of_beq_eq_true hb
    subst ht
    unfold n_L_law_33 at h
    split at h
    · exact (hk33 _ _ _ _ _ _ h).le ⟨Or.inr rfl, Or.inr rfl, Or.inr rfl, Or.inr rfl, Or.inr rfl, Or.inl rfl, Or.inl rfl, Or.inl rfl, trivial⟩
    · cases h
  cases h
theorem s_L_law_933 {F : Nat × Nat} {l : Launch} {G : rx_G} {D : Nat} {hf : rx_H} {z : (Int32 × Option rx_H)} (hC : rx_CC l G D (C_L_law F) z) {k33 : Nat → Nat → Nat → Nat → Int32 → Option rx_H → Option (Int32 × Option rx_H)} (hk33 : ∀ (x0 : Nat) (x1 : Nat) (x2 : Nat) (x3 : Nat) (x4 : Int32) (u : Option rx_H), k33 x0 x1 x2 x3 x4 u = some z → rx_S l G ("SetHouseLaw", code, 8, false, true, D) hf (z.2.getD hf) rx_hI z 33 [some (.ref x0), some (.ref x1), some (.ref x2), some (.ref x3), some (.int x4), none, none, none] [] u) (x0 : Nat) (x1 : Nat) (x2 : Nat) (x3 : Nat) (x4 : Int32) (s0 : Nat) (s1 : Int32) (s2 : Int32) (u : Option rx_H) (h : f_L_law_933 F k33 x0 x1 x2 x3 x4 s0 s1 s2 u = some z) : rx_S l G ("SetHouseLaw", code, 8, false, true, D) hf (z.2.getD hf) rx_hI z 933 [some (.ref x0), some (.ref x1), some (.ref x2), some (.ref x3), some (.int x4), none, none, none] [.int s2, .int s1, .ref s0] u := by
  rw [g_L_law_933] at h
  refine rx_S_node (md := ("SetHouseLaw", code, 8, false, true, D)) tk_L_law hC rx_m_hI (fun t ls st u h => ?_) h
  unfold kk_L_law_933 at h
  rcases rx_rec_eq h with ⟨hb, h⟩ | ⟨hb, h⟩
  · have ht := Nat.eq_of_beq_eq_true hb
    subst ht
    unfold n_L_law_963 at h
    split at h
    · exact (s_L_law_963 hC hk33 _ _ _ _ _ _ _ _ _ _ h).le ⟨Or.inr rfl, Or.inr rfl, Or.inr rfl, Or.inr rfl, Or.inr rfl, Or.inl rfl, Or.inl rfl, Or.inl rfl, trivial⟩
    · cases h
  cases h
theorem s_L_law_912 {F : Nat × Nat} {l : Launch} {G : rx_G} {D : Nat} {hf : rx_H} {z : (Int32 × Option rx_H)} (hC : rx_CC l G D (C_L_law F) z) {k33 : Nat → Nat → Nat → Nat → Int32 → Option rx_H → Option (Int32 × Option rx_H)} (hk33 : ∀ (x0 : Nat) (x1 : Nat) (x2 : Nat) (x3 : Nat) (x4 : Int32) (u : Option rx_H), k33 x0 x1 x2 x3 x4 u = some z → rx_S l G ("SetHouseLaw", code, 8, false, true, D) hf (z.2.getD hf) rx_hI z 33 [some (.ref x0), some (.ref x1), some (.ref x2), some (.ref x3), some (.int x4), none, none, none] [] u) (x0 : Nat) (x1 : Nat) (x2 : Nat) (x3 : Nat) (x4 : Int32) (u : Option rx_H) (h : f_L_law_912 F k33 x0 x1 x2 x3 x4 u = some z) : rx_S l G ("SetHouseLaw", code, 8, false, true, D) hf (z.2.getD hf) rx_hI z 912 [some (.ref x0), some (.ref x1), some (.ref x2), some (.ref x3), some (.int x4), none, none, none] [] u := by
  rw [g_L_law_912] at h
  refine rx_S_node (md := ("SetHouseLaw", code, 8, false, true, D)) tk_L_law hC rx_m_hI (fun t ls st u h => ?_) h
  unfold kk_L_law_912 at h
  rcases rx_rec_eq h with ⟨hb, h⟩ | ⟨hb, h⟩
  · have ht := Nat.eq_of_beq_eq_true hb
    subst ht
    unfold n_L_law_933 at h
    split at h
    · exact (s_L_law_933 hC hk33 _ _ _ _ _ _ _ _ _ h).le ⟨Or.inr rfl, Or.inr rfl, Or.inr rfl, Or.inr rfl, Or.inr rfl, Or.inl rfl, Or.inl rfl, Or.inl rfl, trivial⟩
    · cases h
  cases h
theorem s_L_law_977 {F : Nat × Nat} {l : Launch} {G : rx_G} {D : Nat} {hf : rx_H} {z : (Int32 × Option rx_H)} (hC : rx_CC l G D (C_L_law F) z) {k33 : Nat → Nat → Nat → Nat → Int32 → Option rx_H → Option (Int32 × Option rx_H)} (hk33 : ∀ (x0 : Nat) (x1 : Nat) (x2 : Nat) (x3 : Nat) (x4 : Int32) (u : Option rx_H), k33 x0 x1 x2 x3 x4 u = some z → rx_S l G ("SetHouseLaw", code, 8, false, true, D) hf (z.2.getD hf) rx_hI z 33 [some (.ref x0), some (.ref x1), some (.ref x2), some (.ref x3), some (.int x4), none, none, none] [] u) (x0 : Nat) (x1 : Nat) (x2 : Nat) (x3 : Nat) (x4 : Int32) (u : Option rx_H) (h : f_L_law_977 F k33 x0 x1 x2 x3 x4 u = some z) : rx_S l G ("SetHouseLaw", code, 8, false, true, D) hf (z.2.getD hf) rx_hI z 977 [some (.ref x0), some (.ref x1), some (.ref x2), some (.ref x3), some (.int x4), none, none, none] [] u := by
  rw [g_L_law_977] at h
  refine rx_S_node (md := ("SetHouseLaw", code, 8, false, true, D)) tk_L_law hC rx_m_hI (fun t ls st u h => ?_) h
  unfold kk_L_law_977 at h
  rcases rx_rec_eq h with ⟨hb, h⟩ | ⟨hb, h⟩
  · have ht := Nat.eq_of_beq_eq_true hb
    subst ht
    unfold n_L_law_33 at h
    split at h
    · exact (hk33 _ _ _ _ _ _ h).le ⟨Or.inr rfl, Or.inr rfl, Or.inr rfl, Or.inr rfl, Or.inr rfl, Or.inl rfl, Or.inl rfl, Or.inl rfl, trivial⟩
    · cases h
  cases h
theorem s_L_law_1026 {F : Nat × Nat} {l : Launch} {G : rx_G} {D : Nat} {hf : rx_H} {z : (Int32 × Option rx_H)} (hC : rx_CC l G D (C_L_law F) z) {k33 : Nat → Nat → Nat → Nat → Int32 → Option rx_H → Option (Int32 × Option rx_H)} (hk33 : ∀ (x0 : Nat) (x1 : Nat) (x2 : Nat) (x3 : Nat) (x4 : Int32) (u : Option rx_H), k33 x0 x1 x2 x3 x4 u = some z → rx_S l G ("SetHouseLaw", code, 8, false, true, D) hf (z.2.getD hf) rx_hI z 33 [some (.ref x0), some (.ref x1), some (.ref x2), some (.ref x3), some (.int x4), none, none, none] [] u) (x0 : Nat) (x1 : Nat) (x2 : Nat) (x3 : Nat) (x4 : Int32) (u : Option rx_H) (h : f_L_law_1026 F k33 x0 x1 x2 x3 x4 u = some z) : rx_S l G ("SetHouseLaw", code, 8, false, true, D) hf (z.2.getD hf) rx_hI z 1026 [some (.ref x0), some (.ref x1), some (.ref x2), some (.ref x3), some (.int x4), none, none, none] [] u := by
  rw [g_L_law_1026] at h
  refine rx_S_node (md := ("SetHouseLaw", code, 8, false, true, D)) tk_L_law hC rx_m_hI (fun t ls st u h => ?_) h
  unfold kk_L_law_1026 at h
  rcases rx_rec_eq h with ⟨hb, h⟩ | ⟨hb, h⟩
  · have ht := Nat.eq_of_beq_eq_true hb
    subst ht
    unfold n_L_law_33 at h
    split at h
    · exact (hk33 _ _ _ _ _ _ h).le ⟨Or.inr rfl, Or.inr rfl, Or.inr rfl, Or.inr rfl, Or.inr rfl, Or.inl rfl, Or.inl rfl, Or.inl rfl, trivial⟩
    · cases h
  cases h
theorem s_L_law_1075 {F : Nat × Nat} {l : Launch} {G : rx_G} {D : Nat} {hf : rx_H} {z : (Int32 × Option rx_H)} (hC : rx_CC l G D (C_L_law F) z) {k33 : Nat → Nat → Nat → Nat → Int32 → Option rx_H → Option (Int32 × Option rx_H)} (hk33 : ∀ (x0 : Nat) (x1 : Nat) (x2 : Nat) (x3 : Nat) (x4 : Int32) (u : Option rx_H), k33 x0 x1 x2 x3 x4 u = some z → rx_S l G ("SetHouseLaw", code, 8, false, true, D) hf (z.2.getD hf) rx_hI z 33 [some (.ref x0), some (.ref x1), some (.ref x2), some (.ref x3), some (.int x4), none, none, none] [] u) (x0 : Nat) (x1 : Nat) (x2 : Nat) (x3 : Nat) (x4 : Int32) (u : Option rx_H) (h : f_L_law_1075 F k33 x0 x1 x2 x3 x4 u = some z) : rx_S l G ("SetHouseLaw", code, 8, false, true, D) hf (z.2.getD hf) rx_hI z 1075 [some (.ref x0), some (.ref x1), some (.ref x2), some (.ref x3), some (.int x4), none, none, none] [] u := by
  rw [g_L_law_1075] at h
  refine rx_S_node (md := ("SetHouseLaw", code, 8, false, true, D)) tk_L_law hC rx_m_hI (fun t ls st u h => ?_) h
  unfold kk_L_law_1075 at h
  rcases rx_rec_eq h with ⟨hb, h⟩ | ⟨hb, h⟩
  · have ht := Nat.eq_of_beq_eq_true hb
    subst ht
    unfold n_L_law_33 at h
    split at h
    · exact (hk33 _ _ _ _ _ _ h).le ⟨Or.inr rfl, Or.inr rfl, Or.inr rfl, Or.inr rfl, Or.inr rfl, Or.inl rfl, Or.inl rfl, Or.inl rfl, trivial⟩
    · cases h
  cases h
theorem s_L_law_1124 {F : Nat × Nat} {l : Launch} {G : rx_G} {D : Nat} {hf : rx_H} {z : (Int32 × Option rx_H)} (hC : rx_CC l G D (C_L_law F) z) {k33 : Nat → Nat → Nat → Nat → Int32 → Option rx_H → Option (Int32 × Option rx_H)} (hk33 : ∀ (x0 : Nat) (x1 : Nat) (x2 : Nat) (x3 : Nat) (x4 : Int32) (u : Option rx_H), k33 x0 x1 x2 x3 x4 u = some z → rx_S l G ("SetHouseLaw", code, 8, false, true, D) hf (z.2.getD hf) rx_hI z 33 [some (.ref x0), some (.ref x1), some (.ref x2), some (.ref x3), some (.int x4), none, none, none] [] u) (x0 : Nat) (x1 : Nat) (x2 : Nat) (x3 : Nat) (x4 : Int32) (u : Option rx_H) (h : f_L_law_1124 F k33 x0 x1 x2 x3 x4 u = some z) : rx_S l G ("SetHouseLaw", code, 8, false, true, D) hf (z.2.getD hf) rx_hI z 1124 [some (.ref x0), some (.ref x1), some (.ref x2), some (.ref x3), some (.int x4), none, none, none] [] u := by
  rw [g_L_law_1124] at h
  refine rx_S_node (md := ("SetHouseLaw", code, 8, false, true, D)) tk_L_law hC rx_m_hI (fun t ls st u h => ?_) h
  unfold kk_L_law_1124 at h
  rcases rx_rec_eq h with ⟨hb, h⟩ | ⟨hb, h⟩
  · have ht := Nat.eq_of_beq_eq_true hb
    subst ht
    unfold n_L_law_33 at h
    split at h
    · exact (hk33 _ _ _ _ _ _ h).le ⟨Or.inr rfl, Or.inr rfl, Or.inr rfl, Or.inr rfl, Or.inr rfl, Or.inl rfl, Or.inl rfl, Or.inl rfl, trivial⟩
    · cases h
  cases h
theorem s_L_law_1149 {F : Nat × Nat} {l : Launch} {G : rx_G} {D : Nat} {hf : rx_H} {z : (Int32 × Option rx_H)} (hC : rx_CC l G D (C_L_law F) z) {k33 : Nat → Nat → Nat → Nat → Int32 → Option rx_H → Option (Int32 × Option rx_H)} (hk33 : ∀ (x0 : Nat) (x1 : Nat) (x2 : Nat) (x3 : Nat) (x4 : Int32) (u : Option rx_H), k33 x0 x1 x2 x3 x4 u = some z → rx_S l G ("SetHouseLaw", code, 8, false, true, D) hf (z.2.getD hf) rx_hI z 33 [some (.ref x0), some (.ref x1), some (.ref x2), some (.ref x3), some (.int x4), none, none, none] [] u) (x0 : Nat) (x1 : Nat) (x2 : Nat) (x3 : Nat) (x4 : Int32) (u : Option rx_H) (h : f_L_law_1149 F k33 x0 x1 x2 x3 x4 u = some z) : rx_S l G ("SetHouseLaw", code, 8, false, true, D) hf (z.2.getD hf) rx_hI z 1149 [some (.ref x0), some (.ref x1), some (.ref x2), some (.ref x3), some (.int x4), none, none, none] [] u := by
  rw [g_L_law_1149] at h
  refine rx_S_node (md := ("SetHouseLaw", code, 8, false, true, D)) tk_L_law hC rx_m_hI (fun t ls st u h => ?_) h
  unfold kk_L_law_1149 at h
  rcases rx_rec_eq h with ⟨hb, h⟩ | ⟨hb, h⟩
  · have ht := Nat.eq_of_beq_eq_true hb
    subst ht
    unfold n_L_law_33 at h
    split at h
    · exact (hk33 _ _ _ _ _ _ h).le ⟨Or.inr rfl, Or.inr rfl, Or.inr rfl, Or.inr rfl, Or.inr rfl, Or.inl rfl, Or.inl rfl, Or.inl rfl, trivial⟩
    · cases h
  cases h
theorem s_L_law_1198 {F : Nat × Nat} {l : Launch} {G : rx_G} {D : Nat} {hf : rx_H} {z : (Int32 × Option rx_H)} (hC : rx_CC l G D (C_L_law F) z) {k33 : Nat → Nat → Nat → Nat → Int32 → Option rx_H → Option (Int32 × Option rx_H)} (hk33 : ∀ (x0 : Nat) (x1 : Nat) (x2 : Nat) (x3 : Nat) (x4 : Int32) (u : Option rx_H), k33 x0 x1 x2 x3 x4 u = some z → rx_S l G ("SetHouseLaw", code, 8, false, true, D) hf (z.2.getD hf) rx_hI z 33 [some (.ref x0), some (.ref x1), some (.ref x2), some (.ref x3), some (.int x4), none, none, none] [] u) (x0 : Nat) (x1 : Nat) (x2 : Nat) (x3 : Nat) (x4 : Int32) (u : Option rx_H) (h : f_L_law_1198 F k33 x0 x1 x2 x3 x4 u = some z) : rx_S l G ("SetHouseLaw", code, 8, false, true, D) hf (z.2.getD hf) rx_hI z 1198 [some (.ref x0), some (.ref x1), some (.ref x2), some (.ref x3), some (.int x4), none, none, none] [] u := by
  rw [g_L_law_1198] at h
  refine rx_S_node (md := ("SetHouseLaw", code, 8, false, true, D)) tk_L_law hC rx_m_hI (fun t ls st u h => ?_) h
  unfold kk_L_law_1198 at h
  rcases rx_rec_eq h with ⟨hb, h⟩ | ⟨hb, h⟩
  · have ht := Nat.eq_of_beq_eq_true hb
    subst ht
    unfold n_L_law_33 at h
    split at h
    · exact (hk33 _ _ _ _ _ _ h).le ⟨Or.inr rfl, Or.inr rfl, Or.inr rfl, Or.inr rfl, Or.inr rfl, Or.inl rfl, Or.inl rfl, Or.inl rfl, trivial⟩
    · cases h
  cases h
theorem s_L_law_1223 {F : Nat × Nat} {l : Launch} {G : rx_G} {D : Nat} {hf : rx_H} {z : (Int32 × Option rx_H)} (hC : rx_CC l G D (C_L_law F) z) {k33 : Nat → Nat → Nat → Nat → Int32 → Option rx_H → Option (Int32 × Option rx_H)} (hk33 : ∀ (x0 : Nat) (x1 : Nat) (x2 : Nat) (x3 : Nat) (x4 : Int32) (u : Option rx_H), k33 x0 x1 x2 x3 x4 u = some z → rx_S l G ("SetHouseLaw", code, 8, false, true, D) hf (z.2.getD hf) rx_hI z 33 [some (.ref x0), some (.ref x1), some (.ref x2), some (.ref x3), some (.int x4), none, none, none] [] u) (x0 : Nat) (x1 : Nat) (x2 : Nat) (x3 : Nat) (x4 : Int32) (u : Option rx_H) (h : f_L_law_1223 F k33 x0 x1 x2 x3 x4 u = some z) : rx_S l G ("SetHouseLaw", code, 8, false, true, D) hf (z.2.getD hf) rx_hI z 1223 [some (.ref x0), some (.ref x1), some (.ref x2), some (.ref x3), some (.int x4), none, none, none] [] u := by
  rw [g_L_law_1223] at h
  refine rx_S_node (md := ("SetHouseLaw", code, 8, false, true, D)) tk_L_law hC rx_m_hI (fun t ls st u h => ?_) h
  unfold kk_L_law_1223 at h
  rcases rx_rec_eq h with ⟨hb, h⟩ | ⟨hb, h⟩
  · have ht := Nat.eq_of_beq_eq_true hb
    subst ht
    unfold n_L_law_33 at h
    split at h
    · exact (hk33 _ _ _ _ _ _ h).le ⟨Or.inr rfl, Or.inr rfl, Or.inr rfl, Or.inr rfl, Or.inr rfl, Or.inl rfl, Or.inl rfl, Or.inl rfl, trivial⟩
    · cases h
  cases h
theorem s_L_law_1248 {F : Nat × Nat} {l : Launch} {G : rx_G} {D : Nat} {hf : rx_H} {z : (Int32 × Option rx_H)} (hC : rx_CC l G D (C_L_law F) z) {k33 : Nat → Nat → Nat → Nat → Int32 → Option rx_H → Option (Int32 × Option rx_H)} (hk33 : ∀ (x0 : Nat) (x1 : Nat) (x2 : Nat) (x3 : Nat) (x4 : Int32) (u : Option rx_H), k33 x0 x1 x2 x3 x4 u = some z → rx_S l G ("SetHouseLaw", code, 8, false, true, D) hf (z.2.getD hf) rx_hI z 33 [some (.ref x0), some (.ref x1), some (.ref x2), some (.ref x3), some (.int x4), none, none, none] [] u) (x0 : Nat) (x1 : Nat) (x2 : Nat) (x3 : Nat) (x4 : Int32) (u : Option rx_H) (h : f_L_law_1248 F k33 x0 x1 x2 x3 x4 u = some z) : rx_S l G ("SetHouseLaw", code, 8, false, true, D) hf (z.2.getD hf) rx_hI z 1248 [some (.ref x0), some (.ref x1), some (.ref x2), some (.ref x3), some (.int x4), none, none, none] [] u := by
  rw [g_L_law_1248] at h
  refine rx_S_node (md := ("SetHouseLaw", code, 8, false, true, D)) tk_L_law hC rx_m_hI (fun t ls st u h => ?_) h
  unfold kk_L_law_1248 at h
  rcases rx_rec_eq h with ⟨hb, h⟩ | ⟨hb, h⟩
  · have ht := Nat.eq_of_beq_eq_true hb
    subst ht
    unfold n_L_law_33 at h
    split at h
    · exact (hk33 _ _ _ _ _ _ h).le ⟨Or.inr rfl, Or.inr rfl, Or.inr rfl, Or.inr rfl, Or.inr rfl, Or.inl rfl, Or.inl rfl, Or.inl rfl, trivial⟩
    · cases h
  cases h
theorem s_L_law_1285 {F : Nat × Nat} {l : Launch} {G : rx_G} {D : Nat} {hf : rx_H} {z : (Int32 × Option rx_H)} (hC : rx_CC l G D (C_L_law F) z) {k33 : Nat → Nat → Nat → Nat → Int32 → Option rx_H → Option (Int32 × Option rx_H)} (hk33 : ∀ (x0 : Nat) (x1 : Nat) (x2 : Nat) (x3 : Nat) (x4 : Int32) (u : Option rx_H), k33 x0 x1 x2 x3 x4 u = some z → rx_S l G ("SetHouseLaw", code, 8, false, true, D) hf (z.2.getD hf) rx_hI z 33 [some (.ref x0), some (.ref x1), some (.ref x2), some (.ref x3), some (.int x4), none, none, none] [] u) (x0 : Nat) (x1 : Nat) (x2 : Nat) (x3 : Nat) (x4 : Int32) (u : Option rx_H) (h : f_L_law_1285 F k33 x0 x1 x2 x3 x4 u = some z) : rx_S l G ("SetHouseLaw", code, 8, false, true, D) hf (z.2.getD hf) rx_hI z 1285 [some (.ref x0), some (.ref x1), some (.ref x2), some (.ref x3), some (.int x4), none, none, none] [] u := by
  rw [g_L_law_1285] at h
  refine rx_S_node (md := ("SetHouseLaw", code, 8, false, true, D)) tk_L_law hC rx_m_hI (fun t ls st u h => ?_) h
  unfold kk_L_law_1285 at h
  rcases rx_rec_eq h with ⟨hb, h⟩ | ⟨hb, h⟩
  · have ht := Nat.eq_of_beq_eq_true hb
    subst ht
    unfold n_L_law_33 at h
    split at h
    · exact (hk33 _ _ _ _ _ _ h).le ⟨Or.inr rfl, Or.inr rfl, Or.inr rfl, Or.inr rfl, Or.inr rfl, Or.inl rfl, Or.inl rfl, Or.inl rfl, trivial⟩
    · cases h
  cases h
theorem s_L_law_1334 {F : Nat × Nat} {l : Launch} {G : rx_G} {D : Nat} {hf : rx_H} {z : (Int32 × Option rx_H)} (hC : rx_CC l G D (C_L_law F) z) {k33 : Nat → Nat → Nat → Nat → Int32 → Option rx_H → Option (Int32 × Option rx_H)} (hk33 : ∀ (x0 : Nat) (x1 : Nat) (x2 : Nat) (x3 : Nat) (x4 : Int32) (u : Option rx_H), k33 x0 x1 x2 x3 x4 u = some z → rx_S l G ("SetHouseLaw", code, 8, false, true, D) hf (z.2.getD hf) rx_hI z 33 [some (.ref x0), some (.ref x1), some (.ref x2), some (.ref x3), some (.int x4), none, none, none] [] u) (x0 : Nat) (x1 : Nat) (x2 : Nat) (x3 : Nat) (x4 : Int32) (u : Option rx_H) (h : f_L_law_1334 F k33 x0 x1 x2 x3 x4 u = some z) : rx_S l G ("SetHouseLaw", code, 8, false, true, D) hf (z.2.getD hf) rx_hI z 1334 [some (.ref x0), some (.ref x1), some (.ref x2), some (.ref x3), some (.int x4), none, none, none] [] u := by
  rw [g_L_law_1334] at h
  refine rx_S_node (md := ("SetHouseLaw", code, 8, false, true, D)) tk_L_law hC rx_m_hI (fun t ls st u h => ?_) h
  unfold kk_L_law_1334 at h
  rcases rx_rec_eq h with ⟨hb, h⟩ | ⟨hb, h⟩
  · have ht := Nat.eq_of_beq_eq_true hb
    subst ht
    unfold n_L_law_33 at h
    split at h
    · exact (hk33 _ _ _ _ _ _ h).le ⟨Or.inr rfl, Or.inr rfl, Or.inr rfl, Or.inr rfl, Or.inr rfl, Or.inl rfl, Or.inl rfl, Or.inl rfl, trivial⟩
    · cases h
  cases h
theorem s_L_law_1371 {F : Nat × Nat} {l : Launch} {G : rx_G} {D : Nat} {hf : rx_H} {z : (Int32 × Option rx_H)} (hC : rx_CC l G D (C_L_law F) z) {k33 : Nat → Nat → Nat → Nat → Int32 → Option rx_H → Option (Int32 × Option rx_H)} (hk33 : ∀ (x0 : Nat) (x1 : Nat) (x2 : Nat) (x3 : Nat) (x4 : Int32) (u : Option rx_H), k33 x0 x1 x2 x3 x4 u = some z → rx_S l G ("SetHouseLaw", code, 8, false, true, D) hf (z.2.getD hf) rx_hI z 33 [some (.ref x0), some (.ref x1), some (.ref x2), some (.ref x3), some (.int x4), none, none, none] [] u) (x0 : Nat) (x1 : Nat) (x2 : Nat) (x3 : Nat) (x4 : Int32) (u : Option rx_H) (h : f_L_law_1371 F k33 x0 x1 x2 x3 x4 u = some z) : rx_S l G ("SetHouseLaw", code, 8, false, true, D) hf (z.2.getD hf) rx_hI z 1371 [some (.ref x0), some (.ref x1), some (.ref x2), some (.ref x3), some (.int x4), none, none, none] [] u := by
  rw [g_L_law_1371] at h
  refine rx_S_node (md := ("SetHouseLaw", code, 8, false, true, D)) tk_L_law hC rx_m_hI (fun t ls st u h => ?_) h
  unfold kk_L_law_1371 at h
  rcases rx_rec_eq h with ⟨hb, h⟩ | ⟨hb, h⟩
  · have ht := Nat.eq_of_beq_eq_true hb
    subst ht
    unfold n_L_law_33 at h
    split at h
    · exact (hk33 _ _ _ _ _ _ h).le ⟨Or.inr rfl, Or.inr rfl, Or.inr rfl, Or.inr rfl, Or.inr rfl, Or.inl rfl, Or.inl rfl, Or.inl rfl, trivial⟩
    · cases h
  cases h
theorem s_L_law_1408 {F : Nat × Nat} {l : Launch} {G : rx_G} {D : Nat} {hf : rx_H} {z : (Int32 × Option rx_H)} (hC : rx_CC l G D (C_L_law F) z) {k33 : Nat → Nat → Nat → Nat → Int32 → Option rx_H → Option (Int32 × Option rx_H)} (hk33 : ∀ (x0 : Nat) (x1 : Nat) (x2 : Nat) (x3 : Nat) (x4 : Int32) (u : Option rx_H), k33 x0 x1 x2 x3 x4 u = some z → rx_S l G ("SetHouseLaw", code, 8, false, true, D) hf (z.2.getD hf) rx_hI z 33 [some (.ref x0), some (.ref x1), some (.ref x2), some (.ref x3), some (.int x4), none, none, none] [] u) (x0 : Nat) (x1 : Nat) (x2 : Nat) (x3 : Nat) (x4 : Int32) (u : Option rx_H) (h : f_L_law_1408 F k33 x0 x1 x2 x3 x4 u = some z) : rx_S l G ("SetHouseLaw", code, 8, false, true, D) hf (z.2.getD hf) rx_hI z 1408 [some (.ref x0), some (.ref x1), some (.ref x2), some (.ref x3), some (.int x4), none, none, none] [] u := by
  rw [g_L_law_1408] at h
  refine rx_S_node (md := ("SetHouseLaw", code, 8, false, true, D)) tk_L_law hC rx_m_hI (fun t ls st u h => ?_) h
  unfold kk_L_law_1408 at h
  rcases rx_rec_eq h with ⟨hb, h⟩ | ⟨hb, h⟩
  · have ht := Nat.eq_of_beq_eq_true hb
    subst ht
    unfold n_L_law_33 at h
    split at h
    · exact (hk33 _ _ _ _ _ _ h).le ⟨Or.inr rfl, Or.inr rfl, Or.inr rfl, Or.inr rfl, Or.inr rfl, Or.inl rfl, Or.inl rfl, Or.inl rfl, trivial⟩
    · cases h
  cases h
theorem s_L_law_1457 {F : Nat × Nat} {l : Launch} {G : rx_G} {D : Nat} {hf : rx_H} {z : (Int32 × Option rx_H)} (hC : rx_CC l G D (C_L_law F) z) {k33 : Nat → Nat → Nat → Nat → Int32 → Option rx_H → Option (Int32 × Option rx_H)} (hk33 : ∀ (x0 : Nat) (x1 : Nat) (x2 : Nat) (x3 : Nat) (x4 : Int32) (u : Option rx_H), k33 x0 x1 x2 x3 x4 u = some z → rx_S l G ("SetHouseLaw", code, 8, false, true, D) hf (z.2.getD hf) rx_hI z 33 [some (.ref x0), some (.ref x1), some (.ref x2), some (.ref x3), some (.int x4), none, none, none] [] u) (x0 : Nat) (x1 : Nat) (x2 : Nat) (x3 : Nat) (x4 : Int32) (u : Option rx_H) (h : f_L_law_1457 F k33 x0 x1 x2 x3 x4 u = some z) : rx_S l G ("SetHouseLaw", code, 8, false, true, D) hf (z.2.getD hf) rx_hI z 1457 [some (.ref x0), some (.ref x1), some (.ref x2), some (.ref x3), some (.int x4), none, none, none] [] u := by
  rw [g_L_law_1457] at h
  refine rx_S_node (md := ("SetHouseLaw", code, 8, false, true, D)) tk_L_law hC rx_m_hI (fun t ls st u h => ?_) h
  unfold kk_L_law_1457 at h
  rcases rx_rec_eq h with ⟨hb, h⟩ | ⟨hb, h⟩
  · have ht := Nat.eq_of_beq_eq_true hb
    subst ht
    unfold n_L_law_33 at h
    split at h
    · exact (hk33 _ _ _ _ _ _ h).le ⟨Or.inr rfl, Or.inr rfl, Or.inr rfl, Or.inr rfl, Or.inr rfl, Or.inl rfl, Or.inl rfl, Or.inl rfl, trivial⟩
    · cases h
  cases h
theorem s_L_law_1507 {F : Nat × Nat} {l : Launch} {G : rx_G} {D : Nat} {hf : rx_H} {z : (Int32 × Option rx_H)} (hC : rx_CC l G D (C_L_law F) z) {k33 : Nat → Nat → Nat → Nat → Int32 → Option rx_H → Option (Int32 × Option rx_H)} (hk33 : ∀ (x0 : Nat) (x1 : Nat) (x2 : Nat) (x3 : Nat) (x4 : Int32) (u : Option rx_H), k33 x0 x1 x2 x3 x4 u = some z → rx_S l G ("SetHouseLaw", code, 8, false, true, D) hf (z.2.getD hf) rx_hI z 33 [some (.ref x0), some (.ref x1), some (.ref x2), some (.ref x3), some (.int x4), none, none, none] [] u) (x0 : Nat) (x1 : Nat) (x2 : Nat) (x3 : Nat) (x4 : Int32) (u : Option rx_H) (h : f_L_law_1507 F k33 x0 x1 x2 x3 x4 u = some z) : rx_S l G ("SetHouseLaw", code, 8, false, true, D) hf (z.2.getD hf) rx_hI z 1507 [some (.ref x0), some (.ref x1), some (.ref x2), some (.ref x3), some (.int x4), none, none, none] [] u := by
  rw [g_L_law_1507] at h
  refine rx_S_node (md := ("SetHouseLaw", code, 8, false, true, D)) tk_L_law hC rx_m_hI (fun t ls st u h => ?_) h
  unfold kk_L_law_1507 at h
  rcases rx_rec_eq h with ⟨hb, h⟩ | ⟨hb, h⟩
  · have ht := Nat.eq_of_beq_eq_true hb
    subst ht
    unfold n_L_law_33 at h
    split at h
    · exact (hk33 _ _ _ _ _ _ h).le ⟨Or.inr rfl, Or.inr rfl, Or.inr rfl, Or.inr rfl, Or.inr rfl, Or.inl rfl, Or.inl rfl, Or.inl rfl, trivial⟩
    · cases h
  cases h
theorem s_L_law_1544 {F : Nat × Nat} {l : Launch} {G : rx_G} {D : Nat} {hf : rx_H} {z : (Int32 × Option rx_H)} (hC : rx_CC l G D (C_L_law F) z) {k33 : Nat → Nat → Nat → Nat → Int32 → Option rx_H → Option (Int32 × Option rx_H)} (hk33 : ∀ (x0 : Nat) (x1 : Nat) (x2 : Nat) (x3 : Nat) (x4 : Int32) (u : Option rx_H), k33 x0 x1 x2 x3 x4 u = some z → rx_S l G ("SetHouseLaw", code, 8, false, true, D) hf (z.2.getD hf) rx_hI z 33 [some (.ref x0), some (.ref x1), some (.ref x2), some (.ref x3), some (.int x4), none, none, none] [] u) (x0 : Nat) (x1 : Nat) (x2 : Nat) (x3 : Nat) (x4 : Int32) (u : Option rx_H) (h : f_L_law_1544 F k33 x0 x1 x2 x3 x4 u = some z) : rx_S l G ("SetHouseLaw", code, 8, false, true, D) hf (z.2.getD hf) rx_hI z 1544 [some (.ref x0), some (.ref x1), some (.ref x2), some (.ref x3), some (.int x4), none, none, none] [] u := by
  rw [g_L_law_1544] at h
  refine rx_S_node (md := ("SetHouseLaw", code, 8, false, true, D)) tk_L_law hC rx_m_hI (fun t ls st u h => ?_) h
  unfold kk_L_law_1544 at h
  rcases rx_rec_eq h with ⟨hb, h⟩ | ⟨hb, h⟩
  · have ht := Nat.eq_of_beq_eq_true hb
    subst ht
    unfold n_L_law_33 at h
    split at h
    · exact (hk33 _ _ _ _ _ _ h).le ⟨Or.inr rfl, Or.inr rfl, Or.inr rfl, Or.inr rfl, Or.inr rfl, Or.inl rfl, Or.inl rfl, Or.inl rfl, trivial⟩
    · cases h
  cases h
theorem s_L_law_1581 {F : Nat × Nat} {l : Launch} {G : rx_G} {D : Nat} {hf : rx_H} {z : (Int32 × Option rx_H)} (hC : rx_CC l G D (C_L_law F) z) {k33 : Nat → Nat → Nat → Nat → Int32 → Option rx_H → Option (Int32 × Option rx_H)} (hk33 : ∀ (x0 : Nat) (x1 : Nat) (x2 : Nat) (x3 : Nat) (x4 : Int32) (u : Option rx_H), k33 x0 x1 x2 x3 x4 u = some z → rx_S l G ("SetHouseLaw", code, 8, false, true, D) hf (z.2.getD hf) rx_hI z 33 [some (.ref x0), some (.ref x1), some (.ref x2), some (.ref x3), some (.int x4), none, none, none] [] u) (x0 : Nat) (x1 : Nat) (x2 : Nat) (x3 : Nat) (x4 : Int32) (u : Option rx_H) (h : f_L_law_1581 F k33 x0 x1 x2 x3 x4 u = some z) : rx_S l G ("SetHouseLaw", code, 8, false, true, D) hf (z.2.getD hf) rx_hI z 1581 [some (.ref x0), some (.ref x1), some (.ref x2), some (.ref x3), some (.int x4), none, none, none] [] u := by
  rw [g_L_law_1581] at h
  refine rx_S_node (md := ("SetHouseLaw", code, 8, false, true, D)) tk_L_law hC rx_m_hI (fun t ls st u h => ?_) h
  unfold kk_L_law_1581 at h
  rcases rx_rec_eq h with ⟨hb, h⟩ | ⟨hb, h⟩
  · have ht := Nat.eq_of_beq_eq_true hb
    subst ht
    unfold n_L_law_33 at h
    split at h
    · exact (hk33 _ _ _ _ _ _ h).le ⟨Or.inr rfl, Or.inr rfl, Or.inr rfl, Or.inr rfl, Or.inr rfl, Or.inl rfl, Or.inl rfl, Or.inl rfl, trivial⟩
    · cases h
  cases h
theorem s_L_law_1618 {F : Nat × Nat} {l : Launch} {G : rx_G} {D : Nat} {hf : rx_H} {z : (Int32 × Option rx_H)} (hC : rx_CC l G D (C_L_law F) z) {k33 : Nat → Nat → Nat → Nat → Int32 → Option rx_H → Option (Int32 × Option rx_H)} (hk33 : ∀ (x0 : Nat) (x1 : Nat) (x2 : Nat) (x3 : Nat) (x4 : Int32) (u : Option rx_H), k33 x0 x1 x2 x3 x4 u = some z → rx_S l G ("SetHouseLaw", code, 8, false, true, D) hf (z.2.getD hf) rx_hI z 33 [some (.ref x0), some (.ref x1), some (.ref x2), some (.ref x3), some (.int x4), none, none, none] [] u) (x0 : Nat) (x1 : Nat) (x2 : Nat) (x3 : Nat) (x4 : Int32) (u : Option rx_H) (h : f_L_law_1618 F k33 x0 x1 x2 x3 x4 u = some z) : rx_S l G ("SetHouseLaw", code, 8, false, true, D) hf (z.2.getD hf) rx_hI z 1618 [some (.ref x0), some (.ref x1), some (.ref x2), some (.ref x3), some (.int x4), none, none, none] [] u := by
  rw [g_L_law_1618] at h
  refine rx_S_node (md := ("SetHouseLaw", code, 8, false, true, D)) tk_L_law hC rx_m_hI (fun t ls st u h => ?_) h
  unfold kk_L_law_1618 at h
  rcases rx_rec_eq h with ⟨hb, h⟩ | ⟨hb, h⟩
  · have ht := Nat.eq_of_beq_eq_true hb
    subst ht
    unfold n_L_law_33 at h
    split at h
    · exact (hk33 _ _ _ _ _ _ h).le ⟨Or.inr rfl, Or.inr rfl, Or.inr rfl, Or.inr rfl, Or.inr rfl, Or.inl rfl, Or.inl rfl, Or.inl rfl, trivial⟩
    · cases h
  cases h
theorem s_L_law_1643 {F : Nat × Nat} {l : Launch} {G : rx_G} {D : Nat} {hf : rx_H} {z : (Int32 × Option rx_H)} (hC : rx_CC l G D (C_L_law F) z) {k33 : Nat → Nat → Nat → Nat → Int32 → Option rx_H → Option (Int32 × Option rx_H)} (hk33 : ∀ (x0 : Nat) (x1 : Nat) (x2 : Nat) (x3 : Nat) (x4 : Int32) (u : Option rx_H), k33 x0 x1 x2 x3 x4 u = some z → rx_S l G ("SetHouseLaw", code, 8, false, true, D) hf (z.2.getD hf) rx_hI z 33 [some (.ref x0), some (.ref x1), some (.ref x2), some (.ref x3), some (.int x4), none, none, none] [] u) (x0 : Nat) (x1 : Nat) (x2 : Nat) (x3 : Nat) (x4 : Int32) (u : Option rx_H) (h : f_L_law_1643 F k33 x0 x1 x2 x3 x4 u = some z) : rx_S l G ("SetHouseLaw", code, 8, false, true, D) hf (z.2.getD hf) rx_hI z 1643 [some (.ref x0), some (.ref x1), some (.ref x2), some (.ref x3), some (.int x4), none, none, none] [] u := by
  rw [g_L_law_1643] at h
  refine rx_S_node (md := ("SetHouseLaw", code, 8, false, true, D)) tk_L_law hC rx_m_hI (fun t ls st u h => ?_) h
  unfold kk_L_law_1643 at h
  rcases rx_rec_eq h with ⟨hb, h⟩ | ⟨hb, h⟩
  · have ht := Nat.eq_of_beq_eq_true hb
    subst ht
    unfold n_L_law_33 at h
    split at h
    · exact (hk33 _ _ _ _ _ _ h).le ⟨Or.inr rfl, Or.inr rfl, Or.inr rfl, Or.inr rfl, Or.inr rfl, Or.inl rfl, Or.inl rfl, Or.inl rfl, trivial⟩
    · cases h
  cases h
theorem s_L_law_1668 {F : Nat × Nat} {l : Launch} {G : rx_G} {D : Nat} {hf : rx_H} {z : (Int32 × Option rx_H)} (hC : rx_CC l G D (C_L_law F) z) {k33 : Nat → Nat → Nat → Nat → Int32 → Option rx_H → Option (Int32 × Option rx_H)} (hk33 : ∀ (x0 : Nat) (x1 : Nat) (x2 : Nat) (x3 : Nat) (x4 : Int32) (u : Option rx_H), k33 x0 x1 x2 x3 x4 u = some z → rx_S l G ("SetHouseLaw", code, 8, false, true, D) hf (z.2.getD hf) rx_hI z 33 [some (.ref x0), some (.ref x1), some (.ref x2), some (.ref x3), some (.int x4), none, none, none] [] u) (x0 : Nat) (x1 : Nat) (x2 : Nat) (x3 : Nat) (x4 : Int32) (u : Option rx_H) (h : f_L_law_1668 F k33 x0 x1 x2 x3 x4 u = some z) : rx_S l G ("SetHouseLaw", code, 8, false, true, D) hf (z.2.getD hf) rx_hI z 1668 [some (.ref x0), some (.ref x1), some (.ref x2), some (.ref x3), some (.int x4), none, none, none] [] u := by
  rw [g_L_law_1668] at h
  refine rx_S_node (md := ("SetHouseLaw", code, 8, false, true, D)) tk_L_law hC rx_m_hI (fun t ls st u h => ?_) h
  unfold kk_L_law_1668 at h
  rcases rx_rec_eq h with ⟨hb, h⟩ | ⟨hb, h⟩
  · have ht := Nat.eq_of_beq_eq_true hb
    subst ht
    unfold n_L_law_33 at h
    split at h
    · exact (hk33 _ _ _ _ _ _ h).le ⟨Or.inr rfl, Or.inr rfl, Or.inr rfl, Or.inr rfl, Or.inr rfl, Or.inl rfl, Or.inl rfl, Or.inl rfl, trivial⟩
    · cases h
  cases h
theorem s_L_law_1693 {F : Nat × Nat} {l : Launch} {G : rx_G} {D : Nat} {hf : rx_H} {z : (Int32 × Option rx_H)} (hC : rx_CC l G D (C_L_law F) z) {k33 : Nat → Nat → Nat → Nat → Int32 → Option rx_H → Option (Int32 × Option rx_H)} (hk33 : ∀ (x0 : Nat) (x1 : Nat) (x2 : Nat) (x3 : Nat) (x4 : Int32) (u : Option rx_H), k33 x0 x1 x2 x3 x4 u = some z → rx_S l G ("SetHouseLaw", code, 8, false, true, D) hf (z.2.getD hf) rx_hI z 33 [some (.ref x0), some (.ref x1), some (.ref x2), some (.ref x3), some (.int x4), none, none, none] [] u) (x0 : Nat) (x1 : Nat) (x2 : Nat) (x3 : Nat) (x4 : Int32) (u : Option rx_H) (h : f_L_law_1693 F k33 x0 x1 x2 x3 x4 u = some z) : rx_S l G ("SetHouseLaw", code, 8, false, true, D) hf (z.2.getD hf) rx_hI z 1693 [some (.ref x0), some (.ref x1), some (.ref x2), some (.ref x3), some (.int x4), none, none, none] [] u := by
  rw [g_L_law_1693] at h
  refine rx_S_node (md := ("SetHouseLaw", code, 8, false, true, D)) tk_L_law hC rx_m_hI (fun t ls st u h => ?_) h
  unfold kk_L_law_1693 at h
  rcases rx_rec_eq h with ⟨hb, h⟩ | ⟨hb, h⟩
  · have ht := Nat.eq_of_beq_eq_true hb
    subst ht
    unfold n_L_law_33 at h
    split at h
    · exact (hk33 _ _ _ _ _ _ h).le ⟨Or.inr rfl, Or.inr rfl, Or.inr rfl, Or.inr rfl, Or.inr rfl, Or.inl rfl, Or.inl rfl, Or.inl rfl, trivial⟩
    · cases h
  cases h
theorem s_L_law_1730 {F : Nat × Nat} {l : Launch} {G : rx_G} {D : Nat} {hf : rx_H} {z : (Int32 × Option rx_H)} (hC : rx_CC l G D (C_L_law F) z) {k33 : Nat → Nat → Nat → Nat → Int32 → Option rx_H → Option (Int32 × Option rx_H)} (hk33 : ∀ (x0 : Nat) (x1 : Nat) (x2 : Nat) (x3 : Nat) (x4 : Int32) (u : Option rx_H), k33 x0 x1 x2 x3 x4 u = some z → rx_S l G ("SetHouseLaw", code, 8, false, true, D) hf (z.2.getD hf) rx_hI z 33 [some (.ref x0), some (.ref x1), some (.ref x2), some (.ref x3), some (.int x4), none, none, none] [] u) (x0 : Nat) (x1 : Nat) (x2 : Nat) (x3 : Nat) (x4 : Int32) (u : Option rx_H) (h : f_L_law_1730 F k33 x0 x1 x2 x3 x4 u = some z) : rx_S l G ("SetHouseLaw", code, 8, false, true, D) hf (z.2.getD hf) rx_hI z 1730 [some (.ref x0), some (.ref x1), some (.ref x2), some (.ref x3), some (.int x4), none, none, none] [] u := by
  rw [g_L_law_1730] at h
  refine rx_S_node (md := ("SetHouseLaw", code, 8, false, true, D)) tk_L_law hC rx_m_hI (fun t ls st u h => ?_) h
  unfold kk_L_law_1730 at h
  rcases rx_rec_eq h with ⟨hb, h⟩ | ⟨hb, h⟩
  · have ht := Nat.eq_of_beq_eq_true hb
    subst ht
    unfold n_L_law_33 at h
    split at h
    · exact (hk33 _ _ _ _ _ _ h).le ⟨Or.inr rfl, Or.inr rfl, Or.inr rfl, Or.inr rfl, Or.inr rfl, Or.inl rfl, Or.inl rfl, Or.inl rfl, trivial⟩
    · cases h
  cases h
theorem s_L_law_1779 {F : Nat × Nat} {l : Launch} {G : rx_G} {D : Nat} {hf : rx_H} {z : (Int32 × Option rx_H)} (hC : rx_CC l G D (C_L_law F) z) {k33 : Nat → Nat → Nat → Nat → Int32 → Option rx_H → Option (Int32 × Option rx_H)} (hk33 : ∀ (x0 : Nat) (x1 : Nat) (x2 : Nat) (x3 : Nat) (x4 : Int32) (u : Option rx_H), k33 x0 x1 x2 x3 x4 u = some z → rx_S l G ("SetHouseLaw", code, 8, false, true, D) hf (z.2.getD hf) rx_hI z 33 [some (.ref x0), some (.ref x1), some (.ref x2), some (.ref x3), some (.int x4), none, none, none] [] u) (x0 : Nat) (x1 : Nat) (x2 : Nat) (x3 : Nat) (x4 : Int32) (u : Option rx_H) (h : f_L_law_1779 F k33 x0 x1 x2 x3 x4 u = some z) : rx_S l G ("SetHouseLaw", code, 8, false, true, D) hf (z.2.getD hf) rx_hI z 1779 [some (.ref x0), some (.ref x1), some (.ref x2), some (.ref x3), some (.int x4), none, none, none] [] u := by
  rw [g_L_law_1779] at h
  refine rx_S_node (md := ("SetHouseLaw", code, 8, false, true, D)) tk_L_law hC rx_m_hI (fun t ls st u h => ?_) h
  unfold kk_L_law_1779 at h
  rcases rx_rec_eq h with ⟨hb, h⟩ | ⟨hb, h⟩
  · have ht := Nat.eq_of_beq_eq_true hb
    subst ht
    unfold n_L_law_33 at h
    split at h
    · exact (hk33 _ _ _ _ _ _ h).le ⟨Or.inr rfl, Or.inr rfl, Or.inr rfl, Or.inr rfl, Or.inr rfl, Or.inl rfl, Or.inl rfl, Or.inl rfl, trivial⟩
    · cases h
  cases h
theorem s_L_law_1816 {F : Nat × Nat} {l : Launch} {G : rx_G} {D : Nat} {hf : rx_H} {z : (Int32 × Option rx_H)} (hC : rx_CC l G D (C_L_law F) z) {k33 : Nat → Nat → Nat → Nat → Int32 → Option rx_H → Option (Int32 × Option rx_H)} (hk33 : ∀ (x0 : Nat) (x1 : Nat) (x2 : Nat) (x3 : Nat) (x4 : Int32) (u : Option rx_H), k33 x0 x1 x2 x3 x4 u = some z → rx_S l G ("SetHouseLaw", code, 8, false, true, D) hf (z.2.getD hf) rx_hI z 33 [some (.ref x0), some (.ref x1), some (.ref x2), some (.ref x3), some (.int x4), none, none, none] [] u) (x0 : Nat) (x1 : Nat) (x2 : Nat) (x3 : Nat) (x4 : Int32) (u : Option rx_H) (h : f_L_law_1816 F k33 x0 x1 x2 x3 x4 u = some z) : rx_S l G ("SetHouseLaw", code, 8, false, true, D) hf (z.2.getD hf) rx_hI z 1816 [some (.ref x0), some (.ref x1), some (.ref x2), some (.ref x3), some (.int x4), none, none, none] [] u := by
  rw [g_L_law_1816] at h
  refine rx_S_node (md := ("SetHouseLaw", code, 8, false, true, D)) tk_L_law hC rx_m_hI (fun t ls st u h => ?_) h
  unfold kk_L_law_1816 at h
  rcases rx_rec_eq h with ⟨hb, h⟩ | ⟨hb, h⟩
  · have ht := Nat.eq_of_beq_eq_true hb
    subst ht
    unfold n_L_law_33 at h
    split at h
    · exact (hk33 _ _ _ _ _ _ h).le ⟨Or.inr rfl, Or.inr rfl, Or.inr rfl, Or.inr rfl, Or.inr rfl, Or.inl rfl, Or.inl rfl, Or.inl rfl, trivial⟩
    · cases h
  cases h
theorem s_L_law_1841 {F : Nat × Nat} {l : Launch} {G : rx_G} {D : Nat} {hf : rx_H} {z : (Int32 × Option rx_H)} (hC : rx_CC l G D (C_L_law F) z) {k33 : Nat → Nat → Nat → Nat → Int32 → Option rx_H → Option (Int32 × Option rx_H)} (hk33 : ∀ (x0 : Nat) (x1 : Nat) (x2 : Nat) (x3 : Nat) (x4 : Int32) (u : Option rx_H), k33 x0 x1 x2 x3 x4 u = some z → rx_S l G ("SetHouseLaw", code, 8, false, true, D) hf (z.2.getD hf) rx_hI z 33 [some (.ref x0), some (.ref x1), some (.ref x2), some (.ref x3), some (.int x4), none, none, none] [] u) (x0 : Nat) (x1 : Nat) (x2 : Nat) (x3 : Nat) (x4 : Int32) (u : Option rx_H) (h : f_L_law_1841 F k33 x0 x1 x2 x3 x4 u = some z) : rx_S l G ("SetHouseLaw", code, 8, false, true, D) hf (z.2.getD hf) rx_hI z 1841 [some (.ref x0), some (.ref x1), some (.ref x2), some (.ref x3), some (.int x4), none, none, none] [] u := by
  rw [g_L_law_1841] at h
  refine rx_S_node (md := ("SetHouseLaw", code, 8, false, true, D)) tk_L_law hC rx_m_hI (fun t ls st u h => ?_) h
  unfold kk_L_law_1841 at h
  rcases rx_rec_eq h with ⟨hb, h⟩ | ⟨hb, h⟩
  · have ht := Nat.eq_of_beq_eq_true hb
    subst ht
    unfold n_L_law_33 at h
    split at h
    · exact (hk33 _ _ _ _ _ _ h).le ⟨Or.inr rfl, Or.inr rfl, Or.inr rfl, Or.inr rfl, Or.inr rfl, Or.inl rfl, Or.inl rfl, Or.inl rfl, trivial⟩
    · cases h
  cases h
theorem s_L_law_1890 {F : Nat × Nat} {l : Launch} {G : rx_G} {D : Nat} {hf : rx_H} {z : (Int32 × Option rx_H)} (hC : rx_CC l G D (C_L_law F) z) {k33 : Nat → Nat → Nat → Nat → Int32 → Option rx_H → Option (Int32 × Option rx_H)} (hk33 : ∀ (x0 : Nat) (x1 : Nat) (x2 : Nat) (x3 : Nat) (x4 : Int32) (u : Option rx_H), k33 x0 x1 x2 x3 x4 u = some z → rx_S l G ("SetHouseLaw", code, 8, false, true, D) hf (z.2.getD hf) rx_hI z 33 [some (.ref x0), some (.ref x1), some (.ref x2), some (.ref x3), some (.int x4), none, none, none] [] u) (x0 : Nat) (x1 : Nat) (x2 : Nat) (x3 : Nat) (x4 : Int32) (u : Option rx_H) (h : f_L_law_1890 F k33 x0 x1 x2 x3 x4 u = some z) : rx_S l G ("SetHouseLaw", code, 8, false, true, D) hf (z.2.getD hf) rx_hI z 1890 [some (.ref x0), some (.ref x1), some (.ref x2), some (.ref x3), some (.int x4), none, none, none] [] u := by
  rw [g_L_law_1890] at h
  refine rx_S_node (md := ("SetHouseLaw", code, 8, false, true, D)) tk_L_law hC rx_m_hI (fun t ls st u h => ?_) h
  unfold kk_L_law_1890 at h
  rcases rx_rec_eq h with ⟨hb, h⟩ | ⟨hb, h⟩
  · have ht := Nat.eq_of_beq_eq_true hb
    subst ht
    unfold n_L_law_33 at h
    split at h
    · exact (hk33 _ _ _ _ _ _ h).le ⟨Or.inr rfl, Or.inr rfl, Or.inr rfl, Or.inr rfl, Or.inr rfl, Or.inl rfl, Or.inl rfl, Or.inl rfl, trivial⟩
    · cases h
  cases h
theorem s_L_law_1971 {F : Nat × Nat} {l : Launch} {G : rx_G} {D : Nat} {hf : rx_H} {z : (Int32 × Option rx_H)} (hC : rx_CC l G D (C_L_law F) z) {k33 : Nat → Nat → Nat → Nat → Int32 → Option rx_H → Option (Int32 × Option rx_H)} (hk33 : ∀ (x0 : Nat) (x1 : Nat) (x2 : Nat) (x3 : Nat) (x4 : Int32) (u : Option rx_H), k33 x0 x1 x2 x3 x4 u = some z → rx_S l G ("SetHouseLaw", code, 8, false, true, D) hf (z.2.getD hf) rx_hI z 33 [some (.ref x0), some (.ref x1), some (.ref x2), some (.ref x3), some (.int x4), none, none, none] [] u) (x0 : Nat) (x1 : Nat) (x2 : Nat) (x3 : Nat) (x4 : Int32) (u : Option rx_H) (h : f_L_law_1971 F k33 x0 x1 x2 x3 x4 u = some z) : rx_S l G ("SetHouseLaw", code, 8, false, true, D) hf (z.2.getD hf) rx_hI z 1971 [some (.ref x0), some (.ref x1), some (.ref x2), some (.ref x3), some (.int x4), none, none, none] [] u := by
  rw [g_L_law_1971] at h
  refine rx_S_node (md := ("SetHouseLaw", code, 8, false, true, D)) tk_L_law hC rx_m_hI (fun t ls st u h => ?_) h
  unfold kk_L_law_1971 at h
  rcases rx_rec_eq h with ⟨hb, h⟩ | ⟨hb, h⟩
  · have ht := Nat.eq_of_beq_eq_true hb
    subst ht
    unfold n_L_law_33 at h
    split at h
    · exact (hk33 _ _ _ _ _ _ h).le ⟨Or.inr rfl, Or.inr rfl, Or.inr rfl, Or.inr rfl, Or.inr rfl, Or.inl rfl, Or.inl rfl, Or.inl rfl, trivial⟩
    · cases h
  cases h
theorem s_L_law_2038 {F : Nat × Nat} {l : Launch} {G : rx_G} {D : Nat} {hf : rx_H} {z : (Int32 × Option rx_H)} (hC : rx_CC l G D (C_L_law F) z) {k33 : Nat → Nat → Nat → Nat → Int32 → Option rx_H → Option (Int32 × Option rx_H)} (hk33 : ∀ (x0 : Nat) (x1 : Nat) (x2 : Nat) (x3 : Nat) (x4 : Int32) (u : Option rx_H), k33 x0 x1 x2 x3 x4 u = some z → rx_S l G ("SetHouseLaw", code, 8, false, true, D) hf (z.2.getD hf) rx_hI z 33 [some (.ref x0), some (.ref x1), some (.ref x2), some (.ref x3), some (.int x4), none, none, none] [] u) (x0 : Nat) (x1 : Nat) (x2 : Nat) (x3 : Nat) (x4 : Int32) (u : Option rx_H) (h : f_L_law_2038 F k33 x0 x1 x2 x3 x4 u = some z) : rx_S l G ("SetHouseLaw", code, 8, false, true, D) hf (z.2.getD hf) rx_hI z 2038 [some (.ref x0), some (.ref x1), some (.ref x2), some (.ref x3), some (.int x4), none, none, none] [] u := by
  rw [g_L_law_2038] at h
  refine rx_S_node (md := ("SetHouseLaw", code, 8, false, true, D)) tk_L_law hC rx_m_hI (fun t ls st u h => ?_) h
  unfold kk_L_law_2038 at h
  rcases rx_rec_eq h with ⟨hb, h⟩ | ⟨hb, h⟩
  · have ht := Nat.eq_of_beq_eq_true hb
    subst ht
    unfold n_L_law_33 at h
    split at h
    · exact (hk33 _ _ _ _ _ _ h).le ⟨Or.inr rfl, Or.inr rfl, Or.inr rfl, Or.inr rfl, Or.inr rfl, Or.inl rfl, Or.inl rfl, Or.inl rfl, trivial⟩
    · cases h
  cases h
theorem s_L_law_2111 {F : Nat × Nat} {l : Launch} {G : rx_G} {D : Nat} {hf : rx_H} {z : (Int32 × Option rx_H)} (hC : rx_CC l G D (C_L_law F) z) {k33 : Nat → Nat → Nat → Nat → Int32 → Option rx_H → Option (Int32 × Option rx_H)} (hk33 : ∀ (x0 : Nat) (x1 : Nat) (x2 : Nat) (x3 : Nat) (x4 : Int32) (u : Option rx_H), k33 x0 x1 x2 x3 x4 u = some z → rx_S l G ("SetHouseLaw", code, 8, false, true, D) hf (z.2.getD hf) rx_hI z 33 [some (.ref x0), some (.ref x1), some (.ref x2), some (.ref x3), some (.int x4), none, none, none] [] u) (x0 : Nat) (x1 : Nat) (x2 : Nat) (x3 : Nat) (x4 : Int32) (u : Option rx_H) (h : f_L_law_2111 F k33 x0 x1 x2 x3 x4 u = some z) : rx_S l G ("SetHouseLaw", code, 8, false, true, D) hf (z.2.getD hf) rx_hI z 2111 [some (.ref x0), some (.ref x1), some (.ref x2), some (.ref x3), some (.int x4), none, none, none] [] u := by
  rw [g_L_law_2111] at h
  refine rx_S_node (md := ("SetHouseLaw", code, 8, false, true, D)) tk_L_law hC rx_m_hI (fun t ls st u h => ?_) h
  unfold kk_L_law_2111 at h
  rcases rx_rec_eq h with ⟨hb, h⟩ | ⟨hb, h⟩
  · have ht := Nat.eq_of_beq_eq_true hb
    subst ht
    unfold n_L_law_33 at h
    split at h
    · exact (hk33 _ _ _ _ _ _ h).le ⟨Or.inr rfl, Or.inr rfl, Or.inr rfl, Or.inr rfl, Or.inr rfl, Or.inl rfl, Or.inl rfl, Or.inl rfl, trivial⟩
    · cases h
  cases h
theorem s_L_law_2148 {F : Nat × Nat} {l : Launch} {G : rx_G} {D : Nat} {hf : rx_H} {z : (Int32 × Option rx_H)} (hC : rx_CC l G D (C_L_law F) z) {k33 : Nat → Nat → Nat → Nat → Int32 → Option rx_H → Option (Int32 × Option rx_H)} (hk33 : ∀ (x0 : Nat) (x1 : Nat) (x2 : Nat) (x3 : Nat) (x4 : Int32) (u : Option rx_H), k33 x0 x1 x2 x3 x4 u = some z → rx_S l G ("SetHouseLaw", code, 8, false, true, D) hf (z.2.getD hf) rx_hI z 33 [some (.ref x0), some (.ref x1), some (.ref x2), some (.ref x3), some (.int x4), none, none, none] [] u) (x0 : Nat) (x1 : Nat) (x2 : Nat) (x3 : Nat) (x4 : Int32) (u : Option rx_H) (h : f_L_law_2148 F k33 x0 x1 x2 x3 x4 u = some z) : rx_S l G ("SetHouseLaw", code, 8, false, true, D) hf (z.2.getD hf) rx_hI z 2148 [some (.ref x0), some (.ref x1), some (.ref x2), some (.ref x3), some (.int x4), none, none, none] [] u := by
  rw [g_L_law_2148] at h
  refine rx_S_node (md := ("SetHouseLaw", code, 8, false, true, D)) tk_L_law hC rx_m_hI (fun t ls st u h => ?_) h
  unfold kk_L_law_2148 at h
  rcases rx_rec_eq h with ⟨hb, h⟩ | ⟨hb, h⟩
  · have ht := Nat.eq_of_beq_eq_true hb
    subst ht
    unfold n_L_law_33 at h
    split at h
    · exact (hk33 _ _ _ _ _ _ h).le ⟨Or.inr rfl, Or.inr rfl, Or.inr rfl, Or.inr rfl, Or.inr rfl, Or.inl rfl, Or.inl rfl, Or.inl rfl, trivial⟩
    · cases h
  cases h
theorem s_L_law_2173 {F : Nat × Nat} {l : Launch} {G : rx_G} {D : Nat} {hf : rx_H} {z : (Int32 × Option rx_H)} (hC : rx_CC l G D (C_L_law F) z) {k33 : Nat → Nat → Nat → Nat → Int32 → Option rx_H → Option (Int32 × Option rx_H)} (hk33 : ∀ (x0 : Nat) (x1 : Nat) (x2 : Nat) (x3 : Nat) (x4 : Int32) (u : Option rx_H), k33 x0 x1 x2 x3 x4 u = some z → rx_S l G ("SetHouseLaw", code, 8, false, true, D) hf (z.2.getD hf) rx_hI z 33 [some (.ref x0), some (.ref x1), some (.ref x2), some (.ref x3), some (.int x4), none, none, none] [] u) (x0 : Nat) (x1 : Nat) (x2 : Nat) (x3 : Nat) (x4 : Int32) (u : Option rx_H) (h : f_L_law_2173 F k33 x0 x1 x2 x3 x4 u = some z) : rx_S l G ("SetHouseLaw", code, 8, false, true, D) hf (z.2.getD hf) rx_hI z 2173 [some (.ref x0), some (.ref x1), some (.ref x2), some (.ref x3), some (.int x4), none, none, none] [] u := by
  rw [g_L_law_2173] at h
  refine rx_S_node (md := ("SetHouseLaw", code, 8, false, true, D)) tk_L_law hC rx_m_hI (fun t ls st u h => ?_) h
  unfold kk_L_law_2173 at h
  rcases rx_rec_eq h with ⟨hb, h⟩ | ⟨hb, h⟩
  · have ht := Nat.eq_of_beq_eq_true hb
    subst ht
    unfold n_L_law_33 at h
    split at h
    · exact (hk33 _ _ _ _ _ _ h).le ⟨Or.inr rfl, Or.inr rfl, Or.inr rfl, Or.inr rfl, Or.inr rfl, Or.inl rfl, Or.inl rfl, Or.inl rfl, trivial⟩
    · cases h
  cases h
theorem s_L_law_33 {F : Nat × Nat} {l : Launch} {G : rx_G} {D : Nat} {hf : rx_H} {z : (Int32 × Option rx_H)} (hC : rx_CC l G D (C_L_law F) z) : ∀ (f : Nat) (x0 : Nat) (x1 : Nat) (x2 : Nat) (x3 : Nat) (x4 : Int32) (u : Option rx_H), f_L_law_33 F f x0 x1 x2 x3 x4 u = some z → rx_S l G ("SetHouseLaw", code, 8, false, true, D) hf (z.2.getD hf) rx_hI z 33 [some (.ref x0), some (.ref x1), some (.ref x2), some (.ref x3), some (.int x4), none, none, none] [] u := by
  intro f
  induction f with
  | zero =>
    intro x0 x1 x2 x3 x4 u h
    cases h
  | succ f ih =>
    intro x0 x1 x2 x3 x4 u h
    rw [g_L_law_33] at h
    refine rx_S_node (md := ("SetHouseLaw", code, 8, false, true, D)) tk_L_law hC rx_m_hI (fun t ls st u h => ?_) h
    unfold kk_L_law_33 at h
    rcases rx_rec_eq h with ⟨hb, h⟩ | ⟨hb, h⟩
    · have ht := Nat.eq_of_beq_eq_true hb
      subst ht
      unfold n_L_law_33 at h
      split at h
      · exact (ih _ _ _ _ _ _ h).le ⟨Or.inr rfl, Or.inr rfl, Or.inr rfl, Or.inr rfl, Or.inr rfl, Or.inl rfl, Or.inl rfl, Or.inl rfl, trivial⟩
      · cases h
    rcases rx_rec_eq h with ⟨hb, h⟩ | ⟨hb, h⟩
    · have ht := Nat.eq_of_beq_eq_true hb
      subst ht
      unfold n_L_law_252 at h
      split at h
      · exact (s_L_law_252 hC ih _ _ _ _ _ _ h).le ⟨Or.inr rfl, Or.inr rfl, Or.inr rfl, Or.inr rfl, Or.inr rfl, Or.inl rfl, Or.inl rfl, Or.inl rfl, trivial⟩
      · cases h
    rcases rx_rec_eq h with ⟨hb, h⟩ | ⟨hb, h⟩
    · have ht := Nat.eq_of_beq_eq_true hb
      subst ht
      unfold n_L_law_301 at h
      split at h
      · exact (s_L_law_301 hC ih _ _ _ _ _ _ h).le ⟨Or.inr rfl, Or.inr rfl, Or.inr rfl, Or.inr rfl, Or.inr rfl, Or.inl rfl, Or.inl rfl, Or.inl rfl, trivial⟩
      · cases h
    rcases rx_rec_eq h with ⟨hb, h⟩ | ⟨hb, h⟩
    · have ht := Nat.eq_of_beq_eq_true hb
      subst ht
      unfold n_L_law_350 at h
      split at h
      · exact (s_L_law_350 hC ih _ _ _ _ _ _ h).le ⟨Or.inr rfl, Or.inr rfl, Or.inr rfl, Or.inr rfl, Or.inr rfl, Or.inl rfl, Or.inl rfl, Or.inl rfl, trivial⟩
      · cases h
    rcases rx_rec_eq h with ⟨hb, h⟩ | ⟨hb, h⟩
    · have ht := Nat.eq_of_beq_eq_true hb
      subst ht
      unfold n_L_law_387 at h
      split at h
      · exact (s_L_law_387 hC ih _ _ _ _ _ _ h).le ⟨Or.inr rfl, Or.inr rfl, Or.inr rfl, Or.inr rfl, Or.inr rfl, Or.inl rfl, Or.inl rfl, Or.inl rfl, trivial⟩
      · cases h
    rcases rx_rec_eq h with ⟨hb, h⟩ | ⟨hb, h⟩
    · have ht := Nat.eq_of_beq_eq_true hb
      subst ht
      unfold n_L_law_424 at h
      split at h
      · exact (s_L_law_424 hC ih _ _ _ _ _ _ h).le ⟨Or.inr rfl, Or.inr rfl, Or.inr rfl, Or.inr rfl, Or.inr rfl, Or.inl rfl, Or.inl rfl, Or.inl rfl, trivial⟩
      · cases h
    rcases rx_rec_eq h with ⟨hb, h⟩ | ⟨hb, h⟩
    · have ht := Nat.eq_of_beq_eq_true hb
      subst ht
      unfold n_L_law_437 at h
      split at h
      · exact (s_L_law_437 hC ih _ _ _ _ _ _ h).le ⟨Or.inr rfl, Or.inr rfl, Or.inr rfl, Or.inr rfl, Or.inr rfl, Or.inl rfl, Or.inl rfl, Or.inl rfl, trivial⟩
      · cases h
    rcases rx_rec_eq h with ⟨hb, h⟩ | ⟨hb, h⟩
    · have ht := Nat.eq_of_beq_eq_true hb
      subst ht
      unfold n_L_law_462 at h
      split at h
      · exact (s_L_law_462 hC ih _ _ _ _ _ _ h).le ⟨Or.inr rfl, Or.inr rfl, Or.inr rfl, Or.inr rfl, Or.inr rfl, Or.inl rfl, Or.inl rfl, Or.inl rfl, trivial⟩
      · cases h
    rcases rx_rec_eq h with ⟨hb, h⟩ | ⟨hb, h⟩
    · have ht := Nat.eq_of_beq_eq_true hb
      subst ht
      unfold n_L_law_487 at h
      split at h
      · exact (s_L_law_487 hC ih _ _ _ _ _ _ h).le ⟨Or.inr rfl, Or.inr rfl, Or.inr rfl, Or.inr rfl, Or.inr rfl, Or.inl rfl, Or.inl rfl, Or.inl rfl, trivial⟩
      · cases h
    rcases rx_rec_eq h with ⟨hb, h⟩ | ⟨hb, h⟩
    · have ht := Nat.eq_of_beq_eq_true hb
      subst ht
      unfold n_L_law_524 at h
      split at h
      · exact (s_L_law_524 hC ih _ _ _ _ _ _ h).le ⟨Or.inr rfl, Or.inr rfl, Or.inr rfl, Or.inr rfl, Or.inr rfl, Or.inl rfl, Or.inl rfl, Or.inl rfl, trivial⟩
      · cases h
    rcases rx_rec_eq h with ⟨hb, h⟩ | ⟨hb, h⟩
    · have ht := Nat.eq_of_beq_eq_true hb
      subst ht
      unfold n_L_law_561 at h
      split at h
      · exact (s_L_law_561 hC ih _ _ _ _ _ _ h).le ⟨Or.inr rfl, Or.inr rfl, Or.inr rfl, Or.inr rfl, Or.inr rfl, Or.inl rfl, Or.inl rfl, Or.inl rfl, trivial⟩
      · cases h
    rcases rx_rec_eq h with ⟨hb, h⟩ | ⟨hb, h⟩
    · have ht := Nat.eq_of_beq_eq_true hb
      subst ht
      unfold n_L_law_598 at h
      split at h
      · exact (s_L_law_598 hC ih _ _ _ _ _ _ h).le ⟨Or.inr rfl, Or.inr rfl, Or.inr rfl, Or.inr rfl, Or.inr rfl, Or.inl rfl, Or.inl rfl, Or.inl rfl, trivial⟩
      · cases h
    rcases rx_rec_eq h with ⟨hb, h⟩ | ⟨hb, h⟩
    · have ht := Nat.eq_of_beq_eq_true hb
      subst ht
      unfold n_L_law_647 at h
      split at h
      · exact (s_L_law_647 hC ih _ _ _ _ _ _ h).le ⟨Or.inr rfl, Or.inr rfl, Or.inr rfl, Or.inr rfl, Or.inr rfl, Or.inl rfl, Or.inl rfl, Or.inl rfl, trivial⟩
      · cases h
    rcases rx_rec_eq h with ⟨hb, h⟩ | ⟨hb, h⟩
    · have ht := Nat.eq_of_beq_eq_true hb
      subst ht
      unfold n_L_law_684 at h
      split at h
      · exact (s_L_law_684 hC ih _ _ _ _ _ _ h).le ⟨Or.inr rfl, Or.inr rfl, Or.inr rfl, Or.inr rfl, Or.inr rfl, Or.inl rfl, Or.inl rfl, Or.inl rfl, trivial⟩
      · cases h
    rcases rx_rec_eq h with ⟨hb, h⟩ | ⟨hb, h⟩
    · have ht := Nat.eq_of_beq_eq_true hb
      subst ht
      unfold n_L_law_721 at h
      split at h
      · exact (s_L_law_721 hC ih _ _ _ _ _ _ h).le ⟨Or.inr rfl, Or.inr rfl, Or.inr rfl, Or.inr rfl, Or.inr rfl, Or.inl rfl, Or.inl rfl, Or.inl rfl, trivial⟩
      · cases h
    rcases rx_rec_eq h with ⟨hb, h⟩ | ⟨hb, h⟩
    · have ht := Nat.eq_of_beq_eq_true hb
      subst ht
      unfold n_L_law_786 at h
      split at h
      · exact (s_L_law_786 hC ih _ _ _ _ _ _ h).le ⟨Or.inr rfl, Or.inr rfl, Or.inr rfl, Or.inr rfl, Or.inr rfl, Or.inl rfl, Or.inl rfl, Or.inl rfl, trivial⟩
      · cases h
    rcases rx_rec_eq h with ⟨hb, h⟩ | ⟨hb, h⟩
    · have ht := Nat.eq_of_beq_eq_true hb
      subst ht
      unfold n_L_law_851 at h
      split at h
      · exact (s_L_law_851 hC ih _ _ _ _ _ _ h).le ⟨Or.inr rfl, Or.inr rfl, Or.inr rfl, Or.inr rfl, Or.inr rfl, Or.inl rfl, Or.inl rfl, Or.inl rfl, trivial⟩
      · cases h
    rcases rx_rec_eq h with ⟨hb, h⟩ | ⟨hb, h⟩
    · have ht := Nat.eq_of_beq_eq_true hb
      subst ht
      unfold n_L_law_912 at h
      split at h
      · exact (s_L_law_912 hC ih _ _ _ _ _ _ h).le ⟨Or.inr rfl, Or.inr rfl, Or.inr rfl, Or.inr rfl, Or.inr rfl, Or.inl rfl, Or.inl rfl, Or.inl rfl, trivial⟩
      · cases h
    rcases rx_rec_eq h with ⟨hb, h⟩ | ⟨hb, h⟩
    · have ht := Nat.eq_of_beq_eq_true hb
      subst ht
      unfold n_L_law_977 at h
      split at h
      · exact (s_L_law_977 hC ih _ _ _ _ _ _ h).le ⟨Or.inr rfl, Or.inr rfl, Or.inr rfl, Or.inr rfl, Or.inr rfl, Or.inl rfl, Or.inl rfl, Or.inl rfl, trivial⟩
      · cases h
    rcases rx_rec_eq h with ⟨hb, h⟩ | ⟨hb, h⟩
    · have ht := Nat.eq_of_beq_eq_true hb
      subst ht
      unfold n_L_law_1026 at h
      split at h
      · exact (s_L_law_1026 hC ih _ _ _ _ _ _ h).le ⟨Or.inr rfl, Or.inr rfl, Or.inr rfl, Or.inr rfl, Or.inr rfl, Or.inl rfl, Or.inl rfl, Or.inl rfl, trivial⟩
      · cases h
    rcases rx_rec_eq h with ⟨hb, h⟩ | ⟨hb, h⟩
    · have ht := Nat.eq_of_beq_eq_true hb
      subst ht
      unfold n_L_law_1075 at h
      split at h
      · exact (s_L_law_1075 hC ih _ _ _ _ _ _ h).le ⟨Or.inr rfl, Or.inr rfl, Or.inr rfl, Or.inr rfl, Or.inr rfl, Or.inl rfl, Or.inl rfl, Or.inl rfl, trivial⟩
      · cases h
    rcases rx_rec_eq h with ⟨hb, h⟩ | ⟨hb, h⟩
    · have ht := Nat.eq_of_beq_eq_true hb
      subst ht
      unfold n_L_law_1124 at h
      split at h
      · exact (s_L_law_1124 hC ih _ _ _ _ _ _ h).le ⟨Or.inr rfl, Or.inr rfl, Or.inr rfl, Or.inr rfl, Or.inr rfl, Or.inl rfl, Or.inl rfl, Or.inl rfl, trivial⟩
      · cases h
    rcases rx_rec_eq h with ⟨hb, h⟩ | ⟨hb, h⟩
    · have ht := Nat.eq_of_beq_eq_true hb
      subst ht
      unfold n_L_law_1149 at h
      split at h
      · exact (s_L_law_1149 hC ih _ _ _ _ _ _ h).le ⟨Or.inr rfl, Or.inr rfl, Or.inr rfl, Or.inr rfl, Or.inr rfl, Or.inl rfl, Or.inl rfl, Or.inl rfl, trivial⟩
      · cases h
    rcases rx_rec_eq h with ⟨hb, h⟩ | ⟨hb, h⟩
    · have ht := Nat.eq_of_beq_eq_true hb
      subst ht
      unfold n_L_law_1198 at h
      split at h
      · exact (s_L_law_1198 hC ih _ _ _ _ _ _ h).le ⟨Or.inr rfl, Or.inr rfl, Or.inr rfl, Or.inr rfl, Or.inr rfl, Or.inl rfl, Or.inl rfl, Or.inl rfl, trivial⟩
      · cases h
    rcases rx_rec_eq h with ⟨hb, h⟩ | ⟨hb, h⟩
    · have ht := Nat.eq_of_beq_eq_true hb
      subst ht
      unfold n_L_law_1223 at h
      split at h
      · exact (s_L_law_1223 hC ih _ _ _ _ _ _ h).le ⟨Or.inr rfl, Or.inr rfl, Or.inr rfl, Or.inr rfl, Or.inr rfl, Or.inl rfl, Or.inl rfl, Or.inl rfl, trivial⟩
      · cases h
    rcases rx_rec_eq h with ⟨hb, h⟩ | ⟨hb, h⟩
    · have ht := Nat.eq_of_beq_eq_true hb
      subst ht
      unfold n_L_law_1248 at h
      split at h
      · exact (s_L_law_1248 hC ih _ _ _ _ _ _ h).le ⟨Or.inr rfl, Or.inr rfl, Or.inr rfl, Or.inr rfl, Or.inr rfl, Or.inl rfl, Or.inl rfl, Or.inl rfl, trivial⟩
      · cases h
    rcases rx_rec_eq h with ⟨hb, h⟩ | ⟨hb, h⟩
    · have ht := Nat.eq_of_beq_eq_true hb
      subst ht
      unfold n_L_law_1285 at h
      split at h
      · exact (s_L_law_1285 hC ih _ _ _ _ _ _ h).le ⟨Or.inr rfl, Or.inr rfl, Or.inr rfl, Or.inr rfl, Or.inr rfl, Or.inl rfl, Or.inl rfl, Or.inl rfl, trivial⟩
      · cases h
    rcases rx_rec_eq h with ⟨hb, h⟩ | ⟨hb, h⟩
    · have ht := Nat.eq_of_beq_eq_true hb
      subst ht
      unfold n_L_law_1334 at h
      split at h
      · exact (s_L_law_1334 hC ih _ _ _ _ _ _ h).le ⟨Or.inr rfl, Or.inr rfl, Or.inr rfl, Or.inr rfl, Or.inr rfl, Or.inl rfl, Or.inl rfl, Or.inl rfl, trivial⟩
      · cases h
    rcases rx_rec_eq h with ⟨hb, h⟩ | ⟨hb, h⟩
    · have ht := Nat.eq_of_beq_eq_true hb
      subst ht
      unfold n_L_law_1371 at h
      split at h
      · exact (s_L_law_1371 hC ih _ _ _ _ _ _ h).le ⟨Or.inr rfl, Or.inr rfl, Or.inr rfl, Or.inr rfl, Or.inr rfl, Or.inl rfl, Or.inl rfl, Or.inl rfl, trivial⟩
      · cases h
    rcases rx_rec_eq h with ⟨hb, h⟩ | ⟨hb, h⟩
    · have ht := Nat.eq_of_beq_eq_true hb
      subst ht
      unfold n_L_law_1408 at h
      split at h
      · exact (s_L_law_1408 hC ih _ _ _ _ _ _ h).le ⟨Or.inr rfl, Or.inr rfl, Or.inr rfl, Or.inr rfl, Or.inr rfl, Or.inl rfl, Or.inl rfl, Or.inl rfl, trivial⟩
      · cases h
    rcases rx_rec_eq h with ⟨hb, h⟩ | ⟨hb, h⟩
    · have ht := Nat.eq_of_beq_eq_true hb
      subst ht
      unfold n_L_law_1457 at h
      split at h
      · exact (s_L_law_1457 hC ih _ _ _ _ _ _ h).le ⟨Or.inr rfl, Or.inr rfl, Or.inr rfl, Or.inr rfl, Or.inr rfl, Or.inl rfl, Or.inl rfl, Or.inl rfl, trivial⟩
      · cases h
    rcases rx_rec_eq h with ⟨hb, h⟩ | ⟨hb, h⟩
    · have ht := Nat.eq_of_beq_eq_true hb
      subst ht
      unfold n_L_law_1507 at h
      split at h
      · exact (s_L_law_1507 hC ih _ _ _ _ _ _ h).le ⟨Or.inr rfl, Or.inr rfl, Or.inr rfl, Or.inr rfl, Or.inr rfl, Or.inl rfl, Or.inl rfl, Or.inl rfl, trivial⟩
      · cases h
    rcases rx_rec_eq h with ⟨hb, h⟩ | ⟨hb, h⟩
    · have ht := Nat.eq_of_beq_eq_true hb
      subst ht
      unfold n_L_law_1544 at h
      split at h
      · exact (s_L_law_1544 hC ih _ _ _ _ _ _ h).le ⟨Or.inr rfl, Or.inr rfl, Or.inr rfl, Or.inr rfl, Or.inr rfl, Or.inl rfl, Or.inl rfl, Or.inl rfl, trivial⟩
      · cases h
    rcases rx_rec_eq h with ⟨hb, h⟩ | ⟨hb, h⟩
    · have ht := Nat.eq_of_beq_eq_true hb
      subst ht
      unfold n_L_law_1581 at h
      split at h
      · exact (s_L_law_1581 hC ih _ _ _ _ _ _ h).le ⟨Or.inr rfl, Or.inr rfl, Or.inr rfl, Or.inr rfl, Or.inr rfl, Or.inl rfl, Or.inl rfl, Or.inl rfl, trivial⟩
      · cases h
    rcases rx_rec_eq h with ⟨hb, h⟩ | ⟨hb, h⟩
    · have ht := Nat.eq_of_beq_eq_true hb
      subst ht
      unfold n_L_law_1618 at h
      split at h
      · exact (s_L_law_1618 hC ih _ _ _ _ _ _ h).le ⟨Or.inr rfl, Or.inr rfl, Or.inr rfl, Or.inr rfl, Or.inr rfl, Or.inl rfl, Or.inl rfl, Or.inl rfl, trivial⟩
      · cases h
    rcases rx_rec_eq h with ⟨hb, h⟩ | ⟨hb, h⟩
    · have ht := Nat.eq_of_beq_eq_true hb
      subst ht
      unfold n_L_law_1643 at h
      split at h
      · exact (s_L_law_1643 hC ih _ _ _ _ _ _ h).le ⟨Or.inr rfl, Or.inr rfl, Or.inr rfl, Or.inr rfl, Or.inr rfl, Or.inl rfl, Or.inl rfl, Or.inl rfl, trivial⟩
      · cases h
    rcases rx_rec_eq h with ⟨hb, h⟩ | ⟨hb, h⟩
    · have ht := Nat.eq_of_beq_eq_true hb
      subst ht
      unfold n_L_law_1668 at h
      split at h
      · exact (s_L_law_1668 hC ih _ _ _ _ _ _ h).le ⟨Or.inr rfl, Or.inr rfl, Or.inr rfl, Or.inr rfl, Or.inr rfl, Or.inl rfl, Or.inl rfl, Or.inl rfl, trivial⟩
      · cases h
    rcases rx_rec_eq h with ⟨hb, h⟩ | ⟨hb, h⟩
    · have ht := Nat.eq_of_beq_eq_true hb
      subst ht
      unfold n_L_law_1693 at h
      split at h
      · exact (s_L_law_1693 hC ih _ _ _ _ _ _ h).le ⟨Or.inr rfl, Or.inr rfl, Or.inr rfl, Or.inr rfl, Or.inr rfl, Or.inl rfl, Or.inl rfl, Or.inl rfl, trivial⟩
      · cases h
    rcases rx_rec_eq h with ⟨hb, h⟩ | ⟨hb, h⟩
    · have ht := Nat.eq_of_beq_eq_true hb
      subst ht
      unfold n_L_law_1730 at h
      split at h
      · exact (s_L_law_1730 hC ih _ _ _ _ _ _ h).le ⟨Or.inr rfl, Or.inr rfl, Or.inr rfl, Or.inr rfl, Or.inr rfl, Or.inl rfl, Or.inl rfl, Or.inl rfl, trivial⟩
      · cases h
    rcases rx_rec_eq h with ⟨hb, h⟩ | ⟨hb, h⟩
    · have ht := Nat.eq_of_beq_eq_true hb
      subst ht
      unfold n_L_law_1779 at h
      split at h
      · exact (s_L_law_1779 hC ih _ _ _ _ _ _ h).le ⟨Or.inr rfl, Or.inr rfl, Or.inr rfl, Or.inr rfl, Or.inr rfl, Or.inl rfl, Or.inl rfl, Or.inl rfl, trivial⟩
      · cases h
    rcases rx_rec_eq h with ⟨hb, h⟩ | ⟨hb, h⟩
    · have ht := Nat.eq_of_beq_eq_true hb
      subst ht
      unfold n_L_law_1816 at h
      split at h
      · exact (s_L_law_1816 hC ih _ _ _ _ _ _ h).le ⟨Or.inr rfl, Or.inr rfl, Or.inr rfl, Or.inr rfl, Or.inr rfl, Or.inl rfl, Or.inl rfl, Or.inl rfl, trivial⟩
      · cases h
    rcases rx_rec_eq h with ⟨hb, h⟩ | ⟨hb, h⟩
    · have ht := Nat.eq_of_beq_eq_true hb
      subst ht
      unfold n_L_law_1841 at h
      split at h
      · exact (s_L_law_1841 hC ih _ _ _ _ _ _ h).le ⟨Or.inr rfl, Or.inr rfl, Or.inr rfl, Or.inr rfl, Or.inr rfl, Or.inl rfl, Or.inl rfl, Or.inl rfl, trivial⟩
      · cases h
    rcases rx_rec_eq h with ⟨hb, h⟩ | ⟨hb, h⟩
    · have ht := Nat.eq_of_beq_eq_true hb
      subst ht
      unfold n_L_law_1890 at h
      split at h
      · exact (s_L_law_1890 hC ih _ _ _ _ _ _ h).le ⟨Or.inr rfl, Or.inr rfl, Or.inr rfl, Or.inr rfl, Or.inr rfl, Or.inl rfl, Or.inl rfl, Or.inl rfl, trivial⟩
      · cases h
    rcases rx_rec_eq h with ⟨hb, h⟩ | ⟨hb, h⟩
    · have ht := Nat.eq_of_beq_eq_true hb
      subst ht
      unfold n_L_law_1971 at h
      split at h
      · exact (s_L_law_1971 hC ih _ _ _ _ _ _ h).le ⟨Or.inr rfl, Or.inr rfl, Or.inr rfl, Or.inr rfl, Or.inr rfl, Or.inl rfl, Or.inl rfl, Or.inl rfl, trivial⟩
      · cases h
    rcases rx_rec_eq h with ⟨hb, h⟩ | ⟨hb, h⟩
    · have ht := Nat.eq_of_beq_eq_true hb
      subst ht
      unfold n_L_law_2038 at h
      split at h
      · exact (s_L_law_2038 hC ih _ _ _ _ _ _ h).le ⟨Or.inr rfl, Or.inr rfl, Or.inr rfl, Or.inr rfl, Or.inr rfl, Or.inl rfl, Or.inl rfl, Or.inl rfl, trivial⟩
      · cases h
    rcases rx_rec_eq h with ⟨hb, h⟩ | ⟨hb, h⟩
    · have ht := Nat.eq_of_beq_eq_true hb
      subst ht
      unfold n_L_law_2111 at h
      split at h
      · exact (s_L_law_2111 hC ih _ _ _ _ _ _ h).le ⟨Or.inr rfl, Or.inr rfl, Or.inr rfl, Or.inr rfl, Or.inr rfl, Or.inl rfl, Or.inl rfl, Or.inl rfl, trivial⟩
      · cases h
    rcases rx_rec_eq h with ⟨hb, h⟩ | ⟨hb, h⟩
    · have ht := Nat.eq_of_beq_eq_true hb
      subst ht
      unfold n_L_law_2148 at h
      split at h
      · exact (s_L_law_2148 hC ih _ _ _ _ _ _ h).le ⟨Or.inr rfl, Or.inr rfl, Or.inr rfl, Or.inr rfl, Or.inr rfl, Or.inl rfl, Or.inl rfl, Or.inl rfl, trivial⟩
      · cases h
    rcases rx_rec_eq h with ⟨hb, h⟩ | ⟨hb, h⟩
    · have ht := Nat.eq_of_beq_eq_true hb
      subst ht
      unfold n_L_law_2173 at h
      split at h
      · exact (s_L_law_2173 hC ih _ _ _ _ _ _ h).le ⟨Or.inr rfl, Or.inr rfl, Or.inr rfl, Or.inr rfl, Or.inr rfl, Or.inl rfl, Or.inl rfl, Or.inl rfl, trivial⟩
      · cases h
    cases h
theorem s_L_law_0 {F : Nat × Nat} {l : Launch} {G : rx_G} {D : Nat} {hf : rx_H} {z : (Int32 × Option rx_H)} (hC : rx_CC l G D (C_L_law F) z) (x0 : Nat) (u : Option rx_H) (h : f_L_law_0 F x0 u = some z) : rx_S l G ("SetHouseLaw", code, 8, false, true, D) hf (z.2.getD hf) rx_hI z 0 [some (.ref x0), none, none, none, none, none, none, none] [] u := by
  rw [g_L_law_0] at h
  refine rx_S_node (md := ("SetHouseLaw", code, 8, false, true, D)) tk_L_law hC rx_m_hI (fun t ls st u h => ?_) h
  unfold kk_L_law_0 at h
  rcases rx_rec_eq h with ⟨hb, h⟩ | ⟨hb, h⟩
  · have ht := Nat.eq_of_beq_eq_true hb
    subst ht
    unfold n_L_law_33 at h
    split at h
    · exact (s_L_law_33 hC _ _ _ _ _ _ _ h).le ⟨Or.inr rfl, Or.inr rfl, Or.inr rfl, Or.inr rfl, Or.inr rfl, Or.inl rfl, Or.inl rfl, Or.inl rfl, trivial⟩
    · cases h
  cases h
theorem cc_L_law {l : Launch} (hl : l.stackTraces = false) (F : Nat × Nat) (G : rx_G) {α : Type} (z : α) : rx_CC l G (13 + 1 * F.2) (C_L_law F) z := by
  intro j as u κ h
  unfold C_L_law at h
  rcases rx_rec_eq h with ⟨hb, h⟩ | ⟨hb, h⟩
  · have ht := Nat.eq_of_beq_eq_true hb
    subst ht
    exact (w_L_cell F l G h).deep (by omega)
  rcases rx_rec_eq h with ⟨hb, h⟩ | ⟨hb, h⟩
  · have ht := Nat.eq_of_beq_eq_true hb
    subst ht
    exact (w_L_element hl F G h).deep (by omega)
  rcases rx_rec_eq h with ⟨hb, h⟩ | ⟨hb, h⟩
  · have ht := Nat.eq_of_beq_eq_true hb
    subst ht
    exact (w_X6_add F l G h).deep (by omega)
  rcases rx_rec_eq h with ⟨hb, h⟩ | ⟨hb, h⟩
  · have ht := Nat.eq_of_beq_eq_true hb
    subst ht
    exact (w_X6_cascade F l G h).deep (by omega)
  rcases rx_rec_eq h with ⟨hb, h⟩ | ⟨hb, h⟩
  · have ht := Nat.eq_of_beq_eq_true hb
    subst ht
    exact (w_X6_chain F l G h).deep (by omega)
  rcases rx_rec_eq h with ⟨hb, h⟩ | ⟨hb, h⟩
  · have ht := Nat.eq_of_beq_eq_true hb
    subst ht
    exact (w_X6_clash F l G h).deep (by omega)
  rcases rx_rec_eq h with ⟨hb, h⟩ | ⟨hb, h⟩
  · have ht := Nat.eq_of_beq_eq_true hb
    subst ht
    exact (w_X6_closed F l G h).deep (by omega)
  rcases rx_rec_eq h with ⟨hb, h⟩ | ⟨hb, h⟩
  · have ht := Nat.eq_of_beq_eq_true hb
    subst ht
    exact (w_X6_copy F l G h).deep (by omega)
  rcases rx_rec_eq h with ⟨hb, h⟩ | ⟨hb, h⟩
  · have ht := Nat.eq_of_beq_eq_true hb
    subst ht
    exact (w_X6_count F l G h).deep (by omega)
  rcases rx_rec_eq h with ⟨hb, h⟩ | ⟨hb, h⟩
  · have ht := Nat.eq_of_beq_eq_true hb
    subst ht
    exact (w_X6_cover F l G h).deep (by omega)
  rcases rx_rec_eq h with ⟨hb, h⟩ | ⟨hb, h⟩
  · have ht := Nat.eq_of_beq_eq_true hb
    subst ht
    exact (w_X6_cross F l G h).deep (by omega)
  rcases rx_rec_eq h with ⟨hb, h⟩ | ⟨hb, h⟩
  · have ht := Nat.eq_of_beq_eq_true hb
    subst ht
    exact (w_X6_drop F l G h).deep (by omega)
  rcases rx_rec_eq h with ⟨hb, h⟩ | ⟨hb, h⟩
  · have ht := Nat.eq_of_beq_eq_true hb
    subst ht
    exact (w_X6_empty F l G h).deep (by omega)
  rcases rx_rec_eq h with ⟨hb, h⟩ | ⟨hb, h⟩
  · have ht := Nat.eq_of_beq_eq_true hb
    subst ht
    exact (w_X6_ends F l G h).deep (by omega)
  rcases rx_rec_eq h with ⟨hb, h⟩ | ⟨hb, h⟩
  · have ht := Nat.eq_of_beq_eq_true hb
    subst ht
    exact (w_X6_first F l G h).deep (by omega)
  rcases rx_rec_eq h with ⟨hb, h⟩ | ⟨hb, h⟩
  · have ht := Nat.eq_of_beq_eq_true hb
    subst ht
    exact (w_X6_flower F l G h).deep (by omega)
  rcases rx_rec_eq h with ⟨hb, h⟩ | ⟨hb, h⟩
  · have ht := Nat.eq_of_beq_eq_true hb
    subst ht
    exact (w_X6_greatest F l G h).deep (by omega)
  rcases rx_rec_eq h with ⟨hb, h⟩ | ⟨hb, h⟩
  · have ht := Nat.eq_of_beq_eq_true hb
    subst ht
    exact (w_X6_has F l G h).deep (by omega)
  rcases rx_rec_eq h with ⟨hb, h⟩ | ⟨hb, h⟩
  · have ht := Nat.eq_of_beq_eq_true hb
    subst ht
    exact (w_X6_heft F l G h).deep (by omega)
  rcases rx_rec_eq h with ⟨hb, h⟩ | ⟨hb, h⟩
  · have ht := Nat.eq_of_beq_eq_true hb
    subst ht
    exact (w_X6_holds F l G h).deep (by omega)
  rcases rx_rec_eq h with ⟨hb, h⟩ | ⟨hb, h⟩
  · have ht := Nat.eq_of_beq_eq_true hb
    subst ht
    exact (w_X6_init F l G h).deep (by omega)
  rcases rx_rec_eq h with ⟨hb, h⟩ | ⟨hb, h⟩
  · have ht := Nat.eq_of_beq_eq_true hb
    subst ht
    exact (w_X6_is F l G h).deep (by omega)
  rcases rx_rec_eq h with ⟨hb, h⟩ | ⟨hb, h⟩
  · have ht := Nat.eq_of_beq_eq_true hb
    subst ht
    exact (w_X6_least F l G h).deep (by omega)
  rcases rx_rec_eq h with ⟨hb, h⟩ | ⟨hb, h⟩
  · have ht := Nat.eq_of_beq_eq_true hb
    subst ht
    exact (w_X6_loose F l G h).deep (by omega)
  rcases rx_rec_eq h with ⟨hb, h⟩ | ⟨hb, h⟩
  · have ht := Nat.eq_of_beq_eq_true hb
    subst ht
    exact (w_X6_make F l G h).deep (by omega)
  rcases rx_rec_eq h with ⟨hb, h⟩ | ⟨hb, h⟩
  · have ht := Nat.eq_of_beq_eq_true hb
    subst ht
    exact (w_X6_matters F l G h).deep (by omega)
  rcases rx_rec_eq h with ⟨hb, h⟩ | ⟨hb, h⟩
  · have ht := Nat.eq_of_beq_eq_true hb
    subst ht
    exact (w_X6_mix F l G h).deep (by omega)
  rcases rx_rec_eq h with ⟨hb, h⟩ | ⟨hb, h⟩
  · have ht := Nat.eq_of_beq_eq_true hb
    subst ht
    exact (w_X6_petal F l G h).deep (by omega)
  rcases rx_rec_eq h with ⟨hb, h⟩ | ⟨hb, h⟩
  · have ht := Nat.eq_of_beq_eq_true hb
    subst ht
    exact (w_X6_product F l G h).deep (by omega)
  rcases rx_rec_eq h with ⟨hb, h⟩ | ⟨hb, h⟩
  · have ht := Nat.eq_of_beq_eq_true hb
    subst ht
    exact (w_X6_push F l G h).deep (by omega)
  rcases rx_rec_eq h with ⟨hb, h⟩ | ⟨hb, h⟩
  · have ht := Nat.eq_of_beq_eq_true hb
    subst ht
    exact (w_X6_pushed F l G h).deep (by omega)
  rcases rx_rec_eq h with ⟨hb, h⟩ | ⟨hb, h⟩
  · have ht := Nat.eq_of_beq_eq_true hb
    subst ht
    exact (w_X6_put F l G h).deep (by omega)
  rcases rx_rec_eq h with ⟨hb, h⟩ | ⟨hb, h⟩
  · have ht := Nat.eq_of_beq_eq_true hb
    subst ht
    exact (w_X6_rank F l G h).deep (by omega)
  rcases rx_rec_eq h with ⟨hb, h⟩ | ⟨hb, h⟩
  · have ht := Nat.eq_of_beq_eq_true hb
    subst ht
    exact (w_X6_ranked F l G h).deep (by omega)
  rcases rx_rec_eq h with ⟨hb, h⟩ | ⟨hb, h⟩
  · have ht := Nat.eq_of_beq_eq_true hb
    subst ht
    exact (w_X6_rest F l G h).deep (by omega)
  rcases rx_rec_eq h with ⟨hb, h⟩ | ⟨hb, h⟩
  · have ht := Nat.eq_of_beq_eq_true hb
    subst ht
    exact (w_X6_ring F l G h).deep (by omega)
  rcases rx_rec_eq h with ⟨hb, h⟩ | ⟨hb, h⟩
  · have ht := Nat.eq_of_beq_eq_true hb
    subst ht
    exact (w_X6_row F l G h).deep (by omega)
  rcases rx_rec_eq h with ⟨hb, h⟩ | ⟨hb, h⟩
  · have ht := Nat.eq_of_beq_eq_true hb
    subst ht
    exact (w_X6_same F l G h).deep (by omega)
  rcases rx_rec_eq h with ⟨hb, h⟩ | ⟨hb, h⟩
  · have ht := Nat.eq_of_beq_eq_true hb
    subst ht
    exact (w_X6_set F l G h).deep (by omega)
  rcases rx_rec_eq h with ⟨hb, h⟩ | ⟨hb, h⟩
  · have ht := Nat.eq_of_beq_eq_true hb
    subst ht
    exact (w_X6_shadow F l G h).deep (by omega)
  rcases rx_rec_eq h with ⟨hb, h⟩ | ⟨hb, h⟩
  · have ht := Nat.eq_of_beq_eq_true hb
    subst ht
    exact (w_X6_shattered F l G h).deep (by omega)
  rcases rx_rec_eq h with ⟨hb, h⟩ | ⟨hb, h⟩
  · have ht := Nat.eq_of_beq_eq_true hb
    subst ht
    exact (w_X6_sum F l G h).deep (by omega)
  rcases rx_rec_eq h with ⟨hb, h⟩ | ⟨hb, h⟩
  · have ht := Nat.eq_of_beq_eq_true hb
    subst ht
    exact (w_X6_take F l G h).deep (by omega)
  rcases rx_rec_eq h with ⟨hb, h⟩ | ⟨hb, h⟩
  · have ht := Nat.eq_of_beq_eq_true hb
    subst ht
    exact (w_X6_toss hl F G h).deep (by omega)
  rcases rx_rec_eq h with ⟨hb, h⟩ | ⟨hb, h⟩
  · have ht := Nat.eq_of_beq_eq_true hb
    subst ht
    exact (w_X6_trace F l G h).deep (by omega)
  rcases rx_rec_eq h with ⟨hb, h⟩ | ⟨hb, h⟩
  · have ht := Nat.eq_of_beq_eq_true hb
    subst ht
    exact (w_X6_turned F l G h).deep (by omega)
  rcases rx_rec_eq h with ⟨hb, h⟩ | ⟨hb, h⟩
  · have ht := Nat.eq_of_beq_eq_true hb
    subst ht
    exact (w_X6_turns F l G h).deep (by omega)
  rcases rx_rec_eq h with ⟨hb, h⟩ | ⟨hb, h⟩
  · have ht := Nat.eq_of_beq_eq_true hb
    subst ht
    exact (w_X6_up F l G h).deep (by omega)
  rcases rx_rec_eq h with ⟨hb, h⟩ | ⟨hb, h⟩
  · have ht := Nat.eq_of_beq_eq_true hb
    subst ht
    exact (w_X6_weight F l G h).deep (by omega)
  rcases rx_rec_eq h with ⟨hb, h⟩ | ⟨hb, h⟩
  · have ht := Nat.eq_of_beq_eq_true hb
    subst ht
    exact (w_X7_add F l G h).deep (by omega)
  rcases rx_rec_eq h with ⟨hb, h⟩ | ⟨hb, h⟩
  · have ht := Nat.eq_of_beq_eq_true hb
    subst ht
    exact (w_X7_cascade F l G h).deep (by omega)
  rcases rx_rec_eq h with ⟨hb, h⟩ | ⟨hb, h⟩
  · have ht := Nat.eq_of_beq_eq_true hb
    subst ht
    exact (w_X7_chain F l G h).deep (by omega)
  rcases rx_rec_eq h with ⟨hb, h⟩ | ⟨hb, h⟩
  · have ht := Nat.eq_of_beq_eq_true hb
    subst ht
    exact (w_X7_clash F l G h).deep (by omega)
  rcases rx_rec_eq h with ⟨hb, h⟩ | ⟨hb, h⟩
  · have ht := Nat.eq_of_beq_eq_true hb
    subst ht
    exact (w_X7_closed F l G h).deep (by omega)
  rcases rx_rec_eq h with ⟨hb, h⟩ | ⟨hb, h⟩
  · have ht := Nat.eq_of_beq_eq_true hb
    subst ht
    exact (w_X7_copy F l G h).deep (by omega)
  rcases rx_rec_eq h with ⟨hb, h⟩ | ⟨hb, h⟩
  · have ht := Nat.eq_of_beq_eq_true hb
    subst ht
    exact (w_X7_count F l G h).deep (by omega)
  rcases rx_rec_eq h with ⟨hb, h⟩ | ⟨hb, h⟩
  · have ht := Nat.eq_of_beq_eq_true hb
    subst ht
    exact (w_X7_cover F l G h).deep (by omega)
  rcases rx_rec_eq h with ⟨hb, h⟩ | ⟨hb, h⟩
  · have ht := Nat.eq_of_beq_eq_true hb
    subst ht
    exact (w_X7_cross F l G h).deep (by omega)
  rcases rx_rec_eq h with ⟨hb, h⟩ | ⟨hb, h⟩
  · have ht := Nat.eq_of_beq_eq_true hb
    subst ht
    exact (w_X7_drop F l G h).deep (by omega)
  rcases rx_rec_eq h with ⟨hb, h⟩ | ⟨hb, h⟩
  · have ht := Nat.eq_of_beq_eq_true hb
    subst ht
    exact (w_X7_element F l G h).deep (by omega)
  rcases rx_rec_eq h with ⟨hb, h⟩ | ⟨hb, h⟩
  · have ht := Nat.eq_of_beq_eq_true hb
    subst ht
    exact (w_X7_empty F l G h).deep (by omega)
  rcases rx_rec_eq h with ⟨hb, h⟩ | ⟨hb, h⟩
  · have ht := Nat.eq_of_beq_eq_true hb
    subst ht
    exact (w_X7_ends F l G h).deep (by omega)
  rcases rx_rec_eq h with ⟨hb, h⟩ | ⟨hb, h⟩
  · have ht := Nat.eq_of_beq_eq_true hb
    subst ht
    exact (w_X7_first F l G h).deep (by omega)
  rcases rx_rec_eq h with ⟨hb, h⟩ | ⟨hb, h⟩
  · have ht := Nat.eq_of_beq_eq_true hb
    subst ht
    exact (w_X7_flower F l G h).deep (by omega)
  rcases rx_rec_eq h with ⟨hb, h⟩ | ⟨hb, h⟩
  · have ht := Nat.eq_of_beq_eq_true hb
    subst ht
    exact (w_X7_greatest F l G h).deep (by omega)
  rcases rx_rec_eq h with ⟨hb, h⟩ | ⟨hb, h⟩
  · have ht := Nat.eq_of_beq_eq_true hb
    subst ht
    exact (w_X7_has_ F l G h).deep (by omega)
  rcases rx_rec_eq h with ⟨hb, h⟩ | ⟨hb, h⟩
  · have ht := Nat.eq_of_beq_eq_true hb
    subst ht
    exact (w_X7_heft F l G h).deep (by omega)
  rcases rx_rec_eq h with ⟨hb, h⟩ | ⟨hb, h⟩
  · have ht := Nat.eq_of_beq_eq_true hb
    subst ht
    exact (w_X7_holds F l G h).deep (by omega)
  rcases rx_rec_eq h with ⟨hb, h⟩ | ⟨hb, h⟩
  · have ht := Nat.eq_of_beq_eq_true hb
    subst ht
    exact (w_X7_init F l G h).deep (by omega)
  rcases rx_rec_eq h with ⟨hb, h⟩ | ⟨hb, h⟩
  · have ht := Nat.eq_of_beq_eq_true hb
    subst ht
    exact (w_X7_is F l G h).deep (by omega)
  rcases rx_rec_eq h with ⟨hb, h⟩ | ⟨hb, h⟩
  · have ht := Nat.eq_of_beq_eq_true hb
    subst ht
    exact (w_X7_least F l G h).deep (by omega)
  rcases rx_rec_eq h with ⟨hb, h⟩ | ⟨hb, h⟩
  · have ht := Nat.eq_of_beq_eq_true hb
    subst ht
    exact (w_X7_loose F l G h).deep (by omega)
  rcases rx_rec_eq h with ⟨hb, h⟩ | ⟨hb, h⟩
  · have ht := Nat.eq_of_beq_eq_true hb
    subst ht
    exact (w_X7_make F l G h).deep (by omega)
  rcases rx_rec_eq h with ⟨hb, h⟩ | ⟨hb, h⟩
  · have ht := Nat.eq_of_beq_eq_true hb
    subst ht
    exact (w_X7_matters F l G h).deep (by omega)
  rcases rx_rec_eq h with ⟨hb, h⟩ | ⟨hb, h⟩
  · have ht := Nat.eq_of_beq_eq_true hb
    subst ht
    exact (w_X7_mix F l G h).deep (by omega)
  rcases rx_rec_eq h with ⟨hb, h⟩ | ⟨hb, h⟩
  · have ht := Nat.eq_of_beq_eq_true hb
    subst ht
    exact (w_X7_petal F l G h).deep (by omega)
  rcases rx_rec_eq h with ⟨hb, h⟩ | ⟨hb, h⟩
  · have ht := Nat.eq_of_beq_eq_true hb
    subst ht
    exact (w_X7_product F l G h).deep (by omega)
  rcases rx_rec_eq h with ⟨hb, h⟩ | ⟨hb, h⟩
  · have ht := Nat.eq_of_beq_eq_true hb
    subst ht
    exact (w_X7_push F l G h).deep (by omega)
  rcases rx_rec_eq h with ⟨hb, h⟩ | ⟨hb, h⟩
  · have ht := Nat.eq_of_beq_eq_true hb
    subst ht
    exact (w_X7_pushed F l G h).deep (by omega)
  rcases rx_rec_eq h with ⟨hb, h⟩ | ⟨hb, h⟩
  · have ht := Nat.eq_of_beq_eq_true hb
    subst ht
    exact (w_X7_put F l G h).deep (by omega)
  rcases rx_rec_eq h with ⟨hb, h⟩ | ⟨hb, h⟩
  · have ht := Nat.eq_of_beq_eq_true hb
    subst ht
    exact (w_X7_rank F l G h).deep (by omega)
  rcases rx_rec_eq h with ⟨hb, h⟩ | ⟨hb, h⟩
  · have ht := Nat.eq_of_beq_eq_true hb
    subst ht
    exact (w_X7_ranked F l G h).deep (by omega)
  rcases rx_rec_eq h with ⟨hb, h⟩ | ⟨hb, h⟩
  · have ht := Nat.eq_of_beq_eq_true hb
    subst ht
    exact (w_X7_rest F l G h).deep (by omega)
  rcases rx_rec_eq h with ⟨hb, h⟩ | ⟨hb, h⟩
  · have ht := Nat.eq_of_beq_eq_true hb
    subst ht
    exact (w_X7_ring F l G h).deep (by omega)
  rcases rx_rec_eq h with ⟨hb, h⟩ | ⟨hb, h⟩
  · have ht := Nat.eq_of_beq_eq_true hb
    subst ht
    exact (w_X7_row F l G h).deep (by omega)
  rcases rx_rec_eq h with ⟨hb, h⟩ | ⟨hb, h⟩
  · have ht := Nat.eq_of_beq_eq_true hb
    subst ht
    exact (w_X7_same F l G h).deep (by omega)
  rcases rx_rec_eq h with ⟨hb, h⟩ | ⟨hb, h⟩
  · have ht := Nat.eq_of_beq_eq_true hb
    subst ht
    exact (w_X7_set F l G h).deep (by omega)
  rcases rx_rec_eq h with ⟨hb, h⟩ | ⟨hb, h⟩
  · have ht := Nat.eq_of_beq_eq_true hb
    subst ht
    exact (w_X7_shadow F l G h).deep (by omega)
  rcases rx_rec_eq h with ⟨hb, h⟩ | ⟨hb, h⟩
  · have ht := Nat.eq_of_beq_eq_true hb
    subst ht
    exact (w_X7_shattered F l G h).deep (by omega)
  rcases rx_rec_eq h with ⟨hb, h⟩ | ⟨hb, h⟩
  · have ht := Nat.eq_of_beq_eq_true hb
    subst ht
    exact (w_X7_sum F l G h).deep (by omega)
  rcases rx_rec_eq h with ⟨hb, h⟩ | ⟨hb, h⟩
  · have ht := Nat.eq_of_beq_eq_true hb
    subst ht
    exact (w_X7_take F l G h).deep (by omega)
  rcases rx_rec_eq h with ⟨hb, h⟩ | ⟨hb, h⟩
  · have ht := Nat.eq_of_beq_eq_true hb
    subst ht
    exact (w_X7_thrown F l G h).deep (by omega)
  rcases rx_rec_eq h with ⟨hb, h⟩ | ⟨hb, h⟩
  · have ht := Nat.eq_of_beq_eq_true hb
    subst ht
    exact (w_X7_toss F l G h).deep (by omega)
  rcases rx_rec_eq h with ⟨hb, h⟩ | ⟨hb, h⟩
  · have ht := Nat.eq_of_beq_eq_true hb
    subst ht
    exact (w_X7_trace F l G h).deep (by omega)
  rcases rx_rec_eq h with ⟨hb, h⟩ | ⟨hb, h⟩
  · have ht := Nat.eq_of_beq_eq_true hb
    subst ht
    exact (w_X7_turned F l G h).deep (by omega)
  rcases rx_rec_eq h with ⟨hb, h⟩ | ⟨hb, h⟩
  · have ht := Nat.eq_of_beq_eq_true hb
    subst ht
    exact (w_X7_turns F l G h).deep (by omega)
  rcases rx_rec_eq h with ⟨hb, h⟩ | ⟨hb, h⟩
  · have ht := Nat.eq_of_beq_eq_true hb
    subst ht
    exact (w_X7_up F l G h).deep (by omega)
  rcases rx_rec_eq h with ⟨hb, h⟩ | ⟨hb, h⟩
  · have ht := Nat.eq_of_beq_eq_true hb
    subst ht
    exact (w_X7_weight F l G h).deep (by omega)
  cases h
