set_option maxRecDepth 100000 in
theorem k_X1_comingClash : rx_Cal (rx_ny 32) (.code (rx_ny 32) prog_3_method_3_code 5 (some .int)) (rx_kd 32) 2 := ⟨prog_3_method_3_code, 5, (some .int), Or.inl rfl, rx_in (i := 216) (by rfl) (by rfl), rx_in (i := 47) (by decide +kernel) (by decide +kernel), ⟨(by decide +kernel), (by decide +kernel), (by decide +kernel)⟩, Nat.le_of_ble_eq_true rfl, fun _ => rx_in (i := 215) (by decide +kernel) (by decide +kernel), fun h => absurd h (by decide), fun h => absurd h (by decide)⟩
set_option maxRecDepth 100000 in
theorem tk_X1_comingClash : (t_X1_comingClash.all (rx_eok "SetHouse$Kinds" prog_3_method_3_code 5 false false) && rx_adj t_X1_comingClash) = true := by decide +kernel
theorem s_X1_comingClash_0 {F : Nat × Nat} {l : Launch} {G : rx_G} {D : Nat} {hf : rx_H} {z : (Int32 × Option rx_H)} (hC : rx_CC l G D (C_X1_comingClash F) z) (x0 : Nat) (x1 : Int32) (u : Option rx_H) (h : f_X1_comingClash_0 F x0 x1 u = some z) : rx_S l G ("SetHouse$Kinds", prog_3_method_3_code, 5, false, false, D) hf (z.2.getD hf) rx_hI z 0 [some (.ref x0), some (.int x1), none, none, none] [] u := by
  rw [g_X1_comingClash_0] at h
  refine rx_S_node (md := ("SetHouse$Kinds", prog_3_method_3_code, 5, false, false, D)) tk_X1_comingClash hC rx_m_hI (fun t ls st u h => ?_) h
  unfold kk_X1_comingClash_0 at h
  cases h
theorem cc_X1_comingClash (F : Nat × Nat) (l : Launch) (G : rx_G) {α : Type} (z : α) : rx_CC l G (4 + 0 * F.2) (C_X1_comingClash F) z := by
  intro j as u κ h
  unfold C_X1_comingClash at h
  rcases rx_rec_eq h with ⟨hb, h⟩ | ⟨hb, h⟩
  · have ht := Nat.eq_of_beq_eq_true hb
    subst ht
    exact (w_J6_bitCount_0f7a4 F l G h).deep (by omega)
  rcases rx_rec_eq h with ⟨hb, h⟩ | ⟨hb, h⟩
  · have ht := Nat.eq_of_beq_eq_true hb
    subst ht
    exact (w_X0_around F l G h).deep (by omega)
  rcases rx_rec_eq h with ⟨hb, h⟩ | ⟨hb, h⟩
  · have ht := Nat.eq_of_beq_eq_true hb
    subst ht
    exact (w_X0_holdsSet F l G h).deep (by omega)
  rcases rx_rec_eq h with ⟨hb, h⟩ | ⟨hb, h⟩
  · have ht := Nat.eq_of_beq_eq_true hb
    subst ht
    exact (w_X0_leastOf F l G h).deep (by omega)
  rcases rx_rec_eq h with ⟨hb, h⟩ | ⟨hb, h⟩
  · have ht := Nat.eq_of_beq_eq_true hb
    subst ht
    exact (w_X0_within F l G h).deep (by omega)
  rcases rx_rec_eq h with ⟨hb, h⟩ | ⟨hb, h⟩
  · have ht := Nat.eq_of_beq_eq_true hb
    subst ht
    exact (w_X1_firstFarFrom F l G h).deep (by omega)
  rcases rx_rec_eq h with ⟨hb, h⟩ | ⟨hb, h⟩
  · have ht := Nat.eq_of_beq_eq_true hb
    subst ht
    exact (w_X1_meetClash F l G h).deep (by omega)
  cases h
theorem m_X1_comingClash (F : Nat × Nat) (l : Launch) (G : rx_G) (hf : rx_H) (x0 : Nat) (x1 : Int32) (u : Option rx_H) {z : (Int32 × Option rx_H)} (h : f_X1_comingClash F x0 x1 u = some z) : rx_Ok l G (5 + 0 * F.2) (rx_ny 32) (.code (rx_ny 32) prog_3_method_3_code 5 (some .int)) [.ref x0, .int x1] (u.getD hf) (some (.int z.1)) (z.2.getD hf) := by
  have h := h
  unfold f_X1_comingClash at h
  exact (rx_met (l := l) (G := G) (hf := hf) (as := [.ref x0, .int x1]) (r := (some (.int z.1))) (ls0 := [some (.ref x0), some (.int x1), none, none, none]) (y := rx_ny 32) (D := (4 + 0 * F.2)) (ini := false) (bo := false) (u := u) (u' := z.2) (by decide +kernel) (fun h => by cases h) (Nat.le_of_ble_eq_true rfl) (Or.inl ⟨rfl, rfl, _, rfl⟩) (fun Z hZ hB => rx_RT_hI hZ hB) (by exact ⟨Or.inr rfl, Or.inr rfl, Or.inl rfl, Or.inl rfl, Or.inl rfl, trivial⟩) (s_X1_comingClash_0 (cc_X1_comingClash F l G z) x0 x1 u h)).deep (by omega)
theorem w_X1_comingClash (F : Nat × Nat) (l : Launch) (G : rx_G) {α : Type} {z : α} {as : List Value} {u : Option rx_H} {κ : rx_K α} (h : c_X1_comingClash F as u κ = some z) : rx_Cw l G (5 + 0 * F.2) 32 as u κ z := by
  unfold c_X1_comingClash at h
  split at h
  · obtain ⟨r, hr, h⟩ := Option.bind_eq_some_iff.mp h
    exact ⟨_, _, _, _, h, k_X1_comingClash, fun _ => rfl, fun h => absurd rfl h, fun hf => m_X1_comingClash F l G hf _ _ _ hr⟩
  · cases h
set_option maxRecDepth 100000 in
theorem k_X1_goingClash : rx_Cal (rx_ny 37) (.code (rx_ny 37) prog_3_method_4_code 2 (some .int)) (rx_kd 37) 2 := ⟨prog_3_method_4_code, 2, (some .int), Or.inl rfl, rx_in (i := 253) (by rfl) (by rfl), rx_in (i := 47) (by decide +kernel) (by decide +kernel), ⟨(by decide +kernel), (by decide +kernel), (by decide +kernel)⟩, Nat.le_of_ble_eq_true rfl, fun _ => rx_in (i := 252) (by decide +kernel) (by decide +kernel), fun h => absurd h (by decide), fun h => absurd h (by decide)⟩
set_option maxRecDepth 100000 in
theorem tk_X1_goingClash : (t_X1_goingClash.all (rx_eok "SetHouse$Kinds" prog_3_method_4_code 2 false false) && rx_adj t_X1_goingClash) = true := by decide +kernel
theorem s_X1_goingClash_0 {F : Nat × Nat} {l : Launch} {G : rx_G} {D : Nat} {hf : rx_H} {z : (Int32 × Option rx_H)} (hC : rx_CC l G D (C_X1_goingClash F) z) (x0 : Nat) (x1 : Int32) (u : Option rx_H) (h : f_X1_goingClash_0 F x0 x1 u = some z) : rx_S l G ("SetHouse$Kinds", prog_3_method_4_code, 2, false, false, D) hf (z.2.getD hf) rx_hI z 0 [some (.ref x0), some (.int x1)] [] u := by
  rw [g_X1_goingClash_0] at h
  refine rx_S_node (md := ("SetHouse$Kinds", prog_3_method_4_code, 2, false, false, D)) tk_X1_goingClash hC rx_m_hI (fun t ls st u h => ?_) h
  unfold kk_X1_goingClash_0 at h
  cases h
theorem cc_X1_goingClash (F : Nat × Nat) (l : Launch) (G : rx_G) {α : Type} (z : α) : rx_CC l G (3 + 0 * F.2) (C_X1_goingClash F) z := by
  intro j as u κ h
  unfold C_X1_goingClash at h
  rcases rx_rec_eq h with ⟨hb, h⟩ | ⟨hb, h⟩
  · have ht := Nat.eq_of_beq_eq_true hb
    subst ht
    exact (w_X0_around F l G h).deep (by omega)
  rcases rx_rec_eq h with ⟨hb, h⟩ | ⟨hb, h⟩
  · have ht := Nat.eq_of_beq_eq_true hb
    subst ht
    exact (w_X0_leastOf F l G h).deep (by omega)
  cases h
theorem m_X1_goingClash (F : Nat × Nat) (l : Launch) (G : rx_G) (hf : rx_H) (x0 : Nat) (x1 : Int32) (u : Option rx_H) {z : (Int32 × Option rx_H)} (h : f_X1_goingClash F x0 x1 u = some z) : rx_Ok l G (4 + 0 * F.2) (rx_ny 37) (.code (rx_ny 37) prog_3_method_4_code 2 (some .int)) [.ref x0, .int x1] (u.getD hf) (some (.int z.1)) (z.2.getD hf) := by
  have h := h
  unfold f_X1_goingClash at h
  exact (rx_met (l := l) (G := G) (hf := hf) (as := [.ref x0, .int x1]) (r := (some (.int z.1))) (ls0 := [some (.ref x0), some (.int x1)]) (y := rx_ny 37) (D := (3 + 0 * F.2)) (ini := false) (bo := false) (u := u) (u' := z.2) (by decide +kernel) (fun h => by cases h) (Nat.le_of_ble_eq_true rfl) (Or.inl ⟨rfl, rfl, _, rfl⟩) (fun Z hZ hB => rx_RT_hI hZ hB) (by exact ⟨Or.inr rfl, Or.inr rfl, trivial⟩) (s_X1_goingClash_0 (cc_X1_goingClash F l G z) x0 x1 u h)).deep (by omega)
theorem w_X1_goingClash (F : Nat × Nat) (l : Launch) (G : rx_G) {α : Type} {z : α} {as : List Value} {u : Option rx_H} {κ : rx_K α} (h : c_X1_goingClash F as u κ = some z) : rx_Cw l G (4 + 0 * F.2) 37 as u κ z := by
  unfold c_X1_goingClash at h
  split at h
  · obtain ⟨r, hr, h⟩ := Option.bind_eq_some_iff.mp h
    exact ⟨_, _, _, _, h, k_X1_goingClash, fun _ => rfl, fun h => absurd rfl h, fun hf => m_X1_goingClash F l G hf _ _ _ hr⟩
  · cases h
set_option maxRecDepth 100000 in
theorem k_X1_heftOf : rx_Cal (rx_ny 39) (.code (rx_ny 39) prog_3_method_13_code 2 (some .int)) (rx_kd 39) 1 := ⟨prog_3_method_13_code, 2, (some .int), Or.inl rfl, rx_in (i := 634) (by rfl) (by rfl), rx_in (i := 47) (by decide +kernel) (by decide +kernel), ⟨(by decide +kernel), (by decide +kernel), (by decide +kernel)⟩, Nat.le_of_ble_eq_true rfl, fun _ => rx_in (i := 633) (by decide +kernel) (by decide +kernel), fun h => absurd h (by decide), fun h => absurd h (by decide)⟩
set_option maxRecDepth 100000 in
theorem tk_X1_heftOf : (t_X1_heftOf.all (rx_eok "SetHouse$Kinds" prog_3_method_13_code 2 false false) && rx_adj t_X1_heftOf) = true := by decide +kernel
theorem s_X1_heftOf_0 {F : Nat × Nat} {l : Launch} {G : rx_G} {D : Nat} {hf : rx_H} {z : (Int32 × Option rx_H)} (hC : rx_CC l G D (C_X1_heftOf F) z) (x0 : Nat) (u : Option rx_H) (h : f_X1_heftOf_0 F x0 u = some z) : rx_S l G ("SetHouse$Kinds", prog_3_method_13_code, 2, false, false, D) hf (z.2.getD hf) rx_hI z 0 [some (.ref x0), none] [] u := by
  rw [g_X1_heftOf_0] at h
  refine rx_S_node (md := ("SetHouse$Kinds", prog_3_method_13_code, 2, false, false, D)) tk_X1_heftOf hC rx_m_hI (fun t ls st u h => ?_) h
  unfold kk_X1_heftOf_0 at h
  cases h
theorem cc_X1_heftOf (F : Nat × Nat) (l : Launch) (G : rx_G) {α : Type} (z : α) : rx_CC l G (2 + 0 * F.2) (C_X1_heftOf F) z := by
  intro j as u κ h
  unfold C_X1_heftOf at h
  rcases rx_rec_eq h with ⟨hb, h⟩ | ⟨hb, h⟩
  · have ht := Nat.eq_of_beq_eq_true hb
    subst ht
    exact (w_X0_size F l G h).deep (by omega)
  cases h
theorem m_X1_heftOf (F : Nat × Nat) (l : Launch) (G : rx_G) (hf : rx_H) (x0 : Nat) (u : Option rx_H) {z : (Int32 × Option rx_H)} (h : f_X1_heftOf F x0 u = some z) : rx_Ok l G (3 + 0 * F.2) (rx_ny 39) (.code (rx_ny 39) prog_3_method_13_code 2 (some .int)) [.ref x0] (u.getD hf) (some (.int z.1)) (z.2.getD hf) := by
  have h := h
  unfold f_X1_heftOf at h
  exact (rx_met (l := l) (G := G) (hf := hf) (as := [.ref x0]) (r := (some (.int z.1))) (ls0 := [some (.ref x0), none]) (y := rx_ny 39) (D := (2 + 0 * F.2)) (ini := false) (bo := false) (u := u) (u' := z.2) (by decide +kernel) (fun h => by cases h) (Nat.le_of_ble_eq_true rfl) (Or.inl ⟨rfl, rfl, _, rfl⟩) (fun Z hZ hB => rx_RT_hI hZ hB) (by exact ⟨Or.inr rfl, Or.inl rfl, trivial⟩) (s_X1_heftOf_0 (cc_X1_heftOf F l G z) x0 u h)).deep (by omega)
theorem w_X1_heftOf (F : Nat × Nat) (l : Launch) (G : rx_G) {α : Type} {z : α} {as : List Value} {u : Option rx_H} {κ : rx_K α} (h : c_X1_heftOf F as u κ = some z) : rx_Cw l G (3 + 0 * F.2) 39 as u κ z := by
  unfold c_X1_heftOf at h
  split at h
  · obtain ⟨r, hr, h⟩ := Option.bind_eq_some_iff.mp h
    exact ⟨_, _, _, _, h, k_X1_heftOf, fun _ => rfl, fun h => absurd rfl h, fun hf => m_X1_heftOf F l G hf _ _ hr⟩
  · cases h
set_option maxRecDepth 100000 in
theorem k_X4_init : rx_Cal (rx_ny 65) (.code (rx_ny 65) prog_6_method_1_code 1 none) (rx_kd 65) 0 := ⟨prog_6_method_1_code, 1, none, Or.inl rfl, rx_in (i := 74) (by rfl) (by rfl), rx_in (i := 43) (by decide +kernel) (by decide +kernel), ⟨(by decide +kernel), (by decide +kernel), (by decide +kernel)⟩, Nat.le_of_ble_eq_true rfl, fun h => absurd h (by decide), fun h => absurd h (by decide), fun _ => ⟨(by decide +kernel), rx_in (i := 73) (by decide +kernel) (by decide +kernel), rfl⟩⟩
set_option maxRecDepth 100000 in
theorem tk_X4_init : (t_X4_init.all (rx_eok "SetHouse$Place" prog_6_method_1_code 1 true false) && rx_adj t_X4_init) = true := by decide +kernel
theorem s_X4_init_0 {F : Nat × Nat} {l : Launch} {G : rx_G} {D : Nat} {hf : rx_H} {z : (Option rx_H)} (hC : rx_CC l G D (C_X4_init F) z) (x0 : Nat) (u : Option rx_H) (h : f_X4_init_0 F x0 u = some z) : rx_S l G ("SetHouse$Place", prog_6_method_1_code, 1, true, false, D) hf (z.getD hf) rx_hV z 0 [some (.ref x0)] [] u := by
  rw [g_X4_init_0] at h
  refine rx_S_node (md := ("SetHouse$Place", prog_6_method_1_code, 1, true, false, D)) tk_X4_init hC rx_m_hV (fun t ls st u h => ?_) h
  unfold kk_X4_init_0 at h
  cases h
theorem cc_X4_init (F : Nat × Nat) (l : Launch) (G : rx_G) {α : Type} (z : α) : rx_CC l G (0 + 0 * F.2) (C_X4_init F) z := by
  intro j as u κ h
  unfold C_X4_init at h
  cases h
theorem m_X4_init (F : Nat × Nat) (l : Launch) (G : rx_G) (hf : rx_H) (x0 : Nat) (u : Option rx_H) {z : (Option rx_H)} (h : f_X4_init F x0 u = some z) : rx_Ok l G (1 + 0 * F.2) (rx_ny 65) (.code (rx_ny 65) prog_6_method_1_code 1 none) [.ref x0] (u.getD hf) none (z.getD hf) := by
  have h := h
  unfold f_X4_init at h
  exact (rx_met (l := l) (G := G) (hf := hf) (as := [.ref x0]) (r := none) (ls0 := [some (.ref x0)]) (y := rx_ny 65) (D := (0 + 0 * F.2)) (ini := true) (bo := false) (u := u) (u' := z) (by decide +kernel) (fun _ => by decide +kernel) (Nat.le_of_ble_eq_true rfl) (Or.inr (Or.inr (Or.inr ⟨rfl, rfl⟩))) (fun Z hZ hB => rx_RT_hV hZ hB) (by exact ⟨Or.inr rfl, trivial⟩) (s_X4_init_0 (cc_X4_init F l G z) x0 u h)).deep (by omega)
theorem w_X4_init (F : Nat × Nat) (l : Launch) (G : rx_G) {α : Type} {z : α} {as : List Value} {u : Option rx_H} {κ : rx_K α} (h : c_X4_init F as u κ = some z) : rx_Cw l G (1 + 0 * F.2) 65 as u κ z := by
  unfold c_X4_init at h
  split at h
  · obtain ⟨r, hr, h⟩ := Option.bind_eq_some_iff.mp h
    exact ⟨_, _, _, _, h, k_X4_init, fun h => absurd h (by decide), fun _ => ⟨_, _, rfl, rfl⟩, fun hf => m_X4_init F l G hf _ _ hr⟩
  · cases h
set_option maxRecDepth 100000 in
theorem k_X4_becomeNothing : rx_Cal (rx_ny 62) (.code (rx_ny 62) prog_6_method_2_code 1 none) (rx_kd 62) 0 := ⟨prog_6_method_2_code, 1, none, Or.inl rfl, rx_in (i := 266) (by rfl) (by rfl), rx_in (i := 43) (by decide +kernel) (by decide +kernel), ⟨(by decide +kernel), (by decide +kernel), (by decide +kernel)⟩, Nat.le_of_ble_eq_true rfl, fun h => absurd h (by decide), fun _ => ⟨rx_in (i := 264) (by decide +kernel) (by decide +kernel), rx_in (i := 265) (by decide +kernel) (by decide +kernel)⟩, fun h => absurd h (by decide)⟩
set_option maxRecDepth 100000 in
theorem tk_X4_becomeNothing : (t_X4_becomeNothing.all (rx_eok "SetHouse$Place" prog_6_method_2_code 1 false false) && rx_adj t_X4_becomeNothing) = true := by decide +kernel
theorem s_X4_becomeNothing_0 {F : Nat × Nat} {l : Launch} {G : rx_G} {D : Nat} {hf : rx_H} {z : (Option rx_H)} (hC : rx_CC l G D (C_X4_becomeNothing F) z) (x0 : Nat) (u : Option rx_H) (h : f_X4_becomeNothing_0 F x0 u = some z) : rx_S l G ("SetHouse$Place", prog_6_method_2_code, 1, false, false, D) hf (z.getD hf) rx_hV z 0 [some (.ref x0)] [] u := by
  rw [g_X4_becomeNothing_0] at h
  refine rx_S_node (md := ("SetHouse$Place", prog_6_method_2_code, 1, false, false, D)) tk_X4_becomeNothing hC rx_m_hV (fun t ls st u h => ?_) h
  unfold kk_X4_becomeNothing_0 at h
  cases h
theorem cc_X4_becomeNothing (F : Nat × Nat) (l : Launch) (G : rx_G) {α : Type} (z : α) : rx_CC l G (0 + 0 * F.2) (C_X4_becomeNothing F) z := by
  intro j as u κ h
  unfold C_X4_becomeNothing at h
  cases h
theorem m_X4_becomeNothing (F : Nat × Nat) (l : Launch) (G : rx_G) (hf : rx_H) (x0 : Nat) (u : Option rx_H) {z : (Option rx_H)} (h : f_X4_becomeNothing F x0 u = some z) : rx_Ok l G (1 + 0 * F.2) (rx_ny 62) (.code (rx_ny 62) prog_6_method_2_code 1 none) [.ref x0] (u.getD hf) none (z.getD hf) := by
  have h := h
  unfold f_X4_becomeNothing at h
  exact (rx_met (l := l) (G := G) (hf := hf) (as := [.ref x0]) (r := none) (ls0 := [some (.ref x0)]) (y := rx_ny 62) (D := (0 + 0 * F.2)) (ini := false) (bo := false) (u := u) (u' := z) (by decide +kernel) (fun h => by cases h) (Nat.le_of_ble_eq_true rfl) (Or.inr (Or.inr (Or.inr ⟨rfl, rfl⟩))) (fun Z hZ hB => rx_RT_hV hZ hB) (by exact ⟨Or.inr rfl, trivial⟩) (s_X4_becomeNothing_0 (cc_X4_becomeNothing F l G z) x0 u h)).deep (by omega)
theorem w_X4_becomeNothing (F : Nat × Nat) (l : Launch) (G : rx_G) {α : Type} {z : α} {as : List Value} {u : Option rx_H} {κ : rx_K α} (h : c_X4_becomeNothing F as u κ = some z) : rx_Cw l G (1 + 0 * F.2) 62 as u κ z := by
  unfold c_X4_becomeNothing at h
  split at h
  · obtain ⟨r, hr, h⟩ := Option.bind_eq_some_iff.mp h
    exact ⟨_, _, _, _, h, k_X4_becomeNothing, fun h => absurd h (by decide), fun _ => ⟨_, _, rfl, rfl⟩, fun hf => m_X4_becomeNothing F l G hf _ _ hr⟩
  · cases h
set_option maxRecDepth 100000 in
theorem k_X4_becomeFamily : rx_Cal (rx_ny 61) (.code (rx_ny 61) prog_6_method_3_code 7 none) (rx_kd 61) 4 := ⟨prog_6_method_3_code, 7, none, Or.inl rfl, rx_in (i := 180) (by rfl) (by rfl), rx_in (i := 43) (by decide +kernel) (by decide +kernel), ⟨(by decide +kernel), (by decide +kernel), (by decide +kernel)⟩, Nat.le_of_ble_eq_true rfl, fun h => absurd h (by decide), fun _ => ⟨rx_in (i := 178) (by decide +kernel) (by decide +kernel), rx_in (i := 179) (by decide +kernel) (by decide +kernel)⟩, fun h => absurd h (by decide)⟩
set_option maxRecDepth 100000 in
theorem tk_X4_becomeFamily : (t_X4_becomeFamily.all (rx_eok "SetHouse$Place" prog_6_method_3_code 7 false false) && rx_adj t_X4_becomeFamily) = true := by decide +kernel
theorem s_X4_becomeFamily_0 {F : Nat × Nat} {l : Launch} {G : rx_G} {D : Nat} {hf : rx_H} {z : (Option rx_H)} (hC : rx_CC l G D (C_X4_becomeFamily F) z) (x0 : Nat) (x1 : Int32) (x2 : Int32) (x3 : Int64) (x5 : Int64) (u : Option rx_H) (h : f_X4_becomeFamily_0 F x0 x1 x2 x3 x5 u = some z) : rx_S l G ("SetHouse$Place", prog_6_method_3_code, 7, false, false, D) hf (z.getD hf) rx_hV z 0 [some (.ref x0), some (.int x1), some (.int x2), some (.long x3), none, some (.long x5), none] [] u := by
  rw [g_X4_becomeFamily_0] at h
  refine rx_S_node (md := ("SetHouse$Place", prog_6_method_3_code, 7, false, false, D)) tk_X4_becomeFamily hC rx_m_hV (fun t ls st u h => ?_) h
  unfold kk_X4_becomeFamily_0 at h
  cases h
theorem cc_X4_becomeFamily (F : Nat × Nat) (l : Launch) (G : rx_G) {α : Type} (z : α) : rx_CC l G (0 + 0 * F.2) (C_X4_becomeFamily F) z := by
  intro j as u κ h
  unfold C_X4_becomeFamily at h
  cases h
theorem m_X4_becomeFamily (F : Nat × Nat) (l : Launch) (G : rx_G) (hf : rx_H) (x0 : Nat) (x1 : Int32) (x2 : Int32) (x3 : Int64) (x5 : Int64) (u : Option rx_H) {z : (Option rx_H)} (h : f_X4_becomeFamily F x0 x1 x2 x3 x5 u = some z) : rx_Ok l G (1 + 0 * F.2) (rx_ny 61) (.code (rx_ny 61) prog_6_method_3_code 7 none) [.ref x0, .int x1, .int x2, .long x3, .long x5] (u.getD hf) none (z.getD hf) := by
  have h := h
  unfold f_X4_becomeFamily at h
  exact (rx_met (l := l) (G := G) (hf := hf) (as := [.ref x0, .int x1, .int x2, .long x3, .long x5]) (r := none) (ls0 := [some (.ref x0), some (.int x1), some (.int x2), some (.long x3), none, some (.long x5), none]) (y := rx_ny 61) (D := (0 + 0 * F.2)) (ini := false) (bo := false) (u := u) (u' := z) (by decide +kernel) (fun h => by cases h) (Nat.le_of_ble_eq_true rfl) (Or.inr (Or.inr (Or.inr ⟨rfl, rfl⟩))) (fun Z hZ hB => rx_RT_hV hZ hB) (by exact ⟨Or.inr rfl, Or.inr rfl, Or.inr rfl, Or.inr rfl, Or.inl rfl, Or.inr rfl, Or.inl rfl, trivial⟩) (s_X4_becomeFamily_0 (cc_X4_becomeFamily F l G z) x0 x1 x2 x3 x5 u h)).deep (by omega)
theorem w_X4_becomeFamily (F : Nat × Nat) (l : Launch) (G : rx_G) {α : Type} {z : α} {as : List Value} {u : Option rx_H} {κ : rx_K α} (h : c_X4_becomeFamily F as u κ = some z) : rx_Cw l G (1 + 0 * F.2) 61 as u κ z := by
  unfold c_X4_becomeFamily at h
  split at h
  · obtain ⟨r, hr, h⟩ := Option.bind_eq_some_iff.mp h
    exact ⟨_, _, _, _, h, k_X4_becomeFamily, fun h => absurd h (by decide), fun _ => ⟨_, _, rfl, rfl⟩, fun hf => m_X4_becomeFamily F l G hf _ _ _ _ _ _ hr⟩
  · cases h
set_option maxRecDepth 100000 in
theorem k_X4_becomeRow : rx_Cal (rx_ny 63) (.code (rx_ny 63) prog_6_method_4_code 4 none) (rx_kd 63) 2 := ⟨prog_6_method_4_code, 4, none, Or.inl rfl, rx_in (i := 604) (by rfl) (by rfl), rx_in (i := 43) (by decide +kernel) (by decide +kernel), ⟨(by decide +kernel), (by decide +kernel), (by decide +kernel)⟩, Nat.le_of_ble_eq_true rfl, fun h => absurd h (by decide), fun _ => ⟨rx_in (i := 602) (by decide +kernel) (by decide +kernel), rx_in (i := 603) (by decide +kernel) (by decide +kernel)⟩, fun h => absurd h (by decide)⟩
set_option maxRecDepth 100000 in
theorem tk_X4_becomeRow : (t_X4_becomeRow.all (rx_eok "SetHouse$Place" prog_6_method_4_code 4 false false) && rx_adj t_X4_becomeRow) = true := by decide +kernel
theorem s_X4_becomeRow_12 {F : Nat × Nat} {l : Launch} {G : rx_G} {D : Nat} {hf : rx_H} {z : (Option rx_H)} (hC : rx_CC l G D (C_X4_becomeRow F) z) : ∀ (f : Nat) (x0 : Nat) (x3 : Int32) (u : Option rx_H), f_X4_becomeRow_12 F f x0 x3 u = some z → rx_S l G ("SetHouse$Place", prog_6_method_4_code, 4, false, false, D) hf (z.getD hf) rx_hV z 12 [some (.ref x0), none, none, some (.int x3)] [] u := by
  intro f
  induction f with
  | zero =>
    intro x0 x3 u h
    cases h
  | succ f ih =>
    intro x0 x3 u h
    rw [g_X4_becomeRow_12] at h
    refine rx_S_node (md := ("SetHouse$Place", prog_6_method_4_code, 4, false, false, D)) tk_X4_becomeRow hC rx_m_hV (fun t ls st u h => ?_) h
    unfold kk_X4_becomeRow_12 at h
    rcases rx_rec_eq h with ⟨hb, h⟩ | ⟨hb, h⟩
    · have ht := Nat.eq_of_beq_eq_true hb
      subst ht
      unfold n_X4_becomeRow_12 at h
      split at h
      · exact (ih _ _ _ h).le ⟨Or.inr rfl, Or.inl rfl, Or.inl rfl, Or.inr rfl, trivial⟩
      · cases h
    cases h
theorem s_X4_becomeRow_0 {F : Nat × Nat} {l : Launch} {G : rx_G} {D : Nat} {hf : rx_H} {z : (Option rx_H)} (hC : rx_CC l G D (C_X4_becomeRow F) z) (x0 : Nat) (x1 : Int32) (x2 : Int32) (u : Option rx_H) (h : f_X4_becomeRow_0 F x0 x1 x2 u = some z) : rx_S l G ("SetHouse$Place", prog_6_method_4_code, 4, false, false, D) hf (z.getD hf) rx_hV z 0 [some (.ref x0), some (.int x1), some (.int x2), none] [] u := by
  rw [g_X4_becomeRow_0] at h
  refine rx_S_node (md := ("SetHouse$Place", prog_6_method_4_code, 4, false, false, D)) tk_X4_becomeRow hC rx_m_hV (fun t ls st u h => ?_) h
  unfold kk_X4_becomeRow_0 at h
  rcases rx_rec_eq h with ⟨hb, h⟩ | ⟨hb, h⟩
  · have ht := Nat.eq_of_beq_eq_true hb
    subst ht
    unfold n_X4_becomeRow_12 at h
    split at h
    · exact (s_X4_becomeRow_12 hC _ _ _ _ h).le ⟨Or.inr rfl, Or.inl rfl, Or.inl rfl, Or.inr rfl, trivial⟩
    · cases h
  cases h
theorem cc_X4_becomeRow (F : Nat × Nat) (l : Launch) (G : rx_G) {α : Type} (z : α) : rx_CC l G (0 + 0 * F.2) (C_X4_becomeRow F) z := by
  intro j as u κ h
  unfold C_X4_becomeRow at h
  cases h
theorem m_X4_becomeRow (F : Nat × Nat) (l : Launch) (G : rx_G) (hf : rx_H) (x0 : Nat) (x1 : Int32) (x2 : Int32) (u : Option rx_H) {z : (Option rx_H)} (h : f_X4_becomeRow F x0 x1 x2 u = some z) : rx_Ok l G (1 + 0 * F.2) (rx_ny 63) (.code (rx_ny 63) prog_6_method_4_code 4 none) [.ref x0, .int x1, .int x2] (u.getD hf) none (z.getD hf) := by
  have h := h
  unfold f_X4_becomeRow at h
  exact (rx_met (l := l) (G := G) (hf := hf) (as := [.ref x0, .int x1, .int x2]) (r := none) (ls0 := [some (.ref x0), some (.int x1), some (.int x2), none]) (y := rx_ny 63) (D := (0 + 0 * F.2)) (ini := false) (bo := false) (u := u) (u' := z) (by decide +kernel) (fun h => by cases h) (Nat.le_of_ble_eq_true rfl) (Or.inr (Or.inr (Or.inr ⟨rfl, rfl⟩))) (fun Z hZ hB => rx_RT_hV hZ hB) (by exact ⟨Or.inr rfl, Or.inr rfl, Or.inr rfl, Or.inl rfl, trivial⟩) (s_X4_becomeRow_0 (cc_X4_becomeRow F l G z) x0 x1 x2 u h)).deep (by omega)
theorem w_X4_becomeRow (F : Nat × Nat) (l : Launch) (G : rx_G) {α : Type} {z : α} {as : List Value} {u : Option rx_H} {κ : rx_K α} (h : c_X4_becomeRow F as u κ = some z) : rx_Cw l G (1 + 0 * F.2) 63 as u κ z := by
  unfold c_X4_becomeRow at h
  split at h
  · obtain ⟨r, hr, h⟩ := Option.bind_eq_some_iff.mp h
    exact ⟨_, _, _, _, h, k_X4_becomeRow, fun h => absurd h (by decide), fun _ => ⟨_, _, rfl, rfl⟩, fun hf => m_X4_becomeRow F l G hf _ _ _ _ hr⟩
  · cases h
set_option maxRecDepth 100000 in
theorem k_X4_isRow : rx_Cal (rx_ny 66) (.code (rx_ny 66) prog_6_method_5_code 1 (some .boolean)) (rx_kd 66) 0 := ⟨prog_6_method_5_code, 1, (some .boolean), Or.inl rfl, rx_in (i := 201) (by rfl) (by rfl), rx_in (i := 43) (by decide +kernel) (by decide +kernel), ⟨(by decide +kernel), (by decide +kernel), (by decide +kernel)⟩, Nat.le_of_ble_eq_true rfl, fun h => absurd h (by decide), fun _ => ⟨rx_in (i := 199) (by decide +kernel) (by decide +kernel), rx_in (i := 200) (by decide +kernel) (by decide +kernel)⟩, fun h => absurd h (by decide)⟩
set_option maxRecDepth 100000 in
theorem tk_X4_isRow : (t_X4_isRow.all (rx_eok "SetHouse$Place" prog_6_method_5_code 1 false true) && rx_adj t_X4_isRow) = true := by decide +kernel
theorem s_X4_isRow_0 {F : Nat × Nat} {l : Launch} {G : rx_G} {D : Nat} {hf : rx_H} {z : (Int32 × Option rx_H)} (hC : rx_CC l G D (C_X4_isRow F) z) (x0 : Nat) (u : Option rx_H) (h : f_X4_isRow_0 F x0 u = some z) : rx_S l G ("SetHouse$Place", prog_6_method_5_code, 1, false, true, D) hf (z.2.getD hf) rx_hI z 0 [some (.ref x0)] [] u := by
  rw [g_X4_isRow_0] at h
  refine rx_S_node (md := ("SetHouse$Place", prog_6_method_5_code, 1, false, true, D)) tk_X4_isRow hC rx_m_hI (fun t ls st u h => ?_) h
  unfold kk_X4_isRow_0 at h
  cases h
theorem cc_X4_isRow (F : Nat × Nat) (l : Launch) (G : rx_G) {α : Type} (z : α) : rx_CC l G (0 + 0 * F.2) (C_X4_isRow F) z := by
  intro j as u κ h
  unfold C_X4_isRow at h
  cases h
theorem m_X4_isRow (F : Nat × Nat) (l : Launch) (G : rx_G) (hf : rx_H) (x0 : Nat) (u : Option rx_H) {z : (Int32 × Option rx_H)} (h : f_X4_isRow F x0 u = some z) : rx_Ok l G (1 + 0 * F.2) (rx_ny 66) (.code (rx_ny 66) prog_6_method_5_code 1 (some .boolean)) [.ref x0] (u.getD hf) (some (.int z.1)) (z.2.getD hf) := by
  have h := h
  unfold f_X4_isRow at h
  exact (rx_met (l := l) (G := G) (hf := hf) (as := [.ref x0]) (r := (some (.int z.1))) (ls0 := [some (.ref x0)]) (y := rx_ny 66) (D := (0 + 0 * F.2)) (ini := false) (bo := true) (u := u) (u' := z.2) (by decide +kernel) (fun h => by cases h) (Nat.le_of_ble_eq_true rfl) (Or.inr (Or.inl ⟨rfl, rfl, _, rfl⟩)) (fun Z hZ hB => rx_RT_hI hZ hB) (by exact ⟨Or.inr rfl, trivial⟩) (s_X4_isRow_0 (cc_X4_isRow F l G z) x0 u h)).deep (by omega)
theorem w_X4_isRow (F : Nat × Nat) (l : Launch) (G : rx_G) {α : Type} {z : α} {as : List Value} {u : Option rx_H} {κ : rx_K α} (h : c_X4_isRow F as u κ = some z) : rx_Cw l G (1 + 0 * F.2) 66 as u κ z := by
  unfold c_X4_isRow at h
  split at h
  · obtain ⟨r, hr, h⟩ := Option.bind_eq_some_iff.mp h
    exact ⟨_, _, _, _, h, k_X4_isRow, fun h => absurd h (by decide), fun _ => ⟨_, _, rfl, rfl⟩, fun hf => m_X4_isRow F l G hf _ _ hr⟩
  · cases h
set_option maxRecDepth 100000 in
theorem k_X4_hasStretch : rx_Cal (rx_ny 64) (.code (rx_ny 64) prog_6_method_6_code 3 (some .boolean)) (rx_kd 64) 2 := ⟨prog_6_method_6_code, 3, (some .boolean), Or.inl rfl, rx_in (i := 620) (by rfl) (by rfl), rx_in (i := 43) (by decide +kernel) (by decide +kernel), ⟨(by decide +kernel), (by decide +kernel), (by decide +kernel)⟩, Nat.le_of_ble_eq_true rfl, fun h => absurd h (by decide), fun _ => ⟨rx_in (i := 618) (by decide +kernel) (by decide +kernel), rx_in (i := 619) (by decide +kernel) (by decide +kernel)⟩, fun h => absurd h (by decide)⟩
set_option maxRecDepth 100000 in
theorem tk_X4_hasStretch : (t_X4_hasStretch.all (rx_eok "SetHouse$Place" prog_6_method_6_code 3 false true) && rx_adj t_X4_hasStretch) = true := by decide +kernel
theorem s_X4_hasStretch_0 {F : Nat × Nat} {l : Launch} {G : rx_G} {D : Nat} {hf : rx_H} {z : (Int32 × Option rx_H)} (hC : rx_CC l G D (C_X4_hasStretch F) z) (x0 : Nat) (x1 : Int32) (x2 : Int32) (u : Option rx_H) (h : f_X4_hasStretch_0 F x0 x1 x2 u = some z) : rx_S l G ("SetHouse$Place", prog_6_method_6_code, 3, false, true, D) hf (z.2.getD hf) rx_hI z 0 [some (.ref x0), some (.int x1), some (.int x2)] [] u := by
  rw [g_X4_hasStretch_0] at h
  refine rx_S_node (md := ("SetHouse$Place", prog_6_method_6_code, 3, false, true, D)) tk_X4_hasStretch hC rx_m_hI (fun t ls st u h => ?_) h
  unfold kk_X4_hasStretch_0 at h
  cases h
theorem cc_X4_hasStretch (F : Nat × Nat) (l : Launch) (G : rx_G) {α : Type} (z : α) : rx_CC l G (0 + 0 * F.2) (C_X4_hasStretch F) z := by
  intro j as u κ h
  unfold C_X4_hasStretch at h
  cases h
theorem m_X4_hasStretch (F : Nat × Nat) (l : Launch) (G : rx_G) (hf : rx_H) (x0 : Nat) (x1 : Int32) (x2 : Int32) (u : Option rx_H) {z : (Int32 × Option rx_H)} (h : f_X4_hasStretch F x0 x1 x2 u = some z) : rx_Ok l G (1 + 0 * F.2) (rx_ny 64) (.code (rx_ny 64) prog_6_method_6_code 3 (some .boolean)) [.ref x0, .int x1, .int x2] (u.getD hf) (some (.int z.1)) (z.2.getD hf) := by
  have h := h
  unfold f_X4_hasStretch at h
  exact (rx_met (l := l) (G := G) (hf := hf) (as := [.ref x0, .int x1, .int x2]) (r := (some (.int z.1))) (ls0 := [some (.ref x0), some (.int x1), some (.int x2)]) (y := rx_ny 64) (D := (0 + 0 * F.2)) (ini := false) (bo := true) (u := u) (u' := z.2) (by decide +kernel) (fun h => by cases h) (Nat.le_of_ble_eq_true rfl) (Or.inr (Or.inl ⟨rfl, rfl, _, rfl⟩)) (fun Z hZ hB => rx_RT_hI hZ hB) (by exact ⟨Or.inr rfl, Or.inr rfl, Or.inr rfl, trivial⟩) (s_X4_hasStretch_0 (cc_X4_hasStretch F l G z) x0 x1 x2 u h)).deep (by omega)
theorem w_X4_hasStretch (F : Nat × Nat) (l : Launch) (G : rx_G) {α : Type} {z : α} {as : List Value} {u : Option rx_H} {κ : rx_K α} (h : c_X4_hasStretch F as u κ = some z) : rx_Cw l G (1 + 0 * F.2) 64 as u κ z := by
  unfold c_X4_hasStretch at h
  split at h
  · obtain ⟨r, hr, h⟩ := Option.bind_eq_some_iff.mp h
    exact ⟨_, _, _, _, h, k_X4_hasStretch, fun h => absurd h (by decide), fun _ => ⟨_, _, rfl, rfl⟩, fun hf => m_X4_hasStretch F l G hf _ _ _ _ hr⟩
  · cases h
set_option maxRecDepth 100000 in
theorem k_X5_init : rx_Cal (rx_ny 70) (.code (rx_ny 70) prog_7_method_1_code 1 none) (rx_kd 70) 0 := ⟨prog_7_method_1_code, 1, none, Or.inl rfl, rx_in (i := 116) (by rfl) (by rfl), rx_in (i := 45) (by decide +kernel) (by decide +kernel), ⟨(by decide +kernel), (by decide +kernel), (by decide +kernel)⟩, Nat.le_of_ble_eq_true rfl, fun h => absurd h (by decide), fun h => absurd h (by decide), fun _ => ⟨(by decide +kernel), rx_in (i := 115) (by decide +kernel) (by decide +kernel), rfl⟩⟩
set_option maxRecDepth 100000 in
theorem tk_X5_init : (t_X5_init.all (rx_eok "SetHouse$Seeker" prog_7_method_1_code 1 true false) && rx_adj t_X5_init) = true := by decide +kernel
theorem s_X5_init_0 {F : Nat × Nat} {l : Launch} {G : rx_G} {D : Nat} {hf : rx_H} {z : (Option rx_H)} (hC : rx_CC l G D (C_X5_init F) z) (x0 : Nat) (u : Option rx_H) (h : f_X5_init_0 F x0 u = some z) : rx_S l G ("SetHouse$Seeker", prog_7_method_1_code, 1, true, false, D) hf (z.getD hf) rx_hV z 0 [some (.ref x0)] [] u := by
  rw [g_X5_init_0] at h
  refine rx_S_node (md := ("SetHouse$Seeker", prog_7_method_1_code, 1, true, false, D)) tk_X5_init hC rx_m_hV (fun t ls st u h => ?_) h
  unfold kk_X5_init_0 at h
  cases h
theorem cc_X5_init (F : Nat × Nat) (l : Launch) (G : rx_G) {α : Type} (z : α) : rx_CC l G (0 + 0 * F.2) (C_X5_init F) z := by
  intro j as u κ h
  unfold C_X5_init at h
  cases h
theorem m_X5_init (F : Nat × Nat) (l : Launch) (G : rx_G) (hf : rx_H) (x0 : Nat) (u : Option rx_H) {z : (Option rx_H)} (h : f_X5_init F x0 u = some z) : rx_Ok l G (1 + 0 * F.2) (rx_ny 70) (.code (rx_ny 70) prog_7_method_1_code 1 none) [.ref x0] (u.getD hf) none (z.getD hf) := by
  have h := h
  unfold f_X5_init at h
  exact (rx_met (l := l) (G := G) (hf := hf) (as := [.ref x0]) (r := none) (ls0 := [some (.ref x0)]) (y := rx_ny 70) (D := (0 + 0 * F.2)) (ini := true) (bo := false) (u := u) (u' := z) (by decide +kernel) (fun _ => by decide +kernel) (Nat.le_of_ble_eq_true rfl) (Or.inr (Or.inr (Or.inr ⟨rfl, rfl⟩))) (fun Z hZ hB => rx_RT_hV hZ hB) (by exact ⟨Or.inr rfl, trivial⟩) (s_X5_init_0 (cc_X5_init F l G z) x0 u h)).deep (by omega)
theorem w_X5_init (F : Nat × Nat) (l : Launch) (G : rx_G) {α : Type} {z : α} {as : List Value} {u : Option rx_H} {κ : rx_K α} (h : c_X5_init F as u κ = some z) : rx_Cw l G (1 + 0 * F.2) 70 as u κ z := by
  unfold c_X5_init at h
  split at h
  · obtain ⟨r, hr, h⟩ := Option.bind_eq_some_iff.mp h
    exact ⟨_, _, _, _, h, k_X5_init, fun h => absurd h (by decide), fun _ => ⟨_, _, rfl, rfl⟩, fun hf => m_X5_init F l G hf _ _ hr⟩
  · cases h
set_option maxRecDepth 100000 in
theorem k_X5_petalAt : rx_Cal (rx_ny 76) (.code (rx_ny 76) prog_7_method_2_code 2 (some .int)) (rx_kd 76) 1 := ⟨prog_7_method_2_code, 2, (some .int), Or.inl rfl, rx_in (i := 524) (by rfl) (by rfl), rx_in (i := 45) (by decide +kernel) (by decide +kernel), ⟨(by decide +kernel), (by decide +kernel), (by decide +kernel)⟩, Nat.le_of_ble_eq_true rfl, fun h => absurd h (by decide), fun _ => ⟨rx_in (i := 522) (by decide +kernel) (by decide +kernel), rx_in (i := 523) (by decide +kernel) (by decide +kernel)⟩, fun h => absurd h (by decide)⟩
set_option maxRecDepth 100000 in
theorem tk_X5_petalAt : (t_X5_petalAt.all (rx_eok "SetHouse$Seeker" prog_7_method_2_code 2 false false) && rx_adj t_X5_petalAt) = true := by decide +kernel
theorem s_X5_petalAt_0 {F : Nat × Nat} {l : Launch} {G : rx_G} {D : Nat} {hf : rx_H} {z : (Int32 × Option rx_H)} (hC : rx_CC l G D (C_X5_petalAt F) z) (x0 : Nat) (x1 : Int32) (u : Option rx_H) (h : f_X5_petalAt_0 F x0 x1 u = some z) : rx_S l G ("SetHouse$Seeker", prog_7_method_2_code, 2, false, false, D) hf (z.2.getD hf) rx_hI z 0 [some (.ref x0), some (.int x1)] [] u := by
  rw [g_X5_petalAt_0] at h
  refine rx_S_node (md := ("SetHouse$Seeker", prog_7_method_2_code, 2, false, false, D)) tk_X5_petalAt hC rx_m_hI (fun t ls st u h => ?_) h
  unfold kk_X5_petalAt_0 at h
  cases h
theorem cc_X5_petalAt (F : Nat × Nat) (l : Launch) (G : rx_G) {α : Type} (z : α) : rx_CC l G (0 + 0 * F.2) (C_X5_petalAt F) z := by
  intro j as u κ h
  unfold C_X5_petalAt at h
  cases h
theorem m_X5_petalAt (F : Nat × Nat) (l : Launch) (G : rx_G) (hf : rx_H) (x0 : Nat) (x1 : Int32) (u : Option rx_H) {z : (Int32 × Option rx_H)} (h : f_X5_petalAt F x0 x1 u = some z) : rx_Ok l G (1 + 0 * F.2) (rx_ny 76) (.code (rx_ny 76) prog_7_method_2_code 2 (some .int)) [.ref x0, .int x1] (u.getD hf) (some (.int z.1)) (z.2.getD hf) := by
  have h := h
  unfold f_X5_petalAt at h
  exact (rx_met (l := l) (G := G) (hf := hf) (as := [.ref x0, .int x1]) (r := (some (.int z.1))) (ls0 := [some (.ref x0), some (.int x1)]) (y := rx_ny 76) (D := (0 + 0 * F.2)) (ini := false) (bo := false) (u := u) (u' := z.2) (by decide +kernel) (fun h => by cases h) (Nat.le_of_ble_eq_true rfl) (Or.inl ⟨rfl, rfl, _, rfl⟩) (fun Z hZ hB => rx_RT_hI hZ hB) (by exact ⟨Or.inr rfl, Or.inr rfl, trivial⟩) (s_X5_petalAt_0 (cc_X5_petalAt F l G z) x0 x1 u h)).deep (by omega)
theorem w_X5_petalAt (F : Nat × Nat) (l : Launch) (G : rx_G) {α : Type} {z : α} {as : List Value} {u : Option rx_H} {κ : rx_K α} (h : c_X5_petalAt F as u κ = some z) : rx_Cw l G (1 + 0 * F.2) 76 as u κ z := by
  unfold c_X5_petalAt at h
  split at h
  · obtain ⟨r, hr, h⟩ := Option.bind_eq_some_iff.mp h
    exact ⟨_, _, _, _, h, k_X5_petalAt, fun h => absurd h (by decide), fun _ => ⟨_, _, rfl, rfl⟩, fun hf => m_X5_petalAt F l G hf _ _ _ hr⟩
  · cases h
set_option maxRecDepth 100000 in
theorem k_X5_keepPetals : rx_Cal (rx_ny 71) (.code (rx_ny 71) prog_7_method_6_code 3 none) (rx_kd 71) 1 := ⟨prog_7_method_6_code, 3, none, Or.inl rfl, rx_in (i := 513) (by rfl) (by rfl), rx_in (i := 45) (by decide +kernel) (by decide +kernel), ⟨(by decide +kernel), (by decide +kernel), (by decide +kernel)⟩, Nat.le_of_ble_eq_true rfl, fun h => absurd h (by decide), fun _ => ⟨rx_in (i := 512) (by decide +kernel) (by decide +kernel), rx_in (i := 11) (by decide +kernel) (by decide +kernel)⟩, fun h => absurd h (by decide)⟩
set_option maxRecDepth 100000 in
theorem tk_X5_keepPetals : (t_X5_keepPetals.all (rx_eok "SetHouse$Seeker" prog_7_method_6_code 3 false false) && rx_adj t_X5_keepPetals) = true := by decide +kernel
theorem s_X5_keepPetals_11 {F : Nat × Nat} {l : Launch} {G : rx_G} {D : Nat} {hf : rx_H} {z : (Option rx_H)} (hC : rx_CC l G D (C_X5_keepPetals F) z) : ∀ (f : Nat) (x0 : Nat) (x2 : Int32) (u : Option rx_H), f_X5_keepPetals_11 F f x0 x2 u = some z → rx_S l G ("SetHouse$Seeker", prog_7_method_6_code, 3, false, false, D) hf (z.getD hf) rx_hV z 11 [some (.ref x0), none, some (.int x2)] [] u := by
  intro f
  induction f with
  | zero =>
    intro x0 x2 u h
    cases h
  | succ f ih =>
    intro x0 x2 u h
    rw [g_X5_keepPetals_11] at h
    refine rx_S_node (md := ("SetHouse$Seeker", prog_7_method_6_code, 3, false, false, D)) tk_X5_keepPetals hC rx_m_hV (fun t ls st u h => ?_) h
    unfold kk_X5_keepPetals_11 at h
    rcases rx_rec_eq h with ⟨hb, h⟩ | ⟨hb, h⟩
    · have ht := Nat.eq_of_beq_eq_true hb
      subst ht
      unfold n_X5_keepPetals_11 at h
      split at h
      · exact (ih _ _ _ h).le ⟨Or.inr rfl, Or.inl rfl, Or.inr rfl, trivial⟩
      · cases h
    cases h
theorem s_X5_keepPetals_0 {F : Nat × Nat} {l : Launch} {G : rx_G} {D : Nat} {hf : rx_H} {z : (Option rx_H)} (hC : rx_CC l G D (C_X5_keepPetals F) z) (x0 : Nat) (x1 : Int32) (u : Option rx_H) (h : f_X5_keepPetals_0 F x0 x1 u = some z) : rx_S l G ("SetHouse$Seeker", prog_7_method_6_code, 3, false, false, D) hf (z.getD hf) rx_hV z 0 [some (.ref x0), some (.int x1), none] [] u := by
  rw [g_X5_keepPetals_0] at h
  refine rx_S_node (md := ("SetHouse$Seeker", prog_7_method_6_code, 3, false, false, D)) tk_X5_keepPetals hC rx_m_hV (fun t ls st u h => ?_) h
  unfold kk_X5_keepPetals_0 at h
  rcases rx_rec_eq h with ⟨hb, h⟩ | ⟨hb, h⟩
  · have ht := Nat.eq_of_beq_eq_true hb
    subst ht
    unfold n_X5_keepPetals_11 at h
    split at h
    · exact (s_X5_keepPetals_11 hC _ _ _ _ h).le ⟨Or.inr rfl, Or.inl rfl, Or.inr rfl, trivial⟩
    · cases h
  cases h
theorem cc_X5_keepPetals (F : Nat × Nat) (l : Launch) (G : rx_G) {α : Type} (z : α) : rx_CC l G (1 + 0 * F.2) (C_X5_keepPetals F) z := by
  intro j as u κ h
  unfold C_X5_keepPetals at h
  rcases rx_rec_eq h with ⟨hb, h⟩ | ⟨hb, h⟩
  · have ht := Nat.eq_of_beq_eq_true hb
    subst ht
    exact (w_J9_min_7cf53 F l G h).deep (by omega)
  cases h
theorem m_X5_keepPetals (F : Nat × Nat) (l : Launch) (G : rx_G) (hf : rx_H) (x0 : Nat) (x1 : Int32) (u : Option rx_H) {z : (Option rx_H)} (h : f_X5_keepPetals F x0 x1 u = some z) : rx_Ok l G (2 + 0 * F.2) (rx_ny 71) (.code (rx_ny 71) prog_7_method_6_code 3 none) [.ref x0, .int x1] (u.getD hf) none (z.getD hf) := by
  have h := h
  unfold f_X5_keepPetals at h
  exact (rx_met (l := l) (G := G) (hf := hf) (as := [.ref x0, .int x1]) (r := none) (ls0 := [some (.ref x0), some (.int x1), none]) (y := rx_ny 71) (D := (1 + 0 * F.2)) (ini := false) (bo := false) (u := u) (u' := z) (by decide +kernel) (fun h => by cases h) (Nat.le_of_ble_eq_true rfl) (Or.inr (Or.inr (Or.inr ⟨rfl, rfl⟩))) (fun Z hZ hB => rx_RT_hV hZ hB) (by exact ⟨Or.inr rfl, Or.inr rfl, Or.inl rfl, trivial⟩) (s_X5_keepPetals_0 (cc_X5_keepPetals F l G z) x0 x1 u h)).deep (by omega)
theorem w_X5_keepPetals (F : Nat × Nat) (l : Launch) (G : rx_G) {α : Type} {z : α} {as : List Value} {u : Option rx_H} {κ : rx_K α} (h : c_X5_keepPetals F as u κ = some z) : rx_Cw l G (2 + 0 * F.2) 71 as u κ z := by
  unfold c_X5_keepPetals at h
  split at h
  · obtain ⟨r, hr, h⟩ := Option.bind_eq_some_iff.mp h
    exact ⟨_, _, _, _, h, k_X5_keepPetals, fun h => absurd h (by decide), fun _ => ⟨_, _, rfl, rfl⟩, fun hf => m_X5_keepPetals F l G hf _ _ _ hr⟩
  · cases h
set_option maxRecDepth 100000 in
theorem k_X5_opens : rx_Cal (rx_ny 75) (.code (rx_ny 75) prog_7_method_5_code 11 (some .boolean)) (rx_kd 75) 6 := ⟨prog_7_method_5_code, 11, (some .boolean), Or.inl rfl, rx_in (i := 502) (by rfl) (by rfl), rx_in (i := 45) (by decide +kernel) (by decide +kernel), ⟨(by decide +kernel), (by decide +kernel), (by decide +kernel)⟩, Nat.le_of_ble_eq_true rfl, fun h => absurd h (by decide), fun _ => ⟨rx_in (i := 501) (by decide +kernel) (by decide +kernel), rx_in (i := 10) (by decide +kernel) (by decide +kernel)⟩, fun h => absurd h (by decide)⟩
set_option maxRecDepth 100000 in
theorem tk_X5_opens : (t_X5_opens.all (rx_eok "SetHouse$Seeker" prog_7_method_5_code 11 false true) && rx_adj t_X5_opens) = true := by decide +kernel
theorem s_X5_opens_52 {F : Nat × Nat} {d : Nat} {l : Launch} {G : rx_G} {D : Nat} {hf : rx_H} {z : (Int32 × Option rx_H)} (hC : rx_CC l G D (C_X5_opens F d) z) : ∀ (f : Nat) (x0 : Nat) (x4 : Int32) (x5 : Int32) (x6 : Int32) (x7 : Int32) (x8 : Int64) (x10 : Int32) (u : Option rx_H), f_X5_opens_52 F (f_X5_opens F d) f x0 x4 x5 x6 x7 x8 x10 u = some z → rx_S l G ("SetHouse$Seeker", prog_7_method_5_code, 11, false, true, D) hf (z.2.getD hf) rx_hI z 52 [some (.ref x0), none, none, none, some (.int x4), some (.int x5), some (.int x6), some (.int x7), some (.long x8), none, some (.int x10)] [] u := by
  intro f
  induction f with
  | zero =>
    intro x0 x4 x5 x6 x7 x8 x10 u h
    cases h
  | succ f ih =>
    intro x0 x4 x5 x6 x7 x8 x10 u h
    rw [g_X5_opens_52] at h
    refine rx_S_node (md := ("SetHouse$Seeker", prog_7_method_5_code, 11, false, true, D)) tk_X5_opens hC rx_m_hI (fun t ls st u h => ?_) h
    unfold kk_X5_opens_52 at h
    rcases rx_rec_eq h with ⟨hb, h⟩ | ⟨hb, h⟩
    · have ht := Nat.eq_of_beq_eq_true hb
      subst ht
      unfold n_X5_opens_52 at h
      split at h
      · exact (ih _ _ _ _ _ _ _ _ h).le ⟨Or.inr rfl, Or.inl rfl, Or.inl rfl, Or.inl rfl, Or.inr rfl, Or.inr rfl, Or.inr rfl, Or.inr rfl, Or.inr rfl, Or.inl rfl, Or.inr rfl, trivial⟩
      · cases h
    cases h
theorem s_X5_opens_0 {F : Nat × Nat} {d : Nat} {l : Launch} {G : rx_G} {D : Nat} {hf : rx_H} {z : (Int32 × Option rx_H)} (hC : rx_CC l G D (C_X5_opens F d) z) (x0 : Nat) (x1 : Int64) (x3 : Int32) (x4 : Int32) (x5 : Int32) (x6 : Int32) (x7 : Int32) (u : Option rx_H) (h : f_X5_opens_0 F (f_X5_opens F d) x0 x1 x3 x4 x5 x6 x7 u = some z) : rx_S l G ("SetHouse$Seeker", prog_7_method_5_code, 11, false, true, D) hf (z.2.getD hf) rx_hI z 0 [some (.ref x0), some (.long x1), none, some (.int x3), some (.int x4), some (.int x5), some (.int x6), some (.int x7), none, none, none] [] u := by
  rw [g_X5_opens_0] at h
  refine rx_S_node (md := ("SetHouse$Seeker", prog_7_method_5_code, 11, false, true, D)) tk_X5_opens hC rx_m_hI (fun t ls st u h => ?_) h
  unfold kk_X5_opens_0 at h
  rcases rx_rec_eq h with ⟨hb, h⟩ | ⟨hb, h⟩
  · have ht := Nat.eq_of_beq_eq_true hb
    subst ht
    unfold n_X5_opens_52 at h
    split at h
    · exact (s_X5_opens_52 hC _ _ _ _ _ _ _ _ _ h).le ⟨Or.inr rfl, Or.inl rfl, Or.inl rfl, Or.inl rfl, Or.inr rfl, Or.inr rfl, Or.inr rfl, Or.inr rfl, Or.inr rfl, Or.inl rfl, Or.inr rfl, trivial⟩
    · cases h
  cases h
theorem cc_X5_opens (F : Nat × Nat) (d : Nat) (l : Launch) (G : rx_G) (hs : ∀ {α : Type} {z : α} {as : List Value} {u : Option rx_H} {κ : rx_K α}, c_X5_opens F d as u κ = some z → rx_Cw l G (2 + d) 75 as u κ z) {α : Type} (z : α) : rx_CC l G (2 + d) (C_X5_opens F d) z := by
  intro j as u κ h
  unfold C_X5_opens at h
  rcases rx_rec_eq h with ⟨hb, h⟩ | ⟨hb, h⟩
  · have ht := Nat.eq_of_beq_eq_true hb
    subst ht
    exact (w_J6_bitCount_0f7a4 F l G h).deep (by omega)
  rcases rx_rec_eq h with ⟨hb, h⟩ | ⟨hb, h⟩
  · have ht := Nat.eq_of_beq_eq_true hb
    subst ht
    exact (w_X0_next F l G h).deep (by omega)
  rcases rx_rec_eq h with ⟨hb, h⟩ | ⟨hb, h⟩
  · have ht := Nat.eq_of_beq_eq_true hb
    subst ht
    exact (w_X5_fitting F l G h).deep (by omega)
  rcases rx_rec_eq h with ⟨hb, h⟩ | ⟨hb, h⟩
  · have ht := Nat.eq_of_beq_eq_true hb
    subst ht
    exact hs h
  cases h
theorem m_X5_opens (F : Nat × Nat) (l : Launch) (G : rx_G) : ∀ (d : Nat) (hf : rx_H) (x0 : Nat) (x1 : Int64) (x3 : Int32) (x4 : Int32) (x5 : Int32) (x6 : Int32) (x7 : Int32) (u : Option rx_H) (z : (Int32 × Option rx_H)), f_X5_opens F d x0 x1 x3 x4 x5 x6 x7 u = some z → rx_Ok l G (2 + d) (rx_ny 75) (.code (rx_ny 75) prog_7_method_5_code 11 (some .boolean)) [.ref x0, .long x1, .int x3, .int x4, .int x5, .int x6, .int x7] (u.getD hf) (some (.int z.1)) (z.2.getD hf) := by
  intro d
  induction d with
  | zero =>
    intro hf x0 x1 x3 x4 x5 x6 x7 u z h
    cases h
  | succ d ih =>
    intro hf x0 x1 x3 x4 x5 x6 x7 u z h
    have hs : ∀ {α : Type} {z : α} {as : List Value} {u : Option rx_H} {κ : rx_K α}, c_X5_opens F d as u κ = some z → rx_Cw l G (2 + d) 75 as u κ z := by
      intro α z as u κ h
      unfold c_X5_opens at h
      split at h
      · obtain ⟨r, hr, h⟩ := Option.bind_eq_some_iff.mp h
        exact ⟨_, _, _, _, h, k_X5_opens, fun h => absurd h (by decide), fun _ => ⟨_, _, rfl, rfl⟩, fun hf => ih hf _ _ _ _ _ _ _ _ _ hr⟩
      · cases h
    exact (rx_met (l := l) (G := G) (hf := hf) (as := [.ref x0, .long x1, .int x3, .int x4, .int x5, .int x6, .int x7]) (r := (some (.int z.1))) (ls0 := [some (.ref x0), some (.long x1), none, some (.int x3), some (.int x4), some (.int x5), some (.int x6), some (.int x7), none, none, none]) (y := rx_ny 75) (D := (2 + d)) (ini := false) (bo := true) (u := u) (u' := z.2) (by decide +kernel) (fun h => by cases h) (Nat.le_of_ble_eq_true rfl) (Or.inr (Or.inl ⟨rfl, rfl, _, rfl⟩)) (fun Z hZ hB => rx_RT_hI hZ hB) (by exact ⟨Or.inr rfl, Or.inr rfl, Or.inl rfl, Or.inr rfl, Or.inr rfl, Or.inr rfl, Or.inr rfl, Or.inr rfl, Or.inl rfl, Or.inl rfl, Or.inl rfl, trivial⟩) (s_X5_opens_0 (cc_X5_opens F d l G hs z) x0 x1 x3 x4 x5 x6 x7 u h)).deep (by omega)
theorem w_X5_opens (F : Nat × Nat) (l : Launch) (G : rx_G) {α : Type} {z : α} {as : List Value} {u : Option rx_H} {κ : rx_K α} (h : c_X5_opens F F.2 as u κ = some z) : rx_Cw l G (2 + 1 * F.2) 75 as u κ z := by
  unfold c_X5_opens at h
  split at h
  · obtain ⟨r, hr, h⟩ := Option.bind_eq_some_iff.mp h
    exact ⟨_, _, _, _, h, k_X5_opens, fun h => absurd h (by decide), fun _ => ⟨_, _, rfl, rfl⟩, fun hf => (m_X5_opens F l G F.2 hf _ _ _ _ _ _ _ _ _ hr).deep (by omega)⟩
  · cases h
set_option maxRecDepth 100000 in
theorem k_X5_findFlower : rx_Cal (rx_ny 67) (.code (rx_ny 67) prog_7_method_3_code 6 (some .int)) (rx_kd 67) 2 := ⟨prog_7_method_3_code, 6, (some .int), Or.inl rfl, rx_in (i := 497) (by rfl) (by rfl), rx_in (i := 45) (by decide +kernel) (by decide +kernel), ⟨(by decide +kernel), (by decide +kernel), (by decide +kernel)⟩, Nat.le_of_ble_eq_true rfl, fun h => absurd h (by decide), fun _ => ⟨rx_in (i := 495) (by decide +kernel) (by decide +kernel), rx_in (i := 496) (by decide +kernel) (by decide +kernel)⟩, fun h => absurd h (by decide)⟩
set_option maxRecDepth 100000 in
theorem tk_X5_findFlower : (t_X5_findFlower.all (rx_eok "SetHouse$Seeker" prog_7_method_3_code 6 false false) && rx_adj t_X5_findFlower) = true := by decide +kernel
theorem s_X5_findFlower_32 {F : Nat × Nat} {l : Launch} {G : rx_G} {D : Nat} {hf : rx_H} {z : (Int32 × Option rx_H)} (hC : rx_CC l G D (C_X5_findFlower F) z) {k7 : Nat → Int64 → Int32 → Int32 → Option rx_H → Option (Int32 × Option rx_H)} (hk7 : ∀ (x0 : Nat) (x1 : Int64) (x3 : Int32) (x4 : Int32) (u : Option rx_H), k7 x0 x1 x3 x4 u = some z → rx_S l G ("SetHouse$Seeker", prog_7_method_3_code, 6, false, false, D) hf (z.2.getD hf) rx_hI z 7 [some (.ref x0), some (.long x1), none, some (.int x3), some (.int x4), none] [] u) : ∀ (f : Nat) (x0 : Nat) (x1 : Int64) (x3 : Int32) (x4 : Int32) (x5 : Int32) (u : Option rx_H), f_X5_findFlower_32 F k7 f x0 x1 x3 x4 x5 u = some z → rx_S l G ("SetHouse$Seeker", prog_7_method_3_code, 6, false, false, D) hf (z.2.getD hf) rx_hI z 32 [some (.ref x0), some (.long x1), none, some (.int x3), some (.int x4), some (.int x5)] [] u := by
  intro f
  induction f with
  | zero =>
    intro x0 x1 x3 x4 x5 u h
    cases h
  | succ f ih =>
    intro x0 x1 x3 x4 x5 u h
    rw [g_X5_findFlower_32] at h
    refine rx_S_node (md := ("SetHouse$Seeker", prog_7_method_3_code, 6, false, false, D)) tk_X5_findFlower hC rx_m_hI (fun t ls st u h => ?_) h
    unfold kk_X5_findFlower_32 at h
    rcases rx_rec_eq h with ⟨hb, h⟩ | ⟨hb, h⟩
    · have ht := Nat.eq_of_beq_eq_true hb
      subst ht
      unfold n_X5_findFlower_7 at h
      split at h
      · exact (hk7 _ _ _ _ _ h).le ⟨Or.inr rfl, Or.inr rfl, Or.inl rfl, Or.inr rfl, Or.inr rfl, Or.inl rfl, trivial⟩
      · cases h
    rcases rx_rec_eq h with ⟨hb, h⟩ | ⟨hb, h⟩
    · have ht := Nat.eq_of_beq_eq_true hb
      subst ht
      unfold n_X5_findFlower_32 at h
      split at h
      · exact (ih _ _ _ _ _ _ h).le ⟨Or.inr rfl, Or.inr rfl, Or.inl rfl, Or.inr rfl, Or.inr rfl, Or.inr rfl, trivial⟩
      · cases h
    cases h
theorem s_X5_findFlower_7 {F : Nat × Nat} {l : Launch} {G : rx_G} {D : Nat} {hf : rx_H} {z : (Int32 × Option rx_H)} (hC : rx_CC l G D (C_X5_findFlower F) z) : ∀ (f : Nat) (x0 : Nat) (x1 : Int64) (x3 : Int32) (x4 : Int32) (u : Option rx_H), f_X5_findFlower_7 F f x0 x1 x3 x4 u = some z → rx_S l G ("SetHouse$Seeker", prog_7_method_3_code, 6, false, false, D) hf (z.2.getD hf) rx_hI z 7 [some (.ref x0), some (.long x1), none, some (.int x3), some (.int x4), none] [] u := by
  intro f
  induction f with
  | zero =>
    intro x0 x1 x3 x4 u h
    cases h
  | succ f ih =>
    intro x0 x1 x3 x4 u h
    rw [g_X5_findFlower_7] at h
    refine rx_S_node (md := ("SetHouse$Seeker", prog_7_method_3_code, 6, false, false, D)) tk_X5_findFlower hC rx_m_hI (fun t ls st u h => ?_) h
    unfold kk_X5_findFlower_7 at h
    rcases rx_rec_eq h with ⟨hb, h⟩ | ⟨hb, h⟩
    · have ht := Nat.eq_of_beq_eq_true hb
      subst ht
      unfold n_X5_findFlower_32 at h
      split at h
      · exact (s_X5_findFlower_32 hC ih _ _ _ _ _ _ _ h).le ⟨Or.inr rfl, Or.inr rfl, Or.inl rfl, Or.inr rfl, Or.inr rfl, Or.inr rfl, trivial⟩
      · cases h
    cases h
theorem s_X5_findFlower_0 {F : Nat × Nat} {l : Launch} {G : rx_G} {D : Nat} {hf : rx_H} {z : (Int32 × Option rx_H)} (hC : rx_CC l G D (C_X5_findFlower F) z) (x0 : Nat) (x1 : Int64) (x3 : Int32) (u : Option rx_H) (h : f_X5_findFlower_0 F x0 x1 x3 u = some z) : rx_S l G ("SetHouse$Seeker", prog_7_method_3_code, 6, false, false, D) hf (z.2.getD hf) rx_hI z 0 [some (.ref x0), some (.long x1), none, some (.int x3), none, none] [] u := by
  rw [g_X5_findFlower_0] at h
  refine rx_S_node (md := ("SetHouse$Seeker", prog_7_method_3_code, 6, false, false, D)) tk_X5_findFlower hC rx_m_hI (fun t ls st u h => ?_) h
  unfold kk_X5_findFlower_0 at h
  rcases rx_rec_eq h with ⟨hb, h⟩ | ⟨hb, h⟩
  · have ht := Nat.eq_of_beq_eq_true hb
    subst ht
    unfold n_X5_findFlower_7 at h
    split at h
    · exact (s_X5_findFlower_7 hC _ _ _ _ _ _ h).le ⟨Or.inr rfl, Or.inr rfl, Or.inl rfl, Or.inr rfl, Or.inr rfl, Or.inl rfl, trivial⟩
    · cases h
  cases h
theorem cc_X5_findFlower (F : Nat × Nat) (l : Launch) (G : rx_G) {α : Type} (z : α) : rx_CC l G (2 + 1 * F.2) (C_X5_findFlower F) z := by
  intro j as u κ h
  unfold C_X5_findFlower at h
  rcases rx_rec_eq h with ⟨hb, h⟩ | ⟨hb, h⟩
  · have ht := Nat.eq_of_beq_eq_true hb
    subst ht
    exact (w_X0_next F l G h).deep (by omega)
  rcases rx_rec_eq h with ⟨hb, h⟩ | ⟨hb, h⟩
  · have ht := Nat.eq_of_beq_eq_true hb
    subst ht
    exact (w_X5_keepPetals F l G h).deep (by omega)
  rcases rx_rec_eq h with ⟨hb, h⟩ | ⟨hb, h⟩
  · have ht := Nat.eq_of_beq_eq_true hb
    subst ht
    exact (w_X5_opens F l G h).deep (by omega)
  cases h
theorem m_X5_findFlower (F : Nat × Nat) (l : Launch) (G : rx_G) (hf : rx_H) (x0 : Nat) (x1 : Int64) (x3 : Int32) (u : Option rx_H) {z : (Int32 × Option rx_H)} (h : f_X5_findFlower F x0 x1 x3 u = some z) : rx_Ok l G (3 + 1 * F.2) (rx_ny 67) (.code (rx_ny 67) prog_7_method_3_code 6 (some .int)) [.ref x0, .long x1, .int x3] (u.getD hf) (some (.int z.1)) (z.2.getD hf) := by
  have h := h
  unfold f_X5_findFlower at h
  exact (rx_met (l := l) (G := G) (hf := hf) (as := [.ref x0, .long x1, .int x3]) (r := (some (.int z.1))) (ls0 := [some (.ref x0), some (.long x1), none, some (.int x3), none, none]) (y := rx_ny 67) (D := (2 + 1 * F.2)) (ini := false) (bo := false) (u := u) (u' := z.2) (by decide +kernel) (fun h => by cases h) (Nat.le_of_ble_eq_true rfl) (Or.inl ⟨rfl, rfl, _, rfl⟩) (fun Z hZ hB => rx_RT_hI hZ hB) (by exact ⟨Or.inr rfl, Or.inr rfl, Or.inl rfl, Or.inr rfl, Or.inl rfl, Or.inl rfl, trivial⟩) (s_X5_findFlower_0 (cc_X5_findFlower F l G z) x0 x1 x3 u h)).deep (by omega)
theorem w_X5_findFlower (F : Nat × Nat) (l : Launch) (G : rx_G) {α : Type} {z : α} {as : List Value} {u : Option rx_H} {κ : rx_K α} (h : c_X5_findFlower F as u κ = some z) : rx_Cw l G (3 + 1 * F.2) 67 as u κ z := by
  unfold c_X5_findFlower at h
  split at h
  · obtain ⟨r, hr, h⟩ := Option.bind_eq_some_iff.mp h
    exact ⟨_, _, _, _, h, k_X5_findFlower, fun h => absurd h (by decide), fun _ => ⟨_, _, rfl, rfl⟩, fun hf => m_X5_findFlower F l G hf _ _ _ _ hr⟩
  · cases h
set_option maxRecDepth 100000 in
theorem k_X5_mostDisjoint : rx_Cal (rx_ny 73) (.code (rx_ny 73) prog_7_method_7_code 11 (some .int)) (rx_kd 73) 2 := ⟨prog_7_method_7_code, 11, (some .int), Or.inl rfl, rx_in (i := 537) (by rfl) (by rfl), rx_in (i := 45) (by decide +kernel) (by decide +kernel), ⟨(by decide +kernel), (by decide +kernel), (by decide +kernel)⟩, Nat.le_of_ble_eq_true rfl, fun h => absurd h (by decide), fun _ => ⟨rx_in (i := 535) (by decide +kernel) (by decide +kernel), rx_in (i := 536) (by decide +kernel) (by decide +kernel)⟩, fun h => absurd h (by decide)⟩
set_option maxRecDepth 100000 in
theorem tk_X5_mostDisjoint : (t_X5_mostDisjoint.all (rx_eok "SetHouse$Seeker" prog_7_method_7_code 11 false false) && rx_adj t_X5_mostDisjoint) = true := by decide +kernel
theorem s_X5_mostDisjoint_67 {F : Nat × Nat} {l : Launch} {G : rx_G} {D : Nat} {hf : rx_H} {z : (Int32 × Option rx_H)} (hC : rx_CC l G D (C_X5_mostDisjoint F) z) {k10 : Nat → Int64 → Int32 → Int32 → Option rx_H → Option (Int32 × Option rx_H)} (hk10 : ∀ (x0 : Nat) (x1 : Int64) (x3 : Int32) (x4 : Int32) (u : Option rx_H), k10 x0 x1 x3 x4 u = some z → rx_S l G ("SetHouse$Seeker", prog_7_method_7_code, 11, false, false, D) hf (z.2.getD hf) rx_hI z 10 [some (.ref x0), some (.long x1), none, some (.int x3), some (.int x4), none, none, none, none, none, none] [] u) : ∀ (f : Nat) (x0 : Nat) (x1 : Int64) (x3 : Int32) (x4 : Int32) (x7 : Int32) (x8 : Int64) (x10 : Int32) (u : Option rx_H), f_X5_mostDisjoint_67 F k10 f x0 x1 x3 x4 x7 x8 x10 u = some z → rx_S l G ("SetHouse$Seeker", prog_7_method_7_code, 11, false, false, D) hf (z.2.getD hf) rx_hI z 67 [some (.ref x0), some (.long x1), none, some (.int x3), some (.int x4), none, none, some (.int x7), some (.long x8), none, some (.int x10)] [] u := by
  intro f
  induction f with
  | zero =>
    intro x0 x1 x3 x4 x7 x8 x10 u h
    cases h
  | succ f ih =>
    intro x0 x1 x3 x4 x7 x8 x10 u h
    rw [g_X5_mostDisjoint_67] at h
    refine rx_S_node (md := ("SetHouse$Seeker", prog_7_method_7_code, 11, false, false, D)) tk_X5_mostDisjoint hC rx_m_hI (fun t ls st u h => ?_) h
    unfold kk_X5_mostDisjoint_67 at h
    rcases rx_rec_eq h with ⟨hb, h⟩ | ⟨hb, h⟩
    · have ht := Nat.eq_of_beq_eq_true hb
      subst ht
      unfold n_X5_mostDisjoint_10 at h
      split at h
      · exact (hk10 _ _ _ _ _ h).le ⟨Or.inr rfl, Or.inr rfl, Or.inl rfl, Or.inr rfl, Or.inr rfl, Or.inl rfl, Or.inl rfl, Or.inl rfl, Or.inl rfl, Or.inl rfl, Or.inl rfl, trivial⟩
      · cases h
    rcases rx_rec_eq h with ⟨hb, h⟩ | ⟨hb, h⟩
    · have ht := Nat.eq_of_beq_eq_true hb
      subst ht
      unfold n_X5_mostDisjoint_67 at h
      split at h
      · exact (ih _ _ _ _ _ _ _ _ h).le ⟨Or.inr rfl, Or.inr rfl, Or.inl rfl, Or.inr rfl, Or.inr rfl, Or.inl rfl, Or.inl rfl, Or.inr rfl, Or.inr rfl, Or.inl rfl, Or.inr rfl, trivial⟩
      · cases h
    cases h
theorem s_X5_mostDisjoint_122 {F : Nat × Nat} {l : Launch} {G : rx_G} {D : Nat} {hf : rx_H} {z : (Int32 × Option rx_H)} (hC : rx_CC l G D (C_X5_mostDisjoint F) z) (x0 : Nat) (x1 : Int64) (x3 : Int32) (u : Option rx_H) (h : f_X5_mostDisjoint_122 F x0 x1 x3 u = some z) : rx_S l G ("SetHouse$Seeker", prog_7_method_7_code, 11, false, false, D) hf (z.2.getD hf) rx_hI z 122 [some (.ref x0), some (.long x1), none, some (.int x3), none, none, none, none, none, none, none] [] u := by
  rw [g_X5_mostDisjoint_122] at h
  refine rx_S_node (md := ("SetHouse$Seeker", prog_7_method_7_code, 11, false, false, D)) tk_X5_mostDisjoint hC rx_m_hI (fun t ls st u h => ?_) h
  unfold kk_X5_mostDisjoint_122 at h
  cases h
theorem s_X5_mostDisjoint_10 {F : Nat × Nat} {l : Launch} {G : rx_G} {D : Nat} {hf : rx_H} {z : (Int32 × Option rx_H)} (hC : rx_CC l G D (C_X5_mostDisjoint F) z) : ∀ (f : Nat) (x0 : Nat) (x1 : Int64) (x3 : Int32) (x4 : Int32) (u : Option rx_H), f_X5_mostDisjoint_10 F f x0 x1 x3 x4 u = some z → rx_S l G ("SetHouse$Seeker", prog_7_method_7_code, 11, false, false, D) hf (z.2.getD hf) rx_hI z 10 [some (.ref x0), some (.long x1), none, some (.int x3), some (.int x4), none, none, none, none, none, none] [] u := by
  intro f
  induction f with
  | zero =>
    intro x0 x1 x3 x4 u h
    cases h
  | succ f ih =>
    intro x0 x1 x3 x4 u h
    rw [g_X5_mostDisjoint_10] at h
    refine rx_S_node (md := ("SetHouse$Seeker", prog_7_method_7_code, 11, false, false, D)) tk_X5_mostDisjoint hC rx_m_hI (fun t ls st u h => ?_) h
    unfold kk_X5_mostDisjoint_10 at h
    rcases rx_rec_eq h with ⟨hb, h⟩ | ⟨hb, h⟩
    · have ht := Nat.eq_of_beq_eq_true hb
      subst ht
      unfold n_X5_mostDisjoint_67 at h
      split at h
      · exact (s_X5_mostDisjoint_67 hC ih _ _ _ _ _ _ _ _ _ h).le ⟨Or.inr rfl, Or.inr rfl, Or.inl rfl, Or.inr rfl, Or.inr rfl, Or.inl rfl, Or.inl rfl, Or.inr rfl, Or.inr rfl, Or.inl rfl, Or.inr rfl, trivial⟩
      · cases h
    rcases rx_rec_eq h with ⟨hb, h⟩ | ⟨hb, h⟩
    · have ht := Nat.eq_of_beq_eq_true hb
      subst ht
      unfold n_X5_mostDisjoint_122 at h
      split at h
      · exact (s_X5_mostDisjoint_122 hC _ _ _ _ h).le ⟨Or.inr rfl, Or.inr rfl, Or.inl rfl, Or.inr rfl, Or.inl rfl, Or.inl rfl, Or.inl rfl, Or.inl rfl, Or.inl rfl, Or.inl rfl, Or.inl rfl, trivial⟩
      · cases h
    cases h
theorem s_X5_mostDisjoint_0 {F : Nat × Nat} {l : Launch} {G : rx_G} {D : Nat} {hf : rx_H} {z : (Int32 × Option rx_H)} (hC : rx_CC l G D (C_X5_mostDisjoint F) z) (x0 : Nat) (x1 : Int64) (x3 : Int32) (u : Option rx_H) (h : f_X5_mostDisjoint_0 F x0 x1 x3 u = some z) : rx_S l G ("SetHouse$Seeker", prog_7_method_7_code, 11, false, false, D) hf (z.2.getD hf) rx_hI z 0 [some (.ref x0), some (.long x1), none, some (.int x3), none, none, none, none, none, none, none] [] u := by
  rw [g_X5_mostDisjoint_0] at h
  refine rx_S_node (md := ("SetHouse$Seeker", prog_7_method_7_code, 11, false, false, D)) tk_X5_mostDisjoint hC rx_m_hI (fun t ls st u h => ?_) h
  unfold kk_X5_mostDisjoint_0 at h
  rcases rx_rec_eq h with ⟨hb, h⟩ | ⟨hb, h⟩
  · have ht := Nat.eq_of_beq_eq_true hb
    subst ht
    unfold n_X5_mostDisjoint_10 at h
    split at h
    · exact (s_X5_mostDisjoint_10 hC _ _ _ _ _ _ h).le ⟨Or.inr rfl, Or.inr rfl, Or.inl rfl, Or.inr rfl, Or.inr rfl, Or.inl rfl, Or.inl rfl, Or.inl rfl, Or.inl rfl, Or.inl rfl, Or.inl rfl, trivial⟩
    · cases h
  cases h
theorem cc_X5_mostDisjoint (F : Nat × Nat) (l : Launch) (G : rx_G) {α : Type} (z : α) : rx_CC l G (2 + 0 * F.2) (C_X5_mostDisjoint F) z := by
  intro j as u κ h
  unfold C_X5_mostDisjoint at h
  rcases rx_rec_eq h with ⟨hb, h⟩ | ⟨hb, h⟩
  · have ht := Nat.eq_of_beq_eq_true hb
    subst ht
    exact (w_J9_max_7cf53 F l G h).deep (by omega)
  rcases rx_rec_eq h with ⟨hb, h⟩ | ⟨hb, h⟩
  · have ht := Nat.eq_of_beq_eq_true hb
    subst ht
    exact (w_X0_holdsSet F l G h).deep (by omega)
  rcases rx_rec_eq h with ⟨hb, h⟩ | ⟨hb, h⟩
  · have ht := Nat.eq_of_beq_eq_true hb
    subst ht
    exact (w_X0_next F l G h).deep (by omega)
  rcases rx_rec_eq h with ⟨hb, h⟩ | ⟨hb, h⟩
  · have ht := Nat.eq_of_beq_eq_true hb
    subst ht
    exact (w_X0_within F l G h).deep (by omega)
  cases h
theorem m_X5_mostDisjoint (F : Nat × Nat) (l : Launch) (G : rx_G) (hf : rx_H) (x0 : Nat) (x1 : Int64) (x3 : Int32) (u : Option rx_H) {z : (Int32 × Option rx_H)} (h : f_X5_mostDisjoint F x0 x1 x3 u = some z) : rx_Ok l G (3 + 0 * F.2) (rx_ny 73) (.code (rx_ny 73) prog_7_method_7_code 11 (some .int)) [.ref x0, .long x1, .int x3] (u.getD hf) (some (.int z.1)) (z.2.getD hf) := by
  have h := h
  unfold f_X5_mostDisjoint at h
  exact (rx_met (l := l) (G := G) (hf := hf) (as := [.ref x0, .long x1, .int x3]) (r := (some (.int z.1))) (ls0 := [some (.ref x0), some (.long x1), none, some (.int x3), none, none, none, none, none, none, none]) (y := rx_ny 73) (D := (2 + 0 * F.2)) (ini := false) (bo := false) (u := u) (u' := z.2) (by decide +kernel) (fun h => by cases h) (Nat.le_of_ble_eq_true rfl) (Or.inl ⟨rfl, rfl, _, rfl⟩) (fun Z hZ hB => rx_RT_hI hZ hB) (by exact ⟨Or.inr rfl, Or.inr rfl, Or.inl rfl, Or.inr rfl, Or.inl rfl, Or.inl rfl, Or.inl rfl, Or.inl rfl, Or.inl rfl, Or.inl rfl, Or.inl rfl, trivial⟩) (s_X5_mostDisjoint_0 (cc_X5_mostDisjoint F l G z) x0 x1 x3 u h)).deep (by omega)
theorem w_X5_mostDisjoint (F : Nat × Nat) (l : Launch) (G : rx_G) {α : Type} {z : α} {as : List Value} {u : Option rx_H} {κ : rx_K α} (h : c_X5_mostDisjoint F as u κ = some z) : rx_Cw l G (3 + 0 * F.2) 73 as u κ z := by
  unfold c_X5_mostDisjoint at h
  split at h
  · obtain ⟨r, hr, h⟩ := Option.bind_eq_some_iff.mp h
    exact ⟨_, _, _, _, h, k_X5_mostDisjoint, fun h => absurd h (by decide), fun _ => ⟨_, _, rfl, rfl⟩, fun hf => m_X5_mostDisjoint F l G hf _ _ _ _ hr⟩
  · cases h
set_option maxRecDepth 100000 in
theorem k_X5_greatestMeeting : rx_Cal (rx_ny 69) (.code (rx_ny 69) prog_7_method_8_code 6 (some .long)) (rx_kd 69) 3 := ⟨prog_7_method_8_code, 6, (some .long), Or.inl rfl, rx_in (i := 556) (by rfl) (by rfl), rx_in (i := 45) (by decide +kernel) (by decide +kernel), ⟨(by decide +kernel), (by decide +kernel), (by decide +kernel)⟩, Nat.le_of_ble_eq_true rfl, fun h => absurd h (by decide), fun _ => ⟨rx_in (i := 554) (by decide +kernel) (by decide +kernel), rx_in (i := 555) (by decide +kernel) (by decide +kernel)⟩, fun h => absurd h (by decide)⟩
set_option maxRecDepth 100000 in
theorem tk_X5_greatestMeeting : (t_X5_greatestMeeting.all (rx_eok "SetHouse$Seeker" prog_7_method_8_code 6 false false) && rx_adj t_X5_greatestMeeting) = true := by decide +kernel
theorem s_X5_greatestMeeting_0 {F : Nat × Nat} {l : Launch} {G : rx_G} {D : Nat} {hf : rx_H} {z : (Int64 × Option rx_H)} (hC : rx_CC l G D (C_X5_greatestMeeting F) z) (x0 : Nat) (x1 : Int64) (x3 : Int32) (x4 : Int32) (u : Option rx_H) (h : f_X5_greatestMeeting_0 F x0 x1 x3 x4 u = some z) : rx_S l G ("SetHouse$Seeker", prog_7_method_8_code, 6, false, false, D) hf (z.2.getD hf) rx_hJ z 0 [some (.ref x0), some (.long x1), none, some (.int x3), some (.int x4), none] [] u := by
  rw [g_X5_greatestMeeting_0] at h
  refine rx_S_node (md := ("SetHouse$Seeker", prog_7_method_8_code, 6, false, false, D)) tk_X5_greatestMeeting hC rx_m_hJ (fun t ls st u h => ?_) h
  unfold kk_X5_greatestMeeting_0 at h
  cases h
theorem cc_X5_greatestMeeting (F : Nat × Nat) (l : Launch) (G : rx_G) {α : Type} (z : α) : rx_CC l G (3 + 1 * F.2) (C_X5_greatestMeeting F) z := by
  intro j as u κ h
  unfold C_X5_greatestMeeting at h
  rcases rx_rec_eq h with ⟨hb, h⟩ | ⟨hb, h⟩
  · have ht := Nat.eq_of_beq_eq_true hb
    subst ht
    exact (w_X5_largest F l G h).deep (by omega)
  cases h
theorem m_X5_greatestMeeting (F : Nat × Nat) (l : Launch) (G : rx_G) (hf : rx_H) (x0 : Nat) (x1 : Int64) (x3 : Int32) (x4 : Int32) (u : Option rx_H) {z : (Int64 × Option rx_H)} (h : f_X5_greatestMeeting F x0 x1 x3 x4 u = some z) : rx_Ok l G (4 + 1 * F.2) (rx_ny 69) (.code (rx_ny 69) prog_7_method_8_code 6 (some .long)) [.ref x0, .long x1, .int x3, .int x4] (u.getD hf) (some (.long z.1)) (z.2.getD hf) := by
  have h := h
  unfold f_X5_greatestMeeting at h
  exact (rx_met (l := l) (G := G) (hf := hf) (as := [.ref x0, .long x1, .int x3, .int x4]) (r := (some (.long z.1))) (ls0 := [some (.ref x0), some (.long x1), none, some (.int x3), some (.int x4), none]) (y := rx_ny 69) (D := (3 + 1 * F.2)) (ini := false) (bo := false) (u := u) (u' := z.2) (by decide +kernel) (fun h => by cases h) (Nat.le_of_ble_eq_true rfl) (Or.inr (Or.inr (Or.inl ⟨rfl, _, rfl⟩))) (fun Z hZ hB => rx_RT_hJ hZ hB) (by exact ⟨Or.inr rfl, Or.inr rfl, Or.inl rfl, Or.inr rfl, Or.inr rfl, Or.inl rfl, trivial⟩) (s_X5_greatestMeeting_0 (cc_X5_greatestMeeting F l G z) x0 x1 x3 x4 u h)).deep (by omega)
theorem w_X5_greatestMeeting (F : Nat × Nat) (l : Launch) (G : rx_G) {α : Type} {z : α} {as : List Value} {u : Option rx_H} {κ : rx_K α} (h : c_X5_greatestMeeting F as u κ = some z) : rx_Cw l G (4 + 1 * F.2) 69 as u κ z := by
  unfold c_X5_greatestMeeting at h
  split at h
  · obtain ⟨r, hr, h⟩ := Option.bind_eq_some_iff.mp h
    exact ⟨_, _, _, _, h, k_X5_greatestMeeting, fun h => absurd h (by decide), fun _ => ⟨_, _, rfl, rfl⟩, fun hf => m_X5_greatestMeeting F l G hf _ _ _ _ _ hr⟩
  · cases h
set_option maxRecDepth 100000 in
theorem k_X6_init : rx_Cal (rx_ny 99) (.code (rx_ny 99) prog_1_method_1_code 3 none) (rx_kd 99) 1 := ⟨prog_1_method_1_code, 3, none, Or.inl rfl, rx_in (i := 62) (by rfl) (by rfl), rx_in (i := 41) (by decide +kernel) (by decide +kernel), ⟨(by decide +kernel), (by decide +kernel), (by decide +kernel)⟩, Nat.le_of_ble_eq_true rfl, fun h => absurd h (by decide), fun h => absurd h (by decide), fun _ => ⟨(by decide +kernel), rx_in (i := 61) (by decide +kernel) (by decide +kernel), rfl⟩⟩
set_option maxRecDepth 100000 in
theorem tk_X6_init : (t_X6_init.all (rx_eok "SetHouse" prog_1_method_1_code 3 true false) && rx_adj t_X6_init) = true := by decide +kernel
theorem s_X6_init_71 {F : Nat × Nat} {l : Launch} {G : rx_G} {D : Nat} {hf : rx_H} {z : (Option rx_H)} (hC : rx_CC l G D (C_X6_init F) z) : ∀ (f : Nat) (x0 : Nat) (x2 : Int32) (u : Option rx_H), f_X6_init_71 F f x0 x2 u = some z → rx_S l G ("SetHouse", prog_1_method_1_code, 3, true, false, D) hf (z.getD hf) rx_hV z 71 [some (.ref x0), none, some (.int x2)] [] u := by
  intro f
  induction f with
  | zero =>
    intro x0 x2 u h
    cases h
  | succ f ih =>
    intro x0 x2 u h
    rw [g_X6_init_71] at h
    refine rx_S_node (md := ("SetHouse", prog_1_method_1_code, 3, true, false, D)) tk_X6_init hC rx_m_hV (fun t ls st u h => ?_) h
    unfold kk_X6_init_71 at h
    rcases rx_rec_eq h with ⟨hb, h⟩ | ⟨hb, h⟩
    · have ht := Nat.eq_of_beq_eq_true hb
      subst ht
      unfold n_X6_init_71 at h
      split at h
      · exact (ih _ _ _ h).le ⟨Or.inr rfl, Or.inl rfl, Or.inr rfl, trivial⟩
      · cases h
    cases h
theorem s_X6_init_36 {F : Nat × Nat} {l : Launch} {G : rx_G} {D : Nat} {hf : rx_H} {z : (Option rx_H)} (hC : rx_CC l G D (C_X6_init F) z) : ∀ (f : Nat) (x0 : Nat) (x2 : Int32) (u : Option rx_H), f_X6_init_36 F f x0 x2 u = some z → rx_S l G ("SetHouse", prog_1_method_1_code, 3, true, false, D) hf (z.getD hf) rx_hV z 36 [some (.ref x0), none, some (.int x2)] [] u := by
  intro f
  induction f with
  | zero =>
    intro x0 x2 u h
    cases h
  | succ f ih =>
    intro x0 x2 u h
    rw [g_X6_init_36] at h
    refine rx_S_node (md := ("SetHouse", prog_1_method_1_code, 3, true, false, D)) tk_X6_init hC rx_m_hV (fun t ls st u h => ?_) h
    unfold kk_X6_init_36 at h
    rcases rx_rec_eq h with ⟨hb, h⟩ | ⟨hb, h⟩
    · have ht := Nat.eq_of_beq_eq_true hb
      subst ht
      unfold n_X6_init_36 at h
      split at h
      · exact (ih _ _ _ h).le ⟨Or.inr rfl, Or.inl rfl, Or.inr rfl, trivial⟩
      · cases h
    rcases rx_rec_eq h with ⟨hb, h⟩ | ⟨hb, h⟩
    · have ht := Nat.eq_of_beq_eq_true hb
      subst ht
      unfold n_X6_init_71 at h
      split at h
      · exact (s_X6_init_71 hC _ _ _ _ h).le ⟨Or.inr rfl, Or.inl rfl, Or.inr rfl, trivial⟩
      · cases h
    cases h
theorem s_X6_init_0 {F : Nat × Nat} {l : Launch} {G : rx_G} {D : Nat} {hf : rx_H} {z : (Option rx_H)} (hC : rx_CC l G D (C_X6_init F) z) (x0 : Nat) (x1 : Int32) (u : Option rx_H) (h : f_X6_init_0 F x0 x1 u = some z) : rx_S l G ("SetHouse", prog_1_method_1_code, 3, true, false, D) hf (z.getD hf) rx_hV z 0 [some (.ref x0), some (.int x1), none] [] u := by
  rw [g_X6_init_0] at h
  refine rx_S_node (md := ("SetHouse", prog_1_method_1_code, 3, true, false, D)) tk_X6_init hC rx_m_hV (fun t ls st u h => ?_) h
  unfold kk_X6_init_0 at h
  rcases rx_rec_eq h with ⟨hb, h⟩ | ⟨hb, h⟩
  · have ht := Nat.eq_of_beq_eq_true hb
    subst ht
    unfold n_X6_init_36 at h
    split at h
    · exact (s_X6_init_36 hC _ _ _ _ h).le ⟨Or.inr rfl, Or.inl rfl, Or.inr rfl, trivial⟩
    · cases h
  cases h
theorem cc_X6_init (F : Nat × Nat) (l : Launch) (G : rx_G) {α : Type} (z : α) : rx_CC l G (1 + 0 * F.2) (C_X6_init F) z := by
  intro j as u κ h
  unfold C_X6_init at h
  rcases rx_rec_eq h with ⟨hb, h⟩ | ⟨hb, h⟩
  · have ht := Nat.eq_of_beq_eq_true hb
    subst ht
    exact (w_J6_bitCount_0f7a4 F l G h).deep (by omega)
  rcases rx_rec_eq h with ⟨hb, h⟩ | ⟨hb, h⟩
  · have ht := Nat.eq_of_beq_eq_true hb
    subst ht
    exact (w_J9_floorMod_7cf53 F l G h).deep (by omega)
  rcases rx_rec_eq h with ⟨hb, h⟩ | ⟨hb, h⟩
  · have ht := Nat.eq_of_beq_eq_true hb
    subst ht
    exact (w_X4_init F l G h).deep (by omega)
  rcases rx_rec_eq h with ⟨hb, h⟩ | ⟨hb, h⟩
  · have ht := Nat.eq_of_beq_eq_true hb
    subst ht
    exact (w_X5_init F l G h).deep (by omega)
  cases h
theorem m_X6_init (F : Nat × Nat) (l : Launch) (G : rx_G) (hf : rx_H) (x0 : Nat) (x1 : Int32) (u : Option rx_H) {z : (Option rx_H)} (h : f_X6_init F x0 x1 u = some z) : rx_Ok l G (2 + 0 * F.2) (rx_ny 99) (.code (rx_ny 99) prog_1_method_1_code 3 none) [.ref x0, .int x1] (u.getD hf) none (z.getD hf) := by
  have h := h
  unfold f_X6_init at h
  exact (rx_met (l := l) (G := G) (hf := hf) (as := [.ref x0, .int x1]) (r := none) (ls0 := [some (.ref x0), some (.int x1), none]) (y := rx_ny 99) (D := (1 + 0 * F.2)) (ini := true) (bo := false) (u := u) (u' := z) (by decide +kernel) (fun _ => by decide +kernel) (Nat.le_of_ble_eq_true rfl) (Or.inr (Or.inr (Or.inr ⟨rfl, rfl⟩))) (fun Z hZ hB => rx_RT_hV hZ hB) (by exact ⟨Or.inr rfl, Or.inr rfl, Or.inl rfl, trivial⟩) (s_X6_init_0 (cc_X6_init F l G z) x0 x1 u h)).deep (by omega)
theorem w_X6_init (F : Nat × Nat) (l : Launch) (G : rx_G) {α : Type} {z : α} {as : List Value} {u : Option rx_H} {κ : rx_K α} (h : c_X6_init F as u κ = some z) : rx_Cw l G (2 + 0 * F.2) 99 as u κ z := by
  unfold c_X6_init at h
  split at h
  · obtain ⟨r, hr, h⟩ := Option.bind_eq_some_iff.mp h
    exact ⟨_, _, _, _, h, k_X6_init, fun h => absurd h (by decide), fun _ => ⟨_, _, rfl, rfl⟩, fun hf => m_X6_init F l G hf _ _ _ hr⟩
  · cases h
set_option maxRecDepth 100000 in
theorem k_X6_isSize : rx_Cal (rx_ny 104) (.code (rx_ny 104) prog_1_method_52_code 2 (some .boolean)) (rx_kd 104) 1 := ⟨prog_1_method_52_code, 2, (some .boolean), Or.inl rfl, rx_in (i := 172) (by rfl) (by rfl), rx_in (i := 41) (by decide +kernel) (by decide +kernel), ⟨(by decide +kernel), (by decide +kernel), (by decide +kernel)⟩, Nat.le_of_ble_eq_true rfl, fun h => absurd h (by decide), fun _ => ⟨rx_in (i := 171) (by decide +kernel) (by decide +kernel), rx_in (i := 2) (by decide +kernel) (by decide +kernel)⟩, fun h => absurd h (by decide)⟩
set_option maxRecDepth 100000 in
theorem tk_X6_isSize : (t_X6_isSize.all (rx_eok "SetHouse" prog_1_method_52_code 2 false true) && rx_adj t_X6_isSize) = true := by decide +kernel
theorem s_X6_isSize_0 {F : Nat × Nat} {l : Launch} {G : rx_G} {D : Nat} {hf : rx_H} {z : (Int32 × Option rx_H)} (hC : rx_CC l G D (C_X6_isSize F) z) (x0 : Nat) (x1 : Int32) (u : Option rx_H) (h : f_X6_isSize_0 F x0 x1 u = some z) : rx_S l G ("SetHouse", prog_1_method_52_code, 2, false, true, D) hf (z.2.getD hf) rx_hI z 0 [some (.ref x0), some (.int x1)] [] u := by
  rw [g_X6_isSize_0] at h
  refine rx_S_node (md := ("SetHouse", prog_1_method_52_code, 2, false, true, D)) tk_X6_isSize hC rx_m_hI (fun t ls st u h => ?_) h
  unfold kk_X6_isSize_0 at h
  cases h
theorem cc_X6_isSize (F : Nat × Nat) (l : Launch) (G : rx_G) {α : Type} (z : α) : rx_CC l G (0 + 0 * F.2) (C_X6_isSize F) z := by
  intro j as u κ h
  unfold C_X6_isSize at h
  cases h
theorem m_X6_isSize (F : Nat × Nat) (l : Launch) (G : rx_G) (hf : rx_H) (x0 : Nat) (x1 : Int32) (u : Option rx_H) {z : (Int32 × Option rx_H)} (h : f_X6_isSize F x0 x1 u = some z) : rx_Ok l G (1 + 0 * F.2) (rx_ny 104) (.code (rx_ny 104) prog_1_method_52_code 2 (some .boolean)) [.ref x0, .int x1] (u.getD hf) (some (.int z.1)) (z.2.getD hf) := by
  have h := h
  unfold f_X6_isSize at h
  exact (rx_met (l := l) (G := G) (hf := hf) (as := [.ref x0, .int x1]) (r := (some (.int z.1))) (ls0 := [some (.ref x0), some (.int x1)]) (y := rx_ny 104) (D := (0 + 0 * F.2)) (ini := false) (bo := true) (u := u) (u' := z.2) (by decide +kernel) (fun h => by cases h) (Nat.le_of_ble_eq_true rfl) (Or.inr (Or.inl ⟨rfl, rfl, _, rfl⟩)) (fun Z hZ hB => rx_RT_hI hZ hB) (by exact ⟨Or.inr rfl, Or.inr rfl, trivial⟩) (s_X6_isSize_0 (cc_X6_isSize F l G z) x0 x1 u h)).deep (by omega)
theorem w_X6_isSize (F : Nat × Nat) (l : Launch) (G : rx_G) {α : Type} {z : α} {as : List Value} {u : Option rx_H} {κ : rx_K α} (h : c_X6_isSize F as u κ = some z) : rx_Cw l G (1 + 0 * F.2) 104 as u κ z := by
  unfold c_X6_isSize at h
  split at h
  · obtain ⟨r, hr, h⟩ := Option.bind_eq_some_iff.mp h
    exact ⟨_, _, _, _, h, k_X6_isSize, fun h => absurd h (by decide), fun _ => ⟨_, _, rfl, rfl⟩, fun hf => m_X6_isSize F l G hf _ _ _ hr⟩
  · cases h
set_option maxRecDepth 100000 in
theorem k_X6_isKind : rx_Cal (rx_ny 101) (.code (rx_ny 101) prog_1_method_53_code 3 (some .boolean)) (rx_kd 101) 2 := ⟨prog_1_method_53_code, 3, (some .boolean), Or.inl rfl, rx_in (i := 165) (by rfl) (by rfl), rx_in (i := 41) (by decide +kernel) (by decide +kernel), ⟨(by decide +kernel), (by decide +kernel), (by decide +kernel)⟩, Nat.le_of_ble_eq_true rfl, fun h => absurd h (by decide), fun _ => ⟨rx_in (i := 164) (by decide +kernel) (by decide +kernel), rx_in (i := 1) (by decide +kernel) (by decide +kernel)⟩, fun h => absurd h (by decide)⟩
set_option maxRecDepth 100000 in
theorem tk_X6_isKind : (t_X6_isKind.all (rx_eok "SetHouse" prog_1_method_53_code 3 false true) && rx_adj t_X6_isKind) = true := by decide +kernel
theorem s_X6_isKind_0 {F : Nat × Nat} {l : Launch} {G : rx_G} {D : Nat} {hf : rx_H} {z : (Int32 × Option rx_H)} (hC : rx_CC l G D (C_X6_isKind F) z) (x0 : Nat) (x1 : Int32) (x2 : Int32) (u : Option rx_H) (h : f_X6_isKind_0 F x0 x1 x2 u = some z) : rx_S l G ("SetHouse", prog_1_method_53_code, 3, false, true, D) hf (z.2.getD hf) rx_hI z 0 [some (.ref x0), some (.int x1), some (.int x2)] [] u := by
  rw [g_X6_isKind_0] at h
  refine rx_S_node (md := ("SetHouse", prog_1_method_53_code, 3, false, true, D)) tk_X6_isKind hC rx_m_hI (fun t ls st u h => ?_) h
  unfold kk_X6_isKind_0 at h
  cases h
theorem cc_X6_isKind (F : Nat × Nat) (l : Launch) (G : rx_G) {α : Type} (z : α) : rx_CC l G (1 + 0 * F.2) (C_X6_isKind F) z := by
  intro j as u κ h
  unfold C_X6_isKind at h
  rcases rx_rec_eq h with ⟨hb, h⟩ | ⟨hb, h⟩
  · have ht := Nat.eq_of_beq_eq_true hb
    subst ht
    exact (w_X1_hasNumber F l G h).deep (by omega)
  rcases rx_rec_eq h with ⟨hb, h⟩ | ⟨hb, h⟩
  · have ht := Nat.eq_of_beq_eq_true hb
    subst ht
    exact (w_X6_isSize F l G h).deep (by omega)
  cases h
theorem m_X6_isKind (F : Nat × Nat) (l : Launch) (G : rx_G) (hf : rx_H) (x0 : Nat) (x1 : Int32) (x2 : Int32) (u : Option rx_H) {z : (Int32 × Option rx_H)} (h : f_X6_isKind F x0 x1 x2 u = some z) : rx_Ok l G (2 + 0 * F.2) (rx_ny 101) (.code (rx_ny 101) prog_1_method_53_code 3 (some .boolean)) [.ref x0, .int x1, .int x2] (u.getD hf) (some (.int z.1)) (z.2.getD hf) := by
  have h := h
  unfold f_X6_isKind at h
  exact (rx_met (l := l) (G := G) (hf := hf) (as := [.ref x0, .int x1, .int x2]) (r := (some (.int z.1))) (ls0 := [some (.ref x0), some (.int x1), some (.int x2)]) (y := rx_ny 101) (D := (1 + 0 * F.2)) (ini := false) (bo := true) (u := u) (u' := z.2) (by decide +kernel) (fun h => by cases h) (Nat.le_of_ble_eq_true rfl) (Or.inr (Or.inl ⟨rfl, rfl, _, rfl⟩)) (fun Z hZ hB => rx_RT_hI hZ hB) (by exact ⟨Or.inr rfl, Or.inr rfl, Or.inr rfl, trivial⟩) (s_X6_isKind_0 (cc_X6_isKind F l G z) x0 x1 x2 u h)).deep (by omega)
theorem w_X6_isKind (F : Nat × Nat) (l : Launch) (G : rx_G) {α : Type} {z : α} {as : List Value} {u : Option rx_H} {κ : rx_K α} (h : c_X6_isKind F as u κ = some z) : rx_Cw l G (2 + 0 * F.2) 101 as u κ z := by
  unfold c_X6_isKind at h
  split at h
  · obtain ⟨r, hr, h⟩ := Option.bind_eq_some_iff.mp h
    exact ⟨_, _, _, _, h, k_X6_isKind, fun h => absurd h (by decide), fun _ => ⟨_, _, rfl, rfl⟩, fun hf => m_X6_isKind F l G hf _ _ _ _ hr⟩
  · cases h
set_option maxRecDepth 100000 in
theorem k_X6_keep : rx_Cal (rx_ny 106) (.code (rx_ny 106) prog_1_method_58_code 6 (some .int)) (rx_kd 106) 4 := ⟨prog_1_method_58_code, 6, (some .int), Or.inl rfl, rx_in (i := 176) (by rfl) (by rfl), rx_in (i := 41) (by decide +kernel) (by decide +kernel), ⟨(by decide +kernel), (by decide +kernel), (by decide +kernel)⟩, Nat.le_of_ble_eq_true rfl, fun h => absurd h (by decide), fun _ => ⟨rx_in (i := 175) (by decide +kernel) (by decide +kernel), rx_in (i := 3) (by decide +kernel) (by decide +kernel)⟩, fun h => absurd h (by decide)⟩
set_option maxRecDepth 100000 in
theorem tk_X6_keep : (t_X6_keep.all (rx_eok "SetHouse" prog_1_method_58_code 6 false false) && rx_adj t_X6_keep) = true := by decide +kernel
theorem s_X6_keep_0 {F : Nat × Nat} {l : Launch} {G : rx_G} {D : Nat} {hf : rx_H} {z : (Int32 × Option rx_H)} (hC : rx_CC l G D (C_X6_keep F) z) (x0 : Nat) (x1 : Int32) (x2 : Int32) (x3 : Int32) (x4 : Int64) (u : Option rx_H) (h : f_X6_keep_0 F x0 x1 x2 x3 x4 u = some z) : rx_S l G ("SetHouse", prog_1_method_58_code, 6, false, false, D) hf (z.2.getD hf) rx_hI z 0 [some (.ref x0), some (.int x1), some (.int x2), some (.int x3), some (.long x4), none] [] u := by
  rw [g_X6_keep_0] at h
  refine rx_S_node (md := ("SetHouse", prog_1_method_58_code, 6, false, false, D)) tk_X6_keep hC rx_m_hI (fun t ls st u h => ?_) h
  unfold kk_X6_keep_0 at h
  cases h
theorem cc_X6_keep (F : Nat × Nat) (l : Launch) (G : rx_G) {α : Type} (z : α) : rx_CC l G (2 + 0 * F.2) (C_X6_keep F) z := by
  intro j as u κ h
  unfold C_X6_keep at h
  rcases rx_rec_eq h with ⟨hb, h⟩ | ⟨hb, h⟩
  · have ht := Nat.eq_of_beq_eq_true hb
    subst ht
    exact (w_X0_size F l G h).deep (by omega)
  rcases rx_rec_eq h with ⟨hb, h⟩ | ⟨hb, h⟩
  · have ht := Nat.eq_of_beq_eq_true hb
    subst ht
    exact (w_X4_becomeFamily F l G h).deep (by omega)
  cases h
theorem m_X6_keep (F : Nat × Nat) (l : Launch) (G : rx_G) (hf : rx_H) (x0 : Nat) (x1 : Int32) (x2 : Int32) (x3 : Int32) (x4 : Int64) (u : Option rx_H) {z : (Int32 × Option rx_H)} (h : f_X6_keep F x0 x1 x2 x3 x4 u = some z) : rx_Ok l G (3 + 0 * F.2) (rx_ny 106) (.code (rx_ny 106) prog_1_method_58_code 6 (some .int)) [.ref x0, .int x1, .int x2, .int x3, .long x4] (u.getD hf) (some (.int z.1)) (z.2.getD hf) := by
  have h := h
  unfold f_X6_keep at h
  exact (rx_met (l := l) (G := G) (hf := hf) (as := [.ref x0, .int x1, .int x2, .int x3, .long x4]) (r := (some (.int z.1))) (ls0 := [some (.ref x0), some (.int x1), some (.int x2), some (.int x3), some (.long x4), none]) (y := rx_ny 106) (D := (2 + 0 * F.2)) (ini := false) (bo := false) (u := u) (u' := z.2) (by decide +kernel) (fun h => by cases h) (Nat.le_of_ble_eq_true rfl) (Or.inl ⟨rfl, rfl, _, rfl⟩) (fun Z hZ hB => rx_RT_hI hZ hB) (by exact ⟨Or.inr rfl, Or.inr rfl, Or.inr rfl, Or.inr rfl, Or.inr rfl, Or.inl rfl, trivial⟩) (s_X6_keep_0 (cc_X6_keep F l G z) x0 x1 x2 x3 x4 u h)).deep (by omega)
theorem w_X6_keep (F : Nat × Nat) (l : Launch) (G : rx_G) {α : Type} {z : α} {as : List Value} {u : Option rx_H} {κ : rx_K α} (h : c_X6_keep F as u κ = some z) : rx_Cw l G (3 + 0 * F.2) 106 as u κ z := by
  unfold c_X6_keep at h
  split at h
  · obtain ⟨r, hr, h⟩ := Option.bind_eq_some_iff.mp h
    exact ⟨_, _, _, _, h, k_X6_keep, fun h => absurd h (by decide), fun _ => ⟨_, _, rfl, rfl⟩, fun hf => m_X6_keep F l G hf _ _ _ _ _ _ hr⟩
  · cases h
set_option maxRecDepth 100000 in
theorem k_X6_make : rx_Cal (rx_ny 110) (.code (rx_ny 110) prog_1_method_2_code 4 (some .int)) (rx_kd 110) 3 := ⟨prog_1_method_2_code, 4, (some .int), Or.inl rfl, rx_in (i := 157) (by rfl) (by rfl), rx_in (i := 41) (by decide +kernel) (by decide +kernel), ⟨(by decide +kernel), (by decide +kernel), (by decide +kernel)⟩, Nat.le_of_ble_eq_true rfl, fun h => absurd h (by decide), fun _ => ⟨rx_in (i := 155) (by decide +kernel) (by decide +kernel), rx_in (i := 156) (by decide +kernel) (by decide +kernel)⟩, fun h => absurd h (by decide)⟩
set_option maxRecDepth 100000 in
theorem tk_X6_make : (t_X6_make.all (rx_eok "SetHouse" prog_1_method_2_code 4 false false) && rx_adj t_X6_make) = true := by decide +kernel
theorem s_X6_make_0 {F : Nat × Nat} {l : Launch} {G : rx_G} {D : Nat} {hf : rx_H} {z : (Int32 × Option rx_H)} (hC : rx_CC l G D (C_X6_make F) z) (x0 : Nat) (x1 : Int32) (x2 : Int32) (x3 : Int32) (u : Option rx_H) (h : f_X6_make_0 F x0 x1 x2 x3 u = some z) : rx_S l G ("SetHouse", prog_1_method_2_code, 4, false, false, D) hf (z.2.getD hf) rx_hI z 0 [some (.ref x0), some (.int x1), some (.int x2), some (.int x3)] [] u := by
  rw [g_X6_make_0] at h
  refine rx_S_node (md := ("SetHouse", prog_1_method_2_code, 4, false, false, D)) tk_X6_make hC rx_m_hI (fun t ls st u h => ?_) h
  unfold kk_X6_make_0 at h
  cases h
theorem cc_X6_make (F : Nat × Nat) (l : Launch) (G : rx_G) {α : Type} (z : α) : rx_CC l G (3 + 0 * F.2) (C_X6_make F) z := by
  intro j as u κ h
  unfold C_X6_make at h
  rcases rx_rec_eq h with ⟨hb, h⟩ | ⟨hb, h⟩
  · have ht := Nat.eq_of_beq_eq_true hb
    subst ht
    exact (w_X6_isKind F l G h).deep (by omega)
  rcases rx_rec_eq h with ⟨hb, h⟩ | ⟨hb, h⟩
  · have ht := Nat.eq_of_beq_eq_true hb
    subst ht
    exact (w_X6_isPlace F l G h).deep (by omega)
  rcases rx_rec_eq h with ⟨hb, h⟩ | ⟨hb, h⟩
  · have ht := Nat.eq_of_beq_eq_true hb
    subst ht
    exact (w_X6_keep F l G h).deep (by omega)
  cases h
theorem m_X6_make (F : Nat × Nat) (l : Launch) (G : rx_G) (hf : rx_H) (x0 : Nat) (x1 : Int32) (x2 : Int32) (x3 : Int32) (u : Option rx_H) {z : (Int32 × Option rx_H)} (h : f_X6_make F x0 x1 x2 x3 u = some z) : rx_Ok l G (4 + 0 * F.2) (rx_ny 110) (.code (rx_ny 110) prog_1_method_2_code 4 (some .int)) [.ref x0, .int x1, .int x2, .int x3] (u.getD hf) (some (.int z.1)) (z.2.getD hf) := by
  have h := h
  unfold f_X6_make at h
  exact (rx_met (l := l) (G := G) (hf := hf) (as := [.ref x0, .int x1, .int x2, .int x3]) (r := (some (.int z.1))) (ls0 := [some (.ref x0), some (.int x1), some (.int x2), some (.int x3)]) (y := rx_ny 110) (D := (3 + 0 * F.2)) (ini := false) (bo := false) (u := u) (u' := z.2) (by decide +kernel) (fun h => by cases h) (Nat.le_of_ble_eq_true rfl) (Or.inl ⟨rfl, rfl, _, rfl⟩) (fun Z hZ hB => rx_RT_hI hZ hB) (by exact ⟨Or.inr rfl, Or.inr rfl, Or.inr rfl, Or.inr rfl, trivial⟩) (s_X6_make_0 (cc_X6_make F l G z) x0 x1 x2 x3 u h)).deep (by omega)
theorem w_X6_make (F : Nat × Nat) (l : Launch) (G : rx_G) {α : Type} {z : α} {as : List Value} {u : Option rx_H} {κ : rx_K α} (h : c_X6_make F as u κ = some z) : rx_Cw l G (4 + 0 * F.2) 110 as u κ z := by
  unfold c_X6_make at h
  split at h
  · obtain ⟨r, hr, h⟩ := Option.bind_eq_some_iff.mp h
    exact ⟨_, _, _, _, h, k_X6_make, fun h => absurd h (by decide), fun _ => ⟨_, _, rfl, rfl⟩, fun hf => m_X6_make F l G hf _ _ _ _ _ hr⟩
  · cases h
set_option maxRecDepth 100000 in
theorem k_X6_familyRefusal : rx_Cal (rx_ny 92) (.code (rx_ny 92) prog_1_method_54_code 3 (some .int)) (rx_kd 92) 2 := ⟨prog_1_method_54_code, 3, (some .int), Or.inl rfl, rx_in (i := 197) (by rfl) (by rfl), rx_in (i := 41) (by decide +kernel) (by decide +kernel), ⟨(by decide +kernel), (by decide +kernel), (by decide +kernel)⟩, Nat.le_of_ble_eq_true rfl, fun h => absurd h (by decide), fun _ => ⟨rx_in (i := 196) (by decide +kernel) (by decide +kernel), rx_in (i := 4) (by decide +kernel) (by decide +kernel)⟩, fun h => absurd h (by decide)⟩
set_option maxRecDepth 100000 in
theorem tk_X6_familyRefusal : (t_X6_familyRefusal.all (rx_eok "SetHouse" prog_1_method_54_code 3 false false) && rx_adj t_X6_familyRefusal) = true := by decide +kernel
theorem s_X6_familyRefusal_0 {F : Nat × Nat} {l : Launch} {G : rx_G} {D : Nat} {hf : rx_H} {z : (Int32 × Option rx_H)} (hC : rx_CC l G D (C_X6_familyRefusal F) z) (x0 : Nat) (x1 : Int32) (x2 : Int32) (u : Option rx_H) (h : f_X6_familyRefusal_0 F x0 x1 x2 u = some z) : rx_S l G ("SetHouse", prog_1_method_54_code, 3, false, false, D) hf (z.2.getD hf) rx_hI z 0 [some (.ref x0), some (.int x1), some (.int x2)] [] u := by
  rw [g_X6_familyRefusal_0] at h
  refine rx_S_node (md := ("SetHouse", prog_1_method_54_code, 3, false, false, D)) tk_X6_familyRefusal hC rx_m_hI (fun t ls st u h => ?_) h
  unfold kk_X6_familyRefusal_0 at h
  cases h
theorem cc_X6_familyRefusal (F : Nat × Nat) (l : Launch) (G : rx_G) {α : Type} (z : α) : rx_CC l G (1 + 0 * F.2) (C_X6_familyRefusal F) z := by
  intro j as u κ h
  unfold C_X6_familyRefusal at h
  rcases rx_rec_eq h with ⟨hb, h⟩ | ⟨hb, h⟩
  · have ht := Nat.eq_of_beq_eq_true hb
    subst ht
    exact (w_X4_isRow F l G h).deep (by omega)
  rcases rx_rec_eq h with ⟨hb, h⟩ | ⟨hb, h⟩
  · have ht := Nat.eq_of_beq_eq_true hb
    subst ht
    exact (w_X6_isPlace F l G h).deep (by omega)
  cases h
theorem m_X6_familyRefusal (F : Nat × Nat) (l : Launch) (G : rx_G) (hf : rx_H) (x0 : Nat) (x1 : Int32) (x2 : Int32) (u : Option rx_H) {z : (Int32 × Option rx_H)} (h : f_X6_familyRefusal F x0 x1 x2 u = some z) : rx_Ok l G (2 + 0 * F.2) (rx_ny 92) (.code (rx_ny 92) prog_1_method_54_code 3 (some .int)) [.ref x0, .int x1, .int x2] (u.getD hf) (some (.int z.1)) (z.2.getD hf) := by
  have h := h
  unfold f_X6_familyRefusal at h
  exact (rx_met (l := l) (G := G) (hf := hf) (as := [.ref x0, .int x1, .int x2]) (r := (some (.int z.1))) (ls0 := [some (.ref x0), some (.int x1), some (.int x2)]) (y := rx_ny 92) (D := (1 + 0 * F.2)) (ini := false) (bo := false) (u := u) (u' := z.2) (by decide +kernel) (fun h => by cases h) (Nat.le_of_ble_eq_true rfl) (Or.inl ⟨rfl, rfl, _, rfl⟩) (fun Z hZ hB => rx_RT_hI hZ hB) (by exact ⟨Or.inr rfl, Or.inr rfl, Or.inr rfl, trivial⟩) (s_X6_familyRefusal_0 (cc_X6_familyRefusal F l G z) x0 x1 x2 u h)).deep (by omega)
theorem w_X6_familyRefusal (F : Nat × Nat) (l : Launch) (G : rx_G) {α : Type} {z : α} {as : List Value} {u : Option rx_H} {κ : rx_K α} (h : c_X6_familyRefusal F as u κ = some z) : rx_Cw l G (2 + 0 * F.2) 92 as u κ z := by
  unfold c_X6_familyRefusal at h
  split at h
  · obtain ⟨r, hr, h⟩ := Option.bind_eq_some_iff.mp h
    exact ⟨_, _, _, _, h, k_X6_familyRefusal, fun h => absurd h (by decide), fun _ => ⟨_, _, rfl, rfl⟩, fun hf => m_X6_familyRefusal F l G hf _ _ _ _ hr⟩
  · cases h
set_option maxRecDepth 100000 in
theorem k_X6_cross : rx_Cal (rx_ny 86) (.code (rx_ny 86) prog_1_method_3_code 5 (some .int)) (rx_kd 86) 3 := ⟨prog_1_method_3_code, 5, (some .int), Or.inl rfl, rx_in (i := 193) (by rfl) (by rfl), rx_in (i := 41) (by decide +kernel) (by decide +kernel), ⟨(by decide +kernel), (by decide +kernel), (by decide +kernel)⟩, Nat.le_of_ble_eq_true rfl, fun h => absurd h (by decide), fun _ => ⟨rx_in (i := 191) (by decide +kernel) (by decide +kernel), rx_in (i := 192) (by decide +kernel) (by decide +kernel)⟩, fun h => absurd h (by decide)⟩
set_option maxRecDepth 100000 in
theorem tk_X6_cross : (t_X6_cross.all (rx_eok "SetHouse" prog_1_method_3_code 5 false false) && rx_adj t_X6_cross) = true := by decide +kernel
theorem s_X6_cross_27 {F : Nat × Nat} {l : Launch} {G : rx_G} {D : Nat} {hf : rx_H} {z : (Int32 × Option rx_H)} (hC : rx_CC l G D (C_X6_cross F) z) (x0 : Nat) (x1 : Int32) (x2 : Int32) (x3 : Int32) (s0 : Nat) (s1 : Int32) (s2 : Int32) (u : Option rx_H) (h : f_X6_cross_27 F x0 x1 x2 x3 s0 s1 s2 u = some z) : rx_S l G ("SetHouse", prog_1_method_3_code, 5, false, false, D) hf (z.2.getD hf) rx_hI z 27 [some (.ref x0), some (.int x1), some (.int x2), some (.int x3), none] [.int s2, .int s1, .ref s0] u := by
  rw [g_X6_cross_27] at h
  refine rx_S_node (md := ("SetHouse", prog_1_method_3_code, 5, false, false, D)) tk_X6_cross hC rx_m_hI (fun t ls st u h => ?_) h
  unfold kk_X6_cross_27 at h
  cases h
theorem s_X6_cross_0 {F : Nat × Nat} {l : Launch} {G : rx_G} {D : Nat} {hf : rx_H} {z : (Int32 × Option rx_H)} (hC : rx_CC l G D (C_X6_cross F) z) (x0 : Nat) (x1 : Int32) (x2 : Int32) (x3 : Int32) (u : Option rx_H) (h : f_X6_cross_0 F x0 x1 x2 x3 u = some z) : rx_S l G ("SetHouse", prog_1_method_3_code, 5, false, false, D) hf (z.2.getD hf) rx_hI z 0 [some (.ref x0), some (.int x1), some (.int x2), some (.int x3), none] [] u := by
  rw [g_X6_cross_0] at h
  refine rx_S_node (md := ("SetHouse", prog_1_method_3_code, 5, false, false, D)) tk_X6_cross hC rx_m_hI (fun t ls st u h => ?_) h
  unfold kk_X6_cross_0 at h
  rcases rx_rec_eq h with ⟨hb, h⟩ | ⟨hb, h⟩
  · have ht := Nat.eq_of_beq_eq_true hb
    subst ht
    unfold n_X6_cross_27 at h
    split at h
    · exact (s_X6_cross_27 hC _ _ _ _ _ _ _ _ h).le ⟨Or.inr rfl, Or.inr rfl, Or.inr rfl, Or.inr rfl, Or.inl rfl, trivial⟩
    · cases h
  cases h
theorem cc_X6_cross (F : Nat × Nat) (l : Launch) (G : rx_G) {α : Type} (z : α) : rx_CC l G (2 + 0 * F.2) (C_X6_cross F) z := by
  intro j as u κ h
  unfold C_X6_cross at h
  rcases rx_rec_eq h with ⟨hb, h⟩ | ⟨hb, h⟩
  · have ht := Nat.eq_of_beq_eq_true hb
    subst ht
    exact (w_X4_becomeFamily F l G h).deep (by omega)
  rcases rx_rec_eq h with ⟨hb, h⟩ | ⟨hb, h⟩
  · have ht := Nat.eq_of_beq_eq_true hb
    subst ht
    exact (w_X6_familyRefusal F l G h).deep (by omega)
  rcases rx_rec_eq h with ⟨hb, h⟩ | ⟨hb, h⟩
  · have ht := Nat.eq_of_beq_eq_true hb
    subst ht
    exact (w_X6_isPlace F l G h).deep (by omega)
  cases h
theorem m_X6_cross (F : Nat × Nat) (l : Launch) (G : rx_G) (hf : rx_H) (x0 : Nat) (x1 : Int32) (x2 : Int32) (x3 : Int32) (u : Option rx_H) {z : (Int32 × Option rx_H)} (h : f_X6_cross F x0 x1 x2 x3 u = some z) : rx_Ok l G (3 + 0 * F.2) (rx_ny 86) (.code (rx_ny 86) prog_1_method_3_code 5 (some .int)) [.ref x0, .int x1, .int x2, .int x3] (u.getD hf) (some (.int z.1)) (z.2.getD hf) := by
  have h := h
  unfold f_X6_cross at h
  exact (rx_met (l := l) (G := G) (hf := hf) (as := [.ref x0, .int x1, .int x2, .int x3]) (r := (some (.int z.1))) (ls0 := [some (.ref x0), some (.int x1), some (.int x2), some (.int x3), none]) (y := rx_ny 86) (D := (2 + 0 * F.2)) (ini := false) (bo := false) (u := u) (u' := z.2) (by decide +kernel) (fun h => by cases h) (Nat.le_of_ble_eq_true rfl) (Or.inl ⟨rfl, rfl, _, rfl⟩) (fun Z hZ hB => rx_RT_hI hZ hB) (by exact ⟨Or.inr rfl, Or.inr rfl, Or.inr rfl, Or.inr rfl, Or.inl rfl, trivial⟩) (s_X6_cross_0 (cc_X6_cross F l G z) x0 x1 x2 x3 u h)).deep (by omega)
theorem w_X6_cross (F : Nat × Nat) (l : Launch) (G : rx_G) {α : Type} {z : α} {as : List Value} {u : Option rx_H} {κ : rx_K α} (h : c_X6_cross F as u κ = some z) : rx_Cw l G (3 + 0 * F.2) 86 as u κ z := by
  unfold c_X6_cross at h
  split at h
  · obtain ⟨r, hr, h⟩ := Option.bind_eq_some_iff.mp h
    exact ⟨_, _, _, _, h, k_X6_cross, fun h => absurd h (by decide), fun _ => ⟨_, _, rfl, rfl⟩, fun hf => m_X6_cross F l G hf _ _ _ _ _ hr⟩
  · cases h
set_option maxRecDepth 100000 in
theorem k_X6_comes : rx_Cal (rx_ny 82) (.code (rx_ny 82) prog_1_method_57_code 4 (some .boolean)) (rx_kd 82) 2 := ⟨prog_1_method_57_code, 4, (some .boolean), Or.inl rfl, rx_in (i := 213) (by rfl) (by rfl), rx_in (i := 41) (by decide +kernel) (by decide +kernel), ⟨(by decide +kernel), (by decide +kernel), (by decide +kernel)⟩, Nat.le_of_ble_eq_true rfl, fun h => absurd h (by decide), fun _ => ⟨rx_in (i := 212) (by decide +kernel) (by decide +kernel), rx_in (i := 6) (by decide +kernel) (by decide +kernel)⟩, fun h => absurd h (by decide)⟩
set_option maxRecDepth 100000 in
theorem tk_X6_comes : (t_X6_comes.all (rx_eok "SetHouse" prog_1_method_57_code 4 false true) && rx_adj t_X6_comes) = true := by decide +kernel
theorem s_X6_comes_0 {F : Nat × Nat} {l : Launch} {G : rx_G} {D : Nat} {hf : rx_H} {z : (Int32 × Option rx_H)} (hC : rx_CC l G D (C_X6_comes F) z) (x0 : Nat) (x1 : Nat) (x2 : Int32) (u : Option rx_H) (h : f_X6_comes_0 F x0 x1 x2 u = some z) : rx_S l G ("SetHouse", prog_1_method_57_code, 4, false, true, D) hf (z.2.getD hf) rx_hI z 0 [some (.ref x0), some (.ref x1), some (.int x2), none] [] u := by
  rw [g_X6_comes_0] at h
  refine rx_S_node (md := ("SetHouse", prog_1_method_57_code, 4, false, true, D)) tk_X6_comes hC rx_m_hI (fun t ls st u h => ?_) h
  unfold kk_X6_comes_0 at h
  cases h
theorem cc_X6_comes (F : Nat × Nat) (l : Launch) (G : rx_G) {α : Type} (z : α) : rx_CC l G (5 + 0 * F.2) (C_X6_comes F) z := by
  intro j as u κ h
  unfold C_X6_comes at h
  rcases rx_rec_eq h with ⟨hb, h⟩ | ⟨hb, h⟩
  · have ht := Nat.eq_of_beq_eq_true hb
    subst ht
    exact (w_X1_comingClash F l G h).deep (by omega)
  cases h
theorem m_X6_comes (F : Nat × Nat) (l : Launch) (G : rx_G) (hf : rx_H) (x0 : Nat) (x1 : Nat) (x2 : Int32) (u : Option rx_H) {z : (Int32 × Option rx_H)} (h : f_X6_comes F x0 x1 x2 u = some z) : rx_Ok l G (6 + 0 * F.2) (rx_ny 82) (.code (rx_ny 82) prog_1_method_57_code 4 (some .boolean)) [.ref x0, .ref x1, .int x2] (u.getD hf) (some (.int z.1)) (z.2.getD hf) := by
  have h := h
  unfold f_X6_comes at h
  exact (rx_met (l := l) (G := G) (hf := hf) (as := [.ref x0, .ref x1, .int x2]) (r := (some (.int z.1))) (ls0 := [some (.ref x0), some (.ref x1), some (.int x2), none]) (y := rx_ny 82) (D := (5 + 0 * F.2)) (ini := false) (bo := true) (u := u) (u' := z.2) (by decide +kernel) (fun h => by cases h) (Nat.le_of_ble_eq_true rfl) (Or.inr (Or.inl ⟨rfl, rfl, _, rfl⟩)) (fun Z hZ hB => rx_RT_hI hZ hB) (by exact ⟨Or.inr rfl, Or.inr rfl, Or.inr rfl, Or.inl rfl, trivial⟩) (s_X6_comes_0 (cc_X6_comes F l G z) x0 x1 x2 u h)).deep (by omega)
theorem w_X6_comes (F : Nat × Nat) (l : Launch) (G : rx_G) {α : Type} {z : α} {as : List Value} {u : Option rx_H} {κ : rx_K α} (h : c_X6_comes F as u κ = some z) : rx_Cw l G (6 + 0 * F.2) 82 as u κ z := by
  unfold c_X6_comes at h
  split at h
  · obtain ⟨r, hr, h⟩ := Option.bind_eq_some_iff.mp h
    exact ⟨_, _, _, _, h, k_X6_comes, fun h => absurd h (by decide), fun _ => ⟨_, _, rfl, rfl⟩, fun hf => m_X6_comes F l G hf _ _ _ _ hr⟩
  · cases h
set_option maxRecDepth 100000 in
theorem k_X6_isSet : rx_Cal (rx_ny 103) (.code (rx_ny 103) prog_1_method_50_code 2 (some .boolean)) (rx_kd 103) 1 := ⟨prog_1_method_50_code, 2, (some .boolean), Or.inl rfl, rx_in (i := 209) (by rfl) (by rfl), rx_in (i := 41) (by decide +kernel) (by decide +kernel), ⟨(by decide +kernel), (by decide +kernel), (by decide +kernel)⟩, Nat.le_of_ble_eq_true rfl, fun h => absurd h (by decide), fun _ => ⟨rx_in (i := 208) (by decide +kernel) (by decide +kernel), rx_in (i := 5) (by decide +kernel) (by decide +kernel)⟩, fun h => absurd h (by decide)⟩
set_option maxRecDepth 100000 in
theorem tk_X6_isSet : (t_X6_isSet.all (rx_eok "SetHouse" prog_1_method_50_code 2 false true) && rx_adj t_X6_isSet) = true := by decide +kernel
theorem s_X6_isSet_0 {F : Nat × Nat} {l : Launch} {G : rx_G} {D : Nat} {hf : rx_H} {z : (Int32 × Option rx_H)} (hC : rx_CC l G D (C_X6_isSet F) z) (x0 : Nat) (x1 : Int32) (u : Option rx_H) (h : f_X6_isSet_0 F x0 x1 u = some z) : rx_S l G ("SetHouse", prog_1_method_50_code, 2, false, true, D) hf (z.2.getD hf) rx_hI z 0 [some (.ref x0), some (.int x1)] [] u := by
  rw [g_X6_isSet_0] at h
  refine rx_S_node (md := ("SetHouse", prog_1_method_50_code, 2, false, true, D)) tk_X6_isSet hC rx_m_hI (fun t ls st u h => ?_) h
  unfold kk_X6_isSet_0 at h
  cases h
theorem cc_X6_isSet (F : Nat × Nat) (l : Launch) (G : rx_G) {α : Type} (z : α) : rx_CC l G (0 + 0 * F.2) (C_X6_isSet F) z := by
  intro j as u κ h
  unfold C_X6_isSet at h
  cases h
theorem m_X6_isSet (F : Nat × Nat) (l : Launch) (G : rx_G) (hf : rx_H) (x0 : Nat) (x1 : Int32) (u : Option rx_H) {z : (Int32 × Option rx_H)} (h : f_X6_isSet F x0 x1 u = some z) : rx_Ok l G (1 + 0 * F.2) (rx_ny 103) (.code (rx_ny 103) prog_1_method_50_code 2 (some .boolean)) [.ref x0, .int x1] (u.getD hf) (some (.int z.1)) (z.2.getD hf) := by
  have h := h
  unfold f_X6_isSet at h
  exact (rx_met (l := l) (G := G) (hf := hf) (as := [.ref x0, .int x1]) (r := (some (.int z.1))) (ls0 := [some (.ref x0), some (.int x1)]) (y := rx_ny 103) (D := (0 + 0 * F.2)) (ini := false) (bo := true) (u := u) (u' := z.2) (by decide +kernel) (fun h => by cases h) (Nat.le_of_ble_eq_true rfl) (Or.inr (Or.inl ⟨rfl, rfl, _, rfl⟩)) (fun Z hZ hB => rx_RT_hI hZ hB) (by exact ⟨Or.inr rfl, Or.inr rfl, trivial⟩) (s_X6_isSet_0 (cc_X6_isSet F l G z) x0 x1 u h)).deep (by omega)
theorem w_X6_isSet (F : Nat × Nat) (l : Launch) (G : rx_G) {α : Type} {z : α} {as : List Value} {u : Option rx_H} {κ : rx_K α} (h : c_X6_isSet F as u κ = some z) : rx_Cw l G (1 + 0 * F.2) 103 as u κ z := by
  unfold c_X6_isSet at h
  split at h
  · obtain ⟨r, hr, h⟩ := Option.bind_eq_some_iff.mp h
    exact ⟨_, _, _, _, h, k_X6_isSet, fun h => absurd h (by decide), fun _ => ⟨_, _, rfl, rfl⟩, fun hf => m_X6_isSet F l G hf _ _ _ hr⟩
  · cases h
set_option maxRecDepth 100000 in
theorem k_X6_add : rx_Cal (rx_ny 77) (.code (rx_ny 77) prog_1_method_4_code 4 (some .int)) (rx_kd 77) 2 := ⟨prog_1_method_4_code, 4, (some .int), Or.inl rfl, rx_in (i := 205) (by rfl) (by rfl), rx_in (i := 41) (by decide +kernel) (by decide +kernel), ⟨(by decide +kernel), (by decide +kernel), (by decide +kernel)⟩, Nat.le_of_ble_eq_true rfl, fun h => absurd h (by decide), fun _ => ⟨rx_in (i := 203) (by decide +kernel) (by decide +kernel), rx_in (i := 204) (by decide +kernel) (by decide +kernel)⟩, fun h => absurd h (by decide)⟩
set_option maxRecDepth 100000 in
theorem tk_X6_add : (t_X6_add.all (rx_eok "SetHouse" prog_1_method_4_code 4 false false) && rx_adj t_X6_add) = true := by decide +kernel
theorem s_X6_add_0 {F : Nat × Nat} {l : Launch} {G : rx_G} {D : Nat} {hf : rx_H} {z : (Int32 × Option rx_H)} (hC : rx_CC l G D (C_X6_add F) z) (x0 : Nat) (x1 : Int32) (x2 : Int32) (u : Option rx_H) (h : f_X6_add_0 F x0 x1 x2 u = some z) : rx_S l G ("SetHouse", prog_1_method_4_code, 4, false, false, D) hf (z.2.getD hf) rx_hI z 0 [some (.ref x0), some (.int x1), some (.int x2), none] [] u := by
  rw [g_X6_add_0] at h
  refine rx_S_node (md := ("SetHouse", prog_1_method_4_code, 4, false, false, D)) tk_X6_add hC rx_m_hI (fun t ls st u h => ?_) h
  unfold kk_X6_add_0 at h
  cases h
theorem cc_X6_add (F : Nat × Nat) (l : Launch) (G : rx_G) {α : Type} (z : α) : rx_CC l G (6 + 0 * F.2) (C_X6_add F) z := by
  intro j as u κ h
  unfold C_X6_add at h
  rcases rx_rec_eq h with ⟨hb, h⟩ | ⟨hb, h⟩
  · have ht := Nat.eq_of_beq_eq_true hb
    subst ht
    exact (w_X0_size F l G h).deep (by omega)
  rcases rx_rec_eq h with ⟨hb, h⟩ | ⟨hb, h⟩
  · have ht := Nat.eq_of_beq_eq_true hb
    subst ht
    exact (w_X6_comes F l G h).deep (by omega)
  rcases rx_rec_eq h with ⟨hb, h⟩ | ⟨hb, h⟩
  · have ht := Nat.eq_of_beq_eq_true hb
    subst ht
    exact (w_X6_familyRefusal F l G h).deep (by omega)
  rcases rx_rec_eq h with ⟨hb, h⟩ | ⟨hb, h⟩
  · have ht := Nat.eq_of_beq_eq_true hb
    subst ht
    exact (w_X6_isSet F l G h).deep (by omega)
  cases h
theorem m_X6_add (F : Nat × Nat) (l : Launch) (G : rx_G) (hf : rx_H) (x0 : Nat) (x1 : Int32) (x2 : Int32) (u : Option rx_H) {z : (Int32 × Option rx_H)} (h : f_X6_add F x0 x1 x2 u = some z) : rx_Ok l G (7 + 0 * F.2) (rx_ny 77) (.code (rx_ny 77) prog_1_method_4_code 4 (some .int)) [.ref x0, .int x1, .int x2] (u.getD hf) (some (.int z.1)) (z.2.getD hf) := by
  have h := h
  unfold f_X6_add at h
  exact (rx_met (l := l) (G := G) (hf := hf) (as := [.ref x0, .int x1, .int x2]) (r := (some (.int z.1))) (ls0 := [some (.ref x0), some (.int x1), some (.int x2), none]) (y := rx_ny 77) (D := (6 + 0 * F.2)) (ini := false) (bo := false) (u := u) (u' := z.2) (by decide +kernel) (fun h => by cases h) (Nat.le_of_ble_eq_true rfl) (Or.inl ⟨rfl, rfl, _, rfl⟩) (fun Z hZ hB => rx_RT_hI hZ hB) (by exact ⟨Or.inr rfl, Or.inr rfl, Or.inr rfl, Or.inl rfl, trivial⟩) (s_X6_add_0 (cc_X6_add F l G z) x0 x1 x2 u h)).deep (by omega)
theorem w_X6_add (F : Nat × Nat) (l : Launch) (G : rx_G) {α : Type} {z : α} {as : List Value} {u : Option rx_H} {κ : rx_K α} (h : c_X6_add F as u κ = some z) : rx_Cw l G (7 + 0 * F.2) 77 as u κ z := by
  unfold c_X6_add at h
  split at h
  · obtain ⟨r, hr, h⟩ := Option.bind_eq_some_iff.mp h
    exact ⟨_, _, _, _, h, k_X6_add, fun h => absurd h (by decide), fun _ => ⟨_, _, rfl, rfl⟩, fun hf => m_X6_add F l G hf _ _ _ _ hr⟩
  · cases h
set_option maxRecDepth 100000 in
theorem k_X6_drop : rx_Cal (rx_ny 87) (.code (rx_ny 87) prog_1_method_5_code 6 (some .int)) (rx_kd 87) 2 := ⟨prog_1_method_5_code, 6, (some .int), Or.inl rfl, rx_in (i := 249) (by rfl) (by rfl), rx_in (i := 41) (by decide +kernel) (by decide +kernel), ⟨(by decide +kernel), (by decide +kernel), (by decide +kernel)⟩, Nat.le_of_ble_eq_true rfl, fun h => absurd h (by decide), fun _ => ⟨rx_in (i := 247) (by decide +kernel) (by decide +kernel), rx_in (i := 248) (by decide +kernel) (by decide +kernel)⟩, fun h => absurd h (by decide)⟩
set_option maxRecDepth 100000 in
theorem tk_X6_drop : (t_X6_drop.all (rx_eok "SetHouse" prog_1_method_5_code 6 false false) && rx_adj t_X6_drop) = true := by decide +kernel
theorem s_X6_drop_0 {F : Nat × Nat} {l : Launch} {G : rx_G} {D : Nat} {hf : rx_H} {z : (Int32 × Option rx_H)} (hC : rx_CC l G D (C_X6_drop F) z) (x0 : Nat) (x1 : Int32) (x2 : Int32) (u : Option rx_H) (h : f_X6_drop_0 F x0 x1 x2 u = some z) : rx_S l G ("SetHouse", prog_1_method_5_code, 6, false, false, D) hf (z.2.getD hf) rx_hI z 0 [some (.ref x0), some (.int x1), some (.int x2), none, none, none] [] u := by
  rw [g_X6_drop_0] at h
  refine rx_S_node (md := ("SetHouse", prog_1_method_5_code, 6, false, false, D)) tk_X6_drop hC rx_m_hI (fun t ls st u h => ?_) h
  unfold kk_X6_drop_0 at h
  cases h
theorem cc_X6_drop (F : Nat × Nat) (l : Launch) (G : rx_G) {α : Type} (z : α) : rx_CC l G (4 + 0 * F.2) (C_X6_drop F) z := by
  intro j as u κ h
  unfold C_X6_drop at h
  rcases rx_rec_eq h with ⟨hb, h⟩ | ⟨hb, h⟩
  · have ht := Nat.eq_of_beq_eq_true hb
    subst ht
    exact (w_X0_holdsSet F l G h).deep (by omega)
  rcases rx_rec_eq h with ⟨hb, h⟩ | ⟨hb, h⟩
  · have ht := Nat.eq_of_beq_eq_true hb
    subst ht
    exact (w_X0_size F l G h).deep (by omega)
  rcases rx_rec_eq h with ⟨hb, h⟩ | ⟨hb, h⟩
  · have ht := Nat.eq_of_beq_eq_true hb
    subst ht
    exact (w_X1_goingClash F l G h).deep (by omega)
  rcases rx_rec_eq h with ⟨hb, h⟩ | ⟨hb, h⟩
  · have ht := Nat.eq_of_beq_eq_true hb
    subst ht
    exact (w_X6_familyRefusal F l G h).deep (by omega)
  rcases rx_rec_eq h with ⟨hb, h⟩ | ⟨hb, h⟩
  · have ht := Nat.eq_of_beq_eq_true hb
    subst ht
    exact (w_X6_isSet F l G h).deep (by omega)
  cases h
theorem m_X6_drop (F : Nat × Nat) (l : Launch) (G : rx_G) (hf : rx_H) (x0 : Nat) (x1 : Int32) (x2 : Int32) (u : Option rx_H) {z : (Int32 × Option rx_H)} (h : f_X6_drop F x0 x1 x2 u = some z) : rx_Ok l G (5 + 0 * F.2) (rx_ny 87) (.code (rx_ny 87) prog_1_method_5_code 6 (some .int)) [.ref x0, .int x1, .int x2] (u.getD hf) (some (.int z.1)) (z.2.getD hf) := by
  have h := h
  unfold f_X6_drop at h
  exact (rx_met (l := l) (G := G) (hf := hf) (as := [.ref x0, .int x1, .int x2]) (r := (some (.int z.1))) (ls0 := [some (.ref x0), some (.int x1), some (.int x2), none, none, none]) (y := rx_ny 87) (D := (4 + 0 * F.2)) (ini := false) (bo := false) (u := u) (u' := z.2) (by decide +kernel) (fun h => by cases h) (Nat.le_of_ble_eq_true rfl) (Or.inl ⟨rfl, rfl, _, rfl⟩) (fun Z hZ hB => rx_RT_hI hZ hB) (by exact ⟨Or.inr rfl, Or.inr rfl, Or.inr rfl, Or.inl rfl, Or.inl rfl, Or.inl rfl, trivial⟩) (s_X6_drop_0 (cc_X6_drop F l G z) x0 x1 x2 u h)).deep (by omega)
theorem w_X6_drop (F : Nat × Nat) (l : Launch) (G : rx_G) {α : Type} {z : α} {as : List Value} {u : Option rx_H} {κ : rx_K α} (h : c_X6_drop F as u κ = some z) : rx_Cw l G (5 + 0 * F.2) 87 as u κ z := by
  unfold c_X6_drop at h
  split at h
  · obtain ⟨r, hr, h⟩ := Option.bind_eq_some_iff.mp h
    exact ⟨_, _, _, _, h, k_X6_drop, fun h => absurd h (by decide), fun _ => ⟨_, _, rfl, rfl⟩, fun hf => m_X6_drop F l G hf _ _ _ _ hr⟩
  · cases h
set_option maxRecDepth 100000 in
theorem k_X6_clash : rx_Cal (rx_ny 80) (.code (rx_ny 80) prog_1_method_6_code 1 (some .int)) (rx_kd 80) 0 := ⟨prog_1_method_6_code, 1, (some .int), Or.inl rfl, rx_in (i := 258) (by rfl) (by rfl), rx_in (i := 41) (by decide +kernel) (by decide +kernel), ⟨(by decide +kernel), (by decide +kernel), (by decide +kernel)⟩, Nat.le_of_ble_eq_true rfl, fun h => absurd h (by decide), fun _ => ⟨rx_in (i := 256) (by decide +kernel) (by decide +kernel), rx_in (i := 257) (by decide +kernel) (by decide +kernel)⟩, fun h => absurd h (by decide)⟩
set_option maxRecDepth 100000 in
theorem tk_X6_clash : (t_X6_clash.all (rx_eok "SetHouse" prog_1_method_6_code 1 false false) && rx_adj t_X6_clash) = true := by decide +kernel
theorem s_X6_clash_0 {F : Nat × Nat} {l : Launch} {G : rx_G} {D : Nat} {hf : rx_H} {z : (Int32 × Option rx_H)} (hC : rx_CC l G D (C_X6_clash F) z) (x0 : Nat) (u : Option rx_H) (h : f_X6_clash_0 F x0 u = some z) : rx_S l G ("SetHouse", prog_1_method_6_code, 1, false, false, D) hf (z.2.getD hf) rx_hI z 0 [some (.ref x0)] [] u := by
  rw [g_X6_clash_0] at h
  refine rx_S_node (md := ("SetHouse", prog_1_method_6_code, 1, false, false, D)) tk_X6_clash hC rx_m_hI (fun t ls st u h => ?_) h
  unfold kk_X6_clash_0 at h
  cases h
theorem cc_X6_clash (F : Nat × Nat) (l : Launch) (G : rx_G) {α : Type} (z : α) : rx_CC l G (0 + 0 * F.2) (C_X6_clash F) z := by
  intro j as u κ h
  unfold C_X6_clash at h
  cases h
theorem m_X6_clash (F : Nat × Nat) (l : Launch) (G : rx_G) (hf : rx_H) (x0 : Nat) (u : Option rx_H) {z : (Int32 × Option rx_H)} (h : f_X6_clash F x0 u = some z) : rx_Ok l G (1 + 0 * F.2) (rx_ny 80) (.code (rx_ny 80) prog_1_method_6_code 1 (some .int)) [.ref x0] (u.getD hf) (some (.int z.1)) (z.2.getD hf) := by
  have h := h
  unfold f_X6_clash at h
  exact (rx_met (l := l) (G := G) (hf := hf) (as := [.ref x0]) (r := (some (.int z.1))) (ls0 := [some (.ref x0)]) (y := rx_ny 80) (D := (0 + 0 * F.2)) (ini := false) (bo := false) (u := u) (u' := z.2) (by decide +kernel) (fun h => by cases h) (Nat.le_of_ble_eq_true rfl) (Or.inl ⟨rfl, rfl, _, rfl⟩) (fun Z hZ hB => rx_RT_hI hZ hB) (by exact ⟨Or.inr rfl, trivial⟩) (s_X6_clash_0 (cc_X6_clash F l G z) x0 u h)).deep (by omega)
theorem w_X6_clash (F : Nat × Nat) (l : Launch) (G : rx_G) {α : Type} {z : α} {as : List Value} {u : Option rx_H} {κ : rx_K α} (h : c_X6_clash F as u κ = some z) : rx_Cw l G (1 + 0 * F.2) 80 as u κ z := by
  unfold c_X6_clash at h
  split at h
  · obtain ⟨r, hr, h⟩ := Option.bind_eq_some_iff.mp h
    exact ⟨_, _, _, _, h, k_X6_clash, fun h => absurd h (by decide), fun _ => ⟨_, _, rfl, rfl⟩, fun hf => m_X6_clash F l G hf _ _ hr⟩
  · cases h
set_option maxRecDepth 100000 in
theorem k_X6_empty : rx_Cal (rx_ny 89) (.code (rx_ny 89) prog_1_method_7_code 3 (some .int)) (rx_kd 89) 1 := ⟨prog_1_method_7_code, 3, (some .int), Or.inl rfl, rx_in (i := 262) (by rfl) (by rfl), rx_in (i := 41) (by decide +kernel) (by decide +kernel), ⟨(by decide +kernel), (by decide +kernel), (by decide +kernel)⟩, Nat.le_of_ble_eq_true rfl, fun h => absurd h (by decide), fun _ => ⟨rx_in (i := 260) (by decide +kernel) (by decide +kernel), rx_in (i := 261) (by decide +kernel) (by decide +kernel)⟩, fun h => absurd h (by decide)⟩
set_option maxRecDepth 100000 in
theorem tk_X6_empty : (t_X6_empty.all (rx_eok "SetHouse" prog_1_method_7_code 3 false false) && rx_adj t_X6_empty) = true := by decide +kernel
theorem s_X6_empty_29 {F : Nat × Nat} {l : Launch} {G : rx_G} {D : Nat} {hf : rx_H} {z : (Int32 × Option rx_H)} (hC : rx_CC l G D (C_X6_empty F) z) (x0 : Nat) (x1 : Int32) (s0 : Int32) (u : Option rx_H) (h : f_X6_empty_29 F x0 x1 s0 u = some z) : rx_S l G ("SetHouse", prog_1_method_7_code, 3, false, false, D) hf (z.2.getD hf) rx_hI z 29 [some (.ref x0), some (.int x1), none] [.int s0] u := by
  rw [g_X6_empty_29] at h
  refine rx_S_node (md := ("SetHouse", prog_1_method_7_code, 3, false, false, D)) tk_X6_empty hC rx_m_hI (fun t ls st u h => ?_) h
  unfold kk_X6_empty_29 at h
  cases h
theorem s_X6_empty_0 {F : Nat × Nat} {l : Launch} {G : rx_G} {D : Nat} {hf : rx_H} {z : (Int32 × Option rx_H)} (hC : rx_CC l G D (C_X6_empty F) z) (x0 : Nat) (x1 : Int32) (u : Option rx_H) (h : f_X6_empty_0 F x0 x1 u = some z) : rx_S l G ("SetHouse", prog_1_method_7_code, 3, false, false, D) hf (z.2.getD hf) rx_hI z 0 [some (.ref x0), some (.int x1), none] [] u := by
  rw [g_X6_empty_0] at h
  refine rx_S_node (md := ("SetHouse", prog_1_method_7_code, 3, false, false, D)) tk_X6_empty hC rx_m_hI (fun t ls st u h => ?_) h
  unfold kk_X6_empty_0 at h
  rcases rx_rec_eq h with ⟨hb, h⟩ | ⟨hb, h⟩
  · have ht := Nat.eq_of_beq_eq_true hb
    subst ht
    unfold n_X6_empty_29 at h
    split at h
    · exact (s_X6_empty_29 hC _ _ _ _ h).le ⟨Or.inr rfl, Or.inr rfl, Or.inl rfl, trivial⟩
    · cases h
  cases h
theorem cc_X6_empty (F : Nat × Nat) (l : Launch) (G : rx_G) {α : Type} (z : α) : rx_CC l G (1 + 0 * F.2) (C_X6_empty F) z := by
  intro j as u κ h
  unfold C_X6_empty at h
  rcases rx_rec_eq h with ⟨hb, h⟩ | ⟨hb, h⟩
  · have ht := Nat.eq_of_beq_eq_true hb
    subst ht
    exact (w_X4_becomeNothing F l G h).deep (by omega)
  rcases rx_rec_eq h with ⟨hb, h⟩ | ⟨hb, h⟩
  · have ht := Nat.eq_of_beq_eq_true hb
    subst ht
    exact (w_X6_isPlace F l G h).deep (by omega)
  cases h
theorem m_X6_empty (F : Nat × Nat) (l : Launch) (G : rx_G) (hf : rx_H) (x0 : Nat) (x1 : Int32) (u : Option rx_H) {z : (Int32 × Option rx_H)} (h : f_X6_empty F x0 x1 u = some z) : rx_Ok l G (2 + 0 * F.2) (rx_ny 89) (.code (rx_ny 89) prog_1_method_7_code 3 (some .int)) [.ref x0, .int x1] (u.getD hf) (some (.int z.1)) (z.2.getD hf) := by
  have h := h
  unfold f_X6_empty at h
  exact (rx_met (l := l) (G := G) (hf := hf) (as := [.ref x0, .int x1]) (r := (some (.int z.1))) (ls0 := [some (.ref x0), some (.int x1), none]) (y := rx_ny 89) (D := (1 + 0 * F.2)) (ini := false) (bo := false) (u := u) (u' := z.2) (by decide +kernel) (fun h => by cases h) (Nat.le_of_ble_eq_true rfl) (Or.inl ⟨rfl, rfl, _, rfl⟩) (fun Z hZ hB => rx_RT_hI hZ hB) (by exact ⟨Or.inr rfl, Or.inr rfl, Or.inl rfl, trivial⟩) (s_X6_empty_0 (cc_X6_empty F l G z) x0 x1 u h)).deep (by omega)
theorem w_X6_empty (F : Nat × Nat) (l : Launch) (G : rx_G) {α : Type} {z : α} {as : List Value} {u : Option rx_H} {κ : rx_K α} (h : c_X6_empty F as u κ = some z) : rx_Cw l G (2 + 0 * F.2) 89 as u κ z := by
  unfold c_X6_empty at h
  split at h
  · obtain ⟨r, hr, h⟩ := Option.bind_eq_some_iff.mp h
    exact ⟨_, _, _, _, h, k_X6_empty, fun h => absurd h (by decide), fun _ => ⟨_, _, rfl, rfl⟩, fun hf => m_X6_empty F l G hf _ _ _ hr⟩
  · cases h
set_option maxRecDepth 100000 in
theorem k_X6_holds : rx_Cal (rx_ny 98) (.code (rx_ny 98) prog_1_method_8_code 2 (some .int)) (rx_kd 98) 1 := ⟨prog_1_method_8_code, 2, (some .int), Or.inl rfl, rx_in (i := 270) (by rfl) (by rfl), rx_in (i := 41) (by decide +kernel) (by decide +kernel), ⟨(by decide +kernel), (by decide +kernel), (by decide +kernel)⟩, Nat.le_of_ble_eq_true rfl, fun h => absurd h (by decide), fun _ => ⟨rx_in (i := 268) (by decide +kernel) (by decide +kernel), rx_in (i := 269) (by decide +kernel) (by decide +kernel)⟩, fun h => absurd h (by decide)⟩
set_option maxRecDepth 100000 in
theorem tk_X6_holds : (t_X6_holds.all (rx_eok "SetHouse" prog_1_method_8_code 2 false false) && rx_adj t_X6_holds) = true := by decide +kernel
theorem s_X6_holds_0 {F : Nat × Nat} {l : Launch} {G : rx_G} {D : Nat} {hf : rx_H} {z : (Int32 × Option rx_H)} (hC : rx_CC l G D (C_X6_holds F) z) (x0 : Nat) (x1 : Int32) (u : Option rx_H) (h : f_X6_holds_0 F x0 x1 u = some z) : rx_S l G ("SetHouse", prog_1_method_8_code, 2, false, false, D) hf (z.2.getD hf) rx_hI z 0 [some (.ref x0), some (.int x1)] [] u := by
  rw [g_X6_holds_0] at h
  refine rx_S_node (md := ("SetHouse", prog_1_method_8_code, 2, false, false, D)) tk_X6_holds hC rx_m_hI (fun t ls st u h => ?_) h
  unfold kk_X6_holds_0 at h
  cases h
theorem cc_X6_holds (F : Nat × Nat) (l : Launch) (G : rx_G) {α : Type} (z : α) : rx_CC l G (1 + 0 * F.2) (C_X6_holds F) z := by
  intro j as u κ h
  unfold C_X6_holds at h
  rcases rx_rec_eq h with ⟨hb, h⟩ | ⟨hb, h⟩
  · have ht := Nat.eq_of_beq_eq_true hb
    subst ht
    exact (w_X6_isPlace F l G h).deep (by omega)
  cases h
theorem m_X6_holds (F : Nat × Nat) (l : Launch) (G : rx_G) (hf : rx_H) (x0 : Nat) (x1 : Int32) (u : Option rx_H) {z : (Int32 × Option rx_H)} (h : f_X6_holds F x0 x1 u = some z) : rx_Ok l G (2 + 0 * F.2) (rx_ny 98) (.code (rx_ny 98) prog_1_method_8_code 2 (some .int)) [.ref x0, .int x1] (u.getD hf) (some (.int z.1)) (z.2.getD hf) := by
  have h := h
  unfold f_X6_holds at h
  exact (rx_met (l := l) (G := G) (hf := hf) (as := [.ref x0, .int x1]) (r := (some (.int z.1))) (ls0 := [some (.ref x0), some (.int x1)]) (y := rx_ny 98) (D := (1 + 0 * F.2)) (ini := false) (bo := false) (u := u) (u' := z.2) (by decide +kernel) (fun h => by cases h) (Nat.le_of_ble_eq_true rfl) (Or.inl ⟨rfl, rfl, _, rfl⟩) (fun Z hZ hB => rx_RT_hI hZ hB) (by exact ⟨Or.inr rfl, Or.inr rfl, trivial⟩) (s_X6_holds_0 (cc_X6_holds F l G z) x0 x1 u h)).deep (by omega)
theorem w_X6_holds (F : Nat × Nat) (l : Launch) (G : rx_G) {α : Type} {z : α} {as : List Value} {u : Option rx_H} {κ : rx_K α} (h : c_X6_holds F as u κ = some z) : rx_Cw l G (2 + 0 * F.2) 98 as u κ z := by
  unfold c_X6_holds at h
  split at h
  · obtain ⟨r, hr, h⟩ := Option.bind_eq_some_iff.mp h
    exact ⟨_, _, _, _, h, k_X6_holds, fun h => absurd h (by decide), fun _ => ⟨_, _, rfl, rfl⟩, fun hf => m_X6_holds F l G hf _ _ _ hr⟩
  · cases h
set_option maxRecDepth 100000 in
theorem k_X6_count : rx_Cal (rx_ny 84) (.code (rx_ny 84) prog_1_method_9_code 5 (some .int)) (rx_kd 84) 2 := ⟨prog_1_method_9_code, 5, (some .int), Or.inl rfl, rx_in (i := 274) (by rfl) (by rfl), rx_in (i := 41) (by decide +kernel) (by decide +kernel), ⟨(by decide +kernel), (by decide +kernel), (by decide +kernel)⟩, Nat.le_of_ble_eq_true rfl, fun h => absurd h (by decide), fun _ => ⟨rx_in (i := 272) (by decide +kernel) (by decide +kernel), rx_in (i := 273) (by decide +kernel) (by decide +kernel)⟩, fun h => absurd h (by decide)⟩
set_option maxRecDepth 100000 in
theorem tk_X6_count : (t_X6_count.all (rx_eok "SetHouse" prog_1_method_9_code 5 false false) && rx_adj t_X6_count) = true := by decide +kernel
theorem s_X6_count_17 {F : Nat × Nat} {l : Launch} {G : rx_G} {D : Nat} {hf : rx_H} {z : (Int32 × Option rx_H)} (hC : rx_CC l G D (C_X6_count F) z) (x0 : Nat) (x1 : Int32) (x2 : Int32) (s0 : Nat) (s1 : Int32) (s2 : Int32) (u : Option rx_H) (h : f_X6_count_17 F x0 x1 x2 s0 s1 s2 u = some z) : rx_S l G ("SetHouse", prog_1_method_9_code, 5, false, false, D) hf (z.2.getD hf) rx_hI z 17 [some (.ref x0), some (.int x1), some (.int x2), none, none] [.int s2, .int s1, .ref s0] u := by
  rw [g_X6_count_17] at h
  refine rx_S_node (md := ("SetHouse", prog_1_method_9_code, 5, false, false, D)) tk_X6_count hC rx_m_hI (fun t ls st u h => ?_) h
  unfold kk_X6_count_17 at h
  cases h
theorem s_X6_count_0 {F : Nat × Nat} {l : Launch} {G : rx_G} {D : Nat} {hf : rx_H} {z : (Int32 × Option rx_H)} (hC : rx_CC l G D (C_X6_count F) z) (x0 : Nat) (x1 : Int32) (x2 : Int32) (u : Option rx_H) (h : f_X6_count_0 F x0 x1 x2 u = some z) : rx_S l G ("SetHouse", prog_1_method_9_code, 5, false, false, D) hf (z.2.getD hf) rx_hI z 0 [some (.ref x0), some (.int x1), some (.int x2), none, none] [] u := by
  rw [g_X6_count_0] at h
  refine rx_S_node (md := ("SetHouse", prog_1_method_9_code, 5, false, false, D)) tk_X6_count hC rx_m_hI (fun t ls st u h => ?_) h
  unfold kk_X6_count_0 at h
  rcases rx_rec_eq h with ⟨hb, h⟩ | ⟨hb, h⟩
  · have ht := Nat.eq_of_beq_eq_true hb
    subst ht
    unfold n_X6_count_17 at h
    split at h
    · exact (s_X6_count_17 hC _ _ _ _ _ _ _ h).le ⟨Or.inr rfl, Or.inr rfl, Or.inr rfl, Or.inl rfl, Or.inl rfl, trivial⟩
    · cases h
  cases h
theorem cc_X6_count (F : Nat × Nat) (l : Launch) (G : rx_G) {α : Type} (z : α) : rx_CC l G (2 + 0 * F.2) (C_X6_count F) z := by
  intro j as u κ h
  unfold C_X6_count at h
  rcases rx_rec_eq h with ⟨hb, h⟩ | ⟨hb, h⟩
  · have ht := Nat.eq_of_beq_eq_true hb
    subst ht
    exact (w_X0_size F l G h).deep (by omega)
  rcases rx_rec_eq h with ⟨hb, h⟩ | ⟨hb, h⟩
  · have ht := Nat.eq_of_beq_eq_true hb
    subst ht
    exact (w_X1_hasNumber F l G h).deep (by omega)
  rcases rx_rec_eq h with ⟨hb, h⟩ | ⟨hb, h⟩
  · have ht := Nat.eq_of_beq_eq_true hb
    subst ht
    exact (w_X6_familyRefusal F l G h).deep (by omega)
  cases h
theorem m_X6_count (F : Nat × Nat) (l : Launch) (G : rx_G) (hf : rx_H) (x0 : Nat) (x1 : Int32) (x2 : Int32) (u : Option rx_H) {z : (Int32 × Option rx_H)} (h : f_X6_count F x0 x1 x2 u = some z) : rx_Ok l G (3 + 0 * F.2) (rx_ny 84) (.code (rx_ny 84) prog_1_method_9_code 5 (some .int)) [.ref x0, .int x1, .int x2] (u.getD hf) (some (.int z.1)) (z.2.getD hf) := by
  have h := h
  unfold f_X6_count at h
  exact (rx_met (l := l) (G := G) (hf := hf) (as := [.ref x0, .int x1, .int x2]) (r := (some (.int z.1))) (ls0 := [some (.ref x0), some (.int x1), some (.int x2), none, none]) (y := rx_ny 84) (D := (2 + 0 * F.2)) (ini := false) (bo := false) (u := u) (u' := z.2) (by decide +kernel) (fun h => by cases h) (Nat.le_of_ble_eq_true rfl) (Or.inl ⟨rfl, rfl, _, rfl⟩) (fun Z hZ hB => rx_RT_hI hZ hB) (by exact ⟨Or.inr rfl, Or.inr rfl, Or.inr rfl, Or.inl rfl, Or.inl rfl, trivial⟩) (s_X6_count_0 (cc_X6_count F l G z) x0 x1 x2 u h)).deep (by omega)
theorem w_X6_count (F : Nat × Nat) (l : Launch) (G : rx_G) {α : Type} {z : α} {as : List Value} {u : Option rx_H} {κ : rx_K α} (h : c_X6_count F as u κ = some z) : rx_Cw l G (3 + 0 * F.2) 84 as u κ z := by
  unfold c_X6_count at h
  split at h
  · obtain ⟨r, hr, h⟩ := Option.bind_eq_some_iff.mp h
    exact ⟨_, _, _, _, h, k_X6_count, fun h => absurd h (by decide), fun _ => ⟨_, _, rfl, rfl⟩, fun hf => m_X6_count F l G hf _ _ _ _ hr⟩
  · cases h
set_option maxRecDepth 100000 in
theorem k_X6_has : rx_Cal (rx_ny 96) (.code (rx_ny 96) prog_1_method_10_code 4 (some .int)) (rx_kd 96) 2 := ⟨prog_1_method_10_code, 4, (some .int), Or.inl rfl, rx_in (i := 278) (by rfl) (by rfl), rx_in (i := 41) (by decide +kernel) (by decide +kernel), ⟨(by decide +kernel), (by decide +kernel), (by decide +kernel)⟩, Nat.le_of_ble_eq_true rfl, fun h => absurd h (by decide), fun _ => ⟨rx_in (i := 276) (by decide +kernel) (by decide +kernel), rx_in (i := 277) (by decide +kernel) (by decide +kernel)⟩, fun h => absurd h (by decide)⟩
set_option maxRecDepth 100000 in
theorem tk_X6_has : (t_X6_has.all (rx_eok "SetHouse" prog_1_method_10_code 4 false false) && rx_adj t_X6_has) = true := by decide +kernel
theorem s_X6_has_0 {F : Nat × Nat} {l : Launch} {G : rx_G} {D : Nat} {hf : rx_H} {z : (Int32 × Option rx_H)} (hC : rx_CC l G D (C_X6_has F) z) (x0 : Nat) (x1 : Int32) (x2 : Int32) (u : Option rx_H) (h : f_X6_has_0 F x0 x1 x2 u = some z) : rx_S l G ("SetHouse", prog_1_method_10_code, 4, false, false, D) hf (z.2.getD hf) rx_hI z 0 [some (.ref x0), some (.int x1), some (.int x2), none] [] u := by
  rw [g_X6_has_0] at h
  refine rx_S_node (md := ("SetHouse", prog_1_method_10_code, 4, false, false, D)) tk_X6_has hC rx_m_hI (fun t ls st u h => ?_) h
  unfold kk_X6_has_0 at h
  cases h
theorem cc_X6_has (F : Nat × Nat) (l : Launch) (G : rx_G) {α : Type} (z : α) : rx_CC l G (2 + 0 * F.2) (C_X6_has F) z := by
  intro j as u κ h
  unfold C_X6_has at h
  rcases rx_rec_eq h with ⟨hb, h⟩ | ⟨hb, h⟩
  · have ht := Nat.eq_of_beq_eq_true hb
    subst ht
    exact (w_X0_holdsSet F l G h).deep (by omega)
  rcases rx_rec_eq h with ⟨hb, h⟩ | ⟨hb, h⟩
  · have ht := Nat.eq_of_beq_eq_true hb
    subst ht
    exact (w_X6_familyRefusal F l G h).deep (by omega)
  rcases rx_rec_eq h with ⟨hb, h⟩ | ⟨hb, h⟩
  · have ht := Nat.eq_of_beq_eq_true hb
    subst ht
    exact (w_X6_isSet F l G h).deep (by omega)
  cases h
theorem m_X6_has (F : Nat × Nat) (l : Launch) (G : rx_G) (hf : rx_H) (x0 : Nat) (x1 : Int32) (x2 : Int32) (u : Option rx_H) {z : (Int32 × Option rx_H)} (h : f_X6_has F x0 x1 x2 u = some z) : rx_Ok l G (3 + 0 * F.2) (rx_ny 96) (.code (rx_ny 96) prog_1_method_10_code 4 (some .int)) [.ref x0, .int x1, .int x2] (u.getD hf) (some (.int z.1)) (z.2.getD hf) := by
  have h := h
  unfold f_X6_has at h
  exact (rx_met (l := l) (G := G) (hf := hf) (as := [.ref x0, .int x1, .int x2]) (r := (some (.int z.1))) (ls0 := [some (.ref x0), some (.int x1), some (.int x2), none]) (y := rx_ny 96) (D := (2 + 0 * F.2)) (ini := false) (bo := false) (u := u) (u' := z.2) (by decide +kernel) (fun h => by cases h) (Nat.le_of_ble_eq_true rfl) (Or.inl ⟨rfl, rfl, _, rfl⟩) (fun Z hZ hB => rx_RT_hI hZ hB) (by exact ⟨Or.inr rfl, Or.inr rfl, Or.inr rfl, Or.inl rfl, trivial⟩) (s_X6_has_0 (cc_X6_has F l G z) x0 x1 x2 u h)).deep (by omega)
theorem w_X6_has (F : Nat × Nat) (l : Launch) (G : rx_G) {α : Type} {z : α} {as : List Value} {u : Option rx_H} {κ : rx_K α} (h : c_X6_has F as u κ = some z) : rx_Cw l G (3 + 0 * F.2) 96 as u κ z := by
  unfold c_X6_has at h
  split at h
  · obtain ⟨r, hr, h⟩ := Option.bind_eq_some_iff.mp h
    exact ⟨_, _, _, _, h, k_X6_has, fun h => absurd h (by decide), fun _ => ⟨_, _, rfl, rfl⟩, fun hf => m_X6_has F l G hf _ _ _ _ hr⟩
  · cases h
set_option maxRecDepth 100000 in
theorem k_X6_set : rx_Cal (rx_ny 125) (.code (rx_ny 125) prog_1_method_11_code 4 (some .int)) (rx_kd 125) 2 := ⟨prog_1_method_11_code, 4, (some .int), Or.inl rfl, rx_in (i := 282) (by rfl) (by rfl), rx_in (i := 41) (by decide +kernel) (by decide +kernel), ⟨(by decide +kernel), (by decide +kernel), (by decide +kernel)⟩, Nat.le_of_ble_eq_true rfl, fun h => absurd h (by decide), fun _ => ⟨rx_in (i := 280) (by decide +kernel) (by decide +kernel), rx_in (i := 281) (by decide +kernel) (by decide +kernel)⟩, fun h => absurd h (by decide)⟩
set_option maxRecDepth 100000 in
theorem tk_X6_set : (t_X6_set.all (rx_eok "SetHouse" prog_1_method_11_code 4 false false) && rx_adj t_X6_set) = true := by decide +kernel
theorem s_X6_set_11 {F : Nat × Nat} {l : Launch} {G : rx_G} {D : Nat} {hf : rx_H} {z : (Int32 × Option rx_H)} (hC : rx_CC l G D (C_X6_set F) z) (x0 : Nat) (x1 : Int32) (x2 : Int32) (s0 : Nat) (s1 : Int32) (s2 : Int32) (u : Option rx_H) (h : f_X6_set_11 F x0 x1 x2 s0 s1 s2 u = some z) : rx_S l G ("SetHouse", prog_1_method_11_code, 4, false, false, D) hf (z.2.getD hf) rx_hI z 11 [some (.ref x0), some (.int x1), some (.int x2), none] [.int s2, .int s1, .ref s0] u := by
  rw [g_X6_set_11] at h
  refine rx_S_node (md := ("SetHouse", prog_1_method_11_code, 4, false, false, D)) tk_X6_set hC rx_m_hI (fun t ls st u h => ?_) h
  unfold kk_X6_set_11 at h
  cases h
theorem s_X6_set_0 {F : Nat × Nat} {l : Launch} {G : rx_G} {D : Nat} {hf : rx_H} {z : (Int32 × Option rx_H)} (hC : rx_CC l G D (C_X6_set F) z) (x0 : Nat) (x1 : Int32) (x2 : Int32) (u : Option rx_H) (h : f_X6_set_0 F x0 x1 x2 u = some z) : rx_S l G ("SetHouse", prog_1_method_11_code, 4, false, false, D) hf (z.2.getD hf) rx_hI z 0 [some (.ref x0), some (.int x1), some (.int x2), none] [] u := by
  rw [g_X6_set_0] at h
  refine rx_S_node (md := ("SetHouse", prog_1_method_11_code, 4, false, false, D)) tk_X6_set hC rx_m_hI (fun t ls st u h => ?_) h
  unfold kk_X6_set_0 at h
  rcases rx_rec_eq h with ⟨hb, h⟩ | ⟨hb, h⟩
  · have ht := Nat.eq_of_beq_eq_true hb
    subst ht
    unfold n_X6_set_11 at h
    split at h
    · exact (s_X6_set_11 hC _ _ _ _ _ _ _ h).le ⟨Or.inr rfl, Or.inr rfl, Or.inr rfl, Or.inl rfl, trivial⟩
    · cases h
  cases h
theorem cc_X6_set (F : Nat × Nat) (l : Launch) (G : rx_G) {α : Type} (z : α) : rx_CC l G (3 + 0 * F.2) (C_X6_set F) z := by
  intro j as u κ h
  unfold C_X6_set at h
  rcases rx_rec_eq h with ⟨hb, h⟩ | ⟨hb, h⟩
  · have ht := Nat.eq_of_beq_eq_true hb
    subst ht
    exact (w_X0_setAt F l G h).deep (by omega)
  rcases rx_rec_eq h with ⟨hb, h⟩ | ⟨hb, h⟩
  · have ht := Nat.eq_of_beq_eq_true hb
    subst ht
    exact (w_X6_familyRefusal F l G h).deep (by omega)
  cases h
theorem m_X6_set (F : Nat × Nat) (l : Launch) (G : rx_G) (hf : rx_H) (x0 : Nat) (x1 : Int32) (x2 : Int32) (u : Option rx_H) {z : (Int32 × Option rx_H)} (h : f_X6_set F x0 x1 x2 u = some z) : rx_Ok l G (4 + 0 * F.2) (rx_ny 125) (.code (rx_ny 125) prog_1_method_11_code 4 (some .int)) [.ref x0, .int x1, .int x2] (u.getD hf) (some (.int z.1)) (z.2.getD hf) := by
  have h := h
  unfold f_X6_set at h
  exact (rx_met (l := l) (G := G) (hf := hf) (as := [.ref x0, .int x1, .int x2]) (r := (some (.int z.1))) (ls0 := [some (.ref x0), some (.int x1), some (.int x2), none]) (y := rx_ny 125) (D := (3 + 0 * F.2)) (ini := false) (bo := false) (u := u) (u' := z.2) (by decide +kernel) (fun h => by cases h) (Nat.le_of_ble_eq_true rfl) (Or.inl ⟨rfl, rfl, _, rfl⟩) (fun Z hZ hB => rx_RT_hI hZ hB) (by exact ⟨Or.inr rfl, Or.inr rfl, Or.inr rfl, Or.inl rfl, trivial⟩) (s_X6_set_0 (cc_X6_set F l G z) x0 x1 x2 u h)).deep (by omega)
theorem w_X6_set (F : Nat × Nat) (l : Launch) (G : rx_G) {α : Type} {z : α} {as : List Value} {u : Option rx_H} {κ : rx_K α} (h : c_X6_set F as u κ = some z) : rx_Cw l G (4 + 0 * F.2) 125 as u κ z := by
  unfold c_X6_set at h
  split at h
  · obtain ⟨r, hr, h⟩ := Option.bind_eq_some_iff.mp h
    exact ⟨_, _, _, _, h, k_X6_set, fun h => absurd h (by decide), fun _ => ⟨_, _, rfl, rfl⟩, fun hf => m_X6_set F l G hf _ _ _ _ hr⟩
  · cases h
set_option maxRecDepth 100000 in
theorem k_X6_is : rx_Cal (rx_ny 100) (.code (rx_ny 100) prog_1_method_12_code 6 (some .int)) (rx_kd 100) 3 := ⟨prog_1_method_12_code, 6, (some .int), Or.inl rfl, rx_in (i := 289) (by rfl) (by rfl), rx_in (i := 41) (by decide +kernel) (by decide +kernel), ⟨(by decide +kernel), (by decide +kernel), (by decide +kernel)⟩, Nat.le_of_ble_eq_true rfl, fun h => absurd h (by decide), fun _ => ⟨rx_in (i := 287) (by decide +kernel) (by decide +kernel), rx_in (i := 288) (by decide +kernel) (by decide +kernel)⟩, fun h => absurd h (by decide)⟩
set_option maxRecDepth 100000 in
theorem tk_X6_is : (t_X6_is.all (rx_eok "SetHouse" prog_1_method_12_code 6 false false) && rx_adj t_X6_is) = true := by decide +kernel
theorem s_X6_is_0 {F : Nat × Nat} {l : Launch} {G : rx_G} {D : Nat} {hf : rx_H} {z : (Int32 × Option rx_H)} (hC : rx_CC l G D (C_X6_is F) z) (x0 : Nat) (x1 : Int32) (x2 : Int32) (x3 : Int32) (u : Option rx_H) (h : f_X6_is_0 F x0 x1 x2 x3 u = some z) : rx_S l G ("SetHouse", prog_1_method_12_code, 6, false, false, D) hf (z.2.getD hf) rx_hI z 0 [some (.ref x0), some (.int x1), some (.int x2), some (.int x3), none, none] [] u := by
  rw [g_X6_is_0] at h
  refine rx_S_node (md := ("SetHouse", prog_1_method_12_code, 6, false, false, D)) tk_X6_is hC rx_m_hI (fun t ls st u h => ?_) h
  unfold kk_X6_is_0 at h
  cases h
theorem cc_X6_is (F : Nat × Nat) (l : Launch) (G : rx_G) {α : Type} (z : α) : rx_CC l G (6 + 0 * F.2) (C_X6_is F) z := by
  intro j as u κ h
  unfold C_X6_is at h
  rcases rx_rec_eq h with ⟨hb, h⟩ | ⟨hb, h⟩
  · have ht := Nat.eq_of_beq_eq_true hb
    subst ht
    exact (w_X1_familyClash F l G h).deep (by omega)
  rcases rx_rec_eq h with ⟨hb, h⟩ | ⟨hb, h⟩
  · have ht := Nat.eq_of_beq_eq_true hb
    subst ht
    exact (w_X6_familyRefusal F l G h).deep (by omega)
  rcases rx_rec_eq h with ⟨hb, h⟩ | ⟨hb, h⟩
  · have ht := Nat.eq_of_beq_eq_true hb
    subst ht
    exact (w_X6_isKind F l G h).deep (by omega)
  cases h
theorem m_X6_is (F : Nat × Nat) (l : Launch) (G : rx_G) (hf : rx_H) (x0 : Nat) (x1 : Int32) (x2 : Int32) (x3 : Int32) (u : Option rx_H) {z : (Int32 × Option rx_H)} (h : f_X6_is F x0 x1 x2 x3 u = some z) : rx_Ok l G (7 + 0 * F.2) (rx_ny 100) (.code (rx_ny 100) prog_1_method_12_code 6 (some .int)) [.ref x0, .int x1, .int x2, .int x3] (u.getD hf) (some (.int z.1)) (z.2.getD hf) := by
  have h := h
  unfold f_X6_is at h
  exact (rx_met (l := l) (G := G) (hf := hf) (as := [.ref x0, .int x1, .int x2, .int x3]) (r := (some (.int z.1))) (ls0 := [some (.ref x0), some (.int x1), some (.int x2), some (.int x3), none, none]) (y := rx_ny 100) (D := (6 + 0 * F.2)) (ini := false) (bo := false) (u := u) (u' := z.2) (by decide +kernel) (fun h => by cases h) (Nat.le_of_ble_eq_true rfl) (Or.inl ⟨rfl, rfl, _, rfl⟩) (fun Z hZ hB => rx_RT_hI hZ hB) (by exact ⟨Or.inr rfl, Or.inr rfl, Or.inr rfl, Or.inr rfl, Or.inl rfl, Or.inl rfl, trivial⟩) (s_X6_is_0 (cc_X6_is F l G z) x0 x1 x2 x3 u h)).deep (by omega)
theorem w_X6_is (F : Nat × Nat) (l : Launch) (G : rx_G) {α : Type} {z : α} {as : List Value} {u : Option rx_H} {κ : rx_K α} (h : c_X6_is F as u κ = some z) : rx_Cw l G (7 + 0 * F.2) 100 as u κ z := by
  unfold c_X6_is at h
  split at h
  · obtain ⟨r, hr, h⟩ := Option.bind_eq_some_iff.mp h
    exact ⟨_, _, _, _, h, k_X6_is, fun h => absurd h (by decide), fun _ => ⟨_, _, rfl, rfl⟩, fun hf => m_X6_is F l G hf _ _ _ _ _ hr⟩
  · cases h
set_option maxRecDepth 100000 in
theorem k_X6_keepBeside : rx_Cal (rx_ny 107) (.code (rx_ny 107) prog_1_method_59_code 8 (some .int)) (rx_kd 107) 4 := ⟨prog_1_method_59_code, 8, (some .int), Or.inl rfl, rx_in (i := 324) (by rfl) (by rfl), rx_in (i := 41) (by decide +kernel) (by decide +kernel), ⟨(by decide +kernel), (by decide +kernel), (by decide +kernel)⟩, Nat.le_of_ble_eq_true rfl, fun h => absurd h (by decide), fun _ => ⟨rx_in (i := 323) (by decide +kernel) (by decide +kernel), rx_in (i := 7) (by decide +kernel) (by decide +kernel)⟩, fun h => absurd h (by decide)⟩
set_option maxRecDepth 100000 in
theorem tk_X6_keepBeside : (t_X6_keepBeside.all (rx_eok "SetHouse" prog_1_method_59_code 8 false false) && rx_adj t_X6_keepBeside) = true := by decide +kernel
theorem s_X6_keepBeside_66 {F : Nat × Nat} {l : Launch} {G : rx_G} {D : Nat} {hf : rx_H} {z : (Int32 × Option rx_H)} (hC : rx_CC l G D (C_X6_keepBeside F) z) (x3 : Int64) (s0 : Nat) (s1 : Int32) (s2 : Int32) (s3 : Int32) (u : Option rx_H) (h : f_X6_keepBeside_66 F x3 s0 s1 s2 s3 u = some z) : rx_S l G ("SetHouse", prog_1_method_59_code, 8, false, false, D) hf (z.2.getD hf) rx_hI z 66 [none, none, none, some (.long x3), none, none, none, none] [.int s3, .int s2, .int s1, .ref s0] u := by
  rw [g_X6_keepBeside_66] at h
  refine rx_S_node (md := ("SetHouse", prog_1_method_59_code, 8, false, false, D)) tk_X6_keepBeside hC rx_m_hI (fun t ls st u h => ?_) h
  unfold kk_X6_keepBeside_66 at h
  cases h
theorem s_X6_keepBeside_55 {F : Nat × Nat} {l : Launch} {G : rx_G} {D : Nat} {hf : rx_H} {z : (Int32 × Option rx_H)} (hC : rx_CC l G D (C_X6_keepBeside F) z) (x3 : Int64) (x6 : Int32) (x7 : Int32) (s0 : Nat) (s1 : Int32) (s2 : Int32) (u : Option rx_H) (h : f_X6_keepBeside_55 F x3 x6 x7 s0 s1 s2 u = some z) : rx_S l G ("SetHouse", prog_1_method_59_code, 8, false, false, D) hf (z.2.getD hf) rx_hI z 55 [none, none, none, some (.long x3), none, none, some (.int x6), some (.int x7)] [.int s2, .int s1, .ref s0] u := by
  rw [g_X6_keepBeside_55] at h
  refine rx_S_node (md := ("SetHouse", prog_1_method_59_code, 8, false, false, D)) tk_X6_keepBeside hC rx_m_hI (fun t ls st u h => ?_) h
  unfold kk_X6_keepBeside_55 at h
  rcases rx_rec_eq h with ⟨hb, h⟩ | ⟨hb, h⟩
  · have ht := Nat.eq_of_beq_eq_true hb
    subst ht
    unfold n_X6_keepBeside_66 at h
    split at h
    · exact (s_X6_keepBeside_66 hC _ _ _ _ _ _ h).le ⟨Or.inl rfl, Or.inl rfl, Or.inl rfl, Or.inr rfl, Or.inl rfl, Or.inl rfl, Or.inl rfl, Or.inl rfl, trivial⟩
    · cases h
  cases h
theorem s_X6_keepBeside_40 {F : Nat × Nat} {l : Launch} {G : rx_G} {D : Nat} {hf : rx_H} {z : (Int32 × Option rx_H)} (hC : rx_CC l G D (C_X6_keepBeside F) z) (x0 : Nat) (x3 : Int64) (x5 : Int32) (x6 : Int32) (s0 : Int32) (u : Option rx_H) (h : f_X6_keepBeside_40 F x0 x3 x5 x6 s0 u = some z) : rx_S l G ("SetHouse", prog_1_method_59_code, 8, false, false, D) hf (z.2.getD hf) rx_hI z 40 [some (.ref x0), none, none, some (.long x3), none, some (.int x5), some (.int x6), none] [.int s0] u := by
  rw [g_X6_keepBeside_40] at h
  refine rx_S_node (md := ("SetHouse", prog_1_method_59_code, 8, false, false, D)) tk_X6_keepBeside hC rx_m_hI (fun t ls st u h => ?_) h
  unfold kk_X6_keepBeside_40 at h
  rcases rx_rec_eq h with ⟨hb, h⟩ | ⟨hb, h⟩
  · have ht := Nat.eq_of_beq_eq_true hb
    subst ht
    unfold n_X6_keepBeside_55 at h
    split at h
    · exact (s_X6_keepBeside_55 hC _ _ _ _ _ _ _ h).le ⟨Or.inl rfl, Or.inl rfl, Or.inl rfl, Or.inr rfl, Or.inl rfl, Or.inl rfl, Or.inr rfl, Or.inr rfl, trivial⟩
    · cases h
  cases h
theorem s_X6_keepBeside_0 {F : Nat × Nat} {l : Launch} {G : rx_G} {D : Nat} {hf : rx_H} {z : (Int32 × Option rx_H)} (hC : rx_CC l G D (C_X6_keepBeside F) z) (x0 : Nat) (x1 : Int32) (x2 : Int32) (x3 : Int64) (x5 : Int32) (u : Option rx_H) (h : f_X6_keepBeside_0 F x0 x1 x2 x3 x5 u = some z) : rx_S l G ("SetHouse", prog_1_method_59_code, 8, false, false, D) hf (z.2.getD hf) rx_hI z 0 [some (.ref x0), some (.int x1), some (.int x2), some (.long x3), none, some (.int x5), none, none] [] u := by
  rw [g_X6_keepBeside_0] at h
  refine rx_S_node (md := ("SetHouse", prog_1_method_59_code, 8, false, false, D)) tk_X6_keepBeside hC rx_m_hI (fun t ls st u h => ?_) h
  unfold kk_X6_keepBeside_0 at h
  rcases rx_rec_eq h with ⟨hb, h⟩ | ⟨hb, h⟩
  · have ht := Nat.eq_of_beq_eq_true hb
    subst ht
    unfold n_X6_keepBeside_40 at h
    split at h
    · exact (s_X6_keepBeside_40 hC _ _ _ _ _ _ h).le ⟨Or.inr rfl, Or.inl rfl, Or.inl rfl, Or.inr rfl, Or.inl rfl, Or.inr rfl, Or.inr rfl, Or.inl rfl, trivial⟩
    · cases h
  cases h
theorem cc_X6_keepBeside (F : Nat × Nat) (l : Launch) (G : rx_G) {α : Type} (z : α) : rx_CC l G (3 + 0 * F.2) (C_X6_keepBeside F) z := by
  intro j as u κ h
  unfold C_X6_keepBeside at h
  rcases rx_rec_eq h with ⟨hb, h⟩ | ⟨hb, h⟩
  · have ht := Nat.eq_of_beq_eq_true hb
    subst ht
    exact (w_X6_isSize F l G h).deep (by omega)
  rcases rx_rec_eq h with ⟨hb, h⟩ | ⟨hb, h⟩
  · have ht := Nat.eq_of_beq_eq_true hb
    subst ht
    exact (w_X6_keep F l G h).deep (by omega)
  cases h
theorem m_X6_keepBeside (F : Nat × Nat) (l : Launch) (G : rx_G) (hf : rx_H) (x0 : Nat) (x1 : Int32) (x2 : Int32) (x3 : Int64) (x5 : Int32) (u : Option rx_H) {z : (Int32 × Option rx_H)} (h : f_X6_keepBeside F x0 x1 x2 x3 x5 u = some z) : rx_Ok l G (4 + 0 * F.2) (rx_ny 107) (.code (rx_ny 107) prog_1_method_59_code 8 (some .int)) [.ref x0, .int x1, .int x2, .long x3, .int x5] (u.getD hf) (some (.int z.1)) (z.2.getD hf) := by
  have h := h
  unfold f_X6_keepBeside at h
  exact (rx_met (l := l) (G := G) (hf := hf) (as := [.ref x0, .int x1, .int x2, .long x3, .int x5]) (r := (some (.int z.1))) (ls0 := [some (.ref x0), some (.int x1), some (.int x2), some (.long x3), none, some (.int x5), none, none]) (y := rx_ny 107) (D := (3 + 0 * F.2)) (ini := false) (bo := false) (u := u) (u' := z.2) (by decide +kernel) (fun h => by cases h) (Nat.le_of_ble_eq_true rfl) (Or.inl ⟨rfl, rfl, _, rfl⟩) (fun Z hZ hB => rx_RT_hI hZ hB) (by exact ⟨Or.inr rfl, Or.inr rfl, Or.inr rfl, Or.inr rfl, Or.inl rfl, Or.inr rfl, Or.inl rfl, Or.inl rfl, trivial⟩) (s_X6_keepBeside_0 (cc_X6_keepBeside F l G z) x0 x1 x2 x3 x5 u h)).deep (by omega)
theorem w_X6_keepBeside (F : Nat × Nat) (l : Launch) (G : rx_G) {α : Type} {z : α} {as : List Value} {u : Option rx_H} {κ : rx_K α} (h : c_X6_keepBeside F as u κ = some z) : rx_Cw l G (4 + 0 * F.2) 107 as u κ z := by
  unfold c_X6_keepBeside at h
  split at h
  · obtain ⟨r, hr, h⟩ := Option.bind_eq_some_iff.mp h
    exact ⟨_, _, _, _, h, k_X6_keepBeside, fun h => absurd h (by decide), fun _ => ⟨_, _, rfl, rfl⟩, fun hf => m_X6_keepBeside F l G hf _ _ _ _ _ _ hr⟩
  · cases h
set_option maxRecDepth 100000 in
theorem k_X6_shadow : rx_Cal (rx_ny 126) (.code (rx_ny 126) prog_1_method_13_code 4 (some .int)) (rx_kd 126) 2 := ⟨prog_1_method_13_code, 4, (some .int), Or.inl rfl, rx_in (i := 312) (by rfl) (by rfl), rx_in (i := 41) (by decide +kernel) (by decide +kernel), ⟨(by decide +kernel), (by decide +kernel), (by decide +kernel)⟩, Nat.le_of_ble_eq_true rfl, fun h => absurd h (by decide), fun _ => ⟨rx_in (i := 310) (by decide +kernel) (by decide +kernel), rx_in (i := 311) (by decide +kernel) (by decide +kernel)⟩, fun h => absurd h (by decide)⟩
set_option maxRecDepth 100000 in
theorem tk_X6_shadow : (t_X6_shadow.all (rx_eok "SetHouse" prog_1_method_13_code 4 false false) && rx_adj t_X6_shadow) = true := by decide +kernel
theorem s_X6_shadow_0 {F : Nat × Nat} {l : Launch} {G : rx_G} {D : Nat} {hf : rx_H} {z : (Int32 × Option rx_H)} (hC : rx_CC l G D (C_X6_shadow F) z) (x0 : Nat) (x1 : Int32) (x2 : Int32) (u : Option rx_H) (h : f_X6_shadow_0 F x0 x1 x2 u = some z) : rx_S l G ("SetHouse", prog_1_method_13_code, 4, false, false, D) hf (z.2.getD hf) rx_hI z 0 [some (.ref x0), some (.int x1), some (.int x2), none] [] u := by
  rw [g_X6_shadow_0] at h
  refine rx_S_node (md := ("SetHouse", prog_1_method_13_code, 4, false, false, D)) tk_X6_shadow hC rx_m_hI (fun t ls st u h => ?_) h
  unfold kk_X6_shadow_0 at h
  cases h
theorem cc_X6_shadow (F : Nat × Nat) (l : Launch) (G : rx_G) {α : Type} (z : α) : rx_CC l G (4 + 0 * F.2) (C_X6_shadow F) z := by
  intro j as u κ h
  unfold C_X6_shadow at h
  rcases rx_rec_eq h with ⟨hb, h⟩ | ⟨hb, h⟩
  · have ht := Nat.eq_of_beq_eq_true hb
    subst ht
    exact (w_X0_oneLess F l G h).deep (by omega)
  rcases rx_rec_eq h with ⟨hb, h⟩ | ⟨hb, h⟩
  · have ht := Nat.eq_of_beq_eq_true hb
    subst ht
    exact (w_X6_familyRefusal F l G h).deep (by omega)
  rcases rx_rec_eq h with ⟨hb, h⟩ | ⟨hb, h⟩
  · have ht := Nat.eq_of_beq_eq_true hb
    subst ht
    exact (w_X6_isPlace F l G h).deep (by omega)
  rcases rx_rec_eq h with ⟨hb, h⟩ | ⟨hb, h⟩
  · have ht := Nat.eq_of_beq_eq_true hb
    subst ht
    exact (w_X6_keepBeside F l G h).deep (by omega)
  cases h
theorem m_X6_shadow (F : Nat × Nat) (l : Launch) (G : rx_G) (hf : rx_H) (x0 : Nat) (x1 : Int32) (x2 : Int32) (u : Option rx_H) {z : (Int32 × Option rx_H)} (h : f_X6_shadow F x0 x1 x2 u = some z) : rx_Ok l G (5 + 0 * F.2) (rx_ny 126) (.code (rx_ny 126) prog_1_method_13_code 4 (some .int)) [.ref x0, .int x1, .int x2] (u.getD hf) (some (.int z.1)) (z.2.getD hf) := by
  have h := h
  unfold f_X6_shadow at h
  exact (rx_met (l := l) (G := G) (hf := hf) (as := [.ref x0, .int x1, .int x2]) (r := (some (.int z.1))) (ls0 := [some (.ref x0), some (.int x1), some (.int x2), none]) (y := rx_ny 126) (D := (4 + 0 * F.2)) (ini := false) (bo := false) (u := u) (u' := z.2) (by decide +kernel) (fun h => by cases h) (Nat.le_of_ble_eq_true rfl) (Or.inl ⟨rfl, rfl, _, rfl⟩) (fun Z hZ hB => rx_RT_hI hZ hB) (by exact ⟨Or.inr rfl, Or.inr rfl, Or.inr rfl, Or.inl rfl, trivial⟩) (s_X6_shadow_0 (cc_X6_shadow F l G z) x0 x1 x2 u h)).deep (by omega)
theorem w_X6_shadow (F : Nat × Nat) (l : Launch) (G : rx_G) {α : Type} {z : α} {as : List Value} {u : Option rx_H} {κ : rx_K α} (h : c_X6_shadow F as u κ = some z) : rx_Cw l G (5 + 0 * F.2) 126 as u κ z := by
  unfold c_X6_shadow at h
  split at h
  · obtain ⟨r, hr, h⟩ := Option.bind_eq_some_iff.mp h
    exact ⟨_, _, _, _, h, k_X6_shadow, fun h => absurd h (by decide), fun _ => ⟨_, _, rfl, rfl⟩, fun hf => m_X6_shadow F l G hf _ _ _ _ hr⟩
  · cases h
set_option maxRecDepth 100000 in
theorem k_X6_up : rx_Cal (rx_ny 134) (.code (rx_ny 134) prog_1_method_14_code 4 (some .int)) (rx_kd 134) 2 := ⟨prog_1_method_14_code, 4, (some .int), Or.inl rfl, rx_in (i := 328) (by rfl) (by rfl), rx_in (i := 41) (by decide +kernel) (by decide +kernel), ⟨(by decide +kernel), (by decide +kernel), (by decide +kernel)⟩, Nat.le_of_ble_eq_true rfl, fun h => absurd h (by decide), fun _ => ⟨rx_in (i := 326) (by decide +kernel) (by decide +kernel), rx_in (i := 327) (by decide +kernel) (by decide +kernel)⟩, fun h => absurd h (by decide)⟩
set_option maxRecDepth 100000 in
theorem tk_X6_up : (t_X6_up.all (rx_eok "SetHouse" prog_1_method_14_code 4 false false) && rx_adj t_X6_up) = true := by decide +kernel
theorem s_X6_up_0 {F : Nat × Nat} {l : Launch} {G : rx_G} {D : Nat} {hf : rx_H} {z : (Int32 × Option rx_H)} (hC : rx_CC l G D (C_X6_up F) z) (x0 : Nat) (x1 : Int32) (x2 : Int32) (u : Option rx_H) (h : f_X6_up_0 F x0 x1 x2 u = some z) : rx_S l G ("SetHouse", prog_1_method_14_code, 4, false, false, D) hf (z.2.getD hf) rx_hI z 0 [some (.ref x0), some (.int x1), some (.int x2), none] [] u := by
  rw [g_X6_up_0] at h
  refine rx_S_node (md := ("SetHouse", prog_1_method_14_code, 4, false, false, D)) tk_X6_up hC rx_m_hI (fun t ls st u h => ?_) h
  unfold kk_X6_up_0 at h
  cases h
theorem cc_X6_up (F : Nat × Nat) (l : Launch) (G : rx_G) {α : Type} (z : α) : rx_CC l G (4 + 0 * F.2) (C_X6_up F) z := by
  intro j as u κ h
  unfold C_X6_up at h
  rcases rx_rec_eq h with ⟨hb, h⟩ | ⟨hb, h⟩
  · have ht := Nat.eq_of_beq_eq_true hb
    subst ht
    exact (w_X0_oneMore F l G h).deep (by omega)
  rcases rx_rec_eq h with ⟨hb, h⟩ | ⟨hb, h⟩
  · have ht := Nat.eq_of_beq_eq_true hb
    subst ht
    exact (w_X6_familyRefusal F l G h).deep (by omega)
  rcases rx_rec_eq h with ⟨hb, h⟩ | ⟨hb, h⟩
  · have ht := Nat.eq_of_beq_eq_true hb
    subst ht
    exact (w_X6_isPlace F l G h).deep (by omega)
  rcases rx_rec_eq h with ⟨hb, h⟩ | ⟨hb, h⟩
  · have ht := Nat.eq_of_beq_eq_true hb
    subst ht
    exact (w_X6_keepBeside F l G h).deep (by omega)
  cases h
theorem m_X6_up (F : Nat × Nat) (l : Launch) (G : rx_G) (hf : rx_H) (x0 : Nat) (x1 : Int32) (x2 : Int32) (u : Option rx_H) {z : (Int32 × Option rx_H)} (h : f_X6_up F x0 x1 x2 u = some z) : rx_Ok l G (5 + 0 * F.2) (rx_ny 134) (.code (rx_ny 134) prog_1_method_14_code 4 (some .int)) [.ref x0, .int x1, .int x2] (u.getD hf) (some (.int z.1)) (z.2.getD hf) := by
  have h := h
  unfold f_X6_up at h
  exact (rx_met (l := l) (G := G) (hf := hf) (as := [.ref x0, .int x1, .int x2]) (r := (some (.int z.1))) (ls0 := [some (.ref x0), some (.int x1), some (.int x2), none]) (y := rx_ny 134) (D := (4 + 0 * F.2)) (ini := false) (bo := false) (u := u) (u' := z.2) (by decide +kernel) (fun h => by cases h) (Nat.le_of_ble_eq_true rfl) (Or.inl ⟨rfl, rfl, _, rfl⟩) (fun Z hZ hB => rx_RT_hI hZ hB) (by exact ⟨Or.inr rfl, Or.inr rfl, Or.inr rfl, Or.inl rfl, trivial⟩) (s_X6_up_0 (cc_X6_up F l G z) x0 x1 x2 u h)).deep (by omega)
theorem w_X6_up (F : Nat × Nat) (l : Launch) (G : rx_G) {α : Type} {z : α} {as : List Value} {u : Option rx_H} {κ : rx_K α} (h : c_X6_up F as u κ = some z) : rx_Cw l G (5 + 0 * F.2) 134 as u κ z := by
  unfold c_X6_up at h
  split at h
  · obtain ⟨r, hr, h⟩ := Option.bind_eq_some_iff.mp h
    exact ⟨_, _, _, _, h, k_X6_up, fun h => absurd h (by decide), fun _ => ⟨_, _, rfl, rfl⟩, fun hf => m_X6_up F l G hf _ _ _ _ hr⟩
  · cases h
set_option maxRecDepth 100000 in
theorem k_X6_closed : rx_Cal (rx_ny 81) (.code (rx_ny 81) prog_1_method_15_code 7 (some .int)) (rx_kd 81) 3 := ⟨prog_1_method_15_code, 7, (some .int), Or.inl rfl, rx_in (i := 338) (by rfl) (by rfl), rx_in (i := 41) (by decide +kernel) (by decide +kernel), ⟨(by decide +kernel), (by decide +kernel), (by decide +kernel)⟩, Nat.le_of_ble_eq_true rfl, fun h => absurd h (by decide), fun _ => ⟨rx_in (i := 336) (by decide +kernel) (by decide +kernel), rx_in (i := 337) (by decide +kernel) (by decide +kernel)⟩, fun h => absurd h (by decide)⟩
set_option maxRecDepth 100000 in
theorem tk_X6_closed : (t_X6_closed.all (rx_eok "SetHouse" prog_1_method_15_code 7 false false) && rx_adj t_X6_closed) = true := by decide +kernel
theorem s_X6_closed_0 {F : Nat × Nat} {l : Launch} {G : rx_G} {D : Nat} {hf : rx_H} {z : (Int32 × Option rx_H)} (hC : rx_CC l G D (C_X6_closed F) z) (x0 : Nat) (x1 : Int32) (x2 : Int32) (x3 : Int32) (u : Option rx_H) (h : f_X6_closed_0 F x0 x1 x2 x3 u = some z) : rx_S l G ("SetHouse", prog_1_method_15_code, 7, false, false, D) hf (z.2.getD hf) rx_hI z 0 [some (.ref x0), some (.int x1), some (.int x2), some (.int x3), none, none, none] [] u := by
  rw [g_X6_closed_0] at h
  refine rx_S_node (md := ("SetHouse", prog_1_method_15_code, 7, false, false, D)) tk_X6_closed hC rx_m_hI (fun t ls st u h => ?_) h
  unfold kk_X6_closed_0 at h
  cases h
theorem cc_X6_closed (F : Nat × Nat) (l : Launch) (G : rx_G) {α : Type} (z : α) : rx_CC l G (3 + 0 * F.2) (C_X6_closed F) z := by
  intro j as u κ h
  unfold C_X6_closed at h
  rcases rx_rec_eq h with ⟨hb, h⟩ | ⟨hb, h⟩
  · have ht := Nat.eq_of_beq_eq_true hb
    subst ht
    exact (w_X0_allAbove F l G h).deep (by omega)
  rcases rx_rec_eq h with ⟨hb, h⟩ | ⟨hb, h⟩
  · have ht := Nat.eq_of_beq_eq_true hb
    subst ht
    exact (w_X0_allBelow F l G h).deep (by omega)
  rcases rx_rec_eq h with ⟨hb, h⟩ | ⟨hb, h⟩
  · have ht := Nat.eq_of_beq_eq_true hb
    subst ht
    exact (w_X6_familyRefusal F l G h).deep (by omega)
  rcases rx_rec_eq h with ⟨hb, h⟩ | ⟨hb, h⟩
  · have ht := Nat.eq_of_beq_eq_true hb
    subst ht
    exact (w_X6_isPlace F l G h).deep (by omega)
  rcases rx_rec_eq h with ⟨hb, h⟩ | ⟨hb, h⟩
  · have ht := Nat.eq_of_beq_eq_true hb
    subst ht
    exact (w_X6_keep F l G h).deep (by omega)
  cases h
theorem m_X6_closed (F : Nat × Nat) (l : Launch) (G : rx_G) (hf : rx_H) (x0 : Nat) (x1 : Int32) (x2 : Int32) (x3 : Int32) (u : Option rx_H) {z : (Int32 × Option rx_H)} (h : f_X6_closed F x0 x1 x2 x3 u = some z) : rx_Ok l G (4 + 0 * F.2) (rx_ny 81) (.code (rx_ny 81) prog_1_method_15_code 7 (some .int)) [.ref x0, .int x1, .int x2, .int x3] (u.getD hf) (some (.int z.1)) (z.2.getD hf) := by
  have h := h
  unfold f_X6_closed at h
  exact (rx_met (l := l) (G := G) (hf := hf) (as := [.ref x0, .int x1, .int x2, .int x3]) (r := (some (.int z.1))) (ls0 := [some (.ref x0), some (.int x1), some (.int x2), some (.int x3), none, none, none]) (y := rx_ny 81) (D := (3 + 0 * F.2)) (ini := false) (bo := false) (u := u) (u' := z.2) (by decide +kernel) (fun h => by cases h) (Nat.le_of_ble_eq_true rfl) (Or.inl ⟨rfl, rfl, _, rfl⟩) (fun Z hZ hB => rx_RT_hI hZ hB) (by exact ⟨Or.inr rfl, Or.inr rfl, Or.inr rfl, Or.inr rfl, Or.inl rfl, Or.inl rfl, Or.inl rfl, trivial⟩) (s_X6_closed_0 (cc_X6_closed F l G z) x0 x1 x2 x3 u h)).deep (by omega)
theorem w_X6_closed (F : Nat × Nat) (l : Launch) (G : rx_G) {α : Type} {z : α} {as : List Value} {u : Option rx_H} {κ : rx_K α} (h : c_X6_closed F as u κ = some z) : rx_Cw l G (4 + 0 * F.2) 81 as u κ z := by
  unfold c_X6_closed at h
  split at h
  · obtain ⟨r, hr, h⟩ := Option.bind_eq_some_iff.mp h
    exact ⟨_, _, _, _, h, k_X6_closed, fun h => absurd h (by decide), fun _ => ⟨_, _, rfl, rfl⟩, fun hf => m_X6_closed F l G hf _ _ _ _ _ hr⟩
  · cases h
set_option maxRecDepth 100000 in
theorem k_X6_ends : rx_Cal (rx_ny 90) (.code (rx_ny 90) prog_1_method_16_code 9 (some .int)) (rx_kd 90) 3 := ⟨prog_1_method_16_code, 9, (some .int), Or.inl rfl, rx_in (i := 348) (by rfl) (by rfl), rx_in (i := 41) (by decide +kernel) (by decide +kernel), ⟨(by decide +kernel), (by decide +kernel), (by decide +kernel)⟩, Nat.le_of_ble_eq_true rfl, fun h => absurd h (by decide), fun _ => ⟨rx_in (i := 346) (by decide +kernel) (by decide +kernel), rx_in (i := 347) (by decide +kernel) (by decide +kernel)⟩, fun h => absurd h (by decide)⟩
set_option maxRecDepth 100000 in
theorem tk_X6_ends : (t_X6_ends.all (rx_eok "SetHouse" prog_1_method_16_code 9 false false) && rx_adj t_X6_ends) = true := by decide +kernel
theorem s_X6_ends_62 {F : Nat × Nat} {l : Launch} {G : rx_G} {D : Nat} {hf : rx_H} {z : (Int32 × Option rx_H)} (hC : rx_CC l G D (C_X6_ends F) z) (x0 : Nat) (x3 : Int32) (x5 : Int64) (s0 : Int64) (u : Option rx_H) (h : f_X6_ends_62 F x0 x3 x5 s0 u = some z) : rx_S l G ("SetHouse", prog_1_method_16_code, 9, false, false, D) hf (z.2.getD hf) rx_hI z 62 [some (.ref x0), none, none, some (.int x3), none, some (.long x5), none, none, none] [.long s0] u := by
  rw [g_X6_ends_62] at h
  refine rx_S_node (md := ("SetHouse", prog_1_method_16_code, 9, false, false, D)) tk_X6_ends hC rx_m_hI (fun t ls st u h => ?_) h
  unfold kk_X6_ends_62 at h
  cases h
theorem s_X6_ends_0 {F : Nat × Nat} {l : Launch} {G : rx_G} {D : Nat} {hf : rx_H} {z : (Int32 × Option rx_H)} (hC : rx_CC l G D (C_X6_ends F) z) (x0 : Nat) (x1 : Int32) (x2 : Int32) (x3 : Int32) (u : Option rx_H) (h : f_X6_ends_0 F x0 x1 x2 x3 u = some z) : rx_S l G ("SetHouse", prog_1_method_16_code, 9, false, false, D) hf (z.2.getD hf) rx_hI z 0 [some (.ref x0), some (.int x1), some (.int x2), some (.int x3), none, none, none, none, none] [] u := by
  rw [g_X6_ends_0] at h
  refine rx_S_node (md := ("SetHouse", prog_1_method_16_code, 9, false, false, D)) tk_X6_ends hC rx_m_hI (fun t ls st u h => ?_) h
  unfold kk_X6_ends_0 at h
  rcases rx_rec_eq h with ⟨hb, h⟩ | ⟨hb, h⟩
  · have ht := Nat.eq_of_beq_eq_true hb
    subst ht
    unfold n_X6_ends_62 at h
    split at h
    · exact (s_X6_ends_62 hC _ _ _ _ _ h).le ⟨Or.inr rfl, Or.inl rfl, Or.inl rfl, Or.inr rfl, Or.inl rfl, Or.inr rfl, Or.inl rfl, Or.inl rfl, Or.inl rfl, trivial⟩
    · cases h
  cases h
theorem cc_X6_ends (F : Nat × Nat) (l : Launch) (G : rx_G) {α : Type} (z : α) : rx_CC l G (3 + 0 * F.2) (C_X6_ends F) z := by
  intro j as u κ h
  unfold C_X6_ends at h
  rcases rx_rec_eq h with ⟨hb, h⟩ | ⟨hb, h⟩
  · have ht := Nat.eq_of_beq_eq_true hb
    subst ht
    exact (w_X0_allAbove F l G h).deep (by omega)
  rcases rx_rec_eq h with ⟨hb, h⟩ | ⟨hb, h⟩
  · have ht := Nat.eq_of_beq_eq_true hb
    subst ht
    exact (w_X0_allBelow F l G h).deep (by omega)
  rcases rx_rec_eq h with ⟨hb, h⟩ | ⟨hb, h⟩
  · have ht := Nat.eq_of_beq_eq_true hb
    subst ht
    exact (w_X0_oneLess F l G h).deep (by omega)
  rcases rx_rec_eq h with ⟨hb, h⟩ | ⟨hb, h⟩
  · have ht := Nat.eq_of_beq_eq_true hb
    subst ht
    exact (w_X0_oneMore F l G h).deep (by omega)
  rcases rx_rec_eq h with ⟨hb, h⟩ | ⟨hb, h⟩
  · have ht := Nat.eq_of_beq_eq_true hb
    subst ht
    exact (w_X6_familyRefusal F l G h).deep (by omega)
  rcases rx_rec_eq h with ⟨hb, h⟩ | ⟨hb, h⟩
  · have ht := Nat.eq_of_beq_eq_true hb
    subst ht
    exact (w_X6_isPlace F l G h).deep (by omega)
  rcases rx_rec_eq h with ⟨hb, h⟩ | ⟨hb, h⟩
  · have ht := Nat.eq_of_beq_eq_true hb
    subst ht
    exact (w_X6_keep F l G h).deep (by omega)
  cases h
theorem m_X6_ends (F : Nat × Nat) (l : Launch) (G : rx_G) (hf : rx_H) (x0 : Nat) (x1 : Int32) (x2 : Int32) (x3 : Int32) (u : Option rx_H) {z : (Int32 × Option rx_H)} (h : f_X6_ends F x0 x1 x2 x3 u = some z) : rx_Ok l G (4 + 0 * F.2) (rx_ny 90) (.code (rx_ny 90) prog_1_method_16_code 9 (some .int)) [.ref x0, .int x1, .int x2, .int x3] (u.getD hf) (some (.int z.1)) (z.2.getD hf) := by
  have h := h
  unfold f_X6_ends at h
  exact (rx_met (l := l) (G := G) (hf := hf) (as := [.ref x0, .int x1, .int x2, .int x3]) (r := (some (.int z.1))) (ls0 := [some (.ref x0), some (.int x1), some (.int x2), some (.int x3), none, none, none, none, none]) (y := rx_ny 90) (D := (3 + 0 * F.2)) (ini := false) (bo := false) (u := u) (u' := z.2) (by decide +kernel) (fun h => by cases h) (Nat.le_of_ble_eq_true rfl) (Or.inl ⟨rfl, rfl, _, rfl⟩) (fun Z hZ hB => rx_RT_hI hZ hB) (by exact ⟨Or.inr rfl, Or.inr rfl, Or.inr rfl, Or.inr rfl, Or.inl rfl, Or.inl rfl, Or.inl rfl, Or.inl rfl, Or.inl rfl, trivial⟩) (s_X6_ends_0 (cc_X6_ends F l G z) x0 x1 x2 x3 u h)).deep (by omega)
theorem w_X6_ends (F : Nat × Nat) (l : Launch) (G : rx_G) {α : Type} {z : α} {as : List Value} {u : Option rx_H} {κ : rx_K α} (h : c_X6_ends F as u κ = some z) : rx_Cw l G (4 + 0 * F.2) 90 as u κ z := by
  unfold c_X6_ends at h
  split at h
  · obtain ⟨r, hr, h⟩ := Option.bind_eq_some_iff.mp h
    exact ⟨_, _, _, _, h, k_X6_ends, fun h => absurd h (by decide), fun _ => ⟨_, _, rfl, rfl⟩, fun hf => m_X6_ends F l G hf _ _ _ _ _ hr⟩
  · cases h
set_option maxRecDepth 100000 in
theorem k_X6_familiesRefusal : rx_Cal (rx_ny 91) (.code (rx_ny 91) prog_1_method_55_code 5 (some .int)) (rx_kd 91) 3 := ⟨prog_1_method_55_code, 5, (some .int), Or.inl rfl, rx_in (i := 356) (by rfl) (by rfl), rx_in (i := 41) (by decide +kernel) (by decide +kernel), ⟨(by decide +kernel), (by decide +kernel), (by decide +kernel)⟩, Nat.le_of_ble_eq_true rfl, fun h => absurd h (by decide), fun _ => ⟨rx_in (i := 355) (by decide +kernel) (by decide +kernel), rx_in (i := 8) (by decide +kernel) (by decide +kernel)⟩, fun h => absurd h (by decide)⟩
set_option maxRecDepth 100000 in
theorem tk_X6_familiesRefusal : (t_X6_familiesRefusal.all (rx_eok "SetHouse" prog_1_method_55_code 5 false false) && rx_adj t_X6_familiesRefusal) = true := by decide +kernel
theorem s_X6_familiesRefusal_19 {F : Nat × Nat} {l : Launch} {G : rx_G} {D : Nat} {hf : rx_H} {z : (Int32 × Option rx_H)} (hC : rx_CC l G D (C_X6_familiesRefusal F) z) (x0 : Nat) (x2 : Int32) (s0 : Nat) (s1 : Int32) (s2 : Int32) (u : Option rx_H) (h : f_X6_familiesRefusal_19 F x0 x2 s0 s1 s2 u = some z) : rx_S l G ("SetHouse", prog_1_method_55_code, 5, false, false, D) hf (z.2.getD hf) rx_hI z 19 [some (.ref x0), none, some (.int x2), none, none] [.int s2, .int s1, .ref s0] u := by
  rw [g_X6_familiesRefusal_19] at h
  refine rx_S_node (md := ("SetHouse", prog_1_method_55_code, 5, false, false, D)) tk_X6_familiesRefusal hC rx_m_hI (fun t ls st u h => ?_) h
  unfold kk_X6_familiesRefusal_19 at h
  cases h
theorem s_X6_familiesRefusal_0 {F : Nat × Nat} {l : Launch} {G : rx_G} {D : Nat} {hf : rx_H} {z : (Int32 × Option rx_H)} (hC : rx_CC l G D (C_X6_familiesRefusal F) z) (x0 : Nat) (x1 : Int32) (x2 : Int32) (x3 : Int32) (u : Option rx_H) (h : f_X6_familiesRefusal_0 F x0 x1 x2 x3 u = some z) : rx_S l G ("SetHouse", prog_1_method_55_code, 5, false, false, D) hf (z.2.getD hf) rx_hI z 0 [some (.ref x0), some (.int x1), some (.int x2), some (.int x3), none] [] u := by
  rw [g_X6_familiesRefusal_0] at h
  refine rx_S_node (md := ("SetHouse", prog_1_method_55_code, 5, false, false, D)) tk_X6_familiesRefusal hC rx_m_hI (fun t ls st u h => ?_) h
  unfold kk_X6_familiesRefusal_0 at h
  rcases rx_rec_eq h with ⟨hb, h⟩ | ⟨hb, h⟩
  · have ht := Nat.eq_of_beq_eq_true hb
    subst ht
    unfold n_X6_familiesRefusal_19 at h
    split at h
    · exact (s_X6_familiesRefusal_19 hC _ _ _ _ _ _ h).le ⟨Or.inr rfl, Or.inl rfl, Or.inr rfl, Or.inl rfl, Or.inl rfl, trivial⟩
    · cases h
  cases h
theorem cc_X6_familiesRefusal (F : Nat × Nat) (l : Launch) (G : rx_G) {α : Type} (z : α) : rx_CC l G (2 + 0 * F.2) (C_X6_familiesRefusal F) z := by
  intro j as u κ h
  unfold C_X6_familiesRefusal at h
  rcases rx_rec_eq h with ⟨hb, h⟩ | ⟨hb, h⟩
  · have ht := Nat.eq_of_beq_eq_true hb
    subst ht
    exact (w_X6_familyRefusal F l G h).deep (by omega)
  rcases rx_rec_eq h with ⟨hb, h⟩ | ⟨hb, h⟩
  · have ht := Nat.eq_of_beq_eq_true hb
    subst ht
    exact (w_X6_isPlace F l G h).deep (by omega)
  cases h
theorem m_X6_familiesRefusal (F : Nat × Nat) (l : Launch) (G : rx_G) (hf : rx_H) (x0 : Nat) (x1 : Int32) (x2 : Int32) (x3 : Int32) (u : Option rx_H) {z : (Int32 × Option rx_H)} (h : f_X6_familiesRefusal F x0 x1 x2 x3 u = some z) : rx_Ok l G (3 + 0 * F.2) (rx_ny 91) (.code (rx_ny 91) prog_1_method_55_code 5 (some .int)) [.ref x0, .int x1, .int x2, .int x3] (u.getD hf) (some (.int z.1)) (z.2.getD hf) := by
  have h := h
  unfold f_X6_familiesRefusal at h
  exact (rx_met (l := l) (G := G) (hf := hf) (as := [.ref x0, .int x1, .int x2, .int x3]) (r := (some (.int z.1))) (ls0 := [some (.ref x0), some (.int x1), some (.int x2), some (.int x3), none]) (y := rx_ny 91) (D := (2 + 0 * F.2)) (ini := false) (bo := false) (u := u) (u' := z.2) (by decide +kernel) (fun h => by cases h) (Nat.le_of_ble_eq_true rfl) (Or.inl ⟨rfl, rfl, _, rfl⟩) (fun Z hZ hB => rx_RT_hI hZ hB) (by exact ⟨Or.inr rfl, Or.inr rfl, Or.inr rfl, Or.inr rfl, Or.inl rfl, trivial⟩) (s_X6_familiesRefusal_0 (cc_X6_familiesRefusal F l G z) x0 x1 x2 x3 u h)).deep (by omega)
theorem w_X6_familiesRefusal (F : Nat × Nat) (l : Launch) (G : rx_G) {α : Type} {z : α} {as : List Value} {u : Option rx_H} {κ : rx_K α} (h : c_X6_familiesRefusal F as u κ = some z) : rx_Cw l G (3 + 0 * F.2) 91 as u κ z := by
  unfold c_X6_familiesRefusal at h
  split at h
  · obtain ⟨r, hr, h⟩ := Option.bind_eq_some_iff.mp h
    exact ⟨_, _, _, _, h, k_X6_familiesRefusal, fun h => absurd h (by decide), fun _ => ⟨_, _, rfl, rfl⟩, fun hf => m_X6_familiesRefusal F l G hf _ _ _ _ _ hr⟩
  · cases h
set_option maxRecDepth 100000 in
theorem k_X6_mix : rx_Cal (rx_ny 112) (.code (rx_ny 112) prog_1_method_17_code 6 (some .int)) (rx_kd 112) 4 := ⟨prog_1_method_17_code, 6, (some .int), Or.inl rfl, rx_in (i := 352) (by rfl) (by rfl), rx_in (i := 41) (by decide +kernel) (by decide +kernel), ⟨(by decide +kernel), (by decide +kernel), (by decide +kernel)⟩, Nat.le_of_ble_eq_true rfl, fun h => absurd h (by decide), fun _ => ⟨rx_in (i := 350) (by decide +kernel) (by decide +kernel), rx_in (i := 351) (by decide +kernel) (by decide +kernel)⟩, fun h => absurd h (by decide)⟩
set_option maxRecDepth 100000 in
theorem tk_X6_mix : (t_X6_mix.all (rx_eok "SetHouse" prog_1_method_17_code 6 false false) && rx_adj t_X6_mix) = true := by decide +kernel
theorem s_X6_mix_26 {F : Nat × Nat} {l : Launch} {G : rx_G} {D : Nat} {hf : rx_H} {z : (Int32 × Option rx_H)} (hC : rx_CC l G D (C_X6_mix F) z) (x0 : Nat) (x1 : Int32) (x2 : Int32) (x3 : Int32) (x4 : Int32) (s0 : Nat) (s1 : Int32) (s2 : Int32) (s3 : Int32) (u : Option rx_H) (h : f_X6_mix_26 F x0 x1 x2 x3 x4 s0 s1 s2 s3 u = some z) : rx_S l G ("SetHouse", prog_1_method_17_code, 6, false, false, D) hf (z.2.getD hf) rx_hI z 26 [some (.ref x0), some (.int x1), some (.int x2), some (.int x3), some (.int x4), none] [.int s3, .int s2, .int s1, .ref s0] u := by
  rw [g_X6_mix_26] at h
  refine rx_S_node (md := ("SetHouse", prog_1_method_17_code, 6, false, false, D)) tk_X6_mix hC rx_m_hI (fun t ls st u h => ?_) h
  unfold kk_X6_mix_26 at h
  cases h
theorem s_X6_mix_0 {F : Nat × Nat} {l : Launch} {G : rx_G} {D : Nat} {hf : rx_H} {z : (Int32 × Option rx_H)} (hC : rx_CC l G D (C_X6_mix F) z) (x0 : Nat) (x1 : Int32) (x2 : Int32) (x3 : Int32) (x4 : Int32) (u : Option rx_H) (h : f_X6_mix_0 F x0 x1 x2 x3 x4 u = some z) : rx_S l G ("SetHouse", prog_1_method_17_code, 6, false, false, D) hf (z.2.getD hf) rx_hI z 0 [some (.ref x0), some (.int x1), some (.int x2), some (.int x3), some (.int x4), none] [] u := by
  rw [g_X6_mix_0] at h
  refine rx_S_node (md := ("SetHouse", prog_1_method_17_code, 6, false, false, D)) tk_X6_mix hC rx_m_hI (fun t ls st u h => ?_) h
  unfold kk_X6_mix_0 at h
  rcases rx_rec_eq h with ⟨hb, h⟩ | ⟨hb, h⟩
  · have ht := Nat.eq_of_beq_eq_true hb
    subst ht
    unfold n_X6_mix_26 at h
    split at h
    · exact (s_X6_mix_26 hC _ _ _ _ _ _ _ _ _ _ h).le ⟨Or.inr rfl, Or.inr rfl, Or.inr rfl, Or.inr rfl, Or.inr rfl, Or.inl rfl, trivial⟩
    · cases h
  cases h
theorem cc_X6_mix (F : Nat × Nat) (l : Launch) (G : rx_G) {α : Type} (z : α) : rx_CC l G (4 + 0 * F.2) (C_X6_mix F) z := by
  intro j as u κ h
  unfold C_X6_mix at h
  rcases rx_rec_eq h with ⟨hb, h⟩ | ⟨hb, h⟩
  · have ht := Nat.eq_of_beq_eq_true hb
    subst ht
    exact (w_X0_mixed F l G h).deep (by omega)
  rcases rx_rec_eq h with ⟨hb, h⟩ | ⟨hb, h⟩
  · have ht := Nat.eq_of_beq_eq_true hb
    subst ht
    exact (w_X6_familiesRefusal F l G h).deep (by omega)
  rcases rx_rec_eq h with ⟨hb, h⟩ | ⟨hb, h⟩
  · have ht := Nat.eq_of_beq_eq_true hb
    subst ht
    exact (w_X6_isPlace F l G h).deep (by omega)
  rcases rx_rec_eq h with ⟨hb, h⟩ | ⟨hb, h⟩
  · have ht := Nat.eq_of_beq_eq_true hb
    subst ht
    exact (w_X6_keep F l G h).deep (by omega)
  cases h
theorem m_X6_mix (F : Nat × Nat) (l : Launch) (G : rx_G) (hf : rx_H) (x0 : Nat) (x1 : Int32) (x2 : Int32) (x3 : Int32) (x4 : Int32) (u : Option rx_H) {z : (Int32 × Option rx_H)} (h : f_X6_mix F x0 x1 x2 x3 x4 u = some z) : rx_Ok l G (5 + 0 * F.2) (rx_ny 112) (.code (rx_ny 112) prog_1_method_17_code 6 (some .int)) [.ref x0, .int x1, .int x2, .int x3, .int x4] (u.getD hf) (some (.int z.1)) (z.2.getD hf) := by
  have h := h
  unfold f_X6_mix at h
  exact (rx_met (l := l) (G := G) (hf := hf) (as := [.ref x0, .int x1, .int x2, .int x3, .int x4]) (r := (some (.int z.1))) (ls0 := [some (.ref x0), some (.int x1), some (.int x2), some (.int x3), some (.int x4), none]) (y := rx_ny 112) (D := (4 + 0 * F.2)) (ini := false) (bo := false) (u := u) (u' := z.2) (by decide +kernel) (fun h => by cases h) (Nat.le_of_ble_eq_true rfl) (Or.inl ⟨rfl, rfl, _, rfl⟩) (fun Z hZ hB => rx_RT_hI hZ hB) (by exact ⟨Or.inr rfl, Or.inr rfl, Or.inr rfl, Or.inr rfl, Or.inr rfl, Or.inl rfl, trivial⟩) (s_X6_mix_0 (cc_X6_mix F l G z) x0 x1 x2 x3 x4 u h)).deep (by omega)
theorem w_X6_mix (F : Nat × Nat) (l : Launch) (G : rx_G) {α : Type} {z : α} {as : List Value} {u : Option rx_H} {κ : rx_K α} (h : c_X6_mix F as u κ = some z) : rx_Cw l G (5 + 0 * F.2) 112 as u κ z := by
  unfold c_X6_mix at h
  split at h
  · obtain ⟨r, hr, h⟩ := Option.bind_eq_some_iff.mp h
    exact ⟨_, _, _, _, h, k_X6_mix, fun h => absurd h (by decide), fun _ => ⟨_, _, rfl, rfl⟩, fun hf => m_X6_mix F l G hf _ _ _ _ _ _ hr⟩
  · cases h
set_option maxRecDepth 100000 in
theorem k_X6_rest : rx_Cal (rx_ny 120) (.code (rx_ny 120) prog_1_method_18_code 7 (some .int)) (rx_kd 120) 3 := ⟨prog_1_method_18_code, 7, (some .int), Or.inl rfl, rx_in (i := 375) (by rfl) (by rfl), rx_in (i := 41) (by decide +kernel) (by decide +kernel), ⟨(by decide +kernel), (by decide +kernel), (by decide +kernel)⟩, Nat.le_of_ble_eq_true rfl, fun h => absurd h (by decide), fun _ => ⟨rx_in (i := 373) (by decide +kernel) (by decide +kernel), rx_in (i := 374) (by decide +kernel) (by decide +kernel)⟩, fun h => absurd h (by decide)⟩
set_option maxRecDepth 100000 in
theorem tk_X6_rest : (t_X6_rest.all (rx_eok "SetHouse" prog_1_method_18_code 7 false false) && rx_adj t_X6_rest) = true := by decide +kernel
theorem s_X6_rest_67 {F : Nat × Nat} {l : Launch} {G : rx_G} {D : Nat} {hf : rx_H} {z : (Int32 × Option rx_H)} (hC : rx_CC l G D (C_X6_rest F) z) (s0 : Nat) (s1 : Int32) (s2 : Int32) (s3 : Int32) (s4 : Int64) (u : Option rx_H) (h : f_X6_rest_67 F s0 s1 s2 s3 s4 u = some z) : rx_S l G ("SetHouse", prog_1_method_18_code, 7, false, false, D) hf (z.2.getD hf) rx_hI z 67 [none, none, none, none, none, none, none] [.long s4, .int s3, .int s2, .int s1, .ref s0] u := by
  rw [g_X6_rest_67] at h
  refine rx_S_node (md := ("SetHouse", prog_1_method_18_code, 7, false, false, D)) tk_X6_rest hC rx_m_hI (fun t ls st u h => ?_) h
  unfold kk_X6_rest_67 at h
  cases h
theorem s_X6_rest_0 {F : Nat × Nat} {l : Launch} {G : rx_G} {D : Nat} {hf : rx_H} {z : (Int32 × Option rx_H)} (hC : rx_CC l G D (C_X6_rest F) z) (x0 : Nat) (x1 : Int32) (x2 : Int32) (x3 : Int32) (u : Option rx_H) (h : f_X6_rest_0 F x0 x1 x2 x3 u = some z) : rx_S l G ("SetHouse", prog_1_method_18_code, 7, false, false, D) hf (z.2.getD hf) rx_hI z 0 [some (.ref x0), some (.int x1), some (.int x2), some (.int x3), none, none, none] [] u := by
  rw [g_X6_rest_0] at h
  refine rx_S_node (md := ("SetHouse", prog_1_method_18_code, 7, false, false, D)) tk_X6_rest hC rx_m_hI (fun t ls st u h => ?_) h
  unfold kk_X6_rest_0 at h
  rcases rx_rec_eq h with ⟨hb, h⟩ | ⟨hb, h⟩
  · have ht := Nat.eq_of_beq_eq_true hb
    subst ht
    unfold n_X6_rest_67 at h
    split at h
    · exact (s_X6_rest_67 hC _ _ _ _ _ _ h).le ⟨Or.inl rfl, Or.inl rfl, Or.inl rfl, Or.inl rfl, Or.inl rfl, Or.inl rfl, Or.inl rfl, trivial⟩
    · cases h
  cases h
theorem cc_X6_rest (F : Nat × Nat) (l : Launch) (G : rx_G) {α : Type} (z : α) : rx_CC l G (3 + 0 * F.2) (C_X6_rest F) z := by
  intro j as u κ h
  unfold C_X6_rest at h
  rcases rx_rec_eq h with ⟨hb, h⟩ | ⟨hb, h⟩
  · have ht := Nat.eq_of_beq_eq_true hb
    subst ht
    exact (w_X0_lacking F l G h).deep (by omega)
  rcases rx_rec_eq h with ⟨hb, h⟩ | ⟨hb, h⟩
  · have ht := Nat.eq_of_beq_eq_true hb
    subst ht
    exact (w_X0_within F l G h).deep (by omega)
  rcases rx_rec_eq h with ⟨hb, h⟩ | ⟨hb, h⟩
  · have ht := Nat.eq_of_beq_eq_true hb
    subst ht
    exact (w_X6_familyRefusal F l G h).deep (by omega)
  rcases rx_rec_eq h with ⟨hb, h⟩ | ⟨hb, h⟩
  · have ht := Nat.eq_of_beq_eq_true hb
    subst ht
    exact (w_X6_isPlace F l G h).deep (by omega)
  rcases rx_rec_eq h with ⟨hb, h⟩ | ⟨hb, h⟩
  · have ht := Nat.eq_of_beq_eq_true hb
    subst ht
    exact (w_X6_keep F l G h).deep (by omega)
  cases h
theorem m_X6_rest (F : Nat × Nat) (l : Launch) (G : rx_G) (hf : rx_H) (x0 : Nat) (x1 : Int32) (x2 : Int32) (x3 : Int32) (u : Option rx_H) {z : (Int32 × Option rx_H)} (h : f_X6_rest F x0 x1 x2 x3 u = some z) : rx_Ok l G (4 + 0 * F.2) (rx_ny 120) (.code (rx_ny 120) prog_1_method_18_code 7 (some .int)) [.ref x0, .int x1, .int x2, .int x3] (u.getD hf) (some (.int z.1)) (z.2.getD hf) := by
  have h := h
  unfold f_X6_rest at h
  exact (rx_met (l := l) (G := G) (hf := hf) (as := [.ref x0, .int x1, .int x2, .int x3]) (r := (some (.int z.1))) (ls0 := [some (.ref x0), some (.int x1), some (.int x2), some (.int x3), none, none, none]) (y := rx_ny 120) (D := (3 + 0 * F.2)) (ini := false) (bo := false) (u := u) (u' := z.2) (by decide +kernel) (fun h => by cases h) (Nat.le_of_ble_eq_true rfl) (Or.inl ⟨rfl, rfl, _, rfl⟩) (fun Z hZ hB => rx_RT_hI hZ hB) (by exact ⟨Or.inr rfl, Or.inr rfl, Or.inr rfl, Or.inr rfl, Or.inl rfl, Or.inl rfl, Or.inl rfl, trivial⟩) (s_X6_rest_0 (cc_X6_rest F l G z) x0 x1 x2 x3 u h)).deep (by omega)
theorem w_X6_rest (F : Nat × Nat) (l : Launch) (G : rx_G) {α : Type} {z : α} {as : List Value} {u : Option rx_H} {κ : rx_K α} (h : c_X6_rest F as u κ = some z) : rx_Cw l G (4 + 0 * F.2) 120 as u κ z := by
  unfold c_X6_rest at h
  split at h
  · obtain ⟨r, hr, h⟩ := Option.bind_eq_some_iff.mp h
    exact ⟨_, _, _, _, h, k_X6_rest, fun h => absurd h (by decide), fun _ => ⟨_, _, rfl, rfl⟩, fun hf => m_X6_rest F l G hf _ _ _ _ _ hr⟩
  · cases h
set_option maxRecDepth 100000 in
theorem k_X6_trace : rx_Cal (rx_ny 131) (.code (rx_ny 131) prog_1_method_19_code 5 (some .int)) (rx_kd 131) 3 := ⟨prog_1_method_19_code, 5, (some .int), Or.inl rfl, rx_in (i := 383) (by rfl) (by rfl), rx_in (i := 41) (by decide +kernel) (by decide +kernel), ⟨(by decide +kernel), (by decide +kernel), (by decide +kernel)⟩, Nat.le_of_ble_eq_true rfl, fun h => absurd h (by decide), fun _ => ⟨rx_in (i := 381) (by decide +kernel) (by decide +kernel), rx_in (i := 382) (by decide +kernel) (by decide +kernel)⟩, fun h => absurd h (by decide)⟩
set_option maxRecDepth 100000 in
theorem tk_X6_trace : (t_X6_trace.all (rx_eok "SetHouse" prog_1_method_19_code 5 false false) && rx_adj t_X6_trace) = true := by decide +kernel
theorem s_X6_trace_23 {F : Nat × Nat} {l : Launch} {G : rx_G} {D : Nat} {hf : rx_H} {z : (Int32 × Option rx_H)} (hC : rx_CC l G D (C_X6_trace F) z) (x0 : Nat) (x1 : Int32) (x2 : Int32) (x3 : Int32) (s0 : Nat) (s1 : Int32) (s2 : Int32) (u : Option rx_H) (h : f_X6_trace_23 F x0 x1 x2 x3 s0 s1 s2 u = some z) : rx_S l G ("SetHouse", prog_1_method_19_code, 5, false, false, D) hf (z.2.getD hf) rx_hI z 23 [some (.ref x0), some (.int x1), some (.int x2), some (.int x3), none] [.int s2, .int s1, .ref s0] u := by
  rw [g_X6_trace_23] at h
  refine rx_S_node (md := ("SetHouse", prog_1_method_19_code, 5, false, false, D)) tk_X6_trace hC rx_m_hI (fun t ls st u h => ?_) h
  unfold kk_X6_trace_23 at h
  cases h
theorem s_X6_trace_0 {F : Nat × Nat} {l : Launch} {G : rx_G} {D : Nat} {hf : rx_H} {z : (Int32 × Option rx_H)} (hC : rx_CC l G D (C_X6_trace F) z) (x0 : Nat) (x1 : Int32) (x2 : Int32) (x3 : Int32) (u : Option rx_H) (h : f_X6_trace_0 F x0 x1 x2 x3 u = some z) : rx_S l G ("SetHouse", prog_1_method_19_code, 5, false, false, D) hf (z.2.getD hf) rx_hI z 0 [some (.ref x0), some (.int x1), some (.int x2), some (.int x3), none] [] u := by
  rw [g_X6_trace_0] at h
  refine rx_S_node (md := ("SetHouse", prog_1_method_19_code, 5, false, false, D)) tk_X6_trace hC rx_m_hI (fun t ls st u h => ?_) h
  unfold kk_X6_trace_0 at h
  rcases rx_rec_eq h with ⟨hb, h⟩ | ⟨hb, h⟩
  · have ht := Nat.eq_of_beq_eq_true hb
    subst ht
    unfold n_X6_trace_23 at h
    split at h
    · exact (s_X6_trace_23 hC _ _ _ _ _ _ _ _ h).le ⟨Or.inr rfl, Or.inr rfl, Or.inr rfl, Or.inr rfl, Or.inl rfl, trivial⟩
    · cases h
  cases h
theorem cc_X6_trace (F : Nat × Nat) (l : Launch) (G : rx_G) {α : Type} (z : α) : rx_CC l G (3 + 0 * F.2) (C_X6_trace F) z := by
  intro j as u κ h
  unfold C_X6_trace at h
  rcases rx_rec_eq h with ⟨hb, h⟩ | ⟨hb, h⟩
  · have ht := Nat.eq_of_beq_eq_true hb
    subst ht
    exact (w_X0_cutTo F l G h).deep (by omega)
  rcases rx_rec_eq h with ⟨hb, h⟩ | ⟨hb, h⟩
  · have ht := Nat.eq_of_beq_eq_true hb
    subst ht
    exact (w_X6_familyRefusal F l G h).deep (by omega)
  rcases rx_rec_eq h with ⟨hb, h⟩ | ⟨hb, h⟩
  · have ht := Nat.eq_of_beq_eq_true hb
    subst ht
    exact (w_X6_isPlace F l G h).deep (by omega)
  rcases rx_rec_eq h with ⟨hb, h⟩ | ⟨hb, h⟩
  · have ht := Nat.eq_of_beq_eq_true hb
    subst ht
    exact (w_X6_isSet F l G h).deep (by omega)
  rcases rx_rec_eq h with ⟨hb, h⟩ | ⟨hb, h⟩
  · have ht := Nat.eq_of_beq_eq_true hb
    subst ht
    exact (w_X6_keep F l G h).deep (by omega)
  cases h
theorem m_X6_trace (F : Nat × Nat) (l : Launch) (G : rx_G) (hf : rx_H) (x0 : Nat) (x1 : Int32) (x2 : Int32) (x3 : Int32) (u : Option rx_H) {z : (Int32 × Option rx_H)} (h : f_X6_trace F x0 x1 x2 x3 u = some z) : rx_Ok l G (4 + 0 * F.2) (rx_ny 131) (.code (rx_ny 131) prog_1_method_19_code 5 (some .int)) [.ref x0, .int x1, .int x2, .int x3] (u.getD hf) (some (.int z.1)) (z.2.getD hf) := by
  have h := h
  unfold f_X6_trace at h
  exact (rx_met (l := l) (G := G) (hf := hf) (as := [.ref x0, .int x1, .int x2, .int x3]) (r := (some (.int z.1))) (ls0 := [some (.ref x0), some (.int x1), some (.int x2), some (.int x3), none]) (y := rx_ny 131) (D := (3 + 0 * F.2)) (ini := false) (bo := false) (u := u) (u' := z.2) (by decide +kernel) (fun h => by cases h) (Nat.le_of_ble_eq_true rfl) (Or.inl ⟨rfl, rfl, _, rfl⟩) (fun Z hZ hB => rx_RT_hI hZ hB) (by exact ⟨Or.inr rfl, Or.inr rfl, Or.inr rfl, Or.inr rfl, Or.inl rfl, trivial⟩) (s_X6_trace_0 (cc_X6_trace F l G z) x0 x1 x2 x3 u h)).deep (by omega)
theorem w_X6_trace (F : Nat × Nat) (l : Launch) (G : rx_G) {α : Type} {z : α} {as : List Value} {u : Option rx_H} {κ : rx_K α} (h : c_X6_trace F as u κ = some z) : rx_Cw l G (4 + 0 * F.2) 131 as u κ z := by
  unfold c_X6_trace at h
  split at h
  · obtain ⟨r, hr, h⟩ := Option.bind_eq_some_iff.mp h
    exact ⟨_, _, _, _, h, k_X6_trace, fun h => absurd h (by decide), fun _ => ⟨_, _, rfl, rfl⟩, fun hf => m_X6_trace F l G hf _ _ _ _ _ hr⟩
  · cases h
set_option maxRecDepth 100000 in
theorem k_X6_turned : rx_Cal (rx_ny 132) (.code (rx_ny 132) prog_1_method_20_code 7 (some .int)) (rx_kd 132) 3 := ⟨prog_1_method_20_code, 7, (some .int), Or.inl rfl, rx_in (i := 388) (by rfl) (by rfl), rx_in (i := 41) (by decide +kernel) (by decide +kernel), ⟨(by decide +kernel), (by decide +kernel), (by decide +kernel)⟩, Nat.le_of_ble_eq_true rfl, fun h => absurd h (by decide), fun _ => ⟨rx_in (i := 386) (by decide +kernel) (by decide +kernel), rx_in (i := 387) (by decide +kernel) (by decide +kernel)⟩, fun h => absurd h (by decide)⟩
set_option maxRecDepth 100000 in
theorem tk_X6_turned : (t_X6_turned.all (rx_eok "SetHouse" prog_1_method_20_code 7 false false) && rx_adj t_X6_turned) = true := by decide +kernel
theorem s_X6_turned_65 {F : Nat × Nat} {l : Launch} {G : rx_G} {D : Nat} {hf : rx_H} {z : (Int32 × Option rx_H)} (hC : rx_CC l G D (C_X6_turned F) z) (x0 : Nat) (x2 : Int32) (x3 : Int32) (x5 : Nat) (s0 : Int32) (u : Option rx_H) (h : f_X6_turned_65 F x0 x2 x3 x5 s0 u = some z) : rx_S l G ("SetHouse", prog_1_method_20_code, 7, false, false, D) hf (z.2.getD hf) rx_hI z 65 [some (.ref x0), none, some (.int x2), some (.int x3), none, some (.ref x5), none] [.int s0] u := by
  rw [g_X6_turned_65] at h
  refine rx_S_node (md := ("SetHouse", prog_1_method_20_code, 7, false, false, D)) tk_X6_turned hC rx_m_hI (fun t ls st u h => ?_) h
  unfold kk_X6_turned_65 at h
  cases h
theorem s_X6_turned_26 {F : Nat × Nat} {l : Launch} {G : rx_G} {D : Nat} {hf : rx_H} {z : (Int32 × Option rx_H)} (hC : rx_CC l G D (C_X6_turned F) z) (x0 : Nat) (x1 : Int32) (x2 : Int32) (x3 : Int32) (s0 : Nat) (s1 : Int32) (s2 : Int32) (u : Option rx_H) (h : f_X6_turned_26 F x0 x1 x2 x3 s0 s1 s2 u = some z) : rx_S l G ("SetHouse", prog_1_method_20_code, 7, false, false, D) hf (z.2.getD hf) rx_hI z 26 [some (.ref x0), some (.int x1), some (.int x2), some (.int x3), none, none, none] [.int s2, .int s1, .ref s0] u := by
  rw [g_X6_turned_26] at h
  refine rx_S_node (md := ("SetHouse", prog_1_method_20_code, 7, false, false, D)) tk_X6_turned hC rx_m_hI (fun t ls st u h => ?_) h
  unfold kk_X6_turned_26 at h
  rcases rx_rec_eq h with ⟨hb, h⟩ | ⟨hb, h⟩
  · have ht := Nat.eq_of_beq_eq_true hb
    subst ht
    unfold n_X6_turned_65 at h
    split at h
    · exact (s_X6_turned_65 hC _ _ _ _ _ _ h).le ⟨Or.inr rfl, Or.inl rfl, Or.inr rfl, Or.inr rfl, Or.inl rfl, Or.inr rfl, Or.inl rfl, trivial⟩
    · cases h
  cases h
theorem s_X6_turned_0 {F : Nat × Nat} {l : Launch} {G : rx_G} {D : Nat} {hf : rx_H} {z : (Int32 × Option rx_H)} (hC : rx_CC l G D (C_X6_turned F) z) (x0 : Nat) (x1 : Int32) (x2 : Int32) (x3 : Int32) (u : Option rx_H) (h : f_X6_turned_0 F x0 x1 x2 x3 u = some z) : rx_S l G ("SetHouse", prog_1_method_20_code, 7, false, false, D) hf (z.2.getD hf) rx_hI z 0 [some (.ref x0), some (.int x1), some (.int x2), some (.int x3), none, none, none] [] u := by
  rw [g_X6_turned_0] at h
  refine rx_S_node (md := ("SetHouse", prog_1_method_20_code, 7, false, false, D)) tk_X6_turned hC rx_m_hI (fun t ls st u h => ?_) h
  unfold kk_X6_turned_0 at h
  rcases rx_rec_eq h with ⟨hb, h⟩ | ⟨hb, h⟩
  · have ht := Nat.eq_of_beq_eq_true hb
    subst ht
    unfold n_X6_turned_26 at h
    split at h
    · exact (s_X6_turned_26 hC _ _ _ _ _ _ _ _ h).le ⟨Or.inr rfl, Or.inr rfl, Or.inr rfl, Or.inr rfl, Or.inl rfl, Or.inl rfl, Or.inl rfl, trivial⟩
    · cases h
  cases h
theorem cc_X6_turned (F : Nat × Nat) (l : Launch) (G : rx_G) {α : Type} (z : α) : rx_CC l G (3 + 0 * F.2) (C_X6_turned F) z := by
  intro j as u κ h
  unfold C_X6_turned at h
  rcases rx_rec_eq h with ⟨hb, h⟩ | ⟨hb, h⟩
  · have ht := Nat.eq_of_beq_eq_true hb
    subst ht
    exact (w_X3_isOrder F l G h).deep (by omega)
  rcases rx_rec_eq h with ⟨hb, h⟩ | ⟨hb, h⟩
  · have ht := Nat.eq_of_beq_eq_true hb
    subst ht
    exact (w_X3_turnedBy F l G h).deep (by omega)
  rcases rx_rec_eq h with ⟨hb, h⟩ | ⟨hb, h⟩
  · have ht := Nat.eq_of_beq_eq_true hb
    subst ht
    exact (w_X6_familyRefusal F l G h).deep (by omega)
  rcases rx_rec_eq h with ⟨hb, h⟩ | ⟨hb, h⟩
  · have ht := Nat.eq_of_beq_eq_true hb
    subst ht
    exact (w_X6_isPlace F l G h).deep (by omega)
  rcases rx_rec_eq h with ⟨hb, h⟩ | ⟨hb, h⟩
  · have ht := Nat.eq_of_beq_eq_true hb
    subst ht
    exact (w_X6_keep F l G h).deep (by omega)
  cases h
theorem m_X6_turned (F : Nat × Nat) (l : Launch) (G : rx_G) (hf : rx_H) (x0 : Nat) (x1 : Int32) (x2 : Int32) (x3 : Int32) (u : Option rx_H) {z : (Int32 × Option rx_H)} (h : f_X6_turned F x0 x1 x2 x3 u = some z) : rx_Ok l G (4 + 0 * F.2) (rx_ny 132) (.code (rx_ny 132) prog_1_method_20_code 7 (some .int)) [.ref x0, .int x1, .int x2, .int x3] (u.getD hf) (some (.int z.1)) (z.2.getD hf) := by
  have h := h
  unfold f_X6_turned at h
  exact (rx_met (l := l) (G := G) (hf := hf) (as := [.ref x0, .int x1, .int x2, .int x3]) (r := (some (.int z.1))) (ls0 := [some (.ref x0), some (.int x1), some (.int x2), some (.int x3), none, none, none]) (y := rx_ny 132) (D := (3 + 0 * F.2)) (ini := false) (bo := false) (u := u) (u' := z.2) (by decide +kernel) (fun h => by cases h) (Nat.le_of_ble_eq_true rfl) (Or.inl ⟨rfl, rfl, _, rfl⟩) (fun Z hZ hB => rx_RT_hI hZ hB) (by exact ⟨Or.inr rfl, Or.inr rfl, Or.inr rfl, Or.inr rfl, Or.inl rfl, Or.inl rfl, Or.inl rfl, trivial⟩) (s_X6_turned_0 (cc_X6_turned F l G z) x0 x1 x2 x3 u h)).deep (by omega)
theorem w_X6_turned (F : Nat × Nat) (l : Launch) (G : rx_G) {α : Type} {z : α} {as : List Value} {u : Option rx_H} {κ : rx_K α} (h : c_X6_turned F as u κ = some z) : rx_Cw l G (4 + 0 * F.2) 132 as u κ z := by
  unfold c_X6_turned at h
  split at h
  · obtain ⟨r, hr, h⟩ := Option.bind_eq_some_iff.mp h
    exact ⟨_, _, _, _, h, k_X6_turned, fun h => absurd h (by decide), fun _ => ⟨_, _, rfl, rfl⟩, fun hf => m_X6_turned F l G hf _ _ _ _ _ hr⟩
  · cases h
set_option maxRecDepth 100000 in
theorem k_X6_isThing : rx_Cal (rx_ny 105) (.code (rx_ny 105) prog_1_method_51_code 2 (some .boolean)) (rx_kd 105) 1 := ⟨prog_1_method_51_code, 2, (some .boolean), Or.inl rfl, rx_in (i := 406) (by rfl) (by rfl), rx_in (i := 41) (by decide +kernel) (by decide +kernel), ⟨(by decide +kernel), (by decide +kernel), (by decide +kernel)⟩, Nat.le_of_ble_eq_true rfl, fun h => absurd h (by decide), fun _ => ⟨rx_in (i := 405) (by decide +kernel) (by decide +kernel), rx_in (i := 9) (by decide +kernel) (by decide +kernel)⟩, fun h => absurd h (by decide)⟩
set_option maxRecDepth 100000 in
theorem tk_X6_isThing : (t_X6_isThing.all (rx_eok "SetHouse" prog_1_method_51_code 2 false true) && rx_adj t_X6_isThing) = true := by decide +kernel
theorem s_X6_isThing_0 {F : Nat × Nat} {l : Launch} {G : rx_G} {D : Nat} {hf : rx_H} {z : (Int32 × Option rx_H)} (hC : rx_CC l G D (C_X6_isThing F) z) (x0 : Nat) (x1 : Int32) (u : Option rx_H) (h : f_X6_isThing_0 F x0 x1 u = some z) : rx_S l G ("SetHouse", prog_1_method_51_code, 2, false, true, D) hf (z.2.getD hf) rx_hI z 0 [some (.ref x0), some (.int x1)] [] u := by
  rw [g_X6_isThing_0] at h
  refine rx_S_node (md := ("SetHouse", prog_1_method_51_code, 2, false, true, D)) tk_X6_isThing hC rx_m_hI (fun t ls st u h => ?_) h
  unfold kk_X6_isThing_0 at h
  cases h
theorem cc_X6_isThing (F : Nat × Nat) (l : Launch) (G : rx_G) {α : Type} (z : α) : rx_CC l G (0 + 0 * F.2) (C_X6_isThing F) z := by
  intro j as u κ h
  unfold C_X6_isThing at h
  cases h
theorem m_X6_isThing (F : Nat × Nat) (l : Launch) (G : rx_G) (hf : rx_H) (x0 : Nat) (x1 : Int32) (u : Option rx_H) {z : (Int32 × Option rx_H)} (h : f_X6_isThing F x0 x1 u = some z) : rx_Ok l G (1 + 0 * F.2) (rx_ny 105) (.code (rx_ny 105) prog_1_method_51_code 2 (some .boolean)) [.ref x0, .int x1] (u.getD hf) (some (.int z.1)) (z.2.getD hf) := by
  have h := h
  unfold f_X6_isThing at h
  exact (rx_met (l := l) (G := G) (hf := hf) (as := [.ref x0, .int x1]) (r := (some (.int z.1))) (ls0 := [some (.ref x0), some (.int x1)]) (y := rx_ny 105) (D := (0 + 0 * F.2)) (ini := false) (bo := true) (u := u) (u' := z.2) (by decide +kernel) (fun h => by cases h) (Nat.le_of_ble_eq_true rfl) (Or.inr (Or.inl ⟨rfl, rfl, _, rfl⟩)) (fun Z hZ hB => rx_RT_hI hZ hB) (by exact ⟨Or.inr rfl, Or.inr rfl, trivial⟩) (s_X6_isThing_0 (cc_X6_isThing F l G z) x0 x1 u h)).deep (by omega)
theorem w_X6_isThing (F : Nat × Nat) (l : Launch) (G : rx_G) {α : Type} {z : α} {as : List Value} {u : Option rx_H} {κ : rx_K α} (h : c_X6_isThing F as u κ = some z) : rx_Cw l G (1 + 0 * F.2) 105 as u κ z := by
  unfold c_X6_isThing at h
  split at h
  · obtain ⟨r, hr, h⟩ := Option.bind_eq_some_iff.mp h
    exact ⟨_, _, _, _, h, k_X6_isThing, fun h => absurd h (by decide), fun _ => ⟨_, _, rfl, rfl⟩, fun hf => m_X6_isThing F l G hf _ _ _ hr⟩
  · cases h
set_option maxRecDepth 100000 in
theorem k_X6_push : rx_Cal (rx_ny 115) (.code (rx_ny 115) prog_1_method_21_code 9 (some .int)) (rx_kd 115) 3 := ⟨prog_1_method_21_code, 9, (some .int), Or.inl rfl, rx_in (i := 402) (by rfl) (by rfl), rx_in (i := 41) (by decide +kernel) (by decide +kernel), ⟨(by decide +kernel), (by decide +kernel), (by decide +kernel)⟩, Nat.le_of_ble_eq_true rfl, fun h => absurd h (by decide), fun _ => ⟨rx_in (i := 400) (by decide +kernel) (by decide +kernel), rx_in (i := 401) (by decide +kernel) (by decide +kernel)⟩, fun h => absurd h (by decide)⟩
set_option maxRecDepth 100000 in
theorem tk_X6_push : (t_X6_push.all (rx_eok "SetHouse" prog_1_method_21_code 9 false false) && rx_adj t_X6_push) = true := by decide +kernel
theorem s_X6_push_28 {F : Nat × Nat} {l : Launch} {G : rx_G} {D : Nat} {hf : rx_H} {z : (Int32 × Option rx_H)} (hC : rx_CC l G D (C_X6_push F) z) (x0 : Nat) (x1 : Int32) (x2 : Int32) (x3 : Int32) (s0 : Nat) (s1 : Int32) (s2 : Int32) (u : Option rx_H) (h : f_X6_push_28 F x0 x1 x2 x3 s0 s1 s2 u = some z) : rx_S l G ("SetHouse", prog_1_method_21_code, 9, false, false, D) hf (z.2.getD hf) rx_hI z 28 [some (.ref x0), some (.int x1), some (.int x2), some (.int x3), none, none, none, none, none] [.int s2, .int s1, .ref s0] u := by
  rw [g_X6_push_28] at h
  refine rx_S_node (md := ("SetHouse", prog_1_method_21_code, 9, false, false, D)) tk_X6_push hC rx_m_hI (fun t ls st u h => ?_) h
  unfold kk_X6_push_28 at h
  cases h
theorem s_X6_push_0 {F : Nat × Nat} {l : Launch} {G : rx_G} {D : Nat} {hf : rx_H} {z : (Int32 × Option rx_H)} (hC : rx_CC l G D (C_X6_push F) z) (x0 : Nat) (x1 : Int32) (x2 : Int32) (x3 : Int32) (u : Option rx_H) (h : f_X6_push_0 F x0 x1 x2 x3 u = some z) : rx_S l G ("SetHouse", prog_1_method_21_code, 9, false, false, D) hf (z.2.getD hf) rx_hI z 0 [some (.ref x0), some (.int x1), some (.int x2), some (.int x3), none, none, none, none, none] [] u := by
  rw [g_X6_push_0] at h
  refine rx_S_node (md := ("SetHouse", prog_1_method_21_code, 9, false, false, D)) tk_X6_push hC rx_m_hI (fun t ls st u h => ?_) h
  unfold kk_X6_push_0 at h
  rcases rx_rec_eq h with ⟨hb, h⟩ | ⟨hb, h⟩
  · have ht := Nat.eq_of_beq_eq_true hb
    subst ht
    unfold n_X6_push_28 at h
    split at h
    · exact (s_X6_push_28 hC _ _ _ _ _ _ _ _ h).le ⟨Or.inr rfl, Or.inr rfl, Or.inr rfl, Or.inr rfl, Or.inl rfl, Or.inl rfl, Or.inl rfl, Or.inl rfl, Or.inl rfl, trivial⟩
    · cases h
  cases h
theorem cc_X6_push (F : Nat × Nat) (l : Launch) (G : rx_G) {α : Type} (z : α) : rx_CC l G (4 + 0 * F.2) (C_X6_push F) z := by
  intro j as u κ h
  unfold C_X6_push at h
  rcases rx_rec_eq h with ⟨hb, h⟩ | ⟨hb, h⟩
  · have ht := Nat.eq_of_beq_eq_true hb
    subst ht
    exact (w_X0_moved F l G h).deep (by omega)
  rcases rx_rec_eq h with ⟨hb, h⟩ | ⟨hb, h⟩
  · have ht := Nat.eq_of_beq_eq_true hb
    subst ht
    exact (w_X0_size F l G h).deep (by omega)
  rcases rx_rec_eq h with ⟨hb, h⟩ | ⟨hb, h⟩
  · have ht := Nat.eq_of_beq_eq_true hb
    subst ht
    exact (w_X6_familyRefusal F l G h).deep (by omega)
  rcases rx_rec_eq h with ⟨hb, h⟩ | ⟨hb, h⟩
  · have ht := Nat.eq_of_beq_eq_true hb
    subst ht
    exact (w_X6_isThing F l G h).deep (by omega)
  rcases rx_rec_eq h with ⟨hb, h⟩ | ⟨hb, h⟩
  · have ht := Nat.eq_of_beq_eq_true hb
    subst ht
    exact (w_X6_keepBeside F l G h).deep (by omega)
  cases h
theorem m_X6_push (F : Nat × Nat) (l : Launch) (G : rx_G) (hf : rx_H) (x0 : Nat) (x1 : Int32) (x2 : Int32) (x3 : Int32) (u : Option rx_H) {z : (Int32 × Option rx_H)} (h : f_X6_push F x0 x1 x2 x3 u = some z) : rx_Ok l G (5 + 0 * F.2) (rx_ny 115) (.code (rx_ny 115) prog_1_method_21_code 9 (some .int)) [.ref x0, .int x1, .int x2, .int x3] (u.getD hf) (some (.int z.1)) (z.2.getD hf) := by
  have h := h
  unfold f_X6_push at h
  exact (rx_met (l := l) (G := G) (hf := hf) (as := [.ref x0, .int x1, .int x2, .int x3]) (r := (some (.int z.1))) (ls0 := [some (.ref x0), some (.int x1), some (.int x2), some (.int x3), none, none, none, none, none]) (y := rx_ny 115) (D := (4 + 0 * F.2)) (ini := false) (bo := false) (u := u) (u' := z.2) (by decide +kernel) (fun h => by cases h) (Nat.le_of_ble_eq_true rfl) (Or.inl ⟨rfl, rfl, _, rfl⟩) (fun Z hZ hB => rx_RT_hI hZ hB) (by exact ⟨Or.inr rfl, Or.inr rfl, Or.inr rfl, Or.inr rfl, Or.inl rfl, Or.inl rfl, Or.inl rfl, Or.inl rfl, Or.inl rfl, trivial⟩) (s_X6_push_0 (cc_X6_push F l G z) x0 x1 x2 x3 u h)).deep (by omega)
theorem w_X6_push (F : Nat × Nat) (l : Launch) (G : rx_G) {α : Type} {z : α} {as : List Value} {u : Option rx_H} {κ : rx_K α} (h : c_X6_push F as u κ = some z) : rx_Cw l G (5 + 0 * F.2) 115 as u κ z := by
  unfold c_X6_push at h
  split at h
  · obtain ⟨r, hr, h⟩ := Option.bind_eq_some_iff.mp h
    exact ⟨_, _, _, _, h, k_X6_push, fun h => absurd h (by decide), fun _ => ⟨_, _, rfl, rfl⟩, fun hf => m_X6_push F l G hf _ _ _ _ _ hr⟩
  · cases h
set_option maxRecDepth 100000 in
theorem k_X6_pushed : rx_Cal (rx_ny 116) (.code (rx_ny 116) prog_1_method_22_code 12 (some .int)) (rx_kd 116) 1 := ⟨prog_1_method_22_code, 12, (some .int), Or.inl rfl, rx_in (i := 413) (by rfl) (by rfl), rx_in (i := 41) (by decide +kernel) (by decide +kernel), ⟨(by decide +kernel), (by decide +kernel), (by decide +kernel)⟩, Nat.le_of_ble_eq_true rfl, fun h => absurd h (by decide), fun _ => ⟨rx_in (i := 411) (by decide +kernel) (by decide +kernel), rx_in (i := 412) (by decide +kernel) (by decide +kernel)⟩, fun h => absurd h (by decide)⟩
set_option maxRecDepth 100000 in
theorem tk_X6_pushed : (t_X6_pushed.all (rx_eok "SetHouse" prog_1_method_22_code 12 false false) && rx_adj t_X6_pushed) = true := by decide +kernel
theorem s_X6_pushed_56 {F : Nat × Nat} {l : Launch} {G : rx_G} {D : Nat} {hf : rx_H} {z : (Int32 × Option rx_H)} (hC : rx_CC l G D (C_X6_pushed F) z) {k29 : Nat → Int32 → Int64 → Int32 → Int32 → Option rx_H → Option (Int32 × Option rx_H)} (hk29 : ∀ (x0 : Nat) (x1 : Int32) (x3 : Int64) (x5 : Int32) (x6 : Int32) (u : Option rx_H), k29 x0 x1 x3 x5 x6 u = some z → rx_S l G ("SetHouse", prog_1_method_22_code, 12, false, false, D) hf (z.2.getD hf) rx_hI z 29 [some (.ref x0), some (.int x1), none, some (.long x3), none, some (.int x5), some (.int x6), none, none, none, none, none] [] u) {k44 : Nat → Int32 → Int64 → Int32 → Int32 → Int32 → Int32 → Option rx_H → Option (Int32 × Option rx_H)} (hk44 : ∀ (x0 : Nat) (x1 : Int32) (x3 : Int64) (x5 : Int32) (x6 : Int32) (x7 : Int32) (x8 : Int32) (u : Option rx_H), k44 x0 x1 x3 x5 x6 x7 x8 u = some z → rx_S l G ("SetHouse", prog_1_method_22_code, 12, false, false, D) hf (z.2.getD hf) rx_hI z 44 [some (.ref x0), some (.int x1), none, some (.long x3), none, some (.int x5), some (.int x6), some (.int x7), some (.int x8), none, none, none] [] u) : ∀ (f : Nat) (x0 : Nat) (x1 : Int32) (x3 : Int64) (x5 : Int32) (x6 : Int32) (x7 : Int32) (x8 : Int32) (x9 : Int32) (u : Option rx_H), f_X6_pushed_56 F k29 k44 f x0 x1 x3 x5 x6 x7 x8 x9 u = some z → rx_S l G ("SetHouse", prog_1_method_22_code, 12, false, false, D) hf (z.2.getD hf) rx_hI z 56 [some (.ref x0), some (.int x1), none, some (.long x3), none, some (.int x5), some (.int x6), some (.int x7), some (.int x8), some (.int x9), none, none] [] u := by
  intro f
  induction f with
  | zero =>
    intro x0 x1 x3 x5 x6 x7 x8 x9 u h
    cases h
  | succ f ih =>
    intro x0 x1 x3 x5 x6 x7 x8 x9 u h
    rw [g_X6_pushed_56] at h
    refine rx_S_node (md := ("SetHouse", prog_1_method_22_code, 12, false, false, D)) tk_X6_pushed hC rx_m_hI (fun t ls st u h => ?_) h
    unfold kk_X6_pushed_56 at h
    rcases rx_rec_eq h with ⟨hb, h⟩ | ⟨hb, h⟩
    · have ht := Nat.eq_of_beq_eq_true hb
      subst ht
      unfold n_X6_pushed_44 at h
      split at h
      · exact (hk44 _ _ _ _ _ _ _ _ h).le ⟨Or.inr rfl, Or.inr rfl, Or.inl rfl, Or.inr rfl, Or.inl rfl, Or.inr rfl, Or.inr rfl, Or.inr rfl, Or.inr rfl, Or.inl rfl, Or.inl rfl, Or.inl rfl, trivial⟩
      · cases h
    rcases rx_rec_eq h with ⟨hb, h⟩ | ⟨hb, h⟩
    · have ht := Nat.eq_of_beq_eq_true hb
      subst ht
      unfold n_X6_pushed_56 at h
      split at h
      · exact (ih _ _ _ _ _ _ _ _ _ h).le ⟨Or.inr rfl, Or.inr rfl, Or.inl rfl, Or.inr rfl, Or.inl rfl, Or.inr rfl, Or.inr rfl, Or.inr rfl, Or.inr rfl, Or.inr rfl, Or.inl rfl, Or.inl rfl, trivial⟩
      · cases h
    cases h
theorem s_X6_pushed_121 {F : Nat × Nat} {l : Launch} {G : rx_G} {D : Nat} {hf : rx_H} {z : (Int32 × Option rx_H)} (hC : rx_CC l G D (C_X6_pushed F) z) (x0 : Nat) (x1 : Int32) (x3 : Int64) (x5 : Int32) (u : Option rx_H) (h : f_X6_pushed_121 F x0 x1 x3 x5 u = some z) : rx_S l G ("SetHouse", prog_1_method_22_code, 12, false, false, D) hf (z.2.getD hf) rx_hI z 121 [some (.ref x0), some (.int x1), none, some (.long x3), none, some (.int x5), none, none, none, none, none, none] [] u := by
  rw [g_X6_pushed_121] at h
  refine rx_S_node (md := ("SetHouse", prog_1_method_22_code, 12, false, false, D)) tk_X6_pushed hC rx_m_hI (fun t ls st u h => ?_) h
  unfold kk_X6_pushed_121 at h
  cases h
theorem s_X6_pushed_44 {F : Nat × Nat} {l : Launch} {G : rx_G} {D : Nat} {hf : rx_H} {z : (Int32 × Option rx_H)} (hC : rx_CC l G D (C_X6_pushed F) z) {k29 : Nat → Int32 → Int64 → Int32 → Int32 → Option rx_H → Option (Int32 × Option rx_H)} (hk29 : ∀ (x0 : Nat) (x1 : Int32) (x3 : Int64) (x5 : Int32) (x6 : Int32) (u : Option rx_H), k29 x0 x1 x3 x5 x6 u = some z → rx_S l G ("SetHouse", prog_1_method_22_code, 12, false, false, D) hf (z.2.getD hf) rx_hI z 29 [some (.ref x0), some (.int x1), none, some (.long x3), none, some (.int x5), some (.int x6), none, none, none, none, none] [] u) : ∀ (f : Nat) (x0 : Nat) (x1 : Int32) (x3 : Int64) (x5 : Int32) (x6 : Int32) (x7 : Int32) (x8 : Int32) (u : Option rx_H), f_X6_pushed_44 F k29 f x0 x1 x3 x5 x6 x7 x8 u = some z → rx_S l G ("SetHouse", prog_1_method_22_code, 12, false, false, D) hf (z.2.getD hf) rx_hI z 44 [some (.ref x0), some (.int x1), none, some (.long x3), none, some (.int x5), some (.int x6), some (.int x7), some (.int x8), none, none, none] [] u := by
  intro f
  induction f with
  | zero =>
    intro x0 x1 x3 x5 x6 x7 x8 u h
    cases h
  | succ f ih =>
    intro x0 x1 x3 x5 x6 x7 x8 u h
    rw [g_X6_pushed_44] at h
    refine rx_S_node (md := ("SetHouse", prog_1_method_22_code, 12, false, false, D)) tk_X6_pushed hC rx_m_hI (fun t ls st u h => ?_) h
    unfold kk_X6_pushed_44 at h
    rcases rx_rec_eq h with ⟨hb, h⟩ | ⟨hb, h⟩
    · have ht := Nat.eq_of_beq_eq_true hb
      subst ht
      unfold n_X6_pushed_29 at h
      split at h
      · exact (hk29 _ _ _ _ _ _ h).le ⟨Or.inr rfl, Or.inr rfl, Or.inl rfl, Or.inr rfl, Or.inl rfl, Or.inr rfl, Or.inr rfl, Or.inl rfl, Or.inl rfl, Or.inl rfl, Or.inl rfl, Or.inl rfl, trivial⟩
      · cases h
    rcases rx_rec_eq h with ⟨hb, h⟩ | ⟨hb, h⟩
    · have ht := Nat.eq_of_beq_eq_true hb
      subst ht
      unfold n_X6_pushed_56 at h
      split at h
      · exact (s_X6_pushed_56 hC hk29 ih _ _ _ _ _ _ _ _ _ _ h).le ⟨Or.inr rfl, Or.inr rfl, Or.inl rfl, Or.inr rfl, Or.inl rfl, Or.inr rfl, Or.inr rfl, Or.inr rfl, Or.inr rfl, Or.inr rfl, Or.inl rfl, Or.inl rfl, trivial⟩
      · cases h
    rcases rx_rec_eq h with ⟨hb, h⟩ | ⟨hb, h⟩
    · have ht := Nat.eq_of_beq_eq_true hb
      subst ht
      unfold n_X6_pushed_121 at h
      split at h
      · exact (s_X6_pushed_121 hC _ _ _ _ _ h).le ⟨Or.inr rfl, Or.inr rfl, Or.inl rfl, Or.inr rfl, Or.inl rfl, Or.inr rfl, Or.inl rfl, Or.inl rfl, Or.inl rfl, Or.inl rfl, Or.inl rfl, Or.inl rfl, trivial⟩
      · cases h
    cases h
theorem s_X6_pushed_29 {F : Nat × Nat} {l : Launch} {G : rx_G} {D : Nat} {hf : rx_H} {z : (Int32 × Option rx_H)} (hC : rx_CC l G D (C_X6_pushed F) z) : ∀ (f : Nat) (x0 : Nat) (x1 : Int32) (x3 : Int64) (x5 : Int32) (x6 : Int32) (u : Option rx_H), f_X6_pushed_29 F f x0 x1 x3 x5 x6 u = some z → rx_S l G ("SetHouse", prog_1_method_22_code, 12, false, false, D) hf (z.2.getD hf) rx_hI z 29 [some (.ref x0), some (.int x1), none, some (.long x3), none, some (.int x5), some (.int x6), none, none, none, none, none] [] u := by
  intro f
  induction f with
  | zero =>
    intro x0 x1 x3 x5 x6 u h
    cases h
  | succ f ih =>
    intro x0 x1 x3 x5 x6 u h
    rw [g_X6_pushed_29] at h
    refine rx_S_node (md := ("SetHouse", prog_1_method_22_code, 12, false, false, D)) tk_X6_pushed hC rx_m_hI (fun t ls st u h => ?_) h
    unfold kk_X6_pushed_29 at h
    rcases rx_rec_eq h with ⟨hb, h⟩ | ⟨hb, h⟩
    · have ht := Nat.eq_of_beq_eq_true hb
      subst ht
      unfold n_X6_pushed_44 at h
      split at h
      · exact (s_X6_pushed_44 hC ih _ _ _ _ _ _ _ _ _ h).le ⟨Or.inr rfl, Or.inr rfl, Or.inl rfl, Or.inr rfl, Or.inl rfl, Or.inr rfl, Or.inr rfl, Or.inr rfl, Or.inr rfl, Or.inl rfl, Or.inl rfl, Or.inl rfl, trivial⟩
      · cases h
    rcases rx_rec_eq h with ⟨hb, h⟩ | ⟨hb, h⟩
    · have ht := Nat.eq_of_beq_eq_true hb
      subst ht
      unfold n_X6_pushed_121 at h
      split at h
      · exact (s_X6_pushed_121 hC _ _ _ _ _ h).le ⟨Or.inr rfl, Or.inr rfl, Or.inl rfl, Or.inr rfl, Or.inl rfl, Or.inr rfl, Or.inl rfl, Or.inl rfl, Or.inl rfl, Or.inl rfl, Or.inl rfl, Or.inl rfl, trivial⟩
      · cases h
    cases h
theorem s_X6_pushed_0 {F : Nat × Nat} {l : Launch} {G : rx_G} {D : Nat} {hf : rx_H} {z : (Int32 × Option rx_H)} (hC : rx_CC l G D (C_X6_pushed F) z) (x0 : Nat) (x1 : Int32) (u : Option rx_H) (h : f_X6_pushed_0 F x0 x1 u = some z) : rx_S l G ("SetHouse", prog_1_method_22_code, 12, false, false, D) hf (z.2.getD hf) rx_hI z 0 [some (.ref x0), some (.int x1), none, none, none, none, none, none, none, none, none, none] [] u := by
  rw [g_X6_pushed_0] at h
  refine rx_S_node (md := ("SetHouse", prog_1_method_22_code, 12, false, false, D)) tk_X6_pushed hC rx_m_hI (fun t ls st u h => ?_) h
  unfold kk_X6_pushed_0 at h
  rcases rx_rec_eq h with ⟨hb, h⟩ | ⟨hb, h⟩
  · have ht := Nat.eq_of_beq_eq_true hb
    subst ht
    unfold n_X6_pushed_29 at h
    split at h
    · exact (s_X6_pushed_29 hC _ _ _ _ _ _ _ h).le ⟨Or.inr rfl, Or.inr rfl, Or.inl rfl, Or.inr rfl, Or.inl rfl, Or.inr rfl, Or.inr rfl, Or.inl rfl, Or.inl rfl, Or.inl rfl, Or.inl rfl, Or.inl rfl, trivial⟩
    · cases h
  cases h
theorem cc_X6_pushed (F : Nat × Nat) (l : Launch) (G : rx_G) {α : Type} (z : α) : rx_CC l G (4 + 0 * F.2) (C_X6_pushed F) z := by
  intro j as u κ h
  unfold C_X6_pushed at h
  rcases rx_rec_eq h with ⟨hb, h⟩ | ⟨hb, h⟩
  · have ht := Nat.eq_of_beq_eq_true hb
    subst ht
    exact (w_X0_moved F l G h).deep (by omega)
  rcases rx_rec_eq h with ⟨hb, h⟩ | ⟨hb, h⟩
  · have ht := Nat.eq_of_beq_eq_true hb
    subst ht
    exact (w_X6_familyRefusal F l G h).deep (by omega)
  rcases rx_rec_eq h with ⟨hb, h⟩ | ⟨hb, h⟩
  · have ht := Nat.eq_of_beq_eq_true hb
    subst ht
    exact (w_X6_keepBeside F l G h).deep (by omega)
  cases h
theorem m_X6_pushed (F : Nat × Nat) (l : Launch) (G : rx_G) (hf : rx_H) (x0 : Nat) (x1 : Int32) (u : Option rx_H) {z : (Int32 × Option rx_H)} (h : f_X6_pushed F x0 x1 u = some z) : rx_Ok l G (5 + 0 * F.2) (rx_ny 116) (.code (rx_ny 116) prog_1_method_22_code 12 (some .int)) [.ref x0, .int x1] (u.getD hf) (some (.int z.1)) (z.2.getD hf) := by
  have h := h
  unfold f_X6_pushed at h
  exact (rx_met (l := l) (G := G) (hf := hf) (as := [.ref x0, .int x1]) (r := (some (.int z.1))) (ls0 := [some (.ref x0), some (.int x1), none, none, none, none, none, none, none, none, none, none]) (y := rx_ny 116) (D := (4 + 0 * F.2)) (ini := false) (bo := false) (u := u) (u' := z.2) (by decide +kernel) (fun h => by cases h) (Nat.le_of_ble_eq_true rfl) (Or.inl ⟨rfl, rfl, _, rfl⟩) (fun Z hZ hB => rx_RT_hI hZ hB) (by exact ⟨Or.inr rfl, Or.inr rfl, Or.inl rfl, Or.inl rfl, Or.inl rfl, Or.inl rfl, Or.inl rfl, Or.inl rfl, Or.inl rfl, Or.inl rfl, Or.inl rfl, Or.inl rfl, trivial⟩) (s_X6_pushed_0 (cc_X6_pushed F l G z) x0 x1 u h)).deep (by omega)
theorem w_X6_pushed (F : Nat × Nat) (l : Launch) (G : rx_G) {α : Type} {z : α} {as : List Value} {u : Option rx_H} {κ : rx_K α} (h : c_X6_pushed F as u κ = some z) : rx_Cw l G (5 + 0 * F.2) 116 as u κ z := by
  unfold c_X6_pushed at h
  split at h
  · obtain ⟨r, hr, h⟩ := Option.bind_eq_some_iff.mp h
    exact ⟨_, _, _, _, h, k_X6_pushed, fun h => absurd h (by decide), fun _ => ⟨_, _, rfl, rfl⟩, fun hf => m_X6_pushed F l G hf _ _ _ hr⟩
  · cases h
set_option maxRecDepth 100000 in
theorem k_X6_first : rx_Cal (rx_ny 93) (.code (rx_ny 93) prog_1_method_23_code 5 (some .int)) (rx_kd 93) 3 := ⟨prog_1_method_23_code, 5, (some .int), Or.inl rfl, rx_in (i := 417) (by rfl) (by rfl), rx_in (i := 41) (by decide +kernel) (by decide +kernel), ⟨(by decide +kernel), (by decide +kernel), (by decide +kernel)⟩, Nat.le_of_ble_eq_true rfl, fun h => absurd h (by decide), fun _ => ⟨rx_in (i := 415) (by decide +kernel) (by decide +kernel), rx_in (i := 416) (by decide +kernel) (by decide +kernel)⟩, fun h => absurd h (by decide)⟩
set_option maxRecDepth 100000 in
theorem tk_X6_first : (t_X6_first.all (rx_eok "SetHouse" prog_1_method_23_code 5 false false) && rx_adj t_X6_first) = true := by decide +kernel
theorem s_X6_first_57 {F : Nat × Nat} {l : Launch} {G : rx_G} {D : Nat} {hf : rx_H} {z : (Int32 × Option rx_H)} (hC : rx_CC l G D (C_X6_first F) z) (x0 : Nat) (x1 : Int32) (x3 : Int32) (s0 : Int32) (u : Option rx_H) (h : f_X6_first_57 F x0 x1 x3 s0 u = some z) : rx_S l G ("SetHouse", prog_1_method_23_code, 5, false, false, D) hf (z.2.getD hf) rx_hI z 57 [some (.ref x0), some (.int x1), none, some (.int x3), none] [.int s0] u := by
  rw [g_X6_first_57] at h
  refine rx_S_node (md := ("SetHouse", prog_1_method_23_code, 5, false, false, D)) tk_X6_first hC rx_m_hI (fun t ls st u h => ?_) h
  unfold kk_X6_first_57 at h
  cases h
theorem s_X6_first_0 {F : Nat × Nat} {l : Launch} {G : rx_G} {D : Nat} {hf : rx_H} {z : (Int32 × Option rx_H)} (hC : rx_CC l G D (C_X6_first F) z) (x0 : Nat) (x1 : Int32) (x2 : Int32) (x3 : Int32) (u : Option rx_H) (h : f_X6_first_0 F x0 x1 x2 x3 u = some z) : rx_S l G ("SetHouse", prog_1_method_23_code, 5, false, false, D) hf (z.2.getD hf) rx_hI z 0 [some (.ref x0), some (.int x1), some (.int x2), some (.int x3), none] [] u := by
  rw [g_X6_first_0] at h
  refine rx_S_node (md := ("SetHouse", prog_1_method_23_code, 5, false, false, D)) tk_X6_first hC rx_m_hI (fun t ls st u h => ?_) h
  unfold kk_X6_first_0 at h
  rcases rx_rec_eq h with ⟨hb, h⟩ | ⟨hb, h⟩
  · have ht := Nat.eq_of_beq_eq_true hb
    subst ht
    unfold n_X6_first_57 at h
    split at h
    · exact (s_X6_first_57 hC _ _ _ _ _ h).le ⟨Or.inr rfl, Or.inr rfl, Or.inl rfl, Or.inr rfl, Or.inl rfl, trivial⟩
    · cases h
  cases h
theorem cc_X6_first (F : Nat × Nat) (l : Launch) (G : rx_G) {α : Type} (z : α) : rx_CC l G (3 + 0 * F.2) (C_X6_first F) z := by
  intro j as u κ h
  unfold C_X6_first at h
  rcases rx_rec_eq h with ⟨hb, h⟩ | ⟨hb, h⟩
  · have ht := Nat.eq_of_beq_eq_true hb
    subst ht
    exact (w_X0_below F l G h).deep (by omega)
  rcases rx_rec_eq h with ⟨hb, h⟩ | ⟨hb, h⟩
  · have ht := Nat.eq_of_beq_eq_true hb
    subst ht
    exact (w_X0_setAt F l G h).deep (by omega)
  rcases rx_rec_eq h with ⟨hb, h⟩ | ⟨hb, h⟩
  · have ht := Nat.eq_of_beq_eq_true hb
    subst ht
    exact (w_X0_size F l G h).deep (by omega)
  rcases rx_rec_eq h with ⟨hb, h⟩ | ⟨hb, h⟩
  · have ht := Nat.eq_of_beq_eq_true hb
    subst ht
    exact (w_X6_isPlace F l G h).deep (by omega)
  rcases rx_rec_eq h with ⟨hb, h⟩ | ⟨hb, h⟩
  · have ht := Nat.eq_of_beq_eq_true hb
    subst ht
    exact (w_X6_isSize F l G h).deep (by omega)
  rcases rx_rec_eq h with ⟨hb, h⟩ | ⟨hb, h⟩
  · have ht := Nat.eq_of_beq_eq_true hb
    subst ht
    exact (w_X6_keep F l G h).deep (by omega)
  cases h
theorem m_X6_first (F : Nat × Nat) (l : Launch) (G : rx_G) (hf : rx_H) (x0 : Nat) (x1 : Int32) (x2 : Int32) (x3 : Int32) (u : Option rx_H) {z : (Int32 × Option rx_H)} (h : f_X6_first F x0 x1 x2 x3 u = some z) : rx_Ok l G (4 + 0 * F.2) (rx_ny 93) (.code (rx_ny 93) prog_1_method_23_code 5 (some .int)) [.ref x0, .int x1, .int x2, .int x3] (u.getD hf) (some (.int z.1)) (z.2.getD hf) := by
  have h := h
  unfold f_X6_first at h
  exact (rx_met (l := l) (G := G) (hf := hf) (as := [.ref x0, .int x1, .int x2, .int x3]) (r := (some (.int z.1))) (ls0 := [some (.ref x0), some (.int x1), some (.int x2), some (.int x3), none]) (y := rx_ny 93) (D := (3 + 0 * F.2)) (ini := false) (bo := false) (u := u) (u' := z.2) (by decide +kernel) (fun h => by cases h) (Nat.le_of_ble_eq_true rfl) (Or.inl ⟨rfl, rfl, _, rfl⟩) (fun Z hZ hB => rx_RT_hI hZ hB) (by exact ⟨Or.inr rfl, Or.inr rfl, Or.inr rfl, Or.inr rfl, Or.inl rfl, trivial⟩) (s_X6_first_0 (cc_X6_first F l G z) x0 x1 x2 x3 u h)).deep (by omega)
theorem w_X6_first (F : Nat × Nat) (l : Launch) (G : rx_G) {α : Type} {z : α} {as : List Value} {u : Option rx_H} {κ : rx_K α} (h : c_X6_first F as u κ = some z) : rx_Cw l G (4 + 0 * F.2) 93 as u κ z := by
  unfold c_X6_first at h
  split at h
  · obtain ⟨r, hr, h⟩ := Option.bind_eq_some_iff.mp h
    exact ⟨_, _, _, _, h, k_X6_first, fun h => absurd h (by decide), fun _ => ⟨_, _, rfl, rfl⟩, fun hf => m_X6_first F l G hf _ _ _ _ _ hr⟩
  · cases h
set_option maxRecDepth 100000 in
theorem k_X6_sum : rx_Cal (rx_ny 128) (.code (rx_ny 128) prog_1_method_24_code 5 (some .int)) (rx_kd 128) 1 := ⟨prog_1_method_24_code, 5, (some .int), Or.inl rfl, rx_in (i := 422) (by rfl) (by rfl), rx_in (i := 41) (by decide +kernel) (by decide +kernel), ⟨(by decide +kernel), (by decide +kernel), (by decide +kernel)⟩, Nat.le_of_ble_eq_true rfl, fun h => absurd h (by decide), fun _ => ⟨rx_in (i := 420) (by decide +kernel) (by decide +kernel), rx_in (i := 421) (by decide +kernel) (by decide +kernel)⟩, fun h => absurd h (by decide)⟩
set_option maxRecDepth 100000 in
theorem tk_X6_sum : (t_X6_sum.all (rx_eok "SetHouse" prog_1_method_24_code 5 false false) && rx_adj t_X6_sum) = true := by decide +kernel
theorem s_X6_sum_18 {F : Nat × Nat} {l : Launch} {G : rx_G} {D : Nat} {hf : rx_H} {z : (Int32 × Option rx_H)} (hC : rx_CC l G D (C_X6_sum F) z) : ∀ (f : Nat) (x0 : Nat) (x1 : Int32) (x3 : Int32) (x4 : Int32) (u : Option rx_H), f_X6_sum_18 F f x0 x1 x3 x4 u = some z → rx_S l G ("SetHouse", prog_1_method_24_code, 5, false, false, D) hf (z.2.getD hf) rx_hI z 18 [some (.ref x0), some (.int x1), none, some (.int x3), some (.int x4)] [] u := by
  intro f
  induction f with
  | zero =>
    intro x0 x1 x3 x4 u h
    cases h
  | succ f ih =>
    intro x0 x1 x3 x4 u h
    rw [g_X6_sum_18] at h
    refine rx_S_node (md := ("SetHouse", prog_1_method_24_code, 5, false, false, D)) tk_X6_sum hC rx_m_hI (fun t ls st u h => ?_) h
    unfold kk_X6_sum_18 at h
    rcases rx_rec_eq h with ⟨hb, h⟩ | ⟨hb, h⟩
    · have ht := Nat.eq_of_beq_eq_true hb
      subst ht
      unfold n_X6_sum_18 at h
      split at h
      · exact (ih _ _ _ _ _ h).le ⟨Or.inr rfl, Or.inr rfl, Or.inl rfl, Or.inr rfl, Or.inr rfl, trivial⟩
      · cases h
    cases h
theorem s_X6_sum_0 {F : Nat × Nat} {l : Launch} {G : rx_G} {D : Nat} {hf : rx_H} {z : (Int32 × Option rx_H)} (hC : rx_CC l G D (C_X6_sum F) z) (x0 : Nat) (x1 : Int32) (u : Option rx_H) (h : f_X6_sum_0 F x0 x1 u = some z) : rx_S l G ("SetHouse", prog_1_method_24_code, 5, false, false, D) hf (z.2.getD hf) rx_hI z 0 [some (.ref x0), some (.int x1), none, none, none] [] u := by
  rw [g_X6_sum_0] at h
  refine rx_S_node (md := ("SetHouse", prog_1_method_24_code, 5, false, false, D)) tk_X6_sum hC rx_m_hI (fun t ls st u h => ?_) h
  unfold kk_X6_sum_0 at h
  rcases rx_rec_eq h with ⟨hb, h⟩ | ⟨hb, h⟩
  · have ht := Nat.eq_of_beq_eq_true hb
    subst ht
    unfold n_X6_sum_18 at h
    split at h
    · exact (s_X6_sum_18 hC _ _ _ _ _ _ h).le ⟨Or.inr rfl, Or.inr rfl, Or.inl rfl, Or.inr rfl, Or.inr rfl, trivial⟩
    · cases h
  cases h
theorem cc_X6_sum (F : Nat × Nat) (l : Launch) (G : rx_G) {α : Type} (z : α) : rx_CC l G (2 + 0 * F.2) (C_X6_sum F) z := by
  intro j as u κ h
  unfold C_X6_sum at h
  rcases rx_rec_eq h with ⟨hb, h⟩ | ⟨hb, h⟩
  · have ht := Nat.eq_of_beq_eq_true hb
    subst ht
    exact (w_X0_size F l G h).deep (by omega)
  rcases rx_rec_eq h with ⟨hb, h⟩ | ⟨hb, h⟩
  · have ht := Nat.eq_of_beq_eq_true hb
    subst ht
    exact (w_X2_factorial F l G h).deep (by omega)
  rcases rx_rec_eq h with ⟨hb, h⟩ | ⟨hb, h⟩
  · have ht := Nat.eq_of_beq_eq_true hb
    subst ht
    exact (w_X6_familyRefusal F l G h).deep (by omega)
  cases h
theorem m_X6_sum (F : Nat × Nat) (l : Launch) (G : rx_G) (hf : rx_H) (x0 : Nat) (x1 : Int32) (u : Option rx_H) {z : (Int32 × Option rx_H)} (h : f_X6_sum F x0 x1 u = some z) : rx_Ok l G (3 + 0 * F.2) (rx_ny 128) (.code (rx_ny 128) prog_1_method_24_code 5 (some .int)) [.ref x0, .int x1] (u.getD hf) (some (.int z.1)) (z.2.getD hf) := by
  have h := h
  unfold f_X6_sum at h
  exact (rx_met (l := l) (G := G) (hf := hf) (as := [.ref x0, .int x1]) (r := (some (.int z.1))) (ls0 := [some (.ref x0), some (.int x1), none, none, none]) (y := rx_ny 128) (D := (2 + 0 * F.2)) (ini := false) (bo := false) (u := u) (u' := z.2) (by decide +kernel) (fun h => by cases h) (Nat.le_of_ble_eq_true rfl) (Or.inl ⟨rfl, rfl, _, rfl⟩) (fun Z hZ hB => rx_RT_hI hZ hB) (by exact ⟨Or.inr rfl, Or.inr rfl, Or.inl rfl, Or.inl rfl, Or.inl rfl, trivial⟩) (s_X6_sum_0 (cc_X6_sum F l G z) x0 x1 u h)).deep (by omega)
theorem w_X6_sum (F : Nat × Nat) (l : Launch) (G : rx_G) {α : Type} {z : α} {as : List Value} {u : Option rx_H} {κ : rx_K α} (h : c_X6_sum F as u κ = some z) : rx_Cw l G (3 + 0 * F.2) 128 as u κ z := by
  unfold c_X6_sum at h
  split at h
  · obtain ⟨r, hr, h⟩ := Option.bind_eq_some_iff.mp h
    exact ⟨_, _, _, _, h, k_X6_sum, fun h => absurd h (by decide), fun _ => ⟨_, _, rfl, rfl⟩, fun hf => m_X6_sum F l G hf _ _ _ hr⟩
  · cases h
set_option maxRecDepth 100000 in
theorem k_X6_rank : rx_Cal (rx_ny 118) (.code (rx_ny 118) prog_1_method_25_code 2 (some .int)) (rx_kd 118) 1 := ⟨prog_1_method_25_code, 2, (some .int), Or.inl rfl, rx_in (i := 431) (by rfl) (by rfl), rx_in (i := 41) (by decide +kernel) (by decide +kernel), ⟨(by decide +kernel), (by decide +kernel), (by decide +kernel)⟩, Nat.le_of_ble_eq_true rfl, fun h => absurd h (by decide), fun _ => ⟨rx_in (i := 429) (by decide +kernel) (by decide +kernel), rx_in (i := 430) (by decide +kernel) (by decide +kernel)⟩, fun h => absurd h (by decide)⟩
set_option maxRecDepth 100000 in
theorem tk_X6_rank : (t_X6_rank.all (rx_eok "SetHouse" prog_1_method_25_code 2 false false) && rx_adj t_X6_rank) = true := by decide +kernel
theorem s_X6_rank_0 {F : Nat × Nat} {l : Launch} {G : rx_G} {D : Nat} {hf : rx_H} {z : (Int32 × Option rx_H)} (hC : rx_CC l G D (C_X6_rank F) z) (x0 : Nat) (x1 : Int32) (u : Option rx_H) (h : f_X6_rank_0 F x0 x1 u = some z) : rx_S l G ("SetHouse", prog_1_method_25_code, 2, false, false, D) hf (z.2.getD hf) rx_hI z 0 [some (.ref x0), some (.int x1)] [] u := by
  rw [g_X6_rank_0] at h
  refine rx_S_node (md := ("SetHouse", prog_1_method_25_code, 2, false, false, D)) tk_X6_rank hC rx_m_hI (fun t ls st u h => ?_) h
  unfold kk_X6_rank_0 at h
  cases h
theorem cc_X6_rank (F : Nat × Nat) (l : Launch) (G : rx_G) {α : Type} (z : α) : rx_CC l G (2 + 0 * F.2) (C_X6_rank F) z := by
  intro j as u κ h
  unfold C_X6_rank at h
  rcases rx_rec_eq h with ⟨hb, h⟩ | ⟨hb, h⟩
  · have ht := Nat.eq_of_beq_eq_true hb
    subst ht
    exact (w_J6_bitCount_0f7a4 F l G h).deep (by omega)
  rcases rx_rec_eq h with ⟨hb, h⟩ | ⟨hb, h⟩
  · have ht := Nat.eq_of_beq_eq_true hb
    subst ht
    exact (w_X0_below F l G h).deep (by omega)
  rcases rx_rec_eq h with ⟨hb, h⟩ | ⟨hb, h⟩
  · have ht := Nat.eq_of_beq_eq_true hb
    subst ht
    exact (w_X0_size F l G h).deep (by omega)
  rcases rx_rec_eq h with ⟨hb, h⟩ | ⟨hb, h⟩
  · have ht := Nat.eq_of_beq_eq_true hb
    subst ht
    exact (w_X6_isSet F l G h).deep (by omega)
  cases h
theorem m_X6_rank (F : Nat × Nat) (l : Launch) (G : rx_G) (hf : rx_H) (x0 : Nat) (x1 : Int32) (u : Option rx_H) {z : (Int32 × Option rx_H)} (h : f_X6_rank F x0 x1 u = some z) : rx_Ok l G (3 + 0 * F.2) (rx_ny 118) (.code (rx_ny 118) prog_1_method_25_code 2 (some .int)) [.ref x0, .int x1] (u.getD hf) (some (.int z.1)) (z.2.getD hf) := by
  have h := h
  unfold f_X6_rank at h
  exact (rx_met (l := l) (G := G) (hf := hf) (as := [.ref x0, .int x1]) (r := (some (.int z.1))) (ls0 := [some (.ref x0), some (.int x1)]) (y := rx_ny 118) (D := (2 + 0 * F.2)) (ini := false) (bo := false) (u := u) (u' := z.2) (by decide +kernel) (fun h => by cases h) (Nat.le_of_ble_eq_true rfl) (Or.inl ⟨rfl, rfl, _, rfl⟩) (fun Z hZ hB => rx_RT_hI hZ hB) (by exact ⟨Or.inr rfl, Or.inr rfl, trivial⟩) (s_X6_rank_0 (cc_X6_rank F l G z) x0 x1 u h)).deep (by omega)
theorem w_X6_rank (F : Nat × Nat) (l : Launch) (G : rx_G) {α : Type} {z : α} {as : List Value} {u : Option rx_H} {κ : rx_K α} (h : c_X6_rank F as u κ = some z) : rx_Cw l G (3 + 0 * F.2) 118 as u κ z := by
  unfold c_X6_rank at h
  split at h
  · obtain ⟨r, hr, h⟩ := Option.bind_eq_some_iff.mp h
    exact ⟨_, _, _, _, h, k_X6_rank, fun h => absurd h (by decide), fun _ => ⟨_, _, rfl, rfl⟩, fun hf => m_X6_rank F l G hf _ _ _ hr⟩
  · cases h
set_option maxRecDepth 100000 in
theorem k_X6_ranked : rx_Cal (rx_ny 119) (.code (rx_ny 119) prog_1_method_26_code 3 (some .int)) (rx_kd 119) 2 := ⟨prog_1_method_26_code, 3, (some .int), Or.inl rfl, rx_in (i := 435) (by rfl) (by rfl), rx_in (i := 41) (by decide +kernel) (by decide +kernel), ⟨(by decide +kernel), (by decide +kernel), (by decide +kernel)⟩, Nat.le_of_ble_eq_true rfl, fun h => absurd h (by decide), fun _ => ⟨rx_in (i := 433) (by decide +kernel) (by decide +kernel), rx_in (i := 434) (by decide +kernel) (by decide +kernel)⟩, fun h => absurd h (by decide)⟩
set_option maxRecDepth 100000 in
theorem tk_X6_ranked : (t_X6_ranked.all (rx_eok "SetHouse" prog_1_method_26_code 3 false false) && rx_adj t_X6_ranked) = true := by decide +kernel
theorem s_X6_ranked_0 {F : Nat × Nat} {l : Launch} {G : rx_G} {D : Nat} {hf : rx_H} {z : (Int32 × Option rx_H)} (hC : rx_CC l G D (C_X6_ranked F) z) (x0 : Nat) (x1 : Int32) (x2 : Int32) (u : Option rx_H) (h : f_X6_ranked_0 F x0 x1 x2 u = some z) : rx_S l G ("SetHouse", prog_1_method_26_code, 3, false, false, D) hf (z.2.getD hf) rx_hI z 0 [some (.ref x0), some (.int x1), some (.int x2)] [] u := by
  rw [g_X6_ranked_0] at h
  refine rx_S_node (md := ("SetHouse", prog_1_method_26_code, 3, false, false, D)) tk_X6_ranked hC rx_m_hI (fun t ls st u h => ?_) h
  unfold kk_X6_ranked_0 at h
  cases h
theorem cc_X6_ranked (F : Nat × Nat) (l : Launch) (G : rx_G) {α : Type} (z : α) : rx_CC l G (3 + 0 * F.2) (C_X6_ranked F) z := by
  intro j as u κ h
  unfold C_X6_ranked at h
  rcases rx_rec_eq h with ⟨hb, h⟩ | ⟨hb, h⟩
  · have ht := Nat.eq_of_beq_eq_true hb
    subst ht
    exact (w_X0_setAt F l G h).deep (by omega)
  rcases rx_rec_eq h with ⟨hb, h⟩ | ⟨hb, h⟩
  · have ht := Nat.eq_of_beq_eq_true hb
    subst ht
    exact (w_X6_isSize F l G h).deep (by omega)
  cases h
theorem m_X6_ranked (F : Nat × Nat) (l : Launch) (G : rx_G) (hf : rx_H) (x0 : Nat) (x1 : Int32) (x2 : Int32) (u : Option rx_H) {z : (Int32 × Option rx_H)} (h : f_X6_ranked F x0 x1 x2 u = some z) : rx_Ok l G (4 + 0 * F.2) (rx_ny 119) (.code (rx_ny 119) prog_1_method_26_code 3 (some .int)) [.ref x0, .int x1, .int x2] (u.getD hf) (some (.int z.1)) (z.2.getD hf) := by
  have h := h
  unfold f_X6_ranked at h
  exact (rx_met (l := l) (G := G) (hf := hf) (as := [.ref x0, .int x1, .int x2]) (r := (some (.int z.1))) (ls0 := [some (.ref x0), some (.int x1), some (.int x2)]) (y := rx_ny 119) (D := (3 + 0 * F.2)) (ini := false) (bo := false) (u := u) (u' := z.2) (by decide +kernel) (fun h => by cases h) (Nat.le_of_ble_eq_true rfl) (Or.inl ⟨rfl, rfl, _, rfl⟩) (fun Z hZ hB => rx_RT_hI hZ hB) (by exact ⟨Or.inr rfl, Or.inr rfl, Or.inr rfl, trivial⟩) (s_X6_ranked_0 (cc_X6_ranked F l G z) x0 x1 x2 u h)).deep (by omega)
theorem w_X6_ranked (F : Nat × Nat) (l : Launch) (G : rx_G) {α : Type} {z : α} {as : List Value} {u : Option rx_H} {κ : rx_K α} (h : c_X6_ranked F as u κ = some z) : rx_Cw l G (4 + 0 * F.2) 119 as u κ z := by
  unfold c_X6_ranked at h
  split at h
  · obtain ⟨r, hr, h⟩ := Option.bind_eq_some_iff.mp h
    exact ⟨_, _, _, _, h, k_X6_ranked, fun h => absurd h (by decide), fun _ => ⟨_, _, rfl, rfl⟩, fun hf => m_X6_ranked F l G hf _ _ _ _ hr⟩
  · cases h
set_option maxRecDepth 100000 in
theorem k_X6_chain : rx_Cal (rx_ny 79) (.code (rx_ny 79) prog_1_method_29_code 6 (some .int)) (rx_kd 79) 2 := ⟨prog_1_method_29_code, 6, (some .int), Or.inl rfl, rx_in (i := 462) (by rfl) (by rfl), rx_in (i := 41) (by decide +kernel) (by decide +kernel), ⟨(by decide +kernel), (by decide +kernel), (by decide +kernel)⟩, Nat.le_of_ble_eq_true rfl, fun h => absurd h (by decide), fun _ => ⟨rx_in (i := 460) (by decide +kernel) (by decide +kernel), rx_in (i := 461) (by decide +kernel) (by decide +kernel)⟩, fun h => absurd h (by decide)⟩
set_option maxRecDepth 100000 in
theorem tk_X6_chain : (t_X6_chain.all (rx_eok "SetHouse" prog_1_method_29_code 6 false false) && rx_adj t_X6_chain) = true := by decide +kernel
theorem s_X6_chain_60 {F : Nat × Nat} {l : Launch} {G : rx_G} {D : Nat} {hf : rx_H} {z : (Int32 × Option rx_H)} (hC : rx_CC l G D (C_X6_chain F) z) : ∀ (f : Nat) (x0 : Nat) (x3 : Int32) (x4 : Int32) (x5 : Int32) (u : Option rx_H), f_X6_chain_60 F f x0 x3 x4 x5 u = some z → rx_S l G ("SetHouse", prog_1_method_29_code, 6, false, false, D) hf (z.2.getD hf) rx_hI z 60 [some (.ref x0), none, none, some (.int x3), some (.int x4), some (.int x5)] [] u := by
  intro f
  induction f with
  | zero =>
    intro x0 x3 x4 x5 u h
    cases h
  | succ f ih =>
    intro x0 x3 x4 x5 u h
    rw [g_X6_chain_60] at h
    refine rx_S_node (md := ("SetHouse", prog_1_method_29_code, 6, false, false, D)) tk_X6_chain hC rx_m_hI (fun t ls st u h => ?_) h
    unfold kk_X6_chain_60 at h
    rcases rx_rec_eq h with ⟨hb, h⟩ | ⟨hb, h⟩
    · have ht := Nat.eq_of_beq_eq_true hb
      subst ht
      unfold n_X6_chain_60 at h
      split at h
      · exact (ih _ _ _ _ _ h).le ⟨Or.inr rfl, Or.inl rfl, Or.inl rfl, Or.inr rfl, Or.inr rfl, Or.inr rfl, trivial⟩
      · cases h
    cases h
theorem s_X6_chain_0 {F : Nat × Nat} {l : Launch} {G : rx_G} {D : Nat} {hf : rx_H} {z : (Int32 × Option rx_H)} (hC : rx_CC l G D (C_X6_chain F) z) (x0 : Nat) (x1 : Int32) (x2 : Int32) (u : Option rx_H) (h : f_X6_chain_0 F x0 x1 x2 u = some z) : rx_S l G ("SetHouse", prog_1_method_29_code, 6, false, false, D) hf (z.2.getD hf) rx_hI z 0 [some (.ref x0), some (.int x1), some (.int x2), none, none, none] [] u := by
  rw [g_X6_chain_0] at h
  refine rx_S_node (md := ("SetHouse", prog_1_method_29_code, 6, false, false, D)) tk_X6_chain hC rx_m_hI (fun t ls st u h => ?_) h
  unfold kk_X6_chain_0 at h
  rcases rx_rec_eq h with ⟨hb, h⟩ | ⟨hb, h⟩
  · have ht := Nat.eq_of_beq_eq_true hb
    subst ht
    unfold n_X6_chain_60 at h
    split at h
    · exact (s_X6_chain_60 hC _ _ _ _ _ _ h).le ⟨Or.inr rfl, Or.inl rfl, Or.inl rfl, Or.inr rfl, Or.inr rfl, Or.inr rfl, trivial⟩
    · cases h
  cases h
theorem cc_X6_chain (F : Nat × Nat) (l : Launch) (G : rx_G) {α : Type} (z : α) : rx_CC l G (1 + 0 * F.2) (C_X6_chain F) z := by
  intro j as u κ h
  unfold C_X6_chain at h
  rcases rx_rec_eq h with ⟨hb, h⟩ | ⟨hb, h⟩
  · have ht := Nat.eq_of_beq_eq_true hb
    subst ht
    exact (w_J6_bitCount_0f7a4 F l G h).deep (by omega)
  rcases rx_rec_eq h with ⟨hb, h⟩ | ⟨hb, h⟩
  · have ht := Nat.eq_of_beq_eq_true hb
    subst ht
    exact (w_X2_matchedOnes F l G h).deep (by omega)
  rcases rx_rec_eq h with ⟨hb, h⟩ | ⟨hb, h⟩
  · have ht := Nat.eq_of_beq_eq_true hb
    subst ht
    exact (w_X6_isSet F l G h).deep (by omega)
  cases h
theorem m_X6_chain (F : Nat × Nat) (l : Launch) (G : rx_G) (hf : rx_H) (x0 : Nat) (x1 : Int32) (x2 : Int32) (u : Option rx_H) {z : (Int32 × Option rx_H)} (h : f_X6_chain F x0 x1 x2 u = some z) : rx_Ok l G (2 + 0 * F.2) (rx_ny 79) (.code (rx_ny 79) prog_1_method_29_code 6 (some .int)) [.ref x0, .int x1, .int x2] (u.getD hf) (some (.int z.1)) (z.2.getD hf) := by
  have h := h
  unfold f_X6_chain at h
  exact (rx_met (l := l) (G := G) (hf := hf) (as := [.ref x0, .int x1, .int x2]) (r := (some (.int z.1))) (ls0 := [some (.ref x0), some (.int x1), some (.int x2), none, none, none]) (y := rx_ny 79) (D := (1 + 0 * F.2)) (ini := false) (bo := false) (u := u) (u' := z.2) (by decide +kernel) (fun h => by cases h) (Nat.le_of_ble_eq_true rfl) (Or.inl ⟨rfl, rfl, _, rfl⟩) (fun Z hZ hB => rx_RT_hI hZ hB) (by exact ⟨Or.inr rfl, Or.inr rfl, Or.inr rfl, Or.inl rfl, Or.inl rfl, Or.inl rfl, trivial⟩) (s_X6_chain_0 (cc_X6_chain F l G z) x0 x1 x2 u h)).deep (by omega)
theorem w_X6_chain (F : Nat × Nat) (l : Launch) (G : rx_G) {α : Type} {z : α} {as : List Value} {u : Option rx_H} {κ : rx_K α} (h : c_X6_chain F as u κ = some z) : rx_Cw l G (2 + 0 * F.2) 79 as u κ z := by
  unfold c_X6_chain at h
  split at h
  · obtain ⟨r, hr, h⟩ := Option.bind_eq_some_iff.mp h
    exact ⟨_, _, _, _, h, k_X6_chain, fun h => absurd h (by decide), fun _ => ⟨_, _, rfl, rfl⟩, fun hf => m_X6_chain F l G hf _ _ _ _ hr⟩
  · cases h
set_option maxRecDepth 100000 in
theorem k_X6_ring : rx_Cal (rx_ny 121) (.code (rx_ny 121) prog_1_method_30_code 7 (some .int)) (rx_kd 121) 3 := ⟨prog_1_method_30_code, 7, (some .int), Or.inl rfl, rx_in (i := 469) (by rfl) (by rfl), rx_in (i := 41) (by decide +kernel) (by decide +kernel), ⟨(by decide +kernel), (by decide +kernel), (by decide +kernel)⟩, Nat.le_of_ble_eq_true rfl, fun h => absurd h (by decide), fun _ => ⟨rx_in (i := 467) (by decide +kernel) (by decide +kernel), rx_in (i := 468) (by decide +kernel) (by decide +kernel)⟩, fun h => absurd h (by decide)⟩
set_option maxRecDepth 100000 in
theorem tk_X6_ring : (t_X6_ring.all (rx_eok "SetHouse" prog_1_method_30_code 7 false false) && rx_adj t_X6_ring) = true := by decide +kernel
theorem s_X6_ring_50 {F : Nat × Nat} {l : Launch} {G : rx_G} {D : Nat} {hf : rx_H} {z : (Int32 × Option rx_H)} (hC : rx_CC l G D (C_X6_ring F) z) : ∀ (f : Nat) (x0 : Nat) (x1 : Int32) (x2 : Int32) (x3 : Int32) (x5 : Int32) (x6 : Int32) (u : Option rx_H), f_X6_ring_50 F f x0 x1 x2 x3 x5 x6 u = some z → rx_S l G ("SetHouse", prog_1_method_30_code, 7, false, false, D) hf (z.2.getD hf) rx_hI z 50 [some (.ref x0), some (.int x1), some (.int x2), some (.int x3), none, some (.int x5), some (.int x6)] [] u := by
  intro f
  induction f with
  | zero =>
    intro x0 x1 x2 x3 x5 x6 u h
    cases h
  | succ f ih =>
    intro x0 x1 x2 x3 x5 x6 u h
    rw [g_X6_ring_50] at h
    refine rx_S_node (md := ("SetHouse", prog_1_method_30_code, 7, false, false, D)) tk_X6_ring hC rx_m_hI (fun t ls st u h => ?_) h
    unfold kk_X6_ring_50 at h
    rcases rx_rec_eq h with ⟨hb, h⟩ | ⟨hb, h⟩
    · have ht := Nat.eq_of_beq_eq_true hb
      subst ht
      unfold n_X6_ring_50 at h
      split at h
      · exact (ih _ _ _ _ _ _ _ h).le ⟨Or.inr rfl, Or.inr rfl, Or.inr rfl, Or.inr rfl, Or.inl rfl, Or.inr rfl, Or.inr rfl, trivial⟩
      · cases h
    cases h
theorem s_X6_ring_31 {F : Nat × Nat} {l : Launch} {G : rx_G} {D : Nat} {hf : rx_H} {z : (Int32 × Option rx_H)} (hC : rx_CC l G D (C_X6_ring F) z) (x0 : Nat) (x1 : Int32) (x2 : Int32) (x3 : Int32) (s0 : Nat) (s1 : Int32) (s2 : Int32) (u : Option rx_H) (h : f_X6_ring_31 F x0 x1 x2 x3 s0 s1 s2 u = some z) : rx_S l G ("SetHouse", prog_1_method_30_code, 7, false, false, D) hf (z.2.getD hf) rx_hI z 31 [some (.ref x0), some (.int x1), some (.int x2), some (.int x3), none, none, none] [.int s2, .int s1, .ref s0] u := by
  rw [g_X6_ring_31] at h
  refine rx_S_node (md := ("SetHouse", prog_1_method_30_code, 7, false, false, D)) tk_X6_ring hC rx_m_hI (fun t ls st u h => ?_) h
  unfold kk_X6_ring_31 at h
  rcases rx_rec_eq h with ⟨hb, h⟩ | ⟨hb, h⟩
  · have ht := Nat.eq_of_beq_eq_true hb
    subst ht
    unfold n_X6_ring_50 at h
    split at h
    · exact (s_X6_ring_50 hC _ _ _ _ _ _ _ _ h).le ⟨Or.inr rfl, Or.inr rfl, Or.inr rfl, Or.inr rfl, Or.inl rfl, Or.inr rfl, Or.inr rfl, trivial⟩
    · cases h
  cases h
theorem s_X6_ring_0 {F : Nat × Nat} {l : Launch} {G : rx_G} {D : Nat} {hf : rx_H} {z : (Int32 × Option rx_H)} (hC : rx_CC l G D (C_X6_ring F) z) (x0 : Nat) (x1 : Int32) (x2 : Int32) (x3 : Int32) (u : Option rx_H) (h : f_X6_ring_0 F x0 x1 x2 x3 u = some z) : rx_S l G ("SetHouse", prog_1_method_30_code, 7, false, false, D) hf (z.2.getD hf) rx_hI z 0 [some (.ref x0), some (.int x1), some (.int x2), some (.int x3), none, none, none] [] u := by
  rw [g_X6_ring_0] at h
  refine rx_S_node (md := ("SetHouse", prog_1_method_30_code, 7, false, false, D)) tk_X6_ring hC rx_m_hI (fun t ls st u h => ?_) h
  unfold kk_X6_ring_0 at h
  rcases rx_rec_eq h with ⟨hb, h⟩ | ⟨hb, h⟩
  · have ht := Nat.eq_of_beq_eq_true hb
    subst ht
    unfold n_X6_ring_31 at h
    split at h
    · exact (s_X6_ring_31 hC _ _ _ _ _ _ _ _ h).le ⟨Or.inr rfl, Or.inr rfl, Or.inr rfl, Or.inr rfl, Or.inl rfl, Or.inl rfl, Or.inl rfl, trivial⟩
    · cases h
  cases h
theorem cc_X6_ring (F : Nat × Nat) (l : Launch) (G : rx_G) {α : Type} (z : α) : rx_CC l G (2 + 0 * F.2) (C_X6_ring F) z := by
  intro j as u κ h
  unfold C_X6_ring at h
  rcases rx_rec_eq h with ⟨hb, h⟩ | ⟨hb, h⟩
  · have ht := Nat.eq_of_beq_eq_true hb
    subst ht
    exact (w_X0_holdsSet F l G h).deep (by omega)
  rcases rx_rec_eq h with ⟨hb, h⟩ | ⟨hb, h⟩
  · have ht := Nat.eq_of_beq_eq_true hb
    subst ht
    exact (w_X3_isOrder F l G h).deep (by omega)
  rcases rx_rec_eq h with ⟨hb, h⟩ | ⟨hb, h⟩
  · have ht := Nat.eq_of_beq_eq_true hb
    subst ht
    exact (w_X3_stretch F l G h).deep (by omega)
  rcases rx_rec_eq h with ⟨hb, h⟩ | ⟨hb, h⟩
  · have ht := Nat.eq_of_beq_eq_true hb
    subst ht
    exact (w_X6_familyRefusal F l G h).deep (by omega)
  cases h
theorem m_X6_ring (F : Nat × Nat) (l : Launch) (G : rx_G) (hf : rx_H) (x0 : Nat) (x1 : Int32) (x2 : Int32) (x3 : Int32) (u : Option rx_H) {z : (Int32 × Option rx_H)} (h : f_X6_ring F x0 x1 x2 x3 u = some z) : rx_Ok l G (3 + 0 * F.2) (rx_ny 121) (.code (rx_ny 121) prog_1_method_30_code 7 (some .int)) [.ref x0, .int x1, .int x2, .int x3] (u.getD hf) (some (.int z.1)) (z.2.getD hf) := by
  have h := h
  unfold f_X6_ring at h
  exact (rx_met (l := l) (G := G) (hf := hf) (as := [.ref x0, .int x1, .int x2, .int x3]) (r := (some (.int z.1))) (ls0 := [some (.ref x0), some (.int x1), some (.int x2), some (.int x3), none, none, none]) (y := rx_ny 121) (D := (2 + 0 * F.2)) (ini := false) (bo := false) (u := u) (u' := z.2) (by decide +kernel) (fun h => by cases h) (Nat.le_of_ble_eq_true rfl) (Or.inl ⟨rfl, rfl, _, rfl⟩) (fun Z hZ hB => rx_RT_hI hZ hB) (by exact ⟨Or.inr rfl, Or.inr rfl, Or.inr rfl, Or.inr rfl, Or.inl rfl, Or.inl rfl, Or.inl rfl, trivial⟩) (s_X6_ring_0 (cc_X6_ring F l G z) x0 x1 x2 x3 u h)).deep (by omega)
theorem w_X6_ring (F : Nat × Nat) (l : Launch) (G : rx_G) {α : Type} {z : α} {as : List Value} {u : Option rx_H} {κ : rx_K α} (h : c_X6_ring F as u κ = some z) : rx_Cw l G (3 + 0 * F.2) 121 as u κ z := by
  unfold c_X6_ring at h
  split at h
  · obtain ⟨r, hr, h⟩ := Option.bind_eq_some_iff.mp h
    exact ⟨_, _, _, _, h, k_X6_ring, fun h => absurd h (by decide), fun _ => ⟨_, _, rfl, rfl⟩, fun hf => m_X6_ring F l G hf _ _ _ _ _ hr⟩
  · cases h
set_option maxRecDepth 100000 in
theorem k_X6_weight : rx_Cal (rx_ny 135) (.code (rx_ny 135) prog_1_method_31_code 8 (some .long)) (rx_kd 135) 3 := ⟨prog_1_method_31_code, 8, (some .long), Or.inl rfl, rx_in (i := 476) (by rfl) (by rfl), rx_in (i := 41) (by decide +kernel) (by decide +kernel), ⟨(by decide +kernel), (by decide +kernel), (by decide +kernel)⟩, Nat.le_of_ble_eq_true rfl, fun h => absurd h (by decide), fun _ => ⟨rx_in (i := 474) (by decide +kernel) (by decide +kernel), rx_in (i := 475) (by decide +kernel) (by decide +kernel)⟩, fun h => absurd h (by decide)⟩
set_option maxRecDepth 100000 in
theorem tk_X6_weight : (t_X6_weight.all (rx_eok "SetHouse" prog_1_method_31_code 8 false false) && rx_adj t_X6_weight) = true := by decide +kernel
theorem s_X6_weight_47 {F : Nat × Nat} {l : Launch} {G : rx_G} {D : Nat} {hf : rx_H} {z : (Int64 × Option rx_H)} (hC : rx_CC l G D (C_X6_weight F) z) : ∀ (f : Nat) (x0 : Nat) (x1 : Int32) (x2 : Int32) (x3 : Int32) (x5 : Int64) (x7 : Int32) (u : Option rx_H), f_X6_weight_47 F f x0 x1 x2 x3 x5 x7 u = some z → rx_S l G ("SetHouse", prog_1_method_31_code, 8, false, false, D) hf (z.2.getD hf) rx_hJ z 47 [some (.ref x0), some (.int x1), some (.int x2), some (.int x3), none, some (.long x5), none, some (.int x7)] [] u := by
  intro f
  induction f with
  | zero =>
    intro x0 x1 x2 x3 x5 x7 u h
    cases h
  | succ f ih =>
    intro x0 x1 x2 x3 x5 x7 u h
    rw [g_X6_weight_47] at h
    refine rx_S_node (md := ("SetHouse", prog_1_method_31_code, 8, false, false, D)) tk_X6_weight hC rx_m_hJ (fun t ls st u h => ?_) h
    unfold kk_X6_weight_47 at h
    rcases rx_rec_eq h with ⟨hb, h⟩ | ⟨hb, h⟩
    · have ht := Nat.eq_of_beq_eq_true hb
      subst ht
      unfold n_X6_weight_47 at h
      split at h
      · exact (ih _ _ _ _ _ _ _ h).le ⟨Or.inr rfl, Or.inr rfl, Or.inr rfl, Or.inr rfl, Or.inl rfl, Or.inr rfl, Or.inl rfl, Or.inr rfl, trivial⟩
      · cases h
    cases h
theorem s_X6_weight_27 {F : Nat × Nat} {l : Launch} {G : rx_G} {D : Nat} {hf : rx_H} {z : (Int64 × Option rx_H)} (hC : rx_CC l G D (C_X6_weight F) z) (x0 : Nat) (x1 : Int32) (x2 : Int32) (x3 : Int32) (s0 : Nat) (s1 : Int32) (s2 : Int32) (u : Option rx_H) (h : f_X6_weight_27 F x0 x1 x2 x3 s0 s1 s2 u = some z) : rx_S l G ("SetHouse", prog_1_method_31_code, 8, false, false, D) hf (z.2.getD hf) rx_hJ z 27 [some (.ref x0), some (.int x1), some (.int x2), some (.int x3), none, none, none, none] [.int s2, .int s1, .ref s0] u := by
  rw [g_X6_weight_27] at h
  refine rx_S_node (md := ("SetHouse", prog_1_method_31_code, 8, false, false, D)) tk_X6_weight hC rx_m_hJ (fun t ls st u h => ?_) h
  unfold kk_X6_weight_27 at h
  rcases rx_rec_eq h with ⟨hb, h⟩ | ⟨hb, h⟩
  · have ht := Nat.eq_of_beq_eq_true hb
    subst ht
    unfold n_X6_weight_47 at h
    split at h
    · exact (s_X6_weight_47 hC _ _ _ _ _ _ _ _ h).le ⟨Or.inr rfl, Or.inr rfl, Or.inr rfl, Or.inr rfl, Or.inl rfl, Or.inr rfl, Or.inl rfl, Or.inr rfl, trivial⟩
    · cases h
  cases h
theorem s_X6_weight_0 {F : Nat × Nat} {l : Launch} {G : rx_G} {D : Nat} {hf : rx_H} {z : (Int64 × Option rx_H)} (hC : rx_CC l G D (C_X6_weight F) z) (x0 : Nat) (x1 : Int32) (x2 : Int32) (x3 : Int32) (u : Option rx_H) (h : f_X6_weight_0 F x0 x1 x2 x3 u = some z) : rx_S l G ("SetHouse", prog_1_method_31_code, 8, false, false, D) hf (z.2.getD hf) rx_hJ z 0 [some (.ref x0), some (.int x1), some (.int x2), some (.int x3), none, none, none, none] [] u := by
  rw [g_X6_weight_0] at h
  refine rx_S_node (md := ("SetHouse", prog_1_method_31_code, 8, false, false, D)) tk_X6_weight hC rx_m_hJ (fun t ls st u h => ?_) h
  unfold kk_X6_weight_0 at h
  rcases rx_rec_eq h with ⟨hb, h⟩ | ⟨hb, h⟩
  · have ht := Nat.eq_of_beq_eq_true hb
    subst ht
    unfold n_X6_weight_27 at h
    split at h
    · exact (s_X6_weight_27 hC _ _ _ _ _ _ _ _ h).le ⟨Or.inr rfl, Or.inr rfl, Or.inr rfl, Or.inr rfl, Or.inl rfl, Or.inl rfl, Or.inl rfl, Or.inl rfl, trivial⟩
    · cases h
  cases h
theorem cc_X6_weight (F : Nat × Nat) (l : Launch) (G : rx_G) {α : Type} (z : α) : rx_CC l G (2 + 0 * F.2) (C_X6_weight F) z := by
  intro j as u κ h
  unfold C_X6_weight at h
  rcases rx_rec_eq h with ⟨hb, h⟩ | ⟨hb, h⟩
  · have ht := Nat.eq_of_beq_eq_true hb
    subst ht
    exact (w_X0_size F l G h).deep (by omega)
  rcases rx_rec_eq h with ⟨hb, h⟩ | ⟨hb, h⟩
  · have ht := Nat.eq_of_beq_eq_true hb
    subst ht
    exact (w_X2_power F l G h).deep (by omega)
  rcases rx_rec_eq h with ⟨hb, h⟩ | ⟨hb, h⟩
  · have ht := Nat.eq_of_beq_eq_true hb
    subst ht
    exact (w_X6_familyRefusal F l G h).deep (by omega)
  cases h
theorem m_X6_weight (F : Nat × Nat) (l : Launch) (G : rx_G) (hf : rx_H) (x0 : Nat) (x1 : Int32) (x2 : Int32) (x3 : Int32) (u : Option rx_H) {z : (Int64 × Option rx_H)} (h : f_X6_weight F x0 x1 x2 x3 u = some z) : rx_Ok l G (3 + 0 * F.2) (rx_ny 135) (.code (rx_ny 135) prog_1_method_31_code 8 (some .long)) [.ref x0, .int x1, .int x2, .int x3] (u.getD hf) (some (.long z.1)) (z.2.getD hf) := by
  have h := h
  unfold f_X6_weight at h
  exact (rx_met (l := l) (G := G) (hf := hf) (as := [.ref x0, .int x1, .int x2, .int x3]) (r := (some (.long z.1))) (ls0 := [some (.ref x0), some (.int x1), some (.int x2), some (.int x3), none, none, none, none]) (y := rx_ny 135) (D := (2 + 0 * F.2)) (ini := false) (bo := false) (u := u) (u' := z.2) (by decide +kernel) (fun h => by cases h) (Nat.le_of_ble_eq_true rfl) (Or.inr (Or.inr (Or.inl ⟨rfl, _, rfl⟩))) (fun Z hZ hB => rx_RT_hJ hZ hB) (by exact ⟨Or.inr rfl, Or.inr rfl, Or.inr rfl, Or.inr rfl, Or.inl rfl, Or.inl rfl, Or.inl rfl, Or.inl rfl, trivial⟩) (s_X6_weight_0 (cc_X6_weight F l G z) x0 x1 x2 x3 u h)).deep (by omega)
theorem w_X6_weight (F : Nat × Nat) (l : Launch) (G : rx_G) {α : Type} {z : α} {as : List Value} {u : Option rx_H} {κ : rx_K α} (h : c_X6_weight F as u κ = some z) : rx_Cw l G (3 + 0 * F.2) 135 as u κ z := by
  unfold c_X6_weight at h
  split at h
  · obtain ⟨r, hr, h⟩ := Option.bind_eq_some_iff.mp h
    exact ⟨_, _, _, _, h, k_X6_weight, fun h => absurd h (by decide), fun _ => ⟨_, _, rfl, rfl⟩, fun hf => m_X6_weight F l G hf _ _ _ _ _ hr⟩
  · cases h
set_option maxRecDepth 100000 in
theorem k_X6_matters : rx_Cal (rx_ny 111) (.code (rx_ny 111) prog_1_method_32_code 6 (some .int)) (rx_kd 111) 2 := ⟨prog_1_method_32_code, 6, (some .int), Or.inl rfl, rx_in (i := 483) (by rfl) (by rfl), rx_in (i := 41) (by decide +kernel) (by decide +kernel), ⟨(by decide +kernel), (by decide +kernel), (by decide +kernel)⟩, Nat.le_of_ble_eq_true rfl, fun h => absurd h (by decide), fun _ => ⟨rx_in (i := 481) (by decide +kernel) (by decide +kernel), rx_in (i := 482) (by decide +kernel) (by decide +kernel)⟩, fun h => absurd h (by decide)⟩
set_option maxRecDepth 100000 in
theorem tk_X6_matters : (t_X6_matters.all (rx_eok "SetHouse" prog_1_method_32_code 6 false false) && rx_adj t_X6_matters) = true := by decide +kernel
theorem s_X6_matters_0 {F : Nat × Nat} {l : Launch} {G : rx_G} {D : Nat} {hf : rx_H} {z : (Int32 × Option rx_H)} (hC : rx_CC l G D (C_X6_matters F) z) (x0 : Nat) (x1 : Int32) (x2 : Int32) (u : Option rx_H) (h : f_X6_matters_0 F x0 x1 x2 u = some z) : rx_S l G ("SetHouse", prog_1_method_32_code, 6, false, false, D) hf (z.2.getD hf) rx_hI z 0 [some (.ref x0), some (.int x1), some (.int x2), none, none, none] [] u := by
  rw [g_X6_matters_0] at h
  refine rx_S_node (md := ("SetHouse", prog_1_method_32_code, 6, false, false, D)) tk_X6_matters hC rx_m_hI (fun t ls st u h => ?_) h
  unfold kk_X6_matters_0 at h
  cases h
theorem cc_X6_matters (F : Nat × Nat) (l : Launch) (G : rx_G) {α : Type} (z : α) : rx_CC l G (2 + 0 * F.2) (C_X6_matters F) z := by
  intro j as u κ h
  unfold C_X6_matters at h
  rcases rx_rec_eq h with ⟨hb, h⟩ | ⟨hb, h⟩
  · have ht := Nat.eq_of_beq_eq_true hb
    subst ht
    exact (w_X0_lackingThing F l G h).deep (by omega)
  rcases rx_rec_eq h with ⟨hb, h⟩ | ⟨hb, h⟩
  · have ht := Nat.eq_of_beq_eq_true hb
    subst ht
    exact (w_X0_lessThing F l G h).deep (by omega)
  rcases rx_rec_eq h with ⟨hb, h⟩ | ⟨hb, h⟩
  · have ht := Nat.eq_of_beq_eq_true hb
    subst ht
    exact (w_X0_size F l G h).deep (by omega)
  rcases rx_rec_eq h with ⟨hb, h⟩ | ⟨hb, h⟩
  · have ht := Nat.eq_of_beq_eq_true hb
    subst ht
    exact (w_X6_familyRefusal F l G h).deep (by omega)
  rcases rx_rec_eq h with ⟨hb, h⟩ | ⟨hb, h⟩
  · have ht := Nat.eq_of_beq_eq_true hb
    subst ht
    exact (w_X6_isThing F l G h).deep (by omega)
  cases h
theorem m_X6_matters (F : Nat × Nat) (l : Launch) (G : rx_G) (hf : rx_H) (x0 : Nat) (x1 : Int32) (x2 : Int32) (u : Option rx_H) {z : (Int32 × Option rx_H)} (h : f_X6_matters F x0 x1 x2 u = some z) : rx_Ok l G (3 + 0 * F.2) (rx_ny 111) (.code (rx_ny 111) prog_1_method_32_code 6 (some .int)) [.ref x0, .int x1, .int x2] (u.getD hf) (some (.int z.1)) (z.2.getD hf) := by
  have h := h
  unfold f_X6_matters at h
  exact (rx_met (l := l) (G := G) (hf := hf) (as := [.ref x0, .int x1, .int x2]) (r := (some (.int z.1))) (ls0 := [some (.ref x0), some (.int x1), some (.int x2), none, none, none]) (y := rx_ny 111) (D := (2 + 0 * F.2)) (ini := false) (bo := false) (u := u) (u' := z.2) (by decide +kernel) (fun h => by cases h) (Nat.le_of_ble_eq_true rfl) (Or.inl ⟨rfl, rfl, _, rfl⟩) (fun Z hZ hB => rx_RT_hI hZ hB) (by exact ⟨Or.inr rfl, Or.inr rfl, Or.inr rfl, Or.inl rfl, Or.inl rfl, Or.inl rfl, trivial⟩) (s_X6_matters_0 (cc_X6_matters F l G z) x0 x1 x2 u h)).deep (by omega)
theorem w_X6_matters (F : Nat × Nat) (l : Launch) (G : rx_G) {α : Type} {z : α} {as : List Value} {u : Option rx_H} {κ : rx_K α} (h : c_X6_matters F as u κ = some z) : rx_Cw l G (3 + 0 * F.2) 111 as u κ z := by
  unfold c_X6_matters at h
  split at h
  · obtain ⟨r, hr, h⟩ := Option.bind_eq_some_iff.mp h
    exact ⟨_, _, _, _, h, k_X6_matters, fun h => absurd h (by decide), fun _ => ⟨_, _, rfl, rfl⟩, fun hf => m_X6_matters F l G hf _ _ _ _ hr⟩
  · cases h
set_option maxRecDepth 100000 in
theorem k_X6_product : rx_Cal (rx_ny 114) (.code (rx_ny 114) prog_1_method_33_code 8 (some .int)) (rx_kd 114) 2 := ⟨prog_1_method_33_code, 8, (some .int), Or.inl rfl, rx_in (i := 489) (by rfl) (by rfl), rx_in (i := 41) (by decide +kernel) (by decide +kernel), ⟨(by decide +kernel), (by decide +kernel), (by decide +kernel)⟩, Nat.le_of_ble_eq_true rfl, fun h => absurd h (by decide), fun _ => ⟨rx_in (i := 487) (by decide +kernel) (by decide +kernel), rx_in (i := 488) (by decide +kernel) (by decide +kernel)⟩, fun h => absurd h (by decide)⟩
set_option maxRecDepth 100000 in
theorem tk_X6_product : (t_X6_product.all (rx_eok "SetHouse" prog_1_method_33_code 8 false false) && rx_adj t_X6_product) = true := by decide +kernel
theorem s_X6_product_0 {F : Nat × Nat} {l : Launch} {G : rx_G} {D : Nat} {hf : rx_H} {z : (Int32 × Option rx_H)} (hC : rx_CC l G D (C_X6_product F) z) (x0 : Nat) (x1 : Int32) (x2 : Int32) (u : Option rx_H) (h : f_X6_product_0 F x0 x1 x2 u = some z) : rx_S l G ("SetHouse", prog_1_method_33_code, 8, false, false, D) hf (z.2.getD hf) rx_hI z 0 [some (.ref x0), some (.int x1), some (.int x2), none, none, none, none, none] [] u := by
  rw [g_X6_product_0] at h
  refine rx_S_node (md := ("SetHouse", prog_1_method_33_code, 8, false, false, D)) tk_X6_product hC rx_m_hI (fun t ls st u h => ?_) h
  unfold kk_X6_product_0 at h
  cases h
theorem cc_X6_product (F : Nat × Nat) (l : Launch) (G : rx_G) {α : Type} (z : α) : rx_CC l G (3 + 0 * F.2) (C_X6_product F) z := by
  intro j as u κ h
  unfold C_X6_product at h
  rcases rx_rec_eq h with ⟨hb, h⟩ | ⟨hb, h⟩
  · have ht := Nat.eq_of_beq_eq_true hb
    subst ht
    exact (w_X0_size F l G h).deep (by omega)
  rcases rx_rec_eq h with ⟨hb, h⟩ | ⟨hb, h⟩
  · have ht := Nat.eq_of_beq_eq_true hb
    subst ht
    exact (w_X6_familiesRefusal F l G h).deep (by omega)
  cases h
theorem m_X6_product (F : Nat × Nat) (l : Launch) (G : rx_G) (hf : rx_H) (x0 : Nat) (x1 : Int32) (x2 : Int32) (u : Option rx_H) {z : (Int32 × Option rx_H)} (h : f_X6_product F x0 x1 x2 u = some z) : rx_Ok l G (4 + 0 * F.2) (rx_ny 114) (.code (rx_ny 114) prog_1_method_33_code 8 (some .int)) [.ref x0, .int x1, .int x2] (u.getD hf) (some (.int z.1)) (z.2.getD hf) := by
  have h := h
  unfold f_X6_product at h
  exact (rx_met (l := l) (G := G) (hf := hf) (as := [.ref x0, .int x1, .int x2]) (r := (some (.int z.1))) (ls0 := [some (.ref x0), some (.int x1), some (.int x2), none, none, none, none, none]) (y := rx_ny 114) (D := (3 + 0 * F.2)) (ini := false) (bo := false) (u := u) (u' := z.2) (by decide +kernel) (fun h => by cases h) (Nat.le_of_ble_eq_true rfl) (Or.inl ⟨rfl, rfl, _, rfl⟩) (fun Z hZ hB => rx_RT_hI hZ hB) (by exact ⟨Or.inr rfl, Or.inr rfl, Or.inr rfl, Or.inl rfl, Or.inl rfl, Or.inl rfl, Or.inl rfl, Or.inl rfl, trivial⟩) (s_X6_product_0 (cc_X6_product F l G z) x0 x1 x2 u h)).deep (by omega)
theorem w_X6_product (F : Nat × Nat) (l : Launch) (G : rx_G) {α : Type} {z : α} {as : List Value} {u : Option rx_H} {κ : rx_K α} (h : c_X6_product F as u κ = some z) : rx_Cw l G (4 + 0 * F.2) 114 as u κ z := by
  unfold c_X6_product at h
  split at h
  · obtain ⟨r, hr, h⟩ := Option.bind_eq_some_iff.mp h
    exact ⟨_, _, _, _, h, k_X6_product, fun h => absurd h (by decide), fun _ => ⟨_, _, rfl, rfl⟩, fun hf => m_X6_product F l G hf _ _ _ _ hr⟩
  · cases h
set_option maxRecDepth 100000 in
theorem k_X6_flower : rx_Cal (rx_ny 94) (.code (rx_ny 94) prog_1_method_34_code 4 (some .int)) (rx_kd 94) 2 := ⟨prog_1_method_34_code, 4, (some .int), Or.inl rfl, rx_in (i := 493) (by rfl) (by rfl), rx_in (i := 41) (by decide +kernel) (by decide +kernel), ⟨(by decide +kernel), (by decide +kernel), (by decide +kernel)⟩, Nat.le_of_ble_eq_true rfl, fun h => absurd h (by decide), fun _ => ⟨rx_in (i := 491) (by decide +kernel) (by decide +kernel), rx_in (i := 492) (by decide +kernel) (by decide +kernel)⟩, fun h => absurd h (by decide)⟩
set_option maxRecDepth 100000 in
theorem tk_X6_flower : (t_X6_flower.all (rx_eok "SetHouse" prog_1_method_34_code 4 false false) && rx_adj t_X6_flower) = true := by decide +kernel
theorem s_X6_flower_17 {F : Nat × Nat} {l : Launch} {G : rx_G} {D : Nat} {hf : rx_H} {z : (Int32 × Option rx_H)} (hC : rx_CC l G D (C_X6_flower F) z) (x0 : Nat) (x1 : Int32) (x2 : Int32) (s0 : Nat) (s1 : Int32) (s2 : Int32) (u : Option rx_H) (h : f_X6_flower_17 F x0 x1 x2 s0 s1 s2 u = some z) : rx_S l G ("SetHouse", prog_1_method_34_code, 4, false, false, D) hf (z.2.getD hf) rx_hI z 17 [some (.ref x0), some (.int x1), some (.int x2), none] [.int s2, .int s1, .ref s0] u := by
  rw [g_X6_flower_17] at h
  refine rx_S_node (md := ("SetHouse", prog_1_method_34_code, 4, false, false, D)) tk_X6_flower hC rx_m_hI (fun t ls st u h => ?_) h
  unfold kk_X6_flower_17 at h
  cases h
theorem s_X6_flower_0 {F : Nat × Nat} {l : Launch} {G : rx_G} {D : Nat} {hf : rx_H} {z : (Int32 × Option rx_H)} (hC : rx_CC l G D (C_X6_flower F) z) (x0 : Nat) (x1 : Int32) (x2 : Int32) (u : Option rx_H) (h : f_X6_flower_0 F x0 x1 x2 u = some z) : rx_S l G ("SetHouse", prog_1_method_34_code, 4, false, false, D) hf (z.2.getD hf) rx_hI z 0 [some (.ref x0), some (.int x1), some (.int x2), none] [] u := by
  rw [g_X6_flower_0] at h
  refine rx_S_node (md := ("SetHouse", prog_1_method_34_code, 4, false, false, D)) tk_X6_flower hC rx_m_hI (fun t ls st u h => ?_) h
  unfold kk_X6_flower_0 at h
  rcases rx_rec_eq h with ⟨hb, h⟩ | ⟨hb, h⟩
  · have ht := Nat.eq_of_beq_eq_true hb
    subst ht
    unfold n_X6_flower_17 at h
    split at h
    · exact (s_X6_flower_17 hC _ _ _ _ _ _ _ h).le ⟨Or.inr rfl, Or.inr rfl, Or.inr rfl, Or.inl rfl, trivial⟩
    · cases h
  cases h
theorem cc_X6_flower (F : Nat × Nat) (l : Launch) (G : rx_G) {α : Type} (z : α) : rx_CC l G (3 + 1 * F.2) (C_X6_flower F) z := by
  intro j as u κ h
  unfold C_X6_flower at h
  rcases rx_rec_eq h with ⟨hb, h⟩ | ⟨hb, h⟩
  · have ht := Nat.eq_of_beq_eq_true hb
    subst ht
    exact (w_X5_findFlower F l G h).deep (by omega)
  rcases rx_rec_eq h with ⟨hb, h⟩ | ⟨hb, h⟩
  · have ht := Nat.eq_of_beq_eq_true hb
    subst ht
    exact (w_X6_familyRefusal F l G h).deep (by omega)
  cases h
theorem m_X6_flower (F : Nat × Nat) (l : Launch) (G : rx_G) (hf : rx_H) (x0 : Nat) (x1 : Int32) (x2 : Int32) (u : Option rx_H) {z : (Int32 × Option rx_H)} (h : f_X6_flower F x0 x1 x2 u = some z) : rx_Ok l G (4 + 1 * F.2) (rx_ny 94) (.code (rx_ny 94) prog_1_method_34_code 4 (some .int)) [.ref x0, .int x1, .int x2] (u.getD hf) (some (.int z.1)) (z.2.getD hf) := by
  have h := h
  unfold f_X6_flower at h
  exact (rx_met (l := l) (G := G) (hf := hf) (as := [.ref x0, .int x1, .int x2]) (r := (some (.int z.1))) (ls0 := [some (.ref x0), some (.int x1), some (.int x2), none]) (y := rx_ny 94) (D := (3 + 1 * F.2)) (ini := false) (bo := false) (u := u) (u' := z.2) (by decide +kernel) (fun h => by cases h) (Nat.le_of_ble_eq_true rfl) (Or.inl ⟨rfl, rfl, _, rfl⟩) (fun Z hZ hB => rx_RT_hI hZ hB) (by exact ⟨Or.inr rfl, Or.inr rfl, Or.inr rfl, Or.inl rfl, trivial⟩) (s_X6_flower_0 (cc_X6_flower F l G z) x0 x1 x2 u h)).deep (by omega)
theorem w_X6_flower (F : Nat × Nat) (l : Launch) (G : rx_G) {α : Type} {z : α} {as : List Value} {u : Option rx_H} {κ : rx_K α} (h : c_X6_flower F as u κ = some z) : rx_Cw l G (4 + 1 * F.2) 94 as u κ z := by
  unfold c_X6_flower at h
  split at h
  · obtain ⟨r, hr, h⟩ := Option.bind_eq_some_iff.mp h
    exact ⟨_, _, _, _, h, k_X6_flower, fun h => absurd h (by decide), fun _ => ⟨_, _, rfl, rfl⟩, fun hf => m_X6_flower F l G hf _ _ _ _ hr⟩
  · cases h
set_option maxRecDepth 100000 in
theorem k_X6_petal : rx_Cal (rx_ny 113) (.code (rx_ny 113) prog_1_method_35_code 2 (some .int)) (rx_kd 113) 1 := ⟨prog_1_method_35_code, 2, (some .int), Or.inl rfl, rx_in (i := 520) (by rfl) (by rfl), rx_in (i := 41) (by decide +kernel) (by decide +kernel), ⟨(by decide +kernel), (by decide +kernel), (by decide +kernel)⟩, Nat.le_of_ble_eq_true rfl, fun h => absurd h (by decide), fun _ => ⟨rx_in (i := 518) (by decide +kernel) (by decide +kernel), rx_in (i := 519) (by decide +kernel) (by decide +kernel)⟩, fun h => absurd h (by decide)⟩
set_option maxRecDepth 100000 in
theorem tk_X6_petal : (t_X6_petal.all (rx_eok "SetHouse" prog_1_method_35_code 2 false false) && rx_adj t_X6_petal) = true := by decide +kernel
theorem s_X6_petal_0 {F : Nat × Nat} {l : Launch} {G : rx_G} {D : Nat} {hf : rx_H} {z : (Int32 × Option rx_H)} (hC : rx_CC l G D (C_X6_petal F) z) (x0 : Nat) (x1 : Int32) (u : Option rx_H) (h : f_X6_petal_0 F x0 x1 u = some z) : rx_S l G ("SetHouse", prog_1_method_35_code, 2, false, false, D) hf (z.2.getD hf) rx_hI z 0 [some (.ref x0), some (.int x1)] [] u := by
  rw [g_X6_petal_0] at h
  refine rx_S_node (md := ("SetHouse", prog_1_method_35_code, 2, false, false, D)) tk_X6_petal hC rx_m_hI (fun t ls st u h => ?_) h
  unfold kk_X6_petal_0 at h
  cases h
theorem cc_X6_petal (F : Nat × Nat) (l : Launch) (G : rx_G) {α : Type} (z : α) : rx_CC l G (1 + 0 * F.2) (C_X6_petal F) z := by
  intro j as u κ h
  unfold C_X6_petal at h
  rcases rx_rec_eq h with ⟨hb, h⟩ | ⟨hb, h⟩
  · have ht := Nat.eq_of_beq_eq_true hb
    subst ht
    exact (w_X5_petalAt F l G h).deep (by omega)
  cases h
theorem m_X6_petal (F : Nat × Nat) (l : Launch) (G : rx_G) (hf : rx_H) (x0 : Nat) (x1 : Int32) (u : Option rx_H) {z : (Int32 × Option rx_H)} (h : f_X6_petal F x0 x1 u = some z) : rx_Ok l G (2 + 0 * F.2) (rx_ny 113) (.code (rx_ny 113) prog_1_method_35_code 2 (some .int)) [.ref x0, .int x1] (u.getD hf) (some (.int z.1)) (z.2.getD hf) := by
  have h := h
  unfold f_X6_petal at h
  exact (rx_met (l := l) (G := G) (hf := hf) (as := [.ref x0, .int x1]) (r := (some (.int z.1))) (ls0 := [some (.ref x0), some (.int x1)]) (y := rx_ny 113) (D := (1 + 0 * F.2)) (ini := false) (bo := false) (u := u) (u' := z.2) (by decide +kernel) (fun h => by cases h) (Nat.le_of_ble_eq_true rfl) (Or.inl ⟨rfl, rfl, _, rfl⟩) (fun Z hZ hB => rx_RT_hI hZ hB) (by exact ⟨Or.inr rfl, Or.inr rfl, trivial⟩) (s_X6_petal_0 (cc_X6_petal F l G z) x0 x1 u h)).deep (by omega)
theorem w_X6_petal (F : Nat × Nat) (l : Launch) (G : rx_G) {α : Type} {z : α} {as : List Value} {u : Option rx_H} {κ : rx_K α} (h : c_X6_petal F as u κ = some z) : rx_Cw l G (2 + 0 * F.2) 113 as u κ z := by
  unfold c_X6_petal at h
  split at h
  · obtain ⟨r, hr, h⟩ := Option.bind_eq_some_iff.mp h
    exact ⟨_, _, _, _, h, k_X6_petal, fun h => absurd h (by decide), fun _ => ⟨_, _, rfl, rfl⟩, fun hf => m_X6_petal F l G hf _ _ _ hr⟩
  · cases h
set_option maxRecDepth 100000 in
theorem k_X6_cover : rx_Cal (rx_ny 85) (.code (rx_ny 85) prog_1_method_36_code 7 (some .int)) (rx_kd 85) 1 := ⟨prog_1_method_36_code, 7, (some .int), Or.inl rfl, rx_in (i := 528) (by rfl) (by rfl), rx_in (i := 41) (by decide +kernel) (by decide +kernel), ⟨(by decide +kernel), (by decide +kernel), (by decide +kernel)⟩, Nat.le_of_ble_eq_true rfl, fun h => absurd h (by decide), fun _ => ⟨rx_in (i := 526) (by decide +kernel) (by decide +kernel), rx_in (i := 527) (by decide +kernel) (by decide +kernel)⟩, fun h => absurd h (by decide)⟩
set_option maxRecDepth 100000 in
theorem tk_X6_cover : (t_X6_cover.all (rx_eok "SetHouse" prog_1_method_36_code 7 false false) && rx_adj t_X6_cover) = true := by decide +kernel
theorem s_X6_cover_48 {F : Nat × Nat} {l : Launch} {G : rx_G} {D : Nat} {hf : rx_H} {z : (Int32 × Option rx_H)} (hC : rx_CC l G D (C_X6_cover F) z) {k26 : Nat → Int64 → Int32 → Option rx_H → Option (Int32 × Option rx_H)} (hk26 : ∀ (x0 : Nat) (x3 : Int64) (x5 : Int32) (u : Option rx_H), k26 x0 x3 x5 u = some z → rx_S l G ("SetHouse", prog_1_method_36_code, 7, false, false, D) hf (z.2.getD hf) rx_hI z 26 [some (.ref x0), none, none, some (.long x3), none, some (.int x5), none] [] u) : ∀ (f : Nat) (x0 : Nat) (x3 : Int64) (x5 : Int32) (x6 : Int32) (u : Option rx_H), f_X6_cover_48 F k26 f x0 x3 x5 x6 u = some z → rx_S l G ("SetHouse", prog_1_method_36_code, 7, false, false, D) hf (z.2.getD hf) rx_hI z 48 [some (.ref x0), none, none, some (.long x3), none, some (.int x5), some (.int x6)] [] u := by
  intro f
  induction f with
  | zero =>
    intro x0 x3 x5 x6 u h
    cases h
  | succ f ih =>
    intro x0 x3 x5 x6 u h
    rw [g_X6_cover_48] at h
    refine rx_S_node (md := ("SetHouse", prog_1_method_36_code, 7, false, false, D)) tk_X6_cover hC rx_m_hI (fun t ls st u h => ?_) h
    unfold kk_X6_cover_48 at h
    rcases rx_rec_eq h with ⟨hb, h⟩ | ⟨hb, h⟩
    · have ht := Nat.eq_of_beq_eq_true hb
      subst ht
      unfold n_X6_cover_26 at h
      split at h
      · exact (hk26 _ _ _ _ h).le ⟨Or.inr rfl, Or.inl rfl, Or.inl rfl, Or.inr rfl, Or.inl rfl, Or.inr rfl, Or.inl rfl, trivial⟩
      · cases h
    rcases rx_rec_eq h with ⟨hb, h⟩ | ⟨hb, h⟩
    · have ht := Nat.eq_of_beq_eq_true hb
      subst ht
      unfold n_X6_cover_48 at h
      split at h
      · exact (ih _ _ _ _ _ h).le ⟨Or.inr rfl, Or.inl rfl, Or.inl rfl, Or.inr rfl, Or.inl rfl, Or.inr rfl, Or.inr rfl, trivial⟩
      · cases h
    cases h
theorem s_X6_cover_26 {F : Nat × Nat} {l : Launch} {G : rx_G} {D : Nat} {hf : rx_H} {z : (Int32 × Option rx_H)} (hC : rx_CC l G D (C_X6_cover F) z) : ∀ (f : Nat) (x0 : Nat) (x3 : Int64) (x5 : Int32) (u : Option rx_H), f_X6_cover_26 F f x0 x3 x5 u = some z → rx_S l G ("SetHouse", prog_1_method_36_code, 7, false, false, D) hf (z.2.getD hf) rx_hI z 26 [some (.ref x0), none, none, some (.long x3), none, some (.int x5), none] [] u := by
  intro f
  induction f with
  | zero =>
    intro x0 x3 x5 u h
    cases h
  | succ f ih =>
    intro x0 x3 x5 u h
    rw [g_X6_cover_26] at h
    refine rx_S_node (md := ("SetHouse", prog_1_method_36_code, 7, false, false, D)) tk_X6_cover hC rx_m_hI (fun t ls st u h => ?_) h
    unfold kk_X6_cover_26 at h
    rcases rx_rec_eq h with ⟨hb, h⟩ | ⟨hb, h⟩
    · have ht := Nat.eq_of_beq_eq_true hb
      subst ht
      unfold n_X6_cover_48 at h
      split at h
      · exact (s_X6_cover_48 hC ih _ _ _ _ _ _ h).le ⟨Or.inr rfl, Or.inl rfl, Or.inl rfl, Or.inr rfl, Or.inl rfl, Or.inr rfl, Or.inr rfl, trivial⟩
      · cases h
    cases h
theorem s_X6_cover_0 {F : Nat × Nat} {l : Launch} {G : rx_G} {D : Nat} {hf : rx_H} {z : (Int32 × Option rx_H)} (hC : rx_CC l G D (C_X6_cover F) z) (x0 : Nat) (x1 : Int32) (u : Option rx_H) (h : f_X6_cover_0 F x0 x1 u = some z) : rx_S l G ("SetHouse", prog_1_method_36_code, 7, false, false, D) hf (z.2.getD hf) rx_hI z 0 [some (.ref x0), some (.int x1), none, none, none, none, none] [] u := by
  rw [g_X6_cover_0] at h
  refine rx_S_node (md := ("SetHouse", prog_1_method_36_code, 7, false, false, D)) tk_X6_cover hC rx_m_hI (fun t ls st u h => ?_) h
  unfold kk_X6_cover_0 at h
  rcases rx_rec_eq h with ⟨hb, h⟩ | ⟨hb, h⟩
  · have ht := Nat.eq_of_beq_eq_true hb
    subst ht
    unfold n_X6_cover_26 at h
    split at h
    · exact (s_X6_cover_26 hC _ _ _ _ _ h).le ⟨Or.inr rfl, Or.inl rfl, Or.inl rfl, Or.inr rfl, Or.inl rfl, Or.inr rfl, Or.inl rfl, trivial⟩
    · cases h
  cases h
theorem cc_X6_cover (F : Nat × Nat) (l : Launch) (G : rx_G) {α : Type} (z : α) : rx_CC l G (2 + 0 * F.2) (C_X6_cover F) z := by
  intro j as u κ h
  unfold C_X6_cover at h
  rcases rx_rec_eq h with ⟨hb, h⟩ | ⟨hb, h⟩
  · have ht := Nat.eq_of_beq_eq_true hb
    subst ht
    exact (w_X0_next F l G h).deep (by omega)
  rcases rx_rec_eq h with ⟨hb, h⟩ | ⟨hb, h⟩
  · have ht := Nat.eq_of_beq_eq_true hb
    subst ht
    exact (w_X0_within F l G h).deep (by omega)
  rcases rx_rec_eq h with ⟨hb, h⟩ | ⟨hb, h⟩
  · have ht := Nat.eq_of_beq_eq_true hb
    subst ht
    exact (w_X6_familyRefusal F l G h).deep (by omega)
  cases h
theorem m_X6_cover (F : Nat × Nat) (l : Launch) (G : rx_G) (hf : rx_H) (x0 : Nat) (x1 : Int32) (u : Option rx_H) {z : (Int32 × Option rx_H)} (h : f_X6_cover F x0 x1 u = some z) : rx_Ok l G (3 + 0 * F.2) (rx_ny 85) (.code (rx_ny 85) prog_1_method_36_code 7 (some .int)) [.ref x0, .int x1] (u.getD hf) (some (.int z.1)) (z.2.getD hf) := by
  have h := h
  unfold f_X6_cover at h
  exact (rx_met (l := l) (G := G) (hf := hf) (as := [.ref x0, .int x1]) (r := (some (.int z.1))) (ls0 := [some (.ref x0), some (.int x1), none, none, none, none, none]) (y := rx_ny 85) (D := (2 + 0 * F.2)) (ini := false) (bo := false) (u := u) (u' := z.2) (by decide +kernel) (fun h => by cases h) (Nat.le_of_ble_eq_true rfl) (Or.inl ⟨rfl, rfl, _, rfl⟩) (fun Z hZ hB => rx_RT_hI hZ hB) (by exact ⟨Or.inr rfl, Or.inr rfl, Or.inl rfl, Or.inl rfl, Or.inl rfl, Or.inl rfl, Or.inl rfl, trivial⟩) (s_X6_cover_0 (cc_X6_cover F l G z) x0 x1 u h)).deep (by omega)
theorem w_X6_cover (F : Nat × Nat) (l : Launch) (G : rx_G) {α : Type} {z : α} {as : List Value} {u : Option rx_H} {κ : rx_K α} (h : c_X6_cover F as u κ = some z) : rx_Cw l G (3 + 0 * F.2) 85 as u κ z := by
  unfold c_X6_cover at h
  split at h
  · obtain ⟨r, hr, h⟩ := Option.bind_eq_some_iff.mp h
    exact ⟨_, _, _, _, h, k_X6_cover, fun h => absurd h (by decide), fun _ => ⟨_, _, rfl, rfl⟩, fun hf => m_X6_cover F l G hf _ _ _ hr⟩
  · cases h
set_option maxRecDepth 100000 in
theorem k_X6_loose : rx_Cal (rx_ny 109) (.code (rx_ny 109) prog_1_method_37_code 3 (some .int)) (rx_kd 109) 1 := ⟨prog_1_method_37_code, 3, (some .int), Or.inl rfl, rx_in (i := 533) (by rfl) (by rfl), rx_in (i := 41) (by decide +kernel) (by decide +kernel), ⟨(by decide +kernel), (by decide +kernel), (by decide +kernel)⟩, Nat.le_of_ble_eq_true rfl, fun h => absurd h (by decide), fun _ => ⟨rx_in (i := 531) (by decide +kernel) (by decide +kernel), rx_in (i := 532) (by decide +kernel) (by decide +kernel)⟩, fun h => absurd h (by decide)⟩
set_option maxRecDepth 100000 in
theorem tk_X6_loose : (t_X6_loose.all (rx_eok "SetHouse" prog_1_method_37_code 3 false false) && rx_adj t_X6_loose) = true := by decide +kernel
theorem s_X6_loose_0 {F : Nat × Nat} {l : Launch} {G : rx_G} {D : Nat} {hf : rx_H} {z : (Int32 × Option rx_H)} (hC : rx_CC l G D (C_X6_loose F) z) (x0 : Nat) (x1 : Int32) (u : Option rx_H) (h : f_X6_loose_0 F x0 x1 u = some z) : rx_S l G ("SetHouse", prog_1_method_37_code, 3, false, false, D) hf (z.2.getD hf) rx_hI z 0 [some (.ref x0), some (.int x1), none] [] u := by
  rw [g_X6_loose_0] at h
  refine rx_S_node (md := ("SetHouse", prog_1_method_37_code, 3, false, false, D)) tk_X6_loose hC rx_m_hI (fun t ls st u h => ?_) h
  unfold kk_X6_loose_0 at h
  cases h
theorem cc_X6_loose (F : Nat × Nat) (l : Launch) (G : rx_G) {α : Type} (z : α) : rx_CC l G (3 + 0 * F.2) (C_X6_loose F) z := by
  intro j as u κ h
  unfold C_X6_loose at h
  rcases rx_rec_eq h with ⟨hb, h⟩ | ⟨hb, h⟩
  · have ht := Nat.eq_of_beq_eq_true hb
    subst ht
    exact (w_X5_mostDisjoint F l G h).deep (by omega)
  rcases rx_rec_eq h with ⟨hb, h⟩ | ⟨hb, h⟩
  · have ht := Nat.eq_of_beq_eq_true hb
    subst ht
    exact (w_X6_familyRefusal F l G h).deep (by omega)
  cases h
theorem m_X6_loose (F : Nat × Nat) (l : Launch) (G : rx_G) (hf : rx_H) (x0 : Nat) (x1 : Int32) (u : Option rx_H) {z : (Int32 × Option rx_H)} (h : f_X6_loose F x0 x1 u = some z) : rx_Ok l G (4 + 0 * F.2) (rx_ny 109) (.code (rx_ny 109) prog_1_method_37_code 3 (some .int)) [.ref x0, .int x1] (u.getD hf) (some (.int z.1)) (z.2.getD hf) := by
  have h := h
  unfold f_X6_loose at h
  exact (rx_met (l := l) (G := G) (hf := hf) (as := [.ref x0, .int x1]) (r := (some (.int z.1))) (ls0 := [some (.ref x0), some (.int x1), none]) (y := rx_ny 109) (D := (3 + 0 * F.2)) (ini := false) (bo := false) (u := u) (u' := z.2) (by decide +kernel) (fun h => by cases h) (Nat.le_of_ble_eq_true rfl) (Or.inl ⟨rfl, rfl, _, rfl⟩) (fun Z hZ hB => rx_RT_hI hZ hB) (by exact ⟨Or.inr rfl, Or.inr rfl, Or.inl rfl, trivial⟩) (s_X6_loose_0 (cc_X6_loose F l G z) x0 x1 u h)).deep (by omega)
theorem w_X6_loose (F : Nat × Nat) (l : Launch) (G : rx_G) {α : Type} {z : α} {as : List Value} {u : Option rx_H} {κ : rx_K α} (h : c_X6_loose F as u κ = some z) : rx_Cw l G (4 + 0 * F.2) 109 as u κ z := by
  unfold c_X6_loose at h
  split at h
  · obtain ⟨r, hr, h⟩ := Option.bind_eq_some_iff.mp h
    exact ⟨_, _, _, _, h, k_X6_loose, fun h => absurd h (by decide), fun _ => ⟨_, _, rfl, rfl⟩, fun hf => m_X6_loose F l G hf _ _ _ hr⟩
  · cases h
set_option maxRecDepth 100000 in
theorem k_X6_shattered : rx_Cal (rx_ny 127) (.code (rx_ny 127) prog_1_method_38_code 8 (some .int)) (rx_kd 127) 2 := ⟨prog_1_method_38_code, 8, (some .int), Or.inl rfl, rx_in (i := 545) (by rfl) (by rfl), rx_in (i := 41) (by decide +kernel) (by decide +kernel), ⟨(by decide +kernel), (by decide +kernel), (by decide +kernel)⟩, Nat.le_of_ble_eq_true rfl, fun h => absurd h (by decide), fun _ => ⟨rx_in (i := 543) (by decide +kernel) (by decide +kernel), rx_in (i := 544) (by decide +kernel) (by decide +kernel)⟩, fun h => absurd h (by decide)⟩
set_option maxRecDepth 100000 in
theorem tk_X6_shattered : (t_X6_shattered.all (rx_eok "SetHouse" prog_1_method_38_code 8 false false) && rx_adj t_X6_shattered) = true := by decide +kernel
theorem s_X6_shattered_66 {F : Nat × Nat} {l : Launch} {G : rx_G} {D : Nat} {hf : rx_H} {z : (Int32 × Option rx_H)} (hC : rx_CC l G D (C_X6_shattered F) z) : ∀ (f : Nat) (x0 : Nat) (x4 : Int64) (x6 : Int32) (x7 : Int32) (u : Option rx_H), f_X6_shattered_66 F f x0 x4 x6 x7 u = some z → rx_S l G ("SetHouse", prog_1_method_38_code, 8, false, false, D) hf (z.2.getD hf) rx_hI z 66 [some (.ref x0), none, none, none, some (.long x4), none, some (.int x6), some (.int x7)] [] u := by
  intro f
  induction f with
  | zero =>
    intro x0 x4 x6 x7 u h
    cases h
  | succ f ih =>
    intro x0 x4 x6 x7 u h
    rw [g_X6_shattered_66] at h
    refine rx_S_node (md := ("SetHouse", prog_1_method_38_code, 8, false, false, D)) tk_X6_shattered hC rx_m_hI (fun t ls st u h => ?_) h
    unfold kk_X6_shattered_66 at h
    rcases rx_rec_eq h with ⟨hb, h⟩ | ⟨hb, h⟩
    · have ht := Nat.eq_of_beq_eq_true hb
      subst ht
      unfold n_X6_shattered_66 at h
      split at h
      · exact (ih _ _ _ _ _ h).le ⟨Or.inr rfl, Or.inl rfl, Or.inl rfl, Or.inl rfl, Or.inr rfl, Or.inl rfl, Or.inr rfl, Or.inr rfl, trivial⟩
      · cases h
    cases h
theorem s_X6_shattered_20 {F : Nat × Nat} {l : Launch} {G : rx_G} {D : Nat} {hf : rx_H} {z : (Int32 × Option rx_H)} (hC : rx_CC l G D (C_X6_shattered F) z) (x0 : Nat) (x1 : Int32) (x2 : Int32) (s0 : Nat) (s1 : Int32) (s2 : Int32) (u : Option rx_H) (h : f_X6_shattered_20 F x0 x1 x2 s0 s1 s2 u = some z) : rx_S l G ("SetHouse", prog_1_method_38_code, 8, false, false, D) hf (z.2.getD hf) rx_hI z 20 [some (.ref x0), some (.int x1), some (.int x2), none, none, none, none, none] [.int s2, .int s1, .ref s0] u := by
  rw [g_X6_shattered_20] at h
  refine rx_S_node (md := ("SetHouse", prog_1_method_38_code, 8, false, false, D)) tk_X6_shattered hC rx_m_hI (fun t ls st u h => ?_) h
  unfold kk_X6_shattered_20 at h
  rcases rx_rec_eq h with ⟨hb, h⟩ | ⟨hb, h⟩
  · have ht := Nat.eq_of_beq_eq_true hb
    subst ht
    unfold n_X6_shattered_66 at h
    split at h
    · exact (s_X6_shattered_66 hC _ _ _ _ _ _ h).le ⟨Or.inr rfl, Or.inl rfl, Or.inl rfl, Or.inl rfl, Or.inr rfl, Or.inl rfl, Or.inr rfl, Or.inr rfl, trivial⟩
    · cases h
  cases h
theorem s_X6_shattered_0 {F : Nat × Nat} {l : Launch} {G : rx_G} {D : Nat} {hf : rx_H} {z : (Int32 × Option rx_H)} (hC : rx_CC l G D (C_X6_shattered F) z) (x0 : Nat) (x1 : Int32) (x2 : Int32) (u : Option rx_H) (h : f_X6_shattered_0 F x0 x1 x2 u = some z) : rx_S l G ("SetHouse", prog_1_method_38_code, 8, false, false, D) hf (z.2.getD hf) rx_hI z 0 [some (.ref x0), some (.int x1), some (.int x2), none, none, none, none, none] [] u := by
  rw [g_X6_shattered_0] at h
  refine rx_S_node (md := ("SetHouse", prog_1_method_38_code, 8, false, false, D)) tk_X6_shattered hC rx_m_hI (fun t ls st u h => ?_) h
  unfold kk_X6_shattered_0 at h
  rcases rx_rec_eq h with ⟨hb, h⟩ | ⟨hb, h⟩
  · have ht := Nat.eq_of_beq_eq_true hb
    subst ht
    unfold n_X6_shattered_20 at h
    split at h
    · exact (s_X6_shattered_20 hC _ _ _ _ _ _ _ h).le ⟨Or.inr rfl, Or.inr rfl, Or.inr rfl, Or.inl rfl, Or.inl rfl, Or.inl rfl, Or.inl rfl, Or.inl rfl, trivial⟩
    · cases h
  cases h
theorem cc_X6_shattered (F : Nat × Nat) (l : Launch) (G : rx_G) {α : Type} (z : α) : rx_CC l G (3 + 0 * F.2) (C_X6_shattered F) z := by
  intro j as u κ h
  unfold C_X6_shattered at h
  rcases rx_rec_eq h with ⟨hb, h⟩ | ⟨hb, h⟩
  · have ht := Nat.eq_of_beq_eq_true hb
    subst ht
    exact (w_X0_shatters F l G h).deep (by omega)
  rcases rx_rec_eq h with ⟨hb, h⟩ | ⟨hb, h⟩
  · have ht := Nat.eq_of_beq_eq_true hb
    subst ht
    exact (w_X6_familyRefusal F l G h).deep (by omega)
  rcases rx_rec_eq h with ⟨hb, h⟩ | ⟨hb, h⟩
  · have ht := Nat.eq_of_beq_eq_true hb
    subst ht
    exact (w_X6_isSet F l G h).deep (by omega)
  cases h
theorem m_X6_shattered (F : Nat × Nat) (l : Launch) (G : rx_G) (hf : rx_H) (x0 : Nat) (x1 : Int32) (x2 : Int32) (u : Option rx_H) {z : (Int32 × Option rx_H)} (h : f_X6_shattered F x0 x1 x2 u = some z) : rx_Ok l G (4 + 0 * F.2) (rx_ny 127) (.code (rx_ny 127) prog_1_method_38_code 8 (some .int)) [.ref x0, .int x1, .int x2] (u.getD hf) (some (.int z.1)) (z.2.getD hf) := by
  have h := h
  unfold f_X6_shattered at h
  exact (rx_met (l := l) (G := G) (hf := hf) (as := [.ref x0, .int x1, .int x2]) (r := (some (.int z.1))) (ls0 := [some (.ref x0), some (.int x1), some (.int x2), none, none, none, none, none]) (y := rx_ny 127) (D := (3 + 0 * F.2)) (ini := false) (bo := false) (u := u) (u' := z.2) (by decide +kernel) (fun h => by cases h) (Nat.le_of_ble_eq_true rfl) (Or.inl ⟨rfl, rfl, _, rfl⟩) (fun Z hZ hB => rx_RT_hI hZ hB) (by exact ⟨Or.inr rfl, Or.inr rfl, Or.inr rfl, Or.inl rfl, Or.inl rfl, Or.inl rfl, Or.inl rfl, Or.inl rfl, trivial⟩) (s_X6_shattered_0 (cc_X6_shattered F l G z) x0 x1 x2 u h)).deep (by omega)
theorem w_X6_shattered (F : Nat × Nat) (l : Launch) (G : rx_G) {α : Type} {z : α} {as : List Value} {u : Option rx_H} {κ : rx_K α} (h : c_X6_shattered F as u κ = some z) : rx_Cw l G (4 + 0 * F.2) 127 as u κ z := by
  unfold c_X6_shattered at h
  split at h
  · obtain ⟨r, hr, h⟩ := Option.bind_eq_some_iff.mp h
    exact ⟨_, _, _, _, h, k_X6_shattered, fun h => absurd h (by decide), fun _ => ⟨_, _, rfl, rfl⟩, fun hf => m_X6_shattered F l G hf _ _ _ _ hr⟩
  · cases h
set_option maxRecDepth 100000 in
theorem k_X6_greatest : rx_Cal (rx_ny 95) (.code (rx_ny 95) prog_1_method_39_code 4 (some .int)) (rx_kd 95) 3 := ⟨prog_1_method_39_code, 4, (some .int), Or.inl rfl, rx_in (i := 552) (by rfl) (by rfl), rx_in (i := 41) (by decide +kernel) (by decide +kernel), ⟨(by decide +kernel), (by decide +kernel), (by decide +kernel)⟩, Nat.le_of_ble_eq_true rfl, fun h => absurd h (by decide), fun _ => ⟨rx_in (i := 550) (by decide +kernel) (by decide +kernel), rx_in (i := 551) (by decide +kernel) (by decide +kernel)⟩, fun h => absurd h (by decide)⟩
set_option maxRecDepth 100000 in
theorem tk_X6_greatest : (t_X6_greatest.all (rx_eok "SetHouse" prog_1_method_39_code 4 false false) && rx_adj t_X6_greatest) = true := by decide +kernel
theorem s_X6_greatest_0 {F : Nat × Nat} {l : Launch} {G : rx_G} {D : Nat} {hf : rx_H} {z : (Int32 × Option rx_H)} (hC : rx_CC l G D (C_X6_greatest F) z) (x0 : Nat) (x1 : Int32) (x2 : Int32) (x3 : Int32) (u : Option rx_H) (h : f_X6_greatest_0 F x0 x1 x2 x3 u = some z) : rx_S l G ("SetHouse", prog_1_method_39_code, 4, false, false, D) hf (z.2.getD hf) rx_hI z 0 [some (.ref x0), some (.int x1), some (.int x2), some (.int x3)] [] u := by
  rw [g_X6_greatest_0] at h
  refine rx_S_node (md := ("SetHouse", prog_1_method_39_code, 4, false, false, D)) tk_X6_greatest hC rx_m_hI (fun t ls st u h => ?_) h
  unfold kk_X6_greatest_0 at h
  cases h
theorem cc_X6_greatest (F : Nat × Nat) (l : Launch) (G : rx_G) {α : Type} (z : α) : rx_CC l G (4 + 1 * F.2) (C_X6_greatest F) z := by
  intro j as u κ h
  unfold C_X6_greatest at h
  rcases rx_rec_eq h with ⟨hb, h⟩ | ⟨hb, h⟩
  · have ht := Nat.eq_of_beq_eq_true hb
    subst ht
    exact (w_X5_greatestMeeting F l G h).deep (by omega)
  rcases rx_rec_eq h with ⟨hb, h⟩ | ⟨hb, h⟩
  · have ht := Nat.eq_of_beq_eq_true hb
    subst ht
    exact (w_X6_isPlace F l G h).deep (by omega)
  rcases rx_rec_eq h with ⟨hb, h⟩ | ⟨hb, h⟩
  · have ht := Nat.eq_of_beq_eq_true hb
    subst ht
    exact (w_X6_keep F l G h).deep (by omega)
  cases h
theorem m_X6_greatest (F : Nat × Nat) (l : Launch) (G : rx_G) (hf : rx_H) (x0 : Nat) (x1 : Int32) (x2 : Int32) (x3 : Int32) (u : Option rx_H) {z : (Int32 × Option rx_H)} (h : f_X6_greatest F x0 x1 x2 x3 u = some z) : rx_Ok l G (5 + 1 * F.2) (rx_ny 95) (.code (rx_ny 95) prog_1_method_39_code 4 (some .int)) [.ref x0, .int x1, .int x2, .int x3] (u.getD hf) (some (.int z.1)) (z.2.getD hf) := by
  have h := h
  unfold f_X6_greatest at h
  exact (rx_met (l := l) (G := G) (hf := hf) (as := [.ref x0, .int x1, .int x2, .int x3]) (r := (some (.int z.1))) (ls0 := [some (.ref x0), some (.int x1), some (.int x2), some (.int x3)]) (y := rx_ny 95) (D := (4 + 1 * F.2)) (ini := false) (bo := false) (u := u) (u' := z.2) (by decide +kernel) (fun h => by cases h) (Nat.le_of_ble_eq_true rfl) (Or.inl ⟨rfl, rfl, _, rfl⟩) (fun Z hZ hB => rx_RT_hI hZ hB) (by exact ⟨Or.inr rfl, Or.inr rfl, Or.inr rfl, Or.inr rfl, trivial⟩) (s_X6_greatest_0 (cc_X6_greatest F l G z) x0 x1 x2 x3 u h)).deep (by omega)
theorem w_X6_greatest (F : Nat × Nat) (l : Launch) (G : rx_G) {α : Type} {z : α} {as : List Value} {u : Option rx_H} {κ : rx_K α} (h : c_X6_greatest F as u κ = some z) : rx_Cw l G (5 + 1 * F.2) 95 as u κ z := by
  unfold c_X6_greatest at h
  split at h
  · obtain ⟨r, hr, h⟩ := Option.bind_eq_some_iff.mp h
    exact ⟨_, _, _, _, h, k_X6_greatest, fun h => absurd h (by decide), fun _ => ⟨_, _, rfl, rfl⟩, fun hf => m_X6_greatest F l G hf _ _ _ _ _ hr⟩
  · cases h
set_option maxRecDepth 100000 in
theorem k_X6_same : rx_Cal (rx_ny 124) (.code (rx_ny 124) prog_1_method_40_code 8 (some .int)) (rx_kd 124) 2 := ⟨prog_1_method_40_code, 8, (some .int), Or.inl rfl, rx_in (i := 567) (by rfl) (by rfl), rx_in (i := 41) (by decide +kernel) (by decide +kernel), ⟨(by decide +kernel), (by decide +kernel), (by decide +kernel)⟩, Nat.le_of_ble_eq_true rfl, fun h => absurd h (by decide), fun _ => ⟨rx_in (i := 565) (by decide +kernel) (by decide +kernel), rx_in (i := 566) (by decide +kernel) (by decide +kernel)⟩, fun h => absurd h (by decide)⟩
set_option maxRecDepth 100000 in
theorem tk_X6_same : (t_X6_same.all (rx_eok "SetHouse" prog_1_method_40_code 8 false false) && rx_adj t_X6_same) = true := by decide +kernel
theorem s_X6_same_0 {F : Nat × Nat} {l : Launch} {G : rx_G} {D : Nat} {hf : rx_H} {z : (Int32 × Option rx_H)} (hC : rx_CC l G D (C_X6_same F) z) (x0 : Nat) (x1 : Int32) (x2 : Int32) (u : Option rx_H) (h : f_X6_same_0 F x0 x1 x2 u = some z) : rx_S l G ("SetHouse", prog_1_method_40_code, 8, false, false, D) hf (z.2.getD hf) rx_hI z 0 [some (.ref x0), some (.int x1), some (.int x2), none, none, none, none, none] [] u := by
  rw [g_X6_same_0] at h
  refine rx_S_node (md := ("SetHouse", prog_1_method_40_code, 8, false, false, D)) tk_X6_same hC rx_m_hI (fun t ls st u h => ?_) h
  unfold kk_X6_same_0 at h
  cases h
theorem cc_X6_same (F : Nat × Nat) (l : Launch) (G : rx_G) {α : Type} (z : α) : rx_CC l G (3 + 1 * F.2) (C_X6_same F) z := by
  intro j as u κ h
  unfold C_X6_same at h
  rcases rx_rec_eq h with ⟨hb, h⟩ | ⟨hb, h⟩
  · have ht := Nat.eq_of_beq_eq_true hb
    subst ht
    exact (w_X0_size F l G h).deep (by omega)
  rcases rx_rec_eq h with ⟨hb, h⟩ | ⟨hb, h⟩
  · have ht := Nat.eq_of_beq_eq_true hb
    subst ht
    exact (w_X3_leastTurn F l G h).deep (by omega)
  rcases rx_rec_eq h with ⟨hb, h⟩ | ⟨hb, h⟩
  · have ht := Nat.eq_of_beq_eq_true hb
    subst ht
    exact (w_X6_familiesRefusal F l G h).deep (by omega)
  cases h
theorem m_X6_same (F : Nat × Nat) (l : Launch) (G : rx_G) (hf : rx_H) (x0 : Nat) (x1 : Int32) (x2 : Int32) (u : Option rx_H) {z : (Int32 × Option rx_H)} (h : f_X6_same F x0 x1 x2 u = some z) : rx_Ok l G (4 + 1 * F.2) (rx_ny 124) (.code (rx_ny 124) prog_1_method_40_code 8 (some .int)) [.ref x0, .int x1, .int x2] (u.getD hf) (some (.int z.1)) (z.2.getD hf) := by
  have h := h
  unfold f_X6_same at h
  exact (rx_met (l := l) (G := G) (hf := hf) (as := [.ref x0, .int x1, .int x2]) (r := (some (.int z.1))) (ls0 := [some (.ref x0), some (.int x1), some (.int x2), none, none, none, none, none]) (y := rx_ny 124) (D := (3 + 1 * F.2)) (ini := false) (bo := false) (u := u) (u' := z.2) (by decide +kernel) (fun h => by cases h) (Nat.le_of_ble_eq_true rfl) (Or.inl ⟨rfl, rfl, _, rfl⟩) (fun Z hZ hB => rx_RT_hI hZ hB) (by exact ⟨Or.inr rfl, Or.inr rfl, Or.inr rfl, Or.inl rfl, Or.inl rfl, Or.inl rfl, Or.inl rfl, Or.inl rfl, trivial⟩) (s_X6_same_0 (cc_X6_same F l G z) x0 x1 x2 u h)).deep (by omega)
theorem w_X6_same (F : Nat × Nat) (l : Launch) (G : rx_G) {α : Type} {z : α} {as : List Value} {u : Option rx_H} {κ : rx_K α} (h : c_X6_same F as u κ = some z) : rx_Cw l G (4 + 1 * F.2) 124 as u κ z := by
  unfold c_X6_same at h
  split at h
  · obtain ⟨r, hr, h⟩ := Option.bind_eq_some_iff.mp h
    exact ⟨_, _, _, _, h, k_X6_same, fun h => absurd h (by decide), fun _ => ⟨_, _, rfl, rfl⟩, fun hf => m_X6_same F l G hf _ _ _ _ hr⟩
  · cases h
set_option maxRecDepth 100000 in
theorem k_X6_turns : rx_Cal (rx_ny 133) (.code (rx_ny 133) prog_1_method_41_code 3 (some .int)) (rx_kd 133) 1 := ⟨prog_1_method_41_code, 3, (some .int), Or.inl rfl, rx_in (i := 590) (by rfl) (by rfl), rx_in (i := 41) (by decide +kernel) (by decide +kernel), ⟨(by decide +kernel), (by decide +kernel), (by decide +kernel)⟩, Nat.le_of_ble_eq_true rfl, fun h => absurd h (by decide), fun _ => ⟨rx_in (i := 588) (by decide +kernel) (by decide +kernel), rx_in (i := 589) (by decide +kernel) (by decide +kernel)⟩, fun h => absurd h (by decide)⟩
set_option maxRecDepth 100000 in
theorem tk_X6_turns : (t_X6_turns.all (rx_eok "SetHouse" prog_1_method_41_code 3 false false) && rx_adj t_X6_turns) = true := by decide +kernel
theorem s_X6_turns_0 {F : Nat × Nat} {l : Launch} {G : rx_G} {D : Nat} {hf : rx_H} {z : (Int32 × Option rx_H)} (hC : rx_CC l G D (C_X6_turns F) z) (x0 : Nat) (x1 : Int32) (u : Option rx_H) (h : f_X6_turns_0 F x0 x1 u = some z) : rx_S l G ("SetHouse", prog_1_method_41_code, 3, false, false, D) hf (z.2.getD hf) rx_hI z 0 [some (.ref x0), some (.int x1), none] [] u := by
  rw [g_X6_turns_0] at h
  refine rx_S_node (md := ("SetHouse", prog_1_method_41_code, 3, false, false, D)) tk_X6_turns hC rx_m_hI (fun t ls st u h => ?_) h
  unfold kk_X6_turns_0 at h
  cases h
theorem cc_X6_turns (F : Nat × Nat) (l : Launch) (G : rx_G) {α : Type} (z : α) : rx_CC l G (3 + 1 * F.2) (C_X6_turns F) z := by
  intro j as u κ h
  unfold C_X6_turns at h
  rcases rx_rec_eq h with ⟨hb, h⟩ | ⟨hb, h⟩
  · have ht := Nat.eq_of_beq_eq_true hb
    subst ht
    exact (w_X3_countTurns F l G h).deep (by omega)
  rcases rx_rec_eq h with ⟨hb, h⟩ | ⟨hb, h⟩
  · have ht := Nat.eq_of_beq_eq_true hb
    subst ht
    exact (w_X6_familyRefusal F l G h).deep (by omega)
  cases h
theorem m_X6_turns (F : Nat × Nat) (l : Launch) (G : rx_G) (hf : rx_H) (x0 : Nat) (x1 : Int32) (u : Option rx_H) {z : (Int32 × Option rx_H)} (h : f_X6_turns F x0 x1 u = some z) : rx_Ok l G (4 + 1 * F.2) (rx_ny 133) (.code (rx_ny 133) prog_1_method_41_code 3 (some .int)) [.ref x0, .int x1] (u.getD hf) (some (.int z.1)) (z.2.getD hf) := by
  have h := h
  unfold f_X6_turns at h
  exact (rx_met (l := l) (G := G) (hf := hf) (as := [.ref x0, .int x1]) (r := (some (.int z.1))) (ls0 := [some (.ref x0), some (.int x1), none]) (y := rx_ny 133) (D := (3 + 1 * F.2)) (ini := false) (bo := false) (u := u) (u' := z.2) (by decide +kernel) (fun h => by cases h) (Nat.le_of_ble_eq_true rfl) (Or.inl ⟨rfl, rfl, _, rfl⟩) (fun Z hZ hB => rx_RT_hI hZ hB) (by exact ⟨Or.inr rfl, Or.inr rfl, Or.inl rfl, trivial⟩) (s_X6_turns_0 (cc_X6_turns F l G z) x0 x1 u h)).deep (by omega)
theorem w_X6_turns (F : Nat × Nat) (l : Launch) (G : rx_G) {α : Type} {z : α} {as : List Value} {u : Option rx_H} {κ : rx_K α} (h : c_X6_turns F as u κ = some z) : rx_Cw l G (4 + 1 * F.2) 133 as u κ z := by
  unfold c_X6_turns at h
  split at h
  · obtain ⟨r, hr, h⟩ := Option.bind_eq_some_iff.mp h
    exact ⟨_, _, _, _, h, k_X6_turns, fun h => absurd h (by decide), fun _ => ⟨_, _, rfl, rfl⟩, fun hf => m_X6_turns F l G hf _ _ _ hr⟩
  · cases h
set_option maxRecDepth 100000 in
theorem k_X6_row : rx_Cal (rx_ny 122) (.code (rx_ny 122) prog_1_method_42_code 4 (some .int)) (rx_kd 122) 3 := ⟨prog_1_method_42_code, 4, (some .int), Or.inl rfl, rx_in (i := 600) (by rfl) (by rfl), rx_in (i := 41) (by decide +kernel) (by decide +kernel), ⟨(by decide +kernel), (by decide +kernel), (by decide +kernel)⟩, Nat.le_of_ble_eq_true rfl, fun h => absurd h (by decide), fun _ => ⟨rx_in (i := 598) (by decide +kernel) (by decide +kernel), rx_in (i := 599) (by decide +kernel) (by decide +kernel)⟩, fun h => absurd h (by decide)⟩
set_option maxRecDepth 100000 in
theorem tk_X6_row : (t_X6_row.all (rx_eok "SetHouse" prog_1_method_42_code 4 false false) && rx_adj t_X6_row) = true := by decide +kernel
theorem s_X6_row_0 {F : Nat × Nat} {l : Launch} {G : rx_G} {D : Nat} {hf : rx_H} {z : (Int32 × Option rx_H)} (hC : rx_CC l G D (C_X6_row F) z) (x0 : Nat) (x1 : Int32) (x2 : Int32) (x3 : Int32) (u : Option rx_H) (h : f_X6_row_0 F x0 x1 x2 x3 u = some z) : rx_S l G ("SetHouse", prog_1_method_42_code, 4, false, false, D) hf (z.2.getD hf) rx_hI z 0 [some (.ref x0), some (.int x1), some (.int x2), some (.int x3)] [] u := by
  rw [g_X6_row_0] at h
  refine rx_S_node (md := ("SetHouse", prog_1_method_42_code, 4, false, false, D)) tk_X6_row hC rx_m_hI (fun t ls st u h => ?_) h
  unfold kk_X6_row_0 at h
  cases h
theorem cc_X6_row (F : Nat × Nat) (l : Launch) (G : rx_G) {α : Type} (z : α) : rx_CC l G (1 + 0 * F.2) (C_X6_row F) z := by
  intro j as u κ h
  unfold C_X6_row at h
  rcases rx_rec_eq h with ⟨hb, h⟩ | ⟨hb, h⟩
  · have ht := Nat.eq_of_beq_eq_true hb
    subst ht
    exact (w_X4_becomeRow F l G h).deep (by omega)
  rcases rx_rec_eq h with ⟨hb, h⟩ | ⟨hb, h⟩
  · have ht := Nat.eq_of_beq_eq_true hb
    subst ht
    exact (w_X6_isPlace F l G h).deep (by omega)
  cases h
theorem m_X6_row (F : Nat × Nat) (l : Launch) (G : rx_G) (hf : rx_H) (x0 : Nat) (x1 : Int32) (x2 : Int32) (x3 : Int32) (u : Option rx_H) {z : (Int32 × Option rx_H)} (h : f_X6_row F x0 x1 x2 x3 u = some z) : rx_Ok l G (2 + 0 * F.2) (rx_ny 122) (.code (rx_ny 122) prog_1_method_42_code 4 (some .int)) [.ref x0, .int x1, .int x2, .int x3] (u.getD hf) (some (.int z.1)) (z.2.getD hf) := by
  have h := h
  unfold f_X6_row at h
  exact (rx_met (l := l) (G := G) (hf := hf) (as := [.ref x0, .int x1, .int x2, .int x3]) (r := (some (.int z.1))) (ls0 := [some (.ref x0), some (.int x1), some (.int x2), some (.int x3)]) (y := rx_ny 122) (D := (1 + 0 * F.2)) (ini := false) (bo := false) (u := u) (u' := z.2) (by decide +kernel) (fun h => by cases h) (Nat.le_of_ble_eq_true rfl) (Or.inl ⟨rfl, rfl, _, rfl⟩) (fun Z hZ hB => rx_RT_hI hZ hB) (by exact ⟨Or.inr rfl, Or.inr rfl, Or.inr rfl, Or.inr rfl, trivial⟩) (s_X6_row_0 (cc_X6_row F l G z) x0 x1 x2 x3 u h)).deep (by omega)
theorem w_X6_row (F : Nat × Nat) (l : Launch) (G : rx_G) {α : Type} {z : α} {as : List Value} {u : Option rx_H} {κ : rx_K α} (h : c_X6_row F as u κ = some z) : rx_Cw l G (2 + 0 * F.2) 122 as u κ z := by
  unfold c_X6_row at h
  split at h
  · obtain ⟨r, hr, h⟩ := Option.bind_eq_some_iff.mp h
    exact ⟨_, _, _, _, h, k_X6_row, fun h => absurd h (by decide), fun _ => ⟨_, _, rfl, rfl⟩, fun hf => m_X6_row F l G hf _ _ _ _ _ hr⟩
  · cases h
set_option maxRecDepth 100000 in
theorem k_X6_rowRefusal : rx_Cal (rx_ny 123) (.code (rx_ny 123) prog_1_method_56_code 2 (some .int)) (rx_kd 123) 1 := ⟨prog_1_method_56_code, 2, (some .int), Or.inl rfl, rx_in (i := 612) (by rfl) (by rfl), rx_in (i := 41) (by decide +kernel) (by decide +kernel), ⟨(by decide +kernel), (by decide +kernel), (by decide +kernel)⟩, Nat.le_of_ble_eq_true rfl, fun h => absurd h (by decide), fun _ => ⟨rx_in (i := 611) (by decide +kernel) (by decide +kernel), rx_in (i := 12) (by decide +kernel) (by decide +kernel)⟩, fun h => absurd h (by decide)⟩
set_option maxRecDepth 100000 in
theorem tk_X6_rowRefusal : (t_X6_rowRefusal.all (rx_eok "SetHouse" prog_1_method_56_code 2 false false) && rx_adj t_X6_rowRefusal) = true := by decide +kernel
theorem s_X6_rowRefusal_0 {F : Nat × Nat} {l : Launch} {G : rx_G} {D : Nat} {hf : rx_H} {z : (Int32 × Option rx_H)} (hC : rx_CC l G D (C_X6_rowRefusal F) z) (x0 : Nat) (x1 : Int32) (u : Option rx_H) (h : f_X6_rowRefusal_0 F x0 x1 u = some z) : rx_S l G ("SetHouse", prog_1_method_56_code, 2, false, false, D) hf (z.2.getD hf) rx_hI z 0 [some (.ref x0), some (.int x1)] [] u := by
  rw [g_X6_rowRefusal_0] at h
  refine rx_S_node (md := ("SetHouse", prog_1_method_56_code, 2, false, false, D)) tk_X6_rowRefusal hC rx_m_hI (fun t ls st u h => ?_) h
  unfold kk_X6_rowRefusal_0 at h
  cases h
theorem cc_X6_rowRefusal (F : Nat × Nat) (l : Launch) (G : rx_G) {α : Type} (z : α) : rx_CC l G (1 + 0 * F.2) (C_X6_rowRefusal F) z := by
  intro j as u κ h
  unfold C_X6_rowRefusal at h
  rcases rx_rec_eq h with ⟨hb, h⟩ | ⟨hb, h⟩
  · have ht := Nat.eq_of_beq_eq_true hb
    subst ht
    exact (w_X4_isRow F l G h).deep (by omega)
  rcases rx_rec_eq h with ⟨hb, h⟩ | ⟨hb, h⟩
  · have ht := Nat.eq_of_beq_eq_true hb
    subst ht
    exact (w_X6_isPlace F l G h).deep (by omega)
  cases h
theorem m_X6_rowRefusal (F : Nat × Nat) (l : Launch) (G : rx_G) (hf : rx_H) (x0 : Nat) (x1 : Int32) (u : Option rx_H) {z : (Int32 × Option rx_H)} (h : f_X6_rowRefusal F x0 x1 u = some z) : rx_Ok l G (2 + 0 * F.2) (rx_ny 123) (.code (rx_ny 123) prog_1_method_56_code 2 (some .int)) [.ref x0, .int x1] (u.getD hf) (some (.int z.1)) (z.2.getD hf) := by
  have h := h
  unfold f_X6_rowRefusal at h
  exact (rx_met (l := l) (G := G) (hf := hf) (as := [.ref x0, .int x1]) (r := (some (.int z.1))) (ls0 := [some (.ref x0), some (.int x1)]) (y := rx_ny 123) (D := (1 + 0 * F.2)) (ini := false) (bo := false) (u := u) (u' := z.2) (by decide +kernel) (fun h => by cases h) (Nat.le_of_ble_eq_true rfl) (Or.inl ⟨rfl, rfl, _, rfl⟩) (fun Z hZ hB => rx_RT_hI hZ hB) (by exact ⟨Or.inr rfl, Or.inr rfl, trivial⟩) (s_X6_rowRefusal_0 (cc_X6_rowRefusal F l G z) x0 x1 u h)).deep (by omega)
theorem w_X6_rowRefusal (F : Nat × Nat) (l : Launch) (G : rx_G) {α : Type} {z : α} {as : List Value} {u : Option rx_H} {κ : rx_K α} (h : c_X6_rowRefusal F as u κ = some z) : rx_Cw l G (2 + 0 * F.2) 123 as u κ z := by
  unfold c_X6_rowRefusal at h
  split at h
  · obtain ⟨r, hr, h⟩ := Option.bind_eq_some_iff.mp h
    exact ⟨_, _, _, _, h, k_X6_rowRefusal, fun h => absurd h (by decide), fun _ => ⟨_, _, rfl, rfl⟩, fun hf => m_X6_rowRefusal F l G hf _ _ _ hr⟩
  · cases h
set_option maxRecDepth 100000 in
theorem k_X6_put : rx_Cal (rx_ny 117) (.code (rx_ny 117) prog_1_method_43_code 7 (some .int)) (rx_kd 117) 3 := ⟨prog_1_method_43_code, 7, (some .int), Or.inl rfl, rx_in (i := 608) (by rfl) (by rfl), rx_in (i := 41) (by decide +kernel) (by decide +kernel), ⟨(by decide +kernel), (by decide +kernel), (by decide +kernel)⟩, Nat.le_of_ble_eq_true rfl, fun h => absurd h (by decide), fun _ => ⟨rx_in (i := 606) (by decide +kernel) (by decide +kernel), rx_in (i := 607) (by decide +kernel) (by decide +kernel)⟩, fun h => absurd h (by decide)⟩
set_option maxRecDepth 100000 in
theorem tk_X6_put : (t_X6_put.all (rx_eok "SetHouse" prog_1_method_43_code 7 false false) && rx_adj t_X6_put) = true := by decide +kernel
theorem s_X6_put_0 {F : Nat × Nat} {l : Launch} {G : rx_G} {D : Nat} {hf : rx_H} {z : (Int32 × Option rx_H)} (hC : rx_CC l G D (C_X6_put F) z) (x0 : Nat) (x1 : Int32) (x2 : Int32) (x3 : Int64) (u : Option rx_H) (h : f_X6_put_0 F x0 x1 x2 x3 u = some z) : rx_S l G ("SetHouse", prog_1_method_43_code, 7, false, false, D) hf (z.2.getD hf) rx_hI z 0 [some (.ref x0), some (.int x1), some (.int x2), some (.long x3), none, none, none] [] u := by
  rw [g_X6_put_0] at h
  refine rx_S_node (md := ("SetHouse", prog_1_method_43_code, 7, false, false, D)) tk_X6_put hC rx_m_hI (fun t ls st u h => ?_) h
  unfold kk_X6_put_0 at h
  cases h
theorem cc_X6_put (F : Nat × Nat) (l : Launch) (G : rx_G) {α : Type} (z : α) : rx_CC l G (2 + 0 * F.2) (C_X6_put F) z := by
  intro j as u κ h
  unfold C_X6_put at h
  rcases rx_rec_eq h with ⟨hb, h⟩ | ⟨hb, h⟩
  · have ht := Nat.eq_of_beq_eq_true hb
    subst ht
    exact (w_X6_rowRefusal F l G h).deep (by omega)
  cases h
theorem m_X6_put (F : Nat × Nat) (l : Launch) (G : rx_G) (hf : rx_H) (x0 : Nat) (x1 : Int32) (x2 : Int32) (x3 : Int64) (u : Option rx_H) {z : (Int32 × Option rx_H)} (h : f_X6_put F x0 x1 x2 x3 u = some z) : rx_Ok l G (3 + 0 * F.2) (rx_ny 117) (.code (rx_ny 117) prog_1_method_43_code 7 (some .int)) [.ref x0, .int x1, .int x2, .long x3] (u.getD hf) (some (.int z.1)) (z.2.getD hf) := by
  have h := h
  unfold f_X6_put at h
  exact (rx_met (l := l) (G := G) (hf := hf) (as := [.ref x0, .int x1, .int x2, .long x3]) (r := (some (.int z.1))) (ls0 := [some (.ref x0), some (.int x1), some (.int x2), some (.long x3), none, none, none]) (y := rx_ny 117) (D := (2 + 0 * F.2)) (ini := false) (bo := false) (u := u) (u' := z.2) (by decide +kernel) (fun h => by cases h) (Nat.le_of_ble_eq_true rfl) (Or.inl ⟨rfl, rfl, _, rfl⟩) (fun Z hZ hB => rx_RT_hI hZ hB) (by exact ⟨Or.inr rfl, Or.inr rfl, Or.inr rfl, Or.inr rfl, Or.inl rfl, Or.inl rfl, Or.inl rfl, trivial⟩) (s_X6_put_0 (cc_X6_put F l G z) x0 x1 x2 x3 u h)).deep (by omega)
theorem w_X6_put (F : Nat × Nat) (l : Launch) (G : rx_G) {α : Type} {z : α} {as : List Value} {u : Option rx_H} {κ : rx_K α} (h : c_X6_put F as u κ = some z) : rx_Cw l G (3 + 0 * F.2) 117 as u κ z := by
  unfold c_X6_put at h
  split at h
  · obtain ⟨r, hr, h⟩ := Option.bind_eq_some_iff.mp h
    exact ⟨_, _, _, _, h, k_X6_put, fun h => absurd h (by decide), fun _ => ⟨_, _, rfl, rfl⟩, fun hf => m_X6_put F l G hf _ _ _ _ _ hr⟩
  · cases h
set_option maxRecDepth 100000 in
theorem k_X6_copy : rx_Cal (rx_ny 83) (.code (rx_ny 83) prog_1_method_45_code 8 (some .int)) (rx_kd 83) 5 := ⟨prog_1_method_45_code, 8, (some .int), Or.inl rfl, rx_in (i := 616) (by rfl) (by rfl), rx_in (i := 41) (by decide +kernel) (by decide +kernel), ⟨(by decide +kernel), (by decide +kernel), (by decide +kernel)⟩, Nat.le_of_ble_eq_true rfl, fun h => absurd h (by decide), fun _ => ⟨rx_in (i := 614) (by decide +kernel) (by decide +kernel), rx_in (i := 615) (by decide +kernel) (by decide +kernel)⟩, fun h => absurd h (by decide)⟩
set_option maxRecDepth 100000 in
theorem tk_X6_copy : (t_X6_copy.all (rx_eok "SetHouse" prog_1_method_45_code 8 false false) && rx_adj t_X6_copy) = true := by decide +kernel
theorem s_X6_copy_0 {F : Nat × Nat} {l : Launch} {G : rx_G} {D : Nat} {hf : rx_H} {z : (Int32 × Option rx_H)} (hC : rx_CC l G D (C_X6_copy F) z) (x0 : Nat) (x1 : Int32) (x2 : Int32) (x3 : Int32) (x4 : Int32) (x5 : Int32) (u : Option rx_H) (h : f_X6_copy_0 F x0 x1 x2 x3 x4 x5 u = some z) : rx_S l G ("SetHouse", prog_1_method_45_code, 8, false, false, D) hf (z.2.getD hf) rx_hI z 0 [some (.ref x0), some (.int x1), some (.int x2), some (.int x3), some (.int x4), some (.int x5), none, none] [] u := by
  rw [g_X6_copy_0] at h
  refine rx_S_node (md := ("SetHouse", prog_1_method_45_code, 8, false, false, D)) tk_X6_copy hC rx_m_hI (fun t ls st u h => ?_) h
  unfold kk_X6_copy_0 at h
  cases h
theorem cc_X6_copy (F : Nat × Nat) (l : Launch) (G : rx_G) {α : Type} (z : α) : rx_CC l G (1 + 0 * F.2) (C_X6_copy F) z := by
  intro j as u κ h
  unfold C_X6_copy at h
  rcases rx_rec_eq h with ⟨hb, h⟩ | ⟨hb, h⟩
  · have ht := Nat.eq_of_beq_eq_true hb
    subst ht
    exact (w_X4_hasStretch F l G h).deep (by omega)
  rcases rx_rec_eq h with ⟨hb, h⟩ | ⟨hb, h⟩
  · have ht := Nat.eq_of_beq_eq_true hb
    subst ht
    exact (w_X4_isRow F l G h).deep (by omega)
  rcases rx_rec_eq h with ⟨hb, h⟩ | ⟨hb, h⟩
  · have ht := Nat.eq_of_beq_eq_true hb
    subst ht
    exact (w_X6_isPlace F l G h).deep (by omega)
  cases h
theorem m_X6_copy (F : Nat × Nat) (l : Launch) (G : rx_G) (hf : rx_H) (x0 : Nat) (x1 : Int32) (x2 : Int32) (x3 : Int32) (x4 : Int32) (x5 : Int32) (u : Option rx_H) {z : (Int32 × Option rx_H)} (h : f_X6_copy F x0 x1 x2 x3 x4 x5 u = some z) : rx_Ok l G (2 + 0 * F.2) (rx_ny 83) (.code (rx_ny 83) prog_1_method_45_code 8 (some .int)) [.ref x0, .int x1, .int x2, .int x3, .int x4, .int x5] (u.getD hf) (some (.int z.1)) (z.2.getD hf) := by
  have h := h
  unfold f_X6_copy at h
  exact (rx_met (l := l) (G := G) (hf := hf) (as := [.ref x0, .int x1, .int x2, .int x3, .int x4, .int x5]) (r := (some (.int z.1))) (ls0 := [some (.ref x0), some (.int x1), some (.int x2), some (.int x3), some (.int x4), some (.int x5), none, none]) (y := rx_ny 83) (D := (1 + 0 * F.2)) (ini := false) (bo := false) (u := u) (u' := z.2) (by decide +kernel) (fun h => by cases h) (Nat.le_of_ble_eq_true rfl) (Or.inl ⟨rfl, rfl, _, rfl⟩) (fun Z hZ hB => rx_RT_hI hZ hB) (by exact ⟨Or.inr rfl, Or.inr rfl, Or.inr rfl, Or.inr rfl, Or.inr rfl, Or.inr rfl, Or.inl rfl, Or.inl rfl, trivial⟩) (s_X6_copy_0 (cc_X6_copy F l G z) x0 x1 x2 x3 x4 x5 u h)).deep (by omega)
theorem w_X6_copy (F : Nat × Nat) (l : Launch) (G : rx_G) {α : Type} {z : α} {as : List Value} {u : Option rx_H} {κ : rx_K α} (h : c_X6_copy F as u κ = some z) : rx_Cw l G (2 + 0 * F.2) 83 as u κ z := by
  unfold c_X6_copy at h
  split at h
  · obtain ⟨r, hr, h⟩ := Option.bind_eq_some_iff.mp h
    exact ⟨_, _, _, _, h, k_X6_copy, fun h => absurd h (by decide), fun _ => ⟨_, _, rfl, rfl⟩, fun hf => m_X6_copy F l G hf _ _ _ _ _ _ _ hr⟩
  · cases h
set_option maxRecDepth 100000 in
theorem k_X6_take : rx_Cal (rx_ny 129) (.code (rx_ny 129) prog_1_method_46_code 8 (some .int)) (rx_kd 129) 2 := ⟨prog_1_method_46_code, 8, (some .int), Or.inl rfl, rx_in (i := 627) (by rfl) (by rfl), rx_in (i := 41) (by decide +kernel) (by decide +kernel), ⟨(by decide +kernel), (by decide +kernel), (by decide +kernel)⟩, Nat.le_of_ble_eq_true rfl, fun h => absurd h (by decide), fun _ => ⟨rx_in (i := 625) (by decide +kernel) (by decide +kernel), rx_in (i := 626) (by decide +kernel) (by decide +kernel)⟩, fun h => absurd h (by decide)⟩
set_option maxRecDepth 100000 in
theorem tk_X6_take : (t_X6_take.all (rx_eok "SetHouse" prog_1_method_46_code 8 false false) && rx_adj t_X6_take) = true := by decide +kernel
theorem s_X6_take_52 {F : Nat × Nat} {l : Launch} {G : rx_G} {D : Nat} {hf : rx_H} {z : (Int32 × Option rx_H)} (hC : rx_CC l G D (C_X6_take F) z) : ∀ (f : Nat) (x0 : Nat) (x2 : Int32) (x4 : Nat) (x5 : Int32) (u : Option rx_H), f_X6_take_52 F f x0 x2 x4 x5 u = some z → rx_S l G ("SetHouse", prog_1_method_46_code, 8, false, false, D) hf (z.2.getD hf) rx_hI z 52 [some (.ref x0), none, some (.int x2), none, some (.ref x4), some (.int x5), none, none] [] u := by
  intro f
  induction f with
  | zero =>
    intro x0 x2 x4 x5 u h
    cases h
  | succ f ih =>
    intro x0 x2 x4 x5 u h
    rw [g_X6_take_52] at h
    refine rx_S_node (md := ("SetHouse", prog_1_method_46_code, 8, false, false, D)) tk_X6_take hC rx_m_hI (fun t ls st u h => ?_) h
    unfold kk_X6_take_52 at h
    rcases rx_rec_eq h with ⟨hb, h⟩ | ⟨hb, h⟩
    · have ht := Nat.eq_of_beq_eq_true hb
      subst ht
      unfold n_X6_take_52 at h
      split at h
      · exact (ih _ _ _ _ _ h).le ⟨Or.inr rfl, Or.inl rfl, Or.inr rfl, Or.inl rfl, Or.inr rfl, Or.inr rfl, Or.inl rfl, Or.inl rfl, trivial⟩
      · cases h
    cases h
theorem s_X6_take_35 {F : Nat × Nat} {l : Launch} {G : rx_G} {D : Nat} {hf : rx_H} {z : (Int32 × Option rx_H)} (hC : rx_CC l G D (C_X6_take F) z) (x0 : Nat) (x1 : Int32) (x2 : Int32) (x3 : Int32) (u : Option rx_H) (h : f_X6_take_35 F x0 x1 x2 x3 u = some z) : rx_S l G ("SetHouse", prog_1_method_46_code, 8, false, false, D) hf (z.2.getD hf) rx_hI z 35 [some (.ref x0), some (.int x1), some (.int x2), some (.int x3), none, none, none, none] [] u := by
  rw [g_X6_take_35] at h
  refine rx_S_node (md := ("SetHouse", prog_1_method_46_code, 8, false, false, D)) tk_X6_take hC rx_m_hI (fun t ls st u h => ?_) h
  unfold kk_X6_take_35 at h
  rcases rx_rec_eq h with ⟨hb, h⟩ | ⟨hb, h⟩
  · have ht := Nat.eq_of_beq_eq_true hb
    subst ht
    unfold n_X6_take_52 at h
    split at h
    · exact (s_X6_take_52 hC _ _ _ _ _ _ h).le ⟨Or.inr rfl, Or.inl rfl, Or.inr rfl, Or.inl rfl, Or.inr rfl, Or.inr rfl, Or.inl rfl, Or.inl rfl, trivial⟩
    · cases h
  cases h
theorem s_X6_take_0 {F : Nat × Nat} {l : Launch} {G : rx_G} {D : Nat} {hf : rx_H} {z : (Int32 × Option rx_H)} (hC : rx_CC l G D (C_X6_take F) z) (x0 : Nat) (x1 : Int32) (x2 : Int32) (u : Option rx_H) (h : f_X6_take_0 F x0 x1 x2 u = some z) : rx_S l G ("SetHouse", prog_1_method_46_code, 8, false, false, D) hf (z.2.getD hf) rx_hI z 0 [some (.ref x0), some (.int x1), some (.int x2), none, none, none, none, none] [] u := by
  rw [g_X6_take_0] at h
  refine rx_S_node (md := ("SetHouse", prog_1_method_46_code, 8, false, false, D)) tk_X6_take hC rx_m_hI (fun t ls st u h => ?_) h
  unfold kk_X6_take_0 at h
  rcases rx_rec_eq h with ⟨hb, h⟩ | ⟨hb, h⟩
  · have ht := Nat.eq_of_beq_eq_true hb
    subst ht
    unfold n_X6_take_35 at h
    split at h
    · exact (s_X6_take_35 hC _ _ _ _ _ h).le ⟨Or.inr rfl, Or.inr rfl, Or.inr rfl, Or.inr rfl, Or.inl rfl, Or.inl rfl, Or.inl rfl, Or.inl rfl, trivial⟩
    · cases h
  cases h
theorem cc_X6_take (F : Nat × Nat) (l : Launch) (G : rx_G) {α : Type} (z : α) : rx_CC l G (6 + 0 * F.2) (C_X6_take F) z := by
  intro j as u κ h
  unfold C_X6_take at h
  rcases rx_rec_eq h with ⟨hb, h⟩ | ⟨hb, h⟩
  · have ht := Nat.eq_of_beq_eq_true hb
    subst ht
    exact (w_X6_comes F l G h).deep (by omega)
  rcases rx_rec_eq h with ⟨hb, h⟩ | ⟨hb, h⟩
  · have ht := Nat.eq_of_beq_eq_true hb
    subst ht
    exact (w_X6_familyRefusal F l G h).deep (by omega)
  rcases rx_rec_eq h with ⟨hb, h⟩ | ⟨hb, h⟩
  · have ht := Nat.eq_of_beq_eq_true hb
    subst ht
    exact (w_X6_isPlace F l G h).deep (by omega)
  rcases rx_rec_eq h with ⟨hb, h⟩ | ⟨hb, h⟩
  · have ht := Nat.eq_of_beq_eq_true hb
    subst ht
    exact (w_X6_rowRefusal F l G h).deep (by omega)
  cases h
theorem m_X6_take (F : Nat × Nat) (l : Launch) (G : rx_G) (hf : rx_H) (x0 : Nat) (x1 : Int32) (x2 : Int32) (u : Option rx_H) {z : (Int32 × Option rx_H)} (h : f_X6_take F x0 x1 x2 u = some z) : rx_Ok l G (7 + 0 * F.2) (rx_ny 129) (.code (rx_ny 129) prog_1_method_46_code 8 (some .int)) [.ref x0, .int x1, .int x2] (u.getD hf) (some (.int z.1)) (z.2.getD hf) := by
  have h := h
  unfold f_X6_take at h
  exact (rx_met (l := l) (G := G) (hf := hf) (as := [.ref x0, .int x1, .int x2]) (r := (some (.int z.1))) (ls0 := [some (.ref x0), some (.int x1), some (.int x2), none, none, none, none, none]) (y := rx_ny 129) (D := (6 + 0 * F.2)) (ini := false) (bo := false) (u := u) (u' := z.2) (by decide +kernel) (fun h => by cases h) (Nat.le_of_ble_eq_true rfl) (Or.inl ⟨rfl, rfl, _, rfl⟩) (fun Z hZ hB => rx_RT_hI hZ hB) (by exact ⟨Or.inr rfl, Or.inr rfl, Or.inr rfl, Or.inl rfl, Or.inl rfl, Or.inl rfl, Or.inl rfl, Or.inl rfl, trivial⟩) (s_X6_take_0 (cc_X6_take F l G z) x0 x1 x2 u h)).deep (by omega)
theorem w_X6_take (F : Nat × Nat) (l : Launch) (G : rx_G) {α : Type} {z : α} {as : List Value} {u : Option rx_H} {κ : rx_K α} (h : c_X6_take F as u κ = some z) : rx_Cw l G (7 + 0 * F.2) 129 as u κ z := by
  unfold c_X6_take at h
  split at h
  · obtain ⟨r, hr, h⟩ := Option.bind_eq_some_iff.mp h
    exact ⟨_, _, _, _, h, k_X6_take, fun h => absurd h (by decide), fun _ => ⟨_, _, rfl, rfl⟩, fun hf => m_X6_take F l G hf _ _ _ _ hr⟩
  · cases h
set_option maxRecDepth 100000 in
theorem k_X6_heft : rx_Cal (rx_ny 97) (.code (rx_ny 97) prog_1_method_47_code 3 (some .int)) (rx_kd 97) 1 := ⟨prog_1_method_47_code, 3, (some .int), Or.inl rfl, rx_in (i := 631) (by rfl) (by rfl), rx_in (i := 41) (by decide +kernel) (by decide +kernel), ⟨(by decide +kernel), (by decide +kernel), (by decide +kernel)⟩, Nat.le_of_ble_eq_true rfl, fun h => absurd h (by decide), fun _ => ⟨rx_in (i := 629) (by decide +kernel) (by decide +kernel), rx_in (i := 630) (by decide +kernel) (by decide +kernel)⟩, fun h => absurd h (by decide)⟩
set_option maxRecDepth 100000 in
theorem tk_X6_heft : (t_X6_heft.all (rx_eok "SetHouse" prog_1_method_47_code 3 false false) && rx_adj t_X6_heft) = true := by decide +kernel
theorem s_X6_heft_0 {F : Nat × Nat} {l : Launch} {G : rx_G} {D : Nat} {hf : rx_H} {z : (Int32 × Option rx_H)} (hC : rx_CC l G D (C_X6_heft F) z) (x0 : Nat) (x1 : Int32) (u : Option rx_H) (h : f_X6_heft_0 F x0 x1 u = some z) : rx_S l G ("SetHouse", prog_1_method_47_code, 3, false, false, D) hf (z.2.getD hf) rx_hI z 0 [some (.ref x0), some (.int x1), none] [] u := by
  rw [g_X6_heft_0] at h
  refine rx_S_node (md := ("SetHouse", prog_1_method_47_code, 3, false, false, D)) tk_X6_heft hC rx_m_hI (fun t ls st u h => ?_) h
  unfold kk_X6_heft_0 at h
  cases h
theorem cc_X6_heft (F : Nat × Nat) (l : Launch) (G : rx_G) {α : Type} (z : α) : rx_CC l G (3 + 0 * F.2) (C_X6_heft F) z := by
  intro j as u κ h
  unfold C_X6_heft at h
  rcases rx_rec_eq h with ⟨hb, h⟩ | ⟨hb, h⟩
  · have ht := Nat.eq_of_beq_eq_true hb
    subst ht
    exact (w_X1_heftOf F l G h).deep (by omega)
  rcases rx_rec_eq h with ⟨hb, h⟩ | ⟨hb, h⟩
  · have ht := Nat.eq_of_beq_eq_true hb
    subst ht
    exact (w_X6_familyRefusal F l G h).deep (by omega)
  cases h
theorem m_X6_heft (F : Nat × Nat) (l : Launch) (G : rx_G) (hf : rx_H) (x0 : Nat) (x1 : Int32) (u : Option rx_H) {z : (Int32 × Option rx_H)} (h : f_X6_heft F x0 x1 u = some z) : rx_Ok l G (4 + 0 * F.2) (rx_ny 97) (.code (rx_ny 97) prog_1_method_47_code 3 (some .int)) [.ref x0, .int x1] (u.getD hf) (some (.int z.1)) (z.2.getD hf) := by
  have h := h
  unfold f_X6_heft at h
  exact (rx_met (l := l) (G := G) (hf := hf) (as := [.ref x0, .int x1]) (r := (some (.int z.1))) (ls0 := [some (.ref x0), some (.int x1), none]) (y := rx_ny 97) (D := (3 + 0 * F.2)) (ini := false) (bo := false) (u := u) (u' := z.2) (by decide +kernel) (fun h => by cases h) (Nat.le_of_ble_eq_true rfl) (Or.inl ⟨rfl, rfl, _, rfl⟩) (fun Z hZ hB => rx_RT_hI hZ hB) (by exact ⟨Or.inr rfl, Or.inr rfl, Or.inl rfl, trivial⟩) (s_X6_heft_0 (cc_X6_heft F l G z) x0 x1 u h)).deep (by omega)
theorem w_X6_heft (F : Nat × Nat) (l : Launch) (G : rx_G) {α : Type} {z : α} {as : List Value} {u : Option rx_H} {κ : rx_K α} (h : c_X6_heft F as u κ = some z) : rx_Cw l G (4 + 0 * F.2) 97 as u κ z := by
  unfold c_X6_heft at h
  split at h
  · obtain ⟨r, hr, h⟩ := Option.bind_eq_some_iff.mp h
    exact ⟨_, _, _, _, h, k_X6_heft, fun h => absurd h (by decide), fun _ => ⟨_, _, rfl, rfl⟩, fun hf => m_X6_heft F l G hf _ _ _ hr⟩
  · cases h
