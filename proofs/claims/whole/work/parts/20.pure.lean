set_option maxRecDepth 100000 in
theorem k_J13_bitCount_95d88 : rx_Cal (rx_ny 0) (.code (rx_ny 0) prog_14_method_50_code 2 (some .int)) (rx_kd 0) 1 := ⟨prog_14_method_50_code, 2, (some .int), Or.inl rfl, rx_in (i := 186) (by rfl) (by rfl), rx_in (i := 49) (by decide +kernel) (by decide +kernel), ⟨(by decide +kernel), (by decide +kernel), (by decide +kernel)⟩, Nat.le_of_ble_eq_true rfl, fun _ => rx_in (i := 185) (by decide +kernel) (by decide +kernel), fun h => absurd h (by decide), fun h => absurd h (by decide)⟩
set_option maxRecDepth 100000 in
theorem tk_J13_bitCount_95d88 : (t_J13_bitCount_95d88.all (rx_eok "java/lang/Long" prog_14_method_50_code 2 false false) && rx_adj t_J13_bitCount_95d88) = true := by decide +kernel
theorem s_J13_bitCount_95d88_55 {F : Nat × Nat} {l : Launch} {G : rx_G} {D : Nat} {hf : rx_H} {z : Int32} (hC : rx_CC l G D (C_J13_bitCount_95d88 F) z) (x0 : Int64) (h : f_J13_bitCount_95d88_55 F x0 = some z) : rx_S l G ("java/lang/Long", prog_14_method_50_code, 2, false, false, D) hf hf rx_rI z 55 [some (.long x0), none] [] none := by
  rw [g_J13_bitCount_95d88_55] at h
  refine rx_S_node (md := ("java/lang/Long", prog_14_method_50_code, 2, false, false, D)) tk_J13_bitCount_95d88 hC rx_m_rI (fun t ls st u h => ?_) h
  unfold kk_J13_bitCount_95d88_55 at h
  cases h
theorem s_J13_bitCount_95d88_48 {F : Nat × Nat} {l : Launch} {G : rx_G} {D : Nat} {hf : rx_H} {z : Int32} (hC : rx_CC l G D (C_J13_bitCount_95d88 F) z) (x0 : Int64) (h : f_J13_bitCount_95d88_48 F x0 = some z) : rx_S l G ("java/lang/Long", prog_14_method_50_code, 2, false, false, D) hf hf rx_rI z 48 [some (.long x0), none] [] none := by
  rw [g_J13_bitCount_95d88_48] at h
  refine rx_S_node (md := ("java/lang/Long", prog_14_method_50_code, 2, false, false, D)) tk_J13_bitCount_95d88 hC rx_m_rI (fun t ls st u h => ?_) h
  unfold kk_J13_bitCount_95d88_48 at h
  rcases rx_rec_eq h with ⟨hb, h⟩ | ⟨hb, h⟩
  · have ht := Nat.eq_of_beq_eq_true hb
    subst ht
    unfold n_J13_bitCount_95d88_55 at h
    split at h
    · exact (s_J13_bitCount_95d88_55 hC _ h).le ⟨Or.inr rfl, Or.inl rfl, trivial⟩
    · cases h
  cases h
theorem s_J13_bitCount_95d88_41 {F : Nat × Nat} {l : Launch} {G : rx_G} {D : Nat} {hf : rx_H} {z : Int32} (hC : rx_CC l G D (C_J13_bitCount_95d88 F) z) (x0 : Int64) (h : f_J13_bitCount_95d88_41 F x0 = some z) : rx_S l G ("java/lang/Long", prog_14_method_50_code, 2, false, false, D) hf hf rx_rI z 41 [some (.long x0), none] [] none := by
  rw [g_J13_bitCount_95d88_41] at h
  refine rx_S_node (md := ("java/lang/Long", prog_14_method_50_code, 2, false, false, D)) tk_J13_bitCount_95d88 hC rx_m_rI (fun t ls st u h => ?_) h
  unfold kk_J13_bitCount_95d88_41 at h
  rcases rx_rec_eq h with ⟨hb, h⟩ | ⟨hb, h⟩
  · have ht := Nat.eq_of_beq_eq_true hb
    subst ht
    unfold n_J13_bitCount_95d88_48 at h
    split at h
    · exact (s_J13_bitCount_95d88_48 hC _ h).le ⟨Or.inr rfl, Or.inl rfl, trivial⟩
    · cases h
  cases h
theorem s_J13_bitCount_95d88_34 {F : Nat × Nat} {l : Launch} {G : rx_G} {D : Nat} {hf : rx_H} {z : Int32} (hC : rx_CC l G D (C_J13_bitCount_95d88 F) z) (x0 : Int64) (h : f_J13_bitCount_95d88_34 F x0 = some z) : rx_S l G ("java/lang/Long", prog_14_method_50_code, 2, false, false, D) hf hf rx_rI z 34 [some (.long x0), none] [] none := by
  rw [g_J13_bitCount_95d88_34] at h
  refine rx_S_node (md := ("java/lang/Long", prog_14_method_50_code, 2, false, false, D)) tk_J13_bitCount_95d88 hC rx_m_rI (fun t ls st u h => ?_) h
  unfold kk_J13_bitCount_95d88_34 at h
  rcases rx_rec_eq h with ⟨hb, h⟩ | ⟨hb, h⟩
  · have ht := Nat.eq_of_beq_eq_true hb
    subst ht
    unfold n_J13_bitCount_95d88_41 at h
    split at h
    · exact (s_J13_bitCount_95d88_41 hC _ h).le ⟨Or.inr rfl, Or.inl rfl, trivial⟩
    · cases h
  cases h
theorem s_J13_bitCount_95d88_24 {F : Nat × Nat} {l : Launch} {G : rx_G} {D : Nat} {hf : rx_H} {z : Int32} (hC : rx_CC l G D (C_J13_bitCount_95d88 F) z) (x0 : Int64) (h : f_J13_bitCount_95d88_24 F x0 = some z) : rx_S l G ("java/lang/Long", prog_14_method_50_code, 2, false, false, D) hf hf rx_rI z 24 [some (.long x0), none] [] none := by
  rw [g_J13_bitCount_95d88_24] at h
  refine rx_S_node (md := ("java/lang/Long", prog_14_method_50_code, 2, false, false, D)) tk_J13_bitCount_95d88 hC rx_m_rI (fun t ls st u h => ?_) h
  unfold kk_J13_bitCount_95d88_24 at h
  rcases rx_rec_eq h with ⟨hb, h⟩ | ⟨hb, h⟩
  · have ht := Nat.eq_of_beq_eq_true hb
    subst ht
    unfold n_J13_bitCount_95d88_34 at h
    split at h
    · exact (s_J13_bitCount_95d88_34 hC _ h).le ⟨Or.inr rfl, Or.inl rfl, trivial⟩
    · cases h
  cases h
theorem s_J13_bitCount_95d88_10 {F : Nat × Nat} {l : Launch} {G : rx_G} {D : Nat} {hf : rx_H} {z : Int32} (hC : rx_CC l G D (C_J13_bitCount_95d88 F) z) (x0 : Int64) (h : f_J13_bitCount_95d88_10 F x0 = some z) : rx_S l G ("java/lang/Long", prog_14_method_50_code, 2, false, false, D) hf hf rx_rI z 10 [some (.long x0), none] [] none := by
  rw [g_J13_bitCount_95d88_10] at h
  refine rx_S_node (md := ("java/lang/Long", prog_14_method_50_code, 2, false, false, D)) tk_J13_bitCount_95d88 hC rx_m_rI (fun t ls st u h => ?_) h
  unfold kk_J13_bitCount_95d88_10 at h
  rcases rx_rec_eq h with ⟨hb, h⟩ | ⟨hb, h⟩
  · have ht := Nat.eq_of_beq_eq_true hb
    subst ht
    unfold n_J13_bitCount_95d88_24 at h
    split at h
    · exact (s_J13_bitCount_95d88_24 hC _ h).le ⟨Or.inr rfl, Or.inl rfl, trivial⟩
    · cases h
  cases h
theorem s_J13_bitCount_95d88_0 {F : Nat × Nat} {l : Launch} {G : rx_G} {D : Nat} {hf : rx_H} {z : Int32} (hC : rx_CC l G D (C_J13_bitCount_95d88 F) z) (x0 : Int64) (h : f_J13_bitCount_95d88_0 F x0 = some z) : rx_S l G ("java/lang/Long", prog_14_method_50_code, 2, false, false, D) hf hf rx_rI z 0 [some (.long x0), none] [] none := by
  rw [g_J13_bitCount_95d88_0] at h
  refine rx_S_node (md := ("java/lang/Long", prog_14_method_50_code, 2, false, false, D)) tk_J13_bitCount_95d88 hC rx_m_rI (fun t ls st u h => ?_) h
  unfold kk_J13_bitCount_95d88_0 at h
  rcases rx_rec_eq h with ⟨hb, h⟩ | ⟨hb, h⟩
  · have ht := Nat.eq_of_beq_eq_true hb
    subst ht
    unfold n_J13_bitCount_95d88_10 at h
    split at h
    · exact (s_J13_bitCount_95d88_10 hC _ h).le ⟨Or.inr rfl, Or.inl rfl, trivial⟩
    · cases h
  cases h
theorem cc_J13_bitCount_95d88 (F : Nat × Nat) (l : Launch) (G : rx_G) {α : Type} (z : α) : rx_CC l G (0 + 0 * F.2) (C_J13_bitCount_95d88 F) z := by
  intro j as u κ h
  unfold C_J13_bitCount_95d88 at h
  cases h
theorem m_J13_bitCount_95d88 (F : Nat × Nat) (l : Launch) (G : rx_G) (hf : rx_H) (x0 : Int64) {z : Int32} (h : f_J13_bitCount_95d88 F x0 = some z) : rx_Ok l G (1 + 0 * F.2) (rx_ny 0) (.code (rx_ny 0) prog_14_method_50_code 2 (some .int)) [.long x0] hf (some (.int z)) hf := by
  have h := h
  unfold f_J13_bitCount_95d88 at h
  exact (rx_met (l := l) (G := G) (hf := hf) (as := [.long x0]) (r := (some (.int z))) (ls0 := [some (.long x0), none]) (y := rx_ny 0) (D := (0 + 0 * F.2)) (ini := false) (bo := false) (u := none) (u' := none) (by decide +kernel) (fun h => by cases h) (Nat.le_of_ble_eq_true rfl) (Or.inl ⟨rfl, rfl, _, rfl⟩) (fun Z hZ hB => rx_RT_rI hZ hB) (by exact ⟨Or.inr rfl, Or.inl rfl, trivial⟩) (s_J13_bitCount_95d88_0 (cc_J13_bitCount_95d88 F l G z) x0 h)).deep (by omega)
theorem w_J13_bitCount_95d88 (F : Nat × Nat) (l : Launch) (G : rx_G) {α : Type} {z : α} {as : List Value} {u : Option rx_H} {κ : rx_K α} (h : c_J13_bitCount_95d88 F as u κ = some z) : rx_Cw l G (1 + 0 * F.2) 0 as u κ z := by
  unfold c_J13_bitCount_95d88 at h
  split at h
  · obtain ⟨r, hr, h⟩ := Option.bind_eq_some_iff.mp h
    exact ⟨_, _, _, _, h, k_J13_bitCount_95d88, fun _ => rfl, fun h => absurd rfl h, fun hf => m_J13_bitCount_95d88 F l G _ _ hr⟩
  · cases h
set_option maxRecDepth 100000 in
theorem k_X0_size : rx_Cal (rx_ny 28) (.code (rx_ny 28) prog_2_method_2_code 2 (some .int)) (rx_kd 28) 1 := ⟨prog_2_method_2_code, 2, (some .int), Or.inl rfl, rx_in (i := 183) (by rfl) (by rfl), rx_in (i := 48) (by decide +kernel) (by decide +kernel), ⟨(by decide +kernel), (by decide +kernel), (by decide +kernel)⟩, Nat.le_of_ble_eq_true rfl, fun _ => rx_in (i := 182) (by decide +kernel) (by decide +kernel), fun h => absurd h (by decide), fun h => absurd h (by decide)⟩
set_option maxRecDepth 100000 in
theorem tk_X0_size : (t_X0_size.all (rx_eok "SetHouse$Heap" prog_2_method_2_code 2 false false) && rx_adj t_X0_size) = true := by decide +kernel
theorem s_X0_size_0 {F : Nat × Nat} {l : Launch} {G : rx_G} {D : Nat} {hf : rx_H} {z : Int32} (hC : rx_CC l G D (C_X0_size F) z) (x0 : Int64) (h : f_X0_size_0 F x0 = some z) : rx_S l G ("SetHouse$Heap", prog_2_method_2_code, 2, false, false, D) hf hf rx_rI z 0 [some (.long x0), none] [] none := by
  rw [g_X0_size_0] at h
  refine rx_S_node (md := ("SetHouse$Heap", prog_2_method_2_code, 2, false, false, D)) tk_X0_size hC rx_m_rI (fun t ls st u h => ?_) h
  unfold kk_X0_size_0 at h
  cases h
theorem cc_X0_size (F : Nat × Nat) (l : Launch) (G : rx_G) {α : Type} (z : α) : rx_CC l G (1 + 0 * F.2) (C_X0_size F) z := by
  intro j as u κ h
  unfold C_X0_size at h
  rcases rx_rec_eq h with ⟨hb, h⟩ | ⟨hb, h⟩
  · have ht := Nat.eq_of_beq_eq_true hb
    subst ht
    exact (w_J13_bitCount_95d88 F l G h).deep (by omega)
  cases h
theorem m_X0_size (F : Nat × Nat) (l : Launch) (G : rx_G) (hf : rx_H) (x0 : Int64) {z : Int32} (h : f_X0_size F x0 = some z) : rx_Ok l G (2 + 0 * F.2) (rx_ny 28) (.code (rx_ny 28) prog_2_method_2_code 2 (some .int)) [.long x0] hf (some (.int z)) hf := by
  have h := h
  unfold f_X0_size at h
  exact (rx_met (l := l) (G := G) (hf := hf) (as := [.long x0]) (r := (some (.int z))) (ls0 := [some (.long x0), none]) (y := rx_ny 28) (D := (1 + 0 * F.2)) (ini := false) (bo := false) (u := none) (u' := none) (by decide +kernel) (fun h => by cases h) (Nat.le_of_ble_eq_true rfl) (Or.inl ⟨rfl, rfl, _, rfl⟩) (fun Z hZ hB => rx_RT_rI hZ hB) (by exact ⟨Or.inr rfl, Or.inl rfl, trivial⟩) (s_X0_size_0 (cc_X0_size F l G z) x0 h)).deep (by omega)
theorem w_X0_size (F : Nat × Nat) (l : Launch) (G : rx_G) {α : Type} {z : α} {as : List Value} {u : Option rx_H} {κ : rx_K α} (h : c_X0_size F as u κ = some z) : rx_Cw l G (2 + 0 * F.2) 28 as u κ z := by
  unfold c_X0_size at h
  split at h
  · obtain ⟨r, hr, h⟩ := Option.bind_eq_some_iff.mp h
    exact ⟨_, _, _, _, h, k_X0_size, fun _ => rfl, fun h => absurd rfl h, fun hf => m_X0_size F l G _ _ hr⟩
  · cases h
set_option maxRecDepth 100000 in
theorem k_X0_holdsSet : rx_Cal (rx_ny 13) (.code (rx_ny 13) prog_2_method_3_code 3 (some .boolean)) (rx_kd 13) 2 := ⟨prog_2_method_3_code, 3, (some .boolean), Or.inl rfl, rx_in (i := 219) (by rfl) (by rfl), rx_in (i := 48) (by decide +kernel) (by decide +kernel), ⟨(by decide +kernel), (by decide +kernel), (by decide +kernel)⟩, Nat.le_of_ble_eq_true rfl, fun _ => rx_in (i := 218) (by decide +kernel) (by decide +kernel), fun h => absurd h (by decide), fun h => absurd h (by decide)⟩
set_option maxRecDepth 100000 in
theorem tk_X0_holdsSet : (t_X0_holdsSet.all (rx_eok "SetHouse$Heap" prog_2_method_3_code 3 false true) && rx_adj t_X0_holdsSet) = true := by decide +kernel
theorem s_X0_holdsSet_0 {F : Nat × Nat} {l : Launch} {G : rx_G} {D : Nat} {hf : rx_H} {z : Int32} (hC : rx_CC l G D (C_X0_holdsSet F) z) (x0 : Int64) (x2 : Int32) (h : f_X0_holdsSet_0 F x0 x2 = some z) : rx_S l G ("SetHouse$Heap", prog_2_method_3_code, 3, false, true, D) hf hf rx_rI z 0 [some (.long x0), none, some (.int x2)] [] none := by
  rw [g_X0_holdsSet_0] at h
  refine rx_S_node (md := ("SetHouse$Heap", prog_2_method_3_code, 3, false, true, D)) tk_X0_holdsSet hC rx_m_rI (fun t ls st u h => ?_) h
  unfold kk_X0_holdsSet_0 at h
  cases h
theorem cc_X0_holdsSet (F : Nat × Nat) (l : Launch) (G : rx_G) {α : Type} (z : α) : rx_CC l G (0 + 0 * F.2) (C_X0_holdsSet F) z := by
  intro j as u κ h
  unfold C_X0_holdsSet at h
  cases h
theorem m_X0_holdsSet (F : Nat × Nat) (l : Launch) (G : rx_G) (hf : rx_H) (x0 : Int64) (x2 : Int32) {z : Int32} (h : f_X0_holdsSet F x0 x2 = some z) : rx_Ok l G (1 + 0 * F.2) (rx_ny 13) (.code (rx_ny 13) prog_2_method_3_code 3 (some .boolean)) [.long x0, .int x2] hf (some (.int z)) hf := by
  have h := h
  unfold f_X0_holdsSet at h
  exact (rx_met (l := l) (G := G) (hf := hf) (as := [.long x0, .int x2]) (r := (some (.int z))) (ls0 := [some (.long x0), none, some (.int x2)]) (y := rx_ny 13) (D := (0 + 0 * F.2)) (ini := false) (bo := true) (u := none) (u' := none) (by decide +kernel) (fun h => by cases h) (Nat.le_of_ble_eq_true rfl) (Or.inr (Or.inl ⟨rfl, rfl, _, rfl⟩)) (fun Z hZ hB => rx_RT_rI hZ hB) (by exact ⟨Or.inr rfl, Or.inl rfl, Or.inr rfl, trivial⟩) (s_X0_holdsSet_0 (cc_X0_holdsSet F l G z) x0 x2 h)).deep (by omega)
theorem w_X0_holdsSet (F : Nat × Nat) (l : Launch) (G : rx_G) {α : Type} {z : α} {as : List Value} {u : Option rx_H} {κ : rx_K α} (h : c_X0_holdsSet F as u κ = some z) : rx_Cw l G (1 + 0 * F.2) 13 as u κ z := by
  unfold c_X0_holdsSet at h
  split at h
  · obtain ⟨r, hr, h⟩ := Option.bind_eq_some_iff.mp h
    exact ⟨_, _, _, _, h, k_X0_holdsSet, fun _ => rfl, fun h => absurd rfl h, fun hf => m_X0_holdsSet F l G _ _ _ hr⟩
  · cases h
set_option maxRecDepth 100000 in
theorem k_X0_below : rx_Cal (rx_ny 11) (.code (rx_ny 11) prog_2_method_7_code 1 (some .long)) (rx_kd 11) 1 := ⟨prog_2_method_7_code, 1, (some .long), Or.inl rfl, rx_in (i := 235) (by rfl) (by rfl), rx_in (i := 48) (by decide +kernel) (by decide +kernel), ⟨(by decide +kernel), (by decide +kernel), (by decide +kernel)⟩, Nat.le_of_ble_eq_true rfl, fun _ => rx_in (i := 234) (by decide +kernel) (by decide +kernel), fun h => absurd h (by decide), fun h => absurd h (by decide)⟩
set_option maxRecDepth 100000 in
theorem tk_X0_below : (t_X0_below.all (rx_eok "SetHouse$Heap" prog_2_method_7_code 1 false false) && rx_adj t_X0_below) = true := by decide +kernel
theorem s_X0_below_0 {F : Nat × Nat} {l : Launch} {G : rx_G} {D : Nat} {hf : rx_H} {z : Int64} (hC : rx_CC l G D (C_X0_below F) z) (x0 : Int32) (h : f_X0_below_0 F x0 = some z) : rx_S l G ("SetHouse$Heap", prog_2_method_7_code, 1, false, false, D) hf hf rx_rJ z 0 [some (.int x0)] [] none := by
  rw [g_X0_below_0] at h
  refine rx_S_node (md := ("SetHouse$Heap", prog_2_method_7_code, 1, false, false, D)) tk_X0_below hC rx_m_rJ (fun t ls st u h => ?_) h
  unfold kk_X0_below_0 at h
  cases h
theorem cc_X0_below (F : Nat × Nat) (l : Launch) (G : rx_G) {α : Type} (z : α) : rx_CC l G (0 + 0 * F.2) (C_X0_below F) z := by
  intro j as u κ h
  unfold C_X0_below at h
  cases h
theorem m_X0_below (F : Nat × Nat) (l : Launch) (G : rx_G) (hf : rx_H) (x0 : Int32) {z : Int64} (h : f_X0_below F x0 = some z) : rx_Ok l G (1 + 0 * F.2) (rx_ny 11) (.code (rx_ny 11) prog_2_method_7_code 1 (some .long)) [.int x0] hf (some (.long z)) hf := by
  have h := h
  unfold f_X0_below at h
  exact (rx_met (l := l) (G := G) (hf := hf) (as := [.int x0]) (r := (some (.long z))) (ls0 := [some (.int x0)]) (y := rx_ny 11) (D := (0 + 0 * F.2)) (ini := false) (bo := false) (u := none) (u' := none) (by decide +kernel) (fun h => by cases h) (Nat.le_of_ble_eq_true rfl) (Or.inr (Or.inr (Or.inl ⟨rfl, _, rfl⟩))) (fun Z hZ hB => rx_RT_rJ hZ hB) (by exact ⟨Or.inr rfl, trivial⟩) (s_X0_below_0 (cc_X0_below F l G z) x0 h)).deep (by omega)
theorem w_X0_below (F : Nat × Nat) (l : Launch) (G : rx_G) {α : Type} {z : α} {as : List Value} {u : Option rx_H} {κ : rx_K α} (h : c_X0_below F as u κ = some z) : rx_Cw l G (1 + 0 * F.2) 11 as u κ z := by
  unfold c_X0_below at h
  split at h
  · obtain ⟨r, hr, h⟩ := Option.bind_eq_some_iff.mp h
    exact ⟨_, _, _, _, h, k_X0_below, fun _ => rfl, fun h => absurd rfl h, fun hf => m_X0_below F l G _ _ hr⟩
  · cases h
set_option maxRecDepth 100000 in
theorem k_X0_next : rx_Cal (rx_ny 23) (.code (rx_ny 23) prog_2_method_4_code 5 (some .int)) (rx_kd 23) 2 := ⟨prog_2_method_4_code, 5, (some .int), Or.inl rfl, rx_in (i := 232) (by rfl) (by rfl), rx_in (i := 48) (by decide +kernel) (by decide +kernel), ⟨(by decide +kernel), (by decide +kernel), (by decide +kernel)⟩, Nat.le_of_ble_eq_true rfl, fun _ => rx_in (i := 231) (by decide +kernel) (by decide +kernel), fun h => absurd h (by decide), fun h => absurd h (by decide)⟩
set_option maxRecDepth 100000 in
theorem tk_X0_next : (t_X0_next.all (rx_eok "SetHouse$Heap" prog_2_method_4_code 5 false false) && rx_adj t_X0_next) = true := by decide +kernel
theorem s_X0_next_0 {F : Nat × Nat} {l : Launch} {G : rx_G} {D : Nat} {hf : rx_H} {z : Int32} (hC : rx_CC l G D (C_X0_next F) z) (x0 : Int64) (x2 : Int32) (h : f_X0_next_0 F x0 x2 = some z) : rx_S l G ("SetHouse$Heap", prog_2_method_4_code, 5, false, false, D) hf hf rx_rI z 0 [some (.long x0), none, some (.int x2), none, none] [] none := by
  rw [g_X0_next_0] at h
  refine rx_S_node (md := ("SetHouse$Heap", prog_2_method_4_code, 5, false, false, D)) tk_X0_next hC rx_m_rI (fun t ls st u h => ?_) h
  unfold kk_X0_next_0 at h
  cases h
theorem cc_X0_next (F : Nat × Nat) (l : Launch) (G : rx_G) {α : Type} (z : α) : rx_CC l G (1 + 0 * F.2) (C_X0_next F) z := by
  intro j as u κ h
  unfold C_X0_next at h
  rcases rx_rec_eq h with ⟨hb, h⟩ | ⟨hb, h⟩
  · have ht := Nat.eq_of_beq_eq_true hb
    subst ht
    exact (w_J13_bitCount_95d88 F l G h).deep (by omega)
  rcases rx_rec_eq h with ⟨hb, h⟩ | ⟨hb, h⟩
  · have ht := Nat.eq_of_beq_eq_true hb
    subst ht
    exact (w_X0_below F l G h).deep (by omega)
  cases h
theorem m_X0_next (F : Nat × Nat) (l : Launch) (G : rx_G) (hf : rx_H) (x0 : Int64) (x2 : Int32) {z : Int32} (h : f_X0_next F x0 x2 = some z) : rx_Ok l G (2 + 0 * F.2) (rx_ny 23) (.code (rx_ny 23) prog_2_method_4_code 5 (some .int)) [.long x0, .int x2] hf (some (.int z)) hf := by
  have h := h
  unfold f_X0_next at h
  exact (rx_met (l := l) (G := G) (hf := hf) (as := [.long x0, .int x2]) (r := (some (.int z))) (ls0 := [some (.long x0), none, some (.int x2), none, none]) (y := rx_ny 23) (D := (1 + 0 * F.2)) (ini := false) (bo := false) (u := none) (u' := none) (by decide +kernel) (fun h => by cases h) (Nat.le_of_ble_eq_true rfl) (Or.inl ⟨rfl, rfl, _, rfl⟩) (fun Z hZ hB => rx_RT_rI hZ hB) (by exact ⟨Or.inr rfl, Or.inl rfl, Or.inr rfl, Or.inl rfl, Or.inl rfl, trivial⟩) (s_X0_next_0 (cc_X0_next F l G z) x0 x2 h)).deep (by omega)
theorem w_X0_next (F : Nat × Nat) (l : Launch) (G : rx_G) {α : Type} {z : α} {as : List Value} {u : Option rx_H} {κ : rx_K α} (h : c_X0_next F as u κ = some z) : rx_Cw l G (2 + 0 * F.2) 23 as u κ z := by
  unfold c_X0_next at h
  split at h
  · obtain ⟨r, hr, h⟩ := Option.bind_eq_some_iff.mp h
    exact ⟨_, _, _, _, h, k_X0_next, fun _ => rfl, fun h => absurd rfl h, fun hf => m_X0_next F l G _ _ _ hr⟩
  · cases h
set_option maxRecDepth 100000 in
theorem k_X0_leastOf : rx_Cal (rx_ny 17) (.code (rx_ny 17) prog_2_method_5_code 2 (some .int)) (rx_kd 17) 1 := ⟨prog_2_method_5_code, 2, (some .int), Or.inl rfl, rx_in (i := 229) (by rfl) (by rfl), rx_in (i := 48) (by decide +kernel) (by decide +kernel), ⟨(by decide +kernel), (by decide +kernel), (by decide +kernel)⟩, Nat.le_of_ble_eq_true rfl, fun _ => rx_in (i := 228) (by decide +kernel) (by decide +kernel), fun h => absurd h (by decide), fun h => absurd h (by decide)⟩
set_option maxRecDepth 100000 in
theorem tk_X0_leastOf : (t_X0_leastOf.all (rx_eok "SetHouse$Heap" prog_2_method_5_code 2 false false) && rx_adj t_X0_leastOf) = true := by decide +kernel
theorem s_X0_leastOf_0 {F : Nat × Nat} {l : Launch} {G : rx_G} {D : Nat} {hf : rx_H} {z : Int32} (hC : rx_CC l G D (C_X0_leastOf F) z) (x0 : Int64) (h : f_X0_leastOf_0 F x0 = some z) : rx_S l G ("SetHouse$Heap", prog_2_method_5_code, 2, false, false, D) hf hf rx_rI z 0 [some (.long x0), none] [] none := by
  rw [g_X0_leastOf_0] at h
  refine rx_S_node (md := ("SetHouse$Heap", prog_2_method_5_code, 2, false, false, D)) tk_X0_leastOf hC rx_m_rI (fun t ls st u h => ?_) h
  unfold kk_X0_leastOf_0 at h
  cases h
theorem cc_X0_leastOf (F : Nat × Nat) (l : Launch) (G : rx_G) {α : Type} (z : α) : rx_CC l G (2 + 0 * F.2) (C_X0_leastOf F) z := by
  intro j as u κ h
  unfold C_X0_leastOf at h
  rcases rx_rec_eq h with ⟨hb, h⟩ | ⟨hb, h⟩
  · have ht := Nat.eq_of_beq_eq_true hb
    subst ht
    exact (w_X0_next F l G h).deep (by omega)
  cases h
theorem m_X0_leastOf (F : Nat × Nat) (l : Launch) (G : rx_G) (hf : rx_H) (x0 : Int64) {z : Int32} (h : f_X0_leastOf F x0 = some z) : rx_Ok l G (3 + 0 * F.2) (rx_ny 17) (.code (rx_ny 17) prog_2_method_5_code 2 (some .int)) [.long x0] hf (some (.int z)) hf := by
  have h := h
  unfold f_X0_leastOf at h
  exact (rx_met (l := l) (G := G) (hf := hf) (as := [.long x0]) (r := (some (.int z))) (ls0 := [some (.long x0), none]) (y := rx_ny 17) (D := (2 + 0 * F.2)) (ini := false) (bo := false) (u := none) (u' := none) (by decide +kernel) (fun h => by cases h) (Nat.le_of_ble_eq_true rfl) (Or.inl ⟨rfl, rfl, _, rfl⟩) (fun Z hZ hB => rx_RT_rI hZ hB) (by exact ⟨Or.inr rfl, Or.inl rfl, trivial⟩) (s_X0_leastOf_0 (cc_X0_leastOf F l G z) x0 h)).deep (by omega)
theorem w_X0_leastOf (F : Nat × Nat) (l : Launch) (G : rx_G) {α : Type} {z : α} {as : List Value} {u : Option rx_H} {κ : rx_K α} (h : c_X0_leastOf F as u κ = some z) : rx_Cw l G (3 + 0 * F.2) 17 as u κ z := by
  unfold c_X0_leastOf at h
  split at h
  · obtain ⟨r, hr, h⟩ := Option.bind_eq_some_iff.mp h
    exact ⟨_, _, _, _, h, k_X0_leastOf, fun _ => rfl, fun h => absurd rfl h, fun hf => m_X0_leastOf F l G _ _ hr⟩
  · cases h
set_option maxRecDepth 100000 in
theorem k_X0_setAt : rx_Cal (rx_ny 26) (.code (rx_ny 26) prog_2_method_6_code 5 (some .int)) (rx_kd 26) 2 := ⟨prog_2_method_6_code, 5, (some .int), Or.inl rfl, rx_in (i := 285) (by rfl) (by rfl), rx_in (i := 48) (by decide +kernel) (by decide +kernel), ⟨(by decide +kernel), (by decide +kernel), (by decide +kernel)⟩, Nat.le_of_ble_eq_true rfl, fun _ => rx_in (i := 284) (by decide +kernel) (by decide +kernel), fun h => absurd h (by decide), fun h => absurd h (by decide)⟩
set_option maxRecDepth 100000 in
theorem tk_X0_setAt : (t_X0_setAt.all (rx_eok "SetHouse$Heap" prog_2_method_6_code 5 false false) && rx_adj t_X0_setAt) = true := by decide +kernel
theorem s_X0_setAt_35 {F : Nat × Nat} {l : Launch} {G : rx_G} {D : Nat} {hf : rx_H} {z : Int32} (hC : rx_CC l G D (C_X0_setAt F) z) (x3 : Int32) (h : f_X0_setAt_35 F x3 = some z) : rx_S l G ("SetHouse$Heap", prog_2_method_6_code, 5, false, false, D) hf hf rx_rI z 35 [none, none, none, some (.int x3), none] [] none := by
  rw [g_X0_setAt_35] at h
  refine rx_S_node (md := ("SetHouse$Heap", prog_2_method_6_code, 5, false, false, D)) tk_X0_setAt hC rx_m_rI (fun t ls st u h => ?_) h
  unfold kk_X0_setAt_35 at h
  cases h
theorem s_X0_setAt_9 {F : Nat × Nat} {l : Launch} {G : rx_G} {D : Nat} {hf : rx_H} {z : Int32} (hC : rx_CC l G D (C_X0_setAt F) z) : ∀ (f : Nat) (x0 : Int64) (x2 : Int32) (x3 : Int32) (x4 : Int32), f_X0_setAt_9 F f x0 x2 x3 x4 = some z → rx_S l G ("SetHouse$Heap", prog_2_method_6_code, 5, false, false, D) hf hf rx_rI z 9 [some (.long x0), none, some (.int x2), some (.int x3), some (.int x4)] [] none := by
  intro f
  induction f with
  | zero =>
    intro x0 x2 x3 x4 h
    cases h
  | succ f ih =>
    intro x0 x2 x3 x4 h
    rw [g_X0_setAt_9] at h
    refine rx_S_node (md := ("SetHouse$Heap", prog_2_method_6_code, 5, false, false, D)) tk_X0_setAt hC rx_m_rI (fun t ls st u h => ?_) h
    unfold kk_X0_setAt_9 at h
    rcases rx_rec_eq h with ⟨hb, h⟩ | ⟨hb, h⟩
    · have ht := Nat.eq_of_beq_eq_true hb
      subst ht
      unfold n_X0_setAt_9 at h
      split at h
      · exact (ih _ _ _ _ h).le ⟨Or.inr rfl, Or.inl rfl, Or.inr rfl, Or.inr rfl, Or.inr rfl, trivial⟩
      · cases h
    rcases rx_rec_eq h with ⟨hb, h⟩ | ⟨hb, h⟩
    · have ht := Nat.eq_of_beq_eq_true hb
      subst ht
      unfold n_X0_setAt_35 at h
      split at h
      · exact (s_X0_setAt_35 hC _ h).le ⟨Or.inl rfl, Or.inl rfl, Or.inl rfl, Or.inr rfl, Or.inl rfl, trivial⟩
      · cases h
    cases h
theorem s_X0_setAt_0 {F : Nat × Nat} {l : Launch} {G : rx_G} {D : Nat} {hf : rx_H} {z : Int32} (hC : rx_CC l G D (C_X0_setAt F) z) (x0 : Int64) (x2 : Int32) (h : f_X0_setAt_0 F x0 x2 = some z) : rx_S l G ("SetHouse$Heap", prog_2_method_6_code, 5, false, false, D) hf hf rx_rI z 0 [some (.long x0), none, some (.int x2), none, none] [] none := by
  rw [g_X0_setAt_0] at h
  refine rx_S_node (md := ("SetHouse$Heap", prog_2_method_6_code, 5, false, false, D)) tk_X0_setAt hC rx_m_rI (fun t ls st u h => ?_) h
  unfold kk_X0_setAt_0 at h
  rcases rx_rec_eq h with ⟨hb, h⟩ | ⟨hb, h⟩
  · have ht := Nat.eq_of_beq_eq_true hb
    subst ht
    unfold n_X0_setAt_9 at h
    split at h
    · exact (s_X0_setAt_9 hC _ _ _ _ _ h).le ⟨Or.inr rfl, Or.inl rfl, Or.inr rfl, Or.inr rfl, Or.inr rfl, trivial⟩
    · cases h
  cases h
theorem cc_X0_setAt (F : Nat × Nat) (l : Launch) (G : rx_G) {α : Type} (z : α) : rx_CC l G (2 + 0 * F.2) (C_X0_setAt F) z := by
  intro j as u κ h
  unfold C_X0_setAt at h
  rcases rx_rec_eq h with ⟨hb, h⟩ | ⟨hb, h⟩
  · have ht := Nat.eq_of_beq_eq_true hb
    subst ht
    exact (w_X0_next F l G h).deep (by omega)
  cases h
theorem m_X0_setAt (F : Nat × Nat) (l : Launch) (G : rx_G) (hf : rx_H) (x0 : Int64) (x2 : Int32) {z : Int32} (h : f_X0_setAt F x0 x2 = some z) : rx_Ok l G (3 + 0 * F.2) (rx_ny 26) (.code (rx_ny 26) prog_2_method_6_code 5 (some .int)) [.long x0, .int x2] hf (some (.int z)) hf := by
  have h := h
  unfold f_X0_setAt at h
  exact (rx_met (l := l) (G := G) (hf := hf) (as := [.long x0, .int x2]) (r := (some (.int z))) (ls0 := [some (.long x0), none, some (.int x2), none, none]) (y := rx_ny 26) (D := (2 + 0 * F.2)) (ini := false) (bo := false) (u := none) (u' := none) (by decide +kernel) (fun h => by cases h) (Nat.le_of_ble_eq_true rfl) (Or.inl ⟨rfl, rfl, _, rfl⟩) (fun Z hZ hB => rx_RT_rI hZ hB) (by exact ⟨Or.inr rfl, Or.inl rfl, Or.inr rfl, Or.inl rfl, Or.inl rfl, trivial⟩) (s_X0_setAt_0 (cc_X0_setAt F l G z) x0 x2 h)).deep (by omega)
theorem w_X0_setAt (F : Nat × Nat) (l : Launch) (G : rx_G) {α : Type} {z : α} {as : List Value} {u : Option rx_H} {κ : rx_K α} (h : c_X0_setAt F as u κ = some z) : rx_Cw l G (3 + 0 * F.2) 26 as u κ z := by
  unfold c_X0_setAt at h
  split at h
  · obtain ⟨r, hr, h⟩ := Option.bind_eq_some_iff.mp h
    exact ⟨_, _, _, _, h, k_X0_setAt, fun _ => rfl, fun h => absurd rfl h, fun hf => m_X0_setAt F l G _ _ _ hr⟩
  · cases h
set_option maxRecDepth 100000 in
theorem k_X0_within : rx_Cal (rx_ny 30) (.code (rx_ny 30) prog_2_method_8_code 4 (some .long)) (rx_kd 30) 1 := ⟨prog_2_method_8_code, 4, (some .long), Or.inl rfl, rx_in (i := 222) (by rfl) (by rfl), rx_in (i := 48) (by decide +kernel) (by decide +kernel), ⟨(by decide +kernel), (by decide +kernel), (by decide +kernel)⟩, Nat.le_of_ble_eq_true rfl, fun _ => rx_in (i := 221) (by decide +kernel) (by decide +kernel), fun h => absurd h (by decide), fun h => absurd h (by decide)⟩
set_option maxRecDepth 100000 in
theorem tk_X0_within : (t_X0_within.all (rx_eok "SetHouse$Heap" prog_2_method_8_code 4 false false) && rx_adj t_X0_within) = true := by decide +kernel
theorem s_X0_within_4 {F : Nat × Nat} {l : Launch} {G : rx_G} {D : Nat} {hf : rx_H} {z : Int64} (hC : rx_CC l G D (C_X0_within F) z) : ∀ (f : Nat) (x0 : Int32) (x1 : Int64) (x3 : Int32), f_X0_within_4 F f x0 x1 x3 = some z → rx_S l G ("SetHouse$Heap", prog_2_method_8_code, 4, false, false, D) hf hf rx_rJ z 4 [some (.int x0), some (.long x1), none, some (.int x3)] [] none := by
  intro f
  induction f with
  | zero =>
    intro x0 x1 x3 h
    cases h
  | succ f ih =>
    intro x0 x1 x3 h
    rw [g_X0_within_4] at h
    refine rx_S_node (md := ("SetHouse$Heap", prog_2_method_8_code, 4, false, false, D)) tk_X0_within hC rx_m_rJ (fun t ls st u h => ?_) h
    unfold kk_X0_within_4 at h
    rcases rx_rec_eq h with ⟨hb, h⟩ | ⟨hb, h⟩
    · have ht := Nat.eq_of_beq_eq_true hb
      subst ht
      unfold n_X0_within_4 at h
      split at h
      · exact (ih _ _ _ h).le ⟨Or.inr rfl, Or.inr rfl, Or.inl rfl, Or.inr rfl, trivial⟩
      · cases h
    cases h
theorem s_X0_within_0 {F : Nat × Nat} {l : Launch} {G : rx_G} {D : Nat} {hf : rx_H} {z : Int64} (hC : rx_CC l G D (C_X0_within F) z) (x0 : Int32) (h : f_X0_within_0 F x0 = some z) : rx_S l G ("SetHouse$Heap", prog_2_method_8_code, 4, false, false, D) hf hf rx_rJ z 0 [some (.int x0), none, none, none] [] none := by
  rw [g_X0_within_0] at h
  refine rx_S_node (md := ("SetHouse$Heap", prog_2_method_8_code, 4, false, false, D)) tk_X0_within hC rx_m_rJ (fun t ls st u h => ?_) h
  unfold kk_X0_within_0 at h
  rcases rx_rec_eq h with ⟨hb, h⟩ | ⟨hb, h⟩
  · have ht := Nat.eq_of_beq_eq_true hb
    subst ht
    unfold n_X0_within_4 at h
    split at h
    · exact (s_X0_within_4 hC _ _ _ _ h).le ⟨Or.inr rfl, Or.inr rfl, Or.inl rfl, Or.inr rfl, trivial⟩
    · cases h
  cases h
theorem cc_X0_within (F : Nat × Nat) (l : Launch) (G : rx_G) {α : Type} (z : α) : rx_CC l G (0 + 0 * F.2) (C_X0_within F) z := by
  intro j as u κ h
  unfold C_X0_within at h
  cases h
theorem m_X0_within (F : Nat × Nat) (l : Launch) (G : rx_G) (hf : rx_H) (x0 : Int32) {z : Int64} (h : f_X0_within F x0 = some z) : rx_Ok l G (1 + 0 * F.2) (rx_ny 30) (.code (rx_ny 30) prog_2_method_8_code 4 (some .long)) [.int x0] hf (some (.long z)) hf := by
  have h := h
  unfold f_X0_within at h
  exact (rx_met (l := l) (G := G) (hf := hf) (as := [.int x0]) (r := (some (.long z))) (ls0 := [some (.int x0), none, none, none]) (y := rx_ny 30) (D := (0 + 0 * F.2)) (ini := false) (bo := false) (u := none) (u' := none) (by decide +kernel) (fun h => by cases h) (Nat.le_of_ble_eq_true rfl) (Or.inr (Or.inr (Or.inl ⟨rfl, _, rfl⟩))) (fun Z hZ hB => rx_RT_rJ hZ hB) (by exact ⟨Or.inr rfl, Or.inl rfl, Or.inl rfl, Or.inl rfl, trivial⟩) (s_X0_within_0 (cc_X0_within F l G z) x0 h)).deep (by omega)
theorem w_X0_within (F : Nat × Nat) (l : Launch) (G : rx_G) {α : Type} {z : α} {as : List Value} {u : Option rx_H} {κ : rx_K α} (h : c_X0_within F as u κ = some z) : rx_Cw l G (1 + 0 * F.2) 30 as u κ z := by
  unfold c_X0_within at h
  split at h
  · obtain ⟨r, hr, h⟩ := Option.bind_eq_some_iff.mp h
    exact ⟨_, _, _, _, h, k_X0_within, fun _ => rfl, fun h => absurd rfl h, fun hf => m_X0_within F l G _ _ hr⟩
  · cases h
set_option maxRecDepth 100000 in
theorem k_X0_around : rx_Cal (rx_ny 10) (.code (rx_ny 10) prog_2_method_9_code 1 (some .long)) (rx_kd 10) 1 := ⟨prog_2_method_9_code, 1, (some .long), Or.inl rfl, rx_in (i := 225) (by rfl) (by rfl), rx_in (i := 48) (by decide +kernel) (by decide +kernel), ⟨(by decide +kernel), (by decide +kernel), (by decide +kernel)⟩, Nat.le_of_ble_eq_true rfl, fun _ => rx_in (i := 224) (by decide +kernel) (by decide +kernel), fun h => absurd h (by decide), fun h => absurd h (by decide)⟩
set_option maxRecDepth 100000 in
theorem tk_X0_around : (t_X0_around.all (rx_eok "SetHouse$Heap" prog_2_method_9_code 1 false false) && rx_adj t_X0_around) = true := by decide +kernel
theorem s_X0_around_0 {F : Nat × Nat} {l : Launch} {G : rx_G} {D : Nat} {hf : rx_H} {z : Int64} (hC : rx_CC l G D (C_X0_around F) z) (x0 : Int32) (h : f_X0_around_0 F x0 = some z) : rx_S l G ("SetHouse$Heap", prog_2_method_9_code, 1, false, false, D) hf hf rx_rJ z 0 [some (.int x0)] [] none := by
  rw [g_X0_around_0] at h
  refine rx_S_node (md := ("SetHouse$Heap", prog_2_method_9_code, 1, false, false, D)) tk_X0_around hC rx_m_rJ (fun t ls st u h => ?_) h
  unfold kk_X0_around_0 at h
  cases h
theorem cc_X0_around (F : Nat × Nat) (l : Launch) (G : rx_G) {α : Type} (z : α) : rx_CC l G (1 + 0 * F.2) (C_X0_around F) z := by
  intro j as u κ h
  unfold C_X0_around at h
  rcases rx_rec_eq h with ⟨hb, h⟩ | ⟨hb, h⟩
  · have ht := Nat.eq_of_beq_eq_true hb
    subst ht
    exact (w_X0_within F l G h).deep (by omega)
  cases h
theorem m_X0_around (F : Nat × Nat) (l : Launch) (G : rx_G) (hf : rx_H) (x0 : Int32) {z : Int64} (h : f_X0_around F x0 = some z) : rx_Ok l G (2 + 0 * F.2) (rx_ny 10) (.code (rx_ny 10) prog_2_method_9_code 1 (some .long)) [.int x0] hf (some (.long z)) hf := by
  have h := h
  unfold f_X0_around at h
  exact (rx_met (l := l) (G := G) (hf := hf) (as := [.int x0]) (r := (some (.long z))) (ls0 := [some (.int x0)]) (y := rx_ny 10) (D := (1 + 0 * F.2)) (ini := false) (bo := false) (u := none) (u' := none) (by decide +kernel) (fun h => by cases h) (Nat.le_of_ble_eq_true rfl) (Or.inr (Or.inr (Or.inl ⟨rfl, _, rfl⟩))) (fun Z hZ hB => rx_RT_rJ hZ hB) (by exact ⟨Or.inr rfl, trivial⟩) (s_X0_around_0 (cc_X0_around F l G z) x0 h)).deep (by omega)
theorem w_X0_around (F : Nat × Nat) (l : Launch) (G : rx_G) {α : Type} {z : α} {as : List Value} {u : Option rx_H} {κ : rx_K α} (h : c_X0_around F as u κ = some z) : rx_Cw l G (2 + 0 * F.2) 10 as u κ z := by
  unfold c_X0_around at h
  split at h
  · obtain ⟨r, hr, h⟩ := Option.bind_eq_some_iff.mp h
    exact ⟨_, _, _, _, h, k_X0_around, fun _ => rfl, fun h => absurd rfl h, fun hf => m_X0_around F l G _ _ hr⟩
  · cases h
set_option maxRecDepth 100000 in
theorem k_X0_lackingThing : rx_Cal (rx_ny 16) (.code (rx_ny 16) prog_2_method_10_code 3 (some .long)) (rx_kd 16) 2 := ⟨prog_2_method_10_code, 3, (some .long), Or.inl rfl, rx_in (i := 368) (by rfl) (by rfl), rx_in (i := 48) (by decide +kernel) (by decide +kernel), ⟨(by decide +kernel), (by decide +kernel), (by decide +kernel)⟩, Nat.le_of_ble_eq_true rfl, fun _ => rx_in (i := 367) (by decide +kernel) (by decide +kernel), fun h => absurd h (by decide), fun h => absurd h (by decide)⟩
set_option maxRecDepth 100000 in
theorem tk_X0_lackingThing : (t_X0_lackingThing.all (rx_eok "SetHouse$Heap" prog_2_method_10_code 3 false false) && rx_adj t_X0_lackingThing) = true := by decide +kernel
theorem s_X0_lackingThing_0 {F : Nat × Nat} {l : Launch} {G : rx_G} {D : Nat} {hf : rx_H} {z : Int64} (hC : rx_CC l G D (C_X0_lackingThing F) z) (x0 : Int64) (x2 : Int32) (h : f_X0_lackingThing_0 F x0 x2 = some z) : rx_S l G ("SetHouse$Heap", prog_2_method_10_code, 3, false, false, D) hf hf rx_rJ z 0 [some (.long x0), none, some (.int x2)] [] none := by
  rw [g_X0_lackingThing_0] at h
  refine rx_S_node (md := ("SetHouse$Heap", prog_2_method_10_code, 3, false, false, D)) tk_X0_lackingThing hC rx_m_rJ (fun t ls st u h => ?_) h
  unfold kk_X0_lackingThing_0 at h
  cases h
theorem cc_X0_lackingThing (F : Nat × Nat) (l : Launch) (G : rx_G) {α : Type} (z : α) : rx_CC l G (0 + 0 * F.2) (C_X0_lackingThing F) z := by
  intro j as u κ h
  unfold C_X0_lackingThing at h
  cases h
theorem m_X0_lackingThing (F : Nat × Nat) (l : Launch) (G : rx_G) (hf : rx_H) (x0 : Int64) (x2 : Int32) {z : Int64} (h : f_X0_lackingThing F x0 x2 = some z) : rx_Ok l G (1 + 0 * F.2) (rx_ny 16) (.code (rx_ny 16) prog_2_method_10_code 3 (some .long)) [.long x0, .int x2] hf (some (.long z)) hf := by
  have h := h
  unfold f_X0_lackingThing at h
  exact (rx_met (l := l) (G := G) (hf := hf) (as := [.long x0, .int x2]) (r := (some (.long z))) (ls0 := [some (.long x0), none, some (.int x2)]) (y := rx_ny 16) (D := (0 + 0 * F.2)) (ini := false) (bo := false) (u := none) (u' := none) (by decide +kernel) (fun h => by cases h) (Nat.le_of_ble_eq_true rfl) (Or.inr (Or.inr (Or.inl ⟨rfl, _, rfl⟩))) (fun Z hZ hB => rx_RT_rJ hZ hB) (by exact ⟨Or.inr rfl, Or.inl rfl, Or.inr rfl, trivial⟩) (s_X0_lackingThing_0 (cc_X0_lackingThing F l G z) x0 x2 h)).deep (by omega)
theorem w_X0_lackingThing (F : Nat × Nat) (l : Launch) (G : rx_G) {α : Type} {z : α} {as : List Value} {u : Option rx_H} {κ : rx_K α} (h : c_X0_lackingThing F as u κ = some z) : rx_Cw l G (1 + 0 * F.2) 16 as u κ z := by
  unfold c_X0_lackingThing at h
  split at h
  · obtain ⟨r, hr, h⟩ := Option.bind_eq_some_iff.mp h
    exact ⟨_, _, _, _, h, k_X0_lackingThing, fun _ => rfl, fun h => absurd rfl h, fun hf => m_X0_lackingThing F l G _ _ _ hr⟩
  · cases h
set_option maxRecDepth 100000 in
theorem k_X0_lessThing : rx_Cal (rx_ny 18) (.code (rx_ny 18) prog_2_method_11_code 3 (some .long)) (rx_kd 18) 2 := ⟨prog_2_method_11_code, 3, (some .long), Or.inl rfl, rx_in (i := 318) (by rfl) (by rfl), rx_in (i := 48) (by decide +kernel) (by decide +kernel), ⟨(by decide +kernel), (by decide +kernel), (by decide +kernel)⟩, Nat.le_of_ble_eq_true rfl, fun _ => rx_in (i := 317) (by decide +kernel) (by decide +kernel), fun h => absurd h (by decide), fun h => absurd h (by decide)⟩
set_option maxRecDepth 100000 in
theorem tk_X0_lessThing : (t_X0_lessThing.all (rx_eok "SetHouse$Heap" prog_2_method_11_code 3 false false) && rx_adj t_X0_lessThing) = true := by decide +kernel
theorem s_X0_lessThing_0 {F : Nat × Nat} {l : Launch} {G : rx_G} {D : Nat} {hf : rx_H} {z : Int64} (hC : rx_CC l G D (C_X0_lessThing F) z) (x0 : Int64) (x2 : Int32) (h : f_X0_lessThing_0 F x0 x2 = some z) : rx_S l G ("SetHouse$Heap", prog_2_method_11_code, 3, false, false, D) hf hf rx_rJ z 0 [some (.long x0), none, some (.int x2)] [] none := by
  rw [g_X0_lessThing_0] at h
  refine rx_S_node (md := ("SetHouse$Heap", prog_2_method_11_code, 3, false, false, D)) tk_X0_lessThing hC rx_m_rJ (fun t ls st u h => ?_) h
  unfold kk_X0_lessThing_0 at h
  cases h
theorem cc_X0_lessThing (F : Nat × Nat) (l : Launch) (G : rx_G) {α : Type} (z : α) : rx_CC l G (0 + 0 * F.2) (C_X0_lessThing F) z := by
  intro j as u κ h
  unfold C_X0_lessThing at h
  cases h
theorem m_X0_lessThing (F : Nat × Nat) (l : Launch) (G : rx_G) (hf : rx_H) (x0 : Int64) (x2 : Int32) {z : Int64} (h : f_X0_lessThing F x0 x2 = some z) : rx_Ok l G (1 + 0 * F.2) (rx_ny 18) (.code (rx_ny 18) prog_2_method_11_code 3 (some .long)) [.long x0, .int x2] hf (some (.long z)) hf := by
  have h := h
  unfold f_X0_lessThing at h
  exact (rx_met (l := l) (G := G) (hf := hf) (as := [.long x0, .int x2]) (r := (some (.long z))) (ls0 := [some (.long x0), none, some (.int x2)]) (y := rx_ny 18) (D := (0 + 0 * F.2)) (ini := false) (bo := false) (u := none) (u' := none) (by decide +kernel) (fun h => by cases h) (Nat.le_of_ble_eq_true rfl) (Or.inr (Or.inr (Or.inl ⟨rfl, _, rfl⟩))) (fun Z hZ hB => rx_RT_rJ hZ hB) (by exact ⟨Or.inr rfl, Or.inl rfl, Or.inr rfl, trivial⟩) (s_X0_lessThing_0 (cc_X0_lessThing F l G z) x0 x2 h)).deep (by omega)
theorem w_X0_lessThing (F : Nat × Nat) (l : Launch) (G : rx_G) {α : Type} {z : α} {as : List Value} {u : Option rx_H} {κ : rx_K α} (h : c_X0_lessThing F as u κ = some z) : rx_Cw l G (1 + 0 * F.2) 18 as u κ z := by
  unfold c_X0_lessThing at h
  split at h
  · obtain ⟨r, hr, h⟩ := Option.bind_eq_some_iff.mp h
    exact ⟨_, _, _, _, h, k_X0_lessThing, fun _ => rfl, fun h => absurd rfl h, fun hf => m_X0_lessThing F l G _ _ _ hr⟩
  · cases h
set_option maxRecDepth 100000 in
theorem k_X0_moreThing : rx_Cal (rx_ny 21) (.code (rx_ny 21) prog_2_method_12_code 3 (some .long)) (rx_kd 21) 2 := ⟨prog_2_method_12_code, 3, (some .long), Or.inl rfl, rx_in (i := 334) (by rfl) (by rfl), rx_in (i := 48) (by decide +kernel) (by decide +kernel), ⟨(by decide +kernel), (by decide +kernel), (by decide +kernel)⟩, Nat.le_of_ble_eq_true rfl, fun _ => rx_in (i := 333) (by decide +kernel) (by decide +kernel), fun h => absurd h (by decide), fun h => absurd h (by decide)⟩
set_option maxRecDepth 100000 in
theorem tk_X0_moreThing : (t_X0_moreThing.all (rx_eok "SetHouse$Heap" prog_2_method_12_code 3 false false) && rx_adj t_X0_moreThing) = true := by decide +kernel
theorem s_X0_moreThing_0 {F : Nat × Nat} {l : Launch} {G : rx_G} {D : Nat} {hf : rx_H} {z : Int64} (hC : rx_CC l G D (C_X0_moreThing F) z) (x0 : Int64) (x2 : Int32) (h : f_X0_moreThing_0 F x0 x2 = some z) : rx_S l G ("SetHouse$Heap", prog_2_method_12_code, 3, false, false, D) hf hf rx_rJ z 0 [some (.long x0), none, some (.int x2)] [] none := by
  rw [g_X0_moreThing_0] at h
  refine rx_S_node (md := ("SetHouse$Heap", prog_2_method_12_code, 3, false, false, D)) tk_X0_moreThing hC rx_m_rJ (fun t ls st u h => ?_) h
  unfold kk_X0_moreThing_0 at h
  cases h
theorem cc_X0_moreThing (F : Nat × Nat) (l : Launch) (G : rx_G) {α : Type} (z : α) : rx_CC l G (0 + 0 * F.2) (C_X0_moreThing F) z := by
  intro j as u κ h
  unfold C_X0_moreThing at h
  cases h
theorem m_X0_moreThing (F : Nat × Nat) (l : Launch) (G : rx_G) (hf : rx_H) (x0 : Int64) (x2 : Int32) {z : Int64} (h : f_X0_moreThing F x0 x2 = some z) : rx_Ok l G (1 + 0 * F.2) (rx_ny 21) (.code (rx_ny 21) prog_2_method_12_code 3 (some .long)) [.long x0, .int x2] hf (some (.long z)) hf := by
  have h := h
  unfold f_X0_moreThing at h
  exact (rx_met (l := l) (G := G) (hf := hf) (as := [.long x0, .int x2]) (r := (some (.long z))) (ls0 := [some (.long x0), none, some (.int x2)]) (y := rx_ny 21) (D := (0 + 0 * F.2)) (ini := false) (bo := false) (u := none) (u' := none) (by decide +kernel) (fun h => by cases h) (Nat.le_of_ble_eq_true rfl) (Or.inr (Or.inr (Or.inl ⟨rfl, _, rfl⟩))) (fun Z hZ hB => rx_RT_rJ hZ hB) (by exact ⟨Or.inr rfl, Or.inl rfl, Or.inr rfl, trivial⟩) (s_X0_moreThing_0 (cc_X0_moreThing F l G z) x0 x2 h)).deep (by omega)
theorem w_X0_moreThing (F : Nat × Nat) (l : Launch) (G : rx_G) {α : Type} {z : α} {as : List Value} {u : Option rx_H} {κ : rx_K α} (h : c_X0_moreThing F as u κ = some z) : rx_Cw l G (1 + 0 * F.2) 21 as u κ z := by
  unfold c_X0_moreThing at h
  split at h
  · obtain ⟨r, hr, h⟩ := Option.bind_eq_some_iff.mp h
    exact ⟨_, _, _, _, h, k_X0_moreThing, fun _ => rfl, fun h => absurd rfl h, fun hf => m_X0_moreThing F l G _ _ _ hr⟩
  · cases h
set_option maxRecDepth 100000 in
theorem k_X0_oneLess : rx_Cal (rx_ny 24) (.code (rx_ny 24) prog_2_method_13_code 5 (some .long)) (rx_kd 24) 1 := ⟨prog_2_method_13_code, 5, (some .long), Or.inl rfl, rx_in (i := 315) (by rfl) (by rfl), rx_in (i := 48) (by decide +kernel) (by decide +kernel), ⟨(by decide +kernel), (by decide +kernel), (by decide +kernel)⟩, Nat.le_of_ble_eq_true rfl, fun _ => rx_in (i := 314) (by decide +kernel) (by decide +kernel), fun h => absurd h (by decide), fun h => absurd h (by decide)⟩
set_option maxRecDepth 100000 in
theorem tk_X0_oneLess : (t_X0_oneLess.all (rx_eok "SetHouse$Heap" prog_2_method_13_code 5 false false) && rx_adj t_X0_oneLess) = true := by decide +kernel
theorem s_X0_oneLess_5 {F : Nat × Nat} {l : Launch} {G : rx_G} {D : Nat} {hf : rx_H} {z : Int64} (hC : rx_CC l G D (C_X0_oneLess F) z) : ∀ (f : Nat) (x0 : Int64) (x2 : Int64) (x4 : Int32), f_X0_oneLess_5 F f x0 x2 x4 = some z → rx_S l G ("SetHouse$Heap", prog_2_method_13_code, 5, false, false, D) hf hf rx_rJ z 5 [some (.long x0), none, some (.long x2), none, some (.int x4)] [] none := by
  intro f
  induction f with
  | zero =>
    intro x0 x2 x4 h
    cases h
  | succ f ih =>
    intro x0 x2 x4 h
    rw [g_X0_oneLess_5] at h
    refine rx_S_node (md := ("SetHouse$Heap", prog_2_method_13_code, 5, false, false, D)) tk_X0_oneLess hC rx_m_rJ (fun t ls st u h => ?_) h
    unfold kk_X0_oneLess_5 at h
    rcases rx_rec_eq h with ⟨hb, h⟩ | ⟨hb, h⟩
    · have ht := Nat.eq_of_beq_eq_true hb
      subst ht
      unfold n_X0_oneLess_5 at h
      split at h
      · exact (ih _ _ _ h).le ⟨Or.inr rfl, Or.inl rfl, Or.inr rfl, Or.inl rfl, Or.inr rfl, trivial⟩
      · cases h
    cases h
theorem s_X0_oneLess_0 {F : Nat × Nat} {l : Launch} {G : rx_G} {D : Nat} {hf : rx_H} {z : Int64} (hC : rx_CC l G D (C_X0_oneLess F) z) (x0 : Int64) (h : f_X0_oneLess_0 F x0 = some z) : rx_S l G ("SetHouse$Heap", prog_2_method_13_code, 5, false, false, D) hf hf rx_rJ z 0 [some (.long x0), none, none, none, none] [] none := by
  rw [g_X0_oneLess_0] at h
  refine rx_S_node (md := ("SetHouse$Heap", prog_2_method_13_code, 5, false, false, D)) tk_X0_oneLess hC rx_m_rJ (fun t ls st u h => ?_) h
  unfold kk_X0_oneLess_0 at h
  rcases rx_rec_eq h with ⟨hb, h⟩ | ⟨hb, h⟩
  · have ht := Nat.eq_of_beq_eq_true hb
    subst ht
    unfold n_X0_oneLess_5 at h
    split at h
    · exact (s_X0_oneLess_5 hC _ _ _ _ h).le ⟨Or.inr rfl, Or.inl rfl, Or.inr rfl, Or.inl rfl, Or.inr rfl, trivial⟩
    · cases h
  cases h
theorem cc_X0_oneLess (F : Nat × Nat) (l : Launch) (G : rx_G) {α : Type} (z : α) : rx_CC l G (1 + 0 * F.2) (C_X0_oneLess F) z := by
  intro j as u κ h
  unfold C_X0_oneLess at h
  rcases rx_rec_eq h with ⟨hb, h⟩ | ⟨hb, h⟩
  · have ht := Nat.eq_of_beq_eq_true hb
    subst ht
    exact (w_X0_lessThing F l G h).deep (by omega)
  cases h
theorem m_X0_oneLess (F : Nat × Nat) (l : Launch) (G : rx_G) (hf : rx_H) (x0 : Int64) {z : Int64} (h : f_X0_oneLess F x0 = some z) : rx_Ok l G (2 + 0 * F.2) (rx_ny 24) (.code (rx_ny 24) prog_2_method_13_code 5 (some .long)) [.long x0] hf (some (.long z)) hf := by
  have h := h
  unfold f_X0_oneLess at h
  exact (rx_met (l := l) (G := G) (hf := hf) (as := [.long x0]) (r := (some (.long z))) (ls0 := [some (.long x0), none, none, none, none]) (y := rx_ny 24) (D := (1 + 0 * F.2)) (ini := false) (bo := false) (u := none) (u' := none) (by decide +kernel) (fun h => by cases h) (Nat.le_of_ble_eq_true rfl) (Or.inr (Or.inr (Or.inl ⟨rfl, _, rfl⟩))) (fun Z hZ hB => rx_RT_rJ hZ hB) (by exact ⟨Or.inr rfl, Or.inl rfl, Or.inl rfl, Or.inl rfl, Or.inl rfl, trivial⟩) (s_X0_oneLess_0 (cc_X0_oneLess F l G z) x0 h)).deep (by omega)
theorem w_X0_oneLess (F : Nat × Nat) (l : Launch) (G : rx_G) {α : Type} {z : α} {as : List Value} {u : Option rx_H} {κ : rx_K α} (h : c_X0_oneLess F as u κ = some z) : rx_Cw l G (2 + 0 * F.2) 24 as u κ z := by
  unfold c_X0_oneLess at h
  split at h
  · obtain ⟨r, hr, h⟩ := Option.bind_eq_some_iff.mp h
    exact ⟨_, _, _, _, h, k_X0_oneLess, fun _ => rfl, fun h => absurd rfl h, fun hf => m_X0_oneLess F l G _ _ hr⟩
  · cases h
set_option maxRecDepth 100000 in
theorem k_X0_oneMore : rx_Cal (rx_ny 25) (.code (rx_ny 25) prog_2_method_14_code 6 (some .long)) (rx_kd 25) 2 := ⟨prog_2_method_14_code, 6, (some .long), Or.inl rfl, rx_in (i := 331) (by rfl) (by rfl), rx_in (i := 48) (by decide +kernel) (by decide +kernel), ⟨(by decide +kernel), (by decide +kernel), (by decide +kernel)⟩, Nat.le_of_ble_eq_true rfl, fun _ => rx_in (i := 330) (by decide +kernel) (by decide +kernel), fun h => absurd h (by decide), fun h => absurd h (by decide)⟩
set_option maxRecDepth 100000 in
theorem tk_X0_oneMore : (t_X0_oneMore.all (rx_eok "SetHouse$Heap" prog_2_method_14_code 6 false false) && rx_adj t_X0_oneMore) = true := by decide +kernel
theorem s_X0_oneMore_5 {F : Nat × Nat} {l : Launch} {G : rx_G} {D : Nat} {hf : rx_H} {z : Int64} (hC : rx_CC l G D (C_X0_oneMore F) z) : ∀ (f : Nat) (x0 : Int64) (x2 : Int32) (x3 : Int64) (x5 : Int32), f_X0_oneMore_5 F f x0 x2 x3 x5 = some z → rx_S l G ("SetHouse$Heap", prog_2_method_14_code, 6, false, false, D) hf hf rx_rJ z 5 [some (.long x0), none, some (.int x2), some (.long x3), none, some (.int x5)] [] none := by
  intro f
  induction f with
  | zero =>
    intro x0 x2 x3 x5 h
    cases h
  | succ f ih =>
    intro x0 x2 x3 x5 h
    rw [g_X0_oneMore_5] at h
    refine rx_S_node (md := ("SetHouse$Heap", prog_2_method_14_code, 6, false, false, D)) tk_X0_oneMore hC rx_m_rJ (fun t ls st u h => ?_) h
    unfold kk_X0_oneMore_5 at h
    rcases rx_rec_eq h with ⟨hb, h⟩ | ⟨hb, h⟩
    · have ht := Nat.eq_of_beq_eq_true hb
      subst ht
      unfold n_X0_oneMore_5 at h
      split at h
      · exact (ih _ _ _ _ h).le ⟨Or.inr rfl, Or.inl rfl, Or.inr rfl, Or.inr rfl, Or.inl rfl, Or.inr rfl, trivial⟩
      · cases h
    cases h
theorem s_X0_oneMore_0 {F : Nat × Nat} {l : Launch} {G : rx_G} {D : Nat} {hf : rx_H} {z : Int64} (hC : rx_CC l G D (C_X0_oneMore F) z) (x0 : Int64) (x2 : Int32) (h : f_X0_oneMore_0 F x0 x2 = some z) : rx_S l G ("SetHouse$Heap", prog_2_method_14_code, 6, false, false, D) hf hf rx_rJ z 0 [some (.long x0), none, some (.int x2), none, none, none] [] none := by
  rw [g_X0_oneMore_0] at h
  refine rx_S_node (md := ("SetHouse$Heap", prog_2_method_14_code, 6, false, false, D)) tk_X0_oneMore hC rx_m_rJ (fun t ls st u h => ?_) h
  unfold kk_X0_oneMore_0 at h
  rcases rx_rec_eq h with ⟨hb, h⟩ | ⟨hb, h⟩
  · have ht := Nat.eq_of_beq_eq_true hb
    subst ht
    unfold n_X0_oneMore_5 at h
    split at h
    · exact (s_X0_oneMore_5 hC _ _ _ _ _ h).le ⟨Or.inr rfl, Or.inl rfl, Or.inr rfl, Or.inr rfl, Or.inl rfl, Or.inr rfl, trivial⟩
    · cases h
  cases h
theorem cc_X0_oneMore (F : Nat × Nat) (l : Launch) (G : rx_G) {α : Type} (z : α) : rx_CC l G (1 + 0 * F.2) (C_X0_oneMore F) z := by
  intro j as u κ h
  unfold C_X0_oneMore at h
  rcases rx_rec_eq h with ⟨hb, h⟩ | ⟨hb, h⟩
  · have ht := Nat.eq_of_beq_eq_true hb
    subst ht
    exact (w_X0_moreThing F l G h).deep (by omega)
  cases h
theorem m_X0_oneMore (F : Nat × Nat) (l : Launch) (G : rx_G) (hf : rx_H) (x0 : Int64) (x2 : Int32) {z : Int64} (h : f_X0_oneMore F x0 x2 = some z) : rx_Ok l G (2 + 0 * F.2) (rx_ny 25) (.code (rx_ny 25) prog_2_method_14_code 6 (some .long)) [.long x0, .int x2] hf (some (.long z)) hf := by
  have h := h
  unfold f_X0_oneMore at h
  exact (rx_met (l := l) (G := G) (hf := hf) (as := [.long x0, .int x2]) (r := (some (.long z))) (ls0 := [some (.long x0), none, some (.int x2), none, none, none]) (y := rx_ny 25) (D := (1 + 0 * F.2)) (ini := false) (bo := false) (u := none) (u' := none) (by decide +kernel) (fun h => by cases h) (Nat.le_of_ble_eq_true rfl) (Or.inr (Or.inr (Or.inl ⟨rfl, _, rfl⟩))) (fun Z hZ hB => rx_RT_rJ hZ hB) (by exact ⟨Or.inr rfl, Or.inl rfl, Or.inr rfl, Or.inl rfl, Or.inl rfl, Or.inl rfl, trivial⟩) (s_X0_oneMore_0 (cc_X0_oneMore F l G z) x0 x2 h)).deep (by omega)
theorem w_X0_oneMore (F : Nat × Nat) (l : Launch) (G : rx_G) {α : Type} {z : α} {as : List Value} {u : Option rx_H} {κ : rx_K α} (h : c_X0_oneMore F as u κ = some z) : rx_Cw l G (2 + 0 * F.2) 25 as u κ z := by
  unfold c_X0_oneMore at h
  split at h
  · obtain ⟨r, hr, h⟩ := Option.bind_eq_some_iff.mp h
    exact ⟨_, _, _, _, h, k_X0_oneMore, fun _ => rfl, fun h => absurd rfl h, fun hf => m_X0_oneMore F l G _ _ _ hr⟩
  · cases h
set_option maxRecDepth 100000 in
theorem k_X0_allBelow : rx_Cal (rx_ny 9) (.code (rx_ny 9) prog_2_method_15_code 5 (some .long)) (rx_kd 9) 1 := ⟨prog_2_method_15_code, 5, (some .long), Or.inl rfl, rx_in (i := 344) (by rfl) (by rfl), rx_in (i := 48) (by decide +kernel) (by decide +kernel), ⟨(by decide +kernel), (by decide +kernel), (by decide +kernel)⟩, Nat.le_of_ble_eq_true rfl, fun _ => rx_in (i := 343) (by decide +kernel) (by decide +kernel), fun h => absurd h (by decide), fun h => absurd h (by decide)⟩
set_option maxRecDepth 100000 in
theorem tk_X0_allBelow : (t_X0_allBelow.all (rx_eok "SetHouse$Heap" prog_2_method_15_code 5 false false) && rx_adj t_X0_allBelow) = true := by decide +kernel
theorem s_X0_allBelow_5 {F : Nat × Nat} {l : Launch} {G : rx_G} {D : Nat} {hf : rx_H} {z : Int64} (hC : rx_CC l G D (C_X0_allBelow F) z) : ∀ (f : Nat) (x2 : Int64) (x4 : Int32), f_X0_allBelow_5 F f x2 x4 = some z → rx_S l G ("SetHouse$Heap", prog_2_method_15_code, 5, false, false, D) hf hf rx_rJ z 5 [none, none, some (.long x2), none, some (.int x4)] [] none := by
  intro f
  induction f with
  | zero =>
    intro x2 x4 h
    cases h
  | succ f ih =>
    intro x2 x4 h
    rw [g_X0_allBelow_5] at h
    refine rx_S_node (md := ("SetHouse$Heap", prog_2_method_15_code, 5, false, false, D)) tk_X0_allBelow hC rx_m_rJ (fun t ls st u h => ?_) h
    unfold kk_X0_allBelow_5 at h
    rcases rx_rec_eq h with ⟨hb, h⟩ | ⟨hb, h⟩
    · have ht := Nat.eq_of_beq_eq_true hb
      subst ht
      unfold n_X0_allBelow_5 at h
      split at h
      · exact (ih _ _ h).le ⟨Or.inl rfl, Or.inl rfl, Or.inr rfl, Or.inl rfl, Or.inr rfl, trivial⟩
      · cases h
    cases h
theorem s_X0_allBelow_0 {F : Nat × Nat} {l : Launch} {G : rx_G} {D : Nat} {hf : rx_H} {z : Int64} (hC : rx_CC l G D (C_X0_allBelow F) z) (x0 : Int64) (h : f_X0_allBelow_0 F x0 = some z) : rx_S l G ("SetHouse$Heap", prog_2_method_15_code, 5, false, false, D) hf hf rx_rJ z 0 [some (.long x0), none, none, none, none] [] none := by
  rw [g_X0_allBelow_0] at h
  refine rx_S_node (md := ("SetHouse$Heap", prog_2_method_15_code, 5, false, false, D)) tk_X0_allBelow hC rx_m_rJ (fun t ls st u h => ?_) h
  unfold kk_X0_allBelow_0 at h
  rcases rx_rec_eq h with ⟨hb, h⟩ | ⟨hb, h⟩
  · have ht := Nat.eq_of_beq_eq_true hb
    subst ht
    unfold n_X0_allBelow_5 at h
    split at h
    · exact (s_X0_allBelow_5 hC _ _ _ h).le ⟨Or.inl rfl, Or.inl rfl, Or.inr rfl, Or.inl rfl, Or.inr rfl, trivial⟩
    · cases h
  cases h
theorem cc_X0_allBelow (F : Nat × Nat) (l : Launch) (G : rx_G) {α : Type} (z : α) : rx_CC l G (1 + 0 * F.2) (C_X0_allBelow F) z := by
  intro j as u κ h
  unfold C_X0_allBelow at h
  rcases rx_rec_eq h with ⟨hb, h⟩ | ⟨hb, h⟩
  · have ht := Nat.eq_of_beq_eq_true hb
    subst ht
    exact (w_X0_lessThing F l G h).deep (by omega)
  cases h
theorem m_X0_allBelow (F : Nat × Nat) (l : Launch) (G : rx_G) (hf : rx_H) (x0 : Int64) {z : Int64} (h : f_X0_allBelow F x0 = some z) : rx_Ok l G (2 + 0 * F.2) (rx_ny 9) (.code (rx_ny 9) prog_2_method_15_code 5 (some .long)) [.long x0] hf (some (.long z)) hf := by
  have h := h
  unfold f_X0_allBelow at h
  exact (rx_met (l := l) (G := G) (hf := hf) (as := [.long x0]) (r := (some (.long z))) (ls0 := [some (.long x0), none, none, none, none]) (y := rx_ny 9) (D := (1 + 0 * F.2)) (ini := false) (bo := false) (u := none) (u' := none) (by decide +kernel) (fun h => by cases h) (Nat.le_of_ble_eq_true rfl) (Or.inr (Or.inr (Or.inl ⟨rfl, _, rfl⟩))) (fun Z hZ hB => rx_RT_rJ hZ hB) (by exact ⟨Or.inr rfl, Or.inl rfl, Or.inl rfl, Or.inl rfl, Or.inl rfl, trivial⟩) (s_X0_allBelow_0 (cc_X0_allBelow F l G z) x0 h)).deep (by omega)
theorem w_X0_allBelow (F : Nat × Nat) (l : Launch) (G : rx_G) {α : Type} {z : α} {as : List Value} {u : Option rx_H} {κ : rx_K α} (h : c_X0_allBelow F as u κ = some z) : rx_Cw l G (2 + 0 * F.2) 9 as u κ z := by
  unfold c_X0_allBelow at h
  split at h
  · obtain ⟨r, hr, h⟩ := Option.bind_eq_some_iff.mp h
    exact ⟨_, _, _, _, h, k_X0_allBelow, fun _ => rfl, fun h => absurd rfl h, fun hf => m_X0_allBelow F l G _ _ hr⟩
  · cases h
set_option maxRecDepth 100000 in
theorem k_X0_allAbove : rx_Cal (rx_ny 8) (.code (rx_ny 8) prog_2_method_16_code 6 (some .long)) (rx_kd 8) 2 := ⟨prog_2_method_16_code, 6, (some .long), Or.inl rfl, rx_in (i := 341) (by rfl) (by rfl), rx_in (i := 48) (by decide +kernel) (by decide +kernel), ⟨(by decide +kernel), (by decide +kernel), (by decide +kernel)⟩, Nat.le_of_ble_eq_true rfl, fun _ => rx_in (i := 340) (by decide +kernel) (by decide +kernel), fun h => absurd h (by decide), fun h => absurd h (by decide)⟩
set_option maxRecDepth 100000 in
theorem tk_X0_allAbove : (t_X0_allAbove.all (rx_eok "SetHouse$Heap" prog_2_method_16_code 6 false false) && rx_adj t_X0_allAbove) = true := by decide +kernel
theorem s_X0_allAbove_5 {F : Nat × Nat} {l : Launch} {G : rx_G} {D : Nat} {hf : rx_H} {z : Int64} (hC : rx_CC l G D (C_X0_allAbove F) z) : ∀ (f : Nat) (x2 : Int32) (x3 : Int64) (x5 : Int32), f_X0_allAbove_5 F f x2 x3 x5 = some z → rx_S l G ("SetHouse$Heap", prog_2_method_16_code, 6, false, false, D) hf hf rx_rJ z 5 [none, none, some (.int x2), some (.long x3), none, some (.int x5)] [] none := by
  intro f
  induction f with
  | zero =>
    intro x2 x3 x5 h
    cases h
  | succ f ih =>
    intro x2 x3 x5 h
    rw [g_X0_allAbove_5] at h
    refine rx_S_node (md := ("SetHouse$Heap", prog_2_method_16_code, 6, false, false, D)) tk_X0_allAbove hC rx_m_rJ (fun t ls st u h => ?_) h
    unfold kk_X0_allAbove_5 at h
    rcases rx_rec_eq h with ⟨hb, h⟩ | ⟨hb, h⟩
    · have ht := Nat.eq_of_beq_eq_true hb
      subst ht
      unfold n_X0_allAbove_5 at h
      split at h
      · exact (ih _ _ _ h).le ⟨Or.inl rfl, Or.inl rfl, Or.inr rfl, Or.inr rfl, Or.inl rfl, Or.inr rfl, trivial⟩
      · cases h
    cases h
theorem s_X0_allAbove_0 {F : Nat × Nat} {l : Launch} {G : rx_G} {D : Nat} {hf : rx_H} {z : Int64} (hC : rx_CC l G D (C_X0_allAbove F) z) (x0 : Int64) (x2 : Int32) (h : f_X0_allAbove_0 F x0 x2 = some z) : rx_S l G ("SetHouse$Heap", prog_2_method_16_code, 6, false, false, D) hf hf rx_rJ z 0 [some (.long x0), none, some (.int x2), none, none, none] [] none := by
  rw [g_X0_allAbove_0] at h
  refine rx_S_node (md := ("SetHouse$Heap", prog_2_method_16_code, 6, false, false, D)) tk_X0_allAbove hC rx_m_rJ (fun t ls st u h => ?_) h
  unfold kk_X0_allAbove_0 at h
  rcases rx_rec_eq h with ⟨hb, h⟩ | ⟨hb, h⟩
  · have ht := Nat.eq_of_beq_eq_true hb
    subst ht
    unfold n_X0_allAbove_5 at h
    split at h
    · exact (s_X0_allAbove_5 hC _ _ _ _ h).le ⟨Or.inl rfl, Or.inl rfl, Or.inr rfl, Or.inr rfl, Or.inl rfl, Or.inr rfl, trivial⟩
    · cases h
  cases h
theorem cc_X0_allAbove (F : Nat × Nat) (l : Launch) (G : rx_G) {α : Type} (z : α) : rx_CC l G (1 + 0 * F.2) (C_X0_allAbove F) z := by
  intro j as u κ h
  unfold C_X0_allAbove at h
  rcases rx_rec_eq h with ⟨hb, h⟩ | ⟨hb, h⟩
  · have ht := Nat.eq_of_beq_eq_true hb
    subst ht
    exact (w_X0_moreThing F l G h).deep (by omega)
  cases h
theorem m_X0_allAbove (F : Nat × Nat) (l : Launch) (G : rx_G) (hf : rx_H) (x0 : Int64) (x2 : Int32) {z : Int64} (h : f_X0_allAbove F x0 x2 = some z) : rx_Ok l G (2 + 0 * F.2) (rx_ny 8) (.code (rx_ny 8) prog_2_method_16_code 6 (some .long)) [.long x0, .int x2] hf (some (.long z)) hf := by
  have h := h
  unfold f_X0_allAbove at h
  exact (rx_met (l := l) (G := G) (hf := hf) (as := [.long x0, .int x2]) (r := (some (.long z))) (ls0 := [some (.long x0), none, some (.int x2), none, none, none]) (y := rx_ny 8) (D := (1 + 0 * F.2)) (ini := false) (bo := false) (u := none) (u' := none) (by decide +kernel) (fun h => by cases h) (Nat.le_of_ble_eq_true rfl) (Or.inr (Or.inr (Or.inl ⟨rfl, _, rfl⟩))) (fun Z hZ hB => rx_RT_rJ hZ hB) (by exact ⟨Or.inr rfl, Or.inl rfl, Or.inr rfl, Or.inl rfl, Or.inl rfl, Or.inl rfl, trivial⟩) (s_X0_allAbove_0 (cc_X0_allAbove F l G z) x0 x2 h)).deep (by omega)
theorem w_X0_allAbove (F : Nat × Nat) (l : Launch) (G : rx_G) {α : Type} {z : α} {as : List Value} {u : Option rx_H} {κ : rx_K α} (h : c_X0_allAbove F as u κ = some z) : rx_Cw l G (2 + 0 * F.2) 8 as u κ z := by
  unfold c_X0_allAbove at h
  split at h
  · obtain ⟨r, hr, h⟩ := Option.bind_eq_some_iff.mp h
    exact ⟨_, _, _, _, h, k_X0_allAbove, fun _ => rfl, fun h => absurd rfl h, fun hf => m_X0_allAbove F l G _ _ _ hr⟩
  · cases h
set_option maxRecDepth 100000 in
theorem k_X0_lacking : rx_Cal (rx_ny 15) (.code (rx_ny 15) prog_2_method_17_code 6 (some .long)) (rx_kd 15) 2 := ⟨prog_2_method_17_code, 6, (some .long), Or.inl rfl, rx_in (i := 378) (by rfl) (by rfl), rx_in (i := 48) (by decide +kernel) (by decide +kernel), ⟨(by decide +kernel), (by decide +kernel), (by decide +kernel)⟩, Nat.le_of_ble_eq_true rfl, fun _ => rx_in (i := 377) (by decide +kernel) (by decide +kernel), fun h => absurd h (by decide), fun h => absurd h (by decide)⟩
set_option maxRecDepth 100000 in
theorem tk_X0_lacking : (t_X0_lacking.all (rx_eok "SetHouse$Heap" prog_2_method_17_code 6 false false) && rx_adj t_X0_lacking) = true := by decide +kernel
theorem s_X0_lacking_5 {F : Nat × Nat} {l : Launch} {G : rx_G} {D : Nat} {hf : rx_H} {z : Int64} (hC : rx_CC l G D (C_X0_lacking F) z) : ∀ (f : Nat) (x2 : Int32) (x3 : Int64) (x5 : Int32), f_X0_lacking_5 F f x2 x3 x5 = some z → rx_S l G ("SetHouse$Heap", prog_2_method_17_code, 6, false, false, D) hf hf rx_rJ z 5 [none, none, some (.int x2), some (.long x3), none, some (.int x5)] [] none := by
  intro f
  induction f with
  | zero =>
    intro x2 x3 x5 h
    cases h
  | succ f ih =>
    intro x2 x3 x5 h
    rw [g_X0_lacking_5] at h
    refine rx_S_node (md := ("SetHouse$Heap", prog_2_method_17_code, 6, false, false, D)) tk_X0_lacking hC rx_m_rJ (fun t ls st u h => ?_) h
    unfold kk_X0_lacking_5 at h
    rcases rx_rec_eq h with ⟨hb, h⟩ | ⟨hb, h⟩
    · have ht := Nat.eq_of_beq_eq_true hb
      subst ht
      unfold n_X0_lacking_5 at h
      split at h
      · exact (ih _ _ _ h).le ⟨Or.inl rfl, Or.inl rfl, Or.inr rfl, Or.inr rfl, Or.inl rfl, Or.inr rfl, trivial⟩
      · cases h
    cases h
theorem s_X0_lacking_0 {F : Nat × Nat} {l : Launch} {G : rx_G} {D : Nat} {hf : rx_H} {z : Int64} (hC : rx_CC l G D (C_X0_lacking F) z) (x0 : Int64) (x2 : Int32) (h : f_X0_lacking_0 F x0 x2 = some z) : rx_S l G ("SetHouse$Heap", prog_2_method_17_code, 6, false, false, D) hf hf rx_rJ z 0 [some (.long x0), none, some (.int x2), none, none, none] [] none := by
  rw [g_X0_lacking_0] at h
  refine rx_S_node (md := ("SetHouse$Heap", prog_2_method_17_code, 6, false, false, D)) tk_X0_lacking hC rx_m_rJ (fun t ls st u h => ?_) h
  unfold kk_X0_lacking_0 at h
  rcases rx_rec_eq h with ⟨hb, h⟩ | ⟨hb, h⟩
  · have ht := Nat.eq_of_beq_eq_true hb
    subst ht
    unfold n_X0_lacking_5 at h
    split at h
    · exact (s_X0_lacking_5 hC _ _ _ _ h).le ⟨Or.inl rfl, Or.inl rfl, Or.inr rfl, Or.inr rfl, Or.inl rfl, Or.inr rfl, trivial⟩
    · cases h
  cases h
theorem cc_X0_lacking (F : Nat × Nat) (l : Launch) (G : rx_G) {α : Type} (z : α) : rx_CC l G (1 + 0 * F.2) (C_X0_lacking F) z := by
  intro j as u κ h
  unfold C_X0_lacking at h
  rcases rx_rec_eq h with ⟨hb, h⟩ | ⟨hb, h⟩
  · have ht := Nat.eq_of_beq_eq_true hb
    subst ht
    exact (w_X0_lessThing F l G h).deep (by omega)
  rcases rx_rec_eq h with ⟨hb, h⟩ | ⟨hb, h⟩
  · have ht := Nat.eq_of_beq_eq_true hb
    subst ht
    exact (w_X0_moreThing F l G h).deep (by omega)
  cases h
theorem m_X0_lacking (F : Nat × Nat) (l : Launch) (G : rx_G) (hf : rx_H) (x0 : Int64) (x2 : Int32) {z : Int64} (h : f_X0_lacking F x0 x2 = some z) : rx_Ok l G (2 + 0 * F.2) (rx_ny 15) (.code (rx_ny 15) prog_2_method_17_code 6 (some .long)) [.long x0, .int x2] hf (some (.long z)) hf := by
  have h := h
  unfold f_X0_lacking at h
  exact (rx_met (l := l) (G := G) (hf := hf) (as := [.long x0, .int x2]) (r := (some (.long z))) (ls0 := [some (.long x0), none, some (.int x2), none, none, none]) (y := rx_ny 15) (D := (1 + 0 * F.2)) (ini := false) (bo := false) (u := none) (u' := none) (by decide +kernel) (fun h => by cases h) (Nat.le_of_ble_eq_true rfl) (Or.inr (Or.inr (Or.inl ⟨rfl, _, rfl⟩))) (fun Z hZ hB => rx_RT_rJ hZ hB) (by exact ⟨Or.inr rfl, Or.inl rfl, Or.inr rfl, Or.inl rfl, Or.inl rfl, Or.inl rfl, trivial⟩) (s_X0_lacking_0 (cc_X0_lacking F l G z) x0 x2 h)).deep (by omega)
theorem w_X0_lacking (F : Nat × Nat) (l : Launch) (G : rx_G) {α : Type} {z : α} {as : List Value} {u : Option rx_H} {κ : rx_K α} (h : c_X0_lacking F as u κ = some z) : rx_Cw l G (2 + 0 * F.2) 15 as u κ z := by
  unfold c_X0_lacking at h
  split at h
  · obtain ⟨r, hr, h⟩ := Option.bind_eq_some_iff.mp h
    exact ⟨_, _, _, _, h, k_X0_lacking, fun _ => rfl, fun h => absurd rfl h, fun hf => m_X0_lacking F l G _ _ _ hr⟩
  · cases h
set_option maxRecDepth 100000 in
theorem k_X0_cutTo : rx_Cal (rx_ny 12) (.code (rx_ny 12) prog_2_method_18_code 6 (some .long)) (rx_kd 12) 2 := ⟨prog_2_method_18_code, 6, (some .long), Or.inl rfl, rx_in (i := 365) (by rfl) (by rfl), rx_in (i := 48) (by decide +kernel) (by decide +kernel), ⟨(by decide +kernel), (by decide +kernel), (by decide +kernel)⟩, Nat.le_of_ble_eq_true rfl, fun _ => rx_in (i := 364) (by decide +kernel) (by decide +kernel), fun h => absurd h (by decide), fun h => absurd h (by decide)⟩
set_option maxRecDepth 100000 in
theorem tk_X0_cutTo : (t_X0_cutTo.all (rx_eok "SetHouse$Heap" prog_2_method_18_code 6 false false) && rx_adj t_X0_cutTo) = true := by decide +kernel
theorem s_X0_cutTo_5 {F : Nat × Nat} {l : Launch} {G : rx_G} {D : Nat} {hf : rx_H} {z : Int64} (hC : rx_CC l G D (C_X0_cutTo F) z) : ∀ (f : Nat) (x2 : Int32) (x3 : Int64) (x5 : Int32), f_X0_cutTo_5 F f x2 x3 x5 = some z → rx_S l G ("SetHouse$Heap", prog_2_method_18_code, 6, false, false, D) hf hf rx_rJ z 5 [none, none, some (.int x2), some (.long x3), none, some (.int x5)] [] none := by
  intro f
  induction f with
  | zero =>
    intro x2 x3 x5 h
    cases h
  | succ f ih =>
    intro x2 x3 x5 h
    rw [g_X0_cutTo_5] at h
    refine rx_S_node (md := ("SetHouse$Heap", prog_2_method_18_code, 6, false, false, D)) tk_X0_cutTo hC rx_m_rJ (fun t ls st u h => ?_) h
    unfold kk_X0_cutTo_5 at h
    rcases rx_rec_eq h with ⟨hb, h⟩ | ⟨hb, h⟩
    · have ht := Nat.eq_of_beq_eq_true hb
      subst ht
      unfold n_X0_cutTo_5 at h
      split at h
      · exact (ih _ _ _ h).le ⟨Or.inl rfl, Or.inl rfl, Or.inr rfl, Or.inr rfl, Or.inl rfl, Or.inr rfl, trivial⟩
      · cases h
    cases h
theorem s_X0_cutTo_0 {F : Nat × Nat} {l : Launch} {G : rx_G} {D : Nat} {hf : rx_H} {z : Int64} (hC : rx_CC l G D (C_X0_cutTo F) z) (x0 : Int64) (x2 : Int32) (h : f_X0_cutTo_0 F x0 x2 = some z) : rx_S l G ("SetHouse$Heap", prog_2_method_18_code, 6, false, false, D) hf hf rx_rJ z 0 [some (.long x0), none, some (.int x2), none, none, none] [] none := by
  rw [g_X0_cutTo_0] at h
  refine rx_S_node (md := ("SetHouse$Heap", prog_2_method_18_code, 6, false, false, D)) tk_X0_cutTo hC rx_m_rJ (fun t ls st u h => ?_) h
  unfold kk_X0_cutTo_0 at h
  rcases rx_rec_eq h with ⟨hb, h⟩ | ⟨hb, h⟩
  · have ht := Nat.eq_of_beq_eq_true hb
    subst ht
    unfold n_X0_cutTo_5 at h
    split at h
    · exact (s_X0_cutTo_5 hC _ _ _ _ h).le ⟨Or.inl rfl, Or.inl rfl, Or.inr rfl, Or.inr rfl, Or.inl rfl, Or.inr rfl, trivial⟩
    · cases h
  cases h
theorem cc_X0_cutTo (F : Nat × Nat) (l : Launch) (G : rx_G) {α : Type} (z : α) : rx_CC l G (1 + 0 * F.2) (C_X0_cutTo F) z := by
  intro j as u κ h
  unfold C_X0_cutTo at h
  rcases rx_rec_eq h with ⟨hb, h⟩ | ⟨hb, h⟩
  · have ht := Nat.eq_of_beq_eq_true hb
    subst ht
    exact (w_X0_lackingThing F l G h).deep (by omega)
  rcases rx_rec_eq h with ⟨hb, h⟩ | ⟨hb, h⟩
  · have ht := Nat.eq_of_beq_eq_true hb
    subst ht
    exact (w_X0_lessThing F l G h).deep (by omega)
  cases h
theorem m_X0_cutTo (F : Nat × Nat) (l : Launch) (G : rx_G) (hf : rx_H) (x0 : Int64) (x2 : Int32) {z : Int64} (h : f_X0_cutTo F x0 x2 = some z) : rx_Ok l G (2 + 0 * F.2) (rx_ny 12) (.code (rx_ny 12) prog_2_method_18_code 6 (some .long)) [.long x0, .int x2] hf (some (.long z)) hf := by
  have h := h
  unfold f_X0_cutTo at h
  exact (rx_met (l := l) (G := G) (hf := hf) (as := [.long x0, .int x2]) (r := (some (.long z))) (ls0 := [some (.long x0), none, some (.int x2), none, none, none]) (y := rx_ny 12) (D := (1 + 0 * F.2)) (ini := false) (bo := false) (u := none) (u' := none) (by decide +kernel) (fun h => by cases h) (Nat.le_of_ble_eq_true rfl) (Or.inr (Or.inr (Or.inl ⟨rfl, _, rfl⟩))) (fun Z hZ hB => rx_RT_rJ hZ hB) (by exact ⟨Or.inr rfl, Or.inl rfl, Or.inr rfl, Or.inl rfl, Or.inl rfl, Or.inl rfl, trivial⟩) (s_X0_cutTo_0 (cc_X0_cutTo F l G z) x0 x2 h)).deep (by omega)
theorem w_X0_cutTo (F : Nat × Nat) (l : Launch) (G : rx_G) {α : Type} {z : α} {as : List Value} {u : Option rx_H} {κ : rx_K α} (h : c_X0_cutTo F as u κ = some z) : rx_Cw l G (2 + 0 * F.2) 12 as u κ z := by
  unfold c_X0_cutTo at h
  split at h
  · obtain ⟨r, hr, h⟩ := Option.bind_eq_some_iff.mp h
    exact ⟨_, _, _, _, h, k_X0_cutTo, fun _ => rfl, fun h => absurd rfl h, fun hf => m_X0_cutTo F l G _ _ _ hr⟩
  · cases h
set_option maxRecDepth 100000 in
theorem k_X0_joinedTo : rx_Cal (rx_ny 14) (.code (rx_ny 14) prog_2_method_19_code 6 (some .long)) (rx_kd 14) 2 := ⟨prog_2_method_19_code, 6, (some .long), Or.inl rfl, rx_in (i := 371) (by rfl) (by rfl), rx_in (i := 48) (by decide +kernel) (by decide +kernel), ⟨(by decide +kernel), (by decide +kernel), (by decide +kernel)⟩, Nat.le_of_ble_eq_true rfl, fun _ => rx_in (i := 370) (by decide +kernel) (by decide +kernel), fun h => absurd h (by decide), fun h => absurd h (by decide)⟩
set_option maxRecDepth 100000 in
theorem tk_X0_joinedTo : (t_X0_joinedTo.all (rx_eok "SetHouse$Heap" prog_2_method_19_code 6 false false) && rx_adj t_X0_joinedTo) = true := by decide +kernel
theorem s_X0_joinedTo_5 {F : Nat × Nat} {l : Launch} {G : rx_G} {D : Nat} {hf : rx_H} {z : Int64} (hC : rx_CC l G D (C_X0_joinedTo F) z) : ∀ (f : Nat) (x2 : Int32) (x3 : Int64) (x5 : Int32), f_X0_joinedTo_5 F f x2 x3 x5 = some z → rx_S l G ("SetHouse$Heap", prog_2_method_19_code, 6, false, false, D) hf hf rx_rJ z 5 [none, none, some (.int x2), some (.long x3), none, some (.int x5)] [] none := by
  intro f
  induction f with
  | zero =>
    intro x2 x3 x5 h
    cases h
  | succ f ih =>
    intro x2 x3 x5 h
    rw [g_X0_joinedTo_5] at h
    refine rx_S_node (md := ("SetHouse$Heap", prog_2_method_19_code, 6, false, false, D)) tk_X0_joinedTo hC rx_m_rJ (fun t ls st u h => ?_) h
    unfold kk_X0_joinedTo_5 at h
    rcases rx_rec_eq h with ⟨hb, h⟩ | ⟨hb, h⟩
    · have ht := Nat.eq_of_beq_eq_true hb
      subst ht
      unfold n_X0_joinedTo_5 at h
      split at h
      · exact (ih _ _ _ h).le ⟨Or.inl rfl, Or.inl rfl, Or.inr rfl, Or.inr rfl, Or.inl rfl, Or.inr rfl, trivial⟩
      · cases h
    cases h
theorem s_X0_joinedTo_0 {F : Nat × Nat} {l : Launch} {G : rx_G} {D : Nat} {hf : rx_H} {z : Int64} (hC : rx_CC l G D (C_X0_joinedTo F) z) (x0 : Int64) (x2 : Int32) (h : f_X0_joinedTo_0 F x0 x2 = some z) : rx_S l G ("SetHouse$Heap", prog_2_method_19_code, 6, false, false, D) hf hf rx_rJ z 0 [some (.long x0), none, some (.int x2), none, none, none] [] none := by
  rw [g_X0_joinedTo_0] at h
  refine rx_S_node (md := ("SetHouse$Heap", prog_2_method_19_code, 6, false, false, D)) tk_X0_joinedTo hC rx_m_rJ (fun t ls st u h => ?_) h
  unfold kk_X0_joinedTo_0 at h
  rcases rx_rec_eq h with ⟨hb, h⟩ | ⟨hb, h⟩
  · have ht := Nat.eq_of_beq_eq_true hb
    subst ht
    unfold n_X0_joinedTo_5 at h
    split at h
    · exact (s_X0_joinedTo_5 hC _ _ _ _ h).le ⟨Or.inl rfl, Or.inl rfl, Or.inr rfl, Or.inr rfl, Or.inl rfl, Or.inr rfl, trivial⟩
    · cases h
  cases h
theorem cc_X0_joinedTo (F : Nat × Nat) (l : Launch) (G : rx_G) {α : Type} (z : α) : rx_CC l G (1 + 0 * F.2) (C_X0_joinedTo F) z := by
  intro j as u κ h
  unfold C_X0_joinedTo at h
  rcases rx_rec_eq h with ⟨hb, h⟩ | ⟨hb, h⟩
  · have ht := Nat.eq_of_beq_eq_true hb
    subst ht
    exact (w_X0_moreThing F l G h).deep (by omega)
  cases h
theorem m_X0_joinedTo (F : Nat × Nat) (l : Launch) (G : rx_G) (hf : rx_H) (x0 : Int64) (x2 : Int32) {z : Int64} (h : f_X0_joinedTo F x0 x2 = some z) : rx_Ok l G (2 + 0 * F.2) (rx_ny 14) (.code (rx_ny 14) prog_2_method_19_code 6 (some .long)) [.long x0, .int x2] hf (some (.long z)) hf := by
  have h := h
  unfold f_X0_joinedTo at h
  exact (rx_met (l := l) (G := G) (hf := hf) (as := [.long x0, .int x2]) (r := (some (.long z))) (ls0 := [some (.long x0), none, some (.int x2), none, none, none]) (y := rx_ny 14) (D := (1 + 0 * F.2)) (ini := false) (bo := false) (u := none) (u' := none) (by decide +kernel) (fun h => by cases h) (Nat.le_of_ble_eq_true rfl) (Or.inr (Or.inr (Or.inl ⟨rfl, _, rfl⟩))) (fun Z hZ hB => rx_RT_rJ hZ hB) (by exact ⟨Or.inr rfl, Or.inl rfl, Or.inr rfl, Or.inl rfl, Or.inl rfl, Or.inl rfl, trivial⟩) (s_X0_joinedTo_0 (cc_X0_joinedTo F l G z) x0 x2 h)).deep (by omega)
theorem w_X0_joinedTo (F : Nat × Nat) (l : Launch) (G : rx_G) {α : Type} {z : α} {as : List Value} {u : Option rx_H} {κ : rx_K α} (h : c_X0_joinedTo F as u κ = some z) : rx_Cw l G (2 + 0 * F.2) 14 as u κ z := by
  unfold c_X0_joinedTo at h
  split at h
  · obtain ⟨r, hr, h⟩ := Option.bind_eq_some_iff.mp h
    exact ⟨_, _, _, _, h, k_X0_joinedTo, fun _ => rfl, fun h => absurd rfl h, fun hf => m_X0_joinedTo F l G _ _ _ hr⟩
  · cases h
set_option maxRecDepth 100000 in
theorem k_X0_mixedInPairs : rx_Cal (rx_ny 20) (.code (rx_ny 20) prog_2_method_21_code 8 (some .long)) (rx_kd 20) 3 := ⟨prog_2_method_21_code, 8, (some .long), Or.inl rfl, rx_in (i := 362) (by rfl) (by rfl), rx_in (i := 48) (by decide +kernel) (by decide +kernel), ⟨(by decide +kernel), (by decide +kernel), (by decide +kernel)⟩, Nat.le_of_ble_eq_true rfl, fun _ => rx_in (i := 361) (by decide +kernel) (by decide +kernel), fun h => absurd h (by decide), fun h => absurd h (by decide)⟩
set_option maxRecDepth 100000 in
theorem tk_X0_mixedInPairs : (t_X0_mixedInPairs.all (rx_eok "SetHouse$Heap" prog_2_method_21_code 8 false false) && rx_adj t_X0_mixedInPairs) = true := by decide +kernel
theorem s_X0_mixedInPairs_39 {F : Nat × Nat} {l : Launch} {G : rx_G} {D : Nat} {hf : rx_H} {z : Int64} (hC : rx_CC l G D (C_X0_mixedInPairs F) z) {k10 : Int64 → Int64 → Int32 → Int64 → Int32 → Option Int64} (hk10 : ∀ (x0 : Int64) (x2 : Int64) (x4 : Int32) (x5 : Int64) (x7 : Int32), k10 x0 x2 x4 x5 x7 = some z → rx_S l G ("SetHouse$Heap", prog_2_method_21_code, 8, false, false, D) hf hf rx_rJ z 10 [some (.long x0), none, some (.long x2), none, some (.int x4), some (.long x5), none, some (.int x7)] [] none) (x0 : Int64) (x2 : Int64) (x4 : Int32) (x7 : Int32) (s0 : Int64) (s1 : Int64) (h : f_X0_mixedInPairs_39 F k10 x0 x2 x4 x7 s0 s1 = some z) : rx_S l G ("SetHouse$Heap", prog_2_method_21_code, 8, false, false, D) hf hf rx_rJ z 39 [some (.long x0), none, some (.long x2), none, some (.int x4), none, none, some (.int x7)] [.long s1, .long s0] none := by
  rw [g_X0_mixedInPairs_39] at h
  refine rx_S_node (md := ("SetHouse$Heap", prog_2_method_21_code, 8, false, false, D)) tk_X0_mixedInPairs hC rx_m_rJ (fun t ls st u h => ?_) h
  unfold kk_X0_mixedInPairs_39 at h
  rcases rx_rec_eq h with ⟨hb, h⟩ | ⟨hb, h⟩
  · have ht := Nat.eq_of_beq_eq_true hb
    subst ht
    unfold n_X0_mixedInPairs_10 at h
    split at h
    · exact (hk10 _ _ _ _ _ h).le ⟨Or.inr rfl, Or.inl rfl, Or.inr rfl, Or.inl rfl, Or.inr rfl, Or.inr rfl, Or.inl rfl, Or.inr rfl, trivial⟩
    · cases h
  cases h
theorem s_X0_mixedInPairs_10 {F : Nat × Nat} {l : Launch} {G : rx_G} {D : Nat} {hf : rx_H} {z : Int64} (hC : rx_CC l G D (C_X0_mixedInPairs F) z) : ∀ (f : Nat) (x0 : Int64) (x2 : Int64) (x4 : Int32) (x5 : Int64) (x7 : Int32), f_X0_mixedInPairs_10 F f x0 x2 x4 x5 x7 = some z → rx_S l G ("SetHouse$Heap", prog_2_method_21_code, 8, false, false, D) hf hf rx_rJ z 10 [some (.long x0), none, some (.long x2), none, some (.int x4), some (.long x5), none, some (.int x7)] [] none := by
  intro f
  induction f with
  | zero =>
    intro x0 x2 x4 x5 x7 h
    cases h
  | succ f ih =>
    intro x0 x2 x4 x5 x7 h
    rw [g_X0_mixedInPairs_10] at h
    refine rx_S_node (md := ("SetHouse$Heap", prog_2_method_21_code, 8, false, false, D)) tk_X0_mixedInPairs hC rx_m_rJ (fun t ls st u h => ?_) h
    unfold kk_X0_mixedInPairs_10 at h
    rcases rx_rec_eq h with ⟨hb, h⟩ | ⟨hb, h⟩
    · have ht := Nat.eq_of_beq_eq_true hb
      subst ht
      unfold n_X0_mixedInPairs_39 at h
      split at h
      · exact (s_X0_mixedInPairs_39 hC ih _ _ _ _ _ _ h).le ⟨Or.inr rfl, Or.inl rfl, Or.inr rfl, Or.inl rfl, Or.inr rfl, Or.inl rfl, Or.inl rfl, Or.inr rfl, trivial⟩
      · cases h
    cases h
theorem s_X0_mixedInPairs_0 {F : Nat × Nat} {l : Launch} {G : rx_G} {D : Nat} {hf : rx_H} {z : Int64} (hC : rx_CC l G D (C_X0_mixedInPairs F) z) (x0 : Int64) (x2 : Int64) (x4 : Int32) (h : f_X0_mixedInPairs_0 F x0 x2 x4 = some z) : rx_S l G ("SetHouse$Heap", prog_2_method_21_code, 8, false, false, D) hf hf rx_rJ z 0 [some (.long x0), none, some (.long x2), none, some (.int x4), none, none, none] [] none := by
  rw [g_X0_mixedInPairs_0] at h
  refine rx_S_node (md := ("SetHouse$Heap", prog_2_method_21_code, 8, false, false, D)) tk_X0_mixedInPairs hC rx_m_rJ (fun t ls st u h => ?_) h
  unfold kk_X0_mixedInPairs_0 at h
  rcases rx_rec_eq h with ⟨hb, h⟩ | ⟨hb, h⟩
  · have ht := Nat.eq_of_beq_eq_true hb
    subst ht
    unfold n_X0_mixedInPairs_10 at h
    split at h
    · exact (s_X0_mixedInPairs_10 hC _ _ _ _ _ _ h).le ⟨Or.inr rfl, Or.inl rfl, Or.inr rfl, Or.inl rfl, Or.inr rfl, Or.inr rfl, Or.inl rfl, Or.inr rfl, trivial⟩
    · cases h
  cases h
theorem cc_X0_mixedInPairs (F : Nat × Nat) (l : Launch) (G : rx_G) {α : Type} (z : α) : rx_CC l G (2 + 0 * F.2) (C_X0_mixedInPairs F) z := by
  intro j as u κ h
  unfold C_X0_mixedInPairs at h
  rcases rx_rec_eq h with ⟨hb, h⟩ | ⟨hb, h⟩
  · have ht := Nat.eq_of_beq_eq_true hb
    subst ht
    exact (w_X0_cutTo F l G h).deep (by omega)
  rcases rx_rec_eq h with ⟨hb, h⟩ | ⟨hb, h⟩
  · have ht := Nat.eq_of_beq_eq_true hb
    subst ht
    exact (w_X0_joinedTo F l G h).deep (by omega)
  rcases rx_rec_eq h with ⟨hb, h⟩ | ⟨hb, h⟩
  · have ht := Nat.eq_of_beq_eq_true hb
    subst ht
    exact (w_X0_next F l G h).deep (by omega)
  cases h
theorem m_X0_mixedInPairs (F : Nat × Nat) (l : Launch) (G : rx_G) (hf : rx_H) (x0 : Int64) (x2 : Int64) (x4 : Int32) {z : Int64} (h : f_X0_mixedInPairs F x0 x2 x4 = some z) : rx_Ok l G (3 + 0 * F.2) (rx_ny 20) (.code (rx_ny 20) prog_2_method_21_code 8 (some .long)) [.long x0, .long x2, .int x4] hf (some (.long z)) hf := by
  have h := h
  unfold f_X0_mixedInPairs at h
  exact (rx_met (l := l) (G := G) (hf := hf) (as := [.long x0, .long x2, .int x4]) (r := (some (.long z))) (ls0 := [some (.long x0), none, some (.long x2), none, some (.int x4), none, none, none]) (y := rx_ny 20) (D := (2 + 0 * F.2)) (ini := false) (bo := false) (u := none) (u' := none) (by decide +kernel) (fun h => by cases h) (Nat.le_of_ble_eq_true rfl) (Or.inr (Or.inr (Or.inl ⟨rfl, _, rfl⟩))) (fun Z hZ hB => rx_RT_rJ hZ hB) (by exact ⟨Or.inr rfl, Or.inl rfl, Or.inr rfl, Or.inl rfl, Or.inr rfl, Or.inl rfl, Or.inl rfl, Or.inl rfl, trivial⟩) (s_X0_mixedInPairs_0 (cc_X0_mixedInPairs F l G z) x0 x2 x4 h)).deep (by omega)
theorem w_X0_mixedInPairs (F : Nat × Nat) (l : Launch) (G : rx_G) {α : Type} {z : α} {as : List Value} {u : Option rx_H} {κ : rx_K α} (h : c_X0_mixedInPairs F as u κ = some z) : rx_Cw l G (3 + 0 * F.2) 20 as u κ z := by
  unfold c_X0_mixedInPairs at h
  split at h
  · obtain ⟨r, hr, h⟩ := Option.bind_eq_some_iff.mp h
    exact ⟨_, _, _, _, h, k_X0_mixedInPairs, fun _ => rfl, fun h => absurd rfl h, fun hf => m_X0_mixedInPairs F l G _ _ _ _ hr⟩
  · cases h
set_option maxRecDepth 100000 in
theorem k_X0_mixed : rx_Cal (rx_ny 19) (.code (rx_ny 19) prog_2_method_20_code 5 (some .long)) (rx_kd 19) 3 := ⟨prog_2_method_20_code, 5, (some .long), Or.inl rfl, rx_in (i := 359) (by rfl) (by rfl), rx_in (i := 48) (by decide +kernel) (by decide +kernel), ⟨(by decide +kernel), (by decide +kernel), (by decide +kernel)⟩, Nat.le_of_ble_eq_true rfl, fun _ => rx_in (i := 358) (by decide +kernel) (by decide +kernel), fun h => absurd h (by decide), fun h => absurd h (by decide)⟩
set_option maxRecDepth 100000 in
theorem tk_X0_mixed : (t_X0_mixed.all (rx_eok "SetHouse$Heap" prog_2_method_20_code 5 false false) && rx_adj t_X0_mixed) = true := by decide +kernel
theorem s_X0_mixed_65 {F : Nat × Nat} {l : Launch} {G : rx_G} {D : Nat} {hf : rx_H} {z : Int64} (hC : rx_CC l G D (C_X0_mixed F) z) (s0 : Int64) (s1 : Int64) (s2 : Int32) (h : f_X0_mixed_65 F s0 s1 s2 = some z) : rx_S l G ("SetHouse$Heap", prog_2_method_20_code, 5, false, false, D) hf hf rx_rJ z 65 [none, none, none, none, none] [.int s2, .long s1, .long s0] none := by
  rw [g_X0_mixed_65] at h
  refine rx_S_node (md := ("SetHouse$Heap", prog_2_method_20_code, 5, false, false, D)) tk_X0_mixed hC rx_m_rJ (fun t ls st u h => ?_) h
  unfold kk_X0_mixed_65 at h
  cases h
theorem s_X0_mixed_0 {F : Nat × Nat} {l : Launch} {G : rx_G} {D : Nat} {hf : rx_H} {z : Int64} (hC : rx_CC l G D (C_X0_mixed F) z) (x0 : Int64) (x2 : Int64) (x4 : Int32) (h : f_X0_mixed_0 F x0 x2 x4 = some z) : rx_S l G ("SetHouse$Heap", prog_2_method_20_code, 5, false, false, D) hf hf rx_rJ z 0 [some (.long x0), none, some (.long x2), none, some (.int x4)] [] none := by
  rw [g_X0_mixed_0] at h
  refine rx_S_node (md := ("SetHouse$Heap", prog_2_method_20_code, 5, false, false, D)) tk_X0_mixed hC rx_m_rJ (fun t ls st u h => ?_) h
  unfold kk_X0_mixed_0 at h
  rcases rx_rec_eq h with ⟨hb, h⟩ | ⟨hb, h⟩
  · have ht := Nat.eq_of_beq_eq_true hb
    subst ht
    unfold n_X0_mixed_65 at h
    split at h
    · exact (s_X0_mixed_65 hC _ _ _ h).le ⟨Or.inl rfl, Or.inl rfl, Or.inl rfl, Or.inl rfl, Or.inl rfl, trivial⟩
    · cases h
  cases h
theorem cc_X0_mixed (F : Nat × Nat) (l : Launch) (G : rx_G) {α : Type} (z : α) : rx_CC l G (3 + 0 * F.2) (C_X0_mixed F) z := by
  intro j as u κ h
  unfold C_X0_mixed at h
  rcases rx_rec_eq h with ⟨hb, h⟩ | ⟨hb, h⟩
  · have ht := Nat.eq_of_beq_eq_true hb
    subst ht
    exact (w_X0_mixedInPairs F l G h).deep (by omega)
  cases h
theorem m_X0_mixed (F : Nat × Nat) (l : Launch) (G : rx_G) (hf : rx_H) (x0 : Int64) (x2 : Int64) (x4 : Int32) {z : Int64} (h : f_X0_mixed F x0 x2 x4 = some z) : rx_Ok l G (4 + 0 * F.2) (rx_ny 19) (.code (rx_ny 19) prog_2_method_20_code 5 (some .long)) [.long x0, .long x2, .int x4] hf (some (.long z)) hf := by
  have h := h
  unfold f_X0_mixed at h
  exact (rx_met (l := l) (G := G) (hf := hf) (as := [.long x0, .long x2, .int x4]) (r := (some (.long z))) (ls0 := [some (.long x0), none, some (.long x2), none, some (.int x4)]) (y := rx_ny 19) (D := (3 + 0 * F.2)) (ini := false) (bo := false) (u := none) (u' := none) (by decide +kernel) (fun h => by cases h) (Nat.le_of_ble_eq_true rfl) (Or.inr (Or.inr (Or.inl ⟨rfl, _, rfl⟩))) (fun Z hZ hB => rx_RT_rJ hZ hB) (by exact ⟨Or.inr rfl, Or.inl rfl, Or.inr rfl, Or.inl rfl, Or.inr rfl, trivial⟩) (s_X0_mixed_0 (cc_X0_mixed F l G z) x0 x2 x4 h)).deep (by omega)
theorem w_X0_mixed (F : Nat × Nat) (l : Launch) (G : rx_G) {α : Type} {z : α} {as : List Value} {u : Option rx_H} {κ : rx_K α} (h : c_X0_mixed F as u κ = some z) : rx_Cw l G (4 + 0 * F.2) 19 as u κ z := by
  unfold c_X0_mixed at h
  split at h
  · obtain ⟨r, hr, h⟩ := Option.bind_eq_some_iff.mp h
    exact ⟨_, _, _, _, h, k_X0_mixed, fun _ => rfl, fun h => absurd rfl h, fun hf => m_X0_mixed F l G _ _ _ _ hr⟩
  · cases h
set_option maxRecDepth 100000 in
theorem k_X0_shatters : rx_Cal (rx_ny 27) (.code (rx_ny 27) prog_2_method_22_code 3 (some .boolean)) (rx_kd 27) 2 := ⟨prog_2_method_22_code, 3, (some .boolean), Or.inl rfl, rx_in (i := 548) (by rfl) (by rfl), rx_in (i := 48) (by decide +kernel) (by decide +kernel), ⟨(by decide +kernel), (by decide +kernel), (by decide +kernel)⟩, Nat.le_of_ble_eq_true rfl, fun _ => rx_in (i := 547) (by decide +kernel) (by decide +kernel), fun h => absurd h (by decide), fun h => absurd h (by decide)⟩
set_option maxRecDepth 100000 in
theorem tk_X0_shatters : (t_X0_shatters.all (rx_eok "SetHouse$Heap" prog_2_method_22_code 3 false true) && rx_adj t_X0_shatters) = true := by decide +kernel
theorem s_X0_shatters_0 {F : Nat × Nat} {l : Launch} {G : rx_G} {D : Nat} {hf : rx_H} {z : Int32} (hC : rx_CC l G D (C_X0_shatters F) z) (x0 : Int64) (x2 : Int32) (h : f_X0_shatters_0 F x0 x2 = some z) : rx_S l G ("SetHouse$Heap", prog_2_method_22_code, 3, false, true, D) hf hf rx_rI z 0 [some (.long x0), none, some (.int x2)] [] none := by
  rw [g_X0_shatters_0] at h
  refine rx_S_node (md := ("SetHouse$Heap", prog_2_method_22_code, 3, false, true, D)) tk_X0_shatters hC rx_m_rI (fun t ls st u h => ?_) h
  unfold kk_X0_shatters_0 at h
  cases h
theorem cc_X0_shatters (F : Nat × Nat) (l : Launch) (G : rx_G) {α : Type} (z : α) : rx_CC l G (2 + 0 * F.2) (C_X0_shatters F) z := by
  intro j as u κ h
  unfold C_X0_shatters at h
  rcases rx_rec_eq h with ⟨hb, h⟩ | ⟨hb, h⟩
  · have ht := Nat.eq_of_beq_eq_true hb
    subst ht
    exact (w_X0_cutTo F l G h).deep (by omega)
  rcases rx_rec_eq h with ⟨hb, h⟩ | ⟨hb, h⟩
  · have ht := Nat.eq_of_beq_eq_true hb
    subst ht
    exact (w_X0_within F l G h).deep (by omega)
  cases h
theorem m_X0_shatters (F : Nat × Nat) (l : Launch) (G : rx_G) (hf : rx_H) (x0 : Int64) (x2 : Int32) {z : Int32} (h : f_X0_shatters F x0 x2 = some z) : rx_Ok l G (3 + 0 * F.2) (rx_ny 27) (.code (rx_ny 27) prog_2_method_22_code 3 (some .boolean)) [.long x0, .int x2] hf (some (.int z)) hf := by
  have h := h
  unfold f_X0_shatters at h
  exact (rx_met (l := l) (G := G) (hf := hf) (as := [.long x0, .int x2]) (r := (some (.int z))) (ls0 := [some (.long x0), none, some (.int x2)]) (y := rx_ny 27) (D := (2 + 0 * F.2)) (ini := false) (bo := true) (u := none) (u' := none) (by decide +kernel) (fun h => by cases h) (Nat.le_of_ble_eq_true rfl) (Or.inr (Or.inl ⟨rfl, rfl, _, rfl⟩)) (fun Z hZ hB => rx_RT_rI hZ hB) (by exact ⟨Or.inr rfl, Or.inl rfl, Or.inr rfl, trivial⟩) (s_X0_shatters_0 (cc_X0_shatters F l G z) x0 x2 h)).deep (by omega)
theorem w_X0_shatters (F : Nat × Nat) (l : Launch) (G : rx_G) {α : Type} {z : α} {as : List Value} {u : Option rx_H} {κ : rx_K α} (h : c_X0_shatters F as u κ = some z) : rx_Cw l G (3 + 0 * F.2) 27 as u κ z := by
  unfold c_X0_shatters at h
  split at h
  · obtain ⟨r, hr, h⟩ := Option.bind_eq_some_iff.mp h
    exact ⟨_, _, _, _, h, k_X0_shatters, fun _ => rfl, fun h => absurd rfl h, fun hf => m_X0_shatters F l G _ _ _ hr⟩
  · cases h
set_option maxRecDepth 100000 in
theorem k_X0_moved : rx_Cal (rx_ny 22) (.code (rx_ny 22) prog_2_method_23_code 10 (some .long)) (rx_kd 22) 3 := ⟨prog_2_method_23_code, 10, (some .long), Or.inl rfl, rx_in (i := 409) (by rfl) (by rfl), rx_in (i := 48) (by decide +kernel) (by decide +kernel), ⟨(by decide +kernel), (by decide +kernel), (by decide +kernel)⟩, Nat.le_of_ble_eq_true rfl, fun _ => rx_in (i := 408) (by decide +kernel) (by decide +kernel), fun h => absurd h (by decide), fun h => absurd h (by decide)⟩
set_option maxRecDepth 100000 in
theorem tk_X0_moved : (t_X0_moved.all (rx_eok "SetHouse$Heap" prog_2_method_23_code 10 false false) && rx_adj t_X0_moved) = true := by decide +kernel
theorem s_X0_moved_0 {F : Nat × Nat} {l : Launch} {G : rx_G} {D : Nat} {hf : rx_H} {z : Int64} (hC : rx_CC l G D (C_X0_moved F) z) (x0 : Int64) (x2 : Int32) (x3 : Int32) (h : f_X0_moved_0 F x0 x2 x3 = some z) : rx_S l G ("SetHouse$Heap", prog_2_method_23_code, 10, false, false, D) hf hf rx_rJ z 0 [some (.long x0), none, some (.int x2), some (.int x3), none, none, none, none, none, none] [] none := by
  rw [g_X0_moved_0] at h
  refine rx_S_node (md := ("SetHouse$Heap", prog_2_method_23_code, 10, false, false, D)) tk_X0_moved hC rx_m_rJ (fun t ls st u h => ?_) h
  unfold kk_X0_moved_0 at h
  cases h
theorem cc_X0_moved (F : Nat × Nat) (l : Launch) (G : rx_G) {α : Type} (z : α) : rx_CC l G (1 + 0 * F.2) (C_X0_moved F) z := by
  intro j as u κ h
  unfold C_X0_moved at h
  rcases rx_rec_eq h with ⟨hb, h⟩ | ⟨hb, h⟩
  · have ht := Nat.eq_of_beq_eq_true hb
    subst ht
    exact (w_X0_lessThing F l G h).deep (by omega)
  rcases rx_rec_eq h with ⟨hb, h⟩ | ⟨hb, h⟩
  · have ht := Nat.eq_of_beq_eq_true hb
    subst ht
    exact (w_X0_moreThing F l G h).deep (by omega)
  cases h
theorem m_X0_moved (F : Nat × Nat) (l : Launch) (G : rx_G) (hf : rx_H) (x0 : Int64) (x2 : Int32) (x3 : Int32) {z : Int64} (h : f_X0_moved F x0 x2 x3 = some z) : rx_Ok l G (2 + 0 * F.2) (rx_ny 22) (.code (rx_ny 22) prog_2_method_23_code 10 (some .long)) [.long x0, .int x2, .int x3] hf (some (.long z)) hf := by
  have h := h
  unfold f_X0_moved at h
  exact (rx_met (l := l) (G := G) (hf := hf) (as := [.long x0, .int x2, .int x3]) (r := (some (.long z))) (ls0 := [some (.long x0), none, some (.int x2), some (.int x3), none, none, none, none, none, none]) (y := rx_ny 22) (D := (1 + 0 * F.2)) (ini := false) (bo := false) (u := none) (u' := none) (by decide +kernel) (fun h => by cases h) (Nat.le_of_ble_eq_true rfl) (Or.inr (Or.inr (Or.inl ⟨rfl, _, rfl⟩))) (fun Z hZ hB => rx_RT_rJ hZ hB) (by exact ⟨Or.inr rfl, Or.inl rfl, Or.inr rfl, Or.inr rfl, Or.inl rfl, Or.inl rfl, Or.inl rfl, Or.inl rfl, Or.inl rfl, Or.inl rfl, trivial⟩) (s_X0_moved_0 (cc_X0_moved F l G z) x0 x2 x3 h)).deep (by omega)
theorem w_X0_moved (F : Nat × Nat) (l : Launch) (G : rx_G) {α : Type} {z : α} {as : List Value} {u : Option rx_H} {κ : rx_K α} (h : c_X0_moved F as u κ = some z) : rx_Cw l G (2 + 0 * F.2) 22 as u κ z := by
  unfold c_X0_moved at h
  split at h
  · obtain ⟨r, hr, h⟩ := Option.bind_eq_some_iff.mp h
    exact ⟨_, _, _, _, h, k_X0_moved, fun _ => rfl, fun h => absurd rfl h, fun hf => m_X0_moved F l G _ _ _ _ hr⟩
  · cases h
set_option maxRecDepth 100000 in
theorem k_X0_swapped : rx_Cal (rx_ny 29) (.code (rx_ny 29) prog_2_method_24_code 10 (some .long)) (rx_kd 29) 3 := ⟨prog_2_method_24_code, 10, (some .long), Or.inl rfl, rx_in (i := 583) (by rfl) (by rfl), rx_in (i := 48) (by decide +kernel) (by decide +kernel), ⟨(by decide +kernel), (by decide +kernel), (by decide +kernel)⟩, Nat.le_of_ble_eq_true rfl, fun _ => rx_in (i := 582) (by decide +kernel) (by decide +kernel), fun h => absurd h (by decide), fun h => absurd h (by decide)⟩
set_option maxRecDepth 100000 in
theorem tk_X0_swapped : (t_X0_swapped.all (rx_eok "SetHouse$Heap" prog_2_method_24_code 10 false false) && rx_adj t_X0_swapped) = true := by decide +kernel
theorem s_X0_swapped_0 {F : Nat × Nat} {l : Launch} {G : rx_G} {D : Nat} {hf : rx_H} {z : Int64} (hC : rx_CC l G D (C_X0_swapped F) z) (x0 : Int64) (x2 : Int32) (x3 : Int32) (h : f_X0_swapped_0 F x0 x2 x3 = some z) : rx_S l G ("SetHouse$Heap", prog_2_method_24_code, 10, false, false, D) hf hf rx_rJ z 0 [some (.long x0), none, some (.int x2), some (.int x3), none, none, none, none, none, none] [] none := by
  rw [g_X0_swapped_0] at h
  refine rx_S_node (md := ("SetHouse$Heap", prog_2_method_24_code, 10, false, false, D)) tk_X0_swapped hC rx_m_rJ (fun t ls st u h => ?_) h
  unfold kk_X0_swapped_0 at h
  cases h
theorem cc_X0_swapped (F : Nat × Nat) (l : Launch) (G : rx_G) {α : Type} (z : α) : rx_CC l G (1 + 0 * F.2) (C_X0_swapped F) z := by
  intro j as u κ h
  unfold C_X0_swapped at h
  rcases rx_rec_eq h with ⟨hb, h⟩ | ⟨hb, h⟩
  · have ht := Nat.eq_of_beq_eq_true hb
    subst ht
    exact (w_X0_lessThing F l G h).deep (by omega)
  rcases rx_rec_eq h with ⟨hb, h⟩ | ⟨hb, h⟩
  · have ht := Nat.eq_of_beq_eq_true hb
    subst ht
    exact (w_X0_moreThing F l G h).deep (by omega)
  cases h
theorem m_X0_swapped (F : Nat × Nat) (l : Launch) (G : rx_G) (hf : rx_H) (x0 : Int64) (x2 : Int32) (x3 : Int32) {z : Int64} (h : f_X0_swapped F x0 x2 x3 = some z) : rx_Ok l G (2 + 0 * F.2) (rx_ny 29) (.code (rx_ny 29) prog_2_method_24_code 10 (some .long)) [.long x0, .int x2, .int x3] hf (some (.long z)) hf := by
  have h := h
  unfold f_X0_swapped at h
  exact (rx_met (l := l) (G := G) (hf := hf) (as := [.long x0, .int x2, .int x3]) (r := (some (.long z))) (ls0 := [some (.long x0), none, some (.int x2), some (.int x3), none, none, none, none, none, none]) (y := rx_ny 29) (D := (1 + 0 * F.2)) (ini := false) (bo := false) (u := none) (u' := none) (by decide +kernel) (fun h => by cases h) (Nat.le_of_ble_eq_true rfl) (Or.inr (Or.inr (Or.inl ⟨rfl, _, rfl⟩))) (fun Z hZ hB => rx_RT_rJ hZ hB) (by exact ⟨Or.inr rfl, Or.inl rfl, Or.inr rfl, Or.inr rfl, Or.inl rfl, Or.inl rfl, Or.inl rfl, Or.inl rfl, Or.inl rfl, Or.inl rfl, trivial⟩) (s_X0_swapped_0 (cc_X0_swapped F l G z) x0 x2 x3 h)).deep (by omega)
theorem w_X0_swapped (F : Nat × Nat) (l : Launch) (G : rx_G) {α : Type} {z : α} {as : List Value} {u : Option rx_H} {κ : rx_K α} (h : c_X0_swapped F as u κ = some z) : rx_Cw l G (2 + 0 * F.2) 29 as u κ z := by
  unfold c_X0_swapped at h
  split at h
  · obtain ⟨r, hr, h⟩ := Option.bind_eq_some_iff.mp h
    exact ⟨_, _, _, _, h, k_X0_swapped, fun _ => rfl, fun h => absurd rfl h, fun hf => m_X0_swapped F l G _ _ _ _ hr⟩
  · cases h
set_option maxRecDepth 100000 in
theorem k_X1_hasNumber : rx_Cal (rx_ny 38) (.code (rx_ny 38) prog_3_method_2_code 1 (some .boolean)) (rx_kd 38) 1 := ⟨prog_3_method_2_code, 1, (some .boolean), Or.inl rfl, rx_in (i := 168) (by rfl) (by rfl), rx_in (i := 47) (by decide +kernel) (by decide +kernel), ⟨(by decide +kernel), (by decide +kernel), (by decide +kernel)⟩, Nat.le_of_ble_eq_true rfl, fun _ => rx_in (i := 167) (by decide +kernel) (by decide +kernel), fun h => absurd h (by decide), fun h => absurd h (by decide)⟩
set_option maxRecDepth 100000 in
theorem tk_X1_hasNumber : (t_X1_hasNumber.all (rx_eok "SetHouse$Kinds" prog_3_method_2_code 1 false true) && rx_adj t_X1_hasNumber) = true := by decide +kernel
theorem s_X1_hasNumber_0 {F : Nat × Nat} {l : Launch} {G : rx_G} {D : Nat} {hf : rx_H} {z : Int32} (hC : rx_CC l G D (C_X1_hasNumber F) z) (x0 : Int32) (h : f_X1_hasNumber_0 F x0 = some z) : rx_S l G ("SetHouse$Kinds", prog_3_method_2_code, 1, false, true, D) hf hf rx_rI z 0 [some (.int x0)] [] none := by
  rw [g_X1_hasNumber_0] at h
  refine rx_S_node (md := ("SetHouse$Kinds", prog_3_method_2_code, 1, false, true, D)) tk_X1_hasNumber hC rx_m_rI (fun t ls st u h => ?_) h
  unfold kk_X1_hasNumber_0 at h
  cases h
theorem cc_X1_hasNumber (F : Nat × Nat) (l : Launch) (G : rx_G) {α : Type} (z : α) : rx_CC l G (0 + 0 * F.2) (C_X1_hasNumber F) z := by
  intro j as u κ h
  unfold C_X1_hasNumber at h
  cases h
theorem m_X1_hasNumber (F : Nat × Nat) (l : Launch) (G : rx_G) (hf : rx_H) (x0 : Int32) {z : Int32} (h : f_X1_hasNumber F x0 = some z) : rx_Ok l G (1 + 0 * F.2) (rx_ny 38) (.code (rx_ny 38) prog_3_method_2_code 1 (some .boolean)) [.int x0] hf (some (.int z)) hf := by
  have h := h
  unfold f_X1_hasNumber at h
  exact (rx_met (l := l) (G := G) (hf := hf) (as := [.int x0]) (r := (some (.int z))) (ls0 := [some (.int x0)]) (y := rx_ny 38) (D := (0 + 0 * F.2)) (ini := false) (bo := true) (u := none) (u' := none) (by decide +kernel) (fun h => by cases h) (Nat.le_of_ble_eq_true rfl) (Or.inr (Or.inl ⟨rfl, rfl, _, rfl⟩)) (fun Z hZ hB => rx_RT_rI hZ hB) (by exact ⟨Or.inr rfl, trivial⟩) (s_X1_hasNumber_0 (cc_X1_hasNumber F l G z) x0 h)).deep (by omega)
theorem w_X1_hasNumber (F : Nat × Nat) (l : Launch) (G : rx_G) {α : Type} {z : α} {as : List Value} {u : Option rx_H} {κ : rx_K α} (h : c_X1_hasNumber F as u κ = some z) : rx_Cw l G (1 + 0 * F.2) 38 as u κ z := by
  unfold c_X1_hasNumber at h
  split at h
  · obtain ⟨r, hr, h⟩ := Option.bind_eq_some_iff.mp h
    exact ⟨_, _, _, _, h, k_X1_hasNumber, fun _ => rfl, fun h => absurd rfl h, fun hf => m_X1_hasNumber F l G _ _ hr⟩
  · cases h
set_option maxRecDepth 100000 in
theorem k_J6_bitCount_0f7a4 : rx_Cal (rx_ny 1) (.code (rx_ny 1) prog_13_method_49_code 1 (some .int)) (rx_kd 1) 1 := ⟨prog_13_method_49_code, 1, (some .int), Or.inl rfl, rx_in (i := 108) (by rfl) (by rfl), rx_in (i := 44) (by decide +kernel) (by decide +kernel), ⟨(by decide +kernel), (by decide +kernel), (by decide +kernel)⟩, Nat.le_of_ble_eq_true rfl, fun _ => rx_in (i := 107) (by decide +kernel) (by decide +kernel), fun h => absurd h (by decide), fun h => absurd h (by decide)⟩
set_option maxRecDepth 100000 in
theorem tk_J6_bitCount_0f7a4 : (t_J6_bitCount_0f7a4.all (rx_eok "java/lang/Integer" prog_13_method_49_code 1 false false) && rx_adj t_J6_bitCount_0f7a4) = true := by decide +kernel
theorem s_J6_bitCount_0f7a4_48 {F : Nat × Nat} {l : Launch} {G : rx_G} {D : Nat} {hf : rx_H} {z : Int32} (hC : rx_CC l G D (C_J6_bitCount_0f7a4 F) z) (x0 : Int32) (h : f_J6_bitCount_0f7a4_48 F x0 = some z) : rx_S l G ("java/lang/Integer", prog_13_method_49_code, 1, false, false, D) hf hf rx_rI z 48 [some (.int x0)] [] none := by
  rw [g_J6_bitCount_0f7a4_48] at h
  refine rx_S_node (md := ("java/lang/Integer", prog_13_method_49_code, 1, false, false, D)) tk_J6_bitCount_0f7a4 hC rx_m_rI (fun t ls st u h => ?_) h
  unfold kk_J6_bitCount_0f7a4_48 at h
  cases h
theorem s_J6_bitCount_0f7a4_41 {F : Nat × Nat} {l : Launch} {G : rx_G} {D : Nat} {hf : rx_H} {z : Int32} (hC : rx_CC l G D (C_J6_bitCount_0f7a4 F) z) (x0 : Int32) (h : f_J6_bitCount_0f7a4_41 F x0 = some z) : rx_S l G ("java/lang/Integer", prog_13_method_49_code, 1, false, false, D) hf hf rx_rI z 41 [some (.int x0)] [] none := by
  rw [g_J6_bitCount_0f7a4_41] at h
  refine rx_S_node (md := ("java/lang/Integer", prog_13_method_49_code, 1, false, false, D)) tk_J6_bitCount_0f7a4 hC rx_m_rI (fun t ls st u h => ?_) h
  unfold kk_J6_bitCount_0f7a4_41 at h
  rcases rx_rec_eq h with ⟨hb, h⟩ | ⟨hb, h⟩
  · have ht := Nat.eq_of_beq_eq_true hb
    subst ht
    unfold n_J6_bitCount_0f7a4_48 at h
    split at h
    · exact (s_J6_bitCount_0f7a4_48 hC _ h).le ⟨Or.inr rfl, trivial⟩
    · cases h
  cases h
theorem s_J6_bitCount_0f7a4_34 {F : Nat × Nat} {l : Launch} {G : rx_G} {D : Nat} {hf : rx_H} {z : Int32} (hC : rx_CC l G D (C_J6_bitCount_0f7a4 F) z) (x0 : Int32) (h : f_J6_bitCount_0f7a4_34 F x0 = some z) : rx_S l G ("java/lang/Integer", prog_13_method_49_code, 1, false, false, D) hf hf rx_rI z 34 [some (.int x0)] [] none := by
  rw [g_J6_bitCount_0f7a4_34] at h
  refine rx_S_node (md := ("java/lang/Integer", prog_13_method_49_code, 1, false, false, D)) tk_J6_bitCount_0f7a4 hC rx_m_rI (fun t ls st u h => ?_) h
  unfold kk_J6_bitCount_0f7a4_34 at h
  rcases rx_rec_eq h with ⟨hb, h⟩ | ⟨hb, h⟩
  · have ht := Nat.eq_of_beq_eq_true hb
    subst ht
    unfold n_J6_bitCount_0f7a4_41 at h
    split at h
    · exact (s_J6_bitCount_0f7a4_41 hC _ h).le ⟨Or.inr rfl, trivial⟩
    · cases h
  cases h
theorem s_J6_bitCount_0f7a4_24 {F : Nat × Nat} {l : Launch} {G : rx_G} {D : Nat} {hf : rx_H} {z : Int32} (hC : rx_CC l G D (C_J6_bitCount_0f7a4 F) z) (x0 : Int32) (h : f_J6_bitCount_0f7a4_24 F x0 = some z) : rx_S l G ("java/lang/Integer", prog_13_method_49_code, 1, false, false, D) hf hf rx_rI z 24 [some (.int x0)] [] none := by
  rw [g_J6_bitCount_0f7a4_24] at h
  refine rx_S_node (md := ("java/lang/Integer", prog_13_method_49_code, 1, false, false, D)) tk_J6_bitCount_0f7a4 hC rx_m_rI (fun t ls st u h => ?_) h
  unfold kk_J6_bitCount_0f7a4_24 at h
  rcases rx_rec_eq h with ⟨hb, h⟩ | ⟨hb, h⟩
  · have ht := Nat.eq_of_beq_eq_true hb
    subst ht
    unfold n_J6_bitCount_0f7a4_34 at h
    split at h
    · exact (s_J6_bitCount_0f7a4_34 hC _ h).le ⟨Or.inr rfl, trivial⟩
    · cases h
  cases h
theorem s_J6_bitCount_0f7a4_10 {F : Nat × Nat} {l : Launch} {G : rx_G} {D : Nat} {hf : rx_H} {z : Int32} (hC : rx_CC l G D (C_J6_bitCount_0f7a4 F) z) (x0 : Int32) (h : f_J6_bitCount_0f7a4_10 F x0 = some z) : rx_S l G ("java/lang/Integer", prog_13_method_49_code, 1, false, false, D) hf hf rx_rI z 10 [some (.int x0)] [] none := by
  rw [g_J6_bitCount_0f7a4_10] at h
  refine rx_S_node (md := ("java/lang/Integer", prog_13_method_49_code, 1, false, false, D)) tk_J6_bitCount_0f7a4 hC rx_m_rI (fun t ls st u h => ?_) h
  unfold kk_J6_bitCount_0f7a4_10 at h
  rcases rx_rec_eq h with ⟨hb, h⟩ | ⟨hb, h⟩
  · have ht := Nat.eq_of_beq_eq_true hb
    subst ht
    unfold n_J6_bitCount_0f7a4_24 at h
    split at h
    · exact (s_J6_bitCount_0f7a4_24 hC _ h).le ⟨Or.inr rfl, trivial⟩
    · cases h
  cases h
theorem s_J6_bitCount_0f7a4_0 {F : Nat × Nat} {l : Launch} {G : rx_G} {D : Nat} {hf : rx_H} {z : Int32} (hC : rx_CC l G D (C_J6_bitCount_0f7a4 F) z) (x0 : Int32) (h : f_J6_bitCount_0f7a4_0 F x0 = some z) : rx_S l G ("java/lang/Integer", prog_13_method_49_code, 1, false, false, D) hf hf rx_rI z 0 [some (.int x0)] [] none := by
  rw [g_J6_bitCount_0f7a4_0] at h
  refine rx_S_node (md := ("java/lang/Integer", prog_13_method_49_code, 1, false, false, D)) tk_J6_bitCount_0f7a4 hC rx_m_rI (fun t ls st u h => ?_) h
  unfold kk_J6_bitCount_0f7a4_0 at h
  rcases rx_rec_eq h with ⟨hb, h⟩ | ⟨hb, h⟩
  · have ht := Nat.eq_of_beq_eq_true hb
    subst ht
    unfold n_J6_bitCount_0f7a4_10 at h
    split at h
    · exact (s_J6_bitCount_0f7a4_10 hC _ h).le ⟨Or.inr rfl, trivial⟩
    · cases h
  cases h
theorem cc_J6_bitCount_0f7a4 (F : Nat × Nat) (l : Launch) (G : rx_G) {α : Type} (z : α) : rx_CC l G (0 + 0 * F.2) (C_J6_bitCount_0f7a4 F) z := by
  intro j as u κ h
  unfold C_J6_bitCount_0f7a4 at h
  cases h
theorem m_J6_bitCount_0f7a4 (F : Nat × Nat) (l : Launch) (G : rx_G) (hf : rx_H) (x0 : Int32) {z : Int32} (h : f_J6_bitCount_0f7a4 F x0 = some z) : rx_Ok l G (1 + 0 * F.2) (rx_ny 1) (.code (rx_ny 1) prog_13_method_49_code 1 (some .int)) [.int x0] hf (some (.int z)) hf := by
  have h := h
  unfold f_J6_bitCount_0f7a4 at h
  exact (rx_met (l := l) (G := G) (hf := hf) (as := [.int x0]) (r := (some (.int z))) (ls0 := [some (.int x0)]) (y := rx_ny 1) (D := (0 + 0 * F.2)) (ini := false) (bo := false) (u := none) (u' := none) (by decide +kernel) (fun h => by cases h) (Nat.le_of_ble_eq_true rfl) (Or.inl ⟨rfl, rfl, _, rfl⟩) (fun Z hZ hB => rx_RT_rI hZ hB) (by exact ⟨Or.inr rfl, trivial⟩) (s_J6_bitCount_0f7a4_0 (cc_J6_bitCount_0f7a4 F l G z) x0 h)).deep (by omega)
theorem w_J6_bitCount_0f7a4 (F : Nat × Nat) (l : Launch) (G : rx_G) {α : Type} {z : α} {as : List Value} {u : Option rx_H} {κ : rx_K α} (h : c_J6_bitCount_0f7a4 F as u κ = some z) : rx_Cw l G (1 + 0 * F.2) 1 as u κ z := by
  unfold c_J6_bitCount_0f7a4 at h
  split at h
  · obtain ⟨r, hr, h⟩ := Option.bind_eq_some_iff.mp h
    exact ⟨_, _, _, _, h, k_J6_bitCount_0f7a4, fun _ => rfl, fun h => absurd rfl h, fun hf => m_J6_bitCount_0f7a4 F l G _ _ hr⟩
  · cases h
set_option maxRecDepth 100000 in
theorem k_X1_firstFarFrom : rx_Cal (rx_ny 36) (.code (rx_ny 36) prog_3_method_6_code 5 (some .int)) (rx_kd 36) 3 := ⟨prog_3_method_6_code, 5, (some .int), Or.inl rfl, rx_in (i := 243) (by rfl) (by rfl), rx_in (i := 47) (by decide +kernel) (by decide +kernel), ⟨(by decide +kernel), (by decide +kernel), (by decide +kernel)⟩, Nat.le_of_ble_eq_true rfl, fun _ => rx_in (i := 242) (by decide +kernel) (by decide +kernel), fun h => absurd h (by decide), fun h => absurd h (by decide)⟩
set_option maxRecDepth 100000 in
theorem tk_X1_firstFarFrom : (t_X1_firstFarFrom.all (rx_eok "SetHouse$Kinds" prog_3_method_6_code 5 false false) && rx_adj t_X1_firstFarFrom) = true := by decide +kernel
theorem s_X1_firstFarFrom_7 {F : Nat × Nat} {l : Launch} {G : rx_G} {D : Nat} {hf : rx_H} {z : Int32} (hC : rx_CC l G D (C_X1_firstFarFrom F) z) : ∀ (f : Nat) (x0 : Int64) (x2 : Int32) (x3 : Int32) (x4 : Int32), f_X1_firstFarFrom_7 F f x0 x2 x3 x4 = some z → rx_S l G ("SetHouse$Kinds", prog_3_method_6_code, 5, false, false, D) hf hf rx_rI z 7 [some (.long x0), none, some (.int x2), some (.int x3), some (.int x4)] [] none := by
  intro f
  induction f with
  | zero =>
    intro x0 x2 x3 x4 h
    cases h
  | succ f ih =>
    intro x0 x2 x3 x4 h
    rw [g_X1_firstFarFrom_7] at h
    refine rx_S_node (md := ("SetHouse$Kinds", prog_3_method_6_code, 5, false, false, D)) tk_X1_firstFarFrom hC rx_m_rI (fun t ls st u h => ?_) h
    unfold kk_X1_firstFarFrom_7 at h
    rcases rx_rec_eq h with ⟨hb, h⟩ | ⟨hb, h⟩
    · have ht := Nat.eq_of_beq_eq_true hb
      subst ht
      unfold n_X1_firstFarFrom_7 at h
      split at h
      · exact (ih _ _ _ _ h).le ⟨Or.inr rfl, Or.inl rfl, Or.inr rfl, Or.inr rfl, Or.inr rfl, trivial⟩
      · cases h
    cases h
theorem s_X1_firstFarFrom_0 {F : Nat × Nat} {l : Launch} {G : rx_G} {D : Nat} {hf : rx_H} {z : Int32} (hC : rx_CC l G D (C_X1_firstFarFrom F) z) (x0 : Int64) (x2 : Int32) (x3 : Int32) (h : f_X1_firstFarFrom_0 F x0 x2 x3 = some z) : rx_S l G ("SetHouse$Kinds", prog_3_method_6_code, 5, false, false, D) hf hf rx_rI z 0 [some (.long x0), none, some (.int x2), some (.int x3), none] [] none := by
  rw [g_X1_firstFarFrom_0] at h
  refine rx_S_node (md := ("SetHouse$Kinds", prog_3_method_6_code, 5, false, false, D)) tk_X1_firstFarFrom hC rx_m_rI (fun t ls st u h => ?_) h
  unfold kk_X1_firstFarFrom_0 at h
  rcases rx_rec_eq h with ⟨hb, h⟩ | ⟨hb, h⟩
  · have ht := Nat.eq_of_beq_eq_true hb
    subst ht
    unfold n_X1_firstFarFrom_7 at h
    split at h
    · exact (s_X1_firstFarFrom_7 hC _ _ _ _ _ h).le ⟨Or.inr rfl, Or.inl rfl, Or.inr rfl, Or.inr rfl, Or.inr rfl, trivial⟩
    · cases h
  cases h
theorem cc_X1_firstFarFrom (F : Nat × Nat) (l : Launch) (G : rx_G) {α : Type} (z : α) : rx_CC l G (2 + 0 * F.2) (C_X1_firstFarFrom F) z := by
  intro j as u κ h
  unfold C_X1_firstFarFrom at h
  rcases rx_rec_eq h with ⟨hb, h⟩ | ⟨hb, h⟩
  · have ht := Nat.eq_of_beq_eq_true hb
    subst ht
    exact (w_J6_bitCount_0f7a4 F l G h).deep (by omega)
  rcases rx_rec_eq h with ⟨hb, h⟩ | ⟨hb, h⟩
  · have ht := Nat.eq_of_beq_eq_true hb
    subst ht
    exact (w_X0_next F l G h).deep (by omega)
  cases h
theorem m_X1_firstFarFrom (F : Nat × Nat) (l : Launch) (G : rx_G) (hf : rx_H) (x0 : Int64) (x2 : Int32) (x3 : Int32) {z : Int32} (h : f_X1_firstFarFrom F x0 x2 x3 = some z) : rx_Ok l G (3 + 0 * F.2) (rx_ny 36) (.code (rx_ny 36) prog_3_method_6_code 5 (some .int)) [.long x0, .int x2, .int x3] hf (some (.int z)) hf := by
  have h := h
  unfold f_X1_firstFarFrom at h
  exact (rx_met (l := l) (G := G) (hf := hf) (as := [.long x0, .int x2, .int x3]) (r := (some (.int z))) (ls0 := [some (.long x0), none, some (.int x2), some (.int x3), none]) (y := rx_ny 36) (D := (2 + 0 * F.2)) (ini := false) (bo := false) (u := none) (u' := none) (by decide +kernel) (fun h => by cases h) (Nat.le_of_ble_eq_true rfl) (Or.inl ⟨rfl, rfl, _, rfl⟩) (fun Z hZ hB => rx_RT_rI hZ hB) (by exact ⟨Or.inr rfl, Or.inl rfl, Or.inr rfl, Or.inr rfl, Or.inl rfl, trivial⟩) (s_X1_firstFarFrom_0 (cc_X1_firstFarFrom F l G z) x0 x2 x3 h)).deep (by omega)
theorem w_X1_firstFarFrom (F : Nat × Nat) (l : Launch) (G : rx_G) {α : Type} {z : α} {as : List Value} {u : Option rx_H} {κ : rx_K α} (h : c_X1_firstFarFrom F as u κ = some z) : rx_Cw l G (3 + 0 * F.2) 36 as u κ z := by
  unfold c_X1_firstFarFrom at h
  split at h
  · obtain ⟨r, hr, h⟩ := Option.bind_eq_some_iff.mp h
    exact ⟨_, _, _, _, h, k_X1_firstFarFrom, fun _ => rfl, fun h => absurd rfl h, fun hf => m_X1_firstFarFrom F l G _ _ _ _ hr⟩
  · cases h
set_option maxRecDepth 100000 in
theorem k_X1_meetClash : rx_Cal (rx_ny 41) (.code (rx_ny 41) prog_3_method_5_code 4 (some .int)) (rx_kd 41) 3 := ⟨prog_3_method_5_code, 4, (some .int), Or.inl rfl, rx_in (i := 239) (by rfl) (by rfl), rx_in (i := 47) (by decide +kernel) (by decide +kernel), ⟨(by decide +kernel), (by decide +kernel), (by decide +kernel)⟩, Nat.le_of_ble_eq_true rfl, fun _ => rx_in (i := 238) (by decide +kernel) (by decide +kernel), fun h => absurd h (by decide), fun h => absurd h (by decide)⟩
set_option maxRecDepth 100000 in
theorem tk_X1_meetClash : (t_X1_meetClash.all (rx_eok "SetHouse$Kinds" prog_3_method_5_code 4 false false) && rx_adj t_X1_meetClash) = true := by decide +kernel
theorem s_X1_meetClash_0 {F : Nat × Nat} {l : Launch} {G : rx_G} {D : Nat} {hf : rx_H} {z : Int32} (hC : rx_CC l G D (C_X1_meetClash F) z) (x0 : Int64) (x2 : Int32) (x3 : Int32) (h : f_X1_meetClash_0 F x0 x2 x3 = some z) : rx_S l G ("SetHouse$Kinds", prog_3_method_5_code, 4, false, false, D) hf hf rx_rI z 0 [some (.long x0), none, some (.int x2), some (.int x3)] [] none := by
  rw [g_X1_meetClash_0] at h
  refine rx_S_node (md := ("SetHouse$Kinds", prog_3_method_5_code, 4, false, false, D)) tk_X1_meetClash hC rx_m_rI (fun t ls st u h => ?_) h
  unfold kk_X1_meetClash_0 at h
  cases h
theorem cc_X1_meetClash (F : Nat × Nat) (l : Launch) (G : rx_G) {α : Type} (z : α) : rx_CC l G (3 + 0 * F.2) (C_X1_meetClash F) z := by
  intro j as u κ h
  unfold C_X1_meetClash at h
  rcases rx_rec_eq h with ⟨hb, h⟩ | ⟨hb, h⟩
  · have ht := Nat.eq_of_beq_eq_true hb
    subst ht
    exact (w_J6_bitCount_0f7a4 F l G h).deep (by omega)
  rcases rx_rec_eq h with ⟨hb, h⟩ | ⟨hb, h⟩
  · have ht := Nat.eq_of_beq_eq_true hb
    subst ht
    exact (w_X1_firstFarFrom F l G h).deep (by omega)
  cases h
theorem m_X1_meetClash (F : Nat × Nat) (l : Launch) (G : rx_G) (hf : rx_H) (x0 : Int64) (x2 : Int32) (x3 : Int32) {z : Int32} (h : f_X1_meetClash F x0 x2 x3 = some z) : rx_Ok l G (4 + 0 * F.2) (rx_ny 41) (.code (rx_ny 41) prog_3_method_5_code 4 (some .int)) [.long x0, .int x2, .int x3] hf (some (.int z)) hf := by
  have h := h
  unfold f_X1_meetClash at h
  exact (rx_met (l := l) (G := G) (hf := hf) (as := [.long x0, .int x2, .int x3]) (r := (some (.int z))) (ls0 := [some (.long x0), none, some (.int x2), some (.int x3)]) (y := rx_ny 41) (D := (3 + 0 * F.2)) (ini := false) (bo := false) (u := none) (u' := none) (by decide +kernel) (fun h => by cases h) (Nat.le_of_ble_eq_true rfl) (Or.inl ⟨rfl, rfl, _, rfl⟩) (fun Z hZ hB => rx_RT_rI hZ hB) (by exact ⟨Or.inr rfl, Or.inl rfl, Or.inr rfl, Or.inr rfl, trivial⟩) (s_X1_meetClash_0 (cc_X1_meetClash F l G z) x0 x2 x3 h)).deep (by omega)
theorem w_X1_meetClash (F : Nat × Nat) (l : Launch) (G : rx_G) {α : Type} {z : α} {as : List Value} {u : Option rx_H} {κ : rx_K α} (h : c_X1_meetClash F as u κ = some z) : rx_Cw l G (4 + 0 * F.2) 41 as u κ z := by
  unfold c_X1_meetClash at h
  split at h
  · obtain ⟨r, hr, h⟩ := Option.bind_eq_some_iff.mp h
    exact ⟨_, _, _, _, h, k_X1_meetClash, fun _ => rfl, fun h => absurd rfl h, fun hf => m_X1_meetClash F l G _ _ _ _ hr⟩
  · cases h
set_option maxRecDepth 100000 in
theorem k_X1_pair : rx_Cal (rx_ny 43) (.code (rx_ny 43) prog_3_method_8_code 2 (some .int)) (rx_kd 43) 2 := ⟨prog_3_method_8_code, 2, (some .int), Or.inl rfl, rx_in (i := 298) (by rfl) (by rfl), rx_in (i := 47) (by decide +kernel) (by decide +kernel), ⟨(by decide +kernel), (by decide +kernel), (by decide +kernel)⟩, Nat.le_of_ble_eq_true rfl, fun _ => rx_in (i := 297) (by decide +kernel) (by decide +kernel), fun h => absurd h (by decide), fun h => absurd h (by decide)⟩
set_option maxRecDepth 100000 in
theorem tk_X1_pair : (t_X1_pair.all (rx_eok "SetHouse$Kinds" prog_3_method_8_code 2 false false) && rx_adj t_X1_pair) = true := by decide +kernel
theorem s_X1_pair_0 {F : Nat × Nat} {l : Launch} {G : rx_G} {D : Nat} {hf : rx_H} {z : Int32} (hC : rx_CC l G D (C_X1_pair F) z) (x0 : Int32) (x1 : Int32) (h : f_X1_pair_0 F x0 x1 = some z) : rx_S l G ("SetHouse$Kinds", prog_3_method_8_code, 2, false, false, D) hf hf rx_rI z 0 [some (.int x0), some (.int x1)] [] none := by
  rw [g_X1_pair_0] at h
  refine rx_S_node (md := ("SetHouse$Kinds", prog_3_method_8_code, 2, false, false, D)) tk_X1_pair hC rx_m_rI (fun t ls st u h => ?_) h
  unfold kk_X1_pair_0 at h
  cases h
theorem cc_X1_pair (F : Nat × Nat) (l : Launch) (G : rx_G) {α : Type} (z : α) : rx_CC l G (0 + 0 * F.2) (C_X1_pair F) z := by
  intro j as u κ h
  unfold C_X1_pair at h
  cases h
theorem m_X1_pair (F : Nat × Nat) (l : Launch) (G : rx_G) (hf : rx_H) (x0 : Int32) (x1 : Int32) {z : Int32} (h : f_X1_pair F x0 x1 = some z) : rx_Ok l G (1 + 0 * F.2) (rx_ny 43) (.code (rx_ny 43) prog_3_method_8_code 2 (some .int)) [.int x0, .int x1] hf (some (.int z)) hf := by
  have h := h
  unfold f_X1_pair at h
  exact (rx_met (l := l) (G := G) (hf := hf) (as := [.int x0, .int x1]) (r := (some (.int z))) (ls0 := [some (.int x0), some (.int x1)]) (y := rx_ny 43) (D := (0 + 0 * F.2)) (ini := false) (bo := false) (u := none) (u' := none) (by decide +kernel) (fun h => by cases h) (Nat.le_of_ble_eq_true rfl) (Or.inl ⟨rfl, rfl, _, rfl⟩) (fun Z hZ hB => rx_RT_rI hZ hB) (by exact ⟨Or.inr rfl, Or.inr rfl, trivial⟩) (s_X1_pair_0 (cc_X1_pair F l G z) x0 x1 h)).deep (by omega)
theorem w_X1_pair (F : Nat × Nat) (l : Launch) (G : rx_G) {α : Type} {z : α} {as : List Value} {u : Option rx_H} {κ : rx_K α} (h : c_X1_pair F as u κ = some z) : rx_Cw l G (1 + 0 * F.2) 43 as u κ z := by
  unfold c_X1_pair at h
  split at h
  · obtain ⟨r, hr, h⟩ := Option.bind_eq_some_iff.mp h
    exact ⟨_, _, _, _, h, k_X1_pair, fun _ => rfl, fun h => absurd rfl h, fun hf => m_X1_pair F l G _ _ _ hr⟩
  · cases h
set_option maxRecDepth 100000 in
theorem k_X1_apartClash : rx_Cal (rx_ny 31) (.code (rx_ny 31) prog_3_method_9_code 4 (some .int)) (rx_kd 31) 1 := ⟨prog_3_method_9_code, 4, (some .int), Or.inl rfl, rx_in (i := 295) (by rfl) (by rfl), rx_in (i := 47) (by decide +kernel) (by decide +kernel), ⟨(by decide +kernel), (by decide +kernel), (by decide +kernel)⟩, Nat.le_of_ble_eq_true rfl, fun _ => rx_in (i := 294) (by decide +kernel) (by decide +kernel), fun h => absurd h (by decide), fun h => absurd h (by decide)⟩
set_option maxRecDepth 100000 in
theorem tk_X1_apartClash : (t_X1_apartClash.all (rx_eok "SetHouse$Kinds" prog_3_method_9_code 4 false false) && rx_adj t_X1_apartClash) = true := by decide +kernel
theorem s_X1_apartClash_6 {F : Nat × Nat} {l : Launch} {G : rx_G} {D : Nat} {hf : rx_H} {z : Int32} (hC : rx_CC l G D (C_X1_apartClash F) z) : ∀ (f : Nat) (x0 : Int64) (x2 : Int32), f_X1_apartClash_6 F f x0 x2 = some z → rx_S l G ("SetHouse$Kinds", prog_3_method_9_code, 4, false, false, D) hf hf rx_rI z 6 [some (.long x0), none, some (.int x2), none] [] none := by
  intro f
  induction f with
  | zero =>
    intro x0 x2 h
    cases h
  | succ f ih =>
    intro x0 x2 h
    rw [g_X1_apartClash_6] at h
    refine rx_S_node (md := ("SetHouse$Kinds", prog_3_method_9_code, 4, false, false, D)) tk_X1_apartClash hC rx_m_rI (fun t ls st u h => ?_) h
    unfold kk_X1_apartClash_6 at h
    rcases rx_rec_eq h with ⟨hb, h⟩ | ⟨hb, h⟩
    · have ht := Nat.eq_of_beq_eq_true hb
      subst ht
      unfold n_X1_apartClash_6 at h
      split at h
      · exact (ih _ _ h).le ⟨Or.inr rfl, Or.inl rfl, Or.inr rfl, Or.inl rfl, trivial⟩
      · cases h
    cases h
theorem s_X1_apartClash_0 {F : Nat × Nat} {l : Launch} {G : rx_G} {D : Nat} {hf : rx_H} {z : Int32} (hC : rx_CC l G D (C_X1_apartClash F) z) (x0 : Int64) (h : f_X1_apartClash_0 F x0 = some z) : rx_S l G ("SetHouse$Kinds", prog_3_method_9_code, 4, false, false, D) hf hf rx_rI z 0 [some (.long x0), none, none, none] [] none := by
  rw [g_X1_apartClash_0] at h
  refine rx_S_node (md := ("SetHouse$Kinds", prog_3_method_9_code, 4, false, false, D)) tk_X1_apartClash hC rx_m_rI (fun t ls st u h => ?_) h
  unfold kk_X1_apartClash_0 at h
  rcases rx_rec_eq h with ⟨hb, h⟩ | ⟨hb, h⟩
  · have ht := Nat.eq_of_beq_eq_true hb
    subst ht
    unfold n_X1_apartClash_6 at h
    split at h
    · exact (s_X1_apartClash_6 hC _ _ _ h).le ⟨Or.inr rfl, Or.inl rfl, Or.inr rfl, Or.inl rfl, trivial⟩
    · cases h
  cases h
theorem cc_X1_apartClash (F : Nat × Nat) (l : Launch) (G : rx_G) {α : Type} (z : α) : rx_CC l G (3 + 0 * F.2) (C_X1_apartClash F) z := by
  intro j as u κ h
  unfold C_X1_apartClash at h
  rcases rx_rec_eq h with ⟨hb, h⟩ | ⟨hb, h⟩
  · have ht := Nat.eq_of_beq_eq_true hb
    subst ht
    exact (w_X0_around F l G h).deep (by omega)
  rcases rx_rec_eq h with ⟨hb, h⟩ | ⟨hb, h⟩
  · have ht := Nat.eq_of_beq_eq_true hb
    subst ht
    exact (w_X0_leastOf F l G h).deep (by omega)
  rcases rx_rec_eq h with ⟨hb, h⟩ | ⟨hb, h⟩
  · have ht := Nat.eq_of_beq_eq_true hb
    subst ht
    exact (w_X0_next F l G h).deep (by omega)
  rcases rx_rec_eq h with ⟨hb, h⟩ | ⟨hb, h⟩
  · have ht := Nat.eq_of_beq_eq_true hb
    subst ht
    exact (w_X1_pair F l G h).deep (by omega)
  cases h
theorem m_X1_apartClash (F : Nat × Nat) (l : Launch) (G : rx_G) (hf : rx_H) (x0 : Int64) {z : Int32} (h : f_X1_apartClash F x0 = some z) : rx_Ok l G (4 + 0 * F.2) (rx_ny 31) (.code (rx_ny 31) prog_3_method_9_code 4 (some .int)) [.long x0] hf (some (.int z)) hf := by
  have h := h
  unfold f_X1_apartClash at h
  exact (rx_met (l := l) (G := G) (hf := hf) (as := [.long x0]) (r := (some (.int z))) (ls0 := [some (.long x0), none, none, none]) (y := rx_ny 31) (D := (3 + 0 * F.2)) (ini := false) (bo := false) (u := none) (u' := none) (by decide +kernel) (fun h => by cases h) (Nat.le_of_ble_eq_true rfl) (Or.inl ⟨rfl, rfl, _, rfl⟩) (fun Z hZ hB => rx_RT_rI hZ hB) (by exact ⟨Or.inr rfl, Or.inl rfl, Or.inl rfl, Or.inl rfl, trivial⟩) (s_X1_apartClash_0 (cc_X1_apartClash F l G z) x0 h)).deep (by omega)
theorem w_X1_apartClash (F : Nat × Nat) (l : Launch) (G : rx_G) {α : Type} {z : α} {as : List Value} {u : Option rx_H} {κ : rx_K α} (h : c_X1_apartClash F as u κ = some z) : rx_Cw l G (4 + 0 * F.2) 31 as u κ z := by
  unfold c_X1_apartClash at h
  split at h
  · obtain ⟨r, hr, h⟩ := Option.bind_eq_some_iff.mp h
    exact ⟨_, _, _, _, h, k_X1_apartClash, fun _ => rfl, fun h => absurd rfl h, fun hf => m_X1_apartClash F l G _ _ hr⟩
  · cases h
set_option maxRecDepth 100000 in
theorem k_X1_downClash : rx_Cal (rx_ny 33) (.code (rx_ny 33) prog_3_method_11_code 4 (some .int)) (rx_kd 33) 1 := ⟨prog_3_method_11_code, 4, (some .int), Or.inl rfl, rx_in (i := 305) (by rfl) (by rfl), rx_in (i := 47) (by decide +kernel) (by decide +kernel), ⟨(by decide +kernel), (by decide +kernel), (by decide +kernel)⟩, Nat.le_of_ble_eq_true rfl, fun _ => rx_in (i := 304) (by decide +kernel) (by decide +kernel), fun h => absurd h (by decide), fun h => absurd h (by decide)⟩
set_option maxRecDepth 100000 in
theorem tk_X1_downClash : (t_X1_downClash.all (rx_eok "SetHouse$Kinds" prog_3_method_11_code 4 false false) && rx_adj t_X1_downClash) = true := by decide +kernel
theorem s_X1_downClash_6 {F : Nat × Nat} {l : Launch} {G : rx_G} {D : Nat} {hf : rx_H} {z : Int32} (hC : rx_CC l G D (C_X1_downClash F) z) : ∀ (f : Nat) (x0 : Int64) (x2 : Int32), f_X1_downClash_6 F f x0 x2 = some z → rx_S l G ("SetHouse$Kinds", prog_3_method_11_code, 4, false, false, D) hf hf rx_rI z 6 [some (.long x0), none, some (.int x2), none] [] none := by
  intro f
  induction f with
  | zero =>
    intro x0 x2 h
    cases h
  | succ f ih =>
    intro x0 x2 h
    rw [g_X1_downClash_6] at h
    refine rx_S_node (md := ("SetHouse$Kinds", prog_3_method_11_code, 4, false, false, D)) tk_X1_downClash hC rx_m_rI (fun t ls st u h => ?_) h
    unfold kk_X1_downClash_6 at h
    rcases rx_rec_eq h with ⟨hb, h⟩ | ⟨hb, h⟩
    · have ht := Nat.eq_of_beq_eq_true hb
      subst ht
      unfold n_X1_downClash_6 at h
      split at h
      · exact (ih _ _ h).le ⟨Or.inr rfl, Or.inl rfl, Or.inr rfl, Or.inl rfl, trivial⟩
      · cases h
    cases h
theorem s_X1_downClash_0 {F : Nat × Nat} {l : Launch} {G : rx_G} {D : Nat} {hf : rx_H} {z : Int32} (hC : rx_CC l G D (C_X1_downClash F) z) (x0 : Int64) (h : f_X1_downClash_0 F x0 = some z) : rx_S l G ("SetHouse$Kinds", prog_3_method_11_code, 4, false, false, D) hf hf rx_rI z 0 [some (.long x0), none, none, none] [] none := by
  rw [g_X1_downClash_0] at h
  refine rx_S_node (md := ("SetHouse$Kinds", prog_3_method_11_code, 4, false, false, D)) tk_X1_downClash hC rx_m_rI (fun t ls st u h => ?_) h
  unfold kk_X1_downClash_0 at h
  rcases rx_rec_eq h with ⟨hb, h⟩ | ⟨hb, h⟩
  · have ht := Nat.eq_of_beq_eq_true hb
    subst ht
    unfold n_X1_downClash_6 at h
    split at h
    · exact (s_X1_downClash_6 hC _ _ _ h).le ⟨Or.inr rfl, Or.inl rfl, Or.inr rfl, Or.inl rfl, trivial⟩
    · cases h
  cases h
theorem cc_X1_downClash (F : Nat × Nat) (l : Launch) (G : rx_G) {α : Type} (z : α) : rx_CC l G (3 + 0 * F.2) (C_X1_downClash F) z := by
  intro j as u κ h
  unfold C_X1_downClash at h
  rcases rx_rec_eq h with ⟨hb, h⟩ | ⟨hb, h⟩
  · have ht := Nat.eq_of_beq_eq_true hb
    subst ht
    exact (w_X0_leastOf F l G h).deep (by omega)
  rcases rx_rec_eq h with ⟨hb, h⟩ | ⟨hb, h⟩
  · have ht := Nat.eq_of_beq_eq_true hb
    subst ht
    exact (w_X0_next F l G h).deep (by omega)
  rcases rx_rec_eq h with ⟨hb, h⟩ | ⟨hb, h⟩
  · have ht := Nat.eq_of_beq_eq_true hb
    subst ht
    exact (w_X0_within F l G h).deep (by omega)
  rcases rx_rec_eq h with ⟨hb, h⟩ | ⟨hb, h⟩
  · have ht := Nat.eq_of_beq_eq_true hb
    subst ht
    exact (w_X1_pair F l G h).deep (by omega)
  cases h
theorem m_X1_downClash (F : Nat × Nat) (l : Launch) (G : rx_G) (hf : rx_H) (x0 : Int64) {z : Int32} (h : f_X1_downClash F x0 = some z) : rx_Ok l G (4 + 0 * F.2) (rx_ny 33) (.code (rx_ny 33) prog_3_method_11_code 4 (some .int)) [.long x0] hf (some (.int z)) hf := by
  have h := h
  unfold f_X1_downClash at h
  exact (rx_met (l := l) (G := G) (hf := hf) (as := [.long x0]) (r := (some (.int z))) (ls0 := [some (.long x0), none, none, none]) (y := rx_ny 33) (D := (3 + 0 * F.2)) (ini := false) (bo := false) (u := none) (u' := none) (by decide +kernel) (fun h => by cases h) (Nat.le_of_ble_eq_true rfl) (Or.inl ⟨rfl, rfl, _, rfl⟩) (fun Z hZ hB => rx_RT_rI hZ hB) (by exact ⟨Or.inr rfl, Or.inl rfl, Or.inl rfl, Or.inl rfl, trivial⟩) (s_X1_downClash_0 (cc_X1_downClash F l G z) x0 h)).deep (by omega)
theorem w_X1_downClash (F : Nat × Nat) (l : Launch) (G : rx_G) {α : Type} {z : α} {as : List Value} {u : Option rx_H} {κ : rx_K α} (h : c_X1_downClash F as u κ = some z) : rx_Cw l G (4 + 0 * F.2) 33 as u κ z := by
  unfold c_X1_downClash at h
  split at h
  · obtain ⟨r, hr, h⟩ := Option.bind_eq_some_iff.mp h
    exact ⟨_, _, _, _, h, k_X1_downClash, fun _ => rfl, fun h => absurd rfl h, fun hf => m_X1_downClash F l G _ _ hr⟩
  · cases h
set_option maxRecDepth 100000 in
theorem k_X1_layerClash : rx_Cal (rx_ny 40) (.code (rx_ny 40) prog_3_method_12_code 4 (some .int)) (rx_kd 40) 2 := ⟨prog_3_method_12_code, 4, (some .int), Or.inl rfl, rx_in (i := 308) (by rfl) (by rfl), rx_in (i := 47) (by decide +kernel) (by decide +kernel), ⟨(by decide +kernel), (by decide +kernel), (by decide +kernel)⟩, Nat.le_of_ble_eq_true rfl, fun _ => rx_in (i := 307) (by decide +kernel) (by decide +kernel), fun h => absurd h (by decide), fun h => absurd h (by decide)⟩
set_option maxRecDepth 100000 in
theorem tk_X1_layerClash : (t_X1_layerClash.all (rx_eok "SetHouse$Kinds" prog_3_method_12_code 4 false false) && rx_adj t_X1_layerClash) = true := by decide +kernel
theorem s_X1_layerClash_6 {F : Nat × Nat} {l : Launch} {G : rx_G} {D : Nat} {hf : rx_H} {z : Int32} (hC : rx_CC l G D (C_X1_layerClash F) z) : ∀ (f : Nat) (x0 : Int64) (x2 : Int32) (x3 : Int32), f_X1_layerClash_6 F f x0 x2 x3 = some z → rx_S l G ("SetHouse$Kinds", prog_3_method_12_code, 4, false, false, D) hf hf rx_rI z 6 [some (.long x0), none, some (.int x2), some (.int x3)] [] none := by
  intro f
  induction f with
  | zero =>
    intro x0 x2 x3 h
    cases h
  | succ f ih =>
    intro x0 x2 x3 h
    rw [g_X1_layerClash_6] at h
    refine rx_S_node (md := ("SetHouse$Kinds", prog_3_method_12_code, 4, false, false, D)) tk_X1_layerClash hC rx_m_rI (fun t ls st u h => ?_) h
    unfold kk_X1_layerClash_6 at h
    rcases rx_rec_eq h with ⟨hb, h⟩ | ⟨hb, h⟩
    · have ht := Nat.eq_of_beq_eq_true hb
      subst ht
      unfold n_X1_layerClash_6 at h
      split at h
      · exact (ih _ _ _ h).le ⟨Or.inr rfl, Or.inl rfl, Or.inr rfl, Or.inr rfl, trivial⟩
      · cases h
    cases h
theorem s_X1_layerClash_0 {F : Nat × Nat} {l : Launch} {G : rx_G} {D : Nat} {hf : rx_H} {z : Int32} (hC : rx_CC l G D (C_X1_layerClash F) z) (x0 : Int64) (x2 : Int32) (h : f_X1_layerClash_0 F x0 x2 = some z) : rx_S l G ("SetHouse$Kinds", prog_3_method_12_code, 4, false, false, D) hf hf rx_rI z 0 [some (.long x0), none, some (.int x2), none] [] none := by
  rw [g_X1_layerClash_0] at h
  refine rx_S_node (md := ("SetHouse$Kinds", prog_3_method_12_code, 4, false, false, D)) tk_X1_layerClash hC rx_m_rI (fun t ls st u h => ?_) h
  unfold kk_X1_layerClash_0 at h
  rcases rx_rec_eq h with ⟨hb, h⟩ | ⟨hb, h⟩
  · have ht := Nat.eq_of_beq_eq_true hb
    subst ht
    unfold n_X1_layerClash_6 at h
    split at h
    · exact (s_X1_layerClash_6 hC _ _ _ _ h).le ⟨Or.inr rfl, Or.inl rfl, Or.inr rfl, Or.inr rfl, trivial⟩
    · cases h
  cases h
theorem cc_X1_layerClash (F : Nat × Nat) (l : Launch) (G : rx_G) {α : Type} (z : α) : rx_CC l G (2 + 0 * F.2) (C_X1_layerClash F) z := by
  intro j as u κ h
  unfold C_X1_layerClash at h
  rcases rx_rec_eq h with ⟨hb, h⟩ | ⟨hb, h⟩
  · have ht := Nat.eq_of_beq_eq_true hb
    subst ht
    exact (w_J6_bitCount_0f7a4 F l G h).deep (by omega)
  rcases rx_rec_eq h with ⟨hb, h⟩ | ⟨hb, h⟩
  · have ht := Nat.eq_of_beq_eq_true hb
    subst ht
    exact (w_X0_next F l G h).deep (by omega)
  rcases rx_rec_eq h with ⟨hb, h⟩ | ⟨hb, h⟩
  · have ht := Nat.eq_of_beq_eq_true hb
    subst ht
    exact (w_X1_pair F l G h).deep (by omega)
  cases h
theorem m_X1_layerClash (F : Nat × Nat) (l : Launch) (G : rx_G) (hf : rx_H) (x0 : Int64) (x2 : Int32) {z : Int32} (h : f_X1_layerClash F x0 x2 = some z) : rx_Ok l G (3 + 0 * F.2) (rx_ny 40) (.code (rx_ny 40) prog_3_method_12_code 4 (some .int)) [.long x0, .int x2] hf (some (.int z)) hf := by
  have h := h
  unfold f_X1_layerClash at h
  exact (rx_met (l := l) (G := G) (hf := hf) (as := [.long x0, .int x2]) (r := (some (.int z))) (ls0 := [some (.long x0), none, some (.int x2), none]) (y := rx_ny 40) (D := (2 + 0 * F.2)) (ini := false) (bo := false) (u := none) (u' := none) (by decide +kernel) (fun h => by cases h) (Nat.le_of_ble_eq_true rfl) (Or.inl ⟨rfl, rfl, _, rfl⟩) (fun Z hZ hB => rx_RT_rI hZ hB) (by exact ⟨Or.inr rfl, Or.inl rfl, Or.inr rfl, Or.inl rfl, trivial⟩) (s_X1_layerClash_0 (cc_X1_layerClash F l G z) x0 x2 h)).deep (by omega)
theorem w_X1_layerClash (F : Nat × Nat) (l : Launch) (G : rx_G) {α : Type} {z : α} {as : List Value} {u : Option rx_H} {κ : rx_K α} (h : c_X1_layerClash F as u κ = some z) : rx_Cw l G (3 + 0 * F.2) 40 as u κ z := by
  unfold c_X1_layerClash at h
  split at h
  · obtain ⟨r, hr, h⟩ := Option.bind_eq_some_iff.mp h
    exact ⟨_, _, _, _, h, k_X1_layerClash, fun _ => rfl, fun h => absurd rfl h, fun hf => m_X1_layerClash F l G _ _ _ hr⟩
  · cases h
set_option maxRecDepth 100000 in
theorem k_X1_meetingClash : rx_Cal (rx_ny 42) (.code (rx_ny 42) prog_3_method_10_code 5 (some .int)) (rx_kd 42) 2 := ⟨prog_3_method_10_code, 5, (some .int), Or.inl rfl, rx_in (i := 301) (by rfl) (by rfl), rx_in (i := 47) (by decide +kernel) (by decide +kernel), ⟨(by decide +kernel), (by decide +kernel), (by decide +kernel)⟩, Nat.le_of_ble_eq_true rfl, fun _ => rx_in (i := 300) (by decide +kernel) (by decide +kernel), fun h => absurd h (by decide), fun h => absurd h (by decide)⟩
set_option maxRecDepth 100000 in
theorem tk_X1_meetingClash : (t_X1_meetingClash.all (rx_eok "SetHouse$Kinds" prog_3_method_10_code 5 false false) && rx_adj t_X1_meetingClash) = true := by decide +kernel
theorem s_X1_meetingClash_6 {F : Nat × Nat} {l : Launch} {G : rx_G} {D : Nat} {hf : rx_H} {z : Int32} (hC : rx_CC l G D (C_X1_meetingClash F) z) : ∀ (f : Nat) (x0 : Int64) (x2 : Int32) (x3 : Int32), f_X1_meetingClash_6 F f x0 x2 x3 = some z → rx_S l G ("SetHouse$Kinds", prog_3_method_10_code, 5, false, false, D) hf hf rx_rI z 6 [some (.long x0), none, some (.int x2), some (.int x3), none] [] none := by
  intro f
  induction f with
  | zero =>
    intro x0 x2 x3 h
    cases h
  | succ f ih =>
    intro x0 x2 x3 h
    rw [g_X1_meetingClash_6] at h
    refine rx_S_node (md := ("SetHouse$Kinds", prog_3_method_10_code, 5, false, false, D)) tk_X1_meetingClash hC rx_m_rI (fun t ls st u h => ?_) h
    unfold kk_X1_meetingClash_6 at h
    rcases rx_rec_eq h with ⟨hb, h⟩ | ⟨hb, h⟩
    · have ht := Nat.eq_of_beq_eq_true hb
      subst ht
      unfold n_X1_meetingClash_6 at h
      split at h
      · exact (ih _ _ _ h).le ⟨Or.inr rfl, Or.inl rfl, Or.inr rfl, Or.inr rfl, Or.inl rfl, trivial⟩
      · cases h
    cases h
theorem s_X1_meetingClash_0 {F : Nat × Nat} {l : Launch} {G : rx_G} {D : Nat} {hf : rx_H} {z : Int32} (hC : rx_CC l G D (C_X1_meetingClash F) z) (x0 : Int64) (x2 : Int32) (h : f_X1_meetingClash_0 F x0 x2 = some z) : rx_S l G ("SetHouse$Kinds", prog_3_method_10_code, 5, false, false, D) hf hf rx_rI z 0 [some (.long x0), none, some (.int x2), none, none] [] none := by
  rw [g_X1_meetingClash_0] at h
  refine rx_S_node (md := ("SetHouse$Kinds", prog_3_method_10_code, 5, false, false, D)) tk_X1_meetingClash hC rx_m_rI (fun t ls st u h => ?_) h
  unfold kk_X1_meetingClash_0 at h
  rcases rx_rec_eq h with ⟨hb, h⟩ | ⟨hb, h⟩
  · have ht := Nat.eq_of_beq_eq_true hb
    subst ht
    unfold n_X1_meetingClash_6 at h
    split at h
    · exact (s_X1_meetingClash_6 hC _ _ _ _ h).le ⟨Or.inr rfl, Or.inl rfl, Or.inr rfl, Or.inr rfl, Or.inl rfl, trivial⟩
    · cases h
  cases h
theorem cc_X1_meetingClash (F : Nat × Nat) (l : Launch) (G : rx_G) {α : Type} (z : α) : rx_CC l G (4 + 0 * F.2) (C_X1_meetingClash F) z := by
  intro j as u κ h
  unfold C_X1_meetingClash at h
  rcases rx_rec_eq h with ⟨hb, h⟩ | ⟨hb, h⟩
  · have ht := Nat.eq_of_beq_eq_true hb
    subst ht
    exact (w_X0_below F l G h).deep (by omega)
  rcases rx_rec_eq h with ⟨hb, h⟩ | ⟨hb, h⟩
  · have ht := Nat.eq_of_beq_eq_true hb
    subst ht
    exact (w_X0_next F l G h).deep (by omega)
  rcases rx_rec_eq h with ⟨hb, h⟩ | ⟨hb, h⟩
  · have ht := Nat.eq_of_beq_eq_true hb
    subst ht
    exact (w_X1_meetClash F l G h).deep (by omega)
  rcases rx_rec_eq h with ⟨hb, h⟩ | ⟨hb, h⟩
  · have ht := Nat.eq_of_beq_eq_true hb
    subst ht
    exact (w_X1_pair F l G h).deep (by omega)
  cases h
theorem m_X1_meetingClash (F : Nat × Nat) (l : Launch) (G : rx_G) (hf : rx_H) (x0 : Int64) (x2 : Int32) {z : Int32} (h : f_X1_meetingClash F x0 x2 = some z) : rx_Ok l G (5 + 0 * F.2) (rx_ny 42) (.code (rx_ny 42) prog_3_method_10_code 5 (some .int)) [.long x0, .int x2] hf (some (.int z)) hf := by
  have h := h
  unfold f_X1_meetingClash at h
  exact (rx_met (l := l) (G := G) (hf := hf) (as := [.long x0, .int x2]) (r := (some (.int z))) (ls0 := [some (.long x0), none, some (.int x2), none, none]) (y := rx_ny 42) (D := (4 + 0 * F.2)) (ini := false) (bo := false) (u := none) (u' := none) (by decide +kernel) (fun h => by cases h) (Nat.le_of_ble_eq_true rfl) (Or.inl ⟨rfl, rfl, _, rfl⟩) (fun Z hZ hB => rx_RT_rI hZ hB) (by exact ⟨Or.inr rfl, Or.inl rfl, Or.inr rfl, Or.inl rfl, Or.inl rfl, trivial⟩) (s_X1_meetingClash_0 (cc_X1_meetingClash F l G z) x0 x2 h)).deep (by omega)
theorem w_X1_meetingClash (F : Nat × Nat) (l : Launch) (G : rx_G) {α : Type} {z : α} {as : List Value} {u : Option rx_H} {κ : rx_K α} (h : c_X1_meetingClash F as u κ = some z) : rx_Cw l G (5 + 0 * F.2) 42 as u κ z := by
  unfold c_X1_meetingClash at h
  split at h
  · obtain ⟨r, hr, h⟩ := Option.bind_eq_some_iff.mp h
    exact ⟨_, _, _, _, h, k_X1_meetingClash, fun _ => rfl, fun h => absurd rfl h, fun hf => m_X1_meetingClash F l G _ _ _ hr⟩
  · cases h
set_option maxRecDepth 100000 in
theorem k_X1_familyClash : rx_Cal (rx_ny 35) (.code (rx_ny 35) prog_3_method_7_code 4 (some .int)) (rx_kd 35) 3 := ⟨prog_3_method_7_code, 4, (some .int), Or.inl rfl, rx_in (i := 292) (by rfl) (by rfl), rx_in (i := 47) (by decide +kernel) (by decide +kernel), ⟨(by decide +kernel), (by decide +kernel), (by decide +kernel)⟩, Nat.le_of_ble_eq_true rfl, fun _ => rx_in (i := 291) (by decide +kernel) (by decide +kernel), fun h => absurd h (by decide), fun h => absurd h (by decide)⟩
set_option maxRecDepth 100000 in
theorem tk_X1_familyClash : (t_X1_familyClash.all (rx_eok "SetHouse$Kinds" prog_3_method_7_code 4 false false) && rx_adj t_X1_familyClash) = true := by decide +kernel
theorem s_X1_familyClash_0 {F : Nat × Nat} {l : Launch} {G : rx_G} {D : Nat} {hf : rx_H} {z : Int32} (hC : rx_CC l G D (C_X1_familyClash F) z) (x0 : Int64) (x2 : Int32) (x3 : Int32) (h : f_X1_familyClash_0 F x0 x2 x3 = some z) : rx_S l G ("SetHouse$Kinds", prog_3_method_7_code, 4, false, false, D) hf hf rx_rI z 0 [some (.long x0), none, some (.int x2), some (.int x3)] [] none := by
  rw [g_X1_familyClash_0] at h
  refine rx_S_node (md := ("SetHouse$Kinds", prog_3_method_7_code, 4, false, false, D)) tk_X1_familyClash hC rx_m_rI (fun t ls st u h => ?_) h
  unfold kk_X1_familyClash_0 at h
  cases h
theorem cc_X1_familyClash (F : Nat × Nat) (l : Launch) (G : rx_G) {α : Type} (z : α) : rx_CC l G (5 + 0 * F.2) (C_X1_familyClash F) z := by
  intro j as u κ h
  unfold C_X1_familyClash at h
  rcases rx_rec_eq h with ⟨hb, h⟩ | ⟨hb, h⟩
  · have ht := Nat.eq_of_beq_eq_true hb
    subst ht
    exact (w_X1_apartClash F l G h).deep (by omega)
  rcases rx_rec_eq h with ⟨hb, h⟩ | ⟨hb, h⟩
  · have ht := Nat.eq_of_beq_eq_true hb
    subst ht
    exact (w_X1_downClash F l G h).deep (by omega)
  rcases rx_rec_eq h with ⟨hb, h⟩ | ⟨hb, h⟩
  · have ht := Nat.eq_of_beq_eq_true hb
    subst ht
    exact (w_X1_layerClash F l G h).deep (by omega)
  rcases rx_rec_eq h with ⟨hb, h⟩ | ⟨hb, h⟩
  · have ht := Nat.eq_of_beq_eq_true hb
    subst ht
    exact (w_X1_meetingClash F l G h).deep (by omega)
  cases h
theorem m_X1_familyClash (F : Nat × Nat) (l : Launch) (G : rx_G) (hf : rx_H) (x0 : Int64) (x2 : Int32) (x3 : Int32) {z : Int32} (h : f_X1_familyClash F x0 x2 x3 = some z) : rx_Ok l G (6 + 0 * F.2) (rx_ny 35) (.code (rx_ny 35) prog_3_method_7_code 4 (some .int)) [.long x0, .int x2, .int x3] hf (some (.int z)) hf := by
  have h := h
  unfold f_X1_familyClash at h
  exact (rx_met (l := l) (G := G) (hf := hf) (as := [.long x0, .int x2, .int x3]) (r := (some (.int z))) (ls0 := [some (.long x0), none, some (.int x2), some (.int x3)]) (y := rx_ny 35) (D := (5 + 0 * F.2)) (ini := false) (bo := false) (u := none) (u' := none) (by decide +kernel) (fun h => by cases h) (Nat.le_of_ble_eq_true rfl) (Or.inl ⟨rfl, rfl, _, rfl⟩) (fun Z hZ hB => rx_RT_rI hZ hB) (by exact ⟨Or.inr rfl, Or.inl rfl, Or.inr rfl, Or.inr rfl, trivial⟩) (s_X1_familyClash_0 (cc_X1_familyClash F l G z) x0 x2 x3 h)).deep (by omega)
theorem w_X1_familyClash (F : Nat × Nat) (l : Launch) (G : rx_G) {α : Type} {z : α} {as : List Value} {u : Option rx_H} {κ : rx_K α} (h : c_X1_familyClash F as u κ = some z) : rx_Cw l G (6 + 0 * F.2) 35 as u κ z := by
  unfold c_X1_familyClash at h
  split at h
  · obtain ⟨r, hr, h⟩ := Option.bind_eq_some_iff.mp h
    exact ⟨_, _, _, _, h, k_X1_familyClash, fun _ => rfl, fun h => absurd rfl h, fun hf => m_X1_familyClash F l G _ _ _ _ hr⟩
  · cases h
set_option maxRecDepth 100000 in
theorem k_X2_factorial : rx_Cal (rx_ny 48) (.code (rx_ny 48) prog_4_method_2_code 1 (some .int)) (rx_kd 48) 1 := ⟨prog_4_method_2_code, 1, (some .int), Or.inl rfl, rx_in (i := 425) (by rfl) (by rfl), rx_in (i := 51) (by decide +kernel) (by decide +kernel), ⟨(by decide +kernel), (by decide +kernel), (by decide +kernel)⟩, Nat.le_of_ble_eq_true rfl, fun _ => rx_in (i := 424) (by decide +kernel) (by decide +kernel), fun h => absurd h (by decide), fun h => absurd h (by decide)⟩
set_option maxRecDepth 100000 in
theorem tk_X2_factorial : (t_X2_factorial.all (rx_eok "SetHouse$Numbers" prog_4_method_2_code 1 false false) && rx_adj t_X2_factorial) = true := by decide +kernel
theorem s_X2_factorial_0 {F : Nat × Nat} {l : Launch} {G : rx_G} {D : Nat} {hf : rx_H} {z : Int32} (hC : rx_CC l G D (C_X2_factorial F) z) (x0 : Int32) (h : f_X2_factorial_0 F x0 = some z) : rx_S l G ("SetHouse$Numbers", prog_4_method_2_code, 1, false, false, D) hf hf rx_rI z 0 [some (.int x0)] [] none := by
  rw [g_X2_factorial_0] at h
  refine rx_S_node (md := ("SetHouse$Numbers", prog_4_method_2_code, 1, false, false, D)) tk_X2_factorial hC rx_m_rI (fun t ls st u h => ?_) h
  unfold kk_X2_factorial_0 at h
  cases h
theorem cc_X2_factorial (F : Nat × Nat) (l : Launch) (G : rx_G) {α : Type} (z : α) : rx_CC l G (0 + 0 * F.2) (C_X2_factorial F) z := by
  intro j as u κ h
  unfold C_X2_factorial at h
  cases h
theorem m_X2_factorial (F : Nat × Nat) (l : Launch) (G : rx_G) (hf : rx_H) (x0 : Int32) {z : Int32} (h : f_X2_factorial F x0 = some z) : rx_Ok l G (1 + 0 * F.2) (rx_ny 48) (.code (rx_ny 48) prog_4_method_2_code 1 (some .int)) [.int x0] hf (some (.int z)) hf := by
  have h := h
  unfold f_X2_factorial at h
  exact (rx_met (l := l) (G := G) (hf := hf) (as := [.int x0]) (r := (some (.int z))) (ls0 := [some (.int x0)]) (y := rx_ny 48) (D := (0 + 0 * F.2)) (ini := false) (bo := false) (u := none) (u' := none) (by decide +kernel) (fun h => by cases h) (Nat.le_of_ble_eq_true rfl) (Or.inl ⟨rfl, rfl, _, rfl⟩) (fun Z hZ hB => rx_RT_rI hZ hB) (by exact ⟨Or.inr rfl, trivial⟩) (s_X2_factorial_0 (cc_X2_factorial F l G z) x0 h)).deep (by omega)
theorem w_X2_factorial (F : Nat × Nat) (l : Launch) (G : rx_G) {α : Type} {z : α} {as : List Value} {u : Option rx_H} {κ : rx_K α} (h : c_X2_factorial F as u κ = some z) : rx_Cw l G (1 + 0 * F.2) 48 as u κ z := by
  unfold c_X2_factorial at h
  split at h
  · obtain ⟨r, hr, h⟩ := Option.bind_eq_some_iff.mp h
    exact ⟨_, _, _, _, h, k_X2_factorial, fun _ => rfl, fun h => absurd rfl h, fun hf => m_X2_factorial F l G _ _ hr⟩
  · cases h
set_option maxRecDepth 100000 in
theorem k_X2_power : rx_Cal (rx_ny 51) (.code (rx_ny 51) prog_4_method_3_code 5 (some .long)) (rx_kd 51) 2 := ⟨prog_4_method_3_code, 5, (some .long), Or.inl rfl, rx_in (i := 479) (by rfl) (by rfl), rx_in (i := 51) (by decide +kernel) (by decide +kernel), ⟨(by decide +kernel), (by decide +kernel), (by decide +kernel)⟩, Nat.le_of_ble_eq_true rfl, fun _ => rx_in (i := 478) (by decide +kernel) (by decide +kernel), fun h => absurd h (by decide), fun h => absurd h (by decide)⟩
set_option maxRecDepth 100000 in
theorem tk_X2_power : (t_X2_power.all (rx_eok "SetHouse$Numbers" prog_4_method_3_code 5 false false) && rx_adj t_X2_power) = true := by decide +kernel
theorem s_X2_power_5 {F : Nat × Nat} {l : Launch} {G : rx_G} {D : Nat} {hf : rx_H} {z : Int64} (hC : rx_CC l G D (C_X2_power F) z) : ∀ (f : Nat) (x0 : Int32) (x1 : Int32) (x2 : Int64) (x4 : Int32), f_X2_power_5 F f x0 x1 x2 x4 = some z → rx_S l G ("SetHouse$Numbers", prog_4_method_3_code, 5, false, false, D) hf hf rx_rJ z 5 [some (.int x0), some (.int x1), some (.long x2), none, some (.int x4)] [] none := by
  intro f
  induction f with
  | zero =>
    intro x0 x1 x2 x4 h
    cases h
  | succ f ih =>
    intro x0 x1 x2 x4 h
    rw [g_X2_power_5] at h
    refine rx_S_node (md := ("SetHouse$Numbers", prog_4_method_3_code, 5, false, false, D)) tk_X2_power hC rx_m_rJ (fun t ls st u h => ?_) h
    unfold kk_X2_power_5 at h
    rcases rx_rec_eq h with ⟨hb, h⟩ | ⟨hb, h⟩
    · have ht := Nat.eq_of_beq_eq_true hb
      subst ht
      unfold n_X2_power_5 at h
      split at h
      · exact (ih _ _ _ _ h).le ⟨Or.inr rfl, Or.inr rfl, Or.inr rfl, Or.inl rfl, Or.inr rfl, trivial⟩
      · cases h
    cases h
theorem s_X2_power_0 {F : Nat × Nat} {l : Launch} {G : rx_G} {D : Nat} {hf : rx_H} {z : Int64} (hC : rx_CC l G D (C_X2_power F) z) (x0 : Int32) (x1 : Int32) (h : f_X2_power_0 F x0 x1 = some z) : rx_S l G ("SetHouse$Numbers", prog_4_method_3_code, 5, false, false, D) hf hf rx_rJ z 0 [some (.int x0), some (.int x1), none, none, none] [] none := by
  rw [g_X2_power_0] at h
  refine rx_S_node (md := ("SetHouse$Numbers", prog_4_method_3_code, 5, false, false, D)) tk_X2_power hC rx_m_rJ (fun t ls st u h => ?_) h
  unfold kk_X2_power_0 at h
  rcases rx_rec_eq h with ⟨hb, h⟩ | ⟨hb, h⟩
  · have ht := Nat.eq_of_beq_eq_true hb
    subst ht
    unfold n_X2_power_5 at h
    split at h
    · exact (s_X2_power_5 hC _ _ _ _ _ h).le ⟨Or.inr rfl, Or.inr rfl, Or.inr rfl, Or.inl rfl, Or.inr rfl, trivial⟩
    · cases h
  cases h
theorem cc_X2_power (F : Nat × Nat) (l : Launch) (G : rx_G) {α : Type} (z : α) : rx_CC l G (0 + 0 * F.2) (C_X2_power F) z := by
  intro j as u κ h
  unfold C_X2_power at h
  cases h
theorem m_X2_power (F : Nat × Nat) (l : Launch) (G : rx_G) (hf : rx_H) (x0 : Int32) (x1 : Int32) {z : Int64} (h : f_X2_power F x0 x1 = some z) : rx_Ok l G (1 + 0 * F.2) (rx_ny 51) (.code (rx_ny 51) prog_4_method_3_code 5 (some .long)) [.int x0, .int x1] hf (some (.long z)) hf := by
  have h := h
  unfold f_X2_power at h
  exact (rx_met (l := l) (G := G) (hf := hf) (as := [.int x0, .int x1]) (r := (some (.long z))) (ls0 := [some (.int x0), some (.int x1), none, none, none]) (y := rx_ny 51) (D := (0 + 0 * F.2)) (ini := false) (bo := false) (u := none) (u' := none) (by decide +kernel) (fun h => by cases h) (Nat.le_of_ble_eq_true rfl) (Or.inr (Or.inr (Or.inl ⟨rfl, _, rfl⟩))) (fun Z hZ hB => rx_RT_rJ hZ hB) (by exact ⟨Or.inr rfl, Or.inr rfl, Or.inl rfl, Or.inl rfl, Or.inl rfl, trivial⟩) (s_X2_power_0 (cc_X2_power F l G z) x0 x1 h)).deep (by omega)
theorem w_X2_power (F : Nat × Nat) (l : Launch) (G : rx_G) {α : Type} {z : α} {as : List Value} {u : Option rx_H} {κ : rx_K α} (h : c_X2_power F as u κ = some z) : rx_Cw l G (1 + 0 * F.2) 51 as u κ z := by
  unfold c_X2_power at h
  split at h
  · obtain ⟨r, hr, h⟩ := Option.bind_eq_some_iff.mp h
    exact ⟨_, _, _, _, h, k_X2_power, fun _ => rfl, fun h => absurd rfl h, fun hf => m_X2_power F l G _ _ _ hr⟩
  · cases h
set_option maxRecDepth 100000 in
theorem k_X2_cascades : rx_Cal (rx_ny 46) (.code (rx_ny 46) prog_4_method_4_code 2 (some .boolean)) (rx_kd 46) 2 := ⟨prog_4_method_4_code, 2, (some .boolean), Or.inl rfl, rx_in (i := 442) (by rfl) (by rfl), rx_in (i := 51) (by decide +kernel) (by decide +kernel), ⟨(by decide +kernel), (by decide +kernel), (by decide +kernel)⟩, Nat.le_of_ble_eq_true rfl, fun _ => rx_in (i := 441) (by decide +kernel) (by decide +kernel), fun h => absurd h (by decide), fun h => absurd h (by decide)⟩
set_option maxRecDepth 100000 in
theorem tk_X2_cascades : (t_X2_cascades.all (rx_eok "SetHouse$Numbers" prog_4_method_4_code 2 false true) && rx_adj t_X2_cascades) = true := by decide +kernel
theorem s_X2_cascades_0 {F : Nat × Nat} {l : Launch} {G : rx_G} {D : Nat} {hf : rx_H} {z : Int32} (hC : rx_CC l G D (C_X2_cascades F) z) (x0 : Int32) (x1 : Int32) (h : f_X2_cascades_0 F x0 x1 = some z) : rx_S l G ("SetHouse$Numbers", prog_4_method_4_code, 2, false, true, D) hf hf rx_rI z 0 [some (.int x0), some (.int x1)] [] none := by
  rw [g_X2_cascades_0] at h
  refine rx_S_node (md := ("SetHouse$Numbers", prog_4_method_4_code, 2, false, true, D)) tk_X2_cascades hC rx_m_rI (fun t ls st u h => ?_) h
  unfold kk_X2_cascades_0 at h
  cases h
theorem cc_X2_cascades (F : Nat × Nat) (l : Launch) (G : rx_G) {α : Type} (z : α) : rx_CC l G (0 + 0 * F.2) (C_X2_cascades F) z := by
  intro j as u κ h
  unfold C_X2_cascades at h
  cases h
theorem m_X2_cascades (F : Nat × Nat) (l : Launch) (G : rx_G) (hf : rx_H) (x0 : Int32) (x1 : Int32) {z : Int32} (h : f_X2_cascades F x0 x1 = some z) : rx_Ok l G (1 + 0 * F.2) (rx_ny 46) (.code (rx_ny 46) prog_4_method_4_code 2 (some .boolean)) [.int x0, .int x1] hf (some (.int z)) hf := by
  have h := h
  unfold f_X2_cascades at h
  exact (rx_met (l := l) (G := G) (hf := hf) (as := [.int x0, .int x1]) (r := (some (.int z))) (ls0 := [some (.int x0), some (.int x1)]) (y := rx_ny 46) (D := (0 + 0 * F.2)) (ini := false) (bo := true) (u := none) (u' := none) (by decide +kernel) (fun h => by cases h) (Nat.le_of_ble_eq_true rfl) (Or.inr (Or.inl ⟨rfl, rfl, _, rfl⟩)) (fun Z hZ hB => rx_RT_rI hZ hB) (by exact ⟨Or.inr rfl, Or.inr rfl, trivial⟩) (s_X2_cascades_0 (cc_X2_cascades F l G z) x0 x1 h)).deep (by omega)
theorem w_X2_cascades (F : Nat × Nat) (l : Launch) (G : rx_G) {α : Type} {z : α} {as : List Value} {u : Option rx_H} {κ : rx_K α} (h : c_X2_cascades F as u κ = some z) : rx_Cw l G (1 + 0 * F.2) 46 as u κ z := by
  unfold c_X2_cascades at h
  split at h
  · obtain ⟨r, hr, h⟩ := Option.bind_eq_some_iff.mp h
    exact ⟨_, _, _, _, h, k_X2_cascades, fun _ => rfl, fun h => absurd rfl h, fun hf => m_X2_cascades F l G _ _ _ hr⟩
  · cases h
set_option maxRecDepth 100000 in
theorem k_X2_choose : rx_Cal (rx_ny 47) (.code (rx_ny 47) prog_4_method_5_code 4 (some .int)) (rx_kd 47) 2 := ⟨prog_4_method_5_code, 4, (some .int), Or.inl rfl, rx_in (i := 451) (by rfl) (by rfl), rx_in (i := 51) (by decide +kernel) (by decide +kernel), ⟨(by decide +kernel), (by decide +kernel), (by decide +kernel)⟩, Nat.le_of_ble_eq_true rfl, fun _ => rx_in (i := 450) (by decide +kernel) (by decide +kernel), fun h => absurd h (by decide), fun h => absurd h (by decide)⟩
set_option maxRecDepth 100000 in
theorem tk_X2_choose : (t_X2_choose.all (rx_eok "SetHouse$Numbers" prog_4_method_5_code 4 false false) && rx_adj t_X2_choose) = true := by decide +kernel
theorem s_X2_choose_4 {F : Nat × Nat} {l : Launch} {G : rx_G} {D : Nat} {hf : rx_H} {z : Int32} (hC : rx_CC l G D (C_X2_choose F) z) : ∀ (f : Nat) (x0 : Int32) (x1 : Int32) (x2 : Int32) (x3 : Int32), f_X2_choose_4 F f x0 x1 x2 x3 = some z → rx_S l G ("SetHouse$Numbers", prog_4_method_5_code, 4, false, false, D) hf hf rx_rI z 4 [some (.int x0), some (.int x1), some (.int x2), some (.int x3)] [] none := by
  intro f
  induction f with
  | zero =>
    intro x0 x1 x2 x3 h
    cases h
  | succ f ih =>
    intro x0 x1 x2 x3 h
    rw [g_X2_choose_4] at h
    refine rx_S_node (md := ("SetHouse$Numbers", prog_4_method_5_code, 4, false, false, D)) tk_X2_choose hC rx_m_rI (fun t ls st u h => ?_) h
    unfold kk_X2_choose_4 at h
    rcases rx_rec_eq h with ⟨hb, h⟩ | ⟨hb, h⟩
    · have ht := Nat.eq_of_beq_eq_true hb
      subst ht
      unfold n_X2_choose_4 at h
      split at h
      · exact (ih _ _ _ _ h).le ⟨Or.inr rfl, Or.inr rfl, Or.inr rfl, Or.inr rfl, trivial⟩
      · cases h
    cases h
theorem s_X2_choose_0 {F : Nat × Nat} {l : Launch} {G : rx_G} {D : Nat} {hf : rx_H} {z : Int32} (hC : rx_CC l G D (C_X2_choose F) z) (x0 : Int32) (x1 : Int32) (h : f_X2_choose_0 F x0 x1 = some z) : rx_S l G ("SetHouse$Numbers", prog_4_method_5_code, 4, false, false, D) hf hf rx_rI z 0 [some (.int x0), some (.int x1), none, none] [] none := by
  rw [g_X2_choose_0] at h
  refine rx_S_node (md := ("SetHouse$Numbers", prog_4_method_5_code, 4, false, false, D)) tk_X2_choose hC rx_m_rI (fun t ls st u h => ?_) h
  unfold kk_X2_choose_0 at h
  rcases rx_rec_eq h with ⟨hb, h⟩ | ⟨hb, h⟩
  · have ht := Nat.eq_of_beq_eq_true hb
    subst ht
    unfold n_X2_choose_4 at h
    split at h
    · exact (s_X2_choose_4 hC _ _ _ _ _ h).le ⟨Or.inr rfl, Or.inr rfl, Or.inr rfl, Or.inr rfl, trivial⟩
    · cases h
  cases h
theorem cc_X2_choose (F : Nat × Nat) (l : Launch) (G : rx_G) {α : Type} (z : α) : rx_CC l G (0 + 0 * F.2) (C_X2_choose F) z := by
  intro j as u κ h
  unfold C_X2_choose at h
  cases h
theorem m_X2_choose (F : Nat × Nat) (l : Launch) (G : rx_G) (hf : rx_H) (x0 : Int32) (x1 : Int32) {z : Int32} (h : f_X2_choose F x0 x1 = some z) : rx_Ok l G (1 + 0 * F.2) (rx_ny 47) (.code (rx_ny 47) prog_4_method_5_code 4 (some .int)) [.int x0, .int x1] hf (some (.int z)) hf := by
  have h := h
  unfold f_X2_choose at h
  exact (rx_met (l := l) (G := G) (hf := hf) (as := [.int x0, .int x1]) (r := (some (.int z))) (ls0 := [some (.int x0), some (.int x1), none, none]) (y := rx_ny 47) (D := (0 + 0 * F.2)) (ini := false) (bo := false) (u := none) (u' := none) (by decide +kernel) (fun h => by cases h) (Nat.le_of_ble_eq_true rfl) (Or.inl ⟨rfl, rfl, _, rfl⟩) (fun Z hZ hB => rx_RT_rI hZ hB) (by exact ⟨Or.inr rfl, Or.inr rfl, Or.inl rfl, Or.inl rfl, trivial⟩) (s_X2_choose_0 (cc_X2_choose F l G z) x0 x1 h)).deep (by omega)
theorem w_X2_choose (F : Nat × Nat) (l : Launch) (G : rx_G) {α : Type} {z : α} {as : List Value} {u : Option rx_H} {κ : rx_K α} (h : c_X2_choose F as u κ = some z) : rx_Cw l G (1 + 0 * F.2) 47 as u κ z := by
  unfold c_X2_choose at h
  split at h
  · obtain ⟨r, hr, h⟩ := Option.bind_eq_some_iff.mp h
    exact ⟨_, _, _, _, h, k_X2_choose, fun _ => rfl, fun h => absurd rfl h, fun hf => m_X2_choose F l G _ _ _ hr⟩
  · cases h
set_option maxRecDepth 100000 in
theorem k_X2_cascadeTop : rx_Cal (rx_ny 45) (.code (rx_ny 45) prog_4_method_6_code 4 (some .int)) (rx_kd 45) 2 := ⟨prog_4_method_6_code, 4, (some .int), Or.inl rfl, rx_in (i := 448) (by rfl) (by rfl), rx_in (i := 51) (by decide +kernel) (by decide +kernel), ⟨(by decide +kernel), (by decide +kernel), (by decide +kernel)⟩, Nat.le_of_ble_eq_true rfl, fun _ => rx_in (i := 447) (by decide +kernel) (by decide +kernel), fun h => absurd h (by decide), fun h => absurd h (by decide)⟩
set_option maxRecDepth 100000 in
theorem tk_X2_cascadeTop : (t_X2_cascadeTop.all (rx_eok "SetHouse$Numbers" prog_4_method_6_code 4 false false) && rx_adj t_X2_cascadeTop) = true := by decide +kernel
theorem s_X2_cascadeTop_4 {F : Nat × Nat} {l : Launch} {G : rx_G} {D : Nat} {hf : rx_H} {z : Int32} (hC : rx_CC l G D (C_X2_cascadeTop F) z) : ∀ (f : Nat) (x0 : Int32) (x1 : Int32) (x2 : Int32) (x3 : Int32), f_X2_cascadeTop_4 F f x0 x1 x2 x3 = some z → rx_S l G ("SetHouse$Numbers", prog_4_method_6_code, 4, false, false, D) hf hf rx_rI z 4 [some (.int x0), some (.int x1), some (.int x2), some (.int x3)] [] none := by
  intro f
  induction f with
  | zero =>
    intro x0 x1 x2 x3 h
    cases h
  | succ f ih =>
    intro x0 x1 x2 x3 h
    rw [g_X2_cascadeTop_4] at h
    refine rx_S_node (md := ("SetHouse$Numbers", prog_4_method_6_code, 4, false, false, D)) tk_X2_cascadeTop hC rx_m_rI (fun t ls st u h => ?_) h
    unfold kk_X2_cascadeTop_4 at h
    rcases rx_rec_eq h with ⟨hb, h⟩ | ⟨hb, h⟩
    · have ht := Nat.eq_of_beq_eq_true hb
      subst ht
      unfold n_X2_cascadeTop_4 at h
      split at h
      · exact (ih _ _ _ _ h).le ⟨Or.inr rfl, Or.inr rfl, Or.inr rfl, Or.inr rfl, trivial⟩
      · cases h
    cases h
theorem s_X2_cascadeTop_0 {F : Nat × Nat} {l : Launch} {G : rx_G} {D : Nat} {hf : rx_H} {z : Int32} (hC : rx_CC l G D (C_X2_cascadeTop F) z) (x0 : Int32) (x1 : Int32) (h : f_X2_cascadeTop_0 F x0 x1 = some z) : rx_S l G ("SetHouse$Numbers", prog_4_method_6_code, 4, false, false, D) hf hf rx_rI z 0 [some (.int x0), some (.int x1), none, none] [] none := by
  rw [g_X2_cascadeTop_0] at h
  refine rx_S_node (md := ("SetHouse$Numbers", prog_4_method_6_code, 4, false, false, D)) tk_X2_cascadeTop hC rx_m_rI (fun t ls st u h => ?_) h
  unfold kk_X2_cascadeTop_0 at h
  rcases rx_rec_eq h with ⟨hb, h⟩ | ⟨hb, h⟩
  · have ht := Nat.eq_of_beq_eq_true hb
    subst ht
    unfold n_X2_cascadeTop_4 at h
    split at h
    · exact (s_X2_cascadeTop_4 hC _ _ _ _ _ h).le ⟨Or.inr rfl, Or.inr rfl, Or.inr rfl, Or.inr rfl, trivial⟩
    · cases h
  cases h
theorem cc_X2_cascadeTop (F : Nat × Nat) (l : Launch) (G : rx_G) {α : Type} (z : α) : rx_CC l G (0 + 0 * F.2) (C_X2_cascadeTop F) z := by
  intro j as u κ h
  unfold C_X2_cascadeTop at h
  cases h
theorem m_X2_cascadeTop (F : Nat × Nat) (l : Launch) (G : rx_G) (hf : rx_H) (x0 : Int32) (x1 : Int32) {z : Int32} (h : f_X2_cascadeTop F x0 x1 = some z) : rx_Ok l G (1 + 0 * F.2) (rx_ny 45) (.code (rx_ny 45) prog_4_method_6_code 4 (some .int)) [.int x0, .int x1] hf (some (.int z)) hf := by
  have h := h
  unfold f_X2_cascadeTop at h
  exact (rx_met (l := l) (G := G) (hf := hf) (as := [.int x0, .int x1]) (r := (some (.int z))) (ls0 := [some (.int x0), some (.int x1), none, none]) (y := rx_ny 45) (D := (0 + 0 * F.2)) (ini := false) (bo := false) (u := none) (u' := none) (by decide +kernel) (fun h => by cases h) (Nat.le_of_ble_eq_true rfl) (Or.inl ⟨rfl, rfl, _, rfl⟩) (fun Z hZ hB => rx_RT_rI hZ hB) (by exact ⟨Or.inr rfl, Or.inr rfl, Or.inl rfl, Or.inl rfl, trivial⟩) (s_X2_cascadeTop_0 (cc_X2_cascadeTop F l G z) x0 x1 h)).deep (by omega)
theorem w_X2_cascadeTop (F : Nat × Nat) (l : Launch) (G : rx_G) {α : Type} {z : α} {as : List Value} {u : Option rx_H} {κ : rx_K α} (h : c_X2_cascadeTop F as u κ = some z) : rx_Cw l G (1 + 0 * F.2) 45 as u κ z := by
  unfold c_X2_cascadeTop at h
  split at h
  · obtain ⟨r, hr, h⟩ := Option.bind_eq_some_iff.mp h
    exact ⟨_, _, _, _, h, k_X2_cascadeTop, fun _ => rfl, fun h => absurd rfl h, fun hf => m_X2_cascadeTop F l G _ _ _ hr⟩
  · cases h
set_option maxRecDepth 100000 in
theorem k_X2_cascadeNumber : rx_Cal (rx_ny 44) (.code (rx_ny 44) prog_4_method_7_code 6 (some .int)) (rx_kd 44) 3 := ⟨prog_4_method_7_code, 6, (some .int), Or.inl rfl, rx_in (i := 445) (by rfl) (by rfl), rx_in (i := 51) (by decide +kernel) (by decide +kernel), ⟨(by decide +kernel), (by decide +kernel), (by decide +kernel)⟩, Nat.le_of_ble_eq_true rfl, fun _ => rx_in (i := 444) (by decide +kernel) (by decide +kernel), fun h => absurd h (by decide), fun h => absurd h (by decide)⟩
set_option maxRecDepth 100000 in
theorem tk_X2_cascadeNumber : (t_X2_cascadeNumber.all (rx_eok "SetHouse$Numbers" prog_4_method_7_code 6 false false) && rx_adj t_X2_cascadeNumber) = true := by decide +kernel
theorem s_X2_cascadeNumber_5 {F : Nat × Nat} {l : Launch} {G : rx_G} {D : Nat} {hf : rx_H} {z : Int32} (hC : rx_CC l G D (C_X2_cascadeNumber F) z) : ∀ (f : Nat) (x1 : Int32) (x2 : Int32) (x3 : Int32) (x4 : Int32), f_X2_cascadeNumber_5 F f x1 x2 x3 x4 = some z → rx_S l G ("SetHouse$Numbers", prog_4_method_7_code, 6, false, false, D) hf hf rx_rI z 5 [none, some (.int x1), some (.int x2), some (.int x3), some (.int x4), none] [] none := by
  intro f
  induction f with
  | zero =>
    intro x1 x2 x3 x4 h
    cases h
  | succ f ih =>
    intro x1 x2 x3 x4 h
    rw [g_X2_cascadeNumber_5] at h
    refine rx_S_node (md := ("SetHouse$Numbers", prog_4_method_7_code, 6, false, false, D)) tk_X2_cascadeNumber hC rx_m_rI (fun t ls st u h => ?_) h
    unfold kk_X2_cascadeNumber_5 at h
    rcases rx_rec_eq h with ⟨hb, h⟩ | ⟨hb, h⟩
    · have ht := Nat.eq_of_beq_eq_true hb
      subst ht
      unfold n_X2_cascadeNumber_5 at h
      split at h
      · exact (ih _ _ _ _ h).le ⟨Or.inl rfl, Or.inr rfl, Or.inr rfl, Or.inr rfl, Or.inr rfl, Or.inl rfl, trivial⟩
      · cases h
    cases h
theorem s_X2_cascadeNumber_0 {F : Nat × Nat} {l : Launch} {G : rx_G} {D : Nat} {hf : rx_H} {z : Int32} (hC : rx_CC l G D (C_X2_cascadeNumber F) z) (x0 : Int32) (x1 : Int32) (x2 : Int32) (h : f_X2_cascadeNumber_0 F x0 x1 x2 = some z) : rx_S l G ("SetHouse$Numbers", prog_4_method_7_code, 6, false, false, D) hf hf rx_rI z 0 [some (.int x0), some (.int x1), some (.int x2), none, none, none] [] none := by
  rw [g_X2_cascadeNumber_0] at h
  refine rx_S_node (md := ("SetHouse$Numbers", prog_4_method_7_code, 6, false, false, D)) tk_X2_cascadeNumber hC rx_m_rI (fun t ls st u h => ?_) h
  unfold kk_X2_cascadeNumber_0 at h
  rcases rx_rec_eq h with ⟨hb, h⟩ | ⟨hb, h⟩
  · have ht := Nat.eq_of_beq_eq_true hb
    subst ht
    unfold n_X2_cascadeNumber_5 at h
    split at h
    · exact (s_X2_cascadeNumber_5 hC _ _ _ _ _ h).le ⟨Or.inl rfl, Or.inr rfl, Or.inr rfl, Or.inr rfl, Or.inr rfl, Or.inl rfl, trivial⟩
    · cases h
  cases h
theorem cc_X2_cascadeNumber (F : Nat × Nat) (l : Launch) (G : rx_G) {α : Type} (z : α) : rx_CC l G (1 + 0 * F.2) (C_X2_cascadeNumber F) z := by
  intro j as u κ h
  unfold C_X2_cascadeNumber at h
  rcases rx_rec_eq h with ⟨hb, h⟩ | ⟨hb, h⟩
  · have ht := Nat.eq_of_beq_eq_true hb
    subst ht
    exact (w_X2_cascadeTop F l G h).deep (by omega)
  rcases rx_rec_eq h with ⟨hb, h⟩ | ⟨hb, h⟩
  · have ht := Nat.eq_of_beq_eq_true hb
    subst ht
    exact (w_X2_choose F l G h).deep (by omega)
  cases h
theorem m_X2_cascadeNumber (F : Nat × Nat) (l : Launch) (G : rx_G) (hf : rx_H) (x0 : Int32) (x1 : Int32) (x2 : Int32) {z : Int32} (h : f_X2_cascadeNumber F x0 x1 x2 = some z) : rx_Ok l G (2 + 0 * F.2) (rx_ny 44) (.code (rx_ny 44) prog_4_method_7_code 6 (some .int)) [.int x0, .int x1, .int x2] hf (some (.int z)) hf := by
  have h := h
  unfold f_X2_cascadeNumber at h
  exact (rx_met (l := l) (G := G) (hf := hf) (as := [.int x0, .int x1, .int x2]) (r := (some (.int z))) (ls0 := [some (.int x0), some (.int x1), some (.int x2), none, none, none]) (y := rx_ny 44) (D := (1 + 0 * F.2)) (ini := false) (bo := false) (u := none) (u' := none) (by decide +kernel) (fun h => by cases h) (Nat.le_of_ble_eq_true rfl) (Or.inl ⟨rfl, rfl, _, rfl⟩) (fun Z hZ hB => rx_RT_rI hZ hB) (by exact ⟨Or.inr rfl, Or.inr rfl, Or.inr rfl, Or.inl rfl, Or.inl rfl, Or.inl rfl, trivial⟩) (s_X2_cascadeNumber_0 (cc_X2_cascadeNumber F l G z) x0 x1 x2 h)).deep (by omega)
theorem w_X2_cascadeNumber (F : Nat × Nat) (l : Launch) (G : rx_G) {α : Type} {z : α} {as : List Value} {u : Option rx_H} {κ : rx_K α} (h : c_X2_cascadeNumber F as u κ = some z) : rx_Cw l G (2 + 0 * F.2) 44 as u κ z := by
  unfold c_X2_cascadeNumber at h
  split at h
  · obtain ⟨r, hr, h⟩ := Option.bind_eq_some_iff.mp h
    exact ⟨_, _, _, _, h, k_X2_cascadeNumber, fun _ => rfl, fun h => absurd rfl h, fun hf => m_X2_cascadeNumber F l G _ _ _ _ hr⟩
  · cases h
set_option maxRecDepth 100000 in
theorem k_X2_leastShadow : rx_Cal (rx_ny 49) (.code (rx_ny 49) prog_4_method_8_code 6 (some .int)) (rx_kd 49) 2 := ⟨prog_4_method_8_code, 6, (some .int), Or.inl rfl, rx_in (i := 458) (by rfl) (by rfl), rx_in (i := 51) (by decide +kernel) (by decide +kernel), ⟨(by decide +kernel), (by decide +kernel), (by decide +kernel)⟩, Nat.le_of_ble_eq_true rfl, fun _ => rx_in (i := 457) (by decide +kernel) (by decide +kernel), fun h => absurd h (by decide), fun h => absurd h (by decide)⟩
set_option maxRecDepth 100000 in
theorem tk_X2_leastShadow : (t_X2_leastShadow.all (rx_eok "SetHouse$Numbers" prog_4_method_8_code 6 false false) && rx_adj t_X2_leastShadow) = true := by decide +kernel
theorem s_X2_leastShadow_7 {F : Nat × Nat} {l : Launch} {G : rx_G} {D : Nat} {hf : rx_H} {z : Int32} (hC : rx_CC l G D (C_X2_leastShadow F) z) : ∀ (f : Nat) (x2 : Int32) (x3 : Int32) (x4 : Int32), f_X2_leastShadow_7 F f x2 x3 x4 = some z → rx_S l G ("SetHouse$Numbers", prog_4_method_8_code, 6, false, false, D) hf hf rx_rI z 7 [none, none, some (.int x2), some (.int x3), some (.int x4), none] [] none := by
  intro f
  induction f with
  | zero =>
    intro x2 x3 x4 h
    cases h
  | succ f ih =>
    intro x2 x3 x4 h
    rw [g_X2_leastShadow_7] at h
    refine rx_S_node (md := ("SetHouse$Numbers", prog_4_method_8_code, 6, false, false, D)) tk_X2_leastShadow hC rx_m_rI (fun t ls st u h => ?_) h
    unfold kk_X2_leastShadow_7 at h
    rcases rx_rec_eq h with ⟨hb, h⟩ | ⟨hb, h⟩
    · have ht := Nat.eq_of_beq_eq_true hb
      subst ht
      unfold n_X2_leastShadow_7 at h
      split at h
      · exact (ih _ _ _ h).le ⟨Or.inl rfl, Or.inl rfl, Or.inr rfl, Or.inr rfl, Or.inr rfl, Or.inl rfl, trivial⟩
      · cases h
    cases h
theorem s_X2_leastShadow_0 {F : Nat × Nat} {l : Launch} {G : rx_G} {D : Nat} {hf : rx_H} {z : Int32} (hC : rx_CC l G D (C_X2_leastShadow F) z) (x0 : Int32) (x1 : Int32) (h : f_X2_leastShadow_0 F x0 x1 = some z) : rx_S l G ("SetHouse$Numbers", prog_4_method_8_code, 6, false, false, D) hf hf rx_rI z 0 [some (.int x0), some (.int x1), none, none, none, none] [] none := by
  rw [g_X2_leastShadow_0] at h
  refine rx_S_node (md := ("SetHouse$Numbers", prog_4_method_8_code, 6, false, false, D)) tk_X2_leastShadow hC rx_m_rI (fun t ls st u h => ?_) h
  unfold kk_X2_leastShadow_0 at h
  rcases rx_rec_eq h with ⟨hb, h⟩ | ⟨hb, h⟩
  · have ht := Nat.eq_of_beq_eq_true hb
    subst ht
    unfold n_X2_leastShadow_7 at h
    split at h
    · exact (s_X2_leastShadow_7 hC _ _ _ _ h).le ⟨Or.inl rfl, Or.inl rfl, Or.inr rfl, Or.inr rfl, Or.inr rfl, Or.inl rfl, trivial⟩
    · cases h
  cases h
theorem cc_X2_leastShadow (F : Nat × Nat) (l : Launch) (G : rx_G) {α : Type} (z : α) : rx_CC l G (1 + 0 * F.2) (C_X2_leastShadow F) z := by
  intro j as u κ h
  unfold C_X2_leastShadow at h
  rcases rx_rec_eq h with ⟨hb, h⟩ | ⟨hb, h⟩
  · have ht := Nat.eq_of_beq_eq_true hb
    subst ht
    exact (w_X2_cascadeTop F l G h).deep (by omega)
  rcases rx_rec_eq h with ⟨hb, h⟩ | ⟨hb, h⟩
  · have ht := Nat.eq_of_beq_eq_true hb
    subst ht
    exact (w_X2_choose F l G h).deep (by omega)
  cases h
theorem m_X2_leastShadow (F : Nat × Nat) (l : Launch) (G : rx_G) (hf : rx_H) (x0 : Int32) (x1 : Int32) {z : Int32} (h : f_X2_leastShadow F x0 x1 = some z) : rx_Ok l G (2 + 0 * F.2) (rx_ny 49) (.code (rx_ny 49) prog_4_method_8_code 6 (some .int)) [.int x0, .int x1] hf (some (.int z)) hf := by
  have h := h
  unfold f_X2_leastShadow at h
  exact (rx_met (l := l) (G := G) (hf := hf) (as := [.int x0, .int x1]) (r := (some (.int z))) (ls0 := [some (.int x0), some (.int x1), none, none, none, none]) (y := rx_ny 49) (D := (1 + 0 * F.2)) (ini := false) (bo := false) (u := none) (u' := none) (by decide +kernel) (fun h => by cases h) (Nat.le_of_ble_eq_true rfl) (Or.inl ⟨rfl, rfl, _, rfl⟩) (fun Z hZ hB => rx_RT_rI hZ hB) (by exact ⟨Or.inr rfl, Or.inr rfl, Or.inl rfl, Or.inl rfl, Or.inl rfl, Or.inl rfl, trivial⟩) (s_X2_leastShadow_0 (cc_X2_leastShadow F l G z) x0 x1 h)).deep (by omega)
theorem w_X2_leastShadow (F : Nat × Nat) (l : Launch) (G : rx_G) {α : Type} {z : α} {as : List Value} {u : Option rx_H} {κ : rx_K α} (h : c_X2_leastShadow F as u κ = some z) : rx_Cw l G (2 + 0 * F.2) 49 as u κ z := by
  unfold c_X2_leastShadow at h
  split at h
  · obtain ⟨r, hr, h⟩ := Option.bind_eq_some_iff.mp h
    exact ⟨_, _, _, _, h, k_X2_leastShadow, fun _ => rfl, fun h => absurd rfl h, fun hf => m_X2_leastShadow F l G _ _ _ hr⟩
  · cases h
set_option maxRecDepth 100000 in
theorem k_X2_matchedOnes : rx_Cal (rx_ny 50) (.code (rx_ny 50) prog_4_method_9_code 5 (some .int)) (rx_kd 50) 2 := ⟨prog_4_method_9_code, 5, (some .int), Or.inl rfl, rx_in (i := 465) (by rfl) (by rfl), rx_in (i := 51) (by decide +kernel) (by decide +kernel), ⟨(by decide +kernel), (by decide +kernel), (by decide +kernel)⟩, Nat.le_of_ble_eq_true rfl, fun _ => rx_in (i := 464) (by decide +kernel) (by decide +kernel), fun h => absurd h (by decide), fun h => absurd h (by decide)⟩
set_option maxRecDepth 100000 in
theorem tk_X2_matchedOnes : (t_X2_matchedOnes.all (rx_eok "SetHouse$Numbers" prog_4_method_9_code 5 false false) && rx_adj t_X2_matchedOnes) = true := by decide +kernel
theorem s_X2_matchedOnes_7 {F : Nat × Nat} {l : Launch} {G : rx_G} {D : Nat} {hf : rx_H} {z : Int32} (hC : rx_CC l G D (C_X2_matchedOnes F) z) : ∀ (f : Nat) (x0 : Int32) (x1 : Int32) (x2 : Int32) (x3 : Int32) (x4 : Int32), f_X2_matchedOnes_7 F f x0 x1 x2 x3 x4 = some z → rx_S l G ("SetHouse$Numbers", prog_4_method_9_code, 5, false, false, D) hf hf rx_rI z 7 [some (.int x0), some (.int x1), some (.int x2), some (.int x3), some (.int x4)] [] none := by
  intro f
  induction f with
  | zero =>
    intro x0 x1 x2 x3 x4 h
    cases h
  | succ f ih =>
    intro x0 x1 x2 x3 x4 h
    rw [g_X2_matchedOnes_7] at h
    refine rx_S_node (md := ("SetHouse$Numbers", prog_4_method_9_code, 5, false, false, D)) tk_X2_matchedOnes hC rx_m_rI (fun t ls st u h => ?_) h
    unfold kk_X2_matchedOnes_7 at h
    rcases rx_rec_eq h with ⟨hb, h⟩ | ⟨hb, h⟩
    · have ht := Nat.eq_of_beq_eq_true hb
      subst ht
      unfold n_X2_matchedOnes_7 at h
      split at h
      · exact (ih _ _ _ _ _ h).le ⟨Or.inr rfl, Or.inr rfl, Or.inr rfl, Or.inr rfl, Or.inr rfl, trivial⟩
      · cases h
    cases h
theorem s_X2_matchedOnes_0 {F : Nat × Nat} {l : Launch} {G : rx_G} {D : Nat} {hf : rx_H} {z : Int32} (hC : rx_CC l G D (C_X2_matchedOnes F) z) (x0 : Int32) (x1 : Int32) (h : f_X2_matchedOnes_0 F x0 x1 = some z) : rx_S l G ("SetHouse$Numbers", prog_4_method_9_code, 5, false, false, D) hf hf rx_rI z 0 [some (.int x0), some (.int x1), none, none, none] [] none := by
  rw [g_X2_matchedOnes_0] at h
  refine rx_S_node (md := ("SetHouse$Numbers", prog_4_method_9_code, 5, false, false, D)) tk_X2_matchedOnes hC rx_m_rI (fun t ls st u h => ?_) h
  unfold kk_X2_matchedOnes_0 at h
  rcases rx_rec_eq h with ⟨hb, h⟩ | ⟨hb, h⟩
  · have ht := Nat.eq_of_beq_eq_true hb
    subst ht
    unfold n_X2_matchedOnes_7 at h
    split at h
    · exact (s_X2_matchedOnes_7 hC _ _ _ _ _ _ h).le ⟨Or.inr rfl, Or.inr rfl, Or.inr rfl, Or.inr rfl, Or.inr rfl, trivial⟩
    · cases h
  cases h
theorem cc_X2_matchedOnes (F : Nat × Nat) (l : Launch) (G : rx_G) {α : Type} (z : α) : rx_CC l G (0 + 0 * F.2) (C_X2_matchedOnes F) z := by
  intro j as u κ h
  unfold C_X2_matchedOnes at h
  cases h
theorem m_X2_matchedOnes (F : Nat × Nat) (l : Launch) (G : rx_G) (hf : rx_H) (x0 : Int32) (x1 : Int32) {z : Int32} (h : f_X2_matchedOnes F x0 x1 = some z) : rx_Ok l G (1 + 0 * F.2) (rx_ny 50) (.code (rx_ny 50) prog_4_method_9_code 5 (some .int)) [.int x0, .int x1] hf (some (.int z)) hf := by
  have h := h
  unfold f_X2_matchedOnes at h
  exact (rx_met (l := l) (G := G) (hf := hf) (as := [.int x0, .int x1]) (r := (some (.int z))) (ls0 := [some (.int x0), some (.int x1), none, none, none]) (y := rx_ny 50) (D := (0 + 0 * F.2)) (ini := false) (bo := false) (u := none) (u' := none) (by decide +kernel) (fun h => by cases h) (Nat.le_of_ble_eq_true rfl) (Or.inl ⟨rfl, rfl, _, rfl⟩) (fun Z hZ hB => rx_RT_rI hZ hB) (by exact ⟨Or.inr rfl, Or.inr rfl, Or.inl rfl, Or.inl rfl, Or.inl rfl, trivial⟩) (s_X2_matchedOnes_0 (cc_X2_matchedOnes F l G z) x0 x1 h)).deep (by omega)
theorem w_X2_matchedOnes (F : Nat × Nat) (l : Launch) (G : rx_G) {α : Type} {z : α} {as : List Value} {u : Option rx_H} {κ : rx_K α} (h : c_X2_matchedOnes F as u κ = some z) : rx_Cw l G (1 + 0 * F.2) 50 as u κ z := by
  unfold c_X2_matchedOnes at h
  split at h
  · obtain ⟨r, hr, h⟩ := Option.bind_eq_some_iff.mp h
    exact ⟨_, _, _, _, h, k_X2_matchedOnes, fun _ => rfl, fun h => absurd rfl h, fun hf => m_X2_matchedOnes F l G _ _ _ hr⟩
  · cases h
set_option maxRecDepth 100000 in
theorem k_X3_digit : rx_Cal (rx_ny 54) (.code (rx_ny 54) prog_5_method_2_code 2 (some .int)) (rx_kd 54) 2 := ⟨prog_5_method_2_code, 2, (some .int), Or.inl rfl, rx_in (i := 394) (by rfl) (by rfl), rx_in (i := 50) (by decide +kernel) (by decide +kernel), ⟨(by decide +kernel), (by decide +kernel), (by decide +kernel)⟩, Nat.le_of_ble_eq_true rfl, fun _ => rx_in (i := 393) (by decide +kernel) (by decide +kernel), fun h => absurd h (by decide), fun h => absurd h (by decide)⟩
set_option maxRecDepth 100000 in
theorem tk_X3_digit : (t_X3_digit.all (rx_eok "SetHouse$Orders" prog_5_method_2_code 2 false false) && rx_adj t_X3_digit) = true := by decide +kernel
theorem s_X3_digit_0 {F : Nat × Nat} {l : Launch} {G : rx_G} {D : Nat} {hf : rx_H} {z : Int32} (hC : rx_CC l G D (C_X3_digit F) z) (x0 : Int32) (x1 : Int32) (h : f_X3_digit_0 F x0 x1 = some z) : rx_S l G ("SetHouse$Orders", prog_5_method_2_code, 2, false, false, D) hf hf rx_rI z 0 [some (.int x0), some (.int x1)] [] none := by
  rw [g_X3_digit_0] at h
  refine rx_S_node (md := ("SetHouse$Orders", prog_5_method_2_code, 2, false, false, D)) tk_X3_digit hC rx_m_rI (fun t ls st u h => ?_) h
  unfold kk_X3_digit_0 at h
  cases h
theorem cc_X3_digit (F : Nat × Nat) (l : Launch) (G : rx_G) {α : Type} (z : α) : rx_CC l G (0 + 0 * F.2) (C_X3_digit F) z := by
  intro j as u κ h
  unfold C_X3_digit at h
  cases h
theorem m_X3_digit (F : Nat × Nat) (l : Launch) (G : rx_G) (hf : rx_H) (x0 : Int32) (x1 : Int32) {z : Int32} (h : f_X3_digit F x0 x1 = some z) : rx_Ok l G (1 + 0 * F.2) (rx_ny 54) (.code (rx_ny 54) prog_5_method_2_code 2 (some .int)) [.int x0, .int x1] hf (some (.int z)) hf := by
  have h := h
  unfold f_X3_digit at h
  exact (rx_met (l := l) (G := G) (hf := hf) (as := [.int x0, .int x1]) (r := (some (.int z))) (ls0 := [some (.int x0), some (.int x1)]) (y := rx_ny 54) (D := (0 + 0 * F.2)) (ini := false) (bo := false) (u := none) (u' := none) (by decide +kernel) (fun h => by cases h) (Nat.le_of_ble_eq_true rfl) (Or.inl ⟨rfl, rfl, _, rfl⟩) (fun Z hZ hB => rx_RT_rI hZ hB) (by exact ⟨Or.inr rfl, Or.inr rfl, trivial⟩) (s_X3_digit_0 (cc_X3_digit F l G z) x0 x1 h)).deep (by omega)
theorem w_X3_digit (F : Nat × Nat) (l : Launch) (G : rx_G) {α : Type} {z : α} {as : List Value} {u : Option rx_H} {κ : rx_K α} (h : c_X3_digit F as u κ = some z) : rx_Cw l G (1 + 0 * F.2) 54 as u κ z := by
  unfold c_X3_digit at h
  split at h
  · obtain ⟨r, hr, h⟩ := Option.bind_eq_some_iff.mp h
    exact ⟨_, _, _, _, h, k_X3_digit, fun _ => rfl, fun h => absurd rfl h, fun hf => m_X3_digit F l G _ _ _ hr⟩
  · cases h
set_option maxRecDepth 100000 in
theorem k_X3_isOrder : rx_Cal (rx_ny 55) (.code (rx_ny 55) prog_5_method_3_code 4 (some .boolean)) (rx_kd 55) 2 := ⟨prog_5_method_3_code, 4, (some .boolean), Or.inl rfl, rx_in (i := 391) (by rfl) (by rfl), rx_in (i := 50) (by decide +kernel) (by decide +kernel), ⟨(by decide +kernel), (by decide +kernel), (by decide +kernel)⟩, Nat.le_of_ble_eq_true rfl, fun _ => rx_in (i := 390) (by decide +kernel) (by decide +kernel), fun h => absurd h (by decide), fun h => absurd h (by decide)⟩
set_option maxRecDepth 100000 in
theorem tk_X3_isOrder : (t_X3_isOrder.all (rx_eok "SetHouse$Orders" prog_5_method_3_code 4 false true) && rx_adj t_X3_isOrder) = true := by decide +kernel
theorem s_X3_isOrder_18 {F : Nat × Nat} {l : Launch} {G : rx_G} {D : Nat} {hf : rx_H} {z : Int32} (hC : rx_CC l G D (C_X3_isOrder F) z) : ∀ (f : Nat) (x0 : Int32) (x1 : Int32) (x2 : Int32) (x3 : Int32), f_X3_isOrder_18 F f x0 x1 x2 x3 = some z → rx_S l G ("SetHouse$Orders", prog_5_method_3_code, 4, false, true, D) hf hf rx_rI z 18 [some (.int x0), some (.int x1), some (.int x2), some (.int x3)] [] none := by
  intro f
  induction f with
  | zero =>
    intro x0 x1 x2 x3 h
    cases h
  | succ f ih =>
    intro x0 x1 x2 x3 h
    rw [g_X3_isOrder_18] at h
    refine rx_S_node (md := ("SetHouse$Orders", prog_5_method_3_code, 4, false, true, D)) tk_X3_isOrder hC rx_m_rI (fun t ls st u h => ?_) h
    unfold kk_X3_isOrder_18 at h
    rcases rx_rec_eq h with ⟨hb, h⟩ | ⟨hb, h⟩
    · have ht := Nat.eq_of_beq_eq_true hb
      subst ht
      unfold n_X3_isOrder_18 at h
      split at h
      · exact (ih _ _ _ _ h).le ⟨Or.inr rfl, Or.inr rfl, Or.inr rfl, Or.inr rfl, trivial⟩
      · cases h
    cases h
theorem s_X3_isOrder_0 {F : Nat × Nat} {l : Launch} {G : rx_G} {D : Nat} {hf : rx_H} {z : Int32} (hC : rx_CC l G D (C_X3_isOrder F) z) (x0 : Int32) (x1 : Int32) (h : f_X3_isOrder_0 F x0 x1 = some z) : rx_S l G ("SetHouse$Orders", prog_5_method_3_code, 4, false, true, D) hf hf rx_rI z 0 [some (.int x0), some (.int x1), none, none] [] none := by
  rw [g_X3_isOrder_0] at h
  refine rx_S_node (md := ("SetHouse$Orders", prog_5_method_3_code, 4, false, true, D)) tk_X3_isOrder hC rx_m_rI (fun t ls st u h => ?_) h
  unfold kk_X3_isOrder_0 at h
  rcases rx_rec_eq h with ⟨hb, h⟩ | ⟨hb, h⟩
  · have ht := Nat.eq_of_beq_eq_true hb
    subst ht
    unfold n_X3_isOrder_18 at h
    split at h
    · exact (s_X3_isOrder_18 hC _ _ _ _ _ h).le ⟨Or.inr rfl, Or.inr rfl, Or.inr rfl, Or.inr rfl, trivial⟩
    · cases h
  cases h
theorem cc_X3_isOrder (F : Nat × Nat) (l : Launch) (G : rx_G) {α : Type} (z : α) : rx_CC l G (1 + 0 * F.2) (C_X3_isOrder F) z := by
  intro j as u κ h
  unfold C_X3_isOrder at h
  rcases rx_rec_eq h with ⟨hb, h⟩ | ⟨hb, h⟩
  · have ht := Nat.eq_of_beq_eq_true hb
    subst ht
    exact (w_X3_digit F l G h).deep (by omega)
  cases h
theorem m_X3_isOrder (F : Nat × Nat) (l : Launch) (G : rx_G) (hf : rx_H) (x0 : Int32) (x1 : Int32) {z : Int32} (h : f_X3_isOrder F x0 x1 = some z) : rx_Ok l G (2 + 0 * F.2) (rx_ny 55) (.code (rx_ny 55) prog_5_method_3_code 4 (some .boolean)) [.int x0, .int x1] hf (some (.int z)) hf := by
  have h := h
  unfold f_X3_isOrder at h
  exact (rx_met (l := l) (G := G) (hf := hf) (as := [.int x0, .int x1]) (r := (some (.int z))) (ls0 := [some (.int x0), some (.int x1), none, none]) (y := rx_ny 55) (D := (1 + 0 * F.2)) (ini := false) (bo := true) (u := none) (u' := none) (by decide +kernel) (fun h => by cases h) (Nat.le_of_ble_eq_true rfl) (Or.inr (Or.inl ⟨rfl, rfl, _, rfl⟩)) (fun Z hZ hB => rx_RT_rI hZ hB) (by exact ⟨Or.inr rfl, Or.inr rfl, Or.inl rfl, Or.inl rfl, trivial⟩) (s_X3_isOrder_0 (cc_X3_isOrder F l G z) x0 x1 h)).deep (by omega)
theorem w_X3_isOrder (F : Nat × Nat) (l : Launch) (G : rx_G) {α : Type} {z : α} {as : List Value} {u : Option rx_H} {κ : rx_K α} (h : c_X3_isOrder F as u κ = some z) : rx_Cw l G (2 + 0 * F.2) 55 as u κ z := by
  unfold c_X3_isOrder at h
  split at h
  · obtain ⟨r, hr, h⟩ := Option.bind_eq_some_iff.mp h
    exact ⟨_, _, _, _, h, k_X3_isOrder, fun _ => rfl, fun h => absurd rfl h, fun hf => m_X3_isOrder F l G _ _ _ hr⟩
  · cases h
set_option maxRecDepth 100000 in
theorem k_X3_unturned : rx_Cal (rx_ny 60) (.code (rx_ny 60) prog_5_method_4_code 3 (some .int)) (rx_kd 60) 1 := ⟨prog_5_method_4_code, 3, (some .int), Or.inl rfl, rx_in (i := 573) (by rfl) (by rfl), rx_in (i := 50) (by decide +kernel) (by decide +kernel), ⟨(by decide +kernel), (by decide +kernel), (by decide +kernel)⟩, Nat.le_of_ble_eq_true rfl, fun _ => rx_in (i := 572) (by decide +kernel) (by decide +kernel), fun h => absurd h (by decide), fun h => absurd h (by decide)⟩
set_option maxRecDepth 100000 in
theorem tk_X3_unturned : (t_X3_unturned.all (rx_eok "SetHouse$Orders" prog_5_method_4_code 3 false false) && rx_adj t_X3_unturned) = true := by decide +kernel
theorem s_X3_unturned_4 {F : Nat × Nat} {l : Launch} {G : rx_G} {D : Nat} {hf : rx_H} {z : Int32} (hC : rx_CC l G D (C_X3_unturned F) z) : ∀ (f : Nat) (x0 : Int32) (x1 : Int32) (x2 : Int32), f_X3_unturned_4 F f x0 x1 x2 = some z → rx_S l G ("SetHouse$Orders", prog_5_method_4_code, 3, false, false, D) hf hf rx_rI z 4 [some (.int x0), some (.int x1), some (.int x2)] [] none := by
  intro f
  induction f with
  | zero =>
    intro x0 x1 x2 h
    cases h
  | succ f ih =>
    intro x0 x1 x2 h
    rw [g_X3_unturned_4] at h
    refine rx_S_node (md := ("SetHouse$Orders", prog_5_method_4_code, 3, false, false, D)) tk_X3_unturned hC rx_m_rI (fun t ls st u h => ?_) h
    unfold kk_X3_unturned_4 at h
    rcases rx_rec_eq h with ⟨hb, h⟩ | ⟨hb, h⟩
    · have ht := Nat.eq_of_beq_eq_true hb
      subst ht
      unfold n_X3_unturned_4 at h
      split at h
      · exact (ih _ _ _ h).le ⟨Or.inr rfl, Or.inr rfl, Or.inr rfl, trivial⟩
      · cases h
    cases h
theorem s_X3_unturned_0 {F : Nat × Nat} {l : Launch} {G : rx_G} {D : Nat} {hf : rx_H} {z : Int32} (hC : rx_CC l G D (C_X3_unturned F) z) (x0 : Int32) (h : f_X3_unturned_0 F x0 = some z) : rx_S l G ("SetHouse$Orders", prog_5_method_4_code, 3, false, false, D) hf hf rx_rI z 0 [some (.int x0), none, none] [] none := by
  rw [g_X3_unturned_0] at h
  refine rx_S_node (md := ("SetHouse$Orders", prog_5_method_4_code, 3, false, false, D)) tk_X3_unturned hC rx_m_rI (fun t ls st u h => ?_) h
  unfold kk_X3_unturned_0 at h
  rcases rx_rec_eq h with ⟨hb, h⟩ | ⟨hb, h⟩
  · have ht := Nat.eq_of_beq_eq_true hb
    subst ht
    unfold n_X3_unturned_4 at h
    split at h
    · exact (s_X3_unturned_4 hC _ _ _ _ h).le ⟨Or.inr rfl, Or.inr rfl, Or.inr rfl, trivial⟩
    · cases h
  cases h
theorem cc_X3_unturned (F : Nat × Nat) (l : Launch) (G : rx_G) {α : Type} (z : α) : rx_CC l G (0 + 0 * F.2) (C_X3_unturned F) z := by
  intro j as u κ h
  unfold C_X3_unturned at h
  cases h
theorem m_X3_unturned (F : Nat × Nat) (l : Launch) (G : rx_G) (hf : rx_H) (x0 : Int32) {z : Int32} (h : f_X3_unturned F x0 = some z) : rx_Ok l G (1 + 0 * F.2) (rx_ny 60) (.code (rx_ny 60) prog_5_method_4_code 3 (some .int)) [.int x0] hf (some (.int z)) hf := by
  have h := h
  unfold f_X3_unturned at h
  exact (rx_met (l := l) (G := G) (hf := hf) (as := [.int x0]) (r := (some (.int z))) (ls0 := [some (.int x0), none, none]) (y := rx_ny 60) (D := (0 + 0 * F.2)) (ini := false) (bo := false) (u := none) (u' := none) (by decide +kernel) (fun h => by cases h) (Nat.le_of_ble_eq_true rfl) (Or.inl ⟨rfl, rfl, _, rfl⟩) (fun Z hZ hB => rx_RT_rI hZ hB) (by exact ⟨Or.inr rfl, Or.inl rfl, Or.inl rfl, trivial⟩) (s_X3_unturned_0 (cc_X3_unturned F l G z) x0 h)).deep (by omega)
theorem w_X3_unturned (F : Nat × Nat) (l : Launch) (G : rx_G) {α : Type} {z : α} {as : List Value} {u : Option rx_H} {κ : rx_K α} (h : c_X3_unturned F as u κ = some z) : rx_Cw l G (1 + 0 * F.2) 60 as u κ z := by
  unfold c_X3_unturned at h
  split at h
  · obtain ⟨r, hr, h⟩ := Option.bind_eq_some_iff.mp h
    exact ⟨_, _, _, _, h, k_X3_unturned, fun _ => rfl, fun h => absurd rfl h, fun hf => m_X3_unturned F l G _ _ hr⟩
  · cases h
set_option maxRecDepth 100000 in
theorem k_X3_swapDigits : rx_Cal (rx_ny 58) (.code (rx_ny 58) prog_5_method_5_code 4 (some .int)) (rx_kd 58) 3 := ⟨prog_5_method_5_code, 4, (some .int), Or.inl rfl, rx_in (i := 586) (by rfl) (by rfl), rx_in (i := 50) (by decide +kernel) (by decide +kernel), ⟨(by decide +kernel), (by decide +kernel), (by decide +kernel)⟩, Nat.le_of_ble_eq_true rfl, fun _ => rx_in (i := 585) (by decide +kernel) (by decide +kernel), fun h => absurd h (by decide), fun h => absurd h (by decide)⟩
set_option maxRecDepth 100000 in
theorem tk_X3_swapDigits : (t_X3_swapDigits.all (rx_eok "SetHouse$Orders" prog_5_method_5_code 4 false false) && rx_adj t_X3_swapDigits) = true := by decide +kernel
theorem s_X3_swapDigits_0 {F : Nat × Nat} {l : Launch} {G : rx_G} {D : Nat} {hf : rx_H} {z : Int32} (hC : rx_CC l G D (C_X3_swapDigits F) z) (x0 : Int32) (x1 : Int32) (x2 : Int32) (h : f_X3_swapDigits_0 F x0 x1 x2 = some z) : rx_S l G ("SetHouse$Orders", prog_5_method_5_code, 4, false, false, D) hf hf rx_rI z 0 [some (.int x0), some (.int x1), some (.int x2), none] [] none := by
  rw [g_X3_swapDigits_0] at h
  refine rx_S_node (md := ("SetHouse$Orders", prog_5_method_5_code, 4, false, false, D)) tk_X3_swapDigits hC rx_m_rI (fun t ls st u h => ?_) h
  unfold kk_X3_swapDigits_0 at h
  cases h
theorem cc_X3_swapDigits (F : Nat × Nat) (l : Launch) (G : rx_G) {α : Type} (z : α) : rx_CC l G (1 + 0 * F.2) (C_X3_swapDigits F) z := by
  intro j as u κ h
  unfold C_X3_swapDigits at h
  rcases rx_rec_eq h with ⟨hb, h⟩ | ⟨hb, h⟩
  · have ht := Nat.eq_of_beq_eq_true hb
    subst ht
    exact (w_X3_digit F l G h).deep (by omega)
  cases h
theorem m_X3_swapDigits (F : Nat × Nat) (l : Launch) (G : rx_G) (hf : rx_H) (x0 : Int32) (x1 : Int32) (x2 : Int32) {z : Int32} (h : f_X3_swapDigits F x0 x1 x2 = some z) : rx_Ok l G (2 + 0 * F.2) (rx_ny 58) (.code (rx_ny 58) prog_5_method_5_code 4 (some .int)) [.int x0, .int x1, .int x2] hf (some (.int z)) hf := by
  have h := h
  unfold f_X3_swapDigits at h
  exact (rx_met (l := l) (G := G) (hf := hf) (as := [.int x0, .int x1, .int x2]) (r := (some (.int z))) (ls0 := [some (.int x0), some (.int x1), some (.int x2), none]) (y := rx_ny 58) (D := (1 + 0 * F.2)) (ini := false) (bo := false) (u := none) (u' := none) (by decide +kernel) (fun h => by cases h) (Nat.le_of_ble_eq_true rfl) (Or.inl ⟨rfl, rfl, _, rfl⟩) (fun Z hZ hB => rx_RT_rI hZ hB) (by exact ⟨Or.inr rfl, Or.inr rfl, Or.inr rfl, Or.inl rfl, trivial⟩) (s_X3_swapDigits_0 (cc_X3_swapDigits F l G z) x0 x1 x2 h)).deep (by omega)
theorem w_X3_swapDigits (F : Nat × Nat) (l : Launch) (G : rx_G) {α : Type} {z : α} {as : List Value} {u : Option rx_H} {κ : rx_K α} (h : c_X3_swapDigits F as u κ = some z) : rx_Cw l G (2 + 0 * F.2) 58 as u κ z := by
  unfold c_X3_swapDigits at h
  split at h
  · obtain ⟨r, hr, h⟩ := Option.bind_eq_some_iff.mp h
    exact ⟨_, _, _, _, h, k_X3_swapDigits, fun _ => rfl, fun h => absurd rfl h, fun hf => m_X3_swapDigits F l G _ _ _ _ hr⟩
  · cases h
set_option maxRecDepth 100000 in
theorem k_X3_turnedBy : rx_Cal (rx_ny 59) (.code (rx_ny 59) prog_5_method_6_code 9 (some .long)) (rx_kd 59) 3 := ⟨prog_5_method_6_code, 9, (some .long), Or.inl rfl, rx_in (i := 397) (by rfl) (by rfl), rx_in (i := 50) (by decide +kernel) (by decide +kernel), ⟨(by decide +kernel), (by decide +kernel), (by decide +kernel)⟩, Nat.le_of_ble_eq_true rfl, fun _ => rx_in (i := 396) (by decide +kernel) (by decide +kernel), fun h => absurd h (by decide), fun h => absurd h (by decide)⟩
set_option maxRecDepth 100000 in
theorem tk_X3_turnedBy : (t_X3_turnedBy.all (rx_eok "SetHouse$Orders" prog_5_method_6_code 9 false false) && rx_adj t_X3_turnedBy) = true := by decide +kernel
theorem s_X3_turnedBy_23 {F : Nat × Nat} {l : Launch} {G : rx_G} {D : Nat} {hf : rx_H} {z : Int64} (hC : rx_CC l G D (C_X3_turnedBy F) z) {k10 : Int64 → Int32 → Int32 → Int64 → Int32 → Option Int64} (hk10 : ∀ (x0 : Int64) (x2 : Int32) (x3 : Int32) (x4 : Int64) (x6 : Int32), k10 x0 x2 x3 x4 x6 = some z → rx_S l G ("SetHouse$Orders", prog_5_method_6_code, 9, false, false, D) hf hf rx_rJ z 10 [some (.long x0), none, some (.int x2), some (.int x3), some (.long x4), none, some (.int x6), none, none] [] none) : ∀ (f : Nat) (x0 : Int64) (x2 : Int32) (x3 : Int32) (x4 : Int64) (x6 : Int32) (x7 : Int32) (x8 : Int32), f_X3_turnedBy_23 F k10 f x0 x2 x3 x4 x6 x7 x8 = some z → rx_S l G ("SetHouse$Orders", prog_5_method_6_code, 9, false, false, D) hf hf rx_rJ z 23 [some (.long x0), none, some (.int x2), some (.int x3), some (.long x4), none, some (.int x6), some (.int x7), some (.int x8)] [] none := by
  intro f
  induction f with
  | zero =>
    intro x0 x2 x3 x4 x6 x7 x8 h
    cases h
  | succ f ih =>
    intro x0 x2 x3 x4 x6 x7 x8 h
    rw [g_X3_turnedBy_23] at h
    refine rx_S_node (md := ("SetHouse$Orders", prog_5_method_6_code, 9, false, false, D)) tk_X3_turnedBy hC rx_m_rJ (fun t ls st u h => ?_) h
    unfold kk_X3_turnedBy_23 at h
    rcases rx_rec_eq h with ⟨hb, h⟩ | ⟨hb, h⟩
    · have ht := Nat.eq_of_beq_eq_true hb
      subst ht
      unfold n_X3_turnedBy_10 at h
      split at h
      · exact (hk10 _ _ _ _ _ h).le ⟨Or.inr rfl, Or.inl rfl, Or.inr rfl, Or.inr rfl, Or.inr rfl, Or.inl rfl, Or.inr rfl, Or.inl rfl, Or.inl rfl, trivial⟩
      · cases h
    rcases rx_rec_eq h with ⟨hb, h⟩ | ⟨hb, h⟩
    · have ht := Nat.eq_of_beq_eq_true hb
      subst ht
      unfold n_X3_turnedBy_23 at h
      split at h
      · exact (ih _ _ _ _ _ _ _ h).le ⟨Or.inr rfl, Or.inl rfl, Or.inr rfl, Or.inr rfl, Or.inr rfl, Or.inl rfl, Or.inr rfl, Or.inr rfl, Or.inr rfl, trivial⟩
      · cases h
    cases h
theorem s_X3_turnedBy_10 {F : Nat × Nat} {l : Launch} {G : rx_G} {D : Nat} {hf : rx_H} {z : Int64} (hC : rx_CC l G D (C_X3_turnedBy F) z) : ∀ (f : Nat) (x0 : Int64) (x2 : Int32) (x3 : Int32) (x4 : Int64) (x6 : Int32), f_X3_turnedBy_10 F f x0 x2 x3 x4 x6 = some z → rx_S l G ("SetHouse$Orders", prog_5_method_6_code, 9, false, false, D) hf hf rx_rJ z 10 [some (.long x0), none, some (.int x2), some (.int x3), some (.long x4), none, some (.int x6), none, none] [] none := by
  intro f
  induction f with
  | zero =>
    intro x0 x2 x3 x4 x6 h
    cases h
  | succ f ih =>
    intro x0 x2 x3 x4 x6 h
    rw [g_X3_turnedBy_10] at h
    refine rx_S_node (md := ("SetHouse$Orders", prog_5_method_6_code, 9, false, false, D)) tk_X3_turnedBy hC rx_m_rJ (fun t ls st u h => ?_) h
    unfold kk_X3_turnedBy_10 at h
    rcases rx_rec_eq h with ⟨hb, h⟩ | ⟨hb, h⟩
    · have ht := Nat.eq_of_beq_eq_true hb
      subst ht
      unfold n_X3_turnedBy_23 at h
      split at h
      · exact (s_X3_turnedBy_23 hC ih _ _ _ _ _ _ _ _ h).le ⟨Or.inr rfl, Or.inl rfl, Or.inr rfl, Or.inr rfl, Or.inr rfl, Or.inl rfl, Or.inr rfl, Or.inr rfl, Or.inr rfl, trivial⟩
      · cases h
    cases h
theorem s_X3_turnedBy_0 {F : Nat × Nat} {l : Launch} {G : rx_G} {D : Nat} {hf : rx_H} {z : Int64} (hC : rx_CC l G D (C_X3_turnedBy F) z) (x0 : Int64) (x2 : Int32) (x3 : Int32) (h : f_X3_turnedBy_0 F x0 x2 x3 = some z) : rx_S l G ("SetHouse$Orders", prog_5_method_6_code, 9, false, false, D) hf hf rx_rJ z 0 [some (.long x0), none, some (.int x2), some (.int x3), none, none, none, none, none] [] none := by
  rw [g_X3_turnedBy_0] at h
  refine rx_S_node (md := ("SetHouse$Orders", prog_5_method_6_code, 9, false, false, D)) tk_X3_turnedBy hC rx_m_rJ (fun t ls st u h => ?_) h
  unfold kk_X3_turnedBy_0 at h
  rcases rx_rec_eq h with ⟨hb, h⟩ | ⟨hb, h⟩
  · have ht := Nat.eq_of_beq_eq_true hb
    subst ht
    unfold n_X3_turnedBy_10 at h
    split at h
    · exact (s_X3_turnedBy_10 hC _ _ _ _ _ _ h).le ⟨Or.inr rfl, Or.inl rfl, Or.inr rfl, Or.inr rfl, Or.inr rfl, Or.inl rfl, Or.inr rfl, Or.inl rfl, Or.inl rfl, trivial⟩
    · cases h
  cases h
theorem cc_X3_turnedBy (F : Nat × Nat) (l : Launch) (G : rx_G) {α : Type} (z : α) : rx_CC l G (2 + 0 * F.2) (C_X3_turnedBy F) z := by
  intro j as u κ h
  unfold C_X3_turnedBy at h
  rcases rx_rec_eq h with ⟨hb, h⟩ | ⟨hb, h⟩
  · have ht := Nat.eq_of_beq_eq_true hb
    subst ht
    exact (w_X0_next F l G h).deep (by omega)
  rcases rx_rec_eq h with ⟨hb, h⟩ | ⟨hb, h⟩
  · have ht := Nat.eq_of_beq_eq_true hb
    subst ht
    exact (w_X3_digit F l G h).deep (by omega)
  cases h
theorem m_X3_turnedBy (F : Nat × Nat) (l : Launch) (G : rx_G) (hf : rx_H) (x0 : Int64) (x2 : Int32) (x3 : Int32) {z : Int64} (h : f_X3_turnedBy F x0 x2 x3 = some z) : rx_Ok l G (3 + 0 * F.2) (rx_ny 59) (.code (rx_ny 59) prog_5_method_6_code 9 (some .long)) [.long x0, .int x2, .int x3] hf (some (.long z)) hf := by
  have h := h
  unfold f_X3_turnedBy at h
  exact (rx_met (l := l) (G := G) (hf := hf) (as := [.long x0, .int x2, .int x3]) (r := (some (.long z))) (ls0 := [some (.long x0), none, some (.int x2), some (.int x3), none, none, none, none, none]) (y := rx_ny 59) (D := (2 + 0 * F.2)) (ini := false) (bo := false) (u := none) (u' := none) (by decide +kernel) (fun h => by cases h) (Nat.le_of_ble_eq_true rfl) (Or.inr (Or.inr (Or.inl ⟨rfl, _, rfl⟩))) (fun Z hZ hB => rx_RT_rJ hZ hB) (by exact ⟨Or.inr rfl, Or.inl rfl, Or.inr rfl, Or.inr rfl, Or.inl rfl, Or.inl rfl, Or.inl rfl, Or.inl rfl, Or.inl rfl, trivial⟩) (s_X3_turnedBy_0 (cc_X3_turnedBy F l G z) x0 x2 x3 h)).deep (by omega)
theorem w_X3_turnedBy (F : Nat × Nat) (l : Launch) (G : rx_G) {α : Type} {z : α} {as : List Value} {u : Option rx_H} {κ : rx_K α} (h : c_X3_turnedBy F as u κ = some z) : rx_Cw l G (3 + 0 * F.2) 59 as u κ z := by
  unfold c_X3_turnedBy at h
  split at h
  · obtain ⟨r, hr, h⟩ := Option.bind_eq_some_iff.mp h
    exact ⟨_, _, _, _, h, k_X3_turnedBy, fun _ => rfl, fun h => absurd rfl h, fun hf => m_X3_turnedBy F l G _ _ _ _ hr⟩
  · cases h
set_option maxRecDepth 100000 in
theorem k_X3_stretch : rx_Cal (rx_ny 57) (.code (rx_ny 57) prog_5_method_7_code 6 (some .int)) (rx_kd 57) 4 := ⟨prog_5_method_7_code, 6, (some .int), Or.inl rfl, rx_in (i := 472) (by rfl) (by rfl), rx_in (i := 50) (by decide +kernel) (by decide +kernel), ⟨(by decide +kernel), (by decide +kernel), (by decide +kernel)⟩, Nat.le_of_ble_eq_true rfl, fun _ => rx_in (i := 471) (by decide +kernel) (by decide +kernel), fun h => absurd h (by decide), fun h => absurd h (by decide)⟩
set_option maxRecDepth 100000 in
theorem tk_X3_stretch : (t_X3_stretch.all (rx_eok "SetHouse$Orders" prog_5_method_7_code 6 false false) && rx_adj t_X3_stretch) = true := by decide +kernel
theorem s_X3_stretch_33 {F : Nat × Nat} {l : Launch} {G : rx_G} {D : Nat} {hf : rx_H} {z : Int32} (hC : rx_CC l G D (C_X3_stretch F) z) {k6 : Int32 → Int32 → Int32 → Int32 → Int32 → Int32 → Option Int32} (hk6 : ∀ (x0 : Int32) (x1 : Int32) (x2 : Int32) (x3 : Int32) (x4 : Int32) (x5 : Int32), k6 x0 x1 x2 x3 x4 x5 = some z → rx_S l G ("SetHouse$Orders", prog_5_method_7_code, 6, false, false, D) hf hf rx_rI z 6 [some (.int x0), some (.int x1), some (.int x2), some (.int x3), some (.int x4), some (.int x5)] [] none) (x0 : Int32) (x1 : Int32) (x2 : Int32) (x3 : Int32) (x5 : Int32) (s0 : Int32) (s1 : Int32) (s2 : Int32) (s3 : Int32) (h : f_X3_stretch_33 F k6 x0 x1 x2 x3 x5 s0 s1 s2 s3 = some z) : rx_S l G ("SetHouse$Orders", prog_5_method_7_code, 6, false, false, D) hf hf rx_rI z 33 [some (.int x0), some (.int x1), some (.int x2), some (.int x3), none, some (.int x5)] [.int s3, .int s2, .int s1, .int s0] none := by
  rw [g_X3_stretch_33] at h
  refine rx_S_node (md := ("SetHouse$Orders", prog_5_method_7_code, 6, false, false, D)) tk_X3_stretch hC rx_m_rI (fun t ls st u h => ?_) h
  unfold kk_X3_stretch_33 at h
  rcases rx_rec_eq h with ⟨hb, h⟩ | ⟨hb, h⟩
  · have ht := Nat.eq_of_beq_eq_true hb
    subst ht
    unfold n_X3_stretch_6 at h
    split at h
    · exact (hk6 _ _ _ _ _ _ h).le ⟨Or.inr rfl, Or.inr rfl, Or.inr rfl, Or.inr rfl, Or.inr rfl, Or.inr rfl, trivial⟩
    · cases h
  cases h
theorem s_X3_stretch_6 {F : Nat × Nat} {l : Launch} {G : rx_G} {D : Nat} {hf : rx_H} {z : Int32} (hC : rx_CC l G D (C_X3_stretch F) z) : ∀ (f : Nat) (x0 : Int32) (x1 : Int32) (x2 : Int32) (x3 : Int32) (x4 : Int32) (x5 : Int32), f_X3_stretch_6 F f x0 x1 x2 x3 x4 x5 = some z → rx_S l G ("SetHouse$Orders", prog_5_method_7_code, 6, false, false, D) hf hf rx_rI z 6 [some (.int x0), some (.int x1), some (.int x2), some (.int x3), some (.int x4), some (.int x5)] [] none := by
  intro f
  induction f with
  | zero =>
    intro x0 x1 x2 x3 x4 x5 h
    cases h
  | succ f ih =>
    intro x0 x1 x2 x3 x4 x5 h
    rw [g_X3_stretch_6] at h
    refine rx_S_node (md := ("SetHouse$Orders", prog_5_method_7_code, 6, false, false, D)) tk_X3_stretch hC rx_m_rI (fun t ls st u h => ?_) h
    unfold kk_X3_stretch_6 at h
    rcases rx_rec_eq h with ⟨hb, h⟩ | ⟨hb, h⟩
    · have ht := Nat.eq_of_beq_eq_true hb
      subst ht
      unfold n_X3_stretch_33 at h
      split at h
      · exact (s_X3_stretch_33 hC ih _ _ _ _ _ _ _ _ _ h).le ⟨Or.inr rfl, Or.inr rfl, Or.inr rfl, Or.inr rfl, Or.inl rfl, Or.inr rfl, trivial⟩
      · cases h
    cases h
theorem s_X3_stretch_0 {F : Nat × Nat} {l : Launch} {G : rx_G} {D : Nat} {hf : rx_H} {z : Int32} (hC : rx_CC l G D (C_X3_stretch F) z) (x0 : Int32) (x1 : Int32) (x2 : Int32) (x3 : Int32) (h : f_X3_stretch_0 F x0 x1 x2 x3 = some z) : rx_S l G ("SetHouse$Orders", prog_5_method_7_code, 6, false, false, D) hf hf rx_rI z 0 [some (.int x0), some (.int x1), some (.int x2), some (.int x3), none, none] [] none := by
  rw [g_X3_stretch_0] at h
  refine rx_S_node (md := ("SetHouse$Orders", prog_5_method_7_code, 6, false, false, D)) tk_X3_stretch hC rx_m_rI (fun t ls st u h => ?_) h
  unfold kk_X3_stretch_0 at h
  rcases rx_rec_eq h with ⟨hb, h⟩ | ⟨hb, h⟩
  · have ht := Nat.eq_of_beq_eq_true hb
    subst ht
    unfold n_X3_stretch_6 at h
    split at h
    · exact (s_X3_stretch_6 hC _ _ _ _ _ _ _ h).le ⟨Or.inr rfl, Or.inr rfl, Or.inr rfl, Or.inr rfl, Or.inr rfl, Or.inr rfl, trivial⟩
    · cases h
  cases h
theorem cc_X3_stretch (F : Nat × Nat) (l : Launch) (G : rx_G) {α : Type} (z : α) : rx_CC l G (1 + 0 * F.2) (C_X3_stretch F) z := by
  intro j as u κ h
  unfold C_X3_stretch at h
  rcases rx_rec_eq h with ⟨hb, h⟩ | ⟨hb, h⟩
  · have ht := Nat.eq_of_beq_eq_true hb
    subst ht
    exact (w_X3_digit F l G h).deep (by omega)
  cases h
theorem m_X3_stretch (F : Nat × Nat) (l : Launch) (G : rx_G) (hf : rx_H) (x0 : Int32) (x1 : Int32) (x2 : Int32) (x3 : Int32) {z : Int32} (h : f_X3_stretch F x0 x1 x2 x3 = some z) : rx_Ok l G (2 + 0 * F.2) (rx_ny 57) (.code (rx_ny 57) prog_5_method_7_code 6 (some .int)) [.int x0, .int x1, .int x2, .int x3] hf (some (.int z)) hf := by
  have h := h
  unfold f_X3_stretch at h
  exact (rx_met (l := l) (G := G) (hf := hf) (as := [.int x0, .int x1, .int x2, .int x3]) (r := (some (.int z))) (ls0 := [some (.int x0), some (.int x1), some (.int x2), some (.int x3), none, none]) (y := rx_ny 57) (D := (1 + 0 * F.2)) (ini := false) (bo := false) (u := none) (u' := none) (by decide +kernel) (fun h => by cases h) (Nat.le_of_ble_eq_true rfl) (Or.inl ⟨rfl, rfl, _, rfl⟩) (fun Z hZ hB => rx_RT_rI hZ hB) (by exact ⟨Or.inr rfl, Or.inr rfl, Or.inr rfl, Or.inr rfl, Or.inl rfl, Or.inl rfl, trivial⟩) (s_X3_stretch_0 (cc_X3_stretch F l G z) x0 x1 x2 x3 h)).deep (by omega)
theorem w_X3_stretch (F : Nat × Nat) (l : Launch) (G : rx_G) {α : Type} {z : α} {as : List Value} {u : Option rx_H} {κ : rx_K α} (h : c_X3_stretch F as u κ = some z) : rx_Cw l G (2 + 0 * F.2) 57 as u κ z := by
  unfold c_X3_stretch at h
  split at h
  · obtain ⟨r, hr, h⟩ := Option.bind_eq_some_iff.mp h
    exact ⟨_, _, _, _, h, k_X3_stretch, fun _ => rfl, fun h => absurd rfl h, fun hf => m_X3_stretch F l G _ _ _ _ _ hr⟩
  · cases h
set_option maxRecDepth 100000 in
theorem k_X3_agree : rx_Cal (rx_ny 52) (.code (rx_ny 52) prog_5_method_12_code 5 (some .boolean)) (rx_kd 52) 3 := ⟨prog_5_method_12_code, 5, (some .boolean), Or.inl rfl, rx_in (i := 579) (by rfl) (by rfl), rx_in (i := 50) (by decide +kernel) (by decide +kernel), ⟨(by decide +kernel), (by decide +kernel), (by decide +kernel)⟩, Nat.le_of_ble_eq_true rfl, fun _ => rx_in (i := 578) (by decide +kernel) (by decide +kernel), fun h => absurd h (by decide), fun h => absurd h (by decide)⟩
set_option maxRecDepth 100000 in
theorem tk_X3_agree : (t_X3_agree.all (rx_eok "SetHouse$Orders" prog_5_method_12_code 5 false true) && rx_adj t_X3_agree) = true := by decide +kernel
theorem s_X3_agree_0 {F : Nat × Nat} {l : Launch} {G : rx_G} {D : Nat} {hf : rx_H} {z : Int32} (hC : rx_CC l G D (C_X3_agree F) z) (x0 : Int64) (x2 : Int64) (x4 : Int32) (h : f_X3_agree_0 F x0 x2 x4 = some z) : rx_S l G ("SetHouse$Orders", prog_5_method_12_code, 5, false, true, D) hf hf rx_rI z 0 [some (.long x0), none, some (.long x2), none, some (.int x4)] [] none := by
  rw [g_X3_agree_0] at h
  refine rx_S_node (md := ("SetHouse$Orders", prog_5_method_12_code, 5, false, true, D)) tk_X3_agree hC rx_m_rI (fun t ls st u h => ?_) h
  unfold kk_X3_agree_0 at h
  cases h
theorem cc_X3_agree (F : Nat × Nat) (l : Launch) (G : rx_G) {α : Type} (z : α) : rx_CC l G (1 + 0 * F.2) (C_X3_agree F) z := by
  intro j as u κ h
  unfold C_X3_agree at h
  rcases rx_rec_eq h with ⟨hb, h⟩ | ⟨hb, h⟩
  · have ht := Nat.eq_of_beq_eq_true hb
    subst ht
    exact (w_X0_below F l G h).deep (by omega)
  cases h
theorem m_X3_agree (F : Nat × Nat) (l : Launch) (G : rx_G) (hf : rx_H) (x0 : Int64) (x2 : Int64) (x4 : Int32) {z : Int32} (h : f_X3_agree F x0 x2 x4 = some z) : rx_Ok l G (2 + 0 * F.2) (rx_ny 52) (.code (rx_ny 52) prog_5_method_12_code 5 (some .boolean)) [.long x0, .long x2, .int x4] hf (some (.int z)) hf := by
  have h := h
  unfold f_X3_agree at h
  exact (rx_met (l := l) (G := G) (hf := hf) (as := [.long x0, .long x2, .int x4]) (r := (some (.int z))) (ls0 := [some (.long x0), none, some (.long x2), none, some (.int x4)]) (y := rx_ny 52) (D := (1 + 0 * F.2)) (ini := false) (bo := true) (u := none) (u' := none) (by decide +kernel) (fun h => by cases h) (Nat.le_of_ble_eq_true rfl) (Or.inr (Or.inl ⟨rfl, rfl, _, rfl⟩)) (fun Z hZ hB => rx_RT_rI hZ hB) (by exact ⟨Or.inr rfl, Or.inl rfl, Or.inr rfl, Or.inl rfl, Or.inr rfl, trivial⟩) (s_X3_agree_0 (cc_X3_agree F l G z) x0 x2 x4 h)).deep (by omega)
theorem w_X3_agree (F : Nat × Nat) (l : Launch) (G : rx_G) {α : Type} {z : α} {as : List Value} {u : Option rx_H} {κ : rx_K α} (h : c_X3_agree F as u κ = some z) : rx_Cw l G (2 + 0 * F.2) 52 as u κ z := by
  unfold c_X3_agree at h
  split at h
  · obtain ⟨r, hr, h⟩ := Option.bind_eq_some_iff.mp h
    exact ⟨_, _, _, _, h, k_X3_agree, fun _ => rfl, fun h => absurd rfl h, fun hf => m_X3_agree F l G _ _ _ _ hr⟩
  · cases h
set_option maxRecDepth 100000 in
theorem k_X3_leastTurnFrom : rx_Cal (rx_ny 225) (.code (rx_ny 225) prog_5_method_10_code 12 (some .int)) (rx_kd 225) 5 := ⟨prog_5_method_10_code, 12, (some .int), Or.inl rfl, rx_in (i := 576) (by rfl) (by rfl), rx_in (i := 50) (by decide +kernel) (by decide +kernel), ⟨(by decide +kernel), (by decide +kernel), (by decide +kernel)⟩, Nat.le_of_ble_eq_true rfl, fun _ => rx_in (i := 575) (by decide +kernel) (by decide +kernel), fun h => absurd h (by decide), fun h => absurd h (by decide)⟩
set_option maxRecDepth 100000 in
theorem tk_X3_leastTurnFrom : (t_X3_leastTurnFrom.all (rx_eok "SetHouse$Orders" prog_5_method_10_code 12 false false) && rx_adj t_X3_leastTurnFrom) = true := by decide +kernel
theorem s_X3_leastTurnFrom_34 {F : Nat × Nat} {d : Nat} {l : Launch} {G : rx_G} {D : Nat} {hf : rx_H} {z : Int32} (hC : rx_CC l G D (C_X3_leastTurnFrom F d) z) : ∀ (f : Nat) (x0 : Int64) (x5 : Int32) (x6 : Int32) (x7 : Int64) (x9 : Int32) (x10 : Int32), f_X3_leastTurnFrom_34 F (f_X3_leastTurnFrom F d) f x0 x5 x6 x7 x9 x10 = some z → rx_S l G ("SetHouse$Orders", prog_5_method_10_code, 12, false, false, D) hf hf rx_rI z 34 [some (.long x0), none, none, none, none, some (.int x5), some (.int x6), some (.long x7), none, some (.int x9), some (.int x10), none] [] none := by
  intro f
  induction f with
  | zero =>
    intro x0 x5 x6 x7 x9 x10 h
    cases h
  | succ f ih =>
    intro x0 x5 x6 x7 x9 x10 h
    rw [g_X3_leastTurnFrom_34] at h
    refine rx_S_node (md := ("SetHouse$Orders", prog_5_method_10_code, 12, false, false, D)) tk_X3_leastTurnFrom hC rx_m_rI (fun t ls st u h => ?_) h
    unfold kk_X3_leastTurnFrom_34 at h
    rcases rx_rec_eq h with ⟨hb, h⟩ | ⟨hb, h⟩
    · have ht := Nat.eq_of_beq_eq_true hb
      subst ht
      unfold n_X3_leastTurnFrom_34 at h
      split at h
      · exact (ih _ _ _ _ _ _ h).le ⟨Or.inr rfl, Or.inl rfl, Or.inl rfl, Or.inl rfl, Or.inl rfl, Or.inr rfl, Or.inr rfl, Or.inr rfl, Or.inl rfl, Or.inr rfl, Or.inr rfl, Or.inl rfl, trivial⟩
      · cases h
    cases h
theorem s_X3_leastTurnFrom_0 {F : Nat × Nat} {d : Nat} {l : Launch} {G : rx_G} {D : Nat} {hf : rx_H} {z : Int32} (hC : rx_CC l G D (C_X3_leastTurnFrom F d) z) (x0 : Int64) (x2 : Int64) (x4 : Int32) (x5 : Int32) (x6 : Int32) (h : f_X3_leastTurnFrom_0 F (f_X3_leastTurnFrom F d) x0 x2 x4 x5 x6 = some z) : rx_S l G ("SetHouse$Orders", prog_5_method_10_code, 12, false, false, D) hf hf rx_rI z 0 [some (.long x0), none, some (.long x2), none, some (.int x4), some (.int x5), some (.int x6), none, none, none, none, none] [] none := by
  rw [g_X3_leastTurnFrom_0] at h
  refine rx_S_node (md := ("SetHouse$Orders", prog_5_method_10_code, 12, false, false, D)) tk_X3_leastTurnFrom hC rx_m_rI (fun t ls st u h => ?_) h
  unfold kk_X3_leastTurnFrom_0 at h
  rcases rx_rec_eq h with ⟨hb, h⟩ | ⟨hb, h⟩
  · have ht := Nat.eq_of_beq_eq_true hb
    subst ht
    unfold n_X3_leastTurnFrom_34 at h
    split at h
    · exact (s_X3_leastTurnFrom_34 hC _ _ _ _ _ _ _ h).le ⟨Or.inr rfl, Or.inl rfl, Or.inl rfl, Or.inl rfl, Or.inl rfl, Or.inr rfl, Or.inr rfl, Or.inr rfl, Or.inl rfl, Or.inr rfl, Or.inr rfl, Or.inl rfl, trivial⟩
    · cases h
  cases h
theorem cc_X3_leastTurnFrom (F : Nat × Nat) (d : Nat) (l : Launch) (G : rx_G) (hs : ∀ {α : Type} {z : α} {as : List Value} {u : Option rx_H} {κ : rx_K α}, c_X3_leastTurnFrom F d as u κ = some z → rx_Cw l G (2 + d) 225 as u κ z) {α : Type} (z : α) : rx_CC l G (2 + d) (C_X3_leastTurnFrom F d) z := by
  intro j as u κ h
  unfold C_X3_leastTurnFrom at h
  rcases rx_rec_eq h with ⟨hb, h⟩ | ⟨hb, h⟩
  · have ht := Nat.eq_of_beq_eq_true hb
    subst ht
    exact (w_X0_swapped F l G h).deep (by omega)
  rcases rx_rec_eq h with ⟨hb, h⟩ | ⟨hb, h⟩
  · have ht := Nat.eq_of_beq_eq_true hb
    subst ht
    exact (w_X3_agree F l G h).deep (by omega)
  rcases rx_rec_eq h with ⟨hb, h⟩ | ⟨hb, h⟩
  · have ht := Nat.eq_of_beq_eq_true hb
    subst ht
    exact (w_X3_swapDigits F l G h).deep (by omega)
  rcases rx_rec_eq h with ⟨hb, h⟩ | ⟨hb, h⟩
  · have ht := Nat.eq_of_beq_eq_true hb
    subst ht
    exact hs h
  cases h
theorem m_X3_leastTurnFrom (F : Nat × Nat) (l : Launch) (G : rx_G) : ∀ (d : Nat) (hf : rx_H) (x0 : Int64) (x2 : Int64) (x4 : Int32) (x5 : Int32) (x6 : Int32) (z : Int32), f_X3_leastTurnFrom F d x0 x2 x4 x5 x6 = some z → rx_Ok l G (2 + d) (rx_ny 225) (.code (rx_ny 225) prog_5_method_10_code 12 (some .int)) [.long x0, .long x2, .int x4, .int x5, .int x6] hf (some (.int z)) hf := by
  intro d
  induction d with
  | zero =>
    intro hf x0 x2 x4 x5 x6 z h
    cases h
  | succ d ih =>
    intro hf x0 x2 x4 x5 x6 z h
    have hs : ∀ {α : Type} {z : α} {as : List Value} {u : Option rx_H} {κ : rx_K α}, c_X3_leastTurnFrom F d as u κ = some z → rx_Cw l G (2 + d) 225 as u κ z := by
      intro α z as u κ h
      unfold c_X3_leastTurnFrom at h
      split at h
      · obtain ⟨r, hr, h⟩ := Option.bind_eq_some_iff.mp h
        exact ⟨_, _, _, _, h, k_X3_leastTurnFrom, fun _ => rfl, fun h => absurd rfl h, fun hf => ih _ _ _ _ _ _ _ hr⟩
      · cases h
    exact (rx_met (l := l) (G := G) (hf := hf) (as := [.long x0, .long x2, .int x4, .int x5, .int x6]) (r := (some (.int z))) (ls0 := [some (.long x0), none, some (.long x2), none, some (.int x4), some (.int x5), some (.int x6), none, none, none, none, none]) (y := rx_ny 225) (D := (2 + d)) (ini := false) (bo := false) (u := none) (u' := none) (by decide +kernel) (fun h => by cases h) (Nat.le_of_ble_eq_true rfl) (Or.inl ⟨rfl, rfl, _, rfl⟩) (fun Z hZ hB => rx_RT_rI hZ hB) (by exact ⟨Or.inr rfl, Or.inl rfl, Or.inr rfl, Or.inl rfl, Or.inr rfl, Or.inr rfl, Or.inr rfl, Or.inl rfl, Or.inl rfl, Or.inl rfl, Or.inl rfl, Or.inl rfl, trivial⟩) (s_X3_leastTurnFrom_0 (cc_X3_leastTurnFrom F d l G hs z) x0 x2 x4 x5 x6 h)).deep (by omega)
theorem w_X3_leastTurnFrom (F : Nat × Nat) (l : Launch) (G : rx_G) {α : Type} {z : α} {as : List Value} {u : Option rx_H} {κ : rx_K α} (h : c_X3_leastTurnFrom F F.2 as u κ = some z) : rx_Cw l G (2 + 1 * F.2) 225 as u κ z := by
  unfold c_X3_leastTurnFrom at h
  split at h
  · obtain ⟨r, hr, h⟩ := Option.bind_eq_some_iff.mp h
    exact ⟨_, _, _, _, h, k_X3_leastTurnFrom, fun _ => rfl, fun h => absurd rfl h, fun hf => (m_X3_leastTurnFrom F l G F.2 _ _ _ _ _ _ _ hr).deep (by omega)⟩
  · cases h
set_option maxRecDepth 100000 in
theorem k_X3_leastTurn : rx_Cal (rx_ny 56) (.code (rx_ny 56) prog_5_method_8_code 5 (some .int)) (rx_kd 56) 3 := ⟨prog_5_method_8_code, 5, (some .int), Or.inl rfl, rx_in (i := 570) (by rfl) (by rfl), rx_in (i := 50) (by decide +kernel) (by decide +kernel), ⟨(by decide +kernel), (by decide +kernel), (by decide +kernel)⟩, Nat.le_of_ble_eq_true rfl, fun _ => rx_in (i := 569) (by decide +kernel) (by decide +kernel), fun h => absurd h (by decide), fun h => absurd h (by decide)⟩
set_option maxRecDepth 100000 in
theorem tk_X3_leastTurn : (t_X3_leastTurn.all (rx_eok "SetHouse$Orders" prog_5_method_8_code 5 false false) && rx_adj t_X3_leastTurn) = true := by decide +kernel
theorem s_X3_leastTurn_0 {F : Nat × Nat} {l : Launch} {G : rx_G} {D : Nat} {hf : rx_H} {z : Int32} (hC : rx_CC l G D (C_X3_leastTurn F) z) (x0 : Int64) (x2 : Int64) (x4 : Int32) (h : f_X3_leastTurn_0 F x0 x2 x4 = some z) : rx_S l G ("SetHouse$Orders", prog_5_method_8_code, 5, false, false, D) hf hf rx_rI z 0 [some (.long x0), none, some (.long x2), none, some (.int x4)] [] none := by
  rw [g_X3_leastTurn_0] at h
  refine rx_S_node (md := ("SetHouse$Orders", prog_5_method_8_code, 5, false, false, D)) tk_X3_leastTurn hC rx_m_rI (fun t ls st u h => ?_) h
  unfold kk_X3_leastTurn_0 at h
  cases h
theorem cc_X3_leastTurn (F : Nat × Nat) (l : Launch) (G : rx_G) {α : Type} (z : α) : rx_CC l G (2 + 1 * F.2) (C_X3_leastTurn F) z := by
  intro j as u κ h
  unfold C_X3_leastTurn at h
  rcases rx_rec_eq h with ⟨hb, h⟩ | ⟨hb, h⟩
  · have ht := Nat.eq_of_beq_eq_true hb
    subst ht
    exact (w_X3_unturned F l G h).deep (by omega)
  rcases rx_rec_eq h with ⟨hb, h⟩ | ⟨hb, h⟩
  · have ht := Nat.eq_of_beq_eq_true hb
    subst ht
    exact (w_X3_leastTurnFrom F l G h).deep (by omega)
  cases h
theorem m_X3_leastTurn (F : Nat × Nat) (l : Launch) (G : rx_G) (hf : rx_H) (x0 : Int64) (x2 : Int64) (x4 : Int32) {z : Int32} (h : f_X3_leastTurn F x0 x2 x4 = some z) : rx_Ok l G (3 + 1 * F.2) (rx_ny 56) (.code (rx_ny 56) prog_5_method_8_code 5 (some .int)) [.long x0, .long x2, .int x4] hf (some (.int z)) hf := by
  have h := h
  unfold f_X3_leastTurn at h
  exact (rx_met (l := l) (G := G) (hf := hf) (as := [.long x0, .long x2, .int x4]) (r := (some (.int z))) (ls0 := [some (.long x0), none, some (.long x2), none, some (.int x4)]) (y := rx_ny 56) (D := (2 + 1 * F.2)) (ini := false) (bo := false) (u := none) (u' := none) (by decide +kernel) (fun h => by cases h) (Nat.le_of_ble_eq_true rfl) (Or.inl ⟨rfl, rfl, _, rfl⟩) (fun Z hZ hB => rx_RT_rI hZ hB) (by exact ⟨Or.inr rfl, Or.inl rfl, Or.inr rfl, Or.inl rfl, Or.inr rfl, trivial⟩) (s_X3_leastTurn_0 (cc_X3_leastTurn F l G z) x0 x2 x4 h)).deep (by omega)
theorem w_X3_leastTurn (F : Nat × Nat) (l : Launch) (G : rx_G) {α : Type} {z : α} {as : List Value} {u : Option rx_H} {κ : rx_K α} (h : c_X3_leastTurn F as u κ = some z) : rx_Cw l G (3 + 1 * F.2) 56 as u κ z := by
  unfold c_X3_leastTurn at h
  split at h
  · obtain ⟨r, hr, h⟩ := Option.bind_eq_some_iff.mp h
    exact ⟨_, _, _, _, h, k_X3_leastTurn, fun _ => rfl, fun h => absurd rfl h, fun hf => m_X3_leastTurn F l G _ _ _ _ hr⟩
  · cases h
set_option maxRecDepth 100000 in
theorem k_X3_countTurnsFrom : rx_Cal (rx_ny 224) (.code (rx_ny 224) prog_5_method_11_code 10 (some .int)) (rx_kd 224) 4 := ⟨prog_5_method_11_code, 10, (some .int), Or.inl rfl, rx_in (i := 596) (by rfl) (by rfl), rx_in (i := 50) (by decide +kernel) (by decide +kernel), ⟨(by decide +kernel), (by decide +kernel), (by decide +kernel)⟩, Nat.le_of_ble_eq_true rfl, fun _ => rx_in (i := 595) (by decide +kernel) (by decide +kernel), fun h => absurd h (by decide), fun h => absurd h (by decide)⟩
set_option maxRecDepth 100000 in
theorem tk_X3_countTurnsFrom : (t_X3_countTurnsFrom.all (rx_eok "SetHouse$Orders" prog_5_method_11_code 10 false false) && rx_adj t_X3_countTurnsFrom) = true := by decide +kernel
theorem s_X3_countTurnsFrom_31 {F : Nat × Nat} {d : Nat} {l : Launch} {G : rx_G} {D : Nat} {hf : rx_H} {z : Int32} (hC : rx_CC l G D (C_X3_countTurnsFrom F d) z) : ∀ (f : Nat) (x0 : Int64) (x4 : Int32) (x5 : Int32) (x6 : Int64) (x8 : Int32) (x9 : Int32), f_X3_countTurnsFrom_31 F (f_X3_countTurnsFrom F d) f x0 x4 x5 x6 x8 x9 = some z → rx_S l G ("SetHouse$Orders", prog_5_method_11_code, 10, false, false, D) hf hf rx_rI z 31 [some (.long x0), none, none, none, some (.int x4), some (.int x5), some (.long x6), none, some (.int x8), some (.int x9)] [] none := by
  intro f
  induction f with
  | zero =>
    intro x0 x4 x5 x6 x8 x9 h
    cases h
  | succ f ih =>
    intro x0 x4 x5 x6 x8 x9 h
    rw [g_X3_countTurnsFrom_31] at h
    refine rx_S_node (md := ("SetHouse$Orders", prog_5_method_11_code, 10, false, false, D)) tk_X3_countTurnsFrom hC rx_m_rI (fun t ls st u h => ?_) h
    unfold kk_X3_countTurnsFrom_31 at h
    rcases rx_rec_eq h with ⟨hb, h⟩ | ⟨hb, h⟩
    · have ht := Nat.eq_of_beq_eq_true hb
      subst ht
      unfold n_X3_countTurnsFrom_31 at h
      split at h
      · exact (ih _ _ _ _ _ _ h).le ⟨Or.inr rfl, Or.inl rfl, Or.inl rfl, Or.inl rfl, Or.inr rfl, Or.inr rfl, Or.inr rfl, Or.inl rfl, Or.inr rfl, Or.inr rfl, trivial⟩
      · cases h
    cases h
theorem s_X3_countTurnsFrom_0 {F : Nat × Nat} {d : Nat} {l : Launch} {G : rx_G} {D : Nat} {hf : rx_H} {z : Int32} (hC : rx_CC l G D (C_X3_countTurnsFrom F d) z) (x0 : Int64) (x2 : Int64) (x4 : Int32) (x5 : Int32) (h : f_X3_countTurnsFrom_0 F (f_X3_countTurnsFrom F d) x0 x2 x4 x5 = some z) : rx_S l G ("SetHouse$Orders", prog_5_method_11_code, 10, false, false, D) hf hf rx_rI z 0 [some (.long x0), none, some (.long x2), none, some (.int x4), some (.int x5), none, none, none, none] [] none := by
  rw [g_X3_countTurnsFrom_0] at h
  refine rx_S_node (md := ("SetHouse$Orders", prog_5_method_11_code, 10, false, false, D)) tk_X3_countTurnsFrom hC rx_m_rI (fun t ls st u h => ?_) h
  unfold kk_X3_countTurnsFrom_0 at h
  rcases rx_rec_eq h with ⟨hb, h⟩ | ⟨hb, h⟩
  · have ht := Nat.eq_of_beq_eq_true hb
    subst ht
    unfold n_X3_countTurnsFrom_31 at h
    split at h
    · exact (s_X3_countTurnsFrom_31 hC _ _ _ _ _ _ _ h).le ⟨Or.inr rfl, Or.inl rfl, Or.inl rfl, Or.inl rfl, Or.inr rfl, Or.inr rfl, Or.inr rfl, Or.inl rfl, Or.inr rfl, Or.inr rfl, trivial⟩
    · cases h
  cases h
theorem cc_X3_countTurnsFrom (F : Nat × Nat) (d : Nat) (l : Launch) (G : rx_G) (hs : ∀ {α : Type} {z : α} {as : List Value} {u : Option rx_H} {κ : rx_K α}, c_X3_countTurnsFrom F d as u κ = some z → rx_Cw l G (2 + d) 224 as u κ z) {α : Type} (z : α) : rx_CC l G (2 + d) (C_X3_countTurnsFrom F d) z := by
  intro j as u κ h
  unfold C_X3_countTurnsFrom at h
  rcases rx_rec_eq h with ⟨hb, h⟩ | ⟨hb, h⟩
  · have ht := Nat.eq_of_beq_eq_true hb
    subst ht
    exact (w_X0_swapped F l G h).deep (by omega)
  rcases rx_rec_eq h with ⟨hb, h⟩ | ⟨hb, h⟩
  · have ht := Nat.eq_of_beq_eq_true hb
    subst ht
    exact (w_X3_agree F l G h).deep (by omega)
  rcases rx_rec_eq h with ⟨hb, h⟩ | ⟨hb, h⟩
  · have ht := Nat.eq_of_beq_eq_true hb
    subst ht
    exact hs h
  cases h
theorem m_X3_countTurnsFrom (F : Nat × Nat) (l : Launch) (G : rx_G) : ∀ (d : Nat) (hf : rx_H) (x0 : Int64) (x2 : Int64) (x4 : Int32) (x5 : Int32) (z : Int32), f_X3_countTurnsFrom F d x0 x2 x4 x5 = some z → rx_Ok l G (2 + d) (rx_ny 224) (.code (rx_ny 224) prog_5_method_11_code 10 (some .int)) [.long x0, .long x2, .int x4, .int x5] hf (some (.int z)) hf := by
  intro d
  induction d with
  | zero =>
    intro hf x0 x2 x4 x5 z h
    cases h
  | succ d ih =>
    intro hf x0 x2 x4 x5 z h
    have hs : ∀ {α : Type} {z : α} {as : List Value} {u : Option rx_H} {κ : rx_K α}, c_X3_countTurnsFrom F d as u κ = some z → rx_Cw l G (2 + d) 224 as u κ z := by
      intro α z as u κ h
      unfold c_X3_countTurnsFrom at h
      split at h
      · obtain ⟨r, hr, h⟩ := Option.bind_eq_some_iff.mp h
        exact ⟨_, _, _, _, h, k_X3_countTurnsFrom, fun _ => rfl, fun h => absurd rfl h, fun hf => ih _ _ _ _ _ _ hr⟩
      · cases h
    exact (rx_met (l := l) (G := G) (hf := hf) (as := [.long x0, .long x2, .int x4, .int x5]) (r := (some (.int z))) (ls0 := [some (.long x0), none, some (.long x2), none, some (.int x4), some (.int x5), none, none, none, none]) (y := rx_ny 224) (D := (2 + d)) (ini := false) (bo := false) (u := none) (u' := none) (by decide +kernel) (fun h => by cases h) (Nat.le_of_ble_eq_true rfl) (Or.inl ⟨rfl, rfl, _, rfl⟩) (fun Z hZ hB => rx_RT_rI hZ hB) (by exact ⟨Or.inr rfl, Or.inl rfl, Or.inr rfl, Or.inl rfl, Or.inr rfl, Or.inr rfl, Or.inl rfl, Or.inl rfl, Or.inl rfl, Or.inl rfl, trivial⟩) (s_X3_countTurnsFrom_0 (cc_X3_countTurnsFrom F d l G hs z) x0 x2 x4 x5 h)).deep (by omega)
theorem w_X3_countTurnsFrom (F : Nat × Nat) (l : Launch) (G : rx_G) {α : Type} {z : α} {as : List Value} {u : Option rx_H} {κ : rx_K α} (h : c_X3_countTurnsFrom F F.2 as u κ = some z) : rx_Cw l G (2 + 1 * F.2) 224 as u κ z := by
  unfold c_X3_countTurnsFrom at h
  split at h
  · obtain ⟨r, hr, h⟩ := Option.bind_eq_some_iff.mp h
    exact ⟨_, _, _, _, h, k_X3_countTurnsFrom, fun _ => rfl, fun h => absurd rfl h, fun hf => (m_X3_countTurnsFrom F l G F.2 _ _ _ _ _ _ hr).deep (by omega)⟩
  · cases h
set_option maxRecDepth 100000 in
theorem k_X3_countTurns : rx_Cal (rx_ny 53) (.code (rx_ny 53) prog_5_method_9_code 3 (some .int)) (rx_kd 53) 2 := ⟨prog_5_method_9_code, 3, (some .int), Or.inl rfl, rx_in (i := 593) (by rfl) (by rfl), rx_in (i := 50) (by decide +kernel) (by decide +kernel), ⟨(by decide +kernel), (by decide +kernel), (by decide +kernel)⟩, Nat.le_of_ble_eq_true rfl, fun _ => rx_in (i := 592) (by decide +kernel) (by decide +kernel), fun h => absurd h (by decide), fun h => absurd h (by decide)⟩
set_option maxRecDepth 100000 in
theorem tk_X3_countTurns : (t_X3_countTurns.all (rx_eok "SetHouse$Orders" prog_5_method_9_code 3 false false) && rx_adj t_X3_countTurns) = true := by decide +kernel
theorem s_X3_countTurns_0 {F : Nat × Nat} {l : Launch} {G : rx_G} {D : Nat} {hf : rx_H} {z : Int32} (hC : rx_CC l G D (C_X3_countTurns F) z) (x0 : Int64) (x2 : Int32) (h : f_X3_countTurns_0 F x0 x2 = some z) : rx_S l G ("SetHouse$Orders", prog_5_method_9_code, 3, false, false, D) hf hf rx_rI z 0 [some (.long x0), none, some (.int x2)] [] none := by
  rw [g_X3_countTurns_0] at h
  refine rx_S_node (md := ("SetHouse$Orders", prog_5_method_9_code, 3, false, false, D)) tk_X3_countTurns hC rx_m_rI (fun t ls st u h => ?_) h
  unfold kk_X3_countTurns_0 at h
  cases h
theorem cc_X3_countTurns (F : Nat × Nat) (l : Launch) (G : rx_G) {α : Type} (z : α) : rx_CC l G (2 + 1 * F.2) (C_X3_countTurns F) z := by
  intro j as u κ h
  unfold C_X3_countTurns at h
  rcases rx_rec_eq h with ⟨hb, h⟩ | ⟨hb, h⟩
  · have ht := Nat.eq_of_beq_eq_true hb
    subst ht
    exact (w_X3_countTurnsFrom F l G h).deep (by omega)
  cases h
theorem m_X3_countTurns (F : Nat × Nat) (l : Launch) (G : rx_G) (hf : rx_H) (x0 : Int64) (x2 : Int32) {z : Int32} (h : f_X3_countTurns F x0 x2 = some z) : rx_Ok l G (3 + 1 * F.2) (rx_ny 53) (.code (rx_ny 53) prog_5_method_9_code 3 (some .int)) [.long x0, .int x2] hf (some (.int z)) hf := by
  have h := h
  unfold f_X3_countTurns at h
  exact (rx_met (l := l) (G := G) (hf := hf) (as := [.long x0, .int x2]) (r := (some (.int z))) (ls0 := [some (.long x0), none, some (.int x2)]) (y := rx_ny 53) (D := (2 + 1 * F.2)) (ini := false) (bo := false) (u := none) (u' := none) (by decide +kernel) (fun h => by cases h) (Nat.le_of_ble_eq_true rfl) (Or.inl ⟨rfl, rfl, _, rfl⟩) (fun Z hZ hB => rx_RT_rI hZ hB) (by exact ⟨Or.inr rfl, Or.inl rfl, Or.inr rfl, trivial⟩) (s_X3_countTurns_0 (cc_X3_countTurns F l G z) x0 x2 h)).deep (by omega)
theorem w_X3_countTurns (F : Nat × Nat) (l : Launch) (G : rx_G) {α : Type} {z : α} {as : List Value} {u : Option rx_H} {κ : rx_K α} (h : c_X3_countTurns F as u κ = some z) : rx_Cw l G (3 + 1 * F.2) 53 as u κ z := by
  unfold c_X3_countTurns at h
  split at h
  · obtain ⟨r, hr, h⟩ := Option.bind_eq_some_iff.mp h
    exact ⟨_, _, _, _, h, k_X3_countTurns, fun _ => rfl, fun h => absurd rfl h, fun hf => m_X3_countTurns F l G _ _ _ hr⟩
  · cases h
set_option maxRecDepth 100000 in
theorem k_J9_min_7cf53 : rx_Cal (rx_ny 4) (.code (rx_ny 4) prog_15_method_69_code 2 (some .int)) (rx_kd 4) 2 := ⟨prog_15_method_69_code, 2, (some .int), Or.inl rfl, rx_in (i := 516) (by rfl) (by rfl), rx_in (i := 42) (by decide +kernel) (by decide +kernel), ⟨(by decide +kernel), (by decide +kernel), (by decide +kernel)⟩, Nat.le_of_ble_eq_true rfl, fun _ => rx_in (i := 515) (by decide +kernel) (by decide +kernel), fun h => absurd h (by decide), fun h => absurd h (by decide)⟩
set_option maxRecDepth 100000 in
theorem tk_J9_min_7cf53 : (t_J9_min_7cf53.all (rx_eok "java/lang/Math" prog_15_method_69_code 2 false false) && rx_adj t_J9_min_7cf53) = true := by decide +kernel
theorem s_J9_min_7cf53_0 {F : Nat × Nat} {l : Launch} {G : rx_G} {D : Nat} {hf : rx_H} {z : Int32} (hC : rx_CC l G D (C_J9_min_7cf53 F) z) (x0 : Int32) (x1 : Int32) (h : f_J9_min_7cf53_0 F x0 x1 = some z) : rx_S l G ("java/lang/Math", prog_15_method_69_code, 2, false, false, D) hf hf rx_rI z 0 [some (.int x0), some (.int x1)] [] none := by
  rw [g_J9_min_7cf53_0] at h
  refine rx_S_node (md := ("java/lang/Math", prog_15_method_69_code, 2, false, false, D)) tk_J9_min_7cf53 hC rx_m_rI (fun t ls st u h => ?_) h
  unfold kk_J9_min_7cf53_0 at h
  cases h
theorem cc_J9_min_7cf53 (F : Nat × Nat) (l : Launch) (G : rx_G) {α : Type} (z : α) : rx_CC l G (0 + 0 * F.2) (C_J9_min_7cf53 F) z := by
  intro j as u κ h
  unfold C_J9_min_7cf53 at h
  cases h
theorem m_J9_min_7cf53 (F : Nat × Nat) (l : Launch) (G : rx_G) (hf : rx_H) (x0 : Int32) (x1 : Int32) {z : Int32} (h : f_J9_min_7cf53 F x0 x1 = some z) : rx_Ok l G (1 + 0 * F.2) (rx_ny 4) (.code (rx_ny 4) prog_15_method_69_code 2 (some .int)) [.int x0, .int x1] hf (some (.int z)) hf := by
  have h := h
  unfold f_J9_min_7cf53 at h
  exact (rx_met (l := l) (G := G) (hf := hf) (as := [.int x0, .int x1]) (r := (some (.int z))) (ls0 := [some (.int x0), some (.int x1)]) (y := rx_ny 4) (D := (0 + 0 * F.2)) (ini := false) (bo := false) (u := none) (u' := none) (by decide +kernel) (fun h => by cases h) (Nat.le_of_ble_eq_true rfl) (Or.inl ⟨rfl, rfl, _, rfl⟩) (fun Z hZ hB => rx_RT_rI hZ hB) (by exact ⟨Or.inr rfl, Or.inr rfl, trivial⟩) (s_J9_min_7cf53_0 (cc_J9_min_7cf53 F l G z) x0 x1 h)).deep (by omega)
theorem w_J9_min_7cf53 (F : Nat × Nat) (l : Launch) (G : rx_G) {α : Type} {z : α} {as : List Value} {u : Option rx_H} {κ : rx_K α} (h : c_J9_min_7cf53 F as u κ = some z) : rx_Cw l G (1 + 0 * F.2) 4 as u κ z := by
  unfold c_J9_min_7cf53 at h
  split at h
  · obtain ⟨r, hr, h⟩ := Option.bind_eq_some_iff.mp h
    exact ⟨_, _, _, _, h, k_J9_min_7cf53, fun _ => rfl, fun h => absurd rfl h, fun hf => m_J9_min_7cf53 F l G _ _ _ hr⟩
  · cases h
set_option maxRecDepth 100000 in
theorem k_X5_fitting : rx_Cal (rx_ny 68) (.code (rx_ny 68) prog_7_method_4_code 5 (some .long)) (rx_kd 68) 4 := ⟨prog_7_method_4_code, 5, (some .long), Or.inl rfl, rx_in (i := 506) (by rfl) (by rfl), rx_in (i := 45) (by decide +kernel) (by decide +kernel), ⟨(by decide +kernel), (by decide +kernel), (by decide +kernel)⟩, Nat.le_of_ble_eq_true rfl, fun _ => rx_in (i := 505) (by decide +kernel) (by decide +kernel), fun h => absurd h (by decide), fun h => absurd h (by decide)⟩
set_option maxRecDepth 100000 in
theorem tk_X5_fitting : (t_X5_fitting.all (rx_eok "SetHouse$Seeker" prog_7_method_4_code 5 false false) && rx_adj t_X5_fitting) = true := by decide +kernel
theorem s_X5_fitting_0 {F : Nat × Nat} {l : Launch} {G : rx_G} {D : Nat} {hf : rx_H} {z : Int64} (hC : rx_CC l G D (C_X5_fitting F) z) (x0 : Int64) (x2 : Int32) (x3 : Int32) (x4 : Int32) (h : f_X5_fitting_0 F x0 x2 x3 x4 = some z) : rx_S l G ("SetHouse$Seeker", prog_7_method_4_code, 5, false, false, D) hf hf rx_rJ z 0 [some (.long x0), none, some (.int x2), some (.int x3), some (.int x4)] [] none := by
  rw [g_X5_fitting_0] at h
  refine rx_S_node (md := ("SetHouse$Seeker", prog_7_method_4_code, 5, false, false, D)) tk_X5_fitting hC rx_m_rJ (fun t ls st u h => ?_) h
  unfold kk_X5_fitting_0 at h
  cases h
theorem cc_X5_fitting (F : Nat × Nat) (l : Launch) (G : rx_G) {α : Type} (z : α) : rx_CC l G (1 + 0 * F.2) (C_X5_fitting F) z := by
  intro j as u κ h
  unfold C_X5_fitting at h
  rcases rx_rec_eq h with ⟨hb, h⟩ | ⟨hb, h⟩
  · have ht := Nat.eq_of_beq_eq_true hb
    subst ht
    exact (w_X0_below F l G h).deep (by omega)
  rcases rx_rec_eq h with ⟨hb, h⟩ | ⟨hb, h⟩
  · have ht := Nat.eq_of_beq_eq_true hb
    subst ht
    exact (w_X0_within F l G h).deep (by omega)
  cases h
theorem m_X5_fitting (F : Nat × Nat) (l : Launch) (G : rx_G) (hf : rx_H) (x0 : Int64) (x2 : Int32) (x3 : Int32) (x4 : Int32) {z : Int64} (h : f_X5_fitting F x0 x2 x3 x4 = some z) : rx_Ok l G (2 + 0 * F.2) (rx_ny 68) (.code (rx_ny 68) prog_7_method_4_code 5 (some .long)) [.long x0, .int x2, .int x3, .int x4] hf (some (.long z)) hf := by
  have h := h
  unfold f_X5_fitting at h
  exact (rx_met (l := l) (G := G) (hf := hf) (as := [.long x0, .int x2, .int x3, .int x4]) (r := (some (.long z))) (ls0 := [some (.long x0), none, some (.int x2), some (.int x3), some (.int x4)]) (y := rx_ny 68) (D := (1 + 0 * F.2)) (ini := false) (bo := false) (u := none) (u' := none) (by decide +kernel) (fun h => by cases h) (Nat.le_of_ble_eq_true rfl) (Or.inr (Or.inr (Or.inl ⟨rfl, _, rfl⟩))) (fun Z hZ hB => rx_RT_rJ hZ hB) (by exact ⟨Or.inr rfl, Or.inl rfl, Or.inr rfl, Or.inr rfl, Or.inr rfl, trivial⟩) (s_X5_fitting_0 (cc_X5_fitting F l G z) x0 x2 x3 x4 h)).deep (by omega)
theorem w_X5_fitting (F : Nat × Nat) (l : Launch) (G : rx_G) {α : Type} {z : α} {as : List Value} {u : Option rx_H} {κ : rx_K α} (h : c_X5_fitting F as u κ = some z) : rx_Cw l G (2 + 0 * F.2) 68 as u κ z := by
  unfold c_X5_fitting at h
  split at h
  · obtain ⟨r, hr, h⟩ := Option.bind_eq_some_iff.mp h
    exact ⟨_, _, _, _, h, k_X5_fitting, fun _ => rfl, fun h => absurd rfl h, fun hf => m_X5_fitting F l G _ _ _ _ _ hr⟩
  · cases h
set_option maxRecDepth 100000 in
theorem k_J9_max_7cf53 : rx_Cal (rx_ny 3) (.code (rx_ny 3) prog_15_method_65_code 2 (some .int)) (rx_kd 3) 2 := ⟨prog_15_method_65_code, 2, (some .int), Or.inl rfl, rx_in (i := 540) (by rfl) (by rfl), rx_in (i := 42) (by decide +kernel) (by decide +kernel), ⟨(by decide +kernel), (by decide +kernel), (by decide +kernel)⟩, Nat.le_of_ble_eq_true rfl, fun _ => rx_in (i := 539) (by decide +kernel) (by decide +kernel), fun h => absurd h (by decide), fun h => absurd h (by decide)⟩
set_option maxRecDepth 100000 in
theorem tk_J9_max_7cf53 : (t_J9_max_7cf53.all (rx_eok "java/lang/Math" prog_15_method_65_code 2 false false) && rx_adj t_J9_max_7cf53) = true := by decide +kernel
theorem s_J9_max_7cf53_0 {F : Nat × Nat} {l : Launch} {G : rx_G} {D : Nat} {hf : rx_H} {z : Int32} (hC : rx_CC l G D (C_J9_max_7cf53 F) z) (x0 : Int32) (x1 : Int32) (h : f_J9_max_7cf53_0 F x0 x1 = some z) : rx_S l G ("java/lang/Math", prog_15_method_65_code, 2, false, false, D) hf hf rx_rI z 0 [some (.int x0), some (.int x1)] [] none := by
  rw [g_J9_max_7cf53_0] at h
  refine rx_S_node (md := ("java/lang/Math", prog_15_method_65_code, 2, false, false, D)) tk_J9_max_7cf53 hC rx_m_rI (fun t ls st u h => ?_) h
  unfold kk_J9_max_7cf53_0 at h
  cases h
theorem cc_J9_max_7cf53 (F : Nat × Nat) (l : Launch) (G : rx_G) {α : Type} (z : α) : rx_CC l G (0 + 0 * F.2) (C_J9_max_7cf53 F) z := by
  intro j as u κ h
  unfold C_J9_max_7cf53 at h
  cases h
theorem m_J9_max_7cf53 (F : Nat × Nat) (l : Launch) (G : rx_G) (hf : rx_H) (x0 : Int32) (x1 : Int32) {z : Int32} (h : f_J9_max_7cf53 F x0 x1 = some z) : rx_Ok l G (1 + 0 * F.2) (rx_ny 3) (.code (rx_ny 3) prog_15_method_65_code 2 (some .int)) [.int x0, .int x1] hf (some (.int z)) hf := by
  have h := h
  unfold f_J9_max_7cf53 at h
  exact (rx_met (l := l) (G := G) (hf := hf) (as := [.int x0, .int x1]) (r := (some (.int z))) (ls0 := [some (.int x0), some (.int x1)]) (y := rx_ny 3) (D := (0 + 0 * F.2)) (ini := false) (bo := false) (u := none) (u' := none) (by decide +kernel) (fun h => by cases h) (Nat.le_of_ble_eq_true rfl) (Or.inl ⟨rfl, rfl, _, rfl⟩) (fun Z hZ hB => rx_RT_rI hZ hB) (by exact ⟨Or.inr rfl, Or.inr rfl, trivial⟩) (s_J9_max_7cf53_0 (cc_J9_max_7cf53 F l G z) x0 x1 h)).deep (by omega)
theorem w_J9_max_7cf53 (F : Nat × Nat) (l : Launch) (G : rx_G) {α : Type} {z : α} {as : List Value} {u : Option rx_H} {κ : rx_K α} (h : c_J9_max_7cf53 F as u κ = some z) : rx_Cw l G (1 + 0 * F.2) 3 as u κ z := by
  unfold c_J9_max_7cf53 at h
  split at h
  · obtain ⟨r, hr, h⟩ := Option.bind_eq_some_iff.mp h
    exact ⟨_, _, _, _, h, k_J9_max_7cf53, fun _ => rfl, fun h => absurd rfl h, fun hf => m_J9_max_7cf53 F l G _ _ _ hr⟩
  · cases h
set_option maxRecDepth 100000 in
theorem k_X5_near : rx_Cal (rx_ny 74) (.code (rx_ny 74) prog_7_method_10_code 7 (some .long)) (rx_kd 74) 3 := ⟨prog_7_method_10_code, 7, (some .long), Or.inl rfl, rx_in (i := 563) (by rfl) (by rfl), rx_in (i := 45) (by decide +kernel) (by decide +kernel), ⟨(by decide +kernel), (by decide +kernel), (by decide +kernel)⟩, Nat.le_of_ble_eq_true rfl, fun _ => rx_in (i := 562) (by decide +kernel) (by decide +kernel), fun h => absurd h (by decide), fun h => absurd h (by decide)⟩
set_option maxRecDepth 100000 in
theorem tk_X5_near : (t_X5_near.all (rx_eok "SetHouse$Seeker" prog_7_method_10_code 7 false false) && rx_adj t_X5_near) = true := by decide +kernel
theorem s_X5_near_41 {F : Nat × Nat} {l : Launch} {G : rx_G} {D : Nat} {hf : rx_H} {z : Int64} (hC : rx_CC l G D (C_X5_near F) z) {k10 : Int64 → Int32 → Int32 → Int64 → Int32 → Option Int64} (hk10 : ∀ (x0 : Int64) (x2 : Int32) (x3 : Int32) (x4 : Int64) (x6 : Int32), k10 x0 x2 x3 x4 x6 = some z → rx_S l G ("SetHouse$Seeker", prog_7_method_10_code, 7, false, false, D) hf hf rx_rJ z 10 [some (.long x0), none, some (.int x2), some (.int x3), some (.long x4), none, some (.int x6)] [] none) (x0 : Int64) (x2 : Int32) (x3 : Int32) (x4 : Int64) (x6 : Int32) (h : f_X5_near_41 F k10 x0 x2 x3 x4 x6 = some z) : rx_S l G ("SetHouse$Seeker", prog_7_method_10_code, 7, false, false, D) hf hf rx_rJ z 41 [some (.long x0), none, some (.int x2), some (.int x3), some (.long x4), none, some (.int x6)] [] none := by
  rw [g_X5_near_41] at h
  refine rx_S_node (md := ("SetHouse$Seeker", prog_7_method_10_code, 7, false, false, D)) tk_X5_near hC rx_m_rJ (fun t ls st u h => ?_) h
  unfold kk_X5_near_41 at h
  rcases rx_rec_eq h with ⟨hb, h⟩ | ⟨hb, h⟩
  · have ht := Nat.eq_of_beq_eq_true hb
    subst ht
    unfold n_X5_near_10 at h
    split at h
    · exact (hk10 _ _ _ _ _ h).le ⟨Or.inr rfl, Or.inl rfl, Or.inr rfl, Or.inr rfl, Or.inr rfl, Or.inl rfl, Or.inr rfl, trivial⟩
    · cases h
  cases h
theorem s_X5_near_10 {F : Nat × Nat} {l : Launch} {G : rx_G} {D : Nat} {hf : rx_H} {z : Int64} (hC : rx_CC l G D (C_X5_near F) z) : ∀ (f : Nat) (x0 : Int64) (x2 : Int32) (x3 : Int32) (x4 : Int64) (x6 : Int32), f_X5_near_10 F f x0 x2 x3 x4 x6 = some z → rx_S l G ("SetHouse$Seeker", prog_7_method_10_code, 7, false, false, D) hf hf rx_rJ z 10 [some (.long x0), none, some (.int x2), some (.int x3), some (.long x4), none, some (.int x6)] [] none := by
  intro f
  induction f with
  | zero =>
    intro x0 x2 x3 x4 x6 h
    cases h
  | succ f ih =>
    intro x0 x2 x3 x4 x6 h
    rw [g_X5_near_10] at h
    refine rx_S_node (md := ("SetHouse$Seeker", prog_7_method_10_code, 7, false, false, D)) tk_X5_near hC rx_m_rJ (fun t ls st u h => ?_) h
    unfold kk_X5_near_10 at h
    rcases rx_rec_eq h with ⟨hb, h⟩ | ⟨hb, h⟩
    · have ht := Nat.eq_of_beq_eq_true hb
      subst ht
      unfold n_X5_near_41 at h
      split at h
      · exact (s_X5_near_41 hC ih _ _ _ _ _ h).le ⟨Or.inr rfl, Or.inl rfl, Or.inr rfl, Or.inr rfl, Or.inr rfl, Or.inl rfl, Or.inr rfl, trivial⟩
      · cases h
    cases h
theorem s_X5_near_0 {F : Nat × Nat} {l : Launch} {G : rx_G} {D : Nat} {hf : rx_H} {z : Int64} (hC : rx_CC l G D (C_X5_near F) z) (x0 : Int64) (x2 : Int32) (x3 : Int32) (h : f_X5_near_0 F x0 x2 x3 = some z) : rx_S l G ("SetHouse$Seeker", prog_7_method_10_code, 7, false, false, D) hf hf rx_rJ z 0 [some (.long x0), none, some (.int x2), some (.int x3), none, none, none] [] none := by
  rw [g_X5_near_0] at h
  refine rx_S_node (md := ("SetHouse$Seeker", prog_7_method_10_code, 7, false, false, D)) tk_X5_near hC rx_m_rJ (fun t ls st u h => ?_) h
  unfold kk_X5_near_0 at h
  rcases rx_rec_eq h with ⟨hb, h⟩ | ⟨hb, h⟩
  · have ht := Nat.eq_of_beq_eq_true hb
    subst ht
    unfold n_X5_near_10 at h
    split at h
    · exact (s_X5_near_10 hC _ _ _ _ _ _ h).le ⟨Or.inr rfl, Or.inl rfl, Or.inr rfl, Or.inr rfl, Or.inr rfl, Or.inl rfl, Or.inr rfl, trivial⟩
    · cases h
  cases h
theorem cc_X5_near (F : Nat × Nat) (l : Launch) (G : rx_G) {α : Type} (z : α) : rx_CC l G (2 + 0 * F.2) (C_X5_near F) z := by
  intro j as u κ h
  unfold C_X5_near at h
  rcases rx_rec_eq h with ⟨hb, h⟩ | ⟨hb, h⟩
  · have ht := Nat.eq_of_beq_eq_true hb
    subst ht
    exact (w_J6_bitCount_0f7a4 F l G h).deep (by omega)
  rcases rx_rec_eq h with ⟨hb, h⟩ | ⟨hb, h⟩
  · have ht := Nat.eq_of_beq_eq_true hb
    subst ht
    exact (w_X0_next F l G h).deep (by omega)
  cases h
theorem m_X5_near (F : Nat × Nat) (l : Launch) (G : rx_G) (hf : rx_H) (x0 : Int64) (x2 : Int32) (x3 : Int32) {z : Int64} (h : f_X5_near F x0 x2 x3 = some z) : rx_Ok l G (3 + 0 * F.2) (rx_ny 74) (.code (rx_ny 74) prog_7_method_10_code 7 (some .long)) [.long x0, .int x2, .int x3] hf (some (.long z)) hf := by
  have h := h
  unfold f_X5_near at h
  exact (rx_met (l := l) (G := G) (hf := hf) (as := [.long x0, .int x2, .int x3]) (r := (some (.long z))) (ls0 := [some (.long x0), none, some (.int x2), some (.int x3), none, none, none]) (y := rx_ny 74) (D := (2 + 0 * F.2)) (ini := false) (bo := false) (u := none) (u' := none) (by decide +kernel) (fun h => by cases h) (Nat.le_of_ble_eq_true rfl) (Or.inr (Or.inr (Or.inl ⟨rfl, _, rfl⟩))) (fun Z hZ hB => rx_RT_rJ hZ hB) (by exact ⟨Or.inr rfl, Or.inl rfl, Or.inr rfl, Or.inr rfl, Or.inl rfl, Or.inl rfl, Or.inl rfl, trivial⟩) (s_X5_near_0 (cc_X5_near F l G z) x0 x2 x3 h)).deep (by omega)
theorem w_X5_near (F : Nat × Nat) (l : Launch) (G : rx_G) {α : Type} {z : α} {as : List Value} {u : Option rx_H} {κ : rx_K α} (h : c_X5_near F as u κ = some z) : rx_Cw l G (3 + 0 * F.2) 74 as u κ z := by
  unfold c_X5_near at h
  split at h
  · obtain ⟨r, hr, h⟩ := Option.bind_eq_some_iff.mp h
    exact ⟨_, _, _, _, h, k_X5_near, fun _ => rfl, fun h => absurd rfl h, fun hf => m_X5_near F l G _ _ _ _ hr⟩
  · cases h
set_option maxRecDepth 100000 in
theorem k_X5_largest : rx_Cal (rx_ny 72) (.code (rx_ny 72) prog_7_method_9_code 14 (some .long)) (rx_kd 72) 5 := ⟨prog_7_method_9_code, 14, (some .long), Or.inl rfl, rx_in (i := 559) (by rfl) (by rfl), rx_in (i := 45) (by decide +kernel) (by decide +kernel), ⟨(by decide +kernel), (by decide +kernel), (by decide +kernel)⟩, Nat.le_of_ble_eq_true rfl, fun _ => rx_in (i := 558) (by decide +kernel) (by decide +kernel), fun h => absurd h (by decide), fun h => absurd h (by decide)⟩
set_option maxRecDepth 100000 in
theorem tk_X5_largest : (t_X5_largest.all (rx_eok "SetHouse$Seeker" prog_7_method_9_code 14 false false) && rx_adj t_X5_largest) = true := by decide +kernel
theorem s_X5_largest_19 {F : Nat × Nat} {d : Nat} {l : Launch} {G : rx_G} {D : Nat} {hf : rx_H} {z : Int64} (hC : rx_CC l G D (C_X5_largest F d) z) (x0 : Int64) (x4 : Int64) (x8 : Int32) (h : f_X5_largest_19 F (f_X5_largest F d) x0 x4 x8 = some z) : rx_S l G ("SetHouse$Seeker", prog_7_method_9_code, 14, false, false, D) hf hf rx_rJ z 19 [some (.long x0), none, none, none, some (.long x4), none, none, none, some (.int x8), none, none, none, none, none] [] none := by
  rw [g_X5_largest_19] at h
  refine rx_S_node (md := ("SetHouse$Seeker", prog_7_method_9_code, 14, false, false, D)) tk_X5_largest hC rx_m_rJ (fun t ls st u h => ?_) h
  unfold kk_X5_largest_19 at h
  cases h
theorem s_X5_largest_0 {F : Nat × Nat} {d : Nat} {l : Launch} {G : rx_G} {D : Nat} {hf : rx_H} {z : Int64} (hC : rx_CC l G D (C_X5_largest F d) z) (x0 : Int64) (x2 : Int64) (x4 : Int64) (x6 : Int32) (x7 : Int32) (h : f_X5_largest_0 F (f_X5_largest F d) x0 x2 x4 x6 x7 = some z) : rx_S l G ("SetHouse$Seeker", prog_7_method_9_code, 14, false, false, D) hf hf rx_rJ z 0 [some (.long x0), none, some (.long x2), none, some (.long x4), none, some (.int x6), some (.int x7), none, none, none, none, none, none] [] none := by
  rw [g_X5_largest_0] at h
  refine rx_S_node (md := ("SetHouse$Seeker", prog_7_method_9_code, 14, false, false, D)) tk_X5_largest hC rx_m_rJ (fun t ls st u h => ?_) h
  unfold kk_X5_largest_0 at h
  rcases rx_rec_eq h with ⟨hb, h⟩ | ⟨hb, h⟩
  · have ht := Nat.eq_of_beq_eq_true hb
    subst ht
    unfold n_X5_largest_19 at h
    split at h
    · exact (s_X5_largest_19 hC _ _ _ h).le ⟨Or.inr rfl, Or.inl rfl, Or.inl rfl, Or.inl rfl, Or.inr rfl, Or.inl rfl, Or.inl rfl, Or.inl rfl, Or.inr rfl, Or.inl rfl, Or.inl rfl, Or.inl rfl, Or.inl rfl, Or.inl rfl, trivial⟩
    · cases h
  cases h
theorem cc_X5_largest (F : Nat × Nat) (d : Nat) (l : Launch) (G : rx_G) (hs : ∀ {α : Type} {z : α} {as : List Value} {u : Option rx_H} {κ : rx_K α}, c_X5_largest F d as u κ = some z → rx_Cw l G (3 + d) 72 as u κ z) {α : Type} (z : α) : rx_CC l G (3 + d) (C_X5_largest F d) z := by
  intro j as u κ h
  unfold C_X5_largest at h
  rcases rx_rec_eq h with ⟨hb, h⟩ | ⟨hb, h⟩
  · have ht := Nat.eq_of_beq_eq_true hb
    subst ht
    exact (w_X0_next F l G h).deep (by omega)
  rcases rx_rec_eq h with ⟨hb, h⟩ | ⟨hb, h⟩
  · have ht := Nat.eq_of_beq_eq_true hb
    subst ht
    exact (w_X0_size F l G h).deep (by omega)
  rcases rx_rec_eq h with ⟨hb, h⟩ | ⟨hb, h⟩
  · have ht := Nat.eq_of_beq_eq_true hb
    subst ht
    exact hs h
  rcases rx_rec_eq h with ⟨hb, h⟩ | ⟨hb, h⟩
  · have ht := Nat.eq_of_beq_eq_true hb
    subst ht
    exact (w_X5_near F l G h).deep (by omega)
  cases h
theorem m_X5_largest (F : Nat × Nat) (l : Launch) (G : rx_G) : ∀ (d : Nat) (hf : rx_H) (x0 : Int64) (x2 : Int64) (x4 : Int64) (x6 : Int32) (x7 : Int32) (z : Int64), f_X5_largest F d x0 x2 x4 x6 x7 = some z → rx_Ok l G (3 + d) (rx_ny 72) (.code (rx_ny 72) prog_7_method_9_code 14 (some .long)) [.long x0, .long x2, .long x4, .int x6, .int x7] hf (some (.long z)) hf := by
  intro d
  induction d with
  | zero =>
    intro hf x0 x2 x4 x6 x7 z h
    cases h
  | succ d ih =>
    intro hf x0 x2 x4 x6 x7 z h
    have hs : ∀ {α : Type} {z : α} {as : List Value} {u : Option rx_H} {κ : rx_K α}, c_X5_largest F d as u κ = some z → rx_Cw l G (3 + d) 72 as u κ z := by
      intro α z as u κ h
      unfold c_X5_largest at h
      split at h
      · obtain ⟨r, hr, h⟩ := Option.bind_eq_some_iff.mp h
        exact ⟨_, _, _, _, h, k_X5_largest, fun _ => rfl, fun h => absurd rfl h, fun hf => ih _ _ _ _ _ _ _ hr⟩
      · cases h
    exact (rx_met (l := l) (G := G) (hf := hf) (as := [.long x0, .long x2, .long x4, .int x6, .int x7]) (r := (some (.long z))) (ls0 := [some (.long x0), none, some (.long x2), none, some (.long x4), none, some (.int x6), some (.int x7), none, none, none, none, none, none]) (y := rx_ny 72) (D := (3 + d)) (ini := false) (bo := false) (u := none) (u' := none) (by decide +kernel) (fun h => by cases h) (Nat.le_of_ble_eq_true rfl) (Or.inr (Or.inr (Or.inl ⟨rfl, _, rfl⟩))) (fun Z hZ hB => rx_RT_rJ hZ hB) (by exact ⟨Or.inr rfl, Or.inl rfl, Or.inr rfl, Or.inl rfl, Or.inr rfl, Or.inl rfl, Or.inr rfl, Or.inr rfl, Or.inl rfl, Or.inl rfl, Or.inl rfl, Or.inl rfl, Or.inl rfl, Or.inl rfl, trivial⟩) (s_X5_largest_0 (cc_X5_largest F d l G hs z) x0 x2 x4 x6 x7 h)).deep (by omega)
theorem w_X5_largest (F : Nat × Nat) (l : Launch) (G : rx_G) {α : Type} {z : α} {as : List Value} {u : Option rx_H} {κ : rx_K α} (h : c_X5_largest F F.2 as u κ = some z) : rx_Cw l G (3 + 1 * F.2) 72 as u κ z := by
  unfold c_X5_largest at h
  split at h
  · obtain ⟨r, hr, h⟩ := Option.bind_eq_some_iff.mp h
    exact ⟨_, _, _, _, h, k_X5_largest, fun _ => rfl, fun h => absurd rfl h, fun hf => (m_X5_largest F l G F.2 _ _ _ _ _ _ _ hr).deep (by omega)⟩
  · cases h
set_option maxRecDepth 100000 in
theorem k_J9_floorMod_7cf53 : rx_Cal (rx_ny 2) (.code (rx_ny 2) prog_15_method_50_code 3 (some .int)) (rx_kd 2) 2 := ⟨prog_15_method_50_code, 3, (some .int), Or.inl rfl, rx_in (i := 68) (by rfl) (by rfl), rx_in (i := 42) (by decide +kernel) (by decide +kernel), ⟨(by decide +kernel), (by decide +kernel), (by decide +kernel)⟩, Nat.le_of_ble_eq_true rfl, fun _ => rx_in (i := 67) (by decide +kernel) (by decide +kernel), fun h => absurd h (by decide), fun h => absurd h (by decide)⟩
set_option maxRecDepth 100000 in
theorem tk_J9_floorMod_7cf53 : (t_J9_floorMod_7cf53.all (rx_eok "java/lang/Math" prog_15_method_50_code 3 false false) && rx_adj t_J9_floorMod_7cf53) = true := by decide +kernel
theorem s_J9_floorMod_7cf53_0 {F : Nat × Nat} {l : Launch} {G : rx_G} {D : Nat} {hf : rx_H} {z : Int32} (hC : rx_CC l G D (C_J9_floorMod_7cf53 F) z) (x0 : Int32) (x1 : Int32) (h : f_J9_floorMod_7cf53_0 F x0 x1 = some z) : rx_S l G ("java/lang/Math", prog_15_method_50_code, 3, false, false, D) hf hf rx_rI z 0 [some (.int x0), some (.int x1), none] [] none := by
  rw [g_J9_floorMod_7cf53_0] at h
  refine rx_S_node (md := ("java/lang/Math", prog_15_method_50_code, 3, false, false, D)) tk_J9_floorMod_7cf53 hC rx_m_rI (fun t ls st u h => ?_) h
  unfold kk_J9_floorMod_7cf53_0 at h
  cases h
theorem cc_J9_floorMod_7cf53 (F : Nat × Nat) (l : Launch) (G : rx_G) {α : Type} (z : α) : rx_CC l G (0 + 0 * F.2) (C_J9_floorMod_7cf53 F) z := by
  intro j as u κ h
  unfold C_J9_floorMod_7cf53 at h
  cases h
theorem m_J9_floorMod_7cf53 (F : Nat × Nat) (l : Launch) (G : rx_G) (hf : rx_H) (x0 : Int32) (x1 : Int32) {z : Int32} (h : f_J9_floorMod_7cf53 F x0 x1 = some z) : rx_Ok l G (1 + 0 * F.2) (rx_ny 2) (.code (rx_ny 2) prog_15_method_50_code 3 (some .int)) [.int x0, .int x1] hf (some (.int z)) hf := by
  have h := h
  unfold f_J9_floorMod_7cf53 at h
  exact (rx_met (l := l) (G := G) (hf := hf) (as := [.int x0, .int x1]) (r := (some (.int z))) (ls0 := [some (.int x0), some (.int x1), none]) (y := rx_ny 2) (D := (0 + 0 * F.2)) (ini := false) (bo := false) (u := none) (u' := none) (by decide +kernel) (fun h => by cases h) (Nat.le_of_ble_eq_true rfl) (Or.inl ⟨rfl, rfl, _, rfl⟩) (fun Z hZ hB => rx_RT_rI hZ hB) (by exact ⟨Or.inr rfl, Or.inr rfl, Or.inl rfl, trivial⟩) (s_J9_floorMod_7cf53_0 (cc_J9_floorMod_7cf53 F l G z) x0 x1 h)).deep (by omega)
theorem w_J9_floorMod_7cf53 (F : Nat × Nat) (l : Launch) (G : rx_G) {α : Type} {z : α} {as : List Value} {u : Option rx_H} {κ : rx_K α} (h : c_J9_floorMod_7cf53 F as u κ = some z) : rx_Cw l G (1 + 0 * F.2) 2 as u κ z := by
  unfold c_J9_floorMod_7cf53 at h
  split at h
  · obtain ⟨r, hr, h⟩ := Option.bind_eq_some_iff.mp h
    exact ⟨_, _, _, _, h, k_J9_floorMod_7cf53, fun _ => rfl, fun h => absurd rfl h, fun hf => m_J9_floorMod_7cf53 F l G _ _ _ hr⟩
  · cases h
set_option maxRecDepth 100000 in
theorem k_X6_isPlace : rx_Cal (rx_ny 102) (.code (rx_ny 102) prog_1_method_49_code 2 (some .boolean)) (rx_kd 102) 1 := ⟨prog_1_method_49_code, 2, (some .boolean), Or.inl rfl, rx_in (i := 161) (by rfl) (by rfl), rx_in (i := 41) (by decide +kernel) (by decide +kernel), ⟨(by decide +kernel), (by decide +kernel), (by decide +kernel)⟩, Nat.le_of_ble_eq_true rfl, fun h => absurd h (by decide), fun _ => ⟨rx_in (i := 160) (by decide +kernel) (by decide +kernel), rx_in (i := 0) (by decide +kernel) (by decide +kernel)⟩, fun h => absurd h (by decide)⟩
set_option maxRecDepth 100000 in
theorem tk_X6_isPlace : (t_X6_isPlace.all (rx_eok "SetHouse" prog_1_method_49_code 2 false true) && rx_adj t_X6_isPlace) = true := by decide +kernel
theorem s_X6_isPlace_0 {F : Nat × Nat} {l : Launch} {G : rx_G} {D : Nat} {hf : rx_H} {z : Int32} (hC : rx_CC l G D (C_X6_isPlace F) z) (x1 : Int32) (h : f_X6_isPlace_0 F x1 = some z) : rx_S l G ("SetHouse", prog_1_method_49_code, 2, false, true, D) hf hf rx_rI z 0 [none, some (.int x1)] [] none := by
  rw [g_X6_isPlace_0] at h
  refine rx_S_node (md := ("SetHouse", prog_1_method_49_code, 2, false, true, D)) tk_X6_isPlace hC rx_m_rI (fun t ls st u h => ?_) h
  unfold kk_X6_isPlace_0 at h
  cases h
theorem cc_X6_isPlace (F : Nat × Nat) (l : Launch) (G : rx_G) {α : Type} (z : α) : rx_CC l G (0 + 0 * F.2) (C_X6_isPlace F) z := by
  intro j as u κ h
  unfold C_X6_isPlace at h
  cases h
theorem m_X6_isPlace (F : Nat × Nat) (l : Launch) (G : rx_G) (hf : rx_H) (x0 : Nat) (x1 : Int32) {z : Int32} (h : f_X6_isPlace F x0 x1 = some z) : rx_Ok l G (1 + 0 * F.2) (rx_ny 102) (.code (rx_ny 102) prog_1_method_49_code 2 (some .boolean)) [.ref x0, .int x1] hf (some (.int z)) hf := by
  have h := h
  unfold f_X6_isPlace at h
  exact (rx_met (l := l) (G := G) (hf := hf) (as := [.ref x0, .int x1]) (r := (some (.int z))) (ls0 := [none, some (.int x1)]) (y := rx_ny 102) (D := (0 + 0 * F.2)) (ini := false) (bo := true) (u := none) (u' := none) (by decide +kernel) (fun h => by cases h) (Nat.le_of_ble_eq_true rfl) (Or.inr (Or.inl ⟨rfl, rfl, _, rfl⟩)) (fun Z hZ hB => rx_RT_rI hZ hB) (by exact ⟨Or.inl rfl, Or.inr rfl, trivial⟩) (s_X6_isPlace_0 (cc_X6_isPlace F l G z) x1 h)).deep (by omega)
theorem w_X6_isPlace (F : Nat × Nat) (l : Launch) (G : rx_G) {α : Type} {z : α} {as : List Value} {u : Option rx_H} {κ : rx_K α} (h : c_X6_isPlace F as u κ = some z) : rx_Cw l G (1 + 0 * F.2) 102 as u κ z := by
  unfold c_X6_isPlace at h
  split at h
  · obtain ⟨r, hr, h⟩ := Option.bind_eq_some_iff.mp h
    exact ⟨_, _, _, _, h, k_X6_isPlace, fun h => absurd h (by decide), fun _ => ⟨_, _, rfl, rfl⟩, fun hf => m_X6_isPlace F l G _ _ _ hr⟩
  · cases h
set_option maxRecDepth 100000 in
theorem k_X6_cascade : rx_Cal (rx_ny 78) (.code (rx_ny 78) prog_1_method_27_code 4 (some .int)) (rx_kd 78) 3 := ⟨prog_1_method_27_code, 4, (some .int), Or.inl rfl, rx_in (i := 439) (by rfl) (by rfl), rx_in (i := 41) (by decide +kernel) (by decide +kernel), ⟨(by decide +kernel), (by decide +kernel), (by decide +kernel)⟩, Nat.le_of_ble_eq_true rfl, fun h => absurd h (by decide), fun _ => ⟨rx_in (i := 437) (by decide +kernel) (by decide +kernel), rx_in (i := 438) (by decide +kernel) (by decide +kernel)⟩, fun h => absurd h (by decide)⟩
set_option maxRecDepth 100000 in
theorem tk_X6_cascade : (t_X6_cascade.all (rx_eok "SetHouse" prog_1_method_27_code 4 false false) && rx_adj t_X6_cascade) = true := by decide +kernel
theorem s_X6_cascade_0 {F : Nat × Nat} {l : Launch} {G : rx_G} {D : Nat} {hf : rx_H} {z : Int32} (hC : rx_CC l G D (C_X6_cascade F) z) (x1 : Int32) (x2 : Int32) (x3 : Int32) (h : f_X6_cascade_0 F x1 x2 x3 = some z) : rx_S l G ("SetHouse", prog_1_method_27_code, 4, false, false, D) hf hf rx_rI z 0 [none, some (.int x1), some (.int x2), some (.int x3)] [] none := by
  rw [g_X6_cascade_0] at h
  refine rx_S_node (md := ("SetHouse", prog_1_method_27_code, 4, false, false, D)) tk_X6_cascade hC rx_m_rI (fun t ls st u h => ?_) h
  unfold kk_X6_cascade_0 at h
  cases h
theorem cc_X6_cascade (F : Nat × Nat) (l : Launch) (G : rx_G) {α : Type} (z : α) : rx_CC l G (2 + 0 * F.2) (C_X6_cascade F) z := by
  intro j as u κ h
  unfold C_X6_cascade at h
  rcases rx_rec_eq h with ⟨hb, h⟩ | ⟨hb, h⟩
  · have ht := Nat.eq_of_beq_eq_true hb
    subst ht
    exact (w_X2_cascadeNumber F l G h).deep (by omega)
  rcases rx_rec_eq h with ⟨hb, h⟩ | ⟨hb, h⟩
  · have ht := Nat.eq_of_beq_eq_true hb
    subst ht
    exact (w_X2_cascades F l G h).deep (by omega)
  cases h
theorem m_X6_cascade (F : Nat × Nat) (l : Launch) (G : rx_G) (hf : rx_H) (x0 : Nat) (x1 : Int32) (x2 : Int32) (x3 : Int32) {z : Int32} (h : f_X6_cascade F x0 x1 x2 x3 = some z) : rx_Ok l G (3 + 0 * F.2) (rx_ny 78) (.code (rx_ny 78) prog_1_method_27_code 4 (some .int)) [.ref x0, .int x1, .int x2, .int x3] hf (some (.int z)) hf := by
  have h := h
  unfold f_X6_cascade at h
  exact (rx_met (l := l) (G := G) (hf := hf) (as := [.ref x0, .int x1, .int x2, .int x3]) (r := (some (.int z))) (ls0 := [none, some (.int x1), some (.int x2), some (.int x3)]) (y := rx_ny 78) (D := (2 + 0 * F.2)) (ini := false) (bo := false) (u := none) (u' := none) (by decide +kernel) (fun h => by cases h) (Nat.le_of_ble_eq_true rfl) (Or.inl ⟨rfl, rfl, _, rfl⟩) (fun Z hZ hB => rx_RT_rI hZ hB) (by exact ⟨Or.inl rfl, Or.inr rfl, Or.inr rfl, Or.inr rfl, trivial⟩) (s_X6_cascade_0 (cc_X6_cascade F l G z) x1 x2 x3 h)).deep (by omega)
theorem w_X6_cascade (F : Nat × Nat) (l : Launch) (G : rx_G) {α : Type} {z : α} {as : List Value} {u : Option rx_H} {κ : rx_K α} (h : c_X6_cascade F as u κ = some z) : rx_Cw l G (3 + 0 * F.2) 78 as u κ z := by
  unfold c_X6_cascade at h
  split at h
  · obtain ⟨r, hr, h⟩ := Option.bind_eq_some_iff.mp h
    exact ⟨_, _, _, _, h, k_X6_cascade, fun h => absurd h (by decide), fun _ => ⟨_, _, rfl, rfl⟩, fun hf => m_X6_cascade F l G _ _ _ _ _ hr⟩
  · cases h
set_option maxRecDepth 100000 in
theorem k_X6_least : rx_Cal (rx_ny 108) (.code (rx_ny 108) prog_1_method_28_code 3 (some .int)) (rx_kd 108) 2 := ⟨prog_1_method_28_code, 3, (some .int), Or.inl rfl, rx_in (i := 455) (by rfl) (by rfl), rx_in (i := 41) (by decide +kernel) (by decide +kernel), ⟨(by decide +kernel), (by decide +kernel), (by decide +kernel)⟩, Nat.le_of_ble_eq_true rfl, fun h => absurd h (by decide), fun _ => ⟨rx_in (i := 453) (by decide +kernel) (by decide +kernel), rx_in (i := 454) (by decide +kernel) (by decide +kernel)⟩, fun h => absurd h (by decide)⟩
set_option maxRecDepth 100000 in
theorem tk_X6_least : (t_X6_least.all (rx_eok "SetHouse" prog_1_method_28_code 3 false false) && rx_adj t_X6_least) = true := by decide +kernel
theorem s_X6_least_0 {F : Nat × Nat} {l : Launch} {G : rx_G} {D : Nat} {hf : rx_H} {z : Int32} (hC : rx_CC l G D (C_X6_least F) z) (x1 : Int32) (x2 : Int32) (h : f_X6_least_0 F x1 x2 = some z) : rx_S l G ("SetHouse", prog_1_method_28_code, 3, false, false, D) hf hf rx_rI z 0 [none, some (.int x1), some (.int x2)] [] none := by
  rw [g_X6_least_0] at h
  refine rx_S_node (md := ("SetHouse", prog_1_method_28_code, 3, false, false, D)) tk_X6_least hC rx_m_rI (fun t ls st u h => ?_) h
  unfold kk_X6_least_0 at h
  cases h
theorem cc_X6_least (F : Nat × Nat) (l : Launch) (G : rx_G) {α : Type} (z : α) : rx_CC l G (2 + 0 * F.2) (C_X6_least F) z := by
  intro j as u κ h
  unfold C_X6_least at h
  rcases rx_rec_eq h with ⟨hb, h⟩ | ⟨hb, h⟩
  · have ht := Nat.eq_of_beq_eq_true hb
    subst ht
    exact (w_X2_cascades F l G h).deep (by omega)
  rcases rx_rec_eq h with ⟨hb, h⟩ | ⟨hb, h⟩
  · have ht := Nat.eq_of_beq_eq_true hb
    subst ht
    exact (w_X2_leastShadow F l G h).deep (by omega)
  cases h
theorem m_X6_least (F : Nat × Nat) (l : Launch) (G : rx_G) (hf : rx_H) (x0 : Nat) (x1 : Int32) (x2 : Int32) {z : Int32} (h : f_X6_least F x0 x1 x2 = some z) : rx_Ok l G (3 + 0 * F.2) (rx_ny 108) (.code (rx_ny 108) prog_1_method_28_code 3 (some .int)) [.ref x0, .int x1, .int x2] hf (some (.int z)) hf := by
  have h := h
  unfold f_X6_least at h
  exact (rx_met (l := l) (G := G) (hf := hf) (as := [.ref x0, .int x1, .int x2]) (r := (some (.int z))) (ls0 := [none, some (.int x1), some (.int x2)]) (y := rx_ny 108) (D := (2 + 0 * F.2)) (ini := false) (bo := false) (u := none) (u' := none) (by decide +kernel) (fun h => by cases h) (Nat.le_of_ble_eq_true rfl) (Or.inl ⟨rfl, rfl, _, rfl⟩) (fun Z hZ hB => rx_RT_rI hZ hB) (by exact ⟨Or.inl rfl, Or.inr rfl, Or.inr rfl, trivial⟩) (s_X6_least_0 (cc_X6_least F l G z) x1 x2 h)).deep (by omega)
theorem w_X6_least (F : Nat × Nat) (l : Launch) (G : rx_G) {α : Type} {z : α} {as : List Value} {u : Option rx_H} {κ : rx_K α} (h : c_X6_least F as u κ = some z) : rx_Cw l G (3 + 0 * F.2) 108 as u κ z := by
  unfold c_X6_least at h
  split at h
  · obtain ⟨r, hr, h⟩ := Option.bind_eq_some_iff.mp h
    exact ⟨_, _, _, _, h, k_X6_least, fun h => absurd h (by decide), fun _ => ⟨_, _, rfl, rfl⟩, fun hf => m_X6_least F l G _ _ _ _ hr⟩
  · cases h
set_option maxRecDepth 100000 in
theorem k_X7_isIn : rx_Cal (rx_ny 171) (.code (rx_ny 171) prog_9_method_2_code 3 (some .boolean)) (rx_kd 171) 3 := ⟨prog_9_method_2_code, 3, (some .boolean), Or.inl rfl, rx_in (i := 808) (by rfl) (by rfl), rx_in (i := 46) (by decide +kernel) (by decide +kernel), ⟨(by decide +kernel), (by decide +kernel), (by decide +kernel)⟩, Nat.le_of_ble_eq_true rfl, fun _ => rx_in (i := 807) (by decide +kernel) (by decide +kernel), fun h => absurd h (by decide), fun h => absurd h (by decide)⟩
set_option maxRecDepth 100000 in
theorem tk_X7_isIn : (t_X7_isIn.all (rx_eok "SetHouseModel" prog_9_method_2_code 3 false true) && rx_adj t_X7_isIn) = true := by decide +kernel
theorem s_X7_isIn_0 {F : Nat × Nat} {l : Launch} {G : rx_G} {D : Nat} {hf : rx_H} {z : Int32} (hC : rx_CC l G D (C_X7_isIn F) z) (x0 : Int32) (x1 : Int32) (x2 : Int32) (h : f_X7_isIn_0 F x0 x1 x2 = some z) : rx_S l G ("SetHouseModel", prog_9_method_2_code, 3, false, true, D) hf hf rx_rI z 0 [some (.int x0), some (.int x1), some (.int x2)] [] none := by
  rw [g_X7_isIn_0] at h
  refine rx_S_node (md := ("SetHouseModel", prog_9_method_2_code, 3, false, true, D)) tk_X7_isIn hC rx_m_rI (fun t ls st u h => ?_) h
  unfold kk_X7_isIn_0 at h
  cases h
theorem cc_X7_isIn (F : Nat × Nat) (l : Launch) (G : rx_G) {α : Type} (z : α) : rx_CC l G (0 + 0 * F.2) (C_X7_isIn F) z := by
  intro j as u κ h
  unfold C_X7_isIn at h
  cases h
theorem m_X7_isIn (F : Nat × Nat) (l : Launch) (G : rx_G) (hf : rx_H) (x0 : Int32) (x1 : Int32) (x2 : Int32) {z : Int32} (h : f_X7_isIn F x0 x1 x2 = some z) : rx_Ok l G (1 + 0 * F.2) (rx_ny 171) (.code (rx_ny 171) prog_9_method_2_code 3 (some .boolean)) [.int x0, .int x1, .int x2] hf (some (.int z)) hf := by
  have h := h
  unfold f_X7_isIn at h
  exact (rx_met (l := l) (G := G) (hf := hf) (as := [.int x0, .int x1, .int x2]) (r := (some (.int z))) (ls0 := [some (.int x0), some (.int x1), some (.int x2)]) (y := rx_ny 171) (D := (0 + 0 * F.2)) (ini := false) (bo := true) (u := none) (u' := none) (by decide +kernel) (fun h => by cases h) (Nat.le_of_ble_eq_true rfl) (Or.inr (Or.inl ⟨rfl, rfl, _, rfl⟩)) (fun Z hZ hB => rx_RT_rI hZ hB) (by exact ⟨Or.inr rfl, Or.inr rfl, Or.inr rfl, trivial⟩) (s_X7_isIn_0 (cc_X7_isIn F l G z) x0 x1 x2 h)).deep (by omega)
theorem w_X7_isIn (F : Nat × Nat) (l : Launch) (G : rx_G) {α : Type} {z : α} {as : List Value} {u : Option rx_H} {κ : rx_K α} (h : c_X7_isIn F as u κ = some z) : rx_Cw l G (1 + 0 * F.2) 171 as u κ z := by
  unfold c_X7_isIn at h
  split at h
  · obtain ⟨r, hr, h⟩ := Option.bind_eq_some_iff.mp h
    exact ⟨_, _, _, _, h, k_X7_isIn, fun _ => rfl, fun h => absurd rfl h, fun hf => m_X7_isIn F l G _ _ _ _ hr⟩
  · cases h
set_option maxRecDepth 100000 in
theorem k_X7_ones : rx_Cal (rx_ny 190) (.code (rx_ny 190) prog_9_method_4_code 3 (some .int)) (rx_kd 190) 1 := ⟨prog_9_method_4_code, 3, (some .int), Or.inl rfl, rx_in (i := 846) (by rfl) (by rfl), rx_in (i := 46) (by decide +kernel) (by decide +kernel), ⟨(by decide +kernel), (by decide +kernel), (by decide +kernel)⟩, Nat.le_of_ble_eq_true rfl, fun _ => rx_in (i := 845) (by decide +kernel) (by decide +kernel), fun h => absurd h (by decide), fun h => absurd h (by decide)⟩
set_option maxRecDepth 100000 in
theorem tk_X7_ones : (t_X7_ones.all (rx_eok "SetHouseModel" prog_9_method_4_code 3 false false) && rx_adj t_X7_ones) = true := by decide +kernel
theorem s_X7_ones_4 {F : Nat × Nat} {l : Launch} {G : rx_G} {D : Nat} {hf : rx_H} {z : Int32} (hC : rx_CC l G D (C_X7_ones F) z) : ∀ (f : Nat) (x1 : Int32) (x2 : Int32), f_X7_ones_4 F f x1 x2 = some z → rx_S l G ("SetHouseModel", prog_9_method_4_code, 3, false, false, D) hf hf rx_rI z 4 [none, some (.int x1), some (.int x2)] [] none := by
  intro f
  induction f with
  | zero =>
    intro x1 x2 h
    cases h
  | succ f ih =>
    intro x1 x2 h
    rw [g_X7_ones_4] at h
    refine rx_S_node (md := ("SetHouseModel", prog_9_method_4_code, 3, false, false, D)) tk_X7_ones hC rx_m_rI (fun t ls st u h => ?_) h
    unfold kk_X7_ones_4 at h
    rcases rx_rec_eq h with ⟨hb, h⟩ | ⟨hb, h⟩
    · have ht := Nat.eq_of_beq_eq_true hb
      subst ht
      unfold n_X7_ones_4 at h
      split at h
      · exact (ih _ _ h).le ⟨Or.inl rfl, Or.inr rfl, Or.inr rfl, trivial⟩
      · cases h
    cases h
theorem s_X7_ones_0 {F : Nat × Nat} {l : Launch} {G : rx_G} {D : Nat} {hf : rx_H} {z : Int32} (hC : rx_CC l G D (C_X7_ones F) z) (x0 : Int32) (h : f_X7_ones_0 F x0 = some z) : rx_S l G ("SetHouseModel", prog_9_method_4_code, 3, false, false, D) hf hf rx_rI z 0 [some (.int x0), none, none] [] none := by
  rw [g_X7_ones_0] at h
  refine rx_S_node (md := ("SetHouseModel", prog_9_method_4_code, 3, false, false, D)) tk_X7_ones hC rx_m_rI (fun t ls st u h => ?_) h
  unfold kk_X7_ones_0 at h
  rcases rx_rec_eq h with ⟨hb, h⟩ | ⟨hb, h⟩
  · have ht := Nat.eq_of_beq_eq_true hb
    subst ht
    unfold n_X7_ones_4 at h
    split at h
    · exact (s_X7_ones_4 hC _ _ _ h).le ⟨Or.inl rfl, Or.inr rfl, Or.inr rfl, trivial⟩
    · cases h
  cases h
theorem cc_X7_ones (F : Nat × Nat) (l : Launch) (G : rx_G) {α : Type} (z : α) : rx_CC l G (0 + 0 * F.2) (C_X7_ones F) z := by
  intro j as u κ h
  unfold C_X7_ones at h
  cases h
theorem m_X7_ones (F : Nat × Nat) (l : Launch) (G : rx_G) (hf : rx_H) (x0 : Int32) {z : Int32} (h : f_X7_ones F x0 = some z) : rx_Ok l G (1 + 0 * F.2) (rx_ny 190) (.code (rx_ny 190) prog_9_method_4_code 3 (some .int)) [.int x0] hf (some (.int z)) hf := by
  have h := h
  unfold f_X7_ones at h
  exact (rx_met (l := l) (G := G) (hf := hf) (as := [.int x0]) (r := (some (.int z))) (ls0 := [some (.int x0), none, none]) (y := rx_ny 190) (D := (0 + 0 * F.2)) (ini := false) (bo := false) (u := none) (u' := none) (by decide +kernel) (fun h => by cases h) (Nat.le_of_ble_eq_true rfl) (Or.inl ⟨rfl, rfl, _, rfl⟩) (fun Z hZ hB => rx_RT_rI hZ hB) (by exact ⟨Or.inr rfl, Or.inl rfl, Or.inl rfl, trivial⟩) (s_X7_ones_0 (cc_X7_ones F l G z) x0 h)).deep (by omega)
theorem w_X7_ones (F : Nat × Nat) (l : Launch) (G : rx_G) {α : Type} {z : α} {as : List Value} {u : Option rx_H} {κ : rx_K α} (h : c_X7_ones F as u κ = some z) : rx_Cw l G (1 + 0 * F.2) 190 as u κ z := by
  unfold c_X7_ones at h
  split at h
  · obtain ⟨r, hr, h⟩ := Option.bind_eq_some_iff.mp h
    exact ⟨_, _, _, _, h, k_X7_ones, fun _ => rfl, fun h => absurd rfl h, fun hf => m_X7_ones F l G _ _ hr⟩
  · cases h
set_option maxRecDepth 100000 in
theorem k_X7_many : rx_Cal (rx_ny 184) (.code (rx_ny 184) prog_9_method_5_code 4 (some .int)) (rx_kd 184) 1 := ⟨prog_9_method_5_code, 4, (some .int), Or.inl rfl, rx_in (i := 819) (by rfl) (by rfl), rx_in (i := 46) (by decide +kernel) (by decide +kernel), ⟨(by decide +kernel), (by decide +kernel), (by decide +kernel)⟩, Nat.le_of_ble_eq_true rfl, fun _ => rx_in (i := 818) (by decide +kernel) (by decide +kernel), fun h => absurd h (by decide), fun h => absurd h (by decide)⟩
set_option maxRecDepth 100000 in
theorem tk_X7_many : (t_X7_many.all (rx_eok "SetHouseModel" prog_9_method_5_code 4 false false) && rx_adj t_X7_many) = true := by decide +kernel
theorem s_X7_many_4 {F : Nat × Nat} {l : Launch} {G : rx_G} {D : Nat} {hf : rx_H} {z : Int32} (hC : rx_CC l G D (C_X7_many F) z) : ∀ (f : Nat) (x0 : Int64) (x2 : Int32) (x3 : Int32), f_X7_many_4 F f x0 x2 x3 = some z → rx_S l G ("SetHouseModel", prog_9_method_5_code, 4, false, false, D) hf hf rx_rI z 4 [some (.long x0), none, some (.int x2), some (.int x3)] [] none := by
  intro f
  induction f with
  | zero =>
    intro x0 x2 x3 h
    cases h
  | succ f ih =>
    intro x0 x2 x3 h
    rw [g_X7_many_4] at h
    refine rx_S_node (md := ("SetHouseModel", prog_9_method_5_code, 4, false, false, D)) tk_X7_many hC rx_m_rI (fun t ls st u h => ?_) h
    unfold kk_X7_many_4 at h
    rcases rx_rec_eq h with ⟨hb, h⟩ | ⟨hb, h⟩
    · have ht := Nat.eq_of_beq_eq_true hb
      subst ht
      unfold n_X7_many_4 at h
      split at h
      · exact (ih _ _ _ h).le ⟨Or.inr rfl, Or.inl rfl, Or.inr rfl, Or.inr rfl, trivial⟩
      · cases h
    cases h
theorem s_X7_many_0 {F : Nat × Nat} {l : Launch} {G : rx_G} {D : Nat} {hf : rx_H} {z : Int32} (hC : rx_CC l G D (C_X7_many F) z) (x0 : Int64) (h : f_X7_many_0 F x0 = some z) : rx_S l G ("SetHouseModel", prog_9_method_5_code, 4, false, false, D) hf hf rx_rI z 0 [some (.long x0), none, none, none] [] none := by
  rw [g_X7_many_0] at h
  refine rx_S_node (md := ("SetHouseModel", prog_9_method_5_code, 4, false, false, D)) tk_X7_many hC rx_m_rI (fun t ls st u h => ?_) h
  unfold kk_X7_many_0 at h
  rcases rx_rec_eq h with ⟨hb, h⟩ | ⟨hb, h⟩
  · have ht := Nat.eq_of_beq_eq_true hb
    subst ht
    unfold n_X7_many_4 at h
    split at h
    · exact (s_X7_many_4 hC _ _ _ _ h).le ⟨Or.inr rfl, Or.inl rfl, Or.inr rfl, Or.inr rfl, trivial⟩
    · cases h
  cases h
theorem cc_X7_many (F : Nat × Nat) (l : Launch) (G : rx_G) {α : Type} (z : α) : rx_CC l G (0 + 0 * F.2) (C_X7_many F) z := by
  intro j as u κ h
  unfold C_X7_many at h
  cases h
theorem m_X7_many (F : Nat × Nat) (l : Launch) (G : rx_G) (hf : rx_H) (x0 : Int64) {z : Int32} (h : f_X7_many F x0 = some z) : rx_Ok l G (1 + 0 * F.2) (rx_ny 184) (.code (rx_ny 184) prog_9_method_5_code 4 (some .int)) [.long x0] hf (some (.int z)) hf := by
  have h := h
  unfold f_X7_many at h
  exact (rx_met (l := l) (G := G) (hf := hf) (as := [.long x0]) (r := (some (.int z))) (ls0 := [some (.long x0), none, none, none]) (y := rx_ny 184) (D := (0 + 0 * F.2)) (ini := false) (bo := false) (u := none) (u' := none) (by decide +kernel) (fun h => by cases h) (Nat.le_of_ble_eq_true rfl) (Or.inl ⟨rfl, rfl, _, rfl⟩) (fun Z hZ hB => rx_RT_rI hZ hB) (by exact ⟨Or.inr rfl, Or.inl rfl, Or.inl rfl, Or.inl rfl, trivial⟩) (s_X7_many_0 (cc_X7_many F l G z) x0 h)).deep (by omega)
theorem w_X7_many (F : Nat × Nat) (l : Launch) (G : rx_G) {α : Type} {z : α} {as : List Value} {u : Option rx_H} {κ : rx_K α} (h : c_X7_many F as u κ = some z) : rx_Cw l G (1 + 0 * F.2) 184 as u κ z := by
  unfold c_X7_many at h
  split at h
  · obtain ⟨r, hr, h⟩ := Option.bind_eq_some_iff.mp h
    exact ⟨_, _, _, _, h, k_X7_many, fun _ => rfl, fun h => absurd rfl h, fun hf => m_X7_many F l G _ _ hr⟩
  · cases h
set_option maxRecDepth 100000 in
theorem k_X7_has : rx_Cal (rx_ny 163) (.code (rx_ny 163) prog_9_method_6_code 3 (some .boolean)) (rx_kd 163) 2 := ⟨prog_9_method_6_code, 3, (some .boolean), Or.inl rfl, rx_in (i := 852) (by rfl) (by rfl), rx_in (i := 46) (by decide +kernel) (by decide +kernel), ⟨(by decide +kernel), (by decide +kernel), (by decide +kernel)⟩, Nat.le_of_ble_eq_true rfl, fun _ => rx_in (i := 851) (by decide +kernel) (by decide +kernel), fun h => absurd h (by decide), fun h => absurd h (by decide)⟩
set_option maxRecDepth 100000 in
theorem tk_X7_has : (t_X7_has.all (rx_eok "SetHouseModel" prog_9_method_6_code 3 false true) && rx_adj t_X7_has) = true := by decide +kernel
theorem s_X7_has_0 {F : Nat × Nat} {l : Launch} {G : rx_G} {D : Nat} {hf : rx_H} {z : Int32} (hC : rx_CC l G D (C_X7_has F) z) (x0 : Int64) (x2 : Int32) (h : f_X7_has_0 F x0 x2 = some z) : rx_S l G ("SetHouseModel", prog_9_method_6_code, 3, false, true, D) hf hf rx_rI z 0 [some (.long x0), none, some (.int x2)] [] none := by
  rw [g_X7_has_0] at h
  refine rx_S_node (md := ("SetHouseModel", prog_9_method_6_code, 3, false, true, D)) tk_X7_has hC rx_m_rI (fun t ls st u h => ?_) h
  unfold kk_X7_has_0 at h
  cases h
theorem cc_X7_has (F : Nat × Nat) (l : Launch) (G : rx_G) {α : Type} (z : α) : rx_CC l G (0 + 0 * F.2) (C_X7_has F) z := by
  intro j as u κ h
  unfold C_X7_has at h
  cases h
theorem m_X7_has (F : Nat × Nat) (l : Launch) (G : rx_G) (hf : rx_H) (x0 : Int64) (x2 : Int32) {z : Int32} (h : f_X7_has F x0 x2 = some z) : rx_Ok l G (1 + 0 * F.2) (rx_ny 163) (.code (rx_ny 163) prog_9_method_6_code 3 (some .boolean)) [.long x0, .int x2] hf (some (.int z)) hf := by
  have h := h
  unfold f_X7_has at h
  exact (rx_met (l := l) (G := G) (hf := hf) (as := [.long x0, .int x2]) (r := (some (.int z))) (ls0 := [some (.long x0), none, some (.int x2)]) (y := rx_ny 163) (D := (0 + 0 * F.2)) (ini := false) (bo := true) (u := none) (u' := none) (by decide +kernel) (fun h => by cases h) (Nat.le_of_ble_eq_true rfl) (Or.inr (Or.inl ⟨rfl, rfl, _, rfl⟩)) (fun Z hZ hB => rx_RT_rI hZ hB) (by exact ⟨Or.inr rfl, Or.inl rfl, Or.inr rfl, trivial⟩) (s_X7_has_0 (cc_X7_has F l G z) x0 x2 h)).deep (by omega)
theorem w_X7_has (F : Nat × Nat) (l : Launch) (G : rx_G) {α : Type} {z : α} {as : List Value} {u : Option rx_H} {κ : rx_K α} (h : c_X7_has F as u κ = some z) : rx_Cw l G (1 + 0 * F.2) 163 as u κ z := by
  unfold c_X7_has at h
  split at h
  · obtain ⟨r, hr, h⟩ := Option.bind_eq_some_iff.mp h
    exact ⟨_, _, _, _, h, k_X7_has, fun _ => rfl, fun h => absurd rfl h, fun hf => m_X7_has F l G _ _ _ hr⟩
  · cases h
set_option maxRecDepth 100000 in
theorem k_X7_isWithin : rx_Cal (rx_ny 177) (.code (rx_ny 177) prog_9_method_8_code 2 (some .boolean)) (rx_kd 177) 2 := ⟨prog_9_method_8_code, 2, (some .boolean), Or.inl rfl, rx_in (i := 855) (by rfl) (by rfl), rx_in (i := 46) (by decide +kernel) (by decide +kernel), ⟨(by decide +kernel), (by decide +kernel), (by decide +kernel)⟩, Nat.le_of_ble_eq_true rfl, fun _ => rx_in (i := 854) (by decide +kernel) (by decide +kernel), fun h => absurd h (by decide), fun h => absurd h (by decide)⟩
set_option maxRecDepth 100000 in
theorem tk_X7_isWithin : (t_X7_isWithin.all (rx_eok "SetHouseModel" prog_9_method_8_code 2 false true) && rx_adj t_X7_isWithin) = true := by decide +kernel
theorem s_X7_isWithin_0 {F : Nat × Nat} {l : Launch} {G : rx_G} {D : Nat} {hf : rx_H} {z : Int32} (hC : rx_CC l G D (C_X7_isWithin F) z) (x0 : Int32) (x1 : Int32) (h : f_X7_isWithin_0 F x0 x1 = some z) : rx_S l G ("SetHouseModel", prog_9_method_8_code, 2, false, true, D) hf hf rx_rI z 0 [some (.int x0), some (.int x1)] [] none := by
  rw [g_X7_isWithin_0] at h
  refine rx_S_node (md := ("SetHouseModel", prog_9_method_8_code, 2, false, true, D)) tk_X7_isWithin hC rx_m_rI (fun t ls st u h => ?_) h
  unfold kk_X7_isWithin_0 at h
  cases h
theorem cc_X7_isWithin (F : Nat × Nat) (l : Launch) (G : rx_G) {α : Type} (z : α) : rx_CC l G (0 + 0 * F.2) (C_X7_isWithin F) z := by
  intro j as u κ h
  unfold C_X7_isWithin at h
  cases h
theorem m_X7_isWithin (F : Nat × Nat) (l : Launch) (G : rx_G) (hf : rx_H) (x0 : Int32) (x1 : Int32) {z : Int32} (h : f_X7_isWithin F x0 x1 = some z) : rx_Ok l G (1 + 0 * F.2) (rx_ny 177) (.code (rx_ny 177) prog_9_method_8_code 2 (some .boolean)) [.int x0, .int x1] hf (some (.int z)) hf := by
  have h := h
  unfold f_X7_isWithin at h
  exact (rx_met (l := l) (G := G) (hf := hf) (as := [.int x0, .int x1]) (r := (some (.int z))) (ls0 := [some (.int x0), some (.int x1)]) (y := rx_ny 177) (D := (0 + 0 * F.2)) (ini := false) (bo := true) (u := none) (u' := none) (by decide +kernel) (fun h => by cases h) (Nat.le_of_ble_eq_true rfl) (Or.inr (Or.inl ⟨rfl, rfl, _, rfl⟩)) (fun Z hZ hB => rx_RT_rI hZ hB) (by exact ⟨Or.inr rfl, Or.inr rfl, trivial⟩) (s_X7_isWithin_0 (cc_X7_isWithin F l G z) x0 x1 h)).deep (by omega)
theorem w_X7_isWithin (F : Nat × Nat) (l : Launch) (G : rx_G) {α : Type} {z : α} {as : List Value} {u : Option rx_H} {κ : rx_K α} (h : c_X7_isWithin F as u κ = some z) : rx_Cw l G (1 + 0 * F.2) 177 as u κ z := by
  unfold c_X7_isWithin at h
  split at h
  · obtain ⟨r, hr, h⟩ := Option.bind_eq_some_iff.mp h
    exact ⟨_, _, _, _, h, k_X7_isWithin, fun _ => rfl, fun h => absurd rfl h, fun hf => m_X7_isWithin F l G _ _ _ hr⟩
  · cases h
set_option maxRecDepth 100000 in
theorem k_X7_isPlace : rx_Cal (rx_ny 173) (.code (rx_ny 173) prog_9_method_9_code 1 (some .boolean)) (rx_kd 173) 1 := ⟨prog_9_method_9_code, 1, (some .boolean), Or.inl rfl, rx_in (i := 805) (by rfl) (by rfl), rx_in (i := 46) (by decide +kernel) (by decide +kernel), ⟨(by decide +kernel), (by decide +kernel), (by decide +kernel)⟩, Nat.le_of_ble_eq_true rfl, fun _ => rx_in (i := 804) (by decide +kernel) (by decide +kernel), fun h => absurd h (by decide), fun h => absurd h (by decide)⟩
set_option maxRecDepth 100000 in
theorem tk_X7_isPlace : (t_X7_isPlace.all (rx_eok "SetHouseModel" prog_9_method_9_code 1 false true) && rx_adj t_X7_isPlace) = true := by decide +kernel
theorem s_X7_isPlace_0 {F : Nat × Nat} {l : Launch} {G : rx_G} {D : Nat} {hf : rx_H} {z : Int32} (hC : rx_CC l G D (C_X7_isPlace F) z) (x0 : Int32) (h : f_X7_isPlace_0 F x0 = some z) : rx_S l G ("SetHouseModel", prog_9_method_9_code, 1, false, true, D) hf hf rx_rI z 0 [some (.int x0)] [] none := by
  rw [g_X7_isPlace_0] at h
  refine rx_S_node (md := ("SetHouseModel", prog_9_method_9_code, 1, false, true, D)) tk_X7_isPlace hC rx_m_rI (fun t ls st u h => ?_) h
  unfold kk_X7_isPlace_0 at h
  cases h
theorem cc_X7_isPlace (F : Nat × Nat) (l : Launch) (G : rx_G) {α : Type} (z : α) : rx_CC l G (1 + 0 * F.2) (C_X7_isPlace F) z := by
  intro j as u κ h
  unfold C_X7_isPlace at h
  rcases rx_rec_eq h with ⟨hb, h⟩ | ⟨hb, h⟩
  · have ht := Nat.eq_of_beq_eq_true hb
    subst ht
    exact (w_X7_isIn F l G h).deep (by omega)
  cases h
theorem m_X7_isPlace (F : Nat × Nat) (l : Launch) (G : rx_G) (hf : rx_H) (x0 : Int32) {z : Int32} (h : f_X7_isPlace F x0 = some z) : rx_Ok l G (2 + 0 * F.2) (rx_ny 173) (.code (rx_ny 173) prog_9_method_9_code 1 (some .boolean)) [.int x0] hf (some (.int z)) hf := by
  have h := h
  unfold f_X7_isPlace at h
  exact (rx_met (l := l) (G := G) (hf := hf) (as := [.int x0]) (r := (some (.int z))) (ls0 := [some (.int x0)]) (y := rx_ny 173) (D := (1 + 0 * F.2)) (ini := false) (bo := true) (u := none) (u' := none) (by decide +kernel) (fun h => by cases h) (Nat.le_of_ble_eq_true rfl) (Or.inr (Or.inl ⟨rfl, rfl, _, rfl⟩)) (fun Z hZ hB => rx_RT_rI hZ hB) (by exact ⟨Or.inr rfl, trivial⟩) (s_X7_isPlace_0 (cc_X7_isPlace F l G z) x0 h)).deep (by omega)
theorem w_X7_isPlace (F : Nat × Nat) (l : Launch) (G : rx_G) {α : Type} {z : α} {as : List Value} {u : Option rx_H} {κ : rx_K α} (h : c_X7_isPlace F as u κ = some z) : rx_Cw l G (2 + 0 * F.2) 173 as u κ z := by
  unfold c_X7_isPlace at h
  split at h
  · obtain ⟨r, hr, h⟩ := Option.bind_eq_some_iff.mp h
    exact ⟨_, _, _, _, h, k_X7_isPlace, fun _ => rfl, fun h => absurd rfl h, fun hf => m_X7_isPlace F l G _ _ hr⟩
  · cases h
set_option maxRecDepth 100000 in
theorem k_X7_apartFrom : rx_Cal (rx_ny 138) (.code (rx_ny 138) prog_9_method_15_code 5 (some .int)) (rx_kd 138) 3 := ⟨prog_9_method_15_code, 5, (some .int), Or.inl rfl, rx_in (i := 849) (by rfl) (by rfl), rx_in (i := 46) (by decide +kernel) (by decide +kernel), ⟨(by decide +kernel), (by decide +kernel), (by decide +kernel)⟩, Nat.le_of_ble_eq_true rfl, fun _ => rx_in (i := 848) (by decide +kernel) (by decide +kernel), fun h => absurd h (by decide), fun h => absurd h (by decide)⟩
set_option maxRecDepth 100000 in
theorem tk_X7_apartFrom : (t_X7_apartFrom.all (rx_eok "SetHouseModel" prog_9_method_15_code 5 false false) && rx_adj t_X7_apartFrom) = true := by decide +kernel
theorem s_X7_apartFrom_3 {F : Nat × Nat} {l : Launch} {G : rx_G} {D : Nat} {hf : rx_H} {z : Int32} (hC : rx_CC l G D (C_X7_apartFrom F) z) : ∀ (f : Nat) (x0 : Int64) (x2 : Int32) (x3 : Int32) (x4 : Int32), f_X7_apartFrom_3 F f x0 x2 x3 x4 = some z → rx_S l G ("SetHouseModel", prog_9_method_15_code, 5, false, false, D) hf hf rx_rI z 3 [some (.long x0), none, some (.int x2), some (.int x3), some (.int x4)] [] none := by
  intro f
  induction f with
  | zero =>
    intro x0 x2 x3 x4 h
    cases h
  | succ f ih =>
    intro x0 x2 x3 x4 h
    rw [g_X7_apartFrom_3] at h
    refine rx_S_node (md := ("SetHouseModel", prog_9_method_15_code, 5, false, false, D)) tk_X7_apartFrom hC rx_m_rI (fun t ls st u h => ?_) h
    unfold kk_X7_apartFrom_3 at h
    rcases rx_rec_eq h with ⟨hb, h⟩ | ⟨hb, h⟩
    · have ht := Nat.eq_of_beq_eq_true hb
      subst ht
      unfold n_X7_apartFrom_3 at h
      split at h
      · exact (ih _ _ _ _ h).le ⟨Or.inr rfl, Or.inl rfl, Or.inr rfl, Or.inr rfl, Or.inr rfl, trivial⟩
      · cases h
    cases h
theorem s_X7_apartFrom_0 {F : Nat × Nat} {l : Launch} {G : rx_G} {D : Nat} {hf : rx_H} {z : Int32} (hC : rx_CC l G D (C_X7_apartFrom F) z) (x0 : Int64) (x2 : Int32) (x3 : Int32) (h : f_X7_apartFrom_0 F x0 x2 x3 = some z) : rx_S l G ("SetHouseModel", prog_9_method_15_code, 5, false, false, D) hf hf rx_rI z 0 [some (.long x0), none, some (.int x2), some (.int x3), none] [] none := by
  rw [g_X7_apartFrom_0] at h
  refine rx_S_node (md := ("SetHouseModel", prog_9_method_15_code, 5, false, false, D)) tk_X7_apartFrom hC rx_m_rI (fun t ls st u h => ?_) h
  unfold kk_X7_apartFrom_0 at h
  rcases rx_rec_eq h with ⟨hb, h⟩ | ⟨hb, h⟩
  · have ht := Nat.eq_of_beq_eq_true hb
    subst ht
    unfold n_X7_apartFrom_3 at h
    split at h
    · exact (s_X7_apartFrom_3 hC _ _ _ _ _ h).le ⟨Or.inr rfl, Or.inl rfl, Or.inr rfl, Or.inr rfl, Or.inr rfl, trivial⟩
    · cases h
  cases h
theorem cc_X7_apartFrom (F : Nat × Nat) (l : Launch) (G : rx_G) {α : Type} (z : α) : rx_CC l G (1 + 0 * F.2) (C_X7_apartFrom F) z := by
  intro j as u κ h
  unfold C_X7_apartFrom at h
  rcases rx_rec_eq h with ⟨hb, h⟩ | ⟨hb, h⟩
  · have ht := Nat.eq_of_beq_eq_true hb
    subst ht
    exact (w_X7_has F l G h).deep (by omega)
  rcases rx_rec_eq h with ⟨hb, h⟩ | ⟨hb, h⟩
  · have ht := Nat.eq_of_beq_eq_true hb
    subst ht
    exact (w_X7_ones F l G h).deep (by omega)
  cases h
theorem m_X7_apartFrom (F : Nat × Nat) (l : Launch) (G : rx_G) (hf : rx_H) (x0 : Int64) (x2 : Int32) (x3 : Int32) {z : Int32} (h : f_X7_apartFrom F x0 x2 x3 = some z) : rx_Ok l G (2 + 0 * F.2) (rx_ny 138) (.code (rx_ny 138) prog_9_method_15_code 5 (some .int)) [.long x0, .int x2, .int x3] hf (some (.int z)) hf := by
  have h := h
  unfold f_X7_apartFrom at h
  exact (rx_met (l := l) (G := G) (hf := hf) (as := [.long x0, .int x2, .int x3]) (r := (some (.int z))) (ls0 := [some (.long x0), none, some (.int x2), some (.int x3), none]) (y := rx_ny 138) (D := (1 + 0 * F.2)) (ini := false) (bo := false) (u := none) (u' := none) (by decide +kernel) (fun h => by cases h) (Nat.le_of_ble_eq_true rfl) (Or.inl ⟨rfl, rfl, _, rfl⟩) (fun Z hZ hB => rx_RT_rI hZ hB) (by exact ⟨Or.inr rfl, Or.inl rfl, Or.inr rfl, Or.inr rfl, Or.inl rfl, trivial⟩) (s_X7_apartFrom_0 (cc_X7_apartFrom F l G z) x0 x2 x3 h)).deep (by omega)
theorem w_X7_apartFrom (F : Nat × Nat) (l : Launch) (G : rx_G) {α : Type} {z : α} {as : List Value} {u : Option rx_H} {κ : rx_K α} (h : c_X7_apartFrom F as u κ = some z) : rx_Cw l G (2 + 0 * F.2) 138 as u κ z := by
  unfold c_X7_apartFrom at h
  split at h
  · obtain ⟨r, hr, h⟩ := Option.bind_eq_some_iff.mp h
    exact ⟨_, _, _, _, h, k_X7_apartFrom, fun _ => rfl, fun h => absurd rfl h, fun hf => m_X7_apartFrom F l G _ _ _ _ hr⟩
  · cases h
set_option maxRecDepth 100000 in
theorem k_X7_goes : rx_Cal (rx_ny 160) (.code (rx_ny 160) prog_9_method_27_code 7 (some .boolean)) (rx_kd 160) 5 := ⟨prog_9_method_27_code, 7, (some .boolean), Or.inl rfl, rx_in (i := 896) (by rfl) (by rfl), rx_in (i := 46) (by decide +kernel) (by decide +kernel), ⟨(by decide +kernel), (by decide +kernel), (by decide +kernel)⟩, Nat.le_of_ble_eq_true rfl, fun h => absurd h (by decide), fun _ => ⟨rx_in (i := 895) (by decide +kernel) (by decide +kernel), rx_in (i := 21) (by decide +kernel) (by decide +kernel)⟩, fun h => absurd h (by decide)⟩
set_option maxRecDepth 100000 in
theorem tk_X7_goes : (t_X7_goes.all (rx_eok "SetHouseModel" prog_9_method_27_code 7 false true) && rx_adj t_X7_goes) = true := by decide +kernel
theorem s_X7_goes_0 {F : Nat × Nat} {l : Launch} {G : rx_G} {D : Nat} {hf : rx_H} {z : Int32} (hC : rx_CC l G D (C_X7_goes F) z) (x3 : Int32) (x4 : Int32) (x5 : Int32) (x6 : Int32) (h : f_X7_goes_0 F x3 x4 x5 x6 = some z) : rx_S l G ("SetHouseModel", prog_9_method_27_code, 7, false, true, D) hf hf rx_rI z 0 [none, none, none, some (.int x3), some (.int x4), some (.int x5), some (.int x6)] [] none := by
  rw [g_X7_goes_0] at h
  refine rx_S_node (md := ("SetHouseModel", prog_9_method_27_code, 7, false, true, D)) tk_X7_goes hC rx_m_rI (fun t ls st u h => ?_) h
  unfold kk_X7_goes_0 at h
  cases h
theorem cc_X7_goes (F : Nat × Nat) (l : Launch) (G : rx_G) {α : Type} (z : α) : rx_CC l G (1 + 0 * F.2) (C_X7_goes F) z := by
  intro j as u κ h
  unfold C_X7_goes at h
  rcases rx_rec_eq h with ⟨hb, h⟩ | ⟨hb, h⟩
  · have ht := Nat.eq_of_beq_eq_true hb
    subst ht
    exact (w_X7_isWithin F l G h).deep (by omega)
  rcases rx_rec_eq h with ⟨hb, h⟩ | ⟨hb, h⟩
  · have ht := Nat.eq_of_beq_eq_true hb
    subst ht
    exact (w_X7_ones F l G h).deep (by omega)
  cases h
theorem m_X7_goes (F : Nat × Nat) (l : Launch) (G : rx_G) (hf : rx_H) (x0 : Nat) (x1 : Int64) (x3 : Int32) (x4 : Int32) (x5 : Int32) (x6 : Int32) {z : Int32} (h : f_X7_goes F x0 x1 x3 x4 x5 x6 = some z) : rx_Ok l G (2 + 0 * F.2) (rx_ny 160) (.code (rx_ny 160) prog_9_method_27_code 7 (some .boolean)) [.ref x0, .long x1, .int x3, .int x4, .int x5, .int x6] hf (some (.int z)) hf := by
  have h := h
  unfold f_X7_goes at h
  exact (rx_met (l := l) (G := G) (hf := hf) (as := [.ref x0, .long x1, .int x3, .int x4, .int x5, .int x6]) (r := (some (.int z))) (ls0 := [none, none, none, some (.int x3), some (.int x4), some (.int x5), some (.int x6)]) (y := rx_ny 160) (D := (1 + 0 * F.2)) (ini := false) (bo := true) (u := none) (u' := none) (by decide +kernel) (fun h => by cases h) (Nat.le_of_ble_eq_true rfl) (Or.inr (Or.inl ⟨rfl, rfl, _, rfl⟩)) (fun Z hZ hB => rx_RT_rI hZ hB) (by exact ⟨Or.inl rfl, Or.inl rfl, Or.inl rfl, Or.inr rfl, Or.inr rfl, Or.inr rfl, Or.inr rfl, trivial⟩) (s_X7_goes_0 (cc_X7_goes F l G z) x3 x4 x5 x6 h)).deep (by omega)
theorem w_X7_goes (F : Nat × Nat) (l : Launch) (G : rx_G) {α : Type} {z : α} {as : List Value} {u : Option rx_H} {κ : rx_K α} (h : c_X7_goes F as u κ = some z) : rx_Cw l G (2 + 0 * F.2) 160 as u κ z := by
  unfold c_X7_goes at h
  split at h
  · obtain ⟨r, hr, h⟩ := Option.bind_eq_some_iff.mp h
    exact ⟨_, _, _, _, h, k_X7_goes, fun h => absurd h (by decide), fun _ => ⟨_, _, rfl, rfl⟩, fun hf => m_X7_goes F l G _ _ _ _ _ _ _ hr⟩
  · cases h
set_option maxRecDepth 100000 in
theorem k_X7_lacking : rx_Cal (rx_ny 178) (.code (rx_ny 178) prog_9_method_29_code 2 (some .int)) (rx_kd 178) 2 := ⟨prog_9_method_29_code, 2, (some .int), Or.inl rfl, rx_in (i := 927) (by rfl) (by rfl), rx_in (i := 46) (by decide +kernel) (by decide +kernel), ⟨(by decide +kernel), (by decide +kernel), (by decide +kernel)⟩, Nat.le_of_ble_eq_true rfl, fun _ => rx_in (i := 926) (by decide +kernel) (by decide +kernel), fun h => absurd h (by decide), fun h => absurd h (by decide)⟩
set_option maxRecDepth 100000 in
theorem tk_X7_lacking : (t_X7_lacking.all (rx_eok "SetHouseModel" prog_9_method_29_code 2 false false) && rx_adj t_X7_lacking) = true := by decide +kernel
theorem s_X7_lacking_0 {F : Nat × Nat} {l : Launch} {G : rx_G} {D : Nat} {hf : rx_H} {z : Int32} (hC : rx_CC l G D (C_X7_lacking F) z) (x0 : Int32) (x1 : Int32) (h : f_X7_lacking_0 F x0 x1 = some z) : rx_S l G ("SetHouseModel", prog_9_method_29_code, 2, false, false, D) hf hf rx_rI z 0 [some (.int x0), some (.int x1)] [] none := by
  rw [g_X7_lacking_0] at h
  refine rx_S_node (md := ("SetHouseModel", prog_9_method_29_code, 2, false, false, D)) tk_X7_lacking hC rx_m_rI (fun t ls st u h => ?_) h
  unfold kk_X7_lacking_0 at h
  cases h
theorem cc_X7_lacking (F : Nat × Nat) (l : Launch) (G : rx_G) {α : Type} (z : α) : rx_CC l G (0 + 0 * F.2) (C_X7_lacking F) z := by
  intro j as u κ h
  unfold C_X7_lacking at h
  cases h
theorem m_X7_lacking (F : Nat × Nat) (l : Launch) (G : rx_G) (hf : rx_H) (x0 : Int32) (x1 : Int32) {z : Int32} (h : f_X7_lacking F x0 x1 = some z) : rx_Ok l G (1 + 0 * F.2) (rx_ny 178) (.code (rx_ny 178) prog_9_method_29_code 2 (some .int)) [.int x0, .int x1] hf (some (.int z)) hf := by
  have h := h
  unfold f_X7_lacking at h
  exact (rx_met (l := l) (G := G) (hf := hf) (as := [.int x0, .int x1]) (r := (some (.int z))) (ls0 := [some (.int x0), some (.int x1)]) (y := rx_ny 178) (D := (0 + 0 * F.2)) (ini := false) (bo := false) (u := none) (u' := none) (by decide +kernel) (fun h => by cases h) (Nat.le_of_ble_eq_true rfl) (Or.inl ⟨rfl, rfl, _, rfl⟩) (fun Z hZ hB => rx_RT_rI hZ hB) (by exact ⟨Or.inr rfl, Or.inr rfl, trivial⟩) (s_X7_lacking_0 (cc_X7_lacking F l G z) x0 x1 h)).deep (by omega)
theorem w_X7_lacking (F : Nat × Nat) (l : Launch) (G : rx_G) {α : Type} {z : α} {as : List Value} {u : Option rx_H} {κ : rx_K α} (h : c_X7_lacking F as u κ = some z) : rx_Cw l G (1 + 0 * F.2) 178 as u κ z := by
  unfold c_X7_lacking at h
  split at h
  · obtain ⟨r, hr, h⟩ := Option.bind_eq_some_iff.mp h
    exact ⟨_, _, _, _, h, k_X7_lacking, fun _ => rfl, fun h => absurd rfl h, fun hf => m_X7_lacking F l G _ _ _ hr⟩
  · cases h
set_option maxRecDepth 100000 in
theorem k_X7_factorial : rx_Cal (rx_ny 156) (.code (rx_ny 156) prog_9_method_56_code 3 (some .int)) (rx_kd 156) 1 := ⟨prog_9_method_56_code, 3, (some .int), Or.inl rfl, rx_in (i := 1010) (by rfl) (by rfl), rx_in (i := 46) (by decide +kernel) (by decide +kernel), ⟨(by decide +kernel), (by decide +kernel), (by decide +kernel)⟩, Nat.le_of_ble_eq_true rfl, fun _ => rx_in (i := 1009) (by decide +kernel) (by decide +kernel), fun h => absurd h (by decide), fun h => absurd h (by decide)⟩
set_option maxRecDepth 100000 in
theorem tk_X7_factorial : (t_X7_factorial.all (rx_eok "SetHouseModel" prog_9_method_56_code 3 false false) && rx_adj t_X7_factorial) = true := by decide +kernel
theorem s_X7_factorial_4 {F : Nat × Nat} {l : Launch} {G : rx_G} {D : Nat} {hf : rx_H} {z : Int32} (hC : rx_CC l G D (C_X7_factorial F) z) : ∀ (f : Nat) (x0 : Int32) (x1 : Int32) (x2 : Int32), f_X7_factorial_4 F f x0 x1 x2 = some z → rx_S l G ("SetHouseModel", prog_9_method_56_code, 3, false, false, D) hf hf rx_rI z 4 [some (.int x0), some (.int x1), some (.int x2)] [] none := by
  intro f
  induction f with
  | zero =>
    intro x0 x1 x2 h
    cases h
  | succ f ih =>
    intro x0 x1 x2 h
    rw [g_X7_factorial_4] at h
    refine rx_S_node (md := ("SetHouseModel", prog_9_method_56_code, 3, false, false, D)) tk_X7_factorial hC rx_m_rI (fun t ls st u h => ?_) h
    unfold kk_X7_factorial_4 at h
    rcases rx_rec_eq h with ⟨hb, h⟩ | ⟨hb, h⟩
    · have ht := Nat.eq_of_beq_eq_true hb
      subst ht
      unfold n_X7_factorial_4 at h
      split at h
      · exact (ih _ _ _ h).le ⟨Or.inr rfl, Or.inr rfl, Or.inr rfl, trivial⟩
      · cases h
    cases h
theorem s_X7_factorial_0 {F : Nat × Nat} {l : Launch} {G : rx_G} {D : Nat} {hf : rx_H} {z : Int32} (hC : rx_CC l G D (C_X7_factorial F) z) (x0 : Int32) (h : f_X7_factorial_0 F x0 = some z) : rx_S l G ("SetHouseModel", prog_9_method_56_code, 3, false, false, D) hf hf rx_rI z 0 [some (.int x0), none, none] [] none := by
  rw [g_X7_factorial_0] at h
  refine rx_S_node (md := ("SetHouseModel", prog_9_method_56_code, 3, false, false, D)) tk_X7_factorial hC rx_m_rI (fun t ls st u h => ?_) h
  unfold kk_X7_factorial_0 at h
  rcases rx_rec_eq h with ⟨hb, h⟩ | ⟨hb, h⟩
  · have ht := Nat.eq_of_beq_eq_true hb
    subst ht
    unfold n_X7_factorial_4 at h
    split at h
    · exact (s_X7_factorial_4 hC _ _ _ _ h).le ⟨Or.inr rfl, Or.inr rfl, Or.inr rfl, trivial⟩
    · cases h
  cases h
theorem cc_X7_factorial (F : Nat × Nat) (l : Launch) (G : rx_G) {α : Type} (z : α) : rx_CC l G (0 + 0 * F.2) (C_X7_factorial F) z := by
  intro j as u κ h
  unfold C_X7_factorial at h
  cases h
theorem m_X7_factorial (F : Nat × Nat) (l : Launch) (G : rx_G) (hf : rx_H) (x0 : Int32) {z : Int32} (h : f_X7_factorial F x0 = some z) : rx_Ok l G (1 + 0 * F.2) (rx_ny 156) (.code (rx_ny 156) prog_9_method_56_code 3 (some .int)) [.int x0] hf (some (.int z)) hf := by
  have h := h
  unfold f_X7_factorial at h
  exact (rx_met (l := l) (G := G) (hf := hf) (as := [.int x0]) (r := (some (.int z))) (ls0 := [some (.int x0), none, none]) (y := rx_ny 156) (D := (0 + 0 * F.2)) (ini := false) (bo := false) (u := none) (u' := none) (by decide +kernel) (fun h => by cases h) (Nat.le_of_ble_eq_true rfl) (Or.inl ⟨rfl, rfl, _, rfl⟩) (fun Z hZ hB => rx_RT_rI hZ hB) (by exact ⟨Or.inr rfl, Or.inl rfl, Or.inl rfl, trivial⟩) (s_X7_factorial_0 (cc_X7_factorial F l G z) x0 h)).deep (by omega)
theorem w_X7_factorial (F : Nat × Nat) (l : Launch) (G : rx_G) {α : Type} {z : α} {as : List Value} {u : Option rx_H} {κ : rx_K α} (h : c_X7_factorial F as u κ = some z) : rx_Cw l G (1 + 0 * F.2) 156 as u κ z := by
  unfold c_X7_factorial at h
  split at h
  · obtain ⟨r, hr, h⟩ := Option.bind_eq_some_iff.mp h
    exact ⟨_, _, _, _, h, k_X7_factorial, fun _ => rfl, fun h => absurd rfl h, fun hf => m_X7_factorial F l G _ _ hr⟩
  · cases h
set_option maxRecDepth 100000 in
theorem k_X7_choose : rx_Cal (rx_ny 143) (.code (rx_ny 143) prog_9_method_60_code 4 (some .int)) (rx_kd 143) 2 := ⟨prog_9_method_60_code, 4, (some .int), Or.inl rfl, rx_in (i := 1029) (by rfl) (by rfl), rx_in (i := 46) (by decide +kernel) (by decide +kernel), ⟨(by decide +kernel), (by decide +kernel), (by decide +kernel)⟩, Nat.le_of_ble_eq_true rfl, fun _ => rx_in (i := 1028) (by decide +kernel) (by decide +kernel), fun h => absurd h (by decide), fun h => absurd h (by decide)⟩
set_option maxRecDepth 100000 in
theorem tk_X7_choose : (t_X7_choose.all (rx_eok "SetHouseModel" prog_9_method_60_code 4 false false) && rx_adj t_X7_choose) = true := by decide +kernel
theorem s_X7_choose_32 {F : Nat × Nat} {l : Launch} {G : rx_G} {D : Nat} {hf : rx_H} {z : Int32} (hC : rx_CC l G D (C_X7_choose F) z) (x0 : Int32) (x1 : Int32) (x2 : Int32) (h : f_X7_choose_32 F x0 x1 x2 = some z) : rx_S l G ("SetHouseModel", prog_9_method_60_code, 4, false, false, D) hf hf rx_rI z 32 [some (.int x0), some (.int x1), some (.int x2), none] [] none := by
  rw [g_X7_choose_32] at h
  refine rx_S_node (md := ("SetHouseModel", prog_9_method_60_code, 4, false, false, D)) tk_X7_choose hC rx_m_rI (fun t ls st u h => ?_) h
  unfold kk_X7_choose_32 at h
  cases h
theorem s_X7_choose_4 {F : Nat × Nat} {l : Launch} {G : rx_G} {D : Nat} {hf : rx_H} {z : Int32} (hC : rx_CC l G D (C_X7_choose F) z) : ∀ (f : Nat) (x0 : Int32) (x1 : Int32) (x2 : Int32) (x3 : Int32), f_X7_choose_4 F f x0 x1 x2 x3 = some z → rx_S l G ("SetHouseModel", prog_9_method_60_code, 4, false, false, D) hf hf rx_rI z 4 [some (.int x0), some (.int x1), some (.int x2), some (.int x3)] [] none := by
  intro f
  induction f with
  | zero =>
    intro x0 x1 x2 x3 h
    cases h
  | succ f ih =>
    intro x0 x1 x2 x3 h
    rw [g_X7_choose_4] at h
    refine rx_S_node (md := ("SetHouseModel", prog_9_method_60_code, 4, false, false, D)) tk_X7_choose hC rx_m_rI (fun t ls st u h => ?_) h
    unfold kk_X7_choose_4 at h
    rcases rx_rec_eq h with ⟨hb, h⟩ | ⟨hb, h⟩
    · have ht := Nat.eq_of_beq_eq_true hb
      subst ht
      unfold n_X7_choose_4 at h
      split at h
      · exact (ih _ _ _ _ h).le ⟨Or.inr rfl, Or.inr rfl, Or.inr rfl, Or.inr rfl, trivial⟩
      · cases h
    rcases rx_rec_eq h with ⟨hb, h⟩ | ⟨hb, h⟩
    · have ht := Nat.eq_of_beq_eq_true hb
      subst ht
      unfold n_X7_choose_32 at h
      split at h
      · exact (s_X7_choose_32 hC _ _ _ h).le ⟨Or.inr rfl, Or.inr rfl, Or.inr rfl, Or.inl rfl, trivial⟩
      · cases h
    cases h
theorem s_X7_choose_0 {F : Nat × Nat} {l : Launch} {G : rx_G} {D : Nat} {hf : rx_H} {z : Int32} (hC : rx_CC l G D (C_X7_choose F) z) (x0 : Int32) (x1 : Int32) (h : f_X7_choose_0 F x0 x1 = some z) : rx_S l G ("SetHouseModel", prog_9_method_60_code, 4, false, false, D) hf hf rx_rI z 0 [some (.int x0), some (.int x1), none, none] [] none := by
  rw [g_X7_choose_0] at h
  refine rx_S_node (md := ("SetHouseModel", prog_9_method_60_code, 4, false, false, D)) tk_X7_choose hC rx_m_rI (fun t ls st u h => ?_) h
  unfold kk_X7_choose_0 at h
  rcases rx_rec_eq h with ⟨hb, h⟩ | ⟨hb, h⟩
  · have ht := Nat.eq_of_beq_eq_true hb
    subst ht
    unfold n_X7_choose_4 at h
    split at h
    · exact (s_X7_choose_4 hC _ _ _ _ _ h).le ⟨Or.inr rfl, Or.inr rfl, Or.inr rfl, Or.inr rfl, trivial⟩
    · cases h
  cases h
theorem cc_X7_choose (F : Nat × Nat) (l : Launch) (G : rx_G) {α : Type} (z : α) : rx_CC l G (0 + 0 * F.2) (C_X7_choose F) z := by
  intro j as u κ h
  unfold C_X7_choose at h
  cases h
theorem m_X7_choose (F : Nat × Nat) (l : Launch) (G : rx_G) (hf : rx_H) (x0 : Int32) (x1 : Int32) {z : Int32} (h : f_X7_choose F x0 x1 = some z) : rx_Ok l G (1 + 0 * F.2) (rx_ny 143) (.code (rx_ny 143) prog_9_method_60_code 4 (some .int)) [.int x0, .int x1] hf (some (.int z)) hf := by
  have h := h
  unfold f_X7_choose at h
  exact (rx_met (l := l) (G := G) (hf := hf) (as := [.int x0, .int x1]) (r := (some (.int z))) (ls0 := [some (.int x0), some (.int x1), none, none]) (y := rx_ny 143) (D := (0 + 0 * F.2)) (ini := false) (bo := false) (u := none) (u' := none) (by decide +kernel) (fun h => by cases h) (Nat.le_of_ble_eq_true rfl) (Or.inl ⟨rfl, rfl, _, rfl⟩) (fun Z hZ hB => rx_RT_rI hZ hB) (by exact ⟨Or.inr rfl, Or.inr rfl, Or.inl rfl, Or.inl rfl, trivial⟩) (s_X7_choose_0 (cc_X7_choose F l G z) x0 x1 h)).deep (by omega)
theorem w_X7_choose (F : Nat × Nat) (l : Launch) (G : rx_G) {α : Type} {z : α} {as : List Value} {u : Option rx_H} {κ : rx_K α} (h : c_X7_choose F as u κ = some z) : rx_Cw l G (1 + 0 * F.2) 143 as u κ z := by
  unfold c_X7_choose at h
  split at h
  · obtain ⟨r, hr, h⟩ := Option.bind_eq_some_iff.mp h
    exact ⟨_, _, _, _, h, k_X7_choose, fun _ => rfl, fun h => absurd rfl h, fun hf => m_X7_choose F l G _ _ _ hr⟩
  · cases h
set_option maxRecDepth 100000 in
theorem k_X7_greatestBelow : rx_Cal (rx_ny 162) (.code (rx_ny 162) prog_9_method_61_code 3 (some .int)) (rx_kd 162) 2 := ⟨prog_9_method_61_code, 3, (some .int), Or.inl rfl, rx_in (i := 1026) (by rfl) (by rfl), rx_in (i := 46) (by decide +kernel) (by decide +kernel), ⟨(by decide +kernel), (by decide +kernel), (by decide +kernel)⟩, Nat.le_of_ble_eq_true rfl, fun _ => rx_in (i := 1025) (by decide +kernel) (by decide +kernel), fun h => absurd h (by decide), fun h => absurd h (by decide)⟩
set_option maxRecDepth 100000 in
theorem tk_X7_greatestBelow : (t_X7_greatestBelow.all (rx_eok "SetHouseModel" prog_9_method_61_code 3 false false) && rx_adj t_X7_greatestBelow) = true := by decide +kernel
theorem s_X7_greatestBelow_2 {F : Nat × Nat} {l : Launch} {G : rx_G} {D : Nat} {hf : rx_H} {z : Int32} (hC : rx_CC l G D (C_X7_greatestBelow F) z) : ∀ (f : Nat) (x0 : Int32) (x1 : Int32) (x2 : Int32), f_X7_greatestBelow_2 F f x0 x1 x2 = some z → rx_S l G ("SetHouseModel", prog_9_method_61_code, 3, false, false, D) hf hf rx_rI z 2 [some (.int x0), some (.int x1), some (.int x2)] [] none := by
  intro f
  induction f with
  | zero =>
    intro x0 x1 x2 h
    cases h
  | succ f ih =>
    intro x0 x1 x2 h
    rw [g_X7_greatestBelow_2] at h
    refine rx_S_node (md := ("SetHouseModel", prog_9_method_61_code, 3, false, false, D)) tk_X7_greatestBelow hC rx_m_rI (fun t ls st u h => ?_) h
    unfold kk_X7_greatestBelow_2 at h
    rcases rx_rec_eq h with ⟨hb, h⟩ | ⟨hb, h⟩
    · have ht := Nat.eq_of_beq_eq_true hb
      subst ht
      unfold n_X7_greatestBelow_2 at h
      split at h
      · exact (ih _ _ _ h).le ⟨Or.inr rfl, Or.inr rfl, Or.inr rfl, trivial⟩
      · cases h
    cases h
theorem s_X7_greatestBelow_0 {F : Nat × Nat} {l : Launch} {G : rx_G} {D : Nat} {hf : rx_H} {z : Int32} (hC : rx_CC l G D (C_X7_greatestBelow F) z) (x0 : Int32) (x1 : Int32) (h : f_X7_greatestBelow_0 F x0 x1 = some z) : rx_S l G ("SetHouseModel", prog_9_method_61_code, 3, false, false, D) hf hf rx_rI z 0 [some (.int x0), some (.int x1), none] [] none := by
  rw [g_X7_greatestBelow_0] at h
  refine rx_S_node (md := ("SetHouseModel", prog_9_method_61_code, 3, false, false, D)) tk_X7_greatestBelow hC rx_m_rI (fun t ls st u h => ?_) h
  unfold kk_X7_greatestBelow_0 at h
  rcases rx_rec_eq h with ⟨hb, h⟩ | ⟨hb, h⟩
  · have ht := Nat.eq_of_beq_eq_true hb
    subst ht
    unfold n_X7_greatestBelow_2 at h
    split at h
    · exact (s_X7_greatestBelow_2 hC _ _ _ _ h).le ⟨Or.inr rfl, Or.inr rfl, Or.inr rfl, trivial⟩
    · cases h
  cases h
theorem cc_X7_greatestBelow (F : Nat × Nat) (l : Launch) (G : rx_G) {α : Type} (z : α) : rx_CC l G (1 + 0 * F.2) (C_X7_greatestBelow F) z := by
  intro j as u κ h
  unfold C_X7_greatestBelow at h
  rcases rx_rec_eq h with ⟨hb, h⟩ | ⟨hb, h⟩
  · have ht := Nat.eq_of_beq_eq_true hb
    subst ht
    exact (w_X7_choose F l G h).deep (by omega)
  cases h
theorem m_X7_greatestBelow (F : Nat × Nat) (l : Launch) (G : rx_G) (hf : rx_H) (x0 : Int32) (x1 : Int32) {z : Int32} (h : f_X7_greatestBelow F x0 x1 = some z) : rx_Ok l G (2 + 0 * F.2) (rx_ny 162) (.code (rx_ny 162) prog_9_method_61_code 3 (some .int)) [.int x0, .int x1] hf (some (.int z)) hf := by
  have h := h
  unfold f_X7_greatestBelow at h
  exact (rx_met (l := l) (G := G) (hf := hf) (as := [.int x0, .int x1]) (r := (some (.int z))) (ls0 := [some (.int x0), some (.int x1), none]) (y := rx_ny 162) (D := (1 + 0 * F.2)) (ini := false) (bo := false) (u := none) (u' := none) (by decide +kernel) (fun h => by cases h) (Nat.le_of_ble_eq_true rfl) (Or.inl ⟨rfl, rfl, _, rfl⟩) (fun Z hZ hB => rx_RT_rI hZ hB) (by exact ⟨Or.inr rfl, Or.inr rfl, Or.inl rfl, trivial⟩) (s_X7_greatestBelow_0 (cc_X7_greatestBelow F l G z) x0 x1 h)).deep (by omega)
theorem w_X7_greatestBelow (F : Nat × Nat) (l : Launch) (G : rx_G) {α : Type} {z : α} {as : List Value} {u : Option rx_H} {κ : rx_K α} (h : c_X7_greatestBelow F as u κ = some z) : rx_Cw l G (2 + 0 * F.2) 162 as u κ z := by
  unfold c_X7_greatestBelow at h
  split at h
  · obtain ⟨r, hr, h⟩ := Option.bind_eq_some_iff.mp h
    exact ⟨_, _, _, _, h, k_X7_greatestBelow, fun _ => rfl, fun h => absurd rfl h, fun hf => m_X7_greatestBelow F l G _ _ _ hr⟩
  · cases h
set_option maxRecDepth 100000 in
theorem k_X7_cascade : rx_Cal (rx_ny 140) (.code (rx_ny 140) prog_9_method_62_code 7 (some .int)) (rx_kd 140) 3 := ⟨prog_9_method_62_code, 7, (some .int), Or.inl rfl, rx_in (i := 1023) (by rfl) (by rfl), rx_in (i := 46) (by decide +kernel) (by decide +kernel), ⟨(by decide +kernel), (by decide +kernel), (by decide +kernel)⟩, Nat.le_of_ble_eq_true rfl, fun h => absurd h (by decide), fun _ => ⟨rx_in (i := 1021) (by decide +kernel) (by decide +kernel), rx_in (i := 1022) (by decide +kernel) (by decide +kernel)⟩, fun h => absurd h (by decide)⟩
set_option maxRecDepth 100000 in
theorem tk_X7_cascade : (t_X7_cascade.all (rx_eok "SetHouseModel" prog_9_method_62_code 7 false false) && rx_adj t_X7_cascade) = true := by decide +kernel
theorem s_X7_cascade_33 {F : Nat × Nat} {l : Launch} {G : rx_G} {D : Nat} {hf : rx_H} {z : Int32} (hC : rx_CC l G D (C_X7_cascade F) z) : ∀ (f : Nat) (x2 : Int32) (x3 : Int32) (x4 : Int32) (x5 : Int32), f_X7_cascade_33 F f x2 x3 x4 x5 = some z → rx_S l G ("SetHouseModel", prog_9_method_62_code, 7, false, false, D) hf hf rx_rI z 33 [none, none, some (.int x2), some (.int x3), some (.int x4), some (.int x5), none] [] none := by
  intro f
  induction f with
  | zero =>
    intro x2 x3 x4 x5 h
    cases h
  | succ f ih =>
    intro x2 x3 x4 x5 h
    rw [g_X7_cascade_33] at h
    refine rx_S_node (md := ("SetHouseModel", prog_9_method_62_code, 7, false, false, D)) tk_X7_cascade hC rx_m_rI (fun t ls st u h => ?_) h
    unfold kk_X7_cascade_33 at h
    rcases rx_rec_eq h with ⟨hb, h⟩ | ⟨hb, h⟩
    · have ht := Nat.eq_of_beq_eq_true hb
      subst ht
      unfold n_X7_cascade_33 at h
      split at h
      · exact (ih _ _ _ _ h).le ⟨Or.inl rfl, Or.inl rfl, Or.inr rfl, Or.inr rfl, Or.inr rfl, Or.inr rfl, Or.inl rfl, trivial⟩
      · cases h
    cases h
theorem s_X7_cascade_0 {F : Nat × Nat} {l : Launch} {G : rx_G} {D : Nat} {hf : rx_H} {z : Int32} (hC : rx_CC l G D (C_X7_cascade F) z) (x1 : Int32) (x2 : Int32) (x3 : Int32) (h : f_X7_cascade_0 F x1 x2 x3 = some z) : rx_S l G ("SetHouseModel", prog_9_method_62_code, 7, false, false, D) hf hf rx_rI z 0 [none, some (.int x1), some (.int x2), some (.int x3), none, none, none] [] none := by
  rw [g_X7_cascade_0] at h
  refine rx_S_node (md := ("SetHouseModel", prog_9_method_62_code, 7, false, false, D)) tk_X7_cascade hC rx_m_rI (fun t ls st u h => ?_) h
  unfold kk_X7_cascade_0 at h
  rcases rx_rec_eq h with ⟨hb, h⟩ | ⟨hb, h⟩
  · have ht := Nat.eq_of_beq_eq_true hb
    subst ht
    unfold n_X7_cascade_33 at h
    split at h
    · exact (s_X7_cascade_33 hC _ _ _ _ _ h).le ⟨Or.inl rfl, Or.inl rfl, Or.inr rfl, Or.inr rfl, Or.inr rfl, Or.inr rfl, Or.inl rfl, trivial⟩
    · cases h
  cases h
theorem cc_X7_cascade (F : Nat × Nat) (l : Launch) (G : rx_G) {α : Type} (z : α) : rx_CC l G (2 + 0 * F.2) (C_X7_cascade F) z := by
  intro j as u κ h
  unfold C_X7_cascade at h
  rcases rx_rec_eq h with ⟨hb, h⟩ | ⟨hb, h⟩
  · have ht := Nat.eq_of_beq_eq_true hb
    subst ht
    exact (w_X7_choose F l G h).deep (by omega)
  rcases rx_rec_eq h with ⟨hb, h⟩ | ⟨hb, h⟩
  · have ht := Nat.eq_of_beq_eq_true hb
    subst ht
    exact (w_X7_greatestBelow F l G h).deep (by omega)
  rcases rx_rec_eq h with ⟨hb, h⟩ | ⟨hb, h⟩
  · have ht := Nat.eq_of_beq_eq_true hb
    subst ht
    exact (w_X7_isIn F l G h).deep (by omega)
  cases h
theorem m_X7_cascade (F : Nat × Nat) (l : Launch) (G : rx_G) (hf : rx_H) (x0 : Nat) (x1 : Int32) (x2 : Int32) (x3 : Int32) {z : Int32} (h : f_X7_cascade F x0 x1 x2 x3 = some z) : rx_Ok l G (3 + 0 * F.2) (rx_ny 140) (.code (rx_ny 140) prog_9_method_62_code 7 (some .int)) [.ref x0, .int x1, .int x2, .int x3] hf (some (.int z)) hf := by
  have h := h
  unfold f_X7_cascade at h
  exact (rx_met (l := l) (G := G) (hf := hf) (as := [.ref x0, .int x1, .int x2, .int x3]) (r := (some (.int z))) (ls0 := [none, some (.int x1), some (.int x2), some (.int x3), none, none, none]) (y := rx_ny 140) (D := (2 + 0 * F.2)) (ini := false) (bo := false) (u := none) (u' := none) (by decide +kernel) (fun h => by cases h) (Nat.le_of_ble_eq_true rfl) (Or.inl ⟨rfl, rfl, _, rfl⟩) (fun Z hZ hB => rx_RT_rI hZ hB) (by exact ⟨Or.inl rfl, Or.inr rfl, Or.inr rfl, Or.inr rfl, Or.inl rfl, Or.inl rfl, Or.inl rfl, trivial⟩) (s_X7_cascade_0 (cc_X7_cascade F l G z) x1 x2 x3 h)).deep (by omega)
theorem w_X7_cascade (F : Nat × Nat) (l : Launch) (G : rx_G) {α : Type} {z : α} {as : List Value} {u : Option rx_H} {κ : rx_K α} (h : c_X7_cascade F as u κ = some z) : rx_Cw l G (3 + 0 * F.2) 140 as u κ z := by
  unfold c_X7_cascade at h
  split at h
  · obtain ⟨r, hr, h⟩ := Option.bind_eq_some_iff.mp h
    exact ⟨_, _, _, _, h, k_X7_cascade, fun h => absurd h (by decide), fun _ => ⟨_, _, rfl, rfl⟩, fun hf => m_X7_cascade F l G _ _ _ _ _ hr⟩
  · cases h
set_option maxRecDepth 100000 in
theorem k_X7_chooseAll : rx_Cal (rx_ny 144) (.code (rx_ny 144) prog_9_method_64_code 5 (some .int)) (rx_kd 144) 2 := ⟨prog_9_method_64_code, 5, (some .int), Or.inl rfl, rx_in (i := 1036) (by rfl) (by rfl), rx_in (i := 46) (by decide +kernel) (by decide +kernel), ⟨(by decide +kernel), (by decide +kernel), (by decide +kernel)⟩, Nat.le_of_ble_eq_true rfl, fun _ => rx_in (i := 1035) (by decide +kernel) (by decide +kernel), fun h => absurd h (by decide), fun h => absurd h (by decide)⟩
set_option maxRecDepth 100000 in
theorem tk_X7_chooseAll : (t_X7_chooseAll.all (rx_eok "SetHouseModel" prog_9_method_64_code 5 false false) && rx_adj t_X7_chooseAll) = true := by decide +kernel
theorem s_X7_chooseAll_5 {F : Nat × Nat} {l : Launch} {G : rx_G} {D : Nat} {hf : rx_H} {z : Int32} (hC : rx_CC l G D (C_X7_chooseAll F) z) : ∀ (f : Nat) (x0 : Int32) (x1 : Int32) (x2 : Int64) (x4 : Int32), f_X7_chooseAll_5 F f x0 x1 x2 x4 = some z → rx_S l G ("SetHouseModel", prog_9_method_64_code, 5, false, false, D) hf hf rx_rI z 5 [some (.int x0), some (.int x1), some (.long x2), none, some (.int x4)] [] none := by
  intro f
  induction f with
  | zero =>
    intro x0 x1 x2 x4 h
    cases h
  | succ f ih =>
    intro x0 x1 x2 x4 h
    rw [g_X7_chooseAll_5] at h
    refine rx_S_node (md := ("SetHouseModel", prog_9_method_64_code, 5, false, false, D)) tk_X7_chooseAll hC rx_m_rI (fun t ls st u h => ?_) h
    unfold kk_X7_chooseAll_5 at h
    rcases rx_rec_eq h with ⟨hb, h⟩ | ⟨hb, h⟩
    · have ht := Nat.eq_of_beq_eq_true hb
      subst ht
      unfold n_X7_chooseAll_5 at h
      split at h
      · exact (ih _ _ _ _ h).le ⟨Or.inr rfl, Or.inr rfl, Or.inr rfl, Or.inl rfl, Or.inr rfl, trivial⟩
      · cases h
    cases h
theorem s_X7_chooseAll_0 {F : Nat × Nat} {l : Launch} {G : rx_G} {D : Nat} {hf : rx_H} {z : Int32} (hC : rx_CC l G D (C_X7_chooseAll F) z) (x0 : Int32) (x1 : Int32) (h : f_X7_chooseAll_0 F x0 x1 = some z) : rx_S l G ("SetHouseModel", prog_9_method_64_code, 5, false, false, D) hf hf rx_rI z 0 [some (.int x0), some (.int x1), none, none, none] [] none := by
  rw [g_X7_chooseAll_0] at h
  refine rx_S_node (md := ("SetHouseModel", prog_9_method_64_code, 5, false, false, D)) tk_X7_chooseAll hC rx_m_rI (fun t ls st u h => ?_) h
  unfold kk_X7_chooseAll_0 at h
  rcases rx_rec_eq h with ⟨hb, h⟩ | ⟨hb, h⟩
  · have ht := Nat.eq_of_beq_eq_true hb
    subst ht
    unfold n_X7_chooseAll_5 at h
    split at h
    · exact (s_X7_chooseAll_5 hC _ _ _ _ _ h).le ⟨Or.inr rfl, Or.inr rfl, Or.inr rfl, Or.inl rfl, Or.inr rfl, trivial⟩
    · cases h
  cases h
theorem cc_X7_chooseAll (F : Nat × Nat) (l : Launch) (G : rx_G) {α : Type} (z : α) : rx_CC l G (0 + 0 * F.2) (C_X7_chooseAll F) z := by
  intro j as u κ h
  unfold C_X7_chooseAll at h
  cases h
theorem m_X7_chooseAll (F : Nat × Nat) (l : Launch) (G : rx_G) (hf : rx_H) (x0 : Int32) (x1 : Int32) {z : Int32} (h : f_X7_chooseAll F x0 x1 = some z) : rx_Ok l G (1 + 0 * F.2) (rx_ny 144) (.code (rx_ny 144) prog_9_method_64_code 5 (some .int)) [.int x0, .int x1] hf (some (.int z)) hf := by
  have h := h
  unfold f_X7_chooseAll at h
  exact (rx_met (l := l) (G := G) (hf := hf) (as := [.int x0, .int x1]) (r := (some (.int z))) (ls0 := [some (.int x0), some (.int x1), none, none, none]) (y := rx_ny 144) (D := (0 + 0 * F.2)) (ini := false) (bo := false) (u := none) (u' := none) (by decide +kernel) (fun h => by cases h) (Nat.le_of_ble_eq_true rfl) (Or.inl ⟨rfl, rfl, _, rfl⟩) (fun Z hZ hB => rx_RT_rI hZ hB) (by exact ⟨Or.inr rfl, Or.inr rfl, Or.inl rfl, Or.inl rfl, Or.inl rfl, trivial⟩) (s_X7_chooseAll_0 (cc_X7_chooseAll F l G z) x0 x1 h)).deep (by omega)
theorem w_X7_chooseAll (F : Nat × Nat) (l : Launch) (G : rx_G) {α : Type} {z : α} {as : List Value} {u : Option rx_H} {κ : rx_K α} (h : c_X7_chooseAll F as u κ = some z) : rx_Cw l G (1 + 0 * F.2) 144 as u κ z := by
  unfold c_X7_chooseAll at h
  split at h
  · obtain ⟨r, hr, h⟩ := Option.bind_eq_some_iff.mp h
    exact ⟨_, _, _, _, h, k_X7_chooseAll, fun _ => rfl, fun h => absurd rfl h, fun hf => m_X7_chooseAll F l G _ _ _ hr⟩
  · cases h
set_option maxRecDepth 100000 in
theorem k_X7_least : rx_Cal (rx_ny 180) (.code (rx_ny 180) prog_9_method_63_code 7 (some .int)) (rx_kd 180) 2 := ⟨prog_9_method_63_code, 7, (some .int), Or.inl rfl, rx_in (i := 1033) (by rfl) (by rfl), rx_in (i := 46) (by decide +kernel) (by decide +kernel), ⟨(by decide +kernel), (by decide +kernel), (by decide +kernel)⟩, Nat.le_of_ble_eq_true rfl, fun h => absurd h (by decide), fun _ => ⟨rx_in (i := 1031) (by decide +kernel) (by decide +kernel), rx_in (i := 1032) (by decide +kernel) (by decide +kernel)⟩, fun h => absurd h (by decide)⟩
set_option maxRecDepth 100000 in
theorem tk_X7_least : (t_X7_least.all (rx_eok "SetHouseModel" prog_9_method_63_code 7 false false) && rx_adj t_X7_least) = true := by decide +kernel
theorem s_X7_least_31 {F : Nat × Nat} {l : Launch} {G : rx_G} {D : Nat} {hf : rx_H} {z : Int32} (hC : rx_CC l G D (C_X7_least F) z) : ∀ (f : Nat) (x3 : Int32) (x4 : Int32) (x5 : Int32), f_X7_least_31 F f x3 x4 x5 = some z → rx_S l G ("SetHouseModel", prog_9_method_63_code, 7, false, false, D) hf hf rx_rI z 31 [none, none, none, some (.int x3), some (.int x4), some (.int x5), none] [] none := by
  intro f
  induction f with
  | zero =>
    intro x3 x4 x5 h
    cases h
  | succ f ih =>
    intro x3 x4 x5 h
    rw [g_X7_least_31] at h
    refine rx_S_node (md := ("SetHouseModel", prog_9_method_63_code, 7, false, false, D)) tk_X7_least hC rx_m_rI (fun t ls st u h => ?_) h
    unfold kk_X7_least_31 at h
    rcases rx_rec_eq h with ⟨hb, h⟩ | ⟨hb, h⟩
    · have ht := Nat.eq_of_beq_eq_true hb
      subst ht
      unfold n_X7_least_31 at h
      split at h
      · exact (ih _ _ _ h).le ⟨Or.inl rfl, Or.inl rfl, Or.inl rfl, Or.inr rfl, Or.inr rfl, Or.inr rfl, Or.inl rfl, trivial⟩
      · cases h
    cases h
theorem s_X7_least_0 {F : Nat × Nat} {l : Launch} {G : rx_G} {D : Nat} {hf : rx_H} {z : Int32} (hC : rx_CC l G D (C_X7_least F) z) (x1 : Int32) (x2 : Int32) (h : f_X7_least_0 F x1 x2 = some z) : rx_S l G ("SetHouseModel", prog_9_method_63_code, 7, false, false, D) hf hf rx_rI z 0 [none, some (.int x1), some (.int x2), none, none, none, none] [] none := by
  rw [g_X7_least_0] at h
  refine rx_S_node (md := ("SetHouseModel", prog_9_method_63_code, 7, false, false, D)) tk_X7_least hC rx_m_rI (fun t ls st u h => ?_) h
  unfold kk_X7_least_0 at h
  rcases rx_rec_eq h with ⟨hb, h⟩ | ⟨hb, h⟩
  · have ht := Nat.eq_of_beq_eq_true hb
    subst ht
    unfold n_X7_least_31 at h
    split at h
    · exact (s_X7_least_31 hC _ _ _ _ h).le ⟨Or.inl rfl, Or.inl rfl, Or.inl rfl, Or.inr rfl, Or.inr rfl, Or.inr rfl, Or.inl rfl, trivial⟩
    · cases h
  cases h
theorem cc_X7_least (F : Nat × Nat) (l : Launch) (G : rx_G) {α : Type} (z : α) : rx_CC l G (2 + 0 * F.2) (C_X7_least F) z := by
  intro j as u κ h
  unfold C_X7_least at h
  rcases rx_rec_eq h with ⟨hb, h⟩ | ⟨hb, h⟩
  · have ht := Nat.eq_of_beq_eq_true hb
    subst ht
    exact (w_X7_choose F l G h).deep (by omega)
  rcases rx_rec_eq h with ⟨hb, h⟩ | ⟨hb, h⟩
  · have ht := Nat.eq_of_beq_eq_true hb
    subst ht
    exact (w_X7_chooseAll F l G h).deep (by omega)
  rcases rx_rec_eq h with ⟨hb, h⟩ | ⟨hb, h⟩
  · have ht := Nat.eq_of_beq_eq_true hb
    subst ht
    exact (w_X7_greatestBelow F l G h).deep (by omega)
  rcases rx_rec_eq h with ⟨hb, h⟩ | ⟨hb, h⟩
  · have ht := Nat.eq_of_beq_eq_true hb
    subst ht
    exact (w_X7_isIn F l G h).deep (by omega)
  cases h
theorem m_X7_least (F : Nat × Nat) (l : Launch) (G : rx_G) (hf : rx_H) (x0 : Nat) (x1 : Int32) (x2 : Int32) {z : Int32} (h : f_X7_least F x0 x1 x2 = some z) : rx_Ok l G (3 + 0 * F.2) (rx_ny 180) (.code (rx_ny 180) prog_9_method_63_code 7 (some .int)) [.ref x0, .int x1, .int x2] hf (some (.int z)) hf := by
  have h := h
  unfold f_X7_least at h
  exact (rx_met (l := l) (G := G) (hf := hf) (as := [.ref x0, .int x1, .int x2]) (r := (some (.int z))) (ls0 := [none, some (.int x1), some (.int x2), none, none, none, none]) (y := rx_ny 180) (D := (2 + 0 * F.2)) (ini := false) (bo := false) (u := none) (u' := none) (by decide +kernel) (fun h => by cases h) (Nat.le_of_ble_eq_true rfl) (Or.inl ⟨rfl, rfl, _, rfl⟩) (fun Z hZ hB => rx_RT_rI hZ hB) (by exact ⟨Or.inl rfl, Or.inr rfl, Or.inr rfl, Or.inl rfl, Or.inl rfl, Or.inl rfl, Or.inl rfl, trivial⟩) (s_X7_least_0 (cc_X7_least F l G z) x1 x2 h)).deep (by omega)
theorem w_X7_least (F : Nat × Nat) (l : Launch) (G : rx_G) {α : Type} {z : α} {as : List Value} {u : Option rx_H} {κ : rx_K α} (h : c_X7_least F as u κ = some z) : rx_Cw l G (3 + 0 * F.2) 180 as u κ z := by
  unfold c_X7_least at h
  split at h
  · obtain ⟨r, hr, h⟩ := Option.bind_eq_some_iff.mp h
    exact ⟨_, _, _, _, h, k_X7_least, fun h => absurd h (by decide), fun _ => ⟨_, _, rfl, rfl⟩, fun hf => m_X7_least F l G _ _ _ _ hr⟩
  · cases h
set_option maxRecDepth 100000 in
theorem k_X7_power : rx_Cal (rx_ny 192) (.code (rx_ny 192) prog_9_method_68_code 5 (some .long)) (rx_kd 192) 2 := ⟨prog_9_method_68_code, 5, (some .long), Or.inl rfl, rx_in (i := 1055) (by rfl) (by rfl), rx_in (i := 46) (by decide +kernel) (by decide +kernel), ⟨(by decide +kernel), (by decide +kernel), (by decide +kernel)⟩, Nat.le_of_ble_eq_true rfl, fun _ => rx_in (i := 1054) (by decide +kernel) (by decide +kernel), fun h => absurd h (by decide), fun h => absurd h (by decide)⟩
set_option maxRecDepth 100000 in
theorem tk_X7_power : (t_X7_power.all (rx_eok "SetHouseModel" prog_9_method_68_code 5 false false) && rx_adj t_X7_power) = true := by decide +kernel
theorem s_X7_power_5 {F : Nat × Nat} {l : Launch} {G : rx_G} {D : Nat} {hf : rx_H} {z : Int64} (hC : rx_CC l G D (C_X7_power F) z) : ∀ (f : Nat) (x0 : Int32) (x1 : Int32) (x2 : Int64) (x4 : Int32), f_X7_power_5 F f x0 x1 x2 x4 = some z → rx_S l G ("SetHouseModel", prog_9_method_68_code, 5, false, false, D) hf hf rx_rJ z 5 [some (.int x0), some (.int x1), some (.long x2), none, some (.int x4)] [] none := by
  intro f
  induction f with
  | zero =>
    intro x0 x1 x2 x4 h
    cases h
  | succ f ih =>
    intro x0 x1 x2 x4 h
    rw [g_X7_power_5] at h
    refine rx_S_node (md := ("SetHouseModel", prog_9_method_68_code, 5, false, false, D)) tk_X7_power hC rx_m_rJ (fun t ls st u h => ?_) h
    unfold kk_X7_power_5 at h
    rcases rx_rec_eq h with ⟨hb, h⟩ | ⟨hb, h⟩
    · have ht := Nat.eq_of_beq_eq_true hb
      subst ht
      unfold n_X7_power_5 at h
      split at h
      · exact (ih _ _ _ _ h).le ⟨Or.inr rfl, Or.inr rfl, Or.inr rfl, Or.inl rfl, Or.inr rfl, trivial⟩
      · cases h
    cases h
theorem s_X7_power_0 {F : Nat × Nat} {l : Launch} {G : rx_G} {D : Nat} {hf : rx_H} {z : Int64} (hC : rx_CC l G D (C_X7_power F) z) (x0 : Int32) (x1 : Int32) (h : f_X7_power_0 F x0 x1 = some z) : rx_S l G ("SetHouseModel", prog_9_method_68_code, 5, false, false, D) hf hf rx_rJ z 0 [some (.int x0), some (.int x1), none, none, none] [] none := by
  rw [g_X7_power_0] at h
  refine rx_S_node (md := ("SetHouseModel", prog_9_method_68_code, 5, false, false, D)) tk_X7_power hC rx_m_rJ (fun t ls st u h => ?_) h
  unfold kk_X7_power_0 at h
  rcases rx_rec_eq h with ⟨hb, h⟩ | ⟨hb, h⟩
  · have ht := Nat.eq_of_beq_eq_true hb
    subst ht
    unfold n_X7_power_5 at h
    split at h
    · exact (s_X7_power_5 hC _ _ _ _ _ h).le ⟨Or.inr rfl, Or.inr rfl, Or.inr rfl, Or.inl rfl, Or.inr rfl, trivial⟩
    · cases h
  cases h
theorem cc_X7_power (F : Nat × Nat) (l : Launch) (G : rx_G) {α : Type} (z : α) : rx_CC l G (0 + 0 * F.2) (C_X7_power F) z := by
  intro j as u κ h
  unfold C_X7_power at h
  cases h
theorem m_X7_power (F : Nat × Nat) (l : Launch) (G : rx_G) (hf : rx_H) (x0 : Int32) (x1 : Int32) {z : Int64} (h : f_X7_power F x0 x1 = some z) : rx_Ok l G (1 + 0 * F.2) (rx_ny 192) (.code (rx_ny 192) prog_9_method_68_code 5 (some .long)) [.int x0, .int x1] hf (some (.long z)) hf := by
  have h := h
  unfold f_X7_power at h
  exact (rx_met (l := l) (G := G) (hf := hf) (as := [.int x0, .int x1]) (r := (some (.long z))) (ls0 := [some (.int x0), some (.int x1), none, none, none]) (y := rx_ny 192) (D := (0 + 0 * F.2)) (ini := false) (bo := false) (u := none) (u' := none) (by decide +kernel) (fun h => by cases h) (Nat.le_of_ble_eq_true rfl) (Or.inr (Or.inr (Or.inl ⟨rfl, _, rfl⟩))) (fun Z hZ hB => rx_RT_rJ hZ hB) (by exact ⟨Or.inr rfl, Or.inr rfl, Or.inl rfl, Or.inl rfl, Or.inl rfl, trivial⟩) (s_X7_power_0 (cc_X7_power F l G z) x0 x1 h)).deep (by omega)
theorem w_X7_power (F : Nat × Nat) (l : Launch) (G : rx_G) {α : Type} {z : α} {as : List Value} {u : Option rx_H} {κ : rx_K α} (h : c_X7_power F as u κ = some z) : rx_Cw l G (1 + 0 * F.2) 192 as u κ z := by
  unfold c_X7_power at h
  split at h
  · obtain ⟨r, hr, h⟩ := Option.bind_eq_some_iff.mp h
    exact ⟨_, _, _, _, h, k_X7_power, fun _ => rfl, fun h => absurd rfl h, fun hf => m_X7_power F l G _ _ _ hr⟩
  · cases h
