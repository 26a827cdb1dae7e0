set_option maxRecDepth 100000 in
theorem k_X7_thrown : rx_Cal (rx_ny 214) (.code (rx_ny 214) prog_9_method_1_code 1 (some .int)) (rx_kd 214) 0 := ⟨prog_9_method_1_code, 1, (some .int), Or.inl rfl, rx_in (i := 746) (by rfl) (by rfl), rx_in (i := 46) (by decide +kernel) (by decide +kernel), ⟨(by decide +kernel), (by decide +kernel), (by decide +kernel)⟩, Nat.le_of_ble_eq_true rfl, fun h => absurd h (by decide), fun _ => ⟨rx_in (i := 744) (by decide +kernel) (by decide +kernel), rx_in (i := 745) (by decide +kernel) (by decide +kernel)⟩, fun h => absurd h (by decide)⟩
set_option maxRecDepth 100000 in
theorem tk_X7_thrown : (t_X7_thrown.all (rx_eok "SetHouseModel" prog_9_method_1_code 1 false false) && rx_adj t_X7_thrown) = true := by decide +kernel
theorem s_X7_thrown_0 {F : Nat × Nat} {l : Launch} {G : rx_G} {D : Nat} {hf : rx_H} {z : (Int32 × Option rx_H)} (hC : rx_CC l G D (C_X7_thrown F) z) (x0 : Nat) (u : Option rx_H) (h : f_X7_thrown_0 F x0 u = some z) : rx_S l G ("SetHouseModel", prog_9_method_1_code, 1, false, false, D) hf (z.2.getD hf) rx_hI z 0 [some (.ref x0)] [] u := by
  rw [g_X7_thrown_0] at h
  refine rx_S_node (md := ("SetHouseModel", prog_9_method_1_code, 1, false, false, D)) tk_X7_thrown hC rx_m_hI (fun t ls st u h => ?_) h
  unfold kk_X7_thrown_0 at h
  cases h
theorem cc_X7_thrown (F : Nat × Nat) (l : Launch) (G : rx_G) {α : Type} (z : α) : rx_CC l G (0 + 0 * F.2) (C_X7_thrown F) z := by
  intro j as u κ h
  unfold C_X7_thrown at h
  cases h
theorem m_X7_thrown (F : Nat × Nat) (l : Launch) (G : rx_G) (hf : rx_H) (x0 : Nat) (u : Option rx_H) {z : (Int32 × Option rx_H)} (h : f_X7_thrown F x0 u = some z) : rx_Ok l G (1 + 0 * F.2) (rx_ny 214) (.code (rx_ny 214) prog_9_method_1_code 1 (some .int)) [.ref x0] (u.getD hf) (some (.int z.1)) (z.2.getD hf) := by
  have h := h
  unfold f_X7_thrown at h
  exact (rx_met (l := l) (G := G) (hf := hf) (as := [.ref x0]) (r := (some (.int z.1))) (ls0 := [some (.ref x0)]) (y := rx_ny 214) (D := (0 + 0 * F.2)) (ini := false) (bo := false) (u := u) (u' := z.2) (by decide +kernel) (fun h => by cases h) (Nat.le_of_ble_eq_true rfl) (Or.inl ⟨rfl, rfl, _, rfl⟩) (fun Z hZ hB => rx_RT_hI hZ hB) (by exact ⟨Or.inr rfl, trivial⟩) (s_X7_thrown_0 (cc_X7_thrown F l G z) x0 u h)).deep (by omega)
theorem w_X7_thrown (F : Nat × Nat) (l : Launch) (G : rx_G) {α : Type} {z : α} {as : List Value} {u : Option rx_H} {κ : rx_K α} (h : c_X7_thrown F as u κ = some z) : rx_Cw l G (1 + 0 * F.2) 214 as u κ z := by
  unfold c_X7_thrown at h
  split at h
  · obtain ⟨r, hr, h⟩ := Option.bind_eq_some_iff.mp h
    exact ⟨_, _, _, _, h, k_X7_thrown, fun h => absurd h (by decide), fun _ => ⟨_, _, rfl, rfl⟩, fun hf => m_X7_thrown F l G hf _ _ hr⟩
  · cases h
set_option maxRecDepth 100000 in
theorem k_X7_init : rx_Cal (rx_ny 169) (.code (rx_ny 169) prog_9_method_3_code 3 none) (rx_kd 169) 1 := ⟨prog_9_method_3_code, 3, none, Or.inl rfl, rx_in (i := 751) (by rfl) (by rfl), rx_in (i := 46) (by decide +kernel) (by decide +kernel), ⟨(by decide +kernel), (by decide +kernel), (by decide +kernel)⟩, Nat.le_of_ble_eq_true rfl, fun h => absurd h (by decide), fun h => absurd h (by decide), fun _ => ⟨(by decide +kernel), rx_in (i := 750) (by decide +kernel) (by decide +kernel), rfl⟩⟩
set_option maxRecDepth 100000 in
theorem tk_X7_init : (t_X7_init.all (rx_eok "SetHouseModel" prog_9_method_3_code 3 true false) && rx_adj t_X7_init) = true := by decide +kernel
theorem s_X7_init_114 {F : Nat × Nat} {l : Launch} {G : rx_G} {D : Nat} {hf : rx_H} {z : (Option rx_H)} (hC : rx_CC l G D (C_X7_init F) z) : ∀ (f : Nat) (x0 : Nat) (x2 : Int32) (u : Option rx_H), f_X7_init_114 F f x0 x2 u = some z → rx_S l G ("SetHouseModel", prog_9_method_3_code, 3, true, false, D) hf (z.getD hf) rx_hV z 114 [some (.ref x0), none, some (.int x2)] [] u := by
  intro f
  induction f with
  | zero =>
    intro x0 x2 u h
    cases h
  | succ f ih =>
    intro x0 x2 u h
    rw [g_X7_init_114] at h
    refine rx_S_node (md := ("SetHouseModel", prog_9_method_3_code, 3, true, false, D)) tk_X7_init hC rx_m_hV (fun t ls st u h => ?_) h
    unfold kk_X7_init_114 at h
    rcases rx_rec_eq h with ⟨hb, h⟩ | ⟨hb, h⟩
    · have ht := Nat.eq_of_beq_eq_true hb
      subst ht
      unfold n_X7_init_114 at h
      split at h
      · exact (ih _ _ _ h).le ⟨Or.inr rfl, Or.inl rfl, Or.inr rfl, trivial⟩
      · cases h
    cases h
theorem s_X7_init_0 {F : Nat × Nat} {l : Launch} {G : rx_G} {D : Nat} {hf : rx_H} {z : (Option rx_H)} (hC : rx_CC l G D (C_X7_init F) z) (x0 : Nat) (x1 : Int32) (u : Option rx_H) (h : f_X7_init_0 F x0 x1 u = some z) : rx_S l G ("SetHouseModel", prog_9_method_3_code, 3, true, false, D) hf (z.getD hf) rx_hV z 0 [some (.ref x0), some (.int x1), none] [] u := by
  rw [g_X7_init_0] at h
  refine rx_S_node (md := ("SetHouseModel", prog_9_method_3_code, 3, true, false, D)) tk_X7_init hC rx_m_hV (fun t ls st u h => ?_) h
  unfold kk_X7_init_0 at h
  rcases rx_rec_eq h with ⟨hb, h⟩ | ⟨hb, h⟩
  · have ht := Nat.eq_of_beq_eq_true hb
    subst ht
    unfold n_X7_init_114 at h
    split at h
    · exact (s_X7_init_114 hC _ _ _ _ h).le ⟨Or.inr rfl, Or.inl rfl, Or.inr rfl, trivial⟩
    · cases h
  cases h
theorem cc_X7_init (F : Nat × Nat) (l : Launch) (G : rx_G) {α : Type} (z : α) : rx_CC l G (0 + 0 * F.2) (C_X7_init F) z := by
  intro j as u κ h
  unfold C_X7_init at h
  cases h
theorem m_X7_init (F : Nat × Nat) (l : Launch) (G : rx_G) (hf : rx_H) (x0 : Nat) (x1 : Int32) (u : Option rx_H) {z : (Option rx_H)} (h : f_X7_init F x0 x1 u = some z) : rx_Ok l G (1 + 0 * F.2) (rx_ny 169) (.code (rx_ny 169) prog_9_method_3_code 3 none) [.ref x0, .int x1] (u.getD hf) none (z.getD hf) := by
  have h := h
  unfold f_X7_init at h
  exact (rx_met (l := l) (G := G) (hf := hf) (as := [.ref x0, .int x1]) (r := none) (ls0 := [some (.ref x0), some (.int x1), none]) (y := rx_ny 169) (D := (0 + 0 * F.2)) (ini := true) (bo := false) (u := u) (u' := z) (by decide +kernel) (fun _ => by decide +kernel) (Nat.le_of_ble_eq_true rfl) (Or.inr (Or.inr (Or.inr ⟨rfl, rfl⟩))) (fun Z hZ hB => rx_RT_hV hZ hB) (by exact ⟨Or.inr rfl, Or.inr rfl, Or.inl rfl, trivial⟩) (s_X7_init_0 (cc_X7_init F l G z) x0 x1 u h)).deep (by omega)
theorem w_X7_init (F : Nat × Nat) (l : Launch) (G : rx_G) {α : Type} {z : α} {as : List Value} {u : Option rx_H} {κ : rx_K α} (h : c_X7_init F as u κ = some z) : rx_Cw l G (1 + 0 * F.2) 169 as u κ z := by
  unfold c_X7_init at h
  split at h
  · obtain ⟨r, hr, h⟩ := Option.bind_eq_some_iff.mp h
    exact ⟨_, _, _, _, h, k_X7_init, fun h => absurd h (by decide), fun _ => ⟨_, _, rfl, rfl⟩, fun hf => m_X7_init F l G hf _ _ _ hr⟩
  · cases h
set_option maxRecDepth 100000 in
theorem k_X7_isSet : rx_Cal (rx_ny 174) (.code (rx_ny 174) prog_9_method_7_code 2 (some .boolean)) (rx_kd 174) 1 := ⟨prog_9_method_7_code, 2, (some .boolean), Or.inl rfl, rx_in (i := 835) (by rfl) (by rfl), rx_in (i := 46) (by decide +kernel) (by decide +kernel), ⟨(by decide +kernel), (by decide +kernel), (by decide +kernel)⟩, Nat.le_of_ble_eq_true rfl, fun h => absurd h (by decide), fun _ => ⟨rx_in (i := 834) (by decide +kernel) (by decide +kernel), rx_in (i := 17) (by decide +kernel) (by decide +kernel)⟩, fun h => absurd h (by decide)⟩
set_option maxRecDepth 100000 in
theorem tk_X7_isSet : (t_X7_isSet.all (rx_eok "SetHouseModel" prog_9_method_7_code 2 false true) && rx_adj t_X7_isSet) = true := by decide +kernel
theorem s_X7_isSet_0 {F : Nat × Nat} {l : Launch} {G : rx_G} {D : Nat} {hf : rx_H} {z : (Int32 × Option rx_H)} (hC : rx_CC l G D (C_X7_isSet F) z) (x0 : Nat) (x1 : Int32) (u : Option rx_H) (h : f_X7_isSet_0 F x0 x1 u = some z) : rx_S l G ("SetHouseModel", prog_9_method_7_code, 2, false, true, D) hf (z.2.getD hf) rx_hI z 0 [some (.ref x0), some (.int x1)] [] u := by
  rw [g_X7_isSet_0] at h
  refine rx_S_node (md := ("SetHouseModel", prog_9_method_7_code, 2, false, true, D)) tk_X7_isSet hC rx_m_hI (fun t ls st u h => ?_) h
  unfold kk_X7_isSet_0 at h
  cases h
theorem cc_X7_isSet (F : Nat × Nat) (l : Launch) (G : rx_G) {α : Type} (z : α) : rx_CC l G (1 + 0 * F.2) (C_X7_isSet F) z := by
  intro j as u κ h
  unfold C_X7_isSet at h
  rcases rx_rec_eq h with ⟨hb, h⟩ | ⟨hb, h⟩
  · have ht := Nat.eq_of_beq_eq_true hb
    subst ht
    exact (w_X7_isIn F l G h).deep (by omega)
  cases h
theorem m_X7_isSet (F : Nat × Nat) (l : Launch) (G : rx_G) (hf : rx_H) (x0 : Nat) (x1 : Int32) (u : Option rx_H) {z : (Int32 × Option rx_H)} (h : f_X7_isSet F x0 x1 u = some z) : rx_Ok l G (2 + 0 * F.2) (rx_ny 174) (.code (rx_ny 174) prog_9_method_7_code 2 (some .boolean)) [.ref x0, .int x1] (u.getD hf) (some (.int z.1)) (z.2.getD hf) := by
  have h := h
  unfold f_X7_isSet at h
  exact (rx_met (l := l) (G := G) (hf := hf) (as := [.ref x0, .int x1]) (r := (some (.int z.1))) (ls0 := [some (.ref x0), some (.int x1)]) (y := rx_ny 174) (D := (1 + 0 * F.2)) (ini := false) (bo := true) (u := u) (u' := z.2) (by decide +kernel) (fun h => by cases h) (Nat.le_of_ble_eq_true rfl) (Or.inr (Or.inl ⟨rfl, rfl, _, rfl⟩)) (fun Z hZ hB => rx_RT_hI hZ hB) (by exact ⟨Or.inr rfl, Or.inr rfl, trivial⟩) (s_X7_isSet_0 (cc_X7_isSet F l G z) x0 x1 u h)).deep (by omega)
theorem w_X7_isSet (F : Nat × Nat) (l : Launch) (G : rx_G) {α : Type} {z : α} {as : List Value} {u : Option rx_H} {κ : rx_K α} (h : c_X7_isSet F as u κ = some z) : rx_Cw l G (2 + 0 * F.2) 174 as u κ z := by
  unfold c_X7_isSet at h
  split at h
  · obtain ⟨r, hr, h⟩ := Option.bind_eq_some_iff.mp h
    exact ⟨_, _, _, _, h, k_X7_isSet, fun h => absurd h (by decide), fun _ => ⟨_, _, rfl, rfl⟩, fun hf => m_X7_isSet F l G hf _ _ _ hr⟩
  · cases h
set_option maxRecDepth 100000 in
theorem k_X7_lacks : rx_Cal (rx_ny 179) (.code (rx_ny 179) prog_9_method_10_code 2 (some .int)) (rx_kd 179) 1 := ⟨prog_9_method_10_code, 2, (some .int), Or.inl rfl, rx_in (i := 827) (by rfl) (by rfl), rx_in (i := 46) (by decide +kernel) (by decide +kernel), ⟨(by decide +kernel), (by decide +kernel), (by decide +kernel)⟩, Nat.le_of_ble_eq_true rfl, fun h => absurd h (by decide), fun _ => ⟨rx_in (i := 826) (by decide +kernel) (by decide +kernel), rx_in (i := 16) (by decide +kernel) (by decide +kernel)⟩, fun h => absurd h (by decide)⟩
set_option maxRecDepth 100000 in
theorem tk_X7_lacks : (t_X7_lacks.all (rx_eok "SetHouseModel" prog_9_method_10_code 2 false false) && rx_adj t_X7_lacks) = true := by decide +kernel
theorem s_X7_lacks_0 {F : Nat × Nat} {l : Launch} {G : rx_G} {D : Nat} {hf : rx_H} {z : (Int32 × Option rx_H)} (hC : rx_CC l G D (C_X7_lacks F) z) (x0 : Nat) (x1 : Int32) (u : Option rx_H) (h : f_X7_lacks_0 F x0 x1 u = some z) : rx_S l G ("SetHouseModel", prog_9_method_10_code, 2, false, false, D) hf (z.2.getD hf) rx_hI z 0 [some (.ref x0), some (.int x1)] [] u := by
  rw [g_X7_lacks_0] at h
  refine rx_S_node (md := ("SetHouseModel", prog_9_method_10_code, 2, false, false, D)) tk_X7_lacks hC rx_m_hI (fun t ls st u h => ?_) h
  unfold kk_X7_lacks_0 at h
  cases h
theorem cc_X7_lacks (F : Nat × Nat) (l : Launch) (G : rx_G) {α : Type} (z : α) : rx_CC l G (0 + 0 * F.2) (C_X7_lacks F) z := by
  intro j as u κ h
  unfold C_X7_lacks at h
  cases h
theorem m_X7_lacks (F : Nat × Nat) (l : Launch) (G : rx_G) (hf : rx_H) (x0 : Nat) (x1 : Int32) (u : Option rx_H) {z : (Int32 × Option rx_H)} (h : f_X7_lacks F x0 x1 u = some z) : rx_Ok l G (1 + 0 * F.2) (rx_ny 179) (.code (rx_ny 179) prog_9_method_10_code 2 (some .int)) [.ref x0, .int x1] (u.getD hf) (some (.int z.1)) (z.2.getD hf) := by
  have h := h
  unfold f_X7_lacks at h
  exact (rx_met (l := l) (G := G) (hf := hf) (as := [.ref x0, .int x1]) (r := (some (.int z.1))) (ls0 := [some (.ref x0), some (.int x1)]) (y := rx_ny 179) (D := (0 + 0 * F.2)) (ini := false) (bo := false) (u := u) (u' := z.2) (by decide +kernel) (fun h => by cases h) (Nat.le_of_ble_eq_true rfl) (Or.inl ⟨rfl, rfl, _, rfl⟩) (fun Z hZ hB => rx_RT_hI hZ hB) (by exact ⟨Or.inr rfl, Or.inr rfl, trivial⟩) (s_X7_lacks_0 (cc_X7_lacks F l G z) x0 x1 u h)).deep (by omega)
theorem w_X7_lacks (F : Nat × Nat) (l : Launch) (G : rx_G) {α : Type} {z : α} {as : List Value} {u : Option rx_H} {κ : rx_K α} (h : c_X7_lacks F as u κ = some z) : rx_Cw l G (1 + 0 * F.2) 179 as u κ z := by
  unfold c_X7_lacks at h
  split at h
  · obtain ⟨r, hr, h⟩ := Option.bind_eq_some_iff.mp h
    exact ⟨_, _, _, _, h, k_X7_lacks, fun h => absurd h (by decide), fun _ => ⟨_, _, rfl, rfl⟩, fun hf => m_X7_lacks F l G hf _ _ _ hr⟩
  · cases h
set_option maxRecDepth 100000 in
theorem k_X7_holdsNow : rx_Cal (rx_ny 168) (.code (rx_ny 168) prog_9_method_11_code 6 (some .int)) (rx_kd 168) 4 := ⟨prog_9_method_11_code, 6, (some .int), Or.inl rfl, rx_in (i := 816) (by rfl) (by rfl), rx_in (i := 46) (by decide +kernel) (by decide +kernel), ⟨(by decide +kernel), (by decide +kernel), (by decide +kernel)⟩, Nat.le_of_ble_eq_true rfl, fun h => absurd h (by decide), fun _ => ⟨rx_in (i := 815) (by decide +kernel) (by decide +kernel), rx_in (i := 15) (by decide +kernel) (by decide +kernel)⟩, fun h => absurd h (by decide)⟩
set_option maxRecDepth 100000 in
theorem tk_X7_holdsNow : (t_X7_holdsNow.all (rx_eok "SetHouseModel" prog_9_method_11_code 6 false false) && rx_adj t_X7_holdsNow) = true := by decide +kernel
theorem s_X7_holdsNow_0 {F : Nat × Nat} {l : Launch} {G : rx_G} {D : Nat} {hf : rx_H} {z : (Int32 × Option rx_H)} (hC : rx_CC l G D (C_X7_holdsNow F) z) (x0 : Nat) (x1 : Int32) (x2 : Int32) (x3 : Int32) (x4 : Int64) (u : Option rx_H) (h : f_X7_holdsNow_0 F x0 x1 x2 x3 x4 u = some z) : rx_S l G ("SetHouseModel", prog_9_method_11_code, 6, false, false, D) hf (z.2.getD hf) rx_hI z 0 [some (.ref x0), some (.int x1), some (.int x2), some (.int x3), some (.long x4), none] [] u := by
  rw [g_X7_holdsNow_0] at h
  refine rx_S_node (md := ("SetHouseModel", prog_9_method_11_code, 6, false, false, D)) tk_X7_holdsNow hC rx_m_hI (fun t ls st u h => ?_) h
  unfold kk_X7_holdsNow_0 at h
  cases h
theorem cc_X7_holdsNow (F : Nat × Nat) (l : Launch) (G : rx_G) {α : Type} (z : α) : rx_CC l G (1 + 0 * F.2) (C_X7_holdsNow F) z := by
  intro j as u κ h
  unfold C_X7_holdsNow at h
  rcases rx_rec_eq h with ⟨hb, h⟩ | ⟨hb, h⟩
  · have ht := Nat.eq_of_beq_eq_true hb
    subst ht
    exact (w_X7_many F l G h).deep (by omega)
  cases h
theorem m_X7_holdsNow (F : Nat × Nat) (l : Launch) (G : rx_G) (hf : rx_H) (x0 : Nat) (x1 : Int32) (x2 : Int32) (x3 : Int32) (x4 : Int64) (u : Option rx_H) {z : (Int32 × Option rx_H)} (h : f_X7_holdsNow F x0 x1 x2 x3 x4 u = some z) : rx_Ok l G (2 + 0 * F.2) (rx_ny 168) (.code (rx_ny 168) prog_9_method_11_code 6 (some .int)) [.ref x0, .int x1, .int x2, .int x3, .long x4] (u.getD hf) (some (.int z.1)) (z.2.getD hf) := by
  have h := h
  unfold f_X7_holdsNow at h
  exact (rx_met (l := l) (G := G) (hf := hf) (as := [.ref x0, .int x1, .int x2, .int x3, .long x4]) (r := (some (.int z.1))) (ls0 := [some (.ref x0), some (.int x1), some (.int x2), some (.int x3), some (.long x4), none]) (y := rx_ny 168) (D := (1 + 0 * F.2)) (ini := false) (bo := false) (u := u) (u' := z.2) (by decide +kernel) (fun h => by cases h) (Nat.le_of_ble_eq_true rfl) (Or.inl ⟨rfl, rfl, _, rfl⟩) (fun Z hZ hB => rx_RT_hI hZ hB) (by exact ⟨Or.inr rfl, Or.inr rfl, Or.inr rfl, Or.inr rfl, Or.inr rfl, Or.inl rfl, trivial⟩) (s_X7_holdsNow_0 (cc_X7_holdsNow F l G z) x0 x1 x2 x3 x4 u h)).deep (by omega)
theorem w_X7_holdsNow (F : Nat × Nat) (l : Launch) (G : rx_G) {α : Type} {z : α} {as : List Value} {u : Option rx_H} {κ : rx_K α} (h : c_X7_holdsNow F as u κ = some z) : rx_Cw l G (2 + 0 * F.2) 168 as u κ z := by
  unfold c_X7_holdsNow at h
  split at h
  · obtain ⟨r, hr, h⟩ := Option.bind_eq_some_iff.mp h
    exact ⟨_, _, _, _, h, k_X7_holdsNow, fun h => absurd h (by decide), fun _ => ⟨_, _, rfl, rfl⟩, fun hf => m_X7_holdsNow F l G hf _ _ _ _ _ _ hr⟩
  · cases h
set_option maxRecDepth 100000 in
theorem k_X7_isKind : rx_Cal (rx_ny 172) (.code (rx_ny 172) prog_9_method_12_code 3 (some .boolean)) (rx_kd 172) 2 := ⟨prog_9_method_12_code, 3, (some .boolean), Or.inl rfl, rx_in (i := 812) (by rfl) (by rfl), rx_in (i := 46) (by decide +kernel) (by decide +kernel), ⟨(by decide +kernel), (by decide +kernel), (by decide +kernel)⟩, Nat.le_of_ble_eq_true rfl, fun h => absurd h (by decide), fun _ => ⟨rx_in (i := 811) (by decide +kernel) (by decide +kernel), rx_in (i := 14) (by decide +kernel) (by decide +kernel)⟩, fun h => absurd h (by decide)⟩
set_option maxRecDepth 100000 in
theorem tk_X7_isKind : (t_X7_isKind.all (rx_eok "SetHouseModel" prog_9_method_12_code 3 false true) && rx_adj t_X7_isKind) = true := by decide +kernel
theorem s_X7_isKind_19 {F : Nat × Nat} {l : Launch} {G : rx_G} {D : Nat} {hf : rx_H} {z : (Int32 × Option rx_H)} (hC : rx_CC l G D (C_X7_isKind F) z) (x0 : Nat) (x2 : Int32) (u : Option rx_H) (h : f_X7_isKind_19 F x0 x2 u = some z) : rx_S l G ("SetHouseModel", prog_9_method_12_code, 3, false, true, D) hf (z.2.getD hf) rx_hI z 19 [some (.ref x0), none, some (.int x2)] [] u := by
  rw [g_X7_isKind_19] at h
  refine rx_S_node (md := ("SetHouseModel", prog_9_method_12_code, 3, false, true, D)) tk_X7_isKind hC rx_m_hI (fun t ls st u h => ?_) h
  unfold kk_X7_isKind_19 at h
  cases h
theorem s_X7_isKind_0 {F : Nat × Nat} {l : Launch} {G : rx_G} {D : Nat} {hf : rx_H} {z : (Int32 × Option rx_H)} (hC : rx_CC l G D (C_X7_isKind F) z) (x0 : Nat) (x1 : Int32) (x2 : Int32) (u : Option rx_H) (h : f_X7_isKind_0 F x0 x1 x2 u = some z) : rx_S l G ("SetHouseModel", prog_9_method_12_code, 3, false, true, D) hf (z.2.getD hf) rx_hI z 0 [some (.ref x0), some (.int x1), some (.int x2)] [] u := by
  rw [g_X7_isKind_0] at h
  refine rx_S_node (md := ("SetHouseModel", prog_9_method_12_code, 3, false, true, D)) tk_X7_isKind hC rx_m_hI (fun t ls st u h => ?_) h
  unfold kk_X7_isKind_0 at h
  rcases rx_rec_eq h with ⟨hb, h⟩ | ⟨hb, h⟩
  · have ht := Nat.eq_of_beq_eq_true hb
    subst ht
    unfold n_X7_isKind_19 at h
    split at h
    · exact (s_X7_isKind_19 hC _ _ _ h).le ⟨Or.inr rfl, Or.inl rfl, Or.inr rfl, trivial⟩
    · cases h
  cases h
theorem cc_X7_isKind (F : Nat × Nat) (l : Launch) (G : rx_G) {α : Type} (z : α) : rx_CC l G (1 + 0 * F.2) (C_X7_isKind F) z := by
  intro j as u κ h
  unfold C_X7_isKind at h
  rcases rx_rec_eq h with ⟨hb, h⟩ | ⟨hb, h⟩
  · have ht := Nat.eq_of_beq_eq_true hb
    subst ht
    exact (w_X7_isIn F l G h).deep (by omega)
  cases h
theorem m_X7_isKind (F : Nat × Nat) (l : Launch) (G : rx_G) (hf : rx_H) (x0 : Nat) (x1 : Int32) (x2 : Int32) (u : Option rx_H) {z : (Int32 × Option rx_H)} (h : f_X7_isKind F x0 x1 x2 u = some z) : rx_Ok l G (2 + 0 * F.2) (rx_ny 172) (.code (rx_ny 172) prog_9_method_12_code 3 (some .boolean)) [.ref x0, .int x1, .int x2] (u.getD hf) (some (.int z.1)) (z.2.getD hf) := by
  have h := h
  unfold f_X7_isKind at h
  exact (rx_met (l := l) (G := G) (hf := hf) (as := [.ref x0, .int x1, .int x2]) (r := (some (.int z.1))) (ls0 := [some (.ref x0), some (.int x1), some (.int x2)]) (y := rx_ny 172) (D := (1 + 0 * F.2)) (ini := false) (bo := true) (u := u) (u' := z.2) (by decide +kernel) (fun h => by cases h) (Nat.le_of_ble_eq_true rfl) (Or.inr (Or.inl ⟨rfl, rfl, _, rfl⟩)) (fun Z hZ hB => rx_RT_hI hZ hB) (by exact ⟨Or.inr rfl, Or.inr rfl, Or.inr rfl, trivial⟩) (s_X7_isKind_0 (cc_X7_isKind F l G z) x0 x1 x2 u h)).deep (by omega)
theorem w_X7_isKind (F : Nat × Nat) (l : Launch) (G : rx_G) {α : Type} {z : α} {as : List Value} {u : Option rx_H} {κ : rx_K α} (h : c_X7_isKind F as u κ = some z) : rx_Cw l G (2 + 0 * F.2) 172 as u κ z := by
  unfold c_X7_isKind at h
  split at h
  · obtain ⟨r, hr, h⟩ := Option.bind_eq_some_iff.mp h
    exact ⟨_, _, _, _, h, k_X7_isKind, fun h => absurd h (by decide), fun _ => ⟨_, _, rfl, rfl⟩, fun hf => m_X7_isKind F l G hf _ _ _ _ hr⟩
  · cases h
set_option maxRecDepth 100000 in
theorem k_X7_make : rx_Cal (rx_ny 183) (.code (rx_ny 183) prog_9_method_13_code 4 (some .int)) (rx_kd 183) 3 := ⟨prog_9_method_13_code, 4, (some .int), Or.inl rfl, rx_in (i := 802) (by rfl) (by rfl), rx_in (i := 46) (by decide +kernel) (by decide +kernel), ⟨(by decide +kernel), (by decide +kernel), (by decide +kernel)⟩, Nat.le_of_ble_eq_true rfl, fun h => absurd h (by decide), fun _ => ⟨rx_in (i := 800) (by decide +kernel) (by decide +kernel), rx_in (i := 801) (by decide +kernel) (by decide +kernel)⟩, fun h => absurd h (by decide)⟩
set_option maxRecDepth 100000 in
theorem tk_X7_make : (t_X7_make.all (rx_eok "SetHouseModel" prog_9_method_13_code 4 false false) && rx_adj t_X7_make) = true := by decide +kernel
theorem s_X7_make_0 {F : Nat × Nat} {l : Launch} {G : rx_G} {D : Nat} {hf : rx_H} {z : (Int32 × Option rx_H)} (hC : rx_CC l G D (C_X7_make F) z) (x0 : Nat) (x1 : Int32) (x2 : Int32) (x3 : Int32) (u : Option rx_H) (h : f_X7_make_0 F x0 x1 x2 x3 u = some z) : rx_S l G ("SetHouseModel", prog_9_method_13_code, 4, false, false, D) hf (z.2.getD hf) rx_hI z 0 [some (.ref x0), some (.int x1), some (.int x2), some (.int x3)] [] u := by
  rw [g_X7_make_0] at h
  refine rx_S_node (md := ("SetHouseModel", prog_9_method_13_code, 4, false, false, D)) tk_X7_make hC rx_m_hI (fun t ls st u h => ?_) h
  unfold kk_X7_make_0 at h
  cases h
theorem cc_X7_make (F : Nat × Nat) (l : Launch) (G : rx_G) {α : Type} (z : α) : rx_CC l G (2 + 0 * F.2) (C_X7_make F) z := by
  intro j as u κ h
  unfold C_X7_make at h
  rcases rx_rec_eq h with ⟨hb, h⟩ | ⟨hb, h⟩
  · have ht := Nat.eq_of_beq_eq_true hb
    subst ht
    exact (w_X7_holdsNow F l G h).deep (by omega)
  rcases rx_rec_eq h with ⟨hb, h⟩ | ⟨hb, h⟩
  · have ht := Nat.eq_of_beq_eq_true hb
    subst ht
    exact (w_X7_isKind F l G h).deep (by omega)
  rcases rx_rec_eq h with ⟨hb, h⟩ | ⟨hb, h⟩
  · have ht := Nat.eq_of_beq_eq_true hb
    subst ht
    exact (w_X7_isPlace F l G h).deep (by omega)
  cases h
theorem m_X7_make (F : Nat × Nat) (l : Launch) (G : rx_G) (hf : rx_H) (x0 : Nat) (x1 : Int32) (x2 : Int32) (x3 : Int32) (u : Option rx_H) {z : (Int32 × Option rx_H)} (h : f_X7_make F x0 x1 x2 x3 u = some z) : rx_Ok l G (3 + 0 * F.2) (rx_ny 183) (.code (rx_ny 183) prog_9_method_13_code 4 (some .int)) [.ref x0, .int x1, .int x2, .int x3] (u.getD hf) (some (.int z.1)) (z.2.getD hf) := by
  have h := h
  unfold f_X7_make at h
  exact (rx_met (l := l) (G := G) (hf := hf) (as := [.ref x0, .int x1, .int x2, .int x3]) (r := (some (.int z.1))) (ls0 := [some (.ref x0), some (.int x1), some (.int x2), some (.int x3)]) (y := rx_ny 183) (D := (2 + 0 * F.2)) (ini := false) (bo := false) (u := u) (u' := z.2) (by decide +kernel) (fun h => by cases h) (Nat.le_of_ble_eq_true rfl) (Or.inl ⟨rfl, rfl, _, rfl⟩) (fun Z hZ hB => rx_RT_hI hZ hB) (by exact ⟨Or.inr rfl, Or.inr rfl, Or.inr rfl, Or.inr rfl, trivial⟩) (s_X7_make_0 (cc_X7_make F l G z) x0 x1 x2 x3 u h)).deep (by omega)
theorem w_X7_make (F : Nat × Nat) (l : Launch) (G : rx_G) {α : Type} {z : α} {as : List Value} {u : Option rx_H} {κ : rx_K α} (h : c_X7_make F as u κ = some z) : rx_Cw l G (3 + 0 * F.2) 183 as u κ z := by
  unfold c_X7_make at h
  split at h
  · obtain ⟨r, hr, h⟩ := Option.bind_eq_some_iff.mp h
    exact ⟨_, _, _, _, h, k_X7_make, fun h => absurd h (by decide), fun _ => ⟨_, _, rfl, rfl⟩, fun hf => m_X7_make F l G hf _ _ _ _ _ hr⟩
  · cases h
set_option maxRecDepth 100000 in
theorem k_X7_cross : rx_Cal (rx_ny 150) (.code (rx_ny 150) prog_9_method_14_code 7 (some .int)) (rx_kd 150) 3 := ⟨prog_9_method_14_code, 7, (some .int), Or.inl rfl, rx_in (i := 823) (by rfl) (by rfl), rx_in (i := 46) (by decide +kernel) (by decide +kernel), ⟨(by decide +kernel), (by decide +kernel), (by decide +kernel)⟩, Nat.le_of_ble_eq_true rfl, fun h => absurd h (by decide), fun _ => ⟨rx_in (i := 821) (by decide +kernel) (by decide +kernel), rx_in (i := 822) (by decide +kernel) (by decide +kernel)⟩, fun h => absurd h (by decide)⟩
set_option maxRecDepth 100000 in
theorem tk_X7_cross : (t_X7_cross.all (rx_eok "SetHouseModel" prog_9_method_14_code 7 false false) && rx_adj t_X7_cross) = true := by decide +kernel
theorem s_X7_cross_0 {F : Nat × Nat} {l : Launch} {G : rx_G} {D : Nat} {hf : rx_H} {z : (Int32 × Option rx_H)} (hC : rx_CC l G D (C_X7_cross F) z) (x0 : Nat) (x1 : Int32) (x2 : Int32) (x3 : Int32) (u : Option rx_H) (h : f_X7_cross_0 F x0 x1 x2 x3 u = some z) : rx_S l G ("SetHouseModel", prog_9_method_14_code, 7, false, false, D) hf (z.2.getD hf) rx_hI z 0 [some (.ref x0), some (.int x1), some (.int x2), some (.int x3), none, none, none] [] u := by
  rw [g_X7_cross_0] at h
  refine rx_S_node (md := ("SetHouseModel", prog_9_method_14_code, 7, false, false, D)) tk_X7_cross hC rx_m_hI (fun t ls st u h => ?_) h
  unfold kk_X7_cross_0 at h
  cases h
theorem cc_X7_cross (F : Nat × Nat) (l : Launch) (G : rx_G) {α : Type} (z : α) : rx_CC l G (2 + 0 * F.2) (C_X7_cross F) z := by
  intro j as u κ h
  unfold C_X7_cross at h
  rcases rx_rec_eq h with ⟨hb, h⟩ | ⟨hb, h⟩
  · have ht := Nat.eq_of_beq_eq_true hb
    subst ht
    exact (w_X7_holdsNow F l G h).deep (by omega)
  rcases rx_rec_eq h with ⟨hb, h⟩ | ⟨hb, h⟩
  · have ht := Nat.eq_of_beq_eq_true hb
    subst ht
    exact (w_X7_isIn F l G h).deep (by omega)
  rcases rx_rec_eq h with ⟨hb, h⟩ | ⟨hb, h⟩
  · have ht := Nat.eq_of_beq_eq_true hb
    subst ht
    exact (w_X7_isPlace F l G h).deep (by omega)
  rcases rx_rec_eq h with ⟨hb, h⟩ | ⟨hb, h⟩
  · have ht := Nat.eq_of_beq_eq_true hb
    subst ht
    exact (w_X7_lacks F l G h).deep (by omega)
  cases h
theorem m_X7_cross (F : Nat × Nat) (l : Launch) (G : rx_G) (hf : rx_H) (x0 : Nat) (x1 : Int32) (x2 : Int32) (x3 : Int32) (u : Option rx_H) {z : (Int32 × Option rx_H)} (h : f_X7_cross F x0 x1 x2 x3 u = some z) : rx_Ok l G (3 + 0 * F.2) (rx_ny 150) (.code (rx_ny 150) prog_9_method_14_code 7 (some .int)) [.ref x0, .int x1, .int x2, .int x3] (u.getD hf) (some (.int z.1)) (z.2.getD hf) := by
  have h := h
  unfold f_X7_cross at h
  exact (rx_met (l := l) (G := G) (hf := hf) (as := [.ref x0, .int x1, .int x2, .int x3]) (r := (some (.int z.1))) (ls0 := [some (.ref x0), some (.int x1), some (.int x2), some (.int x3), none, none, none]) (y := rx_ny 150) (D := (2 + 0 * F.2)) (ini := false) (bo := false) (u := u) (u' := z.2) (by decide +kernel) (fun h => by cases h) (Nat.le_of_ble_eq_true rfl) (Or.inl ⟨rfl, rfl, _, rfl⟩) (fun Z hZ hB => rx_RT_hI hZ hB) (by exact ⟨Or.inr rfl, Or.inr rfl, Or.inr rfl, Or.inr rfl, Or.inl rfl, Or.inl rfl, Or.inl rfl, trivial⟩) (s_X7_cross_0 (cc_X7_cross F l G z) x0 x1 x2 x3 u h)).deep (by omega)
theorem w_X7_cross (F : Nat × Nat) (l : Launch) (G : rx_G) {α : Type} {z : α} {as : List Value} {u : Option rx_H} {κ : rx_K α} (h : c_X7_cross F as u κ = some z) : rx_Cw l G (3 + 0 * F.2) 150 as u κ z := by
  unfold c_X7_cross at h
  split at h
  · obtain ⟨r, hr, h⟩ := Option.bind_eq_some_iff.mp h
    exact ⟨_, _, _, _, h, k_X7_cross, fun h => absurd h (by decide), fun _ => ⟨_, _, rfl, rfl⟩, fun hf => m_X7_cross F l G hf _ _ _ _ _ hr⟩
  · cases h
set_option maxRecDepth 100000 in
theorem k_X7_hinders : rx_Cal (rx_ny 166) (.code (rx_ny 166) prog_9_method_16_code 5 (some .int)) (rx_kd 166) 2 := ⟨prog_9_method_16_code, 5, (some .int), Or.inl rfl, rx_in (i := 843) (by rfl) (by rfl), rx_in (i := 46) (by decide +kernel) (by decide +kernel), ⟨(by decide +kernel), (by decide +kernel), (by decide +kernel)⟩, Nat.le_of_ble_eq_true rfl, fun h => absurd h (by decide), fun _ => ⟨rx_in (i := 842) (by decide +kernel) (by decide +kernel), rx_in (i := 19) (by decide +kernel) (by decide +kernel)⟩, fun h => absurd h (by decide)⟩
set_option maxRecDepth 100000 in
theorem tk_X7_hinders : (t_X7_hinders.all (rx_eok "SetHouseModel" prog_9_method_16_code 5 false false) && rx_adj t_X7_hinders) = true := by decide +kernel
theorem s_X7_hinders_49 {F : Nat × Nat} {l : Launch} {G : rx_G} {D : Nat} {hf : rx_H} {z : (Int32 × Option rx_H)} (hC : rx_CC l G D (C_X7_hinders F) z) (x0 : Nat) (x1 : Int32) (x2 : Int32) (u : Option rx_H) (h : f_X7_hinders_49 F x0 x1 x2 u = some z) : rx_S l G ("SetHouseModel", prog_9_method_16_code, 5, false, false, D) hf (z.2.getD hf) rx_hI z 49 [some (.ref x0), some (.int x1), some (.int x2), none, none] [] u := by
  rw [g_X7_hinders_49] at h
  refine rx_S_node (md := ("SetHouseModel", prog_9_method_16_code, 5, false, false, D)) tk_X7_hinders hC rx_m_hI (fun t ls st u h => ?_) h
  unfold kk_X7_hinders_49 at h
  cases h
theorem s_X7_hinders_218 {F : Nat × Nat} {l : Launch} {G : rx_G} {D : Nat} {hf : rx_H} {z : (Int32 × Option rx_H)} (hC : rx_CC l G D (C_X7_hinders F) z) {k118 : Nat → Int32 → Int32 → Int32 → Option rx_H → Option (Int32 × Option rx_H)} (hk118 : ∀ (x0 : Nat) (x1 : Int32) (x2 : Int32) (x3 : Int32) (u : Option rx_H), k118 x0 x1 x2 x3 u = some z → rx_S l G ("SetHouseModel", prog_9_method_16_code, 5, false, false, D) hf (z.2.getD hf) rx_hI z 118 [some (.ref x0), some (.int x1), some (.int x2), some (.int x3), none] [] u) (x0 : Nat) (x1 : Int32) (x2 : Int32) (x3 : Int32) (s0 : Int32) (u : Option rx_H) (h : f_X7_hinders_218 F k118 x0 x1 x2 x3 s0 u = some z) : rx_S l G ("SetHouseModel", prog_9_method_16_code, 5, false, false, D) hf (z.2.getD hf) rx_hI z 218 [some (.ref x0), some (.int x1), some (.int x2), some (.int x3), none] [.int s0] u := by
  rw [g_X7_hinders_218] at h
  refine rx_S_node (md := ("SetHouseModel", prog_9_method_16_code, 5, false, false, D)) tk_X7_hinders hC rx_m_hI (fun t ls st u h => ?_) h
  unfold kk_X7_hinders_218 at h
  rcases rx_rec_eq h with ⟨hb, h⟩ | ⟨hb, h⟩
  · have ht := Nat.eq_of_beq_eq_true hb
    subst ht
    unfold n_X7_hinders_118 at h
    split at h
    · exact (hk118 _ _ _ _ _ h).le ⟨Or.inr rfl, Or.inr rfl, Or.inr rfl, Or.inr rfl, Or.inl rfl, trivial⟩
    · cases h
  cases h
theorem s_X7_hinders_118 {F : Nat × Nat} {l : Launch} {G : rx_G} {D : Nat} {hf : rx_H} {z : (Int32 × Option rx_H)} (hC : rx_CC l G D (C_X7_hinders F) z) : ∀ (f : Nat) (x0 : Nat) (x1 : Int32) (x2 : Int32) (x3 : Int32) (u : Option rx_H), f_X7_hinders_118 F f x0 x1 x2 x3 u = some z → rx_S l G ("SetHouseModel", prog_9_method_16_code, 5, false, false, D) hf (z.2.getD hf) rx_hI z 118 [some (.ref x0), some (.int x1), some (.int x2), some (.int x3), none] [] u := by
  intro f
  induction f with
  | zero =>
    intro x0 x1 x2 x3 u h
    cases h
  | succ f ih =>
    intro x0 x1 x2 x3 u h
    rw [g_X7_hinders_118] at h
    refine rx_S_node (md := ("SetHouseModel", prog_9_method_16_code, 5, false, false, D)) tk_X7_hinders hC rx_m_hI (fun t ls st u h => ?_) h
    unfold kk_X7_hinders_118 at h
    rcases rx_rec_eq h with ⟨hb, h⟩ | ⟨hb, h⟩
    · have ht := Nat.eq_of_beq_eq_true hb
      subst ht
      unfold n_X7_hinders_218 at h
      split at h
      · exact (s_X7_hinders_218 hC ih _ _ _ _ _ _ h).le ⟨Or.inr rfl, Or.inr rfl, Or.inr rfl, Or.inr rfl, Or.inl rfl, trivial⟩
      · cases h
    cases h
theorem s_X7_hinders_0 {F : Nat × Nat} {l : Launch} {G : rx_G} {D : Nat} {hf : rx_H} {z : (Int32 × Option rx_H)} (hC : rx_CC l G D (C_X7_hinders F) z) (x0 : Nat) (x1 : Int32) (x2 : Int32) (u : Option rx_H) (h : f_X7_hinders_0 F x0 x1 x2 u = some z) : rx_S l G ("SetHouseModel", prog_9_method_16_code, 5, false, false, D) hf (z.2.getD hf) rx_hI z 0 [some (.ref x0), some (.int x1), some (.int x2), none, none] [] u := by
  rw [g_X7_hinders_0] at h
  refine rx_S_node (md := ("SetHouseModel", prog_9_method_16_code, 5, false, false, D)) tk_X7_hinders hC rx_m_hI (fun t ls st u h => ?_) h
  unfold kk_X7_hinders_0 at h
  rcases rx_rec_eq h with ⟨hb, h⟩ | ⟨hb, h⟩
  · have ht := Nat.eq_of_beq_eq_true hb
    subst ht
    unfold n_X7_hinders_49 at h
    split at h
    · exact (s_X7_hinders_49 hC _ _ _ _ h).le ⟨Or.inr rfl, Or.inr rfl, Or.inr rfl, Or.inl rfl, Or.inl rfl, trivial⟩
    · cases h
  rcases rx_rec_eq h with ⟨hb, h⟩ | ⟨hb, h⟩
  · have ht := Nat.eq_of_beq_eq_true hb
    subst ht
    unfold n_X7_hinders_118 at h
    split at h
    · exact (s_X7_hinders_118 hC _ _ _ _ _ _ h).le ⟨Or.inr rfl, Or.inr rfl, Or.inr rfl, Or.inr rfl, Or.inl rfl, trivial⟩
    · cases h
  cases h
theorem cc_X7_hinders (F : Nat × Nat) (l : Launch) (G : rx_G) {α : Type} (z : α) : rx_CC l G (2 + 0 * F.2) (C_X7_hinders F) z := by
  intro j as u κ h
  unfold C_X7_hinders at h
  rcases rx_rec_eq h with ⟨hb, h⟩ | ⟨hb, h⟩
  · have ht := Nat.eq_of_beq_eq_true hb
    subst ht
    exact (w_X7_apartFrom F l G h).deep (by omega)
  rcases rx_rec_eq h with ⟨hb, h⟩ | ⟨hb, h⟩
  · have ht := Nat.eq_of_beq_eq_true hb
    subst ht
    exact (w_X7_has F l G h).deep (by omega)
  rcases rx_rec_eq h with ⟨hb, h⟩ | ⟨hb, h⟩
  · have ht := Nat.eq_of_beq_eq_true hb
    subst ht
    exact (w_X7_isWithin F l G h).deep (by omega)
  rcases rx_rec_eq h with ⟨hb, h⟩ | ⟨hb, h⟩
  · have ht := Nat.eq_of_beq_eq_true hb
    subst ht
    exact (w_X7_ones F l G h).deep (by omega)
  cases h
theorem m_X7_hinders (F : Nat × Nat) (l : Launch) (G : rx_G) (hf : rx_H) (x0 : Nat) (x1 : Int32) (x2 : Int32) (u : Option rx_H) {z : (Int32 × Option rx_H)} (h : f_X7_hinders F x0 x1 x2 u = some z) : rx_Ok l G (3 + 0 * F.2) (rx_ny 166) (.code (rx_ny 166) prog_9_method_16_code 5 (some .int)) [.ref x0, .int x1, .int x2] (u.getD hf) (some (.int z.1)) (z.2.getD hf) := by
  have h := h
  unfold f_X7_hinders at h
  exact (rx_met (l := l) (G := G) (hf := hf) (as := [.ref x0, .int x1, .int x2]) (r := (some (.int z.1))) (ls0 := [some (.ref x0), some (.int x1), some (.int x2), none, none]) (y := rx_ny 166) (D := (2 + 0 * F.2)) (ini := false) (bo := false) (u := u) (u' := z.2) (by decide +kernel) (fun h => by cases h) (Nat.le_of_ble_eq_true rfl) (Or.inl ⟨rfl, rfl, _, rfl⟩) (fun Z hZ hB => rx_RT_hI hZ hB) (by exact ⟨Or.inr rfl, Or.inr rfl, Or.inr rfl, Or.inl rfl, Or.inl rfl, trivial⟩) (s_X7_hinders_0 (cc_X7_hinders F l G z) x0 x1 x2 u h)).deep (by omega)
theorem w_X7_hinders (F : Nat × Nat) (l : Launch) (G : rx_G) {α : Type} {z : α} {as : List Value} {u : Option rx_H} {κ : rx_K α} (h : c_X7_hinders F as u κ = some z) : rx_Cw l G (3 + 0 * F.2) 166 as u κ z := by
  unfold c_X7_hinders at h
  split at h
  · obtain ⟨r, hr, h⟩ := Option.bind_eq_some_iff.mp h
    exact ⟨_, _, _, _, h, k_X7_hinders, fun h => absurd h (by decide), fun _ => ⟨_, _, rfl, rfl⟩, fun hf => m_X7_hinders F l G hf _ _ _ _ hr⟩
  · cases h
set_option maxRecDepth 100000 in
theorem k_X7_adds : rx_Cal (rx_ny 137) (.code (rx_ny 137) prog_9_method_17_code 4 (some .int)) (rx_kd 137) 2 := ⟨prog_9_method_17_code, 4, (some .int), Or.inl rfl, rx_in (i := 839) (by rfl) (by rfl), rx_in (i := 46) (by decide +kernel) (by decide +kernel), ⟨(by decide +kernel), (by decide +kernel), (by decide +kernel)⟩, Nat.le_of_ble_eq_true rfl, fun h => absurd h (by decide), fun _ => ⟨rx_in (i := 838) (by decide +kernel) (by decide +kernel), rx_in (i := 18) (by decide +kernel) (by decide +kernel)⟩, fun h => absurd h (by decide)⟩
set_option maxRecDepth 100000 in
theorem tk_X7_adds : (t_X7_adds.all (rx_eok "SetHouseModel" prog_9_method_17_code 4 false false) && rx_adj t_X7_adds) = true := by decide +kernel
theorem s_X7_adds_0 {F : Nat × Nat} {l : Launch} {G : rx_G} {D : Nat} {hf : rx_H} {z : (Int32 × Option rx_H)} (hC : rx_CC l G D (C_X7_adds F) z) (x0 : Nat) (x1 : Int32) (x2 : Int32) (u : Option rx_H) (h : f_X7_adds_0 F x0 x1 x2 u = some z) : rx_S l G ("SetHouseModel", prog_9_method_17_code, 4, false, false, D) hf (z.2.getD hf) rx_hI z 0 [some (.ref x0), some (.int x1), some (.int x2), none] [] u := by
  rw [g_X7_adds_0] at h
  refine rx_S_node (md := ("SetHouseModel", prog_9_method_17_code, 4, false, false, D)) tk_X7_adds hC rx_m_hI (fun t ls st u h => ?_) h
  unfold kk_X7_adds_0 at h
  cases h
theorem cc_X7_adds (F : Nat × Nat) (l : Launch) (G : rx_G) {α : Type} (z : α) : rx_CC l G (3 + 0 * F.2) (C_X7_adds F) z := by
  intro j as u κ h
  unfold C_X7_adds at h
  rcases rx_rec_eq h with ⟨hb, h⟩ | ⟨hb, h⟩
  · have ht := Nat.eq_of_beq_eq_true hb
    subst ht
    exact (w_X7_hinders F l G h).deep (by omega)
  rcases rx_rec_eq h with ⟨hb, h⟩ | ⟨hb, h⟩
  · have ht := Nat.eq_of_beq_eq_true hb
    subst ht
    exact (w_X7_many F l G h).deep (by omega)
  cases h
theorem m_X7_adds (F : Nat × Nat) (l : Launch) (G : rx_G) (hf : rx_H) (x0 : Nat) (x1 : Int32) (x2 : Int32) (u : Option rx_H) {z : (Int32 × Option rx_H)} (h : f_X7_adds F x0 x1 x2 u = some z) : rx_Ok l G (4 + 0 * F.2) (rx_ny 137) (.code (rx_ny 137) prog_9_method_17_code 4 (some .int)) [.ref x0, .int x1, .int x2] (u.getD hf) (some (.int z.1)) (z.2.getD hf) := by
  have h := h
  unfold f_X7_adds at h
  exact (rx_met (l := l) (G := G) (hf := hf) (as := [.ref x0, .int x1, .int x2]) (r := (some (.int z.1))) (ls0 := [some (.ref x0), some (.int x1), some (.int x2), none]) (y := rx_ny 137) (D := (3 + 0 * F.2)) (ini := false) (bo := false) (u := u) (u' := z.2) (by decide +kernel) (fun h => by cases h) (Nat.le_of_ble_eq_true rfl) (Or.inl ⟨rfl, rfl, _, rfl⟩) (fun Z hZ hB => rx_RT_hI hZ hB) (by exact ⟨Or.inr rfl, Or.inr rfl, Or.inr rfl, Or.inl rfl, trivial⟩) (s_X7_adds_0 (cc_X7_adds F l G z) x0 x1 x2 u h)).deep (by omega)
theorem w_X7_adds (F : Nat × Nat) (l : Launch) (G : rx_G) {α : Type} {z : α} {as : List Value} {u : Option rx_H} {κ : rx_K α} (h : c_X7_adds F as u κ = some z) : rx_Cw l G (4 + 0 * F.2) 137 as u κ z := by
  unfold c_X7_adds at h
  split at h
  · obtain ⟨r, hr, h⟩ := Option.bind_eq_some_iff.mp h
    exact ⟨_, _, _, _, h, k_X7_adds, fun h => absurd h (by decide), fun _ => ⟨_, _, rfl, rfl⟩, fun hf => m_X7_adds F l G hf _ _ _ _ hr⟩
  · cases h
set_option maxRecDepth 100000 in
theorem k_X7_add : rx_Cal (rx_ny 136) (.code (rx_ny 136) prog_9_method_18_code 3 (some .int)) (rx_kd 136) 2 := ⟨prog_9_method_18_code, 3, (some .int), Or.inl rfl, rx_in (i := 831) (by rfl) (by rfl), rx_in (i := 46) (by decide +kernel) (by decide +kernel), ⟨(by decide +kernel), (by decide +kernel), (by decide +kernel)⟩, Nat.le_of_ble_eq_true rfl, fun h => absurd h (by decide), fun _ => ⟨rx_in (i := 829) (by decide +kernel) (by decide +kernel), rx_in (i := 830) (by decide +kernel) (by decide +kernel)⟩, fun h => absurd h (by decide)⟩
set_option maxRecDepth 100000 in
theorem tk_X7_add : (t_X7_add.all (rx_eok "SetHouseModel" prog_9_method_18_code 3 false false) && rx_adj t_X7_add) = true := by decide +kernel
theorem s_X7_add_0 {F : Nat × Nat} {l : Launch} {G : rx_G} {D : Nat} {hf : rx_H} {z : (Int32 × Option rx_H)} (hC : rx_CC l G D (C_X7_add F) z) (x0 : Nat) (x1 : Int32) (x2 : Int32) (u : Option rx_H) (h : f_X7_add_0 F x0 x1 x2 u = some z) : rx_S l G ("SetHouseModel", prog_9_method_18_code, 3, false, false, D) hf (z.2.getD hf) rx_hI z 0 [some (.ref x0), some (.int x1), some (.int x2)] [] u := by
  rw [g_X7_add_0] at h
  refine rx_S_node (md := ("SetHouseModel", prog_9_method_18_code, 3, false, false, D)) tk_X7_add hC rx_m_hI (fun t ls st u h => ?_) h
  unfold kk_X7_add_0 at h
  cases h
theorem cc_X7_add (F : Nat × Nat) (l : Launch) (G : rx_G) {α : Type} (z : α) : rx_CC l G (4 + 0 * F.2) (C_X7_add F) z := by
  intro j as u κ h
  unfold C_X7_add at h
  rcases rx_rec_eq h with ⟨hb, h⟩ | ⟨hb, h⟩
  · have ht := Nat.eq_of_beq_eq_true hb
    subst ht
    exact (w_X7_adds F l G h).deep (by omega)
  rcases rx_rec_eq h with ⟨hb, h⟩ | ⟨hb, h⟩
  · have ht := Nat.eq_of_beq_eq_true hb
    subst ht
    exact (w_X7_isPlace F l G h).deep (by omega)
  rcases rx_rec_eq h with ⟨hb, h⟩ | ⟨hb, h⟩
  · have ht := Nat.eq_of_beq_eq_true hb
    subst ht
    exact (w_X7_isSet F l G h).deep (by omega)
  rcases rx_rec_eq h with ⟨hb, h⟩ | ⟨hb, h⟩
  · have ht := Nat.eq_of_beq_eq_true hb
    subst ht
    exact (w_X7_lacks F l G h).deep (by omega)
  cases h
theorem m_X7_add (F : Nat × Nat) (l : Launch) (G : rx_G) (hf : rx_H) (x0 : Nat) (x1 : Int32) (x2 : Int32) (u : Option rx_H) {z : (Int32 × Option rx_H)} (h : f_X7_add F x0 x1 x2 u = some z) : rx_Ok l G (5 + 0 * F.2) (rx_ny 136) (.code (rx_ny 136) prog_9_method_18_code 3 (some .int)) [.ref x0, .int x1, .int x2] (u.getD hf) (some (.int z.1)) (z.2.getD hf) := by
  have h := h
  unfold f_X7_add at h
  exact (rx_met (l := l) (G := G) (hf := hf) (as := [.ref x0, .int x1, .int x2]) (r := (some (.int z.1))) (ls0 := [some (.ref x0), some (.int x1), some (.int x2)]) (y := rx_ny 136) (D := (4 + 0 * F.2)) (ini := false) (bo := false) (u := u) (u' := z.2) (by decide +kernel) (fun h => by cases h) (Nat.le_of_ble_eq_true rfl) (Or.inl ⟨rfl, rfl, _, rfl⟩) (fun Z hZ hB => rx_RT_hI hZ hB) (by exact ⟨Or.inr rfl, Or.inr rfl, Or.inr rfl, trivial⟩) (s_X7_add_0 (cc_X7_add F l G z) x0 x1 x2 u h)).deep (by omega)
theorem w_X7_add (F : Nat × Nat) (l : Launch) (G : rx_G) {α : Type} {z : α} {as : List Value} {u : Option rx_H} {κ : rx_K α} (h : c_X7_add F as u κ = some z) : rx_Cw l G (5 + 0 * F.2) 136 as u κ z := by
  unfold c_X7_add at h
  split at h
  · obtain ⟨r, hr, h⟩ := Option.bind_eq_some_iff.mp h
    exact ⟨_, _, _, _, h, k_X7_add, fun h => absurd h (by decide), fun _ => ⟨_, _, rfl, rfl⟩, fun hf => m_X7_add F l G hf _ _ _ _ hr⟩
  · cases h
set_option maxRecDepth 100000 in
theorem k_X7_drop : rx_Cal (rx_ny 151) (.code (rx_ny 151) prog_9_method_19_code 4 (some .int)) (rx_kd 151) 2 := ⟨prog_9_method_19_code, 4, (some .int), Or.inl rfl, rx_in (i := 859) (by rfl) (by rfl), rx_in (i := 46) (by decide +kernel) (by decide +kernel), ⟨(by decide +kernel), (by decide +kernel), (by decide +kernel)⟩, Nat.le_of_ble_eq_true rfl, fun h => absurd h (by decide), fun _ => ⟨rx_in (i := 857) (by decide +kernel) (by decide +kernel), rx_in (i := 858) (by decide +kernel) (by decide +kernel)⟩, fun h => absurd h (by decide)⟩
set_option maxRecDepth 100000 in
theorem tk_X7_drop : (t_X7_drop.all (rx_eok "SetHouseModel" prog_9_method_19_code 4 false false) && rx_adj t_X7_drop) = true := by decide +kernel
theorem s_X7_drop_107 {F : Nat × Nat} {l : Launch} {G : rx_G} {D : Nat} {hf : rx_H} {z : (Int32 × Option rx_H)} (hC : rx_CC l G D (C_X7_drop F) z) (x0 : Nat) (x1 : Int32) (x2 : Int32) (u : Option rx_H) (h : f_X7_drop_107 F x0 x1 x2 u = some z) : rx_S l G ("SetHouseModel", prog_9_method_19_code, 4, false, false, D) hf (z.2.getD hf) rx_hI z 107 [some (.ref x0), some (.int x1), some (.int x2), none] [] u := by
  rw [g_X7_drop_107] at h
  refine rx_S_node (md := ("SetHouseModel", prog_9_method_19_code, 4, false, false, D)) tk_X7_drop hC rx_m_hI (fun t ls st u h => ?_) h
  unfold kk_X7_drop_107 at h
  cases h
theorem s_X7_drop_49 {F : Nat × Nat} {l : Launch} {G : rx_G} {D : Nat} {hf : rx_H} {z : (Int32 × Option rx_H)} (hC : rx_CC l G D (C_X7_drop F) z) : ∀ (f : Nat) (x0 : Nat) (x1 : Int32) (x2 : Int32) (x3 : Int32) (u : Option rx_H), f_X7_drop_49 F f x0 x1 x2 x3 u = some z → rx_S l G ("SetHouseModel", prog_9_method_19_code, 4, false, false, D) hf (z.2.getD hf) rx_hI z 49 [some (.ref x0), some (.int x1), some (.int x2), some (.int x3)] [] u := by
  intro f
  induction f with
  | zero =>
    intro x0 x1 x2 x3 u h
    cases h
  | succ f ih =>
    intro x0 x1 x2 x3 u h
    rw [g_X7_drop_49] at h
    refine rx_S_node (md := ("SetHouseModel", prog_9_method_19_code, 4, false, false, D)) tk_X7_drop hC rx_m_hI (fun t ls st u h => ?_) h
    unfold kk_X7_drop_49 at h
    rcases rx_rec_eq h with ⟨hb, h⟩ | ⟨hb, h⟩
    · have ht := Nat.eq_of_beq_eq_true hb
      subst ht
      unfold n_X7_drop_49 at h
      split at h
      · exact (ih _ _ _ _ _ h).le ⟨Or.inr rfl, Or.inr rfl, Or.inr rfl, Or.inr rfl, trivial⟩
      · cases h
    rcases rx_rec_eq h with ⟨hb, h⟩ | ⟨hb, h⟩
    · have ht := Nat.eq_of_beq_eq_true hb
      subst ht
      unfold n_X7_drop_107 at h
      split at h
      · exact (s_X7_drop_107 hC _ _ _ _ h).le ⟨Or.inr rfl, Or.inr rfl, Or.inr rfl, Or.inl rfl, trivial⟩
      · cases h
    cases h
theorem s_X7_drop_0 {F : Nat × Nat} {l : Launch} {G : rx_G} {D : Nat} {hf : rx_H} {z : (Int32 × Option rx_H)} (hC : rx_CC l G D (C_X7_drop F) z) (x0 : Nat) (x1 : Int32) (x2 : Int32) (u : Option rx_H) (h : f_X7_drop_0 F x0 x1 x2 u = some z) : rx_S l G ("SetHouseModel", prog_9_method_19_code, 4, false, false, D) hf (z.2.getD hf) rx_hI z 0 [some (.ref x0), some (.int x1), some (.int x2), none] [] u := by
  rw [g_X7_drop_0] at h
  refine rx_S_node (md := ("SetHouseModel", prog_9_method_19_code, 4, false, false, D)) tk_X7_drop hC rx_m_hI (fun t ls st u h => ?_) h
  unfold kk_X7_drop_0 at h
  rcases rx_rec_eq h with ⟨hb, h⟩ | ⟨hb, h⟩
  · have ht := Nat.eq_of_beq_eq_true hb
    subst ht
    unfold n_X7_drop_49 at h
    split at h
    · exact (s_X7_drop_49 hC _ _ _ _ _ _ h).le ⟨Or.inr rfl, Or.inr rfl, Or.inr rfl, Or.inr rfl, trivial⟩
    · cases h
  cases h
theorem cc_X7_drop (F : Nat × Nat) (l : Launch) (G : rx_G) {α : Type} (z : α) : rx_CC l G (2 + 0 * F.2) (C_X7_drop F) z := by
  intro j as u κ h
  unfold C_X7_drop at h
  rcases rx_rec_eq h with ⟨hb, h⟩ | ⟨hb, h⟩
  · have ht := Nat.eq_of_beq_eq_true hb
    subst ht
    exact (w_X7_has F l G h).deep (by omega)
  rcases rx_rec_eq h with ⟨hb, h⟩ | ⟨hb, h⟩
  · have ht := Nat.eq_of_beq_eq_true hb
    subst ht
    exact (w_X7_isPlace F l G h).deep (by omega)
  rcases rx_rec_eq h with ⟨hb, h⟩ | ⟨hb, h⟩
  · have ht := Nat.eq_of_beq_eq_true hb
    subst ht
    exact (w_X7_isSet F l G h).deep (by omega)
  rcases rx_rec_eq h with ⟨hb, h⟩ | ⟨hb, h⟩
  · have ht := Nat.eq_of_beq_eq_true hb
    subst ht
    exact (w_X7_isWithin F l G h).deep (by omega)
  rcases rx_rec_eq h with ⟨hb, h⟩ | ⟨hb, h⟩
  · have ht := Nat.eq_of_beq_eq_true hb
    subst ht
    exact (w_X7_lacks F l G h).deep (by omega)
  rcases rx_rec_eq h with ⟨hb, h⟩ | ⟨hb, h⟩
  · have ht := Nat.eq_of_beq_eq_true hb
    subst ht
    exact (w_X7_many F l G h).deep (by omega)
  cases h
theorem m_X7_drop (F : Nat × Nat) (l : Launch) (G : rx_G) (hf : rx_H) (x0 : Nat) (x1 : Int32) (x2 : Int32) (u : Option rx_H) {z : (Int32 × Option rx_H)} (h : f_X7_drop F x0 x1 x2 u = some z) : rx_Ok l G (3 + 0 * F.2) (rx_ny 151) (.code (rx_ny 151) prog_9_method_19_code 4 (some .int)) [.ref x0, .int x1, .int x2] (u.getD hf) (some (.int z.1)) (z.2.getD hf) := by
  have h := h
  unfold f_X7_drop at h
  exact (rx_met (l := l) (G := G) (hf := hf) (as := [.ref x0, .int x1, .int x2]) (r := (some (.int z.1))) (ls0 := [some (.ref x0), some (.int x1), some (.int x2), none]) (y := rx_ny 151) (D := (2 + 0 * F.2)) (ini := false) (bo := false) (u := u) (u' := z.2) (by decide +kernel) (fun h => by cases h) (Nat.le_of_ble_eq_true rfl) (Or.inl ⟨rfl, rfl, _, rfl⟩) (fun Z hZ hB => rx_RT_hI hZ hB) (by exact ⟨Or.inr rfl, Or.inr rfl, Or.inr rfl, Or.inl rfl, trivial⟩) (s_X7_drop_0 (cc_X7_drop F l G z) x0 x1 x2 u h)).deep (by omega)
theorem w_X7_drop (F : Nat × Nat) (l : Launch) (G : rx_G) {α : Type} {z : α} {as : List Value} {u : Option rx_H} {κ : rx_K α} (h : c_X7_drop F as u κ = some z) : rx_Cw l G (3 + 0 * F.2) 151 as u κ z := by
  unfold c_X7_drop at h
  split at h
  · obtain ⟨r, hr, h⟩ := Option.bind_eq_some_iff.mp h
    exact ⟨_, _, _, _, h, k_X7_drop, fun h => absurd h (by decide), fun _ => ⟨_, _, rfl, rfl⟩, fun hf => m_X7_drop F l G hf _ _ _ _ hr⟩
  · cases h
set_option maxRecDepth 100000 in
theorem k_X7_clash : rx_Cal (rx_ny 145) (.code (rx_ny 145) prog_9_method_20_code 1 (some .int)) (rx_kd 145) 0 := ⟨prog_9_method_20_code, 1, (some .int), Or.inl rfl, rx_in (i := 864) (by rfl) (by rfl), rx_in (i := 46) (by decide +kernel) (by decide +kernel), ⟨(by decide +kernel), (by decide +kernel), (by decide +kernel)⟩, Nat.le_of_ble_eq_true rfl, fun h => absurd h (by decide), fun _ => ⟨rx_in (i := 862) (by decide +kernel) (by decide +kernel), rx_in (i := 863) (by decide +kernel) (by decide +kernel)⟩, fun h => absurd h (by decide)⟩
set_option maxRecDepth 100000 in
theorem tk_X7_clash : (t_X7_clash.all (rx_eok "SetHouseModel" prog_9_method_20_code 1 false false) && rx_adj t_X7_clash) = true := by decide +kernel
theorem s_X7_clash_0 {F : Nat × Nat} {l : Launch} {G : rx_G} {D : Nat} {hf : rx_H} {z : (Int32 × Option rx_H)} (hC : rx_CC l G D (C_X7_clash F) z) (x0 : Nat) (u : Option rx_H) (h : f_X7_clash_0 F x0 u = some z) : rx_S l G ("SetHouseModel", prog_9_method_20_code, 1, false, false, D) hf (z.2.getD hf) rx_hI z 0 [some (.ref x0)] [] u := by
  rw [g_X7_clash_0] at h
  refine rx_S_node (md := ("SetHouseModel", prog_9_method_20_code, 1, false, false, D)) tk_X7_clash hC rx_m_hI (fun t ls st u h => ?_) h
  unfold kk_X7_clash_0 at h
  cases h
theorem cc_X7_clash (F : Nat × Nat) (l : Launch) (G : rx_G) {α : Type} (z : α) : rx_CC l G (0 + 0 * F.2) (C_X7_clash F) z := by
  intro j as u κ h
  unfold C_X7_clash at h
  cases h
theorem m_X7_clash (F : Nat × Nat) (l : Launch) (G : rx_G) (hf : rx_H) (x0 : Nat) (u : Option rx_H) {z : (Int32 × Option rx_H)} (h : f_X7_clash F x0 u = some z) : rx_Ok l G (1 + 0 * F.2) (rx_ny 145) (.code (rx_ny 145) prog_9_method_20_code 1 (some .int)) [.ref x0] (u.getD hf) (some (.int z.1)) (z.2.getD hf) := by
  have h := h
  unfold f_X7_clash at h
  exact (rx_met (l := l) (G := G) (hf := hf) (as := [.ref x0]) (r := (some (.int z.1))) (ls0 := [some (.ref x0)]) (y := rx_ny 145) (D := (0 + 0 * F.2)) (ini := false) (bo := false) (u := u) (u' := z.2) (by decide +kernel) (fun h => by cases h) (Nat.le_of_ble_eq_true rfl) (Or.inl ⟨rfl, rfl, _, rfl⟩) (fun Z hZ hB => rx_RT_hI hZ hB) (by exact ⟨Or.inr rfl, trivial⟩) (s_X7_clash_0 (cc_X7_clash F l G z) x0 u h)).deep (by omega)
theorem w_X7_clash (F : Nat × Nat) (l : Launch) (G : rx_G) {α : Type} {z : α} {as : List Value} {u : Option rx_H} {κ : rx_K α} (h : c_X7_clash F as u κ = some z) : rx_Cw l G (1 + 0 * F.2) 145 as u κ z := by
  unfold c_X7_clash at h
  split at h
  · obtain ⟨r, hr, h⟩ := Option.bind_eq_some_iff.mp h
    exact ⟨_, _, _, _, h, k_X7_clash, fun h => absurd h (by decide), fun _ => ⟨_, _, rfl, rfl⟩, fun hf => m_X7_clash F l G hf _ _ hr⟩
  · cases h
set_option maxRecDepth 100000 in
theorem k_X7_empty : rx_Cal (rx_ny 154) (.code (rx_ny 154) prog_9_method_21_code 3 (some .int)) (rx_kd 154) 1 := ⟨prog_9_method_21_code, 3, (some .int), Or.inl rfl, rx_in (i := 868) (by rfl) (by rfl), rx_in (i := 46) (by decide +kernel) (by decide +kernel), ⟨(by decide +kernel), (by decide +kernel), (by decide +kernel)⟩, Nat.le_of_ble_eq_true rfl, fun h => absurd h (by decide), fun _ => ⟨rx_in (i := 866) (by decide +kernel) (by decide +kernel), rx_in (i := 867) (by decide +kernel) (by decide +kernel)⟩, fun h => absurd h (by decide)⟩
set_option maxRecDepth 100000 in
theorem tk_X7_empty : (t_X7_empty.all (rx_eok "SetHouseModel" prog_9_method_21_code 3 false false) && rx_adj t_X7_empty) = true := by decide +kernel
theorem s_X7_empty_0 {F : Nat × Nat} {l : Launch} {G : rx_G} {D : Nat} {hf : rx_H} {z : (Int32 × Option rx_H)} (hC : rx_CC l G D (C_X7_empty F) z) (x0 : Nat) (x1 : Int32) (u : Option rx_H) (h : f_X7_empty_0 F x0 x1 u = some z) : rx_S l G ("SetHouseModel", prog_9_method_21_code, 3, false, false, D) hf (z.2.getD hf) rx_hI z 0 [some (.ref x0), some (.int x1), none] [] u := by
  rw [g_X7_empty_0] at h
  refine rx_S_node (md := ("SetHouseModel", prog_9_method_21_code, 3, false, false, D)) tk_X7_empty hC rx_m_hI (fun t ls st u h => ?_) h
  unfold kk_X7_empty_0 at h
  cases h
theorem cc_X7_empty (F : Nat × Nat) (l : Launch) (G : rx_G) {α : Type} (z : α) : rx_CC l G (2 + 0 * F.2) (C_X7_empty F) z := by
  intro j as u κ h
  unfold C_X7_empty at h
  rcases rx_rec_eq h with ⟨hb, h⟩ | ⟨hb, h⟩
  · have ht := Nat.eq_of_beq_eq_true hb
    subst ht
    exact (w_X7_isPlace F l G h).deep (by omega)
  cases h
theorem m_X7_empty (F : Nat × Nat) (l : Launch) (G : rx_G) (hf : rx_H) (x0 : Nat) (x1 : Int32) (u : Option rx_H) {z : (Int32 × Option rx_H)} (h : f_X7_empty F x0 x1 u = some z) : rx_Ok l G (3 + 0 * F.2) (rx_ny 154) (.code (rx_ny 154) prog_9_method_21_code 3 (some .int)) [.ref x0, .int x1] (u.getD hf) (some (.int z.1)) (z.2.getD hf) := by
  have h := h
  unfold f_X7_empty at h
  exact (rx_met (l := l) (G := G) (hf := hf) (as := [.ref x0, .int x1]) (r := (some (.int z.1))) (ls0 := [some (.ref x0), some (.int x1), none]) (y := rx_ny 154) (D := (2 + 0 * F.2)) (ini := false) (bo := false) (u := u) (u' := z.2) (by decide +kernel) (fun h => by cases h) (Nat.le_of_ble_eq_true rfl) (Or.inl ⟨rfl, rfl, _, rfl⟩) (fun Z hZ hB => rx_RT_hI hZ hB) (by exact ⟨Or.inr rfl, Or.inr rfl, Or.inl rfl, trivial⟩) (s_X7_empty_0 (cc_X7_empty F l G z) x0 x1 u h)).deep (by omega)
theorem w_X7_empty (F : Nat × Nat) (l : Launch) (G : rx_G) {α : Type} {z : α} {as : List Value} {u : Option rx_H} {κ : rx_K α} (h : c_X7_empty F as u κ = some z) : rx_Cw l G (3 + 0 * F.2) 154 as u κ z := by
  unfold c_X7_empty at h
  split at h
  · obtain ⟨r, hr, h⟩ := Option.bind_eq_some_iff.mp h
    exact ⟨_, _, _, _, h, k_X7_empty, fun h => absurd h (by decide), fun _ => ⟨_, _, rfl, rfl⟩, fun hf => m_X7_empty F l G hf _ _ _ hr⟩
  · cases h
set_option maxRecDepth 100000 in
theorem k_X7_holds : rx_Cal (rx_ny 167) (.code (rx_ny 167) prog_9_method_22_code 2 (some .int)) (rx_kd 167) 1 := ⟨prog_9_method_22_code, 2, (some .int), Or.inl rfl, rx_in (i := 872) (by rfl) (by rfl), rx_in (i := 46) (by decide +kernel) (by decide +kernel), ⟨(by decide +kernel), (by decide +kernel), (by decide +kernel)⟩, Nat.le_of_ble_eq_true rfl, fun h => absurd h (by decide), fun _ => ⟨rx_in (i := 870) (by decide +kernel) (by decide +kernel), rx_in (i := 871) (by decide +kernel) (by decide +kernel)⟩, fun h => absurd h (by decide)⟩
set_option maxRecDepth 100000 in
theorem tk_X7_holds : (t_X7_holds.all (rx_eok "SetHouseModel" prog_9_method_22_code 2 false false) && rx_adj t_X7_holds) = true := by decide +kernel
theorem s_X7_holds_0 {F : Nat × Nat} {l : Launch} {G : rx_G} {D : Nat} {hf : rx_H} {z : (Int32 × Option rx_H)} (hC : rx_CC l G D (C_X7_holds F) z) (x0 : Nat) (x1 : Int32) (u : Option rx_H) (h : f_X7_holds_0 F x0 x1 u = some z) : rx_S l G ("SetHouseModel", prog_9_method_22_code, 2, false, false, D) hf (z.2.getD hf) rx_hI z 0 [some (.ref x0), some (.int x1)] [] u := by
  rw [g_X7_holds_0] at h
  refine rx_S_node (md := ("SetHouseModel", prog_9_method_22_code, 2, false, false, D)) tk_X7_holds hC rx_m_hI (fun t ls st u h => ?_) h
  unfold kk_X7_holds_0 at h
  cases h
theorem cc_X7_holds (F : Nat × Nat) (l : Launch) (G : rx_G) {α : Type} (z : α) : rx_CC l G (2 + 0 * F.2) (C_X7_holds F) z := by
  intro j as u κ h
  unfold C_X7_holds at h
  rcases rx_rec_eq h with ⟨hb, h⟩ | ⟨hb, h⟩
  · have ht := Nat.eq_of_beq_eq_true hb
    subst ht
    exact (w_X7_isPlace F l G h).deep (by omega)
  cases h
theorem m_X7_holds (F : Nat × Nat) (l : Launch) (G : rx_G) (hf : rx_H) (x0 : Nat) (x1 : Int32) (u : Option rx_H) {z : (Int32 × Option rx_H)} (h : f_X7_holds F x0 x1 u = some z) : rx_Ok l G (3 + 0 * F.2) (rx_ny 167) (.code (rx_ny 167) prog_9_method_22_code 2 (some .int)) [.ref x0, .int x1] (u.getD hf) (some (.int z.1)) (z.2.getD hf) := by
  have h := h
  unfold f_X7_holds at h
  exact (rx_met (l := l) (G := G) (hf := hf) (as := [.ref x0, .int x1]) (r := (some (.int z.1))) (ls0 := [some (.ref x0), some (.int x1)]) (y := rx_ny 167) (D := (2 + 0 * F.2)) (ini := false) (bo := false) (u := u) (u' := z.2) (by decide +kernel) (fun h => by cases h) (Nat.le_of_ble_eq_true rfl) (Or.inl ⟨rfl, rfl, _, rfl⟩) (fun Z hZ hB => rx_RT_hI hZ hB) (by exact ⟨Or.inr rfl, Or.inr rfl, trivial⟩) (s_X7_holds_0 (cc_X7_holds F l G z) x0 x1 u h)).deep (by omega)
theorem w_X7_holds (F : Nat × Nat) (l : Launch) (G : rx_G) {α : Type} {z : α} {as : List Value} {u : Option rx_H} {κ : rx_K α} (h : c_X7_holds F as u κ = some z) : rx_Cw l G (3 + 0 * F.2) 167 as u κ z := by
  unfold c_X7_holds at h
  split at h
  · obtain ⟨r, hr, h⟩ := Option.bind_eq_some_iff.mp h
    exact ⟨_, _, _, _, h, k_X7_holds, fun h => absurd h (by decide), fun _ => ⟨_, _, rfl, rfl⟩, fun hf => m_X7_holds F l G hf _ _ _ hr⟩
  · cases h
set_option maxRecDepth 100000 in
theorem k_X7_sized : rx_Cal (rx_ny 209) (.code (rx_ny 209) prog_9_method_23_code 6 (some .int)) (rx_kd 209) 2 := ⟨prog_9_method_23_code, 6, (some .int), Or.inl rfl, rx_in (i := 880) (by rfl) (by rfl), rx_in (i := 46) (by decide +kernel) (by decide +kernel), ⟨(by decide +kernel), (by decide +kernel), (by decide +kernel)⟩, Nat.le_of_ble_eq_true rfl, fun h => absurd h (by decide), fun _ => ⟨rx_in (i := 879) (by decide +kernel) (by decide +kernel), rx_in (i := 20) (by decide +kernel) (by decide +kernel)⟩, fun h => absurd h (by decide)⟩
set_option maxRecDepth 100000 in
theorem tk_X7_sized : (t_X7_sized.all (rx_eok "SetHouseModel" prog_9_method_23_code 6 false false) && rx_adj t_X7_sized) = true := by decide +kernel
theorem s_X7_sized_6 {F : Nat × Nat} {l : Launch} {G : rx_G} {D : Nat} {hf : rx_H} {z : (Int32 × Option rx_H)} (hC : rx_CC l G D (C_X7_sized F) z) : ∀ (f : Nat) (x0 : Nat) (x1 : Int64) (x3 : Int32) (x4 : Int32) (x5 : Int32) (u : Option rx_H), f_X7_sized_6 F f x0 x1 x3 x4 x5 u = some z → rx_S l G ("SetHouseModel", prog_9_method_23_code, 6, false, false, D) hf (z.2.getD hf) rx_hI z 6 [some (.ref x0), some (.long x1), none, some (.int x3), some (.int x4), some (.int x5)] [] u := by
  intro f
  induction f with
  | zero =>
    intro x0 x1 x3 x4 x5 u h
    cases h
  | succ f ih =>
    intro x0 x1 x3 x4 x5 u h
    rw [g_X7_sized_6] at h
    refine rx_S_node (md := ("SetHouseModel", prog_9_method_23_code, 6, false, false, D)) tk_X7_sized hC rx_m_hI (fun t ls st u h => ?_) h
    unfold kk_X7_sized_6 at h
    rcases rx_rec_eq h with ⟨hb, h⟩ | ⟨hb, h⟩
    · have ht := Nat.eq_of_beq_eq_true hb
      subst ht
      unfold n_X7_sized_6 at h
      split at h
      · exact (ih _ _ _ _ _ _ h).le ⟨Or.inr rfl, Or.inr rfl, Or.inl rfl, Or.inr rfl, Or.inr rfl, Or.inr rfl, trivial⟩
      · cases h
    cases h
theorem s_X7_sized_0 {F : Nat × Nat} {l : Launch} {G : rx_G} {D : Nat} {hf : rx_H} {z : (Int32 × Option rx_H)} (hC : rx_CC l G D (C_X7_sized F) z) (x0 : Nat) (x1 : Int64) (x3 : Int32) (u : Option rx_H) (h : f_X7_sized_0 F x0 x1 x3 u = some z) : rx_S l G ("SetHouseModel", prog_9_method_23_code, 6, false, false, D) hf (z.2.getD hf) rx_hI z 0 [some (.ref x0), some (.long x1), none, some (.int x3), none, none] [] u := by
  rw [g_X7_sized_0] at h
  refine rx_S_node (md := ("SetHouseModel", prog_9_method_23_code, 6, false, false, D)) tk_X7_sized hC rx_m_hI (fun t ls st u h => ?_) h
  unfold kk_X7_sized_0 at h
  rcases rx_rec_eq h with ⟨hb, h⟩ | ⟨hb, h⟩
  · have ht := Nat.eq_of_beq_eq_true hb
    subst ht
    unfold n_X7_sized_6 at h
    split at h
    · exact (s_X7_sized_6 hC _ _ _ _ _ _ _ h).le ⟨Or.inr rfl, Or.inr rfl, Or.inl rfl, Or.inr rfl, Or.inr rfl, Or.inr rfl, trivial⟩
    · cases h
  cases h
theorem cc_X7_sized (F : Nat × Nat) (l : Launch) (G : rx_G) {α : Type} (z : α) : rx_CC l G (1 + 0 * F.2) (C_X7_sized F) z := by
  intro j as u κ h
  unfold C_X7_sized at h
  rcases rx_rec_eq h with ⟨hb, h⟩ | ⟨hb, h⟩
  · have ht := Nat.eq_of_beq_eq_true hb
    subst ht
    exact (w_X7_has F l G h).deep (by omega)
  rcases rx_rec_eq h with ⟨hb, h⟩ | ⟨hb, h⟩
  · have ht := Nat.eq_of_beq_eq_true hb
    subst ht
    exact (w_X7_ones F l G h).deep (by omega)
  cases h
theorem m_X7_sized (F : Nat × Nat) (l : Launch) (G : rx_G) (hf : rx_H) (x0 : Nat) (x1 : Int64) (x3 : Int32) (u : Option rx_H) {z : (Int32 × Option rx_H)} (h : f_X7_sized F x0 x1 x3 u = some z) : rx_Ok l G (2 + 0 * F.2) (rx_ny 209) (.code (rx_ny 209) prog_9_method_23_code 6 (some .int)) [.ref x0, .long x1, .int x3] (u.getD hf) (some (.int z.1)) (z.2.getD hf) := by
  have h := h
  unfold f_X7_sized at h
  exact (rx_met (l := l) (G := G) (hf := hf) (as := [.ref x0, .long x1, .int x3]) (r := (some (.int z.1))) (ls0 := [some (.ref x0), some (.long x1), none, some (.int x3), none, none]) (y := rx_ny 209) (D := (1 + 0 * F.2)) (ini := false) (bo := false) (u := u) (u' := z.2) (by decide +kernel) (fun h => by cases h) (Nat.le_of_ble_eq_true rfl) (Or.inl ⟨rfl, rfl, _, rfl⟩) (fun Z hZ hB => rx_RT_hI hZ hB) (by exact ⟨Or.inr rfl, Or.inr rfl, Or.inl rfl, Or.inr rfl, Or.inl rfl, Or.inl rfl, trivial⟩) (s_X7_sized_0 (cc_X7_sized F l G z) x0 x1 x3 u h)).deep (by omega)
theorem w_X7_sized (F : Nat × Nat) (l : Launch) (G : rx_G) {α : Type} {z : α} {as : List Value} {u : Option rx_H} {κ : rx_K α} (h : c_X7_sized F as u κ = some z) : rx_Cw l G (2 + 0 * F.2) 209 as u κ z := by
  unfold c_X7_sized at h
  split at h
  · obtain ⟨r, hr, h⟩ := Option.bind_eq_some_iff.mp h
    exact ⟨_, _, _, _, h, k_X7_sized, fun h => absurd h (by decide), fun _ => ⟨_, _, rfl, rfl⟩, fun hf => m_X7_sized F l G hf _ _ _ _ hr⟩
  · cases h
set_option maxRecDepth 100000 in
theorem k_X7_count : rx_Cal (rx_ny 148) (.code (rx_ny 148) prog_9_method_24_code 3 (some .int)) (rx_kd 148) 2 := ⟨prog_9_method_24_code, 3, (some .int), Or.inl rfl, rx_in (i := 876) (by rfl) (by rfl), rx_in (i := 46) (by decide +kernel) (by decide +kernel), ⟨(by decide +kernel), (by decide +kernel), (by decide +kernel)⟩, Nat.le_of_ble_eq_true rfl, fun h => absurd h (by decide), fun _ => ⟨rx_in (i := 874) (by decide +kernel) (by decide +kernel), rx_in (i := 875) (by decide +kernel) (by decide +kernel)⟩, fun h => absurd h (by decide)⟩
set_option maxRecDepth 100000 in
theorem tk_X7_count : (t_X7_count.all (rx_eok "SetHouseModel" prog_9_method_24_code 3 false false) && rx_adj t_X7_count) = true := by decide +kernel
theorem s_X7_count_0 {F : Nat × Nat} {l : Launch} {G : rx_G} {D : Nat} {hf : rx_H} {z : (Int32 × Option rx_H)} (hC : rx_CC l G D (C_X7_count F) z) (x0 : Nat) (x1 : Int32) (x2 : Int32) (u : Option rx_H) (h : f_X7_count_0 F x0 x1 x2 u = some z) : rx_S l G ("SetHouseModel", prog_9_method_24_code, 3, false, false, D) hf (z.2.getD hf) rx_hI z 0 [some (.ref x0), some (.int x1), some (.int x2)] [] u := by
  rw [g_X7_count_0] at h
  refine rx_S_node (md := ("SetHouseModel", prog_9_method_24_code, 3, false, false, D)) tk_X7_count hC rx_m_hI (fun t ls st u h => ?_) h
  unfold kk_X7_count_0 at h
  cases h
theorem cc_X7_count (F : Nat × Nat) (l : Launch) (G : rx_G) {α : Type} (z : α) : rx_CC l G (2 + 0 * F.2) (C_X7_count F) z := by
  intro j as u κ h
  unfold C_X7_count at h
  rcases rx_rec_eq h with ⟨hb, h⟩ | ⟨hb, h⟩
  · have ht := Nat.eq_of_beq_eq_true hb
    subst ht
    exact (w_X7_isIn F l G h).deep (by omega)
  rcases rx_rec_eq h with ⟨hb, h⟩ | ⟨hb, h⟩
  · have ht := Nat.eq_of_beq_eq_true hb
    subst ht
    exact (w_X7_isPlace F l G h).deep (by omega)
  rcases rx_rec_eq h with ⟨hb, h⟩ | ⟨hb, h⟩
  · have ht := Nat.eq_of_beq_eq_true hb
    subst ht
    exact (w_X7_lacks F l G h).deep (by omega)
  rcases rx_rec_eq h with ⟨hb, h⟩ | ⟨hb, h⟩
  · have ht := Nat.eq_of_beq_eq_true hb
    subst ht
    exact (w_X7_many F l G h).deep (by omega)
  rcases rx_rec_eq h with ⟨hb, h⟩ | ⟨hb, h⟩
  · have ht := Nat.eq_of_beq_eq_true hb
    subst ht
    exact (w_X7_sized F l G h).deep (by omega)
  cases h
theorem m_X7_count (F : Nat × Nat) (l : Launch) (G : rx_G) (hf : rx_H) (x0 : Nat) (x1 : Int32) (x2 : Int32) (u : Option rx_H) {z : (Int32 × Option rx_H)} (h : f_X7_count F x0 x1 x2 u = some z) : rx_Ok l G (3 + 0 * F.2) (rx_ny 148) (.code (rx_ny 148) prog_9_method_24_code 3 (some .int)) [.ref x0, .int x1, .int x2] (u.getD hf) (some (.int z.1)) (z.2.getD hf) := by
  have h := h
  unfold f_X7_count at h
  exact (rx_met (l := l) (G := G) (hf := hf) (as := [.ref x0, .int x1, .int x2]) (r := (some (.int z.1))) (ls0 := [some (.ref x0), some (.int x1), some (.int x2)]) (y := rx_ny 148) (D := (2 + 0 * F.2)) (ini := false) (bo := false) (u := u) (u' := z.2) (by decide +kernel) (fun h => by cases h) (Nat.le_of_ble_eq_true rfl) (Or.inl ⟨rfl, rfl, _, rfl⟩) (fun Z hZ hB => rx_RT_hI hZ hB) (by exact ⟨Or.inr rfl, Or.inr rfl, Or.inr rfl, trivial⟩) (s_X7_count_0 (cc_X7_count F l G z) x0 x1 x2 u h)).deep (by omega)
theorem w_X7_count (F : Nat × Nat) (l : Launch) (G : rx_G) {α : Type} {z : α} {as : List Value} {u : Option rx_H} {κ : rx_K α} (h : c_X7_count F as u κ = some z) : rx_Cw l G (3 + 0 * F.2) 148 as u κ z := by
  unfold c_X7_count at h
  split at h
  · obtain ⟨r, hr, h⟩ := Option.bind_eq_some_iff.mp h
    exact ⟨_, _, _, _, h, k_X7_count, fun h => absurd h (by decide), fun _ => ⟨_, _, rfl, rfl⟩, fun hf => m_X7_count F l G hf _ _ _ _ hr⟩
  · cases h
set_option maxRecDepth 100000 in
theorem k_X7_has_ : rx_Cal (rx_ny 164) (.code (rx_ny 164) prog_9_method_25_code 3 (some .int)) (rx_kd 164) 2 := ⟨prog_9_method_25_code, 3, (some .int), Or.inl rfl, rx_in (i := 884) (by rfl) (by rfl), rx_in (i := 46) (by decide +kernel) (by decide +kernel), ⟨(by decide +kernel), (by decide +kernel), (by decide +kernel)⟩, Nat.le_of_ble_eq_true rfl, fun h => absurd h (by decide), fun _ => ⟨rx_in (i := 882) (by decide +kernel) (by decide +kernel), rx_in (i := 883) (by decide +kernel) (by decide +kernel)⟩, fun h => absurd h (by decide)⟩
set_option maxRecDepth 100000 in
theorem tk_X7_has_ : (t_X7_has_.all (rx_eok "SetHouseModel" prog_9_method_25_code 3 false false) && rx_adj t_X7_has_) = true := by decide +kernel
theorem s_X7_has__0 {F : Nat × Nat} {l : Launch} {G : rx_G} {D : Nat} {hf : rx_H} {z : (Int32 × Option rx_H)} (hC : rx_CC l G D (C_X7_has_ F) z) (x0 : Nat) (x1 : Int32) (x2 : Int32) (u : Option rx_H) (h : f_X7_has__0 F x0 x1 x2 u = some z) : rx_S l G ("SetHouseModel", prog_9_method_25_code, 3, false, false, D) hf (z.2.getD hf) rx_hI z 0 [some (.ref x0), some (.int x1), some (.int x2)] [] u := by
  rw [g_X7_has__0] at h
  refine rx_S_node (md := ("SetHouseModel", prog_9_method_25_code, 3, false, false, D)) tk_X7_has_ hC rx_m_hI (fun t ls st u h => ?_) h
  unfold kk_X7_has__0 at h
  cases h
theorem cc_X7_has_ (F : Nat × Nat) (l : Launch) (G : rx_G) {α : Type} (z : α) : rx_CC l G (2 + 0 * F.2) (C_X7_has_ F) z := by
  intro j as u κ h
  unfold C_X7_has_ at h
  rcases rx_rec_eq h with ⟨hb, h⟩ | ⟨hb, h⟩
  · have ht := Nat.eq_of_beq_eq_true hb
    subst ht
    exact (w_X7_has F l G h).deep (by omega)
  rcases rx_rec_eq h with ⟨hb, h⟩ | ⟨hb, h⟩
  · have ht := Nat.eq_of_beq_eq_true hb
    subst ht
    exact (w_X7_isPlace F l G h).deep (by omega)
  rcases rx_rec_eq h with ⟨hb, h⟩ | ⟨hb, h⟩
  · have ht := Nat.eq_of_beq_eq_true hb
    subst ht
    exact (w_X7_isSet F l G h).deep (by omega)
  rcases rx_rec_eq h with ⟨hb, h⟩ | ⟨hb, h⟩
  · have ht := Nat.eq_of_beq_eq_true hb
    subst ht
    exact (w_X7_lacks F l G h).deep (by omega)
  cases h
theorem m_X7_has_ (F : Nat × Nat) (l : Launch) (G : rx_G) (hf : rx_H) (x0 : Nat) (x1 : Int32) (x2 : Int32) (u : Option rx_H) {z : (Int32 × Option rx_H)} (h : f_X7_has_ F x0 x1 x2 u = some z) : rx_Ok l G (3 + 0 * F.2) (rx_ny 164) (.code (rx_ny 164) prog_9_method_25_code 3 (some .int)) [.ref x0, .int x1, .int x2] (u.getD hf) (some (.int z.1)) (z.2.getD hf) := by
  have h := h
  unfold f_X7_has_ at h
  exact (rx_met (l := l) (G := G) (hf := hf) (as := [.ref x0, .int x1, .int x2]) (r := (some (.int z.1))) (ls0 := [some (.ref x0), some (.int x1), some (.int x2)]) (y := rx_ny 164) (D := (2 + 0 * F.2)) (ini := false) (bo := false) (u := u) (u' := z.2) (by decide +kernel) (fun h => by cases h) (Nat.le_of_ble_eq_true rfl) (Or.inl ⟨rfl, rfl, _, rfl⟩) (fun Z hZ hB => rx_RT_hI hZ hB) (by exact ⟨Or.inr rfl, Or.inr rfl, Or.inr rfl, trivial⟩) (s_X7_has__0 (cc_X7_has_ F l G z) x0 x1 x2 u h)).deep (by omega)
theorem w_X7_has_ (F : Nat × Nat) (l : Launch) (G : rx_G) {α : Type} {z : α} {as : List Value} {u : Option rx_H} {κ : rx_K α} (h : c_X7_has_ F as u κ = some z) : rx_Cw l G (3 + 0 * F.2) 164 as u κ z := by
  unfold c_X7_has_ at h
  split at h
  · obtain ⟨r, hr, h⟩ := Option.bind_eq_some_iff.mp h
    exact ⟨_, _, _, _, h, k_X7_has_, fun h => absurd h (by decide), fun _ => ⟨_, _, rfl, rfl⟩, fun hf => m_X7_has_ F l G hf _ _ _ _ hr⟩
  · cases h
set_option maxRecDepth 100000 in
theorem k_X7_set : rx_Cal (rx_ny 204) (.code (rx_ny 204) prog_9_method_26_code 5 (some .int)) (rx_kd 204) 2 := ⟨prog_9_method_26_code, 5, (some .int), Or.inl rfl, rx_in (i := 888) (by rfl) (by rfl), rx_in (i := 46) (by decide +kernel) (by decide +kernel), ⟨(by decide +kernel), (by decide +kernel), (by decide +kernel)⟩, Nat.le_of_ble_eq_true rfl, fun h => absurd h (by decide), fun _ => ⟨rx_in (i := 886) (by decide +kernel) (by decide +kernel), rx_in (i := 887) (by decide +kernel) (by decide +kernel)⟩, fun h => absurd h (by decide)⟩
set_option maxRecDepth 100000 in
theorem tk_X7_set : (t_X7_set.all (rx_eok "SetHouseModel" prog_9_method_26_code 5 false false) && rx_adj t_X7_set) = true := by decide +kernel
theorem s_X7_set_32 {F : Nat × Nat} {l : Launch} {G : rx_G} {D : Nat} {hf : rx_H} {z : (Int32 × Option rx_H)} (hC : rx_CC l G D (C_X7_set F) z) : ∀ (f : Nat) (x0 : Nat) (x1 : Int32) (x3 : Int32) (x4 : Int32) (u : Option rx_H), f_X7_set_32 F f x0 x1 x3 x4 u = some z → rx_S l G ("SetHouseModel", prog_9_method_26_code, 5, false, false, D) hf (z.2.getD hf) rx_hI z 32 [some (.ref x0), some (.int x1), none, some (.int x3), some (.int x4)] [] u := by
  intro f
  induction f with
  | zero =>
    intro x0 x1 x3 x4 u h
    cases h
  | succ f ih =>
    intro x0 x1 x3 x4 u h
    rw [g_X7_set_32] at h
    refine rx_S_node (md := ("SetHouseModel", prog_9_method_26_code, 5, false, false, D)) tk_X7_set hC rx_m_hI (fun t ls st u h => ?_) h
    unfold kk_X7_set_32 at h
    rcases rx_rec_eq h with ⟨hb, h⟩ | ⟨hb, h⟩
    · have ht := Nat.eq_of_beq_eq_true hb
      subst ht
      unfold n_X7_set_32 at h
      split at h
      · exact (ih _ _ _ _ _ h).le ⟨Or.inr rfl, Or.inr rfl, Or.inl rfl, Or.inr rfl, Or.inr rfl, trivial⟩
      · cases h
    cases h
theorem s_X7_set_0 {F : Nat × Nat} {l : Launch} {G : rx_G} {D : Nat} {hf : rx_H} {z : (Int32 × Option rx_H)} (hC : rx_CC l G D (C_X7_set F) z) (x0 : Nat) (x1 : Int32) (x2 : Int32) (u : Option rx_H) (h : f_X7_set_0 F x0 x1 x2 u = some z) : rx_S l G ("SetHouseModel", prog_9_method_26_code, 5, false, false, D) hf (z.2.getD hf) rx_hI z 0 [some (.ref x0), some (.int x1), some (.int x2), none, none] [] u := by
  rw [g_X7_set_0] at h
  refine rx_S_node (md := ("SetHouseModel", prog_9_method_26_code, 5, false, false, D)) tk_X7_set hC rx_m_hI (fun t ls st u h => ?_) h
  unfold kk_X7_set_0 at h
  rcases rx_rec_eq h with ⟨hb, h⟩ | ⟨hb, h⟩
  · have ht := Nat.eq_of_beq_eq_true hb
    subst ht
    unfold n_X7_set_32 at h
    split at h
    · exact (s_X7_set_32 hC _ _ _ _ _ _ h).le ⟨Or.inr rfl, Or.inr rfl, Or.inl rfl, Or.inr rfl, Or.inr rfl, trivial⟩
    · cases h
  cases h
theorem cc_X7_set (F : Nat × Nat) (l : Launch) (G : rx_G) {α : Type} (z : α) : rx_CC l G (2 + 0 * F.2) (C_X7_set F) z := by
  intro j as u κ h
  unfold C_X7_set at h
  rcases rx_rec_eq h with ⟨hb, h⟩ | ⟨hb, h⟩
  · have ht := Nat.eq_of_beq_eq_true hb
    subst ht
    exact (w_X7_has F l G h).deep (by omega)
  rcases rx_rec_eq h with ⟨hb, h⟩ | ⟨hb, h⟩
  · have ht := Nat.eq_of_beq_eq_true hb
    subst ht
    exact (w_X7_isPlace F l G h).deep (by omega)
  rcases rx_rec_eq h with ⟨hb, h⟩ | ⟨hb, h⟩
  · have ht := Nat.eq_of_beq_eq_true hb
    subst ht
    exact (w_X7_lacks F l G h).deep (by omega)
  cases h
theorem m_X7_set (F : Nat × Nat) (l : Launch) (G : rx_G) (hf : rx_H) (x0 : Nat) (x1 : Int32) (x2 : Int32) (u : Option rx_H) {z : (Int32 × Option rx_H)} (h : f_X7_set F x0 x1 x2 u = some z) : rx_Ok l G (3 + 0 * F.2) (rx_ny 204) (.code (rx_ny 204) prog_9_method_26_code 5 (some .int)) [.ref x0, .int x1, .int x2] (u.getD hf) (some (.int z.1)) (z.2.getD hf) := by
  have h := h
  unfold f_X7_set at h
  exact (rx_met (l := l) (G := G) (hf := hf) (as := [.ref x0, .int x1, .int x2]) (r := (some (.int z.1))) (ls0 := [some (.ref x0), some (.int x1), some (.int x2), none, none]) (y := rx_ny 204) (D := (2 + 0 * F.2)) (ini := false) (bo := false) (u := u) (u' := z.2) (by decide +kernel) (fun h => by cases h) (Nat.le_of_ble_eq_true rfl) (Or.inl ⟨rfl, rfl, _, rfl⟩) (fun Z hZ hB => rx_RT_hI hZ hB) (by exact ⟨Or.inr rfl, Or.inr rfl, Or.inr rfl, Or.inl rfl, Or.inl rfl, trivial⟩) (s_X7_set_0 (cc_X7_set F l G z) x0 x1 x2 u h)).deep (by omega)
theorem w_X7_set (F : Nat × Nat) (l : Launch) (G : rx_G) {α : Type} {z : α} {as : List Value} {u : Option rx_H} {κ : rx_K α} (h : c_X7_set F as u κ = some z) : rx_Cw l G (3 + 0 * F.2) 204 as u κ z := by
  unfold c_X7_set at h
  split at h
  · obtain ⟨r, hr, h⟩ := Option.bind_eq_some_iff.mp h
    exact ⟨_, _, _, _, h, k_X7_set, fun h => absurd h (by decide), fun _ => ⟨_, _, rfl, rfl⟩, fun hf => m_X7_set F l G hf _ _ _ _ hr⟩
  · cases h
set_option maxRecDepth 100000 in
theorem k_X7_is : rx_Cal (rx_ny 170) (.code (rx_ny 170) prog_9_method_28_code 10 (some .int)) (rx_kd 170) 3 := ⟨prog_9_method_28_code, 10, (some .int), Or.inl rfl, rx_in (i := 892) (by rfl) (by rfl), rx_in (i := 46) (by decide +kernel) (by decide +kernel), ⟨(by decide +kernel), (by decide +kernel), (by decide +kernel)⟩, Nat.le_of_ble_eq_true rfl, fun h => absurd h (by decide), fun _ => ⟨rx_in (i := 890) (by decide +kernel) (by decide +kernel), rx_in (i := 891) (by decide +kernel) (by decide +kernel)⟩, fun h => absurd h (by decide)⟩
set_option maxRecDepth 100000 in
theorem tk_X7_is : (t_X7_is.all (rx_eok "SetHouseModel" prog_9_method_28_code 10 false false) && rx_adj t_X7_is) = true := by decide +kernel
theorem s_X7_is_166 {F : Nat × Nat} {l : Launch} {G : rx_G} {D : Nat} {hf : rx_H} {z : (Int32 × Option rx_H)} (hC : rx_CC l G D (C_X7_is F) z) (x0 : Nat) (x6 : Int32) (x7 : Int32) (x8 : Int32) (u : Option rx_H) (h : f_X7_is_166 F x0 x6 x7 x8 u = some z) : rx_S l G ("SetHouseModel", prog_9_method_28_code, 10, false, false, D) hf (z.2.getD hf) rx_hI z 166 [some (.ref x0), none, none, none, none, none, some (.int x6), some (.int x7), some (.int x8), none] [] u := by
  rw [g_X7_is_166] at h
  refine rx_S_node (md := ("SetHouseModel", prog_9_method_28_code, 10, false, false, D)) tk_X7_is hC rx_m_hI (fun t ls st u h => ?_) h
  unfold kk_X7_is_166 at h
  cases h
theorem s_X7_is_151 {F : Nat × Nat} {l : Launch} {G : rx_G} {D : Nat} {hf : rx_H} {z : (Int32 × Option rx_H)} (hC : rx_CC l G D (C_X7_is F) z) {k43 : Nat → Int32 → Int32 → Int64 → Int32 → Option rx_H → Option (Int32 × Option rx_H)} (hk43 : ∀ (x0 : Nat) (x2 : Int32) (x3 : Int32) (x4 : Int64) (x6 : Int32) (u : Option rx_H), k43 x0 x2 x3 x4 x6 u = some z → rx_S l G ("SetHouseModel", prog_9_method_28_code, 10, false, false, D) hf (z.2.getD hf) rx_hI z 43 [some (.ref x0), none, some (.int x2), some (.int x3), some (.long x4), none, some (.int x6), none, none, none] [] u) {k68 : Nat → Int32 → Int32 → Int64 → Int32 → Int32 → Option rx_H → Option (Int32 × Option rx_H)} (hk68 : ∀ (x0 : Nat) (x2 : Int32) (x3 : Int32) (x4 : Int64) (x6 : Int32) (x7 : Int32) (u : Option rx_H), k68 x0 x2 x3 x4 x6 x7 u = some z → rx_S l G ("SetHouseModel", prog_9_method_28_code, 10, false, false, D) hf (z.2.getD hf) rx_hI z 68 [some (.ref x0), none, some (.int x2), some (.int x3), some (.long x4), none, some (.int x6), some (.int x7), none, none] [] u) (x0 : Nat) (x2 : Int32) (x3 : Int32) (x4 : Int64) (x6 : Int32) (x7 : Int32) (x8 : Int32) (s0 : Int32) (u : Option rx_H) (h : f_X7_is_151 F k43 k68 x0 x2 x3 x4 x6 x7 x8 s0 u = some z) : rx_S l G ("SetHouseModel", prog_9_method_28_code, 10, false, false, D) hf (z.2.getD hf) rx_hI z 151 [some (.ref x0), none, some (.int x2), some (.int x3), some (.long x4), none, some (.int x6), some (.int x7), some (.int x8), none] [.int s0] u := by
  rw [g_X7_is_151] at h
  refine rx_S_node (md := ("SetHouseModel", prog_9_method_28_code, 10, false, false, D)) tk_X7_is hC rx_m_hI (fun t ls st u h => ?_) h
  unfold kk_X7_is_151 at h
  rcases rx_rec_eq h with ⟨hb, h⟩ | ⟨hb, h⟩
  · have ht := Nat.eq_of_beq_eq_true hb
    subst ht
    unfold n_X7_is_68 at h
    split at h
    · exact (hk68 _ _ _ _ _ _ _ h).le ⟨Or.inr rfl, Or.inl rfl, Or.inr rfl, Or.inr rfl, Or.inr rfl, Or.inl rfl, Or.inr rfl, Or.inr rfl, Or.inl rfl, Or.inl rfl, trivial⟩
    · cases h
  rcases rx_rec_eq h with ⟨hb, h⟩ | ⟨hb, h⟩
  · have ht := Nat.eq_of_beq_eq_true hb
    subst ht
    unfold n_X7_is_166 at h
    split at h
    · exact (s_X7_is_166 hC _ _ _ _ _ h).le ⟨Or.inr rfl, Or.inl rfl, Or.inl rfl, Or.inl rfl, Or.inl rfl, Or.inl rfl, Or.inr rfl, Or.inr rfl, Or.inr rfl, Or.inl rfl, trivial⟩
    · cases h
  cases h
theorem s_X7_is_119 {F : Nat × Nat} {l : Launch} {G : rx_G} {D : Nat} {hf : rx_H} {z : (Int32 × Option rx_H)} (hC : rx_CC l G D (C_X7_is F) z) {k43 : Nat → Int32 → Int32 → Int64 → Int32 → Option rx_H → Option (Int32 × Option rx_H)} (hk43 : ∀ (x0 : Nat) (x2 : Int32) (x3 : Int32) (x4 : Int64) (x6 : Int32) (u : Option rx_H), k43 x0 x2 x3 x4 x6 u = some z → rx_S l G ("SetHouseModel", prog_9_method_28_code, 10, false, false, D) hf (z.2.getD hf) rx_hI z 43 [some (.ref x0), none, some (.int x2), some (.int x3), some (.long x4), none, some (.int x6), none, none, none] [] u) {k68 : Nat → Int32 → Int32 → Int64 → Int32 → Int32 → Option rx_H → Option (Int32 × Option rx_H)} (hk68 : ∀ (x0 : Nat) (x2 : Int32) (x3 : Int32) (x4 : Int64) (x6 : Int32) (x7 : Int32) (u : Option rx_H), k68 x0 x2 x3 x4 x6 x7 u = some z → rx_S l G ("SetHouseModel", prog_9_method_28_code, 10, false, false, D) hf (z.2.getD hf) rx_hI z 68 [some (.ref x0), none, some (.int x2), some (.int x3), some (.long x4), none, some (.int x6), some (.int x7), none, none] [] u) (x0 : Nat) (x2 : Int32) (x3 : Int32) (x4 : Int64) (x6 : Int32) (x7 : Int32) (s0 : Int32) (u : Option rx_H) (h : f_X7_is_119 F k43 k68 x0 x2 x3 x4 x6 x7 s0 u = some z) : rx_S l G ("SetHouseModel", prog_9_method_28_code, 10, false, false, D) hf (z.2.getD hf) rx_hI z 119 [some (.ref x0), none, some (.int x2), some (.int x3), some (.long x4), none, some (.int x6), some (.int x7), none, none] [.int s0] u := by
  rw [g_X7_is_119] at h
  refine rx_S_node (md := ("SetHouseModel", prog_9_method_28_code, 10, false, false, D)) tk_X7_is hC rx_m_hI (fun t ls st u h => ?_) h
  unfold kk_X7_is_119 at h
  rcases rx_rec_eq h with ⟨hb, h⟩ | ⟨hb, h⟩
  · have ht := Nat.eq_of_beq_eq_true hb
    subst ht
    unfold n_X7_is_151 at h
    split at h
    · exact (s_X7_is_151 hC hk43 hk68 _ _ _ _ _ _ _ _ _ h).le ⟨Or.inr rfl, Or.inl rfl, Or.inr rfl, Or.inr rfl, Or.inr rfl, Or.inl rfl, Or.inr rfl, Or.inr rfl, Or.inr rfl, Or.inl rfl, trivial⟩
    · cases h
  cases h
theorem s_X7_is_68 {F : Nat × Nat} {l : Launch} {G : rx_G} {D : Nat} {hf : rx_H} {z : (Int32 × Option rx_H)} (hC : rx_CC l G D (C_X7_is F) z) {k43 : Nat → Int32 → Int32 → Int64 → Int32 → Option rx_H → Option (Int32 × Option rx_H)} (hk43 : ∀ (x0 : Nat) (x2 : Int32) (x3 : Int32) (x4 : Int64) (x6 : Int32) (u : Option rx_H), k43 x0 x2 x3 x4 x6 u = some z → rx_S l G ("SetHouseModel", prog_9_method_28_code, 10, false, false, D) hf (z.2.getD hf) rx_hI z 43 [some (.ref x0), none, some (.int x2), some (.int x3), some (.long x4), none, some (.int x6), none, none, none] [] u) : ∀ (f : Nat) (x0 : Nat) (x2 : Int32) (x3 : Int32) (x4 : Int64) (x6 : Int32) (x7 : Int32) (u : Option rx_H), f_X7_is_68 F k43 f x0 x2 x3 x4 x6 x7 u = some z → rx_S l G ("SetHouseModel", prog_9_method_28_code, 10, false, false, D) hf (z.2.getD hf) rx_hI z 68 [some (.ref x0), none, some (.int x2), some (.int x3), some (.long x4), none, some (.int x6), some (.int x7), none, none] [] u := by
  intro f
  induction f with
  | zero =>
    intro x0 x2 x3 x4 x6 x7 u h
    cases h
  | succ f ih =>
    intro x0 x2 x3 x4 x6 x7 u h
    rw [g_X7_is_68] at h
    refine rx_S_node (md := ("SetHouseModel", prog_9_method_28_code, 10, false, false, D)) tk_X7_is hC rx_m_hI (fun t ls st u h => ?_) h
    unfold kk_X7_is_68 at h
    rcases rx_rec_eq h with ⟨hb, h⟩ | ⟨hb, h⟩
    · have ht := Nat.eq_of_beq_eq_true hb
      subst ht
      unfold n_X7_is_43 at h
      split at h
      · exact (hk43 _ _ _ _ _ _ h).le ⟨Or.inr rfl, Or.inl rfl, Or.inr rfl, Or.inr rfl, Or.inr rfl, Or.inl rfl, Or.inr rfl, Or.inl rfl, Or.inl rfl, Or.inl rfl, trivial⟩
      · cases h
    rcases rx_rec_eq h with ⟨hb, h⟩ | ⟨hb, h⟩
    · have ht := Nat.eq_of_beq_eq_true hb
      subst ht
      unfold n_X7_is_119 at h
      split at h
      · exact (s_X7_is_119 hC hk43 ih _ _ _ _ _ _ _ _ h).le ⟨Or.inr rfl, Or.inl rfl, Or.inr rfl, Or.inr rfl, Or.inr rfl, Or.inl rfl, Or.inr rfl, Or.inr rfl, Or.inl rfl, Or.inl rfl, trivial⟩
      · cases h
    cases h
theorem s_X7_is_43 {F : Nat × Nat} {l : Launch} {G : rx_G} {D : Nat} {hf : rx_H} {z : (Int32 × Option rx_H)} (hC : rx_CC l G D (C_X7_is F) z) : ∀ (f : Nat) (x0 : Nat) (x2 : Int32) (x3 : Int32) (x4 : Int64) (x6 : Int32) (u : Option rx_H), f_X7_is_43 F f x0 x2 x3 x4 x6 u = some z → rx_S l G ("SetHouseModel", prog_9_method_28_code, 10, false, false, D) hf (z.2.getD hf) rx_hI z 43 [some (.ref x0), none, some (.int x2), some (.int x3), some (.long x4), none, some (.int x6), none, none, none] [] u := by
  intro f
  induction f with
  | zero =>
    intro x0 x2 x3 x4 x6 u h
    cases h
  | succ f ih =>
    intro x0 x2 x3 x4 x6 u h
    rw [g_X7_is_43] at h
    refine rx_S_node (md := ("SetHouseModel", prog_9_method_28_code, 10, false, false, D)) tk_X7_is hC rx_m_hI (fun t ls st u h => ?_) h
    unfold kk_X7_is_43 at h
    rcases rx_rec_eq h with ⟨hb, h⟩ | ⟨hb, h⟩
    · have ht := Nat.eq_of_beq_eq_true hb
      subst ht
      unfold n_X7_is_43 at h
      split at h
      · exact (ih _ _ _ _ _ _ h).le ⟨Or.inr rfl, Or.inl rfl, Or.inr rfl, Or.inr rfl, Or.inr rfl, Or.inl rfl, Or.inr rfl, Or.inl rfl, Or.inl rfl, Or.inl rfl, trivial⟩
      · cases h
    rcases rx_rec_eq h with ⟨hb, h⟩ | ⟨hb, h⟩
    · have ht := Nat.eq_of_beq_eq_true hb
      subst ht
      unfold n_X7_is_68 at h
      split at h
      · exact (s_X7_is_68 hC ih _ _ _ _ _ _ _ _ h).le ⟨Or.inr rfl, Or.inl rfl, Or.inr rfl, Or.inr rfl, Or.inr rfl, Or.inl rfl, Or.inr rfl, Or.inr rfl, Or.inl rfl, Or.inl rfl, trivial⟩
      · cases h
    cases h
theorem s_X7_is_0 {F : Nat × Nat} {l : Launch} {G : rx_G} {D : Nat} {hf : rx_H} {z : (Int32 × Option rx_H)} (hC : rx_CC l G D (C_X7_is F) z) (x0 : Nat) (x1 : Int32) (x2 : Int32) (x3 : Int32) (u : Option rx_H) (h : f_X7_is_0 F x0 x1 x2 x3 u = some z) : rx_S l G ("SetHouseModel", prog_9_method_28_code, 10, false, false, D) hf (z.2.getD hf) rx_hI z 0 [some (.ref x0), some (.int x1), some (.int x2), some (.int x3), none, none, none, none, none, none] [] u := by
  rw [g_X7_is_0] at h
  refine rx_S_node (md := ("SetHouseModel", prog_9_method_28_code, 10, false, false, D)) tk_X7_is hC rx_m_hI (fun t ls st u h => ?_) h
  unfold kk_X7_is_0 at h
  rcases rx_rec_eq h with ⟨hb, h⟩ | ⟨hb, h⟩
  · have ht := Nat.eq_of_beq_eq_true hb
    subst ht
    unfold n_X7_is_43 at h
    split at h
    · exact (s_X7_is_43 hC _ _ _ _ _ _ _ h).le ⟨Or.inr rfl, Or.inl rfl, Or.inr rfl, Or.inr rfl, Or.inr rfl, Or.inl rfl, Or.inr rfl, Or.inl rfl, Or.inl rfl, Or.inl rfl, trivial⟩
    · cases h
  cases h
theorem cc_X7_is (F : Nat × Nat) (l : Launch) (G : rx_G) {α : Type} (z : α) : rx_CC l G (2 + 0 * F.2) (C_X7_is F) z := by
  intro j as u κ h
  unfold C_X7_is at h
  rcases rx_rec_eq h with ⟨hb, h⟩ | ⟨hb, h⟩
  · have ht := Nat.eq_of_beq_eq_true hb
    subst ht
    exact (w_X7_goes F l G h).deep (by omega)
  rcases rx_rec_eq h with ⟨hb, h⟩ | ⟨hb, h⟩
  · have ht := Nat.eq_of_beq_eq_true hb
    subst ht
    exact (w_X7_has F l G h).deep (by omega)
  rcases rx_rec_eq h with ⟨hb, h⟩ | ⟨hb, h⟩
  · have ht := Nat.eq_of_beq_eq_true hb
    subst ht
    exact (w_X7_isKind F l G h).deep (by omega)
  rcases rx_rec_eq h with ⟨hb, h⟩ | ⟨hb, h⟩
  · have ht := Nat.eq_of_beq_eq_true hb
    subst ht
    exact (w_X7_isPlace F l G h).deep (by omega)
  rcases rx_rec_eq h with ⟨hb, h⟩ | ⟨hb, h⟩
  · have ht := Nat.eq_of_beq_eq_true hb
    subst ht
    exact (w_X7_isWithin F l G h).deep (by omega)
  rcases rx_rec_eq h with ⟨hb, h⟩ | ⟨hb, h⟩
  · have ht := Nat.eq_of_beq_eq_true hb
    subst ht
    exact (w_X7_lacks F l G h).deep (by omega)
  cases h
theorem m_X7_is (F : Nat × Nat) (l : Launch) (G : rx_G) (hf : rx_H) (x0 : Nat) (x1 : Int32) (x2 : Int32) (x3 : Int32) (u : Option rx_H) {z : (Int32 × Option rx_H)} (h : f_X7_is F x0 x1 x2 x3 u = some z) : rx_Ok l G (3 + 0 * F.2) (rx_ny 170) (.code (rx_ny 170) prog_9_method_28_code 10 (some .int)) [.ref x0, .int x1, .int x2, .int x3] (u.getD hf) (some (.int z.1)) (z.2.getD hf) := by
  have h := h
  unfold f_X7_is at h
  exact (rx_met (l := l) (G := G) (hf := hf) (as := [.ref x0, .int x1, .int x2, .int x3]) (r := (some (.int z.1))) (ls0 := [some (.ref x0), some (.int x1), some (.int x2), some (.int x3), none, none, none, none, none, none]) (y := rx_ny 170) (D := (2 + 0 * F.2)) (ini := false) (bo := false) (u := u) (u' := z.2) (by decide +kernel) (fun h => by cases h) (Nat.le_of_ble_eq_true rfl) (Or.inl ⟨rfl, rfl, _, rfl⟩) (fun Z hZ hB => rx_RT_hI hZ hB) (by exact ⟨Or.inr rfl, Or.inr rfl, Or.inr rfl, Or.inr rfl, Or.inl rfl, Or.inl rfl, Or.inl rfl, Or.inl rfl, Or.inl rfl, Or.inl rfl, trivial⟩) (s_X7_is_0 (cc_X7_is F l G z) x0 x1 x2 x3 u h)).deep (by omega)
theorem w_X7_is (F : Nat × Nat) (l : Launch) (G : rx_G) {α : Type} {z : α} {as : List Value} {u : Option rx_H} {κ : rx_K α} (h : c_X7_is F as u κ = some z) : rx_Cw l G (3 + 0 * F.2) 170 as u κ z := by
  unfold c_X7_is at h
  split at h
  · obtain ⟨r, hr, h⟩ := Option.bind_eq_some_iff.mp h
    exact ⟨_, _, _, _, h, k_X7_is, fun h => absurd h (by decide), fun _ => ⟨_, _, rfl, rfl⟩, fun hf => m_X7_is F l G hf _ _ _ _ _ hr⟩
  · cases h
set_option maxRecDepth 100000 in
theorem k_X7_shadowOf : rx_Cal (rx_ny 206) (.code (rx_ny 206) prog_9_method_30_code 9 (some .long)) (rx_kd 206) 2 := ⟨prog_9_method_30_code, 9, (some .long), Or.inl rfl, rx_in (i := 908) (by rfl) (by rfl), rx_in (i := 46) (by decide +kernel) (by decide +kernel), ⟨(by decide +kernel), (by decide +kernel), (by decide +kernel)⟩, Nat.le_of_ble_eq_true rfl, fun h => absurd h (by decide), fun _ => ⟨rx_in (i := 907) (by decide +kernel) (by decide +kernel), rx_in (i := 23) (by decide +kernel) (by decide +kernel)⟩, fun h => absurd h (by decide)⟩
set_option maxRecDepth 100000 in
theorem tk_X7_shadowOf : (t_X7_shadowOf.all (rx_eok "SetHouseModel" prog_9_method_30_code 9 false false) && rx_adj t_X7_shadowOf) = true := by decide +kernel
theorem s_X7_shadowOf_52 {F : Nat × Nat} {l : Launch} {G : rx_G} {D : Nat} {hf : rx_H} {z : (Int64 × Option rx_H)} (hC : rx_CC l G D (C_X7_shadowOf F) z) {k6 : Nat → Int64 → Int32 → Int64 → Int32 → Option rx_H → Option (Int64 × Option rx_H)} (hk6 : ∀ (x0 : Nat) (x1 : Int64) (x3 : Int32) (x4 : Int64) (x6 : Int32) (u : Option rx_H), k6 x0 x1 x3 x4 x6 u = some z → rx_S l G ("SetHouseModel", prog_9_method_30_code, 9, false, false, D) hf (z.2.getD hf) rx_hJ z 6 [some (.ref x0), some (.long x1), none, some (.int x3), some (.long x4), none, some (.int x6), none, none] [] u) {k18 : Nat → Int64 → Int32 → Int64 → Int32 → Int32 → Option rx_H → Option (Int64 × Option rx_H)} (hk18 : ∀ (x0 : Nat) (x1 : Int64) (x3 : Int32) (x4 : Int64) (x6 : Int32) (x7 : Int32) (u : Option rx_H), k18 x0 x1 x3 x4 x6 x7 u = some z → rx_S l G ("SetHouseModel", prog_9_method_30_code, 9, false, false, D) hf (z.2.getD hf) rx_hJ z 18 [some (.ref x0), some (.long x1), none, some (.int x3), some (.long x4), none, some (.int x6), some (.int x7), none] [] u) (x0 : Nat) (x1 : Int64) (x3 : Int32) (x4 : Int64) (x6 : Int32) (x7 : Int32) (s0 : Int32) (u : Option rx_H) (h : f_X7_shadowOf_52 F k6 k18 x0 x1 x3 x4 x6 x7 s0 u = some z) : rx_S l G ("SetHouseModel", prog_9_method_30_code, 9, false, false, D) hf (z.2.getD hf) rx_hJ z 52 [some (.ref x0), some (.long x1), none, some (.int x3), some (.long x4), none, some (.int x6), some (.int x7), none] [.int s0] u := by
  rw [g_X7_shadowOf_52] at h
  refine rx_S_node (md := ("SetHouseModel", prog_9_method_30_code, 9, false, false, D)) tk_X7_shadowOf hC rx_m_hJ (fun t ls st u h => ?_) h
  unfold kk_X7_shadowOf_52 at h
  rcases rx_rec_eq h with ⟨hb, h⟩ | ⟨hb, h⟩
  · have ht := Nat.eq_of_beq_eq_true hb
    subst ht
    unfold n_X7_shadowOf_18 at h
    split at h
    · exact (hk18 _ _ _ _ _ _ _ h).le ⟨Or.inr rfl, Or.inr rfl, Or.inl rfl, Or.inr rfl, Or.inr rfl, Or.inl rfl, Or.inr rfl, Or.inr rfl, Or.inl rfl, trivial⟩
    · cases h
  cases h
theorem s_X7_shadowOf_18 {F : Nat × Nat} {l : Launch} {G : rx_G} {D : Nat} {hf : rx_H} {z : (Int64 × Option rx_H)} (hC : rx_CC l G D (C_X7_shadowOf F) z) {k6 : Nat → Int64 → Int32 → Int64 → Int32 → Option rx_H → Option (Int64 × Option rx_H)} (hk6 : ∀ (x0 : Nat) (x1 : Int64) (x3 : Int32) (x4 : Int64) (x6 : Int32) (u : Option rx_H), k6 x0 x1 x3 x4 x6 u = some z → rx_S l G ("SetHouseModel", prog_9_method_30_code, 9, false, false, D) hf (z.2.getD hf) rx_hJ z 6 [some (.ref x0), some (.long x1), none, some (.int x3), some (.long x4), none, some (.int x6), none, none] [] u) : ∀ (f : Nat) (x0 : Nat) (x1 : Int64) (x3 : Int32) (x4 : Int64) (x6 : Int32) (x7 : Int32) (u : Option rx_H), f_X7_shadowOf_18 F k6 f x0 x1 x3 x4 x6 x7 u = some z → rx_S l G ("SetHouseModel", prog_9_method_30_code, 9, false, false, D) hf (z.2.getD hf) rx_hJ z 18 [some (.ref x0), some (.long x1), none, some (.int x3), some (.long x4), none, some (.int x6), some (.int x7), none] [] u := by
  intro f
  induction f with
  | zero =>
    intro x0 x1 x3 x4 x6 x7 u h
    cases h
  | succ f ih =>
    intro x0 x1 x3 x4 x6 x7 u h
    rw [g_X7_shadowOf_18] at h
    refine rx_S_node (md := ("SetHouseModel", prog_9_method_30_code, 9, false, false, D)) tk_X7_shadowOf hC rx_m_hJ (fun t ls st u h => ?_) h
    unfold kk_X7_shadowOf_18 at h
    rcases rx_rec_eq h with ⟨hb, h⟩ | ⟨hb, h⟩
    · have ht := Nat.eq_of_beq_eq_true hb
      subst ht
      unfold n_X7_shadowOf_6 at h
      split at h
      · exact (hk6 _ _ _ _ _ _ h).le ⟨Or.inr rfl, Or.inr rfl, Or.inl rfl, Or.inr rfl, Or.inr rfl, Or.inl rfl, Or.inr rfl, Or.inl rfl, Or.inl rfl, trivial⟩
      · cases h
    rcases rx_rec_eq h with ⟨hb, h⟩ | ⟨hb, h⟩
    · have ht := Nat.eq_of_beq_eq_true hb
      subst ht
      unfold n_X7_shadowOf_52 at h
      split at h
      · exact (s_X7_shadowOf_52 hC hk6 ih _ _ _ _ _ _ _ _ h).le ⟨Or.inr rfl, Or.inr rfl, Or.inl rfl, Or.inr rfl, Or.inr rfl, Or.inl rfl, Or.inr rfl, Or.inr rfl, Or.inl rfl, trivial⟩
      · cases h
    cases h
theorem s_X7_shadowOf_6 {F : Nat × Nat} {l : Launch} {G : rx_G} {D : Nat} {hf : rx_H} {z : (Int64 × Option rx_H)} (hC : rx_CC l G D (C_X7_shadowOf F) z) : ∀ (f : Nat) (x0 : Nat) (x1 : Int64) (x3 : Int32) (x4 : Int64) (x6 : Int32) (u : Option rx_H), f_X7_shadowOf_6 F f x0 x1 x3 x4 x6 u = some z → rx_S l G ("SetHouseModel", prog_9_method_30_code, 9, false, false, D) hf (z.2.getD hf) rx_hJ z 6 [some (.ref x0), some (.long x1), none, some (.int x3), some (.long x4), none, some (.int x6), none, none] [] u := by
  intro f
  induction f with
  | zero =>
    intro x0 x1 x3 x4 x6 u h
    cases h
  | succ f ih =>
    intro x0 x1 x3 x4 x6 u h
    rw [g_X7_shadowOf_6] at h
    refine rx_S_node (md := ("SetHouseModel", prog_9_method_30_code, 9, false, false, D)) tk_X7_shadowOf hC rx_m_hJ (fun t ls st u h => ?_) h
    unfold kk_X7_shadowOf_6 at h
    rcases rx_rec_eq h with ⟨hb, h⟩ | ⟨hb, h⟩
    · have ht := Nat.eq_of_beq_eq_true hb
      subst ht
      unfold n_X7_shadowOf_18 at h
      split at h
      · exact (s_X7_shadowOf_18 hC ih _ _ _ _ _ _ _ _ h).le ⟨Or.inr rfl, Or.inr rfl, Or.inl rfl, Or.inr rfl, Or.inr rfl, Or.inl rfl, Or.inr rfl, Or.inr rfl, Or.inl rfl, trivial⟩
      · cases h
    cases h
theorem s_X7_shadowOf_0 {F : Nat × Nat} {l : Launch} {G : rx_G} {D : Nat} {hf : rx_H} {z : (Int64 × Option rx_H)} (hC : rx_CC l G D (C_X7_shadowOf F) z) (x0 : Nat) (x1 : Int64) (x3 : Int32) (u : Option rx_H) (h : f_X7_shadowOf_0 F x0 x1 x3 u = some z) : rx_S l G ("SetHouseModel", prog_9_method_30_code, 9, false, false, D) hf (z.2.getD hf) rx_hJ z 0 [some (.ref x0), some (.long x1), none, some (.int x3), none, none, none, none, none] [] u := by
  rw [g_X7_shadowOf_0] at h
  refine rx_S_node (md := ("SetHouseModel", prog_9_method_30_code, 9, false, false, D)) tk_X7_shadowOf hC rx_m_hJ (fun t ls st u h => ?_) h
  unfold kk_X7_shadowOf_0 at h
  rcases rx_rec_eq h with ⟨hb, h⟩ | ⟨hb, h⟩
  · have ht := Nat.eq_of_beq_eq_true hb
    subst ht
    unfold n_X7_shadowOf_6 at h
    split at h
    · exact (s_X7_shadowOf_6 hC _ _ _ _ _ _ _ h).le ⟨Or.inr rfl, Or.inr rfl, Or.inl rfl, Or.inr rfl, Or.inr rfl, Or.inl rfl, Or.inr rfl, Or.inl rfl, Or.inl rfl, trivial⟩
    · cases h
  cases h
theorem cc_X7_shadowOf (F : Nat × Nat) (l : Launch) (G : rx_G) {α : Type} (z : α) : rx_CC l G (1 + 0 * F.2) (C_X7_shadowOf F) z := by
  intro j as u κ h
  unfold C_X7_shadowOf at h
  rcases rx_rec_eq h with ⟨hb, h⟩ | ⟨hb, h⟩
  · have ht := Nat.eq_of_beq_eq_true hb
    subst ht
    exact (w_X7_has F l G h).deep (by omega)
  cases h
theorem m_X7_shadowOf (F : Nat × Nat) (l : Launch) (G : rx_G) (hf : rx_H) (x0 : Nat) (x1 : Int64) (x3 : Int32) (u : Option rx_H) {z : (Int64 × Option rx_H)} (h : f_X7_shadowOf F x0 x1 x3 u = some z) : rx_Ok l G (2 + 0 * F.2) (rx_ny 206) (.code (rx_ny 206) prog_9_method_30_code 9 (some .long)) [.ref x0, .long x1, .int x3] (u.getD hf) (some (.long z.1)) (z.2.getD hf) := by
  have h := h
  unfold f_X7_shadowOf at h
  exact (rx_met (l := l) (G := G) (hf := hf) (as := [.ref x0, .long x1, .int x3]) (r := (some (.long z.1))) (ls0 := [some (.ref x0), some (.long x1), none, some (.int x3), none, none, none, none, none]) (y := rx_ny 206) (D := (1 + 0 * F.2)) (ini := false) (bo := false) (u := u) (u' := z.2) (by decide +kernel) (fun h => by cases h) (Nat.le_of_ble_eq_true rfl) (Or.inr (Or.inr (Or.inl ⟨rfl, _, rfl⟩))) (fun Z hZ hB => rx_RT_hJ hZ hB) (by exact ⟨Or.inr rfl, Or.inr rfl, Or.inl rfl, Or.inr rfl, Or.inl rfl, Or.inl rfl, Or.inl rfl, Or.inl rfl, Or.inl rfl, trivial⟩) (s_X7_shadowOf_0 (cc_X7_shadowOf F l G z) x0 x1 x3 u h)).deep (by omega)
theorem w_X7_shadowOf (F : Nat × Nat) (l : Launch) (G : rx_G) {α : Type} {z : α} {as : List Value} {u : Option rx_H} {κ : rx_K α} (h : c_X7_shadowOf F as u κ = some z) : rx_Cw l G (2 + 0 * F.2) 206 as u κ z := by
  unfold c_X7_shadowOf at h
  split at h
  · obtain ⟨r, hr, h⟩ := Option.bind_eq_some_iff.mp h
    exact ⟨_, _, _, _, h, k_X7_shadowOf, fun h => absurd h (by decide), fun _ => ⟨_, _, rfl, rfl⟩, fun hf => m_X7_shadowOf F l G hf _ _ _ _ hr⟩
  · cases h
set_option maxRecDepth 100000 in
theorem k_X7_shadows : rx_Cal (rx_ny 207) (.code (rx_ny 207) prog_9_method_31_code 6 (some .int)) (rx_kd 207) 3 := ⟨prog_9_method_31_code, 6, (some .int), Or.inl rfl, rx_in (i := 904) (by rfl) (by rfl), rx_in (i := 46) (by decide +kernel) (by decide +kernel), ⟨(by decide +kernel), (by decide +kernel), (by decide +kernel)⟩, Nat.le_of_ble_eq_true rfl, fun h => absurd h (by decide), fun _ => ⟨rx_in (i := 903) (by decide +kernel) (by decide +kernel), rx_in (i := 22) (by decide +kernel) (by decide +kernel)⟩, fun h => absurd h (by decide)⟩
set_option maxRecDepth 100000 in
theorem tk_X7_shadows : (t_X7_shadows.all (rx_eok "SetHouseModel" prog_9_method_31_code 6 false false) && rx_adj t_X7_shadows) = true := by decide +kernel
theorem s_X7_shadows_97 {F : Nat × Nat} {l : Launch} {G : rx_G} {D : Nat} {hf : rx_H} {z : (Int32 × Option rx_H)} (hC : rx_CC l G D (C_X7_shadows F) z) (x0 : Nat) (x1 : Int32) (x3 : Int32) (x4 : Int32) (s0 : Nat) (s1 : Int32) (s2 : Int32) (u : Option rx_H) (h : f_X7_shadows_97 F x0 x1 x3 x4 s0 s1 s2 u = some z) : rx_S l G ("SetHouseModel", prog_9_method_31_code, 6, false, false, D) hf (z.2.getD hf) rx_hI z 97 [some (.ref x0), some (.int x1), none, some (.int x3), some (.int x4), none] [.int s2, .int s1, .ref s0] u := by
  rw [g_X7_shadows_97] at h
  refine rx_S_node (md := ("SetHouseModel", prog_9_method_31_code, 6, false, false, D)) tk_X7_shadows hC rx_m_hI (fun t ls st u h => ?_) h
  unfold kk_X7_shadows_97 at h
  cases h
theorem s_X7_shadows_83 {F : Nat × Nat} {l : Launch} {G : rx_G} {D : Nat} {hf : rx_H} {z : (Int32 × Option rx_H)} (hC : rx_CC l G D (C_X7_shadows F) z) (x0 : Nat) (x1 : Int32) (x2 : Int32) (x3 : Int32) (x4 : Int32) (s0 : Int32) (u : Option rx_H) (h : f_X7_shadows_83 F x0 x1 x2 x3 x4 s0 u = some z) : rx_S l G ("SetHouseModel", prog_9_method_31_code, 6, false, false, D) hf (z.2.getD hf) rx_hI z 83 [some (.ref x0), some (.int x1), some (.int x2), some (.int x3), some (.int x4), none] [.int s0] u := by
  rw [g_X7_shadows_83] at h
  refine rx_S_node (md := ("SetHouseModel", prog_9_method_31_code, 6, false, false, D)) tk_X7_shadows hC rx_m_hI (fun t ls st u h => ?_) h
  unfold kk_X7_shadows_83 at h
  rcases rx_rec_eq h with ⟨hb, h⟩ | ⟨hb, h⟩
  · have ht := Nat.eq_of_beq_eq_true hb
    subst ht
    unfold n_X7_shadows_97 at h
    split at h
    · exact (s_X7_shadows_97 hC _ _ _ _ _ _ _ _ h).le ⟨Or.inr rfl, Or.inr rfl, Or.inl rfl, Or.inr rfl, Or.inr rfl, Or.inl rfl, trivial⟩
    · cases h
  cases h
theorem s_X7_shadows_53 {F : Nat × Nat} {l : Launch} {G : rx_G} {D : Nat} {hf : rx_H} {z : (Int32 × Option rx_H)} (hC : rx_CC l G D (C_X7_shadows F) z) (x0 : Nat) (x1 : Int32) (x2 : Int32) (x3 : Int32) (s0 : Int32) (u : Option rx_H) (h : f_X7_shadows_53 F x0 x1 x2 x3 s0 u = some z) : rx_S l G ("SetHouseModel", prog_9_method_31_code, 6, false, false, D) hf (z.2.getD hf) rx_hI z 53 [some (.ref x0), some (.int x1), some (.int x2), some (.int x3), none, none] [.int s0] u := by
  rw [g_X7_shadows_53] at h
  refine rx_S_node (md := ("SetHouseModel", prog_9_method_31_code, 6, false, false, D)) tk_X7_shadows hC rx_m_hI (fun t ls st u h => ?_) h
  unfold kk_X7_shadows_53 at h
  rcases rx_rec_eq h with ⟨hb, h⟩ | ⟨hb, h⟩
  · have ht := Nat.eq_of_beq_eq_true hb
    subst ht
    unfold n_X7_shadows_83 at h
    split at h
    · exact (s_X7_shadows_83 hC _ _ _ _ _ _ _ h).le ⟨Or.inr rfl, Or.inr rfl, Or.inr rfl, Or.inr rfl, Or.inr rfl, Or.inl rfl, trivial⟩
    · cases h
  cases h
theorem s_X7_shadows_0 {F : Nat × Nat} {l : Launch} {G : rx_G} {D : Nat} {hf : rx_H} {z : (Int32 × Option rx_H)} (hC : rx_CC l G D (C_X7_shadows F) z) (x0 : Nat) (x1 : Int32) (x2 : Int32) (x3 : Int32) (u : Option rx_H) (h : f_X7_shadows_0 F x0 x1 x2 x3 u = some z) : rx_S l G ("SetHouseModel", prog_9_method_31_code, 6, false, false, D) hf (z.2.getD hf) rx_hI z 0 [some (.ref x0), some (.int x1), some (.int x2), some (.int x3), none, none] [] u := by
  rw [g_X7_shadows_0] at h
  refine rx_S_node (md := ("SetHouseModel", prog_9_method_31_code, 6, false, false, D)) tk_X7_shadows hC rx_m_hI (fun t ls st u h => ?_) h
  unfold kk_X7_shadows_0 at h
  rcases rx_rec_eq h with ⟨hb, h⟩ | ⟨hb, h⟩
  · have ht := Nat.eq_of_beq_eq_true hb
    subst ht
    unfold n_X7_shadows_53 at h
    split at h
    · exact (s_X7_shadows_53 hC _ _ _ _ _ _ h).le ⟨Or.inr rfl, Or.inr rfl, Or.inr rfl, Or.inr rfl, Or.inl rfl, Or.inl rfl, trivial⟩
    · cases h
  cases h
theorem cc_X7_shadows (F : Nat × Nat) (l : Launch) (G : rx_G) {α : Type} (z : α) : rx_CC l G (2 + 0 * F.2) (C_X7_shadows F) z := by
  intro j as u κ h
  unfold C_X7_shadows at h
  rcases rx_rec_eq h with ⟨hb, h⟩ | ⟨hb, h⟩
  · have ht := Nat.eq_of_beq_eq_true hb
    subst ht
    exact (w_X7_holdsNow F l G h).deep (by omega)
  rcases rx_rec_eq h with ⟨hb, h⟩ | ⟨hb, h⟩
  · have ht := Nat.eq_of_beq_eq_true hb
    subst ht
    exact (w_X7_isIn F l G h).deep (by omega)
  rcases rx_rec_eq h with ⟨hb, h⟩ | ⟨hb, h⟩
  · have ht := Nat.eq_of_beq_eq_true hb
    subst ht
    exact (w_X7_isPlace F l G h).deep (by omega)
  rcases rx_rec_eq h with ⟨hb, h⟩ | ⟨hb, h⟩
  · have ht := Nat.eq_of_beq_eq_true hb
    subst ht
    exact (w_X7_lacks F l G h).deep (by omega)
  rcases rx_rec_eq h with ⟨hb, h⟩ | ⟨hb, h⟩
  · have ht := Nat.eq_of_beq_eq_true hb
    subst ht
    exact (w_X7_shadowOf F l G h).deep (by omega)
  cases h
theorem m_X7_shadows (F : Nat × Nat) (l : Launch) (G : rx_G) (hf : rx_H) (x0 : Nat) (x1 : Int32) (x2 : Int32) (x3 : Int32) (u : Option rx_H) {z : (Int32 × Option rx_H)} (h : f_X7_shadows F x0 x1 x2 x3 u = some z) : rx_Ok l G (3 + 0 * F.2) (rx_ny 207) (.code (rx_ny 207) prog_9_method_31_code 6 (some .int)) [.ref x0, .int x1, .int x2, .int x3] (u.getD hf) (some (.int z.1)) (z.2.getD hf) := by
  have h := h
  unfold f_X7_shadows at h
  exact (rx_met (l := l) (G := G) (hf := hf) (as := [.ref x0, .int x1, .int x2, .int x3]) (r := (some (.int z.1))) (ls0 := [some (.ref x0), some (.int x1), some (.int x2), some (.int x3), none, none]) (y := rx_ny 207) (D := (2 + 0 * F.2)) (ini := false) (bo := false) (u := u) (u' := z.2) (by decide +kernel) (fun h => by cases h) (Nat.le_of_ble_eq_true rfl) (Or.inl ⟨rfl, rfl, _, rfl⟩) (fun Z hZ hB => rx_RT_hI hZ hB) (by exact ⟨Or.inr rfl, Or.inr rfl, Or.inr rfl, Or.inr rfl, Or.inl rfl, Or.inl rfl, trivial⟩) (s_X7_shadows_0 (cc_X7_shadows F l G z) x0 x1 x2 x3 u h)).deep (by omega)
theorem w_X7_shadows (F : Nat × Nat) (l : Launch) (G : rx_G) {α : Type} {z : α} {as : List Value} {u : Option rx_H} {κ : rx_K α} (h : c_X7_shadows F as u κ = some z) : rx_Cw l G (3 + 0 * F.2) 207 as u κ z := by
  unfold c_X7_shadows at h
  split at h
  · obtain ⟨r, hr, h⟩ := Option.bind_eq_some_iff.mp h
    exact ⟨_, _, _, _, h, k_X7_shadows, fun h => absurd h (by decide), fun _ => ⟨_, _, rfl, rfl⟩, fun hf => m_X7_shadows F l G hf _ _ _ _ _ hr⟩
  · cases h
set_option maxRecDepth 100000 in
theorem k_X7_shadow : rx_Cal (rx_ny 205) (.code (rx_ny 205) prog_9_method_32_code 3 (some .int)) (rx_kd 205) 2 := ⟨prog_9_method_32_code, 3, (some .int), Or.inl rfl, rx_in (i := 900) (by rfl) (by rfl), rx_in (i := 46) (by decide +kernel) (by decide +kernel), ⟨(by decide +kernel), (by decide +kernel), (by decide +kernel)⟩, Nat.le_of_ble_eq_true rfl, fun h => absurd h (by decide), fun _ => ⟨rx_in (i := 898) (by decide +kernel) (by decide +kernel), rx_in (i := 899) (by decide +kernel) (by decide +kernel)⟩, fun h => absurd h (by decide)⟩
set_option maxRecDepth 100000 in
theorem tk_X7_shadow : (t_X7_shadow.all (rx_eok "SetHouseModel" prog_9_method_32_code 3 false false) && rx_adj t_X7_shadow) = true := by decide +kernel
theorem s_X7_shadow_0 {F : Nat × Nat} {l : Launch} {G : rx_G} {D : Nat} {hf : rx_H} {z : (Int32 × Option rx_H)} (hC : rx_CC l G D (C_X7_shadow F) z) (x0 : Nat) (x1 : Int32) (x2 : Int32) (u : Option rx_H) (h : f_X7_shadow_0 F x0 x1 x2 u = some z) : rx_S l G ("SetHouseModel", prog_9_method_32_code, 3, false, false, D) hf (z.2.getD hf) rx_hI z 0 [some (.ref x0), some (.int x1), some (.int x2)] [] u := by
  rw [g_X7_shadow_0] at h
  refine rx_S_node (md := ("SetHouseModel", prog_9_method_32_code, 3, false, false, D)) tk_X7_shadow hC rx_m_hI (fun t ls st u h => ?_) h
  unfold kk_X7_shadow_0 at h
  cases h
theorem cc_X7_shadow (F : Nat × Nat) (l : Launch) (G : rx_G) {α : Type} (z : α) : rx_CC l G (3 + 0 * F.2) (C_X7_shadow F) z := by
  intro j as u κ h
  unfold C_X7_shadow at h
  rcases rx_rec_eq h with ⟨hb, h⟩ | ⟨hb, h⟩
  · have ht := Nat.eq_of_beq_eq_true hb
    subst ht
    exact (w_X7_shadows F l G h).deep (by omega)
  cases h
theorem m_X7_shadow (F : Nat × Nat) (l : Launch) (G : rx_G) (hf : rx_H) (x0 : Nat) (x1 : Int32) (x2 : Int32) (u : Option rx_H) {z : (Int32 × Option rx_H)} (h : f_X7_shadow F x0 x1 x2 u = some z) : rx_Ok l G (4 + 0 * F.2) (rx_ny 205) (.code (rx_ny 205) prog_9_method_32_code 3 (some .int)) [.ref x0, .int x1, .int x2] (u.getD hf) (some (.int z.1)) (z.2.getD hf) := by
  have h := h
  unfold f_X7_shadow at h
  exact (rx_met (l := l) (G := G) (hf := hf) (as := [.ref x0, .int x1, .int x2]) (r := (some (.int z.1))) (ls0 := [some (.ref x0), some (.int x1), some (.int x2)]) (y := rx_ny 205) (D := (3 + 0 * F.2)) (ini := false) (bo := false) (u := u) (u' := z.2) (by decide +kernel) (fun h => by cases h) (Nat.le_of_ble_eq_true rfl) (Or.inl ⟨rfl, rfl, _, rfl⟩) (fun Z hZ hB => rx_RT_hI hZ hB) (by exact ⟨Or.inr rfl, Or.inr rfl, Or.inr rfl, trivial⟩) (s_X7_shadow_0 (cc_X7_shadow F l G z) x0 x1 x2 u h)).deep (by omega)
theorem w_X7_shadow (F : Nat × Nat) (l : Launch) (G : rx_G) {α : Type} {z : α} {as : List Value} {u : Option rx_H} {κ : rx_K α} (h : c_X7_shadow F as u κ = some z) : rx_Cw l G (4 + 0 * F.2) 205 as u κ z := by
  unfold c_X7_shadow at h
  split at h
  · obtain ⟨r, hr, h⟩ := Option.bind_eq_some_iff.mp h
    exact ⟨_, _, _, _, h, k_X7_shadow, fun h => absurd h (by decide), fun _ => ⟨_, _, rfl, rfl⟩, fun hf => m_X7_shadow F l G hf _ _ _ _ hr⟩
  · cases h
set_option maxRecDepth 100000 in
theorem k_X7_up : rx_Cal (rx_ny 222) (.code (rx_ny 222) prog_9_method_33_code 3 (some .int)) (rx_kd 222) 2 := ⟨prog_9_method_33_code, 3, (some .int), Or.inl rfl, rx_in (i := 912) (by rfl) (by rfl), rx_in (i := 46) (by decide +kernel) (by decide +kernel), ⟨(by decide +kernel), (by decide +kernel), (by decide +kernel)⟩, Nat.le_of_ble_eq_true rfl, fun h => absurd h (by decide), fun _ => ⟨rx_in (i := 910) (by decide +kernel) (by decide +kernel), rx_in (i := 911) (by decide +kernel) (by decide +kernel)⟩, fun h => absurd h (by decide)⟩
set_option maxRecDepth 100000 in
theorem tk_X7_up : (t_X7_up.all (rx_eok "SetHouseModel" prog_9_method_33_code 3 false false) && rx_adj t_X7_up) = true := by decide +kernel
theorem s_X7_up_0 {F : Nat × Nat} {l : Launch} {G : rx_G} {D : Nat} {hf : rx_H} {z : (Int32 × Option rx_H)} (hC : rx_CC l G D (C_X7_up F) z) (x0 : Nat) (x1 : Int32) (x2 : Int32) (u : Option rx_H) (h : f_X7_up_0 F x0 x1 x2 u = some z) : rx_S l G ("SetHouseModel", prog_9_method_33_code, 3, false, false, D) hf (z.2.getD hf) rx_hI z 0 [some (.ref x0), some (.int x1), some (.int x2)] [] u := by
  rw [g_X7_up_0] at h
  refine rx_S_node (md := ("SetHouseModel", prog_9_method_33_code, 3, false, false, D)) tk_X7_up hC rx_m_hI (fun t ls st u h => ?_) h
  unfold kk_X7_up_0 at h
  cases h
theorem cc_X7_up (F : Nat × Nat) (l : Launch) (G : rx_G) {α : Type} (z : α) : rx_CC l G (3 + 0 * F.2) (C_X7_up F) z := by
  intro j as u κ h
  unfold C_X7_up at h
  rcases rx_rec_eq h with ⟨hb, h⟩ | ⟨hb, h⟩
  · have ht := Nat.eq_of_beq_eq_true hb
    subst ht
    exact (w_X7_shadows F l G h).deep (by omega)
  cases h
theorem m_X7_up (F : Nat × Nat) (l : Launch) (G : rx_G) (hf : rx_H) (x0 : Nat) (x1 : Int32) (x2 : Int32) (u : Option rx_H) {z : (Int32 × Option rx_H)} (h : f_X7_up F x0 x1 x2 u = some z) : rx_Ok l G (4 + 0 * F.2) (rx_ny 222) (.code (rx_ny 222) prog_9_method_33_code 3 (some .int)) [.ref x0, .int x1, .int x2] (u.getD hf) (some (.int z.1)) (z.2.getD hf) := by
  have h := h
  unfold f_X7_up at h
  exact (rx_met (l := l) (G := G) (hf := hf) (as := [.ref x0, .int x1, .int x2]) (r := (some (.int z.1))) (ls0 := [some (.ref x0), some (.int x1), some (.int x2)]) (y := rx_ny 222) (D := (3 + 0 * F.2)) (ini := false) (bo := false) (u := u) (u' := z.2) (by decide +kernel) (fun h => by cases h) (Nat.le_of_ble_eq_true rfl) (Or.inl ⟨rfl, rfl, _, rfl⟩) (fun Z hZ hB => rx_RT_hI hZ hB) (by exact ⟨Or.inr rfl, Or.inr rfl, Or.inr rfl, trivial⟩) (s_X7_up_0 (cc_X7_up F l G z) x0 x1 x2 u h)).deep (by omega)
theorem w_X7_up (F : Nat × Nat) (l : Launch) (G : rx_G) {α : Type} {z : α} {as : List Value} {u : Option rx_H} {κ : rx_K α} (h : c_X7_up F as u κ = some z) : rx_Cw l G (4 + 0 * F.2) 222 as u κ z := by
  unfold c_X7_up at h
  split at h
  · obtain ⟨r, hr, h⟩ := Option.bind_eq_some_iff.mp h
    exact ⟨_, _, _, _, h, k_X7_up, fun h => absurd h (by decide), fun _ => ⟨_, _, rfl, rfl⟩, fun hf => m_X7_up F l G hf _ _ _ _ hr⟩
  · cases h
set_option maxRecDepth 100000 in
theorem k_X7_closed : rx_Cal (rx_ny 146) (.code (rx_ny 146) prog_9_method_34_code 8 (some .int)) (rx_kd 146) 3 := ⟨prog_9_method_34_code, 8, (some .int), Or.inl rfl, rx_in (i := 916) (by rfl) (by rfl), rx_in (i := 46) (by decide +kernel) (by decide +kernel), ⟨(by decide +kernel), (by decide +kernel), (by decide +kernel)⟩, Nat.le_of_ble_eq_true rfl, fun h => absurd h (by decide), fun _ => ⟨rx_in (i := 914) (by decide +kernel) (by decide +kernel), rx_in (i := 915) (by decide +kernel) (by decide +kernel)⟩, fun h => absurd h (by decide)⟩
set_option maxRecDepth 100000 in
theorem tk_X7_closed : (t_X7_closed.all (rx_eok "SetHouseModel" prog_9_method_34_code 8 false false) && rx_adj t_X7_closed) = true := by decide +kernel
theorem s_X7_closed_48 {F : Nat × Nat} {l : Launch} {G : rx_G} {D : Nat} {hf : rx_H} {z : (Int32 × Option rx_H)} (hC : rx_CC l G D (C_X7_closed F) z) {k36 : Nat → Int32 → Int32 → Int32 → Int64 → Int32 → Option rx_H → Option (Int32 × Option rx_H)} (hk36 : ∀ (x0 : Nat) (x1 : Int32) (x2 : Int32) (x3 : Int32) (x4 : Int64) (x6 : Int32) (u : Option rx_H), k36 x0 x1 x2 x3 x4 x6 u = some z → rx_S l G ("SetHouseModel", prog_9_method_34_code, 8, false, false, D) hf (z.2.getD hf) rx_hI z 36 [some (.ref x0), some (.int x1), some (.int x2), some (.int x3), some (.long x4), none, some (.int x6), none] [] u) : ∀ (f : Nat) (x0 : Nat) (x1 : Int32) (x2 : Int32) (x3 : Int32) (x4 : Int64) (x6 : Int32) (x7 : Int32) (u : Option rx_H), f_X7_closed_48 F k36 f x0 x1 x2 x3 x4 x6 x7 u = some z → rx_S l G ("SetHouseModel", prog_9_method_34_code, 8, false, false, D) hf (z.2.getD hf) rx_hI z 48 [some (.ref x0), some (.int x1), some (.int x2), some (.int x3), some (.long x4), none, some (.int x6), some (.int x7)] [] u := by
  intro f
  induction f with
  | zero =>
    intro x0 x1 x2 x3 x4 x6 x7 u h
    cases h
  | succ f ih =>
    intro x0 x1 x2 x3 x4 x6 x7 u h
    rw [g_X7_closed_48] at h
    refine rx_S_node (md := ("SetHouseModel", prog_9_method_34_code, 8, false, false, D)) tk_X7_closed hC rx_m_hI (fun t ls st u h => ?_) h
    unfold kk_X7_closed_48 at h
    rcases rx_rec_eq h with ⟨hb, h⟩ | ⟨hb, h⟩
    · have ht := Nat.eq_of_beq_eq_true hb
      subst ht
      unfold n_X7_closed_36 at h
      split at h
      · exact (hk36 _ _ _ _ _ _ _ h).le ⟨Or.inr rfl, Or.inr rfl, Or.inr rfl, Or.inr rfl, Or.inr rfl, Or.inl rfl, Or.inr rfl, Or.inl rfl, trivial⟩
      · cases h
    rcases rx_rec_eq h with ⟨hb, h⟩ | ⟨hb, h⟩
    · have ht := Nat.eq_of_beq_eq_true hb
      subst ht
      unfold n_X7_closed_48 at h
      split at h
      · exact (ih _ _ _ _ _ _ _ _ h).le ⟨Or.inr rfl, Or.inr rfl, Or.inr rfl, Or.inr rfl, Or.inr rfl, Or.inl rfl, Or.inr rfl, Or.inr rfl, trivial⟩
      · cases h
    cases h
theorem s_X7_closed_130 {F : Nat × Nat} {l : Launch} {G : rx_G} {D : Nat} {hf : rx_H} {z : (Int32 × Option rx_H)} (hC : rx_CC l G D (C_X7_closed F) z) (x4 : Int64) (s0 : Nat) (s1 : Int32) (s2 : Int32) (u : Option rx_H) (h : f_X7_closed_130 F x4 s0 s1 s2 u = some z) : rx_S l G ("SetHouseModel", prog_9_method_34_code, 8, false, false, D) hf (z.2.getD hf) rx_hI z 130 [none, none, none, none, some (.long x4), none, none, none] [.int s2, .int s1, .ref s0] u := by
  rw [g_X7_closed_130] at h
  refine rx_S_node (md := ("SetHouseModel", prog_9_method_34_code, 8, false, false, D)) tk_X7_closed hC rx_m_hI (fun t ls st u h => ?_) h
  unfold kk_X7_closed_130 at h
  cases h
theorem s_X7_closed_36 {F : Nat × Nat} {l : Launch} {G : rx_G} {D : Nat} {hf : rx_H} {z : (Int32 × Option rx_H)} (hC : rx_CC l G D (C_X7_closed F) z) : ∀ (f : Nat) (x0 : Nat) (x1 : Int32) (x2 : Int32) (x3 : Int32) (x4 : Int64) (x6 : Int32) (u : Option rx_H), f_X7_closed_36 F f x0 x1 x2 x3 x4 x6 u = some z → rx_S l G ("SetHouseModel", prog_9_method_34_code, 8, false, false, D) hf (z.2.getD hf) rx_hI z 36 [some (.ref x0), some (.int x1), some (.int x2), some (.int x3), some (.long x4), none, some (.int x6), none] [] u := by
  intro f
  induction f with
  | zero =>
    intro x0 x1 x2 x3 x4 x6 u h
    cases h
  | succ f ih =>
    intro x0 x1 x2 x3 x4 x6 u h
    rw [g_X7_closed_36] at h
    refine rx_S_node (md := ("SetHouseModel", prog_9_method_34_code, 8, false, false, D)) tk_X7_closed hC rx_m_hI (fun t ls st u h => ?_) h
    unfold kk_X7_closed_36 at h
    rcases rx_rec_eq h with ⟨hb, h⟩ | ⟨hb, h⟩
    · have ht := Nat.eq_of_beq_eq_true hb
      subst ht
      unfold n_X7_closed_48 at h
      split at h
      · exact (s_X7_closed_48 hC ih _ _ _ _ _ _ _ _ _ h).le ⟨Or.inr rfl, Or.inr rfl, Or.inr rfl, Or.inr rfl, Or.inr rfl, Or.inl rfl, Or.inr rfl, Or.inr rfl, trivial⟩
      · cases h
    rcases rx_rec_eq h with ⟨hb, h⟩ | ⟨hb, h⟩
    · have ht := Nat.eq_of_beq_eq_true hb
      subst ht
      unfold n_X7_closed_130 at h
      split at h
      · exact (s_X7_closed_130 hC _ _ _ _ _ h).le ⟨Or.inl rfl, Or.inl rfl, Or.inl rfl, Or.inl rfl, Or.inr rfl, Or.inl rfl, Or.inl rfl, Or.inl rfl, trivial⟩
      · cases h
    cases h
theorem s_X7_closed_0 {F : Nat × Nat} {l : Launch} {G : rx_G} {D : Nat} {hf : rx_H} {z : (Int32 × Option rx_H)} (hC : rx_CC l G D (C_X7_closed F) z) (x0 : Nat) (x1 : Int32) (x2 : Int32) (x3 : Int32) (u : Option rx_H) (h : f_X7_closed_0 F x0 x1 x2 x3 u = some z) : rx_S l G ("SetHouseModel", prog_9_method_34_code, 8, false, false, D) hf (z.2.getD hf) rx_hI z 0 [some (.ref x0), some (.int x1), some (.int x2), some (.int x3), none, none, none, none] [] u := by
  rw [g_X7_closed_0] at h
  refine rx_S_node (md := ("SetHouseModel", prog_9_method_34_code, 8, false, false, D)) tk_X7_closed hC rx_m_hI (fun t ls st u h => ?_) h
  unfold kk_X7_closed_0 at h
  rcases rx_rec_eq h with ⟨hb, h⟩ | ⟨hb, h⟩
  · have ht := Nat.eq_of_beq_eq_true hb
    subst ht
    unfold n_X7_closed_36 at h
    split at h
    · exact (s_X7_closed_36 hC _ _ _ _ _ _ _ _ h).le ⟨Or.inr rfl, Or.inr rfl, Or.inr rfl, Or.inr rfl, Or.inr rfl, Or.inl rfl, Or.inr rfl, Or.inl rfl, trivial⟩
    · cases h
  cases h
theorem cc_X7_closed (F : Nat × Nat) (l : Launch) (G : rx_G) {α : Type} (z : α) : rx_CC l G (2 + 0 * F.2) (C_X7_closed F) z := by
  intro j as u κ h
  unfold C_X7_closed at h
  rcases rx_rec_eq h with ⟨hb, h⟩ | ⟨hb, h⟩
  · have ht := Nat.eq_of_beq_eq_true hb
    subst ht
    exact (w_X7_has F l G h).deep (by omega)
  rcases rx_rec_eq h with ⟨hb, h⟩ | ⟨hb, h⟩
  · have ht := Nat.eq_of_beq_eq_true hb
    subst ht
    exact (w_X7_holdsNow F l G h).deep (by omega)
  rcases rx_rec_eq h with ⟨hb, h⟩ | ⟨hb, h⟩
  · have ht := Nat.eq_of_beq_eq_true hb
    subst ht
    exact (w_X7_isPlace F l G h).deep (by omega)
  rcases rx_rec_eq h with ⟨hb, h⟩ | ⟨hb, h⟩
  · have ht := Nat.eq_of_beq_eq_true hb
    subst ht
    exact (w_X7_isWithin F l G h).deep (by omega)
  rcases rx_rec_eq h with ⟨hb, h⟩ | ⟨hb, h⟩
  · have ht := Nat.eq_of_beq_eq_true hb
    subst ht
    exact (w_X7_lacks F l G h).deep (by omega)
  cases h
theorem m_X7_closed (F : Nat × Nat) (l : Launch) (G : rx_G) (hf : rx_H) (x0 : Nat) (x1 : Int32) (x2 : Int32) (x3 : Int32) (u : Option rx_H) {z : (Int32 × Option rx_H)} (h : f_X7_closed F x0 x1 x2 x3 u = some z) : rx_Ok l G (3 + 0 * F.2) (rx_ny 146) (.code (rx_ny 146) prog_9_method_34_code 8 (some .int)) [.ref x0, .int x1, .int x2, .int x3] (u.getD hf) (some (.int z.1)) (z.2.getD hf) := by
  have h := h
  unfold f_X7_closed at h
  exact (rx_met (l := l) (G := G) (hf := hf) (as := [.ref x0, .int x1, .int x2, .int x3]) (r := (some (.int z.1))) (ls0 := [some (.ref x0), some (.int x1), some (.int x2), some (.int x3), none, none, none, none]) (y := rx_ny 146) (D := (2 + 0 * F.2)) (ini := false) (bo := false) (u := u) (u' := z.2) (by decide +kernel) (fun h => by cases h) (Nat.le_of_ble_eq_true rfl) (Or.inl ⟨rfl, rfl, _, rfl⟩) (fun Z hZ hB => rx_RT_hI hZ hB) (by exact ⟨Or.inr rfl, Or.inr rfl, Or.inr rfl, Or.inr rfl, Or.inl rfl, Or.inl rfl, Or.inl rfl, Or.inl rfl, trivial⟩) (s_X7_closed_0 (cc_X7_closed F l G z) x0 x1 x2 x3 u h)).deep (by omega)
theorem w_X7_closed (F : Nat × Nat) (l : Launch) (G : rx_G) {α : Type} {z : α} {as : List Value} {u : Option rx_H} {κ : rx_K α} (h : c_X7_closed F as u κ = some z) : rx_Cw l G (3 + 0 * F.2) 146 as u κ z := by
  unfold c_X7_closed at h
  split at h
  · obtain ⟨r, hr, h⟩ := Option.bind_eq_some_iff.mp h
    exact ⟨_, _, _, _, h, k_X7_closed, fun h => absurd h (by decide), fun _ => ⟨_, _, rfl, rfl⟩, fun hf => m_X7_closed F l G hf _ _ _ _ _ hr⟩
  · cases h
set_option maxRecDepth 100000 in
theorem k_X7_ends : rx_Cal (rx_ny 155) (.code (rx_ny 155) prog_9_method_35_code 9 (some .int)) (rx_kd 155) 3 := ⟨prog_9_method_35_code, 9, (some .int), Or.inl rfl, rx_in (i := 920) (by rfl) (by rfl), rx_in (i := 46) (by decide +kernel) (by decide +kernel), ⟨(by decide +kernel), (by decide +kernel), (by decide +kernel)⟩, Nat.le_of_ble_eq_true rfl, fun h => absurd h (by decide), fun _ => ⟨rx_in (i := 918) (by decide +kernel) (by decide +kernel), rx_in (i := 919) (by decide +kernel) (by decide +kernel)⟩, fun h => absurd h (by decide)⟩
set_option maxRecDepth 100000 in
theorem tk_X7_ends : (t_X7_ends.all (rx_eok "SetHouseModel" prog_9_method_35_code 9 false false) && rx_adj t_X7_ends) = true := by decide +kernel
theorem s_X7_ends_136 {F : Nat × Nat} {l : Launch} {G : rx_G} {D : Nat} {hf : rx_H} {z : (Int32 × Option rx_H)} (hC : rx_CC l G D (C_X7_ends F) z) {k36 : Nat → Int32 → Int32 → Int32 → Int64 → Int32 → Option rx_H → Option (Int32 × Option rx_H)} (hk36 : ∀ (x0 : Nat) (x1 : Int32) (x2 : Int32) (x3 : Int32) (x4 : Int64) (x6 : Int32) (u : Option rx_H), k36 x0 x1 x2 x3 x4 x6 u = some z → rx_S l G ("SetHouseModel", prog_9_method_35_code, 9, false, false, D) hf (z.2.getD hf) rx_hI z 36 [some (.ref x0), some (.int x1), some (.int x2), some (.int x3), some (.long x4), none, some (.int x6), none, none] [] u) (x0 : Nat) (x1 : Int32) (x2 : Int32) (x3 : Int32) (x4 : Int64) (x6 : Int32) (x7 : Int32) (u : Option rx_H) (h : f_X7_ends_136 F k36 x0 x1 x2 x3 x4 x6 x7 u = some z) : rx_S l G ("SetHouseModel", prog_9_method_35_code, 9, false, false, D) hf (z.2.getD hf) rx_hI z 136 [some (.ref x0), some (.int x1), some (.int x2), some (.int x3), some (.long x4), none, some (.int x6), some (.int x7), none] [] u := by
  rw [g_X7_ends_136] at h
  refine rx_S_node (md := ("SetHouseModel", prog_9_method_35_code, 9, false, false, D)) tk_X7_ends hC rx_m_hI (fun t ls st u h => ?_) h
  unfold kk_X7_ends_136 at h
  rcases rx_rec_eq h with ⟨hb, h⟩ | ⟨hb, h⟩
  · have ht := Nat.eq_of_beq_eq_true hb
    subst ht
    unfold n_X7_ends_36 at h
    split at h
    · exact (hk36 _ _ _ _ _ _ _ h).le ⟨Or.inr rfl, Or.inr rfl, Or.inr rfl, Or.inr rfl, Or.inr rfl, Or.inl rfl, Or.inr rfl, Or.inl rfl, Or.inl rfl, trivial⟩
    · cases h
  cases h
theorem s_X7_ends_61 {F : Nat × Nat} {l : Launch} {G : rx_G} {D : Nat} {hf : rx_H} {z : (Int32 × Option rx_H)} (hC : rx_CC l G D (C_X7_ends F) z) {k36 : Nat → Int32 → Int32 → Int32 → Int64 → Int32 → Option rx_H → Option (Int32 × Option rx_H)} (hk36 : ∀ (x0 : Nat) (x1 : Int32) (x2 : Int32) (x3 : Int32) (x4 : Int64) (x6 : Int32) (u : Option rx_H), k36 x0 x1 x2 x3 x4 x6 u = some z → rx_S l G ("SetHouseModel", prog_9_method_35_code, 9, false, false, D) hf (z.2.getD hf) rx_hI z 36 [some (.ref x0), some (.int x1), some (.int x2), some (.int x3), some (.long x4), none, some (.int x6), none, none] [] u) : ∀ (f : Nat) (x0 : Nat) (x1 : Int32) (x2 : Int32) (x3 : Int32) (x4 : Int64) (x6 : Int32) (x7 : Int32) (x8 : Int32) (u : Option rx_H), f_X7_ends_61 F k36 f x0 x1 x2 x3 x4 x6 x7 x8 u = some z → rx_S l G ("SetHouseModel", prog_9_method_35_code, 9, false, false, D) hf (z.2.getD hf) rx_hI z 61 [some (.ref x0), some (.int x1), some (.int x2), some (.int x3), some (.long x4), none, some (.int x6), some (.int x7), some (.int x8)] [] u := by
  intro f
  induction f with
  | zero =>
    intro x0 x1 x2 x3 x4 x6 x7 x8 u h
    cases h
  | succ f ih =>
    intro x0 x1 x2 x3 x4 x6 x7 x8 u h
    rw [g_X7_ends_61] at h
    refine rx_S_node (md := ("SetHouseModel", prog_9_method_35_code, 9, false, false, D)) tk_X7_ends hC rx_m_hI (fun t ls st u h => ?_) h
    unfold kk_X7_ends_61 at h
    rcases rx_rec_eq h with ⟨hb, h⟩ | ⟨hb, h⟩
    · have ht := Nat.eq_of_beq_eq_true hb
      subst ht
      unfold n_X7_ends_61 at h
      split at h
      · exact (ih _ _ _ _ _ _ _ _ _ h).le ⟨Or.inr rfl, Or.inr rfl, Or.inr rfl, Or.inr rfl, Or.inr rfl, Or.inl rfl, Or.inr rfl, Or.inr rfl, Or.inr rfl, trivial⟩
      · cases h
    rcases rx_rec_eq h with ⟨hb, h⟩ | ⟨hb, h⟩
    · have ht := Nat.eq_of_beq_eq_true hb
      subst ht
      unfold n_X7_ends_136 at h
      split at h
      · exact (s_X7_ends_136 hC hk36 _ _ _ _ _ _ _ _ h).le ⟨Or.inr rfl, Or.inr rfl, Or.inr rfl, Or.inr rfl, Or.inr rfl, Or.inl rfl, Or.inr rfl, Or.inr rfl, Or.inl rfl, trivial⟩
      · cases h
    cases h
theorem s_X7_ends_36 {F : Nat × Nat} {l : Launch} {G : rx_G} {D : Nat} {hf : rx_H} {z : (Int32 × Option rx_H)} (hC : rx_CC l G D (C_X7_ends F) z) : ∀ (f : Nat) (x0 : Nat) (x1 : Int32) (x2 : Int32) (x3 : Int32) (x4 : Int64) (x6 : Int32) (u : Option rx_H), f_X7_ends_36 F f x0 x1 x2 x3 x4 x6 u = some z → rx_S l G ("SetHouseModel", prog_9_method_35_code, 9, false, false, D) hf (z.2.getD hf) rx_hI z 36 [some (.ref x0), some (.int x1), some (.int x2), some (.int x3), some (.long x4), none, some (.int x6), none, none] [] u := by
  intro f
  induction f with
  | zero =>
    intro x0 x1 x2 x3 x4 x6 u h
    cases h
  | succ f ih =>
    intro x0 x1 x2 x3 x4 x6 u h
    rw [g_X7_ends_36] at h
    refine rx_S_node (md := ("SetHouseModel", prog_9_method_35_code, 9, false, false, D)) tk_X7_ends hC rx_m_hI (fun t ls st u h => ?_) h
    unfold kk_X7_ends_36 at h
    rcases rx_rec_eq h with ⟨hb, h⟩ | ⟨hb, h⟩
    · have ht := Nat.eq_of_beq_eq_true hb
      subst ht
      unfold n_X7_ends_61 at h
      split at h
      · exact (s_X7_ends_61 hC ih _ _ _ _ _ _ _ _ _ _ h).le ⟨Or.inr rfl, Or.inr rfl, Or.inr rfl, Or.inr rfl, Or.inr rfl, Or.inl rfl, Or.inr rfl, Or.inr rfl, Or.inr rfl, trivial⟩
      · cases h
    cases h
theorem s_X7_ends_0 {F : Nat × Nat} {l : Launch} {G : rx_G} {D : Nat} {hf : rx_H} {z : (Int32 × Option rx_H)} (hC : rx_CC l G D (C_X7_ends F) z) (x0 : Nat) (x1 : Int32) (x2 : Int32) (x3 : Int32) (u : Option rx_H) (h : f_X7_ends_0 F x0 x1 x2 x3 u = some z) : rx_S l G ("SetHouseModel", prog_9_method_35_code, 9, false, false, D) hf (z.2.getD hf) rx_hI z 0 [some (.ref x0), some (.int x1), some (.int x2), some (.int x3), none, none, none, none, none] [] u := by
  rw [g_X7_ends_0] at h
  refine rx_S_node (md := ("SetHouseModel", prog_9_method_35_code, 9, false, false, D)) tk_X7_ends hC rx_m_hI (fun t ls st u h => ?_) h
  unfold kk_X7_ends_0 at h
  rcases rx_rec_eq h with ⟨hb, h⟩ | ⟨hb, h⟩
  · have ht := Nat.eq_of_beq_eq_true hb
    subst ht
    unfold n_X7_ends_36 at h
    split at h
    · exact (s_X7_ends_36 hC _ _ _ _ _ _ _ _ h).le ⟨Or.inr rfl, Or.inr rfl, Or.inr rfl, Or.inr rfl, Or.inr rfl, Or.inl rfl, Or.inr rfl, Or.inl rfl, Or.inl rfl, trivial⟩
    · cases h
  cases h
theorem cc_X7_ends (F : Nat × Nat) (l : Launch) (G : rx_G) {α : Type} (z : α) : rx_CC l G (2 + 0 * F.2) (C_X7_ends F) z := by
  intro j as u κ h
  unfold C_X7_ends at h
  rcases rx_rec_eq h with ⟨hb, h⟩ | ⟨hb, h⟩
  · have ht := Nat.eq_of_beq_eq_true hb
    subst ht
    exact (w_X7_has F l G h).deep (by omega)
  rcases rx_rec_eq h with ⟨hb, h⟩ | ⟨hb, h⟩
  · have ht := Nat.eq_of_beq_eq_true hb
    subst ht
    exact (w_X7_holdsNow F l G h).deep (by omega)
  rcases rx_rec_eq h with ⟨hb, h⟩ | ⟨hb, h⟩
  · have ht := Nat.eq_of_beq_eq_true hb
    subst ht
    exact (w_X7_isPlace F l G h).deep (by omega)
  rcases rx_rec_eq h with ⟨hb, h⟩ | ⟨hb, h⟩
  · have ht := Nat.eq_of_beq_eq_true hb
    subst ht
    exact (w_X7_isWithin F l G h).deep (by omega)
  rcases rx_rec_eq h with ⟨hb, h⟩ | ⟨hb, h⟩
  · have ht := Nat.eq_of_beq_eq_true hb
    subst ht
    exact (w_X7_lacks F l G h).deep (by omega)
  cases h
theorem m_X7_ends (F : Nat × Nat) (l : Launch) (G : rx_G) (hf : rx_H) (x0 : Nat) (x1 : Int32) (x2 : Int32) (x3 : Int32) (u : Option rx_H) {z : (Int32 × Option rx_H)} (h : f_X7_ends F x0 x1 x2 x3 u = some z) : rx_Ok l G (3 + 0 * F.2) (rx_ny 155) (.code (rx_ny 155) prog_9_method_35_code 9 (some .int)) [.ref x0, .int x1, .int x2, .int x3] (u.getD hf) (some (.int z.1)) (z.2.getD hf) := by
  have h := h
  unfold f_X7_ends at h
  exact (rx_met (l := l) (G := G) (hf := hf) (as := [.ref x0, .int x1, .int x2, .int x3]) (r := (some (.int z.1))) (ls0 := [some (.ref x0), some (.int x1), some (.int x2), some (.int x3), none, none, none, none, none]) (y := rx_ny 155) (D := (2 + 0 * F.2)) (ini := false) (bo := false) (u := u) (u' := z.2) (by decide +kernel) (fun h => by cases h) (Nat.le_of_ble_eq_true rfl) (Or.inl ⟨rfl, rfl, _, rfl⟩) (fun Z hZ hB => rx_RT_hI hZ hB) (by exact ⟨Or.inr rfl, Or.inr rfl, Or.inr rfl, Or.inr rfl, Or.inl rfl, Or.inl rfl, Or.inl rfl, Or.inl rfl, Or.inl rfl, trivial⟩) (s_X7_ends_0 (cc_X7_ends F l G z) x0 x1 x2 x3 u h)).deep (by omega)
theorem w_X7_ends (F : Nat × Nat) (l : Launch) (G : rx_G) {α : Type} {z : α} {as : List Value} {u : Option rx_H} {κ : rx_K α} (h : c_X7_ends F as u κ = some z) : rx_Cw l G (3 + 0 * F.2) 155 as u κ z := by
  unfold c_X7_ends at h
  split at h
  · obtain ⟨r, hr, h⟩ := Option.bind_eq_some_iff.mp h
    exact ⟨_, _, _, _, h, k_X7_ends, fun h => absurd h (by decide), fun _ => ⟨_, _, rfl, rfl⟩, fun hf => m_X7_ends F l G hf _ _ _ _ _ hr⟩
  · cases h
set_option maxRecDepth 100000 in
theorem k_X7_each : rx_Cal (rx_ny 152) (.code (rx_ny 152) prog_9_method_36_code 10 (some .long)) (rx_kd 152) 3 := ⟨prog_9_method_36_code, 10, (some .long), Or.inl rfl, rx_in (i := 931) (by rfl) (by rfl), rx_in (i := 46) (by decide +kernel) (by decide +kernel), ⟨(by decide +kernel), (by decide +kernel), (by decide +kernel)⟩, Nat.le_of_ble_eq_true rfl, fun h => absurd h (by decide), fun _ => ⟨rx_in (i := 930) (by decide +kernel) (by decide +kernel), rx_in (i := 24) (by decide +kernel) (by decide +kernel)⟩, fun h => absurd h (by decide)⟩
set_option maxRecDepth 100000 in
theorem tk_X7_each : (t_X7_each.all (rx_eok "SetHouseModel" prog_9_method_36_code 10 false false) && rx_adj t_X7_each) = true := by decide +kernel
theorem s_X7_each_18 {F : Nat × Nat} {l : Launch} {G : rx_G} {D : Nat} {hf : rx_H} {z : (Int64 × Option rx_H)} (hC : rx_CC l G D (C_X7_each F) z) {k6 : Nat → Int64 → Int64 → Int32 → Int64 → Int32 → Option rx_H → Option (Int64 × Option rx_H)} (hk6 : ∀ (x0 : Nat) (x1 : Int64) (x3 : Int64) (x5 : Int32) (x6 : Int64) (x8 : Int32) (u : Option rx_H), k6 x0 x1 x3 x5 x6 x8 u = some z → rx_S l G ("SetHouseModel", prog_9_method_36_code, 10, false, false, D) hf (z.2.getD hf) rx_hJ z 6 [some (.ref x0), some (.long x1), none, some (.long x3), none, some (.int x5), some (.long x6), none, some (.int x8), none] [] u) : ∀ (f : Nat) (x0 : Nat) (x1 : Int64) (x3 : Int64) (x5 : Int32) (x6 : Int64) (x8 : Int32) (x9 : Int32) (u : Option rx_H), f_X7_each_18 F k6 f x0 x1 x3 x5 x6 x8 x9 u = some z → rx_S l G ("SetHouseModel", prog_9_method_36_code, 10, false, false, D) hf (z.2.getD hf) rx_hJ z 18 [some (.ref x0), some (.long x1), none, some (.long x3), none, some (.int x5), some (.long x6), none, some (.int x8), some (.int x9)] [] u := by
  intro f
  induction f with
  | zero =>
    intro x0 x1 x3 x5 x6 x8 x9 u h
    cases h
  | succ f ih =>
    intro x0 x1 x3 x5 x6 x8 x9 u h
    rw [g_X7_each_18] at h
    refine rx_S_node (md := ("SetHouseModel", prog_9_method_36_code, 10, false, false, D)) tk_X7_each hC rx_m_hJ (fun t ls st u h => ?_) h
    unfold kk_X7_each_18 at h
    rcases rx_rec_eq h with ⟨hb, h⟩ | ⟨hb, h⟩
    · have ht := Nat.eq_of_beq_eq_true hb
      subst ht
      unfold n_X7_each_6 at h
      split at h
      · exact (hk6 _ _ _ _ _ _ _ h).le ⟨Or.inr rfl, Or.inr rfl, Or.inl rfl, Or.inr rfl, Or.inl rfl, Or.inr rfl, Or.inr rfl, Or.inl rfl, Or.inr rfl, Or.inl rfl, trivial⟩
      · cases h
    rcases rx_rec_eq h with ⟨hb, h⟩ | ⟨hb, h⟩
    · have ht := Nat.eq_of_beq_eq_true hb
      subst ht
      unfold n_X7_each_18 at h
      split at h
      · exact (ih _ _ _ _ _ _ _ _ h).le ⟨Or.inr rfl, Or.inr rfl, Or.inl rfl, Or.inr rfl, Or.inl rfl, Or.inr rfl, Or.inr rfl, Or.inl rfl, Or.inr rfl, Or.inr rfl, trivial⟩
      · cases h
    cases h
theorem s_X7_each_6 {F : Nat × Nat} {l : Launch} {G : rx_G} {D : Nat} {hf : rx_H} {z : (Int64 × Option rx_H)} (hC : rx_CC l G D (C_X7_each F) z) : ∀ (f : Nat) (x0 : Nat) (x1 : Int64) (x3 : Int64) (x5 : Int32) (x6 : Int64) (x8 : Int32) (u : Option rx_H), f_X7_each_6 F f x0 x1 x3 x5 x6 x8 u = some z → rx_S l G ("SetHouseModel", prog_9_method_36_code, 10, false, false, D) hf (z.2.getD hf) rx_hJ z 6 [some (.ref x0), some (.long x1), none, some (.long x3), none, some (.int x5), some (.long x6), none, some (.int x8), none] [] u := by
  intro f
  induction f with
  | zero =>
    intro x0 x1 x3 x5 x6 x8 u h
    cases h
  | succ f ih =>
    intro x0 x1 x3 x5 x6 x8 u h
    rw [g_X7_each_6] at h
    refine rx_S_node (md := ("SetHouseModel", prog_9_method_36_code, 10, false, false, D)) tk_X7_each hC rx_m_hJ (fun t ls st u h => ?_) h
    unfold kk_X7_each_6 at h
    rcases rx_rec_eq h with ⟨hb, h⟩ | ⟨hb, h⟩
    · have ht := Nat.eq_of_beq_eq_true hb
      subst ht
      unfold n_X7_each_18 at h
      split at h
      · exact (s_X7_each_18 hC ih _ _ _ _ _ _ _ _ _ h).le ⟨Or.inr rfl, Or.inr rfl, Or.inl rfl, Or.inr rfl, Or.inl rfl, Or.inr rfl, Or.inr rfl, Or.inl rfl, Or.inr rfl, Or.inr rfl, trivial⟩
      · cases h
    cases h
theorem s_X7_each_0 {F : Nat × Nat} {l : Launch} {G : rx_G} {D : Nat} {hf : rx_H} {z : (Int64 × Option rx_H)} (hC : rx_CC l G D (C_X7_each F) z) (x0 : Nat) (x1 : Int64) (x3 : Int64) (x5 : Int32) (u : Option rx_H) (h : f_X7_each_0 F x0 x1 x3 x5 u = some z) : rx_S l G ("SetHouseModel", prog_9_method_36_code, 10, false, false, D) hf (z.2.getD hf) rx_hJ z 0 [some (.ref x0), some (.long x1), none, some (.long x3), none, some (.int x5), none, none, none, none] [] u := by
  rw [g_X7_each_0] at h
  refine rx_S_node (md := ("SetHouseModel", prog_9_method_36_code, 10, false, false, D)) tk_X7_each hC rx_m_hJ (fun t ls st u h => ?_) h
  unfold kk_X7_each_0 at h
  rcases rx_rec_eq h with ⟨hb, h⟩ | ⟨hb, h⟩
  · have ht := Nat.eq_of_beq_eq_true hb
    subst ht
    unfold n_X7_each_6 at h
    split at h
    · exact (s_X7_each_6 hC _ _ _ _ _ _ _ _ h).le ⟨Or.inr rfl, Or.inr rfl, Or.inl rfl, Or.inr rfl, Or.inl rfl, Or.inr rfl, Or.inr rfl, Or.inl rfl, Or.inr rfl, Or.inl rfl, trivial⟩
    · cases h
  cases h
theorem cc_X7_each (F : Nat × Nat) (l : Launch) (G : rx_G) {α : Type} (z : α) : rx_CC l G (1 + 0 * F.2) (C_X7_each F) z := by
  intro j as u κ h
  unfold C_X7_each at h
  rcases rx_rec_eq h with ⟨hb, h⟩ | ⟨hb, h⟩
  · have ht := Nat.eq_of_beq_eq_true hb
    subst ht
    exact (w_X7_has F l G h).deep (by omega)
  cases h
theorem m_X7_each (F : Nat × Nat) (l : Launch) (G : rx_G) (hf : rx_H) (x0 : Nat) (x1 : Int64) (x3 : Int64) (x5 : Int32) (u : Option rx_H) {z : (Int64 × Option rx_H)} (h : f_X7_each F x0 x1 x3 x5 u = some z) : rx_Ok l G (2 + 0 * F.2) (rx_ny 152) (.code (rx_ny 152) prog_9_method_36_code 10 (some .long)) [.ref x0, .long x1, .long x3, .int x5] (u.getD hf) (some (.long z.1)) (z.2.getD hf) := by
  have h := h
  unfold f_X7_each at h
  exact (rx_met (l := l) (G := G) (hf := hf) (as := [.ref x0, .long x1, .long x3, .int x5]) (r := (some (.long z.1))) (ls0 := [some (.ref x0), some (.long x1), none, some (.long x3), none, some (.int x5), none, none, none, none]) (y := rx_ny 152) (D := (1 + 0 * F.2)) (ini := false) (bo := false) (u := u) (u' := z.2) (by decide +kernel) (fun h => by cases h) (Nat.le_of_ble_eq_true rfl) (Or.inr (Or.inr (Or.inl ⟨rfl, _, rfl⟩))) (fun Z hZ hB => rx_RT_hJ hZ hB) (by exact ⟨Or.inr rfl, Or.inr rfl, Or.inl rfl, Or.inr rfl, Or.inl rfl, Or.inr rfl, Or.inl rfl, Or.inl rfl, Or.inl rfl, Or.inl rfl, trivial⟩) (s_X7_each_0 (cc_X7_each F l G z) x0 x1 x3 x5 u h)).deep (by omega)
theorem w_X7_each (F : Nat × Nat) (l : Launch) (G : rx_G) {α : Type} {z : α} {as : List Value} {u : Option rx_H} {κ : rx_K α} (h : c_X7_each F as u κ = some z) : rx_Cw l G (2 + 0 * F.2) 152 as u κ z := by
  unfold c_X7_each at h
  split at h
  · obtain ⟨r, hr, h⟩ := Option.bind_eq_some_iff.mp h
    exact ⟨_, _, _, _, h, k_X7_each, fun h => absurd h (by decide), fun _ => ⟨_, _, rfl, rfl⟩, fun hf => m_X7_each F l G hf _ _ _ _ _ hr⟩
  · cases h
set_option maxRecDepth 100000 in
theorem k_X7_mix : rx_Cal (rx_ny 186) (.code (rx_ny 186) prog_9_method_37_code 11 (some .int)) (rx_kd 186) 4 := ⟨prog_9_method_37_code, 11, (some .int), Or.inl rfl, rx_in (i := 924) (by rfl) (by rfl), rx_in (i := 46) (by decide +kernel) (by decide +kernel), ⟨(by decide +kernel), (by decide +kernel), (by decide +kernel)⟩, Nat.le_of_ble_eq_true rfl, fun h => absurd h (by decide), fun _ => ⟨rx_in (i := 922) (by decide +kernel) (by decide +kernel), rx_in (i := 923) (by decide +kernel) (by decide +kernel)⟩, fun h => absurd h (by decide)⟩
set_option maxRecDepth 100000 in
theorem tk_X7_mix : (t_X7_mix.all (rx_eok "SetHouseModel" prog_9_method_37_code 11 false false) && rx_adj t_X7_mix) = true := by decide +kernel
theorem s_X7_mix_152 {F : Nat × Nat} {l : Launch} {G : rx_G} {D : Nat} {hf : rx_H} {z : (Int32 × Option rx_H)} (hC : rx_CC l G D (C_X7_mix F) z) (x0 : Nat) (x4 : Int32) (s0 : Int64) (u : Option rx_H) (h : f_X7_mix_152 F x0 x4 s0 u = some z) : rx_S l G ("SetHouseModel", prog_9_method_37_code, 11, false, false, D) hf (z.2.getD hf) rx_hI z 152 [some (.ref x0), none, none, none, some (.int x4), none, none, none, none, none, none] [.long s0] u := by
  rw [g_X7_mix_152] at h
  refine rx_S_node (md := ("SetHouseModel", prog_9_method_37_code, 11, false, false, D)) tk_X7_mix hC rx_m_hI (fun t ls st u h => ?_) h
  unfold kk_X7_mix_152 at h
  cases h
theorem s_X7_mix_149 {F : Nat × Nat} {l : Launch} {G : rx_G} {D : Nat} {hf : rx_H} {z : (Int32 × Option rx_H)} (hC : rx_CC l G D (C_X7_mix F) z) (x0 : Nat) (x4 : Int32) (s0 : Nat) (s1 : Int64) (s2 : Int64) (s3 : Int32) (u : Option rx_H) (h : f_X7_mix_149 F x0 x4 s0 s1 s2 s3 u = some z) : rx_S l G ("SetHouseModel", prog_9_method_37_code, 11, false, false, D) hf (z.2.getD hf) rx_hI z 149 [some (.ref x0), none, none, none, some (.int x4), none, none, none, none, none, none] [.int s3, .long s2, .long s1, .ref s0] u := by
  rw [g_X7_mix_149] at h
  refine rx_S_node (md := ("SetHouseModel", prog_9_method_37_code, 11, false, false, D)) tk_X7_mix hC rx_m_hI (fun t ls st u h => ?_) h
  unfold kk_X7_mix_149 at h
  rcases rx_rec_eq h with ⟨hb, h⟩ | ⟨hb, h⟩
  · have ht := Nat.eq_of_beq_eq_true hb
    subst ht
    unfold n_X7_mix_152 at h
    split at h
    · exact (s_X7_mix_152 hC _ _ _ _ h).le ⟨Or.inr rfl, Or.inl rfl, Or.inl rfl, Or.inl rfl, Or.inr rfl, Or.inl rfl, Or.inl rfl, Or.inl rfl, Or.inl rfl, Or.inl rfl, Or.inl rfl, trivial⟩
    · cases h
  cases h
theorem s_X7_mix_0 {F : Nat × Nat} {l : Launch} {G : rx_G} {D : Nat} {hf : rx_H} {z : (Int32 × Option rx_H)} (hC : rx_CC l G D (C_X7_mix F) z) (x0 : Nat) (x1 : Int32) (x2 : Int32) (x3 : Int32) (x4 : Int32) (u : Option rx_H) (h : f_X7_mix_0 F x0 x1 x2 x3 x4 u = some z) : rx_S l G ("SetHouseModel", prog_9_method_37_code, 11, false, false, D) hf (z.2.getD hf) rx_hI z 0 [some (.ref x0), some (.int x1), some (.int x2), some (.int x3), some (.int x4), none, none, none, none, none, none] [] u := by
  rw [g_X7_mix_0] at h
  refine rx_S_node (md := ("SetHouseModel", prog_9_method_37_code, 11, false, false, D)) tk_X7_mix hC rx_m_hI (fun t ls st u h => ?_) h
  unfold kk_X7_mix_0 at h
  rcases rx_rec_eq h with ⟨hb, h⟩ | ⟨hb, h⟩
  · have ht := Nat.eq_of_beq_eq_true hb
    subst ht
    unfold n_X7_mix_149 at h
    split at h
    · exact (s_X7_mix_149 hC _ _ _ _ _ _ _ h).le ⟨Or.inr rfl, Or.inl rfl, Or.inl rfl, Or.inl rfl, Or.inr rfl, Or.inl rfl, Or.inl rfl, Or.inl rfl, Or.inl rfl, Or.inl rfl, Or.inl rfl, trivial⟩
    · cases h
  rcases rx_rec_eq h with ⟨hb, h⟩ | ⟨hb, h⟩
  · have ht := Nat.eq_of_beq_eq_true hb
    subst ht
    unfold n_X7_mix_152 at h
    split at h
    · exact (s_X7_mix_152 hC _ _ _ _ h).le ⟨Or.inr rfl, Or.inl rfl, Or.inl rfl, Or.inl rfl, Or.inr rfl, Or.inl rfl, Or.inl rfl, Or.inl rfl, Or.inl rfl, Or.inl rfl, Or.inl rfl, trivial⟩
    · cases h
  cases h
theorem cc_X7_mix (F : Nat × Nat) (l : Launch) (G : rx_G) {α : Type} (z : α) : rx_CC l G (2 + 0 * F.2) (C_X7_mix F) z := by
  intro j as u κ h
  unfold C_X7_mix at h
  rcases rx_rec_eq h with ⟨hb, h⟩ | ⟨hb, h⟩
  · have ht := Nat.eq_of_beq_eq_true hb
    subst ht
    exact (w_X7_each F l G h).deep (by omega)
  rcases rx_rec_eq h with ⟨hb, h⟩ | ⟨hb, h⟩
  · have ht := Nat.eq_of_beq_eq_true hb
    subst ht
    exact (w_X7_holdsNow F l G h).deep (by omega)
  rcases rx_rec_eq h with ⟨hb, h⟩ | ⟨hb, h⟩
  · have ht := Nat.eq_of_beq_eq_true hb
    subst ht
    exact (w_X7_isIn F l G h).deep (by omega)
  rcases rx_rec_eq h with ⟨hb, h⟩ | ⟨hb, h⟩
  · have ht := Nat.eq_of_beq_eq_true hb
    subst ht
    exact (w_X7_isPlace F l G h).deep (by omega)
  rcases rx_rec_eq h with ⟨hb, h⟩ | ⟨hb, h⟩
  · have ht := Nat.eq_of_beq_eq_true hb
    subst ht
    exact (w_X7_lacking F l G h).deep (by omega)
  rcases rx_rec_eq h with ⟨hb, h⟩ | ⟨hb, h⟩
  · have ht := Nat.eq_of_beq_eq_true hb
    subst ht
    exact (w_X7_lacks F l G h).deep (by omega)
  cases h
theorem m_X7_mix (F : Nat × Nat) (l : Launch) (G : rx_G) (hf : rx_H) (x0 : Nat) (x1 : Int32) (x2 : Int32) (x3 : Int32) (x4 : Int32) (u : Option rx_H) {z : (Int32 × Option rx_H)} (h : f_X7_mix F x0 x1 x2 x3 x4 u = some z) : rx_Ok l G (3 + 0 * F.2) (rx_ny 186) (.code (rx_ny 186) prog_9_method_37_code 11 (some .int)) [.ref x0, .int x1, .int x2, .int x3, .int x4] (u.getD hf) (some (.int z.1)) (z.2.getD hf) := by
  have h := h
  unfold f_X7_mix at h
  exact (rx_met (l := l) (G := G) (hf := hf) (as := [.ref x0, .int x1, .int x2, .int x3, .int x4]) (r := (some (.int z.1))) (ls0 := [some (.ref x0), some (.int x1), some (.int x2), some (.int x3), some (.int x4), none, none, none, none, none, none]) (y := rx_ny 186) (D := (2 + 0 * F.2)) (ini := false) (bo := false) (u := u) (u' := z.2) (by decide +kernel) (fun h => by cases h) (Nat.le_of_ble_eq_true rfl) (Or.inl ⟨rfl, rfl, _, rfl⟩) (fun Z hZ hB => rx_RT_hI hZ hB) (by exact ⟨Or.inr rfl, Or.inr rfl, Or.inr rfl, Or.inr rfl, Or.inr rfl, Or.inl rfl, Or.inl rfl, Or.inl rfl, Or.inl rfl, Or.inl rfl, Or.inl rfl, trivial⟩) (s_X7_mix_0 (cc_X7_mix F l G z) x0 x1 x2 x3 x4 u h)).deep (by omega)
theorem w_X7_mix (F : Nat × Nat) (l : Launch) (G : rx_G) {α : Type} {z : α} {as : List Value} {u : Option rx_H} {κ : rx_K α} (h : c_X7_mix F as u κ = some z) : rx_Cw l G (3 + 0 * F.2) 186 as u κ z := by
  unfold c_X7_mix at h
  split at h
  · obtain ⟨r, hr, h⟩ := Option.bind_eq_some_iff.mp h
    exact ⟨_, _, _, _, h, k_X7_mix, fun h => absurd h (by decide), fun _ => ⟨_, _, rfl, rfl⟩, fun hf => m_X7_mix F l G hf _ _ _ _ _ _ hr⟩
  · cases h
set_option maxRecDepth 100000 in
theorem k_X7_rest : rx_Cal (rx_ny 200) (.code (rx_ny 200) prog_9_method_38_code 7 (some .int)) (rx_kd 200) 3 := ⟨prog_9_method_38_code, 7, (some .int), Or.inl rfl, rx_in (i := 935) (by rfl) (by rfl), rx_in (i := 46) (by decide +kernel) (by decide +kernel), ⟨(by decide +kernel), (by decide +kernel), (by decide +kernel)⟩, Nat.le_of_ble_eq_true rfl, fun h => absurd h (by decide), fun _ => ⟨rx_in (i := 933) (by decide +kernel) (by decide +kernel), rx_in (i := 934) (by decide +kernel) (by decide +kernel)⟩, fun h => absurd h (by decide)⟩
set_option maxRecDepth 100000 in
theorem tk_X7_rest : (t_X7_rest.all (rx_eok "SetHouseModel" prog_9_method_38_code 7 false false) && rx_adj t_X7_rest) = true := by decide +kernel
theorem s_X7_rest_36 {F : Nat × Nat} {l : Launch} {G : rx_G} {D : Nat} {hf : rx_H} {z : (Int32 × Option rx_H)} (hC : rx_CC l G D (C_X7_rest F) z) : ∀ (f : Nat) (x0 : Nat) (x1 : Int32) (x2 : Int32) (x3 : Int32) (x4 : Int64) (x6 : Int32) (u : Option rx_H), f_X7_rest_36 F f x0 x1 x2 x3 x4 x6 u = some z → rx_S l G ("SetHouseModel", prog_9_method_38_code, 7, false, false, D) hf (z.2.getD hf) rx_hI z 36 [some (.ref x0), some (.int x1), some (.int x2), some (.int x3), some (.long x4), none, some (.int x6)] [] u := by
  intro f
  induction f with
  | zero =>
    intro x0 x1 x2 x3 x4 x6 u h
    cases h
  | succ f ih =>
    intro x0 x1 x2 x3 x4 x6 u h
    rw [g_X7_rest_36] at h
    refine rx_S_node (md := ("SetHouseModel", prog_9_method_38_code, 7, false, false, D)) tk_X7_rest hC rx_m_hI (fun t ls st u h => ?_) h
    unfold kk_X7_rest_36 at h
    rcases rx_rec_eq h with ⟨hb, h⟩ | ⟨hb, h⟩
    · have ht := Nat.eq_of_beq_eq_true hb
      subst ht
      unfold n_X7_rest_36 at h
      split at h
      · exact (ih _ _ _ _ _ _ _ h).le ⟨Or.inr rfl, Or.inr rfl, Or.inr rfl, Or.inr rfl, Or.inr rfl, Or.inl rfl, Or.inr rfl, trivial⟩
      · cases h
    cases h
theorem s_X7_rest_0 {F : Nat × Nat} {l : Launch} {G : rx_G} {D : Nat} {hf : rx_H} {z : (Int32 × Option rx_H)} (hC : rx_CC l G D (C_X7_rest F) z) (x0 : Nat) (x1 : Int32) (x2 : Int32) (x3 : Int32) (u : Option rx_H) (h : f_X7_rest_0 F x0 x1 x2 x3 u = some z) : rx_S l G ("SetHouseModel", prog_9_method_38_code, 7, false, false, D) hf (z.2.getD hf) rx_hI z 0 [some (.ref x0), some (.int x1), some (.int x2), some (.int x3), none, none, none] [] u := by
  rw [g_X7_rest_0] at h
  refine rx_S_node (md := ("SetHouseModel", prog_9_method_38_code, 7, false, false, D)) tk_X7_rest hC rx_m_hI (fun t ls st u h => ?_) h
  unfold kk_X7_rest_0 at h
  rcases rx_rec_eq h with ⟨hb, h⟩ | ⟨hb, h⟩
  · have ht := Nat.eq_of_beq_eq_true hb
    subst ht
    unfold n_X7_rest_36 at h
    split at h
    · exact (s_X7_rest_36 hC _ _ _ _ _ _ _ _ h).le ⟨Or.inr rfl, Or.inr rfl, Or.inr rfl, Or.inr rfl, Or.inr rfl, Or.inl rfl, Or.inr rfl, trivial⟩
    · cases h
  cases h
theorem cc_X7_rest (F : Nat × Nat) (l : Launch) (G : rx_G) {α : Type} (z : α) : rx_CC l G (2 + 0 * F.2) (C_X7_rest F) z := by
  intro j as u κ h
  unfold C_X7_rest at h
  rcases rx_rec_eq h with ⟨hb, h⟩ | ⟨hb, h⟩
  · have ht := Nat.eq_of_beq_eq_true hb
    subst ht
    exact (w_X7_has F l G h).deep (by omega)
  rcases rx_rec_eq h with ⟨hb, h⟩ | ⟨hb, h⟩
  · have ht := Nat.eq_of_beq_eq_true hb
    subst ht
    exact (w_X7_holdsNow F l G h).deep (by omega)
  rcases rx_rec_eq h with ⟨hb, h⟩ | ⟨hb, h⟩
  · have ht := Nat.eq_of_beq_eq_true hb
    subst ht
    exact (w_X7_isPlace F l G h).deep (by omega)
  rcases rx_rec_eq h with ⟨hb, h⟩ | ⟨hb, h⟩
  · have ht := Nat.eq_of_beq_eq_true hb
    subst ht
    exact (w_X7_lacks F l G h).deep (by omega)
  cases h
theorem m_X7_rest (F : Nat × Nat) (l : Launch) (G : rx_G) (hf : rx_H) (x0 : Nat) (x1 : Int32) (x2 : Int32) (x3 : Int32) (u : Option rx_H) {z : (Int32 × Option rx_H)} (h : f_X7_rest F x0 x1 x2 x3 u = some z) : rx_Ok l G (3 + 0 * F.2) (rx_ny 200) (.code (rx_ny 200) prog_9_method_38_code 7 (some .int)) [.ref x0, .int x1, .int x2, .int x3] (u.getD hf) (some (.int z.1)) (z.2.getD hf) := by
  have h := h
  unfold f_X7_rest at h
  exact (rx_met (l := l) (G := G) (hf := hf) (as := [.ref x0, .int x1, .int x2, .int x3]) (r := (some (.int z.1))) (ls0 := [some (.ref x0), some (.int x1), some (.int x2), some (.int x3), none, none, none]) (y := rx_ny 200) (D := (2 + 0 * F.2)) (ini := false) (bo := false) (u := u) (u' := z.2) (by decide +kernel) (fun h => by cases h) (Nat.le_of_ble_eq_true rfl) (Or.inl ⟨rfl, rfl, _, rfl⟩) (fun Z hZ hB => rx_RT_hI hZ hB) (by exact ⟨Or.inr rfl, Or.inr rfl, Or.inr rfl, Or.inr rfl, Or.inl rfl, Or.inl rfl, Or.inl rfl, trivial⟩) (s_X7_rest_0 (cc_X7_rest F l G z) x0 x1 x2 x3 u h)).deep (by omega)
theorem w_X7_rest (F : Nat × Nat) (l : Launch) (G : rx_G) {α : Type} {z : α} {as : List Value} {u : Option rx_H} {κ : rx_K α} (h : c_X7_rest F as u κ = some z) : rx_Cw l G (3 + 0 * F.2) 200 as u κ z := by
  unfold c_X7_rest at h
  split at h
  · obtain ⟨r, hr, h⟩ := Option.bind_eq_some_iff.mp h
    exact ⟨_, _, _, _, h, k_X7_rest, fun h => absurd h (by decide), fun _ => ⟨_, _, rfl, rfl⟩, fun hf => m_X7_rest F l G hf _ _ _ _ _ hr⟩
  · cases h
set_option maxRecDepth 100000 in
theorem k_X7_traceOf : rx_Cal (rx_ny 217) (.code (rx_ny 217) prog_9_method_39_code 7 (some .long)) (rx_kd 217) 2 := ⟨prog_9_method_39_code, 7, (some .long), Or.inl rfl, rx_in (i := 943) (by rfl) (by rfl), rx_in (i := 46) (by decide +kernel) (by decide +kernel), ⟨(by decide +kernel), (by decide +kernel), (by decide +kernel)⟩, Nat.le_of_ble_eq_true rfl, fun h => absurd h (by decide), fun _ => ⟨rx_in (i := 942) (by decide +kernel) (by decide +kernel), rx_in (i := 25) (by decide +kernel) (by decide +kernel)⟩, fun h => absurd h (by decide)⟩
set_option maxRecDepth 100000 in
theorem tk_X7_traceOf : (t_X7_traceOf.all (rx_eok "SetHouseModel" prog_9_method_39_code 7 false false) && rx_adj t_X7_traceOf) = true := by decide +kernel
theorem s_X7_traceOf_6 {F : Nat × Nat} {l : Launch} {G : rx_G} {D : Nat} {hf : rx_H} {z : (Int64 × Option rx_H)} (hC : rx_CC l G D (C_X7_traceOf F) z) : ∀ (f : Nat) (x0 : Nat) (x1 : Int64) (x3 : Int32) (x4 : Int64) (x6 : Int32) (u : Option rx_H), f_X7_traceOf_6 F f x0 x1 x3 x4 x6 u = some z → rx_S l G ("SetHouseModel", prog_9_method_39_code, 7, false, false, D) hf (z.2.getD hf) rx_hJ z 6 [some (.ref x0), some (.long x1), none, some (.int x3), some (.long x4), none, some (.int x6)] [] u := by
  intro f
  induction f with
  | zero =>
    intro x0 x1 x3 x4 x6 u h
    cases h
  | succ f ih =>
    intro x0 x1 x3 x4 x6 u h
    rw [g_X7_traceOf_6] at h
    refine rx_S_node (md := ("SetHouseModel", prog_9_method_39_code, 7, false, false, D)) tk_X7_traceOf hC rx_m_hJ (fun t ls st u h => ?_) h
    unfold kk_X7_traceOf_6 at h
    rcases rx_rec_eq h with ⟨hb, h⟩ | ⟨hb, h⟩
    · have ht := Nat.eq_of_beq_eq_true hb
      subst ht
      unfold n_X7_traceOf_6 at h
      split at h
      · exact (ih _ _ _ _ _ _ h).le ⟨Or.inr rfl, Or.inr rfl, Or.inl rfl, Or.inr rfl, Or.inr rfl, Or.inl rfl, Or.inr rfl, trivial⟩
      · cases h
    cases h
theorem s_X7_traceOf_0 {F : Nat × Nat} {l : Launch} {G : rx_G} {D : Nat} {hf : rx_H} {z : (Int64 × Option rx_H)} (hC : rx_CC l G D (C_X7_traceOf F) z) (x0 : Nat) (x1 : Int64) (x3 : Int32) (u : Option rx_H) (h : f_X7_traceOf_0 F x0 x1 x3 u = some z) : rx_S l G ("SetHouseModel", prog_9_method_39_code, 7, false, false, D) hf (z.2.getD hf) rx_hJ z 0 [some (.ref x0), some (.long x1), none, some (.int x3), none, none, none] [] u := by
  rw [g_X7_traceOf_0] at h
  refine rx_S_node (md := ("SetHouseModel", prog_9_method_39_code, 7, false, false, D)) tk_X7_traceOf hC rx_m_hJ (fun t ls st u h => ?_) h
  unfold kk_X7_traceOf_0 at h
  rcases rx_rec_eq h with ⟨hb, h⟩ | ⟨hb, h⟩
  · have ht := Nat.eq_of_beq_eq_true hb
    subst ht
    unfold n_X7_traceOf_6 at h
    split at h
    · exact (s_X7_traceOf_6 hC _ _ _ _ _ _ _ h).le ⟨Or.inr rfl, Or.inr rfl, Or.inl rfl, Or.inr rfl, Or.inr rfl, Or.inl rfl, Or.inr rfl, trivial⟩
    · cases h
  cases h
theorem cc_X7_traceOf (F : Nat × Nat) (l : Launch) (G : rx_G) {α : Type} (z : α) : rx_CC l G (1 + 0 * F.2) (C_X7_traceOf F) z := by
  intro j as u κ h
  unfold C_X7_traceOf at h
  rcases rx_rec_eq h with ⟨hb, h⟩ | ⟨hb, h⟩
  · have ht := Nat.eq_of_beq_eq_true hb
    subst ht
    exact (w_X7_has F l G h).deep (by omega)
  cases h
theorem m_X7_traceOf (F : Nat × Nat) (l : Launch) (G : rx_G) (hf : rx_H) (x0 : Nat) (x1 : Int64) (x3 : Int32) (u : Option rx_H) {z : (Int64 × Option rx_H)} (h : f_X7_traceOf F x0 x1 x3 u = some z) : rx_Ok l G (2 + 0 * F.2) (rx_ny 217) (.code (rx_ny 217) prog_9_method_39_code 7 (some .long)) [.ref x0, .long x1, .int x3] (u.getD hf) (some (.long z.1)) (z.2.getD hf) := by
  have h := h
  unfold f_X7_traceOf at h
  exact (rx_met (l := l) (G := G) (hf := hf) (as := [.ref x0, .long x1, .int x3]) (r := (some (.long z.1))) (ls0 := [some (.ref x0), some (.long x1), none, some (.int x3), none, none, none]) (y := rx_ny 217) (D := (1 + 0 * F.2)) (ini := false) (bo := false) (u := u) (u' := z.2) (by decide +kernel) (fun h => by cases h) (Nat.le_of_ble_eq_true rfl) (Or.inr (Or.inr (Or.inl ⟨rfl, _, rfl⟩))) (fun Z hZ hB => rx_RT_hJ hZ hB) (by exact ⟨Or.inr rfl, Or.inr rfl, Or.inl rfl, Or.inr rfl, Or.inl rfl, Or.inl rfl, Or.inl rfl, trivial⟩) (s_X7_traceOf_0 (cc_X7_traceOf F l G z) x0 x1 x3 u h)).deep (by omega)
theorem w_X7_traceOf (F : Nat × Nat) (l : Launch) (G : rx_G) {α : Type} {z : α} {as : List Value} {u : Option rx_H} {κ : rx_K α} (h : c_X7_traceOf F as u κ = some z) : rx_Cw l G (2 + 0 * F.2) 217 as u κ z := by
  unfold c_X7_traceOf at h
  split at h
  · obtain ⟨r, hr, h⟩ := Option.bind_eq_some_iff.mp h
    exact ⟨_, _, _, _, h, k_X7_traceOf, fun h => absurd h (by decide), fun _ => ⟨_, _, rfl, rfl⟩, fun hf => m_X7_traceOf F l G hf _ _ _ _ hr⟩
  · cases h
set_option maxRecDepth 100000 in
theorem k_X7_trace : rx_Cal (rx_ny 216) (.code (rx_ny 216) prog_9_method_40_code 4 (some .int)) (rx_kd 216) 3 := ⟨prog_9_method_40_code, 4, (some .int), Or.inl rfl, rx_in (i := 939) (by rfl) (by rfl), rx_in (i := 46) (by decide +kernel) (by decide +kernel), ⟨(by decide +kernel), (by decide +kernel), (by decide +kernel)⟩, Nat.le_of_ble_eq_true rfl, fun h => absurd h (by decide), fun _ => ⟨rx_in (i := 937) (by decide +kernel) (by decide +kernel), rx_in (i := 938) (by decide +kernel) (by decide +kernel)⟩, fun h => absurd h (by decide)⟩
set_option maxRecDepth 100000 in
theorem tk_X7_trace : (t_X7_trace.all (rx_eok "SetHouseModel" prog_9_method_40_code 4 false false) && rx_adj t_X7_trace) = true := by decide +kernel
theorem s_X7_trace_0 {F : Nat × Nat} {l : Launch} {G : rx_G} {D : Nat} {hf : rx_H} {z : (Int32 × Option rx_H)} (hC : rx_CC l G D (C_X7_trace F) z) (x0 : Nat) (x1 : Int32) (x2 : Int32) (x3 : Int32) (u : Option rx_H) (h : f_X7_trace_0 F x0 x1 x2 x3 u = some z) : rx_S l G ("SetHouseModel", prog_9_method_40_code, 4, false, false, D) hf (z.2.getD hf) rx_hI z 0 [some (.ref x0), some (.int x1), some (.int x2), some (.int x3)] [] u := by
  rw [g_X7_trace_0] at h
  refine rx_S_node (md := ("SetHouseModel", prog_9_method_40_code, 4, false, false, D)) tk_X7_trace hC rx_m_hI (fun t ls st u h => ?_) h
  unfold kk_X7_trace_0 at h
  cases h
theorem cc_X7_trace (F : Nat × Nat) (l : Launch) (G : rx_G) {α : Type} (z : α) : rx_CC l G (2 + 0 * F.2) (C_X7_trace F) z := by
  intro j as u κ h
  unfold C_X7_trace at h
  rcases rx_rec_eq h with ⟨hb, h⟩ | ⟨hb, h⟩
  · have ht := Nat.eq_of_beq_eq_true hb
    subst ht
    exact (w_X7_holdsNow F l G h).deep (by omega)
  rcases rx_rec_eq h with ⟨hb, h⟩ | ⟨hb, h⟩
  · have ht := Nat.eq_of_beq_eq_true hb
    subst ht
    exact (w_X7_isPlace F l G h).deep (by omega)
  rcases rx_rec_eq h with ⟨hb, h⟩ | ⟨hb, h⟩
  · have ht := Nat.eq_of_beq_eq_true hb
    subst ht
    exact (w_X7_isSet F l G h).deep (by omega)
  rcases rx_rec_eq h with ⟨hb, h⟩ | ⟨hb, h⟩
  · have ht := Nat.eq_of_beq_eq_true hb
    subst ht
    exact (w_X7_lacks F l G h).deep (by omega)
  rcases rx_rec_eq h with ⟨hb, h⟩ | ⟨hb, h⟩
  · have ht := Nat.eq_of_beq_eq_true hb
    subst ht
    exact (w_X7_traceOf F l G h).deep (by omega)
  cases h
theorem m_X7_trace (F : Nat × Nat) (l : Launch) (G : rx_G) (hf : rx_H) (x0 : Nat) (x1 : Int32) (x2 : Int32) (x3 : Int32) (u : Option rx_H) {z : (Int32 × Option rx_H)} (h : f_X7_trace F x0 x1 x2 x3 u = some z) : rx_Ok l G (3 + 0 * F.2) (rx_ny 216) (.code (rx_ny 216) prog_9_method_40_code 4 (some .int)) [.ref x0, .int x1, .int x2, .int x3] (u.getD hf) (some (.int z.1)) (z.2.getD hf) := by
  have h := h
  unfold f_X7_trace at h
  exact (rx_met (l := l) (G := G) (hf := hf) (as := [.ref x0, .int x1, .int x2, .int x3]) (r := (some (.int z.1))) (ls0 := [some (.ref x0), some (.int x1), some (.int x2), some (.int x3)]) (y := rx_ny 216) (D := (2 + 0 * F.2)) (ini := false) (bo := false) (u := u) (u' := z.2) (by decide +kernel) (fun h => by cases h) (Nat.le_of_ble_eq_true rfl) (Or.inl ⟨rfl, rfl, _, rfl⟩) (fun Z hZ hB => rx_RT_hI hZ hB) (by exact ⟨Or.inr rfl, Or.inr rfl, Or.inr rfl, Or.inr rfl, trivial⟩) (s_X7_trace_0 (cc_X7_trace F l G z) x0 x1 x2 x3 u h)).deep (by omega)
theorem w_X7_trace (F : Nat × Nat) (l : Launch) (G : rx_G) {α : Type} {z : α} {as : List Value} {u : Option rx_H} {κ : rx_K α} (h : c_X7_trace F as u κ = some z) : rx_Cw l G (3 + 0 * F.2) 216 as u κ z := by
  unfold c_X7_trace at h
  split at h
  · obtain ⟨r, hr, h⟩ := Option.bind_eq_some_iff.mp h
    exact ⟨_, _, _, _, h, k_X7_trace, fun h => absurd h (by decide), fun _ => ⟨_, _, rfl, rfl⟩, fun hf => m_X7_trace F l G hf _ _ _ _ _ hr⟩
  · cases h
set_option maxRecDepth 100000 in
theorem k_X7_isTurn : rx_Cal (rx_ny 176) (.code (rx_ny 176) prog_9_method_41_code 5 (some .boolean)) (rx_kd 176) 1 := ⟨prog_9_method_41_code, 5, (some .boolean), Or.inl rfl, rx_in (i := 951) (by rfl) (by rfl), rx_in (i := 46) (by decide +kernel) (by decide +kernel), ⟨(by decide +kernel), (by decide +kernel), (by decide +kernel)⟩, Nat.le_of_ble_eq_true rfl, fun h => absurd h (by decide), fun _ => ⟨rx_in (i := 950) (by decide +kernel) (by decide +kernel), rx_in (i := 26) (by decide +kernel) (by decide +kernel)⟩, fun h => absurd h (by decide)⟩
set_option maxRecDepth 100000 in
theorem tk_X7_isTurn : (t_X7_isTurn.all (rx_eok "SetHouseModel" prog_9_method_41_code 5 false true) && rx_adj t_X7_isTurn) = true := by decide +kernel
theorem s_X7_isTurn_51 {F : Nat × Nat} {l : Launch} {G : rx_G} {D : Nat} {hf : rx_H} {z : (Int32 × Option rx_H)} (hC : rx_CC l G D (C_X7_isTurn F) z) (x0 : Nat) (x1 : Int32) (x2 : Int32) (x3 : Int32) (u : Option rx_H) (h : f_X7_isTurn_51 F x0 x1 x2 x3 u = some z) : rx_S l G ("SetHouseModel", prog_9_method_41_code, 5, false, true, D) hf (z.2.getD hf) rx_hI z 51 [some (.ref x0), some (.int x1), some (.int x2), some (.int x3), none] [] u := by
  rw [g_X7_isTurn_51] at h
  refine rx_S_node (md := ("SetHouseModel", prog_9_method_41_code, 5, false, true, D)) tk_X7_isTurn hC rx_m_hI (fun t ls st u h => ?_) h
  unfold kk_X7_isTurn_51 at h
  cases h
theorem s_X7_isTurn_7 {F : Nat × Nat} {l : Launch} {G : rx_G} {D : Nat} {hf : rx_H} {z : (Int32 × Option rx_H)} (hC : rx_CC l G D (C_X7_isTurn F) z) : ∀ (f : Nat) (x0 : Nat) (x1 : Int32) (x2 : Int32) (x3 : Int32) (x4 : Int32) (u : Option rx_H), f_X7_isTurn_7 F f x0 x1 x2 x3 x4 u = some z → rx_S l G ("SetHouseModel", prog_9_method_41_code, 5, false, true, D) hf (z.2.getD hf) rx_hI z 7 [some (.ref x0), some (.int x1), some (.int x2), some (.int x3), some (.int x4)] [] u := by
  intro f
  induction f with
  | zero =>
    intro x0 x1 x2 x3 x4 u h
    cases h
  | succ f ih =>
    intro x0 x1 x2 x3 x4 u h
    rw [g_X7_isTurn_7] at h
    refine rx_S_node (md := ("SetHouseModel", prog_9_method_41_code, 5, false, true, D)) tk_X7_isTurn hC rx_m_hI (fun t ls st u h => ?_) h
    unfold kk_X7_isTurn_7 at h
    rcases rx_rec_eq h with ⟨hb, h⟩ | ⟨hb, h⟩
    · have ht := Nat.eq_of_beq_eq_true hb
      subst ht
      unfold n_X7_isTurn_7 at h
      split at h
      · exact (ih _ _ _ _ _ _ h).le ⟨Or.inr rfl, Or.inr rfl, Or.inr rfl, Or.inr rfl, Or.inr rfl, trivial⟩
      · cases h
    rcases rx_rec_eq h with ⟨hb, h⟩ | ⟨hb, h⟩
    · have ht := Nat.eq_of_beq_eq_true hb
      subst ht
      unfold n_X7_isTurn_51 at h
      split at h
      · exact (s_X7_isTurn_51 hC _ _ _ _ _ h).le ⟨Or.inr rfl, Or.inr rfl, Or.inr rfl, Or.inr rfl, Or.inl rfl, trivial⟩
      · cases h
    cases h
theorem s_X7_isTurn_0 {F : Nat × Nat} {l : Launch} {G : rx_G} {D : Nat} {hf : rx_H} {z : (Int32 × Option rx_H)} (hC : rx_CC l G D (C_X7_isTurn F) z) (x0 : Nat) (x1 : Int32) (u : Option rx_H) (h : f_X7_isTurn_0 F x0 x1 u = some z) : rx_S l G ("SetHouseModel", prog_9_method_41_code, 5, false, true, D) hf (z.2.getD hf) rx_hI z 0 [some (.ref x0), some (.int x1), none, none, none] [] u := by
  rw [g_X7_isTurn_0] at h
  refine rx_S_node (md := ("SetHouseModel", prog_9_method_41_code, 5, false, true, D)) tk_X7_isTurn hC rx_m_hI (fun t ls st u h => ?_) h
  unfold kk_X7_isTurn_0 at h
  rcases rx_rec_eq h with ⟨hb, h⟩ | ⟨hb, h⟩
  · have ht := Nat.eq_of_beq_eq_true hb
    subst ht
    unfold n_X7_isTurn_7 at h
    split at h
    · exact (s_X7_isTurn_7 hC _ _ _ _ _ _ _ h).le ⟨Or.inr rfl, Or.inr rfl, Or.inr rfl, Or.inr rfl, Or.inr rfl, trivial⟩
    · cases h
  cases h
theorem cc_X7_isTurn (F : Nat × Nat) (l : Launch) (G : rx_G) {α : Type} (z : α) : rx_CC l G (0 + 0 * F.2) (C_X7_isTurn F) z := by
  intro j as u κ h
  unfold C_X7_isTurn at h
  cases h
theorem m_X7_isTurn (F : Nat × Nat) (l : Launch) (G : rx_G) (hf : rx_H) (x0 : Nat) (x1 : Int32) (u : Option rx_H) {z : (Int32 × Option rx_H)} (h : f_X7_isTurn F x0 x1 u = some z) : rx_Ok l G (1 + 0 * F.2) (rx_ny 176) (.code (rx_ny 176) prog_9_method_41_code 5 (some .boolean)) [.ref x0, .int x1] (u.getD hf) (some (.int z.1)) (z.2.getD hf) := by
  have h := h
  unfold f_X7_isTurn at h
  exact (rx_met (l := l) (G := G) (hf := hf) (as := [.ref x0, .int x1]) (r := (some (.int z.1))) (ls0 := [some (.ref x0), some (.int x1), none, none, none]) (y := rx_ny 176) (D := (0 + 0 * F.2)) (ini := false) (bo := true) (u := u) (u' := z.2) (by decide +kernel) (fun h => by cases h) (Nat.le_of_ble_eq_true rfl) (Or.inr (Or.inl ⟨rfl, rfl, _, rfl⟩)) (fun Z hZ hB => rx_RT_hI hZ hB) (by exact ⟨Or.inr rfl, Or.inr rfl, Or.inl rfl, Or.inl rfl, Or.inl rfl, trivial⟩) (s_X7_isTurn_0 (cc_X7_isTurn F l G z) x0 x1 u h)).deep (by omega)
theorem w_X7_isTurn (F : Nat × Nat) (l : Launch) (G : rx_G) {α : Type} {z : α} {as : List Value} {u : Option rx_H} {κ : rx_K α} (h : c_X7_isTurn F as u κ = some z) : rx_Cw l G (1 + 0 * F.2) 176 as u κ z := by
  unfold c_X7_isTurn at h
  split at h
  · obtain ⟨r, hr, h⟩ := Option.bind_eq_some_iff.mp h
    exact ⟨_, _, _, _, h, k_X7_isTurn, fun h => absurd h (by decide), fun _ => ⟨_, _, rfl, rfl⟩, fun hf => m_X7_isTurn F l G hf _ _ _ hr⟩
  · cases h
set_option maxRecDepth 100000 in
theorem k_X7_turnedSet : rx_Cal (rx_ny 220) (.code (rx_ny 220) prog_9_method_42_code 4 (some .int)) (rx_kd 220) 1 := ⟨prog_9_method_42_code, 4, (some .int), Or.inl rfl, rx_in (i := 959) (by rfl) (by rfl), rx_in (i := 46) (by decide +kernel) (by decide +kernel), ⟨(by decide +kernel), (by decide +kernel), (by decide +kernel)⟩, Nat.le_of_ble_eq_true rfl, fun h => absurd h (by decide), fun _ => ⟨rx_in (i := 958) (by decide +kernel) (by decide +kernel), rx_in (i := 28) (by decide +kernel) (by decide +kernel)⟩, fun h => absurd h (by decide)⟩
set_option maxRecDepth 100000 in
theorem tk_X7_turnedSet : (t_X7_turnedSet.all (rx_eok "SetHouseModel" prog_9_method_42_code 4 false false) && rx_adj t_X7_turnedSet) = true := by decide +kernel
theorem s_X7_turnedSet_4 {F : Nat × Nat} {l : Launch} {G : rx_G} {D : Nat} {hf : rx_H} {z : (Int32 × Option rx_H)} (hC : rx_CC l G D (C_X7_turnedSet F) z) : ∀ (f : Nat) (x0 : Nat) (x1 : Int32) (x2 : Int32) (x3 : Int32) (u : Option rx_H), f_X7_turnedSet_4 F f x0 x1 x2 x3 u = some z → rx_S l G ("SetHouseModel", prog_9_method_42_code, 4, false, false, D) hf (z.2.getD hf) rx_hI z 4 [some (.ref x0), some (.int x1), some (.int x2), some (.int x3)] [] u := by
  intro f
  induction f with
  | zero =>
    intro x0 x1 x2 x3 u h
    cases h
  | succ f ih =>
    intro x0 x1 x2 x3 u h
    rw [g_X7_turnedSet_4] at h
    refine rx_S_node (md := ("SetHouseModel", prog_9_method_42_code, 4, false, false, D)) tk_X7_turnedSet hC rx_m_hI (fun t ls st u h => ?_) h
    unfold kk_X7_turnedSet_4 at h
    rcases rx_rec_eq h with ⟨hb, h⟩ | ⟨hb, h⟩
    · have ht := Nat.eq_of_beq_eq_true hb
      subst ht
      unfold n_X7_turnedSet_4 at h
      split at h
      · exact (ih _ _ _ _ _ h).le ⟨Or.inr rfl, Or.inr rfl, Or.inr rfl, Or.inr rfl, trivial⟩
      · cases h
    cases h
theorem s_X7_turnedSet_0 {F : Nat × Nat} {l : Launch} {G : rx_G} {D : Nat} {hf : rx_H} {z : (Int32 × Option rx_H)} (hC : rx_CC l G D (C_X7_turnedSet F) z) (x0 : Nat) (x1 : Int32) (u : Option rx_H) (h : f_X7_turnedSet_0 F x0 x1 u = some z) : rx_S l G ("SetHouseModel", prog_9_method_42_code, 4, false, false, D) hf (z.2.getD hf) rx_hI z 0 [some (.ref x0), some (.int x1), none, none] [] u := by
  rw [g_X7_turnedSet_0] at h
  refine rx_S_node (md := ("SetHouseModel", prog_9_method_42_code, 4, false, false, D)) tk_X7_turnedSet hC rx_m_hI (fun t ls st u h => ?_) h
  unfold kk_X7_turnedSet_0 at h
  rcases rx_rec_eq h with ⟨hb, h⟩ | ⟨hb, h⟩
  · have ht := Nat.eq_of_beq_eq_true hb
    subst ht
    unfold n_X7_turnedSet_4 at h
    split at h
    · exact (s_X7_turnedSet_4 hC _ _ _ _ _ _ h).le ⟨Or.inr rfl, Or.inr rfl, Or.inr rfl, Or.inr rfl, trivial⟩
    · cases h
  cases h
theorem cc_X7_turnedSet (F : Nat × Nat) (l : Launch) (G : rx_G) {α : Type} (z : α) : rx_CC l G (0 + 0 * F.2) (C_X7_turnedSet F) z := by
  intro j as u κ h
  unfold C_X7_turnedSet at h
  cases h
theorem m_X7_turnedSet (F : Nat × Nat) (l : Launch) (G : rx_G) (hf : rx_H) (x0 : Nat) (x1 : Int32) (u : Option rx_H) {z : (Int32 × Option rx_H)} (h : f_X7_turnedSet F x0 x1 u = some z) : rx_Ok l G (1 + 0 * F.2) (rx_ny 220) (.code (rx_ny 220) prog_9_method_42_code 4 (some .int)) [.ref x0, .int x1] (u.getD hf) (some (.int z.1)) (z.2.getD hf) := by
  have h := h
  unfold f_X7_turnedSet at h
  exact (rx_met (l := l) (G := G) (hf := hf) (as := [.ref x0, .int x1]) (r := (some (.int z.1))) (ls0 := [some (.ref x0), some (.int x1), none, none]) (y := rx_ny 220) (D := (0 + 0 * F.2)) (ini := false) (bo := false) (u := u) (u' := z.2) (by decide +kernel) (fun h => by cases h) (Nat.le_of_ble_eq_true rfl) (Or.inl ⟨rfl, rfl, _, rfl⟩) (fun Z hZ hB => rx_RT_hI hZ hB) (by exact ⟨Or.inr rfl, Or.inr rfl, Or.inl rfl, Or.inl rfl, trivial⟩) (s_X7_turnedSet_0 (cc_X7_turnedSet F l G z) x0 x1 u h)).deep (by omega)
theorem w_X7_turnedSet (F : Nat × Nat) (l : Launch) (G : rx_G) {α : Type} {z : α} {as : List Value} {u : Option rx_H} {κ : rx_K α} (h : c_X7_turnedSet F as u κ = some z) : rx_Cw l G (1 + 0 * F.2) 220 as u κ z := by
  unfold c_X7_turnedSet at h
  split at h
  · obtain ⟨r, hr, h⟩ := Option.bind_eq_some_iff.mp h
    exact ⟨_, _, _, _, h, k_X7_turnedSet, fun h => absurd h (by decide), fun _ => ⟨_, _, rfl, rfl⟩, fun hf => m_X7_turnedSet F l G hf _ _ _ hr⟩
  · cases h
set_option maxRecDepth 100000 in
theorem k_X7_turnedAll : rx_Cal (rx_ny 219) (.code (rx_ny 219) prog_9_method_43_code 6 (some .long)) (rx_kd 219) 1 := ⟨prog_9_method_43_code, 6, (some .long), Or.inl rfl, rx_in (i := 955) (by rfl) (by rfl), rx_in (i := 46) (by decide +kernel) (by decide +kernel), ⟨(by decide +kernel), (by decide +kernel), (by decide +kernel)⟩, Nat.le_of_ble_eq_true rfl, fun h => absurd h (by decide), fun _ => ⟨rx_in (i := 954) (by decide +kernel) (by decide +kernel), rx_in (i := 27) (by decide +kernel) (by decide +kernel)⟩, fun h => absurd h (by decide)⟩
set_option maxRecDepth 100000 in
theorem tk_X7_turnedAll : (t_X7_turnedAll.all (rx_eok "SetHouseModel" prog_9_method_43_code 6 false false) && rx_adj t_X7_turnedAll) = true := by decide +kernel
theorem s_X7_turnedAll_5 {F : Nat × Nat} {l : Launch} {G : rx_G} {D : Nat} {hf : rx_H} {z : (Int64 × Option rx_H)} (hC : rx_CC l G D (C_X7_turnedAll F) z) : ∀ (f : Nat) (x0 : Nat) (x1 : Int64) (x3 : Int64) (x5 : Int32) (u : Option rx_H), f_X7_turnedAll_5 F f x0 x1 x3 x5 u = some z → rx_S l G ("SetHouseModel", prog_9_method_43_code, 6, false, false, D) hf (z.2.getD hf) rx_hJ z 5 [some (.ref x0), some (.long x1), none, some (.long x3), none, some (.int x5)] [] u := by
  intro f
  induction f with
  | zero =>
    intro x0 x1 x3 x5 u h
    cases h
  | succ f ih =>
    intro x0 x1 x3 x5 u h
    rw [g_X7_turnedAll_5] at h
    refine rx_S_node (md := ("SetHouseModel", prog_9_method_43_code, 6, false, false, D)) tk_X7_turnedAll hC rx_m_hJ (fun t ls st u h => ?_) h
    unfold kk_X7_turnedAll_5 at h
    rcases rx_rec_eq h with ⟨hb, h⟩ | ⟨hb, h⟩
    · have ht := Nat.eq_of_beq_eq_true hb
      subst ht
      unfold n_X7_turnedAll_5 at h
      split at h
      · exact (ih _ _ _ _ _ h).le ⟨Or.inr rfl, Or.inr rfl, Or.inl rfl, Or.inr rfl, Or.inl rfl, Or.inr rfl, trivial⟩
      · cases h
    cases h
theorem s_X7_turnedAll_0 {F : Nat × Nat} {l : Launch} {G : rx_G} {D : Nat} {hf : rx_H} {z : (Int64 × Option rx_H)} (hC : rx_CC l G D (C_X7_turnedAll F) z) (x0 : Nat) (x1 : Int64) (u : Option rx_H) (h : f_X7_turnedAll_0 F x0 x1 u = some z) : rx_S l G ("SetHouseModel", prog_9_method_43_code, 6, false, false, D) hf (z.2.getD hf) rx_hJ z 0 [some (.ref x0), some (.long x1), none, none, none, none] [] u := by
  rw [g_X7_turnedAll_0] at h
  refine rx_S_node (md := ("SetHouseModel", prog_9_method_43_code, 6, false, false, D)) tk_X7_turnedAll hC rx_m_hJ (fun t ls st u h => ?_) h
  unfold kk_X7_turnedAll_0 at h
  rcases rx_rec_eq h with ⟨hb, h⟩ | ⟨hb, h⟩
  · have ht := Nat.eq_of_beq_eq_true hb
    subst ht
    unfold n_X7_turnedAll_5 at h
    split at h
    · exact (s_X7_turnedAll_5 hC _ _ _ _ _ _ h).le ⟨Or.inr rfl, Or.inr rfl, Or.inl rfl, Or.inr rfl, Or.inl rfl, Or.inr rfl, trivial⟩
    · cases h
  cases h
theorem cc_X7_turnedAll (F : Nat × Nat) (l : Launch) (G : rx_G) {α : Type} (z : α) : rx_CC l G (1 + 0 * F.2) (C_X7_turnedAll F) z := by
  intro j as u κ h
  unfold C_X7_turnedAll at h
  rcases rx_rec_eq h with ⟨hb, h⟩ | ⟨hb, h⟩
  · have ht := Nat.eq_of_beq_eq_true hb
    subst ht
    exact (w_X7_has F l G h).deep (by omega)
  rcases rx_rec_eq h with ⟨hb, h⟩ | ⟨hb, h⟩
  · have ht := Nat.eq_of_beq_eq_true hb
    subst ht
    exact (w_X7_turnedSet F l G h).deep (by omega)
  cases h
theorem m_X7_turnedAll (F : Nat × Nat) (l : Launch) (G : rx_G) (hf : rx_H) (x0 : Nat) (x1 : Int64) (u : Option rx_H) {z : (Int64 × Option rx_H)} (h : f_X7_turnedAll F x0 x1 u = some z) : rx_Ok l G (2 + 0 * F.2) (rx_ny 219) (.code (rx_ny 219) prog_9_method_43_code 6 (some .long)) [.ref x0, .long x1] (u.getD hf) (some (.long z.1)) (z.2.getD hf) := by
  have h := h
  unfold f_X7_turnedAll at h
  exact (rx_met (l := l) (G := G) (hf := hf) (as := [.ref x0, .long x1]) (r := (some (.long z.1))) (ls0 := [some (.ref x0), some (.long x1), none, none, none, none]) (y := rx_ny 219) (D := (1 + 0 * F.2)) (ini := false) (bo := false) (u := u) (u' := z.2) (by decide +kernel) (fun h => by cases h) (Nat.le_of_ble_eq_true rfl) (Or.inr (Or.inr (Or.inl ⟨rfl, _, rfl⟩))) (fun Z hZ hB => rx_RT_hJ hZ hB) (by exact ⟨Or.inr rfl, Or.inr rfl, Or.inl rfl, Or.inl rfl, Or.inl rfl, Or.inl rfl, trivial⟩) (s_X7_turnedAll_0 (cc_X7_turnedAll F l G z) x0 x1 u h)).deep (by omega)
theorem w_X7_turnedAll (F : Nat × Nat) (l : Launch) (G : rx_G) {α : Type} {z : α} {as : List Value} {u : Option rx_H} {κ : rx_K α} (h : c_X7_turnedAll F as u κ = some z) : rx_Cw l G (2 + 0 * F.2) 219 as u κ z := by
  unfold c_X7_turnedAll at h
  split at h
  · obtain ⟨r, hr, h⟩ := Option.bind_eq_some_iff.mp h
    exact ⟨_, _, _, _, h, k_X7_turnedAll, fun h => absurd h (by decide), fun _ => ⟨_, _, rfl, rfl⟩, fun hf => m_X7_turnedAll F l G hf _ _ _ hr⟩
  · cases h
set_option maxRecDepth 100000 in
theorem k_X7_turned : rx_Cal (rx_ny 218) (.code (rx_ny 218) prog_9_method_44_code 4 (some .int)) (rx_kd 218) 3 := ⟨prog_9_method_44_code, 4, (some .int), Or.inl rfl, rx_in (i := 947) (by rfl) (by rfl), rx_in (i := 46) (by decide +kernel) (by decide +kernel), ⟨(by decide +kernel), (by decide +kernel), (by decide +kernel)⟩, Nat.le_of_ble_eq_true rfl, fun h => absurd h (by decide), fun _ => ⟨rx_in (i := 945) (by decide +kernel) (by decide +kernel), rx_in (i := 946) (by decide +kernel) (by decide +kernel)⟩, fun h => absurd h (by decide)⟩
set_option maxRecDepth 100000 in
theorem tk_X7_turned : (t_X7_turned.all (rx_eok "SetHouseModel" prog_9_method_44_code 4 false false) && rx_adj t_X7_turned) = true := by decide +kernel
theorem s_X7_turned_60 {F : Nat × Nat} {l : Launch} {G : rx_G} {D : Nat} {hf : rx_H} {z : (Int32 × Option rx_H)} (hC : rx_CC l G D (C_X7_turned F) z) (x0 : Nat) (x1 : Int32) (s0 : Nat) (s1 : Int32) (s2 : Int32) (u : Option rx_H) (h : f_X7_turned_60 F x0 x1 s0 s1 s2 u = some z) : rx_S l G ("SetHouseModel", prog_9_method_44_code, 4, false, false, D) hf (z.2.getD hf) rx_hI z 60 [some (.ref x0), some (.int x1), none, none] [.int s2, .int s1, .ref s0] u := by
  rw [g_X7_turned_60] at h
  refine rx_S_node (md := ("SetHouseModel", prog_9_method_44_code, 4, false, false, D)) tk_X7_turned hC rx_m_hI (fun t ls st u h => ?_) h
  unfold kk_X7_turned_60 at h
  cases h
theorem s_X7_turned_0 {F : Nat × Nat} {l : Launch} {G : rx_G} {D : Nat} {hf : rx_H} {z : (Int32 × Option rx_H)} (hC : rx_CC l G D (C_X7_turned F) z) (x0 : Nat) (x1 : Int32) (x2 : Int32) (x3 : Int32) (u : Option rx_H) (h : f_X7_turned_0 F x0 x1 x2 x3 u = some z) : rx_S l G ("SetHouseModel", prog_9_method_44_code, 4, false, false, D) hf (z.2.getD hf) rx_hI z 0 [some (.ref x0), some (.int x1), some (.int x2), some (.int x3)] [] u := by
  rw [g_X7_turned_0] at h
  refine rx_S_node (md := ("SetHouseModel", prog_9_method_44_code, 4, false, false, D)) tk_X7_turned hC rx_m_hI (fun t ls st u h => ?_) h
  unfold kk_X7_turned_0 at h
  rcases rx_rec_eq h with ⟨hb, h⟩ | ⟨hb, h⟩
  · have ht := Nat.eq_of_beq_eq_true hb
    subst ht
    unfold n_X7_turned_60 at h
    split at h
    · exact (s_X7_turned_60 hC _ _ _ _ _ _ h).le ⟨Or.inr rfl, Or.inr rfl, Or.inl rfl, Or.inl rfl, trivial⟩
    · cases h
  cases h
theorem cc_X7_turned (F : Nat × Nat) (l : Launch) (G : rx_G) {α : Type} (z : α) : rx_CC l G (2 + 0 * F.2) (C_X7_turned F) z := by
  intro j as u κ h
  unfold C_X7_turned at h
  rcases rx_rec_eq h with ⟨hb, h⟩ | ⟨hb, h⟩
  · have ht := Nat.eq_of_beq_eq_true hb
    subst ht
    exact (w_X7_holdsNow F l G h).deep (by omega)
  rcases rx_rec_eq h with ⟨hb, h⟩ | ⟨hb, h⟩
  · have ht := Nat.eq_of_beq_eq_true hb
    subst ht
    exact (w_X7_isPlace F l G h).deep (by omega)
  rcases rx_rec_eq h with ⟨hb, h⟩ | ⟨hb, h⟩
  · have ht := Nat.eq_of_beq_eq_true hb
    subst ht
    exact (w_X7_isTurn F l G h).deep (by omega)
  rcases rx_rec_eq h with ⟨hb, h⟩ | ⟨hb, h⟩
  · have ht := Nat.eq_of_beq_eq_true hb
    subst ht
    exact (w_X7_lacks F l G h).deep (by omega)
  rcases rx_rec_eq h with ⟨hb, h⟩ | ⟨hb, h⟩
  · have ht := Nat.eq_of_beq_eq_true hb
    subst ht
    exact (w_X7_turnedAll F l G h).deep (by omega)
  cases h
theorem m_X7_turned (F : Nat × Nat) (l : Launch) (G : rx_G) (hf : rx_H) (x0 : Nat) (x1 : Int32) (x2 : Int32) (x3 : Int32) (u : Option rx_H) {z : (Int32 × Option rx_H)} (h : f_X7_turned F x0 x1 x2 x3 u = some z) : rx_Ok l G (3 + 0 * F.2) (rx_ny 218) (.code (rx_ny 218) prog_9_method_44_code 4 (some .int)) [.ref x0, .int x1, .int x2, .int x3] (u.getD hf) (some (.int z.1)) (z.2.getD hf) := by
  have h := h
  unfold f_X7_turned at h
  exact (rx_met (l := l) (G := G) (hf := hf) (as := [.ref x0, .int x1, .int x2, .int x3]) (r := (some (.int z.1))) (ls0 := [some (.ref x0), some (.int x1), some (.int x2), some (.int x3)]) (y := rx_ny 218) (D := (2 + 0 * F.2)) (ini := false) (bo := false) (u := u) (u' := z.2) (by decide +kernel) (fun h => by cases h) (Nat.le_of_ble_eq_true rfl) (Or.inl ⟨rfl, rfl, _, rfl⟩) (fun Z hZ hB => rx_RT_hI hZ hB) (by exact ⟨Or.inr rfl, Or.inr rfl, Or.inr rfl, Or.inr rfl, trivial⟩) (s_X7_turned_0 (cc_X7_turned F l G z) x0 x1 x2 x3 u h)).deep (by omega)
theorem w_X7_turned (F : Nat × Nat) (l : Launch) (G : rx_G) {α : Type} {z : α} {as : List Value} {u : Option rx_H} {κ : rx_K α} (h : c_X7_turned F as u κ = some z) : rx_Cw l G (3 + 0 * F.2) 218 as u κ z := by
  unfold c_X7_turned at h
  split at h
  · obtain ⟨r, hr, h⟩ := Option.bind_eq_some_iff.mp h
    exact ⟨_, _, _, _, h, k_X7_turned, fun h => absurd h (by decide), fun _ => ⟨_, _, rfl, rfl⟩, fun hf => m_X7_turned F l G hf _ _ _ _ _ hr⟩
  · cases h
set_option maxRecDepth 100000 in
theorem k_X7_firstTurn : rx_Cal (rx_ny 158) (.code (rx_ny 158) prog_9_method_45_code 2 none) (rx_kd 158) 0 := ⟨prog_9_method_45_code, 2, none, Or.inl rfl, rx_in (i := 967) (by rfl) (by rfl), rx_in (i := 46) (by decide +kernel) (by decide +kernel), ⟨(by decide +kernel), (by decide +kernel), (by decide +kernel)⟩, Nat.le_of_ble_eq_true rfl, fun h => absurd h (by decide), fun _ => ⟨rx_in (i := 966) (by decide +kernel) (by decide +kernel), rx_in (i := 29) (by decide +kernel) (by decide +kernel)⟩, fun h => absurd h (by decide)⟩
set_option maxRecDepth 100000 in
theorem tk_X7_firstTurn : (t_X7_firstTurn.all (rx_eok "SetHouseModel" prog_9_method_45_code 2 false false) && rx_adj t_X7_firstTurn) = true := by decide +kernel
theorem s_X7_firstTurn_2 {F : Nat × Nat} {l : Launch} {G : rx_G} {D : Nat} {hf : rx_H} {z : (Option rx_H)} (hC : rx_CC l G D (C_X7_firstTurn F) z) : ∀ (f : Nat) (x0 : Nat) (x1 : Int32) (u : Option rx_H), f_X7_firstTurn_2 F f x0 x1 u = some z → rx_S l G ("SetHouseModel", prog_9_method_45_code, 2, false, false, D) hf (z.getD hf) rx_hV z 2 [some (.ref x0), some (.int x1)] [] u := by
  intro f
  induction f with
  | zero =>
    intro x0 x1 u h
    cases h
  | succ f ih =>
    intro x0 x1 u h
    rw [g_X7_firstTurn_2] at h
    refine rx_S_node (md := ("SetHouseModel", prog_9_method_45_code, 2, false, false, D)) tk_X7_firstTurn hC rx_m_hV (fun t ls st u h => ?_) h
    unfold kk_X7_firstTurn_2 at h
    rcases rx_rec_eq h with ⟨hb, h⟩ | ⟨hb, h⟩
    · have ht := Nat.eq_of_beq_eq_true hb
      subst ht
      unfold n_X7_firstTurn_2 at h
      split at h
      · exact (ih _ _ _ h).le ⟨Or.inr rfl, Or.inr rfl, trivial⟩
      · cases h
    cases h
theorem s_X7_firstTurn_0 {F : Nat × Nat} {l : Launch} {G : rx_G} {D : Nat} {hf : rx_H} {z : (Option rx_H)} (hC : rx_CC l G D (C_X7_firstTurn F) z) (x0 : Nat) (u : Option rx_H) (h : f_X7_firstTurn_0 F x0 u = some z) : rx_S l G ("SetHouseModel", prog_9_method_45_code, 2, false, false, D) hf (z.getD hf) rx_hV z 0 [some (.ref x0), none] [] u := by
  rw [g_X7_firstTurn_0] at h
  refine rx_S_node (md := ("SetHouseModel", prog_9_method_45_code, 2, false, false, D)) tk_X7_firstTurn hC rx_m_hV (fun t ls st u h => ?_) h
  unfold kk_X7_firstTurn_0 at h
  rcases rx_rec_eq h with ⟨hb, h⟩ | ⟨hb, h⟩
  · have ht := Nat.eq_of_beq_eq_true hb
    subst ht
    unfold n_X7_firstTurn_2 at h
    split at h
    · exact (s_X7_firstTurn_2 hC _ _ _ _ h).le ⟨Or.inr rfl, Or.inr rfl, trivial⟩
    · cases h
  cases h
theorem cc_X7_firstTurn (F : Nat × Nat) (l : Launch) (G : rx_G) {α : Type} (z : α) : rx_CC l G (0 + 0 * F.2) (C_X7_firstTurn F) z := by
  intro j as u κ h
  unfold C_X7_firstTurn at h
  cases h
theorem m_X7_firstTurn (F : Nat × Nat) (l : Launch) (G : rx_G) (hf : rx_H) (x0 : Nat) (u : Option rx_H) {z : (Option rx_H)} (h : f_X7_firstTurn F x0 u = some z) : rx_Ok l G (1 + 0 * F.2) (rx_ny 158) (.code (rx_ny 158) prog_9_method_45_code 2 none) [.ref x0] (u.getD hf) none (z.getD hf) := by
  have h := h
  unfold f_X7_firstTurn at h
  exact (rx_met (l := l) (G := G) (hf := hf) (as := [.ref x0]) (r := none) (ls0 := [some (.ref x0), none]) (y := rx_ny 158) (D := (0 + 0 * F.2)) (ini := false) (bo := false) (u := u) (u' := z) (by decide +kernel) (fun h => by cases h) (Nat.le_of_ble_eq_true rfl) (Or.inr (Or.inr (Or.inr ⟨rfl, rfl⟩))) (fun Z hZ hB => rx_RT_hV hZ hB) (by exact ⟨Or.inr rfl, Or.inl rfl, trivial⟩) (s_X7_firstTurn_0 (cc_X7_firstTurn F l G z) x0 u h)).deep (by omega)
theorem w_X7_firstTurn (F : Nat × Nat) (l : Launch) (G : rx_G) {α : Type} {z : α} {as : List Value} {u : Option rx_H} {κ : rx_K α} (h : c_X7_firstTurn F as u κ = some z) : rx_Cw l G (1 + 0 * F.2) 158 as u κ z := by
  unfold c_X7_firstTurn at h
  split at h
  · obtain ⟨r, hr, h⟩ := Option.bind_eq_some_iff.mp h
    exact ⟨_, _, _, _, h, k_X7_firstTurn, fun h => absurd h (by decide), fun _ => ⟨_, _, rfl, rfl⟩, fun hf => m_X7_firstTurn F l G hf _ _ hr⟩
  · cases h
set_option maxRecDepth 100000 in
theorem k_X7_swap : rx_Cal (rx_ny 212) (.code (rx_ny 212) prog_9_method_47_code 4 none) (rx_kd 212) 2 := ⟨prog_9_method_47_code, 4, none, Or.inl rfl, rx_in (i := 979) (by rfl) (by rfl), rx_in (i := 46) (by decide +kernel) (by decide +kernel), ⟨(by decide +kernel), (by decide +kernel), (by decide +kernel)⟩, Nat.le_of_ble_eq_true rfl, fun h => absurd h (by decide), fun _ => ⟨rx_in (i := 978) (by decide +kernel) (by decide +kernel), rx_in (i := 32) (by decide +kernel) (by decide +kernel)⟩, fun h => absurd h (by decide)⟩
set_option maxRecDepth 100000 in
theorem tk_X7_swap : (t_X7_swap.all (rx_eok "SetHouseModel" prog_9_method_47_code 4 false false) && rx_adj t_X7_swap) = true := by decide +kernel
theorem s_X7_swap_0 {F : Nat × Nat} {l : Launch} {G : rx_G} {D : Nat} {hf : rx_H} {z : (Option rx_H)} (hC : rx_CC l G D (C_X7_swap F) z) (x0 : Nat) (x1 : Int32) (x2 : Int32) (u : Option rx_H) (h : f_X7_swap_0 F x0 x1 x2 u = some z) : rx_S l G ("SetHouseModel", prog_9_method_47_code, 4, false, false, D) hf (z.getD hf) rx_hV z 0 [some (.ref x0), some (.int x1), some (.int x2), none] [] u := by
  rw [g_X7_swap_0] at h
  refine rx_S_node (md := ("SetHouseModel", prog_9_method_47_code, 4, false, false, D)) tk_X7_swap hC rx_m_hV (fun t ls st u h => ?_) h
  unfold kk_X7_swap_0 at h
  cases h
theorem cc_X7_swap (F : Nat × Nat) (l : Launch) (G : rx_G) {α : Type} (z : α) : rx_CC l G (0 + 0 * F.2) (C_X7_swap F) z := by
  intro j as u κ h
  unfold C_X7_swap at h
  cases h
theorem m_X7_swap (F : Nat × Nat) (l : Launch) (G : rx_G) (hf : rx_H) (x0 : Nat) (x1 : Int32) (x2 : Int32) (u : Option rx_H) {z : (Option rx_H)} (h : f_X7_swap F x0 x1 x2 u = some z) : rx_Ok l G (1 + 0 * F.2) (rx_ny 212) (.code (rx_ny 212) prog_9_method_47_code 4 none) [.ref x0, .int x1, .int x2] (u.getD hf) none (z.getD hf) := by
  have h := h
  unfold f_X7_swap at h
  exact (rx_met (l := l) (G := G) (hf := hf) (as := [.ref x0, .int x1, .int x2]) (r := none) (ls0 := [some (.ref x0), some (.int x1), some (.int x2), none]) (y := rx_ny 212) (D := (0 + 0 * F.2)) (ini := false) (bo := false) (u := u) (u' := z) (by decide +kernel) (fun h => by cases h) (Nat.le_of_ble_eq_true rfl) (Or.inr (Or.inr (Or.inr ⟨rfl, rfl⟩))) (fun Z hZ hB => rx_RT_hV hZ hB) (by exact ⟨Or.inr rfl, Or.inr rfl, Or.inr rfl, Or.inl rfl, trivial⟩) (s_X7_swap_0 (cc_X7_swap F l G z) x0 x1 x2 u h)).deep (by omega)
theorem w_X7_swap (F : Nat × Nat) (l : Launch) (G : rx_G) {α : Type} {z : α} {as : List Value} {u : Option rx_H} {κ : rx_K α} (h : c_X7_swap F as u κ = some z) : rx_Cw l G (1 + 0 * F.2) 212 as u κ z := by
  unfold c_X7_swap at h
  split at h
  · obtain ⟨r, hr, h⟩ := Option.bind_eq_some_iff.mp h
    exact ⟨_, _, _, _, h, k_X7_swap, fun h => absurd h (by decide), fun _ => ⟨_, _, rfl, rfl⟩, fun hf => m_X7_swap F l G hf _ _ _ _ hr⟩
  · cases h
set_option maxRecDepth 100000 in
theorem k_X7_nextTurn : rx_Cal (rx_ny 188) (.code (rx_ny 188) prog_9_method_46_code 5 (some .boolean)) (rx_kd 188) 0 := ⟨prog_9_method_46_code, 5, (some .boolean), Or.inl rfl, rx_in (i := 975) (by rfl) (by rfl), rx_in (i := 46) (by decide +kernel) (by decide +kernel), ⟨(by decide +kernel), (by decide +kernel), (by decide +kernel)⟩, Nat.le_of_ble_eq_true rfl, fun h => absurd h (by decide), fun _ => ⟨rx_in (i := 974) (by decide +kernel) (by decide +kernel), rx_in (i := 31) (by decide +kernel) (by decide +kernel)⟩, fun h => absurd h (by decide)⟩
set_option maxRecDepth 100000 in
theorem tk_X7_nextTurn : (t_X7_nextTurn.all (rx_eok "SetHouseModel" prog_9_method_46_code 5 false true) && rx_adj t_X7_nextTurn) = true := by decide +kernel
theorem s_X7_nextTurn_86 {F : Nat × Nat} {l : Launch} {G : rx_G} {D : Nat} {hf : rx_H} {z : (Int32 × Option rx_H)} (hC : rx_CC l G D (C_X7_nextTurn F) z) : ∀ (f : Nat) (x0 : Nat) (x3 : Int32) (x4 : Int32) (u : Option rx_H), f_X7_nextTurn_86 F f x0 x3 x4 u = some z → rx_S l G ("SetHouseModel", prog_9_method_46_code, 5, false, true, D) hf (z.2.getD hf) rx_hI z 86 [some (.ref x0), none, none, some (.int x3), some (.int x4)] [] u := by
  intro f
  induction f with
  | zero =>
    intro x0 x3 x4 u h
    cases h
  | succ f ih =>
    intro x0 x3 x4 u h
    rw [g_X7_nextTurn_86] at h
    refine rx_S_node (md := ("SetHouseModel", prog_9_method_46_code, 5, false, true, D)) tk_X7_nextTurn hC rx_m_hI (fun t ls st u h => ?_) h
    unfold kk_X7_nextTurn_86 at h
    rcases rx_rec_eq h with ⟨hb, h⟩ | ⟨hb, h⟩
    · have ht := Nat.eq_of_beq_eq_true hb
      subst ht
      unfold n_X7_nextTurn_86 at h
      split at h
      · exact (ih _ _ _ _ h).le ⟨Or.inr rfl, Or.inl rfl, Or.inl rfl, Or.inr rfl, Or.inr rfl, trivial⟩
      · cases h
    cases h
theorem s_X7_nextTurn_47 {F : Nat × Nat} {l : Launch} {G : rx_G} {D : Nat} {hf : rx_H} {z : (Int32 × Option rx_H)} (hC : rx_CC l G D (C_X7_nextTurn F) z) : ∀ (f : Nat) (x0 : Nat) (x1 : Int32) (x2 : Int32) (u : Option rx_H), f_X7_nextTurn_47 F f x0 x1 x2 u = some z → rx_S l G ("SetHouseModel", prog_9_method_46_code, 5, false, true, D) hf (z.2.getD hf) rx_hI z 47 [some (.ref x0), some (.int x1), some (.int x2), none, none] [] u := by
  intro f
  induction f with
  | zero =>
    intro x0 x1 x2 u h
    cases h
  | succ f ih =>
    intro x0 x1 x2 u h
    rw [g_X7_nextTurn_47] at h
    refine rx_S_node (md := ("SetHouseModel", prog_9_method_46_code, 5, false, true, D)) tk_X7_nextTurn hC rx_m_hI (fun t ls st u h => ?_) h
    unfold kk_X7_nextTurn_47 at h
    rcases rx_rec_eq h with ⟨hb, h⟩ | ⟨hb, h⟩
    · have ht := Nat.eq_of_beq_eq_true hb
      subst ht
      unfold n_X7_nextTurn_47 at h
      split at h
      · exact (ih _ _ _ _ h).le ⟨Or.inr rfl, Or.inr rfl, Or.inr rfl, Or.inl rfl, Or.inl rfl, trivial⟩
      · cases h
    rcases rx_rec_eq h with ⟨hb, h⟩ | ⟨hb, h⟩
    · have ht := Nat.eq_of_beq_eq_true hb
      subst ht
      unfold n_X7_nextTurn_86 at h
      split at h
      · exact (s_X7_nextTurn_86 hC _ _ _ _ _ h).le ⟨Or.inr rfl, Or.inl rfl, Or.inl rfl, Or.inr rfl, Or.inr rfl, trivial⟩
      · cases h
    cases h
theorem s_X7_nextTurn_34 {F : Nat × Nat} {l : Launch} {G : rx_G} {D : Nat} {hf : rx_H} {z : (Int32 × Option rx_H)} (hC : rx_CC l G D (C_X7_nextTurn F) z) (x0 : Nat) (x1 : Int32) (u : Option rx_H) (h : f_X7_nextTurn_34 F x0 x1 u = some z) : rx_S l G ("SetHouseModel", prog_9_method_46_code, 5, false, true, D) hf (z.2.getD hf) rx_hI z 34 [some (.ref x0), some (.int x1), none, none, none] [] u := by
  rw [g_X7_nextTurn_34] at h
  refine rx_S_node (md := ("SetHouseModel", prog_9_method_46_code, 5, false, true, D)) tk_X7_nextTurn hC rx_m_hI (fun t ls st u h => ?_) h
  unfold kk_X7_nextTurn_34 at h
  rcases rx_rec_eq h with ⟨hb, h⟩ | ⟨hb, h⟩
  · have ht := Nat.eq_of_beq_eq_true hb
    subst ht
    unfold n_X7_nextTurn_47 at h
    split at h
    · exact (s_X7_nextTurn_47 hC _ _ _ _ _ h).le ⟨Or.inr rfl, Or.inr rfl, Or.inr rfl, Or.inl rfl, Or.inl rfl, trivial⟩
    · cases h
  cases h
theorem s_X7_nextTurn_7 {F : Nat × Nat} {l : Launch} {G : rx_G} {D : Nat} {hf : rx_H} {z : (Int32 × Option rx_H)} (hC : rx_CC l G D (C_X7_nextTurn F) z) : ∀ (f : Nat) (x0 : Nat) (x1 : Int32) (u : Option rx_H), f_X7_nextTurn_7 F f x0 x1 u = some z → rx_S l G ("SetHouseModel", prog_9_method_46_code, 5, false, true, D) hf (z.2.getD hf) rx_hI z 7 [some (.ref x0), some (.int x1), none, none, none] [] u := by
  intro f
  induction f with
  | zero =>
    intro x0 x1 u h
    cases h
  | succ f ih =>
    intro x0 x1 u h
    rw [g_X7_nextTurn_7] at h
    refine rx_S_node (md := ("SetHouseModel", prog_9_method_46_code, 5, false, true, D)) tk_X7_nextTurn hC rx_m_hI (fun t ls st u h => ?_) h
    unfold kk_X7_nextTurn_7 at h
    rcases rx_rec_eq h with ⟨hb, h⟩ | ⟨hb, h⟩
    · have ht := Nat.eq_of_beq_eq_true hb
      subst ht
      unfold n_X7_nextTurn_7 at h
      split at h
      · exact (ih _ _ _ h).le ⟨Or.inr rfl, Or.inr rfl, Or.inl rfl, Or.inl rfl, Or.inl rfl, trivial⟩
      · cases h
    rcases rx_rec_eq h with ⟨hb, h⟩ | ⟨hb, h⟩
    · have ht := Nat.eq_of_beq_eq_true hb
      subst ht
      unfold n_X7_nextTurn_34 at h
      split at h
      · exact (s_X7_nextTurn_34 hC _ _ _ h).le ⟨Or.inr rfl, Or.inr rfl, Or.inl rfl, Or.inl rfl, Or.inl rfl, trivial⟩
      · cases h
    cases h
theorem s_X7_nextTurn_0 {F : Nat × Nat} {l : Launch} {G : rx_G} {D : Nat} {hf : rx_H} {z : (Int32 × Option rx_H)} (hC : rx_CC l G D (C_X7_nextTurn F) z) (x0 : Nat) (u : Option rx_H) (h : f_X7_nextTurn_0 F x0 u = some z) : rx_S l G ("SetHouseModel", prog_9_method_46_code, 5, false, true, D) hf (z.2.getD hf) rx_hI z 0 [some (.ref x0), none, none, none, none] [] u := by
  rw [g_X7_nextTurn_0] at h
  refine rx_S_node (md := ("SetHouseModel", prog_9_method_46_code, 5, false, true, D)) tk_X7_nextTurn hC rx_m_hI (fun t ls st u h => ?_) h
  unfold kk_X7_nextTurn_0 at h
  rcases rx_rec_eq h with ⟨hb, h⟩ | ⟨hb, h⟩
  · have ht := Nat.eq_of_beq_eq_true hb
    subst ht
    unfold n_X7_nextTurn_7 at h
    split at h
    · exact (s_X7_nextTurn_7 hC _ _ _ _ h).le ⟨Or.inr rfl, Or.inr rfl, Or.inl rfl, Or.inl rfl, Or.inl rfl, trivial⟩
    · cases h
  cases h
theorem cc_X7_nextTurn (F : Nat × Nat) (l : Launch) (G : rx_G) {α : Type} (z : α) : rx_CC l G (1 + 0 * F.2) (C_X7_nextTurn F) z := by
  intro j as u κ h
  unfold C_X7_nextTurn at h
  rcases rx_rec_eq h with ⟨hb, h⟩ | ⟨hb, h⟩
  · have ht := Nat.eq_of_beq_eq_true hb
    subst ht
    exact (w_X7_swap F l G h).deep (by omega)
  cases h
theorem m_X7_nextTurn (F : Nat × Nat) (l : Launch) (G : rx_G) (hf : rx_H) (x0 : Nat) (u : Option rx_H) {z : (Int32 × Option rx_H)} (h : f_X7_nextTurn F x0 u = some z) : rx_Ok l G (2 + 0 * F.2) (rx_ny 188) (.code (rx_ny 188) prog_9_method_46_code 5 (some .boolean)) [.ref x0] (u.getD hf) (some (.int z.1)) (z.2.getD hf) := by
  have h := h
  unfold f_X7_nextTurn at h
  exact (rx_met (l := l) (G := G) (hf := hf) (as := [.ref x0]) (r := (some (.int z.1))) (ls0 := [some (.ref x0), none, none, none, none]) (y := rx_ny 188) (D := (1 + 0 * F.2)) (ini := false) (bo := true) (u := u) (u' := z.2) (by decide +kernel) (fun h => by cases h) (Nat.le_of_ble_eq_true rfl) (Or.inr (Or.inl ⟨rfl, rfl, _, rfl⟩)) (fun Z hZ hB => rx_RT_hI hZ hB) (by exact ⟨Or.inr rfl, Or.inl rfl, Or.inl rfl, Or.inl rfl, Or.inl rfl, trivial⟩) (s_X7_nextTurn_0 (cc_X7_nextTurn F l G z) x0 u h)).deep (by omega)
theorem w_X7_nextTurn (F : Nat × Nat) (l : Launch) (G : rx_G) {α : Type} {z : α} {as : List Value} {u : Option rx_H} {κ : rx_K α} (h : c_X7_nextTurn F as u κ = some z) : rx_Cw l G (2 + 0 * F.2) 188 as u κ z := by
  unfold c_X7_nextTurn at h
  split at h
  · obtain ⟨r, hr, h⟩ := Option.bind_eq_some_iff.mp h
    exact ⟨_, _, _, _, h, k_X7_nextTurn, fun h => absurd h (by decide), fun _ => ⟨_, _, rfl, rfl⟩, fun hf => m_X7_nextTurn F l G hf _ _ hr⟩
  · cases h
set_option maxRecDepth 100000 in
theorem k_X7_number : rx_Cal (rx_ny 189) (.code (rx_ny 189) prog_9_method_48_code 3 (some .int)) (rx_kd 189) 0 := ⟨prog_9_method_48_code, 3, (some .int), Or.inl rfl, rx_in (i := 971) (by rfl) (by rfl), rx_in (i := 46) (by decide +kernel) (by decide +kernel), ⟨(by decide +kernel), (by decide +kernel), (by decide +kernel)⟩, Nat.le_of_ble_eq_true rfl, fun h => absurd h (by decide), fun _ => ⟨rx_in (i := 970) (by decide +kernel) (by decide +kernel), rx_in (i := 30) (by decide +kernel) (by decide +kernel)⟩, fun h => absurd h (by decide)⟩
set_option maxRecDepth 100000 in
theorem tk_X7_number : (t_X7_number.all (rx_eok "SetHouseModel" prog_9_method_48_code 3 false false) && rx_adj t_X7_number) = true := by decide +kernel
theorem s_X7_number_9 {F : Nat × Nat} {l : Launch} {G : rx_G} {D : Nat} {hf : rx_H} {z : (Int32 × Option rx_H)} (hC : rx_CC l G D (C_X7_number F) z) : ∀ (f : Nat) (x0 : Nat) (x1 : Int32) (x2 : Int32) (u : Option rx_H), f_X7_number_9 F f x0 x1 x2 u = some z → rx_S l G ("SetHouseModel", prog_9_method_48_code, 3, false, false, D) hf (z.2.getD hf) rx_hI z 9 [some (.ref x0), some (.int x1), some (.int x2)] [] u := by
  intro f
  induction f with
  | zero =>
    intro x0 x1 x2 u h
    cases h
  | succ f ih =>
    intro x0 x1 x2 u h
    rw [g_X7_number_9] at h
    refine rx_S_node (md := ("SetHouseModel", prog_9_method_48_code, 3, false, false, D)) tk_X7_number hC rx_m_hI (fun t ls st u h => ?_) h
    unfold kk_X7_number_9 at h
    rcases rx_rec_eq h with ⟨hb, h⟩ | ⟨hb, h⟩
    · have ht := Nat.eq_of_beq_eq_true hb
      subst ht
      unfold n_X7_number_9 at h
      split at h
      · exact (ih _ _ _ _ h).le ⟨Or.inr rfl, Or.inr rfl, Or.inr rfl, trivial⟩
      · cases h
    cases h
theorem s_X7_number_0 {F : Nat × Nat} {l : Launch} {G : rx_G} {D : Nat} {hf : rx_H} {z : (Int32 × Option rx_H)} (hC : rx_CC l G D (C_X7_number F) z) (x0 : Nat) (u : Option rx_H) (h : f_X7_number_0 F x0 u = some z) : rx_S l G ("SetHouseModel", prog_9_method_48_code, 3, false, false, D) hf (z.2.getD hf) rx_hI z 0 [some (.ref x0), none, none] [] u := by
  rw [g_X7_number_0] at h
  refine rx_S_node (md := ("SetHouseModel", prog_9_method_48_code, 3, false, false, D)) tk_X7_number hC rx_m_hI (fun t ls st u h => ?_) h
  unfold kk_X7_number_0 at h
  rcases rx_rec_eq h with ⟨hb, h⟩ | ⟨hb, h⟩
  · have ht := Nat.eq_of_beq_eq_true hb
    subst ht
    unfold n_X7_number_9 at h
    split at h
    · exact (s_X7_number_9 hC _ _ _ _ _ h).le ⟨Or.inr rfl, Or.inr rfl, Or.inr rfl, trivial⟩
    · cases h
  cases h
theorem cc_X7_number (F : Nat × Nat) (l : Launch) (G : rx_G) {α : Type} (z : α) : rx_CC l G (0 + 0 * F.2) (C_X7_number F) z := by
  intro j as u κ h
  unfold C_X7_number at h
  cases h
theorem m_X7_number (F : Nat × Nat) (l : Launch) (G : rx_G) (hf : rx_H) (x0 : Nat) (u : Option rx_H) {z : (Int32 × Option rx_H)} (h : f_X7_number F x0 u = some z) : rx_Ok l G (1 + 0 * F.2) (rx_ny 189) (.code (rx_ny 189) prog_9_method_48_code 3 (some .int)) [.ref x0] (u.getD hf) (some (.int z.1)) (z.2.getD hf) := by
  have h := h
  unfold f_X7_number at h
  exact (rx_met (l := l) (G := G) (hf := hf) (as := [.ref x0]) (r := (some (.int z.1))) (ls0 := [some (.ref x0), none, none]) (y := rx_ny 189) (D := (0 + 0 * F.2)) (ini := false) (bo := false) (u := u) (u' := z.2) (by decide +kernel) (fun h => by cases h) (Nat.le_of_ble_eq_true rfl) (Or.inl ⟨rfl, rfl, _, rfl⟩) (fun Z hZ hB => rx_RT_hI hZ hB) (by exact ⟨Or.inr rfl, Or.inl rfl, Or.inl rfl, trivial⟩) (s_X7_number_0 (cc_X7_number F l G z) x0 u h)).deep (by omega)
theorem w_X7_number (F : Nat × Nat) (l : Launch) (G : rx_G) {α : Type} {z : α} {as : List Value} {u : Option rx_H} {κ : rx_K α} (h : c_X7_number F as u κ = some z) : rx_Cw l G (1 + 0 * F.2) 189 as u κ z := by
  unfold c_X7_number at h
  split at h
  · obtain ⟨r, hr, h⟩ := Option.bind_eq_some_iff.mp h
    exact ⟨_, _, _, _, h, k_X7_number, fun h => absurd h (by decide), fun _ => ⟨_, _, rfl, rfl⟩, fun hf => m_X7_number F l G hf _ _ hr⟩
  · cases h
set_option maxRecDepth 100000 in
theorem k_X7_same : rx_Cal (rx_ny 203) (.code (rx_ny 203) prog_9_method_49_code 4 (some .int)) (rx_kd 203) 2 := ⟨prog_9_method_49_code, 4, (some .int), Or.inl rfl, rx_in (i := 963) (by rfl) (by rfl), rx_in (i := 46) (by decide +kernel) (by decide +kernel), ⟨(by decide +kernel), (by decide +kernel), (by decide +kernel)⟩, Nat.le_of_ble_eq_true rfl, fun h => absurd h (by decide), fun _ => ⟨rx_in (i := 961) (by decide +kernel) (by decide +kernel), rx_in (i := 962) (by decide +kernel) (by decide +kernel)⟩, fun h => absurd h (by decide)⟩
set_option maxRecDepth 100000 in
theorem tk_X7_same : (t_X7_same.all (rx_eok "SetHouseModel" prog_9_method_49_code 4 false false) && rx_adj t_X7_same) = true := by decide +kernel
theorem s_X7_same_52 {F : Nat × Nat} {l : Launch} {G : rx_G} {D : Nat} {hf : rx_H} {z : (Int32 × Option rx_H)} (hC : rx_CC l G D (C_X7_same F) z) : ∀ (f : Nat) (x0 : Nat) (x1 : Int32) (x2 : Int32) (x3 : Int32) (u : Option rx_H), f_X7_same_52 F f x0 x1 x2 x3 u = some z → rx_S l G ("SetHouseModel", prog_9_method_49_code, 4, false, false, D) hf (z.2.getD hf) rx_hI z 52 [some (.ref x0), some (.int x1), some (.int x2), some (.int x3)] [] u := by
  intro f
  induction f with
  | zero =>
    intro x0 x1 x2 x3 u h
    cases h
  | succ f ih =>
    intro x0 x1 x2 x3 u h
    rw [g_X7_same_52] at h
    refine rx_S_node (md := ("SetHouseModel", prog_9_method_49_code, 4, false, false, D)) tk_X7_same hC rx_m_hI (fun t ls st u h => ?_) h
    unfold kk_X7_same_52 at h
    rcases rx_rec_eq h with ⟨hb, h⟩ | ⟨hb, h⟩
    · have ht := Nat.eq_of_beq_eq_true hb
      subst ht
      unfold n_X7_same_52 at h
      split at h
      · exact (ih _ _ _ _ _ h).le ⟨Or.inr rfl, Or.inr rfl, Or.inr rfl, Or.inr rfl, trivial⟩
      · cases h
    cases h
theorem s_X7_same_0 {F : Nat × Nat} {l : Launch} {G : rx_G} {D : Nat} {hf : rx_H} {z : (Int32 × Option rx_H)} (hC : rx_CC l G D (C_X7_same F) z) (x0 : Nat) (x1 : Int32) (x2 : Int32) (u : Option rx_H) (h : f_X7_same_0 F x0 x1 x2 u = some z) : rx_S l G ("SetHouseModel", prog_9_method_49_code, 4, false, false, D) hf (z.2.getD hf) rx_hI z 0 [some (.ref x0), some (.int x1), some (.int x2), none] [] u := by
  rw [g_X7_same_0] at h
  refine rx_S_node (md := ("SetHouseModel", prog_9_method_49_code, 4, false, false, D)) tk_X7_same hC rx_m_hI (fun t ls st u h => ?_) h
  unfold kk_X7_same_0 at h
  rcases rx_rec_eq h with ⟨hb, h⟩ | ⟨hb, h⟩
  · have ht := Nat.eq_of_beq_eq_true hb
    subst ht
    unfold n_X7_same_52 at h
    split at h
    · exact (s_X7_same_52 hC _ _ _ _ _ _ h).le ⟨Or.inr rfl, Or.inr rfl, Or.inr rfl, Or.inr rfl, trivial⟩
    · cases h
  cases h
theorem cc_X7_same (F : Nat × Nat) (l : Launch) (G : rx_G) {α : Type} (z : α) : rx_CC l G (2 + 0 * F.2) (C_X7_same F) z := by
  intro j as u κ h
  unfold C_X7_same at h
  rcases rx_rec_eq h with ⟨hb, h⟩ | ⟨hb, h⟩
  · have ht := Nat.eq_of_beq_eq_true hb
    subst ht
    exact (w_X7_firstTurn F l G h).deep (by omega)
  rcases rx_rec_eq h with ⟨hb, h⟩ | ⟨hb, h⟩
  · have ht := Nat.eq_of_beq_eq_true hb
    subst ht
    exact (w_X7_isPlace F l G h).deep (by omega)
  rcases rx_rec_eq h with ⟨hb, h⟩ | ⟨hb, h⟩
  · have ht := Nat.eq_of_beq_eq_true hb
    subst ht
    exact (w_X7_lacking F l G h).deep (by omega)
  rcases rx_rec_eq h with ⟨hb, h⟩ | ⟨hb, h⟩
  · have ht := Nat.eq_of_beq_eq_true hb
    subst ht
    exact (w_X7_lacks F l G h).deep (by omega)
  rcases rx_rec_eq h with ⟨hb, h⟩ | ⟨hb, h⟩
  · have ht := Nat.eq_of_beq_eq_true hb
    subst ht
    exact (w_X7_nextTurn F l G h).deep (by omega)
  rcases rx_rec_eq h with ⟨hb, h⟩ | ⟨hb, h⟩
  · have ht := Nat.eq_of_beq_eq_true hb
    subst ht
    exact (w_X7_number F l G h).deep (by omega)
  rcases rx_rec_eq h with ⟨hb, h⟩ | ⟨hb, h⟩
  · have ht := Nat.eq_of_beq_eq_true hb
    subst ht
    exact (w_X7_turnedAll F l G h).deep (by omega)
  cases h
theorem m_X7_same (F : Nat × Nat) (l : Launch) (G : rx_G) (hf : rx_H) (x0 : Nat) (x1 : Int32) (x2 : Int32) (u : Option rx_H) {z : (Int32 × Option rx_H)} (h : f_X7_same F x0 x1 x2 u = some z) : rx_Ok l G (3 + 0 * F.2) (rx_ny 203) (.code (rx_ny 203) prog_9_method_49_code 4 (some .int)) [.ref x0, .int x1, .int x2] (u.getD hf) (some (.int z.1)) (z.2.getD hf) := by
  have h := h
  unfold f_X7_same at h
  exact (rx_met (l := l) (G := G) (hf := hf) (as := [.ref x0, .int x1, .int x2]) (r := (some (.int z.1))) (ls0 := [some (.ref x0), some (.int x1), some (.int x2), none]) (y := rx_ny 203) (D := (2 + 0 * F.2)) (ini := false) (bo := false) (u := u) (u' := z.2) (by decide +kernel) (fun h => by cases h) (Nat.le_of_ble_eq_true rfl) (Or.inl ⟨rfl, rfl, _, rfl⟩) (fun Z hZ hB => rx_RT_hI hZ hB) (by exact ⟨Or.inr rfl, Or.inr rfl, Or.inr rfl, Or.inl rfl, trivial⟩) (s_X7_same_0 (cc_X7_same F l G z) x0 x1 x2 u h)).deep (by omega)
theorem w_X7_same (F : Nat × Nat) (l : Launch) (G : rx_G) {α : Type} {z : α} {as : List Value} {u : Option rx_H} {κ : rx_K α} (h : c_X7_same F as u κ = some z) : rx_Cw l G (3 + 0 * F.2) 203 as u κ z := by
  unfold c_X7_same at h
  split at h
  · obtain ⟨r, hr, h⟩ := Option.bind_eq_some_iff.mp h
    exact ⟨_, _, _, _, h, k_X7_same, fun h => absurd h (by decide), fun _ => ⟨_, _, rfl, rfl⟩, fun hf => m_X7_same F l G hf _ _ _ _ hr⟩
  · cases h
set_option maxRecDepth 100000 in
theorem k_X7_turns : rx_Cal (rx_ny 221) (.code (rx_ny 221) prog_9_method_50_code 4 (some .int)) (rx_kd 221) 1 := ⟨prog_9_method_50_code, 4, (some .int), Or.inl rfl, rx_in (i := 983) (by rfl) (by rfl), rx_in (i := 46) (by decide +kernel) (by decide +kernel), ⟨(by decide +kernel), (by decide +kernel), (by decide +kernel)⟩, Nat.le_of_ble_eq_true rfl, fun h => absurd h (by decide), fun _ => ⟨rx_in (i := 981) (by decide +kernel) (by decide +kernel), rx_in (i := 982) (by decide +kernel) (by decide +kernel)⟩, fun h => absurd h (by decide)⟩
set_option maxRecDepth 100000 in
theorem tk_X7_turns : (t_X7_turns.all (rx_eok "SetHouseModel" prog_9_method_50_code 4 false false) && rx_adj t_X7_turns) = true := by decide +kernel
theorem s_X7_turns_61 {F : Nat × Nat} {l : Launch} {G : rx_G} {D : Nat} {hf : rx_H} {z : (Int32 × Option rx_H)} (hC : rx_CC l G D (C_X7_turns F) z) {k31 : Nat → Int32 → Int32 → Int32 → Option rx_H → Option (Int32 × Option rx_H)} (hk31 : ∀ (x0 : Nat) (x1 : Int32) (x2 : Int32) (x3 : Int32) (u : Option rx_H), k31 x0 x1 x2 x3 u = some z → rx_S l G ("SetHouseModel", prog_9_method_50_code, 4, false, false, D) hf (z.2.getD hf) rx_hI z 31 [some (.ref x0), some (.int x1), some (.int x2), some (.int x3)] [] u) (x0 : Nat) (x1 : Int32) (s0 : Int32) (s1 : Int32) (u : Option rx_H) (h : f_X7_turns_61 F k31 x0 x1 s0 s1 u = some z) : rx_S l G ("SetHouseModel", prog_9_method_50_code, 4, false, false, D) hf (z.2.getD hf) rx_hI z 61 [some (.ref x0), some (.int x1), none, none] [.int s1, .int s0] u := by
  rw [g_X7_turns_61] at h
  refine rx_S_node (md := ("SetHouseModel", prog_9_method_50_code, 4, false, false, D)) tk_X7_turns hC rx_m_hI (fun t ls st u h => ?_) h
  unfold kk_X7_turns_61 at h
  rcases rx_rec_eq h with ⟨hb, h⟩ | ⟨hb, h⟩
  · have ht := Nat.eq_of_beq_eq_true hb
    subst ht
    unfold n_X7_turns_31 at h
    split at h
    · exact (hk31 _ _ _ _ _ h).le ⟨Or.inr rfl, Or.inr rfl, Or.inr rfl, Or.inr rfl, trivial⟩
    · cases h
  cases h
theorem s_X7_turns_31 {F : Nat × Nat} {l : Launch} {G : rx_G} {D : Nat} {hf : rx_H} {z : (Int32 × Option rx_H)} (hC : rx_CC l G D (C_X7_turns F) z) : ∀ (f : Nat) (x0 : Nat) (x1 : Int32) (x2 : Int32) (x3 : Int32) (u : Option rx_H), f_X7_turns_31 F f x0 x1 x2 x3 u = some z → rx_S l G ("SetHouseModel", prog_9_method_50_code, 4, false, false, D) hf (z.2.getD hf) rx_hI z 31 [some (.ref x0), some (.int x1), some (.int x2), some (.int x3)] [] u := by
  intro f
  induction f with
  | zero =>
    intro x0 x1 x2 x3 u h
    cases h
  | succ f ih =>
    intro x0 x1 x2 x3 u h
    rw [g_X7_turns_31] at h
    refine rx_S_node (md := ("SetHouseModel", prog_9_method_50_code, 4, false, false, D)) tk_X7_turns hC rx_m_hI (fun t ls st u h => ?_) h
    unfold kk_X7_turns_31 at h
    rcases rx_rec_eq h with ⟨hb, h⟩ | ⟨hb, h⟩
    · have ht := Nat.eq_of_beq_eq_true hb
      subst ht
      unfold n_X7_turns_61 at h
      split at h
      · exact (s_X7_turns_61 hC ih _ _ _ _ _ h).le ⟨Or.inr rfl, Or.inr rfl, Or.inl rfl, Or.inl rfl, trivial⟩
      · cases h
    cases h
theorem s_X7_turns_0 {F : Nat × Nat} {l : Launch} {G : rx_G} {D : Nat} {hf : rx_H} {z : (Int32 × Option rx_H)} (hC : rx_CC l G D (C_X7_turns F) z) (x0 : Nat) (x1 : Int32) (u : Option rx_H) (h : f_X7_turns_0 F x0 x1 u = some z) : rx_S l G ("SetHouseModel", prog_9_method_50_code, 4, false, false, D) hf (z.2.getD hf) rx_hI z 0 [some (.ref x0), some (.int x1), none, none] [] u := by
  rw [g_X7_turns_0] at h
  refine rx_S_node (md := ("SetHouseModel", prog_9_method_50_code, 4, false, false, D)) tk_X7_turns hC rx_m_hI (fun t ls st u h => ?_) h
  unfold kk_X7_turns_0 at h
  rcases rx_rec_eq h with ⟨hb, h⟩ | ⟨hb, h⟩
  · have ht := Nat.eq_of_beq_eq_true hb
    subst ht
    unfold n_X7_turns_31 at h
    split at h
    · exact (s_X7_turns_31 hC _ _ _ _ _ _ h).le ⟨Or.inr rfl, Or.inr rfl, Or.inr rfl, Or.inr rfl, trivial⟩
    · cases h
  cases h
theorem cc_X7_turns (F : Nat × Nat) (l : Launch) (G : rx_G) {α : Type} (z : α) : rx_CC l G (2 + 0 * F.2) (C_X7_turns F) z := by
  intro j as u κ h
  unfold C_X7_turns at h
  rcases rx_rec_eq h with ⟨hb, h⟩ | ⟨hb, h⟩
  · have ht := Nat.eq_of_beq_eq_true hb
    subst ht
    exact (w_X7_firstTurn F l G h).deep (by omega)
  rcases rx_rec_eq h with ⟨hb, h⟩ | ⟨hb, h⟩
  · have ht := Nat.eq_of_beq_eq_true hb
    subst ht
    exact (w_X7_isPlace F l G h).deep (by omega)
  rcases rx_rec_eq h with ⟨hb, h⟩ | ⟨hb, h⟩
  · have ht := Nat.eq_of_beq_eq_true hb
    subst ht
    exact (w_X7_lacks F l G h).deep (by omega)
  rcases rx_rec_eq h with ⟨hb, h⟩ | ⟨hb, h⟩
  · have ht := Nat.eq_of_beq_eq_true hb
    subst ht
    exact (w_X7_nextTurn F l G h).deep (by omega)
  rcases rx_rec_eq h with ⟨hb, h⟩ | ⟨hb, h⟩
  · have ht := Nat.eq_of_beq_eq_true hb
    subst ht
    exact (w_X7_turnedAll F l G h).deep (by omega)
  cases h
theorem m_X7_turns (F : Nat × Nat) (l : Launch) (G : rx_G) (hf : rx_H) (x0 : Nat) (x1 : Int32) (u : Option rx_H) {z : (Int32 × Option rx_H)} (h : f_X7_turns F x0 x1 u = some z) : rx_Ok l G (3 + 0 * F.2) (rx_ny 221) (.code (rx_ny 221) prog_9_method_50_code 4 (some .int)) [.ref x0, .int x1] (u.getD hf) (some (.int z.1)) (z.2.getD hf) := by
  have h := h
  unfold f_X7_turns at h
  exact (rx_met (l := l) (G := G) (hf := hf) (as := [.ref x0, .int x1]) (r := (some (.int z.1))) (ls0 := [some (.ref x0), some (.int x1), none, none]) (y := rx_ny 221) (D := (2 + 0 * F.2)) (ini := false) (bo := false) (u := u) (u' := z.2) (by decide +kernel) (fun h => by cases h) (Nat.le_of_ble_eq_true rfl) (Or.inl ⟨rfl, rfl, _, rfl⟩) (fun Z hZ hB => rx_RT_hI hZ hB) (by exact ⟨Or.inr rfl, Or.inr rfl, Or.inl rfl, Or.inl rfl, trivial⟩) (s_X7_turns_0 (cc_X7_turns F l G z) x0 x1 u h)).deep (by omega)
theorem w_X7_turns (F : Nat × Nat) (l : Launch) (G : rx_G) {α : Type} {z : α} {as : List Value} {u : Option rx_H} {κ : rx_K α} (h : c_X7_turns F as u κ = some z) : rx_Cw l G (3 + 0 * F.2) 221 as u κ z := by
  unfold c_X7_turns at h
  split at h
  · obtain ⟨r, hr, h⟩ := Option.bind_eq_some_iff.mp h
    exact ⟨_, _, _, _, h, k_X7_turns, fun h => absurd h (by decide), fun _ => ⟨_, _, rfl, rfl⟩, fun hf => m_X7_turns F l G hf _ _ _ hr⟩
  · cases h
set_option maxRecDepth 100000 in
theorem k_X7_pushes : rx_Cal (rx_ny 196) (.code (rx_ny 196) prog_9_method_51_code 9 (some .int)) (rx_kd 196) 3 := ⟨prog_9_method_51_code, 9, (some .int), Or.inl rfl, rx_in (i := 991) (by rfl) (by rfl), rx_in (i := 46) (by decide +kernel) (by decide +kernel), ⟨(by decide +kernel), (by decide +kernel), (by decide +kernel)⟩, Nat.le_of_ble_eq_true rfl, fun h => absurd h (by decide), fun _ => ⟨rx_in (i := 990) (by decide +kernel) (by decide +kernel), rx_in (i := 33) (by decide +kernel) (by decide +kernel)⟩, fun h => absurd h (by decide)⟩
set_option maxRecDepth 100000 in
theorem tk_X7_pushes : (t_X7_pushes.all (rx_eok "SetHouseModel" prog_9_method_51_code 9 false false) && rx_adj t_X7_pushes) = true := by decide +kernel
theorem s_X7_pushes_14 {F : Nat × Nat} {l : Launch} {G : rx_G} {D : Nat} {hf : rx_H} {z : (Int32 × Option rx_H)} (hC : rx_CC l G D (C_X7_pushes F) z) : ∀ (f : Nat) (x0 : Nat) (x1 : Int32) (x2 : Int32) (x3 : Int32) (x4 : Int64) (x6 : Int32) (x7 : Int32) (u : Option rx_H), f_X7_pushes_14 F f x0 x1 x2 x3 x4 x6 x7 u = some z → rx_S l G ("SetHouseModel", prog_9_method_51_code, 9, false, false, D) hf (z.2.getD hf) rx_hI z 14 [some (.ref x0), some (.int x1), some (.int x2), some (.int x3), some (.long x4), none, some (.int x6), some (.int x7), none] [] u := by
  intro f
  induction f with
  | zero =>
    intro x0 x1 x2 x3 x4 x6 x7 u h
    cases h
  | succ f ih =>
    intro x0 x1 x2 x3 x4 x6 x7 u h
    rw [g_X7_pushes_14] at h
    refine rx_S_node (md := ("SetHouseModel", prog_9_method_51_code, 9, false, false, D)) tk_X7_pushes hC rx_m_hI (fun t ls st u h => ?_) h
    unfold kk_X7_pushes_14 at h
    rcases rx_rec_eq h with ⟨hb, h⟩ | ⟨hb, h⟩
    · have ht := Nat.eq_of_beq_eq_true hb
      subst ht
      unfold n_X7_pushes_14 at h
      split at h
      · exact (ih _ _ _ _ _ _ _ _ h).le ⟨Or.inr rfl, Or.inr rfl, Or.inr rfl, Or.inr rfl, Or.inr rfl, Or.inl rfl, Or.inr rfl, Or.inr rfl, Or.inl rfl, trivial⟩
      · cases h
    cases h
theorem s_X7_pushes_0 {F : Nat × Nat} {l : Launch} {G : rx_G} {D : Nat} {hf : rx_H} {z : (Int32 × Option rx_H)} (hC : rx_CC l G D (C_X7_pushes F) z) (x0 : Nat) (x1 : Int32) (x2 : Int32) (x3 : Int32) (u : Option rx_H) (h : f_X7_pushes_0 F x0 x1 x2 x3 u = some z) : rx_S l G ("SetHouseModel", prog_9_method_51_code, 9, false, false, D) hf (z.2.getD hf) rx_hI z 0 [some (.ref x0), some (.int x1), some (.int x2), some (.int x3), none, none, none, none, none] [] u := by
  rw [g_X7_pushes_0] at h
  refine rx_S_node (md := ("SetHouseModel", prog_9_method_51_code, 9, false, false, D)) tk_X7_pushes hC rx_m_hI (fun t ls st u h => ?_) h
  unfold kk_X7_pushes_0 at h
  rcases rx_rec_eq h with ⟨hb, h⟩ | ⟨hb, h⟩
  · have ht := Nat.eq_of_beq_eq_true hb
    subst ht
    unfold n_X7_pushes_14 at h
    split at h
    · exact (s_X7_pushes_14 hC _ _ _ _ _ _ _ _ _ h).le ⟨Or.inr rfl, Or.inr rfl, Or.inr rfl, Or.inr rfl, Or.inr rfl, Or.inl rfl, Or.inr rfl, Or.inr rfl, Or.inl rfl, trivial⟩
    · cases h
  cases h
theorem cc_X7_pushes (F : Nat × Nat) (l : Launch) (G : rx_G) {α : Type} (z : α) : rx_CC l G (1 + 0 * F.2) (C_X7_pushes F) z := by
  intro j as u κ h
  unfold C_X7_pushes at h
  rcases rx_rec_eq h with ⟨hb, h⟩ | ⟨hb, h⟩
  · have ht := Nat.eq_of_beq_eq_true hb
    subst ht
    exact (w_X7_has F l G h).deep (by omega)
  cases h
theorem m_X7_pushes (F : Nat × Nat) (l : Launch) (G : rx_G) (hf : rx_H) (x0 : Nat) (x1 : Int32) (x2 : Int32) (x3 : Int32) (u : Option rx_H) {z : (Int32 × Option rx_H)} (h : f_X7_pushes F x0 x1 x2 x3 u = some z) : rx_Ok l G (2 + 0 * F.2) (rx_ny 196) (.code (rx_ny 196) prog_9_method_51_code 9 (some .int)) [.ref x0, .int x1, .int x2, .int x3] (u.getD hf) (some (.int z.1)) (z.2.getD hf) := by
  have h := h
  unfold f_X7_pushes at h
  exact (rx_met (l := l) (G := G) (hf := hf) (as := [.ref x0, .int x1, .int x2, .int x3]) (r := (some (.int z.1))) (ls0 := [some (.ref x0), some (.int x1), some (.int x2), some (.int x3), none, none, none, none, none]) (y := rx_ny 196) (D := (1 + 0 * F.2)) (ini := false) (bo := false) (u := u) (u' := z.2) (by decide +kernel) (fun h => by cases h) (Nat.le_of_ble_eq_true rfl) (Or.inl ⟨rfl, rfl, _, rfl⟩) (fun Z hZ hB => rx_RT_hI hZ hB) (by exact ⟨Or.inr rfl, Or.inr rfl, Or.inr rfl, Or.inr rfl, Or.inl rfl, Or.inl rfl, Or.inl rfl, Or.inl rfl, Or.inl rfl, trivial⟩) (s_X7_pushes_0 (cc_X7_pushes F l G z) x0 x1 x2 x3 u h)).deep (by omega)
theorem w_X7_pushes (F : Nat × Nat) (l : Launch) (G : rx_G) {α : Type} {z : α} {as : List Value} {u : Option rx_H} {κ : rx_K α} (h : c_X7_pushes F as u κ = some z) : rx_Cw l G (2 + 0 * F.2) 196 as u κ z := by
  unfold c_X7_pushes at h
  split at h
  · obtain ⟨r, hr, h⟩ := Option.bind_eq_some_iff.mp h
    exact ⟨_, _, _, _, h, k_X7_pushes, fun h => absurd h (by decide), fun _ => ⟨_, _, rfl, rfl⟩, fun hf => m_X7_pushes F l G hf _ _ _ _ _ hr⟩
  · cases h
set_option maxRecDepth 100000 in
theorem k_X7_staysLayer : rx_Cal (rx_ny 210) (.code (rx_ny 210) prog_9_method_52_code 2 none) (rx_kd 210) 1 := ⟨prog_9_method_52_code, 2, none, Or.inl rfl, rx_in (i := 995) (by rfl) (by rfl), rx_in (i := 46) (by decide +kernel) (by decide +kernel), ⟨(by decide +kernel), (by decide +kernel), (by decide +kernel)⟩, Nat.le_of_ble_eq_true rfl, fun h => absurd h (by decide), fun _ => ⟨rx_in (i := 994) (by decide +kernel) (by decide +kernel), rx_in (i := 34) (by decide +kernel) (by decide +kernel)⟩, fun h => absurd h (by decide)⟩
set_option maxRecDepth 100000 in
theorem tk_X7_staysLayer : (t_X7_staysLayer.all (rx_eok "SetHouseModel" prog_9_method_52_code 2 false false) && rx_adj t_X7_staysLayer) = true := by decide +kernel
theorem s_X7_staysLayer_0 {F : Nat × Nat} {l : Launch} {G : rx_G} {D : Nat} {hf : rx_H} {z : (Option rx_H)} (hC : rx_CC l G D (C_X7_staysLayer F) z) (x0 : Nat) (x1 : Int32) (u : Option rx_H) (h : f_X7_staysLayer_0 F x0 x1 u = some z) : rx_S l G ("SetHouseModel", prog_9_method_52_code, 2, false, false, D) hf (z.getD hf) rx_hV z 0 [some (.ref x0), some (.int x1)] [] u := by
  rw [g_X7_staysLayer_0] at h
  refine rx_S_node (md := ("SetHouseModel", prog_9_method_52_code, 2, false, false, D)) tk_X7_staysLayer hC rx_m_hV (fun t ls st u h => ?_) h
  unfold kk_X7_staysLayer_0 at h
  cases h
theorem cc_X7_staysLayer (F : Nat × Nat) (l : Launch) (G : rx_G) {α : Type} (z : α) : rx_CC l G (0 + 0 * F.2) (C_X7_staysLayer F) z := by
  intro j as u κ h
  unfold C_X7_staysLayer at h
  cases h
theorem m_X7_staysLayer (F : Nat × Nat) (l : Launch) (G : rx_G) (hf : rx_H) (x0 : Nat) (x1 : Int32) (u : Option rx_H) {z : (Option rx_H)} (h : f_X7_staysLayer F x0 x1 u = some z) : rx_Ok l G (1 + 0 * F.2) (rx_ny 210) (.code (rx_ny 210) prog_9_method_52_code 2 none) [.ref x0, .int x1] (u.getD hf) none (z.getD hf) := by
  have h := h
  unfold f_X7_staysLayer at h
  exact (rx_met (l := l) (G := G) (hf := hf) (as := [.ref x0, .int x1]) (r := none) (ls0 := [some (.ref x0), some (.int x1)]) (y := rx_ny 210) (D := (0 + 0 * F.2)) (ini := false) (bo := false) (u := u) (u' := z) (by decide +kernel) (fun h => by cases h) (Nat.le_of_ble_eq_true rfl) (Or.inr (Or.inr (Or.inr ⟨rfl, rfl⟩))) (fun Z hZ hB => rx_RT_hV hZ hB) (by exact ⟨Or.inr rfl, Or.inr rfl, trivial⟩) (s_X7_staysLayer_0 (cc_X7_staysLayer F l G z) x0 x1 u h)).deep (by omega)
theorem w_X7_staysLayer (F : Nat × Nat) (l : Launch) (G : rx_G) {α : Type} {z : α} {as : List Value} {u : Option rx_H} {κ : rx_K α} (h : c_X7_staysLayer F as u κ = some z) : rx_Cw l G (1 + 0 * F.2) 210 as u κ z := by
  unfold c_X7_staysLayer at h
  split at h
  · obtain ⟨r, hr, h⟩ := Option.bind_eq_some_iff.mp h
    exact ⟨_, _, _, _, h, k_X7_staysLayer, fun h => absurd h (by decide), fun _ => ⟨_, _, rfl, rfl⟩, fun hf => m_X7_staysLayer F l G hf _ _ _ hr⟩
  · cases h
set_option maxRecDepth 100000 in
theorem k_X7_push : rx_Cal (rx_ny 194) (.code (rx_ny 194) prog_9_method_53_code 5 (some .int)) (rx_kd 194) 3 := ⟨prog_9_method_53_code, 5, (some .int), Or.inl rfl, rx_in (i := 987) (by rfl) (by rfl), rx_in (i := 46) (by decide +kernel) (by decide +kernel), ⟨(by decide +kernel), (by decide +kernel), (by decide +kernel)⟩, Nat.le_of_ble_eq_true rfl, fun h => absurd h (by decide), fun _ => ⟨rx_in (i := 985) (by decide +kernel) (by decide +kernel), rx_in (i := 986) (by decide +kernel) (by decide +kernel)⟩, fun h => absurd h (by decide)⟩
set_option maxRecDepth 100000 in
theorem tk_X7_push : (t_X7_push.all (rx_eok "SetHouseModel" prog_9_method_53_code 5 false false) && rx_adj t_X7_push) = true := by decide +kernel
theorem s_X7_push_0 {F : Nat × Nat} {l : Launch} {G : rx_G} {D : Nat} {hf : rx_H} {z : (Int32 × Option rx_H)} (hC : rx_CC l G D (C_X7_push F) z) (x0 : Nat) (x1 : Int32) (x2 : Int32) (x3 : Int32) (u : Option rx_H) (h : f_X7_push_0 F x0 x1 x2 x3 u = some z) : rx_S l G ("SetHouseModel", prog_9_method_53_code, 5, false, false, D) hf (z.2.getD hf) rx_hI z 0 [some (.ref x0), some (.int x1), some (.int x2), some (.int x3), none] [] u := by
  rw [g_X7_push_0] at h
  refine rx_S_node (md := ("SetHouseModel", prog_9_method_53_code, 5, false, false, D)) tk_X7_push hC rx_m_hI (fun t ls st u h => ?_) h
  unfold kk_X7_push_0 at h
  cases h
theorem cc_X7_push (F : Nat × Nat) (l : Launch) (G : rx_G) {α : Type} (z : α) : rx_CC l G (2 + 0 * F.2) (C_X7_push F) z := by
  intro j as u κ h
  unfold C_X7_push at h
  rcases rx_rec_eq h with ⟨hb, h⟩ | ⟨hb, h⟩
  · have ht := Nat.eq_of_beq_eq_true hb
    subst ht
    exact (w_X7_isIn F l G h).deep (by omega)
  rcases rx_rec_eq h with ⟨hb, h⟩ | ⟨hb, h⟩
  · have ht := Nat.eq_of_beq_eq_true hb
    subst ht
    exact (w_X7_isPlace F l G h).deep (by omega)
  rcases rx_rec_eq h with ⟨hb, h⟩ | ⟨hb, h⟩
  · have ht := Nat.eq_of_beq_eq_true hb
    subst ht
    exact (w_X7_lacks F l G h).deep (by omega)
  rcases rx_rec_eq h with ⟨hb, h⟩ | ⟨hb, h⟩
  · have ht := Nat.eq_of_beq_eq_true hb
    subst ht
    exact (w_X7_pushes F l G h).deep (by omega)
  rcases rx_rec_eq h with ⟨hb, h⟩ | ⟨hb, h⟩
  · have ht := Nat.eq_of_beq_eq_true hb
    subst ht
    exact (w_X7_staysLayer F l G h).deep (by omega)
  cases h
theorem m_X7_push (F : Nat × Nat) (l : Launch) (G : rx_G) (hf : rx_H) (x0 : Nat) (x1 : Int32) (x2 : Int32) (x3 : Int32) (u : Option rx_H) {z : (Int32 × Option rx_H)} (h : f_X7_push F x0 x1 x2 x3 u = some z) : rx_Ok l G (3 + 0 * F.2) (rx_ny 194) (.code (rx_ny 194) prog_9_method_53_code 5 (some .int)) [.ref x0, .int x1, .int x2, .int x3] (u.getD hf) (some (.int z.1)) (z.2.getD hf) := by
  have h := h
  unfold f_X7_push at h
  exact (rx_met (l := l) (G := G) (hf := hf) (as := [.ref x0, .int x1, .int x2, .int x3]) (r := (some (.int z.1))) (ls0 := [some (.ref x0), some (.int x1), some (.int x2), some (.int x3), none]) (y := rx_ny 194) (D := (2 + 0 * F.2)) (ini := false) (bo := false) (u := u) (u' := z.2) (by decide +kernel) (fun h => by cases h) (Nat.le_of_ble_eq_true rfl) (Or.inl ⟨rfl, rfl, _, rfl⟩) (fun Z hZ hB => rx_RT_hI hZ hB) (by exact ⟨Or.inr rfl, Or.inr rfl, Or.inr rfl, Or.inr rfl, Or.inl rfl, trivial⟩) (s_X7_push_0 (cc_X7_push F l G z) x0 x1 x2 x3 u h)).deep (by omega)
theorem w_X7_push (F : Nat × Nat) (l : Launch) (G : rx_G) {α : Type} {z : α} {as : List Value} {u : Option rx_H} {κ : rx_K α} (h : c_X7_push F as u κ = some z) : rx_Cw l G (3 + 0 * F.2) 194 as u κ z := by
  unfold c_X7_push at h
  split at h
  · obtain ⟨r, hr, h⟩ := Option.bind_eq_some_iff.mp h
    exact ⟨_, _, _, _, h, k_X7_push, fun h => absurd h (by decide), fun _ => ⟨_, _, rfl, rfl⟩, fun hf => m_X7_push F l G hf _ _ _ _ _ hr⟩
  · cases h
set_option maxRecDepth 100000 in
theorem k_X7_pushed : rx_Cal (rx_ny 195) (.code (rx_ny 195) prog_9_method_54_code 6 (some .int)) (rx_kd 195) 1 := ⟨prog_9_method_54_code, 6, (some .int), Or.inl rfl, rx_in (i := 999) (by rfl) (by rfl), rx_in (i := 46) (by decide +kernel) (by decide +kernel), ⟨(by decide +kernel), (by decide +kernel), (by decide +kernel)⟩, Nat.le_of_ble_eq_true rfl, fun h => absurd h (by decide), fun _ => ⟨rx_in (i := 997) (by decide +kernel) (by decide +kernel), rx_in (i := 998) (by decide +kernel) (by decide +kernel)⟩, fun h => absurd h (by decide)⟩
set_option maxRecDepth 100000 in
theorem tk_X7_pushed : (t_X7_pushed.all (rx_eok "SetHouseModel" prog_9_method_54_code 6 false false) && rx_adj t_X7_pushed) = true := by decide +kernel
theorem s_X7_pushed_49 {F : Nat × Nat} {l : Launch} {G : rx_G} {D : Nat} {hf : rx_H} {z : (Int32 × Option rx_H)} (hC : rx_CC l G D (C_X7_pushed F) z) {k27 : Nat → Int32 → Int32 → Int32 → Option rx_H → Option (Int32 × Option rx_H)} (hk27 : ∀ (x0 : Nat) (x1 : Int32) (x2 : Int32) (x3 : Int32) (u : Option rx_H), k27 x0 x1 x2 x3 u = some z → rx_S l G ("SetHouseModel", prog_9_method_54_code, 6, false, false, D) hf (z.2.getD hf) rx_hI z 27 [some (.ref x0), some (.int x1), some (.int x2), some (.int x3), none, none] [] u) {k37 : Nat → Int32 → Int32 → Int32 → Int32 → Option rx_H → Option (Int32 × Option rx_H)} (hk37 : ∀ (x0 : Nat) (x1 : Int32) (x2 : Int32) (x3 : Int32) (x4 : Int32) (u : Option rx_H), k37 x0 x1 x2 x3 x4 u = some z → rx_S l G ("SetHouseModel", prog_9_method_54_code, 6, false, false, D) hf (z.2.getD hf) rx_hI z 37 [some (.ref x0), some (.int x1), some (.int x2), some (.int x3), some (.int x4), none] [] u) : ∀ (f : Nat) (x0 : Nat) (x1 : Int32) (x2 : Int32) (x3 : Int32) (x4 : Int32) (x5 : Int32) (u : Option rx_H), f_X7_pushed_49 F k27 k37 f x0 x1 x2 x3 x4 x5 u = some z → rx_S l G ("SetHouseModel", prog_9_method_54_code, 6, false, false, D) hf (z.2.getD hf) rx_hI z 49 [some (.ref x0), some (.int x1), some (.int x2), some (.int x3), some (.int x4), some (.int x5)] [] u := by
  intro f
  induction f with
  | zero =>
    intro x0 x1 x2 x3 x4 x5 u h
    cases h
  | succ f ih =>
    intro x0 x1 x2 x3 x4 x5 u h
    rw [g_X7_pushed_49] at h
    refine rx_S_node (md := ("SetHouseModel", prog_9_method_54_code, 6, false, false, D)) tk_X7_pushed hC rx_m_hI (fun t ls st u h => ?_) h
    unfold kk_X7_pushed_49 at h
    rcases rx_rec_eq h with ⟨hb, h⟩ | ⟨hb, h⟩
    · have ht := Nat.eq_of_beq_eq_true hb
      subst ht
      unfold n_X7_pushed_37 at h
      split at h
      · exact (hk37 _ _ _ _ _ _ h).le ⟨Or.inr rfl, Or.inr rfl, Or.inr rfl, Or.inr rfl, Or.inr rfl, Or.inl rfl, trivial⟩
      · cases h
    rcases rx_rec_eq h with ⟨hb, h⟩ | ⟨hb, h⟩
    · have ht := Nat.eq_of_beq_eq_true hb
      subst ht
      unfold n_X7_pushed_49 at h
      split at h
      · exact (ih _ _ _ _ _ _ _ h).le ⟨Or.inr rfl, Or.inr rfl, Or.inr rfl, Or.inr rfl, Or.inr rfl, Or.inr rfl, trivial⟩
      · cases h
    cases h
theorem s_X7_pushed_37 {F : Nat × Nat} {l : Launch} {G : rx_G} {D : Nat} {hf : rx_H} {z : (Int32 × Option rx_H)} (hC : rx_CC l G D (C_X7_pushed F) z) {k27 : Nat → Int32 → Int32 → Int32 → Option rx_H → Option (Int32 × Option rx_H)} (hk27 : ∀ (x0 : Nat) (x1 : Int32) (x2 : Int32) (x3 : Int32) (u : Option rx_H), k27 x0 x1 x2 x3 u = some z → rx_S l G ("SetHouseModel", prog_9_method_54_code, 6, false, false, D) hf (z.2.getD hf) rx_hI z 27 [some (.ref x0), some (.int x1), some (.int x2), some (.int x3), none, none] [] u) : ∀ (f : Nat) (x0 : Nat) (x1 : Int32) (x2 : Int32) (x3 : Int32) (x4 : Int32) (u : Option rx_H), f_X7_pushed_37 F k27 f x0 x1 x2 x3 x4 u = some z → rx_S l G ("SetHouseModel", prog_9_method_54_code, 6, false, false, D) hf (z.2.getD hf) rx_hI z 37 [some (.ref x0), some (.int x1), some (.int x2), some (.int x3), some (.int x4), none] [] u := by
  intro f
  induction f with
  | zero =>
    intro x0 x1 x2 x3 x4 u h
    cases h
  | succ f ih =>
    intro x0 x1 x2 x3 x4 u h
    rw [g_X7_pushed_37] at h
    refine rx_S_node (md := ("SetHouseModel", prog_9_method_54_code, 6, false, false, D)) tk_X7_pushed hC rx_m_hI (fun t ls st u h => ?_) h
    unfold kk_X7_pushed_37 at h
    rcases rx_rec_eq h with ⟨hb, h⟩ | ⟨hb, h⟩
    · have ht := Nat.eq_of_beq_eq_true hb
      subst ht
      unfold n_X7_pushed_27 at h
      split at h
      · exact (hk27 _ _ _ _ _ h).le ⟨Or.inr rfl, Or.inr rfl, Or.inr rfl, Or.inr rfl, Or.inl rfl, Or.inl rfl, trivial⟩
      · cases h
    rcases rx_rec_eq h with ⟨hb, h⟩ | ⟨hb, h⟩
    · have ht := Nat.eq_of_beq_eq_true hb
      subst ht
      unfold n_X7_pushed_49 at h
      split at h
      · exact (s_X7_pushed_49 hC hk27 ih _ _ _ _ _ _ _ _ h).le ⟨Or.inr rfl, Or.inr rfl, Or.inr rfl, Or.inr rfl, Or.inr rfl, Or.inr rfl, trivial⟩
      · cases h
    cases h
theorem s_X7_pushed_27 {F : Nat × Nat} {l : Launch} {G : rx_G} {D : Nat} {hf : rx_H} {z : (Int32 × Option rx_H)} (hC : rx_CC l G D (C_X7_pushed F) z) : ∀ (f : Nat) (x0 : Nat) (x1 : Int32) (x2 : Int32) (x3 : Int32) (u : Option rx_H), f_X7_pushed_27 F f x0 x1 x2 x3 u = some z → rx_S l G ("SetHouseModel", prog_9_method_54_code, 6, false, false, D) hf (z.2.getD hf) rx_hI z 27 [some (.ref x0), some (.int x1), some (.int x2), some (.int x3), none, none] [] u := by
  intro f
  induction f with
  | zero =>
    intro x0 x1 x2 x3 u h
    cases h
  | succ f ih =>
    intro x0 x1 x2 x3 u h
    rw [g_X7_pushed_27] at h
    refine rx_S_node (md := ("SetHouseModel", prog_9_method_54_code, 6, false, false, D)) tk_X7_pushed hC rx_m_hI (fun t ls st u h => ?_) h
    unfold kk_X7_pushed_27 at h
    rcases rx_rec_eq h with ⟨hb, h⟩ | ⟨hb, h⟩
    · have ht := Nat.eq_of_beq_eq_true hb
      subst ht
      unfold n_X7_pushed_37 at h
      split at h
      · exact (s_X7_pushed_37 hC ih _ _ _ _ _ _ _ h).le ⟨Or.inr rfl, Or.inr rfl, Or.inr rfl, Or.inr rfl, Or.inr rfl, Or.inl rfl, trivial⟩
      · cases h
    cases h
theorem s_X7_pushed_0 {F : Nat × Nat} {l : Launch} {G : rx_G} {D : Nat} {hf : rx_H} {z : (Int32 × Option rx_H)} (hC : rx_CC l G D (C_X7_pushed F) z) (x0 : Nat) (x1 : Int32) (u : Option rx_H) (h : f_X7_pushed_0 F x0 x1 u = some z) : rx_S l G ("SetHouseModel", prog_9_method_54_code, 6, false, false, D) hf (z.2.getD hf) rx_hI z 0 [some (.ref x0), some (.int x1), none, none, none, none] [] u := by
  rw [g_X7_pushed_0] at h
  refine rx_S_node (md := ("SetHouseModel", prog_9_method_54_code, 6, false, false, D)) tk_X7_pushed hC rx_m_hI (fun t ls st u h => ?_) h
  unfold kk_X7_pushed_0 at h
  rcases rx_rec_eq h with ⟨hb, h⟩ | ⟨hb, h⟩
  · have ht := Nat.eq_of_beq_eq_true hb
    subst ht
    unfold n_X7_pushed_27 at h
    split at h
    · exact (s_X7_pushed_27 hC _ _ _ _ _ _ h).le ⟨Or.inr rfl, Or.inr rfl, Or.inr rfl, Or.inr rfl, Or.inl rfl, Or.inl rfl, trivial⟩
    · cases h
  cases h
theorem cc_X7_pushed (F : Nat × Nat) (l : Launch) (G : rx_G) {α : Type} (z : α) : rx_CC l G (2 + 0 * F.2) (C_X7_pushed F) z := by
  intro j as u κ h
  unfold C_X7_pushed at h
  rcases rx_rec_eq h with ⟨hb, h⟩ | ⟨hb, h⟩
  · have ht := Nat.eq_of_beq_eq_true hb
    subst ht
    exact (w_X7_isPlace F l G h).deep (by omega)
  rcases rx_rec_eq h with ⟨hb, h⟩ | ⟨hb, h⟩
  · have ht := Nat.eq_of_beq_eq_true hb
    subst ht
    exact (w_X7_lacks F l G h).deep (by omega)
  rcases rx_rec_eq h with ⟨hb, h⟩ | ⟨hb, h⟩
  · have ht := Nat.eq_of_beq_eq_true hb
    subst ht
    exact (w_X7_pushes F l G h).deep (by omega)
  rcases rx_rec_eq h with ⟨hb, h⟩ | ⟨hb, h⟩
  · have ht := Nat.eq_of_beq_eq_true hb
    subst ht
    exact (w_X7_staysLayer F l G h).deep (by omega)
  cases h
theorem m_X7_pushed (F : Nat × Nat) (l : Launch) (G : rx_G) (hf : rx_H) (x0 : Nat) (x1 : Int32) (u : Option rx_H) {z : (Int32 × Option rx_H)} (h : f_X7_pushed F x0 x1 u = some z) : rx_Ok l G (3 + 0 * F.2) (rx_ny 195) (.code (rx_ny 195) prog_9_method_54_code 6 (some .int)) [.ref x0, .int x1] (u.getD hf) (some (.int z.1)) (z.2.getD hf) := by
  have h := h
  unfold f_X7_pushed at h
  exact (rx_met (l := l) (G := G) (hf := hf) (as := [.ref x0, .int x1]) (r := (some (.int z.1))) (ls0 := [some (.ref x0), some (.int x1), none, none, none, none]) (y := rx_ny 195) (D := (2 + 0 * F.2)) (ini := false) (bo := false) (u := u) (u' := z.2) (by decide +kernel) (fun h => by cases h) (Nat.le_of_ble_eq_true rfl) (Or.inl ⟨rfl, rfl, _, rfl⟩) (fun Z hZ hB => rx_RT_hI hZ hB) (by exact ⟨Or.inr rfl, Or.inr rfl, Or.inl rfl, Or.inl rfl, Or.inl rfl, Or.inl rfl, trivial⟩) (s_X7_pushed_0 (cc_X7_pushed F l G z) x0 x1 u h)).deep (by omega)
theorem w_X7_pushed (F : Nat × Nat) (l : Launch) (G : rx_G) {α : Type} {z : α} {as : List Value} {u : Option rx_H} {κ : rx_K α} (h : c_X7_pushed F as u κ = some z) : rx_Cw l G (3 + 0 * F.2) 195 as u κ z := by
  unfold c_X7_pushed at h
  split at h
  · obtain ⟨r, hr, h⟩ := Option.bind_eq_some_iff.mp h
    exact ⟨_, _, _, _, h, k_X7_pushed, fun h => absurd h (by decide), fun _ => ⟨_, _, rfl, rfl⟩, fun hf => m_X7_pushed F l G hf _ _ _ hr⟩
  · cases h
set_option maxRecDepth 100000 in
theorem k_X7_first : rx_Cal (rx_ny 157) (.code (rx_ny 157) prog_9_method_55_code 8 (some .int)) (rx_kd 157) 3 := ⟨prog_9_method_55_code, 8, (some .int), Or.inl rfl, rx_in (i := 1003) (by rfl) (by rfl), rx_in (i := 46) (by decide +kernel) (by decide +kernel), ⟨(by decide +kernel), (by decide +kernel), (by decide +kernel)⟩, Nat.le_of_ble_eq_true rfl, fun h => absurd h (by decide), fun _ => ⟨rx_in (i := 1001) (by decide +kernel) (by decide +kernel), rx_in (i := 1002) (by decide +kernel) (by decide +kernel)⟩, fun h => absurd h (by decide)⟩
set_option maxRecDepth 100000 in
theorem tk_X7_first : (t_X7_first.all (rx_eok "SetHouseModel" prog_9_method_55_code 8 false false) && rx_adj t_X7_first) = true := by decide +kernel
theorem s_X7_first_78 {F : Nat × Nat} {l : Launch} {G : rx_G} {D : Nat} {hf : rx_H} {z : (Int32 × Option rx_H)} (hC : rx_CC l G D (C_X7_first F) z) (x0 : Nat) (x1 : Int32) (x3 : Int32) (x4 : Int64) (x6 : Int32) (u : Option rx_H) (h : f_X7_first_78 F x0 x1 x3 x4 x6 u = some z) : rx_S l G ("SetHouseModel", prog_9_method_55_code, 8, false, false, D) hf (z.2.getD hf) rx_hI z 78 [some (.ref x0), some (.int x1), none, some (.int x3), some (.long x4), none, some (.int x6), none] [] u := by
  rw [g_X7_first_78] at h
  refine rx_S_node (md := ("SetHouseModel", prog_9_method_55_code, 8, false, false, D)) tk_X7_first hC rx_m_hI (fun t ls st u h => ?_) h
  unfold kk_X7_first_78 at h
  cases h
theorem s_X7_first_34 {F : Nat × Nat} {l : Launch} {G : rx_G} {D : Nat} {hf : rx_H} {z : (Int32 × Option rx_H)} (hC : rx_CC l G D (C_X7_first F) z) : ∀ (f : Nat) (x0 : Nat) (x1 : Int32) (x3 : Int32) (x4 : Int64) (x6 : Int32) (x7 : Int32) (u : Option rx_H), f_X7_first_34 F f x0 x1 x3 x4 x6 x7 u = some z → rx_S l G ("SetHouseModel", prog_9_method_55_code, 8, false, false, D) hf (z.2.getD hf) rx_hI z 34 [some (.ref x0), some (.int x1), none, some (.int x3), some (.long x4), none, some (.int x6), some (.int x7)] [] u := by
  intro f
  induction f with
  | zero =>
    intro x0 x1 x3 x4 x6 x7 u h
    cases h
  | succ f ih =>
    intro x0 x1 x3 x4 x6 x7 u h
    rw [g_X7_first_34] at h
    refine rx_S_node (md := ("SetHouseModel", prog_9_method_55_code, 8, false, false, D)) tk_X7_first hC rx_m_hI (fun t ls st u h => ?_) h
    unfold kk_X7_first_34 at h
    rcases rx_rec_eq h with ⟨hb, h⟩ | ⟨hb, h⟩
    · have ht := Nat.eq_of_beq_eq_true hb
      subst ht
      unfold n_X7_first_34 at h
      split at h
      · exact (ih _ _ _ _ _ _ _ h).le ⟨Or.inr rfl, Or.inr rfl, Or.inl rfl, Or.inr rfl, Or.inr rfl, Or.inl rfl, Or.inr rfl, Or.inr rfl, trivial⟩
      · cases h
    rcases rx_rec_eq h with ⟨hb, h⟩ | ⟨hb, h⟩
    · have ht := Nat.eq_of_beq_eq_true hb
      subst ht
      unfold n_X7_first_78 at h
      split at h
      · exact (s_X7_first_78 hC _ _ _ _ _ _ h).le ⟨Or.inr rfl, Or.inr rfl, Or.inl rfl, Or.inr rfl, Or.inr rfl, Or.inl rfl, Or.inr rfl, Or.inl rfl, trivial⟩
      · cases h
    cases h
theorem s_X7_first_0 {F : Nat × Nat} {l : Launch} {G : rx_G} {D : Nat} {hf : rx_H} {z : (Int32 × Option rx_H)} (hC : rx_CC l G D (C_X7_first F) z) (x0 : Nat) (x1 : Int32) (x2 : Int32) (x3 : Int32) (u : Option rx_H) (h : f_X7_first_0 F x0 x1 x2 x3 u = some z) : rx_S l G ("SetHouseModel", prog_9_method_55_code, 8, false, false, D) hf (z.2.getD hf) rx_hI z 0 [some (.ref x0), some (.int x1), some (.int x2), some (.int x3), none, none, none, none] [] u := by
  rw [g_X7_first_0] at h
  refine rx_S_node (md := ("SetHouseModel", prog_9_method_55_code, 8, false, false, D)) tk_X7_first hC rx_m_hI (fun t ls st u h => ?_) h
  unfold kk_X7_first_0 at h
  rcases rx_rec_eq h with ⟨hb, h⟩ | ⟨hb, h⟩
  · have ht := Nat.eq_of_beq_eq_true hb
    subst ht
    unfold n_X7_first_34 at h
    split at h
    · exact (s_X7_first_34 hC _ _ _ _ _ _ _ _ h).le ⟨Or.inr rfl, Or.inr rfl, Or.inl rfl, Or.inr rfl, Or.inr rfl, Or.inl rfl, Or.inr rfl, Or.inr rfl, trivial⟩
    · cases h
  cases h
theorem cc_X7_first (F : Nat × Nat) (l : Launch) (G : rx_G) {α : Type} (z : α) : rx_CC l G (2 + 0 * F.2) (C_X7_first F) z := by
  intro j as u κ h
  unfold C_X7_first at h
  rcases rx_rec_eq h with ⟨hb, h⟩ | ⟨hb, h⟩
  · have ht := Nat.eq_of_beq_eq_true hb
    subst ht
    exact (w_X7_holdsNow F l G h).deep (by omega)
  rcases rx_rec_eq h with ⟨hb, h⟩ | ⟨hb, h⟩
  · have ht := Nat.eq_of_beq_eq_true hb
    subst ht
    exact (w_X7_isIn F l G h).deep (by omega)
  rcases rx_rec_eq h with ⟨hb, h⟩ | ⟨hb, h⟩
  · have ht := Nat.eq_of_beq_eq_true hb
    subst ht
    exact (w_X7_isPlace F l G h).deep (by omega)
  rcases rx_rec_eq h with ⟨hb, h⟩ | ⟨hb, h⟩
  · have ht := Nat.eq_of_beq_eq_true hb
    subst ht
    exact (w_X7_ones F l G h).deep (by omega)
  cases h
theorem m_X7_first (F : Nat × Nat) (l : Launch) (G : rx_G) (hf : rx_H) (x0 : Nat) (x1 : Int32) (x2 : Int32) (x3 : Int32) (u : Option rx_H) {z : (Int32 × Option rx_H)} (h : f_X7_first F x0 x1 x2 x3 u = some z) : rx_Ok l G (3 + 0 * F.2) (rx_ny 157) (.code (rx_ny 157) prog_9_method_55_code 8 (some .int)) [.ref x0, .int x1, .int x2, .int x3] (u.getD hf) (some (.int z.1)) (z.2.getD hf) := by
  have h := h
  unfold f_X7_first at h
  exact (rx_met (l := l) (G := G) (hf := hf) (as := [.ref x0, .int x1, .int x2, .int x3]) (r := (some (.int z.1))) (ls0 := [some (.ref x0), some (.int x1), some (.int x2), some (.int x3), none, none, none, none]) (y := rx_ny 157) (D := (2 + 0 * F.2)) (ini := false) (bo := false) (u := u) (u' := z.2) (by decide +kernel) (fun h => by cases h) (Nat.le_of_ble_eq_true rfl) (Or.inl ⟨rfl, rfl, _, rfl⟩) (fun Z hZ hB => rx_RT_hI hZ hB) (by exact ⟨Or.inr rfl, Or.inr rfl, Or.inr rfl, Or.inr rfl, Or.inl rfl, Or.inl rfl, Or.inl rfl, Or.inl rfl, trivial⟩) (s_X7_first_0 (cc_X7_first F l G z) x0 x1 x2 x3 u h)).deep (by omega)
theorem w_X7_first (F : Nat × Nat) (l : Launch) (G : rx_G) {α : Type} {z : α} {as : List Value} {u : Option rx_H} {κ : rx_K α} (h : c_X7_first F as u κ = some z) : rx_Cw l G (3 + 0 * F.2) 157 as u κ z := by
  unfold c_X7_first at h
  split at h
  · obtain ⟨r, hr, h⟩ := Option.bind_eq_some_iff.mp h
    exact ⟨_, _, _, _, h, k_X7_first, fun h => absurd h (by decide), fun _ => ⟨_, _, rfl, rfl⟩, fun hf => m_X7_first F l G hf _ _ _ _ _ hr⟩
  · cases h
set_option maxRecDepth 100000 in
theorem k_X7_sum : rx_Cal (rx_ny 211) (.code (rx_ny 211) prog_9_method_57_code 4 (some .int)) (rx_kd 211) 1 := ⟨prog_9_method_57_code, 4, (some .int), Or.inl rfl, rx_in (i := 1007) (by rfl) (by rfl), rx_in (i := 46) (by decide +kernel) (by decide +kernel), ⟨(by decide +kernel), (by decide +kernel), (by decide +kernel)⟩, Nat.le_of_ble_eq_true rfl, fun h => absurd h (by decide), fun _ => ⟨rx_in (i := 1005) (by decide +kernel) (by decide +kernel), rx_in (i := 1006) (by decide +kernel) (by decide +kernel)⟩, fun h => absurd h (by decide)⟩
set_option maxRecDepth 100000 in
theorem tk_X7_sum : (t_X7_sum.all (rx_eok "SetHouseModel" prog_9_method_57_code 4 false false) && rx_adj t_X7_sum) = true := by decide +kernel
theorem s_X7_sum_27 {F : Nat × Nat} {l : Launch} {G : rx_G} {D : Nat} {hf : rx_H} {z : (Int32 × Option rx_H)} (hC : rx_CC l G D (C_X7_sum F) z) : ∀ (f : Nat) (x0 : Nat) (x1 : Int32) (x2 : Int32) (x3 : Int32) (u : Option rx_H), f_X7_sum_27 F f x0 x1 x2 x3 u = some z → rx_S l G ("SetHouseModel", prog_9_method_57_code, 4, false, false, D) hf (z.2.getD hf) rx_hI z 27 [some (.ref x0), some (.int x1), some (.int x2), some (.int x3)] [] u := by
  intro f
  induction f with
  | zero =>
    intro x0 x1 x2 x3 u h
    cases h
  | succ f ih =>
    intro x0 x1 x2 x3 u h
    rw [g_X7_sum_27] at h
    refine rx_S_node (md := ("SetHouseModel", prog_9_method_57_code, 4, false, false, D)) tk_X7_sum hC rx_m_hI (fun t ls st u h => ?_) h
    unfold kk_X7_sum_27 at h
    rcases rx_rec_eq h with ⟨hb, h⟩ | ⟨hb, h⟩
    · have ht := Nat.eq_of_beq_eq_true hb
      subst ht
      unfold n_X7_sum_27 at h
      split at h
      · exact (ih _ _ _ _ _ h).le ⟨Or.inr rfl, Or.inr rfl, Or.inr rfl, Or.inr rfl, trivial⟩
      · cases h
    cases h
theorem s_X7_sum_0 {F : Nat × Nat} {l : Launch} {G : rx_G} {D : Nat} {hf : rx_H} {z : (Int32 × Option rx_H)} (hC : rx_CC l G D (C_X7_sum F) z) (x0 : Nat) (x1 : Int32) (u : Option rx_H) (h : f_X7_sum_0 F x0 x1 u = some z) : rx_S l G ("SetHouseModel", prog_9_method_57_code, 4, false, false, D) hf (z.2.getD hf) rx_hI z 0 [some (.ref x0), some (.int x1), none, none] [] u := by
  rw [g_X7_sum_0] at h
  refine rx_S_node (md := ("SetHouseModel", prog_9_method_57_code, 4, false, false, D)) tk_X7_sum hC rx_m_hI (fun t ls st u h => ?_) h
  unfold kk_X7_sum_0 at h
  rcases rx_rec_eq h with ⟨hb, h⟩ | ⟨hb, h⟩
  · have ht := Nat.eq_of_beq_eq_true hb
    subst ht
    unfold n_X7_sum_27 at h
    split at h
    · exact (s_X7_sum_27 hC _ _ _ _ _ _ h).le ⟨Or.inr rfl, Or.inr rfl, Or.inr rfl, Or.inr rfl, trivial⟩
    · cases h
  cases h
theorem cc_X7_sum (F : Nat × Nat) (l : Launch) (G : rx_G) {α : Type} (z : α) : rx_CC l G (2 + 0 * F.2) (C_X7_sum F) z := by
  intro j as u κ h
  unfold C_X7_sum at h
  rcases rx_rec_eq h with ⟨hb, h⟩ | ⟨hb, h⟩
  · have ht := Nat.eq_of_beq_eq_true hb
    subst ht
    exact (w_X7_factorial F l G h).deep (by omega)
  rcases rx_rec_eq h with ⟨hb, h⟩ | ⟨hb, h⟩
  · have ht := Nat.eq_of_beq_eq_true hb
    subst ht
    exact (w_X7_has F l G h).deep (by omega)
  rcases rx_rec_eq h with ⟨hb, h⟩ | ⟨hb, h⟩
  · have ht := Nat.eq_of_beq_eq_true hb
    subst ht
    exact (w_X7_isPlace F l G h).deep (by omega)
  rcases rx_rec_eq h with ⟨hb, h⟩ | ⟨hb, h⟩
  · have ht := Nat.eq_of_beq_eq_true hb
    subst ht
    exact (w_X7_lacks F l G h).deep (by omega)
  rcases rx_rec_eq h with ⟨hb, h⟩ | ⟨hb, h⟩
  · have ht := Nat.eq_of_beq_eq_true hb
    subst ht
    exact (w_X7_ones F l G h).deep (by omega)
  cases h
theorem m_X7_sum (F : Nat × Nat) (l : Launch) (G : rx_G) (hf : rx_H) (x0 : Nat) (x1 : Int32) (u : Option rx_H) {z : (Int32 × Option rx_H)} (h : f_X7_sum F x0 x1 u = some z) : rx_Ok l G (3 + 0 * F.2) (rx_ny 211) (.code (rx_ny 211) prog_9_method_57_code 4 (some .int)) [.ref x0, .int x1] (u.getD hf) (some (.int z.1)) (z.2.getD hf) := by
  have h := h
  unfold f_X7_sum at h
  exact (rx_met (l := l) (G := G) (hf := hf) (as := [.ref x0, .int x1]) (r := (some (.int z.1))) (ls0 := [some (.ref x0), some (.int x1), none, none]) (y := rx_ny 211) (D := (2 + 0 * F.2)) (ini := false) (bo := false) (u := u) (u' := z.2) (by decide +kernel) (fun h => by cases h) (Nat.le_of_ble_eq_true rfl) (Or.inl ⟨rfl, rfl, _, rfl⟩) (fun Z hZ hB => rx_RT_hI hZ hB) (by exact ⟨Or.inr rfl, Or.inr rfl, Or.inl rfl, Or.inl rfl, trivial⟩) (s_X7_sum_0 (cc_X7_sum F l G z) x0 x1 u h)).deep (by omega)
theorem w_X7_sum (F : Nat × Nat) (l : Launch) (G : rx_G) {α : Type} {z : α} {as : List Value} {u : Option rx_H} {κ : rx_K α} (h : c_X7_sum F as u κ = some z) : rx_Cw l G (3 + 0 * F.2) 211 as u κ z := by
  unfold c_X7_sum at h
  split at h
  · obtain ⟨r, hr, h⟩ := Option.bind_eq_some_iff.mp h
    exact ⟨_, _, _, _, h, k_X7_sum, fun h => absurd h (by decide), fun _ => ⟨_, _, rfl, rfl⟩, fun hf => m_X7_sum F l G hf _ _ _ hr⟩
  · cases h
set_option maxRecDepth 100000 in
theorem k_X7_rank : rx_Cal (rx_ny 198) (.code (rx_ny 198) prog_9_method_58_code 4 (some .int)) (rx_kd 198) 1 := ⟨prog_9_method_58_code, 4, (some .int), Or.inl rfl, rx_in (i := 1014) (by rfl) (by rfl), rx_in (i := 46) (by decide +kernel) (by decide +kernel), ⟨(by decide +kernel), (by decide +kernel), (by decide +kernel)⟩, Nat.le_of_ble_eq_true rfl, fun h => absurd h (by decide), fun _ => ⟨rx_in (i := 1012) (by decide +kernel) (by decide +kernel), rx_in (i := 1013) (by decide +kernel) (by decide +kernel)⟩, fun h => absurd h (by decide)⟩
set_option maxRecDepth 100000 in
theorem tk_X7_rank : (t_X7_rank.all (rx_eok "SetHouseModel" prog_9_method_58_code 4 false false) && rx_adj t_X7_rank) = true := by decide +kernel
theorem s_X7_rank_14 {F : Nat × Nat} {l : Launch} {G : rx_G} {D : Nat} {hf : rx_H} {z : (Int32 × Option rx_H)} (hC : rx_CC l G D (C_X7_rank F) z) : ∀ (f : Nat) (x1 : Int32) (x2 : Int32) (x3 : Int32) (u : Option rx_H), f_X7_rank_14 F f x1 x2 x3 u = some z → rx_S l G ("SetHouseModel", prog_9_method_58_code, 4, false, false, D) hf (z.2.getD hf) rx_hI z 14 [none, some (.int x1), some (.int x2), some (.int x3)] [] u := by
  intro f
  induction f with
  | zero =>
    intro x1 x2 x3 u h
    cases h
  | succ f ih =>
    intro x1 x2 x3 u h
    rw [g_X7_rank_14] at h
    refine rx_S_node (md := ("SetHouseModel", prog_9_method_58_code, 4, false, false, D)) tk_X7_rank hC rx_m_hI (fun t ls st u h => ?_) h
    unfold kk_X7_rank_14 at h
    rcases rx_rec_eq h with ⟨hb, h⟩ | ⟨hb, h⟩
    · have ht := Nat.eq_of_beq_eq_true hb
      subst ht
      unfold n_X7_rank_14 at h
      split at h
      · exact (ih _ _ _ _ h).le ⟨Or.inl rfl, Or.inr rfl, Or.inr rfl, Or.inr rfl, trivial⟩
      · cases h
    cases h
theorem s_X7_rank_0 {F : Nat × Nat} {l : Launch} {G : rx_G} {D : Nat} {hf : rx_H} {z : (Int32 × Option rx_H)} (hC : rx_CC l G D (C_X7_rank F) z) (x0 : Nat) (x1 : Int32) (u : Option rx_H) (h : f_X7_rank_0 F x0 x1 u = some z) : rx_S l G ("SetHouseModel", prog_9_method_58_code, 4, false, false, D) hf (z.2.getD hf) rx_hI z 0 [some (.ref x0), some (.int x1), none, none] [] u := by
  rw [g_X7_rank_0] at h
  refine rx_S_node (md := ("SetHouseModel", prog_9_method_58_code, 4, false, false, D)) tk_X7_rank hC rx_m_hI (fun t ls st u h => ?_) h
  unfold kk_X7_rank_0 at h
  rcases rx_rec_eq h with ⟨hb, h⟩ | ⟨hb, h⟩
  · have ht := Nat.eq_of_beq_eq_true hb
    subst ht
    unfold n_X7_rank_14 at h
    split at h
    · exact (s_X7_rank_14 hC _ _ _ _ _ h).le ⟨Or.inl rfl, Or.inr rfl, Or.inr rfl, Or.inr rfl, trivial⟩
    · cases h
  cases h
theorem cc_X7_rank (F : Nat × Nat) (l : Launch) (G : rx_G) {α : Type} (z : α) : rx_CC l G (2 + 0 * F.2) (C_X7_rank F) z := by
  intro j as u κ h
  unfold C_X7_rank at h
  rcases rx_rec_eq h with ⟨hb, h⟩ | ⟨hb, h⟩
  · have ht := Nat.eq_of_beq_eq_true hb
    subst ht
    exact (w_X7_isSet F l G h).deep (by omega)
  rcases rx_rec_eq h with ⟨hb, h⟩ | ⟨hb, h⟩
  · have ht := Nat.eq_of_beq_eq_true hb
    subst ht
    exact (w_X7_ones F l G h).deep (by omega)
  cases h
theorem m_X7_rank (F : Nat × Nat) (l : Launch) (G : rx_G) (hf : rx_H) (x0 : Nat) (x1 : Int32) (u : Option rx_H) {z : (Int32 × Option rx_H)} (h : f_X7_rank F x0 x1 u = some z) : rx_Ok l G (3 + 0 * F.2) (rx_ny 198) (.code (rx_ny 198) prog_9_method_58_code 4 (some .int)) [.ref x0, .int x1] (u.getD hf) (some (.int z.1)) (z.2.getD hf) := by
  have h := h
  unfold f_X7_rank at h
  exact (rx_met (l := l) (G := G) (hf := hf) (as := [.ref x0, .int x1]) (r := (some (.int z.1))) (ls0 := [some (.ref x0), some (.int x1), none, none]) (y := rx_ny 198) (D := (2 + 0 * F.2)) (ini := false) (bo := false) (u := u) (u' := z.2) (by decide +kernel) (fun h => by cases h) (Nat.le_of_ble_eq_true rfl) (Or.inl ⟨rfl, rfl, _, rfl⟩) (fun Z hZ hB => rx_RT_hI hZ hB) (by exact ⟨Or.inr rfl, Or.inr rfl, Or.inl rfl, Or.inl rfl, trivial⟩) (s_X7_rank_0 (cc_X7_rank F l G z) x0 x1 u h)).deep (by omega)
theorem w_X7_rank (F : Nat × Nat) (l : Launch) (G : rx_G) {α : Type} {z : α} {as : List Value} {u : Option rx_H} {κ : rx_K α} (h : c_X7_rank F as u κ = some z) : rx_Cw l G (3 + 0 * F.2) 198 as u κ z := by
  unfold c_X7_rank at h
  split at h
  · obtain ⟨r, hr, h⟩ := Option.bind_eq_some_iff.mp h
    exact ⟨_, _, _, _, h, k_X7_rank, fun h => absurd h (by decide), fun _ => ⟨_, _, rfl, rfl⟩, fun hf => m_X7_rank F l G hf _ _ _ hr⟩
  · cases h
set_option maxRecDepth 100000 in
theorem k_X7_ranked : rx_Cal (rx_ny 199) (.code (rx_ny 199) prog_9_method_59_code 4 (some .int)) (rx_kd 199) 2 := ⟨prog_9_method_59_code, 4, (some .int), Or.inl rfl, rx_in (i := 1018) (by rfl) (by rfl), rx_in (i := 46) (by decide +kernel) (by decide +kernel), ⟨(by decide +kernel), (by decide +kernel), (by decide +kernel)⟩, Nat.le_of_ble_eq_true rfl, fun h => absurd h (by decide), fun _ => ⟨rx_in (i := 1016) (by decide +kernel) (by decide +kernel), rx_in (i := 1017) (by decide +kernel) (by decide +kernel)⟩, fun h => absurd h (by decide)⟩
set_option maxRecDepth 100000 in
theorem tk_X7_ranked : (t_X7_ranked.all (rx_eok "SetHouseModel" prog_9_method_59_code 4 false false) && rx_adj t_X7_ranked) = true := by decide +kernel
theorem s_X7_ranked_20 {F : Nat × Nat} {l : Launch} {G : rx_G} {D : Nat} {hf : rx_H} {z : (Int32 × Option rx_H)} (hC : rx_CC l G D (C_X7_ranked F) z) : ∀ (f : Nat) (x0 : Nat) (x1 : Int32) (x2 : Int32) (x3 : Int32) (u : Option rx_H), f_X7_ranked_20 F f x0 x1 x2 x3 u = some z → rx_S l G ("SetHouseModel", prog_9_method_59_code, 4, false, false, D) hf (z.2.getD hf) rx_hI z 20 [some (.ref x0), some (.int x1), some (.int x2), some (.int x3)] [] u := by
  intro f
  induction f with
  | zero =>
    intro x0 x1 x2 x3 u h
    cases h
  | succ f ih =>
    intro x0 x1 x2 x3 u h
    rw [g_X7_ranked_20] at h
    refine rx_S_node (md := ("SetHouseModel", prog_9_method_59_code, 4, false, false, D)) tk_X7_ranked hC rx_m_hI (fun t ls st u h => ?_) h
    unfold kk_X7_ranked_20 at h
    rcases rx_rec_eq h with ⟨hb, h⟩ | ⟨hb, h⟩
    · have ht := Nat.eq_of_beq_eq_true hb
      subst ht
      unfold n_X7_ranked_20 at h
      split at h
      · exact (ih _ _ _ _ _ h).le ⟨Or.inr rfl, Or.inr rfl, Or.inr rfl, Or.inr rfl, trivial⟩
      · cases h
    cases h
theorem s_X7_ranked_0 {F : Nat × Nat} {l : Launch} {G : rx_G} {D : Nat} {hf : rx_H} {z : (Int32 × Option rx_H)} (hC : rx_CC l G D (C_X7_ranked F) z) (x0 : Nat) (x1 : Int32) (x2 : Int32) (u : Option rx_H) (h : f_X7_ranked_0 F x0 x1 x2 u = some z) : rx_S l G ("SetHouseModel", prog_9_method_59_code, 4, false, false, D) hf (z.2.getD hf) rx_hI z 0 [some (.ref x0), some (.int x1), some (.int x2), none] [] u := by
  rw [g_X7_ranked_0] at h
  refine rx_S_node (md := ("SetHouseModel", prog_9_method_59_code, 4, false, false, D)) tk_X7_ranked hC rx_m_hI (fun t ls st u h => ?_) h
  unfold kk_X7_ranked_0 at h
  rcases rx_rec_eq h with ⟨hb, h⟩ | ⟨hb, h⟩
  · have ht := Nat.eq_of_beq_eq_true hb
    subst ht
    unfold n_X7_ranked_20 at h
    split at h
    · exact (s_X7_ranked_20 hC _ _ _ _ _ _ h).le ⟨Or.inr rfl, Or.inr rfl, Or.inr rfl, Or.inr rfl, trivial⟩
    · cases h
  cases h
theorem cc_X7_ranked (F : Nat × Nat) (l : Launch) (G : rx_G) {α : Type} (z : α) : rx_CC l G (3 + 0 * F.2) (C_X7_ranked F) z := by
  intro j as u κ h
  unfold C_X7_ranked at h
  rcases rx_rec_eq h with ⟨hb, h⟩ | ⟨hb, h⟩
  · have ht := Nat.eq_of_beq_eq_true hb
    subst ht
    exact (w_X7_isIn F l G h).deep (by omega)
  rcases rx_rec_eq h with ⟨hb, h⟩ | ⟨hb, h⟩
  · have ht := Nat.eq_of_beq_eq_true hb
    subst ht
    exact (w_X7_ones F l G h).deep (by omega)
  rcases rx_rec_eq h with ⟨hb, h⟩ | ⟨hb, h⟩
  · have ht := Nat.eq_of_beq_eq_true hb
    subst ht
    exact (w_X7_rank F l G h).deep (by omega)
  cases h
theorem m_X7_ranked (F : Nat × Nat) (l : Launch) (G : rx_G) (hf : rx_H) (x0 : Nat) (x1 : Int32) (x2 : Int32) (u : Option rx_H) {z : (Int32 × Option rx_H)} (h : f_X7_ranked F x0 x1 x2 u = some z) : rx_Ok l G (4 + 0 * F.2) (rx_ny 199) (.code (rx_ny 199) prog_9_method_59_code 4 (some .int)) [.ref x0, .int x1, .int x2] (u.getD hf) (some (.int z.1)) (z.2.getD hf) := by
  have h := h
  unfold f_X7_ranked at h
  exact (rx_met (l := l) (G := G) (hf := hf) (as := [.ref x0, .int x1, .int x2]) (r := (some (.int z.1))) (ls0 := [some (.ref x0), some (.int x1), some (.int x2), none]) (y := rx_ny 199) (D := (3 + 0 * F.2)) (ini := false) (bo := false) (u := u) (u' := z.2) (by decide +kernel) (fun h => by cases h) (Nat.le_of_ble_eq_true rfl) (Or.inl ⟨rfl, rfl, _, rfl⟩) (fun Z hZ hB => rx_RT_hI hZ hB) (by exact ⟨Or.inr rfl, Or.inr rfl, Or.inr rfl, Or.inl rfl, trivial⟩) (s_X7_ranked_0 (cc_X7_ranked F l G z) x0 x1 x2 u h)).deep (by omega)
theorem w_X7_ranked (F : Nat × Nat) (l : Launch) (G : rx_G) {α : Type} {z : α} {as : List Value} {u : Option rx_H} {κ : rx_K α} (h : c_X7_ranked F as u κ = some z) : rx_Cw l G (4 + 0 * F.2) 199 as u κ z := by
  unfold c_X7_ranked at h
  split at h
  · obtain ⟨r, hr, h⟩ := Option.bind_eq_some_iff.mp h
    exact ⟨_, _, _, _, h, k_X7_ranked, fun h => absurd h (by decide), fun _ => ⟨_, _, rfl, rfl⟩, fun hf => m_X7_ranked F l G hf _ _ _ _ hr⟩
  · cases h
set_option maxRecDepth 100000 in
theorem k_X7_chainFirst : rx_Cal (rx_ny 142) (.code (rx_ny 142) prog_9_method_65_code 5 (some .int)) (rx_kd 142) 1 := ⟨prog_9_method_65_code, 5, (some .int), Or.inl rfl, rx_in (i := 1044) (by rfl) (by rfl), rx_in (i := 46) (by decide +kernel) (by decide +kernel), ⟨(by decide +kernel), (by decide +kernel), (by decide +kernel)⟩, Nat.le_of_ble_eq_true rfl, fun h => absurd h (by decide), fun _ => ⟨rx_in (i := 1043) (by decide +kernel) (by decide +kernel), rx_in (i := 35) (by decide +kernel) (by decide +kernel)⟩, fun h => absurd h (by decide)⟩
set_option maxRecDepth 100000 in
theorem tk_X7_chainFirst : (t_X7_chainFirst.all (rx_eok "SetHouseModel" prog_9_method_65_code 5 false false) && rx_adj t_X7_chainFirst) = true := by decide +kernel
theorem s_X7_chainFirst_7 {F : Nat × Nat} {l : Launch} {G : rx_G} {D : Nat} {hf : rx_H} {z : (Int32 × Option rx_H)} (hC : rx_CC l G D (C_X7_chainFirst F) z) : ∀ (f : Nat) (x0 : Nat) (x1 : Int32) (x2 : Int32) (x3 : Int32) (x4 : Int32) (u : Option rx_H), f_X7_chainFirst_7 F f x0 x1 x2 x3 x4 u = some z → rx_S l G ("SetHouseModel", prog_9_method_65_code, 5, false, false, D) hf (z.2.getD hf) rx_hI z 7 [some (.ref x0), some (.int x1), some (.int x2), some (.int x3), some (.int x4)] [] u := by
  intro f
  induction f with
  | zero =>
    intro x0 x1 x2 x3 x4 u h
    cases h
  | succ f ih =>
    intro x0 x1 x2 x3 x4 u h
    rw [g_X7_chainFirst_7] at h
    refine rx_S_node (md := ("SetHouseModel", prog_9_method_65_code, 5, false, false, D)) tk_X7_chainFirst hC rx_m_hI (fun t ls st u h => ?_) h
    unfold kk_X7_chainFirst_7 at h
    rcases rx_rec_eq h with ⟨hb, h⟩ | ⟨hb, h⟩
    · have ht := Nat.eq_of_beq_eq_true hb
      subst ht
      unfold n_X7_chainFirst_7 at h
      split at h
      · exact (ih _ _ _ _ _ _ h).le ⟨Or.inr rfl, Or.inr rfl, Or.inr rfl, Or.inr rfl, Or.inr rfl, trivial⟩
      · cases h
    cases h
theorem s_X7_chainFirst_0 {F : Nat × Nat} {l : Launch} {G : rx_G} {D : Nat} {hf : rx_H} {z : (Int32 × Option rx_H)} (hC : rx_CC l G D (C_X7_chainFirst F) z) (x0 : Nat) (x1 : Int32) (u : Option rx_H) (h : f_X7_chainFirst_0 F x0 x1 u = some z) : rx_S l G ("SetHouseModel", prog_9_method_65_code, 5, false, false, D) hf (z.2.getD hf) rx_hI z 0 [some (.ref x0), some (.int x1), none, none, none] [] u := by
  rw [g_X7_chainFirst_0] at h
  refine rx_S_node (md := ("SetHouseModel", prog_9_method_65_code, 5, false, false, D)) tk_X7_chainFirst hC rx_m_hI (fun t ls st u h => ?_) h
  unfold kk_X7_chainFirst_0 at h
  rcases rx_rec_eq h with ⟨hb, h⟩ | ⟨hb, h⟩
  · have ht := Nat.eq_of_beq_eq_true hb
    subst ht
    unfold n_X7_chainFirst_7 at h
    split at h
    · exact (s_X7_chainFirst_7 hC _ _ _ _ _ _ _ h).le ⟨Or.inr rfl, Or.inr rfl, Or.inr rfl, Or.inr rfl, Or.inr rfl, trivial⟩
    · cases h
  cases h
theorem cc_X7_chainFirst (F : Nat × Nat) (l : Launch) (G : rx_G) {α : Type} (z : α) : rx_CC l G (0 + 0 * F.2) (C_X7_chainFirst F) z := by
  intro j as u κ h
  unfold C_X7_chainFirst at h
  cases h
theorem m_X7_chainFirst (F : Nat × Nat) (l : Launch) (G : rx_G) (hf : rx_H) (x0 : Nat) (x1 : Int32) (u : Option rx_H) {z : (Int32 × Option rx_H)} (h : f_X7_chainFirst F x0 x1 u = some z) : rx_Ok l G (1 + 0 * F.2) (rx_ny 142) (.code (rx_ny 142) prog_9_method_65_code 5 (some .int)) [.ref x0, .int x1] (u.getD hf) (some (.int z.1)) (z.2.getD hf) := by
  have h := h
  unfold f_X7_chainFirst at h
  exact (rx_met (l := l) (G := G) (hf := hf) (as := [.ref x0, .int x1]) (r := (some (.int z.1))) (ls0 := [some (.ref x0), some (.int x1), none, none, none]) (y := rx_ny 142) (D := (0 + 0 * F.2)) (ini := false) (bo := false) (u := u) (u' := z.2) (by decide +kernel) (fun h => by cases h) (Nat.le_of_ble_eq_true rfl) (Or.inl ⟨rfl, rfl, _, rfl⟩) (fun Z hZ hB => rx_RT_hI hZ hB) (by exact ⟨Or.inr rfl, Or.inr rfl, Or.inl rfl, Or.inl rfl, Or.inl rfl, trivial⟩) (s_X7_chainFirst_0 (cc_X7_chainFirst F l G z) x0 x1 u h)).deep (by omega)
theorem w_X7_chainFirst (F : Nat × Nat) (l : Launch) (G : rx_G) {α : Type} {z : α} {as : List Value} {u : Option rx_H} {κ : rx_K α} (h : c_X7_chainFirst F as u κ = some z) : rx_Cw l G (1 + 0 * F.2) 142 as u κ z := by
  unfold c_X7_chainFirst at h
  split at h
  · obtain ⟨r, hr, h⟩ := Option.bind_eq_some_iff.mp h
    exact ⟨_, _, _, _, h, k_X7_chainFirst, fun h => absurd h (by decide), fun _ => ⟨_, _, rfl, rfl⟩, fun hf => m_X7_chainFirst F l G hf _ _ _ hr⟩
  · cases h
set_option maxRecDepth 100000 in
theorem k_X7_chain : rx_Cal (rx_ny 141) (.code (rx_ny 141) prog_9_method_66_code 6 (some .int)) (rx_kd 141) 2 := ⟨prog_9_method_66_code, 6, (some .int), Or.inl rfl, rx_in (i := 1040) (by rfl) (by rfl), rx_in (i := 46) (by decide +kernel) (by decide +kernel), ⟨(by decide +kernel), (by decide +kernel), (by decide +kernel)⟩, Nat.le_of_ble_eq_true rfl, fun h => absurd h (by decide), fun _ => ⟨rx_in (i := 1038) (by decide +kernel) (by decide +kernel), rx_in (i := 1039) (by decide +kernel) (by decide +kernel)⟩, fun h => absurd h (by decide)⟩
set_option maxRecDepth 100000 in
theorem tk_X7_chain : (t_X7_chain.all (rx_eok "SetHouseModel" prog_9_method_66_code 6 false false) && rx_adj t_X7_chain) = true := by decide +kernel
theorem s_X7_chain_38 {F : Nat × Nat} {l : Launch} {G : rx_G} {D : Nat} {hf : rx_H} {z : (Int32 × Option rx_H)} (hC : rx_CC l G D (C_X7_chain F) z) : ∀ (f : Nat) (x0 : Nat) (x2 : Int32) (x3 : Int32) (x4 : Int32) (x5 : Int32) (u : Option rx_H), f_X7_chain_38 F f x0 x2 x3 x4 x5 u = some z → rx_S l G ("SetHouseModel", prog_9_method_66_code, 6, false, false, D) hf (z.2.getD hf) rx_hI z 38 [some (.ref x0), none, some (.int x2), some (.int x3), some (.int x4), some (.int x5)] [] u := by
  intro f
  induction f with
  | zero =>
    intro x0 x2 x3 x4 x5 u h
    cases h
  | succ f ih =>
    intro x0 x2 x3 x4 x5 u h
    rw [g_X7_chain_38] at h
    refine rx_S_node (md := ("SetHouseModel", prog_9_method_66_code, 6, false, false, D)) tk_X7_chain hC rx_m_hI (fun t ls st u h => ?_) h
    unfold kk_X7_chain_38 at h
    rcases rx_rec_eq h with ⟨hb, h⟩ | ⟨hb, h⟩
    · have ht := Nat.eq_of_beq_eq_true hb
      subst ht
      unfold n_X7_chain_38 at h
      split at h
      · exact (ih _ _ _ _ _ _ h).le ⟨Or.inr rfl, Or.inl rfl, Or.inr rfl, Or.inr rfl, Or.inr rfl, Or.inr rfl, trivial⟩
      · cases h
    cases h
theorem s_X7_chain_0 {F : Nat × Nat} {l : Launch} {G : rx_G} {D : Nat} {hf : rx_H} {z : (Int32 × Option rx_H)} (hC : rx_CC l G D (C_X7_chain F) z) (x0 : Nat) (x1 : Int32) (x2 : Int32) (u : Option rx_H) (h : f_X7_chain_0 F x0 x1 x2 u = some z) : rx_S l G ("SetHouseModel", prog_9_method_66_code, 6, false, false, D) hf (z.2.getD hf) rx_hI z 0 [some (.ref x0), some (.int x1), some (.int x2), none, none, none] [] u := by
  rw [g_X7_chain_0] at h
  refine rx_S_node (md := ("SetHouseModel", prog_9_method_66_code, 6, false, false, D)) tk_X7_chain hC rx_m_hI (fun t ls st u h => ?_) h
  unfold kk_X7_chain_0 at h
  rcases rx_rec_eq h with ⟨hb, h⟩ | ⟨hb, h⟩
  · have ht := Nat.eq_of_beq_eq_true hb
    subst ht
    unfold n_X7_chain_38 at h
    split at h
    · exact (s_X7_chain_38 hC _ _ _ _ _ _ _ h).le ⟨Or.inr rfl, Or.inl rfl, Or.inr rfl, Or.inr rfl, Or.inr rfl, Or.inr rfl, trivial⟩
    · cases h
  cases h
theorem cc_X7_chain (F : Nat × Nat) (l : Launch) (G : rx_G) {α : Type} (z : α) : rx_CC l G (2 + 0 * F.2) (C_X7_chain F) z := by
  intro j as u κ h
  unfold C_X7_chain at h
  rcases rx_rec_eq h with ⟨hb, h⟩ | ⟨hb, h⟩
  · have ht := Nat.eq_of_beq_eq_true hb
    subst ht
    exact (w_X7_chainFirst F l G h).deep (by omega)
  rcases rx_rec_eq h with ⟨hb, h⟩ | ⟨hb, h⟩
  · have ht := Nat.eq_of_beq_eq_true hb
    subst ht
    exact (w_X7_isIn F l G h).deep (by omega)
  rcases rx_rec_eq h with ⟨hb, h⟩ | ⟨hb, h⟩
  · have ht := Nat.eq_of_beq_eq_true hb
    subst ht
    exact (w_X7_isSet F l G h).deep (by omega)
  cases h
theorem m_X7_chain (F : Nat × Nat) (l : Launch) (G : rx_G) (hf : rx_H) (x0 : Nat) (x1 : Int32) (x2 : Int32) (u : Option rx_H) {z : (Int32 × Option rx_H)} (h : f_X7_chain F x0 x1 x2 u = some z) : rx_Ok l G (3 + 0 * F.2) (rx_ny 141) (.code (rx_ny 141) prog_9_method_66_code 6 (some .int)) [.ref x0, .int x1, .int x2] (u.getD hf) (some (.int z.1)) (z.2.getD hf) := by
  have h := h
  unfold f_X7_chain at h
  exact (rx_met (l := l) (G := G) (hf := hf) (as := [.ref x0, .int x1, .int x2]) (r := (some (.int z.1))) (ls0 := [some (.ref x0), some (.int x1), some (.int x2), none, none, none]) (y := rx_ny 141) (D := (2 + 0 * F.2)) (ini := false) (bo := false) (u := u) (u' := z.2) (by decide +kernel) (fun h => by cases h) (Nat.le_of_ble_eq_true rfl) (Or.inl ⟨rfl, rfl, _, rfl⟩) (fun Z hZ hB => rx_RT_hI hZ hB) (by exact ⟨Or.inr rfl, Or.inr rfl, Or.inr rfl, Or.inl rfl, Or.inl rfl, Or.inl rfl, trivial⟩) (s_X7_chain_0 (cc_X7_chain F l G z) x0 x1 x2 u h)).deep (by omega)
theorem w_X7_chain (F : Nat × Nat) (l : Launch) (G : rx_G) {α : Type} {z : α} {as : List Value} {u : Option rx_H} {κ : rx_K α} (h : c_X7_chain F as u κ = some z) : rx_Cw l G (3 + 0 * F.2) 141 as u κ z := by
  unfold c_X7_chain at h
  split at h
  · obtain ⟨r, hr, h⟩ := Option.bind_eq_some_iff.mp h
    exact ⟨_, _, _, _, h, k_X7_chain, fun h => absurd h (by decide), fun _ => ⟨_, _, rfl, rfl⟩, fun hf => m_X7_chain F l G hf _ _ _ _ hr⟩
  · cases h
set_option maxRecDepth 100000 in
theorem k_X7_ring : rx_Cal (rx_ny 201) (.code (rx_ny 201) prog_9_method_67_code 8 (some .int)) (rx_kd 201) 3 := ⟨prog_9_method_67_code, 8, (some .int), Or.inl rfl, rx_in (i := 1048) (by rfl) (by rfl), rx_in (i := 46) (by decide +kernel) (by decide +kernel), ⟨(by decide +kernel), (by decide +kernel), (by decide +kernel)⟩, Nat.le_of_ble_eq_true rfl, fun h => absurd h (by decide), fun _ => ⟨rx_in (i := 1046) (by decide +kernel) (by decide +kernel), rx_in (i := 1047) (by decide +kernel) (by decide +kernel)⟩, fun h => absurd h (by decide)⟩
set_option maxRecDepth 100000 in
theorem tk_X7_ring : (t_X7_ring.all (rx_eok "SetHouseModel" prog_9_method_67_code 8 false false) && rx_adj t_X7_ring) = true := by decide +kernel
theorem s_X7_ring_66 {F : Nat × Nat} {l : Launch} {G : rx_G} {D : Nat} {hf : rx_H} {z : (Int32 × Option rx_H)} (hC : rx_CC l G D (C_X7_ring F) z) {k51 : Nat → Int32 → Int32 → Int32 → Int32 → Option rx_H → Option (Int32 × Option rx_H)} (hk51 : ∀ (x0 : Nat) (x1 : Int32) (x3 : Int32) (x4 : Int32) (x5 : Int32) (u : Option rx_H), k51 x0 x1 x3 x4 x5 u = some z → rx_S l G ("SetHouseModel", prog_9_method_67_code, 8, false, false, D) hf (z.2.getD hf) rx_hI z 51 [some (.ref x0), some (.int x1), none, some (.int x3), some (.int x4), some (.int x5), none, none] [] u) : ∀ (f : Nat) (x0 : Nat) (x1 : Int32) (x3 : Int32) (x4 : Int32) (x5 : Int32) (x6 : Int32) (x7 : Int32) (u : Option rx_H), f_X7_ring_66 F k51 f x0 x1 x3 x4 x5 x6 x7 u = some z → rx_S l G ("SetHouseModel", prog_9_method_67_code, 8, false, false, D) hf (z.2.getD hf) rx_hI z 66 [some (.ref x0), some (.int x1), none, some (.int x3), some (.int x4), some (.int x5), some (.int x6), some (.int x7)] [] u := by
  intro f
  induction f with
  | zero =>
    intro x0 x1 x3 x4 x5 x6 x7 u h
    cases h
  | succ f ih =>
    intro x0 x1 x3 x4 x5 x6 x7 u h
    rw [g_X7_ring_66] at h
    refine rx_S_node (md := ("SetHouseModel", prog_9_method_67_code, 8, false, false, D)) tk_X7_ring hC rx_m_hI (fun t ls st u h => ?_) h
    unfold kk_X7_ring_66 at h
    rcases rx_rec_eq h with ⟨hb, h⟩ | ⟨hb, h⟩
    · have ht := Nat.eq_of_beq_eq_true hb
      subst ht
      unfold n_X7_ring_51 at h
      split at h
      · exact (hk51 _ _ _ _ _ _ h).le ⟨Or.inr rfl, Or.inr rfl, Or.inl rfl, Or.inr rfl, Or.inr rfl, Or.inr rfl, Or.inl rfl, Or.inl rfl, trivial⟩
      · cases h
    rcases rx_rec_eq h with ⟨hb, h⟩ | ⟨hb, h⟩
    · have ht := Nat.eq_of_beq_eq_true hb
      subst ht
      unfold n_X7_ring_66 at h
      split at h
      · exact (ih _ _ _ _ _ _ _ _ h).le ⟨Or.inr rfl, Or.inr rfl, Or.inl rfl, Or.inr rfl, Or.inr rfl, Or.inr rfl, Or.inr rfl, Or.inr rfl, trivial⟩
      · cases h
    cases h
theorem s_X7_ring_51 {F : Nat × Nat} {l : Launch} {G : rx_G} {D : Nat} {hf : rx_H} {z : (Int32 × Option rx_H)} (hC : rx_CC l G D (C_X7_ring F) z) : ∀ (f : Nat) (x0 : Nat) (x1 : Int32) (x3 : Int32) (x4 : Int32) (x5 : Int32) (u : Option rx_H), f_X7_ring_51 F f x0 x1 x3 x4 x5 u = some z → rx_S l G ("SetHouseModel", prog_9_method_67_code, 8, false, false, D) hf (z.2.getD hf) rx_hI z 51 [some (.ref x0), some (.int x1), none, some (.int x3), some (.int x4), some (.int x5), none, none] [] u := by
  intro f
  induction f with
  | zero =>
    intro x0 x1 x3 x4 x5 u h
    cases h
  | succ f ih =>
    intro x0 x1 x3 x4 x5 u h
    rw [g_X7_ring_51] at h
    refine rx_S_node (md := ("SetHouseModel", prog_9_method_67_code, 8, false, false, D)) tk_X7_ring hC rx_m_hI (fun t ls st u h => ?_) h
    unfold kk_X7_ring_51 at h
    rcases rx_rec_eq h with ⟨hb, h⟩ | ⟨hb, h⟩
    · have ht := Nat.eq_of_beq_eq_true hb
      subst ht
      unfold n_X7_ring_66 at h
      split at h
      · exact (s_X7_ring_66 hC ih _ _ _ _ _ _ _ _ _ h).le ⟨Or.inr rfl, Or.inr rfl, Or.inl rfl, Or.inr rfl, Or.inr rfl, Or.inr rfl, Or.inr rfl, Or.inr rfl, trivial⟩
      · cases h
    cases h
theorem s_X7_ring_0 {F : Nat × Nat} {l : Launch} {G : rx_G} {D : Nat} {hf : rx_H} {z : (Int32 × Option rx_H)} (hC : rx_CC l G D (C_X7_ring F) z) (x0 : Nat) (x1 : Int32) (x2 : Int32) (x3 : Int32) (u : Option rx_H) (h : f_X7_ring_0 F x0 x1 x2 x3 u = some z) : rx_S l G ("SetHouseModel", prog_9_method_67_code, 8, false, false, D) hf (z.2.getD hf) rx_hI z 0 [some (.ref x0), some (.int x1), some (.int x2), some (.int x3), none, none, none, none] [] u := by
  rw [g_X7_ring_0] at h
  refine rx_S_node (md := ("SetHouseModel", prog_9_method_67_code, 8, false, false, D)) tk_X7_ring hC rx_m_hI (fun t ls st u h => ?_) h
  unfold kk_X7_ring_0 at h
  rcases rx_rec_eq h with ⟨hb, h⟩ | ⟨hb, h⟩
  · have ht := Nat.eq_of_beq_eq_true hb
    subst ht
    unfold n_X7_ring_51 at h
    split at h
    · exact (s_X7_ring_51 hC _ _ _ _ _ _ _ h).le ⟨Or.inr rfl, Or.inr rfl, Or.inl rfl, Or.inr rfl, Or.inr rfl, Or.inr rfl, Or.inl rfl, Or.inl rfl, trivial⟩
    · cases h
  cases h
theorem cc_X7_ring (F : Nat × Nat) (l : Launch) (G : rx_G) {α : Type} (z : α) : rx_CC l G (2 + 0 * F.2) (C_X7_ring F) z := by
  intro j as u κ h
  unfold C_X7_ring at h
  rcases rx_rec_eq h with ⟨hb, h⟩ | ⟨hb, h⟩
  · have ht := Nat.eq_of_beq_eq_true hb
    subst ht
    exact (w_X7_has F l G h).deep (by omega)
  rcases rx_rec_eq h with ⟨hb, h⟩ | ⟨hb, h⟩
  · have ht := Nat.eq_of_beq_eq_true hb
    subst ht
    exact (w_X7_isIn F l G h).deep (by omega)
  rcases rx_rec_eq h with ⟨hb, h⟩ | ⟨hb, h⟩
  · have ht := Nat.eq_of_beq_eq_true hb
    subst ht
    exact (w_X7_isPlace F l G h).deep (by omega)
  rcases rx_rec_eq h with ⟨hb, h⟩ | ⟨hb, h⟩
  · have ht := Nat.eq_of_beq_eq_true hb
    subst ht
    exact (w_X7_isTurn F l G h).deep (by omega)
  rcases rx_rec_eq h with ⟨hb, h⟩ | ⟨hb, h⟩
  · have ht := Nat.eq_of_beq_eq_true hb
    subst ht
    exact (w_X7_lacks F l G h).deep (by omega)
  cases h
theorem m_X7_ring (F : Nat × Nat) (l : Launch) (G : rx_G) (hf : rx_H) (x0 : Nat) (x1 : Int32) (x2 : Int32) (x3 : Int32) (u : Option rx_H) {z : (Int32 × Option rx_H)} (h : f_X7_ring F x0 x1 x2 x3 u = some z) : rx_Ok l G (3 + 0 * F.2) (rx_ny 201) (.code (rx_ny 201) prog_9_method_67_code 8 (some .int)) [.ref x0, .int x1, .int x2, .int x3] (u.getD hf) (some (.int z.1)) (z.2.getD hf) := by
  have h := h
  unfold f_X7_ring at h
  exact (rx_met (l := l) (G := G) (hf := hf) (as := [.ref x0, .int x1, .int x2, .int x3]) (r := (some (.int z.1))) (ls0 := [some (.ref x0), some (.int x1), some (.int x2), some (.int x3), none, none, none, none]) (y := rx_ny 201) (D := (2 + 0 * F.2)) (ini := false) (bo := false) (u := u) (u' := z.2) (by decide +kernel) (fun h => by cases h) (Nat.le_of_ble_eq_true rfl) (Or.inl ⟨rfl, rfl, _, rfl⟩) (fun Z hZ hB => rx_RT_hI hZ hB) (by exact ⟨Or.inr rfl, Or.inr rfl, Or.inr rfl, Or.inr rfl, Or.inl rfl, Or.inl rfl, Or.inl rfl, Or.inl rfl, trivial⟩) (s_X7_ring_0 (cc_X7_ring F l G z) x0 x1 x2 x3 u h)).deep (by omega)
theorem w_X7_ring (F : Nat × Nat) (l : Launch) (G : rx_G) {α : Type} {z : α} {as : List Value} {u : Option rx_H} {κ : rx_K α} (h : c_X7_ring F as u κ = some z) : rx_Cw l G (3 + 0 * F.2) 201 as u κ z := by
  unfold c_X7_ring at h
  split at h
  · obtain ⟨r, hr, h⟩ := Option.bind_eq_some_iff.mp h
    exact ⟨_, _, _, _, h, k_X7_ring, fun h => absurd h (by decide), fun _ => ⟨_, _, rfl, rfl⟩, fun hf => m_X7_ring F l G hf _ _ _ _ _ hr⟩
  · cases h
set_option maxRecDepth 100000 in
theorem k_X7_weight : rx_Cal (rx_ny 223) (.code (rx_ny 223) prog_9_method_69_code 7 (some .long)) (rx_kd 223) 3 := ⟨prog_9_method_69_code, 7, (some .long), Or.inl rfl, rx_in (i := 1052) (by rfl) (by rfl), rx_in (i := 46) (by decide +kernel) (by decide +kernel), ⟨(by decide +kernel), (by decide +kernel), (by decide +kernel)⟩, Nat.le_of_ble_eq_true rfl, fun h => absurd h (by decide), fun _ => ⟨rx_in (i := 1050) (by decide +kernel) (by decide +kernel), rx_in (i := 1051) (by decide +kernel) (by decide +kernel)⟩, fun h => absurd h (by decide)⟩
set_option maxRecDepth 100000 in
theorem tk_X7_weight : (t_X7_weight.all (rx_eok "SetHouseModel" prog_9_method_69_code 7 false false) && rx_adj t_X7_weight) = true := by decide +kernel
theorem s_X7_weight_51 {F : Nat × Nat} {l : Launch} {G : rx_G} {D : Nat} {hf : rx_H} {z : (Int64 × Option rx_H)} (hC : rx_CC l G D (C_X7_weight F) z) : ∀ (f : Nat) (x0 : Nat) (x1 : Int32) (x2 : Int32) (x3 : Int32) (x4 : Int64) (x6 : Int32) (u : Option rx_H), f_X7_weight_51 F f x0 x1 x2 x3 x4 x6 u = some z → rx_S l G ("SetHouseModel", prog_9_method_69_code, 7, false, false, D) hf (z.2.getD hf) rx_hJ z 51 [some (.ref x0), some (.int x1), some (.int x2), some (.int x3), some (.long x4), none, some (.int x6)] [] u := by
  intro f
  induction f with
  | zero =>
    intro x0 x1 x2 x3 x4 x6 u h
    cases h
  | succ f ih =>
    intro x0 x1 x2 x3 x4 x6 u h
    rw [g_X7_weight_51] at h
    refine rx_S_node (md := ("SetHouseModel", prog_9_method_69_code, 7, false, false, D)) tk_X7_weight hC rx_m_hJ (fun t ls st u h => ?_) h
    unfold kk_X7_weight_51 at h
    rcases rx_rec_eq h with ⟨hb, h⟩ | ⟨hb, h⟩
    · have ht := Nat.eq_of_beq_eq_true hb
      subst ht
      unfold n_X7_weight_51 at h
      split at h
      · exact (ih _ _ _ _ _ _ _ h).le ⟨Or.inr rfl, Or.inr rfl, Or.inr rfl, Or.inr rfl, Or.inr rfl, Or.inl rfl, Or.inr rfl, trivial⟩
      · cases h
    cases h
theorem s_X7_weight_0 {F : Nat × Nat} {l : Launch} {G : rx_G} {D : Nat} {hf : rx_H} {z : (Int64 × Option rx_H)} (hC : rx_CC l G D (C_X7_weight F) z) (x0 : Nat) (x1 : Int32) (x2 : Int32) (x3 : Int32) (u : Option rx_H) (h : f_X7_weight_0 F x0 x1 x2 x3 u = some z) : rx_S l G ("SetHouseModel", prog_9_method_69_code, 7, false, false, D) hf (z.2.getD hf) rx_hJ z 0 [some (.ref x0), some (.int x1), some (.int x2), some (.int x3), none, none, none] [] u := by
  rw [g_X7_weight_0] at h
  refine rx_S_node (md := ("SetHouseModel", prog_9_method_69_code, 7, false, false, D)) tk_X7_weight hC rx_m_hJ (fun t ls st u h => ?_) h
  unfold kk_X7_weight_0 at h
  rcases rx_rec_eq h with ⟨hb, h⟩ | ⟨hb, h⟩
  · have ht := Nat.eq_of_beq_eq_true hb
    subst ht
    unfold n_X7_weight_51 at h
    split at h
    · exact (s_X7_weight_51 hC _ _ _ _ _ _ _ _ h).le ⟨Or.inr rfl, Or.inr rfl, Or.inr rfl, Or.inr rfl, Or.inr rfl, Or.inl rfl, Or.inr rfl, trivial⟩
    · cases h
  cases h
theorem cc_X7_weight (F : Nat × Nat) (l : Launch) (G : rx_G) {α : Type} (z : α) : rx_CC l G (2 + 0 * F.2) (C_X7_weight F) z := by
  intro j as u κ h
  unfold C_X7_weight at h
  rcases rx_rec_eq h with ⟨hb, h⟩ | ⟨hb, h⟩
  · have ht := Nat.eq_of_beq_eq_true hb
    subst ht
    exact (w_X7_has F l G h).deep (by omega)
  rcases rx_rec_eq h with ⟨hb, h⟩ | ⟨hb, h⟩
  · have ht := Nat.eq_of_beq_eq_true hb
    subst ht
    exact (w_X7_isIn F l G h).deep (by omega)
  rcases rx_rec_eq h with ⟨hb, h⟩ | ⟨hb, h⟩
  · have ht := Nat.eq_of_beq_eq_true hb
    subst ht
    exact (w_X7_isPlace F l G h).deep (by omega)
  rcases rx_rec_eq h with ⟨hb, h⟩ | ⟨hb, h⟩
  · have ht := Nat.eq_of_beq_eq_true hb
    subst ht
    exact (w_X7_lacks F l G h).deep (by omega)
  rcases rx_rec_eq h with ⟨hb, h⟩ | ⟨hb, h⟩
  · have ht := Nat.eq_of_beq_eq_true hb
    subst ht
    exact (w_X7_ones F l G h).deep (by omega)
  rcases rx_rec_eq h with ⟨hb, h⟩ | ⟨hb, h⟩
  · have ht := Nat.eq_of_beq_eq_true hb
    subst ht
    exact (w_X7_power F l G h).deep (by omega)
  cases h
theorem m_X7_weight (F : Nat × Nat) (l : Launch) (G : rx_G) (hf : rx_H) (x0 : Nat) (x1 : Int32) (x2 : Int32) (x3 : Int32) (u : Option rx_H) {z : (Int64 × Option rx_H)} (h : f_X7_weight F x0 x1 x2 x3 u = some z) : rx_Ok l G (3 + 0 * F.2) (rx_ny 223) (.code (rx_ny 223) prog_9_method_69_code 7 (some .long)) [.ref x0, .int x1, .int x2, .int x3] (u.getD hf) (some (.long z.1)) (z.2.getD hf) := by
  have h := h
  unfold f_X7_weight at h
  exact (rx_met (l := l) (G := G) (hf := hf) (as := [.ref x0, .int x1, .int x2, .int x3]) (r := (some (.long z.1))) (ls0 := [some (.ref x0), some (.int x1), some (.int x2), some (.int x3), none, none, none]) (y := rx_ny 223) (D := (2 + 0 * F.2)) (ini := false) (bo := false) (u := u) (u' := z.2) (by decide +kernel) (fun h => by cases h) (Nat.le_of_ble_eq_true rfl) (Or.inr (Or.inr (Or.inl ⟨rfl, _, rfl⟩))) (fun Z hZ hB => rx_RT_hJ hZ hB) (by exact ⟨Or.inr rfl, Or.inr rfl, Or.inr rfl, Or.inr rfl, Or.inl rfl, Or.inl rfl, Or.inl rfl, trivial⟩) (s_X7_weight_0 (cc_X7_weight F l G z) x0 x1 x2 x3 u h)).deep (by omega)
theorem w_X7_weight (F : Nat × Nat) (l : Launch) (G : rx_G) {α : Type} {z : α} {as : List Value} {u : Option rx_H} {κ : rx_K α} (h : c_X7_weight F as u κ = some z) : rx_Cw l G (3 + 0 * F.2) 223 as u κ z := by
  unfold c_X7_weight at h
  split at h
  · obtain ⟨r, hr, h⟩ := Option.bind_eq_some_iff.mp h
    exact ⟨_, _, _, _, h, k_X7_weight, fun h => absurd h (by decide), fun _ => ⟨_, _, rfl, rfl⟩, fun hf => m_X7_weight F l G hf _ _ _ _ _ hr⟩
  · cases h
set_option maxRecDepth 100000 in
theorem k_X7_matters : rx_Cal (rx_ny 185) (.code (rx_ny 185) prog_9_method_70_code 5 (some .int)) (rx_kd 185) 2 := ⟨prog_9_method_70_code, 5, (some .int), Or.inl rfl, rx_in (i := 1059) (by rfl) (by rfl), rx_in (i := 46) (by decide +kernel) (by decide +kernel), ⟨(by decide +kernel), (by decide +kernel), (by decide +kernel)⟩, Nat.le_of_ble_eq_true rfl, fun h => absurd h (by decide), fun _ => ⟨rx_in (i := 1057) (by decide +kernel) (by decide +kernel), rx_in (i := 1058) (by decide +kernel) (by decide +kernel)⟩, fun h => absurd h (by decide)⟩
set_option maxRecDepth 100000 in
theorem tk_X7_matters : (t_X7_matters.all (rx_eok "SetHouseModel" prog_9_method_70_code 5 false false) && rx_adj t_X7_matters) = true := by decide +kernel
theorem s_X7_matters_42 {F : Nat × Nat} {l : Launch} {G : rx_G} {D : Nat} {hf : rx_H} {z : (Int32 × Option rx_H)} (hC : rx_CC l G D (C_X7_matters F) z) : ∀ (f : Nat) (x0 : Nat) (x1 : Int32) (x2 : Int32) (x3 : Int32) (x4 : Int32) (u : Option rx_H), f_X7_matters_42 F f x0 x1 x2 x3 x4 u = some z → rx_S l G ("SetHouseModel", prog_9_method_70_code, 5, false, false, D) hf (z.2.getD hf) rx_hI z 42 [some (.ref x0), some (.int x1), some (.int x2), some (.int x3), some (.int x4)] [] u := by
  intro f
  induction f with
  | zero =>
    intro x0 x1 x2 x3 x4 u h
    cases h
  | succ f ih =>
    intro x0 x1 x2 x3 x4 u h
    rw [g_X7_matters_42] at h
    refine rx_S_node (md := ("SetHouseModel", prog_9_method_70_code, 5, false, false, D)) tk_X7_matters hC rx_m_hI (fun t ls st u h => ?_) h
    unfold kk_X7_matters_42 at h
    rcases rx_rec_eq h with ⟨hb, h⟩ | ⟨hb, h⟩
    · have ht := Nat.eq_of_beq_eq_true hb
      subst ht
      unfold n_X7_matters_42 at h
      split at h
      · exact (ih _ _ _ _ _ _ h).le ⟨Or.inr rfl, Or.inr rfl, Or.inr rfl, Or.inr rfl, Or.inr rfl, trivial⟩
      · cases h
    cases h
theorem s_X7_matters_0 {F : Nat × Nat} {l : Launch} {G : rx_G} {D : Nat} {hf : rx_H} {z : (Int32 × Option rx_H)} (hC : rx_CC l G D (C_X7_matters F) z) (x0 : Nat) (x1 : Int32) (x2 : Int32) (u : Option rx_H) (h : f_X7_matters_0 F x0 x1 x2 u = some z) : rx_S l G ("SetHouseModel", prog_9_method_70_code, 5, false, false, D) hf (z.2.getD hf) rx_hI z 0 [some (.ref x0), some (.int x1), some (.int x2), none, none] [] u := by
  rw [g_X7_matters_0] at h
  refine rx_S_node (md := ("SetHouseModel", prog_9_method_70_code, 5, false, false, D)) tk_X7_matters hC rx_m_hI (fun t ls st u h => ?_) h
  unfold kk_X7_matters_0 at h
  rcases rx_rec_eq h with ⟨hb, h⟩ | ⟨hb, h⟩
  · have ht := Nat.eq_of_beq_eq_true hb
    subst ht
    unfold n_X7_matters_42 at h
    split at h
    · exact (s_X7_matters_42 hC _ _ _ _ _ _ _ h).le ⟨Or.inr rfl, Or.inr rfl, Or.inr rfl, Or.inr rfl, Or.inr rfl, trivial⟩
    · cases h
  cases h
theorem cc_X7_matters (F : Nat × Nat) (l : Launch) (G : rx_G) {α : Type} (z : α) : rx_CC l G (2 + 0 * F.2) (C_X7_matters F) z := by
  intro j as u κ h
  unfold C_X7_matters at h
  rcases rx_rec_eq h with ⟨hb, h⟩ | ⟨hb, h⟩
  · have ht := Nat.eq_of_beq_eq_true hb
    subst ht
    exact (w_X7_has F l G h).deep (by omega)
  rcases rx_rec_eq h with ⟨hb, h⟩ | ⟨hb, h⟩
  · have ht := Nat.eq_of_beq_eq_true hb
    subst ht
    exact (w_X7_isIn F l G h).deep (by omega)
  rcases rx_rec_eq h with ⟨hb, h⟩ | ⟨hb, h⟩
  · have ht := Nat.eq_of_beq_eq_true hb
    subst ht
    exact (w_X7_isPlace F l G h).deep (by omega)
  rcases rx_rec_eq h with ⟨hb, h⟩ | ⟨hb, h⟩
  · have ht := Nat.eq_of_beq_eq_true hb
    subst ht
    exact (w_X7_lacks F l G h).deep (by omega)
  cases h
theorem m_X7_matters (F : Nat × Nat) (l : Launch) (G : rx_G) (hf : rx_H) (x0 : Nat) (x1 : Int32) (x2 : Int32) (u : Option rx_H) {z : (Int32 × Option rx_H)} (h : f_X7_matters F x0 x1 x2 u = some z) : rx_Ok l G (3 + 0 * F.2) (rx_ny 185) (.code (rx_ny 185) prog_9_method_70_code 5 (some .int)) [.ref x0, .int x1, .int x2] (u.getD hf) (some (.int z.1)) (z.2.getD hf) := by
  have h := h
  unfold f_X7_matters at h
  exact (rx_met (l := l) (G := G) (hf := hf) (as := [.ref x0, .int x1, .int x2]) (r := (some (.int z.1))) (ls0 := [some (.ref x0), some (.int x1), some (.int x2), none, none]) (y := rx_ny 185) (D := (2 + 0 * F.2)) (ini := false) (bo := false) (u := u) (u' := z.2) (by decide +kernel) (fun h => by cases h) (Nat.le_of_ble_eq_true rfl) (Or.inl ⟨rfl, rfl, _, rfl⟩) (fun Z hZ hB => rx_RT_hI hZ hB) (by exact ⟨Or.inr rfl, Or.inr rfl, Or.inr rfl, Or.inl rfl, Or.inl rfl, trivial⟩) (s_X7_matters_0 (cc_X7_matters F l G z) x0 x1 x2 u h)).deep (by omega)
theorem w_X7_matters (F : Nat × Nat) (l : Launch) (G : rx_G) {α : Type} {z : α} {as : List Value} {u : Option rx_H} {κ : rx_K α} (h : c_X7_matters F as u κ = some z) : rx_Cw l G (3 + 0 * F.2) 185 as u κ z := by
  unfold c_X7_matters at h
  split at h
  · obtain ⟨r, hr, h⟩ := Option.bind_eq_some_iff.mp h
    exact ⟨_, _, _, _, h, k_X7_matters, fun h => absurd h (by decide), fun _ => ⟨_, _, rfl, rfl⟩, fun hf => m_X7_matters F l G hf _ _ _ _ hr⟩
  · cases h
set_option maxRecDepth 100000 in
theorem k_X7_product : rx_Cal (rx_ny 193) (.code (rx_ny 193) prog_9_method_71_code 3 (some .int)) (rx_kd 193) 2 := ⟨prog_9_method_71_code, 3, (some .int), Or.inl rfl, rx_in (i := 1063) (by rfl) (by rfl), rx_in (i := 46) (by decide +kernel) (by decide +kernel), ⟨(by decide +kernel), (by decide +kernel), (by decide +kernel)⟩, Nat.le_of_ble_eq_true rfl, fun h => absurd h (by decide), fun _ => ⟨rx_in (i := 1061) (by decide +kernel) (by decide +kernel), rx_in (i := 1062) (by decide +kernel) (by decide +kernel)⟩, fun h => absurd h (by decide)⟩
set_option maxRecDepth 100000 in
theorem tk_X7_product : (t_X7_product.all (rx_eok "SetHouseModel" prog_9_method_71_code 3 false false) && rx_adj t_X7_product) = true := by decide +kernel
theorem s_X7_product_0 {F : Nat × Nat} {l : Launch} {G : rx_G} {D : Nat} {hf : rx_H} {z : (Int32 × Option rx_H)} (hC : rx_CC l G D (C_X7_product F) z) (x0 : Nat) (x1 : Int32) (x2 : Int32) (u : Option rx_H) (h : f_X7_product_0 F x0 x1 x2 u = some z) : rx_S l G ("SetHouseModel", prog_9_method_71_code, 3, false, false, D) hf (z.2.getD hf) rx_hI z 0 [some (.ref x0), some (.int x1), some (.int x2)] [] u := by
  rw [g_X7_product_0] at h
  refine rx_S_node (md := ("SetHouseModel", prog_9_method_71_code, 3, false, false, D)) tk_X7_product hC rx_m_hI (fun t ls st u h => ?_) h
  unfold kk_X7_product_0 at h
  cases h
theorem cc_X7_product (F : Nat × Nat) (l : Launch) (G : rx_G) {α : Type} (z : α) : rx_CC l G (2 + 0 * F.2) (C_X7_product F) z := by
  intro j as u κ h
  unfold C_X7_product at h
  rcases rx_rec_eq h with ⟨hb, h⟩ | ⟨hb, h⟩
  · have ht := Nat.eq_of_beq_eq_true hb
    subst ht
    exact (w_X7_isPlace F l G h).deep (by omega)
  rcases rx_rec_eq h with ⟨hb, h⟩ | ⟨hb, h⟩
  · have ht := Nat.eq_of_beq_eq_true hb
    subst ht
    exact (w_X7_lacking F l G h).deep (by omega)
  rcases rx_rec_eq h with ⟨hb, h⟩ | ⟨hb, h⟩
  · have ht := Nat.eq_of_beq_eq_true hb
    subst ht
    exact (w_X7_lacks F l G h).deep (by omega)
  rcases rx_rec_eq h with ⟨hb, h⟩ | ⟨hb, h⟩
  · have ht := Nat.eq_of_beq_eq_true hb
    subst ht
    exact (w_X7_many F l G h).deep (by omega)
  cases h
theorem m_X7_product (F : Nat × Nat) (l : Launch) (G : rx_G) (hf : rx_H) (x0 : Nat) (x1 : Int32) (x2 : Int32) (u : Option rx_H) {z : (Int32 × Option rx_H)} (h : f_X7_product F x0 x1 x2 u = some z) : rx_Ok l G (3 + 0 * F.2) (rx_ny 193) (.code (rx_ny 193) prog_9_method_71_code 3 (some .int)) [.ref x0, .int x1, .int x2] (u.getD hf) (some (.int z.1)) (z.2.getD hf) := by
  have h := h
  unfold f_X7_product at h
  exact (rx_met (l := l) (G := G) (hf := hf) (as := [.ref x0, .int x1, .int x2]) (r := (some (.int z.1))) (ls0 := [some (.ref x0), some (.int x1), some (.int x2)]) (y := rx_ny 193) (D := (2 + 0 * F.2)) (ini := false) (bo := false) (u := u) (u' := z.2) (by decide +kernel) (fun h => by cases h) (Nat.le_of_ble_eq_true rfl) (Or.inl ⟨rfl, rfl, _, rfl⟩) (fun Z hZ hB => rx_RT_hI hZ hB) (by exact ⟨Or.inr rfl, Or.inr rfl, Or.inr rfl, trivial⟩) (s_X7_product_0 (cc_X7_product F l G z) x0 x1 x2 u h)).deep (by omega)
theorem w_X7_product (F : Nat × Nat) (l : Launch) (G : rx_G) {α : Type} {z : α} {as : List Value} {u : Option rx_H} {κ : rx_K α} (h : c_X7_product F as u κ = some z) : rx_Cw l G (3 + 0 * F.2) 193 as u κ z := by
  unfold c_X7_product at h
  split at h
  · obtain ⟨r, hr, h⟩ := Option.bind_eq_some_iff.mp h
    exact ⟨_, _, _, _, h, k_X7_product, fun h => absurd h (by decide), fun _ => ⟨_, _, rfl, rfl⟩, fun hf => m_X7_product F l G hf _ _ _ _ hr⟩
  · cases h
set_option maxRecDepth 100000 in
theorem k_X7_blooms : rx_Cal (rx_ny 139) (.code (rx_ny 139) prog_9_method_72_code 10 (some .boolean)) (rx_kd 139) 4 := ⟨prog_9_method_72_code, 10, (some .boolean), Or.inl rfl, rx_in (i := 1071) (by rfl) (by rfl), rx_in (i := 46) (by decide +kernel) (by decide +kernel), ⟨(by decide +kernel), (by decide +kernel), (by decide +kernel)⟩, Nat.le_of_ble_eq_true rfl, fun h => absurd h (by decide), fun _ => ⟨rx_in (i := 1070) (by decide +kernel) (by decide +kernel), rx_in (i := 36) (by decide +kernel) (by decide +kernel)⟩, fun h => absurd h (by decide)⟩
set_option maxRecDepth 100000 in
theorem tk_X7_blooms : (t_X7_blooms.all (rx_eok "SetHouseModel" prog_9_method_72_code 10 false true) && rx_adj t_X7_blooms) = true := by decide +kernel
theorem s_X7_blooms_112 {F : Nat × Nat} {d : Nat} {l : Launch} {G : rx_G} {D : Nat} {hf : rx_H} {z : (Int32 × Option rx_H)} (hC : rx_CC l G D (C_X7_blooms F d) z) {k12 : Nat → Int64 → Int32 → Int32 → Int32 → Option rx_H → Option (Int32 × Option rx_H)} (hk12 : ∀ (x0 : Nat) (x1 : Int64) (x3 : Int32) (x5 : Int32) (x6 : Int32) (u : Option rx_H), k12 x0 x1 x3 x5 x6 u = some z → rx_S l G ("SetHouseModel", prog_9_method_72_code, 10, false, true, D) hf (z.2.getD hf) rx_hI z 12 [some (.ref x0), some (.long x1), none, some (.int x3), none, some (.int x5), some (.int x6), none, none, none] [] u) (x0 : Nat) (x1 : Int64) (x3 : Int32) (x5 : Int32) (x6 : Int32) (x7 : Int32) (u : Option rx_H) (h : f_X7_blooms_112 F (f_X7_blooms F d) k12 x0 x1 x3 x5 x6 x7 u = some z) : rx_S l G ("SetHouseModel", prog_9_method_72_code, 10, false, true, D) hf (z.2.getD hf) rx_hI z 112 [some (.ref x0), some (.long x1), none, some (.int x3), none, some (.int x5), some (.int x6), some (.int x7), none, none] [] u := by
  rw [g_X7_blooms_112] at h
  refine rx_S_node (md := ("SetHouseModel", prog_9_method_72_code, 10, false, true, D)) tk_X7_blooms hC rx_m_hI (fun t ls st u h => ?_) h
  unfold kk_X7_blooms_112 at h
  rcases rx_rec_eq h with ⟨hb, h⟩ | ⟨hb, h⟩
  · have ht := Nat.eq_of_beq_eq_true hb
    subst ht
    unfold n_X7_blooms_12 at h
    split at h
    · exact (hk12 _ _ _ _ _ _ h).le ⟨Or.inr rfl, Or.inr rfl, Or.inl rfl, Or.inr rfl, Or.inl rfl, Or.inr rfl, Or.inr rfl, Or.inl rfl, Or.inl rfl, Or.inl rfl, trivial⟩
    · cases h
  cases h
theorem s_X7_blooms_73 {F : Nat × Nat} {d : Nat} {l : Launch} {G : rx_G} {D : Nat} {hf : rx_H} {z : (Int32 × Option rx_H)} (hC : rx_CC l G D (C_X7_blooms F d) z) {k12 : Nat → Int64 → Int32 → Int32 → Int32 → Option rx_H → Option (Int32 × Option rx_H)} (hk12 : ∀ (x0 : Nat) (x1 : Int64) (x3 : Int32) (x5 : Int32) (x6 : Int32) (u : Option rx_H), k12 x0 x1 x3 x5 x6 u = some z → rx_S l G ("SetHouseModel", prog_9_method_72_code, 10, false, true, D) hf (z.2.getD hf) rx_hI z 12 [some (.ref x0), some (.long x1), none, some (.int x3), none, some (.int x5), some (.int x6), none, none, none] [] u) : ∀ (f : Nat) (x0 : Nat) (x1 : Int64) (x3 : Int32) (x5 : Int32) (x6 : Int32) (x7 : Int32) (x8 : Int32) (x9 : Int32) (u : Option rx_H), f_X7_blooms_73 F (f_X7_blooms F d) k12 f x0 x1 x3 x5 x6 x7 x8 x9 u = some z → rx_S l G ("SetHouseModel", prog_9_method_72_code, 10, false, true, D) hf (z.2.getD hf) rx_hI z 73 [some (.ref x0), some (.long x1), none, some (.int x3), none, some (.int x5), some (.int x6), some (.int x7), some (.int x8), some (.int x9)] [] u := by
  intro f
  induction f with
  | zero =>
    intro x0 x1 x3 x5 x6 x7 x8 x9 u h
    cases h
  | succ f ih =>
    intro x0 x1 x3 x5 x6 x7 x8 x9 u h
    rw [g_X7_blooms_73] at h
    refine rx_S_node (md := ("SetHouseModel", prog_9_method_72_code, 10, false, true, D)) tk_X7_blooms hC rx_m_hI (fun t ls st u h => ?_) h
    unfold kk_X7_blooms_73 at h
    rcases rx_rec_eq h with ⟨hb, h⟩ | ⟨hb, h⟩
    · have ht := Nat.eq_of_beq_eq_true hb
      subst ht
      unfold n_X7_blooms_73 at h
      split at h
      · exact (ih _ _ _ _ _ _ _ _ _ h).le ⟨Or.inr rfl, Or.inr rfl, Or.inl rfl, Or.inr rfl, Or.inl rfl, Or.inr rfl, Or.inr rfl, Or.inr rfl, Or.inr rfl, Or.inr rfl, trivial⟩
      · cases h
    rcases rx_rec_eq h with ⟨hb, h⟩ | ⟨hb, h⟩
    · have ht := Nat.eq_of_beq_eq_true hb
      subst ht
      unfold n_X7_blooms_112 at h
      split at h
      · exact (s_X7_blooms_112 hC hk12 _ _ _ _ _ _ _ h).le ⟨Or.inr rfl, Or.inr rfl, Or.inl rfl, Or.inr rfl, Or.inl rfl, Or.inr rfl, Or.inr rfl, Or.inr rfl, Or.inl rfl, Or.inl rfl, trivial⟩
      · cases h
    cases h
theorem s_X7_blooms_12 {F : Nat × Nat} {d : Nat} {l : Launch} {G : rx_G} {D : Nat} {hf : rx_H} {z : (Int32 × Option rx_H)} (hC : rx_CC l G D (C_X7_blooms F d) z) : ∀ (f : Nat) (x0 : Nat) (x1 : Int64) (x3 : Int32) (x5 : Int32) (x6 : Int32) (u : Option rx_H), f_X7_blooms_12 F (f_X7_blooms F d) f x0 x1 x3 x5 x6 u = some z → rx_S l G ("SetHouseModel", prog_9_method_72_code, 10, false, true, D) hf (z.2.getD hf) rx_hI z 12 [some (.ref x0), some (.long x1), none, some (.int x3), none, some (.int x5), some (.int x6), none, none, none] [] u := by
  intro f
  induction f with
  | zero =>
    intro x0 x1 x3 x5 x6 u h
    cases h
  | succ f ih =>
    intro x0 x1 x3 x5 x6 u h
    rw [g_X7_blooms_12] at h
    refine rx_S_node (md := ("SetHouseModel", prog_9_method_72_code, 10, false, true, D)) tk_X7_blooms hC rx_m_hI (fun t ls st u h => ?_) h
    unfold kk_X7_blooms_12 at h
    rcases rx_rec_eq h with ⟨hb, h⟩ | ⟨hb, h⟩
    · have ht := Nat.eq_of_beq_eq_true hb
      subst ht
      unfold n_X7_blooms_73 at h
      split at h
      · exact (s_X7_blooms_73 hC ih _ _ _ _ _ _ _ _ _ _ h).le ⟨Or.inr rfl, Or.inr rfl, Or.inl rfl, Or.inr rfl, Or.inl rfl, Or.inr rfl, Or.inr rfl, Or.inr rfl, Or.inr rfl, Or.inr rfl, trivial⟩
      · cases h
    cases h
theorem s_X7_blooms_0 {F : Nat × Nat} {d : Nat} {l : Launch} {G : rx_G} {D : Nat} {hf : rx_H} {z : (Int32 × Option rx_H)} (hC : rx_CC l G D (C_X7_blooms F d) z) (x0 : Nat) (x1 : Int64) (x3 : Int32) (x4 : Int32) (x5 : Int32) (u : Option rx_H) (h : f_X7_blooms_0 F (f_X7_blooms F d) x0 x1 x3 x4 x5 u = some z) : rx_S l G ("SetHouseModel", prog_9_method_72_code, 10, false, true, D) hf (z.2.getD hf) rx_hI z 0 [some (.ref x0), some (.long x1), none, some (.int x3), some (.int x4), some (.int x5), none, none, none, none] [] u := by
  rw [g_X7_blooms_0] at h
  refine rx_S_node (md := ("SetHouseModel", prog_9_method_72_code, 10, false, true, D)) tk_X7_blooms hC rx_m_hI (fun t ls st u h => ?_) h
  unfold kk_X7_blooms_0 at h
  rcases rx_rec_eq h with ⟨hb, h⟩ | ⟨hb, h⟩
  · have ht := Nat.eq_of_beq_eq_true hb
    subst ht
    unfold n_X7_blooms_12 at h
    split at h
    · exact (s_X7_blooms_12 hC _ _ _ _ _ _ _ h).le ⟨Or.inr rfl, Or.inr rfl, Or.inl rfl, Or.inr rfl, Or.inl rfl, Or.inr rfl, Or.inr rfl, Or.inl rfl, Or.inl rfl, Or.inl rfl, trivial⟩
    · cases h
  cases h
theorem cc_X7_blooms (F : Nat × Nat) (d : Nat) (l : Launch) (G : rx_G) (hs : ∀ {α : Type} {z : α} {as : List Value} {u : Option rx_H} {κ : rx_K α}, c_X7_blooms F d as u κ = some z → rx_Cw l G (1 + d) 139 as u κ z) {α : Type} (z : α) : rx_CC l G (1 + d) (C_X7_blooms F d) z := by
  intro j as u κ h
  unfold C_X7_blooms at h
  rcases rx_rec_eq h with ⟨hb, h⟩ | ⟨hb, h⟩
  · have ht := Nat.eq_of_beq_eq_true hb
    subst ht
    exact hs h
  rcases rx_rec_eq h with ⟨hb, h⟩ | ⟨hb, h⟩
  · have ht := Nat.eq_of_beq_eq_true hb
    subst ht
    exact (w_X7_has F l G h).deep (by omega)
  cases h
theorem m_X7_blooms (F : Nat × Nat) (l : Launch) (G : rx_G) : ∀ (d : Nat) (hf : rx_H) (x0 : Nat) (x1 : Int64) (x3 : Int32) (x4 : Int32) (x5 : Int32) (u : Option rx_H) (z : (Int32 × Option rx_H)), f_X7_blooms F d x0 x1 x3 x4 x5 u = some z → rx_Ok l G (1 + d) (rx_ny 139) (.code (rx_ny 139) prog_9_method_72_code 10 (some .boolean)) [.ref x0, .long x1, .int x3, .int x4, .int x5] (u.getD hf) (some (.int z.1)) (z.2.getD hf) := by
  intro d
  induction d with
  | zero =>
    intro hf x0 x1 x3 x4 x5 u z h
    cases h
  | succ d ih =>
    intro hf x0 x1 x3 x4 x5 u z h
    have hs : ∀ {α : Type} {z : α} {as : List Value} {u : Option rx_H} {κ : rx_K α}, c_X7_blooms F d as u κ = some z → rx_Cw l G (1 + d) 139 as u κ z := by
      intro α z as u κ h
      unfold c_X7_blooms at h
      split at h
      · obtain ⟨r, hr, h⟩ := Option.bind_eq_some_iff.mp h
        exact ⟨_, _, _, _, h, k_X7_blooms, fun h => absurd h (by decide), fun _ => ⟨_, _, rfl, rfl⟩, fun hf => ih hf _ _ _ _ _ _ _ hr⟩
      · cases h
    exact (rx_met (l := l) (G := G) (hf := hf) (as := [.ref x0, .long x1, .int x3, .int x4, .int x5]) (r := (some (.int z.1))) (ls0 := [some (.ref x0), some (.long x1), none, some (.int x3), some (.int x4), some (.int x5), none, none, none, none]) (y := rx_ny 139) (D := (1 + d)) (ini := false) (bo := true) (u := u) (u' := z.2) (by decide +kernel) (fun h => by cases h) (Nat.le_of_ble_eq_true rfl) (Or.inr (Or.inl ⟨rfl, rfl, _, rfl⟩)) (fun Z hZ hB => rx_RT_hI hZ hB) (by exact ⟨Or.inr rfl, Or.inr rfl, Or.inl rfl, Or.inr rfl, Or.inr rfl, Or.inr rfl, Or.inl rfl, Or.inl rfl, Or.inl rfl, Or.inl rfl, trivial⟩) (s_X7_blooms_0 (cc_X7_blooms F d l G hs z) x0 x1 x3 x4 x5 u h)).deep (by omega)
theorem w_X7_blooms (F : Nat × Nat) (l : Launch) (G : rx_G) {α : Type} {z : α} {as : List Value} {u : Option rx_H} {κ : rx_K α} (h : c_X7_blooms F F.2 as u κ = some z) : rx_Cw l G (1 + 1 * F.2) 139 as u κ z := by
  unfold c_X7_blooms at h
  split at h
  · obtain ⟨r, hr, h⟩ := Option.bind_eq_some_iff.mp h
    exact ⟨_, _, _, _, h, k_X7_blooms, fun h => absurd h (by decide), fun _ => ⟨_, _, rfl, rfl⟩, fun hf => (m_X7_blooms F l G F.2 hf _ _ _ _ _ _ _ hr).deep (by omega)⟩
  · cases h
set_option maxRecDepth 100000 in
theorem k_X7_flower : rx_Cal (rx_ny 159) (.code (rx_ny 159) prog_9_method_73_code 4 (some .int)) (rx_kd 159) 2 := ⟨prog_9_method_73_code, 4, (some .int), Or.inl rfl, rx_in (i := 1067) (by rfl) (by rfl), rx_in (i := 46) (by decide +kernel) (by decide +kernel), ⟨(by decide +kernel), (by decide +kernel), (by decide +kernel)⟩, Nat.le_of_ble_eq_true rfl, fun h => absurd h (by decide), fun _ => ⟨rx_in (i := 1065) (by decide +kernel) (by decide +kernel), rx_in (i := 1066) (by decide +kernel) (by decide +kernel)⟩, fun h => absurd h (by decide)⟩
set_option maxRecDepth 100000 in
theorem tk_X7_flower : (t_X7_flower.all (rx_eok "SetHouseModel" prog_9_method_73_code 4 false false) && rx_adj t_X7_flower) = true := by decide +kernel
theorem s_X7_flower_58 {F : Nat × Nat} {l : Launch} {G : rx_G} {D : Nat} {hf : rx_H} {z : (Int32 × Option rx_H)} (hC : rx_CC l G D (C_X7_flower F) z) : ∀ (f : Nat) (x0 : Nat) (x2 : Int32) (x3 : Int32) (u : Option rx_H), f_X7_flower_58 F f x0 x2 x3 u = some z → rx_S l G ("SetHouseModel", prog_9_method_73_code, 4, false, false, D) hf (z.2.getD hf) rx_hI z 58 [some (.ref x0), none, some (.int x2), some (.int x3)] [] u := by
  intro f
  induction f with
  | zero =>
    intro x0 x2 x3 u h
    cases h
  | succ f ih =>
    intro x0 x2 x3 u h
    rw [g_X7_flower_58] at h
    refine rx_S_node (md := ("SetHouseModel", prog_9_method_73_code, 4, false, false, D)) tk_X7_flower hC rx_m_hI (fun t ls st u h => ?_) h
    unfold kk_X7_flower_58 at h
    rcases rx_rec_eq h with ⟨hb, h⟩ | ⟨hb, h⟩
    · have ht := Nat.eq_of_beq_eq_true hb
      subst ht
      unfold n_X7_flower_58 at h
      split at h
      · exact (ih _ _ _ _ h).le ⟨Or.inr rfl, Or.inl rfl, Or.inr rfl, Or.inr rfl, trivial⟩
      · cases h
    cases h
theorem s_X7_flower_0 {F : Nat × Nat} {l : Launch} {G : rx_G} {D : Nat} {hf : rx_H} {z : (Int32 × Option rx_H)} (hC : rx_CC l G D (C_X7_flower F) z) (x0 : Nat) (x1 : Int32) (x2 : Int32) (u : Option rx_H) (h : f_X7_flower_0 F x0 x1 x2 u = some z) : rx_S l G ("SetHouseModel", prog_9_method_73_code, 4, false, false, D) hf (z.2.getD hf) rx_hI z 0 [some (.ref x0), some (.int x1), some (.int x2), none] [] u := by
  rw [g_X7_flower_0] at h
  refine rx_S_node (md := ("SetHouseModel", prog_9_method_73_code, 4, false, false, D)) tk_X7_flower hC rx_m_hI (fun t ls st u h => ?_) h
  unfold kk_X7_flower_0 at h
  rcases rx_rec_eq h with ⟨hb, h⟩ | ⟨hb, h⟩
  · have ht := Nat.eq_of_beq_eq_true hb
    subst ht
    unfold n_X7_flower_58 at h
    split at h
    · exact (s_X7_flower_58 hC _ _ _ _ _ h).le ⟨Or.inr rfl, Or.inl rfl, Or.inr rfl, Or.inr rfl, trivial⟩
    · cases h
  cases h
theorem cc_X7_flower (F : Nat × Nat) (l : Launch) (G : rx_G) {α : Type} (z : α) : rx_CC l G (2 + 1 * F.2) (C_X7_flower F) z := by
  intro j as u κ h
  unfold C_X7_flower at h
  rcases rx_rec_eq h with ⟨hb, h⟩ | ⟨hb, h⟩
  · have ht := Nat.eq_of_beq_eq_true hb
    subst ht
    exact (w_X7_blooms F l G h).deep (by omega)
  rcases rx_rec_eq h with ⟨hb, h⟩ | ⟨hb, h⟩
  · have ht := Nat.eq_of_beq_eq_true hb
    subst ht
    exact (w_X7_isIn F l G h).deep (by omega)
  rcases rx_rec_eq h with ⟨hb, h⟩ | ⟨hb, h⟩
  · have ht := Nat.eq_of_beq_eq_true hb
    subst ht
    exact (w_X7_isPlace F l G h).deep (by omega)
  rcases rx_rec_eq h with ⟨hb, h⟩ | ⟨hb, h⟩
  · have ht := Nat.eq_of_beq_eq_true hb
    subst ht
    exact (w_X7_lacks F l G h).deep (by omega)
  cases h
theorem m_X7_flower (F : Nat × Nat) (l : Launch) (G : rx_G) (hf : rx_H) (x0 : Nat) (x1 : Int32) (x2 : Int32) (u : Option rx_H) {z : (Int32 × Option rx_H)} (h : f_X7_flower F x0 x1 x2 u = some z) : rx_Ok l G (3 + 1 * F.2) (rx_ny 159) (.code (rx_ny 159) prog_9_method_73_code 4 (some .int)) [.ref x0, .int x1, .int x2] (u.getD hf) (some (.int z.1)) (z.2.getD hf) := by
  have h := h
  unfold f_X7_flower at h
  exact (rx_met (l := l) (G := G) (hf := hf) (as := [.ref x0, .int x1, .int x2]) (r := (some (.int z.1))) (ls0 := [some (.ref x0), some (.int x1), some (.int x2), none]) (y := rx_ny 159) (D := (2 + 1 * F.2)) (ini := false) (bo := false) (u := u) (u' := z.2) (by decide +kernel) (fun h => by cases h) (Nat.le_of_ble_eq_true rfl) (Or.inl ⟨rfl, rfl, _, rfl⟩) (fun Z hZ hB => rx_RT_hI hZ hB) (by exact ⟨Or.inr rfl, Or.inr rfl, Or.inr rfl, Or.inl rfl, trivial⟩) (s_X7_flower_0 (cc_X7_flower F l G z) x0 x1 x2 u h)).deep (by omega)
theorem w_X7_flower (F : Nat × Nat) (l : Launch) (G : rx_G) {α : Type} {z : α} {as : List Value} {u : Option rx_H} {κ : rx_K α} (h : c_X7_flower F as u κ = some z) : rx_Cw l G (3 + 1 * F.2) 159 as u κ z := by
  unfold c_X7_flower at h
  split at h
  · obtain ⟨r, hr, h⟩ := Option.bind_eq_some_iff.mp h
    exact ⟨_, _, _, _, h, k_X7_flower, fun h => absurd h (by decide), fun _ => ⟨_, _, rfl, rfl⟩, fun hf => m_X7_flower F l G hf _ _ _ _ hr⟩
  · cases h
set_option maxRecDepth 100000 in
theorem k_X7_petal : rx_Cal (rx_ny 191) (.code (rx_ny 191) prog_9_method_74_code 2 (some .int)) (rx_kd 191) 1 := ⟨prog_9_method_74_code, 2, (some .int), Or.inl rfl, rx_in (i := 1075) (by rfl) (by rfl), rx_in (i := 46) (by decide +kernel) (by decide +kernel), ⟨(by decide +kernel), (by decide +kernel), (by decide +kernel)⟩, Nat.le_of_ble_eq_true rfl, fun h => absurd h (by decide), fun _ => ⟨rx_in (i := 1073) (by decide +kernel) (by decide +kernel), rx_in (i := 1074) (by decide +kernel) (by decide +kernel)⟩, fun h => absurd h (by decide)⟩
set_option maxRecDepth 100000 in
theorem tk_X7_petal : (t_X7_petal.all (rx_eok "SetHouseModel" prog_9_method_74_code 2 false false) && rx_adj t_X7_petal) = true := by decide +kernel
theorem s_X7_petal_0 {F : Nat × Nat} {l : Launch} {G : rx_G} {D : Nat} {hf : rx_H} {z : (Int32 × Option rx_H)} (hC : rx_CC l G D (C_X7_petal F) z) (x0 : Nat) (x1 : Int32) (u : Option rx_H) (h : f_X7_petal_0 F x0 x1 u = some z) : rx_S l G ("SetHouseModel", prog_9_method_74_code, 2, false, false, D) hf (z.2.getD hf) rx_hI z 0 [some (.ref x0), some (.int x1)] [] u := by
  rw [g_X7_petal_0] at h
  refine rx_S_node (md := ("SetHouseModel", prog_9_method_74_code, 2, false, false, D)) tk_X7_petal hC rx_m_hI (fun t ls st u h => ?_) h
  unfold kk_X7_petal_0 at h
  cases h
theorem cc_X7_petal (F : Nat × Nat) (l : Launch) (G : rx_G) {α : Type} (z : α) : rx_CC l G (1 + 0 * F.2) (C_X7_petal F) z := by
  intro j as u κ h
  unfold C_X7_petal at h
  rcases rx_rec_eq h with ⟨hb, h⟩ | ⟨hb, h⟩
  · have ht := Nat.eq_of_beq_eq_true hb
    subst ht
    exact (w_X7_isIn F l G h).deep (by omega)
  cases h
theorem m_X7_petal (F : Nat × Nat) (l : Launch) (G : rx_G) (hf : rx_H) (x0 : Nat) (x1 : Int32) (u : Option rx_H) {z : (Int32 × Option rx_H)} (h : f_X7_petal F x0 x1 u = some z) : rx_Ok l G (2 + 0 * F.2) (rx_ny 191) (.code (rx_ny 191) prog_9_method_74_code 2 (some .int)) [.ref x0, .int x1] (u.getD hf) (some (.int z.1)) (z.2.getD hf) := by
  have h := h
  unfold f_X7_petal at h
  exact (rx_met (l := l) (G := G) (hf := hf) (as := [.ref x0, .int x1]) (r := (some (.int z.1))) (ls0 := [some (.ref x0), some (.int x1)]) (y := rx_ny 191) (D := (1 + 0 * F.2)) (ini := false) (bo := false) (u := u) (u' := z.2) (by decide +kernel) (fun h => by cases h) (Nat.le_of_ble_eq_true rfl) (Or.inl ⟨rfl, rfl, _, rfl⟩) (fun Z hZ hB => rx_RT_hI hZ hB) (by exact ⟨Or.inr rfl, Or.inr rfl, trivial⟩) (s_X7_petal_0 (cc_X7_petal F l G z) x0 x1 u h)).deep (by omega)
theorem w_X7_petal (F : Nat × Nat) (l : Launch) (G : rx_G) {α : Type} {z : α} {as : List Value} {u : Option rx_H} {κ : rx_K α} (h : c_X7_petal F as u κ = some z) : rx_Cw l G (2 + 0 * F.2) 191 as u κ z := by
  unfold c_X7_petal at h
  split at h
  · obtain ⟨r, hr, h⟩ := Option.bind_eq_some_iff.mp h
    exact ⟨_, _, _, _, h, k_X7_petal, fun h => absurd h (by decide), fun _ => ⟨_, _, rfl, rfl⟩, fun hf => m_X7_petal F l G hf _ _ _ hr⟩
  · cases h
set_option maxRecDepth 100000 in
theorem k_X7_cover : rx_Cal (rx_ny 149) (.code (rx_ny 149) prog_9_method_75_code 6 (some .int)) (rx_kd 149) 1 := ⟨prog_9_method_75_code, 6, (some .int), Or.inl rfl, rx_in (i := 1079) (by rfl) (by rfl), rx_in (i := 46) (by decide +kernel) (by decide +kernel), ⟨(by decide +kernel), (by decide +kernel), (by decide +kernel)⟩, Nat.le_of_ble_eq_true rfl, fun h => absurd h (by decide), fun _ => ⟨rx_in (i := 1077) (by decide +kernel) (by decide +kernel), rx_in (i := 1078) (by decide +kernel) (by decide +kernel)⟩, fun h => absurd h (by decide)⟩
set_option maxRecDepth 100000 in
theorem tk_X7_cover : (t_X7_cover.all (rx_eok "SetHouseModel" prog_9_method_75_code 6 false false) && rx_adj t_X7_cover) = true := by decide +kernel
theorem s_X7_cover_109 {F : Nat × Nat} {l : Launch} {G : rx_G} {D : Nat} {hf : rx_H} {z : (Int32 × Option rx_H)} (hC : rx_CC l G D (C_X7_cover F) z) {k28 : Nat → Int32 → Int32 → Int32 → Option rx_H → Option (Int32 × Option rx_H)} (hk28 : ∀ (x0 : Nat) (x1 : Int32) (x2 : Int32) (x3 : Int32) (u : Option rx_H), k28 x0 x1 x2 x3 u = some z → rx_S l G ("SetHouseModel", prog_9_method_75_code, 6, false, false, D) hf (z.2.getD hf) rx_hI z 28 [some (.ref x0), some (.int x1), some (.int x2), some (.int x3), none, none] [] u) (x0 : Nat) (x1 : Int32) (x2 : Int32) (x3 : Int32) (x4 : Int32) (u : Option rx_H) (h : f_X7_cover_109 F k28 x0 x1 x2 x3 x4 u = some z) : rx_S l G ("SetHouseModel", prog_9_method_75_code, 6, false, false, D) hf (z.2.getD hf) rx_hI z 109 [some (.ref x0), some (.int x1), some (.int x2), some (.int x3), some (.int x4), none] [] u := by
  rw [g_X7_cover_109] at h
  refine rx_S_node (md := ("SetHouseModel", prog_9_method_75_code, 6, false, false, D)) tk_X7_cover hC rx_m_hI (fun t ls st u h => ?_) h
  unfold kk_X7_cover_109 at h
  rcases rx_rec_eq h with ⟨hb, h⟩ | ⟨hb, h⟩
  · have ht := Nat.eq_of_beq_eq_true hb
    subst ht
    unfold n_X7_cover_28 at h
    split at h
    · exact (hk28 _ _ _ _ _ h).le ⟨Or.inr rfl, Or.inr rfl, Or.inr rfl, Or.inr rfl, Or.inl rfl, Or.inl rfl, trivial⟩
    · cases h
  cases h
theorem s_X7_cover_61 {F : Nat × Nat} {l : Launch} {G : rx_G} {D : Nat} {hf : rx_H} {z : (Int32 × Option rx_H)} (hC : rx_CC l G D (C_X7_cover F) z) {k28 : Nat → Int32 → Int32 → Int32 → Option rx_H → Option (Int32 × Option rx_H)} (hk28 : ∀ (x0 : Nat) (x1 : Int32) (x2 : Int32) (x3 : Int32) (u : Option rx_H), k28 x0 x1 x2 x3 u = some z → rx_S l G ("SetHouseModel", prog_9_method_75_code, 6, false, false, D) hf (z.2.getD hf) rx_hI z 28 [some (.ref x0), some (.int x1), some (.int x2), some (.int x3), none, none] [] u) : ∀ (f : Nat) (x0 : Nat) (x1 : Int32) (x2 : Int32) (x3 : Int32) (x4 : Int32) (x5 : Int32) (u : Option rx_H), f_X7_cover_61 F k28 f x0 x1 x2 x3 x4 x5 u = some z → rx_S l G ("SetHouseModel", prog_9_method_75_code, 6, false, false, D) hf (z.2.getD hf) rx_hI z 61 [some (.ref x0), some (.int x1), some (.int x2), some (.int x3), some (.int x4), some (.int x5)] [] u := by
  intro f
  induction f with
  | zero =>
    intro x0 x1 x2 x3 x4 x5 u h
    cases h
  | succ f ih =>
    intro x0 x1 x2 x3 x4 x5 u h
    rw [g_X7_cover_61] at h
    refine rx_S_node (md := ("SetHouseModel", prog_9_method_75_code, 6, false, false, D)) tk_X7_cover hC rx_m_hI (fun t ls st u h => ?_) h
    unfold kk_X7_cover_61 at h
    rcases rx_rec_eq h with ⟨hb, h⟩ | ⟨hb, h⟩
    · have ht := Nat.eq_of_beq_eq_true hb
      subst ht
      unfold n_X7_cover_61 at h
      split at h
      · exact (ih _ _ _ _ _ _ _ h).le ⟨Or.inr rfl, Or.inr rfl, Or.inr rfl, Or.inr rfl, Or.inr rfl, Or.inr rfl, trivial⟩
      · cases h
    rcases rx_rec_eq h with ⟨hb, h⟩ | ⟨hb, h⟩
    · have ht := Nat.eq_of_beq_eq_true hb
      subst ht
      unfold n_X7_cover_109 at h
      split at h
      · exact (s_X7_cover_109 hC hk28 _ _ _ _ _ _ h).le ⟨Or.inr rfl, Or.inr rfl, Or.inr rfl, Or.inr rfl, Or.inr rfl, Or.inl rfl, trivial⟩
      · cases h
    cases h
theorem s_X7_cover_28 {F : Nat × Nat} {l : Launch} {G : rx_G} {D : Nat} {hf : rx_H} {z : (Int32 × Option rx_H)} (hC : rx_CC l G D (C_X7_cover F) z) : ∀ (f : Nat) (x0 : Nat) (x1 : Int32) (x2 : Int32) (x3 : Int32) (u : Option rx_H), f_X7_cover_28 F f x0 x1 x2 x3 u = some z → rx_S l G ("SetHouseModel", prog_9_method_75_code, 6, false, false, D) hf (z.2.getD hf) rx_hI z 28 [some (.ref x0), some (.int x1), some (.int x2), some (.int x3), none, none] [] u := by
  intro f
  induction f with
  | zero =>
    intro x0 x1 x2 x3 u h
    cases h
  | succ f ih =>
    intro x0 x1 x2 x3 u h
    rw [g_X7_cover_28] at h
    refine rx_S_node (md := ("SetHouseModel", prog_9_method_75_code, 6, false, false, D)) tk_X7_cover hC rx_m_hI (fun t ls st u h => ?_) h
    unfold kk_X7_cover_28 at h
    rcases rx_rec_eq h with ⟨hb, h⟩ | ⟨hb, h⟩
    · have ht := Nat.eq_of_beq_eq_true hb
      subst ht
      unfold n_X7_cover_61 at h
      split at h
      · exact (s_X7_cover_61 hC ih _ _ _ _ _ _ _ _ h).le ⟨Or.inr rfl, Or.inr rfl, Or.inr rfl, Or.inr rfl, Or.inr rfl, Or.inr rfl, trivial⟩
      · cases h
    cases h
theorem s_X7_cover_0 {F : Nat × Nat} {l : Launch} {G : rx_G} {D : Nat} {hf : rx_H} {z : (Int32 × Option rx_H)} (hC : rx_CC l G D (C_X7_cover F) z) (x0 : Nat) (x1 : Int32) (u : Option rx_H) (h : f_X7_cover_0 F x0 x1 u = some z) : rx_S l G ("SetHouseModel", prog_9_method_75_code, 6, false, false, D) hf (z.2.getD hf) rx_hI z 0 [some (.ref x0), some (.int x1), none, none, none, none] [] u := by
  rw [g_X7_cover_0] at h
  refine rx_S_node (md := ("SetHouseModel", prog_9_method_75_code, 6, false, false, D)) tk_X7_cover hC rx_m_hI (fun t ls st u h => ?_) h
  unfold kk_X7_cover_0 at h
  rcases rx_rec_eq h with ⟨hb, h⟩ | ⟨hb, h⟩
  · have ht := Nat.eq_of_beq_eq_true hb
    subst ht
    unfold n_X7_cover_28 at h
    split at h
    · exact (s_X7_cover_28 hC _ _ _ _ _ _ h).le ⟨Or.inr rfl, Or.inr rfl, Or.inr rfl, Or.inr rfl, Or.inl rfl, Or.inl rfl, trivial⟩
    · cases h
  cases h
theorem cc_X7_cover (F : Nat × Nat) (l : Launch) (G : rx_G) {α : Type} (z : α) : rx_CC l G (2 + 0 * F.2) (C_X7_cover F) z := by
  intro j as u κ h
  unfold C_X7_cover at h
  rcases rx_rec_eq h with ⟨hb, h⟩ | ⟨hb, h⟩
  · have ht := Nat.eq_of_beq_eq_true hb
    subst ht
    exact (w_X7_has F l G h).deep (by omega)
  rcases rx_rec_eq h with ⟨hb, h⟩ | ⟨hb, h⟩
  · have ht := Nat.eq_of_beq_eq_true hb
    subst ht
    exact (w_X7_isPlace F l G h).deep (by omega)
  rcases rx_rec_eq h with ⟨hb, h⟩ | ⟨hb, h⟩
  · have ht := Nat.eq_of_beq_eq_true hb
    subst ht
    exact (w_X7_lacks F l G h).deep (by omega)
  rcases rx_rec_eq h with ⟨hb, h⟩ | ⟨hb, h⟩
  · have ht := Nat.eq_of_beq_eq_true hb
    subst ht
    exact (w_X7_ones F l G h).deep (by omega)
  cases h
theorem m_X7_cover (F : Nat × Nat) (l : Launch) (G : rx_G) (hf : rx_H) (x0 : Nat) (x1 : Int32) (u : Option rx_H) {z : (Int32 × Option rx_H)} (h : f_X7_cover F x0 x1 u = some z) : rx_Ok l G (3 + 0 * F.2) (rx_ny 149) (.code (rx_ny 149) prog_9_method_75_code 6 (some .int)) [.ref x0, .int x1] (u.getD hf) (some (.int z.1)) (z.2.getD hf) := by
  have h := h
  unfold f_X7_cover at h
  exact (rx_met (l := l) (G := G) (hf := hf) (as := [.ref x0, .int x1]) (r := (some (.int z.1))) (ls0 := [some (.ref x0), some (.int x1), none, none, none, none]) (y := rx_ny 149) (D := (2 + 0 * F.2)) (ini := false) (bo := false) (u := u) (u' := z.2) (by decide +kernel) (fun h => by cases h) (Nat.le_of_ble_eq_true rfl) (Or.inl ⟨rfl, rfl, _, rfl⟩) (fun Z hZ hB => rx_RT_hI hZ hB) (by exact ⟨Or.inr rfl, Or.inr rfl, Or.inl rfl, Or.inl rfl, Or.inl rfl, Or.inl rfl, trivial⟩) (s_X7_cover_0 (cc_X7_cover F l G z) x0 x1 u h)).deep (by omega)
theorem w_X7_cover (F : Nat × Nat) (l : Launch) (G : rx_G) {α : Type} {z : α} {as : List Value} {u : Option rx_H} {κ : rx_K α} (h : c_X7_cover F as u κ = some z) : rx_Cw l G (3 + 0 * F.2) 149 as u κ z := by
  unfold c_X7_cover at h
  split at h
  · obtain ⟨r, hr, h⟩ := Option.bind_eq_some_iff.mp h
    exact ⟨_, _, _, _, h, k_X7_cover, fun h => absurd h (by decide), fun _ => ⟨_, _, rfl, rfl⟩, fun hf => m_X7_cover F l G hf _ _ _ hr⟩
  · cases h
set_option maxRecDepth 100000 in
theorem k_X7_looseFrom : rx_Cal (rx_ny 182) (.code (rx_ny 182) prog_9_method_76_code 8 (some .int)) (rx_kd 182) 3 := ⟨prog_9_method_76_code, 8, (some .int), Or.inl rfl, rx_in (i := 1087) (by rfl) (by rfl), rx_in (i := 46) (by decide +kernel) (by decide +kernel), ⟨(by decide +kernel), (by decide +kernel), (by decide +kernel)⟩, Nat.le_of_ble_eq_true rfl, fun h => absurd h (by decide), fun _ => ⟨rx_in (i := 1086) (by decide +kernel) (by decide +kernel), rx_in (i := 37) (by decide +kernel) (by decide +kernel)⟩, fun h => absurd h (by decide)⟩
set_option maxRecDepth 100000 in
theorem tk_X7_looseFrom : (t_X7_looseFrom.all (rx_eok "SetHouseModel" prog_9_method_76_code 8 false false) && rx_adj t_X7_looseFrom) = true := by decide +kernel
theorem s_X7_looseFrom_6 {F : Nat × Nat} {d : Nat} {l : Launch} {G : rx_G} {D : Nat} {hf : rx_H} {z : (Int32 × Option rx_H)} (hC : rx_CC l G D (C_X7_looseFrom F d) z) : ∀ (f : Nat) (x0 : Nat) (x1 : Int64) (x4 : Int32) (x5 : Int32) (x6 : Int32) (u : Option rx_H), f_X7_looseFrom_6 F (f_X7_looseFrom F d) f x0 x1 x4 x5 x6 u = some z → rx_S l G ("SetHouseModel", prog_9_method_76_code, 8, false, false, D) hf (z.2.getD hf) rx_hI z 6 [some (.ref x0), some (.long x1), none, none, some (.int x4), some (.int x5), some (.int x6), none] [] u := by
  intro f
  induction f with
  | zero =>
    intro x0 x1 x4 x5 x6 u h
    cases h
  | succ f ih =>
    intro x0 x1 x4 x5 x6 u h
    rw [g_X7_looseFrom_6] at h
    refine rx_S_node (md := ("SetHouseModel", prog_9_method_76_code, 8, false, false, D)) tk_X7_looseFrom hC rx_m_hI (fun t ls st u h => ?_) h
    unfold kk_X7_looseFrom_6 at h
    rcases rx_rec_eq h with ⟨hb, h⟩ | ⟨hb, h⟩
    · have ht := Nat.eq_of_beq_eq_true hb
      subst ht
      unfold n_X7_looseFrom_6 at h
      split at h
      · exact (ih _ _ _ _ _ _ h).le ⟨Or.inr rfl, Or.inr rfl, Or.inl rfl, Or.inl rfl, Or.inr rfl, Or.inr rfl, Or.inr rfl, Or.inl rfl, trivial⟩
      · cases h
    cases h
theorem s_X7_looseFrom_0 {F : Nat × Nat} {d : Nat} {l : Launch} {G : rx_G} {D : Nat} {hf : rx_H} {z : (Int32 × Option rx_H)} (hC : rx_CC l G D (C_X7_looseFrom F d) z) (x0 : Nat) (x1 : Int64) (x3 : Int32) (x4 : Int32) (u : Option rx_H) (h : f_X7_looseFrom_0 F (f_X7_looseFrom F d) x0 x1 x3 x4 u = some z) : rx_S l G ("SetHouseModel", prog_9_method_76_code, 8, false, false, D) hf (z.2.getD hf) rx_hI z 0 [some (.ref x0), some (.long x1), none, some (.int x3), some (.int x4), none, none, none] [] u := by
  rw [g_X7_looseFrom_0] at h
  refine rx_S_node (md := ("SetHouseModel", prog_9_method_76_code, 8, false, false, D)) tk_X7_looseFrom hC rx_m_hI (fun t ls st u h => ?_) h
  unfold kk_X7_looseFrom_0 at h
  rcases rx_rec_eq h with ⟨hb, h⟩ | ⟨hb, h⟩
  · have ht := Nat.eq_of_beq_eq_true hb
    subst ht
    unfold n_X7_looseFrom_6 at h
    split at h
    · exact (s_X7_looseFrom_6 hC _ _ _ _ _ _ _ h).le ⟨Or.inr rfl, Or.inr rfl, Or.inl rfl, Or.inl rfl, Or.inr rfl, Or.inr rfl, Or.inr rfl, Or.inl rfl, trivial⟩
    · cases h
  cases h
theorem cc_X7_looseFrom (F : Nat × Nat) (d : Nat) (l : Launch) (G : rx_G) (hs : ∀ {α : Type} {z : α} {as : List Value} {u : Option rx_H} {κ : rx_K α}, c_X7_looseFrom F d as u κ = some z → rx_Cw l G (1 + d) 182 as u κ z) {α : Type} (z : α) : rx_CC l G (1 + d) (C_X7_looseFrom F d) z := by
  intro j as u κ h
  unfold C_X7_looseFrom at h
  rcases rx_rec_eq h with ⟨hb, h⟩ | ⟨hb, h⟩
  · have ht := Nat.eq_of_beq_eq_true hb
    subst ht
    exact (w_X7_has F l G h).deep (by omega)
  rcases rx_rec_eq h with ⟨hb, h⟩ | ⟨hb, h⟩
  · have ht := Nat.eq_of_beq_eq_true hb
    subst ht
    exact hs h
  cases h
theorem m_X7_looseFrom (F : Nat × Nat) (l : Launch) (G : rx_G) : ∀ (d : Nat) (hf : rx_H) (x0 : Nat) (x1 : Int64) (x3 : Int32) (x4 : Int32) (u : Option rx_H) (z : (Int32 × Option rx_H)), f_X7_looseFrom F d x0 x1 x3 x4 u = some z → rx_Ok l G (1 + d) (rx_ny 182) (.code (rx_ny 182) prog_9_method_76_code 8 (some .int)) [.ref x0, .long x1, .int x3, .int x4] (u.getD hf) (some (.int z.1)) (z.2.getD hf) := by
  intro d
  induction d with
  | zero =>
    intro hf x0 x1 x3 x4 u z h
    cases h
  | succ d ih =>
    intro hf x0 x1 x3 x4 u z h
    have hs : ∀ {α : Type} {z : α} {as : List Value} {u : Option rx_H} {κ : rx_K α}, c_X7_looseFrom F d as u κ = some z → rx_Cw l G (1 + d) 182 as u κ z := by
      intro α z as u κ h
      unfold c_X7_looseFrom at h
      split at h
      · obtain ⟨r, hr, h⟩ := Option.bind_eq_some_iff.mp h
        exact ⟨_, _, _, _, h, k_X7_looseFrom, fun h => absurd h (by decide), fun _ => ⟨_, _, rfl, rfl⟩, fun hf => ih hf _ _ _ _ _ _ hr⟩
      · cases h
    exact (rx_met (l := l) (G := G) (hf := hf) (as := [.ref x0, .long x1, .int x3, .int x4]) (r := (some (.int z.1))) (ls0 := [some (.ref x0), some (.long x1), none, some (.int x3), some (.int x4), none, none, none]) (y := rx_ny 182) (D := (1 + d)) (ini := false) (bo := false) (u := u) (u' := z.2) (by decide +kernel) (fun h => by cases h) (Nat.le_of_ble_eq_true rfl) (Or.inl ⟨rfl, rfl, _, rfl⟩) (fun Z hZ hB => rx_RT_hI hZ hB) (by exact ⟨Or.inr rfl, Or.inr rfl, Or.inl rfl, Or.inr rfl, Or.inr rfl, Or.inl rfl, Or.inl rfl, Or.inl rfl, trivial⟩) (s_X7_looseFrom_0 (cc_X7_looseFrom F d l G hs z) x0 x1 x3 x4 u h)).deep (by omega)
theorem w_X7_looseFrom (F : Nat × Nat) (l : Launch) (G : rx_G) {α : Type} {z : α} {as : List Value} {u : Option rx_H} {κ : rx_K α} (h : c_X7_looseFrom F F.2 as u κ = some z) : rx_Cw l G (1 + 1 * F.2) 182 as u κ z := by
  unfold c_X7_looseFrom at h
  split at h
  · obtain ⟨r, hr, h⟩ := Option.bind_eq_some_iff.mp h
    exact ⟨_, _, _, _, h, k_X7_looseFrom, fun h => absurd h (by decide), fun _ => ⟨_, _, rfl, rfl⟩, fun hf => (m_X7_looseFrom F l G F.2 hf _ _ _ _ _ _ hr).deep (by omega)⟩
  · cases h
set_option maxRecDepth 100000 in
theorem k_X7_loose : rx_Cal (rx_ny 181) (.code (rx_ny 181) prog_9_method_77_code 2 (some .int)) (rx_kd 181) 1 := ⟨prog_9_method_77_code, 2, (some .int), Or.inl rfl, rx_in (i := 1083) (by rfl) (by rfl), rx_in (i := 46) (by decide +kernel) (by decide +kernel), ⟨(by decide +kernel), (by decide +kernel), (by decide +kernel)⟩, Nat.le_of_ble_eq_true rfl, fun h => absurd h (by decide), fun _ => ⟨rx_in (i := 1081) (by decide +kernel) (by decide +kernel), rx_in (i := 1082) (by decide +kernel) (by decide +kernel)⟩, fun h => absurd h (by decide)⟩
set_option maxRecDepth 100000 in
theorem tk_X7_loose : (t_X7_loose.all (rx_eok "SetHouseModel" prog_9_method_77_code 2 false false) && rx_adj t_X7_loose) = true := by decide +kernel
theorem s_X7_loose_0 {F : Nat × Nat} {l : Launch} {G : rx_G} {D : Nat} {hf : rx_H} {z : (Int32 × Option rx_H)} (hC : rx_CC l G D (C_X7_loose F) z) (x0 : Nat) (x1 : Int32) (u : Option rx_H) (h : f_X7_loose_0 F x0 x1 u = some z) : rx_S l G ("SetHouseModel", prog_9_method_77_code, 2, false, false, D) hf (z.2.getD hf) rx_hI z 0 [some (.ref x0), some (.int x1)] [] u := by
  rw [g_X7_loose_0] at h
  refine rx_S_node (md := ("SetHouseModel", prog_9_method_77_code, 2, false, false, D)) tk_X7_loose hC rx_m_hI (fun t ls st u h => ?_) h
  unfold kk_X7_loose_0 at h
  cases h
theorem cc_X7_loose (F : Nat × Nat) (l : Launch) (G : rx_G) {α : Type} (z : α) : rx_CC l G (2 + 1 * F.2) (C_X7_loose F) z := by
  intro j as u κ h
  unfold C_X7_loose at h
  rcases rx_rec_eq h with ⟨hb, h⟩ | ⟨hb, h⟩
  · have ht := Nat.eq_of_beq_eq_true hb
    subst ht
    exact (w_X7_isPlace F l G h).deep (by omega)
  rcases rx_rec_eq h with ⟨hb, h⟩ | ⟨hb, h⟩
  · have ht := Nat.eq_of_beq_eq_true hb
    subst ht
    exact (w_X7_lacks F l G h).deep (by omega)
  rcases rx_rec_eq h with ⟨hb, h⟩ | ⟨hb, h⟩
  · have ht := Nat.eq_of_beq_eq_true hb
    subst ht
    exact (w_X7_looseFrom F l G h).deep (by omega)
  cases h
theorem m_X7_loose (F : Nat × Nat) (l : Launch) (G : rx_G) (hf : rx_H) (x0 : Nat) (x1 : Int32) (u : Option rx_H) {z : (Int32 × Option rx_H)} (h : f_X7_loose F x0 x1 u = some z) : rx_Ok l G (3 + 1 * F.2) (rx_ny 181) (.code (rx_ny 181) prog_9_method_77_code 2 (some .int)) [.ref x0, .int x1] (u.getD hf) (some (.int z.1)) (z.2.getD hf) := by
  have h := h
  unfold f_X7_loose at h
  exact (rx_met (l := l) (G := G) (hf := hf) (as := [.ref x0, .int x1]) (r := (some (.int z.1))) (ls0 := [some (.ref x0), some (.int x1)]) (y := rx_ny 181) (D := (2 + 1 * F.2)) (ini := false) (bo := false) (u := u) (u' := z.2) (by decide +kernel) (fun h => by cases h) (Nat.le_of_ble_eq_true rfl) (Or.inl ⟨rfl, rfl, _, rfl⟩) (fun Z hZ hB => rx_RT_hI hZ hB) (by exact ⟨Or.inr rfl, Or.inr rfl, trivial⟩) (s_X7_loose_0 (cc_X7_loose F l G z) x0 x1 u h)).deep (by omega)
theorem w_X7_loose (F : Nat × Nat) (l : Launch) (G : rx_G) {α : Type} {z : α} {as : List Value} {u : Option rx_H} {κ : rx_K α} (h : c_X7_loose F as u κ = some z) : rx_Cw l G (3 + 1 * F.2) 181 as u κ z := by
  unfold c_X7_loose at h
  split at h
  · obtain ⟨r, hr, h⟩ := Option.bind_eq_some_iff.mp h
    exact ⟨_, _, _, _, h, k_X7_loose, fun h => absurd h (by decide), fun _ => ⟨_, _, rfl, rfl⟩, fun hf => m_X7_loose F l G hf _ _ _ hr⟩
  · cases h
set_option maxRecDepth 100000 in
theorem k_X7_isShattered : rx_Cal (rx_ny 175) (.code (rx_ny 175) prog_9_method_78_code 7 (some .boolean)) (rx_kd 175) 2 := ⟨prog_9_method_78_code, 7, (some .boolean), Or.inl rfl, rx_in (i := 1095) (by rfl) (by rfl), rx_in (i := 46) (by decide +kernel) (by decide +kernel), ⟨(by decide +kernel), (by decide +kernel), (by decide +kernel)⟩, Nat.le_of_ble_eq_true rfl, fun h => absurd h (by decide), fun _ => ⟨rx_in (i := 1094) (by decide +kernel) (by decide +kernel), rx_in (i := 38) (by decide +kernel) (by decide +kernel)⟩, fun h => absurd h (by decide)⟩
set_option maxRecDepth 100000 in
theorem tk_X7_isShattered : (t_X7_isShattered.all (rx_eok "SetHouseModel" prog_9_method_78_code 7 false true) && rx_adj t_X7_isShattered) = true := by decide +kernel
theorem s_X7_isShattered_11 {F : Nat × Nat} {l : Launch} {G : rx_G} {D : Nat} {hf : rx_H} {z : (Int32 × Option rx_H)} (hC : rx_CC l G D (C_X7_isShattered F) z) : ∀ (f : Nat) (x0 : Nat) (x3 : Int32) (x4 : Int64) (x6 : Int32) (u : Option rx_H), f_X7_isShattered_11 F f x0 x3 x4 x6 u = some z → rx_S l G ("SetHouseModel", prog_9_method_78_code, 7, false, true, D) hf (z.2.getD hf) rx_hI z 11 [some (.ref x0), none, none, some (.int x3), some (.long x4), none, some (.int x6)] [] u := by
  intro f
  induction f with
  | zero =>
    intro x0 x3 x4 x6 u h
    cases h
  | succ f ih =>
    intro x0 x3 x4 x6 u h
    rw [g_X7_isShattered_11] at h
    refine rx_S_node (md := ("SetHouseModel", prog_9_method_78_code, 7, false, true, D)) tk_X7_isShattered hC rx_m_hI (fun t ls st u h => ?_) h
    unfold kk_X7_isShattered_11 at h
    rcases rx_rec_eq h with ⟨hb, h⟩ | ⟨hb, h⟩
    · have ht := Nat.eq_of_beq_eq_true hb
      subst ht
      unfold n_X7_isShattered_11 at h
      split at h
      · exact (ih _ _ _ _ _ h).le ⟨Or.inr rfl, Or.inl rfl, Or.inl rfl, Or.inr rfl, Or.inr rfl, Or.inl rfl, Or.inr rfl, trivial⟩
      · cases h
    cases h
theorem s_X7_isShattered_0 {F : Nat × Nat} {l : Launch} {G : rx_G} {D : Nat} {hf : rx_H} {z : (Int32 × Option rx_H)} (hC : rx_CC l G D (C_X7_isShattered F) z) (x0 : Nat) (x1 : Int64) (x3 : Int32) (u : Option rx_H) (h : f_X7_isShattered_0 F x0 x1 x3 u = some z) : rx_S l G ("SetHouseModel", prog_9_method_78_code, 7, false, true, D) hf (z.2.getD hf) rx_hI z 0 [some (.ref x0), some (.long x1), none, some (.int x3), none, none, none] [] u := by
  rw [g_X7_isShattered_0] at h
  refine rx_S_node (md := ("SetHouseModel", prog_9_method_78_code, 7, false, true, D)) tk_X7_isShattered hC rx_m_hI (fun t ls st u h => ?_) h
  unfold kk_X7_isShattered_0 at h
  rcases rx_rec_eq h with ⟨hb, h⟩ | ⟨hb, h⟩
  · have ht := Nat.eq_of_beq_eq_true hb
    subst ht
    unfold n_X7_isShattered_11 at h
    split at h
    · exact (s_X7_isShattered_11 hC _ _ _ _ _ _ h).le ⟨Or.inr rfl, Or.inl rfl, Or.inl rfl, Or.inr rfl, Or.inr rfl, Or.inl rfl, Or.inr rfl, trivial⟩
    · cases h
  cases h
theorem cc_X7_isShattered (F : Nat × Nat) (l : Launch) (G : rx_G) {α : Type} (z : α) : rx_CC l G (2 + 0 * F.2) (C_X7_isShattered F) z := by
  intro j as u κ h
  unfold C_X7_isShattered at h
  rcases rx_rec_eq h with ⟨hb, h⟩ | ⟨hb, h⟩
  · have ht := Nat.eq_of_beq_eq_true hb
    subst ht
    exact (w_X7_has F l G h).deep (by omega)
  rcases rx_rec_eq h with ⟨hb, h⟩ | ⟨hb, h⟩
  · have ht := Nat.eq_of_beq_eq_true hb
    subst ht
    exact (w_X7_isWithin F l G h).deep (by omega)
  rcases rx_rec_eq h with ⟨hb, h⟩ | ⟨hb, h⟩
  · have ht := Nat.eq_of_beq_eq_true hb
    subst ht
    exact (w_X7_traceOf F l G h).deep (by omega)
  cases h
theorem m_X7_isShattered (F : Nat × Nat) (l : Launch) (G : rx_G) (hf : rx_H) (x0 : Nat) (x1 : Int64) (x3 : Int32) (u : Option rx_H) {z : (Int32 × Option rx_H)} (h : f_X7_isShattered F x0 x1 x3 u = some z) : rx_Ok l G (3 + 0 * F.2) (rx_ny 175) (.code (rx_ny 175) prog_9_method_78_code 7 (some .boolean)) [.ref x0, .long x1, .int x3] (u.getD hf) (some (.int z.1)) (z.2.getD hf) := by
  have h := h
  unfold f_X7_isShattered at h
  exact (rx_met (l := l) (G := G) (hf := hf) (as := [.ref x0, .long x1, .int x3]) (r := (some (.int z.1))) (ls0 := [some (.ref x0), some (.long x1), none, some (.int x3), none, none, none]) (y := rx_ny 175) (D := (2 + 0 * F.2)) (ini := false) (bo := true) (u := u) (u' := z.2) (by decide +kernel) (fun h => by cases h) (Nat.le_of_ble_eq_true rfl) (Or.inr (Or.inl ⟨rfl, rfl, _, rfl⟩)) (fun Z hZ hB => rx_RT_hI hZ hB) (by exact ⟨Or.inr rfl, Or.inr rfl, Or.inl rfl, Or.inr rfl, Or.inl rfl, Or.inl rfl, Or.inl rfl, trivial⟩) (s_X7_isShattered_0 (cc_X7_isShattered F l G z) x0 x1 x3 u h)).deep (by omega)
theorem w_X7_isShattered (F : Nat × Nat) (l : Launch) (G : rx_G) {α : Type} {z : α} {as : List Value} {u : Option rx_H} {κ : rx_K α} (h : c_X7_isShattered F as u κ = some z) : rx_Cw l G (3 + 0 * F.2) 175 as u κ z := by
  unfold c_X7_isShattered at h
  split at h
  · obtain ⟨r, hr, h⟩ := Option.bind_eq_some_iff.mp h
    exact ⟨_, _, _, _, h, k_X7_isShattered, fun h => absurd h (by decide), fun _ => ⟨_, _, rfl, rfl⟩, fun hf => m_X7_isShattered F l G hf _ _ _ _ hr⟩
  · cases h
set_option maxRecDepth 100000 in
theorem k_X7_shattered : rx_Cal (rx_ny 208) (.code (rx_ny 208) prog_9_method_79_code 5 (some .int)) (rx_kd 208) 2 := ⟨prog_9_method_79_code, 5, (some .int), Or.inl rfl, rx_in (i := 1091) (by rfl) (by rfl), rx_in (i := 46) (by decide +kernel) (by decide +kernel), ⟨(by decide +kernel), (by decide +kernel), (by decide +kernel)⟩, Nat.le_of_ble_eq_true rfl, fun h => absurd h (by decide), fun _ => ⟨rx_in (i := 1089) (by decide +kernel) (by decide +kernel), rx_in (i := 1090) (by decide +kernel) (by decide +kernel)⟩, fun h => absurd h (by decide)⟩
set_option maxRecDepth 100000 in
theorem tk_X7_shattered : (t_X7_shattered.all (rx_eok "SetHouseModel" prog_9_method_79_code 5 false false) && rx_adj t_X7_shattered) = true := by decide +kernel
theorem s_X7_shattered_62 {F : Nat × Nat} {l : Launch} {G : rx_G} {D : Nat} {hf : rx_H} {z : (Int32 × Option rx_H)} (hC : rx_CC l G D (C_X7_shattered F) z) {k41 : Nat → Int32 → Int32 → Int32 → Int32 → Option rx_H → Option (Int32 × Option rx_H)} (hk41 : ∀ (x0 : Nat) (x1 : Int32) (x2 : Int32) (x3 : Int32) (x4 : Int32) (u : Option rx_H), k41 x0 x1 x2 x3 x4 u = some z → rx_S l G ("SetHouseModel", prog_9_method_79_code, 5, false, false, D) hf (z.2.getD hf) rx_hI z 41 [some (.ref x0), some (.int x1), some (.int x2), some (.int x3), some (.int x4)] [] u) (x0 : Nat) (x1 : Int32) (x2 : Int32) (x4 : Int32) (s0 : Int32) (u : Option rx_H) (h : f_X7_shattered_62 F k41 x0 x1 x2 x4 s0 u = some z) : rx_S l G ("SetHouseModel", prog_9_method_79_code, 5, false, false, D) hf (z.2.getD hf) rx_hI z 62 [some (.ref x0), some (.int x1), some (.int x2), none, some (.int x4)] [.int s0] u := by
  rw [g_X7_shattered_62] at h
  refine rx_S_node (md := ("SetHouseModel", prog_9_method_79_code, 5, false, false, D)) tk_X7_shattered hC rx_m_hI (fun t ls st u h => ?_) h
  unfold kk_X7_shattered_62 at h
  rcases rx_rec_eq h with ⟨hb, h⟩ | ⟨hb, h⟩
  · have ht := Nat.eq_of_beq_eq_true hb
    subst ht
    unfold n_X7_shattered_41 at h
    split at h
    · exact (hk41 _ _ _ _ _ _ h).le ⟨Or.inr rfl, Or.inr rfl, Or.inr rfl, Or.inr rfl, Or.inr rfl, trivial⟩
    · cases h
  cases h
theorem s_X7_shattered_41 {F : Nat × Nat} {l : Launch} {G : rx_G} {D : Nat} {hf : rx_H} {z : (Int32 × Option rx_H)} (hC : rx_CC l G D (C_X7_shattered F) z) : ∀ (f : Nat) (x0 : Nat) (x1 : Int32) (x2 : Int32) (x3 : Int32) (x4 : Int32) (u : Option rx_H), f_X7_shattered_41 F f x0 x1 x2 x3 x4 u = some z → rx_S l G ("SetHouseModel", prog_9_method_79_code, 5, false, false, D) hf (z.2.getD hf) rx_hI z 41 [some (.ref x0), some (.int x1), some (.int x2), some (.int x3), some (.int x4)] [] u := by
  intro f
  induction f with
  | zero =>
    intro x0 x1 x2 x3 x4 u h
    cases h
  | succ f ih =>
    intro x0 x1 x2 x3 x4 u h
    rw [g_X7_shattered_41] at h
    refine rx_S_node (md := ("SetHouseModel", prog_9_method_79_code, 5, false, false, D)) tk_X7_shattered hC rx_m_hI (fun t ls st u h => ?_) h
    unfold kk_X7_shattered_41 at h
    rcases rx_rec_eq h with ⟨hb, h⟩ | ⟨hb, h⟩
    · have ht := Nat.eq_of_beq_eq_true hb
      subst ht
      unfold n_X7_shattered_41 at h
      split at h
      · exact (ih _ _ _ _ _ _ h).le ⟨Or.inr rfl, Or.inr rfl, Or.inr rfl, Or.inr rfl, Or.inr rfl, trivial⟩
      · cases h
    rcases rx_rec_eq h with ⟨hb, h⟩ | ⟨hb, h⟩
    · have ht := Nat.eq_of_beq_eq_true hb
      subst ht
      unfold n_X7_shattered_62 at h
      split at h
      · exact (s_X7_shattered_62 hC ih _ _ _ _ _ _ h).le ⟨Or.inr rfl, Or.inr rfl, Or.inr rfl, Or.inl rfl, Or.inr rfl, trivial⟩
      · cases h
    cases h
theorem s_X7_shattered_22 {F : Nat × Nat} {l : Launch} {G : rx_G} {D : Nat} {hf : rx_H} {z : (Int32 × Option rx_H)} (hC : rx_CC l G D (C_X7_shattered F) z) (x0 : Nat) (x1 : Int32) (x2 : Int32) (u : Option rx_H) (h : f_X7_shattered_22 F x0 x1 x2 u = some z) : rx_S l G ("SetHouseModel", prog_9_method_79_code, 5, false, false, D) hf (z.2.getD hf) rx_hI z 22 [some (.ref x0), some (.int x1), some (.int x2), none, none] [] u := by
  rw [g_X7_shattered_22] at h
  refine rx_S_node (md := ("SetHouseModel", prog_9_method_79_code, 5, false, false, D)) tk_X7_shattered hC rx_m_hI (fun t ls st u h => ?_) h
  unfold kk_X7_shattered_22 at h
  rcases rx_rec_eq h with ⟨hb, h⟩ | ⟨hb, h⟩
  · have ht := Nat.eq_of_beq_eq_true hb
    subst ht
    unfold n_X7_shattered_41 at h
    split at h
    · exact (s_X7_shattered_41 hC _ _ _ _ _ _ _ h).le ⟨Or.inr rfl, Or.inr rfl, Or.inr rfl, Or.inr rfl, Or.inr rfl, trivial⟩
    · cases h
  cases h
theorem s_X7_shattered_0 {F : Nat × Nat} {l : Launch} {G : rx_G} {D : Nat} {hf : rx_H} {z : (Int32 × Option rx_H)} (hC : rx_CC l G D (C_X7_shattered F) z) (x0 : Nat) (x1 : Int32) (x2 : Int32) (u : Option rx_H) (h : f_X7_shattered_0 F x0 x1 x2 u = some z) : rx_S l G ("SetHouseModel", prog_9_method_79_code, 5, false, false, D) hf (z.2.getD hf) rx_hI z 0 [some (.ref x0), some (.int x1), some (.int x2), none, none] [] u := by
  rw [g_X7_shattered_0] at h
  refine rx_S_node (md := ("SetHouseModel", prog_9_method_79_code, 5, false, false, D)) tk_X7_shattered hC rx_m_hI (fun t ls st u h => ?_) h
  unfold kk_X7_shattered_0 at h
  rcases rx_rec_eq h with ⟨hb, h⟩ | ⟨hb, h⟩
  · have ht := Nat.eq_of_beq_eq_true hb
    subst ht
    unfold n_X7_shattered_22 at h
    split at h
    · exact (s_X7_shattered_22 hC _ _ _ _ h).le ⟨Or.inr rfl, Or.inr rfl, Or.inr rfl, Or.inl rfl, Or.inl rfl, trivial⟩
    · cases h
  cases h
theorem cc_X7_shattered (F : Nat × Nat) (l : Launch) (G : rx_G) {α : Type} (z : α) : rx_CC l G (3 + 0 * F.2) (C_X7_shattered F) z := by
  intro j as u κ h
  unfold C_X7_shattered at h
  rcases rx_rec_eq h with ⟨hb, h⟩ | ⟨hb, h⟩
  · have ht := Nat.eq_of_beq_eq_true hb
    subst ht
    exact (w_X7_isPlace F l G h).deep (by omega)
  rcases rx_rec_eq h with ⟨hb, h⟩ | ⟨hb, h⟩
  · have ht := Nat.eq_of_beq_eq_true hb
    subst ht
    exact (w_X7_isSet F l G h).deep (by omega)
  rcases rx_rec_eq h with ⟨hb, h⟩ | ⟨hb, h⟩
  · have ht := Nat.eq_of_beq_eq_true hb
    subst ht
    exact (w_X7_isShattered F l G h).deep (by omega)
  rcases rx_rec_eq h with ⟨hb, h⟩ | ⟨hb, h⟩
  · have ht := Nat.eq_of_beq_eq_true hb
    subst ht
    exact (w_X7_lacks F l G h).deep (by omega)
  cases h
theorem m_X7_shattered (F : Nat × Nat) (l : Launch) (G : rx_G) (hf : rx_H) (x0 : Nat) (x1 : Int32) (x2 : Int32) (u : Option rx_H) {z : (Int32 × Option rx_H)} (h : f_X7_shattered F x0 x1 x2 u = some z) : rx_Ok l G (4 + 0 * F.2) (rx_ny 208) (.code (rx_ny 208) prog_9_method_79_code 5 (some .int)) [.ref x0, .int x1, .int x2] (u.getD hf) (some (.int z.1)) (z.2.getD hf) := by
  have h := h
  unfold f_X7_shattered at h
  exact (rx_met (l := l) (G := G) (hf := hf) (as := [.ref x0, .int x1, .int x2]) (r := (some (.int z.1))) (ls0 := [some (.ref x0), some (.int x1), some (.int x2), none, none]) (y := rx_ny 208) (D := (3 + 0 * F.2)) (ini := false) (bo := false) (u := u) (u' := z.2) (by decide +kernel) (fun h => by cases h) (Nat.le_of_ble_eq_true rfl) (Or.inl ⟨rfl, rfl, _, rfl⟩) (fun Z hZ hB => rx_RT_hI hZ hB) (by exact ⟨Or.inr rfl, Or.inr rfl, Or.inr rfl, Or.inl rfl, Or.inl rfl, trivial⟩) (s_X7_shattered_0 (cc_X7_shattered F l G z) x0 x1 x2 u h)).deep (by omega)
theorem w_X7_shattered (F : Nat × Nat) (l : Launch) (G : rx_G) {α : Type} {z : α} {as : List Value} {u : Option rx_H} {κ : rx_K α} (h : c_X7_shattered F as u κ = some z) : rx_Cw l G (4 + 0 * F.2) 208 as u κ z := by
  unfold c_X7_shattered at h
  split at h
  · obtain ⟨r, hr, h⟩ := Option.bind_eq_some_iff.mp h
    exact ⟨_, _, _, _, h, k_X7_shattered, fun h => absurd h (by decide), fun _ => ⟨_, _, rfl, rfl⟩, fun hf => m_X7_shattered F l G hf _ _ _ _ hr⟩
  · cases h
set_option maxRecDepth 100000 in
theorem k_X7_mostOf : rx_Cal (rx_ny 187) (.code (rx_ny 187) prog_9_method_80_code 12 (some .int)) (rx_kd 187) 3 := ⟨prog_9_method_80_code, 12, (some .int), Or.inl rfl, rx_in (i := 1103) (by rfl) (by rfl), rx_in (i := 46) (by decide +kernel) (by decide +kernel), ⟨(by decide +kernel), (by decide +kernel), (by decide +kernel)⟩, Nat.le_of_ble_eq_true rfl, fun h => absurd h (by decide), fun _ => ⟨rx_in (i := 1102) (by decide +kernel) (by decide +kernel), rx_in (i := 39) (by decide +kernel) (by decide +kernel)⟩, fun h => absurd h (by decide)⟩
set_option maxRecDepth 100000 in
theorem tk_X7_mostOf : (t_X7_mostOf.all (rx_eok "SetHouseModel" prog_9_method_80_code 12 false false) && rx_adj t_X7_mostOf) = true := by decide +kernel
theorem s_X7_mostOf_62 {F : Nat × Nat} {d : Nat} {l : Launch} {G : rx_G} {D : Nat} {hf : rx_H} {z : (Int32 × Option rx_H)} (hC : rx_CC l G D (C_X7_mostOf F d) z) : ∀ (f : Nat) (x0 : Nat) (x3 : Int32) (x4 : Int32) (x5 : Int32) (x6 : Int64) (x8 : Int64) (x10 : Int32) (u : Option rx_H), f_X7_mostOf_62 F (f_X7_mostOf F d) f x0 x3 x4 x5 x6 x8 x10 u = some z → rx_S l G ("SetHouseModel", prog_9_method_80_code, 12, false, false, D) hf (z.2.getD hf) rx_hI z 62 [some (.ref x0), none, none, some (.int x3), some (.int x4), some (.int x5), some (.long x6), none, some (.long x8), none, some (.int x10), none] [] u := by
  intro f
  induction f with
  | zero =>
    intro x0 x3 x4 x5 x6 x8 x10 u h
    cases h
  | succ f ih =>
    intro x0 x3 x4 x5 x6 x8 x10 u h
    rw [g_X7_mostOf_62] at h
    refine rx_S_node (md := ("SetHouseModel", prog_9_method_80_code, 12, false, false, D)) tk_X7_mostOf hC rx_m_hI (fun t ls st u h => ?_) h
    unfold kk_X7_mostOf_62 at h
    rcases rx_rec_eq h with ⟨hb, h⟩ | ⟨hb, h⟩
    · have ht := Nat.eq_of_beq_eq_true hb
      subst ht
      unfold n_X7_mostOf_62 at h
      split at h
      · exact (ih _ _ _ _ _ _ _ _ h).le ⟨Or.inr rfl, Or.inl rfl, Or.inl rfl, Or.inr rfl, Or.inr rfl, Or.inr rfl, Or.inr rfl, Or.inl rfl, Or.inr rfl, Or.inl rfl, Or.inr rfl, Or.inl rfl, trivial⟩
      · cases h
    cases h
theorem s_X7_mostOf_26 {F : Nat × Nat} {d : Nat} {l : Launch} {G : rx_G} {D : Nat} {hf : rx_H} {z : (Int32 × Option rx_H)} (hC : rx_CC l G D (C_X7_mostOf F d) z) : ∀ (f : Nat) (x0 : Nat) (x1 : Int64) (x3 : Int32) (x4 : Int32) (x5 : Int32) (u : Option rx_H), f_X7_mostOf_26 F (f_X7_mostOf F d) f x0 x1 x3 x4 x5 u = some z → rx_S l G ("SetHouseModel", prog_9_method_80_code, 12, false, false, D) hf (z.2.getD hf) rx_hI z 26 [some (.ref x0), some (.long x1), none, some (.int x3), some (.int x4), some (.int x5), none, none, none, none, none, none] [] u := by
  intro f
  induction f with
  | zero =>
    intro x0 x1 x3 x4 x5 u h
    cases h
  | succ f ih =>
    intro x0 x1 x3 x4 x5 u h
    rw [g_X7_mostOf_26] at h
    refine rx_S_node (md := ("SetHouseModel", prog_9_method_80_code, 12, false, false, D)) tk_X7_mostOf hC rx_m_hI (fun t ls st u h => ?_) h
    unfold kk_X7_mostOf_26 at h
    rcases rx_rec_eq h with ⟨hb, h⟩ | ⟨hb, h⟩
    · have ht := Nat.eq_of_beq_eq_true hb
      subst ht
      unfold n_X7_mostOf_26 at h
      split at h
      · exact (ih _ _ _ _ _ _ h).le ⟨Or.inr rfl, Or.inr rfl, Or.inl rfl, Or.inr rfl, Or.inr rfl, Or.inr rfl, Or.inl rfl, Or.inl rfl, Or.inl rfl, Or.inl rfl, Or.inl rfl, Or.inl rfl, trivial⟩
      · cases h
    rcases rx_rec_eq h with ⟨hb, h⟩ | ⟨hb, h⟩
    · have ht := Nat.eq_of_beq_eq_true hb
      subst ht
      unfold n_X7_mostOf_62 at h
      split at h
      · exact (s_X7_mostOf_62 hC _ _ _ _ _ _ _ _ _ h).le ⟨Or.inr rfl, Or.inl rfl, Or.inl rfl, Or.inr rfl, Or.inr rfl, Or.inr rfl, Or.inr rfl, Or.inl rfl, Or.inr rfl, Or.inl rfl, Or.inr rfl, Or.inl rfl, trivial⟩
      · cases h
    cases h
theorem s_X7_mostOf_0 {F : Nat × Nat} {d : Nat} {l : Launch} {G : rx_G} {D : Nat} {hf : rx_H} {z : (Int32 × Option rx_H)} (hC : rx_CC l G D (C_X7_mostOf F d) z) (x0 : Nat) (x1 : Int64) (x3 : Int32) (x4 : Int32) (u : Option rx_H) (h : f_X7_mostOf_0 F (f_X7_mostOf F d) x0 x1 x3 x4 u = some z) : rx_S l G ("SetHouseModel", prog_9_method_80_code, 12, false, false, D) hf (z.2.getD hf) rx_hI z 0 [some (.ref x0), some (.long x1), none, some (.int x3), some (.int x4), none, none, none, none, none, none, none] [] u := by
  rw [g_X7_mostOf_0] at h
  refine rx_S_node (md := ("SetHouseModel", prog_9_method_80_code, 12, false, false, D)) tk_X7_mostOf hC rx_m_hI (fun t ls st u h => ?_) h
  unfold kk_X7_mostOf_0 at h
  rcases rx_rec_eq h with ⟨hb, h⟩ | ⟨hb, h⟩
  · have ht := Nat.eq_of_beq_eq_true hb
    subst ht
    unfold n_X7_mostOf_26 at h
    split at h
    · exact (s_X7_mostOf_26 hC _ _ _ _ _ _ _ h).le ⟨Or.inr rfl, Or.inr rfl, Or.inl rfl, Or.inr rfl, Or.inr rfl, Or.inr rfl, Or.inl rfl, Or.inl rfl, Or.inl rfl, Or.inl rfl, Or.inl rfl, Or.inl rfl, trivial⟩
    · cases h
  cases h
theorem cc_X7_mostOf (F : Nat × Nat) (d : Nat) (l : Launch) (G : rx_G) (hs : ∀ {α : Type} {z : α} {as : List Value} {u : Option rx_H} {κ : rx_K α}, c_X7_mostOf F d as u κ = some z → rx_Cw l G (1 + d) 187 as u κ z) {α : Type} (z : α) : rx_CC l G (1 + d) (C_X7_mostOf F d) z := by
  intro j as u κ h
  unfold C_X7_mostOf at h
  rcases rx_rec_eq h with ⟨hb, h⟩ | ⟨hb, h⟩
  · have ht := Nat.eq_of_beq_eq_true hb
    subst ht
    exact (w_X7_has F l G h).deep (by omega)
  rcases rx_rec_eq h with ⟨hb, h⟩ | ⟨hb, h⟩
  · have ht := Nat.eq_of_beq_eq_true hb
    subst ht
    exact (w_X7_many F l G h).deep (by omega)
  rcases rx_rec_eq h with ⟨hb, h⟩ | ⟨hb, h⟩
  · have ht := Nat.eq_of_beq_eq_true hb
    subst ht
    exact hs h
  rcases rx_rec_eq h with ⟨hb, h⟩ | ⟨hb, h⟩
  · have ht := Nat.eq_of_beq_eq_true hb
    subst ht
    exact (w_X7_ones F l G h).deep (by omega)
  cases h
theorem m_X7_mostOf (F : Nat × Nat) (l : Launch) (G : rx_G) : ∀ (d : Nat) (hf : rx_H) (x0 : Nat) (x1 : Int64) (x3 : Int32) (x4 : Int32) (u : Option rx_H) (z : (Int32 × Option rx_H)), f_X7_mostOf F d x0 x1 x3 x4 u = some z → rx_Ok l G (1 + d) (rx_ny 187) (.code (rx_ny 187) prog_9_method_80_code 12 (some .int)) [.ref x0, .long x1, .int x3, .int x4] (u.getD hf) (some (.int z.1)) (z.2.getD hf) := by
  intro d
  induction d with
  | zero =>
    intro hf x0 x1 x3 x4 u z h
    cases h
  | succ d ih =>
    intro hf x0 x1 x3 x4 u z h
    have hs : ∀ {α : Type} {z : α} {as : List Value} {u : Option rx_H} {κ : rx_K α}, c_X7_mostOf F d as u κ = some z → rx_Cw l G (1 + d) 187 as u κ z := by
      intro α z as u κ h
      unfold c_X7_mostOf at h
      split at h
      · obtain ⟨r, hr, h⟩ := Option.bind_eq_some_iff.mp h
        exact ⟨_, _, _, _, h, k_X7_mostOf, fun h => absurd h (by decide), fun _ => ⟨_, _, rfl, rfl⟩, fun hf => ih hf _ _ _ _ _ _ hr⟩
      · cases h
    exact (rx_met (l := l) (G := G) (hf := hf) (as := [.ref x0, .long x1, .int x3, .int x4]) (r := (some (.int z.1))) (ls0 := [some (.ref x0), some (.long x1), none, some (.int x3), some (.int x4), none, none, none, none, none, none, none]) (y := rx_ny 187) (D := (1 + d)) (ini := false) (bo := false) (u := u) (u' := z.2) (by decide +kernel) (fun h => by cases h) (Nat.le_of_ble_eq_true rfl) (Or.inl ⟨rfl, rfl, _, rfl⟩) (fun Z hZ hB => rx_RT_hI hZ hB) (by exact ⟨Or.inr rfl, Or.inr rfl, Or.inl rfl, Or.inr rfl, Or.inr rfl, Or.inl rfl, Or.inl rfl, Or.inl rfl, Or.inl rfl, Or.inl rfl, Or.inl rfl, Or.inl rfl, trivial⟩) (s_X7_mostOf_0 (cc_X7_mostOf F d l G hs z) x0 x1 x3 x4 u h)).deep (by omega)
theorem w_X7_mostOf (F : Nat × Nat) (l : Launch) (G : rx_G) {α : Type} {z : α} {as : List Value} {u : Option rx_H} {κ : rx_K α} (h : c_X7_mostOf F F.2 as u κ = some z) : rx_Cw l G (1 + 1 * F.2) 187 as u κ z := by
  unfold c_X7_mostOf at h
  split at h
  · obtain ⟨r, hr, h⟩ := Option.bind_eq_some_iff.mp h
    exact ⟨_, _, _, _, h, k_X7_mostOf, fun h => absurd h (by decide), fun _ => ⟨_, _, rfl, rfl⟩, fun hf => (m_X7_mostOf F l G F.2 hf _ _ _ _ _ _ hr).deep (by omega)⟩
  · cases h
set_option maxRecDepth 100000 in
theorem k_X7_greatest : rx_Cal (rx_ny 161) (.code (rx_ny 161) prog_9_method_81_code 13 (some .int)) (rx_kd 161) 3 := ⟨prog_9_method_81_code, 13, (some .int), Or.inl rfl, rx_in (i := 1099) (by rfl) (by rfl), rx_in (i := 46) (by decide +kernel) (by decide +kernel), ⟨(by decide +kernel), (by decide +kernel), (by decide +kernel)⟩, Nat.le_of_ble_eq_true rfl, fun h => absurd h (by decide), fun _ => ⟨rx_in (i := 1097) (by decide +kernel) (by decide +kernel), rx_in (i := 1098) (by decide +kernel) (by decide +kernel)⟩, fun h => absurd h (by decide)⟩
set_option maxRecDepth 100000 in
theorem tk_X7_greatest : (t_X7_greatest.all (rx_eok "SetHouseModel" prog_9_method_81_code 13 false false) && rx_adj t_X7_greatest) = true := by decide +kernel
theorem s_X7_greatest_122 {F : Nat × Nat} {l : Launch} {G : rx_G} {D : Nat} {hf : rx_H} {z : (Int32 × Option rx_H)} (hC : rx_CC l G D (C_X7_greatest F) z) {k86 : Nat → Int32 → Int32 → Int32 → Int64 → Int32 → Int64 → Int32 → Option rx_H → Option (Int32 × Option rx_H)} (hk86 : ∀ (x0 : Nat) (x1 : Int32) (x2 : Int32) (x3 : Int32) (x4 : Int64) (x6 : Int32) (x7 : Int64) (x9 : Int32) (u : Option rx_H), k86 x0 x1 x2 x3 x4 x6 x7 x9 u = some z → rx_S l G ("SetHouseModel", prog_9_method_81_code, 13, false, false, D) hf (z.2.getD hf) rx_hI z 86 [some (.ref x0), some (.int x1), some (.int x2), some (.int x3), some (.long x4), none, some (.int x6), some (.long x7), none, some (.int x9), none, none, none] [] u) : ∀ (f : Nat) (x0 : Nat) (x1 : Int32) (x2 : Int32) (x3 : Int32) (x4 : Int64) (x6 : Int32) (x7 : Int64) (x9 : Int32) (x10 : Int64) (x12 : Int32) (u : Option rx_H), f_X7_greatest_122 F k86 f x0 x1 x2 x3 x4 x6 x7 x9 x10 x12 u = some z → rx_S l G ("SetHouseModel", prog_9_method_81_code, 13, false, false, D) hf (z.2.getD hf) rx_hI z 122 [some (.ref x0), some (.int x1), some (.int x2), some (.int x3), some (.long x4), none, some (.int x6), some (.long x7), none, some (.int x9), some (.long x10), none, some (.int x12)] [] u := by
  intro f
  induction f with
  | zero =>
    intro x0 x1 x2 x3 x4 x6 x7 x9 x10 x12 u h
    cases h
  | succ f ih =>
    intro x0 x1 x2 x3 x4 x6 x7 x9 x10 x12 u h
    rw [g_X7_greatest_122] at h
    refine rx_S_node (md := ("SetHouseModel", prog_9_method_81_code, 13, false, false, D)) tk_X7_greatest hC rx_m_hI (fun t ls st u h => ?_) h
    unfold kk_X7_greatest_122 at h
    rcases rx_rec_eq h with ⟨hb, h⟩ | ⟨hb, h⟩
    · have ht := Nat.eq_of_beq_eq_true hb
      subst ht
      unfold n_X7_greatest_86 at h
      split at h
      · exact (hk86 _ _ _ _ _ _ _ _ _ h).le ⟨Or.inr rfl, Or.inr rfl, Or.inr rfl, Or.inr rfl, Or.inr rfl, Or.inl rfl, Or.inr rfl, Or.inr rfl, Or.inl rfl, Or.inr rfl, Or.inl rfl, Or.inl rfl, Or.inl rfl, trivial⟩
      · cases h
    rcases rx_rec_eq h with ⟨hb, h⟩ | ⟨hb, h⟩
    · have ht := Nat.eq_of_beq_eq_true hb
      subst ht
      unfold n_X7_greatest_122 at h
      split at h
      · exact (ih _ _ _ _ _ _ _ _ _ _ _ h).le ⟨Or.inr rfl, Or.inr rfl, Or.inr rfl, Or.inr rfl, Or.inr rfl, Or.inl rfl, Or.inr rfl, Or.inr rfl, Or.inl rfl, Or.inr rfl, Or.inr rfl, Or.inl rfl, Or.inr rfl, trivial⟩
      · cases h
    cases h
theorem s_X7_greatest_222 {F : Nat × Nat} {l : Launch} {G : rx_G} {D : Nat} {hf : rx_H} {z : (Int32 × Option rx_H)} (hC : rx_CC l G D (C_X7_greatest F) z) (x0 : Nat) (x1 : Int32) (x3 : Int32) (x7 : Int64) (u : Option rx_H) (h : f_X7_greatest_222 F x0 x1 x3 x7 u = some z) : rx_S l G ("SetHouseModel", prog_9_method_81_code, 13, false, false, D) hf (z.2.getD hf) rx_hI z 222 [some (.ref x0), some (.int x1), none, some (.int x3), none, none, none, some (.long x7), none, none, none, none, none] [] u := by
  rw [g_X7_greatest_222] at h
  refine rx_S_node (md := ("SetHouseModel", prog_9_method_81_code, 13, false, false, D)) tk_X7_greatest hC rx_m_hI (fun t ls st u h => ?_) h
  unfold kk_X7_greatest_222 at h
  cases h
theorem s_X7_greatest_86 {F : Nat × Nat} {l : Launch} {G : rx_G} {D : Nat} {hf : rx_H} {z : (Int32 × Option rx_H)} (hC : rx_CC l G D (C_X7_greatest F) z) : ∀ (f : Nat) (x0 : Nat) (x1 : Int32) (x2 : Int32) (x3 : Int32) (x4 : Int64) (x6 : Int32) (x7 : Int64) (x9 : Int32) (u : Option rx_H), f_X7_greatest_86 F f x0 x1 x2 x3 x4 x6 x7 x9 u = some z → rx_S l G ("SetHouseModel", prog_9_method_81_code, 13, false, false, D) hf (z.2.getD hf) rx_hI z 86 [some (.ref x0), some (.int x1), some (.int x2), some (.int x3), some (.long x4), none, some (.int x6), some (.long x7), none, some (.int x9), none, none, none] [] u := by
  intro f
  induction f with
  | zero =>
    intro x0 x1 x2 x3 x4 x6 x7 x9 u h
    cases h
  | succ f ih =>
    intro x0 x1 x2 x3 x4 x6 x7 x9 u h
    rw [g_X7_greatest_86] at h
    refine rx_S_node (md := ("SetHouseModel", prog_9_method_81_code, 13, false, false, D)) tk_X7_greatest hC rx_m_hI (fun t ls st u h => ?_) h
    unfold kk_X7_greatest_86 at h
    rcases rx_rec_eq h with ⟨hb, h⟩ | ⟨hb, h⟩
    · have ht := Nat.eq_of_beq_eq_true hb
      subst ht
      unfold n_X7_greatest_86 at h
      split at h
      · exact (ih _ _ _ _ _ _ _ _ _ h).le ⟨Or.inr rfl, Or.inr rfl, Or.inr rfl, Or.inr rfl, Or.inr rfl, Or.inl rfl, Or.inr rfl, Or.inr rfl, Or.inl rfl, Or.inr rfl, Or.inl rfl, Or.inl rfl, Or.inl rfl, trivial⟩
      · cases h
    rcases rx_rec_eq h with ⟨hb, h⟩ | ⟨hb, h⟩
    · have ht := Nat.eq_of_beq_eq_true hb
      subst ht
      unfold n_X7_greatest_122 at h
      split at h
      · exact (s_X7_greatest_122 hC ih _ _ _ _ _ _ _ _ _ _ _ _ h).le ⟨Or.inr rfl, Or.inr rfl, Or.inr rfl, Or.inr rfl, Or.inr rfl, Or.inl rfl, Or.inr rfl, Or.inr rfl, Or.inl rfl, Or.inr rfl, Or.inr rfl, Or.inl rfl, Or.inr rfl, trivial⟩
      · cases h
    rcases rx_rec_eq h with ⟨hb, h⟩ | ⟨hb, h⟩
    · have ht := Nat.eq_of_beq_eq_true hb
      subst ht
      unfold n_X7_greatest_222 at h
      split at h
      · exact (s_X7_greatest_222 hC _ _ _ _ _ h).le ⟨Or.inr rfl, Or.inr rfl, Or.inl rfl, Or.inr rfl, Or.inl rfl, Or.inl rfl, Or.inl rfl, Or.inr rfl, Or.inl rfl, Or.inl rfl, Or.inl rfl, Or.inl rfl, Or.inl rfl, trivial⟩
      · cases h
    cases h
theorem s_X7_greatest_36 {F : Nat × Nat} {l : Launch} {G : rx_G} {D : Nat} {hf : rx_H} {z : (Int32 × Option rx_H)} (hC : rx_CC l G D (C_X7_greatest F) z) : ∀ (f : Nat) (x0 : Nat) (x1 : Int32) (x2 : Int32) (x3 : Int32) (x4 : Int64) (x6 : Int32) (u : Option rx_H), f_X7_greatest_36 F f x0 x1 x2 x3 x4 x6 u = some z → rx_S l G ("SetHouseModel", prog_9_method_81_code, 13, false, false, D) hf (z.2.getD hf) rx_hI z 36 [some (.ref x0), some (.int x1), some (.int x2), some (.int x3), some (.long x4), none, some (.int x6), none, none, none, none, none, none] [] u := by
  intro f
  induction f with
  | zero =>
    intro x0 x1 x2 x3 x4 x6 u h
    cases h
  | succ f ih =>
    intro x0 x1 x2 x3 x4 x6 u h
    rw [g_X7_greatest_36] at h
    refine rx_S_node (md := ("SetHouseModel", prog_9_method_81_code, 13, false, false, D)) tk_X7_greatest hC rx_m_hI (fun t ls st u h => ?_) h
    unfold kk_X7_greatest_36 at h
    rcases rx_rec_eq h with ⟨hb, h⟩ | ⟨hb, h⟩
    · have ht := Nat.eq_of_beq_eq_true hb
      subst ht
      unfold n_X7_greatest_36 at h
      split at h
      · exact (ih _ _ _ _ _ _ _ h).le ⟨Or.inr rfl, Or.inr rfl, Or.inr rfl, Or.inr rfl, Or.inr rfl, Or.inl rfl, Or.inr rfl, Or.inl rfl, Or.inl rfl, Or.inl rfl, Or.inl rfl, Or.inl rfl, Or.inl rfl, trivial⟩
      · cases h
    rcases rx_rec_eq h with ⟨hb, h⟩ | ⟨hb, h⟩
    · have ht := Nat.eq_of_beq_eq_true hb
      subst ht
      unfold n_X7_greatest_86 at h
      split at h
      · exact (s_X7_greatest_86 hC _ _ _ _ _ _ _ _ _ _ h).le ⟨Or.inr rfl, Or.inr rfl, Or.inr rfl, Or.inr rfl, Or.inr rfl, Or.inl rfl, Or.inr rfl, Or.inr rfl, Or.inl rfl, Or.inr rfl, Or.inl rfl, Or.inl rfl, Or.inl rfl, trivial⟩
      · cases h
    cases h
theorem s_X7_greatest_0 {F : Nat × Nat} {l : Launch} {G : rx_G} {D : Nat} {hf : rx_H} {z : (Int32 × Option rx_H)} (hC : rx_CC l G D (C_X7_greatest F) z) (x0 : Nat) (x1 : Int32) (x2 : Int32) (x3 : Int32) (u : Option rx_H) (h : f_X7_greatest_0 F x0 x1 x2 x3 u = some z) : rx_S l G ("SetHouseModel", prog_9_method_81_code, 13, false, false, D) hf (z.2.getD hf) rx_hI z 0 [some (.ref x0), some (.int x1), some (.int x2), some (.int x3), none, none, none, none, none, none, none, none, none] [] u := by
  rw [g_X7_greatest_0] at h
  refine rx_S_node (md := ("SetHouseModel", prog_9_method_81_code, 13, false, false, D)) tk_X7_greatest hC rx_m_hI (fun t ls st u h => ?_) h
  unfold kk_X7_greatest_0 at h
  rcases rx_rec_eq h with ⟨hb, h⟩ | ⟨hb, h⟩
  · have ht := Nat.eq_of_beq_eq_true hb
    subst ht
    unfold n_X7_greatest_36 at h
    split at h
    · exact (s_X7_greatest_36 hC _ _ _ _ _ _ _ _ h).le ⟨Or.inr rfl, Or.inr rfl, Or.inr rfl, Or.inr rfl, Or.inr rfl, Or.inl rfl, Or.inr rfl, Or.inl rfl, Or.inl rfl, Or.inl rfl, Or.inl rfl, Or.inl rfl, Or.inl rfl, trivial⟩
    · cases h
  cases h
theorem cc_X7_greatest (F : Nat × Nat) (l : Launch) (G : rx_G) {α : Type} (z : α) : rx_CC l G (2 + 1 * F.2) (C_X7_greatest F) z := by
  intro j as u κ h
  unfold C_X7_greatest at h
  rcases rx_rec_eq h with ⟨hb, h⟩ | ⟨hb, h⟩
  · have ht := Nat.eq_of_beq_eq_true hb
    subst ht
    exact (w_X7_has F l G h).deep (by omega)
  rcases rx_rec_eq h with ⟨hb, h⟩ | ⟨hb, h⟩
  · have ht := Nat.eq_of_beq_eq_true hb
    subst ht
    exact (w_X7_holdsNow F l G h).deep (by omega)
  rcases rx_rec_eq h with ⟨hb, h⟩ | ⟨hb, h⟩
  · have ht := Nat.eq_of_beq_eq_true hb
    subst ht
    exact (w_X7_isIn F l G h).deep (by omega)
  rcases rx_rec_eq h with ⟨hb, h⟩ | ⟨hb, h⟩
  · have ht := Nat.eq_of_beq_eq_true hb
    subst ht
    exact (w_X7_isPlace F l G h).deep (by omega)
  rcases rx_rec_eq h with ⟨hb, h⟩ | ⟨hb, h⟩
  · have ht := Nat.eq_of_beq_eq_true hb
    subst ht
    exact (w_X7_mostOf F l G h).deep (by omega)
  rcases rx_rec_eq h with ⟨hb, h⟩ | ⟨hb, h⟩
  · have ht := Nat.eq_of_beq_eq_true hb
    subst ht
    exact (w_X7_ones F l G h).deep (by omega)
  cases h
theorem m_X7_greatest (F : Nat × Nat) (l : Launch) (G : rx_G) (hf : rx_H) (x0 : Nat) (x1 : Int32) (x2 : Int32) (x3 : Int32) (u : Option rx_H) {z : (Int32 × Option rx_H)} (h : f_X7_greatest F x0 x1 x2 x3 u = some z) : rx_Ok l G (3 + 1 * F.2) (rx_ny 161) (.code (rx_ny 161) prog_9_method_81_code 13 (some .int)) [.ref x0, .int x1, .int x2, .int x3] (u.getD hf) (some (.int z.1)) (z.2.getD hf) := by
  have h := h
  unfold f_X7_greatest at h
  exact (rx_met (l := l) (G := G) (hf := hf) (as := [.ref x0, .int x1, .int x2, .int x3]) (r := (some (.int z.1))) (ls0 := [some (.ref x0), some (.int x1), some (.int x2), some (.int x3), none, none, none, none, none, none, none, none, none]) (y := rx_ny 161) (D := (2 + 1 * F.2)) (ini := false) (bo := false) (u := u) (u' := z.2) (by decide +kernel) (fun h => by cases h) (Nat.le_of_ble_eq_true rfl) (Or.inl ⟨rfl, rfl, _, rfl⟩) (fun Z hZ hB => rx_RT_hI hZ hB) (by exact ⟨Or.inr rfl, Or.inr rfl, Or.inr rfl, Or.inr rfl, Or.inl rfl, Or.inl rfl, Or.inl rfl, Or.inl rfl, Or.inl rfl, Or.inl rfl, Or.inl rfl, Or.inl rfl, Or.inl rfl, trivial⟩) (s_X7_greatest_0 (cc_X7_greatest F l G z) x0 x1 x2 x3 u h)).deep (by omega)
theorem w_X7_greatest (F : Nat × Nat) (l : Launch) (G : rx_G) {α : Type} {z : α} {as : List Value} {u : Option rx_H} {κ : rx_K α} (h : c_X7_greatest F as u κ = some z) : rx_Cw l G (3 + 1 * F.2) 161 as u κ z := by
  unfold c_X7_greatest at h
  split at h
  · obtain ⟨r, hr, h⟩ := Option.bind_eq_some_iff.mp h
    exact ⟨_, _, _, _, h, k_X7_greatest, fun h => absurd h (by decide), fun _ => ⟨_, _, rfl, rfl⟩, fun hf => m_X7_greatest F l G hf _ _ _ _ _ hr⟩
  · cases h
set_option maxRecDepth 100000 in
theorem k_X7_row : rx_Cal (rx_ny 202) (.code (rx_ny 202) prog_9_method_82_code 5 (some .int)) (rx_kd 202) 3 := ⟨prog_9_method_82_code, 5, (some .int), Or.inl rfl, rx_in (i := 1107) (by rfl) (by rfl), rx_in (i := 46) (by decide +kernel) (by decide +kernel), ⟨(by decide +kernel), (by decide +kernel), (by decide +kernel)⟩, Nat.le_of_ble_eq_true rfl, fun h => absurd h (by decide), fun _ => ⟨rx_in (i := 1105) (by decide +kernel) (by decide +kernel), rx_in (i := 1106) (by decide +kernel) (by decide +kernel)⟩, fun h => absurd h (by decide)⟩
set_option maxRecDepth 100000 in
theorem tk_X7_row : (t_X7_row.all (rx_eok "SetHouseModel" prog_9_method_82_code 5 false false) && rx_adj t_X7_row) = true := by decide +kernel
theorem s_X7_row_50 {F : Nat × Nat} {l : Launch} {G : rx_G} {D : Nat} {hf : rx_H} {z : (Int32 × Option rx_H)} (hC : rx_CC l G D (C_X7_row F) z) : ∀ (f : Nat) (x0 : Nat) (x1 : Int32) (x4 : Int32) (u : Option rx_H), f_X7_row_50 F f x0 x1 x4 u = some z → rx_S l G ("SetHouseModel", prog_9_method_82_code, 5, false, false, D) hf (z.2.getD hf) rx_hI z 50 [some (.ref x0), some (.int x1), none, none, some (.int x4)] [] u := by
  intro f
  induction f with
  | zero =>
    intro x0 x1 x4 u h
    cases h
  | succ f ih =>
    intro x0 x1 x4 u h
    rw [g_X7_row_50] at h
    refine rx_S_node (md := ("SetHouseModel", prog_9_method_82_code, 5, false, false, D)) tk_X7_row hC rx_m_hI (fun t ls st u h => ?_) h
    unfold kk_X7_row_50 at h
    rcases rx_rec_eq h with ⟨hb, h⟩ | ⟨hb, h⟩
    · have ht := Nat.eq_of_beq_eq_true hb
      subst ht
      unfold n_X7_row_50 at h
      split at h
      · exact (ih _ _ _ _ h).le ⟨Or.inr rfl, Or.inr rfl, Or.inl rfl, Or.inl rfl, Or.inr rfl, trivial⟩
      · cases h
    cases h
theorem s_X7_row_0 {F : Nat × Nat} {l : Launch} {G : rx_G} {D : Nat} {hf : rx_H} {z : (Int32 × Option rx_H)} (hC : rx_CC l G D (C_X7_row F) z) (x0 : Nat) (x1 : Int32) (x2 : Int32) (x3 : Int32) (u : Option rx_H) (h : f_X7_row_0 F x0 x1 x2 x3 u = some z) : rx_S l G ("SetHouseModel", prog_9_method_82_code, 5, false, false, D) hf (z.2.getD hf) rx_hI z 0 [some (.ref x0), some (.int x1), some (.int x2), some (.int x3), none] [] u := by
  rw [g_X7_row_0] at h
  refine rx_S_node (md := ("SetHouseModel", prog_9_method_82_code, 5, false, false, D)) tk_X7_row hC rx_m_hI (fun t ls st u h => ?_) h
  unfold kk_X7_row_0 at h
  rcases rx_rec_eq h with ⟨hb, h⟩ | ⟨hb, h⟩
  · have ht := Nat.eq_of_beq_eq_true hb
    subst ht
    unfold n_X7_row_50 at h
    split at h
    · exact (s_X7_row_50 hC _ _ _ _ _ h).le ⟨Or.inr rfl, Or.inr rfl, Or.inl rfl, Or.inl rfl, Or.inr rfl, trivial⟩
    · cases h
  cases h
theorem cc_X7_row (F : Nat × Nat) (l : Launch) (G : rx_G) {α : Type} (z : α) : rx_CC l G (2 + 0 * F.2) (C_X7_row F) z := by
  intro j as u κ h
  unfold C_X7_row at h
  rcases rx_rec_eq h with ⟨hb, h⟩ | ⟨hb, h⟩
  · have ht := Nat.eq_of_beq_eq_true hb
    subst ht
    exact (w_X7_isIn F l G h).deep (by omega)
  rcases rx_rec_eq h with ⟨hb, h⟩ | ⟨hb, h⟩
  · have ht := Nat.eq_of_beq_eq_true hb
    subst ht
    exact (w_X7_isPlace F l G h).deep (by omega)
  cases h
theorem m_X7_row (F : Nat × Nat) (l : Launch) (G : rx_G) (hf : rx_H) (x0 : Nat) (x1 : Int32) (x2 : Int32) (x3 : Int32) (u : Option rx_H) {z : (Int32 × Option rx_H)} (h : f_X7_row F x0 x1 x2 x3 u = some z) : rx_Ok l G (3 + 0 * F.2) (rx_ny 202) (.code (rx_ny 202) prog_9_method_82_code 5 (some .int)) [.ref x0, .int x1, .int x2, .int x3] (u.getD hf) (some (.int z.1)) (z.2.getD hf) := by
  have h := h
  unfold f_X7_row at h
  exact (rx_met (l := l) (G := G) (hf := hf) (as := [.ref x0, .int x1, .int x2, .int x3]) (r := (some (.int z.1))) (ls0 := [some (.ref x0), some (.int x1), some (.int x2), some (.int x3), none]) (y := rx_ny 202) (D := (2 + 0 * F.2)) (ini := false) (bo := false) (u := u) (u' := z.2) (by decide +kernel) (fun h => by cases h) (Nat.le_of_ble_eq_true rfl) (Or.inl ⟨rfl, rfl, _, rfl⟩) (fun Z hZ hB => rx_RT_hI hZ hB) (by exact ⟨Or.inr rfl, Or.inr rfl, Or.inr rfl, Or.inr rfl, Or.inl rfl, trivial⟩) (s_X7_row_0 (cc_X7_row F l G z) x0 x1 x2 x3 u h)).deep (by omega)
theorem w_X7_row (F : Nat × Nat) (l : Launch) (G : rx_G) {α : Type} {z : α} {as : List Value} {u : Option rx_H} {κ : rx_K α} (h : c_X7_row F as u κ = some z) : rx_Cw l G (3 + 0 * F.2) 202 as u κ z := by
  unfold c_X7_row at h
  split at h
  · obtain ⟨r, hr, h⟩ := Option.bind_eq_some_iff.mp h
    exact ⟨_, _, _, _, h, k_X7_row, fun h => absurd h (by decide), fun _ => ⟨_, _, rfl, rfl⟩, fun hf => m_X7_row F l G hf _ _ _ _ _ hr⟩
  · cases h
set_option maxRecDepth 100000 in
theorem k_X7_put : rx_Cal (rx_ny 197) (.code (rx_ny 197) prog_9_method_83_code 5 (some .int)) (rx_kd 197) 3 := ⟨prog_9_method_83_code, 5, (some .int), Or.inl rfl, rx_in (i := 1111) (by rfl) (by rfl), rx_in (i := 46) (by decide +kernel) (by decide +kernel), ⟨(by decide +kernel), (by decide +kernel), (by decide +kernel)⟩, Nat.le_of_ble_eq_true rfl, fun h => absurd h (by decide), fun _ => ⟨rx_in (i := 1109) (by decide +kernel) (by decide +kernel), rx_in (i := 1110) (by decide +kernel) (by decide +kernel)⟩, fun h => absurd h (by decide)⟩
set_option maxRecDepth 100000 in
theorem tk_X7_put : (t_X7_put.all (rx_eok "SetHouseModel" prog_9_method_83_code 5 false false) && rx_adj t_X7_put) = true := by decide +kernel
theorem s_X7_put_0 {F : Nat × Nat} {l : Launch} {G : rx_G} {D : Nat} {hf : rx_H} {z : (Int32 × Option rx_H)} (hC : rx_CC l G D (C_X7_put F) z) (x0 : Nat) (x1 : Int32) (x2 : Int32) (x3 : Int64) (u : Option rx_H) (h : f_X7_put_0 F x0 x1 x2 x3 u = some z) : rx_S l G ("SetHouseModel", prog_9_method_83_code, 5, false, false, D) hf (z.2.getD hf) rx_hI z 0 [some (.ref x0), some (.int x1), some (.int x2), some (.long x3), none] [] u := by
  rw [g_X7_put_0] at h
  refine rx_S_node (md := ("SetHouseModel", prog_9_method_83_code, 5, false, false, D)) tk_X7_put hC rx_m_hI (fun t ls st u h => ?_) h
  unfold kk_X7_put_0 at h
  cases h
theorem cc_X7_put (F : Nat × Nat) (l : Launch) (G : rx_G) {α : Type} (z : α) : rx_CC l G (2 + 0 * F.2) (C_X7_put F) z := by
  intro j as u κ h
  unfold C_X7_put at h
  rcases rx_rec_eq h with ⟨hb, h⟩ | ⟨hb, h⟩
  · have ht := Nat.eq_of_beq_eq_true hb
    subst ht
    exact (w_X7_isIn F l G h).deep (by omega)
  rcases rx_rec_eq h with ⟨hb, h⟩ | ⟨hb, h⟩
  · have ht := Nat.eq_of_beq_eq_true hb
    subst ht
    exact (w_X7_isPlace F l G h).deep (by omega)
  cases h
theorem m_X7_put (F : Nat × Nat) (l : Launch) (G : rx_G) (hf : rx_H) (x0 : Nat) (x1 : Int32) (x2 : Int32) (x3 : Int64) (u : Option rx_H) {z : (Int32 × Option rx_H)} (h : f_X7_put F x0 x1 x2 x3 u = some z) : rx_Ok l G (3 + 0 * F.2) (rx_ny 197) (.code (rx_ny 197) prog_9_method_83_code 5 (some .int)) [.ref x0, .int x1, .int x2, .long x3] (u.getD hf) (some (.int z.1)) (z.2.getD hf) := by
  have h := h
  unfold f_X7_put at h
  exact (rx_met (l := l) (G := G) (hf := hf) (as := [.ref x0, .int x1, .int x2, .long x3]) (r := (some (.int z.1))) (ls0 := [some (.ref x0), some (.int x1), some (.int x2), some (.long x3), none]) (y := rx_ny 197) (D := (2 + 0 * F.2)) (ini := false) (bo := false) (u := u) (u' := z.2) (by decide +kernel) (fun h => by cases h) (Nat.le_of_ble_eq_true rfl) (Or.inl ⟨rfl, rfl, _, rfl⟩) (fun Z hZ hB => rx_RT_hI hZ hB) (by exact ⟨Or.inr rfl, Or.inr rfl, Or.inr rfl, Or.inr rfl, Or.inl rfl, trivial⟩) (s_X7_put_0 (cc_X7_put F l G z) x0 x1 x2 x3 u h)).deep (by omega)
theorem w_X7_put (F : Nat × Nat) (l : Launch) (G : rx_G) {α : Type} {z : α} {as : List Value} {u : Option rx_H} {κ : rx_K α} (h : c_X7_put F as u κ = some z) : rx_Cw l G (3 + 0 * F.2) 197 as u κ z := by
  unfold c_X7_put at h
  split at h
  · obtain ⟨r, hr, h⟩ := Option.bind_eq_some_iff.mp h
    exact ⟨_, _, _, _, h, k_X7_put, fun h => absurd h (by decide), fun _ => ⟨_, _, rfl, rfl⟩, fun hf => m_X7_put F l G hf _ _ _ _ _ hr⟩
  · cases h
set_option maxRecDepth 100000 in
theorem k_X7_element : rx_Cal (rx_ny 153) (.code (rx_ny 153) prog_9_method_84_code 3 (some .long)) (rx_kd 153) 2 := ⟨prog_9_method_84_code, 3, (some .long), Or.inl rfl, rx_in (i := 1115) (by rfl) (by rfl), rx_in (i := 46) (by decide +kernel) (by decide +kernel), ⟨(by decide +kernel), (by decide +kernel), (by decide +kernel)⟩, Nat.le_of_ble_eq_true rfl, fun h => absurd h (by decide), fun _ => ⟨rx_in (i := 1113) (by decide +kernel) (by decide +kernel), rx_in (i := 1114) (by decide +kernel) (by decide +kernel)⟩, fun h => absurd h (by decide)⟩
set_option maxRecDepth 100000 in
theorem tk_X7_element : (t_X7_element.all (rx_eok "SetHouseModel" prog_9_method_84_code 3 false false) && rx_adj t_X7_element) = true := by decide +kernel
theorem s_X7_element_44 {F : Nat × Nat} {l : Launch} {G : rx_G} {D : Nat} {hf : rx_H} {z : (Int64 × Option rx_H)} (hC : rx_CC l G D (C_X7_element F) z) (x0 : Nat) (x1 : Int32) (x2 : Int32) (s0 : Nat) (s1 : Int32) (u : Option rx_H) (h : f_X7_element_44 F x0 x1 x2 s0 s1 u = some z) : rx_S l G ("SetHouseModel", prog_9_method_84_code, 3, false, false, D) hf (z.2.getD hf) rx_hJ z 44 [some (.ref x0), some (.int x1), some (.int x2)] [.int s1, .ref s0] u := by
  rw [g_X7_element_44] at h
  refine rx_S_node (md := ("SetHouseModel", prog_9_method_84_code, 3, false, false, D)) tk_X7_element hC rx_m_hJ (fun t ls st u h => ?_) h
  unfold kk_X7_element_44 at h
  cases h
theorem s_X7_element_0 {F : Nat × Nat} {l : Launch} {G : rx_G} {D : Nat} {hf : rx_H} {z : (Int64 × Option rx_H)} (hC : rx_CC l G D (C_X7_element F) z) (x0 : Nat) (x1 : Int32) (x2 : Int32) (u : Option rx_H) (h : f_X7_element_0 F x0 x1 x2 u = some z) : rx_S l G ("SetHouseModel", prog_9_method_84_code, 3, false, false, D) hf (z.2.getD hf) rx_hJ z 0 [some (.ref x0), some (.int x1), some (.int x2)] [] u := by
  rw [g_X7_element_0] at h
  refine rx_S_node (md := ("SetHouseModel", prog_9_method_84_code, 3, false, false, D)) tk_X7_element hC rx_m_hJ (fun t ls st u h => ?_) h
  unfold kk_X7_element_0 at h
  rcases rx_rec_eq h with ⟨hb, h⟩ | ⟨hb, h⟩
  · have ht := Nat.eq_of_beq_eq_true hb
    subst ht
    unfold n_X7_element_44 at h
    split at h
    · exact (s_X7_element_44 hC _ _ _ _ _ _ h).le ⟨Or.inr rfl, Or.inr rfl, Or.inr rfl, trivial⟩
    · cases h
  cases h
theorem cc_X7_element (F : Nat × Nat) (l : Launch) (G : rx_G) {α : Type} (z : α) : rx_CC l G (2 + 0 * F.2) (C_X7_element F) z := by
  intro j as u κ h
  unfold C_X7_element at h
  rcases rx_rec_eq h with ⟨hb, h⟩ | ⟨hb, h⟩
  · have ht := Nat.eq_of_beq_eq_true hb
    subst ht
    exact (w_X7_isIn F l G h).deep (by omega)
  rcases rx_rec_eq h with ⟨hb, h⟩ | ⟨hb, h⟩
  · have ht := Nat.eq_of_beq_eq_true hb
    subst ht
    exact (w_X7_isPlace F l G h).deep (by omega)
  cases h
theorem m_X7_element (F : Nat × Nat) (l : Launch) (G : rx_G) (hf : rx_H) (x0 : Nat) (x1 : Int32) (x2 : Int32) (u : Option rx_H) {z : (Int64 × Option rx_H)} (h : f_X7_element F x0 x1 x2 u = some z) : rx_Ok l G (3 + 0 * F.2) (rx_ny 153) (.code (rx_ny 153) prog_9_method_84_code 3 (some .long)) [.ref x0, .int x1, .int x2] (u.getD hf) (some (.long z.1)) (z.2.getD hf) := by
  have h := h
  unfold f_X7_element at h
  exact (rx_met (l := l) (G := G) (hf := hf) (as := [.ref x0, .int x1, .int x2]) (r := (some (.long z.1))) (ls0 := [some (.ref x0), some (.int x1), some (.int x2)]) (y := rx_ny 153) (D := (2 + 0 * F.2)) (ini := false) (bo := false) (u := u) (u' := z.2) (by decide +kernel) (fun h => by cases h) (Nat.le_of_ble_eq_true rfl) (Or.inr (Or.inr (Or.inl ⟨rfl, _, rfl⟩))) (fun Z hZ hB => rx_RT_hJ hZ hB) (by exact ⟨Or.inr rfl, Or.inr rfl, Or.inr rfl, trivial⟩) (s_X7_element_0 (cc_X7_element F l G z) x0 x1 x2 u h)).deep (by omega)
theorem w_X7_element (F : Nat × Nat) (l : Launch) (G : rx_G) {α : Type} {z : α} {as : List Value} {u : Option rx_H} {κ : rx_K α} (h : c_X7_element F as u κ = some z) : rx_Cw l G (3 + 0 * F.2) 153 as u κ z := by
  unfold c_X7_element at h
  split at h
  · obtain ⟨r, hr, h⟩ := Option.bind_eq_some_iff.mp h
    exact ⟨_, _, _, _, h, k_X7_element, fun h => absurd h (by decide), fun _ => ⟨_, _, rfl, rfl⟩, fun hf => m_X7_element F l G hf _ _ _ _ hr⟩
  · cases h
set_option maxRecDepth 100000 in
theorem k_X7_copy : rx_Cal (rx_ny 147) (.code (rx_ny 147) prog_9_method_85_code 7 (some .int)) (rx_kd 147) 5 := ⟨prog_9_method_85_code, 7, (some .int), Or.inl rfl, rx_in (i := 1119) (by rfl) (by rfl), rx_in (i := 46) (by decide +kernel) (by decide +kernel), ⟨(by decide +kernel), (by decide +kernel), (by decide +kernel)⟩, Nat.le_of_ble_eq_true rfl, fun h => absurd h (by decide), fun _ => ⟨rx_in (i := 1117) (by decide +kernel) (by decide +kernel), rx_in (i := 1118) (by decide +kernel) (by decide +kernel)⟩, fun h => absurd h (by decide)⟩
set_option maxRecDepth 100000 in
theorem tk_X7_copy : (t_X7_copy.all (rx_eok "SetHouseModel" prog_9_method_85_code 7 false false) && rx_adj t_X7_copy) = true := by decide +kernel
theorem s_X7_copy_154 {F : Nat × Nat} {l : Launch} {G : rx_G} {D : Nat} {hf : rx_H} {z : (Int32 × Option rx_H)} (hC : rx_CC l G D (C_X7_copy F) z) : ∀ (f : Nat) (x0 : Nat) (x3 : Int32) (x4 : Int32) (x5 : Int32) (x6 : Int32) (u : Option rx_H), f_X7_copy_154 F f x0 x3 x4 x5 x6 u = some z → rx_S l G ("SetHouseModel", prog_9_method_85_code, 7, false, false, D) hf (z.2.getD hf) rx_hI z 154 [some (.ref x0), none, none, some (.int x3), some (.int x4), some (.int x5), some (.int x6)] [] u := by
  intro f
  induction f with
  | zero =>
    intro x0 x3 x4 x5 x6 u h
    cases h
  | succ f ih =>
    intro x0 x3 x4 x5 x6 u h
    rw [g_X7_copy_154] at h
    refine rx_S_node (md := ("SetHouseModel", prog_9_method_85_code, 7, false, false, D)) tk_X7_copy hC rx_m_hI (fun t ls st u h => ?_) h
    unfold kk_X7_copy_154 at h
    rcases rx_rec_eq h with ⟨hb, h⟩ | ⟨hb, h⟩
    · have ht := Nat.eq_of_beq_eq_true hb
      subst ht
      unfold n_X7_copy_154 at h
      split at h
      · exact (ih _ _ _ _ _ _ h).le ⟨Or.inr rfl, Or.inl rfl, Or.inl rfl, Or.inr rfl, Or.inr rfl, Or.inr rfl, Or.inr rfl, trivial⟩
      · cases h
    cases h
theorem s_X7_copy_117 {F : Nat × Nat} {l : Launch} {G : rx_G} {D : Nat} {hf : rx_H} {z : (Int32 × Option rx_H)} (hC : rx_CC l G D (C_X7_copy F) z) : ∀ (f : Nat) (x0 : Nat) (x1 : Int32) (x2 : Int32) (x3 : Int32) (x4 : Int32) (x5 : Int32) (x6 : Int32) (u : Option rx_H), f_X7_copy_117 F f x0 x1 x2 x3 x4 x5 x6 u = some z → rx_S l G ("SetHouseModel", prog_9_method_85_code, 7, false, false, D) hf (z.2.getD hf) rx_hI z 117 [some (.ref x0), some (.int x1), some (.int x2), some (.int x3), some (.int x4), some (.int x5), some (.int x6)] [] u := by
  intro f
  induction f with
  | zero =>
    intro x0 x1 x2 x3 x4 x5 x6 u h
    cases h
  | succ f ih =>
    intro x0 x1 x2 x3 x4 x5 x6 u h
    rw [g_X7_copy_117] at h
    refine rx_S_node (md := ("SetHouseModel", prog_9_method_85_code, 7, false, false, D)) tk_X7_copy hC rx_m_hI (fun t ls st u h => ?_) h
    unfold kk_X7_copy_117 at h
    rcases rx_rec_eq h with ⟨hb, h⟩ | ⟨hb, h⟩
    · have ht := Nat.eq_of_beq_eq_true hb
      subst ht
      unfold n_X7_copy_117 at h
      split at h
      · exact (ih _ _ _ _ _ _ _ _ h).le ⟨Or.inr rfl, Or.inr rfl, Or.inr rfl, Or.inr rfl, Or.inr rfl, Or.inr rfl, Or.inr rfl, trivial⟩
      · cases h
    rcases rx_rec_eq h with ⟨hb, h⟩ | ⟨hb, h⟩
    · have ht := Nat.eq_of_beq_eq_true hb
      subst ht
      unfold n_X7_copy_154 at h
      split at h
      · exact (s_X7_copy_154 hC _ _ _ _ _ _ _ h).le ⟨Or.inr rfl, Or.inl rfl, Or.inl rfl, Or.inr rfl, Or.inr rfl, Or.inr rfl, Or.inr rfl, trivial⟩
      · cases h
    cases h
theorem s_X7_copy_0 {F : Nat × Nat} {l : Launch} {G : rx_G} {D : Nat} {hf : rx_H} {z : (Int32 × Option rx_H)} (hC : rx_CC l G D (C_X7_copy F) z) (x0 : Nat) (x1 : Int32) (x2 : Int32) (x3 : Int32) (x4 : Int32) (x5 : Int32) (u : Option rx_H) (h : f_X7_copy_0 F x0 x1 x2 x3 x4 x5 u = some z) : rx_S l G ("SetHouseModel", prog_9_method_85_code, 7, false, false, D) hf (z.2.getD hf) rx_hI z 0 [some (.ref x0), some (.int x1), some (.int x2), some (.int x3), some (.int x4), some (.int x5), none] [] u := by
  rw [g_X7_copy_0] at h
  refine rx_S_node (md := ("SetHouseModel", prog_9_method_85_code, 7, false, false, D)) tk_X7_copy hC rx_m_hI (fun t ls st u h => ?_) h
  unfold kk_X7_copy_0 at h
  rcases rx_rec_eq h with ⟨hb, h⟩ | ⟨hb, h⟩
  · have ht := Nat.eq_of_beq_eq_true hb
    subst ht
    unfold n_X7_copy_117 at h
    split at h
    · exact (s_X7_copy_117 hC _ _ _ _ _ _ _ _ _ h).le ⟨Or.inr rfl, Or.inr rfl, Or.inr rfl, Or.inr rfl, Or.inr rfl, Or.inr rfl, Or.inr rfl, trivial⟩
    · cases h
  cases h
theorem cc_X7_copy (F : Nat × Nat) (l : Launch) (G : rx_G) {α : Type} (z : α) : rx_CC l G (2 + 0 * F.2) (C_X7_copy F) z := by
  intro j as u κ h
  unfold C_X7_copy at h
  rcases rx_rec_eq h with ⟨hb, h⟩ | ⟨hb, h⟩
  · have ht := Nat.eq_of_beq_eq_true hb
    subst ht
    exact (w_X7_isPlace F l G h).deep (by omega)
  cases h
theorem m_X7_copy (F : Nat × Nat) (l : Launch) (G : rx_G) (hf : rx_H) (x0 : Nat) (x1 : Int32) (x2 : Int32) (x3 : Int32) (x4 : Int32) (x5 : Int32) (u : Option rx_H) {z : (Int32 × Option rx_H)} (h : f_X7_copy F x0 x1 x2 x3 x4 x5 u = some z) : rx_Ok l G (3 + 0 * F.2) (rx_ny 147) (.code (rx_ny 147) prog_9_method_85_code 7 (some .int)) [.ref x0, .int x1, .int x2, .int x3, .int x4, .int x5] (u.getD hf) (some (.int z.1)) (z.2.getD hf) := by
  have h := h
  unfold f_X7_copy at h
  exact (rx_met (l := l) (G := G) (hf := hf) (as := [.ref x0, .int x1, .int x2, .int x3, .int x4, .int x5]) (r := (some (.int z.1))) (ls0 := [some (.ref x0), some (.int x1), some (.int x2), some (.int x3), some (.int x4), some (.int x5), none]) (y := rx_ny 147) (D := (2 + 0 * F.2)) (ini := false) (bo := false) (u := u) (u' := z.2) (by decide +kernel) (fun h => by cases h) (Nat.le_of_ble_eq_true rfl) (Or.inl ⟨rfl, rfl, _, rfl⟩) (fun Z hZ hB => rx_RT_hI hZ hB) (by exact ⟨Or.inr rfl, Or.inr rfl, Or.inr rfl, Or.inr rfl, Or.inr rfl, Or.inr rfl, Or.inl rfl, trivial⟩) (s_X7_copy_0 (cc_X7_copy F l G z) x0 x1 x2 x3 x4 x5 u h)).deep (by omega)
theorem w_X7_copy (F : Nat × Nat) (l : Launch) (G : rx_G) {α : Type} {z : α} {as : List Value} {u : Option rx_H} {κ : rx_K α} (h : c_X7_copy F as u κ = some z) : rx_Cw l G (3 + 0 * F.2) 147 as u κ z := by
  unfold c_X7_copy at h
  split at h
  · obtain ⟨r, hr, h⟩ := Option.bind_eq_some_iff.mp h
    exact ⟨_, _, _, _, h, k_X7_copy, fun h => absurd h (by decide), fun _ => ⟨_, _, rfl, rfl⟩, fun hf => m_X7_copy F l G hf _ _ _ _ _ _ _ hr⟩
  · cases h
set_option maxRecDepth 100000 in
theorem k_X7_take : rx_Cal (rx_ny 213) (.code (rx_ny 213) prog_9_method_86_code 6 (some .int)) (rx_kd 213) 2 := ⟨prog_9_method_86_code, 6, (some .int), Or.inl rfl, rx_in (i := 1123) (by rfl) (by rfl), rx_in (i := 46) (by decide +kernel) (by decide +kernel), ⟨(by decide +kernel), (by decide +kernel), (by decide +kernel)⟩, Nat.le_of_ble_eq_true rfl, fun h => absurd h (by decide), fun _ => ⟨rx_in (i := 1121) (by decide +kernel) (by decide +kernel), rx_in (i := 1122) (by decide +kernel) (by decide +kernel)⟩, fun h => absurd h (by decide)⟩
set_option maxRecDepth 100000 in
theorem tk_X7_take : (t_X7_take.all (rx_eok "SetHouseModel" prog_9_method_86_code 6 false false) && rx_adj t_X7_take) = true := by decide +kernel
theorem s_X7_take_62 {F : Nat × Nat} {l : Launch} {G : rx_G} {D : Nat} {hf : rx_H} {z : (Int32 × Option rx_H)} (hC : rx_CC l G D (C_X7_take F) z) : ∀ (f : Nat) (x0 : Nat) (x1 : Int32) (x2 : Int32) (x3 : Int32) (u : Option rx_H), f_X7_take_62 F f x0 x1 x2 x3 u = some z → rx_S l G ("SetHouseModel", prog_9_method_86_code, 6, false, false, D) hf (z.2.getD hf) rx_hI z 62 [some (.ref x0), some (.int x1), some (.int x2), some (.int x3), none, none] [] u := by
  intro f
  induction f with
  | zero =>
    intro x0 x1 x2 x3 u h
    cases h
  | succ f ih =>
    intro x0 x1 x2 x3 u h
    rw [g_X7_take_62] at h
    refine rx_S_node (md := ("SetHouseModel", prog_9_method_86_code, 6, false, false, D)) tk_X7_take hC rx_m_hI (fun t ls st u h => ?_) h
    unfold kk_X7_take_62 at h
    rcases rx_rec_eq h with ⟨hb, h⟩ | ⟨hb, h⟩
    · have ht := Nat.eq_of_beq_eq_true hb
      subst ht
      unfold n_X7_take_62 at h
      split at h
      · exact (ih _ _ _ _ _ h).le ⟨Or.inr rfl, Or.inr rfl, Or.inr rfl, Or.inr rfl, Or.inl rfl, Or.inl rfl, trivial⟩
      · cases h
    cases h
theorem s_X7_take_0 {F : Nat × Nat} {l : Launch} {G : rx_G} {D : Nat} {hf : rx_H} {z : (Int32 × Option rx_H)} (hC : rx_CC l G D (C_X7_take F) z) (x0 : Nat) (x1 : Int32) (x2 : Int32) (u : Option rx_H) (h : f_X7_take_0 F x0 x1 x2 u = some z) : rx_S l G ("SetHouseModel", prog_9_method_86_code, 6, false, false, D) hf (z.2.getD hf) rx_hI z 0 [some (.ref x0), some (.int x1), some (.int x2), none, none, none] [] u := by
  rw [g_X7_take_0] at h
  refine rx_S_node (md := ("SetHouseModel", prog_9_method_86_code, 6, false, false, D)) tk_X7_take hC rx_m_hI (fun t ls st u h => ?_) h
  unfold kk_X7_take_0 at h
  rcases rx_rec_eq h with ⟨hb, h⟩ | ⟨hb, h⟩
  · have ht := Nat.eq_of_beq_eq_true hb
    subst ht
    unfold n_X7_take_62 at h
    split at h
    · exact (s_X7_take_62 hC _ _ _ _ _ _ h).le ⟨Or.inr rfl, Or.inr rfl, Or.inr rfl, Or.inr rfl, Or.inl rfl, Or.inl rfl, trivial⟩
    · cases h
  cases h
theorem cc_X7_take (F : Nat × Nat) (l : Launch) (G : rx_G) {α : Type} (z : α) : rx_CC l G (4 + 0 * F.2) (C_X7_take F) z := by
  intro j as u κ h
  unfold C_X7_take at h
  rcases rx_rec_eq h with ⟨hb, h⟩ | ⟨hb, h⟩
  · have ht := Nat.eq_of_beq_eq_true hb
    subst ht
    exact (w_X7_adds F l G h).deep (by omega)
  rcases rx_rec_eq h with ⟨hb, h⟩ | ⟨hb, h⟩
  · have ht := Nat.eq_of_beq_eq_true hb
    subst ht
    exact (w_X7_isPlace F l G h).deep (by omega)
  rcases rx_rec_eq h with ⟨hb, h⟩ | ⟨hb, h⟩
  · have ht := Nat.eq_of_beq_eq_true hb
    subst ht
    exact (w_X7_lacks F l G h).deep (by omega)
  cases h
theorem m_X7_take (F : Nat × Nat) (l : Launch) (G : rx_G) (hf : rx_H) (x0 : Nat) (x1 : Int32) (x2 : Int32) (u : Option rx_H) {z : (Int32 × Option rx_H)} (h : f_X7_take F x0 x1 x2 u = some z) : rx_Ok l G (5 + 0 * F.2) (rx_ny 213) (.code (rx_ny 213) prog_9_method_86_code 6 (some .int)) [.ref x0, .int x1, .int x2] (u.getD hf) (some (.int z.1)) (z.2.getD hf) := by
  have h := h
  unfold f_X7_take at h
  exact (rx_met (l := l) (G := G) (hf := hf) (as := [.ref x0, .int x1, .int x2]) (r := (some (.int z.1))) (ls0 := [some (.ref x0), some (.int x1), some (.int x2), none, none, none]) (y := rx_ny 213) (D := (4 + 0 * F.2)) (ini := false) (bo := false) (u := u) (u' := z.2) (by decide +kernel) (fun h => by cases h) (Nat.le_of_ble_eq_true rfl) (Or.inl ⟨rfl, rfl, _, rfl⟩) (fun Z hZ hB => rx_RT_hI hZ hB) (by exact ⟨Or.inr rfl, Or.inr rfl, Or.inr rfl, Or.inl rfl, Or.inl rfl, Or.inl rfl, trivial⟩) (s_X7_take_0 (cc_X7_take F l G z) x0 x1 x2 u h)).deep (by omega)
theorem w_X7_take (F : Nat × Nat) (l : Launch) (G : rx_G) {α : Type} {z : α} {as : List Value} {u : Option rx_H} {κ : rx_K α} (h : c_X7_take F as u κ = some z) : rx_Cw l G (5 + 0 * F.2) 213 as u κ z := by
  unfold c_X7_take at h
  split at h
  · obtain ⟨r, hr, h⟩ := Option.bind_eq_some_iff.mp h
    exact ⟨_, _, _, _, h, k_X7_take, fun h => absurd h (by decide), fun _ => ⟨_, _, rfl, rfl⟩, fun hf => m_X7_take F l G hf _ _ _ _ hr⟩
  · cases h
set_option maxRecDepth 100000 in
theorem k_X7_heft : rx_Cal (rx_ny 165) (.code (rx_ny 165) prog_9_method_87_code 3 (some .int)) (rx_kd 165) 1 := ⟨prog_9_method_87_code, 3, (some .int), Or.inl rfl, rx_in (i := 1127) (by rfl) (by rfl), rx_in (i := 46) (by decide +kernel) (by decide +kernel), ⟨(by decide +kernel), (by decide +kernel), (by decide +kernel)⟩, Nat.le_of_ble_eq_true rfl, fun h => absurd h (by decide), fun _ => ⟨rx_in (i := 1125) (by decide +kernel) (by decide +kernel), rx_in (i := 1126) (by decide +kernel) (by decide +kernel)⟩, fun h => absurd h (by decide)⟩
set_option maxRecDepth 100000 in
theorem tk_X7_heft : (t_X7_heft.all (rx_eok "SetHouseModel" prog_9_method_87_code 3 false false) && rx_adj t_X7_heft) = true := by decide +kernel
theorem s_X7_heft_0 {F : Nat × Nat} {l : Launch} {G : rx_G} {D : Nat} {hf : rx_H} {z : (Int32 × Option rx_H)} (hC : rx_CC l G D (C_X7_heft F) z) (x0 : Nat) (x1 : Int32) (u : Option rx_H) (h : f_X7_heft_0 F x0 x1 u = some z) : rx_S l G ("SetHouseModel", prog_9_method_87_code, 3, false, false, D) hf (z.2.getD hf) rx_hI z 0 [some (.ref x0), some (.int x1), none] [] u := by
  rw [g_X7_heft_0] at h
  refine rx_S_node (md := ("SetHouseModel", prog_9_method_87_code, 3, false, false, D)) tk_X7_heft hC rx_m_hI (fun t ls st u h => ?_) h
  unfold kk_X7_heft_0 at h
  cases h
theorem cc_X7_heft (F : Nat × Nat) (l : Launch) (G : rx_G) {α : Type} (z : α) : rx_CC l G (2 + 0 * F.2) (C_X7_heft F) z := by
  intro j as u κ h
  unfold C_X7_heft at h
  rcases rx_rec_eq h with ⟨hb, h⟩ | ⟨hb, h⟩
  · have ht := Nat.eq_of_beq_eq_true hb
    subst ht
    exact (w_X7_isPlace F l G h).deep (by omega)
  rcases rx_rec_eq h with ⟨hb, h⟩ | ⟨hb, h⟩
  · have ht := Nat.eq_of_beq_eq_true hb
    subst ht
    exact (w_X7_lacks F l G h).deep (by omega)
  rcases rx_rec_eq h with ⟨hb, h⟩ | ⟨hb, h⟩
  · have ht := Nat.eq_of_beq_eq_true hb
    subst ht
    exact (w_X7_many F l G h).deep (by omega)
  cases h
theorem m_X7_heft (F : Nat × Nat) (l : Launch) (G : rx_G) (hf : rx_H) (x0 : Nat) (x1 : Int32) (u : Option rx_H) {z : (Int32 × Option rx_H)} (h : f_X7_heft F x0 x1 u = some z) : rx_Ok l G (3 + 0 * F.2) (rx_ny 165) (.code (rx_ny 165) prog_9_method_87_code 3 (some .int)) [.ref x0, .int x1] (u.getD hf) (some (.int z.1)) (z.2.getD hf) := by
  have h := h
  unfold f_X7_heft at h
  exact (rx_met (l := l) (G := G) (hf := hf) (as := [.ref x0, .int x1]) (r := (some (.int z.1))) (ls0 := [some (.ref x0), some (.int x1), none]) (y := rx_ny 165) (D := (2 + 0 * F.2)) (ini := false) (bo := false) (u := u) (u' := z.2) (by decide +kernel) (fun h => by cases h) (Nat.le_of_ble_eq_true rfl) (Or.inl ⟨rfl, rfl, _, rfl⟩) (fun Z hZ hB => rx_RT_hI hZ hB) (by exact ⟨Or.inr rfl, Or.inr rfl, Or.inl rfl, trivial⟩) (s_X7_heft_0 (cc_X7_heft F l G z) x0 x1 u h)).deep (by omega)
theorem w_X7_heft (F : Nat × Nat) (l : Launch) (G : rx_G) {α : Type} {z : α} {as : List Value} {u : Option rx_H} {κ : rx_K α} (h : c_X7_heft F as u κ = some z) : rx_Cw l G (3 + 0 * F.2) 165 as u κ z := by
  unfold c_X7_heft at h
  split at h
  · obtain ⟨r, hr, h⟩ := Option.bind_eq_some_iff.mp h
    exact ⟨_, _, _, _, h, k_X7_heft, fun h => absurd h (by decide), fun _ => ⟨_, _, rfl, rfl⟩, fun hf => m_X7_heft F l G hf _ _ _ hr⟩
  · cases h
set_option maxRecDepth 100000 in
theorem k_X7_toss : rx_Cal (rx_ny 215) (.code (rx_ny 215) prog_9_method_88_code 2 (some .int)) (rx_kd 215) 1 := ⟨prog_9_method_88_code, 2, (some .int), Or.inl rfl, rx_in (i := 1131) (by rfl) (by rfl), rx_in (i := 46) (by decide +kernel) (by decide +kernel), ⟨(by decide +kernel), (by decide +kernel), (by decide +kernel)⟩, Nat.le_of_ble_eq_true rfl, fun h => absurd h (by decide), fun _ => ⟨rx_in (i := 1129) (by decide +kernel) (by decide +kernel), rx_in (i := 1130) (by decide +kernel) (by decide +kernel)⟩, fun h => absurd h (by decide)⟩
set_option maxRecDepth 100000 in
theorem tk_X7_toss : (t_X7_toss.all (rx_eok "SetHouseModel" prog_9_method_88_code 2 false false) && rx_adj t_X7_toss) = true := by decide +kernel
theorem s_X7_toss_0 {F : Nat × Nat} {l : Launch} {G : rx_G} {D : Nat} {hf : rx_H} {z : (Int32 × Option rx_H)} (hC : rx_CC l G D (C_X7_toss F) z) (x0 : Nat) (x1 : Int32) (u : Option rx_H) (h : f_X7_toss_0 F x0 x1 u = some z) : rx_S l G ("SetHouseModel", prog_9_method_88_code, 2, false, false, D) hf (z.2.getD hf) rx_hI z 0 [some (.ref x0), some (.int x1)] [] u := by
  rw [g_X7_toss_0] at h
  refine rx_S_node (md := ("SetHouseModel", prog_9_method_88_code, 2, false, false, D)) tk_X7_toss hC rx_m_hI (fun t ls st u h => ?_) h
  unfold kk_X7_toss_0 at h
  cases h
theorem cc_X7_toss (F : Nat × Nat) (l : Launch) (G : rx_G) {α : Type} (z : α) : rx_CC l G (2 + 0 * F.2) (C_X7_toss F) z := by
  intro j as u κ h
  unfold C_X7_toss at h
  rcases rx_rec_eq h with ⟨hb, h⟩ | ⟨hb, h⟩
  · have ht := Nat.eq_of_beq_eq_true hb
    subst ht
    exact (w_X7_isPlace F l G h).deep (by omega)
  rcases rx_rec_eq h with ⟨hb, h⟩ | ⟨hb, h⟩
  · have ht := Nat.eq_of_beq_eq_true hb
    subst ht
    exact (w_X7_lacks F l G h).deep (by omega)
  cases h
theorem m_X7_toss (F : Nat × Nat) (l : Launch) (G : rx_G) (hf : rx_H) (x0 : Nat) (x1 : Int32) (u : Option rx_H) {z : (Int32 × Option rx_H)} (h : f_X7_toss F x0 x1 u = some z) : rx_Ok l G (3 + 0 * F.2) (rx_ny 215) (.code (rx_ny 215) prog_9_method_88_code 2 (some .int)) [.ref x0, .int x1] (u.getD hf) (some (.int z.1)) (z.2.getD hf) := by
  have h := h
  unfold f_X7_toss at h
  exact (rx_met (l := l) (G := G) (hf := hf) (as := [.ref x0, .int x1]) (r := (some (.int z.1))) (ls0 := [some (.ref x0), some (.int x1)]) (y := rx_ny 215) (D := (2 + 0 * F.2)) (ini := false) (bo := false) (u := u) (u' := z.2) (by decide +kernel) (fun h => by cases h) (Nat.le_of_ble_eq_true rfl) (Or.inl ⟨rfl, rfl, _, rfl⟩) (fun Z hZ hB => rx_RT_hI hZ hB) (by exact ⟨Or.inr rfl, Or.inr rfl, trivial⟩) (s_X7_toss_0 (cc_X7_toss F l G z) x0 x1 u h)).deep (by omega)
theorem w_X7_toss (F : Nat × Nat) (l : Launch) (G : rx_G) {α : Type} {z : α} {as : List Value} {u : Option rx_H} {κ : rx_K α} (h : c_X7_toss F as u κ = some z) : rx_Cw l G (3 + 0 * F.2) 215 as u κ z := by
  unfold c_X7_toss at h
  split at h
  · obtain ⟨r, hr, h⟩ := Option.bind_eq_some_iff.mp h
    exact ⟨_, _, _, _, h, k_X7_toss, fun h => absurd h (by decide), fun _ => ⟨_, _, rfl, rfl⟩, fun hf => m_X7_toss F l G hf _ _ _ hr⟩
  · cases h
set_option maxRecDepth 100000 in
theorem k_L_cell : rx_Cal (rx_ny 5) (.code (rx_ny 5) method_2_code 2 (some .int)) (rx_kd 5) 2 := ⟨method_2_code, 2, (some .int), Or.inl rfl, rx_in (i := 714) (by rfl) (by rfl), rx_in (i := 40) (by decide +kernel) (by decide +kernel), ⟨(by decide +kernel), (by decide +kernel), (by decide +kernel)⟩, Nat.le_of_ble_eq_true rfl, fun _ => rx_in (i := 713) (by decide +kernel) (by decide +kernel), fun h => absurd h (by decide), fun h => absurd h (by decide)⟩
set_option maxRecDepth 100000 in
theorem tk_L_cell : (t_L_cell.all (rx_eok "SetHouseLaw" method_2_code 2 false false) && rx_adj t_L_cell) = true := by decide +kernel
theorem s_L_cell_0 {F : Nat × Nat} {l : Launch} {G : rx_G} {D : Nat} {hf : rx_H} {z : (Int32 × Option rx_H)} (hC : rx_CC l G D (C_L_cell F) z) (x0 : Nat) (x1 : Int32) (u : Option rx_H) (h : f_L_cell_0 F x0 x1 u = some z) : rx_S l G ("SetHouseLaw", method_2_code, 2, false, false, D) hf (z.2.getD hf) rx_hI z 0 [some (.ref x0), some (.int x1)] [] u := by
  rw [g_L_cell_0] at h
  refine rx_S_node (md := ("SetHouseLaw", method_2_code, 2, false, false, D)) tk_L_cell hC rx_m_hI (fun t ls st u h => ?_) h
  unfold kk_L_cell_0 at h
  cases h
theorem cc_L_cell (F : Nat × Nat) (l : Launch) (G : rx_G) {α : Type} (z : α) : rx_CC l G (0 + 0 * F.2) (C_L_cell F) z := by
  intro j as u κ h
  unfold C_L_cell at h
  cases h
theorem m_L_cell (F : Nat × Nat) (l : Launch) (G : rx_G) (hf : rx_H) (x0 : Nat) (x1 : Int32) (u : Option rx_H) {z : (Int32 × Option rx_H)} (h : f_L_cell F x0 x1 u = some z) : rx_Ok l G (1 + 0 * F.2) (rx_ny 5) (.code (rx_ny 5) method_2_code 2 (some .int)) [.ref x0, .int x1] (u.getD hf) (some (.int z.1)) (z.2.getD hf) := by
  have h := h
  unfold f_L_cell at h
  exact (rx_met (l := l) (G := G) (hf := hf) (as := [.ref x0, .int x1]) (r := (some (.int z.1))) (ls0 := [some (.ref x0), some (.int x1)]) (y := rx_ny 5) (D := (0 + 0 * F.2)) (ini := false) (bo := false) (u := u) (u' := z.2) (by decide +kernel) (fun h => by cases h) (Nat.le_of_ble_eq_true rfl) (Or.inl ⟨rfl, rfl, _, rfl⟩) (fun Z hZ hB => rx_RT_hI hZ hB) (by exact ⟨Or.inr rfl, Or.inr rfl, trivial⟩) (s_L_cell_0 (cc_L_cell F l G z) x0 x1 u h)).deep (by omega)
theorem w_L_cell (F : Nat × Nat) (l : Launch) (G : rx_G) {α : Type} {z : α} {as : List Value} {u : Option rx_H} {κ : rx_K α} (h : c_L_cell F as u κ = some z) : rx_Cw l G (1 + 0 * F.2) 5 as u κ z := by
  unfold c_L_cell at h
  split at h
  · obtain ⟨r, hr, h⟩ := Option.bind_eq_some_iff.mp h
    exact ⟨_, _, _, _, h, k_L_cell, fun _ => rfl, fun h => absurd rfl h, fun hf => m_L_cell F l G hf _ _ _ hr⟩
  · cases h
