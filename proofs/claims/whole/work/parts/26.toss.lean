theorem rx_push_hx {u : Option rx_H} {q : Nat × Option rx_H} (h : rx_push u rx_exc = some q) : ∃ h0 : rx_H, u = some h0 ∧ h0.2.length < 999999 ∧ q.2 = some (rx_hx h0) := by
  unfold rx_push at h
  split at h
  · cases h
  · split at h
    · next hl => cases h; exact ⟨_, rfl, hl, rfl⟩
    · cases h
section rxT3
variable {Z : rx_Z} {pc : Nat}
/-- the store of what was caught, into a place of the locals -/
theorem rx_t_stx (F : rx_Fr Z) {hp i len : Nat} {als als' : rx_L} {h : rx_H} (hi : i < zn Z) (hd : (decode (zcc Z) hp = .ok (.astore i, 2) ∧ len = 2) ∨ (∃ j : Fin 4, j.val = i ∧ decode (zcc Z) hp = .ok (.astore_n j, 1) ∧ len = 1)) (he : (rx_kill als i).set i none = als') (k : rx_O Z (hp + len) als' [] (some h)) :
    ∀ q : Nat, zn0 Z ≤ h.2.length → zs0 Z ≤ rx_sl h → (h.2.length ≤ zn1 Z ∧ rx_sl h ≤ zs1 Z) ∧ ∀ (H : Heap) (ls : Array Slot) (locs : List Loc), rx_R (zG Z) h H → rx_lo (zG Z) ls (zn Z) als → (∀ q ∈ locs, rx_base (zG Z) ≤ q.base) → zW Z H locs (h.2.length - zn0 Z) (rx_sl h - zs0 Z) (F0 (zM Z) hp ls [.ref q]) := by
  intro q g1 g2
  obtain ⟨g3, g4⟩ := k g1 g2
  refine ⟨g3, fun H ls locs h1 h2 h3 => ?_⟩
  rcases hd with ⟨hd, rfl⟩ | ⟨j, rfl, hd, rfl⟩
  · exact lv_astore F.1 F.2.1 hd h2.has hi rfl fun ls' hl => g4 H ls' locs h1 (he ▸ rx_s1_no h2.1 hi hl) h3
  · exact lv_astore_n F.1 F.2.1 hd rfl h2.has hi rfl fun ls' hl => g4 H ls' locs h1 (he ▸ rx_s1_no h2.1 hi hl) h3
theorem rx_O_ret (F : rx_Fr Z) {v : Value} {als : rx_L} {h : rx_H} {h' : rx_H} (hB : rx_BR Z (some v) h') (hh : h = h') (hn : h'.2.length ≤ zn1 Z) (hs : rx_sl h' ≤ zs1 Z) (hrv : rx_rv Z pc (some v)) : rx_O Z pc als [v] (some h) := by
  subst hh
  exact fun _ _ => ⟨⟨hn, hs⟩, fun H lz locs k1 k2 k3 => hB pc lz H locs hrv k1 k3⟩
end rxT3
theorem rx_hd1 {Z : rx_Z} (htab : (zC Z).exceptionTable.toList = tableOf [(13, 22, 25, 259)]) (hown : zo Z = "SetHouse") : rx_Hd Z "java/lang/IllegalStateException" 19 25 :=
  ⟨[], _, [], "java/lang/IllegalStateException", by rw [htab]; rfl, (fun z hz => by cases hz), by decide +kernel, by decide, by rw [hown]; exact rx_in (i := 640) (by decide +kernel) (by decide +kernel), rx_te (i := 647) (by decide +kernel) (by decide +kernel), rfl⟩
theorem rx_hd2 {Z : rx_Z} (htab : (zC Z).exceptionTable.toList = tableOf [(0, 9, 12, 13), (0, 9, 16, 15)]) (hown : zo Z = "SetHouseLaw") : rx_Hd Z "java/lang/IllegalArgumentException" 5 12 :=
  ⟨[], _, _, "java/lang/IllegalArgumentException", by rw [htab]; rfl, (fun z hz => by cases hz), by decide +kernel, by decide, by rw [hown]; exact rx_in (i := 718) (by decide +kernel) (by decide +kernel), rx_te (i := 726) (by decide +kernel) (by decide +kernel), rfl⟩
theorem rx_hd3 {Z : rx_Z} (Fr : rx_Fr Z) (htab : (zC Z).exceptionTable.toList = tableOf [(0, 9, 12, 13), (0, 9, 16, 15)]) (hown : zo Z = "SetHouseLaw") : rx_Hd Z "java/lang/IllegalStateException" 5 16 := by
  have hKE := Fr.2.2.2.2.2.1.2.2.2.2.2.2.2.2.2.2
  refine ⟨tableOf [(0, 9, 12, 13)], _, [], "java/lang/IllegalStateException", by rw [htab]; rfl, (fun z hz => Or.inr ?_), by decide +kernel, by decide, by rw [hown]; exact rx_in (i := 719) (by decide +kernel) (by decide +kernel), rx_te (i := 647) (by decide +kernel) (by decide +kernel), rfl⟩
  have hz2 : z ∈ tableOf [(0, 9, 12, 13)] := hz
  have hz3 : z.catchType = 13 := by
    rw [show tableOf [(0, 9, 12, 13)] = [_] from rfl, List.mem_singleton] at hz2
    rw [hz2]
  rw [hz3]
  exact ⟨by decide, "java/lang/IllegalArgumentException", by rw [hown]; exact rx_in (i := 718) (by decide +kernel) (by decide +kernel), hKE.2.2.2.2.2.2.2⟩
theorem rx_fr_u {F : Nat × Nat} {x0 : Nat} {x1 x2 : Int32} {u : Option rx_H} {z : Int32 × Option rx_H} (h : f_X6_familyRefusal F x0 x1 x2 u = some z) : z.2 = u := by
  unfold f_X6_familyRefusal f_X6_familyRefusal_0 at h
  split at h
  · cases h; rfl
  obtain ⟨w, -, h⟩ := Option.bind_eq_some_iff.mp h
  obtain ⟨v1, -, h⟩ := Option.bind_eq_some_iff.mp h
  split at h
  · cases h; rfl
  obtain ⟨v2, -, h⟩ := Option.bind_eq_some_iff.mp h
  obtain ⟨v3, -, h⟩ := Option.bind_eq_some_iff.mp h
  obtain ⟨v4, -, h⟩ := Option.bind_eq_some_iff.mp h
  split at h
  · cases h; rfl
  obtain ⟨v5, -, h⟩ := Option.bind_eq_some_iff.mp h
  obtain ⟨v6, -, h⟩ := Option.bind_eq_some_iff.mp h
  obtain ⟨w, -, h⟩ := Option.bind_eq_some_iff.mp h
  obtain ⟨v7, h7, h⟩ := Option.bind_eq_some_iff.mp h
  have := rx_isRow_u h7
  split at h <;> cases h <;> exact this
section rxTo
variable {Z : rx_Z} {F : Nat × Nat} {x0 : Nat} {x1 : Int32} {u : Option rx_H}
theorem to_0 (Fr : rx_Fr Z) (hown : zo Z = "SetHouse") (hcc : zcc Z = prog_1_method_48_code) (hnl : zn Z = 4) (hzd : 8 ≤ zd Z) (hck : rx_ck u x0 2 = some ()) {v : Int32} (h1 : f_X6_familyRefusal F x0 x1 1 u = some (v, u))
    (k11 : ¬ v = 0 → rx_O Z 11 [some (.ref x0), some (.int x1), some (.int v), none] [] u) (k13 : v = 0 → rx_O Z 13 [some (.ref x0), some (.int x1), some (.int v), none] [] u) : rx_O Z 0 [some (.ref x0), some (.int x1), none, none] [] u := by
  have O8 : rx_O Z 8 [some (.ref x0), some (.int x1), some (.int v), none] [.int v] u := by
    by_cases hv : v = 0
    · exact rx_t_if Fr (cd := .eq) (off := 5) (t := 13) (by decide) (by rw [hcc]; decide +kernel) (α := Unit) (kt := some ()) (kf := none) (r := ()) (by simp [rx_if, hv]) (fun _ => k13 hv) (fun h => by cases h)
    · exact rx_t_if Fr (cd := .eq) (off := 5) (t := 13) (by decide) (by rw [hcc]; decide +kernel) (α := Unit) (kt := none) (kf := some ()) (r := ()) (by simp [rx_if, hv]) (fun h => by cases h) (fun _ => k11 hv)
  have O7 : rx_O Z 7 [some (.ref x0), some (.int x1), some (.int v), none] [] u := O8.map (rx_t_iload_n Fr (i := 2) rfl (by rw [hcc]; decide +kernel))
  have O6 : rx_O Z 6 [some (.ref x0), some (.int x1), none, none] [.int v] u := O7.map (fun k => rx_t_istore_n Fr (i := 2) (by rw [hnl]; decide) (by rw [hcc]; decide +kernel) k)
  have O3 : rx_O Z 3 [some (.ref x0), some (.int x1), none, none] [.int 1, .int x1, .ref x0] u := rx_t_callV Fr (i := 61) (j := 92) (ci := 2) (as := [.int x1, .int 1]) (rest := []) (r := some (.int v)) (u' := u) (q := ("SetHouse", rx_T2, 6)) rfl (by decide +kernel) hck (by rw [hown]; exact rx_in (i := 194) (by decide +kernel) (by decide +kernel)) k_X6_familyRefusal rfl (by decide) ((m_X6_familyRefusal F _ _ _ x0 x1 1 u h1).deep (by omega)) (by rw [hcc]; decide +kernel) O6
  exact ((O3.map (rx_t_iconst Fr (n := 1) rfl (by rw [hcc]; decide +kernel))).map (rx_t_iload_n Fr (i := 1) rfl (by rw [hcc]; decide +kernel))).map (rx_t_aload_n Fr (i := 0) rfl (by rw [hcc]; decide +kernel))
theorem to_13 (Fr : rx_Fr Z) (hown : zo Z = "SetHouse") (hcc : zcc Z = prog_1_method_48_code) {v : Int32} {v2 v3 : Nat} (h2 : rx_gR u x0 2 2 = some v2) (h3 : rx_aR u v2 x1 = some v3)
    (k : rx_O Z 19 [some (.ref x0), some (.int x1), some (.int v), none] [.ref v3] u) : rx_O Z 13 [some (.ref x0), some (.int x1), some (.int v), none] [] u :=
  (((k.map (rx_t_aald Fr h3 (by rw [hcc]; decide +kernel))).map (rx_t_iload_n Fr (i := 1) rfl (by rw [hcc]; decide +kernel))).map (rx_t_getf Fr (i := 24) (a := 2) (k := 2) (q := ("SetHouse", rx_T2, 6)) rfl (by decide) (by rw [hown]; exact rx_in (i := 137) (by decide +kernel) (by decide +kernel)) (rx_gR_fd h2) (by rw [hcc]; decide +kernel))).map (rx_t_aload_n Fr (i := 0) rfl (by rw [hcc]; decide +kernel))
theorem to_26 (Fr : rx_Fr Z) (hown : zo Z = "SetHouse") (hcc : zcc Z = prog_1_method_48_code) {v w : Int32} {v2 v3 : Nat} (h2 : rx_gR u x0 2 2 = some v2) (h3 : rx_aR u v2 x1 = some v3) (h4 : rx_gI u v3 0 1 = some w)
    (k : rx_O Z 35 [some (.ref x0), some (.int x1), some (.int v), none] [.int w] u) : rx_O Z 26 [some (.ref x0), some (.int x1), some (.int v), none] [] u :=
  ((((k.map (rx_t_getf Fr (i := 107) (a := 0) (k := 1) (q := ("SetHouse$Place", rx_T0, 6)) rfl (by decide) (by rw [hown]; exact rx_in (i := 81) (by decide +kernel) (by decide +kernel)) (rx_gI_fd h4) (by rw [hcc]; decide +kernel))).map (rx_t_aald Fr h3 (by rw [hcc]; decide +kernel))).map (rx_t_iload_n Fr (i := 1) rfl (by rw [hcc]; decide +kernel))).map (rx_t_getf Fr (i := 24) (a := 2) (k := 2) (q := ("SetHouse", rx_T2, 6)) rfl (by decide) (by rw [hown]; exact rx_in (i := 137) (by decide +kernel) (by decide +kernel)) (rx_gR_fd h2) (by rw [hcc]; decide +kernel))).map (rx_t_aload_n Fr (i := 0) rfl (by rw [hcc]; decide +kernel))
end rxTo
/-- toss -/
theorem m_X6_toss {l : Launch} (hl : l.stackTraces = false) (F : Nat × Nat) (G : rx_G) (hf : rx_H) (x0 : Nat) (x1 : Int32) (u : Option rx_H) {z : Int32 × Option rx_H} (h : f_X6_toss F x0 x1 u = some z) : rx_Ok l G 12 (rx_ny 130) rx_cwT [.ref x0, .int x1] (u.getD hf) (some (.int z.1)) (z.2.getD hf) := by
  unfold f_X6_toss at h
  obtain ⟨w0, hck, h⟩ := Option.bind_eq_some_iff.mp h
  obtain ⟨⟨v1, u1⟩, h1, h⟩ := Option.bind_eq_some_iff.mp h
  obtain ⟨h0, fs, rfl, hr0⟩ := rx_ck_some hck
  have e1 : u1 = some h0 := rx_fr_u h1
  subst e1
  have hpl : plainFor (rx_ny 130) = true := by decide +kernel
  have hle : (rx_ent1 [.ref x0, .int x1]).length ≤ 4 := Nat.le_of_ble_eq_true rfl
  dsimp only at h
  split at h
  · next hv0 =>
    obtain ⟨v2, h2, h⟩ := Option.bind_eq_some_iff.mp h
    obtain ⟨v3, h3, h⟩ := Option.bind_eq_some_iff.mp h
    obtain ⟨v4, h4, h⟩ := Option.bind_eq_some_iff.mp h
    obtain ⟨v5, h5, h⟩ := Option.bind_eq_some_iff.mp h
    split at h
    · next hv5 =>
      cases h
      subst hv5
      refine rx_metW (D := 11) (bo := false) hpl hle (Or.inl ⟨rfl, rfl, _, rfl⟩) ⟨Nat.le_refl _, Nat.le_refl _⟩ ?_
      intro Z hZ n0 s0 htab Fr hB
      obtain ⟨z1, z2, z3, z4, z5, z6⟩ := hZ
      subst z1 z2
      obtain ⟨hown, z4⟩ := rx_q2 z4
      obtain ⟨hcc, z4⟩ := rx_q2 z4
      obtain ⟨hnl, z4⟩ := rx_q2 z4
      obtain ⟨hzi, z4⟩ := rx_q2 z4
      obtain ⟨hzb, hzd⟩ := rx_q2 z4
      have O38 : rx_O Z 38 [some (.ref x0), some (.int x1), some (.int v1), none] [.int (-15)] (some h0) := rx_O_ret Fr hB rfl (by rw [z5]; exact Nat.le_refl _) (by rw [z6]; exact Nat.le_refl _) ⟨by rw [hcc]; decide +kernel, fun q => by rw [hzb] at q; cases q⟩
      have O36 : rx_O Z 36 [some (.ref x0), some (.int x1), some (.int v1), none] [] (some h0) := O38.map (rx_t_bipush Fr (n := -15) (by decide +kernel) (by rw [hcc]; decide +kernel))
      have O22 : rx_O Z 22 [some (.ref x0), some (.int x1), some (.int v1), none] [] (some h0) := O36.map (rx_t_goto Fr (off := 14) (t := 36) (by decide) (by rw [hcc]; decide +kernel))
      have O19 : rx_O Z 19 [some (.ref x0), some (.int x1), some (.int v1), none] [.ref v3] (some h0) := rx_t_callS Fr (i := 279) (j := 34) (as := [.ref v3]) (rest := []) (r := none) (u' := some h0) (by rw [hown]; exact rx_in (i := 641) (by decide +kernel) (by decide +kernel)) k_X1_fail rfl (by decide) ((m_X1_fail F h0 (u := some h0) h4 h5).deep (by omega)) (by rw [hcc]; decide +kernel) O22
      exact to_0 Fr hown hcc hnl (by omega) hck h1 (fun q => absurd hv0 q) (fun _ => to_13 Fr hown hcc h2 h3 O19)
    · next hv5 =>
      obtain ⟨v6, h6, h⟩ := Option.bind_eq_some_iff.mp h
      obtain ⟨v7, h7, h⟩ := Option.bind_eq_some_iff.mp h
      obtain ⟨v8, h8, h⟩ := Option.bind_eq_some_iff.mp h
      obtain ⟨v9, h9, h⟩ := Option.bind_eq_some_iff.mp h
      cases h
      obtain ⟨h', e', hlt, e6⟩ := rx_push_hx h6
      cases e'
      rw [e6] at h7 h8 h9 ⊢
      show rx_Ok l G 12 (rx_ny 130) rx_cwT [.ref x0, .int x1] h0 (some (.int v9)) (rx_hx h0)
      refine rx_metW (D := 11) (bo := false) hpl hle (Or.inl ⟨rfl, rfl, _, rfl⟩) ⟨by rw [rx_len_hx]; omega, by rw [rx_sl_hx]; omega⟩ ?_
      intro Z hZ n0 s0 htab Fr hB
      obtain ⟨z1, z2, z3, z4, z5, z6⟩ := hZ
      subst z1 z2
      obtain ⟨hown, z4⟩ := rx_q2 z4
      obtain ⟨hcc, z4⟩ := rx_q2 z4
      obtain ⟨hnl, z4⟩ := rx_q2 z4
      obtain ⟨hzi, z4⟩ := rx_q2 z4
      obtain ⟨hzb, hzd⟩ := rx_q2 z4
      have O35 : rx_O Z 35 [some (.ref x0), some (.int x1), some (.int v1), none] [.int v9] (some (rx_hx h0)) := rx_O_ret Fr hB rfl (by rw [z5]; exact Nat.le_refl _) (by rw [z6]; exact Nat.le_refl _) ⟨by rw [hcc]; decide +kernel, fun q => by rw [hzb] at q; cases q⟩
      have O26 : rx_O Z (25 + 1) [some (.ref x0), some (.int x1), some (.int v1), none] [] (some (rx_hx h0)) := to_26 Fr hown hcc h7 h8 h9 O35
      have O19 : rx_O Z 19 [some (.ref x0), some (.int x1), some (.int v1), none] [.ref v3] (some h0) := rx_t_callSX Fr (i := 279) (j := 34) (n := 1) (D := 10) (hp := 25) (as := [.ref v3]) (rest := []) (cls := "java/lang/IllegalStateException") (by rw [hown]; exact rx_in (i := 641) (by decide +kernel) (by decide +kernel)) k_X1_fail rfl (by decide) (by omega) (vm_fail hl F h4 h5 hv5 hlt) (by rw [hcc]; decide +kernel) (rx_hd1 htab hown) (rx_t_stx Fr (i := 3) (len := 1) (by rw [hnl]; decide) (Or.inr ⟨3, rfl, by rw [hcc]; decide +kernel, rfl⟩) rfl O26)
      exact to_0 Fr hown hcc hnl (by omega) hck h1 (fun q => absurd hv0 q) (fun _ => to_13 Fr hown hcc h2 h3 O19)
  · next hv0 =>
    cases h
    refine rx_metW (D := 11) (bo := false) hpl hle (Or.inl ⟨rfl, rfl, _, rfl⟩) ⟨Nat.le_refl _, Nat.le_refl _⟩ ?_
    intro Z hZ n0 s0 htab Fr hB
    obtain ⟨z1, z2, z3, z4, z5, z6⟩ := hZ
    subst z1 z2
    obtain ⟨hown, z4⟩ := rx_q2 z4
    obtain ⟨hcc, z4⟩ := rx_q2 z4
    obtain ⟨hnl, z4⟩ := rx_q2 z4
    obtain ⟨hzi, z4⟩ := rx_q2 z4
    obtain ⟨hzb, hzd⟩ := rx_q2 z4
    have O12 : rx_O Z 12 [some (.ref x0), some (.int x1), some (.int v1), none] [.int v1] (some h0) := rx_O_ret Fr hB rfl (by rw [z5]; exact Nat.le_refl _) (by rw [z6]; exact Nat.le_refl _) ⟨by rw [hcc]; decide +kernel, fun q => by rw [hzb] at q; cases q⟩
    exact to_0 Fr hown hcc hnl (by omega) hck h1 (fun _ => O12.map (rx_t_iload_n Fr (i := 2) rfl (by rw [hcc]; decide +kernel))) (fun q => absurd q hv0)
theorem w_X6_toss {l : Launch} (hl : l.stackTraces = false) (F : Nat × Nat) (G : rx_G) {α : Type} {z : α} {as : List Value} {u : Option rx_H} {κ : rx_K α} (h : c_X6_toss F as u κ = some z) : rx_Cw l G 12 130 as u κ z := by
  unfold c_X6_toss at h
  split at h
  · obtain ⟨r, hr, h⟩ := Option.bind_eq_some_iff.mp h
    exact ⟨_, _, _, _, h, k_X6_toss, fun h => absurd h (by decide), fun _ => ⟨_, _, rfl, rfl⟩, fun hf => m_X6_toss hl F G hf _ _ _ hr⟩
  · cases h
section rxLe
variable {Z : rx_Z} {x0 x3 : Nat} {x1 x2 : Int32} {u : Option rx_H}
theorem le_0 (Fr : rx_Fr Z) (hcc : zcc Z = method_3_code) (k : rx_O Z 5 [some (.ref x0), some (.int x1), some (.int x2), some (.ref x3), none] [.int x2, .int x1, .ref x0, .int 0, .ref x3] u) : rx_O Z 0 [some (.ref x0), some (.int x1), some (.int x2), some (.ref x3), none] [] u :=
  ((((k.map (rx_t_iload_n Fr (i := 2) rfl (by rw [hcc]; decide +kernel))).map (rx_t_iload_n Fr (i := 1) rfl (by rw [hcc]; decide +kernel))).map (rx_t_aload_n Fr (i := 0) rfl (by rw [hcc]; decide +kernel))).map (rx_t_iconst Fr (n := 0) rfl (by rw [hcc]; decide +kernel))).map (rx_t_aload_n Fr (i := 3) rfl (by rw [hcc]; decide +kernel))
end rxLe
theorem m_le_x {l : Launch} {G : rx_G} (x0 x3 : Nat) (x1 x2 : Int32) {h0 : rx_H} {cls : String} {v : Int32} (hp : Nat) (hck : rx_ck (some h0) x0 2 = some ()) (hM : rx_VM l G 10 88 rx_cwL [.ref x0, .int x1, .int x2] h0 cls)
    (hh : ∀ Z : rx_Z, rx_Fr Z → (zC Z).exceptionTable.toList = tableOf [(0, 9, 12, 13), (0, 9, 16, 15)] → zo Z = "SetHouseLaw" → rx_Hd Z cls 5 hp) (d1 : decode method_3_code hp = .ok (.astore 4, 2)) (n : Int) (hn : Int32.ofInt n = v) (d2 : decode method_3_code (hp + 2) = .ok (.iconst n, 1)) (d3 : decode method_3_code (hp + 2 + 1) = .ok (.ireturn, 1)) :
    rx_Ok l G 12 (rx_ny 6) rx_cwE [.ref x0, .int x1, .int x2, .ref x3] h0 (some (.int v)) (rx_hx h0) := by
  refine rx_metW (D := 11) (bo := false) (by decide +kernel) (Nat.le_of_ble_eq_true rfl) (Or.inl ⟨rfl, rfl, _, rfl⟩) ⟨by rw [rx_len_hx]; omega, by rw [rx_sl_hx]; omega⟩ ?_
  intro Z hZ n0 s0 htab Fr hB
  obtain ⟨z1, z2, z3, z4, z5, z6⟩ := hZ
  subst z1 z2
  obtain ⟨hown, z4⟩ := rx_q2 z4
  obtain ⟨hcc, z4⟩ := rx_q2 z4
  obtain ⟨hnl, z4⟩ := rx_q2 z4
  obtain ⟨hzi, z4⟩ := rx_q2 z4
  obtain ⟨hzb, hzd⟩ := rx_q2 z4
  have OR : rx_O Z (hp + 2 + 1) [some (.ref x0), some (.int x1), some (.int x2), some (.ref x3), none] [.int v] (some (rx_hx h0)) := rx_O_ret Fr hB rfl (by rw [z5]; exact Nat.le_refl _) (by rw [z6]; exact Nat.le_refl _) ⟨by rw [hcc]; exact d3, fun q => by rw [hzb] at q; cases q⟩
  have OH : rx_O Z (hp + 2) [some (.ref x0), some (.int x1), some (.int x2), some (.ref x3), none] [] (some (rx_hx h0)) := OR.map (rx_t_iconst Fr hn (by rw [hcc]; exact d2))
  have O5 : rx_O Z 5 [some (.ref x0), some (.int x1), some (.int x2), some (.ref x3), none] [.int x2, .int x1, .ref x0, .int 0, .ref x3] (some h0) := rx_t_callVX Fr (i := 7) (j := 88) (n := 2) (D := 10) (hp := hp) (ci := 2) (r0 := x0) (as := [.int x1, .int x2]) (rest := [.int 0, .ref x3]) (cls := cls) (q := ("SetHouse", rx_T2, 6)) rfl (by decide +kernel) hck (by rw [hown]; exact rx_in (i := 720) (by decide +kernel) (by decide +kernel)) k_X6_element rfl (by simp [rx_cat]) (by omega) hM (by rw [hcc]; decide +kernel) (hh Z Fr htab hown) (rx_t_stx Fr (i := 4) (len := 2) (by rw [hnl]; decide) (Or.inl ⟨by rw [hcc]; exact d1, rfl⟩) rfl OH)
  exact le_0 Fr hcc O5
theorem m_L_element {l : Launch} (hl : l.stackTraces = false) (F : Nat × Nat) (G : rx_G) (hf : rx_H) (x0 : Nat) (x1 x2 : Int32) (x3 : Nat) (u : Option rx_H) {z : Int32 × Option rx_H} (h : f_L_element F x0 x1 x2 x3 u = some z) : rx_Ok l G 12 (rx_ny 6) rx_cwE [.ref x0, .int x1, .int x2, .ref x3] (u.getD hf) (some (.int z.1)) (z.2.getD hf) := by
  unfold f_L_element at h
  obtain ⟨w0, hck, h⟩ := Option.bind_eq_some_iff.mp h
  obtain ⟨v1, h1, h⟩ := Option.bind_eq_some_iff.mp h
  obtain ⟨h0, fs, rfl, hr0⟩ := rx_ck_some hck
  split at h
  · next hv1 =>
    subst hv1
    obtain ⟨q, hq, h⟩ := Option.bind_eq_some_iff.mp h
    cases h
    obtain ⟨h', e', hlt, e6⟩ := rx_push_hx hq
    cases e'
    rw [e6]
    exact m_le_x x0 x3 x1 x2 12 hck (vm_el1 hl x2 hlt hck h1) (fun Z Fr ht ho => rx_hd2 ht ho) (by decide +kernel) 1 rfl (by decide +kernel) (by decide +kernel)
  · next hv1 =>
    obtain ⟨v2, h2, h⟩ := Option.bind_eq_some_iff.mp h
    obtain ⟨v3, h3, h⟩ := Option.bind_eq_some_iff.mp h
    obtain ⟨w3, hck3, h⟩ := Option.bind_eq_some_iff.mp h
    obtain ⟨⟨b, u4⟩, h4, h⟩ := Option.bind_eq_some_iff.mp h
    have e4 : u4 = some h0 := rx_isRow_u h4
    subst e4
    dsimp only at h
    split at h
    · next hb =>
      obtain ⟨q, hq, h⟩ := Option.bind_eq_some_iff.mp h
      cases h
      obtain ⟨h', e', hlt, e6⟩ := rx_push_hx hq
      cases e'
      rw [e6]
      exact m_le_x x0 x3 x1 x2 16 hck (vm_el2 hl x2 hlt hck h1 hv1 h2 h3 hck3 h4 (fun q => absurd hb q)) (fun Z Fr ht ho => rx_hd3 Fr ht ho) (by decide +kernel) 2 rfl (by decide +kernel) (by decide +kernel)
    · next hb =>
      split at h
      · next hx =>
        obtain ⟨q, hq, h⟩ := Option.bind_eq_some_iff.mp h
        cases h
        obtain ⟨h', e', hlt, e6⟩ := rx_push_hx hq
        cases e'
        rw [e6]
        exact m_le_x x0 x3 x1 x2 16 hck (vm_el2 hl x2 hlt hck h1 hv1 h2 h3 hck3 h4 (fun _ => Or.inl hx)) (fun Z Fr ht ho => rx_hd3 Fr ht ho) (by decide +kernel) 2 rfl (by decide +kernel) (by decide +kernel)
      · next hx =>
        obtain ⟨v5, h5, h⟩ := Option.bind_eq_some_iff.mp h
        split at h
        · next hx5 =>
          obtain ⟨v6, h6, h⟩ := Option.bind_eq_some_iff.mp h
          obtain ⟨v7, h7, h⟩ := Option.bind_eq_some_iff.mp h
          obtain ⟨v8, h8, h⟩ := Option.bind_eq_some_iff.mp h
          cases h
          have hm := rx_mo_sJ h8
          obtain ⟨ha, hb2, ea, eb, e1, e2⟩ := hm
          cases ea
          subst eb
          refine rx_metW (D := 11) (bo := false) (by decide +kernel) (Nat.le_of_ble_eq_true rfl) (Or.inl ⟨rfl, rfl, _, rfl⟩) ⟨e1, e2⟩ ?_
          intro Z hZ n0 s0 htab Fr hB
          obtain ⟨z1, z2, z3, z4, z5, z6⟩ := hZ
          subst z1 z2
          obtain ⟨hown, z4⟩ := rx_q2 z4
          obtain ⟨hcc, z4⟩ := rx_q2 z4
          obtain ⟨hnl, z4⟩ := rx_q2 z4
          obtain ⟨hzi, z4⟩ := rx_q2 z4
          obtain ⟨hzb, hzd⟩ := rx_q2 z4
          have O21 : rx_O Z 21 [some (.ref x0), some (.int x1), some (.int x2), some (.ref x3), none] [.int 0] (some hb2) := rx_O_ret Fr hB rfl (by rw [z5]; exact Nat.le_refl _) (by rw [z6]; exact Nat.le_refl _) ⟨by rw [hcc]; decide +kernel, fun q => by rw [hzb] at q; cases q⟩
          have O20 : rx_O Z 20 [some (.ref x0), some (.int x1), some (.int x2), some (.ref x3), none] [] (some hb2) := O21.map (rx_t_iconst Fr (n := 0) rfl (by rw [hcc]; decide +kernel))
          have O9 : rx_O Z 9 [some (.ref x0), some (.int x1), some (.int x2), some (.ref x3), none] [] (some hb2) := O20.map (rx_t_goto Fr (off := 11) (t := 20) (by decide) (by rw [hcc]; decide +kernel))
          have O8 : rx_O Z 8 [some (.ref x0), some (.int x1), some (.int x2), some (.ref x3), none] [.long v7, .int 0, .ref x3] (some h0) := rx_t_last Fr h8 (by rw [hcc]; decide +kernel) O9
          have O5 : rx_O Z 5 [some (.ref x0), some (.int x1), some (.int x2), some (.ref x3), none] [.int x2, .int x1, .ref x0, .int 0, .ref x3] (some h0) := rx_t_callV Fr (i := 7) (j := 88) (ci := 2) (as := [.int x1, .int x2]) (rest := [.int 0, .ref x3]) (r := some (.long v7)) (u' := some h0) (q := ("SetHouse", rx_T2, 6)) rfl (by decide +kernel) hck (by rw [hown]; exact rx_in (i := 720) (by decide +kernel) (by decide +kernel)) k_X6_element rfl (by simp [rx_cat]) ((m_el h0 (u := some h0) hck h1 hv1 h2 h3 hck3 h4 hb hx h5 hx5 h6 h7).deep (by omega)) (by rw [hcc]; decide +kernel) O8
          exact le_0 Fr hcc O5
        · next hx5 =>
          obtain ⟨q, hq, h⟩ := Option.bind_eq_some_iff.mp h
          cases h
          obtain ⟨h', e', hlt, e6⟩ := rx_push_hx hq
          cases e'
          rw [e6]
          exact m_le_x x0 x3 x1 x2 16 hck (vm_el2 hl x2 hlt hck h1 hv1 h2 h3 hck3 h4 (fun _ => Or.inr ⟨v5, h5, hx5⟩)) (fun Z Fr ht ho => rx_hd3 Fr ht ho) (by decide +kernel) 2 rfl (by decide +kernel) (by decide +kernel)
theorem w_L_element {l : Launch} (hl : l.stackTraces = false) (F : Nat × Nat) (G : rx_G) {α : Type} {z : α} {as : List Value} {u : Option rx_H} {κ : rx_K α} (h : c_L_element F as u κ = some z) : rx_Cw l G 12 6 as u κ z := by
  unfold c_L_element at h
  split at h
  · obtain ⟨r, hr, h⟩ := Option.bind_eq_some_iff.mp h
    exact ⟨_, _, _, _, h, k_L_element, fun _ => rfl, fun h => absurd rfl h, fun hf => m_L_element hl F G hf _ _ _ _ _ hr⟩
  · cases h
