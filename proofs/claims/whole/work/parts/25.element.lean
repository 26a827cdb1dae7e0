/-! ===== element, toss ===== -/
theorem rx_gI_fd {u : Option rx_H} {r c k : Nat} {x : Int32} (h : rx_gI u r c k = some x) : rx_fd u r c k = some (.int x) := by
  unfold rx_gI at h
  split at h
  · next hf => cases h; exact hf
  · cases h
theorem rx_gR_fd {u : Option rx_H} {r c k : Nat} {x : Nat} (h : rx_gR u r c k = some x) : rx_fd u r c k = some (.ref x) := by
  unfold rx_gR at h
  split at h
  · next hf => cases h; exact hf
  · cases h
theorem rx_isRow_u {F : Nat × Nat} {x0 : Nat} {u : Option rx_H} {z : Int32 × Option rx_H} (h : f_X4_isRow F x0 u = some z) : z.2 = u := by
  unfold f_X4_isRow f_X4_isRow_0 at h
  obtain ⟨v, -, h⟩ := Option.bind_eq_some_iff.mp h
  split at h <;> cases h <;> rfl
section rxEl
variable {Z : rx_Z} {F : Nat × Nat} {x0 : Nat} {x1 x2 : Int32} {u : Option rx_H}
theorem el_0 (Fr : rx_Fr Z) (hown : zo Z = "SetHouse") (hcc : zcc Z = prog_1_method_44_code) (hzd : 8 ≤ zd Z) (hck : rx_ck u x0 2 = some ()) {v1 : Int32} (h1 : f_X6_isPlace F x0 x1 = some v1)
    (k8 : v1 = 0 → rx_O Z 8 [some (.ref x0), some (.int x1), some (.int x2), none] [] u) (k18 : ¬ v1 = 0 → rx_O Z 18 [some (.ref x0), some (.int x1), some (.int x2), none] [] u) : rx_O Z 0 [some (.ref x0), some (.int x1), some (.int x2), none] [] u := by
  have O5 : rx_O Z 5 [some (.ref x0), some (.int x1), some (.int x2), none] [.int v1] u := by
    by_cases hv : v1 = 0
    · exact rx_t_if Fr (cd := .ne) (off := 13) (t := 18) (by decide) (by rw [hcc]; decide +kernel) (α := Unit) (kt := none) (kf := some ()) (r := ()) (by simp [rx_if, hv]) (fun h => by cases h) (fun _ => k8 hv)
    · exact rx_t_if Fr (cd := .ne) (off := 13) (t := 18) (by decide) (by rw [hcc]; decide +kernel) (α := Unit) (kt := some ()) (kf := none) (r := ()) (by simp [rx_if, hv]) (fun _ => k18 hv) (fun h => by cases h)
  have O2 : rx_O Z 2 [some (.ref x0), some (.int x1), some (.int x2), none] [.int x1, .ref x0] u := rx_t_callV Fr (i := 49) (j := 102) (ci := 2) (as := [.int x1]) (rest := []) (r := some (.int v1)) (u' := u) (q := ("SetHouse", rx_T2, 6)) rfl (by decide +kernel) hck (by rw [hown]; exact rx_in (i := 158) (by decide +kernel) (by decide +kernel)) k_X6_isPlace rfl (by decide) ((m_X6_isPlace F _ _ _ x0 x1 h1).deep (by omega)) (by rw [hcc]; decide +kernel) O5
  exact (O2.map (rx_t_iload_n Fr (i := 1) rfl (by rw [hcc]; decide +kernel))).map (rx_t_aload_n Fr (i := 0) rfl (by rw [hcc]; decide +kernel))
theorem el_18 (Fr : rx_Fr Z) (hown : zo Z = "SetHouse") (hcc : zcc Z = prog_1_method_44_code) (hnl : zn Z = 4) (hzd : 8 ≤ zd Z) {v2 v3 : Nat} {b : Int32} (h2 : rx_gR u x0 2 2 = some v2) (h3 : rx_aR u v2 x1 = some v3) (hck : rx_ck u v3 0 = some ()) (h4 : f_X4_isRow F v3 u = some (b, u))
    (k32 : b = 0 → rx_O Z 32 [some (.ref x0), some (.int x1), some (.int x2), some (.ref v3)] [] u) (k43 : ¬ b = 0 → rx_O Z 43 [some (.ref x0), some (.int x1), some (.int x2), some (.ref v3)] [] u) : rx_O Z 18 [some (.ref x0), some (.int x1), some (.int x2), none] [] u := by
  have O29 : rx_O Z 29 [some (.ref x0), some (.int x1), some (.int x2), some (.ref v3)] [.int b] u := by
    by_cases hv : b = 0
    · exact rx_t_if Fr (cd := .ne) (off := 14) (t := 43) (by decide) (by rw [hcc]; decide +kernel) (α := Unit) (kt := none) (kf := some ()) (r := ()) (by simp [rx_if, hv]) (fun h => by cases h) (fun _ => k32 hv)
    · exact rx_t_if Fr (cd := .ne) (off := 14) (t := 43) (by decide) (by rw [hcc]; decide +kernel) (α := Unit) (kt := some ()) (kf := none) (r := ()) (by simp [rx_if, hv]) (fun _ => k43 hv) (fun h => by cases h)
  have O26 : rx_O Z 26 [some (.ref x0), some (.int x1), some (.int x2), some (.ref v3)] [.ref v3] u := rx_t_callV Fr (i := 255) (j := 66) (ci := 0) (as := []) (rest := []) (r := some (.int b)) (u' := u) (q := ("SetHouse$Place", rx_T0, 6)) rfl (by decide +kernel) hck (by rw [hown]; exact rx_in (i := 198) (by decide +kernel) (by decide +kernel)) k_X4_isRow rfl (by decide) ((m_X4_isRow F _ _ _ v3 u h4).deep (by omega)) (by rw [hcc]; decide +kernel) O29
  have O25 : rx_O Z 25 [some (.ref x0), some (.int x1), some (.int x2), some (.ref v3)] [] u := O26.map (rx_t_aload_n Fr (i := 3) rfl (by rw [hcc]; decide +kernel))
  have O24 : rx_O Z 24 [some (.ref x0), some (.int x1), some (.int x2), none] [.ref v3] u := O25.map (fun k => rx_t_astore_n Fr (i := 3) (by rw [hnl]; decide) (by rw [hcc]; decide +kernel) k)
  exact (((O24.map (rx_t_aald Fr h3 (by rw [hcc]; decide +kernel))).map (rx_t_iload_n Fr (i := 1) rfl (by rw [hcc]; decide +kernel))).map (rx_t_getf Fr (i := 24) (a := 2) (k := 2) (q := ("SetHouse", rx_T2, 6)) rfl (by decide) (by rw [hown]; exact rx_in (i := 137) (by decide +kernel) (by decide +kernel)) (rx_gR_fd h2) (by rw [hcc]; decide +kernel))).map (rx_t_aload_n Fr (i := 0) rfl (by rw [hcc]; decide +kernel))
theorem el_43 (Fr : rx_Fr Z) (hown : zo Z = "SetHouse") (hcc : zcc Z = prog_1_method_44_code) {v3 : Nat} 
    (k55 : x2 < 0 → rx_O Z 55 [some (.ref x0), some (.int x1), some (.int x2), some (.ref v3)] [] u) {v5 : Int32} (h5 : ¬ x2 < 0 → rx_gI u v3 0 4 = some v5) (k55b : ¬ x2 < 0 → ¬ x2 < v5 → rx_O Z 55 [some (.ref x0), some (.int x1), some (.int x2), some (.ref v3)] [] u) (k66 : ¬ x2 < 0 → x2 < v5 → rx_O Z 66 [some (.ref x0), some (.int x1), some (.int x2), some (.ref v3)] [] u) : rx_O Z 43 [some (.ref x0), some (.int x1), some (.int x2), some (.ref v3)] [] u := by
  have O44 : rx_O Z 44 [some (.ref x0), some (.int x1), some (.int x2), some (.ref v3)] [.int x2] u := by
    by_cases hv : x2 < 0
    · exact rx_t_if Fr (cd := .lt) (off := 11) (t := 55) (by decide) (by rw [hcc]; decide +kernel) (α := Unit) (kt := some ()) (kf := none) (r := ()) (by simp [rx_if, hv]) (fun _ => k55 hv) (fun h => by cases h)
    · refine rx_t_if Fr (cd := .lt) (off := 11) (t := 55) (by decide) (by rw [hcc]; decide +kernel) (α := Unit) (kt := none) (kf := some ()) (r := ()) (by simp [rx_if, hv]) (fun h => by cases h) (fun _ => ?_)
      have O52 : rx_O Z 52 [some (.ref x0), some (.int x1), some (.int x2), some (.ref v3)] [.int v5, .int x2] u := by
        by_cases hw : x2 < v5
        · exact rx_t_icmp Fr (cd := .lt) (off := 14) (t := 66) (by decide) (by rw [hcc]; decide +kernel) (α := Unit) (kt := some ()) (kf := none) (r := ()) (by simp [rx_if, hw]) (fun _ => k66 hv hw) (fun h => by cases h)
        · exact rx_t_icmp Fr (cd := .lt) (off := 14) (t := 66) (by decide) (by rw [hcc]; decide +kernel) (α := Unit) (kt := none) (kf := some ()) (r := ()) (by simp [rx_if, hw]) (fun h => by cases h) (fun _ => k55b hv hw)
      exact ((O52.map (rx_t_getf Fr (i := 242) (a := 0) (k := 4) (q := ("SetHouse$Place", rx_T0, 6)) rfl (by decide) (by rw [hown]; exact rx_in (i := 89) (by decide +kernel) (by decide +kernel)) (rx_gI_fd (h5 hv)) (by rw [hcc]; decide +kernel))).map (rx_t_aload_n Fr (i := 3) rfl (by rw [hcc]; decide +kernel))).map (rx_t_iload_n Fr (i := 2) rfl (by rw [hcc]; decide +kernel))
  exact O44.map (rx_t_iload_n Fr (i := 2) rfl (by rw [hcc]; decide +kernel))
end rxEl
/-- the throws of element -/
theorem el_8 {Z : rx_Z} {h : rx_H} {als : rx_L} (Fr : rx_Fr Z) (hl : (zL Z).stackTraces = false) (hE : rx_E0 Z) (hown : zo Z = "SetHouse") (hcc : zcc Z = prog_1_method_44_code) (hex : ∀ x ∈ (zC Z).exceptionTable.toList, False) (hlt : h.2.length < 999999)
    (z5 : zn0 Z = h.2.length) (z6 : zs0 Z = rx_sl h) (z7 : zn1 Z = h.2.length + 1) (z8 : zs1 Z = rx_sl h + 6) (zR' : zR Z = rx_rmX 10 1 6)
    (zQ' : zQ Z = vx_MQ (zB Z) (fun _ _ _ _ => False) (fun E _ t => E = "java/lang/IllegalArgumentException" ∧ rx_R (zG Z) (rx_hx h) t.heap) (zA Z) (zS Z) 1 6 (fun q => rx_base (zG Z) ≤ q)) : rx_O Z 8 als [] (some h) := by
  have hKE := Fr.2.2.2.2.2.1.2.2.2.2.2.2.2.2.2.2
  obtain ⟨sa, hsa⟩ := hKE.2.2.2.2.1
  exact fun _ _ => ⟨⟨by rw [z7]; exact Nat.le_add_right _ _, by rw [z8]; exact Nat.le_add_right _ _⟩,
    rx_t_throwS Fr hl hE (cls := "java/lang/IllegalArgumentException") (text := "no such PLACE") (ik := 248) (is := 250) (ic := 252) (sa := sa) (by decide +kernel) (by rw [hown]; exact rx_in (i := 724) (by decide +kernel) (by decide +kernel)) (rx_in (i := 55) (by decide +kernel) (by decide +kernel)) (by rw [hown]; exact hsa) (by rw [hown]; exact rx_at2)
      (by rw [hcc]; decide +kernel) (by rw [hcc]; decide +kernel) (by rw [hcc]; decide +kernel) (by rw [hcc]; decide +kernel) (by rw [hcc]; decide +kernel) (fun x hx => (hex x hx).elim) (by rw [zR']; decide) (by rw [zR']; decide) (by decide) (by rw [z5]; exact Nat.le_refl _) hlt zQ' (by rw [z5]; omega) (by rw [z6]; omega) (by rw [zR']; decide) (by rw [zR']; decide) (fun t ht => ⟨rfl, ht⟩)⟩
theorem el_32 {Z : rx_Z} {h : rx_H} {als : rx_L} (Fr : rx_Fr Z) (hl : (zL Z).stackTraces = false) (hE : rx_E0 Z) (hown : zo Z = "SetHouse") (hcc : zcc Z = prog_1_method_44_code) (hex : ∀ x ∈ (zC Z).exceptionTable.toList, False) (hlt : h.2.length < 999999)
    (z5 : zn0 Z = h.2.length) (z6 : zs0 Z = rx_sl h) (z7 : zn1 Z = h.2.length + 1) (z8 : zs1 Z = rx_sl h + 6) (zR' : zR Z = rx_rmX 10 1 6)
    (zQ' : zQ Z = vx_MQ (zB Z) (fun _ _ _ _ => False) (fun E _ t => E = "java/lang/IllegalStateException" ∧ rx_R (zG Z) (rx_hx h) t.heap) (zA Z) (zS Z) 1 6 (fun q => rx_base (zG Z) ≤ q)) : rx_O Z 32 als [] (some h) := by
  have hKE := Fr.2.2.2.2.2.1.2.2.2.2.2.2.2.2.2.2
  obtain ⟨sa, hsa⟩ := hKE.2.2.2.2.2.1
  exact fun _ _ => ⟨⟨by rw [z7]; exact Nat.le_add_right _ _, by rw [z8]; exact Nat.le_add_right _ _⟩,
    rx_t_throwSW Fr hl hE (cls := "java/lang/IllegalStateException") (text := "no ROW there") (ik := 259) (is := 261) (ic := 263) (sa := sa) (by decide +kernel) (by rw [hown]; exact rx_in (i := 640) (by decide +kernel) (by decide +kernel)) (rx_in (i := 56) (by decide +kernel) (by decide +kernel)) (by rw [hown]; exact hsa) (by rw [hown]; exact rx_at3)
      (by rw [hcc]; decide +kernel) (by rw [hcc]; decide +kernel) (by rw [hcc]; decide +kernel) (by rw [hcc]; decide +kernel) (by rw [hcc]; decide +kernel) (fun x hx => (hex x hx).elim) (by rw [zR']; decide) (by rw [zR']; decide) (by decide) (by rw [z5]; exact Nat.le_refl _) hlt zQ' (by rw [z5]; omega) (by rw [z6]; omega) (by rw [zR']; decide) (by rw [zR']; decide) (fun t ht => ⟨rfl, ht⟩)⟩
theorem el_55 {Z : rx_Z} {h : rx_H} {als : rx_L} (Fr : rx_Fr Z) (hl : (zL Z).stackTraces = false) (hE : rx_E0 Z) (hown : zo Z = "SetHouse") (hcc : zcc Z = prog_1_method_44_code) (hex : ∀ x ∈ (zC Z).exceptionTable.toList, False) (hlt : h.2.length < 999999)
    (z5 : zn0 Z = h.2.length) (z6 : zs0 Z = rx_sl h) (z7 : zn1 Z = h.2.length + 1) (z8 : zs1 Z = rx_sl h + 6) (zR' : zR Z = rx_rmX 10 1 6)
    (zQ' : zQ Z = vx_MQ (zB Z) (fun _ _ _ _ => False) (fun E _ t => E = "java/lang/IllegalStateException" ∧ rx_R (zG Z) (rx_hx h) t.heap) (zA Z) (zS Z) 1 6 (fun q => rx_base (zG Z) ≤ q)) : rx_O Z 55 als [] (some h) := by
  have hKE := Fr.2.2.2.2.2.1.2.2.2.2.2.2.2.2.2.2
  obtain ⟨sa, hsa⟩ := hKE.2.2.2.2.2.2.1
  exact fun _ _ => ⟨⟨by rw [z7]; exact Nat.le_add_right _ _, by rw [z8]; exact Nat.le_add_right _ _⟩,
    rx_t_throwSW Fr hl hE (cls := "java/lang/IllegalStateException") (text := "the ROW has no such place") (ik := 259) (is := 264) (ic := 263) (sa := sa) (by decide +kernel) (by rw [hown]; exact rx_in (i := 640) (by decide +kernel) (by decide +kernel)) (rx_in (i := 56) (by decide +kernel) (by decide +kernel)) (by rw [hown]; exact hsa) (by rw [hown]; exact rx_at3)
      (by rw [hcc]; decide +kernel) (by rw [hcc]; decide +kernel) (by rw [hcc]; decide +kernel) (by rw [hcc]; decide +kernel) (by rw [hcc]; decide +kernel) (fun x hx => (hex x hx).elim) (by rw [zR']; decide) (by rw [zR']; decide) (by decide) (by rw [z5]; exact Nat.le_refl _) hlt zQ' (by rw [z5]; omega) (by rw [z6]; omega) (by rw [zR']; decide) (by rw [zR']; decide) (fun t ht => ⟨rfl, ht⟩)⟩
abbrev rx_cwL : Cond := .code (rx_ny 88) prog_1_method_44_code 4 (some .long)
theorem vm_el1 {l : Launch} {G : rx_G} (hl : l.stackTraces = false) {F : Nat × Nat} {x0 : Nat} {x1 : Int32} (x2 : Int32) {h : rx_H} (hlt : h.2.length < 999999) (hck : rx_ck (some h) x0 2 = some ()) (h1 : f_X6_isPlace F x0 x1 = some 0) :
    rx_VM l G 10 88 rx_cwL [.ref x0, .int x1, .int x2] h "java/lang/IllegalArgumentException" := by
  refine rx_vxmet (D := 9) (by decide +kernel) (Nat.le_of_ble_eq_true rfl) ?_
  intro Z z1 z2 z3 z4 z5 z6 z7 z8 zQ' zR' hex hE hret Fr
  subst z1 z2
  obtain ⟨hown, z4⟩ := rx_q2 z4
  obtain ⟨hcc, z4⟩ := rx_q2 z4
  obtain ⟨hnl, z4⟩ := rx_q2 z4
  obtain ⟨hzi, z4⟩ := rx_q2 z4
  obtain ⟨hzb, hzd⟩ := rx_q2 z4
  have O0 : rx_O Z 0 [some (.ref x0), some (.int x1), some (.int x2), none] [] (some h) := el_0 Fr hown hcc (by omega) hck h1 (fun _ => el_8 Fr hl hE hown hcc hex hlt z5 z6 z7 z8 zR' zQ') (fun q => absurd rfl q)
  exact (O0 (by rw [z5]; exact Nat.le_refl _) (by rw [z6]; exact Nat.le_refl _)).2
theorem vm_el2 {l : Launch} {G : rx_G} (hl : l.stackTraces = false) {F : Nat × Nat} {x0 : Nat} {x1 : Int32} (x2 : Int32) {h : rx_H} (hlt : h.2.length < 999999) (hck : rx_ck (some h) x0 2 = some ()) {v1 : Int32} (h1 : f_X6_isPlace F x0 x1 = some v1) (h10 : ¬ v1 = 0)
    {v2 v3 : Nat} {b : Int32} (h2 : rx_gR (some h) x0 2 2 = some v2) (h3 : rx_aR (some h) v2 x1 = some v3) (hck3 : rx_ck (some h) v3 0 = some ()) (h4 : f_X4_isRow F v3 (some h) = some (b, some h))
    (hb : ¬ b = 0 → x2 < 0 ∨ ∃ v5, rx_gI (some h) v3 0 4 = some v5 ∧ ¬ x2 < v5) :
    rx_VM l G 10 88 rx_cwL [.ref x0, .int x1, .int x2] h "java/lang/IllegalStateException" := by
  refine rx_vxmet (D := 9) (by decide +kernel) (Nat.le_of_ble_eq_true rfl) ?_
  intro Z z1 z2 z3 z4 z5 z6 z7 z8 zQ' zR' hex hE hret Fr
  subst z1 z2
  obtain ⟨hown, z4⟩ := rx_q2 z4
  obtain ⟨hcc, z4⟩ := rx_q2 z4
  obtain ⟨hnl, z4⟩ := rx_q2 z4
  obtain ⟨hzi, z4⟩ := rx_q2 z4
  obtain ⟨hzb, hzd⟩ := rx_q2 z4
  have O0 : rx_O Z 0 [some (.ref x0), some (.int x1), some (.int x2), none] [] (some h) := el_0 Fr hown hcc (by omega) hck h1 (fun q => absurd q h10) (fun _ => el_18 Fr hown hcc hnl (by omega) h2 h3 hck3 h4 (fun _ => el_32 Fr hl hE hown hcc hex hlt z5 z6 z7 z8 zR' zQ') (fun q => by
    rcases hb q with hx | ⟨v5, h5, hx⟩
    · exact el_43 (v5 := 0) Fr hown hcc (fun _ => el_55 Fr hl hE hown hcc hex hlt z5 z6 z7 z8 zR' zQ') (fun q => absurd hx q) (fun q => absurd hx q) (fun q => absurd hx q)
    · exact el_43 (v5 := v5) Fr hown hcc (fun _ => el_55 Fr hl hE hown hcc hex hlt z5 z6 z7 z8 zR' zQ') (fun q => h5) (fun _ _ => el_55 Fr hl hE hown hcc hex hlt z5 z6 z7 z8 zR' zQ') (fun _ q => absurd q hx)))
  exact (O0 (by rw [z5]; exact Nat.le_refl _) (by rw [z6]; exact Nat.le_refl _)).2
theorem m_el {l : Launch} {G : rx_G} {F : Nat × Nat} {x0 : Nat} {x1 x2 : Int32} (hf : rx_H) {u : Option rx_H} (hck : rx_ck u x0 2 = some ()) {v1 : Int32} (h1 : f_X6_isPlace F x0 x1 = some v1) (h10 : ¬ v1 = 0)
    {v2 v3 v6 : Nat} {b v5 : Int32} {v7 : Int64} (h2 : rx_gR u x0 2 2 = some v2) (h3 : rx_aR u v2 x1 = some v3) (hck3 : rx_ck u v3 0 = some ()) (h4 : f_X4_isRow F v3 u = some (b, u)) (hb : ¬ b = 0) (hx : ¬ x2 < 0) (h5 : rx_gI u v3 0 4 = some v5) (hx5 : x2 < v5) (h6 : rx_gR u v3 0 5 = some v6) (h7 : rx_aJ u v6 x2 = some v7) :
    rx_Ok l G 10 (rx_ny 88) rx_cwL [.ref x0, .int x1, .int x2] (u.getD hf) (some (.long v7)) (u.getD hf) := by
  refine rx_met (l := l) (G := G) (hf := hf) (as := [.ref x0, .int x1, .int x2]) (r := some (.long v7)) (ls0 := [some (.ref x0), some (.int x1), some (.int x2), none]) (y := rx_ny 88) (D := 9) (ini := false) (bo := false) (u := u) (u' := u) (ret := rx_hJ) (z := (v7, u)) (by decide +kernel) (fun h => by cases h) (Nat.le_of_ble_eq_true rfl) (Or.inr (Or.inr (Or.inl ⟨rfl, _, rfl⟩))) (fun Z hZ hB => rx_RT_hJ hZ hB) (by exact ⟨Or.inr rfl, Or.inr rfl, Or.inr rfl, Or.inl rfl, trivial⟩) ⟨⟨Nat.le_refl _, Nat.le_refl _⟩, ?_⟩
  intro Z hZ Fr hRT
  obtain ⟨z1, z2, z3, z4, z5, z6⟩ := hZ
  subst z1 z2 z3
  obtain ⟨hown, z4⟩ := rx_q2 z4
  obtain ⟨hcc, z4⟩ := rx_q2 z4
  obtain ⟨hnl, z4⟩ := rx_q2 z4
  obtain ⟨hzi, z4⟩ := rx_q2 z4
  obtain ⟨hzb, hzd⟩ := rx_q2 z4
  have O72 : rx_O Z 72 [some (.ref x0), some (.int x1), some (.int x2), some (.ref v3)] [.long v7] u := by
    obtain ⟨g1, g2, g3⟩ := hRT (some (.long v7)) u rfl
    exact fun _ _ => ⟨⟨g1, g2⟩, fun H lz locs k1 k2 k3 => g3 72 lz H locs (by show decode (zcc Z) 72 = _; rw [hcc]; decide +kernel) k1 k3⟩
  have O66 : rx_O Z 66 [some (.ref x0), some (.int x1), some (.int x2), some (.ref v3)] [] u := (((O72.map (rx_t_lald Fr h7 (by rw [hcc]; decide +kernel))).map (rx_t_iload_n Fr (i := 2) rfl (by rw [hcc]; decide +kernel))).map (rx_t_getf Fr (i := 245) (a := 0) (k := 5) (q := ("SetHouse$Place", rx_T0, 6)) rfl (by decide) (by rw [hown]; exact rx_in (i := 91) (by decide +kernel) (by decide +kernel)) (rx_gR_fd h6) (by rw [hcc]; decide +kernel))).map (rx_t_aload_n Fr (i := 3) rfl (by rw [hcc]; decide +kernel))
  exact el_0 Fr hown hcc (by omega) hck h1 (fun q => absurd q h10) (fun _ => el_18 Fr hown hcc hnl (by omega) h2 h3 hck3 h4 (fun q => absurd q hb) (fun _ => el_43 (v5 := v5) Fr hown hcc (fun q => absurd q hx) (fun _ => h5) (fun _ q => absurd hx5 q) (fun _ _ => O66)))
