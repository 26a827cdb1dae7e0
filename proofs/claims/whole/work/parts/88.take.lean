/-! ===== take, toss, element ===== -/
theorem lN_I : ∀ s, s < 64 → (lN s).toInt32 = nI s := by decide +kernel
section B88
variable {sc : Nat × (Nat → Int32)} {n : Nat} {cl : Int32} {P : Nat → PL} {ly : Nat → Int64} {sp st : Nat → Int32} {sk : Int32} {sd : Nat → Int32} {sm : Nat → Int64} {X M : Nat → rx_C} {w : Nat → Int64} {g : List rx_C} {th mc pk : Int32} {kd td : Nat → Int32} {fm pr : Nat → Int64} {sz : Nat → Int32} {ro : Nat → Int64} {tu pe tr : Nat → Int32} {as : Nat → Int64}
theorem f_take_both {F : Nat × Nat} (hF : 100000 ≤ F.1) (hn6 : n ≤ 6) {p o l : Nat} (hp_ : p < 16) (ho_ : o < 16) (hl : l ≤ 64) (h0 : refr (kd p) = 0) (hz : sz p = nI l) (h1 : refu (kd o) = 0) : ∀ (k i f f' : Nat) (cl : Int32) (P : Nat → PL) (mc : Int32) (fm : Nat → Int64), i + k = l → k < f → k < f' → relR n cl P ly sp sk sm mc pk kd td fm pr sz ro pe → ∃ (r cl' : Int32) (P' : Nat → PL) (mc' : Int32) (fm' : Nat → Int64), relR n cl' P' ly sp sk sm mc' pk kd td fm' pr sz ro pe ∧ f_X6_take_52 F f 0 (nI o) (2 + 2 * p) (nI i) (hp sc (cx n cl P ly sp st sk sd sm) M w g) = some (r, hp sc (cx n cl' P' ly sp st sk sd sm) M w g) ∧ ∀ X : Nat → rx_C, f_X7_take_62 F f' 40 (nI p) (nI o) (nI i) (hp sc X (cm n th mc pk kd td fm pr sz ro tu pe tr as) w g) = some (r, hp sc X (cm n th mc' pk kd td fm' pr sz ro tu pe tr as) w g) := by
  have ha := all_le hn6
  intro k
  induction k with
  | zero =>
    intro i f f' cl P mc fm hi hf hf' hR
    obtain ⟨f, rfl⟩ : ∃ g, f = g + 1 := ⟨f - 1, by omega⟩
    obtain ⟨f', rfl⟩ : ∃ g, f' = g + 1 := ⟨f' - 1, by omega⟩
    obtain ⟨j, hj, hk, l', hl', q1, q2, q3⟩ := row_of (hR.2.2.1 p hp_) h0
    have el : l' = l := (nI_eq (by omega) (by omega)).mp (q2.symm.trans hz)
    subst el
    obtain rfl : i = l' := by omega
    refine ⟨nI i, cl, P, mc, fm, hR, ?_, fun X => ?_⟩
    · rw [f_X6_take_52, gp_ln hp_, Option.bind_some, q1, if_neg (nI_nlt (Nat.le_refl _) (by omega)), Option.bind_some]
    · rw [f_X7_take_62, gm_sz, Option.bind_some, am_sz hp_, Option.bind_some, hz, if_neg (nI_nlt (Nat.le_refl _) (by omega)), Option.bind_some, am_sz hp_, Option.bind_some, hz]
  | succ k ih =>
    intro i f f' cl P mc fm hi hf hf' hR
    obtain ⟨f, rfl⟩ : ∃ g, f = g + 1 := ⟨f - 1, by omega⟩
    obtain ⟨f', rfl⟩ : ∃ g, f' = g + 1 := ⟨f' - 1, by omega⟩
    obtain ⟨j, hj, hk, l', hl', q1, q2, q3⟩ := row_of (hR.2.2.1 p hp_) h0
    have el : l' = l := (nI_eq (by omega) (by omega)).mp (q2.symm.trans hz)
    subst el
    have hil : nI i < nI l' := nI_lt (by omega) (by omega)
    have c1 : f_X6_take_52 F (f + 1) 0 (nI o) (2 + 2 * p) (nI i) (hp sc (cx n cl P ly sp st sk sd sm) M w g) = (if ro (64 * p + i) < 0 then some (nI i, (hp sc (cx n cl P ly sp st sk sd sm) M w g)) else if ro (64 * p + i) < Int32.toInt64 (nI (2 ^ n)) then (f_X6_comes F 0 (2 + 2 * o) (Int64.toInt32 (ro (64 * p + i))) (hp sc (cx n cl P ly sp st sk sd sm) M w g)).bind fun v7 => if v7.1 = 0 then some (nI i, v7.2) else f_X6_take_52 F f 0 (nI o) (2 + 2 * p) (nI i + 1) v7.2 else some (nI i, (hp sc (cx n cl P ly sp st sk sd sm) M w g))) := by
      rw [f_X6_take_52, gp_ln hp_, Option.bind_some, q1, if_pos hil, gp_nu hp_, Option.bind_some, ax_nu hp_ (by omega), Option.bind_some, q3 i (by omega), gx_all, Option.bind_some, gx_shelf, Option.bind_some, ax_shelf ho_, Option.bind_some, ck_0, Option.bind_some]
    have c2 : ∀ X : Nat → rx_C, f_X7_take_62 F (f' + 1) 40 (nI p) (nI o) (nI i) (hp sc X (cm n th mc pk kd td fm pr sz ro tu pe tr as) w g) = (if ro (64 * p + i) < 0 then some (nI i, (hp sc X (cm n th mc pk kd td fm pr sz ro tu pe tr as) w g)) else if ro (64 * p + i) < Int32.toInt64 (nI (2 ^ n)) then (f_X7_adds F 40 (nI o) (Int64.toInt32 (ro (64 * p + i))) (hp sc X (cm n th mc pk kd td fm pr sz ro tu pe tr as) w g)).bind fun v7 => if v7.1 < 0 then some (nI i, v7.2) else f_X7_take_62 F f' 40 (nI p) (nI o) (nI i + 1) v7.2 else some (nI i, (hp sc X (cm n th mc pk kd td fm pr sz ro tu pe tr as) w g))) := by
      intro X
      rw [f_X7_take_62, gm_sz, Option.bind_some, am_sz hp_, Option.bind_some, hz, if_pos hil, gm_rw, Option.bind_some, i64, am_rw (by omega), Option.bind_some, gm_all, Option.bind_some, ck_40, Option.bind_some]
    by_cases v0 : ro (64 * p + i) < 0
    · exact ⟨nI i, cl, P, mc, fm, hR, by rw [c1, if_pos v0], fun X => by rw [c2, if_pos v0]⟩
    · obtain ⟨s, hs, es⟩ := pk_lOf v0
      by_cases hsn : s < 2 ^ n
      · have v1 : ro (64 * p + i) < Int32.toInt64 (nI (2 ^ n)) := by
          rw [es, nI_l (by omega)]; exact (pk_lLT hs (by omega)).mpr hsn
        have e2 : Int64.toInt32 (ro (64 * p + i)) = nI s := by rw [es]; exact lN_I s (by omega)
        have hko := (hR.2.2.1 o ho_).1
        obtain ⟨jo, hjo, hkjo, hseo, hfio, t_, ht_, htt, hpp, hkv⟩ := fam_of (hR.2.2.1 o ho_) h1
        have g1 : (P o).1 = nI jo := by rw [hko, hkjo]
        have g3 : (jo = 2 ∨ jo = 4 ∨ jo = 5) → (P o).2.1 = nI t_ := fun h => (htt h).1
        have g3' : (jo = 2 ∨ jo = 4 ∨ jo = 5) → td o = nI t_ := fun h => (htt h).2
        have g4 : jo = 5 → (P o).2.2.2.1 = pr o := fun h => (hpp h).1
        cases hc : clO n jo t_ (fm o) (pr o) s with
        | none =>
          have hR' := rel_sets hR ho_ hjo hkjo ht_ htt hpp (fits_or hfio (fits_one hsn ha)) (kinv_add hn6 hfio hkv hsn hc)
          obtain ⟨r, cl', P', mc', fm', r1, r2, r3⟩ := ih (i + 1) f f' cl _ mc _ (by omega) (by omega) (by omega) hR'
          have hct := fb_ct_le (qb (fm o ||| one s)) 64
          refine ⟨r, cl', P', mc', fm', r1, ?_, fun X => ?_⟩
          · rw [c1, if_neg v0, if_pos v1, e2, f_comes_no hF hn6 ho_ hjo hsn ht_ g1 hseo g3 g4 hfio hkv hc, Option.bind_some, if_neg ne10, nI_1]
            exact r2
          · rw [c2, if_neg v0, if_pos v1, e2, f_adds_no hF hn6 ho_ hjo hsn ht_ hkjo g3' hc, Option.bind_some, if_neg (nI_pos (by omega)), nI_1]
            exact r3 X
        | some y =>
          refine ⟨nI i, nI y, P, nI y, fm, ⟨hR.1, rfl, hR.2.2⟩, ?_, fun X => ?_⟩
          · rw [c1, if_neg v0, if_pos v1, e2, f_comes_yes hF hn6 ho_ hjo hsn ht_ g1 hseo g3 g4 hfio hkv hc, Option.bind_some, if_pos rfl]
          · rw [c2, if_neg v0, if_pos v1, e2, f_adds_yes hF hn6 ho_ hjo hsn ht_ hkjo g3' hc, Option.bind_some, if_pos (by show (-3 : Int32) < 0; decide)]
      · have v1 : ¬ ro (64 * p + i) < Int32.toInt64 (nI (2 ^ n)) := by
          rw [es, nI_l (by omega), pk_lLT hs (by omega)]; exact hsn
        exact ⟨nI i, cl, P, mc, fm, hR, by rw [c1, if_neg v0, if_neg v1], fun X => by rw [c2, if_neg v0, if_neg v1]⟩
theorem hp_push {M : Nat → rx_C} (h : g.length ≤ 10000) : rx_push (hp sc X M w g) rx_exc = some (52 + g.length, hp sc X M w (g ++ [rx_exc])) := by
  unfold hp rx_push
  have e : ((List.range 52).map (hc X M w) ++ g).length = 52 + g.length := by rw [List.length_append, List.length_map, List.length_range]
  simp only [e]
  rw [if_pos (by omega), List.append_assoc]
end B88
theorem stepI.mkg {sc : Nat × (Nat → Int32)} {c : Nat} {fx fy : Option rx_H → Option (Int32 × Option rx_H)}
    (h : ∀ (n : Nat) (cl : Int32) (P : Nat → PL) (ly : Nat → Int64) (sp st : Nat → Int32) (sk : Int32) (sd : Nat → Int32) (sm : Nat → Int64) (th mc pk : Int32) (kd td : Nat → Int32) (fm pr : Nat → Int64) (sz : Nat → Int32) (ro : Nat → Int64) (tu pe tr : Nat → Int32) (as : Nat → Int64) (w : Nat → Int64) (g : List rx_C), g.length ≤ c →
      relR n cl P ly sp sk sm mc pk kd td fm pr sz ro pe →
      ∃ (r : Int32) (g' : List rx_C), (g' = g ∨ g' = g ++ [rx_exc]) ∧
        fx (hp sc (cx n cl P ly sp st sk sd sm) (cm n th mc pk kd td fm pr sz ro tu pe tr as) w g) = some (r, hp sc (cx n cl P ly sp st sk sd sm) (cm n th mc pk kd td fm pr sz ro tu pe tr as) w g') ∧
        fy (hp sc (cx n cl P ly sp st sk sd sm) (cm n th mc pk kd td fm pr sz ro tu pe tr as) w g') = some (r, hp sc (cx n cl P ly sp st sk sd sm) (cm n th mc pk kd td fm pr sz ro tu pe tr as) w g')) : stepI sc c fx fy := by
  rintro u ⟨n, cl, P, ly, sp, st, sk, sd, sm, th, mc, pk, kd, td, fm, pr, sz, ro, tu, pe, tr, as, w, g, rfl, hR, hg, hx⟩
  obtain ⟨r, g', hg', e1, e2⟩ := h n cl P ly sp st sk sd sm th mc pk kd td fm pr sz ro tu pe tr as w g hg hR
  refine ⟨r, _, _, w, g', _, e1, ck_40, e2, n, cl, P, ly, sp, st, sk, sd, sm, th, mc, pk, kd, td, fm, pr, sz, ro, tu, pe, tr, as, w, g', rfl, hR, ?_, ?_⟩
  · rcases hg' with rfl | rfl
    · omega
    · rw [List.length_append]; show g.length + 1 ≤ c + 1; omega
  · intro q hq
    rcases hg' with rfl | rfl
    · exact hx q hq
    · rcases List.mem_append.mp hq with h | h
      · exact hx q h
      · exact List.mem_singleton.mp h
theorem st_take {F : Nat × Nat} (hF : 100000 ≤ F.1) {sc : Nat × (Nat → Int32)} {c : Nat} (x y : Int32) : stepI sc c (f_X6_take F 0 x y) (f_X7_take F 40 x y) := by
  refine stepI.mk fun n cl P ly sp st sk sd sm th mc pk kd td fm pr sz ro tu pe tr as w g hR => ?_
  have hn6 := hR.1.2
  rcases place_or x with ⟨p, hp_, rfl⟩ | hnp
  · have hkp := (hR.2.2.1 p hp_).1
    rcases place_or y with ⟨o, ho_, rfl⟩ | hno
    · have hko := (hR.2.2.1 o ho_).1
      by_cases h0 : refr (kd p) = 0
      · obtain ⟨j, hj, hk, l, hl, q1, q2, q3⟩ := row_of (hR.2.2.1 p hp_) h0
        obtain ⟨n2, n6⟩ := refr_row hk hj
        by_cases h1 : refu (kd o) = 0
        · obtain ⟨r, cl', P', mc', fm', r1, r2, r3⟩ := f_take_both (sc := sc) (n := n) (ly := ly) (sp := sp) (st := st) (sk := sk) (sd := sd) (sm := sm) (M := cm n th mc pk kd td fm pr sz ro tu pe tr as) (w := w) (g := g) (th := th) (pk := pk) (kd := kd) (td := td) (pr := pr) (sz := sz) (ro := ro) (tu := tu) (pe := pe) (tr := tr) (as := as) hF hn6 hp_ ho_ hl h0 q2 h1 l 0 F.1 F.1 cl P mc fm (by omega) (by omega) (by omega) hR
          have r2' : f_X6_take_52 F F.1 0 (nI o) (2 + 2 * p) 0 (hp sc (cx n cl P ly sp st sk sd sm) (cm n th mc pk kd td fm pr sz ro tu pe tr as) w g) = some (r, hp sc (cx n cl' P' ly sp st sk sd sm) (cm n th mc pk kd td fm pr sz ro tu pe tr as) w g) := r2
          have r3' : f_X7_take_62 F F.1 40 (nI p) (nI o) 0 (hp sc (cx n cl' P' ly sp st sk sd sm) (cm n th mc pk kd td fm pr sz ro tu pe tr as) w g) = some (r, hp sc (cx n cl' P' ly sp st sk sd sm) (cm n th mc' pk kd td fm' pr sz ro tu pe tr as) w g) := r3 _
          refine ⟨r, cl', P', sp, st, sk, sd, sm, th, mc', pk, kd, td, fm', pr, sz, ro, tu, pe, tr, as, ?_, ?_, r1⟩
          · simp only [f_X6_take, f_X6_take_0, f_X6_take_35, ck_0, Option.bind_some, f_isPlace_yes F _ hp_, f_isPlace_yes F _ ho_, ne10, if_false, if_true, f_rowRef_eq F hp_, hkp, h0, f_famRef_eq F ho_, hko, h1, gx_shelf, ax_shelf hp_, r2']
          · simp only [f_X7_take, f_X7_take_0, ck_40, Option.bind_some, f_mPlace_yes F hp_, f_mPlace_yes F ho_, ne10, if_false, if_true, gm_kd, am_kd hp_, n6, f_lacks_eq F ho_, h1, r3']
        · refine ⟨refu (kd o), cl, P, sp, st, sk, sd, sm, th, mc, pk, kd, td, fm, pr, sz, ro, tu, pe, tr, as, ?_, ?_, hR⟩
          · simp only [f_X6_take, f_X6_take_0, f_X6_take_35, ck_0, Option.bind_some, f_isPlace_yes F _ hp_, f_isPlace_yes F _ ho_, ne10, if_false, if_true, f_rowRef_eq F hp_, hkp, h0, f_famRef_eq F ho_, hko, h1]
          · simp only [f_X7_take, f_X7_take_0, ck_40, Option.bind_some, f_mPlace_yes F hp_, f_mPlace_yes F ho_, ne10, if_false, if_true, gm_kd, am_kd hp_, n6, f_lacks_eq F ho_, h1]
      · refine ⟨refr (kd p), cl, P, sp, st, sk, sd, sm, th, mc, pk, kd, td, fm, pr, sz, ro, tu, pe, tr, as, ?_, ?_, hR⟩
        · simp only [f_X6_take, f_X6_take_0, f_X6_take_35, ck_0, Option.bind_some, f_isPlace_yes F _ hp_, f_isPlace_yes F _ ho_, ne10, if_false, f_rowRef_eq F hp_, hkp, h0]
        · have h6 : kd p < 6 := by
            by_cases e : kd p = -2
            · rw [e]; decide
            · unfold refr at h0
              rw [if_neg e] at h0
              by_cases e2 : kd p < 6
              · exact e2
              · rw [if_neg e2] at h0; exact absurd rfl h0
          simp only [f_X7_take, f_X7_take_0, Option.bind_some, f_mPlace_yes F hp_, f_mPlace_yes F ho_, ne10, if_false, gm_kd, am_kd hp_, h6, if_true]
          unfold refr
          by_cases e : kd p = -2
          · rw [if_pos e, if_pos e]
          · rw [if_neg e, if_neg e, if_pos h6]
    · refine ⟨-1, cl, P, sp, st, sk, sd, sm, th, mc, pk, kd, td, fm, pr, sz, ro, tu, pe, tr, as, ?_, ?_, hR⟩
      · simp only [f_X6_take, f_X6_take_0, ck_0, Option.bind_some, f_isPlace_yes F _ hp_, f_isPlace_no F _ hno, ne10, if_false, if_true]
      · simp only [f_X7_take, f_X7_take_0, Option.bind_some, f_mPlace_yes F hp_, f_mPlace_no F hno, ne10, if_false, if_true]
  · refine ⟨-1, cl, P, sp, st, sk, sd, sm, th, mc, pk, kd, td, fm, pr, sz, ro, tu, pe, tr, as, ?_, ?_, hR⟩
    · simp only [f_X6_take, f_X6_take_0, ck_0, Option.bind_some, f_isPlace_no F _ hnp, if_true]
    · simp only [f_X7_take, f_X7_take_0, Option.bind_some, f_mPlace_no F hnp, if_true]
theorem st_toss {F : Nat × Nat} {sc : Nat × (Nat → Int32)} {c : Nat} (hc : c ≤ 10000) (x : Int32) : stepI sc c (f_X6_toss F 0 x) (f_X7_toss F 40 x) := by
  refine stepI.mkg fun n cl P ly sp st sk sd sm th mc pk kd td fm pr sz ro tu pe tr as w g hg hR => ?_
  rcases place_or x with ⟨p, hp_, rfl⟩ | hnp
  · have hkp := (hR.2.2.1 p hp_).1
    by_cases h0 : refu (kd p) = 0
    · obtain ⟨jp, hjp, hkjp, hsep, hfip, tp, htp, http, hppp, hkvp⟩ := fam_of (hR.2.2.1 p hp_) h0
      have hk1 : (P p).1 = nI jp := by rw [hkp, hkjp]
      have h0' : refu (nI jp) = 0 := by rw [← hkjp]; exact h0
      by_cases hn : jp = 2 ∨ jp = 4 ∨ jp = 5
      · obtain ⟨t1, t2⟩ := http hn
        have e1 : f_X1_hasNumber F (nI jp) = some 1 := by rw [f_hasNum hjp, if_pos hn]
        refine ⟨nI tp, g ++ [rx_exc], Or.inr rfl, ?_, ?_⟩
        · simp only [f_X6_toss, ck_0, Option.bind_some, f_famRef_eq F hp_, hk1, h0', if_true, gx_shelf, ax_shelf hp_, gp_ho hp_, e1, ne10, if_false, hp_push (show g.length ≤ 10000 by omega), gp_le hp_, t1]
        · simp only [f_X7_toss, f_X7_toss_0, ck_40, Option.bind_some, f_mPlace_yes F hp_, ne10, if_false, f_lacks_eq F hp_, hkjp, h0', if_true, gm_kd, am_kd hp_, gm_td, am_td hp_, t2]
          by_cases a2 : nI jp = 2
          · rw [if_pos a2]
          · rw [if_neg a2]
            by_cases a4 : nI jp = 4
            · rw [if_pos a4]
            · rw [if_neg a4, if_pos]
              rcases hn with rfl | rfl | rfl
              · exact absurd rfl a2
              · exact absurd rfl a4
              · rfl
      · have e1 : f_X1_hasNumber F (nI jp) = some 0 := by rw [f_hasNum hjp, if_neg hn]
        have a2 : ¬ nI jp = 2 := nI_is (k := 2) (by omega) (by omega) (by omega)
        have a4 : ¬ nI jp = 4 := nI_is (k := 4) (by omega) (by omega) (by omega)
        have a5 : ¬ nI jp = 5 := nI_is (k := 5) (by omega) (by omega) (by omega)
        refine ⟨-15, g, Or.inl rfl, ?_, ?_⟩
        · simp only [f_X6_toss, ck_0, Option.bind_some, f_famRef_eq F hp_, hk1, h0', if_true, gx_shelf, ax_shelf hp_, gp_ho hp_, e1]
        · simp only [f_X7_toss, f_X7_toss_0, ck_40, Option.bind_some, f_mPlace_yes F hp_, ne10, if_false, f_lacks_eq F hp_, hkjp, h0', if_true, gm_kd, am_kd hp_, a2, a4, a5]
    · refine ⟨refu (kd p), g, Or.inl rfl, ?_, ?_⟩
      · simp only [f_X6_toss, ck_0, Option.bind_some, f_famRef_eq F hp_, hkp, h0, if_false]
      · simp only [f_X7_toss, f_X7_toss_0, ck_40, Option.bind_some, f_mPlace_yes F hp_, ne10, if_false, f_lacks_eq F hp_, h0]
  · refine ⟨-1, g, Or.inl rfl, ?_, ?_⟩
    · simp only [f_X6_toss, ck_0, Option.bind_some, f_famRef_out F hnp, nm10, if_false]
    · simp only [f_X7_toss, f_X7_toss_0, Option.bind_some, f_mPlace_no F hnp, if_true]
def stepE (F : Nat × Nat) (sc : Nat × (Nat → Int32)) (c : Nat) (x y : Int32) : Prop := ∀ u, okH sc c u → ∃ (k : Int32) (X M : Nat → rx_C) (w : Nat → Int64) (g : List rx_C) (b : Int64) (u2 : Option rx_H), f_L_element F 0 x y 51 u = some (k, hp sc X M w g) ∧ rx_ck (hp sc X M w g) 40 3 = some () ∧ f_X7_element F 40 x y (hp sc X M w g) = some (b, u2) ∧ rx_ck u2 40 3 = some () ∧ f_X7_thrown F 40 u2 = some (k, u2) ∧ (k = 0 → rx_aJ u2 51 0 = some b) ∧ okH sc (c + 1) u2
theorem st_element {F : Nat × Nat} {sc : Nat × (Nat → Int32)} {c : Nat} (hc : c ≤ 10000) (x y : Int32) : stepE F sc c x y := by
  rintro u ⟨n, cl, P, ly, sp, st, sk, sd, sm, th, mc, pk, kd, td, fm, pr, sz, ro, tu, pe, tr, as, w, g, rfl, hR, hg, hx⟩
  have hg' : ∀ q ∈ g ++ [rx_exc], q = rx_exc := fun q hq => by
    rcases List.mem_append.mp hq with h | h
    · exact hx q h
    · exact List.mem_singleton.mp h
  have hl' : (g ++ [rx_exc]).length ≤ c + 1 := by rw [List.length_append]; show g.length + 1 ≤ c + 1; omega
  have bad : ∀ k : Int32, (k = 1 ∨ k = 2) → f_L_element F 0 x y 51 (hp sc (cx n cl P ly sp st sk sd sm) (cm n th mc pk kd td fm pr sz ro tu pe tr as) w g) = some (k, hp sc (cx n cl P ly sp st sk sd sm) (cm n th mc pk kd td fm pr sz ro tu pe tr as) w (g ++ [rx_exc])) → f_X7_element F 40 x y (hp sc (cx n cl P ly sp st sk sd sm) (cm n th mc pk kd td fm pr sz ro tu pe tr as) w (g ++ [rx_exc])) = some (0, hp sc (cx n cl P ly sp st sk sd sm) (cm n k mc pk kd td fm pr sz ro tu pe tr as) w (g ++ [rx_exc])) → ∃ (k : Int32) (X M : Nat → rx_C) (w' : Nat → Int64) (g' : List rx_C) (b : Int64) (u2 : Option rx_H), f_L_element F 0 x y 51 (hp sc (cx n cl P ly sp st sk sd sm) (cm n th mc pk kd td fm pr sz ro tu pe tr as) w g) = some (k, hp sc X M w' g') ∧ rx_ck (hp sc X M w' g') 40 3 = some () ∧ f_X7_element F 40 x y (hp sc X M w' g') = some (b, u2) ∧ rx_ck u2 40 3 = some () ∧ f_X7_thrown F 40 u2 = some (k, u2) ∧ (k = 0 → rx_aJ u2 51 0 = some b) ∧ okH sc (c + 1) u2 := by
    intro k hk e1 e2
    refine ⟨k, _, _, w, g ++ [rx_exc], 0, _, e1, ck_40, e2, ck_40, ?_, fun h => ?_, n, cl, P, ly, sp, st, sk, sd, sm, k, mc, pk, kd, td, fm, pr, sz, ro, tu, pe, tr, as, w, g ++ [rx_exc], rfl, hR, hl', hg'⟩
    · unfold f_X7_thrown f_X7_thrown_0
      rw [gm_th, Option.bind_some]
    · rcases hk with rfl | rfl
      · exact absurd h ne10
      · exact absurd h (by decide)
  have hp1 := fun (X M : Nat → rx_C) => hp_push (sc := sc) (X := X) (M := M) (w := w) (g := g) (show g.length ≤ 10000 by omega)
  have p1 : (0 : Int32) < 1 := by decide
  have p2 : (0 : Int32) < 2 := by decide
  have p0 : ¬ (0 : Int32) < 0 := by decide
  rcases place_or x with ⟨p, hp_, rfl⟩ | hnp
  · have hkp := (hR.2.2.1 p hp_).1
    by_cases h6 : kd p < 6
    · refine bad 2 (Or.inr rfl) ?_ ?_
      · simp only [f_L_element, ck_0, Option.bind_some, f_isPlace_yes F _ hp_, ne10, if_false, gx_shelf, ax_shelf hp_, ck_P hp_, f_isRow_eq F hp_, hkp, h6, if_true, hp1]
      · simp only [f_X7_element, f_X7_element_0, f_X7_element_44, Option.bind_some, f_mPlace_yes F hp_, ne10, if_false, gm_kd, am_kd hp_, h6, if_true, pm_th, gm_th, p2]
    · have h0 : refr (kd p) = 0 := by
        unfold refr
        by_cases e : kd p = -2
        · rw [e] at h6; exact absurd (by decide) h6
        · rw [if_neg e, if_neg h6]
      obtain ⟨j, hj, hk, l, hl, q1, q2, q3⟩ := row_of (hR.2.2.1 p hp_) h0
      by_cases hy : y < 0
      · refine bad 2 (Or.inr rfl) ?_ ?_
        · simp only [f_L_element, ck_0, Option.bind_some, f_isPlace_yes F _ hp_, ne10, if_false, gx_shelf, ax_shelf hp_, ck_P hp_, f_isRow_eq F hp_, hkp, h6, hy, if_true, hp1]
        · simp only [f_X7_element, f_X7_element_0, f_X7_element_44, Option.bind_some, f_mPlace_yes F hp_, ne10, if_false, gm_kd, am_kd hp_, h6, gm_sz, am_sz hp_, f_isIn_eq, hy, if_true, pm_th, gm_th, p2]
      · obtain ⟨i, hi, rfl⟩ := nI_of hy
        by_cases hil : i < l
        · have a1 : nI i < nI l := nI_lt hil (by omega)
          have a2 : ¬ nI l - 1 < nI i := by rw [show (1 : Int32) = nI 1 from rfl, pk_sub (by omega)]; exact nI_nlt (by omega) (by omega)
          refine ⟨0, (cx n cl P ly sp st sk sd sm), (cm n th mc pk kd td fm pr sz ro tu pe tr as), vp_updL w 0 (ro (64 * p + i)), g, ro (64 * p + i), hp sc (cx n cl P ly sp st sk sd sm) (cm n 0 mc pk kd td fm pr sz ro tu pe tr as) (vp_updL w 0 (ro (64 * p + i))) g, ?_, ck_40, ?_, ck_40, ?_, fun _ => ?_, n, cl, P, ly, sp, st, sk, sd, sm, 0, mc, pk, kd, td, fm, pr, sz, ro, tu, pe, tr, as, vp_updL w 0 (ro (64 * p + i)), g, rfl, hR, by omega, hx⟩
          · simp only [f_L_element, ck_0, Option.bind_some, f_isPlace_yes F _ hp_, ne10, if_false, gx_shelf, ax_shelf hp_, ck_P hp_, f_isRow_eq F hp_, hkp, h6, hy, gp_ln hp_, q1, a1, if_true, gp_nu hp_, ax_nu hp_ (show i < 64 by omega), q3 i (show i < 64 by omega), sw_0]
          · simp only [f_X7_element, f_X7_element_0, f_X7_element_44, Option.bind_some, f_mPlace_yes F hp_, ne10, if_false, gm_kd, am_kd hp_, h6, gm_sz, am_sz hp_, q2, f_isIn_eq, hy, a2, pm_th, gm_th, p0, gm_rw, i64, am_rw (show 64 * p + i < 1024 by omega)]
          · unfold f_X7_thrown f_X7_thrown_0
            rw [gm_th, Option.bind_some]
          · rw [aw_0, pk_uLs]
        · have a1 : ¬ nI i < nI l := nI_nlt (by omega) hi
          have a2 : nI l - 1 < nI i := by
            by_cases e : l = 0
            · rw [e]
              have : nI 0 - 1 < 0 := by decide
              have h0' := nI_pos' hi
              rw [Int32.lt_iff_toInt_lt] at this ⊢
              rw [Int32.le_iff_toInt_le] at h0'
              omega
            · rw [show (1 : Int32) = nI 1 from rfl, pk_sub (by omega)]; exact nI_lt (by omega) hi
          refine bad 2 (Or.inr rfl) ?_ ?_
          · simp only [f_L_element, ck_0, Option.bind_some, f_isPlace_yes F _ hp_, ne10, if_false, gx_shelf, ax_shelf hp_, ck_P hp_, f_isRow_eq F hp_, hkp, h6, hy, gp_ln hp_, q1, a1, hp1]
          · simp only [f_X7_element, f_X7_element_0, f_X7_element_44, Option.bind_some, f_mPlace_yes F hp_, ne10, if_false, gm_kd, am_kd hp_, h6, gm_sz, am_sz hp_, q2, f_isIn_eq, hy, a2, if_true, pm_th, gm_th, p2]
  · refine bad 1 (Or.inl rfl) ?_ ?_
    · simp only [f_L_element, ck_0, Option.bind_some, f_isPlace_no F _ hnp, if_true, hp1]
    · simp only [f_X7_element, f_X7_element_0, f_X7_element_44, Option.bind_some, f_mPlace_no F hnp, if_true, pm_th, gm_th, p1]
