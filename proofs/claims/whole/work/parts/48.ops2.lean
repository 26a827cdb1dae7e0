theorem st_empty (F : Nat × Nat) {sc : Nat × (Nat → Int32)} {c : Nat} (x : Int32) : stepI sc c (f_X6_empty F 0 x) (f_X7_empty F 40 x) := by
  refine stepI.mk fun n cl P ly sp st sk sd sm th mc pk kd td fm pr sz ro tu pe tr as w g hR => ?_
  rcases place_or x with ⟨p, hp, rfl⟩ | hn
  · have hk := (hR.2.2.1 p hp).1
    refine ⟨if kd p = -2 then 0 else 1, cl, updP P p (-2, (P p).2), sp, st, sk, sd, sm, th, mc, pk, upd kd p (-2), td, fm, pr, sz, ro, tu, pe, tr, as, ?_, ?_, hR.1, hR.2.1, ?_, hR.2.2.2⟩
    · unfold f_X6_empty f_X6_empty_0 f_X6_empty_29
      rw [ck_0, Option.bind_some, f_isPlace_yes F 0 hp, Option.bind_some, if_neg (by decide), gx_shelf, Option.bind_some, ax_shelf hp, Option.bind_some, gp_ho hp, Option.bind_some, hk]
      by_cases e : kd p = -2
      · rw [if_pos e, if_pos e, Option.bind_some, ax_shelf hp, Option.bind_some, ck_P hp, Option.bind_some, f_becomeNothing_eq F hp, Option.bind_some]
      · rw [if_neg e, if_neg e, Option.bind_some, ax_shelf hp, Option.bind_some, ck_P hp, Option.bind_some, f_becomeNothing_eq F hp, Option.bind_some]
    · unfold f_X7_empty f_X7_empty_0
      rw [f_mPlace_yes F hp, Option.bind_some, if_neg (by decide), gm_kd, Option.bind_some, am_kd hp, Option.bind_some]
      by_cases e : kd p = -2
      · rw [if_pos e, if_pos e, Option.bind_some, sm_kd hp, Option.bind_some]
      · rw [if_neg e, if_neg e, Option.bind_some, sm_kd hp, Option.bind_some]
    · intro p' hp'
      by_cases e : p' = p
      · subst e
        rw [updP_same, pk_us]
        exact ⟨rfl, Or.inl rfl⟩
      · unfold updP
        rw [if_neg e, pk_un e]
        exact hR.2.2.1 p' hp'
  · refine ⟨-1, cl, P, sp, st, sk, sd, sm, th, mc, pk, kd, td, fm, pr, sz, ro, tu, pe, tr, as, ?_, ?_, hR⟩
    · unfold f_X6_empty f_X6_empty_0
      rw [ck_0, Option.bind_some, f_isPlace_no F 0 hn, Option.bind_some, if_pos rfl]
    · unfold f_X7_empty f_X7_empty_0
      rw [f_mPlace_no F hn, Option.bind_some, if_pos rfl]
/-! which kinds there are -/
def isKd (n : Nat) (k t : Int32) : Prop := ¬ k < 0 ∧ ¬ 4 < k ∧ (k = 2 ∨ k = 4 → ¬ t < 0 ∧ ¬ nI n < t)
theorem k_range {k : Int32} (h1 : ¬ k < 0) (h2 : ¬ 4 < k) : k = 0 ∨ k = 1 ∨ k = 2 ∨ k = 3 ∨ k = 4 := by
  rcases pk_ix k (n := 5) (by decide) with q | q | ⟨j, hj, q⟩
  · exact absurd q h1
  · exfalso
    rw [Int32.lt_iff_toInt_lt] at h2
    rw [Int32.le_iff_toInt_le] at q
    have e : (nI 5).toInt = 5 := rfl
    have e2 : (4 : Int32).toInt = 4 := rfl
    omega
  · subst q
    match j, hj with
    | 0, _ => exact Or.inl rfl
    | 1, _ => exact Or.inr (Or.inl rfl)
    | 2, _ => exact Or.inr (Or.inr (Or.inl rfl))
    | 3, _ => exact Or.inr (Or.inr (Or.inr (Or.inl rfl)))
    | 4, _ => exact Or.inr (Or.inr (Or.inr (Or.inr rfl)))
section B48
variable {sc : Nat × (Nat → Int32)} {n : Nat} {cl : Int32} {P : Nat → PL} {ly : Nat → Int64} {sp st : Nat → Int32} {sk : Int32} {sd : Nat → Int32} {sm : Nat → Int64} {X M : Nat → rx_C} {w : Nat → Int64} {g : List rx_C} {th mc pk : Int32} {kd td : Nat → Int32} {fm pr : Nat → Int64} {sz : Nat → Int32} {ro : Nat → Int64} {tu pe tr : Nat → Int32} {as : Nat → Int64}
theorem f_isSize_eq (F : Nat × Nat) (t : Int32) : f_X6_isSize F 0 t (hp sc (cx n cl P ly sp st sk sd sm) M w g) = some (if t < 0 then 0 else if nI n < t then 0 else 1, hp sc (cx n cl P ly sp st sk sd sm) M w g) := by
  unfold f_X6_isSize f_X6_isSize_0
  by_cases h : t < 0
  · rw [if_pos h, if_pos h]
  · rw [if_neg h, if_neg h, gx_n, Option.bind_some]
    by_cases h2 : nI n < t
    · rw [if_pos h2, if_pos h2]
    · rw [if_neg h2, if_neg h2]
theorem f_isKind_eq (F : Nat × Nat) (k t : Int32) : ∃ b : Int32, (b = 0 ∨ b = 1) ∧ (b = 1 → isKd n k t) ∧ (f_X6_isKind F 0 k t (hp sc (cx n cl P ly sp st sk sd sm) M w g) = some (b, hp sc (cx n cl P ly sp st sk sd sm) M w g)) ∧ ∀ (X : Nat → rx_C), f_X7_isKind F 40 k t (hp sc X (cm n th mc pk kd td fm pr sz ro tu pe tr as) w g) = some (b, hp sc X (cm n th mc pk kd td fm pr sz ro tu pe tr as) w g) := by
  unfold f_X6_isKind f_X6_isKind_0 f_X7_isKind f_X7_isKind_0 f_X7_isKind_19 f_X7_isIn f_X7_isIn_0
  by_cases h1 : k < 0
  · exact ⟨0, Or.inl rfl, (fun h => by cases h), by rw [if_pos h1], fun X => by rw [if_pos h1]; rfl⟩
  by_cases h2 : 4 < k
  · exact ⟨0, Or.inl rfl, (fun h => by cases h), by rw [if_neg h1, if_pos h2], fun X => by rw [if_neg h1, if_pos h2]; rfl⟩
  have key : (k = 2 ∨ k = 4) ∨ (k = 0 ∨ k = 1 ∨ k = 3) := by
    rcases k_range h1 h2 with e | e | e | e | e
    · exact Or.inr (Or.inl e)
    · exact Or.inr (Or.inr (Or.inl e))
    · exact Or.inl (Or.inl e)
    · exact Or.inr (Or.inr (Or.inr e))
    · exact Or.inl (Or.inr e)
  rcases key with e | e
  · refine ⟨if t < 0 then 0 else if nI n < t then 0 else 1, ?_, ?_, ?_, fun X => ?_⟩
    · by_cases q : t < 0 <;> by_cases q2 : nI n < t <;> simp [q, q2]
    · intro hb
      refine ⟨h1, h2, fun _ => ?_⟩
      by_cases q : t < 0
      · rw [if_pos q] at hb; cases hb
      · by_cases q2 : nI n < t
        · rw [if_neg q, if_pos q2] at hb; cases hb
        · exact ⟨q, q2⟩
    · have hnum : f_X1_hasNumber F k = some 1 := by rcases e with rfl | rfl <;> rfl
      rw [if_neg h1, if_neg h2, hnum, Option.bind_some, if_neg (by decide), ck_0, Option.bind_some, f_isSize_eq, Option.bind_some]
      by_cases q : t < 0
      · rw [if_pos q]; rfl
      · by_cases q2 : nI n < t
        · rw [if_neg q, if_pos q2]; rfl
        · rw [if_neg q, if_neg q2]; rfl
    · rw [if_neg h1, if_neg h2, Option.bind_some, if_neg (by decide)]
      have hh : ∀ {α : Type} (a b : α), (if k = 2 then a else if k = 4 then a else b) = a := fun a b => by rcases e with rfl | rfl <;> rfl
      rw [hh _ _, gm_n, Option.bind_some]
      by_cases q : t < 0
      · rw [if_pos q, if_pos q]; rfl
      · by_cases q2 : nI n < t
        · rw [if_neg q, if_pos q2, if_neg q, if_pos q2]; rfl
        · rw [if_neg q, if_neg q2, if_neg q, if_neg q2]; rfl
  · refine ⟨1, Or.inr rfl, fun _ => ⟨h1, h2, fun q => ?_⟩, ?_, fun X => ?_⟩
    · exfalso
      rcases e with rfl | rfl | rfl <;> rcases q with q | q <;> revert q <;> decide
    · have hnum : f_X1_hasNumber F k = some 0 := by rcases e with rfl | rfl | rfl <;> rfl
      rw [if_neg h1, if_neg h2, hnum, Option.bind_some, if_pos rfl]
    · rw [if_neg h1, if_neg h2, Option.bind_some, if_neg (by decide)]
      rcases e with rfl | rfl | rfl <;> rfl
end B48
theorem ne10 : ¬ (1 : Int32) = 0 := by decide
theorem kinv_0 (j t : Nat) (r : Int64) : kinv j t 0 r := by
  have h : ∀ x, qb 0 x = true → False := fun x h => by rw [qb_0] at h; cases h
  exact ⟨fun _ x _ q => (h x q).elim, fun _ x _ q => (h x q).elim, fun _ x _ q => (h x q).elim, fun _ x q => (h x q).elim, fun _ x _ q => (h x q).elim⟩
theorem fits_0 (m : Nat) : fits m 0 := fun j _ => qb_0 j
theorem num_in {n : Nat} (hn : n ≤ 6) {t : Int32} (h1 : ¬ t < 0) (h2 : ¬ nI n < t) : ∃ t', t' ≤ n ∧ t = nI t' := by
  obtain ⟨j, hj, e⟩ := nI_of h1
  subst e
  refine ⟨j, Nat.not_lt.mp fun q => h2 (nI_lt q hj), rfl⟩
theorem st_make {F : Nat × Nat} (hF : 100 ≤ F.1) {sc : Nat × (Nat → Int32)} {c : Nat} (x k t : Int32) : stepI sc c (f_X6_make F 0 x k t) (f_X7_make F 40 x k t) := by
  refine stepI.mk fun n cl P ly sp st sk sd sm th mc pk kd td fm pr sz ro tu pe tr as w g hR => ?_
  rcases place_or x with ⟨p, hp, rfl⟩ | hn
  · obtain ⟨b, hb, hb1, e1, e2⟩ := f_isKind_eq (sc := sc) (n := n) (cl := cl) (P := P) (ly := ly) (sp := sp) (st := st) (sk := sk) (sd := sd) (sm := sm) (M := cm n th mc pk kd td fm pr sz ro tu pe tr as) (w := w) (g := g) (th := th) (mc := mc) (pk := pk) (kd := kd) (td := td) (fm := fm) (pr := pr) (sz := sz) (ro := ro) (tu := tu) (pe := pe) (tr := tr) (as := as) F k t
    rcases hb with rfl | rfl
    · refine ⟨-1, cl, P, sp, st, sk, sd, sm, th, mc, pk, kd, td, fm, pr, sz, ro, tu, pe, tr, as, ?_, ?_, hR⟩
      · unfold f_X6_make f_X6_make_0
        rw [ck_0, Option.bind_some, f_isPlace_yes F 0 hp, Option.bind_some, if_neg (by decide), Option.bind_some, e1, Option.bind_some, if_pos rfl]
      · unfold f_X7_make f_X7_make_0
        rw [f_mPlace_yes F hp, Option.bind_some, if_neg (by decide), ck_40, Option.bind_some, e2, Option.bind_some, if_pos rfl]
    · obtain ⟨i1, i2, i3⟩ := hb1 rfl
      refine ⟨0, cl, updP P p (k, t, 0, 0, (P p).2.2.2.2), sp, st, sk, sd, sm, th, mc, pk, upd kd p k, upd td p t, vp_updL fm p 0, vp_updL pr p 0, sz, ro, tu, pe, tr, as, ?_, ?_, hR.1, hR.2.1, plR_upd hR.2.2.1 ⟨rfl, Or.inr (Or.inl ?_)⟩, hR.2.2.2⟩
      · unfold f_X6_make f_X6_make_0
        rw [ck_0, Option.bind_some, f_isPlace_yes F 0 hp, Option.bind_some, if_neg (by decide), Option.bind_some, e1, Option.bind_some, if_neg ne10, ck_0, Option.bind_some, f_keep_eq F hp, Option.bind_some]
      · unfold f_X7_make f_X7_make_0
        rw [f_mPlace_yes F hp, Option.bind_some, if_neg (by decide), ck_40, Option.bind_some, e2, Option.bind_some, if_neg ne10, ck_40, Option.bind_some, f_holdsNow_eq hF hp, Option.bind_some]
        have e0 : nI (fb_ct (qb 0) 64) = 0 := by
          have : fb_ct (qb 0) 64 = 0 := fb_ct_zero.mpr fun k _ => qb_0 k
          rw [this]; rfl
        rw [e0]
      · have hj : ∃ j, j < 5 ∧ k = nI j := by
          rcases k_range i1 i2 with q | q | q | q | q
          · exact ⟨0, by decide, q⟩
          · exact ⟨1, by decide, q⟩
          · exact ⟨2, by decide, q⟩
          · exact ⟨3, by decide, q⟩
          · exact ⟨4, by decide, q⟩
        obtain ⟨j, hj5, rfl⟩ := hj
        refine ⟨j, by omega, rfl, rfl, fits_0 _, ?_⟩
        by_cases h24 : j = 2 ∨ j = 4
        · obtain ⟨q1, q2⟩ := i3 (by rcases h24 with rfl | rfl; exact Or.inl rfl; exact Or.inr rfl)
          obtain ⟨t', ht', rfl⟩ := num_in hR.1.2 q1 q2
          exact ⟨t', ht', fun _ => ⟨rfl, rfl⟩, fun q => by omega, kinv_0 _ _ _⟩
        · exact ⟨0, by omega, fun q => by omega, fun q => by omega, kinv_0 _ _ _⟩
  · refine ⟨-1, cl, P, sp, st, sk, sd, sm, th, mc, pk, kd, td, fm, pr, sz, ro, tu, pe, tr, as, ?_, ?_, hR⟩
    · unfold f_X6_make f_X6_make_0
      rw [ck_0, Option.bind_some, f_isPlace_no F 0 hn, Option.bind_some, if_pos rfl]
    · unfold f_X7_make f_X7_make_0
      rw [f_mPlace_no F hn, Option.bind_some, if_pos rfl]
