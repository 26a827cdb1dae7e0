/-! ===== Pushes ===== -/
def sw (i j z : Nat) : Nat := z ^^^ 2 ^ i ^^^ 2 ^ j
theorem sw_fin0 : ∀ i, i < 6 → ∀ j, j < 6 → ∀ z, z < 64 → i = j ∨ (sw i j z < 64 ∧ (sw i j z).testBit i = !z.testBit i ∧ (sw i j z).testBit j = !z.testBit j ∧ sw i j (sw i j z) = z) := by decide +kernel
theorem sw_A0 : ∀ i, i < 6 → ∀ j, j < 6 → ∀ z, z < 64 → i = j ∨ z.testBit j = false ∨ ((z - 2 ^ j).testBit i = z.testBit i ∧ (z.testBit i = true ∨ 2 ^ i + (z - 2 ^ j) = sw i j z)) := by decide +kernel
theorem sw_B0 : ∀ i, i < 6 → ∀ j, j < 6 → ∀ z, z < 64 → i = j ∨ z.testBit i = false ∨ ((z - 2 ^ i).testBit j = z.testBit j ∧ (z.testBit j = true ∨ 2 ^ j + (z - 2 ^ i) = sw i j z)) := by decide +kernel
theorem sw_pc0 : ∀ i, i < 6 → ∀ j, j < 6 → ∀ z, z < 64 → i = j ∨ z.testBit i = false ∨ z.testBit j = true ∨ pc (sw i j z) = pc z := by decide +kernel
theorem sw_fin (i : Nat) (hi : i < 6) (j : Nat) (hj : j < 6) (hij : ¬ i = j) (z : Nat) (hz : z < 64) : sw i j z < 64 ∧ (sw i j z).testBit i = !z.testBit i ∧ (sw i j z).testBit j = !z.testBit j ∧ sw i j (sw i j z) = z := (sw_fin0 i hi j hj z hz).resolve_left hij
theorem sw_A (i : Nat) (hi : i < 6) (j : Nat) (hj : j < 6) (hij : ¬ i = j) (z : Nat) (hz : z < 64) (hb : z.testBit j = true) : (z - 2 ^ j).testBit i = z.testBit i ∧ (z.testBit i = false → 2 ^ i + (z - 2 ^ j) = sw i j z) := by
  have h := ((sw_A0 i hi j hj z hz).resolve_left hij).resolve_left (by rw [hb]; decide)
  exact ⟨h.1, fun q => h.2.resolve_left (by rw [q]; decide)⟩
theorem sw_B (i : Nat) (hi : i < 6) (j : Nat) (hj : j < 6) (hij : ¬ i = j) (z : Nat) (hz : z < 64) (hb : z.testBit i = true) : (z - 2 ^ i).testBit j = z.testBit j ∧ (z.testBit j = false → 2 ^ j + (z - 2 ^ i) = sw i j z) := by
  have h := ((sw_B0 i hi j hj z hz).resolve_left hij).resolve_left (by rw [hb]; decide)
  exact ⟨h.1, fun q => h.2.resolve_left (by rw [q]; decide)⟩
theorem sw_pc (i : Nat) (hi : i < 6) (j : Nat) (hj : j < 6) (hij : ¬ i = j) (z : Nat) (hz : z < 64) (h1 : z.testBit i = true) (h2 : z.testBit j = false) : pc (sw i j z) = pc z :=
  (((sw_pc0 i hi j hj z hz).resolve_left hij).resolve_left (by rw [h1]; decide)).resolve_left (by rw [h2]; decide)
theorem sw_dn : ∀ i, i < 6 → ∀ j, j < i → ∀ z, z < 64 → z.testBit i = true → z.testBit j = false → sw i j z < z := by decide +kernel
def mv (a : Int64) (i j z : Nat) : Bool := (qb a z && !qb a (sw i j z)) && (z.testBit i && !z.testBit j)
def cmA (a : Int64) (i j : Nat) : Int64 := mrT (lsT ((a &&& (rx_W.getD i 0 ^^^ (-1))) &&& rx_W.getD j 0) i) j &&& (a ^^^ (-1))
def mvA (a : Int64) (i j : Nat) : Int64 := (a &&& (mrT (lsT (cmA a i j) j) i ^^^ (-1))) ||| cmA a i j
theorem f_moved_eq (F : Nat × Nat) (a : Int64) {i j : Nat} (hi : i < 6) (hj : j < 6) : f_X0_moved F a (nI i) (nI j) = some (mvA a i j) := by
  unfold f_X0_moved f_X0_moved_0
  rw [f_W_eq hi, Option.bind_some, f_W_eq hj, Option.bind_some, f_less_eq F _ hi, Option.bind_some, f_more_eq F _ hj, Option.bind_some, f_less_eq F _ hj, Option.bind_some, f_more_eq F _ hi, Option.bind_some]
  rfl
theorem mv_sw (a : Int64) {i j z : Nat} (hi : i < 6) (hj : j < 6) (hij : ¬ i = j) (hz : z < 64) : mv a i j (sw i j z) = ((qb a (sw i j z) && !qb a z) && (!z.testBit i && z.testBit j)) := by
  obtain ⟨h1, h2, h3, h4⟩ := sw_fin i hi j hj hij z hz
  unfold mv
  rw [h2, h3, h4, Bool.not_not]
theorem qb_cmA (a : Int64) {i j z : Nat} (hi : i < 6) (hj : j < 6) (hij : ¬ i = j) (hz : z < 64) : qb (cmA a i j) z = mv a i j (sw i j z) := by
  obtain ⟨h1, h2, h3, h4⟩ := sw_fin i hi j hj hij z hz
  rw [mv_sw a hi hj hij hz]
  unfold cmA
  rw [qb_and, qb_mr _ hj hz, qb_not _ hz]
  cases hzj : z.testBit j
  · simp
  · obtain ⟨e1, e2⟩ := sw_A i hi j hj hij z hz hzj
    rw [qb_ls _ hi (Nat.lt_of_le_of_lt (Nat.sub_le _ _) hz), e1]
    cases hzi : z.testBit i
    · rw [e2 hzi, qb_and, qb_and, qb_not _ h1, qb_W hi h1, qb_W hj h1, h2, h3, hzi, hzj]
      cases qb a (sw i j z) <;> cases qb a z <;> rfl
    · simp
theorem qb_mvA (a : Int64) {i j z : Nat} (hi : i < 6) (hj : j < 6) (hij : ¬ i = j) (hz : z < 64) : qb (mvA a i j) z = ((qb a z && !mv a i j z) || mv a i j (sw i j z)) := by
  obtain ⟨h1, h2, h3, h4⟩ := sw_fin i hi j hj hij z hz
  have e : qb (mrT (lsT (cmA a i j) j) i) z = mv a i j z := by
    rw [qb_mr _ hi hz]
    cases hzi : z.testBit i
    · unfold mv; rw [hzi]; simp
    · obtain ⟨e1, e2⟩ := sw_B i hi j hj hij z hz hzi
      rw [qb_ls _ hj (Nat.lt_of_le_of_lt (Nat.sub_le _ _) hz), e1]
      cases hzj : z.testBit j
      · rw [e2 hzj, qb_cmA a hi hj hij h1, h4]; simp
      · unfold mv; rw [hzj]; simp
  unfold mvA
  rw [qb_or, qb_and, qb_not _ hz, e, qb_cmA a hi hj hij hz]
theorem sw_lt {n i j z : Nat} (hi : i < n) (hj : j < n) (hz : z < 2 ^ n) : sw i j z < 2 ^ n := x_pow (x_pow hz hi) hj
theorem mv_q {a : Int64} {i j z : Nat} (h : mv a i j z = true) : qb a z = true ∧ qb a (sw i j z) = false ∧ z.testBit i = true ∧ z.testBit j = false := by
  unfold mv at h
  simp only [Bool.and_eq_true, Bool.not_eq_true'] at h
  exact ⟨h.1.1, h.1.2, h.2.1, h.2.2⟩
theorem fits_mvA {n : Nat} (hn : n ≤ 6) {a : Int64} (hfi : fits (2 ^ n) a) {i j : Nat} (hi : i < n) (hj : j < n) (hij : ¬ i = j) : fits (2 ^ n) (mvA a i j) := by
  intro z hz
  by_cases h64 : z < 64
  · obtain ⟨h1, h2, h3, h4⟩ := sw_fin i (by omega) j (by omega) hij z h64
    rw [qb_mvA a (by omega) (by omega) hij h64, hfi z hz]
    cases q : mv a i j (sw i j z)
    · rfl
    · have := sw_lt hi hj (fits_lt hfi (mv_q q).1)
      rw [h4] at this; omega
  · exact qb_big (by omega)
theorem lay_mvA {n : Nat} (hn : n ≤ 6) {a : Int64} {t : Nat} (h : ∀ x, qb a x = true → pc x = t) {i j : Nat} (hi : i < n) (hj : j < n) (hij : ¬ i = j) : ∀ x, qb (mvA a i j) x = true → pc x = t := by
  intro z hz
  have h64 := qb_lt hz
  obtain ⟨h1, h2, h3, h4⟩ := sw_fin i (by omega) j (by omega) hij z h64
  rw [qb_mvA a (by omega) (by omega) hij h64, Bool.or_eq_true, Bool.and_eq_true] at hz
  rcases hz with hz | hz
  · exact h z hz.1
  · obtain ⟨m1, m2, m3, m4⟩ := mv_q hz
    have := sw_pc i (by omega) j (by omega) hij _ h1 m3 m4
    rw [h4] at this
    rw [this]; exact h _ m1
theorem mvA_same {n : Nat} (hn : n ≤ 6) {a : Int64} (hfi : fits (2 ^ n) a) {i j : Nat} (hi : i < n) (hj : j < n) (hij : ¬ i = j) : mvA a i j = a ↔ fb_ct (mv a i j) (2 ^ n) = 0 := by
  have ha := all_le hn
  rw [fb_ct_zero]
  constructor
  · intro e z hz
    cases q : mv a i j z
    · rfl
    · obtain ⟨m1, m2, m3, m4⟩ := mv_q q
      have h := qb_mvA a (i := i) (j := j) (z := z) (by omega) (by omega) hij (by omega)
      rw [e, m1, q, mv_sw a (by omega) (by omega) hij (by omega), m3] at h
      simp at h
  · intro h
    refine qb_ext fun z hz => ?_
    obtain ⟨h1, h2, h3, h4⟩ := sw_fin i (by omega) j (by omega) hij z hz
    have no : ∀ y, mv a i j y = false := fun y => by
      cases q : mv a i j y
      · rfl
      · rw [h y (fits_lt hfi (mv_q q).1)] at q; cases q
    rw [qb_mvA a (by omega) (by omega) hij hz, no, no]
    cases qb a z <;> rfl
theorem ct_mv {n : Nat} (hn : n ≤ 6) {a : Int64} (hfi : fits (2 ^ n) a) {i j : Nat} (hi : i < n) (hj : j < n) (hij : ¬ i = j) : fb_ct (qb (mvA a i j &&& (a ^^^ (-1)))) 64 = fb_ct (mv a i j) (2 ^ n) := by
  have ha := all_le hn
  have e : fb_ct (qb (mvA a i j &&& (a ^^^ (-1)))) 64 = fb_ct (fun z => mv a i j (sw i j z)) 64 := by
    refine fb_ct_cong fun z hz => ?_
    rw [qb_and, qb_not _ hz, qb_mvA a (by omega) (by omega) hij hz, mv_sw a (by omega) (by omega) hij hz]
    cases qb a z <;> simp
  have b := sw_fin i (by omega) j (by omega) hij
  rw [e, ct_bij (h := sw i j) (h' := sw i j) (fun x hx => ⟨(b x hx).1, (b x hx).2.2.2⟩) (fun x hx => ⟨(b x hx).1, (b x hx).2.2.2⟩) (mv a i j)]
  exact ct_fit ha fun z hz => by
    cases q : mv a i j z
    · rfl
    · have := fits_lt hfi (mv_q q).1; omega
def mu (a : Int64) : Nat := fb_sm (fun x => if qb a x then x else 0) 64
theorem mu_le (a : Int64) : mu a ≤ 2016 := by
  have h : fb_sm (fun x => x) 64 = 2016 := by decide +kernel
  rw [← h]
  exact fb_sm_le fun x _ => by cases qb a x <;> simp
theorem mu_mv {a : Int64} {i j : Nat} (hi : i < 6) (hij : j < i) : mu (mvA a i j) + fb_ct (mv a i j) 64 ≤ mu a := by
  have hne : ¬ i = j := by omega
  have b := sw_fin i hi j (by omega) hne
  have e1 : mu (mvA a i j) + fb_sm (fun z => if mv a i j z then z else 0) 64 = mu a + fb_sm (fun z => if mv a i j (sw i j z) then z else 0) 64 := by
    unfold mu
    rw [← fb_sm_add, ← fb_sm_add]
    refine fb_sm_cong fun z hz => ?_
    rw [qb_mvA a hi (by omega) hne hz]
    cases m1 : mv a i j z
    · cases m2 : mv a i j (sw i j z)
      · simp
      · obtain ⟨_, q2, _, _⟩ := mv_q m2
        rw [(b z hz).2.2.2] at q2
        rw [q2]; simp
    · obtain ⟨q1, _, q3, _⟩ := mv_q m1
      have m2 : mv a i j (sw i j z) = false := by rw [mv_sw a hi (by omega) hne hz, q3]; simp
      rw [m2, q1]; simp
  have e2 : fb_sm (fun z => if mv a i j (sw i j z) then z else 0) 64 = fb_sm (fun y => if mv a i j y then sw i j y else 0) 64 := by
    rw [← sm_bij (h := sw i j) (h' := sw i j) (fun x hx => ⟨(b x hx).1, (b x hx).2.2.2⟩) (fun x hx => ⟨(b x hx).1, (b x hx).2.2.2⟩) (fun y => if mv a i j y then sw i j y else 0)]
    refine fb_sm_cong fun z hz => ?_
    rw [(b z hz).2.2.2]
  have e3 : fb_sm (fun y => if mv a i j y then sw i j y else 0) 64 + fb_ct (mv a i j) 64 ≤ fb_sm (fun z => if mv a i j z then z else 0) 64 := by
    rw [← fb_sm_ct, ← fb_sm_add]
    refine fb_sm_le fun z hz => ?_
    cases m1 : mv a i j z
    · simp
    · obtain ⟨_, _, q3, q4⟩ := mv_q m1
      have := sw_dn i hi j hij z hz q3 q4
      simp; omega
  omega
theorem ct_mv64 {n : Nat} (hn : n ≤ 6) {a : Int64} (hfi : fits (2 ^ n) a) (i j : Nat) : fb_ct (mv a i j) 64 = fb_ct (mv a i j) (2 ^ n) := ct_fit (all_le hn) fun z hz => by
  cases q : mv a i j z
  · rfl
  · have := fits_lt hfi (mv_q q).1; omega
/-! the model's way -/
def pg (a : Int64) (i j : Nat) : Nat → Int64
  | 0 => a
  | k + 1 => if mv a i j k then (pg a i j k &&& (one k ^^^ (-1))) ||| one (sw i j k) else pg a i j k
theorem qb_pg (a : Int64) {i j z : Nat} (hi : i < 6) (hj : j < 6) (hij : ¬ i = j) (hz : z < 64) : ∀ k, k ≤ 64 → qb (pg a i j k) z = ((qb a z && !(decide (z < k) && mv a i j z)) || (decide (sw i j z < k) && mv a i j (sw i j z)))
  | 0, _ => by simp [pg]
  | k + 1, hk => by
    have ih := qb_pg a hi hj hij hz k (by omega)
    obtain ⟨h1, h2, h3, h4⟩ := sw_fin i hi j hj hij z hz
    obtain ⟨g1, g2, g3, g4⟩ := sw_fin i hi j hj hij k (by omega)
    show qb (if mv a i j k then (pg a i j k &&& (one k ^^^ (-1))) ||| one (sw i j k) else pg a i j k) z = _
    by_cases ez : z = k
    · subst ez
      cases m : mv a i j z
      · rw [if_neg (by decide), ih]
        have e : decide (sw i j z < z + 1) = decide (sw i j z < z) := by
          by_cases q : sw i j z = z
          · have := h2; rw [q] at this; cases hb : z.testBit i <;> rw [hb] at this <;> cases this
          · by_cases q2 : sw i j z < z
            · rw [decide_eq_true q2, decide_eq_true (by omega)]
            · rw [decide_eq_false q2, decide_eq_false (by omega)]
        rw [e, m]; simp
      · obtain ⟨q1, q2, q3, q4⟩ := mv_q m
        have m2 : mv a i j (sw i j z) = false := by rw [mv_sw a hi hj hij hz, q3]; simp
        have ne : ¬ z = sw i j z := fun q => by rw [← q, q1] at q2; cases q2
        rw [if_pos rfl, qb_or, qb_and, qb_not _ hz, qb_one hz, qb_one g1, m2, q1, decide_eq_false ne]
        simp
    · have e1 : decide (z < k + 1) = decide (z < k) := by
        by_cases q2 : z < k
        · rw [decide_eq_true q2, decide_eq_true (by omega)]
        · rw [decide_eq_false q2, decide_eq_false (by omega)]
      by_cases es : sw i j z = k
      · have ezs : z = sw i j k := by rw [← es, h4]
        cases m : mv a i j k
        · rw [if_neg (by decide), ih, e1, es, m]; simp
        · rw [if_pos rfl, qb_or, qb_one g1, decide_eq_true ezs, es, m]; simp
      · have e2 : decide (sw i j z < k + 1) = decide (sw i j z < k) := by
          by_cases q2 : sw i j z < k
          · rw [decide_eq_true q2, decide_eq_true (by omega)]
          · rw [decide_eq_false q2, decide_eq_false (by omega)]
        have ne : ¬ z = sw i j k := fun q => es (by rw [q, g4])
        rw [e1, e2, ← ih]
        cases mv a i j k
        · rfl
        · rw [if_pos rfl, qb_or, qb_and, qb_not _ hz, qb_one (by omega), qb_one g1, decide_eq_false ez, decide_eq_false ne]; simp
theorem pg_eq {n : Nat} (hn : n ≤ 6) {a : Int64} (hfi : fits (2 ^ n) a) {i j : Nat} (hi : i < n) (hj : j < n) (hij : ¬ i = j) : pg a i j (2 ^ n) = mvA a i j := by
  have ha := all_le hn
  refine qb_ext fun z hz => ?_
  rw [qb_pg a (by omega) (by omega) hij hz _ ha, qb_mvA a (by omega) (by omega) hij hz]
  have f : ∀ y, (decide (y < 2 ^ n) && mv a i j y) = mv a i j y := fun y => by
    cases q : mv a i j y
    · simp
    · rw [decide_eq_true (fits_lt hfi (mv_q q).1)]; rfl
  rw [f, f]
section B80
variable {sc : Nat × (Nat → Int32)} {n : Nat} {cl : Int32} {P : Nat → PL} {ly : Nat → Int64} {sp st : Nat → Int32} {sk : Int32} {sd : Nat → Int32} {sm : Nat → Int64} {X M : Nat → rx_C} {w : Nat → Int64} {g : List rx_C} {th mc pk : Int32} {kd td : Nat → Int32} {fm pr : Nat → Int64} {sz : Nat → Int32} {ro : Nat → Int64} {tu pe tr : Nat → Int32} {as : Nat → Int64}
theorem rel_push {p : Nat} (hR : relR n cl P ly sp sk sm mc pk kd td fm pr sz ro pe) {kd' : Nat → Int32} {k1 t1 : Int32} {f : Int64} {j t : Nat} (hj : j = 0 ∨ j = 4) (h1 : kd' p = nI j) (h2 : ∀ p', p' ≠ p → kd' p' = kd p') (hk : k1 = nI j) (hf : fits (2 ^ n) f) (ht : t ≤ n) (htt : j = 4 → t1 = nI t ∧ td p = nI t) (hkv : kinv j t f (pr p)) : relR n cl (updP P p (k1, t1, f, 0, (P p).2.2.2.2)) ly sp sk sm mc pk kd' td (vp_updL fm p f) pr sz ro pe := by
  refine ⟨hR.1, hR.2.1, fun p' hp' => ?_, hR.2.2.2⟩
  by_cases e : p' = p
  · subst e
    rw [updP_same, pk_uLs]
    exact ⟨by rw [h1, hk], Or.inr (Or.inl ⟨j, by omega, h1, rfl, hf, t, ht, fun q => htt (by omega), fun q => by omega, hkv⟩)⟩
  · unfold updP
    rw [if_neg e, pk_uLn e, h2 p' e]
    exact hR.2.2.1 p' hp'
theorem f_stays_4 (F : Nat × Nat) {p : Nat} (hp_ : p < 16) (h : kd p = 4) : f_X7_staysLayer F 40 (nI p) (hp sc X (cm n th mc pk kd td fm pr sz ro tu pe tr as) w g) = some (hp sc X (cm n th mc pk kd td fm pr sz ro tu pe tr as) w g) := by
  unfold f_X7_staysLayer f_X7_staysLayer_0
  rw [gm_kd, Option.bind_some, am_kd hp_, Option.bind_some, if_pos h]
theorem f_stays_n (F : Nat × Nat) {p : Nat} (hp_ : p < 16) (h : ¬ kd p = 4) : f_X7_staysLayer F 40 (nI p) (hp sc X (cm n th mc pk kd td fm pr sz ro tu pe tr as) w g) = some (hp sc X (cm n th mc pk (upd kd p 0) td fm pr sz ro tu pe tr as) w g) := by
  unfold f_X7_staysLayer f_X7_staysLayer_0
  rw [gm_kd, Option.bind_some, am_kd hp_, Option.bind_some, if_neg h, Option.bind_some, sm_kd hp_, Option.bind_some]
theorem f_pushes_eq {F : Nat × Nat} (hF : 100000 ≤ F.1) (hn6 : n ≤ 6) {p i0 j0 : Nat} (hp_ : p < 16) (hi0 : i0 < n) (hj0 : j0 < n) (hij : ¬ i0 = j0) {a : Int64} (hfi : fits (2 ^ n) a) : f_X7_pushes F 40 (nI p) (nI i0) (nI j0) (hp sc X (cm n th mc pk kd td (vp_updL fm p a) pr sz ro tu pe tr as) w g) = some (nI (fb_ct (mv a i0 j0) (2 ^ n)), (hp sc X (cm n th mc pk kd td (vp_updL fm p (mvA a i0 j0)) pr sz ro tu pe tr as) w g)) := by
  have ha := all_le hn6
  have key : ∀ k i f, i + k = 2 ^ n → k < f → f_X7_pushes_14 F f 40 (nI p) (nI i0) (nI j0) a (nI (fb_ct (mv a i0 j0) i)) (nI i) (hp sc X (cm n th mc pk kd td (vp_updL fm p (pg a i0 j0 i)) pr sz ro tu pe tr as) w g) = some (nI (fb_ct (mv a i0 j0) (2 ^ n)), (hp sc X (cm n th mc pk kd td (vp_updL fm p (mvA a i0 j0)) pr sz ro tu pe tr as) w g)) := by
    intro k
    induction k with
    | zero =>
      intro i f hi hf
      obtain ⟨f, rfl⟩ : ∃ g, f = g + 1 := ⟨f - 1, by omega⟩
      obtain rfl : i = 2 ^ n := by omega
      rw [f_X7_pushes_14, gm_all, Option.bind_some, if_neg (nI_nlt (Nat.le_refl _) (by omega)), pg_eq hn6 hfi hi0 hj0 hij]
    | succ k ih =>
      intro i f hi hf
      obtain ⟨f, rfl⟩ : ∃ g, f = g + 1 := ⟨f - 1, by omega⟩
      have hi64 : i < 64 := by omega
      have ih' := ih (i + 1) f (by omega) (by omega)
      have no : mv a i0 j0 i = false → f_X7_pushes_14 F f 40 (nI p) (nI i0) (nI j0) a (nI (fb_ct (mv a i0 j0) i)) (nI i + 1) (hp sc X (cm n th mc pk kd td (vp_updL fm p (pg a i0 j0 i)) pr sz ro tu pe tr as) w g) = some (nI (fb_ct (mv a i0 j0) (2 ^ n)), (hp sc X (cm n th mc pk kd td (vp_updL fm p (mvA a i0 j0)) pr sz ro tu pe tr as) w g)) := by
        intro h
        have e : pg a i0 j0 (i + 1) = pg a i0 j0 i := by show (if mv a i0 j0 i then _ else _) = _; rw [h]; rfl
        rw [nI_ctn h, nI_1, ← e]
        exact ih'
      rw [f_X7_pushes_14, gm_all, Option.bind_some, if_pos (nI_lt (by omega) (by omega)), f_mhas_eq F _ hi64, Option.bind_some]
      cases q : qb a i
      · rw [bf, if_pos rfl]; exact no (by unfold mv; rw [q]; rfl)
      · rw [bt, if_neg ne10, bitI hi64 (by omega)]
        cases qi : i.testBit i0
        · rw [if_pos (by rfl)]; exact no (by unfold mv; rw [qi]; simp)
        · rw [if_neg (by decide), bitI hi64 (by omega)]
          cases qj : i.testBit j0
          · have hx1 : i ^^^ 2 ^ i0 < 64 := by have := x_pow (n := n) (x := i) (by omega) hi0; omega
            have hx2 : sw i0 j0 i < 64 := by have := sw_lt (z := i) hi0 hj0 (by omega); omega
            have p1 := p2_lt (show i0 < 6 by omega)
            have p2 := p2_lt (show j0 < 6 by omega)
            rw [if_neg (by decide), sh_eq (by omega), sh_eq (by omega), nI_xor hi64 p1, nI_xor hx1 p2, show i ^^^ 2 ^ i0 ^^^ 2 ^ j0 = sw i0 j0 i from rfl, f_mhas_eq F _ hx2, Option.bind_some]
            cases q2 : qb a (sw i0 j0 i)
            · have hm : mv a i0 j0 i = true := by unfold mv; rw [q, q2, qi, qj]; rfl
              have e : pg a i0 j0 (i + 1) = (pg a i0 j0 i &&& (one i ^^^ (-1))) ||| one (sw i0 j0 i) := by show (if mv a i0 j0 i then _ else _) = _; rw [hm]; rfl
              rw [bf, if_pos rfl, gm_fm, Option.bind_some, Option.bind_some, am_fm hp_, Option.bind_some, pk_uLs, sm_fm hp_, Option.bind_some, updL_twice, nI_ct1 hm, nI_1, ← e]
              exact ih'
            · rw [bt, if_neg ne10]; exact no (by unfold mv; rw [q2]; simp)
          · rw [if_pos (by rfl)]; exact no (by unfold mv; rw [qj]; simp)
  unfold f_X7_pushes f_X7_pushes_0
  rw [gm_fm, Option.bind_some, am_fm hp_, Option.bind_some, pk_uLs]
  exact key (2 ^ n) 0 F.1 (by omega) (by omega)
theorem updL_self (f : Nat → Int64) (p : Nat) : vp_updL f p (f p) = f := by
  funext k
  by_cases e : k = p
  · subst e; exact pk_uLs
  · exact pk_uLn e
theorem f_pushes_1 {F : Nat × Nat} (hF : 100000 ≤ F.1) (hn6 : n ≤ 6) {p i0 j0 : Nat} (hp_ : p < 16) (hi0 : i0 < n) (hj0 : j0 < n) (hij : ¬ i0 = j0) (hfi : fits (2 ^ n) (fm p)) : f_X7_pushes F 40 (nI p) (nI i0) (nI j0) (hp sc X (cm n th mc pk kd td fm pr sz ro tu pe tr as) w g) = some (nI (fb_ct (mv (fm p) i0 j0) (2 ^ n)), (hp sc X (cm n th mc pk kd td (vp_updL fm p (mvA (fm p) i0 j0)) pr sz ro tu pe tr as) w g)) := by
  have := f_pushes_eq (sc := sc) (n := n) (X := X) (w := w) (g := g) (th := th) (mc := mc) (pk := pk) (kd := kd) (td := td) (fm := fm) (pr := pr) (sz := sz) (ro := ro) (tu := tu) (pe := pe) (tr := tr) (as := as) hF hn6 hp_ hi0 hj0 hij hfi
  rw [updL_self] at this
  exact this
/-! rounds -/
def rJ (i : Nat) : Nat → Nat → Int64 × Nat → Int64 × Nat
  | 0, _, s => s
  | k + 1, j, s => rJ i k (j + 1) (mvA s.1 i j, s.2 + if mvA s.1 i j = s.1 then 0 else 1)
def rI : Nat → Nat → Int64 × Nat → Int64 × Nat
  | 0, _, s => s
  | k + 1, i, s => rI k (i + 1) (rJ i i 0 s)
def stQ (n : Nat) (t : Option Nat) (a : Int64) : Prop := fits (2 ^ n) a ∧ ∀ t0, t = some t0 → ∀ x, qb a x = true → pc x = t0
theorem rJ_ok (hn6 : n ≤ 6) {t : Option Nat} {i : Nat} (hi : i < n) : ∀ k j s, j + k = i → stQ n t s.1 → stQ n t (rJ i k j s).1 ∧ s.2 ≤ (rJ i k j s).2 ∧ (rJ i k j s).2 + mu (rJ i k j s).1 ≤ s.2 + mu s.1 := by
  intro k
  induction k with
  | zero => intro j s _ h; exact ⟨h, Nat.le_refl _, Nat.le_refl _⟩
  | succ k ih =>
    intro j s hj h
    have hij : ¬ i = j := by omega
    have h2 : stQ n t (mvA s.1 i j) := ⟨fits_mvA hn6 h.1 hi (by omega) hij, fun t0 ht => lay_mvA hn6 (h.2 t0 ht) hi (by omega) hij⟩
    obtain ⟨a1, a2, a3⟩ := ih (j + 1) (mvA s.1 i j, s.2 + if mvA s.1 i j = s.1 then 0 else 1) (by omega) h2
    have hm := mu_mv (a := s.1) (i := i) (j := j) (by omega) (by omega)
    have hs := mvA_same hn6 h.1 hi (show j < n by omega) hij
    rw [ct_mv64 hn6 h.1] at hm
    have e : rJ i (k + 1) j s = rJ i k (j + 1) (mvA s.1 i j, s.2 + if mvA s.1 i j = s.1 then 0 else 1) := rfl
    rw [← e] at a1 a2 a3
    refine ⟨a1, ?_, ?_⟩
    · have : s.2 ≤ s.2 + if mvA s.1 i j = s.1 then 0 else 1 := Nat.le_add_right _ _
      exact Nat.le_trans this a2
    · refine Nat.le_trans a3 ?_
      show (s.2 + if mvA s.1 i j = s.1 then 0 else 1) + mu (mvA s.1 i j) ≤ s.2 + mu s.1
      by_cases q : mvA s.1 i j = s.1
      · rw [if_pos q]; omega
      · rw [if_neg q]
        have : ¬ fb_ct (mv s.1 i j) (2 ^ n) = 0 := fun h => q (hs.mpr h)
        omega
theorem rI_ok (hn6 : n ≤ 6) {t : Option Nat} : ∀ k i s, i + k = n → stQ n t s.1 → stQ n t (rI k i s).1 ∧ s.2 ≤ (rI k i s).2 ∧ (rI k i s).2 + mu (rI k i s).1 ≤ s.2 + mu s.1 := by
  intro k
  induction k with
  | zero => intro i s _ h; exact ⟨h, Nat.le_refl _, Nat.le_refl _⟩
  | succ k ih =>
    intro i s hi h
    obtain ⟨b1, b2, b3⟩ := rJ_ok hn6 (t := t) (i := i) (by omega) i 0 s (by omega) h
    obtain ⟨a1, a2, a3⟩ := ih (i + 1) (rJ i i 0 s) (by omega) b1
    exact ⟨a1, Nat.le_trans b2 a2, Nat.le_trans a3 b3⟩
theorem f_cpJ (F : Nat × Nat) (hn6 : n ≤ 6) {p i : Nat} (hi : i < n) (k29 : Nat → Int32 → Int64 → Int32 → Int32 → Option rx_H → Option (Int32 × Option rx_H)) (k44 : Nat → Int32 → Int64 → Int32 → Int32 → Int32 → Int32 → Option rx_H → Option (Int32 × Option rx_H)) (r b : Int32) (u : Option rx_H) : ∀ k j f s, j + k = i → k < f → f_X6_pushed_56 F k29 k44 f 0 (nI p) s.1 (nI s.2) r b (nI i) (nI j) u = k44 0 (nI p) (rJ i k j s).1 (nI (rJ i k j s).2) r b (nI (i + 1)) u := by
  intro k
  induction k with
  | zero =>
    intro j f s hj hf
    obtain ⟨f, rfl⟩ : ∃ g, f = g + 1 := ⟨f - 1, by omega⟩
    obtain rfl : j = i := by omega
    rw [f_X6_pushed_56, if_neg (nI_nlt (Nat.le_refl _) (by omega)), nI_1]
    rfl
  | succ k ih =>
    intro j f s hj hf
    obtain ⟨f, rfl⟩ : ∃ g, f = g + 1 := ⟨f - 1, by omega⟩
    rw [f_X6_pushed_56, if_pos (nI_lt (by omega) (by omega)), f_moved_eq F _ (by omega) (by omega), Option.bind_some, nI_1]
    have ih' := ih (j + 1) f (mvA s.1 i j, s.2 + if mvA s.1 i j = s.1 then 0 else 1) (by omega) (by omega)
    by_cases q : mvA s.1 i j = s.1
    · rw [if_pos q, add_0]
      rw [if_pos q, Nat.add_zero] at ih'
      rw [show rJ i (k + 1) j s = rJ i k (j + 1) (mvA s.1 i j, s.2 + if mvA s.1 i j = s.1 then 0 else 1) from rfl, if_pos q, Nat.add_zero]
      exact ih'
    · rw [if_neg q, nI_1]
      rw [if_neg q] at ih'
      rw [show rJ i (k + 1) j s = rJ i k (j + 1) (mvA s.1 i j, s.2 + if mvA s.1 i j = s.1 then 0 else 1) from rfl, if_neg q]
      exact ih'
theorem f_cpI {F : Nat × Nat} (hF : 100000 ≤ F.1) (hn6 : n ≤ 6) {p : Nat} (k29 : Nat → Int32 → Int64 → Int32 → Int32 → Option rx_H → Option (Int32 × Option rx_H)) (r b : Int32) : ∀ k i f s, i + k = n → k < f → f_X6_pushed_44 F k29 f 0 (nI p) s.1 (nI s.2) r b (nI i) (hp sc (cx n cl P ly sp st sk sd sm) M w g) = if nI (rI k i s).2 = b then f_X6_pushed_121 F 0 (nI p) (rI k i s).1 (nI (rI k i s).2) (hp sc (cx n cl P ly sp st sk sd sm) M w g) else k29 0 (nI p) (rI k i s).1 (nI (rI k i s).2) (r + 1) (hp sc (cx n cl P ly sp st sk sd sm) M w g) := by
  intro k
  induction k with
  | zero =>
    intro i f s hi hf
    obtain ⟨f, rfl⟩ : ∃ g, f = g + 1 := ⟨f - 1, by omega⟩
    obtain rfl : i = n := by omega
    rw [f_X6_pushed_44, gx_n, Option.bind_some, if_neg (nI_nlt (Nat.le_refl _) (by omega))]
    rfl
  | succ k ih =>
    intro i f s hi hf
    obtain ⟨f, rfl⟩ : ∃ g, f = g + 1 := ⟨f - 1, by omega⟩
    rw [f_X6_pushed_44, gx_n, Option.bind_some, if_pos (nI_lt (by omega) (by omega)), show (0 : Int32) = nI 0 from rfl, f_cpJ F hn6 (by omega) _ _ r b _ i 0 F.1 s (by omega) (by omega)]
    exact ih (i + 1) f (rJ i i 0 s) (by omega) (by omega)
theorem f_mpJ {F : Nat × Nat} (hF : 100000 ≤ F.1) (hn6 : n ≤ 6) {p i : Nat} {t : Option Nat} (hp_ : p < 16) (hi : i < n) (k27 : Nat → Int32 → Int32 → Int32 → Option rx_H → Option (Int32 × Option rx_H)) (k37 : Nat → Int32 → Int32 → Int32 → Int32 → Option rx_H → Option (Int32 × Option rx_H)) (b : Int32) : ∀ k j f s, j + k = i → k < f → stQ n t s.1 → f_X7_pushed_49 F k27 k37 f 40 (nI p) (nI s.2) b (nI i) (nI j) (hp sc X (cm n th mc pk kd td (vp_updL fm p s.1) pr sz ro tu pe tr as) w g) = k37 40 (nI p) (nI (rJ i k j s).2) b (nI (i + 1)) (hp sc X (cm n th mc pk kd td (vp_updL fm p (rJ i k j s).1) pr sz ro tu pe tr as) w g) := by
  intro k
  induction k with
  | zero =>
    intro j f s hj hf _
    obtain ⟨f, rfl⟩ : ∃ g, f = g + 1 := ⟨f - 1, by omega⟩
    obtain rfl : j = i := by omega
    rw [f_X7_pushed_49, if_neg (nI_nlt (Nat.le_refl _) (by omega)), nI_1]
    rfl
  | succ k ih =>
    intro j f s hj hf h
    obtain ⟨f, rfl⟩ : ∃ g, f = g + 1 := ⟨f - 1, by omega⟩
    have ha := all_le hn6
    have hij : ¬ i = j := by omega
    have h2 : stQ n t (mvA s.1 i j) := ⟨fits_mvA hn6 h.1 hi (by omega) hij, fun t0 ht => lay_mvA hn6 (h.2 t0 ht) hi (by omega) hij⟩
    have hs := mvA_same hn6 h.1 hi (show j < n by omega) hij
    have hle := fb_ct_le (mv s.1 i j) (2 ^ n)
    rw [f_X7_pushed_49, if_pos (nI_lt (by omega) (by omega)), ck_40, Option.bind_some, f_pushes_eq hF hn6 hp_ hi (by omega) hij h.1, Option.bind_some]
    dsimp only
    have ih' := ih (j + 1) f (mvA s.1 i j, s.2 + if mvA s.1 i j = s.1 then 0 else 1) (by omega) (by omega) h2
    by_cases q : mvA s.1 i j = s.1
    · have q0 := hs.mp q
      rw [if_neg (show ¬ (0 : Int32) < nI (fb_ct (mv s.1 i j) (2 ^ n)) by rw [q0]; decide), add_0, nI_1]
      rw [if_pos q, Nat.add_zero] at ih'
      rw [show rJ i (k + 1) j s = rJ i k (j + 1) (mvA s.1 i j, s.2 + if mvA s.1 i j = s.1 then 0 else 1) from rfl, if_pos q, Nat.add_zero]
      exact ih'
    · have q0 : ¬ fb_ct (mv s.1 i j) (2 ^ n) = 0 := fun h => q (hs.mpr h)
      rw [if_pos (show (0 : Int32) < nI (fb_ct (mv s.1 i j) (2 ^ n)) from nI_lt (a := 0) (by omega) (by omega)), nI_1 s.2, nI_1 j]
      rw [if_neg q] at ih'
      rw [show rJ i (k + 1) j s = rJ i k (j + 1) (mvA s.1 i j, s.2 + if mvA s.1 i j = s.1 then 0 else 1) from rfl, if_neg q]
      exact ih'
theorem f_mpI {F : Nat × Nat} (hF : 100000 ≤ F.1) (hn6 : n ≤ 6) {p : Nat} {t : Option Nat} (hp_ : p < 16) (k27 : Nat → Int32 → Int32 → Int32 → Option rx_H → Option (Int32 × Option rx_H)) (b : Int32) : ∀ k i f s, i + k = n → k < f → stQ n t s.1 → f_X7_pushed_37 F k27 f 40 (nI p) (nI s.2) b (nI i) (hp sc X (cm n th mc pk kd td (vp_updL fm p s.1) pr sz ro tu pe tr as) w g) = k27 40 (nI p) (nI (rI k i s).2) b (hp sc X (cm n th mc pk kd td (vp_updL fm p (rI k i s).1) pr sz ro tu pe tr as) w g) := by
  intro k
  induction k with
  | zero =>
    intro i f s hi hf _
    obtain ⟨f, rfl⟩ : ∃ g, f = g + 1 := ⟨f - 1, by omega⟩
    obtain rfl : i = n := by omega
    rw [f_X7_pushed_37, gm_n, Option.bind_some, if_neg (nI_nlt (Nat.le_refl _) (by omega))]
    rfl
  | succ k ih =>
    intro i f s hi hf h
    obtain ⟨f, rfl⟩ : ∃ g, f = g + 1 := ⟨f - 1, by omega⟩
    obtain ⟨b1, _, _⟩ := rJ_ok hn6 (t := t) (i := i) (by omega) i 0 s (by omega) h
    rw [f_X7_pushed_37, gm_n, Option.bind_some, if_pos (nI_lt (by omega) (by omega)), show (0 : Int32) = nI 0 from rfl, f_mpJ hF hn6 hp_ (by omega) _ _ b i 0 F.1 s (by omega) (by omega) h]
    exact ih (i + 1) f (rJ i i 0 s) (by omega) (by omega) b1
theorem f_pushed_both {F : Nat × Nat} (hF : 100000 ≤ F.1) (hn3 : 3 ≤ n) (hn6 : n ≤ 6) {p : Nat} {t : Option Nat} (hp_ : p < 16) : ∀ (m r : Nat) (s : Int64 × Nat) (f f' : Nat), mu s.1 ≤ m → s.2 + mu s.1 ≤ 2016 → r + m < 2100 → m + 1 < f → m + 2 < f' → stQ n t s.1 → ∃ S : Int64 × Nat, stQ n t S.1 ∧ f_X6_pushed_29 F f 0 (nI p) s.1 (nI s.2) (nI r) (hp sc (cx n cl P ly sp st sk sd sm) M w g) = f_X6_pushed_121 F 0 (nI p) S.1 (nI S.2) (hp sc (cx n cl P ly sp st sk sd sm) M w g) ∧ ∀ (X : Nat → rx_C) (b : Int32), b < nI s.2 → f_X7_pushed_27 F f' 40 (nI p) (nI s.2) b (hp sc X (cm n th mc pk kd td (vp_updL fm p s.1) pr sz ro tu pe tr as) w g) = (f_X7_staysLayer F 40 (nI p) (hp sc X (cm n th mc pk kd td (vp_updL fm p S.1) pr sz ro tu pe tr as) w g)).bind fun v => some (nI S.2, v) := by
  intro m
  induction m with
  | zero =>
    intro r s f f' h1 h2 h3 h4 h5 hq
    obtain ⟨f, rfl⟩ : ∃ g, f = g + 1 := ⟨f - 1, by omega⟩
    obtain ⟨f', rfl⟩ : ∃ g, f' = g + 2 := ⟨f' - 2, by omega⟩
    obtain ⟨a1, a2, a3⟩ := rI_ok hn6 (t := t) (n - 1) 1 s (by omega) hq
    have e : (rI (n - 1) 1 s).2 = s.2 := by omega
    refine ⟨rI (n - 1) 1 s, a1, ?_, fun X b hb => ?_⟩
    · rw [f_X6_pushed_29, if_pos (show nI r < 2100 from nI_lt (b := 2100) (by omega) (by decide)), show (1 : Int32) = nI 1 from rfl, f_cpI hF hn6 _ _ _ (n - 1) 1 F.1 s (by omega) (by omega), e, if_pos rfl]
    · rw [f_X7_pushed_27, if_pos hb, show (1 : Int32) = nI 1 from rfl, f_mpI hF hn6 hp_ _ _ (n - 1) 1 F.1 s (by omega) (by omega) hq, e, f_X7_pushed_27, if_neg (nI_nlt (Nat.le_refl _) (by omega)), ck_40, Option.bind_some]
  | succ m ih =>
    intro r s f f' h1 h2 h3 h4 h5 hq
    obtain ⟨f, rfl⟩ : ∃ g, f = g + 1 := ⟨f - 1, by omega⟩
    obtain ⟨f', rfl⟩ : ∃ g, f' = g + 2 := ⟨f' - 2, by omega⟩
    obtain ⟨a1, a2, a3⟩ := rI_ok hn6 (t := t) (n - 1) 1 s (by omega) hq
    by_cases e : (rI (n - 1) 1 s).2 = s.2
    · refine ⟨rI (n - 1) 1 s, a1, ?_, fun X b hb => ?_⟩
      · rw [f_X6_pushed_29, if_pos (show nI r < 2100 from nI_lt (b := 2100) (by omega) (by decide)), show (1 : Int32) = nI 1 from rfl, f_cpI hF hn6 _ _ _ (n - 1) 1 F.1 s (by omega) (by omega), e, if_pos rfl]
      · rw [f_X7_pushed_27, if_pos hb, show (1 : Int32) = nI 1 from rfl, f_mpI hF hn6 hp_ _ _ (n - 1) 1 F.1 s (by omega) (by omega) hq, e, f_X7_pushed_27, if_neg (nI_nlt (Nat.le_refl _) (by omega)), ck_40, Option.bind_some]
    · obtain ⟨S, s1, s2, s3⟩ := ih (r + 1) (rI (n - 1) 1 s) f (f' + 1) (by omega) (by omega) (by omega) (by omega) (by omega) a1
      refine ⟨S, s1, ?_, fun X b hb => ?_⟩
      · rw [f_X6_pushed_29, if_pos (show nI r < 2100 from nI_lt (b := 2100) (by omega) (by decide)), show f_X6_pushed_44 F (f_X6_pushed_29 F f) F.1 0 (nI p) s.1 (nI s.2) (nI r) (nI s.2) 1 (hp sc (cx n cl P ly sp st sk sd sm) M w g) = f_X6_pushed_44 F (f_X6_pushed_29 F f) F.1 0 (nI p) s.1 (nI s.2) (nI r) (nI s.2) (nI 1) (hp sc (cx n cl P ly sp st sk sd sm) M w g) from rfl, f_cpI hF hn6 _ _ _ (n - 1) 1 F.1 s (by omega) (by omega), if_neg (fun h => e ((nI_eq (by omega) (by omega)).mp h)), nI_1]
        exact s2
      · rw [f_X7_pushed_27, if_pos hb, show (1 : Int32) = nI 1 from rfl, f_mpI hF hn6 hp_ _ _ (n - 1) 1 F.1 s (by omega) (by omega) hq]
        exact s3 X _ (nI_lt (by omega) (by omega))
theorem f_pushed_all {F : Nat × Nat} (hF : 100000 ≤ F.1) (hn3 : 3 ≤ n) (hn6 : n ≤ 6) {p : Nat} {t : Option Nat} (hp_ : p < 16) (hq : stQ n t (fm p)) : ∃ S : Int64 × Nat, stQ n t S.1 ∧ f_X6_pushed_29 F F.1 0 (nI p) (fm p) 0 0 (hp sc (cx n cl P ly sp st sk sd sm) M w g) = f_X6_pushed_121 F 0 (nI p) S.1 (nI S.2) (hp sc (cx n cl P ly sp st sk sd sm) M w g) ∧ ∀ X : Nat → rx_C, f_X7_pushed_27 F F.1 40 (nI p) 0 (-1) (hp sc X (cm n th mc pk kd td fm pr sz ro tu pe tr as) w g) = (f_X7_staysLayer F 40 (nI p) (hp sc X (cm n th mc pk kd td (vp_updL fm p S.1) pr sz ro tu pe tr as) w g)).bind fun v => some (nI S.2, v) := by
  have hm := mu_le (fm p)
  obtain ⟨S, s1, s2, s3⟩ := f_pushed_both (sc := sc) (cl := cl) (P := P) (ly := ly) (sp := sp) (st := st) (sk := sk) (sd := sd) (sm := sm) (M := M) (n := n) (w := w) (g := g) (th := th) (mc := mc) (pk := pk) (kd := kd) (td := td) (fm := fm) (pr := pr) (sz := sz) (ro := ro) (tu := tu) (pe := pe) (tr := tr) (as := as) hF hn3 hn6 hp_ 2016 0 (fm p, 0) F.1 F.1 hm (by show 0 + mu (fm p) ≤ 2016; omega) (by omega) (by omega) (by omega) hq
  refine ⟨S, s1, s2, fun X => ?_⟩
  have := s3 X (-1) (by show (-1 : Int32) < 0; decide)
  rw [updL_self] at this
  exact this
end B80
