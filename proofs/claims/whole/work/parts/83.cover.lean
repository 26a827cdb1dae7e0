/-! ===== Shattered, covers ===== -/
def ctF (n : Nat) (a : Int64) (s : Nat) : Int64 := oR (fun x => if qb a x then one (x &&& s) else 0) (2 ^ n)
def shB (n : Nat) (a : Int64) (s : Nat) : Bool := alw (fun x => !decide (x &&& s = x) || qb (ctF n a s) x) 0 (2 ^ n)
theorem qb_ctF {n : Nat} (hn : n ≤ 6) {a : Int64} {s z : Nat} (h : qb (ctF n a s) z = true) : z &&& s = z := by
  have ha := all_le hn
  obtain ⟨x, hx, q, q2⟩ := (qb_oRi a (fun x => one (x &&& s)) (2 ^ n) z).mp h
  rw [qb_one (Nat.lt_of_lt_of_le (and_l hx) ha), decide_eq_true_iff] at q2
  rw [q2, Nat.and_assoc, Nat.and_self]
theorem sh_iff {n : Nat} (hn : n ≤ 6) {a : Int64} {s : Nat} (hs : s < 2 ^ n) : ctF n a s = wIn s ↔ shB n a s = true := by
  have ha := all_le hn
  unfold shB
  rw [alw_iff]
  constructor
  · intro e x _ _
    by_cases h : x &&& s = x
    · have hx := sub_bits h
      rw [e, qb_wIn (by omega) (by omega), decide_eq_true h]; rfl
    · rw [decide_eq_false h]; rfl
  · intro h
    refine qb_ext fun z hz => bool_ext ?_
    rw [qb_wIn (by omega) hz, decide_eq_true_iff]
    constructor
    · exact qb_ctF hn
    · intro q
      have hzs := sub_bits q
      have := h z (Nat.zero_le _) (by omega)
      rw [decide_eq_true q] at this
      exact this
theorem f_shat_eq {F : Nat × Nat} (hF : 100000 ≤ F.1) {n : Nat} (hn : n ≤ 6) {a : Int64} (hfi : fits (2 ^ n) a) {s : Nat} (hs : s < 2 ^ n) : f_X0_shatters F a (nI s) = some (if shB n a s then 1 else 0) := by
  have ha := all_le hn
  unfold f_X0_shatters f_X0_shatters_0
  rw [cut_eq hF hn hfi (by omega), Option.bind_some, f_within_eq (by omega) (by omega), Option.bind_some]
  show (if ctF n a s = wIn s then some 1 else some 0) = _
  by_cases q : ctF n a s = wIn s
  · rw [if_pos q, if_pos ((sh_iff hn hs).mp q)]
  · rw [if_neg q, if_neg (fun h => q ((sh_iff hn hs).mpr h))]
/-! covers -/
def cvB (n : Nat) (a : Int64) (c : Nat) : Bool := alw (fun x => !qb a x || !decide (x &&& c = 0)) 0 (2 ^ n)
theorem co_fin : ∀ n, n < 7 → ∀ c, c < 2 ^ n → ∀ x, x < 2 ^ n → (x &&& (2 ^ n - 1 - c) = x ↔ x &&& c = 0) := by decide +kernel
theorem cv_iff {n : Nat} (hn : n ≤ 6) {a : Int64} (hfi : fits (2 ^ n) a) {c : Nat} (hc : c < 2 ^ n) : a &&& wIn (2 ^ n - 1 - c) = 0 ↔ cvB n a c = true := by
  have ha := all_le hn
  unfold cvB
  rw [alw_iff]
  constructor
  · intro e x _ hx
    cases q : qb a x
    · rfl
    · have h := congrArg (fun y => qb y x) e
      simp only [qb_and, qb_0, q, qb_wIn (show 2 ^ n - 1 - c < 64 by omega) (show x < 64 by omega), Bool.true_and] at h
      have h2 := of_decide_eq_false h
      have h3 : ¬ x &&& c = 0 := fun q => h2 ((co_fin n (by omega) c hc x (by omega)).mpr q)
      rw [decide_eq_false h3]; rfl
  · intro h
    refine qb_ext fun z hz => ?_
    rw [qb_0, qb_and]
    cases q : qb a z
    · rfl
    · have hzn := fits_lt hfi q
      have := h z (Nat.zero_le _) (by omega)
      rw [q] at this
      have h2 : ¬ z &&& c = 0 := fun e => by rw [decide_eq_true e] at this; cases this
      rw [qb_wIn (by omega) hz, decide_eq_false (fun e => h2 ((co_fin n (by omega) c hc z hzn).mp e))]; rfl
theorem fo_before {c : Nat → Bool} {y : Nat} : ∀ {k i : Nat}, fo c i k = some y → ∀ j, i ≤ j → j < y → c j = false
  | 0, i, h, j, _, _ => by cases h
  | k + 1, i, h, j, h1, h2 => by
    cases q : c i
    · rw [fo_no k q] at h
      by_cases e : j = i
      · subst e; exact q
      · exact fo_before h j (by omega) h2
    · rw [fo_yes k q] at h
      cases h; omega
def cvP (n : Nat) (a : Int64) (o : Option Nat) : Prop := match o with
  | none => ∀ c, c < 2 ^ n → cvB n a c = false
  | some b => b < 2 ^ n ∧ cvB n a b = true ∧ ∀ c, c < 2 ^ n → cvB n a c = true → pc b < pc c ∨ (pc b = pc c ∧ b ≤ c)
theorem cv_one {n : Nat} {a : Int64} : ∀ {o o' : Option Nat}, cvP n a o → cvP n a o' → o = o'
  | none, none, _, _ => rfl
  | none, some b, h, h' => by have := h b h'.1; rw [h'.2.1] at this; cases this
  | some b, none, h, h' => by have := h' b h.1; rw [h.2.1] at this; cases this
  | some b, some b', h, h' => by
    have h1 := h.2.2 b' h'.1 h'.2.1
    have h2 := h'.2.2 b h.1 h.2.1
    have : b = b' := by omega
    rw [this]
section B83
variable {sc : Nat × (Nat → Int32)} {n : Nat} {cl : Int32} {P : Nat → PL} {ly : Nat → Int64} {sp st : Nat → Int32} {sk : Int32} {sd : Nat → Int32} {sm : Nat → Int64} {X M : Nat → rx_C} {w : Nat → Int64} {g : List rx_C} {th mc pk : Int32} {kd td : Nat → Int32} {fm pr : Nat → Int64} {sz : Nat → Int32} {ro : Nat → Int64} {tu pe tr : Nat → Int32} {as : Nat → Int64}
theorem f_mshat_eq {F : Nat × Nat} (hF : 100000 ≤ F.1) (hn6 : n ≤ 6) (a : Int64) {s : Nat} (hs : s < 2 ^ n) : f_X7_isShattered F 40 a (nI s) (hp sc X (cm n th mc pk kd td fm pr sz ro tu pe tr as) w g) = some (if shB n a s then 1 else 0, (hp sc X (cm n th mc pk kd td fm pr sz ro tu pe tr as) w g)) := by
  have ha := all_le hn6
  have key : ∀ k i f, i + k = 2 ^ n → k < f → f_X7_isShattered_11 F f 40 (nI s) (ctF n a s) (nI i) (hp sc X (cm n th mc pk kd td fm pr sz ro tu pe tr as) w g) = some (if alw (fun x => !decide (x &&& s = x) || qb (ctF n a s) x) i k then 1 else 0, (hp sc X (cm n th mc pk kd td fm pr sz ro tu pe tr as) w g)) := by
    intro k
    induction k with
    | zero =>
      intro i f hi hf
      obtain ⟨f, rfl⟩ : ∃ g, f = g + 1 := ⟨f - 1, by omega⟩
      obtain rfl : i = 2 ^ n := by omega
      rw [f_X7_isShattered_11, gm_all, Option.bind_some, if_neg (nI_nlt (Nat.le_refl _) (by omega))]
      rfl
    | succ k ih =>
      intro i f hi hf
      obtain ⟨f, rfl⟩ : ∃ g, f = g + 1 := ⟨f - 1, by omega⟩
      show _ = some (if ((!decide (i &&& s = i) || qb (ctF n a s) i) && alw (fun x => !decide (x &&& s = x) || qb (ctF n a s) x) (i + 1) k) = true then 1 else 0, (hp sc X (cm n th mc pk kd td fm pr sz ro tu pe tr as) w g))
      rw [f_X7_isShattered_11, gm_all, Option.bind_some, if_pos (nI_lt (by omega) (by omega)), f_isWithin_eq F (by omega) (by omega), Option.bind_some, nI_1]
      by_cases q : i &&& s = i
      · rw [if_pos q, if_neg ne10, f_mhas_eq F _ (by omega), Option.bind_some, decide_eq_true q]
        cases q2 : qb (ctF n a s) i
        · rw [bf, if_pos rfl]; rfl
        · rw [bt, if_neg ne10]; exact ih (i + 1) f (by omega) (by omega)
      · rw [if_neg q, if_pos rfl, decide_eq_false q]; exact ih (i + 1) f (by omega) (by omega)
  unfold f_X7_isShattered f_X7_isShattered_0
  rw [ck_40, Option.bind_some, f_traceOf_eq hF hn6 a (by omega), Option.bind_some]
  exact key (2 ^ n) 0 F.1 (by omega) (by omega)
theorem f_csh_all {F : Nat × Nat} (hF : 100000 ≤ F.1) (hn6 : n ≤ 6) {a : Int64} (hfi : fits (2 ^ n) a) : f_X6_shattered_66 F F.1 0 a 0 0 (hp sc (cx n cl P ly sp st sk sd sm) M w g) = some (nI (fb_ct (shB n a) (2 ^ n)), (hp sc (cx n cl P ly sp st sk sd sm) M w g)) := by
  have ha := all_le hn6
  have key : ∀ k i f, i + k = 2 ^ n → k < f → f_X6_shattered_66 F f 0 a (nI (fb_ct (shB n a) i)) (nI i) (hp sc (cx n cl P ly sp st sk sd sm) M w g) = some (nI (fb_ct (shB n a) (2 ^ n)), (hp sc (cx n cl P ly sp st sk sd sm) M w g)) := by
    intro k
    induction k with
    | zero =>
      intro i f hi hf
      obtain ⟨f, rfl⟩ : ∃ g, f = g + 1 := ⟨f - 1, by omega⟩
      obtain rfl : i = 2 ^ n := by omega
      rw [f_X6_shattered_66, gx_all, Option.bind_some, if_neg (nI_nlt (Nat.le_refl _) (by omega))]
    | succ k ih =>
      intro i f hi hf
      obtain ⟨f, rfl⟩ : ∃ g, f = g + 1 := ⟨f - 1, by omega⟩
      rw [f_X6_shattered_66, gx_all, Option.bind_some, if_pos (nI_lt (by omega) (by omega)), f_shat_eq hF hn6 hfi (by omega), Option.bind_some]
      cases q : shB n a i
      · rw [bf, if_pos rfl, nI_ct0 q, nI_1]; exact ih (i + 1) f (by omega) (by omega)
      · rw [bt, if_neg ne10, nI_ct1 q, nI_1]; exact ih (i + 1) f (by omega) (by omega)
  exact key (2 ^ n) 0 F.1 (by omega) (by omega)
theorem f_msh_loop {F : Nat × Nat} (hF : 100000 ≤ F.1) (hn6 : n ≤ 6) {p : Nat} (hp_ : p < 16) {z : Int32} {c : Nat → Bool} (hc : ∀ x, x < 2 ^ n → ((z = -1 ∨ nI x = z) ∧ c x = shB n (fm p) x) ∨ (¬ z = -1 ∧ ¬ nI x = z ∧ c x = false)) : f_X7_shattered_41 F F.1 40 (nI p) z 0 0 (hp sc X (cm n th mc pk kd td fm pr sz ro tu pe tr as) w g) = some (nI (fb_ct c (2 ^ n)), (hp sc X (cm n th mc pk kd td fm pr sz ro tu pe tr as) w g)) := by
  have ha := all_le hn6
  have key : ∀ k i f, i + k = 2 ^ n → k < f → f_X7_shattered_41 F f 40 (nI p) z (nI (fb_ct c i)) (nI i) (hp sc X (cm n th mc pk kd td fm pr sz ro tu pe tr as) w g) = some (nI (fb_ct c (2 ^ n)), (hp sc X (cm n th mc pk kd td fm pr sz ro tu pe tr as) w g)) := by
    intro k
    induction k with
    | zero =>
      intro i f hi hf
      obtain ⟨f, rfl⟩ : ∃ g, f = g + 1 := ⟨f - 1, by omega⟩
      obtain rfl : i = 2 ^ n := by omega
      rw [f_X7_shattered_41, gm_all, Option.bind_some, if_neg (nI_nlt (Nat.le_refl _) (by omega))]
    | succ k ih =>
      intro i f hi hf
      obtain ⟨f, rfl⟩ : ∃ g, f = g + 1 := ⟨f - 1, by omega⟩
      have yes : c i = shB n (fm p) i → f_X7_shattered_62 F (f_X7_shattered_41 F f) 40 (nI p) z (nI i) (nI (fb_ct c i)) (hp sc X (cm n th mc pk kd td fm pr sz ro tu pe tr as) w g) = some (nI (fb_ct c (2 ^ n)), (hp sc X (cm n th mc pk kd td fm pr sz ro tu pe tr as) w g)) := by
        intro h
        rw [f_X7_shattered_62, gm_fm, Option.bind_some, am_fm hp_, Option.bind_some, ck_40, Option.bind_some, f_mshat_eq hF hn6 _ (by omega), Option.bind_some]
        cases q : shB n (fm p) i
        · rw [bf, if_pos rfl, nI_ct0 (h.trans q), nI_1]; exact ih (i + 1) f (by omega) (by omega)
        · rw [bt, if_neg ne10, nI_ct1 (h.trans q), nI_1]; exact ih (i + 1) f (by omega) (by omega)
      rw [f_X7_shattered_41, gm_all, Option.bind_some, if_pos (nI_lt (by omega) (by omega))]
      rcases hc i (by omega) with ⟨h1, h2⟩ | ⟨h1, h2, h3⟩
      · by_cases q : z = -1
        · rw [if_pos q]; exact yes h2
        · rw [if_neg q, if_pos (h1.resolve_left q)]; exact yes h2
      · rw [if_neg h1, if_neg h2, nI_ct0 h3, nI_1]; exact ih (i + 1) f (by omega) (by omega)
  exact key (2 ^ n) 0 F.1 (by omega) (by omega)
theorem ct_at {c : Nat → Bool} {s M : Nat} (hs : s < M) : fb_ct (fun x => decide (x = s) && c x) M = if c s then 1 else 0 := by
  cases q : c s
  · rw [if_neg (by decide)]
    refine fb_ct_zero.mpr fun x _ => ?_
    by_cases e : x = s
    · rw [e, q]; simp
    · rw [decide_eq_false e]; rfl
  · rw [if_pos rfl]
    have : fb_ct (fun x => decide (x = s) && c x) M = fb_ct (fun x => decide (x = s)) M := fb_ct_cong fun x _ => by
      by_cases e : x = s
      · rw [e, q]; simp
      · rw [decide_eq_false e]; rfl
    rw [this, ct_one, if_pos hs]
/-! cover -/
theorem f_ccov_in {F : Nat × Nat} (hF : 100000 ≤ F.1) (hn6 : n ≤ 6) {a : Int64} (hfi : fits (2 ^ n) a) {k0 : Nat} (hk0 : k0 < 7) (hly : ∀ k, k < 7 → ly k = lyr n k) (k26 : Nat → Int64 → Int32 → Option rx_H → Option (Int32 × Option rx_H)) : ∀ k i f, i + k = 64 → k < f → f_X6_cover_48 F k26 f 0 a (nI k0) (nI (qn (lyr n k0) i)) (hp sc (cx n cl P ly sp st sk sd sm) M w g) = match fo (fun c => qb (lyr n k0) c && cvB n a c) i k with
    | none => k26 0 a (nI (k0 + 1)) (hp sc (cx n cl P ly sp st sk sd sm) M w g)
    | some y => some (nI y, (hp sc (cx n cl P ly sp st sk sd sm) M w g)) := by
  have ha := all_le hn6
  intro k
  induction k with
  | zero =>
    intro i f hi hf
    obtain ⟨f, rfl⟩ : ∃ g, f = g + 1 := ⟨f - 1, by omega⟩
    obtain rfl : i = 64 := by omega
    rw [qn_big _ (Nat.le_refl _), f_X6_cover_48, gx_all, Option.bind_some, if_neg (nI_nlt ha (by omega)), nI_1]
    rfl
  | succ k ih =>
    intro i f hi hf
    obtain ⟨f, rfl⟩ : ∃ g, f = g + 1 := ⟨f - 1, by omega⟩
    cases q : qb (lyr n k0) i
    · rw [qn_no q, fo_no k (by rw [q]; rfl)]
      exact ih (i + 1) (f + 1) (by omega) (by omega)
    · have hin := fits_lt (fits_lyr hn6) q
      have e : nI (2 ^ n) - 1 - nI i = nI (2 ^ n - 1 - i) := by rw [show (1 : Int32) = nI 1 from rfl, pk_sub (by omega), pk_sub (by omega)]
      rw [qn_yes q, f_X6_cover_48, gx_all, Option.bind_some, if_pos (nI_lt hin (by omega)), Option.bind_some, e, f_within_eq (by omega) (by omega), Option.bind_some]
      cases q2 : cvB n a i
      · rw [if_neg (fun h => by rw [(cv_iff hn6 hfi hin).mp h] at q2; cases q2), gx_lay, Option.bind_some, ax_ly hk0, Option.bind_some, hly k0 hk0, nI_1, f_next_eq F _ (by omega), Option.bind_some, fo_no k (by rw [q2]; simp)]
        exact ih (i + 1) f (by omega) (by omega)
      · rw [if_pos ((cv_iff hn6 hfi hin).mpr q2), fo_yes k (by rw [q, q2]; rfl)]
theorem f_ccov {F : Nat × Nat} (hF : 100000 ≤ F.1) (hn6 : n ≤ 6) {a : Int64} (hfi : fits (2 ^ n) a) (hly : ∀ k, k < 7 → ly k = lyr n k) : ∀ d k f, k + d = n + 1 → d < f → (∀ c, c < 2 ^ n → pc c < k → cvB n a c = false) → ∃ o, cvP n a o ∧ f_X6_cover_26 F f 0 a (nI k) (hp sc (cx n cl P ly sp st sk sd sm) M w g) = some (enc (-2) o, (hp sc (cx n cl P ly sp st sk sd sm) M w g)) := by
  have ha := all_le hn6
  intro d
  induction d with
  | zero =>
    intro k f hk hf h
    obtain ⟨f, rfl⟩ : ∃ g, f = g + 1 := ⟨f - 1, by omega⟩
    refine ⟨none, fun c hc => h c hc (by have := pc_n hn6 hc; omega), ?_⟩
    rw [f_X6_cover_26, gx_n, Option.bind_some, if_pos (nI_lt (by omega) (by omega))]
    rfl
  | succ d ih =>
    intro k f hk hf h
    obtain ⟨f, rfl⟩ : ∃ g, f = g + 1 := ⟨f - 1, by omega⟩
    have hlay : ∀ c, qb (lyr n k) c = true ↔ c < 2 ^ n ∧ pc c = k := fun c => by rw [qb_lyr hn6, Bool.and_eq_true, decide_eq_true_iff, decide_eq_true_iff]
    have e : f_X6_cover_26 F (f + 1) 0 a (nI k) (hp sc (cx n cl P ly sp st sk sd sm) M w g) = match fo (fun c => qb (lyr n k) c && cvB n a c) 0 64 with
        | none => f_X6_cover_26 F f 0 a (nI (k + 1)) (hp sc (cx n cl P ly sp st sk sd sm) M w g)
        | some y => some (nI y, (hp sc (cx n cl P ly sp st sk sd sm) M w g)) := by
      rw [f_X6_cover_26, gx_n, Option.bind_some, if_neg (nI_nlt (by omega) (by omega)), gx_lay, Option.bind_some, ax_ly (by omega), Option.bind_some, hly k (by omega), show (0 : Int32) = nI 0 from rfl, f_next_eq F _ (by omega), Option.bind_some]
      exact f_ccov_in hF hn6 hfi (by omega) hly _ 64 0 F.1 (by omega) (by omega)
    cases hfo : fo (fun c => qb (lyr n k) c && cvB n a c) 0 64 with
    | none =>
      rw [hfo] at e
      obtain ⟨o, o1, o2⟩ := ih (k + 1) f (by omega) (by omega) (fun c hc hck => by
        by_cases e2 : pc c < k
        · exact h c hc e2
        · have := fo_none _ _ hfo c (Nat.zero_le _) (by omega)
          rw [(hlay c).mpr ⟨hc, by omega⟩] at this
          exact this)
      exact ⟨o, o1, e.trans o2⟩
    | some y =>
      rw [hfo] at e
      obtain ⟨y1, y2, y3⟩ := fo_some _ _ hfo
      rw [Bool.and_eq_true, hlay] at y3
      refine ⟨some y, ⟨y3.1.1, y3.2, fun c hc hcv => ?_⟩, e⟩
      by_cases e2 : pc c < k
      · rw [h c hc e2] at hcv; cases hcv
      · by_cases e3 : pc c = k
        · refine Or.inr ⟨by omega, Nat.not_lt.mp fun q => ?_⟩
          have := fo_before hfo c (Nat.zero_le _) q
          rw [(hlay c).mpr ⟨hc, e3⟩, hcv] at this
          cases this
        · exact Or.inl (by omega)
def cvM (n : Nat) (a : Int64) : Nat → Option Nat
  | 0 => none
  | c + 1 => match cvM n a c with
    | none => if cvB n a c then some c else none
    | some b => if pc c < pc b then (if cvB n a c then some c else some b) else some b
theorem cvM_lt (a : Int64) : ∀ m b, cvM n a m = some b → b < m
  | 0, b, h => by cases h
  | m + 1, b, h => by
    have ih := cvM_lt a m
    unfold cvM at h
    cases hc : cvM n a m with
    | none =>
      rw [hc] at h
      cases q : cvB n a m
      · rw [q] at h; cases h
      · rw [q] at h; cases h; omega
    | some b0 =>
      rw [hc] at h
      have := ih b0 hc
      have h' : (if pc m < pc b0 then (if cvB n a m then some m else some b0) else some b0) = some b := h
      by_cases q1 : pc m < pc b0
      · rw [if_pos q1] at h'
        cases q : cvB n a m
        · rw [q] at h'; cases h'; omega
        · rw [q] at h'; cases h'; omega
      · rw [if_neg q1] at h'; cases h'; omega
theorem cvM_ok (a : Int64) : ∀ m, match cvM n a m with
    | none => ∀ c, c < m → cvB n a c = false
    | some b => cvB n a b = true ∧ ∀ c, c < m → cvB n a c = true → pc b < pc c ∨ (pc b = pc c ∧ b ≤ c)
  | 0 => fun c hc => by omega
  | m + 1 => by
    have ih := cvM_ok a m
    have lt := cvM_lt a m (n := n)
    unfold cvM
    cases hc : cvM n a m with
    | none =>
      rw [hc] at ih
      cases q : cvB n a m
      · intro c hcm
        by_cases e : c = m
        · rw [e]; exact q
        · exact ih c (by omega)
      · refine ⟨q, fun c hcm hcv => ?_⟩
        by_cases e : c = m
        · exact Or.inr ⟨by rw [e], by omega⟩
        · rw [ih c (by omega)] at hcv; cases hcv
    | some b =>
      rw [hc] at ih
      have hb := lt b hc
      obtain ⟨i1, i2⟩ := ih
      show match (if pc m < pc b then (if cvB n a m then some m else some b) else some b) with
        | none => ∀ c, c < m + 1 → cvB n a c = false
        | some b => cvB n a b = true ∧ ∀ c, c < m + 1 → cvB n a c = true → pc b < pc c ∨ (pc b = pc c ∧ b ≤ c)
      by_cases q1 : pc m < pc b
      · rw [if_pos q1]
        cases q : cvB n a m
        · refine ⟨i1, fun c hcm hcv => ?_⟩
          by_cases e : c = m
          · rw [e, q] at hcv; cases hcv
          · exact i2 c (by omega) hcv
        · refine ⟨q, fun c hcm hcv => ?_⟩
          by_cases e : c = m
          · exact Or.inr ⟨by rw [e], by omega⟩
          · have := i2 c (by omega) hcv; omega
      · rw [if_neg q1]
        refine ⟨i1, fun c hcm hcv => ?_⟩
        by_cases e : c = m
        · subst e; omega
        · exact i2 c (by omega) hcv
theorem cvM_P (a : Int64) : cvP n a (cvM n a (2 ^ n)) := by
  have h := cvM_ok (n := n) a (2 ^ n)
  cases hc : cvM n a (2 ^ n) with
  | none => rw [hc] at h; exact h
  | some b => rw [hc] at h; exact ⟨cvM_lt a _ b hc, h.1, h.2⟩
theorem f_mcov_in {F : Nat × Nat} (hF : 100000 ≤ F.1) (hn6 : n ≤ 6) {p c0 : Nat} (hp_ : p < 16) (hc0 : c0 < 2 ^ n) (k28 : Nat → Int32 → Int32 → Int32 → Option rx_H → Option (Int32 × Option rx_H)) (b : Int32) (v : Bool) : f_X7_cover_61 F k28 F.1 40 (nI p) b (nI c0) (if v then 1 else 0) 0 (hp sc X (cm n th mc pk kd td fm pr sz ro tu pe tr as) w g) = k28 40 (nI p) (if v && cvB n (fm p) c0 then nI c0 else b) (nI (c0 + 1)) (hp sc X (cm n th mc pk kd td fm pr sz ro tu pe tr as) w g) := by
  have ha := all_le hn6
  have end0 : f_X7_cover_109 F k28 40 (nI p) b (nI c0) 0 (hp sc X (cm n th mc pk kd td fm pr sz ro tu pe tr as) w g) = k28 40 (nI p) b (nI (c0 + 1)) (hp sc X (cm n th mc pk kd td fm pr sz ro tu pe tr as) w g) := by rw [f_X7_cover_109, if_pos rfl, nI_1]
  have end1 : f_X7_cover_109 F k28 40 (nI p) b (nI c0) 1 (hp sc X (cm n th mc pk kd td fm pr sz ro tu pe tr as) w g) = k28 40 (nI p) (nI c0) (nI (c0 + 1)) (hp sc X (cm n th mc pk kd td fm pr sz ro tu pe tr as) w g) := by rw [f_X7_cover_109, if_neg ne10, nI_1]
  have key0 : ∀ i f, f_X7_cover_61 F k28 (f + 1) 40 (nI p) b (nI c0) 0 i (hp sc X (cm n th mc pk kd td fm pr sz ro tu pe tr as) w g) = k28 40 (nI p) b (nI (c0 + 1)) (hp sc X (cm n th mc pk kd td fm pr sz ro tu pe tr as) w g) := by
    intro i f
    rw [f_X7_cover_61, gm_all, Option.bind_some]
    by_cases q : i < nI (2 ^ n)
    · rw [if_pos q, if_pos rfl, end0]
    · rw [if_neg q, end0]
  have key1 : ∀ k i f, i + k = 2 ^ n → k + 1 < f → f_X7_cover_61 F k28 f 40 (nI p) b (nI c0) 1 (nI i) (hp sc X (cm n th mc pk kd td fm pr sz ro tu pe tr as) w g) = k28 40 (nI p) (if alw (fun x => !qb (fm p) x || !decide (x &&& c0 = 0)) i k then nI c0 else b) (nI (c0 + 1)) (hp sc X (cm n th mc pk kd td fm pr sz ro tu pe tr as) w g) := by
    intro k
    induction k with
    | zero =>
      intro i f hi hf
      obtain ⟨f, rfl⟩ : ∃ g, f = g + 1 := ⟨f - 1, by omega⟩
      obtain rfl : i = 2 ^ n := by omega
      rw [f_X7_cover_61, gm_all, Option.bind_some, if_neg (nI_nlt (Nat.le_refl _) (by omega)), end1]
      rfl
    | succ k ih =>
      intro i f hi hf
      obtain ⟨f, rfl⟩ : ∃ g, f = g + 2 := ⟨f - 2, by omega⟩
      show _ = k28 40 (nI p) (if ((!qb (fm p) i || !decide (i &&& c0 = 0)) && alw (fun x => !qb (fm p) x || !decide (x &&& c0 = 0)) (i + 1) k) = true then nI c0 else b) (nI (c0 + 1)) (hp sc X (cm n th mc pk kd td fm pr sz ro tu pe tr as) w g)
      rw [f_X7_cover_61, gm_all, Option.bind_some, if_pos (nI_lt (by omega) (by omega)), if_neg ne10, gm_fm, Option.bind_some, am_fm hp_, Option.bind_some, f_mhas_eq F _ (by omega), Option.bind_some, nI_1]
      cases q : qb (fm p) i
      · rw [bf, if_pos rfl]; exact ih (i + 1) (f + 1) (by omega) (by omega)
      · have hand : i &&& c0 < 64 := and_l (by omega)
        rw [bt, if_neg ne10, nI_and (by omega) (by omega)]
        by_cases q2 : i &&& c0 = 0
        · rw [if_pos (by rw [q2]; rfl), key0, decide_eq_true q2]; rfl
        · rw [if_neg (nI_ne0 (by omega) (by omega)), decide_eq_false q2]; exact ih (i + 1) (f + 1) (by omega) (by omega)
  cases v
  · obtain ⟨f, hf⟩ : ∃ g, F.1 = g + 1 := ⟨F.1 - 1, by omega⟩
    rw [hf]
    exact key0 0 f
  · exact key1 (2 ^ n) 0 F.1 (by omega) (by omega)
theorem f_mcov {F : Nat × Nat} (hF : 100000 ≤ F.1) (hn6 : n ≤ 6) {p : Nat} (hp_ : p < 16) : f_X7_cover_28 F F.1 40 (nI p) (-2) 0 (hp sc X (cm n th mc pk kd td fm pr sz ro tu pe tr as) w g) = some (enc (-2) (cvM n (fm p) (2 ^ n)), (hp sc X (cm n th mc pk kd td fm pr sz ro tu pe tr as) w g)) := by
  have ha := all_le hn6
  have key : ∀ k i f, i + k = 2 ^ n → k < f → f_X7_cover_28 F f 40 (nI p) (enc (-2) (cvM n (fm p) i)) (nI i) (hp sc X (cm n th mc pk kd td fm pr sz ro tu pe tr as) w g) = some (enc (-2) (cvM n (fm p) (2 ^ n)), (hp sc X (cm n th mc pk kd td fm pr sz ro tu pe tr as) w g)) := by
    intro k
    induction k with
    | zero =>
      intro i f hi hf
      obtain ⟨f, rfl⟩ : ∃ g, f = g + 1 := ⟨f - 1, by omega⟩
      obtain rfl : i = 2 ^ n := by omega
      rw [f_X7_cover_28, gm_all, Option.bind_some, if_neg (nI_nlt (Nat.le_refl _) (by omega))]
    | succ k ih =>
      intro i f hi hf
      obtain ⟨f, rfl⟩ : ∃ g, f = g + 1 := ⟨f - 1, by omega⟩
      have ih' := ih (i + 1) f (by omega) (by omega)
      have i1 := f_mcov_in (sc := sc) (n := n) (X := X) (w := w) (g := g) (th := th) (mc := mc) (pk := pk) (kd := kd) (td := td) (fm := fm) (pr := pr) (sz := sz) (ro := ro) (tu := tu) (pe := pe) (tr := tr) (as := as) hF hn6 hp_ (show i < 2 ^ n by omega) (f_X7_cover_28 F f)
      rw [f_X7_cover_28, gm_all, Option.bind_some, if_pos (nI_lt (by omega) (by omega))]
      cases hc : cvM n (fm p) i with
      | none =>
        rw [if_pos (show enc (-2) none < 0 by decide), show (1 : Int32) = (if true = true then 1 else 0) from rfl, i1 _ true]
        have e : cvM n (fm p) (i + 1) = if cvB n (fm p) i then some i else none := by
          show (match cvM n (fm p) i with | none => _ | some b => _) = _
          rw [hc]
        rw [e] at ih'
        cases q : cvB n (fm p) i
        · rw [q] at ih'; exact ih'
        · rw [q] at ih'; exact ih'
      | some b =>
        have hb := cvM_lt _ _ _ hc
        have p1 := pc_le i
        have p2 := pc_le b
        have e : cvM n (fm p) (i + 1) = if pc i < pc b then (if cvB n (fm p) i then some i else some b) else some b := by
          show (match cvM n (fm p) i with | none => _ | some b => _) = _
          rw [hc]
        rw [e] at ih'
        rw [if_neg (show ¬ enc (-2) (some b) < 0 from nI_pos (by omega)), f_ones_eq (by omega) (by omega), Option.bind_some, show enc (-2) (some b) = nI b from rfl, f_ones_eq (by omega) (by omega), Option.bind_some]
        by_cases q1 : pc i < pc b
        · rw [if_pos (nI_lt q1 (by omega)), show (1 : Int32) = (if true = true then 1 else 0) from rfl, i1 _ true]
          rw [if_pos q1] at ih'
          cases q : cvB n (fm p) i
          · rw [q] at ih'; exact ih'
          · rw [q] at ih'; exact ih'
        · rw [if_neg (nI_nlt (by omega) (by omega)), show f_X7_cover_61 F (f_X7_cover_28 F f) F.1 40 (nI p) (nI b) (nI i) 0 0 (hp sc X (cm n th mc pk kd td fm pr sz ro tu pe tr as) w g) = f_X7_cover_61 F (f_X7_cover_28 F f) F.1 40 (nI p) (nI b) (nI i) (if false = true then 1 else 0) 0 (hp sc X (cm n th mc pk kd td fm pr sz ro tu pe tr as) w g) from rfl, i1 _ false]
          rw [if_neg q1] at ih'
          exact ih'
  exact key (2 ^ n) 0 F.1 (by omega) (by omega)
end B83
