/-! ===== Turns, the model's way ===== -/
theorem m1_c (c : Nat) : (if c = 0 then (-1 : Int32) else nI (c - 1)) + 1 = nI c := by
  by_cases h : c = 0
  · rw [if_pos h, h]; decide
  · rw [if_neg h, nI_1, show c - 1 + 1 = c by omega]
section B94
variable {sc : Nat × (Nat → Int32)} {n : Nat} {cl : Int32} {P : Nat → PL} {ly : Nat → Int64} {sp st : Nat → Int32} {sk : Int32} {sd : Nat → Int32} {sm : Nat → Int64} {X M : Nat → rx_C} {w : Nat → Int64} {g : List rx_C} {th mc pk : Int32} {kd td : Nat → Int32} {fm pr : Nat → Int64} {sz : Nat → Int32} {ro : Nat → Int64} {tu pe tr : Nat → Int32} {as : Nat → Int64}
theorem f_first_eq {F : Nat × Nat} (hF : 100000 ≤ F.1) (hn6 : n ≤ 6) : ∃ tu' : Nat → Int32, f_X7_firstTurn F 40 (hp sc X (cm n th mc pk kd td fm pr sz ro tu pe tr as) w g) = some (hp sc X (cm n th mc pk kd td fm pr sz ro (tu') pe tr as) w g) ∧ tuR n (dg (idn n)) tu' := by
  have key : ∀ k i f (tu : Nat → Int32), i + k = n → k < f → (∀ j, j < i → tu j = nI j) → ∃ tu' : Nat → Int32, f_X7_firstTurn_2 F f 40 (nI i) (hp sc X (cm n th mc pk kd td fm pr sz ro tu pe tr as) w g) = some (hp sc X (cm n th mc pk kd td fm pr sz ro (tu') pe tr as) w g) ∧ ∀ j, j < n → tu' j = nI j := by
    intro k
    induction k with
    | zero =>
      intro i f tu hi hf h
      obtain ⟨f, rfl⟩ : ∃ g, f = g + 1 := ⟨f - 1, by omega⟩
      obtain rfl : i = n := by omega
      refine ⟨tu, ?_, h⟩
      rw [f_X7_firstTurn_2, gm_n, Option.bind_some, if_neg (nI_nlt (Nat.le_refl _) (by omega))]
    | succ k ih =>
      intro i f tu hi hf h
      obtain ⟨f, rfl⟩ : ∃ g, f = g + 1 := ⟨f - 1, by omega⟩
      obtain ⟨tu', t1, t2⟩ := ih (i + 1) f (upd tu i (nI i)) (by omega) (by omega) (fun j hj => by
        by_cases e : j = i
        · subst e; exact pk_us
        · rw [pk_un e]; exact h j (by omega))
      refine ⟨tu', ?_, t2⟩
      rw [f_X7_firstTurn_2, gm_n, Option.bind_some, if_pos (nI_lt (by omega) (by omega)), gm_tu, Option.bind_some, sm_tu (by omega), Option.bind_some, nI_1]
      exact t1
  obtain ⟨tu', t1, t2⟩ := key n 0 F.1 tu (by omega) (by omega) (fun j hj => by omega)
  exact ⟨tu', t1, fun i hi => by rw [t2 i hi, (id_dg hn6).2 i hi]⟩
theorem f_mswap_eq (F : Nat × Nat) (hn6 : n ≤ 6) {σ : Nat → Nat} (ht : tuR n σ tu) {i j : Nat} (hi : i < n) (hj : j < n) : ∃ tu' : Nat → Int32, f_X7_swap F 40 (nI i) (nI j) (hp sc X (cm n th mc pk kd td fm pr sz ro tu pe tr as) w g) = some (hp sc X (cm n th mc pk kd td fm pr sz ro (tu') pe tr as) w g) ∧ tuR n (swF σ i j) tu' := by
  refine ⟨upd (upd tu i (tu j)) j (tu i), ?_, fun k hk => ?_⟩
  · unfold f_X7_swap f_X7_swap_0
    simp only [gm_tu, Option.bind_some, am_tu (show i < 6 by omega), am_tu (show j < 6 by omega), sm_tu (show i < 6 by omega), sm_tu (show j < 6 by omega)]
  · unfold swF
    by_cases e : k = j
    · subst e; rw [pk_us, if_pos rfl]; exact ht i hi
    · rw [pk_un e, if_neg e]
      by_cases e2 : k = i
      · subst e2; rw [pk_us, if_pos rfl]; exact ht j hj
      · rw [pk_un e2, if_neg e2]; exact ht k hk
theorem f_mrev {F : Nat × Nat} (hn6 : n ≤ 6) : ∀ (f f' a b : Nat) (σ : Nat → Nat) (tu : Nat → Int32), f < f' → b < n → b ≤ a + 2 * f → a < 100 → tuR n σ tu → ∃ tu' : Nat → Int32, f_X7_nextTurn_86 F f' 40 (nI a) (nI b) (hp sc X (cm n th mc pk kd td fm pr sz ro tu pe tr as) w g) = some (1, (hp sc X (cm n th mc pk kd td fm pr sz ro (tu') pe tr as) w g)) ∧ tuR n (rv σ f a b) tu' := by
  intro f
  induction f with
  | zero =>
    intro f' a b σ tu hf hb hab ha ht
    obtain ⟨f', rfl⟩ : ∃ g, f' = g + 1 := ⟨f' - 1, by omega⟩
    refine ⟨tu, ?_, ht⟩
    rw [f_X7_nextTurn_86, if_neg (nI_nlt (by omega) (by omega))]
  | succ f ih =>
    intro f' a b σ tu hf hb hab ha ht
    obtain ⟨f', rfl⟩ : ∃ g, f' = g + 1 := ⟨f' - 1, by omega⟩
    show ∃ tu' : Nat → Int32, _ ∧ tuR n (if a < b then rv (swF σ a b) f (a + 1) (b - 1) else σ) tu'
    by_cases h : a < b
    · obtain ⟨tu1, t1, t2⟩ := f_mswap_eq (sc := sc) (X := X) (w := w) (g := g) (th := th) (mc := mc) (pk := pk) (kd := kd) (td := td) (fm := fm) (pr := pr) (sz := sz) (ro := ro) (tu := tu) (pe := pe) (tr := tr) (as := as) F hn6 ht (show a < n by omega) hb
      obtain ⟨b', rfl⟩ : ∃ z, b = z + 1 := ⟨b - 1, by omega⟩
      obtain ⟨tu2, s1, s2⟩ := ih f' (a + 1) b' (swF σ a (b' + 1)) tu1 (by omega) (by omega) (by omega) (by omega) t2
      refine ⟨tu2, ?_, ?_⟩
      · rw [f_X7_nextTurn_86, if_pos (nI_lt h (by omega)), ck_40, Option.bind_some, t1, Option.bind_some, nI_1, pk_m1]; exact s1
      · rw [if_pos h, Nat.add_sub_cancel]; exact s2
    · refine ⟨tu, ?_, by rw [if_neg h]; exact ht⟩
      rw [f_X7_nextTurn_86, if_neg (nI_nlt (by omega) (by omega))]
theorem f_mdsc {F : Nat × Nat} (hF : 100000 ≤ F.1) (hn6 : n ≤ 6) {σ : Nat → Nat} (hs : ∀ i, i < n → σ i < n) (ht : tuR n σ tu) {i : Nat} (hi : i + 1 < n) (hasc : ¬ σ (i + 1) < σ i) : ∀ (j f : Nat), j < f → j < n → i + 1 ≤ j → ∃ tu' : Nat → Int32, f_X7_nextTurn_47 F f 40 (nI i) (nI j) (hp sc X (cm n th mc pk kd td fm pr sz ro tu pe tr as) w g) = some (1, (hp sc X (cm n th mc pk kd td fm pr sz ro (tu') pe tr as) w g)) ∧ tuR n (rv (swF σ i (dsc σ (σ i) j)) 6 (i + 1) (n - 1)) tu' := by
  intro j
  induction j with
  | zero => intro f _ _ h; omega
  | succ j ih =>
    intro f hf hj hij
    obtain ⟨f, rfl⟩ : ∃ g, f = g + 1 := ⟨f - 1, by omega⟩
    have h1 := hs (j + 1) hj
    have h2 := hs i (by omega)
    show ∃ tu' : Nat → Int32, _ ∧ tuR n (rv (swF σ i (if σ (j + 1) < σ i then dsc σ (σ i) j else j + 1)) 6 (i + 1) (n - 1)) tu'
    rw [f_X7_nextTurn_47, gm_tu, Option.bind_some, am_tu (by omega), Option.bind_some, Option.bind_some, am_tu (by omega), Option.bind_some, ht _ hj, ht i (by omega)]
    by_cases q : σ (j + 1) < σ i
    · rw [if_pos (nI_lt q (by omega)), pk_m1, if_pos q]
      have hne : ¬ j + 1 = i + 1 := fun e => hasc (by rw [← e]; exact q)
      exact ih f (by omega) (by omega) (by omega)
    · obtain ⟨tu1, t1, t2⟩ := f_mswap_eq (sc := sc) (X := X) (w := w) (g := g) (th := th) (mc := mc) (pk := pk) (kd := kd) (td := td) (fm := fm) (pr := pr) (sz := sz) (ro := ro) (tu := tu) (pe := pe) (tr := tr) (as := as) F hn6 ht (show i < n by omega) hj
      obtain ⟨tu2, s1, s2⟩ := f_mrev (sc := sc) (X := X) (w := w) (g := g) (th := th) (mc := mc) (pk := pk) (kd := kd) (td := td) (fm := fm) (pr := pr) (sz := sz) (ro := ro) (pe := pe) (tr := tr) (as := as) (F := F) hn6 6 F.1 (i + 1) (n - 1) _ tu1 (by omega) (by omega) (by omega) (by omega) t2
      refine ⟨tu2, ?_, by rw [if_neg q]; exact s2⟩
      rw [if_neg (nI_nlt (by omega) (by omega)), ck_40, Option.bind_some, t1, Option.bind_some, gm_n, Option.bind_some, nI_1, show (1 : Int32) = nI 1 from rfl, pk_sub (by omega)]
      exact s1
theorem f_next_all {F : Nat × Nat} (hF : 100000 ≤ F.1) (hn3 : 3 ≤ n) (hn6 : n ≤ 6) {σ : Nat → Nat} (hs : ∀ i, i < n → σ i < n) (ht : tuR n σ tu) : (nxF n σ = none → f_X7_nextTurn F 40 (hp sc X (cm n th mc pk kd td fm pr sz ro tu pe tr as) w g) = some (0, (hp sc X (cm n th mc pk kd td fm pr sz ro tu pe tr as) w g))) ∧ ∀ τ, nxF n σ = some τ → ∃ tu' : Nat → Int32, f_X7_nextTurn F 40 (hp sc X (cm n th mc pk kd td fm pr sz ro tu pe tr as) w g) = some (1, (hp sc X (cm n th mc pk kd td fm pr sz ro (tu') pe tr as) w g)) ∧ tuR n τ tu' := by
  have l7 : ∀ c f, c < f → c + 1 ≤ n → f_X7_nextTurn_7 F f 40 (if c = 0 then (-1 : Int32) else nI (c - 1)) (hp sc X (cm n th mc pk kd td fm pr sz ro tu pe tr as) w g) = f_X7_nextTurn_34 F 40 (match asc σ c with | none => -1 | some i => nI i) (hp sc X (cm n th mc pk kd td fm pr sz ro tu pe tr as) w g) := by
    intro c
    induction c with
    | zero =>
      intro f hf _
      obtain ⟨f, rfl⟩ : ∃ g, f = g + 1 := ⟨f - 1, by omega⟩
      rw [if_pos rfl, f_X7_nextTurn_7, if_pos (by decide)]
      rfl
    | succ c ih =>
      intro f hf hc
      obtain ⟨f, rfl⟩ : ∃ g, f = g + 1 := ⟨f - 1, by omega⟩
      have h1 := hs (c + 1) (by omega)
      have h2 := hs c (by omega)
      rw [if_neg (by omega), Nat.add_sub_cancel, f_X7_nextTurn_7, if_neg (nI_pos (by omega)), gm_tu, Option.bind_some, am_tu (by omega), Option.bind_some, Option.bind_some, nI_1, am_tu (by omega), Option.bind_some, ht _ (by omega), ht c (by omega)]
      show _ = f_X7_nextTurn_34 F 40 (match (if σ (c + 1) < σ c then asc σ c else some c) with | none => -1 | some i => nI i) (hp sc X (cm n th mc pk kd td fm pr sz ro tu pe tr as) w g)
      by_cases q : σ (c + 1) < σ c
      · rw [if_pos (nI_lt q (by omega)), if_pos q]
        have e : nI c + (-1) = (if c = 0 then (-1 : Int32) else nI (c - 1)) := by
          by_cases h0 : c = 0
          · rw [if_pos h0, h0]; decide
          · obtain ⟨z, rfl⟩ : ∃ z, c = z + 1 := ⟨c - 1, by omega⟩
            rw [if_neg h0, pk_m1, Nat.add_sub_cancel]
        rw [e]
        exact ih f (by omega) (by omega)
      · rw [if_neg (nI_nlt (by omega) (by omega)), if_neg q]
  have st : f_X7_nextTurn F 40 (hp sc X (cm n th mc pk kd td fm pr sz ro tu pe tr as) w g) = f_X7_nextTurn_34 F 40 (match asc σ (n - 1) with | none => -1 | some i => nI i) (hp sc X (cm n th mc pk kd td fm pr sz ro tu pe tr as) w g) := by
    unfold f_X7_nextTurn f_X7_nextTurn_0
    rw [gm_n, Option.bind_some, ← l7 (n - 1) F.1 (by omega) (by omega), if_neg (by omega), show (2 : Int32) = nI 2 from rfl, pk_sub (by omega)]
    rfl
  have lt : ∀ c i, asc σ c = some i → i < c ∧ ¬ σ (i + 1) < σ i := by
    intro c
    induction c with
    | zero => intro i h; cases h
    | succ c ih =>
      intro i h
      have h' : (if σ (c + 1) < σ c then asc σ c else some c) = some i := h
      by_cases q : σ (c + 1) < σ c
      · rw [if_pos q] at h'
        have := ih i h'
        exact ⟨by omega, this.2⟩
      · rw [if_neg q] at h'; cases h'; exact ⟨by omega, q⟩
  unfold nxF
  rw [st]
  cases hA : asc σ (n - 1) with
  | none => exact ⟨fun _ => by rw [f_X7_nextTurn_34, if_pos (show (-1 : Int32) < 0 by decide)], fun τ h => by cases h⟩
  | some i =>
    obtain ⟨hi, hia⟩ := lt _ _ hA
    refine ⟨(fun h => by cases h), fun τ h => ?_⟩
    cases h
    obtain ⟨tu', t1, t2⟩ := f_mdsc (sc := sc) (X := X) (w := w) (g := g) (th := th) (mc := mc) (pk := pk) (kd := kd) (td := td) (fm := fm) (pr := pr) (sz := sz) (ro := ro) (tu := tu) (pe := pe) (tr := tr) (as := as) hF hn6 hs ht (show i + 1 < n by omega) hia (n - 1) F.1 (by omega) (by omega) (by omega)
    refine ⟨tu', ?_, t2⟩
    rw [f_X7_nextTurn_34, if_neg (nI_pos (by omega)), gm_n, Option.bind_some, show (1 : Int32) = nI 1 from rfl, pk_sub (by omega)]
    exact t1
theorem f_mnum {F : Nat × Nat} (hF : 100000 ≤ F.1) (hn3 : 3 ≤ n) (hn6 : n ≤ 6) {m : Nat} (hm : m / 8 ^ n = 0) (ht : tuR n (dg m) tu) : f_X7_number F 40 (hp sc X (cm n th mc pk kd td fm pr sz ro tu pe tr as) w g) = some (nI m, (hp sc X (cm n th mc pk kd td fm pr sz ro tu pe tr as) w g)) := by
  have h8 := m8 hn6 hm
  have key : ∀ c f, c < f → c ≤ n → f_X7_number_9 F f 40 (nI (m / 8 ^ c)) (if c = 0 then (-1 : Int32) else nI (c - 1)) (hp sc X (cm n th mc pk kd td fm pr sz ro tu pe tr as) w g) = some (nI m, (hp sc X (cm n th mc pk kd td fm pr sz ro tu pe tr as) w g)) := by
    intro c
    induction c with
    | zero =>
      intro f hf _
      obtain ⟨f, rfl⟩ : ∃ g, f = g + 1 := ⟨f - 1, by omega⟩
      rw [if_pos rfl, f_X7_number_9, if_pos (by decide), Nat.pow_zero, Nat.div_one]
    | succ c ih =>
      intro f hf hc
      obtain ⟨f, rfl⟩ : ∃ g, f = g + 1 := ⟨f - 1, by omega⟩
      have e : nI c + (-1) = (if c = 0 then (-1 : Int32) else nI (c - 1)) := by
        by_cases h0 : c = 0
        · rw [if_pos h0, h0]; decide
        · obtain ⟨z, rfl⟩ : ∃ z, c = z + 1 := ⟨c - 1, by omega⟩
          rw [if_neg h0, pk_m1, Nat.add_sub_cancel]
      have ev : (8 : Int32) * nI (m / 8 ^ (c + 1)) + nI (dg m c) = nI (m / 8 ^ c) := by
        rw [show (8 : Int32) = nI 8 from rfl, pk_mul, nI_add, ← dg_div]
        unfold dg
        rw [Nat.div_add_mod]
      rw [if_neg (by omega), Nat.add_sub_cancel, f_X7_number_9, if_neg (nI_pos (by omega)), gm_tu, Option.bind_some, am_tu (by omega), Option.bind_some, ht c (by omega), ev, e]
      exact ih f (by omega) (by omega)
  unfold f_X7_number f_X7_number_0
  have := key n F.1 (by omega) (Nat.le_refl _)
  rw [hm, if_neg (by omega)] at this
  rw [gm_n, Option.bind_some, show (1 : Int32) = nI 1 from rfl, pk_sub (by omega)]
  exact this
theorem okN_of {m m' : Nat} (h : okN n m m' = true) : ∃ τ, nxF n (dg m) = some τ ∧ ∀ k, k < n → τ k = dg m' k := by
  unfold okN at h
  cases q : nxF n (dg m) with
  | none => rw [q] at h; cases h
  | some τ =>
    rw [q] at h
    rw [alw_iff] at h
    exact ⟨τ, rfl, fun k hk => of_decide_eq_true (h k (Nat.zero_le _) (by omega))⟩
theorem f_msame {F : Nat × Nat} (hF : 100000 ≤ F.1) (hn3 : 3 ≤ n) (hn6 : n ≤ 6) {p o : Nat} (hp_ : p < 16) (ho_ : o < 16) : ∀ (l : List Nat) (m f : Nat) (tu : Nat → Int32), l.length + 1 < f → chn n (m :: l) = true → (∀ x, x ∈ m :: l → isT n x) → tuR n (dg m) tu → ∃ tu' : Nat → Int32, f_X7_same_52 F f 40 (nI p) (nI o) 1 (hp sc X (cm n th mc pk kd td fm pr sz ro tu pe tr as) w g) = some (encM (fnd (fun m' => decide (tuF n (dg m') (fm p) = fm o)) (m :: l)), (hp sc X (cm n th mc pk kd td fm pr sz ro (tu') pe tr as) w g)) := by
  intro l
  induction l with
  | nil =>
    intro m f tu hf hch hT ht
    obtain ⟨f, rfl⟩ : ∃ g, f = g + 2 := ⟨f - 2, by have : ([] : List Nat).length = 0 := rfl; omega⟩
    have hm := hT m List.mem_cons_self
    have hpm := isT_pm hm
    have hnone : nxF n (dg m) = none := Option.isNone_iff_eq_none.mp hch
    show ∃ tu' : Nat → Int32, _ = some (encM (if decide (tuF n (dg m) (fm p) = fm o) = true then some m else none), _)
    rw [f_X7_same_52, if_neg ne10, gm_fm, Option.bind_some, am_fm hp_, Option.bind_some, ck_40, Option.bind_some, f_tall_eq hF hn6 hpm.1 ht, Option.bind_some, gm_fm, Option.bind_some, am_fm ho_, Option.bind_some]
    by_cases q : tuF n (dg m) (fm p) = fm o
    · rw [if_pos q, ck_40, Option.bind_some, f_mnum hF hn3 hn6 hm.1 ht, Option.bind_some, decide_eq_true q]
      exact ⟨tu, rfl⟩
    · rw [if_neg q, ck_40, Option.bind_some, (f_next_all hF hn3 hn6 hpm.1 ht).1 hnone, Option.bind_some, f_X7_same_52, if_pos rfl, decide_eq_false q]
      exact ⟨tu, rfl⟩
  | cons m2 l ih =>
    intro m f tu hf hch hT ht
    obtain ⟨f, rfl⟩ : ∃ g, f = g + 1 := ⟨f - 1, by omega⟩
    have hm := hT m List.mem_cons_self
    have hpm := isT_pm hm
    have hch' : (okN n m m2 && chn n (m2 :: l)) = true := hch
    rw [Bool.and_eq_true] at hch'
    obtain ⟨τ, τ1, τ2⟩ := okN_of hch'.1
    show ∃ tu' : Nat → Int32, _ = some (encM (if decide (tuF n (dg m) (fm p) = fm o) = true then some m else fnd (fun m' => decide (tuF n (dg m') (fm p) = fm o)) (m2 :: l)), _)
    rw [f_X7_same_52, if_neg ne10, gm_fm, Option.bind_some, am_fm hp_, Option.bind_some, ck_40, Option.bind_some, f_tall_eq hF hn6 hpm.1 ht, Option.bind_some, gm_fm, Option.bind_some, am_fm ho_, Option.bind_some]
    by_cases q : tuF n (dg m) (fm p) = fm o
    · rw [if_pos q, ck_40, Option.bind_some, f_mnum hF hn3 hn6 hm.1 ht, Option.bind_some, decide_eq_true q]
      exact ⟨tu, rfl⟩
    · obtain ⟨tu1, t1, t2⟩ := (f_next_all (sc := sc) (X := X) (w := w) (g := g) (th := th) (mc := mc) (pk := pk) (kd := kd) (td := td) (fm := fm) (pr := pr) (sz := sz) (ro := ro) (tu := tu) (pe := pe) (tr := tr) (as := as) hF hn3 hn6 hpm.1 ht).2 τ τ1
      have hlen : (m2 :: l).length = l.length + 1 := rfl
      obtain ⟨tu2, s1⟩ := ih m2 f tu1 (by omega) hch'.2 (fun x hx => hT x (List.mem_cons_of_mem _ hx)) (fun k hk => by rw [t2 k hk, τ2 k hk])
      rw [if_neg q, ck_40, Option.bind_some, t1, Option.bind_some, decide_eq_false q]
      exact ⟨tu2, s1⟩
theorem f_mturns {F : Nat × Nat} (hF : 100000 ≤ F.1) (hn3 : 3 ≤ n) (hn6 : n ≤ 6) {p : Nat} (hp_ : p < 16) : ∀ (l : List Nat) (m f : Nat) (tu : Nat → Int32) (c0 : Nat), l.length + 1 < f → chn n (m :: l) = true → (∀ x, x ∈ m :: l → isT n x) → tuR n (dg m) tu → ∃ tu' : Nat → Int32, f_X7_turns_31 F f 40 (nI p) (nI c0) 1 (hp sc X (cm n th mc pk kd td fm pr sz ro tu pe tr as) w g) = some (nI (c0 + cnt (fun m' => decide (tuF n (dg m') (fm p) = fm p)) (m :: l)), (hp sc X (cm n th mc pk kd td fm pr sz ro (tu') pe tr as) w g)) := by
  have st : ∀ (m f : Nat) (tu : Nat → Int32) (c0 : Nat), isT n m → tuR n (dg m) tu → f_X7_turns_31 F (f + 1) 40 (nI p) (nI c0) 1 (hp sc X (cm n th mc pk kd td fm pr sz ro tu pe tr as) w g) = (f_X7_nextTurn F 40 (hp sc X (cm n th mc pk kd td fm pr sz ro tu pe tr as) w g)).bind fun v1 => f_X7_turns_31 F f 40 (nI p) (nI (c0 + if decide (tuF n (dg m) (fm p) = fm p) then 1 else 0)) v1.1 v1.2 := by
    intro m f tu c0 hm ht
    have hpm := isT_pm hm
    rw [f_X7_turns_31, if_neg ne10, gm_fm, Option.bind_some, am_fm hp_, Option.bind_some, ck_40, Option.bind_some, f_tall_eq hF hn6 hpm.1 ht, Option.bind_some, gm_fm, Option.bind_some, am_fm hp_, Option.bind_some]
    by_cases q : tuF n (dg m) (fm p) = fm p
    · rw [if_pos q, f_X7_turns_61, ck_40, Option.bind_some, decide_eq_true q, nI_1]; rfl
    · rw [if_neg q, f_X7_turns_61, ck_40, Option.bind_some, decide_eq_false q, add_0]; rfl
  intro l
  induction l with
  | nil =>
    intro m f tu c0 hf hch hT ht
    obtain ⟨f, rfl⟩ : ∃ g, f = g + 2 := ⟨f - 2, by have : ([] : List Nat).length = 0 := rfl; omega⟩
    have hm := hT m List.mem_cons_self
    have hnone : nxF n (dg m) = none := Option.isNone_iff_eq_none.mp hch
    rw [st m (f + 1) tu c0 hm ht, (f_next_all hF hn3 hn6 (isT_pm hm).1 ht).1 hnone, Option.bind_some, f_X7_turns_31, if_pos rfl]
    exact ⟨tu, rfl⟩
  | cons m2 l ih =>
    intro m f tu c0 hf hch hT ht
    obtain ⟨f, rfl⟩ : ∃ g, f = g + 1 := ⟨f - 1, by omega⟩
    have hm := hT m List.mem_cons_self
    have hch' : (okN n m m2 && chn n (m2 :: l)) = true := hch
    rw [Bool.and_eq_true] at hch'
    obtain ⟨τ, τ1, τ2⟩ := okN_of hch'.1
    obtain ⟨tu1, t1, t2⟩ := (f_next_all (sc := sc) (X := X) (w := w) (g := g) (th := th) (mc := mc) (pk := pk) (kd := kd) (td := td) (fm := fm) (pr := pr) (sz := sz) (ro := ro) (tu := tu) (pe := pe) (tr := tr) (as := as) hF hn3 hn6 (isT_pm hm).1 ht).2 τ τ1
    have hlen : (m2 :: l).length = l.length + 1 := rfl
    obtain ⟨tu2, s1⟩ := ih m2 f tu1 (c0 + if decide (tuF n (dg m) (fm p) = fm p) then 1 else 0) (by omega) hch'.2 (fun x hx => hT x (List.mem_cons_of_mem _ hx)) (fun k hk => by rw [t2 k hk, τ2 k hk])
    rw [st m f tu c0 hm ht, t1, Option.bind_some]
    refine ⟨tu2, s1.trans ?_⟩
    show _ = some (nI (c0 + ((if decide (tuF n (dg m) (fm p) = fm p) = true then 1 else 0) + cnt (fun m' => decide (tuF n (dg m') (fm p) = fm p)) (m2 :: l))), _)
    rw [Nat.add_assoc]
theorem pl_T (hn3 : 3 ≤ n) (hn6 : n ≤ 6) : ∀ x, x ∈ pl n → isT n x := fun x hx => (en_in n 0 (idn n) (by omega) (id_dg hn6).1 (ck_n hn3 hn6) x hx).1
theorem im_id (hn6 : n ≤ 6) {x : Nat} (hx : x < 2 ^ n) : imN (dg (idn n)) x n = x := by
  refine Nat.eq_of_testBit_eq fun j => bool_ext ?_
  rw [imN_bit]
  constructor
  · rintro ⟨k, hk, q, r⟩
    rw [(id_dg hn6).2 k hk] at r
    subst r; exact q
  · intro q
    have := bit_lt hx q
    exact ⟨j, this, q, (id_dg hn6).2 j this⟩
theorem unt_mono (F0 F : Nat × Nat) (f : Nat) : ∀ (m : Nat) (a b c z : Int32), f_X3_unturned_4 F0 m a b c = some z → f_X3_unturned_4 F (m + f) a b c = some z
  | 0, a, b, c, z, h => by cases h
  | m + 1, a, b, c, z, h => by
    rw [show m + 1 + f = (m + f) + 1 by omega, f_X3_unturned_4]
    rw [f_X3_unturned_4] at h
    by_cases q : c < a
    · rw [if_pos q] at h ⊢
      exact unt_mono F0 F f m _ _ _ _ h
    · rw [if_neg q] at h ⊢
      exact h
theorem f_unt {F : Nat × Nat} (hF : 100000 ≤ F.1) (hn6 : n ≤ 6) : f_X3_unturned F (nI n) = some (nI (idn n)) := by
  have h : ∀ n, n < 7 → f_X3_unturned_4 (0, 0) 8 (nI n) 0 0 = some (nI (idn n)) := by decide +kernel
  have := unt_mono (0, 0) F (F.1 - 8) 8 _ _ _ _ (h n (by omega))
  rw [show 8 + (F.1 - 8) = F.1 by omega] at this
  exact this
theorem f_csame {F : Nat × Nat} (hF : 100000 ≤ F.1) (hF2 : 100 ≤ F.2) (hn3 : 3 ≤ n) (hn6 : n ≤ 6) {a b : Int64} (hb : fits (2 ^ n) b) : f_X3_leastTurnFrom F F.2 a b (nI (idn n)) 0 (nI n) = some (encM (fnd (fun m' => decide (tuF n (dg m') a = b)) (pl n))) :=
  f_least_all hF hn6 hb n F.2 0 (idn n) b (by omega) (by omega) (id_dg hn6).1 (ck_n hn3 hn6) (fun x hx => by rw [im_id hn6 hx])
theorem f_cturns {F : Nat × Nat} (hF : 100000 ≤ F.1) (hF2 : 100 ≤ F.2) (hn3 : 3 ≤ n) (hn6 : n ≤ 6) {a b : Int64} (hb : fits (2 ^ n) b) : f_X3_countTurnsFrom F F.2 a b 0 (nI n) = some (nI (cnt (fun m' => decide (tuF n (dg m') a = b)) (pl n))) :=
  f_count_all hF hn6 hb n F.2 0 (idn n) b (by omega) (by omega) (id_dg hn6).1 (ck_n hn3 hn6) (fun x hx => by rw [im_id hn6 hx])
end B94
