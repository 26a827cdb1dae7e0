/-! ===== Counts ===== -/
theorem add_0 (x : Int32) : x + 0 = x := by simp
theorem ct_fit {c : Nat → Bool} {m M : Nat} (h : m ≤ M) (hc : ∀ j, m ≤ j → c j = false) : fb_ct c M = fb_ct c m := by
  obtain ⟨d, rfl⟩ : ∃ d, M = m + d := ⟨M - m, by omega⟩
  rw [fb_ct_split, fb_ct_zero.mpr (fun k _ => hc (m + k) (by omega))]
  rfl
theorem nI_ct {c : Nat → Bool} {i : Nat} {v : Int32} (hv : v = if c i then 1 else 0) : nI (fb_ct c i) + v = nI (fb_ct c (i + 1)) := by
  rw [hv, fb_ct_succ]
  cases c i
  · exact nI_add _ 0
  · exact nI_add _ 1
theorem nI_ct1 {c : Nat → Bool} {i : Nat} (hv : c i = true) : nI (fb_ct c i) + 1 = nI (fb_ct c (i + 1)) := nI_ct (by rw [hv]; rfl)
theorem nI_ct0 {c : Nat → Bool} {i : Nat} (hv : c i = false) : nI (fb_ct c i) + 0 = nI (fb_ct c (i + 1)) := nI_ct (by rw [hv]; rfl)
theorem nI_ctn {c : Nat → Bool} {i : Nat} (hv : c i = false) : nI (fb_ct c i) = nI (fb_ct c (i + 1)) := by rw [← nI_ct0 hv, add_0]
theorem qb_lyr {n k : Nat} (hn : n ≤ 6) (j : Nat) : qb (lyr n k) j = (decide (j < 2 ^ n) && decide (pc j = k)) := by
  unfold lyr
  rw [← qb_oRc (fun x => decide (pc x = k)) (all_le hn)]
  refine congrArg (fun z => qb z j) (oR_cong fun x hx => ?_)
  by_cases h : pc x = k
  · rw [if_pos h, decide_eq_true h]; rfl
  · rw [if_neg h, decide_eq_false h]; rfl
theorem fits_lyr {n k : Nat} (hn : n ≤ 6) : fits (2 ^ n) (lyr n k) := fun j hj => by rw [qb_lyr hn, decide_eq_false (by omega)]; rfl
def isL (k x : Nat) : Bool := decide (pc x = k)
theorem pc_le (x : Nat) : pc x ≤ 6 := fb_ct_le _ 6
theorem pc_n {n x : Nat} (hn : n ≤ 6) (hx : x < 2 ^ n) : pc x ≤ n := by
  have h : ∀ n, n < 7 → ∀ x, x < 2 ^ n → pc x ≤ n := by decide +kernel
  exact h n (by omega) x hx
theorem ct_lay {n k : Nat} (hn : n ≤ 6) (a : Int64) : fb_ct (qb (a &&& lyr n k)) 64 = fb_ct (fun x => qb a x && isL k x) (2 ^ n) := by
  have ha := all_le hn
  rw [ct_fit ha (fun j hj => by rw [qb_and, fits_lyr hn j hj]; cases qb a j <;> rfl)]
  exact fb_ct_cong fun j hj => by rw [qb_and, qb_lyr hn, decide_eq_true hj]; rfl
theorem ct_lyr {n k : Nat} (hn : n ≤ 6) : fb_ct (qb (lyr n k)) 64 = fb_ct (isL k) (2 ^ n) := by
  have ha := all_le hn
  rw [ct_fit ha (fun j hj => fits_lyr hn j hj)]
  exact fb_ct_cong fun j hj => by rw [qb_lyr hn, decide_eq_true hj]; rfl
/-- the d-th place -/
def sa (c : Nat → Bool) (d i : Nat) : Nat → Int32
  | 0 => -2
  | k + 1 => if c i then (if d = 0 then nI i else sa c (d - 1) (i + 1) k) else sa c d (i + 1) k
theorem sa_no {c : Nat → Bool} (d : Nat) {i : Nat} (k : Nat) (h : c i = false) : sa c d i (k + 1) = sa c d (i + 1) k := by show (if c i then _ else _) = _; rw [h]; rfl
theorem sa_yes {c : Nat → Bool} {d i : Nat} (k : Nat) (h : c i = true) (hd : ¬ d = 0) : sa c d i (k + 1) = sa c (d - 1) (i + 1) k := by show (if c i then (if d = 0 then _ else _) else _) = _; rw [h, if_pos rfl, if_neg hd]
theorem sa_hit {c : Nat → Bool} {i : Nat} (k : Nat) (h : c i = true) : sa c 0 i (k + 1) = nI i := by show (if c i then (if 0 = 0 then _ else _) else _) = _; rw [h, if_pos rfl, if_pos rfl]
theorem sa_cong {c c' : Nat → Bool} : ∀ (k d i : Nat), (∀ j, i ≤ j → j < i + k → c j = c' j) → sa c d i k = sa c' d i k
  | 0, d, i, _ => rfl
  | k + 1, d, i, h => by
    have e := h i (Nat.le_refl _) (by omega)
    have r : ∀ d, sa c d (i + 1) k = sa c' d (i + 1) k := fun d => sa_cong k d (i + 1) (fun j h1 h2 => h j (by omega) (by omega))
    show (if c i then (if d = 0 then nI i else sa c (d - 1) (i + 1) k) else sa c d (i + 1) k) = (if c' i then (if d = 0 then nI i else sa c' (d - 1) (i + 1) k) else sa c' d (i + 1) k)
    rw [e, r, r]
theorem sa_fit {c : Nat → Bool} : ∀ (k d i e : Nat), (∀ j, i + k ≤ j → c j = false) → sa c d i (k + e) = sa c d i k
  | 0, d, i, 0, h => rfl
  | 0, d, i, e + 1, h => by
    rw [show 0 + (e + 1) = (0 + e) + 1 by omega, sa_no d (0 + e) (h i (by omega))]
    exact sa_fit 0 d (i + 1) e (fun j hj => h j (by omega))
  | k + 1, d, i, e, h => by
    rw [show k + 1 + e = (k + e) + 1 by omega]
    have r : ∀ d, sa c d (i + 1) (k + e) = sa c d (i + 1) k := fun d => sa_fit k d (i + 1) e (fun j hj => h j (by omega))
    show (if c i then (if d = 0 then nI i else sa c (d - 1) (i + 1) (k + e)) else sa c d (i + 1) (k + e)) = (if c i then (if d = 0 then nI i else sa c (d - 1) (i + 1) k) else sa c d (i + 1) k)
    rw [r, r]
theorem sa_spec {c : Nat → Bool} {e : Nat} (he : c e = true) : ∀ (k d i : Nat), i ≤ e → e < i + k → fb_ct c e = fb_ct c i + d → sa c d i k = nI e
  | 0, d, i, h1, h2, _ => by omega
  | k + 1, d, i, h1, h2, h3 => by
    cases q : c i
    · rw [sa_no d k q]
      have hne : i ≠ e := fun h => by subst h; rw [q] at he; cases he
      have := fb_ct_succ c i
      rw [q] at this
      exact sa_spec he k d (i + 1) (by omega) (by omega) (by simp at this; omega)
    · have hs := fb_ct_succ c i
      rw [q] at hs
      by_cases hd : d = 0
      · subst hd
        rw [sa_hit k q]
        by_cases hie : i = e
        · rw [hie]
        · have := fb_ct_mono c (show i + 1 ≤ e by omega)
          simp at hs; omega
      · rw [sa_yes k q hd]
        have hne : i ≠ e := fun h => by subst h; omega
        exact sa_spec he k (d - 1) (i + 1) (by omega) (by omega) (by simp at hs; omega)
theorem f_setAt_eq {F : Nat × Nat} (hF : 100000 ≤ F.1) (a : Int64) {m : Nat} (hm : m < 2 ^ 31) : f_X0_setAt F a (nI m) = some (sa (qb a) m 0 64) := by
  have key : ∀ k c i f, c ≤ m → i + k = 64 → k < f → f_X0_setAt_9 F f a (nI m) (nI (qn a i)) (nI c) = some (sa (qb a) (m - c) i k) := by
    intro k
    induction k with
    | zero =>
      intro c i f hh hi hf
      obtain ⟨f, rfl⟩ : ∃ g, f = g + 1 := ⟨f - 1, by omega⟩
      obtain rfl : i = 64 := by omega
      rw [qn_big a (Nat.le_refl _)]
      rw [f_X0_setAt_9]
      have e : f_X0_setAt_35 F (nI 64) = some (-2) := rfl
      by_cases h : nI c < nI m
      · rw [if_pos h, if_neg (by decide), e]; rfl
      · rw [if_neg h, e]; rfl
    | succ k ih =>
      intro c i f hh hi hf
      obtain ⟨f, rfl⟩ : ∃ g, f = g + 1 := ⟨f - 1, by omega⟩
      cases q : qb a i
      · rw [qn_no q, sa_no _ k q]
        exact ih c (i + 1) (f + 1) hh (by omega) (by omega)
      · rw [qn_yes q]
        rw [f_X0_setAt_9]
        by_cases h : c < m
        · rw [if_pos (nI_lt h (by omega)), if_pos (show nI i < 64 from nI_lt (b := 64) (by omega) (by decide)), nI_1, f_next_eq F a (by omega), Option.bind_some, nI_1, ih (c + 1) (i + 1) f (by omega) (by omega) (by omega), sa_yes k q (by omega)]
          rfl
        · have e : m - c = 0 := by omega
          rw [if_neg (nI_nlt (by omega) (by omega)), e, sa_hit k q]
          show f_X0_setAt_35 F (nI i) = _
          unfold f_X0_setAt_35
          rw [if_pos (show nI i < 64 from nI_lt (b := 64) (by omega) (by decide))]
  unfold f_X0_setAt f_X0_setAt_0
  rw [show (0 : Int32) = nI 0 from rfl, f_next_eq F a (by omega), Option.bind_some]
  exact key 64 0 0 F.1 (by omega) (by omega) (by omega)
theorem sa_all {n : Nat} (hn : n ≤ 6) {a : Int64} (hfi : fits (2 ^ n) a) (m : Nat) : sa (qb a) m 0 64 = sa (qb a) m 0 (2 ^ n) := by
  have ha := all_le hn
  obtain ⟨e, he⟩ : ∃ e, 64 = 2 ^ n + e := ⟨64 - 2 ^ n, by omega⟩
  rw [he]
  exact sa_fit (2 ^ n) m 0 e (fun j hj => hfi j (by omega))
theorem sa_lyr {n : Nat} (hn : n ≤ 6) (k m : Nat) : sa (qb (lyr n k)) m 0 64 = sa (isL k) m 0 (2 ^ n) := by
  rw [sa_all hn (fits_lyr hn)]
  exact sa_cong _ _ _ fun j _ hj => by rw [qb_lyr hn, decide_eq_true (by omega)]; rfl
/-- a sum over sets, by their sizes -/
theorem sm_spike (g : Nat → Nat) (v : Nat) : ∀ K, v < K → fb_sm (fun k => (if v = k then 1 else 0) * g k) K = g v
  | 0, h => by omega
  | K + 1, h => by
    rw [fb_sm_succ]
    by_cases e : v = K
    · subst e
      have z : fb_sm (fun k => (if v = k then 1 else 0) * g k) v = 0 := by
        have : fb_sm (fun k => (if v = k then 1 else 0) * g k) v = fb_sm (fun _ => 0) v := fb_sm_cong fun k hk => by rw [if_neg (by omega)]; omega
        rw [this, fb_sm_const, Nat.mul_zero]
      rw [z]; simp
    · rw [sm_spike g v K (by omega)]; simp [e]
theorem sm_swap (c : Nat → Bool) (h g : Nat → Nat) (K : Nat) : ∀ m, (∀ x, x < m → h x < K) → fb_sm (fun x => if c x then g (h x) else 0) m = fb_sm (fun k => fb_ct (fun x => c x && decide (h x = k)) m * g k) K
  | 0, _ => by
    have : fb_sm (fun k => fb_ct (fun x => c x && decide (h x = k)) 0 * g k) K = fb_sm (fun _ => 0) K := fb_sm_cong fun k _ => by show 0 * g k = 0; omega
    rw [this, fb_sm_const]; rfl
  | m + 1, hh => by
    have e : fb_sm (fun k => fb_ct (fun x => c x && decide (h x = k)) (m + 1) * g k) K = fb_sm (fun k => fb_ct (fun x => c x && decide (h x = k)) m * g k + (if c m then (if h m = k then 1 else 0) else 0) * g k) K := fb_sm_cong fun k _ => by
      rw [fb_ct_succ, Nat.add_mul]
      cases c m <;> simp
    rw [e, fb_sm_add, ← sm_swap c h g K m (fun x hx => hh x (by omega)), fb_sm_succ]
    cases c m
    · have : fb_sm (fun k => (if false = true then (if h m = k then 1 else 0) else 0) * g k) K = fb_sm (fun _ => 0) K := fb_sm_cong fun k _ => by simp
      rw [this, fb_sm_const]; simp
    · have : fb_sm (fun k => (if true = true then (if h m = k then 1 else 0) else 0) * g k) K = fb_sm (fun k => (if h m = k then 1 else 0) * g k) K := fb_sm_cong fun k _ => by simp
      rw [this, sm_spike g (h m) K (hh m (by omega))]; simp
section B66
variable {sc : Nat × (Nat → Int32)} {n : Nat} {cl : Int32} {P : Nat → PL} {ly : Nat → Int64} {sp st : Nat → Int32} {sk : Int32} {sd : Nat → Int32} {sm : Nat → Int64} {X M : Nat → rx_C} {w : Nat → Int64} {g : List rx_C} {th mc pk : Int32} {kd td : Nat → Int32} {fm pr : Nat → Int64} {sz : Nat → Int32} {ro : Nat → Int64} {tu pe tr : Nat → Int32} {as : Nat → Int64}
theorem f_sized_eq {F : Nat × Nat} (hF : 100000 ≤ F.1) (hn6 : n ≤ 6) (a : Int64) {m : Nat} (hm : m < 7) : f_X7_sized F 40 a (nI m) (hp sc X (cm n th mc pk kd td fm pr sz ro tu pe tr as) w g) = some (nI (fb_ct (fun x => qb a x && isL m x) (2 ^ n)), (hp sc X (cm n th mc pk kd td fm pr sz ro tu pe tr as) w g)) := by
  have ha := all_le hn6
  have key : ∀ k  i f, i + k = 2 ^ n → k < f → f_X7_sized_6 F f 40 a (nI m) (nI (fb_ct (fun x => qb a x && isL m x) i)) (nI i) (hp sc X (cm n th mc pk kd td fm pr sz ro tu pe tr as) w g) = some (nI (fb_ct (fun x => qb a x && isL m x) (2 ^ n)), (hp sc X (cm n th mc pk kd td fm pr sz ro tu pe tr as) w g)) := by
    intro k
    induction k with
    | zero =>
      intro  i f  hi hf
      obtain ⟨f, rfl⟩ : ∃ g, f = g + 1 := ⟨f - 1, by omega⟩
      obtain rfl : i = 2 ^ n := by omega
      rw [f_X7_sized_6, gm_all, Option.bind_some, if_neg (nI_nlt (Nat.le_refl _) (by omega))]
    | succ k ih =>
      intro  i f  hi hf
      obtain ⟨f, rfl⟩ : ∃ g, f = g + 1 := ⟨f - 1, by omega⟩
      have hiM : i < 2 ^ n := by omega
      have hpi := pc_le i
      rw [f_X7_sized_6, gm_all, Option.bind_some, if_pos (nI_lt hiM (by omega)), f_mhas_eq F _ (by omega), Option.bind_some, nI_1 i]
      cases q : qb a i
      · rw [bf, if_pos rfl, nI_ct0 (c := fun x => qb a x && isL m x) (i := i) (by simp only [q]; rfl), ih (i + 1) f (by omega) (by omega)]
      · rw [bt, if_neg ne10, f_ones_eq (by omega) (by omega), Option.bind_some]
        by_cases e : pc i = m
        · rw [if_pos (by rw [e]), nI_ct1 (c := fun x => qb a x && isL m x) (i := i) (by simp [q, isL, e]), ih (i + 1) f (by omega) (by omega)]
        · rw [if_neg (fun h => e ((nI_eq (by omega) (by omega)).mp h)), nI_ct0 (c := fun x => qb a x && isL m x) (i := i) (by simp [q, isL, e]), ih (i + 1) f (by omega) (by omega)]
  exact key (2 ^ n) 0 F.1 (by omega) (by omega)
theorem f_mset_loop {F : Nat × Nat} (hF : 100000 ≤ F.1) (hn6 : n ≤ 6) {p m : Nat} (hp_ : p < 16) (hm : m < 2 ^ 31) : f_X7_set_32 F F.1 40 (nI p) (nI m) 0 (hp sc X (cm n th mc pk kd td fm pr sz ro tu pe tr as) w g) = some (sa (qb (fm p)) m 0 (2 ^ n), (hp sc X (cm n th mc pk kd td fm pr sz ro tu pe tr as) w g)) := by
  have ha := all_le hn6
  have key : ∀ k d i f, d < 2 ^ 31 → i + k = 2 ^ n → k < f → f_X7_set_32 F f 40 (nI p) (nI d) (nI i) (hp sc X (cm n th mc pk kd td fm pr sz ro tu pe tr as) w g) = some (sa (qb (fm p)) d i k, (hp sc X (cm n th mc pk kd td fm pr sz ro tu pe tr as) w g)) := by
    intro k
    induction k with
    | zero =>
      intro d i f hd hi hf
      obtain ⟨f, rfl⟩ : ∃ g, f = g + 1 := ⟨f - 1, by omega⟩
      obtain rfl : i = 2 ^ n := by omega
      rw [f_X7_set_32, gm_all, Option.bind_some, if_neg (nI_nlt (Nat.le_refl _) (by omega))]
      rfl
    | succ k ih =>
      intro d i f hd hi hf
      obtain ⟨f, rfl⟩ : ∃ g, f = g + 1 := ⟨f - 1, by omega⟩
      rw [f_X7_set_32, gm_all, Option.bind_some, if_pos (nI_lt (by omega) (by omega)), gm_fm, Option.bind_some, am_fm hp_, Option.bind_some, f_mhas_eq F _ (by omega), Option.bind_some, nI_1 i]
      cases q : qb (fm p) i
      · rw [bf, if_pos rfl, sa_no d k q, ih d (i + 1) f hd (by omega) (by omega)]
      · rw [bt, if_neg ne10]
        by_cases e : d = 0
        · subst e
          rw [if_pos (show nI 0 = 0 from rfl), sa_hit k q]
        · obtain ⟨d, rfl⟩ : ∃ z, d = z + 1 := ⟨d - 1, by omega⟩
          rw [if_neg (nI_ne0 (by omega) hd), pk_m1, sa_yes k q (by omega), ih d (i + 1) f (by omega) (by omega) (by omega)]
          rfl
  exact key (2 ^ n) m 0 F.1 hm (by omega) (by omega)
theorem f_mrank_eq {F : Nat × Nat} (hF : 100000 ≤ F.1) (hn6 : n ≤ 6) {s : Nat} (hs : s < 2 ^ n) : f_X7_rank F 40 (nI s) (hp sc X (cm n th mc pk kd td fm pr sz ro tu pe tr as) w g) = some (nI (fb_ct (isL (pc s)) s), (hp sc X (cm n th mc pk kd td fm pr sz ro tu pe tr as) w g)) := by
  have ha := all_le hn6
  have key : ∀ k  i f, i + k = s → k < f → f_X7_rank_14 F f (nI s) (nI (fb_ct (isL (pc s)) i)) (nI i) (hp sc X (cm n th mc pk kd td fm pr sz ro tu pe tr as) w g) = some (nI (fb_ct (isL (pc s)) s), (hp sc X (cm n th mc pk kd td fm pr sz ro tu pe tr as) w g)) := by
    intro k
    induction k with
    | zero =>
      intro  i f  hi hf
      obtain ⟨f, rfl⟩ : ∃ g, f = g + 1 := ⟨f - 1, by omega⟩
      obtain rfl : i = s := by omega
      rw [f_X7_rank_14, if_neg (nI_nlt (Nat.le_refl _) (by omega))]
    | succ k ih =>
      intro  i f  hi hf
      obtain ⟨f, rfl⟩ : ∃ g, f = g + 1 := ⟨f - 1, by omega⟩
      have hiM : i < s := by omega
      have hpi := pc_le i
      have hps := pc_le s
      rw [f_X7_rank_14, if_pos (nI_lt hiM (by omega)), f_ones_eq (by omega) (by omega), Option.bind_some, f_ones_eq (by omega) (by omega), Option.bind_some, nI_1 i]
      by_cases e : pc i = pc s
      · rw [if_pos (by rw [e]), nI_ct1 (c := isL (pc s)) (i := i) (by simp [isL, e]), ih (i + 1) f (by omega) (by omega)]
      · rw [if_neg (fun h => e ((nI_eq (by omega) (by omega)).mp h)), nI_ct0 (c := isL (pc s)) (i := i) (by simp [isL, e]), ih (i + 1) f (by omega) (by omega)]
  unfold f_X7_rank f_X7_rank_0
  rw [ck_40, Option.bind_some, f_mSet_yes F hn6 hs, Option.bind_some, if_neg ne10]
  exact key s 0 F.1 (by omega) (by omega)
theorem f_mranked_loop {F : Nat × Nat} (hF : 100000 ≤ F.1) (hn6 : n ≤ 6) {m r : Nat} (hm : m < 7) (hr : r < 2 ^ 31) : f_X7_ranked_20 F F.1 40 (nI m) (nI r) 0 (hp sc X (cm n th mc pk kd td fm pr sz ro tu pe tr as) w g) = some (sa (isL m) r 0 (2 ^ n), (hp sc X (cm n th mc pk kd td fm pr sz ro tu pe tr as) w g)) := by
  have ha := all_le hn6
  have key : ∀ k i f, fb_ct (isL m) i ≤ r → i + k = 2 ^ n → k < f → f_X7_ranked_20 F f 40 (nI m) (nI r) (nI i) (hp sc X (cm n th mc pk kd td fm pr sz ro tu pe tr as) w g) = some (sa (isL m) (r - fb_ct (isL m) i) i k, (hp sc X (cm n th mc pk kd td fm pr sz ro tu pe tr as) w g)) := by
    intro k
    induction k with
    | zero =>
      intro i f hd hi hf
      obtain ⟨f, rfl⟩ : ∃ g, f = g + 1 := ⟨f - 1, by omega⟩
      obtain rfl : i = 2 ^ n := by omega
      rw [f_X7_ranked_20, gm_all, Option.bind_some, if_neg (nI_nlt (Nat.le_refl _) (by omega))]
      rfl
    | succ k ih =>
      intro i f hd hi hf
      obtain ⟨f, rfl⟩ : ∃ g, f = g + 1 := ⟨f - 1, by omega⟩
      have hpi := pc_le i
      have hct := fb_ct_le (isL m) i
      rw [f_X7_ranked_20, gm_all, Option.bind_some, if_pos (nI_lt (by omega) (by omega)), f_ones_eq (by omega) (by omega), Option.bind_some, nI_1 i]
      have hs := fb_ct_succ (isL m) i
      by_cases e : pc i = m
      · have q : isL m i = true := decide_eq_true e
        rw [q] at hs
        rw [if_pos (by rw [e]), ck_40, Option.bind_some, f_mrank_eq hF hn6 (by omega), Option.bind_some, e]
        by_cases e2 : fb_ct (isL m) i = r
        · rw [if_pos (by rw [e2]), show r - fb_ct (isL m) i = 0 by omega, sa_hit k q]
        · rw [if_neg (fun h => e2 ((nI_eq (by omega) hr).mp h)), sa_yes k q (by omega), ih (i + 1) f (by simp at hs; omega) (by omega) (by omega), show r - fb_ct (isL m) (i + 1) = r - fb_ct (isL m) i - 1 by simp at hs; omega]
      · have q : isL m i = false := decide_eq_false e
        rw [q] at hs
        rw [if_neg (fun h => e ((nI_eq (by omega) (by omega)).mp h)), sa_no _ k q, ih (i + 1) f (by simp at hs; omega) (by omega) (by omega), show fb_ct (isL m) (i + 1) = fb_ct (isL m) i by simp at hs; omega]
  exact key (2 ^ n) 0 F.1 (Nat.zero_le _) (by omega) (by omega)
/-! sums -/
def fac6 (k : Nat) : Nat := [1, 1, 2, 6, 24, 120, 720].getD k 0
theorem f_cfac {F : Nat × Nat} {k : Nat} (hk : k < 7) : f_X2_factorial F (nI k) = some (nI (fac6 k)) := by
  have h : ∀ k, k < 7 → f_X2_factorial (0, 0) (nI k) = some (nI (fac6 k)) := by decide +kernel
  exact h k hk
theorem mfac_mono (F0 F : Nat × Nat) (f : Nat) : ∀ (m : Nat) (a x y z : Int32), f_X7_factorial_4 F0 m a x y = some z → f_X7_factorial_4 F (m + f) a x y = some z
  | 0, a, x, y, z, h => by cases h
  | m + 1, a, x, y, z, h => by
    rw [show m + 1 + f = (m + f) + 1 by omega, f_X7_factorial_4]
    rw [f_X7_factorial_4] at h
    by_cases q : a < y
    · rw [if_pos q] at h ⊢
      exact h
    · rw [if_neg q] at h ⊢
      exact mfac_mono F0 F f m _ _ _ _ h
theorem f_mfac {F : Nat × Nat} (hF : 100 ≤ F.1) {k : Nat} (hk : k < 7) : f_X7_factorial F (nI k) = some (nI (fac6 k)) := by
  have h : ∀ k, k < 7 → f_X7_factorial_4 (0, 0) 8 (nI k) 1 2 = some (nI (fac6 k)) := by decide +kernel
  have := mfac_mono (0, 0) F (F.1 - 8) 8 _ _ _ _ (h k hk)
  rw [show 8 + (F.1 - 8) = F.1 by omega] at this
  exact this
def gS (n k : Nat) : Nat := fac6 k * fac6 (n - k)
theorem f_csum_loop {F : Nat × Nat} (hF : 100000 ≤ F.1) (hn6 : n ≤ 6) {p : Nat} (hp_ : p < 16) (hly : ∀ k, k < 7 → ly k = lyr n k) : f_X6_sum_18 F F.1 0 (nI p) 0 0 (hp sc (cx n cl P ly sp st sk sd sm) M w g) = some (nI (fb_sm (fun k => fb_ct (fun x => qb (P p).2.2.1 x && isL k x) (2 ^ n) * gS n k) (n + 1)), (hp sc (cx n cl P ly sp st sk sd sm) M w g)) := by
  have key : ∀ k  i f, i + k = n + 1 → k < f → f_X6_sum_18 F f 0 (nI p) (nI (fb_sm (fun k => fb_ct (fun x => qb (P p).2.2.1 x && isL k x) (2 ^ n) * gS n k) i)) (nI i) (hp sc (cx n cl P ly sp st sk sd sm) M w g) = some (nI (fb_sm (fun k => fb_ct (fun x => qb (P p).2.2.1 x && isL k x) (2 ^ n) * gS n k) (n + 1)), (hp sc (cx n cl P ly sp st sk sd sm) M w g)) := by
    intro k
    induction k with
    | zero =>
      intro  i f  hi hf
      obtain ⟨f, rfl⟩ : ∃ g, f = g + 1 := ⟨f - 1, by omega⟩
      obtain rfl : i = n + 1 := by omega
      rw [f_X6_sum_18, gx_n, Option.bind_some, if_pos (nI_lt (by omega) (by omega))]
    | succ k ih =>
      intro  i f  hi hf
      obtain ⟨f, rfl⟩ : ∃ g, f = g + 1 := ⟨f - 1, by omega⟩
      have hiM : i < n + 1 := by omega
      rw [f_X6_sum_18, gx_n, Option.bind_some, if_neg (nI_nlt (by omega) (by omega)), gx_shelf, Option.bind_some, ax_shelf hp_, Option.bind_some, gp_se hp_, Option.bind_some, gx_lay, Option.bind_some, ax_ly (by omega), Option.bind_some, hly i (by omega), f_size_eq, Option.bind_some, ct_lay hn6, f_cfac (by omega), Option.bind_some, Option.bind_some, pk_sub (by omega), f_cfac (by omega), Option.bind_some, pk_mul, pk_mul, nI_add, nI_1, Nat.mul_assoc]
      exact ih (i + 1) f (by omega) (by omega)
  exact key (n + 1) 0 F.1 (by omega) (by omega)
theorem f_msum_loop {F : Nat × Nat} (hF : 100000 ≤ F.1) (hn6 : n ≤ 6) {p : Nat} (hp_ : p < 16) : f_X7_sum_27 F F.1 40 (nI p) 0 0 (hp sc X (cm n th mc pk kd td fm pr sz ro tu pe tr as) w g) = some (nI (fb_sm (fun x => if qb (fm p) x then gS n (pc x) else 0) (2 ^ n)), (hp sc X (cm n th mc pk kd td fm pr sz ro tu pe tr as) w g)) := by
  have ha := all_le hn6
  have key : ∀ k  i f, i + k = 2 ^ n → k < f → f_X7_sum_27 F f 40 (nI p) (nI (fb_sm (fun x => if qb (fm p) x then gS n (pc x) else 0) i)) (nI i) (hp sc X (cm n th mc pk kd td fm pr sz ro tu pe tr as) w g) = some (nI (fb_sm (fun x => if qb (fm p) x then gS n (pc x) else 0) (2 ^ n)), (hp sc X (cm n th mc pk kd td fm pr sz ro tu pe tr as) w g)) := by
    intro k
    induction k with
    | zero =>
      intro  i f  hi hf
      obtain ⟨f, rfl⟩ : ∃ g, f = g + 1 := ⟨f - 1, by omega⟩
      obtain rfl : i = 2 ^ n := by omega
      rw [f_X7_sum_27, gm_all, Option.bind_some, if_neg (nI_nlt (Nat.le_refl _) (by omega))]
    | succ k ih =>
      intro  i f  hi hf
      obtain ⟨f, rfl⟩ : ∃ g, f = g + 1 := ⟨f - 1, by omega⟩
      have hiM : i < 2 ^ n := by omega
      have hpi := pc_le i
      have hpn := pc_n hn6 hiM
      rw [f_X7_sum_27, gm_all, Option.bind_some, if_pos (nI_lt hiM (by omega)), gm_fm, Option.bind_some, am_fm hp_, Option.bind_some, f_mhas_eq F _ (by omega), Option.bind_some, nI_1 i]
      have hs := fb_sm_succ (fun x => if qb (fm p) x then gS n (pc x) else 0) i
      cases q : qb (fm p) i
      · rw [bf, if_pos rfl, add_0, ← ih (i + 1) f (by omega) (by omega), hs]
        simp only [q]
        rfl
      · rw [bt, if_neg ne10, f_ones_eq (by omega) (by omega), Option.bind_some, f_mfac (by omega) (by omega), Option.bind_some, gm_n, Option.bind_some, Option.bind_some, pk_sub (by omega), f_mfac (by omega) (by omega), Option.bind_some, pk_mul, nI_add, ← ih (i + 1) f (by omega) (by omega), hs]
        simp only [q]
        rfl
  exact key (2 ^ n) 0 F.1 (by omega) (by omega)
theorem sum_swap (hn6 : n ≤ 6) (a : Int64) (g : Nat → Nat) : fb_sm (fun x => if qb a x then g (pc x) else 0) (2 ^ n) = fb_sm (fun k => fb_ct (fun x => qb a x && isL k x) (2 ^ n) * g k) (n + 1) :=
  sm_swap (qb a) pc g (n + 1) (2 ^ n) fun x hx => Nat.lt_succ_of_le (pc_n hn6 hx)
/-! matters -/
def maC (a : Int64) (i x : Nat) : Bool := !x.testBit i && (qb a x != qb a (x ||| 2 ^ i))
theorem or_pow {x i : Nat} (hx : x < 64) (hi : i < 6) (h : x.testBit i = false) : x ||| 2 ^ i = 2 ^ i + x := by
  have h2 : ∀ x, x < 64 → ∀ i, i < 6 → x.testBit i = false → x ||| 2 ^ i = 2 ^ i + x := by decide +kernel
  exact h2 x hx i hi h
theorem ct_matters (hn6 : n ≤ 6) {a : Int64} (hfi : fits (2 ^ n) a) {i : Nat} (hi : i < n) : fb_ct (qb (lsT a i ^^^ lkT a i)) 64 = fb_ct (maC a i) (2 ^ n) := by
  have ha := all_le hn6
  rw [ct_fit ha (fun j hj => by
    by_cases h64 : j < 64
    · rw [qb_xor, qb_ls a (by omega) h64, qb_lk a (by omega) h64, hfi j hj, hfi (2 ^ i + j) (Nat.le_trans hj (Nat.le_add_left _ _))]; rfl
    · exact qb_big (by omega))]
  refine fb_ct_cong fun j hj => ?_
  rw [qb_xor, qb_ls a (by omega) (by omega), qb_lk a (by omega) (by omega)]
  unfold maC
  cases h : j.testBit i
  · rw [or_pow (by omega) (by omega) h]
    cases qb a j <;> cases qb a (2 ^ i + j) <;> rfl
  · cases qb a (2 ^ i + j) <;> cases qb a j <;> rfl
theorem f_mmatters_loop {F : Nat × Nat} (hF : 100000 ≤ F.1) (hn6 : n ≤ 6) {p i0 : Nat} (hp_ : p < 16) (hi0 : i0 < n) : f_X7_matters_42 F F.1 40 (nI p) (nI i0) 0 0 (hp sc X (cm n th mc pk kd td fm pr sz ro tu pe tr as) w g) = some (nI (fb_ct (maC (fm p) i0) (2 ^ n)), (hp sc X (cm n th mc pk kd td fm pr sz ro tu pe tr as) w g)) := by
  have ha := all_le hn6
  have h2 : 2 ^ i0 < 2 ^ n := Nat.pow_lt_pow_right (by decide) hi0
  have key : ∀ k  i f, i + k = 2 ^ n → k < f → f_X7_matters_42 F f 40 (nI p) (nI i0) (nI (fb_ct (maC (fm p) i0) i)) (nI i) (hp sc X (cm n th mc pk kd td fm pr sz ro tu pe tr as) w g) = some (nI (fb_ct (maC (fm p) i0) (2 ^ n)), (hp sc X (cm n th mc pk kd td fm pr sz ro tu pe tr as) w g)) := by
    intro k
    induction k with
    | zero =>
      intro  i f  hi hf
      obtain ⟨f, rfl⟩ : ∃ g, f = g + 1 := ⟨f - 1, by omega⟩
      obtain rfl : i = 2 ^ n := by omega
      rw [f_X7_matters_42, gm_all, Option.bind_some, if_neg (nI_nlt (Nat.le_refl _) (by omega))]
    | succ k ih =>
      intro  i f  hi hf
      obtain ⟨f, rfl⟩ : ∃ g, f = g + 1 := ⟨f - 1, by omega⟩
      have hiM : i < 2 ^ n := by omega
      have hor := or_l hiM h2
      rw [f_X7_matters_42, gm_all, Option.bind_some, if_pos (nI_lt hiM (by omega)), bitI (by omega) (by omega), nI_1 i]
      cases hb : i.testBit i0
      · rw [bf, if_pos rfl, gm_fm, Option.bind_some, am_fm hp_, Option.bind_some, f_mhas_eq F _ (by omega), Option.bind_some, Option.bind_some, am_fm hp_, Option.bind_some, sh_eq (by omega), nI_or (by omega) (by omega), f_mhas_eq F _ (by omega), Option.bind_some]
        cases q1 : qb (fm p) i <;> cases q2 : qb (fm p) (i ||| 2 ^ i0)
        · rw [if_pos rfl, nI_ct0 (c := maC (fm p) i0) (i := i) (by simp [maC, hb, q1, q2]), ih (i + 1) f (by omega) (by omega)]
        · rw [if_neg (by decide), nI_ct1 (c := maC (fm p) i0) (i := i) (by simp [maC, hb, q1, q2]), ih (i + 1) f (by omega) (by omega)]
        · rw [if_neg (by decide), nI_ct1 (c := maC (fm p) i0) (i := i) (by simp [maC, hb, q1, q2]), ih (i + 1) f (by omega) (by omega)]
        · rw [if_pos rfl, nI_ct0 (c := maC (fm p) i0) (i := i) (by simp [maC, hb, q1, q2]), ih (i + 1) f (by omega) (by omega)]
      · rw [if_pos rfl, if_neg (by decide), nI_ct0 (c := maC (fm p) i0) (i := i) (by simp [maC, hb]), ih (i + 1) f (by omega) (by omega)]
  exact key (2 ^ n) 0 F.1 (by omega) (by omega)
end B66
