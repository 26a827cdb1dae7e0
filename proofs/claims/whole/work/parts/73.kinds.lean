/-! ===== Kinds: what hinders a set ===== -/
def fo (c : Nat → Bool) (i : Nat) : Nat → Option Nat
  | 0 => none
  | k + 1 => if c i then some i else fo c (i + 1) k
def enc (z : Int32) (o : Option Nat) : Int32 := match o with | none => z | some y => nI y
theorem fo_yes {c : Nat → Bool} {i : Nat} (k : Nat) (h : c i = true) : fo c i (k + 1) = some i := by show (if c i then _ else _) = _; rw [h]; rfl
theorem fo_no {c : Nat → Bool} {i : Nat} (k : Nat) (h : c i = false) : fo c i (k + 1) = fo c (i + 1) k := by show (if c i then _ else _) = _; rw [h]; rfl
theorem fo_cong {c c' : Nat → Bool} : ∀ (k i : Nat), (∀ j, i ≤ j → j < i + k → c j = c' j) → fo c i k = fo c' i k
  | 0, i, _ => rfl
  | k + 1, i, h => by
    have e := h i (Nat.le_refl _) (by omega)
    show (if c i then some i else fo c (i + 1) k) = (if c' i then some i else fo c' (i + 1) k)
    rw [e, fo_cong k (i + 1) (fun j h1 h2 => h j (by omega) (by omega))]
theorem fo_fit {c : Nat → Bool} : ∀ (k i e : Nat), (∀ j, i + k ≤ j → c j = false) → fo c i (k + e) = fo c i k
  | 0, i, 0, h => rfl
  | 0, i, e + 1, h => by
    rw [show 0 + (e + 1) = (0 + e) + 1 by omega, fo_no (0 + e) (h i (by omega))]
    exact fo_fit 0 (i + 1) e (fun j hj => h j (by omega))
  | k + 1, i, e, h => by
    rw [show k + 1 + e = (k + e) + 1 by omega]
    show (if c i then some i else fo c (i + 1) (k + e)) = (if c i then some i else fo c (i + 1) k)
    rw [fo_fit k (i + 1) e (fun j hj => h j (by omega))]
theorem fo_64 {c : Nat → Bool} {m : Nat} (hm : m ≤ 64) (h : ∀ j, m ≤ j → c j = false) : fo c 0 64 = fo c 0 m := by
  obtain ⟨e, he⟩ : ∃ e, 64 = m + e := ⟨64 - m, by omega⟩
  rw [he]; exact fo_fit m 0 e (fun j hj => h j (by omega))
theorem fo_none {c : Nat → Bool} : ∀ (k i : Nat), fo c i k = none → ∀ j, i ≤ j → j < i + k → c j = false
  | 0, i, _, j, h1, h2 => by omega
  | k + 1, i, h, j, h1, h2 => by
    cases q : c i
    · rw [fo_no k q] at h
      by_cases e : j = i
      · subst e; exact q
      · exact fo_none k (i + 1) h j (by omega) (by omega)
    · rw [fo_yes k q] at h; cases h
theorem fo_all {c : Nat → Bool} : ∀ (k i : Nat), (∀ j, i ≤ j → j < i + k → c j = false) → fo c i k = none
  | 0, i, _ => rfl
  | k + 1, i, h => by
    rw [fo_no k (h i (Nat.le_refl _) (by omega))]
    exact fo_all k (i + 1) (fun j h1 h2 => h j (by omega) (by omega))
theorem fo_some {c : Nat → Bool} {y : Nat} : ∀ (k i : Nat), fo c i k = some y → i ≤ y ∧ y < i + k ∧ c y = true
  | 0, i, h => by cases h
  | k + 1, i, h => by
    cases q : c i
    · rw [fo_no k q] at h
      have := fo_some k (i + 1) h
      exact ⟨by omega, by omega, this.2.2⟩
    · rw [fo_yes k q] at h
      cases h
      exact ⟨Nat.le_refl _, by omega, q⟩
theorem leastOf_fo (F : Nat × Nat) (x : Int64) : f_X0_leastOf F x = some (enc (-2) (fo (qb x) 0 64)) := by
  rw [f_leastOf_eq]
  by_cases h : x = 0
  · rw [if_pos h, fo_all 64 0 (fun j _ _ => by rw [h]; exact qb_0 j)]; rfl
  · rw [if_neg h]
    have key : ∀ k i, i + k = 64 → qn x i < 64 → fo (qb x) i k = some (qn x i) := by
      intro k
      induction k with
      | zero => intro i hi hq; rw [qn_big x (by omega)] at hq; omega
      | succ k ih =>
        intro i hi hq
        cases q : qb x i
        · rw [fo_no k q, qn_no q]; exact ih (i + 1) (by omega) (by rw [← qn_no q]; exact hq)
        · rw [fo_yes k q, qn_yes q]
    have hq : qn x 0 < 64 := by
      obtain ⟨j, hj, q⟩ := qb_ne0.mp h
      refine Nat.not_le.mp fun h64 => ?_
      rw [qn_not x (Nat.zero_le j) (by omega)] at q; cases q
    rw [key 64 0 (by omega) hq]; rfl
def far (a : Int64) (x t y : Nat) : Bool := qb a y && decide (pc (x &&& y) < t)
theorem f_far_eq {F : Nat × Nat} (hF : 100000 ≤ F.1) (a : Int64) {x t : Nat} (hx : x < 64) (ht : t < 7) : f_X1_firstFarFrom F a (nI x) (nI t) = some (enc (-2) (fo (far a x t) 0 64)) := by
  have key : ∀ k  i f, i + k = 64 → k < f → f_X1_firstFarFrom_7 F f a (nI x) (nI t) (nI (qn a i)) = some (enc (-2) (fo (far a x t) i k)) := by
    intro k
    induction k with
    | zero =>
      intro  i f  hi hf
      obtain ⟨f, rfl⟩ : ∃ g, f = g + 1 := ⟨f - 1, by omega⟩
      obtain rfl : i = 64 := by omega
      rw [qn_big a (Nat.le_refl _)]
      rw [f_X1_firstFarFrom_7, if_neg (by decide)]
      rfl
    | succ k ih =>
      intro  i f  hi hf
      obtain ⟨f, rfl⟩ : ∃ g, f = g + 1 := ⟨f - 1, by omega⟩
      cases q : qb a i
      · rw [qn_no q, fo_no k (by simp [far, q])]
        exact ih (i + 1) (f + 1) (by omega) (by omega)
      · rw [qn_yes q]
        have hand : i &&& x < 64 := and_r hx
        have hp6 := pc_le (x &&& i)
        rw [f_X1_firstFarFrom_7, if_pos (show nI i < 64 from nI_lt (b := 64) (by omega) (by decide)), nI_and (by omega) hx, f_bits_eq F hand, Option.bind_some, Nat.and_comm i x]
        by_cases h : pc (x &&& i) < t
        · rw [if_pos (nI_lt h (by omega)), fo_yes k (by simp [far, q, h])]; rfl
        · rw [if_neg (nI_nlt (by omega) (by omega)), nI_1, f_next_eq F a (by omega), Option.bind_some, fo_no k (by simp [far, h]), ih (i + 1) f (by omega) (by omega)]
  unfold f_X1_firstFarFrom f_X1_firstFarFrom_0
  rw [show (0 : Int32) = nI 0 from rfl, f_next_eq F a (by omega), Option.bind_some]
  exact key 64 0 F.1 (by omega) (by omega)
theorem f_mfar_eq {F : Nat × Nat} (hF : 100000 ≤ F.1) (a : Int64) {x t : Nat} (hx : x < 64) (ht : t < 7) : f_X7_apartFrom F a (nI x) (nI t) = some (enc (-1) (fo (far a x t) 0 64)) := by
  have key : ∀ k  i f, i + k = 64 → k < f → f_X7_apartFrom_3 F f a (nI x) (nI t) (nI i) = some (enc (-1) (fo (far a x t) i k)) := by
    intro k
    induction k with
    | zero =>
      intro  i f  hi hf
      obtain ⟨f, rfl⟩ : ∃ g, f = g + 1 := ⟨f - 1, by omega⟩
      obtain rfl : i = 64 := by omega
      rw [f_X7_apartFrom_3, if_neg (by decide)]
      rfl
    | succ k ih =>
      intro  i f  hi hf
      obtain ⟨f, rfl⟩ : ∃ g, f = g + 1 := ⟨f - 1, by omega⟩
      have hiM : i < 64 := by omega
      have hand : x &&& i < 64 := and_l hx
      have hp6 := pc_le (x &&& i)
      rw [f_X7_apartFrom_3, if_pos (show nI i < 64 from nI_lt (b := 64) (by omega) (by decide)), f_mhas_eq F _ (by omega), Option.bind_some, nI_1]
      cases q : qb a i
      · rw [bf, if_pos rfl, fo_no k (by simp [far, q]), ih (i + 1) f (by omega) (by omega)]
      · rw [bt, if_neg ne10, nI_and hx (by omega), f_ones_eq (by omega) hand, Option.bind_some]
        by_cases h : pc (x &&& i) < t
        · rw [if_pos (nI_lt h (by omega)), fo_yes k (by simp [far, q, h])]; rfl
        · rw [if_neg (nI_nlt (by omega) (by omega)), fo_no k (by simp [far, h]), ih (i + 1) f (by omega) (by omega)]
  exact key 64 0 F.1 (by omega) (by omega)
def apC (a : Int64) (x y : Nat) : Bool := !decide (y = x) && (qb a y && (decide (x &&& y = x) || decide (y &&& x = y)))
def dnC (a : Int64) (x y : Nat) : Bool := !decide (y = x) && (decide (y &&& x = y) && !qb a y)
def meO (a : Int64) (x t : Nat) : Option Nat := if pc x < t then some x else fo (far a x t) 0 64
def orO (o p : Option Nat) : Option Nat := match o with | none => p | some y => some y
def clO (n j t : Nat) (a r : Int64) (x : Nat) : Option Nat :=
  if j = 1 then fo (apC a x) 0 (2 ^ n) else if j = 2 then meO a x t else if j = 3 then fo (dnC a x) 0 (2 ^ n) else if j = 4 then (if pc x = t then none else some x) else if j = 5 then orO (meO a x t) (fo (far r x t) 0 64) else none
theorem enc_ne {o : Option Nat} (h : ∀ y, o = some y → y < 64) : (enc (-2) o = -2 ↔ o = none) ∧ (enc (-1) o < 0 ↔ o = none) := by
  cases o with
  | none => exact ⟨⟨fun _ => rfl, fun _ => rfl⟩, ⟨fun _ => rfl, fun _ => by show (-1 : Int32) < 0; decide⟩⟩
  | some y =>
    have hy := h y rfl
    have h2 : ¬ nI y < 0 := nI_pos (by omega)
    refine ⟨⟨fun q => ?_, fun q => by cases q⟩, ⟨fun q => absurd q h2, fun q => by cases q⟩⟩
    exfalso
    refine h2 ?_
    have e : nI y = -2 := q
    rw [e]; decide
theorem meO_lt {a : Int64} {x t y : Nat} (hx : x < 64) (h : meO a x t = some y) : y < 64 := by
  unfold meO at h
  by_cases e : pc x < t
  · rw [if_pos e] at h; cases h; exact hx
  · rw [if_neg e] at h; have := (fo_some 64 0 h).2.1; omega
theorem clO_lt {n j t : Nat} {a r : Int64} {x y : Nat} (hn : n ≤ 6) (hx : x < 64) (h : clO n j t a r x = some y) : y < 64 := by
  have ha := all_le hn
  unfold clO at h
  by_cases h1 : j = 1
  · rw [if_pos h1] at h; have := (fo_some _ _ h).2.1; omega
  rw [if_neg h1] at h
  by_cases h2 : j = 2
  · rw [if_pos h2] at h; exact meO_lt hx h
  rw [if_neg h2] at h
  by_cases h3 : j = 3
  · rw [if_pos h3] at h; have := (fo_some _ _ h).2.1; omega
  rw [if_neg h3] at h
  by_cases h4 : j = 4
  · rw [if_pos h4] at h
    by_cases e : pc x = t
    · rw [if_pos e] at h; cases h
    · rw [if_neg e] at h; cases h; exact hx
  rw [if_neg h4] at h
  by_cases h5 : j = 5
  · rw [if_pos h5] at h
    cases hm : meO a x t with
    | none => rw [hm] at h; have := (fo_some 64 0 h).2.1; omega
    | some z => rw [hm] at h; cases h; exact meO_lt hx hm
  · rw [if_neg h5] at h; cases h
theorem f_meet_eq {F : Nat × Nat} (hF : 100000 ≤ F.1) (a : Int64) {x t : Nat} (hx : x < 64) (ht : t < 7) : f_X1_meetClash F a (nI x) (nI t) = some (enc (-2) (meO a x t)) := by
  have hp6 := pc_le x
  unfold f_X1_meetClash f_X1_meetClash_0 meO
  rw [f_bits_eq F hx, Option.bind_some]
  by_cases h : pc x < t
  · rw [if_pos (nI_lt h (by omega)), if_pos h]; rfl
  · rw [if_neg (nI_nlt (by omega) (by omega)), if_neg h, f_far_eq hF a hx ht]; rfl
/-- a set that is there hinders nothing -/
theorem clO_in {n j t : Nat} {a r : Int64} (hn : n ≤ 6) (hk : kinv j t a r) {x : Nat} (hq : qb a x = true) : clO n j t a r x = none := by
  have me : (j = 2 ∨ j = 5) → meO a x t = none := by
    intro h
    have h0 := hk.2.1 h
    have h1 := h0 x x hq hq
    rw [Nat.and_self] at h1
    unfold meO
    rw [if_neg (by omega)]
    refine fo_all 64 0 fun y _ _ => ?_
    unfold far
    cases q : qb a y
    · rfl
    · have := h0 x y hq q
      rw [decide_eq_false (by omega)]; rfl
  unfold clO
  by_cases h1 : j = 1
  · rw [if_pos h1]
    refine fo_all _ 0 fun y _ _ => ?_
    unfold apC
    by_cases e : y = x
    · rw [decide_eq_true e]; rfl
    · cases q : qb a y
      · rw [decide_eq_false e]; rfl
      · rw [decide_eq_false e, decide_eq_false (hk.1 h1 x y hq q (fun z => e z.symm)), decide_eq_false (hk.1 h1 y x q hq e)]; rfl
  rw [if_neg h1]
  by_cases h2 : j = 2
  · rw [if_pos h2]; exact me (Or.inl h2)
  rw [if_neg h2]
  by_cases h3 : j = 3
  · rw [if_pos h3]
    refine fo_all _ 0 fun y _ _ => ?_
    unfold dnC
    by_cases e : y &&& x = y
    · rw [hk.2.2.1 h3 x y hq e]; simp
    · rw [decide_eq_false e]; simp
  rw [if_neg h3]
  by_cases h4 : j = 4
  · rw [if_pos h4, if_pos (hk.2.2.2.1 h4 x hq)]
  rw [if_neg h4]
  by_cases h5 : j = 5
  · rw [if_pos h5, me (Or.inr h5)]
    show fo (far r x t) 0 64 = none
    refine fo_all 64 0 fun y _ _ => ?_
    unfold far
    cases q : qb r y
    · rfl
    · have := hk.2.2.2.2 h5 x y hq q
      rw [decide_eq_false (by omega)]; rfl
  · rw [if_neg h5]
theorem qb_add (a : Int64) {x : Nat} (hx : x < 64) (j : Nat) : qb (a ||| one x) j = true ↔ qb a j = true ∨ j = x := by
  rw [qb_or, Bool.or_eq_true, qb_one hx, decide_eq_true_iff]
theorem meO_none {a : Int64} {x t : Nat} (h : meO a x t = none) : t ≤ pc x ∧ ∀ y, qb a y = true → t ≤ pc (x &&& y) := by
  unfold meO at h
  by_cases e : pc x < t
  · rw [if_pos e] at h; cases h
  · rw [if_neg e] at h
    refine ⟨by omega, fun y hy => ?_⟩
    have := fo_none 64 0 h y (Nat.zero_le _) (by have := qb_lt hy; omega)
    unfold far at this
    rw [hy] at this
    have := of_decide_eq_false this
    omega
theorem kinv_add {n j t : Nat} {a r : Int64} (hn : n ≤ 6) (hfi : fits (2 ^ n) a) (hk : kinv j t a r) {x : Nat} (hx : x < 2 ^ n) (h : clO n j t a r x = none) : kinv j t (a ||| one x) r := by
  have ha := all_le hn
  have hx64 : x < 64 := by omega
  have me : (j = 2 ∨ j = 5) → meO a x t = none → ∀ y z, qb (a ||| one x) y = true → qb (a ||| one x) z = true → t ≤ pc (y &&& z) := by
    intro hj hm y z hy hz
    obtain ⟨m1, m2⟩ := meO_none hm
    rcases (qb_add a hx64 y).mp hy with hy' | ey
    · rcases (qb_add a hx64 z).mp hz with hz' | ez
      · exact hk.2.1 hj y z hy' hz'
      · rw [ez, Nat.and_comm]; exact m2 y hy'
    · rcases (qb_add a hx64 z).mp hz with hz' | ez
      · rw [ey]; exact m2 z hz'
      · rw [ey, ez, Nat.and_self]; exact m1
  have c5 : j = 5 → meO a x t = none ∧ fo (far r x t) 0 64 = none := by
    intro hj
    subst hj
    have h' : orO (meO a x t) (fo (far r x t) 0 64) = none := h
    cases hm : meO a x t with
    | none => rw [hm] at h'; exact ⟨rfl, h'⟩
    | some z => rw [hm] at h'; cases h'
  refine ⟨fun hj y z hy hz hyz => ?_, fun hj => ?_, fun hj y z hy hzy => ?_, fun hj y hy => ?_, fun hj y z hy hz => ?_⟩
  · subst hj
    have h' : fo (apC a x) 0 (2 ^ n) = none := h
    have key : ∀ v, qb a v = true → v ≠ x → ¬ x &&& v = x ∧ ¬ v &&& x = v := by
      intro v hv hvx
      have := fo_none _ 0 h' v (Nat.zero_le _) (by have := fits_lt hfi hv; omega)
      unfold apC at this
      rw [decide_eq_false hvx, hv] at this
      simpa using this
    rcases (qb_add a hx64 y).mp hy with hy' | ey
    · rcases (qb_add a hx64 z).mp hz with hz' | ez
      · exact hk.1 rfl y z hy' hz' hyz
      · rw [ez]; exact (key y hy' (fun q => hyz (q.trans ez.symm))).2
    · rcases (qb_add a hx64 z).mp hz with hz' | ez
      · rw [ey]; exact (key z hz' (fun q => hyz (ey.trans q.symm))).1
      · exact absurd (ey.trans ez.symm) hyz
  · rcases hj with hj | hj
    · refine me (Or.inl hj) ?_
      subst hj; exact h
    · exact me (Or.inr hj) (c5 hj).1
  · subst hj
    have h' : fo (dnC a x) 0 (2 ^ n) = none := h
    rcases (qb_add a hx64 y).mp hy with hy | rfl
    · exact (qb_add a hx64 z).mpr (Or.inl (hk.2.2.1 rfl y z hy hzy))
    · by_cases e : z = y
      · exact (qb_add a hx64 z).mpr (Or.inr e)
      · have hzl := sub_bits hzy
        have := fo_none _ 0 h' z (Nat.zero_le _) (by omega)
        unfold dnC at this
        rw [decide_eq_false e, decide_eq_true hzy] at this
        exact (qb_add a hx64 z).mpr (Or.inl (by simpa using this))
  · subst hj
    have h' : (if pc x = t then none else some x) = none := h
    rcases (qb_add a hx64 y).mp hy with hy | rfl
    · exact hk.2.2.2.1 rfl y hy
    · false_or_by_contra
      rename_i hne
      rw [if_neg hne] at h'; cases h'
  · rcases (qb_add a hx64 y).mp hy with hy | rfl
    · exact hk.2.2.2.2 hj y z hy hz
    · have := fo_none 64 0 (c5 hj).2 z (Nat.zero_le _) (by have := qb_lt hz; omega)
      unfold far at this
      rw [hz] at this
      have := of_decide_eq_false this
      omega
theorem kinv_less {j t : Nat} {a b r : Int64} (hk : kinv j t a r) (hj3 : j ≠ 3) (h : ∀ x, qb b x = true → qb a x = true) : kinv j t b r :=
  ⟨fun hj x y hx hy => hk.1 hj x y (h x hx) (h y hy), fun hj x y hx hy => hk.2.1 hj x y (h x hx) (h y hy), fun hj => absurd hj hj3, fun hj x hx => hk.2.2.2.1 hj x (h x hx), fun hj x y hx hy => hk.2.2.2.2 hj x y (h x hx) hy⟩
section B73
variable {sc : Nat × (Nat → Int32)} {n : Nat} {cl : Int32} {P : Nat → PL} {ly : Nat → Int64} {sp st : Nat → Int32} {sk : Int32} {sd : Nat → Int32} {sm : Nat → Int64} {X M : Nat → rx_C} {w : Nat → Int64} {g : List rx_C} {th mc pk : Int32} {kd td : Nat → Int32} {fm pr : Nat → Int64} {sz : Nat → Int32} {ro : Nat → Int64} {tu pe tr : Nat → Int32} {as : Nat → Int64}
theorem f_coming_eq {F : Nat × Nat} (hF : 100000 ≤ F.1) (hn6 : n ≤ 6) {p j t x : Nat} {a r : Int64} (hp_ : p < 16) (hj : j < 6) (hx : x < 2 ^ n) (ht : t ≤ n) (h1 : (P p).1 = nI j) (h2 : (P p).2.2.1 = a) (h3 : (j = 2 ∨ j = 4 ∨ j = 5) → (P p).2.1 = nI t) (h4 : j = 5 → (P p).2.2.2.1 = r) (hfi : fits (2 ^ n) a) (hk : kinv j t a r) : f_X1_comingClash F (2 + 2 * p) (nI x) (hp sc (cx n cl P ly sp st sk sd sm) M w g) = some (enc (-2) (clO n j t a r x), (hp sc (cx n cl P ly sp st sk sd sm) M w g)) := by
  have ha := all_le hn6
  have hx64 : x < 64 := by omega
  unfold f_X1_comingClash f_X1_comingClash_0
  rw [gp_se hp_, Option.bind_some, h2, f_holdsSet_eq F _ hx64, Option.bind_some]
  cases q : qb a x
  · rw [bf, if_pos rfl, gp_ho hp_, Option.bind_some, h1]
    have ap : fo (qb (a &&& (wIn x ||| aRo x))) 0 64 = fo (apC a x) 0 (2 ^ n) := by
      rw [fo_64 ha (fun z hz => by rw [qb_and, hfi z hz]; rfl)]
      refine fo_cong _ 0 fun z _ hz => ?_
      rw [qb_and, qb_or, qb_wIn hx64 (by omega), qb_aRo hx64 (by omega)]
      unfold apC
      by_cases e : z = x
      · subst e; rw [q]; simp
      · rw [decide_eq_false e]; cases qb a z <;> cases decide (z &&& x = z) <;> cases decide (x &&& z = x) <;> rfl
    have dn : fo (qb ((wIn x &&& (a ^^^ (-1))) &&& (one x ^^^ (-1)))) 0 64 = fo (dnC a x) 0 (2 ^ n) := by
      rw [fo_64 ha (fun z hz => by
        by_cases hz64 : z < 64
        · rw [qb_and, qb_and, qb_wIn hx64 hz64, decide_eq_false (fun e => by have := sub_bits e; omega)]; rfl
        · exact qb_big (by omega))]
      refine fo_cong _ 0 fun z _ hz => ?_
      rw [qb_and, qb_and, qb_wIn hx64 (by omega), qb_not _ (by omega), qb_not _ (by omega), qb_one hx64]
      unfold dnC
      cases decide (z &&& x = z) <;> cases qb a z <;> cases decide (z = x) <;> rfl
    match j, hj with
    | 0, _ => rfl
    | 1, _ =>
      rw [if_pos (by rfl), f_within_eq (by omega) hx64, Option.bind_some, f_around_eq (by omega) hx64, Option.bind_some, leastOf_fo, Option.bind_some, ap]
      rfl
    | 2, _ =>
      rw [if_neg (by decide), if_pos (by rfl), gp_le hp_, Option.bind_some, h3 (Or.inl rfl), f_meet_eq hF a hx64 (by omega), Option.bind_some]
      rfl
    | 3, _ =>
      rw [if_neg (by decide), if_neg (by decide), if_pos (by rfl), f_within_eq (by omega) hx64, Option.bind_some, leastOf_fo, Option.bind_some, dn]
      rfl
    | 4, _ =>
      have hp6 := pc_le x
      rw [if_neg (by decide), if_neg (by decide), if_neg (by decide), if_pos (by rfl), f_bits_eq F hx64, Option.bind_some, gp_le hp_, Option.bind_some, h3 (Or.inr (Or.inl rfl))]
      show _ = some (enc (-2) (if pc x = t then none else some x), _)
      by_cases e : pc x = t
      · rw [if_pos (by rw [e]), if_pos e]; rfl
      · rw [if_neg (fun h => e ((nI_eq (by omega) (by omega)).mp h)), if_neg e]; rfl
    | 5, _ =>
      rw [if_neg (by decide), if_neg (by decide), if_neg (by decide), if_neg (by decide), if_pos (by rfl), gp_le hp_, Option.bind_some, h3 (Or.inr (Or.inr rfl)), f_meet_eq hF a hx64 (by omega), Option.bind_some]
      show _ = some (enc (-2) (orO (meO a x t) (fo (far r x t) 0 64)), _)
      cases hm : meO a x t with
      | none =>
        rw [if_pos (show enc (-2) none = -2 from rfl), gp_pa hp_, Option.bind_some, Option.bind_some, h4 rfl, f_far_eq hF r hx64 (by omega), Option.bind_some]
        rfl
      | some y =>
        have hy := meO_lt hx64 hm
        rw [if_neg (fun e => by
          have := (enc_ne (o := some y) (fun z hz => by cases hz; exact hy)).1.mp e
          cases this)]
        rfl
  · rw [bt, if_neg ne10, clO_in hn6 hk q]
    rfl
theorem f_hinders_eq {F : Nat × Nat} (hF : 100000 ≤ F.1) (hn6 : n ≤ 6) {p j t x : Nat} (hp_ : p < 16) (hj : j < 6) (hx : x < 2 ^ n) (ht : t ≤ n) (h1 : kd p = nI j) (h3 : (j = 2 ∨ j = 4 ∨ j = 5) → td p = nI t) : f_X7_hinders F 40 (nI p) (nI x) (hp sc X (cm n th mc pk kd td fm pr sz ro tu pe tr as) w g) = some (enc (-1) (clO n j t (fm p) (pr p) x), (hp sc X (cm n th mc pk kd td fm pr sz ro tu pe tr as) w g)) := by
  have ha := all_le hn6
  have hx64 : x < 64 := by omega
  have hp6 := pc_le x
  have lo : ∀ (c : Nat → Bool), (j = 1 ∧ c = apC (fm p) x) ∨ (j = 3 ∧ c = dnC (fm p) x) → f_X7_hinders_118 F F.1 40 (nI p) (nI x) 0 (hp sc X (cm n th mc pk kd td fm pr sz ro tu pe tr as) w g) = some (enc (-1) (fo c 0 (2 ^ n)), (hp sc X (cm n th mc pk kd td fm pr sz ro tu pe tr as) w g)) := by
    intro c hc
    have key : ∀ k  i f, i + k = 2 ^ n → k < f → f_X7_hinders_118 F f 40 (nI p) (nI x) (nI i) (hp sc X (cm n th mc pk kd td fm pr sz ro tu pe tr as) w g) = some (enc (-1) (fo c i k), (hp sc X (cm n th mc pk kd td fm pr sz ro tu pe tr as) w g)) := by
      intro k
      induction k with
      | zero =>
        intro  i f  hi hf
        obtain ⟨f, rfl⟩ : ∃ g, f = g + 1 := ⟨f - 1, by omega⟩
        obtain rfl : i = 2 ^ n := by omega
        rw [f_X7_hinders_118, gm_all, Option.bind_some, if_neg (nI_nlt (Nat.le_refl _) (by omega))]
        rfl
      | succ k ih =>
        intro  i f  hi hf
        obtain ⟨f, rfl⟩ : ∃ g, f = g + 1 := ⟨f - 1, by omega⟩
        have hiM : i < 2 ^ n := by omega
        have yes : c i = true → f_X7_hinders_218 F (f_X7_hinders_118 F f) 40 (nI p) (nI x) (nI i) 1 (hp sc X (cm n th mc pk kd td fm pr sz ro tu pe tr as) w g) = some (enc (-1) (fo c i (k + 1)), (hp sc X (cm n th mc pk kd td fm pr sz ro tu pe tr as) w g)) := by
          intro h
          rw [f_X7_hinders_218, if_neg ne10, fo_yes k h]; rfl
        have no : c i = false → f_X7_hinders_218 F (f_X7_hinders_118 F f) 40 (nI p) (nI x) (nI i) 0 (hp sc X (cm n th mc pk kd td fm pr sz ro tu pe tr as) w g) = some (enc (-1) (fo c i (k + 1)), (hp sc X (cm n th mc pk kd td fm pr sz ro tu pe tr as) w g)) := by
          intro h
          rw [f_X7_hinders_218, if_pos rfl, nI_1, fo_no k h, ih (i + 1) f (by omega) (by omega)]
        rw [f_X7_hinders_118, gm_all, Option.bind_some, if_pos (nI_lt hiM (by omega))]
        simp only [gm_kd, Option.bind_some, am_kd hp_, h1]
        rcases hc with ⟨rfl, rfl⟩ | ⟨rfl, rfl⟩
        · rw [if_neg (by decide), if_pos (by rfl)]
          by_cases e : i = x
          · rw [if_pos (by rw [e])]; exact no (by simp [apC, e])
          · rw [if_neg (fun h => e ((nI_eq (by omega) (by omega)).mp h)), gm_fm, Option.bind_some, am_fm hp_, Option.bind_some, f_mhas_eq F _ (by omega), Option.bind_some]
            cases q : qb (fm p) i
            · rw [bf, if_pos rfl]; exact no (by simp [apC, q])
            · rw [bt, if_neg ne10, f_isWithin_eq F hx64 (by omega), Option.bind_some]
              by_cases w1 : x &&& i = x
              · rw [if_pos w1, if_neg ne10]; exact yes (by simp [apC, q, w1, e])
              · rw [if_neg w1, if_pos rfl, f_isWithin_eq F (by omega) hx64, Option.bind_some]
                by_cases w2 : i &&& x = i
                · rw [if_pos w2, if_neg ne10]; exact yes (by simp [apC, q, w2, e])
                · rw [if_neg w2, if_pos rfl]; exact no (by simp [apC, w1, w2])
        · rw [if_neg (by decide), if_neg (by decide)]
          by_cases e : i = x
          · rw [if_pos (by rw [e])]; exact no (by simp [dnC, e])
          · rw [if_neg (fun h => e ((nI_eq (by omega) (by omega)).mp h)), f_isWithin_eq F (by omega) hx64, Option.bind_some]
            by_cases w2 : i &&& x = i
            · rw [if_pos w2, if_neg ne10, gm_fm, Option.bind_some, am_fm hp_, Option.bind_some, f_mhas_eq F _ (by omega), Option.bind_some]
              cases q : qb (fm p) i
              · rw [bf, if_pos rfl]; exact yes (by simp [dnC, q, w2, e])
              · rw [bt, if_neg ne10]; exact no (by simp [dnC, q])
            · rw [if_neg w2, if_pos rfl]; exact no (by simp [dnC, w2])
    exact key (2 ^ n) 0 F.1 (by omega) (by omega)
  have me : (j = 2 ∨ j = 5) → f_X7_hinders_49 F 40 (nI p) (nI x) (hp sc X (cm n th mc pk kd td fm pr sz ro tu pe tr as) w g) = some (enc (-1) (if j = 2 then meO (fm p) x t else orO (meO (fm p) x t) (fo (far (pr p) x t) 0 64)), (hp sc X (cm n th mc pk kd td fm pr sz ro tu pe tr as) w g)) := by
    intro hj25
    have htd : td p = nI t := h3 (by omega)
    unfold f_X7_hinders_49
    rw [f_ones_eq (by omega) hx64, Option.bind_some, gm_td, Option.bind_some, am_td hp_, Option.bind_some, htd]
    by_cases e : pc x < t
    · have hm : meO (fm p) x t = some x := by unfold meO; rw [if_pos e]
      rw [if_pos (nI_lt e (by omega)), hm]
      by_cases j2 : j = 2
      · rw [if_pos j2]; rfl
      · rw [if_neg j2]; rfl
    · have hm : meO (fm p) x t = fo (far (fm p) x t) 0 64 := by unfold meO; rw [if_neg e]
      rw [if_neg (nI_nlt (by omega) (by omega)), hm]
      simp only [gm_fm, gm_td, Option.bind_some, am_fm hp_, am_td hp_, htd, f_mfar_eq hF _ hx64 (by omega : t < 7)]
      cases hf : fo (far (fm p) x t) 0 64 with
      | none =>
        rw [if_pos (show enc (-1) none < 0 by decide), gm_kd, Option.bind_some, am_kd hp_, Option.bind_some, h1]
        by_cases j2 : j = 2
        · rw [if_pos j2, if_pos (by rw [j2]; rfl)]
        · have j5 : j = 5 := by omega
          rw [if_neg j2, if_neg (by rw [j5]; decide), gm_pr, Option.bind_some, am_pr hp_, Option.bind_some]
          rfl
      | some y =>
        have hy := (fo_some 64 0 hf).2.1
        rw [if_neg (show ¬ enc (-1) (some y) < 0 from nI_pos (by omega))]
        by_cases j2 : j = 2
        · rw [if_pos j2]
        · rw [if_neg j2]; rfl
  unfold f_X7_hinders f_X7_hinders_0
  simp only [gm_kd, Option.bind_some, am_kd hp_, h1]
  match j, hj with
  | 0, _ =>
    obtain ⟨m, hm⟩ : ∃ m, F.1 = m + 1 := ⟨F.1 - 1, by omega⟩
    have hpos : 0 < 2 ^ n := Nat.two_pow_pos n
    rw [if_neg (by decide), if_neg (by decide), if_neg (by decide), hm, f_X7_hinders_118, gm_all, Option.bind_some, if_pos (show (0 : Int32) < nI (2 ^ n) from nI_lt hpos (by omega)), gm_kd, Option.bind_some, am_kd hp_, Option.bind_some, h1, if_pos (by rfl)]
    rfl
  | 1, _ =>
    rw [if_neg (by decide), if_neg (by decide), if_neg (by decide), lo _ (Or.inl ⟨rfl, rfl⟩)]
    rfl
  | 2, _ =>
    rw [if_neg (by decide), if_pos (by rfl), me (Or.inl rfl)]
    rfl
  | 3, _ =>
    rw [if_neg (by decide), if_neg (by decide), if_neg (by decide), lo _ (Or.inr ⟨rfl, rfl⟩)]
    rfl
  | 4, _ =>
    rw [if_pos (by rfl), f_ones_eq (by omega) hx64, Option.bind_some, gm_td, Option.bind_some, am_td hp_, Option.bind_some, h3 (Or.inr (Or.inl rfl))]
    show _ = some (enc (-1) (if pc x = t then none else some x), _)
    by_cases e : pc x = t
    · rw [if_pos (by rw [e]), if_pos e]; rfl
    · rw [if_neg (fun h => e ((nI_eq (by omega) (by omega)).mp h)), if_neg e]; rfl
  | 5, _ =>
    rw [if_neg (by decide), if_neg (by decide), if_pos (by rfl), me (Or.inr rfl)]
    rfl
end B73
