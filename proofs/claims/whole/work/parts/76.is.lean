/-! ===== is: the first two sets that can't be ===== -/
def fp (c : Nat → Option Nat) (i : Nat) : Nat → Option (Nat × Nat)
  | 0 => none
  | k + 1 => match c i with | some y => some (i, y) | none => fp c (i + 1) k
theorem fp_yes {c : Nat → Option Nat} {i y : Nat} (k : Nat) (h : c i = some y) : fp c i (k + 1) = some (i, y) := by show (match c i with | some y => some (i, y) | none => fp c (i + 1) k) = _; rw [h]
theorem fp_no {c : Nat → Option Nat} {i : Nat} (k : Nat) (h : c i = none) : fp c i (k + 1) = fp c (i + 1) k := by show (match c i with | some y => some (i, y) | none => fp c (i + 1) k) = _; rw [h]
theorem fp_cong {c c' : Nat → Option Nat} : ∀ (k i : Nat), (∀ j, i ≤ j → j < i + k → c j = c' j) → fp c i k = fp c' i k
  | 0, i, _ => rfl
  | k + 1, i, h => by
    have e := h i (Nat.le_refl _) (by omega)
    have r := fp_cong k (i + 1) (fun j h1 h2 => h j (by omega) (by omega))
    cases hc : c i with
    | none => rw [fp_no k hc, fp_no k (e ▸ hc), r]
    | some y => rw [fp_yes k hc, fp_yes k (e ▸ hc)]
theorem fp_fit {c : Nat → Option Nat} : ∀ (k i e : Nat), (∀ j, i + k ≤ j → c j = none) → fp c i (k + e) = fp c i k
  | 0, i, 0, h => rfl
  | 0, i, e + 1, h => by
    rw [show 0 + (e + 1) = (0 + e) + 1 by omega, fp_no (0 + e) (h i (by omega))]
    exact fp_fit 0 (i + 1) e (fun j hj => h j (by omega))
  | k + 1, i, e, h => by
    rw [show k + 1 + e = (k + e) + 1 by omega]
    have r := fp_fit k (i + 1) e (fun j hj => h j (by omega))
    cases hc : c i with
    | none => rw [fp_no _ hc, fp_no k hc, r]
    | some y => rw [fp_yes _ hc, fp_yes k hc]
theorem fp_64 {c : Nat → Option Nat} {m : Nat} (hm : m ≤ 64) (h : ∀ j, m ≤ j → c j = none) : fp c 0 64 = fp c 0 m := by
  obtain ⟨e, he⟩ : ∃ e, 64 = m + e := ⟨64 - m, by omega⟩
  rw [he]; exact fp_fit m 0 e (fun j hj => h j (by omega))
theorem fp_lt {c : Nat → Option Nat} {m : Nat} (h : ∀ x y, c x = some y → y < m) {q : Nat × Nat} : ∀ (k i : Nat), fp c i k = some q → q.1 < i + k ∧ q.2 < m
  | 0, i, e => by cases e
  | k + 1, i, e => by
    cases hc : c i with
    | none => rw [fp_no k hc] at e; have := fp_lt h k (i + 1) e; omega
    | some y => rw [fp_yes k hc] at e; cases e; exact ⟨by show i < _; omega, h i y hc⟩
def encP (d : Bool) (o : Option (Nat × Nat)) : Int32 := match o with | none => -2 | some q => if d = true then nI q.2 + 64 * nI q.1 else nI q.1 + 64 * nI q.2
def cP (a : Int64) (W : Nat → Option Nat) (x : Nat) : Option Nat := if qb a x = true then W x else none
theorem cP_no {a : Int64} {W : Nat → Option Nat} {x : Nat} (h : qb a x = false) : cP a W x = none := by unfold cP; rw [h]; rfl
theorem cP_yes {a : Int64} {W : Nat → Option Nat} {x : Nat} (h : qb a x = true) : cP a W x = W x := by unfold cP; rw [h]; rfl
theorem enc_m2 {y : Nat} (hy : y < 64) : ¬ nI y = -2 := fun e => by
  have := (enc_ne (o := some y) (fun z hz => by cases hz; exact hy)).1.mp e
  cases this
def wA (a : Int64) (x : Nat) : Option Nat := fo (qb ((a &&& aRo x) &&& (one x ^^^ (-1)))) 0 64
def wD (a : Int64) (x : Nat) : Option Nat := fo (qb (wIn x &&& (a ^^^ (-1)))) 0 64
def wL (t x : Nat) : Option Nat := if pc x = t then none else some x
def bel (s : Nat) : Int64 := (f_X0_below (0, 0) (nI s)).getD 0
theorem f_bel (F : Nat × Nat) {s : Nat} (hs : s ≤ 64) : f_X0_below F (nI s) = some (bel s) ∧ ∀ j, j < 64 → qb (bel s) j = decide (j < s) := by
  obtain ⟨m, hm, hb⟩ := f_below_eq F hs
  have e : bel s = m := by
    show (f_X0_below F (nI s)).getD 0 = m
    rw [hm]; rfl
  rw [e]; exact ⟨hm, hb⟩
def wM (a : Int64) (t x : Nat) : Option Nat := meO (a &&& (bel x ^^^ (-1))) x t
theorem f_apartClash_eq {F : Nat × Nat} (hF : 100000 ≤ F.1) (a : Int64) : f_X1_apartClash F a = some (encP false (fp (cP a (wA a)) 0 64)) := by
  have hlt : ∀ x y, x < 64 → (wA a) x = some y → y < 64 := fun x y hx h => by have := (fo_some 64 0 h).2.1; omega
  have key : ∀ k  i f, i + k = 64 → k < f → f_X1_apartClash_6 F f a (nI (qn a i)) = some (encP false (fp (cP a (wA a)) i k)) := by
    intro k
    induction k with
    | zero =>
      intro  i f  hi hf
      obtain ⟨f, rfl⟩ : ∃ g, f = g + 1 := ⟨f - 1, by omega⟩
      obtain rfl : i = 64 := by omega
      rw [qn_big a (Nat.le_refl _)]
      rw [f_X1_apartClash_6, if_neg (by decide)]
      rfl
    | succ k ih =>
      intro  i f  hi hf
      obtain ⟨f, rfl⟩ : ∃ g, f = g + 1 := ⟨f - 1, by omega⟩
      cases q : qb a i
      · rw [qn_no q, fp_no k (cP_no q)]
        exact ih (i + 1) (f + 1) (by omega) (by omega)
      · rw [qn_yes q]
        have hi64 : i < 64 := by omega
        rw [f_X1_apartClash_6, if_pos (show nI i < 64 from nI_lt (b := 64) (by omega) (by decide)), f_around_eq (by omega) hi64, Option.bind_some, leastOf_fo, Option.bind_some, show fo (qb ((a &&& aRo i) &&& (one i ^^^ (-1)))) 0 64 = wA a i from rfl]
        have hW : cP a (wA a) i = (wA a) i := cP_yes q
        cases hw : (wA a) i with
        | none => rw [show enc (-2) none = -2 from rfl, if_pos rfl, nI_1, f_next_eq F a (by omega), Option.bind_some, fp_no k (hW.trans hw), ih (i + 1) f (by omega) (by omega)]
        | some y =>
          rw [if_neg (show ¬ enc (-2) (some y) = -2 from enc_m2 (hlt i y hi64 hw)), fp_yes k (hW.trans hw)]; rfl
  unfold f_X1_apartClash f_X1_apartClash_0
  rw [show (0 : Int32) = nI 0 from rfl, f_next_eq F a (by omega), Option.bind_some]
  exact key 64 0 F.1 (by omega) (by omega)
theorem f_downClash_eq {F : Nat × Nat} (hF : 100000 ≤ F.1) (a : Int64) : f_X1_downClash F a = some (encP true (fp (cP a (wD a)) 0 64)) := by
  have hlt : ∀ x y, x < 64 → (wD a) x = some y → y < 64 := fun x y hx h => by have := (fo_some 64 0 h).2.1; omega
  have key : ∀ k  i f, i + k = 64 → k < f → f_X1_downClash_6 F f a (nI (qn a i)) = some (encP true (fp (cP a (wD a)) i k)) := by
    intro k
    induction k with
    | zero =>
      intro  i f  hi hf
      obtain ⟨f, rfl⟩ : ∃ g, f = g + 1 := ⟨f - 1, by omega⟩
      obtain rfl : i = 64 := by omega
      rw [qn_big a (Nat.le_refl _)]
      rw [f_X1_downClash_6, if_neg (by decide)]
      rfl
    | succ k ih =>
      intro  i f  hi hf
      obtain ⟨f, rfl⟩ : ∃ g, f = g + 1 := ⟨f - 1, by omega⟩
      cases q : qb a i
      · rw [qn_no q, fp_no k (cP_no q)]
        exact ih (i + 1) (f + 1) (by omega) (by omega)
      · rw [qn_yes q]
        have hi64 : i < 64 := by omega
        rw [f_X1_downClash_6, if_pos (show nI i < 64 from nI_lt (b := 64) (by omega) (by decide)), f_within_eq (by omega) hi64, Option.bind_some, leastOf_fo, Option.bind_some, show fo (qb (wIn i &&& (a ^^^ (-1)))) 0 64 = wD a i from rfl]
        have hW : cP a (wD a) i = (wD a) i := cP_yes q
        cases hw : (wD a) i with
        | none => rw [show enc (-2) none = -2 from rfl, if_pos rfl, nI_1, f_next_eq F a (by omega), Option.bind_some, fp_no k (hW.trans hw), ih (i + 1) f (by omega) (by omega)]
        | some y =>
          rw [if_neg (show ¬ enc (-2) (some y) = -2 from enc_m2 (hlt i y hi64 hw)), fp_yes k (hW.trans hw)]; rfl
  unfold f_X1_downClash f_X1_downClash_0
  rw [show (0 : Int32) = nI 0 from rfl, f_next_eq F a (by omega), Option.bind_some]
  exact key 64 0 F.1 (by omega) (by omega)
theorem f_meetingClash_eq {F : Nat × Nat} (hF : 100000 ≤ F.1) (a : Int64) {t : Nat} (ht : t < 7) : f_X1_meetingClash F a (nI t) = some (encP false (fp (cP a (wM a t)) 0 64)) := by
  have hlt : ∀ x y, x < 64 → (wM a t) x = some y → y < 64 := fun x y hx h => meO_lt hx h
  have key : ∀ k  i f, i + k = 64 → k < f → f_X1_meetingClash_6 F f a (nI t) (nI (qn a i)) = some (encP false (fp (cP a (wM a t)) i k)) := by
    intro k
    induction k with
    | zero =>
      intro  i f  hi hf
      obtain ⟨f, rfl⟩ : ∃ g, f = g + 1 := ⟨f - 1, by omega⟩
      obtain rfl : i = 64 := by omega
      rw [qn_big a (Nat.le_refl _)]
      rw [f_X1_meetingClash_6, if_neg (by decide)]
      rfl
    | succ k ih =>
      intro  i f  hi hf
      obtain ⟨f, rfl⟩ : ∃ g, f = g + 1 := ⟨f - 1, by omega⟩
      cases q : qb a i
      · rw [qn_no q, fp_no k (cP_no q)]
        exact ih (i + 1) (f + 1) (by omega) (by omega)
      · rw [qn_yes q]
        have hi64 : i < 64 := by omega
        rw [f_X1_meetingClash_6, if_pos (show nI i < 64 from nI_lt (b := 64) (by omega) (by decide)), (f_bel F (by omega)).1, Option.bind_some, f_meet_eq hF _ hi64 ht, Option.bind_some, show meO (a &&& (bel i ^^^ (-1))) i t = wM a t i from rfl]
        have hW : cP a (wM a t) i = (wM a t) i := cP_yes q
        cases hw : (wM a t) i with
        | none => rw [show enc (-2) none = -2 from rfl, if_pos rfl, nI_1, f_next_eq F a (by omega), Option.bind_some, fp_no k (hW.trans hw), ih (i + 1) f (by omega) (by omega)]
        | some y =>
          rw [if_neg (show ¬ enc (-2) (some y) = -2 from enc_m2 (hlt i y hi64 hw)), fp_yes k (hW.trans hw)]; rfl
  unfold f_X1_meetingClash f_X1_meetingClash_0
  rw [show (0 : Int32) = nI 0 from rfl, f_next_eq F a (by omega), Option.bind_some]
  exact key 64 0 F.1 (by omega) (by omega)
theorem f_layerClash_eq {F : Nat × Nat} (hF : 100000 ≤ F.1) (a : Int64) {t : Nat} (ht : t < 7) : f_X1_layerClash F a (nI t) = some (encP false (fp (cP a (wL t)) 0 64)) := by
  have key : ∀ k  i f, i + k = 64 → k < f → f_X1_layerClash_6 F f a (nI t) (nI (qn a i)) = some (encP false (fp (cP a (wL t)) i k)) := by
    intro k
    induction k with
    | zero =>
      intro  i f  hi hf
      obtain ⟨f, rfl⟩ : ∃ g, f = g + 1 := ⟨f - 1, by omega⟩
      obtain rfl : i = 64 := by omega
      rw [qn_big a (Nat.le_refl _)]
      rw [f_X1_layerClash_6, if_neg (by decide)]
      rfl
    | succ k ih =>
      intro  i f  hi hf
      obtain ⟨f, rfl⟩ : ∃ g, f = g + 1 := ⟨f - 1, by omega⟩
      cases q : qb a i
      · rw [qn_no q, fp_no k (cP_no q)]
        exact ih (i + 1) (f + 1) (by omega) (by omega)
      · rw [qn_yes q]
        have hi64 : i < 64 := by omega
        rw [f_X1_layerClash_6, if_pos (show nI i < 64 from nI_lt (b := 64) (by omega) (by decide)), f_bits_eq F hi64, Option.bind_some]
        have hp6 := pc_le i
        have hW : cP a (wL t) i = wL t i := cP_yes q
        by_cases e : pc i = t
        · rw [if_pos (by rw [e]), nI_1, f_next_eq F a (by omega), Option.bind_some, fp_no k (hW.trans (by unfold wL; rw [if_pos e])), ih (i + 1) f (by omega) (by omega)]
        · rw [if_neg (fun h => e ((nI_eq (by omega) (by omega)).mp h)), fp_yes k (hW.trans (show wL t i = some i by unfold wL; rw [if_neg e]))]; rfl
  unfold f_X1_layerClash f_X1_layerClash_0
  rw [show (0 : Int32) = nI 0 from rfl, f_next_eq F a (by omega), Option.bind_some]
  exact key 64 0 F.1 (by omega) (by omega)
def goB (j t x y : Nat) : Bool := if j = 1 then decide (x = y) || (!decide (x &&& y = x) && !decide (y &&& x = y)) else if j = 2 then !decide (pc (x &&& y) < t) else if j = 4 then !decide (x = y) || decide (pc x = t) else true
def isC (j t : Nat) (a : Int64) (x y : Nat) : Bool := if j = 3 then decide (y &&& x = y) && !qb a y else decide (x ≤ y) && (qb a y && !goB j t x y)
def isO (n j t : Nat) (a : Int64) : Option (Nat × Nat) := fp (cP a (fun x => fo (isC j t a x) 0 (2 ^ n))) 0 (2 ^ n)
theorem fo_first {c : Nat → Bool} {e : Nat} (he : c e = true) : ∀ (k i : Nat), i ≤ e → e < i + k → (∀ j, i ≤ j → j < e → c j = false) → fo c i k = some e
  | 0, i, h1, h2, _ => by omega
  | k + 1, i, h1, h2, h => by
    by_cases q : i = e
    · subst q; exact fo_yes k he
    · rw [fo_no k (h i (Nat.le_refl _) (by omega))]
      exact fo_first he k (i + 1) (by omega) (by omega) (fun j h3 h4 => h j (by omega) h4)
theorem fp_is {n : Nat} (hn : n ≤ 6) {a : Int64} (hfi : fits (2 ^ n) a) {W : Nat → Option Nat} {j t : Nat} (h : ∀ x, x < 2 ^ n → qb a x = true → W x = fo (isC j t a x) 0 (2 ^ n)) : fp (cP a W) 0 64 = isO n j t a := by
  have ha := all_le hn
  rw [fp_64 ha (fun z hz => cP_no (hfi z hz))]
  refine fp_cong _ 0 fun x _ hx => ?_
  cases q : qb a x
  · rw [cP_no q, cP_no q]
  · rw [cP_yes q, cP_yes q]; exact h x (by omega) q
theorem f_famClash_eq {F : Nat × Nat} (hF : 100000 ≤ F.1) {n : Nat} (hn : n ≤ 6) {a : Int64} (hfi : fits (2 ^ n) a) {j t : Nat} (hj : j < 5) (ht : t ≤ n) {T : Int32} (hT : (j = 2 ∨ j = 4) → T = nI t) : f_X1_familyClash F a (nI j) T = some (encP (decide (j = 3)) (isO n j t a)) := by
  have ha := all_le hn
  unfold f_X1_familyClash f_X1_familyClash_0
  match j, hj with
  | 0, _ =>
    have e : isO n 0 t a = none := by
      unfold isO
      have : ∀ k i, fp (cP a (fun x => fo (isC 0 t a x) 0 (2 ^ n))) i k = none := by
        intro k
        induction k with
        | zero => intro i; rfl
        | succ k ih =>
          intro i
          rw [fp_no k (by
            unfold cP
            cases qb a i
            · rfl
            · exact fo_all _ 0 (fun z _ _ => by simp [isC, goB]))]
          exact ih (i + 1)
      exact this _ _
    rw [if_neg (by decide), if_neg (by decide), if_neg (by decide), if_neg (by decide), e]; rfl
  | 1, _ =>
    rw [if_pos (by rfl), f_apartClash_eq hF, Option.bind_some, fp_is hn hfi (j := 1) (t := t)]; rfl
    intro x hx q
    unfold wA
    rw [fo_64 ha (fun z hz => by rw [qb_and, qb_and, hfi z hz]; rfl)]
    refine fo_cong _ 0 fun y _ hy => ?_
    rw [qb_and, qb_and, qb_aRo (by omega) (by omega), qb_not _ (by omega), qb_one (by omega)]
    unfold isC goB
    rw [if_neg (by decide), if_pos rfl]
    by_cases e : x = y
    · subst e; simp
    · have e' : ¬ y = x := fun h => e h.symm
      rw [decide_eq_false e, decide_eq_false e']
      by_cases h1 : x &&& y = x
      · rw [decide_eq_true h1, decide_eq_true (sub_bits h1)]; cases qb a y <;> simp
      · rw [decide_eq_false h1]
        by_cases h2 : y &&& x = y
        · have := sub_bits h2
          rw [decide_eq_false (show ¬ x ≤ y by omega)]; cases qb a y <;> rfl
        · rw [decide_eq_false h2]; cases qb a y <;> simp
  | 2, _ =>
    rw [if_neg (by decide), if_pos (by rfl), hT (Or.inl rfl), f_meetingClash_eq hF a (by omega), Option.bind_some, fp_is hn hfi (j := 2) (t := t)]; rfl
    intro x hx q
    have hb := (f_bel (0, 0) (show x ≤ 64 by omega)).2
    have e0 : ∀ y, y < 64 → far (a &&& (bel x ^^^ (-1))) x t y = isC 2 t a x y := by
      intro y hy
      unfold far isC goB
      rw [qb_and, qb_not _ hy, hb y hy, if_neg (by decide), if_neg (by decide), if_pos rfl]
      by_cases h : y < x
      · rw [decide_eq_true h, decide_eq_false (show ¬ x ≤ y by omega)]; cases qb a y <;> rfl
      · rw [decide_eq_false h, decide_eq_true (show x ≤ y by omega)]; cases qb a y <;> simp
    unfold wM meO
    by_cases h : pc x < t
    · rw [if_pos h]
      refine (fo_first (e := x) ?_ _ 0 (Nat.zero_le _) (by omega) (fun y _ hy => ?_)).symm
      · unfold isC goB
        rw [if_neg (by decide), if_neg (by decide), if_pos rfl, q, Nat.and_self, decide_eq_true h]; simp
      · unfold isC
        rw [if_neg (by decide), decide_eq_false (show ¬ x ≤ y by omega)]; rfl
    · rw [if_neg h, fo_64 ha (fun z hz => by
        unfold far
        rw [qb_and, hfi z hz]; rfl)]
      exact fo_cong _ 0 fun y _ hy => e0 y (by omega)
  | 3, _ =>
    rw [if_neg (by decide), if_neg (by decide), if_pos (by rfl), f_downClash_eq hF, Option.bind_some, fp_is hn hfi (j := 3) (t := t)]; rfl
    intro x hx q
    unfold wD
    rw [fo_64 ha (fun z hz => by
      by_cases hz64 : z < 64
      · rw [qb_and, qb_wIn (by omega) hz64, decide_eq_false (fun e => by have := sub_bits e; omega)]; rfl
      · exact qb_big (by omega))]
    refine fo_cong _ 0 fun y _ hy => ?_
    rw [qb_and, qb_wIn (by omega) (by omega), qb_not _ (by omega)]
    unfold isC
    rw [if_pos rfl]
  | 4, _ =>
    rw [if_neg (by decide), if_neg (by decide), if_neg (by decide), if_pos (by rfl), hT (Or.inr rfl), f_layerClash_eq hF a (by omega), Option.bind_some, fp_is hn hfi (j := 4) (t := t)]; rfl
    intro x hx q
    unfold wL
    by_cases h : pc x = t
    · rw [if_pos h]
      refine (fo_all _ 0 fun y _ _ => ?_).symm
      unfold isC goB
      rw [if_neg (by decide), if_neg (by decide), if_neg (by decide), if_pos rfl, decide_eq_true h]; simp
    · rw [if_neg h]
      refine (fo_first (e := x) ?_ _ 0 (Nat.zero_le _) (by omega) (fun y _ hy => ?_)).symm
      · unfold isC goB
        rw [if_neg (by decide), if_neg (by decide), if_neg (by decide), if_pos rfl, q, decide_eq_false h]; simp
      · unfold isC
        rw [if_neg (by decide), decide_eq_false (show ¬ x ≤ y by omega)]; rfl
theorem f_goes_eq {F : Nat × Nat} (hF : 100000 ≤ F.1) (a : Int64) {j t x y : Nat} (hj : j < 5) (ht : t ≤ 6) (hx : x < 64) (hy : y < 64) {T : Int32} (hT : (j = 2 ∨ j = 4) → T = nI t) : f_X7_goes F 40 a (nI x) (nI y) (nI j) T = some (if goB j t x y then 1 else 0) := by
  unfold f_X7_goes f_X7_goes_0
  have p1 := pc_le x
  have p2 := pc_le (x &&& y)
  match j, hj with
  | 0, _ => rw [if_neg (by decide), if_neg (by decide), if_neg (by decide)]; rfl
  | 1, _ =>
    rw [if_pos (by rfl)]
    unfold goB
    rw [if_pos rfl]
    by_cases e : x = y
    · rw [if_pos (by rw [e]), decide_eq_true e]; rfl
    · rw [if_neg (fun h => e ((nI_eq (by omega) (by omega)).mp h)), f_isWithin_eq F hx hy, Option.bind_some, decide_eq_false e]
      by_cases h1 : x &&& y = x
      · rw [if_pos h1, if_neg ne10, decide_eq_true h1]; rfl
      · rw [if_neg h1, if_pos rfl, f_isWithin_eq F hy hx, Option.bind_some, decide_eq_false h1]
        by_cases h2 : y &&& x = y
        · rw [if_pos h2, if_neg ne10, decide_eq_true h2]; rfl
        · rw [if_neg h2, if_pos rfl, decide_eq_false h2]; rfl
  | 2, _ =>
    rw [if_neg (by decide), if_pos (by rfl), nI_and hx hy, f_ones_eq (by omega) (and_l hx), Option.bind_some, hT (Or.inl rfl)]
    show _ = some (if (!decide (pc (x &&& y) < t)) = true then (1 : Int32) else 0)
    by_cases h : pc (x &&& y) < t
    · rw [if_pos (nI_lt h (by omega)), decide_eq_true h]; rfl
    · rw [if_neg (nI_nlt (by omega) (by omega)), decide_eq_false h]; rfl
  | 3, _ => rw [if_neg (by decide), if_neg (by decide), if_neg (by decide)]; rfl
  | 4, _ =>
    rw [if_neg (by decide), if_neg (by decide), if_pos (by rfl)]
    show _ = some (if (!decide (x = y) || decide (pc x = t)) = true then (1 : Int32) else 0)
    by_cases e : x = y
    · rw [if_pos (by rw [e]), f_ones_eq (by omega) hx, Option.bind_some, hT (Or.inr rfl), decide_eq_true e]
      by_cases h : pc x = t
      · rw [if_pos (by rw [h]), decide_eq_true h]; rfl
      · rw [if_neg (fun q => h ((nI_eq (by omega) (by omega)).mp q)), decide_eq_false h]; rfl
    · rw [if_neg (fun h => e ((nI_eq (by omega) (by omega)).mp h)), decide_eq_false e]; rfl
section B76
variable {sc : Nat × (Nat → Int32)} {n : Nat} {cl : Int32} {P : Nat → PL} {ly : Nat → Int64} {sp st : Nat → Int32} {sk : Int32} {sd : Nat → Int32} {sm : Nat → Int64} {X M : Nat → rx_C} {w : Nat → Int64} {g : List rx_C} {th mc pk : Int32} {kd td : Nat → Int32} {fm pr : Nat → Int64} {sz : Nat → Int32} {ro : Nat → Int64} {tu pe tr : Nat → Int32} {as : Nat → Int64}
theorem f_mis_in {F : Nat × Nat} (hF : 100000 ≤ F.1) (hn6 : n ≤ 6) (k43 : Nat → Int32 → Int32 → Int64 → Int32 → Option rx_H → Option (Int32 × Option rx_H)) (a : Int64) {j t x : Nat} (hj : j < 5) (ht : t ≤ n) (hx : x < 2 ^ n) {T : Int32} (hT : (j = 2 ∨ j = 4) → T = nI t) : f_X7_is_68 F k43 F.1 40 (nI j) T a (nI x) 0 (hp sc X (cm n th mc pk kd td fm pr sz ro tu pe tr as) w g) = match fo (isC j t a x) 0 (2 ^ n) with
    | none => k43 40 (nI j) T a (nI (x + 1)) (hp sc X (cm n th mc pk kd td fm pr sz ro tu pe tr as) w g)
    | some y => some (0, hp sc X (cm n th (encP (decide (j = 3)) (some (x, y))) pk kd td fm pr sz ro tu pe tr as) w g) := by
  have ha := all_le hn6
  have hx64 : x < 64 := by omega
  have key : ∀ k i f, i + k = 2 ^ n → k < f → f_X7_is_68 F k43 f 40 (nI j) T a (nI x) (nI i) (hp sc X (cm n th mc pk kd td fm pr sz ro tu pe tr as) w g) = match fo (isC j t a x) i k with
    | none => k43 40 (nI j) T a (nI (x + 1)) (hp sc X (cm n th mc pk kd td fm pr sz ro tu pe tr as) w g)
    | some y => some (0, hp sc X (cm n th (encP (decide (j = 3)) (some (x, y))) pk kd td fm pr sz ro tu pe tr as) w g) := by
    intro k
    induction k with
    | zero =>
      intro i f hi hf
      obtain ⟨f, rfl⟩ : ∃ g, f = g + 1 := ⟨f - 1, by omega⟩
      obtain rfl : i = 2 ^ n := by omega
      rw [f_X7_is_68, gm_all, Option.bind_some, if_neg (nI_nlt (Nat.le_refl _) (by omega)), nI_1]
      rfl
    | succ k ih =>
      intro i f hi hf
      obtain ⟨f, rfl⟩ : ∃ g, f = g + 1 := ⟨f - 1, by omega⟩
      have hiM : i < 2 ^ n := by omega
      have hi64 : i < 64 := by omega
      rw [f_X7_is_68, gm_all, Option.bind_some, if_pos (nI_lt hiM (by omega))]
      by_cases e3 : j = 3
      · subst e3
        have no : isC 3 t a x i = false → f_X7_is_68 F k43 f 40 (nI 3) T a (nI x) (nI i + 1) (hp sc X (cm n th mc pk kd td fm pr sz ro tu pe tr as) w g) = match fo (isC 3 t a x) i (k + 1) with
            | none => k43 40 (nI 3) T a (nI (x + 1)) (hp sc X (cm n th mc pk kd td fm pr sz ro tu pe tr as) w g)
            | some y => some (0, hp sc X (cm n th (encP (decide (3 = 3)) (some (x, y))) pk kd td fm pr sz ro tu pe tr as) w g) := by
          intro h
          rw [nI_1, fo_no k h]; exact ih (i + 1) f (by omega) (by omega)
        rw [if_pos (by rfl), f_X7_is_119, if_pos (by rfl), f_isWithin_eq F hi64 hx64, Option.bind_some]
        by_cases w1 : i &&& x = i
        · rw [if_pos w1, if_neg ne10, f_mhas_eq F _ hi64, Option.bind_some]
          cases q : qb a i
          · rw [bf, if_pos rfl, f_X7_is_151, if_pos rfl, if_neg ne10, f_X7_is_166, if_pos rfl, pm_mc, Option.bind_some, fo_yes k (by simp [isC, w1, q])]; rfl
          · rw [bt, if_neg ne10, f_X7_is_151, if_pos rfl, if_pos rfl]; exact no (by simp [isC, q])
        · rw [if_neg w1, if_pos rfl, f_X7_is_151, if_pos rfl, if_pos rfl]; exact no (by simp [isC, w1])
      · have n3 : ¬ nI j = 3 := nI_is (k := 3) (by omega) (by omega) e3
        have no : isC j t a x i = false → f_X7_is_119 F k43 (f_X7_is_68 F k43 f) 40 (nI j) T a (nI x) (nI i) 0 (hp sc X (cm n th mc pk kd td fm pr sz ro tu pe tr as) w g) = match fo (isC j t a x) i (k + 1) with
            | none => k43 40 (nI j) T a (nI (x + 1)) (hp sc X (cm n th mc pk kd td fm pr sz ro tu pe tr as) w g)
            | some y => some (0, hp sc X (cm n th (encP (decide (j = 3)) (some (x, y))) pk kd td fm pr sz ro tu pe tr as) w g) := by
          intro h
          rw [f_X7_is_119, if_neg n3, f_X7_is_151, if_pos rfl, if_pos rfl, nI_1, fo_no k h]; exact ih (i + 1) f (by omega) (by omega)
        rw [if_neg n3]
        by_cases l1 : i < x
        · rw [if_pos (nI_lt l1 (by omega))]
          exact no (by unfold isC; rw [if_neg e3, decide_eq_false (show ¬ x ≤ i by omega)]; rfl)
        · rw [if_neg (nI_nlt (by omega) (by omega)), f_mhas_eq F _ hi64, Option.bind_some]
          cases q : qb a i
          · rw [bf, if_pos rfl]; exact no (by unfold isC; rw [if_neg e3, q]; simp)
          · rw [bt, if_neg ne10, ck_40, Option.bind_some, f_goes_eq hF a hj (by omega) hx64 hi64 hT, Option.bind_some]
            cases hg : goB j t x i
            · rw [bf, if_pos rfl, f_X7_is_119, if_neg n3, f_X7_is_151, if_neg ne10, f_X7_is_166, if_neg ne10, pm_mc, Option.bind_some, fo_yes k (by unfold isC; rw [if_neg e3, q, hg, decide_eq_true (show x ≤ i by omega)]; rfl)]
              show _ = some ((0 : Int32), hp sc X (cm n th (if decide (j = 3) = true then _ else _) pk kd td fm pr sz ro tu pe tr as) w g)
              rw [decide_eq_false e3, if_neg (by decide)]
            · rw [bt, if_neg ne10]; exact no (by unfold isC; rw [if_neg e3, hg]; simp)
  exact key (2 ^ n) 0 F.1 (by omega) (by omega)
theorem f_mis_loop {F : Nat × Nat} (hF : 100000 ≤ F.1) (hn6 : n ≤ 6) (a : Int64) {j t : Nat} (hj : j < 5) (ht : t ≤ n) {T : Int32} (hT : (j = 2 ∨ j = 4) → T = nI t) : f_X7_is_43 F F.1 40 (nI j) T a 0 (hp sc X (cm n th mc pk kd td fm pr sz ro tu pe tr as) w g) = match isO n j t a with
    | none => some (1, (hp sc X (cm n th mc pk kd td fm pr sz ro tu pe tr as) w g))
    | some q => some (0, hp sc X (cm n th (encP (decide (j = 3)) (some q)) pk kd td fm pr sz ro tu pe tr as) w g) := by
  have ha := all_le hn6
  have key : ∀ k i f, i + k = 2 ^ n → k < f → f_X7_is_43 F f 40 (nI j) T a (nI i) (hp sc X (cm n th mc pk kd td fm pr sz ro tu pe tr as) w g) = match fp (cP a (fun x => fo (isC j t a x) 0 (2 ^ n))) i k with
    | none => some (1, (hp sc X (cm n th mc pk kd td fm pr sz ro tu pe tr as) w g))
    | some q => some (0, hp sc X (cm n th (encP (decide (j = 3)) (some q)) pk kd td fm pr sz ro tu pe tr as) w g) := by
    intro k
    induction k with
    | zero =>
      intro i f hi hf
      obtain ⟨f, rfl⟩ : ∃ g, f = g + 1 := ⟨f - 1, by omega⟩
      obtain rfl : i = 2 ^ n := by omega
      rw [f_X7_is_43, gm_all, Option.bind_some, if_neg (nI_nlt (Nat.le_refl _) (by omega))]
      rfl
    | succ k ih =>
      intro i f hi hf
      obtain ⟨f, rfl⟩ : ∃ g, f = g + 1 := ⟨f - 1, by omega⟩
      have hiM : i < 2 ^ n := by omega
      rw [f_X7_is_43, gm_all, Option.bind_some, if_pos (nI_lt hiM (by omega)), f_mhas_eq F _ (by omega), Option.bind_some]
      cases q : qb a i
      · rw [bf, if_pos rfl, nI_1, fp_no k (cP_no q)]; exact ih (i + 1) f (by omega) (by omega)
      · rw [bt, if_neg ne10, f_mis_in hF hn6 _ a hj ht hiM hT]
        cases hf2 : fo (isC j t a i) 0 (2 ^ n) with
        | none => rw [fp_no k ((cP_yes q).trans hf2)]; exact ih (i + 1) f (by omega) (by omega)
        | some y => rw [fp_yes k ((cP_yes q).trans hf2)]
  exact key (2 ^ n) 0 F.1 (by omega) (by omega)
end B76
theorem isO_lt {n j t : Nat} {a : Int64} {q : Nat × Nat} (h : isO n j t a = some q) : q.1 < 2 ^ n ∧ q.2 < 2 ^ n := by
  have := fp_lt (m := 2 ^ n) (fun x y hxy => by
    unfold cP at hxy
    cases hq : qb a x
    · rw [hq] at hxy; cases hxy
    · rw [hq] at hxy; have := (fo_some _ _ hxy).2.1; omega) _ _ h
  omega
theorem encP_ne {d : Bool} {q : Nat × Nat} (h1 : q.1 < 64) (h2 : q.2 < 64) : ¬ encP d (some q) = -2 := by
  have e : ∀ a b, nI a + 64 * nI b = nI (a + 64 * b) := fun a b => by
    have : (64 : Int32) * nI b = nI (64 * b) := (Int32.ofNat_mul 64 b).symm
    rw [this, nI_add]
  have e2 : ∀ a, a < 2 ^ 31 → ¬ nI a = -2 := fun a ha h => nI_pos ha (by rw [h]; decide)
  show ¬ (if d = true then nI q.2 + 64 * nI q.1 else nI q.1 + 64 * nI q.2) = -2
  cases d
  · rw [if_neg (by decide), e]; exact e2 _ (by omega)
  · rw [if_pos rfl, e]; exact e2 _ (by omega)
