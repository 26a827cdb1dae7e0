/-! ===== The small functions ===== -/
theorem f_size_eq (F : Nat × Nat) (x : Int64) : f_X0_size F x = some (nI (fb_ct (qb x) 64)) := by
  unfold f_X0_size f_X0_size_0
  rw [f_cnt_eq]
  rfl
theorem f_holdsSet_eq (F : Nat × Nat) (x : Int64) {k : Nat} (hk : k < 64) : f_X0_holdsSet F x (nI k) = some (if qb x k then 1 else 0) := by
  unfold f_X0_holdsSet f_X0_holdsSet_0
  rw [qb_ask x hk]
  cases qb x k
  · rfl
  · rw [if_pos rfl, if_neg (by decide)]; rfl
theorem f_leastOf_eq (F : Nat × Nat) (x : Int64) : f_X0_leastOf F x = some (if x = 0 then -2 else nI (qn x 0)) := by
  unfold f_X0_leastOf f_X0_leastOf_0
  split
  · rfl
  · rw [show (0 : Int32) = nI 0 from rfl, f_next_eq F x (by decide)]
    rfl
theorem f_isPlace_yes (F : Nat × Nat) (x0 : Nat) {p : Nat} (h : p < 16) : f_X6_isPlace F x0 (nI p) = some 1 := by
  unfold f_X6_isPlace f_X6_isPlace_0
  rw [if_neg (nI_pos (by omega)), if_pos (show nI p < 16 from nI_lt (b := 16) h (by decide))]
theorem f_isPlace_no (F : Nat × Nat) (x0 : Nat) {x : Int32} (h : ∀ p, p < 16 → ¬ x = nI p) : f_X6_isPlace F x0 x = some 0 := by
  unfold f_X6_isPlace f_X6_isPlace_0
  rcases pk_ix x (n := 16) (by decide) with q | q | ⟨j, hj, q⟩
  · rw [if_pos q]
  · by_cases q2 : x < 0
    · rw [if_pos q2]
    · rw [if_neg q2, if_neg (fun q3 => by
        rw [Int32.lt_iff_toInt_lt] at q3
        rw [Int32.le_iff_toInt_le] at q
        have e : (nI 16).toInt = (16 : Int32).toInt := rfl
        omega)]
  · exact absurd q (h j hj)
/-- a place or none -/
theorem place_or (x : Int32) : (∃ p, p < 16 ∧ x = nI p) ∨ ∀ p, p < 16 → ¬ x = nI p := by
  by_cases h : ∃ p, p < 16 ∧ x = nI p
  · exact Or.inl h
  · exact Or.inr fun p hp q => h ⟨p, hp, q⟩
section B44
variable {sc : Nat × (Nat → Int32)} {n : Nat} {cl : Int32} {P : Nat → PL} {ly : Nat → Int64} {sp st : Nat → Int32} {sk : Int32} {sd : Nat → Int32} {sm : Nat → Int64} {M : Nat → rx_C} {w : Nat → Int64} {g : List rx_C}
theorem updP_same (P : Nat → PL) (p : Nat) (q : PL) : updP P p q p = q := if_pos rfl
theorem updP_twice (P : Nat → PL) (p : Nat) (q q' : PL) : updP (updP P p q) p q' = updP P p q' := by
  funext k
  unfold updP
  by_cases e : k = p <;> simp [e]
theorem f_becomeFamily_eq (F : Nat × Nat) {p : Nat} (h : p < 16) (k t : Int32) (f r : Int64) : f_X4_becomeFamily F (2 + 2 * p) k t f r (hp sc (cx n cl P ly sp st sk sd sm) M w g) = some (hp sc (cx n cl (updP P p (k, t, f, r, (P p).2.2.2.2)) ly sp st sk sd sm) M w g) := by
  unfold f_X4_becomeFamily f_X4_becomeFamily_0
  rw [pp_ho h, Option.bind_some, pp_le h, Option.bind_some, updP_twice, updP_same, pp_se h, Option.bind_some, updP_twice, updP_same, pp_pa h, Option.bind_some, updP_twice, updP_same]
theorem f_becomeNothing_eq (F : Nat × Nat) {p : Nat} (h : p < 16) : f_X4_becomeNothing F (2 + 2 * p) (hp sc (cx n cl P ly sp st sk sd sm) M w g) = some (hp sc (cx n cl (updP P p (-2, (P p).2)) ly sp st sk sd sm) M w g) := by
  unfold f_X4_becomeNothing f_X4_becomeNothing_0
  rw [pp_ho h, Option.bind_some]
theorem f_isRow_eq (F : Nat × Nat) {p : Nat} (h : p < 16) : f_X4_isRow F (2 + 2 * p) (hp sc (cx n cl P ly sp st sk sd sm) M w g) = some (if (P p).1 < 6 then 0 else 1, hp sc (cx n cl P ly sp st sk sd sm) M w g) := by
  unfold f_X4_isRow f_X4_isRow_0
  rw [gp_ho h, Option.bind_some]
  split <;> rfl
/-- why a call that asks for a family is refused -/
def refu (k : Int32) : Int32 := if k = -2 then -11 else if k < 6 then 0 else -12
theorem f_famRef_no (F : Nat × Nat) (x : Int32) : f_X6_familyRefusal F 0 x 0 (hp sc (cx n cl P ly sp st sk sd sm) M w g) = some (-1, hp sc (cx n cl P ly sp st sk sd sm) M w g) := rfl
theorem f_famRef_out (F : Nat × Nat) {x : Int32} (h : ∀ p, p < 16 → ¬ x = nI p) : f_X6_familyRefusal F 0 x 1 (hp sc (cx n cl P ly sp st sk sd sm) M w g) = some (-1, hp sc (cx n cl P ly sp st sk sd sm) M w g) := by
  unfold f_X6_familyRefusal f_X6_familyRefusal_0
  rw [if_neg (by decide), ck_0, Option.bind_some, f_isPlace_no F 0 h, Option.bind_some, if_pos rfl]
theorem f_famRef_eq (F : Nat × Nat) {p : Nat} (h : p < 16) : f_X6_familyRefusal F 0 (nI p) 1 (hp sc (cx n cl P ly sp st sk sd sm) M w g) = some (refu (P p).1, hp sc (cx n cl P ly sp st sk sd sm) M w g) := by
  unfold f_X6_familyRefusal f_X6_familyRefusal_0 refu
  rw [if_neg (by decide), ck_0, Option.bind_some, f_isPlace_yes F 0 h, Option.bind_some, if_neg (by decide), gx_shelf, Option.bind_some, ax_shelf h, Option.bind_some, gp_ho h, Option.bind_some]
  by_cases e : (P p).1 = -2
  · rw [if_pos e, if_pos e]
  · rw [if_neg e, if_neg e, Option.bind_some, ax_shelf h, Option.bind_some, ck_P h, Option.bind_some, f_isRow_eq F h, Option.bind_some]
    by_cases e2 : (P p).1 < 6
    · rw [if_pos e2, if_pos e2]; rfl
    · rw [if_neg e2, if_neg e2]; rfl
theorem f_keep_eq (F : Nat × Nat) {p : Nat} (h : p < 16) (k t : Int32) (f : Int64) : f_X6_keep F 0 (nI p) k t f (hp sc (cx n cl P ly sp st sk sd sm) M w g) = some (nI (fb_ct (qb f) 64), hp sc (cx n cl (updP P p (k, t, f, 0, (P p).2.2.2.2)) ly sp st sk sd sm) M w g) := by
  unfold f_X6_keep f_X6_keep_0
  rw [gx_shelf, Option.bind_some, ax_shelf h, Option.bind_some, ck_P h, Option.bind_some, f_becomeFamily_eq F h, Option.bind_some, f_size_eq, Option.bind_some]
end B44
