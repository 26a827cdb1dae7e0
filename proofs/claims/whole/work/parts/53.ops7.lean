section B53
variable {sc : Nat × (Nat → Int32)} {n : Nat} {cl : Int32} {P : Nat → PL} {ly : Nat → Int64} {sp st : Nat → Int32} {sk : Int32} {sd : Nat → Int32} {sm : Nat → Int64} {M : Nat → rx_C} {w : Nat → Int64} {g : List rx_C}
def ref2 (a b : Int32) : Int32 := if a = 0 then b else a
theorem f_fams_eq (F : Nat × Nat) {p o : Nat} (h1 : p < 16) (h2 : o < 16) : f_X6_familiesRefusal F 0 (nI p) (nI o) 1 (hp sc (cx n cl P ly sp st sk sd sm) M w g) = some (ref2 (refu (P p).1) (refu (P o).1), hp sc (cx n cl P ly sp st sk sd sm) M w g) := by
  unfold f_X6_familiesRefusal f_X6_familiesRefusal_0 f_X6_familiesRefusal_19 ref2
  rw [if_neg (by decide), ck_0, Option.bind_some, f_isPlace_yes F 0 h2, Option.bind_some, if_neg (by decide), Option.bind_some, f_famRef_eq F h1, Option.bind_some]
  by_cases e : refu (P p).1 = 0
  · rw [if_pos e, if_pos e, ck_0, Option.bind_some, f_famRef_eq F h2, Option.bind_some]
  · rw [if_neg e, if_neg e]
theorem f_fams_out2 (F : Nat × Nat) (x : Int32) {y : Int32} (h : ∀ p, p < 16 → ¬ y = nI p) : f_X6_familiesRefusal F 0 x y 1 (hp sc (cx n cl P ly sp st sk sd sm) M w g) = some (-1, hp sc (cx n cl P ly sp st sk sd sm) M w g) := by
  unfold f_X6_familiesRefusal f_X6_familiesRefusal_0 f_X6_familiesRefusal_19
  rw [if_neg (by decide), ck_0, Option.bind_some, f_isPlace_no F 0 h, Option.bind_some, if_pos rfl, Option.bind_some, f_famRef_no, Option.bind_some, if_neg (show ¬ (-1 : Int32) = 0 by decide)]
theorem f_fams_out1 (F : Nat × Nat) {x : Int32} {o : Nat} (h2 : o < 16) (h : ∀ p, p < 16 → ¬ x = nI p) : f_X6_familiesRefusal F 0 x (nI o) 1 (hp sc (cx n cl P ly sp st sk sd sm) M w g) = some (-1, hp sc (cx n cl P ly sp st sk sd sm) M w g) := by
  unfold f_X6_familiesRefusal f_X6_familiesRefusal_0 f_X6_familiesRefusal_19
  rw [if_neg (by decide), ck_0, Option.bind_some, f_isPlace_yes F 0 h2, Option.bind_some, if_neg (by decide), Option.bind_some, f_famRef_out F h, Option.bind_some, if_neg (show ¬ (-1 : Int32) = 0 by decide)]
theorem f_lack2_eq (F : Nat × Nat) (a b : Int32) : f_X7_lacking F a b = some (ref2 a b) := by
  unfold f_X7_lacking f_X7_lacking_0 ref2
  by_cases e : a = 0
  · rw [if_pos e, if_pos e]
  · rw [if_neg e, if_neg e]
theorem ref2_0 {a b : Int32} (h : ref2 a b = 0) : a = 0 ∧ b = 0 := by
  unfold ref2 at h
  by_cases e : a = 0
  · rw [if_pos e] at h; exact ⟨e, h⟩
  · rw [if_neg e] at h; exact absurd h e
end B53
