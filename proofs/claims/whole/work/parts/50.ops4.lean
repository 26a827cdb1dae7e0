/-! sets in range -/
theorem all_le {n : Nat} (hn : n ≤ 6) : 2 ^ n ≤ 64 := Nat.pow_le_pow_right (n := 2) (by decide) hn
theorem set_or (n : Nat) (x : Int32) : (∃ s, s < 2 ^ n ∧ x = nI s) ∨ ∀ s, s < 2 ^ n → ¬ x = nI s := by
  by_cases h : ∃ p, p < 2 ^ n ∧ x = nI p
  · exact Or.inl h
  · exact Or.inr fun p hp q => h ⟨p, hp, q⟩
section B50
variable {sc : Nat × (Nat → Int32)} {n : Nat} {cl : Int32} {P : Nat → PL} {ly : Nat → Int64} {sp st : Nat → Int32} {sk : Int32} {sd : Nat → Int32} {sm : Nat → Int64} {X M : Nat → rx_C} {w : Nat → Int64} {g : List rx_C} {th mc pk : Int32} {kd td : Nat → Int32} {fm pr : Nat → Int64} {sz : Nat → Int32} {ro : Nat → Int64} {tu pe tr : Nat → Int32} {as : Nat → Int64}
theorem f_isSet_yes (F : Nat × Nat) (hn : n ≤ 6) {s : Nat} (h : s < 2 ^ n) : f_X6_isSet F 0 (nI s) (hp sc (cx n cl P ly sp st sk sd sm) M w g) = some (1, hp sc (cx n cl P ly sp st sk sd sm) M w g) := by
  have := all_le hn
  unfold f_X6_isSet f_X6_isSet_0
  rw [if_neg (nI_pos (by omega)), gx_all, Option.bind_some, if_pos (nI_lt h (by omega))]
theorem f_isSet_no (F : Nat × Nat) (hn : n ≤ 6) {x : Int32} (h : ∀ s, s < 2 ^ n → ¬ x = nI s) : f_X6_isSet F 0 x (hp sc (cx n cl P ly sp st sk sd sm) M w g) = some (0, hp sc (cx n cl P ly sp st sk sd sm) M w g) := by
  have ha := all_le hn
  unfold f_X6_isSet f_X6_isSet_0
  by_cases q : x < 0
  · rw [if_pos q]
  · obtain ⟨j, hj, rfl⟩ := nI_of q
    rw [if_neg q, gx_all, Option.bind_some, if_neg (nI_nlt (Nat.not_lt.mp fun q2 => h j q2 rfl) hj)]
theorem f_mSet_yes (F : Nat × Nat) (hn : n ≤ 6) {s : Nat} (h : s < 2 ^ n) : f_X7_isSet F 40 (nI s) (hp sc X (cm n th mc pk kd td fm pr sz ro tu pe tr as) w g) = some (1, hp sc X (cm n th mc pk kd td fm pr sz ro tu pe tr as) w g) := by
  have ha := all_le hn
  unfold f_X7_isSet f_X7_isSet_0
  rw [gm_all, Option.bind_some, show (1 : Int32) = nI 1 from rfl, pk_sub (Nat.one_le_two_pow), f_isIn_eq, Option.bind_some, if_neg (nI_pos (by omega)), if_neg (nI_nlt (by omega) (by omega))]
  rfl
theorem f_mSet_no (F : Nat × Nat) (hn : n ≤ 6) {x : Int32} (h : ∀ s, s < 2 ^ n → ¬ x = nI s) : f_X7_isSet F 40 x (hp sc X (cm n th mc pk kd td fm pr sz ro tu pe tr as) w g) = some (0, hp sc X (cm n th mc pk kd td fm pr sz ro tu pe tr as) w g) := by
  have ha := all_le hn
  have hp1 : 1 ≤ 2 ^ n := Nat.one_le_two_pow
  unfold f_X7_isSet f_X7_isSet_0
  rw [gm_all, Option.bind_some, show (1 : Int32) = nI 1 from rfl, pk_sub (Nat.one_le_two_pow), f_isIn_eq, Option.bind_some]
  by_cases q : x < 0
  · rw [if_pos q]; rfl
  · obtain ⟨j, hj, rfl⟩ := nI_of q
    have hj2 : 2 ^ n ≤ j := Nat.not_lt.mp fun q2 => h j q2 rfl
    rw [if_neg q, if_pos (nI_lt (by omega) hj)]
    rfl
end B50
theorem st_has (F : Nat × Nat) {sc : Nat × (Nat → Int32)} {c : Nat} (x y : Int32) : stepI sc c (f_X6_has F 0 x y) (f_X7_has_ F 40 x y) := by
  refine stepI.mk fun n cl P ly sp st sk sd sm th mc pk kd td fm pr sz ro tu pe tr as w g hR => ?_
  have hn6 := hR.1.2
  have ha := all_le hn6
  rcases set_or n y with ⟨s, hs, rfl⟩ | hny
  · rcases place_or x with ⟨p, hp', rfl⟩ | hn
    · have hk := (hR.2.2.1 p hp').1
      by_cases h0 : refu (kd p) = 0
      · obtain ⟨j, hj, -, hse, -⟩ := fam_of (hR.2.2.1 p hp') h0
        refine ⟨if qb (fm p) s then 1 else 0, cl, P, sp, st, sk, sd, sm, th, mc, pk, kd, td, fm, pr, sz, ro, tu, pe, tr, as, ?_, ?_, hR⟩
        · unfold f_X6_has f_X6_has_0
          rw [ck_0, Option.bind_some, f_isSet_yes F hn6 hs, Option.bind_some, ck_0, Option.bind_some, f_famRef_eq F hp', Option.bind_some, hk, if_pos h0, gx_shelf, Option.bind_some, ax_shelf hp', Option.bind_some, gp_se hp', Option.bind_some, hse, f_holdsSet_eq F _ (by omega), Option.bind_some]
          cases qb (fm p) s <;> rfl
        · unfold f_X7_has_ f_X7_has__0
          rw [f_mPlace_yes F hp', Option.bind_some, if_neg (by decide), ck_40, Option.bind_some, f_mSet_yes F hn6 hs, Option.bind_some, if_neg ne10, ck_40, Option.bind_some, f_lacks_eq F hp', Option.bind_some, if_pos h0, gm_fm, Option.bind_some, am_fm hp', Option.bind_some, f_mhas_eq F _ (by omega), Option.bind_some]
          cases qb (fm p) s <;> rfl
      · refine ⟨refu (kd p), cl, P, sp, st, sk, sd, sm, th, mc, pk, kd, td, fm, pr, sz, ro, tu, pe, tr, as, ?_, ?_, hR⟩
        · unfold f_X6_has f_X6_has_0
          rw [ck_0, Option.bind_some, f_isSet_yes F hn6 hs, Option.bind_some, ck_0, Option.bind_some, f_famRef_eq F hp', Option.bind_some, hk, if_neg h0]
        · unfold f_X7_has_ f_X7_has__0
          rw [f_mPlace_yes F hp', Option.bind_some, if_neg (by decide), ck_40, Option.bind_some, f_mSet_yes F hn6 hs, Option.bind_some, if_neg ne10, ck_40, Option.bind_some, f_lacks_eq F hp', Option.bind_some, if_neg h0, ck_40, Option.bind_some, f_lacks_eq F hp', Option.bind_some]
    · refine ⟨-1, cl, P, sp, st, sk, sd, sm, th, mc, pk, kd, td, fm, pr, sz, ro, tu, pe, tr, as, ?_, ?_, hR⟩
      · unfold f_X6_has f_X6_has_0
        rw [ck_0, Option.bind_some, f_isSet_yes F hn6 hs, Option.bind_some, ck_0, Option.bind_some, f_famRef_out F hn, Option.bind_some, if_neg (show ¬ (-1 : Int32) = 0 by decide)]
      · unfold f_X7_has_ f_X7_has__0
        rw [f_mPlace_no F hn, Option.bind_some, if_pos rfl]
  · refine ⟨-1, cl, P, sp, st, sk, sd, sm, th, mc, pk, kd, td, fm, pr, sz, ro, tu, pe, tr, as, ?_, ?_, hR⟩
    · unfold f_X6_has f_X6_has_0
      rw [ck_0, Option.bind_some, f_isSet_no F hn6 hny, Option.bind_some, ck_0, Option.bind_some, f_famRef_no, Option.bind_some, if_neg (show ¬ (-1 : Int32) = 0 by decide)]
    · unfold f_X7_has_ f_X7_has__0
      rcases place_or x with ⟨p, hp', rfl⟩ | hn
      · rw [f_mPlace_yes F hp', Option.bind_some, if_neg (by decide), ck_40, Option.bind_some, f_mSet_no F hn6 hny, Option.bind_some, if_pos rfl]
      · rw [f_mPlace_no F hn, Option.bind_some, if_pos rfl]
