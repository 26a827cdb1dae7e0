section B60
variable {sc : Nat × (Nat → Int32)} {n : Nat} {cl : Int32} {P : Nat → PL} {ly : Nat → Int64} {sp st : Nat → Int32} {sk : Int32} {sd : Nat → Int32} {sm : Nat → Int64} {X M : Nat → rx_C} {w : Nat → Int64} {g : List rx_C} {th mc pk : Int32} {kd td : Nat → Int32} {fm pr : Nat → Int64} {sz : Nat → Int32} {ro : Nat → Int64} {tu pe tr : Nat → Int32} {as : Nat → Int64}
def shT (up : Bool) (t : Int32) : Int32 := if up then t + 1 else t - 1
theorem f_shadows_eq {F : Nat × Nat} (hF : 100000 ≤ F.1) (hn3 : 3 ≤ n) (hn6 : n ≤ 6) (up : Bool) {p q : Nat} (hp_ : p < 16) (hq_ : q < 16) (h0 : refu (kd p) = 0) {K : Int32} (hK : (K = 4 ∧ kd p = 4 ∧ ¬ shT up (td p) < 0 ∧ ¬ nI n < shT up (td p)) ∨ (K = 0 ∧ (kd p = 4 → shT up (td p) < 0 ∨ nI n < shT up (td p)))) : f_X7_shadows F 40 (nI p) (nI q) (upI up) (hp sc X (cm n th mc pk kd td fm pr sz ro tu pe tr as) w g) = some (nI (fb_ct (qb (shH n up (fm p))) 64), hp sc X (cm n th mc pk (upd kd q K) (upd td q (shT up (td p))) (vp_updL fm q (shH n up (fm p))) (vp_updL pr q 0) sz ro tu pe tr as) w g) := by
  have e97 : ∀ K T, f_X7_shadows_97 F 40 (nI p) (upI up) T 40 (nI q) K (hp sc X (cm n th mc pk kd td fm pr sz ro tu pe tr as) w g) = some (nI (fb_ct (qb (shH n up (fm p))) 64), hp sc X (cm n th mc pk (upd kd q K) (upd td q T) (vp_updL fm q (shH n up (fm p))) (vp_updL pr q 0) sz ro tu pe tr as) w g) := by
    intro K T
    unfold f_X7_shadows_97
    rw [gm_fm, Option.bind_some, am_fm hp_, Option.bind_some, ck_40, Option.bind_some, f_shadowOf_eq hF hn3 hn6, Option.bind_some, ck_40, Option.bind_some, f_holdsNow_eq (by omega) hq_, Option.bind_some]
  have e53 : ∀ T, T = shT up (td p) → f_X7_shadows_53 F 40 (nI p) (nI q) (upI up) T (hp sc X (cm n th mc pk kd td fm pr sz ro tu pe tr as) w g) = some (nI (fb_ct (qb (shH n up (fm p))) 64), hp sc X (cm n th mc pk (upd kd q K) (upd td q T) (vp_updL fm q (shH n up (fm p))) (vp_updL pr q 0) sz ro tu pe tr as) w g) := by
    intro T hT
    unfold f_X7_shadows_53 f_X7_shadows_83
    rw [gm_kd, Option.bind_some, am_kd hp_, Option.bind_some]
    rcases hK with ⟨rfl, h1, h2, h3⟩ | ⟨rfl, h1⟩
    · rw [if_pos h1, gm_n, Option.bind_some, f_isIn_eq, Option.bind_some, hT, if_neg h2, if_neg h3, if_neg ne10, if_neg ne10, e97]
    · by_cases e : kd p = 4
      · have e2 : (if T < 0 then (0 : Int32) else if nI n < T then 0 else 1) = 0 := by
          rw [hT]
          rcases h1 e with h | h
          · rw [if_pos h]
          · rw [if_pos h]
            by_cases h5 : shT up (td p) < 0
            · rw [if_pos h5]
            · rw [if_neg h5]
        rw [if_pos e, gm_n, Option.bind_some, f_isIn_eq, Option.bind_some, e2, if_pos rfl, if_pos rfl, e97]
      · rw [if_neg e, if_pos rfl, e97]
  unfold f_X7_shadows f_X7_shadows_0
  rw [f_mPlace_yes F hp_, Option.bind_some, if_neg (by decide), f_mPlace_yes F hq_, Option.bind_some, if_neg (by decide), ck_40, Option.bind_some, f_lacks_eq F hp_, Option.bind_some, if_pos h0]
  cases up
  · rw [if_pos (show upI false = 0 from rfl), gm_td, Option.bind_some, am_td hp_, Option.bind_some]
    exact e53 _ rfl
  · rw [if_neg (show ¬ upI true = 0 by decide), gm_td, Option.bind_some, am_td hp_, Option.bind_some]
    exact e53 _ rfl
theorem f_shadows_0 {F : Nat × Nat} (hF : 100000 ≤ F.1) (hn3 : 3 ≤ n) (hn6 : n ≤ 6) {p q : Nat} (hp_ : p < 16) (hq_ : q < 16) (h0 : refu (kd p) = 0) {K : Int32} (hK : (K = 4 ∧ kd p = 4 ∧ ¬ shT false (td p) < 0 ∧ ¬ nI n < shT false (td p)) ∨ (K = 0 ∧ (kd p = 4 → shT false (td p) < 0 ∨ nI n < shT false (td p)))) : f_X7_shadows F 40 (nI p) (nI q) 0 (hp sc X (cm n th mc pk kd td fm pr sz ro tu pe tr as) w g) = some (nI (fb_ct (qb (shH n false (fm p))) 64), hp sc X (cm n th mc pk (upd kd q K) (upd td q (shT false (td p))) (vp_updL fm q (shH n false (fm p))) (vp_updL pr q 0) sz ro tu pe tr as) w g) := f_shadows_eq hF hn3 hn6 false hp_ hq_ h0 hK
theorem f_shadows_1 {F : Nat × Nat} (hF : 100000 ≤ F.1) (hn3 : 3 ≤ n) (hn6 : n ≤ 6) {p q : Nat} (hp_ : p < 16) (hq_ : q < 16) (h0 : refu (kd p) = 0) {K : Int32} (hK : (K = 4 ∧ kd p = 4 ∧ ¬ shT true (td p) < 0 ∧ ¬ nI n < shT true (td p)) ∨ (K = 0 ∧ (kd p = 4 → shT true (td p) < 0 ∨ nI n < shT true (td p)))) : f_X7_shadows F 40 (nI p) (nI q) 1 (hp sc X (cm n th mc pk kd td fm pr sz ro tu pe tr as) w g) = some (nI (fb_ct (qb (shH n true (fm p))) 64), hp sc X (cm n th mc pk (upd kd q K) (upd td q (shT true (td p))) (vp_updL fm q (shH n true (fm p))) (vp_updL pr q 0) sz ro tu pe tr as) w g) := f_shadows_eq hF hn3 hn6 true hp_ hq_ h0 hK
theorem sh_lay (hn6 : n ≤ 6) (up : Bool) {a : Int64} {t : Nat} (h : ∀ x, qb a x = true → pc x = t) {y : Nat} (hy : qb (shH n up a) y = true) : if up then pc y = t + 1 else pc y = t - 1 := by
  have ha := all_le hn6
  obtain ⟨x, hx, q1, i, hi, q2, rfl⟩ := qb_sh hn6 up a hy
  have := pc_flip (x := x) (i := i) (by omega) (by omega)
  rw [h x q1] at this
  cases up
  · have e : x.testBit i = true := by cases q : x.testBit i; exact absurd q q2; rfl
    rw [e] at this
    simp only [if_true] at this
    simp only [Bool.false_eq_true, if_false]
    omega
  · have e : x.testBit i = false := by cases q : x.testBit i; rfl; exact absurd q q2
    rw [e] at this
    simpa using this
end B60
