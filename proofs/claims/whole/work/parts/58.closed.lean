section B58
variable {sc : Nat × (Nat → Int32)} {n : Nat} {cl : Int32} {P : Nat → PL} {ly : Nat → Int64} {sp st : Nat → Int32} {sk : Int32} {sd : Nat → Int32} {sm : Nat → Int64} {X M : Nat → rx_C} {w : Nat → Int64} {g : List rx_C} {th mc pk : Int32} {kd td : Nat → Int32} {fm pr : Nat → Int64} {sz : Nat → Int32} {ro : Nat → Int64} {tu pe tr : Nat → Int32} {as : Nat → Int64}
/-! closed -/
def cB (b : Int32) (x y : Nat) : Bool := if b = 0 then decide (y &&& x = y) else decide (x &&& y = x)
def clH (n : Nat) (b : Int32) (a : Int64) : Int64 := oR (fun x => if qb a x then oR (fun y => if cB b x y then one y else 0) (2 ^ n) else 0) (2 ^ n)
theorem f_closed_in {F : Nat × Nat} (hn6 : n ≤ 6) {p q : Nat} (hp_ : p < 16) (b : Int32) {x : Nat} (hx : x < 2 ^ n) (hq : qb (fm p) x = true) (acc : Int64) (k36 : Nat → Int32 → Int32 → Int32 → Int64 → Int32 → Option rx_H → Option (Int32 × Option rx_H)) {f0 : Nat} (hf0 : 2 ^ n < f0) : f_X7_closed_48 F k36 f0 40 (nI p) b (nI q) acc (nI x) 0 (hp sc X (cm n th mc pk kd td fm pr sz ro tu pe tr as) w g) = k36 40 (nI p) b (nI q) (acc ||| oR (fun y => if cB b x y then one y else 0) (2 ^ n)) (nI (x + 1)) (hp sc X (cm n th mc pk kd td fm pr sz ro tu pe tr as) w g) := by
  have ha := all_le hn6
  have key : ∀ k  i f, i + k = 2 ^ n → k < f → f_X7_closed_48 F k36 f 40 (nI p) b (nI q) (acc ||| oR (fun y => if cB b x y then one y else 0) i) (nI x) (nI i) (hp sc X (cm n th mc pk kd td fm pr sz ro tu pe tr as) w g) = k36 40 (nI p) b (nI q) (acc ||| oR (fun y => if cB b x y then one y else 0) (2 ^ n)) (nI (x + 1)) (hp sc X (cm n th mc pk kd td fm pr sz ro tu pe tr as) w g) := by
    intro k
    induction k with
    | zero =>
      intro  i f  hi hf
      obtain ⟨f, rfl⟩ : ∃ g, f = g + 1 := ⟨f - 1, by omega⟩
      obtain rfl : i = 2 ^ n := by omega
      rw [f_X7_closed_48, gm_all, Option.bind_some, if_neg (nI_nlt (Nat.le_refl _) (by omega)), nI_1]
    | succ k ih =>
      intro  i f  hi hf
      obtain ⟨f, rfl⟩ : ∃ g, f = g + 1 := ⟨f - 1, by omega⟩
      have hiM : i < 2 ^ n := by omega
      rw [f_X7_closed_48, gm_all, Option.bind_some, if_pos (nI_lt hiM (by omega)), gm_fm, Option.bind_some, am_fm hp_, Option.bind_some, f_mhas_eq F _ (by omega), Option.bind_some, hq, bt, if_neg ne10]
      by_cases hb : b = 0
      · rw [if_pos hb, f_isWithin_eq F (by omega) (by omega), Option.bind_some]
        by_cases hw : i &&& x = i
        · rw [if_pos hw, if_neg ne10, nI_1, oR_t (i := i) acc (by simp only [cB, hb, hw, if_true, decide_true]), ih (i + 1) f (by omega) (by omega)]
        · rw [if_neg hw, if_pos rfl, nI_1, oR_f (i := i) acc (by simp only [cB, hb, hw, if_true, decide_false]; rfl), ih (i + 1) f (by omega) (by omega)]
      · rw [if_neg hb, f_isWithin_eq F (by omega) (by omega), Option.bind_some]
        by_cases hw : x &&& i = x
        · rw [if_pos hw, if_neg ne10, nI_1, oR_t (i := i) acc (by simp only [cB, hb, hw, if_false, decide_true, if_true]), ih (i + 1) f (by omega) (by omega)]
        · rw [if_neg hw, if_pos rfl, nI_1, oR_f (i := i) acc (by simp only [cB, hb, hw, if_false, decide_false]; rfl), ih (i + 1) f (by omega) (by omega)]
  have h0 := key (2 ^ n) 0 f0 (by omega) hf0
  rw [show oR (fun y => if cB b x y then one y else 0) 0 = 0 from rfl, or_0] at h0
  exact h0
theorem f_closed_loop {F : Nat × Nat} (hF : 100000 ≤ F.1) (hn6 : n ≤ 6) {p q : Nat} (hp_ : p < 16) (b : Int32) : f_X7_closed_36 F F.1 40 (nI p) b (nI q) 0 0 (hp sc X (cm n th mc pk kd td fm pr sz ro tu pe tr as) w g) = if b = 0 then f_X7_closed_130 F (clH n b (fm p)) 40 (nI q) 3 (hp sc X (cm n th mc pk kd td fm pr sz ro tu pe tr as) w g) else f_X7_closed_130 F (clH n b (fm p)) 40 (nI q) 0 (hp sc X (cm n th mc pk kd td fm pr sz ro tu pe tr as) w g) := by
  have ha := all_le hn6
  have hpos : 0 < 2 ^ n := Nat.two_pow_pos n
  have key : ∀ k  i f, i + k = 2 ^ n → k < f → f_X7_closed_36 F f 40 (nI p) b (nI q) (oR (fun x => if qb (fm p) x then oR (fun y => if cB b x y then one y else 0) (2 ^ n) else 0) i) (nI i) (hp sc X (cm n th mc pk kd td fm pr sz ro tu pe tr as) w g) = if b = 0 then f_X7_closed_130 F (clH n b (fm p)) 40 (nI q) 3 (hp sc X (cm n th mc pk kd td fm pr sz ro tu pe tr as) w g) else f_X7_closed_130 F (clH n b (fm p)) 40 (nI q) 0 (hp sc X (cm n th mc pk kd td fm pr sz ro tu pe tr as) w g) := by
    intro k
    induction k with
    | zero =>
      intro  i f  hi hf
      obtain ⟨f, rfl⟩ : ∃ g, f = g + 1 := ⟨f - 1, by omega⟩
      obtain rfl : i = 2 ^ n := by omega
      rw [f_X7_closed_36, gm_all, Option.bind_some, if_neg (nI_nlt (Nat.le_refl _) (by omega))]
      rfl
    | succ k ih =>
      intro  i f  hi hf
      obtain ⟨f, rfl⟩ : ∃ g, f = g + 1 := ⟨f - 1, by omega⟩
      have hiM : i < 2 ^ n := by omega
      rw [f_X7_closed_36, gm_all, Option.bind_some, if_pos (nI_lt hiM (by omega))]
      cases q : qb (fm p) i
      · obtain ⟨m, hm⟩ : ∃ m, F.1 = m + 1 := ⟨F.1 - 1, by omega⟩
        rw [hm, f_X7_closed_48, gm_all, Option.bind_some, if_pos (show (0 : Int32) < nI (2 ^ n) from nI_lt hpos (by omega)), gm_fm, Option.bind_some, am_fm hp_, Option.bind_some, f_mhas_eq F _ (by omega), Option.bind_some, q, bf, if_pos rfl, nI_1, oR_f0 (i := i) (by simp only [q]; rfl), ih (i + 1) f (by omega) (by omega)]
      · rw [f_closed_in hn6 hp_ b hiM q _ _ (by omega), oR_t0 (i := i) (by simp only [q]; rfl), ih (i + 1) f (by omega) (by omega)]
  exact key (2 ^ n) 0 F.1 (by omega) (by omega)
theorem below_eq {F : Nat × Nat} (hF : 100000 ≤ F.1) {a : Int64} (hn6 : n ≤ 6) (hfi : fits (2 ^ n) a) : f_X0_allBelow F a = some (clH n 0 a) := by
  have ha := all_le hn6
  rw [f_allBelow_eq (by omega) a, uh_eq uh_allBelow ha hfi]
  exact congrArg some (oR_cong fun x hx => by rw [s_below hn6 hx]; rfl)
theorem above_eq {F : Nat × Nat} (hF : 100000 ≤ F.1) {a : Int64} (hn6 : n ≤ 6) (hfi : fits (2 ^ n) a) {b : Int32} (hb : ¬ b = 0) : f_X0_allAbove F a (nI n) = some (clH n b a) := by
  have ha := all_le hn6
  rw [f_allAbove_eq (by omega) a hn6, uh_eq (uh_allAbove hn6) ha hfi]
  exact congrArg some (oR_cong fun x hx => by rw [s_above hn6 hx]; simp only [cB, hb, if_false])
theorem fits_cl (hn6 : n ≤ 6) (b : Int32) (a : Int64) : fits (2 ^ n) (clH n b a) :=
  fits_oR fun x hx => fits_if fun _ => fits_oR fun y hy => fits_if fun _ => fits_one hy (all_le hn6)
theorem kinv_cl (hn6 : n ≤ 6) (a : Int64) : kinv 3 0 (clH n 0 a) 0 := by
  have ha := all_le hn6
  refine kinv_down 0 0 fun x y hx hyx => ?_
  obtain ⟨z, hz, q1, q2⟩ := (qb_oRi _ _ _ _).mp hx
  rw [qb_oRc _ ha, Bool.and_eq_true, decide_eq_true_iff] at q2
  refine (qb_oRi _ _ _ _).mpr ⟨z, hz, q1, ?_⟩
  rw [qb_oRc _ ha, Bool.and_eq_true, decide_eq_true_iff]
  have h2 : x &&& z = x := of_decide_eq_true q2.2
  refine ⟨Nat.lt_of_le_of_lt (sub_bits hyx) q2.1, decide_eq_true (wi_trans hyx h2)⟩
/-! shadow, up -/
def shH (n : Nat) (up : Bool) (a : Int64) : Int64 := oR (fun x => if qb a x then oR (fun i => if x.testBit i != up then one (x ^^^ 2 ^ i) else 0) n else 0) (2 ^ n)
def upI (up : Bool) : Int32 := if up then 1 else 0
theorem f_shadow_in {F : Nat × Nat} (hn6 : n ≤ 6) (up : Bool) {x : Nat} (hx : x < 2 ^ n) {a : Int64} (hq : qb a x = true) (acc : Int64) (k6 : Nat → Int64 → Int32 → Int64 → Int32 → Option rx_H → Option (Int64 × Option rx_H)) {f0 : Nat} (hf0 : n < f0) : f_X7_shadowOf_18 F k6 f0 40 a (upI up) acc (nI x) 0 (hp sc X (cm n th mc pk kd td fm pr sz ro tu pe tr as) w g) = k6 40 a (upI up) (acc ||| oR (fun i => if x.testBit i != up then one (x ^^^ 2 ^ i) else 0) n) (nI (x + 1)) (hp sc X (cm n th mc pk kd td fm pr sz ro tu pe tr as) w g) := by
  have ha := all_le hn6
  have key : ∀ k  i f, i + k = n → k < f → f_X7_shadowOf_18 F k6 f 40 a (upI up) (acc ||| oR (fun i => if x.testBit i != up then one (x ^^^ 2 ^ i) else 0) i) (nI x) (nI i) (hp sc X (cm n th mc pk kd td fm pr sz ro tu pe tr as) w g) = k6 40 a (upI up) (acc ||| oR (fun i => if x.testBit i != up then one (x ^^^ 2 ^ i) else 0) n) (nI (x + 1)) (hp sc X (cm n th mc pk kd td fm pr sz ro tu pe tr as) w g) := by
    intro k
    induction k with
    | zero =>
      intro  i f  hi hf
      obtain ⟨f, rfl⟩ : ∃ g, f = g + 1 := ⟨f - 1, by omega⟩
      obtain rfl : i = n := by omega
      rw [f_X7_shadowOf_18, gm_n, Option.bind_some, if_neg (nI_nlt (Nat.le_refl _) (by omega)), nI_1]
    | succ k ih =>
      intro  i f  hi hf
      obtain ⟨f, rfl⟩ : ∃ g, f = g + 1 := ⟨f - 1, by omega⟩
      have hiM : i < n := by omega
      rw [f_X7_shadowOf_18, gm_n, Option.bind_some, if_pos (nI_lt hiM (by omega)), f_mhas_eq F _ (by omega), Option.bind_some, hq, bt, if_neg ne10, bitI (by omega) (by omega)]
      have h2 : 2 ^ i < 64 := p2_lt (by omega)
      unfold f_X7_shadowOf_52 upI
      rw [sh_eq (by omega), nI_xor (by omega) h2, nI_1]
      cases hb : x.testBit i <;> cases up
      · rw [bf, if_neg n01, if_pos rfl, oR_f (i := i) acc (by simp only [hb]; rfl)]
        exact ih (i + 1) f (by omega) (by omega)
      · rw [bf, bt, if_neg n01, if_neg n01, oR_t (i := i) acc (by simp only [hb]; rfl)]
        exact ih (i + 1) f (by omega) (by omega)
      · rw [bt, bf, if_pos rfl, if_neg ne10, oR_t (i := i) acc (by simp only [hb]; rfl)]
        exact ih (i + 1) f (by omega) (by omega)
      · rw [bt, if_pos rfl, if_pos rfl, oR_f (i := i) acc (by simp only [hb]; rfl)]
        exact ih (i + 1) f (by omega) (by omega)
  have h0 := key n 0 f0 (by omega) hf0
  rw [show oR (fun i => if x.testBit i != up then one (x ^^^ 2 ^ i) else 0) 0 = 0 from rfl, or_0] at h0
  exact h0
theorem f_shadowOf_eq {F : Nat × Nat} (hF : 100000 ≤ F.1) (hn3 : 3 ≤ n) (hn6 : n ≤ 6) (up : Bool) (a : Int64) : f_X7_shadowOf F 40 a (upI up) (hp sc X (cm n th mc pk kd td fm pr sz ro tu pe tr as) w g) = some (shH n up a, (hp sc X (cm n th mc pk kd td fm pr sz ro tu pe tr as) w g)) := by
  have ha := all_le hn6
  have key : ∀ k  i f, i + k = 2 ^ n → k < f → f_X7_shadowOf_6 F f 40 a (upI up) (oR (fun x => if qb a x then oR (fun i => if x.testBit i != up then one (x ^^^ 2 ^ i) else 0) n else 0) i) (nI i) (hp sc X (cm n th mc pk kd td fm pr sz ro tu pe tr as) w g) = some (shH n up a, (hp sc X (cm n th mc pk kd td fm pr sz ro tu pe tr as) w g)) := by
    intro k
    induction k with
    | zero =>
      intro  i f  hi hf
      obtain ⟨f, rfl⟩ : ∃ g, f = g + 1 := ⟨f - 1, by omega⟩
      obtain rfl : i = 2 ^ n := by omega
      rw [f_X7_shadowOf_6, gm_all, Option.bind_some, if_neg (nI_nlt (Nat.le_refl _) (by omega))]
      rfl
    | succ k ih =>
      intro  i f  hi hf
      obtain ⟨f, rfl⟩ : ∃ g, f = g + 1 := ⟨f - 1, by omega⟩
      have hiM : i < 2 ^ n := by omega
      rw [f_X7_shadowOf_6, gm_all, Option.bind_some, if_pos (nI_lt hiM (by omega))]
      cases q : qb a i
      · obtain ⟨m, hm⟩ : ∃ m, F.1 = m + 1 := ⟨F.1 - 1, by omega⟩
        rw [hm, f_X7_shadowOf_18, gm_n, Option.bind_some, if_pos (show (0 : Int32) < nI n from nI_lt (a := 0) (by omega) (by omega)), f_mhas_eq F _ (by omega), Option.bind_some, q, bf, if_pos rfl, nI_1, oR_f0 (i := i) (by simp only [q]; rfl), ih (i + 1) f (by omega) (by omega)]
      · rw [f_shadow_in hn6 up hiM q _ _ (by omega), oR_t0 (i := i) (by simp only [q]; rfl), ih (i + 1) f (by omega) (by omega)]
  exact key (2 ^ n) 0 F.1 (by omega) (by omega)
theorem less_eq {F : Nat × Nat} (hF : 100000 ≤ F.1) {a : Int64} (hn6 : n ≤ 6) (hfi : fits (2 ^ n) a) : f_X0_oneLess F a = some (shH n false a) := by
  have ha := all_le hn6
  rw [f_oneLess_eq (by omega) a, uh_eq uh_oneLess ha hfi]
  exact congrArg some (oR_cong fun x hx => by rw [s_less hn6 hx])
theorem more_eq {F : Nat × Nat} (hF : 100000 ≤ F.1) {a : Int64} (hn6 : n ≤ 6) (hfi : fits (2 ^ n) a) : f_X0_oneMore F a (nI n) = some (shH n true a) := by
  have ha := all_le hn6
  rw [f_oneMore_eq (by omega) a hn6, uh_eq (uh_oneMore hn6) ha hfi]
  exact congrArg some (oR_cong fun x hx => by rw [s_more hn6 hx])
theorem x_pow {n x i : Nat} (hx : x < 2 ^ n) (hi : i < n) : x ^^^ 2 ^ i < 2 ^ n := xor_l hx (Nat.pow_lt_pow_right (by decide) hi)
theorem fits_sh (hn6 : n ≤ 6) (up : Bool) (a : Int64) : fits (2 ^ n) (shH n up a) :=
  fits_oR fun x hx => fits_if fun _ => fits_oR fun y hy => fits_if fun _ => fits_one (x_pow hx hy) (all_le hn6)
theorem qb_sh (hn6 : n ≤ 6) (up : Bool) (a : Int64) {y : Nat} (h : qb (shH n up a) y = true) : ∃ x, x < 2 ^ n ∧ qb a x = true ∧ ∃ i, i < n ∧ x.testBit i ≠ up ∧ y = x ^^^ 2 ^ i := by
  have ha := all_le hn6
  obtain ⟨x, hx, q1, q2⟩ := (qb_oRi _ _ _ _).mp h
  obtain ⟨i, hi, q3⟩ := (qb_oR _ _ _).mp q2
  rw [qb_if, Bool.and_eq_true, qb_one (Nat.lt_of_lt_of_le (x_pow hx hi) ha), decide_eq_true_iff] at q3
  exact ⟨x, hx, q1, i, hi, by simpa using q3.1, q3.2⟩
theorem pc_flip {x i : Nat} (hx : x < 64) (hi : i < 6) : if x.testBit i then pc (x ^^^ 2 ^ i) + 1 = pc x else pc (x ^^^ 2 ^ i) = pc x + 1 := by
  have h : ∀ x, x < 64 → ∀ i, i < 6 → (if x.testBit i then pc (x ^^^ 2 ^ i) + 1 = pc x else pc (x ^^^ 2 ^ i) = pc x + 1) := by decide +kernel
  exact h x hx i hi
theorem f_kB_yes (F : Nat × Nat) {p q t : Nat} (hn6 : n ≤ 6) (hp_ : p < 16) (hq_ : q < 16) {d : Int32} (x : Int64) (h4 : (P p).1 = 4) (ht : (P p).2.1 + d = nI t) (htn : t ≤ n) : f_X6_keepBeside F 0 (nI p) d x (nI q) (hp sc (cx n cl P ly sp st sk sd sm) M w g) = some (nI (fb_ct (qb x) 64), hp sc (cx n cl (updP P q (4, nI t, x, 0, (P q).2.2.2.2)) ly sp st sk sd sm) M w g) := by
  unfold f_X6_keepBeside f_X6_keepBeside_0 f_X6_keepBeside_40 f_X6_keepBeside_55 f_X6_keepBeside_66
  rw [gx_shelf, Option.bind_some, ax_shelf hp_, Option.bind_some, gp_le hp_, Option.bind_some, Option.bind_some, ax_shelf hp_, Option.bind_some, gp_ho hp_, Option.bind_some, if_pos h4, ck_0, Option.bind_some, ht, f_isSize_eq, Option.bind_some, if_neg (nI_pos (by omega)), if_neg (nI_nlt htn (by omega)), if_neg ne10, if_neg ne10, if_neg ne10, ck_0, Option.bind_some, f_keep_eq F hq_, Option.bind_some]
theorem f_kB_no (F : Nat × Nat) {p q : Nat} (hp_ : p < 16) (hq_ : q < 16) {d : Int32} (x : Int64) (h4 : (P p).1 = 4 → (P p).2.1 + d < 0 ∨ nI n < (P p).2.1 + d) : f_X6_keepBeside F 0 (nI p) d x (nI q) (hp sc (cx n cl P ly sp st sk sd sm) M w g) = some (nI (fb_ct (qb x) 64), hp sc (cx n cl (updP P q (0, 0, x, 0, (P q).2.2.2.2)) ly sp st sk sd sm) M w g) := by
  unfold f_X6_keepBeside f_X6_keepBeside_0 f_X6_keepBeside_40 f_X6_keepBeside_55 f_X6_keepBeside_66
  rw [gx_shelf, Option.bind_some, ax_shelf hp_, Option.bind_some, gp_le hp_, Option.bind_some, Option.bind_some, ax_shelf hp_, Option.bind_some, gp_ho hp_, Option.bind_some]
  by_cases e : (P p).1 = 4
  · have e2 : f_X6_isSize F 0 ((P p).2.1 + d) (hp sc (cx n cl P ly sp st sk sd sm) M w g) = some (0, (hp sc (cx n cl P ly sp st sk sd sm) M w g)) := by
      rw [f_isSize_eq]
      rcases h4 e with h | h
      · rw [if_pos h]
      · rw [if_pos h]
        by_cases h5 : (P p).2.1 + d < 0
        · rw [if_pos h5]
        · rw [if_neg h5]
    rw [if_pos e, ck_0, Option.bind_some, e2, Option.bind_some, if_pos rfl, if_pos rfl, if_pos rfl, ck_0, Option.bind_some, f_keep_eq F hq_, Option.bind_some]
  · rw [if_neg e, if_pos rfl, if_pos rfl, ck_0, Option.bind_some, f_keep_eq F hq_, Option.bind_some]
theorem kd_4 {j : Nat} (hj : j < 6) : (nI j = 4) ↔ j = 4 := by
  have h : ∀ j, j < 6 → ((nI j = 4) ↔ j = 4) := by decide +kernel
  exact h j hj
end B58
