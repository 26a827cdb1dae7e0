/-! ===== Flowers ===== -/
def updN (v : Nat → Nat) (k x : Nat) : Nat → Nat := fun j => if j = k then x else v j
theorem updN_s {v : Nat → Nat} {k x : Nat} : updN v k x k = x := if_pos rfl
theorem updN_n {v : Nat → Nat} {k x j : Nat} (h : j ≠ k) : updN v k x j = v j := if_neg h
def coreO (v : Nat → Nat) (at_ x : Nat) : Nat := if 1 < at_ then v 0 &&& v 1 else if at_ = 1 then v 0 &&& x else 0
def okP (a : Int64) (v : Nat → Nat) (at_ x : Nat) : Bool := qb a x && alw (fun k => decide (v k &&& x = coreO v at_ x)) 0 at_
def fb (a : Int64) (p : Nat) : Nat → Nat → (Nat → Nat) → Nat → Option (Nat → Nat)
  | 0, at_, v, _ => if at_ = p then some v else none
  | k + 1, at_, v, i => if at_ = p then some v else if okP a v at_ i = true then (match fb a p k (at_ + 1) (updN v at_ i) (i + 1) with | some v' => some v' | none => fb a p k at_ v (i + 1)) else fb a p k at_ v (i + 1)
theorem fb_end (a : Int64) {p : Nat} (k : Nat) (v : Nat → Nat) (i : Nat) : fb a p k p v i = some v := by
  cases k
  · show (if p = p then _ else _) = _; rw [if_pos rfl]
  · show (if p = p then _ else _) = _; rw [if_pos rfl]
theorem fb_no {a : Int64} {p at_ : Nat} (hp : ¬ at_ = p) (k : Nat) {v : Nat → Nat} {i : Nat} (h : okP a v at_ i = false) : fb a p (k + 1) at_ v i = fb a p k at_ v (i + 1) := by
  show (if at_ = p then _ else if okP a v at_ i = true then _ else _) = _
  rw [if_neg hp, if_neg (by rw [h]; decide)]
theorem fb_none {a : Int64} {p at_ : Nat} (hp : ¬ at_ = p) (k : Nat) {v : Nat → Nat} {i : Nat} (h : okP a v at_ i = true) (h2 : fb a p k (at_ + 1) (updN v at_ i) (i + 1) = none) : fb a p (k + 1) at_ v i = fb a p k at_ v (i + 1) := by
  show (if at_ = p then _ else if okP a v at_ i = true then (match fb a p k (at_ + 1) (updN v at_ i) (i + 1) with | some v' => some v' | none => fb a p k at_ v (i + 1)) else _) = _
  rw [if_neg hp, if_pos h, h2]
theorem fb_some {a : Int64} {p at_ : Nat} (hp : ¬ at_ = p) (k : Nat) {v v' : Nat → Nat} {i : Nat} (h : okP a v at_ i = true) (h2 : fb a p k (at_ + 1) (updN v at_ i) (i + 1) = some v') : fb a p (k + 1) at_ v i = some v' := by
  show (if at_ = p then _ else if okP a v at_ i = true then (match fb a p k (at_ + 1) (updN v at_ i) (i + 1) with | some v' => some v' | none => fb a p k at_ v (i + 1)) else _) = _
  rw [if_neg hp, if_pos h, h2]
theorem okP_qb {a : Int64} {v : Nat → Nat} {at_ x : Nat} (h : qb a x = false) : okP a v at_ x = false := by unfold okP; rw [h]; rfl
theorem fb_fit {a : Int64} {m : Nat} (hfi : fits m a) {p : Nat} : ∀ (k e at_ : Nat) (v : Nat → Nat) (i : Nat), i + k = m → fb a p (k + e) at_ v i = fb a p k at_ v i
  | 0, e, at_, v, i, hi => by
    by_cases hp : at_ = p
    · subst hp; rw [fb_end, fb_end]
    · have key : ∀ e i, m ≤ i → fb a p e at_ v i = none := by
        intro e
        induction e with
        | zero => intro i _; show (if at_ = p then _ else _) = _; rw [if_neg hp]
        | succ e ih => intro i hi; rw [fb_no hp e (okP_qb (hfi i hi))]; exact ih (i + 1) (by omega)
      rw [Nat.zero_add, key e i (by omega), key 0 i (by omega)]
  | k + 1, e, at_, v, i, hi => by
    by_cases hp : at_ = p
    · subst hp; rw [fb_end, fb_end]
    · rw [show k + 1 + e = (k + e) + 1 by omega]
      have r1 := fb_fit hfi k e (p := p) at_ v (i + 1) (by omega)
      have r2 := fb_fit hfi k e (p := p) (at_ + 1) (updN v at_ i) (i + 1) (by omega)
      cases q : okP a v at_ i
      · rw [fb_no hp _ q, fb_no hp _ q, r1]
      · cases q2 : fb a p k (at_ + 1) (updN v at_ i) (i + 1) with
        | none => rw [fb_none hp _ q (r2.trans q2), fb_none hp _ q q2, r1]
        | some v' => rw [fb_some hp _ q (r2.trans q2), fb_some hp _ q q2]
def un (v : Nat → Nat) : Nat → Nat
  | 0 => 0
  | k + 1 => un v k ||| v k
theorem un_lt {v : Nat → Nat} : ∀ {k : Nat}, (∀ j, j < k → v j < 64) → un v k < 64
  | 0, _ => by show 0 < 64; decide
  | k + 1, h => by
    have a := un_lt (k := k) (fun j hj => h j (by omega))
    exact Nat.or_lt_two_pow (n := 6) a (h k (by omega))
theorem un_bit (v : Nat → Nat) (j : Nat) : ∀ k, (un v k).testBit j = true ↔ ∃ i, i < k ∧ (v i).testBit j = true
  | 0 => by
    constructor
    · intro h; rw [show un v 0 = 0 from rfl, Nat.zero_testBit] at h; cases h
    · rintro ⟨i, hi, _⟩; omega
  | k + 1 => by
    show (un v k ||| v k).testBit j = true ↔ _
    rw [Nat.testBit_or, Bool.or_eq_true, un_bit v j k]
    constructor
    · rintro (⟨i, hi, q⟩ | q)
      · exact ⟨i, by omega, q⟩
      · exact ⟨k, by omega, q⟩
    · rintro ⟨i, hi, q⟩
      by_cases e : i = k
      · subst e; exact Or.inr q
      · exact Or.inl ⟨i, by omega, q⟩
theorem un_upd (v : Nat → Nat) (k x : Nat) : un (updN v k x) (k + 1) = un v k ||| x := by
  have h : ∀ m, m ≤ k → un (updN v k x) m = un v m := by
    intro m
    induction m with
    | zero => intro _; rfl
    | succ m ih => intro hm; show un (updN v k x) m ||| updN v k x m = un v m ||| v m; rw [ih (by omega), updN_n (by omega)]
  show un (updN v k x) k ||| updN v k x k = _
  rw [h k (Nat.le_refl _), updN_s]
theorem sub_bit {c x j : Nat} (h : c &&& x = c) (q : c.testBit j = true) : x.testBit j = true := by
  rw [← h, Nat.testBit_and, Bool.and_eq_true] at q; exact q.2
theorem all_un {v : Nat → Nat} {c x at_ : Nat} (h1 : 1 ≤ at_) (hc : ∀ k, k < at_ → c &&& v k = c) : (∀ k, k < at_ → v k &&& x = c) ↔ x &&& un v at_ = c := by
  constructor
  · intro h
    refine Nat.eq_of_testBit_eq fun j => bool_ext ?_
    rw [Nat.testBit_and, Bool.and_eq_true, un_bit]
    constructor
    · rintro ⟨q1, i, hi, q2⟩
      rw [← h i hi, Nat.testBit_and, q1, q2]; rfl
    · intro q
      have := h 0 (by omega)
      rw [← this, Nat.testBit_and, Bool.and_eq_true] at q
      exact ⟨q.2, 0, by omega, q.1⟩
  · intro h k hk
    refine Nat.eq_of_testBit_eq fun j => bool_ext ?_
    have hj : (x &&& un v at_).testBit j = c.testBit j := by rw [h]
    rw [Nat.testBit_and] at hj
    rw [Nat.testBit_and, Bool.and_eq_true]
    constructor
    · rintro ⟨q1, q2⟩
      rw [← hj, q2, (un_bit v j at_).mpr ⟨k, hk, q1⟩]; rfl
    · intro q
      rw [q] at hj
      rw [Bool.and_eq_true] at hj
      exact ⟨sub_bit (hc k hk) q, hj.1⟩
theorem okP_2 {a : Int64} {v : Nat → Nat} {at_ x : Nat} (h2 : 2 ≤ at_) (hc : ∀ k, k < at_ → (v 0 &&& v 1) &&& v k = v 0 &&& v 1) : okP a v at_ x = (qb a x && decide (x &&& un v at_ = v 0 &&& v 1)) := by
  unfold okP
  have e : coreO v at_ x = v 0 &&& v 1 := by unfold coreO; rw [if_pos (by omega)]
  rw [e]
  congr 1
  refine bool_ext ?_
  rw [alw_iff, decide_eq_true_iff, ← all_un (by omega) hc]
  constructor
  · intro h k hk; exact of_decide_eq_true (h k (Nat.zero_le _) (by omega))
  · intro h k _ hk; exact decide_eq_true (h k (by omega))
theorem fl_1 : ∀ c, c < 64 → ∀ w, w < 64 → ¬ c &&& w = 0 ∨ c + w = c ||| w := by decide +kernel
theorem fl_2 : ∀ x, x < 64 → ∀ u, u < 64 → (x - (x &&& u)) &&& u = 0 := by decide +kernel
theorem fl_3 : ∀ u, u < 64 → ∀ x, x < 64 → x &&& u = x ∨ pc u < pc (u ||| x) := by decide +kernel
theorem fl_4 {c u x : Nat} (hu : u < 64) (hx : x < 64) (hcu : c &&& u = c) : (c ≤ x ∧ (x - c) &&& (63 - u) = x - c) ↔ x &&& u = c := by
  have hc := sub_bits hcu
  have co := fun y (hy : y < 64) => co_fin 6 (by decide) u hu y hy
  constructor
  · rintro ⟨h1, h2⟩
    have h3 := (co (x - c) (show x - c < 2 ^ 6 by omega)).mp h2
    have h4 : c &&& (x - c) = 0 := by
      have e : c &&& (x - c) = (c &&& u) &&& (x - c) := by rw [hcu]
      rw [e, Nat.and_assoc, Nat.and_comm u, h3, Nat.and_zero]
    have h5 := (fl_1 c (by omega) (x - c) (by omega)).resolve_left (fun q => q h4)
    rw [show x = c + (x - c) by omega, h5, Nat.and_or_distrib_right, hcu, h3, Nat.or_zero]
  · intro h
    have h1 : c ≤ x := by rw [← h]; exact Nat.and_le_left
    refine ⟨h1, (co (x - c) (show x - c < 2 ^ 6 by omega)).mpr ?_⟩
    have := fl_2 x hx u hu
    rw [h] at this; exact this
theorem f_fitting_eq {F : Nat × Nat} (hF : 100000 ≤ F.1) (s : Int64) {ab c u : Nat} (hab : ab < 64) (hu : u < 64) (hcu : c &&& u = c) : ∃ r, f_X5_fitting F s (nI ab) (nI c) (nI u) = some r ∧ ∀ x, x < 64 → qb r x = (qb s x && (decide (ab < x) && decide (x &&& u = c))) := by
  have hc := sub_bits hcu
  obtain ⟨b1, b2⟩ := f_bel F (s := ab + 1) (by omega)
  refine ⟨(s &&& (bel (ab + 1) ^^^ (-1))) &&& (wIn (63 - u) <<< ((nI c).toInt64 &&& 63)), ?_, fun x hx => ?_⟩
  · unfold f_X5_fitting f_X5_fitting_0
    rw [nI_1, b1, Option.bind_some, show (63 : Int32) = nI 63 from rfl, pk_sub (by omega), f_within_eq (by omega) (by omega), Option.bind_some]
  · rw [qb_and, qb_and, qb_not _ hx, b2 x hx, qb_shl _ (by omega) hx]
    have e1 : (!decide (x < ab + 1)) = decide (ab < x) := by
      by_cases q : ab < x
      · rw [decide_eq_true q, decide_eq_false (by omega)]; rfl
      · rw [decide_eq_false q, decide_eq_true (by omega)]; rfl
    have e2 : (decide (c ≤ x) && qb (wIn (63 - u)) (x - c)) = decide (x &&& u = c) := by
      rw [qb_wIn (by omega) (by omega)]
      refine bool_ext ?_
      rw [Bool.and_eq_true, decide_eq_true_iff, decide_eq_true_iff, decide_eq_true_iff]
      exact fl_4 hu hx hcu
    rw [e1, e2, Bool.and_assoc]
theorem fb_cut {a : Int64} {p c : Nat} : ∀ (k at_ : Nat) (v v' : Nat → Nat) (i : Nat), i + k ≤ 64 → 2 ≤ at_ → at_ ≤ p → c = v 0 &&& v 1 → c < i → (∀ j, j < at_ → v j < 64) → (∀ j, j < at_ → c &&& v j = c) → fb a p k at_ v i = some v' → pc (un v at_) + (p - at_) ≤ 6
  | 0, at_, v, v', i, _, h2, hp, _, _, _, _, h => by
    have h' : (if at_ = p then some v else none) = some v' := h
    by_cases e : at_ = p
    · have := pc_le (un v at_); omega
    · rw [if_neg e] at h'; cases h'
  | k + 1, at_, v, v', i, hk, h2, hp, hc, hci, hv, hcv, h => by
    by_cases e : at_ = p
    · have := pc_le (un v at_); omega
    · have r1 := fb_cut (a := a) (p := p) (c := c) k at_ v v' (i + 1) (by omega) h2 hp hc (by omega) hv hcv
      cases q : okP a v at_ i
      · rw [fb_no e k q] at h; exact r1 h
      · cases q2 : fb a p k (at_ + 1) (updN v at_ i) (i + 1) with
        | none => rw [fb_none e k q q2] at h; exact r1 h
        | some w =>
          have q' := q
          rw [okP_2 h2 (by rw [← hc]; exact hcv), Bool.and_eq_true, decide_eq_true_iff, ← hc] at q'
          have ci : c &&& i = c := by rw [← q'.2, Nat.and_comm (i &&& un v at_), ← Nat.and_assoc, Nat.and_self]
          have r2 := fb_cut (a := a) (p := p) (c := c) k (at_ + 1) (updN v at_ i) w (i + 1) (by omega) (by omega) (by omega) (by rw [updN_n (by omega), updN_n (by omega)]; exact hc) (by omega) (fun j hj => by
            by_cases e2 : j = at_
            · subst e2; rw [updN_s]; omega
            · rw [updN_n e2]; exact hv j (by omega)) (fun j hj => by
            by_cases e2 : j = at_
            · subst e2; rw [updN_s]; exact ci
            · rw [updN_n e2]; exact hcv j (by omega)) q2
          rw [un_upd] at r2
          have := (fl_3 (un v at_) (un_lt hv) i (by omega)).resolve_left (fun e2 => by
            rw [e2] at q'
            have := q'.2
            omega)
          omega
section B89
variable {sc : Nat × (Nat → Int32)} {n : Nat} {cl : Int32} {P : Nat → PL} {ly : Nat → Int64} {sp st : Nat → Int32} {sk : Int32} {sd : Nat → Int32} {sm : Nat → Int64} {X M : Nat → rx_C} {w : Nat → Int64} {g : List rx_C} {th mc pk : Int32} {kd td : Nat → Int32} {fm pr : Nat → Int64} {sz : Nat → Int32} {ro : Nat → Int64} {tu pe tr : Nat → Int32} {as : Nat → Int64}
theorem f_opens_all {F : Nat × Nat} (hF : 100000 ≤ F.1) (a : Int64) {p c : Nat} (hp5 : p ≤ 5) : ∀ (d : Nat) (s : Int64) (at_ : Nat) (v : Nat → Nat) (ab : Nat) (st : Nat → Int32), p - at_ < d → 2 ≤ at_ → at_ ≤ p → ab < 64 → c ≤ ab → c = v 0 &&& v 1 → (∀ j, j < at_ → v j < 64) → (∀ j, j < at_ → c &&& v j = c) → (∀ x, ab < x → x < 64 → x &&& un v at_ = c → qb s x = qb a x) → (∀ k, k < at_ → st k = nI (v k)) → ∃ st' : Nat → Int32, f_X5_opens F d 35 s (nI ab) (nI at_) (nI p) (nI c) (nI (un v at_)) (hp sc (cx n cl P ly (sp) (st) (sk) sd sm) M w g) = some (if (fb a p (63 - ab) at_ v (ab + 1)).isSome then 1 else 0, (hp sc (cx n cl P ly (sp) (st') (sk) sd sm) M w g)) ∧ (∀ k, k < at_ → st' k = st k) ∧ ∀ v', fb a p (63 - ab) at_ v (ab + 1) = some v' → ∀ k, k < p → st' k = nI (v' k) := by
  intro d
  induction d with
  | zero => intro s at_ v ab st h; omega
  | succ d ihd =>
    intro s at_ v ab st hd h2 hatp hab hcab hc hv hcv hs hst
    rw [f_X5_opens, f_X5_opens_0]
    by_cases e : at_ = p
    · subst e
      rw [fb_end, if_neg (nI_nlt (Nat.le_refl _) (by omega))]
      exact ⟨st, rfl, fun _ _ => rfl, fun v' h k hk => by cases h; exact hst k hk⟩
    · have hu := un_lt hv
      have hpc := pc_le (un v at_)
      rw [if_pos (nI_lt (by omega) (by omega)), if_pos (show nI at_ < 5 from nI_lt (b := 5) (by omega) (by decide)), f_bits_eq F hu, Option.bind_some, show (6 : Int32) = nI 6 from rfl, pk_sub hpc, pk_sub (by omega)]
      by_cases cut : 6 - pc (un v at_) < p - at_
      · have hnone : fb a p (63 - ab) at_ v (ab + 1) = none := by
          cases q : fb a p (63 - ab) at_ v (ab + 1) with
          | none => rfl
          | some w =>
            have := fb_cut (c := c) _ _ _ _ _ (by omega) h2 hatp hc (by omega) hv hcv q
            omega
        rw [if_pos (nI_lt cut (by omega)), hnone]
        exact ⟨st, rfl, fun _ _ => rfl, fun v' h => by cases h⟩
      · have hcu : c &&& un v at_ = c := by
          refine Nat.eq_of_testBit_eq fun j => ?_
          rw [Nat.testBit_and]
          cases q : c.testBit j
          · rfl
          · rw [(un_bit v j at_).mpr ⟨0, by omega, sub_bit (hcv 0 (by omega)) q⟩]; rfl
        obtain ⟨r, r1, r2⟩ := f_fitting_eq hF s hab hu hcu
        rw [if_neg (nI_nlt (by omega) (by omega)), r1, Option.bind_some, show (0 : Int32) = nI 0 from rfl, f_next_eq F _ (by omega), Option.bind_some]
        have hr : ∀ x, ab < x → x < 64 → qb r x = okP a v at_ x := fun x hx hx64 => by
          rw [okP_2 h2 (by rw [← hc]; exact hcv), ← hc, r2 x hx64, decide_eq_true hx, Bool.true_and]
          by_cases q : x &&& un v at_ = c
          · rw [decide_eq_true q, hs x hx hx64 q]
          · rw [decide_eq_false q]; simp
        have loop : ∀ k i f (st : Nat → Int32), i + k = 64 → ab < i → k < f → (∀ k, k < at_ → st k = nI (v k)) → ∃ st' : Nat → Int32, f_X5_opens_52 F (f_X5_opens F d) f 35 (nI at_) (nI p) (nI c) (nI (un v at_)) r (nI (qn r i)) (hp sc (cx n cl P ly (sp) (st) (sk) sd sm) M w g) = some (if (fb a p k at_ v i).isSome then 1 else 0, (hp sc (cx n cl P ly (sp) (st') (sk) sd sm) M w g)) ∧ (∀ k, k < at_ → st' k = st k) ∧ ∀ v', fb a p k at_ v i = some v' → ∀ k, k < p → st' k = nI (v' k) := by
          intro k
          induction k with
          | zero =>
            intro i f st hi hab hf hst
            obtain ⟨f, rfl⟩ : ∃ g, f = g + 1 := ⟨f - 1, by omega⟩
            have hn : fb a p 0 at_ v i = none := by show (if at_ = p then _ else _) = _; rw [if_neg e]
            rw [qn_big r (by omega), f_X5_opens_52, if_neg (by decide), hn]
            exact ⟨st, rfl, fun _ _ => rfl, fun v' h => by cases h⟩
          | succ k ih =>
            intro i f st hi hai hf hst
            obtain ⟨f, rfl⟩ : ∃ g, f = g + 1 := ⟨f - 1, by omega⟩
            cases q : qb r i
            · have q' := q
              rw [hr i hai (by omega)] at q'
              rw [qn_no q, fb_no e k q']
              exact ih (i + 1) (f + 1) st (by omega) (by omega) (by omega) hst
            · have q' := q
              rw [hr i hai (by omega)] at q'
              have q3 := q'
              rw [okP_2 h2 (by rw [← hc]; exact hcv), Bool.and_eq_true, decide_eq_true_iff, ← hc] at q3
              have ci : c &&& i = c := by rw [← q3.2, Nat.and_comm (i &&& un v at_), ← Nat.and_assoc, Nat.and_self]
              obtain ⟨st1, s1, s2, s3⟩ := ihd r (at_ + 1) (updN v at_ i) i (upd st at_ (nI i)) (by omega) (by omega) (by omega) (by omega) (by omega) (by rw [updN_n (by omega), updN_n (by omega)]; exact hc) (fun j hj => by
                by_cases e2 : j = at_
                · subst e2; rw [updN_s]; omega
                · rw [updN_n e2]; exact hv j (by omega)) (fun j hj => by
                by_cases e2 : j = at_
                · subst e2; rw [updN_s]; exact ci
                · rw [updN_n e2]; exact hcv j (by omega)) (fun x hx hx64 hxu => by
                rw [un_upd] at hxu
                have hxu' : x &&& un v at_ = c := by
                  refine Nat.eq_of_testBit_eq fun j => bool_ext ?_
                  have hj : (x &&& (un v at_ ||| i)).testBit j = c.testBit j := by rw [hxu]
                  rw [Nat.testBit_and, Nat.testBit_or] at hj
                  rw [Nat.testBit_and, Bool.and_eq_true]
                  constructor
                  · rintro ⟨a1, a2⟩; rw [← hj, a1, a2]; rfl
                  · intro a1
                    rw [a1, Bool.and_eq_true] at hj
                    exact ⟨hj.1, sub_bit hcu a1⟩
                rw [hr x (by omega) hx64, okP_2 h2 (by rw [← hc]; exact hcv), ← hc, decide_eq_true hxu', Bool.and_true]) (fun j hj => by
                by_cases e2 : j = at_
                · subst e2; rw [updN_s, pk_us]
                · rw [updN_n e2, pk_un e2]; exact hst j (by omega))
              rw [un_upd] at s1
              rw [qn_yes q, f_X5_opens_52, if_pos (show nI i < 64 from nI_lt (b := 64) (by omega) (by decide)), gx_st, Option.bind_some, sx_st (by omega), Option.bind_some, ck_35, Option.bind_some, nI_or (by omega) (by omega), nI_1 at_, s1, Option.bind_some]
              rw [show 63 - i = k by omega] at s1 s3 ⊢
              cases q2 : fb a p k (at_ + 1) (updN v at_ i) (i + 1) with
              | none =>
                rw [fb_none e k q' q2]
                obtain ⟨st2, t1, t2, t3⟩ := ih (i + 1) f st1 (by omega) (by omega) (by omega) (fun j hj => by rw [s2 j (by omega), pk_un (by omega)]; exact hst j hj)
                refine ⟨st2, ?_, fun j hj => ?_, t3⟩
                · rw [if_pos (by rfl), nI_1 i, f_next_eq F _ (by omega), Option.bind_some]; exact t1
                · rw [t2 j hj, s2 j (by omega), pk_un (by omega)]
              | some w =>
                rw [fb_some e k q' q2]
                refine ⟨st1, ?_, fun j hj => ?_, fun v' h => ?_⟩
                · exact if_neg (show ¬ (1 : Int32) = 0 from ne10)
                · rw [s2 j (by omega), pk_un (by omega)]
                · cases h; exact s3 _ q2
        have h0 : qn r 0 = qn r (ab + 1) := by
          refine qn_uniq (Nat.zero_le _) (qn_le r _) (fun j _ hj => ?_) (fun h => qn_is r h)
          by_cases q : ab < j
          · exact qn_not r (by omega) hj
          · have hle := qn_le r (ab + 1)
            by_cases h64 : j < 64
            · rw [r2 j h64, decide_eq_false q]; simp
            · exact qb_big (by omega)
        rw [h0]
        exact loop (63 - ab) (ab + 1) F.1 st (by omega) (by omega) (by omega) hst
/-! the model's way -/
theorem f_bl73 {F : Nat × Nat} (hF : 100000 ≤ F.1) (self : Nat → Int64 → Int32 → Int32 → Int32 → Option rx_H → Option (Int32 × Option rx_H)) (k12 : Nat → Int64 → Int32 → Int32 → Int32 → Option rx_H → Option (Int32 × Option rx_H)) (a : Int64) {at_ p x c : Nat} {v : Nat → Nat} (hat : at_ ≤ 5) (hx : x < 64) (hc : c < 64) (hv : ∀ j, j < at_ → v j < 64) (htr : ∀ k, k < at_ → tr k = nI (v k)) (b : Bool) : f_X7_blooms_73 F self k12 F.1 40 a (nI at_) (nI p) (nI x) (if b then 1 else 0) (nI c) 0 (hp sc X (cm n th mc pk kd td fm pr sz ro tu pe tr as) w g) = f_X7_blooms_112 F self k12 40 a (nI at_) (nI p) (nI x) (if b && alw (fun k => decide (v k &&& x = c)) 0 at_ then 1 else 0) (hp sc X (cm n th mc pk kd td fm pr sz ro tu pe tr as) w g) := by
  have key : ∀ k i f (b : Bool), i + k = at_ → k < f → f_X7_blooms_73 F self k12 f 40 a (nI at_) (nI p) (nI x) (if b then 1 else 0) (nI c) (nI i) (hp sc X (cm n th mc pk kd td fm pr sz ro tu pe tr as) w g) = f_X7_blooms_112 F self k12 40 a (nI at_) (nI p) (nI x) (if b && alw (fun k => decide (v k &&& x = c)) i k then 1 else 0) (hp sc X (cm n th mc pk kd td fm pr sz ro tu pe tr as) w g) := by
    intro k
    induction k with
    | zero =>
      intro i f b hi hf
      obtain ⟨f, rfl⟩ : ∃ g, f = g + 1 := ⟨f - 1, by omega⟩
      obtain rfl : i = at_ := by omega
      rw [f_X7_blooms_73, if_neg (nI_nlt (Nat.le_refl _) (by omega))]
      show _ = f_X7_blooms_112 F self k12 40 a (nI i) (nI p) (nI x) (if (b && true) = true then 1 else 0) (hp sc X (cm n th mc pk kd td fm pr sz ro tu pe tr as) w g)
      rw [Bool.and_true]
    | succ k ih =>
      intro i f b hi hf
      obtain ⟨f, rfl⟩ : ∃ g, f = g + 1 := ⟨f - 1, by omega⟩
      rw [f_X7_blooms_73, if_pos (nI_lt (by omega) (by omega))]
      cases b
      · rw [if_pos (by rfl)]; rfl
      · rw [if_neg (by decide), gm_tr, Option.bind_some, am_tr (by omega), Option.bind_some, htr i (by omega), nI_and (hv i (by omega)) hx, nI_1]
        show _ = f_X7_blooms_112 F self k12 40 a (nI at_) (nI p) (nI x) (if (true && (decide (v i &&& x = c) && alw (fun k => decide (v k &&& x = c)) (i + 1) k)) = true then 1 else 0) (hp sc X (cm n th mc pk kd td fm pr sz ro tu pe tr as) w g)
        have hand : v i &&& x < 64 := and_r hx
        by_cases q : v i &&& x = c
        · rw [if_pos (by rw [q]), decide_eq_true q]
          exact ih (i + 1) f true (by omega) (by omega)
        · rw [if_neg (fun h => q ((nI_eq (by omega) (by omega)).mp h)), decide_eq_false q]
          exact ih (i + 1) f false (by omega) (by omega)
  exact key at_ 0 F.1 b (by omega) (by omega)
theorem f_blooms_all {F : Nat × Nat} (hF : 100000 ≤ F.1) (hn6 : n ≤ 6) (a : Int64) {p : Nat} (hp5 : p ≤ 5) : ∀ (d at_ : Nat) (v : Nat → Nat) (i : Nat) (tr : Nat → Int32), p - at_ < d → at_ ≤ p → i ≤ 2 ^ n → (∀ j, j < at_ → v j < 64) → (∀ k, k < at_ → tr k = nI (v k)) → ∃ tr' : Nat → Int32, f_X7_blooms F d 40 a (nI at_) (nI i) (nI p) (hp sc X (cm n th mc (pk) kd td fm pr sz ro tu (pe) (tr) as) w g) = some (if (fb a p (2 ^ n - i) at_ v i).isSome then 1 else 0, (hp sc X (cm n th mc (pk) kd td fm pr sz ro tu (pe) (tr') as) w g)) ∧ (∀ k, k < at_ → tr' k = tr k) ∧ ∀ v', fb a p (2 ^ n - i) at_ v i = some v' → ∀ k, k < p → tr' k = nI (v' k) := by
  have ha := all_le hn6
  intro d
  induction d with
  | zero => intro at_ v i tr h; omega
  | succ d ihd =>
    intro at_ v i tr hd hatp hin hv htr
    rw [f_X7_blooms, f_X7_blooms_0]
    by_cases e : at_ = p
    · subst e
      rw [fb_end, if_pos rfl]
      exact ⟨tr, rfl, fun _ _ => rfl, fun v' h k hk => by cases h; exact htr k hk⟩
    · rw [if_neg (fun h => e ((nI_eq (by omega) (by omega)).mp h))]
      have loop : ∀ k i f (tr : Nat → Int32), i + k = 2 ^ n → k < f → (∀ k, k < at_ → tr k = nI (v k)) → ∃ tr' : Nat → Int32, f_X7_blooms_12 F (f_X7_blooms F d) f 40 a (nI at_) (nI p) (nI i) (hp sc X (cm n th mc (pk) kd td fm pr sz ro tu (pe) (tr) as) w g) = some (if (fb a p k at_ v i).isSome then 1 else 0, (hp sc X (cm n th mc (pk) kd td fm pr sz ro tu (pe) (tr') as) w g)) ∧ (∀ k, k < at_ → tr' k = tr k) ∧ ∀ v', fb a p k at_ v i = some v' → ∀ k, k < p → tr' k = nI (v' k) := by
        intro k
        induction k with
        | zero =>
          intro i f tr hi hf htr
          obtain ⟨f, rfl⟩ : ∃ g, f = g + 1 := ⟨f - 1, by omega⟩
          have hn : fb a p 0 at_ v i = none := by show (if at_ = p then _ else _) = _; rw [if_neg e]
          rw [f_X7_blooms_12, gm_all, Option.bind_some, if_neg (nI_nlt (by omega) (by omega)), hn]
          exact ⟨tr, rfl, fun _ _ => rfl, fun v' h => by cases h⟩
        | succ k ih =>
          intro i f tr hi hf htr
          obtain ⟨f, rfl⟩ : ∃ g, f = g + 1 := ⟨f - 1, by omega⟩
          have hi64 : i < 64 := by omega
          have to112 : f_X7_blooms_12 F (f_X7_blooms F d) (f + 1) 40 a (nI at_) (nI p) (nI i) (hp sc X (cm n th mc (pk) kd td fm pr sz ro tu (pe) (tr) as) w g) = f_X7_blooms_112 F (f_X7_blooms F d) (f_X7_blooms_12 F (f_X7_blooms F d) f) 40 a (nI at_) (nI p) (nI i) (if okP a v at_ i then 1 else 0) (hp sc X (cm n th mc (pk) kd td fm pr sz ro tu (pe) (tr) as) w g) := by
            have b73 := fun c hc => f_bl73 (sc := sc) (n := n) (X := X) (w := w) (g := g) (th := th) (mc := mc) (pk := pk) (kd := kd) (td := td) (fm := fm) (pr := pr) (sz := sz) (ro := ro) (tu := tu) (pe := pe) (tr := tr) (as := as) hF (f_X7_blooms F d) (f_X7_blooms_12 F (f_X7_blooms F d) f) a (at_ := at_) (p := p) (x := i) (c := c) (v := v) (by omega) hi64 hc hv htr (qb a i)
            rw [f_X7_blooms_12, gm_all, Option.bind_some, if_pos (nI_lt (by omega) (by omega)), f_mhas_eq F _ hi64, Option.bind_some]
            unfold okP coreO
            by_cases h1 : 1 < at_
            · rw [if_pos (show (1 : Int32) < nI at_ from nI_lt (a := 1) h1 (by omega)), gm_tr, Option.bind_some, show (0 : Int32) = nI 0 from rfl, am_tr (by omega), Option.bind_some, Option.bind_some, show (1 : Int32) = nI 1 from rfl, am_tr (by omega), Option.bind_some, htr 0 (by omega), htr 1 (by omega), nI_and (hv 0 (by omega)) (hv 1 (by omega))]
              have := b73 (v 0 &&& v 1) (and_l (hv 0 (by omega)))
              simp only [if_pos h1]
              exact this
            · rw [if_neg (show ¬ (1 : Int32) < nI at_ from nI_nlt (b := at_) (a := 1) (by omega) (by decide))]
              by_cases h2 : at_ = 1
              · subst h2
                rw [if_pos (by rfl), gm_tr, Option.bind_some, show (0 : Int32) = nI 0 from rfl, am_tr (by omega), Option.bind_some, htr 0 (by omega), nI_and (hv 0 (by omega)) hi64]
                exact b73 (v 0 &&& i) (and_r hi64)
              · have h0 : at_ = 0 := by omega
                subst h0
                rw [if_neg (by decide)]
                exact b73 0 (by decide)
          rw [to112]
          cases q : okP a v at_ i
          · rw [fb_no e k q, if_neg (by decide), f_X7_blooms_112, if_pos rfl, nI_1]
            exact ih (i + 1) f tr (by omega) (by omega) htr
          · obtain ⟨tr1, s1, s2, s3⟩ := ihd (at_ + 1) (updN v at_ i) (i + 1) (upd tr at_ (nI i)) (by omega) (by omega) (by omega) (fun j hj => by
              by_cases e2 : j = at_
              · subst e2; rw [updN_s]; omega
              · rw [updN_n e2]; exact hv j (by omega)) (fun j hj => by
              by_cases e2 : j = at_
              · subst e2; rw [updN_s, pk_us]
              · rw [updN_n e2, pk_un e2]; exact htr j (by omega))
            rw [if_pos rfl, f_X7_blooms_112, if_neg ne10, gm_tr, Option.bind_some, sm_tr (by omega), Option.bind_some, ck_40, Option.bind_some, nI_1 at_, nI_1 i, s1, Option.bind_some]
            rw [show 2 ^ n - (i + 1) = k by omega] at s3 ⊢
            cases q2 : fb a p k (at_ + 1) (updN v at_ i) (i + 1) with
            | none =>
              rw [fb_none e k q q2]
              obtain ⟨tr2, t1, t2, t3⟩ := ih (i + 1) f tr1 (by omega) (by omega) (fun j hj => by rw [s2 j (by omega), pk_un (by omega)]; exact htr j hj)
              refine ⟨tr2, ?_, fun j hj => ?_, t3⟩
              · rw [if_pos (by rfl)]; exact t1
              · rw [t2 j hj, s2 j (by omega), pk_un (by omega)]
            | some w =>
              rw [fb_some e k q q2]
              refine ⟨tr1, ?_, fun j hj => ?_, fun v' h => ?_⟩
              · exact if_neg (show ¬ (1 : Int32) = 0 from ne10)
              · rw [s2 j (by omega), pk_un (by omega)]
              · cases h; exact s3 _ q2
      exact loop (2 ^ n - i) i F.1 tr (by omega) (by omega) htr
/-! the petals kept -/
def cpN (f t : Nat → Int32) : Nat → Nat → Int32
  | 0 => f
  | k + 1 => upd (cpN f t k) k (t k)
theorem cpN_is (f t : Nat → Int32) {j : Nat} : ∀ {k : Nat}, j < k → cpN f t k j = t j
  | 0, h => by omega
  | k + 1, h => by
    show upd (cpN f t k) k (t k) j = t j
    by_cases e : j = k
    · subst e; exact pk_us
    · rw [pk_un e]; exact cpN_is f t (by omega)
theorem f_keepP {F : Nat × Nat} (hF : 100000 ≤ F.1) {p : Nat} (h2 : 2 ≤ p) (hp5 : p ≤ 5) : f_X5_keepPetals F 35 (nI p) (hp sc (cx n cl P ly sp st sk sd sm) M w g) = some (hp sc (cx n cl P ly (cpN sp st p) (st) (nI p) sd sm) M w g) := by
  have e : f_J9_min_7cf53 F (nI p) 5 = some (nI p) := by
    have h : ∀ p, p < 6 → f_J9_min_7cf53 (0, 0) (nI p) 5 = some (nI p) := by decide +kernel
    exact h p (by omega)
  have key : ∀ k i f, i + k = p → k < f → f_X5_keepPetals_11 F f 35 (nI i) (hp sc (cx n cl P ly (cpN sp st i) (st) (nI p) sd sm) M w g) = some (hp sc (cx n cl P ly (cpN sp st p) (st) (nI p) sd sm) M w g) := by
    intro k
    induction k with
    | zero =>
      intro i f hi hf
      obtain ⟨f, rfl⟩ : ∃ g, f = g + 1 := ⟨f - 1, by omega⟩
      obtain rfl : i = p := by omega
      rw [f_X5_keepPetals_11, gx_sk, Option.bind_some, if_neg (nI_nlt (Nat.le_refl _) (by omega))]
    | succ k ih =>
      intro i f hi hf
      obtain ⟨f, rfl⟩ : ∃ g, f = g + 1 := ⟨f - 1, by omega⟩
      rw [f_X5_keepPetals_11, gx_sk, Option.bind_some, if_pos (nI_lt (by omega) (by omega)), gx_sp, Option.bind_some, gx_st, Option.bind_some, ax_st (by omega), Option.bind_some, sx_sp (by omega), Option.bind_some, nI_1]
      exact ih (i + 1) f (by omega) (by omega)
  unfold f_X5_keepPetals f_X5_keepPetals_0
  rw [e, Option.bind_some, px_sk, Option.bind_some]
  exact key p 0 F.1 (by omega) (by omega)
theorem f_mkeep {F : Nat × Nat} (hF : 100000 ≤ F.1) {p : Nat} (h2 : 2 ≤ p) (hp5 : p ≤ 5) : f_X7_flower_58 F F.1 40 (nI p) 0 (hp sc X (cm n th mc pk kd td fm pr sz ro tu pe tr as) w g) = some (tr 0 &&& tr 1, (hp sc X (cm n th mc (pk) kd td fm pr sz ro tu (cpN pe tr p) (tr) as) w g)) := by
  have key : ∀ k i f, i + k = p → k < f → f_X7_flower_58 F f 40 (nI p) (nI i) (hp sc X (cm n th mc (pk) kd td fm pr sz ro tu (cpN pe tr i) (tr) as) w g) = some (tr 0 &&& tr 1, (hp sc X (cm n th mc (pk) kd td fm pr sz ro tu (cpN pe tr p) (tr) as) w g)) := by
    intro k
    induction k with
    | zero =>
      intro i f hi hf
      obtain ⟨f, rfl⟩ : ∃ g, f = g + 1 := ⟨f - 1, by omega⟩
      obtain rfl : i = p := by omega
      rw [f_X7_flower_58, if_neg (nI_nlt (Nat.le_refl _) (by omega)), gm_pe, Option.bind_some, show (0 : Int32) = nI 0 from rfl, am_pe (by omega), Option.bind_some, Option.bind_some, show (1 : Int32) = nI 1 from rfl, am_pe (by omega), Option.bind_some, cpN_is _ _ (by omega), cpN_is _ _ (by omega)]
    | succ k ih =>
      intro i f hi hf
      obtain ⟨f, rfl⟩ : ∃ g, f = g + 1 := ⟨f - 1, by omega⟩
      rw [f_X7_flower_58, if_pos (nI_lt (by omega) (by omega)), gm_pe, Option.bind_some, gm_tr, Option.bind_some, am_tr (by omega), Option.bind_some, sm_pe (by omega), Option.bind_some, nI_1]
      exact ih (i + 1) f (by omega) (by omega)
  exact key p 0 F.1 (by omega) (by omega)
end B89
