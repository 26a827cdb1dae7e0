/-! ===== The small machine's runs are the machine's ===== -/
def rx_wd (w : Nat) (c : Cond) : Bool := decide (lw_tbl[w]? = some c) && goodWord c
theorem rx_wd_in {w : Nat} {c : Cond} (h : rx_wd w c = true) : c ∈ rx_TB := by
  unfold rx_wd at h
  simp only [Bool.and_eq_true, decide_eq_true_eq] at h
  exact rx_in h.1 h.2
theorem rx_k_ai : Cond.arrayClass .int ∈ rx_TB := rx_in (i := 134) (by decide +kernel) (by decide +kernel)
theorem rx_k_aj : Cond.arrayClass .long ∈ rx_TB := rx_in (i := 105) (by decide +kernel) (by decide +kernel)
theorem rx_k_oi : Cond.instanceMethod Lib.objectInit ∈ rx_TB := rx_in (i := 64) (by decide +kernel) (by decide +kernel)
theorem rx_k_oc : Cond.code Lib.objectInit ⟨#[0xb1]⟩ 1 none ∈ rx_TB := rx_in (i := 65) (by decide +kernel) (by decide +kernel)
theorem rx_k_cn : Cond.native arraycopyName ∈ rx_TB := rx_in (i := 623) (by decide +kernel) (by decide +kernel)
theorem rx_k_cs : Cond.static arraycopyName ∈ rx_TB := rx_in (i := 622) (by decide +kernel) (by decide +kernel)
theorem rx_k_ci : Cond.initialized "java/lang/System" ∈ rx_TB := rx_in (i := 57) (by decide +kernel) (by decide +kernel)
theorem rx_k_i0 : Cond.instantiable "SetHouse$Place" 6 ∈ rx_TB ∧ Cond.initialized "SetHouse$Place" ∈ rx_TB := ⟨rx_in (i := 71) (by decide +kernel) (by decide +kernel), rx_in (i := 43) (by decide +kernel) (by decide +kernel)⟩
theorem rx_k_i1 : Cond.instantiable "SetHouse$Seeker" 5 ∈ rx_TB ∧ Cond.initialized "SetHouse$Seeker" ∈ rx_TB := ⟨rx_in (i := 113) (by decide +kernel) (by decide +kernel), rx_in (i := 45) (by decide +kernel) (by decide +kernel)⟩
theorem rx_k_i2 : Cond.instantiable "SetHouse" 6 ∈ rx_TB ∧ Cond.initialized "SetHouse" ∈ rx_TB := ⟨rx_in (i := 59) (by decide +kernel) (by decide +kernel), rx_in (i := 41) (by decide +kernel) (by decide +kernel)⟩
theorem rx_k_i3 : Cond.instantiable "SetHouseModel" 15 ∈ rx_TB ∧ Cond.initialized "SetHouseModel" ∈ rx_TB := ⟨rx_in (i := 748) (by decide +kernel) (by decide +kernel), rx_in (i := 46) (by decide +kernel) (by decide +kernel)⟩
theorem rx_k_i {a : Nat} {q : vw_C} (h : rx_cl[a]? = some q) : Cond.instantiable q.1 q.2.2 ∈ rx_TB ∧ Cond.initialized q.1 ∈ rx_TB := by
  match a, h with
  | 0, h => cases h; exact rx_k_i0
  | 1, h => cases h; exact rx_k_i1
  | 2, h => cases h; exact rx_k_i2
  | 3, h => cases h; exact rx_k_i3
  | n + 4, h => simp [rx_cl] at h
def rx_isR : FieldType → Bool
  | .object _ => true
  | .array _ => true
  | _ => false
/-- a row of a method's table is right -/
def rx_eok (own : String) (cc : ByteArray) (nL : Nat) (ini bo : Bool) (e : rx_E) : Bool := match e with
  | (pc, ins, len, a, b, w, vi, vl, sw) => decide (decode cc pc = .ok (ins, len)) && (match ins with
    | .iconst n => decide (len = 1) && decide (Int32.ofInt n = vi)
    | .bipush n => decide (len = 2) && decide ((Int8.ofInt n).toInt32 = vi)
    | .sipush n => decide (len = 3) && decide ((Int16.ofInt n).toInt32 = vi)
    | .ldc i => decide (len = 2) && rx_wd w (.constant own i vi)
    | .ldc_w i => decide (len = 3) && rx_wd w (.constant own i vi)
    | .lconst n => decide (len = 1) && decide (Int64.ofNat n.val = vl)
    | .ldc2_w i => decide (len = 3) && rx_wd w (.constantLong own i vl)
    | .iload _ => decide (len = 2)
    | .lload _ => decide (len = 2)
    | .aload _ => decide (len = 2)
    | .istore i => decide (len = 2) && decide (i < nL)
    | .lstore i => decide (len = 2) && decide (i + 1 < nL)
    | .astore i => decide (len = 2) && decide (i < nL)
    | .istore_n i => decide (len = 1) && decide (i.val < nL)
    | .lstore_n i => decide (len = 1) && decide (i.val + 1 < nL)
    | .astore_n i => decide (len = 1) && decide (i.val < nL)
    | .iinc i n => decide (len = 3) && (decide (i < nL) && decide (Int32.ofInt n = vi))
    | .goto off => decide (len = 3) && decide ((pc : Int) + off = (a : Int))
    | .ifCond _ off => decide (len = 3) && decide ((pc : Int) + off = (a : Int))
    | .if_icmp _ off => decide (len = 3) && decide ((pc : Int) + off = (a : Int))
    | .tableswitch d lo hi offs => decide ((pc : Int) + d = (a : Int)) && (decide (sw.length = (hi - lo + 1).toNat) && sw.zipIdx.all (fun q => decide (q.1.1.toInt = lo + (q.2 : Int)) && (match offs[q.2]? with
      | some o => decide ((pc : Int) + o = (q.1.2 : Int))
      | none => false)))
    | .getfield i => decide (len = 3) && (match rx_cl[a]? with
      | some q => decide (b / 4 < q.2.2) && rx_wd w (.fieldLink own i (q.2.1 (b / 4)).1 (q.2.1 (b / 4)).2.1 (q.2.1 (b / 4)).2.2.1)
      | none => false)
    | .putfield i => decide (len = 3) && (match rx_cl[a]? with
      | some q => decide (b / 4 < q.2.2) && (rx_wd w (.fieldLink own i (q.2.1 (b / 4)).1 (q.2.1 (b / 4)).2.1 (q.2.1 (b / 4)).2.2.1) && ((decide ((q.2.1 (b / 4)).2.2.2 = false) || (ini && decide ((q.2.1 (b / 4)).1 = own))) &&
        (match b % 4 with
          | 0 => decide (rx_ty a (b / 4) = .int)
          | 1 => decide (rx_ty a (b / 4) = .long)
          | _ => rx_isR (rx_ty a (b / 4)))))
      | none => false)
    | .getstatic i => decide (len = 3) && ((decide (a = 1000001) && rx_wd w (.fieldLink own i "SetHouse$Heap" "WITHOUT" "[J")) || (decide (a = 1000002) && rx_wd w (.fieldLink own i "SetHouse$Numbers" "FACTORIALS" "[I")))
    | .newarray _ => decide (len = 2)
    | .anewarray i => decide (len = 3) && rx_wd w (.classLink own i "SetHouse$Place")
    | .new i => decide (len = 3) && (match rx_cl[a]? with
      | some q => rx_wd w (.classLink own i q.1)
      | none => false)
    | .invokestatic i => decide (len = 3) && (match b with
      | 1000 => rx_wd w (.methodLink own i arraycopyName)
      | _ => rx_wd w (.methodLink own i (rx_ny a)) && decide (rx_kd a = 0))
    | .invokevirtual i => decide (len = 3) && (rx_wd w (.methodLink own i (rx_ny a)) && (decide (rx_kd a = 1) && (match rx_cl[b / 100]? with
      | some q => decide ((rx_ny a).cls = q.1)
      | none => false)))
    | .invokespecial i => decide (len = 3) && (match b with
      | 1000 => rx_wd w (.methodLink own i Lib.objectInit)
      | _ => decide (rx_kd a = 2) && (rx_wd w (.methodLink own i (rx_ny a)) || (decide (own = "SetHouse") && ((decide (i = 28) && decide (rx_ny a = rx_yP)) || (decide (i = 41) && decide (rx_ny a = rx_yS))))))
    | .ireturn => decide (len = 1) && (match bo with
      | true => decide (b = 1) || decide (b = 2)
      | false => decide (b = 0))
    | _ => decide (len = 1))
def rx_adj : List rx_E → Bool
  | e :: e' :: es => decide (e.1 + e.2.2.1 = e'.1) && rx_adj (e' :: es)
  | _ => true
def rx_tab (Z : rx_Z) (es : List rx_E) : Prop := (∀ e ∈ es, rx_eok (zo Z) (zcc Z) (zn Z) (zi Z) (zb Z) e = true) ∧ rx_adj es = true
theorem rx_tab.tail {Z : rx_Z} {e : rx_E} {es : List rx_E} (h : rx_tab Z (e :: es)) : rx_tab Z es := by
  refine ⟨fun x hx => h.1 x (List.mem_cons_of_mem _ hx), ?_⟩
  cases es with
  | nil => rfl
  | cons e' es =>
    have := h.2
    simp only [rx_adj, Bool.and_eq_true] at this
    exact this.2
theorem rx_tab.suf {Z : rx_Z} {es : List rx_E} (t : Nat) (h : rx_tab Z es) : rx_tab Z (rx_suf t es) := by
  induction es with
  | nil => exact h
  | cons e es ih =>
    unfold rx_suf
    cases Nat.beq e.1 t with
    | true => exact h
    | false => exact ih h.tail
theorem rx_suf_head {t : Nat} {es es' : List rx_E} {e' : rx_E} (h : rx_suf t es = e' :: es') : e'.1 = t := by
  induction es with
  | nil => cases h
  | cons e es ih =>
    unfold rx_suf at h
    cases hb : Nat.beq e.1 t with
    | true =>
      rw [hb] at h
      cases h
      exact Nat.eq_of_beq_eq_true hb
    | false =>
      rw [hb] at h
      exact ih h
/-- the calls are right -/
def rx_CS {α : Type} (Z : rx_Z) (C : rx_Cl α) (z : α) : Prop := ∀ (j : Nat) (as : List Value) (u : Option rx_H) (κ : rx_K α), C j as u κ = some z → ∃ (r : Option Value) (u' : Option rx_H) (cw : Cond) (n : Nat), κ r u' = some z ∧ rx_Cal (rx_ny j) cw (rx_kd j) n ∧ (rx_kd j = 0 → as.length = n) ∧ (¬ rx_kd j = 0 → ∃ (r0 : Nat) (as' : List Value), as = .ref r0 :: as' ∧ as'.length = n) ∧ rx_Ok (zL Z) (zG Z) (zd Z) (rx_ny j) cw as (rx_u Z u) r (rx_u Z u')
/-- the end is right -/
def rx_rv (Z : rx_Z) (pc : Nat) : Option Value → Prop
  | some (.int x) => decode (zcc Z) pc = .ok (.ireturn, 1) ∧ (zb Z = true → x = 0 ∨ x = 1)
  | some (.long _) => decode (zcc Z) pc = .ok (.lreturn, 1)
  | none => decode (zcc Z) pc = .ok (.return_, 1)
  | _ => False
def rx_RT {α : Type} (Z : rx_Z) (ret : rx_K α) (z : α) : Prop := ∀ (v : Option Value) (u : Option rx_H), ret v u = some z → (rx_u Z u).2.length ≤ zn1 Z ∧ rx_sl (rx_u Z u) ≤ zs1 Z ∧
  ∀ (pc : Nat) (ls : Array Slot) (H : Heap) (locs : List Loc), rx_rv Z pc v → rx_R (zG Z) (rx_u Z u) H → (∀ q ∈ locs, rx_base (zG Z) ≤ q.base) → zW Z H locs ((rx_u Z u).2.length - zn0 Z) (rx_sl (rx_u Z u) - zs0 Z) (F0 (zM Z) pc ls (v.toList.map (rx_ev (zG Z))))
theorem rx_take_eq {n : Nat} {st acc as rest : List Value} (h : rx_take n st acc = some (as, rest)) : as.reverse ++ rest = acc.reverse ++ st := by
  induction n generalizing st acc with
  | zero => simp only [rx_take] at h; cases h; rfl
  | succ n ih =>
    cases st with
    | nil => simp [rx_take] at h
    | cons v st =>
      simp only [rx_take] at h
      rw [ih h]
      simp
section rxA
variable {Z : rx_Z} {α : Type} {C : rx_Cl α} {ret : rx_K α} {all es : List rx_E} {k : rx_Go α} {ls : rx_L} {st : List Value} {u : Option rx_H} {z : α}
set_option maxHeartbeats 4000000 in
set_option maxRecDepth 100000 in
theorem rx_act_ok (F : rx_Fr Z) {en : rx_E} (hall : rx_tab Z all) (hen : rx_tab Z (en :: es)) (hC : rx_CS Z C z) (hk : ∀ (es : List rx_E) (ls : rx_L) (st : List Value) (u : Option rx_H), rx_tab Z es → k es ls st u = some z → ∃ (e' : rx_E) (es' : List rx_E), es = e' :: es' ∧ rx_O Z e'.1 ls st u) (hret : rx_RT Z ret z) (h : rx_act C ret all k en es ls st u = some z) : rx_O Z en.1 ls st u := by
  have nx : ∀ (ls : rx_L) (st : List Value) (u : Option rx_H), k es ls st u = some z → rx_O Z (en.1 + en.2.2.1) ls st u := by
    intro ls st u h
    obtain ⟨e', es', rfl, ho⟩ := hk _ _ _ _ hen.tail h
    have := hen.2
    simp only [rx_adj, Bool.and_eq_true, decide_eq_true_eq] at this
    rw [this.1]
    exact ho
  have jp : ∀ (t : Nat) (ls : rx_L) (st : List Value) (u : Option rx_H), k (rx_suf t all) ls st u = some z → rx_O Z t ls st u := by
    intro t ls st u h
    obtain ⟨e', es', he, ho⟩ := hk _ _ _ _ (hall.suf t) h
    rw [← rx_suf_head he]
    exact ho
  have hok := hen.1 _ List.mem_cons_self
  obtain ⟨pc, ins, len, a, b, w, vi, vl, sw⟩ := en
  unfold rx_eok at hok
  dsimp only at hok nx ⊢
  rw [Bool.and_eq_true, decide_eq_true_eq] at hok
  obtain ⟨hd, hok⟩ := hok
  unfold rx_act at h
  dsimp only at h
  cases ins <;> (try dsimp only at h) <;> (try dsimp only at hok)
  case iconst n =>
    simp only [Bool.and_eq_true, decide_eq_true_eq] at hok
    obtain ⟨rfl, hv⟩ := hok
    exact (nx _ _ _ h).map (rx_t_iconst F hv hd)
  case bipush n =>
    simp only [Bool.and_eq_true, decide_eq_true_eq] at hok
    obtain ⟨rfl, hv⟩ := hok
    exact (nx _ _ _ h).map (rx_t_bipush F hv hd)
  case sipush n =>
    simp only [Bool.and_eq_true, decide_eq_true_eq] at hok
    obtain ⟨rfl, hv⟩ := hok
    exact (nx _ _ _ h).map (rx_t_sipush F hv hd)
  case lconst n =>
    simp only [Bool.and_eq_true, decide_eq_true_eq] at hok
    obtain ⟨rfl, hv⟩ := hok
    exact (nx _ _ _ h).map (rx_t_lconst F hv hd)
  case ldc i =>
    simp only [Bool.and_eq_true, decide_eq_true_eq] at hok
    obtain ⟨rfl, hv⟩ := hok
    exact (nx _ _ _ h).map (rx_t_ldc F (rx_wd_in hv) hd)
  case ldc_w i =>
    simp only [Bool.and_eq_true, decide_eq_true_eq] at hok
    obtain ⟨rfl, hv⟩ := hok
    exact (nx _ _ _ h).map (rx_t_ldc_w F (rx_wd_in hv) hd)
  case ldc2_w i =>
    simp only [Bool.and_eq_true, decide_eq_true_eq] at hok
    obtain ⟨rfl, hv⟩ := hok
    exact (nx _ _ _ h).map (rx_t_ldc2 F (rx_wd_in hv) hd)
  case iload i =>
    rw [decide_eq_true_eq] at hok
    subst hok
    split at h
    · next hl => exact (nx _ _ _ h).map (rx_t_iload F hl hd)
    · cases h
  case iload_n i =>
    rw [decide_eq_true_eq] at hok
    subst hok
    split at h
    · next hl => exact (nx _ _ _ h).map (rx_t_iload_n F hl hd)
    · cases h
  case istore i =>
    simp only [Bool.and_eq_true, decide_eq_true_eq] at hok
    obtain ⟨rfl, hv⟩ := hok
    split at h
    · exact (nx _ _ _ h).map (rx_t_istore F hv hd)
    · cases h
  case istore_n i =>
    simp only [Bool.and_eq_true, decide_eq_true_eq] at hok
    obtain ⟨rfl, hv⟩ := hok
    split at h
    · exact (nx _ _ _ h).map (rx_t_istore_n F hv hd)
    · cases h
  case lload i =>
    rw [decide_eq_true_eq] at hok
    subst hok
    split at h
    · next hl => exact (nx _ _ _ h).map (rx_t_lload F hl hd)
    · cases h
  case lload_n i =>
    rw [decide_eq_true_eq] at hok
    subst hok
    split at h
    · next hl => exact (nx _ _ _ h).map (rx_t_lload_n F hl hd)
    · cases h
  case lstore i =>
    simp only [Bool.and_eq_true, decide_eq_true_eq] at hok
    obtain ⟨rfl, hv⟩ := hok
    split at h
    · exact (nx _ _ _ h).map (rx_t_lstore F hv hd)
    · cases h
  case lstore_n i =>
    simp only [Bool.and_eq_true, decide_eq_true_eq] at hok
    obtain ⟨rfl, hv⟩ := hok
    split at h
    · exact (nx _ _ _ h).map (rx_t_lstore_n F hv hd)
    · cases h
  case aload i =>
    rw [decide_eq_true_eq] at hok
    subst hok
    split at h
    · next hl => exact (nx _ _ _ h).map (rx_t_aload F hl hd)
    · cases h
  case aload_n i =>
    rw [decide_eq_true_eq] at hok
    subst hok
    split at h
    · next hl => exact (nx _ _ _ h).map (rx_t_aload_n F hl hd)
    · cases h
  case astore i =>
    simp only [Bool.and_eq_true, decide_eq_true_eq] at hok
    obtain ⟨rfl, hv⟩ := hok
    split at h
    · exact (nx _ _ _ h).map (rx_t_astore F hv hd)
    · cases h
  case astore_n i =>
    simp only [Bool.and_eq_true, decide_eq_true_eq] at hok
    obtain ⟨rfl, hv⟩ := hok
    split at h
    · exact (nx _ _ _ h).map (rx_t_astore_n F hv hd)
    · cases h
  case iinc i n =>
    simp only [Bool.and_eq_true, decide_eq_true_eq] at hok
    obtain ⟨rfl, hv, hv2⟩ := hok
    split at h
    · next hl => exact (nx _ _ _ h).map (rx_t_iinc F hv2 hv hl hd)
    · cases h
  case iadd =>
    rw [decide_eq_true_eq] at hok
    subst hok
    split at h
    · exact (nx _ _ _ h).map (rx_t_iadd F hd)
    · cases h
  case isub =>
    rw [decide_eq_true_eq] at hok
    subst hok
    split at h
    · exact (nx _ _ _ h).map (rx_t_isub F hd)
    · cases h
  case imul =>
    rw [decide_eq_true_eq] at hok
    subst hok
    split at h
    · exact (nx _ _ _ h).map (rx_t_imul F hd)
    · cases h
  case iand =>
    rw [decide_eq_true_eq] at hok
    subst hok
    split at h
    · exact (nx _ _ _ h).map (rx_t_iand F hd)
    · cases h
  case ior =>
    rw [decide_eq_true_eq] at hok
    subst hok
    split at h
    · exact (nx _ _ _ h).map (rx_t_ior F hd)
    · cases h
  case ixor =>
    rw [decide_eq_true_eq] at hok
    subst hok
    split at h
    · exact (nx _ _ _ h).map (rx_t_ixor F hd)
    · cases h
  case ishl =>
    rw [decide_eq_true_eq] at hok
    subst hok
    split at h
    · exact (nx _ _ _ h).map (rx_t_ishl F hd)
    · cases h
  case ishr =>
    rw [decide_eq_true_eq] at hok
    subst hok
    split at h
    · exact (nx _ _ _ h).map (rx_t_ishr F hd)
    · cases h
  case iushr =>
    rw [decide_eq_true_eq] at hok
    subst hok
    split at h
    · exact (nx _ _ _ h).map (rx_t_iushr F hd)
    · cases h
  case ineg =>
    rw [decide_eq_true_eq] at hok
    subst hok
    split at h
    · exact (nx _ _ _ h).map (rx_t_ineg F hd)
    · cases h
  case ladd =>
    rw [decide_eq_true_eq] at hok
    subst hok
    split at h
    · exact (nx _ _ _ h).map (rx_t_ladd F hd)
    · cases h
  case lsub =>
    rw [decide_eq_true_eq] at hok
    subst hok
    split at h
    · exact (nx _ _ _ h).map (rx_t_lsub F hd)
    · cases h
  case lmul =>
    rw [decide_eq_true_eq] at hok
    subst hok
    split at h
    · exact (nx _ _ _ h).map (rx_t_lmul F hd)
    · cases h
  case land =>
    rw [decide_eq_true_eq] at hok
    subst hok
    split at h
    · exact (nx _ _ _ h).map (rx_t_land F hd)
    · cases h
  case lor =>
    rw [decide_eq_true_eq] at hok
    subst hok
    split at h
    · exact (nx _ _ _ h).map (rx_t_lor F hd)
    · cases h
  case lxor =>
    rw [decide_eq_true_eq] at hok
    subst hok
    split at h
    · exact (nx _ _ _ h).map (rx_t_lxor F hd)
    · cases h
  case lneg =>
    rw [decide_eq_true_eq] at hok
    subst hok
    split at h
    · exact (nx _ _ _ h).map (rx_t_lneg F hd)
    · cases h
  case lshl =>
    rw [decide_eq_true_eq] at hok
    subst hok
    split at h
    · exact (nx _ _ _ h).map (rx_t_lshl F hd)
    · cases h
  case lushr =>
    rw [decide_eq_true_eq] at hok
    subst hok
    split at h
    · exact (nx _ _ _ h).map (rx_t_lushr F hd)
    · cases h
  case i2l =>
    rw [decide_eq_true_eq] at hok
    subst hok
    split at h
    · exact (nx _ _ _ h).map (rx_t_i2l F hd)
    · cases h
  case l2i =>
    rw [decide_eq_true_eq] at hok
    subst hok
    split at h
    · exact (nx _ _ _ h).map (rx_t_l2i F hd)
    · cases h
  case i2b =>
    rw [decide_eq_true_eq] at hok
    subst hok
    split at h
    · exact (nx _ _ _ h).map (rx_t_i2b F hd)
    · cases h
  case ldiv =>
    rw [decide_eq_true_eq] at hok
    subst hok
    split at h
    · split at h
      · cases h
      · next hy => exact (nx _ _ _ h).map (rx_t_ldiv F hy hd)
    · cases h
  case idiv =>
    rw [decide_eq_true_eq] at hok
    subst hok
    split at h
    · next y x st' =>
      split at h
      · by_cases hy : y = 0
        · rw [decide_eq_true hy] at h
          cases h
        · rw [decide_eq_false hy] at h
          exact (nx _ _ _ h).map (rx_t_idiv F hy hd)
      · split at h
        · cases h
        · next hy => exact (nx _ _ _ h).map (rx_t_idiv F hy hd)
    · cases h
  case irem =>
    rw [decide_eq_true_eq] at hok
    subst hok
    split at h
    · next y x st' =>
      split at h
      · by_cases hy : y = 0
        · rw [decide_eq_true hy] at h
          cases h
        · rw [decide_eq_false hy] at h
          exact (nx _ _ _ h).map (rx_t_irem F hy hd)
      · split at h
        · cases h
        · next hy => exact (nx _ _ _ h).map (rx_t_irem F hy hd)
    · cases h
  case dup =>
    rw [decide_eq_true_eq] at hok
    subst hok
    split at h
    · exact (nx _ _ _ h).map (rx_t_dupI F hd)
    · exact (nx _ _ _ h).map (rx_t_dupR F hd)
    · cases h
  case dup2 =>
    rw [decide_eq_true_eq] at hok
    subst hok
    split at h
    · exact (nx _ _ _ h).map (rx_t_dup2R F hd)
    · exact (nx _ _ _ h).map (rx_t_dup2I F hd)
    · cases h
  case pop =>
    rw [decide_eq_true_eq] at hok
    subst hok
    split at h
    · exact (nx _ _ _ h).map (rx_t_popI F hd)
    · exact (nx _ _ _ h).map (rx_t_popR F hd)
    · cases h
  case goto off =>
    simp only [Bool.and_eq_true, decide_eq_true_eq] at hok
    obtain ⟨rfl, hv⟩ := hok
    exact (jp _ _ _ _ h).map (rx_t_goto F hv hd)
  case ifCond cd off =>
    simp only [Bool.and_eq_true, decide_eq_true_eq] at hok
    obtain ⟨rfl, hv⟩ := hok
    split at h
    · exact rx_t_if F hv hd h (jp _ _ _ _) (nx _ _ _)
    · cases h
  case if_icmp cd off =>
    simp only [Bool.and_eq_true, decide_eq_true_eq] at hok
    obtain ⟨rfl, hv⟩ := hok
    split at h
    · exact rx_t_icmp F hv hd h (jp _ _ _ _) (nx _ _ _)
    · cases h
  case lcmp =>
    rw [decide_eq_true_eq] at hok
    subst hok
    split at h
    · next y x st' pc2 cd off len2 a2 b2 w2 vi2 vl2 sw2 es2 =>
      have hok2 := hen.tail.1 _ List.mem_cons_self
      unfold rx_eok at hok2
      dsimp only at hok2
      simp only [Bool.and_eq_true, decide_eq_true_eq] at hok2
      obtain ⟨hd2, rfl, hv2⟩ := hok2
      have had := hen.2
      simp only [rx_adj, Bool.and_eq_true, decide_eq_true_eq] at had
      obtain ⟨had1, had2⟩ := had
      have hpc2 : pc2 = pc + 1 := had1.symm
      subst hpc2
      rw [rx_ifJ_if] at h
      refine rx_t_lcmp F hd (rx_t_if F hv2 hd2 h (jp _ _ _ _) fun h2 => ?_)
      obtain ⟨e', es', rfl, ho⟩ := hk _ _ _ _ hen.tail.tail h2
      have := hen.tail.2
      simp only [rx_adj, Bool.and_eq_true, decide_eq_true_eq] at this
      rw [this.1]
      exact ho
    · cases h
  case tableswitch dflt lo hi offs =>
    simp only [Bool.and_eq_true, decide_eq_true_eq, List.all_eq_true] at hok
    obtain ⟨hv, hlen, hsw⟩ := hok
    split at h
    · refine rx_t_switch F hd hv ⟨hlen, fun i q hq => ?_⟩ h (fun t => jp t _ _ _)
      have h1 := hsw (q, i) (by
        rw [List.mem_iff_getElem?]
        exact ⟨i, by simp [List.getElem?_zipIdx, hq]⟩)
      obtain ⟨h2, h3⟩ := h1
      refine ⟨h2, ?_⟩
      dsimp only at h3
      split at h3
      · next o ho => exact ⟨o, ho, by simpa using h3⟩
      · cases h3
    · cases h
  case getfield i =>
    simp only [Bool.and_eq_true, decide_eq_true_eq] at hok
    obtain ⟨rfl, hok⟩ := hok
    split at hok
    case h_2 => cases hok
    next q hq =>
    simp only [Bool.and_eq_true, decide_eq_true_eq] at hok
    obtain ⟨hb, hw⟩ := hok
    split at h
    case h_2 => cases h
    split at h
    · obtain ⟨x, hx, h⟩ := Option.bind_eq_some_iff.mp h
      unfold rx_gI at hx
      split at hx
      · next hf => cases hx; exact (nx _ _ _ h).map (rx_t_getf F hq hb (rx_wd_in hw) hf hd)
      · cases hx
    · obtain ⟨x, hx, h⟩ := Option.bind_eq_some_iff.mp h
      unfold rx_gJ at hx
      split at hx
      · next hf => cases hx; exact (nx _ _ _ h).map (rx_t_getf F hq hb (rx_wd_in hw) hf hd)
      · cases hx
    · obtain ⟨x, hx, h⟩ := Option.bind_eq_some_iff.mp h
      unfold rx_gR at hx
      split at hx
      · next hf => cases hx; exact (nx _ _ _ h).map (rx_t_getf F hq hb (rx_wd_in hw) hf hd)
      · cases hx
    · cases h
  case putfield i =>
    simp only [Bool.and_eq_true, decide_eq_true_eq] at hok
    obtain ⟨rfl, hok⟩ := hok
    split at hok
    case h_2 => cases hok
    next q hq =>
    simp only [Bool.and_eq_true, decide_eq_true_eq, Bool.or_eq_true] at hok
    obtain ⟨hb, hw, hfin, hty⟩ := hok
    split at h
    · cases hb4 : Nat.beq (b % 4) 0 with
      | false => rw [hb4] at h; cases h
      | true =>
        rw [hb4] at h
        obtain ⟨u1, hx, h⟩ := Option.bind_eq_some_iff.mp h
        rw [Nat.eq_of_beq_eq_true hb4] at hty
        have hty : rx_ty a (b / 4) = .int := by simpa using hty
        exact rx_t_put F hq hb (rx_wd_in hw) (by rw [hty]; rfl) (by rw [hty]; rfl) hfin hx hd (nx _ _ _ h)
    · cases hb4 : Nat.beq (b % 4) 1 with
      | false => rw [hb4] at h; cases h
      | true =>
        rw [hb4] at h
        obtain ⟨u1, hx, h⟩ := Option.bind_eq_some_iff.mp h
        rw [Nat.eq_of_beq_eq_true hb4] at hty
        have hty : rx_ty a (b / 4) = .long := by simpa using hty
        exact rx_t_put F hq hb (rx_wd_in hw) (by rw [hty]; rfl) (by rw [hty]; rfl) hfin hx hd (nx _ _ _ h)
    · cases hb4 : Nat.beq (b % 4) 2 with
      | false => rw [hb4] at h; cases h
      | true =>
        rw [hb4] at h
        obtain ⟨u1, hx, h⟩ := Option.bind_eq_some_iff.mp h
        rw [Nat.eq_of_beq_eq_true hb4] at hty
        have hty : rx_isR (rx_ty a (b / 4)) = true := hty
        refine rx_t_put F hq hb (rx_wd_in hw) ?_ ?_ hfin hx hd (nx _ _ _ h)
        · generalize rx_ty a (b / 4) = t at hty
          cases t <;> first | rfl | cases hty
        · generalize rx_ty a (b / 4) = t at hty
          cases t <;> first | rfl | cases hty
    · cases h
  case getstatic i =>
    simp only [Bool.and_eq_true, decide_eq_true_eq, Bool.or_eq_true] at hok
    obtain ⟨rfl, hok⟩ := hok
    rcases hok with ⟨rfl, hw⟩ | ⟨rfl, hw⟩
    · exact (nx _ _ _ h).map (rx_t_gets F rfl F.2.2.2.2.2.1.2.2.2.1 (rx_wd_in hw) hd)
    · exact (nx _ _ _ h).map (rx_t_gets F rfl F.2.2.2.2.2.1.2.2.2.2.2.1 (rx_wd_in hw) hd)
  case iaload =>
    rw [decide_eq_true_eq] at hok
    subst hok
    split at h
    · obtain ⟨x, hx, h⟩ := Option.bind_eq_some_iff.mp h
      exact (nx _ _ _ h).map (rx_t_iald F hx hd)
    · cases h
  case laload =>
    rw [decide_eq_true_eq] at hok
    subst hok
    split at h
    · obtain ⟨x, hx, h⟩ := Option.bind_eq_some_iff.mp h
      exact (nx _ _ _ h).map (rx_t_lald F hx hd)
    · cases h
  case aaload =>
    rw [decide_eq_true_eq] at hok
    subst hok
    split at h
    · obtain ⟨x, hx, h⟩ := Option.bind_eq_some_iff.mp h
      exact (nx _ _ _ h).map (rx_t_aald F hx hd)
    · cases h
  case iastore =>
    rw [decide_eq_true_eq] at hok
    subst hok
    split at h
    · obtain ⟨x, hx, h⟩ := Option.bind_eq_some_iff.mp h
      exact rx_t_iast F hx hd (nx _ _ _ h)
    · cases h
  case lastore =>
    rw [decide_eq_true_eq] at hok
    subst hok
    split at h
    · obtain ⟨x, hx, h⟩ := Option.bind_eq_some_iff.mp h
      exact rx_t_last F hx hd (nx _ _ _ h)
    · cases h
  case aastore =>
    rw [decide_eq_true_eq] at hok
    subst hok
    split at h
    · obtain ⟨x, hx, h⟩ := Option.bind_eq_some_iff.mp h
      exact rx_t_aast F hx hd (nx _ _ _ h)
    · cases h
  case arraylength =>
    rw [decide_eq_true_eq] at hok
    subst hok
    split at h
    · obtain ⟨x, hx, h⟩ := Option.bind_eq_some_iff.mp h
      exact (nx _ _ _ h).map (rx_t_len F hx hd)
    · cases h
  case newarray t =>
    rw [decide_eq_true_eq] at hok
    subst hok
    split at h
    · split at h
      · obtain ⟨x, hx, h⟩ := Option.bind_eq_some_iff.mp h
        exact rx_t_newI F hx rx_k_ai hd (nx _ _ _ h)
      · obtain ⟨x, hx, h⟩ := Option.bind_eq_some_iff.mp h
        exact rx_t_newJ F hx rx_k_aj hd (nx _ _ _ h)
      · cases h
    · cases h
  case anewarray i =>
    simp only [Bool.and_eq_true, decide_eq_true_eq] at hok
    obtain ⟨rfl, hv⟩ := hok
    split at h
    · obtain ⟨x, hx, h⟩ := Option.bind_eq_some_iff.mp h
      exact rx_t_newR F hx (rx_wd_in hv) hd (nx _ _ _ h)
    · cases h
  case new i =>
    simp only [Bool.and_eq_true, decide_eq_true_eq] at hok
    obtain ⟨rfl, hok⟩ := hok
    split at hok
    case h_2 => cases hok
    next q hq =>
    obtain ⟨x, hx, h⟩ := Option.bind_eq_some_iff.mp h
    exact rx_t_newO F hx hq (rx_wd_in hok) (rx_k_i hq).1 (rx_k_i hq).2 hd (nx _ _ _ h)
  case invokestatic i =>
    simp only [Bool.and_eq_true, decide_eq_true_eq] at hok
    obtain ⟨rfl, hok⟩ := hok
    split at h
    · split at h
      · next n dp r1 sp r0 st' =>
        cases hc : Nat.ble (rx_cat st') 8 with
        | false => rw [hc] at h; cases h
        | true =>
          rw [hc] at h
          obtain ⟨u1, hx, h⟩ := Option.bind_eq_some_iff.mp h
          exact rx_t_copy F (rx_wd_in hok) rx_k_cn rx_k_cs rx_k_ci (Nat.le_of_ble_eq_true hc) hx hd (nx _ _ _ h)
      · cases h
    · next hb =>
      have hok2 : rx_wd w (.methodLink (zo Z) i (rx_ny a)) = true ∧ rx_kd a = 0 := by
        split at hok
        · next hb2 => exact absurd rfl hb
        · simpa using hok
      unfold rx_call at h
      split at h
      · cases h
      next as rest ht =>
      dsimp only at h
      cases hc : Nat.ble (rx_cat rest) 8 with
      | false => rw [hc] at h; cases h
      | true =>
        rw [hc] at h
        obtain ⟨r, u1, cw, n, h1, h2, h3, h4, h5⟩ := hC _ _ _ _ h
        rw [hok2.2] at h2
        have hst := rx_take_eq ht
        simp only [List.reverse_nil, List.nil_append] at hst
        rw [← hst]
        exact rx_t_callS F (rx_wd_in hok2.1) h2 (h3 hok2.2) (Nat.le_of_ble_eq_true hc) h5 hd (nx _ _ _ h1)
  case invokevirtual i =>
    simp only [Bool.and_eq_true, decide_eq_true_eq] at hok
    obtain ⟨rfl, hw, hkd, hok⟩ := hok
    split at hok
    case h_2 => cases hok
    next q hq =>
    rw [decide_eq_true_eq] at hok
    split at h
    · next r0 as rest ht =>
      cases hc : Nat.ble (rx_cat rest) 8 with
      | false => rw [hc] at h; cases h
      | true =>
        rw [hc] at h
        obtain ⟨x, hx, h⟩ := Option.bind_eq_some_iff.mp h
        obtain ⟨r, u1, cw, n, h1, h2, h3, h4, h5⟩ := hC _ _ _ _ h
        rw [hkd] at h2
        have hst := rx_take_eq ht
        simp only [List.reverse_nil, List.nil_append] at hst
        rw [← hst]
        exact rx_t_callV F hq hok hx (rx_wd_in hw) h2 (by obtain ⟨r1, as1, e1, e2⟩ := h4 (by rw [hkd]; decide); cases e1; exact e2) (Nat.le_of_ble_eq_true hc) h5 hd (nx _ _ _ h1)
    · cases h
  case invokespecial i =>
    simp only [Bool.and_eq_true, decide_eq_true_eq] at hok
    obtain ⟨rfl, hok⟩ := hok
    split at h
    · split at h
      · next r0 st' =>
        cases hc : Nat.ble (rx_cat st') 8 with
        | false => rw [hc] at h; cases h
        | true =>
          rw [hc] at h
          exact (nx _ _ _ h).map (rx_t_obj F (rx_wd_in hok) rx_k_oi rx_k_oc (Nat.le_of_ble_eq_true hc) hd)
      · cases h
    · next hb =>
      have hok2 : rx_kd a = 2 ∧ (rx_wd w (.methodLink (zo Z) i (rx_ny a)) = true ∨ (zo Z = "SetHouse" ∧ ((i = 28 ∧ rx_ny a = rx_yP) ∨ (i = 41 ∧ rx_ny a = rx_yS)))) := by
        split at hok
        · next hb2 => exact absurd rfl hb
        · simpa using hok
      have hlk : Cond.methodLink (zo Z) i (rx_ny a) ∈ rx_TB ∨ va_Nw (.methodLinkNest (zo Z) i (rx_ny a) "SetHouse") (zS Z) := by
        rcases hok2.2 with hl | ⟨ho, ⟨hi, hy⟩ | ⟨hi, hy⟩⟩
        · exact Or.inl (rx_wd_in hl)
        · rw [ho, hi, hy]; exact Or.inr F.2.2.2.2.2.1.2.2.2.2.2.2.2.1
        · rw [ho, hi, hy]; exact Or.inr F.2.2.2.2.2.1.2.2.2.2.2.2.2.2.1
      unfold rx_call at h
      split at h
      · cases h
      next as rest ht =>
      dsimp only at h
      cases hc : Nat.ble (rx_cat rest) 8 with
      | false => rw [hc] at h; cases h
      | true =>
        rw [hc] at h
        obtain ⟨r, u1, cw, n, h1, h2, h3, h4, h5⟩ := hC _ _ _ _ h
        rw [hok2.1] at h2
        have hst := rx_take_eq ht
        simp only [List.reverse_nil, List.nil_append] at hst
        rw [← hst]
        obtain ⟨r0, as1, e1, e2⟩ := h4 (by rw [hok2.1]; decide)
        subst e1
        exact rx_t_callI F hlk h2 e2 (Nat.le_of_ble_eq_true hc) h5 hd (nx _ _ _ h1)
  case ireturn =>
    simp only [Bool.and_eq_true, decide_eq_true_eq] at hok
    obtain ⟨rfl, hok⟩ := hok
    split at h
    · next x =>
      have fin : ∀ y : Int32, (zb Z = true → y = 0 ∨ y = 1) → x = y → ret (some (.int y)) u = some z → rx_O Z pc ls [.int x] u := by
        intro y hy hxy h1
        subst hxy
        obtain ⟨g1, g2, g3⟩ := hret _ _ h1
        exact fun _ _ => ⟨⟨g1, g2⟩, fun H lz locs k1 k2 k3 => g3 pc lz H locs ⟨hd, hy⟩ k1 k3⟩
      split at h
      · split at h
        · next hx => exact fin 0 (fun _ => Or.inl rfl) hx h
        · split at h
          · next hx => exact fin 1 (fun _ => Or.inr rfl) hx h
          · cases h
      · by_cases hx : x = 0
        · rw [decide_eq_true hx] at h
          exact fin 0 (fun _ => Or.inl rfl) hx h
        · rw [decide_eq_false hx] at h
          by_cases hx1 : x = 1
          · rw [decide_eq_true hx1] at h
            exact fin 1 (fun _ => Or.inr rfl) hx1 h
          · rw [decide_eq_false hx1] at h
            cases h
      · next n1 n2 =>
        refine fin x (fun hz => ?_) rfl h
        rw [hz] at hok
        simp only [Bool.or_eq_true, decide_eq_true_eq] at hok
        rcases hok with hb | hb
        · exact absurd hb n1
        · exact absurd hb n2
    · cases h
  case lreturn =>
    rw [decide_eq_true_eq] at hok
    subst hok
    split at h
    · obtain ⟨g1, g2, g3⟩ := hret _ _ h
      exact fun _ _ => ⟨⟨g1, g2⟩, fun H lz locs k1 k2 k3 => g3 pc lz H locs hd k1 k3⟩
    · cases h
  case return_ =>
    rw [decide_eq_true_eq] at hok
    subst hok
    split at h
    · obtain ⟨g1, g2, g3⟩ := hret _ _ h
      exact fun _ _ => ⟨⟨g1, g2⟩, fun H lz locs k1 k2 k3 => g3 pc lz H locs hd k1 k3⟩
    · cases h
  all_goals cases h
theorem rx_run_ok (F : rx_Fr Z) {stop : List Nat} {kk : Nat → rx_L → List Value → Option rx_H → Option α} (hall : rx_tab Z all) (hC : rx_CS Z C z) (hkk : ∀ (t : Nat) (ls : rx_L) (st : List Value) (u : Option rx_H), kk t ls st u = some z → rx_O Z t ls st u) (hret : rx_RT Z ret z) :
    ∀ (n : Nat) (es : List rx_E) (ls : rx_L) (st : List Value) (u : Option rx_H), rx_tab Z es → rx_run C ret all stop kk n es ls st u = some z → ∃ (e' : rx_E) (es' : List rx_E), es = e' :: es' ∧ rx_O Z e'.1 ls st u := by
  intro n
  induction n with
  | zero => intro es ls st u ht h; simp [rx_run] at h
  | succ n ih =>
    intro es ls st u ht h
    cases es with
    | nil => simp [rx_run] at h
    | cons e es =>
      refine ⟨e, es, rfl, ?_⟩
      unfold rx_run at h
      cases hs : stop.any (Nat.beq e.1) with
      | true => rw [hs] at h; exact hkk _ _ _ _ h
      | false => rw [hs] at h; exact rx_act_ok F hall ht hC ih hret h
theorem rx_node_ok (F : rx_Fr Z) {stop : List Nat} {kk : Nat → rx_L → List Value → Option rx_H → Option α} {n t : Nat} (hall : rx_tab Z all) (hC : rx_CS Z C z) (hkk : ∀ (t : Nat) (ls : rx_L) (st : List Value) (u : Option rx_H), kk t ls st u = some z → rx_O Z t ls st u) (hret : rx_RT Z ret z) (h : rx_node C ret all stop kk n t ls st u = some z) : rx_O Z t ls st u := by
  unfold rx_node at h
  split at h
  · cases h
  next e es he =>
  rw [← rx_suf_head he]
  exact rx_act_ok F hall (by rw [← he]; exact hall.suf t) hC (rx_run_ok F hall hC hkk hret n) hret h
end rxA
