/-! ===== No cell goes; a method's contract out of its function ===== -/
def rx_mo (hf fin : rx_H) (u : Option rx_H) : Prop := (u.getD hf).2.length ≤ fin.2.length ∧ rx_sl (u.getD hf) ≤ rx_sl fin
theorem rx_mo_put {hf fin : rx_H} {u u' : Option rx_H} (h : ∃ h0 h1 : rx_H, u = some h0 ∧ u' = some h1 ∧ h0.2.length ≤ h1.2.length ∧ rx_sl h0 ≤ rx_sl h1) (hm : rx_mo hf fin u') : rx_mo hf fin u := by
  obtain ⟨h0, h1, rfl, rfl, e1, e2⟩ := h
  exact ⟨Nat.le_trans e1 hm.1, Nat.le_trans e2 hm.2⟩
theorem rx_mo_set {h0 : rx_H} {r : Nat} {c c1 : rx_C} (hr : h0.2[r]? = some c) (hs : rx_sl1 c1 = rx_sl1 c) : ∃ h2 h1 : rx_H, some h0 = some h2 ∧ some (h0.1, h0.2.set r c1) = some h1 ∧ h2.2.length ≤ h1.2.length ∧ rx_sl h2 ≤ rx_sl h1 :=
  ⟨h0, _, rfl, rfl, by simp, by rw [rx_sl_set hr hs]; exact Nat.le_refl _⟩
theorem rx_mo_p {u u' : Option rx_H} {r c k : Nat} {v : Value} (h : rx_p u r c k v = some u') : ∃ h0 h1 : rx_H, u = some h0 ∧ u' = some h1 ∧ h0.2.length ≤ h1.2.length ∧ rx_sl h0 ≤ rx_sl h1 := by
  unfold rx_p at h
  split at h
  · cases h
  split at h
  · next hr =>
    split at h
    · cases h; exact rx_mo_set hr (by simp [rx_sl1])
    · cases h
  · cases h
theorem rx_mo_sI {u u' : Option rx_H} {r : Nat} {i x : Int32} (h : rx_sI u r i x = some u') : ∃ h0 h1 : rx_H, u = some h0 ∧ u' = some h1 ∧ h0.2.length ≤ h1.2.length ∧ rx_sl h0 ≤ rx_sl h1 := by
  unfold rx_sI at h
  split at h
  · cases h
  split at h
  · next hr =>
    split at h
    · cases h
    · cases h; exact rx_mo_set hr (by simp [rx_sl1])
  · cases h
theorem rx_mo_sJ {u u' : Option rx_H} {r : Nat} {i : Int32} {x : Int64} (h : rx_sJ u r i x = some u') : ∃ h0 h1 : rx_H, u = some h0 ∧ u' = some h1 ∧ h0.2.length ≤ h1.2.length ∧ rx_sl h0 ≤ rx_sl h1 := by
  unfold rx_sJ at h
  split at h
  · cases h
  split at h
  · next hr =>
    split at h
    · cases h
    · cases h; exact rx_mo_set hr (by simp [rx_sl1])
  · cases h
theorem rx_mo_sR {u u' : Option rx_H} {r x : Nat} {i : Int32} (h : rx_sR u r i x = some u') : ∃ h0 h1 : rx_H, u = some h0 ∧ u' = some h1 ∧ h0.2.length ≤ h1.2.length ∧ rx_sl h0 ≤ rx_sl h1 := by
  unfold rx_sR at h
  split at h
  · cases h
  split at h
  · next hr hx =>
    split at h
    · cases h
    · cases h; exact rx_mo_set hr (by simp [rx_sl1])
  · cases h
theorem rx_mo_cp {u u' : Option rx_H} {r0 r1 : Nat} {sp dp n : Int32} (h : rx_cp u r0 sp r1 dp n = some u') : ∃ h0 h1 : rx_H, u = some h0 ∧ u' = some h1 ∧ h0.2.length ≤ h1.2.length ∧ rx_sl h0 ≤ rx_sl h1 := by
  unfold rx_cp at h
  split at h
  · cases h
  split at h
  · next hr hx =>
    split at h
    · cases h
    · cases h; exact rx_mo_set hx (by simp [rx_sl1])
  · cases h
theorem rx_mo_push {u : Option rx_H} {c1 : rx_C} {q : Nat × Option rx_H} (h : rx_push u c1 = some q) : ∃ h0 h1 : rx_H, u = some h0 ∧ q.2 = some h1 ∧ h0.2.length ≤ h1.2.length ∧ rx_sl h0 ≤ rx_sl h1 := by
  obtain ⟨h0, rfl, -, rfl⟩ := rx_push_some h
  exact ⟨h0, _, rfl, rfl, by simp, by rw [rx_sl_push]; exact Nat.le_add_right _ _⟩
theorem rx_mo_nI {u : Option rx_H} {n : Int32} {q : Nat × Option rx_H} (h : rx_nI u n = some q) : ∃ h0 h1 : rx_H, u = some h0 ∧ q.2 = some h1 ∧ h0.2.length ≤ h1.2.length ∧ rx_sl h0 ≤ rx_sl h1 := by
  unfold rx_nI at h
  split at h
  · cases h
  · exact rx_mo_push h
theorem rx_mo_nJ {u : Option rx_H} {n : Int32} {q : Nat × Option rx_H} (h : rx_nJ u n = some q) : ∃ h0 h1 : rx_H, u = some h0 ∧ q.2 = some h1 ∧ h0.2.length ≤ h1.2.length ∧ rx_sl h0 ≤ rx_sl h1 := by
  unfold rx_nJ at h
  split at h
  · cases h
  · exact rx_mo_push h
theorem rx_mo_nR {u : Option rx_H} {n : Int32} {q : Nat × Option rx_H} (h : rx_nR u n = some q) : ∃ h0 h1 : rx_H, u = some h0 ∧ q.2 = some h1 ∧ h0.2.length ≤ h1.2.length ∧ rx_sl h0 ≤ rx_sl h1 := by
  unfold rx_nR at h
  split at h
  · cases h
  · exact rx_mo_push h
theorem rx_mo_nO {u : Option rx_H} {c : Nat} {q : Nat × Option rx_H} (h : rx_nO u c = some q) : ∃ h0 h1 : rx_H, u = some h0 ∧ q.2 = some h1 ∧ h0.2.length ≤ h1.2.length ∧ rx_sl h0 ≤ rx_sl h1 := by
  unfold rx_nO at h
  split at h
  · exact rx_mo_push h
  · cases h
section rxM
variable {α : Type} {C : rx_Cl α} {ret : rx_K α} {all es : List rx_E} {k : rx_Go α} {ls : rx_L} {st : List Value} {u : Option rx_H} {z : α} {hf fin : rx_H}
theorem rx_if_mo {cd : ClassFile.Cond} {x y : Int32} {kt kf : Option α} (h : rx_if cd x y kt kf = some z) : kt = some z ∨ kf = some z := by
  unfold rx_if at h
  split at h <;> split at h <;> first | exact Or.inl h | exact Or.inr h
theorem rx_ifJ_mo {cd : ClassFile.Cond} {x y : Int64} {kt kf : Option α} (h : rx_ifJ cd x y kt kf = some z) : kt = some z ∨ kf = some z := by
  unfold rx_ifJ at h
  split at h <;> split at h <;> first | exact Or.inl h | exact Or.inr h
theorem rx_sw_mo {kt : Nat → Option α} {x : Int32} {d : Nat} {l : List (Int32 × Nat)} (h : rx_sw kt x d l = some z) : ∃ t, kt t = some z := by
  induction l with
  | nil => exact ⟨d, h⟩
  | cons q l ih =>
    unfold rx_sw at h
    split at h
    · exact ⟨_, h⟩
    · exact ih h
theorem rx_rec_mo {b : Bool} {x y : Option α} (h : (Bool.rec (motive := fun _ => Option α) x y b) = some z) : x = some z ∨ y = some z := by
  cases b
  · exact Or.inl h
  · exact Or.inr h
set_option maxHeartbeats 4000000 in
set_option maxRecDepth 100000 in
theorem rx_act_mo {en : rx_E} (hC : ∀ (j : Nat) (as : List Value) (u : Option rx_H) (κ : rx_K α), C j as u κ = some z → ∃ (r : Option Value) (u' : Option rx_H), κ r u' = some z ∧ (rx_mo hf fin u' → rx_mo hf fin u)) (hk : ∀ (es : List rx_E) (ls : rx_L) (st : List Value) (u : Option rx_H), k es ls st u = some z → rx_mo hf fin u) (hret : ∀ (v : Option Value) (u : Option rx_H), ret v u = some z → rx_mo hf fin u) (h : rx_act C ret all k en es ls st u = some z) : rx_mo hf fin u := by
  have call : ∀ (kc : List Value → Option rx_H → Option α) (hkc : ∀ st u, kc st u = some z → rx_mo hf fin u) (j n : Nat), rx_call C kc j n st u = some z → rx_mo hf fin u := by
    intro kc hkc j n h
    unfold rx_call at h
    split at h
    · cases h
    · rcases rx_rec_mo h with h | h
      · cases h
      · obtain ⟨r, u', h1, h2⟩ := hC _ _ _ _ h
        exact h2 (hkc _ _ h1)
  obtain ⟨pc, ins, len, a, b, w, vi, vl, sw⟩ := en
  unfold rx_act at h
  dsimp only at h
  cases ins <;> (try dsimp only at h)
  case goto => exact hk _ _ _ _ h
  case new =>
    obtain ⟨q, h1, h2⟩ := Option.bind_eq_some_iff.mp h
    exact rx_mo_put (rx_mo_nO h1) (hk _ _ _ _ h2)
  case invokestatic =>
    split at h
    · split at h
      · rcases rx_rec_mo h with h | h
        · cases h
        · obtain ⟨q, h1, h2⟩ := Option.bind_eq_some_iff.mp h
          exact rx_mo_put (rx_mo_cp h1) (hk _ _ _ _ h2)
      · cases h
    · exact call _ (fun st u => hk _ _ st u) _ _ h
  case invokespecial =>
    split at h
    · split at h
      · rcases rx_rec_mo h with h | h
        · cases h
        · exact hk _ _ _ _ h
      · cases h
    · exact call _ (fun st u => hk _ _ st u) _ _ h
  case invokevirtual =>
    split at h
    · rcases rx_rec_mo h with h | h
      · cases h
      · obtain ⟨q, -, h2⟩ := Option.bind_eq_some_iff.mp h
        obtain ⟨r, u', h3, h4⟩ := hC _ _ _ _ h2
        exact h4 (hk _ _ _ _ h3)
    · cases h
  case putfield =>
    split at h
    · rcases rx_rec_mo h with h | h
      · cases h
      · obtain ⟨q, h1, h2⟩ := Option.bind_eq_some_iff.mp h
        exact rx_mo_put (rx_mo_p h1) (hk _ _ _ _ h2)
    · rcases rx_rec_mo h with h | h
      · cases h
      · obtain ⟨q, h1, h2⟩ := Option.bind_eq_some_iff.mp h
        exact rx_mo_put (rx_mo_p h1) (hk _ _ _ _ h2)
    · rcases rx_rec_mo h with h | h
      · cases h
      · obtain ⟨q, h1, h2⟩ := Option.bind_eq_some_iff.mp h
        exact rx_mo_put (rx_mo_p h1) (hk _ _ _ _ h2)
    · cases h
  case getfield =>
    split at h
    · split at h
      · obtain ⟨q, -, h2⟩ := Option.bind_eq_some_iff.mp h
        exact hk _ _ _ _ h2
      · obtain ⟨q, -, h2⟩ := Option.bind_eq_some_iff.mp h
        exact hk _ _ _ _ h2
      · obtain ⟨q, -, h2⟩ := Option.bind_eq_some_iff.mp h
        exact hk _ _ _ _ h2
      · cases h
    · cases h
  case iastore =>
    split at h
    · obtain ⟨q, h1, h2⟩ := Option.bind_eq_some_iff.mp h
      exact rx_mo_put (rx_mo_sI h1) (hk _ _ _ _ h2)
    · cases h
  case lastore =>
    split at h
    · obtain ⟨q, h1, h2⟩ := Option.bind_eq_some_iff.mp h
      exact rx_mo_put (rx_mo_sJ h1) (hk _ _ _ _ h2)
    · cases h
  case aastore =>
    split at h
    · obtain ⟨q, h1, h2⟩ := Option.bind_eq_some_iff.mp h
      exact rx_mo_put (rx_mo_sR h1) (hk _ _ _ _ h2)
    · cases h
  case newarray =>
    split at h
    · split at h
      · obtain ⟨q, h1, h2⟩ := Option.bind_eq_some_iff.mp h
        exact rx_mo_put (rx_mo_nI h1) (hk _ _ _ _ h2)
      · obtain ⟨q, h1, h2⟩ := Option.bind_eq_some_iff.mp h
        exact rx_mo_put (rx_mo_nJ h1) (hk _ _ _ _ h2)
      · cases h
    · cases h
  case anewarray =>
    split at h
    · obtain ⟨q, h1, h2⟩ := Option.bind_eq_some_iff.mp h
      exact rx_mo_put (rx_mo_nR h1) (hk _ _ _ _ h2)
    · cases h
  case ifCond =>
    split at h
    · rcases rx_if_mo h with h | h <;> exact hk _ _ _ _ h
    · cases h
  case if_icmp =>
    split at h
    · rcases rx_if_mo h with h | h <;> exact hk _ _ _ _ h
    · cases h
  case lcmp =>
    split at h
    · rcases rx_ifJ_mo h with h | h <;> exact hk _ _ _ _ h
    · cases h
  case tableswitch =>
    split at h
    · obtain ⟨t, h⟩ := rx_sw_mo h
      exact hk _ _ _ _ h
    · cases h
  case idiv =>
    split at h
    · split at h
      · rcases rx_rec_mo h with h | h
        · exact hk _ _ _ _ h
        · cases h
      · split at h
        · cases h
        · exact hk _ _ _ _ h
    · cases h
  case irem =>
    split at h
    · split at h
      · rcases rx_rec_mo h with h | h
        · exact hk _ _ _ _ h
        · cases h
      · split at h
        · cases h
        · exact hk _ _ _ _ h
    · cases h
  case ldiv =>
    split at h
    · split at h
      · cases h
      · exact hk _ _ _ _ h
    · cases h
  case ireturn =>
    split at h
    · split at h
      · split at h
        · exact hret _ _ h
        · split at h
          · exact hret _ _ h
          · cases h
      · rcases rx_rec_mo h with h | h
        · rcases rx_rec_mo h with h | h
          · cases h
          · exact hret _ _ h
        · exact hret _ _ h
      · exact hret _ _ h
    · cases h
  case lreturn =>
    split at h
    · exact hret _ _ h
    · cases h
  case return_ =>
    split at h
    · exact hret _ _ h
    · cases h
  all_goals first
    | exact hk _ _ _ _ h
    | (cases h; done)
    | (split at h <;> first | exact hk _ _ _ _ h | (cases h; done) | (obtain ⟨q, -, h2⟩ := Option.bind_eq_some_iff.mp h; exact hk _ _ _ _ h2))
theorem rx_run_mo {stop : List Nat} {kk : Nat → rx_L → List Value → Option rx_H → Option α} (hC : ∀ (j : Nat) (as : List Value) (u : Option rx_H) (κ : rx_K α), C j as u κ = some z → ∃ (r : Option Value) (u' : Option rx_H), κ r u' = some z ∧ (rx_mo hf fin u' → rx_mo hf fin u)) (hkk : ∀ (t : Nat) (ls : rx_L) (st : List Value) (u : Option rx_H), kk t ls st u = some z → rx_mo hf fin u) (hret : ∀ (v : Option Value) (u : Option rx_H), ret v u = some z → rx_mo hf fin u) :
    ∀ (n : Nat) (es : List rx_E) (ls : rx_L) (st : List Value) (u : Option rx_H), rx_run C ret all stop kk n es ls st u = some z → rx_mo hf fin u := by
  intro n
  induction n with
  | zero => intro es ls st u h; simp [rx_run] at h
  | succ n ih =>
    intro es ls st u h
    cases es with
    | nil => simp [rx_run] at h
    | cons e es =>
      unfold rx_run at h
      rcases rx_rec_mo h with h | h
      · exact rx_act_mo hC ih hret h
      · exact hkk _ _ _ _ h
end rxM
/-- a method: its class, code, room for locals; whether it is a constructor, whether it answers a boolean; how deep its calls are -/
abbrev rx_Md : Type := String × ByteArray × Nat × Bool × Bool × Nat
def rx_ZM (Z : rx_Z) (l : Launch) (G : rx_G) (md : rx_Md) (hf fin : rx_H) : Prop := zL Z = l ∧ zG Z = G ∧ zh Z = hf ∧ (zo Z, zcc Z, zn Z, zi Z, zb Z, zd Z) = md ∧ zn1 Z = fin.2.length ∧ zs1 Z = rx_sl fin
def rx_S {α : Type} (l : Launch) (G : rx_G) (md : rx_Md) (hf fin : rx_H) (ret : rx_K α) (z : α) (t : Nat) (ls : rx_L) (st : List Value) (u : Option rx_H) : Prop := rx_mo hf fin u ∧ ∀ Z : rx_Z, rx_ZM Z l G md hf fin → rx_Fr Z → rx_RT Z ret z → rx_O Z t ls st u
/-- the calls of a method are right -/
def rx_CC {α : Type} (l : Launch) (G : rx_G) (D : Nat) (C : rx_Cl α) (z : α) : Prop := ∀ (j : Nat) (as : List Value) (u : Option rx_H) (κ : rx_K α), C j as u κ = some z → ∃ (r : Option Value) (u' : Option rx_H) (cw : Cond) (n : Nat), κ r u' = some z ∧ rx_Cal (rx_ny j) cw (rx_kd j) n ∧ (rx_kd j = 0 → as.length = n) ∧ (¬ rx_kd j = 0 → ∃ (r0 : Nat) (as' : List Value), as = .ref r0 :: as' ∧ as'.length = n) ∧ ∀ hf : rx_H, rx_Ok l G D (rx_ny j) cw as (u.getD hf) r (u'.getD hf)
def rx_tok (md : rx_Md) (t : List rx_E) : Bool := t.all (rx_eok md.1 md.2.1 md.2.2.1 md.2.2.2.1 md.2.2.2.2.1) && rx_adj t
theorem rx_S_node {α : Type} {l : Launch} {G : rx_G} {md : rx_Md} {hf fin : rx_H} {C : rx_Cl α} {ret : rx_K α} {all : List rx_E} {stop : List Nat} {kk : Nat → rx_L → List Value → Option rx_H → Option α} {n t : Nat} {ls : rx_L} {st : List Value} {u : Option rx_H} {z : α}
    (htab : rx_tok md all = true) (hC : rx_CC l G md.2.2.2.2.2 C z) (hret : ∀ (v : Option Value) (u : Option rx_H), ret v u = some z → rx_mo hf fin u) (hkk : ∀ (t : Nat) (ls : rx_L) (st : List Value) (u : Option rx_H), kk t ls st u = some z → rx_S l G md hf fin ret z t ls st u)
    (h : rx_node C ret all stop kk n t ls st u = some z) : rx_S l G md hf fin ret z t ls st u := by
  have hCm : ∀ (j : Nat) (as : List Value) (u : Option rx_H) (κ : rx_K α), C j as u κ = some z → ∃ (r : Option Value) (u' : Option rx_H), κ r u' = some z ∧ (rx_mo hf fin u' → rx_mo hf fin u) := by
    intro j as u κ h
    obtain ⟨r, u', cw, n, h1, h2, h3, h4, h5⟩ := hC j as u κ h
    obtain ⟨⟨e1, e2⟩, -⟩ := h5 hf
    exact ⟨r, u', h1, fun hm => ⟨Nat.le_trans e1 hm.1, Nat.le_trans e2 hm.2⟩⟩
  refine ⟨?_, fun Z hZ F hRT => ?_⟩
  · have h2 := h
    unfold rx_node at h2
    split at h2
    · cases h2
    · exact rx_act_mo hCm (rx_run_mo hCm (fun t ls st u h => (hkk t ls st u h).1) hret n) hret h2
  · obtain ⟨z1, z2, z3, z4, z5, z6⟩ := id hZ
    have hall : rx_tab Z all := by
      unfold rx_tok at htab
      rw [Bool.and_eq_true, List.all_eq_true] at htab
      refine ⟨fun e he => ?_, htab.2⟩
      have := htab.1 e he
      rw [← z4] at this
      exact this
    refine rx_node_ok F hall ?_ (fun t ls st u h => (hkk t ls st u h).2 Z hZ F hRT) hRT h
    intro j as u κ h
    obtain ⟨r, u', cw, n, h1, h2, h3, h4, h5⟩ := hC j as u κ h
    refine ⟨r, u', cw, n, h1, h2, h3, h4, ?_⟩
    have e5 := h5 (zh Z)
    rw [← z4, ← z1, ← z2] at e5
    exact e5
/-! the locals at the start -/
def rx_ent1 : List Value → rx_L
  | [] => []
  | .long x :: vs => some (.long x) :: none :: rx_ent1 vs
  | .double x :: vs => some (.double x) :: none :: rx_ent1 vs
  | v :: vs => some v :: rx_ent1 vs
def rx_pad : Nat → rx_L → rx_L
  | 0, l => l
  | n + 1, [] => none :: rx_pad n []
  | n + 1, x :: l => x :: rx_pad n l
theorem rx_pad_len : ∀ (n : Nat) (l : rx_L), l.length ≤ n → (rx_pad n l).length = n
  | 0, l, h => by simpa [rx_pad] using h
  | n + 1, [], h => by simp only [rx_pad, List.length_cons, rx_pad_len n [] (Nat.zero_le _)]
  | n + 1, x :: l, h => by simp only [rx_pad, List.length_cons]; rw [rx_pad_len n l (by simpa using h)]
theorem rx_pad_get : ∀ (n : Nat) (l : rx_L) (i : Nat) (v : Value), (rx_pad n l)[i]? = some (some v) → l[i]? = some (some v)
  | 0, l, i, v, h => h
  | n + 1, [], i, v, h => by
    cases i with
    | zero => simp [rx_pad] at h
    | succ i =>
      have := rx_pad_get n [] i v (by simpa [rx_pad] using h)
      simp at this
  | n + 1, x :: l, i, v, h => by
    cases i with
    | zero => simpa [rx_pad] using h
    | succ i => simpa using rx_pad_get n l i v (by simpa [rx_pad] using h)
theorem rx_ent1_len (G : rx_G) (vs : List Value) : (rx_ent1 vs).length = (lg_sl (vs.map (rx_ev G))).length := by
  induction vs with
  | nil => rfl
  | cons v vs ih => cases v <;> simp [rx_ent1, lg_sl, Value.category, rx_ev] at ih ⊢ <;> omega
theorem rx_ent1_get (G : rx_G) : ∀ (vs : List Value) (i k : Nat) (v : Value), (rx_ent1 vs)[i]? = some (some v) → (k + i, rx_ev G v) ∈ lv_args k (vs.map (rx_ev G))
  | [], i, k, v, h => by simp [rx_ent1] at h
  | .long x :: vs, i, k, v, h => by
    match i, h with
    | 0, h => simp [rx_ent1] at h; subst h; exact List.mem_cons_self
    | 1, h => simp [rx_ent1] at h
    | i + 2, h =>
      have := rx_ent1_get G vs i (k + 2) v (by simpa [rx_ent1] using h)
      rw [show k + (i + 2) = k + 2 + i by omega]
      exact List.mem_cons_of_mem _ this
  | .double x :: vs, i, k, v, h => by
    match i, h with
    | 0, h => simp [rx_ent1] at h; subst h; exact List.mem_cons_self
    | 1, h => simp [rx_ent1] at h
    | i + 2, h =>
      have := rx_ent1_get G vs i (k + 2) v (by simpa [rx_ent1] using h)
      rw [show k + (i + 2) = k + 2 + i by omega]
      exact List.mem_cons_of_mem _ this
  | .int x :: vs, i, k, v, h => by
    cases i with
    | zero => simp [rx_ent1] at h; subst h; exact List.mem_cons_self
    | succ i =>
      have := rx_ent1_get G vs i (k + 1) v (by simpa [rx_ent1] using h)
      rw [show k + (i + 1) = k + 1 + i by omega]
      exact List.mem_cons_of_mem _ this
  | .float x :: vs, i, k, v, h => by
    cases i with
    | zero => simp [rx_ent1] at h; subst h; exact List.mem_cons_self
    | succ i =>
      have := rx_ent1_get G vs i (k + 1) v (by simpa [rx_ent1] using h)
      rw [show k + (i + 1) = k + 1 + i by omega]
      exact List.mem_cons_of_mem _ this
  | .null :: vs, i, k, v, h => by
    cases i with
    | zero => simp [rx_ent1] at h; subst h; exact List.mem_cons_self
    | succ i =>
      have := rx_ent1_get G vs i (k + 1) v (by simpa [rx_ent1] using h)
      rw [show k + (i + 1) = k + 1 + i by omega]
      exact List.mem_cons_of_mem _ this
  | .ref x :: vs, i, k, v, h => by
    cases i with
    | zero => simp [rx_ent1] at h; subst h; exact List.mem_cons_self
    | succ i =>
      have := rx_ent1_get G vs i (k + 1) v (by simpa [rx_ent1] using h)
      rw [show k + (i + 1) = k + 1 + i by omega]
      exact List.mem_cons_of_mem _ this
  | .retAddr x :: vs, i, k, v, h => by
    cases i with
    | zero => simp [rx_ent1] at h; subst h; exact List.mem_cons_self
    | succ i =>
      have := rx_ent1_get G vs i (k + 1) v (by simpa [rx_ent1] using h)
      rw [show k + (i + 1) = k + 1 + i by omega]
      exact List.mem_cons_of_mem _ this
def rx_ent (vs : List Value) (n : Nat) : rx_L := rx_pad n (rx_ent1 vs)
theorem rx_ent_lo (G : rx_G) {vs : List Value} {n : Nat} (h : (rx_ent1 vs).length ≤ n) : rx_lo G ((lg_sl (vs.map (rx_ev G)) ++ List.replicate (n - (lg_sl (vs.map (rx_ev G))).length) Slot.unset).toArray) n (rx_ent vs n) := by
  have hv := lv_entry (vs.map (rx_ev G)) (n := n) (by rw [← rx_ent1_len]; exact h)
  refine ⟨rx_pad_len _ _ h, hv.1, hv.2.1, fun i v hi => ?_⟩
  have := rx_ent1_get G vs i 0 v (rx_pad_get _ _ _ _ hi)
  rw [Nat.zero_add] at this
  exact hv.2.2 _ this
/-- less is known, place by place -/
def rx_leq : rx_L → rx_L → Prop
  | [], [] => True
  | a :: as, b :: bs => (a = none ∨ a = b) ∧ rx_leq as bs
  | _, _ => False
theorem rx_leq_le : ∀ (a b : rx_L), rx_leq a b → rx_le a b
  | [], [], _ => ⟨rfl, fun i v h => by simp at h⟩
  | a :: as, b :: bs, h => by
    obtain ⟨h1, h2⟩ := rx_leq_le as bs h.2
    refine ⟨by simp [h1], fun i v hi => ?_⟩
    cases i with
    | zero =>
      simp at hi ⊢
      rcases h.1 with e | e
      · rw [e] at hi; cases hi
      · rw [← e]; exact hi
    | succ i => simpa using h2 i v (by simpa using hi)
  | [], _ :: _, h => h.elim
  | _ :: _, [], h => h.elim
/-- an answer of its type -/
def rx_rt (ret : Option FieldType) (bo : Bool) (r : Option Value) : Prop := (ret = some .int ∧ bo = false ∧ ∃ x, r = some (.int x)) ∨ (ret = some .boolean ∧ bo = true ∧ ∃ x, r = some (.int x)) ∨ (ret = some .long ∧ ∃ x, r = some (.long x)) ∨ (ret = none ∧ r = none)
def rx_BR (Z : rx_Z) (r : Option Value) (h' : rx_H) : Prop := ∀ (pc : Nat) (ls : Array Slot) (H : Heap) (locs : List Loc), rx_rv Z pc r → rx_R (zG Z) h' H → (∀ q ∈ locs, rx_base (zG Z) ≤ q.base) → zW Z H locs (h'.2.length - zn0 Z) (rx_sl h' - zs0 Z) (F0 (zM Z) pc ls (r.toList.map (rx_ev (zG Z))))
/-- a contract out of its walk, of a method that no entry runs instead -/
theorem rx_ofW {l : Launch} {y : MethodName} {ws ws' : List Cond} {rm : Room} {Pc : Array Value → State → Prop} {Qc : Array Value → State → Outcome → State → Prop} {mc ms : Nat} {free : Addr → Prop} {cc : ByteArray} {maxL : Nat} {ret : Option FieldType}
    (hy : plainFor y = true) (hw : ws = Cond.code y cc maxL ret :: ws')
    (body : ∀ p e s m args below meth c s₁, BodyLoose p l y (headSpec ws rm) cc maxL ret e s m args below meth c s₁ → c.maxLocals = maxL → Pc args s →
      W p l e (headSpec ws rm).room s m args below meth c s.heap [] 0 0 (MQ below Qc args s mc ms free) (entryFrame m args maxL)) : Met l y ws rm Pc Qc mc ms free := by
  refine MetFree.of_bodySF (code := cc) (maxLocals := maxL) (ret := ret) hy ?_ ?_
  · intro args s m h hn
    obtain ⟨meth, c, h1, h2, h3, h4, h5, h6, -, -⟩ := Cond.code_spec hn (atoms_spec (ws := ws) h _ (by rw [hw]; exact List.mem_cons_self))
    exact ⟨meth, c, h1, h2, h3, h4, h5, h6⟩
  · intro p e s m args below meth c s₁ B hml hP _
    have hh0 : s₁.heap = s.heap := by rw [B.state]; rfl
    obtain ⟨t, a1, o, b1, b2, b3⟩ := body p e s m args below meth c s₁ B hml hP s₁ hh0 (Stand.of_body B)
    exact ⟨t, o, a1, b1, b2, ⟨b3.1, b3.2⟩⟩
/-- a method's contract -/
theorem rx_met {α : Type} {l : Launch} {G : rx_G} {y : MethodName} {bytes : ByteArray} {maxL : Nat} {rt : Option FieldType} {ini bo : Bool} {D : Nat} {as : List Value} {u u' : Option rx_H} {r : Option Value} {hf : rx_H} {ret : rx_K α} {z : α} {ls0 : rx_L} (hpl : plainFor y = true) (hini : ini = true → y.name = "<init>") (hlen : (rx_ent1 as).length ≤ maxL) (hrt : rx_rt rt bo r)
    (hRT : ∀ Z : rx_Z, rx_ZM Z l G (y.cls, bytes, maxL, ini, bo, D) hf (u'.getD hf) → rx_BR Z r (u'.getD hf) → rx_RT Z ret z) (hls : rx_leq ls0 (rx_ent as maxL))
    (hS : rx_S l G (y.cls, bytes, maxL, ini, bo, D) hf (u'.getD hf) ret z 0 ls0 [] u) : rx_Ok l G (D + 1) y (.code y bytes maxL rt) as (u.getD hf) r (u'.getD hf) := by
  refine ⟨hS.1, D + 1, Nat.le_refl _, ?_⟩
  refine rx_ofW (cc := bytes) (maxL := maxL) (ret := rt) hpl rfl ?_
  intro p e s m args below meth c s₁ B hml hv
  obtain ⟨rfl, hR, hK⟩ := hv
  have hts : ∀ w ∈ (Cond.code y bytes maxL rt :: rx_TB), w.before _ s = true := atoms_spec (ws := Cond.code y bytes maxL rt :: rx_TB) B.pre
  let Z : rx_Z := ((p, l, e, (headSpec (Cond.code y bytes maxL rt :: rx_TB) (rx_rm (D + 1) (u.getD hf) (u'.getD hf))).room, s, m, (as.map (rx_ev G)).toArray, below, meth, c), (MQ below (rx_Qc G r (u'.getD hf)) (as.map (rx_ev G)).toArray s ((u'.getD hf).2.length - (u.getD hf).2.length) (rx_sl (u'.getD hf) - rx_sl (u.getD hf)) (fun q => rx_base G ≤ q), maxL, G, hf, (u.getD hf).2.length, rx_sl (u.getD hf), (u'.getD hf).2.length, rx_sl (u'.getD hf), D, bytes, y.cls, ini, bo))
  have hZM : rx_ZM Z l G (y.cls, bytes, maxL, ini, bo, D) hf (u'.getD hf) := ⟨rfl, rfl, rfl, rfl, rfl, rfl⟩
  have F : rx_Fr Z := ⟨B.exec, B.bytes, hml, findClass_of_methodNamed B.named, fun w hw => hts w (List.mem_cons_of_mem _ hw), hK, fun hi => by rw [show (zMe Z).name = y.name from (name_of_methodNamed B.named B.method).1]; exact hini hi, Nat.le_refl _, Nat.le_refl _, Nat.le_refl _, Nat.le_refl _⟩
  have hBR : rx_BR Z r (u'.getD hf) := by
    intro pc ls H locs hrv hR' hl
    have hr0 : meth.sig.returnType = rt := B.returns
    have hq : ∀ v : Option Value, v = r.map (rx_ev G) → ∀ t : State, t.heap = H → s.WarmedH t.vm → rx_Qc G r (u'.getD hf) (as.map (rx_ev G)).toArray s (.returned v) t := fun v hv t ht _ => ⟨by rw [hv], by rw [ht]; exact hR'⟩
    rcases hrt with ⟨h1, h2, x, rfl⟩ | ⟨h1, h2, x, rfl⟩ | ⟨h1, x, rfl⟩ | ⟨h1, rfl⟩
    · exact W.iret B.exec B.bytes (hr0.trans h1) (hq (some (.int x)) rfl) hl hrv.1 (hlocks := B.notSynchronized)
    · refine W.zret (ty := .boolean) B.exec B.bytes (hr0.trans h1) ?_ (hq (some (.int x)) rfl) hl hrv.1 (hlocks := B.notSynchronized)
      rcases hrv.2 h2 with rfl | rfl <;> rfl
    · exact W.lret B.exec B.bytes (hr0.trans h1) (hq (some (.long x)) rfl) hl hrv (hlocks := B.notSynchronized)
    · exact W.vret B.exec B.bytes (hr0.trans h1) (hq none rfl) hl hrv (hlocks := B.notSynchronized)
  have hO := hS.2 Z hZM F (hRT Z hZM hBR)
  obtain ⟨-, hW⟩ := hO (Nat.le_refl _) (Nat.le_refl _)
  rw [lg_entry_eq]
  have := hW s.heap _ [] hR ((rx_ent_lo G hlen).le (rx_leq_le _ _ hls)) (fun q h => by cases h)
  have e1 : (rx_u Z u).2.length - zn0 Z = 0 := Nat.sub_self _
  have e2 : rx_sl (rx_u Z u) - zs0 Z = 0 := Nat.sub_self _
  rw [e1, e2] at this
  exact this
/-! the kinds of answer -/
theorem rx_RT_rI {Z : rx_Z} {l : Launch} {G : rx_G} {md : rx_Md} {hf : rx_H} {x : Int32} (hZ : rx_ZM Z l G md hf hf) (hB : rx_BR Z (some (.int x)) hf) : rx_RT Z rx_rI x := by
  intro v u h
  unfold rx_rI at h
  split at h
  · next y =>
    cases h
    obtain ⟨z1, z2, z3, z4, z5, z6⟩ := hZ
    have hu : rx_u Z none = hf := z3
    rw [hu]
    exact ⟨by rw [z5]; exact Nat.le_refl _, by rw [z6]; exact Nat.le_refl _, hB⟩
  · cases h
theorem rx_RT_rJ {Z : rx_Z} {l : Launch} {G : rx_G} {md : rx_Md} {hf : rx_H} {x : Int64} (hZ : rx_ZM Z l G md hf hf) (hB : rx_BR Z (some (.long x)) hf) : rx_RT Z rx_rJ x := by
  intro v u h
  unfold rx_rJ at h
  split at h
  · next y =>
    cases h
    obtain ⟨z1, z2, z3, z4, z5, z6⟩ := hZ
    have hu : rx_u Z none = hf := z3
    rw [hu]
    exact ⟨by rw [z5]; exact Nat.le_refl _, by rw [z6]; exact Nat.le_refl _, hB⟩
  · cases h
theorem rx_RT_hI {Z : rx_Z} {l : Launch} {G : rx_G} {md : rx_Md} {hf : rx_H} {x : Int32 × Option rx_H} (hZ : rx_ZM Z l G md hf (x.2.getD hf)) (hB : rx_BR Z (some (.int x.1)) (x.2.getD hf)) : rx_RT Z rx_hI x := by
  intro v u h
  unfold rx_hI at h
  split at h
  · next y =>
    cases h
    obtain ⟨z1, z2, z3, z4, z5, z6⟩ := hZ
    have hu : rx_u Z u = u.getD hf := by show u.getD (zh Z) = _; rw [z3]
    rw [hu]
    exact ⟨by rw [z5]; exact Nat.le_refl _, by rw [z6]; exact Nat.le_refl _, hB⟩
  · cases h
theorem rx_RT_hJ {Z : rx_Z} {l : Launch} {G : rx_G} {md : rx_Md} {hf : rx_H} {x : Int64 × Option rx_H} (hZ : rx_ZM Z l G md hf (x.2.getD hf)) (hB : rx_BR Z (some (.long x.1)) (x.2.getD hf)) : rx_RT Z rx_hJ x := by
  intro v u h
  unfold rx_hJ at h
  split at h
  · next y =>
    cases h
    obtain ⟨z1, z2, z3, z4, z5, z6⟩ := hZ
    have hu : rx_u Z u = u.getD hf := by show u.getD (zh Z) = _; rw [z3]
    rw [hu]
    exact ⟨by rw [z5]; exact Nat.le_refl _, by rw [z6]; exact Nat.le_refl _, hB⟩
  · cases h
theorem rx_RT_hV {Z : rx_Z} {l : Launch} {G : rx_G} {md : rx_Md} {hf : rx_H} {x : Option rx_H} (hZ : rx_ZM Z l G md hf (x.getD hf)) (hB : rx_BR Z none (x.getD hf)) : rx_RT Z rx_hV x := by
  intro v u h
  unfold rx_hV at h
  split at h
  · cases h
    obtain ⟨z1, z2, z3, z4, z5, z6⟩ := hZ
    have hu : rx_u Z x = x.getD hf := by show x.getD (zh Z) = _; rw [z3]
    rw [hu]
    exact ⟨by rw [z5]; exact Nat.le_refl _, by rw [z6]; exact Nat.le_refl _, hB⟩
  · cases h
theorem rx_m_rI {hf : rx_H} {x : Int32} (v : Option Value) (u : Option rx_H) (h : rx_rI v u = some x) : rx_mo hf hf u := by
  unfold rx_rI at h
  split at h
  · exact ⟨Nat.le_refl _, Nat.le_refl _⟩
  · cases h
theorem rx_m_rJ {hf : rx_H} {x : Int64} (v : Option Value) (u : Option rx_H) (h : rx_rJ v u = some x) : rx_mo hf hf u := by
  unfold rx_rJ at h
  split at h
  · exact ⟨Nat.le_refl _, Nat.le_refl _⟩
  · cases h
theorem rx_m_hI {hf : rx_H} {x : Int32 × Option rx_H} (v : Option Value) (u : Option rx_H) (h : rx_hI v u = some x) : rx_mo hf (x.2.getD hf) u := by
  unfold rx_hI at h
  split at h
  · cases h; exact ⟨Nat.le_refl _, Nat.le_refl _⟩
  · cases h
theorem rx_m_hJ {hf : rx_H} {x : Int64 × Option rx_H} (v : Option Value) (u : Option rx_H) (h : rx_hJ v u = some x) : rx_mo hf (x.2.getD hf) u := by
  unfold rx_hJ at h
  split at h
  · cases h; exact ⟨Nat.le_refl _, Nat.le_refl _⟩
  · cases h
theorem rx_m_hV {hf : rx_H} {x : Option rx_H} (v : Option Value) (u : Option rx_H) (h : rx_hV v u = some x) : rx_mo hf (x.getD hf) u := by
  unfold rx_hV at h
  split at h
  · cases h; exact ⟨Nat.le_refl _, Nat.le_refl _⟩
  · cases h
theorem rx_rec_eq {α : Type} {z : α} {b : Bool} {x y : Option α} (h : (Bool.rec (motive := fun _ => Option α) x y b) = some z) : (b = true ∧ y = some z) ∨ (b = false ∧ x = some z) := by
  cases b
  · exact Or.inr ⟨rfl, h⟩
  · exact Or.inl ⟨rfl, h⟩
theorem rx_S.le {α : Type} {l : Launch} {G : rx_G} {md : rx_Md} {hf fin : rx_H} {ret : rx_K α} {z : α} {t : Nat} {a b : rx_L} {st : List Value} {u : Option rx_H} (h : rx_S l G md hf fin ret z t a st u) (hl : rx_leq a b) : rx_S l G md hf fin ret z t b st u := ⟨h.1, fun Z hZ F hR => (h.2 Z hZ F hR).le (rx_leq_le _ _ hl)⟩
/-- what a caller gets of a callee -/
def rx_Cw {α : Type} (l : Launch) (G : rx_G) (D j : Nat) (as : List Value) (u : Option rx_H) (κ : rx_K α) (z : α) : Prop := ∃ (r : Option Value) (u' : Option rx_H) (cw : Cond) (n : Nat), κ r u' = some z ∧ rx_Cal (rx_ny j) cw (rx_kd j) n ∧ (rx_kd j = 0 → as.length = n) ∧ (¬ rx_kd j = 0 → ∃ (r0 : Nat) (as' : List Value), as = .ref r0 :: as' ∧ as'.length = n) ∧ ∀ hf : rx_H, rx_Ok l G D (rx_ny j) cw as (u.getD hf) r (u'.getD hf)
theorem rx_Cw.deep {α : Type} {l : Launch} {G : rx_G} {D E j : Nat} {as : List Value} {u : Option rx_H} {κ : rx_K α} {z : α} (h : rx_Cw l G D j as u κ z) (hDE : D ≤ E) : rx_Cw l G E j as u κ z := by
  obtain ⟨r, u', cw, n, h1, h2, h3, h4, h5⟩ := h
  exact ⟨r, u', cw, n, h1, h2, h3, h4, fun hf => (h5 hf).deep hDE⟩
