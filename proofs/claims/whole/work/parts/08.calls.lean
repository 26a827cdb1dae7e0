/-! ===== Calls ===== -/
def rx_Pc (G : rx_G) (as : List Value) (h : rx_H) : Array Value → State → Prop := fun v U => v = (as.map (rx_ev G)).toArray ∧ rx_R G h U.heap ∧ rx_Ks G U
def rx_Qc (G : rx_G) (r : Option Value) (h' : rx_H) : Array Value → State → Outcome → State → Prop := fun _ _ o t => o = .returned (r.map (rx_ev G)) ∧ rx_R G h' t.heap
def rx_rm (D : Nat) (h h' : rx_H) : Room := { frames := D, cells := h'.2.length - h.2.length, slots := rx_sl h' - rx_sl h, locals := 64 * D }
/-- a method, from a picture to a picture: its contract, at most so deep -/
def rx_Ok (l : Launch) (G : rx_G) (D : Nat) (y : MethodName) (cw : Cond) (as : List Value) (h : rx_H) (r : Option Value) (h' : rx_H) : Prop :=
  (h.2.length ≤ h'.2.length ∧ rx_sl h ≤ rx_sl h') ∧ ∃ D', D' ≤ D ∧ Met l y (cw :: rx_TB) (rx_rm D' h h') (rx_Pc G as h) (rx_Qc G r h') (h'.2.length - h.2.length) (rx_sl h' - rx_sl h) (fun q => rx_base G ≤ q)
theorem rx_Ok.deep {l : Launch} {G : rx_G} {D E : Nat} {y : MethodName} {cw : Cond} {as : List Value} {h : rx_H} {r : Option Value} {h' : rx_H} (hk : rx_Ok l G D y cw as h r h') (hDE : D ≤ E) : rx_Ok l G E y cw as h r h' := by
  obtain ⟨h1, D', h2, h3⟩ := hk
  exact ⟨h1, D', Nat.le_trans h2 hDE, h3⟩
/-- what the tables say of a callee; 'cw' is its code's word -/
def rx_Cal (y : MethodName) (cw : Cond) (kd n : Nat) : Prop := ∃ (bytes : ByteArray) (maxL : Nat) (ret : Option FieldType), (cw = .code y bytes maxL ret ∨ (∃ hh, cw = .codeWith y bytes maxL ret hh) ∧ ¬ kd = 2) ∧ cw ∈ rx_TB ∧ Cond.initialized y.cls ∈ rx_TB ∧
  (y.cls ≠ "java/lang/invoke/MethodHandle" ∧ y.cls ≠ "java/lang/invoke/VarHandle" ∧ (parseMethodDescriptor y.desc).map (fun d => d.parameters.length) = some n) ∧ maxL ≤ 40 ∧
  (kd = 0 → Cond.static y ∈ rx_TB) ∧ (kd = 1 → Cond.instanceMethod y ∈ rx_TB ∧ Cond.selects y.cls y y ∈ rx_TB) ∧ (kd = 2 → y.name = "<init>" ∧ Cond.instanceMethod y ∈ rx_TB ∧ ret = none)
theorem rx_gi {w : Cond} (h : w ∈ rx_TB) : GoodIn rx_TB (w :: rx_TB) := fun x hx => (List.mem_cons.mp hx).elim (fun e => ⟨e ▸ h, rx_good _ (e ▸ h)⟩) (fun e => ⟨e, rx_good _ e⟩)
theorem rx_blind (G : rx_G) (as : List Value) (h : rx_H) : FrameBlind (rx_Pc G as h) := fun a U g mk q => ⟨q.1, q.2.1, rx_Ks.same (s := U) (U := U.calling g mk a) rfl q.2.2⟩
section rxC
variable {Z : rx_Z} {pc : Nat} {als : rx_L} {u u' : Option rx_H} {cw : Cond} {n i j : Nat} {as rest : List Value} {r : Option Value}
/-- behind a call -/
theorem rx_after {H : Heap} {locs : List Loc} {ls : Array Slot} {cells slots mc ms : Nat} {st0 : List Value} {Qa : State → Outcome → State → Prop} {h' : rx_H} (hQ : ∀ st o t, Qa st o t → o = .returned (r.map (rx_ev (zG Z))) ∧ rx_R (zG Z) h' t.heap)
    (hr : va_Run (zP Z) (zL Z) (zE Z) (zR Z) (zS Z) (zM Z) (zA Z) (zB Z) (zMe Z) (zC Z) H locs cells slots mc ms (F0 (zM Z) pc ls st0) (rest.map (rx_ev (zG Z))) Qa (fun q => rx_base (zG Z) ≤ q)) (h3 : ∀ q ∈ locs, rx_base (zG Z) ≤ q.base)
    (kk : ∀ (H' : Heap) (locs' : List Loc), rx_R (zG Z) h' H' → (∀ q ∈ locs', rx_base (zG Z) ≤ q.base) → zW Z H' locs' (cells + mc) (slots + ms) (F0 (zM Z) (pc + 3) ls ((r.toList ++ rest).map (rx_ev (zG Z))))) : zW Z H locs cells slots (F0 (zM Z) pc ls st0) := by
  intro T hT X
  obtain ⟨v, st₀, t, T', L, e0, X', hL, e1, e2, hq, st⟩ := hr T hT X
  obtain ⟨hv, hR⟩ := hQ _ _ _ hq
  cases hv
  obtain ⟨t2, a1, b1⟩ := kk T'.heap (locs ++ L) (by rw [e1]; exact hR) (t_lL h3 hL) T' rfl X'
  refine ⟨t2, st t2 ?_, b1⟩
  have : (r.toList ++ rest).map (rx_ev (zG Z)) = (r.map (rx_ev (zG Z))).toList ++ rest.map (rx_ev (zG Z)) := by cases r <;> simp
  rw [this] at a1
  exact a1
/-- the room of a call -/
theorem rx_room (F : rx_Fr Z) (hok : rx_Ok (zL Z) (zG Z) (zd Z) (rx_ny j) cw as (rx_u Z u) r (rx_u Z u')) (k : rx_O Z (pc + 3) als (r.toList ++ rest) u') {st : List Value}
    (step : ∀ D', D' ≤ zd Z → Met (zL Z) (rx_ny j) (cw :: rx_TB) (rx_rm D' (rx_u Z u) (rx_u Z u')) (rx_Pc (zG Z) as (rx_u Z u)) (rx_Qc (zG Z) r (rx_u Z u')) ((rx_u Z u').2.length - (rx_u Z u).2.length) (rx_sl (rx_u Z u') - rx_sl (rx_u Z u)) (fun q => rx_base (zG Z) ≤ q) →
      (((rx_u Z u).2.length - zn0 Z) + ((rx_u Z u').2.length - (rx_u Z u).2.length) ≤ (zR Z).cells ∧ (rx_sl (rx_u Z u) - zs0 Z) + (rx_sl (rx_u Z u') - rx_sl (rx_u Z u)) ≤ (zR Z).slots) → (D' + 1 ≤ (zR Z).frames ∧ 64 * D' + 64 ≤ (zR Z).locals) →
      (∀ (H' : Heap) (ls : Array Slot) (locs' : List Loc), rx_R (zG Z) (rx_u Z u') H' → rx_lo (zG Z) ls (zn Z) als → (∀ q ∈ locs', rx_base (zG Z) ≤ q.base) → zW Z H' locs' (((rx_u Z u).2.length - zn0 Z) + ((rx_u Z u').2.length - (rx_u Z u).2.length)) ((rx_sl (rx_u Z u) - zs0 Z) + (rx_sl (rx_u Z u') - rx_sl (rx_u Z u))) (F0 (zM Z) (pc + 3) ls ((r.toList ++ rest).map (rx_ev (zG Z))))) → rx_WS Z pc als st u) : rx_O Z pc als st u := by
  obtain ⟨⟨m1, m2⟩, D', hD, hM⟩ := hok
  intro g1 g2
  obtain ⟨⟨g3, g4⟩, g5⟩ := k (Nat.le_trans g1 m1) (Nat.le_trans g2 m2)
  obtain ⟨f1, f2, f3, f4⟩ := F.2.2.2.2.2.2.2
  refine ⟨⟨Nat.le_trans m1 g3, Nat.le_trans m2 g4⟩, step D' hD hM ⟨by omega, by omega⟩ ⟨by omega, by omega⟩ fun H' ls locs' h1 h2 h3 => ?_⟩
  have := g5 H' ls locs' h1 h2 h3
  have e1 : ((rx_u Z u).2.length - zn0 Z) + ((rx_u Z u').2.length - (rx_u Z u).2.length) = (rx_u Z u').2.length - zn0 Z := by omega
  have e2 : (rx_sl (rx_u Z u) - zs0 Z) + (rx_sl (rx_u Z u') - rx_sl (rx_u Z u)) = rx_sl (rx_u Z u') - zs0 Z := by omega
  rw [e1, e2]
  exact this
theorem rx_mapRev (G : rx_G) (as rest : List Value) : (as.reverse ++ rest).map (rx_ev G) = (as.map (rx_ev G)).reverse ++ rest.map (rx_ev G) := by simp
theorem rx_sig {y : MethodName} (h : (parseMethodDescriptor y.desc).map (fun d => d.parameters.length) = some n) : ∀ sig, parseMethodDescriptor y.desc = some sig → n = sig.parameters.length := by
  intro sig hs
  rw [hs] at h
  exact (Option.some.inj h).symm
theorem rx_t_callS (F : rx_Fr Z) (hl : Cond.methodLink (zo Z) i (rx_ny j) ∈ rx_TB) (hc : rx_Cal (rx_ny j) cw 0 n) (hn : as.length = n) (hcat : rx_cat rest ≤ 8) (hok : rx_Ok (zL Z) (zG Z) (zd Z) (rx_ny j) cw as (rx_u Z u) r (rx_u Z u')) (hd : decode (zcc Z) pc = .ok (.invokestatic i, 3)) (k : rx_O Z (pc + 3) als (r.toList ++ rest) u') : rx_O Z pc als (as.reverse ++ rest) u := by
  refine rx_room F hok k fun D' hD hM hf hfr kk H ls locs h1 h2 h3 => ?_
  obtain ⟨bytes, maxL, ret, hcw, c1, c2, c3, c4, c6, c7, c8⟩ := hc
  have hts := F.2.2.2.2.1
  have hst : (as.reverse ++ rest).map (rx_ev (zG Z)) = (as.map (rx_ev (zG Z))).reverse ++ rest.map (rx_ev (zG Z)) := by simp
  have hcat2 : 2 * (F0 (zM Z) pc ls ((as.reverse ++ rest).map (rx_ev (zG Z)))).monitorRoom + ((rest.map (rx_ev (zG Z))).map fun v => v.category).sum ≤ 8 := by
    show 2 * 0 + _ ≤ 8
    rw [rx_cat_eq]
    omega
  have hpre : PreS (zS Z) H (rx_Pc (zG Z) as (rx_u Z u)) (as.map (rx_ev (zG Z))) := ⟨rx_blind _ _ _, fun U hU hW => ⟨rfl, by rw [hU]; exact h1, F.2.2.2.2.2.1.warm hW⟩⟩
  rcases hcw with rfl | ⟨⟨hh, rfl⟩, -⟩
  · have cb : CallB (zR Z) (zS Z) (zA Z) (zo Z) i (rx_ny j) bytes maxL ret (Cond.code (rx_ny j) bytes maxL ret :: rx_TB) (rx_rm D' (rx_u Z u) (rx_u Z u')) ((rx_u Z u').2.length - (rx_u Z u).2.length) (rx_sl (rx_u Z u') - rx_sl (rx_u Z u)) n :=
      callB_of n hts (rx_gi c1) rfl rfl rfl (hts _ c2) (hts _ hl) c3 ⟨hfr.1, by show 8 + (maxL + 11) + 64 * D' ≤ _; omega⟩
    have hrun := va_runS (below := zB Z) (e := zE Z) (meth := zMe Z) (locs := locs) (As := as.map (rx_ev (zG Z))) (rest := rest.map (rx_ev (zG Z))) (g := F0 (zM Z) pc ls ((as.reverse ++ rest).map (rx_ev (zG Z)))) (nL := zn Z) (cc := zcc Z) ⟨F.1, F.2.1, F.2.2.1, F.2.2.2.1, hts⟩ hM ⟨cb, hts _ (c6 rfl)⟩ hpre rfl (by simpa using hn) h2.2.1 hst hcat2 hd hf
    exact rx_after (Qa := rx_Qc (zG Z) r (rx_u Z u') (as.map (rx_ev (zG Z))).toArray) (fun _ _ _ q => q) hrun h3 (fun H' locs' g1 g2 => kk H' ls locs' g1 h2 g2)
  · have cb : vx_CSW (zR Z) (zS Z) (zA Z) (zo Z) i (rx_ny j) bytes maxL ret hh (Cond.codeWith (rx_ny j) bytes maxL ret hh :: rx_TB) (rx_rm D' (rx_u Z u) (rx_u Z u')) ((rx_u Z u').2.length - (rx_u Z u).2.length) (rx_sl (rx_u Z u') - rx_sl (rx_u Z u)) n :=
      ⟨⟨rfl, rfl, hfr.1, by show 8 + (maxL + 11) + 64 * D' ≤ _; omega, pay_in hts (rx_gi c1), List.mem_cons_self⟩, hts _ c1, hts _ c2, ⟨c3.1, c3.2.1⟩, rx_sig c3.2.2, hts _ hl, hts _ (c6 rfl)⟩
    have hrun := vx_runSW (below := zB Z) (e := zE Z) (meth := zMe Z) (locs := locs) (As := as.map (rx_ev (zG Z))) (rest := rest.map (rx_ev (zG Z))) (g := F0 (zM Z) pc ls ((as.reverse ++ rest).map (rx_ev (zG Z)))) (nL := zn Z) (cc := zcc Z) ⟨F.1, F.2.1, F.2.2.1, F.2.2.2.1, hts⟩ hM cb hpre rfl (by simpa using hn) h2.2.1 hst hcat2 hd hf
    exact rx_after (Qa := rx_Qc (zG Z) r (rx_u Z u') (as.map (rx_ev (zG Z))).toArray) (fun _ _ _ q => q) hrun h3 (fun H' locs' g1 g2 => kk H' ls locs' g1 h2 g2)
theorem rx_ck_some {r0 c : Nat} (h : rx_ck u r0 c = some ()) : ∃ (h0 : rx_H) (fs : List Value), u = some h0 ∧ h0.2[r0]? = some (.inr (c, fs)) := by
  unfold rx_ck at h
  split at h
  · cases h
  next h0 =>
  split at h
  · next c' fs hc =>
    split at h
    · next he => subst he; exact ⟨h0, fs, rfl, hc⟩
    · cases h
  · cases h
theorem rx_t_callV (F : rx_Fr Z) {r0 ci : Nat} {q : vw_C} (hci : rx_cl[ci]? = some q) (hq : (rx_ny j).cls = q.1) (hck : rx_ck u r0 ci = some ()) (hl : Cond.methodLink (zo Z) i (rx_ny j) ∈ rx_TB) (hc : rx_Cal (rx_ny j) cw 1 n) (hn : as.length = n) (hcat : rx_cat rest ≤ 8) (hok : rx_Ok (zL Z) (zG Z) (zd Z) (rx_ny j) cw (.ref r0 :: as) (rx_u Z u) r (rx_u Z u')) (hd : decode (zcc Z) pc = .ok (.invokevirtual i, 3)) (k : rx_O Z (pc + 3) als (r.toList ++ rest) u') : rx_O Z pc als ((Value.ref r0 :: as).reverse ++ rest) u := by
  refine rx_room F hok k fun D' hD hM hf hfr kk H ls locs h1 h2 h3 => ?_
  obtain ⟨bytes, maxL, ret, hcw, c1, c2, c3, c4, c6, c7, c8⟩ := hc
  obtain ⟨h0, fs, rfl, hr0⟩ := rx_ck_some hck
  have hR : rx_R (zG Z) h0 H := h1
  have hts := F.2.2.2.2.1
  obtain ⟨q', hq', hlen, cell, q1, q2, q3, q4⟩ := hR.1 r0 _ hr0
  have hst : ((Value.ref r0 :: as).reverse ++ rest).map (rx_ev (zG Z)) = (as.map (rx_ev (zG Z))).reverse ++ .ref (rx_base (zG Z) + r0) :: rest.map (rx_ev (zG Z)) := by
    simp [rx_ev, rx_ad_lt _ (rx_lt6 hR hr0)]
  have hat : ((Value.ref r0 :: as).map (rx_ev (zG Z))).toArray = (Value.ref (rx_base (zG Z) + r0) :: as.map (rx_ev (zG Z))).toArray := by simp [rx_ev, rx_ad_lt _ (rx_lt6 hR hr0)]
  have hcat2 : 2 * (F0 (zM Z) pc ls (((Value.ref r0 :: as).reverse ++ rest).map (rx_ev (zG Z)))).monitorRoom + ((rest.map (rx_ev (zG Z))).map fun v => v.category).sum ≤ 8 := by
    show 2 * 0 + _ ≤ 8
    rw [rx_cat_eq]
    omega
  have hpre : PreV (zS Z) H (rx_ny j).cls (rx_base (zG Z) + r0) (rx_Pc (zG Z) (.ref r0 :: as) (rx_u Z (some h0))) (as.map (rx_ev (zG Z))) := ⟨rx_blind _ _ _, ⟨cell, q1, by rw [q3]; rfl, by rw [q2, hq]; exact (F.2.2.2.2.2.1.1.1 ci q hci).2.1⟩, fun U hU hW => ⟨hat.symm, by rw [hU]; exact h1, F.2.2.2.2.2.1.warm hW⟩⟩
  rcases hcw with rfl | ⟨⟨hh, rfl⟩, -⟩
  · have cb : CallB (zR Z) (zS Z) (zA Z) (zo Z) i (rx_ny j) bytes maxL ret (Cond.code (rx_ny j) bytes maxL ret :: rx_TB) (rx_rm D' (rx_u Z (some h0)) (rx_u Z u')) ((rx_u Z u').2.length - (rx_u Z (some h0)).2.length) (rx_sl (rx_u Z u') - rx_sl (rx_u Z (some h0))) n :=
      callB_of n hts (rx_gi c1) rfl rfl rfl (hts _ c2) (hts _ hl) c3 ⟨hfr.1, by show 8 + (maxL + 11) + 64 * D' ≤ _; omega⟩
    have hrun := va_runV (below := zB Z) (e := zE Z) (meth := zMe Z) (locs := locs) (b := rx_base (zG Z) + r0) (C := (rx_ny j).cls) (As := as.map (rx_ev (zG Z))) (rest := rest.map (rx_ev (zG Z))) (g := F0 (zM Z) pc ls (((Value.ref r0 :: as).reverse ++ rest).map (rx_ev (zG Z)))) (nL := zn Z) (cc := zcc Z) ⟨F.1, F.2.1, F.2.2.1, F.2.2.2.1, hts⟩ hM ⟨cb, hts _ (c7 rfl).1, hts _ (c7 rfl).2⟩ hpre rfl (by simpa using hn) h2.2.1 hst hcat2 hd hf
    exact rx_after (Qa := rx_Qc (zG Z) r (rx_u Z u') (Value.ref (rx_base (zG Z) + r0) :: as.map (rx_ev (zG Z))).toArray) (fun _ _ _ q => q) hrun h3 (fun H' locs' g1 g2 => kk H' ls locs' g1 h2 g2)
  · have cb : vx_CVW (zR Z) (zS Z) (zA Z) (zo Z) (rx_ny j).cls i (rx_ny j) bytes maxL ret hh (Cond.codeWith (rx_ny j) bytes maxL ret hh :: rx_TB) (rx_rm D' (rx_u Z (some h0)) (rx_u Z u')) ((rx_u Z u').2.length - (rx_u Z (some h0)).2.length) (rx_sl (rx_u Z u') - rx_sl (rx_u Z (some h0))) n :=
      ⟨⟨rfl, rfl, hfr.1, by show 8 + (maxL + 11) + 64 * D' ≤ _; omega, pay_in hts (rx_gi c1), List.mem_cons_self⟩, hts _ c1, hts _ c2, ⟨c3.1, c3.2.1⟩, rx_sig c3.2.2, hts _ hl, hts _ (c7 rfl).1, hts _ (c7 rfl).2⟩
    have hrun := vx_runVW (below := zB Z) (e := zE Z) (meth := zMe Z) (locs := locs) (b := rx_base (zG Z) + r0) (C := (rx_ny j).cls) (As := as.map (rx_ev (zG Z))) (rest := rest.map (rx_ev (zG Z))) (g := F0 (zM Z) pc ls (((Value.ref r0 :: as).reverse ++ rest).map (rx_ev (zG Z)))) (nL := zn Z) (cc := zcc Z) ⟨F.1, F.2.1, F.2.2.1, F.2.2.2.1, hts⟩ hM cb hpre rfl (by simpa using hn) h2.2.1 hst hcat2 hd hf
    exact rx_after (Qa := rx_Qc (zG Z) r (rx_u Z u') (Value.ref (rx_base (zG Z) + r0) :: as.map (rx_ev (zG Z))).toArray) (fun _ _ _ q => q) hrun h3 (fun H' locs' g1 g2 => kk H' ls locs' g1 h2 g2)
theorem rx_t_callI (F : rx_Fr Z) {r0 : Nat} (hl : Cond.methodLink (zo Z) i (rx_ny j) ∈ rx_TB ∨ va_Nw (.methodLinkNest (zo Z) i (rx_ny j) "SetHouse") (zS Z)) (hc : rx_Cal (rx_ny j) cw 2 n) (hn : as.length = n) (hcat : rx_cat rest ≤ 8) (hok : rx_Ok (zL Z) (zG Z) (zd Z) (rx_ny j) cw (.ref r0 :: as) (rx_u Z u) r (rx_u Z u')) (hd : decode (zcc Z) pc = .ok (.invokespecial i, 3)) (k : rx_O Z (pc + 3) als (r.toList ++ rest) u') : rx_O Z pc als ((Value.ref r0 :: as).reverse ++ rest) u := by
  refine rx_room F hok k fun D' hD hM hf hfr kk H ls locs h1 h2 h3 => ?_
  obtain ⟨bytes, maxL, ret, hcw, c1, c2, c3, c4, c6, c7, c8⟩ := hc
  obtain ⟨d1, d2, rfl⟩ := c8 rfl
  rcases hcw with rfl | ⟨-, hno⟩
  case inr => exact absurd rfl hno
  have hts := F.2.2.2.2.1
  have hst : ((Value.ref r0 :: as).reverse ++ rest).map (rx_ev (zG Z)) = (as.map (rx_ev (zG Z))).reverse ++ .ref (rx_ad (zG Z) r0) :: rest.map (rx_ev (zG Z)) := by
    simp [rx_ev]
  have hat : ((Value.ref r0 :: as).map (rx_ev (zG Z))).toArray = (Value.ref (rx_ad (zG Z) r0) :: as.map (rx_ev (zG Z))).toArray := by simp [rx_ev]
  have hcat2 : 2 * (F0 (zM Z) pc ls (((Value.ref r0 :: as).reverse ++ rest).map (rx_ev (zG Z)))).monitorRoom + ((rest.map (rx_ev (zG Z))).map fun v => v.category).sum ≤ 8 := by
    show 2 * 0 + _ ≤ 8
    rw [rx_cat_eq]
    omega
  rcases hl with hl | hl
  · have cb : CallB (zR Z) (zS Z) (zA Z) (zo Z) i (rx_ny j) bytes maxL none (Cond.code (rx_ny j) bytes maxL none :: rx_TB) (rx_rm D' (rx_u Z u) (rx_u Z u')) ((rx_u Z u').2.length - (rx_u Z u).2.length) (rx_sl (rx_u Z u') - rx_sl (rx_u Z u)) n :=
      callB_of n hts (rx_gi c1) rfl rfl rfl (hts _ c2) (hts _ hl) c3 ⟨hfr.1, by show 8 + (maxL + 11) + 64 * D' ≤ _; omega⟩
    exact rx_after (Qa := rx_Qc (zG Z) r (rx_u Z u') (Value.ref (rx_ad (zG Z) r0) :: as.map (rx_ev (zG Z))).toArray) (fun _ _ _ q => q) (va_runI (b := rx_ad (zG Z) r0) (As := as.map (rx_ev (zG Z))) (nL := zn Z) (cc := zcc Z) ⟨F.1, F.2.1, F.2.2.1, F.2.2.2.1, hts⟩ hM ⟨cb, d1, hts _ d2⟩ ⟨rx_blind _ _ _, fun U hU hW => ⟨hat.symm, by rw [hU]; exact h1, F.2.2.2.2.2.1.warm hW⟩⟩ rfl (by simpa using hn) h2.2.1 hst hcat2 hd hf) h3 (fun H' locs' g1 g2 => kk H' ls locs' g1 h2 g2)
  · have cb : va_CN (zR Z) (zS Z) (zA Z) (zo Z) i (rx_ny j) "SetHouse" bytes maxL none (Cond.code (rx_ny j) bytes maxL none :: rx_TB) (rx_rm D' (rx_u Z u) (rx_u Z u')) ((rx_u Z u').2.length - (rx_u Z u).2.length) (rx_sl (rx_u Z u') - rx_sl (rx_u Z u)) n :=
      va_cnB n hts (rx_gi c1) rfl rfl rfl hl (hts _ c2) c3 ⟨hfr.1, by show 8 + (maxL + 11) + 64 * D' ≤ _; omega⟩
    exact rx_after (Qa := rx_Qc (zG Z) r (rx_u Z u') (Value.ref (rx_ad (zG Z) r0) :: as.map (rx_ev (zG Z))).toArray) (fun _ _ _ q => q) (va_runIN (b := rx_ad (zG Z) r0) (As := as.map (rx_ev (zG Z))) (nL := zn Z) (cc := zcc Z) ⟨F.1, F.2.1, F.2.2.1, F.2.2.2.1, hts⟩ hM ⟨cb, d1, hts _ d2⟩ ⟨rx_blind _ _ _, fun U hU hW => ⟨hat.symm, by rw [hU]; exact h1, F.2.2.2.2.2.1.warm hW⟩⟩ rfl (by simpa using hn) h2.2.1 hst hcat2 hd hf) h3 (fun H' locs' g1 g2 => kk H' ls locs' g1 h2 g2)
theorem rx_t_obj (F : rx_Fr Z) {r0 : Nat} {st : List Value} (hl : Cond.methodLink (zo Z) i Lib.objectInit ∈ rx_TB) (h5 : Cond.instanceMethod Lib.objectInit ∈ rx_TB) (h6 : Cond.code Lib.objectInit ⟨#[0xb1]⟩ 1 none ∈ rx_TB) (hcat : rx_cat st ≤ 8) (hd : decode (zcc Z) pc = .ok (.invokespecial i, 3)) (k : rx_WS Z (pc + 3) als st u) : rx_WS Z pc als (.ref r0 :: st) u := by
  intro H ls locs h1 h2 h3
  have hts := F.2.2.2.2.1
  obtain ⟨f1, f2, f3, f4⟩ := F.2.2.2.2.2.2.2
  refine W.objInit F.1 F.2.1 F.2.2.2.1 (hts _ hl) (hts _ h5) (hts _ h6) (g := F0 (zM Z) pc ls (.ref (rx_ad (zG Z) r0) :: st.map (rx_ev (zG Z)))) rfl (h2.2.1.trans F.2.2.1.symm) rfl hd (by omega) ?_ (k H ls locs h1 h2 h3)
  show 2 * 0 + _ + 12 ≤ _
  rw [rx_cat_eq]
  omega
/-- System.arraycopy of longs -/
theorem rx_t_copy (F : rx_Fr Z) {st : List Value} {r0 r1 : Nat} {sp dp n : Int32} (hl : Cond.methodLink (zo Z) i arraycopyName ∈ rx_TB) (h5 : Cond.native arraycopyName ∈ rx_TB) (h6 : Cond.static arraycopyName ∈ rx_TB) (h7 : Cond.initialized "java/lang/System" ∈ rx_TB) (hcat : rx_cat st ≤ 8) (hx : rx_cp u r0 sp r1 dp n = some u') (hd : decode (zcc Z) pc = .ok (.invokestatic i, 3)) (kk : rx_O Z (pc + 3) als st u') : rx_O Z pc als (.int n :: .int dp :: .ref r1 :: .int sp :: .ref r0 :: st) u := by
  unfold rx_cp at hx
  split at hx
  · cases hx
  next h0 =>
  split at hx
  case h_2 => cases hx
  next n0 f n1 g hc0 hc1 =>
  split at hx
  case isTrue => cases hx
  next hi =>
  cases hx
  have b1 : ¬ sp < 0 := fun q => hi (Or.inl q)
  have b2 : ¬ dp < 0 := fun q => hi (Or.inr (Or.inl q))
  have b3 : ¬ n < 0 := fun q => hi (Or.inr (Or.inr (Or.inl q)))
  have b4 : sp.toNatClampNeg + n.toNatClampNeg ≤ n0 := Nat.not_lt.mp fun q => hi (Or.inr (Or.inr (Or.inr (Or.inl q))))
  have b5 : dp.toNatClampNeg + n.toNatClampNeg ≤ n1 := Nat.not_lt.mp fun q => hi (Or.inr (Or.inr (Or.inr (Or.inr q))))
  refine rx_putA hc1 (by rfl) kk fun k H ls locs h1 h2 h3 => ?_
  have hR : rx_R (zG Z) h0 H := h1
  have hts := F.2.2.2.2.1
  obtain ⟨f1, f2, f3, f4⟩ := F.2.2.2.2.2.2.2
  show W _ _ _ _ _ _ _ _ _ _ H locs _ _ _ (F0 _ pc ls (.int n :: .int dp :: .ref (rx_ad (zG Z) r1) :: .int sp :: .ref (rx_ad (zG Z) r0) :: st.map (rx_ev (zG Z))))
  rw [rx_ad_lt _ (rx_lt6 hR hc0), rx_ad_lt _ (rx_lt6 hR hc1)]
  have hK := F.2.2.2.2.2.1.1
  obtain ⟨-, k0, hk0, cm0, hkk0⟩ := (hK.2 1 _ rfl).1 n0 (fun j => .long (f j))
  obtain ⟨-, k1, hk1, cm1, hkk1⟩ := (hK.2 1 _ rfl).1 n1 (fun j => .long (g j))
  have nn : ∀ z : Int32, ¬ z < 0 → z.toInt = (z.toNatClampNeg : Int) := by
    intro z hz
    have hz0 : (0 : Int) ≤ z.toInt := by
      have := Int32.not_lt.mp hz
      simpa using Int32.le_iff_toInt_le.mp this
    show z.toInt = ((z.toInt.toNat : Nat) : Int)
    omega
  have e0 : H[rx_base (zG Z) + r0]? = some (arrV (rx_cJ (zG Z)) n0 (fun j => .long (f j))) := hR.1 r0 _ hc0
  have e1 : H[rx_base (zG Z) + r1]? = some (arrV (rx_cJ (zG Z)) n1 (fun j => .long (g j))) := hR.1 r1 _ hc1
  intro T hT X
  obtain ⟨vm', X', step⟩ := X.arraycopy F.1 F.2.2.2.1 (hts _ hl) (hts _ h5) (hts _ h6) (hts _ h7) (src := rx_base (zG Z) + r0) (dst := rx_base (zG Z) + r1) (cs := arrV (rx_cJ (zG Z)) n0 (fun j => .long (f j))) (cd := arrV (rx_cJ (zG Z)) n1 (fun j => .long (g j))) (srcPos := sp) (destPos := dp) (n := n) (by rw [hT]; exact e0) (by rw [hT]; exact e1)
    (fun _ h => by cases h) (fun _ h => by cases h) (fun h => by cases h) (fun h => by cases h) hk0 hk1 hkk0 hkk1 rfl b1 b2 b3
    (by rw [nn sp b1, nn n b3, arrV_size]; omega)
    (by rw [nn dp b2, nn n b3, arrV_size]; omega)
    (fun vm₁ _ i hi => by
      have e : (arrV (rx_cJ (zG Z)) n0 (fun j => .long (f j))).slots.getD (sp.toNatClampNeg + i) .null = .long (f (sp.toNatClampNeg + i)) := by
        rw [Array.getD_eq_getD_getElem?, arrV_read _ _ (by omega)]
        rfl
      refine ⟨?_, ?_⟩
      · rw [e]; rfl
      · rw [e]; exact trivial)
    (g := F0 (zM Z) pc ls (.int n :: .int dp :: .ref (rx_base (zG Z) + r1) :: .int sp :: .ref (rx_base (zG Z) + r0) :: st.map (rx_ev (zG Z)))) rfl (h2.2.1.trans F.2.2.1.symm) (rest := st.map (rx_ev (zG Z))) rfl (by rw [F.2.1]; exact hd) (by omega) (by
      show 2 * 0 + _ + _ ≤ _
      rw [rx_cat_eq]
      have : nativeFrameWords "java/lang/System" "arraycopy" 5 + 11 ≤ 56 := by decide +kernel
      omega)
  have ecp : copied (arrV (rx_cJ (zG Z)) n0 (fun j => .long (f j))) (arrV (rx_cJ (zG Z)) n1 (fun j => .long (g j))) sp dp n = arrV (rx_cJ (zG Z)) n1 (fun j => .long (va_cpy f g sp.toNatClampNeg dp.toNatClampNeg n.toNatClampNeg j)) := va_copied (fun z => .long z) _ _ f g b4
  rw [ecp] at X' step
  have hlt : rx_base (zG Z) + r1 < H.size := (Array.getElem?_eq_some_iff.mp e1).1
  have hheap : ((T.setVm vm').setCell (rx_base (zG Z) + r1) (arrV (rx_cJ (zG Z)) n1 (fun j => .long (va_cpy f g sp.toNatClampNeg dp.toNatClampNeg n.toNatClampNeg j)))).heap = H.setIfInBounds (rx_base (zG Z) + r1) (arrV (rx_cJ (zG Z)) n1 (fun j => .long (va_cpy f g sp.toNatClampNeg dp.toNatClampNeg n.toNatClampNeg j))) := by rw [← hT]; rfl
  have oq : ∀ q : Nat, q ≠ rx_base (zG Z) + r1 → (H.setIfInBounds (rx_base (zG Z) + r1) (arrV (rx_cJ (zG Z)) n1 (fun j => .long (va_cpy f g sp.toNatClampNeg dp.toNatClampNeg n.toNatClampNeg j))))[q]? = H[q]? := fun q hq => by simp [Array.getElem?_setIfInBounds, Ne.symm hq]
  obtain ⟨t, a1, d1⟩ := k (H.setIfInBounds (rx_base (zG Z) + r1) (arrV (rx_cJ (zG Z)) n1 (fun j => .long (va_cpy f g sp.toNatClampNeg dp.toNatClampNeg n.toNatClampNeg j)))) ls _ (hR.set hc1 (show (H.setIfInBounds _ _)[_]? = some _ by simp [Array.getElem?_setIfInBounds, hlt]) (by simp) oq) h2 (fun q hq => by
      rcases List.mem_append.mp hq with h | h
      · exact h3 q h
      · obtain ⟨z, -, hz⟩ := List.mem_map.mp h
        rw [← hz]
        exact Nat.le_add_right _ _) _ hheap X'
  exact ⟨t, step t a1, d1⟩
/-- a switch -/
theorem rx_t_switch (F : rx_Fr Z) {st : List Value} {dflt lo hi : Int} {offs : Array Int} {len a : Nat} {sw : List (Int32 × Nat)} {x : Int32} {α : Type} {kt : Nat → Option α} {z : α} (hd : decode (zcc Z) pc = .ok (.tableswitch dflt lo hi offs, len)) (ha : (pc : Int) + dflt = (a : Int))
    (hsw : sw.length = (hi - lo + 1).toNat ∧ ∀ (k : Nat) (q : Int32 × Nat), sw[k]? = some q → q.1.toInt = lo + (k : Int) ∧ ∃ o, offs[k]? = some o ∧ (pc : Int) + o = (q.2 : Int)) (h : rx_sw kt x a sw = some z) (g : ∀ t, kt t = some z → rx_O Z t als st u) : rx_O Z pc als (.int x :: st) u := by
  have key : ∀ (l : List (Int32 × Nat)), rx_sw kt x a l = some z → (∃ (k : Nat) (q : Int32 × Nat), l[k]? = some q ∧ x = q.1 ∧ kt q.2 = some z) ∨ ((∀ (k : Nat) (q : Int32 × Nat), l[k]? = some q → ¬ x = q.1) ∧ kt a = some z) := by
    intro l
    induction l with
    | nil => intro h; exact Or.inr ⟨fun k q hk => by simp at hk, h⟩
    | cons q0 l ih =>
      intro h
      unfold rx_sw at h
      split at h
      · next hx => exact Or.inl ⟨0, q0, rfl, hx, h⟩
      · next hx =>
        rcases ih h with ⟨k, q, e1, e2, e3⟩ | ⟨e1, e2⟩
        · exact Or.inl ⟨k + 1, q, by simpa using e1, e2, e3⟩
        · refine Or.inr ⟨fun k q hk => ?_, e2⟩
          cases k with
          | zero => simp at hk; rw [← hk]; exact hx
          | succ k => exact e1 k q (by simpa using hk)
  rcases key sw h with ⟨k, q, e1, e2, e3⟩ | ⟨e1, e2⟩
  · obtain ⟨d1, o, d2, d3⟩ := hsw.2 k q e1
    have hk : k < sw.length := (List.getElem?_eq_some_iff.mp e1).1
    refine (g _ e3).map fun kk H ls locs h1 h2 h3 => lv_tableIn F.1 F.2.1 hd ?_ ?_ (off := o) ?_ d3 (kk H ls locs h1 h2 h3)
    · rw [e2, d1]; omega
    · rw [e2, d1]; omega
    · rw [e2, d1, show (lo + (k : Int) - lo).toNat = k by omega]; exact d2
  · refine (g _ e2).map fun kk H ls locs h1 h2 h3 => lv_tableOut F.1 F.2.1 hd ?_ ha (kk H ls locs h1 h2 h3)
    apply Classical.byContradiction
    intro hno
    have n1 : lo ≤ x.toInt := Int.not_lt.mp fun q => hno (Or.inl q)
    have n2 : x.toInt ≤ hi := Int.not_lt.mp fun q => hno (Or.inr q)
    have hk : (x.toInt - lo).toNat < sw.length := by rw [hsw.1]; omega
    obtain ⟨d1, -⟩ := hsw.2 (x.toInt - lo).toNat _ (List.getElem?_eq_getElem hk)
    refine e1 (x.toInt - lo).toNat _ (List.getElem?_eq_getElem hk) (Int32.toInt_inj.mp ?_)
    rw [d1]
    omega
end rxC
