/-! ===== Calls that throw, and their catching ===== -/
theorem rx_s1_no {G : rx_G} {ls' : Array Slot} {nL i : Nat} {als : rx_L} {w : Value} (hn : als.length = nL) (hi : i < nL) (h : lv_has ls' nL ((i, w) :: (rx_ll G als).filter (fun q => !(q.1 == i) && !(q.1 + 1 == i && q.2.category == 2)))) : rx_lo G ls' nL ((rx_kill als i).set i none) := by
  obtain ⟨h1, h2, h3⟩ := h
  refine ⟨by simp [rx_kill_len, hn], h1, h2, fun j v hv => ?_⟩
  by_cases hj : i = j
  · subst hj
    rw [List.getElem?_set_self (by rw [rx_kill_len]; omega)] at hv
    cases hv
  · rw [List.getElem?_set_ne hj] at hv
    obtain ⟨g1, g2⟩ := rx_kill_get hv
    refine h3 (j, rx_ev G v) (List.mem_cons_of_mem _ (List.mem_filter.mpr ⟨rx_ll_mem g1, ?_⟩))
    have hj2 : ¬ j = i := fun q => hj q.symm
    simp [rx_ev_cat, hj2]
    by_cases q1 : j + 1 = i
    · exact Or.inr fun q2 => g2 ⟨q1, q2⟩
    · exact Or.inl q1
theorem rx_te_use {G : rx_G} {s : State} {args : Array Value} {w : Cond} (hK : rx_KE G s) (hw : w ∈ rx_TE) : w.before args s = true := by
  have hg := (List.mem_filter.mp hw).2
  rw [Bool.and_eq_true] at hg
  exact va_Nw.use hg.1 (hK.1 w hw)
theorem rx_sl_hx (h : rx_H) : rx_sl (rx_hx h) = rx_sl h + 6 := rx_sl_push h rx_exc
theorem rx_len_hx (h : rx_H) : (rx_hx h).2.length = h.2.length + 1 := by simp [rx_hx]
section rxV
variable {Z : rx_Z} {pc : Nat} {als : rx_L}
/-- where a handler is found -/
def rx_Hd (Z : rx_Z) (cls : String) (pc hp : Nat) : Prop := ∃ (pre : List ExceptionTableEntry) (x : ExceptionTableEntry) (suf : List ExceptionTableEntry) (name : String), (zC Z).exceptionTable.toList = pre ++ x :: suf ∧
  (∀ z ∈ pre, covers z pc = false ∨ (z.catchType ≠ 0 ∧ ∃ nm : String, Cond.classLink (zo Z) z.catchType nm ∈ rx_TB ∧ va_Nc cls nm (zS Z))) ∧ covers x pc = true ∧ x.catchType ≠ 0 ∧ Cond.classLink (zo Z) x.catchType name ∈ rx_TB ∧ Cond.castable cls name ∈ rx_TE ∧ x.handlerPc = hp
theorem rx_caught (F : rx_Fr Z) {H : Heap} {locs : List Loc} {ls : Array Slot} {cells slots hp : Nat} {st0 rest0 : List Value} {Qa : State → Outcome → State → Prop} {h : rx_H} {cls : String}
    (hr : vx_Run (zP Z) (zL Z) (zE Z) (zR Z) (zS Z) (zM Z) (zA Z) (zB Z) (zMe Z) (zC Z) H locs cells slots 1 6 (F0 (zM Z) pc ls st0) rest0 Qa (fun E _ t => E = cls ∧ rx_R (zG Z) (rx_hx h) t.heap) (fun q => rx_base (zG Z) ≤ q))
    (hQ : ∀ st o t, ¬ Qa st o t) (h3 : ∀ q ∈ locs, rx_base (zG Z) ≤ q.base) (hh : rx_Hd Z cls pc hp)
    (kk : ∀ (H' : Heap) (locs' : List Loc) (q : Nat), rx_R (zG Z) (rx_hx h) H' → (∀ q ∈ locs', rx_base (zG Z) ≤ q.base) → zW Z H' locs' (cells + 1) (slots + 6) (F0 (zM Z) hp ls [.ref q])) : zW Z H locs cells slots (F0 (zM Z) pc ls st0) := by
  obtain ⟨pre, x, suf, name, hsplit, hpass, hx, h0, hlink, hcast, rfl⟩ := hh
  have hts := F.2.2.2.2.1
  have hKE := F.2.2.2.2.2.1.2.2.2.2.2.2.2.2.2.2
  intro T hT X
  rcases hr T hT X with ⟨v, st₀, t, T', L, e0, X', hL, e1, e2, hq, st⟩ | ⟨q, st₀, t, T', L, E, ce, e0, X', hL, e1, e2, ⟨rfl, hR⟩, hce, hcv, hcl, st⟩
  · exact (hQ _ _ _ hq).elim
  · have hv := vx_catch (Q := zQ Z) (rest := rest0) (pc := pc) (ls := ls) (H := T'.heap) (e := zE Z) (l := zL Z) (R := zR Z) (below := zB Z) (meth := zMe Z) (p := zP Z) (locs := locs ++ L) (cells := cells + 1) (slots := slots + 6) (ce := ce) (q := q) F.2.2.2.1 pre x suf hsplit
      (fun z hz => by
        rcases hpass z hz with h | ⟨h1, nm, h2, h3⟩
        · exact Or.inl h
        · exact Or.inr ⟨h1, nm, hts _ h2, h3⟩) hx h0 (hts _ hlink) (rx_te_use hKE hcast) (by rw [e1]; exact hce) hcv hcl (kk T'.heap (locs ++ L) q (by rw [e1]; exact hR) (t_lL h3 hL))
    obtain ⟨t2, a1, b1⟩ := hv T' rfl X'
    exact ⟨t2, st.trans a1, b1⟩
def rx_XC (G : rx_G) (cls : String) (h : rx_H) : String → State → State → Prop := fun E _ t => E = cls ∧ rx_R G (rx_hx h) t.heap
abbrev rx_VM (l : Launch) (G : rx_G) (D j : Nat) (cw : Cond) (as : List Value) (h : rx_H) (cls : String) : Prop := vx_Met l (rx_ny j) (cw :: rx_TB) (rx_rmX D 1 6) (rx_Pc G as h) (fun _ _ _ _ => False) (fun E _ t => E = cls ∧ rx_R G (rx_hx h) t.heap) 1 6 (fun q => rx_base G ≤ q)
theorem rx_kx (F : rx_Fr Z) {h : rx_H} {hp : Nat} (k : ∀ q : Nat, zn0 Z ≤ (rx_hx h).2.length → zs0 Z ≤ rx_sl (rx_hx h) → ((rx_hx h).2.length ≤ zn1 Z ∧ rx_sl (rx_hx h) ≤ zs1 Z) ∧ ∀ (H : Heap) (ls : Array Slot) (locs : List Loc), rx_R (zG Z) (rx_hx h) H → rx_lo (zG Z) ls (zn Z) als → (∀ q ∈ locs, rx_base (zG Z) ≤ q.base) → zW Z H locs ((rx_hx h).2.length - zn0 Z) (rx_sl (rx_hx h) - zs0 Z) (F0 (zM Z) hp ls [.ref q]))
    {st : List Value} (step : ((h.2.length - zn0 Z) + 1 ≤ (zR Z).cells ∧ (rx_sl h - zs0 Z) + 6 ≤ (zR Z).slots) → (∀ (q : Nat) (H : Heap) (ls : Array Slot) (locs : List Loc), rx_R (zG Z) (rx_hx h) H → rx_lo (zG Z) ls (zn Z) als → (∀ q ∈ locs, rx_base (zG Z) ≤ q.base) → zW Z H locs ((h.2.length - zn0 Z) + 1) ((rx_sl h - zs0 Z) + 6) (F0 (zM Z) hp ls [.ref q])) → rx_WS Z pc als st (some h)) : rx_O Z pc als st (some h) := by
  intro g1 g2
  have g1 : zn0 Z ≤ h.2.length := g1
  have g2 : zs0 Z ≤ rx_sl h := g2
  have e1 := rx_len_hx h
  have e2 := rx_sl_hx h
  obtain ⟨f1, f2, f3, f4⟩ := F.2.2.2.2.2.2.2
  obtain ⟨g3, g4⟩ := (k 0 (by omega) (by omega)).1
  refine ⟨⟨by show h.2.length ≤ _; omega, by show rx_sl h ≤ _; omega⟩, step ⟨by omega, by omega⟩ fun q H ls locs h1 h2 h3 => ?_⟩
  have := (k q (by omega) (by omega)).2 H ls locs h1 h2 h3
  rw [e1, e2, show h.2.length + 1 - zn0 Z = (h.2.length - zn0 Z) + 1 by omega, show rx_sl h + 6 - zs0 Z = (rx_sl h - zs0 Z) + 6 by omega] at this
  exact this
/-- a static callee throws, and a row of the table takes it -/
theorem rx_t_callSX (F : rx_Fr Z) {i j n D hp maxL : Nat} {bytes : ByteArray} {ret : Option FieldType} {as rest : List Value} {h : rx_H} {cls : String} (hl : Cond.methodLink (zo Z) i (rx_ny j) ∈ rx_TB) (hc : rx_Cal (rx_ny j) (.code (rx_ny j) bytes maxL ret) 0 n) (hn : as.length = n) (hcat : rx_cat rest ≤ 8) (hD : D ≤ zd Z)
    (hM : rx_VM (zL Z) (zG Z) D j (.code (rx_ny j) bytes maxL ret) as h cls) (hd : decode (zcc Z) pc = .ok (.invokestatic i, 3)) (hh : rx_Hd Z cls pc hp)
    (k : ∀ q : Nat, zn0 Z ≤ (rx_hx h).2.length → zs0 Z ≤ rx_sl (rx_hx h) → ((rx_hx h).2.length ≤ zn1 Z ∧ rx_sl (rx_hx h) ≤ zs1 Z) ∧ ∀ (H : Heap) (ls : Array Slot) (locs : List Loc), rx_R (zG Z) (rx_hx h) H → rx_lo (zG Z) ls (zn Z) als → (∀ q ∈ locs, rx_base (zG Z) ≤ q.base) → zW Z H locs ((rx_hx h).2.length - zn0 Z) (rx_sl (rx_hx h) - zs0 Z) (F0 (zM Z) hp ls [.ref q])) : rx_O Z pc als (as.reverse ++ rest) (some h) := by
  refine rx_kx F k fun hf kk H ls locs h1 h2 h3 => ?_
  obtain ⟨f1, f2, f3, f4⟩ := F.2.2.2.2.2.2.2
  obtain ⟨bytes', maxL', ret', hcw, c1, c2, c3, c4, c6, c7, c8⟩ := hc
  rcases hcw with hcw | ⟨⟨hh, hcw⟩, -⟩
  case inr => cases hcw
  cases hcw
  have hts := F.2.2.2.2.1
  have hst : (as.reverse ++ rest).map (rx_ev (zG Z)) = (as.map (rx_ev (zG Z))).reverse ++ rest.map (rx_ev (zG Z)) := by simp
  have hcat2 : 2 * (F0 (zM Z) pc ls ((as.reverse ++ rest).map (rx_ev (zG Z)))).monitorRoom + ((rest.map (rx_ev (zG Z))).map fun v => v.category).sum ≤ 8 := by
    show 2 * 0 + _ ≤ 8
    rw [rx_cat_eq]
    omega
  have hpre : PreS (zS Z) H (rx_Pc (zG Z) as h) (as.map (rx_ev (zG Z))) := ⟨rx_blind _ _ _, fun U hU hW => ⟨rfl, by rw [hU]; exact h1, F.2.2.2.2.2.1.warm hW⟩⟩
  have cb : CallB (zR Z) (zS Z) (zA Z) (zo Z) i (rx_ny j) bytes maxL ret (Cond.code (rx_ny j) bytes maxL ret :: rx_TB) (rx_rmX D 1 6) 1 6 n :=
    callB_of n hts (rx_gi c1) rfl rfl rfl (hts _ c2) (hts _ hl) c3 ⟨by show D + 1 ≤ _; omega, by show 8 + (maxL + 11) + 64 * D ≤ _; omega⟩
  have hrun := vx_runS (below := zB Z) (e := zE Z) (meth := zMe Z) (locs := locs) (As := as.map (rx_ev (zG Z))) (rest := rest.map (rx_ev (zG Z))) (g := F0 (zM Z) pc ls ((as.reverse ++ rest).map (rx_ev (zG Z)))) (nL := zn Z) (cc := zcc Z) ⟨F.1, F.2.1, F.2.2.1, F.2.2.2.1, hts⟩ hM ⟨cb, hts _ (c6 rfl)⟩ hpre rfl (by simpa using hn) h2.2.1 hst hcat2 hd hf
  exact rx_caught F hrun (fun _ _ _ q => q) h3 hh fun H' locs' q g1 g2 => kk q H' ls locs' g1 h2 g2
/-- a callee by an object throws, and a row of the table takes it -/
theorem rx_t_callVX (F : rx_Fr Z) {i j n D hp maxL r0 ci : Nat} {bytes : ByteArray} {ret : Option FieldType} {as rest : List Value} {h : rx_H} {cls : String} {q : vw_C} (hci : rx_cl[ci]? = some q) (hq : (rx_ny j).cls = q.1) (hck : rx_ck (some h) r0 ci = some ()) (hl : Cond.methodLink (zo Z) i (rx_ny j) ∈ rx_TB) (hc : rx_Cal (rx_ny j) (.code (rx_ny j) bytes maxL ret) 1 n) (hn : as.length = n) (hcat : rx_cat rest ≤ 8) (hD : D ≤ zd Z)
    (hM : rx_VM (zL Z) (zG Z) D j (.code (rx_ny j) bytes maxL ret) (.ref r0 :: as) h cls) (hd : decode (zcc Z) pc = .ok (.invokevirtual i, 3)) (hh : rx_Hd Z cls pc hp)
    (k : ∀ q : Nat, zn0 Z ≤ (rx_hx h).2.length → zs0 Z ≤ rx_sl (rx_hx h) → ((rx_hx h).2.length ≤ zn1 Z ∧ rx_sl (rx_hx h) ≤ zs1 Z) ∧ ∀ (H : Heap) (ls : Array Slot) (locs : List Loc), rx_R (zG Z) (rx_hx h) H → rx_lo (zG Z) ls (zn Z) als → (∀ q ∈ locs, rx_base (zG Z) ≤ q.base) → zW Z H locs ((rx_hx h).2.length - zn0 Z) (rx_sl (rx_hx h) - zs0 Z) (F0 (zM Z) hp ls [.ref q])) : rx_O Z pc als ((Value.ref r0 :: as).reverse ++ rest) (some h) := by
  refine rx_kx F k fun hf kk H ls locs h1 h2 h3 => ?_
  obtain ⟨f1, f2, f3, f4⟩ := F.2.2.2.2.2.2.2
  obtain ⟨bytes', maxL', ret', hcw, c1, c2, c3, c4, c6, c7, c8⟩ := hc
  rcases hcw with hcw | ⟨⟨hh, hcw⟩, -⟩
  case inr => cases hcw
  cases hcw
  obtain ⟨h0, fs, he, hr0⟩ := rx_ck_some hck
  cases he
  have hR : rx_R (zG Z) h H := h1
  have hts := F.2.2.2.2.1
  obtain ⟨q', hq', hlen, cell, q1, q2, q3, q4⟩ := hR.1 r0 _ hr0
  have hst : ((Value.ref r0 :: as).reverse ++ rest).map (rx_ev (zG Z)) = (as.map (rx_ev (zG Z))).reverse ++ .ref (rx_base (zG Z) + r0) :: rest.map (rx_ev (zG Z)) := by
    simp [rx_ev, rx_ad_lt _ (rx_lt6 hR hr0)]
  have hat : ((Value.ref r0 :: as).map (rx_ev (zG Z))).toArray = (Value.ref (rx_base (zG Z) + r0) :: as.map (rx_ev (zG Z))).toArray := by simp [rx_ev, rx_ad_lt _ (rx_lt6 hR hr0)]
  have hcat2 : 2 * (F0 (zM Z) pc ls (((Value.ref r0 :: as).reverse ++ rest).map (rx_ev (zG Z)))).monitorRoom + ((rest.map (rx_ev (zG Z))).map fun v => v.category).sum ≤ 8 := by
    show 2 * 0 + _ ≤ 8
    rw [rx_cat_eq]
    omega
  have hpre : PreV (zS Z) H (rx_ny j).cls (rx_base (zG Z) + r0) (rx_Pc (zG Z) (.ref r0 :: as) h) (as.map (rx_ev (zG Z))) := ⟨rx_blind _ _ _, ⟨cell, q1, by rw [q3]; rfl, by rw [q2, hq]; exact (F.2.2.2.2.2.1.1.1 ci q hci).2.1⟩, fun U hU hW => ⟨hat.symm, by rw [hU]; exact h1, F.2.2.2.2.2.1.warm hW⟩⟩
  have cb : CallB (zR Z) (zS Z) (zA Z) (zo Z) i (rx_ny j) bytes maxL ret (Cond.code (rx_ny j) bytes maxL ret :: rx_TB) (rx_rmX D 1 6) 1 6 n :=
    callB_of n hts (rx_gi c1) rfl rfl rfl (hts _ c2) (hts _ hl) c3 ⟨by show D + 1 ≤ _; omega, by show 8 + (maxL + 11) + 64 * D ≤ _; omega⟩
  have hrun := vx_runV (below := zB Z) (e := zE Z) (meth := zMe Z) (locs := locs) (b := rx_base (zG Z) + r0) (C := (rx_ny j).cls) (As := as.map (rx_ev (zG Z))) (rest := rest.map (rx_ev (zG Z))) (g := F0 (zM Z) pc ls (((Value.ref r0 :: as).reverse ++ rest).map (rx_ev (zG Z)))) (nL := zn Z) (cc := zcc Z) ⟨F.1, F.2.1, F.2.2.1, F.2.2.2.1, hts⟩ hM ⟨cb, hts _ (c7 rfl).1, hts _ (c7 rfl).2⟩ hpre rfl (by simpa using hn) h2.2.1 hst hcat2 hd hf
  exact rx_caught F hrun (fun _ _ _ q => q) h3 hh fun H' locs' q g1 g2 => kk q H' ls locs' g1 h2 g2
end rxV
/-- the contract of a method with a table of its own -/
theorem rx_metW {l : Launch} {G : rx_G} {y : MethodName} {bytes : ByteArray} {maxL : Nat} {rt : Option FieldType} {hh : List (Nat × Nat × Nat × Nat)} {bo : Bool} {D : Nat} {as : List Value} {h h' : rx_H} {r : Option Value} (hpl : plainFor y = true) (hlen : (rx_ent1 as).length ≤ maxL) (hrt : rx_rt rt bo r) (hm : h.2.length ≤ h'.2.length ∧ rx_sl h ≤ rx_sl h')
    (body : ∀ Z : rx_Z, rx_ZM Z l G (y.cls, bytes, maxL, false, bo, D) h h' → zn0 Z = h.2.length → zs0 Z = rx_sl h → (zC Z).exceptionTable.toList = tableOf hh → rx_Fr Z → rx_BR Z r h' → rx_O Z 0 (rx_ent as maxL) [] (some h)) : rx_Ok l G (D + 1) y (.codeWith y bytes maxL rt hh) as h r h' := by
  refine ⟨hm, D + 1, Nat.le_refl _, ?_⟩
  refine MetFree.of_bodySF (code := bytes) (maxLocals := maxL) (ret := rt) hpl ?_ ?_
  · intro args s m h hn
    obtain ⟨m9, meth, c, hn9, h1, h2, h3, h4, -, h5, h6, -⟩ := Cond.codeWith_spec (atoms_spec (ws := Cond.codeWith y bytes maxL rt hh :: rx_TB) h _ List.mem_cons_self)
    cases hn.symm.trans hn9
    exact ⟨meth, c, h1, h2, h3, h4, h5, h6⟩
  · intro p e s m args below meth c s₁ B hml hv _
    have hh0 : s₁.heap = s.heap := by rw [B.state]; rfl
    suffices hW0 : W p l e (headSpec (Cond.codeWith y bytes maxL rt hh :: rx_TB) (rx_rm (D + 1) h h')).room s m args below meth c s.heap [] 0 0 (MQ below (rx_Qc G r h') args s (h'.2.length - h.2.length) (rx_sl h' - rx_sl h) (fun q => rx_base G ≤ q)) (entryFrame m args maxL) by
      obtain ⟨t, a1, o, b1, b2, b3⟩ := hW0 s₁ hh0 (Stand.of_body B)
      exact ⟨t, o, a1, b1, b2, ⟨b3.1, b3.2⟩⟩
    obtain ⟨rfl, hR, hK⟩ := hv
    have hts : ∀ w ∈ (Cond.codeWith y bytes maxL rt hh :: rx_TB), w.before _ s = true := atoms_spec (ws := Cond.codeWith y bytes maxL rt hh :: rx_TB) B.pre
    have htab := vx_table (x := y) B (hts _ List.mem_cons_self)
    let Z : rx_Z := ((p, l, e, (headSpec (Cond.codeWith y bytes maxL rt hh :: rx_TB) (rx_rm (D + 1) h h')).room, s, m, (as.map (rx_ev G)).toArray, below, meth, c), (MQ below (rx_Qc G r h') (as.map (rx_ev G)).toArray s (h'.2.length - h.2.length) (rx_sl h' - rx_sl h) (fun q => rx_base G ≤ q), maxL, G, h, h.2.length, rx_sl h, h'.2.length, rx_sl h', D, bytes, y.cls, false, bo))
    have hZM : rx_ZM Z l G (y.cls, bytes, maxL, false, bo, D) h h' := ⟨rfl, rfl, rfl, rfl, rfl, rfl⟩
    have F : rx_Fr Z := ⟨B.exec, B.bytes, hml, findClass_of_methodNamed B.named, fun w hw => hts w (List.mem_cons_of_mem _ hw), hK, (fun hi => by cases hi), Nat.le_refl _, Nat.le_refl _, Nat.le_refl _, Nat.le_refl _⟩
    have hBR : rx_BR Z r h' := by
      intro pc ls H locs hrv hR' hl
      have hr0 : meth.sig.returnType = rt := B.returns
      have hq : ∀ v : Option Value, v = r.map (rx_ev G) → ∀ t : State, t.heap = H → s.WarmedH t.vm → rx_Qc G r h' (as.map (rx_ev G)).toArray s (.returned v) t := fun v hv t ht _ => ⟨by rw [hv], by rw [ht]; exact hR'⟩
      rcases hrt with ⟨h1, h2, x, rfl⟩ | ⟨h1, h2, x, rfl⟩ | ⟨h1, x, rfl⟩ | ⟨h1, rfl⟩
      · exact W.iret B.exec B.bytes (hr0.trans h1) (hq (some (.int x)) rfl) hl hrv.1 (hlocks := B.notSynchronized)
      · refine W.zret (ty := .boolean) B.exec B.bytes (hr0.trans h1) ?_ (hq (some (.int x)) rfl) hl hrv.1 (hlocks := B.notSynchronized)
        rcases hrv.2 h2 with rfl | rfl <;> rfl
      · exact W.lret B.exec B.bytes (hr0.trans h1) (hq (some (.long x)) rfl) hl hrv (hlocks := B.notSynchronized)
      · exact W.vret B.exec B.bytes (hr0.trans h1) (hq none rfl) hl hrv (hlocks := B.notSynchronized)
    obtain ⟨-, hW⟩ := body Z hZM rfl rfl htab F hBR (Nat.le_refl _) (Nat.le_refl _)
    rw [lg_entry_eq]
    have := hW s.heap _ [] hR (rx_ent_lo G hlen) (fun q h => by cases h)
    have e1 : (rx_u Z (some h)).2.length - zn0 Z = 0 := Nat.sub_self _
    have e2 : rx_sl (rx_u Z (some h)) - zs0 Z = 0 := Nat.sub_self _
    rw [e1, e2] at this
    exact this
set_option maxRecDepth 100000 in
theorem k_X1_fail : rx_Cal (rx_ny 34) (.code (rx_ny 34) prog_3_method_14_code 1 none) (rx_kd 34) 1 := ⟨prog_3_method_14_code, 1, none, Or.inl rfl, rx_in (i := 643) (by rfl) (by rfl), rx_in (i := 47) (by decide +kernel) (by decide +kernel), ⟨(by decide +kernel), (by decide +kernel), (by decide +kernel)⟩, Nat.le_of_ble_eq_true rfl, fun _ => rx_in (i := 642) (by decide +kernel) (by decide +kernel), fun h => absurd h (by decide), fun h => absurd h (by decide)⟩
set_option maxRecDepth 100000 in
theorem k_X6_element : rx_Cal (rx_ny 88) (.code (rx_ny 88) prog_1_method_44_code 4 (some .long)) (rx_kd 88) 2 := ⟨prog_1_method_44_code, 4, (some .long), Or.inl rfl, rx_in (i := 723) (by rfl) (by rfl), rx_in (i := 41) (by decide +kernel) (by decide +kernel), ⟨(by decide +kernel), (by decide +kernel), (by decide +kernel)⟩, Nat.le_of_ble_eq_true rfl, fun h => absurd h (by decide), fun _ => ⟨rx_in (i := 721) (by decide +kernel) (by decide +kernel), rx_in (i := 722) (by decide +kernel) (by decide +kernel)⟩, fun h => absurd h (by decide)⟩
abbrev rx_cwT : Cond := .codeWith (rx_ny 130) prog_1_method_48_code 4 (some .int) [(13, 22, 25, 259)]
abbrev rx_cwE : Cond := .codeWith (rx_ny 6) method_3_code 5 (some .int) [(0, 9, 12, 13), (0, 9, 16, 15)]
set_option maxRecDepth 100000 in
theorem k_X6_toss : rx_Cal (rx_ny 130) rx_cwT (rx_kd 130) 1 := ⟨prog_1_method_48_code, 4, (some .int), Or.inr ⟨⟨_, rfl⟩, by decide⟩, rx_in (i := 639) (by rfl) (by rfl), rx_in (i := 41) (by decide +kernel) (by decide +kernel), ⟨(by decide +kernel), (by decide +kernel), (by decide +kernel)⟩, Nat.le_of_ble_eq_true rfl, fun h => absurd h (by decide), fun _ => ⟨rx_in (i := 637) (by decide +kernel) (by decide +kernel), rx_in (i := 638) (by decide +kernel) (by decide +kernel)⟩, fun h => absurd h (by decide)⟩
set_option maxRecDepth 100000 in
theorem k_L_element : rx_Cal (rx_ny 6) rx_cwE (rx_kd 6) 4 := ⟨method_3_code, 5, (some .int), Or.inr ⟨⟨_, rfl⟩, by decide⟩, rx_in (i := 717) (by rfl) (by rfl), rx_in (i := 40) (by decide +kernel) (by decide +kernel), ⟨(by decide +kernel), (by decide +kernel), (by decide +kernel)⟩, Nat.le_of_ble_eq_true rfl, fun _ => rx_in (i := 716) (by decide +kernel) (by decide +kernel), fun h => absurd h (by decide), fun h => absurd h (by decide)⟩
