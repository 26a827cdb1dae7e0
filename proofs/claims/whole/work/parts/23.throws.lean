/-! ===== Throwing and catching ===== -/
section EndsX
variable {p : Program} {l : Launch} {e : Env} {R : Room} {s : State} {m : MethodId} {args : Array Value} {below : List Frame} {meth : Method} {c : Code} {H : Heap} {locs : List Loc} {cells slots : Nat} {Q : State → Prop}
variable {mc ms : Nat} {free : Addr → Prop} {A0 A1 : Nat → Prop} {H0 : Heap} {a : Array Value} {ls : Array Slot} {st0 rest : List Value}
variable {Qc : Array Value → State → Outcome → State → Prop} {XC : String → State → State → Prop}
theorem rx_throwS {cc : ByteArray} {pc : Nat} (hexec : p.tables.exec = Jvm.exec) (hb : c.code = cc) (hl : l.stackTraces = false) {own cls text : String} {names : List String} {ik is ic mc ms sa : Nat} {A : Nat → Prop}
    (hown : s.vm.findClass own = some m.cls) (hcls : Bundle.fit cls = true) (hnames : ∀ n ∈ names, Bundle.fit n = true)
    (hk : (Cond.classLink own ik cls).before args s = true) (hini : (Cond.initialized cls).before args s = true) (hstr : vk_R own is text sa s) (hat : ∀ w ∈ vx_atS own ic cls names, w.before args s = true)
    (hgood : ∀ w ∈ Cond.classLink own ik cls :: Cond.initialized cls :: vx_atS own ic cls names, vx_ot w = true)
    (hU : vx_Zq Bundle.tN "UNASSIGNED_STACK" Bundle.steD A s s.heap) (hN : vx_Zq Bundle.tN "SUPPRESSED_SENTINEL" Bundle.listD A s s.heap) (hS : va_S A s.heap H locs) (hsize : ls.size = c.maxLocals)
    (d0 : decode cc pc = .ok (.new ik, 3)) (d3 : decode cc (pc + 3) = .ok (.dup, 1)) (d4 : decode cc (pc + 4) = .ok (.ldc is, 2)) (d6 : decode cc (pc + 6) = .ok (.invokespecial ic, 3)) (d9 : decode cc (pc + 9) = .ok (.athrow, 1))
    (hout : ∀ x ∈ c.exceptionTable.toList, covers x (pc + 9) = false)
    (hRframes : names.length + 3 < R.frames) (hRlocals : (rest.map fun v => v.category).sum + (13 * (names.length + 1) + 43) ≤ R.locals) (hRcells : cells + 1 ≤ R.cells) (hRslots : slots + 6 ≤ R.slots) (hlocks : meth.locks = false)
    (hx : ∀ t : State, s.vm.Alike t.vm → t.heap.size = H.size + 1 → (∀ q : Nat, q < H.size → t.heap[q]? = H[q]?) → XC cls s t)
    (hf : ∀ z ∈ locs, free z.base) (hc : cells + 1 ≤ mc) (hs : slots + 6 ≤ ms) :
    W p l e R s m args below meth c H locs cells slots (vx_MQ below Qc XC args s mc ms free) (F0 m pc ls rest) := by
  intro T hT X
  have htr : e.platform.stackTraces = false := (show e.platform.stackTraces = l.stackTraces by rw [X.admits.platform]).trans hl
  have Y := vx_rebase X (R' := { frames := R.frames, locals := R.locals, cells := 1, slots := 6 }) (Nat.le_refl _) (Nat.le_refl _) hRcells hRslots
  obtain ⟨s', hA⟩ : ∃ z, z = (T.setVm s.vm).setFrames (.invoking m args :: below) := ⟨_, rfl⟩
  rw [← hA] at Y
  have hvm : s'.vm = s.vm := by rw [hA]; rfl
  have hhp : s'.heap = H := by rw [hA]; exact hT
  have hW0 : s.WarmedH s'.vm := by rw [hvm]; exact State.WarmedH.refl s
  have hat' : ∀ w ∈ vx_atS own ic cls names, w.before args s' = true := fun w hw => vx_ot_at hW0 hvm.symm (hgood w (List.mem_cons_of_mem _ (List.mem_cons_of_mem _ hw))) (hat w hw)
  have hk' : (Cond.classLink own ik cls).before args s' = true := vx_ot_at hW0 hvm.symm (hgood _ List.mem_cons_self) hk
  have hini' : (Cond.initialized cls).before args s' = true := vx_ot_at hW0 hvm.symm (hgood _ (List.mem_cons_of_mem _ List.mem_cons_self)) hini
  have hU' : vx_Zq Bundle.tN "UNASSIGNED_STACK" Bundle.steD A s' s'.heap := by rw [hhp]; exact vx_Zq.moved hW0.alike (hU.kept hS.2.1)
  have hN' : vx_Zq Bundle.tN "SUPPRESSED_SENTINEL" Bundle.listD A s' s'.heap := by rw [hhp]; exact vx_Zq.moved hW0.alike (hN.kept hS.2.1)
  have h : ∀ w ∈ Bundle.ownAtoms own ic cls names, w.before args s' = true := vx_own hat' (vx_isRefq hU'.1) (vx_isRefq hN'.1) hU'.2.word hN'.2.word
  have hown' : s'.vm.findClass own = some m.cls := by rw [hvm]; exact hown
  have hins : (Cond.instantiable cls 6).before args s' = true := h _ (by simp [Bundle.ownAtoms])
  obtain ⟨vm₁, cX, kX, hfX, hkX, -, -, X₁, st1⟩ := Y.newCold hexec (own := own) (C := cls) (index := ik) (n := 6) hown' hk' hins hini'
    (g := F0 m pc ls rest) rfl (by rw [hb]; exact d0) (Nat.le_refl _) (Nat.le_refl _)
  generalize hT1 : (T.setVm vm₁).pushCell { cls := cX, slots := kX.instanceTypes.map defaultValue, vm := .none } = T1 at X₁ st1
  have hcat : (Value.ref T.heap.size).category = 1 := rfl
  have hcellA : T1.heap[T.heap.size]? = some (freshCell cX kX) := by rw [← hT1]; exact State.heap_pushCell_size _ _
  have d3' : decode c.code (pc + 3) = .ok (.dup, 1) := by rw [hb]; exact d3
  have d4' : decode c.code (pc + 4) = .ok (.ldc is, 2) := by rw [hb]; exact d4
  have hstr' : vk_R own is text sa s' := vk_R.warm hW0 hstr
  obtain ⟨U, hsteps, hrun, hend, hW, hsame, ce, hce, hO⟩ := X₁.ctorThrowS hexec htr (own := own) (cls := cls) (names := names) (ic := ic) hown' hcls hnames h (fun x hx => nomatch hx) hfX hkX hcellA (by rw [hhp, hT]; exact Nat.le_refl _) (msg := .ref sa) rfl
    (g := { method := m, pc := pc + 6, locals := ls, stack := .ref sa :: .ref T.heap.size :: .ref T.heap.size :: rest, locked := none }) rfl hsize rfl rfl (rest := rest) rfl
    (by rw [hb]; exact d6) (by rw [hb]; exact d9) hout hRframes (by simp only [List.map_cons, List.sum_cons, hcat]; omega) hlocks
  obtain ⟨f1, f2⟩ := vx_frame hsame
  have f3 : U.heap.size ≤ s'.heap.size + 1 := hsame.2.2.1
  rw [hhp] at f1 f2 f3
  have f4 : T.heap.size < U.heap.size := (Array.getElem?_eq_some_iff.mp hce).1
  rw [hT] at f4
  have f5 : U.heap.size = H.size + 1 := by omega
  have hWs : s.WarmedH U.vm := State.WarmedH.trans hW0 hW
  have hcl : s.vm.findClass cls = some ce.cls := by
    have h9 := hO.cls
    rw [hvm] at h9
    exact h9
  have hall : s.sameButNew ({ U with vm := s.vm } : State) locs mc ms := by
    subst hA
    obtain ⟨e1, e2⟩ := hsame
    rw [State.setFrames_setFrames] at e1
    have h2 : (T.setVm s.vm).sameButNew ({ U with vm := s.vm } : State) [] (0 + 1) (0 + 6) := ⟨e1, e2⟩
    have h3 := X.same.trans h2
    rw [List.append_nil] at h3
    exact h3.mono hc hs
  refine ⟨U, ?_, .threw T.heap.size, hrun, hend, Or.inr ⟨T.heap.size, rfl, cls, ce, locs, hx U hWs.alike f5 (fun q hq => f2 q hq (fun z hz => nomatch hz)), hce, hO.vm, hcl, hWs, hall, hf⟩⟩
  refine st1 _ ?_
  show Steps p.tables e below (T1.setTop { method := m, pc := pc + 3, locals := ls, stack := .ref T.heap.size :: rest, locked := none }) _
  jvm_step X₁.here [X₁.here.top, hexec, d3', Value.category]
  exact X₁.ldcString hexec (own := own) (text := text) (index := is) (a := sa) hown' hstr'.1 hstr'.2
    (g := { method := m, pc := pc + 4, locals := ls, stack := .ref T.heap.size :: .ref T.heap.size :: rest, locked := none }) rfl d4' _ hsteps
/-- 'throw new E("text")', the text by a wide index -/
theorem rx_throwSW {cc : ByteArray} {pc : Nat} (hexec : p.tables.exec = Jvm.exec) (hb : c.code = cc) (hl : l.stackTraces = false) {own cls text : String} {names : List String} {ik is ic mc ms sa : Nat} {A : Nat → Prop}
    (hown : s.vm.findClass own = some m.cls) (hcls : Bundle.fit cls = true) (hnames : ∀ n ∈ names, Bundle.fit n = true)
    (hk : (Cond.classLink own ik cls).before args s = true) (hini : (Cond.initialized cls).before args s = true) (hstr : vk_R own is text sa s) (hat : ∀ w ∈ vx_atS own ic cls names, w.before args s = true)
    (hgood : ∀ w ∈ Cond.classLink own ik cls :: Cond.initialized cls :: vx_atS own ic cls names, vx_ot w = true)
    (hU : vx_Zq Bundle.tN "UNASSIGNED_STACK" Bundle.steD A s s.heap) (hN : vx_Zq Bundle.tN "SUPPRESSED_SENTINEL" Bundle.listD A s s.heap) (hS : va_S A s.heap H locs) (hsize : ls.size = c.maxLocals)
    (d0 : decode cc pc = .ok (.new ik, 3)) (d3 : decode cc (pc + 3) = .ok (.dup, 1)) (d4 : decode cc (pc + 4) = .ok (.ldc_w is, 3)) (d7 : decode cc (pc + 7) = .ok (.invokespecial ic, 3)) (d10 : decode cc (pc + 10) = .ok (.athrow, 1))
    (hout : ∀ x ∈ c.exceptionTable.toList, covers x (pc + 10) = false)
    (hRframes : names.length + 3 < R.frames) (hRlocals : (rest.map fun v => v.category).sum + (13 * (names.length + 1) + 43) ≤ R.locals) (hRcells : cells + 1 ≤ R.cells) (hRslots : slots + 6 ≤ R.slots) (hlocks : meth.locks = false)
    (hx : ∀ t : State, s.vm.Alike t.vm → t.heap.size = H.size + 1 → (∀ q : Nat, q < H.size → t.heap[q]? = H[q]?) → XC cls s t)
    (hf : ∀ z ∈ locs, free z.base) (hc : cells + 1 ≤ mc) (hs : slots + 6 ≤ ms) :
    W p l e R s m args below meth c H locs cells slots (vx_MQ below Qc XC args s mc ms free) (F0 m pc ls rest) := by
  intro T hT X
  have htr : e.platform.stackTraces = false := (show e.platform.stackTraces = l.stackTraces by rw [X.admits.platform]).trans hl
  have Y := vx_rebase X (R' := { frames := R.frames, locals := R.locals, cells := 1, slots := 6 }) (Nat.le_refl _) (Nat.le_refl _) hRcells hRslots
  obtain ⟨s', hA⟩ : ∃ z, z = (T.setVm s.vm).setFrames (.invoking m args :: below) := ⟨_, rfl⟩
  rw [← hA] at Y
  have hvm : s'.vm = s.vm := by rw [hA]; rfl
  have hhp : s'.heap = H := by rw [hA]; exact hT
  have hW0 : s.WarmedH s'.vm := by rw [hvm]; exact State.WarmedH.refl s
  have hat' : ∀ w ∈ vx_atS own ic cls names, w.before args s' = true := fun w hw => vx_ot_at hW0 hvm.symm (hgood w (List.mem_cons_of_mem _ (List.mem_cons_of_mem _ hw))) (hat w hw)
  have hk' : (Cond.classLink own ik cls).before args s' = true := vx_ot_at hW0 hvm.symm (hgood _ List.mem_cons_self) hk
  have hini' : (Cond.initialized cls).before args s' = true := vx_ot_at hW0 hvm.symm (hgood _ (List.mem_cons_of_mem _ List.mem_cons_self)) hini
  have hU' : vx_Zq Bundle.tN "UNASSIGNED_STACK" Bundle.steD A s' s'.heap := by rw [hhp]; exact vx_Zq.moved hW0.alike (hU.kept hS.2.1)
  have hN' : vx_Zq Bundle.tN "SUPPRESSED_SENTINEL" Bundle.listD A s' s'.heap := by rw [hhp]; exact vx_Zq.moved hW0.alike (hN.kept hS.2.1)
  have h : ∀ w ∈ Bundle.ownAtoms own ic cls names, w.before args s' = true := vx_own hat' (vx_isRefq hU'.1) (vx_isRefq hN'.1) hU'.2.word hN'.2.word
  have hown' : s'.vm.findClass own = some m.cls := by rw [hvm]; exact hown
  have hins : (Cond.instantiable cls 6).before args s' = true := h _ (by simp [Bundle.ownAtoms])
  obtain ⟨vm₁, cX, kX, hfX, hkX, -, -, X₁, st1⟩ := Y.newCold hexec (own := own) (C := cls) (index := ik) (n := 6) hown' hk' hins hini'
    (g := F0 m pc ls rest) rfl (by rw [hb]; exact d0) (Nat.le_refl _) (Nat.le_refl _)
  generalize hT1 : (T.setVm vm₁).pushCell { cls := cX, slots := kX.instanceTypes.map defaultValue, vm := .none } = T1 at X₁ st1
  have hcat : (Value.ref T.heap.size).category = 1 := rfl
  have hcellA : T1.heap[T.heap.size]? = some (freshCell cX kX) := by rw [← hT1]; exact State.heap_pushCell_size _ _
  have d3' : decode c.code (pc + 3) = .ok (.dup, 1) := by rw [hb]; exact d3
  have d4' : decode c.code (pc + 4) = .ok (.ldc_w is, 3) := by rw [hb]; exact d4
  have hstr' : vk_R own is text sa s' := vk_R.warm hW0 hstr
  obtain ⟨U, hsteps, hrun, hend, hW, hsame, ce, hce, hO⟩ := X₁.ctorThrowS hexec htr (own := own) (cls := cls) (names := names) (ic := ic) hown' hcls hnames h (fun x hx => nomatch hx) hfX hkX hcellA (by rw [hhp, hT]; exact Nat.le_refl _) (msg := .ref sa) rfl
    (g := { method := m, pc := pc + 7, locals := ls, stack := .ref sa :: .ref T.heap.size :: .ref T.heap.size :: rest, locked := none }) rfl hsize rfl rfl (rest := rest) rfl
    (by rw [hb]; exact d7) (by rw [hb]; exact d10) hout hRframes (by simp only [List.map_cons, List.sum_cons, hcat]; omega) hlocks
  obtain ⟨f1, f2⟩ := vx_frame hsame
  have f3 : U.heap.size ≤ s'.heap.size + 1 := hsame.2.2.1
  rw [hhp] at f1 f2 f3
  have f4 : T.heap.size < U.heap.size := (Array.getElem?_eq_some_iff.mp hce).1
  rw [hT] at f4
  have f5 : U.heap.size = H.size + 1 := by omega
  have hWs : s.WarmedH U.vm := State.WarmedH.trans hW0 hW
  have hcl : s.vm.findClass cls = some ce.cls := by
    have h9 := hO.cls
    rw [hvm] at h9
    exact h9
  have hall : s.sameButNew ({ U with vm := s.vm } : State) locs mc ms := by
    subst hA
    obtain ⟨e1, e2⟩ := hsame
    rw [State.setFrames_setFrames] at e1
    have h2 : (T.setVm s.vm).sameButNew ({ U with vm := s.vm } : State) [] (0 + 1) (0 + 6) := ⟨e1, e2⟩
    have h3 := X.same.trans h2
    rw [List.append_nil] at h3
    exact h3.mono hc hs
  refine ⟨U, ?_, .threw T.heap.size, hrun, hend, Or.inr ⟨T.heap.size, rfl, cls, ce, locs, hx U hWs.alike f5 (fun q hq => f2 q hq (fun z hz => nomatch hz)), hce, hO.vm, hcl, hWs, hall, hf⟩⟩
  refine st1 _ ?_
  show Steps p.tables e below (T1.setTop { method := m, pc := pc + 3, locals := ls, stack := .ref T.heap.size :: rest, locked := none }) _
  jvm_step X₁.here [X₁.here.top, hexec, d3', Value.category]
  exact X₁.ldcStringW hexec (own := own) (text := text) (index := is) (a := sa) hown' hstr'.1 hstr'.2
    (g := { method := m, pc := pc + 4, locals := ls, stack := .ref T.heap.size :: .ref T.heap.size :: rest, locked := none }) rfl d4' _ hsteps
end EndsX
def rx_up : List String := ["java/lang/RuntimeException", "java/lang/Exception"]
def rx_isOk (w : Cond) : Bool := decide (w ∈ lw_tbl) && (w.onTables && w.keepsFace)
set_option maxRecDepth 100000 in
theorem rx_at1 : (vx_atS "SetHouse$Kinds" 93 "java/lang/IllegalStateException" rx_up).all rx_isOk = true := by decide +kernel
set_option maxRecDepth 100000 in
theorem rx_at2 : (vx_atS "SetHouse" 252 "java/lang/IllegalArgumentException" rx_up).all rx_isOk = true := by decide +kernel
set_option maxRecDepth 100000 in
theorem rx_at3 : (vx_atS "SetHouse" 263 "java/lang/IllegalStateException" rx_up).all rx_isOk = true := by decide +kernel
theorem rx_isOk_all {L : List Cond} (h : L.all rx_isOk = true) {G : rx_G} {s : State} {args : Array Value} (hK : rx_KE G s) : (∀ w ∈ L, w.before args s = true) ∧ ∀ w ∈ L, vx_ot w = true := by
  rw [List.all_eq_true] at h
  refine ⟨fun w hw => ?_, fun w hw => ?_⟩
  · have h1 := h w hw
    unfold rx_isOk at h1
    rw [Bool.and_eq_true, decide_eq_true_eq] at h1
    have h2 : w ∈ rx_TE := List.mem_filter.mpr h1
    have h3 := h1.2
    rw [Bool.and_eq_true] at h3
    exact va_Nw.use h3.1 (hK.1 w h2)
  · have h1 := h w hw
    unfold rx_isOk at h1
    rw [Bool.and_eq_true, Bool.and_eq_true] at h1
    unfold vx_ot
    rw [h1.2.1]
    rfl
/-- the heap behind a throw -/
def rx_hx (h : rx_H) : rx_H := (h.1, h.2 ++ [rx_exc])
theorem rx_R_exc {G : rx_G} {h : rx_H} {H H1 : Heap} (hR : rx_R G h H) (hl : h.2.length < 999999) (hz : H1.size = H.size + 1) (ho : ∀ q : Nat, q < H.size → H1[q]? = H[q]?) : rx_R G (rx_hx h) H1 := hR.push hl trivial hz ho
section rxX
variable {Z : rx_Z} {pc : Nat} {als : rx_L} {st : List Value} {h : rx_H} {Qc : Array Value → State → Outcome → State → Prop} {XC : String → State → State → Prop} {mc ms : Nat}
/-- what is known of the heap at a method's start -/
def rx_E0 (Z : rx_Z) : Prop := (∀ q, q < rx_base (zG Z) → (zS Z).heap[q]? = (rx_H0 (zG Z))[q]?) ∧ (zS Z).heap.size = rx_base (zG Z) + zn0 Z ∧ (zMe Z).locks = false
theorem rx_E0.S {H : Heap} {locs : List Loc} (hE : rx_E0 Z) (hR : rx_R (zG Z) h H) (hn : zn0 Z ≤ h.2.length) (h3 : ∀ q ∈ locs, rx_base (zG Z) ≤ q.base) : va_S (fun q => rx_base (zG Z) ≤ q) (zS Z).heap H locs :=
  ⟨by rw [hE.2.1, hR.2.1]; omega, fun q h1 h2 => by rw [hR.2.2.2.1 q (by omega), hE.1 q (by omega)], h3⟩
theorem rx_t_throwS (F : rx_Fr Z) (hl : (zL Z).stackTraces = false) (hE : rx_E0 Z) {cls text : String} {ik is ic sa : Nat} (hcls : Bundle.fit cls = true) (hk : Cond.classLink (zo Z) ik cls ∈ rx_TB) (hini : Cond.initialized cls ∈ rx_TB) (hstr : vk_R (zo Z) is text sa (zS Z)) (hat : (vx_atS (zo Z) ic cls rx_up).all rx_isOk = true)
    (d0 : decode (zcc Z) pc = .ok (.new ik, 3)) (d3 : decode (zcc Z) (pc + 3) = .ok (.dup, 1)) (d4 : decode (zcc Z) (pc + 4) = .ok (.ldc is, 2)) (d6 : decode (zcc Z) (pc + 6) = .ok (.invokespecial ic, 3)) (d9 : decode (zcc Z) (pc + 9) = .ok (.athrow, 1))
    (hout : ∀ x ∈ (zC Z).exceptionTable.toList, covers x (pc + 9) = false) (hfr : 6 ≤ (zR Z).frames) (hlo : 100 ≤ (zR Z).locals) (hcat : rx_cat st ≤ 8) (hn : zn0 Z ≤ h.2.length) (hlt : h.2.length < 999999)
    (hQ : zQ Z = vx_MQ (zB Z) Qc XC (zA Z) (zS Z) mc ms (fun q => rx_base (zG Z) ≤ q)) (hc : (h.2.length - zn0 Z) + 1 ≤ mc) (hs : (rx_sl h - zs0 Z) + 6 ≤ ms) (hc2 : mc ≤ (zR Z).cells) (hs2 : ms ≤ (zR Z).slots)
    (hx : ∀ t : State, rx_R (zG Z) (rx_hx h) t.heap → XC cls (zS Z) t) : rx_WS Z pc als st (some h) := by
  intro H ls locs h1 h2 h3
  have hR : rx_R (zG Z) h H := h1
  have hKE := F.2.2.2.2.2.1.2.2.2.2.2.2.2.2.2.2
  obtain ⟨w1, w2⟩ := rx_isOk_all hat (args := zA Z) hKE
  have hS := hE.S hR hn h3
  have hH0 := F.2.2.2.2.2.1.2.2.1
  have hkp : ∀ a : Nat, a < (rx_H0 (zG Z)).size → ¬ rx_base (zG Z) ≤ a → (zS Z).heap[a]? = (rx_H0 (zG Z))[a]? := fun a _ h => hE.1 a (by omega)
  have hU := hKE.2.1.kept hkp
  have hN := hKE.2.2.1.kept hkp
  have hgood : ∀ w ∈ Cond.classLink (zo Z) ik cls :: Cond.initialized cls :: vx_atS (zo Z) ic cls rx_up, vx_ot w = true := by
    intro w hw
    rcases List.mem_cons.mp hw with rfl | hw
    · unfold vx_ot; rw [(List.mem_filter.mp hk).2]; simp
    · rcases List.mem_cons.mp hw with rfl | hw
      · unfold vx_ot; rw [(List.mem_filter.mp hini).2]; simp
      · exact w2 w hw
  show W _ _ _ _ _ _ _ _ _ _ H locs _ _ (zQ Z) _
  rw [hQ]
  refine rx_throwS F.1 F.2.1 hl F.2.2.2.1 hcls (by decide +kernel) (F.2.2.2.2.1 _ hk) (F.2.2.2.2.1 _ hini) hstr w1 hgood hU hN hS (h2.2.1.trans F.2.2.1.symm) d0 d3 d4 d6 d9 hout (by show 2 + 3 < _; omega) ?_ (Nat.le_trans hc hc2) (Nat.le_trans hs hs2) hE.2.2 (fun t _ hz ho => hx t (rx_R_exc hR hlt hz ho)) h3 hc hs
  rw [rx_cat_eq]
  show _ + (13 * 3 + 43) ≤ _
  omega
theorem rx_t_throwSW (F : rx_Fr Z) (hl : (zL Z).stackTraces = false) (hE : rx_E0 Z) {cls text : String} {ik is ic sa : Nat} (hcls : Bundle.fit cls = true) (hk : Cond.classLink (zo Z) ik cls ∈ rx_TB) (hini : Cond.initialized cls ∈ rx_TB) (hstr : vk_R (zo Z) is text sa (zS Z)) (hat : (vx_atS (zo Z) ic cls rx_up).all rx_isOk = true)
    (d0 : decode (zcc Z) pc = .ok (.new ik, 3)) (d3 : decode (zcc Z) (pc + 3) = .ok (.dup, 1)) (d4 : decode (zcc Z) (pc + 4) = .ok (.ldc_w is, 3)) (d7 : decode (zcc Z) (pc + 7) = .ok (.invokespecial ic, 3)) (d10 : decode (zcc Z) (pc + 10) = .ok (.athrow, 1))
    (hout : ∀ x ∈ (zC Z).exceptionTable.toList, covers x (pc + 10) = false) (hfr : 6 ≤ (zR Z).frames) (hlo : 100 ≤ (zR Z).locals) (hcat : rx_cat st ≤ 8) (hn : zn0 Z ≤ h.2.length) (hlt : h.2.length < 999999)
    (hQ : zQ Z = vx_MQ (zB Z) Qc XC (zA Z) (zS Z) mc ms (fun q => rx_base (zG Z) ≤ q)) (hc : (h.2.length - zn0 Z) + 1 ≤ mc) (hs : (rx_sl h - zs0 Z) + 6 ≤ ms) (hc2 : mc ≤ (zR Z).cells) (hs2 : ms ≤ (zR Z).slots)
    (hx : ∀ t : State, rx_R (zG Z) (rx_hx h) t.heap → XC cls (zS Z) t) : rx_WS Z pc als st (some h) := by
  intro H ls locs h1 h2 h3
  have hR : rx_R (zG Z) h H := h1
  have hKE := F.2.2.2.2.2.1.2.2.2.2.2.2.2.2.2.2
  obtain ⟨w1, w2⟩ := rx_isOk_all hat (args := zA Z) hKE
  have hS := hE.S hR hn h3
  have hkp : ∀ a : Nat, a < (rx_H0 (zG Z)).size → ¬ rx_base (zG Z) ≤ a → (zS Z).heap[a]? = (rx_H0 (zG Z))[a]? := fun a _ h => hE.1 a (by omega)
  have hU := hKE.2.1.kept hkp
  have hN := hKE.2.2.1.kept hkp
  have hgood : ∀ w ∈ Cond.classLink (zo Z) ik cls :: Cond.initialized cls :: vx_atS (zo Z) ic cls rx_up, vx_ot w = true := by
    intro w hw
    rcases List.mem_cons.mp hw with rfl | hw
    · unfold vx_ot; rw [(List.mem_filter.mp hk).2]; simp
    · rcases List.mem_cons.mp hw with rfl | hw
      · unfold vx_ot; rw [(List.mem_filter.mp hini).2]; simp
      · exact w2 w hw
  show W _ _ _ _ _ _ _ _ _ _ H locs _ _ (zQ Z) _
  rw [hQ]
  refine rx_throwSW F.1 F.2.1 hl F.2.2.2.1 hcls (by decide +kernel) (F.2.2.2.2.1 _ hk) (F.2.2.2.2.1 _ hini) hstr w1 hgood hU hN hS (h2.2.1.trans F.2.2.1.symm) d0 d3 d4 d7 d10 hout (by show 2 + 3 < _; omega) ?_ (Nat.le_trans hc hc2) (Nat.le_trans hs hs2) hE.2.2 (fun t _ hz ho => hx t (rx_R_exc hR hlt hz ho)) h3 hc hs
  rw [rx_cat_eq]
  show _ + (13 * 3 + 43) ≤ _
  omega
end rxX
def rx_rmX (D mc ms : Nat) : Room := { frames := D, cells := mc, slots := ms, locals := 64 * D }
/-- a method that throws: its contract out of its walk -/
theorem rx_vxmet {l : Launch} {G : rx_G} {y : MethodName} {bytes : ByteArray} {maxL D mc ms : Nat} {rt : Option FieldType} {as : List Value} {h : rx_H} {Qc : Array Value → State → Outcome → State → Prop} {XC : String → State → State → Prop} (hpl : plainName y.cls = true) (hlen : (rx_ent1 as).length ≤ maxL)
    (body : ∀ Z : rx_Z, zL Z = l → zG Z = G → zh Z = h → (zo Z, zcc Z, zn Z, zi Z, zb Z, zd Z) = (y.cls, bytes, maxL, false, false, D) → zn0 Z = h.2.length → zs0 Z = rx_sl h → zn1 Z = h.2.length + mc → zs1 Z = rx_sl h + ms →
      zQ Z = vx_MQ (zB Z) Qc XC (zA Z) (zS Z) mc ms (fun q => rx_base (zG Z) ≤ q) → zR Z = rx_rmX (D + 1) mc ms → (∀ x ∈ (zC Z).exceptionTable.toList, False) → rx_E0 Z → (zMe Z).sig.returnType = rt → rx_Fr Z → rx_WS Z 0 (rx_ent as maxL) [] (some h)) :
    vx_Met l y (.code y bytes maxL rt :: rx_TB) (rx_rmX (D + 1) mc ms) (rx_Pc G as h) Qc XC mc ms (fun q => rx_base G ≤ q) := by
  refine vx_ofW (cc := bytes) (maxL := maxL) (ret := rt) hpl rfl ?_
  intro p e s m args below meth c s₁ B hml hex hv
  obtain ⟨rfl, hR, hK⟩ := hv
  have hts : ∀ w ∈ (Cond.code y bytes maxL rt :: rx_TB), w.before _ s = true := atoms_spec (ws := Cond.code y bytes maxL rt :: rx_TB) B.pre
  let Z : rx_Z := ((p, l, e, rx_rmX (D + 1) mc ms, s, m, (as.map (rx_ev G)).toArray, below, meth, c), (vx_MQ below Qc XC (as.map (rx_ev G)).toArray s mc ms (fun q => rx_base G ≤ q), maxL, G, h, h.2.length, rx_sl h, h.2.length + mc, rx_sl h + ms, D, bytes, y.cls, false, false))
  have F : rx_Fr Z := ⟨B.exec, B.bytes, hml, findClass_of_methodNamed B.named, fun w hw => hts w (List.mem_cons_of_mem _ hw), hK, (fun hi => by cases hi), Nat.le_refl _, Nat.le_refl _, (by show h.2.length + mc - h.2.length ≤ mc; omega), (by show rx_sl h + ms - rx_sl h ≤ ms; omega)⟩
  have hE : rx_E0 Z := ⟨hR.2.2.2.1, hR.2.1, B.notSynchronized⟩
  have hW := body Z rfl rfl rfl rfl rfl rfl rfl rfl rfl rfl hex hE B.returns F
  rw [lg_entry_eq]
  have := hW s.heap _ [] hR (rx_ent_lo G hlen) (fun q h => by cases h)
  have e1 : (rx_u Z (some h)).2.length - zn0 Z = 0 := Nat.sub_self _
  have e2 : rx_sl (rx_u Z (some h)) - zs0 Z = 0 := Nat.sub_self _
  rw [e1, e2] at this
  exact this
theorem rx_q2 {A B : Type} {a c : A} {b d : B} (h : (a, b) = (c, d)) : a = c ∧ b = d := by cases h; exact ⟨rfl, rfl⟩
/-- Kinds.fail, where it throws -/
theorem vm_fail {l : Launch} {G : rx_G} (hl : l.stackTraces = false) (F : Nat × Nat) {pl : Nat} {h : rx_H} {ho b : Int32} (hh : rx_gI (some h) pl 0 0 = some ho) (hb : f_X1_hasNumber F ho = some b) (hb0 : ¬ b = 0) (hlt : h.2.length < 999999) :
    vx_Met l (rx_ny 34) (.code (rx_ny 34) prog_3_method_14_code 1 none :: rx_TB) (rx_rmX 10 1 6) (rx_Pc G [.ref pl] h) (fun _ _ _ _ => False) (fun E _ t => E = "java/lang/IllegalStateException" ∧ rx_R G (rx_hx h) t.heap) 1 6 (fun q => rx_base G ≤ q) := by
  refine rx_vxmet (D := 9) (by decide +kernel) (Nat.le_of_ble_eq_true rfl) ?_
  intro Z z1 z2 z3 z4 z5 z6 z7 z8 zQ' zR' hex hE hret Fr
  subst z1 z2
  obtain ⟨hown, z4⟩ := rx_q2 z4
  obtain ⟨hcc, z4⟩ := rx_q2 z4
  obtain ⟨hnl, z4⟩ := rx_q2 z4
  obtain ⟨hzi, z4⟩ := rx_q2 z4
  obtain ⟨hzb, hzd⟩ := rx_q2 z4
  have hfd : rx_fd (some h) pl 0 0 = some (.int ho) := by
    unfold rx_gI at hh
    split at hh
    · next hf => cases hh; exact hf
    · cases hh
  have hKE := Fr.2.2.2.2.2.1.2.2.2.2.2.2.2.2.2.2
  obtain ⟨sa, hsa⟩ := hKE.2.2.2.1
  have O10 : rx_O Z 10 [some (.ref pl)] [] (some h) := fun _ _ => ⟨⟨by rw [z7]; exact Nat.le_add_right _ _, by rw [z8]; exact Nat.le_add_right _ _⟩,
    rx_t_throwS Fr hl hE (cls := "java/lang/IllegalStateException") (text := "the FAILURE of a FAMILY that has a t") (ik := 89) (is := 91) (ic := 93) (sa := sa) (by decide +kernel) (by rw [hown]; exact rx_in (i := 645) (by decide +kernel) (by decide +kernel)) (rx_in (i := 56) (by decide +kernel) (by decide +kernel)) (by rw [hown]; exact hsa) (by rw [hown]; exact rx_at1)
      (by rw [hcc]; decide +kernel) (by rw [hcc]; decide +kernel) (by rw [hcc]; decide +kernel) (by rw [hcc]; decide +kernel) (by rw [hcc]; decide +kernel) (fun x hx => (hex x hx).elim) (by rw [zR']; decide) (by rw [zR']; decide) (by decide) (by rw [z5]; exact Nat.le_refl _) hlt zQ' (by rw [z5]; omega) (by rw [z6]; omega) (by rw [zR']; decide) (by rw [zR']; decide) (fun t ht => ⟨rfl, ht⟩)⟩
  have O7 : rx_O Z 7 [some (.ref pl)] [.int b] (some h) := rx_t_if Fr (cd := .eq) (off := 13) (t := 20) (by decide) (by rw [hcc]; decide +kernel) (α := Unit) (kt := none) (kf := some ()) (r := ()) (by simp [rx_if, hb0]) (fun h => by cases h) (fun _ => O10)
  have O4 : rx_O Z 4 [some (.ref pl)] [.int ho] (some h) := rx_t_callS Fr (i := 85) (j := 38) (as := [.int ho]) (rest := []) (r := some (.int b)) (u' := some h) (by rw [hown]; exact rx_in (i := 644) (by decide +kernel) (by decide +kernel)) k_X1_hasNumber rfl (by decide) ((m_X1_hasNumber F _ _ h ho hb).deep (by rw [hzd]; omega)) (by rw [hcc]; decide +kernel) O7
  have O1 : rx_O Z 1 [some (.ref pl)] [.ref pl] (some h) := O4.map (rx_t_getf Fr (i := 21) (a := 0) (k := 0) (q := ("SetHouse$Place", rx_T0, 6)) rfl (by decide) (by rw [hown]; exact rx_in (i := 77) (by decide +kernel) (by decide +kernel)) hfd (by rw [hcc]; decide +kernel))
  have O0 : rx_O Z 0 [some (.ref pl)] [] (some h) := O1.map (rx_t_aload_n Fr (i := 0) rfl (by rw [hcc]; decide +kernel))
  exact (O0 (by rw [z5]; exact Nat.le_refl _) (by rw [z6]; exact Nat.le_refl _)).2
/-- Kinds.fail, where it doesn't -/
theorem m_X1_fail {l : Launch} {G : rx_G} (F : Nat × Nat) {pl : Nat} (hf : rx_H) {u : Option rx_H} {ho : Int32} (hh : rx_gI u pl 0 0 = some ho) (hb : f_X1_hasNumber F ho = some 0) :
    rx_Ok l G 10 (rx_ny 34) (.code (rx_ny 34) prog_3_method_14_code 1 none) [.ref pl] (u.getD hf) none (u.getD hf) := by
  refine rx_met (l := l) (G := G) (hf := hf) (as := [.ref pl]) (r := none) (ls0 := [some (.ref pl)]) (y := rx_ny 34) (D := 9) (ini := false) (bo := false) (u := u) (u' := u) (ret := rx_hV) (z := u) (by decide +kernel) (fun h => by cases h) (Nat.le_of_ble_eq_true rfl) (Or.inr (Or.inr (Or.inr ⟨rfl, rfl⟩))) (fun Z hZ hB => rx_RT_hV hZ hB) (by exact ⟨Or.inr rfl, trivial⟩) ⟨⟨Nat.le_refl _, Nat.le_refl _⟩, ?_⟩
  intro Z hZ Fr hRT
  obtain ⟨z1, z2, z3, z4, z5, z6⟩ := hZ
  subst z1 z2 z3
  obtain ⟨hown, z4⟩ := rx_q2 z4
  obtain ⟨hcc, z4⟩ := rx_q2 z4
  obtain ⟨hnl, z4⟩ := rx_q2 z4
  obtain ⟨hzi, z4⟩ := rx_q2 z4
  obtain ⟨hzb, hzd⟩ := rx_q2 z4
  have hfd : rx_fd u pl 0 0 = some (.int ho) := by
    unfold rx_gI at hh
    split at hh
    · next hf => cases hh; exact hf
    · cases hh
  have O20 : rx_O Z 20 [some (.ref pl)] [] u := by
    obtain ⟨g1, g2, g3⟩ := hRT none u rfl
    exact fun _ _ => ⟨⟨g1, g2⟩, fun H lz locs k1 k2 k3 => g3 20 lz H locs (by show decode (zcc Z) 20 = _; rw [hcc]; decide +kernel) k1 k3⟩
  have O7 : rx_O Z 7 [some (.ref pl)] [.int 0] u := rx_t_if Fr (cd := .eq) (off := 13) (t := 20) (by decide) (by rw [hcc]; decide +kernel) (α := Unit) (kt := some ()) (kf := none) (r := ()) (by simp [rx_if]) (fun _ => O20) (fun h => by cases h)
  have O4 : rx_O Z 4 [some (.ref pl)] [.int ho] u := rx_t_callS Fr (i := 85) (j := 38) (as := [.int ho]) (rest := []) (r := some (.int 0)) (u' := u) (by rw [hown]; exact rx_in (i := 644) (by decide +kernel) (by decide +kernel)) k_X1_hasNumber rfl (by decide) ((m_X1_hasNumber F _ _ _ ho hb).deep (by rw [hzd]; omega)) (by rw [hcc]; decide +kernel) O7
  have O1 : rx_O Z 1 [some (.ref pl)] [.ref pl] u := O4.map (rx_t_getf Fr (i := 21) (a := 0) (k := 0) (q := ("SetHouse$Place", rx_T0, 6)) rfl (by decide) (by rw [hown]; exact rx_in (i := 77) (by decide +kernel) (by decide +kernel)) hfd (by rw [hcc]; decide +kernel))
  exact O1.map (rx_t_aload_n Fr (i := 0) rfl (by rw [hcc]; decide +kernel))
