def R_law : String := "SetHouseLaw"
def lw_P (b : Addr) (xs : List Int32) (args : Array Value) (s : State) : Prop := args = #[.ref b] ∧ s.IntsAt b xs ∧ xs.length ≤ 3073 ∧ (Jvm.Cond.and given_1 narrow_1).before args s = true
def lw_Q (_ : Array Value) (s : State) (o : Outcome) (t : State) : Prop := o = .returned (some (.int 1)) ∧ Framed s o t [] 601024 7293000
def lw_Z (below : List Frame) (a : Array Value) (s : State) : State → Prop := fun t => ∃ o, t.status = .running ∧ Ended t below o ∧ lw_Q a s o t
/-- the law's own end, with 1 on the stack, nothing written that was there before, its room as the claim has it -/
theorem lw_ret {p : Program} {l : Launch} {e : Env} {s : State} {m : MethodId} {below : List Frame} {meth : Method} {c : Code} {b : Nat} (hx : p.tables.exec = Jvm.exec) (hb : c.code = code) (hr : meth.sig.returnType = ret) (hlocks : meth.locks = false) {pc : Nat} {H : Heap} {ls : Array Slot} (hdg : decode code pc = .ok (.ireturn, 1)) : W p l e room_1 s m #[Value.ref b] below meth c H [] 601024 7293000 (lw_Z below #[Value.ref b] s) (F0 m pc ls [.int 1]) := by
  intro T hT X
  obtain ⟨fs, hret, hrun, hended, hW, hframe⟩ := X.leave (v := some (.int 1)) (hlocks := hlocks) (fun h => by rw [hr] at h; cases h)
  have hmeth' : T.vm.method? m = some meth := X.method'
  refine ⟨T.setFrames fs, ?_, .returned (some (.int 1)), hrun, hended, rfl, ⟨_, rfl⟩, hW, hframe⟩
  jvm_step X.here [X.here.top, hx, hb, hdg, hmeth', hr, ret, narrow_b1]
  (try refine ⟨rfl, ?_⟩); (try refine ⟨rfl, ?_⟩)
  first | (intro acts; rw [hret _ acts rfl rfl rfl]) | rw [hret _ _ rfl rfl rfl]
  exact Steps.refl _
/-- what holds at the law's entry: the machine, the code, the tables' words (any of lw_tbl by 'hts w (by decide +kernel)'), the script of L ints xs at the cell b, what the Statement gives of the start (any of its parts by flat_of_before) -/
def lw_At (p : Program) (s : State) (m : MethodId) (meth : Method) (c : Code) (b L : Nat) (xs : Nat → Int32) : Prop :=
  p.tables.exec = Jvm.exec ∧ c.code = code ∧ meth.sig.returnType = ret ∧ c.maxLocals = 8 ∧ s.vm.findClass R_law = some m.cls ∧ (∀ w ∈ lw_tbl, w.before #[Value.ref b] s = true) ∧ va_X b L xs s s.heap ∧ b < s.heap.size ∧ meth.locks = false ∧ (Jvm.Cond.and given_1 narrow_1).before #[Value.ref b] s = true
-- ===== YOUR PART BEGINS =====
/-! ===== The law's start ===== -/
theorem rx_ar {args : Array Value} {s : State} {ty : FieldType} (h : (Cond.arrayClass ty).before args s = true) : ∃ cA : ClassId, ArrOfT s cA ty ∧ s.vm.findClass ("[" ++ ty.toString) = some cA := by
  obtain ⟨cA, kA, comp, h1, h2, h3⟩ := Cond.arrayClass_spec h
  exact ⟨cA, fun n z => ⟨fun k h => (by cases h), kA, h2, comp, h3⟩, h1⟩
theorem rx_arO {args : Array Value} {s : State} {C : String} (h : (Cond.arrayOver (.object C)).before args s = true) : ∃ cA : ClassId, ArrOfT s cA (.object C) ∧ va_RA s cA (.object C) := by
  obtain ⟨comp, c, k, h1, h2, h3, h4, h5⟩ := Cond.arrayOver_spec h
  exact ⟨c, fun n z => ⟨fun k h => (by cases h), k, h3, comp, h4⟩, ⟨k, comp, h3, h4, h1, h5⟩⟩
theorem rx_str {args : Array Value} {s : State} {own tx : String} {k : Nat} (h1 : (Cond.stringRef own k tx).before args s = true) (h2 : (Cond.exactly (.string own k) "java/lang/String").before args s = true) : ∃ a, vk_R own k tx a s := by
  obtain ⟨a, c, cA, kA, q1, -⟩ := Cond.exactly_spec (args := args) (first := s) (o := none) (s := s) (idx := []) (t := .string own k) (cls := "java/lang/String") h2
  exact ⟨a, vk_R.of h1 q1⟩
theorem rx_lt6' {P : Nat → Prop} (h0 : P 0) (h1 : P 1) (h2 : P 2) (h3 : P 3) (h4 : P 4) (h5 : P 5) : ∀ j, j < 6 → P j
  | 0, _ => h0
  | 1, _ => h1
  | 2, _ => h2
  | 3, _ => h3
  | 4, _ => h4
  | 5, _ => h5
  | j + 6, h => by omega
theorem rx_lt7' {P : Nat → Prop} (h0 : P 0) (h1 : P 1) (h2 : P 2) (h3 : P 3) (h4 : P 4) (h5 : P 5) (h6 : P 6) : ∀ j, j < 7 → P j
  | 0, _ => h0
  | 1, _ => h1
  | 2, _ => h2
  | 3, _ => h3
  | 4, _ => h4
  | 5, _ => h5
  | 6, _ => h6
  | j + 7, h => by omega
set_option maxRecDepth 100000 in
theorem rx_start {p : Program} {s : State} {m : MethodId} {meth : Method} {c : Code} {b L : Nat} {xs : Nat → Int32} (C0 : lw_At p s m meth c b L xs) : ∃ G : rx_G, rx_base G = s.heap.size ∧ rx_ab G = b ∧ rx_H0 G = s.heap ∧ rx_sc G = (L, xs) ∧ rx_Ks G s := by
  obtain ⟨hx, hb, hr, hml, hown, hts, hX, hbl, hlocks, hgv⟩ := C0
  have hs := flat_of_before _ hgv
  have ht : ∀ w ∈ rx_TB, w.before #[Value.ref b] s = true := fun w hw => hts w (List.mem_filter.mp hw).1
  have hi : ∀ {w : Cond} {i : Nat}, lw_tbl[i]? = some w → w.before #[Value.ref b] s = true := fun h => hts _ (List.mem_of_getElem? h)
  have hA : ∀ a : Nat, a < s.heap.size → ¬ s.heap.size ≤ a := fun a h => Nat.not_le.mpr h
  obtain ⟨c0, iS0, hKn0⟩ := u_known (C := "SetHouse$Place") (T := rx_T0) (N := 6) (n := 6) ht (rx_lin (a := 0) (q := ("SetHouse$Place", rx_T0, 6)) rfl) (hi (i := 71) (by decide +kernel))
  obtain ⟨c1, iS1, hKn1⟩ := u_known (C := "SetHouse$Seeker") (T := rx_T1) (N := 5) (n := 5) ht (rx_lin (a := 1) (q := ("SetHouse$Seeker", rx_T1, 5)) rfl) (hi (i := 113) (by decide +kernel))
  obtain ⟨c2, iS2, hKn2⟩ := u_known (C := "SetHouse") (T := rx_T2) (N := 6) (n := 6) ht (rx_lin (a := 2) (q := ("SetHouse", rx_T2, 6)) rfl) (hi (i := 59) (by decide +kernel))
  obtain ⟨c3, iS3, hKn3⟩ := u_known (C := "SetHouseModel") (T := rx_T3) (N := 15) (n := 15) ht (rx_lin (a := 3) (q := ("SetHouseModel", rx_T3, 15)) rfl) (hi (i := 748) (by decide +kernel))
  obtain ⟨cI, aI, nI⟩ := rx_ar (ty := .int) (hi (i := 134) (by decide +kernel))
  obtain ⟨cJ, aJ, nJ⟩ := rx_ar (ty := .long) (hi (i := 105) (by decide +kernel))
  obtain ⟨cP, aP, nP⟩ := rx_arO (C := "SetHouse$Place") (hi (i := 70) (by decide +kernel))
  obtain ⟨aw, ew, tw⟩ := va_Tof (tm := .static "SetHouse$Heap" "WITHOUT" "[J") (ty := .long) (N := 6) (f := fun j => .long (rx_W.getD j 0)) (A := fun q => s.heap.size ≤ q) (by decide) (hs _ (by decide +kernel)) (va_eqt (hs _ (by decide +kernel))) (rx_lt6' (va_eqtl (hs _ (by decide +kernel))) (va_eqtl (hs _ (by decide +kernel))) (va_eqtl (hs _ (by decide +kernel))) (va_eqtl (hs _ (by decide +kernel))) (va_eqtl (hs _ (by decide +kernel))) (va_eqtl (hs _ (by decide +kernel)))) hA
  obtain ⟨af, ef, tf⟩ := va_Tof (tm := .static "SetHouse$Numbers" "FACTORIALS" "[I") (ty := .int) (N := 7) (f := fun j => .int (rx_F.getD j 0)) (A := fun q => s.heap.size ≤ q) (by decide) (hs _ (by decide +kernel)) (va_eqt (hs _ (by decide +kernel))) (rx_lt7' (va_eqt (hs _ (by decide +kernel))) (va_eqt (hs _ (by decide +kernel))) (va_eqt (hs _ (by decide +kernel))) (va_eqt (hs _ (by decide +kernel))) (va_eqt (hs _ (by decide +kernel))) (va_eqt (hs _ (by decide +kernel))) (va_eqt (hs _ (by decide +kernel)))) hA
  have zw := va_Zof (hi (i := 320) (by decide +kernel)) (hi (i := 48) (by decide +kernel)) ew hA
  have zf := va_Zof (hi (i := 427) (by decide +kernel)) (hi (i := 51) (by decide +kernel)) ef hA
  have zu := vx_Zqof (A := fun q => s.heap.size ≤ q) (C := Bundle.tN) (n := "UNASSIGNED_STACK") (d := Bundle.steD) (hi (i := 672) (by decide +kernel)) (hi (i := 52) (by decide +kernel)) (hs _ (by decide +kernel)) hA
  have zn := vx_Zqof (A := fun q => s.heap.size ≤ q) (C := Bundle.tN) (n := "SUPPRESSED_SENTINEL") (d := Bundle.listD) (hi (i := 674) (by decide +kernel)) (hi (i := 52) (by decide +kernel)) (hs _ (by decide +kernel)) hA
  let D : va_G := (fun k => match k with | 0 => c0 | 1 => c1 | 2 => c2 | _ => c3, fun k => match k with | 0 => iS0 | 1 => iS1 | 2 => iS2 | _ => iS3)
  refine ⟨(s.heap.size, b, aw, af, D, (cI, cJ, cP), s.heap, (L, xs)), rfl, rfl, rfl, rfl, ⟨fun k q hq => ?_, fun k q hq => ?_⟩, ⟨hbl, ?_⟩, rfl, zw, ⟨?_, ?_⟩, zf, ⟨?_, ?_⟩, va_Nw.of rfl (hi (i := 72) (by decide +kernel)), va_Nw.of rfl (hi (i := 114) (by decide +kernel)), va_AO.of (hi (i := 70) (by decide +kernel)), ⟨fun w hw => ?_, zu, zn, rx_str (hi (i := 685) (by decide +kernel)) (hs _ (by decide +kernel)), rx_str (hi (i := 733) (by decide +kernel)) (hs _ (by decide +kernel)), rx_str (hi (i := 740) (by decide +kernel)) (hs _ (by decide +kernel)), rx_str (hi (i := 742) (by decide +kernel)) (hs _ (by decide +kernel)), va_Nc.of (hs _ (by decide +kernel))⟩⟩
  · match k, hq with
    | 0, hq => cases hq; exact hKn0
    | 1, hq => cases hq; exact hKn1
    | 2, hq => cases hq; exact hKn2
    | 3, hq => cases hq; exact hKn3
    | k + 4, hq => simp [rx_cl] at hq
  · match k, hq with
    | 0, hq => cases hq; exact ⟨aI, nI⟩
    | 1, hq => cases hq; exact ⟨aJ, nJ⟩
    | 2, hq => cases hq; exact ⟨aP, nP⟩
    | k + 3, hq => simp [rx_tys] at hq
  · obtain ⟨scr, q1, q2, q3, q4, q5⟩ := hX
    exact ⟨scr, q1, q2, q3, ⟨Nat.le_of_eq q4.symm, by rw [q4]⟩, q5⟩
  · obtain ⟨cell, q1, -⟩ := tw
    exact (Array.getElem?_eq_some_iff.mp q1).1
  · obtain ⟨cell, q1, q2, q3, q4, q5, q6, q7⟩ := tw
    exact ⟨cell, q1, q2, q3, ⟨q4, q5⟩, q6⟩
  · obtain ⟨cell, q1, -⟩ := tf
    exact (Array.getElem?_eq_some_iff.mp q1).1
  · obtain ⟨cell, q1, q2, q3, q4, q5, q6, q7⟩ := tf
    exact ⟨cell, q1, q2, q3, ⟨q4, q5⟩, q6⟩
  · have hg := (List.mem_filter.mp hw).2
    rw [Bool.and_eq_true] at hg
    exact va_Nw.of hg.1 (hts w (List.mem_filter.mp hw).1)
