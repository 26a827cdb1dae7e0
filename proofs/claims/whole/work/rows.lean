section
-- ===== PART A: goes FIRST, ahead of the names: the tables' words, and 'selects' of the private methods out of them =====
/-- a private method of a class that the tables say can be made, by its rows of tables_1 -/
def lw_okq (q : MethodName × Nat) : Prop := (q.1.cls ≠ "java/lang/invoke/MethodHandle" ∧ q.1.cls ≠ "java/lang/invoke/VarHandle") ∧ Cond.instantiable q.1.cls q.2 ∈ tables_1 ∧ Cond.privateMethod q.1 ∈ tables_1 ∧ Cond.instanceMethod q.1 ∈ tables_1
theorem lw_p0 : lw_okq (⟨"SetHouse", "isPlace", "(I)Z"⟩, 6) := ⟨⟨by decide +kernel, by decide +kernel⟩, List.mem_of_getElem? (i := 19) (by decide +kernel), List.mem_of_getElem? (i := 119) (by decide +kernel), List.mem_of_getElem? (i := 120) (by decide +kernel)⟩
theorem lw_p1 : lw_okq (⟨"SetHouse", "isKind", "(II)Z"⟩, 6) := ⟨⟨by decide +kernel, by decide +kernel⟩, List.mem_of_getElem? (i := 19) (by decide +kernel), List.mem_of_getElem? (i := 123) (by decide +kernel), List.mem_of_getElem? (i := 124) (by decide +kernel)⟩
theorem lw_p2 : lw_okq (⟨"SetHouse", "isSize", "(I)Z"⟩, 6) := ⟨⟨by decide +kernel, by decide +kernel⟩, List.mem_of_getElem? (i := 19) (by decide +kernel), List.mem_of_getElem? (i := 130) (by decide +kernel), List.mem_of_getElem? (i := 131) (by decide +kernel)⟩
theorem lw_p3 : lw_okq (⟨"SetHouse", "keep", "(IIIJ)I"⟩, 6) := ⟨⟨by decide +kernel, by decide +kernel⟩, List.mem_of_getElem? (i := 19) (by decide +kernel), List.mem_of_getElem? (i := 134) (by decide +kernel), List.mem_of_getElem? (i := 135) (by decide +kernel)⟩
theorem lw_p4 : lw_okq (⟨"SetHouse", "familyRefusal", "(IZ)I"⟩, 6) := ⟨⟨by decide +kernel, by decide +kernel⟩, List.mem_of_getElem? (i := 19) (by decide +kernel), List.mem_of_getElem? (i := 155) (by decide +kernel), List.mem_of_getElem? (i := 156) (by decide +kernel)⟩
theorem lw_p5 : lw_okq (⟨"SetHouse", "isSet", "(I)Z"⟩, 6) := ⟨⟨by decide +kernel, by decide +kernel⟩, List.mem_of_getElem? (i := 19) (by decide +kernel), List.mem_of_getElem? (i := 167) (by decide +kernel), List.mem_of_getElem? (i := 168) (by decide +kernel)⟩
theorem lw_p6 : lw_okq (⟨"SetHouse", "comes", "(LSetHouse$Place;I)Z"⟩, 6) := ⟨⟨by decide +kernel, by decide +kernel⟩, List.mem_of_getElem? (i := 19) (by decide +kernel), List.mem_of_getElem? (i := 171) (by decide +kernel), List.mem_of_getElem? (i := 172) (by decide +kernel)⟩
theorem lw_p7 : lw_okq (⟨"SetHouse", "keepBeside", "(IIJI)I"⟩, 6) := ⟨⟨by decide +kernel, by decide +kernel⟩, List.mem_of_getElem? (i := 19) (by decide +kernel), List.mem_of_getElem? (i := 282) (by decide +kernel), List.mem_of_getElem? (i := 283) (by decide +kernel)⟩
theorem lw_p8 : lw_okq (⟨"SetHouse", "familiesRefusal", "(IIZ)I"⟩, 6) := ⟨⟨by decide +kernel, by decide +kernel⟩, List.mem_of_getElem? (i := 19) (by decide +kernel), List.mem_of_getElem? (i := 314) (by decide +kernel), List.mem_of_getElem? (i := 315) (by decide +kernel)⟩
theorem lw_p9 : lw_okq (⟨"SetHouse", "isThing", "(I)Z"⟩, 6) := ⟨⟨by decide +kernel, by decide +kernel⟩, List.mem_of_getElem? (i := 19) (by decide +kernel), List.mem_of_getElem? (i := 364) (by decide +kernel), List.mem_of_getElem? (i := 365) (by decide +kernel)⟩
theorem lw_p10 : lw_okq (⟨"SetHouse$Seeker", "opens", "(JIIIII)Z"⟩, 5) := ⟨⟨by decide +kernel, by decide +kernel⟩, List.mem_of_getElem? (i := 73) (by decide +kernel), List.mem_of_getElem? (i := 460) (by decide +kernel), List.mem_of_getElem? (i := 461) (by decide +kernel)⟩
theorem lw_p11 : lw_okq (⟨"SetHouse$Seeker", "keepPetals", "(I)V"⟩, 5) := ⟨⟨by decide +kernel, by decide +kernel⟩, List.mem_of_getElem? (i := 73) (by decide +kernel), List.mem_of_getElem? (i := 471) (by decide +kernel), List.mem_of_getElem? (i := 472) (by decide +kernel)⟩
theorem lw_p12 : lw_okq (⟨"SetHouse", "rowRefusal", "(I)I"⟩, 6) := ⟨⟨by decide +kernel, by decide +kernel⟩, List.mem_of_getElem? (i := 19) (by decide +kernel), List.mem_of_getElem? (i := 566) (by decide +kernel), List.mem_of_getElem? (i := 567) (by decide +kernel)⟩
theorem lw_p13 : lw_okq (⟨"java/lang/Throwable", "fillInStackTrace", "(I)Ljava/lang/Throwable;"⟩, 6) := ⟨⟨by decide +kernel, by decide +kernel⟩, List.mem_of_getElem? (i := 639) (by decide +kernel), List.mem_of_getElem? (i := 637) (by decide +kernel), List.mem_of_getElem? (i := 638) (by decide +kernel)⟩
theorem lw_p14 : lw_okq (⟨"SetHouseModel", "isKind", "(II)Z"⟩, 15) := ⟨⟨by decide +kernel, by decide +kernel⟩, List.mem_of_getElem? (i := 704) (by decide +kernel), List.mem_of_getElem? (i := 766) (by decide +kernel), List.mem_of_getElem? (i := 767) (by decide +kernel)⟩
theorem lw_p15 : lw_okq (⟨"SetHouseModel", "holdsNow", "(IIIJ)I"⟩, 15) := ⟨⟨by decide +kernel, by decide +kernel⟩, List.mem_of_getElem? (i := 704) (by decide +kernel), List.mem_of_getElem? (i := 770) (by decide +kernel), List.mem_of_getElem? (i := 771) (by decide +kernel)⟩
def lw_privs_1 : List (MethodName × Nat) := [(⟨"SetHouse", "isPlace", "(I)Z"⟩, 6), (⟨"SetHouse", "isKind", "(II)Z"⟩, 6), (⟨"SetHouse", "isSize", "(I)Z"⟩, 6), (⟨"SetHouse", "keep", "(IIIJ)I"⟩, 6), (⟨"SetHouse", "familyRefusal", "(IZ)I"⟩, 6), (⟨"SetHouse", "isSet", "(I)Z"⟩, 6), (⟨"SetHouse", "comes", "(LSetHouse$Place;I)Z"⟩, 6), (⟨"SetHouse", "keepBeside", "(IIJI)I"⟩, 6), (⟨"SetHouse", "familiesRefusal", "(IIZ)I"⟩, 6), (⟨"SetHouse", "isThing", "(I)Z"⟩, 6), (⟨"SetHouse$Seeker", "opens", "(JIIIII)Z"⟩, 5), (⟨"SetHouse$Seeker", "keepPetals", "(I)V"⟩, 5), (⟨"SetHouse", "rowRefusal", "(I)I"⟩, 6), (⟨"java/lang/Throwable", "fillInStackTrace", "(I)Ljava/lang/Throwable;"⟩, 6), (⟨"SetHouseModel", "isKind", "(II)Z"⟩, 15), (⟨"SetHouseModel", "holdsNow", "(IIIJ)I"⟩, 15)]
theorem lw_r1 : ∀ q ∈ lw_privs_1, lw_okq q := List.forall_mem_cons.mpr ⟨lw_p0, List.forall_mem_cons.mpr ⟨lw_p1, List.forall_mem_cons.mpr ⟨lw_p2, List.forall_mem_cons.mpr ⟨lw_p3, List.forall_mem_cons.mpr ⟨lw_p4, List.forall_mem_cons.mpr ⟨lw_p5, List.forall_mem_cons.mpr ⟨lw_p6, List.forall_mem_cons.mpr ⟨lw_p7, List.forall_mem_cons.mpr ⟨lw_p8, List.forall_mem_cons.mpr ⟨lw_p9, List.forall_mem_cons.mpr ⟨lw_p10, List.forall_mem_cons.mpr ⟨lw_p11, List.forall_mem_cons.mpr ⟨lw_p12, List.forall_mem_cons.mpr ⟨lw_p13, List.forall_mem_cons.mpr ⟨lw_p14, List.forall_mem_cons.mpr ⟨lw_p15, fun _ h => absurd h List.not_mem_nil⟩⟩⟩⟩⟩⟩⟩⟩⟩⟩⟩⟩⟩⟩⟩⟩
theorem lw_p16 : lw_okq (⟨"SetHouseModel", "lacks", "(I)I"⟩, 15) := ⟨⟨by decide +kernel, by decide +kernel⟩, List.mem_of_getElem? (i := 704) (by decide +kernel), List.mem_of_getElem? (i := 781) (by decide +kernel), List.mem_of_getElem? (i := 782) (by decide +kernel)⟩
theorem lw_p17 : lw_okq (⟨"SetHouseModel", "isSet", "(I)Z"⟩, 15) := ⟨⟨by decide +kernel, by decide +kernel⟩, List.mem_of_getElem? (i := 704) (by decide +kernel), List.mem_of_getElem? (i := 789) (by decide +kernel), List.mem_of_getElem? (i := 790) (by decide +kernel)⟩
theorem lw_p18 : lw_okq (⟨"SetHouseModel", "adds", "(II)I"⟩, 15) := ⟨⟨by decide +kernel, by decide +kernel⟩, List.mem_of_getElem? (i := 704) (by decide +kernel), List.mem_of_getElem? (i := 793) (by decide +kernel), List.mem_of_getElem? (i := 794) (by decide +kernel)⟩
theorem lw_p19 : lw_okq (⟨"SetHouseModel", "hinders", "(II)I"⟩, 15) := ⟨⟨by decide +kernel, by decide +kernel⟩, List.mem_of_getElem? (i := 704) (by decide +kernel), List.mem_of_getElem? (i := 797) (by decide +kernel), List.mem_of_getElem? (i := 798) (by decide +kernel)⟩
theorem lw_p20 : lw_okq (⟨"SetHouseModel", "sized", "(JI)I"⟩, 15) := ⟨⟨by decide +kernel, by decide +kernel⟩, List.mem_of_getElem? (i := 704) (by decide +kernel), List.mem_of_getElem? (i := 834) (by decide +kernel), List.mem_of_getElem? (i := 835) (by decide +kernel)⟩
theorem lw_p21 : lw_okq (⟨"SetHouseModel", "goes", "(JIIII)Z"⟩, 15) := ⟨⟨by decide +kernel, by decide +kernel⟩, List.mem_of_getElem? (i := 704) (by decide +kernel), List.mem_of_getElem? (i := 850) (by decide +kernel), List.mem_of_getElem? (i := 851) (by decide +kernel)⟩
theorem lw_p22 : lw_okq (⟨"SetHouseModel", "shadows", "(IIZ)I"⟩, 15) := ⟨⟨by decide +kernel, by decide +kernel⟩, List.mem_of_getElem? (i := 704) (by decide +kernel), List.mem_of_getElem? (i := 858) (by decide +kernel), List.mem_of_getElem? (i := 859) (by decide +kernel)⟩
theorem lw_p23 : lw_okq (⟨"SetHouseModel", "shadowOf", "(JZ)J"⟩, 15) := ⟨⟨by decide +kernel, by decide +kernel⟩, List.mem_of_getElem? (i := 704) (by decide +kernel), List.mem_of_getElem? (i := 862) (by decide +kernel), List.mem_of_getElem? (i := 863) (by decide +kernel)⟩
theorem lw_p24 : lw_okq (⟨"SetHouseModel", "each", "(JJZ)J"⟩, 15) := ⟨⟨by decide +kernel, by decide +kernel⟩, List.mem_of_getElem? (i := 704) (by decide +kernel), List.mem_of_getElem? (i := 885) (by decide +kernel), List.mem_of_getElem? (i := 886) (by decide +kernel)⟩
theorem lw_p25 : lw_okq (⟨"SetHouseModel", "traceOf", "(JI)J"⟩, 15) := ⟨⟨by decide +kernel, by decide +kernel⟩, List.mem_of_getElem? (i := 704) (by decide +kernel), List.mem_of_getElem? (i := 897) (by decide +kernel), List.mem_of_getElem? (i := 898) (by decide +kernel)⟩
theorem lw_p26 : lw_okq (⟨"SetHouseModel", "isTurn", "(I)Z"⟩, 15) := ⟨⟨by decide +kernel, by decide +kernel⟩, List.mem_of_getElem? (i := 704) (by decide +kernel), List.mem_of_getElem? (i := 905) (by decide +kernel), List.mem_of_getElem? (i := 906) (by decide +kernel)⟩
theorem lw_p27 : lw_okq (⟨"SetHouseModel", "turnedAll", "(J)J"⟩, 15) := ⟨⟨by decide +kernel, by decide +kernel⟩, List.mem_of_getElem? (i := 704) (by decide +kernel), List.mem_of_getElem? (i := 909) (by decide +kernel), List.mem_of_getElem? (i := 910) (by decide +kernel)⟩
theorem lw_p28 : lw_okq (⟨"SetHouseModel", "turnedSet", "(I)I"⟩, 15) := ⟨⟨by decide +kernel, by decide +kernel⟩, List.mem_of_getElem? (i := 704) (by decide +kernel), List.mem_of_getElem? (i := 913) (by decide +kernel), List.mem_of_getElem? (i := 914) (by decide +kernel)⟩
theorem lw_p29 : lw_okq (⟨"SetHouseModel", "firstTurn", "()V"⟩, 15) := ⟨⟨by decide +kernel, by decide +kernel⟩, List.mem_of_getElem? (i := 704) (by decide +kernel), List.mem_of_getElem? (i := 921) (by decide +kernel), List.mem_of_getElem? (i := 922) (by decide +kernel)⟩
theorem lw_p30 : lw_okq (⟨"SetHouseModel", "number", "()I"⟩, 15) := ⟨⟨by decide +kernel, by decide +kernel⟩, List.mem_of_getElem? (i := 704) (by decide +kernel), List.mem_of_getElem? (i := 925) (by decide +kernel), List.mem_of_getElem? (i := 926) (by decide +kernel)⟩
theorem lw_p31 : lw_okq (⟨"SetHouseModel", "nextTurn", "()Z"⟩, 15) := ⟨⟨by decide +kernel, by decide +kernel⟩, List.mem_of_getElem? (i := 704) (by decide +kernel), List.mem_of_getElem? (i := 929) (by decide +kernel), List.mem_of_getElem? (i := 930) (by decide +kernel)⟩
def lw_privs_2 : List (MethodName × Nat) := [(⟨"SetHouseModel", "lacks", "(I)I"⟩, 15), (⟨"SetHouseModel", "isSet", "(I)Z"⟩, 15), (⟨"SetHouseModel", "adds", "(II)I"⟩, 15), (⟨"SetHouseModel", "hinders", "(II)I"⟩, 15), (⟨"SetHouseModel", "sized", "(JI)I"⟩, 15), (⟨"SetHouseModel", "goes", "(JIIII)Z"⟩, 15), (⟨"SetHouseModel", "shadows", "(IIZ)I"⟩, 15), (⟨"SetHouseModel", "shadowOf", "(JZ)J"⟩, 15), (⟨"SetHouseModel", "each", "(JJZ)J"⟩, 15), (⟨"SetHouseModel", "traceOf", "(JI)J"⟩, 15), (⟨"SetHouseModel", "isTurn", "(I)Z"⟩, 15), (⟨"SetHouseModel", "turnedAll", "(J)J"⟩, 15), (⟨"SetHouseModel", "turnedSet", "(I)I"⟩, 15), (⟨"SetHouseModel", "firstTurn", "()V"⟩, 15), (⟨"SetHouseModel", "number", "()I"⟩, 15), (⟨"SetHouseModel", "nextTurn", "()Z"⟩, 15)]
theorem lw_r2 : ∀ q ∈ lw_privs_2, lw_okq q := List.forall_mem_cons.mpr ⟨lw_p16, List.forall_mem_cons.mpr ⟨lw_p17, List.forall_mem_cons.mpr ⟨lw_p18, List.forall_mem_cons.mpr ⟨lw_p19, List.forall_mem_cons.mpr ⟨lw_p20, List.forall_mem_cons.mpr ⟨lw_p21, List.forall_mem_cons.mpr ⟨lw_p22, List.forall_mem_cons.mpr ⟨lw_p23, List.forall_mem_cons.mpr ⟨lw_p24, List.forall_mem_cons.mpr ⟨lw_p25, List.forall_mem_cons.mpr ⟨lw_p26, List.forall_mem_cons.mpr ⟨lw_p27, List.forall_mem_cons.mpr ⟨lw_p28, List.forall_mem_cons.mpr ⟨lw_p29, List.forall_mem_cons.mpr ⟨lw_p30, List.forall_mem_cons.mpr ⟨lw_p31, fun _ h => absurd h List.not_mem_nil⟩⟩⟩⟩⟩⟩⟩⟩⟩⟩⟩⟩⟩⟩⟩⟩
theorem lw_p32 : lw_okq (⟨"SetHouseModel", "swap", "(II)V"⟩, 15) := ⟨⟨by decide +kernel, by decide +kernel⟩, List.mem_of_getElem? (i := 704) (by decide +kernel), List.mem_of_getElem? (i := 933) (by decide +kernel), List.mem_of_getElem? (i := 934) (by decide +kernel)⟩
theorem lw_p33 : lw_okq (⟨"SetHouseModel", "pushes", "(III)I"⟩, 15) := ⟨⟨by decide +kernel, by decide +kernel⟩, List.mem_of_getElem? (i := 704) (by decide +kernel), List.mem_of_getElem? (i := 945) (by decide +kernel), List.mem_of_getElem? (i := 946) (by decide +kernel)⟩
theorem lw_p34 : lw_okq (⟨"SetHouseModel", "staysLayer", "(I)V"⟩, 15) := ⟨⟨by decide +kernel, by decide +kernel⟩, List.mem_of_getElem? (i := 704) (by decide +kernel), List.mem_of_getElem? (i := 949) (by decide +kernel), List.mem_of_getElem? (i := 950) (by decide +kernel)⟩
theorem lw_p35 : lw_okq (⟨"SetHouseModel", "chainFirst", "(I)I"⟩, 15) := ⟨⟨by decide +kernel, by decide +kernel⟩, List.mem_of_getElem? (i := 704) (by decide +kernel), List.mem_of_getElem? (i := 998) (by decide +kernel), List.mem_of_getElem? (i := 999) (by decide +kernel)⟩
theorem lw_p36 : lw_okq (⟨"SetHouseModel", "blooms", "(JIII)Z"⟩, 15) := ⟨⟨by decide +kernel, by decide +kernel⟩, List.mem_of_getElem? (i := 704) (by decide +kernel), List.mem_of_getElem? (i := 1025) (by decide +kernel), List.mem_of_getElem? (i := 1026) (by decide +kernel)⟩
theorem lw_p37 : lw_okq (⟨"SetHouseModel", "looseFrom", "(JII)I"⟩, 15) := ⟨⟨by decide +kernel, by decide +kernel⟩, List.mem_of_getElem? (i := 704) (by decide +kernel), List.mem_of_getElem? (i := 1041) (by decide +kernel), List.mem_of_getElem? (i := 1042) (by decide +kernel)⟩
theorem lw_p38 : lw_okq (⟨"SetHouseModel", "isShattered", "(JI)Z"⟩, 15) := ⟨⟨by decide +kernel, by decide +kernel⟩, List.mem_of_getElem? (i := 704) (by decide +kernel), List.mem_of_getElem? (i := 1049) (by decide +kernel), List.mem_of_getElem? (i := 1050) (by decide +kernel)⟩
theorem lw_p39 : lw_okq (⟨"SetHouseModel", "mostOf", "(JII)I"⟩, 15) := ⟨⟨by decide +kernel, by decide +kernel⟩, List.mem_of_getElem? (i := 704) (by decide +kernel), List.mem_of_getElem? (i := 1057) (by decide +kernel), List.mem_of_getElem? (i := 1058) (by decide +kernel)⟩
def lw_privs_3 : List (MethodName × Nat) := [(⟨"SetHouseModel", "swap", "(II)V"⟩, 15), (⟨"SetHouseModel", "pushes", "(III)I"⟩, 15), (⟨"SetHouseModel", "staysLayer", "(I)V"⟩, 15), (⟨"SetHouseModel", "chainFirst", "(I)I"⟩, 15), (⟨"SetHouseModel", "blooms", "(JIII)Z"⟩, 15), (⟨"SetHouseModel", "looseFrom", "(JII)I"⟩, 15), (⟨"SetHouseModel", "isShattered", "(JI)Z"⟩, 15), (⟨"SetHouseModel", "mostOf", "(JII)I"⟩, 15)]
theorem lw_r3 : ∀ q ∈ lw_privs_3, lw_okq q := List.forall_mem_cons.mpr ⟨lw_p32, List.forall_mem_cons.mpr ⟨lw_p33, List.forall_mem_cons.mpr ⟨lw_p34, List.forall_mem_cons.mpr ⟨lw_p35, List.forall_mem_cons.mpr ⟨lw_p36, List.forall_mem_cons.mpr ⟨lw_p37, List.forall_mem_cons.mpr ⟨lw_p38, List.forall_mem_cons.mpr ⟨lw_p39, fun _ h => absurd h List.not_mem_nil⟩⟩⟩⟩⟩⟩⟩⟩
def lw_privs : List (MethodName × Nat) := lw_privs_1 ++ (lw_privs_2 ++ (lw_privs_3))
def lw_tbl : List Cond := k2_sels lw_privs ++ tables_1
theorem lw_privs_ok : ∀ q ∈ lw_privs, lw_okq q := by
  show ∀ q ∈ lw_privs_1 ++ (lw_privs_2 ++ (lw_privs_3)), lw_okq q
  exact List.forall_mem_append.mpr ⟨lw_r1, List.forall_mem_append.mpr ⟨lw_r2, lw_r3⟩⟩
end
section
/-! A small machine over pictures of the heap, run by reduction. Its steps are proved to be the machine's own in the next part. -/
/-- a cell: an array (its size, what it holds), or an object (its class among rx_cl, its fields); references are places in the picture -/
abbrev rx_C : Type := vp_A ⊕ (Nat × List Value)
/-- the script (its length, its ints), and the cells -/
abbrev rx_H : Type := (Nat × (Nat → Int32)) × List rx_C
abbrev rx_L : Type := List (Option Value)
/-- an instruction: pc, itself, its length, two numbers, the place of its word, an int, a long, a switch's cases -/
abbrev rx_E : Type := Nat × Instr × Nat × Nat × Nat × Nat × Int32 × Int64 × List (Int32 × Nat)
/-- what a call is given to go on with -/
abbrev rx_K (α : Type) : Type := Option Value → Option rx_H → Option α
abbrev rx_Cl (α : Type) : Type := Nat → List Value → Option rx_H → rx_K α → Option α
def rx_W : List Int64 := [6148914691236517205, 3689348814741910323, 1085102592571150095, 71777214294589695, 281470681808895, 4294967295]
def rx_F : List Int32 := [1, 1, 2, 6, 24, 120, 720]
def rx_fd (u : Option rx_H) (r c k : Nat) : Option Value := match u with
  | none => none
  | some h => match h.2[r]? with
    | some (.inr (c', fs)) => if c' = c then fs[k]? else none
    | _ => none
def rx_gI (u : Option rx_H) (r c k : Nat) : Option Int32 := match rx_fd u r c k with
  | some (.int x) => some x
  | _ => none
def rx_gJ (u : Option rx_H) (r c k : Nat) : Option Int64 := match rx_fd u r c k with
  | some (.long x) => some x
  | _ => none
def rx_gR (u : Option rx_H) (r c k : Nat) : Option Nat := match rx_fd u r c k with
  | some (.ref x) => some x
  | _ => none
def rx_p (u : Option rx_H) (r c k : Nat) (v : Value) : Option (Option rx_H) := match u with
  | none => none
  | some h => match h.2[r]? with
    | some (.inr (c', fs)) => if c' = c ∧ k < fs.length then some (some (h.1, h.2.set r (.inr (c', fs.set k v)))) else none
    | _ => none
def rx_aI (u : Option rx_H) (r : Nat) (i : Int32) : Option Int32 :=
  if r = 1000002 then (if i < 0 then none else rx_F[i.toNatClampNeg]?)
  else match u with
    | none => none
    | some h => if r = 1000000 then (if i < 0 ∨ h.1.1 ≤ i.toNatClampNeg then none else some (h.1.2 i.toNatClampNeg))
      else match h.2[r]? with
        | some (.inl (n, .inl f)) => if i < 0 ∨ n ≤ i.toNatClampNeg then none else some (f i.toNatClampNeg)
        | _ => none
def rx_aJ (u : Option rx_H) (r : Nat) (i : Int32) : Option Int64 :=
  if r = 1000001 then (if i < 0 then none else rx_W[i.toNatClampNeg]?)
  else match u with
    | none => none
    | some h => match h.2[r]? with
      | some (.inl (n, .inr (.inl f))) => if i < 0 ∨ n ≤ i.toNatClampNeg then none else some (f i.toNatClampNeg)
      | _ => none
def rx_aR (u : Option rx_H) (r : Nat) (i : Int32) : Option Nat := match u with
  | none => none
  | some h => match h.2[r]? with
    | some (.inl (n, .inr (.inr (.inr (.inr f))))) => if i < 0 ∨ n ≤ i.toNatClampNeg then none else f i.toNatClampNeg
    | _ => none
def rx_sI (u : Option rx_H) (r : Nat) (i x : Int32) : Option (Option rx_H) := match u with
  | none => none
  | some h => match h.2[r]? with
    | some (.inl (n, .inl f)) => if i < 0 ∨ n ≤ i.toNatClampNeg then none else some (some (h.1, h.2.set r (.inl (n, .inl (upd f i.toNatClampNeg x)))))
    | _ => none
def rx_sJ (u : Option rx_H) (r : Nat) (i : Int32) (x : Int64) : Option (Option rx_H) := match u with
  | none => none
  | some h => match h.2[r]? with
    | some (.inl (n, .inr (.inl f))) => if i < 0 ∨ n ≤ i.toNatClampNeg then none else some (some (h.1, h.2.set r (.inl (n, .inr (.inl (vp_updL f i.toNatClampNeg x))))))
    | _ => none
/-- only objects of class 0 are put into arrays of references -/
def rx_sR (u : Option rx_H) (r : Nat) (i : Int32) (x : Nat) : Option (Option rx_H) := match u with
  | none => none
  | some h => match h.2[r]?, h.2[x]? with
    | some (.inl (n, .inr (.inr (.inr (.inr f))))), some (.inr (0, _)) => if i < 0 ∨ n ≤ i.toNatClampNeg then none else some (some (h.1, h.2.set r (.inl (n, .inr (.inr (.inr (.inr (va_up f i.toNatClampNeg (some x)))))))))
    | _, _ => none
/-- the script's length -/
def rx_len (u : Option rx_H) (r : Nat) : Option Int32 := match u with
  | none => none
  | some h => if r = 1000000 then some (Int32.ofNat h.1.1) else none
def rx_df (c : Nat) : List Value := match c with
  | 0 => [.int 0, .int 0, .long 0, .long 0, .int 0, .null]
  | 1 => [.null, .null, .int 0, .null, .null]
  | 2 => [.int 0, .int 0, .null, .null, .null, .int 0]
  | 3 => [.int 0, .int 0, .int 0, .null, .null, .null, .null, .null, .null, .int 0, .null, .null, .null, .int 0, .null]
  | _ => []
def rx_push (u : Option rx_H) (c : rx_C) : Option (Nat × Option rx_H) := match u with
  | none => none
  | some h => if h.2.length < 999999 then some (h.2.length, some (h.1, h.2 ++ [c])) else none
def rx_nI (u : Option rx_H) (n : Int32) : Option (Nat × Option rx_H) := if n < 0 ∨ 100000 < n.toNatClampNeg then none else rx_push u (.inl (n.toNatClampNeg, .inl (fun _ => 0)))
def rx_nJ (u : Option rx_H) (n : Int32) : Option (Nat × Option rx_H) := if n < 0 ∨ 100000 < n.toNatClampNeg then none else rx_push u (.inl (n.toNatClampNeg, .inr (.inl (fun _ => 0))))
def rx_nR (u : Option rx_H) (n : Int32) : Option (Nat × Option rx_H) := if n < 0 ∨ 100000 < n.toNatClampNeg then none else rx_push u (.inl (n.toNatClampNeg, .inr (.inr (.inr (.inr (fun _ => none))))))
def rx_nO (u : Option rx_H) (c : Nat) : Option (Nat × Option rx_H) := if c < 4 then rx_push u (.inr (c, rx_df c)) else none
/-- System.arraycopy of longs -/
def rx_cp (u : Option rx_H) (r0 : Nat) (sp : Int32) (r1 : Nat) (dp n : Int32) : Option (Option rx_H) := match u with
  | none => none
  | some h => match h.2[r0]?, h.2[r1]? with
    | some (.inl (n0, .inr (.inl f))), some (.inl (n1, .inr (.inl g))) =>
      if sp < 0 ∨ dp < 0 ∨ n < 0 ∨ n0 < sp.toNatClampNeg + n.toNatClampNeg ∨ n1 < dp.toNatClampNeg + n.toNatClampNeg then none
      else some (some (h.1, h.2.set r1 (.inl (n1, .inr (.inl (va_cpy f g sp.toNatClampNeg dp.toNatClampNeg n.toNatClampNeg))))))
    | _, _ => none
/-- an object of a class -/
def rx_ck (u : Option rx_H) (r c : Nat) : Option Unit := match u with
  | none => none
  | some h => match h.2[r]? with
    | some (.inr (c', _)) => if c' = c then some () else none
    | _ => none
/-! locals -/
def rx_lg (ls : rx_L) (i : Nat) : Option Value := match ls[i]? with
  | some (some v) => some v
  | _ => none
def rx_kill (ls : rx_L) (i : Nat) : rx_L := match i with
  | 0 => ls
  | j + 1 => match ls[j]? with
    | some (some (.long _)) => ls.set j none
    | some (some (.double _)) => ls.set j none
    | _ => ls
def rx_s1 (ls : rx_L) (i : Nat) (v : Value) : rx_L := (rx_kill ls i).set i (some v)
def rx_s2 (ls : rx_L) (i : Nat) (v : Value) : rx_L := ((rx_kill ls i).set i (some v)).set (i + 1) none
noncomputable def rx_suf (t : Nat) : List rx_E → List rx_E
  | [] => []
  | e :: es => Bool.rec (motive := fun _ => List rx_E) (rx_suf t es) (e :: es) (Nat.beq e.1 t)
/-- a switch -/
def rx_sw {α : Type} (k : Nat → Option α) (x : Int32) (d : Nat) : List (Int32 × Nat) → Option α
  | [] => k d
  | q :: qs => if x = q.1 then k q.2 else rx_sw k x d qs
def rx_cat (st : List Value) : Nat := match st with
  | [] => 0
  | .long _ :: st => rx_cat st + 2
  | .double _ :: st => rx_cat st + 2
  | _ :: st => rx_cat st + 1
/-- so many arguments off the stack -/
def rx_take : Nat → List Value → List Value → Option (List Value × List Value)
  | 0, st, acc => some (acc, st)
  | _ + 1, [], _ => none
  | n + 1, v :: st, acc => rx_take n st (v :: acc)
noncomputable def rx_call {α : Type} (C : rx_Cl α) (k : List Value → Option rx_H → Option α) (j n : Nat) (st : List Value) (u : Option rx_H) : Option α := match rx_take n st [] with
  | none => none
  | some (as, rest) => Bool.rec (motive := fun _ => Option α) none (C j as u (fun v u' => k (v.toList ++ rest) u')) (Nat.ble (rx_cat rest) 8)
def rx_if {α : Type} (cd : ClassFile.Cond) (x y : Int32) (kt kf : Option α) : Option α := match cd with
  | .eq => if x = y then kt else kf
  | .ne => if x = y then kf else kt
  | .lt => if x < y then kt else kf
  | .ge => if x < y then kf else kt
  | .gt => if y < x then kt else kf
  | .le => if y < x then kf else kt
def rx_ifJ {α : Type} (cd : ClassFile.Cond) (x y : Int64) (kt kf : Option α) : Option α := match cd with
  | .eq => if x = y then kt else kf
  | .ne => if x = y then kf else kt
  | .lt => if x < y then kt else kf
  | .ge => if x < y then kf else kt
  | .gt => if y < x then kt else kf
  | .le => if y < x then kf else kt
abbrev rx_Go (α : Type) : Type := List rx_E → rx_L → List Value → Option rx_H → Option α
/-- one instruction -/
noncomputable def rx_act {α : Type} (C : rx_Cl α) (ret : rx_K α) (all : List rx_E) (k : rx_Go α) (e : rx_E) (es : List rx_E) (ls : rx_L) (st : List Value) (u : Option rx_H) : Option α := match e with
  | (_, ins, _, a, b, _, vi, vl, sw) => match ins with
    | .iconst _ => k es ls (.int vi :: st) u
    | .bipush _ => k es ls (.int vi :: st) u
    | .sipush _ => k es ls (.int vi :: st) u
    | .ldc _ => k es ls (.int vi :: st) u
    | .ldc_w _ => k es ls (.int vi :: st) u
    | .lconst _ => k es ls (.long vl :: st) u
    | .ldc2_w _ => k es ls (.long vl :: st) u
    | .iload i => match rx_lg ls i with
      | some (.int x) => k es ls (.int x :: st) u
      | _ => none
    | .iload_n i => match rx_lg ls i.val with
      | some (.int x) => k es ls (.int x :: st) u
      | _ => none
    | .lload i => match rx_lg ls i with
      | some (.long x) => k es ls (.long x :: st) u
      | _ => none
    | .lload_n i => match rx_lg ls i.val with
      | some (.long x) => k es ls (.long x :: st) u
      | _ => none
    | .aload i => match rx_lg ls i with
      | some (.ref x) => k es ls (.ref x :: st) u
      | _ => none
    | .aload_n i => match rx_lg ls i.val with
      | some (.ref x) => k es ls (.ref x :: st) u
      | _ => none
    | .istore i => match st with
      | .int x :: st => k es (rx_s1 ls i (.int x)) st u
      | _ => none
    | .istore_n i => match st with
      | .int x :: st => k es (rx_s1 ls i.val (.int x)) st u
      | _ => none
    | .lstore i => match st with
      | .long x :: st => k es (rx_s2 ls i (.long x)) st u
      | _ => none
    | .lstore_n i => match st with
      | .long x :: st => k es (rx_s2 ls i.val (.long x)) st u
      | _ => none
    | .astore i => match st with
      | .ref x :: st => k es (rx_s1 ls i (.ref x)) st u
      | _ => none
    | .astore_n i => match st with
      | .ref x :: st => k es (rx_s1 ls i.val (.ref x)) st u
      | _ => none
    | .iinc i _ => match rx_lg ls i with
      | some (.int x) => k es (rx_s1 ls i (.int (x + vi))) st u
      | _ => none
    | .iadd => match st with
      | .int y :: .int x :: st => k es ls (.int (x + y) :: st) u
      | _ => none
    | .isub => match st with
      | .int y :: .int x :: st => k es ls (.int (x - y) :: st) u
      | _ => none
    | .imul => match st with
      | .int y :: .int x :: st => k es ls (.int (x * y) :: st) u
      | _ => none
    | .iand => match st with
      | .int y :: .int x :: st => k es ls (.int (x &&& y) :: st) u
      | _ => none
    | .ior => match st with
      | .int y :: .int x :: st => k es ls (.int (x ||| y) :: st) u
      | _ => none
    | .ixor => match st with
      | .int y :: .int x :: st => k es ls (.int (x ^^^ y) :: st) u
      | _ => none
    | .ishl => match st with
      | .int y :: .int x :: st => k es ls (.int (x <<< (y &&& 31)) :: st) u
      | _ => none
    | .ishr => match st with
      | .int y :: .int x :: st => k es ls (.int (x >>> (y &&& 31)) :: st) u
      | _ => none
    | .iushr => match st with
      | .int y :: .int x :: st => k es ls (.int ((x.toUInt32 >>> (y.toUInt32 &&& Int32.toUInt32 31)).toInt32) :: st) u
      | _ => none
    | .ineg => match st with
      | .int x :: st => k es ls (.int (-x) :: st) u
      | _ => none
    | .idiv => match st with
      | .int y :: .int x :: st => (match b with
        | 1 => Bool.rec (motive := fun _ => Option α) (k es ls (.int (x / y) :: st) u) none (decide (y = 0))
        | _ => if y = 0 then none else k es ls (.int (x / y) :: st) u)
      | _ => none
    | .irem => match st with
      | .int y :: .int x :: st => (match b with
        | 1 => Bool.rec (motive := fun _ => Option α) (k es ls (.int (x - x / y * y) :: st) u) none (decide (y = 0))
        | _ => if y = 0 then none else k es ls (.int (x - x / y * y) :: st) u)
      | _ => none
    | .ladd => match st with
      | .long y :: .long x :: st => k es ls (.long (x + y) :: st) u
      | _ => none
    | .lsub => match st with
      | .long y :: .long x :: st => k es ls (.long (x - y) :: st) u
      | _ => none
    | .lmul => match st with
      | .long y :: .long x :: st => k es ls (.long (x * y) :: st) u
      | _ => none
    | .land => match st with
      | .long y :: .long x :: st => k es ls (.long (x &&& y) :: st) u
      | _ => none
    | .lor => match st with
      | .long y :: .long x :: st => k es ls (.long (x ||| y) :: st) u
      | _ => none
    | .lxor => match st with
      | .long y :: .long x :: st => k es ls (.long (x ^^^ y) :: st) u
      | _ => none
    | .ldiv => match st with
      | .long y :: .long x :: st => if y = 0 then none else k es ls (.long (x / y) :: st) u
      | _ => none
    | .lneg => match st with
      | .long x :: st => k es ls (.long (-x) :: st) u
      | _ => none
    | .lshl => match st with
      | .int y :: .long x :: st => k es ls (.long (x <<< (y.toInt64 &&& 63)) :: st) u
      | _ => none
    | .lushr => match st with
      | .int y :: .long x :: st => k es ls (.long ((x.toUInt64 >>> (y.toInt64.toUInt64 &&& Int64.toUInt64 63)).toInt64) :: st) u
      | _ => none
    | .i2l => match st with
      | .int x :: st => k es ls (.long x.toInt64 :: st) u
      | _ => none
    | .l2i => match st with
      | .long x :: st => k es ls (.int x.toInt32 :: st) u
      | _ => none
    | .i2b => match st with
      | .int x :: st => k es ls (.int x.toInt8.toInt32 :: st) u
      | _ => none
    | .dup => match st with
      | .int x :: st => k es ls (.int x :: .int x :: st) u
      | .ref x :: st => k es ls (.ref x :: .ref x :: st) u
      | _ => none
    | .dup2 => match st with
      | .int x :: .ref y :: st => k es ls (.int x :: .ref y :: .int x :: .ref y :: st) u
      | .int x :: .int y :: st => k es ls (.int x :: .int y :: .int x :: .int y :: st) u
      | _ => none
    | .pop => match st with
      | .int _ :: st => k es ls st u
      | .ref _ :: st => k es ls st u
      | _ => none
    | .goto _ => k (rx_suf a all) ls st u
    | .ifCond cd _ => match st with
      | .int x :: st => rx_if cd x 0 (k (rx_suf a all) ls st u) (k es ls st u)
      | _ => none
    | .if_icmp cd _ => match st with
      | .int y :: .int x :: st => rx_if cd x y (k (rx_suf a all) ls st u) (k es ls st u)
      | _ => none
    | .lcmp => match st, es with
      | .long y :: .long x :: st, (_, .ifCond cd _, _, a2, _, _, _, _, _) :: es2 => rx_ifJ cd x y (k (rx_suf a2 all) ls st u) (k es2 ls st u)
      | _, _ => none
    | .tableswitch _ _ _ _ => match st with
      | .int x :: st => rx_sw (fun t => k (rx_suf t all) ls st u) x a sw
      | _ => none
    | .getfield _ => match st with
      | .ref r :: st => (match b % 4 with
        | 0 => (rx_gI u r a (b / 4)).bind fun x => k es ls (.int x :: st) u
        | 1 => (rx_gJ u r a (b / 4)).bind fun x => k es ls (.long x :: st) u
        | 2 => (rx_gR u r a (b / 4)).bind fun x => k es ls (.ref x :: st) u
        | _ => none)
      | _ => none
    | .putfield _ => match st with
      | .int x :: .ref r :: st => Bool.rec (motive := fun _ => Option α) none ((rx_p u r a (b / 4) (.int x)).bind fun u => k es ls st u) (Nat.beq (b % 4) 0)
      | .long x :: .ref r :: st => Bool.rec (motive := fun _ => Option α) none ((rx_p u r a (b / 4) (.long x)).bind fun u => k es ls st u) (Nat.beq (b % 4) 1)
      | .ref x :: .ref r :: st => Bool.rec (motive := fun _ => Option α) none ((rx_p u r a (b / 4) (.ref x)).bind fun u => k es ls st u) (Nat.beq (b % 4) 2)
      | _ => none
    | .getstatic _ => k es ls (.ref a :: st) u
    | .iaload => match st with
      | .int i :: .ref r :: st => (rx_aI u r i).bind fun x => k es ls (.int x :: st) u
      | _ => none
    | .laload => match st with
      | .int i :: .ref r :: st => (rx_aJ u r i).bind fun x => k es ls (.long x :: st) u
      | _ => none
    | .aaload => match st with
      | .int i :: .ref r :: st => (rx_aR u r i).bind fun x => k es ls (.ref x :: st) u
      | _ => none
    | .iastore => match st with
      | .int x :: .int i :: .ref r :: st => (rx_sI u r i x).bind fun u => k es ls st u
      | _ => none
    | .lastore => match st with
      | .long x :: .int i :: .ref r :: st => (rx_sJ u r i x).bind fun u => k es ls st u
      | _ => none
    | .aastore => match st with
      | .ref x :: .int i :: .ref r :: st => (rx_sR u r i x).bind fun u => k es ls st u
      | _ => none
    | .arraylength => match st with
      | .ref r :: st => (rx_len u r).bind fun x => k es ls (.int x :: st) u
      | _ => none
    | .newarray t => match st with
      | .int n :: st => (match t with
        | .int => (rx_nI u n).bind fun q => k es ls (.ref q.1 :: st) q.2
        | .long => (rx_nJ u n).bind fun q => k es ls (.ref q.1 :: st) q.2
        | _ => none)
      | _ => none
    | .anewarray _ => match st with
      | .int n :: st => (rx_nR u n).bind fun q => k es ls (.ref q.1 :: st) q.2
      | _ => none
    | .new _ => (rx_nO u a).bind fun q => k es ls (.ref q.1 :: st) q.2
    | .invokestatic _ => match b with
      | 1000 => (match st with
        | .int n :: .int dp :: .ref r1 :: .int sp :: .ref r0 :: st => Bool.rec (motive := fun _ => Option α) none ((rx_cp u r0 sp r1 dp n).bind fun u => k es ls st u) (Nat.ble (rx_cat st) 8)
        | _ => none)
      | _ => rx_call C (fun st u => k es ls st u) a b st u
    | .invokevirtual _ => match rx_take (b % 100) st [] with
      | some (.ref r :: as, rest) => Bool.rec (motive := fun _ => Option α) none ((rx_ck u r (b / 100)).bind fun _ => C a (.ref r :: as) u (fun v u' => k es ls (v.toList ++ rest) u')) (Nat.ble (rx_cat rest) 8)
      | _ => none
    | .invokespecial _ => match b with
      | 1000 => (match st with
        | .ref _ :: st => Bool.rec (motive := fun _ => Option α) none (k es ls st u) (Nat.ble (rx_cat st) 8)
        | _ => none)
      | _ => rx_call C (fun st u => k es ls st u) a b st u
    | .ireturn => match st with
      | [.int x] => (match b with
        | 1 => if x = 0 then ret (some (.int 0)) u else if x = 1 then ret (some (.int 1)) u else none
        | 2 => Bool.rec (motive := fun _ => Option α) (Bool.rec (motive := fun _ => Option α) none (ret (some (.int 1)) u) (decide (x = 1))) (ret (some (.int 0)) u) (decide (x = 0))
        | _ => ret (some (.int x)) u)
      | _ => none
    | .lreturn => match st with
      | [.long x] => ret (some (.long x)) u
      | _ => none
    | .return_ => match st with
      | [] => ret none u
      | _ => none
    | _ => none
/-- on to a place where it stops -/
noncomputable def rx_run {α : Type} (C : rx_Cl α) (ret : rx_K α) (all : List rx_E) (stop : List Nat) (kk : Nat → rx_L → List Value → Option rx_H → Option α) : Nat → rx_Go α
  | 0, _, _, _, _ => none
  | _ + 1, [], _, _, _ => none
  | n + 1, e :: es, ls, st, u => Bool.rec (motive := fun _ => Option α) (rx_act C ret all (rx_run C ret all stop kk n) e es ls st u) (kk e.1 ls st u) (stop.any (Nat.beq e.1))
/-- from a place, a step at least -/
noncomputable def rx_node {α : Type} (C : rx_Cl α) (ret : rx_K α) (all : List rx_E) (stop : List Nat) (kk : Nat → rx_L → List Value → Option rx_H → Option α) (n t : Nat) (ls : rx_L) (st : List Value) (u : Option rx_H) : Option α := match rx_suf t all with
  | [] => none
  | e :: es => rx_act C ret all (rx_run C ret all stop kk n) e es ls st u
/-- how a method answers: without the heap where it never looks at it -/
def rx_rI : rx_K Int32
  | some (.int x), none => some x
  | _, _ => none
def rx_rJ : rx_K Int64
  | some (.long x), none => some x
  | _, _ => none
def rx_hI : rx_K (Int32 × Option rx_H)
  | some (.int x), u => some (x, u)
  | _, _ => none
def rx_hJ : rx_K (Int64 × Option rx_H)
  | some (.long x), u => some (x, u)
  | _, _ => none
def rx_hV : rx_K (Option rx_H)
  | none, u => some u
  | _, _ => none
def rx_FU : Nat := 1000000
def rx_FD : Nat := 200
end
section
/-! The classes, their fields, the words that every method is given; the methods' names by number. -/
def rx_T0 : u_T := fun k => match k with
  | 0 => ("SetHouse$Place", "holds", "I", false)
  | 1 => ("SetHouse$Place", "least", "I", false)
  | 2 => ("SetHouse$Place", "sets", "J", false)
  | 3 => ("SetHouse$Place", "partner", "J", false)
  | 4 => ("SetHouse$Place", "length", "I", false)
  | _ => ("SetHouse$Place", "numbers", "[J", true)
def rx_y0 : Nat → FieldType := fun k => match k with
  | 0 => .int
  | 1 => .int
  | 2 => .long
  | 3 => .long
  | 4 => .int
  | _ => .array .long
def rx_T1 : u_T := fun k => match k with
  | 0 => ("SetHouse$Seeker", "petals", "[I", true)
  | 1 => ("SetHouse$Seeker", "tried", "[I", true)
  | 2 => ("SetHouse$Seeker", "petalCount", "I", false)
  | 3 => ("SetHouse$Seeker", "disjoint", "[I", true)
  | _ => ("SetHouse$Seeker", "meeting", "[J", true)
def rx_y1 : Nat → FieldType := fun k => match k with
  | 0 => .array .int
  | 1 => .array .int
  | 2 => .int
  | 3 => .array .int
  | _ => .array .long
def rx_T2 : u_T := fun k => match k with
  | 0 => ("SetHouse", "n", "I", true)
  | 1 => ("SetHouse", "all", "I", true)
  | 2 => ("SetHouse", "shelf", "[LSetHouse$Place;", true)
  | 3 => ("SetHouse", "layers", "[J", true)
  | 4 => ("SetHouse", "seeker", "LSetHouse$Seeker;", true)
  | _ => ("SetHouse", "latestClash", "I", false)
def rx_y2 : Nat → FieldType := fun k => match k with
  | 0 => .int
  | 1 => .int
  | 2 => .array (.object "SetHouse$Place")
  | 3 => .array .long
  | 4 => .object "SetHouse$Seeker"
  | _ => .int
def rx_T3 : u_T := fun k => match k with
  | 0 => ("SetHouseModel", "thrown", "I", false)
  | 1 => ("SetHouseModel", "n", "I", true)
  | 2 => ("SetHouseModel", "all", "I", true)
  | 3 => ("SetHouseModel", "kind", "[I", true)
  | 4 => ("SetHouseModel", "told", "[I", true)
  | 5 => ("SetHouseModel", "family", "[J", true)
  | 6 => ("SetHouseModel", "partner", "[J", true)
  | 7 => ("SetHouseModel", "size", "[I", true)
  | 8 => ("SetHouseModel", "rows", "[J", true)
  | 9 => ("SetHouseModel", "clash", "I", false)
  | 10 => ("SetHouseModel", "turn", "[I", true)
  | 11 => ("SetHouseModel", "petals", "[I", true)
  | 12 => ("SetHouseModel", "trial", "[I", true)
  | 13 => ("SetHouseModel", "petalCount", "I", false)
  | _ => ("SetHouseModel", "aside", "[J", true)
def rx_y3 : Nat → FieldType := fun k => match k with
  | 0 => .int
  | 1 => .int
  | 2 => .int
  | 3 => .array .int
  | 4 => .array .int
  | 5 => .array .long
  | 6 => .array .long
  | 7 => .array .int
  | 8 => .array .long
  | 9 => .int
  | 10 => .array .int
  | 11 => .array .int
  | 12 => .array .int
  | 13 => .int
  | _ => .array .long
def rx_cl : List vw_C := [("SetHouse$Place", rx_T0, 6), ("SetHouse$Seeker", rx_T1, 5), ("SetHouse", rx_T2, 6), ("SetHouseModel", rx_T3, 15)]
def rx_ty : Nat → Nat → FieldType := fun c => match c with
  | 0 => rx_y0
  | 1 => rx_y1
  | 2 => rx_y2
  | _ => rx_y3
/-- the words that hold on -/
def rx_TB : List Cond := lw_tbl.filter goodWord
theorem rx_in {w : Cond} {i : Nat} (h : lw_tbl[i]? = some w) (hg : goodWord w = true) : w ∈ rx_TB := List.mem_filter.mpr ⟨List.mem_of_getElem? h, hg⟩
theorem rx_good : ∀ w ∈ rx_TB, (w.onTables && w.keeps) = true ∨ ∃ ty, w = .arrayClass ty := fun _ h => good_of_word (List.mem_filter.mp h).2
theorem rx_ins {ws : List Cond} (ps : List Nat) (hp : ws = ps.filterMap (fun i => lw_tbl[i]?)) (h : ws.all goodWord = true) : ∀ w ∈ ws, w ∈ rx_TB := by
  intro w hw
  have h1 := List.all_eq_true.mp h w hw
  rw [hp] at hw
  obtain ⟨i, -, hi⟩ := List.mem_filterMap.mp hw
  exact rx_in hi h1
theorem rx_l0 : ∀ w ∈ u_ws "SetHouse$Place" rx_T0 6, w ∈ rx_TB := rx_ins [92, 94, 96, 98, 100, 102] (by decide +kernel) (by decide +kernel)
theorem rx_n0 : ∀ a, a < 6 → ∀ b, b < 6 → a ≠ b → (rx_T0 a).2.1 ≠ (rx_T0 b).2.1 := by decide +kernel
theorem rx_yo0 : ∀ k, k < 6 → parseFieldDescriptor (rx_T0 k).2.2.1 = some (rx_y0 k) := by decide +kernel
theorem rx_l1 : ∀ w ∈ u_ws "SetHouse$Seeker" rx_T1 5, w ∈ rx_TB := rx_ins [123, 125, 127, 129, 131] (by decide +kernel) (by decide +kernel)
theorem rx_n1 : ∀ a, a < 5 → ∀ b, b < 5 → a ≠ b → (rx_T1 a).2.1 ≠ (rx_T1 b).2.1 := by decide +kernel
theorem rx_yo1 : ∀ k, k < 5 → parseFieldDescriptor (rx_T1 k).2.2.1 = some (rx_y1 k) := by decide +kernel
theorem rx_l2 : ∀ w ∈ u_ws "SetHouse" rx_T2 6, w ∈ rx_TB := rx_ins [141, 143, 145, 147, 149, 151] (by decide +kernel) (by decide +kernel)
theorem rx_n2 : ∀ a, a < 6 → ∀ b, b < 6 → a ≠ b → (rx_T2 a).2.1 ≠ (rx_T2 b).2.1 := by decide +kernel
theorem rx_yo2 : ∀ k, k < 6 → parseFieldDescriptor (rx_T2 k).2.2.1 = some (rx_y2 k) := by decide +kernel
theorem rx_l3 : ∀ w ∈ u_ws "SetHouseModel" rx_T3 15, w ∈ rx_TB := rx_ins [764, 766, 768, 770, 772, 774, 776, 778, 780, 782, 784, 786, 788, 790, 792] (by decide +kernel) (by decide +kernel)
theorem rx_n3 : ∀ a, a < 15 → ∀ b, b < 15 → a ≠ b → (rx_T3 a).2.1 ≠ (rx_T3 b).2.1 := by decide +kernel
theorem rx_yo3 : ∀ k, k < 15 → parseFieldDescriptor (rx_T3 k).2.2.1 = some (rx_y3 k) := by decide +kernel
/-- the methods: name, and kind (static, of an object, a constructor) -/
def rx_ms : List (MethodName × Nat) := [
  (⟨"java/lang/Long", "bitCount", "(J)I"⟩, 0),
  (⟨"java/lang/Integer", "bitCount", "(I)I"⟩, 0),
  (⟨"java/lang/Math", "floorMod", "(II)I"⟩, 0),
  (⟨"java/lang/Math", "max", "(II)I"⟩, 0),
  (⟨"java/lang/Math", "min", "(II)I"⟩, 0),
  (⟨"SetHouseLaw", "cell", "([II)I"⟩, 0),
  (⟨"SetHouseLaw", "element", "(LSetHouse;II[J)I"⟩, 0),
  (⟨"SetHouseLaw", "law", "([I)Z"⟩, 0),
  (⟨"SetHouse$Heap", "allAbove", "(JI)J"⟩, 0),
  (⟨"SetHouse$Heap", "allBelow", "(J)J"⟩, 0),
  (⟨"SetHouse$Heap", "around", "(I)J"⟩, 0),
  (⟨"SetHouse$Heap", "below", "(I)J"⟩, 0),
  (⟨"SetHouse$Heap", "cutTo", "(JI)J"⟩, 0),
  (⟨"SetHouse$Heap", "holdsSet", "(JI)Z"⟩, 0),
  (⟨"SetHouse$Heap", "joinedTo", "(JI)J"⟩, 0),
  (⟨"SetHouse$Heap", "lacking", "(JI)J"⟩, 0),
  (⟨"SetHouse$Heap", "lackingThing", "(JI)J"⟩, 0),
  (⟨"SetHouse$Heap", "leastOf", "(J)I"⟩, 0),
  (⟨"SetHouse$Heap", "lessThing", "(JI)J"⟩, 0),
  (⟨"SetHouse$Heap", "mixed", "(JJI)J"⟩, 0),
  (⟨"SetHouse$Heap", "mixedInPairs", "(JJZ)J"⟩, 0),
  (⟨"SetHouse$Heap", "moreThing", "(JI)J"⟩, 0),
  (⟨"SetHouse$Heap", "moved", "(JII)J"⟩, 0),
  (⟨"SetHouse$Heap", "next", "(JI)I"⟩, 0),
  (⟨"SetHouse$Heap", "oneLess", "(J)J"⟩, 0),
  (⟨"SetHouse$Heap", "oneMore", "(JI)J"⟩, 0),
  (⟨"SetHouse$Heap", "setAt", "(JI)I"⟩, 0),
  (⟨"SetHouse$Heap", "shatters", "(JI)Z"⟩, 0),
  (⟨"SetHouse$Heap", "size", "(J)I"⟩, 0),
  (⟨"SetHouse$Heap", "swapped", "(JII)J"⟩, 0),
  (⟨"SetHouse$Heap", "within", "(I)J"⟩, 0),
  (⟨"SetHouse$Kinds", "apartClash", "(J)I"⟩, 0),
  (⟨"SetHouse$Kinds", "comingClash", "(LSetHouse$Place;I)I"⟩, 0),
  (⟨"SetHouse$Kinds", "downClash", "(J)I"⟩, 0),
  (⟨"SetHouse$Kinds", "fail", "(LSetHouse$Place;)V"⟩, 0),
  (⟨"SetHouse$Kinds", "familyClash", "(JII)I"⟩, 0),
  (⟨"SetHouse$Kinds", "firstFarFrom", "(JII)I"⟩, 0),
  (⟨"SetHouse$Kinds", "goingClash", "(LSetHouse$Place;I)I"⟩, 0),
  (⟨"SetHouse$Kinds", "hasNumber", "(I)Z"⟩, 0),
  (⟨"SetHouse$Kinds", "heftOf", "(LSetHouse$Place;)I"⟩, 0),
  (⟨"SetHouse$Kinds", "layerClash", "(JI)I"⟩, 0),
  (⟨"SetHouse$Kinds", "meetClash", "(JII)I"⟩, 0),
  (⟨"SetHouse$Kinds", "meetingClash", "(JI)I"⟩, 0),
  (⟨"SetHouse$Kinds", "pair", "(II)I"⟩, 0),
  (⟨"SetHouse$Numbers", "cascadeNumber", "(III)I"⟩, 0),
  (⟨"SetHouse$Numbers", "cascadeTop", "(II)I"⟩, 0),
  (⟨"SetHouse$Numbers", "cascades", "(II)Z"⟩, 0),
  (⟨"SetHouse$Numbers", "choose", "(II)I"⟩, 0),
  (⟨"SetHouse$Numbers", "factorial", "(I)I"⟩, 0),
  (⟨"SetHouse$Numbers", "leastShadow", "(II)I"⟩, 0),
  (⟨"SetHouse$Numbers", "matchedOnes", "(II)I"⟩, 0),
  (⟨"SetHouse$Numbers", "power", "(II)J"⟩, 0),
  (⟨"SetHouse$Orders", "agree", "(JJI)Z"⟩, 0),
  (⟨"SetHouse$Orders", "countTurns", "(JJII)I"⟩, 0),
  (⟨"SetHouse$Orders", "digit", "(II)I"⟩, 0),
  (⟨"SetHouse$Orders", "isOrder", "(II)Z"⟩, 0),
  (⟨"SetHouse$Orders", "leastTurn", "(JJIII)I"⟩, 0),
  (⟨"SetHouse$Orders", "stretch", "(IIII)I"⟩, 0),
  (⟨"SetHouse$Orders", "swapDigits", "(III)I"⟩, 0),
  (⟨"SetHouse$Orders", "turnedBy", "(JII)J"⟩, 0),
  (⟨"SetHouse$Orders", "unturned", "(I)I"⟩, 0),
  (⟨"SetHouse$Place", "becomeFamily", "(IIJJ)V"⟩, 1),
  (⟨"SetHouse$Place", "becomeNothing", "()V"⟩, 1),
  (⟨"SetHouse$Place", "becomeRow", "(II)V"⟩, 1),
  (⟨"SetHouse$Place", "hasStretch", "(II)Z"⟩, 1),
  (⟨"SetHouse$Place", "<init>", "()V"⟩, 2),
  (⟨"SetHouse$Place", "isRow", "()Z"⟩, 1),
  (⟨"SetHouse$Seeker", "findFlower", "(JI)I"⟩, 1),
  (⟨"SetHouse$Seeker", "fitting", "(JIII)J"⟩, 0),
  (⟨"SetHouse$Seeker", "greatestMeeting", "(JII)J"⟩, 1),
  (⟨"SetHouse$Seeker", "<init>", "()V"⟩, 2),
  (⟨"SetHouse$Seeker", "keepPetals", "(I)V"⟩, 1),
  (⟨"SetHouse$Seeker", "largest", "(JJJII)J"⟩, 0),
  (⟨"SetHouse$Seeker", "mostDisjoint", "(JI)I"⟩, 1),
  (⟨"SetHouse$Seeker", "near", "(JII)J"⟩, 0),
  (⟨"SetHouse$Seeker", "opens", "(JIIIII)Z"⟩, 1),
  (⟨"SetHouse$Seeker", "petalAt", "(I)I"⟩, 1),
  (⟨"SetHouse", "add", "(II)I"⟩, 1),
  (⟨"SetHouse", "cascade", "(III)I"⟩, 1),
  (⟨"SetHouse", "chain", "(II)I"⟩, 1),
  (⟨"SetHouse", "clash", "()I"⟩, 1),
  (⟨"SetHouse", "closed", "(IZI)I"⟩, 1),
  (⟨"SetHouse", "comes", "(LSetHouse$Place;I)Z"⟩, 1),
  (⟨"SetHouse", "copy", "(IIIII)I"⟩, 1),
  (⟨"SetHouse", "count", "(II)I"⟩, 1),
  (⟨"SetHouse", "cover", "(I)I"⟩, 1),
  (⟨"SetHouse", "cross", "(III)I"⟩, 1),
  (⟨"SetHouse", "drop", "(II)I"⟩, 1),
  (⟨"SetHouse", "element", "(II)J"⟩, 1),
  (⟨"SetHouse", "empty", "(I)I"⟩, 1),
  (⟨"SetHouse", "ends", "(IZI)I"⟩, 1),
  (⟨"SetHouse", "familiesRefusal", "(IIZ)I"⟩, 1),
  (⟨"SetHouse", "familyRefusal", "(IZ)I"⟩, 1),
  (⟨"SetHouse", "first", "(III)I"⟩, 1),
  (⟨"SetHouse", "flower", "(II)I"⟩, 1),
  (⟨"SetHouse", "greatest", "(III)I"⟩, 1),
  (⟨"SetHouse", "has", "(II)I"⟩, 1),
  (⟨"SetHouse", "heft", "(I)I"⟩, 1),
  (⟨"SetHouse", "holds", "(I)I"⟩, 1),
  (⟨"SetHouse", "<init>", "(I)V"⟩, 2),
  (⟨"SetHouse", "is", "(III)I"⟩, 1),
  (⟨"SetHouse", "isKind", "(II)Z"⟩, 1),
  (⟨"SetHouse", "isPlace", "(I)Z"⟩, 1),
  (⟨"SetHouse", "isSet", "(I)Z"⟩, 1),
  (⟨"SetHouse", "isSize", "(I)Z"⟩, 1),
  (⟨"SetHouse", "isThing", "(I)Z"⟩, 1),
  (⟨"SetHouse", "keep", "(IIIJ)I"⟩, 1),
  (⟨"SetHouse", "keepBeside", "(IIJI)I"⟩, 1),
  (⟨"SetHouse", "least", "(II)I"⟩, 1),
  (⟨"SetHouse", "loose", "(I)I"⟩, 1),
  (⟨"SetHouse", "make", "(III)I"⟩, 1),
  (⟨"SetHouse", "matters", "(II)I"⟩, 1),
  (⟨"SetHouse", "mix", "(IIII)I"⟩, 1),
  (⟨"SetHouse", "petal", "(I)I"⟩, 1),
  (⟨"SetHouse", "product", "(II)I"⟩, 1),
  (⟨"SetHouse", "push", "(III)I"⟩, 1),
  (⟨"SetHouse", "pushed", "(I)I"⟩, 1),
  (⟨"SetHouse", "put", "(IIJ)I"⟩, 1),
  (⟨"SetHouse", "rank", "(I)I"⟩, 1),
  (⟨"SetHouse", "ranked", "(II)I"⟩, 1),
  (⟨"SetHouse", "rest", "(IZI)I"⟩, 1),
  (⟨"SetHouse", "ring", "(III)I"⟩, 1),
  (⟨"SetHouse", "row", "(III)I"⟩, 1),
  (⟨"SetHouse", "rowRefusal", "(I)I"⟩, 1),
  (⟨"SetHouse", "same", "(II)I"⟩, 1),
  (⟨"SetHouse", "set", "(II)I"⟩, 1),
  (⟨"SetHouse", "shadow", "(II)I"⟩, 1),
  (⟨"SetHouse", "shattered", "(II)I"⟩, 1),
  (⟨"SetHouse", "sum", "(I)I"⟩, 1),
  (⟨"SetHouse", "take", "(II)I"⟩, 1),
  (⟨"SetHouse", "toss", "(I)I"⟩, 1),
  (⟨"SetHouse", "trace", "(III)I"⟩, 1),
  (⟨"SetHouse", "turned", "(III)I"⟩, 1),
  (⟨"SetHouse", "turns", "(I)I"⟩, 1),
  (⟨"SetHouse", "up", "(II)I"⟩, 1),
  (⟨"SetHouse", "weight", "(III)J"⟩, 1),
  (⟨"SetHouseModel", "add", "(II)I"⟩, 1),
  (⟨"SetHouseModel", "adds", "(II)I"⟩, 1),
  (⟨"SetHouseModel", "apartFrom", "(JII)I"⟩, 0),
  (⟨"SetHouseModel", "blooms", "(JIII)Z"⟩, 1),
  (⟨"SetHouseModel", "cascade", "(III)I"⟩, 1),
  (⟨"SetHouseModel", "chain", "(II)I"⟩, 1),
  (⟨"SetHouseModel", "chainFirst", "(I)I"⟩, 1),
  (⟨"SetHouseModel", "choose", "(II)I"⟩, 0),
  (⟨"SetHouseModel", "chooseAll", "(II)I"⟩, 0),
  (⟨"SetHouseModel", "clash", "()I"⟩, 1),
  (⟨"SetHouseModel", "closed", "(IZI)I"⟩, 1),
  (⟨"SetHouseModel", "copy", "(IIIII)I"⟩, 1),
  (⟨"SetHouseModel", "count", "(II)I"⟩, 1),
  (⟨"SetHouseModel", "cover", "(I)I"⟩, 1),
  (⟨"SetHouseModel", "cross", "(III)I"⟩, 1),
  (⟨"SetHouseModel", "drop", "(II)I"⟩, 1),
  (⟨"SetHouseModel", "each", "(JJZ)J"⟩, 1),
  (⟨"SetHouseModel", "element", "(II)J"⟩, 1),
  (⟨"SetHouseModel", "empty", "(I)I"⟩, 1),
  (⟨"SetHouseModel", "ends", "(IZI)I"⟩, 1),
  (⟨"SetHouseModel", "factorial", "(I)I"⟩, 0),
  (⟨"SetHouseModel", "first", "(III)I"⟩, 1),
  (⟨"SetHouseModel", "firstTurn", "()V"⟩, 1),
  (⟨"SetHouseModel", "flower", "(II)I"⟩, 1),
  (⟨"SetHouseModel", "goes", "(JIIII)Z"⟩, 1),
  (⟨"SetHouseModel", "greatest", "(III)I"⟩, 1),
  (⟨"SetHouseModel", "greatestBelow", "(II)I"⟩, 0),
  (⟨"SetHouseModel", "has", "(JI)Z"⟩, 0),
  (⟨"SetHouseModel", "has", "(II)I"⟩, 1),
  (⟨"SetHouseModel", "heft", "(I)I"⟩, 1),
  (⟨"SetHouseModel", "hinders", "(II)I"⟩, 1),
  (⟨"SetHouseModel", "holds", "(I)I"⟩, 1),
  (⟨"SetHouseModel", "holdsNow", "(IIIJ)I"⟩, 1),
  (⟨"SetHouseModel", "<init>", "(I)V"⟩, 2),
  (⟨"SetHouseModel", "is", "(III)I"⟩, 1),
  (⟨"SetHouseModel", "isIn", "(III)Z"⟩, 0),
  (⟨"SetHouseModel", "isKind", "(II)Z"⟩, 1),
  (⟨"SetHouseModel", "isPlace", "(I)Z"⟩, 0),
  (⟨"SetHouseModel", "isSet", "(I)Z"⟩, 1),
  (⟨"SetHouseModel", "isShattered", "(JI)Z"⟩, 1),
  (⟨"SetHouseModel", "isTurn", "(I)Z"⟩, 1),
  (⟨"SetHouseModel", "isWithin", "(II)Z"⟩, 0),
  (⟨"SetHouseModel", "lacking", "(II)I"⟩, 0),
  (⟨"SetHouseModel", "lacks", "(I)I"⟩, 1),
  (⟨"SetHouseModel", "least", "(II)I"⟩, 1),
  (⟨"SetHouseModel", "loose", "(I)I"⟩, 1),
  (⟨"SetHouseModel", "looseFrom", "(JII)I"⟩, 1),
  (⟨"SetHouseModel", "make", "(III)I"⟩, 1),
  (⟨"SetHouseModel", "many", "(J)I"⟩, 0),
  (⟨"SetHouseModel", "matters", "(II)I"⟩, 1),
  (⟨"SetHouseModel", "mix", "(IIII)I"⟩, 1),
  (⟨"SetHouseModel", "mostOf", "(JII)I"⟩, 1),
  (⟨"SetHouseModel", "nextTurn", "()Z"⟩, 1),
  (⟨"SetHouseModel", "number", "()I"⟩, 1),
  (⟨"SetHouseModel", "ones", "(I)I"⟩, 0),
  (⟨"SetHouseModel", "petal", "(I)I"⟩, 1),
  (⟨"SetHouseModel", "power", "(II)J"⟩, 0),
  (⟨"SetHouseModel", "product", "(II)I"⟩, 1),
  (⟨"SetHouseModel", "push", "(III)I"⟩, 1),
  (⟨"SetHouseModel", "pushed", "(I)I"⟩, 1),
  (⟨"SetHouseModel", "pushes", "(III)I"⟩, 1),
  (⟨"SetHouseModel", "put", "(IIJ)I"⟩, 1),
  (⟨"SetHouseModel", "rank", "(I)I"⟩, 1),
  (⟨"SetHouseModel", "ranked", "(II)I"⟩, 1),
  (⟨"SetHouseModel", "rest", "(IZI)I"⟩, 1),
  (⟨"SetHouseModel", "ring", "(III)I"⟩, 1),
  (⟨"SetHouseModel", "row", "(III)I"⟩, 1),
  (⟨"SetHouseModel", "same", "(II)I"⟩, 1),
  (⟨"SetHouseModel", "set", "(II)I"⟩, 1),
  (⟨"SetHouseModel", "shadow", "(II)I"⟩, 1),
  (⟨"SetHouseModel", "shadowOf", "(JZ)J"⟩, 1),
  (⟨"SetHouseModel", "shadows", "(IIZ)I"⟩, 1),
  (⟨"SetHouseModel", "shattered", "(II)I"⟩, 1),
  (⟨"SetHouseModel", "sized", "(JI)I"⟩, 1),
  (⟨"SetHouseModel", "staysLayer", "(I)V"⟩, 1),
  (⟨"SetHouseModel", "sum", "(I)I"⟩, 1),
  (⟨"SetHouseModel", "swap", "(II)V"⟩, 1),
  (⟨"SetHouseModel", "take", "(II)I"⟩, 1),
  (⟨"SetHouseModel", "thrown", "()I"⟩, 1),
  (⟨"SetHouseModel", "toss", "(I)I"⟩, 1),
  (⟨"SetHouseModel", "trace", "(III)I"⟩, 1),
  (⟨"SetHouseModel", "traceOf", "(JI)J"⟩, 1),
  (⟨"SetHouseModel", "turned", "(III)I"⟩, 1),
  (⟨"SetHouseModel", "turnedAll", "(J)J"⟩, 1),
  (⟨"SetHouseModel", "turnedSet", "(I)I"⟩, 1),
  (⟨"SetHouseModel", "turns", "(I)I"⟩, 1),
  (⟨"SetHouseModel", "up", "(II)I"⟩, 1),
  (⟨"SetHouseModel", "weight", "(III)J"⟩, 1)]
def rx_ny (j : Nat) : MethodName := (rx_ms.getD j (⟨"", "", ""⟩, 9)).1
def rx_kd (j : Nat) : Nat := (rx_ms.getD j (⟨"", "", ""⟩, 9)).2
end
section

/-! ===== BEGIN exceptions that leave a method, and their catching by the caller (launches without stack traces) ===== -/
section VXA
/-! The laws vx_back, vx_callV, vx_callS, vx_callSW, vx_throw0, vx_throwS follow proofs of the library, with one case more: JvmDerived/Free/Laws.lean (Back.of_free), Shelf42/LK1.lean (callV, callS), Shelf/KitTraced.lean (throwNew0V, throwNewS). -/
/-- where a method has thrown q: the class by its name, the cell, what was written, the world -/
def vx_T (XC : String → State → State → Prop) (st : State) (q : Addr) (t : State) (mc ms : Nat) (free : Addr → Prop) : Prop :=
  ∃ (E : String) (ce : Cell) (L : List Loc), XC E st t ∧ t.heap[q]? = some ce ∧ ce.vm = .none ∧ st.vm.findClass E = some ce.cls ∧ st.WarmedH t.vm ∧ st.sameButNew ({ t with vm := st.vm } : State) L mc ms ∧ ∀ z ∈ L, free z.base
def vx_Q (Qc : Array Value → State → Outcome → State → Prop) (XC : String → State → State → Prop) (mc ms : Nat) (free : Addr → Prop) : Array Value → State → Outcome → State → Prop := fun a st o t =>
  (Qc a st o t ∧ ∃ L, FrameEnd st o t L mc ms ∧ ∀ q ∈ L, free q.base) ∨ ∃ q, o = .threw q ∧ vx_T XC st q t mc ms free
/-- a callee that returns or throws -/
def vx_Met (l : Launch) (y : MethodName) (ws : List Cond) (rm : Room) (Pc : Array Value → State → Prop) (Qc : Array Value → State → Outcome → State → Prop) (XC : String → State → State → Prop) (mc ms : Nat) (free : Addr → Prop) : Prop :=
  MetFree l y (headSpec ws rm) Pc (fun _ _ _ _ _ => True) (vx_Q Qc XC mc ms free)
def vx_Post (XC : String → State → State → Prop) (mc ms : Nat) (free : Addr → Prop) : Pt → Array Value → Addr → Pt → Prop := fun A a q B =>
  ∃ (g : JFrame) (mk : MethodId) (t : State) (L : List Loc) (E : String) (ce : Cell), B.U.heap = t.heap ∧ B.U.vm = t.vm ∧ XC E (A.U.calling g mk a) t ∧ t.heap[q]? = some ce ∧ ce.vm = .none ∧ A.U.vm.findClass E = some ce.cls ∧ B.locs = A.locs ++ L ∧ (∀ z ∈ L, free z.base) ∧ B.cells = A.cells + mc ∧ B.slots = A.slots + ms
def vx_Back (l : Launch) (R : Room) (p : Program) (e : Env) (below : List Frame) (s : State) (sargs : Array Value) (y : MethodName) (len W9 : Nat)
    (Pre : Pt → Array Value → Prop) (Post : Pt → Array Value → Option Value → Pt → Prop) (PostX : Pt → Array Value → Addr → Pt → Prop) : Prop :=
  ∀ (m : MethodId) (meth : Method) (c : Code) (A : Pt) (g : JFrame) (ig : Instr) (mk : MethodId) (a : Array Value),
    Stand p l e R s m sargs below meth c A.U A.locs A.cells A.slots → g.method = m → g.locals.size = c.maxLocals → decode c.code g.pc = .ok (ig, len) →
    2 * g.monitorRoom + (g.stack.map fun v => v.category).sum ≤ W9 → A.U.methodNamed? y = some mk → Pre A a →
    (∃ (v : Option Value) (B : Pt), Stand p l e R s m sargs below meth c B.U B.locs B.cells B.slots ∧ Post A a v B ∧
      Steps p.tables e below (doInvoke e (A.U.setTop g) [] mk a).1 (B.U.setTop { g with pc := g.pc + len, stack := v.toList ++ g.stack })) ∨
    (∃ (q : Addr) (B : Pt), Stand p l e R s m sargs below meth c B.U B.locs B.cells B.slots ∧ PostX A a q B ∧
      Steps p.tables e below (doInvoke e (A.U.setTop g) [] mk a).1 ((B.U.setTop g).pushFrame (.throwing q)))
section Payer
variable {l : Launch} {R : Room} {p : Program} {e : Env} {below : List Frame} {s : State} {sargs : Array Value} {y : MethodName} {len W9 : Nat}
theorem vx_back {ws : List Cond} {rm : Room} {Pc : Array Value → State → Prop} {Qc : Array Value → State → Outcome → State → Prop} {XC : String → State → State → Prop} {mc ms : Nat} {free : Addr → Prop} {bytes : ByteArray} {maxL : Nat} {ret : Option FieldType}
    (hM : vx_Met l y ws rm Pc Qc XC mc ms free) (hblind : FrameBlind Pc) (hrc : rm.cells = mc) (hrs : rm.slots = ms)
    (hframes : rm.frames + 1 ≤ R.frames) (hlocals : W9 + (maxL + 11) + rm.locals ≤ R.locals)
    (hws : ∀ w ∈ ws, ∀ a' U, s.WarmedH U.vm → w.before a' U = true) (hcode : Cond.code y bytes maxL ret ∈ ws) (hinit : ∀ a' U, s.WarmedH U.vm → (Cond.initialized y.cls).before a' U = true) :
    vx_Back l R p e below s sargs y len W9 (PreOf R mc ms Pc) (PostOf Qc mc ms free) (vx_Post XC mc ms free) := by
  intro m meth c A g ig mk a X hg hsize hdg hW hn hp
  have h1 : (headSpec ws rm).pre.before a A.U = true := atoms_intro fun w hw => hws w hw _ _ X.warmed
  have h2 : (Cond.code y bytes maxL ret).before a A.U = true := hws _ hcode _ _ X.warmed
  have h3 : (Cond.initialized y.cls).before a A.U = true := hinit _ _ X.warmed
  have h4 : A.cells + (headSpec ws rm).room.cells ≤ R.cells := by rw [show (headSpec ws rm).room.cells = mc from hrc]; exact hp.1
  have h5 : A.slots + (headSpec ws rm).room.slots ≤ R.slots := by rw [show (headSpec ws rm).room.slots = ms from hrs]; exact hp.2.1
  have hPc : Pc a (A.U.calling g mk a) := hblind _ _ _ _ hp.2.2
  obtain ⟨U, Ls, c0, s0⟩ := A
  dsimp only [Pt.U, Pt.locs, Pt.cells, Pt.slots] at h1 h2 h3 h4 h5 X hn hPc ⊢
  obtain ⟨methY, cY, hmY, hcY, -, hlY, -, -, -, -⟩ := Cond.code_spec hn h2
  obtain ⟨kY, hkY, -⟩ := className_of_methodNamed hn
  have hinitY : kY.init = .initialized := Cond.initialized_spec (findClass_of_methodNamed hn) hkY h3
  have h : At U g.method c below := by rw [hg]; exact X.here
  have hlocals9 : W9 + (maxL + 11) + (headSpec ws rm).room.locals ≤ R.locals := hlocals
  have happ : (headSpec ws rm).appliesLoose y e.platform (U.calling g mk a) = true :=
    Spec.appliesLoose_calling (g := g) h hdg hn hkY hinitY
      (X.room_calling (g := g) (R' := (headSpec ws rm).room) hsize hmY hcY hframes (by rw [hlY]; omega) h4 h5) h1
  obtain ⟨mid, hmid⟩ := h.above
  have hfr : (U.setTop g).frames = (.java g :: mid) ++ below := by rw [State.frames_setTop' g h.top, hmid]; rfl
  obtain ⟨o, s₂, hsteps, -, hend, hq⟩ := Steps.callFree hM p X.admits X.cas X.clock (acts := []) hfr happ hPc trivial
  have hq' : vx_Q Qc XC mc ms free a (U.calling g mk a) o s₂ := hq
  rw [State.frames_setTop' g h.top] at hend
  obtain ⟨g₀, hg0⟩ := Option.isSome_iff_exists.mp h.top
  obtain ⟨r, hr⟩ := State.topJava?_eq_some.mp hg0
  have hr' : (({ U with heap := s₂.heap, slotsUsed := s₂.slotsUsed } : State).setVm s₂.vm).frames = .java g₀ :: r := hr
  rcases hq' with ⟨hqc, L, hfe, hL⟩ | ⟨q, rfl, E, ce, L, hx, hce, hcv, hcl, hW₂, hsm, hL⟩
  · obtain ⟨⟨v, rfl⟩, hW₂, e2, q2, q3, q4, q5, q6⟩ := id hfe
    have e3 : s₂ = ({ (U.calling g mk a).setFrames s₂.frames with heap := s₂.heap, slotsUsed := s₂.slotsUsed } : State).setVm s₂.vm := by
      have : s₂ = ({ s₂ with vm := (U.calling g mk a).vm } : State).setVm s₂.vm := rfl
      rw [e2] at this
      exact this
    obtain ⟨c₂, i₂, len₂, hc₂, hd₂, hf₂⟩ := hend
    have hW' : U.WarmedH s₂.vm := hW₂
    have hcc : c₂ = c := by
      have h1 : s₂.code? g.method = U.code? g.method := by
        rw [State.code?_eq, State.code?_eq, hW'.alike.method?]
      exact Option.some.inj (hc₂.symm.trans (h1.trans h.code))
    subst hcc
    have hlen : len₂ = len := by rw [hdg] at hd₂; cases hd₂; rfl
    subst hlen
    have hs₂ : s₂ = (({ U with heap := s₂.heap, slotsUsed := s₂.slotsUsed } : State).setVm s₂.vm).setTop { g with pc := g.pc + len₂, stack := v.toList ++ g.stack } := by
      refine e3.trans ?_
      rw [hf₂, State.calling_eq h.top, State.setFrames_setFrames, State.setTop_of_frames _ hr', hr]
      rfl
    have hsame : U.sameButNew ({ U with heap := s₂.heap, slotsUsed := s₂.slotsUsed } : State) L mc ms := by
      refine ⟨?_, q2, q3, q4, q5, q6⟩
      obtain ⟨t, ht, -⟩ := State.frames_cons hr
      show ({ U with heap := s₂.heap, slotsUsed := s₂.slotsUsed } : State) = { U.setFrames U.frames with heap := s₂.heap, slotsUsed := s₂.slotsUsed }
      rw [State.setFrames_self ht]
    subst hg
    refine Or.inl ⟨v, ⟨(({ U with heap := s₂.heap, slotsUsed := s₂.slotsUsed } : State).setVm s₂.vm), Ls ++ L, c0 + mc, s0 + ms⟩,
      ⟨X.admits, X.cas, X.clock, X.frames, X.room, X.hears, X.method, X.code, (X.here.setHeapUsed s₂.heap s₂.slotsUsed).setVm hW'.alike, X.tail, State.WarmedH.trans X.warmed hW', X.limits, X.bytes, X.same.trans (hsame.setVm s.vm)⟩,
      ⟨g, mk, s₂, L, rfl, rfl, hqc, rfl, hL, rfl, rfl⟩, ?_⟩
    show Steps p.tables e below _ ((({ U with heap := s₂.heap, slotsUsed := s₂.slotsUsed } : State).setVm s₂.vm).setTop { g with pc := g.pc + len₂, stack := v.toList ++ g.stack })
    rw [← hs₂]
    exact hsteps
  · obtain ⟨e2, q2, q3, q4, q5, q6⟩ := id hsm
    have e3 : s₂ = ({ (U.calling g mk a).setFrames s₂.frames with heap := s₂.heap, slotsUsed := s₂.slotsUsed } : State).setVm s₂.vm := by
      have : s₂ = ({ s₂ with vm := (U.calling g mk a).vm } : State).setVm s₂.vm := rfl
      rw [e2] at this
      exact this
    have hf₂ : s₂.frames = .throwing q :: .java g :: U.frames.tail := hend
    have hW' : U.WarmedH s₂.vm := hW₂
    have hs₂ : s₂ = ((({ U with heap := s₂.heap, slotsUsed := s₂.slotsUsed } : State).setVm s₂.vm).setTop g).pushFrame (.throwing q) := by
      refine e3.trans ?_
      rw [hf₂, State.calling_eq h.top, State.setFrames_setFrames, State.pushFrame, State.frames_setTop _ hr', State.setTop_of_frames _ hr', State.setFrames_setFrames, hr]
      rfl
    have hsame : U.sameButNew ({ U with heap := s₂.heap, slotsUsed := s₂.slotsUsed } : State) L mc ms := by
      refine ⟨?_, q2, q3, q4, q5, q6⟩
      obtain ⟨t, ht, -⟩ := State.frames_cons hr
      show ({ U with heap := s₂.heap, slotsUsed := s₂.slotsUsed } : State) = { U.setFrames U.frames with heap := s₂.heap, slotsUsed := s₂.slotsUsed }
      rw [State.setFrames_self ht]
    subst hg
    refine Or.inr ⟨q, ⟨(({ U with heap := s₂.heap, slotsUsed := s₂.slotsUsed } : State).setVm s₂.vm), Ls ++ L, c0 + mc, s0 + ms⟩,
      ⟨X.admits, X.cas, X.clock, X.frames, X.room, X.hears, X.method, X.code, (X.here.setHeapUsed s₂.heap s₂.slotsUsed).setVm hW'.alike, X.tail, State.WarmedH.trans X.warmed hW', X.limits, X.bytes, X.same.trans (hsame.setVm s.vm)⟩,
      ⟨g, mk, s₂, L, E, ce, rfl, rfl, hx, hce, hcv, hcl, rfl, hL, rfl, rfl⟩, ?_⟩
    show Steps p.tables e below _ (((({ U with heap := s₂.heap, slotsUsed := s₂.slotsUsed } : State).setVm s₂.vm).setTop g).pushFrame (.throwing q))
    rw [← hs₂]
    exact hsteps
end Payer
section Calls
variable {p : Program} {l : Launch} {e : Env} {R : Room} {s : State} {m : MethodId} {args : Array Value} {below : List Frame} {meth : Method} {c : Code} {T : State} {locs : List Loc} {cells slots : Nat}
theorem vx_callV (X : Stand p l e R s m args below meth c T locs cells slots) (hexec : p.tables.exec = Jvm.exec) {own C : String} {index : Nat} {y : MethodName} {bytes : ByteArray} {maxL : Nat} {ret : Option FieldType}
    (hown : s.vm.findClass own = some m.cls) (hlink : (Cond.methodLink own index y).before args s = true) (hinst : (Cond.instanceMethod y).before args s = true) (hsel : (Cond.selects C y y).before args s = true)
    (hcode : (Cond.code y bytes maxL ret).before args s = true) (hy : y.cls ≠ "java/lang/invoke/MethodHandle" ∧ y.cls ≠ "java/lang/invoke/VarHandle")
    {W9 : Nat} {Pre : Pt → Array Value → Prop} {Post : Pt → Array Value → Option Value → Pt → Prop} {PostX : Pt → Array Value → Addr → Pt → Prop} (hK : vx_Back l R p e below s args y 3 W9 Pre Post PostX)
    {b : Addr} {cellB : Cell} (hcell : T.heap[b]? = some cellB) (hobj : cellB.vm.isStatics = false) (hcls : s.vm.findClass C = some cellB.cls)
    {g : JFrame} (hg : g.method = m) (hsize : g.locals.size = c.maxLocals) {argsL rest : List Value} (hlen : ∀ sig, parseMethodDescriptor y.desc = some sig → argsL.length = sig.parameters.length)
    (hstack : g.stack = argsL.reverse ++ .ref b :: rest) (hW : 2 * g.monitorRoom + (rest.map fun v => v.category).sum ≤ W9) (hdg : decode c.code g.pc = .ok (.invokevirtual index, 3))
    (hpre : ∀ vm₁, s.WarmedH vm₁ → Pre ⟨T.setVm vm₁, locs, cells, slots⟩ (Value.ref b :: argsL).toArray) :
    (∃ (v : Option Value) (vm₁ : Vm) (B : Pt), s.WarmedH vm₁ ∧ Stand p l e R s m args below meth c B.U B.locs B.cells B.slots ∧ Post ⟨T.setVm vm₁, locs, cells, slots⟩ (Value.ref b :: argsL).toArray v B ∧
      ∀ target, Steps p.tables e below (B.U.setTop { g with pc := g.pc + 3, stack := v.toList ++ rest }) target → Steps p.tables e below (T.setTop g) target) ∨
    (∃ (q : Addr) (vm₁ : Vm) (B : Pt), s.WarmedH vm₁ ∧ Stand p l e R s m args below meth c B.U B.locs B.cells B.slots ∧ PostX ⟨T.setVm vm₁, locs, cells, slots⟩ (Value.ref b :: argsL).toArray q B ∧
      Steps p.tables e below (T.setTop g) ((B.U.setTop { g with stack := rest }).pushFrame (.throwing q))) := by
  obtain ⟨mk, methM, hnamed, hmethM, hstM, habM⟩ := Cond.instanceMethod_spec hinst
  obtain ⟨methM', cM, hmethM', -, -, -, -, -, -, hsigM⟩ := Cond.code_spec hnamed hcode
  cases hmethM.symm.trans hmethM'
  obtain ⟨c2, r2, m2, q1, q2, q3, q4, kP, hkP, hkPi⟩ := Cond.selects_spec hsel
  cases hcls.symm.trans q1
  cases (State.methodFound?_of_named hnamed hy).symm.trans q2
  cases hnamed.symm.trans q3
  have hselP : selectMethod e.platform s.vm cellB.cls mk = .method mk := by rw [Launch.admits_selectMethod X.admits]; exact q4
  obtain ⟨vm₁, X₁, hstep₁⟩ := X.invokevirtual hexec hown hlink hnamed hmethM hstM hkP hkPi hy (a := b) (cell := cellB) hcell
    (fun z h => by rw [h] at hobj; cases hobj) hselP hmethM habM hkP hkPi (g := g) hg (argsL := argsL) (rest := rest) (hlen _ hsigM) hstack hdg
  rcases hK m meth c ⟨T.setVm vm₁, locs, cells, slots⟩ { g with stack := rest } (.invokevirtual index) mk (Value.ref b :: argsL).toArray X₁ hg hsize hdg hW (X₁.named hnamed) (hpre vm₁ X₁.warmed) with ⟨v, B, X', hpost, hsteps⟩ | ⟨q, B, X', hpost, hsteps⟩
  · exact Or.inl ⟨v, vm₁, B, X₁.warmed, X', hpost, fun target h => hstep₁ _ fun acts => by rw [doInvoke_state]; exact hsteps.trans h⟩
  · exact Or.inr ⟨q, vm₁, B, X₁.warmed, X', hpost, hstep₁ _ fun acts => by rw [doInvoke_state]; exact hsteps⟩
theorem vx_callS (X : Stand p l e R s m args below meth c T locs cells slots) (hexec : p.tables.exec = Jvm.exec) {own : String} {index : Nat} {y : MethodName} {bytes : ByteArray} {maxL : Nat} {ret : Option FieldType}
    (hown : s.vm.findClass own = some m.cls) (hlink : (Cond.methodLink own index y).before args s = true) (hstat : (Cond.static y).before args s = true) (hinit : (Cond.initialized y.cls).before args s = true)
    (hcode : (Cond.code y bytes maxL ret).before args s = true) (hy : y.cls ≠ "java/lang/invoke/MethodHandle" ∧ y.cls ≠ "java/lang/invoke/VarHandle")
    {W9 : Nat} {Pre : Pt → Array Value → Prop} {Post : Pt → Array Value → Option Value → Pt → Prop} {PostX : Pt → Array Value → Addr → Pt → Prop} (hK : vx_Back l R p e below s args y 3 W9 Pre Post PostX)
    {g : JFrame} (hg : g.method = m) (hsize : g.locals.size = c.maxLocals) {argsL rest : List Value} (hlen : ∀ sig, parseMethodDescriptor y.desc = some sig → argsL.length = sig.parameters.length)
    (hstack : g.stack = argsL.reverse ++ rest) (hW : 2 * g.monitorRoom + (rest.map fun v => v.category).sum ≤ W9) (hdg : decode c.code g.pc = .ok (.invokestatic index, 3))
    (hpre : ∀ vm₁, s.WarmedH vm₁ → Pre ⟨T.setVm vm₁, locs, cells, slots⟩ argsL.toArray) :
    (∃ (v : Option Value) (vm₁ : Vm) (B : Pt), s.WarmedH vm₁ ∧ Stand p l e R s m args below meth c B.U B.locs B.cells B.slots ∧ Post ⟨T.setVm vm₁, locs, cells, slots⟩ argsL.toArray v B ∧
      ∀ target, Steps p.tables e below (B.U.setTop { g with pc := g.pc + 3, stack := v.toList ++ rest }) target → Steps p.tables e below (T.setTop g) target) ∨
    (∃ (q : Addr) (vm₁ : Vm) (B : Pt), s.WarmedH vm₁ ∧ Stand p l e R s m args below meth c B.U B.locs B.cells B.slots ∧ PostX ⟨T.setVm vm₁, locs, cells, slots⟩ argsL.toArray q B ∧
      Steps p.tables e below (T.setTop g) ((B.U.setTop { g with stack := rest }).pushFrame (.throwing q))) := by
  obtain ⟨mk, hnamed⟩ := Cond.code_named hcode
  obtain ⟨methM, cM, hmethM, -, -, -, -, -, -, hsigM⟩ := Cond.code_spec hnamed hcode
  have hstatic : methM.isStatic = true := Cond.static_spec hnamed hmethM hstat
  obtain ⟨kP, hkP, -⟩ := className_of_methodNamed hnamed
  have hinitP : kP.init = .initialized := Cond.initialized_spec (findClass_of_methodNamed hnamed) hkP hinit
  obtain ⟨vm₁, X₁, hstep₁⟩ := X.invokestatic hexec hown hlink hnamed hmethM hstatic hkP hinitP hy (g := g) hg (argsL := argsL) (rest := rest) (hlen _ hsigM) hstack hdg
  rcases hK m meth c ⟨T.setVm vm₁, locs, cells, slots⟩ { g with stack := rest } (.invokestatic index) mk argsL.toArray X₁ hg hsize hdg hW (X₁.named hnamed) (hpre vm₁ X₁.warmed) with ⟨v, B, X', hpost, hsteps⟩ | ⟨q, B, X', hpost, hsteps⟩
  · exact Or.inl ⟨v, vm₁, B, X₁.warmed, X', hpost, fun target h => hstep₁ _ fun acts => by rw [doInvoke_state]; exact hsteps.trans h⟩
  · exact Or.inr ⟨q, vm₁, B, X₁.warmed, X', hpost, hstep₁ _ fun acts => by rw [doInvoke_state]; exact hsteps⟩
end Calls
theorem vx_cls {s : State} {T : State} {vm₁ : Vm} {E : String} {k : ClassId} (hW : s.WarmedH vm₁) (h : (T.setVm vm₁).vm.findClass E = some k) : s.vm.findClass E = some k := by
  have h1 : vm₁.findClass E = some k := h
  rw [hW.alike.findClass] at h1
  exact h1
/-- the method's frame g, with q thrown over it -/
def vx_W (p : Program) (l : Launch) (e : Env) (R : Room) (s : State) (m : MethodId) (args : Array Value) (below : List Frame) (meth : Method) (c : Code) (H : Heap) (locs : List Loc) (cells slots : Nat) (Q : State → Prop) (g : JFrame) (q : Addr) : Prop :=
  ∀ T : State, T.heap = H → Stand p l e R s m args below meth c T locs cells slots → ∃ t, Steps p.tables e below ((T.setTop g).pushFrame (.throwing q)) t ∧ Q t
def vx_Run (p : Program) (l : Launch) (e : Env) (R : Room) (s : State) (m : MethodId) (args : Array Value) (below : List Frame) (meth : Method) (c : Code) (H : Heap) (locs : List Loc) (cells slots mc ms : Nat) (g : JFrame) (rest : List Value) (Qa : State → Outcome → State → Prop) (XC : String → State → State → Prop) (free : Addr → Prop) : Prop :=
  ∀ T : State, T.heap = H → Stand p l e R s m args below meth c T locs cells slots →
    (∃ (v : Option Value) (st₀ t T' : State) (L : List Loc), st₀.heap = H ∧ Stand p l e R s m args below meth c T' (locs ++ L) (cells + mc) (slots + ms) ∧ (∀ q ∈ L, free q.base) ∧ T'.heap = t.heap ∧ T'.vm = t.vm ∧ Qa st₀ (.returned v) t ∧
      Goes p e below T g T' { g with pc := g.pc + 3, stack := v.toList ++ rest }) ∨
    (∃ (q : Addr) (st₀ t T' : State) (L : List Loc) (E : String) (ce : Cell), st₀.heap = H ∧ Stand p l e R s m args below meth c T' (locs ++ L) (cells + mc) (slots + ms) ∧ (∀ z ∈ L, free z.base) ∧ T'.heap = t.heap ∧ T'.vm = t.vm ∧ XC E st₀ t ∧ t.heap[q]? = some ce ∧ ce.vm = .none ∧ s.vm.findClass E = some ce.cls ∧
      Steps p.tables e below (T.setTop g) ((T'.setTop { g with stack := rest }).pushFrame (.throwing q)))
def vx_X {S : Type} (px : S → Prop) (B : String → S → State → Prop) (A : Nat → Prop) : String → State → State → Prop := fun E st t => ∃ u : S, px u ∧ B E u t ∧ va_F A st t
section Runs
variable {p : Program} {l : Launch} {e : Env} {R : Room} {s : State} {m : MethodId} {args : Array Value} {below : List Frame} {meth : Method} {c : Code} {H : Heap} {locs : List Loc} {cells slots : Nat}
variable {y : MethodName} {bytes cc : ByteArray} {maxL nL mc ms n index : Nat} {ret : Option FieldType} {ws : List Cond} {rm : Room} {Pc : Array Value → State → Prop} {Qc : Array Value → State → Outcome → State → Prop} {XC : String → State → State → Prop} {free : Addr → Prop} {Ts : List Cond} {own C : String} {b : Addr} {As rest : List Value} {g : JFrame}
theorem vx_callBack (cb : CallB R s args own index y bytes maxL ret ws rm mc ms n) (hM : vx_Met l y ws rm Pc Qc XC mc ms free) (hbl : FrameBlind Pc) : vx_Back l R p e below s args y 3 8 (PreOf R mc ms Pc) (PostOf Qc mc ms free) (vx_Post XC mc ms free) := by
  obtain ⟨hrc, hrs, hfr, hlo, hws, hcw, -, hini, -⟩ := cb
  exact vx_back (bytes := bytes) (maxL := maxL) (ret := ret) hM hbl hrc hrs hfr hlo hws hcw (fun a' U hW => word_at hW (Or.inl (by first | rfl | simp [Cond.onTables, Cond.keeps, Cond.steady])) hini)
theorem vx_runV (S : CallFix p m c cc nL s args Ts own) (hM : vx_Met l y ws rm Pc Qc XC mc ms free) (cw : CallW R s args own C index y bytes maxL ret ws rm mc ms n) (hp : PreV s H C b Pc As)
    (hg : g.method = m) (hn : As.length = n) (hsize : g.locals.size = nL) (hstack : g.stack = As.reverse ++ .ref b :: rest) (hW : 2 * g.monitorRoom + (rest.map fun v => v.category).sum ≤ 8) (hdg : decode cc g.pc = .ok (.invokevirtual index, 3)) (hf : cells + mc ≤ R.cells ∧ slots + ms ≤ R.slots) :
    vx_Run p l e R s m args below meth c H locs cells slots mc ms g rest (Qc (Value.ref b :: As).toArray) XC free := by
  have hK : vx_Back l R p e below s args y 3 8 (PreOf R mc ms Pc) (PostOf Qc mc ms free) (vx_Post XC mc ms free) := vx_callBack cw.1 hM hp.1
  obtain ⟨⟨-, -, -, -, -, -, hcode, -, hy, hlen, hl⟩, hin, hse⟩ := cw
  obtain ⟨hx, hb, hml, ho, -⟩ := S
  obtain ⟨-, ⟨cellB, hcB, hoB, hclB⟩, hPc⟩ := hp
  intro T hT X
  rcases vx_callV X hx (C := C) (bytes := bytes) (maxL := maxL) (ret := ret) ho hl hin hse hcode hy hK (by rw [hT]; exact hcB) hoB hclB hg (hsize.trans hml.symm) (argsL := As) (rest := rest) (fun sig h => hn.trans (hlen sig h)) hstack hW (by rw [hb]; exact hdg)
    (fun vm₁ hW₁ => ⟨hf.1, hf.2, hPc (T.setVm vm₁) hT hW₁⟩) with ⟨v, vm₁, ⟨U', l2, c2, s2⟩, hW₁, X', ⟨g', mk, t, L, e1, e2, hq, h1, hL, h2, h3⟩, st⟩ | ⟨q, vm₁, ⟨U', l2, c2, s2⟩, hW₁, X', ⟨g', mk, t, L, E, ce, e1, e2, hq, hce, hcv, hcl, h1, hL, h2, h3⟩, st⟩
  · dsimp only [Pt.U, Pt.locs, Pt.cells, Pt.slots] at X' e1 e2 h1 h2 h3 st
    subst h1; subst h2; subst h3
    exact Or.inl ⟨v, (T.setVm vm₁).calling g' mk (Value.ref b :: As).toArray, t, U', L, hT, X', hL, e1, e2, hq, st⟩
  · dsimp only [Pt.U, Pt.locs, Pt.cells, Pt.slots] at X' e1 e2 h1 h2 h3 st hcl
    subst h1; subst h2; subst h3
    exact Or.inr ⟨q, (T.setVm vm₁).calling g' mk (Value.ref b :: As).toArray, t, U', L, E, ce, hT, X', hL, e1, e2, hq, hce, hcv, vx_cls hW₁ hcl, st⟩
theorem vx_runS (S : CallFix p m c cc nL s args Ts own) (hM : vx_Met l y ws rm Pc Qc XC mc ms free) (cw : CallB R s args own index y bytes maxL ret ws rm mc ms n ∧ (Cond.static y).before args s = true) (hp : PreS s H Pc As)
    (hg : g.method = m) (hn : As.length = n) (hsize : g.locals.size = nL) (hstack : g.stack = As.reverse ++ rest) (hW : 2 * g.monitorRoom + (rest.map fun v => v.category).sum ≤ 8) (hdg : decode cc g.pc = .ok (.invokestatic index, 3)) (hf : cells + mc ≤ R.cells ∧ slots + ms ≤ R.slots) :
    vx_Run p l e R s m args below meth c H locs cells slots mc ms g rest (Qc As.toArray) XC free := by
  have hK : vx_Back l R p e below s args y 3 8 (PreOf R mc ms Pc) (PostOf Qc mc ms free) (vx_Post XC mc ms free) := vx_callBack cw.1 hM hp.1
  obtain ⟨⟨-, -, -, -, -, -, hcode, hini, hy, hlen, hl⟩, hstt⟩ := cw
  obtain ⟨hx, hb, hml, ho, -⟩ := S
  intro T hT X
  rcases vx_callS X hx (bytes := bytes) (maxL := maxL) (ret := ret) ho hl hstt hini hcode hy hK hg (hsize.trans hml.symm) (argsL := As) (rest := rest) (fun sig h => hn.trans (hlen sig h)) hstack hW (by rw [hb]; exact hdg)
    (fun vm₁ hW₁ => ⟨hf.1, hf.2, hp.2 (T.setVm vm₁) hT hW₁⟩) with ⟨v, vm₁, ⟨U', l2, c2, s2⟩, hW₁, X', ⟨g', mk, t, L, e1, e2, hq, h1, hL, h2, h3⟩, st⟩ | ⟨q, vm₁, ⟨U', l2, c2, s2⟩, hW₁, X', ⟨g', mk, t, L, E, ce, e1, e2, hq, hce, hcv, hcl, h1, hL, h2, h3⟩, st⟩
  · dsimp only [Pt.U, Pt.locs, Pt.cells, Pt.slots] at X' e1 e2 h1 h2 h3 st
    subst h1; subst h2; subst h3
    exact Or.inl ⟨v, (T.setVm vm₁).calling g' mk As.toArray, t, U', L, hT, X', hL, e1, e2, hq, st⟩
  · dsimp only [Pt.U, Pt.locs, Pt.cells, Pt.slots] at X' e1 e2 h1 h2 h3 st hcl
    subst h1; subst h2; subst h3
    exact Or.inr ⟨q, (T.setVm vm₁).calling g' mk As.toArray, t, U', L, E, ce, hT, X', hL, e1, e2, hq, hce, hcv, vx_cls hW₁ hcl, st⟩
end Runs
section Rows
variable {p : Program} {l : Launch} {e : Env} {R : Room} {s : State} {m : MethodId} {args : Array Value} {below : List Frame} {meth : Method} {c : Code} {H : Heap} {locs : List Loc} {cells slots : Nat} {Q : State → Prop}
variable {mc ms : Nat} {free : Addr → Prop} {A0 A1 : Nat → Prop} {H0 : Heap} {a : Array Value} {pc : Nat} {ls : Array Slot} {st0 rest : List Value}
theorem vx_keep {st₀ t T' : State} {L : List Loc} (h0 : st₀.heap = H) (e1 : T'.heap = t.heap) (hS : va_S A0 H0 H locs) (hA : ∀ q, q < H.size → A1 q → A0 q) (hf : ∀ q, free q → A0 q) (hL : ∀ q ∈ L, free q.base) (hF : va_F A1 st₀ t) :
    H.size ≤ T'.heap.size ∧ (∀ q : Nat, q < H.size → ¬ A1 q → T'.heap[q]? = H[q]?) ∧ va_S A0 H0 T'.heap (locs ++ L) := by
  obtain ⟨hz, hk⟩ := hF
  rw [h0] at hz hk
  exact ⟨by rw [e1]; exact hz, fun q h1 h2 => by rw [e1]; exact hk q h1 h2,
    ⟨Nat.le_trans hS.1 (by rw [e1]; exact hz), fun q h1 h2 => by rw [e1, hk q (Nat.lt_of_lt_of_le h1 hS.1) (fun z => h2 (hA q (Nat.lt_of_lt_of_le h1 hS.1) z))]; exact hS.2.1 q h1 h2, fun q hq => by
      rcases List.mem_append.mp hq with h | h
      · exact hS.2.2 q h
      · exact hf _ (hL q h)⟩⟩
theorem vx_calli {S SX : Type} {post : Int32 → S → Prop} {px : SX → Prop} {B : S → State → Prop} {BX : String → SX → State → Prop} {AX : Nat → Prop} (hr : vx_Run p l e R s m args below meth c H locs cells slots mc ms (F0 m pc ls st0) rest (va_Qi post B A1 a) (vx_X px BX AX) free) (hS : va_S A0 H0 H locs) (hA : ∀ q, q < H.size → A1 q → A0 q) (hf : ∀ q, free q → A0 q) (hAX : ∀ q, q < H.size → AX q → A0 q)
    (kx : ∀ (E : String) (ce : Cell) (q9 : Addr) (u : SX) (t : State) (H1 : Heap) (locs1 : List Loc), t.heap = H1 → s.vm.Alike t.vm → px u → BX E u t → H.size ≤ H1.size → (∀ q : Nat, q < H.size → ¬ AX q → H1[q]? = H[q]?) → va_S A0 H0 H1 locs1 → H1[q9]? = some ce → ce.vm = .none → s.vm.findClass E = some ce.cls → vx_W p l e R s m args below meth c H1 locs1 (cells + mc) (slots + ms) Q (F0 m pc ls rest) q9)
    (kk : ∀ (r : Int32) (u : S) (t : State) (H1 : Heap) (locs1 : List Loc), t.heap = H1 → s.vm.Alike t.vm → post r u → B u t → H.size ≤ H1.size → (∀ q : Nat, q < H.size → ¬ A1 q → H1[q]? = H[q]?) → va_S A0 H0 H1 locs1 → W p l e R s m args below meth c H1 locs1 (cells + mc) (slots + ms) Q (F0 m (pc + 3) ls (.int r :: rest))) : W p l e R s m args below meth c H locs cells slots Q (F0 m pc ls st0) := by
  intro T hT X
  rcases hr T hT X with ⟨v, st₀, t, T', L, h0, X', hL, e1, e2, ⟨⟨r, u, hv, hp, hb⟩, hF⟩, st⟩ | ⟨q, st₀, t, T', L, E, ce, h0, X', hL, e1, e2, ⟨u, hp, hb, hF⟩, hce, hcv, hcl, st⟩
  · cases hv
    obtain ⟨k1, k2, k3⟩ := vx_keep h0 e1 hS hA hf hL hF
    obtain ⟨t2, a1, b1⟩ := kk r u t T'.heap (locs ++ L) e1.symm (by rw [← e2]; exact X'.warmed.alike) hp hb k1 k2 k3 T' rfl X'
    exact ⟨t2, st t2 a1, b1⟩
  · obtain ⟨k1, k2, k3⟩ := vx_keep h0 e1 hS hAX hf hL hF
    obtain ⟨t2, a1, b1⟩ := kx E ce q u t T'.heap (locs ++ L) e1.symm (by rw [← e2]; exact X'.warmed.alike) hp hb k1 k2 k3 (by rw [e1]; exact hce) hcv hcl T' rfl X'
    exact ⟨t2, st.trans a1, b1⟩
theorem vx_calll {S SX : Type} {post : Int64 → S → Prop} {px : SX → Prop} {B : S → State → Prop} {BX : String → SX → State → Prop} {AX : Nat → Prop} (hr : vx_Run p l e R s m args below meth c H locs cells slots mc ms (F0 m pc ls st0) rest (va_Ql post B A1 a) (vx_X px BX AX) free) (hS : va_S A0 H0 H locs) (hA : ∀ q, q < H.size → A1 q → A0 q) (hf : ∀ q, free q → A0 q) (hAX : ∀ q, q < H.size → AX q → A0 q)
    (kx : ∀ (E : String) (ce : Cell) (q9 : Addr) (u : SX) (t : State) (H1 : Heap) (locs1 : List Loc), t.heap = H1 → s.vm.Alike t.vm → px u → BX E u t → H.size ≤ H1.size → (∀ q : Nat, q < H.size → ¬ AX q → H1[q]? = H[q]?) → va_S A0 H0 H1 locs1 → H1[q9]? = some ce → ce.vm = .none → s.vm.findClass E = some ce.cls → vx_W p l e R s m args below meth c H1 locs1 (cells + mc) (slots + ms) Q (F0 m pc ls rest) q9)
    (kk : ∀ (r : Int64) (u : S) (t : State) (H1 : Heap) (locs1 : List Loc), t.heap = H1 → s.vm.Alike t.vm → post r u → B u t → H.size ≤ H1.size → (∀ q : Nat, q < H.size → ¬ A1 q → H1[q]? = H[q]?) → va_S A0 H0 H1 locs1 → W p l e R s m args below meth c H1 locs1 (cells + mc) (slots + ms) Q (F0 m (pc + 3) ls (.long r :: rest))) : W p l e R s m args below meth c H locs cells slots Q (F0 m pc ls st0) := by
  intro T hT X
  rcases hr T hT X with ⟨v, st₀, t, T', L, h0, X', hL, e1, e2, ⟨⟨r, u, hv, hp, hb⟩, hF⟩, st⟩ | ⟨q, st₀, t, T', L, E, ce, h0, X', hL, e1, e2, ⟨u, hp, hb, hF⟩, hce, hcv, hcl, st⟩
  · cases hv
    obtain ⟨k1, k2, k3⟩ := vx_keep h0 e1 hS hA hf hL hF
    obtain ⟨t2, a1, b1⟩ := kk r u t T'.heap (locs ++ L) e1.symm (by rw [← e2]; exact X'.warmed.alike) hp hb k1 k2 k3 T' rfl X'
    exact ⟨t2, st t2 a1, b1⟩
  · obtain ⟨k1, k2, k3⟩ := vx_keep h0 e1 hS hAX hf hL hF
    obtain ⟨t2, a1, b1⟩ := kx E ce q u t T'.heap (locs ++ L) e1.symm (by rw [← e2]; exact X'.warmed.alike) hp hb k1 k2 k3 (by rw [e1]; exact hce) hcv hcl T' rfl X'
    exact ⟨t2, st.trans a1, b1⟩
theorem vx_callf {S SX : Type} {post : UInt32 → S → Prop} {px : SX → Prop} {B : S → State → Prop} {BX : String → SX → State → Prop} {AX : Nat → Prop} (hr : vx_Run p l e R s m args below meth c H locs cells slots mc ms (F0 m pc ls st0) rest (va_Qf post B A1 a) (vx_X px BX AX) free) (hS : va_S A0 H0 H locs) (hA : ∀ q, q < H.size → A1 q → A0 q) (hf : ∀ q, free q → A0 q) (hAX : ∀ q, q < H.size → AX q → A0 q)
    (kx : ∀ (E : String) (ce : Cell) (q9 : Addr) (u : SX) (t : State) (H1 : Heap) (locs1 : List Loc), t.heap = H1 → s.vm.Alike t.vm → px u → BX E u t → H.size ≤ H1.size → (∀ q : Nat, q < H.size → ¬ AX q → H1[q]? = H[q]?) → va_S A0 H0 H1 locs1 → H1[q9]? = some ce → ce.vm = .none → s.vm.findClass E = some ce.cls → vx_W p l e R s m args below meth c H1 locs1 (cells + mc) (slots + ms) Q (F0 m pc ls rest) q9)
    (kk : ∀ (r : UInt32) (u : S) (t : State) (H1 : Heap) (locs1 : List Loc), t.heap = H1 → s.vm.Alike t.vm → post r u → B u t → H.size ≤ H1.size → (∀ q : Nat, q < H.size → ¬ A1 q → H1[q]? = H[q]?) → va_S A0 H0 H1 locs1 → W p l e R s m args below meth c H1 locs1 (cells + mc) (slots + ms) Q (F0 m (pc + 3) ls (.float r :: rest))) : W p l e R s m args below meth c H locs cells slots Q (F0 m pc ls st0) := by
  intro T hT X
  rcases hr T hT X with ⟨v, st₀, t, T', L, h0, X', hL, e1, e2, ⟨⟨r, u, hv, hp, hb⟩, hF⟩, st⟩ | ⟨q, st₀, t, T', L, E, ce, h0, X', hL, e1, e2, ⟨u, hp, hb, hF⟩, hce, hcv, hcl, st⟩
  · cases hv
    obtain ⟨k1, k2, k3⟩ := vx_keep h0 e1 hS hA hf hL hF
    obtain ⟨t2, a1, b1⟩ := kk r u t T'.heap (locs ++ L) e1.symm (by rw [← e2]; exact X'.warmed.alike) hp hb k1 k2 k3 T' rfl X'
    exact ⟨t2, st t2 a1, b1⟩
  · obtain ⟨k1, k2, k3⟩ := vx_keep h0 e1 hS hAX hf hL hF
    obtain ⟨t2, a1, b1⟩ := kx E ce q u t T'.heap (locs ++ L) e1.symm (by rw [← e2]; exact X'.warmed.alike) hp hb k1 k2 k3 (by rw [e1]; exact hce) hcv hcl T' rfl X'
    exact ⟨t2, st.trans a1, b1⟩
theorem vx_calld {S SX : Type} {post : UInt64 → S → Prop} {px : SX → Prop} {B : S → State → Prop} {BX : String → SX → State → Prop} {AX : Nat → Prop} (hr : vx_Run p l e R s m args below meth c H locs cells slots mc ms (F0 m pc ls st0) rest (va_Qd post B A1 a) (vx_X px BX AX) free) (hS : va_S A0 H0 H locs) (hA : ∀ q, q < H.size → A1 q → A0 q) (hf : ∀ q, free q → A0 q) (hAX : ∀ q, q < H.size → AX q → A0 q)
    (kx : ∀ (E : String) (ce : Cell) (q9 : Addr) (u : SX) (t : State) (H1 : Heap) (locs1 : List Loc), t.heap = H1 → s.vm.Alike t.vm → px u → BX E u t → H.size ≤ H1.size → (∀ q : Nat, q < H.size → ¬ AX q → H1[q]? = H[q]?) → va_S A0 H0 H1 locs1 → H1[q9]? = some ce → ce.vm = .none → s.vm.findClass E = some ce.cls → vx_W p l e R s m args below meth c H1 locs1 (cells + mc) (slots + ms) Q (F0 m pc ls rest) q9)
    (kk : ∀ (r : UInt64) (u : S) (t : State) (H1 : Heap) (locs1 : List Loc), t.heap = H1 → s.vm.Alike t.vm → post r u → B u t → H.size ≤ H1.size → (∀ q : Nat, q < H.size → ¬ A1 q → H1[q]? = H[q]?) → va_S A0 H0 H1 locs1 → W p l e R s m args below meth c H1 locs1 (cells + mc) (slots + ms) Q (F0 m (pc + 3) ls (.double r :: rest))) : W p l e R s m args below meth c H locs cells slots Q (F0 m pc ls st0) := by
  intro T hT X
  rcases hr T hT X with ⟨v, st₀, t, T', L, h0, X', hL, e1, e2, ⟨⟨r, u, hv, hp, hb⟩, hF⟩, st⟩ | ⟨q, st₀, t, T', L, E, ce, h0, X', hL, e1, e2, ⟨u, hp, hb, hF⟩, hce, hcv, hcl, st⟩
  · cases hv
    obtain ⟨k1, k2, k3⟩ := vx_keep h0 e1 hS hA hf hL hF
    obtain ⟨t2, a1, b1⟩ := kk r u t T'.heap (locs ++ L) e1.symm (by rw [← e2]; exact X'.warmed.alike) hp hb k1 k2 k3 T' rfl X'
    exact ⟨t2, st t2 a1, b1⟩
  · obtain ⟨k1, k2, k3⟩ := vx_keep h0 e1 hS hAX hf hL hF
    obtain ⟨t2, a1, b1⟩ := kx E ce q u t T'.heap (locs ++ L) e1.symm (by rw [← e2]; exact X'.warmed.alike) hp hb k1 k2 k3 (by rw [e1]; exact hce) hcv hcl T' rfl X'
    exact ⟨t2, st.trans a1, b1⟩
theorem vx_callv {S SX : Type} {post : S → Prop} {px : SX → Prop} {B : S → State → Prop} {BX : String → SX → State → Prop} {AX : Nat → Prop} (hr : vx_Run p l e R s m args below meth c H locs cells slots mc ms (F0 m pc ls st0) rest (va_Qv post B A1 a) (vx_X px BX AX) free) (hS : va_S A0 H0 H locs) (hA : ∀ q, q < H.size → A1 q → A0 q) (hf : ∀ q, free q → A0 q) (hAX : ∀ q, q < H.size → AX q → A0 q)
    (kx : ∀ (E : String) (ce : Cell) (q9 : Addr) (u : SX) (t : State) (H1 : Heap) (locs1 : List Loc), t.heap = H1 → s.vm.Alike t.vm → px u → BX E u t → H.size ≤ H1.size → (∀ q : Nat, q < H.size → ¬ AX q → H1[q]? = H[q]?) → va_S A0 H0 H1 locs1 → H1[q9]? = some ce → ce.vm = .none → s.vm.findClass E = some ce.cls → vx_W p l e R s m args below meth c H1 locs1 (cells + mc) (slots + ms) Q (F0 m pc ls rest) q9)
    (kk : ∀ (u : S) (t : State) (H1 : Heap) (locs1 : List Loc), t.heap = H1 → s.vm.Alike t.vm → post u → B u t → H.size ≤ H1.size → (∀ q : Nat, q < H.size → ¬ A1 q → H1[q]? = H[q]?) → va_S A0 H0 H1 locs1 → W p l e R s m args below meth c H1 locs1 (cells + mc) (slots + ms) Q (F0 m (pc + 3) ls (rest))) : W p l e R s m args below meth c H locs cells slots Q (F0 m pc ls st0) := by
  intro T hT X
  rcases hr T hT X with ⟨v, st₀, t, T', L, h0, X', hL, e1, e2, ⟨⟨u, hv, hp, hb⟩, hF⟩, st⟩ | ⟨q, st₀, t, T', L, E, ce, h0, X', hL, e1, e2, ⟨u, hp, hb, hF⟩, hce, hcv, hcl, st⟩
  · cases hv
    obtain ⟨k1, k2, k3⟩ := vx_keep h0 e1 hS hA hf hL hF
    obtain ⟨t2, a1, b1⟩ := kk u t T'.heap (locs ++ L) e1.symm (by rw [← e2]; exact X'.warmed.alike) hp hb k1 k2 k3 T' rfl X'
    exact ⟨t2, st t2 a1, b1⟩
  · obtain ⟨k1, k2, k3⟩ := vx_keep h0 e1 hS hAX hf hL hF
    obtain ⟨t2, a1, b1⟩ := kx E ce q u t T'.heap (locs ++ L) e1.symm (by rw [← e2]; exact X'.warmed.alike) hp hb k1 k2 k3 (by rw [e1]; exact hce) hcv hcl T' rfl X'
    exact ⟨t2, st.trans a1, b1⟩
/-- caught by the row x of this method's table; the rows ahead don't take it -/
theorem vx_catch {own name : String} {E : String} {ce : Cell} {q : Addr} (hown : s.vm.findClass own = some m.cls) (pre : List ExceptionTableEntry) (x : ExceptionTableEntry) (suf : List ExceptionTableEntry) (hsplit : c.exceptionTable.toList = pre ++ x :: suf)
    (hpass : ∀ z ∈ pre, covers z pc = false ∨ (z.catchType ≠ 0 ∧ ∃ nm : String, (Cond.classLink own z.catchType nm).before args s = true ∧ va_Nc E nm s)) (hx : covers x pc = true) (h0 : x.catchType ≠ 0)
    (hlink : (Cond.classLink own x.catchType name).before args s = true) (hcast : (Cond.castable E name).before args s = true) (hcell : H[q]? = some ce) (hv : ce.vm = .none) (hcl : s.vm.findClass E = some ce.cls)
    (kk : W p l e R s m args below meth c H locs cells slots Q (F0 m x.handlerPc ls [.ref q])) : vx_W p l e R s m args below meth c H locs cells slots Q (F0 m pc ls rest) q := by
  intro T hT X
  have hpl : e.platform.magicAccessors = ({} : Platform).magicAccessors := by rw [X.admits.platform]
  obtain ⟨c3, c4, hc3, hc4, hasg⟩ := Cond.castable_spec hcast
  cases Option.some.inj (hc3.symm.trans hcl)
  obtain ⟨c5, hc5, hcl5⟩ := Cond.classLink_spec hown hlink e.platform hpl
  cases Option.some.inj (hc4.symm.trans hc5)
  obtain ⟨vm', X', st⟩ := X.thenCaughtThrough q (g := F0 m pc ls rest) rfl (Steps.refl _) (by rw [hT]; exact hcell) (by rw [hv]; rfl) (by obtain ⟨k9, h9, -⟩ := Vm.findClass_spec hcl; exact ⟨k9, h9⟩) pre x suf hsplit
    (fun z hz => by
      rcases hpass z hz with h | ⟨hz0, nm, hl1, hn1⟩
      · exact Or.inl h
      · obtain ⟨c6, hc6, hcl6⟩ := Cond.classLink_spec hown hl1 e.platform hpl
        obtain ⟨a8, b8, h1, h2, h3⟩ := hn1
        cases Option.some.inj (h1.symm.trans hcl)
        cases Option.some.inj (h2.symm.trans hc6)
        exact Or.inr ⟨hz0, _, hcl6, h3⟩) hx (Or.inr ⟨h0, c4, hcl5, hasg⟩)
  obtain ⟨t, a1, b1⟩ := kk (T.setVm vm') hT X'
  exact ⟨t, st.trans a1, b1⟩
end Rows
section Ends
variable {p : Program} {l : Launch} {e : Env} {R : Room} {s : State} {m : MethodId} {args : Array Value} {below : List Frame} {meth : Method} {c : Code} {H : Heap} {locs : List Loc} {cells slots : Nat} {Q : State → Prop}
variable {mc ms : Nat} {free : Addr → Prop} {A0 A1 : Nat → Prop} {H0 : Heap} {a : Array Value} {ls : Array Slot} {st0 rest : List Value}
variable {Qc : Array Value → State → Outcome → State → Prop} {XC : String → State → State → Prop}
/-- what a body that may throw owes at its end -/
def vx_MQ (below : List Frame) (Qc : Array Value → State → Outcome → State → Prop) (XC : String → State → State → Prop) (a : Array Value) (s : State) (mc ms : Nat) (free : Addr → Prop) : State → Prop := fun t =>
  ∃ o, t.status = .running ∧ Ended t below o ∧ vx_Q Qc XC mc ms free a s o t
theorem vx_ret {g : JFrame} {mc ms : Nat} (k : W p l e R s m args below meth c H locs cells slots (MQ below Qc args s mc ms free) g) : W p l e R s m args below meth c H locs cells slots (vx_MQ below Qc XC args s mc ms free) g := by
  intro T hT X
  obtain ⟨t, a1, o, b1, b2, b3, b4⟩ := k T hT X
  exact ⟨t, a1, o, b1, b2, Or.inl ⟨b3, b4⟩⟩
/-- not caught here: it goes on to the caller -/
theorem vx_widen {g : JFrame} {q : Addr} {k n : Nat} (h1 : cells ≤ k) (h2 : slots ≤ n) (kk : vx_W p l e R s m args below meth c H locs k n Q g q) : vx_W p l e R s m args below meth c H locs cells slots Q g q := fun T hT X => kk T hT (stand_widen X h1 h2)
theorem vx_out {pc : Nat} {E : String} {ce : Cell} {q : Addr} {mc ms : Nat} (hout : ∀ x ∈ c.exceptionTable.toList, covers x pc = false) (hlocks : meth.locks = false) (hcell : H[q]? = some ce) (hv : ce.vm = .none) (hcl : s.vm.findClass E = some ce.cls)
    (hx : ∀ t : State, t.heap = H → s.vm.Alike t.vm → XC E s t) (hf : ∀ z ∈ locs, free z.base) (hc : cells ≤ mc) (hs : slots ≤ ms) :
    vx_W p l e R s m args below meth c H locs cells slots (vx_MQ below Qc XC args s mc ms free) (F0 m pc ls rest) q := by
  intro T hT X
  obtain ⟨st1, hrun, hend, hW, hsm⟩ := X.leaveThrown q (g := F0 m pc ls rest) rfl rfl rfl hout hlocks
  have hcell9 : (T.setFrames (.throwing q :: below)).heap[q]? = some ce := by
    show T.heap[q]? = some ce
    rw [hT]; exact hcell
  exact ⟨_, st1, .threw q, hrun, hend, Or.inr ⟨q, rfl, E, ce, locs, hx _ hT hW.alike, hcell9, hv, hcl, hW, hsm.mono hc hs, hf⟩⟩
theorem vx_frame {U : State} {k n : Nat} (h : s.sameButNew ({ U with vm := s.vm } : State) locs k n) : s.heap.size ≤ U.heap.size ∧ ∀ q : Nat, q < s.heap.size → (∀ z ∈ locs, z.base ≠ q) → U.heap[q]? = s.heap[q]? := by
  obtain ⟨-, h2, -, -, -, h6⟩ := h
  refine ⟨h2, fun q hq hz => ?_⟩
  obtain ⟨c9, e1, e2, e3, e4⟩ := h6 q _ (Array.getElem?_eq_getElem hq)
  have hs : c9.slots = (s.heap[q]).slots := Array.ext_getElem? fun i => e4 i fun hm => hz _ hm rfl
  have h9 : c9 = s.heap[q] := by
    rw [hs] at e2
    exact e2
  have e5 : U.heap[q]? = some c9 := e1
  rw [e5, h9, Array.getElem?_eq_getElem hq]
/-- the words of a throw but the four that speak of the heap -/
def vx_no (w : Cond) : Bool := decide (w ≠ .isRef (.static Bundle.tN "UNASSIGNED_STACK" Bundle.steD)) && decide (w ≠ .isRef (.static Bundle.tN "SUPPRESSED_SENTINEL" Bundle.listD)) && decide (w ≠ .laysStatic Bundle.tN "UNASSIGNED_STACK" Bundle.steD) && decide (w ≠ .laysStatic Bundle.tN "SUPPRESSED_SENTINEL" Bundle.listD)
def vx_at0 (own : String) (ic : Nat) (X : String) (names : List String) : List Cond := (Bundle.ownAtoms0 own ic X names).filter vx_no
def vx_atS (own : String) (ic : Nat) (X : String) (names : List String) : List Cond := (Bundle.ownAtoms own ic X names).filter vx_no
/-- a word that the tables alone decide, or a good one -/
def vx_ot (w : Cond) : Bool := w.onTables || goodWord w
theorem vx_ot_at {args a' : Array Value} {s U : State} {w : Cond} (hW : s.WarmedH U.vm) (hvm : s.vm = U.vm) (hg : vx_ot w = true) (h : w.before args s = true) : w.before a' U = true := by
  simp only [vx_ot, Bool.or_eq_true] at hg
  rcases hg with hg | hg
  · exact va_tabs hg hvm h
  · exact word_at hW (good_of_word hg) h
/-- a list's words: the good ones out of the method's own list, the others by premises of their own -/
theorem vx_hat {args : Array Value} {s : State} {L B : List Cond} (h1 : ∀ w ∈ L.filter goodWord, w.before args s = true) (h2 : ∀ w ∈ L.filter (fun w => !goodWord w), w ∈ B) (h3 : ∀ w ∈ B, w.before args s = true) : ∀ w ∈ L, w.before args s = true := by
  intro w hw
  by_cases g : goodWord w = true
  · exact h1 w (List.mem_filter.mpr ⟨hw, g⟩)
  · refine h3 w (h2 w (List.mem_filter.mpr ⟨hw, ?_⟩))
    show (!goodWord w) = true
    cases hgw : goodWord w
    · rfl
    · exact absurd hgw g
theorem vx_c {args : Array Value} {s : State} {w : Cond} {B : List Cond} (h : w.before args s = true) (t : ∀ w ∈ B, w.before args s = true) : ∀ w' ∈ w :: B, w'.before args s = true := fun w' h' => (List.mem_cons.mp h').elim (fun e => by rw [e]; exact h) (t w')
theorem vx_n {args : Array Value} {s : State} : ∀ w ∈ ([] : List Cond), w.before args s = true := fun _ h => nomatch h
theorem vx_own {args : Array Value} {s : State} {L : List Cond} (h1 : ∀ w ∈ L.filter vx_no, w.before args s = true)
    (hU : (Cond.isRef (.static Bundle.tN "UNASSIGNED_STACK" Bundle.steD)).before args s = true) (hN : (Cond.isRef (.static Bundle.tN "SUPPRESSED_SENTINEL" Bundle.listD)).before args s = true)
    (lU : (Cond.laysStatic Bundle.tN "UNASSIGNED_STACK" Bundle.steD).before args s = true) (lN : (Cond.laysStatic Bundle.tN "SUPPRESSED_SENTINEL" Bundle.listD).before args s = true) : ∀ w ∈ L, w.before args s = true := by
  intro w hw
  by_cases e1 : w = .isRef (.static Bundle.tN "UNASSIGNED_STACK" Bundle.steD)
  · rw [e1]; exact hU
  · by_cases e2 : w = .isRef (.static Bundle.tN "SUPPRESSED_SENTINEL" Bundle.listD)
    · rw [e2]; exact hN
    · by_cases e3 : w = .laysStatic Bundle.tN "UNASSIGNED_STACK" Bundle.steD
      · rw [e3]; exact lU
      · by_cases e4 : w = .laysStatic Bundle.tN "SUPPRESSED_SENTINEL" Bundle.listD
        · rw [e4]; exact lN
        · exact h1 w (List.mem_filter.mpr ⟨hw, by unfold vx_no; rw [decide_eq_true e1, decide_eq_true e2, decide_eq_true e3, decide_eq_true e4]; rfl⟩)
/-- where a static field lies, its class's statics cell in H -/
def vx_L (C n d : String) (A : Nat → Prop) (U : State) (H : Heap) : Prop := ∃ (c : ClassId) (k : Class) (i : Nat) (f : Field) (a : Nat) (cell : Cell), U.vm.findClass C = some c ∧ U.fieldFound? C n d = some (c, k, i, f) ∧ f.isStatic = true ∧ k.statics = some a ∧ H[a]? = some cell ∧ cell.vm.isStatics = true ∧ cell.cls = c ∧ f.slot < cell.slots.size ∧ k.staticTypes[f.slot]? = some f.type ∧ ¬ A a
theorem vx_L.moved {C n d : String} {A : Nat → Prop} {u U : State} {H : Heap} (hvm : u.vm.Alike U.vm) (h : vx_L C n d A u H) : vx_L C n d A U H := by
  obtain ⟨c, k, i, f, a, cell, h1, h2, h3, h4, h5, h6, h7, h8, h9, h10⟩ := h
  obtain ⟨k', hi', he⟩ := State.fieldFound?_setVm hvm h2
  exact ⟨c, k', i, f, a, cell, by rw [hvm.findClass]; exact h1, hi', h3, by rw [he]; exact h4, h5, h6, h7, h8, by rw [he]; exact h9, h10⟩
theorem vx_L.kept {C n d : String} {A : Nat → Prop} {U : State} {H H1 : Heap} (h : vx_L C n d A U H) (hq : ∀ a : Nat, a < H.size → ¬ A a → H1[a]? = H[a]?) : vx_L C n d A U H1 := by
  obtain ⟨c, k, i, f, a, cell, h1, h2, h3, h4, h5, h6, h7, h8, h9, h10⟩ := h
  exact ⟨c, k, i, f, a, cell, h1, h2, h3, h4, by rw [hq a (Array.getElem?_eq_some_iff.mp h5).1 h10]; exact h5, h6, h7, h8, h9, h10⟩
theorem vx_L.narrow {C n d : String} {A B : Nat → Prop} {U : State} {H : Heap} (h : vx_L C n d A U H) (hAB : ∀ q, B q → A q) : vx_L C n d B U H := by
  obtain ⟨c, k, i, f, a, cell, h1, h2, h3, h4, h5, h6, h7, h8, h9, h10⟩ := h
  exact ⟨c, k, i, f, a, cell, h1, h2, h3, h4, h5, h6, h7, h8, h9, fun z => h10 (hAB _ z)⟩
theorem vx_L.word {C n d : String} {A : Nat → Prop} {s : State} {args : Array Value} (h : vx_L C n d A s s.heap) : (Cond.laysStatic C n d).before args s = true := by
  obtain ⟨c, k, i, f, a, cell, h1, h2, h3, h4, h5, h6, h7, h8, h9, -⟩ := h
  show (Cond.laysStatic C n d).holds args s none s [] = true
  exact Cond.laysStatic_of h1 h2 h3 h4 h5 h6 h7 h8 h9
/-- .. and what it holds: null or some reference -/
def vx_Zq (C n d : String) (A : Nat → Prop) (U : State) (H : Heap) : Prop := va_Zq C n d A U H ∧ vx_L C n d A U H
theorem vx_Zq.moved {C n d : String} {A : Nat → Prop} {u U : State} {H : Heap} (hvm : u.vm.Alike U.vm) (h : vx_Zq C n d A u H) : vx_Zq C n d A U H := ⟨va_Zq.moved hvm h.1, vx_L.moved hvm h.2⟩
theorem vx_Zq.kept {C n d : String} {A : Nat → Prop} {U : State} {H H1 : Heap} (h : vx_Zq C n d A U H) (hq : ∀ a : Nat, a < H.size → ¬ A a → H1[a]? = H[a]?) : vx_Zq C n d A U H1 := ⟨va_Zq.kept h.1 hq, vx_L.kept h.2 hq⟩
theorem vx_Zq.narrow {C n d : String} {A B : Nat → Prop} {U : State} {H : Heap} (h : vx_Zq C n d A U H) (hAB : ∀ q, B q → A q) : vx_Zq C n d B U H := ⟨va_Zq.narrow h.1 hAB, vx_L.narrow h.2 hAB⟩
theorem vx_Zqof {args : Array Value} {s : State} {C n d : String} {A : Nat → Prop} (hl : (Cond.laysStatic C n d).before args s = true) (hini : (Cond.initialized C).before args s = true) (h : (Cond.isRef (.static C n d)).before args s = true) (hA : ∀ a : Nat, a < s.heap.size → ¬ A a) : vx_Zq C n d A s s.heap := by
  refine ⟨va_Zqof hl hini h hA, ?_⟩
  obtain ⟨c, k, i, f, a, cell, h1, h2, h3, h4, h5, h6, h7, h8, h9⟩ := Cond.laysStatic_spec hl
  exact ⟨c, k, i, f, a, cell, h1, h2, h3, h4, h5, h6, h7, h8, h9, hA a (Array.getElem?_eq_some_iff.mp h5).1⟩
theorem vx_isRef {C n d : String} {v : Value} {A : Nat → Prop} {s : State} {args : Array Value} (h : va_Z C n d v A s s.heap) (hv : v.isRef = true) : (Cond.isRef (.static C n d)).before args s = true := by
  obtain ⟨cf, kf, fi, f, a, cell, h1, h2, h3, h4, h5, h6, h7, -⟩ := h
  have he : (Term.static C n d).eval args s none [] s = some v := by
    simp [Term.eval, State.fieldNamed?, h1, h2, h4, h5, h6, h7]
  simp only [Cond.before, Cond.holds, Cond.value, he]
  cases v <;> simp_all [Value.isRef]
theorem vx_isRefq {C n d : String} {A : Nat → Prop} {s : State} {args : Array Value} (h : va_Zq C n d A s s.heap) : (Cond.isRef (.static C n d)).before args s = true := by
  rcases h with h | ⟨t, h⟩
  · exact vx_isRef h rfl
  · exact vx_isRef h rfl
/-- the same frame, seen from here: as if the method were called anew in this heap -/
theorem vx_rebase {T : State} (X : Stand p l e R s m args below meth c T locs cells slots) {R' : Room} (hf : R'.frames ≤ R.frames) (hl : R'.locals ≤ R.locals) (hc : cells + R'.cells ≤ R.cells) (hs : slots + R'.slots ≤ R.slots) :
    Stand p l e R' ((T.setVm s.vm).setFrames (.invoking m args :: below)) m args below meth c T [] 0 0 := by
  have htop : (T.setVm s.vm).topJava?.isSome := X.here.top
  have hF : ((T.setVm s.vm).setFrames (.invoking m args :: below)).frames = .invoking m args :: below := State.frames_setFrames _ (State.cur_lt_of_top htop)
  obtain ⟨g₀, hg0⟩ := Option.isSome_iff_exists.mp htop
  obtain ⟨r, hr⟩ := State.topJava?_eq_some.mp hg0
  have hl9 : e.platform.stackLimits (T.setVm s.vm).me = e.platform.stackLimits s.me := X.limits
  have hb9 : (T.setVm s.vm).me.stackBytes = s.me.stackBytes := X.bytes
  refine ⟨X.admits, X.cas, X.clock, hF, ?_, X.hears, X.method, X.code, X.here, X.tail, X.warmed, ?_, ?_, ?_⟩
  · have h := X.room
    have hU : ((T.setVm s.vm).setFrames (.invoking m args :: below)).localsInUse = s.localsInUse := by
      rw [State.localsInUse_invoking hF (meth := meth) (c := c) X.method X.code, State.localsInUse_invoking X.frames X.method X.code]
    simp only [State.hasRoom, Bool.and_eq_true, decide_eq_true_eq] at h ⊢
    obtain ⟨⟨⟨⟨h1, h2, h3, h4, h5, h6⟩, h7⟩, h8⟩, h9⟩ := h
    rw [X.frames, List.length_cons] at h2 h3
    have q1 := X.heapSize
    have q2 := X.used
    simp only [hF, hU, List.length_cons, State.stackLimits_setFrames, State.stackBytes_setFrames, hl9, hb9]
    refine ⟨⟨⟨⟨by omega, by omega, by omega, by omega, by omega, h6⟩, ?_⟩, ?_⟩, X.book⟩
    · show T.heap.size + R'.cells ≤ e.platform.maxCells
      omega
    · show T.slotsUsed + R'.slots ≤ e.platform.maxSlots
      omega
  · rw [State.stackLimits_setFrames]; rfl
  · rw [State.stackBytes_setFrames]; rfl
  · refine ⟨?_, Nat.le_refl _, Nat.le_refl _, ?_, ?_, fun a c9 h9 => ⟨c9, h9, rfl, rfl, fun _ _ => rfl⟩⟩
    · obtain ⟨t, ht, -⟩ := State.frames_cons hr
      show T.setVm s.vm = { ((T.setVm s.vm).setFrames (.invoking m args :: below)).setFrames (T.setVm s.vm).frames with heap := T.heap, slotsUsed := T.slotsUsed }
      rw [State.setFrames_setFrames, State.setFrames_self ht]
      rfl
    · show T.slotsUsed = T.slotsUsed + ((T.heap.toList.drop T.heap.size).map (·.slots.size)).sum
      rw [List.drop_eq_nil_of_le (Nat.le_of_eq Array.length_toList)]
      rfl
    · show ((T.heap.toList.drop T.heap.size).map (·.slots.size)).sum ≤ 0
      rw [List.drop_eq_nil_of_le (Nat.le_of_eq Array.length_toList)]
      exact Nat.le_refl _
/-- 'throw new E()': new; dup; invokespecial; athrow -/
theorem vx_throw0 {cc : ByteArray} {pc : Nat} (hexec : p.tables.exec = Jvm.exec) (hb : c.code = cc) (hl : l.stackTraces = false) {own cls : String} {names : List String} {ik ic mc ms : Nat} {A : Nat → Prop}
    (hown : s.vm.findClass own = some m.cls) (hcls : Bundle.fit cls = true) (hnames : ∀ n ∈ names, Bundle.fit n = true)
    (hk : (Cond.classLink own ik cls).before args s = true) (hini : (Cond.initialized cls).before args s = true) (hat : ∀ w ∈ vx_at0 own ic cls names, w.before args s = true)
    (hgood : ∀ w ∈ Cond.classLink own ik cls :: Cond.initialized cls :: vx_at0 own ic cls names, vx_ot w = true)
    (hU : vx_Zq Bundle.tN "UNASSIGNED_STACK" Bundle.steD A s s.heap) (hN : vx_Zq Bundle.tN "SUPPRESSED_SENTINEL" Bundle.listD A s s.heap) (hS : va_S A s.heap H locs) (hsize : ls.size = c.maxLocals)
    (d0 : decode cc pc = .ok (.new ik, 3)) (d3 : decode cc (pc + 3) = .ok (.dup, 1)) (d4 : decode cc (pc + 4) = .ok (.invokespecial ic, 3)) (d7 : decode cc (pc + 7) = .ok (.athrow, 1))
    (hout : ∀ x ∈ c.exceptionTable.toList, covers x (pc + 7) = false)
    (hRframes : names.length + 3 < R.frames) (hRlocals : (rest.map fun v => v.category).sum + (13 * (names.length + 1) + 42) ≤ R.locals) (hRcells : cells + 1 ≤ R.cells) (hRslots : slots + 6 ≤ R.slots) (hlocks : meth.locks = false)
    (hx : ∀ t : State, s.vm.Alike t.vm → H.size ≤ t.heap.size → (∀ q : Nat, q < H.size → t.heap[q]? = H[q]?) → XC cls s t)
    (hf : ∀ z ∈ locs, free z.base) (hc : cells + 1 ≤ mc) (hs : slots + 6 ≤ ms) :
    W p l e R s m args below meth c H locs cells slots (vx_MQ below Qc XC args s mc ms free) (F0 m pc ls rest) := by
  intro T hT X
  have htr : e.platform.stackTraces = false := (show e.platform.stackTraces = l.stackTraces by rw [X.admits.platform]).trans hl
  have Y := vx_rebase X (R' := { frames := R.frames, locals := R.locals, cells := 1, slots := 6 }) (Nat.le_refl _) (Nat.le_refl _) hRcells hRslots
  obtain ⟨s', hA⟩ : ∃ z, z = (T.setVm s.vm).setFrames (.invoking m args :: below) := ⟨_, rfl⟩
  rw [← hA] at Y
  have hvm : s'.vm = s.vm := by rw [hA]; rfl
  have hhp : s'.heap = H := by rw [hA]; exact hT
  have hW0 : s.WarmedH s'.vm := by rw [hvm]; exact State.WarmedH.refl s
  have hat' : ∀ w ∈ vx_at0 own ic cls names, w.before args s' = true := fun w hw => vx_ot_at hW0 hvm.symm (hgood w (List.mem_cons_of_mem _ (List.mem_cons_of_mem _ hw))) (hat w hw)
  have hk' : (Cond.classLink own ik cls).before args s' = true := vx_ot_at hW0 hvm.symm (hgood _ List.mem_cons_self) hk
  have hini' : (Cond.initialized cls).before args s' = true := vx_ot_at hW0 hvm.symm (hgood _ (List.mem_cons_of_mem _ List.mem_cons_self)) hini
  have hU' : vx_Zq Bundle.tN "UNASSIGNED_STACK" Bundle.steD A s' s'.heap := by rw [hhp]; exact vx_Zq.moved hW0.alike (hU.kept hS.2.1)
  have hN' : vx_Zq Bundle.tN "SUPPRESSED_SENTINEL" Bundle.listD A s' s'.heap := by rw [hhp]; exact vx_Zq.moved hW0.alike (hN.kept hS.2.1)
  have h : ∀ w ∈ Bundle.ownAtoms0 own ic cls names, w.before args s' = true := vx_own hat' (vx_isRefq hU'.1) (vx_isRefq hN'.1) hU'.2.word hN'.2.word
  have hown' : s'.vm.findClass own = some m.cls := by rw [hvm]; exact hown
  have hins : (Cond.instantiable cls 6).before args s' = true := h _ (by simp [Bundle.ownAtoms0])
  obtain ⟨vm₁, cX, kX, hfX, hkX, -, -, X₁, st1⟩ := Y.newCold hexec (own := own) (C := cls) (index := ik) (n := 6) hown' hk' hins hini'
    (g := F0 m pc ls rest) rfl (by rw [hb]; exact d0) (Nat.le_refl _) (Nat.le_refl _)
  generalize hT1 : (T.setVm vm₁).pushCell { cls := cX, slots := kX.instanceTypes.map defaultValue, vm := .none } = T1 at X₁ st1
  have hcat : (Value.ref T.heap.size).category = 1 := rfl
  have hcellA : T1.heap[T.heap.size]? = some (freshCell cX kX) := by rw [← hT1]; exact State.heap_pushCell_size _ _
  have d3' : decode c.code (pc + 3) = .ok (.dup, 1) := by rw [hb]; exact d3
  obtain ⟨U, hsteps, hrun, hend, hW, hsame, ce, hce, hO⟩ := X₁.ctorThrow0 hexec htr (own := own) (cls := cls) (names := names) (ic := ic) hown' hcls hnames h (fun x hx => nomatch hx) hfX hkX hcellA (by rw [hhp, hT]; exact Nat.le_refl _)
    (g := { method := m, pc := pc + 4, locals := ls, stack := .ref T.heap.size :: .ref T.heap.size :: rest, locked := none }) rfl hsize rfl rfl (rest := rest) rfl
    (by rw [hb]; exact d4) (by rw [hb]; exact d7) hout hRframes (by simp only [List.map_cons, List.sum_cons, hcat]; omega) hlocks
  obtain ⟨f1, f2⟩ := vx_frame hsame
  rw [hhp] at f1 f2
  have hWs : s.WarmedH U.vm := State.WarmedH.trans hW0 hW
  have hcl : s.vm.findClass cls = some ce.cls := by
    have h9 := hO.cls
    rw [hvm] at h9
    exact h9
  have hall : s.sameButNew ({ U with vm := s.vm } : State) locs mc ms := by
    subst hA
    obtain ⟨e1, e2⟩ := hsame
    rw [State.setFrames_setFrames] at e1
    have h2 : (T.setVm s.vm).sameButNew ({ U with vm := s.vm } : State) [] (0 + 1) (0 + 6) := ⟨e1, e2⟩
    have h3 := X.same.trans h2
    rw [List.append_nil] at h3
    exact h3.mono hc hs
  refine ⟨U, ?_, .threw T.heap.size, hrun, hend, Or.inr ⟨T.heap.size, rfl, cls, ce, locs, hx U hWs.alike f1 (fun q hq => f2 q hq (fun z hz => nomatch hz)), hce, hO.vm, hcl, hWs, hall, hf⟩⟩
  refine st1 _ ?_
  show Steps p.tables e below (T1.setTop { method := m, pc := pc + 3, locals := ls, stack := .ref T.heap.size :: rest, locked := none }) _
  jvm_step X₁.here [X₁.here.top, hexec, d3', Value.category]
  exact hsteps
/-- 'throw new E("text")': new; dup; ldc; invokespecial; athrow -/
theorem vx_throwS {cc : ByteArray} {pc : Nat} (hexec : p.tables.exec = Jvm.exec) (hb : c.code = cc) (hl : l.stackTraces = false) {own cls text : String} {names : List String} {ik is ic mc ms sa : Nat} {A : Nat → Prop}
    (hown : s.vm.findClass own = some m.cls) (hcls : Bundle.fit cls = true) (hnames : ∀ n ∈ names, Bundle.fit n = true)
    (hk : (Cond.classLink own ik cls).before args s = true) (hini : (Cond.initialized cls).before args s = true) (hstr : vk_R own is text sa s) (hat : ∀ w ∈ vx_atS own ic cls names, w.before args s = true)
    (hgood : ∀ w ∈ Cond.classLink own ik cls :: Cond.initialized cls :: vx_atS own ic cls names, vx_ot w = true)
    (hU : vx_Zq Bundle.tN "UNASSIGNED_STACK" Bundle.steD A s s.heap) (hN : vx_Zq Bundle.tN "SUPPRESSED_SENTINEL" Bundle.listD A s s.heap) (hS : va_S A s.heap H locs) (hsize : ls.size = c.maxLocals)
    (d0 : decode cc pc = .ok (.new ik, 3)) (d3 : decode cc (pc + 3) = .ok (.dup, 1)) (d4 : decode cc (pc + 4) = .ok (.ldc is, 2)) (d6 : decode cc (pc + 6) = .ok (.invokespecial ic, 3)) (d9 : decode cc (pc + 9) = .ok (.athrow, 1))
    (hout : ∀ x ∈ c.exceptionTable.toList, covers x (pc + 9) = false)
    (hRframes : names.length + 3 < R.frames) (hRlocals : (rest.map fun v => v.category).sum + (13 * (names.length + 1) + 43) ≤ R.locals) (hRcells : cells + 1 ≤ R.cells) (hRslots : slots + 6 ≤ R.slots) (hlocks : meth.locks = false)
    (hx : ∀ t : State, s.vm.Alike t.vm → H.size ≤ t.heap.size → (∀ q : Nat, q < H.size → t.heap[q]? = H[q]?) → XC cls s t)
    (hf : ∀ z ∈ locs, free z.base) (hc : cells + 1 ≤ mc) (hs : slots + 6 ≤ ms) :
    W p l e R s m args below meth c H locs cells slots (vx_MQ below Qc XC args s mc ms free) (F0 m pc ls rest) := by
  intro T hT X
  have htr : e.platform.stackTraces = false := (show e.platform.stackTraces = l.stackTraces by rw [X.admits.platform]).trans hl
  have Y := vx_rebase X (R' := { frames := R.frames, locals := R.locals, cells := 1, slots := 6 }) (Nat.le_refl _) (Nat.le_refl _) hRcells hRslots
  obtain ⟨s', hA⟩ : ∃ z, z = (T.setVm s.vm).setFrames (.invoking m args :: below) := ⟨_, rfl⟩
  rw [← hA] at Y
  have hvm : s'.vm = s.vm := by rw [hA]; rfl
  have hhp : s'.heap = H := by rw [hA]; exact hT
  have hW0 : s.WarmedH s'.vm := by rw [hvm]; exact State.WarmedH.refl s
  have hat' : ∀ w ∈ vx_atS own ic cls names, w.before args s' = true := fun w hw => vx_ot_at hW0 hvm.symm (hgood w (List.mem_cons_of_mem _ (List.mem_cons_of_mem _ hw))) (hat w hw)
  have hk' : (Cond.classLink own ik cls).before args s' = true := vx_ot_at hW0 hvm.symm (hgood _ List.mem_cons_self) hk
  have hini' : (Cond.initialized cls).before args s' = true := vx_ot_at hW0 hvm.symm (hgood _ (List.mem_cons_of_mem _ List.mem_cons_self)) hini
  have hU' : vx_Zq Bundle.tN "UNASSIGNED_STACK" Bundle.steD A s' s'.heap := by rw [hhp]; exact vx_Zq.moved hW0.alike (hU.kept hS.2.1)
  have hN' : vx_Zq Bundle.tN "SUPPRESSED_SENTINEL" Bundle.listD A s' s'.heap := by rw [hhp]; exact vx_Zq.moved hW0.alike (hN.kept hS.2.1)
  have h : ∀ w ∈ Bundle.ownAtoms own ic cls names, w.before args s' = true := vx_own hat' (vx_isRefq hU'.1) (vx_isRefq hN'.1) hU'.2.word hN'.2.word
  have hown' : s'.vm.findClass own = some m.cls := by rw [hvm]; exact hown
  have hins : (Cond.instantiable cls 6).before args s' = true := h _ (by simp [Bundle.ownAtoms])
  obtain ⟨vm₁, cX, kX, hfX, hkX, -, -, X₁, st1⟩ := Y.newCold hexec (own := own) (C := cls) (index := ik) (n := 6) hown' hk' hins hini'
    (g := F0 m pc ls rest) rfl (by rw [hb]; exact d0) (Nat.le_refl _) (Nat.le_refl _)
  generalize hT1 : (T.setVm vm₁).pushCell { cls := cX, slots := kX.instanceTypes.map defaultValue, vm := .none } = T1 at X₁ st1
  have hcat : (Value.ref T.heap.size).category = 1 := rfl
  have hcellA : T1.heap[T.heap.size]? = some (freshCell cX kX) := by rw [← hT1]; exact State.heap_pushCell_size _ _
  have d3' : decode c.code (pc + 3) = .ok (.dup, 1) := by rw [hb]; exact d3
  have d4' : decode c.code (pc + 4) = .ok (.ldc is, 2) := by rw [hb]; exact d4
  have hstr' : vk_R own is text sa s' := vk_R.warm hW0 hstr
  obtain ⟨U, hsteps, hrun, hend, hW, hsame, ce, hce, hO⟩ := X₁.ctorThrowS hexec htr (own := own) (cls := cls) (names := names) (ic := ic) hown' hcls hnames h (fun x hx => nomatch hx) hfX hkX hcellA (by rw [hhp, hT]; exact Nat.le_refl _) (msg := .ref sa) rfl
    (g := { method := m, pc := pc + 6, locals := ls, stack := .ref sa :: .ref T.heap.size :: .ref T.heap.size :: rest, locked := none }) rfl hsize rfl rfl (rest := rest) rfl
    (by rw [hb]; exact d6) (by rw [hb]; exact d9) hout hRframes (by simp only [List.map_cons, List.sum_cons, hcat]; omega) hlocks
  obtain ⟨f1, f2⟩ := vx_frame hsame
  rw [hhp] at f1 f2
  have hWs : s.WarmedH U.vm := State.WarmedH.trans hW0 hW
  have hcl : s.vm.findClass cls = some ce.cls := by
    have h9 := hO.cls
    rw [hvm] at h9
    exact h9
  have hall : s.sameButNew ({ U with vm := s.vm } : State) locs mc ms := by
    subst hA
    obtain ⟨e1, e2⟩ := hsame
    rw [State.setFrames_setFrames] at e1
    have h2 : (T.setVm s.vm).sameButNew ({ U with vm := s.vm } : State) [] (0 + 1) (0 + 6) := ⟨e1, e2⟩
    have h3 := X.same.trans h2
    rw [List.append_nil] at h3
    exact h3.mono hc hs
  refine ⟨U, ?_, .threw T.heap.size, hrun, hend, Or.inr ⟨T.heap.size, rfl, cls, ce, locs, hx U hWs.alike f1 (fun q hq => f2 q hq (fun z hz => nomatch hz)), hce, hO.vm, hcl, hWs, hall, hf⟩⟩
  refine st1 _ ?_
  show Steps p.tables e below (T1.setTop { method := m, pc := pc + 3, locals := ls, stack := .ref T.heap.size :: rest, locked := none }) _
  jvm_step X₁.here [X₁.here.top, hexec, d3', Value.category]
  exact X₁.ldcString hexec (own := own) (text := text) (index := is) (a := sa) hown' hstr'.1 hstr'.2
    (g := { method := m, pc := pc + 4, locals := ls, stack := .ref T.heap.size :: .ref T.heap.size :: rest, locked := none }) rfl d4' _ hsteps
/-- 'throw new E("text")', the text by a wide index -/
theorem vx_throwSW {cc : ByteArray} {pc : Nat} (hexec : p.tables.exec = Jvm.exec) (hb : c.code = cc) (hl : l.stackTraces = false) {own cls text : String} {names : List String} {ik is ic mc ms sa : Nat} {A : Nat → Prop}
    (hown : s.vm.findClass own = some m.cls) (hcls : Bundle.fit cls = true) (hnames : ∀ n ∈ names, Bundle.fit n = true)
    (hk : (Cond.classLink own ik cls).before args s = true) (hini : (Cond.initialized cls).before args s = true) (hstr : vk_R own is text sa s) (hat : ∀ w ∈ vx_atS own ic cls names, w.before args s = true)
    (hgood : ∀ w ∈ Cond.classLink own ik cls :: Cond.initialized cls :: vx_atS own ic cls names, vx_ot w = true)
    (hU : vx_Zq Bundle.tN "UNASSIGNED_STACK" Bundle.steD A s s.heap) (hN : vx_Zq Bundle.tN "SUPPRESSED_SENTINEL" Bundle.listD A s s.heap) (hS : va_S A s.heap H locs) (hsize : ls.size = c.maxLocals)
    (d0 : decode cc pc = .ok (.new ik, 3)) (d3 : decode cc (pc + 3) = .ok (.dup, 1)) (d4 : decode cc (pc + 4) = .ok (.ldc_w is, 3)) (d7 : decode cc (pc + 7) = .ok (.invokespecial ic, 3)) (d10 : decode cc (pc + 10) = .ok (.athrow, 1))
    (hout : ∀ x ∈ c.exceptionTable.toList, covers x (pc + 10) = false)
    (hRframes : names.length + 3 < R.frames) (hRlocals : (rest.map fun v => v.category).sum + (13 * (names.length + 1) + 43) ≤ R.locals) (hRcells : cells + 1 ≤ R.cells) (hRslots : slots + 6 ≤ R.slots) (hlocks : meth.locks = false)
    (hx : ∀ t : State, s.vm.Alike t.vm → H.size ≤ t.heap.size → (∀ q : Nat, q < H.size → t.heap[q]? = H[q]?) → XC cls s t)
    (hf : ∀ z ∈ locs, free z.base) (hc : cells + 1 ≤ mc) (hs : slots + 6 ≤ ms) :
    W p l e R s m args below meth c H locs cells slots (vx_MQ below Qc XC args s mc ms free) (F0 m pc ls rest) := by
  intro T hT X
  have htr : e.platform.stackTraces = false := (show e.platform.stackTraces = l.stackTraces by rw [X.admits.platform]).trans hl
  have Y := vx_rebase X (R' := { frames := R.frames, locals := R.locals, cells := 1, slots := 6 }) (Nat.le_refl _) (Nat.le_refl _) hRcells hRslots
  obtain ⟨s', hA⟩ : ∃ z, z = (T.setVm s.vm).setFrames (.invoking m args :: below) := ⟨_, rfl⟩
  rw [← hA] at Y
  have hvm : s'.vm = s.vm := by rw [hA]; rfl
  have hhp : s'.heap = H := by rw [hA]; exact hT
  have hW0 : s.WarmedH s'.vm := by rw [hvm]; exact State.WarmedH.refl s
  have hat' : ∀ w ∈ vx_atS own ic cls names, w.before args s' = true := fun w hw => vx_ot_at hW0 hvm.symm (hgood w (List.mem_cons_of_mem _ (List.mem_cons_of_mem _ hw))) (hat w hw)
  have hk' : (Cond.classLink own ik cls).before args s' = true := vx_ot_at hW0 hvm.symm (hgood _ List.mem_cons_self) hk
  have hini' : (Cond.initialized cls).before args s' = true := vx_ot_at hW0 hvm.symm (hgood _ (List.mem_cons_of_mem _ List.mem_cons_self)) hini
  have hU' : vx_Zq Bundle.tN "UNASSIGNED_STACK" Bundle.steD A s' s'.heap := by rw [hhp]; exact vx_Zq.moved hW0.alike (hU.kept hS.2.1)
  have hN' : vx_Zq Bundle.tN "SUPPRESSED_SENTINEL" Bundle.listD A s' s'.heap := by rw [hhp]; exact vx_Zq.moved hW0.alike (hN.kept hS.2.1)
  have h : ∀ w ∈ Bundle.ownAtoms own ic cls names, w.before args s' = true := vx_own hat' (vx_isRefq hU'.1) (vx_isRefq hN'.1) hU'.2.word hN'.2.word
  have hown' : s'.vm.findClass own = some m.cls := by rw [hvm]; exact hown
  have hins : (Cond.instantiable cls 6).before args s' = true := h _ (by simp [Bundle.ownAtoms])
  obtain ⟨vm₁, cX, kX, hfX, hkX, -, -, X₁, st1⟩ := Y.newCold hexec (own := own) (C := cls) (index := ik) (n := 6) hown' hk' hins hini'
    (g := F0 m pc ls rest) rfl (by rw [hb]; exact d0) (Nat.le_refl _) (Nat.le_refl _)
  generalize hT1 : (T.setVm vm₁).pushCell { cls := cX, slots := kX.instanceTypes.map defaultValue, vm := .none } = T1 at X₁ st1
  have hcat : (Value.ref T.heap.size).category = 1 := rfl
  have hcellA : T1.heap[T.heap.size]? = some (freshCell cX kX) := by rw [← hT1]; exact State.heap_pushCell_size _ _
  have d3' : decode c.code (pc + 3) = .ok (.dup, 1) := by rw [hb]; exact d3
  have d4' : decode c.code (pc + 4) = .ok (.ldc_w is, 3) := by rw [hb]; exact d4
  have hstr' : vk_R own is text sa s' := vk_R.warm hW0 hstr
  obtain ⟨U, hsteps, hrun, hend, hW, hsame, ce, hce, hO⟩ := X₁.ctorThrowS hexec htr (own := own) (cls := cls) (names := names) (ic := ic) hown' hcls hnames h (fun x hx => nomatch hx) hfX hkX hcellA (by rw [hhp, hT]; exact Nat.le_refl _) (msg := .ref sa) rfl
    (g := { method := m, pc := pc + 7, locals := ls, stack := .ref sa :: .ref T.heap.size :: .ref T.heap.size :: rest, locked := none }) rfl hsize rfl rfl (rest := rest) rfl
    (by rw [hb]; exact d7) (by rw [hb]; exact d10) hout hRframes (by simp only [List.map_cons, List.sum_cons, hcat]; omega) hlocks
  obtain ⟨f1, f2⟩ := vx_frame hsame
  rw [hhp] at f1 f2
  have hWs : s.WarmedH U.vm := State.WarmedH.trans hW0 hW
  have hcl : s.vm.findClass cls = some ce.cls := by
    have h9 := hO.cls
    rw [hvm] at h9
    exact h9
  have hall : s.sameButNew ({ U with vm := s.vm } : State) locs mc ms := by
    subst hA
    obtain ⟨e1, e2⟩ := hsame
    rw [State.setFrames_setFrames] at e1
    have h2 : (T.setVm s.vm).sameButNew ({ U with vm := s.vm } : State) [] (0 + 1) (0 + 6) := ⟨e1, e2⟩
    have h3 := X.same.trans h2
    rw [List.append_nil] at h3
    exact h3.mono hc hs
  refine ⟨U, ?_, .threw T.heap.size, hrun, hend, Or.inr ⟨T.heap.size, rfl, cls, ce, locs, hx U hWs.alike f1 (fun q hq => f2 q hq (fun z hz => nomatch hz)), hce, hO.vm, hcl, hWs, hall, hf⟩⟩
  refine st1 _ ?_
  show Steps p.tables e below (T1.setTop { method := m, pc := pc + 3, locals := ls, stack := .ref T.heap.size :: rest, locked := none }) _
  jvm_step X₁.here [X₁.here.top, hexec, d3', Value.category]
  exact X₁.ldcStringW hexec (own := own) (text := text) (index := is) (a := sa) hown' hstr'.1 hstr'.2
    (g := { method := m, pc := pc + 4, locals := ls, stack := .ref T.heap.size :: .ref T.heap.size :: rest, locked := none }) rfl d4' _ hsteps
end Ends
section Bodies
variable {l : Launch}
theorem vx_ofW {y : MethodName} {ws ws' : List Cond} {rm : Room} {Pc : Array Value → State → Prop} {Qc : Array Value → State → Outcome → State → Prop} {XC : String → State → State → Prop} {mc ms : Nat} {free : Addr → Prop} {cc : ByteArray} {maxL : Nat} {ret : Option FieldType}
    (hy : plainName y.cls = true) (hw : ws = Cond.code y cc maxL ret :: ws')
    (body : ∀ p e s m args below meth c s₁, BodyLoose p l y (headSpec ws rm) cc maxL ret e s m args below meth c s₁ → c.maxLocals = maxL → (∀ x ∈ c.exceptionTable.toList, False) → Pc args s →
      W p l e (headSpec ws rm).room s m args below meth c s.heap [] 0 0 (vx_MQ below Qc XC args s mc ms free) (entryFrame m args maxL)) : vx_Met l y ws rm Pc Qc XC mc ms free := by
  refine MetFree.of_bodyS (code := cc) (maxLocals := maxL) (ret := ret) hy ?_ ?_
  · intro args s m h hn
    obtain ⟨meth, c, h1, h2, h3, h4, h5, h6, -, -⟩ := Cond.code_spec hn (atoms_spec (ws := ws) h _ (by rw [hw]; exact List.mem_cons_self))
    exact ⟨meth, c, h1, h2, h3, h4, h5, h6⟩
  · intro p e s m args below meth c s₁ B hml hP _
    have hh0 : s₁.heap = s.heap := by rw [B.state]; rfl
    have ht : ∀ x ∈ c.exceptionTable.toList, False := by
      obtain ⟨meth9, c9, h1, h2, -, -, -, -, h7, -⟩ := Cond.code_spec B.named (atoms_spec (ws := ws) B.pre _ (by rw [hw]; exact List.mem_cons_self))
      cases Option.some.inj (h1.symm.trans B.method)
      cases Option.some.inj (h2.symm.trans (Stand.of_body B).code)
      intro x hx
      rw [Array.isEmpty_iff.mp h7] at hx
      cases hx
    obtain ⟨t, a1, o, b1, b2, b3⟩ := body p e s m args below meth c s₁ B hml ht hP s₁ hh0 (Stand.of_body B)
    exact ⟨t, o, a1, b1, b2, b3⟩
/-- the table of a body with handlers -/
theorem vx_table {p : Program} {x y : MethodName} {S : Spec} {cc bytes : ByteArray} {maxL maxL' : Nat} {ret ret' : Option FieldType} {e : Env} {s s₁ : State} {m : MethodId} {args : Array Value} {below : List Frame} {meth : Method} {c : Code} {hh : List (Nat × Nat × Nat × Nat)}
    (B : BodyLoose p l y S cc maxL ret e s m args below meth c s₁) (h : (Cond.codeWith y bytes maxL' ret' hh).before args s = true) : c.exceptionTable.toList = tableOf hh := by
  obtain ⟨m9, meth9, c9, hn9, h1, h2, -, -, h6, -⟩ := Cond.codeWith_spec h
  cases Option.some.inj (hn9.symm.trans B.named)
  cases Option.some.inj (h1.symm.trans B.method)
  cases Option.some.inj (h2.symm.trans (Stand.of_body B).code)
  rw [← h6, table_eq]
end Bodies
end VXA
/-! ===== END ===== -/
/-! ===== BEGIN a static call of a method with an exception table ===== -/
section VXS
variable {p : Program} {l : Launch} {e : Env} {R : Room} {s : State} {m : MethodId} {args : Array Value} {below : List Frame} {meth : Method} {c : Code} {T : State} {H : Heap} {locs : List Loc} {cells slots : Nat}
abbrev vx_CSW (R : Room) (s : State) (args : Array Value) (own : String) (index : Nat) (y : MethodName) (bytes : ByteArray) (maxL : Nat) (ret : Option FieldType) (hh : List (Nat × Nat × Nat × Nat)) (ws : List Cond) (rm : Room) (mc ms n : Nat) : Prop :=
  (rm.cells = mc ∧ rm.slots = ms ∧ rm.frames + 1 ≤ R.frames ∧ 8 + (maxL + 11) + rm.locals ≤ R.locals ∧ (∀ w ∈ ws, ∀ (a' : Array Value) (U : State), s.WarmedH U.vm → w.before a' U = true) ∧ Cond.codeWith y bytes maxL ret hh ∈ ws) ∧
  (Cond.codeWith y bytes maxL ret hh).before args s = true ∧ (Cond.initialized y.cls).before args s = true ∧ (y.cls ≠ "java/lang/invoke/MethodHandle" ∧ y.cls ≠ "java/lang/invoke/VarHandle") ∧
  (∀ sig, parseMethodDescriptor y.desc = some sig → n = sig.parameters.length) ∧ (Cond.methodLink own index y).before args s = true ∧ (Cond.static y).before args s = true
theorem vx_cwSW {own : String} {index maxL mc ms : Nat} {y : MethodName} {bytes : ByteArray} {ret : Option FieldType} {hh : List (Nat × Nat × Nat × Nat)} {Ts ws ws' : List Cond} {rm : Room} (n : Nat) (ht : ∀ w ∈ Ts, w.before args s = true) (hT : GoodIn Ts (va_wsS own index y ws)) (hw : ws = Cond.codeWith y bytes maxL ret hh :: ws') (hrc : rm.cells = mc) (hrs : rm.slots = ms)
    (hd : y.cls ≠ "java/lang/invoke/MethodHandle" ∧ y.cls ≠ "java/lang/invoke/VarHandle" ∧ (parseMethodDescriptor y.desc).map (fun d => d.parameters.length) = some n) (hR : rm.frames + 1 ≤ R.frames ∧ 8 + (maxL + 11) + rm.locals ≤ R.locals) :
    vx_CSW R s args own index y bytes maxL ret hh ws rm mc ms n := by
  have ok : ∀ w ∈ va_wsS own index y ws, w.before args s = true := fun w h => ht w (hT w h).1
  have hG : GoodIn Ts ws := fun w h => hT w (by unfold va_wsS; exact List.mem_append_right _ h)
  have hc : Cond.codeWith y bytes maxL ret hh ∈ ws := by rw [hw]; exact List.mem_cons_self
  refine ⟨⟨hrc, hrs, hR.1, hR.2, pay_in ht hG, hc⟩, ht _ (hG _ hc).1, ok _ (by simp [va_wsS]), ⟨hd.1, hd.2.1⟩, fun sig h => ?_, ok _ (by simp [va_wsS]), ok _ (by simp [va_wsS])⟩
  have h2 := hd.2.2
  rw [h] at h2
  exact (Option.some.inj h2).symm
theorem vx_callSW (X : Stand p l e R s m args below meth c T locs cells slots) (hexec : p.tables.exec = Jvm.exec) {own : String} {index : Nat} {y : MethodName} {bytes : ByteArray} {maxL : Nat} {ret : Option FieldType} {hh : List (Nat × Nat × Nat × Nat)}
    (hown : s.vm.findClass own = some m.cls) (hlink : (Cond.methodLink own index y).before args s = true) (hstat : (Cond.static y).before args s = true) (hinit : (Cond.initialized y.cls).before args s = true)
    (hcode : (Cond.codeWith y bytes maxL ret hh).before args s = true) (hy : y.cls ≠ "java/lang/invoke/MethodHandle" ∧ y.cls ≠ "java/lang/invoke/VarHandle")
    {W9 : Nat} {Pre : Pt → Array Value → Prop} {Post : Pt → Array Value → Option Value → Pt → Prop} (hK : Back l R p e below s args y 3 W9 Pre Post)
    {g : JFrame} (hg : g.method = m) (hsize : g.locals.size = c.maxLocals) {argsL rest : List Value} (hlen : ∀ sig, parseMethodDescriptor y.desc = some sig → argsL.length = sig.parameters.length)
    (hstack : g.stack = argsL.reverse ++ rest) (hW : 2 * g.monitorRoom + (rest.map fun v => v.category).sum ≤ W9) (hdg : decode c.code g.pc = .ok (.invokestatic index, 3))
    (hpre : ∀ vm₁, s.WarmedH vm₁ → Pre ⟨T.setVm vm₁, locs, cells, slots⟩ argsL.toArray) :
    ∃ (v : Option Value) (vm₁ : Vm) (B : Pt), s.WarmedH vm₁ ∧ Stand p l e R s m args below meth c B.U B.locs B.cells B.slots ∧ Post ⟨T.setVm vm₁, locs, cells, slots⟩ argsL.toArray v B ∧
      ∀ target, Steps p.tables e below (B.U.setTop { g with pc := g.pc + 3, stack := v.toList ++ rest }) target → Steps p.tables e below (T.setTop g) target := by
  obtain ⟨mk, methM, cM, hnamed, hmethM, -, -, -, -, -, -, hsigM⟩ := Cond.codeWith_spec hcode
  have hstatic : methM.isStatic = true := Cond.static_spec hnamed hmethM hstat
  obtain ⟨kP, hkP, -⟩ := className_of_methodNamed hnamed
  have hinitP : kP.init = .initialized := Cond.initialized_spec (findClass_of_methodNamed hnamed) hkP hinit
  obtain ⟨vm₁, X₁, hstep₁⟩ := X.invokestatic hexec hown hlink hnamed hmethM hstatic hkP hinitP hy (g := g) hg (argsL := argsL) (rest := rest) (hlen _ hsigM) hstack hdg
  obtain ⟨v, B, X', hpost, hsteps⟩ := hK m meth c ⟨T.setVm vm₁, locs, cells, slots⟩ { g with stack := rest } (.invokestatic index) mk argsL.toArray X₁ hg hsize hdg hW (X₁.named hnamed) (hpre vm₁ X₁.warmed)
  exact ⟨v, vm₁, B, X₁.warmed, X', hpost, fun target h => hstep₁ _ fun acts => by rw [doInvoke_state]; exact hsteps.trans h⟩
theorem vx_runSW {y : MethodName} {bytes cc : ByteArray} {maxL nL mc ms n index : Nat} {ret : Option FieldType} {hh : List (Nat × Nat × Nat × Nat)} {ws : List Cond} {rm : Room} {Pc : Array Value → State → Prop} {Qc : Array Value → State → Outcome → State → Prop} {free : Addr → Prop} {Ts : List Cond} {own : String} {As rest : List Value} {g : JFrame}
    (S : CallFix p m c cc nL s args Ts own) (hM : Met l y ws rm Pc Qc mc ms free) (cw : vx_CSW R s args own index y bytes maxL ret hh ws rm mc ms n) (hp : PreS s H Pc As)
    (hg : g.method = m) (hn : As.length = n) (hsize : g.locals.size = nL) (hstack : g.stack = As.reverse ++ rest) (hW : 2 * g.monitorRoom + (rest.map fun v => v.category).sum ≤ 8) (hdg : decode cc g.pc = .ok (.invokestatic index, 3)) (hf : cells + mc ≤ R.cells ∧ slots + ms ≤ R.slots) :
    va_Run p l e R s m args below meth c H locs cells slots mc ms g rest (Qc As.toArray) (free) := by
  obtain ⟨⟨hrc, hrs, hfr, hlo, hws, hcw⟩, hcode, hini, hy, hlen, hl, hstt⟩ := cw
  have hK : Back l R p e below s args y 3 8 (PreOf R mc ms Pc) (PostOf Qc mc ms free) := va_backW (hh := hh) (bytes := bytes) (maxL := maxL) (ret := ret) hM hp.1 hrc hrs hfr hlo hws hcw (fun a' U hW => word_at hW (Or.inl (by first | rfl | simp [Cond.onTables, Cond.keeps, Cond.steady])) hini)
  obtain ⟨hx, hb, hml, ho, -⟩ := S
  intro T hT X
  obtain ⟨v, vm₁, ⟨U', l2, c2, s2⟩, hW₁, X', ⟨g', mk, t, L, e1, e2, hq, h1, hL, h2, h3⟩, st⟩ := vx_callSW X hx (hh := hh) (bytes := bytes) (maxL := maxL) (ret := ret) ho hl hstt hini hcode hy hK hg (hsize.trans hml.symm) (argsL := As) (rest := rest) (fun sig h => hn.trans (hlen sig h)) hstack hW (by rw [hb]; exact hdg)
    (fun vm₁ hW₁ => ⟨hf.1, hf.2, hp.2 (T.setVm vm₁) hT hW₁⟩)
  dsimp only [Pt.U, Pt.locs, Pt.cells, Pt.slots] at X' e1 e2 h1 h2 h3 st
  subst h1; subst h2; subst h3
  exact ⟨v, (T.setVm vm₁).calling g' mk As.toArray, t, U', L, hT, X', hL, e1, e2, hq, st⟩
/-- not caught here, past rows that name other classes: it goes on to the caller -/
theorem vx_outP {p : Program} {l : Launch} {e : Env} {R : Room} {s : State} {m : MethodId} {args : Array Value} {below : List Frame} {meth : Method} {c : Code} {H : Heap} {locs : List Loc} {cells slots : Nat} {free : Addr → Prop} {ls : Array Slot} {rest : List Value} {Qc : Array Value → State → Outcome → State → Prop} {XC : String → State → State → Prop}
    {pc : Nat} {own E : String} {ce : Cell} {q : Addr} {mc ms : Nat} (hown : s.vm.findClass own = some m.cls) (hlocks : meth.locks = false)
    (hpass : ∀ z ∈ c.exceptionTable.toList, covers z pc = false ∨ (z.catchType ≠ 0 ∧ ∃ nm : String, (Cond.classLink own z.catchType nm).before args s = true ∧ va_Nc E nm s)) (hcell : H[q]? = some ce) (hv : ce.vm = .none) (hcl : s.vm.findClass E = some ce.cls)
    (hx : ∀ t : State, t.heap = H → s.vm.Alike t.vm → XC E s t) (hf : ∀ z ∈ locs, free z.base) (hc : cells ≤ mc) (hs : slots ≤ ms) :
    vx_W p l e R s m args below meth c H locs cells slots (vx_MQ below Qc XC args s mc ms free) (F0 m pc ls rest) q := by
  intro T hT X
  have hpl : e.platform.magicAccessors = ({} : Platform).magicAccessors := by rw [X.admits.platform]
  obtain ⟨vm', hW', X', st⟩ := X.outThrough hlocks q (g := F0 m pc ls rest) rfl rfl rfl (cell := ce) (by rw [hT]; exact hcell) (by rw [hv]; rfl)
    (by obtain ⟨k9, h9, -⟩ := Vm.findClass_spec hcl; exact ⟨k9, h9⟩) (fun z hz => by
      rcases hpass z hz with h | ⟨hz0, nm, hl1, hn1⟩
      · exact Or.inl h
      · obtain ⟨c6, hc6, hcl6⟩ := Cond.classLink_spec hown hl1 e.platform hpl
        obtain ⟨a8, b8, h1, h2, h3⟩ := hn1
        cases Option.some.inj (h1.symm.trans hcl)
        cases Option.some.inj (h2.symm.trans hc6)
        exact Or.inr ⟨hz0, _, hcl6, h3⟩)
  obtain ⟨g₀, hfr⟩ := X'.frames_eq
  have hcell9 : ((T.setVm vm').setFrames (.throwing q :: below)).heap[q]? = some ce := by
    show T.heap[q]? = some ce
    rw [hT]; exact hcell
  have hend : Ended ((T.setVm vm').setFrames (.throwing q :: below)) below (.threw q) := State.frames_setFrames _ (State.cur_lt_of_frames hfr)
  refine ⟨(T.setVm vm').setFrames (.throwing q :: below), ?_, .threw q, X'.here.running, hend, Or.inr ⟨q, rfl, E, ce, locs, hx _ hT (X'.ends _).1.alike, hcell9, hv, hcl, (X'.ends _).1, (X'.ends _).2.mono hc hs, hf⟩⟩
  rw [X.pushThrowing_eq]
  exact st
/-- a thing of a world lies in the heap -/
theorem vx_lt {D : va_G} {cl : List vw_C} {ws : va_W} {H1 : Heap} (h : va_P D cl ws H1) {k : Nat} {q : Nat × va_E} (hk : ws[k]? = some q) : q.1 < H1.size := (h k q hk).lt
end VXS
/-! ===== END ===== -/
/-! ===== BEGIN methods with a table of their own: called by a name, returning or throwing ===== -/
section VXH
/-! vx_backW, vx_callVX, vx_callSX, vx_callVW, vx_runVW, vx_runVX, vx_runSX, vx_ofWH follow the same proofs as their sisters above (Free/Laws.lean, Shelf42/LK1.lean); vx_outP calls Shelf42/NT130.lean (outThrough). -/
section
variable {l : Launch} {R : Room} {p : Program} {e : Env} {below : List Frame} {s : State} {sargs : Array Value} {y : MethodName} {len W9 : Nat}
theorem vx_backW {ws : List Cond} {rm : Room} {Pc : Array Value → State → Prop} {Qc : Array Value → State → Outcome → State → Prop} {XC : String → State → State → Prop} {mc ms : Nat} {free : Addr → Prop} {bytes : ByteArray} {maxL : Nat} {ret : Option FieldType} {hh : List (Nat × Nat × Nat × Nat)}
    (hM : vx_Met l y ws rm Pc Qc XC mc ms free) (hblind : FrameBlind Pc) (hrc : rm.cells = mc) (hrs : rm.slots = ms)
    (hframes : rm.frames + 1 ≤ R.frames) (hlocals : W9 + (maxL + 11) + rm.locals ≤ R.locals)
    (hws : ∀ w ∈ ws, ∀ a' U, s.WarmedH U.vm → w.before a' U = true) (hcode : Cond.codeWith y bytes maxL ret hh ∈ ws) (hinit : ∀ a' U, s.WarmedH U.vm → (Cond.initialized y.cls).before a' U = true) :
    vx_Back l R p e below s sargs y len W9 (PreOf R mc ms Pc) (PostOf Qc mc ms free) (vx_Post XC mc ms free) := by
  intro m meth c A g ig mk a X hg hsize hdg hW hn hp
  have h1 : (headSpec ws rm).pre.before a A.U = true := atoms_intro fun w hw => hws w hw _ _ X.warmed
  have h2 : (Cond.codeWith y bytes maxL ret hh).before a A.U = true := hws _ hcode _ _ X.warmed
  have h3 : (Cond.initialized y.cls).before a A.U = true := hinit _ _ X.warmed
  have h4 : A.cells + (headSpec ws rm).room.cells ≤ R.cells := by rw [show (headSpec ws rm).room.cells = mc from hrc]; exact hp.1
  have h5 : A.slots + (headSpec ws rm).room.slots ≤ R.slots := by rw [show (headSpec ws rm).room.slots = ms from hrs]; exact hp.2.1
  have hPc : Pc a (A.U.calling g mk a) := hblind _ _ _ _ hp.2.2
  obtain ⟨U, Ls, c0, s0⟩ := A
  dsimp only [Pt.U, Pt.locs, Pt.cells, Pt.slots] at h1 h2 h3 h4 h5 X hn hPc ⊢
  obtain ⟨m9, methY, cY, hn9, hmY, hcY, -, hlY, -⟩ := Cond.codeWith_spec h2
  cases Option.some.inj (hn9.symm.trans hn)
  obtain ⟨kY, hkY, -⟩ := className_of_methodNamed hn
  have hinitY : kY.init = .initialized := Cond.initialized_spec (findClass_of_methodNamed hn) hkY h3
  have h : At U g.method c below := by rw [hg]; exact X.here
  have hlocals9 : W9 + (maxL + 11) + (headSpec ws rm).room.locals ≤ R.locals := hlocals
  have happ : (headSpec ws rm).appliesLoose y e.platform (U.calling g mk a) = true :=
    Spec.appliesLoose_calling (g := g) h hdg hn hkY hinitY
      (X.room_calling (g := g) (R' := (headSpec ws rm).room) hsize hmY hcY hframes (by rw [hlY]; omega) h4 h5) h1
  obtain ⟨mid, hmid⟩ := h.above
  have hfr : (U.setTop g).frames = (.java g :: mid) ++ below := by rw [State.frames_setTop' g h.top, hmid]; rfl
  obtain ⟨o, s₂, hsteps, -, hend, hq⟩ := Steps.callFree hM p X.admits X.cas X.clock (acts := []) hfr happ hPc trivial
  have hq' : vx_Q Qc XC mc ms free a (U.calling g mk a) o s₂ := hq
  rw [State.frames_setTop' g h.top] at hend
  obtain ⟨g₀, hg0⟩ := Option.isSome_iff_exists.mp h.top
  obtain ⟨r, hr⟩ := State.topJava?_eq_some.mp hg0
  have hr' : (({ U with heap := s₂.heap, slotsUsed := s₂.slotsUsed } : State).setVm s₂.vm).frames = .java g₀ :: r := hr
  rcases hq' with ⟨hqc, L, hfe, hL⟩ | ⟨q, rfl, E, ce, L, hx, hce, hcv, hcl, hW₂, hsm, hL⟩
  · obtain ⟨⟨v, rfl⟩, hW₂, e2, q2, q3, q4, q5, q6⟩ := id hfe
    have e3 : s₂ = ({ (U.calling g mk a).setFrames s₂.frames with heap := s₂.heap, slotsUsed := s₂.slotsUsed } : State).setVm s₂.vm := by
      have : s₂ = ({ s₂ with vm := (U.calling g mk a).vm } : State).setVm s₂.vm := rfl
      rw [e2] at this
      exact this
    obtain ⟨c₂, i₂, len₂, hc₂, hd₂, hf₂⟩ := hend
    have hW' : U.WarmedH s₂.vm := hW₂
    have hcc : c₂ = c := by
      have h1 : s₂.code? g.method = U.code? g.method := by
        rw [State.code?_eq, State.code?_eq, hW'.alike.method?]
      exact Option.some.inj (hc₂.symm.trans (h1.trans h.code))
    subst hcc
    have hlen : len₂ = len := by rw [hdg] at hd₂; cases hd₂; rfl
    subst hlen
    have hs₂ : s₂ = (({ U with heap := s₂.heap, slotsUsed := s₂.slotsUsed } : State).setVm s₂.vm).setTop { g with pc := g.pc + len₂, stack := v.toList ++ g.stack } := by
      refine e3.trans ?_
      rw [hf₂, State.calling_eq h.top, State.setFrames_setFrames, State.setTop_of_frames _ hr', hr]
      rfl
    have hsame : U.sameButNew ({ U with heap := s₂.heap, slotsUsed := s₂.slotsUsed } : State) L mc ms := by
      refine ⟨?_, q2, q3, q4, q5, q6⟩
      obtain ⟨t, ht, -⟩ := State.frames_cons hr
      show ({ U with heap := s₂.heap, slotsUsed := s₂.slotsUsed } : State) = { U.setFrames U.frames with heap := s₂.heap, slotsUsed := s₂.slotsUsed }
      rw [State.setFrames_self ht]
    subst hg
    refine Or.inl ⟨v, ⟨(({ U with heap := s₂.heap, slotsUsed := s₂.slotsUsed } : State).setVm s₂.vm), Ls ++ L, c0 + mc, s0 + ms⟩,
      ⟨X.admits, X.cas, X.clock, X.frames, X.room, X.hears, X.method, X.code, (X.here.setHeapUsed s₂.heap s₂.slotsUsed).setVm hW'.alike, X.tail, State.WarmedH.trans X.warmed hW', X.limits, X.bytes, X.same.trans (hsame.setVm s.vm)⟩,
      ⟨g, mk, s₂, L, rfl, rfl, hqc, rfl, hL, rfl, rfl⟩, ?_⟩
    show Steps p.tables e below _ ((({ U with heap := s₂.heap, slotsUsed := s₂.slotsUsed } : State).setVm s₂.vm).setTop { g with pc := g.pc + len₂, stack := v.toList ++ g.stack })
    rw [← hs₂]
    exact hsteps
  · obtain ⟨e2, q2, q3, q4, q5, q6⟩ := id hsm
    have e3 : s₂ = ({ (U.calling g mk a).setFrames s₂.frames with heap := s₂.heap, slotsUsed := s₂.slotsUsed } : State).setVm s₂.vm := by
      have : s₂ = ({ s₂ with vm := (U.calling g mk a).vm } : State).setVm s₂.vm := rfl
      rw [e2] at this
      exact this
    have hf₂ : s₂.frames = .throwing q :: .java g :: U.frames.tail := hend
    have hW' : U.WarmedH s₂.vm := hW₂
    have hs₂ : s₂ = ((({ U with heap := s₂.heap, slotsUsed := s₂.slotsUsed } : State).setVm s₂.vm).setTop g).pushFrame (.throwing q) := by
      refine e3.trans ?_
      rw [hf₂, State.calling_eq h.top, State.setFrames_setFrames, State.pushFrame, State.frames_setTop _ hr', State.setTop_of_frames _ hr', State.setFrames_setFrames, hr]
      rfl
    have hsame : U.sameButNew ({ U with heap := s₂.heap, slotsUsed := s₂.slotsUsed } : State) L mc ms := by
      refine ⟨?_, q2, q3, q4, q5, q6⟩
      obtain ⟨t, ht, -⟩ := State.frames_cons hr
      show ({ U with heap := s₂.heap, slotsUsed := s₂.slotsUsed } : State) = { U.setFrames U.frames with heap := s₂.heap, slotsUsed := s₂.slotsUsed }
      rw [State.setFrames_self ht]
    subst hg
    refine Or.inr ⟨q, ⟨(({ U with heap := s₂.heap, slotsUsed := s₂.slotsUsed } : State).setVm s₂.vm), Ls ++ L, c0 + mc, s0 + ms⟩,
      ⟨X.admits, X.cas, X.clock, X.frames, X.room, X.hears, X.method, X.code, (X.here.setHeapUsed s₂.heap s₂.slotsUsed).setVm hW'.alike, X.tail, State.WarmedH.trans X.warmed hW', X.limits, X.bytes, X.same.trans (hsame.setVm s.vm)⟩,
      ⟨g, mk, s₂, L, E, ce, rfl, rfl, hx, hce, hcv, hcl, rfl, hL, rfl, rfl⟩, ?_⟩
    show Steps p.tables e below _ (((({ U with heap := s₂.heap, slotsUsed := s₂.slotsUsed } : State).setVm s₂.vm).setTop g).pushFrame (.throwing q))
    rw [← hs₂]
    exact hsteps
end
variable {p : Program} {l : Launch} {e : Env} {R : Room} {s : State} {m : MethodId} {args : Array Value} {below : List Frame} {meth : Method} {c : Code} {T : State} {H : Heap} {locs : List Loc} {cells slots : Nat}
theorem vx_callVX (X : Stand p l e R s m args below meth c T locs cells slots) (hexec : p.tables.exec = Jvm.exec) {own C : String} {index : Nat} {y : MethodName} {bytes : ByteArray} {maxL : Nat} {ret : Option FieldType} {hh : List (Nat × Nat × Nat × Nat)}
    (hown : s.vm.findClass own = some m.cls) (hlink : (Cond.methodLink own index y).before args s = true) (hinst : (Cond.instanceMethod y).before args s = true) (hsel : (Cond.selects C y y).before args s = true)
    (hcode : (Cond.codeWith y bytes maxL ret hh).before args s = true) (hy : y.cls ≠ "java/lang/invoke/MethodHandle" ∧ y.cls ≠ "java/lang/invoke/VarHandle")
    {W9 : Nat} {Pre : Pt → Array Value → Prop} {Post : Pt → Array Value → Option Value → Pt → Prop} {PostX : Pt → Array Value → Addr → Pt → Prop} (hK : vx_Back l R p e below s args y 3 W9 Pre Post PostX)
    {b : Addr} {cellB : Cell} (hcell : T.heap[b]? = some cellB) (hobj : cellB.vm.isStatics = false) (hcls : s.vm.findClass C = some cellB.cls)
    {g : JFrame} (hg : g.method = m) (hsize : g.locals.size = c.maxLocals) {argsL rest : List Value} (hlen : ∀ sig, parseMethodDescriptor y.desc = some sig → argsL.length = sig.parameters.length)
    (hstack : g.stack = argsL.reverse ++ .ref b :: rest) (hW : 2 * g.monitorRoom + (rest.map fun v => v.category).sum ≤ W9) (hdg : decode c.code g.pc = .ok (.invokevirtual index, 3))
    (hpre : ∀ vm₁, s.WarmedH vm₁ → Pre ⟨T.setVm vm₁, locs, cells, slots⟩ (Value.ref b :: argsL).toArray) :
    (∃ (v : Option Value) (vm₁ : Vm) (B : Pt), s.WarmedH vm₁ ∧ Stand p l e R s m args below meth c B.U B.locs B.cells B.slots ∧ Post ⟨T.setVm vm₁, locs, cells, slots⟩ (Value.ref b :: argsL).toArray v B ∧
      ∀ target, Steps p.tables e below (B.U.setTop { g with pc := g.pc + 3, stack := v.toList ++ rest }) target → Steps p.tables e below (T.setTop g) target) ∨
    (∃ (q : Addr) (vm₁ : Vm) (B : Pt), s.WarmedH vm₁ ∧ Stand p l e R s m args below meth c B.U B.locs B.cells B.slots ∧ PostX ⟨T.setVm vm₁, locs, cells, slots⟩ (Value.ref b :: argsL).toArray q B ∧
      Steps p.tables e below (T.setTop g) ((B.U.setTop { g with stack := rest }).pushFrame (.throwing q))) := by
  obtain ⟨mk, methM, hnamed, hmethM, hstM, habM⟩ := Cond.instanceMethod_spec hinst
  obtain ⟨m8, methM', cM, hn8, hmethM', -, -, -, -, -, -, hsigM⟩ := Cond.codeWith_spec hcode
  cases Option.some.inj (hn8.symm.trans hnamed)
  cases hmethM.symm.trans hmethM'
  obtain ⟨c2, r2, m2, q1, q2, q3, q4, kP, hkP, hkPi⟩ := Cond.selects_spec hsel
  cases hcls.symm.trans q1
  cases (State.methodFound?_of_named hnamed hy).symm.trans q2
  cases hnamed.symm.trans q3
  have hselP : selectMethod e.platform s.vm cellB.cls mk = .method mk := by rw [Launch.admits_selectMethod X.admits]; exact q4
  obtain ⟨vm₁, X₁, hstep₁⟩ := X.invokevirtual hexec hown hlink hnamed hmethM hstM hkP hkPi hy (a := b) (cell := cellB) hcell
    (fun z h => by rw [h] at hobj; cases hobj) hselP hmethM habM hkP hkPi (g := g) hg (argsL := argsL) (rest := rest) (hlen _ hsigM) hstack hdg
  rcases hK m meth c ⟨T.setVm vm₁, locs, cells, slots⟩ { g with stack := rest } (.invokevirtual index) mk (Value.ref b :: argsL).toArray X₁ hg hsize hdg hW (X₁.named hnamed) (hpre vm₁ X₁.warmed) with ⟨v, B, X', hpost, hsteps⟩ | ⟨q, B, X', hpost, hsteps⟩
  · exact Or.inl ⟨v, vm₁, B, X₁.warmed, X', hpost, fun target h => hstep₁ _ fun acts => by rw [doInvoke_state]; exact hsteps.trans h⟩
  · exact Or.inr ⟨q, vm₁, B, X₁.warmed, X', hpost, hstep₁ _ fun acts => by rw [doInvoke_state]; exact hsteps⟩
theorem vx_callSX (X : Stand p l e R s m args below meth c T locs cells slots) (hexec : p.tables.exec = Jvm.exec) {own : String} {index : Nat} {y : MethodName} {bytes : ByteArray} {maxL : Nat} {ret : Option FieldType} {hh : List (Nat × Nat × Nat × Nat)}
    (hown : s.vm.findClass own = some m.cls) (hlink : (Cond.methodLink own index y).before args s = true) (hstat : (Cond.static y).before args s = true) (hinit : (Cond.initialized y.cls).before args s = true)
    (hcode : (Cond.codeWith y bytes maxL ret hh).before args s = true) (hy : y.cls ≠ "java/lang/invoke/MethodHandle" ∧ y.cls ≠ "java/lang/invoke/VarHandle")
    {W9 : Nat} {Pre : Pt → Array Value → Prop} {Post : Pt → Array Value → Option Value → Pt → Prop} {PostX : Pt → Array Value → Addr → Pt → Prop} (hK : vx_Back l R p e below s args y 3 W9 Pre Post PostX)
    {g : JFrame} (hg : g.method = m) (hsize : g.locals.size = c.maxLocals) {argsL rest : List Value} (hlen : ∀ sig, parseMethodDescriptor y.desc = some sig → argsL.length = sig.parameters.length)
    (hstack : g.stack = argsL.reverse ++ rest) (hW : 2 * g.monitorRoom + (rest.map fun v => v.category).sum ≤ W9) (hdg : decode c.code g.pc = .ok (.invokestatic index, 3))
    (hpre : ∀ vm₁, s.WarmedH vm₁ → Pre ⟨T.setVm vm₁, locs, cells, slots⟩ argsL.toArray) :
    (∃ (v : Option Value) (vm₁ : Vm) (B : Pt), s.WarmedH vm₁ ∧ Stand p l e R s m args below meth c B.U B.locs B.cells B.slots ∧ Post ⟨T.setVm vm₁, locs, cells, slots⟩ argsL.toArray v B ∧
      ∀ target, Steps p.tables e below (B.U.setTop { g with pc := g.pc + 3, stack := v.toList ++ rest }) target → Steps p.tables e below (T.setTop g) target) ∨
    (∃ (q : Addr) (vm₁ : Vm) (B : Pt), s.WarmedH vm₁ ∧ Stand p l e R s m args below meth c B.U B.locs B.cells B.slots ∧ PostX ⟨T.setVm vm₁, locs, cells, slots⟩ argsL.toArray q B ∧
      Steps p.tables e below (T.setTop g) ((B.U.setTop { g with stack := rest }).pushFrame (.throwing q))) := by
  obtain ⟨mk, methM, cM, hnamed, hmethM, -, -, -, -, -, -, hsigM⟩ := Cond.codeWith_spec hcode
  have hstatic : methM.isStatic = true := Cond.static_spec hnamed hmethM hstat
  obtain ⟨kP, hkP, -⟩ := className_of_methodNamed hnamed
  have hinitP : kP.init = .initialized := Cond.initialized_spec (findClass_of_methodNamed hnamed) hkP hinit
  obtain ⟨vm₁, X₁, hstep₁⟩ := X.invokestatic hexec hown hlink hnamed hmethM hstatic hkP hinitP hy (g := g) hg (argsL := argsL) (rest := rest) (hlen _ hsigM) hstack hdg
  rcases hK m meth c ⟨T.setVm vm₁, locs, cells, slots⟩ { g with stack := rest } (.invokestatic index) mk argsL.toArray X₁ hg hsize hdg hW (X₁.named hnamed) (hpre vm₁ X₁.warmed) with ⟨v, B, X', hpost, hsteps⟩ | ⟨q, B, X', hpost, hsteps⟩
  · exact Or.inl ⟨v, vm₁, B, X₁.warmed, X', hpost, fun target h => hstep₁ _ fun acts => by rw [doInvoke_state]; exact hsteps.trans h⟩
  · exact Or.inr ⟨q, vm₁, B, X₁.warmed, X', hpost, hstep₁ _ fun acts => by rw [doInvoke_state]; exact hsteps⟩
theorem vx_callVW (X : Stand p l e R s m args below meth c T locs cells slots) (hexec : p.tables.exec = Jvm.exec) {own C : String} {index : Nat} {y : MethodName} {bytes : ByteArray} {maxL : Nat} {ret : Option FieldType} {hh : List (Nat × Nat × Nat × Nat)}
    (hown : s.vm.findClass own = some m.cls) (hlink : (Cond.methodLink own index y).before args s = true) (hinst : (Cond.instanceMethod y).before args s = true) (hsel : (Cond.selects C y y).before args s = true)
    (hcode : (Cond.codeWith y bytes maxL ret hh).before args s = true) (hy : y.cls ≠ "java/lang/invoke/MethodHandle" ∧ y.cls ≠ "java/lang/invoke/VarHandle")
    {W9 : Nat} {Pre : Pt → Array Value → Prop} {Post : Pt → Array Value → Option Value → Pt → Prop} (hK : Back l R p e below s args y 3 W9 Pre Post)
    {b : Addr} {cellB : Cell} (hcell : T.heap[b]? = some cellB) (hobj : cellB.vm.isStatics = false) (hcls : s.vm.findClass C = some cellB.cls)
    {g : JFrame} (hg : g.method = m) (hsize : g.locals.size = c.maxLocals) {argsL rest : List Value} (hlen : ∀ sig, parseMethodDescriptor y.desc = some sig → argsL.length = sig.parameters.length)
    (hstack : g.stack = argsL.reverse ++ .ref b :: rest) (hW : 2 * g.monitorRoom + (rest.map fun v => v.category).sum ≤ W9) (hdg : decode c.code g.pc = .ok (.invokevirtual index, 3))
    (hpre : ∀ vm₁, s.WarmedH vm₁ → Pre ⟨T.setVm vm₁, locs, cells, slots⟩ (Value.ref b :: argsL).toArray) :
    ∃ (v : Option Value) (vm₁ : Vm) (B : Pt), s.WarmedH vm₁ ∧ Stand p l e R s m args below meth c B.U B.locs B.cells B.slots ∧ Post ⟨T.setVm vm₁, locs, cells, slots⟩ (Value.ref b :: argsL).toArray v B ∧
      ∀ target, Steps p.tables e below (B.U.setTop { g with pc := g.pc + 3, stack := v.toList ++ rest }) target → Steps p.tables e below (T.setTop g) target := by
  obtain ⟨mk, methM, hnamed, hmethM, hstM, habM⟩ := Cond.instanceMethod_spec hinst
  obtain ⟨m8, methM', cM, hn8, hmethM', -, -, -, -, -, -, hsigM⟩ := Cond.codeWith_spec hcode
  cases Option.some.inj (hn8.symm.trans hnamed)
  cases hmethM.symm.trans hmethM'
  obtain ⟨c2, r2, m2, q1, q2, q3, q4, kP, hkP, hkPi⟩ := Cond.selects_spec hsel
  cases hcls.symm.trans q1
  cases (State.methodFound?_of_named hnamed hy).symm.trans q2
  cases hnamed.symm.trans q3
  have hselP : selectMethod e.platform s.vm cellB.cls mk = .method mk := by rw [Launch.admits_selectMethod X.admits]; exact q4
  obtain ⟨vm₁, X₁, hstep₁⟩ := X.invokevirtual hexec hown hlink hnamed hmethM hstM hkP hkPi hy (a := b) (cell := cellB) hcell
    (fun z h => by rw [h] at hobj; cases hobj) hselP hmethM habM hkP hkPi (g := g) hg (argsL := argsL) (rest := rest) (hlen _ hsigM) hstack hdg
  obtain ⟨v, B, X', hpost, hsteps⟩ := hK m meth c ⟨T.setVm vm₁, locs, cells, slots⟩ { g with stack := rest } (.invokevirtual index) mk (Value.ref b :: argsL).toArray X₁ hg hsize hdg hW (X₁.named hnamed) (hpre vm₁ X₁.warmed)
  exact ⟨v, vm₁, B, X₁.warmed, X', hpost, fun target h => hstep₁ _ fun acts => by rw [doInvoke_state]; exact hsteps.trans h⟩
abbrev vx_CVW (R : Room) (s : State) (args : Array Value) (own C : String) (index : Nat) (y : MethodName) (bytes : ByteArray) (maxL : Nat) (ret : Option FieldType) (hh : List (Nat × Nat × Nat × Nat)) (ws : List Cond) (rm : Room) (mc ms n : Nat) : Prop :=
  (rm.cells = mc ∧ rm.slots = ms ∧ rm.frames + 1 ≤ R.frames ∧ 8 + (maxL + 11) + rm.locals ≤ R.locals ∧ (∀ w ∈ ws, ∀ (a' : Array Value) (U : State), s.WarmedH U.vm → w.before a' U = true) ∧ Cond.codeWith y bytes maxL ret hh ∈ ws) ∧
  (Cond.codeWith y bytes maxL ret hh).before args s = true ∧ (Cond.initialized y.cls).before args s = true ∧ (y.cls ≠ "java/lang/invoke/MethodHandle" ∧ y.cls ≠ "java/lang/invoke/VarHandle") ∧
  (∀ sig, parseMethodDescriptor y.desc = some sig → n = sig.parameters.length) ∧ (Cond.methodLink own index y).before args s = true ∧ (Cond.instanceMethod y).before args s = true ∧ (Cond.selects C y y).before args s = true
theorem vx_cwVW {own C : String} {index maxL mc ms : Nat} {y : MethodName} {bytes : ByteArray} {ret : Option FieldType} {hh : List (Nat × Nat × Nat × Nat)} {Ts ws ws' : List Cond} {rm : Room} (n : Nat) (ht : ∀ w ∈ Ts, w.before args s = true) (hT : GoodIn Ts (wsV own index C y ws)) (hw : ws = Cond.codeWith y bytes maxL ret hh :: ws') (hrc : rm.cells = mc) (hrs : rm.slots = ms)
    (hd : y.cls = C ∧ y.cls ≠ "java/lang/invoke/MethodHandle" ∧ y.cls ≠ "java/lang/invoke/VarHandle" ∧ (parseMethodDescriptor y.desc).map (fun d => d.parameters.length) = some n) (hR : rm.frames + 1 ≤ R.frames ∧ 8 + (maxL + 11) + rm.locals ≤ R.locals) :
    vx_CVW R s args own C index y bytes maxL ret hh ws rm mc ms n := by
  obtain ⟨hC, hd⟩ := hd
  subst hC
  have ok : ∀ w ∈ wsV own index y.cls y ws, w.before args s = true := fun w h => ht w (hT w h).1
  have hG : GoodIn Ts ws := fun w h => hT w (by unfold wsV; exact List.mem_append_right _ h)
  have hc : Cond.codeWith y bytes maxL ret hh ∈ ws := by rw [hw]; exact List.mem_cons_self
  refine ⟨⟨hrc, hrs, hR.1, hR.2, pay_in ht hG, hc⟩, ht _ (hG _ hc).1, ok _ (by simp [wsV]), ⟨hd.1, hd.2.1⟩, fun sig h => ?_, ok _ (by simp [wsV]), ok _ (by simp [wsV]), ok _ (by simp [wsV])⟩
  have h2 := hd.2.2
  rw [h] at h2
  exact (Option.some.inj h2).symm
theorem vx_runVW {y : MethodName} {bytes cc : ByteArray} {maxL nL mc ms n index : Nat} {ret : Option FieldType} {hh : List (Nat × Nat × Nat × Nat)} {ws : List Cond} {rm : Room} {Pc : Array Value → State → Prop} {Qc : Array Value → State → Outcome → State → Prop} {free : Addr → Prop} {Ts : List Cond} {own C : String} {b : Addr} {As rest : List Value} {g : JFrame}
    (S : CallFix p m c cc nL s args Ts own) (hM : Met l y ws rm Pc Qc mc ms free) (cw : vx_CVW R s args own C index y bytes maxL ret hh ws rm mc ms n) (hp : PreV s H C b Pc As)
    (hg : g.method = m) (hn : As.length = n) (hsize : g.locals.size = nL) (hstack : g.stack = As.reverse ++ .ref b :: rest) (hW : 2 * g.monitorRoom + (rest.map fun v => v.category).sum ≤ 8) (hdg : decode cc g.pc = .ok (.invokevirtual index, 3)) (hf : cells + mc ≤ R.cells ∧ slots + ms ≤ R.slots) :
    va_Run p l e R s m args below meth c H locs cells slots mc ms g rest (Qc (Value.ref b :: As).toArray) free := by
  obtain ⟨⟨hrc, hrs, hfr, hlo, hws, hcw⟩, hcode, hini, hy, hlen, hl, hin, hse⟩ := cw
  have hK : Back l R p e below s args y 3 8 (PreOf R mc ms Pc) (PostOf Qc mc ms free) := va_backW (hh := hh) (bytes := bytes) (maxL := maxL) (ret := ret) hM hp.1 hrc hrs hfr hlo hws hcw (fun a' U hW => word_at hW (Or.inl (by first | rfl | simp [Cond.onTables, Cond.keeps, Cond.steady])) hini)
  obtain ⟨hx, hb, hml, ho, -⟩ := S
  obtain ⟨-, ⟨cellB, hcB, hoB, hclB⟩, hPc⟩ := hp
  intro T hT X
  obtain ⟨v, vm₁, ⟨U', l2, c2, s2⟩, hW₁, X', ⟨g', mk, t, L, e1, e2, hq, h1, hL, h2, h3⟩, st⟩ := vx_callVW X hx (C := C) (hh := hh) (bytes := bytes) (maxL := maxL) (ret := ret) ho hl hin hse hcode hy hK (by rw [hT]; exact hcB) hoB hclB hg (hsize.trans hml.symm) (argsL := As) (rest := rest) (fun sig h => hn.trans (hlen sig h)) hstack hW (by rw [hb]; exact hdg)
    (fun vm₁ hW₁ => ⟨hf.1, hf.2, hPc (T.setVm vm₁) hT hW₁⟩)
  dsimp only [Pt.U, Pt.locs, Pt.cells, Pt.slots] at X' e1 e2 h1 h2 h3 st
  subst h1; subst h2; subst h3
  exact ⟨v, (T.setVm vm₁).calling g' mk (Value.ref b :: As).toArray, t, U', L, hT, X', hL, e1, e2, hq, st⟩
section
variable {y : MethodName} {bytes cc : ByteArray} {maxL nL mc ms n index : Nat} {ret : Option FieldType} {ws : List Cond} {rm : Room} {Pc : Array Value → State → Prop} {Qc : Array Value → State → Outcome → State → Prop} {XC : String → State → State → Prop} {free : Addr → Prop} {Ts : List Cond} {own C : String} {b : Addr} {As rest : List Value} {g : JFrame}
theorem vx_runVX {hh : List (Nat × Nat × Nat × Nat)} (S : CallFix p m c cc nL s args Ts own) (hM : vx_Met l y ws rm Pc Qc XC mc ms free) (cw : vx_CVW R s args own C index y bytes maxL ret hh ws rm mc ms n) (hp : PreV s H C b Pc As)
    (hg : g.method = m) (hn : As.length = n) (hsize : g.locals.size = nL) (hstack : g.stack = As.reverse ++ .ref b :: rest) (hW : 2 * g.monitorRoom + (rest.map fun v => v.category).sum ≤ 8) (hdg : decode cc g.pc = .ok (.invokevirtual index, 3)) (hf : cells + mc ≤ R.cells ∧ slots + ms ≤ R.slots) :
    vx_Run p l e R s m args below meth c H locs cells slots mc ms g rest (Qc (Value.ref b :: As).toArray) XC free := by
  obtain ⟨⟨hrc, hrs, hfr, hlo, hws, hcw⟩, hcode, hini, hy, hlen, hl, hin, hse⟩ := cw
  have hK : vx_Back l R p e below s args y 3 8 (PreOf R mc ms Pc) (PostOf Qc mc ms free) (vx_Post XC mc ms free) := vx_backW (hh := hh) (bytes := bytes) (maxL := maxL) (ret := ret) hM hp.1 hrc hrs hfr hlo hws hcw (fun a' U hW => word_at hW (Or.inl (by first | rfl | simp [Cond.onTables, Cond.keeps, Cond.steady])) hini)
  obtain ⟨hx, hb, hml, ho, -⟩ := S
  obtain ⟨-, ⟨cellB, hcB, hoB, hclB⟩, hPc⟩ := hp
  intro T hT X
  rcases vx_callVX X hx (C := C) (hh := hh) (bytes := bytes) (maxL := maxL) (ret := ret) ho hl hin hse hcode hy hK (by rw [hT]; exact hcB) hoB hclB hg (hsize.trans hml.symm) (argsL := As) (rest := rest) (fun sig h => hn.trans (hlen sig h)) hstack hW (by rw [hb]; exact hdg)
    (fun vm₁ hW₁ => ⟨hf.1, hf.2, hPc (T.setVm vm₁) hT hW₁⟩) with ⟨v, vm₁, ⟨U', l2, c2, s2⟩, hW₁, X', ⟨g', mk, t, L, e1, e2, hq, h1, hL, h2, h3⟩, st⟩ | ⟨q, vm₁, ⟨U', l2, c2, s2⟩, hW₁, X', ⟨g', mk, t, L, E, ce, e1, e2, hq, hce, hcv, hcl, h1, hL, h2, h3⟩, st⟩
  · dsimp only [Pt.U, Pt.locs, Pt.cells, Pt.slots] at X' e1 e2 h1 h2 h3 st
    subst h1; subst h2; subst h3
    exact Or.inl ⟨v, (T.setVm vm₁).calling g' mk (Value.ref b :: As).toArray, t, U', L, hT, X', hL, e1, e2, hq, st⟩
  · dsimp only [Pt.U, Pt.locs, Pt.cells, Pt.slots] at X' e1 e2 h1 h2 h3 st hcl
    subst h1; subst h2; subst h3
    exact Or.inr ⟨q, (T.setVm vm₁).calling g' mk (Value.ref b :: As).toArray, t, U', L, E, ce, hT, X', hL, e1, e2, hq, hce, hcv, vx_cls hW₁ hcl, st⟩
theorem vx_runSX {hh : List (Nat × Nat × Nat × Nat)} (S : CallFix p m c cc nL s args Ts own) (hM : vx_Met l y ws rm Pc Qc XC mc ms free) (cw : vx_CSW R s args own index y bytes maxL ret hh ws rm mc ms n) (hp : PreS s H Pc As)
    (hg : g.method = m) (hn : As.length = n) (hsize : g.locals.size = nL) (hstack : g.stack = As.reverse ++ rest) (hW : 2 * g.monitorRoom + (rest.map fun v => v.category).sum ≤ 8) (hdg : decode cc g.pc = .ok (.invokestatic index, 3)) (hf : cells + mc ≤ R.cells ∧ slots + ms ≤ R.slots) :
    vx_Run p l e R s m args below meth c H locs cells slots mc ms g rest (Qc As.toArray) XC free := by
  obtain ⟨⟨hrc, hrs, hfr, hlo, hws, hcw⟩, hcode, hini, hy, hlen, hl, hstt⟩ := cw
  have hK : vx_Back l R p e below s args y 3 8 (PreOf R mc ms Pc) (PostOf Qc mc ms free) (vx_Post XC mc ms free) := vx_backW (hh := hh) (bytes := bytes) (maxL := maxL) (ret := ret) hM hp.1 hrc hrs hfr hlo hws hcw (fun a' U hW => word_at hW (Or.inl (by first | rfl | simp [Cond.onTables, Cond.keeps, Cond.steady])) hini)
  obtain ⟨hx, hb, hml, ho, -⟩ := S
  intro T hT X
  rcases vx_callSX X hx (hh := hh) (bytes := bytes) (maxL := maxL) (ret := ret) ho hl hstt hini hcode hy hK hg (hsize.trans hml.symm) (argsL := As) (rest := rest) (fun sig h => hn.trans (hlen sig h)) hstack hW (by rw [hb]; exact hdg)
    (fun vm₁ hW₁ => ⟨hf.1, hf.2, hp.2 (T.setVm vm₁) hT hW₁⟩) with ⟨v, vm₁, ⟨U', l2, c2, s2⟩, hW₁, X', ⟨g', mk, t, L, e1, e2, hq, h1, hL, h2, h3⟩, st⟩ | ⟨q, vm₁, ⟨U', l2, c2, s2⟩, hW₁, X', ⟨g', mk, t, L, E, ce, e1, e2, hq, hce, hcv, hcl, h1, hL, h2, h3⟩, st⟩
  · dsimp only [Pt.U, Pt.locs, Pt.cells, Pt.slots] at X' e1 e2 h1 h2 h3 st
    subst h1; subst h2; subst h3
    exact Or.inl ⟨v, (T.setVm vm₁).calling g' mk As.toArray, t, U', L, hT, X', hL, e1, e2, hq, st⟩
  · dsimp only [Pt.U, Pt.locs, Pt.cells, Pt.slots] at X' e1 e2 h1 h2 h3 st hcl
    subst h1; subst h2; subst h3
    exact Or.inr ⟨q, (T.setVm vm₁).calling g' mk As.toArray, t, U', L, E, ce, hT, X', hL, e1, e2, hq, hce, hcv, vx_cls hW₁ hcl, st⟩
end
end VXH
theorem vx_ofWH {l : Launch} {y : MethodName} {ws ws' : List Cond} {rm : Room} {Pc : Array Value → State → Prop} {Qc : Array Value → State → Outcome → State → Prop} {XC : String → State → State → Prop} {mc ms : Nat} {free : Addr → Prop} {cc : ByteArray} {maxL : Nat} {ret : Option FieldType} {hh : List (Nat × Nat × Nat × Nat)}
    (hy : plainName y.cls = true) (hw : ws = Cond.codeWith y cc maxL ret hh :: ws')
    (body : ∀ p e s m args below meth c s₁, BodyLoose p l y (headSpec ws rm) cc maxL ret e s m args below meth c s₁ → c.maxLocals = maxL → Pc args s →
      W p l e (headSpec ws rm).room s m args below meth c s.heap [] 0 0 (vx_MQ below Qc XC args s mc ms free) (entryFrame m args maxL)) : vx_Met l y ws rm Pc Qc XC mc ms free := by
  refine MetFree.of_bodyS (code := cc) (maxLocals := maxL) (ret := ret) hy ?_ ?_
  · intro args s m h hn
    obtain ⟨m9, meth, c, hn9, h1, h2, h3, h4, -, h5, h6, -⟩ := Cond.codeWith_spec (atoms_spec (ws := ws) h _ (by rw [hw]; exact List.mem_cons_self))
    cases hn.symm.trans hn9
    exact ⟨meth, c, h1, h2, h3, h4, h5, h6⟩
  · intro p e s m args below meth c s₁ B hml hP _
    have hh0 : s₁.heap = s.heap := by rw [B.state]; rfl
    obtain ⟨t, a1, o, b1, b2, b3⟩ := body p e s m args below meth c s₁ B hml hP s₁ hh0 (Stand.of_body B)
    exact ⟨t, o, a1, b1, b2, b3⟩
/-! ===== END ===== -/
end
section
/-! ===== Pictures and the machine's heap ===== -/
/-- where the law's heap began, the script's cell, WITHOUT's, FACTORIALS'; class numbers and slots; the array classes; the heap at the start; the script -/
abbrev rx_G : Type := Nat × Nat × Nat × Nat × va_G × (ClassId × ClassId × ClassId) × Heap × (Nat × (Nat → Int32))
abbrev rx_base (G : rx_G) : Nat := G.1
abbrev rx_ab (G : rx_G) : Nat := G.2.1
abbrev rx_aw (G : rx_G) : Nat := G.2.2.1
abbrev rx_af (G : rx_G) : Nat := G.2.2.2.1
abbrev rx_D (G : rx_G) : va_G := G.2.2.2.2.1
abbrev rx_cI (G : rx_G) : ClassId := G.2.2.2.2.2.1.1
abbrev rx_cJ (G : rx_G) : ClassId := G.2.2.2.2.2.1.2.1
abbrev rx_cP (G : rx_G) : ClassId := G.2.2.2.2.2.1.2.2
abbrev rx_H0 (G : rx_G) : Heap := G.2.2.2.2.2.2.1
abbrev rx_sc (G : rx_G) : Nat × (Nat → Int32) := G.2.2.2.2.2.2.2
def rx_ad (G : rx_G) (k : Nat) : Nat := if k = 1000000 then rx_ab G else if k = 1000001 then rx_aw G else if k = 1000002 then rx_af G else rx_base G + k
def rx_ev (G : rx_G) : Value → Value
  | .ref k => .ref (rx_ad G k)
  | v => v
theorem rx_ad_lt (G : rx_G) {k : Nat} (h : k < 1000000) : rx_ad G k = rx_base G + k := by
  unfold rx_ad
  rw [if_neg (by omega), if_neg (by omega), if_neg (by omega)]
theorem rx_ev_cat (G : rx_G) (v : Value) : (rx_ev G v).category = v.category := by cases v <;> rfl
theorem rx_cat_eq (G : rx_G) (st : List Value) : ((st.map (rx_ev G)).map fun v => v.category).sum = rx_cat st := by
  induction st with
  | nil => rfl
  | cons v st ih =>
    simp only [List.map_cons, List.sum_cons, ih, rx_ev_cat]
    cases v <;> simp [rx_cat, Value.category] <;> omega
def rx_at (G : rx_G) (c : rx_C) (a : Nat) (H : Heap) : Prop := match c with
  | .inl (n, .inl f) => H[a]? = some (arrV (rx_cI G) n (fun j => .int (f j)))
  | .inl (n, .inr (.inl f)) => H[a]? = some (arrV (rx_cJ G) n (fun j => .long (f j)))
  | .inl (n, .inr (.inr (.inr (.inr f)))) => H[a]? = some (arrV (rx_cP G) n (fun j => va_rf ((f j).map (rx_ad G))))
  | .inl _ => True
  | .inr (ci, fs) => ∃ r : vw_C, rx_cl[ci]? = some r ∧ fs.length = r.2.2 ∧ t_OB a ((rx_D G).1 ci) r.2.2 ((rx_D G).2 ci) H (vp_V (fs.map (rx_ev G)))
theorem rx_at.kept {G : rx_G} {c : rx_C} {a : Nat} {H H1 : Heap} (h : rx_at G c a H) (hq : H1[a]? = H[a]?) : rx_at G c a H1 := by
  unfold rx_at at h ⊢
  split at h
  · rw [hq]; exact h
  · rw [hq]; exact h
  · rw [hq]; exact h
  · trivial
  · obtain ⟨r, h1, h2, h3⟩ := h
    exact ⟨r, h1, h2, h3.kept hq⟩
def rx_R (G : rx_G) (h : rx_H) (H : Heap) : Prop := (∀ (k : Nat) (c : rx_C), h.2[k]? = some c → rx_at G c (rx_base G + k) H) ∧ H.size = rx_base G + h.2.length ∧ h.2.length ≤ 999999 ∧ (∀ q, q < rx_base G → H[q]? = (rx_H0 G)[q]?) ∧ h.1 = rx_sc G
/-- one cell is another one -/
theorem rx_R.set {G : rx_G} {h : rx_H} {H H1 : Heap} (hR : rx_R G h H) {r : Nat} {c c1 : rx_C} (hr : h.2[r]? = some c) (hc : rx_at G c1 (rx_base G + r) H1) (hz : H1.size = H.size) (ho : ∀ q, q ≠ rx_base G + r → H1[q]? = H[q]?) : rx_R G (h.1, h.2.set r c1) H1 := by
  obtain ⟨h1, h2, h3, h4, h5⟩ := hR
  refine ⟨fun k c2 hk => ?_, by rw [hz, h2]; simp, by simpa using h3, fun q hq => by rw [ho q (by omega)]; exact h4 q hq, h5⟩
  by_cases hkr : r = k
  · subst hkr
    have hlt := (List.getElem?_eq_some_iff.mp hr).1
    simp only [List.getElem?_set_self hlt] at hk
    cases hk
    exact hc
  · simp only [List.getElem?_set_ne hkr] at hk
    exact (h1 k c2 hk).kept (ho _ (by omega))
/-- a cell more -/
theorem rx_R.push {G : rx_G} {h : rx_H} {H H1 : Heap} (hR : rx_R G h H) {c1 : rx_C} (hl : h.2.length < 999999) (hc : rx_at G c1 (rx_base G + h.2.length) H1) (hz : H1.size = H.size + 1) (ho : ∀ q, q < H.size → H1[q]? = H[q]?) : rx_R G (h.1, h.2 ++ [c1]) H1 := by
  obtain ⟨h1, h2, h3, h4, h5⟩ := hR
  refine ⟨fun k c2 hk => ?_, by rw [hz, h2]; simp; omega, by simp; omega, fun q hq => by rw [ho q (by omega)]; exact h4 q hq, h5⟩
  by_cases hkl : k < h.2.length
  · rw [List.getElem?_append_left hkl] at hk
    exact (h1 k c2 hk).kept (ho _ (by omega))
  · rw [List.getElem?_append_right (by omega)] at hk
    have hz1 : k - h.2.length < 1 := (List.getElem?_eq_some_iff.mp hk).1
    have he : k = h.2.length := by omega
    subst he
    simp at hk
    subst hk
    exact hc
def rx_tys (G : rx_G) : List (ClassId × FieldType) := [(rx_cI G, .int), (rx_cJ G, .long), (rx_cP G, .object "SetHouse$Place")]
def rx_yP : MethodName := ⟨"SetHouse$Place", "<init>", "()V"⟩
def rx_yS : MethodName := ⟨"SetHouse$Seeker", "<init>", "()V"⟩
/-- an array that was there before -/
def rx_old (G : rx_G) (a : Nat) (ty : FieldType) (n : Nat) (f : Nat → Value) (U : State) : Prop := a < rx_base G ∧ ∃ scr : Cell, (rx_H0 G)[a]? = some scr ∧ U.isArrayOf scr ty ∧ scr.vm ≠ .unknown ∧ scr.slots.size = n ∧ ∀ j, j < n → scr.slots[j]? = some (f j)
/-- words that a throw takes, and that hold on though they aren't among rx_TB -/
def rx_TE : List Cond := lw_tbl.filter (fun w => w.onTables && w.keepsFace)
theorem rx_te {w : Cond} {i : Nat} (h : lw_tbl[i]? = some w) (hg : (w.onTables && w.keepsFace) = true) : w ∈ rx_TE := List.mem_filter.mpr ⟨List.mem_of_getElem? h, hg⟩
/-- what a throw takes: words, the two statics of Throwable, the four texts; one class of exceptions is not the other -/
def rx_KE (G : rx_G) (U : State) : Prop := (∀ w ∈ rx_TE, va_Nw w U) ∧ vx_Zq Bundle.tN "UNASSIGNED_STACK" Bundle.steD (fun q => rx_base G ≤ q) U (rx_H0 G) ∧ vx_Zq Bundle.tN "SUPPRESSED_SENTINEL" Bundle.listD (fun q => rx_base G ≤ q) U (rx_H0 G) ∧
  (∃ a, vk_R "SetHouse$Kinds" 91 "the FAILURE of a FAMILY that has a t" a U) ∧ (∃ a, vk_R "SetHouse" 254 "no such PLACE" a U) ∧ (∃ a, vk_R "SetHouse" 265 "no ROW there" a U) ∧ (∃ a, vk_R "SetHouse" 268 "the ROW has no such place" a U) ∧
  va_Nc "java/lang/IllegalStateException" "java/lang/IllegalArgumentException" U
theorem rx_KE.warm {G : rx_G} {s U : State} (hW : s.WarmedH U.vm) (h : rx_KE G s) : rx_KE G U := by
  obtain ⟨h1, h2, h3, ⟨a4, h4⟩, ⟨a5, h5⟩, ⟨a6, h6⟩, ⟨a7, h7⟩, h8⟩ := h
  refine ⟨fun w hw => ?_, h2.moved hW.alike, h3.moved hW.alike, ⟨a4, h4.warm hW⟩, ⟨a5, h5.warm hW⟩, ⟨a6, h6.warm hW⟩, ⟨a7, h7.warm hW⟩, h8.moved hW.alike⟩
  have hg := (List.mem_filter.mp hw).2
  rw [Bool.and_eq_true] at hg
  exact va_tabs hg.1 (rfl : (s.setVm U.vm).vm = U.vm) (Cond.before_shiftedFace (State.Shifted.of_warmed hW) w hg.2 (h1 w hw))
theorem rx_KE.same {G : rx_G} {s U : State} (hv : s.vm = U.vm) (h : rx_KE G s) : rx_KE G U := by
  obtain ⟨h1, h2, h3, ⟨a4, h4⟩, ⟨a5, h5⟩, ⟨a6, h6⟩, ⟨a7, h7⟩, h8⟩ := h
  have ha : s.vm.Alike U.vm := by rw [hv]; exact Vm.Alike.refl _
  refine ⟨fun w hw => ?_, h2.moved ha, h3.moved ha, ⟨a4, h4.same hv.symm⟩, ⟨a5, h5.same hv.symm⟩, ⟨a6, h6.same hv.symm⟩, ⟨a7, h7.same hv.symm⟩, h8.moved ha⟩
  have hg := (List.mem_filter.mp hw).2
  rw [Bool.and_eq_true] at hg
  exact va_Nw.same hg.1 hv (h1 w hw)
def rx_Ks (G : rx_G) (U : State) : Prop := va_K (rx_D G) rx_cl (rx_tys G) U ∧ rx_old G (rx_ab G) .int (rx_sc G).1 (fun j => .int ((rx_sc G).2 j)) U ∧ (rx_H0 G).size = rx_base G ∧
  va_Z "SetHouse$Heap" "WITHOUT" "[J" (.ref (rx_aw G)) (fun q => rx_base G ≤ q) U (rx_H0 G) ∧ rx_old G (rx_aw G) .long 6 (fun j => .long (rx_W.getD j 0)) U ∧
  va_Z "SetHouse$Numbers" "FACTORIALS" "[I" (.ref (rx_af G)) (fun q => rx_base G ≤ q) U (rx_H0 G) ∧ rx_old G (rx_af G) .int 7 (fun j => .int (rx_F.getD j 0)) U ∧
  va_Nw (.methodLinkNest "SetHouse" 28 rx_yP "SetHouse") U ∧ va_Nw (.methodLinkNest "SetHouse" 41 rx_yS "SetHouse") U ∧ va_AO "SetHouse$Place" U ∧ rx_KE G U
theorem rx_old.moved {G : rx_G} {a n : Nat} {ty : FieldType} {f : Nat → Value} {u U : State} (hvm : u.vm.Alike U.vm) (h : rx_old G a ty n f u) : rx_old G a ty n f U := by
  obtain ⟨h0, scr, h1, h2, h3⟩ := h
  exact ⟨h0, scr, h1, State.isArrayOf_alike hvm h2, h3⟩
theorem rx_Ks.warm {G : rx_G} {s U : State} (hW : s.WarmedH U.vm) (h : rx_Ks G s) : rx_Ks G U := by
  obtain ⟨h1, h2, h3, h4, h5, h6, h7, h8, h9, h10, h11⟩ := h
  have ha := hW.alike
  exact ⟨h1.moved ha, h2.moved ha, h3, h4.moved ha, h5.moved ha, h6.moved ha, h7.moved ha, va_Nw.warmM hW h8, va_Nw.warmM hW h9, h10.moved ha, h11.warm hW⟩
theorem rx_Ks.same {G : rx_G} {s U : State} (hv : s.vm = U.vm) (h : rx_Ks G s) : rx_Ks G U := by
  obtain ⟨h1, h2, h3, h4, h5, h6, h7, h8, h9, h10, h11⟩ := h
  have ha : s.vm.Alike U.vm := by rw [hv]; exact Vm.Alike.refl _
  exact ⟨h1.moved ha, h2.moved ha, h3, h4.moved ha, h5.moved ha, h6.moved ha, h7.moved ha, va_Nw.same rfl hv h8, va_Nw.same rfl hv h9, h10.moved ha, h11.same hv⟩
/-! locals -/
def rx_lo (G : rx_G) (ls : Array Slot) (nL : Nat) (als : rx_L) : Prop := als.length = nL ∧ ls.size = nL ∧ lv_wf ls ∧ ∀ (i : Nat) (v : Value), als[i]? = some (some v) → ls[i]? = some (.val (rx_ev G v))
def rx_ll (G : rx_G) (als : rx_L) : List (Nat × Value) := (List.range als.length).filterMap fun i => match als[i]? with
  | some (some v) => some (i, rx_ev G v)
  | _ => none
theorem rx_ll_mem {G : rx_G} {als : rx_L} {i : Nat} {v : Value} (h : als[i]? = some (some v)) : (i, rx_ev G v) ∈ rx_ll G als := by
  refine List.mem_filterMap.mpr ⟨i, List.mem_range.mpr (List.getElem?_eq_some_iff.mp h).1, ?_⟩
  rw [h]
theorem rx_lo.has {G : rx_G} {ls : Array Slot} {nL : Nat} {als : rx_L} (h : rx_lo G ls nL als) : lv_has ls nL (rx_ll G als) := by
  obtain ⟨h0, h1, h2, h3⟩ := h
  refine ⟨h1, h2, fun q hq => ?_⟩
  obtain ⟨i, -, hi⟩ := List.mem_filterMap.mp hq
  split at hi
  · next v hv => cases hi; exact h3 i v hv
  · cases hi
theorem rx_lg_some {als : rx_L} {i : Nat} {v : Value} (h : rx_lg als i = some v) : als[i]? = some (some v) := by
  unfold rx_lg at h
  split at h
  · next w hw => cases h; exact hw
  · cases h
theorem rx_kill_len (als : rx_L) (i : Nat) : (rx_kill als i).length = als.length := by
  unfold rx_kill
  split
  · rfl
  · split <;> simp
theorem rx_kill_get {als : rx_L} {i j : Nat} {v : Value} (h : (rx_kill als i)[j]? = some (some v)) : als[j]? = some (some v) ∧ ¬ (j + 1 = i ∧ v.category = 2) := by
  unfold rx_kill at h
  split at h
  · exact ⟨h, fun q => by omega⟩
  · next j0 =>
    split at h
    · by_cases hj : j0 = j
      · subst hj
        exfalso
        rw [List.getElem?_set] at h
        simp at h
      · rw [List.getElem?_set_ne hj] at h
        exact ⟨h, fun q => hj (by omega)⟩
    · by_cases hj : j0 = j
      · subst hj
        exfalso
        rw [List.getElem?_set] at h
        simp at h
      · rw [List.getElem?_set_ne hj] at h
        exact ⟨h, fun q => hj (by omega)⟩
    · next n1 n2 =>
      refine ⟨h, fun q => ?_⟩
      have hj : j0 = j := by omega
      subst hj
      cases v with
      | long x => exact n1 x h
      | double x => exact n2 x h
      | _ => simp [Value.category] at q
theorem rx_s1_ok {G : rx_G} {ls' : Array Slot} {nL i : Nat} {als : rx_L} {v : Value} (hn : als.length = nL) (hi : i < nL) (h : lv_has ls' nL ((i, rx_ev G v) :: (rx_ll G als).filter (fun q => !(q.1 == i) && !(q.1 + 1 == i && q.2.category == 2)))) : rx_lo G ls' nL (rx_s1 als i v) := by
  obtain ⟨h1, h2, h3⟩ := h
  refine ⟨by simp [rx_s1, rx_kill_len, hn], h1, h2, fun j w hw => ?_⟩
  unfold rx_s1 at hw
  by_cases hj : i = j
  · subst hj
    rw [List.getElem?_set_self (by rw [rx_kill_len]; omega)] at hw
    cases hw
    exact h3 _ List.mem_cons_self
  · rw [List.getElem?_set_ne hj] at hw
    obtain ⟨g1, g2⟩ := rx_kill_get hw
    refine h3 (j, rx_ev G w) (List.mem_cons_of_mem _ (List.mem_filter.mpr ⟨rx_ll_mem g1, ?_⟩))
    have hj2 : ¬ j = i := fun q => hj q.symm
    simp [rx_ev_cat, hj2]
    by_cases q1 : j + 1 = i
    · exact Or.inr fun q2 => g2 ⟨q1, q2⟩
    · exact Or.inl q1
theorem rx_s2_ok {G : rx_G} {ls' : Array Slot} {nL i : Nat} {als : rx_L} {v : Value} (hn : als.length = nL) (hi : i + 1 < nL) (h : lv_has ls' nL ((i, rx_ev G v) :: (rx_ll G als).filter (fun q => !(q.1 == i) && (!(q.1 == i + 1) && !(q.1 + 1 == i && q.2.category == 2))))) : rx_lo G ls' nL (rx_s2 als i v) := by
  obtain ⟨h1, h2, h3⟩ := h
  refine ⟨by simp [rx_s2, rx_kill_len, hn], h1, h2, fun j w hw => ?_⟩
  unfold rx_s2 at hw
  by_cases hj1 : i + 1 = j
  · subst hj1
    exfalso
    rw [List.getElem?_set] at hw
    simp at hw
  rw [List.getElem?_set_ne hj1] at hw
  by_cases hj : i = j
  · subst hj
    rw [List.getElem?_set_self (by rw [rx_kill_len]; omega)] at hw
    cases hw
    exact h3 _ List.mem_cons_self
  · rw [List.getElem?_set_ne hj] at hw
    obtain ⟨g1, g2⟩ := rx_kill_get hw
    refine h3 (j, rx_ev G w) (List.mem_cons_of_mem _ (List.mem_filter.mpr ⟨rx_ll_mem g1, ?_⟩))
    have hj2 : ¬ j = i := fun q => hj q.symm
    have hj3 : ¬ j = i + 1 := fun q => hj1 q.symm
    simp [rx_ev_cat, hj2, hj3]
    by_cases q1 : j + 1 = i
    · exact Or.inr fun q2 => g2 ⟨q1, q2⟩
    · exact Or.inl q1
/-- less is known of the locals -/
def rx_le (a b : rx_L) : Prop := a.length = b.length ∧ ∀ (i : Nat) (v : Value), a[i]? = some (some v) → b[i]? = some (some v)
theorem rx_lo.le {G : rx_G} {ls : Array Slot} {nL : Nat} {a b : rx_L} (h : rx_lo G ls nL b) (hl : rx_le a b) : rx_lo G ls nL a := ⟨hl.1.trans h.1, h.2.1, h.2.2.1, fun i v hi => h.2.2.2 i v (hl.2 i v hi)⟩
/-! how many slots -/
def rx_sl1 : rx_C → Nat
  | .inl a => a.1
  | .inr o => o.2.length
def rx_sl (h : rx_H) : Nat := (h.2.map rx_sl1).sum
theorem rx_sl_set {h : rx_H} {r : Nat} {c c1 : rx_C} (hr : h.2[r]? = some c) (he : rx_sl1 c1 = rx_sl1 c) : rx_sl (h.1, h.2.set r c1) = rx_sl h := by
  obtain ⟨sc, cs⟩ := h
  unfold rx_sl
  dsimp only at hr ⊢
  induction cs generalizing r with
  | nil => simp at hr
  | cons x xs ih =>
    cases r with
    | zero =>
      simp at hr
      subst hr
      simp [he]
    | succ r =>
      simp at hr
      have h2 := ih hr
      simp only [List.set_cons_succ, List.map_cons, List.sum_cons, h2]
theorem rx_sl_push (h : rx_H) (c1 : rx_C) : rx_sl (h.1, h.2 ++ [c1]) = rx_sl h + rx_sl1 c1 := by
  unfold rx_sl
  simp
end
section
/-! ===== One instruction of the small machine is one of the machine's ===== -/
abbrev rx_Z : Type := (Program × Launch × Env × Room × State × MethodId × Array Value × List Frame × Method × Code) × ((State → Prop) × Nat × rx_G × rx_H × Nat × Nat × Nat × Nat × Nat × ByteArray × String × Bool × Bool)
abbrev zP (Z : rx_Z) : Program := Z.1.1
abbrev zL (Z : rx_Z) : Launch := Z.1.2.1
abbrev zE (Z : rx_Z) : Env := Z.1.2.2.1
abbrev zR (Z : rx_Z) : Room := Z.1.2.2.2.1
abbrev zS (Z : rx_Z) : State := Z.1.2.2.2.2.1
abbrev zM (Z : rx_Z) : MethodId := Z.1.2.2.2.2.2.1
abbrev zA (Z : rx_Z) : Array Value := Z.1.2.2.2.2.2.2.1
abbrev zB (Z : rx_Z) : List Frame := Z.1.2.2.2.2.2.2.2.1
abbrev zMe (Z : rx_Z) : Method := Z.1.2.2.2.2.2.2.2.2.1
abbrev zC (Z : rx_Z) : Code := Z.1.2.2.2.2.2.2.2.2.2
abbrev zQ (Z : rx_Z) : State → Prop := Z.2.1
abbrev zn (Z : rx_Z) : Nat := Z.2.2.1
abbrev zG (Z : rx_Z) : rx_G := Z.2.2.2.1
abbrev zh (Z : rx_Z) : rx_H := Z.2.2.2.2.1
abbrev zn0 (Z : rx_Z) : Nat := Z.2.2.2.2.2.1
abbrev zs0 (Z : rx_Z) : Nat := Z.2.2.2.2.2.2.1
abbrev zn1 (Z : rx_Z) : Nat := Z.2.2.2.2.2.2.2.1
abbrev zs1 (Z : rx_Z) : Nat := Z.2.2.2.2.2.2.2.2.1
abbrev zd (Z : rx_Z) : Nat := Z.2.2.2.2.2.2.2.2.2.1
abbrev zcc (Z : rx_Z) : ByteArray := Z.2.2.2.2.2.2.2.2.2.2.1
abbrev zo (Z : rx_Z) : String := Z.2.2.2.2.2.2.2.2.2.2.2.1
abbrev zi (Z : rx_Z) : Bool := Z.2.2.2.2.2.2.2.2.2.2.2.2.1
abbrev zb (Z : rx_Z) : Bool := Z.2.2.2.2.2.2.2.2.2.2.2.2.2
abbrev zW (Z : rx_Z) (H : Heap) (locs : List Loc) (cells slots : Nat) (g : JFrame) : Prop := W (zP Z) (zL Z) (zE Z) (zR Z) (zS Z) (zM Z) (zA Z) (zB Z) (zMe Z) (zC Z) H locs cells slots (zQ Z) g
/-- the frame: the machine, the code, the words, what is known of the heap at the start, the room -/
def rx_Fr (Z : rx_Z) : Prop := (zP Z).tables.exec = Jvm.exec ∧ (zC Z).code = zcc Z ∧ (zC Z).maxLocals = zn Z ∧ (zS Z).vm.findClass (zo Z) = some (zM Z).cls ∧ (∀ w ∈ rx_TB, w.before (zA Z) (zS Z) = true) ∧ rx_Ks (zG Z) (zS Z) ∧ (zi Z = true → (zMe Z).name = "<init>") ∧
  zd Z + 1 ≤ (zR Z).frames ∧ 64 * (zd Z + 1) ≤ (zR Z).locals ∧ zn1 Z - zn0 Z ≤ (zR Z).cells ∧ zs1 Z - zs0 Z ≤ (zR Z).slots
abbrev rx_u (Z : rx_Z) (u : Option rx_H) : rx_H := u.getD (zh Z)
/-- from here the machine comes to its end -/
def rx_WS (Z : rx_Z) (pc : Nat) (als : rx_L) (st : List Value) (u : Option rx_H) : Prop := ∀ (H : Heap) (ls : Array Slot) (locs : List Loc), rx_R (zG Z) (rx_u Z u) H → rx_lo (zG Z) ls (zn Z) als → (∀ q ∈ locs, rx_base (zG Z) ≤ q.base) →
  zW Z H locs ((rx_u Z u).2.length - zn0 Z) (rx_sl (rx_u Z u) - zs0 Z) (F0 (zM Z) pc ls (st.map (rx_ev (zG Z))))
def rx_O (Z : rx_Z) (pc : Nat) (als : rx_L) (st : List Value) (u : Option rx_H) : Prop := zn0 Z ≤ (rx_u Z u).2.length → zs0 Z ≤ rx_sl (rx_u Z u) → ((rx_u Z u).2.length ≤ zn1 Z ∧ rx_sl (rx_u Z u) ≤ zs1 Z) ∧ rx_WS Z pc als st u
theorem rx_O.map {Z : rx_Z} {pc pc' : Nat} {als als' : rx_L} {st st' : List Value} {u : Option rx_H} (h : rx_O Z pc als st u) (f : rx_WS Z pc als st u → rx_WS Z pc' als' st' u) : rx_O Z pc' als' st' u := fun h1 h2 => ⟨(h h1 h2).1, f (h h1 h2).2⟩
theorem rx_O.le {Z : rx_Z} {pc : Nat} {a b : rx_L} {st : List Value} {u : Option rx_H} (h : rx_O Z pc a st u) (hl : rx_le a b) : rx_O Z pc b st u := h.map fun k H ls locs h1 h2 h3 => k H ls locs h1 (h2.le hl) h3
section rxT
variable {Z : rx_Z} {pc : Nat} {als : rx_L} {st : List Value} {u : Option rx_H}
theorem rx_t_iadd (F : rx_Fr Z) {x y : Int32} (hd : decode (zcc Z) pc = .ok (.iadd, 1)) (k : rx_WS Z (pc + 1) als (.int (x + y) :: st) u) : rx_WS Z pc als (.int y :: .int x :: st) u := fun H ls locs h1 h2 h3 => lv_iadd F.1 F.2.1 hd (k H ls locs h1 h2 h3)
theorem rx_t_isub (F : rx_Fr Z) {x y : Int32} (hd : decode (zcc Z) pc = .ok (.isub, 1)) (k : rx_WS Z (pc + 1) als (.int (x - y) :: st) u) : rx_WS Z pc als (.int y :: .int x :: st) u := fun H ls locs h1 h2 h3 => lv_isub F.1 F.2.1 hd (k H ls locs h1 h2 h3)
theorem rx_t_imul (F : rx_Fr Z) {x y : Int32} (hd : decode (zcc Z) pc = .ok (.imul, 1)) (k : rx_WS Z (pc + 1) als (.int (x * y) :: st) u) : rx_WS Z pc als (.int y :: .int x :: st) u := fun H ls locs h1 h2 h3 => lv_imul F.1 F.2.1 hd (k H ls locs h1 h2 h3)
theorem rx_t_iand (F : rx_Fr Z) {x y : Int32} (hd : decode (zcc Z) pc = .ok (.iand, 1)) (k : rx_WS Z (pc + 1) als (.int (x &&& y) :: st) u) : rx_WS Z pc als (.int y :: .int x :: st) u := fun H ls locs h1 h2 h3 => lv_iand F.1 F.2.1 hd (k H ls locs h1 h2 h3)
theorem rx_t_ior (F : rx_Fr Z) {x y : Int32} (hd : decode (zcc Z) pc = .ok (.ior, 1)) (k : rx_WS Z (pc + 1) als (.int (x ||| y) :: st) u) : rx_WS Z pc als (.int y :: .int x :: st) u := fun H ls locs h1 h2 h3 => lv_ior F.1 F.2.1 hd (k H ls locs h1 h2 h3)
theorem rx_t_ixor (F : rx_Fr Z) {x y : Int32} (hd : decode (zcc Z) pc = .ok (.ixor, 1)) (k : rx_WS Z (pc + 1) als (.int (x ^^^ y) :: st) u) : rx_WS Z pc als (.int y :: .int x :: st) u := fun H ls locs h1 h2 h3 => lv_ixor F.1 F.2.1 hd (k H ls locs h1 h2 h3)
theorem rx_t_ishl (F : rx_Fr Z) {x y : Int32} (hd : decode (zcc Z) pc = .ok (.ishl, 1)) (k : rx_WS Z (pc + 1) als (.int (x <<< (y &&& 31)) :: st) u) : rx_WS Z pc als (.int y :: .int x :: st) u := fun H ls locs h1 h2 h3 => lv_ishl F.1 F.2.1 hd (k H ls locs h1 h2 h3)
theorem rx_t_ishr (F : rx_Fr Z) {x y : Int32} (hd : decode (zcc Z) pc = .ok (.ishr, 1)) (k : rx_WS Z (pc + 1) als (.int (x >>> (y &&& 31)) :: st) u) : rx_WS Z pc als (.int y :: .int x :: st) u := fun H ls locs h1 h2 h3 => lv_ishr F.1 F.2.1 hd (k H ls locs h1 h2 h3)
theorem rx_t_iushr (F : rx_Fr Z) {x y : Int32} (hd : decode (zcc Z) pc = .ok (.iushr, 1)) (k : rx_WS Z (pc + 1) als (.int ((x.toUInt32 >>> (y.toUInt32 &&& Int32.toUInt32 31)).toInt32) :: st) u) : rx_WS Z pc als (.int y :: .int x :: st) u := fun H ls locs h1 h2 h3 => lv_iushr F.1 F.2.1 hd rfl (k H ls locs h1 h2 h3)
theorem rx_t_ineg (F : rx_Fr Z) {x : Int32} (hd : decode (zcc Z) pc = .ok (.ineg, 1)) (k : rx_WS Z (pc + 1) als (.int (-x) :: st) u) : rx_WS Z pc als (.int x :: st) u := fun H ls locs h1 h2 h3 => lv_ineg F.1 F.2.1 hd (k H ls locs h1 h2 h3)
theorem rx_t_idiv (F : rx_Fr Z) {x y : Int32} (hy : ¬ y = 0) (hd : decode (zcc Z) pc = .ok (.idiv, 1)) (k : rx_WS Z (pc + 1) als (.int (x / y) :: st) u) : rx_WS Z pc als (.int y :: .int x :: st) u := fun H ls locs h1 h2 h3 => lv_idiv F.1 F.2.1 hd hy (k H ls locs h1 h2 h3)
theorem rx_t_irem (F : rx_Fr Z) {x y : Int32} (hy : ¬ y = 0) (hd : decode (zcc Z) pc = .ok (.irem, 1)) (k : rx_WS Z (pc + 1) als (.int (x - x / y * y) :: st) u) : rx_WS Z pc als (.int y :: .int x :: st) u := fun H ls locs h1 h2 h3 => lv_irem F.1 F.2.1 hd hy (k H ls locs h1 h2 h3)
theorem rx_t_ladd (F : rx_Fr Z) {x y : Int64} (hd : decode (zcc Z) pc = .ok (.ladd, 1)) (k : rx_WS Z (pc + 1) als (.long (x + y) :: st) u) : rx_WS Z pc als (.long y :: .long x :: st) u := fun H ls locs h1 h2 h3 => lv_ladd F.1 F.2.1 hd (k H ls locs h1 h2 h3)
theorem rx_t_lsub (F : rx_Fr Z) {x y : Int64} (hd : decode (zcc Z) pc = .ok (.lsub, 1)) (k : rx_WS Z (pc + 1) als (.long (x - y) :: st) u) : rx_WS Z pc als (.long y :: .long x :: st) u := fun H ls locs h1 h2 h3 => lv_lsub F.1 F.2.1 hd (k H ls locs h1 h2 h3)
theorem rx_t_lmul (F : rx_Fr Z) {x y : Int64} (hd : decode (zcc Z) pc = .ok (.lmul, 1)) (k : rx_WS Z (pc + 1) als (.long (x * y) :: st) u) : rx_WS Z pc als (.long y :: .long x :: st) u := fun H ls locs h1 h2 h3 => lv_lmul F.1 F.2.1 hd (k H ls locs h1 h2 h3)
theorem rx_t_land (F : rx_Fr Z) {x y : Int64} (hd : decode (zcc Z) pc = .ok (.land, 1)) (k : rx_WS Z (pc + 1) als (.long (x &&& y) :: st) u) : rx_WS Z pc als (.long y :: .long x :: st) u := fun H ls locs h1 h2 h3 => lv_land F.1 F.2.1 hd (k H ls locs h1 h2 h3)
theorem rx_t_lor (F : rx_Fr Z) {x y : Int64} (hd : decode (zcc Z) pc = .ok (.lor, 1)) (k : rx_WS Z (pc + 1) als (.long (x ||| y) :: st) u) : rx_WS Z pc als (.long y :: .long x :: st) u := fun H ls locs h1 h2 h3 => lv_lor F.1 F.2.1 hd (k H ls locs h1 h2 h3)
theorem rx_t_lxor (F : rx_Fr Z) {x y : Int64} (hd : decode (zcc Z) pc = .ok (.lxor, 1)) (k : rx_WS Z (pc + 1) als (.long (x ^^^ y) :: st) u) : rx_WS Z pc als (.long y :: .long x :: st) u := fun H ls locs h1 h2 h3 => lv_lxor F.1 F.2.1 hd (k H ls locs h1 h2 h3)
theorem rx_t_ldiv (F : rx_Fr Z) {x y : Int64} (hy : ¬ y = 0) (hd : decode (zcc Z) pc = .ok (.ldiv, 1)) (k : rx_WS Z (pc + 1) als (.long (x / y) :: st) u) : rx_WS Z pc als (.long y :: .long x :: st) u := fun H ls locs h1 h2 h3 => lv_ldiv F.1 F.2.1 hd hy (k H ls locs h1 h2 h3)
theorem rx_t_lneg (F : rx_Fr Z) {x : Int64} (hd : decode (zcc Z) pc = .ok (.lneg, 1)) (k : rx_WS Z (pc + 1) als (.long (-x) :: st) u) : rx_WS Z pc als (.long x :: st) u := fun H ls locs h1 h2 h3 => lv_lneg F.1 F.2.1 hd (k H ls locs h1 h2 h3)
theorem rx_t_lshl (F : rx_Fr Z) {x : Int64} {y : Int32} (hd : decode (zcc Z) pc = .ok (.lshl, 1)) (k : rx_WS Z (pc + 1) als (.long (x <<< (y.toInt64 &&& 63)) :: st) u) : rx_WS Z pc als (.int y :: .long x :: st) u := fun H ls locs h1 h2 h3 => lv_lshl F.1 F.2.1 hd rfl (k H ls locs h1 h2 h3)
theorem rx_t_lushr (F : rx_Fr Z) {x : Int64} {y : Int32} (hd : decode (zcc Z) pc = .ok (.lushr, 1)) (k : rx_WS Z (pc + 1) als (.long ((x.toUInt64 >>> (y.toInt64.toUInt64 &&& Int64.toUInt64 63)).toInt64) :: st) u) : rx_WS Z pc als (.int y :: .long x :: st) u := fun H ls locs h1 h2 h3 => lv_lushr F.1 F.2.1 hd rfl (k H ls locs h1 h2 h3)
theorem rx_t_i2l (F : rx_Fr Z) {x : Int32} (hd : decode (zcc Z) pc = .ok (.i2l, 1)) (k : rx_WS Z (pc + 1) als (.long x.toInt64 :: st) u) : rx_WS Z pc als (.int x :: st) u := fun H ls locs h1 h2 h3 => lv_i2l F.1 F.2.1 hd rfl (k H ls locs h1 h2 h3)
theorem rx_t_l2i (F : rx_Fr Z) {x : Int64} (hd : decode (zcc Z) pc = .ok (.l2i, 1)) (k : rx_WS Z (pc + 1) als (.int x.toInt32 :: st) u) : rx_WS Z pc als (.long x :: st) u := fun H ls locs h1 h2 h3 => lv_l2i F.1 F.2.1 hd rfl (k H ls locs h1 h2 h3)
theorem rx_t_i2b (F : rx_Fr Z) {x : Int32} (hd : decode (zcc Z) pc = .ok (.i2b, 1)) (k : rx_WS Z (pc + 1) als (.int x.toInt8.toInt32 :: st) u) : rx_WS Z pc als (.int x :: st) u := fun H ls locs h1 h2 h3 => lv_i2b F.1 F.2.1 hd rfl (k H ls locs h1 h2 h3)
theorem rx_t_iconst (F : rx_Fr Z) {n : Int} {v : Int32} (hv : Int32.ofInt n = v) (hd : decode (zcc Z) pc = .ok (.iconst n, 1)) (k : rx_WS Z (pc + 1) als (.int v :: st) u) : rx_WS Z pc als (st) u := fun H ls locs h1 h2 h3 => lv_iconst F.1 F.2.1 hd hv (k H ls locs h1 h2 h3)
theorem rx_t_bipush (F : rx_Fr Z) {n : Int} {v : Int32} (hv : (Int8.ofInt n).toInt32 = v) (hd : decode (zcc Z) pc = .ok (.bipush n, 2)) (k : rx_WS Z (pc + 2) als (.int v :: st) u) : rx_WS Z pc als (st) u := fun H ls locs h1 h2 h3 => lv_bipush F.1 F.2.1 hd hv (k H ls locs h1 h2 h3)
theorem rx_t_sipush (F : rx_Fr Z) {n : Int} {v : Int32} (hv : (Int16.ofInt n).toInt32 = v) (hd : decode (zcc Z) pc = .ok (.sipush n, 3)) (k : rx_WS Z (pc + 3) als (.int v :: st) u) : rx_WS Z pc als (st) u := fun H ls locs h1 h2 h3 => lv_sipush F.1 F.2.1 hd hv (k H ls locs h1 h2 h3)
theorem rx_t_lconst (F : rx_Fr Z) {n : Fin 2} {v : Int64} (hv : Int64.ofNat (n : Nat) = v) (hd : decode (zcc Z) pc = .ok (.lconst n, 1)) (k : rx_WS Z (pc + 1) als (.long v :: st) u) : rx_WS Z pc als (st) u := fun H ls locs h1 h2 h3 => lv_lconst F.1 F.2.1 hd hv (k H ls locs h1 h2 h3)
theorem rx_t_iload (F : rx_Fr Z) {i : Nat} {x : Int32} (hl : rx_lg als i = some (.int x)) (hd : decode (zcc Z) pc = .ok (.iload i, 2)) (k : rx_WS Z (pc + 2) als (.int x :: st) u) : rx_WS Z pc als st u := fun H ls locs h1 h2 h3 => lv_iload F.1 F.2.1 hd (h2.2.2.2 i _ (rx_lg_some hl)) (k H ls locs h1 h2 h3)
theorem rx_t_iload_n (F : rx_Fr Z) {i : Fin 4} {x : Int32} (hl : rx_lg als i.val = some (.int x)) (hd : decode (zcc Z) pc = .ok (.iload_n i, 1)) (k : rx_WS Z (pc + 1) als (.int x :: st) u) : rx_WS Z pc als st u := fun H ls locs h1 h2 h3 => lv_iload_n F.1 F.2.1 hd rfl (h2.2.2.2 i.val _ (rx_lg_some hl)) (k H ls locs h1 h2 h3)
theorem rx_t_istore (F : rx_Fr Z) {i : Nat} {x : Int32} (hi : i < zn Z) (hd : decode (zcc Z) pc = .ok (.istore i, 2)) (k : rx_WS Z (pc + 2) (rx_s1 als i (.int x)) st u) : rx_WS Z pc als (.int x :: st) u := fun H ls locs h1 h2 h3 => lv_istore F.1 F.2.1 hd h2.has hi rfl fun ls' hl => k H ls' locs h1 (rx_s1_ok h2.1 hi hl) h3
theorem rx_t_istore_n (F : rx_Fr Z) {i : Fin 4} {x : Int32} (hi : i.val < zn Z) (hd : decode (zcc Z) pc = .ok (.istore_n i, 1)) (k : rx_WS Z (pc + 1) (rx_s1 als i.val (.int x)) st u) : rx_WS Z pc als (.int x :: st) u := fun H ls locs h1 h2 h3 => lv_istore_n F.1 F.2.1 hd rfl h2.has hi rfl fun ls' hl => k H ls' locs h1 (rx_s1_ok h2.1 hi hl) h3
theorem rx_t_lload (F : rx_Fr Z) {i : Nat} {x : Int64} (hl : rx_lg als i = some (.long x)) (hd : decode (zcc Z) pc = .ok (.lload i, 2)) (k : rx_WS Z (pc + 2) als (.long x :: st) u) : rx_WS Z pc als st u := fun H ls locs h1 h2 h3 => lv_lload F.1 F.2.1 hd (h2.2.2.2 i _ (rx_lg_some hl)) (k H ls locs h1 h2 h3)
theorem rx_t_lload_n (F : rx_Fr Z) {i : Fin 4} {x : Int64} (hl : rx_lg als i.val = some (.long x)) (hd : decode (zcc Z) pc = .ok (.lload_n i, 1)) (k : rx_WS Z (pc + 1) als (.long x :: st) u) : rx_WS Z pc als st u := fun H ls locs h1 h2 h3 => lv_lload_n F.1 F.2.1 hd rfl (h2.2.2.2 i.val _ (rx_lg_some hl)) (k H ls locs h1 h2 h3)
theorem rx_t_lstore (F : rx_Fr Z) {i : Nat} {x : Int64} (hi : i + 1 < zn Z) (hd : decode (zcc Z) pc = .ok (.lstore i, 2)) (k : rx_WS Z (pc + 2) (rx_s2 als i (.long x)) st u) : rx_WS Z pc als (.long x :: st) u := fun H ls locs h1 h2 h3 => lv_lstore F.1 F.2.1 hd h2.has hi rfl fun ls' hl => k H ls' locs h1 (rx_s2_ok h2.1 hi hl) h3
theorem rx_t_lstore_n (F : rx_Fr Z) {i : Fin 4} {x : Int64} (hi : i.val + 1 < zn Z) (hd : decode (zcc Z) pc = .ok (.lstore_n i, 1)) (k : rx_WS Z (pc + 1) (rx_s2 als i.val (.long x)) st u) : rx_WS Z pc als (.long x :: st) u := fun H ls locs h1 h2 h3 => lv_lstore_n F.1 F.2.1 hd rfl h2.has hi rfl fun ls' hl => k H ls' locs h1 (rx_s2_ok h2.1 hi hl) h3
theorem rx_t_aload (F : rx_Fr Z) {i : Nat} {x : Nat} (hl : rx_lg als i = some (.ref x)) (hd : decode (zcc Z) pc = .ok (.aload i, 2)) (k : rx_WS Z (pc + 2) als (.ref x :: st) u) : rx_WS Z pc als st u := fun H ls locs h1 h2 h3 => lv_aload F.1 F.2.1 hd (h2.2.2.2 i _ (rx_lg_some hl)) (k H ls locs h1 h2 h3)
theorem rx_t_aload_n (F : rx_Fr Z) {i : Fin 4} {x : Nat} (hl : rx_lg als i.val = some (.ref x)) (hd : decode (zcc Z) pc = .ok (.aload_n i, 1)) (k : rx_WS Z (pc + 1) als (.ref x :: st) u) : rx_WS Z pc als st u := fun H ls locs h1 h2 h3 => lv_aload_n F.1 F.2.1 hd rfl (h2.2.2.2 i.val _ (rx_lg_some hl)) (k H ls locs h1 h2 h3)
theorem rx_t_astore (F : rx_Fr Z) {i : Nat} {x : Nat} (hi : i < zn Z) (hd : decode (zcc Z) pc = .ok (.astore i, 2)) (k : rx_WS Z (pc + 2) (rx_s1 als i (.ref x)) st u) : rx_WS Z pc als (.ref x :: st) u := fun H ls locs h1 h2 h3 => lv_astore F.1 F.2.1 hd h2.has hi rfl fun ls' hl => k H ls' locs h1 (rx_s1_ok h2.1 hi hl) h3
theorem rx_t_astore_n (F : rx_Fr Z) {i : Fin 4} {x : Nat} (hi : i.val < zn Z) (hd : decode (zcc Z) pc = .ok (.astore_n i, 1)) (k : rx_WS Z (pc + 1) (rx_s1 als i.val (.ref x)) st u) : rx_WS Z pc als (.ref x :: st) u := fun H ls locs h1 h2 h3 => lv_astore_n F.1 F.2.1 hd rfl h2.has hi rfl fun ls' hl => k H ls' locs h1 (rx_s1_ok h2.1 hi hl) h3
theorem rx_t_iinc (F : rx_Fr Z) {i : Nat} {n : Int} {x v : Int32} (hv : Int32.ofInt n = v) (hi : i < zn Z) (hl : rx_lg als i = some (.int x)) (hd : decode (zcc Z) pc = .ok (.iinc i n, 3)) (k : rx_WS Z (pc + 3) (rx_s1 als i (.int (x + v))) st u) : rx_WS Z pc als st u := fun H ls locs h1 h2 h3 => by
  obtain ⟨j, hj⟩ := List.getElem?_of_mem (rx_ll_mem (G := zG Z) (rx_lg_some hl))
  exact lv_iinc F.1 F.2.1 hd h2.has hj (by rw [hv]) hi rfl fun ls' hl => k H ls' locs h1 (rx_s1_ok h2.1 hi hl) h3
theorem rx_t_dupI (F : rx_Fr Z) {x : Int32} (hd : decode (zcc Z) pc = .ok (.dup, 1)) (k : rx_WS Z (pc + 1) als (.int x :: .int x :: st) u) : rx_WS Z pc als (.int x :: st) u := fun H ls locs h1 h2 h3 => lv_dup F.1 F.2.1 hd rfl (k H ls locs h1 h2 h3)
theorem rx_t_dupR (F : rx_Fr Z) {x : Nat} (hd : decode (zcc Z) pc = .ok (.dup, 1)) (k : rx_WS Z (pc + 1) als (.ref x :: .ref x :: st) u) : rx_WS Z pc als (.ref x :: st) u := fun H ls locs h1 h2 h3 => lv_dup F.1 F.2.1 hd rfl (k H ls locs h1 h2 h3)
theorem rx_t_dup2R (F : rx_Fr Z) {x : Int32} {y : Nat} (hd : decode (zcc Z) pc = .ok (.dup2, 1)) (k : rx_WS Z (pc + 1) als (.int x :: .ref y :: .int x :: .ref y :: st) u) : rx_WS Z pc als (.int x :: .ref y :: st) u := fun H ls locs h1 h2 h3 => lv_dup2_11 F.1 F.2.1 hd rfl rfl (k H ls locs h1 h2 h3)
theorem rx_t_dup2I (F : rx_Fr Z) {x y : Int32} (hd : decode (zcc Z) pc = .ok (.dup2, 1)) (k : rx_WS Z (pc + 1) als (.int x :: .int y :: .int x :: .int y :: st) u) : rx_WS Z pc als (.int x :: .int y :: st) u := fun H ls locs h1 h2 h3 => lv_dup2_11 F.1 F.2.1 hd rfl rfl (k H ls locs h1 h2 h3)
theorem rx_t_popI (F : rx_Fr Z) {x : Int32} (hd : decode (zcc Z) pc = .ok (.pop, 1)) (k : rx_WS Z (pc + 1) als (st) u) : rx_WS Z pc als (.int x :: st) u := fun H ls locs h1 h2 h3 => lv_pop F.1 F.2.1 hd rfl (k H ls locs h1 h2 h3)
theorem rx_t_popR (F : rx_Fr Z) {x : Nat} (hd : decode (zcc Z) pc = .ok (.pop, 1)) (k : rx_WS Z (pc + 1) als (st) u) : rx_WS Z pc als (.ref x :: st) u := fun H ls locs h1 h2 h3 => lv_pop F.1 F.2.1 hd rfl (k H ls locs h1 h2 h3)
theorem rx_t_ldc (F : rx_Fr Z) {i : Nat} {v : Int32} (hw : Jvm.Cond.constant (zo Z) i v ∈ rx_TB) (hd : decode (zcc Z) pc = .ok (.ldc i, 2)) (k : rx_WS Z (pc + 2) als (.int v :: st) u) : rx_WS Z pc als st u := fun H ls locs h1 h2 h3 => lv_ldc F.1 F.2.1 F.2.2.2.1 (F.2.2.2.2.1 _ hw) hd (k H ls locs h1 h2 h3)
theorem rx_t_ldc_w (F : rx_Fr Z) {i : Nat} {v : Int32} (hw : Jvm.Cond.constant (zo Z) i v ∈ rx_TB) (hd : decode (zcc Z) pc = .ok (.ldc_w i, 3)) (k : rx_WS Z (pc + 3) als (.int v :: st) u) : rx_WS Z pc als st u := fun H ls locs h1 h2 h3 => lv_ldcw F.1 F.2.1 F.2.2.2.1 (F.2.2.2.2.1 _ hw) hd (k H ls locs h1 h2 h3)
theorem rx_t_ldc2 (F : rx_Fr Z) {i : Nat} {v : Int64} (hw : Jvm.Cond.constantLong (zo Z) i v ∈ rx_TB) (hd : decode (zcc Z) pc = .ok (.ldc2_w i, 3)) (k : rx_WS Z (pc + 3) als (.long v :: st) u) : rx_WS Z pc als st u := fun H ls locs h1 h2 h3 => lv_ldc2 F.1 F.2.1 F.2.2.2.1 (F.2.2.2.2.1 _ hw) hd (k H ls locs h1 h2 h3)
theorem rx_t_goto (F : rx_Fr Z) {off : Int} {t : Nat} (ht : (pc : Int) + off = (t : Int)) (hd : decode (zcc Z) pc = .ok (.goto off, 3)) (k : rx_WS Z t als st u) : rx_WS Z pc als st u := fun H ls locs h1 h2 h3 => lv_goto F.1 F.2.1 hd ht (k H ls locs h1 h2 h3)
theorem rx_t_if (F : rx_Fr Z) {cd : ClassFile.Cond} {off : Int} {t : Nat} {x : Int32} (ht : (pc : Int) + off = (t : Int)) (hd : decode (zcc Z) pc = .ok (.ifCond cd off, 3)) {α : Type} {kt kf : Option α} {r : α} (h : rx_if cd x 0 kt kf = some r) (gt : kt = some r → rx_O Z t als st u) (gf : kf = some r → rx_O Z (pc + 3) als st u) : rx_O Z pc als (.int x :: st) u := by
  cases cd <;> simp only [rx_if] at h <;> split at h <;> rename_i hc
  · exact (gt h).map fun k H ls locs h1 h2 h3 => lv_if_eq F.1 F.2.1 hd ht (fun _ => k H ls locs h1 h2 h3) (fun q => absurd hc q)
  · exact (gf h).map fun k H ls locs h1 h2 h3 => lv_if_eq F.1 F.2.1 hd ht (fun q => absurd q hc) (fun _ => k H ls locs h1 h2 h3)
  · exact (gf h).map fun k H ls locs h1 h2 h3 => lv_if_ne F.1 F.2.1 hd ht (fun q => absurd hc q) (fun _ => k H ls locs h1 h2 h3)
  · exact (gt h).map fun k H ls locs h1 h2 h3 => lv_if_ne F.1 F.2.1 hd ht (fun _ => k H ls locs h1 h2 h3) (fun q => absurd q hc)
  · exact (gt h).map fun k H ls locs h1 h2 h3 => lv_if_lt F.1 F.2.1 hd ht (fun _ => k H ls locs h1 h2 h3) (fun q => absurd hc q)
  · exact (gf h).map fun k H ls locs h1 h2 h3 => lv_if_lt F.1 F.2.1 hd ht (fun q => absurd q hc) (fun _ => k H ls locs h1 h2 h3)
  · exact (gf h).map fun k H ls locs h1 h2 h3 => lv_if_ge F.1 F.2.1 hd ht (fun q => absurd hc (Int32.not_lt.mpr q)) (fun _ => k H ls locs h1 h2 h3)
  · exact (gt h).map fun k H ls locs h1 h2 h3 => lv_if_ge F.1 F.2.1 hd ht (fun _ => k H ls locs h1 h2 h3) (fun q => absurd (Int32.not_lt.mp hc) q)
  · exact (gt h).map fun k H ls locs h1 h2 h3 => lv_if_gt F.1 F.2.1 hd ht (fun _ => k H ls locs h1 h2 h3) (fun q => absurd hc q)
  · exact (gf h).map fun k H ls locs h1 h2 h3 => lv_if_gt F.1 F.2.1 hd ht (fun q => absurd q hc) (fun _ => k H ls locs h1 h2 h3)
  · exact (gf h).map fun k H ls locs h1 h2 h3 => lv_if_le F.1 F.2.1 hd ht (fun q => absurd hc (Int32.not_lt.mpr q)) (fun _ => k H ls locs h1 h2 h3)
  · exact (gt h).map fun k H ls locs h1 h2 h3 => lv_if_le F.1 F.2.1 hd ht (fun _ => k H ls locs h1 h2 h3) (fun q => absurd (Int32.not_lt.mp hc) q)
theorem rx_t_icmp (F : rx_Fr Z) {cd : ClassFile.Cond} {off : Int} {t : Nat} {x y : Int32} (ht : (pc : Int) + off = (t : Int)) (hd : decode (zcc Z) pc = .ok (.if_icmp cd off, 3)) {α : Type} {kt kf : Option α} {r : α} (h : rx_if cd x y kt kf = some r) (gt : kt = some r → rx_O Z t als st u) (gf : kf = some r → rx_O Z (pc + 3) als st u) : rx_O Z pc als (.int y :: .int x :: st) u := by
  cases cd <;> simp only [rx_if] at h <;> split at h <;> rename_i hc
  · exact (gt h).map fun k H ls locs h1 h2 h3 => lv_icmp_eq F.1 F.2.1 hd ht (fun _ => k H ls locs h1 h2 h3) (fun q => absurd hc q)
  · exact (gf h).map fun k H ls locs h1 h2 h3 => lv_icmp_eq F.1 F.2.1 hd ht (fun q => absurd q hc) (fun _ => k H ls locs h1 h2 h3)
  · exact (gf h).map fun k H ls locs h1 h2 h3 => lv_icmp_ne F.1 F.2.1 hd ht (fun q => absurd hc q) (fun _ => k H ls locs h1 h2 h3)
  · exact (gt h).map fun k H ls locs h1 h2 h3 => lv_icmp_ne F.1 F.2.1 hd ht (fun _ => k H ls locs h1 h2 h3) (fun q => absurd q hc)
  · exact (gt h).map fun k H ls locs h1 h2 h3 => lv_icmp_lt F.1 F.2.1 hd ht (fun _ => k H ls locs h1 h2 h3) (fun q => absurd hc q)
  · exact (gf h).map fun k H ls locs h1 h2 h3 => lv_icmp_lt F.1 F.2.1 hd ht (fun q => absurd q hc) (fun _ => k H ls locs h1 h2 h3)
  · exact (gf h).map fun k H ls locs h1 h2 h3 => lv_icmp_ge F.1 F.2.1 hd ht (fun q => absurd hc (Int32.not_lt.mpr q)) (fun _ => k H ls locs h1 h2 h3)
  · exact (gt h).map fun k H ls locs h1 h2 h3 => lv_icmp_ge F.1 F.2.1 hd ht (fun _ => k H ls locs h1 h2 h3) (fun q => absurd (Int32.not_lt.mp hc) q)
  · exact (gt h).map fun k H ls locs h1 h2 h3 => lv_icmp_gt F.1 F.2.1 hd ht (fun _ => k H ls locs h1 h2 h3) (fun q => absurd hc q)
  · exact (gf h).map fun k H ls locs h1 h2 h3 => lv_icmp_gt F.1 F.2.1 hd ht (fun q => absurd q hc) (fun _ => k H ls locs h1 h2 h3)
  · exact (gf h).map fun k H ls locs h1 h2 h3 => lv_icmp_le F.1 F.2.1 hd ht (fun q => absurd hc (Int32.not_lt.mpr q)) (fun _ => k H ls locs h1 h2 h3)
  · exact (gt h).map fun k H ls locs h1 h2 h3 => lv_icmp_le F.1 F.2.1 hd ht (fun _ => k H ls locs h1 h2 h3) (fun q => absurd (Int32.not_lt.mp hc) q)
theorem rx_ifJ_if {cd : ClassFile.Cond} {x y : Int64} {α : Type} {kt kf : Option α} : rx_ifJ cd x y kt kf = rx_if cd (lg_cmp x y) 0 kt kf := by
  have e1 : (lg_cmp x y = 0) = (x = y) := propext (lg_cmp_eq x y)
  have e2 : (lg_cmp x y < 0) = (x < y) := propext (lg_cmp_lt x y)
  have e3 : (0 < lg_cmp x y) = (y < x) := propext (lg_cmp_gt x y)
  cases cd <;> simp only [rx_ifJ, rx_if, e1, e2, e3]
theorem rx_t_lcmp (F : rx_Fr Z) {x y : Int64} (hd : decode (zcc Z) pc = .ok (.lcmp, 1)) (k : rx_O Z (pc + 1) als (.int (lg_cmp x y) :: st) u) : rx_O Z pc als (.long y :: .long x :: st) u := k.map fun k H ls locs h1 h2 h3 => W.lcmp F.1 F.2.1 hd (k H ls locs h1 h2 h3)
end rxT
end
section
/-! ===== Fields, arrays, new cells ===== -/
theorem rx_lin {a : Nat} {q : vw_C} (h : rx_cl[a]? = some q) : ∀ w ∈ u_ws q.1 q.2.1 q.2.2, w ∈ rx_TB := by
  match a, h with
  | 0, h => cases h; exact rx_l0
  | 1, h => cases h; exact rx_l1
  | 2, h => cases h; exact rx_l2
  | 3, h => cases h; exact rx_l3
  | n + 4, h => simp [rx_cl] at h
theorem rx_yok {a : Nat} {q : vw_C} (h : rx_cl[a]? = some q) : ∀ k, k < q.2.2 → parseFieldDescriptor (q.2.1 k).2.2.1 = some (rx_ty a k) := by
  match a, h with
  | 0, h => cases h; exact rx_yo0
  | 1, h => cases h; exact rx_yo1
  | 2, h => cases h; exact rx_yo2
  | 3, h => cases h; exact rx_yo3
  | n + 4, h => simp [rx_cl] at h
theorem rx_nok {a : Nat} {q : vw_C} (h : rx_cl[a]? = some q) : ∀ x, x < q.2.2 → ∀ y, y < q.2.2 → x ≠ y → (q.2.1 x).2.1 ≠ (q.2.1 y).2.1 := by
  match a, h with
  | 0, h => cases h; exact rx_n0
  | 1, h => cases h; exact rx_n1
  | 2, h => cases h; exact rx_n2
  | 3, h => cases h; exact rx_n3
  | n + 4, h => simp [rx_cl] at h
theorem rx_fd_some {u : Option rx_H} {r c k : Nat} {v : Value} (h : rx_fd u r c k = some v) : ∃ (h0 : rx_H) (fs : List Value), u = some h0 ∧ h0.2[r]? = some (.inr (c, fs)) ∧ fs[k]? = some v := by
  unfold rx_fd at h
  split at h
  · cases h
  · next h0 =>
    split at h
    · next c' fs hc =>
      split at h
      · next he => subst he; exact ⟨h0, fs, rfl, hc, h⟩
      · cases h
    · cases h
theorem rx_lt6 {h : rx_H} {G : rx_G} {H : Heap} (hR : rx_R G h H) {r : Nat} {c : rx_C} (hr : h.2[r]? = some c) : r < 1000000 := by
  have h1 := (List.getElem?_eq_some_iff.mp hr).1
  have h2 := hR.2.2.1
  omega
section rxH
variable {Z : rx_Z} {pc : Nat} {als : rx_L} {st : List Value} {u u' : Option rx_H}
theorem rx_t_getf (F : rx_Fr Z) {i a k r : Nat} {v : Value} {q : vw_C} (hc : rx_cl[a]? = some q) (hk : k < q.2.2) (hw : Cond.fieldLink (zo Z) i (q.2.1 k).1 (q.2.1 k).2.1 (q.2.1 k).2.2.1 ∈ rx_TB) (hf : rx_fd u r a k = some v) (hd : decode (zcc Z) pc = .ok (.getfield i, 3)) (kk : rx_WS Z (pc + 3) als (v :: st) u) : rx_WS Z pc als (.ref r :: st) u := by
  obtain ⟨h0, fs, rfl, hr, hv⟩ := rx_fd_some hf
  intro H ls locs h1 h2 h3
  have hk2 := kk H ls locs h1 h2 h3
  have hR : rx_R (zG Z) h0 H := h1
  obtain ⟨q', hq', hlen, cell, q1, q2, q3, q4⟩ := hR.1 r _ hr
  cases hc.symm.trans hq'
  obtain ⟨hS, hfc, kC, hkC, hkind⟩ := F.2.2.2.2.2.1.1.1 a _ hc
  obtain ⟨cf, kf, fi, f, hi, hsl⟩ := hS k hk
  show W _ _ _ _ _ _ _ _ _ _ H locs _ _ _ (F0 _ pc ls (.ref (rx_ad (zG Z) r) :: st.map (rx_ev (zG Z))))
  rw [rx_ad_lt _ (rx_lt6 hR hr)]
  refine W.getf F.1 F.2.1 F.2.2.2.1 (F.2.2.2.2.1 _ hw) hi (u_facts hfc hkC (u_lays F.2.2.2.2.1 (rx_lin hc) hk) hi).1 q1 (by rw [q3]; exact fun h => by cases h) (v := rx_ev (zG Z) v) ?_ rfl rfl hd hk2
  rw [hsl, q4 k hk]
  simp [vp_V, hv]
theorem rx_t_put (F : rx_Fr Z) {i a k r : Nat} {v : Value} {q : vw_C} (hc : rx_cl[a]? = some q) (hk : k < q.2.2) (hw : Cond.fieldLink (zo Z) i (q.2.1 k).1 (q.2.1 k).2.1 (q.2.1 k).2.2.1 ∈ rx_TB) (hn : narrow (rx_ty a k) (rx_ev (zG Z) v) = rx_ev (zG Z) v) (hfit : fits (rx_ty a k) (rx_ev (zG Z) v) = true) (hfin : (q.2.1 k).2.2.2 = false ∨ (zi Z = true ∧ (q.2.1 k).1 = zo Z))
    (hp : rx_p u r a k v = some u') (hd : decode (zcc Z) pc = .ok (.putfield i, 3)) (kk : rx_O Z (pc + 3) als st u') : rx_O Z pc als (v :: .ref r :: st) u := by
  unfold rx_p at hp
  split at hp
  · cases hp
  next h0 =>
  split at hp
  case h_2 => cases hp
  next c' fs hr =>
  split at hp
  case isFalse => cases hp
  next hcl =>
  obtain ⟨rfl, hl⟩ := hcl
  cases hp
  have el : (h0.2.set r (.inr (c', fs.set k v))).length = h0.2.length := by simp
  have es : rx_sl (h0.1, h0.2.set r (.inr (c', fs.set k v))) = rx_sl h0 := rx_sl_set hr (by simp [rx_sl1])
  intro g1 g2
  obtain ⟨g3, g4⟩ := kk (by show zn0 Z ≤ (h0.2.set r _).length; rw [el]; exact g1) (by show zs0 Z ≤ rx_sl (h0.1, h0.2.set r _); rw [es]; exact g2)
  refine ⟨⟨by show h0.2.length ≤ _; rw [← el]; exact g3.1, by show rx_sl h0 ≤ _; rw [← es]; exact g3.2⟩, ?_⟩
  intro H ls locs h1 h2 h3
  have hR : rx_R (zG Z) h0 H := h1
  obtain ⟨q', hq', hlen, cell, q1, q2, q3, q4⟩ := hR.1 r _ hr
  cases hc.symm.trans hq'
  have hK := F.2.2.2.2.2.1.1
  have hts := F.2.2.2.2.1
  obtain ⟨hS, hfc, kC, hkC, hkind⟩ := hK.1 c' _ hc
  obtain ⟨cf, kf, fi, f, hi, hsl⟩ := hS k hk
  have hap := va_apart (own := zo Z) hts (rx_lin hc) (rx_ty c') (rx_yok hc) (rx_nok hc) hK hc
  have hst := (u_facts hfc hkC (u_lays hts (rx_lin hc) hk) hi).1
  have hlay := hts _ (rx_lin hc _ (u_in_lay hk))
  show W _ _ _ _ _ _ _ _ _ _ H locs _ _ _ (F0 _ pc ls (rx_ev (zG Z) v :: .ref (rx_ad (zG Z) r) :: st.map (rx_ev (zG Z))))
  rw [rx_ad_lt _ (rx_lt6 hR hr)]
  have fin : ∀ H' : Heap, H'[rx_base (zG Z) + r]? = some (cell.setSlot f.slot (rx_ev (zG Z) v)) → H'.size = H.size → (∀ q, q ≠ rx_base (zG Z) + r → H'[q]? = H[q]?) →
      zW Z H' (locs ++ [⟨rx_base (zG Z) + r, f.slot⟩]) (h0.2.length - zn0 Z) (rx_sl h0 - zs0 Z) (F0 (zM Z) (pc + 3) ls (st.map (rx_ev (zG Z)))) := by
    intro H' e1 e2 e3
    rw [hsl] at e1
    have hc1 : rx_at (zG Z) (.inr (c', fs.set k v)) (rx_base (zG Z) + r) H' := by
      refine ⟨_, hc, by simpa using hlen, t_OB.to (V := updV (vp_V (fs.map (rx_ev (zG Z)))) k (rx_ev (zG Z) v)) ⟨_, e1, q2, q3, t_set q4 hap hk _⟩ (fun j _ => ?_)⟩
      rw [vp_updV_set (by simpa using hl), List.map_set]
    have := g4 H' ls (locs ++ [⟨rx_base (zG Z) + r, f.slot⟩]) (hR.set hr hc1 e2 e3) h2 (t_lc h3 (Nat.le_add_right _ _))
    have e5 : (rx_u Z (some (h0.1, h0.2.set r (.inr (c', fs.set k v))))).2.length = h0.2.length := el
    have e6 : rx_sl (rx_u Z (some (h0.1, h0.2.set r (.inr (c', fs.set k v))))) = rx_sl h0 := es
    rw [e5, e6] at this
    exact this
  by_cases hff : (q.2.1 k).2.2.2 = false
  · unfold u_lay at hlay
    rw [if_neg (by rw [hff]; decide)] at hlay
    have h6 := u_store hfc hkC hkind hlay hi (rx_yok hc k hk) hn hfit
    exact W.putK F.1 F.2.1 (f := f) ⟨F.2.2.2.1, hts _ hw, ⟨_, _, _, hi⟩, hst⟩ (by rw [q2]; exact h6) q1 q3 (by rw [hsl]; exact k2_hasslot (q4 k hk)) rfl rfl hd fin
  · have hft : (q.2.1 k).2.2.2 = true := by simpa using hff
    rcases hfin with hfin | ⟨hini, hdecl⟩
    · exact absurd hfin hff
    unfold u_lay at hlay
    rw [if_pos hft] at hlay
    have hcf : (zM Z).cls = cf := by
      obtain ⟨_, _, c2, _, _, _, -, -, hf', -, -, -, hown2, -⟩ := Cond.laysFinal_spec hlay
      have e1 : c2 = cf := by have := hi.symm.trans hf'; simp at this; exact this.1.symm
      rw [hdecl] at hown2
      rw [← e1]; exact Option.some.inj (F.2.2.2.1.symm.trans hown2)
    have h6 := u_fits hfc hkC hkind (Or.inr hlay) hi (rx_yok hc k hk) hn hfit
    exact W.putFinK F.1 F.2.1 F.2.2.2.1 (hts _ hw) hi hst hcf (F.2.2.2.2.2.2.1 hini) (by rw [q2]; exact h6) q1 q3 (by rw [hsl]; exact k2_hasslot (q4 k hk)) rfl rfl hd fin
/-- an array that was there before -/
theorem rx_oldAt {G : rx_G} {a n : Nat} {ty : FieldType} {f : Nat → Value} {U : State} {h : rx_H} {H : Heap} (ho : rx_old G a ty n f U) (hR : rx_R G h H) : ∃ scr : Cell, H[a]? = some scr ∧ U.isArrayOf scr ty ∧ scr.vm ≠ .unknown ∧ scr.slots.size = n ∧ ∀ j, j < n → scr.slots[j]? = some (f j) := by
  obtain ⟨hl, scr, h1, h2⟩ := ho
  exact ⟨scr, by rw [hR.2.2.2.1 a hl]; exact h1, h2⟩
theorem rx_t_iald (F : rx_Fr Z) {i x : Int32} {r : Nat} (hx : rx_aI u r i = some x) (hd : decode (zcc Z) pc = .ok (.iaload, 1)) (kk : rx_WS Z (pc + 1) als (.int x :: st) u) : rx_WS Z pc als (.int i :: .ref r :: st) u := by
  intro H ls locs h1 h2 h3
  have hk2 := kk H ls locs h1 h2 h3
  show W _ _ _ _ _ _ _ _ _ _ H locs _ _ _ (F0 _ pc ls (.int i :: .ref (rx_ad (zG Z) r) :: st.map (rx_ev (zG Z))))
  unfold rx_aI at hx
  split at hx
  · next hr =>
    subst hr
    split at hx
    · cases hx
    next hi =>
    obtain ⟨scr, e1, e2, e3, e4, e5⟩ := rx_oldAt F.2.2.2.2.2.1.2.2.2.2.2.2.1 h1
    have hlt : i.toNatClampNeg < 7 := (List.getElem?_eq_some_iff.mp hx).1
    have hg : rx_F.getD i.toNatClampNeg 0 = x := by rw [List.getD_eq_getElem?_getD, hx]; rfl
    have ha : rx_ad (zG Z) 1000002 = rx_af (zG Z) := rfl
    rw [ha]
    exact W.iald (v := .int x) F.1 F.2.1 e1 e2 e3 (by rw [e4]; intro q; rcases q with q | q; exact hi q; omega) (by rw [e5 _ hlt, hg]) rfl rfl hd hk2
  · next hr2 =>
    split at hx
    · cases hx
    next h0 =>
    split at hx
    · next hr =>
      subst hr
      split at hx
      · cases hx
      next hi =>
      cases hx
      have hR : rx_R (zG Z) h0 H := h1
      obtain ⟨scr, e1, e2, e3, e4, e5⟩ := rx_oldAt F.2.2.2.2.2.1.2.1 h1
      have ha : rx_ad (zG Z) 1000000 = rx_ab (zG Z) := rfl
      rw [ha]
      rw [hR.2.2.2.2] at hi hk2
      have hlt : i.toNatClampNeg < (rx_sc (zG Z)).1 := Nat.not_le.mp fun q => hi (Or.inr q)
      exact W.iald F.1 F.2.1 e1 e2 e3 (by rw [e4]; exact hi) (e5 _ hlt) rfl rfl hd hk2
    · next hr1 =>
      split at hx
      · next n f hc =>
        split at hx
        · cases hx
        next hi =>
        cases hx
        have hR : rx_R (zG Z) h0 H := h1
        rw [rx_ad_lt _ (rx_lt6 hR hc)]
        have hlt : i.toNatClampNeg < n := Nat.not_le.mp fun q => hi (Or.inr q)
        exact W.iald F.1 F.2.1 (hR.1 r _ hc) ((F.2.2.2.2.2.1.1.2 0 _ rfl).1 n (fun j => .int (f j))) (fun q => by cases q) (by rw [arrV_size]; exact hi) (arrV_read _ _ hlt) rfl rfl hd hk2
      · cases hx
theorem rx_t_lald (F : rx_Fr Z) {i : Int32} {x : Int64} {r : Nat} (hx : rx_aJ u r i = some x) (hd : decode (zcc Z) pc = .ok (.laload, 1)) (kk : rx_WS Z (pc + 1) als (.long x :: st) u) : rx_WS Z pc als (.int i :: .ref r :: st) u := by
  intro H ls locs h1 h2 h3
  have hk2 := kk H ls locs h1 h2 h3
  show W _ _ _ _ _ _ _ _ _ _ H locs _ _ _ (F0 _ pc ls (.int i :: .ref (rx_ad (zG Z) r) :: st.map (rx_ev (zG Z))))
  unfold rx_aJ at hx
  split at hx
  · next hr =>
    subst hr
    split at hx
    · cases hx
    next hi =>
    obtain ⟨scr, e1, e2, e3, e4, e5⟩ := rx_oldAt F.2.2.2.2.2.1.2.2.2.2.1 h1
    have hlt : i.toNatClampNeg < 6 := (List.getElem?_eq_some_iff.mp hx).1
    have hg : rx_W.getD i.toNatClampNeg 0 = x := by rw [List.getD_eq_getElem?_getD, hx]; rfl
    have ha : rx_ad (zG Z) 1000001 = rx_aw (zG Z) := rfl
    rw [ha]
    exact W.lald (v := .long x) F.1 F.2.1 e1 e2 e3 (by rw [e4]; intro q; rcases q with q | q; exact hi q; omega) (by rw [e5 _ hlt, hg]) rfl rfl hd hk2
  · split at hx
    · cases hx
    next h0 =>
    split at hx
    · next n f hc =>
      split at hx
      · cases hx
      next hi =>
      cases hx
      have hR : rx_R (zG Z) h0 H := h1
      rw [rx_ad_lt _ (rx_lt6 hR hc)]
      have hlt : i.toNatClampNeg < n := Nat.not_le.mp fun q => hi (Or.inr q)
      exact W.lald F.1 F.2.1 (hR.1 r _ hc) ((F.2.2.2.2.2.1.1.2 1 _ rfl).1 n (fun j => .long (f j))) (fun q => by cases q) (by rw [arrV_size]; exact hi) (arrV_read _ _ hlt) rfl rfl hd hk2
    · cases hx
theorem rx_t_aald (F : rx_Fr Z) {i : Int32} {x : Nat} {r : Nat} (hx : rx_aR u r i = some x) (hd : decode (zcc Z) pc = .ok (.aaload, 1)) (kk : rx_WS Z (pc + 1) als (.ref x :: st) u) : rx_WS Z pc als (.int i :: .ref r :: st) u := by
  intro H ls locs h1 h2 h3
  have hk2 := kk H ls locs h1 h2 h3
  show W _ _ _ _ _ _ _ _ _ _ H locs _ _ _ (F0 _ pc ls (.int i :: .ref (rx_ad (zG Z) r) :: st.map (rx_ev (zG Z))))
  unfold rx_aR at hx
  split at hx
  · cases hx
  next h0 =>
  split at hx
  · next n f hc =>
    split at hx
    · cases hx
    next hi =>
    have hR : rx_R (zG Z) h0 H := h1
    rw [rx_ad_lt _ (rx_lt6 hR hc)]
    have hlt : i.toNatClampNeg < n := Nat.not_le.mp fun q => hi (Or.inr q)
    have hA := (F.2.2.2.2.2.1.1.2 2 _ rfl).1
    exact W.aald (v := .ref (rx_ad (zG Z) x)) F.1 F.2.1 (hR.1 r _ hc) (hA n (fun j => va_rf ((f j).map (rx_ad (zG Z))))) rfl (fun q => by cases q) (by rw [arrV_size]; exact hi) (by rw [arrV_read _ _ hlt, hx]; rfl) rfl rfl hd hk2
  · cases hx
theorem rx_t_len (F : rx_Fr Z) {x : Int32} {r : Nat} (hx : rx_len u r = some x) (hd : decode (zcc Z) pc = .ok (.arraylength, 1)) (kk : rx_WS Z (pc + 1) als (.int x :: st) u) : rx_WS Z pc als (.ref r :: st) u := by
  intro H ls locs h1 h2 h3
  have hk2 := kk H ls locs h1 h2 h3
  unfold rx_len at hx
  split at hx
  · cases hx
  next h0 =>
  split at hx
  · next hr =>
    subst hr
    cases hx
    have hR : rx_R (zG Z) h0 H := h1
    obtain ⟨scr, e1, e2, e3, e4, e5⟩ := rx_oldAt F.2.2.2.2.2.1.2.1 h1
    rw [hR.2.2.2.2] at hk2
    exact W.alen (n := Int32.ofNat (rx_sc (zG Z)).1) F.1 F.2.1 e1 e2 (by rw [e4] <;> rfl) rfl rfl hd hk2
  · cases hx
/-- what is put into an array -/
theorem rx_putA {h0 : rx_H} {r : Nat} {c c1 : rx_C} (hr : h0.2[r]? = some c) (hs : rx_sl1 c1 = rx_sl1 c) (kk : rx_O Z pc als st (some (h0.1, h0.2.set r c1)))
    {pc' : Nat} {st' : List Value} (step : (∀ (H' : Heap) (ls : Array Slot) (locs : List Loc), rx_R (zG Z) (h0.1, h0.2.set r c1) H' → rx_lo (zG Z) ls (zn Z) als → (∀ q ∈ locs, rx_base (zG Z) ≤ q.base) → zW Z H' locs (h0.2.length - zn0 Z) (rx_sl h0 - zs0 Z) (F0 (zM Z) pc ls (st.map (rx_ev (zG Z))))) → rx_WS Z pc' als st' (some h0)) : rx_O Z pc' als st' (some h0) := by
  have el : (h0.2.set r c1).length = h0.2.length := by simp
  have es : rx_sl (h0.1, h0.2.set r c1) = rx_sl h0 := rx_sl_set hr hs
  intro g1 g2
  obtain ⟨g3, g4⟩ := kk (by show zn0 Z ≤ (h0.2.set r _).length; rw [el]; exact g1) (by show zs0 Z ≤ rx_sl (h0.1, h0.2.set r _); rw [es]; exact g2)
  refine ⟨⟨by show h0.2.length ≤ _; rw [← el]; exact g3.1, by show rx_sl h0 ≤ _; rw [← es]; exact g3.2⟩, step fun H' ls locs h1 h2 h3 => ?_⟩
  have := g4 H' ls locs h1 h2 h3
  have e5 : (rx_u Z (some (h0.1, h0.2.set r c1))).2.length = h0.2.length := el
  have e6 : rx_sl (rx_u Z (some (h0.1, h0.2.set r c1))) = rx_sl h0 := es
  rw [e5, e6] at this
  exact this
theorem rx_t_iast (F : rx_Fr Z) {i x : Int32} {r : Nat} (hx : rx_sI u r i x = some u') (hd : decode (zcc Z) pc = .ok (.iastore, 1)) (kk : rx_O Z (pc + 1) als st u') : rx_O Z pc als (.int x :: .int i :: .ref r :: st) u := by
  unfold rx_sI at hx
  split at hx
  · cases hx
  next h0 =>
  split at hx
  case h_2 => cases hx
  next n f hc =>
  split at hx
  case isTrue => cases hx
  next hi =>
  cases hx
  refine rx_putA hc (by rfl) kk fun k H ls locs h1 h2 h3 => ?_
  have hR : rx_R (zG Z) h0 H := h1
  show W _ _ _ _ _ _ _ _ _ _ H locs _ _ _ (F0 _ pc ls (.int x :: .int i :: .ref (rx_ad (zG Z) r) :: st.map (rx_ev (zG Z))))
  rw [rx_ad_lt _ (rx_lt6 hR hc)]
  refine W.iast F.1 F.2.1 (hR.1 r _ hc) ((F.2.2.2.2.2.1.1.2 0 _ rfl).1 n (fun j => .int (f j))) (fun q => by cases q) (by rw [arrV_size]; exact hi) rfl rfl hd fun H1 e z oq => ?_
  refine k H1 ls _ (hR.set hc ?_ z oq) h2 (t_lc h3 (Nat.le_add_right _ _))
  show H1[_]? = some (arrV _ _ _)
  rw [e, arrV_store]
  congr 2
  funext q
  by_cases hq : q = i.toNatClampNeg
  · subst hq
    simp [updV, upd]
  · simp [updV, upd, hq]
theorem rx_t_last (F : rx_Fr Z) {i : Int32} {x : Int64} {r : Nat} (hx : rx_sJ u r i x = some u') (hd : decode (zcc Z) pc = .ok (.lastore, 1)) (kk : rx_O Z (pc + 1) als st u') : rx_O Z pc als (.long x :: .int i :: .ref r :: st) u := by
  unfold rx_sJ at hx
  split at hx
  · cases hx
  next h0 =>
  split at hx
  case h_2 => cases hx
  next n f hc =>
  split at hx
  case isTrue => cases hx
  next hi =>
  cases hx
  refine rx_putA hc (by rfl) kk fun k H ls locs h1 h2 h3 => ?_
  have hR : rx_R (zG Z) h0 H := h1
  show W _ _ _ _ _ _ _ _ _ _ H locs _ _ _ (F0 _ pc ls (.long x :: .int i :: .ref (rx_ad (zG Z) r) :: st.map (rx_ev (zG Z))))
  rw [rx_ad_lt _ (rx_lt6 hR hc)]
  refine W.last F.1 F.2.1 (hR.1 r _ hc) ((F.2.2.2.2.2.1.1.2 1 _ rfl).1 n (fun j => .long (f j))) (fun q => by cases q) (by rw [arrV_size]; exact hi) rfl rfl hd fun H1 e z oq => ?_
  refine k H1 ls _ (hR.set hc ?_ z oq) h2 (t_lc h3 (Nat.le_add_right _ _))
  show H1[_]? = some (arrV _ _ _)
  rw [e, arrV_store]
  congr 2
  funext q
  by_cases hq : q = i.toNatClampNeg
  · subst hq
    simp [updV, vp_updL]
  · simp [updV, vp_updL, hq]
theorem rx_t_aast (F : rx_Fr Z) {i : Int32} {x : Nat} {r : Nat} (hx : rx_sR u r i x = some u') (hd : decode (zcc Z) pc = .ok (.aastore, 1)) (kk : rx_O Z (pc + 1) als st u') : rx_O Z pc als (.ref x :: .int i :: .ref r :: st) u := by
  unfold rx_sR at hx
  split at hx
  · cases hx
  next h0 =>
  split at hx
  case h_2 => cases hx
  next n f gs hc hv =>
  split at hx
  case isTrue => cases hx
  next hi =>
  cases hx
  refine rx_putA hc (by rfl) kk fun k H ls locs h1 h2 h3 => ?_
  have hR : rx_R (zG Z) h0 H := h1
  show W _ _ _ _ _ _ _ _ _ _ H locs _ _ _ (F0 _ pc ls (.ref (rx_ad (zG Z) x) :: .int i :: .ref (rx_ad (zG Z) r) :: st.map (rx_ev (zG Z))))
  have hax := rx_ad_lt (zG Z) (rx_lt6 hR hv)
  rw [rx_ad_lt _ (rx_lt6 hR hc), hax]
  have hlt : i.toNatClampNeg < n := Nat.not_le.mp fun q => hi (Or.inr q)
  have hi0 : ¬ i < 0 := fun q => hi (Or.inl q)
  obtain ⟨r', hr', hln, cellV, g1, g2, g3, -⟩ := hR.1 x _ hv
  have hK := F.2.2.2.2.2.1.1
  have hcls := (hK.1 0 _ rfl).2
  obtain ⟨kA, comp, k1, k2, k3, -⟩ := (hK.2 2 _ rfl).2
  have hcomp : comp = (rx_D (zG Z)).1 0 := Option.some.inj (k3.symm.trans hcls.1)
  subst hcomp
  obtain ⟨kC, hkC, -⟩ := hcls.2
  refine W.aast F.1 F.2.1 (hR.1 r _ hc) (fun q h => by cases h) (fun h => by cases h) k1 k2 rfl hkC ⟨hi0, by rw [arrV_size]; exact hlt⟩ g1 (fun q h => by rw [g3] at h; cases h) (by rw [g2]; exact hkC) (by rw [g2]; exact va_assign hcls) rfl rfl hd fun H1 e z oq => ?_
  refine k H1 ls _ (hR.set hc ?_ z oq) h2 (t_lc h3 (Nat.le_add_right _ _))
  show H1[_]? = some (arrV _ _ _)
  rw [e, arrV_store]
  congr 2
  funext q
  by_cases hq : q = i.toNatClampNeg
  · subst hq
    simp [updV, va_up, va_rf, hax]
  · simp [updV, va_up, hq]
theorem rx_t_gets (F : rx_Fr Z) {i a : Nat} {C n d : String} {v : Nat} (ha : rx_ad (zG Z) a = v) (hZ : va_Z C n d (.ref v) (fun q => rx_base (zG Z) ≤ q) (zS Z) (rx_H0 (zG Z))) (hw : Cond.fieldLink (zo Z) i C n d ∈ rx_TB) (hd : decode (zcc Z) pc = .ok (.getstatic i, 3)) (kk : rx_WS Z (pc + 3) als (.ref a :: st) u) : rx_WS Z pc als st u := by
  intro H ls locs h1 h2 h3
  have hk2 := kk H ls locs h1 h2 h3
  obtain ⟨cf, kf, fi, f, a1, cell, e1, e2, e3, e4, e5, e6, e7, e8⟩ := hZ
  have hk3 : zW Z H locs ((rx_u Z u).2.length - zn0 Z) (rx_sl (rx_u Z u) - zs0 Z) (F0 (zM Z) (pc + 3) ls (.ref v :: st.map (rx_ev (zG Z)))) := by rw [← ha]; exact hk2
  exact W.gets F.1 F.2.1 F.2.2.2.1 (F.2.2.2.2.1 _ hw) e1 e2 e3 e4 (by rw [h1.2.2.2.1 a1 (by omega)]; exact e5) (fun e => by rw [e] at e6; cases e6) e7 rfl hd hk3
/-! new cells -/
theorem rx_pushO {h0 : rx_H} {c1 : rx_C} (F : rx_Fr Z) (kk : rx_O Z pc als st (some (h0.1, h0.2 ++ [c1])))
    {pc' : Nat} {st' : List Value} (step : (h0.2.length - zn0 Z) + 1 ≤ (zR Z).cells → (rx_sl h0 - zs0 Z) + rx_sl1 c1 ≤ (zR Z).slots → (∀ (H' : Heap) (ls : Array Slot) (locs : List Loc), rx_R (zG Z) (h0.1, h0.2 ++ [c1]) H' → rx_lo (zG Z) ls (zn Z) als → (∀ q ∈ locs, rx_base (zG Z) ≤ q.base) → zW Z H' locs ((h0.2.length - zn0 Z) + 1) ((rx_sl h0 - zs0 Z) + rx_sl1 c1) (F0 (zM Z) pc ls (st.map (rx_ev (zG Z))))) → rx_WS Z pc' als st' (some h0)) : rx_O Z pc' als st' (some h0) := by
  have el : (h0.2 ++ [c1]).length = h0.2.length + 1 := by simp
  have es : rx_sl (h0.1, h0.2 ++ [c1]) = rx_sl h0 + rx_sl1 c1 := rx_sl_push h0 c1
  intro g1 g2
  have g1' : zn0 Z ≤ h0.2.length := g1
  have g2' : zs0 Z ≤ rx_sl h0 := g2
  obtain ⟨⟨g3, g3'⟩, g4⟩ := kk (by show zn0 Z ≤ (h0.2 ++ [c1]).length; omega) (by show zs0 Z ≤ rx_sl (h0.1, h0.2 ++ [c1]); omega)
  have g5 : h0.2.length + 1 ≤ zn1 Z := by rw [← el]; exact g3
  have g6 : rx_sl h0 + rx_sl1 c1 ≤ zs1 Z := by rw [← es]; exact g3'
  have hc := F.2.2.2.2.2.2.2.2.2.1
  have hs := F.2.2.2.2.2.2.2.2.2.2
  refine ⟨⟨by show h0.2.length ≤ _; omega, by show rx_sl h0 ≤ _; omega⟩, step (by omega) (by omega) fun H' ls locs h1 h2 h3 => ?_⟩
  have := g4 H' ls locs h1 h2 h3
  have e5 : (rx_u Z (some (h0.1, h0.2 ++ [c1]))).2.length - zn0 Z = (h0.2.length - zn0 Z) + 1 := by show (h0.2 ++ [c1]).length - zn0 Z = _; omega
  have e6 : rx_sl (rx_u Z (some (h0.1, h0.2 ++ [c1]))) - zs0 Z = (rx_sl h0 - zs0 Z) + rx_sl1 c1 := by show rx_sl (h0.1, h0.2 ++ [c1]) - zs0 Z = _; omega
  rw [e5, e6] at this
  exact this
theorem rx_push_some {c1 : rx_C} {q : Nat × Option rx_H} (h : rx_push u c1 = some q) : ∃ h0 : rx_H, u = some h0 ∧ h0.2.length < 999999 ∧ q = (h0.2.length, some (h0.1, h0.2 ++ [c1])) := by
  unfold rx_push at h
  split at h
  · cases h
  next h0 =>
  split at h
  · next hl => cases h; exact ⟨h0, rfl, hl, rfl⟩
  · cases h
theorem rx_t_newI (F : rx_Fr Z) {n : Int32} {q : Nat × Option rx_H} (hx : rx_nI u n = some q) (hw : Cond.arrayClass .int ∈ rx_TB) (hd : decode (zcc Z) pc = .ok (.newarray .int, 2)) (kk : rx_O Z (pc + 2) als (.ref q.1 :: st) q.2) : rx_O Z pc als (.int n :: st) u := by
  unfold rx_nI at hx
  split at hx
  · cases hx
  next hn =>
  obtain ⟨h0, rfl, hl, rfl⟩ := rx_push_some hx
  refine rx_pushO F kk fun hc hs k H ls locs h1 h2 h3 => ?_
  have hR : rx_R (zG Z) h0 H := h1
  refine va_newaK F.1 F.2.1 (atype := .int) (F.2.2.2.2.1 _ hw) rfl hd rfl (fun q => hn (Or.inl q)) rfl ?_ hc hs rfl fun H' cA e z o hA hf => ?_
  · have : n.toNatClampNeg ≤ 100000 := Nat.not_lt.mp fun q => hn (Or.inr q)
    show n.toNatClampNeg * 4 ≤ 536870912
    omega
  · have hcA : cA = rx_cI (zG Z) := Option.some.inj (hf.symm.trans (F.2.2.2.2.2.1.1.2 0 _ rfl).2)
    subst hcA
    have hz : H.size = rx_base (zG Z) + h0.2.length := hR.2.1
    have hr := k H' ls locs (hR.push hl (by rw [← hz]; exact e) z o) h2 h3
    have ha : rx_ad (zG Z) h0.2.length = H.size := by rw [rx_ad_lt _ (by omega), hz]
    have hr2 : zW Z H' locs ((h0.2.length - zn0 Z) + 1) ((rx_sl h0 - zs0 Z) + n.toNatClampNeg) (F0 (zM Z) (pc + 2) ls (.ref H.size :: st.map (rx_ev (zG Z)))) := by rw [← ha]; exact hr
    exact hr2
theorem rx_t_newJ (F : rx_Fr Z) {n : Int32} {q : Nat × Option rx_H} (hx : rx_nJ u n = some q) (hw : Cond.arrayClass .long ∈ rx_TB) (hd : decode (zcc Z) pc = .ok (.newarray .long, 2)) (kk : rx_O Z (pc + 2) als (.ref q.1 :: st) q.2) : rx_O Z pc als (.int n :: st) u := by
  unfold rx_nJ at hx
  split at hx
  · cases hx
  next hn =>
  obtain ⟨h0, rfl, hl, rfl⟩ := rx_push_some hx
  refine rx_pushO F kk fun hc hs k H ls locs h1 h2 h3 => ?_
  have hR : rx_R (zG Z) h0 H := h1
  refine va_newaK F.1 F.2.1 (atype := .long) (F.2.2.2.2.1 _ hw) rfl hd rfl (fun q => hn (Or.inl q)) rfl ?_ hc hs rfl fun H' cA e z o hA hf => ?_
  · have : n.toNatClampNeg ≤ 100000 := Nat.not_lt.mp fun q => hn (Or.inr q)
    show n.toNatClampNeg * 8 ≤ 536870912
    omega
  · have hcA : cA = rx_cJ (zG Z) := Option.some.inj (hf.symm.trans (F.2.2.2.2.2.1.1.2 1 _ rfl).2)
    subst hcA
    have hz : H.size = rx_base (zG Z) + h0.2.length := hR.2.1
    have hr := k H' ls locs (hR.push hl (by rw [← hz]; exact e) z o) h2 h3
    have ha : rx_ad (zG Z) h0.2.length = H.size := by rw [rx_ad_lt _ (by omega), hz]
    have hr2 : zW Z H' locs ((h0.2.length - zn0 Z) + 1) ((rx_sl h0 - zs0 Z) + n.toNatClampNeg) (F0 (zM Z) (pc + 2) ls (.ref H.size :: st.map (rx_ev (zG Z)))) := by rw [← ha]; exact hr
    exact hr2
theorem rx_t_newR (F : rx_Fr Z) {n : Int32} {i : Nat} {q : Nat × Option rx_H} (hx : rx_nR u n = some q) (hw : Cond.classLink (zo Z) i "SetHouse$Place" ∈ rx_TB) (hd : decode (zcc Z) pc = .ok (.anewarray i, 3)) (kk : rx_O Z (pc + 3) als (.ref q.1 :: st) q.2) : rx_O Z pc als (.int n :: st) u := by
  unfold rx_nR at hx
  split at hx
  · cases hx
  next hn =>
  obtain ⟨h0, rfl, hl, rfl⟩ := rx_push_some hx
  refine rx_pushO F kk fun hc hs k H ls locs h1 h2 h3 => ?_
  have hR : rx_R (zG Z) h0 H := h1
  refine W.anew F.1 F.2.1 F.2.2.2.1 (F.2.2.2.2.1 _ hw) (va_AO.use F.2.2.2.2.2.1.2.2.2.2.2.2.2.2.2.1) rfl hd rfl (fun q => hn (Or.inl q)) ?_ hc hs fun cA kA comp f1 f2 f3 f4 => ?_
  · have : n.toNatClampNeg ≤ 100000 := Nat.not_lt.mp fun q => hn (Or.inr q)
    omega
  · obtain ⟨kA', comp', g1, g2, g3, g4⟩ := (F.2.2.2.2.2.1.1.2 2 _ rfl).2
    have hcA : cA = rx_cP (zG Z) := Option.some.inj (f1.symm.trans g4)
    subst hcA
    have hz : H.size = rx_base (zG Z) + h0.2.length := hR.2.1
    generalize hH1 : H.push ({ cls := rx_cP (zG Z), slots := Array.replicate n.toNatClampNeg .null, vm := .none } : Cell) = H1
    have z1 : H1.size = H.size + 1 := by rw [← hH1, Array.size_push]
    have e1 : H1[H.size]? = some (arrV (rx_cP (zG Z)) n.toNatClampNeg (fun _ => .null)) := by rw [← hH1, Array.getElem?_push_size, ← arrV_new]
    have o1 : ∀ q : Nat, q < H.size → H1[q]? = H[q]? := fun q hq => by rw [← hH1, Array.getElem?_push, if_neg (Nat.ne_of_lt hq)]
    have hr := k H1 ls locs (hR.push hl (by rw [← hz]; exact e1) z1 o1) h2 h3
    have ha : rx_ad (zG Z) h0.2.length = H.size := by rw [rx_ad_lt _ (by omega), hz]
    have hr2 : zW Z H1 locs ((h0.2.length - zn0 Z) + 1) ((rx_sl h0 - zs0 Z) + n.toNatClampNeg) (F0 (zM Z) (pc + 3) ls (.ref H.size :: st.map (rx_ev (zG Z)))) := by rw [← ha]; exact hr
    exact hr2
theorem rx_df_ok {a : Nat} {q : vw_C} (h : rx_cl[a]? = some q) (G : rx_G) : (rx_df a).length = q.2.2 ∧ ∀ j, j < q.2.2 → defaultValue (rx_ty a j) = vp_V ((rx_df a).map (rx_ev G)) j := by
  match a, h with
  | 0, h => cases h; exact ⟨rfl, fun j hj => by match j, hj with
    | 0, _ => rfl
    | 1, _ => rfl
    | 2, _ => rfl
    | 3, _ => rfl
    | 4, _ => rfl
    | 5, _ => rfl
    | n + 6, hj => exact absurd hj (by show ¬ n + 6 < 6; omega)⟩
  | 1, h => cases h; exact ⟨rfl, fun j hj => by match j, hj with
    | 0, _ => rfl
    | 1, _ => rfl
    | 2, _ => rfl
    | 3, _ => rfl
    | 4, _ => rfl
    | n + 5, hj => exact absurd hj (by show ¬ n + 5 < 5; omega)⟩
  | 2, h => cases h; exact ⟨rfl, fun j hj => by match j, hj with
    | 0, _ => rfl
    | 1, _ => rfl
    | 2, _ => rfl
    | 3, _ => rfl
    | 4, _ => rfl
    | 5, _ => rfl
    | n + 6, hj => exact absurd hj (by show ¬ n + 6 < 6; omega)⟩
  | 3, h => cases h; exact ⟨rfl, fun j hj => by match j, hj with
    | 0, _ => rfl
    | 1, _ => rfl
    | 2, _ => rfl
    | 3, _ => rfl
    | 4, _ => rfl
    | 5, _ => rfl
    | 6, _ => rfl
    | 7, _ => rfl
    | 8, _ => rfl
    | 9, _ => rfl
    | 10, _ => rfl
    | 11, _ => rfl
    | 12, _ => rfl
    | 13, _ => rfl
    | 14, _ => rfl
    | n + 15, hj => exact absurd hj (by show ¬ n + 15 < 15; omega)⟩
  | n + 4, h => simp [rx_cl] at h
theorem rx_t_newO (F : rx_Fr Z) {i a : Nat} {cq : vw_C} {q : Nat × Option rx_H} (hx : rx_nO u a = some q) (hc : rx_cl[a]? = some cq) (hw : Cond.classLink (zo Z) i cq.1 ∈ rx_TB) (hw2 : Cond.instantiable cq.1 cq.2.2 ∈ rx_TB) (hw3 : Cond.initialized cq.1 ∈ rx_TB) (hd : decode (zcc Z) pc = .ok (.new i, 3)) (kk : rx_O Z (pc + 3) als (.ref q.1 :: st) q.2) : rx_O Z pc als st u := by
  unfold rx_nO at hx
  split at hx
  case isFalse => cases hx
  next hn =>
  obtain ⟨h0, rfl, hl, rfl⟩ := rx_push_some hx
  obtain ⟨d1, d2⟩ := rx_df_ok hc (zG Z)
  refine rx_pushO F kk fun hcc hs k H ls locs h1 h2 h3 => ?_
  have hR : rx_R (zG Z) h0 H := h1
  have hts := F.2.2.2.2.1
  have hKn := F.2.2.2.2.2.1.1.1 a _ hc
  have hs' : (rx_sl h0 - zs0 Z) + cq.2.2 ≤ (zR Z).slots := by rw [← d1]; exact hs
  have hz : H.size = rx_base (zG Z) + h0.2.length := hR.2.1
  refine W.newcK F.1 F.2.1 F.2.2.2.1 (hts _ hw) (hts _ hw2) (hts _ hw3) rfl hd hcc hs' hKn.2.1 rfl fun H1 kC hkC e1 z1 o1 => ?_
  have hb := (u_born (rx_ty a) hts (rx_lin hc) hKn hkC e1 (rx_yok hc)).to d2
  have hr := k H1 ls locs (hR.push hl ⟨cq, hc, d1, by rw [← hz]; exact hb⟩ z1 o1) h2 h3
  have ha : rx_ad (zG Z) h0.2.length = H.size := by rw [rx_ad_lt _ (by omega), hz]
  have hr2 : zW Z H1 locs ((h0.2.length - zn0 Z) + 1) ((rx_sl h0 - zs0 Z) + cq.2.2) (F0 (zM Z) (pc + 3) ls (.ref H.size :: st.map (rx_ev (zG Z)))) := by rw [← ha, ← d1]; exact hr
  exact hr2
end rxH
end
section
/-! ===== Calls ===== -/
def rx_Pc (G : rx_G) (as : List Value) (h : rx_H) : Array Value → State → Prop := fun v U => v = (as.map (rx_ev G)).toArray ∧ rx_R G h U.heap ∧ rx_Ks G U
def rx_Qc (G : rx_G) (r : Option Value) (h' : rx_H) : Array Value → State → Outcome → State → Prop := fun _ _ o t => o = .returned (r.map (rx_ev G)) ∧ rx_R G h' t.heap
def rx_rm (D : Nat) (h h' : rx_H) : Room := { frames := D, cells := h'.2.length - h.2.length, slots := rx_sl h' - rx_sl h, locals := 64 * D }
/-- a method, from a picture to a picture: its contract, at most so deep -/
def rx_Ok (l : Launch) (G : rx_G) (D : Nat) (y : MethodName) (cw : Cond) (as : List Value) (h : rx_H) (r : Option Value) (h' : rx_H) : Prop :=
  (h.2.length ≤ h'.2.length ∧ rx_sl h ≤ rx_sl h') ∧ ∃ D', D' ≤ D ∧ Met l y (cw :: rx_TB) (rx_rm D' h h') (rx_Pc G as h) (rx_Qc G r h') (h'.2.length - h.2.length) (rx_sl h' - rx_sl h) (fun q => rx_base G ≤ q)
theorem rx_Ok.deep {l : Launch} {G : rx_G} {D E : Nat} {y : MethodName} {cw : Cond} {as : List Value} {h : rx_H} {r : Option Value} {h' : rx_H} (hk : rx_Ok l G D y cw as h r h') (hDE : D ≤ E) : rx_Ok l G E y cw as h r h' := by
  obtain ⟨h1, D', h2, h3⟩ := hk
  exact ⟨h1, D', Nat.le_trans h2 hDE, h3⟩
/-- what the tables say of a callee; 'cw' is its code's word -/
def rx_Cal (y : MethodName) (cw : Cond) (kd n : Nat) : Prop := ∃ (bytes : ByteArray) (maxL : Nat) (ret : Option FieldType), (cw = .code y bytes maxL ret ∨ (∃ hh, cw = .codeWith y bytes maxL ret hh) ∧ ¬ kd = 2) ∧ cw ∈ rx_TB ∧ Cond.initialized y.cls ∈ rx_TB ∧
  (y.cls ≠ "java/lang/invoke/MethodHandle" ∧ y.cls ≠ "java/lang/invoke/VarHandle" ∧ (parseMethodDescriptor y.desc).map (fun d => d.parameters.length) = some n) ∧ maxL ≤ 40 ∧
  (kd = 0 → Cond.static y ∈ rx_TB) ∧ (kd = 1 → Cond.instanceMethod y ∈ rx_TB ∧ Cond.selects y.cls y y ∈ rx_TB) ∧ (kd = 2 → y.name = "<init>" ∧ Cond.instanceMethod y ∈ rx_TB ∧ ret = none)
theorem rx_gi {w : Cond} (h : w ∈ rx_TB) : GoodIn rx_TB (w :: rx_TB) := fun x hx => (List.mem_cons.mp hx).elim (fun e => ⟨e ▸ h, rx_good _ (e ▸ h)⟩) (fun e => ⟨e, rx_good _ e⟩)
theorem rx_blind (G : rx_G) (as : List Value) (h : rx_H) : FrameBlind (rx_Pc G as h) := fun a U g mk q => ⟨q.1, q.2.1, rx_Ks.same (s := U) (U := U.calling g mk a) rfl q.2.2⟩
section rxC
variable {Z : rx_Z} {pc : Nat} {als : rx_L} {u u' : Option rx_H} {cw : Cond} {n i j : Nat} {as rest : List Value} {r : Option Value}
/-- behind a call -/
theorem rx_after {H : Heap} {locs : List Loc} {ls : Array Slot} {cells slots mc ms : Nat} {st0 : List Value} {Qa : State → Outcome → State → Prop} {h' : rx_H} (hQ : ∀ st o t, Qa st o t → o = .returned (r.map (rx_ev (zG Z))) ∧ rx_R (zG Z) h' t.heap)
    (hr : va_Run (zP Z) (zL Z) (zE Z) (zR Z) (zS Z) (zM Z) (zA Z) (zB Z) (zMe Z) (zC Z) H locs cells slots mc ms (F0 (zM Z) pc ls st0) (rest.map (rx_ev (zG Z))) Qa (fun q => rx_base (zG Z) ≤ q)) (h3 : ∀ q ∈ locs, rx_base (zG Z) ≤ q.base)
    (kk : ∀ (H' : Heap) (locs' : List Loc), rx_R (zG Z) h' H' → (∀ q ∈ locs', rx_base (zG Z) ≤ q.base) → zW Z H' locs' (cells + mc) (slots + ms) (F0 (zM Z) (pc + 3) ls ((r.toList ++ rest).map (rx_ev (zG Z))))) : zW Z H locs cells slots (F0 (zM Z) pc ls st0) := by
  intro T hT X
  obtain ⟨v, st₀, t, T', L, e0, X', hL, e1, e2, hq, st⟩ := hr T hT X
  obtain ⟨hv, hR⟩ := hQ _ _ _ hq
  cases hv
  obtain ⟨t2, a1, b1⟩ := kk T'.heap (locs ++ L) (by rw [e1]; exact hR) (t_lL h3 hL) T' rfl X'
  refine ⟨t2, st t2 ?_, b1⟩
  have : (r.toList ++ rest).map (rx_ev (zG Z)) = (r.map (rx_ev (zG Z))).toList ++ rest.map (rx_ev (zG Z)) := by cases r <;> simp
  rw [this] at a1
  exact a1
/-- the room of a call -/
theorem rx_room (F : rx_Fr Z) (hok : rx_Ok (zL Z) (zG Z) (zd Z) (rx_ny j) cw as (rx_u Z u) r (rx_u Z u')) (k : rx_O Z (pc + 3) als (r.toList ++ rest) u') {st : List Value}
    (step : ∀ D', D' ≤ zd Z → Met (zL Z) (rx_ny j) (cw :: rx_TB) (rx_rm D' (rx_u Z u) (rx_u Z u')) (rx_Pc (zG Z) as (rx_u Z u)) (rx_Qc (zG Z) r (rx_u Z u')) ((rx_u Z u').2.length - (rx_u Z u).2.length) (rx_sl (rx_u Z u') - rx_sl (rx_u Z u)) (fun q => rx_base (zG Z) ≤ q) →
      (((rx_u Z u).2.length - zn0 Z) + ((rx_u Z u').2.length - (rx_u Z u).2.length) ≤ (zR Z).cells ∧ (rx_sl (rx_u Z u) - zs0 Z) + (rx_sl (rx_u Z u') - rx_sl (rx_u Z u)) ≤ (zR Z).slots) → (D' + 1 ≤ (zR Z).frames ∧ 64 * D' + 64 ≤ (zR Z).locals) →
      (∀ (H' : Heap) (ls : Array Slot) (locs' : List Loc), rx_R (zG Z) (rx_u Z u') H' → rx_lo (zG Z) ls (zn Z) als → (∀ q ∈ locs', rx_base (zG Z) ≤ q.base) → zW Z H' locs' (((rx_u Z u).2.length - zn0 Z) + ((rx_u Z u').2.length - (rx_u Z u).2.length)) ((rx_sl (rx_u Z u) - zs0 Z) + (rx_sl (rx_u Z u') - rx_sl (rx_u Z u))) (F0 (zM Z) (pc + 3) ls ((r.toList ++ rest).map (rx_ev (zG Z))))) → rx_WS Z pc als st u) : rx_O Z pc als st u := by
  obtain ⟨⟨m1, m2⟩, D', hD, hM⟩ := hok
  intro g1 g2
  obtain ⟨⟨g3, g4⟩, g5⟩ := k (Nat.le_trans g1 m1) (Nat.le_trans g2 m2)
  obtain ⟨f1, f2, f3, f4⟩ := F.2.2.2.2.2.2.2
  refine ⟨⟨Nat.le_trans m1 g3, Nat.le_trans m2 g4⟩, step D' hD hM ⟨by omega, by omega⟩ ⟨by omega, by omega⟩ fun H' ls locs' h1 h2 h3 => ?_⟩
  have := g5 H' ls locs' h1 h2 h3
  have e1 : ((rx_u Z u).2.length - zn0 Z) + ((rx_u Z u').2.length - (rx_u Z u).2.length) = (rx_u Z u').2.length - zn0 Z := by omega
  have e2 : (rx_sl (rx_u Z u) - zs0 Z) + (rx_sl (rx_u Z u') - rx_sl (rx_u Z u)) = rx_sl (rx_u Z u') - zs0 Z := by omega
  rw [e1, e2]
  exact this
theorem rx_mapRev (G : rx_G) (as rest : List Value) : (as.reverse ++ rest).map (rx_ev G) = (as.map (rx_ev G)).reverse ++ rest.map (rx_ev G) := by simp
theorem rx_sig {y : MethodName} (h : (parseMethodDescriptor y.desc).map (fun d => d.parameters.length) = some n) : ∀ sig, parseMethodDescriptor y.desc = some sig → n = sig.parameters.length := by
  intro sig hs
  rw [hs] at h
  exact (Option.some.inj h).symm
theorem rx_t_callS (F : rx_Fr Z) (hl : Cond.methodLink (zo Z) i (rx_ny j) ∈ rx_TB) (hc : rx_Cal (rx_ny j) cw 0 n) (hn : as.length = n) (hcat : rx_cat rest ≤ 8) (hok : rx_Ok (zL Z) (zG Z) (zd Z) (rx_ny j) cw as (rx_u Z u) r (rx_u Z u')) (hd : decode (zcc Z) pc = .ok (.invokestatic i, 3)) (k : rx_O Z (pc + 3) als (r.toList ++ rest) u') : rx_O Z pc als (as.reverse ++ rest) u := by
  refine rx_room F hok k fun D' hD hM hf hfr kk H ls locs h1 h2 h3 => ?_
  obtain ⟨bytes, maxL, ret, hcw, c1, c2, c3, c4, c6, c7, c8⟩ := hc
  have hts := F.2.2.2.2.1
  have hst : (as.reverse ++ rest).map (rx_ev (zG Z)) = (as.map (rx_ev (zG Z))).reverse ++ rest.map (rx_ev (zG Z)) := by simp
  have hcat2 : 2 * (F0 (zM Z) pc ls ((as.reverse ++ rest).map (rx_ev (zG Z)))).monitorRoom + ((rest.map (rx_ev (zG Z))).map fun v => v.category).sum ≤ 8 := by
    show 2 * 0 + _ ≤ 8
    rw [rx_cat_eq]
    omega
  have hpre : PreS (zS Z) H (rx_Pc (zG Z) as (rx_u Z u)) (as.map (rx_ev (zG Z))) := ⟨rx_blind _ _ _, fun U hU hW => ⟨rfl, by rw [hU]; exact h1, F.2.2.2.2.2.1.warm hW⟩⟩
  rcases hcw with rfl | ⟨⟨hh, rfl⟩, -⟩
  · have cb : CallB (zR Z) (zS Z) (zA Z) (zo Z) i (rx_ny j) bytes maxL ret (Cond.code (rx_ny j) bytes maxL ret :: rx_TB) (rx_rm D' (rx_u Z u) (rx_u Z u')) ((rx_u Z u').2.length - (rx_u Z u).2.length) (rx_sl (rx_u Z u') - rx_sl (rx_u Z u)) n :=
      callB_of n hts (rx_gi c1) rfl rfl rfl (hts _ c2) (hts _ hl) c3 ⟨hfr.1, by show 8 + (maxL + 11) + 64 * D' ≤ _; omega⟩
    have hrun := va_runS (below := zB Z) (e := zE Z) (meth := zMe Z) (locs := locs) (As := as.map (rx_ev (zG Z))) (rest := rest.map (rx_ev (zG Z))) (g := F0 (zM Z) pc ls ((as.reverse ++ rest).map (rx_ev (zG Z)))) (nL := zn Z) (cc := zcc Z) ⟨F.1, F.2.1, F.2.2.1, F.2.2.2.1, hts⟩ hM ⟨cb, hts _ (c6 rfl)⟩ hpre rfl (by simpa using hn) h2.2.1 hst hcat2 hd hf
    exact rx_after (Qa := rx_Qc (zG Z) r (rx_u Z u') (as.map (rx_ev (zG Z))).toArray) (fun _ _ _ q => q) hrun h3 (fun H' locs' g1 g2 => kk H' ls locs' g1 h2 g2)
  · have cb : vx_CSW (zR Z) (zS Z) (zA Z) (zo Z) i (rx_ny j) bytes maxL ret hh (Cond.codeWith (rx_ny j) bytes maxL ret hh :: rx_TB) (rx_rm D' (rx_u Z u) (rx_u Z u')) ((rx_u Z u').2.length - (rx_u Z u).2.length) (rx_sl (rx_u Z u') - rx_sl (rx_u Z u)) n :=
      ⟨⟨rfl, rfl, hfr.1, by show 8 + (maxL + 11) + 64 * D' ≤ _; omega, pay_in hts (rx_gi c1), List.mem_cons_self⟩, hts _ c1, hts _ c2, ⟨c3.1, c3.2.1⟩, rx_sig c3.2.2, hts _ hl, hts _ (c6 rfl)⟩
    have hrun := vx_runSW (below := zB Z) (e := zE Z) (meth := zMe Z) (locs := locs) (As := as.map (rx_ev (zG Z))) (rest := rest.map (rx_ev (zG Z))) (g := F0 (zM Z) pc ls ((as.reverse ++ rest).map (rx_ev (zG Z)))) (nL := zn Z) (cc := zcc Z) ⟨F.1, F.2.1, F.2.2.1, F.2.2.2.1, hts⟩ hM cb hpre rfl (by simpa using hn) h2.2.1 hst hcat2 hd hf
    exact rx_after (Qa := rx_Qc (zG Z) r (rx_u Z u') (as.map (rx_ev (zG Z))).toArray) (fun _ _ _ q => q) hrun h3 (fun H' locs' g1 g2 => kk H' ls locs' g1 h2 g2)
theorem rx_ck_some {r0 c : Nat} (h : rx_ck u r0 c = some ()) : ∃ (h0 : rx_H) (fs : List Value), u = some h0 ∧ h0.2[r0]? = some (.inr (c, fs)) := by
  unfold rx_ck at h
  split at h
  · cases h
  next h0 =>
  split at h
  · next c' fs hc =>
    split at h
    · next he => subst he; exact ⟨h0, fs, rfl, hc⟩
    · cases h
  · cases h
theorem rx_t_callV (F : rx_Fr Z) {r0 ci : Nat} {q : vw_C} (hci : rx_cl[ci]? = some q) (hq : (rx_ny j).cls = q.1) (hck : rx_ck u r0 ci = some ()) (hl : Cond.methodLink (zo Z) i (rx_ny j) ∈ rx_TB) (hc : rx_Cal (rx_ny j) cw 1 n) (hn : as.length = n) (hcat : rx_cat rest ≤ 8) (hok : rx_Ok (zL Z) (zG Z) (zd Z) (rx_ny j) cw (.ref r0 :: as) (rx_u Z u) r (rx_u Z u')) (hd : decode (zcc Z) pc = .ok (.invokevirtual i, 3)) (k : rx_O Z (pc + 3) als (r.toList ++ rest) u') : rx_O Z pc als ((Value.ref r0 :: as).reverse ++ rest) u := by
  refine rx_room F hok k fun D' hD hM hf hfr kk H ls locs h1 h2 h3 => ?_
  obtain ⟨bytes, maxL, ret, hcw, c1, c2, c3, c4, c6, c7, c8⟩ := hc
  obtain ⟨h0, fs, rfl, hr0⟩ := rx_ck_some hck
  have hR : rx_R (zG Z) h0 H := h1
  have hts := F.2.2.2.2.1
  obtain ⟨q', hq', hlen, cell, q1, q2, q3, q4⟩ := hR.1 r0 _ hr0
  have hst : ((Value.ref r0 :: as).reverse ++ rest).map (rx_ev (zG Z)) = (as.map (rx_ev (zG Z))).reverse ++ .ref (rx_base (zG Z) + r0) :: rest.map (rx_ev (zG Z)) := by
    simp [rx_ev, rx_ad_lt _ (rx_lt6 hR hr0)]
  have hat : ((Value.ref r0 :: as).map (rx_ev (zG Z))).toArray = (Value.ref (rx_base (zG Z) + r0) :: as.map (rx_ev (zG Z))).toArray := by simp [rx_ev, rx_ad_lt _ (rx_lt6 hR hr0)]
  have hcat2 : 2 * (F0 (zM Z) pc ls (((Value.ref r0 :: as).reverse ++ rest).map (rx_ev (zG Z)))).monitorRoom + ((rest.map (rx_ev (zG Z))).map fun v => v.category).sum ≤ 8 := by
    show 2 * 0 + _ ≤ 8
    rw [rx_cat_eq]
    omega
  have hpre : PreV (zS Z) H (rx_ny j).cls (rx_base (zG Z) + r0) (rx_Pc (zG Z) (.ref r0 :: as) (rx_u Z (some h0))) (as.map (rx_ev (zG Z))) := ⟨rx_blind _ _ _, ⟨cell, q1, by rw [q3]; rfl, by rw [q2, hq]; exact (F.2.2.2.2.2.1.1.1 ci q hci).2.1⟩, fun U hU hW => ⟨hat.symm, by rw [hU]; exact h1, F.2.2.2.2.2.1.warm hW⟩⟩
  rcases hcw with rfl | ⟨⟨hh, rfl⟩, -⟩
  · have cb : CallB (zR Z) (zS Z) (zA Z) (zo Z) i (rx_ny j) bytes maxL ret (Cond.code (rx_ny j) bytes maxL ret :: rx_TB) (rx_rm D' (rx_u Z (some h0)) (rx_u Z u')) ((rx_u Z u').2.length - (rx_u Z (some h0)).2.length) (rx_sl (rx_u Z u') - rx_sl (rx_u Z (some h0))) n :=
      callB_of n hts (rx_gi c1) rfl rfl rfl (hts _ c2) (hts _ hl) c3 ⟨hfr.1, by show 8 + (maxL + 11) + 64 * D' ≤ _; omega⟩
    have hrun := va_runV (below := zB Z) (e := zE Z) (meth := zMe Z) (locs := locs) (b := rx_base (zG Z) + r0) (C := (rx_ny j).cls) (As := as.map (rx_ev (zG Z))) (rest := rest.map (rx_ev (zG Z))) (g := F0 (zM Z) pc ls (((Value.ref r0 :: as).reverse ++ rest).map (rx_ev (zG Z)))) (nL := zn Z) (cc := zcc Z) ⟨F.1, F.2.1, F.2.2.1, F.2.2.2.1, hts⟩ hM ⟨cb, hts _ (c7 rfl).1, hts _ (c7 rfl).2⟩ hpre rfl (by simpa using hn) h2.2.1 hst hcat2 hd hf
    exact rx_after (Qa := rx_Qc (zG Z) r (rx_u Z u') (Value.ref (rx_base (zG Z) + r0) :: as.map (rx_ev (zG Z))).toArray) (fun _ _ _ q => q) hrun h3 (fun H' locs' g1 g2 => kk H' ls locs' g1 h2 g2)
  · have cb : vx_CVW (zR Z) (zS Z) (zA Z) (zo Z) (rx_ny j).cls i (rx_ny j) bytes maxL ret hh (Cond.codeWith (rx_ny j) bytes maxL ret hh :: rx_TB) (rx_rm D' (rx_u Z (some h0)) (rx_u Z u')) ((rx_u Z u').2.length - (rx_u Z (some h0)).2.length) (rx_sl (rx_u Z u') - rx_sl (rx_u Z (some h0))) n :=
      ⟨⟨rfl, rfl, hfr.1, by show 8 + (maxL + 11) + 64 * D' ≤ _; omega, pay_in hts (rx_gi c1), List.mem_cons_self⟩, hts _ c1, hts _ c2, ⟨c3.1, c3.2.1⟩, rx_sig c3.2.2, hts _ hl, hts _ (c7 rfl).1, hts _ (c7 rfl).2⟩
    have hrun := vx_runVW (below := zB Z) (e := zE Z) (meth := zMe Z) (locs := locs) (b := rx_base (zG Z) + r0) (C := (rx_ny j).cls) (As := as.map (rx_ev (zG Z))) (rest := rest.map (rx_ev (zG Z))) (g := F0 (zM Z) pc ls (((Value.ref r0 :: as).reverse ++ rest).map (rx_ev (zG Z)))) (nL := zn Z) (cc := zcc Z) ⟨F.1, F.2.1, F.2.2.1, F.2.2.2.1, hts⟩ hM cb hpre rfl (by simpa using hn) h2.2.1 hst hcat2 hd hf
    exact rx_after (Qa := rx_Qc (zG Z) r (rx_u Z u') (Value.ref (rx_base (zG Z) + r0) :: as.map (rx_ev (zG Z))).toArray) (fun _ _ _ q => q) hrun h3 (fun H' locs' g1 g2 => kk H' ls locs' g1 h2 g2)
theorem rx_t_callI (F : rx_Fr Z) {r0 : Nat} (hl : Cond.methodLink (zo Z) i (rx_ny j) ∈ rx_TB ∨ va_Nw (.methodLinkNest (zo Z) i (rx_ny j) "SetHouse") (zS Z)) (hc : rx_Cal (rx_ny j) cw 2 n) (hn : as.length = n) (hcat : rx_cat rest ≤ 8) (hok : rx_Ok (zL Z) (zG Z) (zd Z) (rx_ny j) cw (.ref r0 :: as) (rx_u Z u) r (rx_u Z u')) (hd : decode (zcc Z) pc = .ok (.invokespecial i, 3)) (k : rx_O Z (pc + 3) als (r.toList ++ rest) u') : rx_O Z pc als ((Value.ref r0 :: as).reverse ++ rest) u := by
  refine rx_room F hok k fun D' hD hM hf hfr kk H ls locs h1 h2 h3 => ?_
  obtain ⟨bytes, maxL, ret, hcw, c1, c2, c3, c4, c6, c7, c8⟩ := hc
  obtain ⟨d1, d2, rfl⟩ := c8 rfl
  rcases hcw with rfl | ⟨-, hno⟩
  case inr => exact absurd rfl hno
  have hts := F.2.2.2.2.1
  have hst : ((Value.ref r0 :: as).reverse ++ rest).map (rx_ev (zG Z)) = (as.map (rx_ev (zG Z))).reverse ++ .ref (rx_ad (zG Z) r0) :: rest.map (rx_ev (zG Z)) := by
    simp [rx_ev]
  have hat : ((Value.ref r0 :: as).map (rx_ev (zG Z))).toArray = (Value.ref (rx_ad (zG Z) r0) :: as.map (rx_ev (zG Z))).toArray := by simp [rx_ev]
  have hcat2 : 2 * (F0 (zM Z) pc ls (((Value.ref r0 :: as).reverse ++ rest).map (rx_ev (zG Z)))).monitorRoom + ((rest.map (rx_ev (zG Z))).map fun v => v.category).sum ≤ 8 := by
    show 2 * 0 + _ ≤ 8
    rw [rx_cat_eq]
    omega
  rcases hl with hl | hl
  · have cb : CallB (zR Z) (zS Z) (zA Z) (zo Z) i (rx_ny j) bytes maxL none (Cond.code (rx_ny j) bytes maxL none :: rx_TB) (rx_rm D' (rx_u Z u) (rx_u Z u')) ((rx_u Z u').2.length - (rx_u Z u).2.length) (rx_sl (rx_u Z u') - rx_sl (rx_u Z u)) n :=
      callB_of n hts (rx_gi c1) rfl rfl rfl (hts _ c2) (hts _ hl) c3 ⟨hfr.1, by show 8 + (maxL + 11) + 64 * D' ≤ _; omega⟩
    exact rx_after (Qa := rx_Qc (zG Z) r (rx_u Z u') (Value.ref (rx_ad (zG Z) r0) :: as.map (rx_ev (zG Z))).toArray) (fun _ _ _ q => q) (va_runI (b := rx_ad (zG Z) r0) (As := as.map (rx_ev (zG Z))) (nL := zn Z) (cc := zcc Z) ⟨F.1, F.2.1, F.2.2.1, F.2.2.2.1, hts⟩ hM ⟨cb, d1, hts _ d2⟩ ⟨rx_blind _ _ _, fun U hU hW => ⟨hat.symm, by rw [hU]; exact h1, F.2.2.2.2.2.1.warm hW⟩⟩ rfl (by simpa using hn) h2.2.1 hst hcat2 hd hf) h3 (fun H' locs' g1 g2 => kk H' ls locs' g1 h2 g2)
  · have cb : va_CN (zR Z) (zS Z) (zA Z) (zo Z) i (rx_ny j) "SetHouse" bytes maxL none (Cond.code (rx_ny j) bytes maxL none :: rx_TB) (rx_rm D' (rx_u Z u) (rx_u Z u')) ((rx_u Z u').2.length - (rx_u Z u).2.length) (rx_sl (rx_u Z u') - rx_sl (rx_u Z u)) n :=
      va_cnB n hts (rx_gi c1) rfl rfl rfl hl (hts _ c2) c3 ⟨hfr.1, by show 8 + (maxL + 11) + 64 * D' ≤ _; omega⟩
    exact rx_after (Qa := rx_Qc (zG Z) r (rx_u Z u') (Value.ref (rx_ad (zG Z) r0) :: as.map (rx_ev (zG Z))).toArray) (fun _ _ _ q => q) (va_runIN (b := rx_ad (zG Z) r0) (As := as.map (rx_ev (zG Z))) (nL := zn Z) (cc := zcc Z) ⟨F.1, F.2.1, F.2.2.1, F.2.2.2.1, hts⟩ hM ⟨cb, d1, hts _ d2⟩ ⟨rx_blind _ _ _, fun U hU hW => ⟨hat.symm, by rw [hU]; exact h1, F.2.2.2.2.2.1.warm hW⟩⟩ rfl (by simpa using hn) h2.2.1 hst hcat2 hd hf) h3 (fun H' locs' g1 g2 => kk H' ls locs' g1 h2 g2)
theorem rx_t_obj (F : rx_Fr Z) {r0 : Nat} {st : List Value} (hl : Cond.methodLink (zo Z) i Lib.objectInit ∈ rx_TB) (h5 : Cond.instanceMethod Lib.objectInit ∈ rx_TB) (h6 : Cond.code Lib.objectInit ⟨#[0xb1]⟩ 1 none ∈ rx_TB) (hcat : rx_cat st ≤ 8) (hd : decode (zcc Z) pc = .ok (.invokespecial i, 3)) (k : rx_WS Z (pc + 3) als st u) : rx_WS Z pc als (.ref r0 :: st) u := by
  intro H ls locs h1 h2 h3
  have hts := F.2.2.2.2.1
  obtain ⟨f1, f2, f3, f4⟩ := F.2.2.2.2.2.2.2
  refine W.objInit F.1 F.2.1 F.2.2.2.1 (hts _ hl) (hts _ h5) (hts _ h6) (g := F0 (zM Z) pc ls (.ref (rx_ad (zG Z) r0) :: st.map (rx_ev (zG Z)))) rfl (h2.2.1.trans F.2.2.1.symm) rfl hd (by omega) ?_ (k H ls locs h1 h2 h3)
  show 2 * 0 + _ + 12 ≤ _
  rw [rx_cat_eq]
  omega
/-- System.arraycopy of longs -/
theorem rx_t_copy (F : rx_Fr Z) {st : List Value} {r0 r1 : Nat} {sp dp n : Int32} (hl : Cond.methodLink (zo Z) i arraycopyName ∈ rx_TB) (h5 : Cond.native arraycopyName ∈ rx_TB) (h6 : Cond.static arraycopyName ∈ rx_TB) (h7 : Cond.initialized "java/lang/System" ∈ rx_TB) (hcat : rx_cat st ≤ 8) (hx : rx_cp u r0 sp r1 dp n = some u') (hd : decode (zcc Z) pc = .ok (.invokestatic i, 3)) (kk : rx_O Z (pc + 3) als st u') : rx_O Z pc als (.int n :: .int dp :: .ref r1 :: .int sp :: .ref r0 :: st) u := by
  unfold rx_cp at hx
  split at hx
  · cases hx
  next h0 =>
  split at hx
  case h_2 => cases hx
  next n0 f n1 g hc0 hc1 =>
  split at hx
  case isTrue => cases hx
  next hi =>
  cases hx
  have b1 : ¬ sp < 0 := fun q => hi (Or.inl q)
  have b2 : ¬ dp < 0 := fun q => hi (Or.inr (Or.inl q))
  have b3 : ¬ n < 0 := fun q => hi (Or.inr (Or.inr (Or.inl q)))
  have b4 : sp.toNatClampNeg + n.toNatClampNeg ≤ n0 := Nat.not_lt.mp fun q => hi (Or.inr (Or.inr (Or.inr (Or.inl q))))
  have b5 : dp.toNatClampNeg + n.toNatClampNeg ≤ n1 := Nat.not_lt.mp fun q => hi (Or.inr (Or.inr (Or.inr (Or.inr q))))
  refine rx_putA hc1 (by rfl) kk fun k H ls locs h1 h2 h3 => ?_
  have hR : rx_R (zG Z) h0 H := h1
  have hts := F.2.2.2.2.1
  obtain ⟨f1, f2, f3, f4⟩ := F.2.2.2.2.2.2.2
  show W _ _ _ _ _ _ _ _ _ _ H locs _ _ _ (F0 _ pc ls (.int n :: .int dp :: .ref (rx_ad (zG Z) r1) :: .int sp :: .ref (rx_ad (zG Z) r0) :: st.map (rx_ev (zG Z))))
  rw [rx_ad_lt _ (rx_lt6 hR hc0), rx_ad_lt _ (rx_lt6 hR hc1)]
  have hK := F.2.2.2.2.2.1.1
  obtain ⟨-, k0, hk0, cm0, hkk0⟩ := (hK.2 1 _ rfl).1 n0 (fun j => .long (f j))
  obtain ⟨-, k1, hk1, cm1, hkk1⟩ := (hK.2 1 _ rfl).1 n1 (fun j => .long (g j))
  have nn : ∀ z : Int32, ¬ z < 0 → z.toInt = (z.toNatClampNeg : Int) := by
    intro z hz
    have hz0 : (0 : Int) ≤ z.toInt := by
      have := Int32.not_lt.mp hz
      simpa using Int32.le_iff_toInt_le.mp this
    show z.toInt = ((z.toInt.toNat : Nat) : Int)
    omega
  have e0 : H[rx_base (zG Z) + r0]? = some (arrV (rx_cJ (zG Z)) n0 (fun j => .long (f j))) := hR.1 r0 _ hc0
  have e1 : H[rx_base (zG Z) + r1]? = some (arrV (rx_cJ (zG Z)) n1 (fun j => .long (g j))) := hR.1 r1 _ hc1
  intro T hT X
  obtain ⟨vm', X', step⟩ := X.arraycopy F.1 F.2.2.2.1 (hts _ hl) (hts _ h5) (hts _ h6) (hts _ h7) (src := rx_base (zG Z) + r0) (dst := rx_base (zG Z) + r1) (cs := arrV (rx_cJ (zG Z)) n0 (fun j => .long (f j))) (cd := arrV (rx_cJ (zG Z)) n1 (fun j => .long (g j))) (srcPos := sp) (destPos := dp) (n := n) (by rw [hT]; exact e0) (by rw [hT]; exact e1)
    (fun _ h => by cases h) (fun _ h => by cases h) (fun h => by cases h) (fun h => by cases h) hk0 hk1 hkk0 hkk1 rfl b1 b2 b3
    (by rw [nn sp b1, nn n b3, arrV_size]; omega)
    (by rw [nn dp b2, nn n b3, arrV_size]; omega)
    (fun vm₁ _ i hi => by
      have e : (arrV (rx_cJ (zG Z)) n0 (fun j => .long (f j))).slots.getD (sp.toNatClampNeg + i) .null = .long (f (sp.toNatClampNeg + i)) := by
        rw [Array.getD_eq_getD_getElem?, arrV_read _ _ (by omega)]
        rfl
      refine ⟨?_, ?_⟩
      · rw [e]; rfl
      · rw [e]; exact trivial)
    (g := F0 (zM Z) pc ls (.int n :: .int dp :: .ref (rx_base (zG Z) + r1) :: .int sp :: .ref (rx_base (zG Z) + r0) :: st.map (rx_ev (zG Z)))) rfl (h2.2.1.trans F.2.2.1.symm) (rest := st.map (rx_ev (zG Z))) rfl (by rw [F.2.1]; exact hd) (by omega) (by
      show 2 * 0 + _ + _ ≤ _
      rw [rx_cat_eq]
      have : nativeFrameWords "java/lang/System" "arraycopy" 5 + 11 ≤ 56 := by decide +kernel
      omega)
  have ecp : copied (arrV (rx_cJ (zG Z)) n0 (fun j => .long (f j))) (arrV (rx_cJ (zG Z)) n1 (fun j => .long (g j))) sp dp n = arrV (rx_cJ (zG Z)) n1 (fun j => .long (va_cpy f g sp.toNatClampNeg dp.toNatClampNeg n.toNatClampNeg j)) := va_copied (fun z => .long z) _ _ f g b4
  rw [ecp] at X' step
  have hlt : rx_base (zG Z) + r1 < H.size := (Array.getElem?_eq_some_iff.mp e1).1
  have hheap : ((T.setVm vm').setCell (rx_base (zG Z) + r1) (arrV (rx_cJ (zG Z)) n1 (fun j => .long (va_cpy f g sp.toNatClampNeg dp.toNatClampNeg n.toNatClampNeg j)))).heap = H.setIfInBounds (rx_base (zG Z) + r1) (arrV (rx_cJ (zG Z)) n1 (fun j => .long (va_cpy f g sp.toNatClampNeg dp.toNatClampNeg n.toNatClampNeg j))) := by rw [← hT]; rfl
  have oq : ∀ q : Nat, q ≠ rx_base (zG Z) + r1 → (H.setIfInBounds (rx_base (zG Z) + r1) (arrV (rx_cJ (zG Z)) n1 (fun j => .long (va_cpy f g sp.toNatClampNeg dp.toNatClampNeg n.toNatClampNeg j))))[q]? = H[q]? := fun q hq => by simp [Array.getElem?_setIfInBounds, Ne.symm hq]
  obtain ⟨t, a1, d1⟩ := k (H.setIfInBounds (rx_base (zG Z) + r1) (arrV (rx_cJ (zG Z)) n1 (fun j => .long (va_cpy f g sp.toNatClampNeg dp.toNatClampNeg n.toNatClampNeg j)))) ls _ (hR.set hc1 (show (H.setIfInBounds _ _)[_]? = some _ by simp [Array.getElem?_setIfInBounds, hlt]) (by simp) oq) h2 (fun q hq => by
      rcases List.mem_append.mp hq with h | h
      · exact h3 q h
      · obtain ⟨z, -, hz⟩ := List.mem_map.mp h
        rw [← hz]
        exact Nat.le_add_right _ _) _ hheap X'
  exact ⟨t, step t a1, d1⟩
/-- a switch -/
theorem rx_t_switch (F : rx_Fr Z) {st : List Value} {dflt lo hi : Int} {offs : Array Int} {len a : Nat} {sw : List (Int32 × Nat)} {x : Int32} {α : Type} {kt : Nat → Option α} {z : α} (hd : decode (zcc Z) pc = .ok (.tableswitch dflt lo hi offs, len)) (ha : (pc : Int) + dflt = (a : Int))
    (hsw : sw.length = (hi - lo + 1).toNat ∧ ∀ (k : Nat) (q : Int32 × Nat), sw[k]? = some q → q.1.toInt = lo + (k : Int) ∧ ∃ o, offs[k]? = some o ∧ (pc : Int) + o = (q.2 : Int)) (h : rx_sw kt x a sw = some z) (g : ∀ t, kt t = some z → rx_O Z t als st u) : rx_O Z pc als (.int x :: st) u := by
  have key : ∀ (l : List (Int32 × Nat)), rx_sw kt x a l = some z → (∃ (k : Nat) (q : Int32 × Nat), l[k]? = some q ∧ x = q.1 ∧ kt q.2 = some z) ∨ ((∀ (k : Nat) (q : Int32 × Nat), l[k]? = some q → ¬ x = q.1) ∧ kt a = some z) := by
    intro l
    induction l with
    | nil => intro h; exact Or.inr ⟨fun k q hk => by simp at hk, h⟩
    | cons q0 l ih =>
      intro h
      unfold rx_sw at h
      split at h
      · next hx => exact Or.inl ⟨0, q0, rfl, hx, h⟩
      · next hx =>
        rcases ih h with ⟨k, q, e1, e2, e3⟩ | ⟨e1, e2⟩
        · exact Or.inl ⟨k + 1, q, by simpa using e1, e2, e3⟩
        · refine Or.inr ⟨fun k q hk => ?_, e2⟩
          cases k with
          | zero => simp at hk; rw [← hk]; exact hx
          | succ k => exact e1 k q (by simpa using hk)
  rcases key sw h with ⟨k, q, e1, e2, e3⟩ | ⟨e1, e2⟩
  · obtain ⟨d1, o, d2, d3⟩ := hsw.2 k q e1
    have hk : k < sw.length := (List.getElem?_eq_some_iff.mp e1).1
    refine (g _ e3).map fun kk H ls locs h1 h2 h3 => lv_tableIn F.1 F.2.1 hd ?_ ?_ (off := o) ?_ d3 (kk H ls locs h1 h2 h3)
    · rw [e2, d1]; omega
    · rw [e2, d1]; omega
    · rw [e2, d1, show (lo + (k : Int) - lo).toNat = k by omega]; exact d2
  · refine (g _ e2).map fun kk H ls locs h1 h2 h3 => lv_tableOut F.1 F.2.1 hd ?_ ha (kk H ls locs h1 h2 h3)
    apply Classical.byContradiction
    intro hno
    have n1 : lo ≤ x.toInt := Int.not_lt.mp fun q => hno (Or.inl q)
    have n2 : x.toInt ≤ hi := Int.not_lt.mp fun q => hno (Or.inr q)
    have hk : (x.toInt - lo).toNat < sw.length := by rw [hsw.1]; omega
    obtain ⟨d1, -⟩ := hsw.2 (x.toInt - lo).toNat _ (List.getElem?_eq_getElem hk)
    refine e1 (x.toInt - lo).toNat _ (List.getElem?_eq_getElem hk) (Int32.toInt_inj.mp ?_)
    rw [d1]
    omega
end rxC
end
section
/-! ===== The small machine's runs are the machine's ===== -/
def rx_wd (w : Nat) (c : Cond) : Bool := decide (lw_tbl[w]? = some c) && goodWord c
theorem rx_wd_in {w : Nat} {c : Cond} (h : rx_wd w c = true) : c ∈ rx_TB := by
  unfold rx_wd at h
  simp only [Bool.and_eq_true, decide_eq_true_eq] at h
  exact rx_in h.1 h.2
theorem rx_k_ai : Cond.arrayClass .int ∈ rx_TB := rx_in (i := 134) (by decide +kernel) (by decide +kernel)
theorem rx_k_aj : Cond.arrayClass .long ∈ rx_TB := rx_in (i := 105) (by decide +kernel) (by decide +kernel)
theorem rx_k_oi : Cond.instanceMethod Lib.objectInit ∈ rx_TB := rx_in (i := 64) (by decide +kernel) (by decide +kernel)
theorem rx_k_oc : Cond.code Lib.objectInit ⟨#[0xb1]⟩ 1 none ∈ rx_TB := rx_in (i := 65) (by decide +kernel) (by decide +kernel)
theorem rx_k_cn : Cond.native arraycopyName ∈ rx_TB := rx_in (i := 619) (by decide +kernel) (by decide +kernel)
theorem rx_k_cs : Cond.static arraycopyName ∈ rx_TB := rx_in (i := 618) (by decide +kernel) (by decide +kernel)
theorem rx_k_ci : Cond.initialized "java/lang/System" ∈ rx_TB := rx_in (i := 57) (by decide +kernel) (by decide +kernel)
theorem rx_k_i0 : Cond.instantiable "SetHouse$Place" 6 ∈ rx_TB ∧ Cond.initialized "SetHouse$Place" ∈ rx_TB := ⟨rx_in (i := 71) (by decide +kernel) (by decide +kernel), rx_in (i := 43) (by decide +kernel) (by decide +kernel)⟩
theorem rx_k_i1 : Cond.instantiable "SetHouse$Seeker" 5 ∈ rx_TB ∧ Cond.initialized "SetHouse$Seeker" ∈ rx_TB := ⟨rx_in (i := 113) (by decide +kernel) (by decide +kernel), rx_in (i := 45) (by decide +kernel) (by decide +kernel)⟩
theorem rx_k_i2 : Cond.instantiable "SetHouse" 6 ∈ rx_TB ∧ Cond.initialized "SetHouse" ∈ rx_TB := ⟨rx_in (i := 59) (by decide +kernel) (by decide +kernel), rx_in (i := 41) (by decide +kernel) (by decide +kernel)⟩
theorem rx_k_i3 : Cond.instantiable "SetHouseModel" 15 ∈ rx_TB ∧ Cond.initialized "SetHouseModel" ∈ rx_TB := ⟨rx_in (i := 744) (by decide +kernel) (by decide +kernel), rx_in (i := 46) (by decide +kernel) (by decide +kernel)⟩
theorem rx_k_i {a : Nat} {q : vw_C} (h : rx_cl[a]? = some q) : Cond.instantiable q.1 q.2.2 ∈ rx_TB ∧ Cond.initialized q.1 ∈ rx_TB := by
  match a, h with
  | 0, h => cases h; exact rx_k_i0
  | 1, h => cases h; exact rx_k_i1
  | 2, h => cases h; exact rx_k_i2
  | 3, h => cases h; exact rx_k_i3
  | n + 4, h => simp [rx_cl] at h
def rx_isR : FieldType → Bool
  | .object _ => true
  | .array _ => true
  | _ => false
/-- a row of a method's table is right -/
def rx_eok (own : String) (cc : ByteArray) (nL : Nat) (ini bo : Bool) (e : rx_E) : Bool := match e with
  | (pc, ins, len, a, b, w, vi, vl, sw) => decide (decode cc pc = .ok (ins, len)) && (match ins with
    | .iconst n => decide (len = 1) && decide (Int32.ofInt n = vi)
    | .bipush n => decide (len = 2) && decide ((Int8.ofInt n).toInt32 = vi)
    | .sipush n => decide (len = 3) && decide ((Int16.ofInt n).toInt32 = vi)
    | .ldc i => decide (len = 2) && rx_wd w (.constant own i vi)
    | .ldc_w i => decide (len = 3) && rx_wd w (.constant own i vi)
    | .lconst n => decide (len = 1) && decide (Int64.ofNat n.val = vl)
    | .ldc2_w i => decide (len = 3) && rx_wd w (.constantLong own i vl)
    | .iload _ => decide (len = 2)
    | .lload _ => decide (len = 2)
    | .aload _ => decide (len = 2)
    | .istore i => decide (len = 2) && decide (i < nL)
    | .lstore i => decide (len = 2) && decide (i + 1 < nL)
    | .astore i => decide (len = 2) && decide (i < nL)
    | .istore_n i => decide (len = 1) && decide (i.val < nL)
    | .lstore_n i => decide (len = 1) && decide (i.val + 1 < nL)
    | .astore_n i => decide (len = 1) && decide (i.val < nL)
    | .iinc i n => decide (len = 3) && (decide (i < nL) && decide (Int32.ofInt n = vi))
    | .goto off => decide (len = 3) && decide ((pc : Int) + off = (a : Int))
    | .ifCond _ off => decide (len = 3) && decide ((pc : Int) + off = (a : Int))
    | .if_icmp _ off => decide (len = 3) && decide ((pc : Int) + off = (a : Int))
    | .tableswitch d lo hi offs => decide ((pc : Int) + d = (a : Int)) && (decide (sw.length = (hi - lo + 1).toNat) && sw.zipIdx.all (fun q => decide (q.1.1.toInt = lo + (q.2 : Int)) && (match offs[q.2]? with
      | some o => decide ((pc : Int) + o = (q.1.2 : Int))
      | none => false)))
    | .getfield i => decide (len = 3) && (match rx_cl[a]? with
      | some q => decide (b / 4 < q.2.2) && rx_wd w (.fieldLink own i (q.2.1 (b / 4)).1 (q.2.1 (b / 4)).2.1 (q.2.1 (b / 4)).2.2.1)
      | none => false)
    | .putfield i => decide (len = 3) && (match rx_cl[a]? with
      | some q => decide (b / 4 < q.2.2) && (rx_wd w (.fieldLink own i (q.2.1 (b / 4)).1 (q.2.1 (b / 4)).2.1 (q.2.1 (b / 4)).2.2.1) && ((decide ((q.2.1 (b / 4)).2.2.2 = false) || (ini && decide ((q.2.1 (b / 4)).1 = own))) &&
        (match b % 4 with
          | 0 => decide (rx_ty a (b / 4) = .int)
          | 1 => decide (rx_ty a (b / 4) = .long)
          | _ => rx_isR (rx_ty a (b / 4)))))
      | none => false)
    | .getstatic i => decide (len = 3) && ((decide (a = 1000001) && rx_wd w (.fieldLink own i "SetHouse$Heap" "WITHOUT" "[J")) || (decide (a = 1000002) && rx_wd w (.fieldLink own i "SetHouse$Numbers" "FACTORIALS" "[I")))
    | .newarray _ => decide (len = 2)
    | .anewarray i => decide (len = 3) && rx_wd w (.classLink own i "SetHouse$Place")
    | .new i => decide (len = 3) && (match rx_cl[a]? with
      | some q => rx_wd w (.classLink own i q.1)
      | none => false)
    | .invokestatic i => decide (len = 3) && (match b with
      | 1000 => rx_wd w (.methodLink own i arraycopyName)
      | _ => rx_wd w (.methodLink own i (rx_ny a)) && decide (rx_kd a = 0))
    | .invokevirtual i => decide (len = 3) && (rx_wd w (.methodLink own i (rx_ny a)) && (decide (rx_kd a = 1) && (match rx_cl[b / 100]? with
      | some q => decide ((rx_ny a).cls = q.1)
      | none => false)))
    | .invokespecial i => decide (len = 3) && (match b with
      | 1000 => rx_wd w (.methodLink own i Lib.objectInit)
      | _ => decide (rx_kd a = 2) && (rx_wd w (.methodLink own i (rx_ny a)) || (decide (own = "SetHouse") && ((decide (i = 28) && decide (rx_ny a = rx_yP)) || (decide (i = 41) && decide (rx_ny a = rx_yS))))))
    | .ireturn => decide (len = 1) && (match bo with
      | true => decide (b = 1) || decide (b = 2)
      | false => decide (b = 0))
    | _ => decide (len = 1))
def rx_adj : List rx_E → Bool
  | e :: e' :: es => decide (e.1 + e.2.2.1 = e'.1) && rx_adj (e' :: es)
  | _ => true
def rx_tab (Z : rx_Z) (es : List rx_E) : Prop := (∀ e ∈ es, rx_eok (zo Z) (zcc Z) (zn Z) (zi Z) (zb Z) e = true) ∧ rx_adj es = true
theorem rx_tab.tail {Z : rx_Z} {e : rx_E} {es : List rx_E} (h : rx_tab Z (e :: es)) : rx_tab Z es := by
  refine ⟨fun x hx => h.1 x (List.mem_cons_of_mem _ hx), ?_⟩
  cases es with
  | nil => rfl
  | cons e' es =>
    have := h.2
    simp only [rx_adj, Bool.and_eq_true] at this
    exact this.2
theorem rx_tab.suf {Z : rx_Z} {es : List rx_E} (t : Nat) (h : rx_tab Z es) : rx_tab Z (rx_suf t es) := by
  induction es with
  | nil => exact h
  | cons e es ih =>
    unfold rx_suf
    cases Nat.beq e.1 t with
    | true => exact h
    | false => exact ih h.tail
theorem rx_suf_head {t : Nat} {es es' : List rx_E} {e' : rx_E} (h : rx_suf t es = e' :: es') : e'.1 = t := by
  induction es with
  | nil => cases h
  | cons e es ih =>
    unfold rx_suf at h
    cases hb : Nat.beq e.1 t with
    | true =>
      rw [hb] at h
      cases h
      exact Nat.eq_of_beq_eq_true hb
    | false =>
      rw [hb] at h
      exact ih h
/-- the calls are right -/
def rx_CS {α : Type} (Z : rx_Z) (C : rx_Cl α) (z : α) : Prop := ∀ (j : Nat) (as : List Value) (u : Option rx_H) (κ : rx_K α), C j as u κ = some z → ∃ (r : Option Value) (u' : Option rx_H) (cw : Cond) (n : Nat), κ r u' = some z ∧ rx_Cal (rx_ny j) cw (rx_kd j) n ∧ (rx_kd j = 0 → as.length = n) ∧ (¬ rx_kd j = 0 → ∃ (r0 : Nat) (as' : List Value), as = .ref r0 :: as' ∧ as'.length = n) ∧ rx_Ok (zL Z) (zG Z) (zd Z) (rx_ny j) cw as (rx_u Z u) r (rx_u Z u')
/-- the end is right -/
def rx_rv (Z : rx_Z) (pc : Nat) : Option Value → Prop
  | some (.int x) => decode (zcc Z) pc = .ok (.ireturn, 1) ∧ (zb Z = true → x = 0 ∨ x = 1)
  | some (.long _) => decode (zcc Z) pc = .ok (.lreturn, 1)
  | none => decode (zcc Z) pc = .ok (.return_, 1)
  | _ => False
def rx_RT {α : Type} (Z : rx_Z) (ret : rx_K α) (z : α) : Prop := ∀ (v : Option Value) (u : Option rx_H), ret v u = some z → (rx_u Z u).2.length ≤ zn1 Z ∧ rx_sl (rx_u Z u) ≤ zs1 Z ∧
  ∀ (pc : Nat) (ls : Array Slot) (H : Heap) (locs : List Loc), rx_rv Z pc v → rx_R (zG Z) (rx_u Z u) H → (∀ q ∈ locs, rx_base (zG Z) ≤ q.base) → zW Z H locs ((rx_u Z u).2.length - zn0 Z) (rx_sl (rx_u Z u) - zs0 Z) (F0 (zM Z) pc ls (v.toList.map (rx_ev (zG Z))))
theorem rx_take_eq {n : Nat} {st acc as rest : List Value} (h : rx_take n st acc = some (as, rest)) : as.reverse ++ rest = acc.reverse ++ st := by
  induction n generalizing st acc with
  | zero => simp only [rx_take] at h; cases h; rfl
  | succ n ih =>
    cases st with
    | nil => simp [rx_take] at h
    | cons v st =>
      simp only [rx_take] at h
      rw [ih h]
      simp
section rxA
variable {Z : rx_Z} {α : Type} {C : rx_Cl α} {ret : rx_K α} {all es : List rx_E} {k : rx_Go α} {ls : rx_L} {st : List Value} {u : Option rx_H} {z : α}
set_option maxHeartbeats 4000000 in
set_option maxRecDepth 100000 in
theorem rx_act_ok (F : rx_Fr Z) {en : rx_E} (hall : rx_tab Z all) (hen : rx_tab Z (en :: es)) (hC : rx_CS Z C z) (hk : ∀ (es : List rx_E) (ls : rx_L) (st : List Value) (u : Option rx_H), rx_tab Z es → k es ls st u = some z → ∃ (e' : rx_E) (es' : List rx_E), es = e' :: es' ∧ rx_O Z e'.1 ls st u) (hret : rx_RT Z ret z) (h : rx_act C ret all k en es ls st u = some z) : rx_O Z en.1 ls st u := by
  have nx : ∀ (ls : rx_L) (st : List Value) (u : Option rx_H), k es ls st u = some z → rx_O Z (en.1 + en.2.2.1) ls st u := by
    intro ls st u h
    obtain ⟨e', es', rfl, ho⟩ := hk _ _ _ _ hen.tail h
    have := hen.2
    simp only [rx_adj, Bool.and_eq_true, decide_eq_true_eq] at this
    rw [this.1]
    exact ho
  have jp : ∀ (t : Nat) (ls : rx_L) (st : List Value) (u : Option rx_H), k (rx_suf t all) ls st u = some z → rx_O Z t ls st u := by
    intro t ls st u h
    obtain ⟨e', es', he, ho⟩ := hk _ _ _ _ (hall.suf t) h
    rw [← rx_suf_head he]
    exact ho
  have hok := hen.1 _ List.mem_cons_self
  obtain ⟨pc, ins, len, a, b, w, vi, vl, sw⟩ := en
  unfold rx_eok at hok
  dsimp only at hok nx ⊢
  rw [Bool.and_eq_true, decide_eq_true_eq] at hok
  obtain ⟨hd, hok⟩ := hok
  unfold rx_act at h
  dsimp only at h
  cases ins <;> (try dsimp only at h) <;> (try dsimp only at hok)
  case iconst n =>
    simp only [Bool.and_eq_true, decide_eq_true_eq] at hok
    obtain ⟨rfl, hv⟩ := hok
    exact (nx _ _ _ h).map (rx_t_iconst F hv hd)
  case bipush n =>
    simp only [Bool.and_eq_true, decide_eq_true_eq] at hok
    obtain ⟨rfl, hv⟩ := hok
    exact (nx _ _ _ h).map (rx_t_bipush F hv hd)
  case sipush n =>
    simp only [Bool.and_eq_true, decide_eq_true_eq] at hok
    obtain ⟨rfl, hv⟩ := hok
    exact (nx _ _ _ h).map (rx_t_sipush F hv hd)
  case lconst n =>
    simp only [Bool.and_eq_true, decide_eq_true_eq] at hok
    obtain ⟨rfl, hv⟩ := hok
    exact (nx _ _ _ h).map (rx_t_lconst F hv hd)
  case ldc i =>
    simp only [Bool.and_eq_true, decide_eq_true_eq] at hok
    obtain ⟨rfl, hv⟩ := hok
    exact (nx _ _ _ h).map (rx_t_ldc F (rx_wd_in hv) hd)
  case ldc_w i =>
    simp only [Bool.and_eq_true, decide_eq_true_eq] at hok
    obtain ⟨rfl, hv⟩ := hok
    exact (nx _ _ _ h).map (rx_t_ldc_w F (rx_wd_in hv) hd)
  case ldc2_w i =>
    simp only [Bool.and_eq_true, decide_eq_true_eq] at hok
    obtain ⟨rfl, hv⟩ := hok
    exact (nx _ _ _ h).map (rx_t_ldc2 F (rx_wd_in hv) hd)
  case iload i =>
    rw [decide_eq_true_eq] at hok
    subst hok
    split at h
    · next hl => exact (nx _ _ _ h).map (rx_t_iload F hl hd)
    · cases h
  case iload_n i =>
    rw [decide_eq_true_eq] at hok
    subst hok
    split at h
    · next hl => exact (nx _ _ _ h).map (rx_t_iload_n F hl hd)
    · cases h
  case istore i =>
    simp only [Bool.and_eq_true, decide_eq_true_eq] at hok
    obtain ⟨rfl, hv⟩ := hok
    split at h
    · exact (nx _ _ _ h).map (rx_t_istore F hv hd)
    · cases h
  case istore_n i =>
    simp only [Bool.and_eq_true, decide_eq_true_eq] at hok
    obtain ⟨rfl, hv⟩ := hok
    split at h
    · exact (nx _ _ _ h).map (rx_t_istore_n F hv hd)
    · cases h
  case lload i =>
    rw [decide_eq_true_eq] at hok
    subst hok
    split at h
    · next hl => exact (nx _ _ _ h).map (rx_t_lload F hl hd)
    · cases h
  case lload_n i =>
    rw [decide_eq_true_eq] at hok
    subst hok
    split at h
    · next hl => exact (nx _ _ _ h).map (rx_t_lload_n F hl hd)
    · cases h
  case lstore i =>
    simp only [Bool.and_eq_true, decide_eq_true_eq] at hok
    obtain ⟨rfl, hv⟩ := hok
    split at h
    · exact (nx _ _ _ h).map (rx_t_lstore F hv hd)
    · cases h
  case lstore_n i =>
    simp only [Bool.and_eq_true, decide_eq_true_eq] at hok
    obtain ⟨rfl, hv⟩ := hok
    split at h
    · exact (nx _ _ _ h).map (rx_t_lstore_n F hv hd)
    · cases h
  case aload i =>
    rw [decide_eq_true_eq] at hok
    subst hok
    split at h
    · next hl => exact (nx _ _ _ h).map (rx_t_aload F hl hd)
    · cases h
  case aload_n i =>
    rw [decide_eq_true_eq] at hok
    subst hok
    split at h
    · next hl => exact (nx _ _ _ h).map (rx_t_aload_n F hl hd)
    · cases h
  case astore i =>
    simp only [Bool.and_eq_true, decide_eq_true_eq] at hok
    obtain ⟨rfl, hv⟩ := hok
    split at h
    · exact (nx _ _ _ h).map (rx_t_astore F hv hd)
    · cases h
  case astore_n i =>
    simp only [Bool.and_eq_true, decide_eq_true_eq] at hok
    obtain ⟨rfl, hv⟩ := hok
    split at h
    · exact (nx _ _ _ h).map (rx_t_astore_n F hv hd)
    · cases h
  case iinc i n =>
    simp only [Bool.and_eq_true, decide_eq_true_eq] at hok
    obtain ⟨rfl, hv, hv2⟩ := hok
    split at h
    · next hl => exact (nx _ _ _ h).map (rx_t_iinc F hv2 hv hl hd)
    · cases h
  case iadd =>
    rw [decide_eq_true_eq] at hok
    subst hok
    split at h
    · exact (nx _ _ _ h).map (rx_t_iadd F hd)
    · cases h
  case isub =>
    rw [decide_eq_true_eq] at hok
    subst hok
    split at h
    · exact (nx _ _ _ h).map (rx_t_isub F hd)
    · cases h
  case imul =>
    rw [decide_eq_true_eq] at hok
    subst hok
    split at h
    · exact (nx _ _ _ h).map (rx_t_imul F hd)
    · cases h
  case iand =>
    rw [decide_eq_true_eq] at hok
    subst hok
    split at h
    · exact (nx _ _ _ h).map (rx_t_iand F hd)
    · cases h
  case ior =>
    rw [decide_eq_true_eq] at hok
    subst hok
    split at h
    · exact (nx _ _ _ h).map (rx_t_ior F hd)
    · cases h
  case ixor =>
    rw [decide_eq_true_eq] at hok
    subst hok
    split at h
    · exact (nx _ _ _ h).map (rx_t_ixor F hd)
    · cases h
  case ishl =>
    rw [decide_eq_true_eq] at hok
    subst hok
    split at h
    · exact (nx _ _ _ h).map (rx_t_ishl F hd)
    · cases h
  case ishr =>
    rw [decide_eq_true_eq] at hok
    subst hok
    split at h
    · exact (nx _ _ _ h).map (rx_t_ishr F hd)
    · cases h
  case iushr =>
    rw [decide_eq_true_eq] at hok
    subst hok
    split at h
    · exact (nx _ _ _ h).map (rx_t_iushr F hd)
    · cases h
  case ineg =>
    rw [decide_eq_true_eq] at hok
    subst hok
    split at h
    · exact (nx _ _ _ h).map (rx_t_ineg F hd)
    · cases h
  case ladd =>
    rw [decide_eq_true_eq] at hok
    subst hok
    split at h
    · exact (nx _ _ _ h).map (rx_t_ladd F hd)
    · cases h
  case lsub =>
    rw [decide_eq_true_eq] at hok
    subst hok
    split at h
    · exact (nx _ _ _ h).map (rx_t_lsub F hd)
    · cases h
  case lmul =>
    rw [decide_eq_true_eq] at hok
    subst hok
    split at h
    · exact (nx _ _ _ h).map (rx_t_lmul F hd)
    · cases h
  case land =>
    rw [decide_eq_true_eq] at hok
    subst hok
    split at h
    · exact (nx _ _ _ h).map (rx_t_land F hd)
    · cases h
  case lor =>
    rw [decide_eq_true_eq] at hok
    subst hok
    split at h
    · exact (nx _ _ _ h).map (rx_t_lor F hd)
    · cases h
  case lxor =>
    rw [decide_eq_true_eq] at hok
    subst hok
    split at h
    · exact (nx _ _ _ h).map (rx_t_lxor F hd)
    · cases h
  case lneg =>
    rw [decide_eq_true_eq] at hok
    subst hok
    split at h
    · exact (nx _ _ _ h).map (rx_t_lneg F hd)
    · cases h
  case lshl =>
    rw [decide_eq_true_eq] at hok
    subst hok
    split at h
    · exact (nx _ _ _ h).map (rx_t_lshl F hd)
    · cases h
  case lushr =>
    rw [decide_eq_true_eq] at hok
    subst hok
    split at h
    · exact (nx _ _ _ h).map (rx_t_lushr F hd)
    · cases h
  case i2l =>
    rw [decide_eq_true_eq] at hok
    subst hok
    split at h
    · exact (nx _ _ _ h).map (rx_t_i2l F hd)
    · cases h
  case l2i =>
    rw [decide_eq_true_eq] at hok
    subst hok
    split at h
    · exact (nx _ _ _ h).map (rx_t_l2i F hd)
    · cases h
  case i2b =>
    rw [decide_eq_true_eq] at hok
    subst hok
    split at h
    · exact (nx _ _ _ h).map (rx_t_i2b F hd)
    · cases h
  case ldiv =>
    rw [decide_eq_true_eq] at hok
    subst hok
    split at h
    · split at h
      · cases h
      · next hy => exact (nx _ _ _ h).map (rx_t_ldiv F hy hd)
    · cases h
  case idiv =>
    rw [decide_eq_true_eq] at hok
    subst hok
    split at h
    · next y x st' =>
      split at h
      · by_cases hy : y = 0
        · rw [decide_eq_true hy] at h
          cases h
        · rw [decide_eq_false hy] at h
          exact (nx _ _ _ h).map (rx_t_idiv F hy hd)
      · split at h
        · cases h
        · next hy => exact (nx _ _ _ h).map (rx_t_idiv F hy hd)
    · cases h
  case irem =>
    rw [decide_eq_true_eq] at hok
    subst hok
    split at h
    · next y x st' =>
      split at h
      · by_cases hy : y = 0
        · rw [decide_eq_true hy] at h
          cases h
        · rw [decide_eq_false hy] at h
          exact (nx _ _ _ h).map (rx_t_irem F hy hd)
      · split at h
        · cases h
        · next hy => exact (nx _ _ _ h).map (rx_t_irem F hy hd)
    · cases h
  case dup =>
    rw [decide_eq_true_eq] at hok
    subst hok
    split at h
    · exact (nx _ _ _ h).map (rx_t_dupI F hd)
    · exact (nx _ _ _ h).map (rx_t_dupR F hd)
    · cases h
  case dup2 =>
    rw [decide_eq_true_eq] at hok
    subst hok
    split at h
    · exact (nx _ _ _ h).map (rx_t_dup2R F hd)
    · exact (nx _ _ _ h).map (rx_t_dup2I F hd)
    · cases h
  case pop =>
    rw [decide_eq_true_eq] at hok
    subst hok
    split at h
    · exact (nx _ _ _ h).map (rx_t_popI F hd)
    · exact (nx _ _ _ h).map (rx_t_popR F hd)
    · cases h
  case goto off =>
    simp only [Bool.and_eq_true, decide_eq_true_eq] at hok
    obtain ⟨rfl, hv⟩ := hok
    exact (jp _ _ _ _ h).map (rx_t_goto F hv hd)
  case ifCond cd off =>
    simp only [Bool.and_eq_true, decide_eq_true_eq] at hok
    obtain ⟨rfl, hv⟩ := hok
    split at h
    · exact rx_t_if F hv hd h (jp _ _ _ _) (nx _ _ _)
    · cases h
  case if_icmp cd off =>
    simp only [Bool.and_eq_true, decide_eq_true_eq] at hok
    obtain ⟨rfl, hv⟩ := hok
    split at h
    · exact rx_t_icmp F hv hd h (jp _ _ _ _) (nx _ _ _)
    · cases h
  case lcmp =>
    rw [decide_eq_true_eq] at hok
    subst hok
    split at h
    · next y x st' pc2 cd off len2 a2 b2 w2 vi2 vl2 sw2 es2 =>
      have hok2 := hen.tail.1 _ List.mem_cons_self
      unfold rx_eok at hok2
      dsimp only at hok2
      simp only [Bool.and_eq_true, decide_eq_true_eq] at hok2
      obtain ⟨hd2, rfl, hv2⟩ := hok2
      have had := hen.2
      simp only [rx_adj, Bool.and_eq_true, decide_eq_true_eq] at had
      obtain ⟨had1, had2⟩ := had
      have hpc2 : pc2 = pc + 1 := had1.symm
      subst hpc2
      rw [rx_ifJ_if] at h
      refine rx_t_lcmp F hd (rx_t_if F hv2 hd2 h (jp _ _ _ _) fun h2 => ?_)
      obtain ⟨e', es', rfl, ho⟩ := hk _ _ _ _ hen.tail.tail h2
      have := hen.tail.2
      simp only [rx_adj, Bool.and_eq_true, decide_eq_true_eq] at this
      rw [this.1]
      exact ho
    · cases h
  case tableswitch dflt lo hi offs =>
    simp only [Bool.and_eq_true, decide_eq_true_eq, List.all_eq_true] at hok
    obtain ⟨hv, hlen, hsw⟩ := hok
    split at h
    · refine rx_t_switch F hd hv ⟨hlen, fun i q hq => ?_⟩ h (fun t => jp t _ _ _)
      have h1 := hsw (q, i) (by
        rw [List.mem_iff_getElem?]
        exact ⟨i, by simp [List.getElem?_zipIdx, hq]⟩)
      obtain ⟨h2, h3⟩ := h1
      refine ⟨h2, ?_⟩
      dsimp only at h3
      split at h3
      · next o ho => exact ⟨o, ho, by simpa using h3⟩
      · cases h3
    · cases h
  case getfield i =>
    simp only [Bool.and_eq_true, decide_eq_true_eq] at hok
    obtain ⟨rfl, hok⟩ := hok
    split at hok
    case h_2 => cases hok
    next q hq =>
    simp only [Bool.and_eq_true, decide_eq_true_eq] at hok
    obtain ⟨hb, hw⟩ := hok
    split at h
    case h_2 => cases h
    split at h
    · obtain ⟨x, hx, h⟩ := Option.bind_eq_some_iff.mp h
      unfold rx_gI at hx
      split at hx
      · next hf => cases hx; exact (nx _ _ _ h).map (rx_t_getf F hq hb (rx_wd_in hw) hf hd)
      · cases hx
    · obtain ⟨x, hx, h⟩ := Option.bind_eq_some_iff.mp h
      unfold rx_gJ at hx
      split at hx
      · next hf => cases hx; exact (nx _ _ _ h).map (rx_t_getf F hq hb (rx_wd_in hw) hf hd)
      · cases hx
    · obtain ⟨x, hx, h⟩ := Option.bind_eq_some_iff.mp h
      unfold rx_gR at hx
      split at hx
      · next hf => cases hx; exact (nx _ _ _ h).map (rx_t_getf F hq hb (rx_wd_in hw) hf hd)
      · cases hx
    · cases h
  case putfield i =>
    simp only [Bool.and_eq_true, decide_eq_true_eq] at hok
    obtain ⟨rfl, hok⟩ := hok
    split at hok
    case h_2 => cases hok
    next q hq =>
    simp only [Bool.and_eq_true, decide_eq_true_eq, Bool.or_eq_true] at hok
    obtain ⟨hb, hw, hfin, hty⟩ := hok
    split at h
    · cases hb4 : Nat.beq (b % 4) 0 with
      | false => rw [hb4] at h; cases h
      | true =>
        rw [hb4] at h
        obtain ⟨u1, hx, h⟩ := Option.bind_eq_some_iff.mp h
        rw [Nat.eq_of_beq_eq_true hb4] at hty
        have hty : rx_ty a (b / 4) = .int := by simpa using hty
        exact rx_t_put F hq hb (rx_wd_in hw) (by rw [hty]; rfl) (by rw [hty]; rfl) hfin hx hd (nx _ _ _ h)
    · cases hb4 : Nat.beq (b % 4) 1 with
      | false => rw [hb4] at h; cases h
      | true =>
        rw [hb4] at h
        obtain ⟨u1, hx, h⟩ := Option.bind_eq_some_iff.mp h
        rw [Nat.eq_of_beq_eq_true hb4] at hty
        have hty : rx_ty a (b / 4) = .long := by simpa using hty
        exact rx_t_put F hq hb (rx_wd_in hw) (by rw [hty]; rfl) (by rw [hty]; rfl) hfin hx hd (nx _ _ _ h)
    · cases hb4 : Nat.beq (b % 4) 2 with
      | false => rw [hb4] at h; cases h
      | true =>
        rw [hb4] at h
        obtain ⟨u1, hx, h⟩ := Option.bind_eq_some_iff.mp h
        rw [Nat.eq_of_beq_eq_true hb4] at hty
        have hty : rx_isR (rx_ty a (b / 4)) = true := hty
        refine rx_t_put F hq hb (rx_wd_in hw) ?_ ?_ hfin hx hd (nx _ _ _ h)
        · generalize rx_ty a (b / 4) = t at hty
          cases t <;> first | rfl | cases hty
        · generalize rx_ty a (b / 4) = t at hty
          cases t <;> first | rfl | cases hty
    · cases h
  case getstatic i =>
    simp only [Bool.and_eq_true, decide_eq_true_eq, Bool.or_eq_true] at hok
    obtain ⟨rfl, hok⟩ := hok
    rcases hok with ⟨rfl, hw⟩ | ⟨rfl, hw⟩
    · exact (nx _ _ _ h).map (rx_t_gets F rfl F.2.2.2.2.2.1.2.2.2.1 (rx_wd_in hw) hd)
    · exact (nx _ _ _ h).map (rx_t_gets F rfl F.2.2.2.2.2.1.2.2.2.2.2.1 (rx_wd_in hw) hd)
  case iaload =>
    rw [decide_eq_true_eq] at hok
    subst hok
    split at h
    · obtain ⟨x, hx, h⟩ := Option.bind_eq_some_iff.mp h
      exact (nx _ _ _ h).map (rx_t_iald F hx hd)
    · cases h
  case laload =>
    rw [decide_eq_true_eq] at hok
    subst hok
    split at h
    · obtain ⟨x, hx, h⟩ := Option.bind_eq_some_iff.mp h
      exact (nx _ _ _ h).map (rx_t_lald F hx hd)
    · cases h
  case aaload =>
    rw [decide_eq_true_eq] at hok
    subst hok
    split at h
    · obtain ⟨x, hx, h⟩ := Option.bind_eq_some_iff.mp h
      exact (nx _ _ _ h).map (rx_t_aald F hx hd)
    · cases h
  case iastore =>
    rw [decide_eq_true_eq] at hok
    subst hok
    split at h
    · obtain ⟨x, hx, h⟩ := Option.bind_eq_some_iff.mp h
      exact rx_t_iast F hx hd (nx _ _ _ h)
    · cases h
  case lastore =>
    rw [decide_eq_true_eq] at hok
    subst hok
    split at h
    · obtain ⟨x, hx, h⟩ := Option.bind_eq_some_iff.mp h
      exact rx_t_last F hx hd (nx _ _ _ h)
    · cases h
  case aastore =>
    rw [decide_eq_true_eq] at hok
    subst hok
    split at h
    · obtain ⟨x, hx, h⟩ := Option.bind_eq_some_iff.mp h
      exact rx_t_aast F hx hd (nx _ _ _ h)
    · cases h
  case arraylength =>
    rw [decide_eq_true_eq] at hok
    subst hok
    split at h
    · obtain ⟨x, hx, h⟩ := Option.bind_eq_some_iff.mp h
      exact (nx _ _ _ h).map (rx_t_len F hx hd)
    · cases h
  case newarray t =>
    rw [decide_eq_true_eq] at hok
    subst hok
    split at h
    · split at h
      · obtain ⟨x, hx, h⟩ := Option.bind_eq_some_iff.mp h
        exact rx_t_newI F hx rx_k_ai hd (nx _ _ _ h)
      · obtain ⟨x, hx, h⟩ := Option.bind_eq_some_iff.mp h
        exact rx_t_newJ F hx rx_k_aj hd (nx _ _ _ h)
      · cases h
    · cases h
  case anewarray i =>
    simp only [Bool.and_eq_true, decide_eq_true_eq] at hok
    obtain ⟨rfl, hv⟩ := hok
    split at h
    · obtain ⟨x, hx, h⟩ := Option.bind_eq_some_iff.mp h
      exact rx_t_newR F hx (rx_wd_in hv) hd (nx _ _ _ h)
    · cases h
  case new i =>
    simp only [Bool.and_eq_true, decide_eq_true_eq] at hok
    obtain ⟨rfl, hok⟩ := hok
    split at hok
    case h_2 => cases hok
    next q hq =>
    obtain ⟨x, hx, h⟩ := Option.bind_eq_some_iff.mp h
    exact rx_t_newO F hx hq (rx_wd_in hok) (rx_k_i hq).1 (rx_k_i hq).2 hd (nx _ _ _ h)
  case invokestatic i =>
    simp only [Bool.and_eq_true, decide_eq_true_eq] at hok
    obtain ⟨rfl, hok⟩ := hok
    split at h
    · split at h
      · next n dp r1 sp r0 st' =>
        cases hc : Nat.ble (rx_cat st') 8 with
        | false => rw [hc] at h; cases h
        | true =>
          rw [hc] at h
          obtain ⟨u1, hx, h⟩ := Option.bind_eq_some_iff.mp h
          exact rx_t_copy F (rx_wd_in hok) rx_k_cn rx_k_cs rx_k_ci (Nat.le_of_ble_eq_true hc) hx hd (nx _ _ _ h)
      · cases h
    · next hb =>
      have hok2 : rx_wd w (.methodLink (zo Z) i (rx_ny a)) = true ∧ rx_kd a = 0 := by
        split at hok
        · next hb2 => exact absurd rfl hb
        · simpa using hok
      unfold rx_call at h
      split at h
      · cases h
      next as rest ht =>
      dsimp only at h
      cases hc : Nat.ble (rx_cat rest) 8 with
      | false => rw [hc] at h; cases h
      | true =>
        rw [hc] at h
        obtain ⟨r, u1, cw, n, h1, h2, h3, h4, h5⟩ := hC _ _ _ _ h
        rw [hok2.2] at h2
        have hst := rx_take_eq ht
        simp only [List.reverse_nil, List.nil_append] at hst
        rw [← hst]
        exact rx_t_callS F (rx_wd_in hok2.1) h2 (h3 hok2.2) (Nat.le_of_ble_eq_true hc) h5 hd (nx _ _ _ h1)
  case invokevirtual i =>
    simp only [Bool.and_eq_true, decide_eq_true_eq] at hok
    obtain ⟨rfl, hw, hkd, hok⟩ := hok
    split at hok
    case h_2 => cases hok
    next q hq =>
    rw [decide_eq_true_eq] at hok
    split at h
    · next r0 as rest ht =>
      cases hc : Nat.ble (rx_cat rest) 8 with
      | false => rw [hc] at h; cases h
      | true =>
        rw [hc] at h
        obtain ⟨x, hx, h⟩ := Option.bind_eq_some_iff.mp h
        obtain ⟨r, u1, cw, n, h1, h2, h3, h4, h5⟩ := hC _ _ _ _ h
        rw [hkd] at h2
        have hst := rx_take_eq ht
        simp only [List.reverse_nil, List.nil_append] at hst
        rw [← hst]
        exact rx_t_callV F hq hok hx (rx_wd_in hw) h2 (by obtain ⟨r1, as1, e1, e2⟩ := h4 (by rw [hkd]; decide); cases e1; exact e2) (Nat.le_of_ble_eq_true hc) h5 hd (nx _ _ _ h1)
    · cases h
  case invokespecial i =>
    simp only [Bool.and_eq_true, decide_eq_true_eq] at hok
    obtain ⟨rfl, hok⟩ := hok
    split at h
    · split at h
      · next r0 st' =>
        cases hc : Nat.ble (rx_cat st') 8 with
        | false => rw [hc] at h; cases h
        | true =>
          rw [hc] at h
          exact (nx _ _ _ h).map (rx_t_obj F (rx_wd_in hok) rx_k_oi rx_k_oc (Nat.le_of_ble_eq_true hc) hd)
      · cases h
    · next hb =>
      have hok2 : rx_kd a = 2 ∧ (rx_wd w (.methodLink (zo Z) i (rx_ny a)) = true ∨ (zo Z = "SetHouse" ∧ ((i = 28 ∧ rx_ny a = rx_yP) ∨ (i = 41 ∧ rx_ny a = rx_yS)))) := by
        split at hok
        · next hb2 => exact absurd rfl hb
        · simpa using hok
      have hlk : Cond.methodLink (zo Z) i (rx_ny a) ∈ rx_TB ∨ va_Nw (.methodLinkNest (zo Z) i (rx_ny a) "SetHouse") (zS Z) := by
        rcases hok2.2 with hl | ⟨ho, ⟨hi, hy⟩ | ⟨hi, hy⟩⟩
        · exact Or.inl (rx_wd_in hl)
        · rw [ho, hi, hy]; exact Or.inr F.2.2.2.2.2.1.2.2.2.2.2.2.2.1
        · rw [ho, hi, hy]; exact Or.inr F.2.2.2.2.2.1.2.2.2.2.2.2.2.2.1
      unfold rx_call at h
      split at h
      · cases h
      next as rest ht =>
      dsimp only at h
      cases hc : Nat.ble (rx_cat rest) 8 with
      | false => rw [hc] at h; cases h
      | true =>
        rw [hc] at h
        obtain ⟨r, u1, cw, n, h1, h2, h3, h4, h5⟩ := hC _ _ _ _ h
        rw [hok2.1] at h2
        have hst := rx_take_eq ht
        simp only [List.reverse_nil, List.nil_append] at hst
        rw [← hst]
        obtain ⟨r0, as1, e1, e2⟩ := h4 (by rw [hok2.1]; decide)
        subst e1
        exact rx_t_callI F hlk h2 e2 (Nat.le_of_ble_eq_true hc) h5 hd (nx _ _ _ h1)
  case ireturn =>
    simp only [Bool.and_eq_true, decide_eq_true_eq] at hok
    obtain ⟨rfl, hok⟩ := hok
    split at h
    · next x =>
      have fin : ∀ y : Int32, (zb Z = true → y = 0 ∨ y = 1) → x = y → ret (some (.int y)) u = some z → rx_O Z pc ls [.int x] u := by
        intro y hy hxy h1
        subst hxy
        obtain ⟨g1, g2, g3⟩ := hret _ _ h1
        exact fun _ _ => ⟨⟨g1, g2⟩, fun H lz locs k1 k2 k3 => g3 pc lz H locs ⟨hd, hy⟩ k1 k3⟩
      split at h
      · split at h
        · next hx => exact fin 0 (fun _ => Or.inl rfl) hx h
        · split at h
          · next hx => exact fin 1 (fun _ => Or.inr rfl) hx h
          · cases h
      · by_cases hx : x = 0
        · rw [decide_eq_true hx] at h
          exact fin 0 (fun _ => Or.inl rfl) hx h
        · rw [decide_eq_false hx] at h
          by_cases hx1 : x = 1
          · rw [decide_eq_true hx1] at h
            exact fin 1 (fun _ => Or.inr rfl) hx1 h
          · rw [decide_eq_false hx1] at h
            cases h
      · next n1 n2 =>
        refine fin x (fun hz => ?_) rfl h
        rw [hz] at hok
        simp only [Bool.or_eq_true, decide_eq_true_eq] at hok
        rcases hok with hb | hb
        · exact absurd hb n1
        · exact absurd hb n2
    · cases h
  case lreturn =>
    rw [decide_eq_true_eq] at hok
    subst hok
    split at h
    · obtain ⟨g1, g2, g3⟩ := hret _ _ h
      exact fun _ _ => ⟨⟨g1, g2⟩, fun H lz locs k1 k2 k3 => g3 pc lz H locs hd k1 k3⟩
    · cases h
  case return_ =>
    rw [decide_eq_true_eq] at hok
    subst hok
    split at h
    · obtain ⟨g1, g2, g3⟩ := hret _ _ h
      exact fun _ _ => ⟨⟨g1, g2⟩, fun H lz locs k1 k2 k3 => g3 pc lz H locs hd k1 k3⟩
    · cases h
  all_goals cases h
theorem rx_run_ok (F : rx_Fr Z) {stop : List Nat} {kk : Nat → rx_L → List Value → Option rx_H → Option α} (hall : rx_tab Z all) (hC : rx_CS Z C z) (hkk : ∀ (t : Nat) (ls : rx_L) (st : List Value) (u : Option rx_H), kk t ls st u = some z → rx_O Z t ls st u) (hret : rx_RT Z ret z) :
    ∀ (n : Nat) (es : List rx_E) (ls : rx_L) (st : List Value) (u : Option rx_H), rx_tab Z es → rx_run C ret all stop kk n es ls st u = some z → ∃ (e' : rx_E) (es' : List rx_E), es = e' :: es' ∧ rx_O Z e'.1 ls st u := by
  intro n
  induction n with
  | zero => intro es ls st u ht h; simp [rx_run] at h
  | succ n ih =>
    intro es ls st u ht h
    cases es with
    | nil => simp [rx_run] at h
    | cons e es =>
      refine ⟨e, es, rfl, ?_⟩
      unfold rx_run at h
      cases hs : stop.any (Nat.beq e.1) with
      | true => rw [hs] at h; exact hkk _ _ _ _ h
      | false => rw [hs] at h; exact rx_act_ok F hall ht hC ih hret h
theorem rx_node_ok (F : rx_Fr Z) {stop : List Nat} {kk : Nat → rx_L → List Value → Option rx_H → Option α} {n t : Nat} (hall : rx_tab Z all) (hC : rx_CS Z C z) (hkk : ∀ (t : Nat) (ls : rx_L) (st : List Value) (u : Option rx_H), kk t ls st u = some z → rx_O Z t ls st u) (hret : rx_RT Z ret z) (h : rx_node C ret all stop kk n t ls st u = some z) : rx_O Z t ls st u := by
  unfold rx_node at h
  split at h
  · cases h
  next e es he =>
  rw [← rx_suf_head he]
  exact rx_act_ok F hall (by rw [← he]; exact hall.suf t) hC (rx_run_ok F hall hC hkk hret n) hret h
end rxA
end
section
/-! ===== No cell goes; a method's contract out of its function ===== -/
def rx_mo (hf fin : rx_H) (u : Option rx_H) : Prop := (u.getD hf).2.length ≤ fin.2.length ∧ rx_sl (u.getD hf) ≤ rx_sl fin
theorem rx_mo_put {hf fin : rx_H} {u u' : Option rx_H} (h : ∃ h0 h1 : rx_H, u = some h0 ∧ u' = some h1 ∧ h0.2.length ≤ h1.2.length ∧ rx_sl h0 ≤ rx_sl h1) (hm : rx_mo hf fin u') : rx_mo hf fin u := by
  obtain ⟨h0, h1, rfl, rfl, e1, e2⟩ := h
  exact ⟨Nat.le_trans e1 hm.1, Nat.le_trans e2 hm.2⟩
theorem rx_mo_set {h0 : rx_H} {r : Nat} {c c1 : rx_C} (hr : h0.2[r]? = some c) (hs : rx_sl1 c1 = rx_sl1 c) : ∃ h2 h1 : rx_H, some h0 = some h2 ∧ some (h0.1, h0.2.set r c1) = some h1 ∧ h2.2.length ≤ h1.2.length ∧ rx_sl h2 ≤ rx_sl h1 :=
  ⟨h0, _, rfl, rfl, by simp, by rw [rx_sl_set hr hs]; exact Nat.le_refl _⟩
theorem rx_mo_p {u u' : Option rx_H} {r c k : Nat} {v : Value} (h : rx_p u r c k v = some u') : ∃ h0 h1 : rx_H, u = some h0 ∧ u' = some h1 ∧ h0.2.length ≤ h1.2.length ∧ rx_sl h0 ≤ rx_sl h1 := by
  unfold rx_p at h
  split at h
  · cases h
  split at h
  · next hr =>
    split at h
    · cases h; exact rx_mo_set hr (by simp [rx_sl1])
    · cases h
  · cases h
theorem rx_mo_sI {u u' : Option rx_H} {r : Nat} {i x : Int32} (h : rx_sI u r i x = some u') : ∃ h0 h1 : rx_H, u = some h0 ∧ u' = some h1 ∧ h0.2.length ≤ h1.2.length ∧ rx_sl h0 ≤ rx_sl h1 := by
  unfold rx_sI at h
  split at h
  · cases h
  split at h
  · next hr =>
    split at h
    · cases h
    · cases h; exact rx_mo_set hr (by simp [rx_sl1])
  · cases h
theorem rx_mo_sJ {u u' : Option rx_H} {r : Nat} {i : Int32} {x : Int64} (h : rx_sJ u r i x = some u') : ∃ h0 h1 : rx_H, u = some h0 ∧ u' = some h1 ∧ h0.2.length ≤ h1.2.length ∧ rx_sl h0 ≤ rx_sl h1 := by
  unfold rx_sJ at h
  split at h
  · cases h
  split at h
  · next hr =>
    split at h
    · cases h
    · cases h; exact rx_mo_set hr (by simp [rx_sl1])
  · cases h
theorem rx_mo_sR {u u' : Option rx_H} {r x : Nat} {i : Int32} (h : rx_sR u r i x = some u') : ∃ h0 h1 : rx_H, u = some h0 ∧ u' = some h1 ∧ h0.2.length ≤ h1.2.length ∧ rx_sl h0 ≤ rx_sl h1 := by
  unfold rx_sR at h
  split at h
  · cases h
  split at h
  · next hr hx =>
    split at h
    · cases h
    · cases h; exact rx_mo_set hr (by simp [rx_sl1])
  · cases h
theorem rx_mo_cp {u u' : Option rx_H} {r0 r1 : Nat} {sp dp n : Int32} (h : rx_cp u r0 sp r1 dp n = some u') : ∃ h0 h1 : rx_H, u = some h0 ∧ u' = some h1 ∧ h0.2.length ≤ h1.2.length ∧ rx_sl h0 ≤ rx_sl h1 := by
  unfold rx_cp at h
  split at h
  · cases h
  split at h
  · next hr hx =>
    split at h
    · cases h
    · cases h; exact rx_mo_set hx (by simp [rx_sl1])
  · cases h
theorem rx_mo_push {u : Option rx_H} {c1 : rx_C} {q : Nat × Option rx_H} (h : rx_push u c1 = some q) : ∃ h0 h1 : rx_H, u = some h0 ∧ q.2 = some h1 ∧ h0.2.length ≤ h1.2.length ∧ rx_sl h0 ≤ rx_sl h1 := by
  obtain ⟨h0, rfl, -, rfl⟩ := rx_push_some h
  exact ⟨h0, _, rfl, rfl, by simp, by rw [rx_sl_push]; exact Nat.le_add_right _ _⟩
theorem rx_mo_nI {u : Option rx_H} {n : Int32} {q : Nat × Option rx_H} (h : rx_nI u n = some q) : ∃ h0 h1 : rx_H, u = some h0 ∧ q.2 = some h1 ∧ h0.2.length ≤ h1.2.length ∧ rx_sl h0 ≤ rx_sl h1 := by
  unfold rx_nI at h
  split at h
  · cases h
  · exact rx_mo_push h
theorem rx_mo_nJ {u : Option rx_H} {n : Int32} {q : Nat × Option rx_H} (h : rx_nJ u n = some q) : ∃ h0 h1 : rx_H, u = some h0 ∧ q.2 = some h1 ∧ h0.2.length ≤ h1.2.length ∧ rx_sl h0 ≤ rx_sl h1 := by
  unfold rx_nJ at h
  split at h
  · cases h
  · exact rx_mo_push h
theorem rx_mo_nR {u : Option rx_H} {n : Int32} {q : Nat × Option rx_H} (h : rx_nR u n = some q) : ∃ h0 h1 : rx_H, u = some h0 ∧ q.2 = some h1 ∧ h0.2.length ≤ h1.2.length ∧ rx_sl h0 ≤ rx_sl h1 := by
  unfold rx_nR at h
  split at h
  · cases h
  · exact rx_mo_push h
theorem rx_mo_nO {u : Option rx_H} {c : Nat} {q : Nat × Option rx_H} (h : rx_nO u c = some q) : ∃ h0 h1 : rx_H, u = some h0 ∧ q.2 = some h1 ∧ h0.2.length ≤ h1.2.length ∧ rx_sl h0 ≤ rx_sl h1 := by
  unfold rx_nO at h
  split at h
  · exact rx_mo_push h
  · cases h
section rxM
variable {α : Type} {C : rx_Cl α} {ret : rx_K α} {all es : List rx_E} {k : rx_Go α} {ls : rx_L} {st : List Value} {u : Option rx_H} {z : α} {hf fin : rx_H}
theorem rx_if_mo {cd : ClassFile.Cond} {x y : Int32} {kt kf : Option α} (h : rx_if cd x y kt kf = some z) : kt = some z ∨ kf = some z := by
  unfold rx_if at h
  split at h <;> split at h <;> first | exact Or.inl h | exact Or.inr h
theorem rx_ifJ_mo {cd : ClassFile.Cond} {x y : Int64} {kt kf : Option α} (h : rx_ifJ cd x y kt kf = some z) : kt = some z ∨ kf = some z := by
  unfold rx_ifJ at h
  split at h <;> split at h <;> first | exact Or.inl h | exact Or.inr h
theorem rx_sw_mo {kt : Nat → Option α} {x : Int32} {d : Nat} {l : List (Int32 × Nat)} (h : rx_sw kt x d l = some z) : ∃ t, kt t = some z := by
  induction l with
  | nil => exact ⟨d, h⟩
  | cons q l ih =>
    unfold rx_sw at h
    split at h
    · exact ⟨_, h⟩
    · exact ih h
theorem rx_rec_mo {b : Bool} {x y : Option α} (h : (Bool.rec (motive := fun _ => Option α) x y b) = some z) : x = some z ∨ y = some z := by
  cases b
  · exact Or.inl h
  · exact Or.inr h
set_option maxHeartbeats 4000000 in
set_option maxRecDepth 100000 in
theorem rx_act_mo {en : rx_E} (hC : ∀ (j : Nat) (as : List Value) (u : Option rx_H) (κ : rx_K α), C j as u κ = some z → ∃ (r : Option Value) (u' : Option rx_H), κ r u' = some z ∧ (rx_mo hf fin u' → rx_mo hf fin u)) (hk : ∀ (es : List rx_E) (ls : rx_L) (st : List Value) (u : Option rx_H), k es ls st u = some z → rx_mo hf fin u) (hret : ∀ (v : Option Value) (u : Option rx_H), ret v u = some z → rx_mo hf fin u) (h : rx_act C ret all k en es ls st u = some z) : rx_mo hf fin u := by
  have call : ∀ (kc : List Value → Option rx_H → Option α) (hkc : ∀ st u, kc st u = some z → rx_mo hf fin u) (j n : Nat), rx_call C kc j n st u = some z → rx_mo hf fin u := by
    intro kc hkc j n h
    unfold rx_call at h
    split at h
    · cases h
    · rcases rx_rec_mo h with h | h
      · cases h
      · obtain ⟨r, u', h1, h2⟩ := hC _ _ _ _ h
        exact h2 (hkc _ _ h1)
  obtain ⟨pc, ins, len, a, b, w, vi, vl, sw⟩ := en
  unfold rx_act at h
  dsimp only at h
  cases ins <;> (try dsimp only at h)
  case goto => exact hk _ _ _ _ h
  case new =>
    obtain ⟨q, h1, h2⟩ := Option.bind_eq_some_iff.mp h
    exact rx_mo_put (rx_mo_nO h1) (hk _ _ _ _ h2)
  case invokestatic =>
    split at h
    · split at h
      · rcases rx_rec_mo h with h | h
        · cases h
        · obtain ⟨q, h1, h2⟩ := Option.bind_eq_some_iff.mp h
          exact rx_mo_put (rx_mo_cp h1) (hk _ _ _ _ h2)
      · cases h
    · exact call _ (fun st u => hk _ _ st u) _ _ h
  case invokespecial =>
    split at h
    · split at h
      · rcases rx_rec_mo h with h | h
        · cases h
        · exact hk _ _ _ _ h
      · cases h
    · exact call _ (fun st u => hk _ _ st u) _ _ h
  case invokevirtual =>
    split at h
    · rcases rx_rec_mo h with h | h
      · cases h
      · obtain ⟨q, -, h2⟩ := Option.bind_eq_some_iff.mp h
        obtain ⟨r, u', h3, h4⟩ := hC _ _ _ _ h2
        exact h4 (hk _ _ _ _ h3)
    · cases h
  case putfield =>
    split at h
    · rcases rx_rec_mo h with h | h
      · cases h
      · obtain ⟨q, h1, h2⟩ := Option.bind_eq_some_iff.mp h
        exact rx_mo_put (rx_mo_p h1) (hk _ _ _ _ h2)
    · rcases rx_rec_mo h with h | h
      · cases h
      · obtain ⟨q, h1, h2⟩ := Option.bind_eq_some_iff.mp h
        exact rx_mo_put (rx_mo_p h1) (hk _ _ _ _ h2)
    · rcases rx_rec_mo h with h | h
      · cases h
      · obtain ⟨q, h1, h2⟩ := Option.bind_eq_some_iff.mp h
        exact rx_mo_put (rx_mo_p h1) (hk _ _ _ _ h2)
    · cases h
  case getfield =>
    split at h
    · split at h
      · obtain ⟨q, -, h2⟩ := Option.bind_eq_some_iff.mp h
        exact hk _ _ _ _ h2
      · obtain ⟨q, -, h2⟩ := Option.bind_eq_some_iff.mp h
        exact hk _ _ _ _ h2
      · obtain ⟨q, -, h2⟩ := Option.bind_eq_some_iff.mp h
        exact hk _ _ _ _ h2
      · cases h
    · cases h
  case iastore =>
    split at h
    · obtain ⟨q, h1, h2⟩ := Option.bind_eq_some_iff.mp h
      exact rx_mo_put (rx_mo_sI h1) (hk _ _ _ _ h2)
    · cases h
  case lastore =>
    split at h
    · obtain ⟨q, h1, h2⟩ := Option.bind_eq_some_iff.mp h
      exact rx_mo_put (rx_mo_sJ h1) (hk _ _ _ _ h2)
    · cases h
  case aastore =>
    split at h
    · obtain ⟨q, h1, h2⟩ := Option.bind_eq_some_iff.mp h
      exact rx_mo_put (rx_mo_sR h1) (hk _ _ _ _ h2)
    · cases h
  case newarray =>
    split at h
    · split at h
      · obtain ⟨q, h1, h2⟩ := Option.bind_eq_some_iff.mp h
        exact rx_mo_put (rx_mo_nI h1) (hk _ _ _ _ h2)
      · obtain ⟨q, h1, h2⟩ := Option.bind_eq_some_iff.mp h
        exact rx_mo_put (rx_mo_nJ h1) (hk _ _ _ _ h2)
      · cases h
    · cases h
  case anewarray =>
    split at h
    · obtain ⟨q, h1, h2⟩ := Option.bind_eq_some_iff.mp h
      exact rx_mo_put (rx_mo_nR h1) (hk _ _ _ _ h2)
    · cases h
  case ifCond =>
    split at h
    · rcases rx_if_mo h with h | h <;> exact hk _ _ _ _ h
    · cases h
  case if_icmp =>
    split at h
    · rcases rx_if_mo h with h | h <;> exact hk _ _ _ _ h
    · cases h
  case lcmp =>
    split at h
    · rcases rx_ifJ_mo h with h | h <;> exact hk _ _ _ _ h
    · cases h
  case tableswitch =>
    split at h
    · obtain ⟨t, h⟩ := rx_sw_mo h
      exact hk _ _ _ _ h
    · cases h
  case idiv =>
    split at h
    · split at h
      · rcases rx_rec_mo h with h | h
        · exact hk _ _ _ _ h
        · cases h
      · split at h
        · cases h
        · exact hk _ _ _ _ h
    · cases h
  case irem =>
    split at h
    · split at h
      · rcases rx_rec_mo h with h | h
        · exact hk _ _ _ _ h
        · cases h
      · split at h
        · cases h
        · exact hk _ _ _ _ h
    · cases h
  case ldiv =>
    split at h
    · split at h
      · cases h
      · exact hk _ _ _ _ h
    · cases h
  case ireturn =>
    split at h
    · split at h
      · split at h
        · exact hret _ _ h
        · split at h
          · exact hret _ _ h
          · cases h
      · rcases rx_rec_mo h with h | h
        · rcases rx_rec_mo h with h | h
          · cases h
          · exact hret _ _ h
        · exact hret _ _ h
      · exact hret _ _ h
    · cases h
  case lreturn =>
    split at h
    · exact hret _ _ h
    · cases h
  case return_ =>
    split at h
    · exact hret _ _ h
    · cases h
  all_goals first
    | exact hk _ _ _ _ h
    | (cases h; done)
    | (split at h <;> first | exact hk _ _ _ _ h | (cases h; done) | (obtain ⟨q, -, h2⟩ := Option.bind_eq_some_iff.mp h; exact hk _ _ _ _ h2))
theorem rx_run_mo {stop : List Nat} {kk : Nat → rx_L → List Value → Option rx_H → Option α} (hC : ∀ (j : Nat) (as : List Value) (u : Option rx_H) (κ : rx_K α), C j as u κ = some z → ∃ (r : Option Value) (u' : Option rx_H), κ r u' = some z ∧ (rx_mo hf fin u' → rx_mo hf fin u)) (hkk : ∀ (t : Nat) (ls : rx_L) (st : List Value) (u : Option rx_H), kk t ls st u = some z → rx_mo hf fin u) (hret : ∀ (v : Option Value) (u : Option rx_H), ret v u = some z → rx_mo hf fin u) :
    ∀ (n : Nat) (es : List rx_E) (ls : rx_L) (st : List Value) (u : Option rx_H), rx_run C ret all stop kk n es ls st u = some z → rx_mo hf fin u := by
  intro n
  induction n with
  | zero => intro es ls st u h; simp [rx_run] at h
  | succ n ih =>
    intro es ls st u h
    cases es with
    | nil => simp [rx_run] at h
    | cons e es =>
      unfold rx_run at h
      rcases rx_rec_mo h with h | h
      · exact rx_act_mo hC ih hret h
      · exact hkk _ _ _ _ h
end rxM
/-- a method: its class, code, room for locals; whether it is a constructor, whether it answers a boolean; how deep its calls are -/
abbrev rx_Md : Type := String × ByteArray × Nat × Bool × Bool × Nat
def rx_ZM (Z : rx_Z) (l : Launch) (G : rx_G) (md : rx_Md) (hf fin : rx_H) : Prop := zL Z = l ∧ zG Z = G ∧ zh Z = hf ∧ (zo Z, zcc Z, zn Z, zi Z, zb Z, zd Z) = md ∧ zn1 Z = fin.2.length ∧ zs1 Z = rx_sl fin
def rx_S {α : Type} (l : Launch) (G : rx_G) (md : rx_Md) (hf fin : rx_H) (ret : rx_K α) (z : α) (t : Nat) (ls : rx_L) (st : List Value) (u : Option rx_H) : Prop := rx_mo hf fin u ∧ ∀ Z : rx_Z, rx_ZM Z l G md hf fin → rx_Fr Z → rx_RT Z ret z → rx_O Z t ls st u
/-- the calls of a method are right -/
def rx_CC {α : Type} (l : Launch) (G : rx_G) (D : Nat) (C : rx_Cl α) (z : α) : Prop := ∀ (j : Nat) (as : List Value) (u : Option rx_H) (κ : rx_K α), C j as u κ = some z → ∃ (r : Option Value) (u' : Option rx_H) (cw : Cond) (n : Nat), κ r u' = some z ∧ rx_Cal (rx_ny j) cw (rx_kd j) n ∧ (rx_kd j = 0 → as.length = n) ∧ (¬ rx_kd j = 0 → ∃ (r0 : Nat) (as' : List Value), as = .ref r0 :: as' ∧ as'.length = n) ∧ ∀ hf : rx_H, rx_Ok l G D (rx_ny j) cw as (u.getD hf) r (u'.getD hf)
def rx_tok (md : rx_Md) (t : List rx_E) : Bool := t.all (rx_eok md.1 md.2.1 md.2.2.1 md.2.2.2.1 md.2.2.2.2.1) && rx_adj t
theorem rx_S_node {α : Type} {l : Launch} {G : rx_G} {md : rx_Md} {hf fin : rx_H} {C : rx_Cl α} {ret : rx_K α} {all : List rx_E} {stop : List Nat} {kk : Nat → rx_L → List Value → Option rx_H → Option α} {n t : Nat} {ls : rx_L} {st : List Value} {u : Option rx_H} {z : α}
    (htab : rx_tok md all = true) (hC : rx_CC l G md.2.2.2.2.2 C z) (hret : ∀ (v : Option Value) (u : Option rx_H), ret v u = some z → rx_mo hf fin u) (hkk : ∀ (t : Nat) (ls : rx_L) (st : List Value) (u : Option rx_H), kk t ls st u = some z → rx_S l G md hf fin ret z t ls st u)
    (h : rx_node C ret all stop kk n t ls st u = some z) : rx_S l G md hf fin ret z t ls st u := by
  have hCm : ∀ (j : Nat) (as : List Value) (u : Option rx_H) (κ : rx_K α), C j as u κ = some z → ∃ (r : Option Value) (u' : Option rx_H), κ r u' = some z ∧ (rx_mo hf fin u' → rx_mo hf fin u) := by
    intro j as u κ h
    obtain ⟨r, u', cw, n, h1, h2, h3, h4, h5⟩ := hC j as u κ h
    obtain ⟨⟨e1, e2⟩, -⟩ := h5 hf
    exact ⟨r, u', h1, fun hm => ⟨Nat.le_trans e1 hm.1, Nat.le_trans e2 hm.2⟩⟩
  refine ⟨?_, fun Z hZ F hRT => ?_⟩
  · have h2 := h
    unfold rx_node at h2
    split at h2
    · cases h2
    · exact rx_act_mo hCm (rx_run_mo hCm (fun t ls st u h => (hkk t ls st u h).1) hret n) hret h2
  · obtain ⟨z1, z2, z3, z4, z5, z6⟩ := id hZ
    have hall : rx_tab Z all := by
      unfold rx_tok at htab
      rw [Bool.and_eq_true, List.all_eq_true] at htab
      refine ⟨fun e he => ?_, htab.2⟩
      have := htab.1 e he
      rw [← z4] at this
      exact this
    refine rx_node_ok F hall ?_ (fun t ls st u h => (hkk t ls st u h).2 Z hZ F hRT) hRT h
    intro j as u κ h
    obtain ⟨r, u', cw, n, h1, h2, h3, h4, h5⟩ := hC j as u κ h
    refine ⟨r, u', cw, n, h1, h2, h3, h4, ?_⟩
    have e5 := h5 (zh Z)
    rw [← z4, ← z1, ← z2] at e5
    exact e5
/-! the locals at the start -/
def rx_ent1 : List Value → rx_L
  | [] => []
  | .long x :: vs => some (.long x) :: none :: rx_ent1 vs
  | .double x :: vs => some (.double x) :: none :: rx_ent1 vs
  | v :: vs => some v :: rx_ent1 vs
def rx_pad : Nat → rx_L → rx_L
  | 0, l => l
  | n + 1, [] => none :: rx_pad n []
  | n + 1, x :: l => x :: rx_pad n l
theorem rx_pad_len : ∀ (n : Nat) (l : rx_L), l.length ≤ n → (rx_pad n l).length = n
  | 0, l, h => by simpa [rx_pad] using h
  | n + 1, [], h => by simp only [rx_pad, List.length_cons, rx_pad_len n [] (Nat.zero_le _)]
  | n + 1, x :: l, h => by simp only [rx_pad, List.length_cons]; rw [rx_pad_len n l (by simpa using h)]
theorem rx_pad_get : ∀ (n : Nat) (l : rx_L) (i : Nat) (v : Value), (rx_pad n l)[i]? = some (some v) → l[i]? = some (some v)
  | 0, l, i, v, h => h
  | n + 1, [], i, v, h => by
    cases i with
    | zero => simp [rx_pad] at h
    | succ i =>
      have := rx_pad_get n [] i v (by simpa [rx_pad] using h)
      simp at this
  | n + 1, x :: l, i, v, h => by
    cases i with
    | zero => simpa [rx_pad] using h
    | succ i => simpa using rx_pad_get n l i v (by simpa [rx_pad] using h)
theorem rx_ent1_len (G : rx_G) (vs : List Value) : (rx_ent1 vs).length = (lg_sl (vs.map (rx_ev G))).length := by
  induction vs with
  | nil => rfl
  | cons v vs ih => cases v <;> simp [rx_ent1, lg_sl, Value.category, rx_ev] at ih ⊢ <;> omega
theorem rx_ent1_get (G : rx_G) : ∀ (vs : List Value) (i k : Nat) (v : Value), (rx_ent1 vs)[i]? = some (some v) → (k + i, rx_ev G v) ∈ lv_args k (vs.map (rx_ev G))
  | [], i, k, v, h => by simp [rx_ent1] at h
  | .long x :: vs, i, k, v, h => by
    match i, h with
    | 0, h => simp [rx_ent1] at h; subst h; exact List.mem_cons_self
    | 1, h => simp [rx_ent1] at h
    | i + 2, h =>
      have := rx_ent1_get G vs i (k + 2) v (by simpa [rx_ent1] using h)
      rw [show k + (i + 2) = k + 2 + i by omega]
      exact List.mem_cons_of_mem _ this
  | .double x :: vs, i, k, v, h => by
    match i, h with
    | 0, h => simp [rx_ent1] at h; subst h; exact List.mem_cons_self
    | 1, h => simp [rx_ent1] at h
    | i + 2, h =>
      have := rx_ent1_get G vs i (k + 2) v (by simpa [rx_ent1] using h)
      rw [show k + (i + 2) = k + 2 + i by omega]
      exact List.mem_cons_of_mem _ this
  | .int x :: vs, i, k, v, h => by
    cases i with
    | zero => simp [rx_ent1] at h; subst h; exact List.mem_cons_self
    | succ i =>
      have := rx_ent1_get G vs i (k + 1) v (by simpa [rx_ent1] using h)
      rw [show k + (i + 1) = k + 1 + i by omega]
      exact List.mem_cons_of_mem _ this
  | .float x :: vs, i, k, v, h => by
    cases i with
    | zero => simp [rx_ent1] at h; subst h; exact List.mem_cons_self
    | succ i =>
      have := rx_ent1_get G vs i (k + 1) v (by simpa [rx_ent1] using h)
      rw [show k + (i + 1) = k + 1 + i by omega]
      exact List.mem_cons_of_mem _ this
  | .null :: vs, i, k, v, h => by
    cases i with
    | zero => simp [rx_ent1] at h; subst h; exact List.mem_cons_self
    | succ i =>
      have := rx_ent1_get G vs i (k + 1) v (by simpa [rx_ent1] using h)
      rw [show k + (i + 1) = k + 1 + i by omega]
      exact List.mem_cons_of_mem _ this
  | .ref x :: vs, i, k, v, h => by
    cases i with
    | zero => simp [rx_ent1] at h; subst h; exact List.mem_cons_self
    | succ i =>
      have := rx_ent1_get G vs i (k + 1) v (by simpa [rx_ent1] using h)
      rw [show k + (i + 1) = k + 1 + i by omega]
      exact List.mem_cons_of_mem _ this
  | .retAddr x :: vs, i, k, v, h => by
    cases i with
    | zero => simp [rx_ent1] at h; subst h; exact List.mem_cons_self
    | succ i =>
      have := rx_ent1_get G vs i (k + 1) v (by simpa [rx_ent1] using h)
      rw [show k + (i + 1) = k + 1 + i by omega]
      exact List.mem_cons_of_mem _ this
def rx_ent (vs : List Value) (n : Nat) : rx_L := rx_pad n (rx_ent1 vs)
theorem rx_ent_lo (G : rx_G) {vs : List Value} {n : Nat} (h : (rx_ent1 vs).length ≤ n) : rx_lo G ((lg_sl (vs.map (rx_ev G)) ++ List.replicate (n - (lg_sl (vs.map (rx_ev G))).length) Slot.unset).toArray) n (rx_ent vs n) := by
  have hv := lv_entry (vs.map (rx_ev G)) (n := n) (by rw [← rx_ent1_len]; exact h)
  refine ⟨rx_pad_len _ _ h, hv.1, hv.2.1, fun i v hi => ?_⟩
  have := rx_ent1_get G vs i 0 v (rx_pad_get _ _ _ _ hi)
  rw [Nat.zero_add] at this
  exact hv.2.2 _ this
/-- less is known, place by place -/
def rx_leq : rx_L → rx_L → Prop
  | [], [] => True
  | a :: as, b :: bs => (a = none ∨ a = b) ∧ rx_leq as bs
  | _, _ => False
theorem rx_leq_le : ∀ (a b : rx_L), rx_leq a b → rx_le a b
  | [], [], _ => ⟨rfl, fun i v h => by simp at h⟩
  | a :: as, b :: bs, h => by
    obtain ⟨h1, h2⟩ := rx_leq_le as bs h.2
    refine ⟨by simp [h1], fun i v hi => ?_⟩
    cases i with
    | zero =>
      simp at hi ⊢
      rcases h.1 with e | e
      · rw [e] at hi; cases hi
      · rw [← e]; exact hi
    | succ i => simpa using h2 i v (by simpa using hi)
  | [], _ :: _, h => h.elim
  | _ :: _, [], h => h.elim
/-- an answer of its type -/
def rx_rt (ret : Option FieldType) (bo : Bool) (r : Option Value) : Prop := (ret = some .int ∧ bo = false ∧ ∃ x, r = some (.int x)) ∨ (ret = some .boolean ∧ bo = true ∧ ∃ x, r = some (.int x)) ∨ (ret = some .long ∧ ∃ x, r = some (.long x)) ∨ (ret = none ∧ r = none)
def rx_BR (Z : rx_Z) (r : Option Value) (h' : rx_H) : Prop := ∀ (pc : Nat) (ls : Array Slot) (H : Heap) (locs : List Loc), rx_rv Z pc r → rx_R (zG Z) h' H → (∀ q ∈ locs, rx_base (zG Z) ≤ q.base) → zW Z H locs (h'.2.length - zn0 Z) (rx_sl h' - zs0 Z) (F0 (zM Z) pc ls (r.toList.map (rx_ev (zG Z))))
/-- a contract out of its walk, of a method that no entry runs instead -/
theorem rx_ofW {l : Launch} {y : MethodName} {ws ws' : List Cond} {rm : Room} {Pc : Array Value → State → Prop} {Qc : Array Value → State → Outcome → State → Prop} {mc ms : Nat} {free : Addr → Prop} {cc : ByteArray} {maxL : Nat} {ret : Option FieldType}
    (hy : plainFor y = true) (hw : ws = Cond.code y cc maxL ret :: ws')
    (body : ∀ p e s m args below meth c s₁, BodyLoose p l y (headSpec ws rm) cc maxL ret e s m args below meth c s₁ → c.maxLocals = maxL → Pc args s →
      W p l e (headSpec ws rm).room s m args below meth c s.heap [] 0 0 (MQ below Qc args s mc ms free) (entryFrame m args maxL)) : Met l y ws rm Pc Qc mc ms free := by
  refine MetFree.of_bodySF (code := cc) (maxLocals := maxL) (ret := ret) hy ?_ ?_
  · intro args s m h hn
    obtain ⟨meth, c, h1, h2, h3, h4, h5, h6, -, -⟩ := Cond.code_spec hn (atoms_spec (ws := ws) h _ (by rw [hw]; exact List.mem_cons_self))
    exact ⟨meth, c, h1, h2, h3, h4, h5, h6⟩
  · intro p e s m args below meth c s₁ B hml hP _
    have hh0 : s₁.heap = s.heap := by rw [B.state]; rfl
    obtain ⟨t, a1, o, b1, b2, b3⟩ := body p e s m args below meth c s₁ B hml hP s₁ hh0 (Stand.of_body B)
    exact ⟨t, o, a1, b1, b2, ⟨b3.1, b3.2⟩⟩
/-- a method's contract -/
theorem rx_met {α : Type} {l : Launch} {G : rx_G} {y : MethodName} {bytes : ByteArray} {maxL : Nat} {rt : Option FieldType} {ini bo : Bool} {D : Nat} {as : List Value} {u u' : Option rx_H} {r : Option Value} {hf : rx_H} {ret : rx_K α} {z : α} {ls0 : rx_L} (hpl : plainFor y = true) (hini : ini = true → y.name = "<init>") (hlen : (rx_ent1 as).length ≤ maxL) (hrt : rx_rt rt bo r)
    (hRT : ∀ Z : rx_Z, rx_ZM Z l G (y.cls, bytes, maxL, ini, bo, D) hf (u'.getD hf) → rx_BR Z r (u'.getD hf) → rx_RT Z ret z) (hls : rx_leq ls0 (rx_ent as maxL))
    (hS : rx_S l G (y.cls, bytes, maxL, ini, bo, D) hf (u'.getD hf) ret z 0 ls0 [] u) : rx_Ok l G (D + 1) y (.code y bytes maxL rt) as (u.getD hf) r (u'.getD hf) := by
  refine ⟨hS.1, D + 1, Nat.le_refl _, ?_⟩
  refine rx_ofW (cc := bytes) (maxL := maxL) (ret := rt) hpl rfl ?_
  intro p e s m args below meth c s₁ B hml hv
  obtain ⟨rfl, hR, hK⟩ := hv
  have hts : ∀ w ∈ (Cond.code y bytes maxL rt :: rx_TB), w.before _ s = true := atoms_spec (ws := Cond.code y bytes maxL rt :: rx_TB) B.pre
  let Z : rx_Z := ((p, l, e, (headSpec (Cond.code y bytes maxL rt :: rx_TB) (rx_rm (D + 1) (u.getD hf) (u'.getD hf))).room, s, m, (as.map (rx_ev G)).toArray, below, meth, c), (MQ below (rx_Qc G r (u'.getD hf)) (as.map (rx_ev G)).toArray s ((u'.getD hf).2.length - (u.getD hf).2.length) (rx_sl (u'.getD hf) - rx_sl (u.getD hf)) (fun q => rx_base G ≤ q), maxL, G, hf, (u.getD hf).2.length, rx_sl (u.getD hf), (u'.getD hf).2.length, rx_sl (u'.getD hf), D, bytes, y.cls, ini, bo))
  have hZM : rx_ZM Z l G (y.cls, bytes, maxL, ini, bo, D) hf (u'.getD hf) := ⟨rfl, rfl, rfl, rfl, rfl, rfl⟩
  have F : rx_Fr Z := ⟨B.exec, B.bytes, hml, findClass_of_methodNamed B.named, fun w hw => hts w (List.mem_cons_of_mem _ hw), hK, fun hi => by rw [show (zMe Z).name = y.name from (name_of_methodNamed B.named B.method).1]; exact hini hi, Nat.le_refl _, Nat.le_refl _, Nat.le_refl _, Nat.le_refl _⟩
  have hBR : rx_BR Z r (u'.getD hf) := by
    intro pc ls H locs hrv hR' hl
    have hr0 : meth.sig.returnType = rt := B.returns
    have hq : ∀ v : Option Value, v = r.map (rx_ev G) → ∀ t : State, t.heap = H → s.WarmedH t.vm → rx_Qc G r (u'.getD hf) (as.map (rx_ev G)).toArray s (.returned v) t := fun v hv t ht _ => ⟨by rw [hv], by rw [ht]; exact hR'⟩
    rcases hrt with ⟨h1, h2, x, rfl⟩ | ⟨h1, h2, x, rfl⟩ | ⟨h1, x, rfl⟩ | ⟨h1, rfl⟩
    · exact W.iret B.exec B.bytes (hr0.trans h1) (hq (some (.int x)) rfl) hl hrv.1 (hlocks := B.notSynchronized)
    · refine W.zret (ty := .boolean) B.exec B.bytes (hr0.trans h1) ?_ (hq (some (.int x)) rfl) hl hrv.1 (hlocks := B.notSynchronized)
      rcases hrv.2 h2 with rfl | rfl <;> rfl
    · exact W.lret B.exec B.bytes (hr0.trans h1) (hq (some (.long x)) rfl) hl hrv (hlocks := B.notSynchronized)
    · exact W.vret B.exec B.bytes (hr0.trans h1) (hq none rfl) hl hrv (hlocks := B.notSynchronized)
  have hO := hS.2 Z hZM F (hRT Z hZM hBR)
  obtain ⟨-, hW⟩ := hO (Nat.le_refl _) (Nat.le_refl _)
  rw [lg_entry_eq]
  have := hW s.heap _ [] hR ((rx_ent_lo G hlen).le (rx_leq_le _ _ hls)) (fun q h => by cases h)
  have e1 : (rx_u Z u).2.length - zn0 Z = 0 := Nat.sub_self _
  have e2 : rx_sl (rx_u Z u) - zs0 Z = 0 := Nat.sub_self _
  rw [e1, e2] at this
  exact this
/-! the kinds of answer -/
theorem rx_RT_rI {Z : rx_Z} {l : Launch} {G : rx_G} {md : rx_Md} {hf : rx_H} {x : Int32} (hZ : rx_ZM Z l G md hf hf) (hB : rx_BR Z (some (.int x)) hf) : rx_RT Z rx_rI x := by
  intro v u h
  unfold rx_rI at h
  split at h
  · next y =>
    cases h
    obtain ⟨z1, z2, z3, z4, z5, z6⟩ := hZ
    have hu : rx_u Z none = hf := z3
    rw [hu]
    exact ⟨by rw [z5]; exact Nat.le_refl _, by rw [z6]; exact Nat.le_refl _, hB⟩
  · cases h
theorem rx_RT_rJ {Z : rx_Z} {l : Launch} {G : rx_G} {md : rx_Md} {hf : rx_H} {x : Int64} (hZ : rx_ZM Z l G md hf hf) (hB : rx_BR Z (some (.long x)) hf) : rx_RT Z rx_rJ x := by
  intro v u h
  unfold rx_rJ at h
  split at h
  · next y =>
    cases h
    obtain ⟨z1, z2, z3, z4, z5, z6⟩ := hZ
    have hu : rx_u Z none = hf := z3
    rw [hu]
    exact ⟨by rw [z5]; exact Nat.le_refl _, by rw [z6]; exact Nat.le_refl _, hB⟩
  · cases h
theorem rx_RT_hI {Z : rx_Z} {l : Launch} {G : rx_G} {md : rx_Md} {hf : rx_H} {x : Int32 × Option rx_H} (hZ : rx_ZM Z l G md hf (x.2.getD hf)) (hB : rx_BR Z (some (.int x.1)) (x.2.getD hf)) : rx_RT Z rx_hI x := by
  intro v u h
  unfold rx_hI at h
  split at h
  · next y =>
    cases h
    obtain ⟨z1, z2, z3, z4, z5, z6⟩ := hZ
    have hu : rx_u Z u = u.getD hf := by show u.getD (zh Z) = _; rw [z3]
    rw [hu]
    exact ⟨by rw [z5]; exact Nat.le_refl _, by rw [z6]; exact Nat.le_refl _, hB⟩
  · cases h
theorem rx_RT_hJ {Z : rx_Z} {l : Launch} {G : rx_G} {md : rx_Md} {hf : rx_H} {x : Int64 × Option rx_H} (hZ : rx_ZM Z l G md hf (x.2.getD hf)) (hB : rx_BR Z (some (.long x.1)) (x.2.getD hf)) : rx_RT Z rx_hJ x := by
  intro v u h
  unfold rx_hJ at h
  split at h
  · next y =>
    cases h
    obtain ⟨z1, z2, z3, z4, z5, z6⟩ := hZ
    have hu : rx_u Z u = u.getD hf := by show u.getD (zh Z) = _; rw [z3]
    rw [hu]
    exact ⟨by rw [z5]; exact Nat.le_refl _, by rw [z6]; exact Nat.le_refl _, hB⟩
  · cases h
theorem rx_RT_hV {Z : rx_Z} {l : Launch} {G : rx_G} {md : rx_Md} {hf : rx_H} {x : Option rx_H} (hZ : rx_ZM Z l G md hf (x.getD hf)) (hB : rx_BR Z none (x.getD hf)) : rx_RT Z rx_hV x := by
  intro v u h
  unfold rx_hV at h
  split at h
  · cases h
    obtain ⟨z1, z2, z3, z4, z5, z6⟩ := hZ
    have hu : rx_u Z x = x.getD hf := by show x.getD (zh Z) = _; rw [z3]
    rw [hu]
    exact ⟨by rw [z5]; exact Nat.le_refl _, by rw [z6]; exact Nat.le_refl _, hB⟩
  · cases h
theorem rx_m_rI {hf : rx_H} {x : Int32} (v : Option Value) (u : Option rx_H) (h : rx_rI v u = some x) : rx_mo hf hf u := by
  unfold rx_rI at h
  split at h
  · exact ⟨Nat.le_refl _, Nat.le_refl _⟩
  · cases h
theorem rx_m_rJ {hf : rx_H} {x : Int64} (v : Option Value) (u : Option rx_H) (h : rx_rJ v u = some x) : rx_mo hf hf u := by
  unfold rx_rJ at h
  split at h
  · exact ⟨Nat.le_refl _, Nat.le_refl _⟩
  · cases h
theorem rx_m_hI {hf : rx_H} {x : Int32 × Option rx_H} (v : Option Value) (u : Option rx_H) (h : rx_hI v u = some x) : rx_mo hf (x.2.getD hf) u := by
  unfold rx_hI at h
  split at h
  · cases h; exact ⟨Nat.le_refl _, Nat.le_refl _⟩
  · cases h
theorem rx_m_hJ {hf : rx_H} {x : Int64 × Option rx_H} (v : Option Value) (u : Option rx_H) (h : rx_hJ v u = some x) : rx_mo hf (x.2.getD hf) u := by
  unfold rx_hJ at h
  split at h
  · cases h; exact ⟨Nat.le_refl _, Nat.le_refl _⟩
  · cases h
theorem rx_m_hV {hf : rx_H} {x : Option rx_H} (v : Option Value) (u : Option rx_H) (h : rx_hV v u = some x) : rx_mo hf (x.getD hf) u := by
  unfold rx_hV at h
  split at h
  · cases h; exact ⟨Nat.le_refl _, Nat.le_refl _⟩
  · cases h
theorem rx_rec_eq {α : Type} {z : α} {b : Bool} {x y : Option α} (h : (Bool.rec (motive := fun _ => Option α) x y b) = some z) : (b = true ∧ y = some z) ∨ (b = false ∧ x = some z) := by
  cases b
  · exact Or.inr ⟨rfl, h⟩
  · exact Or.inl ⟨rfl, h⟩
theorem rx_S.le {α : Type} {l : Launch} {G : rx_G} {md : rx_Md} {hf fin : rx_H} {ret : rx_K α} {z : α} {t : Nat} {a b : rx_L} {st : List Value} {u : Option rx_H} (h : rx_S l G md hf fin ret z t a st u) (hl : rx_leq a b) : rx_S l G md hf fin ret z t b st u := ⟨h.1, fun Z hZ F hR => (h.2 Z hZ F hR).le (rx_leq_le _ _ hl)⟩
/-- what a caller gets of a callee -/
def rx_Cw {α : Type} (l : Launch) (G : rx_G) (D j : Nat) (as : List Value) (u : Option rx_H) (κ : rx_K α) (z : α) : Prop := ∃ (r : Option Value) (u' : Option rx_H) (cw : Cond) (n : Nat), κ r u' = some z ∧ rx_Cal (rx_ny j) cw (rx_kd j) n ∧ (rx_kd j = 0 → as.length = n) ∧ (¬ rx_kd j = 0 → ∃ (r0 : Nat) (as' : List Value), as = .ref r0 :: as' ∧ as'.length = n) ∧ ∀ hf : rx_H, rx_Ok l G D (rx_ny j) cw as (u.getD hf) r (u'.getD hf)
theorem rx_Cw.deep {α : Type} {l : Launch} {G : rx_G} {D E j : Nat} {as : List Value} {u : Option rx_H} {κ : rx_K α} {z : α} (h : rx_Cw l G D j as u κ z) (hDE : D ≤ E) : rx_Cw l G E j as u κ z := by
  obtain ⟨r, u', cw, n, h1, h2, h3, h4, h5⟩ := h
  exact ⟨r, u', cw, n, h1, h2, h3, h4, fun hf => (h5 hf).deep hDE⟩
end
section
def f_J13_bitCount_95d88_55 (F : Nat × Nat) (x0 : Int64) : Option Int32 :=
  some ((Int64.toInt32 x0) &&& (127 : Int32))
def f_J13_bitCount_95d88_48 (F : Nat × Nat) (x0 : Int64) : Option Int32 :=
  f_J13_bitCount_95d88_55 F (x0 + ((Int64.toUInt64 x0 >>> ((Int32.toInt64 (32 : Int32)).toUInt64 &&& Int64.toUInt64 63)).toInt64))
def f_J13_bitCount_95d88_41 (F : Nat × Nat) (x0 : Int64) : Option Int32 :=
  f_J13_bitCount_95d88_48 F (x0 + ((Int64.toUInt64 x0 >>> ((Int32.toInt64 (16 : Int32)).toUInt64 &&& Int64.toUInt64 63)).toInt64))
def f_J13_bitCount_95d88_34 (F : Nat × Nat) (x0 : Int64) : Option Int32 :=
  f_J13_bitCount_95d88_41 F (x0 + ((Int64.toUInt64 x0 >>> ((Int32.toInt64 (8 : Int32)).toUInt64 &&& Int64.toUInt64 63)).toInt64))
def f_J13_bitCount_95d88_24 (F : Nat × Nat) (x0 : Int64) : Option Int32 :=
  f_J13_bitCount_95d88_34 F ((x0 + ((Int64.toUInt64 x0 >>> ((Int32.toInt64 (4 : Int32)).toUInt64 &&& Int64.toUInt64 63)).toInt64)) &&& (1085102592571150095 : Int64))
def f_J13_bitCount_95d88_10 (F : Nat × Nat) (x0 : Int64) : Option Int32 :=
  f_J13_bitCount_95d88_24 F ((x0 &&& (3689348814741910323 : Int64)) + (((Int64.toUInt64 x0 >>> ((Int32.toInt64 (2 : Int32)).toUInt64 &&& Int64.toUInt64 63)).toInt64) &&& (3689348814741910323 : Int64)))
def f_J13_bitCount_95d88_0 (F : Nat × Nat) (x0 : Int64) : Option Int32 :=
  f_J13_bitCount_95d88_10 F (x0 - (((Int64.toUInt64 x0 >>> ((Int32.toInt64 (1 : Int32)).toUInt64 &&& Int64.toUInt64 63)).toInt64) &&& (6148914691236517205 : Int64)))
def f_J13_bitCount_95d88 (F : Nat × Nat) (x0 : Int64) : Option Int32 := f_J13_bitCount_95d88_0 F x0
def c_J13_bitCount_95d88 {α : Type} (F : Nat × Nat) (as : List Value) (u : Option rx_H) (κ : rx_K α) : Option α := match as with
  | [.long a0] => (f_J13_bitCount_95d88 F a0).bind fun r => κ (some (.int r)) u
  | _ => none
noncomputable def C_J13_bitCount_95d88 {α : Type} (F : Nat × Nat) : rx_Cl α := fun j as u κ => none
def t_J13_bitCount_95d88 : List rx_E := [
  (0, .lload_n 0, 1, 0, 0, 0, 0, 0, []),
  (1, .lload_n 0, 1, 0, 0, 0, 0, 0, []),
  (2, .iconst 1, 1, 0, 0, 0, 1, 0, []),
  (3, .lushr, 1, 0, 0, 0, 0, 0, []),
  (4, .ldc2_w 314, 3, 0, 0, 187, 0, 6148914691236517205, []),
  (7, .land, 1, 0, 0, 0, 0, 0, []),
  (8, .lsub, 1, 0, 0, 0, 0, 0, []),
  (9, .lstore_n 0, 1, 0, 0, 0, 0, 0, []),
  (10, .lload_n 0, 1, 0, 0, 0, 0, 0, []),
  (11, .ldc2_w 316, 3, 0, 0, 188, 0, 3689348814741910323, []),
  (14, .land, 1, 0, 0, 0, 0, 0, []),
  (15, .lload_n 0, 1, 0, 0, 0, 0, 0, []),
  (16, .iconst 2, 1, 0, 0, 0, 2, 0, []),
  (17, .lushr, 1, 0, 0, 0, 0, 0, []),
  (18, .ldc2_w 316, 3, 0, 0, 188, 0, 3689348814741910323, []),
  (21, .land, 1, 0, 0, 0, 0, 0, []),
  (22, .ladd, 1, 0, 0, 0, 0, 0, []),
  (23, .lstore_n 0, 1, 0, 0, 0, 0, 0, []),
  (24, .lload_n 0, 1, 0, 0, 0, 0, 0, []),
  (25, .lload_n 0, 1, 0, 0, 0, 0, 0, []),
  (26, .iconst 4, 1, 0, 0, 0, 4, 0, []),
  (27, .lushr, 1, 0, 0, 0, 0, 0, []),
  (28, .ladd, 1, 0, 0, 0, 0, 0, []),
  (29, .ldc2_w 318, 3, 0, 0, 189, 0, 1085102592571150095, []),
  (32, .land, 1, 0, 0, 0, 0, 0, []),
  (33, .lstore_n 0, 1, 0, 0, 0, 0, 0, []),
  (34, .lload_n 0, 1, 0, 0, 0, 0, 0, []),
  (35, .lload_n 0, 1, 0, 0, 0, 0, 0, []),
  (36, .bipush 8, 2, 0, 0, 0, 8, 0, []),
  (38, .lushr, 1, 0, 0, 0, 0, 0, []),
  (39, .ladd, 1, 0, 0, 0, 0, 0, []),
  (40, .lstore_n 0, 1, 0, 0, 0, 0, 0, []),
  (41, .lload_n 0, 1, 0, 0, 0, 0, 0, []),
  (42, .lload_n 0, 1, 0, 0, 0, 0, 0, []),
  (43, .bipush 16, 2, 0, 0, 0, 16, 0, []),
  (45, .lushr, 1, 0, 0, 0, 0, 0, []),
  (46, .ladd, 1, 0, 0, 0, 0, 0, []),
  (47, .lstore_n 0, 1, 0, 0, 0, 0, 0, []),
  (48, .lload_n 0, 1, 0, 0, 0, 0, 0, []),
  (49, .lload_n 0, 1, 0, 0, 0, 0, 0, []),
  (50, .bipush 32, 2, 0, 0, 0, 32, 0, []),
  (52, .lushr, 1, 0, 0, 0, 0, 0, []),
  (53, .ladd, 1, 0, 0, 0, 0, 0, []),
  (54, .lstore_n 0, 1, 0, 0, 0, 0, 0, []),
  (55, .lload_n 0, 1, 0, 0, 0, 0, 0, []),
  (56, .l2i, 1, 0, 0, 0, 0, 0, []),
  (57, .bipush 127, 2, 0, 0, 0, 127, 0, []),
  (59, .iand, 1, 0, 0, 0, 0, 0, []),
  (60, .ireturn, 1, 0, 0, 0, 0, 0, [])]
def n_J13_bitCount_95d88_10 (F : Nat × Nat) (ls : rx_L) (st : List Value) (u : Option rx_H) : Option Int32 := match ls, st, u with
  | [some (.long x0), _], [], none => f_J13_bitCount_95d88_10 F x0
  | _, _, _ => none
def n_J13_bitCount_95d88_24 (F : Nat × Nat) (ls : rx_L) (st : List Value) (u : Option rx_H) : Option Int32 := match ls, st, u with
  | [some (.long x0), _], [], none => f_J13_bitCount_95d88_24 F x0
  | _, _, _ => none
def n_J13_bitCount_95d88_34 (F : Nat × Nat) (ls : rx_L) (st : List Value) (u : Option rx_H) : Option Int32 := match ls, st, u with
  | [some (.long x0), _], [], none => f_J13_bitCount_95d88_34 F x0
  | _, _, _ => none
def n_J13_bitCount_95d88_41 (F : Nat × Nat) (ls : rx_L) (st : List Value) (u : Option rx_H) : Option Int32 := match ls, st, u with
  | [some (.long x0), _], [], none => f_J13_bitCount_95d88_41 F x0
  | _, _, _ => none
def n_J13_bitCount_95d88_48 (F : Nat × Nat) (ls : rx_L) (st : List Value) (u : Option rx_H) : Option Int32 := match ls, st, u with
  | [some (.long x0), _], [], none => f_J13_bitCount_95d88_48 F x0
  | _, _, _ => none
def n_J13_bitCount_95d88_55 (F : Nat × Nat) (ls : rx_L) (st : List Value) (u : Option rx_H) : Option Int32 := match ls, st, u with
  | [some (.long x0), _], [], none => f_J13_bitCount_95d88_55 F x0
  | _, _, _ => none
noncomputable def kk_J13_bitCount_95d88_55 (F : Nat × Nat) : Nat → rx_L → List Value → Option rx_H → Option Int32 := fun t ls st u => none
noncomputable def kk_J13_bitCount_95d88_48 (F : Nat × Nat) : Nat → rx_L → List Value → Option rx_H → Option Int32 := fun t ls st u => Bool.rec (motive := fun _ => Option Int32) (none) (n_J13_bitCount_95d88_55 F ls st u) (Nat.beq t 55)
noncomputable def kk_J13_bitCount_95d88_41 (F : Nat × Nat) : Nat → rx_L → List Value → Option rx_H → Option Int32 := fun t ls st u => Bool.rec (motive := fun _ => Option Int32) (none) (n_J13_bitCount_95d88_48 F ls st u) (Nat.beq t 48)
noncomputable def kk_J13_bitCount_95d88_34 (F : Nat × Nat) : Nat → rx_L → List Value → Option rx_H → Option Int32 := fun t ls st u => Bool.rec (motive := fun _ => Option Int32) (none) (n_J13_bitCount_95d88_41 F ls st u) (Nat.beq t 41)
noncomputable def kk_J13_bitCount_95d88_24 (F : Nat × Nat) : Nat → rx_L → List Value → Option rx_H → Option Int32 := fun t ls st u => Bool.rec (motive := fun _ => Option Int32) (none) (n_J13_bitCount_95d88_34 F ls st u) (Nat.beq t 34)
noncomputable def kk_J13_bitCount_95d88_10 (F : Nat × Nat) : Nat → rx_L → List Value → Option rx_H → Option Int32 := fun t ls st u => Bool.rec (motive := fun _ => Option Int32) (none) (n_J13_bitCount_95d88_24 F ls st u) (Nat.beq t 24)
noncomputable def kk_J13_bitCount_95d88_0 (F : Nat × Nat) : Nat → rx_L → List Value → Option rx_H → Option Int32 := fun t ls st u => Bool.rec (motive := fun _ => Option Int32) (none) (n_J13_bitCount_95d88_10 F ls st u) (Nat.beq t 10)
set_option maxRecDepth 100000 in
theorem g_J13_bitCount_95d88_55 (F : Nat × Nat) (x0 : Int64) : f_J13_bitCount_95d88_55 F x0 = rx_node (C_J13_bitCount_95d88 F) rx_rI t_J13_bitCount_95d88 [10, 24, 34, 41, 48, 55] (kk_J13_bitCount_95d88_55 F) 52 55 [some (.long x0), none] [] none := rfl
set_option maxRecDepth 100000 in
theorem g_J13_bitCount_95d88_48 (F : Nat × Nat) (x0 : Int64) : f_J13_bitCount_95d88_48 F x0 = rx_node (C_J13_bitCount_95d88 F) rx_rI t_J13_bitCount_95d88 [10, 24, 34, 41, 48, 55] (kk_J13_bitCount_95d88_48 F) 52 48 [some (.long x0), none] [] none := rfl
set_option maxRecDepth 100000 in
theorem g_J13_bitCount_95d88_41 (F : Nat × Nat) (x0 : Int64) : f_J13_bitCount_95d88_41 F x0 = rx_node (C_J13_bitCount_95d88 F) rx_rI t_J13_bitCount_95d88 [10, 24, 34, 41, 48, 55] (kk_J13_bitCount_95d88_41 F) 52 41 [some (.long x0), none] [] none := rfl
set_option maxRecDepth 100000 in
theorem g_J13_bitCount_95d88_34 (F : Nat × Nat) (x0 : Int64) : f_J13_bitCount_95d88_34 F x0 = rx_node (C_J13_bitCount_95d88 F) rx_rI t_J13_bitCount_95d88 [10, 24, 34, 41, 48, 55] (kk_J13_bitCount_95d88_34 F) 52 34 [some (.long x0), none] [] none := rfl
set_option maxRecDepth 100000 in
theorem g_J13_bitCount_95d88_24 (F : Nat × Nat) (x0 : Int64) : f_J13_bitCount_95d88_24 F x0 = rx_node (C_J13_bitCount_95d88 F) rx_rI t_J13_bitCount_95d88 [10, 24, 34, 41, 48, 55] (kk_J13_bitCount_95d88_24 F) 52 24 [some (.long x0), none] [] none := rfl
set_option maxRecDepth 100000 in
theorem g_J13_bitCount_95d88_10 (F : Nat × Nat) (x0 : Int64) : f_J13_bitCount_95d88_10 F x0 = rx_node (C_J13_bitCount_95d88 F) rx_rI t_J13_bitCount_95d88 [10, 24, 34, 41, 48, 55] (kk_J13_bitCount_95d88_10 F) 52 10 [some (.long x0), none] [] none := rfl
set_option maxRecDepth 100000 in
theorem g_J13_bitCount_95d88_0 (F : Nat × Nat) (x0 : Int64) : f_J13_bitCount_95d88_0 F x0 = rx_node (C_J13_bitCount_95d88 F) rx_rI t_J13_bitCount_95d88 [10, 24, 34, 41, 48, 55] (kk_J13_bitCount_95d88_0 F) 52 0 [some (.long x0), none] [] none := rfl
def f_X0_size_0 (F : Nat × Nat) (x0 : Int64) : Option Int32 :=
  (f_J13_bitCount_95d88 F x0).bind fun v1 =>
  some v1
def f_X0_size (F : Nat × Nat) (x0 : Int64) : Option Int32 := f_X0_size_0 F x0
def c_X0_size {α : Type} (F : Nat × Nat) (as : List Value) (u : Option rx_H) (κ : rx_K α) : Option α := match as with
  | [.long a0] => (f_X0_size F a0).bind fun r => κ (some (.int r)) u
  | _ => none
noncomputable def C_X0_size {α : Type} (F : Nat × Nat) : rx_Cl α := fun j as u κ => Bool.rec (motive := fun _ => Option α) (none) (c_J13_bitCount_95d88 F as u κ) (Nat.beq j 0)
def t_X0_size : List rx_E := [
  (0, .lload_n 0, 1, 0, 0, 0, 0, 0, []),
  (1, .invokestatic 9, 3, 0, 1, 184, 0, 0, []),
  (4, .ireturn, 1, 0, 0, 0, 0, 0, [])]
noncomputable def kk_X0_size_0 (F : Nat × Nat) : Nat → rx_L → List Value → Option rx_H → Option Int32 := fun t ls st u => none
set_option maxRecDepth 100000 in
theorem g_X0_size_0 (F : Nat × Nat) (x0 : Int64) : f_X0_size_0 F x0 = rx_node (C_X0_size F) rx_rI t_X0_size [] (kk_X0_size_0 F) 6 0 [some (.long x0), none] [] none := rfl
def f_X0_holdsSet_0 (F : Nat × Nat) (x0 : Int64) (x2 : Int32) : Option Int32 :=
  if ((Int64.toUInt64 x0 >>> ((Int32.toInt64 x2).toUInt64 &&& Int64.toUInt64 63)).toInt64) &&& (1 : Int64) = (0 : Int64) then
    some (0 : Int32)
  else
    some (1 : Int32)
def f_X0_holdsSet (F : Nat × Nat) (x0 : Int64) (x2 : Int32) : Option Int32 := f_X0_holdsSet_0 F x0 x2
def c_X0_holdsSet {α : Type} (F : Nat × Nat) (as : List Value) (u : Option rx_H) (κ : rx_K α) : Option α := match as with
  | [.long a0, .int a1] => (f_X0_holdsSet F a0 a1).bind fun r => κ (some (.int r)) u
  | _ => none
noncomputable def C_X0_holdsSet {α : Type} (F : Nat × Nat) : rx_Cl α := fun j as u κ => none
def t_X0_holdsSet : List rx_E := [
  (0, .lload_n 0, 1, 0, 0, 0, 0, 0, []),
  (1, .iload_n 2, 1, 0, 0, 0, 0, 0, []),
  (2, .lushr, 1, 0, 0, 0, 0, 0, []),
  (3, .lconst 1, 1, 0, 0, 0, 0, 1, []),
  (4, .land, 1, 0, 0, 0, 0, 0, []),
  (5, .lconst 0, 1, 0, 0, 0, 0, 0, []),
  (6, .lcmp, 1, 0, 0, 0, 0, 0, []),
  (7, .ifCond .eq 7, 3, 14, 0, 0, 0, 0, []),
  (10, .iconst 1, 1, 0, 0, 0, 1, 0, []),
  (11, .goto 4, 3, 15, 0, 0, 0, 0, []),
  (14, .iconst 0, 1, 0, 0, 0, 0, 0, []),
  (15, .ireturn, 1, 0, 2, 0, 0, 0, [])]
noncomputable def kk_X0_holdsSet_0 (F : Nat × Nat) : Nat → rx_L → List Value → Option rx_H → Option Int32 := fun t ls st u => none
set_option maxRecDepth 100000 in
theorem g_X0_holdsSet_0 (F : Nat × Nat) (x0 : Int64) (x2 : Int32) : f_X0_holdsSet_0 F x0 x2 = rx_node (C_X0_holdsSet F) rx_rI t_X0_holdsSet [] (kk_X0_holdsSet_0 F) 15 0 [some (.long x0), none, some (.int x2)] [] none := rfl
def f_X0_below_0 (F : Nat × Nat) (x0 : Int32) : Option Int64 :=
  if x0 < (64 : Int32) then
    some (((1 : Int64) <<< (Int32.toInt64 x0 &&& 63)) - (1 : Int64))
  else
    some (-1 : Int64)
def f_X0_below (F : Nat × Nat) (x0 : Int32) : Option Int64 := f_X0_below_0 F x0
def c_X0_below {α : Type} (F : Nat × Nat) (as : List Value) (u : Option rx_H) (κ : rx_K α) : Option α := match as with
  | [.int a0] => (f_X0_below F a0).bind fun r => κ (some (.long r)) u
  | _ => none
noncomputable def C_X0_below {α : Type} (F : Nat × Nat) : rx_Cl α := fun j as u κ => none
def t_X0_below : List rx_E := [
  (0, .iload_n 0, 1, 0, 0, 0, 0, 0, []),
  (1, .bipush 64, 2, 0, 0, 0, 64, 0, []),
  (3, .if_icmp .lt 9, 3, 12, 0, 0, 0, 0, []),
  (6, .ldc2_w 21, 3, 0, 0, 236, 0, (-1), []),
  (9, .goto 8, 3, 17, 0, 0, 0, 0, []),
  (12, .lconst 1, 1, 0, 0, 0, 0, 1, []),
  (13, .iload_n 0, 1, 0, 0, 0, 0, 0, []),
  (14, .lshl, 1, 0, 0, 0, 0, 0, []),
  (15, .lconst 1, 1, 0, 0, 0, 0, 1, []),
  (16, .lsub, 1, 0, 0, 0, 0, 0, []),
  (17, .lreturn, 1, 0, 0, 0, 0, 0, [])]
noncomputable def kk_X0_below_0 (F : Nat × Nat) : Nat → rx_L → List Value → Option rx_H → Option Int64 := fun t ls st u => none
set_option maxRecDepth 100000 in
theorem g_X0_below_0 (F : Nat × Nat) (x0 : Int32) : f_X0_below_0 F x0 = rx_node (C_X0_below F) rx_rJ t_X0_below [] (kk_X0_below_0 F) 14 0 [some (.int x0)] [] none := rfl
def f_X0_next_0 (F : Nat × Nat) (x0 : Int64) (x2 : Int32) : Option Int32 :=
  (f_X0_below F x2).bind fun v1 =>
  (f_J13_bitCount_95d88 F (((x0 &&& (v1 ^^^ (-1 : Int64))) &&& (-(x0 &&& (v1 ^^^ (-1 : Int64))))) - (1 : Int64))).bind fun v2 =>
  some v2
def f_X0_next (F : Nat × Nat) (x0 : Int64) (x2 : Int32) : Option Int32 := f_X0_next_0 F x0 x2
def c_X0_next {α : Type} (F : Nat × Nat) (as : List Value) (u : Option rx_H) (κ : rx_K α) : Option α := match as with
  | [.long a0, .int a1] => (f_X0_next F a0 a1).bind fun r => κ (some (.int r)) u
  | _ => none
noncomputable def C_X0_next {α : Type} (F : Nat × Nat) : rx_Cl α := fun j as u κ => Bool.rec (motive := fun _ => Option α) (Bool.rec (motive := fun _ => Option α) (none) (c_X0_below F as u κ) (Nat.beq j 11)) (c_J13_bitCount_95d88 F as u κ) (Nat.beq j 0)
def t_X0_next : List rx_E := [
  (0, .lload_n 0, 1, 0, 0, 0, 0, 0, []),
  (1, .iload_n 2, 1, 0, 0, 0, 0, 0, []),
  (2, .invokestatic 15, 3, 11, 1, 233, 0, 0, []),
  (5, .ldc2_w 21, 3, 0, 0, 236, 0, (-1), []),
  (8, .lxor, 1, 0, 0, 0, 0, 0, []),
  (9, .land, 1, 0, 0, 0, 0, 0, []),
  (10, .lstore_n 3, 1, 0, 0, 0, 0, 0, []),
  (11, .lload_n 3, 1, 0, 0, 0, 0, 0, []),
  (12, .lload_n 3, 1, 0, 0, 0, 0, 0, []),
  (13, .lneg, 1, 0, 0, 0, 0, 0, []),
  (14, .land, 1, 0, 0, 0, 0, 0, []),
  (15, .lconst 1, 1, 0, 0, 0, 0, 1, []),
  (16, .lsub, 1, 0, 0, 0, 0, 0, []),
  (17, .invokestatic 9, 3, 0, 1, 184, 0, 0, []),
  (20, .ireturn, 1, 0, 0, 0, 0, 0, [])]
noncomputable def kk_X0_next_0 (F : Nat × Nat) : Nat → rx_L → List Value → Option rx_H → Option Int32 := fun t ls st u => none
set_option maxRecDepth 100000 in
theorem g_X0_next_0 (F : Nat × Nat) (x0 : Int64) (x2 : Int32) : f_X0_next_0 F x0 x2 = rx_node (C_X0_next F) rx_rI t_X0_next [] (kk_X0_next_0 F) 18 0 [some (.long x0), none, some (.int x2), none, none] [] none := rfl
def f_X0_leastOf_0 (F : Nat × Nat) (x0 : Int64) : Option Int32 :=
  if x0 = (0 : Int64) then
    some (-2 : Int32)
  else
    (f_X0_next F x0 (0 : Int32)).bind fun v1 =>
    some v1
def f_X0_leastOf (F : Nat × Nat) (x0 : Int64) : Option Int32 := f_X0_leastOf_0 F x0
def c_X0_leastOf {α : Type} (F : Nat × Nat) (as : List Value) (u : Option rx_H) (κ : rx_K α) : Option α := match as with
  | [.long a0] => (f_X0_leastOf F a0).bind fun r => κ (some (.int r)) u
  | _ => none
noncomputable def C_X0_leastOf {α : Type} (F : Nat × Nat) : rx_Cl α := fun j as u κ => Bool.rec (motive := fun _ => Option α) (none) (c_X0_next F as u κ) (Nat.beq j 23)
def t_X0_leastOf : List rx_E := [
  (0, .lload_n 0, 1, 0, 0, 0, 0, 0, []),
  (1, .lconst 0, 1, 0, 0, 0, 0, 0, []),
  (2, .lcmp, 1, 0, 0, 0, 0, 0, []),
  (3, .ifCond .ne 8, 3, 11, 0, 0, 0, 0, []),
  (6, .bipush (-2), 2, 0, 0, 0, (-2), 0, []),
  (8, .goto 8, 3, 16, 0, 0, 0, 0, []),
  (11, .lload_n 0, 1, 0, 0, 0, 0, 0, []),
  (12, .iconst 0, 1, 0, 0, 0, 0, 0, []),
  (13, .invokestatic 23, 3, 23, 2, 230, 0, 0, []),
  (16, .ireturn, 1, 0, 0, 0, 0, 0, [])]
noncomputable def kk_X0_leastOf_0 (F : Nat × Nat) : Nat → rx_L → List Value → Option rx_H → Option Int32 := fun t ls st u => none
set_option maxRecDepth 100000 in
theorem g_X0_leastOf_0 (F : Nat × Nat) (x0 : Int64) : f_X0_leastOf_0 F x0 = rx_node (C_X0_leastOf F) rx_rI t_X0_leastOf [] (kk_X0_leastOf_0 F) 13 0 [some (.long x0), none] [] none := rfl
def f_X0_setAt_35 (F : Nat × Nat) (x3 : Int32) : Option Int32 :=
  if x3 < (64 : Int32) then
    some x3
  else
    some (-2 : Int32)
def f_X0_setAt_9 (F : Nat × Nat) : Nat → Int64 → Int32 → Int32 → Int32 → Option Int32
  | 0, _, _, _, _ => none
  | f + 1, x0, x2, x3, x4 =>
    if x4 < x2 then
      if x3 < (64 : Int32) then
        (f_X0_next F x0 (x3 + (1 : Int32))).bind fun v1 =>
        (f_X0_setAt_9 F f) x0 x2 v1 (x4 + 1)
      else
        f_X0_setAt_35 F x3
    else
      f_X0_setAt_35 F x3
def f_X0_setAt_0 (F : Nat × Nat) (x0 : Int64) (x2 : Int32) : Option Int32 :=
  (f_X0_next F x0 (0 : Int32)).bind fun v1 =>
  f_X0_setAt_9 F F.1 x0 x2 v1 (0 : Int32)
def f_X0_setAt (F : Nat × Nat) (x0 : Int64) (x2 : Int32) : Option Int32 := f_X0_setAt_0 F x0 x2
def c_X0_setAt {α : Type} (F : Nat × Nat) (as : List Value) (u : Option rx_H) (κ : rx_K α) : Option α := match as with
  | [.long a0, .int a1] => (f_X0_setAt F a0 a1).bind fun r => κ (some (.int r)) u
  | _ => none
noncomputable def C_X0_setAt {α : Type} (F : Nat × Nat) : rx_Cl α := fun j as u κ => Bool.rec (motive := fun _ => Option α) (none) (c_X0_next F as u κ) (Nat.beq j 23)
def t_X0_setAt : List rx_E := [
  (0, .lload_n 0, 1, 0, 0, 0, 0, 0, []),
  (1, .iconst 0, 1, 0, 0, 0, 0, 0, []),
  (2, .invokestatic 23, 3, 23, 2, 230, 0, 0, []),
  (5, .istore_n 3, 1, 0, 0, 0, 0, 0, []),
  (6, .iconst 0, 1, 0, 0, 0, 0, 0, []),
  (7, .istore 4, 2, 0, 0, 0, 0, 0, []),
  (9, .iload 4, 2, 0, 0, 0, 0, 0, []),
  (11, .iload_n 2, 1, 0, 0, 0, 0, 0, []),
  (12, .if_icmp .ge 23, 3, 35, 0, 0, 0, 0, []),
  (15, .iload_n 3, 1, 0, 0, 0, 0, 0, []),
  (16, .bipush 64, 2, 0, 0, 0, 64, 0, []),
  (18, .if_icmp .ge 17, 3, 35, 0, 0, 0, 0, []),
  (21, .lload_n 0, 1, 0, 0, 0, 0, 0, []),
  (22, .iload_n 3, 1, 0, 0, 0, 0, 0, []),
  (23, .iconst 1, 1, 0, 0, 0, 1, 0, []),
  (24, .iadd, 1, 0, 0, 0, 0, 0, []),
  (25, .invokestatic 23, 3, 23, 2, 230, 0, 0, []),
  (28, .istore_n 3, 1, 0, 0, 0, 0, 0, []),
  (29, .iinc 4 1, 3, 0, 0, 0, 1, 0, []),
  (32, .goto (-23), 3, 9, 0, 0, 0, 0, []),
  (35, .iload_n 3, 1, 0, 0, 0, 0, 0, []),
  (36, .bipush 64, 2, 0, 0, 0, 64, 0, []),
  (38, .if_icmp .ge 7, 3, 45, 0, 0, 0, 0, []),
  (41, .iload_n 3, 1, 0, 0, 0, 0, 0, []),
  (42, .goto 5, 3, 47, 0, 0, 0, 0, []),
  (45, .bipush (-2), 2, 0, 0, 0, (-2), 0, []),
  (47, .ireturn, 1, 0, 0, 0, 0, 0, [])]
def n_X0_setAt_9 (k9 : Int64 → Int32 → Int32 → Int32 → Option Int32) (ls : rx_L) (st : List Value) (u : Option rx_H) : Option Int32 := match ls, st, u with
  | [some (.long x0), _, some (.int x2), some (.int x3), some (.int x4)], [], none => k9 x0 x2 x3 x4
  | _, _, _ => none
def n_X0_setAt_35 (F : Nat × Nat) (ls : rx_L) (st : List Value) (u : Option rx_H) : Option Int32 := match ls, st, u with
  | [_, _, _, some (.int x3), _], [], none => f_X0_setAt_35 F x3
  | _, _, _ => none
noncomputable def kk_X0_setAt_35 (F : Nat × Nat) : Nat → rx_L → List Value → Option rx_H → Option Int32 := fun t ls st u => none
noncomputable def kk_X0_setAt_9 (F : Nat × Nat) (k9 : Int64 → Int32 → Int32 → Int32 → Option Int32) : Nat → rx_L → List Value → Option rx_H → Option Int32 := fun t ls st u => Bool.rec (motive := fun _ => Option Int32) (Bool.rec (motive := fun _ => Option Int32) (none) (n_X0_setAt_35 F ls st u) (Nat.beq t 35)) (n_X0_setAt_9 k9 ls st u) (Nat.beq t 9)
noncomputable def kk_X0_setAt_0 (F : Nat × Nat) : Nat → rx_L → List Value → Option rx_H → Option Int32 := fun t ls st u => Bool.rec (motive := fun _ => Option Int32) (none) (n_X0_setAt_9 (f_X0_setAt_9 F F.1) ls st u) (Nat.beq t 9)
set_option maxRecDepth 100000 in
theorem g_X0_setAt_35 (F : Nat × Nat) (x3 : Int32) : f_X0_setAt_35 F x3 = rx_node (C_X0_setAt F) rx_rI t_X0_setAt [9, 35] (kk_X0_setAt_35 F) 30 35 [none, none, none, some (.int x3), none] [] none := rfl
set_option maxRecDepth 100000 in
theorem g_X0_setAt_9 (F : Nat × Nat) (f : Nat) (x0 : Int64) (x2 : Int32) (x3 : Int32) (x4 : Int32) : f_X0_setAt_9 F (f + 1) x0 x2 x3 x4 = rx_node (C_X0_setAt F) rx_rI t_X0_setAt [9, 35] (kk_X0_setAt_9 F (f_X0_setAt_9 F f)) 30 9 [some (.long x0), none, some (.int x2), some (.int x3), some (.int x4)] [] none := rfl
set_option maxRecDepth 100000 in
theorem g_X0_setAt_0 (F : Nat × Nat) (x0 : Int64) (x2 : Int32) : f_X0_setAt_0 F x0 x2 = rx_node (C_X0_setAt F) rx_rI t_X0_setAt [9, 35] (kk_X0_setAt_0 F) 30 0 [some (.long x0), none, some (.int x2), none, none] [] none := rfl
def f_X0_within_4 (F : Nat × Nat) : Nat → Int32 → Int64 → Int32 → Option Int64
  | 0, _, _, _ => none
  | f + 1, x0, x1, x3 =>
    if x3 < (6 : Int32) then
      if (x0 >>> (x3 &&& 31)) &&& (1 : Int32) = 0 then
        (f_X0_within_4 F f) x0 x1 (x3 + 1)
      else
        (f_X0_within_4 F f) x0 (x1 ||| (x1 <<< (Int32.toInt64 ((1 : Int32) <<< (x3 &&& 31)) &&& 63))) (x3 + 1)
    else
      some x1
def f_X0_within_0 (F : Nat × Nat) (x0 : Int32) : Option Int64 :=
  f_X0_within_4 F F.1 x0 (1 : Int64) (0 : Int32)
def f_X0_within (F : Nat × Nat) (x0 : Int32) : Option Int64 := f_X0_within_0 F x0
def c_X0_within {α : Type} (F : Nat × Nat) (as : List Value) (u : Option rx_H) (κ : rx_K α) : Option α := match as with
  | [.int a0] => (f_X0_within F a0).bind fun r => κ (some (.long r)) u
  | _ => none
noncomputable def C_X0_within {α : Type} (F : Nat × Nat) : rx_Cl α := fun j as u κ => none
def t_X0_within : List rx_E := [
  (0, .lconst 1, 1, 0, 0, 0, 0, 1, []),
  (1, .lstore_n 1, 1, 0, 0, 0, 0, 0, []),
  (2, .iconst 0, 1, 0, 0, 0, 0, 0, []),
  (3, .istore_n 3, 1, 0, 0, 0, 0, 0, []),
  (4, .iload_n 3, 1, 0, 0, 0, 0, 0, []),
  (5, .bipush 6, 2, 0, 0, 0, 6, 0, []),
  (7, .if_icmp .ge 25, 3, 32, 0, 0, 0, 0, []),
  (10, .iload_n 0, 1, 0, 0, 0, 0, 0, []),
  (11, .iload_n 3, 1, 0, 0, 0, 0, 0, []),
  (12, .ishr, 1, 0, 0, 0, 0, 0, []),
  (13, .iconst 1, 1, 0, 0, 0, 1, 0, []),
  (14, .iand, 1, 0, 0, 0, 0, 0, []),
  (15, .ifCond .eq 11, 3, 26, 0, 0, 0, 0, []),
  (18, .lload_n 1, 1, 0, 0, 0, 0, 0, []),
  (19, .lload_n 1, 1, 0, 0, 0, 0, 0, []),
  (20, .iconst 1, 1, 0, 0, 0, 1, 0, []),
  (21, .iload_n 3, 1, 0, 0, 0, 0, 0, []),
  (22, .ishl, 1, 0, 0, 0, 0, 0, []),
  (23, .lshl, 1, 0, 0, 0, 0, 0, []),
  (24, .lor, 1, 0, 0, 0, 0, 0, []),
  (25, .lstore_n 1, 1, 0, 0, 0, 0, 0, []),
  (26, .iinc 3 1, 3, 0, 0, 0, 1, 0, []),
  (29, .goto (-25), 3, 4, 0, 0, 0, 0, []),
  (32, .lload_n 1, 1, 0, 0, 0, 0, 0, []),
  (33, .lreturn, 1, 0, 0, 0, 0, 0, [])]
def n_X0_within_4 (k4 : Int32 → Int64 → Int32 → Option Int64) (ls : rx_L) (st : List Value) (u : Option rx_H) : Option Int64 := match ls, st, u with
  | [some (.int x0), some (.long x1), _, some (.int x3)], [], none => k4 x0 x1 x3
  | _, _, _ => none
noncomputable def kk_X0_within_4 (F : Nat × Nat) (k4 : Int32 → Int64 → Int32 → Option Int64) : Nat → rx_L → List Value → Option rx_H → Option Int64 := fun t ls st u => Bool.rec (motive := fun _ => Option Int64) (none) (n_X0_within_4 k4 ls st u) (Nat.beq t 4)
noncomputable def kk_X0_within_0 (F : Nat × Nat) : Nat → rx_L → List Value → Option rx_H → Option Int64 := fun t ls st u => Bool.rec (motive := fun _ => Option Int64) (none) (n_X0_within_4 (f_X0_within_4 F F.1) ls st u) (Nat.beq t 4)
set_option maxRecDepth 100000 in
theorem g_X0_within_4 (F : Nat × Nat) (f : Nat) (x0 : Int32) (x1 : Int64) (x3 : Int32) : f_X0_within_4 F (f + 1) x0 x1 x3 = rx_node (C_X0_within F) rx_rJ t_X0_within [4] (kk_X0_within_4 F (f_X0_within_4 F f)) 28 4 [some (.int x0), some (.long x1), none, some (.int x3)] [] none := rfl
set_option maxRecDepth 100000 in
theorem g_X0_within_0 (F : Nat × Nat) (x0 : Int32) : f_X0_within_0 F x0 = rx_node (C_X0_within F) rx_rJ t_X0_within [4] (kk_X0_within_0 F) 28 0 [some (.int x0), none, none, none] [] none := rfl
end
section
set_option maxRecDepth 100000 in
theorem k_J13_bitCount_95d88 : rx_Cal (rx_ny 0) (.code (rx_ny 0) prog_14_method_50_code 2 (some .int)) (rx_kd 0) 1 := ⟨prog_14_method_50_code, 2, (some .int), Or.inl rfl, rx_in (i := 186) (by rfl) (by rfl), rx_in (i := 49) (by decide +kernel) (by decide +kernel), ⟨(by decide +kernel), (by decide +kernel), (by decide +kernel)⟩, Nat.le_of_ble_eq_true rfl, fun _ => rx_in (i := 185) (by decide +kernel) (by decide +kernel), fun h => absurd h (by decide), fun h => absurd h (by decide)⟩
set_option maxRecDepth 100000 in
theorem tk_J13_bitCount_95d88 : (t_J13_bitCount_95d88.all (rx_eok "java/lang/Long" prog_14_method_50_code 2 false false) && rx_adj t_J13_bitCount_95d88) = true := by decide +kernel
theorem s_J13_bitCount_95d88_55 {F : Nat × Nat} {l : Launch} {G : rx_G} {D : Nat} {hf : rx_H} {z : Int32} (hC : rx_CC l G D (C_J13_bitCount_95d88 F) z) (x0 : Int64) (h : f_J13_bitCount_95d88_55 F x0 = some z) : rx_S l G ("java/lang/Long", prog_14_method_50_code, 2, false, false, D) hf hf rx_rI z 55 [some (.long x0), none] [] none := by
  rw [g_J13_bitCount_95d88_55] at h
  refine rx_S_node (md := ("java/lang/Long", prog_14_method_50_code, 2, false, false, D)) tk_J13_bitCount_95d88 hC rx_m_rI (fun t ls st u h => ?_) h
  unfold kk_J13_bitCount_95d88_55 at h
  cases h
theorem s_J13_bitCount_95d88_48 {F : Nat × Nat} {l : Launch} {G : rx_G} {D : Nat} {hf : rx_H} {z : Int32} (hC : rx_CC l G D (C_J13_bitCount_95d88 F) z) (x0 : Int64) (h : f_J13_bitCount_95d88_48 F x0 = some z) : rx_S l G ("java/lang/Long", prog_14_method_50_code, 2, false, false, D) hf hf rx_rI z 48 [some (.long x0), none] [] none := by
  rw [g_J13_bitCount_95d88_48] at h
  refine rx_S_node (md := ("java/lang/Long", prog_14_method_50_code, 2, false, false, D)) tk_J13_bitCount_95d88 hC rx_m_rI (fun t ls st u h => ?_) h
  unfold kk_J13_bitCount_95d88_48 at h
  rcases rx_rec_eq h with ⟨hb, h⟩ | ⟨hb, h⟩
  · have ht := Nat.eq_of_beq_eq_true hb
    subst ht
    unfold n_J13_bitCount_95d88_55 at h
    split at h
    · exact (s_J13_bitCount_95d88_55 hC _ h).le ⟨Or.inr rfl, Or.inl rfl, trivial⟩
    · cases h
  cases h
theorem s_J13_bitCount_95d88_41 {F : Nat × Nat} {l : Launch} {G : rx_G} {D : Nat} {hf : rx_H} {z : Int32} (hC : rx_CC l G D (C_J13_bitCount_95d88 F) z) (x0 : Int64) (h : f_J13_bitCount_95d88_41 F x0 = some z) : rx_S l G ("java/lang/Long", prog_14_method_50_code, 2, false, false, D) hf hf rx_rI z 41 [some (.long x0), none] [] none := by
  rw [g_J13_bitCount_95d88_41] at h
  refine rx_S_node (md := ("java/lang/Long", prog_14_method_50_code, 2, false, false, D)) tk_J13_bitCount_95d88 hC rx_m_rI (fun t ls st u h => ?_) h
  unfold kk_J13_bitCount_95d88_41 at h
  rcases rx_rec_eq h with ⟨hb, h⟩ | ⟨hb, h⟩
  · have ht := Nat.eq_of_beq_eq_true hb
    subst ht
    unfold n_J13_bitCount_95d88_48 at h
    split at h
    · exact (s_J13_bitCount_95d88_48 hC _ h).le ⟨Or.inr rfl, Or.inl rfl, trivial⟩
    · cases h
  cases h
theorem s_J13_bitCount_95d88_34 {F : Nat × Nat} {l : Launch} {G : rx_G} {D : Nat} {hf : rx_H} {z : Int32} (hC : rx_CC l G D (C_J13_bitCount_95d88 F) z) (x0 : Int64) (h : f_J13_bitCount_95d88_34 F x0 = some z) : rx_S l G ("java/lang/Long", prog_14_method_50_code, 2, false, false, D) hf hf rx_rI z 34 [some (.long x0), none] [] none := by
  rw [g_J13_bitCount_95d88_34] at h
  refine rx_S_node (md := ("java/lang/Long", prog_14_method_50_code, 2, false, false, D)) tk_J13_bitCount_95d88 hC rx_m_rI (fun t ls st u h => ?_) h
  unfold kk_J13_bitCount_95d88_34 at h
  rcases rx_rec_eq h with ⟨hb, h⟩ | ⟨hb, h⟩
  · have ht := Nat.eq_of_beq_eq_true hb
    subst ht
    unfold n_J13_bitCount_95d88_41 at h
    split at h
    · exact (s_J13_bitCount_95d88_41 hC _ h).le ⟨Or.inr rfl, Or.inl rfl, trivial⟩
    · cases h
  cases h
theorem s_J13_bitCount_95d88_24 {F : Nat × Nat} {l : Launch} {G : rx_G} {D : Nat} {hf : rx_H} {z : Int32} (hC : rx_CC l G D (C_J13_bitCount_95d88 F) z) (x0 : Int64) (h : f_J13_bitCount_95d88_24 F x0 = some z) : rx_S l G ("java/lang/Long", prog_14_method_50_code, 2, false, false, D) hf hf rx_rI z 24 [some (.long x0), none] [] none := by
  rw [g_J13_bitCount_95d88_24] at h
  refine rx_S_node (md := ("java/lang/Long", prog_14_method_50_code, 2, false, false, D)) tk_J13_bitCount_95d88 hC rx_m_rI (fun t ls st u h => ?_) h
  unfold kk_J13_bitCount_95d88_24 at h
  rcases rx_rec_eq h with ⟨hb, h⟩ | ⟨hb, h⟩
  · have ht := Nat.eq_of_beq_eq_true hb
    subst ht
    unfold n_J13_bitCount_95d88_34 at h
    split at h
    · exact (s_J13_bitCount_95d88_34 hC _ h).le ⟨Or.inr rfl, Or.inl rfl, trivial⟩
    · cases h
  cases h
theorem s_J13_bitCount_95d88_10 {F : Nat × Nat} {l : Launch} {G : rx_G} {D : Nat} {hf : rx_H} {z : Int32} (hC : rx_CC l G D (C_J13_bitCount_95d88 F) z) (x0 : Int64) (h : f_J13_bitCount_95d88_10 F x0 = some z) : rx_S l G ("java/lang/Long", prog_14_method_50_code, 2, false, false, D) hf hf rx_rI z 10 [some (.long x0), none] [] none := by
  rw [g_J13_bitCount_95d88_10] at h
  refine rx_S_node (md := ("java/lang/Long", prog_14_method_50_code, 2, false, false, D)) tk_J13_bitCount_95d88 hC rx_m_rI (fun t ls st u h => ?_) h
  unfold kk_J13_bitCount_95d88_10 at h
  rcases rx_rec_eq h with ⟨hb, h⟩ | ⟨hb, h⟩
  · have ht := Nat.eq_of_beq_eq_true hb
    subst ht
    unfold n_J13_bitCount_95d88_24 at h
    split at h
    · exact (s_J13_bitCount_95d88_24 hC _ h).le ⟨Or.inr rfl, Or.inl rfl, trivial⟩
    · cases h
  cases h
theorem s_J13_bitCount_95d88_0 {F : Nat × Nat} {l : Launch} {G : rx_G} {D : Nat} {hf : rx_H} {z : Int32} (hC : rx_CC l G D (C_J13_bitCount_95d88 F) z) (x0 : Int64) (h : f_J13_bitCount_95d88_0 F x0 = some z) : rx_S l G ("java/lang/Long", prog_14_method_50_code, 2, false, false, D) hf hf rx_rI z 0 [some (.long x0), none] [] none := by
  rw [g_J13_bitCount_95d88_0] at h
  refine rx_S_node (md := ("java/lang/Long", prog_14_method_50_code, 2, false, false, D)) tk_J13_bitCount_95d88 hC rx_m_rI (fun t ls st u h => ?_) h
  unfold kk_J13_bitCount_95d88_0 at h
  rcases rx_rec_eq h with ⟨hb, h⟩ | ⟨hb, h⟩
  · have ht := Nat.eq_of_beq_eq_true hb
    subst ht
    unfold n_J13_bitCount_95d88_10 at h
    split at h
    · exact (s_J13_bitCount_95d88_10 hC _ h).le ⟨Or.inr rfl, Or.inl rfl, trivial⟩
    · cases h
  cases h
theorem cc_J13_bitCount_95d88 (F : Nat × Nat) (l : Launch) (G : rx_G) {α : Type} (z : α) : rx_CC l G (0 + 0 * F.2) (C_J13_bitCount_95d88 F) z := by
  intro j as u κ h
  unfold C_J13_bitCount_95d88 at h
  cases h
theorem m_J13_bitCount_95d88 (F : Nat × Nat) (l : Launch) (G : rx_G) (hf : rx_H) (x0 : Int64) {z : Int32} (h : f_J13_bitCount_95d88 F x0 = some z) : rx_Ok l G (1 + 0 * F.2) (rx_ny 0) (.code (rx_ny 0) prog_14_method_50_code 2 (some .int)) [.long x0] hf (some (.int z)) hf := by
  have h := h
  unfold f_J13_bitCount_95d88 at h
  exact (rx_met (l := l) (G := G) (hf := hf) (as := [.long x0]) (r := (some (.int z))) (ls0 := [some (.long x0), none]) (y := rx_ny 0) (D := (0 + 0 * F.2)) (ini := false) (bo := false) (u := none) (u' := none) (by decide +kernel) (fun h => by cases h) (Nat.le_of_ble_eq_true rfl) (Or.inl ⟨rfl, rfl, _, rfl⟩) (fun Z hZ hB => rx_RT_rI hZ hB) (by exact ⟨Or.inr rfl, Or.inl rfl, trivial⟩) (s_J13_bitCount_95d88_0 (cc_J13_bitCount_95d88 F l G z) x0 h)).deep (by omega)
theorem w_J13_bitCount_95d88 (F : Nat × Nat) (l : Launch) (G : rx_G) {α : Type} {z : α} {as : List Value} {u : Option rx_H} {κ : rx_K α} (h : c_J13_bitCount_95d88 F as u κ = some z) : rx_Cw l G (1 + 0 * F.2) 0 as u κ z := by
  unfold c_J13_bitCount_95d88 at h
  split at h
  · obtain ⟨r, hr, h⟩ := Option.bind_eq_some_iff.mp h
    exact ⟨_, _, _, _, h, k_J13_bitCount_95d88, fun _ => rfl, fun h => absurd rfl h, fun hf => m_J13_bitCount_95d88 F l G _ _ hr⟩
  · cases h
set_option maxRecDepth 100000 in
theorem k_X0_size : rx_Cal (rx_ny 28) (.code (rx_ny 28) prog_2_method_2_code 2 (some .int)) (rx_kd 28) 1 := ⟨prog_2_method_2_code, 2, (some .int), Or.inl rfl, rx_in (i := 183) (by rfl) (by rfl), rx_in (i := 48) (by decide +kernel) (by decide +kernel), ⟨(by decide +kernel), (by decide +kernel), (by decide +kernel)⟩, Nat.le_of_ble_eq_true rfl, fun _ => rx_in (i := 182) (by decide +kernel) (by decide +kernel), fun h => absurd h (by decide), fun h => absurd h (by decide)⟩
set_option maxRecDepth 100000 in
theorem tk_X0_size : (t_X0_size.all (rx_eok "SetHouse$Heap" prog_2_method_2_code 2 false false) && rx_adj t_X0_size) = true := by decide +kernel
theorem s_X0_size_0 {F : Nat × Nat} {l : Launch} {G : rx_G} {D : Nat} {hf : rx_H} {z : Int32} (hC : rx_CC l G D (C_X0_size F) z) (x0 : Int64) (h : f_X0_size_0 F x0 = some z) : rx_S l G ("SetHouse$Heap", prog_2_method_2_code, 2, false, false, D) hf hf rx_rI z 0 [some (.long x0), none] [] none := by
  rw [g_X0_size_0] at h
  refine rx_S_node (md := ("SetHouse$Heap", prog_2_method_2_code, 2, false, false, D)) tk_X0_size hC rx_m_rI (fun t ls st u h => ?_) h
  unfold kk_X0_size_0 at h
  cases h
theorem cc_X0_size (F : Nat × Nat) (l : Launch) (G : rx_G) {α : Type} (z : α) : rx_CC l G (1 + 0 * F.2) (C_X0_size F) z := by
  intro j as u κ h
  unfold C_X0_size at h
  rcases rx_rec_eq h with ⟨hb, h⟩ | ⟨hb, h⟩
  · have ht := Nat.eq_of_beq_eq_true hb
    subst ht
    exact (w_J13_bitCount_95d88 F l G h).deep (by omega)
  cases h
theorem m_X0_size (F : Nat × Nat) (l : Launch) (G : rx_G) (hf : rx_H) (x0 : Int64) {z : Int32} (h : f_X0_size F x0 = some z) : rx_Ok l G (2 + 0 * F.2) (rx_ny 28) (.code (rx_ny 28) prog_2_method_2_code 2 (some .int)) [.long x0] hf (some (.int z)) hf := by
  have h := h
  unfold f_X0_size at h
  exact (rx_met (l := l) (G := G) (hf := hf) (as := [.long x0]) (r := (some (.int z))) (ls0 := [some (.long x0), none]) (y := rx_ny 28) (D := (1 + 0 * F.2)) (ini := false) (bo := false) (u := none) (u' := none) (by decide +kernel) (fun h => by cases h) (Nat.le_of_ble_eq_true rfl) (Or.inl ⟨rfl, rfl, _, rfl⟩) (fun Z hZ hB => rx_RT_rI hZ hB) (by exact ⟨Or.inr rfl, Or.inl rfl, trivial⟩) (s_X0_size_0 (cc_X0_size F l G z) x0 h)).deep (by omega)
theorem w_X0_size (F : Nat × Nat) (l : Launch) (G : rx_G) {α : Type} {z : α} {as : List Value} {u : Option rx_H} {κ : rx_K α} (h : c_X0_size F as u κ = some z) : rx_Cw l G (2 + 0 * F.2) 28 as u κ z := by
  unfold c_X0_size at h
  split at h
  · obtain ⟨r, hr, h⟩ := Option.bind_eq_some_iff.mp h
    exact ⟨_, _, _, _, h, k_X0_size, fun _ => rfl, fun h => absurd rfl h, fun hf => m_X0_size F l G _ _ hr⟩
  · cases h
set_option maxRecDepth 100000 in
theorem k_X0_holdsSet : rx_Cal (rx_ny 13) (.code (rx_ny 13) prog_2_method_3_code 3 (some .boolean)) (rx_kd 13) 2 := ⟨prog_2_method_3_code, 3, (some .boolean), Or.inl rfl, rx_in (i := 219) (by rfl) (by rfl), rx_in (i := 48) (by decide +kernel) (by decide +kernel), ⟨(by decide +kernel), (by decide +kernel), (by decide +kernel)⟩, Nat.le_of_ble_eq_true rfl, fun _ => rx_in (i := 218) (by decide +kernel) (by decide +kernel), fun h => absurd h (by decide), fun h => absurd h (by decide)⟩
set_option maxRecDepth 100000 in
theorem tk_X0_holdsSet : (t_X0_holdsSet.all (rx_eok "SetHouse$Heap" prog_2_method_3_code 3 false true) && rx_adj t_X0_holdsSet) = true := by decide +kernel
theorem s_X0_holdsSet_0 {F : Nat × Nat} {l : Launch} {G : rx_G} {D : Nat} {hf : rx_H} {z : Int32} (hC : rx_CC l G D (C_X0_holdsSet F) z) (x0 : Int64) (x2 : Int32) (h : f_X0_holdsSet_0 F x0 x2 = some z) : rx_S l G ("SetHouse$Heap", prog_2_method_3_code, 3, false, true, D) hf hf rx_rI z 0 [some (.long x0), none, some (.int x2)] [] none := by
  rw [g_X0_holdsSet_0] at h
  refine rx_S_node (md := ("SetHouse$Heap", prog_2_method_3_code, 3, false, true, D)) tk_X0_holdsSet hC rx_m_rI (fun t ls st u h => ?_) h
  unfold kk_X0_holdsSet_0 at h
  cases h
theorem cc_X0_holdsSet (F : Nat × Nat) (l : Launch) (G : rx_G) {α : Type} (z : α) : rx_CC l G (0 + 0 * F.2) (C_X0_holdsSet F) z := by
  intro j as u κ h
  unfold C_X0_holdsSet at h
  cases h
theorem m_X0_holdsSet (F : Nat × Nat) (l : Launch) (G : rx_G) (hf : rx_H) (x0 : Int64) (x2 : Int32) {z : Int32} (h : f_X0_holdsSet F x0 x2 = some z) : rx_Ok l G (1 + 0 * F.2) (rx_ny 13) (.code (rx_ny 13) prog_2_method_3_code 3 (some .boolean)) [.long x0, .int x2] hf (some (.int z)) hf := by
  have h := h
  unfold f_X0_holdsSet at h
  exact (rx_met (l := l) (G := G) (hf := hf) (as := [.long x0, .int x2]) (r := (some (.int z))) (ls0 := [some (.long x0), none, some (.int x2)]) (y := rx_ny 13) (D := (0 + 0 * F.2)) (ini := false) (bo := true) (u := none) (u' := none) (by decide +kernel) (fun h => by cases h) (Nat.le_of_ble_eq_true rfl) (Or.inr (Or.inl ⟨rfl, rfl, _, rfl⟩)) (fun Z hZ hB => rx_RT_rI hZ hB) (by exact ⟨Or.inr rfl, Or.inl rfl, Or.inr rfl, trivial⟩) (s_X0_holdsSet_0 (cc_X0_holdsSet F l G z) x0 x2 h)).deep (by omega)
theorem w_X0_holdsSet (F : Nat × Nat) (l : Launch) (G : rx_G) {α : Type} {z : α} {as : List Value} {u : Option rx_H} {κ : rx_K α} (h : c_X0_holdsSet F as u κ = some z) : rx_Cw l G (1 + 0 * F.2) 13 as u κ z := by
  unfold c_X0_holdsSet at h
  split at h
  · obtain ⟨r, hr, h⟩ := Option.bind_eq_some_iff.mp h
    exact ⟨_, _, _, _, h, k_X0_holdsSet, fun _ => rfl, fun h => absurd rfl h, fun hf => m_X0_holdsSet F l G _ _ _ hr⟩
  · cases h
set_option maxRecDepth 100000 in
theorem k_X0_below : rx_Cal (rx_ny 11) (.code (rx_ny 11) prog_2_method_7_code 1 (some .long)) (rx_kd 11) 1 := ⟨prog_2_method_7_code, 1, (some .long), Or.inl rfl, rx_in (i := 235) (by rfl) (by rfl), rx_in (i := 48) (by decide +kernel) (by decide +kernel), ⟨(by decide +kernel), (by decide +kernel), (by decide +kernel)⟩, Nat.le_of_ble_eq_true rfl, fun _ => rx_in (i := 234) (by decide +kernel) (by decide +kernel), fun h => absurd h (by decide), fun h => absurd h (by decide)⟩
set_option maxRecDepth 100000 in
theorem tk_X0_below : (t_X0_below.all (rx_eok "SetHouse$Heap" prog_2_method_7_code 1 false false) && rx_adj t_X0_below) = true := by decide +kernel
theorem s_X0_below_0 {F : Nat × Nat} {l : Launch} {G : rx_G} {D : Nat} {hf : rx_H} {z : Int64} (hC : rx_CC l G D (C_X0_below F) z) (x0 : Int32) (h : f_X0_below_0 F x0 = some z) : rx_S l G ("SetHouse$Heap", prog_2_method_7_code, 1, false, false, D) hf hf rx_rJ z 0 [some (.int x0)] [] none := by
  rw [g_X0_below_0] at h
  refine rx_S_node (md := ("SetHouse$Heap", prog_2_method_7_code, 1, false, false, D)) tk_X0_below hC rx_m_rJ (fun t ls st u h => ?_) h
  unfold kk_X0_below_0 at h
  cases h
theorem cc_X0_below (F : Nat × Nat) (l : Launch) (G : rx_G) {α : Type} (z : α) : rx_CC l G (0 + 0 * F.2) (C_X0_below F) z := by
  intro j as u κ h
  unfold C_X0_below at h
  cases h
theorem m_X0_below (F : Nat × Nat) (l : Launch) (G : rx_G) (hf : rx_H) (x0 : Int32) {z : Int64} (h : f_X0_below F x0 = some z) : rx_Ok l G (1 + 0 * F.2) (rx_ny 11) (.code (rx_ny 11) prog_2_method_7_code 1 (some .long)) [.int x0] hf (some (.long z)) hf := by
  have h := h
  unfold f_X0_below at h
  exact (rx_met (l := l) (G := G) (hf := hf) (as := [.int x0]) (r := (some (.long z))) (ls0 := [some (.int x0)]) (y := rx_ny 11) (D := (0 + 0 * F.2)) (ini := false) (bo := false) (u := none) (u' := none) (by decide +kernel) (fun h => by cases h) (Nat.le_of_ble_eq_true rfl) (Or.inr (Or.inr (Or.inl ⟨rfl, _, rfl⟩))) (fun Z hZ hB => rx_RT_rJ hZ hB) (by exact ⟨Or.inr rfl, trivial⟩) (s_X0_below_0 (cc_X0_below F l G z) x0 h)).deep (by omega)
theorem w_X0_below (F : Nat × Nat) (l : Launch) (G : rx_G) {α : Type} {z : α} {as : List Value} {u : Option rx_H} {κ : rx_K α} (h : c_X0_below F as u κ = some z) : rx_Cw l G (1 + 0 * F.2) 11 as u κ z := by
  unfold c_X0_below at h
  split at h
  · obtain ⟨r, hr, h⟩ := Option.bind_eq_some_iff.mp h
    exact ⟨_, _, _, _, h, k_X0_below, fun _ => rfl, fun h => absurd rfl h, fun hf => m_X0_below F l G _ _ hr⟩
  · cases h
set_option maxRecDepth 100000 in
theorem k_X0_next : rx_Cal (rx_ny 23) (.code (rx_ny 23) prog_2_method_4_code 5 (some .int)) (rx_kd 23) 2 := ⟨prog_2_method_4_code, 5, (some .int), Or.inl rfl, rx_in (i := 232) (by rfl) (by rfl), rx_in (i := 48) (by decide +kernel) (by decide +kernel), ⟨(by decide +kernel), (by decide +kernel), (by decide +kernel)⟩, Nat.le_of_ble_eq_true rfl, fun _ => rx_in (i := 231) (by decide +kernel) (by decide +kernel), fun h => absurd h (by decide), fun h => absurd h (by decide)⟩
set_option maxRecDepth 100000 in
theorem tk_X0_next : (t_X0_next.all (rx_eok "SetHouse$Heap" prog_2_method_4_code 5 false false) && rx_adj t_X0_next) = true := by decide +kernel
theorem s_X0_next_0 {F : Nat × Nat} {l : Launch} {G : rx_G} {D : Nat} {hf : rx_H} {z : Int32} (hC : rx_CC l G D (C_X0_next F) z) (x0 : Int64) (x2 : Int32) (h : f_X0_next_0 F x0 x2 = some z) : rx_S l G ("SetHouse$Heap", prog_2_method_4_code, 5, false, false, D) hf hf rx_rI z 0 [some (.long x0), none, some (.int x2), none, none] [] none := by
  rw [g_X0_next_0] at h
  refine rx_S_node (md := ("SetHouse$Heap", prog_2_method_4_code, 5, false, false, D)) tk_X0_next hC rx_m_rI (fun t ls st u h => ?_) h
  unfold kk_X0_next_0 at h
  cases h
theorem cc_X0_next (F : Nat × Nat) (l : Launch) (G : rx_G) {α : Type} (z : α) : rx_CC l G (1 + 0 * F.2) (C_X0_next F) z := by
  intro j as u κ h
  unfold C_X0_next at h
  rcases rx_rec_eq h with ⟨hb, h⟩ | ⟨hb, h⟩
  · have ht := Nat.eq_of_beq_eq_true hb
    subst ht
    exact (w_J13_bitCount_95d88 F l G h).deep (by omega)
  rcases rx_rec_eq h with ⟨hb, h⟩ | ⟨hb, h⟩
  · have ht := Nat.eq_of_beq_eq_true hb
    subst ht
    exact (w_X0_below F l G h).deep (by omega)
  cases h
theorem m_X0_next (F : Nat × Nat) (l : Launch) (G : rx_G) (hf : rx_H) (x0 : Int64) (x2 : Int32) {z : Int32} (h : f_X0_next F x0 x2 = some z) : rx_Ok l G (2 + 0 * F.2) (rx_ny 23) (.code (rx_ny 23) prog_2_method_4_code 5 (some .int)) [.long x0, .int x2] hf (some (.int z)) hf := by
  have h := h
  unfold f_X0_next at h
  exact (rx_met (l := l) (G := G) (hf := hf) (as := [.long x0, .int x2]) (r := (some (.int z))) (ls0 := [some (.long x0), none, some (.int x2), none, none]) (y := rx_ny 23) (D := (1 + 0 * F.2)) (ini := false) (bo := false) (u := none) (u' := none) (by decide +kernel) (fun h => by cases h) (Nat.le_of_ble_eq_true rfl) (Or.inl ⟨rfl, rfl, _, rfl⟩) (fun Z hZ hB => rx_RT_rI hZ hB) (by exact ⟨Or.inr rfl, Or.inl rfl, Or.inr rfl, Or.inl rfl, Or.inl rfl, trivial⟩) (s_X0_next_0 (cc_X0_next F l G z) x0 x2 h)).deep (by omega)
theorem w_X0_next (F : Nat × Nat) (l : Launch) (G : rx_G) {α : Type} {z : α} {as : List Value} {u : Option rx_H} {κ : rx_K α} (h : c_X0_next F as u κ = some z) : rx_Cw l G (2 + 0 * F.2) 23 as u κ z := by
  unfold c_X0_next at h
  split at h
  · obtain ⟨r, hr, h⟩ := Option.bind_eq_some_iff.mp h
    exact ⟨_, _, _, _, h, k_X0_next, fun _ => rfl, fun h => absurd rfl h, fun hf => m_X0_next F l G _ _ _ hr⟩
  · cases h
set_option maxRecDepth 100000 in
theorem k_X0_leastOf : rx_Cal (rx_ny 17) (.code (rx_ny 17) prog_2_method_5_code 2 (some .int)) (rx_kd 17) 1 := ⟨prog_2_method_5_code, 2, (some .int), Or.inl rfl, rx_in (i := 229) (by rfl) (by rfl), rx_in (i := 48) (by decide +kernel) (by decide +kernel), ⟨(by decide +kernel), (by decide +kernel), (by decide +kernel)⟩, Nat.le_of_ble_eq_true rfl, fun _ => rx_in (i := 228) (by decide +kernel) (by decide +kernel), fun h => absurd h (by decide), fun h => absurd h (by decide)⟩
set_option maxRecDepth 100000 in
theorem tk_X0_leastOf : (t_X0_leastOf.all (rx_eok "SetHouse$Heap" prog_2_method_5_code 2 false false) && rx_adj t_X0_leastOf) = true := by decide +kernel
theorem s_X0_leastOf_0 {F : Nat × Nat} {l : Launch} {G : rx_G} {D : Nat} {hf : rx_H} {z : Int32} (hC : rx_CC l G D (C_X0_leastOf F) z) (x0 : Int64) (h : f_X0_leastOf_0 F x0 = some z) : rx_S l G ("SetHouse$Heap", prog_2_method_5_code, 2, false, false, D) hf hf rx_rI z 0 [some (.long x0), none] [] none := by
  rw [g_X0_leastOf_0] at h
  refine rx_S_node (md := ("SetHouse$Heap", prog_2_method_5_code, 2, false, false, D)) tk_X0_leastOf hC rx_m_rI (fun t ls st u h => ?_) h
  unfold kk_X0_leastOf_0 at h
  cases h
theorem cc_X0_leastOf (F : Nat × Nat) (l : Launch) (G : rx_G) {α : Type} (z : α) : rx_CC l G (2 + 0 * F.2) (C_X0_leastOf F) z := by
  intro j as u κ h
  unfold C_X0_leastOf at h
  rcases rx_rec_eq h with ⟨hb, h⟩ | ⟨hb, h⟩
  · have ht := Nat.eq_of_beq_eq_true hb
    subst ht
    exact (w_X0_next F l G h).deep (by omega)
  cases h
theorem m_X0_leastOf (F : Nat × Nat) (l : Launch) (G : rx_G) (hf : rx_H) (x0 : Int64) {z : Int32} (h : f_X0_leastOf F x0 = some z) : rx_Ok l G (3 + 0 * F.2) (rx_ny 17) (.code (rx_ny 17) prog_2_method_5_code 2 (some .int)) [.long x0] hf (some (.int z)) hf := by
  have h := h
  unfold f_X0_leastOf at h
  exact (rx_met (l := l) (G := G) (hf := hf) (as := [.long x0]) (r := (some (.int z))) (ls0 := [some (.long x0), none]) (y := rx_ny 17) (D := (2 + 0 * F.2)) (ini := false) (bo := false) (u := none) (u' := none) (by decide +kernel) (fun h => by cases h) (Nat.le_of_ble_eq_true rfl) (Or.inl ⟨rfl, rfl, _, rfl⟩) (fun Z hZ hB => rx_RT_rI hZ hB) (by exact ⟨Or.inr rfl, Or.inl rfl, trivial⟩) (s_X0_leastOf_0 (cc_X0_leastOf F l G z) x0 h)).deep (by omega)
theorem w_X0_leastOf (F : Nat × Nat) (l : Launch) (G : rx_G) {α : Type} {z : α} {as : List Value} {u : Option rx_H} {κ : rx_K α} (h : c_X0_leastOf F as u κ = some z) : rx_Cw l G (3 + 0 * F.2) 17 as u κ z := by
  unfold c_X0_leastOf at h
  split at h
  · obtain ⟨r, hr, h⟩ := Option.bind_eq_some_iff.mp h
    exact ⟨_, _, _, _, h, k_X0_leastOf, fun _ => rfl, fun h => absurd rfl h, fun hf => m_X0_leastOf F l G _ _ hr⟩
  · cases h
set_option maxRecDepth 100000 in
theorem k_X0_setAt : rx_Cal (rx_ny 26) (.code (rx_ny 26) prog_2_method_6_code 5 (some .int)) (rx_kd 26) 2 := ⟨prog_2_method_6_code, 5, (some .int), Or.inl rfl, rx_in (i := 285) (by rfl) (by rfl), rx_in (i := 48) (by decide +kernel) (by decide +kernel), ⟨(by decide +kernel), (by decide +kernel), (by decide +kernel)⟩, Nat.le_of_ble_eq_true rfl, fun _ => rx_in (i := 284) (by decide +kernel) (by decide +kernel), fun h => absurd h (by decide), fun h => absurd h (by decide)⟩
set_option maxRecDepth 100000 in
theorem tk_X0_setAt : (t_X0_setAt.all (rx_eok "SetHouse$Heap" prog_2_method_6_code 5 false false) && rx_adj t_X0_setAt) = true := by decide +kernel
theorem s_X0_setAt_35 {F : Nat × Nat} {l : Launch} {G : rx_G} {D : Nat} {hf : rx_H} {z : Int32} (hC : rx_CC l G D (C_X0_setAt F) z) (x3 : Int32) (h : f_X0_setAt_35 F x3 = some z) : rx_S l G ("SetHouse$Heap", prog_2_method_6_code, 5, false, false, D) hf hf rx_rI z 35 [none, none, none, some (.int x3), none] [] none := by
  rw [g_X0_setAt_35] at h
  refine rx_S_node (md := ("SetHouse$Heap", prog_2_method_6_code, 5, false, false, D)) tk_X0_setAt hC rx_m_rI (fun t ls st u h => ?_) h
  unfold kk_X0_setAt_35 at h
  cases h
theorem s_X0_setAt_9 {F : Nat × Nat} {l : Launch} {G : rx_G} {D : Nat} {hf : rx_H} {z : Int32} (hC : rx_CC l G D (C_X0_setAt F) z) : ∀ (f : Nat) (x0 : Int64) (x2 : Int32) (x3 : Int32) (x4 : Int32), f_X0_setAt_9 F f x0 x2 x3 x4 = some z → rx_S l G ("SetHouse$Heap", prog_2_method_6_code, 5, false, false, D) hf hf rx_rI z 9 [some (.long x0), none, some (.int x2), some (.int x3), some (.int x4)] [] none := by
  intro f
  induction f with
  | zero =>
    intro x0 x2 x3 x4 h
    cases h
  | succ f ih =>
    intro x0 x2 x3 x4 h
    rw [g_X0_setAt_9] at h
    refine rx_S_node (md := ("SetHouse$Heap", prog_2_method_6_code, 5, false, false, D)) tk_X0_setAt hC rx_m_rI (fun t ls st u h => ?_) h
    unfold kk_X0_setAt_9 at h
    rcases rx_rec_eq h with ⟨hb, h⟩ | ⟨hb, h⟩
    · have ht := Nat.eq_of_beq_eq_true hb
      subst ht
      unfold n_X0_setAt_9 at h
      split at h
      · exact (ih _ _ _ _ h).le ⟨Or.inr rfl, Or.inl rfl, Or.inr rfl, Or.inr rfl, Or.inr rfl, trivial⟩
      · cases h
    rcases rx_rec_eq h with ⟨hb, h⟩ | ⟨hb, h⟩
    · have ht := Nat.eq_of_beq_eq_true hb
      subst ht
      unfold n_X0_setAt_35 at h
      split at h
      · exact (s_X0_setAt_35 hC _ h).le ⟨Or.inl rfl, Or.inl rfl, Or.inl rfl, Or.inr rfl, Or.inl rfl, trivial⟩
      · cases h
    cases h
theorem s_X0_setAt_0 {F : Nat × Nat} {l : Launch} {G : rx_G} {D : Nat} {hf : rx_H} {z : Int32} (hC : rx_CC l G D (C_X0_setAt F) z) (x0 : Int64) (x2 : Int32) (h : f_X0_setAt_0 F x0 x2 = some z) : rx_S l G ("SetHouse$Heap", prog_2_method_6_code, 5, false, false, D) hf hf rx_rI z 0 [some (.long x0), none, some (.int x2), none, none] [] none := by
  rw [g_X0_setAt_0] at h
  refine rx_S_node (md := ("SetHouse$Heap", prog_2_method_6_code, 5, false, false, D)) tk_X0_setAt hC rx_m_rI (fun t ls st u h => ?_) h
  unfold kk_X0_setAt_0 at h
  rcases rx_rec_eq h with ⟨hb, h⟩ | ⟨hb, h⟩
  · have ht := Nat.eq_of_beq_eq_true hb
    subst ht
    unfold n_X0_setAt_9 at h
    split at h
    · exact (s_X0_setAt_9 hC _ _ _ _ _ h).le ⟨Or.inr rfl, Or.inl rfl, Or.inr rfl, Or.inr rfl, Or.inr rfl, trivial⟩
    · cases h
  cases h
theorem cc_X0_setAt (F : Nat × Nat) (l : Launch) (G : rx_G) {α : Type} (z : α) : rx_CC l G (2 + 0 * F.2) (C_X0_setAt F) z := by
  intro j as u κ h
  unfold C_X0_setAt at h
  rcases rx_rec_eq h with ⟨hb, h⟩ | ⟨hb, h⟩
  · have ht := Nat.eq_of_beq_eq_true hb
    subst ht
    exact (w_X0_next F l G h).deep (by omega)
  cases h
theorem m_X0_setAt (F : Nat × Nat) (l : Launch) (G : rx_G) (hf : rx_H) (x0 : Int64) (x2 : Int32) {z : Int32} (h : f_X0_setAt F x0 x2 = some z) : rx_Ok l G (3 + 0 * F.2) (rx_ny 26) (.code (rx_ny 26) prog_2_method_6_code 5 (some .int)) [.long x0, .int x2] hf (some (.int z)) hf := by
  have h := h
  unfold f_X0_setAt at h
  exact (rx_met (l := l) (G := G) (hf := hf) (as := [.long x0, .int x2]) (r := (some (.int z))) (ls0 := [some (.long x0), none, some (.int x2), none, none]) (y := rx_ny 26) (D := (2 + 0 * F.2)) (ini := false) (bo := false) (u := none) (u' := none) (by decide +kernel) (fun h => by cases h) (Nat.le_of_ble_eq_true rfl) (Or.inl ⟨rfl, rfl, _, rfl⟩) (fun Z hZ hB => rx_RT_rI hZ hB) (by exact ⟨Or.inr rfl, Or.inl rfl, Or.inr rfl, Or.inl rfl, Or.inl rfl, trivial⟩) (s_X0_setAt_0 (cc_X0_setAt F l G z) x0 x2 h)).deep (by omega)
theorem w_X0_setAt (F : Nat × Nat) (l : Launch) (G : rx_G) {α : Type} {z : α} {as : List Value} {u : Option rx_H} {κ : rx_K α} (h : c_X0_setAt F as u κ = some z) : rx_Cw l G (3 + 0 * F.2) 26 as u κ z := by
  unfold c_X0_setAt at h
  split at h
  · obtain ⟨r, hr, h⟩ := Option.bind_eq_some_iff.mp h
    exact ⟨_, _, _, _, h, k_X0_setAt, fun _ => rfl, fun h => absurd rfl h, fun hf => m_X0_setAt F l G _ _ _ hr⟩
  · cases h
set_option maxRecDepth 100000 in
theorem k_X0_within : rx_Cal (rx_ny 30) (.code (rx_ny 30) prog_2_method_8_code 4 (some .long)) (rx_kd 30) 1 := ⟨prog_2_method_8_code, 4, (some .long), Or.inl rfl, rx_in (i := 222) (by rfl) (by rfl), rx_in (i := 48) (by decide +kernel) (by decide +kernel), ⟨(by decide +kernel), (by decide +kernel), (by decide +kernel)⟩, Nat.le_of_ble_eq_true rfl, fun _ => rx_in (i := 221) (by decide +kernel) (by decide +kernel), fun h => absurd h (by decide), fun h => absurd h (by decide)⟩
set_option maxRecDepth 100000 in
theorem tk_X0_within : (t_X0_within.all (rx_eok "SetHouse$Heap" prog_2_method_8_code 4 false false) && rx_adj t_X0_within) = true := by decide +kernel
theorem s_X0_within_4 {F : Nat × Nat} {l : Launch} {G : rx_G} {D : Nat} {hf : rx_H} {z : Int64} (hC : rx_CC l G D (C_X0_within F) z) : ∀ (f : Nat) (x0 : Int32) (x1 : Int64) (x3 : Int32), f_X0_within_4 F f x0 x1 x3 = some z → rx_S l G ("SetHouse$Heap", prog_2_method_8_code, 4, false, false, D) hf hf rx_rJ z 4 [some (.int x0), some (.long x1), none, some (.int x3)] [] none := by
  intro f
  induction f with
  | zero =>
    intro x0 x1 x3 h
    cases h
  | succ f ih =>
    intro x0 x1 x3 h
    rw [g_X0_within_4] at h
    refine rx_S_node (md := ("SetHouse$Heap", prog_2_method_8_code, 4, false, false, D)) tk_X0_within hC rx_m_rJ (fun t ls st u h => ?_) h
    unfold kk_X0_within_4 at h
    rcases rx_rec_eq h with ⟨hb, h⟩ | ⟨hb, h⟩
    · have ht := Nat.eq_of_beq_eq_true hb
      subst ht
      unfold n_X0_within_4 at h
      split at h
      · exact (ih _ _ _ h).le ⟨Or.inr rfl, Or.inr rfl, Or.inl rfl, Or.inr rfl, trivial⟩
      · cases h
    cases h
theorem s_X0_within_0 {F : Nat × Nat} {l : Launch} {G : rx_G} {D : Nat} {hf : rx_H} {z : Int64} (hC : rx_CC l G D (C_X0_within F) z) (x0 : Int32) (h : f_X0_within_0 F x0 = some z) : rx_S l G ("SetHouse$Heap", prog_2_method_8_code, 4, false, false, D) hf hf rx_rJ z 0 [some (.int x0), none, none, none] [] none := by
  rw [g_X0_within_0] at h
  refine rx_S_node (md := ("SetHouse$Heap", prog_2_method_8_code, 4, false, false, D)) tk_X0_within hC rx_m_rJ (fun t ls st u h => ?_) h
  unfold kk_X0_within_0 at h
  rcases rx_rec_eq h with ⟨hb, h⟩ | ⟨hb, h⟩
  · have ht := Nat.eq_of_beq_eq_true hb
    subst ht
    unfold n_X0_within_4 at h
    split at h
    · exact (s_X0_within_4 hC _ _ _ _ h).le ⟨Or.inr rfl, Or.inr rfl, Or.inl rfl, Or.inr rfl, trivial⟩
    · cases h
  cases h
theorem cc_X0_within (F : Nat × Nat) (l : Launch) (G : rx_G) {α : Type} (z : α) : rx_CC l G (0 + 0 * F.2) (C_X0_within F) z := by
  intro j as u κ h
  unfold C_X0_within at h
  cases h
theorem m_X0_within (F : Nat × Nat) (l : Launch) (G : rx_G) (hf : rx_H) (x0 : Int32) {z : Int64} (h : f_X0_within F x0 = some z) : rx_Ok l G (1 + 0 * F.2) (rx_ny 30) (.code (rx_ny 30) prog_2_method_8_code 4 (some .long)) [.int x0] hf (some (.long z)) hf := by
  have h := h
  unfold f_X0_within at h
  exact (rx_met (l := l) (G := G) (hf := hf) (as := [.int x0]) (r := (some (.long z))) (ls0 := [some (.int x0), none, none, none]) (y := rx_ny 30) (D := (0 + 0 * F.2)) (ini := false) (bo := false) (u := none) (u' := none) (by decide +kernel) (fun h => by cases h) (Nat.le_of_ble_eq_true rfl) (Or.inr (Or.inr (Or.inl ⟨rfl, _, rfl⟩))) (fun Z hZ hB => rx_RT_rJ hZ hB) (by exact ⟨Or.inr rfl, Or.inl rfl, Or.inl rfl, Or.inl rfl, trivial⟩) (s_X0_within_0 (cc_X0_within F l G z) x0 h)).deep (by omega)
theorem w_X0_within (F : Nat × Nat) (l : Launch) (G : rx_G) {α : Type} {z : α} {as : List Value} {u : Option rx_H} {κ : rx_K α} (h : c_X0_within F as u κ = some z) : rx_Cw l G (1 + 0 * F.2) 30 as u κ z := by
  unfold c_X0_within at h
  split at h
  · obtain ⟨r, hr, h⟩ := Option.bind_eq_some_iff.mp h
    exact ⟨_, _, _, _, h, k_X0_within, fun _ => rfl, fun h => absurd rfl h, fun hf => m_X0_within F l G _ _ hr⟩
  · cases h
end
