section
-- ===== PART A: goes FIRST, ahead of the names: the tables' words, and 'selects' of the private methods out of them =====
/-- a private method of a class that the tables say can be made, by its rows of tables_1 -/
def lw_okq (q : MethodName × Nat) : Prop := (q.1.cls ≠ "java/lang/invoke/MethodHandle" ∧ q.1.cls ≠ "java/lang/invoke/VarHandle") ∧ Cond.instantiable q.1.cls q.2 ∈ tables_1 ∧ Cond.privateMethod q.1 ∈ tables_1 ∧ Cond.instanceMethod q.1 ∈ tables_1
theorem lw_p0 : lw_okq (⟨"SetHouse", "isPlace", "(I)Z"⟩, 6) := ⟨⟨by decide +kernel, by decide +kernel⟩, List.mem_of_getElem? (i := 19) (by decide +kernel), List.mem_of_getElem? (i := 119) (by decide +kernel), List.mem_of_getElem? (i := 120) (by decide +kernel)⟩
theorem lw_p1 : lw_okq (⟨"SetHouse", "isKind", "(II)Z"⟩, 6) := ⟨⟨by decide +kernel, by decide +kernel⟩, List.mem_of_getElem? (i := 19) (by decide +kernel), List.mem_of_getElem? (i := 123) (by decide +kernel), List.mem_of_getElem? (i := 124) (by decide +kernel)⟩
theorem lw_p2 : lw_okq (⟨"SetHouse", "isSize", "(I)Z"⟩, 6) := ⟨⟨by decide +kernel, by decide +kernel⟩, List.mem_of_getElem? (i := 19) (by decide +kernel), List.mem_of_getElem? (i := 130) (by decide +kernel), List.mem_of_getElem? (i := 131) (by decide +kernel)⟩
theorem lw_p3 : lw_okq (⟨"SetHouse", "keep", "(IIIJ)I"⟩, 6) := ⟨⟨by decide +kernel, by decide +kernel⟩, List.mem_of_getElem? (i := 19) (by decide +kernel), List.mem_of_getElem? (i := 134) (by decide +kernel), List.mem_of_getElem? (i := 135) (by decide +kernel)⟩
theorem lw_p4 : lw_okq (⟨"SetHouse", "familyRefusal", "(IZ)I"⟩, 6) := ⟨⟨by decide +kernel, by decide +kernel⟩, List.mem_of_getElem? (i := 19) (by decide +kernel), List.mem_of_getElem? (i := 155) (by decide +kernel), List.mem_of_getElem? (i := 156) (by decide +kernel)⟩
theorem lw_p5 : lw_okq (⟨"SetHouse", "isSet", "(I)Z"⟩, 6) := ⟨⟨by decide +kernel, by decide +kernel⟩, List.mem_of_getElem? (i := 19) (by decide +kernel), List.mem_of_getElem? (i := 167) (by decide +kernel), List.mem_of_getElem? (i := 168) (by decide +kernel)⟩
theorem lw_p6 : lw_okq (⟨"SetHouse", "comes", "(LSetHouse$Place;I)Z"⟩, 6) := ⟨⟨by decide +kernel, by decide +kernel⟩, List.mem_of_getElem? (i := 19) (by decide +kernel), List.mem_of_getElem? (i := 171) (by decide +kernel), List.mem_of_getElem? (i := 172) (by decide +kernel)⟩
theorem lw_p7 : lw_okq (⟨"SetHouse", "keepBeside", "(IIJI)I"⟩, 6) := ⟨⟨by decide +kernel, by decide +kernel⟩, List.mem_of_getElem? (i := 19) (by decide +kernel), List.mem_of_getElem? (i := 282) (by decide +kernel), List.mem_of_getElem? (i := 283) (by decide +kernel)⟩
theorem lw_p8 : lw_okq (⟨"SetHouse", "familiesRefusal", "(IIZ)I"⟩, 6) := ⟨⟨by decide +kernel, by decide +kernel⟩, List.mem_of_getElem? (i := 19) (by decide +kernel), List.mem_of_getElem? (i := 314) (by decide +kernel), List.mem_of_getElem? (i := 315) (by decide +kernel)⟩
theorem lw_p9 : lw_okq (⟨"SetHouse", "isThing", "(I)Z"⟩, 6) := ⟨⟨by decide +kernel, by decide +kernel⟩, List.mem_of_getElem? (i := 19) (by decide +kernel), List.mem_of_getElem? (i := 364) (by decide +kernel), List.mem_of_getElem? (i := 365) (by decide +kernel)⟩
theorem lw_p10 : lw_okq (⟨"SetHouse$Seeker", "opens", "(JIIIII)Z"⟩, 5) := ⟨⟨by decide +kernel, by decide +kernel⟩, List.mem_of_getElem? (i := 73) (by decide +kernel), List.mem_of_getElem? (i := 460) (by decide +kernel), List.mem_of_getElem? (i := 461) (by decide +kernel)⟩
theorem lw_p11 : lw_okq (⟨"SetHouse$Seeker", "keepPetals", "(I)V"⟩, 5) := ⟨⟨by decide +kernel, by decide +kernel⟩, List.mem_of_getElem? (i := 73) (by decide +kernel), List.mem_of_getElem? (i := 471) (by decide +kernel), List.mem_of_getElem? (i := 472) (by decide +kernel)⟩
theorem lw_p12 : lw_okq (⟨"SetHouse", "rowRefusal", "(I)I"⟩, 6) := ⟨⟨by decide +kernel, by decide +kernel⟩, List.mem_of_getElem? (i := 19) (by decide +kernel), List.mem_of_getElem? (i := 566) (by decide +kernel), List.mem_of_getElem? (i := 567) (by decide +kernel)⟩
theorem lw_p13 : lw_okq (⟨"java/lang/Throwable", "fillInStackTrace", "(I)Ljava/lang/Throwable;"⟩, 6) := ⟨⟨by decide +kernel, by decide +kernel⟩, List.mem_of_getElem? (i := 639) (by decide +kernel), List.mem_of_getElem? (i := 637) (by decide +kernel), List.mem_of_getElem? (i := 638) (by decide +kernel)⟩
theorem lw_p14 : lw_okq (⟨"SetHouseModel", "isKind", "(II)Z"⟩, 15) := ⟨⟨by decide +kernel, by decide +kernel⟩, List.mem_of_getElem? (i := 704) (by decide +kernel), List.mem_of_getElem? (i := 766) (by decide +kernel), List.mem_of_getElem? (i := 767) (by decide +kernel)⟩
theorem lw_p15 : lw_okq (⟨"SetHouseModel", "holdsNow", "(IIIJ)I"⟩, 15) := ⟨⟨by decide +kernel, by decide +kernel⟩, List.mem_of_getElem? (i := 704) (by decide +kernel), List.mem_of_getElem? (i := 770) (by decide +kernel), List.mem_of_getElem? (i := 771) (by decide +kernel)⟩
def lw_privs_1 : List (MethodName × Nat) := [(⟨"SetHouse", "isPlace", "(I)Z"⟩, 6), (⟨"SetHouse", "isKind", "(II)Z"⟩, 6), (⟨"SetHouse", "isSize", "(I)Z"⟩, 6), (⟨"SetHouse", "keep", "(IIIJ)I"⟩, 6), (⟨"SetHouse", "familyRefusal", "(IZ)I"⟩, 6), (⟨"SetHouse", "isSet", "(I)Z"⟩, 6), (⟨"SetHouse", "comes", "(LSetHouse$Place;I)Z"⟩, 6), (⟨"SetHouse", "keepBeside", "(IIJI)I"⟩, 6), (⟨"SetHouse", "familiesRefusal", "(IIZ)I"⟩, 6), (⟨"SetHouse", "isThing", "(I)Z"⟩, 6), (⟨"SetHouse$Seeker", "opens", "(JIIIII)Z"⟩, 5), (⟨"SetHouse$Seeker", "keepPetals", "(I)V"⟩, 5), (⟨"SetHouse", "rowRefusal", "(I)I"⟩, 6), (⟨"java/lang/Throwable", "fillInStackTrace", "(I)Ljava/lang/Throwable;"⟩, 6), (⟨"SetHouseModel", "isKind", "(II)Z"⟩, 15), (⟨"SetHouseModel", "holdsNow", "(IIIJ)I"⟩, 15)]
theorem lw_r1 : ∀ q ∈ lw_privs_1, lw_okq q := List.forall_mem_cons.mpr ⟨lw_p0, List.forall_mem_cons.mpr ⟨lw_p1, List.forall_mem_cons.mpr ⟨lw_p2, List.forall_mem_cons.mpr ⟨lw_p3, List.forall_mem_cons.mpr ⟨lw_p4, List.forall_mem_cons.mpr ⟨lw_p5, List.forall_mem_cons.mpr ⟨lw_p6, List.forall_mem_cons.mpr ⟨lw_p7, List.forall_mem_cons.mpr ⟨lw_p8, List.forall_mem_cons.mpr ⟨lw_p9, List.forall_mem_cons.mpr ⟨lw_p10, List.forall_mem_cons.mpr ⟨lw_p11, List.forall_mem_cons.mpr ⟨lw_p12, List.forall_mem_cons.mpr ⟨lw_p13, List.forall_mem_cons.mpr ⟨lw_p14, List.forall_mem_cons.mpr ⟨lw_p15, fun _ h => absurd h List.not_mem_nil⟩⟩⟩⟩⟩⟩⟩⟩⟩⟩⟩⟩⟩⟩⟩⟩
theorem lw_p16 : lw_okq (⟨"SetHouseModel", "lacks", "(I)I"⟩, 15) := ⟨⟨by decide +kernel, by decide +kernel⟩, List.mem_of_getElem? (i := 704) (by decide +kernel), List.mem_of_getElem? (i := 781) (by decide +kernel), List.mem_of_getElem? (i := 782) (by decide +kernel)⟩
theorem lw_p17 : lw_okq (⟨"SetHouseModel", "isSet", "(I)Z"⟩, 15) := ⟨⟨by decide +kernel, by decide +kernel⟩, List.mem_of_getElem? (i := 704) (by decide +kernel), List.mem_of_getElem? (i := 789) (by decide +kernel), List.mem_of_getElem? (i := 790) (by decide +kernel)⟩
theorem lw_p18 : lw_okq (⟨"SetHouseModel", "adds", "(II)I"⟩, 15) := ⟨⟨by decide +kernel, by decide +kernel⟩, List.mem_of_getElem? (i := 704) (by decide +kernel), List.mem_of_getElem? (i := 793) (by decide +kernel), List.mem_of_getElem? (i := 794) (by decide +kernel)⟩
theorem lw_p19 : lw_okq (⟨"SetHouseModel", "hinders", "(II)I"⟩, 15) := ⟨⟨by decide +kernel, by decide +kernel⟩, List.mem_of_getElem? (i := 704) (by decide +kernel), List.mem_of_getElem? (i := 797) (by decide +kernel), List.mem_of_getElem? (i := 798) (by decide +kernel)⟩
theorem lw_p20 : lw_okq (⟨"SetHouseModel", "sized", "(JI)I"⟩, 15) := ⟨⟨by decide +kernel, by decide +kernel⟩, List.mem_of_getElem? (i := 704) (by decide +kernel), List.mem_of_getElem? (i := 834) (by decide +kernel), List.mem_of_getElem? (i := 835) (by decide +kernel)⟩
theorem lw_p21 : lw_okq (⟨"SetHouseModel", "goes", "(JIIII)Z"⟩, 15) := ⟨⟨by decide +kernel, by decide +kernel⟩, List.mem_of_getElem? (i := 704) (by decide +kernel), List.mem_of_getElem? (i := 850) (by decide +kernel), List.mem_of_getElem? (i := 851) (by decide +kernel)⟩
theorem lw_p22 : lw_okq (⟨"SetHouseModel", "shadows", "(IIZ)I"⟩, 15) := ⟨⟨by decide +kernel, by decide +kernel⟩, List.mem_of_getElem? (i := 704) (by decide +kernel), List.mem_of_getElem? (i := 858) (by decide +kernel), List.mem_of_getElem? (i := 859) (by decide +kernel)⟩
theorem lw_p23 : lw_okq (⟨"SetHouseModel", "shadowOf", "(JZ)J"⟩, 15) := ⟨⟨by decide +kernel, by decide +kernel⟩, List.mem_of_getElem? (i := 704) (by decide +kernel), List.mem_of_getElem? (i := 862) (by decide +kernel), List.mem_of_getElem? (i := 863) (by decide +kernel)⟩
theorem lw_p24 : lw_okq (⟨"SetHouseModel", "each", "(JJZ)J"⟩, 15) := ⟨⟨by decide +kernel, by decide +kernel⟩, List.mem_of_getElem? (i := 704) (by decide +kernel), List.mem_of_getElem? (i := 885) (by decide +kernel), List.mem_of_getElem? (i := 886) (by decide +kernel)⟩
theorem lw_p25 : lw_okq (⟨"SetHouseModel", "traceOf", "(JI)J"⟩, 15) := ⟨⟨by decide +kernel, by decide +kernel⟩, List.mem_of_getElem? (i := 704) (by decide +kernel), List.mem_of_getElem? (i := 897) (by decide +kernel), List.mem_of_getElem? (i := 898) (by decide +kernel)⟩
theorem lw_p26 : lw_okq (⟨"SetHouseModel", "isTurn", "(I)Z"⟩, 15) := ⟨⟨by decide +kernel, by decide +kernel⟩, List.mem_of_getElem? (i := 704) (by decide +kernel), List.mem_of_getElem? (i := 905) (by decide +kernel), List.mem_of_getElem? (i := 906) (by decide +kernel)⟩
theorem lw_p27 : lw_okq (⟨"SetHouseModel", "turnedAll", "(J)J"⟩, 15) := ⟨⟨by decide +kernel, by decide +kernel⟩, List.mem_of_getElem? (i := 704) (by decide +kernel), List.mem_of_getElem? (i := 909) (by decide +kernel), List.mem_of_getElem? (i := 910) (by decide +kernel)⟩
theorem lw_p28 : lw_okq (⟨"SetHouseModel", "turnedSet", "(I)I"⟩, 15) := ⟨⟨by decide +kernel, by decide +kernel⟩, List.mem_of_getElem? (i := 704) (by decide +kernel), List.mem_of_getElem? (i := 913) (by decide +kernel), List.mem_of_getElem? (i := 914) (by decide +kernel)⟩
theorem lw_p29 : lw_okq (⟨"SetHouseModel", "firstTurn", "()V"⟩, 15) := ⟨⟨by decide +kernel, by decide +kernel⟩, List.mem_of_getElem? (i := 704) (by decide +kernel), List.mem_of_getElem? (i := 921) (by decide +kernel), List.mem_of_getElem? (i := 922) (by decide +kernel)⟩
theorem lw_p30 : lw_okq (⟨"SetHouseModel", "number", "()I"⟩, 15) := ⟨⟨by decide +kernel, by decide +kernel⟩, List.mem_of_getElem? (i := 704) (by decide +kernel), List.mem_of_getElem? (i := 925) (by decide +kernel), List.mem_of_getElem? (i := 926) (by decide +kernel)⟩
theorem lw_p31 : lw_okq (⟨"SetHouseModel", "nextTurn", "()Z"⟩, 15) := ⟨⟨by decide +kernel, by decide +kernel⟩, List.mem_of_getElem? (i := 704) (by decide +kernel), List.mem_of_getElem? (i := 929) (by decide +kernel), List.mem_of_getElem? (i := 930) (by decide +kernel)⟩
def lw_privs_2 : List (MethodName × Nat) := [(⟨"SetHouseModel", "lacks", "(I)I"⟩, 15), (⟨"SetHouseModel", "isSet", "(I)Z"⟩, 15), (⟨"SetHouseModel", "adds", "(II)I"⟩, 15), (⟨"SetHouseModel", "hinders", "(II)I"⟩, 15), (⟨"SetHouseModel", "sized", "(JI)I"⟩, 15), (⟨"SetHouseModel", "goes", "(JIIII)Z"⟩, 15), (⟨"SetHouseModel", "shadows", "(IIZ)I"⟩, 15), (⟨"SetHouseModel", "shadowOf", "(JZ)J"⟩, 15), (⟨"SetHouseModel", "each", "(JJZ)J"⟩, 15), (⟨"SetHouseModel", "traceOf", "(JI)J"⟩, 15), (⟨"SetHouseModel", "isTurn", "(I)Z"⟩, 15), (⟨"SetHouseModel", "turnedAll", "(J)J"⟩, 15), (⟨"SetHouseModel", "turnedSet", "(I)I"⟩, 15), (⟨"SetHouseModel", "firstTurn", "()V"⟩, 15), (⟨"SetHouseModel", "number", "()I"⟩, 15), (⟨"SetHouseModel", "nextTurn", "()Z"⟩, 15)]
theorem lw_r2 : ∀ q ∈ lw_privs_2, lw_okq q := List.forall_mem_cons.mpr ⟨lw_p16, List.forall_mem_cons.mpr ⟨lw_p17, List.forall_mem_cons.mpr ⟨lw_p18, List.forall_mem_cons.mpr ⟨lw_p19, List.forall_mem_cons.mpr ⟨lw_p20, List.forall_mem_cons.mpr ⟨lw_p21, List.forall_mem_cons.mpr ⟨lw_p22, List.forall_mem_cons.mpr ⟨lw_p23, List.forall_mem_cons.mpr ⟨lw_p24, List.forall_mem_cons.mpr ⟨lw_p25, List.forall_mem_cons.mpr ⟨lw_p26, List.forall_mem_cons.mpr ⟨lw_p27, List.forall_mem_cons.mpr ⟨lw_p28, List.forall_mem_cons.mpr ⟨lw_p29, List.forall_mem_cons.mpr ⟨lw_p30, List.forall_mem_cons.mpr ⟨lw_p31, fun _ h => absurd h List.not_mem_nil⟩⟩⟩⟩⟩⟩⟩⟩⟩⟩⟩⟩⟩⟩⟩⟩
theorem lw_p32 : lw_okq (⟨"SetHouseModel", "swap", "(II)V"⟩, 15) := ⟨⟨by decide +kernel, by decide +kernel⟩, List.mem_of_getElem? (i := 704) (by decide +kernel), List.mem_of_getElem? (i := 933) (by decide +kernel), List.mem_of_getElem? (i := 934) (by decide +kernel)⟩
theorem lw_p33 : lw_okq (⟨"SetHouseModel", "pushes", "(III)I"⟩, 15) := ⟨⟨by decide +kernel, by decide +kernel⟩, List.mem_of_getElem? (i := 704) (by decide +kernel), List.mem_of_getElem? (i := 945) (by decide +kernel), List.mem_of_getElem? (i := 946) (by decide +kernel)⟩
theorem lw_p34 : lw_okq (⟨"SetHouseModel", "staysLayer", "(I)V"⟩, 15) := ⟨⟨by decide +kernel, by decide +kernel⟩, List.mem_of_getElem? (i := 704) (by decide +kernel), List.mem_of_getElem? (i := 949) (by decide +kernel), List.mem_of_getElem? (i := 950) (by decide +kernel)⟩
theorem lw_p35 : lw_okq (⟨"SetHouseModel", "chainFirst", "(I)I"⟩, 15) := ⟨⟨by decide +kernel, by decide +kernel⟩, List.mem_of_getElem? (i := 704) (by decide +kernel), List.mem_of_getElem? (i := 998) (by decide +kernel), List.mem_of_getElem? (i := 999) (by decide +kernel)⟩
theorem lw_p36 : lw_okq (⟨"SetHouseModel", "blooms", "(JIII)Z"⟩, 15) := ⟨⟨by decide +kernel, by decide +kernel⟩, List.mem_of_getElem? (i := 704) (by decide +kernel), List.mem_of_getElem? (i := 1025) (by decide +kernel), List.mem_of_getElem? (i := 1026) (by decide +kernel)⟩
theorem lw_p37 : lw_okq (⟨"SetHouseModel", "looseFrom", "(JII)I"⟩, 15) := ⟨⟨by decide +kernel, by decide +kernel⟩, List.mem_of_getElem? (i := 704) (by decide +kernel), List.mem_of_getElem? (i := 1041) (by decide +kernel), List.mem_of_getElem? (i := 1042) (by decide +kernel)⟩
theorem lw_p38 : lw_okq (⟨"SetHouseModel", "isShattered", "(JI)Z"⟩, 15) := ⟨⟨by decide +kernel, by decide +kernel⟩, List.mem_of_getElem? (i := 704) (by decide +kernel), List.mem_of_getElem? (i := 1049) (by decide +kernel), List.mem_of_getElem? (i := 1050) (by decide +kernel)⟩
theorem lw_p39 : lw_okq (⟨"SetHouseModel", "mostOf", "(JII)I"⟩, 15) := ⟨⟨by decide +kernel, by decide +kernel⟩, List.mem_of_getElem? (i := 704) (by decide +kernel), List.mem_of_getElem? (i := 1057) (by decide +kernel), List.mem_of_getElem? (i := 1058) (by decide +kernel)⟩
def lw_privs_3 : List (MethodName × Nat) := [(⟨"SetHouseModel", "swap", "(II)V"⟩, 15), (⟨"SetHouseModel", "pushes", "(III)I"⟩, 15), (⟨"SetHouseModel", "staysLayer", "(I)V"⟩, 15), (⟨"SetHouseModel", "chainFirst", "(I)I"⟩, 15), (⟨"SetHouseModel", "blooms", "(JIII)Z"⟩, 15), (⟨"SetHouseModel", "looseFrom", "(JII)I"⟩, 15), (⟨"SetHouseModel", "isShattered", "(JI)Z"⟩, 15), (⟨"SetHouseModel", "mostOf", "(JII)I"⟩, 15)]
theorem lw_r3 : ∀ q ∈ lw_privs_3, lw_okq q := List.forall_mem_cons.mpr ⟨lw_p32, List.forall_mem_cons.mpr ⟨lw_p33, List.forall_mem_cons.mpr ⟨lw_p34, List.forall_mem_cons.mpr ⟨lw_p35, List.forall_mem_cons.mpr ⟨lw_p36, List.forall_mem_cons.mpr ⟨lw_p37, List.forall_mem_cons.mpr ⟨lw_p38, List.forall_mem_cons.mpr ⟨lw_p39, fun _ h => absurd h List.not_mem_nil⟩⟩⟩⟩⟩⟩⟩⟩
def lw_privs : List (MethodName × Nat) := lw_privs_1 ++ (lw_privs_2 ++ (lw_privs_3))
def lw_tbl : List Cond := k2_sels lw_privs ++ tables_1
theorem lw_privs_ok : ∀ q ∈ lw_privs, lw_okq q := by
  show ∀ q ∈ lw_privs_1 ++ (lw_privs_2 ++ (lw_privs_3)), lw_okq q
  exact List.forall_mem_append.mpr ⟨lw_r1, List.forall_mem_append.mpr ⟨lw_r2, lw_r3⟩⟩
end
section
/-! A small machine over pictures of the heap, run by reduction. Its steps are proved to be the machine's own in the next part. -/
/-- a cell: an array (its size, what it holds), or an object (its class among rx_cl, its fields); references are places in the picture -/
abbrev rx_C : Type := vp_A ⊕ (Nat × List Value)
/-- the script (its length, its ints), and the cells -/
abbrev rx_H : Type := (Nat × (Nat → Int32)) × List rx_C
abbrev rx_L : Type := List (Option Value)
/-- an instruction: pc, itself, its length, two numbers, the place of its word, an int, a long, a switch's cases -/
abbrev rx_E : Type := Nat × Instr × Nat × Nat × Nat × Nat × Int32 × Int64 × List (Int32 × Nat)
/-- what a call is given to go on with -/
abbrev rx_K (α : Type) : Type := Option Value → Option rx_H → Option α
abbrev rx_Cl (α : Type) : Type := Nat → List Value → Option rx_H → rx_K α → Option α
def rx_W : List Int64 := [6148914691236517205, 3689348814741910323, 1085102592571150095, 71777214294589695, 281470681808895, 4294967295]
def rx_F : List Int32 := [1, 1, 2, 6, 24, 120, 720]
def rx_fd (u : Option rx_H) (r c k : Nat) : Option Value := match u with
  | none => none
  | some h => match h.2[r]? with
    | some (.inr (c', fs)) => if c' = c then fs[k]? else none
    | _ => none
def rx_gI (u : Option rx_H) (r c k : Nat) : Option Int32 := match rx_fd u r c k with
  | some (.int x) => some x
  | _ => none
def rx_gJ (u : Option rx_H) (r c k : Nat) : Option Int64 := match rx_fd u r c k with
  | some (.long x) => some x
  | _ => none
def rx_gR (u : Option rx_H) (r c k : Nat) : Option Nat := match rx_fd u r c k with
  | some (.ref x) => some x
  | _ => none
def rx_p (u : Option rx_H) (r c k : Nat) (v : Value) : Option (Option rx_H) := match u with
  | none => none
  | some h => match h.2[r]? with
    | some (.inr (c', fs)) => if c' = c ∧ k < fs.length then some (some (h.1, h.2.set r (.inr (c', fs.set k v)))) else none
    | _ => none
def rx_aI (u : Option rx_H) (r : Nat) (i : Int32) : Option Int32 :=
  if r = 1000002 then (if i < 0 then none else rx_F[i.toNatClampNeg]?)
  else match u with
    | none => none
    | some h => if r = 1000000 then (if i < 0 ∨ h.1.1 ≤ i.toNatClampNeg then none else some (h.1.2 i.toNatClampNeg))
      else match h.2[r]? with
        | some (.inl (n, .inl f)) => if i < 0 ∨ n ≤ i.toNatClampNeg then none else some (f i.toNatClampNeg)
        | _ => none
def rx_aJ (u : Option rx_H) (r : Nat) (i : Int32) : Option Int64 :=
  if r = 1000001 then (if i < 0 then none else rx_W[i.toNatClampNeg]?)
  else match u with
    | none => none
    | some h => match h.2[r]? with
      | some (.inl (n, .inr (.inl f))) => if i < 0 ∨ n ≤ i.toNatClampNeg then none else some (f i.toNatClampNeg)
      | _ => none
def rx_aR (u : Option rx_H) (r : Nat) (i : Int32) : Option Nat := match u with
  | none => none
  | some h => match h.2[r]? with
    | some (.inl (n, .inr (.inr (.inr (.inr f))))) => if i < 0 ∨ n ≤ i.toNatClampNeg then none else f i.toNatClampNeg
    | _ => none
def rx_sI (u : Option rx_H) (r : Nat) (i x : Int32) : Option (Option rx_H) := match u with
  | none => none
  | some h => match h.2[r]? with
    | some (.inl (n, .inl f)) => if i < 0 ∨ n ≤ i.toNatClampNeg then none else some (some (h.1, h.2.set r (.inl (n, .inl (upd f i.toNatClampNeg x)))))
    | _ => none
def rx_sJ (u : Option rx_H) (r : Nat) (i : Int32) (x : Int64) : Option (Option rx_H) := match u with
  | none => none
  | some h => match h.2[r]? with
    | some (.inl (n, .inr (.inl f))) => if i < 0 ∨ n ≤ i.toNatClampNeg then none else some (some (h.1, h.2.set r (.inl (n, .inr (.inl (vp_updL f i.toNatClampNeg x))))))
    | _ => none
/-- only objects of class 0 are put into arrays of references -/
def rx_sR (u : Option rx_H) (r : Nat) (i : Int32) (x : Nat) : Option (Option rx_H) := match u with
  | none => none
  | some h => match h.2[r]?, h.2[x]? with
    | some (.inl (n, .inr (.inr (.inr (.inr f))))), some (.inr (0, _)) => if i < 0 ∨ n ≤ i.toNatClampNeg then none else some (some (h.1, h.2.set r (.inl (n, .inr (.inr (.inr (.inr (va_up f i.toNatClampNeg (some x)))))))))
    | _, _ => none
/-- the script's length -/
def rx_len (u : Option rx_H) (r : Nat) : Option Int32 := match u with
  | none => none
  | some h => if r = 1000000 then some (Int32.ofNat h.1.1) else none
def rx_df (c : Nat) : List Value := match c with
  | 0 => [.int 0, .int 0, .long 0, .long 0, .int 0, .null]
  | 1 => [.null, .null, .int 0, .null, .null]
  | 2 => [.int 0, .int 0, .null, .null, .null, .int 0]
  | 3 => [.int 0, .int 0, .int 0, .null, .null, .null, .null, .null, .null, .int 0, .null, .null, .null, .int 0, .null]
  | _ => []
def rx_push (u : Option rx_H) (c : rx_C) : Option (Nat × Option rx_H) := match u with
  | none => none
  | some h => if h.2.length < 999999 then some (h.2.length, some (h.1, h.2 ++ [c])) else none
def rx_nI (u : Option rx_H) (n : Int32) : Option (Nat × Option rx_H) := if n < 0 ∨ 100000 < n.toNatClampNeg then none else rx_push u (.inl (n.toNatClampNeg, .inl (fun _ => 0)))
def rx_nJ (u : Option rx_H) (n : Int32) : Option (Nat × Option rx_H) := if n < 0 ∨ 100000 < n.toNatClampNeg then none else rx_push u (.inl (n.toNatClampNeg, .inr (.inl (fun _ => 0))))
def rx_nR (u : Option rx_H) (n : Int32) : Option (Nat × Option rx_H) := if n < 0 ∨ 100000 < n.toNatClampNeg then none else rx_push u (.inl (n.toNatClampNeg, .inr (.inr (.inr (.inr (fun _ => none))))))
def rx_nO (u : Option rx_H) (c : Nat) : Option (Nat × Option rx_H) := if c < 4 then rx_push u (.inr (c, rx_df c)) else none
/-- System.arraycopy of longs -/
def rx_cp (u : Option rx_H) (r0 : Nat) (sp : Int32) (r1 : Nat) (dp n : Int32) : Option (Option rx_H) := match u with
  | none => none
  | some h => match h.2[r0]?, h.2[r1]? with
    | some (.inl (n0, .inr (.inl f))), some (.inl (n1, .inr (.inl g))) =>
      if sp < 0 ∨ dp < 0 ∨ n < 0 ∨ n0 < sp.toNatClampNeg + n.toNatClampNeg ∨ n1 < dp.toNatClampNeg + n.toNatClampNeg then none
      else some (some (h.1, h.2.set r1 (.inl (n1, .inr (.inl (va_cpy f g sp.toNatClampNeg dp.toNatClampNeg n.toNatClampNeg))))))
    | _, _ => none
/-- an object of a class -/
def rx_ck (u : Option rx_H) (r c : Nat) : Option Unit := match u with
  | none => none
  | some h => match h.2[r]? with
    | some (.inr (c', _)) => if c' = c then some () else none
    | _ => none
/-! locals -/
def rx_lg (ls : rx_L) (i : Nat) : Option Value := match ls[i]? with
  | some (some v) => some v
  | _ => none
def rx_kill (ls : rx_L) (i : Nat) : rx_L := match i with
  | 0 => ls
  | j + 1 => match ls[j]? with
    | some (some (.long _)) => ls.set j none
    | some (some (.double _)) => ls.set j none
    | _ => ls
def rx_s1 (ls : rx_L) (i : Nat) (v : Value) : rx_L := (rx_kill ls i).set i (some v)
def rx_s2 (ls : rx_L) (i : Nat) (v : Value) : rx_L := ((rx_kill ls i).set i (some v)).set (i + 1) none
noncomputable def rx_suf (t : Nat) : List rx_E → List rx_E
  | [] => []
  | e :: es => Bool.rec (motive := fun _ => List rx_E) (rx_suf t es) (e :: es) (Nat.beq e.1 t)
/-- a switch -/
def rx_sw {α : Type} (k : Nat → Option α) (x : Int32) (d : Nat) : List (Int32 × Nat) → Option α
  | [] => k d
  | q :: qs => if x = q.1 then k q.2 else rx_sw k x d qs
def rx_cat (st : List Value) : Nat := match st with
  | [] => 0
  | .long _ :: st => rx_cat st + 2
  | .double _ :: st => rx_cat st + 2
  | _ :: st => rx_cat st + 1
/-- so many arguments off the stack -/
def rx_take : Nat → List Value → List Value → Option (List Value × List Value)
  | 0, st, acc => some (acc, st)
  | _ + 1, [], _ => none
  | n + 1, v :: st, acc => rx_take n st (v :: acc)
noncomputable def rx_call {α : Type} (C : rx_Cl α) (k : List Value → Option rx_H → Option α) (j n : Nat) (st : List Value) (u : Option rx_H) : Option α := match rx_take n st [] with
  | none => none
  | some (as, rest) => Bool.rec (motive := fun _ => Option α) none (C j as u (fun v u' => k (v.toList ++ rest) u')) (Nat.ble (rx_cat rest) 8)
def rx_if {α : Type} (cd : ClassFile.Cond) (x y : Int32) (kt kf : Option α) : Option α := match cd with
  | .eq => if x = y then kt else kf
  | .ne => if x = y then kf else kt
  | .lt => if x < y then kt else kf
  | .ge => if x < y then kf else kt
  | .gt => if y < x then kt else kf
  | .le => if y < x then kf else kt
def rx_ifJ {α : Type} (cd : ClassFile.Cond) (x y : Int64) (kt kf : Option α) : Option α := match cd with
  | .eq => if x = y then kt else kf
  | .ne => if x = y then kf else kt
  | .lt => if x < y then kt else kf
  | .ge => if x < y then kf else kt
  | .gt => if y < x then kt else kf
  | .le => if y < x then kf else kt
abbrev rx_Go (α : Type) : Type := List rx_E → rx_L → List Value → Option rx_H → Option α
/-- one instruction -/
noncomputable def rx_act {α : Type} (C : rx_Cl α) (ret : rx_K α) (all : List rx_E) (k : rx_Go α) (e : rx_E) (es : List rx_E) (ls : rx_L) (st : List Value) (u : Option rx_H) : Option α := match e with
  | (_, ins, _, a, b, _, vi, vl, sw) => match ins with
    | .iconst _ => k es ls (.int vi :: st) u
    | .bipush _ => k es ls (.int vi :: st) u
    | .sipush _ => k es ls (.int vi :: st) u
    | .ldc _ => k es ls (.int vi :: st) u
    | .ldc_w _ => k es ls (.int vi :: st) u
    | .lconst _ => k es ls (.long vl :: st) u
    | .ldc2_w _ => k es ls (.long vl :: st) u
    | .iload i => match rx_lg ls i with
      | some (.int x) => k es ls (.int x :: st) u
      | _ => none
    | .iload_n i => match rx_lg ls i.val with
      | some (.int x) => k es ls (.int x :: st) u
      | _ => none
    | .lload i => match rx_lg ls i with
      | some (.long x) => k es ls (.long x :: st) u
      | _ => none
    | .lload_n i => match rx_lg ls i.val with
      | some (.long x) => k es ls (.long x :: st) u
      | _ => none
    | .aload i => match rx_lg ls i with
      | some (.ref x) => k es ls (.ref x :: st) u
      | _ => none
    | .aload_n i => match rx_lg ls i.val with
      | some (.ref x) => k es ls (.ref x :: st) u
      | _ => none
    | .istore i => match st with
      | .int x :: st => k es (rx_s1 ls i (.int x)) st u
      | _ => none
    | .istore_n i => match st with
      | .int x :: st => k es (rx_s1 ls i.val (.int x)) st u
      | _ => none
    | .lstore i => match st with
      | .long x :: st => k es (rx_s2 ls i (.long x)) st u
      | _ => none
    | .lstore_n i => match st with
      | .long x :: st => k es (rx_s2 ls i.val (.long x)) st u
      | _ => none
    | .astore i => match st with
      | .ref x :: st => k es (rx_s1 ls i (.ref x)) st u
      | _ => none
    | .astore_n i => match st with
      | .ref x :: st => k es (rx_s1 ls i.val (.ref x)) st u
      | _ => none
    | .iinc i _ => match rx_lg ls i with
      | some (.int x) => k es (rx_s1 ls i (.int (x + vi))) st u
      | _ => none
    | .iadd => match st with
      | .int y :: .int x :: st => k es ls (.int (x + y) :: st) u
      | _ => none
    | .isub => match st with
      | .int y :: .int x :: st => k es ls (.int (x - y) :: st) u
      | _ => none
    | .imul => match st with
      | .int y :: .int x :: st => k es ls (.int (x * y) :: st) u
      | _ => none
    | .iand => match st with
      | .int y :: .int x :: st => k es ls (.int (x &&& y) :: st) u
      | _ => none
    | .ior => match st with
      | .int y :: .int x :: st => k es ls (.int (x ||| y) :: st) u
      | _ => none
    | .ixor => match st with
      | .int y :: .int x :: st => k es ls (.int (x ^^^ y) :: st) u
      | _ => none
    | .ishl => match st with
      | .int y :: .int x :: st => k es ls (.int (x <<< (y &&& 31)) :: st) u
      | _ => none
    | .ishr => match st with
      | .int y :: .int x :: st => k es ls (.int (x >>> (y &&& 31)) :: st) u
      | _ => none
    | .iushr => match st with
      | .int y :: .int x :: st => k es ls (.int ((x.toUInt32 >>> (y.toUInt32 &&& Int32.toUInt32 31)).toInt32) :: st) u
      | _ => none
    | .ineg => match st with
      | .int x :: st => k es ls (.int (-x) :: st) u
      | _ => none
    | .idiv => match st with
      | .int y :: .int x :: st => (match b with
        | 1 => Bool.rec (motive := fun _ => Option α) (k es ls (.int (x / y) :: st) u) none (decide (y = 0))
        | _ => if y = 0 then none else k es ls (.int (x / y) :: st) u)
      | _ => none
    | .irem => match st with
      | .int y :: .int x :: st => (match b with
        | 1 => Bool.rec (motive := fun _ => Option α) (k es ls (.int (x - x / y * y) :: st) u) none (decide (y = 0))
        | _ => if y = 0 then none else k es ls (.int (x - x / y * y) :: st) u)
      | _ => none
    | .ladd => match st with
      | .long y :: .long x :: st => k es ls (.long (x + y) :: st) u
      | _ => none
    | .lsub => match st with
      | .long y :: .long x :: st => k es ls (.long (x - y) :: st) u
      | _ => none
    | .lmul => match st with
      | .long y :: .long x :: st => k es ls (.long (x * y) :: st) u
      | _ => none
    | .land => match st with
      | .long y :: .long x :: st => k es ls (.long (x &&& y) :: st) u
      | _ => none
    | .lor => match st with
      | .long y :: .long x :: st => k es ls (.long (x ||| y) :: st) u
      | _ => none
    | .lxor => match st with
      | .long y :: .long x :: st => k es ls (.long (x ^^^ y) :: st) u
      | _ => none
    | .ldiv => match st with
      | .long y :: .long x :: st => if y = 0 then none else k es ls (.long (x / y) :: st) u
      | _ => none
    | .lneg => match st with
      | .long x :: st => k es ls (.long (-x) :: st) u
      | _ => none
    | .lshl => match st with
      | .int y :: .long x :: st => k es ls (.long (x <<< (y.toInt64 &&& 63)) :: st) u
      | _ => none
    | .lushr => match st with
      | .int y :: .long x :: st => k es ls (.long ((x.toUInt64 >>> (y.toInt64.toUInt64 &&& Int64.toUInt64 63)).toInt64) :: st) u
      | _ => none
    | .i2l => match st with
      | .int x :: st => k es ls (.long x.toInt64 :: st) u
      | _ => none
    | .l2i => match st with
      | .long x :: st => k es ls (.int x.toInt32 :: st) u
      | _ => none
    | .i2b => match st with
      | .int x :: st => k es ls (.int x.toInt8.toInt32 :: st) u
      | _ => none
    | .dup => match st with
      | .int x :: st => k es ls (.int x :: .int x :: st) u
      | .ref x :: st => k es ls (.ref x :: .ref x :: st) u
      | _ => none
    | .dup2 => match st with
      | .int x :: .ref y :: st => k es ls (.int x :: .ref y :: .int x :: .ref y :: st) u
      | .int x :: .int y :: st => k es ls (.int x :: .int y :: .int x :: .int y :: st) u
      | _ => none
    | .pop => match st with
      | .int _ :: st => k es ls st u
      | .ref _ :: st => k es ls st u
      | _ => none
    | .goto _ => k (rx_suf a all) ls st u
    | .ifCond cd _ => match st with
      | .int x :: st => rx_if cd x 0 (k (rx_suf a all) ls st u) (k es ls st u)
      | _ => none
    | .if_icmp cd _ => match st with
      | .int y :: .int x :: st => rx_if cd x y (k (rx_suf a all) ls st u) (k es ls st u)
      | _ => none
    | .lcmp => match st, es with
      | .long y :: .long x :: st, (_, .ifCond cd _, _, a2, _, _, _, _, _) :: es2 => rx_ifJ cd x y (k (rx_suf a2 all) ls st u) (k es2 ls st u)
      | _, _ => none
    | .tableswitch _ _ _ _ => match st with
      | .int x :: st => rx_sw (fun t => k (rx_suf t all) ls st u) x a sw
      | _ => none
    | .getfield _ => match st with
      | .ref r :: st => (match b % 4 with
        | 0 => (rx_gI u r a (b / 4)).bind fun x => k es ls (.int x :: st) u
        | 1 => (rx_gJ u r a (b / 4)).bind fun x => k es ls (.long x :: st) u
        | 2 => (rx_gR u r a (b / 4)).bind fun x => k es ls (.ref x :: st) u
        | _ => none)
      | _ => none
    | .putfield _ => match st with
      | .int x :: .ref r :: st => Bool.rec (motive := fun _ => Option α) none ((rx_p u r a (b / 4) (.int x)).bind fun u => k es ls st u) (Nat.beq (b % 4) 0)
      | .long x :: .ref r :: st => Bool.rec (motive := fun _ => Option α) none ((rx_p u r a (b / 4) (.long x)).bind fun u => k es ls st u) (Nat.beq (b % 4) 1)
      | .ref x :: .ref r :: st => Bool.rec (motive := fun _ => Option α) none ((rx_p u r a (b / 4) (.ref x)).bind fun u => k es ls st u) (Nat.beq (b % 4) 2)
      | _ => none
    | .getstatic _ => k es ls (.ref a :: st) u
    | .iaload => match st with
      | .int i :: .ref r :: st => (rx_aI u r i).bind fun x => k es ls (.int x :: st) u
      | _ => none
    | .laload => match st with
      | .int i :: .ref r :: st => (rx_aJ u r i).bind fun x => k es ls (.long x :: st) u
      | _ => none
    | .aaload => match st with
      | .int i :: .ref r :: st => (rx_aR u r i).bind fun x => k es ls (.ref x :: st) u
      | _ => none
    | .iastore => match st with
      | .int x :: .int i :: .ref r :: st => (rx_sI u r i x).bind fun u => k es ls st u
      | _ => none
    | .lastore => match st with
      | .long x :: .int i :: .ref r :: st => (rx_sJ u r i x).bind fun u => k es ls st u
      | _ => none
    | .aastore => match st with
      | .ref x :: .int i :: .ref r :: st => (rx_sR u r i x).bind fun u => k es ls st u
      | _ => none
    | .arraylength => match st with
      | .ref r :: st => (rx_len u r).bind fun x => k es ls (.int x :: st) u
      | _ => none
    | .newarray t => match st with
      | .int n :: st => (match t with
        | .int => (rx_nI u n).bind fun q => k es ls (.ref q.1 :: st) q.2
        | .long => (rx_nJ u n).bind fun q => k es ls (.ref q.1 :: st) q.2
        | _ => none)
      | _ => none
    | .anewarray _ => match st with
      | .int n :: st => (rx_nR u n).bind fun q => k es ls (.ref q.1 :: st) q.2
      | _ => none
    | .new _ => (rx_nO u a).bind fun q => k es ls (.ref q.1 :: st) q.2
    | .invokestatic _ => match b with
      | 1000 => (match st with
        | .int n :: .int dp :: .ref r1 :: .int sp :: .ref r0 :: st => Bool.rec (motive := fun _ => Option α) none ((rx_cp u r0 sp r1 dp n).bind fun u => k es ls st u) (Nat.ble (rx_cat st) 8)
        | _ => none)
      | _ => rx_call C (fun st u => k es ls st u) a b st u
    | .invokevirtual _ => match rx_take (b % 100) st [] with
      | some (.ref r :: as, rest) => Bool.rec (motive := fun _ => Option α) none ((rx_ck u r (b / 100)).bind fun _ => C a (.ref r :: as) u (fun v u' => k es ls (v.toList ++ rest) u')) (Nat.ble (rx_cat rest) 8)
      | _ => none
    | .invokespecial _ => match b with
      | 1000 => (match st with
        | .ref _ :: st => Bool.rec (motive := fun _ => Option α) none (k es ls st u) (Nat.ble (rx_cat st) 8)
        | _ => none)
      | _ => rx_call C (fun st u => k es ls st u) a b st u
    | .ireturn => match st with
      | [.int x] => (match b with
        | 1 => if x = 0 then ret (some (.int 0)) u else if x = 1 then ret (some (.int 1)) u else none
        | 2 => Bool.rec (motive := fun _ => Option α) (Bool.rec (motive := fun _ => Option α) none (ret (some (.int 1)) u) (decide (x = 1))) (ret (some (.int 0)) u) (decide (x = 0))
        | _ => ret (some (.int x)) u)
      | _ => none
    | .lreturn => match st with
      | [.long x] => ret (some (.long x)) u
      | _ => none
    | .return_ => match st with
      | [] => ret none u
      | _ => none
    | _ => none
/-- on to a place where it stops -/
noncomputable def rx_run {α : Type} (C : rx_Cl α) (ret : rx_K α) (all : List rx_E) (stop : List Nat) (kk : Nat → rx_L → List Value → Option rx_H → Option α) : Nat → rx_Go α
  | 0, _, _, _, _ => none
  | _ + 1, [], _, _, _ => none
  | n + 1, e :: es, ls, st, u => Bool.rec (motive := fun _ => Option α) (rx_act C ret all (rx_run C ret all stop kk n) e es ls st u) (kk e.1 ls st u) (stop.any (Nat.beq e.1))
/-- from a place, a step at least -/
noncomputable def rx_node {α : Type} (C : rx_Cl α) (ret : rx_K α) (all : List rx_E) (stop : List Nat) (kk : Nat → rx_L → List Value → Option rx_H → Option α) (n t : Nat) (ls : rx_L) (st : List Value) (u : Option rx_H) : Option α := match rx_suf t all with
  | [] => none
  | e :: es => rx_act C ret all (rx_run C ret all stop kk n) e es ls st u
/-- how a method answers: without the heap where it never looks at it -/
def rx_rI : rx_K Int32
  | some (.int x), none => some x
  | _, _ => none
def rx_rJ : rx_K Int64
  | some (.long x), none => some x
  | _, _ => none
def rx_hI : rx_K (Int32 × Option rx_H)
  | some (.int x), u => some (x, u)
  | _, _ => none
def rx_hJ : rx_K (Int64 × Option rx_H)
  | some (.long x), u => some (x, u)
  | _, _ => none
def rx_hV : rx_K (Option rx_H)
  | none, u => some u
  | _, _ => none
def rx_FU : Nat := 1000000
def rx_FD : Nat := 200
end
section
/-! The classes, their fields, the words that every method is given; the methods' names by number. -/
def rx_T0 : u_T := fun k => match k with
  | 0 => ("SetHouse$Place", "holds", "I", false)
  | 1 => ("SetHouse$Place", "least", "I", false)
  | 2 => ("SetHouse$Place", "sets", "J", false)
  | 3 => ("SetHouse$Place", "partner", "J", false)
  | 4 => ("SetHouse$Place", "length", "I", false)
  | _ => ("SetHouse$Place", "numbers", "[J", true)
def rx_y0 : Nat → FieldType := fun k => match k with
  | 0 => .int
  | 1 => .int
  | 2 => .long
  | 3 => .long
  | 4 => .int
  | _ => .array .long
def rx_T1 : u_T := fun k => match k with
  | 0 => ("SetHouse$Seeker", "petals", "[I", true)
  | 1 => ("SetHouse$Seeker", "tried", "[I", true)
  | 2 => ("SetHouse$Seeker", "petalCount", "I", false)
  | 3 => ("SetHouse$Seeker", "disjoint", "[I", true)
  | _ => ("SetHouse$Seeker", "meeting", "[J", true)
def rx_y1 : Nat → FieldType := fun k => match k with
  | 0 => .array .int
  | 1 => .array .int
  | 2 => .int
  | 3 => .array .int
  | _ => .array .long
def rx_T2 : u_T := fun k => match k with
  | 0 => ("SetHouse", "n", "I", true)
  | 1 => ("SetHouse", "all", "I", true)
  | 2 => ("SetHouse", "shelf", "[LSetHouse$Place;", true)
  | 3 => ("SetHouse", "layers", "[J", true)
  | 4 => ("SetHouse", "seeker", "LSetHouse$Seeker;", true)
  | _ => ("SetHouse", "latestClash", "I", false)
def rx_y2 : Nat → FieldType := fun k => match k with
  | 0 => .int
  | 1 => .int
  | 2 => .array (.object "SetHouse$Place")
  | 3 => .array .long
  | 4 => .object "SetHouse$Seeker"
  | _ => .int
def rx_T3 : u_T := fun k => match k with
  | 0 => ("SetHouseModel", "thrown", "I", false)
  | 1 => ("SetHouseModel", "n", "I", true)
  | 2 => ("SetHouseModel", "all", "I", true)
  | 3 => ("SetHouseModel", "kind", "[I", true)
  | 4 => ("SetHouseModel", "told", "[I", true)
  | 5 => ("SetHouseModel", "family", "[J", true)
  | 6 => ("SetHouseModel", "partner", "[J", true)
  | 7 => ("SetHouseModel", "size", "[I", true)
  | 8 => ("SetHouseModel", "rows", "[J", true)
  | 9 => ("SetHouseModel", "clash", "I", false)
  | 10 => ("SetHouseModel", "turn", "[I", true)
  | 11 => ("SetHouseModel", "petals", "[I", true)
  | 12 => ("SetHouseModel", "trial", "[I", true)
  | 13 => ("SetHouseModel", "petalCount", "I", false)
  | _ => ("SetHouseModel", "aside", "[J", true)
def rx_y3 : Nat → FieldType := fun k => match k with
  | 0 => .int
  | 1 => .int
  | 2 => .int
  | 3 => .array .int
  | 4 => .array .int
  | 5 => .array .long
  | 6 => .array .long
  | 7 => .array .int
  | 8 => .array .long
  | 9 => .int
  | 10 => .array .int
  | 11 => .array .int
  | 12 => .array .int
  | 13 => .int
  | _ => .array .long
def rx_cl : List vw_C := [("SetHouse$Place", rx_T0, 6), ("SetHouse$Seeker", rx_T1, 5), ("SetHouse", rx_T2, 6), ("SetHouseModel", rx_T3, 15)]
def rx_ty : Nat → Nat → FieldType := fun c => match c with
  | 0 => rx_y0
  | 1 => rx_y1
  | 2 => rx_y2
  | _ => rx_y3
/-- the words that hold on -/
def rx_TB : List Cond := lw_tbl.filter goodWord
theorem rx_in {w : Cond} {i : Nat} (h : lw_tbl[i]? = some w) (hg : goodWord w = true) : w ∈ rx_TB := List.mem_filter.mpr ⟨List.mem_of_getElem? h, hg⟩
theorem rx_good : ∀ w ∈ rx_TB, (w.onTables && w.keeps) = true ∨ ∃ ty, w = .arrayClass ty := fun _ h => good_of_word (List.mem_filter.mp h).2
theorem rx_ins {ws : List Cond} (ps : List Nat) (hp : ws = ps.filterMap (fun i => lw_tbl[i]?)) (h : ws.all goodWord = true) : ∀ w ∈ ws, w ∈ rx_TB := by
  intro w hw
  have h1 := List.all_eq_true.mp h w hw
  rw [hp] at hw
  obtain ⟨i, -, hi⟩ := List.mem_filterMap.mp hw
  exact rx_in hi h1
theorem rx_l0 : ∀ w ∈ u_ws "SetHouse$Place" rx_T0 6, w ∈ rx_TB := rx_ins [92, 94, 96, 98, 100, 102] (by decide +kernel) (by decide +kernel)
theorem rx_n0 : ∀ a, a < 6 → ∀ b, b < 6 → a ≠ b → (rx_T0 a).2.1 ≠ (rx_T0 b).2.1 := by decide +kernel
theorem rx_yo0 : ∀ k, k < 6 → parseFieldDescriptor (rx_T0 k).2.2.1 = some (rx_y0 k) := by decide +kernel
theorem rx_l1 : ∀ w ∈ u_ws "SetHouse$Seeker" rx_T1 5, w ∈ rx_TB := rx_ins [123, 125, 127, 129, 131] (by decide +kernel) (by decide +kernel)
theorem rx_n1 : ∀ a, a < 5 → ∀ b, b < 5 → a ≠ b → (rx_T1 a).2.1 ≠ (rx_T1 b).2.1 := by decide +kernel
theorem rx_yo1 : ∀ k, k < 5 → parseFieldDescriptor (rx_T1 k).2.2.1 = some (rx_y1 k) := by decide +kernel
theorem rx_l2 : ∀ w ∈ u_ws "SetHouse" rx_T2 6, w ∈ rx_TB := rx_ins [141, 143, 145, 147, 149, 151] (by decide +kernel) (by decide +kernel)
theorem rx_n2 : ∀ a, a < 6 → ∀ b, b < 6 → a ≠ b → (rx_T2 a).2.1 ≠ (rx_T2 b).2.1 := by decide +kernel
theorem rx_yo2 : ∀ k, k < 6 → parseFieldDescriptor (rx_T2 k).2.2.1 = some (rx_y2 k) := by decide +kernel
theorem rx_l3 : ∀ w ∈ u_ws "SetHouseModel" rx_T3 15, w ∈ rx_TB := rx_ins [764, 766, 768, 770, 772, 774, 776, 778, 780, 782, 784, 786, 788, 790, 792] (by decide +kernel) (by decide +kernel)
theorem rx_n3 : ∀ a, a < 15 → ∀ b, b < 15 → a ≠ b → (rx_T3 a).2.1 ≠ (rx_T3 b).2.1 := by decide +kernel
theorem rx_yo3 : ∀ k, k < 15 → parseFieldDescriptor (rx_T3 k).2.2.1 = some (rx_y3 k) := by decide +kernel
/-- the methods: name, and kind (static, of an object, a constructor) -/
def rx_ms : List (MethodName × Nat) := [
  (⟨"java/lang/Long", "bitCount", "(J)I"⟩, 0),
  (⟨"java/lang/Integer", "bitCount", "(I)I"⟩, 0),
  (⟨"java/lang/Math", "floorMod", "(II)I"⟩, 0),
  (⟨"java/lang/Math", "max", "(II)I"⟩, 0),
  (⟨"java/lang/Math", "min", "(II)I"⟩, 0),
  (⟨"SetHouseLaw", "cell", "([II)I"⟩, 0),
  (⟨"SetHouseLaw", "element", "(LSetHouse;II[J)I"⟩, 0),
  (⟨"SetHouseLaw", "law", "([I)Z"⟩, 0),
  (⟨"SetHouse$Heap", "allAbove", "(JI)J"⟩, 0),
  (⟨"SetHouse$Heap", "allBelow", "(J)J"⟩, 0),
  (⟨"SetHouse$Heap", "around", "(I)J"⟩, 0),
  (⟨"SetHouse$Heap", "below", "(I)J"⟩, 0),
  (⟨"SetHouse$Heap", "cutTo", "(JI)J"⟩, 0),
  (⟨"SetHouse$Heap", "holdsSet", "(JI)Z"⟩, 0),
  (⟨"SetHouse$Heap", "joinedTo", "(JI)J"⟩, 0),
  (⟨"SetHouse$Heap", "lacking", "(JI)J"⟩, 0),
  (⟨"SetHouse$Heap", "lackingThing", "(JI)J"⟩, 0),
  (⟨"SetHouse$Heap", "leastOf", "(J)I"⟩, 0),
  (⟨"SetHouse$Heap", "lessThing", "(JI)J"⟩, 0),
  (⟨"SetHouse$Heap", "mixed", "(JJI)J"⟩, 0),
  (⟨"SetHouse$Heap", "mixedInPairs", "(JJZ)J"⟩, 0),
  (⟨"SetHouse$Heap", "moreThing", "(JI)J"⟩, 0),
  (⟨"SetHouse$Heap", "moved", "(JII)J"⟩, 0),
  (⟨"SetHouse$Heap", "next", "(JI)I"⟩, 0),
  (⟨"SetHouse$Heap", "oneLess", "(J)J"⟩, 0),
  (⟨"SetHouse$Heap", "oneMore", "(JI)J"⟩, 0),
  (⟨"SetHouse$Heap", "setAt", "(JI)I"⟩, 0),
  (⟨"SetHouse$Heap", "shatters", "(JI)Z"⟩, 0),
  (⟨"SetHouse$Heap", "size", "(J)I"⟩, 0),
  (⟨"SetHouse$Heap", "swapped", "(JII)J"⟩, 0),
  (⟨"SetHouse$Heap", "within", "(I)J"⟩, 0),
  (⟨"SetHouse$Kinds", "apartClash", "(J)I"⟩, 0),
  (⟨"SetHouse$Kinds", "comingClash", "(LSetHouse$Place;I)I"⟩, 0),
  (⟨"SetHouse$Kinds", "downClash", "(J)I"⟩, 0),
  (⟨"SetHouse$Kinds", "fail", "(LSetHouse$Place;)V"⟩, 0),
  (⟨"SetHouse$Kinds", "familyClash", "(JII)I"⟩, 0),
  (⟨"SetHouse$Kinds", "firstFarFrom", "(JII)I"⟩, 0),
  (⟨"SetHouse$Kinds", "goingClash", "(LSetHouse$Place;I)I"⟩, 0),
  (⟨"SetHouse$Kinds", "hasNumber", "(I)Z"⟩, 0),
  (⟨"SetHouse$Kinds", "heftOf", "(LSetHouse$Place;)I"⟩, 0),
  (⟨"SetHouse$Kinds", "layerClash", "(JI)I"⟩, 0),
  (⟨"SetHouse$Kinds", "meetClash", "(JII)I"⟩, 0),
  (⟨"SetHouse$Kinds", "meetingClash", "(JI)I"⟩, 0),
  (⟨"SetHouse$Kinds", "pair", "(II)I"⟩, 0),
  (⟨"SetHouse$Numbers", "cascadeNumber", "(III)I"⟩, 0),
  (⟨"SetHouse$Numbers", "cascadeTop", "(II)I"⟩, 0),
  (⟨"SetHouse$Numbers", "cascades", "(II)Z"⟩, 0),
  (⟨"SetHouse$Numbers", "choose", "(II)I"⟩, 0),
  (⟨"SetHouse$Numbers", "factorial", "(I)I"⟩, 0),
  (⟨"SetHouse$Numbers", "leastShadow", "(II)I"⟩, 0),
  (⟨"SetHouse$Numbers", "matchedOnes", "(II)I"⟩, 0),
  (⟨"SetHouse$Numbers", "power", "(II)J"⟩, 0),
  (⟨"SetHouse$Orders", "agree", "(JJI)Z"⟩, 0),
  (⟨"SetHouse$Orders", "countTurns", "(JJII)I"⟩, 0),
  (⟨"SetHouse$Orders", "digit", "(II)I"⟩, 0),
  (⟨"SetHouse$Orders", "isOrder", "(II)Z"⟩, 0),
  (⟨"SetHouse$Orders", "leastTurn", "(JJIII)I"⟩, 0),
  (⟨"SetHouse$Orders", "stretch", "(IIII)I"⟩, 0),
  (⟨"SetHouse$Orders", "swapDigits", "(III)I"⟩, 0),
  (⟨"SetHouse$Orders", "turnedBy", "(JII)J"⟩, 0),
  (⟨"SetHouse$Orders", "unturned", "(I)I"⟩, 0),
  (⟨"SetHouse$Place", "becomeFamily", "(IIJJ)V"⟩, 1),
  (⟨"SetHouse$Place", "becomeNothing", "()V"⟩, 1),
  (⟨"SetHouse$Place", "becomeRow", "(II)V"⟩, 1),
  (⟨"SetHouse$Place", "hasStretch", "(II)Z"⟩, 1),
  (⟨"SetHouse$Place", "<init>", "()V"⟩, 2),
  (⟨"SetHouse$Place", "isRow", "()Z"⟩, 1),
  (⟨"SetHouse$Seeker", "findFlower", "(JI)I"⟩, 1),
  (⟨"SetHouse$Seeker", "fitting", "(JIII)J"⟩, 0),
  (⟨"SetHouse$Seeker", "greatestMeeting", "(JII)J"⟩, 1),
  (⟨"SetHouse$Seeker", "<init>", "()V"⟩, 2),
  (⟨"SetHouse$Seeker", "keepPetals", "(I)V"⟩, 1),
  (⟨"SetHouse$Seeker", "largest", "(JJJII)J"⟩, 0),
  (⟨"SetHouse$Seeker", "mostDisjoint", "(JI)I"⟩, 1),
  (⟨"SetHouse$Seeker", "near", "(JII)J"⟩, 0),
  (⟨"SetHouse$Seeker", "opens", "(JIIIII)Z"⟩, 1),
  (⟨"SetHouse$Seeker", "petalAt", "(I)I"⟩, 1),
  (⟨"SetHouse", "add", "(II)I"⟩, 1),
  (⟨"SetHouse", "cascade", "(III)I"⟩, 1),
  (⟨"SetHouse", "chain", "(II)I"⟩, 1),
  (⟨"SetHouse", "clash", "()I"⟩, 1),
  (⟨"SetHouse", "closed", "(IZI)I"⟩, 1),
  (⟨"SetHouse", "comes", "(LSetHouse$Place;I)Z"⟩, 1),
  (⟨"SetHouse", "copy", "(IIIII)I"⟩, 1),
  (⟨"SetHouse", "count", "(II)I"⟩, 1),
  (⟨"SetHouse", "cover", "(I)I"⟩, 1),
  (⟨"SetHouse", "cross", "(III)I"⟩, 1),
  (⟨"SetHouse", "drop", "(II)I"⟩, 1),
  (⟨"SetHouse", "element", "(II)J"⟩, 1),
  (⟨"SetHouse", "empty", "(I)I"⟩, 1),
  (⟨"SetHouse", "ends", "(IZI)I"⟩, 1),
  (⟨"SetHouse", "familiesRefusal", "(IIZ)I"⟩, 1),
  (⟨"SetHouse", "familyRefusal", "(IZ)I"⟩, 1),
  (⟨"SetHouse", "first", "(III)I"⟩, 1),
  (⟨"SetHouse", "flower", "(II)I"⟩, 1),
  (⟨"SetHouse", "greatest", "(III)I"⟩, 1),
  (⟨"SetHouse", "has", "(II)I"⟩, 1),
  (⟨"SetHouse", "heft", "(I)I"⟩, 1),
  (⟨"SetHouse", "holds", "(I)I"⟩, 1),
  (⟨"SetHouse", "<init>", "(I)V"⟩, 2),
  (⟨"SetHouse", "is", "(III)I"⟩, 1),
  (⟨"SetHouse", "isKind", "(II)Z"⟩, 1),
  (⟨"SetHouse", "isPlace", "(I)Z"⟩, 1),
  (⟨"SetHouse", "isSet", "(I)Z"⟩, 1),
  (⟨"SetHouse", "isSize", "(I)Z"⟩, 1),
  (⟨"SetHouse", "isThing", "(I)Z"⟩, 1),
  (⟨"SetHouse", "keep", "(IIIJ)I"⟩, 1),
  (⟨"SetHouse", "keepBeside", "(IIJI)I"⟩, 1),
  (⟨"SetHouse", "least", "(II)I"⟩, 1),
  (⟨"SetHouse", "loose", "(I)I"⟩, 1),
  (⟨"SetHouse", "make", "(III)I"⟩, 1),
  (⟨"SetHouse", "matters", "(II)I"⟩, 1),
  (⟨"SetHouse", "mix", "(IIII)I"⟩, 1),
  (⟨"SetHouse", "petal", "(I)I"⟩, 1),
  (⟨"SetHouse", "product", "(II)I"⟩, 1),
  (⟨"SetHouse", "push", "(III)I"⟩, 1),
  (⟨"SetHouse", "pushed", "(I)I"⟩, 1),
  (⟨"SetHouse", "put", "(IIJ)I"⟩, 1),
  (⟨"SetHouse", "rank", "(I)I"⟩, 1),
  (⟨"SetHouse", "ranked", "(II)I"⟩, 1),
  (⟨"SetHouse", "rest", "(IZI)I"⟩, 1),
  (⟨"SetHouse", "ring", "(III)I"⟩, 1),
  (⟨"SetHouse", "row", "(III)I"⟩, 1),
  (⟨"SetHouse", "rowRefusal", "(I)I"⟩, 1),
  (⟨"SetHouse", "same", "(II)I"⟩, 1),
  (⟨"SetHouse", "set", "(II)I"⟩, 1),
  (⟨"SetHouse", "shadow", "(II)I"⟩, 1),
  (⟨"SetHouse", "shattered", "(II)I"⟩, 1),
  (⟨"SetHouse", "sum", "(I)I"⟩, 1),
  (⟨"SetHouse", "take", "(II)I"⟩, 1),
  (⟨"SetHouse", "toss", "(I)I"⟩, 1),
  (⟨"SetHouse", "trace", "(III)I"⟩, 1),
  (⟨"SetHouse", "turned", "(III)I"⟩, 1),
  (⟨"SetHouse", "turns", "(I)I"⟩, 1),
  (⟨"SetHouse", "up", "(II)I"⟩, 1),
  (⟨"SetHouse", "weight", "(III)J"⟩, 1),
  (⟨"SetHouseModel", "add", "(II)I"⟩, 1),
  (⟨"SetHouseModel", "adds", "(II)I"⟩, 1),
  (⟨"SetHouseModel", "apartFrom", "(JII)I"⟩, 0),
  (⟨"SetHouseModel", "blooms", "(JIII)Z"⟩, 1),
  (⟨"SetHouseModel", "cascade", "(III)I"⟩, 1),
  (⟨"SetHouseModel", "chain", "(II)I"⟩, 1),
  (⟨"SetHouseModel", "chainFirst", "(I)I"⟩, 1),
  (⟨"SetHouseModel", "choose", "(II)I"⟩, 0),
  (⟨"SetHouseModel", "chooseAll", "(II)I"⟩, 0),
  (⟨"SetHouseModel", "clash", "()I"⟩, 1),
  (⟨"SetHouseModel", "closed", "(IZI)I"⟩, 1),
  (⟨"SetHouseModel", "copy", "(IIIII)I"⟩, 1),
  (⟨"SetHouseModel", "count", "(II)I"⟩, 1),
  (⟨"SetHouseModel", "cover", "(I)I"⟩, 1),
  (⟨"SetHouseModel", "cross", "(III)I"⟩, 1),
  (⟨"SetHouseModel", "drop", "(II)I"⟩, 1),
  (⟨"SetHouseModel", "each", "(JJZ)J"⟩, 1),
  (⟨"SetHouseModel", "element", "(II)J"⟩, 1),
  (⟨"SetHouseModel", "empty", "(I)I"⟩, 1),
  (⟨"SetHouseModel", "ends", "(IZI)I"⟩, 1),
  (⟨"SetHouseModel", "factorial", "(I)I"⟩, 0),
  (⟨"SetHouseModel", "first", "(III)I"⟩, 1),
  (⟨"SetHouseModel", "firstTurn", "()V"⟩, 1),
  (⟨"SetHouseModel", "flower", "(II)I"⟩, 1),
  (⟨"SetHouseModel", "goes", "(JIIII)Z"⟩, 1),
  (⟨"SetHouseModel", "greatest", "(III)I"⟩, 1),
  (⟨"SetHouseModel", "greatestBelow", "(II)I"⟩, 0),
  (⟨"SetHouseModel", "has", "(JI)Z"⟩, 0),
  (⟨"SetHouseModel", "has", "(II)I"⟩, 1),
  (⟨"SetHouseModel", "heft", "(I)I"⟩, 1),
  (⟨"SetHouseModel", "hinders", "(II)I"⟩, 1),
  (⟨"SetHouseModel", "holds", "(I)I"⟩, 1),
  (⟨"SetHouseModel", "holdsNow", "(IIIJ)I"⟩, 1),
  (⟨"SetHouseModel", "<init>", "(I)V"⟩, 2),
  (⟨"SetHouseModel", "is", "(III)I"⟩, 1),
  (⟨"SetHouseModel", "isIn", "(III)Z"⟩, 0),
  (⟨"SetHouseModel", "isKind", "(II)Z"⟩, 1),
  (⟨"SetHouseModel", "isPlace", "(I)Z"⟩, 0),
  (⟨"SetHouseModel", "isSet", "(I)Z"⟩, 1),
  (⟨"SetHouseModel", "isShattered", "(JI)Z"⟩, 1),
  (⟨"SetHouseModel", "isTurn", "(I)Z"⟩, 1),
  (⟨"SetHouseModel", "isWithin", "(II)Z"⟩, 0),
  (⟨"SetHouseModel", "lacking", "(II)I"⟩, 0),
  (⟨"SetHouseModel", "lacks", "(I)I"⟩, 1),
  (⟨"SetHouseModel", "least", "(II)I"⟩, 1),
  (⟨"SetHouseModel", "loose", "(I)I"⟩, 1),
  (⟨"SetHouseModel", "looseFrom", "(JII)I"⟩, 1),
  (⟨"SetHouseModel", "make", "(III)I"⟩, 1),
  (⟨"SetHouseModel", "many", "(J)I"⟩, 0),
  (⟨"SetHouseModel", "matters", "(II)I"⟩, 1),
  (⟨"SetHouseModel", "mix", "(IIII)I"⟩, 1),
  (⟨"SetHouseModel", "mostOf", "(JII)I"⟩, 1),
  (⟨"SetHouseModel", "nextTurn", "()Z"⟩, 1),
  (⟨"SetHouseModel", "number", "()I"⟩, 1),
  (⟨"SetHouseModel", "ones", "(I)I"⟩, 0),
  (⟨"SetHouseModel", "petal", "(I)I"⟩, 1),
  (⟨"SetHouseModel", "power", "(II)J"⟩, 0),
  (⟨"SetHouseModel", "product", "(II)I"⟩, 1),
  (⟨"SetHouseModel", "push", "(III)I"⟩, 1),
  (⟨"SetHouseModel", "pushed", "(I)I"⟩, 1),
  (⟨"SetHouseModel", "pushes", "(III)I"⟩, 1),
  (⟨"SetHouseModel", "put", "(IIJ)I"⟩, 1),
  (⟨"SetHouseModel", "rank", "(I)I"⟩, 1),
  (⟨"SetHouseModel", "ranked", "(II)I"⟩, 1),
  (⟨"SetHouseModel", "rest", "(IZI)I"⟩, 1),
  (⟨"SetHouseModel", "ring", "(III)I"⟩, 1),
  (⟨"SetHouseModel", "row", "(III)I"⟩, 1),
  (⟨"SetHouseModel", "same", "(II)I"⟩, 1),
  (⟨"SetHouseModel", "set", "(II)I"⟩, 1),
  (⟨"SetHouseModel", "shadow", "(II)I"⟩, 1),
  (⟨"SetHouseModel", "shadowOf", "(JZ)J"⟩, 1),
  (⟨"SetHouseModel", "shadows", "(IIZ)I"⟩, 1),
  (⟨"SetHouseModel", "shattered", "(II)I"⟩, 1),
  (⟨"SetHouseModel", "sized", "(JI)I"⟩, 1),
  (⟨"SetHouseModel", "staysLayer", "(I)V"⟩, 1),
  (⟨"SetHouseModel", "sum", "(I)I"⟩, 1),
  (⟨"SetHouseModel", "swap", "(II)V"⟩, 1),
  (⟨"SetHouseModel", "take", "(II)I"⟩, 1),
  (⟨"SetHouseModel", "thrown", "()I"⟩, 1),
  (⟨"SetHouseModel", "toss", "(I)I"⟩, 1),
  (⟨"SetHouseModel", "trace", "(III)I"⟩, 1),
  (⟨"SetHouseModel", "traceOf", "(JI)J"⟩, 1),
  (⟨"SetHouseModel", "turned", "(III)I"⟩, 1),
  (⟨"SetHouseModel", "turnedAll", "(J)J"⟩, 1),
  (⟨"SetHouseModel", "turnedSet", "(I)I"⟩, 1),
  (⟨"SetHouseModel", "turns", "(I)I"⟩, 1),
  (⟨"SetHouseModel", "up", "(II)I"⟩, 1),
  (⟨"SetHouseModel", "weight", "(III)J"⟩, 1)]
def rx_ny (j : Nat) : MethodName := (rx_ms.getD j (⟨"", "", ""⟩, 9)).1
def rx_kd (j : Nat) : Nat := (rx_ms.getD j (⟨"", "", ""⟩, 9)).2
end
section
/-! ===== Pictures and the machine's heap ===== -/
/-- where the law's heap began, the script's cell, WITHOUT's, FACTORIALS'; class numbers and slots; the array classes; the heap at the start; the script -/
abbrev rx_G : Type := Nat × Nat × Nat × Nat × va_G × (ClassId × ClassId × ClassId) × Heap × (Nat × (Nat → Int32))
abbrev rx_base (G : rx_G) : Nat := G.1
abbrev rx_ab (G : rx_G) : Nat := G.2.1
abbrev rx_aw (G : rx_G) : Nat := G.2.2.1
abbrev rx_af (G : rx_G) : Nat := G.2.2.2.1
abbrev rx_D (G : rx_G) : va_G := G.2.2.2.2.1
abbrev rx_cI (G : rx_G) : ClassId := G.2.2.2.2.2.1.1
abbrev rx_cJ (G : rx_G) : ClassId := G.2.2.2.2.2.1.2.1
abbrev rx_cP (G : rx_G) : ClassId := G.2.2.2.2.2.1.2.2
abbrev rx_H0 (G : rx_G) : Heap := G.2.2.2.2.2.2.1
abbrev rx_sc (G : rx_G) : Nat × (Nat → Int32) := G.2.2.2.2.2.2.2
def rx_ad (G : rx_G) (k : Nat) : Nat := if k = 1000000 then rx_ab G else if k = 1000001 then rx_aw G else if k = 1000002 then rx_af G else rx_base G + k
def rx_ev (G : rx_G) : Value → Value
  | .ref k => .ref (rx_ad G k)
  | v => v
theorem rx_ad_lt (G : rx_G) {k : Nat} (h : k < 1000000) : rx_ad G k = rx_base G + k := by
  unfold rx_ad
  rw [if_neg (by omega), if_neg (by omega), if_neg (by omega)]
theorem rx_ev_cat (G : rx_G) (v : Value) : (rx_ev G v).category = v.category := by cases v <;> rfl
theorem rx_cat_eq (G : rx_G) (st : List Value) : ((st.map (rx_ev G)).map fun v => v.category).sum = rx_cat st := by
  induction st with
  | nil => rfl
  | cons v st ih =>
    simp only [List.map_cons, List.sum_cons, ih, rx_ev_cat]
    cases v <;> simp [rx_cat, Value.category] <;> omega
def rx_at (G : rx_G) (c : rx_C) (a : Nat) (H : Heap) : Prop := match c with
  | .inl (n, .inl f) => H[a]? = some (arrV (rx_cI G) n (fun j => .int (f j)))
  | .inl (n, .inr (.inl f)) => H[a]? = some (arrV (rx_cJ G) n (fun j => .long (f j)))
  | .inl (n, .inr (.inr (.inr (.inr f)))) => H[a]? = some (arrV (rx_cP G) n (fun j => va_rf ((f j).map (rx_ad G))))
  | .inl _ => True
  | .inr (ci, fs) => ∃ r : vw_C, rx_cl[ci]? = some r ∧ fs.length = r.2.2 ∧ t_OB a ((rx_D G).1 ci) r.2.2 ((rx_D G).2 ci) H (vp_V (fs.map (rx_ev G)))
theorem rx_at.kept {G : rx_G} {c : rx_C} {a : Nat} {H H1 : Heap} (h : rx_at G c a H) (hq : H1[a]? = H[a]?) : rx_at G c a H1 := by
  unfold rx_at at h ⊢
  split at h
  · rw [hq]; exact h
  · rw [hq]; exact h
  · rw [hq]; exact h
  · trivial
  · obtain ⟨r, h1, h2, h3⟩ := h
    exact ⟨r, h1, h2, h3.kept hq⟩
def rx_R (G : rx_G) (h : rx_H) (H : Heap) : Prop := (∀ (k : Nat) (c : rx_C), h.2[k]? = some c → rx_at G c (rx_base G + k) H) ∧ H.size = rx_base G + h.2.length ∧ h.2.length ≤ 999999 ∧ (∀ q, q < rx_base G → H[q]? = (rx_H0 G)[q]?) ∧ h.1 = rx_sc G
/-- one cell is another one -/
theorem rx_R.set {G : rx_G} {h : rx_H} {H H1 : Heap} (hR : rx_R G h H) {r : Nat} {c c1 : rx_C} (hr : h.2[r]? = some c) (hc : rx_at G c1 (rx_base G + r) H1) (hz : H1.size = H.size) (ho : ∀ q, q ≠ rx_base G + r → H1[q]? = H[q]?) : rx_R G (h.1, h.2.set r c1) H1 := by
  obtain ⟨h1, h2, h3, h4, h5⟩ := hR
  refine ⟨fun k c2 hk => ?_, by rw [hz, h2]; simp, by simpa using h3, fun q hq => by rw [ho q (by omega)]; exact h4 q hq, h5⟩
  by_cases hkr : r = k
  · subst hkr
    have hlt := (List.getElem?_eq_some_iff.mp hr).1
    simp only [List.getElem?_set_self hlt] at hk
    cases hk
    exact hc
  · simp only [List.getElem?_set_ne hkr] at hk
    exact (h1 k c2 hk).kept (ho _ (by omega))
/-- a cell more -/
theorem rx_R.push {G : rx_G} {h : rx_H} {H H1 : Heap} (hR : rx_R G h H) {c1 : rx_C} (hl : h.2.length < 999999) (hc : rx_at G c1 (rx_base G + h.2.length) H1) (hz : H1.size = H.size + 1) (ho : ∀ q, q < H.size → H1[q]? = H[q]?) : rx_R G (h.1, h.2 ++ [c1]) H1 := by
  obtain ⟨h1, h2, h3, h4, h5⟩ := hR
  refine ⟨fun k c2 hk => ?_, by rw [hz, h2]; simp; omega, by simp; omega, fun q hq => by rw [ho q (by omega)]; exact h4 q hq, h5⟩
  by_cases hkl : k < h.2.length
  · rw [List.getElem?_append_left hkl] at hk
    exact (h1 k c2 hk).kept (ho _ (by omega))
  · rw [List.getElem?_append_right (by omega)] at hk
    have hz1 : k - h.2.length < 1 := (List.getElem?_eq_some_iff.mp hk).1
    have he : k = h.2.length := by omega
    subst he
    simp at hk
    subst hk
    exact hc
def rx_tys (G : rx_G) : List (ClassId × FieldType) := [(rx_cI G, .int), (rx_cJ G, .long), (rx_cP G, .object "SetHouse$Place")]
def rx_yP : MethodName := ⟨"SetHouse$Place", "<init>", "()V"⟩
def rx_yS : MethodName := ⟨"SetHouse$Seeker", "<init>", "()V"⟩
/-- an array that was there before -/
def rx_old (G : rx_G) (a : Nat) (ty : FieldType) (n : Nat) (f : Nat → Value) (U : State) : Prop := a < rx_base G ∧ ∃ scr : Cell, (rx_H0 G)[a]? = some scr ∧ U.isArrayOf scr ty ∧ scr.vm ≠ .unknown ∧ scr.slots.size = n ∧ ∀ j, j < n → scr.slots[j]? = some (f j)
def rx_Ks (G : rx_G) (U : State) : Prop := va_K (rx_D G) rx_cl (rx_tys G) U ∧ rx_old G (rx_ab G) .int (rx_sc G).1 (fun j => .int ((rx_sc G).2 j)) U ∧ (rx_H0 G).size = rx_base G ∧
  va_Z "SetHouse$Heap" "WITHOUT" "[J" (.ref (rx_aw G)) (fun q => rx_base G ≤ q) U (rx_H0 G) ∧ rx_old G (rx_aw G) .long 6 (fun j => .long (rx_W.getD j 0)) U ∧
  va_Z "SetHouse$Numbers" "FACTORIALS" "[I" (.ref (rx_af G)) (fun q => rx_base G ≤ q) U (rx_H0 G) ∧ rx_old G (rx_af G) .int 7 (fun j => .int (rx_F.getD j 0)) U ∧
  va_Nw (.methodLinkNest "SetHouse" 28 rx_yP "SetHouse") U ∧ va_Nw (.methodLinkNest "SetHouse" 41 rx_yS "SetHouse") U ∧ va_AO "SetHouse$Place" U
theorem rx_old.moved {G : rx_G} {a n : Nat} {ty : FieldType} {f : Nat → Value} {u U : State} (hvm : u.vm.Alike U.vm) (h : rx_old G a ty n f u) : rx_old G a ty n f U := by
  obtain ⟨h0, scr, h1, h2, h3⟩ := h
  exact ⟨h0, scr, h1, State.isArrayOf_alike hvm h2, h3⟩
theorem rx_Ks.warm {G : rx_G} {s U : State} (hW : s.WarmedH U.vm) (h : rx_Ks G s) : rx_Ks G U := by
  obtain ⟨h1, h2, h3, h4, h5, h6, h7, h8, h9, h10⟩ := h
  have ha := hW.alike
  exact ⟨h1.moved ha, h2.moved ha, h3, h4.moved ha, h5.moved ha, h6.moved ha, h7.moved ha, va_Nw.warmM hW h8, va_Nw.warmM hW h9, h10.moved ha⟩
theorem rx_Ks.same {G : rx_G} {s U : State} (hv : s.vm = U.vm) (h : rx_Ks G s) : rx_Ks G U := by
  obtain ⟨h1, h2, h3, h4, h5, h6, h7, h8, h9, h10⟩ := h
  have ha : s.vm.Alike U.vm := by rw [hv]; exact Vm.Alike.refl _
  exact ⟨h1.moved ha, h2.moved ha, h3, h4.moved ha, h5.moved ha, h6.moved ha, h7.moved ha, va_Nw.same rfl hv h8, va_Nw.same rfl hv h9, h10.moved ha⟩
/-! locals -/
def rx_lo (G : rx_G) (ls : Array Slot) (nL : Nat) (als : rx_L) : Prop := als.length = nL ∧ ls.size = nL ∧ lv_wf ls ∧ ∀ (i : Nat) (v : Value), als[i]? = some (some v) → ls[i]? = some (.val (rx_ev G v))
def rx_ll (G : rx_G) (als : rx_L) : List (Nat × Value) := (List.range als.length).filterMap fun i => match als[i]? with
  | some (some v) => some (i, rx_ev G v)
  | _ => none
theorem rx_ll_mem {G : rx_G} {als : rx_L} {i : Nat} {v : Value} (h : als[i]? = some (some v)) : (i, rx_ev G v) ∈ rx_ll G als := by
  refine List.mem_filterMap.mpr ⟨i, List.mem_range.mpr (List.getElem?_eq_some_iff.mp h).1, ?_⟩
  rw [h]
theorem rx_lo.has {G : rx_G} {ls : Array Slot} {nL : Nat} {als : rx_L} (h : rx_lo G ls nL als) : lv_has ls nL (rx_ll G als) := by
  obtain ⟨h0, h1, h2, h3⟩ := h
  refine ⟨h1, h2, fun q hq => ?_⟩
  obtain ⟨i, -, hi⟩ := List.mem_filterMap.mp hq
  split at hi
  · next v hv => cases hi; exact h3 i v hv
  · cases hi
theorem rx_lg_some {als : rx_L} {i : Nat} {v : Value} (h : rx_lg als i = some v) : als[i]? = some (some v) := by
  unfold rx_lg at h
  split at h
  · next w hw => cases h; exact hw
  · cases h
theorem rx_kill_len (als : rx_L) (i : Nat) : (rx_kill als i).length = als.length := by
  unfold rx_kill
  split
  · rfl
  · split <;> simp
theorem rx_kill_get {als : rx_L} {i j : Nat} {v : Value} (h : (rx_kill als i)[j]? = some (some v)) : als[j]? = some (some v) ∧ ¬ (j + 1 = i ∧ v.category = 2) := by
  unfold rx_kill at h
  split at h
  · exact ⟨h, fun q => by omega⟩
  · next j0 =>
    split at h
    · by_cases hj : j0 = j
      · subst hj
        exfalso
        rw [List.getElem?_set] at h
        simp at h
      · rw [List.getElem?_set_ne hj] at h
        exact ⟨h, fun q => hj (by omega)⟩
    · by_cases hj : j0 = j
      · subst hj
        exfalso
        rw [List.getElem?_set] at h
        simp at h
      · rw [List.getElem?_set_ne hj] at h
        exact ⟨h, fun q => hj (by omega)⟩
    · next n1 n2 =>
      refine ⟨h, fun q => ?_⟩
      have hj : j0 = j := by omega
      subst hj
      cases v with
      | long x => exact n1 x h
      | double x => exact n2 x h
      | _ => simp [Value.category] at q
theorem rx_s1_ok {G : rx_G} {ls' : Array Slot} {nL i : Nat} {als : rx_L} {v : Value} (hn : als.length = nL) (hi : i < nL) (h : lv_has ls' nL ((i, rx_ev G v) :: (rx_ll G als).filter (fun q => !(q.1 == i) && !(q.1 + 1 == i && q.2.category == 2)))) : rx_lo G ls' nL (rx_s1 als i v) := by
  obtain ⟨h1, h2, h3⟩ := h
  refine ⟨by simp [rx_s1, rx_kill_len, hn], h1, h2, fun j w hw => ?_⟩
  unfold rx_s1 at hw
  by_cases hj : i = j
  · subst hj
    rw [List.getElem?_set_self (by rw [rx_kill_len]; omega)] at hw
    cases hw
    exact h3 _ List.mem_cons_self
  · rw [List.getElem?_set_ne hj] at hw
    obtain ⟨g1, g2⟩ := rx_kill_get hw
    refine h3 (j, rx_ev G w) (List.mem_cons_of_mem _ (List.mem_filter.mpr ⟨rx_ll_mem g1, ?_⟩))
    have hj2 : ¬ j = i := fun q => hj q.symm
    simp [rx_ev_cat, hj2]
    by_cases q1 : j + 1 = i
    · exact Or.inr fun q2 => g2 ⟨q1, q2⟩
    · exact Or.inl q1
theorem rx_s2_ok {G : rx_G} {ls' : Array Slot} {nL i : Nat} {als : rx_L} {v : Value} (hn : als.length = nL) (hi : i + 1 < nL) (h : lv_has ls' nL ((i, rx_ev G v) :: (rx_ll G als).filter (fun q => !(q.1 == i) && (!(q.1 == i + 1) && !(q.1 + 1 == i && q.2.category == 2))))) : rx_lo G ls' nL (rx_s2 als i v) := by
  obtain ⟨h1, h2, h3⟩ := h
  refine ⟨by simp [rx_s2, rx_kill_len, hn], h1, h2, fun j w hw => ?_⟩
  unfold rx_s2 at hw
  by_cases hj1 : i + 1 = j
  · subst hj1
    exfalso
    rw [List.getElem?_set] at hw
    simp at hw
  rw [List.getElem?_set_ne hj1] at hw
  by_cases hj : i = j
  · subst hj
    rw [List.getElem?_set_self (by rw [rx_kill_len]; omega)] at hw
    cases hw
    exact h3 _ List.mem_cons_self
  · rw [List.getElem?_set_ne hj] at hw
    obtain ⟨g1, g2⟩ := rx_kill_get hw
    refine h3 (j, rx_ev G w) (List.mem_cons_of_mem _ (List.mem_filter.mpr ⟨rx_ll_mem g1, ?_⟩))
    have hj2 : ¬ j = i := fun q => hj q.symm
    have hj3 : ¬ j = i + 1 := fun q => hj1 q.symm
    simp [rx_ev_cat, hj2, hj3]
    by_cases q1 : j + 1 = i
    · exact Or.inr fun q2 => g2 ⟨q1, q2⟩
    · exact Or.inl q1
/-- less is known of the locals -/
def rx_le (a b : rx_L) : Prop := a.length = b.length ∧ ∀ (i : Nat) (v : Value), a[i]? = some (some v) → b[i]? = some (some v)
theorem rx_lo.le {G : rx_G} {ls : Array Slot} {nL : Nat} {a b : rx_L} (h : rx_lo G ls nL b) (hl : rx_le a b) : rx_lo G ls nL a := ⟨hl.1.trans h.1, h.2.1, h.2.2.1, fun i v hi => h.2.2.2 i v (hl.2 i v hi)⟩
/-! how many slots -/
def rx_sl1 : rx_C → Nat
  | .inl a => a.1
  | .inr o => o.2.length
def rx_sl (h : rx_H) : Nat := (h.2.map rx_sl1).sum
theorem rx_sl_set {h : rx_H} {r : Nat} {c c1 : rx_C} (hr : h.2[r]? = some c) (he : rx_sl1 c1 = rx_sl1 c) : rx_sl (h.1, h.2.set r c1) = rx_sl h := by
  obtain ⟨sc, cs⟩ := h
  unfold rx_sl
  dsimp only at hr ⊢
  induction cs generalizing r with
  | nil => simp at hr
  | cons x xs ih =>
    cases r with
    | zero =>
      simp at hr
      subst hr
      simp [he]
    | succ r =>
      simp at hr
      have h2 := ih hr
      simp only [List.set_cons_succ, List.map_cons, List.sum_cons, h2]
theorem rx_sl_push (h : rx_H) (c1 : rx_C) : rx_sl (h.1, h.2 ++ [c1]) = rx_sl h + rx_sl1 c1 := by
  unfold rx_sl
  simp
end
section
/-! ===== One instruction of the small machine is one of the machine's ===== -/
abbrev rx_Z : Type := (Program × Launch × Env × Room × State × MethodId × Array Value × List Frame × Method × Code) × ((State → Prop) × Nat × rx_G × rx_H × Nat × Nat × Nat × Nat × Nat × ByteArray × String × Bool × Bool)
abbrev zP (Z : rx_Z) : Program := Z.1.1
abbrev zL (Z : rx_Z) : Launch := Z.1.2.1
abbrev zE (Z : rx_Z) : Env := Z.1.2.2.1
abbrev zR (Z : rx_Z) : Room := Z.1.2.2.2.1
abbrev zS (Z : rx_Z) : State := Z.1.2.2.2.2.1
abbrev zM (Z : rx_Z) : MethodId := Z.1.2.2.2.2.2.1
abbrev zA (Z : rx_Z) : Array Value := Z.1.2.2.2.2.2.2.1
abbrev zB (Z : rx_Z) : List Frame := Z.1.2.2.2.2.2.2.2.1
abbrev zMe (Z : rx_Z) : Method := Z.1.2.2.2.2.2.2.2.2.1
abbrev zC (Z : rx_Z) : Code := Z.1.2.2.2.2.2.2.2.2.2
abbrev zQ (Z : rx_Z) : State → Prop := Z.2.1
abbrev zn (Z : rx_Z) : Nat := Z.2.2.1
abbrev zG (Z : rx_Z) : rx_G := Z.2.2.2.1
abbrev zh (Z : rx_Z) : rx_H := Z.2.2.2.2.1
abbrev zn0 (Z : rx_Z) : Nat := Z.2.2.2.2.2.1
abbrev zs0 (Z : rx_Z) : Nat := Z.2.2.2.2.2.2.1
abbrev zn1 (Z : rx_Z) : Nat := Z.2.2.2.2.2.2.2.1
abbrev zs1 (Z : rx_Z) : Nat := Z.2.2.2.2.2.2.2.2.1
abbrev zd (Z : rx_Z) : Nat := Z.2.2.2.2.2.2.2.2.2.1
abbrev zcc (Z : rx_Z) : ByteArray := Z.2.2.2.2.2.2.2.2.2.2.1
abbrev zo (Z : rx_Z) : String := Z.2.2.2.2.2.2.2.2.2.2.2.1
abbrev zi (Z : rx_Z) : Bool := Z.2.2.2.2.2.2.2.2.2.2.2.2.1
abbrev zb (Z : rx_Z) : Bool := Z.2.2.2.2.2.2.2.2.2.2.2.2.2
abbrev zW (Z : rx_Z) (H : Heap) (locs : List Loc) (cells slots : Nat) (g : JFrame) : Prop := W (zP Z) (zL Z) (zE Z) (zR Z) (zS Z) (zM Z) (zA Z) (zB Z) (zMe Z) (zC Z) H locs cells slots (zQ Z) g
/-- the frame: the machine, the code, the words, what is known of the heap at the start, the room -/
def rx_Fr (Z : rx_Z) : Prop := (zP Z).tables.exec = Jvm.exec ∧ (zC Z).code = zcc Z ∧ (zC Z).maxLocals = zn Z ∧ (zS Z).vm.findClass (zo Z) = some (zM Z).cls ∧ (∀ w ∈ rx_TB, w.before (zA Z) (zS Z) = true) ∧ rx_Ks (zG Z) (zS Z) ∧ (zi Z = true → (zMe Z).name = "<init>") ∧
  zd Z + 1 ≤ (zR Z).frames ∧ 64 * (zd Z + 1) ≤ (zR Z).locals ∧ zn1 Z - zn0 Z ≤ (zR Z).cells ∧ zs1 Z - zs0 Z ≤ (zR Z).slots
abbrev rx_u (Z : rx_Z) (u : Option rx_H) : rx_H := u.getD (zh Z)
/-- from here the machine comes to its end -/
def rx_WS (Z : rx_Z) (pc : Nat) (als : rx_L) (st : List Value) (u : Option rx_H) : Prop := ∀ (H : Heap) (ls : Array Slot) (locs : List Loc), rx_R (zG Z) (rx_u Z u) H → rx_lo (zG Z) ls (zn Z) als → (∀ q ∈ locs, rx_base (zG Z) ≤ q.base) →
  zW Z H locs ((rx_u Z u).2.length - zn0 Z) (rx_sl (rx_u Z u) - zs0 Z) (F0 (zM Z) pc ls (st.map (rx_ev (zG Z))))
def rx_O (Z : rx_Z) (pc : Nat) (als : rx_L) (st : List Value) (u : Option rx_H) : Prop := zn0 Z ≤ (rx_u Z u).2.length → zs0 Z ≤ rx_sl (rx_u Z u) → ((rx_u Z u).2.length ≤ zn1 Z ∧ rx_sl (rx_u Z u) ≤ zs1 Z) ∧ rx_WS Z pc als st u
theorem rx_O.map {Z : rx_Z} {pc pc' : Nat} {als als' : rx_L} {st st' : List Value} {u : Option rx_H} (h : rx_O Z pc als st u) (f : rx_WS Z pc als st u → rx_WS Z pc' als' st' u) : rx_O Z pc' als' st' u := fun h1 h2 => ⟨(h h1 h2).1, f (h h1 h2).2⟩
theorem rx_O.le {Z : rx_Z} {pc : Nat} {a b : rx_L} {st : List Value} {u : Option rx_H} (h : rx_O Z pc a st u) (hl : rx_le a b) : rx_O Z pc b st u := h.map fun k H ls locs h1 h2 h3 => k H ls locs h1 (h2.le hl) h3
section rxT
variable {Z : rx_Z} {pc : Nat} {als : rx_L} {st : List Value} {u : Option rx_H}
theorem rx_t_iadd (F : rx_Fr Z) {x y : Int32} (hd : decode (zcc Z) pc = .ok (.iadd, 1)) (k : rx_WS Z (pc + 1) als (.int (x + y) :: st) u) : rx_WS Z pc als (.int y :: .int x :: st) u := fun H ls locs h1 h2 h3 => lv_iadd F.1 F.2.1 hd (k H ls locs h1 h2 h3)
theorem rx_t_isub (F : rx_Fr Z) {x y : Int32} (hd : decode (zcc Z) pc = .ok (.isub, 1)) (k : rx_WS Z (pc + 1) als (.int (x - y) :: st) u) : rx_WS Z pc als (.int y :: .int x :: st) u := fun H ls locs h1 h2 h3 => lv_isub F.1 F.2.1 hd (k H ls locs h1 h2 h3)
theorem rx_t_imul (F : rx_Fr Z) {x y : Int32} (hd : decode (zcc Z) pc = .ok (.imul, 1)) (k : rx_WS Z (pc + 1) als (.int (x * y) :: st) u) : rx_WS Z pc als (.int y :: .int x :: st) u := fun H ls locs h1 h2 h3 => lv_imul F.1 F.2.1 hd (k H ls locs h1 h2 h3)
theorem rx_t_iand (F : rx_Fr Z) {x y : Int32} (hd : decode (zcc Z) pc = .ok (.iand, 1)) (k : rx_WS Z (pc + 1) als (.int (x &&& y) :: st) u) : rx_WS Z pc als (.int y :: .int x :: st) u := fun H ls locs h1 h2 h3 => lv_iand F.1 F.2.1 hd (k H ls locs h1 h2 h3)
theorem rx_t_ior (F : rx_Fr Z) {x y : Int32} (hd : decode (zcc Z) pc = .ok (.ior, 1)) (k : rx_WS Z (pc + 1) als (.int (x ||| y) :: st) u) : rx_WS Z pc als (.int y :: .int x :: st) u := fun H ls locs h1 h2 h3 => lv_ior F.1 F.2.1 hd (k H ls locs h1 h2 h3)
theorem rx_t_ixor (F : rx_Fr Z) {x y : Int32} (hd : decode (zcc Z) pc = .ok (.ixor, 1)) (k : rx_WS Z (pc + 1) als (.int (x ^^^ y) :: st) u) : rx_WS Z pc als (.int y :: .int x :: st) u := fun H ls locs h1 h2 h3 => lv_ixor F.1 F.2.1 hd (k H ls locs h1 h2 h3)
theorem rx_t_ishl (F : rx_Fr Z) {x y : Int32} (hd : decode (zcc Z) pc = .ok (.ishl, 1)) (k : rx_WS Z (pc + 1) als (.int (x <<< (y &&& 31)) :: st) u) : rx_WS Z pc als (.int y :: .int x :: st) u := fun H ls locs h1 h2 h3 => lv_ishl F.1 F.2.1 hd (k H ls locs h1 h2 h3)
theorem rx_t_ishr (F : rx_Fr Z) {x y : Int32} (hd : decode (zcc Z) pc = .ok (.ishr, 1)) (k : rx_WS Z (pc + 1) als (.int (x >>> (y &&& 31)) :: st) u) : rx_WS Z pc als (.int y :: .int x :: st) u := fun H ls locs h1 h2 h3 => lv_ishr F.1 F.2.1 hd (k H ls locs h1 h2 h3)
theorem rx_t_iushr (F : rx_Fr Z) {x y : Int32} (hd : decode (zcc Z) pc = .ok (.iushr, 1)) (k : rx_WS Z (pc + 1) als (.int ((x.toUInt32 >>> (y.toUInt32 &&& Int32.toUInt32 31)).toInt32) :: st) u) : rx_WS Z pc als (.int y :: .int x :: st) u := fun H ls locs h1 h2 h3 => lv_iushr F.1 F.2.1 hd rfl (k H ls locs h1 h2 h3)
theorem rx_t_ineg (F : rx_Fr Z) {x : Int32} (hd : decode (zcc Z) pc = .ok (.ineg, 1)) (k : rx_WS Z (pc + 1) als (.int (-x) :: st) u) : rx_WS Z pc als (.int x :: st) u := fun H ls locs h1 h2 h3 => lv_ineg F.1 F.2.1 hd (k H ls locs h1 h2 h3)
theorem rx_t_idiv (F : rx_Fr Z) {x y : Int32} (hy : ¬ y = 0) (hd : decode (zcc Z) pc = .ok (.idiv, 1)) (k : rx_WS Z (pc + 1) als (.int (x / y) :: st) u) : rx_WS Z pc als (.int y :: .int x :: st) u := fun H ls locs h1 h2 h3 => lv_idiv F.1 F.2.1 hd hy (k H ls locs h1 h2 h3)
theorem rx_t_irem (F : rx_Fr Z) {x y : Int32} (hy : ¬ y = 0) (hd : decode (zcc Z) pc = .ok (.irem, 1)) (k : rx_WS Z (pc + 1) als (.int (x - x / y * y) :: st) u) : rx_WS Z pc als (.int y :: .int x :: st) u := fun H ls locs h1 h2 h3 => lv_irem F.1 F.2.1 hd hy (k H ls locs h1 h2 h3)
theorem rx_t_ladd (F : rx_Fr Z) {x y : Int64} (hd : decode (zcc Z) pc = .ok (.ladd, 1)) (k : rx_WS Z (pc + 1) als (.long (x + y) :: st) u) : rx_WS Z pc als (.long y :: .long x :: st) u := fun H ls locs h1 h2 h3 => lv_ladd F.1 F.2.1 hd (k H ls locs h1 h2 h3)
theorem rx_t_lsub (F : rx_Fr Z) {x y : Int64} (hd : decode (zcc Z) pc = .ok (.lsub, 1)) (k : rx_WS Z (pc + 1) als (.long (x - y) :: st) u) : rx_WS Z pc als (.long y :: .long x :: st) u := fun H ls locs h1 h2 h3 => lv_lsub F.1 F.2.1 hd (k H ls locs h1 h2 h3)
theorem rx_t_lmul (F : rx_Fr Z) {x y : Int64} (hd : decode (zcc Z) pc = .ok (.lmul, 1)) (k : rx_WS Z (pc + 1) als (.long (x * y) :: st) u) : rx_WS Z pc als (.long y :: .long x :: st) u := fun H ls locs h1 h2 h3 => lv_lmul F.1 F.2.1 hd (k H ls locs h1 h2 h3)
theorem rx_t_land (F : rx_Fr Z) {x y : Int64} (hd : decode (zcc Z) pc = .ok (.land, 1)) (k : rx_WS Z (pc + 1) als (.long (x &&& y) :: st) u) : rx_WS Z pc als (.long y :: .long x :: st) u := fun H ls locs h1 h2 h3 => lv_land F.1 F.2.1 hd (k H ls locs h1 h2 h3)
theorem rx_t_lor (F : rx_Fr Z) {x y : Int64} (hd : decode (zcc Z) pc = .ok (.lor, 1)) (k : rx_WS Z (pc + 1) als (.long (x ||| y) :: st) u) : rx_WS Z pc als (.long y :: .long x :: st) u := fun H ls locs h1 h2 h3 => lv_lor F.1 F.2.1 hd (k H ls locs h1 h2 h3)
theorem rx_t_lxor (F : rx_Fr Z) {x y : Int64} (hd : decode (zcc Z) pc = .ok (.lxor, 1)) (k : rx_WS Z (pc + 1) als (.long (x ^^^ y) :: st) u) : rx_WS Z pc als (.long y :: .long x :: st) u := fun H ls locs h1 h2 h3 => lv_lxor F.1 F.2.1 hd (k H ls locs h1 h2 h3)
theorem rx_t_ldiv (F : rx_Fr Z) {x y : Int64} (hy : ¬ y = 0) (hd : decode (zcc Z) pc = .ok (.ldiv, 1)) (k : rx_WS Z (pc + 1) als (.long (x / y) :: st) u) : rx_WS Z pc als (.long y :: .long x :: st) u := fun H ls locs h1 h2 h3 => lv_ldiv F.1 F.2.1 hd hy (k H ls locs h1 h2 h3)
theorem rx_t_lneg (F : rx_Fr Z) {x : Int64} (hd : decode (zcc Z) pc = .ok (.lneg, 1)) (k : rx_WS Z (pc + 1) als (.long (-x) :: st) u) : rx_WS Z pc als (.long x :: st) u := fun H ls locs h1 h2 h3 => lv_lneg F.1 F.2.1 hd (k H ls locs h1 h2 h3)
theorem rx_t_lshl (F : rx_Fr Z) {x : Int64} {y : Int32} (hd : decode (zcc Z) pc = .ok (.lshl, 1)) (k : rx_WS Z (pc + 1) als (.long (x <<< (y.toInt64 &&& 63)) :: st) u) : rx_WS Z pc als (.int y :: .long x :: st) u := fun H ls locs h1 h2 h3 => lv_lshl F.1 F.2.1 hd rfl (k H ls locs h1 h2 h3)
theorem rx_t_lushr (F : rx_Fr Z) {x : Int64} {y : Int32} (hd : decode (zcc Z) pc = .ok (.lushr, 1)) (k : rx_WS Z (pc + 1) als (.long ((x.toUInt64 >>> (y.toInt64.toUInt64 &&& Int64.toUInt64 63)).toInt64) :: st) u) : rx_WS Z pc als (.int y :: .long x :: st) u := fun H ls locs h1 h2 h3 => lv_lushr F.1 F.2.1 hd rfl (k H ls locs h1 h2 h3)
theorem rx_t_i2l (F : rx_Fr Z) {x : Int32} (hd : decode (zcc Z) pc = .ok (.i2l, 1)) (k : rx_WS Z (pc + 1) als (.long x.toInt64 :: st) u) : rx_WS Z pc als (.int x :: st) u := fun H ls locs h1 h2 h3 => lv_i2l F.1 F.2.1 hd rfl (k H ls locs h1 h2 h3)
theorem rx_t_l2i (F : rx_Fr Z) {x : Int64} (hd : decode (zcc Z) pc = .ok (.l2i, 1)) (k : rx_WS Z (pc + 1) als (.int x.toInt32 :: st) u) : rx_WS Z pc als (.long x :: st) u := fun H ls locs h1 h2 h3 => lv_l2i F.1 F.2.1 hd rfl (k H ls locs h1 h2 h3)
theorem rx_t_i2b (F : rx_Fr Z) {x : Int32} (hd : decode (zcc Z) pc = .ok (.i2b, 1)) (k : rx_WS Z (pc + 1) als (.int x.toInt8.toInt32 :: st) u) : rx_WS Z pc als (.int x :: st) u := fun H ls locs h1 h2 h3 => lv_i2b F.1 F.2.1 hd rfl (k H ls locs h1 h2 h3)
theorem rx_t_iconst (F : rx_Fr Z) {n : Int} {v : Int32} (hv : Int32.ofInt n = v) (hd : decode (zcc Z) pc = .ok (.iconst n, 1)) (k : rx_WS Z (pc + 1) als (.int v :: st) u) : rx_WS Z pc als (st) u := fun H ls locs h1 h2 h3 => lv_iconst F.1 F.2.1 hd hv (k H ls locs h1 h2 h3)
theorem rx_t_bipush (F : rx_Fr Z) {n : Int} {v : Int32} (hv : (Int8.ofInt n).toInt32 = v) (hd : decode (zcc Z) pc = .ok (.bipush n, 2)) (k : rx_WS Z (pc + 2) als (.int v :: st) u) : rx_WS Z pc als (st) u := fun H ls locs h1 h2 h3 => lv_bipush F.1 F.2.1 hd hv (k H ls locs h1 h2 h3)
theorem rx_t_sipush (F : rx_Fr Z) {n : Int} {v : Int32} (hv : (Int16.ofInt n).toInt32 = v) (hd : decode (zcc Z) pc = .ok (.sipush n, 3)) (k : rx_WS Z (pc + 3) als (.int v :: st) u) : rx_WS Z pc als (st) u := fun H ls locs h1 h2 h3 => lv_sipush F.1 F.2.1 hd hv (k H ls locs h1 h2 h3)
theorem rx_t_lconst (F : rx_Fr Z) {n : Fin 2} {v : Int64} (hv : Int64.ofNat (n : Nat) = v) (hd : decode (zcc Z) pc = .ok (.lconst n, 1)) (k : rx_WS Z (pc + 1) als (.long v :: st) u) : rx_WS Z pc als (st) u := fun H ls locs h1 h2 h3 => lv_lconst F.1 F.2.1 hd hv (k H ls locs h1 h2 h3)
theorem rx_t_iload (F : rx_Fr Z) {i : Nat} {x : Int32} (hl : rx_lg als i = some (.int x)) (hd : decode (zcc Z) pc = .ok (.iload i, 2)) (k : rx_WS Z (pc + 2) als (.int x :: st) u) : rx_WS Z pc als st u := fun H ls locs h1 h2 h3 => lv_iload F.1 F.2.1 hd (h2.2.2.2 i _ (rx_lg_some hl)) (k H ls locs h1 h2 h3)
theorem rx_t_iload_n (F : rx_Fr Z) {i : Fin 4} {x : Int32} (hl : rx_lg als i.val = some (.int x)) (hd : decode (zcc Z) pc = .ok (.iload_n i, 1)) (k : rx_WS Z (pc + 1) als (.int x :: st) u) : rx_WS Z pc als st u := fun H ls locs h1 h2 h3 => lv_iload_n F.1 F.2.1 hd rfl (h2.2.2.2 i.val _ (rx_lg_some hl)) (k H ls locs h1 h2 h3)
theorem rx_t_istore (F : rx_Fr Z) {i : Nat} {x : Int32} (hi : i < zn Z) (hd : decode (zcc Z) pc = .ok (.istore i, 2)) (k : rx_WS Z (pc + 2) (rx_s1 als i (.int x)) st u) : rx_WS Z pc als (.int x :: st) u := fun H ls locs h1 h2 h3 => lv_istore F.1 F.2.1 hd h2.has hi rfl fun ls' hl => k H ls' locs h1 (rx_s1_ok h2.1 hi hl) h3
theorem rx_t_istore_n (F : rx_Fr Z) {i : Fin 4} {x : Int32} (hi : i.val < zn Z) (hd : decode (zcc Z) pc = .ok (.istore_n i, 1)) (k : rx_WS Z (pc + 1) (rx_s1 als i.val (.int x)) st u) : rx_WS Z pc als (.int x :: st) u := fun H ls locs h1 h2 h3 => lv_istore_n F.1 F.2.1 hd rfl h2.has hi rfl fun ls' hl => k H ls' locs h1 (rx_s1_ok h2.1 hi hl) h3
theorem rx_t_lload (F : rx_Fr Z) {i : Nat} {x : Int64} (hl : rx_lg als i = some (.long x)) (hd : decode (zcc Z) pc = .ok (.lload i, 2)) (k : rx_WS Z (pc + 2) als (.long x :: st) u) : rx_WS Z pc als st u := fun H ls locs h1 h2 h3 => lv_lload F.1 F.2.1 hd (h2.2.2.2 i _ (rx_lg_some hl)) (k H ls locs h1 h2 h3)
theorem rx_t_lload_n (F : rx_Fr Z) {i : Fin 4} {x : Int64} (hl : rx_lg als i.val = some (.long x)) (hd : decode (zcc Z) pc = .ok (.lload_n i, 1)) (k : rx_WS Z (pc + 1) als (.long x :: st) u) : rx_WS Z pc als st u := fun H ls locs h1 h2 h3 => lv_lload_n F.1 F.2.1 hd rfl (h2.2.2.2 i.val _ (rx_lg_some hl)) (k H ls locs h1 h2 h3)
theorem rx_t_lstore (F : rx_Fr Z) {i : Nat} {x : Int64} (hi : i + 1 < zn Z) (hd : decode (zcc Z) pc = .ok (.lstore i, 2)) (k : rx_WS Z (pc + 2) (rx_s2 als i (.long x)) st u) : rx_WS Z pc als (.long x :: st) u := fun H ls locs h1 h2 h3 => lv_lstore F.1 F.2.1 hd h2.has hi rfl fun ls' hl => k H ls' locs h1 (rx_s2_ok h2.1 hi hl) h3
theorem rx_t_lstore_n (F : rx_Fr Z) {i : Fin 4} {x : Int64} (hi : i.val + 1 < zn Z) (hd : decode (zcc Z) pc = .ok (.lstore_n i, 1)) (k : rx_WS Z (pc + 1) (rx_s2 als i.val (.long x)) st u) : rx_WS Z pc als (.long x :: st) u := fun H ls locs h1 h2 h3 => lv_lstore_n F.1 F.2.1 hd rfl h2.has hi rfl fun ls' hl => k H ls' locs h1 (rx_s2_ok h2.1 hi hl) h3
theorem rx_t_aload (F : rx_Fr Z) {i : Nat} {x : Nat} (hl : rx_lg als i = some (.ref x)) (hd : decode (zcc Z) pc = .ok (.aload i, 2)) (k : rx_WS Z (pc + 2) als (.ref x :: st) u) : rx_WS Z pc als st u := fun H ls locs h1 h2 h3 => lv_aload F.1 F.2.1 hd (h2.2.2.2 i _ (rx_lg_some hl)) (k H ls locs h1 h2 h3)
theorem rx_t_aload_n (F : rx_Fr Z) {i : Fin 4} {x : Nat} (hl : rx_lg als i.val = some (.ref x)) (hd : decode (zcc Z) pc = .ok (.aload_n i, 1)) (k : rx_WS Z (pc + 1) als (.ref x :: st) u) : rx_WS Z pc als st u := fun H ls locs h1 h2 h3 => lv_aload_n F.1 F.2.1 hd rfl (h2.2.2.2 i.val _ (rx_lg_some hl)) (k H ls locs h1 h2 h3)
theorem rx_t_astore (F : rx_Fr Z) {i : Nat} {x : Nat} (hi : i < zn Z) (hd : decode (zcc Z) pc = .ok (.astore i, 2)) (k : rx_WS Z (pc + 2) (rx_s1 als i (.ref x)) st u) : rx_WS Z pc als (.ref x :: st) u := fun H ls locs h1 h2 h3 => lv_astore F.1 F.2.1 hd h2.has hi rfl fun ls' hl => k H ls' locs h1 (rx_s1_ok h2.1 hi hl) h3
theorem rx_t_astore_n (F : rx_Fr Z) {i : Fin 4} {x : Nat} (hi : i.val < zn Z) (hd : decode (zcc Z) pc = .ok (.astore_n i, 1)) (k : rx_WS Z (pc + 1) (rx_s1 als i.val (.ref x)) st u) : rx_WS Z pc als (.ref x :: st) u := fun H ls locs h1 h2 h3 => lv_astore_n F.1 F.2.1 hd rfl h2.has hi rfl fun ls' hl => k H ls' locs h1 (rx_s1_ok h2.1 hi hl) h3
theorem rx_t_iinc (F : rx_Fr Z) {i : Nat} {n : Int} {x v : Int32} (hv : Int32.ofInt n = v) (hi : i < zn Z) (hl : rx_lg als i = some (.int x)) (hd : decode (zcc Z) pc = .ok (.iinc i n, 3)) (k : rx_WS Z (pc + 3) (rx_s1 als i (.int (x + v))) st u) : rx_WS Z pc als st u := fun H ls locs h1 h2 h3 => by
  obtain ⟨j, hj⟩ := List.getElem?_of_mem (rx_ll_mem (G := zG Z) (rx_lg_some hl))
  exact lv_iinc F.1 F.2.1 hd h2.has hj (by rw [hv]) hi rfl fun ls' hl => k H ls' locs h1 (rx_s1_ok h2.1 hi hl) h3
theorem rx_t_dupI (F : rx_Fr Z) {x : Int32} (hd : decode (zcc Z) pc = .ok (.dup, 1)) (k : rx_WS Z (pc + 1) als (.int x :: .int x :: st) u) : rx_WS Z pc als (.int x :: st) u := fun H ls locs h1 h2 h3 => lv_dup F.1 F.2.1 hd rfl (k H ls locs h1 h2 h3)
theorem rx_t_dupR (F : rx_Fr Z) {x : Nat} (hd : decode (zcc Z) pc = .ok (.dup, 1)) (k : rx_WS Z (pc + 1) als (.ref x :: .ref x :: st) u) : rx_WS Z pc als (.ref x :: st) u := fun H ls locs h1 h2 h3 => lv_dup F.1 F.2.1 hd rfl (k H ls locs h1 h2 h3)
theorem rx_t_dup2R (F : rx_Fr Z) {x : Int32} {y : Nat} (hd : decode (zcc Z) pc = .ok (.dup2, 1)) (k : rx_WS Z (pc + 1) als (.int x :: .ref y :: .int x :: .ref y :: st) u) : rx_WS Z pc als (.int x :: .ref y :: st) u := fun H ls locs h1 h2 h3 => lv_dup2_11 F.1 F.2.1 hd rfl rfl (k H ls locs h1 h2 h3)
theorem rx_t_dup2I (F : rx_Fr Z) {x y : Int32} (hd : decode (zcc Z) pc = .ok (.dup2, 1)) (k : rx_WS Z (pc + 1) als (.int x :: .int y :: .int x :: .int y :: st) u) : rx_WS Z pc als (.int x :: .int y :: st) u := fun H ls locs h1 h2 h3 => lv_dup2_11 F.1 F.2.1 hd rfl rfl (k H ls locs h1 h2 h3)
theorem rx_t_popI (F : rx_Fr Z) {x : Int32} (hd : decode (zcc Z) pc = .ok (.pop, 1)) (k : rx_WS Z (pc + 1) als (st) u) : rx_WS Z pc als (.int x :: st) u := fun H ls locs h1 h2 h3 => lv_pop F.1 F.2.1 hd rfl (k H ls locs h1 h2 h3)
theorem rx_t_popR (F : rx_Fr Z) {x : Nat} (hd : decode (zcc Z) pc = .ok (.pop, 1)) (k : rx_WS Z (pc + 1) als (st) u) : rx_WS Z pc als (.ref x :: st) u := fun H ls locs h1 h2 h3 => lv_pop F.1 F.2.1 hd rfl (k H ls locs h1 h2 h3)
theorem rx_t_ldc (F : rx_Fr Z) {i : Nat} {v : Int32} (hw : Jvm.Cond.constant (zo Z) i v ∈ rx_TB) (hd : decode (zcc Z) pc = .ok (.ldc i, 2)) (k : rx_WS Z (pc + 2) als (.int v :: st) u) : rx_WS Z pc als st u := fun H ls locs h1 h2 h3 => lv_ldc F.1 F.2.1 F.2.2.2.1 (F.2.2.2.2.1 _ hw) hd (k H ls locs h1 h2 h3)
theorem rx_t_ldc_w (F : rx_Fr Z) {i : Nat} {v : Int32} (hw : Jvm.Cond.constant (zo Z) i v ∈ rx_TB) (hd : decode (zcc Z) pc = .ok (.ldc_w i, 3)) (k : rx_WS Z (pc + 3) als (.int v :: st) u) : rx_WS Z pc als st u := fun H ls locs h1 h2 h3 => lv_ldcw F.1 F.2.1 F.2.2.2.1 (F.2.2.2.2.1 _ hw) hd (k H ls locs h1 h2 h3)
theorem rx_t_ldc2 (F : rx_Fr Z) {i : Nat} {v : Int64} (hw : Jvm.Cond.constantLong (zo Z) i v ∈ rx_TB) (hd : decode (zcc Z) pc = .ok (.ldc2_w i, 3)) (k : rx_WS Z (pc + 3) als (.long v :: st) u) : rx_WS Z pc als st u := fun H ls locs h1 h2 h3 => lv_ldc2 F.1 F.2.1 F.2.2.2.1 (F.2.2.2.2.1 _ hw) hd (k H ls locs h1 h2 h3)
theorem rx_t_goto (F : rx_Fr Z) {off : Int} {t : Nat} (ht : (pc : Int) + off = (t : Int)) (hd : decode (zcc Z) pc = .ok (.goto off, 3)) (k : rx_WS Z t als st u) : rx_WS Z pc als st u := fun H ls locs h1 h2 h3 => lv_goto F.1 F.2.1 hd ht (k H ls locs h1 h2 h3)
theorem rx_t_if (F : rx_Fr Z) {cd : ClassFile.Cond} {off : Int} {t : Nat} {x : Int32} (ht : (pc : Int) + off = (t : Int)) (hd : decode (zcc Z) pc = .ok (.ifCond cd off, 3)) {α : Type} {kt kf : Option α} {r : α} (h : rx_if cd x 0 kt kf = some r) (gt : kt = some r → rx_O Z t als st u) (gf : kf = some r → rx_O Z (pc + 3) als st u) : rx_O Z pc als (.int x :: st) u := by
  cases cd <;> simp only [rx_if] at h <;> split at h <;> rename_i hc
  · exact (gt h).map fun k H ls locs h1 h2 h3 => lv_if_eq F.1 F.2.1 hd ht (fun _ => k H ls locs h1 h2 h3) (fun q => absurd hc q)
  · exact (gf h).map fun k H ls locs h1 h2 h3 => lv_if_eq F.1 F.2.1 hd ht (fun q => absurd q hc) (fun _ => k H ls locs h1 h2 h3)
  · exact (gf h).map fun k H ls locs h1 h2 h3 => lv_if_ne F.1 F.2.1 hd ht (fun q => absurd hc q) (fun _ => k H ls locs h1 h2 h3)
  · exact (gt h).map fun k H ls locs h1 h2 h3 => lv_if_ne F.1 F.2.1 hd ht (fun _ => k H ls locs h1 h2 h3) (fun q => absurd q hc)
  · exact (gt h).map fun k H ls locs h1 h2 h3 => lv_if_lt F.1 F.2.1 hd ht (fun _ => k H ls locs h1 h2 h3) (fun q => absurd hc q)
  · exact (gf h).map fun k H ls locs h1 h2 h3 => lv_if_lt F.1 F.2.1 hd ht (fun q => absurd q hc) (fun _ => k H ls locs h1 h2 h3)
  · exact (gf h).map fun k H ls locs h1 h2 h3 => lv_if_ge F.1 F.2.1 hd ht (fun q => absurd hc (Int32.not_lt.mpr q)) (fun _ => k H ls locs h1 h2 h3)
  · exact (gt h).map fun k H ls locs h1 h2 h3 => lv_if_ge F.1 F.2.1 hd ht (fun _ => k H ls locs h1 h2 h3) (fun q => absurd (Int32.not_lt.mp hc) q)
  · exact (gt h).map fun k H ls locs h1 h2 h3 => lv_if_gt F.1 F.2.1 hd ht (fun _ => k H ls locs h1 h2 h3) (fun q => absurd hc q)
  · exact (gf h).map fun k H ls locs h1 h2 h3 => lv_if_gt F.1 F.2.1 hd ht (fun q => absurd q hc) (fun _ => k H ls locs h1 h2 h3)
  · exact (gf h).map fun k H ls locs h1 h2 h3 => lv_if_le F.1 F.2.1 hd ht (fun q => absurd hc (Int32.not_lt.mpr q)) (fun _ => k H ls locs h1 h2 h3)
  · exact (gt h).map fun k H ls locs h1 h2 h3 => lv_if_le F.1 F.2.1 hd ht (fun _ => k H ls locs h1 h2 h3) (fun q => absurd (Int32.not_lt.mp hc) q)
theorem rx_t_icmp (F : rx_Fr Z) {cd : ClassFile.Cond} {off : Int} {t : Nat} {x y : Int32} (ht : (pc : Int) + off = (t : Int)) (hd : decode (zcc Z) pc = .ok (.if_icmp cd off, 3)) {α : Type} {kt kf : Option α} {r : α} (h : rx_if cd x y kt kf = some r) (gt : kt = some r → rx_O Z t als st u) (gf : kf = some r → rx_O Z (pc + 3) als st u) : rx_O Z pc als (.int y :: .int x :: st) u := by
  cases cd <;> simp only [rx_if] at h <;> split at h <;> rename_i hc
  · exact (gt h).map fun k H ls locs h1 h2 h3 => lv_icmp_eq F.1 F.2.1 hd ht (fun _ => k H ls locs h1 h2 h3) (fun q => absurd hc q)
  · exact (gf h).map fun k H ls locs h1 h2 h3 => lv_icmp_eq F.1 F.2.1 hd ht (fun q => absurd q hc) (fun _ => k H ls locs h1 h2 h3)
  · exact (gf h).map fun k H ls locs h1 h2 h3 => lv_icmp_ne F.1 F.2.1 hd ht (fun q => absurd hc q) (fun _ => k H ls locs h1 h2 h3)
  · exact (gt h).map fun k H ls locs h1 h2 h3 => lv_icmp_ne F.1 F.2.1 hd ht (fun _ => k H ls locs h1 h2 h3) (fun q => absurd q hc)
  · exact (gt h).map fun k H ls locs h1 h2 h3 => lv_icmp_lt F.1 F.2.1 hd ht (fun _ => k H ls locs h1 h2 h3) (fun q => absurd hc q)
  · exact (gf h).map fun k H ls locs h1 h2 h3 => lv_icmp_lt F.1 F.2.1 hd ht (fun q => absurd q hc) (fun _ => k H ls locs h1 h2 h3)
  · exact (gf h).map fun k H ls locs h1 h2 h3 => lv_icmp_ge F.1 F.2.1 hd ht (fun q => absurd hc (Int32.not_lt.mpr q)) (fun _ => k H ls locs h1 h2 h3)
  · exact (gt h).map fun k H ls locs h1 h2 h3 => lv_icmp_ge F.1 F.2.1 hd ht (fun _ => k H ls locs h1 h2 h3) (fun q => absurd (Int32.not_lt.mp hc) q)
  · exact (gt h).map fun k H ls locs h1 h2 h3 => lv_icmp_gt F.1 F.2.1 hd ht (fun _ => k H ls locs h1 h2 h3) (fun q => absurd hc q)
  · exact (gf h).map fun k H ls locs h1 h2 h3 => lv_icmp_gt F.1 F.2.1 hd ht (fun q => absurd q hc) (fun _ => k H ls locs h1 h2 h3)
  · exact (gf h).map fun k H ls locs h1 h2 h3 => lv_icmp_le F.1 F.2.1 hd ht (fun q => absurd hc (Int32.not_lt.mpr q)) (fun _ => k H ls locs h1 h2 h3)
  · exact (gt h).map fun k H ls locs h1 h2 h3 => lv_icmp_le F.1 F.2.1 hd ht (fun _ => k H ls locs h1 h2 h3) (fun q => absurd (Int32.not_lt.mp hc) q)
theorem rx_ifJ_if {cd : ClassFile.Cond} {x y : Int64} {α : Type} {kt kf : Option α} : rx_ifJ cd x y kt kf = rx_if cd (lg_cmp x y) 0 kt kf := by
  have e1 : (lg_cmp x y = 0) = (x = y) := propext (lg_cmp_eq x y)
  have e2 : (lg_cmp x y < 0) = (x < y) := propext (lg_cmp_lt x y)
  have e3 : (0 < lg_cmp x y) = (y < x) := propext (lg_cmp_gt x y)
  cases cd <;> simp only [rx_ifJ, rx_if, e1, e2, e3]
theorem rx_t_lcmp (F : rx_Fr Z) {x y : Int64} (hd : decode (zcc Z) pc = .ok (.lcmp, 1)) (k : rx_O Z (pc + 1) als (.int (lg_cmp x y) :: st) u) : rx_O Z pc als (.long y :: .long x :: st) u := k.map fun k H ls locs h1 h2 h3 => W.lcmp F.1 F.2.1 hd (k H ls locs h1 h2 h3)
end rxT
end
section
/-! ===== Fields, arrays, new cells ===== -/
theorem rx_lin {a : Nat} {q : vw_C} (h : rx_cl[a]? = some q) : ∀ w ∈ u_ws q.1 q.2.1 q.2.2, w ∈ rx_TB := by
  match a, h with
  | 0, h => cases h; exact rx_l0
  | 1, h => cases h; exact rx_l1
  | 2, h => cases h; exact rx_l2
  | 3, h => cases h; exact rx_l3
  | n + 4, h => simp [rx_cl] at h
theorem rx_yok {a : Nat} {q : vw_C} (h : rx_cl[a]? = some q) : ∀ k, k < q.2.2 → parseFieldDescriptor (q.2.1 k).2.2.1 = some (rx_ty a k) := by
  match a, h with
  | 0, h => cases h; exact rx_yo0
  | 1, h => cases h; exact rx_yo1
  | 2, h => cases h; exact rx_yo2
  | 3, h => cases h; exact rx_yo3
  | n + 4, h => simp [rx_cl] at h
theorem rx_nok {a : Nat} {q : vw_C} (h : rx_cl[a]? = some q) : ∀ x, x < q.2.2 → ∀ y, y < q.2.2 → x ≠ y → (q.2.1 x).2.1 ≠ (q.2.1 y).2.1 := by
  match a, h with
  | 0, h => cases h; exact rx_n0
  | 1, h => cases h; exact rx_n1
  | 2, h => cases h; exact rx_n2
  | 3, h => cases h; exact rx_n3
  | n + 4, h => simp [rx_cl] at h
theorem rx_fd_some {u : Option rx_H} {r c k : Nat} {v : Value} (h : rx_fd u r c k = some v) : ∃ (h0 : rx_H) (fs : List Value), u = some h0 ∧ h0.2[r]? = some (.inr (c, fs)) ∧ fs[k]? = some v := by
  unfold rx_fd at h
  split at h
  · cases h
  · next h0 =>
    split at h
    · next c' fs hc =>
      split at h
      · next he => subst he; exact ⟨h0, fs, rfl, hc, h⟩
      · cases h
    · cases h
theorem rx_lt6 {h : rx_H} {G : rx_G} {H : Heap} (hR : rx_R G h H) {r : Nat} {c : rx_C} (hr : h.2[r]? = some c) : r < 1000000 := by
  have h1 := (List.getElem?_eq_some_iff.mp hr).1
  have h2 := hR.2.2.1
  omega
section rxH
variable {Z : rx_Z} {pc : Nat} {als : rx_L} {st : List Value} {u u' : Option rx_H}
theorem rx_t_getf (F : rx_Fr Z) {i a k r : Nat} {v : Value} {q : vw_C} (hc : rx_cl[a]? = some q) (hk : k < q.2.2) (hw : Cond.fieldLink (zo Z) i (q.2.1 k).1 (q.2.1 k).2.1 (q.2.1 k).2.2.1 ∈ rx_TB) (hf : rx_fd u r a k = some v) (hd : decode (zcc Z) pc = .ok (.getfield i, 3)) (kk : rx_WS Z (pc + 3) als (v :: st) u) : rx_WS Z pc als (.ref r :: st) u := by
  obtain ⟨h0, fs, rfl, hr, hv⟩ := rx_fd_some hf
  intro H ls locs h1 h2 h3
  have hk2 := kk H ls locs h1 h2 h3
  have hR : rx_R (zG Z) h0 H := h1
  obtain ⟨q', hq', hlen, cell, q1, q2, q3, q4⟩ := hR.1 r _ hr
  cases hc.symm.trans hq'
  obtain ⟨hS, hfc, kC, hkC, hkind⟩ := F.2.2.2.2.2.1.1.1 a _ hc
  obtain ⟨cf, kf, fi, f, hi, hsl⟩ := hS k hk
  show W _ _ _ _ _ _ _ _ _ _ H locs _ _ _ (F0 _ pc ls (.ref (rx_ad (zG Z) r) :: st.map (rx_ev (zG Z))))
  rw [rx_ad_lt _ (rx_lt6 hR hr)]
  refine W.getf F.1 F.2.1 F.2.2.2.1 (F.2.2.2.2.1 _ hw) hi (u_facts hfc hkC (u_lays F.2.2.2.2.1 (rx_lin hc) hk) hi).1 q1 (by rw [q3]; exact fun h => by cases h) (v := rx_ev (zG Z) v) ?_ rfl rfl hd hk2
  rw [hsl, q4 k hk]
  simp [vp_V, hv]
theorem rx_t_put (F : rx_Fr Z) {i a k r : Nat} {v : Value} {q : vw_C} (hc : rx_cl[a]? = some q) (hk : k < q.2.2) (hw : Cond.fieldLink (zo Z) i (q.2.1 k).1 (q.2.1 k).2.1 (q.2.1 k).2.2.1 ∈ rx_TB) (hn : narrow (rx_ty a k) (rx_ev (zG Z) v) = rx_ev (zG Z) v) (hfit : fits (rx_ty a k) (rx_ev (zG Z) v) = true) (hfin : (q.2.1 k).2.2.2 = false ∨ (zi Z = true ∧ (q.2.1 k).1 = zo Z))
    (hp : rx_p u r a k v = some u') (hd : decode (zcc Z) pc = .ok (.putfield i, 3)) (kk : rx_O Z (pc + 3) als st u') : rx_O Z pc als (v :: .ref r :: st) u := by
  unfold rx_p at hp
  split at hp
  · cases hp
  next h0 =>
  split at hp
  case h_2 => cases hp
  next c' fs hr =>
  split at hp
  case isFalse => cases hp
  next hcl =>
  obtain ⟨rfl, hl⟩ := hcl
  cases hp
  have el : (h0.2.set r (.inr (c', fs.set k v))).length = h0.2.length := by simp
  have es : rx_sl (h0.1, h0.2.set r (.inr (c', fs.set k v))) = rx_sl h0 := rx_sl_set hr (by simp [rx_sl1])
  intro g1 g2
  obtain ⟨g3, g4⟩ := kk (by show zn0 Z ≤ (h0.2.set r _).length; rw [el]; exact g1) (by show zs0 Z ≤ rx_sl (h0.1, h0.2.set r _); rw [es]; exact g2)
  refine ⟨⟨by show h0.2.length ≤ _; rw [← el]; exact g3.1, by show rx_sl h0 ≤ _; rw [← es]; exact g3.2⟩, ?_⟩
  intro H ls locs h1 h2 h3
  have hR : rx_R (zG Z) h0 H := h1
  obtain ⟨q', hq', hlen, cell, q1, q2, q3, q4⟩ := hR.1 r _ hr
  cases hc.symm.trans hq'
  have hK := F.2.2.2.2.2.1.1
  have hts := F.2.2.2.2.1
  obtain ⟨hS, hfc, kC, hkC, hkind⟩ := hK.1 c' _ hc
  obtain ⟨cf, kf, fi, f, hi, hsl⟩ := hS k hk
  have hap := va_apart (own := zo Z) hts (rx_lin hc) (rx_ty c') (rx_yok hc) (rx_nok hc) hK hc
  have hst := (u_facts hfc hkC (u_lays hts (rx_lin hc) hk) hi).1
  have hlay := hts _ (rx_lin hc _ (u_in_lay hk))
  show W _ _ _ _ _ _ _ _ _ _ H locs _ _ _ (F0 _ pc ls (rx_ev (zG Z) v :: .ref (rx_ad (zG Z) r) :: st.map (rx_ev (zG Z))))
  rw [rx_ad_lt _ (rx_lt6 hR hr)]
  have fin : ∀ H' : Heap, H'[rx_base (zG Z) + r]? = some (cell.setSlot f.slot (rx_ev (zG Z) v)) → H'.size = H.size → (∀ q, q ≠ rx_base (zG Z) + r → H'[q]? = H[q]?) →
      zW Z H' (locs ++ [⟨rx_base (zG Z) + r, f.slot⟩]) (h0.2.length - zn0 Z) (rx_sl h0 - zs0 Z) (F0 (zM Z) (pc + 3) ls (st.map (rx_ev (zG Z)))) := by
    intro H' e1 e2 e3
    rw [hsl] at e1
    have hc1 : rx_at (zG Z) (.inr (c', fs.set k v)) (rx_base (zG Z) + r) H' := by
      refine ⟨_, hc, by simpa using hlen, t_OB.to (V := updV (vp_V (fs.map (rx_ev (zG Z)))) k (rx_ev (zG Z) v)) ⟨_, e1, q2, q3, t_set q4 hap hk _⟩ (fun j _ => ?_)⟩
      rw [vp_updV_set (by simpa using hl), List.map_set]
    have := g4 H' ls (locs ++ [⟨rx_base (zG Z) + r, f.slot⟩]) (hR.set hr hc1 e2 e3) h2 (t_lc h3 (Nat.le_add_right _ _))
    have e5 : (rx_u Z (some (h0.1, h0.2.set r (.inr (c', fs.set k v))))).2.length = h0.2.length := el
    have e6 : rx_sl (rx_u Z (some (h0.1, h0.2.set r (.inr (c', fs.set k v))))) = rx_sl h0 := es
    rw [e5, e6] at this
    exact this
  by_cases hff : (q.2.1 k).2.2.2 = false
  · unfold u_lay at hlay
    rw [if_neg (by rw [hff]; decide)] at hlay
    have h6 := u_store hfc hkC hkind hlay hi (rx_yok hc k hk) hn hfit
    exact W.putK F.1 F.2.1 (f := f) ⟨F.2.2.2.1, hts _ hw, ⟨_, _, _, hi⟩, hst⟩ (by rw [q2]; exact h6) q1 q3 (by rw [hsl]; exact k2_hasslot (q4 k hk)) rfl rfl hd fin
  · have hft : (q.2.1 k).2.2.2 = true := by simpa using hff
    rcases hfin with hfin | ⟨hini, hdecl⟩
    · exact absurd hfin hff
    unfold u_lay at hlay
    rw [if_pos hft] at hlay
    have hcf : (zM Z).cls = cf := by
      obtain ⟨_, _, c2, _, _, _, -, -, hf', -, -, -, hown2, -⟩ := Cond.laysFinal_spec hlay
      have e1 : c2 = cf := by have := hi.symm.trans hf'; simp at this; exact this.1.symm
      rw [hdecl] at hown2
      rw [← e1]; exact Option.some.inj (F.2.2.2.1.symm.trans hown2)
    have h6 := u_fits hfc hkC hkind (Or.inr hlay) hi (rx_yok hc k hk) hn hfit
    exact W.putFinK F.1 F.2.1 F.2.2.2.1 (hts _ hw) hi hst hcf (F.2.2.2.2.2.2.1 hini) (by rw [q2]; exact h6) q1 q3 (by rw [hsl]; exact k2_hasslot (q4 k hk)) rfl rfl hd fin
/-- an array that was there before -/
theorem rx_oldAt {G : rx_G} {a n : Nat} {ty : FieldType} {f : Nat → Value} {U : State} {h : rx_H} {H : Heap} (ho : rx_old G a ty n f U) (hR : rx_R G h H) : ∃ scr : Cell, H[a]? = some scr ∧ U.isArrayOf scr ty ∧ scr.vm ≠ .unknown ∧ scr.slots.size = n ∧ ∀ j, j < n → scr.slots[j]? = some (f j) := by
  obtain ⟨hl, scr, h1, h2⟩ := ho
  exact ⟨scr, by rw [hR.2.2.2.1 a hl]; exact h1, h2⟩
theorem rx_t_iald (F : rx_Fr Z) {i x : Int32} {r : Nat} (hx : rx_aI u r i = some x) (hd : decode (zcc Z) pc = .ok (.iaload, 1)) (kk : rx_WS Z (pc + 1) als (.int x :: st) u) : rx_WS Z pc als (.int i :: .ref r :: st) u := by
  intro H ls locs h1 h2 h3
  have hk2 := kk H ls locs h1 h2 h3
  show W _ _ _ _ _ _ _ _ _ _ H locs _ _ _ (F0 _ pc ls (.int i :: .ref (rx_ad (zG Z) r) :: st.map (rx_ev (zG Z))))
  unfold rx_aI at hx
  split at hx
  · next hr =>
    subst hr
    split at hx
    · cases hx
    next hi =>
    obtain ⟨scr, e1, e2, e3, e4, e5⟩ := rx_oldAt F.2.2.2.2.2.1.2.2.2.2.2.2.1 h1
    have hlt : i.toNatClampNeg < 7 := (List.getElem?_eq_some_iff.mp hx).1
    have hg : rx_F.getD i.toNatClampNeg 0 = x := by rw [List.getD_eq_getElem?_getD, hx]; rfl
    have ha : rx_ad (zG Z) 1000002 = rx_af (zG Z) := rfl
    rw [ha]
    exact W.iald (v := .int x) F.1 F.2.1 e1 e2 e3 (by rw [e4]; intro q; rcases q with q | q; exact hi q; omega) (by rw [e5 _ hlt, hg]) rfl rfl hd hk2
  · next hr2 =>
    split at hx
    · cases hx
    next h0 =>
    split at hx
    · next hr =>
      subst hr
      split at hx
      · cases hx
      next hi =>
      cases hx
      have hR : rx_R (zG Z) h0 H := h1
      obtain ⟨scr, e1, e2, e3, e4, e5⟩ := rx_oldAt F.2.2.2.2.2.1.2.1 h1
      have ha : rx_ad (zG Z) 1000000 = rx_ab (zG Z) := rfl
      rw [ha]
      rw [hR.2.2.2.2] at hi hk2
      have hlt : i.toNatClampNeg < (rx_sc (zG Z)).1 := Nat.not_le.mp fun q => hi (Or.inr q)
      exact W.iald F.1 F.2.1 e1 e2 e3 (by rw [e4]; exact hi) (e5 _ hlt) rfl rfl hd hk2
    · next hr1 =>
      split at hx
      · next n f hc =>
        split at hx
        · cases hx
        next hi =>
        cases hx
        have hR : rx_R (zG Z) h0 H := h1
        rw [rx_ad_lt _ (rx_lt6 hR hc)]
        have hlt : i.toNatClampNeg < n := Nat.not_le.mp fun q => hi (Or.inr q)
        exact W.iald F.1 F.2.1 (hR.1 r _ hc) ((F.2.2.2.2.2.1.1.2 0 _ rfl).1 n (fun j => .int (f j))) (fun q => by cases q) (by rw [arrV_size]; exact hi) (arrV_read _ _ hlt) rfl rfl hd hk2
      · cases hx
theorem rx_t_lald (F : rx_Fr Z) {i : Int32} {x : Int64} {r : Nat} (hx : rx_aJ u r i = some x) (hd : decode (zcc Z) pc = .ok (.laload, 1)) (kk : rx_WS Z (pc + 1) als (.long x :: st) u) : rx_WS Z pc als (.int i :: .ref r :: st) u := by
  intro H ls locs h1 h2 h3
  have hk2 := kk H ls locs h1 h2 h3
  show W _ _ _ _ _ _ _ _ _ _ H locs _ _ _ (F0 _ pc ls (.int i :: .ref (rx_ad (zG Z) r) :: st.map (rx_ev (zG Z))))
  unfold rx_aJ at hx
  split at hx
  · next hr =>
    subst hr
    split at hx
    · cases hx
    next hi =>
    obtain ⟨scr, e1, e2, e3, e4, e5⟩ := rx_oldAt F.2.2.2.2.2.1.2.2.2.2.1 h1
    have hlt : i.toNatClampNeg < 6 := (List.getElem?_eq_some_iff.mp hx).1
    have hg : rx_W.getD i.toNatClampNeg 0 = x := by rw [List.getD_eq_getElem?_getD, hx]; rfl
    have ha : rx_ad (zG Z) 1000001 = rx_aw (zG Z) := rfl
    rw [ha]
    exact W.lald (v := .long x) F.1 F.2.1 e1 e2 e3 (by rw [e4]; intro q; rcases q with q | q; exact hi q; omega) (by rw [e5 _ hlt, hg]) rfl rfl hd hk2
  · split at hx
    · cases hx
    next h0 =>
    split at hx
    · next n f hc =>
      split at hx
      · cases hx
      next hi =>
      cases hx
      have hR : rx_R (zG Z) h0 H := h1
      rw [rx_ad_lt _ (rx_lt6 hR hc)]
      have hlt : i.toNatClampNeg < n := Nat.not_le.mp fun q => hi (Or.inr q)
      exact W.lald F.1 F.2.1 (hR.1 r _ hc) ((F.2.2.2.2.2.1.1.2 1 _ rfl).1 n (fun j => .long (f j))) (fun q => by cases q) (by rw [arrV_size]; exact hi) (arrV_read _ _ hlt) rfl rfl hd hk2
    · cases hx
theorem rx_t_aald (F : rx_Fr Z) {i : Int32} {x : Nat} {r : Nat} (hx : rx_aR u r i = some x) (hd : decode (zcc Z) pc = .ok (.aaload, 1)) (kk : rx_WS Z (pc + 1) als (.ref x :: st) u) : rx_WS Z pc als (.int i :: .ref r :: st) u := by
  intro H ls locs h1 h2 h3
  have hk2 := kk H ls locs h1 h2 h3
  show W _ _ _ _ _ _ _ _ _ _ H locs _ _ _ (F0 _ pc ls (.int i :: .ref (rx_ad (zG Z) r) :: st.map (rx_ev (zG Z))))
  unfold rx_aR at hx
  split at hx
  · cases hx
  next h0 =>
  split at hx
  · next n f hc =>
    split at hx
    · cases hx
    next hi =>
    have hR : rx_R (zG Z) h0 H := h1
    rw [rx_ad_lt _ (rx_lt6 hR hc)]
    have hlt : i.toNatClampNeg < n := Nat.not_le.mp fun q => hi (Or.inr q)
    have hA := (F.2.2.2.2.2.1.1.2 2 _ rfl).1
    exact W.aald (v := .ref (rx_ad (zG Z) x)) F.1 F.2.1 (hR.1 r _ hc) (hA n (fun j => va_rf ((f j).map (rx_ad (zG Z))))) rfl (fun q => by cases q) (by rw [arrV_size]; exact hi) (by rw [arrV_read _ _ hlt, hx]; rfl) rfl rfl hd hk2
  · cases hx
theorem rx_t_len (F : rx_Fr Z) {x : Int32} {r : Nat} (hx : rx_len u r = some x) (hd : decode (zcc Z) pc = .ok (.arraylength, 1)) (kk : rx_WS Z (pc + 1) als (.int x :: st) u) : rx_WS Z pc als (.ref r :: st) u := by
  intro H ls locs h1 h2 h3
  have hk2 := kk H ls locs h1 h2 h3
  unfold rx_len at hx
  split at hx
  · cases hx
  next h0 =>
  split at hx
  · next hr =>
    subst hr
    cases hx
    have hR : rx_R (zG Z) h0 H := h1
    obtain ⟨scr, e1, e2, e3, e4, e5⟩ := rx_oldAt F.2.2.2.2.2.1.2.1 h1
    rw [hR.2.2.2.2] at hk2
    exact W.alen (n := Int32.ofNat (rx_sc (zG Z)).1) F.1 F.2.1 e1 e2 (by rw [e4] <;> rfl) rfl rfl hd hk2
  · cases hx
/-- what is put into an array -/
theorem rx_putA {h0 : rx_H} {r : Nat} {c c1 : rx_C} (hr : h0.2[r]? = some c) (hs : rx_sl1 c1 = rx_sl1 c) (kk : rx_O Z pc als st (some (h0.1, h0.2.set r c1)))
    {pc' : Nat} {st' : List Value} (step : (∀ (H' : Heap) (ls : Array Slot) (locs : List Loc), rx_R (zG Z) (h0.1, h0.2.set r c1) H' → rx_lo (zG Z) ls (zn Z) als → (∀ q ∈ locs, rx_base (zG Z) ≤ q.base) → zW Z H' locs (h0.2.length - zn0 Z) (rx_sl h0 - zs0 Z) (F0 (zM Z) pc ls (st.map (rx_ev (zG Z))))) → rx_WS Z pc' als st' (some h0)) : rx_O Z pc' als st' (some h0) := by
  have el : (h0.2.set r c1).length = h0.2.length := by simp
  have es : rx_sl (h0.1, h0.2.set r c1) = rx_sl h0 := rx_sl_set hr hs
  intro g1 g2
  obtain ⟨g3, g4⟩ := kk (by show zn0 Z ≤ (h0.2.set r _).length; rw [el]; exact g1) (by show zs0 Z ≤ rx_sl (h0.1, h0.2.set r _); rw [es]; exact g2)
  refine ⟨⟨by show h0.2.length ≤ _; rw [← el]; exact g3.1, by show rx_sl h0 ≤ _; rw [← es]; exact g3.2⟩, step fun H' ls locs h1 h2 h3 => ?_⟩
  have := g4 H' ls locs h1 h2 h3
  have e5 : (rx_u Z (some (h0.1, h0.2.set r c1))).2.length = h0.2.length := el
  have e6 : rx_sl (rx_u Z (some (h0.1, h0.2.set r c1))) = rx_sl h0 := es
  rw [e5, e6] at this
  exact this
theorem rx_t_iast (F : rx_Fr Z) {i x : Int32} {r : Nat} (hx : rx_sI u r i x = some u') (hd : decode (zcc Z) pc = .ok (.iastore, 1)) (kk : rx_O Z (pc + 1) als st u') : rx_O Z pc als (.int x :: .int i :: .ref r :: st) u := by
  unfold rx_sI at hx
  split at hx
  · cases hx
  next h0 =>
  split at hx
  case h_2 => cases hx
  next n f hc =>
  split at hx
  case isTrue => cases hx
  next hi =>
  cases hx
  refine rx_putA hc (by rfl) kk fun k H ls locs h1 h2 h3 => ?_
  have hR : rx_R (zG Z) h0 H := h1
  show W _ _ _ _ _ _ _ _ _ _ H locs _ _ _ (F0 _ pc ls (.int x :: .int i :: .ref (rx_ad (zG Z) r) :: st.map (rx_ev (zG Z))))
  rw [rx_ad_lt _ (rx_lt6 hR hc)]
  refine W.iast F.1 F.2.1 (hR.1 r _ hc) ((F.2.2.2.2.2.1.1.2 0 _ rfl).1 n (fun j => .int (f j))) (fun q => by cases q) (by rw [arrV_size]; exact hi) rfl rfl hd fun H1 e z oq => ?_
  refine k H1 ls _ (hR.set hc ?_ z oq) h2 (t_lc h3 (Nat.le_add_right _ _))
  show H1[_]? = some (arrV _ _ _)
  rw [e, arrV_store]
  congr 2
  funext q
  by_cases hq : q = i.toNatClampNeg
  · subst hq
    simp [updV, upd]
  · simp [updV, upd, hq]
theorem rx_t_last (F : rx_Fr Z) {i : Int32} {x : Int64} {r : Nat} (hx : rx_sJ u r i x = some u') (hd : decode (zcc Z) pc = .ok (.lastore, 1)) (kk : rx_O Z (pc + 1) als st u') : rx_O Z pc als (.long x :: .int i :: .ref r :: st) u := by
  unfold rx_sJ at hx
  split at hx
  · cases hx
  next h0 =>
  split at hx
  case h_2 => cases hx
  next n f hc =>
  split at hx
  case isTrue => cases hx
  next hi =>
  cases hx
  refine rx_putA hc (by rfl) kk fun k H ls locs h1 h2 h3 => ?_
  have hR : rx_R (zG Z) h0 H := h1
  show W _ _ _ _ _ _ _ _ _ _ H locs _ _ _ (F0 _ pc ls (.long x :: .int i :: .ref (rx_ad (zG Z) r) :: st.map (rx_ev (zG Z))))
  rw [rx_ad_lt _ (rx_lt6 hR hc)]
  refine W.last F.1 F.2.1 (hR.1 r _ hc) ((F.2.2.2.2.2.1.1.2 1 _ rfl).1 n (fun j => .long (f j))) (fun q => by cases q) (by rw [arrV_size]; exact hi) rfl rfl hd fun H1 e z oq => ?_
  refine k H1 ls _ (hR.set hc ?_ z oq) h2 (t_lc h3 (Nat.le_add_right _ _))
  show H1[_]? = some (arrV _ _ _)
  rw [e, arrV_store]
  congr 2
  funext q
  by_cases hq : q = i.toNatClampNeg
  · subst hq
    simp [updV, vp_updL]
  · simp [updV, vp_updL, hq]
theorem rx_t_aast (F : rx_Fr Z) {i : Int32} {x : Nat} {r : Nat} (hx : rx_sR u r i x = some u') (hd : decode (zcc Z) pc = .ok (.aastore, 1)) (kk : rx_O Z (pc + 1) als st u') : rx_O Z pc als (.ref x :: .int i :: .ref r :: st) u := by
  unfold rx_sR at hx
  split at hx
  · cases hx
  next h0 =>
  split at hx
  case h_2 => cases hx
  next n f gs hc hv =>
  split at hx
  case isTrue => cases hx
  next hi =>
  cases hx
  refine rx_putA hc (by rfl) kk fun k H ls locs h1 h2 h3 => ?_
  have hR : rx_R (zG Z) h0 H := h1
  show W _ _ _ _ _ _ _ _ _ _ H locs _ _ _ (F0 _ pc ls (.ref (rx_ad (zG Z) x) :: .int i :: .ref (rx_ad (zG Z) r) :: st.map (rx_ev (zG Z))))
  have hax := rx_ad_lt (zG Z) (rx_lt6 hR hv)
  rw [rx_ad_lt _ (rx_lt6 hR hc), hax]
  have hlt : i.toNatClampNeg < n := Nat.not_le.mp fun q => hi (Or.inr q)
  have hi0 : ¬ i < 0 := fun q => hi (Or.inl q)
  obtain ⟨r', hr', hln, cellV, g1, g2, g3, -⟩ := hR.1 x _ hv
  have hK := F.2.2.2.2.2.1.1
  have hcls := (hK.1 0 _ rfl).2
  obtain ⟨kA, comp, k1, k2, k3, -⟩ := (hK.2 2 _ rfl).2
  have hcomp : comp = (rx_D (zG Z)).1 0 := Option.some.inj (k3.symm.trans hcls.1)
  subst hcomp
  obtain ⟨kC, hkC, -⟩ := hcls.2
  refine W.aast F.1 F.2.1 (hR.1 r _ hc) (fun q h => by cases h) (fun h => by cases h) k1 k2 rfl hkC ⟨hi0, by rw [arrV_size]; exact hlt⟩ g1 (fun q h => by rw [g3] at h; cases h) (by rw [g2]; exact hkC) (by rw [g2]; exact va_assign hcls) rfl rfl hd fun H1 e z oq => ?_
  refine k H1 ls _ (hR.set hc ?_ z oq) h2 (t_lc h3 (Nat.le_add_right _ _))
  show H1[_]? = some (arrV _ _ _)
  rw [e, arrV_store]
  congr 2
  funext q
  by_cases hq : q = i.toNatClampNeg
  · subst hq
    simp [updV, va_up, va_rf, hax]
  · simp [updV, va_up, hq]
theorem rx_t_gets (F : rx_Fr Z) {i a : Nat} {C n d : String} {v : Nat} (ha : rx_ad (zG Z) a = v) (hZ : va_Z C n d (.ref v) (fun q => rx_base (zG Z) ≤ q) (zS Z) (rx_H0 (zG Z))) (hw : Cond.fieldLink (zo Z) i C n d ∈ rx_TB) (hd : decode (zcc Z) pc = .ok (.getstatic i, 3)) (kk : rx_WS Z (pc + 3) als (.ref a :: st) u) : rx_WS Z pc als st u := by
  intro H ls locs h1 h2 h3
  have hk2 := kk H ls locs h1 h2 h3
  obtain ⟨cf, kf, fi, f, a1, cell, e1, e2, e3, e4, e5, e6, e7, e8⟩ := hZ
  have hk3 : zW Z H locs ((rx_u Z u).2.length - zn0 Z) (rx_sl (rx_u Z u) - zs0 Z) (F0 (zM Z) (pc + 3) ls (.ref v :: st.map (rx_ev (zG Z)))) := by rw [← ha]; exact hk2
  exact W.gets F.1 F.2.1 F.2.2.2.1 (F.2.2.2.2.1 _ hw) e1 e2 e3 e4 (by rw [h1.2.2.2.1 a1 (by omega)]; exact e5) (fun e => by rw [e] at e6; cases e6) e7 rfl hd hk3
/-! new cells -/
theorem rx_pushO {h0 : rx_H} {c1 : rx_C} (F : rx_Fr Z) (kk : rx_O Z pc als st (some (h0.1, h0.2 ++ [c1])))
    {pc' : Nat} {st' : List Value} (step : (h0.2.length - zn0 Z) + 1 ≤ (zR Z).cells → (rx_sl h0 - zs0 Z) + rx_sl1 c1 ≤ (zR Z).slots → (∀ (H' : Heap) (ls : Array Slot) (locs : List Loc), rx_R (zG Z) (h0.1, h0.2 ++ [c1]) H' → rx_lo (zG Z) ls (zn Z) als → (∀ q ∈ locs, rx_base (zG Z) ≤ q.base) → zW Z H' locs ((h0.2.length - zn0 Z) + 1) ((rx_sl h0 - zs0 Z) + rx_sl1 c1) (F0 (zM Z) pc ls (st.map (rx_ev (zG Z))))) → rx_WS Z pc' als st' (some h0)) : rx_O Z pc' als st' (some h0) := by
  have el : (h0.2 ++ [c1]).length = h0.2.length + 1 := by simp
  have es : rx_sl (h0.1, h0.2 ++ [c1]) = rx_sl h0 + rx_sl1 c1 := rx_sl_push h0 c1
  intro g1 g2
  have g1' : zn0 Z ≤ h0.2.length := g1
  have g2' : zs0 Z ≤ rx_sl h0 := g2
  obtain ⟨⟨g3, g3'⟩, g4⟩ := kk (by show zn0 Z ≤ (h0.2 ++ [c1]).length; omega) (by show zs0 Z ≤ rx_sl (h0.1, h0.2 ++ [c1]); omega)
  have g5 : h0.2.length + 1 ≤ zn1 Z := by rw [← el]; exact g3
  have g6 : rx_sl h0 + rx_sl1 c1 ≤ zs1 Z := by rw [← es]; exact g3'
  have hc := F.2.2.2.2.2.2.2.2.2.1
  have hs := F.2.2.2.2.2.2.2.2.2.2
  refine ⟨⟨by show h0.2.length ≤ _; omega, by show rx_sl h0 ≤ _; omega⟩, step (by omega) (by omega) fun H' ls locs h1 h2 h3 => ?_⟩
  have := g4 H' ls locs h1 h2 h3
  have e5 : (rx_u Z (some (h0.1, h0.2 ++ [c1]))).2.length - zn0 Z = (h0.2.length - zn0 Z) + 1 := by show (h0.2 ++ [c1]).length - zn0 Z = _; omega
  have e6 : rx_sl (rx_u Z (some (h0.1, h0.2 ++ [c1]))) - zs0 Z = (rx_sl h0 - zs0 Z) + rx_sl1 c1 := by show rx_sl (h0.1, h0.2 ++ [c1]) - zs0 Z = _; omega
  rw [e5, e6] at this
  exact this
theorem rx_push_some {c1 : rx_C} {q : Nat × Option rx_H} (h : rx_push u c1 = some q) : ∃ h0 : rx_H, u = some h0 ∧ h0.2.length < 999999 ∧ q = (h0.2.length, some (h0.1, h0.2 ++ [c1])) := by
  unfold rx_push at h
  split at h
  · cases h
  next h0 =>
  split at h
  · next hl => cases h; exact ⟨h0, rfl, hl, rfl⟩
  · cases h
theorem rx_t_newI (F : rx_Fr Z) {n : Int32} {q : Nat × Option rx_H} (hx : rx_nI u n = some q) (hw : Cond.arrayClass .int ∈ rx_TB) (hd : decode (zcc Z) pc = .ok (.newarray .int, 2)) (kk : rx_O Z (pc + 2) als (.ref q.1 :: st) q.2) : rx_O Z pc als (.int n :: st) u := by
  unfold rx_nI at hx
  split at hx
  · cases hx
  next hn =>
  obtain ⟨h0, rfl, hl, rfl⟩ := rx_push_some hx
  refine rx_pushO F kk fun hc hs k H ls locs h1 h2 h3 => ?_
  have hR : rx_R (zG Z) h0 H := h1
  refine va_newaK F.1 F.2.1 (atype := .int) (F.2.2.2.2.1 _ hw) rfl hd rfl (fun q => hn (Or.inl q)) rfl ?_ hc hs rfl fun H' cA e z o hA hf => ?_
  · have : n.toNatClampNeg ≤ 100000 := Nat.not_lt.mp fun q => hn (Or.inr q)
    show n.toNatClampNeg * 4 ≤ 536870912
    omega
  · have hcA : cA = rx_cI (zG Z) := Option.some.inj (hf.symm.trans (F.2.2.2.2.2.1.1.2 0 _ rfl).2)
    subst hcA
    have hz : H.size = rx_base (zG Z) + h0.2.length := hR.2.1
    have hr := k H' ls locs (hR.push hl (by rw [← hz]; exact e) z o) h2 h3
    have ha : rx_ad (zG Z) h0.2.length = H.size := by rw [rx_ad_lt _ (by omega), hz]
    have hr2 : zW Z H' locs ((h0.2.length - zn0 Z) + 1) ((rx_sl h0 - zs0 Z) + n.toNatClampNeg) (F0 (zM Z) (pc + 2) ls (.ref H.size :: st.map (rx_ev (zG Z)))) := by rw [← ha]; exact hr
    exact hr2
theorem rx_t_newJ (F : rx_Fr Z) {n : Int32} {q : Nat × Option rx_H} (hx : rx_nJ u n = some q) (hw : Cond.arrayClass .long ∈ rx_TB) (hd : decode (zcc Z) pc = .ok (.newarray .long, 2)) (kk : rx_O Z (pc + 2) als (.ref q.1 :: st) q.2) : rx_O Z pc als (.int n :: st) u := by
  unfold rx_nJ at hx
  split at hx
  · cases hx
  next hn =>
  obtain ⟨h0, rfl, hl, rfl⟩ := rx_push_some hx
  refine rx_pushO F kk fun hc hs k H ls locs h1 h2 h3 => ?_
  have hR : rx_R (zG Z) h0 H := h1
  refine va_newaK F.1 F.2.1 (atype := .long) (F.2.2.2.2.1 _ hw) rfl hd rfl (fun q => hn (Or.inl q)) rfl ?_ hc hs rfl fun H' cA e z o hA hf => ?_
  · have : n.toNatClampNeg ≤ 100000 := Nat.not_lt.mp fun q => hn (Or.inr q)
    show n.toNatClampNeg * 8 ≤ 536870912
    omega
  · have hcA : cA = rx_cJ (zG Z) := Option.some.inj (hf.symm.trans (F.2.2.2.2.2.1.1.2 1 _ rfl).2)
    subst hcA
    have hz : H.size = rx_base (zG Z) + h0.2.length := hR.2.1
    have hr := k H' ls locs (hR.push hl (by rw [← hz]; exact e) z o) h2 h3
    have ha : rx_ad (zG Z) h0.2.length = H.size := by rw [rx_ad_lt _ (by omega), hz]
    have hr2 : zW Z H' locs ((h0.2.length - zn0 Z) + 1) ((rx_sl h0 - zs0 Z) + n.toNatClampNeg) (F0 (zM Z) (pc + 2) ls (.ref H.size :: st.map (rx_ev (zG Z)))) := by rw [← ha]; exact hr
    exact hr2
theorem rx_t_newR (F : rx_Fr Z) {n : Int32} {i : Nat} {q : Nat × Option rx_H} (hx : rx_nR u n = some q) (hw : Cond.classLink (zo Z) i "SetHouse$Place" ∈ rx_TB) (hd : decode (zcc Z) pc = .ok (.anewarray i, 3)) (kk : rx_O Z (pc + 3) als (.ref q.1 :: st) q.2) : rx_O Z pc als (.int n :: st) u := by
  unfold rx_nR at hx
  split at hx
  · cases hx
  next hn =>
  obtain ⟨h0, rfl, hl, rfl⟩ := rx_push_some hx
  refine rx_pushO F kk fun hc hs k H ls locs h1 h2 h3 => ?_
  have hR : rx_R (zG Z) h0 H := h1
  refine W.anew F.1 F.2.1 F.2.2.2.1 (F.2.2.2.2.1 _ hw) (va_AO.use F.2.2.2.2.2.1.2.2.2.2.2.2.2.2.2) rfl hd rfl (fun q => hn (Or.inl q)) ?_ hc hs fun cA kA comp f1 f2 f3 f4 => ?_
  · have : n.toNatClampNeg ≤ 100000 := Nat.not_lt.mp fun q => hn (Or.inr q)
    omega
  · obtain ⟨kA', comp', g1, g2, g3, g4⟩ := (F.2.2.2.2.2.1.1.2 2 _ rfl).2
    have hcA : cA = rx_cP (zG Z) := Option.some.inj (f1.symm.trans g4)
    subst hcA
    have hz : H.size = rx_base (zG Z) + h0.2.length := hR.2.1
    generalize hH1 : H.push ({ cls := rx_cP (zG Z), slots := Array.replicate n.toNatClampNeg .null, vm := .none } : Cell) = H1
    have z1 : H1.size = H.size + 1 := by rw [← hH1, Array.size_push]
    have e1 : H1[H.size]? = some (arrV (rx_cP (zG Z)) n.toNatClampNeg (fun _ => .null)) := by rw [← hH1, Array.getElem?_push_size, ← arrV_new]
    have o1 : ∀ q : Nat, q < H.size → H1[q]? = H[q]? := fun q hq => by rw [← hH1, Array.getElem?_push, if_neg (Nat.ne_of_lt hq)]
    have hr := k H1 ls locs (hR.push hl (by rw [← hz]; exact e1) z1 o1) h2 h3
    have ha : rx_ad (zG Z) h0.2.length = H.size := by rw [rx_ad_lt _ (by omega), hz]
    have hr2 : zW Z H1 locs ((h0.2.length - zn0 Z) + 1) ((rx_sl h0 - zs0 Z) + n.toNatClampNeg) (F0 (zM Z) (pc + 3) ls (.ref H.size :: st.map (rx_ev (zG Z)))) := by rw [← ha]; exact hr
    exact hr2
theorem rx_df_ok {a : Nat} {q : vw_C} (h : rx_cl[a]? = some q) (G : rx_G) : (rx_df a).length = q.2.2 ∧ ∀ j, j < q.2.2 → defaultValue (rx_ty a j) = vp_V ((rx_df a).map (rx_ev G)) j := by
  match a, h with
  | 0, h => cases h; exact ⟨rfl, fun j hj => by match j, hj with
    | 0, _ => rfl
    | 1, _ => rfl
    | 2, _ => rfl
    | 3, _ => rfl
    | 4, _ => rfl
    | 5, _ => rfl
    | n + 6, hj => exact absurd hj (by show ¬ n + 6 < 6; omega)⟩
  | 1, h => cases h; exact ⟨rfl, fun j hj => by match j, hj with
    | 0, _ => rfl
    | 1, _ => rfl
    | 2, _ => rfl
    | 3, _ => rfl
    | 4, _ => rfl
    | n + 5, hj => exact absurd hj (by show ¬ n + 5 < 5; omega)⟩
  | 2, h => cases h; exact ⟨rfl, fun j hj => by match j, hj with
    | 0, _ => rfl
    | 1, _ => rfl
    | 2, _ => rfl
    | 3, _ => rfl
    | 4, _ => rfl
    | 5, _ => rfl
    | n + 6, hj => exact absurd hj (by show ¬ n + 6 < 6; omega)⟩
  | 3, h => cases h; exact ⟨rfl, fun j hj => by match j, hj with
    | 0, _ => rfl
    | 1, _ => rfl
    | 2, _ => rfl
    | 3, _ => rfl
    | 4, _ => rfl
    | 5, _ => rfl
    | 6, _ => rfl
    | 7, _ => rfl
    | 8, _ => rfl
    | 9, _ => rfl
    | 10, _ => rfl
    | 11, _ => rfl
    | 12, _ => rfl
    | 13, _ => rfl
    | 14, _ => rfl
    | n + 15, hj => exact absurd hj (by show ¬ n + 15 < 15; omega)⟩
  | n + 4, h => simp [rx_cl] at h
theorem rx_t_newO (F : rx_Fr Z) {i a : Nat} {cq : vw_C} {q : Nat × Option rx_H} (hx : rx_nO u a = some q) (hc : rx_cl[a]? = some cq) (hw : Cond.classLink (zo Z) i cq.1 ∈ rx_TB) (hw2 : Cond.instantiable cq.1 cq.2.2 ∈ rx_TB) (hw3 : Cond.initialized cq.1 ∈ rx_TB) (hd : decode (zcc Z) pc = .ok (.new i, 3)) (kk : rx_O Z (pc + 3) als (.ref q.1 :: st) q.2) : rx_O Z pc als st u := by
  unfold rx_nO at hx
  split at hx
  case isFalse => cases hx
  next hn =>
  obtain ⟨h0, rfl, hl, rfl⟩ := rx_push_some hx
  obtain ⟨d1, d2⟩ := rx_df_ok hc (zG Z)
  refine rx_pushO F kk fun hcc hs k H ls locs h1 h2 h3 => ?_
  have hR : rx_R (zG Z) h0 H := h1
  have hts := F.2.2.2.2.1
  have hKn := F.2.2.2.2.2.1.1.1 a _ hc
  have hs' : (rx_sl h0 - zs0 Z) + cq.2.2 ≤ (zR Z).slots := by rw [← d1]; exact hs
  have hz : H.size = rx_base (zG Z) + h0.2.length := hR.2.1
  refine W.newcK F.1 F.2.1 F.2.2.2.1 (hts _ hw) (hts _ hw2) (hts _ hw3) rfl hd hcc hs' hKn.2.1 rfl fun H1 kC hkC e1 z1 o1 => ?_
  have hb := (u_born (rx_ty a) hts (rx_lin hc) hKn hkC e1 (rx_yok hc)).to d2
  have hr := k H1 ls locs (hR.push hl ⟨cq, hc, d1, by rw [← hz]; exact hb⟩ z1 o1) h2 h3
  have ha : rx_ad (zG Z) h0.2.length = H.size := by rw [rx_ad_lt _ (by omega), hz]
  have hr2 : zW Z H1 locs ((h0.2.length - zn0 Z) + 1) ((rx_sl h0 - zs0 Z) + cq.2.2) (F0 (zM Z) (pc + 3) ls (.ref H.size :: st.map (rx_ev (zG Z)))) := by rw [← ha, ← d1]; exact hr
  exact hr2
end rxH
end
section
/-! ===== Calls ===== -/
def rx_Pc (G : rx_G) (as : List Value) (h : rx_H) : Array Value → State → Prop := fun v U => v = (as.map (rx_ev G)).toArray ∧ rx_R G h U.heap ∧ rx_Ks G U
def rx_Qc (G : rx_G) (r : Option Value) (h' : rx_H) : Array Value → State → Outcome → State → Prop := fun _ _ o t => o = .returned (r.map (rx_ev G)) ∧ rx_R G h' t.heap
def rx_rm (D : Nat) (h h' : rx_H) : Room := { frames := D, cells := h'.2.length - h.2.length, slots := rx_sl h' - rx_sl h, locals := 64 * D }
/-- a method, from a picture to a picture: its contract, at most so deep -/
def rx_Ok (l : Launch) (G : rx_G) (D : Nat) (y : MethodName) (bytes : ByteArray) (maxL : Nat) (ret : Option FieldType) (as : List Value) (h : rx_H) (r : Option Value) (h' : rx_H) : Prop :=
  (h.2.length ≤ h'.2.length ∧ rx_sl h ≤ rx_sl h') ∧ ∃ D', D' ≤ D ∧ Met l y (Cond.code y bytes maxL ret :: rx_TB) (rx_rm D' h h') (rx_Pc G as h) (rx_Qc G r h') (h'.2.length - h.2.length) (rx_sl h' - rx_sl h) (fun q => rx_base G ≤ q)
theorem rx_Ok.deep {l : Launch} {G : rx_G} {D E : Nat} {y : MethodName} {bytes : ByteArray} {maxL : Nat} {ret : Option FieldType} {as : List Value} {h : rx_H} {r : Option Value} {h' : rx_H} (hk : rx_Ok l G D y bytes maxL ret as h r h') (hDE : D ≤ E) : rx_Ok l G E y bytes maxL ret as h r h' := by
  obtain ⟨h1, D', h2, h3⟩ := hk
  exact ⟨h1, D', Nat.le_trans h2 hDE, h3⟩
/-- what the tables say of a callee -/
def rx_Cal (y : MethodName) (bytes : ByteArray) (maxL : Nat) (ret : Option FieldType) (kd n : Nat) : Prop := Cond.code y bytes maxL ret ∈ rx_TB ∧ Cond.initialized y.cls ∈ rx_TB ∧
  (y.cls ≠ "java/lang/invoke/MethodHandle" ∧ y.cls ≠ "java/lang/invoke/VarHandle" ∧ (parseMethodDescriptor y.desc).map (fun d => d.parameters.length) = some n) ∧ maxL ≤ 40 ∧ plainFor y = true ∧
  (kd = 0 → Cond.static y ∈ rx_TB) ∧ (kd = 1 → Cond.instanceMethod y ∈ rx_TB ∧ Cond.selects y.cls y y ∈ rx_TB) ∧ (kd = 2 → y.name = "<init>" ∧ Cond.instanceMethod y ∈ rx_TB ∧ ret = none)
theorem rx_gi {w : Cond} (h : w ∈ rx_TB) : GoodIn rx_TB (w :: rx_TB) := fun x hx => (List.mem_cons.mp hx).elim (fun e => ⟨e ▸ h, rx_good _ (e ▸ h)⟩) (fun e => ⟨e, rx_good _ e⟩)
theorem rx_blind (G : rx_G) (as : List Value) (h : rx_H) : FrameBlind (rx_Pc G as h) := fun a U g mk q => ⟨q.1, q.2.1, q.2.2.same rfl⟩
section rxC
variable {Z : rx_Z} {pc : Nat} {als : rx_L} {u u' : Option rx_H} {bytes : ByteArray} {maxL n i j : Nat} {ret : Option FieldType} {as rest : List Value} {r : Option Value}
/-- behind a call -/
theorem rx_after {H : Heap} {locs : List Loc} {ls : Array Slot} {cells slots mc ms : Nat} {st0 : List Value} {Qa : State → Outcome → State → Prop} {h' : rx_H} (hQ : ∀ st o t, Qa st o t → o = .returned (r.map (rx_ev (zG Z))) ∧ rx_R (zG Z) h' t.heap)
    (hr : va_Run (zP Z) (zL Z) (zE Z) (zR Z) (zS Z) (zM Z) (zA Z) (zB Z) (zMe Z) (zC Z) H locs cells slots mc ms (F0 (zM Z) pc ls st0) (rest.map (rx_ev (zG Z))) Qa (fun q => rx_base (zG Z) ≤ q)) (h3 : ∀ q ∈ locs, rx_base (zG Z) ≤ q.base)
    (kk : ∀ (H' : Heap) (locs' : List Loc), rx_R (zG Z) h' H' → (∀ q ∈ locs', rx_base (zG Z) ≤ q.base) → zW Z H' locs' (cells + mc) (slots + ms) (F0 (zM Z) (pc + 3) ls ((r.toList ++ rest).map (rx_ev (zG Z))))) : zW Z H locs cells slots (F0 (zM Z) pc ls st0) := by
  intro T hT X
  obtain ⟨v, st₀, t, T', L, e0, X', hL, e1, e2, hq, st⟩ := hr T hT X
  obtain ⟨hv, hR⟩ := hQ _ _ _ hq
  cases hv
  obtain ⟨t2, a1, b1⟩ := kk T'.heap (locs ++ L) (by rw [e1]; exact hR) (t_lL h3 hL) T' rfl X'
  refine ⟨t2, st t2 ?_, b1⟩
  have : (r.toList ++ rest).map (rx_ev (zG Z)) = (r.map (rx_ev (zG Z))).toList ++ rest.map (rx_ev (zG Z)) := by cases r <;> simp
  rw [this] at a1
  exact a1
/-- the room of a call -/
theorem rx_room (F : rx_Fr Z) (hok : rx_Ok (zL Z) (zG Z) (zd Z) (rx_ny j) bytes maxL ret as (rx_u Z u) r (rx_u Z u')) (k : rx_O Z (pc + 3) als (r.toList ++ rest) u') {st : List Value}
    (step : ∀ D', D' ≤ zd Z → Met (zL Z) (rx_ny j) (Cond.code (rx_ny j) bytes maxL ret :: rx_TB) (rx_rm D' (rx_u Z u) (rx_u Z u')) (rx_Pc (zG Z) as (rx_u Z u)) (rx_Qc (zG Z) r (rx_u Z u')) ((rx_u Z u').2.length - (rx_u Z u).2.length) (rx_sl (rx_u Z u') - rx_sl (rx_u Z u)) (fun q => rx_base (zG Z) ≤ q) →
      (((rx_u Z u).2.length - zn0 Z) + ((rx_u Z u').2.length - (rx_u Z u).2.length) ≤ (zR Z).cells ∧ (rx_sl (rx_u Z u) - zs0 Z) + (rx_sl (rx_u Z u') - rx_sl (rx_u Z u)) ≤ (zR Z).slots) → (D' + 1 ≤ (zR Z).frames ∧ 64 * D' + 64 ≤ (zR Z).locals) →
      (∀ (H' : Heap) (ls : Array Slot) (locs' : List Loc), rx_R (zG Z) (rx_u Z u') H' → rx_lo (zG Z) ls (zn Z) als → (∀ q ∈ locs', rx_base (zG Z) ≤ q.base) → zW Z H' locs' (((rx_u Z u).2.length - zn0 Z) + ((rx_u Z u').2.length - (rx_u Z u).2.length)) ((rx_sl (rx_u Z u) - zs0 Z) + (rx_sl (rx_u Z u') - rx_sl (rx_u Z u))) (F0 (zM Z) (pc + 3) ls ((r.toList ++ rest).map (rx_ev (zG Z))))) → rx_WS Z pc als st u) : rx_O Z pc als st u := by
  obtain ⟨⟨m1, m2⟩, D', hD, hM⟩ := hok
  intro g1 g2
  obtain ⟨⟨g3, g4⟩, g5⟩ := k (Nat.le_trans g1 m1) (Nat.le_trans g2 m2)
  obtain ⟨f1, f2, f3, f4⟩ := F.2.2.2.2.2.2.2
  refine ⟨⟨Nat.le_trans m1 g3, Nat.le_trans m2 g4⟩, step D' hD hM ⟨by omega, by omega⟩ ⟨by omega, by omega⟩ fun H' ls locs' h1 h2 h3 => ?_⟩
  have := g5 H' ls locs' h1 h2 h3
  have e1 : ((rx_u Z u).2.length - zn0 Z) + ((rx_u Z u').2.length - (rx_u Z u).2.length) = (rx_u Z u').2.length - zn0 Z := by omega
  have e2 : (rx_sl (rx_u Z u) - zs0 Z) + (rx_sl (rx_u Z u') - rx_sl (rx_u Z u)) = rx_sl (rx_u Z u') - zs0 Z := by omega
  rw [e1, e2]
  exact this
theorem rx_mapRev (G : rx_G) (as rest : List Value) : (as.reverse ++ rest).map (rx_ev G) = (as.map (rx_ev G)).reverse ++ rest.map (rx_ev G) := by simp
theorem rx_t_callS (F : rx_Fr Z) (hl : Cond.methodLink (zo Z) i (rx_ny j) ∈ rx_TB) (hc : rx_Cal (rx_ny j) bytes maxL ret 0 n) (hn : as.length = n) (hcat : rx_cat rest ≤ 8) (hok : rx_Ok (zL Z) (zG Z) (zd Z) (rx_ny j) bytes maxL ret as (rx_u Z u) r (rx_u Z u')) (hd : decode (zcc Z) pc = .ok (.invokestatic i, 3)) (k : rx_O Z (pc + 3) als (r.toList ++ rest) u') : rx_O Z pc als (as.reverse ++ rest) u := by
  refine rx_room F hok k fun D' hD hM hf hfr kk H ls locs h1 h2 h3 => ?_
  obtain ⟨c1, c2, c3, c4, c5, c6, c7, c8⟩ := hc
  have hts := F.2.2.2.2.1
  have cb : CallB (zR Z) (zS Z) (zA Z) (zo Z) i (rx_ny j) bytes maxL ret (Cond.code (rx_ny j) bytes maxL ret :: rx_TB) (rx_rm D' (rx_u Z u) (rx_u Z u')) ((rx_u Z u').2.length - (rx_u Z u).2.length) (rx_sl (rx_u Z u') - rx_sl (rx_u Z u)) n :=
    callB_of n hts (rx_gi c1) rfl rfl rfl (hts _ c2) (hts _ hl) c3 ⟨hfr.1, by show 8 + (maxL + 11) + 64 * D' ≤ _; omega⟩
  have hst : (as.reverse ++ rest).map (rx_ev (zG Z)) = (as.map (rx_ev (zG Z))).reverse ++ rest.map (rx_ev (zG Z)) := by simp
  have hcat2 : 2 * (F0 (zM Z) pc ls ((as.reverse ++ rest).map (rx_ev (zG Z)))).monitorRoom + ((rest.map (rx_ev (zG Z))).map fun v => v.category).sum ≤ 8 := by
    show 2 * 0 + _ ≤ 8
    rw [rx_cat_eq]
    omega
  have hpre : PreS (zS Z) H (rx_Pc (zG Z) as (rx_u Z u)) (as.map (rx_ev (zG Z))) := ⟨rx_blind _ _ _, fun U hU hW => ⟨rfl, by rw [hU]; exact h1, F.2.2.2.2.2.1.warm hW⟩⟩
  have hrun := va_runS (below := zB Z) (e := zE Z) (meth := zMe Z) (locs := locs) (As := as.map (rx_ev (zG Z))) (rest := rest.map (rx_ev (zG Z))) (g := F0 (zM Z) pc ls ((as.reverse ++ rest).map (rx_ev (zG Z)))) (nL := zn Z) (cc := zcc Z) ⟨F.1, F.2.1, F.2.2.1, F.2.2.2.1, hts⟩ hM ⟨cb, hts _ (c6 rfl)⟩ hpre rfl (by simpa using hn) h2.2.1 hst hcat2 hd hf
  exact rx_after (Qa := rx_Qc (zG Z) r (rx_u Z u') (as.map (rx_ev (zG Z))).toArray) (fun _ _ _ q => q) hrun h3 (fun H' locs' g1 g2 => kk H' ls locs' g1 h2 g2)
theorem rx_ck_some {r0 c : Nat} (h : rx_ck u r0 c = some ()) : ∃ (h0 : rx_H) (fs : List Value), u = some h0 ∧ h0.2[r0]? = some (.inr (c, fs)) := by
  unfold rx_ck at h
  split at h
  · cases h
  next h0 =>
  split at h
  · next c' fs hc =>
    split at h
    · next he => subst he; exact ⟨h0, fs, rfl, hc⟩
    · cases h
  · cases h
theorem rx_t_callV (F : rx_Fr Z) {r0 ci : Nat} {q : vw_C} (hci : rx_cl[ci]? = some q) (hq : (rx_ny j).cls = q.1) (hck : rx_ck u r0 ci = some ()) (hl : Cond.methodLink (zo Z) i (rx_ny j) ∈ rx_TB) (hc : rx_Cal (rx_ny j) bytes maxL ret 1 n) (hn : as.length = n) (hcat : rx_cat rest ≤ 8) (hok : rx_Ok (zL Z) (zG Z) (zd Z) (rx_ny j) bytes maxL ret (.ref r0 :: as) (rx_u Z u) r (rx_u Z u')) (hd : decode (zcc Z) pc = .ok (.invokevirtual i, 3)) (k : rx_O Z (pc + 3) als (r.toList ++ rest) u') : rx_O Z pc als ((Value.ref r0 :: as).reverse ++ rest) u := by
  refine rx_room F hok k fun D' hD hM hf hfr kk H ls locs h1 h2 h3 => ?_
  obtain ⟨c1, c2, c3, c4, c5, c6, c7, c8⟩ := hc
  obtain ⟨h0, fs, rfl, hr0⟩ := rx_ck_some hck
  have hR : rx_R (zG Z) h0 H := h1
  have hts := F.2.2.2.2.1
  have cb : CallB (zR Z) (zS Z) (zA Z) (zo Z) i (rx_ny j) bytes maxL ret (Cond.code (rx_ny j) bytes maxL ret :: rx_TB) (rx_rm D' (rx_u Z (some h0)) (rx_u Z u')) ((rx_u Z u').2.length - (rx_u Z (some h0)).2.length) (rx_sl (rx_u Z u') - rx_sl (rx_u Z (some h0))) n :=
    callB_of n hts (rx_gi c1) rfl rfl rfl (hts _ c2) (hts _ hl) c3 ⟨hfr.1, by show 8 + (maxL + 11) + 64 * D' ≤ _; omega⟩
  obtain ⟨q', hq', hlen, cell, q1, q2, q3, q4⟩ := hR.1 r0 _ hr0
  have hst : ((Value.ref r0 :: as).reverse ++ rest).map (rx_ev (zG Z)) = (as.map (rx_ev (zG Z))).reverse ++ .ref (rx_base (zG Z) + r0) :: rest.map (rx_ev (zG Z)) := by
    simp [rx_ev, rx_ad_lt _ (rx_lt6 hR hr0)]
  have hat : ((Value.ref r0 :: as).map (rx_ev (zG Z))).toArray = (Value.ref (rx_base (zG Z) + r0) :: as.map (rx_ev (zG Z))).toArray := by simp [rx_ev, rx_ad_lt _ (rx_lt6 hR hr0)]
  refine rx_after (Qa := rx_Qc (zG Z) r (rx_u Z u') (Value.ref (rx_base (zG Z) + r0) :: as.map (rx_ev (zG Z))).toArray) (fun _ _ _ q => q) (va_runV (b := rx_base (zG Z) + r0) (C := (rx_ny j).cls) (As := as.map (rx_ev (zG Z))) (nL := zn Z) (cc := zcc Z) ⟨F.1, F.2.1, F.2.2.1, F.2.2.2.1, hts⟩ hM ⟨cb, hts _ (c7 rfl).1, hts _ (c7 rfl).2⟩ ⟨rx_blind _ _ _, ⟨cell, q1, by rw [q3]; rfl, by rw [q2, hq]; exact (F.2.2.2.2.2.1.1.1 ci q hci).2.1⟩, fun U hU hW => ⟨hat.symm, by rw [hU]; exact h1, F.2.2.2.2.2.1.warm hW⟩⟩ rfl (by simpa using hn) h2.2.1 hst ?_ hd hf) h3 (fun H' locs' g1 g2 => kk H' ls locs' g1 h2 g2)
  show 2 * 0 + _ ≤ 8
  rw [rx_cat_eq]
  omega
theorem rx_t_callI (F : rx_Fr Z) {r0 : Nat} (hl : Cond.methodLink (zo Z) i (rx_ny j) ∈ rx_TB ∨ va_Nw (.methodLinkNest (zo Z) i (rx_ny j) "SetHouse") (zS Z)) (hc : rx_Cal (rx_ny j) bytes maxL ret 2 n) (hn : as.length = n) (hcat : rx_cat rest ≤ 8) (hok : rx_Ok (zL Z) (zG Z) (zd Z) (rx_ny j) bytes maxL ret (.ref r0 :: as) (rx_u Z u) r (rx_u Z u')) (hd : decode (zcc Z) pc = .ok (.invokespecial i, 3)) (k : rx_O Z (pc + 3) als (r.toList ++ rest) u') : rx_O Z pc als ((Value.ref r0 :: as).reverse ++ rest) u := by
  refine rx_room F hok k fun D' hD hM hf hfr kk H ls locs h1 h2 h3 => ?_
  obtain ⟨c1, c2, c3, c4, c5, c6, c7, c8⟩ := hc
  obtain ⟨d1, d2, rfl⟩ := c8 rfl
  have hts := F.2.2.2.2.1
  have hst : ((Value.ref r0 :: as).reverse ++ rest).map (rx_ev (zG Z)) = (as.map (rx_ev (zG Z))).reverse ++ .ref (rx_ad (zG Z) r0) :: rest.map (rx_ev (zG Z)) := by
    simp [rx_ev]
  have hat : ((Value.ref r0 :: as).map (rx_ev (zG Z))).toArray = (Value.ref (rx_ad (zG Z) r0) :: as.map (rx_ev (zG Z))).toArray := by simp [rx_ev]
  have hcat2 : 2 * (F0 (zM Z) pc ls (((Value.ref r0 :: as).reverse ++ rest).map (rx_ev (zG Z)))).monitorRoom + ((rest.map (rx_ev (zG Z))).map fun v => v.category).sum ≤ 8 := by
    show 2 * 0 + _ ≤ 8
    rw [rx_cat_eq]
    omega
  rcases hl with hl | hl
  · have cb : CallB (zR Z) (zS Z) (zA Z) (zo Z) i (rx_ny j) bytes maxL none (Cond.code (rx_ny j) bytes maxL none :: rx_TB) (rx_rm D' (rx_u Z u) (rx_u Z u')) ((rx_u Z u').2.length - (rx_u Z u).2.length) (rx_sl (rx_u Z u') - rx_sl (rx_u Z u)) n :=
      callB_of n hts (rx_gi c1) rfl rfl rfl (hts _ c2) (hts _ hl) c3 ⟨hfr.1, by show 8 + (maxL + 11) + 64 * D' ≤ _; omega⟩
    exact rx_after (Qa := rx_Qc (zG Z) r (rx_u Z u') (Value.ref (rx_ad (zG Z) r0) :: as.map (rx_ev (zG Z))).toArray) (fun _ _ _ q => q) (va_runI (b := rx_ad (zG Z) r0) (As := as.map (rx_ev (zG Z))) (nL := zn Z) (cc := zcc Z) ⟨F.1, F.2.1, F.2.2.1, F.2.2.2.1, hts⟩ hM ⟨cb, d1, hts _ d2⟩ ⟨rx_blind _ _ _, fun U hU hW => ⟨hat.symm, by rw [hU]; exact h1, F.2.2.2.2.2.1.warm hW⟩⟩ rfl (by simpa using hn) h2.2.1 hst hcat2 hd hf) h3 (fun H' locs' g1 g2 => kk H' ls locs' g1 h2 g2)
  · have cb : va_CN (zR Z) (zS Z) (zA Z) (zo Z) i (rx_ny j) "SetHouse" bytes maxL none (Cond.code (rx_ny j) bytes maxL none :: rx_TB) (rx_rm D' (rx_u Z u) (rx_u Z u')) ((rx_u Z u').2.length - (rx_u Z u).2.length) (rx_sl (rx_u Z u') - rx_sl (rx_u Z u)) n :=
      va_cnB n hts (rx_gi c1) rfl rfl rfl hl (hts _ c2) c3 ⟨hfr.1, by show 8 + (maxL + 11) + 64 * D' ≤ _; omega⟩
    exact rx_after (Qa := rx_Qc (zG Z) r (rx_u Z u') (Value.ref (rx_ad (zG Z) r0) :: as.map (rx_ev (zG Z))).toArray) (fun _ _ _ q => q) (va_runIN (b := rx_ad (zG Z) r0) (As := as.map (rx_ev (zG Z))) (nL := zn Z) (cc := zcc Z) ⟨F.1, F.2.1, F.2.2.1, F.2.2.2.1, hts⟩ hM ⟨cb, d1, hts _ d2⟩ ⟨rx_blind _ _ _, fun U hU hW => ⟨hat.symm, by rw [hU]; exact h1, F.2.2.2.2.2.1.warm hW⟩⟩ rfl (by simpa using hn) h2.2.1 hst hcat2 hd hf) h3 (fun H' locs' g1 g2 => kk H' ls locs' g1 h2 g2)
theorem rx_t_obj (F : rx_Fr Z) {r0 : Nat} {st : List Value} (hl : Cond.methodLink (zo Z) i Lib.objectInit ∈ rx_TB) (h5 : Cond.instanceMethod Lib.objectInit ∈ rx_TB) (h6 : Cond.code Lib.objectInit ⟨#[0xb1]⟩ 1 none ∈ rx_TB) (hcat : rx_cat st ≤ 8) (hd : decode (zcc Z) pc = .ok (.invokespecial i, 3)) (k : rx_WS Z (pc + 3) als st u) : rx_WS Z pc als (.ref r0 :: st) u := by
  intro H ls locs h1 h2 h3
  have hts := F.2.2.2.2.1
  obtain ⟨f1, f2, f3, f4⟩ := F.2.2.2.2.2.2.2
  refine W.objInit F.1 F.2.1 F.2.2.2.1 (hts _ hl) (hts _ h5) (hts _ h6) (g := F0 (zM Z) pc ls (.ref (rx_ad (zG Z) r0) :: st.map (rx_ev (zG Z)))) rfl (h2.2.1.trans F.2.2.1.symm) rfl hd (by omega) ?_ (k H ls locs h1 h2 h3)
  show 2 * 0 + _ + 12 ≤ _
  rw [rx_cat_eq]
  omega
/-- System.arraycopy of longs -/
theorem rx_t_copy (F : rx_Fr Z) {st : List Value} {r0 r1 : Nat} {sp dp n : Int32} (hl : Cond.methodLink (zo Z) i arraycopyName ∈ rx_TB) (h5 : Cond.native arraycopyName ∈ rx_TB) (h6 : Cond.static arraycopyName ∈ rx_TB) (h7 : Cond.initialized "java/lang/System" ∈ rx_TB) (hcat : rx_cat st ≤ 8) (hx : rx_cp u r0 sp r1 dp n = some u') (hd : decode (zcc Z) pc = .ok (.invokestatic i, 3)) (kk : rx_O Z (pc + 3) als st u') : rx_O Z pc als (.int n :: .int dp :: .ref r1 :: .int sp :: .ref r0 :: st) u := by
  unfold rx_cp at hx
  split at hx
  · cases hx
  next h0 =>
  split at hx
  case h_2 => cases hx
  next n0 f n1 g hc0 hc1 =>
  split at hx
  case isTrue => cases hx
  next hi =>
  cases hx
  have b1 : ¬ sp < 0 := fun q => hi (Or.inl q)
  have b2 : ¬ dp < 0 := fun q => hi (Or.inr (Or.inl q))
  have b3 : ¬ n < 0 := fun q => hi (Or.inr (Or.inr (Or.inl q)))
  have b4 : sp.toNatClampNeg + n.toNatClampNeg ≤ n0 := Nat.not_lt.mp fun q => hi (Or.inr (Or.inr (Or.inr (Or.inl q))))
  have b5 : dp.toNatClampNeg + n.toNatClampNeg ≤ n1 := Nat.not_lt.mp fun q => hi (Or.inr (Or.inr (Or.inr (Or.inr q))))
  refine rx_putA hc1 (by rfl) kk fun k H ls locs h1 h2 h3 => ?_
  have hR : rx_R (zG Z) h0 H := h1
  have hts := F.2.2.2.2.1
  obtain ⟨f1, f2, f3, f4⟩ := F.2.2.2.2.2.2.2
  show W _ _ _ _ _ _ _ _ _ _ H locs _ _ _ (F0 _ pc ls (.int n :: .int dp :: .ref (rx_ad (zG Z) r1) :: .int sp :: .ref (rx_ad (zG Z) r0) :: st.map (rx_ev (zG Z))))
  rw [rx_ad_lt _ (rx_lt6 hR hc0), rx_ad_lt _ (rx_lt6 hR hc1)]
  have hK := F.2.2.2.2.2.1.1
  obtain ⟨-, k0, hk0, cm0, hkk0⟩ := (hK.2 1 _ rfl).1 n0 (fun j => .long (f j))
  obtain ⟨-, k1, hk1, cm1, hkk1⟩ := (hK.2 1 _ rfl).1 n1 (fun j => .long (g j))
  have nn : ∀ z : Int32, ¬ z < 0 → z.toInt = (z.toNatClampNeg : Int) := by
    intro z hz
    have hz0 : (0 : Int) ≤ z.toInt := by
      have := Int32.not_lt.mp hz
      simpa using Int32.le_iff_toInt_le.mp this
    show z.toInt = ((z.toInt.toNat : Nat) : Int)
    omega
  have e0 : H[rx_base (zG Z) + r0]? = some (arrV (rx_cJ (zG Z)) n0 (fun j => .long (f j))) := hR.1 r0 _ hc0
  have e1 : H[rx_base (zG Z) + r1]? = some (arrV (rx_cJ (zG Z)) n1 (fun j => .long (g j))) := hR.1 r1 _ hc1
  intro T hT X
  obtain ⟨vm', X', step⟩ := X.arraycopy F.1 F.2.2.2.1 (hts _ hl) (hts _ h5) (hts _ h6) (hts _ h7) (src := rx_base (zG Z) + r0) (dst := rx_base (zG Z) + r1) (cs := arrV (rx_cJ (zG Z)) n0 (fun j => .long (f j))) (cd := arrV (rx_cJ (zG Z)) n1 (fun j => .long (g j))) (srcPos := sp) (destPos := dp) (n := n) (by rw [hT]; exact e0) (by rw [hT]; exact e1)
    (fun _ h => by cases h) (fun _ h => by cases h) (fun h => by cases h) (fun h => by cases h) hk0 hk1 hkk0 hkk1 rfl b1 b2 b3
    (by rw [nn sp b1, nn n b3, arrV_size]; omega)
    (by rw [nn dp b2, nn n b3, arrV_size]; omega)
    (fun vm₁ _ i hi => by
      have e : (arrV (rx_cJ (zG Z)) n0 (fun j => .long (f j))).slots.getD (sp.toNatClampNeg + i) .null = .long (f (sp.toNatClampNeg + i)) := by
        rw [Array.getD_eq_getD_getElem?, arrV_read _ _ (by omega)]
        rfl
      refine ⟨?_, ?_⟩
      · rw [e]; rfl
      · rw [e]; exact trivial)
    (g := F0 (zM Z) pc ls (.int n :: .int dp :: .ref (rx_base (zG Z) + r1) :: .int sp :: .ref (rx_base (zG Z) + r0) :: st.map (rx_ev (zG Z)))) rfl (h2.2.1.trans F.2.2.1.symm) (rest := st.map (rx_ev (zG Z))) rfl (by rw [F.2.1]; exact hd) (by omega) (by
      show 2 * 0 + _ + _ ≤ _
      rw [rx_cat_eq]
      have : nativeFrameWords "java/lang/System" "arraycopy" 5 + 11 ≤ 56 := by decide +kernel
      omega)
  have ecp : copied (arrV (rx_cJ (zG Z)) n0 (fun j => .long (f j))) (arrV (rx_cJ (zG Z)) n1 (fun j => .long (g j))) sp dp n = arrV (rx_cJ (zG Z)) n1 (fun j => .long (va_cpy f g sp.toNatClampNeg dp.toNatClampNeg n.toNatClampNeg j)) := va_copied (fun z => .long z) _ _ f g b4
  rw [ecp] at X' step
  have hlt : rx_base (zG Z) + r1 < H.size := (Array.getElem?_eq_some_iff.mp e1).1
  have hheap : ((T.setVm vm').setCell (rx_base (zG Z) + r1) (arrV (rx_cJ (zG Z)) n1 (fun j => .long (va_cpy f g sp.toNatClampNeg dp.toNatClampNeg n.toNatClampNeg j)))).heap = H.setIfInBounds (rx_base (zG Z) + r1) (arrV (rx_cJ (zG Z)) n1 (fun j => .long (va_cpy f g sp.toNatClampNeg dp.toNatClampNeg n.toNatClampNeg j))) := by rw [← hT]; rfl
  have oq : ∀ q : Nat, q ≠ rx_base (zG Z) + r1 → (H.setIfInBounds (rx_base (zG Z) + r1) (arrV (rx_cJ (zG Z)) n1 (fun j => .long (va_cpy f g sp.toNatClampNeg dp.toNatClampNeg n.toNatClampNeg j))))[q]? = H[q]? := fun q hq => by simp [Array.getElem?_setIfInBounds, Ne.symm hq]
  obtain ⟨t, a1, d1⟩ := k (H.setIfInBounds (rx_base (zG Z) + r1) (arrV (rx_cJ (zG Z)) n1 (fun j => .long (va_cpy f g sp.toNatClampNeg dp.toNatClampNeg n.toNatClampNeg j)))) ls _ (hR.set hc1 (show (H.setIfInBounds _ _)[_]? = some _ by simp [Array.getElem?_setIfInBounds, hlt]) (by simp) oq) h2 (fun q hq => by
      rcases List.mem_append.mp hq with h | h
      · exact h3 q h
      · obtain ⟨z, -, hz⟩ := List.mem_map.mp h
        rw [← hz]
        exact Nat.le_add_right _ _) _ hheap X'
  exact ⟨t, step t a1, d1⟩
/-- a switch -/
theorem rx_t_switch (F : rx_Fr Z) {st : List Value} {dflt lo hi : Int} {offs : Array Int} {len a : Nat} {sw : List (Int32 × Nat)} {x : Int32} {α : Type} {kt : Nat → Option α} {z : α} (hd : decode (zcc Z) pc = .ok (.tableswitch dflt lo hi offs, len)) (ha : (pc : Int) + dflt = (a : Int))
    (hsw : sw.length = (hi - lo + 1).toNat ∧ ∀ (k : Nat) (q : Int32 × Nat), sw[k]? = some q → q.1.toInt = lo + (k : Int) ∧ ∃ o, offs[k]? = some o ∧ (pc : Int) + o = (q.2 : Int)) (h : rx_sw kt x a sw = some z) (g : ∀ t, kt t = some z → rx_O Z t als st u) : rx_O Z pc als (.int x :: st) u := by
  have key : ∀ (l : List (Int32 × Nat)), rx_sw kt x a l = some z → (∃ (k : Nat) (q : Int32 × Nat), l[k]? = some q ∧ x = q.1 ∧ kt q.2 = some z) ∨ ((∀ (k : Nat) (q : Int32 × Nat), l[k]? = some q → ¬ x = q.1) ∧ kt a = some z) := by
    intro l
    induction l with
    | nil => intro h; exact Or.inr ⟨fun k q hk => by simp at hk, h⟩
    | cons q0 l ih =>
      intro h
      unfold rx_sw at h
      split at h
      · next hx => exact Or.inl ⟨0, q0, rfl, hx, h⟩
      · next hx =>
        rcases ih h with ⟨k, q, e1, e2, e3⟩ | ⟨e1, e2⟩
        · exact Or.inl ⟨k + 1, q, by simpa using e1, e2, e3⟩
        · refine Or.inr ⟨fun k q hk => ?_, e2⟩
          cases k with
          | zero => simp at hk; rw [← hk]; exact hx
          | succ k => exact e1 k q (by simpa using hk)
  rcases key sw h with ⟨k, q, e1, e2, e3⟩ | ⟨e1, e2⟩
  · obtain ⟨d1, o, d2, d3⟩ := hsw.2 k q e1
    have hk : k < sw.length := (List.getElem?_eq_some_iff.mp e1).1
    refine (g _ e3).map fun kk H ls locs h1 h2 h3 => lv_tableIn F.1 F.2.1 hd ?_ ?_ (off := o) ?_ d3 (kk H ls locs h1 h2 h3)
    · rw [e2, d1]; omega
    · rw [e2, d1]; omega
    · rw [e2, d1, show (lo + (k : Int) - lo).toNat = k by omega]; exact d2
  · refine (g _ e2).map fun kk H ls locs h1 h2 h3 => lv_tableOut F.1 F.2.1 hd ?_ ha (kk H ls locs h1 h2 h3)
    apply Classical.byContradiction
    intro hno
    have n1 : lo ≤ x.toInt := Int.not_lt.mp fun q => hno (Or.inl q)
    have n2 : x.toInt ≤ hi := Int.not_lt.mp fun q => hno (Or.inr q)
    have hk : (x.toInt - lo).toNat < sw.length := by rw [hsw.1]; omega
    obtain ⟨d1, -⟩ := hsw.2 (x.toInt - lo).toNat _ (List.getElem?_eq_getElem hk)
    refine e1 (x.toInt - lo).toNat _ (List.getElem?_eq_getElem hk) (Int32.toInt_inj.mp ?_)
    rw [d1]
    omega
end rxC
end
section
/-! ===== The small machine's runs are the machine's ===== -/
def rx_wd (w : Nat) (c : Cond) : Bool := decide (lw_tbl[w]? = some c) && goodWord c
theorem rx_wd_in {w : Nat} {c : Cond} (h : rx_wd w c = true) : c ∈ rx_TB := by
  unfold rx_wd at h
  simp only [Bool.and_eq_true, decide_eq_true_eq] at h
  exact rx_in h.1 h.2
theorem rx_k_ai : Cond.arrayClass .int ∈ rx_TB := rx_in (i := 134) (by decide +kernel) (by decide +kernel)
theorem rx_k_aj : Cond.arrayClass .long ∈ rx_TB := rx_in (i := 105) (by decide +kernel) (by decide +kernel)
theorem rx_k_oi : Cond.instanceMethod Lib.objectInit ∈ rx_TB := rx_in (i := 64) (by decide +kernel) (by decide +kernel)
theorem rx_k_oc : Cond.code Lib.objectInit ⟨#[0xb1]⟩ 1 none ∈ rx_TB := rx_in (i := 65) (by decide +kernel) (by decide +kernel)
theorem rx_k_cn : Cond.native arraycopyName ∈ rx_TB := rx_in (i := 619) (by decide +kernel) (by decide +kernel)
theorem rx_k_cs : Cond.static arraycopyName ∈ rx_TB := rx_in (i := 618) (by decide +kernel) (by decide +kernel)
theorem rx_k_ci : Cond.initialized "java/lang/System" ∈ rx_TB := rx_in (i := 57) (by decide +kernel) (by decide +kernel)
theorem rx_k_i0 : Cond.instantiable "SetHouse$Place" 6 ∈ rx_TB ∧ Cond.initialized "SetHouse$Place" ∈ rx_TB := ⟨rx_in (i := 71) (by decide +kernel) (by decide +kernel), rx_in (i := 43) (by decide +kernel) (by decide +kernel)⟩
theorem rx_k_i1 : Cond.instantiable "SetHouse$Seeker" 5 ∈ rx_TB ∧ Cond.initialized "SetHouse$Seeker" ∈ rx_TB := ⟨rx_in (i := 113) (by decide +kernel) (by decide +kernel), rx_in (i := 45) (by decide +kernel) (by decide +kernel)⟩
theorem rx_k_i2 : Cond.instantiable "SetHouse" 6 ∈ rx_TB ∧ Cond.initialized "SetHouse" ∈ rx_TB := ⟨rx_in (i := 59) (by decide +kernel) (by decide +kernel), rx_in (i := 41) (by decide +kernel) (by decide +kernel)⟩
theorem rx_k_i3 : Cond.instantiable "SetHouseModel" 15 ∈ rx_TB ∧ Cond.initialized "SetHouseModel" ∈ rx_TB := ⟨rx_in (i := 744) (by decide +kernel) (by decide +kernel), rx_in (i := 46) (by decide +kernel) (by decide +kernel)⟩
theorem rx_k_i {a : Nat} {q : vw_C} (h : rx_cl[a]? = some q) : Cond.instantiable q.1 q.2.2 ∈ rx_TB ∧ Cond.initialized q.1 ∈ rx_TB := by
  match a, h with
  | 0, h => cases h; exact rx_k_i0
  | 1, h => cases h; exact rx_k_i1
  | 2, h => cases h; exact rx_k_i2
  | 3, h => cases h; exact rx_k_i3
  | n + 4, h => simp [rx_cl] at h
def rx_isR : FieldType → Bool
  | .object _ => true
  | .array _ => true
  | _ => false
/-- a row of a method's table is right -/
def rx_eok (own : String) (cc : ByteArray) (nL : Nat) (ini bo : Bool) (e : rx_E) : Bool := match e with
  | (pc, ins, len, a, b, w, vi, vl, sw) => decide (decode cc pc = .ok (ins, len)) && (match ins with
    | .iconst n => decide (len = 1) && decide (Int32.ofInt n = vi)
    | .bipush n => decide (len = 2) && decide ((Int8.ofInt n).toInt32 = vi)
    | .sipush n => decide (len = 3) && decide ((Int16.ofInt n).toInt32 = vi)
    | .ldc i => decide (len = 2) && rx_wd w (.constant own i vi)
    | .ldc_w i => decide (len = 3) && rx_wd w (.constant own i vi)
    | .lconst n => decide (len = 1) && decide (Int64.ofNat n.val = vl)
    | .ldc2_w i => decide (len = 3) && rx_wd w (.constantLong own i vl)
    | .iload _ => decide (len = 2)
    | .lload _ => decide (len = 2)
    | .aload _ => decide (len = 2)
    | .istore i => decide (len = 2) && decide (i < nL)
    | .lstore i => decide (len = 2) && decide (i + 1 < nL)
    | .astore i => decide (len = 2) && decide (i < nL)
    | .istore_n i => decide (len = 1) && decide (i.val < nL)
    | .lstore_n i => decide (len = 1) && decide (i.val + 1 < nL)
    | .astore_n i => decide (len = 1) && decide (i.val < nL)
    | .iinc i n => decide (len = 3) && (decide (i < nL) && decide (Int32.ofInt n = vi))
    | .goto off => decide (len = 3) && decide ((pc : Int) + off = (a : Int))
    | .ifCond _ off => decide (len = 3) && decide ((pc : Int) + off = (a : Int))
    | .if_icmp _ off => decide (len = 3) && decide ((pc : Int) + off = (a : Int))
    | .tableswitch d lo hi offs => decide ((pc : Int) + d = (a : Int)) && (decide (sw.length = (hi - lo + 1).toNat) && sw.zipIdx.all (fun q => decide (q.1.1.toInt = lo + (q.2 : Int)) && (match offs[q.2]? with
      | some o => decide ((pc : Int) + o = (q.1.2 : Int))
      | none => false)))
    | .getfield i => decide (len = 3) && (match rx_cl[a]? with
      | some q => decide (b / 4 < q.2.2) && rx_wd w (.fieldLink own i (q.2.1 (b / 4)).1 (q.2.1 (b / 4)).2.1 (q.2.1 (b / 4)).2.2.1)
      | none => false)
    | .putfield i => decide (len = 3) && (match rx_cl[a]? with
      | some q => decide (b / 4 < q.2.2) && (rx_wd w (.fieldLink own i (q.2.1 (b / 4)).1 (q.2.1 (b / 4)).2.1 (q.2.1 (b / 4)).2.2.1) && ((decide ((q.2.1 (b / 4)).2.2.2 = false) || (ini && decide ((q.2.1 (b / 4)).1 = own))) &&
        (match b % 4 with
          | 0 => decide (rx_ty a (b / 4) = .int)
          | 1 => decide (rx_ty a (b / 4) = .long)
          | _ => rx_isR (rx_ty a (b / 4)))))
      | none => false)
    | .getstatic i => decide (len = 3) && ((decide (a = 1000001) && rx_wd w (.fieldLink own i "SetHouse$Heap" "WITHOUT" "[J")) || (decide (a = 1000002) && rx_wd w (.fieldLink own i "SetHouse$Numbers" "FACTORIALS" "[I")))
    | .newarray _ => decide (len = 2)
    | .anewarray i => decide (len = 3) && rx_wd w (.classLink own i "SetHouse$Place")
    | .new i => decide (len = 3) && (match rx_cl[a]? with
      | some q => rx_wd w (.classLink own i q.1)
      | none => false)
    | .invokestatic i => decide (len = 3) && (match b with
      | 1000 => rx_wd w (.methodLink own i arraycopyName)
      | _ => rx_wd w (.methodLink own i (rx_ny a)) && decide (rx_kd a = 0))
    | .invokevirtual i => decide (len = 3) && (rx_wd w (.methodLink own i (rx_ny a)) && (decide (rx_kd a = 1) && (match rx_cl[b / 100]? with
      | some q => decide ((rx_ny a).cls = q.1)
      | none => false)))
    | .invokespecial i => decide (len = 3) && (match b with
      | 1000 => rx_wd w (.methodLink own i Lib.objectInit)
      | _ => decide (rx_kd a = 2) && (rx_wd w (.methodLink own i (rx_ny a)) || (decide (own = "SetHouse") && ((decide (i = 28) && decide (rx_ny a = rx_yP)) || (decide (i = 41) && decide (rx_ny a = rx_yS))))))
    | .ireturn => decide (len = 1) && (match bo with
      | true => decide (b = 1) || decide (b = 2)
      | false => decide (b = 0))
    | _ => decide (len = 1))
def rx_adj : List rx_E → Bool
  | e :: e' :: es => decide (e.1 + e.2.2.1 = e'.1) && rx_adj (e' :: es)
  | _ => true
def rx_tab (Z : rx_Z) (es : List rx_E) : Prop := (∀ e ∈ es, rx_eok (zo Z) (zcc Z) (zn Z) (zi Z) (zb Z) e = true) ∧ rx_adj es = true
theorem rx_tab.tail {Z : rx_Z} {e : rx_E} {es : List rx_E} (h : rx_tab Z (e :: es)) : rx_tab Z es := by
  refine ⟨fun x hx => h.1 x (List.mem_cons_of_mem _ hx), ?_⟩
  cases es with
  | nil => rfl
  | cons e' es =>
    have := h.2
    simp only [rx_adj, Bool.and_eq_true] at this
    exact this.2
theorem rx_tab.suf {Z : rx_Z} {es : List rx_E} (t : Nat) (h : rx_tab Z es) : rx_tab Z (rx_suf t es) := by
  induction es with
  | nil => exact h
  | cons e es ih =>
    unfold rx_suf
    cases Nat.beq e.1 t with
    | true => exact h
    | false => exact ih h.tail
theorem rx_suf_head {t : Nat} {es es' : List rx_E} {e' : rx_E} (h : rx_suf t es = e' :: es') : e'.1 = t := by
  induction es with
  | nil => cases h
  | cons e es ih =>
    unfold rx_suf at h
    cases hb : Nat.beq e.1 t with
    | true =>
      rw [hb] at h
      cases h
      exact Nat.eq_of_beq_eq_true hb
    | false =>
      rw [hb] at h
      exact ih h
/-- the calls are right -/
def rx_CS {α : Type} (Z : rx_Z) (C : rx_Cl α) (z : α) : Prop := ∀ (j : Nat) (as : List Value) (u : Option rx_H) (κ : rx_K α), C j as u κ = some z → ∃ (r : Option Value) (u' : Option rx_H) (bytes : ByteArray) (maxL : Nat) (ret : Option FieldType) (n : Nat), κ r u' = some z ∧ rx_Cal (rx_ny j) bytes maxL ret (rx_kd j) n ∧ (rx_kd j = 0 → as.length = n) ∧ (¬ rx_kd j = 0 → ∃ (r0 : Nat) (as' : List Value), as = .ref r0 :: as' ∧ as'.length = n) ∧ rx_Ok (zL Z) (zG Z) (zd Z) (rx_ny j) bytes maxL ret as (rx_u Z u) r (rx_u Z u')
/-- the end is right -/
def rx_rv (Z : rx_Z) (pc : Nat) : Option Value → Prop
  | some (.int x) => decode (zcc Z) pc = .ok (.ireturn, 1) ∧ (zb Z = true → x = 0 ∨ x = 1)
  | some (.long _) => decode (zcc Z) pc = .ok (.lreturn, 1)
  | none => decode (zcc Z) pc = .ok (.return_, 1)
  | _ => False
def rx_RT {α : Type} (Z : rx_Z) (ret : rx_K α) (z : α) : Prop := ∀ (v : Option Value) (u : Option rx_H), ret v u = some z → (rx_u Z u).2.length ≤ zn1 Z ∧ rx_sl (rx_u Z u) ≤ zs1 Z ∧
  ∀ (pc : Nat) (ls : Array Slot) (H : Heap) (locs : List Loc), rx_rv Z pc v → rx_R (zG Z) (rx_u Z u) H → (∀ q ∈ locs, rx_base (zG Z) ≤ q.base) → zW Z H locs ((rx_u Z u).2.length - zn0 Z) (rx_sl (rx_u Z u) - zs0 Z) (F0 (zM Z) pc ls (v.toList.map (rx_ev (zG Z))))
theorem rx_take_eq {n : Nat} {st acc as rest : List Value} (h : rx_take n st acc = some (as, rest)) : as.reverse ++ rest = acc.reverse ++ st := by
  induction n generalizing st acc with
  | zero => simp only [rx_take] at h; cases h; rfl
  | succ n ih =>
    cases st with
    | nil => simp [rx_take] at h
    | cons v st =>
      simp only [rx_take] at h
      rw [ih h]
      simp
section rxA
variable {Z : rx_Z} {α : Type} {C : rx_Cl α} {ret : rx_K α} {all es : List rx_E} {k : rx_Go α} {ls : rx_L} {st : List Value} {u : Option rx_H} {z : α}
set_option maxHeartbeats 4000000 in
set_option maxRecDepth 100000 in
theorem rx_act_ok (F : rx_Fr Z) {en : rx_E} (hall : rx_tab Z all) (hen : rx_tab Z (en :: es)) (hC : rx_CS Z C z) (hk : ∀ (es : List rx_E) (ls : rx_L) (st : List Value) (u : Option rx_H), rx_tab Z es → k es ls st u = some z → ∃ (e' : rx_E) (es' : List rx_E), es = e' :: es' ∧ rx_O Z e'.1 ls st u) (hret : rx_RT Z ret z) (h : rx_act C ret all k en es ls st u = some z) : rx_O Z en.1 ls st u := by
  have nx : ∀ (ls : rx_L) (st : List Value) (u : Option rx_H), k es ls st u = some z → rx_O Z (en.1 + en.2.2.1) ls st u := by
    intro ls st u h
    obtain ⟨e', es', rfl, ho⟩ := hk _ _ _ _ hen.tail h
    have := hen.2
    simp only [rx_adj, Bool.and_eq_true, decide_eq_true_eq] at this
    rw [this.1]
    exact ho
  have jp : ∀ (t : Nat) (ls : rx_L) (st : List Value) (u : Option rx_H), k (rx_suf t all) ls st u = some z → rx_O Z t ls st u := by
    intro t ls st u h
    obtain ⟨e', es', he, ho⟩ := hk _ _ _ _ (hall.suf t) h
    rw [← rx_suf_head he]
    exact ho
  have hok := hen.1 _ List.mem_cons_self
  obtain ⟨pc, ins, len, a, b, w, vi, vl, sw⟩ := en
  unfold rx_eok at hok
  dsimp only at hok nx ⊢
  rw [Bool.and_eq_true, decide_eq_true_eq] at hok
  obtain ⟨hd, hok⟩ := hok
  unfold rx_act at h
  dsimp only at h
  cases ins <;> (try dsimp only at h) <;> (try dsimp only at hok)
  case iconst n =>
    simp only [Bool.and_eq_true, decide_eq_true_eq] at hok
    obtain ⟨rfl, hv⟩ := hok
    exact (nx _ _ _ h).map (rx_t_iconst F hv hd)
  case bipush n =>
    simp only [Bool.and_eq_true, decide_eq_true_eq] at hok
    obtain ⟨rfl, hv⟩ := hok
    exact (nx _ _ _ h).map (rx_t_bipush F hv hd)
  case sipush n =>
    simp only [Bool.and_eq_true, decide_eq_true_eq] at hok
    obtain ⟨rfl, hv⟩ := hok
    exact (nx _ _ _ h).map (rx_t_sipush F hv hd)
  case lconst n =>
    simp only [Bool.and_eq_true, decide_eq_true_eq] at hok
    obtain ⟨rfl, hv⟩ := hok
    exact (nx _ _ _ h).map (rx_t_lconst F hv hd)
  case ldc i =>
    simp only [Bool.and_eq_true, decide_eq_true_eq] at hok
    obtain ⟨rfl, hv⟩ := hok
    exact (nx _ _ _ h).map (rx_t_ldc F (rx_wd_in hv) hd)
  case ldc_w i =>
    simp only [Bool.and_eq_true, decide_eq_true_eq] at hok
    obtain ⟨rfl, hv⟩ := hok
    exact (nx _ _ _ h).map (rx_t_ldc_w F (rx_wd_in hv) hd)
  case ldc2_w i =>
    simp only [Bool.and_eq_true, decide_eq_true_eq] at hok
    obtain ⟨rfl, hv⟩ := hok
    exact (nx _ _ _ h).map (rx_t_ldc2 F (rx_wd_in hv) hd)
  case iload i =>
    rw [decide_eq_true_eq] at hok
    subst hok
    split at h
    · next hl => exact (nx _ _ _ h).map (rx_t_iload F hl hd)
    · cases h
  case iload_n i =>
    rw [decide_eq_true_eq] at hok
    subst hok
    split at h
    · next hl => exact (nx _ _ _ h).map (rx_t_iload_n F hl hd)
    · cases h
  case istore i =>
    simp only [Bool.and_eq_true, decide_eq_true_eq] at hok
    obtain ⟨rfl, hv⟩ := hok
    split at h
    · exact (nx _ _ _ h).map (rx_t_istore F hv hd)
    · cases h
  case istore_n i =>
    simp only [Bool.and_eq_true, decide_eq_true_eq] at hok
    obtain ⟨rfl, hv⟩ := hok
    split at h
    · exact (nx _ _ _ h).map (rx_t_istore_n F hv hd)
    · cases h
  case lload i =>
    rw [decide_eq_true_eq] at hok
    subst hok
    split at h
    · next hl => exact (nx _ _ _ h).map (rx_t_lload F hl hd)
    · cases h
  case lload_n i =>
    rw [decide_eq_true_eq] at hok
    subst hok
    split at h
    · next hl => exact (nx _ _ _ h).map (rx_t_lload_n F hl hd)
    · cases h
  case lstore i =>
    simp only [Bool.and_eq_true, decide_eq_true_eq] at hok
    obtain ⟨rfl, hv⟩ := hok
    split at h
    · exact (nx _ _ _ h).map (rx_t_lstore F hv hd)
    · cases h
  case lstore_n i =>
    simp only [Bool.and_eq_true, decide_eq_true_eq] at hok
    obtain ⟨rfl, hv⟩ := hok
    split at h
    · exact (nx _ _ _ h).map (rx_t_lstore_n F hv hd)
    · cases h
  case aload i =>
    rw [decide_eq_true_eq] at hok
    subst hok
    split at h
    · next hl => exact (nx _ _ _ h).map (rx_t_aload F hl hd)
    · cases h
  case aload_n i =>
    rw [decide_eq_true_eq] at hok
    subst hok
    split at h
    · next hl => exact (nx _ _ _ h).map (rx_t_aload_n F hl hd)
    · cases h
  case astore i =>
    simp only [Bool.and_eq_true, decide_eq_true_eq] at hok
    obtain ⟨rfl, hv⟩ := hok
    split at h
    · exact (nx _ _ _ h).map (rx_t_astore F hv hd)
    · cases h
  case astore_n i =>
    simp only [Bool.and_eq_true, decide_eq_true_eq] at hok
    obtain ⟨rfl, hv⟩ := hok
    split at h
    · exact (nx _ _ _ h).map (rx_t_astore_n F hv hd)
    · cases h
  case iinc i n =>
    simp only [Bool.and_eq_true, decide_eq_true_eq] at hok
    obtain ⟨rfl, hv, hv2⟩ := hok
    split at h
    · next hl => exact (nx _ _ _ h).map (rx_t_iinc F hv2 hv hl hd)
    · cases h
  case iadd =>
    rw [decide_eq_true_eq] at hok
    subst hok
    split at h
    · exact (nx _ _ _ h).map (rx_t_iadd F hd)
    · cases h
  case isub =>
    rw [decide_eq_true_eq] at hok
    subst hok
    split at h
    · exact (nx _ _ _ h).map (rx_t_isub F hd)
    · cases h
  case imul =>
    rw [decide_eq_true_eq] at hok
    subst hok
    split at h
    · exact (nx _ _ _ h).map (rx_t_imul F hd)
    · cases h
  case iand =>
    rw [decide_eq_true_eq] at hok
    subst hok
    split at h
    · exact (nx _ _ _ h).map (rx_t_iand F hd)
    · cases h
  case ior =>
    rw [decide_eq_true_eq] at hok
    subst hok
    split at h
    · exact (nx _ _ _ h).map (rx_t_ior F hd)
    · cases h
  case ixor =>
    rw [decide_eq_true_eq] at hok
    subst hok
    split at h
    · exact (nx _ _ _ h).map (rx_t_ixor F hd)
    · cases h
  case ishl =>
    rw [decide_eq_true_eq] at hok
    subst hok
    split at h
    · exact (nx _ _ _ h).map (rx_t_ishl F hd)
    · cases h
  case ishr =>
    rw [decide_eq_true_eq] at hok
    subst hok
    split at h
    · exact (nx _ _ _ h).map (rx_t_ishr F hd)
    · cases h
  case iushr =>
    rw [decide_eq_true_eq] at hok
    subst hok
    split at h
    · exact (nx _ _ _ h).map (rx_t_iushr F hd)
    · cases h
  case ineg =>
    rw [decide_eq_true_eq] at hok
    subst hok
    split at h
    · exact (nx _ _ _ h).map (rx_t_ineg F hd)
    · cases h
  case ladd =>
    rw [decide_eq_true_eq] at hok
    subst hok
    split at h
    · exact (nx _ _ _ h).map (rx_t_ladd F hd)
    · cases h
  case lsub =>
    rw [decide_eq_true_eq] at hok
    subst hok
    split at h
    · exact (nx _ _ _ h).map (rx_t_lsub F hd)
    · cases h
  case lmul =>
    rw [decide_eq_true_eq] at hok
    subst hok
    split at h
    · exact (nx _ _ _ h).map (rx_t_lmul F hd)
    · cases h
  case land =>
    rw [decide_eq_true_eq] at hok
    subst hok
    split at h
    · exact (nx _ _ _ h).map (rx_t_land F hd)
    · cases h
  case lor =>
    rw [decide_eq_true_eq] at hok
    subst hok
    split at h
    · exact (nx _ _ _ h).map (rx_t_lor F hd)
    · cases h
  case lxor =>
    rw [decide_eq_true_eq] at hok
    subst hok
    split at h
    · exact (nx _ _ _ h).map (rx_t_lxor F hd)
    · cases h
  case lneg =>
    rw [decide_eq_true_eq] at hok
    subst hok
    split at h
    · exact (nx _ _ _ h).map (rx_t_lneg F hd)
    · cases h
  case lshl =>
    rw [decide_eq_true_eq] at hok
    subst hok
    split at h
    · exact (nx _ _ _ h).map (rx_t_lshl F hd)
    · cases h
  case lushr =>
    rw [decide_eq_true_eq] at hok
    subst hok
    split at h
    · exact (nx _ _ _ h).map (rx_t_lushr F hd)
    · cases h
  case i2l =>
    rw [decide_eq_true_eq] at hok
    subst hok
    split at h
    · exact (nx _ _ _ h).map (rx_t_i2l F hd)
    · cases h
  case l2i =>
    rw [decide_eq_true_eq] at hok
    subst hok
    split at h
    · exact (nx _ _ _ h).map (rx_t_l2i F hd)
    · cases h
  case i2b =>
    rw [decide_eq_true_eq] at hok
    subst hok
    split at h
    · exact (nx _ _ _ h).map (rx_t_i2b F hd)
    · cases h
  case ldiv =>
    rw [decide_eq_true_eq] at hok
    subst hok
    split at h
    · split at h
      · cases h
      · next hy => exact (nx _ _ _ h).map (rx_t_ldiv F hy hd)
    · cases h
  case idiv =>
    rw [decide_eq_true_eq] at hok
    subst hok
    split at h
    · next y x st' =>
      split at h
      · by_cases hy : y = 0
        · rw [decide_eq_true hy] at h
          cases h
        · rw [decide_eq_false hy] at h
          exact (nx _ _ _ h).map (rx_t_idiv F hy hd)
      · split at h
        · cases h
        · next hy => exact (nx _ _ _ h).map (rx_t_idiv F hy hd)
    · cases h
  case irem =>
    rw [decide_eq_true_eq] at hok
    subst hok
    split at h
    · next y x st' =>
      split at h
      · by_cases hy : y = 0
        · rw [decide_eq_true hy] at h
          cases h
        · rw [decide_eq_false hy] at h
          exact (nx _ _ _ h).map (rx_t_irem F hy hd)
      · split at h
        · cases h
        · next hy => exact (nx _ _ _ h).map (rx_t_irem F hy hd)
    · cases h
  case dup =>
    rw [decide_eq_true_eq] at hok
    subst hok
    split at h
    · exact (nx _ _ _ h).map (rx_t_dupI F hd)
    · exact (nx _ _ _ h).map (rx_t_dupR F hd)
    · cases h
  case dup2 =>
    rw [decide_eq_true_eq] at hok
    subst hok
    split at h
    · exact (nx _ _ _ h).map (rx_t_dup2R F hd)
    · exact (nx _ _ _ h).map (rx_t_dup2I F hd)
    · cases h
  case pop =>
    rw [decide_eq_true_eq] at hok
    subst hok
    split at h
    · exact (nx _ _ _ h).map (rx_t_popI F hd)
    · exact (nx _ _ _ h).map (rx_t_popR F hd)
    · cases h
  case goto off =>
    simp only [Bool.and_eq_true, decide_eq_true_eq] at hok
    obtain ⟨rfl, hv⟩ := hok
    exact (jp _ _ _ _ h).map (rx_t_goto F hv hd)
  case ifCond cd off =>
    simp only [Bool.and_eq_true, decide_eq_true_eq] at hok
    obtain ⟨rfl, hv⟩ := hok
    split at h
    · exact rx_t_if F hv hd h (jp _ _ _ _) (nx _ _ _)
    · cases h
  case if_icmp cd off =>
    simp only [Bool.and_eq_true, decide_eq_true_eq] at hok
    obtain ⟨rfl, hv⟩ := hok
    split at h
    · exact rx_t_icmp F hv hd h (jp _ _ _ _) (nx _ _ _)
    · cases h
  case lcmp =>
    rw [decide_eq_true_eq] at hok
    subst hok
    split at h
    · next y x st' pc2 cd off len2 a2 b2 w2 vi2 vl2 sw2 es2 =>
      have hok2 := hen.tail.1 _ List.mem_cons_self
      unfold rx_eok at hok2
      dsimp only at hok2
      simp only [Bool.and_eq_true, decide_eq_true_eq] at hok2
      obtain ⟨hd2, rfl, hv2⟩ := hok2
      have had := hen.2
      simp only [rx_adj, Bool.and_eq_true, decide_eq_true_eq] at had
      obtain ⟨had1, had2⟩ := had
      have hpc2 : pc2 = pc + 1 := had1.symm
      subst hpc2
      rw [rx_ifJ_if] at h
      refine rx_t_lcmp F hd (rx_t_if F hv2 hd2 h (jp _ _ _ _) fun h2 => ?_)
      obtain ⟨e', es', rfl, ho⟩ := hk _ _ _ _ hen.tail.tail h2
      have := hen.tail.2
      simp only [rx_adj, Bool.and_eq_true, decide_eq_true_eq] at this
      rw [this.1]
      exact ho
    · cases h
  case tableswitch dflt lo hi offs =>
    simp only [Bool.and_eq_true, decide_eq_true_eq, List.all_eq_true] at hok
    obtain ⟨hv, hlen, hsw⟩ := hok
    split at h
    · refine rx_t_switch F hd hv ⟨hlen, fun i q hq => ?_⟩ h (fun t => jp t _ _ _)
      have h1 := hsw (q, i) (by
        rw [List.mem_iff_getElem?]
        exact ⟨i, by simp [List.getElem?_zipIdx, hq]⟩)
      obtain ⟨h2, h3⟩ := h1
      refine ⟨h2, ?_⟩
      dsimp only at h3
      split at h3
      · next o ho => exact ⟨o, ho, by simpa using h3⟩
      · cases h3
    · cases h
  case getfield i =>
    simp only [Bool.and_eq_true, decide_eq_true_eq] at hok
    obtain ⟨rfl, hok⟩ := hok
    split at hok
    case h_2 => cases hok
    next q hq =>
    simp only [Bool.and_eq_true, decide_eq_true_eq] at hok
    obtain ⟨hb, hw⟩ := hok
    split at h
    case h_2 => cases h
    split at h
    · obtain ⟨x, hx, h⟩ := Option.bind_eq_some_iff.mp h
      unfold rx_gI at hx
      split at hx
      · next hf => cases hx; exact (nx _ _ _ h).map (rx_t_getf F hq hb (rx_wd_in hw) hf hd)
      · cases hx
    · obtain ⟨x, hx, h⟩ := Option.bind_eq_some_iff.mp h
      unfold rx_gJ at hx
      split at hx
      · next hf => cases hx; exact (nx _ _ _ h).map (rx_t_getf F hq hb (rx_wd_in hw) hf hd)
      · cases hx
    · obtain ⟨x, hx, h⟩ := Option.bind_eq_some_iff.mp h
      unfold rx_gR at hx
      split at hx
      · next hf => cases hx; exact (nx _ _ _ h).map (rx_t_getf F hq hb (rx_wd_in hw) hf hd)
      · cases hx
    · cases h
  case putfield i =>
    simp only [Bool.and_eq_true, decide_eq_true_eq] at hok
    obtain ⟨rfl, hok⟩ := hok
    split at hok
    case h_2 => cases hok
    next q hq =>
    simp only [Bool.and_eq_true, decide_eq_true_eq, Bool.or_eq_true] at hok
    obtain ⟨hb, hw, hfin, hty⟩ := hok
    split at h
    · cases hb4 : Nat.beq (b % 4) 0 with
      | false => rw [hb4] at h; cases h
      | true =>
        rw [hb4] at h
        obtain ⟨u1, hx, h⟩ := Option.bind_eq_some_iff.mp h
        rw [Nat.eq_of_beq_eq_true hb4] at hty
        have hty : rx_ty a (b / 4) = .int := by simpa using hty
        exact rx_t_put F hq hb (rx_wd_in hw) (by rw [hty]; rfl) (by rw [hty]; rfl) hfin hx hd (nx _ _ _ h)
    · cases hb4 : Nat.beq (b % 4) 1 with
      | false => rw [hb4] at h; cases h
      | true =>
        rw [hb4] at h
        obtain ⟨u1, hx, h⟩ := Option.bind_eq_some_iff.mp h
        rw [Nat.eq_of_beq_eq_true hb4] at hty
        have hty : rx_ty a (b / 4) = .long := by simpa using hty
        exact rx_t_put F hq hb (rx_wd_in hw) (by rw [hty]; rfl) (by rw [hty]; rfl) hfin hx hd (nx _ _ _ h)
    · cases hb4 : Nat.beq (b % 4) 2 with
      | false => rw [hb4] at h; cases h
      | true =>
        rw [hb4] at h
        obtain ⟨u1, hx, h⟩ := Option.bind_eq_some_iff.mp h
        rw [Nat.eq_of_beq_eq_true hb4] at hty
        have hty : rx_isR (rx_ty a (b / 4)) = true := hty
        refine rx_t_put F hq hb (rx_wd_in hw) ?_ ?_ hfin hx hd (nx _ _ _ h)
        · generalize rx_ty a (b / 4) = t at hty
          cases t <;> first | rfl | cases hty
        · generalize rx_ty a (b / 4) = t at hty
          cases t <;> first | rfl | cases hty
    · cases h
  case getstatic i =>
    simp only [Bool.and_eq_true, decide_eq_true_eq, Bool.or_eq_true] at hok
    obtain ⟨rfl, hok⟩ := hok
    rcases hok with ⟨rfl, hw⟩ | ⟨rfl, hw⟩
    · exact (nx _ _ _ h).map (rx_t_gets F rfl F.2.2.2.2.2.1.2.2.2.1 (rx_wd_in hw) hd)
    · exact (nx _ _ _ h).map (rx_t_gets F rfl F.2.2.2.2.2.1.2.2.2.2.2.1 (rx_wd_in hw) hd)
  case iaload =>
    rw [decide_eq_true_eq] at hok
    subst hok
    split at h
    · obtain ⟨x, hx, h⟩ := Option.bind_eq_some_iff.mp h
      exact (nx _ _ _ h).map (rx_t_iald F hx hd)
    · cases h
  case laload =>
    rw [decide_eq_true_eq] at hok
    subst hok
    split at h
    · obtain ⟨x, hx, h⟩ := Option.bind_eq_some_iff.mp h
      exact (nx _ _ _ h).map (rx_t_lald F hx hd)
    · cases h
  case aaload =>
    rw [decide_eq_true_eq] at hok
    subst hok
    split at h
    · obtain ⟨x, hx, h⟩ := Option.bind_eq_some_iff.mp h
      exact (nx _ _ _ h).map (rx_t_aald F hx hd)
    · cases h
  case iastore =>
    rw [decide_eq_true_eq] at hok
    subst hok
    split at h
    · obtain ⟨x, hx, h⟩ := Option.bind_eq_some_iff.mp h
      exact rx_t_iast F hx hd (nx _ _ _ h)
    · cases h
  case lastore =>
    rw [decide_eq_true_eq] at hok
    subst hok
    split at h
    · obtain ⟨x, hx, h⟩ := Option.bind_eq_some_iff.mp h
      exact rx_t_last F hx hd (nx _ _ _ h)
    · cases h
  case aastore =>
    rw [decide_eq_true_eq] at hok
    subst hok
    split at h
    · obtain ⟨x, hx, h⟩ := Option.bind_eq_some_iff.mp h
      exact rx_t_aast F hx hd (nx _ _ _ h)
    · cases h
  case arraylength =>
    rw [decide_eq_true_eq] at hok
    subst hok
    split at h
    · obtain ⟨x, hx, h⟩ := Option.bind_eq_some_iff.mp h
      exact (nx _ _ _ h).map (rx_t_len F hx hd)
    · cases h
  case newarray t =>
    rw [decide_eq_true_eq] at hok
    subst hok
    split at h
    · split at h
      · obtain ⟨x, hx, h⟩ := Option.bind_eq_some_iff.mp h
        exact rx_t_newI F hx rx_k_ai hd (nx _ _ _ h)
      · obtain ⟨x, hx, h⟩ := Option.bind_eq_some_iff.mp h
        exact rx_t_newJ F hx rx_k_aj hd (nx _ _ _ h)
      · cases h
    · cases h
  case anewarray i =>
    simp only [Bool.and_eq_true, decide_eq_true_eq] at hok
    obtain ⟨rfl, hv⟩ := hok
    split at h
    · obtain ⟨x, hx, h⟩ := Option.bind_eq_some_iff.mp h
      exact rx_t_newR F hx (rx_wd_in hv) hd (nx _ _ _ h)
    · cases h
  case new i =>
    simp only [Bool.and_eq_true, decide_eq_true_eq] at hok
    obtain ⟨rfl, hok⟩ := hok
    split at hok
    case h_2 => cases hok
    next q hq =>
    obtain ⟨x, hx, h⟩ := Option.bind_eq_some_iff.mp h
    exact rx_t_newO F hx hq (rx_wd_in hok) (rx_k_i hq).1 (rx_k_i hq).2 hd (nx _ _ _ h)
  case invokestatic i =>
    simp only [Bool.and_eq_true, decide_eq_true_eq] at hok
    obtain ⟨rfl, hok⟩ := hok
    split at h
    · split at h
      · next n dp r1 sp r0 st' =>
        cases hc : Nat.ble (rx_cat st') 8 with
        | false => rw [hc] at h; cases h
        | true =>
          rw [hc] at h
          obtain ⟨u1, hx, h⟩ := Option.bind_eq_some_iff.mp h
          exact rx_t_copy F (rx_wd_in hok) rx_k_cn rx_k_cs rx_k_ci (Nat.le_of_ble_eq_true hc) hx hd (nx _ _ _ h)
      · cases h
    · next hb =>
      have hok2 : rx_wd w (.methodLink (zo Z) i (rx_ny a)) = true ∧ rx_kd a = 0 := by
        split at hok
        · next hb2 => exact absurd rfl hb
        · simpa using hok
      unfold rx_call at h
      split at h
      · cases h
      next as rest ht =>
      dsimp only at h
      cases hc : Nat.ble (rx_cat rest) 8 with
      | false => rw [hc] at h; cases h
      | true =>
        rw [hc] at h
        obtain ⟨r, u1, bytes, maxL, rt, n, h1, h2, h3, h4, h5⟩ := hC _ _ _ _ h
        rw [hok2.2] at h2
        have hst := rx_take_eq ht
        simp only [List.reverse_nil, List.nil_append] at hst
        rw [← hst]
        exact rx_t_callS F (rx_wd_in hok2.1) h2 (h3 hok2.2) (Nat.le_of_ble_eq_true hc) h5 hd (nx _ _ _ h1)
  case invokevirtual i =>
    simp only [Bool.and_eq_true, decide_eq_true_eq] at hok
    obtain ⟨rfl, hw, hkd, hok⟩ := hok
    split at hok
    case h_2 => cases hok
    next q hq =>
    rw [decide_eq_true_eq] at hok
    split at h
    · next r0 as rest ht =>
      cases hc : Nat.ble (rx_cat rest) 8 with
      | false => rw [hc] at h; cases h
      | true =>
        rw [hc] at h
        obtain ⟨x, hx, h⟩ := Option.bind_eq_some_iff.mp h
        obtain ⟨r, u1, bytes, maxL, rt, n, h1, h2, h3, h4, h5⟩ := hC _ _ _ _ h
        rw [hkd] at h2
        have hst := rx_take_eq ht
        simp only [List.reverse_nil, List.nil_append] at hst
        rw [← hst]
        exact rx_t_callV F hq hok hx (rx_wd_in hw) h2 (by obtain ⟨r1, as1, e1, e2⟩ := h4 (by rw [hkd]; decide); cases e1; exact e2) (Nat.le_of_ble_eq_true hc) h5 hd (nx _ _ _ h1)
    · cases h
  case invokespecial i =>
    simp only [Bool.and_eq_true, decide_eq_true_eq] at hok
    obtain ⟨rfl, hok⟩ := hok
    split at h
    · split at h
      · next r0 st' =>
        cases hc : Nat.ble (rx_cat st') 8 with
        | false => rw [hc] at h; cases h
        | true =>
          rw [hc] at h
          exact (nx _ _ _ h).map (rx_t_obj F (rx_wd_in hok) rx_k_oi rx_k_oc (Nat.le_of_ble_eq_true hc) hd)
      · cases h
    · next hb =>
      have hok2 : rx_kd a = 2 ∧ (rx_wd w (.methodLink (zo Z) i (rx_ny a)) = true ∨ (zo Z = "SetHouse" ∧ ((i = 28 ∧ rx_ny a = rx_yP) ∨ (i = 41 ∧ rx_ny a = rx_yS)))) := by
        split at hok
        · next hb2 => exact absurd rfl hb
        · simpa using hok
      have hlk : Cond.methodLink (zo Z) i (rx_ny a) ∈ rx_TB ∨ va_Nw (.methodLinkNest (zo Z) i (rx_ny a) "SetHouse") (zS Z) := by
        rcases hok2.2 with hl | ⟨ho, ⟨hi, hy⟩ | ⟨hi, hy⟩⟩
        · exact Or.inl (rx_wd_in hl)
        · rw [ho, hi, hy]; exact Or.inr F.2.2.2.2.2.1.2.2.2.2.2.2.2.1
        · rw [ho, hi, hy]; exact Or.inr F.2.2.2.2.2.1.2.2.2.2.2.2.2.2.1
      unfold rx_call at h
      split at h
      · cases h
      next as rest ht =>
      dsimp only at h
      cases hc : Nat.ble (rx_cat rest) 8 with
      | false => rw [hc] at h; cases h
      | true =>
        rw [hc] at h
        obtain ⟨r, u1, bytes, maxL, rt, n, h1, h2, h3, h4, h5⟩ := hC _ _ _ _ h
        rw [hok2.1] at h2
        have hst := rx_take_eq ht
        simp only [List.reverse_nil, List.nil_append] at hst
        rw [← hst]
        obtain ⟨r0, as1, e1, e2⟩ := h4 (by rw [hok2.1]; decide)
        subst e1
        exact rx_t_callI F hlk h2 e2 (Nat.le_of_ble_eq_true hc) h5 hd (nx _ _ _ h1)
  case ireturn =>
    simp only [Bool.and_eq_true, decide_eq_true_eq] at hok
    obtain ⟨rfl, hok⟩ := hok
    split at h
    · next x =>
      have fin : ∀ y : Int32, (zb Z = true → y = 0 ∨ y = 1) → x = y → ret (some (.int y)) u = some z → rx_O Z pc ls [.int x] u := by
        intro y hy hxy h1
        subst hxy
        obtain ⟨g1, g2, g3⟩ := hret _ _ h1
        exact fun _ _ => ⟨⟨g1, g2⟩, fun H lz locs k1 k2 k3 => g3 pc lz H locs ⟨hd, hy⟩ k1 k3⟩
      split at h
      · split at h
        · next hx => exact fin 0 (fun _ => Or.inl rfl) hx h
        · split at h
          · next hx => exact fin 1 (fun _ => Or.inr rfl) hx h
          · cases h
      · by_cases hx : x = 0
        · rw [decide_eq_true hx] at h
          exact fin 0 (fun _ => Or.inl rfl) hx h
        · rw [decide_eq_false hx] at h
          by_cases hx1 : x = 1
          · rw [decide_eq_true hx1] at h
            exact fin 1 (fun _ => Or.inr rfl) hx1 h
          · rw [decide_eq_false hx1] at h
            cases h
      · next n1 n2 =>
        refine fin x (fun hz => ?_) rfl h
        rw [hz] at hok
        simp only [Bool.or_eq_true, decide_eq_true_eq] at hok
        rcases hok with hb | hb
        · exact absurd hb n1
        · exact absurd hb n2
    · cases h
  case lreturn =>
    rw [decide_eq_true_eq] at hok
    subst hok
    split at h
    · obtain ⟨g1, g2, g3⟩ := hret _ _ h
      exact fun _ _ => ⟨⟨g1, g2⟩, fun H lz locs k1 k2 k3 => g3 pc lz H locs hd k1 k3⟩
    · cases h
  case return_ =>
    rw [decide_eq_true_eq] at hok
    subst hok
    split at h
    · obtain ⟨g1, g2, g3⟩ := hret _ _ h
      exact fun _ _ => ⟨⟨g1, g2⟩, fun H lz locs k1 k2 k3 => g3 pc lz H locs hd k1 k3⟩
    · cases h
  all_goals cases h
theorem rx_run_ok (F : rx_Fr Z) {stop : List Nat} {kk : Nat → rx_L → List Value → Option rx_H → Option α} (hall : rx_tab Z all) (hC : rx_CS Z C z) (hkk : ∀ (t : Nat) (ls : rx_L) (st : List Value) (u : Option rx_H), kk t ls st u = some z → rx_O Z t ls st u) (hret : rx_RT Z ret z) :
    ∀ (n : Nat) (es : List rx_E) (ls : rx_L) (st : List Value) (u : Option rx_H), rx_tab Z es → rx_run C ret all stop kk n es ls st u = some z → ∃ (e' : rx_E) (es' : List rx_E), es = e' :: es' ∧ rx_O Z e'.1 ls st u := by
  intro n
  induction n with
  | zero => intro es ls st u ht h; simp [rx_run] at h
  | succ n ih =>
    intro es ls st u ht h
    cases es with
    | nil => simp [rx_run] at h
    | cons e es =>
      refine ⟨e, es, rfl, ?_⟩
      unfold rx_run at h
      cases hs : stop.any (Nat.beq e.1) with
      | true => rw [hs] at h; exact hkk _ _ _ _ h
      | false => rw [hs] at h; exact rx_act_ok F hall ht hC ih hret h
theorem rx_node_ok (F : rx_Fr Z) {stop : List Nat} {kk : Nat → rx_L → List Value → Option rx_H → Option α} {n t : Nat} (hall : rx_tab Z all) (hC : rx_CS Z C z) (hkk : ∀ (t : Nat) (ls : rx_L) (st : List Value) (u : Option rx_H), kk t ls st u = some z → rx_O Z t ls st u) (hret : rx_RT Z ret z) (h : rx_node C ret all stop kk n t ls st u = some z) : rx_O Z t ls st u := by
  unfold rx_node at h
  split at h
  · cases h
  next e es he =>
  rw [← rx_suf_head he]
  exact rx_act_ok F hall (by rw [← he]; exact hall.suf t) hC (rx_run_ok F hall hC hkk hret n) hret h
end rxA
end
section
/-! ===== No cell goes; a method's contract out of its function ===== -/
def rx_mo (hf fin : rx_H) (u : Option rx_H) : Prop := (u.getD hf).2.length ≤ fin.2.length ∧ rx_sl (u.getD hf) ≤ rx_sl fin
theorem rx_mo_put {hf fin : rx_H} {u u' : Option rx_H} (h : ∃ h0 h1 : rx_H, u = some h0 ∧ u' = some h1 ∧ h0.2.length ≤ h1.2.length ∧ rx_sl h0 ≤ rx_sl h1) (hm : rx_mo hf fin u') : rx_mo hf fin u := by
  obtain ⟨h0, h1, rfl, rfl, e1, e2⟩ := h
  exact ⟨Nat.le_trans e1 hm.1, Nat.le_trans e2 hm.2⟩
theorem rx_mo_set {h0 : rx_H} {r : Nat} {c c1 : rx_C} (hr : h0.2[r]? = some c) (hs : rx_sl1 c1 = rx_sl1 c) : ∃ h2 h1 : rx_H, some h0 = some h2 ∧ some (h0.1, h0.2.set r c1) = some h1 ∧ h2.2.length ≤ h1.2.length ∧ rx_sl h2 ≤ rx_sl h1 :=
  ⟨h0, _, rfl, rfl, by simp, by rw [rx_sl_set hr hs]; exact Nat.le_refl _⟩
theorem rx_mo_p {u u' : Option rx_H} {r c k : Nat} {v : Value} (h : rx_p u r c k v = some u') : ∃ h0 h1 : rx_H, u = some h0 ∧ u' = some h1 ∧ h0.2.length ≤ h1.2.length ∧ rx_sl h0 ≤ rx_sl h1 := by
  unfold rx_p at h
  split at h
  · cases h
  split at h
  · next hr =>
    split at h
    · cases h; exact rx_mo_set hr (by simp [rx_sl1])
    · cases h
  · cases h
theorem rx_mo_sI {u u' : Option rx_H} {r : Nat} {i x : Int32} (h : rx_sI u r i x = some u') : ∃ h0 h1 : rx_H, u = some h0 ∧ u' = some h1 ∧ h0.2.length ≤ h1.2.length ∧ rx_sl h0 ≤ rx_sl h1 := by
  unfold rx_sI at h
  split at h
  · cases h
  split at h
  · next hr =>
    split at h
    · cases h
    · cases h; exact rx_mo_set hr (by simp [rx_sl1])
  · cases h
theorem rx_mo_sJ {u u' : Option rx_H} {r : Nat} {i : Int32} {x : Int64} (h : rx_sJ u r i x = some u') : ∃ h0 h1 : rx_H, u = some h0 ∧ u' = some h1 ∧ h0.2.length ≤ h1.2.length ∧ rx_sl h0 ≤ rx_sl h1 := by
  unfold rx_sJ at h
  split at h
  · cases h
  split at h
  · next hr =>
    split at h
    · cases h
    · cases h; exact rx_mo_set hr (by simp [rx_sl1])
  · cases h
theorem rx_mo_sR {u u' : Option rx_H} {r x : Nat} {i : Int32} (h : rx_sR u r i x = some u') : ∃ h0 h1 : rx_H, u = some h0 ∧ u' = some h1 ∧ h0.2.length ≤ h1.2.length ∧ rx_sl h0 ≤ rx_sl h1 := by
  unfold rx_sR at h
  split at h
  · cases h
  split at h
  · next hr hx =>
    split at h
    · cases h
    · cases h; exact rx_mo_set hr (by simp [rx_sl1])
  · cases h
theorem rx_mo_cp {u u' : Option rx_H} {r0 r1 : Nat} {sp dp n : Int32} (h : rx_cp u r0 sp r1 dp n = some u') : ∃ h0 h1 : rx_H, u = some h0 ∧ u' = some h1 ∧ h0.2.length ≤ h1.2.length ∧ rx_sl h0 ≤ rx_sl h1 := by
  unfold rx_cp at h
  split at h
  · cases h
  split at h
  · next hr hx =>
    split at h
    · cases h
    · cases h; exact rx_mo_set hx (by simp [rx_sl1])
  · cases h
theorem rx_mo_push {u : Option rx_H} {c1 : rx_C} {q : Nat × Option rx_H} (h : rx_push u c1 = some q) : ∃ h0 h1 : rx_H, u = some h0 ∧ q.2 = some h1 ∧ h0.2.length ≤ h1.2.length ∧ rx_sl h0 ≤ rx_sl h1 := by
  obtain ⟨h0, rfl, -, rfl⟩ := rx_push_some h
  exact ⟨h0, _, rfl, rfl, by simp, by rw [rx_sl_push]; exact Nat.le_add_right _ _⟩
theorem rx_mo_nI {u : Option rx_H} {n : Int32} {q : Nat × Option rx_H} (h : rx_nI u n = some q) : ∃ h0 h1 : rx_H, u = some h0 ∧ q.2 = some h1 ∧ h0.2.length ≤ h1.2.length ∧ rx_sl h0 ≤ rx_sl h1 := by
  unfold rx_nI at h
  split at h
  · cases h
  · exact rx_mo_push h
theorem rx_mo_nJ {u : Option rx_H} {n : Int32} {q : Nat × Option rx_H} (h : rx_nJ u n = some q) : ∃ h0 h1 : rx_H, u = some h0 ∧ q.2 = some h1 ∧ h0.2.length ≤ h1.2.length ∧ rx_sl h0 ≤ rx_sl h1 := by
  unfold rx_nJ at h
  split at h
  · cases h
  · exact rx_mo_push h
theorem rx_mo_nR {u : Option rx_H} {n : Int32} {q : Nat × Option rx_H} (h : rx_nR u n = some q) : ∃ h0 h1 : rx_H, u = some h0 ∧ q.2 = some h1 ∧ h0.2.length ≤ h1.2.length ∧ rx_sl h0 ≤ rx_sl h1 := by
  unfold rx_nR at h
  split at h
  · cases h
  · exact rx_mo_push h
theorem rx_mo_nO {u : Option rx_H} {c : Nat} {q : Nat × Option rx_H} (h : rx_nO u c = some q) : ∃ h0 h1 : rx_H, u = some h0 ∧ q.2 = some h1 ∧ h0.2.length ≤ h1.2.length ∧ rx_sl h0 ≤ rx_sl h1 := by
  unfold rx_nO at h
  split at h
  · exact rx_mo_push h
  · cases h
section rxM
variable {α : Type} {C : rx_Cl α} {ret : rx_K α} {all es : List rx_E} {k : rx_Go α} {ls : rx_L} {st : List Value} {u : Option rx_H} {z : α} {hf fin : rx_H}
theorem rx_if_mo {cd : ClassFile.Cond} {x y : Int32} {kt kf : Option α} (h : rx_if cd x y kt kf = some z) : kt = some z ∨ kf = some z := by
  unfold rx_if at h
  split at h <;> split at h <;> first | exact Or.inl h | exact Or.inr h
theorem rx_ifJ_mo {cd : ClassFile.Cond} {x y : Int64} {kt kf : Option α} (h : rx_ifJ cd x y kt kf = some z) : kt = some z ∨ kf = some z := by
  unfold rx_ifJ at h
  split at h <;> split at h <;> first | exact Or.inl h | exact Or.inr h
theorem rx_sw_mo {kt : Nat → Option α} {x : Int32} {d : Nat} {l : List (Int32 × Nat)} (h : rx_sw kt x d l = some z) : ∃ t, kt t = some z := by
  induction l with
  | nil => exact ⟨d, h⟩
  | cons q l ih =>
    unfold rx_sw at h
    split at h
    · exact ⟨_, h⟩
    · exact ih h
theorem rx_rec_mo {b : Bool} {x y : Option α} (h : (Bool.rec (motive := fun _ => Option α) x y b) = some z) : x = some z ∨ y = some z := by
  cases b
  · exact Or.inl h
  · exact Or.inr h
set_option maxHeartbeats 4000000 in
set_option maxRecDepth 100000 in
theorem rx_act_mo {en : rx_E} (hC : ∀ (j : Nat) (as : List Value) (u : Option rx_H) (κ : rx_K α), C j as u κ = some z → ∃ (r : Option Value) (u' : Option rx_H), κ r u' = some z ∧ (rx_mo hf fin u' → rx_mo hf fin u)) (hk : ∀ (es : List rx_E) (ls : rx_L) (st : List Value) (u : Option rx_H), k es ls st u = some z → rx_mo hf fin u) (hret : ∀ (v : Option Value) (u : Option rx_H), ret v u = some z → rx_mo hf fin u) (h : rx_act C ret all k en es ls st u = some z) : rx_mo hf fin u := by
  have call : ∀ (kc : List Value → Option rx_H → Option α) (hkc : ∀ st u, kc st u = some z → rx_mo hf fin u) (j n : Nat), rx_call C kc j n st u = some z → rx_mo hf fin u := by
    intro kc hkc j n h
    unfold rx_call at h
    split at h
    · cases h
    · rcases rx_rec_mo h with h | h
      · cases h
      · obtain ⟨r, u', h1, h2⟩ := hC _ _ _ _ h
        exact h2 (hkc _ _ h1)
  obtain ⟨pc, ins, len, a, b, w, vi, vl, sw⟩ := en
  unfold rx_act at h
  dsimp only at h
  cases ins <;> (try dsimp only at h)
  case goto => exact hk _ _ _ _ h
  case new =>
    obtain ⟨q, h1, h2⟩ := Option.bind_eq_some_iff.mp h
    exact rx_mo_put (rx_mo_nO h1) (hk _ _ _ _ h2)
  case invokestatic =>
    split at h
    · split at h
      · rcases rx_rec_mo h with h | h
        · cases h
        · obtain ⟨q, h1, h2⟩ := Option.bind_eq_some_iff.mp h
          exact rx_mo_put (rx_mo_cp h1) (hk _ _ _ _ h2)
      · cases h
    · exact call _ (fun st u => hk _ _ st u) _ _ h
  case invokespecial =>
    split at h
    · split at h
      · rcases rx_rec_mo h with h | h
        · cases h
        · exact hk _ _ _ _ h
      · cases h
    · exact call _ (fun st u => hk _ _ st u) _ _ h
  case invokevirtual =>
    split at h
    · rcases rx_rec_mo h with h | h
      · cases h
      · obtain ⟨q, -, h2⟩ := Option.bind_eq_some_iff.mp h
        obtain ⟨r, u', h3, h4⟩ := hC _ _ _ _ h2
        exact h4 (hk _ _ _ _ h3)
    · cases h
  case putfield =>
    split at h
    · rcases rx_rec_mo h with h | h
      · cases h
      · obtain ⟨q, h1, h2⟩ := Option.bind_eq_some_iff.mp h
        exact rx_mo_put (rx_mo_p h1) (hk _ _ _ _ h2)
    · rcases rx_rec_mo h with h | h
      · cases h
      · obtain ⟨q, h1, h2⟩ := Option.bind_eq_some_iff.mp h
        exact rx_mo_put (rx_mo_p h1) (hk _ _ _ _ h2)
    · rcases rx_rec_mo h with h | h
      · cases h
      · obtain ⟨q, h1, h2⟩ := Option.bind_eq_some_iff.mp h
        exact rx_mo_put (rx_mo_p h1) (hk _ _ _ _ h2)
    · cases h
  case getfield =>
    split at h
    · split at h
      · obtain ⟨q, -, h2⟩ := Option.bind_eq_some_iff.mp h
        exact hk _ _ _ _ h2
      · obtain ⟨q, -, h2⟩ := Option.bind_eq_some_iff.mp h
        exact hk _ _ _ _ h2
      · obtain ⟨q, -, h2⟩ := Option.bind_eq_some_iff.mp h
        exact hk _ _ _ _ h2
      · cases h
    · cases h
  case iastore =>
    split at h
    · obtain ⟨q, h1, h2⟩ := Option.bind_eq_some_iff.mp h
      exact rx_mo_put (rx_mo_sI h1) (hk _ _ _ _ h2)
    · cases h
  case lastore =>
    split at h
    · obtain ⟨q, h1, h2⟩ := Option.bind_eq_some_iff.mp h
      exact rx_mo_put (rx_mo_sJ h1) (hk _ _ _ _ h2)
    · cases h
  case aastore =>
    split at h
    · obtain ⟨q, h1, h2⟩ := Option.bind_eq_some_iff.mp h
      exact rx_mo_put (rx_mo_sR h1) (hk _ _ _ _ h2)
    · cases h
  case newarray =>
    split at h
    · split at h
      · obtain ⟨q, h1, h2⟩ := Option.bind_eq_some_iff.mp h
        exact rx_mo_put (rx_mo_nI h1) (hk _ _ _ _ h2)
      · obtain ⟨q, h1, h2⟩ := Option.bind_eq_some_iff.mp h
        exact rx_mo_put (rx_mo_nJ h1) (hk _ _ _ _ h2)
      · cases h
    · cases h
  case anewarray =>
    split at h
    · obtain ⟨q, h1, h2⟩ := Option.bind_eq_some_iff.mp h
      exact rx_mo_put (rx_mo_nR h1) (hk _ _ _ _ h2)
    · cases h
  case ifCond =>
    split at h
    · rcases rx_if_mo h with h | h <;> exact hk _ _ _ _ h
    · cases h
  case if_icmp =>
    split at h
    · rcases rx_if_mo h with h | h <;> exact hk _ _ _ _ h
    · cases h
  case lcmp =>
    split at h
    · rcases rx_ifJ_mo h with h | h <;> exact hk _ _ _ _ h
    · cases h
  case tableswitch =>
    split at h
    · obtain ⟨t, h⟩ := rx_sw_mo h
      exact hk _ _ _ _ h
    · cases h
  case idiv =>
    split at h
    · split at h
      · rcases rx_rec_mo h with h | h
        · exact hk _ _ _ _ h
        · cases h
      · split at h
        · cases h
        · exact hk _ _ _ _ h
    · cases h
  case irem =>
    split at h
    · split at h
      · rcases rx_rec_mo h with h | h
        · exact hk _ _ _ _ h
        · cases h
      · split at h
        · cases h
        · exact hk _ _ _ _ h
    · cases h
  case ldiv =>
    split at h
    · split at h
      · cases h
      · exact hk _ _ _ _ h
    · cases h
  case ireturn =>
    split at h
    · split at h
      · split at h
        · exact hret _ _ h
        · split at h
          · exact hret _ _ h
          · cases h
      · rcases rx_rec_mo h with h | h
        · rcases rx_rec_mo h with h | h
          · cases h
          · exact hret _ _ h
        · exact hret _ _ h
      · exact hret _ _ h
    · cases h
  case lreturn =>
    split at h
    · exact hret _ _ h
    · cases h
  case return_ =>
    split at h
    · exact hret _ _ h
    · cases h
  all_goals first
    | exact hk _ _ _ _ h
    | (cases h; done)
    | (split at h <;> first | exact hk _ _ _ _ h | (cases h; done) | (obtain ⟨q, -, h2⟩ := Option.bind_eq_some_iff.mp h; exact hk _ _ _ _ h2))
theorem rx_run_mo {stop : List Nat} {kk : Nat → rx_L → List Value → Option rx_H → Option α} (hC : ∀ (j : Nat) (as : List Value) (u : Option rx_H) (κ : rx_K α), C j as u κ = some z → ∃ (r : Option Value) (u' : Option rx_H), κ r u' = some z ∧ (rx_mo hf fin u' → rx_mo hf fin u)) (hkk : ∀ (t : Nat) (ls : rx_L) (st : List Value) (u : Option rx_H), kk t ls st u = some z → rx_mo hf fin u) (hret : ∀ (v : Option Value) (u : Option rx_H), ret v u = some z → rx_mo hf fin u) :
    ∀ (n : Nat) (es : List rx_E) (ls : rx_L) (st : List Value) (u : Option rx_H), rx_run C ret all stop kk n es ls st u = some z → rx_mo hf fin u := by
  intro n
  induction n with
  | zero => intro es ls st u h; simp [rx_run] at h
  | succ n ih =>
    intro es ls st u h
    cases es with
    | nil => simp [rx_run] at h
    | cons e es =>
      unfold rx_run at h
      rcases rx_rec_mo h with h | h
      · exact rx_act_mo hC ih hret h
      · exact hkk _ _ _ _ h
end rxM
/-- a method: its class, code, room for locals; whether it is a constructor, whether it answers a boolean; how deep its calls are -/
abbrev rx_Md : Type := String × ByteArray × Nat × Bool × Bool × Nat
def rx_ZM (Z : rx_Z) (l : Launch) (G : rx_G) (md : rx_Md) (hf fin : rx_H) : Prop := zL Z = l ∧ zG Z = G ∧ zh Z = hf ∧ (zo Z, zcc Z, zn Z, zi Z, zb Z, zd Z) = md ∧ zn1 Z = fin.2.length ∧ zs1 Z = rx_sl fin
def rx_S {α : Type} (l : Launch) (G : rx_G) (md : rx_Md) (hf fin : rx_H) (ret : rx_K α) (z : α) (t : Nat) (ls : rx_L) (st : List Value) (u : Option rx_H) : Prop := rx_mo hf fin u ∧ ∀ Z : rx_Z, rx_ZM Z l G md hf fin → rx_Fr Z → rx_RT Z ret z → rx_O Z t ls st u
/-- the calls of a method are right -/
def rx_CC {α : Type} (l : Launch) (G : rx_G) (D : Nat) (C : rx_Cl α) (z : α) : Prop := ∀ (j : Nat) (as : List Value) (u : Option rx_H) (κ : rx_K α), C j as u κ = some z → ∃ (r : Option Value) (u' : Option rx_H) (bytes : ByteArray) (maxL : Nat) (ret : Option FieldType) (n : Nat), κ r u' = some z ∧ rx_Cal (rx_ny j) bytes maxL ret (rx_kd j) n ∧ (rx_kd j = 0 → as.length = n) ∧ (¬ rx_kd j = 0 → ∃ (r0 : Nat) (as' : List Value), as = .ref r0 :: as' ∧ as'.length = n) ∧ ∀ hf : rx_H, rx_Ok l G D (rx_ny j) bytes maxL ret as (u.getD hf) r (u'.getD hf)
def rx_tok (md : rx_Md) (t : List rx_E) : Bool := t.all (rx_eok md.1 md.2.1 md.2.2.1 md.2.2.2.1 md.2.2.2.2.1) && rx_adj t
theorem rx_S_node {α : Type} {l : Launch} {G : rx_G} {md : rx_Md} {hf fin : rx_H} {C : rx_Cl α} {ret : rx_K α} {all : List rx_E} {stop : List Nat} {kk : Nat → rx_L → List Value → Option rx_H → Option α} {n t : Nat} {ls : rx_L} {st : List Value} {u : Option rx_H} {z : α}
    (htab : rx_tok md all = true) (hC : rx_CC l G md.2.2.2.2.2 C z) (hret : ∀ (v : Option Value) (u : Option rx_H), ret v u = some z → rx_mo hf fin u) (hkk : ∀ (t : Nat) (ls : rx_L) (st : List Value) (u : Option rx_H), kk t ls st u = some z → rx_S l G md hf fin ret z t ls st u)
    (h : rx_node C ret all stop kk n t ls st u = some z) : rx_S l G md hf fin ret z t ls st u := by
  have hCm : ∀ (j : Nat) (as : List Value) (u : Option rx_H) (κ : rx_K α), C j as u κ = some z → ∃ (r : Option Value) (u' : Option rx_H), κ r u' = some z ∧ (rx_mo hf fin u' → rx_mo hf fin u) := by
    intro j as u κ h
    obtain ⟨r, u', bytes, maxL, rt, n, h1, h2, h3, h4, h5⟩ := hC j as u κ h
    obtain ⟨⟨e1, e2⟩, -⟩ := h5 hf
    exact ⟨r, u', h1, fun hm => ⟨Nat.le_trans e1 hm.1, Nat.le_trans e2 hm.2⟩⟩
  refine ⟨?_, fun Z hZ F hRT => ?_⟩
  · have h2 := h
    unfold rx_node at h2
    split at h2
    · cases h2
    · exact rx_act_mo hCm (rx_run_mo hCm (fun t ls st u h => (hkk t ls st u h).1) hret n) hret h2
  · obtain ⟨z1, z2, z3, z4, z5, z6⟩ := id hZ
    have hall : rx_tab Z all := by
      unfold rx_tok at htab
      rw [Bool.and_eq_true, List.all_eq_true] at htab
      refine ⟨fun e he => ?_, htab.2⟩
      have := htab.1 e he
      rw [← z4] at this
      exact this
    refine rx_node_ok F hall ?_ (fun t ls st u h => (hkk t ls st u h).2 Z hZ F hRT) hRT h
    intro j as u κ h
    obtain ⟨r, u', bytes, maxL, rt, n, h1, h2, h3, h4, h5⟩ := hC j as u κ h
    refine ⟨r, u', bytes, maxL, rt, n, h1, h2, h3, h4, ?_⟩
    have e5 := h5 (zh Z)
    rw [← z4, ← z1, ← z2] at e5
    exact e5
/-! the locals at the start -/
def rx_ent1 : List Value → rx_L
  | [] => []
  | .long x :: vs => some (.long x) :: none :: rx_ent1 vs
  | .double x :: vs => some (.double x) :: none :: rx_ent1 vs
  | v :: vs => some v :: rx_ent1 vs
def rx_pad : Nat → rx_L → rx_L
  | 0, l => l
  | n + 1, [] => none :: rx_pad n []
  | n + 1, x :: l => x :: rx_pad n l
theorem rx_pad_len : ∀ (n : Nat) (l : rx_L), l.length ≤ n → (rx_pad n l).length = n
  | 0, l, h => by simpa [rx_pad] using h
  | n + 1, [], h => by simp only [rx_pad, List.length_cons, rx_pad_len n [] (Nat.zero_le _)]
  | n + 1, x :: l, h => by simp only [rx_pad, List.length_cons]; rw [rx_pad_len n l (by simpa using h)]
theorem rx_pad_get : ∀ (n : Nat) (l : rx_L) (i : Nat) (v : Value), (rx_pad n l)[i]? = some (some v) → l[i]? = some (some v)
  | 0, l, i, v, h => h
  | n + 1, [], i, v, h => by
    cases i with
    | zero => simp [rx_pad] at h
    | succ i =>
      have := rx_pad_get n [] i v (by simpa [rx_pad] using h)
      simp at this
  | n + 1, x :: l, i, v, h => by
    cases i with
    | zero => simpa [rx_pad] using h
    | succ i => simpa using rx_pad_get n l i v (by simpa [rx_pad] using h)
theorem rx_ent1_len (G : rx_G) (vs : List Value) : (rx_ent1 vs).length = (lg_sl (vs.map (rx_ev G))).length := by
  induction vs with
  | nil => rfl
  | cons v vs ih => cases v <;> simp [rx_ent1, lg_sl, Value.category, rx_ev] at ih ⊢ <;> omega
theorem rx_ent1_get (G : rx_G) : ∀ (vs : List Value) (i k : Nat) (v : Value), (rx_ent1 vs)[i]? = some (some v) → (k + i, rx_ev G v) ∈ lv_args k (vs.map (rx_ev G))
  | [], i, k, v, h => by simp [rx_ent1] at h
  | .long x :: vs, i, k, v, h => by
    match i, h with
    | 0, h => simp [rx_ent1] at h; subst h; exact List.mem_cons_self
    | 1, h => simp [rx_ent1] at h
    | i + 2, h =>
      have := rx_ent1_get G vs i (k + 2) v (by simpa [rx_ent1] using h)
      rw [show k + (i + 2) = k + 2 + i by omega]
      exact List.mem_cons_of_mem _ this
  | .double x :: vs, i, k, v, h => by
    match i, h with
    | 0, h => simp [rx_ent1] at h; subst h; exact List.mem_cons_self
    | 1, h => simp [rx_ent1] at h
    | i + 2, h =>
      have := rx_ent1_get G vs i (k + 2) v (by simpa [rx_ent1] using h)
      rw [show k + (i + 2) = k + 2 + i by omega]
      exact List.mem_cons_of_mem _ this
  | .int x :: vs, i, k, v, h => by
    cases i with
    | zero => simp [rx_ent1] at h; subst h; exact List.mem_cons_self
    | succ i =>
      have := rx_ent1_get G vs i (k + 1) v (by simpa [rx_ent1] using h)
      rw [show k + (i + 1) = k + 1 + i by omega]
      exact List.mem_cons_of_mem _ this
  | .float x :: vs, i, k, v, h => by
    cases i with
    | zero => simp [rx_ent1] at h; subst h; exact List.mem_cons_self
    | succ i =>
      have := rx_ent1_get G vs i (k + 1) v (by simpa [rx_ent1] using h)
      rw [show k + (i + 1) = k + 1 + i by omega]
      exact List.mem_cons_of_mem _ this
  | .null :: vs, i, k, v, h => by
    cases i with
    | zero => simp [rx_ent1] at h; subst h; exact List.mem_cons_self
    | succ i =>
      have := rx_ent1_get G vs i (k + 1) v (by simpa [rx_ent1] using h)
      rw [show k + (i + 1) = k + 1 + i by omega]
      exact List.mem_cons_of_mem _ this
  | .ref x :: vs, i, k, v, h => by
    cases i with
    | zero => simp [rx_ent1] at h; subst h; exact List.mem_cons_self
    | succ i =>
      have := rx_ent1_get G vs i (k + 1) v (by simpa [rx_ent1] using h)
      rw [show k + (i + 1) = k + 1 + i by omega]
      exact List.mem_cons_of_mem _ this
  | .retAddr x :: vs, i, k, v, h => by
    cases i with
    | zero => simp [rx_ent1] at h; subst h; exact List.mem_cons_self
    | succ i =>
      have := rx_ent1_get G vs i (k + 1) v (by simpa [rx_ent1] using h)
      rw [show k + (i + 1) = k + 1 + i by omega]
      exact List.mem_cons_of_mem _ this
def rx_ent (vs : List Value) (n : Nat) : rx_L := rx_pad n (rx_ent1 vs)
theorem rx_ent_lo (G : rx_G) {vs : List Value} {n : Nat} (h : (rx_ent1 vs).length ≤ n) : rx_lo G ((lg_sl (vs.map (rx_ev G)) ++ List.replicate (n - (lg_sl (vs.map (rx_ev G))).length) Slot.unset).toArray) n (rx_ent vs n) := by
  have hv := lv_entry (vs.map (rx_ev G)) (n := n) (by rw [← rx_ent1_len]; exact h)
  refine ⟨rx_pad_len _ _ h, hv.1, hv.2.1, fun i v hi => ?_⟩
  have := rx_ent1_get G vs i 0 v (rx_pad_get _ _ _ _ hi)
  rw [Nat.zero_add] at this
  exact hv.2.2 _ this
/-- less is known, place by place -/
def rx_leq : rx_L → rx_L → Prop
  | [], [] => True
  | a :: as, b :: bs => (a = none ∨ a = b) ∧ rx_leq as bs
  | _, _ => False
theorem rx_leq_le : ∀ (a b : rx_L), rx_leq a b → rx_le a b
  | [], [], _ => ⟨rfl, fun i v h => by simp at h⟩
  | a :: as, b :: bs, h => by
    obtain ⟨h1, h2⟩ := rx_leq_le as bs h.2
    refine ⟨by simp [h1], fun i v hi => ?_⟩
    cases i with
    | zero =>
      simp at hi ⊢
      rcases h.1 with e | e
      · rw [e] at hi; cases hi
      · rw [← e]; exact hi
    | succ i => simpa using h2 i v (by simpa using hi)
  | [], _ :: _, h => h.elim
  | _ :: _, [], h => h.elim
/-- an answer of its type -/
def rx_rt (ret : Option FieldType) (bo : Bool) (r : Option Value) : Prop := (ret = some .int ∧ bo = false ∧ ∃ x, r = some (.int x)) ∨ (ret = some .boolean ∧ bo = true ∧ ∃ x, r = some (.int x)) ∨ (ret = some .long ∧ ∃ x, r = some (.long x)) ∨ (ret = none ∧ r = none)
def rx_BR (Z : rx_Z) (r : Option Value) (h' : rx_H) : Prop := ∀ (pc : Nat) (ls : Array Slot) (H : Heap) (locs : List Loc), rx_rv Z pc r → rx_R (zG Z) h' H → (∀ q ∈ locs, rx_base (zG Z) ≤ q.base) → zW Z H locs (h'.2.length - zn0 Z) (rx_sl h' - zs0 Z) (F0 (zM Z) pc ls (r.toList.map (rx_ev (zG Z))))
/-- a contract out of its walk, of a method that no entry runs instead -/
theorem rx_ofW {l : Launch} {y : MethodName} {ws ws' : List Cond} {rm : Room} {Pc : Array Value → State → Prop} {Qc : Array Value → State → Outcome → State → Prop} {mc ms : Nat} {free : Addr → Prop} {cc : ByteArray} {maxL : Nat} {ret : Option FieldType}
    (hy : plainFor y = true) (hw : ws = Cond.code y cc maxL ret :: ws')
    (body : ∀ p e s m args below meth c s₁, BodyLoose p l y (headSpec ws rm) cc maxL ret e s m args below meth c s₁ → c.maxLocals = maxL → Pc args s →
      W p l e (headSpec ws rm).room s m args below meth c s.heap [] 0 0 (MQ below Qc args s mc ms free) (entryFrame m args maxL)) : Met l y ws rm Pc Qc mc ms free := by
  refine MetFree.of_bodySF (code := cc) (maxLocals := maxL) (ret := ret) hy ?_ ?_
  · intro args s m h hn
    obtain ⟨meth, c, h1, h2, h3, h4, h5, h6, -, -⟩ := Cond.code_spec hn (atoms_spec (ws := ws) h _ (by rw [hw]; exact List.mem_cons_self))
    exact ⟨meth, c, h1, h2, h3, h4, h5, h6⟩
  · intro p e s m args below meth c s₁ B hml hP _
    have hh0 : s₁.heap = s.heap := by rw [B.state]; rfl
    obtain ⟨t, a1, o, b1, b2, b3⟩ := body p e s m args below meth c s₁ B hml hP s₁ hh0 (Stand.of_body B)
    exact ⟨t, o, a1, b1, b2, ⟨b3.1, b3.2⟩⟩
/-- a method's contract -/
theorem rx_met {α : Type} {l : Launch} {G : rx_G} {y : MethodName} {bytes : ByteArray} {maxL kd nn : Nat} {rt : Option FieldType} {ini bo : Bool} {D : Nat} {as : List Value} {u u' : Option rx_H} {r : Option Value} {hf : rx_H} {ret : rx_K α} {z : α} {ls0 : rx_L} (hcal : rx_Cal y bytes maxL rt kd nn) (hini : ini = true → y.name = "<init>") (hlen : (rx_ent1 as).length ≤ maxL) (hrt : rx_rt rt bo r)
    (hRT : ∀ Z : rx_Z, rx_ZM Z l G (y.cls, bytes, maxL, ini, bo, D) hf (u'.getD hf) → rx_BR Z r (u'.getD hf) → rx_RT Z ret z) (hls : rx_leq ls0 (rx_ent as maxL))
    (hS : rx_S l G (y.cls, bytes, maxL, ini, bo, D) hf (u'.getD hf) ret z 0 ls0 [] u) : rx_Ok l G (D + 1) y bytes maxL rt as (u.getD hf) r (u'.getD hf) := by
  refine ⟨hS.1, D + 1, Nat.le_refl _, ?_⟩
  refine rx_ofW (cc := bytes) (maxL := maxL) (ret := rt) hcal.2.2.2.2.1 rfl ?_
  intro p e s m args below meth c s₁ B hml hv
  obtain ⟨rfl, hR, hK⟩ := hv
  have hts : ∀ w ∈ (Cond.code y bytes maxL rt :: rx_TB), w.before _ s = true := atoms_spec (ws := Cond.code y bytes maxL rt :: rx_TB) B.pre
  let Z : rx_Z := ((p, l, e, (headSpec (Cond.code y bytes maxL rt :: rx_TB) (rx_rm (D + 1) (u.getD hf) (u'.getD hf))).room, s, m, (as.map (rx_ev G)).toArray, below, meth, c), (MQ below (rx_Qc G r (u'.getD hf)) (as.map (rx_ev G)).toArray s ((u'.getD hf).2.length - (u.getD hf).2.length) (rx_sl (u'.getD hf) - rx_sl (u.getD hf)) (fun q => rx_base G ≤ q), maxL, G, hf, (u.getD hf).2.length, rx_sl (u.getD hf), (u'.getD hf).2.length, rx_sl (u'.getD hf), D, bytes, y.cls, ini, bo))
  have hZM : rx_ZM Z l G (y.cls, bytes, maxL, ini, bo, D) hf (u'.getD hf) := ⟨rfl, rfl, rfl, rfl, rfl, rfl⟩
  have F : rx_Fr Z := ⟨B.exec, B.bytes, hml, findClass_of_methodNamed B.named, fun w hw => hts w (List.mem_cons_of_mem _ hw), hK, fun hi => by rw [show (zMe Z).name = y.name from (name_of_methodNamed B.named B.method).1]; exact hini hi, Nat.le_refl _, Nat.le_refl _, Nat.le_refl _, Nat.le_refl _⟩
  have hBR : rx_BR Z r (u'.getD hf) := by
    intro pc ls H locs hrv hR' hl
    have hr0 : meth.sig.returnType = rt := B.returns
    have hq : ∀ v : Option Value, v = r.map (rx_ev G) → ∀ t : State, t.heap = H → s.WarmedH t.vm → rx_Qc G r (u'.getD hf) (as.map (rx_ev G)).toArray s (.returned v) t := fun v hv t ht _ => ⟨by rw [hv], by rw [ht]; exact hR'⟩
    rcases hrt with ⟨h1, h2, x, rfl⟩ | ⟨h1, h2, x, rfl⟩ | ⟨h1, x, rfl⟩ | ⟨h1, rfl⟩
    · exact W.iret B.exec B.bytes (hr0.trans h1) (hq (some (.int x)) rfl) hl hrv.1 (hlocks := B.notSynchronized)
    · refine W.zret (ty := .boolean) B.exec B.bytes (hr0.trans h1) ?_ (hq (some (.int x)) rfl) hl hrv.1 (hlocks := B.notSynchronized)
      rcases hrv.2 h2 with rfl | rfl <;> rfl
    · exact W.lret B.exec B.bytes (hr0.trans h1) (hq (some (.long x)) rfl) hl hrv (hlocks := B.notSynchronized)
    · exact W.vret B.exec B.bytes (hr0.trans h1) (hq none rfl) hl hrv (hlocks := B.notSynchronized)
  have hO := hS.2 Z hZM F (hRT Z hZM hBR)
  obtain ⟨-, hW⟩ := hO (Nat.le_refl _) (Nat.le_refl _)
  rw [lg_entry_eq]
  have := hW s.heap _ [] hR ((rx_ent_lo G hlen).le (rx_leq_le _ _ hls)) (fun q h => by cases h)
  have e1 : (rx_u Z u).2.length - zn0 Z = 0 := Nat.sub_self _
  have e2 : rx_sl (rx_u Z u) - zs0 Z = 0 := Nat.sub_self _
  rw [e1, e2] at this
  exact this
/-! the kinds of answer -/
theorem rx_RT_rI {Z : rx_Z} {l : Launch} {G : rx_G} {md : rx_Md} {hf : rx_H} {x : Int32} (hZ : rx_ZM Z l G md hf hf) (hB : rx_BR Z (some (.int x)) hf) : rx_RT Z rx_rI x := by
  intro v u h
  unfold rx_rI at h
  split at h
  · next y =>
    cases h
    obtain ⟨z1, z2, z3, z4, z5, z6⟩ := hZ
    have hu : rx_u Z none = hf := z3
    rw [hu]
    exact ⟨by rw [z5]; exact Nat.le_refl _, by rw [z6]; exact Nat.le_refl _, hB⟩
  · cases h
theorem rx_RT_rJ {Z : rx_Z} {l : Launch} {G : rx_G} {md : rx_Md} {hf : rx_H} {x : Int64} (hZ : rx_ZM Z l G md hf hf) (hB : rx_BR Z (some (.long x)) hf) : rx_RT Z rx_rJ x := by
  intro v u h
  unfold rx_rJ at h
  split at h
  · next y =>
    cases h
    obtain ⟨z1, z2, z3, z4, z5, z6⟩ := hZ
    have hu : rx_u Z none = hf := z3
    rw [hu]
    exact ⟨by rw [z5]; exact Nat.le_refl _, by rw [z6]; exact Nat.le_refl _, hB⟩
  · cases h
theorem rx_RT_hI {Z : rx_Z} {l : Launch} {G : rx_G} {md : rx_Md} {hf : rx_H} {x : Int32 × Option rx_H} (hZ : rx_ZM Z l G md hf (x.2.getD hf)) (hB : rx_BR Z (some (.int x.1)) (x.2.getD hf)) : rx_RT Z rx_hI x := by
  intro v u h
  unfold rx_hI at h
  split at h
  · next y =>
    cases h
    obtain ⟨z1, z2, z3, z4, z5, z6⟩ := hZ
    have hu : rx_u Z u = u.getD hf := by show u.getD (zh Z) = _; rw [z3]
    rw [hu]
    exact ⟨by rw [z5]; exact Nat.le_refl _, by rw [z6]; exact Nat.le_refl _, hB⟩
  · cases h
theorem rx_RT_hJ {Z : rx_Z} {l : Launch} {G : rx_G} {md : rx_Md} {hf : rx_H} {x : Int64 × Option rx_H} (hZ : rx_ZM Z l G md hf (x.2.getD hf)) (hB : rx_BR Z (some (.long x.1)) (x.2.getD hf)) : rx_RT Z rx_hJ x := by
  intro v u h
  unfold rx_hJ at h
  split at h
  · next y =>
    cases h
    obtain ⟨z1, z2, z3, z4, z5, z6⟩ := hZ
    have hu : rx_u Z u = u.getD hf := by show u.getD (zh Z) = _; rw [z3]
    rw [hu]
    exact ⟨by rw [z5]; exact Nat.le_refl _, by rw [z6]; exact Nat.le_refl _, hB⟩
  · cases h
theorem rx_RT_hV {Z : rx_Z} {l : Launch} {G : rx_G} {md : rx_Md} {hf : rx_H} {x : Option rx_H} (hZ : rx_ZM Z l G md hf (x.getD hf)) (hB : rx_BR Z none (x.getD hf)) : rx_RT Z rx_hV x := by
  intro v u h
  unfold rx_hV at h
  split at h
  · cases h
    obtain ⟨z1, z2, z3, z4, z5, z6⟩ := hZ
    have hu : rx_u Z x = x.getD hf := by show x.getD (zh Z) = _; rw [z3]
    rw [hu]
    exact ⟨by rw [z5]; exact Nat.le_refl _, by rw [z6]; exact Nat.le_refl _, hB⟩
  · cases h
theorem rx_m_rI {hf : rx_H} {x : Int32} (v : Option Value) (u : Option rx_H) (h : rx_rI v u = some x) : rx_mo hf hf u := by
  unfold rx_rI at h
  split at h
  · exact ⟨Nat.le_refl _, Nat.le_refl _⟩
  · cases h
theorem rx_m_rJ {hf : rx_H} {x : Int64} (v : Option Value) (u : Option rx_H) (h : rx_rJ v u = some x) : rx_mo hf hf u := by
  unfold rx_rJ at h
  split at h
  · exact ⟨Nat.le_refl _, Nat.le_refl _⟩
  · cases h
theorem rx_m_hI {hf : rx_H} {x : Int32 × Option rx_H} (v : Option Value) (u : Option rx_H) (h : rx_hI v u = some x) : rx_mo hf (x.2.getD hf) u := by
  unfold rx_hI at h
  split at h
  · cases h; exact ⟨Nat.le_refl _, Nat.le_refl _⟩
  · cases h
theorem rx_m_hJ {hf : rx_H} {x : Int64 × Option rx_H} (v : Option Value) (u : Option rx_H) (h : rx_hJ v u = some x) : rx_mo hf (x.2.getD hf) u := by
  unfold rx_hJ at h
  split at h
  · cases h; exact ⟨Nat.le_refl _, Nat.le_refl _⟩
  · cases h
theorem rx_m_hV {hf : rx_H} {x : Option rx_H} (v : Option Value) (u : Option rx_H) (h : rx_hV v u = some x) : rx_mo hf (x.getD hf) u := by
  unfold rx_hV at h
  split at h
  · cases h; exact ⟨Nat.le_refl _, Nat.le_refl _⟩
  · cases h
theorem rx_rec_eq {α : Type} {z : α} {b : Bool} {x y : Option α} (h : (Bool.rec (motive := fun _ => Option α) x y b) = some z) : (b = true ∧ y = some z) ∨ (b = false ∧ x = some z) := by
  cases b
  · exact Or.inr ⟨rfl, h⟩
  · exact Or.inl ⟨rfl, h⟩
theorem rx_S.le {α : Type} {l : Launch} {G : rx_G} {md : rx_Md} {hf fin : rx_H} {ret : rx_K α} {z : α} {t : Nat} {a b : rx_L} {st : List Value} {u : Option rx_H} (h : rx_S l G md hf fin ret z t a st u) (hl : rx_leq a b) : rx_S l G md hf fin ret z t b st u := ⟨h.1, fun Z hZ F hR => (h.2 Z hZ F hR).le (rx_leq_le _ _ hl)⟩
/-- what a caller gets of a callee -/
def rx_Cw {α : Type} (l : Launch) (G : rx_G) (D j : Nat) (as : List Value) (u : Option rx_H) (κ : rx_K α) (z : α) : Prop := ∃ (r : Option Value) (u' : Option rx_H) (bytes : ByteArray) (maxL : Nat) (ret : Option FieldType) (n : Nat), κ r u' = some z ∧ rx_Cal (rx_ny j) bytes maxL ret (rx_kd j) n ∧ (rx_kd j = 0 → as.length = n) ∧ (¬ rx_kd j = 0 → ∃ (r0 : Nat) (as' : List Value), as = .ref r0 :: as' ∧ as'.length = n) ∧ ∀ hf : rx_H, rx_Ok l G D (rx_ny j) bytes maxL ret as (u.getD hf) r (u'.getD hf)
theorem rx_Cw.deep {α : Type} {l : Launch} {G : rx_G} {D E j : Nat} {as : List Value} {u : Option rx_H} {κ : rx_K α} {z : α} (h : rx_Cw l G D j as u κ z) (hDE : D ≤ E) : rx_Cw l G E j as u κ z := by
  obtain ⟨r, u', bytes, maxL, ret, n, h1, h2, h3, h4, h5⟩ := h
  exact ⟨r, u', bytes, maxL, ret, n, h1, h2, h3, h4, fun hf => (h5 hf).deep hDE⟩
end
section
def f_J13_bitCount_95d88_55 (F : Nat × Nat) (x0 : Int64) : Option Int32 :=
  some ((Int64.toInt32 x0) &&& (127 : Int32))
def f_J13_bitCount_95d88_48 (F : Nat × Nat) (x0 : Int64) : Option Int32 :=
  f_J13_bitCount_95d88_55 F (x0 + ((Int64.toUInt64 x0 >>> ((Int32.toInt64 (32 : Int32)).toUInt64 &&& Int64.toUInt64 63)).toInt64))
def f_J13_bitCount_95d88_41 (F : Nat × Nat) (x0 : Int64) : Option Int32 :=
  f_J13_bitCount_95d88_48 F (x0 + ((Int64.toUInt64 x0 >>> ((Int32.toInt64 (16 : Int32)).toUInt64 &&& Int64.toUInt64 63)).toInt64))
def f_J13_bitCount_95d88_34 (F : Nat × Nat) (x0 : Int64) : Option Int32 :=
  f_J13_bitCount_95d88_41 F (x0 + ((Int64.toUInt64 x0 >>> ((Int32.toInt64 (8 : Int32)).toUInt64 &&& Int64.toUInt64 63)).toInt64))
def f_J13_bitCount_95d88_24 (F : Nat × Nat) (x0 : Int64) : Option Int32 :=
  f_J13_bitCount_95d88_34 F ((x0 + ((Int64.toUInt64 x0 >>> ((Int32.toInt64 (4 : Int32)).toUInt64 &&& Int64.toUInt64 63)).toInt64)) &&& (1085102592571150095 : Int64))
def f_J13_bitCount_95d88_10 (F : Nat × Nat) (x0 : Int64) : Option Int32 :=
  f_J13_bitCount_95d88_24 F ((x0 &&& (3689348814741910323 : Int64)) + (((Int64.toUInt64 x0 >>> ((Int32.toInt64 (2 : Int32)).toUInt64 &&& Int64.toUInt64 63)).toInt64) &&& (3689348814741910323 : Int64)))
def f_J13_bitCount_95d88_0 (F : Nat × Nat) (x0 : Int64) : Option Int32 :=
  f_J13_bitCount_95d88_10 F (x0 - (((Int64.toUInt64 x0 >>> ((Int32.toInt64 (1 : Int32)).toUInt64 &&& Int64.toUInt64 63)).toInt64) &&& (6148914691236517205 : Int64)))
def f_J13_bitCount_95d88 (F : Nat × Nat) (x0 : Int64) : Option Int32 := f_J13_bitCount_95d88_0 F x0
def c_J13_bitCount_95d88 {α : Type} (F : Nat × Nat) (as : List Value) (u : Option rx_H) (κ : rx_K α) : Option α := match as with
  | [.long a0] => (f_J13_bitCount_95d88 F a0).bind fun r => κ (some (.int r)) u
  | _ => none
noncomputable def C_J13_bitCount_95d88 {α : Type} (F : Nat × Nat) : rx_Cl α := fun j as u κ => none
def t_J13_bitCount_95d88 : List rx_E := [
  (0, .lload_n 0, 1, 0, 0, 0, 0, 0, []),
  (1, .lload_n 0, 1, 0, 0, 0, 0, 0, []),
  (2, .iconst 1, 1, 0, 0, 0, 1, 0, []),
  (3, .lushr, 1, 0, 0, 0, 0, 0, []),
  (4, .ldc2_w 314, 3, 0, 0, 187, 0, 6148914691236517205, []),
  (7, .land, 1, 0, 0, 0, 0, 0, []),
  (8, .lsub, 1, 0, 0, 0, 0, 0, []),
  (9, .lstore_n 0, 1, 0, 0, 0, 0, 0, []),
  (10, .lload_n 0, 1, 0, 0, 0, 0, 0, []),
  (11, .ldc2_w 316, 3, 0, 0, 188, 0, 3689348814741910323, []),
  (14, .land, 1, 0, 0, 0, 0, 0, []),
  (15, .lload_n 0, 1, 0, 0, 0, 0, 0, []),
  (16, .iconst 2, 1, 0, 0, 0, 2, 0, []),
  (17, .lushr, 1, 0, 0, 0, 0, 0, []),
  (18, .ldc2_w 316, 3, 0, 0, 188, 0, 3689348814741910323, []),
  (21, .land, 1, 0, 0, 0, 0, 0, []),
  (22, .ladd, 1, 0, 0, 0, 0, 0, []),
  (23, .lstore_n 0, 1, 0, 0, 0, 0, 0, []),
  (24, .lload_n 0, 1, 0, 0, 0, 0, 0, []),
  (25, .lload_n 0, 1, 0, 0, 0, 0, 0, []),
  (26, .iconst 4, 1, 0, 0, 0, 4, 0, []),
  (27, .lushr, 1, 0, 0, 0, 0, 0, []),
  (28, .ladd, 1, 0, 0, 0, 0, 0, []),
  (29, .ldc2_w 318, 3, 0, 0, 189, 0, 1085102592571150095, []),
  (32, .land, 1, 0, 0, 0, 0, 0, []),
  (33, .lstore_n 0, 1, 0, 0, 0, 0, 0, []),
  (34, .lload_n 0, 1, 0, 0, 0, 0, 0, []),
  (35, .lload_n 0, 1, 0, 0, 0, 0, 0, []),
  (36, .bipush 8, 2, 0, 0, 0, 8, 0, []),
  (38, .lushr, 1, 0, 0, 0, 0, 0, []),
  (39, .ladd, 1, 0, 0, 0, 0, 0, []),
  (40, .lstore_n 0, 1, 0, 0, 0, 0, 0, []),
  (41, .lload_n 0, 1, 0, 0, 0, 0, 0, []),
  (42, .lload_n 0, 1, 0, 0, 0, 0, 0, []),
  (43, .bipush 16, 2, 0, 0, 0, 16, 0, []),
  (45, .lushr, 1, 0, 0, 0, 0, 0, []),
  (46, .ladd, 1, 0, 0, 0, 0, 0, []),
  (47, .lstore_n 0, 1, 0, 0, 0, 0, 0, []),
  (48, .lload_n 0, 1, 0, 0, 0, 0, 0, []),
  (49, .lload_n 0, 1, 0, 0, 0, 0, 0, []),
  (50, .bipush 32, 2, 0, 0, 0, 32, 0, []),
  (52, .lushr, 1, 0, 0, 0, 0, 0, []),
  (53, .ladd, 1, 0, 0, 0, 0, 0, []),
  (54, .lstore_n 0, 1, 0, 0, 0, 0, 0, []),
  (55, .lload_n 0, 1, 0, 0, 0, 0, 0, []),
  (56, .l2i, 1, 0, 0, 0, 0, 0, []),
  (57, .bipush 127, 2, 0, 0, 0, 127, 0, []),
  (59, .iand, 1, 0, 0, 0, 0, 0, []),
  (60, .ireturn, 1, 0, 0, 0, 0, 0, [])]
def n_J13_bitCount_95d88_10 (F : Nat × Nat) (ls : rx_L) (st : List Value) (u : Option rx_H) : Option Int32 := match ls, st, u with
  | [some (.long x0), _], [], none => f_J13_bitCount_95d88_10 F x0
  | _, _, _ => none
def n_J13_bitCount_95d88_24 (F : Nat × Nat) (ls : rx_L) (st : List Value) (u : Option rx_H) : Option Int32 := match ls, st, u with
  | [some (.long x0), _], [], none => f_J13_bitCount_95d88_24 F x0
  | _, _, _ => none
def n_J13_bitCount_95d88_34 (F : Nat × Nat) (ls : rx_L) (st : List Value) (u : Option rx_H) : Option Int32 := match ls, st, u with
  | [some (.long x0), _], [], none => f_J13_bitCount_95d88_34 F x0
  | _, _, _ => none
def n_J13_bitCount_95d88_41 (F : Nat × Nat) (ls : rx_L) (st : List Value) (u : Option rx_H) : Option Int32 := match ls, st, u with
  | [some (.long x0), _], [], none => f_J13_bitCount_95d88_41 F x0
  | _, _, _ => none
def n_J13_bitCount_95d88_48 (F : Nat × Nat) (ls : rx_L) (st : List Value) (u : Option rx_H) : Option Int32 := match ls, st, u with
  | [some (.long x0), _], [], none => f_J13_bitCount_95d88_48 F x0
  | _, _, _ => none
def n_J13_bitCount_95d88_55 (F : Nat × Nat) (ls : rx_L) (st : List Value) (u : Option rx_H) : Option Int32 := match ls, st, u with
  | [some (.long x0), _], [], none => f_J13_bitCount_95d88_55 F x0
  | _, _, _ => none
noncomputable def kk_J13_bitCount_95d88_55 (F : Nat × Nat) : Nat → rx_L → List Value → Option rx_H → Option Int32 := fun t ls st u => none
noncomputable def kk_J13_bitCount_95d88_48 (F : Nat × Nat) : Nat → rx_L → List Value → Option rx_H → Option Int32 := fun t ls st u => Bool.rec (motive := fun _ => Option Int32) (none) (n_J13_bitCount_95d88_55 F ls st u) (Nat.beq t 55)
noncomputable def kk_J13_bitCount_95d88_41 (F : Nat × Nat) : Nat → rx_L → List Value → Option rx_H → Option Int32 := fun t ls st u => Bool.rec (motive := fun _ => Option Int32) (none) (n_J13_bitCount_95d88_48 F ls st u) (Nat.beq t 48)
noncomputable def kk_J13_bitCount_95d88_34 (F : Nat × Nat) : Nat → rx_L → List Value → Option rx_H → Option Int32 := fun t ls st u => Bool.rec (motive := fun _ => Option Int32) (none) (n_J13_bitCount_95d88_41 F ls st u) (Nat.beq t 41)
noncomputable def kk_J13_bitCount_95d88_24 (F : Nat × Nat) : Nat → rx_L → List Value → Option rx_H → Option Int32 := fun t ls st u => Bool.rec (motive := fun _ => Option Int32) (none) (n_J13_bitCount_95d88_34 F ls st u) (Nat.beq t 34)
noncomputable def kk_J13_bitCount_95d88_10 (F : Nat × Nat) : Nat → rx_L → List Value → Option rx_H → Option Int32 := fun t ls st u => Bool.rec (motive := fun _ => Option Int32) (none) (n_J13_bitCount_95d88_24 F ls st u) (Nat.beq t 24)
noncomputable def kk_J13_bitCount_95d88_0 (F : Nat × Nat) : Nat → rx_L → List Value → Option rx_H → Option Int32 := fun t ls st u => Bool.rec (motive := fun _ => Option Int32) (none) (n_J13_bitCount_95d88_10 F ls st u) (Nat.beq t 10)
set_option maxRecDepth 100000 in
theorem g_J13_bitCount_95d88_55 (F : Nat × Nat) (x0 : Int64) : f_J13_bitCount_95d88_55 F x0 = rx_node (C_J13_bitCount_95d88 F) rx_rI t_J13_bitCount_95d88 [10, 24, 34, 41, 48, 55] (kk_J13_bitCount_95d88_55 F) 52 55 [some (.long x0), none] [] none := rfl
set_option maxRecDepth 100000 in
theorem g_J13_bitCount_95d88_48 (F : Nat × Nat) (x0 : Int64) : f_J13_bitCount_95d88_48 F x0 = rx_node (C_J13_bitCount_95d88 F) rx_rI t_J13_bitCount_95d88 [10, 24, 34, 41, 48, 55] (kk_J13_bitCount_95d88_48 F) 52 48 [some (.long x0), none] [] none := rfl
set_option maxRecDepth 100000 in
theorem g_J13_bitCount_95d88_41 (F : Nat × Nat) (x0 : Int64) : f_J13_bitCount_95d88_41 F x0 = rx_node (C_J13_bitCount_95d88 F) rx_rI t_J13_bitCount_95d88 [10, 24, 34, 41, 48, 55] (kk_J13_bitCount_95d88_41 F) 52 41 [some (.long x0), none] [] none := rfl
set_option maxRecDepth 100000 in
theorem g_J13_bitCount_95d88_34 (F : Nat × Nat) (x0 : Int64) : f_J13_bitCount_95d88_34 F x0 = rx_node (C_J13_bitCount_95d88 F) rx_rI t_J13_bitCount_95d88 [10, 24, 34, 41, 48, 55] (kk_J13_bitCount_95d88_34 F) 52 34 [some (.long x0), none] [] none := rfl
set_option maxRecDepth 100000 in
theorem g_J13_bitCount_95d88_24 (F : Nat × Nat) (x0 : Int64) : f_J13_bitCount_95d88_24 F x0 = rx_node (C_J13_bitCount_95d88 F) rx_rI t_J13_bitCount_95d88 [10, 24, 34, 41, 48, 55] (kk_J13_bitCount_95d88_24 F) 52 24 [some (.long x0), none] [] none := rfl
set_option maxRecDepth 100000 in
theorem g_J13_bitCount_95d88_10 (F : Nat × Nat) (x0 : Int64) : f_J13_bitCount_95d88_10 F x0 = rx_node (C_J13_bitCount_95d88 F) rx_rI t_J13_bitCount_95d88 [10, 24, 34, 41, 48, 55] (kk_J13_bitCount_95d88_10 F) 52 10 [some (.long x0), none] [] none := rfl
set_option maxRecDepth 100000 in
theorem g_J13_bitCount_95d88_0 (F : Nat × Nat) (x0 : Int64) : f_J13_bitCount_95d88_0 F x0 = rx_node (C_J13_bitCount_95d88 F) rx_rI t_J13_bitCount_95d88 [10, 24, 34, 41, 48, 55] (kk_J13_bitCount_95d88_0 F) 52 0 [some (.long x0), none] [] none := rfl
def f_X0_size_0 (F : Nat × Nat) (x0 : Int64) : Option Int32 :=
  (f_J13_bitCount_95d88 F x0).bind fun v1 =>
  some v1
def f_X0_size (F : Nat × Nat) (x0 : Int64) : Option Int32 := f_X0_size_0 F x0
def c_X0_size {α : Type} (F : Nat × Nat) (as : List Value) (u : Option rx_H) (κ : rx_K α) : Option α := match as with
  | [.long a0] => (f_X0_size F a0).bind fun r => κ (some (.int r)) u
  | _ => none
noncomputable def C_X0_size {α : Type} (F : Nat × Nat) : rx_Cl α := fun j as u κ => Bool.rec (motive := fun _ => Option α) (none) (c_J13_bitCount_95d88 F as u κ) (Nat.beq j 0)
def t_X0_size : List rx_E := [
  (0, .lload_n 0, 1, 0, 0, 0, 0, 0, []),
  (1, .invokestatic 9, 3, 0, 1, 184, 0, 0, []),
  (4, .ireturn, 1, 0, 0, 0, 0, 0, [])]
noncomputable def kk_X0_size_0 (F : Nat × Nat) : Nat → rx_L → List Value → Option rx_H → Option Int32 := fun t ls st u => none
set_option maxRecDepth 100000 in
theorem g_X0_size_0 (F : Nat × Nat) (x0 : Int64) : f_X0_size_0 F x0 = rx_node (C_X0_size F) rx_rI t_X0_size [] (kk_X0_size_0 F) 6 0 [some (.long x0), none] [] none := rfl
def f_X0_holdsSet_0 (F : Nat × Nat) (x0 : Int64) (x2 : Int32) : Option Int32 :=
  if ((Int64.toUInt64 x0 >>> ((Int32.toInt64 x2).toUInt64 &&& Int64.toUInt64 63)).toInt64) &&& (1 : Int64) = (0 : Int64) then
    some (0 : Int32)
  else
    some (1 : Int32)
def f_X0_holdsSet (F : Nat × Nat) (x0 : Int64) (x2 : Int32) : Option Int32 := f_X0_holdsSet_0 F x0 x2
def c_X0_holdsSet {α : Type} (F : Nat × Nat) (as : List Value) (u : Option rx_H) (κ : rx_K α) : Option α := match as with
  | [.long a0, .int a1] => (f_X0_holdsSet F a0 a1).bind fun r => κ (some (.int r)) u
  | _ => none
noncomputable def C_X0_holdsSet {α : Type} (F : Nat × Nat) : rx_Cl α := fun j as u κ => none
def t_X0_holdsSet : List rx_E := [
  (0, .lload_n 0, 1, 0, 0, 0, 0, 0, []),
  (1, .iload_n 2, 1, 0, 0, 0, 0, 0, []),
  (2, .lushr, 1, 0, 0, 0, 0, 0, []),
  (3, .lconst 1, 1, 0, 0, 0, 0, 1, []),
  (4, .land, 1, 0, 0, 0, 0, 0, []),
  (5, .lconst 0, 1, 0, 0, 0, 0, 0, []),
  (6, .lcmp, 1, 0, 0, 0, 0, 0, []),
  (7, .ifCond .eq 7, 3, 14, 0, 0, 0, 0, []),
  (10, .iconst 1, 1, 0, 0, 0, 1, 0, []),
  (11, .goto 4, 3, 15, 0, 0, 0, 0, []),
  (14, .iconst 0, 1, 0, 0, 0, 0, 0, []),
  (15, .ireturn, 1, 0, 2, 0, 0, 0, [])]
noncomputable def kk_X0_holdsSet_0 (F : Nat × Nat) : Nat → rx_L → List Value → Option rx_H → Option Int32 := fun t ls st u => none
set_option maxRecDepth 100000 in
theorem g_X0_holdsSet_0 (F : Nat × Nat) (x0 : Int64) (x2 : Int32) : f_X0_holdsSet_0 F x0 x2 = rx_node (C_X0_holdsSet F) rx_rI t_X0_holdsSet [] (kk_X0_holdsSet_0 F) 15 0 [some (.long x0), none, some (.int x2)] [] none := rfl
def f_X0_below_0 (F : Nat × Nat) (x0 : Int32) : Option Int64 :=
  if x0 < (64 : Int32) then
    some (((1 : Int64) <<< (Int32.toInt64 x0 &&& 63)) - (1 : Int64))
  else
    some (-1 : Int64)
def f_X0_below (F : Nat × Nat) (x0 : Int32) : Option Int64 := f_X0_below_0 F x0
def c_X0_below {α : Type} (F : Nat × Nat) (as : List Value) (u : Option rx_H) (κ : rx_K α) : Option α := match as with
  | [.int a0] => (f_X0_below F a0).bind fun r => κ (some (.long r)) u
  | _ => none
noncomputable def C_X0_below {α : Type} (F : Nat × Nat) : rx_Cl α := fun j as u κ => none
def t_X0_below : List rx_E := [
  (0, .iload_n 0, 1, 0, 0, 0, 0, 0, []),
  (1, .bipush 64, 2, 0, 0, 0, 64, 0, []),
  (3, .if_icmp .lt 9, 3, 12, 0, 0, 0, 0, []),
  (6, .ldc2_w 21, 3, 0, 0, 236, 0, (-1), []),
  (9, .goto 8, 3, 17, 0, 0, 0, 0, []),
  (12, .lconst 1, 1, 0, 0, 0, 0, 1, []),
  (13, .iload_n 0, 1, 0, 0, 0, 0, 0, []),
  (14, .lshl, 1, 0, 0, 0, 0, 0, []),
  (15, .lconst 1, 1, 0, 0, 0, 0, 1, []),
  (16, .lsub, 1, 0, 0, 0, 0, 0, []),
  (17, .lreturn, 1, 0, 0, 0, 0, 0, [])]
noncomputable def kk_X0_below_0 (F : Nat × Nat) : Nat → rx_L → List Value → Option rx_H → Option Int64 := fun t ls st u => none
set_option maxRecDepth 100000 in
theorem g_X0_below_0 (F : Nat × Nat) (x0 : Int32) : f_X0_below_0 F x0 = rx_node (C_X0_below F) rx_rJ t_X0_below [] (kk_X0_below_0 F) 14 0 [some (.int x0)] [] none := rfl
def f_X0_next_0 (F : Nat × Nat) (x0 : Int64) (x2 : Int32) : Option Int32 :=
  (f_X0_below F x2).bind fun v1 =>
  (f_J13_bitCount_95d88 F (((x0 &&& (v1 ^^^ (-1 : Int64))) &&& (-(x0 &&& (v1 ^^^ (-1 : Int64))))) - (1 : Int64))).bind fun v2 =>
  some v2
def f_X0_next (F : Nat × Nat) (x0 : Int64) (x2 : Int32) : Option Int32 := f_X0_next_0 F x0 x2
def c_X0_next {α : Type} (F : Nat × Nat) (as : List Value) (u : Option rx_H) (κ : rx_K α) : Option α := match as with
  | [.long a0, .int a1] => (f_X0_next F a0 a1).bind fun r => κ (some (.int r)) u
  | _ => none
noncomputable def C_X0_next {α : Type} (F : Nat × Nat) : rx_Cl α := fun j as u κ => Bool.rec (motive := fun _ => Option α) (Bool.rec (motive := fun _ => Option α) (none) (c_X0_below F as u κ) (Nat.beq j 11)) (c_J13_bitCount_95d88 F as u κ) (Nat.beq j 0)
def t_X0_next : List rx_E := [
  (0, .lload_n 0, 1, 0, 0, 0, 0, 0, []),
  (1, .iload_n 2, 1, 0, 0, 0, 0, 0, []),
  (2, .invokestatic 15, 3, 11, 1, 233, 0, 0, []),
  (5, .ldc2_w 21, 3, 0, 0, 236, 0, (-1), []),
  (8, .lxor, 1, 0, 0, 0, 0, 0, []),
  (9, .land, 1, 0, 0, 0, 0, 0, []),
  (10, .lstore_n 3, 1, 0, 0, 0, 0, 0, []),
  (11, .lload_n 3, 1, 0, 0, 0, 0, 0, []),
  (12, .lload_n 3, 1, 0, 0, 0, 0, 0, []),
  (13, .lneg, 1, 0, 0, 0, 0, 0, []),
  (14, .land, 1, 0, 0, 0, 0, 0, []),
  (15, .lconst 1, 1, 0, 0, 0, 0, 1, []),
  (16, .lsub, 1, 0, 0, 0, 0, 0, []),
  (17, .invokestatic 9, 3, 0, 1, 184, 0, 0, []),
  (20, .ireturn, 1, 0, 0, 0, 0, 0, [])]
noncomputable def kk_X0_next_0 (F : Nat × Nat) : Nat → rx_L → List Value → Option rx_H → Option Int32 := fun t ls st u => none
set_option maxRecDepth 100000 in
theorem g_X0_next_0 (F : Nat × Nat) (x0 : Int64) (x2 : Int32) : f_X0_next_0 F x0 x2 = rx_node (C_X0_next F) rx_rI t_X0_next [] (kk_X0_next_0 F) 18 0 [some (.long x0), none, some (.int x2), none, none] [] none := rfl
def f_X0_leastOf_0 (F : Nat × Nat) (x0 : Int64) : Option Int32 :=
  if x0 = (0 : Int64) then
    some (-2 : Int32)
  else
    (f_X0_next F x0 (0 : Int32)).bind fun v1 =>
    some v1
def f_X0_leastOf (F : Nat × Nat) (x0 : Int64) : Option Int32 := f_X0_leastOf_0 F x0
def c_X0_leastOf {α : Type} (F : Nat × Nat) (as : List Value) (u : Option rx_H) (κ : rx_K α) : Option α := match as with
  | [.long a0] => (f_X0_leastOf F a0).bind fun r => κ (some (.int r)) u
  | _ => none
noncomputable def C_X0_leastOf {α : Type} (F : Nat × Nat) : rx_Cl α := fun j as u κ => Bool.rec (motive := fun _ => Option α) (none) (c_X0_next F as u κ) (Nat.beq j 23)
def t_X0_leastOf : List rx_E := [
  (0, .lload_n 0, 1, 0, 0, 0, 0, 0, []),
  (1, .lconst 0, 1, 0, 0, 0, 0, 0, []),
  (2, .lcmp, 1, 0, 0, 0, 0, 0, []),
  (3, .ifCond .ne 8, 3, 11, 0, 0, 0, 0, []),
  (6, .bipush (-2), 2, 0, 0, 0, (-2), 0, []),
  (8, .goto 8, 3, 16, 0, 0, 0, 0, []),
  (11, .lload_n 0, 1, 0, 0, 0, 0, 0, []),
  (12, .iconst 0, 1, 0, 0, 0, 0, 0, []),
  (13, .invokestatic 23, 3, 23, 2, 230, 0, 0, []),
  (16, .ireturn, 1, 0, 0, 0, 0, 0, [])]
noncomputable def kk_X0_leastOf_0 (F : Nat × Nat) : Nat → rx_L → List Value → Option rx_H → Option Int32 := fun t ls st u => none
set_option maxRecDepth 100000 in
theorem g_X0_leastOf_0 (F : Nat × Nat) (x0 : Int64) : f_X0_leastOf_0 F x0 = rx_node (C_X0_leastOf F) rx_rI t_X0_leastOf [] (kk_X0_leastOf_0 F) 13 0 [some (.long x0), none] [] none := rfl
def f_X0_setAt_35 (F : Nat × Nat) (x3 : Int32) : Option Int32 :=
  if x3 < (64 : Int32) then
    some x3
  else
    some (-2 : Int32)
def f_X0_setAt_9 (F : Nat × Nat) : Nat → Int64 → Int32 → Int32 → Int32 → Option Int32
  | 0, _, _, _, _ => none
  | f + 1, x0, x2, x3, x4 =>
    if x4 < x2 then
      if x3 < (64 : Int32) then
        (f_X0_next F x0 (x3 + (1 : Int32))).bind fun v1 =>
        (f_X0_setAt_9 F f) x0 x2 v1 (x4 + 1)
      else
        f_X0_setAt_35 F x3
    else
      f_X0_setAt_35 F x3
def f_X0_setAt_0 (F : Nat × Nat) (x0 : Int64) (x2 : Int32) : Option Int32 :=
  (f_X0_next F x0 (0 : Int32)).bind fun v1 =>
  f_X0_setAt_9 F F.1 x0 x2 v1 (0 : Int32)
def f_X0_setAt (F : Nat × Nat) (x0 : Int64) (x2 : Int32) : Option Int32 := f_X0_setAt_0 F x0 x2
def c_X0_setAt {α : Type} (F : Nat × Nat) (as : List Value) (u : Option rx_H) (κ : rx_K α) : Option α := match as with
  | [.long a0, .int a1] => (f_X0_setAt F a0 a1).bind fun r => κ (some (.int r)) u
  | _ => none
noncomputable def C_X0_setAt {α : Type} (F : Nat × Nat) : rx_Cl α := fun j as u κ => Bool.rec (motive := fun _ => Option α) (none) (c_X0_next F as u κ) (Nat.beq j 23)
def t_X0_setAt : List rx_E := [
  (0, .lload_n 0, 1, 0, 0, 0, 0, 0, []),
  (1, .iconst 0, 1, 0, 0, 0, 0, 0, []),
  (2, .invokestatic 23, 3, 23, 2, 230, 0, 0, []),
  (5, .istore_n 3, 1, 0, 0, 0, 0, 0, []),
  (6, .iconst 0, 1, 0, 0, 0, 0, 0, []),
  (7, .istore 4, 2, 0, 0, 0, 0, 0, []),
  (9, .iload 4, 2, 0, 0, 0, 0, 0, []),
  (11, .iload_n 2, 1, 0, 0, 0, 0, 0, []),
  (12, .if_icmp .ge 23, 3, 35, 0, 0, 0, 0, []),
  (15, .iload_n 3, 1, 0, 0, 0, 0, 0, []),
  (16, .bipush 64, 2, 0, 0, 0, 64, 0, []),
  (18, .if_icmp .ge 17, 3, 35, 0, 0, 0, 0, []),
  (21, .lload_n 0, 1, 0, 0, 0, 0, 0, []),
  (22, .iload_n 3, 1, 0, 0, 0, 0, 0, []),
  (23, .iconst 1, 1, 0, 0, 0, 1, 0, []),
  (24, .iadd, 1, 0, 0, 0, 0, 0, []),
  (25, .invokestatic 23, 3, 23, 2, 230, 0, 0, []),
  (28, .istore_n 3, 1, 0, 0, 0, 0, 0, []),
  (29, .iinc 4 1, 3, 0, 0, 0, 1, 0, []),
  (32, .goto (-23), 3, 9, 0, 0, 0, 0, []),
  (35, .iload_n 3, 1, 0, 0, 0, 0, 0, []),
  (36, .bipush 64, 2, 0, 0, 0, 64, 0, []),
  (38, .if_icmp .ge 7, 3, 45, 0, 0, 0, 0, []),
  (41, .iload_n 3, 1, 0, 0, 0, 0, 0, []),
  (42, .goto 5, 3, 47, 0, 0, 0, 0, []),
  (45, .bipush (-2), 2, 0, 0, 0, (-2), 0, []),
  (47, .ireturn, 1, 0, 0, 0, 0, 0, [])]
def n_X0_setAt_9 (k9 : Int64 → Int32 → Int32 → Int32 → Option Int32) (ls : rx_L) (st : List Value) (u : Option rx_H) : Option Int32 := match ls, st, u with
  | [some (.long x0), _, some (.int x2), some (.int x3), some (.int x4)], [], none => k9 x0 x2 x3 x4
  | _, _, _ => none
def n_X0_setAt_35 (F : Nat × Nat) (ls : rx_L) (st : List Value) (u : Option rx_H) : Option Int32 := match ls, st, u with
  | [_, _, _, some (.int x3), _], [], none => f_X0_setAt_35 F x3
  | _, _, _ => none
noncomputable def kk_X0_setAt_35 (F : Nat × Nat) : Nat → rx_L → List Value → Option rx_H → Option Int32 := fun t ls st u => none
noncomputable def kk_X0_setAt_9 (F : Nat × Nat) (k9 : Int64 → Int32 → Int32 → Int32 → Option Int32) : Nat → rx_L → List Value → Option rx_H → Option Int32 := fun t ls st u => Bool.rec (motive := fun _ => Option Int32) (Bool.rec (motive := fun _ => Option Int32) (none) (n_X0_setAt_35 F ls st u) (Nat.beq t 35)) (n_X0_setAt_9 k9 ls st u) (Nat.beq t 9)
noncomputable def kk_X0_setAt_0 (F : Nat × Nat) : Nat → rx_L → List Value → Option rx_H → Option Int32 := fun t ls st u => Bool.rec (motive := fun _ => Option Int32) (none) (n_X0_setAt_9 (f_X0_setAt_9 F F.1) ls st u) (Nat.beq t 9)
set_option maxRecDepth 100000 in
theorem g_X0_setAt_35 (F : Nat × Nat) (x3 : Int32) : f_X0_setAt_35 F x3 = rx_node (C_X0_setAt F) rx_rI t_X0_setAt [9, 35] (kk_X0_setAt_35 F) 30 35 [none, none, none, some (.int x3), none] [] none := rfl
set_option maxRecDepth 100000 in
theorem g_X0_setAt_9 (F : Nat × Nat) (f : Nat) (x0 : Int64) (x2 : Int32) (x3 : Int32) (x4 : Int32) : f_X0_setAt_9 F (f + 1) x0 x2 x3 x4 = rx_node (C_X0_setAt F) rx_rI t_X0_setAt [9, 35] (kk_X0_setAt_9 F (f_X0_setAt_9 F f)) 30 9 [some (.long x0), none, some (.int x2), some (.int x3), some (.int x4)] [] none := rfl
set_option maxRecDepth 100000 in
theorem g_X0_setAt_0 (F : Nat × Nat) (x0 : Int64) (x2 : Int32) : f_X0_setAt_0 F x0 x2 = rx_node (C_X0_setAt F) rx_rI t_X0_setAt [9, 35] (kk_X0_setAt_0 F) 30 0 [some (.long x0), none, some (.int x2), none, none] [] none := rfl
def f_X0_within_4 (F : Nat × Nat) : Nat → Int32 → Int64 → Int32 → Option Int64
  | 0, _, _, _ => none
  | f + 1, x0, x1, x3 =>
    if x3 < (6 : Int32) then
      if (x0 >>> (x3 &&& 31)) &&& (1 : Int32) = 0 then
        (f_X0_within_4 F f) x0 x1 (x3 + 1)
      else
        (f_X0_within_4 F f) x0 (x1 ||| (x1 <<< (Int32.toInt64 ((1 : Int32) <<< (x3 &&& 31)) &&& 63))) (x3 + 1)
    else
      some x1
def f_X0_within_0 (F : Nat × Nat) (x0 : Int32) : Option Int64 :=
  f_X0_within_4 F F.1 x0 (1 : Int64) (0 : Int32)
def f_X0_within (F : Nat × Nat) (x0 : Int32) : Option Int64 := f_X0_within_0 F x0
def c_X0_within {α : Type} (F : Nat × Nat) (as : List Value) (u : Option rx_H) (κ : rx_K α) : Option α := match as with
  | [.int a0] => (f_X0_within F a0).bind fun r => κ (some (.long r)) u
  | _ => none
noncomputable def C_X0_within {α : Type} (F : Nat × Nat) : rx_Cl α := fun j as u κ => none
def t_X0_within : List rx_E := [
  (0, .lconst 1, 1, 0, 0, 0, 0, 1, []),
  (1, .lstore_n 1, 1, 0, 0, 0, 0, 0, []),
  (2, .iconst 0, 1, 0, 0, 0, 0, 0, []),
  (3, .istore_n 3, 1, 0, 0, 0, 0, 0, []),
  (4, .iload_n 3, 1, 0, 0, 0, 0, 0, []),
  (5, .bipush 6, 2, 0, 0, 0, 6, 0, []),
  (7, .if_icmp .ge 25, 3, 32, 0, 0, 0, 0, []),
  (10, .iload_n 0, 1, 0, 0, 0, 0, 0, []),
  (11, .iload_n 3, 1, 0, 0, 0, 0, 0, []),
  (12, .ishr, 1, 0, 0, 0, 0, 0, []),
  (13, .iconst 1, 1, 0, 0, 0, 1, 0, []),
  (14, .iand, 1, 0, 0, 0, 0, 0, []),
  (15, .ifCond .eq 11, 3, 26, 0, 0, 0, 0, []),
  (18, .lload_n 1, 1, 0, 0, 0, 0, 0, []),
  (19, .lload_n 1, 1, 0, 0, 0, 0, 0, []),
  (20, .iconst 1, 1, 0, 0, 0, 1, 0, []),
  (21, .iload_n 3, 1, 0, 0, 0, 0, 0, []),
  (22, .ishl, 1, 0, 0, 0, 0, 0, []),
  (23, .lshl, 1, 0, 0, 0, 0, 0, []),
  (24, .lor, 1, 0, 0, 0, 0, 0, []),
  (25, .lstore_n 1, 1, 0, 0, 0, 0, 0, []),
  (26, .iinc 3 1, 3, 0, 0, 0, 1, 0, []),
  (29, .goto (-25), 3, 4, 0, 0, 0, 0, []),
  (32, .lload_n 1, 1, 0, 0, 0, 0, 0, []),
  (33, .lreturn, 1, 0, 0, 0, 0, 0, [])]
def n_X0_within_4 (k4 : Int32 → Int64 → Int32 → Option Int64) (ls : rx_L) (st : List Value) (u : Option rx_H) : Option Int64 := match ls, st, u with
  | [some (.int x0), some (.long x1), _, some (.int x3)], [], none => k4 x0 x1 x3
  | _, _, _ => none
noncomputable def kk_X0_within_4 (F : Nat × Nat) (k4 : Int32 → Int64 → Int32 → Option Int64) : Nat → rx_L → List Value → Option rx_H → Option Int64 := fun t ls st u => Bool.rec (motive := fun _ => Option Int64) (none) (n_X0_within_4 k4 ls st u) (Nat.beq t 4)
noncomputable def kk_X0_within_0 (F : Nat × Nat) : Nat → rx_L → List Value → Option rx_H → Option Int64 := fun t ls st u => Bool.rec (motive := fun _ => Option Int64) (none) (n_X0_within_4 (f_X0_within_4 F F.1) ls st u) (Nat.beq t 4)
set_option maxRecDepth 100000 in
theorem g_X0_within_4 (F : Nat × Nat) (f : Nat) (x0 : Int32) (x1 : Int64) (x3 : Int32) : f_X0_within_4 F (f + 1) x0 x1 x3 = rx_node (C_X0_within F) rx_rJ t_X0_within [4] (kk_X0_within_4 F (f_X0_within_4 F f)) 28 4 [some (.int x0), some (.long x1), none, some (.int x3)] [] none := rfl
set_option maxRecDepth 100000 in
theorem g_X0_within_0 (F : Nat × Nat) (x0 : Int32) : f_X0_within_0 F x0 = rx_node (C_X0_within F) rx_rJ t_X0_within [4] (kk_X0_within_0 F) 28 0 [some (.int x0), none, none, none] [] none := rfl
def f_X0_around_0 (F : Nat × Nat) (x0 : Int32) : Option Int64 :=
  (f_X0_within F ((63 : Int32) - x0)).bind fun v1 =>
  some (v1 <<< (Int32.toInt64 x0 &&& 63))
def f_X0_around (F : Nat × Nat) (x0 : Int32) : Option Int64 := f_X0_around_0 F x0
def c_X0_around {α : Type} (F : Nat × Nat) (as : List Value) (u : Option rx_H) (κ : rx_K α) : Option α := match as with
  | [.int a0] => (f_X0_around F a0).bind fun r => κ (some (.long r)) u
  | _ => none
noncomputable def C_X0_around {α : Type} (F : Nat × Nat) : rx_Cl α := fun j as u κ => Bool.rec (motive := fun _ => Option α) (none) (c_X0_within F as u κ) (Nat.beq j 30)
def t_X0_around : List rx_E := [
  (0, .bipush 63, 2, 0, 0, 0, 63, 0, []),
  (2, .iload_n 0, 1, 0, 0, 0, 0, 0, []),
  (3, .isub, 1, 0, 0, 0, 0, 0, []),
  (4, .invokestatic 27, 3, 30, 1, 226, 0, 0, []),
  (7, .iload_n 0, 1, 0, 0, 0, 0, 0, []),
  (8, .lshl, 1, 0, 0, 0, 0, 0, []),
  (9, .lreturn, 1, 0, 0, 0, 0, 0, [])]
noncomputable def kk_X0_around_0 (F : Nat × Nat) : Nat → rx_L → List Value → Option rx_H → Option Int64 := fun t ls st u => none
set_option maxRecDepth 100000 in
theorem g_X0_around_0 (F : Nat × Nat) (x0 : Int32) : f_X0_around_0 F x0 = rx_node (C_X0_around F) rx_rJ t_X0_around [] (kk_X0_around_0 F) 10 0 [some (.int x0)] [] none := rfl
def f_X0_lackingThing_0 (F : Nat × Nat) (x0 : Int64) (x2 : Int32) : Option Int64 :=
  (rx_aJ none 1000001 x2).bind fun v1 =>
  some (x0 &&& v1)
def f_X0_lackingThing (F : Nat × Nat) (x0 : Int64) (x2 : Int32) : Option Int64 := f_X0_lackingThing_0 F x0 x2
def c_X0_lackingThing {α : Type} (F : Nat × Nat) (as : List Value) (u : Option rx_H) (κ : rx_K α) : Option α := match as with
  | [.long a0, .int a1] => (f_X0_lackingThing F a0 a1).bind fun r => κ (some (.long r)) u
  | _ => none
noncomputable def C_X0_lackingThing {α : Type} (F : Nat × Nat) : rx_Cl α := fun j as u κ => none
def t_X0_lackingThing : List rx_E := [
  (0, .lload_n 0, 1, 0, 0, 0, 0, 0, []),
  (1, .getstatic 30, 3, 1000001, 0, 319, 0, 0, []),
  (4, .iload_n 2, 1, 0, 0, 0, 0, 0, []),
  (5, .laload, 1, 0, 0, 0, 0, 0, []),
  (6, .land, 1, 0, 0, 0, 0, 0, []),
  (7, .lreturn, 1, 0, 0, 0, 0, 0, [])]
noncomputable def kk_X0_lackingThing_0 (F : Nat × Nat) : Nat → rx_L → List Value → Option rx_H → Option Int64 := fun t ls st u => none
set_option maxRecDepth 100000 in
theorem g_X0_lackingThing_0 (F : Nat × Nat) (x0 : Int64) (x2 : Int32) : f_X0_lackingThing_0 F x0 x2 = rx_node (C_X0_lackingThing F) rx_rJ t_X0_lackingThing [] (kk_X0_lackingThing_0 F) 9 0 [some (.long x0), none, some (.int x2)] [] none := rfl
def f_X0_lessThing_0 (F : Nat × Nat) (x0 : Int64) (x2 : Int32) : Option Int64 :=
  (rx_aJ none 1000001 x2).bind fun v1 =>
  some (((Int64.toUInt64 x0 >>> ((Int32.toInt64 ((1 : Int32) <<< (x2 &&& 31))).toUInt64 &&& Int64.toUInt64 63)).toInt64) &&& v1)
def f_X0_lessThing (F : Nat × Nat) (x0 : Int64) (x2 : Int32) : Option Int64 := f_X0_lessThing_0 F x0 x2
def c_X0_lessThing {α : Type} (F : Nat × Nat) (as : List Value) (u : Option rx_H) (κ : rx_K α) : Option α := match as with
  | [.long a0, .int a1] => (f_X0_lessThing F a0 a1).bind fun r => κ (some (.long r)) u
  | _ => none
noncomputable def C_X0_lessThing {α : Type} (F : Nat × Nat) : rx_Cl α := fun j as u κ => none
def t_X0_lessThing : List rx_E := [
  (0, .lload_n 0, 1, 0, 0, 0, 0, 0, []),
  (1, .iconst 1, 1, 0, 0, 0, 1, 0, []),
  (2, .iload_n 2, 1, 0, 0, 0, 0, 0, []),
  (3, .ishl, 1, 0, 0, 0, 0, 0, []),
  (4, .lushr, 1, 0, 0, 0, 0, 0, []),
  (5, .getstatic 30, 3, 1000001, 0, 319, 0, 0, []),
  (8, .iload_n 2, 1, 0, 0, 0, 0, 0, []),
  (9, .laload, 1, 0, 0, 0, 0, 0, []),
  (10, .land, 1, 0, 0, 0, 0, 0, []),
  (11, .lreturn, 1, 0, 0, 0, 0, 0, [])]
noncomputable def kk_X0_lessThing_0 (F : Nat × Nat) : Nat → rx_L → List Value → Option rx_H → Option Int64 := fun t ls st u => none
set_option maxRecDepth 100000 in
theorem g_X0_lessThing_0 (F : Nat × Nat) (x0 : Int64) (x2 : Int32) : f_X0_lessThing_0 F x0 x2 = rx_node (C_X0_lessThing F) rx_rJ t_X0_lessThing [] (kk_X0_lessThing_0 F) 13 0 [some (.long x0), none, some (.int x2)] [] none := rfl
def f_X0_moreThing_0 (F : Nat × Nat) (x0 : Int64) (x2 : Int32) : Option Int64 :=
  (rx_aJ none 1000001 x2).bind fun v1 =>
  some ((x0 &&& v1) <<< (Int32.toInt64 ((1 : Int32) <<< (x2 &&& 31)) &&& 63))
def f_X0_moreThing (F : Nat × Nat) (x0 : Int64) (x2 : Int32) : Option Int64 := f_X0_moreThing_0 F x0 x2
def c_X0_moreThing {α : Type} (F : Nat × Nat) (as : List Value) (u : Option rx_H) (κ : rx_K α) : Option α := match as with
  | [.long a0, .int a1] => (f_X0_moreThing F a0 a1).bind fun r => κ (some (.long r)) u
  | _ => none
noncomputable def C_X0_moreThing {α : Type} (F : Nat × Nat) : rx_Cl α := fun j as u κ => none
def t_X0_moreThing : List rx_E := [
  (0, .lload_n 0, 1, 0, 0, 0, 0, 0, []),
  (1, .getstatic 30, 3, 1000001, 0, 319, 0, 0, []),
  (4, .iload_n 2, 1, 0, 0, 0, 0, 0, []),
  (5, .laload, 1, 0, 0, 0, 0, 0, []),
  (6, .land, 1, 0, 0, 0, 0, 0, []),
  (7, .iconst 1, 1, 0, 0, 0, 1, 0, []),
  (8, .iload_n 2, 1, 0, 0, 0, 0, 0, []),
  (9, .ishl, 1, 0, 0, 0, 0, 0, []),
  (10, .lshl, 1, 0, 0, 0, 0, 0, []),
  (11, .lreturn, 1, 0, 0, 0, 0, 0, [])]
noncomputable def kk_X0_moreThing_0 (F : Nat × Nat) : Nat → rx_L → List Value → Option rx_H → Option Int64 := fun t ls st u => none
set_option maxRecDepth 100000 in
theorem g_X0_moreThing_0 (F : Nat × Nat) (x0 : Int64) (x2 : Int32) : f_X0_moreThing_0 F x0 x2 = rx_node (C_X0_moreThing F) rx_rJ t_X0_moreThing [] (kk_X0_moreThing_0 F) 13 0 [some (.long x0), none, some (.int x2)] [] none := rfl
def f_X0_oneLess_5 (F : Nat × Nat) : Nat → Int64 → Int64 → Int32 → Option Int64
  | 0, _, _, _ => none
  | f + 1, x0, x2, x4 =>
    if x4 < (6 : Int32) then
      (f_X0_lessThing F x0 x4).bind fun v1 =>
      (f_X0_oneLess_5 F f) x0 (x2 ||| v1) (x4 + 1)
    else
      some x2
def f_X0_oneLess_0 (F : Nat × Nat) (x0 : Int64) : Option Int64 :=
  f_X0_oneLess_5 F F.1 x0 (0 : Int64) (0 : Int32)
def f_X0_oneLess (F : Nat × Nat) (x0 : Int64) : Option Int64 := f_X0_oneLess_0 F x0
def c_X0_oneLess {α : Type} (F : Nat × Nat) (as : List Value) (u : Option rx_H) (κ : rx_K α) : Option α := match as with
  | [.long a0] => (f_X0_oneLess F a0).bind fun r => κ (some (.long r)) u
  | _ => none
noncomputable def C_X0_oneLess {α : Type} (F : Nat × Nat) : rx_Cl α := fun j as u κ => Bool.rec (motive := fun _ => Option α) (none) (c_X0_lessThing F as u κ) (Nat.beq j 18)
def t_X0_oneLess : List rx_E := [
  (0, .lconst 0, 1, 0, 0, 0, 0, 0, []),
  (1, .lstore_n 2, 1, 0, 0, 0, 0, 0, []),
  (2, .iconst 0, 1, 0, 0, 0, 0, 0, []),
  (3, .istore 4, 2, 0, 0, 0, 0, 0, []),
  (5, .iload 4, 2, 0, 0, 0, 0, 0, []),
  (7, .bipush 6, 2, 0, 0, 0, 6, 0, []),
  (9, .if_icmp .ge 18, 3, 27, 0, 0, 0, 0, []),
  (12, .lload_n 2, 1, 0, 0, 0, 0, 0, []),
  (13, .lload_n 0, 1, 0, 0, 0, 0, 0, []),
  (14, .iload 4, 2, 0, 0, 0, 0, 0, []),
  (16, .invokestatic 34, 3, 18, 2, 316, 0, 0, []),
  (19, .lor, 1, 0, 0, 0, 0, 0, []),
  (20, .lstore_n 2, 1, 0, 0, 0, 0, 0, []),
  (21, .iinc 4 1, 3, 0, 0, 0, 1, 0, []),
  (24, .goto (-19), 3, 5, 0, 0, 0, 0, []),
  (27, .lload_n 2, 1, 0, 0, 0, 0, 0, []),
  (28, .lreturn, 1, 0, 0, 0, 0, 0, [])]
def n_X0_oneLess_5 (k5 : Int64 → Int64 → Int32 → Option Int64) (ls : rx_L) (st : List Value) (u : Option rx_H) : Option Int64 := match ls, st, u with
  | [some (.long x0), _, some (.long x2), _, some (.int x4)], [], none => k5 x0 x2 x4
  | _, _, _ => none
noncomputable def kk_X0_oneLess_5 (F : Nat × Nat) (k5 : Int64 → Int64 → Int32 → Option Int64) : Nat → rx_L → List Value → Option rx_H → Option Int64 := fun t ls st u => Bool.rec (motive := fun _ => Option Int64) (none) (n_X0_oneLess_5 k5 ls st u) (Nat.beq t 5)
noncomputable def kk_X0_oneLess_0 (F : Nat × Nat) : Nat → rx_L → List Value → Option rx_H → Option Int64 := fun t ls st u => Bool.rec (motive := fun _ => Option Int64) (none) (n_X0_oneLess_5 (f_X0_oneLess_5 F F.1) ls st u) (Nat.beq t 5)
set_option maxRecDepth 100000 in
theorem g_X0_oneLess_5 (F : Nat × Nat) (f : Nat) (x0 : Int64) (x2 : Int64) (x4 : Int32) : f_X0_oneLess_5 F (f + 1) x0 x2 x4 = rx_node (C_X0_oneLess F) rx_rJ t_X0_oneLess [5] (kk_X0_oneLess_5 F (f_X0_oneLess_5 F f)) 20 5 [some (.long x0), none, some (.long x2), none, some (.int x4)] [] none := rfl
set_option maxRecDepth 100000 in
theorem g_X0_oneLess_0 (F : Nat × Nat) (x0 : Int64) : f_X0_oneLess_0 F x0 = rx_node (C_X0_oneLess F) rx_rJ t_X0_oneLess [5] (kk_X0_oneLess_0 F) 20 0 [some (.long x0), none, none, none, none] [] none := rfl
def f_X0_oneMore_5 (F : Nat × Nat) : Nat → Int64 → Int32 → Int64 → Int32 → Option Int64
  | 0, _, _, _, _ => none
  | f + 1, x0, x2, x3, x5 =>
    if x5 < x2 then
      (f_X0_moreThing F x0 x5).bind fun v1 =>
      (f_X0_oneMore_5 F f) x0 x2 (x3 ||| v1) (x5 + 1)
    else
      some x3
def f_X0_oneMore_0 (F : Nat × Nat) (x0 : Int64) (x2 : Int32) : Option Int64 :=
  f_X0_oneMore_5 F F.1 x0 x2 (0 : Int64) (0 : Int32)
def f_X0_oneMore (F : Nat × Nat) (x0 : Int64) (x2 : Int32) : Option Int64 := f_X0_oneMore_0 F x0 x2
def c_X0_oneMore {α : Type} (F : Nat × Nat) (as : List Value) (u : Option rx_H) (κ : rx_K α) : Option α := match as with
  | [.long a0, .int a1] => (f_X0_oneMore F a0 a1).bind fun r => κ (some (.long r)) u
  | _ => none
noncomputable def C_X0_oneMore {α : Type} (F : Nat × Nat) : rx_Cl α := fun j as u κ => Bool.rec (motive := fun _ => Option α) (none) (c_X0_moreThing F as u κ) (Nat.beq j 21)
def t_X0_oneMore : List rx_E := [
  (0, .lconst 0, 1, 0, 0, 0, 0, 0, []),
  (1, .lstore_n 3, 1, 0, 0, 0, 0, 0, []),
  (2, .iconst 0, 1, 0, 0, 0, 0, 0, []),
  (3, .istore 5, 2, 0, 0, 0, 0, 0, []),
  (5, .iload 5, 2, 0, 0, 0, 0, 0, []),
  (7, .iload_n 2, 1, 0, 0, 0, 0, 0, []),
  (8, .if_icmp .ge 18, 3, 26, 0, 0, 0, 0, []),
  (11, .lload_n 3, 1, 0, 0, 0, 0, 0, []),
  (12, .lload_n 0, 1, 0, 0, 0, 0, 0, []),
  (13, .iload 5, 2, 0, 0, 0, 0, 0, []),
  (15, .invokestatic 38, 3, 21, 2, 332, 0, 0, []),
  (18, .lor, 1, 0, 0, 0, 0, 0, []),
  (19, .lstore_n 3, 1, 0, 0, 0, 0, 0, []),
  (20, .iinc 5 1, 3, 0, 0, 0, 1, 0, []),
  (23, .goto (-18), 3, 5, 0, 0, 0, 0, []),
  (26, .lload_n 3, 1, 0, 0, 0, 0, 0, []),
  (27, .lreturn, 1, 0, 0, 0, 0, 0, [])]
def n_X0_oneMore_5 (k5 : Int64 → Int32 → Int64 → Int32 → Option Int64) (ls : rx_L) (st : List Value) (u : Option rx_H) : Option Int64 := match ls, st, u with
  | [some (.long x0), _, some (.int x2), some (.long x3), _, some (.int x5)], [], none => k5 x0 x2 x3 x5
  | _, _, _ => none
noncomputable def kk_X0_oneMore_5 (F : Nat × Nat) (k5 : Int64 → Int32 → Int64 → Int32 → Option Int64) : Nat → rx_L → List Value → Option rx_H → Option Int64 := fun t ls st u => Bool.rec (motive := fun _ => Option Int64) (none) (n_X0_oneMore_5 k5 ls st u) (Nat.beq t 5)
noncomputable def kk_X0_oneMore_0 (F : Nat × Nat) : Nat → rx_L → List Value → Option rx_H → Option Int64 := fun t ls st u => Bool.rec (motive := fun _ => Option Int64) (none) (n_X0_oneMore_5 (f_X0_oneMore_5 F F.1) ls st u) (Nat.beq t 5)
set_option maxRecDepth 100000 in
theorem g_X0_oneMore_5 (F : Nat × Nat) (f : Nat) (x0 : Int64) (x2 : Int32) (x3 : Int64) (x5 : Int32) : f_X0_oneMore_5 F (f + 1) x0 x2 x3 x5 = rx_node (C_X0_oneMore F) rx_rJ t_X0_oneMore [5] (kk_X0_oneMore_5 F (f_X0_oneMore_5 F f)) 20 5 [some (.long x0), none, some (.int x2), some (.long x3), none, some (.int x5)] [] none := rfl
set_option maxRecDepth 100000 in
theorem g_X0_oneMore_0 (F : Nat × Nat) (x0 : Int64) (x2 : Int32) : f_X0_oneMore_0 F x0 x2 = rx_node (C_X0_oneMore F) rx_rJ t_X0_oneMore [5] (kk_X0_oneMore_0 F) 20 0 [some (.long x0), none, some (.int x2), none, none, none] [] none := rfl
def f_X0_allBelow_5 (F : Nat × Nat) : Nat → Int64 → Int32 → Option Int64
  | 0, _, _ => none
  | f + 1, x2, x4 =>
    if x4 < (6 : Int32) then
      (f_X0_lessThing F x2 x4).bind fun v1 =>
      (f_X0_allBelow_5 F f) (x2 ||| v1) (x4 + 1)
    else
      some x2
def f_X0_allBelow_0 (F : Nat × Nat) (x0 : Int64) : Option Int64 :=
  f_X0_allBelow_5 F F.1 x0 (0 : Int32)
def f_X0_allBelow (F : Nat × Nat) (x0 : Int64) : Option Int64 := f_X0_allBelow_0 F x0
def c_X0_allBelow {α : Type} (F : Nat × Nat) (as : List Value) (u : Option rx_H) (κ : rx_K α) : Option α := match as with
  | [.long a0] => (f_X0_allBelow F a0).bind fun r => κ (some (.long r)) u
  | _ => none
noncomputable def C_X0_allBelow {α : Type} (F : Nat × Nat) : rx_Cl α := fun j as u κ => Bool.rec (motive := fun _ => Option α) (none) (c_X0_lessThing F as u κ) (Nat.beq j 18)
def t_X0_allBelow : List rx_E := [
  (0, .lload_n 0, 1, 0, 0, 0, 0, 0, []),
  (1, .lstore_n 2, 1, 0, 0, 0, 0, 0, []),
  (2, .iconst 0, 1, 0, 0, 0, 0, 0, []),
  (3, .istore 4, 2, 0, 0, 0, 0, 0, []),
  (5, .iload 4, 2, 0, 0, 0, 0, 0, []),
  (7, .bipush 6, 2, 0, 0, 0, 6, 0, []),
  (9, .if_icmp .ge 18, 3, 27, 0, 0, 0, 0, []),
  (12, .lload_n 2, 1, 0, 0, 0, 0, 0, []),
  (13, .lload_n 2, 1, 0, 0, 0, 0, 0, []),
  (14, .iload 4, 2, 0, 0, 0, 0, 0, []),
  (16, .invokestatic 34, 3, 18, 2, 316, 0, 0, []),
  (19, .lor, 1, 0, 0, 0, 0, 0, []),
  (20, .lstore_n 2, 1, 0, 0, 0, 0, 0, []),
  (21, .iinc 4 1, 3, 0, 0, 0, 1, 0, []),
  (24, .goto (-19), 3, 5, 0, 0, 0, 0, []),
  (27, .lload_n 2, 1, 0, 0, 0, 0, 0, []),
  (28, .lreturn, 1, 0, 0, 0, 0, 0, [])]
def n_X0_allBelow_5 (k5 : Int64 → Int32 → Option Int64) (ls : rx_L) (st : List Value) (u : Option rx_H) : Option Int64 := match ls, st, u with
  | [_, _, some (.long x2), _, some (.int x4)], [], none => k5 x2 x4
  | _, _, _ => none
noncomputable def kk_X0_allBelow_5 (F : Nat × Nat) (k5 : Int64 → Int32 → Option Int64) : Nat → rx_L → List Value → Option rx_H → Option Int64 := fun t ls st u => Bool.rec (motive := fun _ => Option Int64) (none) (n_X0_allBelow_5 k5 ls st u) (Nat.beq t 5)
noncomputable def kk_X0_allBelow_0 (F : Nat × Nat) : Nat → rx_L → List Value → Option rx_H → Option Int64 := fun t ls st u => Bool.rec (motive := fun _ => Option Int64) (none) (n_X0_allBelow_5 (f_X0_allBelow_5 F F.1) ls st u) (Nat.beq t 5)
set_option maxRecDepth 100000 in
theorem g_X0_allBelow_5 (F : Nat × Nat) (f : Nat) (x2 : Int64) (x4 : Int32) : f_X0_allBelow_5 F (f + 1) x2 x4 = rx_node (C_X0_allBelow F) rx_rJ t_X0_allBelow [5] (kk_X0_allBelow_5 F (f_X0_allBelow_5 F f)) 20 5 [none, none, some (.long x2), none, some (.int x4)] [] none := rfl
set_option maxRecDepth 100000 in
theorem g_X0_allBelow_0 (F : Nat × Nat) (x0 : Int64) : f_X0_allBelow_0 F x0 = rx_node (C_X0_allBelow F) rx_rJ t_X0_allBelow [5] (kk_X0_allBelow_0 F) 20 0 [some (.long x0), none, none, none, none] [] none := rfl
def f_X0_allAbove_5 (F : Nat × Nat) : Nat → Int32 → Int64 → Int32 → Option Int64
  | 0, _, _, _ => none
  | f + 1, x2, x3, x5 =>
    if x5 < x2 then
      (f_X0_moreThing F x3 x5).bind fun v1 =>
      (f_X0_allAbove_5 F f) x2 (x3 ||| v1) (x5 + 1)
    else
      some x3
def f_X0_allAbove_0 (F : Nat × Nat) (x0 : Int64) (x2 : Int32) : Option Int64 :=
  f_X0_allAbove_5 F F.1 x2 x0 (0 : Int32)
def f_X0_allAbove (F : Nat × Nat) (x0 : Int64) (x2 : Int32) : Option Int64 := f_X0_allAbove_0 F x0 x2
def c_X0_allAbove {α : Type} (F : Nat × Nat) (as : List Value) (u : Option rx_H) (κ : rx_K α) : Option α := match as with
  | [.long a0, .int a1] => (f_X0_allAbove F a0 a1).bind fun r => κ (some (.long r)) u
  | _ => none
noncomputable def C_X0_allAbove {α : Type} (F : Nat × Nat) : rx_Cl α := fun j as u κ => Bool.rec (motive := fun _ => Option α) (none) (c_X0_moreThing F as u κ) (Nat.beq j 21)
def t_X0_allAbove : List rx_E := [
  (0, .lload_n 0, 1, 0, 0, 0, 0, 0, []),
  (1, .lstore_n 3, 1, 0, 0, 0, 0, 0, []),
  (2, .iconst 0, 1, 0, 0, 0, 0, 0, []),
  (3, .istore 5, 2, 0, 0, 0, 0, 0, []),
  (5, .iload 5, 2, 0, 0, 0, 0, 0, []),
  (7, .iload_n 2, 1, 0, 0, 0, 0, 0, []),
  (8, .if_icmp .ge 18, 3, 26, 0, 0, 0, 0, []),
  (11, .lload_n 3, 1, 0, 0, 0, 0, 0, []),
  (12, .lload_n 3, 1, 0, 0, 0, 0, 0, []),
  (13, .iload 5, 2, 0, 0, 0, 0, 0, []),
  (15, .invokestatic 38, 3, 21, 2, 332, 0, 0, []),
  (18, .lor, 1, 0, 0, 0, 0, 0, []),
  (19, .lstore_n 3, 1, 0, 0, 0, 0, 0, []),
  (20, .iinc 5 1, 3, 0, 0, 0, 1, 0, []),
  (23, .goto (-18), 3, 5, 0, 0, 0, 0, []),
  (26, .lload_n 3, 1, 0, 0, 0, 0, 0, []),
  (27, .lreturn, 1, 0, 0, 0, 0, 0, [])]
def n_X0_allAbove_5 (k5 : Int32 → Int64 → Int32 → Option Int64) (ls : rx_L) (st : List Value) (u : Option rx_H) : Option Int64 := match ls, st, u with
  | [_, _, some (.int x2), some (.long x3), _, some (.int x5)], [], none => k5 x2 x3 x5
  | _, _, _ => none
noncomputable def kk_X0_allAbove_5 (F : Nat × Nat) (k5 : Int32 → Int64 → Int32 → Option Int64) : Nat → rx_L → List Value → Option rx_H → Option Int64 := fun t ls st u => Bool.rec (motive := fun _ => Option Int64) (none) (n_X0_allAbove_5 k5 ls st u) (Nat.beq t 5)
noncomputable def kk_X0_allAbove_0 (F : Nat × Nat) : Nat → rx_L → List Value → Option rx_H → Option Int64 := fun t ls st u => Bool.rec (motive := fun _ => Option Int64) (none) (n_X0_allAbove_5 (f_X0_allAbove_5 F F.1) ls st u) (Nat.beq t 5)
set_option maxRecDepth 100000 in
theorem g_X0_allAbove_5 (F : Nat × Nat) (f : Nat) (x2 : Int32) (x3 : Int64) (x5 : Int32) : f_X0_allAbove_5 F (f + 1) x2 x3 x5 = rx_node (C_X0_allAbove F) rx_rJ t_X0_allAbove [5] (kk_X0_allAbove_5 F (f_X0_allAbove_5 F f)) 20 5 [none, none, some (.int x2), some (.long x3), none, some (.int x5)] [] none := rfl
set_option maxRecDepth 100000 in
theorem g_X0_allAbove_0 (F : Nat × Nat) (x0 : Int64) (x2 : Int32) : f_X0_allAbove_0 F x0 x2 = rx_node (C_X0_allAbove F) rx_rJ t_X0_allAbove [5] (kk_X0_allAbove_0 F) 20 0 [some (.long x0), none, some (.int x2), none, none, none] [] none := rfl
def f_X0_lacking_5 (F : Nat × Nat) : Nat → Int32 → Int64 → Int32 → Option Int64
  | 0, _, _, _ => none
  | f + 1, x2, x3, x5 =>
    if x5 < x2 then
      (f_X0_lessThing F x3 x5).bind fun v1 =>
      (f_X0_moreThing F x3 x5).bind fun v2 =>
      (f_X0_lacking_5 F f) x2 (v1 ||| v2) (x5 + 1)
    else
      some x3
def f_X0_lacking_0 (F : Nat × Nat) (x0 : Int64) (x2 : Int32) : Option Int64 :=
  f_X0_lacking_5 F F.1 x2 x0 (0 : Int32)
def f_X0_lacking (F : Nat × Nat) (x0 : Int64) (x2 : Int32) : Option Int64 := f_X0_lacking_0 F x0 x2
def c_X0_lacking {α : Type} (F : Nat × Nat) (as : List Value) (u : Option rx_H) (κ : rx_K α) : Option α := match as with
  | [.long a0, .int a1] => (f_X0_lacking F a0 a1).bind fun r => κ (some (.long r)) u
  | _ => none
noncomputable def C_X0_lacking {α : Type} (F : Nat × Nat) : rx_Cl α := fun j as u κ => Bool.rec (motive := fun _ => Option α) (Bool.rec (motive := fun _ => Option α) (none) (c_X0_moreThing F as u κ) (Nat.beq j 21)) (c_X0_lessThing F as u κ) (Nat.beq j 18)
def t_X0_lacking : List rx_E := [
  (0, .lload_n 0, 1, 0, 0, 0, 0, 0, []),
  (1, .lstore_n 3, 1, 0, 0, 0, 0, 0, []),
  (2, .iconst 0, 1, 0, 0, 0, 0, 0, []),
  (3, .istore 5, 2, 0, 0, 0, 0, 0, []),
  (5, .iload 5, 2, 0, 0, 0, 0, 0, []),
  (7, .iload_n 2, 1, 0, 0, 0, 0, 0, []),
  (8, .if_icmp .ge 23, 3, 31, 0, 0, 0, 0, []),
  (11, .lload_n 3, 1, 0, 0, 0, 0, 0, []),
  (12, .iload 5, 2, 0, 0, 0, 0, 0, []),
  (14, .invokestatic 34, 3, 18, 2, 316, 0, 0, []),
  (17, .lload_n 3, 1, 0, 0, 0, 0, 0, []),
  (18, .iload 5, 2, 0, 0, 0, 0, 0, []),
  (20, .invokestatic 38, 3, 21, 2, 332, 0, 0, []),
  (23, .lor, 1, 0, 0, 0, 0, 0, []),
  (24, .lstore_n 3, 1, 0, 0, 0, 0, 0, []),
  (25, .iinc 5 1, 3, 0, 0, 0, 1, 0, []),
  (28, .goto (-23), 3, 5, 0, 0, 0, 0, []),
  (31, .lload_n 3, 1, 0, 0, 0, 0, 0, []),
  (32, .lreturn, 1, 0, 0, 0, 0, 0, [])]
def n_X0_lacking_5 (k5 : Int32 → Int64 → Int32 → Option Int64) (ls : rx_L) (st : List Value) (u : Option rx_H) : Option Int64 := match ls, st, u with
  | [_, _, some (.int x2), some (.long x3), _, some (.int x5)], [], none => k5 x2 x3 x5
  | _, _, _ => none
noncomputable def kk_X0_lacking_5 (F : Nat × Nat) (k5 : Int32 → Int64 → Int32 → Option Int64) : Nat → rx_L → List Value → Option rx_H → Option Int64 := fun t ls st u => Bool.rec (motive := fun _ => Option Int64) (none) (n_X0_lacking_5 k5 ls st u) (Nat.beq t 5)
noncomputable def kk_X0_lacking_0 (F : Nat × Nat) : Nat → rx_L → List Value → Option rx_H → Option Int64 := fun t ls st u => Bool.rec (motive := fun _ => Option Int64) (none) (n_X0_lacking_5 (f_X0_lacking_5 F F.1) ls st u) (Nat.beq t 5)
set_option maxRecDepth 100000 in
theorem g_X0_lacking_5 (F : Nat × Nat) (f : Nat) (x2 : Int32) (x3 : Int64) (x5 : Int32) : f_X0_lacking_5 F (f + 1) x2 x3 x5 = rx_node (C_X0_lacking F) rx_rJ t_X0_lacking [5] (kk_X0_lacking_5 F (f_X0_lacking_5 F f)) 22 5 [none, none, some (.int x2), some (.long x3), none, some (.int x5)] [] none := rfl
set_option maxRecDepth 100000 in
theorem g_X0_lacking_0 (F : Nat × Nat) (x0 : Int64) (x2 : Int32) : f_X0_lacking_0 F x0 x2 = rx_node (C_X0_lacking F) rx_rJ t_X0_lacking [5] (kk_X0_lacking_0 F) 22 0 [some (.long x0), none, some (.int x2), none, none, none] [] none := rfl
def f_X0_cutTo_5 (F : Nat × Nat) : Nat → Int32 → Int64 → Int32 → Option Int64
  | 0, _, _, _ => none
  | f + 1, x2, x3, x5 =>
    if x5 < (6 : Int32) then
      if (x2 >>> (x5 &&& 31)) &&& (1 : Int32) = 0 then
        (f_X0_lackingThing F x3 x5).bind fun v1 =>
        (f_X0_lessThing F x3 x5).bind fun v2 =>
        (f_X0_cutTo_5 F f) x2 (v1 ||| v2) (x5 + 1)
      else
        (f_X0_cutTo_5 F f) x2 x3 (x5 + 1)
    else
      some x3
def f_X0_cutTo_0 (F : Nat × Nat) (x0 : Int64) (x2 : Int32) : Option Int64 :=
  f_X0_cutTo_5 F F.1 x2 x0 (0 : Int32)
def f_X0_cutTo (F : Nat × Nat) (x0 : Int64) (x2 : Int32) : Option Int64 := f_X0_cutTo_0 F x0 x2
def c_X0_cutTo {α : Type} (F : Nat × Nat) (as : List Value) (u : Option rx_H) (κ : rx_K α) : Option α := match as with
  | [.long a0, .int a1] => (f_X0_cutTo F a0 a1).bind fun r => κ (some (.long r)) u
  | _ => none
noncomputable def C_X0_cutTo {α : Type} (F : Nat × Nat) : rx_Cl α := fun j as u κ => Bool.rec (motive := fun _ => Option α) (Bool.rec (motive := fun _ => Option α) (none) (c_X0_lessThing F as u κ) (Nat.beq j 18)) (c_X0_lackingThing F as u κ) (Nat.beq j 16)
def t_X0_cutTo : List rx_E := [
  (0, .lload_n 0, 1, 0, 0, 0, 0, 0, []),
  (1, .lstore_n 3, 1, 0, 0, 0, 0, 0, []),
  (2, .iconst 0, 1, 0, 0, 0, 0, 0, []),
  (3, .istore 5, 2, 0, 0, 0, 0, 0, []),
  (5, .iload 5, 2, 0, 0, 0, 0, 0, []),
  (7, .bipush 6, 2, 0, 0, 0, 6, 0, []),
  (9, .if_icmp .ge 32, 3, 41, 0, 0, 0, 0, []),
  (12, .iload_n 2, 1, 0, 0, 0, 0, 0, []),
  (13, .iload 5, 2, 0, 0, 0, 0, 0, []),
  (15, .ishr, 1, 0, 0, 0, 0, 0, []),
  (16, .iconst 1, 1, 0, 0, 0, 1, 0, []),
  (17, .iand, 1, 0, 0, 0, 0, 0, []),
  (18, .ifCond .ne 17, 3, 35, 0, 0, 0, 0, []),
  (21, .lload_n 3, 1, 0, 0, 0, 0, 0, []),
  (22, .iload 5, 2, 0, 0, 0, 0, 0, []),
  (24, .invokestatic 41, 3, 16, 2, 366, 0, 0, []),
  (27, .lload_n 3, 1, 0, 0, 0, 0, 0, []),
  (28, .iload 5, 2, 0, 0, 0, 0, 0, []),
  (30, .invokestatic 34, 3, 18, 2, 316, 0, 0, []),
  (33, .lor, 1, 0, 0, 0, 0, 0, []),
  (34, .lstore_n 3, 1, 0, 0, 0, 0, 0, []),
  (35, .iinc 5 1, 3, 0, 0, 0, 1, 0, []),
  (38, .goto (-33), 3, 5, 0, 0, 0, 0, []),
  (41, .lload_n 3, 1, 0, 0, 0, 0, 0, []),
  (42, .lreturn, 1, 0, 0, 0, 0, 0, [])]
def n_X0_cutTo_5 (k5 : Int32 → Int64 → Int32 → Option Int64) (ls : rx_L) (st : List Value) (u : Option rx_H) : Option Int64 := match ls, st, u with
  | [_, _, some (.int x2), some (.long x3), _, some (.int x5)], [], none => k5 x2 x3 x5
  | _, _, _ => none
noncomputable def kk_X0_cutTo_5 (F : Nat × Nat) (k5 : Int32 → Int64 → Int32 → Option Int64) : Nat → rx_L → List Value → Option rx_H → Option Int64 := fun t ls st u => Bool.rec (motive := fun _ => Option Int64) (none) (n_X0_cutTo_5 k5 ls st u) (Nat.beq t 5)
noncomputable def kk_X0_cutTo_0 (F : Nat × Nat) : Nat → rx_L → List Value → Option rx_H → Option Int64 := fun t ls st u => Bool.rec (motive := fun _ => Option Int64) (none) (n_X0_cutTo_5 (f_X0_cutTo_5 F F.1) ls st u) (Nat.beq t 5)
set_option maxRecDepth 100000 in
theorem g_X0_cutTo_5 (F : Nat × Nat) (f : Nat) (x2 : Int32) (x3 : Int64) (x5 : Int32) : f_X0_cutTo_5 F (f + 1) x2 x3 x5 = rx_node (C_X0_cutTo F) rx_rJ t_X0_cutTo [5] (kk_X0_cutTo_5 F (f_X0_cutTo_5 F f)) 28 5 [none, none, some (.int x2), some (.long x3), none, some (.int x5)] [] none := rfl
set_option maxRecDepth 100000 in
theorem g_X0_cutTo_0 (F : Nat × Nat) (x0 : Int64) (x2 : Int32) : f_X0_cutTo_0 F x0 x2 = rx_node (C_X0_cutTo F) rx_rJ t_X0_cutTo [5] (kk_X0_cutTo_0 F) 28 0 [some (.long x0), none, some (.int x2), none, none, none] [] none := rfl
def f_X0_joinedTo_5 (F : Nat × Nat) : Nat → Int32 → Int64 → Int32 → Option Int64
  | 0, _, _, _ => none
  | f + 1, x2, x3, x5 =>
    if x5 < (6 : Int32) then
      if (x2 >>> (x5 &&& 31)) &&& (1 : Int32) = 0 then
        (f_X0_joinedTo_5 F f) x2 x3 (x5 + 1)
      else
        (rx_aJ none 1000001 x5).bind fun v1 =>
        (f_X0_moreThing F x3 x5).bind fun v2 =>
        (f_X0_joinedTo_5 F f) x2 ((x3 &&& (v1 ^^^ (-1 : Int64))) ||| v2) (x5 + 1)
    else
      some x3
def f_X0_joinedTo_0 (F : Nat × Nat) (x0 : Int64) (x2 : Int32) : Option Int64 :=
  f_X0_joinedTo_5 F F.1 x2 x0 (0 : Int32)
def f_X0_joinedTo (F : Nat × Nat) (x0 : Int64) (x2 : Int32) : Option Int64 := f_X0_joinedTo_0 F x0 x2
def c_X0_joinedTo {α : Type} (F : Nat × Nat) (as : List Value) (u : Option rx_H) (κ : rx_K α) : Option α := match as with
  | [.long a0, .int a1] => (f_X0_joinedTo F a0 a1).bind fun r => κ (some (.long r)) u
  | _ => none
noncomputable def C_X0_joinedTo {α : Type} (F : Nat × Nat) : rx_Cl α := fun j as u κ => Bool.rec (motive := fun _ => Option α) (none) (c_X0_moreThing F as u κ) (Nat.beq j 21)
def t_X0_joinedTo : List rx_E := [
  (0, .lload_n 0, 1, 0, 0, 0, 0, 0, []),
  (1, .lstore_n 3, 1, 0, 0, 0, 0, 0, []),
  (2, .iconst 0, 1, 0, 0, 0, 0, 0, []),
  (3, .istore 5, 2, 0, 0, 0, 0, 0, []),
  (5, .iload 5, 2, 0, 0, 0, 0, 0, []),
  (7, .bipush 6, 2, 0, 0, 0, 6, 0, []),
  (9, .if_icmp .ge 38, 3, 47, 0, 0, 0, 0, []),
  (12, .iload_n 2, 1, 0, 0, 0, 0, 0, []),
  (13, .iload 5, 2, 0, 0, 0, 0, 0, []),
  (15, .ishr, 1, 0, 0, 0, 0, 0, []),
  (16, .iconst 1, 1, 0, 0, 0, 1, 0, []),
  (17, .iand, 1, 0, 0, 0, 0, 0, []),
  (18, .ifCond .eq 23, 3, 41, 0, 0, 0, 0, []),
  (21, .lload_n 3, 1, 0, 0, 0, 0, 0, []),
  (22, .getstatic 30, 3, 1000001, 0, 319, 0, 0, []),
  (25, .iload 5, 2, 0, 0, 0, 0, 0, []),
  (27, .laload, 1, 0, 0, 0, 0, 0, []),
  (28, .ldc2_w 21, 3, 0, 0, 236, 0, (-1), []),
  (31, .lxor, 1, 0, 0, 0, 0, 0, []),
  (32, .land, 1, 0, 0, 0, 0, 0, []),
  (33, .lload_n 3, 1, 0, 0, 0, 0, 0, []),
  (34, .iload 5, 2, 0, 0, 0, 0, 0, []),
  (36, .invokestatic 38, 3, 21, 2, 332, 0, 0, []),
  (39, .lor, 1, 0, 0, 0, 0, 0, []),
  (40, .lstore_n 3, 1, 0, 0, 0, 0, 0, []),
  (41, .iinc 5 1, 3, 0, 0, 0, 1, 0, []),
  (44, .goto (-39), 3, 5, 0, 0, 0, 0, []),
  (47, .lload_n 3, 1, 0, 0, 0, 0, 0, []),
  (48, .lreturn, 1, 0, 0, 0, 0, 0, [])]
def n_X0_joinedTo_5 (k5 : Int32 → Int64 → Int32 → Option Int64) (ls : rx_L) (st : List Value) (u : Option rx_H) : Option Int64 := match ls, st, u with
  | [_, _, some (.int x2), some (.long x3), _, some (.int x5)], [], none => k5 x2 x3 x5
  | _, _, _ => none
noncomputable def kk_X0_joinedTo_5 (F : Nat × Nat) (k5 : Int32 → Int64 → Int32 → Option Int64) : Nat → rx_L → List Value → Option rx_H → Option Int64 := fun t ls st u => Bool.rec (motive := fun _ => Option Int64) (none) (n_X0_joinedTo_5 k5 ls st u) (Nat.beq t 5)
noncomputable def kk_X0_joinedTo_0 (F : Nat × Nat) : Nat → rx_L → List Value → Option rx_H → Option Int64 := fun t ls st u => Bool.rec (motive := fun _ => Option Int64) (none) (n_X0_joinedTo_5 (f_X0_joinedTo_5 F F.1) ls st u) (Nat.beq t 5)
set_option maxRecDepth 100000 in
theorem g_X0_joinedTo_5 (F : Nat × Nat) (f : Nat) (x2 : Int32) (x3 : Int64) (x5 : Int32) : f_X0_joinedTo_5 F (f + 1) x2 x3 x5 = rx_node (C_X0_joinedTo F) rx_rJ t_X0_joinedTo [5] (kk_X0_joinedTo_5 F (f_X0_joinedTo_5 F f)) 32 5 [none, none, some (.int x2), some (.long x3), none, some (.int x5)] [] none := rfl
set_option maxRecDepth 100000 in
theorem g_X0_joinedTo_0 (F : Nat × Nat) (x0 : Int64) (x2 : Int32) : f_X0_joinedTo_0 F x0 x2 = rx_node (C_X0_joinedTo F) rx_rJ t_X0_joinedTo [5] (kk_X0_joinedTo_0 F) 32 0 [some (.long x0), none, some (.int x2), none, none, none] [] none := rfl
def f_X0_mixedInPairs_39 (F : Nat × Nat) (k10 : Int64 → Int64 → Int32 → Int64 → Int32 → Option Int64) (x0 : Int64) (x2 : Int64) (x4 : Int32) (x7 : Int32) (s0 : Int64) (s1 : Int64) : Option Int64 :=
  (f_X0_next F x2 (x7 + (1 : Int32))).bind fun v1 =>
  k10 x0 x2 x4 (s0 ||| s1) v1
def f_X0_mixedInPairs_10 (F : Nat × Nat) : Nat → Int64 → Int64 → Int32 → Int64 → Int32 → Option Int64
  | 0, _, _, _, _, _ => none
  | f + 1, x0, x2, x4, x5, x7 =>
    if x7 < (64 : Int32) then
      if x4 = 0 then
        (f_X0_joinedTo F x0 x7).bind fun v1 =>
        f_X0_mixedInPairs_39 F (f_X0_mixedInPairs_10 F f) x0 x2 x4 x7 x5 v1
      else
        (f_X0_cutTo F x0 x7).bind fun v2 =>
        f_X0_mixedInPairs_39 F (f_X0_mixedInPairs_10 F f) x0 x2 x4 x7 x5 v2
    else
      some x5
def f_X0_mixedInPairs_0 (F : Nat × Nat) (x0 : Int64) (x2 : Int64) (x4 : Int32) : Option Int64 :=
  (f_X0_next F x2 (0 : Int32)).bind fun v1 =>
  f_X0_mixedInPairs_10 F F.1 x0 x2 x4 (0 : Int64) v1
def f_X0_mixedInPairs (F : Nat × Nat) (x0 : Int64) (x2 : Int64) (x4 : Int32) : Option Int64 := f_X0_mixedInPairs_0 F x0 x2 x4
def c_X0_mixedInPairs {α : Type} (F : Nat × Nat) (as : List Value) (u : Option rx_H) (κ : rx_K α) : Option α := match as with
  | [.long a0, .long a1, .int a2] => (f_X0_mixedInPairs F a0 a1 a2).bind fun r => κ (some (.long r)) u
  | _ => none
noncomputable def C_X0_mixedInPairs {α : Type} (F : Nat × Nat) : rx_Cl α := fun j as u κ => Bool.rec (motive := fun _ => Option α) (Bool.rec (motive := fun _ => Option α) (Bool.rec (motive := fun _ => Option α) (none) (c_X0_next F as u κ) (Nat.beq j 23)) (c_X0_joinedTo F as u κ) (Nat.beq j 14)) (c_X0_cutTo F as u κ) (Nat.beq j 12)
def t_X0_mixedInPairs : List rx_E := [
  (0, .lconst 0, 1, 0, 0, 0, 0, 0, []),
  (1, .lstore 5, 2, 0, 0, 0, 0, 0, []),
  (3, .lload_n 2, 1, 0, 0, 0, 0, 0, []),
  (4, .iconst 0, 1, 0, 0, 0, 0, 0, []),
  (5, .invokestatic 23, 3, 23, 2, 230, 0, 0, []),
  (8, .istore 7, 2, 0, 0, 0, 0, 0, []),
  (10, .iload 7, 2, 0, 0, 0, 0, 0, []),
  (12, .bipush 64, 2, 0, 0, 0, 64, 0, []),
  (14, .if_icmp .ge 41, 3, 55, 0, 0, 0, 0, []),
  (17, .lload 5, 2, 0, 0, 0, 0, 0, []),
  (19, .iload 4, 2, 0, 0, 0, 0, 0, []),
  (21, .ifCond .eq 12, 3, 33, 0, 0, 0, 0, []),
  (24, .lload_n 0, 1, 0, 0, 0, 0, 0, []),
  (25, .iload 7, 2, 0, 0, 0, 0, 0, []),
  (27, .invokestatic 48, 3, 12, 2, 363, 0, 0, []),
  (30, .goto 9, 3, 39, 0, 0, 0, 0, []),
  (33, .lload_n 0, 1, 0, 0, 0, 0, 0, []),
  (34, .iload 7, 2, 0, 0, 0, 0, 0, []),
  (36, .invokestatic 51, 3, 14, 2, 369, 0, 0, []),
  (39, .lor, 1, 0, 0, 0, 0, 0, []),
  (40, .lstore 5, 2, 0, 0, 0, 0, 0, []),
  (42, .lload_n 2, 1, 0, 0, 0, 0, 0, []),
  (43, .iload 7, 2, 0, 0, 0, 0, 0, []),
  (45, .iconst 1, 1, 0, 0, 0, 1, 0, []),
  (46, .iadd, 1, 0, 0, 0, 0, 0, []),
  (47, .invokestatic 23, 3, 23, 2, 230, 0, 0, []),
  (50, .istore 7, 2, 0, 0, 0, 0, 0, []),
  (52, .goto (-42), 3, 10, 0, 0, 0, 0, []),
  (55, .lload 5, 2, 0, 0, 0, 0, 0, []),
  (57, .lreturn, 1, 0, 0, 0, 0, 0, [])]
def n_X0_mixedInPairs_10 (k10 : Int64 → Int64 → Int32 → Int64 → Int32 → Option Int64) (ls : rx_L) (st : List Value) (u : Option rx_H) : Option Int64 := match ls, st, u with
  | [some (.long x0), _, some (.long x2), _, some (.int x4), some (.long x5), _, some (.int x7)], [], none => k10 x0 x2 x4 x5 x7
  | _, _, _ => none
def n_X0_mixedInPairs_39 (F : Nat × Nat) (k10 : Int64 → Int64 → Int32 → Int64 → Int32 → Option Int64) (ls : rx_L) (st : List Value) (u : Option rx_H) : Option Int64 := match ls, st, u with
  | [some (.long x0), _, some (.long x2), _, some (.int x4), _, _, some (.int x7)], [.long s1, .long s0], none => f_X0_mixedInPairs_39 F k10 x0 x2 x4 x7 s0 s1
  | _, _, _ => none
noncomputable def kk_X0_mixedInPairs_39 (F : Nat × Nat) (k10 : Int64 → Int64 → Int32 → Int64 → Int32 → Option Int64) : Nat → rx_L → List Value → Option rx_H → Option Int64 := fun t ls st u => Bool.rec (motive := fun _ => Option Int64) (none) (n_X0_mixedInPairs_10 k10 ls st u) (Nat.beq t 10)
noncomputable def kk_X0_mixedInPairs_10 (F : Nat × Nat) (k10 : Int64 → Int64 → Int32 → Int64 → Int32 → Option Int64) : Nat → rx_L → List Value → Option rx_H → Option Int64 := fun t ls st u => Bool.rec (motive := fun _ => Option Int64) (none) (n_X0_mixedInPairs_39 F k10 ls st u) (Nat.beq t 39)
noncomputable def kk_X0_mixedInPairs_0 (F : Nat × Nat) : Nat → rx_L → List Value → Option rx_H → Option Int64 := fun t ls st u => Bool.rec (motive := fun _ => Option Int64) (none) (n_X0_mixedInPairs_10 (f_X0_mixedInPairs_10 F F.1) ls st u) (Nat.beq t 10)
set_option maxRecDepth 100000 in
theorem g_X0_mixedInPairs_39 (F : Nat × Nat) (k10 : Int64 → Int64 → Int32 → Int64 → Int32 → Option Int64) (x0 : Int64) (x2 : Int64) (x4 : Int32) (x7 : Int32) (s0 : Int64) (s1 : Int64) : f_X0_mixedInPairs_39 F k10 x0 x2 x4 x7 s0 s1 = rx_node (C_X0_mixedInPairs F) rx_rJ t_X0_mixedInPairs [10, 39] (kk_X0_mixedInPairs_39 F k10) 33 39 [some (.long x0), none, some (.long x2), none, some (.int x4), none, none, some (.int x7)] [.long s1, .long s0] none := rfl
set_option maxRecDepth 100000 in
theorem g_X0_mixedInPairs_10 (F : Nat × Nat) (f : Nat) (x0 : Int64) (x2 : Int64) (x4 : Int32) (x5 : Int64) (x7 : Int32) : f_X0_mixedInPairs_10 F (f + 1) x0 x2 x4 x5 x7 = rx_node (C_X0_mixedInPairs F) rx_rJ t_X0_mixedInPairs [10, 39] (kk_X0_mixedInPairs_10 F (f_X0_mixedInPairs_10 F f)) 33 10 [some (.long x0), none, some (.long x2), none, some (.int x4), some (.long x5), none, some (.int x7)] [] none := rfl
set_option maxRecDepth 100000 in
theorem g_X0_mixedInPairs_0 (F : Nat × Nat) (x0 : Int64) (x2 : Int64) (x4 : Int32) : f_X0_mixedInPairs_0 F x0 x2 x4 = rx_node (C_X0_mixedInPairs F) rx_rJ t_X0_mixedInPairs [10, 39] (kk_X0_mixedInPairs_0 F) 33 0 [some (.long x0), none, some (.long x2), none, some (.int x4), none, none, none] [] none := rfl
def f_X0_mixed_65 (F : Nat × Nat) (s0 : Int64) (s1 : Int64) (s2 : Int32) : Option Int64 :=
  (f_X0_mixedInPairs F s0 s1 s2).bind fun v1 =>
  some v1
def f_X0_mixed_0 (F : Nat × Nat) (x0 : Int64) (x2 : Int64) (x4 : Int32) : Option Int64 :=
  if x4 = 0 then
    some (x0 &&& x2)
  else if x4 = 1 then
    some (x0 ||| x2)
  else if x4 = 2 then
    some (x0 &&& (x2 ^^^ (-1 : Int64)))
  else if x4 = 3 then
    some (x0 ^^^ x2)
  else 
    if x4 = (4 : Int32) then
      f_X0_mixed_65 F x0 x2 (1 : Int32)
    else
      f_X0_mixed_65 F x0 x2 (0 : Int32)
def f_X0_mixed (F : Nat × Nat) (x0 : Int64) (x2 : Int64) (x4 : Int32) : Option Int64 := f_X0_mixed_0 F x0 x2 x4
def c_X0_mixed {α : Type} (F : Nat × Nat) (as : List Value) (u : Option rx_H) (κ : rx_K α) : Option α := match as with
  | [.long a0, .long a1, .int a2] => (f_X0_mixed F a0 a1 a2).bind fun r => κ (some (.long r)) u
  | _ => none
noncomputable def C_X0_mixed {α : Type} (F : Nat × Nat) : rx_Cl α := fun j as u κ => Bool.rec (motive := fun _ => Option α) (none) (c_X0_mixedInPairs F as u κ) (Nat.beq j 20)
def t_X0_mixed : List rx_E := [
  (0, .iload 4, 2, 0, 0, 0, 0, 0, []),
  (2, .tableswitch 50 0 3 #[30, 34, 38, 46], 30, 52, 0, 0, 0, 0, [(0, 32), (1, 36), (2, 40), (3, 48)]),
  (32, .lload_n 0, 1, 0, 0, 0, 0, 0, []),
  (33, .lload_n 2, 1, 0, 0, 0, 0, 0, []),
  (34, .land, 1, 0, 0, 0, 0, 0, []),
  (35, .lreturn, 1, 0, 0, 0, 0, 0, []),
  (36, .lload_n 0, 1, 0, 0, 0, 0, 0, []),
  (37, .lload_n 2, 1, 0, 0, 0, 0, 0, []),
  (38, .lor, 1, 0, 0, 0, 0, 0, []),
  (39, .lreturn, 1, 0, 0, 0, 0, 0, []),
  (40, .lload_n 0, 1, 0, 0, 0, 0, 0, []),
  (41, .lload_n 2, 1, 0, 0, 0, 0, 0, []),
  (42, .ldc2_w 21, 3, 0, 0, 236, 0, (-1), []),
  (45, .lxor, 1, 0, 0, 0, 0, 0, []),
  (46, .land, 1, 0, 0, 0, 0, 0, []),
  (47, .lreturn, 1, 0, 0, 0, 0, 0, []),
  (48, .lload_n 0, 1, 0, 0, 0, 0, 0, []),
  (49, .lload_n 2, 1, 0, 0, 0, 0, 0, []),
  (50, .lxor, 1, 0, 0, 0, 0, 0, []),
  (51, .lreturn, 1, 0, 0, 0, 0, 0, []),
  (52, .lload_n 0, 1, 0, 0, 0, 0, 0, []),
  (53, .lload_n 2, 1, 0, 0, 0, 0, 0, []),
  (54, .iload 4, 2, 0, 0, 0, 0, 0, []),
  (56, .iconst 4, 1, 0, 0, 0, 4, 0, []),
  (57, .if_icmp .ne 7, 3, 64, 0, 0, 0, 0, []),
  (60, .iconst 1, 1, 0, 0, 0, 1, 0, []),
  (61, .goto 4, 3, 65, 0, 0, 0, 0, []),
  (64, .iconst 0, 1, 0, 0, 0, 0, 0, []),
  (65, .invokestatic 44, 3, 20, 3, 360, 0, 0, []),
  (68, .lreturn, 1, 0, 0, 0, 0, 0, [])]
def n_X0_mixed_65 (F : Nat × Nat) (ls : rx_L) (st : List Value) (u : Option rx_H) : Option Int64 := match ls, st, u with
  | [_, _, _, _, _], [.int s2, .long s1, .long s0], none => f_X0_mixed_65 F s0 s1 s2
  | _, _, _ => none
noncomputable def kk_X0_mixed_65 (F : Nat × Nat) : Nat → rx_L → List Value → Option rx_H → Option Int64 := fun t ls st u => none
noncomputable def kk_X0_mixed_0 (F : Nat × Nat) : Nat → rx_L → List Value → Option rx_H → Option Int64 := fun t ls st u => Bool.rec (motive := fun _ => Option Int64) (none) (n_X0_mixed_65 F ls st u) (Nat.beq t 65)
set_option maxRecDepth 100000 in
theorem g_X0_mixed_65 (F : Nat × Nat) (s0 : Int64) (s1 : Int64) (s2 : Int32) : f_X0_mixed_65 F s0 s1 s2 = rx_node (C_X0_mixed F) rx_rJ t_X0_mixed [65] (kk_X0_mixed_65 F) 33 65 [none, none, none, none, none] [.int s2, .long s1, .long s0] none := rfl
set_option maxRecDepth 100000 in
theorem g_X0_mixed_0 (F : Nat × Nat) (x0 : Int64) (x2 : Int64) (x4 : Int32) : f_X0_mixed_0 F x0 x2 x4 = rx_node (C_X0_mixed F) rx_rJ t_X0_mixed [65] (kk_X0_mixed_0 F) 33 0 [some (.long x0), none, some (.long x2), none, some (.int x4)] [] none := rfl
def f_X0_shatters_0 (F : Nat × Nat) (x0 : Int64) (x2 : Int32) : Option Int32 :=
  (f_X0_cutTo F x0 x2).bind fun v1 =>
  (f_X0_within F x2).bind fun v2 =>
  if v1 = v2 then
    some (1 : Int32)
  else
    some (0 : Int32)
def f_X0_shatters (F : Nat × Nat) (x0 : Int64) (x2 : Int32) : Option Int32 := f_X0_shatters_0 F x0 x2
def c_X0_shatters {α : Type} (F : Nat × Nat) (as : List Value) (u : Option rx_H) (κ : rx_K α) : Option α := match as with
  | [.long a0, .int a1] => (f_X0_shatters F a0 a1).bind fun r => κ (some (.int r)) u
  | _ => none
noncomputable def C_X0_shatters {α : Type} (F : Nat × Nat) : rx_Cl α := fun j as u κ => Bool.rec (motive := fun _ => Option α) (Bool.rec (motive := fun _ => Option α) (none) (c_X0_within F as u κ) (Nat.beq j 30)) (c_X0_cutTo F as u κ) (Nat.beq j 12)
def t_X0_shatters : List rx_E := [
  (0, .lload_n 0, 1, 0, 0, 0, 0, 0, []),
  (1, .iload_n 2, 1, 0, 0, 0, 0, 0, []),
  (2, .invokestatic 48, 3, 12, 2, 363, 0, 0, []),
  (5, .iload_n 2, 1, 0, 0, 0, 0, 0, []),
  (6, .invokestatic 27, 3, 30, 1, 226, 0, 0, []),
  (9, .lcmp, 1, 0, 0, 0, 0, 0, []),
  (10, .ifCond .ne 7, 3, 17, 0, 0, 0, 0, []),
  (13, .iconst 1, 1, 0, 0, 0, 1, 0, []),
  (14, .goto 4, 3, 18, 0, 0, 0, 0, []),
  (17, .iconst 0, 1, 0, 0, 0, 0, 0, []),
  (18, .ireturn, 1, 0, 2, 0, 0, 0, [])]
noncomputable def kk_X0_shatters_0 (F : Nat × Nat) : Nat → rx_L → List Value → Option rx_H → Option Int32 := fun t ls st u => none
set_option maxRecDepth 100000 in
theorem g_X0_shatters_0 (F : Nat × Nat) (x0 : Int64) (x2 : Int32) : f_X0_shatters_0 F x0 x2 = rx_node (C_X0_shatters F) rx_rI t_X0_shatters [] (kk_X0_shatters_0 F) 14 0 [some (.long x0), none, some (.int x2)] [] none := rfl
def f_X0_moved_0 (F : Nat × Nat) (x0 : Int64) (x2 : Int32) (x3 : Int32) : Option Int64 :=
  (rx_aJ none 1000001 x2).bind fun v1 =>
  (rx_aJ none 1000001 x3).bind fun v2 =>
  (f_X0_lessThing F ((x0 &&& (v1 ^^^ (-1 : Int64))) &&& v2) x2).bind fun v3 =>
  (f_X0_moreThing F v3 x3).bind fun v4 =>
  (f_X0_lessThing F (v4 &&& (x0 ^^^ (-1 : Int64))) x3).bind fun v5 =>
  (f_X0_moreThing F v5 x2).bind fun v6 =>
  some ((x0 &&& (v6 ^^^ (-1 : Int64))) ||| (v4 &&& (x0 ^^^ (-1 : Int64))))
def f_X0_moved (F : Nat × Nat) (x0 : Int64) (x2 : Int32) (x3 : Int32) : Option Int64 := f_X0_moved_0 F x0 x2 x3
def c_X0_moved {α : Type} (F : Nat × Nat) (as : List Value) (u : Option rx_H) (κ : rx_K α) : Option α := match as with
  | [.long a0, .int a1, .int a2] => (f_X0_moved F a0 a1 a2).bind fun r => κ (some (.long r)) u
  | _ => none
noncomputable def C_X0_moved {α : Type} (F : Nat × Nat) : rx_Cl α := fun j as u κ => Bool.rec (motive := fun _ => Option α) (Bool.rec (motive := fun _ => Option α) (none) (c_X0_moreThing F as u κ) (Nat.beq j 21)) (c_X0_lessThing F as u κ) (Nat.beq j 18)
def t_X0_moved : List rx_E := [
  (0, .lload_n 0, 1, 0, 0, 0, 0, 0, []),
  (1, .getstatic 30, 3, 1000001, 0, 319, 0, 0, []),
  (4, .iload_n 2, 1, 0, 0, 0, 0, 0, []),
  (5, .laload, 1, 0, 0, 0, 0, 0, []),
  (6, .ldc2_w 21, 3, 0, 0, 236, 0, (-1), []),
  (9, .lxor, 1, 0, 0, 0, 0, 0, []),
  (10, .land, 1, 0, 0, 0, 0, 0, []),
  (11, .getstatic 30, 3, 1000001, 0, 319, 0, 0, []),
  (14, .iload_n 3, 1, 0, 0, 0, 0, 0, []),
  (15, .laload, 1, 0, 0, 0, 0, 0, []),
  (16, .land, 1, 0, 0, 0, 0, 0, []),
  (17, .lstore 4, 2, 0, 0, 0, 0, 0, []),
  (19, .lload 4, 2, 0, 0, 0, 0, 0, []),
  (21, .iload_n 2, 1, 0, 0, 0, 0, 0, []),
  (22, .invokestatic 34, 3, 18, 2, 316, 0, 0, []),
  (25, .iload_n 3, 1, 0, 0, 0, 0, 0, []),
  (26, .invokestatic 38, 3, 21, 2, 332, 0, 0, []),
  (29, .lload_n 0, 1, 0, 0, 0, 0, 0, []),
  (30, .ldc2_w 21, 3, 0, 0, 236, 0, (-1), []),
  (33, .lxor, 1, 0, 0, 0, 0, 0, []),
  (34, .land, 1, 0, 0, 0, 0, 0, []),
  (35, .lstore 6, 2, 0, 0, 0, 0, 0, []),
  (37, .lload 6, 2, 0, 0, 0, 0, 0, []),
  (39, .iload_n 3, 1, 0, 0, 0, 0, 0, []),
  (40, .invokestatic 34, 3, 18, 2, 316, 0, 0, []),
  (43, .iload_n 2, 1, 0, 0, 0, 0, 0, []),
  (44, .invokestatic 38, 3, 21, 2, 332, 0, 0, []),
  (47, .lstore 8, 2, 0, 0, 0, 0, 0, []),
  (49, .lload_n 0, 1, 0, 0, 0, 0, 0, []),
  (50, .lload 8, 2, 0, 0, 0, 0, 0, []),
  (52, .ldc2_w 21, 3, 0, 0, 236, 0, (-1), []),
  (55, .lxor, 1, 0, 0, 0, 0, 0, []),
  (56, .land, 1, 0, 0, 0, 0, 0, []),
  (57, .lload 6, 2, 0, 0, 0, 0, 0, []),
  (59, .lor, 1, 0, 0, 0, 0, 0, []),
  (60, .lreturn, 1, 0, 0, 0, 0, 0, [])]
noncomputable def kk_X0_moved_0 (F : Nat × Nat) : Nat → rx_L → List Value → Option rx_H → Option Int64 := fun t ls st u => none
set_option maxRecDepth 100000 in
theorem g_X0_moved_0 (F : Nat × Nat) (x0 : Int64) (x2 : Int32) (x3 : Int32) : f_X0_moved_0 F x0 x2 x3 = rx_node (C_X0_moved F) rx_rJ t_X0_moved [] (kk_X0_moved_0 F) 39 0 [some (.long x0), none, some (.int x2), some (.int x3), none, none, none, none, none, none] [] none := rfl
def f_X0_swapped_0 (F : Nat × Nat) (x0 : Int64) (x2 : Int32) (x3 : Int32) : Option Int64 :=
  if x2 = x3 then
    some x0
  else
    (rx_aJ none 1000001 x2).bind fun v1 =>
    (rx_aJ none 1000001 x3).bind fun v2 =>
    (rx_aJ none 1000001 x2).bind fun v3 =>
    (rx_aJ none 1000001 x3).bind fun v4 =>
    (f_X0_lessThing F ((x0 &&& (v1 ^^^ (-1 : Int64))) &&& v2) x2).bind fun v5 =>
    (f_X0_moreThing F v5 x3).bind fun v6 =>
    (f_X0_lessThing F ((x0 &&& v3) &&& (v4 ^^^ (-1 : Int64))) x3).bind fun v7 =>
    (f_X0_moreThing F v7 x2).bind fun v8 =>
    some ((((x0 &&& (((x0 &&& (v1 ^^^ (-1 : Int64))) &&& v2) ^^^ (-1 : Int64))) &&& (((x0 &&& v3) &&& (v4 ^^^ (-1 : Int64))) ^^^ (-1 : Int64))) ||| v6) ||| v8)
def f_X0_swapped (F : Nat × Nat) (x0 : Int64) (x2 : Int32) (x3 : Int32) : Option Int64 := f_X0_swapped_0 F x0 x2 x3
def c_X0_swapped {α : Type} (F : Nat × Nat) (as : List Value) (u : Option rx_H) (κ : rx_K α) : Option α := match as with
  | [.long a0, .int a1, .int a2] => (f_X0_swapped F a0 a1 a2).bind fun r => κ (some (.long r)) u
  | _ => none
noncomputable def C_X0_swapped {α : Type} (F : Nat × Nat) : rx_Cl α := fun j as u κ => Bool.rec (motive := fun _ => Option α) (Bool.rec (motive := fun _ => Option α) (none) (c_X0_moreThing F as u κ) (Nat.beq j 21)) (c_X0_lessThing F as u κ) (Nat.beq j 18)
def t_X0_swapped : List rx_E := [
  (0, .iload_n 2, 1, 0, 0, 0, 0, 0, []),
  (1, .iload_n 3, 1, 0, 0, 0, 0, 0, []),
  (2, .if_icmp .ne 5, 3, 7, 0, 0, 0, 0, []),
  (5, .lload_n 0, 1, 0, 0, 0, 0, 0, []),
  (6, .lreturn, 1, 0, 0, 0, 0, 0, []),
  (7, .lload_n 0, 1, 0, 0, 0, 0, 0, []),
  (8, .getstatic 30, 3, 1000001, 0, 319, 0, 0, []),
  (11, .iload_n 2, 1, 0, 0, 0, 0, 0, []),
  (12, .laload, 1, 0, 0, 0, 0, 0, []),
  (13, .ldc2_w 21, 3, 0, 0, 236, 0, (-1), []),
  (16, .lxor, 1, 0, 0, 0, 0, 0, []),
  (17, .land, 1, 0, 0, 0, 0, 0, []),
  (18, .getstatic 30, 3, 1000001, 0, 319, 0, 0, []),
  (21, .iload_n 3, 1, 0, 0, 0, 0, 0, []),
  (22, .laload, 1, 0, 0, 0, 0, 0, []),
  (23, .land, 1, 0, 0, 0, 0, 0, []),
  (24, .lstore 4, 2, 0, 0, 0, 0, 0, []),
  (26, .lload_n 0, 1, 0, 0, 0, 0, 0, []),
  (27, .getstatic 30, 3, 1000001, 0, 319, 0, 0, []),
  (30, .iload_n 2, 1, 0, 0, 0, 0, 0, []),
  (31, .laload, 1, 0, 0, 0, 0, 0, []),
  (32, .land, 1, 0, 0, 0, 0, 0, []),
  (33, .getstatic 30, 3, 1000001, 0, 319, 0, 0, []),
  (36, .iload_n 3, 1, 0, 0, 0, 0, 0, []),
  (37, .laload, 1, 0, 0, 0, 0, 0, []),
  (38, .ldc2_w 21, 3, 0, 0, 236, 0, (-1), []),
  (41, .lxor, 1, 0, 0, 0, 0, 0, []),
  (42, .land, 1, 0, 0, 0, 0, 0, []),
  (43, .lstore 6, 2, 0, 0, 0, 0, 0, []),
  (45, .lload_n 0, 1, 0, 0, 0, 0, 0, []),
  (46, .lload 4, 2, 0, 0, 0, 0, 0, []),
  (48, .ldc2_w 21, 3, 0, 0, 236, 0, (-1), []),
  (51, .lxor, 1, 0, 0, 0, 0, 0, []),
  (52, .land, 1, 0, 0, 0, 0, 0, []),
  (53, .lload 6, 2, 0, 0, 0, 0, 0, []),
  (55, .ldc2_w 21, 3, 0, 0, 236, 0, (-1), []),
  (58, .lxor, 1, 0, 0, 0, 0, 0, []),
  (59, .land, 1, 0, 0, 0, 0, 0, []),
  (60, .lstore 8, 2, 0, 0, 0, 0, 0, []),
  (62, .lload 8, 2, 0, 0, 0, 0, 0, []),
  (64, .lload 4, 2, 0, 0, 0, 0, 0, []),
  (66, .iload_n 2, 1, 0, 0, 0, 0, 0, []),
  (67, .invokestatic 34, 3, 18, 2, 316, 0, 0, []),
  (70, .iload_n 3, 1, 0, 0, 0, 0, 0, []),
  (71, .invokestatic 38, 3, 21, 2, 332, 0, 0, []),
  (74, .lor, 1, 0, 0, 0, 0, 0, []),
  (75, .lload 6, 2, 0, 0, 0, 0, 0, []),
  (77, .iload_n 3, 1, 0, 0, 0, 0, 0, []),
  (78, .invokestatic 34, 3, 18, 2, 316, 0, 0, []),
  (81, .iload_n 2, 1, 0, 0, 0, 0, 0, []),
  (82, .invokestatic 38, 3, 21, 2, 332, 0, 0, []),
  (85, .lor, 1, 0, 0, 0, 0, 0, []),
  (86, .lreturn, 1, 0, 0, 0, 0, 0, [])]
noncomputable def kk_X0_swapped_0 (F : Nat × Nat) : Nat → rx_L → List Value → Option rx_H → Option Int64 := fun t ls st u => none
set_option maxRecDepth 100000 in
theorem g_X0_swapped_0 (F : Nat × Nat) (x0 : Int64) (x2 : Int32) (x3 : Int32) : f_X0_swapped_0 F x0 x2 x3 = rx_node (C_X0_swapped F) rx_rJ t_X0_swapped [] (kk_X0_swapped_0 F) 56 0 [some (.long x0), none, some (.int x2), some (.int x3), none, none, none, none, none, none] [] none := rfl
def f_X1_hasNumber_0 (F : Nat × Nat) (x0 : Int32) : Option Int32 :=
  if x0 = (2 : Int32) then
    some (1 : Int32)
  else
    if x0 = (4 : Int32) then
      some (1 : Int32)
    else
      if x0 = (5 : Int32) then
        some (1 : Int32)
      else
        some (0 : Int32)
def f_X1_hasNumber (F : Nat × Nat) (x0 : Int32) : Option Int32 := f_X1_hasNumber_0 F x0
def c_X1_hasNumber {α : Type} (F : Nat × Nat) (as : List Value) (u : Option rx_H) (κ : rx_K α) : Option α := match as with
  | [.int a0] => (f_X1_hasNumber F a0).bind fun r => κ (some (.int r)) u
  | _ => none
noncomputable def C_X1_hasNumber {α : Type} (F : Nat × Nat) : rx_Cl α := fun j as u κ => none
def t_X1_hasNumber : List rx_E := [
  (0, .iload_n 0, 1, 0, 0, 0, 0, 0, []),
  (1, .iconst 2, 1, 0, 0, 0, 2, 0, []),
  (2, .if_icmp .eq 13, 3, 15, 0, 0, 0, 0, []),
  (5, .iload_n 0, 1, 0, 0, 0, 0, 0, []),
  (6, .iconst 4, 1, 0, 0, 0, 4, 0, []),
  (7, .if_icmp .eq 8, 3, 15, 0, 0, 0, 0, []),
  (10, .iload_n 0, 1, 0, 0, 0, 0, 0, []),
  (11, .iconst 5, 1, 0, 0, 0, 5, 0, []),
  (12, .if_icmp .ne 7, 3, 19, 0, 0, 0, 0, []),
  (15, .iconst 1, 1, 0, 0, 0, 1, 0, []),
  (16, .goto 4, 3, 20, 0, 0, 0, 0, []),
  (19, .iconst 0, 1, 0, 0, 0, 0, 0, []),
  (20, .ireturn, 1, 0, 2, 0, 0, 0, [])]
noncomputable def kk_X1_hasNumber_0 (F : Nat × Nat) : Nat → rx_L → List Value → Option rx_H → Option Int32 := fun t ls st u => none
set_option maxRecDepth 100000 in
theorem g_X1_hasNumber_0 (F : Nat × Nat) (x0 : Int32) : f_X1_hasNumber_0 F x0 = rx_node (C_X1_hasNumber F) rx_rI t_X1_hasNumber [] (kk_X1_hasNumber_0 F) 16 0 [some (.int x0)] [] none := rfl
def f_J6_bitCount_0f7a4_48 (F : Nat × Nat) (x0 : Int32) : Option Int32 :=
  some (x0 &&& (63 : Int32))
def f_J6_bitCount_0f7a4_41 (F : Nat × Nat) (x0 : Int32) : Option Int32 :=
  f_J6_bitCount_0f7a4_48 F (x0 + ((Int32.toUInt32 x0 >>> (Int32.toUInt32 (16 : Int32) &&& Int32.toUInt32 31)).toInt32))
def f_J6_bitCount_0f7a4_34 (F : Nat × Nat) (x0 : Int32) : Option Int32 :=
  f_J6_bitCount_0f7a4_41 F (x0 + ((Int32.toUInt32 x0 >>> (Int32.toUInt32 (8 : Int32) &&& Int32.toUInt32 31)).toInt32))
def f_J6_bitCount_0f7a4_24 (F : Nat × Nat) (x0 : Int32) : Option Int32 :=
  f_J6_bitCount_0f7a4_34 F ((x0 + ((Int32.toUInt32 x0 >>> (Int32.toUInt32 (4 : Int32) &&& Int32.toUInt32 31)).toInt32)) &&& (252645135 : Int32))
def f_J6_bitCount_0f7a4_10 (F : Nat × Nat) (x0 : Int32) : Option Int32 :=
  f_J6_bitCount_0f7a4_24 F ((x0 &&& (858993459 : Int32)) + (((Int32.toUInt32 x0 >>> (Int32.toUInt32 (2 : Int32) &&& Int32.toUInt32 31)).toInt32) &&& (858993459 : Int32)))
def f_J6_bitCount_0f7a4_0 (F : Nat × Nat) (x0 : Int32) : Option Int32 :=
  f_J6_bitCount_0f7a4_10 F (x0 - (((Int32.toUInt32 x0 >>> (Int32.toUInt32 (1 : Int32) &&& Int32.toUInt32 31)).toInt32) &&& (1431655765 : Int32)))
def f_J6_bitCount_0f7a4 (F : Nat × Nat) (x0 : Int32) : Option Int32 := f_J6_bitCount_0f7a4_0 F x0
def c_J6_bitCount_0f7a4 {α : Type} (F : Nat × Nat) (as : List Value) (u : Option rx_H) (κ : rx_K α) : Option α := match as with
  | [.int a0] => (f_J6_bitCount_0f7a4 F a0).bind fun r => κ (some (.int r)) u
  | _ => none
noncomputable def C_J6_bitCount_0f7a4 {α : Type} (F : Nat × Nat) : rx_Cl α := fun j as u κ => none
def t_J6_bitCount_0f7a4 : List rx_E := [
  (0, .iload_n 0, 1, 0, 0, 0, 0, 0, []),
  (1, .iload_n 0, 1, 0, 0, 0, 0, 0, []),
  (2, .iconst 1, 1, 0, 0, 0, 1, 0, []),
  (3, .iushr, 1, 0, 0, 0, 0, 0, []),
  (4, .ldc_w 265, 3, 0, 0, 109, 1431655765, 0, []),
  (7, .iand, 1, 0, 0, 0, 0, 0, []),
  (8, .isub, 1, 0, 0, 0, 0, 0, []),
  (9, .istore_n 0, 1, 0, 0, 0, 0, 0, []),
  (10, .iload_n 0, 1, 0, 0, 0, 0, 0, []),
  (11, .ldc_w 266, 3, 0, 0, 110, 858993459, 0, []),
  (14, .iand, 1, 0, 0, 0, 0, 0, []),
  (15, .iload_n 0, 1, 0, 0, 0, 0, 0, []),
  (16, .iconst 2, 1, 0, 0, 0, 2, 0, []),
  (17, .iushr, 1, 0, 0, 0, 0, 0, []),
  (18, .ldc_w 266, 3, 0, 0, 110, 858993459, 0, []),
  (21, .iand, 1, 0, 0, 0, 0, 0, []),
  (22, .iadd, 1, 0, 0, 0, 0, 0, []),
  (23, .istore_n 0, 1, 0, 0, 0, 0, 0, []),
  (24, .iload_n 0, 1, 0, 0, 0, 0, 0, []),
  (25, .iload_n 0, 1, 0, 0, 0, 0, 0, []),
  (26, .iconst 4, 1, 0, 0, 0, 4, 0, []),
  (27, .iushr, 1, 0, 0, 0, 0, 0, []),
  (28, .iadd, 1, 0, 0, 0, 0, 0, []),
  (29, .ldc_w 267, 3, 0, 0, 111, 252645135, 0, []),
  (32, .iand, 1, 0, 0, 0, 0, 0, []),
  (33, .istore_n 0, 1, 0, 0, 0, 0, 0, []),
  (34, .iload_n 0, 1, 0, 0, 0, 0, 0, []),
  (35, .iload_n 0, 1, 0, 0, 0, 0, 0, []),
  (36, .bipush 8, 2, 0, 0, 0, 8, 0, []),
  (38, .iushr, 1, 0, 0, 0, 0, 0, []),
  (39, .iadd, 1, 0, 0, 0, 0, 0, []),
  (40, .istore_n 0, 1, 0, 0, 0, 0, 0, []),
  (41, .iload_n 0, 1, 0, 0, 0, 0, 0, []),
  (42, .iload_n 0, 1, 0, 0, 0, 0, 0, []),
  (43, .bipush 16, 2, 0, 0, 0, 16, 0, []),
  (45, .iushr, 1, 0, 0, 0, 0, 0, []),
  (46, .iadd, 1, 0, 0, 0, 0, 0, []),
  (47, .istore_n 0, 1, 0, 0, 0, 0, 0, []),
  (48, .iload_n 0, 1, 0, 0, 0, 0, 0, []),
  (49, .bipush 63, 2, 0, 0, 0, 63, 0, []),
  (51, .iand, 1, 0, 0, 0, 0, 0, []),
  (52, .ireturn, 1, 0, 0, 0, 0, 0, [])]
def n_J6_bitCount_0f7a4_10 (F : Nat × Nat) (ls : rx_L) (st : List Value) (u : Option rx_H) : Option Int32 := match ls, st, u with
  | [some (.int x0)], [], none => f_J6_bitCount_0f7a4_10 F x0
  | _, _, _ => none
def n_J6_bitCount_0f7a4_24 (F : Nat × Nat) (ls : rx_L) (st : List Value) (u : Option rx_H) : Option Int32 := match ls, st, u with
  | [some (.int x0)], [], none => f_J6_bitCount_0f7a4_24 F x0
  | _, _, _ => none
def n_J6_bitCount_0f7a4_34 (F : Nat × Nat) (ls : rx_L) (st : List Value) (u : Option rx_H) : Option Int32 := match ls, st, u with
  | [some (.int x0)], [], none => f_J6_bitCount_0f7a4_34 F x0
  | _, _, _ => none
def n_J6_bitCount_0f7a4_41 (F : Nat × Nat) (ls : rx_L) (st : List Value) (u : Option rx_H) : Option Int32 := match ls, st, u with
  | [some (.int x0)], [], none => f_J6_bitCount_0f7a4_41 F x0
  | _, _, _ => none
def n_J6_bitCount_0f7a4_48 (F : Nat × Nat) (ls : rx_L) (st : List Value) (u : Option rx_H) : Option Int32 := match ls, st, u with
  | [some (.int x0)], [], none => f_J6_bitCount_0f7a4_48 F x0
  | _, _, _ => none
noncomputable def kk_J6_bitCount_0f7a4_48 (F : Nat × Nat) : Nat → rx_L → List Value → Option rx_H → Option Int32 := fun t ls st u => none
noncomputable def kk_J6_bitCount_0f7a4_41 (F : Nat × Nat) : Nat → rx_L → List Value → Option rx_H → Option Int32 := fun t ls st u => Bool.rec (motive := fun _ => Option Int32) (none) (n_J6_bitCount_0f7a4_48 F ls st u) (Nat.beq t 48)
noncomputable def kk_J6_bitCount_0f7a4_34 (F : Nat × Nat) : Nat → rx_L → List Value → Option rx_H → Option Int32 := fun t ls st u => Bool.rec (motive := fun _ => Option Int32) (none) (n_J6_bitCount_0f7a4_41 F ls st u) (Nat.beq t 41)
noncomputable def kk_J6_bitCount_0f7a4_24 (F : Nat × Nat) : Nat → rx_L → List Value → Option rx_H → Option Int32 := fun t ls st u => Bool.rec (motive := fun _ => Option Int32) (none) (n_J6_bitCount_0f7a4_34 F ls st u) (Nat.beq t 34)
noncomputable def kk_J6_bitCount_0f7a4_10 (F : Nat × Nat) : Nat → rx_L → List Value → Option rx_H → Option Int32 := fun t ls st u => Bool.rec (motive := fun _ => Option Int32) (none) (n_J6_bitCount_0f7a4_24 F ls st u) (Nat.beq t 24)
noncomputable def kk_J6_bitCount_0f7a4_0 (F : Nat × Nat) : Nat → rx_L → List Value → Option rx_H → Option Int32 := fun t ls st u => Bool.rec (motive := fun _ => Option Int32) (none) (n_J6_bitCount_0f7a4_10 F ls st u) (Nat.beq t 10)
set_option maxRecDepth 100000 in
theorem g_J6_bitCount_0f7a4_48 (F : Nat × Nat) (x0 : Int32) : f_J6_bitCount_0f7a4_48 F x0 = rx_node (C_J6_bitCount_0f7a4 F) rx_rI t_J6_bitCount_0f7a4 [10, 24, 34, 41, 48] (kk_J6_bitCount_0f7a4_48 F) 45 48 [some (.int x0)] [] none := rfl
set_option maxRecDepth 100000 in
theorem g_J6_bitCount_0f7a4_41 (F : Nat × Nat) (x0 : Int32) : f_J6_bitCount_0f7a4_41 F x0 = rx_node (C_J6_bitCount_0f7a4 F) rx_rI t_J6_bitCount_0f7a4 [10, 24, 34, 41, 48] (kk_J6_bitCount_0f7a4_41 F) 45 41 [some (.int x0)] [] none := rfl
set_option maxRecDepth 100000 in
theorem g_J6_bitCount_0f7a4_34 (F : Nat × Nat) (x0 : Int32) : f_J6_bitCount_0f7a4_34 F x0 = rx_node (C_J6_bitCount_0f7a4 F) rx_rI t_J6_bitCount_0f7a4 [10, 24, 34, 41, 48] (kk_J6_bitCount_0f7a4_34 F) 45 34 [some (.int x0)] [] none := rfl
set_option maxRecDepth 100000 in
theorem g_J6_bitCount_0f7a4_24 (F : Nat × Nat) (x0 : Int32) : f_J6_bitCount_0f7a4_24 F x0 = rx_node (C_J6_bitCount_0f7a4 F) rx_rI t_J6_bitCount_0f7a4 [10, 24, 34, 41, 48] (kk_J6_bitCount_0f7a4_24 F) 45 24 [some (.int x0)] [] none := rfl
set_option maxRecDepth 100000 in
theorem g_J6_bitCount_0f7a4_10 (F : Nat × Nat) (x0 : Int32) : f_J6_bitCount_0f7a4_10 F x0 = rx_node (C_J6_bitCount_0f7a4 F) rx_rI t_J6_bitCount_0f7a4 [10, 24, 34, 41, 48] (kk_J6_bitCount_0f7a4_10 F) 45 10 [some (.int x0)] [] none := rfl
set_option maxRecDepth 100000 in
theorem g_J6_bitCount_0f7a4_0 (F : Nat × Nat) (x0 : Int32) : f_J6_bitCount_0f7a4_0 F x0 = rx_node (C_J6_bitCount_0f7a4 F) rx_rI t_J6_bitCount_0f7a4 [10, 24, 34, 41, 48] (kk_J6_bitCount_0f7a4_0 F) 45 0 [some (.int x0)] [] none := rfl
def f_X1_firstFarFrom_7 (F : Nat × Nat) : Nat → Int64 → Int32 → Int32 → Int32 → Option Int32
  | 0, _, _, _, _ => none
  | f + 1, x0, x2, x3, x4 =>
    if x4 < (64 : Int32) then
      (f_J6_bitCount_0f7a4 F (x4 &&& x2)).bind fun v1 =>
      if v1 < x3 then
        some x4
      else
        (f_X0_next F x0 (x4 + (1 : Int32))).bind fun v2 =>
        (f_X1_firstFarFrom_7 F f) x0 x2 x3 v2
    else
      some (-2 : Int32)
def f_X1_firstFarFrom_0 (F : Nat × Nat) (x0 : Int64) (x2 : Int32) (x3 : Int32) : Option Int32 :=
  (f_X0_next F x0 (0 : Int32)).bind fun v1 =>
  f_X1_firstFarFrom_7 F F.1 x0 x2 x3 v1
def f_X1_firstFarFrom (F : Nat × Nat) (x0 : Int64) (x2 : Int32) (x3 : Int32) : Option Int32 := f_X1_firstFarFrom_0 F x0 x2 x3
def c_X1_firstFarFrom {α : Type} (F : Nat × Nat) (as : List Value) (u : Option rx_H) (κ : rx_K α) : Option α := match as with
  | [.long a0, .int a1, .int a2] => (f_X1_firstFarFrom F a0 a1 a2).bind fun r => κ (some (.int r)) u
  | _ => none
noncomputable def C_X1_firstFarFrom {α : Type} (F : Nat × Nat) : rx_Cl α := fun j as u κ => Bool.rec (motive := fun _ => Option α) (Bool.rec (motive := fun _ => Option α) (none) (c_X0_next F as u κ) (Nat.beq j 23)) (c_J6_bitCount_0f7a4 F as u κ) (Nat.beq j 1)
def t_X1_firstFarFrom : List rx_E := [
  (0, .lload_n 0, 1, 0, 0, 0, 0, 0, []),
  (1, .iconst 0, 1, 0, 0, 0, 0, 0, []),
  (2, .invokestatic 59, 3, 23, 2, 244, 0, 0, []),
  (5, .istore 4, 2, 0, 0, 0, 0, 0, []),
  (7, .iload 4, 2, 0, 0, 0, 0, 0, []),
  (9, .bipush 64, 2, 0, 0, 0, 64, 0, []),
  (11, .if_icmp .ge 30, 3, 41, 0, 0, 0, 0, []),
  (14, .iload 4, 2, 0, 0, 0, 0, 0, []),
  (16, .iload_n 2, 1, 0, 0, 0, 0, 0, []),
  (17, .iand, 1, 0, 0, 0, 0, 0, []),
  (18, .invokestatic 47, 3, 1, 1, 240, 0, 0, []),
  (21, .iload_n 3, 1, 0, 0, 0, 0, 0, []),
  (22, .if_icmp .ge 6, 3, 28, 0, 0, 0, 0, []),
  (25, .iload 4, 2, 0, 0, 0, 0, 0, []),
  (27, .ireturn, 1, 0, 0, 0, 0, 0, []),
  (28, .lload_n 0, 1, 0, 0, 0, 0, 0, []),
  (29, .iload 4, 2, 0, 0, 0, 0, 0, []),
  (31, .iconst 1, 1, 0, 0, 0, 1, 0, []),
  (32, .iadd, 1, 0, 0, 0, 0, 0, []),
  (33, .invokestatic 59, 3, 23, 2, 244, 0, 0, []),
  (36, .istore 4, 2, 0, 0, 0, 0, 0, []),
  (38, .goto (-31), 3, 7, 0, 0, 0, 0, []),
  (41, .bipush (-2), 2, 0, 0, 0, (-2), 0, []),
  (43, .ireturn, 1, 0, 0, 0, 0, 0, [])]
def n_X1_firstFarFrom_7 (k7 : Int64 → Int32 → Int32 → Int32 → Option Int32) (ls : rx_L) (st : List Value) (u : Option rx_H) : Option Int32 := match ls, st, u with
  | [some (.long x0), _, some (.int x2), some (.int x3), some (.int x4)], [], none => k7 x0 x2 x3 x4
  | _, _, _ => none
noncomputable def kk_X1_firstFarFrom_7 (F : Nat × Nat) (k7 : Int64 → Int32 → Int32 → Int32 → Option Int32) : Nat → rx_L → List Value → Option rx_H → Option Int32 := fun t ls st u => Bool.rec (motive := fun _ => Option Int32) (none) (n_X1_firstFarFrom_7 k7 ls st u) (Nat.beq t 7)
noncomputable def kk_X1_firstFarFrom_0 (F : Nat × Nat) : Nat → rx_L → List Value → Option rx_H → Option Int32 := fun t ls st u => Bool.rec (motive := fun _ => Option Int32) (none) (n_X1_firstFarFrom_7 (f_X1_firstFarFrom_7 F F.1) ls st u) (Nat.beq t 7)
set_option maxRecDepth 100000 in
theorem g_X1_firstFarFrom_7 (F : Nat × Nat) (f : Nat) (x0 : Int64) (x2 : Int32) (x3 : Int32) (x4 : Int32) : f_X1_firstFarFrom_7 F (f + 1) x0 x2 x3 x4 = rx_node (C_X1_firstFarFrom F) rx_rI t_X1_firstFarFrom [7] (kk_X1_firstFarFrom_7 F (f_X1_firstFarFrom_7 F f)) 27 7 [some (.long x0), none, some (.int x2), some (.int x3), some (.int x4)] [] none := rfl
set_option maxRecDepth 100000 in
theorem g_X1_firstFarFrom_0 (F : Nat × Nat) (x0 : Int64) (x2 : Int32) (x3 : Int32) : f_X1_firstFarFrom_0 F x0 x2 x3 = rx_node (C_X1_firstFarFrom F) rx_rI t_X1_firstFarFrom [7] (kk_X1_firstFarFrom_0 F) 27 0 [some (.long x0), none, some (.int x2), some (.int x3), none] [] none := rfl
def f_X1_meetClash_0 (F : Nat × Nat) (x0 : Int64) (x2 : Int32) (x3 : Int32) : Option Int32 :=
  (f_J6_bitCount_0f7a4 F x2).bind fun v1 =>
  if v1 < x3 then
    some x2
  else
    (f_X1_firstFarFrom F x0 x2 x3).bind fun v2 =>
    some v2
def f_X1_meetClash (F : Nat × Nat) (x0 : Int64) (x2 : Int32) (x3 : Int32) : Option Int32 := f_X1_meetClash_0 F x0 x2 x3
def c_X1_meetClash {α : Type} (F : Nat × Nat) (as : List Value) (u : Option rx_H) (κ : rx_K α) : Option α := match as with
  | [.long a0, .int a1, .int a2] => (f_X1_meetClash F a0 a1 a2).bind fun r => κ (some (.int r)) u
  | _ => none
noncomputable def C_X1_meetClash {α : Type} (F : Nat × Nat) : rx_Cl α := fun j as u κ => Bool.rec (motive := fun _ => Option α) (Bool.rec (motive := fun _ => Option α) (none) (c_X1_firstFarFrom F as u κ) (Nat.beq j 36)) (c_J6_bitCount_0f7a4 F as u κ) (Nat.beq j 1)
def t_X1_meetClash : List rx_E := [
  (0, .iload_n 2, 1, 0, 0, 0, 0, 0, []),
  (1, .invokestatic 47, 3, 1, 1, 240, 0, 0, []),
  (4, .iload_n 3, 1, 0, 0, 0, 0, 0, []),
  (5, .if_icmp .ge 7, 3, 12, 0, 0, 0, 0, []),
  (8, .iload_n 2, 1, 0, 0, 0, 0, 0, []),
  (9, .goto 9, 3, 18, 0, 0, 0, 0, []),
  (12, .lload_n 0, 1, 0, 0, 0, 0, 0, []),
  (13, .iload_n 2, 1, 0, 0, 0, 0, 0, []),
  (14, .iload_n 3, 1, 0, 0, 0, 0, 0, []),
  (15, .invokestatic 56, 3, 36, 3, 241, 0, 0, []),
  (18, .ireturn, 1, 0, 0, 0, 0, 0, [])]
noncomputable def kk_X1_meetClash_0 (F : Nat × Nat) : Nat → rx_L → List Value → Option rx_H → Option Int32 := fun t ls st u => none
set_option maxRecDepth 100000 in
theorem g_X1_meetClash_0 (F : Nat × Nat) (x0 : Int64) (x2 : Int32) (x3 : Int32) : f_X1_meetClash_0 F x0 x2 x3 = rx_node (C_X1_meetClash F) rx_rI t_X1_meetClash [] (kk_X1_meetClash_0 F) 14 0 [some (.long x0), none, some (.int x2), some (.int x3)] [] none := rfl
def f_X1_pair_0 (F : Nat × Nat) (x0 : Int32) (x1 : Int32) : Option Int32 :=
  some (x0 + ((64 : Int32) * x1))
def f_X1_pair (F : Nat × Nat) (x0 : Int32) (x1 : Int32) : Option Int32 := f_X1_pair_0 F x0 x1
def c_X1_pair {α : Type} (F : Nat × Nat) (as : List Value) (u : Option rx_H) (κ : rx_K α) : Option α := match as with
  | [.int a0, .int a1] => (f_X1_pair F a0 a1).bind fun r => κ (some (.int r)) u
  | _ => none
noncomputable def C_X1_pair {α : Type} (F : Nat × Nat) : rx_Cl α := fun j as u κ => none
def t_X1_pair : List rx_E := [
  (0, .iload_n 0, 1, 0, 0, 0, 0, 0, []),
  (1, .bipush 64, 2, 0, 0, 0, 64, 0, []),
  (3, .iload_n 1, 1, 0, 0, 0, 0, 0, []),
  (4, .imul, 1, 0, 0, 0, 0, 0, []),
  (5, .iadd, 1, 0, 0, 0, 0, 0, []),
  (6, .ireturn, 1, 0, 0, 0, 0, 0, [])]
noncomputable def kk_X1_pair_0 (F : Nat × Nat) : Nat → rx_L → List Value → Option rx_H → Option Int32 := fun t ls st u => none
set_option maxRecDepth 100000 in
theorem g_X1_pair_0 (F : Nat × Nat) (x0 : Int32) (x1 : Int32) : f_X1_pair_0 F x0 x1 = rx_node (C_X1_pair F) rx_rI t_X1_pair [] (kk_X1_pair_0 F) 9 0 [some (.int x0), some (.int x1)] [] none := rfl
def f_X1_apartClash_6 (F : Nat × Nat) : Nat → Int64 → Int32 → Option Int32
  | 0, _, _ => none
  | f + 1, x0, x2 =>
    if x2 < (64 : Int32) then
      (f_X0_around F x2).bind fun v1 =>
      (f_X0_leastOf F ((x0 &&& v1) &&& (((1 : Int64) <<< (Int32.toInt64 x2 &&& 63)) ^^^ (-1 : Int64)))).bind fun v2 =>
      if v2 = (-2 : Int32) then
        (f_X0_next F x0 (x2 + (1 : Int32))).bind fun v3 =>
        (f_X1_apartClash_6 F f) x0 v3
      else
        (f_X1_pair F x2 v2).bind fun v4 =>
        some v4
    else
      some (-2 : Int32)
def f_X1_apartClash_0 (F : Nat × Nat) (x0 : Int64) : Option Int32 :=
  (f_X0_next F x0 (0 : Int32)).bind fun v1 =>
  f_X1_apartClash_6 F F.1 x0 v1
def f_X1_apartClash (F : Nat × Nat) (x0 : Int64) : Option Int32 := f_X1_apartClash_0 F x0
def c_X1_apartClash {α : Type} (F : Nat × Nat) (as : List Value) (u : Option rx_H) (κ : rx_K α) : Option α := match as with
  | [.long a0] => (f_X1_apartClash F a0).bind fun r => κ (some (.int r)) u
  | _ => none
noncomputable def C_X1_apartClash {α : Type} (F : Nat × Nat) : rx_Cl α := fun j as u κ => Bool.rec (motive := fun _ => Option α) (Bool.rec (motive := fun _ => Option α) (Bool.rec (motive := fun _ => Option α) (Bool.rec (motive := fun _ => Option α) (none) (c_X1_pair F as u κ) (Nat.beq j 43)) (c_X0_next F as u κ) (Nat.beq j 23)) (c_X0_leastOf F as u κ) (Nat.beq j 17)) (c_X0_around F as u κ) (Nat.beq j 10)
def t_X1_apartClash : List rx_E := [
  (0, .lload_n 0, 1, 0, 0, 0, 0, 0, []),
  (1, .iconst 0, 1, 0, 0, 0, 0, 0, []),
  (2, .invokestatic 59, 3, 23, 2, 244, 0, 0, []),
  (5, .istore_n 2, 1, 0, 0, 0, 0, 0, []),
  (6, .iload_n 2, 1, 0, 0, 0, 0, 0, []),
  (7, .bipush 64, 2, 0, 0, 0, 64, 0, []),
  (9, .if_icmp .ge 44, 3, 53, 0, 0, 0, 0, []),
  (12, .lload_n 0, 1, 0, 0, 0, 0, 0, []),
  (13, .iload_n 2, 1, 0, 0, 0, 0, 0, []),
  (14, .invokestatic 29, 3, 10, 1, 223, 0, 0, []),
  (17, .land, 1, 0, 0, 0, 0, 0, []),
  (18, .lconst 1, 1, 0, 0, 0, 0, 1, []),
  (19, .iload_n 2, 1, 0, 0, 0, 0, 0, []),
  (20, .lshl, 1, 0, 0, 0, 0, 0, []),
  (21, .ldc2_w 45, 3, 0, 0, 245, 0, (-1), []),
  (24, .lxor, 1, 0, 0, 0, 0, 0, []),
  (25, .land, 1, 0, 0, 0, 0, 0, []),
  (26, .invokestatic 32, 3, 17, 1, 227, 0, 0, []),
  (29, .istore_n 3, 1, 0, 0, 0, 0, 0, []),
  (30, .iload_n 3, 1, 0, 0, 0, 0, 0, []),
  (31, .bipush (-2), 2, 0, 0, 0, (-2), 0, []),
  (33, .if_icmp .eq 9, 3, 42, 0, 0, 0, 0, []),
  (36, .iload_n 2, 1, 0, 0, 0, 0, 0, []),
  (37, .iload_n 3, 1, 0, 0, 0, 0, 0, []),
  (38, .invokestatic 75, 3, 43, 2, 296, 0, 0, []),
  (41, .ireturn, 1, 0, 0, 0, 0, 0, []),
  (42, .lload_n 0, 1, 0, 0, 0, 0, 0, []),
  (43, .iload_n 2, 1, 0, 0, 0, 0, 0, []),
  (44, .iconst 1, 1, 0, 0, 0, 1, 0, []),
  (45, .iadd, 1, 0, 0, 0, 0, 0, []),
  (46, .invokestatic 59, 3, 23, 2, 244, 0, 0, []),
  (49, .istore_n 2, 1, 0, 0, 0, 0, 0, []),
  (50, .goto (-44), 3, 6, 0, 0, 0, 0, []),
  (53, .bipush (-2), 2, 0, 0, 0, (-2), 0, []),
  (55, .ireturn, 1, 0, 0, 0, 0, 0, [])]
def n_X1_apartClash_6 (k6 : Int64 → Int32 → Option Int32) (ls : rx_L) (st : List Value) (u : Option rx_H) : Option Int32 := match ls, st, u with
  | [some (.long x0), _, some (.int x2), _], [], none => k6 x0 x2
  | _, _, _ => none
noncomputable def kk_X1_apartClash_6 (F : Nat × Nat) (k6 : Int64 → Int32 → Option Int32) : Nat → rx_L → List Value → Option rx_H → Option Int32 := fun t ls st u => Bool.rec (motive := fun _ => Option Int32) (none) (n_X1_apartClash_6 k6 ls st u) (Nat.beq t 6)
noncomputable def kk_X1_apartClash_0 (F : Nat × Nat) : Nat → rx_L → List Value → Option rx_H → Option Int32 := fun t ls st u => Bool.rec (motive := fun _ => Option Int32) (none) (n_X1_apartClash_6 (f_X1_apartClash_6 F F.1) ls st u) (Nat.beq t 6)
set_option maxRecDepth 100000 in
theorem g_X1_apartClash_6 (F : Nat × Nat) (f : Nat) (x0 : Int64) (x2 : Int32) : f_X1_apartClash_6 F (f + 1) x0 x2 = rx_node (C_X1_apartClash F) rx_rI t_X1_apartClash [6] (kk_X1_apartClash_6 F (f_X1_apartClash_6 F f)) 38 6 [some (.long x0), none, some (.int x2), none] [] none := rfl
set_option maxRecDepth 100000 in
theorem g_X1_apartClash_0 (F : Nat × Nat) (x0 : Int64) : f_X1_apartClash_0 F x0 = rx_node (C_X1_apartClash F) rx_rI t_X1_apartClash [6] (kk_X1_apartClash_0 F) 38 0 [some (.long x0), none, none, none] [] none := rfl
def f_X1_downClash_6 (F : Nat × Nat) : Nat → Int64 → Int32 → Option Int32
  | 0, _, _ => none
  | f + 1, x0, x2 =>
    if x2 < (64 : Int32) then
      (f_X0_within F x2).bind fun v1 =>
      (f_X0_leastOf F (v1 &&& (x0 ^^^ (-1 : Int64)))).bind fun v2 =>
      if v2 = (-2 : Int32) then
        (f_X0_next F x0 (x2 + (1 : Int32))).bind fun v3 =>
        (f_X1_downClash_6 F f) x0 v3
      else
        (f_X1_pair F v2 x2).bind fun v4 =>
        some v4
    else
      some (-2 : Int32)
def f_X1_downClash_0 (F : Nat × Nat) (x0 : Int64) : Option Int32 :=
  (f_X0_next F x0 (0 : Int32)).bind fun v1 =>
  f_X1_downClash_6 F F.1 x0 v1
def f_X1_downClash (F : Nat × Nat) (x0 : Int64) : Option Int32 := f_X1_downClash_0 F x0
def c_X1_downClash {α : Type} (F : Nat × Nat) (as : List Value) (u : Option rx_H) (κ : rx_K α) : Option α := match as with
  | [.long a0] => (f_X1_downClash F a0).bind fun r => κ (some (.int r)) u
  | _ => none
noncomputable def C_X1_downClash {α : Type} (F : Nat × Nat) : rx_Cl α := fun j as u κ => Bool.rec (motive := fun _ => Option α) (Bool.rec (motive := fun _ => Option α) (Bool.rec (motive := fun _ => Option α) (Bool.rec (motive := fun _ => Option α) (none) (c_X1_pair F as u κ) (Nat.beq j 43)) (c_X0_within F as u κ) (Nat.beq j 30)) (c_X0_next F as u κ) (Nat.beq j 23)) (c_X0_leastOf F as u κ) (Nat.beq j 17)
def t_X1_downClash : List rx_E := [
  (0, .lload_n 0, 1, 0, 0, 0, 0, 0, []),
  (1, .iconst 0, 1, 0, 0, 0, 0, 0, []),
  (2, .invokestatic 59, 3, 23, 2, 244, 0, 0, []),
  (5, .istore_n 2, 1, 0, 0, 0, 0, 0, []),
  (6, .iload_n 2, 1, 0, 0, 0, 0, 0, []),
  (7, .bipush 64, 2, 0, 0, 0, 64, 0, []),
  (9, .if_icmp .ge 40, 3, 49, 0, 0, 0, 0, []),
  (12, .iload_n 2, 1, 0, 0, 0, 0, 0, []),
  (13, .invokestatic 25, 3, 30, 1, 220, 0, 0, []),
  (16, .lload_n 0, 1, 0, 0, 0, 0, 0, []),
  (17, .ldc2_w 45, 3, 0, 0, 245, 0, (-1), []),
  (20, .lxor, 1, 0, 0, 0, 0, 0, []),
  (21, .land, 1, 0, 0, 0, 0, 0, []),
  (22, .invokestatic 32, 3, 17, 1, 227, 0, 0, []),
  (25, .istore_n 3, 1, 0, 0, 0, 0, 0, []),
  (26, .iload_n 3, 1, 0, 0, 0, 0, 0, []),
  (27, .bipush (-2), 2, 0, 0, 0, (-2), 0, []),
  (29, .if_icmp .eq 9, 3, 38, 0, 0, 0, 0, []),
  (32, .iload_n 3, 1, 0, 0, 0, 0, 0, []),
  (33, .iload_n 2, 1, 0, 0, 0, 0, 0, []),
  (34, .invokestatic 75, 3, 43, 2, 296, 0, 0, []),
  (37, .ireturn, 1, 0, 0, 0, 0, 0, []),
  (38, .lload_n 0, 1, 0, 0, 0, 0, 0, []),
  (39, .iload_n 2, 1, 0, 0, 0, 0, 0, []),
  (40, .iconst 1, 1, 0, 0, 0, 1, 0, []),
  (41, .iadd, 1, 0, 0, 0, 0, 0, []),
  (42, .invokestatic 59, 3, 23, 2, 244, 0, 0, []),
  (45, .istore_n 2, 1, 0, 0, 0, 0, 0, []),
  (46, .goto (-40), 3, 6, 0, 0, 0, 0, []),
  (49, .bipush (-2), 2, 0, 0, 0, (-2), 0, []),
  (51, .ireturn, 1, 0, 0, 0, 0, 0, [])]
def n_X1_downClash_6 (k6 : Int64 → Int32 → Option Int32) (ls : rx_L) (st : List Value) (u : Option rx_H) : Option Int32 := match ls, st, u with
  | [some (.long x0), _, some (.int x2), _], [], none => k6 x0 x2
  | _, _, _ => none
noncomputable def kk_X1_downClash_6 (F : Nat × Nat) (k6 : Int64 → Int32 → Option Int32) : Nat → rx_L → List Value → Option rx_H → Option Int32 := fun t ls st u => Bool.rec (motive := fun _ => Option Int32) (none) (n_X1_downClash_6 k6 ls st u) (Nat.beq t 6)
noncomputable def kk_X1_downClash_0 (F : Nat × Nat) : Nat → rx_L → List Value → Option rx_H → Option Int32 := fun t ls st u => Bool.rec (motive := fun _ => Option Int32) (none) (n_X1_downClash_6 (f_X1_downClash_6 F F.1) ls st u) (Nat.beq t 6)
set_option maxRecDepth 100000 in
theorem g_X1_downClash_6 (F : Nat × Nat) (f : Nat) (x0 : Int64) (x2 : Int32) : f_X1_downClash_6 F (f + 1) x0 x2 = rx_node (C_X1_downClash F) rx_rI t_X1_downClash [6] (kk_X1_downClash_6 F (f_X1_downClash_6 F f)) 34 6 [some (.long x0), none, some (.int x2), none] [] none := rfl
set_option maxRecDepth 100000 in
theorem g_X1_downClash_0 (F : Nat × Nat) (x0 : Int64) : f_X1_downClash_0 F x0 = rx_node (C_X1_downClash F) rx_rI t_X1_downClash [6] (kk_X1_downClash_0 F) 34 0 [some (.long x0), none, none, none] [] none := rfl
def f_X1_layerClash_6 (F : Nat × Nat) : Nat → Int64 → Int32 → Int32 → Option Int32
  | 0, _, _, _ => none
  | f + 1, x0, x2, x3 =>
    if x3 < (64 : Int32) then
      (f_J6_bitCount_0f7a4 F x3).bind fun v1 =>
      if v1 = x2 then
        (f_X0_next F x0 (x3 + (1 : Int32))).bind fun v2 =>
        (f_X1_layerClash_6 F f) x0 x2 v2
      else
        (f_X1_pair F x3 x3).bind fun v3 =>
        some v3
    else
      some (-2 : Int32)
def f_X1_layerClash_0 (F : Nat × Nat) (x0 : Int64) (x2 : Int32) : Option Int32 :=
  (f_X0_next F x0 (0 : Int32)).bind fun v1 =>
  f_X1_layerClash_6 F F.1 x0 x2 v1
def f_X1_layerClash (F : Nat × Nat) (x0 : Int64) (x2 : Int32) : Option Int32 := f_X1_layerClash_0 F x0 x2
def c_X1_layerClash {α : Type} (F : Nat × Nat) (as : List Value) (u : Option rx_H) (κ : rx_K α) : Option α := match as with
  | [.long a0, .int a1] => (f_X1_layerClash F a0 a1).bind fun r => κ (some (.int r)) u
  | _ => none
noncomputable def C_X1_layerClash {α : Type} (F : Nat × Nat) : rx_Cl α := fun j as u κ => Bool.rec (motive := fun _ => Option α) (Bool.rec (motive := fun _ => Option α) (Bool.rec (motive := fun _ => Option α) (none) (c_X1_pair F as u κ) (Nat.beq j 43)) (c_X0_next F as u κ) (Nat.beq j 23)) (c_J6_bitCount_0f7a4 F as u κ) (Nat.beq j 1)
def t_X1_layerClash : List rx_E := [
  (0, .lload_n 0, 1, 0, 0, 0, 0, 0, []),
  (1, .iconst 0, 1, 0, 0, 0, 0, 0, []),
  (2, .invokestatic 59, 3, 23, 2, 244, 0, 0, []),
  (5, .istore_n 3, 1, 0, 0, 0, 0, 0, []),
  (6, .iload_n 3, 1, 0, 0, 0, 0, 0, []),
  (7, .bipush 64, 2, 0, 0, 0, 64, 0, []),
  (9, .if_icmp .ge 28, 3, 37, 0, 0, 0, 0, []),
  (12, .iload_n 3, 1, 0, 0, 0, 0, 0, []),
  (13, .invokestatic 47, 3, 1, 1, 240, 0, 0, []),
  (16, .iload_n 2, 1, 0, 0, 0, 0, 0, []),
  (17, .if_icmp .eq 9, 3, 26, 0, 0, 0, 0, []),
  (20, .iload_n 3, 1, 0, 0, 0, 0, 0, []),
  (21, .iload_n 3, 1, 0, 0, 0, 0, 0, []),
  (22, .invokestatic 75, 3, 43, 2, 296, 0, 0, []),
  (25, .ireturn, 1, 0, 0, 0, 0, 0, []),
  (26, .lload_n 0, 1, 0, 0, 0, 0, 0, []),
  (27, .iload_n 3, 1, 0, 0, 0, 0, 0, []),
  (28, .iconst 1, 1, 0, 0, 0, 1, 0, []),
  (29, .iadd, 1, 0, 0, 0, 0, 0, []),
  (30, .invokestatic 59, 3, 23, 2, 244, 0, 0, []),
  (33, .istore_n 3, 1, 0, 0, 0, 0, 0, []),
  (34, .goto (-28), 3, 6, 0, 0, 0, 0, []),
  (37, .bipush (-2), 2, 0, 0, 0, (-2), 0, []),
  (39, .ireturn, 1, 0, 0, 0, 0, 0, [])]
def n_X1_layerClash_6 (k6 : Int64 → Int32 → Int32 → Option Int32) (ls : rx_L) (st : List Value) (u : Option rx_H) : Option Int32 := match ls, st, u with
  | [some (.long x0), _, some (.int x2), some (.int x3)], [], none => k6 x0 x2 x3
  | _, _, _ => none
noncomputable def kk_X1_layerClash_6 (F : Nat × Nat) (k6 : Int64 → Int32 → Int32 → Option Int32) : Nat → rx_L → List Value → Option rx_H → Option Int32 := fun t ls st u => Bool.rec (motive := fun _ => Option Int32) (none) (n_X1_layerClash_6 k6 ls st u) (Nat.beq t 6)
noncomputable def kk_X1_layerClash_0 (F : Nat × Nat) : Nat → rx_L → List Value → Option rx_H → Option Int32 := fun t ls st u => Bool.rec (motive := fun _ => Option Int32) (none) (n_X1_layerClash_6 (f_X1_layerClash_6 F F.1) ls st u) (Nat.beq t 6)
set_option maxRecDepth 100000 in
theorem g_X1_layerClash_6 (F : Nat × Nat) (f : Nat) (x0 : Int64) (x2 : Int32) (x3 : Int32) : f_X1_layerClash_6 F (f + 1) x0 x2 x3 = rx_node (C_X1_layerClash F) rx_rI t_X1_layerClash [6] (kk_X1_layerClash_6 F (f_X1_layerClash_6 F f)) 27 6 [some (.long x0), none, some (.int x2), some (.int x3)] [] none := rfl
set_option maxRecDepth 100000 in
theorem g_X1_layerClash_0 (F : Nat × Nat) (x0 : Int64) (x2 : Int32) : f_X1_layerClash_0 F x0 x2 = rx_node (C_X1_layerClash F) rx_rI t_X1_layerClash [6] (kk_X1_layerClash_0 F) 27 0 [some (.long x0), none, some (.int x2), none] [] none := rfl
def f_X1_meetingClash_6 (F : Nat × Nat) : Nat → Int64 → Int32 → Int32 → Option Int32
  | 0, _, _, _ => none
  | f + 1, x0, x2, x3 =>
    if x3 < (64 : Int32) then
      (f_X0_below F x3).bind fun v1 =>
      (f_X1_meetClash F (x0 &&& (v1 ^^^ (-1 : Int64))) x3 x2).bind fun v2 =>
      if v2 = (-2 : Int32) then
        (f_X0_next F x0 (x3 + (1 : Int32))).bind fun v3 =>
        (f_X1_meetingClash_6 F f) x0 x2 v3
      else
        (f_X1_pair F x3 v2).bind fun v4 =>
        some v4
    else
      some (-2 : Int32)
def f_X1_meetingClash_0 (F : Nat × Nat) (x0 : Int64) (x2 : Int32) : Option Int32 :=
  (f_X0_next F x0 (0 : Int32)).bind fun v1 =>
  f_X1_meetingClash_6 F F.1 x0 x2 v1
def f_X1_meetingClash (F : Nat × Nat) (x0 : Int64) (x2 : Int32) : Option Int32 := f_X1_meetingClash_0 F x0 x2
def c_X1_meetingClash {α : Type} (F : Nat × Nat) (as : List Value) (u : Option rx_H) (κ : rx_K α) : Option α := match as with
  | [.long a0, .int a1] => (f_X1_meetingClash F a0 a1).bind fun r => κ (some (.int r)) u
  | _ => none
noncomputable def C_X1_meetingClash {α : Type} (F : Nat × Nat) : rx_Cl α := fun j as u κ => Bool.rec (motive := fun _ => Option α) (Bool.rec (motive := fun _ => Option α) (Bool.rec (motive := fun _ => Option α) (Bool.rec (motive := fun _ => Option α) (none) (c_X1_pair F as u κ) (Nat.beq j 43)) (c_X1_meetClash F as u κ) (Nat.beq j 41)) (c_X0_next F as u κ) (Nat.beq j 23)) (c_X0_below F as u κ) (Nat.beq j 11)
def t_X1_meetingClash : List rx_E := [
  (0, .lload_n 0, 1, 0, 0, 0, 0, 0, []),
  (1, .iconst 0, 1, 0, 0, 0, 0, 0, []),
  (2, .invokestatic 59, 3, 23, 2, 244, 0, 0, []),
  (5, .istore_n 3, 1, 0, 0, 0, 0, 0, []),
  (6, .iload_n 3, 1, 0, 0, 0, 0, 0, []),
  (7, .bipush 64, 2, 0, 0, 0, 64, 0, []),
  (9, .if_icmp .ge 45, 3, 54, 0, 0, 0, 0, []),
  (12, .lload_n 0, 1, 0, 0, 0, 0, 0, []),
  (13, .iload_n 3, 1, 0, 0, 0, 0, 0, []),
  (14, .invokestatic 79, 3, 11, 1, 302, 0, 0, []),
  (17, .ldc2_w 45, 3, 0, 0, 245, 0, (-1), []),
  (20, .lxor, 1, 0, 0, 0, 0, 0, []),
  (21, .land, 1, 0, 0, 0, 0, 0, []),
  (22, .iload_n 3, 1, 0, 0, 0, 0, 0, []),
  (23, .iload_n 2, 1, 0, 0, 0, 0, 0, []),
  (24, .invokestatic 39, 3, 41, 3, 237, 0, 0, []),
  (27, .istore 4, 2, 0, 0, 0, 0, 0, []),
  (29, .iload 4, 2, 0, 0, 0, 0, 0, []),
  (31, .bipush (-2), 2, 0, 0, 0, (-2), 0, []),
  (33, .if_icmp .eq 10, 3, 43, 0, 0, 0, 0, []),
  (36, .iload_n 3, 1, 0, 0, 0, 0, 0, []),
  (37, .iload 4, 2, 0, 0, 0, 0, 0, []),
  (39, .invokestatic 75, 3, 43, 2, 296, 0, 0, []),
  (42, .ireturn, 1, 0, 0, 0, 0, 0, []),
  (43, .lload_n 0, 1, 0, 0, 0, 0, 0, []),
  (44, .iload_n 3, 1, 0, 0, 0, 0, 0, []),
  (45, .iconst 1, 1, 0, 0, 0, 1, 0, []),
  (46, .iadd, 1, 0, 0, 0, 0, 0, []),
  (47, .invokestatic 59, 3, 23, 2, 244, 0, 0, []),
  (50, .istore_n 3, 1, 0, 0, 0, 0, 0, []),
  (51, .goto (-45), 3, 6, 0, 0, 0, 0, []),
  (54, .bipush (-2), 2, 0, 0, 0, (-2), 0, []),
  (56, .ireturn, 1, 0, 0, 0, 0, 0, [])]
def n_X1_meetingClash_6 (k6 : Int64 → Int32 → Int32 → Option Int32) (ls : rx_L) (st : List Value) (u : Option rx_H) : Option Int32 := match ls, st, u with
  | [some (.long x0), _, some (.int x2), some (.int x3), _], [], none => k6 x0 x2 x3
  | _, _, _ => none
noncomputable def kk_X1_meetingClash_6 (F : Nat × Nat) (k6 : Int64 → Int32 → Int32 → Option Int32) : Nat → rx_L → List Value → Option rx_H → Option Int32 := fun t ls st u => Bool.rec (motive := fun _ => Option Int32) (none) (n_X1_meetingClash_6 k6 ls st u) (Nat.beq t 6)
noncomputable def kk_X1_meetingClash_0 (F : Nat × Nat) : Nat → rx_L → List Value → Option rx_H → Option Int32 := fun t ls st u => Bool.rec (motive := fun _ => Option Int32) (none) (n_X1_meetingClash_6 (f_X1_meetingClash_6 F F.1) ls st u) (Nat.beq t 6)
set_option maxRecDepth 100000 in
theorem g_X1_meetingClash_6 (F : Nat × Nat) (f : Nat) (x0 : Int64) (x2 : Int32) (x3 : Int32) : f_X1_meetingClash_6 F (f + 1) x0 x2 x3 = rx_node (C_X1_meetingClash F) rx_rI t_X1_meetingClash [6] (kk_X1_meetingClash_6 F (f_X1_meetingClash_6 F f)) 36 6 [some (.long x0), none, some (.int x2), some (.int x3), none] [] none := rfl
set_option maxRecDepth 100000 in
theorem g_X1_meetingClash_0 (F : Nat × Nat) (x0 : Int64) (x2 : Int32) : f_X1_meetingClash_0 F x0 x2 = rx_node (C_X1_meetingClash F) rx_rI t_X1_meetingClash [6] (kk_X1_meetingClash_0 F) 36 0 [some (.long x0), none, some (.int x2), none, none] [] none := rfl
def f_X1_familyClash_0 (F : Nat × Nat) (x0 : Int64) (x2 : Int32) (x3 : Int32) : Option Int32 :=
  if x2 = 1 then
    (f_X1_apartClash F x0).bind fun v1 =>
    some v1
  else if x2 = 2 then
    (f_X1_meetingClash F x0 x3).bind fun v2 =>
    some v2
  else if x2 = 3 then
    (f_X1_downClash F x0).bind fun v3 =>
    some v3
  else if x2 = 4 then
    (f_X1_layerClash F x0 x3).bind fun v4 =>
    some v4
  else 
    some (-2 : Int32)
def f_X1_familyClash (F : Nat × Nat) (x0 : Int64) (x2 : Int32) (x3 : Int32) : Option Int32 := f_X1_familyClash_0 F x0 x2 x3
def c_X1_familyClash {α : Type} (F : Nat × Nat) (as : List Value) (u : Option rx_H) (κ : rx_K α) : Option α := match as with
  | [.long a0, .int a1, .int a2] => (f_X1_familyClash F a0 a1 a2).bind fun r => κ (some (.int r)) u
  | _ => none
noncomputable def C_X1_familyClash {α : Type} (F : Nat × Nat) : rx_Cl α := fun j as u κ => Bool.rec (motive := fun _ => Option α) (Bool.rec (motive := fun _ => Option α) (Bool.rec (motive := fun _ => Option α) (Bool.rec (motive := fun _ => Option α) (none) (c_X1_meetingClash F as u κ) (Nat.beq j 42)) (c_X1_layerClash F as u κ) (Nat.beq j 40)) (c_X1_downClash F as u κ) (Nat.beq j 33)) (c_X1_apartClash F as u κ) (Nat.beq j 31)
def t_X1_familyClash : List rx_E := [
  (0, .iload_n 2, 1, 0, 0, 0, 0, 0, []),
  (1, .tableswitch 53 1 4 #[31, 36, 42, 47], 31, 54, 0, 0, 0, 0, [(1, 32), (2, 37), (3, 43), (4, 48)]),
  (32, .lload_n 0, 1, 0, 0, 0, 0, 0, []),
  (33, .invokestatic 63, 3, 31, 1, 293, 0, 0, []),
  (36, .ireturn, 1, 0, 0, 0, 0, 0, []),
  (37, .lload_n 0, 1, 0, 0, 0, 0, 0, []),
  (38, .iload_n 3, 1, 0, 0, 0, 0, 0, []),
  (39, .invokestatic 66, 3, 42, 2, 299, 0, 0, []),
  (42, .ireturn, 1, 0, 0, 0, 0, 0, []),
  (43, .lload_n 0, 1, 0, 0, 0, 0, 0, []),
  (44, .invokestatic 69, 3, 33, 1, 303, 0, 0, []),
  (47, .ireturn, 1, 0, 0, 0, 0, 0, []),
  (48, .lload_n 0, 1, 0, 0, 0, 0, 0, []),
  (49, .iload_n 3, 1, 0, 0, 0, 0, 0, []),
  (50, .invokestatic 72, 3, 40, 2, 306, 0, 0, []),
  (53, .ireturn, 1, 0, 0, 0, 0, 0, []),
  (54, .bipush (-2), 2, 0, 0, 0, (-2), 0, []),
  (56, .ireturn, 1, 0, 0, 0, 0, 0, [])]
noncomputable def kk_X1_familyClash_0 (F : Nat × Nat) : Nat → rx_L → List Value → Option rx_H → Option Int32 := fun t ls st u => none
set_option maxRecDepth 100000 in
theorem g_X1_familyClash_0 (F : Nat × Nat) (x0 : Int64) (x2 : Int32) (x3 : Int32) : f_X1_familyClash_0 F x0 x2 x3 = rx_node (C_X1_familyClash F) rx_rI t_X1_familyClash [] (kk_X1_familyClash_0 F) 21 0 [some (.long x0), none, some (.int x2), some (.int x3)] [] none := rfl
def f_X2_factorial_0 (F : Nat × Nat) (x0 : Int32) : Option Int32 :=
  (rx_aI none 1000002 x0).bind fun v1 =>
  some v1
def f_X2_factorial (F : Nat × Nat) (x0 : Int32) : Option Int32 := f_X2_factorial_0 F x0
def c_X2_factorial {α : Type} (F : Nat × Nat) (as : List Value) (u : Option rx_H) (κ : rx_K α) : Option α := match as with
  | [.int a0] => (f_X2_factorial F a0).bind fun r => κ (some (.int r)) u
  | _ => none
noncomputable def C_X2_factorial {α : Type} (F : Nat × Nat) : rx_Cl α := fun j as u κ => none
def t_X2_factorial : List rx_E := [
  (0, .getstatic 9, 3, 1000002, 0, 426, 0, 0, []),
  (3, .iload_n 0, 1, 0, 0, 0, 0, 0, []),
  (4, .iaload, 1, 0, 0, 0, 0, 0, []),
  (5, .ireturn, 1, 0, 0, 0, 0, 0, [])]
noncomputable def kk_X2_factorial_0 (F : Nat × Nat) : Nat → rx_L → List Value → Option rx_H → Option Int32 := fun t ls st u => none
set_option maxRecDepth 100000 in
theorem g_X2_factorial_0 (F : Nat × Nat) (x0 : Int32) : f_X2_factorial_0 F x0 = rx_node (C_X2_factorial F) rx_rI t_X2_factorial [] (kk_X2_factorial_0 F) 7 0 [some (.int x0)] [] none := rfl
def f_X2_power_5 (F : Nat × Nat) : Nat → Int32 → Int32 → Int64 → Int32 → Option Int64
  | 0, _, _, _, _ => none
  | f + 1, x0, x1, x2, x4 =>
    if x4 < x1 then
      (f_X2_power_5 F f) x0 x1 (x2 * (Int32.toInt64 x0)) (x4 + 1)
    else
      some x2
def f_X2_power_0 (F : Nat × Nat) (x0 : Int32) (x1 : Int32) : Option Int64 :=
  f_X2_power_5 F F.1 x0 x1 (1 : Int64) (0 : Int32)
def f_X2_power (F : Nat × Nat) (x0 : Int32) (x1 : Int32) : Option Int64 := f_X2_power_0 F x0 x1
def c_X2_power {α : Type} (F : Nat × Nat) (as : List Value) (u : Option rx_H) (κ : rx_K α) : Option α := match as with
  | [.int a0, .int a1] => (f_X2_power F a0 a1).bind fun r => κ (some (.long r)) u
  | _ => none
noncomputable def C_X2_power {α : Type} (F : Nat × Nat) : rx_Cl α := fun j as u κ => none
def t_X2_power : List rx_E := [
  (0, .lconst 1, 1, 0, 0, 0, 0, 1, []),
  (1, .lstore_n 2, 1, 0, 0, 0, 0, 0, []),
  (2, .iconst 0, 1, 0, 0, 0, 0, 0, []),
  (3, .istore 4, 2, 0, 0, 0, 0, 0, []),
  (5, .iload 4, 2, 0, 0, 0, 0, 0, []),
  (7, .iload_n 1, 1, 0, 0, 0, 0, 0, []),
  (8, .if_icmp .ge 14, 3, 22, 0, 0, 0, 0, []),
  (11, .lload_n 2, 1, 0, 0, 0, 0, 0, []),
  (12, .iload_n 0, 1, 0, 0, 0, 0, 0, []),
  (13, .i2l, 1, 0, 0, 0, 0, 0, []),
  (14, .lmul, 1, 0, 0, 0, 0, 0, []),
  (15, .lstore_n 2, 1, 0, 0, 0, 0, 0, []),
  (16, .iinc 4 1, 3, 0, 0, 0, 1, 0, []),
  (19, .goto (-14), 3, 5, 0, 0, 0, 0, []),
  (22, .lload_n 2, 1, 0, 0, 0, 0, 0, []),
  (23, .lreturn, 1, 0, 0, 0, 0, 0, [])]
def n_X2_power_5 (k5 : Int32 → Int32 → Int64 → Int32 → Option Int64) (ls : rx_L) (st : List Value) (u : Option rx_H) : Option Int64 := match ls, st, u with
  | [some (.int x0), some (.int x1), some (.long x2), _, some (.int x4)], [], none => k5 x0 x1 x2 x4
  | _, _, _ => none
noncomputable def kk_X2_power_5 (F : Nat × Nat) (k5 : Int32 → Int32 → Int64 → Int32 → Option Int64) : Nat → rx_L → List Value → Option rx_H → Option Int64 := fun t ls st u => Bool.rec (motive := fun _ => Option Int64) (none) (n_X2_power_5 k5 ls st u) (Nat.beq t 5)
noncomputable def kk_X2_power_0 (F : Nat × Nat) : Nat → rx_L → List Value → Option rx_H → Option Int64 := fun t ls st u => Bool.rec (motive := fun _ => Option Int64) (none) (n_X2_power_5 (f_X2_power_5 F F.1) ls st u) (Nat.beq t 5)
set_option maxRecDepth 100000 in
theorem g_X2_power_5 (F : Nat × Nat) (f : Nat) (x0 : Int32) (x1 : Int32) (x2 : Int64) (x4 : Int32) : f_X2_power_5 F (f + 1) x0 x1 x2 x4 = rx_node (C_X2_power F) rx_rJ t_X2_power [5] (kk_X2_power_5 F (f_X2_power_5 F f)) 19 5 [some (.int x0), some (.int x1), some (.long x2), none, some (.int x4)] [] none := rfl
set_option maxRecDepth 100000 in
theorem g_X2_power_0 (F : Nat × Nat) (x0 : Int32) (x1 : Int32) : f_X2_power_0 F x0 x1 = rx_node (C_X2_power F) rx_rJ t_X2_power [5] (kk_X2_power_0 F) 19 0 [some (.int x0), some (.int x1), none, none, none] [] none := rfl
def f_X2_cascades_0 (F : Nat × Nat) (x0 : Int32) (x1 : Int32) : Option Int32 :=
  if x0 < (1 : Int32) then
    some (0 : Int32)
  else
    if (1000 : Int32) < x0 then
      some (0 : Int32)
    else
      if x1 < (1 : Int32) then
        some (0 : Int32)
      else
        if (6 : Int32) < x1 then
          some (0 : Int32)
        else
          some (1 : Int32)
def f_X2_cascades (F : Nat × Nat) (x0 : Int32) (x1 : Int32) : Option Int32 := f_X2_cascades_0 F x0 x1
def c_X2_cascades {α : Type} (F : Nat × Nat) (as : List Value) (u : Option rx_H) (κ : rx_K α) : Option α := match as with
  | [.int a0, .int a1] => (f_X2_cascades F a0 a1).bind fun r => κ (some (.int r)) u
  | _ => none
noncomputable def C_X2_cascades {α : Type} (F : Nat × Nat) : rx_Cl α := fun j as u κ => none
def t_X2_cascades : List rx_E := [
  (0, .iload_n 0, 1, 0, 0, 0, 0, 0, []),
  (1, .iconst 1, 1, 0, 0, 0, 1, 0, []),
  (2, .if_icmp .lt 25, 3, 27, 0, 0, 0, 0, []),
  (5, .iload_n 0, 1, 0, 0, 0, 0, 0, []),
  (6, .sipush 1000, 3, 0, 0, 0, 1000, 0, []),
  (9, .if_icmp .gt 18, 3, 27, 0, 0, 0, 0, []),
  (12, .iload_n 1, 1, 0, 0, 0, 0, 0, []),
  (13, .iconst 1, 1, 0, 0, 0, 1, 0, []),
  (14, .if_icmp .lt 13, 3, 27, 0, 0, 0, 0, []),
  (17, .iload_n 1, 1, 0, 0, 0, 0, 0, []),
  (18, .bipush 6, 2, 0, 0, 0, 6, 0, []),
  (20, .if_icmp .gt 7, 3, 27, 0, 0, 0, 0, []),
  (23, .iconst 1, 1, 0, 0, 0, 1, 0, []),
  (24, .goto 4, 3, 28, 0, 0, 0, 0, []),
  (27, .iconst 0, 1, 0, 0, 0, 0, 0, []),
  (28, .ireturn, 1, 0, 2, 0, 0, 0, [])]
noncomputable def kk_X2_cascades_0 (F : Nat × Nat) : Nat → rx_L → List Value → Option rx_H → Option Int32 := fun t ls st u => none
set_option maxRecDepth 100000 in
theorem g_X2_cascades_0 (F : Nat × Nat) (x0 : Int32) (x1 : Int32) : f_X2_cascades_0 F x0 x1 = rx_node (C_X2_cascades F) rx_rI t_X2_cascades [] (kk_X2_cascades_0 F) 19 0 [some (.int x0), some (.int x1)] [] none := rfl
def f_X2_choose_4 (F : Nat × Nat) : Nat → Int32 → Int32 → Int32 → Int32 → Option Int32
  | 0, _, _, _, _ => none
  | f + 1, x0, x1, x2, x3 =>
    if x1 < x3 then
      some x2
    else
      if x3 = 0 then
        none
      else
        (f_X2_choose_4 F f) x0 x1 ((x2 * ((x0 - x1) + x3)) / x3) (x3 + 1)
def f_X2_choose_0 (F : Nat × Nat) (x0 : Int32) (x1 : Int32) : Option Int32 :=
  f_X2_choose_4 F F.1 x0 x1 (1 : Int32) (1 : Int32)
def f_X2_choose (F : Nat × Nat) (x0 : Int32) (x1 : Int32) : Option Int32 := f_X2_choose_0 F x0 x1
def c_X2_choose {α : Type} (F : Nat × Nat) (as : List Value) (u : Option rx_H) (κ : rx_K α) : Option α := match as with
  | [.int a0, .int a1] => (f_X2_choose F a0 a1).bind fun r => κ (some (.int r)) u
  | _ => none
noncomputable def C_X2_choose {α : Type} (F : Nat × Nat) : rx_Cl α := fun j as u κ => none
def t_X2_choose : List rx_E := [
  (0, .iconst 1, 1, 0, 0, 0, 1, 0, []),
  (1, .istore_n 2, 1, 0, 0, 0, 0, 0, []),
  (2, .iconst 1, 1, 0, 0, 0, 1, 0, []),
  (3, .istore_n 3, 1, 0, 0, 0, 0, 0, []),
  (4, .iload_n 3, 1, 0, 0, 0, 0, 0, []),
  (5, .iload_n 1, 1, 0, 0, 0, 0, 0, []),
  (6, .if_icmp .gt 19, 3, 25, 0, 0, 0, 0, []),
  (9, .iload_n 2, 1, 0, 0, 0, 0, 0, []),
  (10, .iload_n 0, 1, 0, 0, 0, 0, 0, []),
  (11, .iload_n 1, 1, 0, 0, 0, 0, 0, []),
  (12, .isub, 1, 0, 0, 0, 0, 0, []),
  (13, .iload_n 3, 1, 0, 0, 0, 0, 0, []),
  (14, .iadd, 1, 0, 0, 0, 0, 0, []),
  (15, .imul, 1, 0, 0, 0, 0, 0, []),
  (16, .iload_n 3, 1, 0, 0, 0, 0, 0, []),
  (17, .idiv, 1, 0, 0, 0, 0, 0, []),
  (18, .istore_n 2, 1, 0, 0, 0, 0, 0, []),
  (19, .iinc 3 1, 3, 0, 0, 0, 1, 0, []),
  (22, .goto (-18), 3, 4, 0, 0, 0, 0, []),
  (25, .iload_n 2, 1, 0, 0, 0, 0, 0, []),
  (26, .ireturn, 1, 0, 0, 0, 0, 0, [])]
def n_X2_choose_4 (k4 : Int32 → Int32 → Int32 → Int32 → Option Int32) (ls : rx_L) (st : List Value) (u : Option rx_H) : Option Int32 := match ls, st, u with
  | [some (.int x0), some (.int x1), some (.int x2), some (.int x3)], [], none => k4 x0 x1 x2 x3
  | _, _, _ => none
noncomputable def kk_X2_choose_4 (F : Nat × Nat) (k4 : Int32 → Int32 → Int32 → Int32 → Option Int32) : Nat → rx_L → List Value → Option rx_H → Option Int32 := fun t ls st u => Bool.rec (motive := fun _ => Option Int32) (none) (n_X2_choose_4 k4 ls st u) (Nat.beq t 4)
noncomputable def kk_X2_choose_0 (F : Nat × Nat) : Nat → rx_L → List Value → Option rx_H → Option Int32 := fun t ls st u => Bool.rec (motive := fun _ => Option Int32) (none) (n_X2_choose_4 (f_X2_choose_4 F F.1) ls st u) (Nat.beq t 4)
set_option maxRecDepth 100000 in
theorem g_X2_choose_4 (F : Nat × Nat) (f : Nat) (x0 : Int32) (x1 : Int32) (x2 : Int32) (x3 : Int32) : f_X2_choose_4 F (f + 1) x0 x1 x2 x3 = rx_node (C_X2_choose F) rx_rI t_X2_choose [4] (kk_X2_choose_4 F (f_X2_choose_4 F f)) 24 4 [some (.int x0), some (.int x1), some (.int x2), some (.int x3)] [] none := rfl
set_option maxRecDepth 100000 in
theorem g_X2_choose_0 (F : Nat × Nat) (x0 : Int32) (x1 : Int32) : f_X2_choose_0 F x0 x1 = rx_node (C_X2_choose F) rx_rI t_X2_choose [4] (kk_X2_choose_0 F) 24 0 [some (.int x0), some (.int x1), none, none] [] none := rfl
def f_X2_cascadeTop_4 (F : Nat × Nat) : Nat → Int32 → Int32 → Int32 → Int32 → Option Int32
  | 0, _, _, _, _ => none
  | f + 1, x0, x1, x2, x3 =>
    if x3 < (1000 : Int32) then
      if (x3 + (1 : Int32)) - x1 = 0 then
        none
      else
        if x0 < (x2 * (x3 + (1 : Int32))) / ((x3 + (1 : Int32)) - x1) then
          some x3
        else
          (f_X2_cascadeTop_4 F f) x0 x1 ((x2 * (x3 + (1 : Int32))) / ((x3 + (1 : Int32)) - x1)) (x3 + 1)
    else
      some (1000 : Int32)
def f_X2_cascadeTop_0 (F : Nat × Nat) (x0 : Int32) (x1 : Int32) : Option Int32 :=
  f_X2_cascadeTop_4 F F.1 x0 x1 (1 : Int32) x1
def f_X2_cascadeTop (F : Nat × Nat) (x0 : Int32) (x1 : Int32) : Option Int32 := f_X2_cascadeTop_0 F x0 x1
def c_X2_cascadeTop {α : Type} (F : Nat × Nat) (as : List Value) (u : Option rx_H) (κ : rx_K α) : Option α := match as with
  | [.int a0, .int a1] => (f_X2_cascadeTop F a0 a1).bind fun r => κ (some (.int r)) u
  | _ => none
noncomputable def C_X2_cascadeTop {α : Type} (F : Nat × Nat) : rx_Cl α := fun j as u κ => none
def t_X2_cascadeTop : List rx_E := [
  (0, .iconst 1, 1, 0, 0, 0, 1, 0, []),
  (1, .istore_n 2, 1, 0, 0, 0, 0, 0, []),
  (2, .iload_n 1, 1, 0, 0, 0, 0, 0, []),
  (3, .istore_n 3, 1, 0, 0, 0, 0, 0, []),
  (4, .iload_n 3, 1, 0, 0, 0, 0, 0, []),
  (5, .sipush 1000, 3, 0, 0, 0, 1000, 0, []),
  (8, .if_icmp .ge 28, 3, 36, 0, 0, 0, 0, []),
  (11, .iload_n 2, 1, 0, 0, 0, 0, 0, []),
  (12, .iload_n 3, 1, 0, 0, 0, 0, 0, []),
  (13, .iconst 1, 1, 0, 0, 0, 1, 0, []),
  (14, .iadd, 1, 0, 0, 0, 0, 0, []),
  (15, .imul, 1, 0, 0, 0, 0, 0, []),
  (16, .iload_n 3, 1, 0, 0, 0, 0, 0, []),
  (17, .iconst 1, 1, 0, 0, 0, 1, 0, []),
  (18, .iadd, 1, 0, 0, 0, 0, 0, []),
  (19, .iload_n 1, 1, 0, 0, 0, 0, 0, []),
  (20, .isub, 1, 0, 0, 0, 0, 0, []),
  (21, .idiv, 1, 0, 0, 0, 0, 0, []),
  (22, .istore_n 2, 1, 0, 0, 0, 0, 0, []),
  (23, .iload_n 2, 1, 0, 0, 0, 0, 0, []),
  (24, .iload_n 0, 1, 0, 0, 0, 0, 0, []),
  (25, .if_icmp .le 5, 3, 30, 0, 0, 0, 0, []),
  (28, .iload_n 3, 1, 0, 0, 0, 0, 0, []),
  (29, .ireturn, 1, 0, 0, 0, 0, 0, []),
  (30, .iinc 3 1, 3, 0, 0, 0, 1, 0, []),
  (33, .goto (-29), 3, 4, 0, 0, 0, 0, []),
  (36, .sipush 1000, 3, 0, 0, 0, 1000, 0, []),
  (39, .ireturn, 1, 0, 0, 0, 0, 0, [])]
def n_X2_cascadeTop_4 (k4 : Int32 → Int32 → Int32 → Int32 → Option Int32) (ls : rx_L) (st : List Value) (u : Option rx_H) : Option Int32 := match ls, st, u with
  | [some (.int x0), some (.int x1), some (.int x2), some (.int x3)], [], none => k4 x0 x1 x2 x3
  | _, _, _ => none
noncomputable def kk_X2_cascadeTop_4 (F : Nat × Nat) (k4 : Int32 → Int32 → Int32 → Int32 → Option Int32) : Nat → rx_L → List Value → Option rx_H → Option Int32 := fun t ls st u => Bool.rec (motive := fun _ => Option Int32) (none) (n_X2_cascadeTop_4 k4 ls st u) (Nat.beq t 4)
noncomputable def kk_X2_cascadeTop_0 (F : Nat × Nat) : Nat → rx_L → List Value → Option rx_H → Option Int32 := fun t ls st u => Bool.rec (motive := fun _ => Option Int32) (none) (n_X2_cascadeTop_4 (f_X2_cascadeTop_4 F F.1) ls st u) (Nat.beq t 4)
set_option maxRecDepth 100000 in
theorem g_X2_cascadeTop_4 (F : Nat × Nat) (f : Nat) (x0 : Int32) (x1 : Int32) (x2 : Int32) (x3 : Int32) : f_X2_cascadeTop_4 F (f + 1) x0 x1 x2 x3 = rx_node (C_X2_cascadeTop F) rx_rI t_X2_cascadeTop [4] (kk_X2_cascadeTop_4 F (f_X2_cascadeTop_4 F f)) 31 4 [some (.int x0), some (.int x1), some (.int x2), some (.int x3)] [] none := rfl
set_option maxRecDepth 100000 in
theorem g_X2_cascadeTop_0 (F : Nat × Nat) (x0 : Int32) (x1 : Int32) : f_X2_cascadeTop_0 F x0 x1 = rx_node (C_X2_cascadeTop F) rx_rI t_X2_cascadeTop [4] (kk_X2_cascadeTop_0 F) 31 0 [some (.int x0), some (.int x1), none, none] [] none := rfl
def f_X2_cascadeNumber_5 (F : Nat × Nat) : Nat → Int32 → Int32 → Int32 → Int32 → Option Int32
  | 0, _, _, _, _ => none
  | f + 1, x1, x2, x3, x4 =>
    if x4 < (1 : Int32) then
      some (-2 : Int32)
    else
      if 0 < x3 then
        (f_X2_cascadeTop F x3 x4).bind fun v1 =>
        if x1 - x4 = x2 then
          some v1
        else
          (f_X2_choose F v1 x4).bind fun v2 =>
          (f_X2_cascadeNumber_5 F f) x1 x2 (x3 - v2) (x4 + (-1))
      else
        some (-2 : Int32)
def f_X2_cascadeNumber_0 (F : Nat × Nat) (x0 : Int32) (x1 : Int32) (x2 : Int32) : Option Int32 :=
  f_X2_cascadeNumber_5 F F.1 x1 x2 x0 x1
def f_X2_cascadeNumber (F : Nat × Nat) (x0 : Int32) (x1 : Int32) (x2 : Int32) : Option Int32 := f_X2_cascadeNumber_0 F x0 x1 x2
def c_X2_cascadeNumber {α : Type} (F : Nat × Nat) (as : List Value) (u : Option rx_H) (κ : rx_K α) : Option α := match as with
  | [.int a0, .int a1, .int a2] => (f_X2_cascadeNumber F a0 a1 a2).bind fun r => κ (some (.int r)) u
  | _ => none
noncomputable def C_X2_cascadeNumber {α : Type} (F : Nat × Nat) : rx_Cl α := fun j as u κ => Bool.rec (motive := fun _ => Option α) (Bool.rec (motive := fun _ => Option α) (none) (c_X2_choose F as u κ) (Nat.beq j 47)) (c_X2_cascadeTop F as u κ) (Nat.beq j 45)
def t_X2_cascadeNumber : List rx_E := [
  (0, .iload_n 0, 1, 0, 0, 0, 0, 0, []),
  (1, .istore_n 3, 1, 0, 0, 0, 0, 0, []),
  (2, .iload_n 1, 1, 0, 0, 0, 0, 0, []),
  (3, .istore 4, 2, 0, 0, 0, 0, 0, []),
  (5, .iload 4, 2, 0, 0, 0, 0, 0, []),
  (7, .iconst 1, 1, 0, 0, 0, 1, 0, []),
  (8, .if_icmp .lt 42, 3, 50, 0, 0, 0, 0, []),
  (11, .iload_n 3, 1, 0, 0, 0, 0, 0, []),
  (12, .ifCond .le 38, 3, 50, 0, 0, 0, 0, []),
  (15, .iload_n 3, 1, 0, 0, 0, 0, 0, []),
  (16, .iload 4, 2, 0, 0, 0, 0, 0, []),
  (18, .invokestatic 15, 3, 45, 2, 446, 0, 0, []),
  (21, .istore 5, 2, 0, 0, 0, 0, 0, []),
  (23, .iload_n 1, 1, 0, 0, 0, 0, 0, []),
  (24, .iload 4, 2, 0, 0, 0, 0, 0, []),
  (26, .isub, 1, 0, 0, 0, 0, 0, []),
  (27, .iload_n 2, 1, 0, 0, 0, 0, 0, []),
  (28, .if_icmp .ne 6, 3, 34, 0, 0, 0, 0, []),
  (31, .iload 5, 2, 0, 0, 0, 0, 0, []),
  (33, .ireturn, 1, 0, 0, 0, 0, 0, []),
  (34, .iload_n 3, 1, 0, 0, 0, 0, 0, []),
  (35, .iload 5, 2, 0, 0, 0, 0, 0, []),
  (37, .iload 4, 2, 0, 0, 0, 0, 0, []),
  (39, .invokestatic 19, 3, 47, 2, 449, 0, 0, []),
  (42, .isub, 1, 0, 0, 0, 0, 0, []),
  (43, .istore_n 3, 1, 0, 0, 0, 0, 0, []),
  (44, .iinc 4 (-1), 3, 0, 0, 0, (-1), 0, []),
  (47, .goto (-42), 3, 5, 0, 0, 0, 0, []),
  (50, .bipush (-2), 2, 0, 0, 0, (-2), 0, []),
  (52, .ireturn, 1, 0, 0, 0, 0, 0, [])]
def n_X2_cascadeNumber_5 (k5 : Int32 → Int32 → Int32 → Int32 → Option Int32) (ls : rx_L) (st : List Value) (u : Option rx_H) : Option Int32 := match ls, st, u with
  | [_, some (.int x1), some (.int x2), some (.int x3), some (.int x4), _], [], none => k5 x1 x2 x3 x4
  | _, _, _ => none
noncomputable def kk_X2_cascadeNumber_5 (F : Nat × Nat) (k5 : Int32 → Int32 → Int32 → Int32 → Option Int32) : Nat → rx_L → List Value → Option rx_H → Option Int32 := fun t ls st u => Bool.rec (motive := fun _ => Option Int32) (none) (n_X2_cascadeNumber_5 k5 ls st u) (Nat.beq t 5)
noncomputable def kk_X2_cascadeNumber_0 (F : Nat × Nat) : Nat → rx_L → List Value → Option rx_H → Option Int32 := fun t ls st u => Bool.rec (motive := fun _ => Option Int32) (none) (n_X2_cascadeNumber_5 (f_X2_cascadeNumber_5 F F.1) ls st u) (Nat.beq t 5)
set_option maxRecDepth 100000 in
theorem g_X2_cascadeNumber_5 (F : Nat × Nat) (f : Nat) (x1 : Int32) (x2 : Int32) (x3 : Int32) (x4 : Int32) : f_X2_cascadeNumber_5 F (f + 1) x1 x2 x3 x4 = rx_node (C_X2_cascadeNumber F) rx_rI t_X2_cascadeNumber [5] (kk_X2_cascadeNumber_5 F (f_X2_cascadeNumber_5 F f)) 33 5 [none, some (.int x1), some (.int x2), some (.int x3), some (.int x4), none] [] none := rfl
set_option maxRecDepth 100000 in
theorem g_X2_cascadeNumber_0 (F : Nat × Nat) (x0 : Int32) (x1 : Int32) (x2 : Int32) : f_X2_cascadeNumber_0 F x0 x1 x2 = rx_node (C_X2_cascadeNumber F) rx_rI t_X2_cascadeNumber [5] (kk_X2_cascadeNumber_0 F) 33 0 [some (.int x0), some (.int x1), some (.int x2), none, none, none] [] none := rfl
def f_X2_leastShadow_7 (F : Nat × Nat) : Nat → Int32 → Int32 → Int32 → Option Int32
  | 0, _, _, _ => none
  | f + 1, x2, x3, x4 =>
    if x4 < (1 : Int32) then
      some x3
    else
      if 0 < x2 then
        (f_X2_cascadeTop F x2 x4).bind fun v1 =>
        (f_X2_choose F v1 (x4 - (1 : Int32))).bind fun v2 =>
        (f_X2_choose F v1 x4).bind fun v3 =>
        (f_X2_leastShadow_7 F f) (x2 - v3) (x3 + v2) (x4 + (-1))
      else
        some x3
def f_X2_leastShadow_0 (F : Nat × Nat) (x0 : Int32) (x1 : Int32) : Option Int32 :=
  f_X2_leastShadow_7 F F.1 x0 (0 : Int32) x1
def f_X2_leastShadow (F : Nat × Nat) (x0 : Int32) (x1 : Int32) : Option Int32 := f_X2_leastShadow_0 F x0 x1
def c_X2_leastShadow {α : Type} (F : Nat × Nat) (as : List Value) (u : Option rx_H) (κ : rx_K α) : Option α := match as with
  | [.int a0, .int a1] => (f_X2_leastShadow F a0 a1).bind fun r => κ (some (.int r)) u
  | _ => none
noncomputable def C_X2_leastShadow {α : Type} (F : Nat × Nat) : rx_Cl α := fun j as u κ => Bool.rec (motive := fun _ => Option α) (Bool.rec (motive := fun _ => Option α) (none) (c_X2_choose F as u κ) (Nat.beq j 47)) (c_X2_cascadeTop F as u κ) (Nat.beq j 45)
def t_X2_leastShadow : List rx_E := [
  (0, .iload_n 0, 1, 0, 0, 0, 0, 0, []),
  (1, .istore_n 2, 1, 0, 0, 0, 0, 0, []),
  (2, .iconst 0, 1, 0, 0, 0, 0, 0, []),
  (3, .istore_n 3, 1, 0, 0, 0, 0, 0, []),
  (4, .iload_n 1, 1, 0, 0, 0, 0, 0, []),
  (5, .istore 4, 2, 0, 0, 0, 0, 0, []),
  (7, .iload 4, 2, 0, 0, 0, 0, 0, []),
  (9, .iconst 1, 1, 0, 0, 0, 1, 0, []),
  (10, .if_icmp .lt 43, 3, 53, 0, 0, 0, 0, []),
  (13, .iload_n 2, 1, 0, 0, 0, 0, 0, []),
  (14, .ifCond .le 39, 3, 53, 0, 0, 0, 0, []),
  (17, .iload_n 2, 1, 0, 0, 0, 0, 0, []),
  (18, .iload 4, 2, 0, 0, 0, 0, 0, []),
  (20, .invokestatic 15, 3, 45, 2, 446, 0, 0, []),
  (23, .istore 5, 2, 0, 0, 0, 0, 0, []),
  (25, .iload_n 3, 1, 0, 0, 0, 0, 0, []),
  (26, .iload 5, 2, 0, 0, 0, 0, 0, []),
  (28, .iload 4, 2, 0, 0, 0, 0, 0, []),
  (30, .iconst 1, 1, 0, 0, 0, 1, 0, []),
  (31, .isub, 1, 0, 0, 0, 0, 0, []),
  (32, .invokestatic 19, 3, 47, 2, 449, 0, 0, []),
  (35, .iadd, 1, 0, 0, 0, 0, 0, []),
  (36, .istore_n 3, 1, 0, 0, 0, 0, 0, []),
  (37, .iload_n 2, 1, 0, 0, 0, 0, 0, []),
  (38, .iload 5, 2, 0, 0, 0, 0, 0, []),
  (40, .iload 4, 2, 0, 0, 0, 0, 0, []),
  (42, .invokestatic 19, 3, 47, 2, 449, 0, 0, []),
  (45, .isub, 1, 0, 0, 0, 0, 0, []),
  (46, .istore_n 2, 1, 0, 0, 0, 0, 0, []),
  (47, .iinc 4 (-1), 3, 0, 0, 0, (-1), 0, []),
  (50, .goto (-43), 3, 7, 0, 0, 0, 0, []),
  (53, .iload_n 3, 1, 0, 0, 0, 0, 0, []),
  (54, .ireturn, 1, 0, 0, 0, 0, 0, [])]
def n_X2_leastShadow_7 (k7 : Int32 → Int32 → Int32 → Option Int32) (ls : rx_L) (st : List Value) (u : Option rx_H) : Option Int32 := match ls, st, u with
  | [_, _, some (.int x2), some (.int x3), some (.int x4), _], [], none => k7 x2 x3 x4
  | _, _, _ => none
noncomputable def kk_X2_leastShadow_7 (F : Nat × Nat) (k7 : Int32 → Int32 → Int32 → Option Int32) : Nat → rx_L → List Value → Option rx_H → Option Int32 := fun t ls st u => Bool.rec (motive := fun _ => Option Int32) (none) (n_X2_leastShadow_7 k7 ls st u) (Nat.beq t 7)
noncomputable def kk_X2_leastShadow_0 (F : Nat × Nat) : Nat → rx_L → List Value → Option rx_H → Option Int32 := fun t ls st u => Bool.rec (motive := fun _ => Option Int32) (none) (n_X2_leastShadow_7 (f_X2_leastShadow_7 F F.1) ls st u) (Nat.beq t 7)
set_option maxRecDepth 100000 in
theorem g_X2_leastShadow_7 (F : Nat × Nat) (f : Nat) (x2 : Int32) (x3 : Int32) (x4 : Int32) : f_X2_leastShadow_7 F (f + 1) x2 x3 x4 = rx_node (C_X2_leastShadow F) rx_rI t_X2_leastShadow [7] (kk_X2_leastShadow_7 F (f_X2_leastShadow_7 F f)) 36 7 [none, none, some (.int x2), some (.int x3), some (.int x4), none] [] none := rfl
set_option maxRecDepth 100000 in
theorem g_X2_leastShadow_0 (F : Nat × Nat) (x0 : Int32) (x1 : Int32) : f_X2_leastShadow_0 F x0 x1 = rx_node (C_X2_leastShadow F) rx_rI t_X2_leastShadow [7] (kk_X2_leastShadow_0 F) 36 0 [some (.int x0), some (.int x1), none, none, none, none] [] none := rfl
def f_X2_matchedOnes_7 (F : Nat × Nat) : Nat → Int32 → Int32 → Int32 → Int32 → Int32 → Option Int32
  | 0, _, _, _, _, _ => none
  | f + 1, x0, x1, x2, x3, x4 =>
    if x4 < x1 then
      if (x0 >>> (x4 &&& 31)) &&& (1 : Int32) = 0 then
        (f_X2_matchedOnes_7 F f) x0 x1 (x2 + 1) x3 (x4 + 1)
      else
        if 0 < x2 then
          (f_X2_matchedOnes_7 F f) x0 x1 (x2 + (-1)) (x3 ||| ((1 : Int32) <<< (x4 &&& 31))) (x4 + 1)
        else
          (f_X2_matchedOnes_7 F f) x0 x1 x2 x3 (x4 + 1)
    else
      some x3
def f_X2_matchedOnes_0 (F : Nat × Nat) (x0 : Int32) (x1 : Int32) : Option Int32 :=
  f_X2_matchedOnes_7 F F.1 x0 x1 (0 : Int32) (0 : Int32) (0 : Int32)
def f_X2_matchedOnes (F : Nat × Nat) (x0 : Int32) (x1 : Int32) : Option Int32 := f_X2_matchedOnes_0 F x0 x1
def c_X2_matchedOnes {α : Type} (F : Nat × Nat) (as : List Value) (u : Option rx_H) (κ : rx_K α) : Option α := match as with
  | [.int a0, .int a1] => (f_X2_matchedOnes F a0 a1).bind fun r => κ (some (.int r)) u
  | _ => none
noncomputable def C_X2_matchedOnes {α : Type} (F : Nat × Nat) : rx_Cl α := fun j as u κ => none
def t_X2_matchedOnes : List rx_E := [
  (0, .iconst 0, 1, 0, 0, 0, 0, 0, []),
  (1, .istore_n 2, 1, 0, 0, 0, 0, 0, []),
  (2, .iconst 0, 1, 0, 0, 0, 0, 0, []),
  (3, .istore_n 3, 1, 0, 0, 0, 0, 0, []),
  (4, .iconst 0, 1, 0, 0, 0, 0, 0, []),
  (5, .istore 4, 2, 0, 0, 0, 0, 0, []),
  (7, .iload 4, 2, 0, 0, 0, 0, 0, []),
  (9, .iload_n 1, 1, 0, 0, 0, 0, 0, []),
  (10, .if_icmp .ge 38, 3, 48, 0, 0, 0, 0, []),
  (13, .iload_n 0, 1, 0, 0, 0, 0, 0, []),
  (14, .iload 4, 2, 0, 0, 0, 0, 0, []),
  (16, .ishr, 1, 0, 0, 0, 0, 0, []),
  (17, .iconst 1, 1, 0, 0, 0, 1, 0, []),
  (18, .iand, 1, 0, 0, 0, 0, 0, []),
  (19, .ifCond .ne 9, 3, 28, 0, 0, 0, 0, []),
  (22, .iinc 2 1, 3, 0, 0, 0, 1, 0, []),
  (25, .goto 17, 3, 42, 0, 0, 0, 0, []),
  (28, .iload_n 2, 1, 0, 0, 0, 0, 0, []),
  (29, .ifCond .le 13, 3, 42, 0, 0, 0, 0, []),
  (32, .iinc 2 (-1), 3, 0, 0, 0, (-1), 0, []),
  (35, .iload_n 3, 1, 0, 0, 0, 0, 0, []),
  (36, .iconst 1, 1, 0, 0, 0, 1, 0, []),
  (37, .iload 4, 2, 0, 0, 0, 0, 0, []),
  (39, .ishl, 1, 0, 0, 0, 0, 0, []),
  (40, .ior, 1, 0, 0, 0, 0, 0, []),
  (41, .istore_n 3, 1, 0, 0, 0, 0, 0, []),
  (42, .iinc 4 1, 3, 0, 0, 0, 1, 0, []),
  (45, .goto (-38), 3, 7, 0, 0, 0, 0, []),
  (48, .iload_n 3, 1, 0, 0, 0, 0, 0, []),
  (49, .ireturn, 1, 0, 0, 0, 0, 0, [])]
def n_X2_matchedOnes_7 (k7 : Int32 → Int32 → Int32 → Int32 → Int32 → Option Int32) (ls : rx_L) (st : List Value) (u : Option rx_H) : Option Int32 := match ls, st, u with
  | [some (.int x0), some (.int x1), some (.int x2), some (.int x3), some (.int x4)], [], none => k7 x0 x1 x2 x3 x4
  | _, _, _ => none
noncomputable def kk_X2_matchedOnes_7 (F : Nat × Nat) (k7 : Int32 → Int32 → Int32 → Int32 → Int32 → Option Int32) : Nat → rx_L → List Value → Option rx_H → Option Int32 := fun t ls st u => Bool.rec (motive := fun _ => Option Int32) (none) (n_X2_matchedOnes_7 k7 ls st u) (Nat.beq t 7)
noncomputable def kk_X2_matchedOnes_0 (F : Nat × Nat) : Nat → rx_L → List Value → Option rx_H → Option Int32 := fun t ls st u => Bool.rec (motive := fun _ => Option Int32) (none) (n_X2_matchedOnes_7 (f_X2_matchedOnes_7 F F.1) ls st u) (Nat.beq t 7)
set_option maxRecDepth 100000 in
theorem g_X2_matchedOnes_7 (F : Nat × Nat) (f : Nat) (x0 : Int32) (x1 : Int32) (x2 : Int32) (x3 : Int32) (x4 : Int32) : f_X2_matchedOnes_7 F (f + 1) x0 x1 x2 x3 x4 = rx_node (C_X2_matchedOnes F) rx_rI t_X2_matchedOnes [7] (kk_X2_matchedOnes_7 F (f_X2_matchedOnes_7 F f)) 33 7 [some (.int x0), some (.int x1), some (.int x2), some (.int x3), some (.int x4)] [] none := rfl
set_option maxRecDepth 100000 in
theorem g_X2_matchedOnes_0 (F : Nat × Nat) (x0 : Int32) (x1 : Int32) : f_X2_matchedOnes_0 F x0 x1 = rx_node (C_X2_matchedOnes F) rx_rI t_X2_matchedOnes [7] (kk_X2_matchedOnes_0 F) 33 0 [some (.int x0), some (.int x1), none, none, none] [] none := rfl
def f_X3_digit_0 (F : Nat × Nat) (x0 : Int32) (x1 : Int32) : Option Int32 :=
  some ((x0 >>> (((3 : Int32) * x1) &&& 31)) &&& (7 : Int32))
def f_X3_digit (F : Nat × Nat) (x0 : Int32) (x1 : Int32) : Option Int32 := f_X3_digit_0 F x0 x1
def c_X3_digit {α : Type} (F : Nat × Nat) (as : List Value) (u : Option rx_H) (κ : rx_K α) : Option α := match as with
  | [.int a0, .int a1] => (f_X3_digit F a0 a1).bind fun r => κ (some (.int r)) u
  | _ => none
noncomputable def C_X3_digit {α : Type} (F : Nat × Nat) : rx_Cl α := fun j as u κ => none
def t_X3_digit : List rx_E := [
  (0, .iload_n 0, 1, 0, 0, 0, 0, 0, []),
  (1, .iconst 3, 1, 0, 0, 0, 3, 0, []),
  (2, .iload_n 1, 1, 0, 0, 0, 0, 0, []),
  (3, .imul, 1, 0, 0, 0, 0, 0, []),
  (4, .ishr, 1, 0, 0, 0, 0, 0, []),
  (5, .bipush 7, 2, 0, 0, 0, 7, 0, []),
  (7, .iand, 1, 0, 0, 0, 0, 0, []),
  (8, .ireturn, 1, 0, 0, 0, 0, 0, [])]
noncomputable def kk_X3_digit_0 (F : Nat × Nat) : Nat → rx_L → List Value → Option rx_H → Option Int32 := fun t ls st u => none
set_option maxRecDepth 100000 in
theorem g_X3_digit_0 (F : Nat × Nat) (x0 : Int32) (x1 : Int32) : f_X3_digit_0 F x0 x1 = rx_node (C_X3_digit F) rx_rI t_X3_digit [] (kk_X3_digit_0 F) 11 0 [some (.int x0), some (.int x1)] [] none := rfl
def f_X3_isOrder_18 (F : Nat × Nat) : Nat → Int32 → Int32 → Int32 → Int32 → Option Int32
  | 0, _, _, _, _ => none
  | f + 1, x0, x1, x2, x3 =>
    if x3 < x1 then
      (f_X3_digit F x0 x3).bind fun v1 =>
      (f_X3_isOrder_18 F f) x0 x1 (x2 ||| ((1 : Int32) <<< (v1 &&& 31))) (x3 + 1)
    else
      if x2 = ((1 : Int32) <<< (x1 &&& 31)) - (1 : Int32) then
        some (1 : Int32)
      else
        some (0 : Int32)
def f_X3_isOrder_0 (F : Nat × Nat) (x0 : Int32) (x1 : Int32) : Option Int32 :=
  if x0 < 0 then
    some (0 : Int32)
  else
    if x0 >>> (((3 : Int32) * x1) &&& 31) = 0 then
      f_X3_isOrder_18 F F.1 x0 x1 (0 : Int32) (0 : Int32)
    else
      some (0 : Int32)
def f_X3_isOrder (F : Nat × Nat) (x0 : Int32) (x1 : Int32) : Option Int32 := f_X3_isOrder_0 F x0 x1
def c_X3_isOrder {α : Type} (F : Nat × Nat) (as : List Value) (u : Option rx_H) (κ : rx_K α) : Option α := match as with
  | [.int a0, .int a1] => (f_X3_isOrder F a0 a1).bind fun r => κ (some (.int r)) u
  | _ => none
noncomputable def C_X3_isOrder {α : Type} (F : Nat × Nat) : rx_Cl α := fun j as u κ => Bool.rec (motive := fun _ => Option α) (none) (c_X3_digit F as u κ) (Nat.beq j 54)
def t_X3_isOrder : List rx_E := [
  (0, .iload_n 0, 1, 0, 0, 0, 0, 0, []),
  (1, .ifCond .lt 11, 3, 12, 0, 0, 0, 0, []),
  (4, .iload_n 0, 1, 0, 0, 0, 0, 0, []),
  (5, .iconst 3, 1, 0, 0, 0, 3, 0, []),
  (6, .iload_n 1, 1, 0, 0, 0, 0, 0, []),
  (7, .imul, 1, 0, 0, 0, 0, 0, []),
  (8, .ishr, 1, 0, 0, 0, 0, 0, []),
  (9, .ifCond .eq 5, 3, 14, 0, 0, 0, 0, []),
  (12, .iconst 0, 1, 0, 0, 0, 0, 0, []),
  (13, .ireturn, 1, 0, 2, 0, 0, 0, []),
  (14, .iconst 0, 1, 0, 0, 0, 0, 0, []),
  (15, .istore_n 2, 1, 0, 0, 0, 0, 0, []),
  (16, .iconst 0, 1, 0, 0, 0, 0, 0, []),
  (17, .istore_n 3, 1, 0, 0, 0, 0, 0, []),
  (18, .iload_n 3, 1, 0, 0, 0, 0, 0, []),
  (19, .iload_n 1, 1, 0, 0, 0, 0, 0, []),
  (20, .if_icmp .ge 19, 3, 39, 0, 0, 0, 0, []),
  (23, .iload_n 2, 1, 0, 0, 0, 0, 0, []),
  (24, .iconst 1, 1, 0, 0, 0, 1, 0, []),
  (25, .iload_n 0, 1, 0, 0, 0, 0, 0, []),
  (26, .iload_n 3, 1, 0, 0, 0, 0, 0, []),
  (27, .invokestatic 9, 3, 54, 2, 392, 0, 0, []),
  (30, .ishl, 1, 0, 0, 0, 0, 0, []),
  (31, .ior, 1, 0, 0, 0, 0, 0, []),
  (32, .istore_n 2, 1, 0, 0, 0, 0, 0, []),
  (33, .iinc 3 1, 3, 0, 0, 0, 1, 0, []),
  (36, .goto (-18), 3, 18, 0, 0, 0, 0, []),
  (39, .iload_n 2, 1, 0, 0, 0, 0, 0, []),
  (40, .iconst 1, 1, 0, 0, 0, 1, 0, []),
  (41, .iload_n 1, 1, 0, 0, 0, 0, 0, []),
  (42, .ishl, 1, 0, 0, 0, 0, 0, []),
  (43, .iconst 1, 1, 0, 0, 0, 1, 0, []),
  (44, .isub, 1, 0, 0, 0, 0, 0, []),
  (45, .if_icmp .ne 7, 3, 52, 0, 0, 0, 0, []),
  (48, .iconst 1, 1, 0, 0, 0, 1, 0, []),
  (49, .goto 4, 3, 53, 0, 0, 0, 0, []),
  (52, .iconst 0, 1, 0, 0, 0, 0, 0, []),
  (53, .ireturn, 1, 0, 2, 0, 0, 0, [])]
def n_X3_isOrder_18 (k18 : Int32 → Int32 → Int32 → Int32 → Option Int32) (ls : rx_L) (st : List Value) (u : Option rx_H) : Option Int32 := match ls, st, u with
  | [some (.int x0), some (.int x1), some (.int x2), some (.int x3)], [], none => k18 x0 x1 x2 x3
  | _, _, _ => none
noncomputable def kk_X3_isOrder_18 (F : Nat × Nat) (k18 : Int32 → Int32 → Int32 → Int32 → Option Int32) : Nat → rx_L → List Value → Option rx_H → Option Int32 := fun t ls st u => Bool.rec (motive := fun _ => Option Int32) (none) (n_X3_isOrder_18 k18 ls st u) (Nat.beq t 18)
noncomputable def kk_X3_isOrder_0 (F : Nat × Nat) : Nat → rx_L → List Value → Option rx_H → Option Int32 := fun t ls st u => Bool.rec (motive := fun _ => Option Int32) (none) (n_X3_isOrder_18 (f_X3_isOrder_18 F F.1) ls st u) (Nat.beq t 18)
set_option maxRecDepth 100000 in
theorem g_X3_isOrder_18 (F : Nat × Nat) (f : Nat) (x0 : Int32) (x1 : Int32) (x2 : Int32) (x3 : Int32) : f_X3_isOrder_18 F (f + 1) x0 x1 x2 x3 = rx_node (C_X3_isOrder F) rx_rI t_X3_isOrder [18] (kk_X3_isOrder_18 F (f_X3_isOrder_18 F f)) 41 18 [some (.int x0), some (.int x1), some (.int x2), some (.int x3)] [] none := rfl
set_option maxRecDepth 100000 in
theorem g_X3_isOrder_0 (F : Nat × Nat) (x0 : Int32) (x1 : Int32) : f_X3_isOrder_0 F x0 x1 = rx_node (C_X3_isOrder F) rx_rI t_X3_isOrder [18] (kk_X3_isOrder_0 F) 41 0 [some (.int x0), some (.int x1), none, none] [] none := rfl
def f_X3_unturned_4 (F : Nat × Nat) : Nat → Int32 → Int32 → Int32 → Option Int32
  | 0, _, _, _ => none
  | f + 1, x0, x1, x2 =>
    if x2 < x0 then
      (f_X3_unturned_4 F f) x0 (x1 ||| (x2 <<< (((3 : Int32) * x2) &&& 31))) (x2 + 1)
    else
      some x1
def f_X3_unturned_0 (F : Nat × Nat) (x0 : Int32) : Option Int32 :=
  f_X3_unturned_4 F F.1 x0 (0 : Int32) (0 : Int32)
def f_X3_unturned (F : Nat × Nat) (x0 : Int32) : Option Int32 := f_X3_unturned_0 F x0
def c_X3_unturned {α : Type} (F : Nat × Nat) (as : List Value) (u : Option rx_H) (κ : rx_K α) : Option α := match as with
  | [.int a0] => (f_X3_unturned F a0).bind fun r => κ (some (.int r)) u
  | _ => none
noncomputable def C_X3_unturned {α : Type} (F : Nat × Nat) : rx_Cl α := fun j as u κ => none
def t_X3_unturned : List rx_E := [
  (0, .iconst 0, 1, 0, 0, 0, 0, 0, []),
  (1, .istore_n 1, 1, 0, 0, 0, 0, 0, []),
  (2, .iconst 0, 1, 0, 0, 0, 0, 0, []),
  (3, .istore_n 2, 1, 0, 0, 0, 0, 0, []),
  (4, .iload_n 2, 1, 0, 0, 0, 0, 0, []),
  (5, .iload_n 0, 1, 0, 0, 0, 0, 0, []),
  (6, .if_icmp .ge 17, 3, 23, 0, 0, 0, 0, []),
  (9, .iload_n 1, 1, 0, 0, 0, 0, 0, []),
  (10, .iload_n 2, 1, 0, 0, 0, 0, 0, []),
  (11, .iconst 3, 1, 0, 0, 0, 3, 0, []),
  (12, .iload_n 2, 1, 0, 0, 0, 0, 0, []),
  (13, .imul, 1, 0, 0, 0, 0, 0, []),
  (14, .ishl, 1, 0, 0, 0, 0, 0, []),
  (15, .ior, 1, 0, 0, 0, 0, 0, []),
  (16, .istore_n 1, 1, 0, 0, 0, 0, 0, []),
  (17, .iinc 2 1, 3, 0, 0, 0, 1, 0, []),
  (20, .goto (-16), 3, 4, 0, 0, 0, 0, []),
  (23, .iload_n 1, 1, 0, 0, 0, 0, 0, []),
  (24, .ireturn, 1, 0, 0, 0, 0, 0, [])]
def n_X3_unturned_4 (k4 : Int32 → Int32 → Int32 → Option Int32) (ls : rx_L) (st : List Value) (u : Option rx_H) : Option Int32 := match ls, st, u with
  | [some (.int x0), some (.int x1), some (.int x2)], [], none => k4 x0 x1 x2
  | _, _, _ => none
noncomputable def kk_X3_unturned_4 (F : Nat × Nat) (k4 : Int32 → Int32 → Int32 → Option Int32) : Nat → rx_L → List Value → Option rx_H → Option Int32 := fun t ls st u => Bool.rec (motive := fun _ => Option Int32) (none) (n_X3_unturned_4 k4 ls st u) (Nat.beq t 4)
noncomputable def kk_X3_unturned_0 (F : Nat × Nat) : Nat → rx_L → List Value → Option rx_H → Option Int32 := fun t ls st u => Bool.rec (motive := fun _ => Option Int32) (none) (n_X3_unturned_4 (f_X3_unturned_4 F F.1) ls st u) (Nat.beq t 4)
set_option maxRecDepth 100000 in
theorem g_X3_unturned_4 (F : Nat × Nat) (f : Nat) (x0 : Int32) (x1 : Int32) (x2 : Int32) : f_X3_unturned_4 F (f + 1) x0 x1 x2 = rx_node (C_X3_unturned F) rx_rI t_X3_unturned [4] (kk_X3_unturned_4 F (f_X3_unturned_4 F f)) 22 4 [some (.int x0), some (.int x1), some (.int x2)] [] none := rfl
set_option maxRecDepth 100000 in
theorem g_X3_unturned_0 (F : Nat × Nat) (x0 : Int32) : f_X3_unturned_0 F x0 = rx_node (C_X3_unturned F) rx_rI t_X3_unturned [4] (kk_X3_unturned_0 F) 22 0 [some (.int x0), none, none] [] none := rfl
def f_X3_swapDigits_0 (F : Nat × Nat) (x0 : Int32) (x1 : Int32) (x2 : Int32) : Option Int32 :=
  (f_X3_digit F x0 x1).bind fun v1 =>
  (f_X3_digit F x0 x2).bind fun v2 =>
  if x1 = x2 then
    some x0
  else
    some ((x0 ^^^ ((v1 ^^^ v2) <<< (((3 : Int32) * x1) &&& 31))) ^^^ ((v1 ^^^ v2) <<< (((3 : Int32) * x2) &&& 31)))
def f_X3_swapDigits (F : Nat × Nat) (x0 : Int32) (x1 : Int32) (x2 : Int32) : Option Int32 := f_X3_swapDigits_0 F x0 x1 x2
def c_X3_swapDigits {α : Type} (F : Nat × Nat) (as : List Value) (u : Option rx_H) (κ : rx_K α) : Option α := match as with
  | [.int a0, .int a1, .int a2] => (f_X3_swapDigits F a0 a1 a2).bind fun r => κ (some (.int r)) u
  | _ => none
noncomputable def C_X3_swapDigits {α : Type} (F : Nat × Nat) : rx_Cl α := fun j as u κ => Bool.rec (motive := fun _ => Option α) (none) (c_X3_digit F as u κ) (Nat.beq j 54)
def t_X3_swapDigits : List rx_E := [
  (0, .iload_n 0, 1, 0, 0, 0, 0, 0, []),
  (1, .iload_n 1, 1, 0, 0, 0, 0, 0, []),
  (2, .invokestatic 9, 3, 54, 2, 392, 0, 0, []),
  (5, .iload_n 0, 1, 0, 0, 0, 0, 0, []),
  (6, .iload_n 2, 1, 0, 0, 0, 0, 0, []),
  (7, .invokestatic 9, 3, 54, 2, 392, 0, 0, []),
  (10, .ixor, 1, 0, 0, 0, 0, 0, []),
  (11, .istore_n 3, 1, 0, 0, 0, 0, 0, []),
  (12, .iload_n 1, 1, 0, 0, 0, 0, 0, []),
  (13, .iload_n 2, 1, 0, 0, 0, 0, 0, []),
  (14, .if_icmp .ne 7, 3, 21, 0, 0, 0, 0, []),
  (17, .iload_n 0, 1, 0, 0, 0, 0, 0, []),
  (18, .goto 16, 3, 34, 0, 0, 0, 0, []),
  (21, .iload_n 0, 1, 0, 0, 0, 0, 0, []),
  (22, .iload_n 3, 1, 0, 0, 0, 0, 0, []),
  (23, .iconst 3, 1, 0, 0, 0, 3, 0, []),
  (24, .iload_n 1, 1, 0, 0, 0, 0, 0, []),
  (25, .imul, 1, 0, 0, 0, 0, 0, []),
  (26, .ishl, 1, 0, 0, 0, 0, 0, []),
  (27, .ixor, 1, 0, 0, 0, 0, 0, []),
  (28, .iload_n 3, 1, 0, 0, 0, 0, 0, []),
  (29, .iconst 3, 1, 0, 0, 0, 3, 0, []),
  (30, .iload_n 2, 1, 0, 0, 0, 0, 0, []),
  (31, .imul, 1, 0, 0, 0, 0, 0, []),
  (32, .ishl, 1, 0, 0, 0, 0, 0, []),
  (33, .ixor, 1, 0, 0, 0, 0, 0, []),
  (34, .ireturn, 1, 0, 0, 0, 0, 0, [])]
noncomputable def kk_X3_swapDigits_0 (F : Nat × Nat) : Nat → rx_L → List Value → Option rx_H → Option Int32 := fun t ls st u => none
set_option maxRecDepth 100000 in
theorem g_X3_swapDigits_0 (F : Nat × Nat) (x0 : Int32) (x1 : Int32) (x2 : Int32) : f_X3_swapDigits_0 F x0 x1 x2 = rx_node (C_X3_swapDigits F) rx_rI t_X3_swapDigits [] (kk_X3_swapDigits_0 F) 30 0 [some (.int x0), some (.int x1), some (.int x2), none] [] none := rfl
def f_X3_turnedBy_23 (F : Nat × Nat) (k10 : Int64 → Int32 → Int32 → Int64 → Int32 → Option Int64) : Nat → Int64 → Int32 → Int32 → Int64 → Int32 → Int32 → Int32 → Option Int64
  | 0, _, _, _, _, _, _, _ => none
  | f + 1, x0, x2, x3, x4, x6, x7, x8 =>
    if x8 < x3 then
      (f_X3_digit F x2 x8).bind fun v1 =>
      (f_X3_turnedBy_23 F k10 f) x0 x2 x3 x4 x6 (x7 ||| (((x6 >>> (x8 &&& 31)) &&& (1 : Int32)) <<< (v1 &&& 31))) (x8 + 1)
    else
      (f_X0_next F x0 (x6 + (1 : Int32))).bind fun v2 =>
      k10 x0 x2 x3 (x4 ||| ((1 : Int64) <<< (Int32.toInt64 x7 &&& 63))) v2
def f_X3_turnedBy_10 (F : Nat × Nat) : Nat → Int64 → Int32 → Int32 → Int64 → Int32 → Option Int64
  | 0, _, _, _, _, _ => none
  | f + 1, x0, x2, x3, x4, x6 =>
    if x6 < (64 : Int32) then
      f_X3_turnedBy_23 F (f_X3_turnedBy_10 F f) F.1 x0 x2 x3 x4 x6 (0 : Int32) (0 : Int32)
    else
      some x4
def f_X3_turnedBy_0 (F : Nat × Nat) (x0 : Int64) (x2 : Int32) (x3 : Int32) : Option Int64 :=
  (f_X0_next F x0 (0 : Int32)).bind fun v1 =>
  f_X3_turnedBy_10 F F.1 x0 x2 x3 (0 : Int64) v1
def f_X3_turnedBy (F : Nat × Nat) (x0 : Int64) (x2 : Int32) (x3 : Int32) : Option Int64 := f_X3_turnedBy_0 F x0 x2 x3
def c_X3_turnedBy {α : Type} (F : Nat × Nat) (as : List Value) (u : Option rx_H) (κ : rx_K α) : Option α := match as with
  | [.long a0, .int a1, .int a2] => (f_X3_turnedBy F a0 a1 a2).bind fun r => κ (some (.long r)) u
  | _ => none
noncomputable def C_X3_turnedBy {α : Type} (F : Nat × Nat) : rx_Cl α := fun j as u κ => Bool.rec (motive := fun _ => Option α) (Bool.rec (motive := fun _ => Option α) (none) (c_X3_digit F as u κ) (Nat.beq j 54)) (c_X0_next F as u κ) (Nat.beq j 23)
def t_X3_turnedBy : List rx_E := [
  (0, .lconst 0, 1, 0, 0, 0, 0, 0, []),
  (1, .lstore 4, 2, 0, 0, 0, 0, 0, []),
  (3, .lload_n 0, 1, 0, 0, 0, 0, 0, []),
  (4, .iconst 0, 1, 0, 0, 0, 0, 0, []),
  (5, .invokestatic 15, 3, 23, 2, 398, 0, 0, []),
  (8, .istore 6, 2, 0, 0, 0, 0, 0, []),
  (10, .iload 6, 2, 0, 0, 0, 0, 0, []),
  (12, .bipush 64, 2, 0, 0, 0, 64, 0, []),
  (14, .if_icmp .ge 62, 3, 76, 0, 0, 0, 0, []),
  (17, .iconst 0, 1, 0, 0, 0, 0, 0, []),
  (18, .istore 7, 2, 0, 0, 0, 0, 0, []),
  (20, .iconst 0, 1, 0, 0, 0, 0, 0, []),
  (21, .istore 8, 2, 0, 0, 0, 0, 0, []),
  (23, .iload 8, 2, 0, 0, 0, 0, 0, []),
  (25, .iload_n 3, 1, 0, 0, 0, 0, 0, []),
  (26, .if_icmp .ge 28, 3, 54, 0, 0, 0, 0, []),
  (29, .iload 7, 2, 0, 0, 0, 0, 0, []),
  (31, .iload 6, 2, 0, 0, 0, 0, 0, []),
  (33, .iload 8, 2, 0, 0, 0, 0, 0, []),
  (35, .ishr, 1, 0, 0, 0, 0, 0, []),
  (36, .iconst 1, 1, 0, 0, 0, 1, 0, []),
  (37, .iand, 1, 0, 0, 0, 0, 0, []),
  (38, .iload_n 2, 1, 0, 0, 0, 0, 0, []),
  (39, .iload 8, 2, 0, 0, 0, 0, 0, []),
  (41, .invokestatic 9, 3, 54, 2, 392, 0, 0, []),
  (44, .ishl, 1, 0, 0, 0, 0, 0, []),
  (45, .ior, 1, 0, 0, 0, 0, 0, []),
  (46, .istore 7, 2, 0, 0, 0, 0, 0, []),
  (48, .iinc 8 1, 3, 0, 0, 0, 1, 0, []),
  (51, .goto (-28), 3, 23, 0, 0, 0, 0, []),
  (54, .lload 4, 2, 0, 0, 0, 0, 0, []),
  (56, .lconst 1, 1, 0, 0, 0, 0, 1, []),
  (57, .iload 7, 2, 0, 0, 0, 0, 0, []),
  (59, .lshl, 1, 0, 0, 0, 0, 0, []),
  (60, .lor, 1, 0, 0, 0, 0, 0, []),
  (61, .lstore 4, 2, 0, 0, 0, 0, 0, []),
  (63, .lload_n 0, 1, 0, 0, 0, 0, 0, []),
  (64, .iload 6, 2, 0, 0, 0, 0, 0, []),
  (66, .iconst 1, 1, 0, 0, 0, 1, 0, []),
  (67, .iadd, 1, 0, 0, 0, 0, 0, []),
  (68, .invokestatic 15, 3, 23, 2, 398, 0, 0, []),
  (71, .istore 6, 2, 0, 0, 0, 0, 0, []),
  (73, .goto (-63), 3, 10, 0, 0, 0, 0, []),
  (76, .lload 4, 2, 0, 0, 0, 0, 0, []),
  (78, .lreturn, 1, 0, 0, 0, 0, 0, [])]
def n_X3_turnedBy_10 (k10 : Int64 → Int32 → Int32 → Int64 → Int32 → Option Int64) (ls : rx_L) (st : List Value) (u : Option rx_H) : Option Int64 := match ls, st, u with
  | [some (.long x0), _, some (.int x2), some (.int x3), some (.long x4), _, some (.int x6), _, _], [], none => k10 x0 x2 x3 x4 x6
  | _, _, _ => none
def n_X3_turnedBy_23 (k23 : Int64 → Int32 → Int32 → Int64 → Int32 → Int32 → Int32 → Option Int64) (ls : rx_L) (st : List Value) (u : Option rx_H) : Option Int64 := match ls, st, u with
  | [some (.long x0), _, some (.int x2), some (.int x3), some (.long x4), _, some (.int x6), some (.int x7), some (.int x8)], [], none => k23 x0 x2 x3 x4 x6 x7 x8
  | _, _, _ => none
noncomputable def kk_X3_turnedBy_23 (F : Nat × Nat) (k10 : Int64 → Int32 → Int32 → Int64 → Int32 → Option Int64) (k23 : Int64 → Int32 → Int32 → Int64 → Int32 → Int32 → Int32 → Option Int64) : Nat → rx_L → List Value → Option rx_H → Option Int64 := fun t ls st u => Bool.rec (motive := fun _ => Option Int64) (Bool.rec (motive := fun _ => Option Int64) (none) (n_X3_turnedBy_23 k23 ls st u) (Nat.beq t 23)) (n_X3_turnedBy_10 k10 ls st u) (Nat.beq t 10)
noncomputable def kk_X3_turnedBy_10 (F : Nat × Nat) (k10 : Int64 → Int32 → Int32 → Int64 → Int32 → Option Int64) : Nat → rx_L → List Value → Option rx_H → Option Int64 := fun t ls st u => Bool.rec (motive := fun _ => Option Int64) (none) (n_X3_turnedBy_23 (f_X3_turnedBy_23 F k10 F.1) ls st u) (Nat.beq t 23)
noncomputable def kk_X3_turnedBy_0 (F : Nat × Nat) : Nat → rx_L → List Value → Option rx_H → Option Int64 := fun t ls st u => Bool.rec (motive := fun _ => Option Int64) (none) (n_X3_turnedBy_10 (f_X3_turnedBy_10 F F.1) ls st u) (Nat.beq t 10)
set_option maxRecDepth 100000 in
theorem g_X3_turnedBy_23 (F : Nat × Nat) (k10 : Int64 → Int32 → Int32 → Int64 → Int32 → Option Int64) (f : Nat) (x0 : Int64) (x2 : Int32) (x3 : Int32) (x4 : Int64) (x6 : Int32) (x7 : Int32) (x8 : Int32) : f_X3_turnedBy_23 F k10 (f + 1) x0 x2 x3 x4 x6 x7 x8 = rx_node (C_X3_turnedBy F) rx_rJ t_X3_turnedBy [10, 23] (kk_X3_turnedBy_23 F k10 (f_X3_turnedBy_23 F k10 f)) 48 23 [some (.long x0), none, some (.int x2), some (.int x3), some (.long x4), none, some (.int x6), some (.int x7), some (.int x8)] [] none := rfl
set_option maxRecDepth 100000 in
theorem g_X3_turnedBy_10 (F : Nat × Nat) (f : Nat) (x0 : Int64) (x2 : Int32) (x3 : Int32) (x4 : Int64) (x6 : Int32) : f_X3_turnedBy_10 F (f + 1) x0 x2 x3 x4 x6 = rx_node (C_X3_turnedBy F) rx_rJ t_X3_turnedBy [10, 23] (kk_X3_turnedBy_10 F (f_X3_turnedBy_10 F f)) 48 10 [some (.long x0), none, some (.int x2), some (.int x3), some (.long x4), none, some (.int x6), none, none] [] none := rfl
set_option maxRecDepth 100000 in
theorem g_X3_turnedBy_0 (F : Nat × Nat) (x0 : Int64) (x2 : Int32) (x3 : Int32) : f_X3_turnedBy_0 F x0 x2 x3 = rx_node (C_X3_turnedBy F) rx_rJ t_X3_turnedBy [10, 23] (kk_X3_turnedBy_0 F) 48 0 [some (.long x0), none, some (.int x2), some (.int x3), none, none, none, none, none] [] none := rfl
def f_X3_stretch_33 (F : Nat × Nat) (k6 : Int32 → Int32 → Int32 → Int32 → Int32 → Int32 → Option Int32) (x0 : Int32) (x1 : Int32) (x2 : Int32) (x3 : Int32) (x5 : Int32) (s0 : Int32) (s1 : Int32) (s2 : Int32) (s3 : Int32) : Option Int32 :=
  (f_X3_digit F s2 s3).bind fun v1 =>
  k6 x0 x1 x2 x3 (s0 ||| (s1 <<< (v1 &&& 31))) (x5 + 1)
def f_X3_stretch_6 (F : Nat × Nat) : Nat → Int32 → Int32 → Int32 → Int32 → Int32 → Int32 → Option Int32
  | 0, _, _, _, _, _, _ => none
  | f + 1, x0, x1, x2, x3, x4, x5 =>
    if x5 < x1 + x2 then
      if x5 < x3 then
        f_X3_stretch_33 F (f_X3_stretch_6 F f) x0 x1 x2 x3 x5 x4 (1 : Int32) x0 x5
      else
        f_X3_stretch_33 F (f_X3_stretch_6 F f) x0 x1 x2 x3 x5 x4 (1 : Int32) x0 (x5 - x3)
    else
      some x4
def f_X3_stretch_0 (F : Nat × Nat) (x0 : Int32) (x1 : Int32) (x2 : Int32) (x3 : Int32) : Option Int32 :=
  f_X3_stretch_6 F F.1 x0 x1 x2 x3 (0 : Int32) x1
def f_X3_stretch (F : Nat × Nat) (x0 : Int32) (x1 : Int32) (x2 : Int32) (x3 : Int32) : Option Int32 := f_X3_stretch_0 F x0 x1 x2 x3
def c_X3_stretch {α : Type} (F : Nat × Nat) (as : List Value) (u : Option rx_H) (κ : rx_K α) : Option α := match as with
  | [.int a0, .int a1, .int a2, .int a3] => (f_X3_stretch F a0 a1 a2 a3).bind fun r => κ (some (.int r)) u
  | _ => none
noncomputable def C_X3_stretch {α : Type} (F : Nat × Nat) : rx_Cl α := fun j as u κ => Bool.rec (motive := fun _ => Option α) (none) (c_X3_digit F as u κ) (Nat.beq j 54)
def t_X3_stretch : List rx_E := [
  (0, .iconst 0, 1, 0, 0, 0, 0, 0, []),
  (1, .istore 4, 2, 0, 0, 0, 0, 0, []),
  (3, .iload_n 1, 1, 0, 0, 0, 0, 0, []),
  (4, .istore 5, 2, 0, 0, 0, 0, 0, []),
  (6, .iload 5, 2, 0, 0, 0, 0, 0, []),
  (8, .iload_n 1, 1, 0, 0, 0, 0, 0, []),
  (9, .iload_n 2, 1, 0, 0, 0, 0, 0, []),
  (10, .iadd, 1, 0, 0, 0, 0, 0, []),
  (11, .if_icmp .ge 35, 3, 46, 0, 0, 0, 0, []),
  (14, .iload 4, 2, 0, 0, 0, 0, 0, []),
  (16, .iconst 1, 1, 0, 0, 0, 1, 0, []),
  (17, .iload_n 0, 1, 0, 0, 0, 0, 0, []),
  (18, .iload 5, 2, 0, 0, 0, 0, 0, []),
  (20, .iload_n 3, 1, 0, 0, 0, 0, 0, []),
  (21, .if_icmp .ge 8, 3, 29, 0, 0, 0, 0, []),
  (24, .iload 5, 2, 0, 0, 0, 0, 0, []),
  (26, .goto 7, 3, 33, 0, 0, 0, 0, []),
  (29, .iload 5, 2, 0, 0, 0, 0, 0, []),
  (31, .iload_n 3, 1, 0, 0, 0, 0, 0, []),
  (32, .isub, 1, 0, 0, 0, 0, 0, []),
  (33, .invokestatic 9, 3, 54, 2, 392, 0, 0, []),
  (36, .ishl, 1, 0, 0, 0, 0, 0, []),
  (37, .ior, 1, 0, 0, 0, 0, 0, []),
  (38, .istore 4, 2, 0, 0, 0, 0, 0, []),
  (40, .iinc 5 1, 3, 0, 0, 0, 1, 0, []),
  (43, .goto (-37), 3, 6, 0, 0, 0, 0, []),
  (46, .iload 4, 2, 0, 0, 0, 0, 0, []),
  (48, .ireturn, 1, 0, 0, 0, 0, 0, [])]
def n_X3_stretch_6 (k6 : Int32 → Int32 → Int32 → Int32 → Int32 → Int32 → Option Int32) (ls : rx_L) (st : List Value) (u : Option rx_H) : Option Int32 := match ls, st, u with
  | [some (.int x0), some (.int x1), some (.int x2), some (.int x3), some (.int x4), some (.int x5)], [], none => k6 x0 x1 x2 x3 x4 x5
  | _, _, _ => none
def n_X3_stretch_33 (F : Nat × Nat) (k6 : Int32 → Int32 → Int32 → Int32 → Int32 → Int32 → Option Int32) (ls : rx_L) (st : List Value) (u : Option rx_H) : Option Int32 := match ls, st, u with
  | [some (.int x0), some (.int x1), some (.int x2), some (.int x3), _, some (.int x5)], [.int s3, .int s2, .int s1, .int s0], none => f_X3_stretch_33 F k6 x0 x1 x2 x3 x5 s0 s1 s2 s3
  | _, _, _ => none
noncomputable def kk_X3_stretch_33 (F : Nat × Nat) (k6 : Int32 → Int32 → Int32 → Int32 → Int32 → Int32 → Option Int32) : Nat → rx_L → List Value → Option rx_H → Option Int32 := fun t ls st u => Bool.rec (motive := fun _ => Option Int32) (none) (n_X3_stretch_6 k6 ls st u) (Nat.beq t 6)
noncomputable def kk_X3_stretch_6 (F : Nat × Nat) (k6 : Int32 → Int32 → Int32 → Int32 → Int32 → Int32 → Option Int32) : Nat → rx_L → List Value → Option rx_H → Option Int32 := fun t ls st u => Bool.rec (motive := fun _ => Option Int32) (none) (n_X3_stretch_33 F k6 ls st u) (Nat.beq t 33)
noncomputable def kk_X3_stretch_0 (F : Nat × Nat) : Nat → rx_L → List Value → Option rx_H → Option Int32 := fun t ls st u => Bool.rec (motive := fun _ => Option Int32) (none) (n_X3_stretch_6 (f_X3_stretch_6 F F.1) ls st u) (Nat.beq t 6)
set_option maxRecDepth 100000 in
theorem g_X3_stretch_33 (F : Nat × Nat) (k6 : Int32 → Int32 → Int32 → Int32 → Int32 → Int32 → Option Int32) (x0 : Int32) (x1 : Int32) (x2 : Int32) (x3 : Int32) (x5 : Int32) (s0 : Int32) (s1 : Int32) (s2 : Int32) (s3 : Int32) : f_X3_stretch_33 F k6 x0 x1 x2 x3 x5 s0 s1 s2 s3 = rx_node (C_X3_stretch F) rx_rI t_X3_stretch [6, 33] (kk_X3_stretch_33 F k6) 31 33 [some (.int x0), some (.int x1), some (.int x2), some (.int x3), none, some (.int x5)] [.int s3, .int s2, .int s1, .int s0] none := rfl
set_option maxRecDepth 100000 in
theorem g_X3_stretch_6 (F : Nat × Nat) (f : Nat) (x0 : Int32) (x1 : Int32) (x2 : Int32) (x3 : Int32) (x4 : Int32) (x5 : Int32) : f_X3_stretch_6 F (f + 1) x0 x1 x2 x3 x4 x5 = rx_node (C_X3_stretch F) rx_rI t_X3_stretch [6, 33] (kk_X3_stretch_6 F (f_X3_stretch_6 F f)) 31 6 [some (.int x0), some (.int x1), some (.int x2), some (.int x3), some (.int x4), some (.int x5)] [] none := rfl
set_option maxRecDepth 100000 in
theorem g_X3_stretch_0 (F : Nat × Nat) (x0 : Int32) (x1 : Int32) (x2 : Int32) (x3 : Int32) : f_X3_stretch_0 F x0 x1 x2 x3 = rx_node (C_X3_stretch F) rx_rI t_X3_stretch [6, 33] (kk_X3_stretch_0 F) 31 0 [some (.int x0), some (.int x1), some (.int x2), some (.int x3), none, none] [] none := rfl
def f_X3_agree_0 (F : Nat × Nat) (x0 : Int64) (x2 : Int64) (x4 : Int32) : Option Int32 :=
  (f_X0_below F ((1 : Int32) <<< (x4 &&& 31))).bind fun v1 =>
  if (x0 ^^^ x2) &&& v1 = (0 : Int64) then
    some (1 : Int32)
  else
    some (0 : Int32)
def f_X3_agree (F : Nat × Nat) (x0 : Int64) (x2 : Int64) (x4 : Int32) : Option Int32 := f_X3_agree_0 F x0 x2 x4
def c_X3_agree {α : Type} (F : Nat × Nat) (as : List Value) (u : Option rx_H) (κ : rx_K α) : Option α := match as with
  | [.long a0, .long a1, .int a2] => (f_X3_agree F a0 a1 a2).bind fun r => κ (some (.int r)) u
  | _ => none
noncomputable def C_X3_agree {α : Type} (F : Nat × Nat) : rx_Cl α := fun j as u κ => Bool.rec (motive := fun _ => Option α) (none) (c_X0_below F as u κ) (Nat.beq j 11)
def t_X3_agree : List rx_E := [
  (0, .lload_n 0, 1, 0, 0, 0, 0, 0, []),
  (1, .lload_n 2, 1, 0, 0, 0, 0, 0, []),
  (2, .lxor, 1, 0, 0, 0, 0, 0, []),
  (3, .iconst 1, 1, 0, 0, 0, 1, 0, []),
  (4, .iload 4, 2, 0, 0, 0, 0, 0, []),
  (6, .ishl, 1, 0, 0, 0, 0, 0, []),
  (7, .invokestatic 41, 3, 11, 1, 577, 0, 0, []),
  (10, .land, 1, 0, 0, 0, 0, 0, []),
  (11, .lconst 0, 1, 0, 0, 0, 0, 0, []),
  (12, .lcmp, 1, 0, 0, 0, 0, 0, []),
  (13, .ifCond .ne 7, 3, 20, 0, 0, 0, 0, []),
  (16, .iconst 1, 1, 0, 0, 0, 1, 0, []),
  (17, .goto 4, 3, 21, 0, 0, 0, 0, []),
  (20, .iconst 0, 1, 0, 0, 0, 0, 0, []),
  (21, .ireturn, 1, 0, 2, 0, 0, 0, [])]
noncomputable def kk_X3_agree_0 (F : Nat × Nat) : Nat → rx_L → List Value → Option rx_H → Option Int32 := fun t ls st u => none
set_option maxRecDepth 100000 in
theorem g_X3_agree_0 (F : Nat × Nat) (x0 : Int64) (x2 : Int64) (x4 : Int32) : f_X3_agree_0 F x0 x2 x4 = rx_node (C_X3_agree F) rx_rI t_X3_agree [] (kk_X3_agree_0 F) 18 0 [some (.long x0), none, some (.long x2), none, some (.int x4)] [] none := rfl
def f_X3_leastTurn_34 (F : Nat × Nat) (self : Int64 → Int64 → Int32 → Int32 → Int32 → Option Int32) : Nat → Int64 → Int32 → Int32 → Int64 → Int32 → Int32 → Option Int32
  | 0, _, _, _, _, _, _ => none
  | f + 1, x0, x5, x6, x7, x9, x10 =>
    if x10 < x6 then
      (f_X0_swapped F x7 x5 x10).bind fun v1 =>
      (f_X3_swapDigits F x9 x5 x10).bind fun v2 =>
      (self x0 v1 v2 (x5 + (1 : Int32)) x6).bind fun v3 =>
      if v3 = (-2 : Int32) then
        (f_X3_leastTurn_34 F self f) x0 x5 x6 v1 v2 (x10 + 1)
      else
        some v3
    else
      some (-2 : Int32)
def f_X3_leastTurn_0 (F : Nat × Nat) (self : Int64 → Int64 → Int32 → Int32 → Int32 → Option Int32) (x0 : Int64) (x2 : Int64) (x4 : Int32) (x5 : Int32) (x6 : Int32) : Option Int32 :=
  (f_X3_agree F x0 x2 x5).bind fun v1 =>
  if v1 = 0 then
    some (-2 : Int32)
  else
    if x5 < x6 then
      f_X3_leastTurn_34 F self F.1 x0 x5 x6 x2 x4 x5
    else
      some x4
def f_X3_leastTurn (F : Nat × Nat) : Nat → Int64 → Int64 → Int32 → Int32 → Int32 → Option Int32
  | 0, _, _, _, _, _ => none
  | d + 1, x0, x2, x4, x5, x6 => f_X3_leastTurn_0 F (f_X3_leastTurn F d) x0 x2 x4 x5 x6
def c_X3_leastTurn {α : Type} (F : Nat × Nat) (d : Nat) (as : List Value) (u : Option rx_H) (κ : rx_K α) : Option α := match as with
  | [.long a0, .long a1, .int a2, .int a3, .int a4] => (f_X3_leastTurn F d a0 a1 a2 a3 a4).bind fun r => κ (some (.int r)) u
  | _ => none
noncomputable def C_X3_leastTurn {α : Type} (F : Nat × Nat) (d : Nat) : rx_Cl α := fun j as u κ => Bool.rec (motive := fun _ => Option α) (Bool.rec (motive := fun _ => Option α) (Bool.rec (motive := fun _ => Option α) (Bool.rec (motive := fun _ => Option α) (none) (c_X3_swapDigits F as u κ) (Nat.beq j 58)) (c_X3_leastTurn F d as u κ) (Nat.beq j 56)) (c_X3_agree F as u κ) (Nat.beq j 52)) (c_X0_swapped F as u κ) (Nat.beq j 29)
def t_X3_leastTurn : List rx_E := [
  (0, .lload_n 0, 1, 0, 0, 0, 0, 0, []),
  (1, .lload_n 2, 1, 0, 0, 0, 0, 0, []),
  (2, .iload 5, 2, 0, 0, 0, 0, 0, []),
  (4, .invokestatic 21, 3, 52, 3, 574, 0, 0, []),
  (7, .ifCond .ne 6, 3, 13, 0, 0, 0, 0, []),
  (10, .bipush (-2), 2, 0, 0, 0, (-2), 0, []),
  (12, .ireturn, 1, 0, 0, 0, 0, 0, []),
  (13, .iload 5, 2, 0, 0, 0, 0, 0, []),
  (15, .iload 6, 2, 0, 0, 0, 0, 0, []),
  (17, .if_icmp .lt 6, 3, 23, 0, 0, 0, 0, []),
  (20, .iload 4, 2, 0, 0, 0, 0, 0, []),
  (22, .ireturn, 1, 0, 0, 0, 0, 0, []),
  (23, .lload_n 2, 1, 0, 0, 0, 0, 0, []),
  (24, .lstore 7, 2, 0, 0, 0, 0, 0, []),
  (26, .iload 4, 2, 0, 0, 0, 0, 0, []),
  (28, .istore 9, 2, 0, 0, 0, 0, 0, []),
  (30, .iload 5, 2, 0, 0, 0, 0, 0, []),
  (32, .istore 10, 2, 0, 0, 0, 0, 0, []),
  (34, .iload 10, 2, 0, 0, 0, 0, 0, []),
  (36, .iload 6, 2, 0, 0, 0, 0, 0, []),
  (38, .if_icmp .ge 57, 3, 95, 0, 0, 0, 0, []),
  (41, .lload 7, 2, 0, 0, 0, 0, 0, []),
  (43, .iload 5, 2, 0, 0, 0, 0, 0, []),
  (45, .iload 10, 2, 0, 0, 0, 0, 0, []),
  (47, .invokestatic 25, 3, 29, 3, 578, 0, 0, []),
  (50, .lstore 7, 2, 0, 0, 0, 0, 0, []),
  (52, .iload 9, 2, 0, 0, 0, 0, 0, []),
  (54, .iload 5, 2, 0, 0, 0, 0, 0, []),
  (56, .iload 10, 2, 0, 0, 0, 0, 0, []),
  (58, .invokestatic 29, 3, 58, 3, 581, 0, 0, []),
  (61, .istore 9, 2, 0, 0, 0, 0, 0, []),
  (63, .lload_n 0, 1, 0, 0, 0, 0, 0, []),
  (64, .lload 7, 2, 0, 0, 0, 0, 0, []),
  (66, .iload 9, 2, 0, 0, 0, 0, 0, []),
  (68, .iload 5, 2, 0, 0, 0, 0, 0, []),
  (70, .iconst 1, 1, 0, 0, 0, 1, 0, []),
  (71, .iadd, 1, 0, 0, 0, 0, 0, []),
  (72, .iload 6, 2, 0, 0, 0, 0, 0, []),
  (74, .invokestatic 33, 3, 56, 5, 584, 0, 0, []),
  (77, .istore 11, 2, 0, 0, 0, 0, 0, []),
  (79, .iload 11, 2, 0, 0, 0, 0, 0, []),
  (81, .bipush (-2), 2, 0, 0, 0, (-2), 0, []),
  (83, .if_icmp .eq 6, 3, 89, 0, 0, 0, 0, []),
  (86, .iload 11, 2, 0, 0, 0, 0, 0, []),
  (88, .ireturn, 1, 0, 0, 0, 0, 0, []),
  (89, .iinc 10 1, 3, 0, 0, 0, 1, 0, []),
  (92, .goto (-58), 3, 34, 0, 0, 0, 0, []),
  (95, .bipush (-2), 2, 0, 0, 0, (-2), 0, []),
  (97, .ireturn, 1, 0, 0, 0, 0, 0, [])]
def n_X3_leastTurn_34 (k34 : Int64 → Int32 → Int32 → Int64 → Int32 → Int32 → Option Int32) (ls : rx_L) (st : List Value) (u : Option rx_H) : Option Int32 := match ls, st, u with
  | [some (.long x0), _, _, _, _, some (.int x5), some (.int x6), some (.long x7), _, some (.int x9), some (.int x10), _], [], none => k34 x0 x5 x6 x7 x9 x10
  | _, _, _ => none
noncomputable def kk_X3_leastTurn_34 (F : Nat × Nat) (self : Int64 → Int64 → Int32 → Int32 → Int32 → Option Int32) (k34 : Int64 → Int32 → Int32 → Int64 → Int32 → Int32 → Option Int32) : Nat → rx_L → List Value → Option rx_H → Option Int32 := fun t ls st u => Bool.rec (motive := fun _ => Option Int32) (none) (n_X3_leastTurn_34 k34 ls st u) (Nat.beq t 34)
noncomputable def kk_X3_leastTurn_0 (F : Nat × Nat) (self : Int64 → Int64 → Int32 → Int32 → Int32 → Option Int32) : Nat → rx_L → List Value → Option rx_H → Option Int32 := fun t ls st u => Bool.rec (motive := fun _ => Option Int32) (none) (n_X3_leastTurn_34 (f_X3_leastTurn_34 F self F.1) ls st u) (Nat.beq t 34)
set_option maxRecDepth 100000 in
theorem g_X3_leastTurn_34 (F : Nat × Nat) (d : Nat) (f : Nat) (x0 : Int64) (x5 : Int32) (x6 : Int32) (x7 : Int64) (x9 : Int32) (x10 : Int32) : f_X3_leastTurn_34 F (f_X3_leastTurn F d) (f + 1) x0 x5 x6 x7 x9 x10 = rx_node (C_X3_leastTurn F d) rx_rI t_X3_leastTurn [34] (kk_X3_leastTurn_34 F (f_X3_leastTurn F d) (f_X3_leastTurn_34 F (f_X3_leastTurn F d) f)) 52 34 [some (.long x0), none, none, none, none, some (.int x5), some (.int x6), some (.long x7), none, some (.int x9), some (.int x10), none] [] none := rfl
set_option maxRecDepth 100000 in
theorem g_X3_leastTurn_0 (F : Nat × Nat) (d : Nat) (x0 : Int64) (x2 : Int64) (x4 : Int32) (x5 : Int32) (x6 : Int32) : f_X3_leastTurn_0 F (f_X3_leastTurn F d) x0 x2 x4 x5 x6 = rx_node (C_X3_leastTurn F d) rx_rI t_X3_leastTurn [34] (kk_X3_leastTurn_0 F (f_X3_leastTurn F d)) 52 0 [some (.long x0), none, some (.long x2), none, some (.int x4), some (.int x5), some (.int x6), none, none, none, none, none] [] none := rfl
def f_X3_countTurns_31 (F : Nat × Nat) (self : Int64 → Int64 → Int32 → Int32 → Option Int32) : Nat → Int64 → Int32 → Int32 → Int64 → Int32 → Int32 → Option Int32
  | 0, _, _, _, _, _, _ => none
  | f + 1, x0, x4, x5, x6, x8, x9 =>
    if x9 < x5 then
      (f_X0_swapped F x6 x4 x9).bind fun v1 =>
      (self x0 v1 (x4 + (1 : Int32)) x5).bind fun v2 =>
      (f_X3_countTurns_31 F self f) x0 x4 x5 v1 (x8 + v2) (x9 + 1)
    else
      some x8
def f_X3_countTurns_0 (F : Nat × Nat) (self : Int64 → Int64 → Int32 → Int32 → Option Int32) (x0 : Int64) (x2 : Int64) (x4 : Int32) (x5 : Int32) : Option Int32 :=
  (f_X3_agree F x0 x2 x4).bind fun v1 =>
  if v1 = 0 then
    some (0 : Int32)
  else
    if x4 < x5 then
      f_X3_countTurns_31 F self F.1 x0 x4 x5 x2 (0 : Int32) x4
    else
      some (1 : Int32)
def f_X3_countTurns (F : Nat × Nat) : Nat → Int64 → Int64 → Int32 → Int32 → Option Int32
  | 0, _, _, _, _ => none
  | d + 1, x0, x2, x4, x5 => f_X3_countTurns_0 F (f_X3_countTurns F d) x0 x2 x4 x5
def c_X3_countTurns {α : Type} (F : Nat × Nat) (d : Nat) (as : List Value) (u : Option rx_H) (κ : rx_K α) : Option α := match as with
  | [.long a0, .long a1, .int a2, .int a3] => (f_X3_countTurns F d a0 a1 a2 a3).bind fun r => κ (some (.int r)) u
  | _ => none
noncomputable def C_X3_countTurns {α : Type} (F : Nat × Nat) (d : Nat) : rx_Cl α := fun j as u κ => Bool.rec (motive := fun _ => Option α) (Bool.rec (motive := fun _ => Option α) (Bool.rec (motive := fun _ => Option α) (none) (c_X3_countTurns F d as u κ) (Nat.beq j 53)) (c_X3_agree F as u κ) (Nat.beq j 52)) (c_X0_swapped F as u κ) (Nat.beq j 29)
def t_X3_countTurns : List rx_E := [
  (0, .lload_n 0, 1, 0, 0, 0, 0, 0, []),
  (1, .lload_n 2, 1, 0, 0, 0, 0, 0, []),
  (2, .iload 4, 2, 0, 0, 0, 0, 0, []),
  (4, .invokestatic 21, 3, 52, 3, 574, 0, 0, []),
  (7, .ifCond .ne 5, 3, 12, 0, 0, 0, 0, []),
  (10, .iconst 0, 1, 0, 0, 0, 0, 0, []),
  (11, .ireturn, 1, 0, 0, 0, 0, 0, []),
  (12, .iload 4, 2, 0, 0, 0, 0, 0, []),
  (14, .iload 5, 2, 0, 0, 0, 0, 0, []),
  (16, .if_icmp .lt 5, 3, 21, 0, 0, 0, 0, []),
  (19, .iconst 1, 1, 0, 0, 0, 1, 0, []),
  (20, .ireturn, 1, 0, 0, 0, 0, 0, []),
  (21, .lload_n 2, 1, 0, 0, 0, 0, 0, []),
  (22, .lstore 6, 2, 0, 0, 0, 0, 0, []),
  (24, .iconst 0, 1, 0, 0, 0, 0, 0, []),
  (25, .istore 8, 2, 0, 0, 0, 0, 0, []),
  (27, .iload 4, 2, 0, 0, 0, 0, 0, []),
  (29, .istore 9, 2, 0, 0, 0, 0, 0, []),
  (31, .iload 9, 2, 0, 0, 0, 0, 0, []),
  (33, .iload 5, 2, 0, 0, 0, 0, 0, []),
  (35, .if_icmp .ge 37, 3, 72, 0, 0, 0, 0, []),
  (38, .lload 6, 2, 0, 0, 0, 0, 0, []),
  (40, .iload 4, 2, 0, 0, 0, 0, 0, []),
  (42, .iload 9, 2, 0, 0, 0, 0, 0, []),
  (44, .invokestatic 25, 3, 29, 3, 578, 0, 0, []),
  (47, .lstore 6, 2, 0, 0, 0, 0, 0, []),
  (49, .iload 8, 2, 0, 0, 0, 0, 0, []),
  (51, .lload_n 0, 1, 0, 0, 0, 0, 0, []),
  (52, .lload 6, 2, 0, 0, 0, 0, 0, []),
  (54, .iload 4, 2, 0, 0, 0, 0, 0, []),
  (56, .iconst 1, 1, 0, 0, 0, 1, 0, []),
  (57, .iadd, 1, 0, 0, 0, 0, 0, []),
  (58, .iload 5, 2, 0, 0, 0, 0, 0, []),
  (60, .invokestatic 37, 3, 53, 4, 592, 0, 0, []),
  (63, .iadd, 1, 0, 0, 0, 0, 0, []),
  (64, .istore 8, 2, 0, 0, 0, 0, 0, []),
  (66, .iinc 9 1, 3, 0, 0, 0, 1, 0, []),
  (69, .goto (-38), 3, 31, 0, 0, 0, 0, []),
  (72, .iload 8, 2, 0, 0, 0, 0, 0, []),
  (74, .ireturn, 1, 0, 0, 0, 0, 0, [])]
def n_X3_countTurns_31 (k31 : Int64 → Int32 → Int32 → Int64 → Int32 → Int32 → Option Int32) (ls : rx_L) (st : List Value) (u : Option rx_H) : Option Int32 := match ls, st, u with
  | [some (.long x0), _, _, _, some (.int x4), some (.int x5), some (.long x6), _, some (.int x8), some (.int x9)], [], none => k31 x0 x4 x5 x6 x8 x9
  | _, _, _ => none
noncomputable def kk_X3_countTurns_31 (F : Nat × Nat) (self : Int64 → Int64 → Int32 → Int32 → Option Int32) (k31 : Int64 → Int32 → Int32 → Int64 → Int32 → Int32 → Option Int32) : Nat → rx_L → List Value → Option rx_H → Option Int32 := fun t ls st u => Bool.rec (motive := fun _ => Option Int32) (none) (n_X3_countTurns_31 k31 ls st u) (Nat.beq t 31)
noncomputable def kk_X3_countTurns_0 (F : Nat × Nat) (self : Int64 → Int64 → Int32 → Int32 → Option Int32) : Nat → rx_L → List Value → Option rx_H → Option Int32 := fun t ls st u => Bool.rec (motive := fun _ => Option Int32) (none) (n_X3_countTurns_31 (f_X3_countTurns_31 F self F.1) ls st u) (Nat.beq t 31)
set_option maxRecDepth 100000 in
theorem g_X3_countTurns_31 (F : Nat × Nat) (d : Nat) (f : Nat) (x0 : Int64) (x4 : Int32) (x5 : Int32) (x6 : Int64) (x8 : Int32) (x9 : Int32) : f_X3_countTurns_31 F (f_X3_countTurns F d) (f + 1) x0 x4 x5 x6 x8 x9 = rx_node (C_X3_countTurns F d) rx_rI t_X3_countTurns [31] (kk_X3_countTurns_31 F (f_X3_countTurns F d) (f_X3_countTurns_31 F (f_X3_countTurns F d) f)) 43 31 [some (.long x0), none, none, none, some (.int x4), some (.int x5), some (.long x6), none, some (.int x8), some (.int x9)] [] none := rfl
set_option maxRecDepth 100000 in
theorem g_X3_countTurns_0 (F : Nat × Nat) (d : Nat) (x0 : Int64) (x2 : Int64) (x4 : Int32) (x5 : Int32) : f_X3_countTurns_0 F (f_X3_countTurns F d) x0 x2 x4 x5 = rx_node (C_X3_countTurns F d) rx_rI t_X3_countTurns [31] (kk_X3_countTurns_0 F (f_X3_countTurns F d)) 43 0 [some (.long x0), none, some (.long x2), none, some (.int x4), some (.int x5), none, none, none, none] [] none := rfl
def f_J9_min_7cf53_0 (F : Nat × Nat) (x0 : Int32) (x1 : Int32) : Option Int32 :=
  if x1 < x0 then
    some x1
  else
    some x0
def f_J9_min_7cf53 (F : Nat × Nat) (x0 : Int32) (x1 : Int32) : Option Int32 := f_J9_min_7cf53_0 F x0 x1
def c_J9_min_7cf53 {α : Type} (F : Nat × Nat) (as : List Value) (u : Option rx_H) (κ : rx_K α) : Option α := match as with
  | [.int a0, .int a1] => (f_J9_min_7cf53 F a0 a1).bind fun r => κ (some (.int r)) u
  | _ => none
noncomputable def C_J9_min_7cf53 {α : Type} (F : Nat × Nat) : rx_Cl α := fun j as u κ => none
def t_J9_min_7cf53 : List rx_E := [
  (0, .iload_n 0, 1, 0, 0, 0, 0, 0, []),
  (1, .iload_n 1, 1, 0, 0, 0, 0, 0, []),
  (2, .if_icmp .gt 7, 3, 9, 0, 0, 0, 0, []),
  (5, .iload_n 0, 1, 0, 0, 0, 0, 0, []),
  (6, .goto 4, 3, 10, 0, 0, 0, 0, []),
  (9, .iload_n 1, 1, 0, 0, 0, 0, 0, []),
  (10, .ireturn, 1, 0, 0, 0, 0, 0, [])]
noncomputable def kk_J9_min_7cf53_0 (F : Nat × Nat) : Nat → rx_L → List Value → Option rx_H → Option Int32 := fun t ls st u => none
set_option maxRecDepth 100000 in
theorem g_J9_min_7cf53_0 (F : Nat × Nat) (x0 : Int32) (x1 : Int32) : f_J9_min_7cf53_0 F x0 x1 = rx_node (C_J9_min_7cf53 F) rx_rI t_J9_min_7cf53 [] (kk_J9_min_7cf53_0 F) 10 0 [some (.int x0), some (.int x1)] [] none := rfl
def f_X5_fitting_0 (F : Nat × Nat) (x0 : Int64) (x2 : Int32) (x3 : Int32) (x4 : Int32) : Option Int64 :=
  (f_X0_below F (x2 + (1 : Int32))).bind fun v1 =>
  (f_X0_within F ((63 : Int32) - x4)).bind fun v2 =>
  some ((x0 &&& (v1 ^^^ (-1 : Int64))) &&& (v2 <<< (Int32.toInt64 x3 &&& 63)))
def f_X5_fitting (F : Nat × Nat) (x0 : Int64) (x2 : Int32) (x3 : Int32) (x4 : Int32) : Option Int64 := f_X5_fitting_0 F x0 x2 x3 x4
def c_X5_fitting {α : Type} (F : Nat × Nat) (as : List Value) (u : Option rx_H) (κ : rx_K α) : Option α := match as with
  | [.long a0, .int a1, .int a2, .int a3] => (f_X5_fitting F a0 a1 a2 a3).bind fun r => κ (some (.long r)) u
  | _ => none
noncomputable def C_X5_fitting {α : Type} (F : Nat × Nat) : rx_Cl α := fun j as u κ => Bool.rec (motive := fun _ => Option α) (Bool.rec (motive := fun _ => Option α) (none) (c_X0_within F as u κ) (Nat.beq j 30)) (c_X0_below F as u κ) (Nat.beq j 11)
def t_X5_fitting : List rx_E := [
  (0, .lload_n 0, 1, 0, 0, 0, 0, 0, []),
  (1, .iload_n 2, 1, 0, 0, 0, 0, 0, []),
  (2, .iconst 1, 1, 0, 0, 0, 1, 0, []),
  (3, .iadd, 1, 0, 0, 0, 0, 0, []),
  (4, .invokestatic 43, 3, 11, 1, 507, 0, 0, []),
  (7, .ldc2_w 47, 3, 0, 0, 508, 0, (-1), []),
  (10, .lxor, 1, 0, 0, 0, 0, 0, []),
  (11, .land, 1, 0, 0, 0, 0, 0, []),
  (12, .bipush 63, 2, 0, 0, 0, 63, 0, []),
  (14, .iload 4, 2, 0, 0, 0, 0, 0, []),
  (16, .isub, 1, 0, 0, 0, 0, 0, []),
  (17, .invokestatic 49, 3, 30, 1, 509, 0, 0, []),
  (20, .iload_n 3, 1, 0, 0, 0, 0, 0, []),
  (21, .lshl, 1, 0, 0, 0, 0, 0, []),
  (22, .land, 1, 0, 0, 0, 0, 0, []),
  (23, .lreturn, 1, 0, 0, 0, 0, 0, [])]
noncomputable def kk_X5_fitting_0 (F : Nat × Nat) : Nat → rx_L → List Value → Option rx_H → Option Int64 := fun t ls st u => none
set_option maxRecDepth 100000 in
theorem g_X5_fitting_0 (F : Nat × Nat) (x0 : Int64) (x2 : Int32) (x3 : Int32) (x4 : Int32) : f_X5_fitting_0 F x0 x2 x3 x4 = rx_node (C_X5_fitting F) rx_rJ t_X5_fitting [] (kk_X5_fitting_0 F) 19 0 [some (.long x0), none, some (.int x2), some (.int x3), some (.int x4)] [] none := rfl
def f_J9_max_7cf53_0 (F : Nat × Nat) (x0 : Int32) (x1 : Int32) : Option Int32 :=
  if x0 < x1 then
    some x1
  else
    some x0
def f_J9_max_7cf53 (F : Nat × Nat) (x0 : Int32) (x1 : Int32) : Option Int32 := f_J9_max_7cf53_0 F x0 x1
def c_J9_max_7cf53 {α : Type} (F : Nat × Nat) (as : List Value) (u : Option rx_H) (κ : rx_K α) : Option α := match as with
  | [.int a0, .int a1] => (f_J9_max_7cf53 F a0 a1).bind fun r => κ (some (.int r)) u
  | _ => none
noncomputable def C_J9_max_7cf53 {α : Type} (F : Nat × Nat) : rx_Cl α := fun j as u κ => none
def t_J9_max_7cf53 : List rx_E := [
  (0, .iload_n 0, 1, 0, 0, 0, 0, 0, []),
  (1, .iload_n 1, 1, 0, 0, 0, 0, 0, []),
  (2, .if_icmp .lt 7, 3, 9, 0, 0, 0, 0, []),
  (5, .iload_n 0, 1, 0, 0, 0, 0, 0, []),
  (6, .goto 4, 3, 10, 0, 0, 0, 0, []),
  (9, .iload_n 1, 1, 0, 0, 0, 0, 0, []),
  (10, .ireturn, 1, 0, 0, 0, 0, 0, [])]
noncomputable def kk_J9_max_7cf53_0 (F : Nat × Nat) : Nat → rx_L → List Value → Option rx_H → Option Int32 := fun t ls st u => none
set_option maxRecDepth 100000 in
theorem g_J9_max_7cf53_0 (F : Nat × Nat) (x0 : Int32) (x1 : Int32) : f_J9_max_7cf53_0 F x0 x1 = rx_node (C_J9_max_7cf53 F) rx_rI t_J9_max_7cf53 [] (kk_J9_max_7cf53_0 F) 10 0 [some (.int x0), some (.int x1)] [] none := rfl
def f_X5_near_41 (F : Nat × Nat) (k10 : Int64 → Int32 → Int32 → Int64 → Int32 → Option Int64) (x0 : Int64) (x2 : Int32) (x3 : Int32) (x4 : Int64) (x6 : Int32) : Option Int64 :=
  (f_X0_next F x0 (x6 + (1 : Int32))).bind fun v1 =>
  k10 x0 x2 x3 x4 v1
def f_X5_near_10 (F : Nat × Nat) : Nat → Int64 → Int32 → Int32 → Int64 → Int32 → Option Int64
  | 0, _, _, _, _, _ => none
  | f + 1, x0, x2, x3, x4, x6 =>
    if x6 < (64 : Int32) then
      (f_J6_bitCount_0f7a4 F (x6 &&& x2)).bind fun v1 =>
      if v1 < x3 then
        f_X5_near_41 F (f_X5_near_10 F f) x0 x2 x3 (x4 &&& (((1 : Int64) <<< (Int32.toInt64 x6 &&& 63)) ^^^ (-1 : Int64))) x6
      else
        f_X5_near_41 F (f_X5_near_10 F f) x0 x2 x3 x4 x6
    else
      some x4
def f_X5_near_0 (F : Nat × Nat) (x0 : Int64) (x2 : Int32) (x3 : Int32) : Option Int64 :=
  (f_X0_next F x0 (0 : Int32)).bind fun v1 =>
  f_X5_near_10 F F.1 x0 x2 x3 x0 v1
def f_X5_near (F : Nat × Nat) (x0 : Int64) (x2 : Int32) (x3 : Int32) : Option Int64 := f_X5_near_0 F x0 x2 x3
def c_X5_near {α : Type} (F : Nat × Nat) (as : List Value) (u : Option rx_H) (κ : rx_K α) : Option α := match as with
  | [.long a0, .int a1, .int a2] => (f_X5_near F a0 a1 a2).bind fun r => κ (some (.long r)) u
  | _ => none
noncomputable def C_X5_near {α : Type} (F : Nat × Nat) : rx_Cl α := fun j as u κ => Bool.rec (motive := fun _ => Option α) (Bool.rec (motive := fun _ => Option α) (none) (c_X0_next F as u κ) (Nat.beq j 23)) (c_J6_bitCount_0f7a4 F as u κ) (Nat.beq j 1)
def t_X5_near : List rx_E := [
  (0, .lload_n 0, 1, 0, 0, 0, 0, 0, []),
  (1, .lstore 4, 2, 0, 0, 0, 0, 0, []),
  (3, .lload_n 0, 1, 0, 0, 0, 0, 0, []),
  (4, .iconst 0, 1, 0, 0, 0, 0, 0, []),
  (5, .invokestatic 29, 3, 23, 2, 498, 0, 0, []),
  (8, .istore 6, 2, 0, 0, 0, 0, 0, []),
  (10, .iload 6, 2, 0, 0, 0, 0, 0, []),
  (12, .bipush 64, 2, 0, 0, 0, 64, 0, []),
  (14, .if_icmp .ge 40, 3, 54, 0, 0, 0, 0, []),
  (17, .iload 6, 2, 0, 0, 0, 0, 0, []),
  (19, .iload_n 2, 1, 0, 0, 0, 0, 0, []),
  (20, .iand, 1, 0, 0, 0, 0, 0, []),
  (21, .invokestatic 52, 3, 1, 1, 503, 0, 0, []),
  (24, .iload_n 3, 1, 0, 0, 0, 0, 0, []),
  (25, .if_icmp .ge 16, 3, 41, 0, 0, 0, 0, []),
  (28, .lload 4, 2, 0, 0, 0, 0, 0, []),
  (30, .lconst 1, 1, 0, 0, 0, 0, 1, []),
  (31, .iload 6, 2, 0, 0, 0, 0, 0, []),
  (33, .lshl, 1, 0, 0, 0, 0, 0, []),
  (34, .ldc2_w 47, 3, 0, 0, 508, 0, (-1), []),
  (37, .lxor, 1, 0, 0, 0, 0, 0, []),
  (38, .land, 1, 0, 0, 0, 0, 0, []),
  (39, .lstore 4, 2, 0, 0, 0, 0, 0, []),
  (41, .lload_n 0, 1, 0, 0, 0, 0, 0, []),
  (42, .iload 6, 2, 0, 0, 0, 0, 0, []),
  (44, .iconst 1, 1, 0, 0, 0, 1, 0, []),
  (45, .iadd, 1, 0, 0, 0, 0, 0, []),
  (46, .invokestatic 29, 3, 23, 2, 498, 0, 0, []),
  (49, .istore 6, 2, 0, 0, 0, 0, 0, []),
  (51, .goto (-41), 3, 10, 0, 0, 0, 0, []),
  (54, .lload 4, 2, 0, 0, 0, 0, 0, []),
  (56, .lreturn, 1, 0, 0, 0, 0, 0, [])]
def n_X5_near_10 (k10 : Int64 → Int32 → Int32 → Int64 → Int32 → Option Int64) (ls : rx_L) (st : List Value) (u : Option rx_H) : Option Int64 := match ls, st, u with
  | [some (.long x0), _, some (.int x2), some (.int x3), some (.long x4), _, some (.int x6)], [], none => k10 x0 x2 x3 x4 x6
  | _, _, _ => none
def n_X5_near_41 (F : Nat × Nat) (k10 : Int64 → Int32 → Int32 → Int64 → Int32 → Option Int64) (ls : rx_L) (st : List Value) (u : Option rx_H) : Option Int64 := match ls, st, u with
  | [some (.long x0), _, some (.int x2), some (.int x3), some (.long x4), _, some (.int x6)], [], none => f_X5_near_41 F k10 x0 x2 x3 x4 x6
  | _, _, _ => none
noncomputable def kk_X5_near_41 (F : Nat × Nat) (k10 : Int64 → Int32 → Int32 → Int64 → Int32 → Option Int64) : Nat → rx_L → List Value → Option rx_H → Option Int64 := fun t ls st u => Bool.rec (motive := fun _ => Option Int64) (none) (n_X5_near_10 k10 ls st u) (Nat.beq t 10)
noncomputable def kk_X5_near_10 (F : Nat × Nat) (k10 : Int64 → Int32 → Int32 → Int64 → Int32 → Option Int64) : Nat → rx_L → List Value → Option rx_H → Option Int64 := fun t ls st u => Bool.rec (motive := fun _ => Option Int64) (none) (n_X5_near_41 F k10 ls st u) (Nat.beq t 41)
noncomputable def kk_X5_near_0 (F : Nat × Nat) : Nat → rx_L → List Value → Option rx_H → Option Int64 := fun t ls st u => Bool.rec (motive := fun _ => Option Int64) (none) (n_X5_near_10 (f_X5_near_10 F F.1) ls st u) (Nat.beq t 10)
set_option maxRecDepth 100000 in
theorem g_X5_near_41 (F : Nat × Nat) (k10 : Int64 → Int32 → Int32 → Int64 → Int32 → Option Int64) (x0 : Int64) (x2 : Int32) (x3 : Int32) (x4 : Int64) (x6 : Int32) : f_X5_near_41 F k10 x0 x2 x3 x4 x6 = rx_node (C_X5_near F) rx_rJ t_X5_near [10, 41] (kk_X5_near_41 F k10) 35 41 [some (.long x0), none, some (.int x2), some (.int x3), some (.long x4), none, some (.int x6)] [] none := rfl
set_option maxRecDepth 100000 in
theorem g_X5_near_10 (F : Nat × Nat) (f : Nat) (x0 : Int64) (x2 : Int32) (x3 : Int32) (x4 : Int64) (x6 : Int32) : f_X5_near_10 F (f + 1) x0 x2 x3 x4 x6 = rx_node (C_X5_near F) rx_rJ t_X5_near [10, 41] (kk_X5_near_10 F (f_X5_near_10 F f)) 35 10 [some (.long x0), none, some (.int x2), some (.int x3), some (.long x4), none, some (.int x6)] [] none := rfl
set_option maxRecDepth 100000 in
theorem g_X5_near_0 (F : Nat × Nat) (x0 : Int64) (x2 : Int32) (x3 : Int32) : f_X5_near_0 F x0 x2 x3 = rx_node (C_X5_near F) rx_rJ t_X5_near [10, 41] (kk_X5_near_0 F) 35 0 [some (.long x0), none, some (.int x2), some (.int x3), none, none, none] [] none := rfl
def f_X5_largest_19 (F : Nat × Nat) (self : Int64 → Int64 → Int64 → Int32 → Int32 → Option Int64) (x0 : Int64) (x4 : Int64) (x8 : Int32) : Option Int64 :=
  (f_X0_size F x4).bind fun v1 =>
  if v1 < x8 then
    some x0
  else
    some x4
def f_X5_largest_0 (F : Nat × Nat) (self : Int64 → Int64 → Int64 → Int32 → Int32 → Option Int64) (x0 : Int64) (x2 : Int64) (x4 : Int64) (x6 : Int32) (x7 : Int32) : Option Int64 :=
  (f_X0_size F x0).bind fun v1 =>
  if x2 = (0 : Int64) then
    f_X5_largest_19 F self x0 x4 v1
  else
    if (20 : Int32) < x7 then
      f_X5_largest_19 F self x0 x4 v1
    else
      (f_X0_size F x2).bind fun v2 =>
      (f_X0_size F x4).bind fun v3 =>
      if v3 < v1 + v2 then
        (f_X0_next F x2 (0 : Int32)).bind fun v4 =>
        (f_X5_near F (x2 &&& (x2 - (1 : Int64))) v4 x6).bind fun v5 =>
        (self (x0 ||| ((1 : Int64) <<< (Int32.toInt64 v4 &&& 63))) v5 x4 x6 (x7 + (1 : Int32))).bind fun v6 =>
        (self x0 (x2 &&& (x2 - (1 : Int64))) v6 x6 (x7 + (1 : Int32))).bind fun v7 =>
        some v7
      else
        some x4
def f_X5_largest (F : Nat × Nat) : Nat → Int64 → Int64 → Int64 → Int32 → Int32 → Option Int64
  | 0, _, _, _, _, _ => none
  | d + 1, x0, x2, x4, x6, x7 => f_X5_largest_0 F (f_X5_largest F d) x0 x2 x4 x6 x7
def c_X5_largest {α : Type} (F : Nat × Nat) (d : Nat) (as : List Value) (u : Option rx_H) (κ : rx_K α) : Option α := match as with
  | [.long a0, .long a1, .long a2, .int a3, .int a4] => (f_X5_largest F d a0 a1 a2 a3 a4).bind fun r => κ (some (.long r)) u
  | _ => none
noncomputable def C_X5_largest {α : Type} (F : Nat × Nat) (d : Nat) : rx_Cl α := fun j as u κ => Bool.rec (motive := fun _ => Option α) (Bool.rec (motive := fun _ => Option α) (Bool.rec (motive := fun _ => Option α) (Bool.rec (motive := fun _ => Option α) (none) (c_X5_near F as u κ) (Nat.beq j 74)) (c_X5_largest F d as u κ) (Nat.beq j 72)) (c_X0_size F as u κ) (Nat.beq j 28)) (c_X0_next F as u κ) (Nat.beq j 23)
def t_X5_largest : List rx_E := [
  (0, .lload_n 0, 1, 0, 0, 0, 0, 0, []),
  (1, .invokestatic 79, 3, 28, 1, 560, 0, 0, []),
  (4, .istore 8, 2, 0, 0, 0, 0, 0, []),
  (6, .lload_n 2, 1, 0, 0, 0, 0, 0, []),
  (7, .lconst 0, 1, 0, 0, 0, 0, 0, []),
  (8, .lcmp, 1, 0, 0, 0, 0, 0, []),
  (9, .ifCond .eq 10, 3, 19, 0, 0, 0, 0, []),
  (12, .iload 7, 2, 0, 0, 0, 0, 0, []),
  (14, .bipush 20, 2, 0, 0, 0, 20, 0, []),
  (16, .if_icmp .le 20, 3, 36, 0, 0, 0, 0, []),
  (19, .iload 8, 2, 0, 0, 0, 0, 0, []),
  (21, .lload 4, 2, 0, 0, 0, 0, 0, []),
  (23, .invokestatic 79, 3, 28, 1, 560, 0, 0, []),
  (26, .if_icmp .le 7, 3, 33, 0, 0, 0, 0, []),
  (29, .lload_n 0, 1, 0, 0, 0, 0, 0, []),
  (30, .goto 5, 3, 35, 0, 0, 0, 0, []),
  (33, .lload 4, 2, 0, 0, 0, 0, 0, []),
  (35, .lreturn, 1, 0, 0, 0, 0, 0, []),
  (36, .iload 8, 2, 0, 0, 0, 0, 0, []),
  (38, .lload_n 2, 1, 0, 0, 0, 0, 0, []),
  (39, .invokestatic 79, 3, 28, 1, 560, 0, 0, []),
  (42, .iadd, 1, 0, 0, 0, 0, 0, []),
  (43, .lload 4, 2, 0, 0, 0, 0, 0, []),
  (45, .invokestatic 79, 3, 28, 1, 560, 0, 0, []),
  (48, .if_icmp .gt 6, 3, 54, 0, 0, 0, 0, []),
  (51, .lload 4, 2, 0, 0, 0, 0, 0, []),
  (53, .lreturn, 1, 0, 0, 0, 0, 0, []),
  (54, .lload_n 2, 1, 0, 0, 0, 0, 0, []),
  (55, .iconst 0, 1, 0, 0, 0, 0, 0, []),
  (56, .invokestatic 29, 3, 23, 2, 498, 0, 0, []),
  (59, .istore 9, 2, 0, 0, 0, 0, 0, []),
  (61, .lload_n 2, 1, 0, 0, 0, 0, 0, []),
  (62, .lload_n 2, 1, 0, 0, 0, 0, 0, []),
  (63, .lconst 1, 1, 0, 0, 0, 0, 1, []),
  (64, .lsub, 1, 0, 0, 0, 0, 0, []),
  (65, .land, 1, 0, 0, 0, 0, 0, []),
  (66, .lstore 10, 2, 0, 0, 0, 0, 0, []),
  (68, .lload_n 0, 1, 0, 0, 0, 0, 0, []),
  (69, .lconst 1, 1, 0, 0, 0, 0, 1, []),
  (70, .iload 9, 2, 0, 0, 0, 0, 0, []),
  (72, .lshl, 1, 0, 0, 0, 0, 0, []),
  (73, .lor, 1, 0, 0, 0, 0, 0, []),
  (74, .lload 10, 2, 0, 0, 0, 0, 0, []),
  (76, .iload 9, 2, 0, 0, 0, 0, 0, []),
  (78, .iload 6, 2, 0, 0, 0, 0, 0, []),
  (80, .invokestatic 83, 3, 74, 3, 561, 0, 0, []),
  (83, .lload 4, 2, 0, 0, 0, 0, 0, []),
  (85, .iload 6, 2, 0, 0, 0, 0, 0, []),
  (87, .iload 7, 2, 0, 0, 0, 0, 0, []),
  (89, .iconst 1, 1, 0, 0, 0, 1, 0, []),
  (90, .iadd, 1, 0, 0, 0, 0, 0, []),
  (91, .invokestatic 75, 3, 72, 5, 557, 0, 0, []),
  (94, .lstore 12, 2, 0, 0, 0, 0, 0, []),
  (96, .lload_n 0, 1, 0, 0, 0, 0, 0, []),
  (97, .lload 10, 2, 0, 0, 0, 0, 0, []),
  (99, .lload 12, 2, 0, 0, 0, 0, 0, []),
  (101, .iload 6, 2, 0, 0, 0, 0, 0, []),
  (103, .iload 7, 2, 0, 0, 0, 0, 0, []),
  (105, .iconst 1, 1, 0, 0, 0, 1, 0, []),
  (106, .iadd, 1, 0, 0, 0, 0, 0, []),
  (107, .invokestatic 75, 3, 72, 5, 557, 0, 0, []),
  (110, .lreturn, 1, 0, 0, 0, 0, 0, [])]
def n_X5_largest_19 (F : Nat × Nat) (self : Int64 → Int64 → Int64 → Int32 → Int32 → Option Int64) (ls : rx_L) (st : List Value) (u : Option rx_H) : Option Int64 := match ls, st, u with
  | [some (.long x0), _, _, _, some (.long x4), _, _, _, some (.int x8), _, _, _, _, _], [], none => f_X5_largest_19 F self x0 x4 x8
  | _, _, _ => none
noncomputable def kk_X5_largest_19 (F : Nat × Nat) (self : Int64 → Int64 → Int64 → Int32 → Int32 → Option Int64) : Nat → rx_L → List Value → Option rx_H → Option Int64 := fun t ls st u => none
noncomputable def kk_X5_largest_0 (F : Nat × Nat) (self : Int64 → Int64 → Int64 → Int32 → Int32 → Option Int64) : Nat → rx_L → List Value → Option rx_H → Option Int64 := fun t ls st u => Bool.rec (motive := fun _ => Option Int64) (none) (n_X5_largest_19 F self ls st u) (Nat.beq t 19)
set_option maxRecDepth 100000 in
theorem g_X5_largest_19 (F : Nat × Nat) (d : Nat) (x0 : Int64) (x4 : Int64) (x8 : Int32) : f_X5_largest_19 F (f_X5_largest F d) x0 x4 x8 = rx_node (C_X5_largest F d) rx_rJ t_X5_largest [19] (kk_X5_largest_19 F (f_X5_largest F d)) 65 19 [some (.long x0), none, none, none, some (.long x4), none, none, none, some (.int x8), none, none, none, none, none] [] none := rfl
set_option maxRecDepth 100000 in
theorem g_X5_largest_0 (F : Nat × Nat) (d : Nat) (x0 : Int64) (x2 : Int64) (x4 : Int64) (x6 : Int32) (x7 : Int32) : f_X5_largest_0 F (f_X5_largest F d) x0 x2 x4 x6 x7 = rx_node (C_X5_largest F d) rx_rJ t_X5_largest [19] (kk_X5_largest_0 F (f_X5_largest F d)) 65 0 [some (.long x0), none, some (.long x2), none, some (.long x4), none, some (.int x6), some (.int x7), none, none, none, none, none, none] [] none := rfl
def f_J9_floorMod_7cf53_0 (F : Nat × Nat) (x0 : Int32) (x1 : Int32) : Option Int32 :=
  if x1 = 0 then
    none
  else
    if x0 ^^^ x1 < 0 then
      if x0 - x0 / x1 * x1 = 0 then
        some (x0 - x0 / x1 * x1)
      else
        some ((x0 - x0 / x1 * x1) + x1)
    else
      some (x0 - x0 / x1 * x1)
def f_J9_floorMod_7cf53 (F : Nat × Nat) (x0 : Int32) (x1 : Int32) : Option Int32 := f_J9_floorMod_7cf53_0 F x0 x1
def c_J9_floorMod_7cf53 {α : Type} (F : Nat × Nat) (as : List Value) (u : Option rx_H) (κ : rx_K α) : Option α := match as with
  | [.int a0, .int a1] => (f_J9_floorMod_7cf53 F a0 a1).bind fun r => κ (some (.int r)) u
  | _ => none
noncomputable def C_J9_floorMod_7cf53 {α : Type} (F : Nat × Nat) : rx_Cl α := fun j as u κ => none
def t_J9_floorMod_7cf53 : List rx_E := [
  (0, .iload_n 0, 1, 0, 0, 0, 0, 0, []),
  (1, .iload_n 1, 1, 0, 0, 0, 0, 0, []),
  (2, .irem, 1, 0, 0, 0, 0, 0, []),
  (3, .istore_n 2, 1, 0, 0, 0, 0, 0, []),
  (4, .iload_n 0, 1, 0, 0, 0, 0, 0, []),
  (5, .iload_n 1, 1, 0, 0, 0, 0, 0, []),
  (6, .ixor, 1, 0, 0, 0, 0, 0, []),
  (7, .ifCond .ge 11, 3, 18, 0, 0, 0, 0, []),
  (10, .iload_n 2, 1, 0, 0, 0, 0, 0, []),
  (11, .ifCond .eq 7, 3, 18, 0, 0, 0, 0, []),
  (14, .iload_n 2, 1, 0, 0, 0, 0, 0, []),
  (15, .iload_n 1, 1, 0, 0, 0, 0, 0, []),
  (16, .iadd, 1, 0, 0, 0, 0, 0, []),
  (17, .ireturn, 1, 0, 0, 0, 0, 0, []),
  (18, .iload_n 2, 1, 0, 0, 0, 0, 0, []),
  (19, .ireturn, 1, 0, 0, 0, 0, 0, [])]
noncomputable def kk_J9_floorMod_7cf53_0 (F : Nat × Nat) : Nat → rx_L → List Value → Option rx_H → Option Int32 := fun t ls st u => none
set_option maxRecDepth 100000 in
theorem g_J9_floorMod_7cf53_0 (F : Nat × Nat) (x0 : Int32) (x1 : Int32) : f_J9_floorMod_7cf53_0 F x0 x1 = rx_node (C_J9_floorMod_7cf53 F) rx_rI t_J9_floorMod_7cf53 [] (kk_J9_floorMod_7cf53_0 F) 19 0 [some (.int x0), some (.int x1), none] [] none := rfl
def f_X6_isPlace_0 (F : Nat × Nat) (x1 : Int32) : Option Int32 :=
  if x1 < 0 then
    some (0 : Int32)
  else
    if x1 < (16 : Int32) then
      some (1 : Int32)
    else
      some (0 : Int32)
def f_X6_isPlace (F : Nat × Nat) (x0 : Nat) (x1 : Int32) : Option Int32 := f_X6_isPlace_0 F x1
def c_X6_isPlace {α : Type} (F : Nat × Nat) (as : List Value) (u : Option rx_H) (κ : rx_K α) : Option α := match as with
  | [.ref a0, .int a1] => (f_X6_isPlace F a0 a1).bind fun r => κ (some (.int r)) u
  | _ => none
noncomputable def C_X6_isPlace {α : Type} (F : Nat × Nat) : rx_Cl α := fun j as u κ => none
def t_X6_isPlace : List rx_E := [
  (0, .iload_n 1, 1, 0, 0, 0, 0, 0, []),
  (1, .ifCond .lt 13, 3, 14, 0, 0, 0, 0, []),
  (4, .iload_n 1, 1, 0, 0, 0, 0, 0, []),
  (5, .bipush 16, 2, 0, 0, 0, 16, 0, []),
  (7, .if_icmp .ge 7, 3, 14, 0, 0, 0, 0, []),
  (10, .iconst 1, 1, 0, 0, 0, 1, 0, []),
  (11, .goto 4, 3, 15, 0, 0, 0, 0, []),
  (14, .iconst 0, 1, 0, 0, 0, 0, 0, []),
  (15, .ireturn, 1, 0, 2, 0, 0, 0, [])]
noncomputable def kk_X6_isPlace_0 (F : Nat × Nat) : Nat → rx_L → List Value → Option rx_H → Option Int32 := fun t ls st u => none
set_option maxRecDepth 100000 in
theorem g_X6_isPlace_0 (F : Nat × Nat) (x1 : Int32) : f_X6_isPlace_0 F x1 = rx_node (C_X6_isPlace F) rx_rI t_X6_isPlace [] (kk_X6_isPlace_0 F) 12 0 [none, some (.int x1)] [] none := rfl
def f_X6_cascade_0 (F : Nat × Nat) (x1 : Int32) (x2 : Int32) (x3 : Int32) : Option Int32 :=
  (f_X2_cascades F x1 x2).bind fun v1 =>
  if v1 = 0 then
    some (-1 : Int32)
  else
    if x3 < 0 then
      some (-1 : Int32)
    else
      (f_X2_cascadeNumber F x1 x2 x3).bind fun v2 =>
      some v2
def f_X6_cascade (F : Nat × Nat) (x0 : Nat) (x1 : Int32) (x2 : Int32) (x3 : Int32) : Option Int32 := f_X6_cascade_0 F x1 x2 x3
def c_X6_cascade {α : Type} (F : Nat × Nat) (as : List Value) (u : Option rx_H) (κ : rx_K α) : Option α := match as with
  | [.ref a0, .int a1, .int a2, .int a3] => (f_X6_cascade F a0 a1 a2 a3).bind fun r => κ (some (.int r)) u
  | _ => none
noncomputable def C_X6_cascade {α : Type} (F : Nat × Nat) : rx_Cl α := fun j as u κ => Bool.rec (motive := fun _ => Option α) (Bool.rec (motive := fun _ => Option α) (none) (c_X2_cascades F as u κ) (Nat.beq j 46)) (c_X2_cascadeNumber F as u κ) (Nat.beq j 44)
def t_X6_cascade : List rx_E := [
  (0, .iload_n 1, 1, 0, 0, 0, 0, 0, []),
  (1, .iload_n 2, 1, 0, 0, 0, 0, 0, []),
  (2, .invokestatic 183, 3, 46, 2, 440, 0, 0, []),
  (5, .ifCond .eq 7, 3, 12, 0, 0, 0, 0, []),
  (8, .iload_n 3, 1, 0, 0, 0, 0, 0, []),
  (9, .ifCond .ge 5, 3, 14, 0, 0, 0, 0, []),
  (12, .iconst (-1), 1, 0, 0, 0, (-1), 0, []),
  (13, .ireturn, 1, 0, 0, 0, 0, 0, []),
  (14, .iload_n 1, 1, 0, 0, 0, 0, 0, []),
  (15, .iload_n 2, 1, 0, 0, 0, 0, 0, []),
  (16, .iload_n 3, 1, 0, 0, 0, 0, 0, []),
  (17, .invokestatic 186, 3, 44, 3, 443, 0, 0, []),
  (20, .ireturn, 1, 0, 0, 0, 0, 0, [])]
noncomputable def kk_X6_cascade_0 (F : Nat × Nat) : Nat → rx_L → List Value → Option rx_H → Option Int32 := fun t ls st u => none
set_option maxRecDepth 100000 in
theorem g_X6_cascade_0 (F : Nat × Nat) (x1 : Int32) (x2 : Int32) (x3 : Int32) : f_X6_cascade_0 F x1 x2 x3 = rx_node (C_X6_cascade F) rx_rI t_X6_cascade [] (kk_X6_cascade_0 F) 16 0 [none, some (.int x1), some (.int x2), some (.int x3)] [] none := rfl
def f_X6_least_0 (F : Nat × Nat) (x1 : Int32) (x2 : Int32) : Option Int32 :=
  (f_X2_cascades F x1 x2).bind fun v1 =>
  if v1 = 0 then
    some (-1 : Int32)
  else
    (f_X2_leastShadow F x1 x2).bind fun v2 =>
    some v2
def f_X6_least (F : Nat × Nat) (x0 : Nat) (x1 : Int32) (x2 : Int32) : Option Int32 := f_X6_least_0 F x1 x2
def c_X6_least {α : Type} (F : Nat × Nat) (as : List Value) (u : Option rx_H) (κ : rx_K α) : Option α := match as with
  | [.ref a0, .int a1, .int a2] => (f_X6_least F a0 a1 a2).bind fun r => κ (some (.int r)) u
  | _ => none
noncomputable def C_X6_least {α : Type} (F : Nat × Nat) : rx_Cl α := fun j as u κ => Bool.rec (motive := fun _ => Option α) (Bool.rec (motive := fun _ => Option α) (none) (c_X2_leastShadow F as u κ) (Nat.beq j 49)) (c_X2_cascades F as u κ) (Nat.beq j 46)
def t_X6_least : List rx_E := [
  (0, .iload_n 1, 1, 0, 0, 0, 0, 0, []),
  (1, .iload_n 2, 1, 0, 0, 0, 0, 0, []),
  (2, .invokestatic 183, 3, 46, 2, 440, 0, 0, []),
  (5, .ifCond .eq 11, 3, 16, 0, 0, 0, 0, []),
  (8, .iload_n 1, 1, 0, 0, 0, 0, 0, []),
  (9, .iload_n 2, 1, 0, 0, 0, 0, 0, []),
  (10, .invokestatic 190, 3, 49, 2, 456, 0, 0, []),
  (13, .goto 4, 3, 17, 0, 0, 0, 0, []),
  (16, .iconst (-1), 1, 0, 0, 0, (-1), 0, []),
  (17, .ireturn, 1, 0, 0, 0, 0, 0, [])]
noncomputable def kk_X6_least_0 (F : Nat × Nat) : Nat → rx_L → List Value → Option rx_H → Option Int32 := fun t ls st u => none
set_option maxRecDepth 100000 in
theorem g_X6_least_0 (F : Nat × Nat) (x1 : Int32) (x2 : Int32) : f_X6_least_0 F x1 x2 = rx_node (C_X6_least F) rx_rI t_X6_least [] (kk_X6_least_0 F) 13 0 [none, some (.int x1), some (.int x2)] [] none := rfl
def f_X7_isIn_0 (F : Nat × Nat) (x0 : Int32) (x1 : Int32) (x2 : Int32) : Option Int32 :=
  if x0 < x1 then
    some (0 : Int32)
  else
    if x2 < x0 then
      some (0 : Int32)
    else
      some (1 : Int32)
def f_X7_isIn (F : Nat × Nat) (x0 : Int32) (x1 : Int32) (x2 : Int32) : Option Int32 := f_X7_isIn_0 F x0 x1 x2
def c_X7_isIn {α : Type} (F : Nat × Nat) (as : List Value) (u : Option rx_H) (κ : rx_K α) : Option α := match as with
  | [.int a0, .int a1, .int a2] => (f_X7_isIn F a0 a1 a2).bind fun r => κ (some (.int r)) u
  | _ => none
noncomputable def C_X7_isIn {α : Type} (F : Nat × Nat) : rx_Cl α := fun j as u κ => none
def t_X7_isIn : List rx_E := [
  (0, .iload_n 0, 1, 0, 0, 0, 0, 0, []),
  (1, .iload_n 1, 1, 0, 0, 0, 0, 0, []),
  (2, .if_icmp .lt 12, 3, 14, 0, 0, 0, 0, []),
  (5, .iload_n 0, 1, 0, 0, 0, 0, 0, []),
  (6, .iload_n 2, 1, 0, 0, 0, 0, 0, []),
  (7, .if_icmp .gt 7, 3, 14, 0, 0, 0, 0, []),
  (10, .iconst 1, 1, 0, 0, 0, 1, 0, []),
  (11, .goto 4, 3, 15, 0, 0, 0, 0, []),
  (14, .iconst 0, 1, 0, 0, 0, 0, 0, []),
  (15, .ireturn, 1, 0, 2, 0, 0, 0, [])]
noncomputable def kk_X7_isIn_0 (F : Nat × Nat) : Nat → rx_L → List Value → Option rx_H → Option Int32 := fun t ls st u => none
set_option maxRecDepth 100000 in
theorem g_X7_isIn_0 (F : Nat × Nat) (x0 : Int32) (x1 : Int32) (x2 : Int32) : f_X7_isIn_0 F x0 x1 x2 = rx_node (C_X7_isIn F) rx_rI t_X7_isIn [] (kk_X7_isIn_0 F) 13 0 [some (.int x0), some (.int x1), some (.int x2)] [] none := rfl
def f_X7_ones_4 (F : Nat × Nat) : Nat → Int32 → Int32 → Option Int32
  | 0, _, _ => none
  | f + 1, x1, x2 =>
    if 0 < x2 then
      (f_X7_ones_4 F f) (x1 + (x2 - x2 / (2 : Int32) * (2 : Int32))) (x2 / (2 : Int32))
    else
      some x1
def f_X7_ones_0 (F : Nat × Nat) (x0 : Int32) : Option Int32 :=
  f_X7_ones_4 F F.1 (0 : Int32) x0
def f_X7_ones (F : Nat × Nat) (x0 : Int32) : Option Int32 := f_X7_ones_0 F x0
def c_X7_ones {α : Type} (F : Nat × Nat) (as : List Value) (u : Option rx_H) (κ : rx_K α) : Option α := match as with
  | [.int a0] => (f_X7_ones F a0).bind fun r => κ (some (.int r)) u
  | _ => none
noncomputable def C_X7_ones {α : Type} (F : Nat × Nat) : rx_Cl α := fun j as u κ => none
def t_X7_ones : List rx_E := [
  (0, .iconst 0, 1, 0, 0, 0, 0, 0, []),
  (1, .istore_n 1, 1, 0, 0, 0, 0, 0, []),
  (2, .iload_n 0, 1, 0, 0, 0, 0, 0, []),
  (3, .istore_n 2, 1, 0, 0, 0, 0, 0, []),
  (4, .iload_n 2, 1, 0, 0, 0, 0, 0, []),
  (5, .ifCond .le 16, 3, 21, 0, 0, 0, 0, []),
  (8, .iload_n 1, 1, 0, 0, 0, 0, 0, []),
  (9, .iload_n 2, 1, 0, 0, 0, 0, 0, []),
  (10, .iconst 2, 1, 0, 0, 0, 2, 0, []),
  (11, .irem, 1, 0, 1, 0, 0, 0, []),
  (12, .iadd, 1, 0, 0, 0, 0, 0, []),
  (13, .istore_n 1, 1, 0, 0, 0, 0, 0, []),
  (14, .iload_n 2, 1, 0, 0, 0, 0, 0, []),
  (15, .iconst 2, 1, 0, 0, 0, 2, 0, []),
  (16, .idiv, 1, 0, 1, 0, 0, 0, []),
  (17, .istore_n 2, 1, 0, 0, 0, 0, 0, []),
  (18, .goto (-14), 3, 4, 0, 0, 0, 0, []),
  (21, .iload_n 1, 1, 0, 0, 0, 0, 0, []),
  (22, .ireturn, 1, 0, 0, 0, 0, 0, [])]
def n_X7_ones_4 (k4 : Int32 → Int32 → Option Int32) (ls : rx_L) (st : List Value) (u : Option rx_H) : Option Int32 := match ls, st, u with
  | [_, some (.int x1), some (.int x2)], [], none => k4 x1 x2
  | _, _, _ => none
noncomputable def kk_X7_ones_4 (F : Nat × Nat) (k4 : Int32 → Int32 → Option Int32) : Nat → rx_L → List Value → Option rx_H → Option Int32 := fun t ls st u => Bool.rec (motive := fun _ => Option Int32) (none) (n_X7_ones_4 k4 ls st u) (Nat.beq t 4)
noncomputable def kk_X7_ones_0 (F : Nat × Nat) : Nat → rx_L → List Value → Option rx_H → Option Int32 := fun t ls st u => Bool.rec (motive := fun _ => Option Int32) (none) (n_X7_ones_4 (f_X7_ones_4 F F.1) ls st u) (Nat.beq t 4)
set_option maxRecDepth 100000 in
theorem g_X7_ones_4 (F : Nat × Nat) (f : Nat) (x1 : Int32) (x2 : Int32) : f_X7_ones_4 F (f + 1) x1 x2 = rx_node (C_X7_ones F) rx_rI t_X7_ones [4] (kk_X7_ones_4 F (f_X7_ones_4 F f)) 22 4 [none, some (.int x1), some (.int x2)] [] none := rfl
set_option maxRecDepth 100000 in
theorem g_X7_ones_0 (F : Nat × Nat) (x0 : Int32) : f_X7_ones_0 F x0 = rx_node (C_X7_ones F) rx_rI t_X7_ones [4] (kk_X7_ones_0 F) 22 0 [some (.int x0), none, none] [] none := rfl
def f_X7_many_4 (F : Nat × Nat) : Nat → Int64 → Int32 → Int32 → Option Int32
  | 0, _, _, _ => none
  | f + 1, x0, x2, x3 =>
    if x3 < (64 : Int32) then
      (f_X7_many_4 F f) x0 (x2 + (Int64.toInt32 (((Int64.toUInt64 x0 >>> ((Int32.toInt64 x3).toUInt64 &&& Int64.toUInt64 63)).toInt64) &&& (1 : Int64)))) (x3 + 1)
    else
      some x2
def f_X7_many_0 (F : Nat × Nat) (x0 : Int64) : Option Int32 :=
  f_X7_many_4 F F.1 x0 (0 : Int32) (0 : Int32)
def f_X7_many (F : Nat × Nat) (x0 : Int64) : Option Int32 := f_X7_many_0 F x0
def c_X7_many {α : Type} (F : Nat × Nat) (as : List Value) (u : Option rx_H) (κ : rx_K α) : Option α := match as with
  | [.long a0] => (f_X7_many F a0).bind fun r => κ (some (.int r)) u
  | _ => none
noncomputable def C_X7_many {α : Type} (F : Nat × Nat) : rx_Cl α := fun j as u κ => none
def t_X7_many : List rx_E := [
  (0, .iconst 0, 1, 0, 0, 0, 0, 0, []),
  (1, .istore_n 2, 1, 0, 0, 0, 0, 0, []),
  (2, .iconst 0, 1, 0, 0, 0, 0, 0, []),
  (3, .istore_n 3, 1, 0, 0, 0, 0, 0, []),
  (4, .iload_n 3, 1, 0, 0, 0, 0, 0, []),
  (5, .bipush 64, 2, 0, 0, 0, 64, 0, []),
  (7, .if_icmp .ge 18, 3, 25, 0, 0, 0, 0, []),
  (10, .iload_n 2, 1, 0, 0, 0, 0, 0, []),
  (11, .lload_n 0, 1, 0, 0, 0, 0, 0, []),
  (12, .iload_n 3, 1, 0, 0, 0, 0, 0, []),
  (13, .lushr, 1, 0, 0, 0, 0, 0, []),
  (14, .lconst 1, 1, 0, 0, 0, 0, 1, []),
  (15, .land, 1, 0, 0, 0, 0, 0, []),
  (16, .l2i, 1, 0, 0, 0, 0, 0, []),
  (17, .iadd, 1, 0, 0, 0, 0, 0, []),
  (18, .istore_n 2, 1, 0, 0, 0, 0, 0, []),
  (19, .iinc 3 1, 3, 0, 0, 0, 1, 0, []),
  (22, .goto (-18), 3, 4, 0, 0, 0, 0, []),
  (25, .iload_n 2, 1, 0, 0, 0, 0, 0, []),
  (26, .ireturn, 1, 0, 0, 0, 0, 0, [])]
def n_X7_many_4 (k4 : Int64 → Int32 → Int32 → Option Int32) (ls : rx_L) (st : List Value) (u : Option rx_H) : Option Int32 := match ls, st, u with
  | [some (.long x0), _, some (.int x2), some (.int x3)], [], none => k4 x0 x2 x3
  | _, _, _ => none
noncomputable def kk_X7_many_4 (F : Nat × Nat) (k4 : Int64 → Int32 → Int32 → Option Int32) : Nat → rx_L → List Value → Option rx_H → Option Int32 := fun t ls st u => Bool.rec (motive := fun _ => Option Int32) (none) (n_X7_many_4 k4 ls st u) (Nat.beq t 4)
noncomputable def kk_X7_many_0 (F : Nat × Nat) : Nat → rx_L → List Value → Option rx_H → Option Int32 := fun t ls st u => Bool.rec (motive := fun _ => Option Int32) (none) (n_X7_many_4 (f_X7_many_4 F F.1) ls st u) (Nat.beq t 4)
set_option maxRecDepth 100000 in
theorem g_X7_many_4 (F : Nat × Nat) (f : Nat) (x0 : Int64) (x2 : Int32) (x3 : Int32) : f_X7_many_4 F (f + 1) x0 x2 x3 = rx_node (C_X7_many F) rx_rI t_X7_many [4] (kk_X7_many_4 F (f_X7_many_4 F f)) 23 4 [some (.long x0), none, some (.int x2), some (.int x3)] [] none := rfl
set_option maxRecDepth 100000 in
theorem g_X7_many_0 (F : Nat × Nat) (x0 : Int64) : f_X7_many_0 F x0 = rx_node (C_X7_many F) rx_rI t_X7_many [4] (kk_X7_many_0 F) 23 0 [some (.long x0), none, none, none] [] none := rfl
def f_X7_has_0 (F : Nat × Nat) (x0 : Int64) (x2 : Int32) : Option Int32 :=
  if ((Int64.toUInt64 x0 >>> ((Int32.toInt64 x2).toUInt64 &&& Int64.toUInt64 63)).toInt64) &&& (1 : Int64) = (1 : Int64) then
    some (1 : Int32)
  else
    some (0 : Int32)
def f_X7_has (F : Nat × Nat) (x0 : Int64) (x2 : Int32) : Option Int32 := f_X7_has_0 F x0 x2
def c_X7_has {α : Type} (F : Nat × Nat) (as : List Value) (u : Option rx_H) (κ : rx_K α) : Option α := match as with
  | [.long a0, .int a1] => (f_X7_has F a0 a1).bind fun r => κ (some (.int r)) u
  | _ => none
noncomputable def C_X7_has {α : Type} (F : Nat × Nat) : rx_Cl α := fun j as u κ => none
def t_X7_has : List rx_E := [
  (0, .lload_n 0, 1, 0, 0, 0, 0, 0, []),
  (1, .iload_n 2, 1, 0, 0, 0, 0, 0, []),
  (2, .lushr, 1, 0, 0, 0, 0, 0, []),
  (3, .lconst 1, 1, 0, 0, 0, 0, 1, []),
  (4, .land, 1, 0, 0, 0, 0, 0, []),
  (5, .lconst 1, 1, 0, 0, 0, 0, 1, []),
  (6, .lcmp, 1, 0, 0, 0, 0, 0, []),
  (7, .ifCond .ne 7, 3, 14, 0, 0, 0, 0, []),
  (10, .iconst 1, 1, 0, 0, 0, 1, 0, []),
  (11, .goto 4, 3, 15, 0, 0, 0, 0, []),
  (14, .iconst 0, 1, 0, 0, 0, 0, 0, []),
  (15, .ireturn, 1, 0, 2, 0, 0, 0, [])]
noncomputable def kk_X7_has_0 (F : Nat × Nat) : Nat → rx_L → List Value → Option rx_H → Option Int32 := fun t ls st u => none
set_option maxRecDepth 100000 in
theorem g_X7_has_0 (F : Nat × Nat) (x0 : Int64) (x2 : Int32) : f_X7_has_0 F x0 x2 = rx_node (C_X7_has F) rx_rI t_X7_has [] (kk_X7_has_0 F) 15 0 [some (.long x0), none, some (.int x2)] [] none := rfl
def f_X7_isWithin_0 (F : Nat × Nat) (x0 : Int32) (x1 : Int32) : Option Int32 :=
  if x0 &&& (x1 ^^^ (-1 : Int32)) = 0 then
    some (1 : Int32)
  else
    some (0 : Int32)
def f_X7_isWithin (F : Nat × Nat) (x0 : Int32) (x1 : Int32) : Option Int32 := f_X7_isWithin_0 F x0 x1
def c_X7_isWithin {α : Type} (F : Nat × Nat) (as : List Value) (u : Option rx_H) (κ : rx_K α) : Option α := match as with
  | [.int a0, .int a1] => (f_X7_isWithin F a0 a1).bind fun r => κ (some (.int r)) u
  | _ => none
noncomputable def C_X7_isWithin {α : Type} (F : Nat × Nat) : rx_Cl α := fun j as u κ => none
def t_X7_isWithin : List rx_E := [
  (0, .iload_n 0, 1, 0, 0, 0, 0, 0, []),
  (1, .iload_n 1, 1, 0, 0, 0, 0, 0, []),
  (2, .iconst (-1), 1, 0, 0, 0, (-1), 0, []),
  (3, .ixor, 1, 0, 0, 0, 0, 0, []),
  (4, .iand, 1, 0, 0, 0, 0, 0, []),
  (5, .ifCond .ne 7, 3, 12, 0, 0, 0, 0, []),
  (8, .iconst 1, 1, 0, 0, 0, 1, 0, []),
  (9, .goto 4, 3, 13, 0, 0, 0, 0, []),
  (12, .iconst 0, 1, 0, 0, 0, 0, 0, []),
  (13, .ireturn, 1, 0, 2, 0, 0, 0, [])]
noncomputable def kk_X7_isWithin_0 (F : Nat × Nat) : Nat → rx_L → List Value → Option rx_H → Option Int32 := fun t ls st u => none
set_option maxRecDepth 100000 in
theorem g_X7_isWithin_0 (F : Nat × Nat) (x0 : Int32) (x1 : Int32) : f_X7_isWithin_0 F x0 x1 = rx_node (C_X7_isWithin F) rx_rI t_X7_isWithin [] (kk_X7_isWithin_0 F) 13 0 [some (.int x0), some (.int x1)] [] none := rfl
def f_X7_isPlace_0 (F : Nat × Nat) (x0 : Int32) : Option Int32 :=
  (f_X7_isIn F x0 (0 : Int32) (15 : Int32)).bind fun v1 =>
  if v1 = 0 then
    some 0
  else if v1 = 1 then
    some 1
  else
    none
def f_X7_isPlace (F : Nat × Nat) (x0 : Int32) : Option Int32 := f_X7_isPlace_0 F x0
def c_X7_isPlace {α : Type} (F : Nat × Nat) (as : List Value) (u : Option rx_H) (κ : rx_K α) : Option α := match as with
  | [.int a0] => (f_X7_isPlace F a0).bind fun r => κ (some (.int r)) u
  | _ => none
noncomputable def C_X7_isPlace {α : Type} (F : Nat × Nat) : rx_Cl α := fun j as u κ => Bool.rec (motive := fun _ => Option α) (none) (c_X7_isIn F as u κ) (Nat.beq j 171)
def t_X7_isPlace : List rx_E := [
  (0, .iload_n 0, 1, 0, 0, 0, 0, 0, []),
  (1, .iconst 0, 1, 0, 0, 0, 0, 0, []),
  (2, .bipush 15, 2, 0, 0, 0, 15, 0, []),
  (4, .invokestatic 54, 3, 171, 3, 802, 0, 0, []),
  (7, .ireturn, 1, 0, 1, 0, 0, 0, [])]
noncomputable def kk_X7_isPlace_0 (F : Nat × Nat) : Nat → rx_L → List Value → Option rx_H → Option Int32 := fun t ls st u => none
set_option maxRecDepth 100000 in
theorem g_X7_isPlace_0 (F : Nat × Nat) (x0 : Int32) : f_X7_isPlace_0 F x0 = rx_node (C_X7_isPlace F) rx_rI t_X7_isPlace [] (kk_X7_isPlace_0 F) 8 0 [some (.int x0)] [] none := rfl
def f_X7_apartFrom_3 (F : Nat × Nat) : Nat → Int64 → Int32 → Int32 → Int32 → Option Int32
  | 0, _, _, _, _ => none
  | f + 1, x0, x2, x3, x4 =>
    if x4 < (64 : Int32) then
      (f_X7_has F x0 x4).bind fun v1 =>
      if v1 = 0 then
        (f_X7_apartFrom_3 F f) x0 x2 x3 (x4 + 1)
      else
        (f_X7_ones F (x2 &&& x4)).bind fun v2 =>
        if v2 < x3 then
          some x4
        else
          (f_X7_apartFrom_3 F f) x0 x2 x3 (x4 + 1)
    else
      some (-1 : Int32)
def f_X7_apartFrom_0 (F : Nat × Nat) (x0 : Int64) (x2 : Int32) (x3 : Int32) : Option Int32 :=
  f_X7_apartFrom_3 F F.1 x0 x2 x3 (0 : Int32)
def f_X7_apartFrom (F : Nat × Nat) (x0 : Int64) (x2 : Int32) (x3 : Int32) : Option Int32 := f_X7_apartFrom_0 F x0 x2 x3
def c_X7_apartFrom {α : Type} (F : Nat × Nat) (as : List Value) (u : Option rx_H) (κ : rx_K α) : Option α := match as with
  | [.long a0, .int a1, .int a2] => (f_X7_apartFrom F a0 a1 a2).bind fun r => κ (some (.int r)) u
  | _ => none
noncomputable def C_X7_apartFrom {α : Type} (F : Nat × Nat) : rx_Cl α := fun j as u κ => Bool.rec (motive := fun _ => Option α) (Bool.rec (motive := fun _ => Option α) (none) (c_X7_ones F as u κ) (Nat.beq j 190)) (c_X7_has F as u κ) (Nat.beq j 163)
def t_X7_apartFrom : List rx_E := [
  (0, .iconst 0, 1, 0, 0, 0, 0, 0, []),
  (1, .istore 4, 2, 0, 0, 0, 0, 0, []),
  (3, .iload 4, 2, 0, 0, 0, 0, 0, []),
  (5, .bipush 64, 2, 0, 0, 0, 64, 0, []),
  (7, .if_icmp .ge 32, 3, 39, 0, 0, 0, 0, []),
  (10, .lload_n 0, 1, 0, 0, 0, 0, 0, []),
  (11, .iload 4, 2, 0, 0, 0, 0, 0, []),
  (13, .invokestatic 78, 3, 163, 2, 846, 0, 0, []),
  (16, .ifCond .eq 17, 3, 33, 0, 0, 0, 0, []),
  (19, .iload_n 2, 1, 0, 0, 0, 0, 0, []),
  (20, .iload 4, 2, 0, 0, 0, 0, 0, []),
  (22, .iand, 1, 0, 0, 0, 0, 0, []),
  (23, .invokestatic 82, 3, 190, 1, 840, 0, 0, []),
  (26, .iload_n 3, 1, 0, 0, 0, 0, 0, []),
  (27, .if_icmp .ge 6, 3, 33, 0, 0, 0, 0, []),
  (30, .iload 4, 2, 0, 0, 0, 0, 0, []),
  (32, .ireturn, 1, 0, 0, 0, 0, 0, []),
  (33, .iinc 4 1, 3, 0, 0, 0, 1, 0, []),
  (36, .goto (-33), 3, 3, 0, 0, 0, 0, []),
  (39, .iconst (-1), 1, 0, 0, 0, (-1), 0, []),
  (40, .ireturn, 1, 0, 0, 0, 0, 0, [])]
def n_X7_apartFrom_3 (k3 : Int64 → Int32 → Int32 → Int32 → Option Int32) (ls : rx_L) (st : List Value) (u : Option rx_H) : Option Int32 := match ls, st, u with
  | [some (.long x0), _, some (.int x2), some (.int x3), some (.int x4)], [], none => k3 x0 x2 x3 x4
  | _, _, _ => none
noncomputable def kk_X7_apartFrom_3 (F : Nat × Nat) (k3 : Int64 → Int32 → Int32 → Int32 → Option Int32) : Nat → rx_L → List Value → Option rx_H → Option Int32 := fun t ls st u => Bool.rec (motive := fun _ => Option Int32) (none) (n_X7_apartFrom_3 k3 ls st u) (Nat.beq t 3)
noncomputable def kk_X7_apartFrom_0 (F : Nat × Nat) : Nat → rx_L → List Value → Option rx_H → Option Int32 := fun t ls st u => Bool.rec (motive := fun _ => Option Int32) (none) (n_X7_apartFrom_3 (f_X7_apartFrom_3 F F.1) ls st u) (Nat.beq t 3)
set_option maxRecDepth 100000 in
theorem g_X7_apartFrom_3 (F : Nat × Nat) (f : Nat) (x0 : Int64) (x2 : Int32) (x3 : Int32) (x4 : Int32) : f_X7_apartFrom_3 F (f + 1) x0 x2 x3 x4 = rx_node (C_X7_apartFrom F) rx_rI t_X7_apartFrom [3] (kk_X7_apartFrom_3 F (f_X7_apartFrom_3 F f)) 24 3 [some (.long x0), none, some (.int x2), some (.int x3), some (.int x4)] [] none := rfl
set_option maxRecDepth 100000 in
theorem g_X7_apartFrom_0 (F : Nat × Nat) (x0 : Int64) (x2 : Int32) (x3 : Int32) : f_X7_apartFrom_0 F x0 x2 x3 = rx_node (C_X7_apartFrom F) rx_rI t_X7_apartFrom [3] (kk_X7_apartFrom_0 F) 24 0 [some (.long x0), none, some (.int x2), some (.int x3), none] [] none := rfl
def f_X7_goes_0 (F : Nat × Nat) (x3 : Int32) (x4 : Int32) (x5 : Int32) (x6 : Int32) : Option Int32 :=
  if x5 = (1 : Int32) then
    if x3 = x4 then
      some (1 : Int32)
    else
      (f_X7_isWithin F x3 x4).bind fun v1 =>
      if v1 = 0 then
        (f_X7_isWithin F x4 x3).bind fun v2 =>
        if v2 = 0 then
          some (1 : Int32)
        else
          some (0 : Int32)
      else
        some (0 : Int32)
  else
    if x5 = (2 : Int32) then
      (f_X7_ones F (x3 &&& x4)).bind fun v3 =>
      if v3 < x6 then
        some (0 : Int32)
      else
        some (1 : Int32)
    else
      if x5 = (4 : Int32) then
        if x3 = x4 then
          (f_X7_ones F x3).bind fun v4 =>
          if v4 = x6 then
            some (1 : Int32)
          else
            some (0 : Int32)
        else
          some (1 : Int32)
      else
        some (1 : Int32)
def f_X7_goes (F : Nat × Nat) (x0 : Nat) (x1 : Int64) (x3 : Int32) (x4 : Int32) (x5 : Int32) (x6 : Int32) : Option Int32 := f_X7_goes_0 F x3 x4 x5 x6
def c_X7_goes {α : Type} (F : Nat × Nat) (as : List Value) (u : Option rx_H) (κ : rx_K α) : Option α := match as with
  | [.ref a0, .long a1, .int a2, .int a3, .int a4, .int a5] => (f_X7_goes F a0 a1 a2 a3 a4 a5).bind fun r => κ (some (.int r)) u
  | _ => none
noncomputable def C_X7_goes {α : Type} (F : Nat × Nat) : rx_Cl α := fun j as u κ => Bool.rec (motive := fun _ => Option α) (Bool.rec (motive := fun _ => Option α) (none) (c_X7_ones F as u κ) (Nat.beq j 190)) (c_X7_isWithin F as u κ) (Nat.beq j 177)
def t_X7_goes : List rx_E := [
  (0, .iload 5, 2, 0, 0, 0, 0, 0, []),
  (2, .iconst 1, 1, 0, 0, 0, 1, 0, []),
  (3, .if_icmp .ne 33, 3, 36, 0, 0, 0, 0, []),
  (6, .iload_n 3, 1, 0, 0, 0, 0, 0, []),
  (7, .iload 4, 2, 0, 0, 0, 0, 0, []),
  (9, .if_icmp .eq 21, 3, 30, 0, 0, 0, 0, []),
  (12, .iload_n 3, 1, 0, 0, 0, 0, 0, []),
  (13, .iload 4, 2, 0, 0, 0, 0, 0, []),
  (15, .invokestatic 89, 3, 177, 2, 849, 0, 0, []),
  (18, .ifCond .ne 16, 3, 34, 0, 0, 0, 0, []),
  (21, .iload 4, 2, 0, 0, 0, 0, 0, []),
  (23, .iload_n 3, 1, 0, 0, 0, 0, 0, []),
  (24, .invokestatic 89, 3, 177, 2, 849, 0, 0, []),
  (27, .ifCond .ne 7, 3, 34, 0, 0, 0, 0, []),
  (30, .iconst 1, 1, 0, 0, 0, 1, 0, []),
  (31, .goto 4, 3, 35, 0, 0, 0, 0, []),
  (34, .iconst 0, 1, 0, 0, 0, 0, 0, []),
  (35, .ireturn, 1, 0, 2, 0, 0, 0, []),
  (36, .iload 5, 2, 0, 0, 0, 0, 0, []),
  (38, .iconst 2, 1, 0, 0, 0, 2, 0, []),
  (39, .if_icmp .ne 21, 3, 60, 0, 0, 0, 0, []),
  (42, .iload_n 3, 1, 0, 0, 0, 0, 0, []),
  (43, .iload 4, 2, 0, 0, 0, 0, 0, []),
  (45, .iand, 1, 0, 0, 0, 0, 0, []),
  (46, .invokestatic 82, 3, 190, 1, 840, 0, 0, []),
  (49, .iload 6, 2, 0, 0, 0, 0, 0, []),
  (51, .if_icmp .lt 7, 3, 58, 0, 0, 0, 0, []),
  (54, .iconst 1, 1, 0, 0, 0, 1, 0, []),
  (55, .goto 4, 3, 59, 0, 0, 0, 0, []),
  (58, .iconst 0, 1, 0, 0, 0, 0, 0, []),
  (59, .ireturn, 1, 0, 2, 0, 0, 0, []),
  (60, .iload 5, 2, 0, 0, 0, 0, 0, []),
  (62, .iconst 4, 1, 0, 0, 0, 4, 0, []),
  (63, .if_icmp .ne 18, 3, 81, 0, 0, 0, 0, []),
  (66, .iload_n 3, 1, 0, 0, 0, 0, 0, []),
  (67, .iload 4, 2, 0, 0, 0, 0, 0, []),
  (69, .if_icmp .ne 12, 3, 81, 0, 0, 0, 0, []),
  (72, .iload_n 3, 1, 0, 0, 0, 0, 0, []),
  (73, .invokestatic 82, 3, 190, 1, 840, 0, 0, []),
  (76, .iload 6, 2, 0, 0, 0, 0, 0, []),
  (78, .if_icmp .ne 7, 3, 85, 0, 0, 0, 0, []),
  (81, .iconst 1, 1, 0, 0, 0, 1, 0, []),
  (82, .goto 4, 3, 86, 0, 0, 0, 0, []),
  (85, .iconst 0, 1, 0, 0, 0, 0, 0, []),
  (86, .ireturn, 1, 0, 2, 0, 0, 0, [])]
noncomputable def kk_X7_goes_0 (F : Nat × Nat) : Nat → rx_L → List Value → Option rx_H → Option Int32 := fun t ls st u => none
set_option maxRecDepth 100000 in
theorem g_X7_goes_0 (F : Nat × Nat) (x3 : Int32) (x4 : Int32) (x5 : Int32) (x6 : Int32) : f_X7_goes_0 F x3 x4 x5 x6 = rx_node (C_X7_goes F) rx_rI t_X7_goes [] (kk_X7_goes_0 F) 48 0 [none, none, none, some (.int x3), some (.int x4), some (.int x5), some (.int x6)] [] none := rfl
def f_X7_lacking_0 (F : Nat × Nat) (x0 : Int32) (x1 : Int32) : Option Int32 :=
  if x0 = 0 then
    some x1
  else
    some x0
def f_X7_lacking (F : Nat × Nat) (x0 : Int32) (x1 : Int32) : Option Int32 := f_X7_lacking_0 F x0 x1
def c_X7_lacking {α : Type} (F : Nat × Nat) (as : List Value) (u : Option rx_H) (κ : rx_K α) : Option α := match as with
  | [.int a0, .int a1] => (f_X7_lacking F a0 a1).bind fun r => κ (some (.int r)) u
  | _ => none
noncomputable def C_X7_lacking {α : Type} (F : Nat × Nat) : rx_Cl α := fun j as u κ => none
def t_X7_lacking : List rx_E := [
  (0, .iload_n 0, 1, 0, 0, 0, 0, 0, []),
  (1, .ifCond .eq 7, 3, 8, 0, 0, 0, 0, []),
  (4, .iload_n 0, 1, 0, 0, 0, 0, 0, []),
  (5, .goto 4, 3, 9, 0, 0, 0, 0, []),
  (8, .iload_n 1, 1, 0, 0, 0, 0, 0, []),
  (9, .ireturn, 1, 0, 0, 0, 0, 0, [])]
noncomputable def kk_X7_lacking_0 (F : Nat × Nat) : Nat → rx_L → List Value → Option rx_H → Option Int32 := fun t ls st u => none
set_option maxRecDepth 100000 in
theorem g_X7_lacking_0 (F : Nat × Nat) (x0 : Int32) (x1 : Int32) : f_X7_lacking_0 F x0 x1 = rx_node (C_X7_lacking F) rx_rI t_X7_lacking [] (kk_X7_lacking_0 F) 9 0 [some (.int x0), some (.int x1)] [] none := rfl
def f_X7_factorial_4 (F : Nat × Nat) : Nat → Int32 → Int32 → Int32 → Option Int32
  | 0, _, _, _ => none
  | f + 1, x0, x1, x2 =>
    if x0 < x2 then
      some x1
    else
      (f_X7_factorial_4 F f) x0 (x1 * x2) (x2 + 1)
def f_X7_factorial_0 (F : Nat × Nat) (x0 : Int32) : Option Int32 :=
  f_X7_factorial_4 F F.1 x0 (1 : Int32) (2 : Int32)
def f_X7_factorial (F : Nat × Nat) (x0 : Int32) : Option Int32 := f_X7_factorial_0 F x0
def c_X7_factorial {α : Type} (F : Nat × Nat) (as : List Value) (u : Option rx_H) (κ : rx_K α) : Option α := match as with
  | [.int a0] => (f_X7_factorial F a0).bind fun r => κ (some (.int r)) u
  | _ => none
noncomputable def C_X7_factorial {α : Type} (F : Nat × Nat) : rx_Cl α := fun j as u κ => none
def t_X7_factorial : List rx_E := [
  (0, .iconst 1, 1, 0, 0, 0, 1, 0, []),
  (1, .istore_n 1, 1, 0, 0, 0, 0, 0, []),
  (2, .iconst 2, 1, 0, 0, 0, 2, 0, []),
  (3, .istore_n 2, 1, 0, 0, 0, 0, 0, []),
  (4, .iload_n 2, 1, 0, 0, 0, 0, 0, []),
  (5, .iload_n 0, 1, 0, 0, 0, 0, 0, []),
  (6, .if_icmp .gt 13, 3, 19, 0, 0, 0, 0, []),
  (9, .iload_n 1, 1, 0, 0, 0, 0, 0, []),
  (10, .iload_n 2, 1, 0, 0, 0, 0, 0, []),
  (11, .imul, 1, 0, 0, 0, 0, 0, []),
  (12, .istore_n 1, 1, 0, 0, 0, 0, 0, []),
  (13, .iinc 2 1, 3, 0, 0, 0, 1, 0, []),
  (16, .goto (-12), 3, 4, 0, 0, 0, 0, []),
  (19, .iload_n 1, 1, 0, 0, 0, 0, 0, []),
  (20, .ireturn, 1, 0, 0, 0, 0, 0, [])]
def n_X7_factorial_4 (k4 : Int32 → Int32 → Int32 → Option Int32) (ls : rx_L) (st : List Value) (u : Option rx_H) : Option Int32 := match ls, st, u with
  | [some (.int x0), some (.int x1), some (.int x2)], [], none => k4 x0 x1 x2
  | _, _, _ => none
noncomputable def kk_X7_factorial_4 (F : Nat × Nat) (k4 : Int32 → Int32 → Int32 → Option Int32) : Nat → rx_L → List Value → Option rx_H → Option Int32 := fun t ls st u => Bool.rec (motive := fun _ => Option Int32) (none) (n_X7_factorial_4 k4 ls st u) (Nat.beq t 4)
noncomputable def kk_X7_factorial_0 (F : Nat × Nat) : Nat → rx_L → List Value → Option rx_H → Option Int32 := fun t ls st u => Bool.rec (motive := fun _ => Option Int32) (none) (n_X7_factorial_4 (f_X7_factorial_4 F F.1) ls st u) (Nat.beq t 4)
set_option maxRecDepth 100000 in
theorem g_X7_factorial_4 (F : Nat × Nat) (f : Nat) (x0 : Int32) (x1 : Int32) (x2 : Int32) : f_X7_factorial_4 F (f + 1) x0 x1 x2 = rx_node (C_X7_factorial F) rx_rI t_X7_factorial [4] (kk_X7_factorial_4 F (f_X7_factorial_4 F f)) 18 4 [some (.int x0), some (.int x1), some (.int x2)] [] none := rfl
set_option maxRecDepth 100000 in
theorem g_X7_factorial_0 (F : Nat × Nat) (x0 : Int32) : f_X7_factorial_0 F x0 = rx_node (C_X7_factorial F) rx_rI t_X7_factorial [4] (kk_X7_factorial_0 F) 18 0 [some (.int x0), none, none] [] none := rfl
def f_X7_choose_32 (F : Nat × Nat) (x0 : Int32) (x1 : Int32) (x2 : Int32) : Option Int32 :=
  if x0 < x1 then
    some (0 : Int32)
  else
    some x2
def f_X7_choose_4 (F : Nat × Nat) : Nat → Int32 → Int32 → Int32 → Int32 → Option Int32
  | 0, _, _, _, _ => none
  | f + 1, x0, x1, x2, x3 =>
    if x3 < x1 then
      if (2000 : Int32) < x2 then
        f_X7_choose_32 F x0 x1 x2
      else
        if x3 + (1 : Int32) = 0 then
          none
        else
          (f_X7_choose_4 F f) x0 x1 ((x2 * (x0 - x3)) / (x3 + (1 : Int32))) (x3 + 1)
    else
      f_X7_choose_32 F x0 x1 x2
def f_X7_choose_0 (F : Nat × Nat) (x0 : Int32) (x1 : Int32) : Option Int32 :=
  f_X7_choose_4 F F.1 x0 x1 (1 : Int32) (0 : Int32)
def f_X7_choose (F : Nat × Nat) (x0 : Int32) (x1 : Int32) : Option Int32 := f_X7_choose_0 F x0 x1
def c_X7_choose {α : Type} (F : Nat × Nat) (as : List Value) (u : Option rx_H) (κ : rx_K α) : Option α := match as with
  | [.int a0, .int a1] => (f_X7_choose F a0 a1).bind fun r => κ (some (.int r)) u
  | _ => none
noncomputable def C_X7_choose {α : Type} (F : Nat × Nat) : rx_Cl α := fun j as u κ => none
def t_X7_choose : List rx_E := [
  (0, .iconst 1, 1, 0, 0, 0, 1, 0, []),
  (1, .istore_n 2, 1, 0, 0, 0, 0, 0, []),
  (2, .iconst 0, 1, 0, 0, 0, 0, 0, []),
  (3, .istore_n 3, 1, 0, 0, 0, 0, 0, []),
  (4, .iload_n 3, 1, 0, 0, 0, 0, 0, []),
  (5, .iload_n 1, 1, 0, 0, 0, 0, 0, []),
  (6, .if_icmp .ge 26, 3, 32, 0, 0, 0, 0, []),
  (9, .iload_n 2, 1, 0, 0, 0, 0, 0, []),
  (10, .sipush 2000, 3, 0, 0, 0, 2000, 0, []),
  (13, .if_icmp .gt 19, 3, 32, 0, 0, 0, 0, []),
  (16, .iload_n 2, 1, 0, 0, 0, 0, 0, []),
  (17, .iload_n 0, 1, 0, 0, 0, 0, 0, []),
  (18, .iload_n 3, 1, 0, 0, 0, 0, 0, []),
  (19, .isub, 1, 0, 0, 0, 0, 0, []),
  (20, .imul, 1, 0, 0, 0, 0, 0, []),
  (21, .iload_n 3, 1, 0, 0, 0, 0, 0, []),
  (22, .iconst 1, 1, 0, 0, 0, 1, 0, []),
  (23, .iadd, 1, 0, 0, 0, 0, 0, []),
  (24, .idiv, 1, 0, 0, 0, 0, 0, []),
  (25, .istore_n 2, 1, 0, 0, 0, 0, 0, []),
  (26, .iinc 3 1, 3, 0, 0, 0, 1, 0, []),
  (29, .goto (-25), 3, 4, 0, 0, 0, 0, []),
  (32, .iload_n 0, 1, 0, 0, 0, 0, 0, []),
  (33, .iload_n 1, 1, 0, 0, 0, 0, 0, []),
  (34, .if_icmp .ge 7, 3, 41, 0, 0, 0, 0, []),
  (37, .iconst 0, 1, 0, 0, 0, 0, 0, []),
  (38, .goto 4, 3, 42, 0, 0, 0, 0, []),
  (41, .iload_n 2, 1, 0, 0, 0, 0, 0, []),
  (42, .ireturn, 1, 0, 0, 0, 0, 0, [])]
def n_X7_choose_4 (k4 : Int32 → Int32 → Int32 → Int32 → Option Int32) (ls : rx_L) (st : List Value) (u : Option rx_H) : Option Int32 := match ls, st, u with
  | [some (.int x0), some (.int x1), some (.int x2), some (.int x3)], [], none => k4 x0 x1 x2 x3
  | _, _, _ => none
def n_X7_choose_32 (F : Nat × Nat) (ls : rx_L) (st : List Value) (u : Option rx_H) : Option Int32 := match ls, st, u with
  | [some (.int x0), some (.int x1), some (.int x2), _], [], none => f_X7_choose_32 F x0 x1 x2
  | _, _, _ => none
noncomputable def kk_X7_choose_32 (F : Nat × Nat) : Nat → rx_L → List Value → Option rx_H → Option Int32 := fun t ls st u => none
noncomputable def kk_X7_choose_4 (F : Nat × Nat) (k4 : Int32 → Int32 → Int32 → Int32 → Option Int32) : Nat → rx_L → List Value → Option rx_H → Option Int32 := fun t ls st u => Bool.rec (motive := fun _ => Option Int32) (Bool.rec (motive := fun _ => Option Int32) (none) (n_X7_choose_32 F ls st u) (Nat.beq t 32)) (n_X7_choose_4 k4 ls st u) (Nat.beq t 4)
noncomputable def kk_X7_choose_0 (F : Nat × Nat) : Nat → rx_L → List Value → Option rx_H → Option Int32 := fun t ls st u => Bool.rec (motive := fun _ => Option Int32) (none) (n_X7_choose_4 (f_X7_choose_4 F F.1) ls st u) (Nat.beq t 4)
set_option maxRecDepth 100000 in
theorem g_X7_choose_32 (F : Nat × Nat) (x0 : Int32) (x1 : Int32) (x2 : Int32) : f_X7_choose_32 F x0 x1 x2 = rx_node (C_X7_choose F) rx_rI t_X7_choose [4, 32] (kk_X7_choose_32 F) 32 32 [some (.int x0), some (.int x1), some (.int x2), none] [] none := rfl
set_option maxRecDepth 100000 in
theorem g_X7_choose_4 (F : Nat × Nat) (f : Nat) (x0 : Int32) (x1 : Int32) (x2 : Int32) (x3 : Int32) : f_X7_choose_4 F (f + 1) x0 x1 x2 x3 = rx_node (C_X7_choose F) rx_rI t_X7_choose [4, 32] (kk_X7_choose_4 F (f_X7_choose_4 F f)) 32 4 [some (.int x0), some (.int x1), some (.int x2), some (.int x3)] [] none := rfl
set_option maxRecDepth 100000 in
theorem g_X7_choose_0 (F : Nat × Nat) (x0 : Int32) (x1 : Int32) : f_X7_choose_0 F x0 x1 = rx_node (C_X7_choose F) rx_rI t_X7_choose [4, 32] (kk_X7_choose_0 F) 32 0 [some (.int x0), some (.int x1), none, none] [] none := rfl
def f_X7_greatestBelow_2 (F : Nat × Nat) : Nat → Int32 → Int32 → Int32 → Option Int32
  | 0, _, _, _ => none
  | f + 1, x0, x1, x2 =>
    (f_X7_choose F (x2 + (1 : Int32)) x1).bind fun v1 =>
    if x0 < v1 then
      some x2
    else
      (f_X7_greatestBelow_2 F f) x0 x1 (x2 + 1)
def f_X7_greatestBelow_0 (F : Nat × Nat) (x0 : Int32) (x1 : Int32) : Option Int32 :=
  f_X7_greatestBelow_2 F F.1 x0 x1 x1
def f_X7_greatestBelow (F : Nat × Nat) (x0 : Int32) (x1 : Int32) : Option Int32 := f_X7_greatestBelow_0 F x0 x1
def c_X7_greatestBelow {α : Type} (F : Nat × Nat) (as : List Value) (u : Option rx_H) (κ : rx_K α) : Option α := match as with
  | [.int a0, .int a1] => (f_X7_greatestBelow F a0 a1).bind fun r => κ (some (.int r)) u
  | _ => none
noncomputable def C_X7_greatestBelow {α : Type} (F : Nat × Nat) : rx_Cl α := fun j as u κ => Bool.rec (motive := fun _ => Option α) (none) (c_X7_choose F as u κ) (Nat.beq j 143)
def t_X7_greatestBelow : List rx_E := [
  (0, .iload_n 1, 1, 0, 0, 0, 0, 0, []),
  (1, .istore_n 2, 1, 0, 0, 0, 0, 0, []),
  (2, .iload_n 2, 1, 0, 0, 0, 0, 0, []),
  (3, .iconst 1, 1, 0, 0, 0, 1, 0, []),
  (4, .iadd, 1, 0, 0, 0, 0, 0, []),
  (5, .iload_n 1, 1, 0, 0, 0, 0, 0, []),
  (6, .invokestatic 170, 3, 143, 2, 1023, 0, 0, []),
  (9, .iload_n 0, 1, 0, 0, 0, 0, 0, []),
  (10, .if_icmp .gt 9, 3, 19, 0, 0, 0, 0, []),
  (13, .iinc 2 1, 3, 0, 0, 0, 1, 0, []),
  (16, .goto (-14), 3, 2, 0, 0, 0, 0, []),
  (19, .iload_n 2, 1, 0, 0, 0, 0, 0, []),
  (20, .ireturn, 1, 0, 0, 0, 0, 0, [])]
def n_X7_greatestBelow_2 (k2 : Int32 → Int32 → Int32 → Option Int32) (ls : rx_L) (st : List Value) (u : Option rx_H) : Option Int32 := match ls, st, u with
  | [some (.int x0), some (.int x1), some (.int x2)], [], none => k2 x0 x1 x2
  | _, _, _ => none
noncomputable def kk_X7_greatestBelow_2 (F : Nat × Nat) (k2 : Int32 → Int32 → Int32 → Option Int32) : Nat → rx_L → List Value → Option rx_H → Option Int32 := fun t ls st u => Bool.rec (motive := fun _ => Option Int32) (none) (n_X7_greatestBelow_2 k2 ls st u) (Nat.beq t 2)
noncomputable def kk_X7_greatestBelow_0 (F : Nat × Nat) : Nat → rx_L → List Value → Option rx_H → Option Int32 := fun t ls st u => Bool.rec (motive := fun _ => Option Int32) (none) (n_X7_greatestBelow_2 (f_X7_greatestBelow_2 F F.1) ls st u) (Nat.beq t 2)
set_option maxRecDepth 100000 in
theorem g_X7_greatestBelow_2 (F : Nat × Nat) (f : Nat) (x0 : Int32) (x1 : Int32) (x2 : Int32) : f_X7_greatestBelow_2 F (f + 1) x0 x1 x2 = rx_node (C_X7_greatestBelow F) rx_rI t_X7_greatestBelow [2] (kk_X7_greatestBelow_2 F (f_X7_greatestBelow_2 F f)) 16 2 [some (.int x0), some (.int x1), some (.int x2)] [] none := rfl
set_option maxRecDepth 100000 in
theorem g_X7_greatestBelow_0 (F : Nat × Nat) (x0 : Int32) (x1 : Int32) : f_X7_greatestBelow_0 F x0 x1 = rx_node (C_X7_greatestBelow F) rx_rI t_X7_greatestBelow [2] (kk_X7_greatestBelow_0 F) 16 0 [some (.int x0), some (.int x1), none] [] none := rfl
def f_X7_cascade_33 (F : Nat × Nat) : Nat → Int32 → Int32 → Int32 → Int32 → Option Int32
  | 0, _, _, _, _ => none
  | f + 1, x2, x3, x4, x5 =>
    if 0 < x5 then
      if 0 < x4 then
        (f_X7_greatestBelow F x4 x5).bind fun v1 =>
        if x2 - x5 = x3 then
          some v1
        else
          (f_X7_choose F v1 x5).bind fun v2 =>
          (f_X7_cascade_33 F f) x2 x3 (x4 - v2) (x5 + (-1))
      else
        some (-2 : Int32)
    else
      some (-2 : Int32)
def f_X7_cascade_0 (F : Nat × Nat) (x1 : Int32) (x2 : Int32) (x3 : Int32) : Option Int32 :=
  (f_X7_isIn F x1 (1 : Int32) (1000 : Int32)).bind fun v1 =>
  if v1 = 0 then
    some (-1 : Int32)
  else
    (f_X7_isIn F x2 (1 : Int32) (6 : Int32)).bind fun v2 =>
    if v2 = 0 then
      some (-1 : Int32)
    else
      if x3 < 0 then
        some (-1 : Int32)
      else
        f_X7_cascade_33 F F.1 x2 x3 x1 x2
def f_X7_cascade (F : Nat × Nat) (x0 : Nat) (x1 : Int32) (x2 : Int32) (x3 : Int32) : Option Int32 := f_X7_cascade_0 F x1 x2 x3
def c_X7_cascade {α : Type} (F : Nat × Nat) (as : List Value) (u : Option rx_H) (κ : rx_K α) : Option α := match as with
  | [.ref a0, .int a1, .int a2, .int a3] => (f_X7_cascade F a0 a1 a2 a3).bind fun r => κ (some (.int r)) u
  | _ => none
noncomputable def C_X7_cascade {α : Type} (F : Nat × Nat) : rx_Cl α := fun j as u κ => Bool.rec (motive := fun _ => Option α) (Bool.rec (motive := fun _ => Option α) (Bool.rec (motive := fun _ => Option α) (none) (c_X7_isIn F as u κ) (Nat.beq j 171)) (c_X7_greatestBelow F as u κ) (Nat.beq j 162)) (c_X7_choose F as u κ) (Nat.beq j 143)
def t_X7_cascade : List rx_E := [
  (0, .iload_n 1, 1, 0, 0, 0, 0, 0, []),
  (1, .iconst 1, 1, 0, 0, 0, 1, 0, []),
  (2, .sipush 1000, 3, 0, 0, 0, 1000, 0, []),
  (5, .invokestatic 54, 3, 171, 3, 802, 0, 0, []),
  (8, .ifCond .eq 17, 3, 25, 0, 0, 0, 0, []),
  (11, .iload_n 2, 1, 0, 0, 0, 0, 0, []),
  (12, .iconst 1, 1, 0, 0, 0, 1, 0, []),
  (13, .bipush 6, 2, 0, 0, 0, 6, 0, []),
  (15, .invokestatic 54, 3, 171, 3, 802, 0, 0, []),
  (18, .ifCond .eq 7, 3, 25, 0, 0, 0, 0, []),
  (21, .iload_n 3, 1, 0, 0, 0, 0, 0, []),
  (22, .ifCond .ge 5, 3, 27, 0, 0, 0, 0, []),
  (25, .iconst (-1), 1, 0, 0, 0, (-1), 0, []),
  (26, .ireturn, 1, 0, 0, 0, 0, 0, []),
  (27, .iload_n 1, 1, 0, 0, 0, 0, 0, []),
  (28, .istore 4, 2, 0, 0, 0, 0, 0, []),
  (30, .iload_n 2, 1, 0, 0, 0, 0, 0, []),
  (31, .istore 5, 2, 0, 0, 0, 0, 0, []),
  (33, .iload 5, 2, 0, 0, 0, 0, 0, []),
  (35, .ifCond .le 46, 3, 81, 0, 0, 0, 0, []),
  (38, .iload 4, 2, 0, 0, 0, 0, 0, []),
  (40, .ifCond .le 41, 3, 81, 0, 0, 0, 0, []),
  (43, .iload 4, 2, 0, 0, 0, 0, 0, []),
  (45, .iload 5, 2, 0, 0, 0, 0, 0, []),
  (47, .invokestatic 173, 3, 162, 2, 1020, 0, 0, []),
  (50, .istore 6, 2, 0, 0, 0, 0, 0, []),
  (52, .iload_n 2, 1, 0, 0, 0, 0, 0, []),
  (53, .iload 5, 2, 0, 0, 0, 0, 0, []),
  (55, .isub, 1, 0, 0, 0, 0, 0, []),
  (56, .iload_n 3, 1, 0, 0, 0, 0, 0, []),
  (57, .if_icmp .ne 6, 3, 63, 0, 0, 0, 0, []),
  (60, .iload 6, 2, 0, 0, 0, 0, 0, []),
  (62, .ireturn, 1, 0, 0, 0, 0, 0, []),
  (63, .iload 4, 2, 0, 0, 0, 0, 0, []),
  (65, .iload 6, 2, 0, 0, 0, 0, 0, []),
  (67, .iload 5, 2, 0, 0, 0, 0, 0, []),
  (69, .invokestatic 170, 3, 143, 2, 1023, 0, 0, []),
  (72, .isub, 1, 0, 0, 0, 0, 0, []),
  (73, .istore 4, 2, 0, 0, 0, 0, 0, []),
  (75, .iinc 5 (-1), 3, 0, 0, 0, (-1), 0, []),
  (78, .goto (-45), 3, 33, 0, 0, 0, 0, []),
  (81, .bipush (-2), 2, 0, 0, 0, (-2), 0, []),
  (83, .ireturn, 1, 0, 0, 0, 0, 0, [])]
def n_X7_cascade_33 (k33 : Int32 → Int32 → Int32 → Int32 → Option Int32) (ls : rx_L) (st : List Value) (u : Option rx_H) : Option Int32 := match ls, st, u with
  | [_, _, some (.int x2), some (.int x3), some (.int x4), some (.int x5), _], [], none => k33 x2 x3 x4 x5
  | _, _, _ => none
noncomputable def kk_X7_cascade_33 (F : Nat × Nat) (k33 : Int32 → Int32 → Int32 → Int32 → Option Int32) : Nat → rx_L → List Value → Option rx_H → Option Int32 := fun t ls st u => Bool.rec (motive := fun _ => Option Int32) (none) (n_X7_cascade_33 k33 ls st u) (Nat.beq t 33)
noncomputable def kk_X7_cascade_0 (F : Nat × Nat) : Nat → rx_L → List Value → Option rx_H → Option Int32 := fun t ls st u => Bool.rec (motive := fun _ => Option Int32) (none) (n_X7_cascade_33 (f_X7_cascade_33 F F.1) ls st u) (Nat.beq t 33)
set_option maxRecDepth 100000 in
theorem g_X7_cascade_33 (F : Nat × Nat) (f : Nat) (x2 : Int32) (x3 : Int32) (x4 : Int32) (x5 : Int32) : f_X7_cascade_33 F (f + 1) x2 x3 x4 x5 = rx_node (C_X7_cascade F) rx_rI t_X7_cascade [33] (kk_X7_cascade_33 F (f_X7_cascade_33 F f)) 46 33 [none, none, some (.int x2), some (.int x3), some (.int x4), some (.int x5), none] [] none := rfl
set_option maxRecDepth 100000 in
theorem g_X7_cascade_0 (F : Nat × Nat) (x1 : Int32) (x2 : Int32) (x3 : Int32) : f_X7_cascade_0 F x1 x2 x3 = rx_node (C_X7_cascade F) rx_rI t_X7_cascade [33] (kk_X7_cascade_0 F) 46 0 [none, some (.int x1), some (.int x2), some (.int x3), none, none, none] [] none := rfl
def f_X7_chooseAll_5 (F : Nat × Nat) : Nat → Int32 → Int32 → Int64 → Int32 → Option Int32
  | 0, _, _, _, _ => none
  | f + 1, x0, x1, x2, x4 =>
    if x4 < x1 then
      if Int32.toInt64 (x4 + (1 : Int32)) = 0 then
        none
      else
        (f_X7_chooseAll_5 F f) x0 x1 ((x2 * (Int32.toInt64 (x0 - x4))) / (Int32.toInt64 (x4 + (1 : Int32)))) (x4 + 1)
    else
      some (Int64.toInt32 x2)
def f_X7_chooseAll_0 (F : Nat × Nat) (x0 : Int32) (x1 : Int32) : Option Int32 :=
  f_X7_chooseAll_5 F F.1 x0 x1 (1 : Int64) (0 : Int32)
def f_X7_chooseAll (F : Nat × Nat) (x0 : Int32) (x1 : Int32) : Option Int32 := f_X7_chooseAll_0 F x0 x1
def c_X7_chooseAll {α : Type} (F : Nat × Nat) (as : List Value) (u : Option rx_H) (κ : rx_K α) : Option α := match as with
  | [.int a0, .int a1] => (f_X7_chooseAll F a0 a1).bind fun r => κ (some (.int r)) u
  | _ => none
noncomputable def C_X7_chooseAll {α : Type} (F : Nat × Nat) : rx_Cl α := fun j as u κ => none
def t_X7_chooseAll : List rx_E := [
  (0, .lconst 1, 1, 0, 0, 0, 0, 1, []),
  (1, .lstore_n 2, 1, 0, 0, 0, 0, 0, []),
  (2, .iconst 0, 1, 0, 0, 0, 0, 0, []),
  (3, .istore 4, 2, 0, 0, 0, 0, 0, []),
  (5, .iload 4, 2, 0, 0, 0, 0, 0, []),
  (7, .iload_n 1, 1, 0, 0, 0, 0, 0, []),
  (8, .if_icmp .ge 23, 3, 31, 0, 0, 0, 0, []),
  (11, .lload_n 2, 1, 0, 0, 0, 0, 0, []),
  (12, .iload_n 0, 1, 0, 0, 0, 0, 0, []),
  (13, .iload 4, 2, 0, 0, 0, 0, 0, []),
  (15, .isub, 1, 0, 0, 0, 0, 0, []),
  (16, .i2l, 1, 0, 0, 0, 0, 0, []),
  (17, .lmul, 1, 0, 0, 0, 0, 0, []),
  (18, .iload 4, 2, 0, 0, 0, 0, 0, []),
  (20, .iconst 1, 1, 0, 0, 0, 1, 0, []),
  (21, .iadd, 1, 0, 0, 0, 0, 0, []),
  (22, .i2l, 1, 0, 0, 0, 0, 0, []),
  (23, .ldiv, 1, 0, 0, 0, 0, 0, []),
  (24, .lstore_n 2, 1, 0, 0, 0, 0, 0, []),
  (25, .iinc 4 1, 3, 0, 0, 0, 1, 0, []),
  (28, .goto (-23), 3, 5, 0, 0, 0, 0, []),
  (31, .lload_n 2, 1, 0, 0, 0, 0, 0, []),
  (32, .l2i, 1, 0, 0, 0, 0, 0, []),
  (33, .ireturn, 1, 0, 0, 0, 0, 0, [])]
def n_X7_chooseAll_5 (k5 : Int32 → Int32 → Int64 → Int32 → Option Int32) (ls : rx_L) (st : List Value) (u : Option rx_H) : Option Int32 := match ls, st, u with
  | [some (.int x0), some (.int x1), some (.long x2), _, some (.int x4)], [], none => k5 x0 x1 x2 x4
  | _, _, _ => none
noncomputable def kk_X7_chooseAll_5 (F : Nat × Nat) (k5 : Int32 → Int32 → Int64 → Int32 → Option Int32) : Nat → rx_L → List Value → Option rx_H → Option Int32 := fun t ls st u => Bool.rec (motive := fun _ => Option Int32) (none) (n_X7_chooseAll_5 k5 ls st u) (Nat.beq t 5)
noncomputable def kk_X7_chooseAll_0 (F : Nat × Nat) : Nat → rx_L → List Value → Option rx_H → Option Int32 := fun t ls st u => Bool.rec (motive := fun _ => Option Int32) (none) (n_X7_chooseAll_5 (f_X7_chooseAll_5 F F.1) ls st u) (Nat.beq t 5)
set_option maxRecDepth 100000 in
theorem g_X7_chooseAll_5 (F : Nat × Nat) (f : Nat) (x0 : Int32) (x1 : Int32) (x2 : Int64) (x4 : Int32) : f_X7_chooseAll_5 F (f + 1) x0 x1 x2 x4 = rx_node (C_X7_chooseAll F) rx_rI t_X7_chooseAll [5] (kk_X7_chooseAll_5 F (f_X7_chooseAll_5 F f)) 27 5 [some (.int x0), some (.int x1), some (.long x2), none, some (.int x4)] [] none := rfl
set_option maxRecDepth 100000 in
theorem g_X7_chooseAll_0 (F : Nat × Nat) (x0 : Int32) (x1 : Int32) : f_X7_chooseAll_0 F x0 x1 = rx_node (C_X7_chooseAll F) rx_rI t_X7_chooseAll [5] (kk_X7_chooseAll_0 F) 27 0 [some (.int x0), some (.int x1), none, none, none] [] none := rfl
def f_X7_least_31 (F : Nat × Nat) : Nat → Int32 → Int32 → Int32 → Option Int32
  | 0, _, _, _ => none
  | f + 1, x3, x4, x5 =>
    if 0 < x5 then
      if 0 < x3 then
        (f_X7_greatestBelow F x3 x5).bind fun v1 =>
        (f_X7_chooseAll F v1 (x5 - (1 : Int32))).bind fun v2 =>
        (f_X7_choose F v1 x5).bind fun v3 =>
        (f_X7_least_31 F f) (x3 - v3) (x4 + v2) (x5 + (-1))
      else
        some x4
    else
      some x4
def f_X7_least_0 (F : Nat × Nat) (x1 : Int32) (x2 : Int32) : Option Int32 :=
  (f_X7_isIn F x1 (1 : Int32) (1000 : Int32)).bind fun v1 =>
  if v1 = 0 then
    some (-1 : Int32)
  else
    (f_X7_isIn F x2 (1 : Int32) (6 : Int32)).bind fun v2 =>
    if v2 = 0 then
      some (-1 : Int32)
    else
      f_X7_least_31 F F.1 x1 (0 : Int32) x2
def f_X7_least (F : Nat × Nat) (x0 : Nat) (x1 : Int32) (x2 : Int32) : Option Int32 := f_X7_least_0 F x1 x2
def c_X7_least {α : Type} (F : Nat × Nat) (as : List Value) (u : Option rx_H) (κ : rx_K α) : Option α := match as with
  | [.ref a0, .int a1, .int a2] => (f_X7_least F a0 a1 a2).bind fun r => κ (some (.int r)) u
  | _ => none
noncomputable def C_X7_least {α : Type} (F : Nat × Nat) : rx_Cl α := fun j as u κ => Bool.rec (motive := fun _ => Option α) (Bool.rec (motive := fun _ => Option α) (Bool.rec (motive := fun _ => Option α) (Bool.rec (motive := fun _ => Option α) (none) (c_X7_isIn F as u κ) (Nat.beq j 171)) (c_X7_greatestBelow F as u κ) (Nat.beq j 162)) (c_X7_chooseAll F as u κ) (Nat.beq j 144)) (c_X7_choose F as u κ) (Nat.beq j 143)
def t_X7_least : List rx_E := [
  (0, .iload_n 1, 1, 0, 0, 0, 0, 0, []),
  (1, .iconst 1, 1, 0, 0, 0, 1, 0, []),
  (2, .sipush 1000, 3, 0, 0, 0, 1000, 0, []),
  (5, .invokestatic 54, 3, 171, 3, 802, 0, 0, []),
  (8, .ifCond .eq 13, 3, 21, 0, 0, 0, 0, []),
  (11, .iload_n 2, 1, 0, 0, 0, 0, 0, []),
  (12, .iconst 1, 1, 0, 0, 0, 1, 0, []),
  (13, .bipush 6, 2, 0, 0, 0, 6, 0, []),
  (15, .invokestatic 54, 3, 171, 3, 802, 0, 0, []),
  (18, .ifCond .ne 5, 3, 23, 0, 0, 0, 0, []),
  (21, .iconst (-1), 1, 0, 0, 0, (-1), 0, []),
  (22, .ireturn, 1, 0, 0, 0, 0, 0, []),
  (23, .iload_n 1, 1, 0, 0, 0, 0, 0, []),
  (24, .istore_n 3, 1, 0, 0, 0, 0, 0, []),
  (25, .iconst 0, 1, 0, 0, 0, 0, 0, []),
  (26, .istore 4, 2, 0, 0, 0, 0, 0, []),
  (28, .iload_n 2, 1, 0, 0, 0, 0, 0, []),
  (29, .istore 5, 2, 0, 0, 0, 0, 0, []),
  (31, .iload 5, 2, 0, 0, 0, 0, 0, []),
  (33, .ifCond .le 45, 3, 78, 0, 0, 0, 0, []),
  (36, .iload_n 3, 1, 0, 0, 0, 0, 0, []),
  (37, .ifCond .le 41, 3, 78, 0, 0, 0, 0, []),
  (40, .iload_n 3, 1, 0, 0, 0, 0, 0, []),
  (41, .iload 5, 2, 0, 0, 0, 0, 0, []),
  (43, .invokestatic 173, 3, 162, 2, 1020, 0, 0, []),
  (46, .istore 6, 2, 0, 0, 0, 0, 0, []),
  (48, .iload 4, 2, 0, 0, 0, 0, 0, []),
  (50, .iload 6, 2, 0, 0, 0, 0, 0, []),
  (52, .iload 5, 2, 0, 0, 0, 0, 0, []),
  (54, .iconst 1, 1, 0, 0, 0, 1, 0, []),
  (55, .isub, 1, 0, 0, 0, 0, 0, []),
  (56, .invokestatic 176, 3, 144, 2, 1030, 0, 0, []),
  (59, .iadd, 1, 0, 0, 0, 0, 0, []),
  (60, .istore 4, 2, 0, 0, 0, 0, 0, []),
  (62, .iload_n 3, 1, 0, 0, 0, 0, 0, []),
  (63, .iload 6, 2, 0, 0, 0, 0, 0, []),
  (65, .iload 5, 2, 0, 0, 0, 0, 0, []),
  (67, .invokestatic 170, 3, 143, 2, 1023, 0, 0, []),
  (70, .isub, 1, 0, 0, 0, 0, 0, []),
  (71, .istore_n 3, 1, 0, 0, 0, 0, 0, []),
  (72, .iinc 5 (-1), 3, 0, 0, 0, (-1), 0, []),
  (75, .goto (-44), 3, 31, 0, 0, 0, 0, []),
  (78, .iload 4, 2, 0, 0, 0, 0, 0, []),
  (80, .ireturn, 1, 0, 0, 0, 0, 0, [])]
def n_X7_least_31 (k31 : Int32 → Int32 → Int32 → Option Int32) (ls : rx_L) (st : List Value) (u : Option rx_H) : Option Int32 := match ls, st, u with
  | [_, _, _, some (.int x3), some (.int x4), some (.int x5), _], [], none => k31 x3 x4 x5
  | _, _, _ => none
noncomputable def kk_X7_least_31 (F : Nat × Nat) (k31 : Int32 → Int32 → Int32 → Option Int32) : Nat → rx_L → List Value → Option rx_H → Option Int32 := fun t ls st u => Bool.rec (motive := fun _ => Option Int32) (none) (n_X7_least_31 k31 ls st u) (Nat.beq t 31)
noncomputable def kk_X7_least_0 (F : Nat × Nat) : Nat → rx_L → List Value → Option rx_H → Option Int32 := fun t ls st u => Bool.rec (motive := fun _ => Option Int32) (none) (n_X7_least_31 (f_X7_least_31 F F.1) ls st u) (Nat.beq t 31)
set_option maxRecDepth 100000 in
theorem g_X7_least_31 (F : Nat × Nat) (f : Nat) (x3 : Int32) (x4 : Int32) (x5 : Int32) : f_X7_least_31 F (f + 1) x3 x4 x5 = rx_node (C_X7_least F) rx_rI t_X7_least [31] (kk_X7_least_31 F (f_X7_least_31 F f)) 47 31 [none, none, none, some (.int x3), some (.int x4), some (.int x5), none] [] none := rfl
set_option maxRecDepth 100000 in
theorem g_X7_least_0 (F : Nat × Nat) (x1 : Int32) (x2 : Int32) : f_X7_least_0 F x1 x2 = rx_node (C_X7_least F) rx_rI t_X7_least [31] (kk_X7_least_0 F) 47 0 [none, some (.int x1), some (.int x2), none, none, none, none] [] none := rfl
def f_X7_power_5 (F : Nat × Nat) : Nat → Int32 → Int32 → Int64 → Int32 → Option Int64
  | 0, _, _, _, _ => none
  | f + 1, x0, x1, x2, x4 =>
    if x4 < x1 then
      (f_X7_power_5 F f) x0 x1 (x2 * (Int32.toInt64 x0)) (x4 + 1)
    else
      some x2
def f_X7_power_0 (F : Nat × Nat) (x0 : Int32) (x1 : Int32) : Option Int64 :=
  f_X7_power_5 F F.1 x0 x1 (1 : Int64) (0 : Int32)
def f_X7_power (F : Nat × Nat) (x0 : Int32) (x1 : Int32) : Option Int64 := f_X7_power_0 F x0 x1
def c_X7_power {α : Type} (F : Nat × Nat) (as : List Value) (u : Option rx_H) (κ : rx_K α) : Option α := match as with
  | [.int a0, .int a1] => (f_X7_power F a0 a1).bind fun r => κ (some (.long r)) u
  | _ => none
noncomputable def C_X7_power {α : Type} (F : Nat × Nat) : rx_Cl α := fun j as u κ => none
def t_X7_power : List rx_E := [
  (0, .lconst 1, 1, 0, 0, 0, 0, 1, []),
  (1, .lstore_n 2, 1, 0, 0, 0, 0, 0, []),
  (2, .iconst 0, 1, 0, 0, 0, 0, 0, []),
  (3, .istore 4, 2, 0, 0, 0, 0, 0, []),
  (5, .iload 4, 2, 0, 0, 0, 0, 0, []),
  (7, .iload_n 1, 1, 0, 0, 0, 0, 0, []),
  (8, .if_icmp .ge 14, 3, 22, 0, 0, 0, 0, []),
  (11, .lload_n 2, 1, 0, 0, 0, 0, 0, []),
  (12, .iload_n 0, 1, 0, 0, 0, 0, 0, []),
  (13, .i2l, 1, 0, 0, 0, 0, 0, []),
  (14, .lmul, 1, 0, 0, 0, 0, 0, []),
  (15, .lstore_n 2, 1, 0, 0, 0, 0, 0, []),
  (16, .iinc 4 1, 3, 0, 0, 0, 1, 0, []),
  (19, .goto (-14), 3, 5, 0, 0, 0, 0, []),
  (22, .lload_n 2, 1, 0, 0, 0, 0, 0, []),
  (23, .lreturn, 1, 0, 0, 0, 0, 0, [])]
def n_X7_power_5 (k5 : Int32 → Int32 → Int64 → Int32 → Option Int64) (ls : rx_L) (st : List Value) (u : Option rx_H) : Option Int64 := match ls, st, u with
  | [some (.int x0), some (.int x1), some (.long x2), _, some (.int x4)], [], none => k5 x0 x1 x2 x4
  | _, _, _ => none
noncomputable def kk_X7_power_5 (F : Nat × Nat) (k5 : Int32 → Int32 → Int64 → Int32 → Option Int64) : Nat → rx_L → List Value → Option rx_H → Option Int64 := fun t ls st u => Bool.rec (motive := fun _ => Option Int64) (none) (n_X7_power_5 k5 ls st u) (Nat.beq t 5)
noncomputable def kk_X7_power_0 (F : Nat × Nat) : Nat → rx_L → List Value → Option rx_H → Option Int64 := fun t ls st u => Bool.rec (motive := fun _ => Option Int64) (none) (n_X7_power_5 (f_X7_power_5 F F.1) ls st u) (Nat.beq t 5)
set_option maxRecDepth 100000 in
theorem g_X7_power_5 (F : Nat × Nat) (f : Nat) (x0 : Int32) (x1 : Int32) (x2 : Int64) (x4 : Int32) : f_X7_power_5 F (f + 1) x0 x1 x2 x4 = rx_node (C_X7_power F) rx_rJ t_X7_power [5] (kk_X7_power_5 F (f_X7_power_5 F f)) 19 5 [some (.int x0), some (.int x1), some (.long x2), none, some (.int x4)] [] none := rfl
set_option maxRecDepth 100000 in
theorem g_X7_power_0 (F : Nat × Nat) (x0 : Int32) (x1 : Int32) : f_X7_power_0 F x0 x1 = rx_node (C_X7_power F) rx_rJ t_X7_power [5] (kk_X7_power_0 F) 19 0 [some (.int x0), some (.int x1), none, none, none] [] none := rfl
end
section
set_option maxRecDepth 100000 in
theorem k_J13_bitCount_95d88 : rx_Cal (rx_ny 0) prog_14_method_50_code 2 (some .int) (rx_kd 0) 1 := ⟨rx_in (i := 186) (by rfl) (by rfl), rx_in (i := 49) (by decide +kernel) (by decide +kernel), ⟨(by decide +kernel), (by decide +kernel), (by decide +kernel)⟩, Nat.le_of_ble_eq_true rfl, (by decide +kernel), fun _ => rx_in (i := 185) (by decide +kernel) (by decide +kernel), fun h => absurd h (by decide), fun h => absurd h (by decide)⟩
set_option maxRecDepth 100000 in
theorem tk_J13_bitCount_95d88 : (t_J13_bitCount_95d88.all (rx_eok "java/lang/Long" prog_14_method_50_code 2 false false) && rx_adj t_J13_bitCount_95d88) = true := by decide +kernel
theorem s_J13_bitCount_95d88_55 {F : Nat × Nat} {l : Launch} {G : rx_G} {D : Nat} {hf : rx_H} {z : Int32} (hC : rx_CC l G D (C_J13_bitCount_95d88 F) z) (x0 : Int64) (h : f_J13_bitCount_95d88_55 F x0 = some z) : rx_S l G ("java/lang/Long", prog_14_method_50_code, 2, false, false, D) hf hf rx_rI z 55 [some (.long x0), none] [] none := by
  rw [g_J13_bitCount_95d88_55] at h
  refine rx_S_node (md := ("java/lang/Long", prog_14_method_50_code, 2, false, false, D)) tk_J13_bitCount_95d88 hC rx_m_rI (fun t ls st u h => ?_) h
  unfold kk_J13_bitCount_95d88_55 at h
  cases h
theorem s_J13_bitCount_95d88_48 {F : Nat × Nat} {l : Launch} {G : rx_G} {D : Nat} {hf : rx_H} {z : Int32} (hC : rx_CC l G D (C_J13_bitCount_95d88 F) z) (x0 : Int64) (h : f_J13_bitCount_95d88_48 F x0 = some z) : rx_S l G ("java/lang/Long", prog_14_method_50_code, 2, false, false, D) hf hf rx_rI z 48 [some (.long x0), none] [] none := by
  rw [g_J13_bitCount_95d88_48] at h
  refine rx_S_node (md := ("java/lang/Long", prog_14_method_50_code, 2, false, false, D)) tk_J13_bitCount_95d88 hC rx_m_rI (fun t ls st u h => ?_) h
  unfold kk_J13_bitCount_95d88_48 at h
  rcases rx_rec_eq h with ⟨hb, h⟩ | ⟨hb, h⟩
  · have ht := Nat.eq_of_beq_eq_true hb
    subst ht
    unfold n_J13_bitCount_95d88_55 at h
    split at h
    · exact (s_J13_bitCount_95d88_55 hC _ h).le ⟨Or.inr rfl, Or.inl rfl, trivial⟩
    · cases h
  cases h
theorem s_J13_bitCount_95d88_41 {F : Nat × Nat} {l : Launch} {G : rx_G} {D : Nat} {hf : rx_H} {z : Int32} (hC : rx_CC l G D (C_J13_bitCount_95d88 F) z) (x0 : Int64) (h : f_J13_bitCount_95d88_41 F x0 = some z) : rx_S l G ("java/lang/Long", prog_14_method_50_code, 2, false, false, D) hf hf rx_rI z 41 [some (.long x0), none] [] none := by
  rw [g_J13_bitCount_95d88_41] at h
  refine rx_S_node (md := ("java/lang/Long", prog_14_method_50_code, 2, false, false, D)) tk_J13_bitCount_95d88 hC rx_m_rI (fun t ls st u h => ?_) h
  unfold kk_J13_bitCount_95d88_41 at h
  rcases rx_rec_eq h with ⟨hb, h⟩ | ⟨hb, h⟩
  · have ht := Nat.eq_of_beq_eq_true hb
    subst ht
    unfold n_J13_bitCount_95d88_48 at h
    split at h
    · exact (s_J13_bitCount_95d88_48 hC _ h).le ⟨Or.inr rfl, Or.inl rfl, trivial⟩
    · cases h
  cases h
theorem s_J13_bitCount_95d88_34 {F : Nat × Nat} {l : Launch} {G : rx_G} {D : Nat} {hf : rx_H} {z : Int32} (hC : rx_CC l G D (C_J13_bitCount_95d88 F) z) (x0 : Int64) (h : f_J13_bitCount_95d88_34 F x0 = some z) : rx_S l G ("java/lang/Long", prog_14_method_50_code, 2, false, false, D) hf hf rx_rI z 34 [some (.long x0), none] [] none := by
  rw [g_J13_bitCount_95d88_34] at h
  refine rx_S_node (md := ("java/lang/Long", prog_14_method_50_code, 2, false, false, D)) tk_J13_bitCount_95d88 hC rx_m_rI (fun t ls st u h => ?_) h
  unfold kk_J13_bitCount_95d88_34 at h
  rcases rx_rec_eq h with ⟨hb, h⟩ | ⟨hb, h⟩
  · have ht := Nat.eq_of_beq_eq_true hb
    subst ht
    unfold n_J13_bitCount_95d88_41 at h
    split at h
    · exact (s_J13_bitCount_95d88_41 hC _ h).le ⟨Or.inr rfl, Or.inl rfl, trivial⟩
    · cases h
  cases h
theorem s_J13_bitCount_95d88_24 {F : Nat × Nat} {l : Launch} {G : rx_G} {D : Nat} {hf : rx_H} {z : Int32} (hC : rx_CC l G D (C_J13_bitCount_95d88 F) z) (x0 : Int64) (h : f_J13_bitCount_95d88_24 F x0 = some z) : rx_S l G ("java/lang/Long", prog_14_method_50_code, 2, false, false, D) hf hf rx_rI z 24 [some (.long x0), none] [] none := by
  rw [g_J13_bitCount_95d88_24] at h
  refine rx_S_node (md := ("java/lang/Long", prog_14_method_50_code, 2, false, false, D)) tk_J13_bitCount_95d88 hC rx_m_rI (fun t ls st u h => ?_) h
  unfold kk_J13_bitCount_95d88_24 at h
  rcases rx_rec_eq h with ⟨hb, h⟩ | ⟨hb, h⟩
  · have ht := Nat.eq_of_beq_eq_true hb
    subst ht
    unfold n_J13_bitCount_95d88_34 at h
    split at h
    · exact (s_J13_bitCount_95d88_34 hC _ h).le ⟨Or.inr rfl, Or.inl rfl, trivial⟩
    · cases h
  cases h
theorem s_J13_bitCount_95d88_10 {F : Nat × Nat} {l : Launch} {G : rx_G} {D : Nat} {hf : rx_H} {z : Int32} (hC : rx_CC l G D (C_J13_bitCount_95d88 F) z) (x0 : Int64) (h : f_J13_bitCount_95d88_10 F x0 = some z) : rx_S l G ("java/lang/Long", prog_14_method_50_code, 2, false, false, D) hf hf rx_rI z 10 [some (.long x0), none] [] none := by
  rw [g_J13_bitCount_95d88_10] at h
  refine rx_S_node (md := ("java/lang/Long", prog_14_method_50_code, 2, false, false, D)) tk_J13_bitCount_95d88 hC rx_m_rI (fun t ls st u h => ?_) h
  unfold kk_J13_bitCount_95d88_10 at h
  rcases rx_rec_eq h with ⟨hb, h⟩ | ⟨hb, h⟩
  · have ht := Nat.eq_of_beq_eq_true hb
    subst ht
    unfold n_J13_bitCount_95d88_24 at h
    split at h
    · exact (s_J13_bitCount_95d88_24 hC _ h).le ⟨Or.inr rfl, Or.inl rfl, trivial⟩
    · cases h
  cases h
theorem s_J13_bitCount_95d88_0 {F : Nat × Nat} {l : Launch} {G : rx_G} {D : Nat} {hf : rx_H} {z : Int32} (hC : rx_CC l G D (C_J13_bitCount_95d88 F) z) (x0 : Int64) (h : f_J13_bitCount_95d88_0 F x0 = some z) : rx_S l G ("java/lang/Long", prog_14_method_50_code, 2, false, false, D) hf hf rx_rI z 0 [some (.long x0), none] [] none := by
  rw [g_J13_bitCount_95d88_0] at h
  refine rx_S_node (md := ("java/lang/Long", prog_14_method_50_code, 2, false, false, D)) tk_J13_bitCount_95d88 hC rx_m_rI (fun t ls st u h => ?_) h
  unfold kk_J13_bitCount_95d88_0 at h
  rcases rx_rec_eq h with ⟨hb, h⟩ | ⟨hb, h⟩
  · have ht := Nat.eq_of_beq_eq_true hb
    subst ht
    unfold n_J13_bitCount_95d88_10 at h
    split at h
    · exact (s_J13_bitCount_95d88_10 hC _ h).le ⟨Or.inr rfl, Or.inl rfl, trivial⟩
    · cases h
  cases h
theorem cc_J13_bitCount_95d88 (F : Nat × Nat) (l : Launch) (G : rx_G) {α : Type} (z : α) : rx_CC l G (0 + 0 * F.2) (C_J13_bitCount_95d88 F) z := by
  intro j as u κ h
  unfold C_J13_bitCount_95d88 at h
  cases h
theorem m_J13_bitCount_95d88 (F : Nat × Nat) (l : Launch) (G : rx_G) (hf : rx_H) (x0 : Int64) {z : Int32} (h : f_J13_bitCount_95d88 F x0 = some z) : rx_Ok l G (1 + 0 * F.2) (rx_ny 0) prog_14_method_50_code 2 (some .int) [.long x0] hf (some (.int z)) hf := by
  have h := h
  unfold f_J13_bitCount_95d88 at h
  exact (rx_met (l := l) (G := G) (hf := hf) (as := [.long x0]) (r := (some (.int z))) (ls0 := [some (.long x0), none]) (y := rx_ny 0) (D := (0 + 0 * F.2)) (ini := false) (bo := false) (u := none) (u' := none) k_J13_bitCount_95d88 (fun h => by cases h) (Nat.le_of_ble_eq_true rfl) (Or.inl ⟨rfl, rfl, _, rfl⟩) (fun Z hZ hB => rx_RT_rI hZ hB) (by exact ⟨Or.inr rfl, Or.inl rfl, trivial⟩) (s_J13_bitCount_95d88_0 (cc_J13_bitCount_95d88 F l G z) x0 h)).deep (by omega)
theorem w_J13_bitCount_95d88 (F : Nat × Nat) (l : Launch) (G : rx_G) {α : Type} {z : α} {as : List Value} {u : Option rx_H} {κ : rx_K α} (h : c_J13_bitCount_95d88 F as u κ = some z) : rx_Cw l G (1 + 0 * F.2) 0 as u κ z := by
  unfold c_J13_bitCount_95d88 at h
  split at h
  · obtain ⟨r, hr, h⟩ := Option.bind_eq_some_iff.mp h
    exact ⟨_, _, _, _, _, _, h, k_J13_bitCount_95d88, fun _ => rfl, fun h => absurd rfl h, fun hf => m_J13_bitCount_95d88 F l G _ _ hr⟩
  · cases h
set_option maxRecDepth 100000 in
theorem k_X0_size : rx_Cal (rx_ny 28) prog_2_method_2_code 2 (some .int) (rx_kd 28) 1 := ⟨rx_in (i := 183) (by rfl) (by rfl), rx_in (i := 48) (by decide +kernel) (by decide +kernel), ⟨(by decide +kernel), (by decide +kernel), (by decide +kernel)⟩, Nat.le_of_ble_eq_true rfl, (by decide +kernel), fun _ => rx_in (i := 182) (by decide +kernel) (by decide +kernel), fun h => absurd h (by decide), fun h => absurd h (by decide)⟩
set_option maxRecDepth 100000 in
theorem tk_X0_size : (t_X0_size.all (rx_eok "SetHouse$Heap" prog_2_method_2_code 2 false false) && rx_adj t_X0_size) = true := by decide +kernel
theorem s_X0_size_0 {F : Nat × Nat} {l : Launch} {G : rx_G} {D : Nat} {hf : rx_H} {z : Int32} (hC : rx_CC l G D (C_X0_size F) z) (x0 : Int64) (h : f_X0_size_0 F x0 = some z) : rx_S l G ("SetHouse$Heap", prog_2_method_2_code, 2, false, false, D) hf hf rx_rI z 0 [some (.long x0), none] [] none := by
  rw [g_X0_size_0] at h
  refine rx_S_node (md := ("SetHouse$Heap", prog_2_method_2_code, 2, false, false, D)) tk_X0_size hC rx_m_rI (fun t ls st u h => ?_) h
  unfold kk_X0_size_0 at h
  cases h
theorem cc_X0_size (F : Nat × Nat) (l : Launch) (G : rx_G) {α : Type} (z : α) : rx_CC l G (1 + 0 * F.2) (C_X0_size F) z := by
  intro j as u κ h
  unfold C_X0_size at h
  rcases rx_rec_eq h with ⟨hb, h⟩ | ⟨hb, h⟩
  · have ht := Nat.eq_of_beq_eq_true hb
    subst ht
    exact (w_J13_bitCount_95d88 F l G h).deep (by omega)
  cases h
theorem m_X0_size (F : Nat × Nat) (l : Launch) (G : rx_G) (hf : rx_H) (x0 : Int64) {z : Int32} (h : f_X0_size F x0 = some z) : rx_Ok l G (2 + 0 * F.2) (rx_ny 28) prog_2_method_2_code 2 (some .int) [.long x0] hf (some (.int z)) hf := by
  have h := h
  unfold f_X0_size at h
  exact (rx_met (l := l) (G := G) (hf := hf) (as := [.long x0]) (r := (some (.int z))) (ls0 := [some (.long x0), none]) (y := rx_ny 28) (D := (1 + 0 * F.2)) (ini := false) (bo := false) (u := none) (u' := none) k_X0_size (fun h => by cases h) (Nat.le_of_ble_eq_true rfl) (Or.inl ⟨rfl, rfl, _, rfl⟩) (fun Z hZ hB => rx_RT_rI hZ hB) (by exact ⟨Or.inr rfl, Or.inl rfl, trivial⟩) (s_X0_size_0 (cc_X0_size F l G z) x0 h)).deep (by omega)
theorem w_X0_size (F : Nat × Nat) (l : Launch) (G : rx_G) {α : Type} {z : α} {as : List Value} {u : Option rx_H} {κ : rx_K α} (h : c_X0_size F as u κ = some z) : rx_Cw l G (2 + 0 * F.2) 28 as u κ z := by
  unfold c_X0_size at h
  split at h
  · obtain ⟨r, hr, h⟩ := Option.bind_eq_some_iff.mp h
    exact ⟨_, _, _, _, _, _, h, k_X0_size, fun _ => rfl, fun h => absurd rfl h, fun hf => m_X0_size F l G _ _ hr⟩
  · cases h
set_option maxRecDepth 100000 in
theorem k_X0_holdsSet : rx_Cal (rx_ny 13) prog_2_method_3_code 3 (some .boolean) (rx_kd 13) 2 := ⟨rx_in (i := 219) (by rfl) (by rfl), rx_in (i := 48) (by decide +kernel) (by decide +kernel), ⟨(by decide +kernel), (by decide +kernel), (by decide +kernel)⟩, Nat.le_of_ble_eq_true rfl, (by decide +kernel), fun _ => rx_in (i := 218) (by decide +kernel) (by decide +kernel), fun h => absurd h (by decide), fun h => absurd h (by decide)⟩
set_option maxRecDepth 100000 in
theorem tk_X0_holdsSet : (t_X0_holdsSet.all (rx_eok "SetHouse$Heap" prog_2_method_3_code 3 false true) && rx_adj t_X0_holdsSet) = true := by decide +kernel
theorem s_X0_holdsSet_0 {F : Nat × Nat} {l : Launch} {G : rx_G} {D : Nat} {hf : rx_H} {z : Int32} (hC : rx_CC l G D (C_X0_holdsSet F) z) (x0 : Int64) (x2 : Int32) (h : f_X0_holdsSet_0 F x0 x2 = some z) : rx_S l G ("SetHouse$Heap", prog_2_method_3_code, 3, false, true, D) hf hf rx_rI z 0 [some (.long x0), none, some (.int x2)] [] none := by
  rw [g_X0_holdsSet_0] at h
  refine rx_S_node (md := ("SetHouse$Heap", prog_2_method_3_code, 3, false, true, D)) tk_X0_holdsSet hC rx_m_rI (fun t ls st u h => ?_) h
  unfold kk_X0_holdsSet_0 at h
  cases h
theorem cc_X0_holdsSet (F : Nat × Nat) (l : Launch) (G : rx_G) {α : Type} (z : α) : rx_CC l G (0 + 0 * F.2) (C_X0_holdsSet F) z := by
  intro j as u κ h
  unfold C_X0_holdsSet at h
  cases h
theorem m_X0_holdsSet (F : Nat × Nat) (l : Launch) (G : rx_G) (hf : rx_H) (x0 : Int64) (x2 : Int32) {z : Int32} (h : f_X0_holdsSet F x0 x2 = some z) : rx_Ok l G (1 + 0 * F.2) (rx_ny 13) prog_2_method_3_code 3 (some .boolean) [.long x0, .int x2] hf (some (.int z)) hf := by
  have h := h
  unfold f_X0_holdsSet at h
  exact (rx_met (l := l) (G := G) (hf := hf) (as := [.long x0, .int x2]) (r := (some (.int z))) (ls0 := [some (.long x0), none, some (.int x2)]) (y := rx_ny 13) (D := (0 + 0 * F.2)) (ini := false) (bo := true) (u := none) (u' := none) k_X0_holdsSet (fun h => by cases h) (Nat.le_of_ble_eq_true rfl) (Or.inr (Or.inl ⟨rfl, rfl, _, rfl⟩)) (fun Z hZ hB => rx_RT_rI hZ hB) (by exact ⟨Or.inr rfl, Or.inl rfl, Or.inr rfl, trivial⟩) (s_X0_holdsSet_0 (cc_X0_holdsSet F l G z) x0 x2 h)).deep (by omega)
theorem w_X0_holdsSet (F : Nat × Nat) (l : Launch) (G : rx_G) {α : Type} {z : α} {as : List Value} {u : Option rx_H} {κ : rx_K α} (h : c_X0_holdsSet F as u κ = some z) : rx_Cw l G (1 + 0 * F.2) 13 as u κ z := by
  unfold c_X0_holdsSet at h
  split at h
  · obtain ⟨r, hr, h⟩ := Option.bind_eq_some_iff.mp h
    exact ⟨_, _, _, _, _, _, h, k_X0_holdsSet, fun _ => rfl, fun h => absurd rfl h, fun hf => m_X0_holdsSet F l G _ _ _ hr⟩
  · cases h
set_option maxRecDepth 100000 in
theorem k_X0_below : rx_Cal (rx_ny 11) prog_2_method_7_code 1 (some .long) (rx_kd 11) 1 := ⟨rx_in (i := 235) (by rfl) (by rfl), rx_in (i := 48) (by decide +kernel) (by decide +kernel), ⟨(by decide +kernel), (by decide +kernel), (by decide +kernel)⟩, Nat.le_of_ble_eq_true rfl, (by decide +kernel), fun _ => rx_in (i := 234) (by decide +kernel) (by decide +kernel), fun h => absurd h (by decide), fun h => absurd h (by decide)⟩
set_option maxRecDepth 100000 in
theorem tk_X0_below : (t_X0_below.all (rx_eok "SetHouse$Heap" prog_2_method_7_code 1 false false) && rx_adj t_X0_below) = true := by decide +kernel
theorem s_X0_below_0 {F : Nat × Nat} {l : Launch} {G : rx_G} {D : Nat} {hf : rx_H} {z : Int64} (hC : rx_CC l G D (C_X0_below F) z) (x0 : Int32) (h : f_X0_below_0 F x0 = some z) : rx_S l G ("SetHouse$Heap", prog_2_method_7_code, 1, false, false, D) hf hf rx_rJ z 0 [some (.int x0)] [] none := by
  rw [g_X0_below_0] at h
  refine rx_S_node (md := ("SetHouse$Heap", prog_2_method_7_code, 1, false, false, D)) tk_X0_below hC rx_m_rJ (fun t ls st u h => ?_) h
  unfold kk_X0_below_0 at h
  cases h
theorem cc_X0_below (F : Nat × Nat) (l : Launch) (G : rx_G) {α : Type} (z : α) : rx_CC l G (0 + 0 * F.2) (C_X0_below F) z := by
  intro j as u κ h
  unfold C_X0_below at h
  cases h
theorem m_X0_below (F : Nat × Nat) (l : Launch) (G : rx_G) (hf : rx_H) (x0 : Int32) {z : Int64} (h : f_X0_below F x0 = some z) : rx_Ok l G (1 + 0 * F.2) (rx_ny 11) prog_2_method_7_code 1 (some .long) [.int x0] hf (some (.long z)) hf := by
  have h := h
  unfold f_X0_below at h
  exact (rx_met (l := l) (G := G) (hf := hf) (as := [.int x0]) (r := (some (.long z))) (ls0 := [some (.int x0)]) (y := rx_ny 11) (D := (0 + 0 * F.2)) (ini := false) (bo := false) (u := none) (u' := none) k_X0_below (fun h => by cases h) (Nat.le_of_ble_eq_true rfl) (Or.inr (Or.inr (Or.inl ⟨rfl, _, rfl⟩))) (fun Z hZ hB => rx_RT_rJ hZ hB) (by exact ⟨Or.inr rfl, trivial⟩) (s_X0_below_0 (cc_X0_below F l G z) x0 h)).deep (by omega)
theorem w_X0_below (F : Nat × Nat) (l : Launch) (G : rx_G) {α : Type} {z : α} {as : List Value} {u : Option rx_H} {κ : rx_K α} (h : c_X0_below F as u κ = some z) : rx_Cw l G (1 + 0 * F.2) 11 as u κ z := by
  unfold c_X0_below at h
  split at h
  · obtain ⟨r, hr, h⟩ := Option.bind_eq_some_iff.mp h
    exact ⟨_, _, _, _, _, _, h, k_X0_below, fun _ => rfl, fun h => absurd rfl h, fun hf => m_X0_below F l G _ _ hr⟩
  · cases h
set_option maxRecDepth 100000 in
theorem k_X0_next : rx_Cal (rx_ny 23) prog_2_method_4_code 5 (some .int) (rx_kd 23) 2 := ⟨rx_in (i := 232) (by rfl) (by rfl), rx_in (i := 48) (by decide +kernel) (by decide +kernel), ⟨(by decide +kernel), (by decide +kernel), (by decide +kernel)⟩, Nat.le_of_ble_eq_true rfl, (by decide +kernel), fun _ => rx_in (i := 231) (by decide +kernel) (by decide +kernel), fun h => absurd h (by decide), fun h => absurd h (by decide)⟩
set_option maxRecDepth 100000 in
theorem tk_X0_next : (t_X0_next.all (rx_eok "SetHouse$Heap" prog_2_method_4_code 5 false false) && rx_adj t_X0_next) = true := by decide +kernel
theorem s_X0_next_0 {F : Nat × Nat} {l : Launch} {G : rx_G} {D : Nat} {hf : rx_H} {z : Int32} (hC : rx_CC l G D (C_X0_next F) z) (x0 : Int64) (x2 : Int32) (h : f_X0_next_0 F x0 x2 = some z) : rx_S l G ("SetHouse$Heap", prog_2_method_4_code, 5, false, false, D) hf hf rx_rI z 0 [some (.long x0), none, some (.int x2), none, none] [] none := by
  rw [g_X0_next_0] at h
  refine rx_S_node (md := ("SetHouse$Heap", prog_2_method_4_code, 5, false, false, D)) tk_X0_next hC rx_m_rI (fun t ls st u h => ?_) h
  unfold kk_X0_next_0 at h
  cases h
theorem cc_X0_next (F : Nat × Nat) (l : Launch) (G : rx_G) {α : Type} (z : α) : rx_CC l G (1 + 0 * F.2) (C_X0_next F) z := by
  intro j as u κ h
  unfold C_X0_next at h
  rcases rx_rec_eq h with ⟨hb, h⟩ | ⟨hb, h⟩
  · have ht := Nat.eq_of_beq_eq_true hb
    subst ht
    exact (w_J13_bitCount_95d88 F l G h).deep (by omega)
  rcases rx_rec_eq h with ⟨hb, h⟩ | ⟨hb, h⟩
  · have ht := Nat.eq_of_beq_eq_true hb
    subst ht
    exact (w_X0_below F l G h).deep (by omega)
  cases h
theorem m_X0_next (F : Nat × Nat) (l : Launch) (G : rx_G) (hf : rx_H) (x0 : Int64) (x2 : Int32) {z : Int32} (h : f_X0_next F x0 x2 = some z) : rx_Ok l G (2 + 0 * F.2) (rx_ny 23) prog_2_method_4_code 5 (some .int) [.long x0, .int x2] hf (some (.int z)) hf := by
  have h := h
  unfold f_X0_next at h
  exact (rx_met (l := l) (G := G) (hf := hf) (as := [.long x0, .int x2]) (r := (some (.int z))) (ls0 := [some (.long x0), none, some (.int x2), none, none]) (y := rx_ny 23) (D := (1 + 0 * F.2)) (ini := false) (bo := false) (u := none) (u' := none) k_X0_next (fun h => by cases h) (Nat.le_of_ble_eq_true rfl) (Or.inl ⟨rfl, rfl, _, rfl⟩) (fun Z hZ hB => rx_RT_rI hZ hB) (by exact ⟨Or.inr rfl, Or.inl rfl, Or.inr rfl, Or.inl rfl, Or.inl rfl, trivial⟩) (s_X0_next_0 (cc_X0_next F l G z) x0 x2 h)).deep (by omega)
theorem w_X0_next (F : Nat × Nat) (l : Launch) (G : rx_G) {α : Type} {z : α} {as : List Value} {u : Option rx_H} {κ : rx_K α} (h : c_X0_next F as u κ = some z) : rx_Cw l G (2 + 0 * F.2) 23 as u κ z := by
  unfold c_X0_next at h
  split at h
  · obtain ⟨r, hr, h⟩ := Option.bind_eq_some_iff.mp h
    exact ⟨_, _, _, _, _, _, h, k_X0_next, fun _ => rfl, fun h => absurd rfl h, fun hf => m_X0_next F l G _ _ _ hr⟩
  · cases h
set_option maxRecDepth 100000 in
theorem k_X0_leastOf : rx_Cal (rx_ny 17) prog_2_method_5_code 2 (some .int) (rx_kd 17) 1 := ⟨rx_in (i := 229) (by rfl) (by rfl), rx_in (i := 48) (by decide +kernel) (by decide +kernel), ⟨(by decide +kernel), (by decide +kernel), (by decide +kernel)⟩, Nat.le_of_ble_eq_true rfl, (by decide +kernel), fun _ => rx_in (i := 228) (by decide +kernel) (by decide +kernel), fun h => absurd h (by decide), fun h => absurd h (by decide)⟩
set_option maxRecDepth 100000 in
theorem tk_X0_leastOf : (t_X0_leastOf.all (rx_eok "SetHouse$Heap" prog_2_method_5_code 2 false false) && rx_adj t_X0_leastOf) = true := by decide +kernel
theorem s_X0_leastOf_0 {F : Nat × Nat} {l : Launch} {G : rx_G} {D : Nat} {hf : rx_H} {z : Int32} (hC : rx_CC l G D (C_X0_leastOf F) z) (x0 : Int64) (h : f_X0_leastOf_0 F x0 = some z) : rx_S l G ("SetHouse$Heap", prog_2_method_5_code, 2, false, false, D) hf hf rx_rI z 0 [some (.long x0), none] [] none := by
  rw [g_X0_leastOf_0] at h
  refine rx_S_node (md := ("SetHouse$Heap", prog_2_method_5_code, 2, false, false, D)) tk_X0_leastOf hC rx_m_rI (fun t ls st u h => ?_) h
  unfold kk_X0_leastOf_0 at h
  cases h
theorem cc_X0_leastOf (F : Nat × Nat) (l : Launch) (G : rx_G) {α : Type} (z : α) : rx_CC l G (2 + 0 * F.2) (C_X0_leastOf F) z := by
  intro j as u κ h
  unfold C_X0_leastOf at h
  rcases rx_rec_eq h with ⟨hb, h⟩ | ⟨hb, h⟩
  · have ht := Nat.eq_of_beq_eq_true hb
    subst ht
    exact (w_X0_next F l G h).deep (by omega)
  cases h
theorem m_X0_leastOf (F : Nat × Nat) (l : Launch) (G : rx_G) (hf : rx_H) (x0 : Int64) {z : Int32} (h : f_X0_leastOf F x0 = some z) : rx_Ok l G (3 + 0 * F.2) (rx_ny 17) prog_2_method_5_code 2 (some .int) [.long x0] hf (some (.int z)) hf := by
  have h := h
  unfold f_X0_leastOf at h
  exact (rx_met (l := l) (G := G) (hf := hf) (as := [.long x0]) (r := (some (.int z))) (ls0 := [some (.long x0), none]) (y := rx_ny 17) (D := (2 + 0 * F.2)) (ini := false) (bo := false) (u := none) (u' := none) k_X0_leastOf (fun h => by cases h) (Nat.le_of_ble_eq_true rfl) (Or.inl ⟨rfl, rfl, _, rfl⟩) (fun Z hZ hB => rx_RT_rI hZ hB) (by exact ⟨Or.inr rfl, Or.inl rfl, trivial⟩) (s_X0_leastOf_0 (cc_X0_leastOf F l G z) x0 h)).deep (by omega)
theorem w_X0_leastOf (F : Nat × Nat) (l : Launch) (G : rx_G) {α : Type} {z : α} {as : List Value} {u : Option rx_H} {κ : rx_K α} (h : c_X0_leastOf F as u κ = some z) : rx_Cw l G (3 + 0 * F.2) 17 as u κ z := by
  unfold c_X0_leastOf at h
  split at h
  · obtain ⟨r, hr, h⟩ := Option.bind_eq_some_iff.mp h
    exact ⟨_, _, _, _, _, _, h, k_X0_leastOf, fun _ => rfl, fun h => absurd rfl h, fun hf => m_X0_leastOf F l G _ _ hr⟩
  · cases h
set_option maxRecDepth 100000 in
theorem k_X0_setAt : rx_Cal (rx_ny 26) prog_2_method_6_code 5 (some .int) (rx_kd 26) 2 := ⟨rx_in (i := 285) (by rfl) (by rfl), rx_in (i := 48) (by decide +kernel) (by decide +kernel), ⟨(by decide +kernel), (by decide +kernel), (by decide +kernel)⟩, Nat.le_of_ble_eq_true rfl, (by decide +kernel), fun _ => rx_in (i := 284) (by decide +kernel) (by decide +kernel), fun h => absurd h (by decide), fun h => absurd h (by decide)⟩
set_option maxRecDepth 100000 in
theorem tk_X0_setAt : (t_X0_setAt.all (rx_eok "SetHouse$Heap" prog_2_method_6_code 5 false false) && rx_adj t_X0_setAt) = true := by decide +kernel
theorem s_X0_setAt_35 {F : Nat × Nat} {l : Launch} {G : rx_G} {D : Nat} {hf : rx_H} {z : Int32} (hC : rx_CC l G D (C_X0_setAt F) z) (x3 : Int32) (h : f_X0_setAt_35 F x3 = some z) : rx_S l G ("SetHouse$Heap", prog_2_method_6_code, 5, false, false, D) hf hf rx_rI z 35 [none, none, none, some (.int x3), none] [] none := by
  rw [g_X0_setAt_35] at h
  refine rx_S_node (md := ("SetHouse$Heap", prog_2_method_6_code, 5, false, false, D)) tk_X0_setAt hC rx_m_rI (fun t ls st u h => ?_) h
  unfold kk_X0_setAt_35 at h
  cases h
theorem s_X0_setAt_9 {F : Nat × Nat} {l : Launch} {G : rx_G} {D : Nat} {hf : rx_H} {z : Int32} (hC : rx_CC l G D (C_X0_setAt F) z) : ∀ (f : Nat) (x0 : Int64) (x2 : Int32) (x3 : Int32) (x4 : Int32), f_X0_setAt_9 F f x0 x2 x3 x4 = some z → rx_S l G ("SetHouse$Heap", prog_2_method_6_code, 5, false, false, D) hf hf rx_rI z 9 [some (.long x0), none, some (.int x2), some (.int x3), some (.int x4)] [] none := by
  intro f
  induction f with
  | zero =>
    intro x0 x2 x3 x4 h
    cases h
  | succ f ih =>
    intro x0 x2 x3 x4 h
    rw [g_X0_setAt_9] at h
    refine rx_S_node (md := ("SetHouse$Heap", prog_2_method_6_code, 5, false, false, D)) tk_X0_setAt hC rx_m_rI (fun t ls st u h => ?_) h
    unfold kk_X0_setAt_9 at h
    rcases rx_rec_eq h with ⟨hb, h⟩ | ⟨hb, h⟩
    · have ht := Nat.eq_of_beq_eq_true hb
      subst ht
      unfold n_X0_setAt_9 at h
      split at h
      · exact (ih _ _ _ _ h).le ⟨Or.inr rfl, Or.inl rfl, Or.inr rfl, Or.inr rfl, Or.inr rfl, trivial⟩
      · cases h
    rcases rx_rec_eq h with ⟨hb, h⟩ | ⟨hb, h⟩
    · have ht := Nat.eq_of_beq_eq_true hb
      subst ht
      unfold n_X0_setAt_35 at h
      split at h
      · exact (s_X0_setAt_35 hC _ h).le ⟨Or.inl rfl, Or.inl rfl, Or.inl rfl, Or.inr rfl, Or.inl rfl, trivial⟩
      · cases h
    cases h
theorem s_X0_setAt_0 {F : Nat × Nat} {l : Launch} {G : rx_G} {D : Nat} {hf : rx_H} {z : Int32} (hC : rx_CC l G D (C_X0_setAt F) z) (x0 : Int64) (x2 : Int32) (h : f_X0_setAt_0 F x0 x2 = some z) : rx_S l G ("SetHouse$Heap", prog_2_method_6_code, 5, false, false, D) hf hf rx_rI z 0 [some (.long x0), none, some (.int x2), none, none] [] none := by
  rw [g_X0_setAt_0] at h
  refine rx_S_node (md := ("SetHouse$Heap", prog_2_method_6_code, 5, false, false, D)) tk_X0_setAt hC rx_m_rI (fun t ls st u h => ?_) h
  unfold kk_X0_setAt_0 at h
  rcases rx_rec_eq h with ⟨hb, h⟩ | ⟨hb, h⟩
  · have ht := Nat.eq_of_beq_eq_true hb
    subst ht
    unfold n_X0_setAt_9 at h
    split at h
    · exact (s_X0_setAt_9 hC _ _ _ _ _ h).le ⟨Or.inr rfl, Or.inl rfl, Or.inr rfl, Or.inr rfl, Or.inr rfl, trivial⟩
    · cases h
  cases h
theorem cc_X0_setAt (F : Nat × Nat) (l : Launch) (G : rx_G) {α : Type} (z : α) : rx_CC l G (2 + 0 * F.2) (C_X0_setAt F) z := by
  intro j as u κ h
  unfold C_X0_setAt at h
  rcases rx_rec_eq h with ⟨hb, h⟩ | ⟨hb, h⟩
  · have ht := Nat.eq_of_beq_eq_true hb
    subst ht
    exact (w_X0_next F l G h).deep (by omega)
  cases h
theorem m_X0_setAt (F : Nat × Nat) (l : Launch) (G : rx_G) (hf : rx_H) (x0 : Int64) (x2 : Int32) {z : Int32} (h : f_X0_setAt F x0 x2 = some z) : rx_Ok l G (3 + 0 * F.2) (rx_ny 26) prog_2_method_6_code 5 (some .int) [.long x0, .int x2] hf (some (.int z)) hf := by
  have h := h
  unfold f_X0_setAt at h
  exact (rx_met (l := l) (G := G) (hf := hf) (as := [.long x0, .int x2]) (r := (some (.int z))) (ls0 := [some (.long x0), none, some (.int x2), none, none]) (y := rx_ny 26) (D := (2 + 0 * F.2)) (ini := false) (bo := false) (u := none) (u' := none) k_X0_setAt (fun h => by cases h) (Nat.le_of_ble_eq_true rfl) (Or.inl ⟨rfl, rfl, _, rfl⟩) (fun Z hZ hB => rx_RT_rI hZ hB) (by exact ⟨Or.inr rfl, Or.inl rfl, Or.inr rfl, Or.inl rfl, Or.inl rfl, trivial⟩) (s_X0_setAt_0 (cc_X0_setAt F l G z) x0 x2 h)).deep (by omega)
theorem w_X0_setAt (F : Nat × Nat) (l : Launch) (G : rx_G) {α : Type} {z : α} {as : List Value} {u : Option rx_H} {κ : rx_K α} (h : c_X0_setAt F as u κ = some z) : rx_Cw l G (3 + 0 * F.2) 26 as u κ z := by
  unfold c_X0_setAt at h
  split at h
  · obtain ⟨r, hr, h⟩ := Option.bind_eq_some_iff.mp h
    exact ⟨_, _, _, _, _, _, h, k_X0_setAt, fun _ => rfl, fun h => absurd rfl h, fun hf => m_X0_setAt F l G _ _ _ hr⟩
  · cases h
set_option maxRecDepth 100000 in
theorem k_X0_within : rx_Cal (rx_ny 30) prog_2_method_8_code 4 (some .long) (rx_kd 30) 1 := ⟨rx_in (i := 222) (by rfl) (by rfl), rx_in (i := 48) (by decide +kernel) (by decide +kernel), ⟨(by decide +kernel), (by decide +kernel), (by decide +kernel)⟩, Nat.le_of_ble_eq_true rfl, (by decide +kernel), fun _ => rx_in (i := 221) (by decide +kernel) (by decide +kernel), fun h => absurd h (by decide), fun h => absurd h (by decide)⟩
set_option maxRecDepth 100000 in
theorem tk_X0_within : (t_X0_within.all (rx_eok "SetHouse$Heap" prog_2_method_8_code 4 false false) && rx_adj t_X0_within) = true := by decide +kernel
theorem s_X0_within_4 {F : Nat × Nat} {l : Launch} {G : rx_G} {D : Nat} {hf : rx_H} {z : Int64} (hC : rx_CC l G D (C_X0_within F) z) : ∀ (f : Nat) (x0 : Int32) (x1 : Int64) (x3 : Int32), f_X0_within_4 F f x0 x1 x3 = some z → rx_S l G ("SetHouse$Heap", prog_2_method_8_code, 4, false, false, D) hf hf rx_rJ z 4 [some (.int x0), some (.long x1), none, some (.int x3)] [] none := by
  intro f
  induction f with
  | zero =>
    intro x0 x1 x3 h
    cases h
  | succ f ih =>
    intro x0 x1 x3 h
    rw [g_X0_within_4] at h
    refine rx_S_node (md := ("SetHouse$Heap", prog_2_method_8_code, 4, false, false, D)) tk_X0_within hC rx_m_rJ (fun t ls st u h => ?_) h
    unfold kk_X0_within_4 at h
    rcases rx_rec_eq h with ⟨hb, h⟩ | ⟨hb, h⟩
    · have ht := Nat.eq_of_beq_eq_true hb
      subst ht
      unfold n_X0_within_4 at h
      split at h
      · exact (ih _ _ _ h).le ⟨Or.inr rfl, Or.inr rfl, Or.inl rfl, Or.inr rfl, trivial⟩
      · cases h
    cases h
theorem s_X0_within_0 {F : Nat × Nat} {l : Launch} {G : rx_G} {D : Nat} {hf : rx_H} {z : Int64} (hC : rx_CC l G D (C_X0_within F) z) (x0 : Int32) (h : f_X0_within_0 F x0 = some z) : rx_S l G ("SetHouse$Heap", prog_2_method_8_code, 4, false, false, D) hf hf rx_rJ z 0 [some (.int x0), none, none, none] [] none := by
  rw [g_X0_within_0] at h
  refine rx_S_node (md := ("SetHouse$Heap", prog_2_method_8_code, 4, false, false, D)) tk_X0_within hC rx_m_rJ (fun t ls st u h => ?_) h
  unfold kk_X0_within_0 at h
  rcases rx_rec_eq h with ⟨hb, h⟩ | ⟨hb, h⟩
  · have ht := Nat.eq_of_beq_eq_true hb
    subst ht
    unfold n_X0_within_4 at h
    split at h
    · exact (s_X0_within_4 hC _ _ _ _ h).le ⟨Or.inr rfl, Or.inr rfl, Or.inl rfl, Or.inr rfl, trivial⟩
    · cases h
  cases h
theorem cc_X0_within (F : Nat × Nat) (l : Launch) (G : rx_G) {α : Type} (z : α) : rx_CC l G (0 + 0 * F.2) (C_X0_within F) z := by
  intro j as u κ h
  unfold C_X0_within at h
  cases h
theorem m_X0_within (F : Nat × Nat) (l : Launch) (G : rx_G) (hf : rx_H) (x0 : Int32) {z : Int64} (h : f_X0_within F x0 = some z) : rx_Ok l G (1 + 0 * F.2) (rx_ny 30) prog_2_method_8_code 4 (some .long) [.int x0] hf (some (.long z)) hf := by
  have h := h
  unfold f_X0_within at h
  exact (rx_met (l := l) (G := G) (hf := hf) (as := [.int x0]) (r := (some (.long z))) (ls0 := [some (.int x0), none, none, none]) (y := rx_ny 30) (D := (0 + 0 * F.2)) (ini := false) (bo := false) (u := none) (u' := none) k_X0_within (fun h => by cases h) (Nat.le_of_ble_eq_true rfl) (Or.inr (Or.inr (Or.inl ⟨rfl, _, rfl⟩))) (fun Z hZ hB => rx_RT_rJ hZ hB) (by exact ⟨Or.inr rfl, Or.inl rfl, Or.inl rfl, Or.inl rfl, trivial⟩) (s_X0_within_0 (cc_X0_within F l G z) x0 h)).deep (by omega)
theorem w_X0_within (F : Nat × Nat) (l : Launch) (G : rx_G) {α : Type} {z : α} {as : List Value} {u : Option rx_H} {κ : rx_K α} (h : c_X0_within F as u κ = some z) : rx_Cw l G (1 + 0 * F.2) 30 as u κ z := by
  unfold c_X0_within at h
  split at h
  · obtain ⟨r, hr, h⟩ := Option.bind_eq_some_iff.mp h
    exact ⟨_, _, _, _, _, _, h, k_X0_within, fun _ => rfl, fun h => absurd rfl h, fun hf => m_X0_within F l G _ _ hr⟩
  · cases h
set_option maxRecDepth 100000 in
theorem k_X0_around : rx_Cal (rx_ny 10) prog_2_method_9_code 1 (some .long) (rx_kd 10) 1 := ⟨rx_in (i := 225) (by rfl) (by rfl), rx_in (i := 48) (by decide +kernel) (by decide +kernel), ⟨(by decide +kernel), (by decide +kernel), (by decide +kernel)⟩, Nat.le_of_ble_eq_true rfl, (by decide +kernel), fun _ => rx_in (i := 224) (by decide +kernel) (by decide +kernel), fun h => absurd h (by decide), fun h => absurd h (by decide)⟩
set_option maxRecDepth 100000 in
theorem tk_X0_around : (t_X0_around.all (rx_eok "SetHouse$Heap" prog_2_method_9_code 1 false false) && rx_adj t_X0_around) = true := by decide +kernel
theorem s_X0_around_0 {F : Nat × Nat} {l : Launch} {G : rx_G} {D : Nat} {hf : rx_H} {z : Int64} (hC : rx_CC l G D (C_X0_around F) z) (x0 : Int32) (h : f_X0_around_0 F x0 = some z) : rx_S l G ("SetHouse$Heap", prog_2_method_9_code, 1, false, false, D) hf hf rx_rJ z 0 [some (.int x0)] [] none := by
  rw [g_X0_around_0] at h
  refine rx_S_node (md := ("SetHouse$Heap", prog_2_method_9_code, 1, false, false, D)) tk_X0_around hC rx_m_rJ (fun t ls st u h => ?_) h
  unfold kk_X0_around_0 at h
  cases h
theorem cc_X0_around (F : Nat × Nat) (l : Launch) (G : rx_G) {α : Type} (z : α) : rx_CC l G (1 + 0 * F.2) (C_X0_around F) z := by
  intro j as u κ h
  unfold C_X0_around at h
  rcases rx_rec_eq h with ⟨hb, h⟩ | ⟨hb, h⟩
  · have ht := Nat.eq_of_beq_eq_true hb
    subst ht
    exact (w_X0_within F l G h).deep (by omega)
  cases h
theorem m_X0_around (F : Nat × Nat) (l : Launch) (G : rx_G) (hf : rx_H) (x0 : Int32) {z : Int64} (h : f_X0_around F x0 = some z) : rx_Ok l G (2 + 0 * F.2) (rx_ny 10) prog_2_method_9_code 1 (some .long) [.int x0] hf (some (.long z)) hf := by
  have h := h
  unfold f_X0_around at h
  exact (rx_met (l := l) (G := G) (hf := hf) (as := [.int x0]) (r := (some (.long z))) (ls0 := [some (.int x0)]) (y := rx_ny 10) (D := (1 + 0 * F.2)) (ini := false) (bo := false) (u := none) (u' := none) k_X0_around (fun h => by cases h) (Nat.le_of_ble_eq_true rfl) (Or.inr (Or.inr (Or.inl ⟨rfl, _, rfl⟩))) (fun Z hZ hB => rx_RT_rJ hZ hB) (by exact ⟨Or.inr rfl, trivial⟩) (s_X0_around_0 (cc_X0_around F l G z) x0 h)).deep (by omega)
theorem w_X0_around (F : Nat × Nat) (l : Launch) (G : rx_G) {α : Type} {z : α} {as : List Value} {u : Option rx_H} {κ : rx_K α} (h : c_X0_around F as u κ = some z) : rx_Cw l G (2 + 0 * F.2) 10 as u κ z := by
  unfold c_X0_around at h
  split at h
  · obtain ⟨r, hr, h⟩ := Option.bind_eq_some_iff.mp h
    exact ⟨_, _, _, _, _, _, h, k_X0_around, fun _ => rfl, fun h => absurd rfl h, fun hf => m_X0_around F l G _ _ hr⟩
  · cases h
set_option maxRecDepth 100000 in
theorem k_X0_lackingThing : rx_Cal (rx_ny 16) prog_2_method_10_code 3 (some .long) (rx_kd 16) 2 := ⟨rx_in (i := 368) (by rfl) (by rfl), rx_in (i := 48) (by decide +kernel) (by decide +kernel), ⟨(by decide +kernel), (by decide +kernel), (by decide +kernel)⟩, Nat.le_of_ble_eq_true rfl, (by decide +kernel), fun _ => rx_in (i := 367) (by decide +kernel) (by decide +kernel), fun h => absurd h (by decide), fun h => absurd h (by decide)⟩
set_option maxRecDepth 100000 in
theorem tk_X0_lackingThing : (t_X0_lackingThing.all (rx_eok "SetHouse$Heap" prog_2_method_10_code 3 false false) && rx_adj t_X0_lackingThing) = true := by decide +kernel
theorem s_X0_lackingThing_0 {F : Nat × Nat} {l : Launch} {G : rx_G} {D : Nat} {hf : rx_H} {z : Int64} (hC : rx_CC l G D (C_X0_lackingThing F) z) (x0 : Int64) (x2 : Int32) (h : f_X0_lackingThing_0 F x0 x2 = some z) : rx_S l G ("SetHouse$Heap", prog_2_method_10_code, 3, false, false, D) hf hf rx_rJ z 0 [some (.long x0), none, some (.int x2)] [] none := by
  rw [g_X0_lackingThing_0] at h
  refine rx_S_node (md := ("SetHouse$Heap", prog_2_method_10_code, 3, false, false, D)) tk_X0_lackingThing hC rx_m_rJ (fun t ls st u h => ?_) h
  unfold kk_X0_lackingThing_0 at h
  cases h
theorem cc_X0_lackingThing (F : Nat × Nat) (l : Launch) (G : rx_G) {α : Type} (z : α) : rx_CC l G (0 + 0 * F.2) (C_X0_lackingThing F) z := by
  intro j as u κ h
  unfold C_X0_lackingThing at h
  cases h
theorem m_X0_lackingThing (F : Nat × Nat) (l : Launch) (G : rx_G) (hf : rx_H) (x0 : Int64) (x2 : Int32) {z : Int64} (h : f_X0_lackingThing F x0 x2 = some z) : rx_Ok l G (1 + 0 * F.2) (rx_ny 16) prog_2_method_10_code 3 (some .long) [.long x0, .int x2] hf (some (.long z)) hf := by
  have h := h
  unfold f_X0_lackingThing at h
  exact (rx_met (l := l) (G := G) (hf := hf) (as := [.long x0, .int x2]) (r := (some (.long z))) (ls0 := [some (.long x0), none, some (.int x2)]) (y := rx_ny 16) (D := (0 + 0 * F.2)) (ini := false) (bo := false) (u := none) (u' := none) k_X0_lackingThing (fun h => by cases h) (Nat.le_of_ble_eq_true rfl) (Or.inr (Or.inr (Or.inl ⟨rfl, _, rfl⟩))) (fun Z hZ hB => rx_RT_rJ hZ hB) (by exact ⟨Or.inr rfl, Or.inl rfl, Or.inr rfl, trivial⟩) (s_X0_lackingThing_0 (cc_X0_lackingThing F l G z) x0 x2 h)).deep (by omega)
theorem w_X0_lackingThing (F : Nat × Nat) (l : Launch) (G : rx_G) {α : Type} {z : α} {as : List Value} {u : Option rx_H} {κ : rx_K α} (h : c_X0_lackingThing F as u κ = some z) : rx_Cw l G (1 + 0 * F.2) 16 as u κ z := by
  unfold c_X0_lackingThing at h
  split at h
  · obtain ⟨r, hr, h⟩ := Option.bind_eq_some_iff.mp h
    exact ⟨_, _, _, _, _, _, h, k_X0_lackingThing, fun _ => rfl, fun h => absurd rfl h, fun hf => m_X0_lackingThing F l G _ _ _ hr⟩
  · cases h
set_option maxRecDepth 100000 in
theorem k_X0_lessThing : rx_Cal (rx_ny 18) prog_2_method_11_code 3 (some .long) (rx_kd 18) 2 := ⟨rx_in (i := 318) (by rfl) (by rfl), rx_in (i := 48) (by decide +kernel) (by decide +kernel), ⟨(by decide +kernel), (by decide +kernel), (by decide +kernel)⟩, Nat.le_of_ble_eq_true rfl, (by decide +kernel), fun _ => rx_in (i := 317) (by decide +kernel) (by decide +kernel), fun h => absurd h (by decide), fun h => absurd h (by decide)⟩
set_option maxRecDepth 100000 in
theorem tk_X0_lessThing : (t_X0_lessThing.all (rx_eok "SetHouse$Heap" prog_2_method_11_code 3 false false) && rx_adj t_X0_lessThing) = true := by decide +kernel
theorem s_X0_lessThing_0 {F : Nat × Nat} {l : Launch} {G : rx_G} {D : Nat} {hf : rx_H} {z : Int64} (hC : rx_CC l G D (C_X0_lessThing F) z) (x0 : Int64) (x2 : Int32) (h : f_X0_lessThing_0 F x0 x2 = some z) : rx_S l G ("SetHouse$Heap", prog_2_method_11_code, 3, false, false, D) hf hf rx_rJ z 0 [some (.long x0), none, some (.int x2)] [] none := by
  rw [g_X0_lessThing_0] at h
  refine rx_S_node (md := ("SetHouse$Heap", prog_2_method_11_code, 3, false, false, D)) tk_X0_lessThing hC rx_m_rJ (fun t ls st u h => ?_) h
  unfold kk_X0_lessThing_0 at h
  cases h
theorem cc_X0_lessThing (F : Nat × Nat) (l : Launch) (G : rx_G) {α : Type} (z : α) : rx_CC l G (0 + 0 * F.2) (C_X0_lessThing F) z := by
  intro j as u κ h
  unfold C_X0_lessThing at h
  cases h
theorem m_X0_lessThing (F : Nat × Nat) (l : Launch) (G : rx_G) (hf : rx_H) (x0 : Int64) (x2 : Int32) {z : Int64} (h : f_X0_lessThing F x0 x2 = some z) : rx_Ok l G (1 + 0 * F.2) (rx_ny 18) prog_2_method_11_code 3 (some .long) [.long x0, .int x2] hf (some (.long z)) hf := by
  have h := h
  unfold f_X0_lessThing at h
  exact (rx_met (l := l) (G := G) (hf := hf) (as := [.long x0, .int x2]) (r := (some (.long z))) (ls0 := [some (.long x0), none, some (.int x2)]) (y := rx_ny 18) (D := (0 + 0 * F.2)) (ini := false) (bo := false) (u := none) (u' := none) k_X0_lessThing (fun h => by cases h) (Nat.le_of_ble_eq_true rfl) (Or.inr (Or.inr (Or.inl ⟨rfl, _, rfl⟩))) (fun Z hZ hB => rx_RT_rJ hZ hB) (by exact ⟨Or.inr rfl, Or.inl rfl, Or.inr rfl, trivial⟩) (s_X0_lessThing_0 (cc_X0_lessThing F l G z) x0 x2 h)).deep (by omega)
theorem w_X0_lessThing (F : Nat × Nat) (l : Launch) (G : rx_G) {α : Type} {z : α} {as : List Value} {u : Option rx_H} {κ : rx_K α} (h : c_X0_lessThing F as u κ = some z) : rx_Cw l G (1 + 0 * F.2) 18 as u κ z := by
  unfold c_X0_lessThing at h
  split at h
  · obtain ⟨r, hr, h⟩ := Option.bind_eq_some_iff.mp h
    exact ⟨_, _, _, _, _, _, h, k_X0_lessThing, fun _ => rfl, fun h => absurd rfl h, fun hf => m_X0_lessThing F l G _ _ _ hr⟩
  · cases h
set_option maxRecDepth 100000 in
theorem k_X0_moreThing : rx_Cal (rx_ny 21) prog_2_method_12_code 3 (some .long) (rx_kd 21) 2 := ⟨rx_in (i := 334) (by rfl) (by rfl), rx_in (i := 48) (by decide +kernel) (by decide +kernel), ⟨(by decide +kernel), (by decide +kernel), (by decide +kernel)⟩, Nat.le_of_ble_eq_true rfl, (by decide +kernel), fun _ => rx_in (i := 333) (by decide +kernel) (by decide +kernel), fun h => absurd h (by decide), fun h => absurd h (by decide)⟩
set_option maxRecDepth 100000 in
theorem tk_X0_moreThing : (t_X0_moreThing.all (rx_eok "SetHouse$Heap" prog_2_method_12_code 3 false false) && rx_adj t_X0_moreThing) = true := by decide +kernel
theorem s_X0_moreThing_0 {F : Nat × Nat} {l : Launch} {G : rx_G} {D : Nat} {hf : rx_H} {z : Int64} (hC : rx_CC l G D (C_X0_moreThing F) z) (x0 : Int64) (x2 : Int32) (h : f_X0_moreThing_0 F x0 x2 = some z) : rx_S l G ("SetHouse$Heap", prog_2_method_12_code, 3, false, false, D) hf hf rx_rJ z 0 [some (.long x0), none, some (.int x2)] [] none := by
  rw [g_X0_moreThing_0] at h
  refine rx_S_node (md := ("SetHouse$Heap", prog_2_method_12_code, 3, false, false, D)) tk_X0_moreThing hC rx_m_rJ (fun t ls st u h => ?_) h
  unfold kk_X0_moreThing_0 at h
  cases h
theorem cc_X0_moreThing (F : Nat × Nat) (l : Launch) (G : rx_G) {α : Type} (z : α) : rx_CC l G (0 + 0 * F.2) (C_X0_moreThing F) z := by
  intro j as u κ h
  unfold C_X0_moreThing at h
  cases h
theorem m_X0_moreThing (F : Nat × Nat) (l : Launch) (G : rx_G) (hf : rx_H) (x0 : Int64) (x2 : Int32) {z : Int64} (h : f_X0_moreThing F x0 x2 = some z) : rx_Ok l G (1 + 0 * F.2) (rx_ny 21) prog_2_method_12_code 3 (some .long) [.long x0, .int x2] hf (some (.long z)) hf := by
  have h := h
  unfold f_X0_moreThing at h
  exact (rx_met (l := l) (G := G) (hf := hf) (as := [.long x0, .int x2]) (r := (some (.long z))) (ls0 := [some (.long x0), none, some (.int x2)]) (y := rx_ny 21) (D := (0 + 0 * F.2)) (ini := false) (bo := false) (u := none) (u' := none) k_X0_moreThing (fun h => by cases h) (Nat.le_of_ble_eq_true rfl) (Or.inr (Or.inr (Or.inl ⟨rfl, _, rfl⟩))) (fun Z hZ hB => rx_RT_rJ hZ hB) (by exact ⟨Or.inr rfl, Or.inl rfl, Or.inr rfl, trivial⟩) (s_X0_moreThing_0 (cc_X0_moreThing F l G z) x0 x2 h)).deep (by omega)
theorem w_X0_moreThing (F : Nat × Nat) (l : Launch) (G : rx_G) {α : Type} {z : α} {as : List Value} {u : Option rx_H} {κ : rx_K α} (h : c_X0_moreThing F as u κ = some z) : rx_Cw l G (1 + 0 * F.2) 21 as u κ z := by
  unfold c_X0_moreThing at h
  split at h
  · obtain ⟨r, hr, h⟩ := Option.bind_eq_some_iff.mp h
    exact ⟨_, _, _, _, _, _, h, k_X0_moreThing, fun _ => rfl, fun h => absurd rfl h, fun hf => m_X0_moreThing F l G _ _ _ hr⟩
  · cases h
set_option maxRecDepth 100000 in
theorem k_X0_oneLess : rx_Cal (rx_ny 24) prog_2_method_13_code 5 (some .long) (rx_kd 24) 1 := ⟨rx_in (i := 315) (by rfl) (by rfl), rx_in (i := 48) (by decide +kernel) (by decide +kernel), ⟨(by decide +kernel), (by decide +kernel), (by decide +kernel)⟩, Nat.le_of_ble_eq_true rfl, (by decide +kernel), fun _ => rx_in (i := 314) (by decide +kernel) (by decide +kernel), fun h => absurd h (by decide), fun h => absurd h (by decide)⟩
set_option maxRecDepth 100000 in
theorem tk_X0_oneLess : (t_X0_oneLess.all (rx_eok "SetHouse$Heap" prog_2_method_13_code 5 false false) && rx_adj t_X0_oneLess) = true := by decide +kernel
theorem s_X0_oneLess_5 {F : Nat × Nat} {l : Launch} {G : rx_G} {D : Nat} {hf : rx_H} {z : Int64} (hC : rx_CC l G D (C_X0_oneLess F) z) : ∀ (f : Nat) (x0 : Int64) (x2 : Int64) (x4 : Int32), f_X0_oneLess_5 F f x0 x2 x4 = some z → rx_S l G ("SetHouse$Heap", prog_2_method_13_code, 5, false, false, D) hf hf rx_rJ z 5 [some (.long x0), none, some (.long x2), none, some (.int x4)] [] none := by
  intro f
  induction f with
  | zero =>
    intro x0 x2 x4 h
    cases h
  | succ f ih =>
    intro x0 x2 x4 h
    rw [g_X0_oneLess_5] at h
    refine rx_S_node (md := ("SetHouse$Heap", prog_2_method_13_code, 5, false, false, D)) tk_X0_oneLess hC rx_m_rJ (fun t ls st u h => ?_) h
    unfold kk_X0_oneLess_5 at h
    rcases rx_rec_eq h with ⟨hb, h⟩ | ⟨hb, h⟩
    · have ht := Nat.eq_of_beq_eq_true hb
      subst ht
      unfold n_X0_oneLess_5 at h
      split at h
      · exact (ih _ _ _ h).le ⟨Or.inr rfl, Or.inl rfl, Or.inr rfl, Or.inl rfl, Or.inr rfl, trivial⟩
      · cases h
    cases h
theorem s_X0_oneLess_0 {F : Nat × Nat} {l : Launch} {G : rx_G} {D : Nat} {hf : rx_H} {z : Int64} (hC : rx_CC l G D (C_X0_oneLess F) z) (x0 : Int64) (h : f_X0_oneLess_0 F x0 = some z) : rx_S l G ("SetHouse$Heap", prog_2_method_13_code, 5, false, false, D) hf hf rx_rJ z 0 [some (.long x0), none, none, none, none] [] none := by
  rw [g_X0_oneLess_0] at h
  refine rx_S_node (md := ("SetHouse$Heap", prog_2_method_13_code, 5, false, false, D)) tk_X0_oneLess hC rx_m_rJ (fun t ls st u h => ?_) h
  unfold kk_X0_oneLess_0 at h
  rcases rx_rec_eq h with ⟨hb, h⟩ | ⟨hb, h⟩
  · have ht := Nat.eq_of_beq_eq_true hb
    subst ht
    unfold n_X0_oneLess_5 at h
    split at h
    · exact (s_X0_oneLess_5 hC _ _ _ _ h).le ⟨Or.inr rfl, Or.inl rfl, Or.inr rfl, Or.inl rfl, Or.inr rfl, trivial⟩
    · cases h
  cases h
theorem cc_X0_oneLess (F : Nat × Nat) (l : Launch) (G : rx_G) {α : Type} (z : α) : rx_CC l G (1 + 0 * F.2) (C_X0_oneLess F) z := by
  intro j as u κ h
  unfold C_X0_oneLess at h
  rcases rx_rec_eq h with ⟨hb, h⟩ | ⟨hb, h⟩
  · have ht := Nat.eq_of_beq_eq_true hb
    subst ht
    exact (w_X0_lessThing F l G h).deep (by omega)
  cases h
theorem m_X0_oneLess (F : Nat × Nat) (l : Launch) (G : rx_G) (hf : rx_H) (x0 : Int64) {z : Int64} (h : f_X0_oneLess F x0 = some z) : rx_Ok l G (2 + 0 * F.2) (rx_ny 24) prog_2_method_13_code 5 (some .long) [.long x0] hf (some (.long z)) hf := by
  have h := h
  unfold f_X0_oneLess at h
  exact (rx_met (l := l) (G := G) (hf := hf) (as := [.long x0]) (r := (some (.long z))) (ls0 := [some (.long x0), none, none, none, none]) (y := rx_ny 24) (D := (1 + 0 * F.2)) (ini := false) (bo := false) (u := none) (u' := none) k_X0_oneLess (fun h => by cases h) (Nat.le_of_ble_eq_true rfl) (Or.inr (Or.inr (Or.inl ⟨rfl, _, rfl⟩))) (fun Z hZ hB => rx_RT_rJ hZ hB) (by exact ⟨Or.inr rfl, Or.inl rfl, Or.inl rfl, Or.inl rfl, Or.inl rfl, trivial⟩) (s_X0_oneLess_0 (cc_X0_oneLess F l G z) x0 h)).deep (by omega)
theorem w_X0_oneLess (F : Nat × Nat) (l : Launch) (G : rx_G) {α : Type} {z : α} {as : List Value} {u : Option rx_H} {κ : rx_K α} (h : c_X0_oneLess F as u κ = some z) : rx_Cw l G (2 + 0 * F.2) 24 as u κ z := by
  unfold c_X0_oneLess at h
  split at h
  · obtain ⟨r, hr, h⟩ := Option.bind_eq_some_iff.mp h
    exact ⟨_, _, _, _, _, _, h, k_X0_oneLess, fun _ => rfl, fun h => absurd rfl h, fun hf => m_X0_oneLess F l G _ _ hr⟩
  · cases h
set_option maxRecDepth 100000 in
theorem k_X0_oneMore : rx_Cal (rx_ny 25) prog_2_method_14_code 6 (some .long) (rx_kd 25) 2 := ⟨rx_in (i := 331) (by rfl) (by rfl), rx_in (i := 48) (by decide +kernel) (by decide +kernel), ⟨(by decide +kernel), (by decide +kernel), (by decide +kernel)⟩, Nat.le_of_ble_eq_true rfl, (by decide +kernel), fun _ => rx_in (i := 330) (by decide +kernel) (by decide +kernel), fun h => absurd h (by decide), fun h => absurd h (by decide)⟩
set_option maxRecDepth 100000 in
theorem tk_X0_oneMore : (t_X0_oneMore.all (rx_eok "SetHouse$Heap" prog_2_method_14_code 6 false false) && rx_adj t_X0_oneMore) = true := by decide +kernel
theorem s_X0_oneMore_5 {F : Nat × Nat} {l : Launch} {G : rx_G} {D : Nat} {hf : rx_H} {z : Int64} (hC : rx_CC l G D (C_X0_oneMore F) z) : ∀ (f : Nat) (x0 : Int64) (x2 : Int32) (x3 : Int64) (x5 : Int32), f_X0_oneMore_5 F f x0 x2 x3 x5 = some z → rx_S l G ("SetHouse$Heap", prog_2_method_14_code, 6, false, false, D) hf hf rx_rJ z 5 [some (.long x0), none, some (.int x2), some (.long x3), none, some (.int x5)] [] none := by
  intro f
  induction f with
  | zero =>
    intro x0 x2 x3 x5 h
    cases h
  | succ f ih =>
    intro x0 x2 x3 x5 h
    rw [g_X0_oneMore_5] at h
    refine rx_S_node (md := ("SetHouse$Heap", prog_2_method_14_code, 6, false, false, D)) tk_X0_oneMore hC rx_m_rJ (fun t ls st u h => ?_) h
    unfold kk_X0_oneMore_5 at h
    rcases rx_rec_eq h with ⟨hb, h⟩ | ⟨hb, h⟩
    · have ht := Nat.eq_of_beq_eq_true hb
      subst ht
      unfold n_X0_oneMore_5 at h
      split at h
      · exact (ih _ _ _ _ h).le ⟨Or.inr rfl, Or.inl rfl, Or.inr rfl, Or.inr rfl, Or.inl rfl, Or.inr rfl, trivial⟩
      · cases h
    cases h
theorem s_X0_oneMore_0 {F : Nat × Nat} {l : Launch} {G : rx_G} {D : Nat} {hf : rx_H} {z : Int64} (hC : rx_CC l G D (C_X0_oneMore F) z) (x0 : Int64) (x2 : Int32) (h : f_X0_oneMore_0 F x0 x2 = some z) : rx_S l G ("SetHouse$Heap", prog_2_method_14_code, 6, false, false, D) hf hf rx_rJ z 0 [some (.long x0), none, some (.int x2), none, none, none] [] none := by
  rw [g_X0_oneMore_0] at h
  refine rx_S_node (md := ("SetHouse$Heap", prog_2_method_14_code, 6, false, false, D)) tk_X0_oneMore hC rx_m_rJ (fun t ls st u h => ?_) h
  unfold kk_X0_oneMore_0 at h
  rcases rx_rec_eq h with ⟨hb, h⟩ | ⟨hb, h⟩
  · have ht := Nat.eq_of_beq_eq_true hb
    subst ht
    unfold n_X0_oneMore_5 at h
    split at h
    · exact (s_X0_oneMore_5 hC _ _ _ _ _ h).le ⟨Or.inr rfl, Or.inl rfl, Or.inr rfl, Or.inr rfl, Or.inl rfl, Or.inr rfl, trivial⟩
    · cases h
  cases h
theorem cc_X0_oneMore (F : Nat × Nat) (l : Launch) (G : rx_G) {α : Type} (z : α) : rx_CC l G (1 + 0 * F.2) (C_X0_oneMore F) z := by
  intro j as u κ h
  unfold C_X0_oneMore at h
  rcases rx_rec_eq h with ⟨hb, h⟩ | ⟨hb, h⟩
  · have ht := Nat.eq_of_beq_eq_true hb
    subst ht
    exact (w_X0_moreThing F l G h).deep (by omega)
  cases h
theorem m_X0_oneMore (F : Nat × Nat) (l : Launch) (G : rx_G) (hf : rx_H) (x0 : Int64) (x2 : Int32) {z : Int64} (h : f_X0_oneMore F x0 x2 = some z) : rx_Ok l G (2 + 0 * F.2) (rx_ny 25) prog_2_method_14_code 6 (some .long) [.long x0, .int x2] hf (some (.long z)) hf := by
  have h := h
  unfold f_X0_oneMore at h
  exact (rx_met (l := l) (G := G) (hf := hf) (as := [.long x0, .int x2]) (r := (some (.long z))) (ls0 := [some (.long x0), none, some (.int x2), none, none, none]) (y := rx_ny 25) (D := (1 + 0 * F.2)) (ini := false) (bo := false) (u := none) (u' := none) k_X0_oneMore (fun h => by cases h) (Nat.le_of_ble_eq_true rfl) (Or.inr (Or.inr (Or.inl ⟨rfl, _, rfl⟩))) (fun Z hZ hB => rx_RT_rJ hZ hB) (by exact ⟨Or.inr rfl, Or.inl rfl, Or.inr rfl, Or.inl rfl, Or.inl rfl, Or.inl rfl, trivial⟩) (s_X0_oneMore_0 (cc_X0_oneMore F l G z) x0 x2 h)).deep (by omega)
theorem w_X0_oneMore (F : Nat × Nat) (l : Launch) (G : rx_G) {α : Type} {z : α} {as : List Value} {u : Option rx_H} {κ : rx_K α} (h : c_X0_oneMore F as u κ = some z) : rx_Cw l G (2 + 0 * F.2) 25 as u κ z := by
  unfold c_X0_oneMore at h
  split at h
  · obtain ⟨r, hr, h⟩ := Option.bind_eq_some_iff.mp h
    exact ⟨_, _, _, _, _, _, h, k_X0_oneMore, fun _ => rfl, fun h => absurd rfl h, fun hf => m_X0_oneMore F l G _ _ _ hr⟩
  · cases h
set_option maxRecDepth 100000 in
theorem k_X0_allBelow : rx_Cal (rx_ny 9) prog_2_method_15_code 5 (some .long) (rx_kd 9) 1 := ⟨rx_in (i := 344) (by rfl) (by rfl), rx_in (i := 48) (by decide +kernel) (by decide +kernel), ⟨(by decide +kernel), (by decide +kernel), (by decide +kernel)⟩, Nat.le_of_ble_eq_true rfl, (by decide +kernel), fun _ => rx_in (i := 343) (by decide +kernel) (by decide +kernel), fun h => absurd h (by decide), fun h => absurd h (by decide)⟩
set_option maxRecDepth 100000 in
theorem tk_X0_allBelow : (t_X0_allBelow.all (rx_eok "SetHouse$Heap" prog_2_method_15_code 5 false false) && rx_adj t_X0_allBelow) = true := by decide +kernel
theorem s_X0_allBelow_5 {F : Nat × Nat} {l : Launch} {G : rx_G} {D : Nat} {hf : rx_H} {z : Int64} (hC : rx_CC l G D (C_X0_allBelow F) z) : ∀ (f : Nat) (x2 : Int64) (x4 : Int32), f_X0_allBelow_5 F f x2 x4 = some z → rx_S l G ("SetHouse$Heap", prog_2_method_15_code, 5, false, false, D) hf hf rx_rJ z 5 [none, none, some (.long x2), none, some (.int x4)] [] none := by
  intro f
  induction f with
  | zero =>
    intro x2 x4 h
    cases h
  | succ f ih =>
    intro x2 x4 h
    rw [g_X0_allBelow_5] at h
    refine rx_S_node (md := ("SetHouse$Heap", prog_2_method_15_code, 5, false, false, D)) tk_X0_allBelow hC rx_m_rJ (fun t ls st u h => ?_) h
    unfold kk_X0_allBelow_5 at h
    rcases rx_rec_eq h with ⟨hb, h⟩ | ⟨hb, h⟩
    · have ht := Nat.eq_of_beq_eq_true hb
      subst ht
      unfold n_X0_allBelow_5 at h
      split at h
      · exact (ih _ _ h).le ⟨Or.inl rfl, Or.inl rfl, Or.inr rfl, Or.inl rfl, Or.inr rfl, trivial⟩
      · cases h
    cases h
theorem s_X0_allBelow_0 {F : Nat × Nat} {l : Launch} {G : rx_G} {D : Nat} {hf : rx_H} {z : Int64} (hC : rx_CC l G D (C_X0_allBelow F) z) (x0 : Int64) (h : f_X0_allBelow_0 F x0 = some z) : rx_S l G ("SetHouse$Heap", prog_2_method_15_code, 5, false, false, D) hf hf rx_rJ z 0 [some (.long x0), none, none, none, none] [] none := by
  rw [g_X0_allBelow_0] at h
  refine rx_S_node (md := ("SetHouse$Heap", prog_2_method_15_code, 5, false, false, D)) tk_X0_allBelow hC rx_m_rJ (fun t ls st u h => ?_) h
  unfold kk_X0_allBelow_0 at h
  rcases rx_rec_eq h with ⟨hb, h⟩ | ⟨hb, h⟩
  · have ht := Nat.eq_of_beq_eq_true hb
    subst ht
    unfold n_X0_allBelow_5 at h
    split at h
    · exact (s_X0_allBelow_5 hC _ _ _ h).le ⟨Or.inl rfl, Or.inl rfl, Or.inr rfl, Or.inl rfl, Or.inr rfl, trivial⟩
    · cases h
  cases h
theorem cc_X0_allBelow (F : Nat × Nat) (l : Launch) (G : rx_G) {α : Type} (z : α) : rx_CC l G (1 + 0 * F.2) (C_X0_allBelow F) z := by
  intro j as u κ h
  unfold C_X0_allBelow at h
  rcases rx_rec_eq h with ⟨hb, h⟩ | ⟨hb, h⟩
  · have ht := Nat.eq_of_beq_eq_true hb
    subst ht
    exact (w_X0_lessThing F l G h).deep (by omega)
  cases h
theorem m_X0_allBelow (F : Nat × Nat) (l : Launch) (G : rx_G) (hf : rx_H) (x0 : Int64) {z : Int64} (h : f_X0_allBelow F x0 = some z) : rx_Ok l G (2 + 0 * F.2) (rx_ny 9) prog_2_method_15_code 5 (some .long) [.long x0] hf (some (.long z)) hf := by
  have h := h
  unfold f_X0_allBelow at h
  exact (rx_met (l := l) (G := G) (hf := hf) (as := [.long x0]) (r := (some (.long z))) (ls0 := [some (.long x0), none, none, none, none]) (y := rx_ny 9) (D := (1 + 0 * F.2)) (ini := false) (bo := false) (u := none) (u' := none) k_X0_allBelow (fun h => by cases h) (Nat.le_of_ble_eq_true rfl) (Or.inr (Or.inr (Or.inl ⟨rfl, _, rfl⟩))) (fun Z hZ hB => rx_RT_rJ hZ hB) (by exact ⟨Or.inr rfl, Or.inl rfl, Or.inl rfl, Or.inl rfl, Or.inl rfl, trivial⟩) (s_X0_allBelow_0 (cc_X0_allBelow F l G z) x0 h)).deep (by omega)
theorem w_X0_allBelow (F : Nat × Nat) (l : Launch) (G : rx_G) {α : Type} {z : α} {as : List Value} {u : Option rx_H} {κ : rx_K α} (h : c_X0_allBelow F as u κ = some z) : rx_Cw l G (2 + 0 * F.2) 9 as u κ z := by
  unfold c_X0_allBelow at h
  split at h
  · obtain ⟨r, hr, h⟩ := Option.bind_eq_some_iff.mp h
    exact ⟨_, _, _, _, _, _, h, k_X0_allBelow, fun _ => rfl, fun h => absurd rfl h, fun hf => m_X0_allBelow F l G _ _ hr⟩
  · cases h
set_option maxRecDepth 100000 in
theorem k_X0_allAbove : rx_Cal (rx_ny 8) prog_2_method_16_code 6 (some .long) (rx_kd 8) 2 := ⟨rx_in (i := 341) (by rfl) (by rfl), rx_in (i := 48) (by decide +kernel) (by decide +kernel), ⟨(by decide +kernel), (by decide +kernel), (by decide +kernel)⟩, Nat.le_of_ble_eq_true rfl, (by decide +kernel), fun _ => rx_in (i := 340) (by decide +kernel) (by decide +kernel), fun h => absurd h (by decide), fun h => absurd h (by decide)⟩
set_option maxRecDepth 100000 in
theorem tk_X0_allAbove : (t_X0_allAbove.all (rx_eok "SetHouse$Heap" prog_2_method_16_code 6 false false) && rx_adj t_X0_allAbove) = true := by decide +kernel
theorem s_X0_allAbove_5 {F : Nat × Nat} {l : Launch} {G : rx_G} {D : Nat} {hf : rx_H} {z : Int64} (hC : rx_CC l G D (C_X0_allAbove F) z) : ∀ (f : Nat) (x2 : Int32) (x3 : Int64) (x5 : Int32), f_X0_allAbove_5 F f x2 x3 x5 = some z → rx_S l G ("SetHouse$Heap", prog_2_method_16_code, 6, false, false, D) hf hf rx_rJ z 5 [none, none, some (.int x2), some (.long x3), none, some (.int x5)] [] none := by
  intro f
  induction f with
  | zero =>
    intro x2 x3 x5 h
    cases h
  | succ f ih =>
    intro x2 x3 x5 h
    rw [g_X0_allAbove_5] at h
    refine rx_S_node (md := ("SetHouse$Heap", prog_2_method_16_code, 6, false, false, D)) tk_X0_allAbove hC rx_m_rJ (fun t ls st u h => ?_) h
    unfold kk_X0_allAbove_5 at h
    rcases rx_rec_eq h with ⟨hb, h⟩ | ⟨hb, h⟩
    · have ht := Nat.eq_of_beq_eq_true hb
      subst ht
      unfold n_X0_allAbove_5 at h
      split at h
      · exact (ih _ _ _ h).le ⟨Or.inl rfl, Or.inl rfl, Or.inr rfl, Or.inr rfl, Or.inl rfl, Or.inr rfl, trivial⟩
      · cases h
    cases h
theorem s_X0_allAbove_0 {F : Nat × Nat} {l : Launch} {G : rx_G} {D : Nat} {hf : rx_H} {z : Int64} (hC : rx_CC l G D (C_X0_allAbove F) z) (x0 : Int64) (x2 : Int32) (h : f_X0_allAbove_0 F x0 x2 = some z) : rx_S l G ("SetHouse$Heap", prog_2_method_16_code, 6, false, false, D) hf hf rx_rJ z 0 [some (.long x0), none, some (.int x2), none, none, none] [] none := by
  rw [g_X0_allAbove_0] at h
  refine rx_S_node (md := ("SetHouse$Heap", prog_2_method_16_code, 6, false, false, D)) tk_X0_allAbove hC rx_m_rJ (fun t ls st u h => ?_) h
  unfold kk_X0_allAbove_0 at h
  rcases rx_rec_eq h with ⟨hb, h⟩ | ⟨hb, h⟩
  · have ht := Nat.eq_of_beq_eq_true hb
    subst ht
    unfold n_X0_allAbove_5 at h
    split at h
    · exact (s_X0_allAbove_5 hC _ _ _ _ h).le ⟨Or.inl rfl, Or.inl rfl, Or.inr rfl, Or.inr rfl, Or.inl rfl, Or.inr rfl, trivial⟩
    · cases h
  cases h
theorem cc_X0_allAbove (F : Nat × Nat) (l : Launch) (G : rx_G) {α : Type} (z : α) : rx_CC l G (1 + 0 * F.2) (C_X0_allAbove F) z := by
  intro j as u κ h
  unfold C_X0_allAbove at h
  rcases rx_rec_eq h with ⟨hb, h⟩ | ⟨hb, h⟩
  · have ht := Nat.eq_of_beq_eq_true hb
    subst ht
    exact (w_X0_moreThing F l G h).deep (by omega)
  cases h
theorem m_X0_allAbove (F : Nat × Nat) (l : Launch) (G : rx_G) (hf : rx_H) (x0 : Int64) (x2 : Int32) {z : Int64} (h : f_X0_allAbove F x0 x2 = some z) : rx_Ok l G (2 + 0 * F.2) (rx_ny 8) prog_2_method_16_code 6 (some .long) [.long x0, .int x2] hf (some (.long z)) hf := by
  have h := h
  unfold f_X0_allAbove at h
  exact (rx_met (l := l) (G := G) (hf := hf) (as := [.long x0, .int x2]) (r := (some (.long z))) (ls0 := [some (.long x0), none, some (.int x2), none, none, none]) (y := rx_ny 8) (D := (1 + 0 * F.2)) (ini := false) (bo := false) (u := none) (u' := none) k_X0_allAbove (fun h => by cases h) (Nat.le_of_ble_eq_true rfl) (Or.inr (Or.inr (Or.inl ⟨rfl, _, rfl⟩))) (fun Z hZ hB => rx_RT_rJ hZ hB) (by exact ⟨Or.inr rfl, Or.inl rfl, Or.inr rfl, Or.inl rfl, Or.inl rfl, Or.inl rfl, trivial⟩) (s_X0_allAbove_0 (cc_X0_allAbove F l G z) x0 x2 h)).deep (by omega)
theorem w_X0_allAbove (F : Nat × Nat) (l : Launch) (G : rx_G) {α : Type} {z : α} {as : List Value} {u : Option rx_H} {κ : rx_K α} (h : c_X0_allAbove F as u κ = some z) : rx_Cw l G (2 + 0 * F.2) 8 as u κ z := by
  unfold c_X0_allAbove at h
  split at h
  · obtain ⟨r, hr, h⟩ := Option.bind_eq_some_iff.mp h
    exact ⟨_, _, _, _, _, _, h, k_X0_allAbove, fun _ => rfl, fun h => absurd rfl h, fun hf => m_X0_allAbove F l G _ _ _ hr⟩
  · cases h
set_option maxRecDepth 100000 in
theorem k_X0_lacking : rx_Cal (rx_ny 15) prog_2_method_17_code 6 (some .long) (rx_kd 15) 2 := ⟨rx_in (i := 378) (by rfl) (by rfl), rx_in (i := 48) (by decide +kernel) (by decide +kernel), ⟨(by decide +kernel), (by decide +kernel), (by decide +kernel)⟩, Nat.le_of_ble_eq_true rfl, (by decide +kernel), fun _ => rx_in (i := 377) (by decide +kernel) (by decide +kernel), fun h => absurd h (by decide), fun h => absurd h (by decide)⟩
set_option maxRecDepth 100000 in
theorem tk_X0_lacking : (t_X0_lacking.all (rx_eok "SetHouse$Heap" prog_2_method_17_code 6 false false) && rx_adj t_X0_lacking) = true := by decide +kernel
theorem s_X0_lacking_5 {F : Nat × Nat} {l : Launch} {G : rx_G} {D : Nat} {hf : rx_H} {z : Int64} (hC : rx_CC l G D (C_X0_lacking F) z) : ∀ (f : Nat) (x2 : Int32) (x3 : Int64) (x5 : Int32), f_X0_lacking_5 F f x2 x3 x5 = some z → rx_S l G ("SetHouse$Heap", prog_2_method_17_code, 6, false, false, D) hf hf rx_rJ z 5 [none, none, some (.int x2), some (.long x3), none, some (.int x5)] [] none := by
  intro f
  induction f with
  | zero =>
    intro x2 x3 x5 h
    cases h
  | succ f ih =>
    intro x2 x3 x5 h
    rw [g_X0_lacking_5] at h
    refine rx_S_node (md := ("SetHouse$Heap", prog_2_method_17_code, 6, false, false, D)) tk_X0_lacking hC rx_m_rJ (fun t ls st u h => ?_) h
    unfold kk_X0_lacking_5 at h
    rcases rx_rec_eq h with ⟨hb, h⟩ | ⟨hb, h⟩
    · have ht := Nat.eq_of_beq_eq_true hb
      subst ht
      unfold n_X0_lacking_5 at h
      split at h
      · exact (ih _ _ _ h).le ⟨Or.inl rfl, Or.inl rfl, Or.inr rfl, Or.inr rfl, Or.inl rfl, Or.inr rfl, trivial⟩
      · cases h
    cases h
theorem s_X0_lacking_0 {F : Nat × Nat} {l : Launch} {G : rx_G} {D : Nat} {hf : rx_H} {z : Int64} (hC : rx_CC l G D (C_X0_lacking F) z) (x0 : Int64) (x2 : Int32) (h : f_X0_lacking_0 F x0 x2 = some z) : rx_S l G ("SetHouse$Heap", prog_2_method_17_code, 6, false, false, D) hf hf rx_rJ z 0 [some (.long x0), none, some (.int x2), none, none, none] [] none := by
  rw [g_X0_lacking_0] at h
  refine rx_S_node (md := ("SetHouse$Heap", prog_2_method_17_code, 6, false, false, D)) tk_X0_lacking hC rx_m_rJ (fun t ls st u h => ?_) h
  unfold kk_X0_lacking_0 at h
  rcases rx_rec_eq h with ⟨hb, h⟩ | ⟨hb, h⟩
  · have ht := Nat.eq_of_beq_eq_true hb
    subst ht
    unfold n_X0_lacking_5 at h
    split at h
    · exact (s_X0_lacking_5 hC _ _ _ _ h).le ⟨Or.inl rfl, Or.inl rfl, Or.inr rfl, Or.inr rfl, Or.inl rfl, Or.inr rfl, trivial⟩
    · cases h
  cases h
theorem cc_X0_lacking (F : Nat × Nat) (l : Launch) (G : rx_G) {α : Type} (z : α) : rx_CC l G (1 + 0 * F.2) (C_X0_lacking F) z := by
  intro j as u κ h
  unfold C_X0_lacking at h
  rcases rx_rec_eq h with ⟨hb, h⟩ | ⟨hb, h⟩
  · have ht := Nat.eq_of_beq_eq_true hb
    subst ht
    exact (w_X0_lessThing F l G h).deep (by omega)
  rcases rx_rec_eq h with ⟨hb, h⟩ | ⟨hb, h⟩
  · have ht := Nat.eq_of_beq_eq_true hb
    subst ht
    exact (w_X0_moreThing F l G h).deep (by omega)
  cases h
theorem m_X0_lacking (F : Nat × Nat) (l : Launch) (G : rx_G) (hf : rx_H) (x0 : Int64) (x2 : Int32) {z : Int64} (h : f_X0_lacking F x0 x2 = some z) : rx_Ok l G (2 + 0 * F.2) (rx_ny 15) prog_2_method_17_code 6 (some .long) [.long x0, .int x2] hf (some (.long z)) hf := by
  have h := h
  unfold f_X0_lacking at h
  exact (rx_met (l := l) (G := G) (hf := hf) (as := [.long x0, .int x2]) (r := (some (.long z))) (ls0 := [some (.long x0), none, some (.int x2), none, none, none]) (y := rx_ny 15) (D := (1 + 0 * F.2)) (ini := false) (bo := false) (u := none) (u' := none) k_X0_lacking (fun h => by cases h) (Nat.le_of_ble_eq_true rfl) (Or.inr (Or.inr (Or.inl ⟨rfl, _, rfl⟩))) (fun Z hZ hB => rx_RT_rJ hZ hB) (by exact ⟨Or.inr rfl, Or.inl rfl, Or.inr rfl, Or.inl rfl, Or.inl rfl, Or.inl rfl, trivial⟩) (s_X0_lacking_0 (cc_X0_lacking F l G z) x0 x2 h)).deep (by omega)
theorem w_X0_lacking (F : Nat × Nat) (l : Launch) (G : rx_G) {α : Type} {z : α} {as : List Value} {u : Option rx_H} {κ : rx_K α} (h : c_X0_lacking F as u κ = some z) : rx_Cw l G (2 + 0 * F.2) 15 as u κ z := by
  unfold c_X0_lacking at h
  split at h
  · obtain ⟨r, hr, h⟩ := Option.bind_eq_some_iff.mp h
    exact ⟨_, _, _, _, _, _, h, k_X0_lacking, fun _ => rfl, fun h => absurd rfl h, fun hf => m_X0_lacking F l G _ _ _ hr⟩
  · cases h
set_option maxRecDepth 100000 in
theorem k_X0_cutTo : rx_Cal (rx_ny 12) prog_2_method_18_code 6 (some .long) (rx_kd 12) 2 := ⟨rx_in (i := 365) (by rfl) (by rfl), rx_in (i := 48) (by decide +kernel) (by decide +kernel), ⟨(by decide +kernel), (by decide +kernel), (by decide +kernel)⟩, Nat.le_of_ble_eq_true rfl, (by decide +kernel), fun _ => rx_in (i := 364) (by decide +kernel) (by decide +kernel), fun h => absurd h (by decide), fun h => absurd h (by decide)⟩
set_option maxRecDepth 100000 in
theorem tk_X0_cutTo : (t_X0_cutTo.all (rx_eok "SetHouse$Heap" prog_2_method_18_code 6 false false) && rx_adj t_X0_cutTo) = true := by decide +kernel
theorem s_X0_cutTo_5 {F : Nat × Nat} {l : Launch} {G : rx_G} {D : Nat} {hf : rx_H} {z : Int64} (hC : rx_CC l G D (C_X0_cutTo F) z) : ∀ (f : Nat) (x2 : Int32) (x3 : Int64) (x5 : Int32), f_X0_cutTo_5 F f x2 x3 x5 = some z → rx_S l G ("SetHouse$Heap", prog_2_method_18_code, 6, false, false, D) hf hf rx_rJ z 5 [none, none, some (.int x2), some (.long x3), none, some (.int x5)] [] none := by
  intro f
  induction f with
  | zero =>
    intro x2 x3 x5 h
    cases h
  | succ f ih =>
    intro x2 x3 x5 h
    rw [g_X0_cutTo_5] at h
    refine rx_S_node (md := ("SetHouse$Heap", prog_2_method_18_code, 6, false, false, D)) tk_X0_cutTo hC rx_m_rJ (fun t ls st u h => ?_) h
    unfold kk_X0_cutTo_5 at h
    rcases rx_rec_eq h with ⟨hb, h⟩ | ⟨hb, h⟩
    · have ht := Nat.eq_of_beq_eq_true hb
      subst ht
      unfold n_X0_cutTo_5 at h
      split at h
      · exact (ih _ _ _ h).le ⟨Or.inl rfl, Or.inl rfl, Or.inr rfl, Or.inr rfl, Or.inl rfl, Or.inr rfl, trivial⟩
      · cases h
    cases h
theorem s_X0_cutTo_0 {F : Nat × Nat} {l : Launch} {G : rx_G} {D : Nat} {hf : rx_H} {z : Int64} (hC : rx_CC l G D (C_X0_cutTo F) z) (x0 : Int64) (x2 : Int32) (h : f_X0_cutTo_0 F x0 x2 = some z) : rx_S l G ("SetHouse$Heap", prog_2_method_18_code, 6, false, false, D) hf hf rx_rJ z 0 [some (.long x0), none, some (.int x2), none, none, none] [] none := by
  rw [g_X0_cutTo_0] at h
  refine rx_S_node (md := ("SetHouse$Heap", prog_2_method_18_code, 6, false, false, D)) tk_X0_cutTo hC rx_m_rJ (fun t ls st u h => ?_) h
  unfold kk_X0_cutTo_0 at h
  rcases rx_rec_eq h with ⟨hb, h⟩ | ⟨hb, h⟩
  · have ht := Nat.eq_of_beq_eq_true hb
    subst ht
    unfold n_X0_cutTo_5 at h
    split at h
    · exact (s_X0_cutTo_5 hC _ _ _ _ h).le ⟨Or.inl rfl, Or.inl rfl, Or.inr rfl, Or.inr rfl, Or.inl rfl, Or.inr rfl, trivial⟩
    · cases h
  cases h
theorem cc_X0_cutTo (F : Nat × Nat) (l : Launch) (G : rx_G) {α : Type} (z : α) : rx_CC l G (1 + 0 * F.2) (C_X0_cutTo F) z := by
  intro j as u κ h
  unfold C_X0_cutTo at h
  rcases rx_rec_eq h with ⟨hb, h⟩ | ⟨hb, h⟩
  · have ht := Nat.eq_of_beq_eq_true hb
    subst ht
    exact (w_X0_lackingThing F l G h).deep (by omega)
  rcases rx_rec_eq h with ⟨hb, h⟩ | ⟨hb, h⟩
  · have ht := Nat.eq_of_beq_eq_true hb
    subst ht
    exact (w_X0_lessThing F l G h).deep (by omega)
  cases h
theorem m_X0_cutTo (F : Nat × Nat) (l : Launch) (G : rx_G) (hf : rx_H) (x0 : Int64) (x2 : Int32) {z : Int64} (h : f_X0_cutTo F x0 x2 = some z) : rx_Ok l G (2 + 0 * F.2) (rx_ny 12) prog_2_method_18_code 6 (some .long) [.long x0, .int x2] hf (some (.long z)) hf := by
  have h := h
  unfold f_X0_cutTo at h
  exact (rx_met (l := l) (G := G) (hf := hf) (as := [.long x0, .int x2]) (r := (some (.long z))) (ls0 := [some (.long x0), none, some (.int x2), none, none, none]) (y := rx_ny 12) (D := (1 + 0 * F.2)) (ini := false) (bo := false) (u := none) (u' := none) k_X0_cutTo (fun h => by cases h) (Nat.le_of_ble_eq_true rfl) (Or.inr (Or.inr (Or.inl ⟨rfl, _, rfl⟩))) (fun Z hZ hB => rx_RT_rJ hZ hB) (by exact ⟨Or.inr rfl, Or.inl rfl, Or.inr rfl, Or.inl rfl, Or.inl rfl, Or.inl rfl, trivial⟩) (s_X0_cutTo_0 (cc_X0_cutTo F l G z) x0 x2 h)).deep (by omega)
theorem w_X0_cutTo (F : Nat × Nat) (l : Launch) (G : rx_G) {α : Type} {z : α} {as : List Value} {u : Option rx_H} {κ : rx_K α} (h : c_X0_cutTo F as u κ = some z) : rx_Cw l G (2 + 0 * F.2) 12 as u κ z := by
  unfold c_X0_cutTo at h
  split at h
  · obtain ⟨r, hr, h⟩ := Option.bind_eq_some_iff.mp h
    exact ⟨_, _, _, _, _, _, h, k_X0_cutTo, fun _ => rfl, fun h => absurd rfl h, fun hf => m_X0_cutTo F l G _ _ _ hr⟩
  · cases h
set_option maxRecDepth 100000 in
theorem k_X0_joinedTo : rx_Cal (rx_ny 14) prog_2_method_19_code 6 (some .long) (rx_kd 14) 2 := ⟨rx_in (i := 371) (by rfl) (by rfl), rx_in (i := 48) (by decide +kernel) (by decide +kernel), ⟨(by decide +kernel), (by decide +kernel), (by decide +kernel)⟩, Nat.le_of_ble_eq_true rfl, (by decide +kernel), fun _ => rx_in (i := 370) (by decide +kernel) (by decide +kernel), fun h => absurd h (by decide), fun h => absurd h (by decide)⟩
set_option maxRecDepth 100000 in
theorem tk_X0_joinedTo : (t_X0_joinedTo.all (rx_eok "SetHouse$Heap" prog_2_method_19_code 6 false false) && rx_adj t_X0_joinedTo) = true := by decide +kernel
theorem s_X0_joinedTo_5 {F : Nat × Nat} {l : Launch} {G : rx_G} {D : Nat} {hf : rx_H} {z : Int64} (hC : rx_CC l G D (C_X0_joinedTo F) z) : ∀ (f : Nat) (x2 : Int32) (x3 : Int64) (x5 : Int32), f_X0_joinedTo_5 F f x2 x3 x5 = some z → rx_S l G ("SetHouse$Heap", prog_2_method_19_code, 6, false, false, D) hf hf rx_rJ z 5 [none, none, some (.int x2), some (.long x3), none, some (.int x5)] [] none := by
  intro f
  induction f with
  | zero =>
    intro x2 x3 x5 h
    cases h
  | succ f ih =>
    intro x2 x3 x5 h
    rw [g_X0_joinedTo_5] at h
    refine rx_S_node (md := ("SetHouse$Heap", prog_2_method_19_code, 6, false, false, D)) tk_X0_joinedTo hC rx_m_rJ (fun t ls st u h => ?_) h
    unfold kk_X0_joinedTo_5 at h
    rcases rx_rec_eq h with ⟨hb, h⟩ | ⟨hb, h⟩
    · have ht := Nat.eq_of_beq_eq_true hb
      subst ht
      unfold n_X0_joinedTo_5 at h
      split at h
      · exact (ih _ _ _ h).le ⟨Or.inl rfl, Or.inl rfl, Or.inr rfl, Or.inr rfl, Or.inl rfl, Or.inr rfl, trivial⟩
      · cases h
    cases h
theorem s_X0_joinedTo_0 {F : Nat × Nat} {l : Launch} {G : rx_G} {D : Nat} {hf : rx_H} {z : Int64} (hC : rx_CC l G D (C_X0_joinedTo F) z) (x0 : Int64) (x2 : Int32) (h : f_X0_joinedTo_0 F x0 x2 = some z) : rx_S l G ("SetHouse$Heap", prog_2_method_19_code, 6, false, false, D) hf hf rx_rJ z 0 [some (.long x0), none, some (.int x2), none, none, none] [] none := by
  rw [g_X0_joinedTo_0] at h
  refine rx_S_node (md := ("SetHouse$Heap", prog_2_method_19_code, 6, false, false, D)) tk_X0_joinedTo hC rx_m_rJ (fun t ls st u h => ?_) h
  unfold kk_X0_joinedTo_0 at h
  rcases rx_rec_eq h with ⟨hb, h⟩ | ⟨hb, h⟩
  · have ht := Nat.eq_of_beq_eq_true hb
    subst ht
    unfold n_X0_joinedTo_5 at h
    split at h
    · exact (s_X0_joinedTo_5 hC _ _ _ _ h).le ⟨Or.inl rfl, Or.inl rfl, Or.inr rfl, Or.inr rfl, Or.inl rfl, Or.inr rfl, trivial⟩
    · cases h
  cases h
theorem cc_X0_joinedTo (F : Nat × Nat) (l : Launch) (G : rx_G) {α : Type} (z : α) : rx_CC l G (1 + 0 * F.2) (C_X0_joinedTo F) z := by
  intro j as u κ h
  unfold C_X0_joinedTo at h
  rcases rx_rec_eq h with ⟨hb, h⟩ | ⟨hb, h⟩
  · have ht := Nat.eq_of_beq_eq_true hb
    subst ht
    exact (w_X0_moreThing F l G h).deep (by omega)
  cases h
theorem m_X0_joinedTo (F : Nat × Nat) (l : Launch) (G : rx_G) (hf : rx_H) (x0 : Int64) (x2 : Int32) {z : Int64} (h : f_X0_joinedTo F x0 x2 = some z) : rx_Ok l G (2 + 0 * F.2) (rx_ny 14) prog_2_method_19_code 6 (some .long) [.long x0, .int x2] hf (some (.long z)) hf := by
  have h := h
  unfold f_X0_joinedTo at h
  exact (rx_met (l := l) (G := G) (hf := hf) (as := [.long x0, .int x2]) (r := (some (.long z))) (ls0 := [some (.long x0), none, some (.int x2), none, none, none]) (y := rx_ny 14) (D := (1 + 0 * F.2)) (ini := false) (bo := false) (u := none) (u' := none) k_X0_joinedTo (fun h => by cases h) (Nat.le_of_ble_eq_true rfl) (Or.inr (Or.inr (Or.inl ⟨rfl, _, rfl⟩))) (fun Z hZ hB => rx_RT_rJ hZ hB) (by exact ⟨Or.inr rfl, Or.inl rfl, Or.inr rfl, Or.inl rfl, Or.inl rfl, Or.inl rfl, trivial⟩) (s_X0_joinedTo_0 (cc_X0_joinedTo F l G z) x0 x2 h)).deep (by omega)
theorem w_X0_joinedTo (F : Nat × Nat) (l : Launch) (G : rx_G) {α : Type} {z : α} {as : List Value} {u : Option rx_H} {κ : rx_K α} (h : c_X0_joinedTo F as u κ = some z) : rx_Cw l G (2 + 0 * F.2) 14 as u κ z := by
  unfold c_X0_joinedTo at h
  split at h
  · obtain ⟨r, hr, h⟩ := Option.bind_eq_some_iff.mp h
    exact ⟨_, _, _, _, _, _, h, k_X0_joinedTo, fun _ => rfl, fun h => absurd rfl h, fun hf => m_X0_joinedTo F l G _ _ _ hr⟩
  · cases h
set_option maxRecDepth 100000 in
theorem k_X0_mixedInPairs : rx_Cal (rx_ny 20) prog_2_method_21_code 8 (some .long) (rx_kd 20) 3 := ⟨rx_in (i := 362) (by rfl) (by rfl), rx_in (i := 48) (by decide +kernel) (by decide +kernel), ⟨(by decide +kernel), (by decide +kernel), (by decide +kernel)⟩, Nat.le_of_ble_eq_true rfl, (by decide +kernel), fun _ => rx_in (i := 361) (by decide +kernel) (by decide +kernel), fun h => absurd h (by decide), fun h => absurd h (by decide)⟩
set_option maxRecDepth 100000 in
theorem tk_X0_mixedInPairs : (t_X0_mixedInPairs.all (rx_eok "SetHouse$Heap" prog_2_method_21_code 8 false false) && rx_adj t_X0_mixedInPairs) = true := by decide +kernel
theorem s_X0_mixedInPairs_39 {F : Nat × Nat} {l : Launch} {G : rx_G} {D : Nat} {hf : rx_H} {z : Int64} (hC : rx_CC l G D (C_X0_mixedInPairs F) z) {k10 : Int64 → Int64 → Int32 → Int64 → Int32 → Option Int64} (hk10 : ∀ (x0 : Int64) (x2 : Int64) (x4 : Int32) (x5 : Int64) (x7 : Int32), k10 x0 x2 x4 x5 x7 = some z → rx_S l G ("SetHouse$Heap", prog_2_method_21_code, 8, false, false, D) hf hf rx_rJ z 10 [some (.long x0), none, some (.long x2), none, some (.int x4), some (.long x5), none, some (.int x7)] [] none) (x0 : Int64) (x2 : Int64) (x4 : Int32) (x7 : Int32) (s0 : Int64) (s1 : Int64) (h : f_X0_mixedInPairs_39 F k10 x0 x2 x4 x7 s0 s1 = some z) : rx_S l G ("SetHouse$Heap", prog_2_method_21_code, 8, false, false, D) hf hf rx_rJ z 39 [some (.long x0), none, some (.long x2), none, some (.int x4), none, none, some (.int x7)] [.long s1, .long s0] none := by
  rw [g_X0_mixedInPairs_39] at h
  refine rx_S_node (md := ("SetHouse$Heap", prog_2_method_21_code, 8, false, false, D)) tk_X0_mixedInPairs hC rx_m_rJ (fun t ls st u h => ?_) h
  unfold kk_X0_mixedInPairs_39 at h
  rcases rx_rec_eq h with ⟨hb, h⟩ | ⟨hb, h⟩
  · have ht := Nat.eq_of_beq_eq_true hb
    subst ht
    unfold n_X0_mixedInPairs_10 at h
    split at h
    · exact (hk10 _ _ _ _ _ h).le ⟨Or.inr rfl, Or.inl rfl, Or.inr rfl, Or.inl rfl, Or.inr rfl, Or.inr rfl, Or.inl rfl, Or.inr rfl, trivial⟩
    · cases h
  cases h
theorem s_X0_mixedInPairs_10 {F : Nat × Nat} {l : Launch} {G : rx_G} {D : Nat} {hf : rx_H} {z : Int64} (hC : rx_CC l G D (C_X0_mixedInPairs F) z) : ∀ (f : Nat) (x0 : Int64) (x2 : Int64) (x4 : Int32) (x5 : Int64) (x7 : Int32), f_X0_mixedInPairs_10 F f x0 x2 x4 x5 x7 = some z → rx_S l G ("SetHouse$Heap", prog_2_method_21_code, 8, false, false, D) hf hf rx_rJ z 10 [some (.long x0), none, some (.long x2), none, some (.int x4), some (.long x5), none, some (.int x7)] [] none := by
  intro f
  induction f with
  | zero =>
    intro x0 x2 x4 x5 x7 h
    cases h
  | succ f ih =>
    intro x0 x2 x4 x5 x7 h
    rw [g_X0_mixedInPairs_10] at h
    refine rx_S_node (md := ("SetHouse$Heap", prog_2_method_21_code, 8, false, false, D)) tk_X0_mixedInPairs hC rx_m_rJ (fun t ls st u h => ?_) h
    unfold kk_X0_mixedInPairs_10 at h
    rcases rx_rec_eq h with ⟨hb, h⟩ | ⟨hb, h⟩
    · have ht := Nat.eq_of_beq_eq_true hb
      subst ht
      unfold n_X0_mixedInPairs_39 at h
      split at h
      · exact (s_X0_mixedInPairs_39 hC ih _ _ _ _ _ _ h).le ⟨Or.inr rfl, Or.inl rfl, Or.inr rfl, Or.inl rfl, Or.inr rfl, Or.inl rfl, Or.inl rfl, Or.inr rfl, trivial⟩
      · cases h
    cases h
theorem s_X0_mixedInPairs_0 {F : Nat × Nat} {l : Launch} {G : rx_G} {D : Nat} {hf : rx_H} {z : Int64} (hC : rx_CC l G D (C_X0_mixedInPairs F) z) (x0 : Int64) (x2 : Int64) (x4 : Int32) (h : f_X0_mixedInPairs_0 F x0 x2 x4 = some z) : rx_S l G ("SetHouse$Heap", prog_2_method_21_code, 8, false, false, D) hf hf rx_rJ z 0 [some (.long x0), none, some (.long x2), none, some (.int x4), none, none, none] [] none := by
  rw [g_X0_mixedInPairs_0] at h
  refine rx_S_node (md := ("SetHouse$Heap", prog_2_method_21_code, 8, false, false, D)) tk_X0_mixedInPairs hC rx_m_rJ (fun t ls st u h => ?_) h
  unfold kk_X0_mixedInPairs_0 at h
  rcases rx_rec_eq h with ⟨hb, h⟩ | ⟨hb, h⟩
  · have ht := Nat.eq_of_beq_eq_true hb
    subst ht
    unfold n_X0_mixedInPairs_10 at h
    split at h
    · exact (s_X0_mixedInPairs_10 hC _ _ _ _ _ _ h).le ⟨Or.inr rfl, Or.inl rfl, Or.inr rfl, Or.inl rfl, Or.inr rfl, Or.inr rfl, Or.inl rfl, Or.inr rfl, trivial⟩
    · cases h
  cases h
theorem cc_X0_mixedInPairs (F : Nat × Nat) (l : Launch) (G : rx_G) {α : Type} (z : α) : rx_CC l G (2 + 0 * F.2) (C_X0_mixedInPairs F) z := by
  intro j as u κ h
  unfold C_X0_mixedInPairs at h
  rcases rx_rec_eq h with ⟨hb, h⟩ | ⟨hb, h⟩
  · have ht := Nat.eq_of_beq_eq_true hb
    subst ht
    exact (w_X0_cutTo F l G h).deep (by omega)
  rcases rx_rec_eq h with ⟨hb, h⟩ | ⟨hb, h⟩
  · have ht := Nat.eq_of_beq_eq_true hb
    subst ht
    exact (w_X0_joinedTo F l G h).deep (by omega)
  rcases rx_rec_eq h with ⟨hb, h⟩ | ⟨hb, h⟩
  · have ht := Nat.eq_of_beq_eq_true hb
    subst ht
    exact (w_X0_next F l G h).deep (by omega)
  cases h
theorem m_X0_mixedInPairs (F : Nat × Nat) (l : Launch) (G : rx_G) (hf : rx_H) (x0 : Int64) (x2 : Int64) (x4 : Int32) {z : Int64} (h : f_X0_mixedInPairs F x0 x2 x4 = some z) : rx_Ok l G (3 + 0 * F.2) (rx_ny 20) prog_2_method_21_code 8 (some .long) [.long x0, .long x2, .int x4] hf (some (.long z)) hf := by
  have h := h
  unfold f_X0_mixedInPairs at h
  exact (rx_met (l := l) (G := G) (hf := hf) (as := [.long x0, .long x2, .int x4]) (r := (some (.long z))) (ls0 := [some (.long x0), none, some (.long x2), none, some (.int x4), none, none, none]) (y := rx_ny 20) (D := (2 + 0 * F.2)) (ini := false) (bo := false) (u := none) (u' := none) k_X0_mixedInPairs (fun h => by cases h) (Nat.le_of_ble_eq_true rfl) (Or.inr (Or.inr (Or.inl ⟨rfl, _, rfl⟩))) (fun Z hZ hB => rx_RT_rJ hZ hB) (by exact ⟨Or.inr rfl, Or.inl rfl, Or.inr rfl, Or.inl rfl, Or.inr rfl, Or.inl rfl, Or.inl rfl, Or.inl rfl, trivial⟩) (s_X0_mixedInPairs_0 (cc_X0_mixedInPairs F l G z) x0 x2 x4 h)).deep (by omega)
theorem w_X0_mixedInPairs (F : Nat × Nat) (l : Launch) (G : rx_G) {α : Type} {z : α} {as : List Value} {u : Option rx_H} {κ : rx_K α} (h : c_X0_mixedInPairs F as u κ = some z) : rx_Cw l G (3 + 0 * F.2) 20 as u κ z := by
  unfold c_X0_mixedInPairs at h
  split at h
  · obtain ⟨r, hr, h⟩ := Option.bind_eq_some_iff.mp h
    exact ⟨_, _, _, _, _, _, h, k_X0_mixedInPairs, fun _ => rfl, fun h => absurd rfl h, fun hf => m_X0_mixedInPairs F l G _ _ _ _ hr⟩
  · cases h
set_option maxRecDepth 100000 in
theorem k_X0_mixed : rx_Cal (rx_ny 19) prog_2_method_20_code 5 (some .long) (rx_kd 19) 3 := ⟨rx_in (i := 359) (by rfl) (by rfl), rx_in (i := 48) (by decide +kernel) (by decide +kernel), ⟨(by decide +kernel), (by decide +kernel), (by decide +kernel)⟩, Nat.le_of_ble_eq_true rfl, (by decide +kernel), fun _ => rx_in (i := 358) (by decide +kernel) (by decide +kernel), fun h => absurd h (by decide), fun h => absurd h (by decide)⟩
set_option maxRecDepth 100000 in
theorem tk_X0_mixed : (t_X0_mixed.all (rx_eok "SetHouse$Heap" prog_2_method_20_code 5 false false) && rx_adj t_X0_mixed) = true := by decide +kernel
theorem s_X0_mixed_65 {F : Nat × Nat} {l : Launch} {G : rx_G} {D : Nat} {hf : rx_H} {z : Int64} (hC : rx_CC l G D (C_X0_mixed F) z) (s0 : Int64) (s1 : Int64) (s2 : Int32) (h : f_X0_mixed_65 F s0 s1 s2 = some z) : rx_S l G ("SetHouse$Heap", prog_2_method_20_code, 5, false, false, D) hf hf rx_rJ z 65 [none, none, none, none, none] [.int s2, .long s1, .long s0] none := by
  rw [g_X0_mixed_65] at h
  refine rx_S_node (md := ("SetHouse$Heap", prog_2_method_20_code, 5, false, false, D)) tk_X0_mixed hC rx_m_rJ (fun t ls st u h => ?_) h
  unfold kk_X0_mixed_65 at h
  cases h
theorem s_X0_mixed_0 {F : Nat × Nat} {l : Launch} {G : rx_G} {D : Nat} {hf : rx_H} {z : Int64} (hC : rx_CC l G D (C_X0_mixed F) z) (x0 : Int64) (x2 : Int64) (x4 : Int32) (h : f_X0_mixed_0 F x0 x2 x4 = some z) : rx_S l G ("SetHouse$Heap", prog_2_method_20_code, 5, false, false, D) hf hf rx_rJ z 0 [some (.long x0), none, some (.long x2), none, some (.int x4)] [] none := by
  rw [g_X0_mixed_0] at h
  refine rx_S_node (md := ("SetHouse$Heap", prog_2_method_20_code, 5, false, false, D)) tk_X0_mixed hC rx_m_rJ (fun t ls st u h => ?_) h
  unfold kk_X0_mixed_0 at h
  rcases rx_rec_eq h with ⟨hb, h⟩ | ⟨hb, h⟩
  · have ht := Nat.eq_of_beq_eq_true hb
    subst ht
    unfold n_X0_mixed_65 at h
    split at h
    · exact (s_X0_mixed_65 hC _ _ _ h).le ⟨Or.inl rfl, Or.inl rfl, Or.inl rfl, Or.inl rfl, Or.inl rfl, trivial⟩
    · cases h
  cases h
theorem cc_X0_mixed (F : Nat × Nat) (l : Launch) (G : rx_G) {α : Type} (z : α) : rx_CC l G (3 + 0 * F.2) (C_X0_mixed F) z := by
  intro j as u κ h
  unfold C_X0_mixed at h
  rcases rx_rec_eq h with ⟨hb, h⟩ | ⟨hb, h⟩
  · have ht := Nat.eq_of_beq_eq_true hb
    subst ht
    exact (w_X0_mixedInPairs F l G h).deep (by omega)
  cases h
theorem m_X0_mixed (F : Nat × Nat) (l : Launch) (G : rx_G) (hf : rx_H) (x0 : Int64) (x2 : Int64) (x4 : Int32) {z : Int64} (h : f_X0_mixed F x0 x2 x4 = some z) : rx_Ok l G (4 + 0 * F.2) (rx_ny 19) prog_2_method_20_code 5 (some .long) [.long x0, .long x2, .int x4] hf (some (.long z)) hf := by
  have h := h
  unfold f_X0_mixed at h
  exact (rx_met (l := l) (G := G) (hf := hf) (as := [.long x0, .long x2, .int x4]) (r := (some (.long z))) (ls0 := [some (.long x0), none, some (.long x2), none, some (.int x4)]) (y := rx_ny 19) (D := (3 + 0 * F.2)) (ini := false) (bo := false) (u := none) (u' := none) k_X0_mixed (fun h => by cases h) (Nat.le_of_ble_eq_true rfl) (Or.inr (Or.inr (Or.inl ⟨rfl, _, rfl⟩))) (fun Z hZ hB => rx_RT_rJ hZ hB) (by exact ⟨Or.inr rfl, Or.inl rfl, Or.inr rfl, Or.inl rfl, Or.inr rfl, trivial⟩) (s_X0_mixed_0 (cc_X0_mixed F l G z) x0 x2 x4 h)).deep (by omega)
theorem w_X0_mixed (F : Nat × Nat) (l : Launch) (G : rx_G) {α : Type} {z : α} {as : List Value} {u : Option rx_H} {κ : rx_K α} (h : c_X0_mixed F as u κ = some z) : rx_Cw l G (4 + 0 * F.2) 19 as u κ z := by
  unfold c_X0_mixed at h
  split at h
  · obtain ⟨r, hr, h⟩ := Option.bind_eq_some_iff.mp h
    exact ⟨_, _, _, _, _, _, h, k_X0_mixed, fun _ => rfl, fun h => absurd rfl h, fun hf => m_X0_mixed F l G _ _ _ _ hr⟩
  · cases h
set_option maxRecDepth 100000 in
theorem k_X0_shatters : rx_Cal (rx_ny 27) prog_2_method_22_code 3 (some .boolean) (rx_kd 27) 2 := ⟨rx_in (i := 548) (by rfl) (by rfl), rx_in (i := 48) (by decide +kernel) (by decide +kernel), ⟨(by decide +kernel), (by decide +kernel), (by decide +kernel)⟩, Nat.le_of_ble_eq_true rfl, (by decide +kernel), fun _ => rx_in (i := 547) (by decide +kernel) (by decide +kernel), fun h => absurd h (by decide), fun h => absurd h (by decide)⟩
set_option maxRecDepth 100000 in
theorem tk_X0_shatters : (t_X0_shatters.all (rx_eok "SetHouse$Heap" prog_2_method_22_code 3 false true) && rx_adj t_X0_shatters) = true := by decide +kernel
theorem s_X0_shatters_0 {F : Nat × Nat} {l : Launch} {G : rx_G} {D : Nat} {hf : rx_H} {z : Int32} (hC : rx_CC l G D (C_X0_shatters F) z) (x0 : Int64) (x2 : Int32) (h : f_X0_shatters_0 F x0 x2 = some z) : rx_S l G ("SetHouse$Heap", prog_2_method_22_code, 3, false, true, D) hf hf rx_rI z 0 [some (.long x0), none, some (.int x2)] [] none := by
  rw [g_X0_shatters_0] at h
  refine rx_S_node (md := ("SetHouse$Heap", prog_2_method_22_code, 3, false, true, D)) tk_X0_shatters hC rx_m_rI (fun t ls st u h => ?_) h
  unfold kk_X0_shatters_0 at h
  cases h
theorem cc_X0_shatters (F : Nat × Nat) (l : Launch) (G : rx_G) {α : Type} (z : α) : rx_CC l G (2 + 0 * F.2) (C_X0_shatters F) z := by
  intro j as u κ h
  unfold C_X0_shatters at h
  rcases rx_rec_eq h with ⟨hb, h⟩ | ⟨hb, h⟩
  · have ht := Nat.eq_of_beq_eq_true hb
    subst ht
    exact (w_X0_cutTo F l G h).deep (by omega)
  rcases rx_rec_eq h with ⟨hb, h⟩ | ⟨hb, h⟩
  · have ht := Nat.eq_of_beq_eq_true hb
    subst ht
    exact (w_X0_within F l G h).deep (by omega)
  cases h
theorem m_X0_shatters (F : Nat × Nat) (l : Launch) (G : rx_G) (hf : rx_H) (x0 : Int64) (x2 : Int32) {z : Int32} (h : f_X0_shatters F x0 x2 = some z) : rx_Ok l G (3 + 0 * F.2) (rx_ny 27) prog_2_method_22_code 3 (some .boolean) [.long x0, .int x2] hf (some (.int z)) hf := by
  have h := h
  unfold f_X0_shatters at h
  exact (rx_met (l := l) (G := G) (hf := hf) (as := [.long x0, .int x2]) (r := (some (.int z))) (ls0 := [some (.long x0), none, some (.int x2)]) (y := rx_ny 27) (D := (2 + 0 * F.2)) (ini := false) (bo := true) (u := none) (u' := none) k_X0_shatters (fun h => by cases h) (Nat.le_of_ble_eq_true rfl) (Or.inr (Or.inl ⟨rfl, rfl, _, rfl⟩)) (fun Z hZ hB => rx_RT_rI hZ hB) (by exact ⟨Or.inr rfl, Or.inl rfl, Or.inr rfl, trivial⟩) (s_X0_shatters_0 (cc_X0_shatters F l G z) x0 x2 h)).deep (by omega)
theorem w_X0_shatters (F : Nat × Nat) (l : Launch) (G : rx_G) {α : Type} {z : α} {as : List Value} {u : Option rx_H} {κ : rx_K α} (h : c_X0_shatters F as u κ = some z) : rx_Cw l G (3 + 0 * F.2) 27 as u κ z := by
  unfold c_X0_shatters at h
  split at h
  · obtain ⟨r, hr, h⟩ := Option.bind_eq_some_iff.mp h
    exact ⟨_, _, _, _, _, _, h, k_X0_shatters, fun _ => rfl, fun h => absurd rfl h, fun hf => m_X0_shatters F l G _ _ _ hr⟩
  · cases h
set_option maxRecDepth 100000 in
theorem k_X0_moved : rx_Cal (rx_ny 22) prog_2_method_23_code 10 (some .long) (rx_kd 22) 3 := ⟨rx_in (i := 409) (by rfl) (by rfl), rx_in (i := 48) (by decide +kernel) (by decide +kernel), ⟨(by decide +kernel), (by decide +kernel), (by decide +kernel)⟩, Nat.le_of_ble_eq_true rfl, (by decide +kernel), fun _ => rx_in (i := 408) (by decide +kernel) (by decide +kernel), fun h => absurd h (by decide), fun h => absurd h (by decide)⟩
set_option maxRecDepth 100000 in
theorem tk_X0_moved : (t_X0_moved.all (rx_eok "SetHouse$Heap" prog_2_method_23_code 10 false false) && rx_adj t_X0_moved) = true := by decide +kernel
theorem s_X0_moved_0 {F : Nat × Nat} {l : Launch} {G : rx_G} {D : Nat} {hf : rx_H} {z : Int64} (hC : rx_CC l G D (C_X0_moved F) z) (x0 : Int64) (x2 : Int32) (x3 : Int32) (h : f_X0_moved_0 F x0 x2 x3 = some z) : rx_S l G ("SetHouse$Heap", prog_2_method_23_code, 10, false, false, D) hf hf rx_rJ z 0 [some (.long x0), none, some (.int x2), some (.int x3), none, none, none, none, none, none] [] none := by
  rw [g_X0_moved_0] at h
  refine rx_S_node (md := ("SetHouse$Heap", prog_2_method_23_code, 10, false, false, D)) tk_X0_moved hC rx_m_rJ (fun t ls st u h => ?_) h
  unfold kk_X0_moved_0 at h
  cases h
theorem cc_X0_moved (F : Nat × Nat) (l : Launch) (G : rx_G) {α : Type} (z : α) : rx_CC l G (1 + 0 * F.2) (C_X0_moved F) z := by
  intro j as u κ h
  unfold C_X0_moved at h
  rcases rx_rec_eq h with ⟨hb, h⟩ | ⟨hb, h⟩
  · have ht := Nat.eq_of_beq_eq_true hb
    subst ht
    exact (w_X0_lessThing F l G h).deep (by omega)
  rcases rx_rec_eq h with ⟨hb, h⟩ | ⟨hb, h⟩
  · have ht := Nat.eq_of_beq_eq_true hb
    subst ht
    exact (w_X0_moreThing F l G h).deep (by omega)
  cases h
theorem m_X0_moved (F : Nat × Nat) (l : Launch) (G : rx_G) (hf : rx_H) (x0 : Int64) (x2 : Int32) (x3 : Int32) {z : Int64} (h : f_X0_moved F x0 x2 x3 = some z) : rx_Ok l G (2 + 0 * F.2) (rx_ny 22) prog_2_method_23_code 10 (some .long) [.long x0, .int x2, .int x3] hf (some (.long z)) hf := by
  have h := h
  unfold f_X0_moved at h
  exact (rx_met (l := l) (G := G) (hf := hf) (as := [.long x0, .int x2, .int x3]) (r := (some (.long z))) (ls0 := [some (.long x0), none, some (.int x2), some (.int x3), none, none, none, none, none, none]) (y := rx_ny 22) (D := (1 + 0 * F.2)) (ini := false) (bo := false) (u := none) (u' := none) k_X0_moved (fun h => by cases h) (Nat.le_of_ble_eq_true rfl) (Or.inr (Or.inr (Or.inl ⟨rfl, _, rfl⟩))) (fun Z hZ hB => rx_RT_rJ hZ hB) (by exact ⟨Or.inr rfl, Or.inl rfl, Or.inr rfl, Or.inr rfl, Or.inl rfl, Or.inl rfl, Or.inl rfl, Or.inl rfl, Or.inl rfl, Or.inl rfl, trivial⟩) (s_X0_moved_0 (cc_X0_moved F l G z) x0 x2 x3 h)).deep (by omega)
theorem w_X0_moved (F : Nat × Nat) (l : Launch) (G : rx_G) {α : Type} {z : α} {as : List Value} {u : Option rx_H} {κ : rx_K α} (h : c_X0_moved F as u κ = some z) : rx_Cw l G (2 + 0 * F.2) 22 as u κ z := by
  unfold c_X0_moved at h
  split at h
  · obtain ⟨r, hr, h⟩ := Option.bind_eq_some_iff.mp h
    exact ⟨_, _, _, _, _, _, h, k_X0_moved, fun _ => rfl, fun h => absurd rfl h, fun hf => m_X0_moved F l G _ _ _ _ hr⟩
  · cases h
set_option maxRecDepth 100000 in
theorem k_X0_swapped : rx_Cal (rx_ny 29) prog_2_method_24_code 10 (some .long) (rx_kd 29) 3 := ⟨rx_in (i := 580) (by rfl) (by rfl), rx_in (i := 48) (by decide +kernel) (by decide +kernel), ⟨(by decide +kernel), (by decide +kernel), (by decide +kernel)⟩, Nat.le_of_ble_eq_true rfl, (by decide +kernel), fun _ => rx_in (i := 579) (by decide +kernel) (by decide +kernel), fun h => absurd h (by decide), fun h => absurd h (by decide)⟩
set_option maxRecDepth 100000 in
theorem tk_X0_swapped : (t_X0_swapped.all (rx_eok "SetHouse$Heap" prog_2_method_24_code 10 false false) && rx_adj t_X0_swapped) = true := by decide +kernel
theorem s_X0_swapped_0 {F : Nat × Nat} {l : Launch} {G : rx_G} {D : Nat} {hf : rx_H} {z : Int64} (hC : rx_CC l G D (C_X0_swapped F) z) (x0 : Int64) (x2 : Int32) (x3 : Int32) (h : f_X0_swapped_0 F x0 x2 x3 = some z) : rx_S l G ("SetHouse$Heap", prog_2_method_24_code, 10, false, false, D) hf hf rx_rJ z 0 [some (.long x0), none, some (.int x2), some (.int x3), none, none, none, none, none, none] [] none := by
  rw [g_X0_swapped_0] at h
  refine rx_S_node (md := ("SetHouse$Heap", prog_2_method_24_code, 10, false, false, D)) tk_X0_swapped hC rx_m_rJ (fun t ls st u h => ?_) h
  unfold kk_X0_swapped_0 at h
  cases h
theorem cc_X0_swapped (F : Nat × Nat) (l : Launch) (G : rx_G) {α : Type} (z : α) : rx_CC l G (1 + 0 * F.2) (C_X0_swapped F) z := by
  intro j as u κ h
  unfold C_X0_swapped at h
  rcases rx_rec_eq h with ⟨hb, h⟩ | ⟨hb, h⟩
  · have ht := Nat.eq_of_beq_eq_true hb
    subst ht
    exact (w_X0_lessThing F l G h).deep (by omega)
  rcases rx_rec_eq h with ⟨hb, h⟩ | ⟨hb, h⟩
  · have ht := Nat.eq_of_beq_eq_true hb
    subst ht
    exact (w_X0_moreThing F l G h).deep (by omega)
  cases h
theorem m_X0_swapped (F : Nat × Nat) (l : Launch) (G : rx_G) (hf : rx_H) (x0 : Int64) (x2 : Int32) (x3 : Int32) {z : Int64} (h : f_X0_swapped F x0 x2 x3 = some z) : rx_Ok l G (2 + 0 * F.2) (rx_ny 29) prog_2_method_24_code 10 (some .long) [.long x0, .int x2, .int x3] hf (some (.long z)) hf := by
  have h := h
  unfold f_X0_swapped at h
  exact (rx_met (l := l) (G := G) (hf := hf) (as := [.long x0, .int x2, .int x3]) (r := (some (.long z))) (ls0 := [some (.long x0), none, some (.int x2), some (.int x3), none, none, none, none, none, none]) (y := rx_ny 29) (D := (1 + 0 * F.2)) (ini := false) (bo := false) (u := none) (u' := none) k_X0_swapped (fun h => by cases h) (Nat.le_of_ble_eq_true rfl) (Or.inr (Or.inr (Or.inl ⟨rfl, _, rfl⟩))) (fun Z hZ hB => rx_RT_rJ hZ hB) (by exact ⟨Or.inr rfl, Or.inl rfl, Or.inr rfl, Or.inr rfl, Or.inl rfl, Or.inl rfl, Or.inl rfl, Or.inl rfl, Or.inl rfl, Or.inl rfl, trivial⟩) (s_X0_swapped_0 (cc_X0_swapped F l G z) x0 x2 x3 h)).deep (by omega)
theorem w_X0_swapped (F : Nat × Nat) (l : Launch) (G : rx_G) {α : Type} {z : α} {as : List Value} {u : Option rx_H} {κ : rx_K α} (h : c_X0_swapped F as u κ = some z) : rx_Cw l G (2 + 0 * F.2) 29 as u κ z := by
  unfold c_X0_swapped at h
  split at h
  · obtain ⟨r, hr, h⟩ := Option.bind_eq_some_iff.mp h
    exact ⟨_, _, _, _, _, _, h, k_X0_swapped, fun _ => rfl, fun h => absurd rfl h, fun hf => m_X0_swapped F l G _ _ _ _ hr⟩
  · cases h
set_option maxRecDepth 100000 in
theorem k_X1_hasNumber : rx_Cal (rx_ny 38) prog_3_method_2_code 1 (some .boolean) (rx_kd 38) 1 := ⟨rx_in (i := 168) (by rfl) (by rfl), rx_in (i := 47) (by decide +kernel) (by decide +kernel), ⟨(by decide +kernel), (by decide +kernel), (by decide +kernel)⟩, Nat.le_of_ble_eq_true rfl, (by decide +kernel), fun _ => rx_in (i := 167) (by decide +kernel) (by decide +kernel), fun h => absurd h (by decide), fun h => absurd h (by decide)⟩
set_option maxRecDepth 100000 in
theorem tk_X1_hasNumber : (t_X1_hasNumber.all (rx_eok "SetHouse$Kinds" prog_3_method_2_code 1 false true) && rx_adj t_X1_hasNumber) = true := by decide +kernel
theorem s_X1_hasNumber_0 {F : Nat × Nat} {l : Launch} {G : rx_G} {D : Nat} {hf : rx_H} {z : Int32} (hC : rx_CC l G D (C_X1_hasNumber F) z) (x0 : Int32) (h : f_X1_hasNumber_0 F x0 = some z) : rx_S l G ("SetHouse$Kinds", prog_3_method_2_code, 1, false, true, D) hf hf rx_rI z 0 [some (.int x0)] [] none := by
  rw [g_X1_hasNumber_0] at h
  refine rx_S_node (md := ("SetHouse$Kinds", prog_3_method_2_code, 1, false, true, D)) tk_X1_hasNumber hC rx_m_rI (fun t ls st u h => ?_) h
  unfold kk_X1_hasNumber_0 at h
  cases h
theorem cc_X1_hasNumber (F : Nat × Nat) (l : Launch) (G : rx_G) {α : Type} (z : α) : rx_CC l G (0 + 0 * F.2) (C_X1_hasNumber F) z := by
  intro j as u κ h
  unfold C_X1_hasNumber at h
  cases h
theorem m_X1_hasNumber (F : Nat × Nat) (l : Launch) (G : rx_G) (hf : rx_H) (x0 : Int32) {z : Int32} (h : f_X1_hasNumber F x0 = some z) : rx_Ok l G (1 + 0 * F.2) (rx_ny 38) prog_3_method_2_code 1 (some .boolean) [.int x0] hf (some (.int z)) hf := by
  have h := h
  unfold f_X1_hasNumber at h
  exact (rx_met (l := l) (G := G) (hf := hf) (as := [.int x0]) (r := (some (.int z))) (ls0 := [some (.int x0)]) (y := rx_ny 38) (D := (0 + 0 * F.2)) (ini := false) (bo := true) (u := none) (u' := none) k_X1_hasNumber (fun h => by cases h) (Nat.le_of_ble_eq_true rfl) (Or.inr (Or.inl ⟨rfl, rfl, _, rfl⟩)) (fun Z hZ hB => rx_RT_rI hZ hB) (by exact ⟨Or.inr rfl, trivial⟩) (s_X1_hasNumber_0 (cc_X1_hasNumber F l G z) x0 h)).deep (by omega)
theorem w_X1_hasNumber (F : Nat × Nat) (l : Launch) (G : rx_G) {α : Type} {z : α} {as : List Value} {u : Option rx_H} {κ : rx_K α} (h : c_X1_hasNumber F as u κ = some z) : rx_Cw l G (1 + 0 * F.2) 38 as u κ z := by
  unfold c_X1_hasNumber at h
  split at h
  · obtain ⟨r, hr, h⟩ := Option.bind_eq_some_iff.mp h
    exact ⟨_, _, _, _, _, _, h, k_X1_hasNumber, fun _ => rfl, fun h => absurd rfl h, fun hf => m_X1_hasNumber F l G _ _ hr⟩
  · cases h
set_option maxRecDepth 100000 in
theorem k_J6_bitCount_0f7a4 : rx_Cal (rx_ny 1) prog_13_method_49_code 1 (some .int) (rx_kd 1) 1 := ⟨rx_in (i := 108) (by rfl) (by rfl), rx_in (i := 44) (by decide +kernel) (by decide +kernel), ⟨(by decide +kernel), (by decide +kernel), (by decide +kernel)⟩, Nat.le_of_ble_eq_true rfl, (by decide +kernel), fun _ => rx_in (i := 107) (by decide +kernel) (by decide +kernel), fun h => absurd h (by decide), fun h => absurd h (by decide)⟩
set_option maxRecDepth 100000 in
theorem tk_J6_bitCount_0f7a4 : (t_J6_bitCount_0f7a4.all (rx_eok "java/lang/Integer" prog_13_method_49_code 1 false false) && rx_adj t_J6_bitCount_0f7a4) = true := by decide +kernel
theorem s_J6_bitCount_0f7a4_48 {F : Nat × Nat} {l : Launch} {G : rx_G} {D : Nat} {hf : rx_H} {z : Int32} (hC : rx_CC l G D (C_J6_bitCount_0f7a4 F) z) (x0 : Int32) (h : f_J6_bitCount_0f7a4_48 F x0 = some z) : rx_S l G ("java/lang/Integer", prog_13_method_49_code, 1, false, false, D) hf hf rx_rI z 48 [some (.int x0)] [] none := by
  rw [g_J6_bitCount_0f7a4_48] at h
  refine rx_S_node (md := ("java/lang/Integer", prog_13_method_49_code, 1, false, false, D)) tk_J6_bitCount_0f7a4 hC rx_m_rI (fun t ls st u h => ?_) h
  unfold kk_J6_bitCount_0f7a4_48 at h
  cases h
theorem s_J6_bitCount_0f7a4_41 {F : Nat × Nat} {l : Launch} {G : rx_G} {D : Nat} {hf : rx_H} {z : Int32} (hC : rx_CC l G D (C_J6_bitCount_0f7a4 F) z) (x0 : Int32) (h : f_J6_bitCount_0f7a4_41 F x0 = some z) : rx_S l G ("java/lang/Integer", prog_13_method_49_code, 1, false, false, D) hf hf rx_rI z 41 [some (.int x0)] [] none := by
  rw [g_J6_bitCount_0f7a4_41] at h
  refine rx_S_node (md := ("java/lang/Integer", prog_13_method_49_code, 1, false, false, D)) tk_J6_bitCount_0f7a4 hC rx_m_rI (fun t ls st u h => ?_) h
  unfold kk_J6_bitCount_0f7a4_41 at h
  rcases rx_rec_eq h with ⟨hb, h⟩ | ⟨hb, h⟩
  · have ht := Nat.eq_of_beq_eq_true hb
    subst ht
    unfold n_J6_bitCount_0f7a4_48 at h
    split at h
    · exact (s_J6_bitCount_0f7a4_48 hC _ h).le ⟨Or.inr rfl, trivial⟩
    · cases h
  cases h
theorem s_J6_bitCount_0f7a4_34 {F : Nat × Nat} {l : Launch} {G : rx_G} {D : Nat} {hf : rx_H} {z : Int32} (hC : rx_CC l G D (C_J6_bitCount_0f7a4 F) z) (x0 : Int32) (h : f_J6_bitCount_0f7a4_34 F x0 = some z) : rx_S l G ("java/lang/Integer", prog_13_method_49_code, 1, false, false, D) hf hf rx_rI z 34 [some (.int x0)] [] none := by
  rw [g_J6_bitCount_0f7a4_34] at h
  refine rx_S_node (md := ("java/lang/Integer", prog_13_method_49_code, 1, false, false, D)) tk_J6_bitCount_0f7a4 hC rx_m_rI (fun t ls st u h => ?_) h
  unfold kk_J6_bitCount_0f7a4_34 at h
  rcases rx_rec_eq h with ⟨hb, h⟩ | ⟨hb, h⟩
  · have ht := Nat.eq_of_beq_eq_true hb
    subst ht
    unfold n_J6_bitCount_0f7a4_41 at h
    split at h
    · exact (s_J6_bitCount_0f7a4_41 hC _ h).le ⟨Or.inr rfl, trivial⟩
    · cases h
  cases h
theorem s_J6_bitCount_0f7a4_24 {F : Nat × Nat} {l : Launch} {G : rx_G} {D : Nat} {hf : rx_H} {z : Int32} (hC : rx_CC l G D (C_J6_bitCount_0f7a4 F) z) (x0 : Int32) (h : f_J6_bitCount_0f7a4_24 F x0 = some z) : rx_S l G ("java/lang/Integer", prog_13_method_49_code, 1, false, false, D) hf hf rx_rI z 24 [some (.int x0)] [] none := by
  rw [g_J6_bitCount_0f7a4_24] at h
  refine rx_S_node (md := ("java/lang/Integer", prog_13_method_49_code, 1, false, false, D)) tk_J6_bitCount_0f7a4 hC rx_m_rI (fun t ls st u h => ?_) h
  unfold kk_J6_bitCount_0f7a4_24 at h
  rcases rx_rec_eq h with ⟨hb, h⟩ | ⟨hb, h⟩
  · have ht := Nat.eq_of_beq_eq_true hb
    subst ht
    unfold n_J6_bitCount_0f7a4_34 at h
    split at h
    · exact (s_J6_bitCount_0f7a4_34 hC _ h).le ⟨Or.inr rfl, trivial⟩
    · cases h
  cases h
theorem s_J6_bitCount_0f7a4_10 {F : Nat × Nat} {l : Launch} {G : rx_G} {D : Nat} {hf : rx_H} {z : Int32} (hC : rx_CC l G D (C_J6_bitCount_0f7a4 F) z) (x0 : Int32) (h : f_J6_bitCount_0f7a4_10 F x0 = some z) : rx_S l G ("java/lang/Integer", prog_13_method_49_code, 1, false, false, D) hf hf rx_rI z 10 [some (.int x0)] [] none := by
  rw [g_J6_bitCount_0f7a4_10] at h
  refine rx_S_node (md := ("java/lang/Integer", prog_13_method_49_code, 1, false, false, D)) tk_J6_bitCount_0f7a4 hC rx_m_rI (fun t ls st u h => ?_) h
  unfold kk_J6_bitCount_0f7a4_10 at h
  rcases rx_rec_eq h with ⟨hb, h⟩ | ⟨hb, h⟩
  · have ht := Nat.eq_of_beq_eq_true hb
    subst ht
    unfold n_J6_bitCount_0f7a4_24 at h
    split at h
    · exact (s_J6_bitCount_0f7a4_24 hC _ h).le ⟨Or.inr rfl, trivial⟩
    · cases h
  cases h
theorem s_J6_bitCount_0f7a4_0 {F : Nat × Nat} {l : Launch} {G : rx_G} {D : Nat} {hf : rx_H} {z : Int32} (hC : rx_CC l G D (C_J6_bitCount_0f7a4 F) z) (x0 : Int32) (h : f_J6_bitCount_0f7a4_0 F x0 = some z) : rx_S l G ("java/lang/Integer", prog_13_method_49_code, 1, false, false, D) hf hf rx_rI z 0 [some (.int x0)] [] none := by
  rw [g_J6_bitCount_0f7a4_0] at h
  refine rx_S_node (md := ("java/lang/Integer", prog_13_method_49_code, 1, false, false, D)) tk_J6_bitCount_0f7a4 hC rx_m_rI (fun t ls st u h => ?_) h
  unfold kk_J6_bitCount_0f7a4_0 at h
  rcases rx_rec_eq h with ⟨hb, h⟩ | ⟨hb, h⟩
  · have ht := Nat.eq_of_beq_eq_true hb
    subst ht
    unfold n_J6_bitCount_0f7a4_10 at h
    split at h
    · exact (s_J6_bitCount_0f7a4_10 hC _ h).le ⟨Or.inr rfl, trivial⟩
    · cases h
  cases h
theorem cc_J6_bitCount_0f7a4 (F : Nat × Nat) (l : Launch) (G : rx_G) {α : Type} (z : α) : rx_CC l G (0 + 0 * F.2) (C_J6_bitCount_0f7a4 F) z := by
  intro j as u κ h
  unfold C_J6_bitCount_0f7a4 at h
  cases h
theorem m_J6_bitCount_0f7a4 (F : Nat × Nat) (l : Launch) (G : rx_G) (hf : rx_H) (x0 : Int32) {z : Int32} (h : f_J6_bitCount_0f7a4 F x0 = some z) : rx_Ok l G (1 + 0 * F.2) (rx_ny 1) prog_13_method_49_code 1 (some .int) [.int x0] hf (some (.int z)) hf := by
  have h := h
  unfold f_J6_bitCount_0f7a4 at h
  exact (rx_met (l := l) (G := G) (hf := hf) (as := [.int x0]) (r := (some (.int z))) (ls0 := [some (.int x0)]) (y := rx_ny 1) (D := (0 + 0 * F.2)) (ini := false) (bo := false) (u := none) (u' := none) k_J6_bitCount_0f7a4 (fun h => by cases h) (Nat.le_of_ble_eq_true rfl) (Or.inl ⟨rfl, rfl, _, rfl⟩) (fun Z hZ hB => rx_RT_rI hZ hB) (by exact ⟨Or.inr rfl, trivial⟩) (s_J6_bitCount_0f7a4_0 (cc_J6_bitCount_0f7a4 F l G z) x0 h)).deep (by omega)
theorem w_J6_bitCount_0f7a4 (F : Nat × Nat) (l : Launch) (G : rx_G) {α : Type} {z : α} {as : List Value} {u : Option rx_H} {κ : rx_K α} (h : c_J6_bitCount_0f7a4 F as u κ = some z) : rx_Cw l G (1 + 0 * F.2) 1 as u κ z := by
  unfold c_J6_bitCount_0f7a4 at h
  split at h
  · obtain ⟨r, hr, h⟩ := Option.bind_eq_some_iff.mp h
    exact ⟨_, _, _, _, _, _, h, k_J6_bitCount_0f7a4, fun _ => rfl, fun h => absurd rfl h, fun hf => m_J6_bitCount_0f7a4 F l G _ _ hr⟩
  · cases h
set_option maxRecDepth 100000 in
theorem k_X1_firstFarFrom : rx_Cal (rx_ny 36) prog_3_method_6_code 5 (some .int) (rx_kd 36) 3 := ⟨rx_in (i := 243) (by rfl) (by rfl), rx_in (i := 47) (by decide +kernel) (by decide +kernel), ⟨(by decide +kernel), (by decide +kernel), (by decide +kernel)⟩, Nat.le_of_ble_eq_true rfl, (by decide +kernel), fun _ => rx_in (i := 242) (by decide +kernel) (by decide +kernel), fun h => absurd h (by decide), fun h => absurd h (by decide)⟩
set_option maxRecDepth 100000 in
theorem tk_X1_firstFarFrom : (t_X1_firstFarFrom.all (rx_eok "SetHouse$Kinds" prog_3_method_6_code 5 false false) && rx_adj t_X1_firstFarFrom) = true := by decide +kernel
theorem s_X1_firstFarFrom_7 {F : Nat × Nat} {l : Launch} {G : rx_G} {D : Nat} {hf : rx_H} {z : Int32} (hC : rx_CC l G D (C_X1_firstFarFrom F) z) : ∀ (f : Nat) (x0 : Int64) (x2 : Int32) (x3 : Int32) (x4 : Int32), f_X1_firstFarFrom_7 F f x0 x2 x3 x4 = some z → rx_S l G ("SetHouse$Kinds", prog_3_method_6_code, 5, false, false, D) hf hf rx_rI z 7 [some (.long x0), none, some (.int x2), some (.int x3), some (.int x4)] [] none := by
  intro f
  induction f with
  | zero =>
    intro x0 x2 x3 x4 h
    cases h
  | succ f ih =>
    intro x0 x2 x3 x4 h
    rw [g_X1_firstFarFrom_7] at h
    refine rx_S_node (md := ("SetHouse$Kinds", prog_3_method_6_code, 5, false, false, D)) tk_X1_firstFarFrom hC rx_m_rI (fun t ls st u h => ?_) h
    unfold kk_X1_firstFarFrom_7 at h
    rcases rx_rec_eq h with ⟨hb, h⟩ | ⟨hb, h⟩
    · have ht := Nat.eq_of_beq_eq_true hb
      subst ht
      unfold n_X1_firstFarFrom_7 at h
      split at h
      · exact (ih _ _ _ _ h).le ⟨Or.inr rfl, Or.inl rfl, Or.inr rfl, Or.inr rfl, Or.inr rfl, trivial⟩
      · cases h
    cases h
theorem s_X1_firstFarFrom_0 {F : Nat × Nat} {l : Launch} {G : rx_G} {D : Nat} {hf : rx_H} {z : Int32} (hC : rx_CC l G D (C_X1_firstFarFrom F) z) (x0 : Int64) (x2 : Int32) (x3 : Int32) (h : f_X1_firstFarFrom_0 F x0 x2 x3 = some z) : rx_S l G ("SetHouse$Kinds", prog_3_method_6_code, 5, false, false, D) hf hf rx_rI z 0 [some (.long x0), none, some (.int x2), some (.int x3), none] [] none := by
  rw [g_X1_firstFarFrom_0] at h
  refine rx_S_node (md := ("SetHouse$Kinds", prog_3_method_6_code, 5, false, false, D)) tk_X1_firstFarFrom hC rx_m_rI (fun t ls st u h => ?_) h
  unfold kk_X1_firstFarFrom_0 at h
  rcases rx_rec_eq h with ⟨hb, h⟩ | ⟨hb, h⟩
  · have ht := Nat.eq_of_beq_eq_true hb
    subst ht
    unfold n_X1_firstFarFrom_7 at h
    split at h
    · exact (s_X1_firstFarFrom_7 hC _ _ _ _ _ h).le ⟨Or.inr rfl, Or.inl rfl, Or.inr rfl, Or.inr rfl, Or.inr rfl, trivial⟩
    · cases h
  cases h
theorem cc_X1_firstFarFrom (F : Nat × Nat) (l : Launch) (G : rx_G) {α : Type} (z : α) : rx_CC l G (2 + 0 * F.2) (C_X1_firstFarFrom F) z := by
  intro j as u κ h
  unfold C_X1_firstFarFrom at h
  rcases rx_rec_eq h with ⟨hb, h⟩ | ⟨hb, h⟩
  · have ht := Nat.eq_of_beq_eq_true hb
    subst ht
    exact (w_J6_bitCount_0f7a4 F l G h).deep (by omega)
  rcases rx_rec_eq h with ⟨hb, h⟩ | ⟨hb, h⟩
  · have ht := Nat.eq_of_beq_eq_true hb
    subst ht
    exact (w_X0_next F l G h).deep (by omega)
  cases h
theorem m_X1_firstFarFrom (F : Nat × Nat) (l : Launch) (G : rx_G) (hf : rx_H) (x0 : Int64) (x2 : Int32) (x3 : Int32) {z : Int32} (h : f_X1_firstFarFrom F x0 x2 x3 = some z) : rx_Ok l G (3 + 0 * F.2) (rx_ny 36) prog_3_method_6_code 5 (some .int) [.long x0, .int x2, .int x3] hf (some (.int z)) hf := by
  have h := h
  unfold f_X1_firstFarFrom at h
  exact (rx_met (l := l) (G := G) (hf := hf) (as := [.long x0, .int x2, .int x3]) (r := (some (.int z))) (ls0 := [some (.long x0), none, some (.int x2), some (.int x3), none]) (y := rx_ny 36) (D := (2 + 0 * F.2)) (ini := false) (bo := false) (u := none) (u' := none) k_X1_firstFarFrom (fun h => by cases h) (Nat.le_of_ble_eq_true rfl) (Or.inl ⟨rfl, rfl, _, rfl⟩) (fun Z hZ hB => rx_RT_rI hZ hB) (by exact ⟨Or.inr rfl, Or.inl rfl, Or.inr rfl, Or.inr rfl, Or.inl rfl, trivial⟩) (s_X1_firstFarFrom_0 (cc_X1_firstFarFrom F l G z) x0 x2 x3 h)).deep (by omega)
theorem w_X1_firstFarFrom (F : Nat × Nat) (l : Launch) (G : rx_G) {α : Type} {z : α} {as : List Value} {u : Option rx_H} {κ : rx_K α} (h : c_X1_firstFarFrom F as u κ = some z) : rx_Cw l G (3 + 0 * F.2) 36 as u κ z := by
  unfold c_X1_firstFarFrom at h
  split at h
  · obtain ⟨r, hr, h⟩ := Option.bind_eq_some_iff.mp h
    exact ⟨_, _, _, _, _, _, h, k_X1_firstFarFrom, fun _ => rfl, fun h => absurd rfl h, fun hf => m_X1_firstFarFrom F l G _ _ _ _ hr⟩
  · cases h
set_option maxRecDepth 100000 in
theorem k_X1_meetClash : rx_Cal (rx_ny 41) prog_3_method_5_code 4 (some .int) (rx_kd 41) 3 := ⟨rx_in (i := 239) (by rfl) (by rfl), rx_in (i := 47) (by decide +kernel) (by decide +kernel), ⟨(by decide +kernel), (by decide +kernel), (by decide +kernel)⟩, Nat.le_of_ble_eq_true rfl, (by decide +kernel), fun _ => rx_in (i := 238) (by decide +kernel) (by decide +kernel), fun h => absurd h (by decide), fun h => absurd h (by decide)⟩
set_option maxRecDepth 100000 in
theorem tk_X1_meetClash : (t_X1_meetClash.all (rx_eok "SetHouse$Kinds" prog_3_method_5_code 4 false false) && rx_adj t_X1_meetClash) = true := by decide +kernel
theorem s_X1_meetClash_0 {F : Nat × Nat} {l : Launch} {G : rx_G} {D : Nat} {hf : rx_H} {z : Int32} (hC : rx_CC l G D (C_X1_meetClash F) z) (x0 : Int64) (x2 : Int32) (x3 : Int32) (h : f_X1_meetClash_0 F x0 x2 x3 = some z) : rx_S l G ("SetHouse$Kinds", prog_3_method_5_code, 4, false, false, D) hf hf rx_rI z 0 [some (.long x0), none, some (.int x2), some (.int x3)] [] none := by
  rw [g_X1_meetClash_0] at h
  refine rx_S_node (md := ("SetHouse$Kinds", prog_3_method_5_code, 4, false, false, D)) tk_X1_meetClash hC rx_m_rI (fun t ls st u h => ?_) h
  unfold kk_X1_meetClash_0 at h
  cases h
theorem cc_X1_meetClash (F : Nat × Nat) (l : Launch) (G : rx_G) {α : Type} (z : α) : rx_CC l G (3 + 0 * F.2) (C_X1_meetClash F) z := by
  intro j as u κ h
  unfold C_X1_meetClash at h
  rcases rx_rec_eq h with ⟨hb, h⟩ | ⟨hb, h⟩
  · have ht := Nat.eq_of_beq_eq_true hb
    subst ht
    exact (w_J6_bitCount_0f7a4 F l G h).deep (by omega)
  rcases rx_rec_eq h with ⟨hb, h⟩ | ⟨hb, h⟩
  · have ht := Nat.eq_of_beq_eq_true hb
    subst ht
    exact (w_X1_firstFarFrom F l G h).deep (by omega)
  cases h
theorem m_X1_meetClash (F : Nat × Nat) (l : Launch) (G : rx_G) (hf : rx_H) (x0 : Int64) (x2 : Int32) (x3 : Int32) {z : Int32} (h : f_X1_meetClash F x0 x2 x3 = some z) : rx_Ok l G (4 + 0 * F.2) (rx_ny 41) prog_3_method_5_code 4 (some .int) [.long x0, .int x2, .int x3] hf (some (.int z)) hf := by
  have h := h
  unfold f_X1_meetClash at h
  exact (rx_met (l := l) (G := G) (hf := hf) (as := [.long x0, .int x2, .int x3]) (r := (some (.int z))) (ls0 := [some (.long x0), none, some (.int x2), some (.int x3)]) (y := rx_ny 41) (D := (3 + 0 * F.2)) (ini := false) (bo := false) (u := none) (u' := none) k_X1_meetClash (fun h => by cases h) (Nat.le_of_ble_eq_true rfl) (Or.inl ⟨rfl, rfl, _, rfl⟩) (fun Z hZ hB => rx_RT_rI hZ hB) (by exact ⟨Or.inr rfl, Or.inl rfl, Or.inr rfl, Or.inr rfl, trivial⟩) (s_X1_meetClash_0 (cc_X1_meetClash F l G z) x0 x2 x3 h)).deep (by omega)
theorem w_X1_meetClash (F : Nat × Nat) (l : Launch) (G : rx_G) {α : Type} {z : α} {as : List Value} {u : Option rx_H} {κ : rx_K α} (h : c_X1_meetClash F as u κ = some z) : rx_Cw l G (4 + 0 * F.2) 41 as u κ z := by
  unfold c_X1_meetClash at h
  split at h
  · obtain ⟨r, hr, h⟩ := Option.bind_eq_some_iff.mp h
    exact ⟨_, _, _, _, _, _, h, k_X1_meetClash, fun _ => rfl, fun h => absurd rfl h, fun hf => m_X1_meetClash F l G _ _ _ _ hr⟩
  · cases h
set_option maxRecDepth 100000 in
theorem k_X1_pair : rx_Cal (rx_ny 43) prog_3_method_8_code 2 (some .int) (rx_kd 43) 2 := ⟨rx_in (i := 298) (by rfl) (by rfl), rx_in (i := 47) (by decide +kernel) (by decide +kernel), ⟨(by decide +kernel), (by decide +kernel), (by decide +kernel)⟩, Nat.le_of_ble_eq_true rfl, (by decide +kernel), fun _ => rx_in (i := 297) (by decide +kernel) (by decide +kernel), fun h => absurd h (by decide), fun h => absurd h (by decide)⟩
set_option maxRecDepth 100000 in
theorem tk_X1_pair : (t_X1_pair.all (rx_eok "SetHouse$Kinds" prog_3_method_8_code 2 false false) && rx_adj t_X1_pair) = true := by decide +kernel
theorem s_X1_pair_0 {F : Nat × Nat} {l : Launch} {G : rx_G} {D : Nat} {hf : rx_H} {z : Int32} (hC : rx_CC l G D (C_X1_pair F) z) (x0 : Int32) (x1 : Int32) (h : f_X1_pair_0 F x0 x1 = some z) : rx_S l G ("SetHouse$Kinds", prog_3_method_8_code, 2, false, false, D) hf hf rx_rI z 0 [some (.int x0), some (.int x1)] [] none := by
  rw [g_X1_pair_0] at h
  refine rx_S_node (md := ("SetHouse$Kinds", prog_3_method_8_code, 2, false, false, D)) tk_X1_pair hC rx_m_rI (fun t ls st u h => ?_) h
  unfold kk_X1_pair_0 at h
  cases h
theorem cc_X1_pair (F : Nat × Nat) (l : Launch) (G : rx_G) {α : Type} (z : α) : rx_CC l G (0 + 0 * F.2) (C_X1_pair F) z := by
  intro j as u κ h
  unfold C_X1_pair at h
  cases h
theorem m_X1_pair (F : Nat × Nat) (l : Launch) (G : rx_G) (hf : rx_H) (x0 : Int32) (x1 : Int32) {z : Int32} (h : f_X1_pair F x0 x1 = some z) : rx_Ok l G (1 + 0 * F.2) (rx_ny 43) prog_3_method_8_code 2 (some .int) [.int x0, .int x1] hf (some (.int z)) hf := by
  have h := h
  unfold f_X1_pair at h
  exact (rx_met (l := l) (G := G) (hf := hf) (as := [.int x0, .int x1]) (r := (some (.int z))) (ls0 := [some (.int x0), some (.int x1)]) (y := rx_ny 43) (D := (0 + 0 * F.2)) (ini := false) (bo := false) (u := none) (u' := none) k_X1_pair (fun h => by cases h) (Nat.le_of_ble_eq_true rfl) (Or.inl ⟨rfl, rfl, _, rfl⟩) (fun Z hZ hB => rx_RT_rI hZ hB) (by exact ⟨Or.inr rfl, Or.inr rfl, trivial⟩) (s_X1_pair_0 (cc_X1_pair F l G z) x0 x1 h)).deep (by omega)
theorem w_X1_pair (F : Nat × Nat) (l : Launch) (G : rx_G) {α : Type} {z : α} {as : List Value} {u : Option rx_H} {κ : rx_K α} (h : c_X1_pair F as u κ = some z) : rx_Cw l G (1 + 0 * F.2) 43 as u κ z := by
  unfold c_X1_pair at h
  split at h
  · obtain ⟨r, hr, h⟩ := Option.bind_eq_some_iff.mp h
    exact ⟨_, _, _, _, _, _, h, k_X1_pair, fun _ => rfl, fun h => absurd rfl h, fun hf => m_X1_pair F l G _ _ _ hr⟩
  · cases h
set_option maxRecDepth 100000 in
theorem k_X1_apartClash : rx_Cal (rx_ny 31) prog_3_method_9_code 4 (some .int) (rx_kd 31) 1 := ⟨rx_in (i := 295) (by rfl) (by rfl), rx_in (i := 47) (by decide +kernel) (by decide +kernel), ⟨(by decide +kernel), (by decide +kernel), (by decide +kernel)⟩, Nat.le_of_ble_eq_true rfl, (by decide +kernel), fun _ => rx_in (i := 294) (by decide +kernel) (by decide +kernel), fun h => absurd h (by decide), fun h => absurd h (by decide)⟩
set_option maxRecDepth 100000 in
theorem tk_X1_apartClash : (t_X1_apartClash.all (rx_eok "SetHouse$Kinds" prog_3_method_9_code 4 false false) && rx_adj t_X1_apartClash) = true := by decide +kernel
theorem s_X1_apartClash_6 {F : Nat × Nat} {l : Launch} {G : rx_G} {D : Nat} {hf : rx_H} {z : Int32} (hC : rx_CC l G D (C_X1_apartClash F) z) : ∀ (f : Nat) (x0 : Int64) (x2 : Int32), f_X1_apartClash_6 F f x0 x2 = some z → rx_S l G ("SetHouse$Kinds", prog_3_method_9_code, 4, false, false, D) hf hf rx_rI z 6 [some (.long x0), none, some (.int x2), none] [] none := by
  intro f
  induction f with
  | zero =>
    intro x0 x2 h
    cases h
  | succ f ih =>
    intro x0 x2 h
    rw [g_X1_apartClash_6] at h
    refine rx_S_node (md := ("SetHouse$Kinds", prog_3_method_9_code, 4, false, false, D)) tk_X1_apartClash hC rx_m_rI (fun t ls st u h => ?_) h
    unfold kk_X1_apartClash_6 at h
    rcases rx_rec_eq h with ⟨hb, h⟩ | ⟨hb, h⟩
    · have ht := Nat.eq_of_beq_eq_true hb
      subst ht
      unfold n_X1_apartClash_6 at h
      split at h
      · exact (ih _ _ h).le ⟨Or.inr rfl, Or.inl rfl, Or.inr rfl, Or.inl rfl, trivial⟩
      · cases h
    cases h
theorem s_X1_apartClash_0 {F : Nat × Nat} {l : Launch} {G : rx_G} {D : Nat} {hf : rx_H} {z : Int32} (hC : rx_CC l G D (C_X1_apartClash F) z) (x0 : Int64) (h : f_X1_apartClash_0 F x0 = some z) : rx_S l G ("SetHouse$Kinds", prog_3_method_9_code, 4, false, false, D) hf hf rx_rI z 0 [some (.long x0), none, none, none] [] none := by
  rw [g_X1_apartClash_0] at h
  refine rx_S_node (md := ("SetHouse$Kinds", prog_3_method_9_code, 4, false, false, D)) tk_X1_apartClash hC rx_m_rI (fun t ls st u h => ?_) h
  unfold kk_X1_apartClash_0 at h
  rcases rx_rec_eq h with ⟨hb, h⟩ | ⟨hb, h⟩
  · have ht := Nat.eq_of_beq_eq_true hb
    subst ht
    unfold n_X1_apartClash_6 at h
    split at h
    · exact (s_X1_apartClash_6 hC _ _ _ h).le ⟨Or.inr rfl, Or.inl rfl, Or.inr rfl, Or.inl rfl, trivial⟩
    · cases h
  cases h
theorem cc_X1_apartClash (F : Nat × Nat) (l : Launch) (G : rx_G) {α : Type} (z : α) : rx_CC l G (3 + 0 * F.2) (C_X1_apartClash F) z := by
  intro j as u κ h
  unfold C_X1_apartClash at h
  rcases rx_rec_eq h with ⟨hb, h⟩ | ⟨hb, h⟩
  · have ht := Nat.eq_of_beq_eq_true hb
    subst ht
    exact (w_X0_around F l G h).deep (by omega)
  rcases rx_rec_eq h with ⟨hb, h⟩ | ⟨hb, h⟩
  · have ht := Nat.eq_of_beq_eq_true hb
    subst ht
    exact (w_X0_leastOf F l G h).deep (by omega)
  rcases rx_rec_eq h with ⟨hb, h⟩ | ⟨hb, h⟩
  · have ht := Nat.eq_of_beq_eq_true hb
    subst ht
    exact (w_X0_next F l G h).deep (by omega)
  rcases rx_rec_eq h with ⟨hb, h⟩ | ⟨hb, h⟩
  · have ht := Nat.eq_of_beq_eq_true hb
    subst ht
    exact (w_X1_pair F l G h).deep (by omega)
  cases h
theorem m_X1_apartClash (F : Nat × Nat) (l : Launch) (G : rx_G) (hf : rx_H) (x0 : Int64) {z : Int32} (h : f_X1_apartClash F x0 = some z) : rx_Ok l G (4 + 0 * F.2) (rx_ny 31) prog_3_method_9_code 4 (some .int) [.long x0] hf (some (.int z)) hf := by
  have h := h
  unfold f_X1_apartClash at h
  exact (rx_met (l := l) (G := G) (hf := hf) (as := [.long x0]) (r := (some (.int z))) (ls0 := [some (.long x0), none, none, none]) (y := rx_ny 31) (D := (3 + 0 * F.2)) (ini := false) (bo := false) (u := none) (u' := none) k_X1_apartClash (fun h => by cases h) (Nat.le_of_ble_eq_true rfl) (Or.inl ⟨rfl, rfl, _, rfl⟩) (fun Z hZ hB => rx_RT_rI hZ hB) (by exact ⟨Or.inr rfl, Or.inl rfl, Or.inl rfl, Or.inl rfl, trivial⟩) (s_X1_apartClash_0 (cc_X1_apartClash F l G z) x0 h)).deep (by omega)
theorem w_X1_apartClash (F : Nat × Nat) (l : Launch) (G : rx_G) {α : Type} {z : α} {as : List Value} {u : Option rx_H} {κ : rx_K α} (h : c_X1_apartClash F as u κ = some z) : rx_Cw l G (4 + 0 * F.2) 31 as u κ z := by
  unfold c_X1_apartClash at h
  split at h
  · obtain ⟨r, hr, h⟩ := Option.bind_eq_some_iff.mp h
    exact ⟨_, _, _, _, _, _, h, k_X1_apartClash, fun _ => rfl, fun h => absurd rfl h, fun hf => m_X1_apartClash F l G _ _ hr⟩
  · cases h
set_option maxRecDepth 100000 in
theorem k_X1_downClash : rx_Cal (rx_ny 33) prog_3_method_11_code 4 (some .int) (rx_kd 33) 1 := ⟨rx_in (i := 305) (by rfl) (by rfl), rx_in (i := 47) (by decide +kernel) (by decide +kernel), ⟨(by decide +kernel), (by decide +kernel), (by decide +kernel)⟩, Nat.le_of_ble_eq_true rfl, (by decide +kernel), fun _ => rx_in (i := 304) (by decide +kernel) (by decide +kernel), fun h => absurd h (by decide), fun h => absurd h (by decide)⟩
set_option maxRecDepth 100000 in
theorem tk_X1_downClash : (t_X1_downClash.all (rx_eok "SetHouse$Kinds" prog_3_method_11_code 4 false false) && rx_adj t_X1_downClash) = true := by decide +kernel
theorem s_X1_downClash_6 {F : Nat × Nat} {l : Launch} {G : rx_G} {D : Nat} {hf : rx_H} {z : Int32} (hC : rx_CC l G D (C_X1_downClash F) z) : ∀ (f : Nat) (x0 : Int64) (x2 : Int32), f_X1_downClash_6 F f x0 x2 = some z → rx_S l G ("SetHouse$Kinds", prog_3_method_11_code, 4, false, false, D) hf hf rx_rI z 6 [some (.long x0), none, some (.int x2), none] [] none := by
  intro f
  induction f with
  | zero =>
    intro x0 x2 h
    cases h
  | succ f ih =>
    intro x0 x2 h
    rw [g_X1_downClash_6] at h
    refine rx_S_node (md := ("SetHouse$Kinds", prog_3_method_11_code, 4, false, false, D)) tk_X1_downClash hC rx_m_rI (fun t ls st u h => ?_) h
    unfold kk_X1_downClash_6 at h
    rcases rx_rec_eq h with ⟨hb, h⟩ | ⟨hb, h⟩
    · have ht := Nat.eq_of_beq_eq_true hb
      subst ht
      unfold n_X1_downClash_6 at h
      split at h
      · exact (ih _ _ h).le ⟨Or.inr rfl, Or.inl rfl, Or.inr rfl, Or.inl rfl, trivial⟩
      · cases h
    cases h
theorem s_X1_downClash_0 {F : Nat × Nat} {l : Launch} {G : rx_G} {D : Nat} {hf : rx_H} {z : Int32} (hC : rx_CC l G D (C_X1_downClash F) z) (x0 : Int64) (h : f_X1_downClash_0 F x0 = some z) : rx_S l G ("SetHouse$Kinds", prog_3_method_11_code, 4, false, false, D) hf hf rx_rI z 0 [some (.long x0), none, none, none] [] none := by
  rw [g_X1_downClash_0] at h
  refine rx_S_node (md := ("SetHouse$Kinds", prog_3_method_11_code, 4, false, false, D)) tk_X1_downClash hC rx_m_rI (fun t ls st u h => ?_) h
  unfold kk_X1_downClash_0 at h
  rcases rx_rec_eq h with ⟨hb, h⟩ | ⟨hb, h⟩
  · have ht := Nat.eq_of_beq_eq_true hb
    subst ht
    unfold n_X1_downClash_6 at h
    split at h
    · exact (s_X1_downClash_6 hC _ _ _ h).le ⟨Or.inr rfl, Or.inl rfl, Or.inr rfl, Or.inl rfl, trivial⟩
    · cases h
  cases h
theorem cc_X1_downClash (F : Nat × Nat) (l : Launch) (G : rx_G) {α : Type} (z : α) : rx_CC l G (3 + 0 * F.2) (C_X1_downClash F) z := by
  intro j as u κ h
  unfold C_X1_downClash at h
  rcases rx_rec_eq h with ⟨hb, h⟩ | ⟨hb, h⟩
  · have ht := Nat.eq_of_beq_eq_true hb
    subst ht
    exact (w_X0_leastOf F l G h).deep (by omega)
  rcases rx_rec_eq h with ⟨hb, h⟩ | ⟨hb, h⟩
  · have ht := Nat.eq_of_beq_eq_true hb
    subst ht
    exact (w_X0_next F l G h).deep (by omega)
  rcases rx_rec_eq h with ⟨hb, h⟩ | ⟨hb, h⟩
  · have ht := Nat.eq_of_beq_eq_true hb
    subst ht
    exact (w_X0_within F l G h).deep (by omega)
  rcases rx_rec_eq h with ⟨hb, h⟩ | ⟨hb, h⟩
  · have ht := Nat.eq_of_beq_eq_true hb
    subst ht
    exact (w_X1_pair F l G h).deep (by omega)
  cases h
theorem m_X1_downClash (F : Nat × Nat) (l : Launch) (G : rx_G) (hf : rx_H) (x0 : Int64) {z : Int32} (h : f_X1_downClash F x0 = some z) : rx_Ok l G (4 + 0 * F.2) (rx_ny 33) prog_3_method_11_code 4 (some .int) [.long x0] hf (some (.int z)) hf := by
  have h := h
  unfold f_X1_downClash at h
  exact (rx_met (l := l) (G := G) (hf := hf) (as := [.long x0]) (r := (some (.int z))) (ls0 := [some (.long x0), none, none, none]) (y := rx_ny 33) (D := (3 + 0 * F.2)) (ini := false) (bo := false) (u := none) (u' := none) k_X1_downClash (fun h => by cases h) (Nat.le_of_ble_eq_true rfl) (Or.inl ⟨rfl, rfl, _, rfl⟩) (fun Z hZ hB => rx_RT_rI hZ hB) (by exact ⟨Or.inr rfl, Or.inl rfl, Or.inl rfl, Or.inl rfl, trivial⟩) (s_X1_downClash_0 (cc_X1_downClash F l G z) x0 h)).deep (by omega)
theorem w_X1_downClash (F : Nat × Nat) (l : Launch) (G : rx_G) {α : Type} {z : α} {as : List Value} {u : Option rx_H} {κ : rx_K α} (h : c_X1_downClash F as u κ = some z) : rx_Cw l G (4 + 0 * F.2) 33 as u κ z := by
  unfold c_X1_downClash at h
  split at h
  · obtain ⟨r, hr, h⟩ := Option.bind_eq_some_iff.mp h
    exact ⟨_, _, _, _, _, _, h, k_X1_downClash, fun _ => rfl, fun h => absurd rfl h, fun hf => m_X1_downClash F l G _ _ hr⟩
  · cases h
set_option maxRecDepth 100000 in
theorem k_X1_layerClash : rx_Cal (rx_ny 40) prog_3_method_12_code 4 (some .int) (rx_kd 40) 2 := ⟨rx_in (i := 308) (by rfl) (by rfl), rx_in (i := 47) (by decide +kernel) (by decide +kernel), ⟨(by decide +kernel), (by decide +kernel), (by decide +kernel)⟩, Nat.le_of_ble_eq_true rfl, (by decide +kernel), fun _ => rx_in (i := 307) (by decide +kernel) (by decide +kernel), fun h => absurd h (by decide), fun h => absurd h (by decide)⟩
set_option maxRecDepth 100000 in
theorem tk_X1_layerClash : (t_X1_layerClash.all (rx_eok "SetHouse$Kinds" prog_3_method_12_code 4 false false) && rx_adj t_X1_layerClash) = true := by decide +kernel
theorem s_X1_layerClash_6 {F : Nat × Nat} {l : Launch} {G : rx_G} {D : Nat} {hf : rx_H} {z : Int32} (hC : rx_CC l G D (C_X1_layerClash F) z) : ∀ (f : Nat) (x0 : Int64) (x2 : Int32) (x3 : Int32), f_X1_layerClash_6 F f x0 x2 x3 = some z → rx_S l G ("SetHouse$Kinds", prog_3_method_12_code, 4, false, false, D) hf hf rx_rI z 6 [some (.long x0), none, some (.int x2), some (.int x3)] [] none := by
  intro f
  induction f with
  | zero =>
    intro x0 x2 x3 h
    cases h
  | succ f ih =>
    intro x0 x2 x3 h
    rw [g_X1_layerClash_6] at h
    refine rx_S_node (md := ("SetHouse$Kinds", prog_3_method_12_code, 4, false, false, D)) tk_X1_layerClash hC rx_m_rI (fun t ls st u h => ?_) h
    unfold kk_X1_layerClash_6 at h
    rcases rx_rec_eq h with ⟨hb, h⟩ | ⟨hb, h⟩
    · have ht := Nat.eq_of_beq_eq_true hb
      subst ht
      unfold n_X1_layerClash_6 at h
      split at h
      · exact (ih _ _ _ h).le ⟨Or.inr rfl, Or.inl rfl, Or.inr rfl, Or.inr rfl, trivial⟩
      · cases h
    cases h
theorem s_X1_layerClash_0 {F : Nat × Nat} {l : Launch} {G : rx_G} {D : Nat} {hf : rx_H} {z : Int32} (hC : rx_CC l G D (C_X1_layerClash F) z) (x0 : Int64) (x2 : Int32) (h : f_X1_layerClash_0 F x0 x2 = some z) : rx_S l G ("SetHouse$Kinds", prog_3_method_12_code, 4, false, false, D) hf hf rx_rI z 0 [some (.long x0), none, some (.int x2), none] [] none := by
  rw [g_X1_layerClash_0] at h
  refine rx_S_node (md := ("SetHouse$Kinds", prog_3_method_12_code, 4, false, false, D)) tk_X1_layerClash hC rx_m_rI (fun t ls st u h => ?_) h
  unfold kk_X1_layerClash_0 at h
  rcases rx_rec_eq h with ⟨hb, h⟩ | ⟨hb, h⟩
  · have ht := Nat.eq_of_beq_eq_true hb
    subst ht
    unfold n_X1_layerClash_6 at h
    split at h
    · exact (s_X1_layerClash_6 hC _ _ _ _ h).le ⟨Or.inr rfl, Or.inl rfl, Or.inr rfl, Or.inr rfl, trivial⟩
    · cases h
  cases h
theorem cc_X1_layerClash (F : Nat × Nat) (l : Launch) (G : rx_G) {α : Type} (z : α) : rx_CC l G (2 + 0 * F.2) (C_X1_layerClash F) z := by
  intro j as u κ h
  unfold C_X1_layerClash at h
  rcases rx_rec_eq h with ⟨hb, h⟩ | ⟨hb, h⟩
  · have ht := Nat.eq_of_beq_eq_true hb
    subst ht
    exact (w_J6_bitCount_0f7a4 F l G h).deep (by omega)
  rcases rx_rec_eq h with ⟨hb, h⟩ | ⟨hb, h⟩
  · have ht := Nat.eq_of_beq_eq_true hb
    subst ht
    exact (w_X0_next F l G h).deep (by omega)
  rcases rx_rec_eq h with ⟨hb, h⟩ | ⟨hb, h⟩
  · have ht := Nat.eq_of_beq_eq_true hb
    subst ht
    exact (w_X1_pair F l G h).deep (by omega)
  cases h
theorem m_X1_layerClash (F : Nat × Nat) (l : Launch) (G : rx_G) (hf : rx_H) (x0 : Int64) (x2 : Int32) {z : Int32} (h : f_X1_layerClash F x0 x2 = some z) : rx_Ok l G (3 + 0 * F.2) (rx_ny 40) prog_3_method_12_code 4 (some .int) [.long x0, .int x2] hf (some (.int z)) hf := by
  have h := h
  unfold f_X1_layerClash at h
  exact (rx_met (l := l) (G := G) (hf := hf) (as := [.long x0, .int x2]) (r := (some (.int z))) (ls0 := [some (.long x0), none, some (.int x2), none]) (y := rx_ny 40) (D := (2 + 0 * F.2)) (ini := false) (bo := false) (u := none) (u' := none) k_X1_layerClash (fun h => by cases h) (Nat.le_of_ble_eq_true rfl) (Or.inl ⟨rfl, rfl, _, rfl⟩) (fun Z hZ hB => rx_RT_rI hZ hB) (by exact ⟨Or.inr rfl, Or.inl rfl, Or.inr rfl, Or.inl rfl, trivial⟩) (s_X1_layerClash_0 (cc_X1_layerClash F l G z) x0 x2 h)).deep (by omega)
theorem w_X1_layerClash (F : Nat × Nat) (l : Launch) (G : rx_G) {α : Type} {z : α} {as : List Value} {u : Option rx_H} {κ : rx_K α} (h : c_X1_layerClash F as u κ = some z) : rx_Cw l G (3 + 0 * F.2) 40 as u κ z := by
  unfold c_X1_layerClash at h
  split at h
  · obtain ⟨r, hr, h⟩ := Option.bind_eq_some_iff.mp h
    exact ⟨_, _, _, _, _, _, h, k_X1_layerClash, fun _ => rfl, fun h => absurd rfl h, fun hf => m_X1_layerClash F l G _ _ _ hr⟩
  · cases h
set_option maxRecDepth 100000 in
theorem k_X1_meetingClash : rx_Cal (rx_ny 42) prog_3_method_10_code 5 (some .int) (rx_kd 42) 2 := ⟨rx_in (i := 301) (by rfl) (by rfl), rx_in (i := 47) (by decide +kernel) (by decide +kernel), ⟨(by decide +kernel), (by decide +kernel), (by decide +kernel)⟩, Nat.le_of_ble_eq_true rfl, (by decide +kernel), fun _ => rx_in (i := 300) (by decide +kernel) (by decide +kernel), fun h => absurd h (by decide), fun h => absurd h (by decide)⟩
set_option maxRecDepth 100000 in
theorem tk_X1_meetingClash : (t_X1_meetingClash.all (rx_eok "SetHouse$Kinds" prog_3_method_10_code 5 false false) && rx_adj t_X1_meetingClash) = true := by decide +kernel
theorem s_X1_meetingClash_6 {F : Nat × Nat} {l : Launch} {G : rx_G} {D : Nat} {hf : rx_H} {z : Int32} (hC : rx_CC l G D (C_X1_meetingClash F) z) : ∀ (f : Nat) (x0 : Int64) (x2 : Int32) (x3 : Int32), f_X1_meetingClash_6 F f x0 x2 x3 = some z → rx_S l G ("SetHouse$Kinds", prog_3_method_10_code, 5, false, false, D) hf hf rx_rI z 6 [some (.long x0), none, some (.int x2), some (.int x3), none] [] none := by
  intro f
  induction f with
  | zero =>
    intro x0 x2 x3 h
    cases h
  | succ f ih =>
    intro x0 x2 x3 h
    rw [g_X1_meetingClash_6] at h
    refine rx_S_node (md := ("SetHouse$Kinds", prog_3_method_10_code, 5, false, false, D)) tk_X1_meetingClash hC rx_m_rI (fun t ls st u h => ?_) h
    unfold kk_X1_meetingClash_6 at h
    rcases rx_rec_eq h with ⟨hb, h⟩ | ⟨hb, h⟩
    · have ht := Nat.eq_of_beq_eq_true hb
      subst ht
      unfold n_X1_meetingClash_6 at h
      split at h
      · exact (ih _ _ _ h).le ⟨Or.inr rfl, Or.inl rfl, Or.inr rfl, Or.inr rfl, Or.inl rfl, trivial⟩
      · cases h
    cases h
theorem s_X1_meetingClash_0 {F : Nat × Nat} {l : Launch} {G : rx_G} {D : Nat} {hf : rx_H} {z : Int32} (hC : rx_CC l G D (C_X1_meetingClash F) z) (x0 : Int64) (x2 : Int32) (h : f_X1_meetingClash_0 F x0 x2 = some z) : rx_S l G ("SetHouse$Kinds", prog_3_method_10_code, 5, false, false, D) hf hf rx_rI z 0 [some (.long x0), none, some (.int x2), none, none] [] none := by
  rw [g_X1_meetingClash_0] at h
  refine rx_S_node (md := ("SetHouse$Kinds", prog_3_method_10_code, 5, false, false, D)) tk_X1_meetingClash hC rx_m_rI (fun t ls st u h => ?_) h
  unfold kk_X1_meetingClash_0 at h
  rcases rx_rec_eq h with ⟨hb, h⟩ | ⟨hb, h⟩
  · have ht := Nat.eq_of_beq_eq_true hb
    subst ht
    unfold n_X1_meetingClash_6 at h
    split at h
    · exact (s_X1_meetingClash_6 hC _ _ _ _ h).le ⟨Or.inr rfl, Or.inl rfl, Or.inr rfl, Or.inr rfl, Or.inl rfl, trivial⟩
    · cases h
  cases h
theorem cc_X1_meetingClash (F : Nat × Nat) (l : Launch) (G : rx_G) {α : Type} (z : α) : rx_CC l G (4 + 0 * F.2) (C_X1_meetingClash F) z := by
  intro j as u κ h
  unfold C_X1_meetingClash at h
  rcases rx_rec_eq h with ⟨hb, h⟩ | ⟨hb, h⟩
  · have ht := Nat.eq_of_beq_eq_true hb
    subst ht
    exact (w_X0_below F l G h).deep (by omega)
  rcases rx_rec_eq h with ⟨hb, h⟩ | ⟨hb, h⟩
  · have ht := Nat.eq_of_beq_eq_true hb
    subst ht
    exact (w_X0_next F l G h).deep (by omega)
  rcases rx_rec_eq h with ⟨hb, h⟩ | ⟨hb, h⟩
  · have ht := Nat.eq_of_beq_eq_true hb
    subst ht
    exact (w_X1_meetClash F l G h).deep (by omega)
  rcases rx_rec_eq h with ⟨hb, h⟩ | ⟨hb, h⟩
  · have ht := Nat.eq_of_beq_eq_true hb
    subst ht
    exact (w_X1_pair F l G h).deep (by omega)
  cases h
theorem m_X1_meetingClash (F : Nat × Nat) (l : Launch) (G : rx_G) (hf : rx_H) (x0 : Int64) (x2 : Int32) {z : Int32} (h : f_X1_meetingClash F x0 x2 = some z) : rx_Ok l G (5 + 0 * F.2) (rx_ny 42) prog_3_method_10_code 5 (some .int) [.long x0, .int x2] hf (some (.int z)) hf := by
  have h := h
  unfold f_X1_meetingClash at h
  exact (rx_met (l := l) (G := G) (hf := hf) (as := [.long x0, .int x2]) (r := (some (.int z))) (ls0 := [some (.long x0), none, some (.int x2), none, none]) (y := rx_ny 42) (D := (4 + 0 * F.2)) (ini := false) (bo := false) (u := none) (u' := none) k_X1_meetingClash (fun h => by cases h) (Nat.le_of_ble_eq_true rfl) (Or.inl ⟨rfl, rfl, _, rfl⟩) (fun Z hZ hB => rx_RT_rI hZ hB) (by exact ⟨Or.inr rfl, Or.inl rfl, Or.inr rfl, Or.inl rfl, Or.inl rfl, trivial⟩) (s_X1_meetingClash_0 (cc_X1_meetingClash F l G z) x0 x2 h)).deep (by omega)
theorem w_X1_meetingClash (F : Nat × Nat) (l : Launch) (G : rx_G) {α : Type} {z : α} {as : List Value} {u : Option rx_H} {κ : rx_K α} (h : c_X1_meetingClash F as u κ = some z) : rx_Cw l G (5 + 0 * F.2) 42 as u κ z := by
  unfold c_X1_meetingClash at h
  split at h
  · obtain ⟨r, hr, h⟩ := Option.bind_eq_some_iff.mp h
    exact ⟨_, _, _, _, _, _, h, k_X1_meetingClash, fun _ => rfl, fun h => absurd rfl h, fun hf => m_X1_meetingClash F l G _ _ _ hr⟩
  · cases h
set_option maxRecDepth 100000 in
theorem k_X1_familyClash : rx_Cal (rx_ny 35) prog_3_method_7_code 4 (some .int) (rx_kd 35) 3 := ⟨rx_in (i := 292) (by rfl) (by rfl), rx_in (i := 47) (by decide +kernel) (by decide +kernel), ⟨(by decide +kernel), (by decide +kernel), (by decide +kernel)⟩, Nat.le_of_ble_eq_true rfl, (by decide +kernel), fun _ => rx_in (i := 291) (by decide +kernel) (by decide +kernel), fun h => absurd h (by decide), fun h => absurd h (by decide)⟩
set_option maxRecDepth 100000 in
theorem tk_X1_familyClash : (t_X1_familyClash.all (rx_eok "SetHouse$Kinds" prog_3_method_7_code 4 false false) && rx_adj t_X1_familyClash) = true := by decide +kernel
theorem s_X1_familyClash_0 {F : Nat × Nat} {l : Launch} {G : rx_G} {D : Nat} {hf : rx_H} {z : Int32} (hC : rx_CC l G D (C_X1_familyClash F) z) (x0 : Int64) (x2 : Int32) (x3 : Int32) (h : f_X1_familyClash_0 F x0 x2 x3 = some z) : rx_S l G ("SetHouse$Kinds", prog_3_method_7_code, 4, false, false, D) hf hf rx_rI z 0 [some (.long x0), none, some (.int x2), some (.int x3)] [] none := by
  rw [g_X1_familyClash_0] at h
  refine rx_S_node (md := ("SetHouse$Kinds", prog_3_method_7_code, 4, false, false, D)) tk_X1_familyClash hC rx_m_rI (fun t ls st u h => ?_) h
  unfold kk_X1_familyClash_0 at h
  cases h
theorem cc_X1_familyClash (F : Nat × Nat) (l : Launch) (G : rx_G) {α : Type} (z : α) : rx_CC l G (5 + 0 * F.2) (C_X1_familyClash F) z := by
  intro j as u κ h
  unfold C_X1_familyClash at h
  rcases rx_rec_eq h with ⟨hb, h⟩ | ⟨hb, h⟩
  · have ht := Nat.eq_of_beq_eq_true hb
    subst ht
    exact (w_X1_apartClash F l G h).deep (by omega)
  rcases rx_rec_eq h with ⟨hb, h⟩ | ⟨hb, h⟩
  · have ht := Nat.eq_of_beq_eq_true hb
    subst ht
    exact (w_X1_downClash F l G h).deep (by omega)
  rcases rx_rec_eq h with ⟨hb, h⟩ | ⟨hb, h⟩
  · have ht := Nat.eq_of_beq_eq_true hb
    subst ht
    exact (w_X1_layerClash F l G h).deep (by omega)
  rcases rx_rec_eq h with ⟨hb, h⟩ | ⟨hb, h⟩
  · have ht := Nat.eq_of_beq_eq_true hb
    subst ht
    exact (w_X1_meetingClash F l G h).deep (by omega)
  cases h
theorem m_X1_familyClash (F : Nat × Nat) (l : Launch) (G : rx_G) (hf : rx_H) (x0 : Int64) (x2 : Int32) (x3 : Int32) {z : Int32} (h : f_X1_familyClash F x0 x2 x3 = some z) : rx_Ok l G (6 + 0 * F.2) (rx_ny 35) prog_3_method_7_code 4 (some .int) [.long x0, .int x2, .int x3] hf (some (.int z)) hf := by
  have h := h
  unfold f_X1_familyClash at h
  exact (rx_met (l := l) (G := G) (hf := hf) (as := [.long x0, .int x2, .int x3]) (r := (some (.int z))) (ls0 := [some (.long x0), none, some (.int x2), some (.int x3)]) (y := rx_ny 35) (D := (5 + 0 * F.2)) (ini := false) (bo := false) (u := none) (u' := none) k_X1_familyClash (fun h => by cases h) (Nat.le_of_ble_eq_true rfl) (Or.inl ⟨rfl, rfl, _, rfl⟩) (fun Z hZ hB => rx_RT_rI hZ hB) (by exact ⟨Or.inr rfl, Or.inl rfl, Or.inr rfl, Or.inr rfl, trivial⟩) (s_X1_familyClash_0 (cc_X1_familyClash F l G z) x0 x2 x3 h)).deep (by omega)
theorem w_X1_familyClash (F : Nat × Nat) (l : Launch) (G : rx_G) {α : Type} {z : α} {as : List Value} {u : Option rx_H} {κ : rx_K α} (h : c_X1_familyClash F as u κ = some z) : rx_Cw l G (6 + 0 * F.2) 35 as u κ z := by
  unfold c_X1_familyClash at h
  split at h
  · obtain ⟨r, hr, h⟩ := Option.bind_eq_some_iff.mp h
    exact ⟨_, _, _, _, _, _, h, k_X1_familyClash, fun _ => rfl, fun h => absurd rfl h, fun hf => m_X1_familyClash F l G _ _ _ _ hr⟩
  · cases h
set_option maxRecDepth 100000 in
theorem k_X2_factorial : rx_Cal (rx_ny 48) prog_4_method_2_code 1 (some .int) (rx_kd 48) 1 := ⟨rx_in (i := 425) (by rfl) (by rfl), rx_in (i := 51) (by decide +kernel) (by decide +kernel), ⟨(by decide +kernel), (by decide +kernel), (by decide +kernel)⟩, Nat.le_of_ble_eq_true rfl, (by decide +kernel), fun _ => rx_in (i := 424) (by decide +kernel) (by decide +kernel), fun h => absurd h (by decide), fun h => absurd h (by decide)⟩
set_option maxRecDepth 100000 in
theorem tk_X2_factorial : (t_X2_factorial.all (rx_eok "SetHouse$Numbers" prog_4_method_2_code 1 false false) && rx_adj t_X2_factorial) = true := by decide +kernel
theorem s_X2_factorial_0 {F : Nat × Nat} {l : Launch} {G : rx_G} {D : Nat} {hf : rx_H} {z : Int32} (hC : rx_CC l G D (C_X2_factorial F) z) (x0 : Int32) (h : f_X2_factorial_0 F x0 = some z) : rx_S l G ("SetHouse$Numbers", prog_4_method_2_code, 1, false, false, D) hf hf rx_rI z 0 [some (.int x0)] [] none := by
  rw [g_X2_factorial_0] at h
  refine rx_S_node (md := ("SetHouse$Numbers", prog_4_method_2_code, 1, false, false, D)) tk_X2_factorial hC rx_m_rI (fun t ls st u h => ?_) h
  unfold kk_X2_factorial_0 at h
  cases h
theorem cc_X2_factorial (F : Nat × Nat) (l : Launch) (G : rx_G) {α : Type} (z : α) : rx_CC l G (0 + 0 * F.2) (C_X2_factorial F) z := by
  intro j as u κ h
  unfold C_X2_factorial at h
  cases h
theorem m_X2_factorial (F : Nat × Nat) (l : Launch) (G : rx_G) (hf : rx_H) (x0 : Int32) {z : Int32} (h : f_X2_factorial F x0 = some z) : rx_Ok l G (1 + 0 * F.2) (rx_ny 48) prog_4_method_2_code 1 (some .int) [.int x0] hf (some (.int z)) hf := by
  have h := h
  unfold f_X2_factorial at h
  exact (rx_met (l := l) (G := G) (hf := hf) (as := [.int x0]) (r := (some (.int z))) (ls0 := [some (.int x0)]) (y := rx_ny 48) (D := (0 + 0 * F.2)) (ini := false) (bo := false) (u := none) (u' := none) k_X2_factorial (fun h => by cases h) (Nat.le_of_ble_eq_true rfl) (Or.inl ⟨rfl, rfl, _, rfl⟩) (fun Z hZ hB => rx_RT_rI hZ hB) (by exact ⟨Or.inr rfl, trivial⟩) (s_X2_factorial_0 (cc_X2_factorial F l G z) x0 h)).deep (by omega)
theorem w_X2_factorial (F : Nat × Nat) (l : Launch) (G : rx_G) {α : Type} {z : α} {as : List Value} {u : Option rx_H} {κ : rx_K α} (h : c_X2_factorial F as u κ = some z) : rx_Cw l G (1 + 0 * F.2) 48 as u κ z := by
  unfold c_X2_factorial at h
  split at h
  · obtain ⟨r, hr, h⟩ := Option.bind_eq_some_iff.mp h
    exact ⟨_, _, _, _, _, _, h, k_X2_factorial, fun _ => rfl, fun h => absurd rfl h, fun hf => m_X2_factorial F l G _ _ hr⟩
  · cases h
set_option maxRecDepth 100000 in
theorem k_X2_power : rx_Cal (rx_ny 51) prog_4_method_3_code 5 (some .long) (rx_kd 51) 2 := ⟨rx_in (i := 479) (by rfl) (by rfl), rx_in (i := 51) (by decide +kernel) (by decide +kernel), ⟨(by decide +kernel), (by decide +kernel), (by decide +kernel)⟩, Nat.le_of_ble_eq_true rfl, (by decide +kernel), fun _ => rx_in (i := 478) (by decide +kernel) (by decide +kernel), fun h => absurd h (by decide), fun h => absurd h (by decide)⟩
set_option maxRecDepth 100000 in
theorem tk_X2_power : (t_X2_power.all (rx_eok "SetHouse$Numbers" prog_4_method_3_code 5 false false) && rx_adj t_X2_power) = true := by decide +kernel
theorem s_X2_power_5 {F : Nat × Nat} {l : Launch} {G : rx_G} {D : Nat} {hf : rx_H} {z : Int64} (hC : rx_CC l G D (C_X2_power F) z) : ∀ (f : Nat) (x0 : Int32) (x1 : Int32) (x2 : Int64) (x4 : Int32), f_X2_power_5 F f x0 x1 x2 x4 = some z → rx_S l G ("SetHouse$Numbers", prog_4_method_3_code, 5, false, false, D) hf hf rx_rJ z 5 [some (.int x0), some (.int x1), some (.long x2), none, some (.int x4)] [] none := by
  intro f
  induction f with
  | zero =>
    intro x0 x1 x2 x4 h
    cases h
  | succ f ih =>
    intro x0 x1 x2 x4 h
    rw [g_X2_power_5] at h
    refine rx_S_node (md := ("SetHouse$Numbers", prog_4_method_3_code, 5, false, false, D)) tk_X2_power hC rx_m_rJ (fun t ls st u h => ?_) h
    unfold kk_X2_power_5 at h
    rcases rx_rec_eq h with ⟨hb, h⟩ | ⟨hb, h⟩
    · have ht := Nat.eq_of_beq_eq_true hb
      subst ht
      unfold n_X2_power_5 at h
      split at h
      · exact (ih _ _ _ _ h).le ⟨Or.inr rfl, Or.inr rfl, Or.inr rfl, Or.inl rfl, Or.inr rfl, trivial⟩
      · cases h
    cases h
theorem s_X2_power_0 {F : Nat × Nat} {l : Launch} {G : rx_G} {D : Nat} {hf : rx_H} {z : Int64} (hC : rx_CC l G D (C_X2_power F) z) (x0 : Int32) (x1 : Int32) (h : f_X2_power_0 F x0 x1 = some z) : rx_S l G ("SetHouse$Numbers", prog_4_method_3_code, 5, false, false, D) hf hf rx_rJ z 0 [some (.int x0), some (.int x1), none, none, none] [] none := by
  rw [g_X2_power_0] at h
  refine rx_S_node (md := ("SetHouse$Numbers", prog_4_method_3_code, 5, false, false, D)) tk_X2_power hC rx_m_rJ (fun t ls st u h => ?_) h
  unfold kk_X2_power_0 at h
  rcases rx_rec_eq h with ⟨hb, h⟩ | ⟨hb, h⟩
  · have ht := Nat.eq_of_beq_eq_true hb
    subst ht
    unfold n_X2_power_5 at h
    split at h
    · exact (s_X2_power_5 hC _ _ _ _ _ h).le ⟨Or.inr rfl, Or.inr rfl, Or.inr rfl, Or.inl rfl, Or.inr rfl, trivial⟩
    · cases h
  cases h
theorem cc_X2_power (F : Nat × Nat) (l : Launch) (G : rx_G) {α : Type} (z : α) : rx_CC l G (0 + 0 * F.2) (C_X2_power F) z := by
  intro j as u κ h
  unfold C_X2_power at h
  cases h
theorem m_X2_power (F : Nat × Nat) (l : Launch) (G : rx_G) (hf : rx_H) (x0 : Int32) (x1 : Int32) {z : Int64} (h : f_X2_power F x0 x1 = some z) : rx_Ok l G (1 + 0 * F.2) (rx_ny 51) prog_4_method_3_code 5 (some .long) [.int x0, .int x1] hf (some (.long z)) hf := by
  have h := h
  unfold f_X2_power at h
  exact (rx_met (l := l) (G := G) (hf := hf) (as := [.int x0, .int x1]) (r := (some (.long z))) (ls0 := [some (.int x0), some (.int x1), none, none, none]) (y := rx_ny 51) (D := (0 + 0 * F.2)) (ini := false) (bo := false) (u := none) (u' := none) k_X2_power (fun h => by cases h) (Nat.le_of_ble_eq_true rfl) (Or.inr (Or.inr (Or.inl ⟨rfl, _, rfl⟩))) (fun Z hZ hB => rx_RT_rJ hZ hB) (by exact ⟨Or.inr rfl, Or.inr rfl, Or.inl rfl, Or.inl rfl, Or.inl rfl, trivial⟩) (s_X2_power_0 (cc_X2_power F l G z) x0 x1 h)).deep (by omega)
theorem w_X2_power (F : Nat × Nat) (l : Launch) (G : rx_G) {α : Type} {z : α} {as : List Value} {u : Option rx_H} {κ : rx_K α} (h : c_X2_power F as u κ = some z) : rx_Cw l G (1 + 0 * F.2) 51 as u κ z := by
  unfold c_X2_power at h
  split at h
  · obtain ⟨r, hr, h⟩ := Option.bind_eq_some_iff.mp h
    exact ⟨_, _, _, _, _, _, h, k_X2_power, fun _ => rfl, fun h => absurd rfl h, fun hf => m_X2_power F l G _ _ _ hr⟩
  · cases h
set_option maxRecDepth 100000 in
theorem k_X2_cascades : rx_Cal (rx_ny 46) prog_4_method_4_code 2 (some .boolean) (rx_kd 46) 2 := ⟨rx_in (i := 442) (by rfl) (by rfl), rx_in (i := 51) (by decide +kernel) (by decide +kernel), ⟨(by decide +kernel), (by decide +kernel), (by decide +kernel)⟩, Nat.le_of_ble_eq_true rfl, (by decide +kernel), fun _ => rx_in (i := 441) (by decide +kernel) (by decide +kernel), fun h => absurd h (by decide), fun h => absurd h (by decide)⟩
set_option maxRecDepth 100000 in
theorem tk_X2_cascades : (t_X2_cascades.all (rx_eok "SetHouse$Numbers" prog_4_method_4_code 2 false true) && rx_adj t_X2_cascades) = true := by decide +kernel
theorem s_X2_cascades_0 {F : Nat × Nat} {l : Launch} {G : rx_G} {D : Nat} {hf : rx_H} {z : Int32} (hC : rx_CC l G D (C_X2_cascades F) z) (x0 : Int32) (x1 : Int32) (h : f_X2_cascades_0 F x0 x1 = some z) : rx_S l G ("SetHouse$Numbers", prog_4_method_4_code, 2, false, true, D) hf hf rx_rI z 0 [some (.int x0), some (.int x1)] [] none := by
  rw [g_X2_cascades_0] at h
  refine rx_S_node (md := ("SetHouse$Numbers", prog_4_method_4_code, 2, false, true, D)) tk_X2_cascades hC rx_m_rI (fun t ls st u h => ?_) h
  unfold kk_X2_cascades_0 at h
  cases h
theorem cc_X2_cascades (F : Nat × Nat) (l : Launch) (G : rx_G) {α : Type} (z : α) : rx_CC l G (0 + 0 * F.2) (C_X2_cascades F) z := by
  intro j as u κ h
  unfold C_X2_cascades at h
  cases h
theorem m_X2_cascades (F : Nat × Nat) (l : Launch) (G : rx_G) (hf : rx_H) (x0 : Int32) (x1 : Int32) {z : Int32} (h : f_X2_cascades F x0 x1 = some z) : rx_Ok l G (1 + 0 * F.2) (rx_ny 46) prog_4_method_4_code 2 (some .boolean) [.int x0, .int x1] hf (some (.int z)) hf := by
  have h := h
  unfold f_X2_cascades at h
  exact (rx_met (l := l) (G := G) (hf := hf) (as := [.int x0, .int x1]) (r := (some (.int z))) (ls0 := [some (.int x0), some (.int x1)]) (y := rx_ny 46) (D := (0 + 0 * F.2)) (ini := false) (bo := true) (u := none) (u' := none) k_X2_cascades (fun h => by cases h) (Nat.le_of_ble_eq_true rfl) (Or.inr (Or.inl ⟨rfl, rfl, _, rfl⟩)) (fun Z hZ hB => rx_RT_rI hZ hB) (by exact ⟨Or.inr rfl, Or.inr rfl, trivial⟩) (s_X2_cascades_0 (cc_X2_cascades F l G z) x0 x1 h)).deep (by omega)
theorem w_X2_cascades (F : Nat × Nat) (l : Launch) (G : rx_G) {α : Type} {z : α} {as : List Value} {u : Option rx_H} {κ : rx_K α} (h : c_X2_cascades F as u κ = some z) : rx_Cw l G (1 + 0 * F.2) 46 as u κ z := by
  unfold c_X2_cascades at h
  split at h
  · obtain ⟨r, hr, h⟩ := Option.bind_eq_some_iff.mp h
    exact ⟨_, _, _, _, _, _, h, k_X2_cascades, fun _ => rfl, fun h => absurd rfl h, fun hf => m_X2_cascades F l G _ _ _ hr⟩
  · cases h
set_option maxRecDepth 100000 in
theorem k_X2_choose : rx_Cal (rx_ny 47) prog_4_method_5_code 4 (some .int) (rx_kd 47) 2 := ⟨rx_in (i := 451) (by rfl) (by rfl), rx_in (i := 51) (by decide +kernel) (by decide +kernel), ⟨(by decide +kernel), (by decide +kernel), (by decide +kernel)⟩, Nat.le_of_ble_eq_true rfl, (by decide +kernel), fun _ => rx_in (i := 450) (by decide +kernel) (by decide +kernel), fun h => absurd h (by decide), fun h => absurd h (by decide)⟩
set_option maxRecDepth 100000 in
theorem tk_X2_choose : (t_X2_choose.all (rx_eok "SetHouse$Numbers" prog_4_method_5_code 4 false false) && rx_adj t_X2_choose) = true := by decide +kernel
theorem s_X2_choose_4 {F : Nat × Nat} {l : Launch} {G : rx_G} {D : Nat} {hf : rx_H} {z : Int32} (hC : rx_CC l G D (C_X2_choose F) z) : ∀ (f : Nat) (x0 : Int32) (x1 : Int32) (x2 : Int32) (x3 : Int32), f_X2_choose_4 F f x0 x1 x2 x3 = some z → rx_S l G ("SetHouse$Numbers", prog_4_method_5_code, 4, false, false, D) hf hf rx_rI z 4 [some (.int x0), some (.int x1), some (.int x2), some (.int x3)] [] none := by
  intro f
  induction f with
  | zero =>
    intro x0 x1 x2 x3 h
    cases h
  | succ f ih =>
    intro x0 x1 x2 x3 h
    rw [g_X2_choose_4] at h
    refine rx_S_node (md := ("SetHouse$Numbers", prog_4_method_5_code, 4, false, false, D)) tk_X2_choose hC rx_m_rI (fun t ls st u h => ?_) h
    unfold kk_X2_choose_4 at h
    rcases rx_rec_eq h with ⟨hb, h⟩ | ⟨hb, h⟩
    · have ht := Nat.eq_of_beq_eq_true hb
      subst ht
      unfold n_X2_choose_4 at h
      split at h
      · exact (ih _ _ _ _ h).le ⟨Or.inr rfl, Or.inr rfl, Or.inr rfl, Or.inr rfl, trivial⟩
      · cases h
    cases h
theorem s_X2_choose_0 {F : Nat × Nat} {l : Launch} {G : rx_G} {D : Nat} {hf : rx_H} {z : Int32} (hC : rx_CC l G D (C_X2_choose F) z) (x0 : Int32) (x1 : Int32) (h : f_X2_choose_0 F x0 x1 = some z) : rx_S l G ("SetHouse$Numbers", prog_4_method_5_code, 4, false, false, D) hf hf rx_rI z 0 [some (.int x0), some (.int x1), none, none] [] none := by
  rw [g_X2_choose_0] at h
  refine rx_S_node (md := ("SetHouse$Numbers", prog_4_method_5_code, 4, false, false, D)) tk_X2_choose hC rx_m_rI (fun t ls st u h => ?_) h
  unfold kk_X2_choose_0 at h
  rcases rx_rec_eq h with ⟨hb, h⟩ | ⟨hb, h⟩
  · have ht := Nat.eq_of_beq_eq_true hb
    subst ht
    unfold n_X2_choose_4 at h
    split at h
    · exact (s_X2_choose_4 hC _ _ _ _ _ h).le ⟨Or.inr rfl, Or.inr rfl, Or.inr rfl, Or.inr rfl, trivial⟩
    · cases h
  cases h
theorem cc_X2_choose (F : Nat × Nat) (l : Launch) (G : rx_G) {α : Type} (z : α) : rx_CC l G (0 + 0 * F.2) (C_X2_choose F) z := by
  intro j as u κ h
  unfold C_X2_choose at h
  cases h
theorem m_X2_choose (F : Nat × Nat) (l : Launch) (G : rx_G) (hf : rx_H) (x0 : Int32) (x1 : Int32) {z : Int32} (h : f_X2_choose F x0 x1 = some z) : rx_Ok l G (1 + 0 * F.2) (rx_ny 47) prog_4_method_5_code 4 (some .int) [.int x0, .int x1] hf (some (.int z)) hf := by
  have h := h
  unfold f_X2_choose at h
  exact (rx_met (l := l) (G := G) (hf := hf) (as := [.int x0, .int x1]) (r := (some (.int z))) (ls0 := [some (.int x0), some (.int x1), none, none]) (y := rx_ny 47) (D := (0 + 0 * F.2)) (ini := false) (bo := false) (u := none) (u' := none) k_X2_choose (fun h => by cases h) (Nat.le_of_ble_eq_true rfl) (Or.inl ⟨rfl, rfl, _, rfl⟩) (fun Z hZ hB => rx_RT_rI hZ hB) (by exact ⟨Or.inr rfl, Or.inr rfl, Or.inl rfl, Or.inl rfl, trivial⟩) (s_X2_choose_0 (cc_X2_choose F l G z) x0 x1 h)).deep (by omega)
theorem w_X2_choose (F : Nat × Nat) (l : Launch) (G : rx_G) {α : Type} {z : α} {as : List Value} {u : Option rx_H} {κ : rx_K α} (h : c_X2_choose F as u κ = some z) : rx_Cw l G (1 + 0 * F.2) 47 as u κ z := by
  unfold c_X2_choose at h
  split at h
  · obtain ⟨r, hr, h⟩ := Option.bind_eq_some_iff.mp h
    exact ⟨_, _, _, _, _, _, h, k_X2_choose, fun _ => rfl, fun h => absurd rfl h, fun hf => m_X2_choose F l G _ _ _ hr⟩
  · cases h
set_option maxRecDepth 100000 in
theorem k_X2_cascadeTop : rx_Cal (rx_ny 45) prog_4_method_6_code 4 (some .int) (rx_kd 45) 2 := ⟨rx_in (i := 448) (by rfl) (by rfl), rx_in (i := 51) (by decide +kernel) (by decide +kernel), ⟨(by decide +kernel), (by decide +kernel), (by decide +kernel)⟩, Nat.le_of_ble_eq_true rfl, (by decide +kernel), fun _ => rx_in (i := 447) (by decide +kernel) (by decide +kernel), fun h => absurd h (by decide), fun h => absurd h (by decide)⟩
set_option maxRecDepth 100000 in
theorem tk_X2_cascadeTop : (t_X2_cascadeTop.all (rx_eok "SetHouse$Numbers" prog_4_method_6_code 4 false false) && rx_adj t_X2_cascadeTop) = true := by decide +kernel
theorem s_X2_cascadeTop_4 {F : Nat × Nat} {l : Launch} {G : rx_G} {D : Nat} {hf : rx_H} {z : Int32} (hC : rx_CC l G D (C_X2_cascadeTop F) z) : ∀ (f : Nat) (x0 : Int32) (x1 : Int32) (x2 : Int32) (x3 : Int32), f_X2_cascadeTop_4 F f x0 x1 x2 x3 = some z → rx_S l G ("SetHouse$Numbers", prog_4_method_6_code, 4, false, false, D) hf hf rx_rI z 4 [some (.int x0), some (.int x1), some (.int x2), some (.int x3)] [] none := by
  intro f
  induction f with
  | zero =>
    intro x0 x1 x2 x3 h
    cases h
  | succ f ih =>
    intro x0 x1 x2 x3 h
    rw [g_X2_cascadeTop_4] at h
    refine rx_S_node (md := ("SetHouse$Numbers", prog_4_method_6_code, 4, false, false, D)) tk_X2_cascadeTop hC rx_m_rI (fun t ls st u h => ?_) h
    unfold kk_X2_cascadeTop_4 at h
    rcases rx_rec_eq h with ⟨hb, h⟩ | ⟨hb, h⟩
    · have ht := Nat.eq_of_beq_eq_true hb
      subst ht
      unfold n_X2_cascadeTop_4 at h
      split at h
      · exact (ih _ _ _ _ h).le ⟨Or.inr rfl, Or.inr rfl, Or.inr rfl, Or.inr rfl, trivial⟩
      · cases h
    cases h
theorem s_X2_cascadeTop_0 {F : Nat × Nat} {l : Launch} {G : rx_G} {D : Nat} {hf : rx_H} {z : Int32} (hC : rx_CC l G D (C_X2_cascadeTop F) z) (x0 : Int32) (x1 : Int32) (h : f_X2_cascadeTop_0 F x0 x1 = some z) : rx_S l G ("SetHouse$Numbers", prog_4_method_6_code, 4, false, false, D) hf hf rx_rI z 0 [some (.int x0), some (.int x1), none, none] [] none := by
  rw [g_X2_cascadeTop_0] at h
  refine rx_S_node (md := ("SetHouse$Numbers", prog_4_method_6_code, 4, false, false, D)) tk_X2_cascadeTop hC rx_m_rI (fun t ls st u h => ?_) h
  unfold kk_X2_cascadeTop_0 at h
  rcases rx_rec_eq h with ⟨hb, h⟩ | ⟨hb, h⟩
  · have ht := Nat.eq_of_beq_eq_true hb
    subst ht
    unfold n_X2_cascadeTop_4 at h
    split at h
    · exact (s_X2_cascadeTop_4 hC _ _ _ _ _ h).le ⟨Or.inr rfl, Or.inr rfl, Or.inr rfl, Or.inr rfl, trivial⟩
    · cases h
  cases h
theorem cc_X2_cascadeTop (F : Nat × Nat) (l : Launch) (G : rx_G) {α : Type} (z : α) : rx_CC l G (0 + 0 * F.2) (C_X2_cascadeTop F) z := by
  intro j as u κ h
  unfold C_X2_cascadeTop at h
  cases h
theorem m_X2_cascadeTop (F : Nat × Nat) (l : Launch) (G : rx_G) (hf : rx_H) (x0 : Int32) (x1 : Int32) {z : Int32} (h : f_X2_cascadeTop F x0 x1 = some z) : rx_Ok l G (1 + 0 * F.2) (rx_ny 45) prog_4_method_6_code 4 (some .int) [.int x0, .int x1] hf (some (.int z)) hf := by
  have h := h
  unfold f_X2_cascadeTop at h
  exact (rx_met (l := l) (G := G) (hf := hf) (as := [.int x0, .int x1]) (r := (some (.int z))) (ls0 := [some (.int x0), some (.int x1), none, none]) (y := rx_ny 45) (D := (0 + 0 * F.2)) (ini := false) (bo := false) (u := none) (u' := none) k_X2_cascadeTop (fun h => by cases h) (Nat.le_of_ble_eq_true rfl) (Or.inl ⟨rfl, rfl, _, rfl⟩) (fun Z hZ hB => rx_RT_rI hZ hB) (by exact ⟨Or.inr rfl, Or.inr rfl, Or.inl rfl, Or.inl rfl, trivial⟩) (s_X2_cascadeTop_0 (cc_X2_cascadeTop F l G z) x0 x1 h)).deep (by omega)
theorem w_X2_cascadeTop (F : Nat × Nat) (l : Launch) (G : rx_G) {α : Type} {z : α} {as : List Value} {u : Option rx_H} {κ : rx_K α} (h : c_X2_cascadeTop F as u κ = some z) : rx_Cw l G (1 + 0 * F.2) 45 as u κ z := by
  unfold c_X2_cascadeTop at h
  split at h
  · obtain ⟨r, hr, h⟩ := Option.bind_eq_some_iff.mp h
    exact ⟨_, _, _, _, _, _, h, k_X2_cascadeTop, fun _ => rfl, fun h => absurd rfl h, fun hf => m_X2_cascadeTop F l G _ _ _ hr⟩
  · cases h
set_option maxRecDepth 100000 in
theorem k_X2_cascadeNumber : rx_Cal (rx_ny 44) prog_4_method_7_code 6 (some .int) (rx_kd 44) 3 := ⟨rx_in (i := 445) (by rfl) (by rfl), rx_in (i := 51) (by decide +kernel) (by decide +kernel), ⟨(by decide +kernel), (by decide +kernel), (by decide +kernel)⟩, Nat.le_of_ble_eq_true rfl, (by decide +kernel), fun _ => rx_in (i := 444) (by decide +kernel) (by decide +kernel), fun h => absurd h (by decide), fun h => absurd h (by decide)⟩
set_option maxRecDepth 100000 in
theorem tk_X2_cascadeNumber : (t_X2_cascadeNumber.all (rx_eok "SetHouse$Numbers" prog_4_method_7_code 6 false false) && rx_adj t_X2_cascadeNumber) = true := by decide +kernel
theorem s_X2_cascadeNumber_5 {F : Nat × Nat} {l : Launch} {G : rx_G} {D : Nat} {hf : rx_H} {z : Int32} (hC : rx_CC l G D (C_X2_cascadeNumber F) z) : ∀ (f : Nat) (x1 : Int32) (x2 : Int32) (x3 : Int32) (x4 : Int32), f_X2_cascadeNumber_5 F f x1 x2 x3 x4 = some z → rx_S l G ("SetHouse$Numbers", prog_4_method_7_code, 6, false, false, D) hf hf rx_rI z 5 [none, some (.int x1), some (.int x2), some (.int x3), some (.int x4), none] [] none := by
  intro f
  induction f with
  | zero =>
    intro x1 x2 x3 x4 h
    cases h
  | succ f ih =>
    intro x1 x2 x3 x4 h
    rw [g_X2_cascadeNumber_5] at h
    refine rx_S_node (md := ("SetHouse$Numbers", prog_4_method_7_code, 6, false, false, D)) tk_X2_cascadeNumber hC rx_m_rI (fun t ls st u h => ?_) h
    unfold kk_X2_cascadeNumber_5 at h
    rcases rx_rec_eq h with ⟨hb, h⟩ | ⟨hb, h⟩
    · have ht := Nat.eq_of_beq_eq_true hb
      subst ht
      unfold n_X2_cascadeNumber_5 at h
      split at h
      · exact (ih _ _ _ _ h).le ⟨Or.inl rfl, Or.inr rfl, Or.inr rfl, Or.inr rfl, Or.inr rfl, Or.inl rfl, trivial⟩
      · cases h
    cases h
theorem s_X2_cascadeNumber_0 {F : Nat × Nat} {l : Launch} {G : rx_G} {D : Nat} {hf : rx_H} {z : Int32} (hC : rx_CC l G D (C_X2_cascadeNumber F) z) (x0 : Int32) (x1 : Int32) (x2 : Int32) (h : f_X2_cascadeNumber_0 F x0 x1 x2 = some z) : rx_S l G ("SetHouse$Numbers", prog_4_method_7_code, 6, false, false, D) hf hf rx_rI z 0 [some (.int x0), some (.int x1), some (.int x2), none, none, none] [] none := by
  rw [g_X2_cascadeNumber_0] at h
  refine rx_S_node (md := ("SetHouse$Numbers", prog_4_method_7_code, 6, false, false, D)) tk_X2_cascadeNumber hC rx_m_rI (fun t ls st u h => ?_) h
  unfold kk_X2_cascadeNumber_0 at h
  rcases rx_rec_eq h with ⟨hb, h⟩ | ⟨hb, h⟩
  · have ht := Nat.eq_of_beq_eq_true hb
    subst ht
    unfold n_X2_cascadeNumber_5 at h
    split at h
    · exact (s_X2_cascadeNumber_5 hC _ _ _ _ _ h).le ⟨Or.inl rfl, Or.inr rfl, Or.inr rfl, Or.inr rfl, Or.inr rfl, Or.inl rfl, trivial⟩
    · cases h
  cases h
theorem cc_X2_cascadeNumber (F : Nat × Nat) (l : Launch) (G : rx_G) {α : Type} (z : α) : rx_CC l G (1 + 0 * F.2) (C_X2_cascadeNumber F) z := by
  intro j as u κ h
  unfold C_X2_cascadeNumber at h
  rcases rx_rec_eq h with ⟨hb, h⟩ | ⟨hb, h⟩
  · have ht := Nat.eq_of_beq_eq_true hb
    subst ht
    exact (w_X2_cascadeTop F l G h).deep (by omega)
  rcases rx_rec_eq h with ⟨hb, h⟩ | ⟨hb, h⟩
  · have ht := Nat.eq_of_beq_eq_true hb
    subst ht
    exact (w_X2_choose F l G h).deep (by omega)
  cases h
theorem m_X2_cascadeNumber (F : Nat × Nat) (l : Launch) (G : rx_G) (hf : rx_H) (x0 : Int32) (x1 : Int32) (x2 : Int32) {z : Int32} (h : f_X2_cascadeNumber F x0 x1 x2 = some z) : rx_Ok l G (2 + 0 * F.2) (rx_ny 44) prog_4_method_7_code 6 (some .int) [.int x0, .int x1, .int x2] hf (some (.int z)) hf := by
  have h := h
  unfold f_X2_cascadeNumber at h
  exact (rx_met (l := l) (G := G) (hf := hf) (as := [.int x0, .int x1, .int x2]) (r := (some (.int z))) (ls0 := [some (.int x0), some (.int x1), some (.int x2), none, none, none]) (y := rx_ny 44) (D := (1 + 0 * F.2)) (ini := false) (bo := false) (u := none) (u' := none) k_X2_cascadeNumber (fun h => by cases h) (Nat.le_of_ble_eq_true rfl) (Or.inl ⟨rfl, rfl, _, rfl⟩) (fun Z hZ hB => rx_RT_rI hZ hB) (by exact ⟨Or.inr rfl, Or.inr rfl, Or.inr rfl, Or.inl rfl, Or.inl rfl, Or.inl rfl, trivial⟩) (s_X2_cascadeNumber_0 (cc_X2_cascadeNumber F l G z) x0 x1 x2 h)).deep (by omega)
theorem w_X2_cascadeNumber (F : Nat × Nat) (l : Launch) (G : rx_G) {α : Type} {z : α} {as : List Value} {u : Option rx_H} {κ : rx_K α} (h : c_X2_cascadeNumber F as u κ = some z) : rx_Cw l G (2 + 0 * F.2) 44 as u κ z := by
  unfold c_X2_cascadeNumber at h
  split at h
  · obtain ⟨r, hr, h⟩ := Option.bind_eq_some_iff.mp h
    exact ⟨_, _, _, _, _, _, h, k_X2_cascadeNumber, fun _ => rfl, fun h => absurd rfl h, fun hf => m_X2_cascadeNumber F l G _ _ _ _ hr⟩
  · cases h
set_option maxRecDepth 100000 in
theorem k_X2_leastShadow : rx_Cal (rx_ny 49) prog_4_method_8_code 6 (some .int) (rx_kd 49) 2 := ⟨rx_in (i := 458) (by rfl) (by rfl), rx_in (i := 51) (by decide +kernel) (by decide +kernel), ⟨(by decide +kernel), (by decide +kernel), (by decide +kernel)⟩, Nat.le_of_ble_eq_true rfl, (by decide +kernel), fun _ => rx_in (i := 457) (by decide +kernel) (by decide +kernel), fun h => absurd h (by decide), fun h => absurd h (by decide)⟩
set_option maxRecDepth 100000 in
theorem tk_X2_leastShadow : (t_X2_leastShadow.all (rx_eok "SetHouse$Numbers" prog_4_method_8_code 6 false false) && rx_adj t_X2_leastShadow) = true := by decide +kernel
theorem s_X2_leastShadow_7 {F : Nat × Nat} {l : Launch} {G : rx_G} {D : Nat} {hf : rx_H} {z : Int32} (hC : rx_CC l G D (C_X2_leastShadow F) z) : ∀ (f : Nat) (x2 : Int32) (x3 : Int32) (x4 : Int32), f_X2_leastShadow_7 F f x2 x3 x4 = some z → rx_S l G ("SetHouse$Numbers", prog_4_method_8_code, 6, false, false, D) hf hf rx_rI z 7 [none, none, some (.int x2), some (.int x3), some (.int x4), none] [] none := by
  intro f
  induction f with
  | zero =>
    intro x2 x3 x4 h
    cases h
  | succ f ih =>
    intro x2 x3 x4 h
    rw [g_X2_leastShadow_7] at h
    refine rx_S_node (md := ("SetHouse$Numbers", prog_4_method_8_code, 6, false, false, D)) tk_X2_leastShadow hC rx_m_rI (fun t ls st u h => ?_) h
    unfold kk_X2_leastShadow_7 at h
    rcases rx_rec_eq h with ⟨hb, h⟩ | ⟨hb, h⟩
    · have ht := Nat.eq_of_beq_eq_true hb
      subst ht
      unfold n_X2_leastShadow_7 at h
      split at h
      · exact (ih _ _ _ h).le ⟨Or.inl rfl, Or.inl rfl, Or.inr rfl, Or.inr rfl, Or.inr rfl, Or.inl rfl, trivial⟩
      · cases h
    cases h
theorem s_X2_leastShadow_0 {F : Nat × Nat} {l : Launch} {G : rx_G} {D : Nat} {hf : rx_H} {z : Int32} (hC : rx_CC l G D (C_X2_leastShadow F) z) (x0 : Int32) (x1 : Int32) (h : f_X2_leastShadow_0 F x0 x1 = some z) : rx_S l G ("SetHouse$Numbers", prog_4_method_8_code, 6, false, false, D) hf hf rx_rI z 0 [some (.int x0), some (.int x1), none, none, none, none] [] none := by
  rw [g_X2_leastShadow_0] at h
  refine rx_S_node (md := ("SetHouse$Numbers", prog_4_method_8_code, 6, false, false, D)) tk_X2_leastShadow hC rx_m_rI (fun t ls st u h => ?_) h
  unfold kk_X2_leastShadow_0 at h
  rcases rx_rec_eq h with ⟨hb, h⟩ | ⟨hb, h⟩
  · have ht := Nat.eq_of_beq_eq_true hb
    subst ht
    unfold n_X2_leastShadow_7 at h
    split at h
    · exact (s_X2_leastShadow_7 hC _ _ _ _ h).le ⟨Or.inl rfl, Or.inl rfl, Or.inr rfl, Or.inr rfl, Or.inr rfl, Or.inl rfl, trivial⟩
    · cases h
  cases h
theorem cc_X2_leastShadow (F : Nat × Nat) (l : Launch) (G : rx_G) {α : Type} (z : α) : rx_CC l G (1 + 0 * F.2) (C_X2_leastShadow F) z := by
  intro j as u κ h
  unfold C_X2_leastShadow at h
  rcases rx_rec_eq h with ⟨hb, h⟩ | ⟨hb, h⟩
  · have ht := Nat.eq_of_beq_eq_true hb
    subst ht
    exact (w_X2_cascadeTop F l G h).deep (by omega)
  rcases rx_rec_eq h with ⟨hb, h⟩ | ⟨hb, h⟩
  · have ht := Nat.eq_of_beq_eq_true hb
    subst ht
    exact (w_X2_choose F l G h).deep (by omega)
  cases h
theorem m_X2_leastShadow (F : Nat × Nat) (l : Launch) (G : rx_G) (hf : rx_H) (x0 : Int32) (x1 : Int32) {z : Int32} (h : f_X2_leastShadow F x0 x1 = some z) : rx_Ok l G (2 + 0 * F.2) (rx_ny 49) prog_4_method_8_code 6 (some .int) [.int x0, .int x1] hf (some (.int z)) hf := by
  have h := h
  unfold f_X2_leastShadow at h
  exact (rx_met (l := l) (G := G) (hf := hf) (as := [.int x0, .int x1]) (r := (some (.int z))) (ls0 := [some (.int x0), some (.int x1), none, none, none, none]) (y := rx_ny 49) (D := (1 + 0 * F.2)) (ini := false) (bo := false) (u := none) (u' := none) k_X2_leastShadow (fun h => by cases h) (Nat.le_of_ble_eq_true rfl) (Or.inl ⟨rfl, rfl, _, rfl⟩) (fun Z hZ hB => rx_RT_rI hZ hB) (by exact ⟨Or.inr rfl, Or.inr rfl, Or.inl rfl, Or.inl rfl, Or.inl rfl, Or.inl rfl, trivial⟩) (s_X2_leastShadow_0 (cc_X2_leastShadow F l G z) x0 x1 h)).deep (by omega)
theorem w_X2_leastShadow (F : Nat × Nat) (l : Launch) (G : rx_G) {α : Type} {z : α} {as : List Value} {u : Option rx_H} {κ : rx_K α} (h : c_X2_leastShadow F as u κ = some z) : rx_Cw l G (2 + 0 * F.2) 49 as u κ z := by
  unfold c_X2_leastShadow at h
  split at h
  · obtain ⟨r, hr, h⟩ := Option.bind_eq_some_iff.mp h
    exact ⟨_, _, _, _, _, _, h, k_X2_leastShadow, fun _ => rfl, fun h => absurd rfl h, fun hf => m_X2_leastShadow F l G _ _ _ hr⟩
  · cases h
set_option maxRecDepth 100000 in
theorem k_X2_matchedOnes : rx_Cal (rx_ny 50) prog_4_method_9_code 5 (some .int) (rx_kd 50) 2 := ⟨rx_in (i := 465) (by rfl) (by rfl), rx_in (i := 51) (by decide +kernel) (by decide +kernel), ⟨(by decide +kernel), (by decide +kernel), (by decide +kernel)⟩, Nat.le_of_ble_eq_true rfl, (by decide +kernel), fun _ => rx_in (i := 464) (by decide +kernel) (by decide +kernel), fun h => absurd h (by decide), fun h => absurd h (by decide)⟩
set_option maxRecDepth 100000 in
theorem tk_X2_matchedOnes : (t_X2_matchedOnes.all (rx_eok "SetHouse$Numbers" prog_4_method_9_code 5 false false) && rx_adj t_X2_matchedOnes) = true := by decide +kernel
theorem s_X2_matchedOnes_7 {F : Nat × Nat} {l : Launch} {G : rx_G} {D : Nat} {hf : rx_H} {z : Int32} (hC : rx_CC l G D (C_X2_matchedOnes F) z) : ∀ (f : Nat) (x0 : Int32) (x1 : Int32) (x2 : Int32) (x3 : Int32) (x4 : Int32), f_X2_matchedOnes_7 F f x0 x1 x2 x3 x4 = some z → rx_S l G ("SetHouse$Numbers", prog_4_method_9_code, 5, false, false, D) hf hf rx_rI z 7 [some (.int x0), some (.int x1), some (.int x2), some (.int x3), some (.int x4)] [] none := by
  intro f
  induction f with
  | zero =>
    intro x0 x1 x2 x3 x4 h
    cases h
  | succ f ih =>
    intro x0 x1 x2 x3 x4 h
    rw [g_X2_matchedOnes_7] at h
    refine rx_S_node (md := ("SetHouse$Numbers", prog_4_method_9_code, 5, false, false, D)) tk_X2_matchedOnes hC rx_m_rI (fun t ls st u h => ?_) h
    unfold kk_X2_matchedOnes_7 at h
    rcases rx_rec_eq h with ⟨hb, h⟩ | ⟨hb, h⟩
    · have ht := Nat.eq_of_beq_eq_true hb
      subst ht
      unfold n_X2_matchedOnes_7 at h
      split at h
      · exact (ih _ _ _ _ _ h).le ⟨Or.inr rfl, Or.inr rfl, Or.inr rfl, Or.inr rfl, Or.inr rfl, trivial⟩
      · cases h
    cases h
theorem s_X2_matchedOnes_0 {F : Nat × Nat} {l : Launch} {G : rx_G} {D : Nat} {hf : rx_H} {z : Int32} (hC : rx_CC l G D (C_X2_matchedOnes F) z) (x0 : Int32) (x1 : Int32) (h : f_X2_matchedOnes_0 F x0 x1 = some z) : rx_S l G ("SetHouse$Numbers", prog_4_method_9_code, 5, false, false, D) hf hf rx_rI z 0 [some (.int x0), some (.int x1), none, none, none] [] none := by
  rw [g_X2_matchedOnes_0] at h
  refine rx_S_node (md := ("SetHouse$Numbers", prog_4_method_9_code, 5, false, false, D)) tk_X2_matchedOnes hC rx_m_rI (fun t ls st u h => ?_) h
  unfold kk_X2_matchedOnes_0 at h
  rcases rx_rec_eq h with ⟨hb, h⟩ | ⟨hb, h⟩
  · have ht := Nat.eq_of_beq_eq_true hb
    subst ht
    unfold n_X2_matchedOnes_7 at h
    split at h
    · exact (s_X2_matchedOnes_7 hC _ _ _ _ _ _ h).le ⟨Or.inr rfl, Or.inr rfl, Or.inr rfl, Or.inr rfl, Or.inr rfl, trivial⟩
    · cases h
  cases h
theorem cc_X2_matchedOnes (F : Nat × Nat) (l : Launch) (G : rx_G) {α : Type} (z : α) : rx_CC l G (0 + 0 * F.2) (C_X2_matchedOnes F) z := by
  intro j as u κ h
  unfold C_X2_matchedOnes at h
  cases h
theorem m_X2_matchedOnes (F : Nat × Nat) (l : Launch) (G : rx_G) (hf : rx_H) (x0 : Int32) (x1 : Int32) {z : Int32} (h : f_X2_matchedOnes F x0 x1 = some z) : rx_Ok l G (1 + 0 * F.2) (rx_ny 50) prog_4_method_9_code 5 (some .int) [.int x0, .int x1] hf (some (.int z)) hf := by
  have h := h
  unfold f_X2_matchedOnes at h
  exact (rx_met (l := l) (G := G) (hf := hf) (as := [.int x0, .int x1]) (r := (some (.int z))) (ls0 := [some (.int x0), some (.int x1), none, none, none]) (y := rx_ny 50) (D := (0 + 0 * F.2)) (ini := false) (bo := false) (u := none) (u' := none) k_X2_matchedOnes (fun h => by cases h) (Nat.le_of_ble_eq_true rfl) (Or.inl ⟨rfl, rfl, _, rfl⟩) (fun Z hZ hB => rx_RT_rI hZ hB) (by exact ⟨Or.inr rfl, Or.inr rfl, Or.inl rfl, Or.inl rfl, Or.inl rfl, trivial⟩) (s_X2_matchedOnes_0 (cc_X2_matchedOnes F l G z) x0 x1 h)).deep (by omega)
theorem w_X2_matchedOnes (F : Nat × Nat) (l : Launch) (G : rx_G) {α : Type} {z : α} {as : List Value} {u : Option rx_H} {κ : rx_K α} (h : c_X2_matchedOnes F as u κ = some z) : rx_Cw l G (1 + 0 * F.2) 50 as u κ z := by
  unfold c_X2_matchedOnes at h
  split at h
  · obtain ⟨r, hr, h⟩ := Option.bind_eq_some_iff.mp h
    exact ⟨_, _, _, _, _, _, h, k_X2_matchedOnes, fun _ => rfl, fun h => absurd rfl h, fun hf => m_X2_matchedOnes F l G _ _ _ hr⟩
  · cases h
set_option maxRecDepth 100000 in
theorem k_X3_digit : rx_Cal (rx_ny 54) prog_5_method_2_code 2 (some .int) (rx_kd 54) 2 := ⟨rx_in (i := 394) (by rfl) (by rfl), rx_in (i := 50) (by decide +kernel) (by decide +kernel), ⟨(by decide +kernel), (by decide +kernel), (by decide +kernel)⟩, Nat.le_of_ble_eq_true rfl, (by decide +kernel), fun _ => rx_in (i := 393) (by decide +kernel) (by decide +kernel), fun h => absurd h (by decide), fun h => absurd h (by decide)⟩
set_option maxRecDepth 100000 in
theorem tk_X3_digit : (t_X3_digit.all (rx_eok "SetHouse$Orders" prog_5_method_2_code 2 false false) && rx_adj t_X3_digit) = true := by decide +kernel
theorem s_X3_digit_0 {F : Nat × Nat} {l : Launch} {G : rx_G} {D : Nat} {hf : rx_H} {z : Int32} (hC : rx_CC l G D (C_X3_digit F) z) (x0 : Int32) (x1 : Int32) (h : f_X3_digit_0 F x0 x1 = some z) : rx_S l G ("SetHouse$Orders", prog_5_method_2_code, 2, false, false, D) hf hf rx_rI z 0 [some (.int x0), some (.int x1)] [] none := by
  rw [g_X3_digit_0] at h
  refine rx_S_node (md := ("SetHouse$Orders", prog_5_method_2_code, 2, false, false, D)) tk_X3_digit hC rx_m_rI (fun t ls st u h => ?_) h
  unfold kk_X3_digit_0 at h
  cases h
theorem cc_X3_digit (F : Nat × Nat) (l : Launch) (G : rx_G) {α : Type} (z : α) : rx_CC l G (0 + 0 * F.2) (C_X3_digit F) z := by
  intro j as u κ h
  unfold C_X3_digit at h
  cases h
theorem m_X3_digit (F : Nat × Nat) (l : Launch) (G : rx_G) (hf : rx_H) (x0 : Int32) (x1 : Int32) {z : Int32} (h : f_X3_digit F x0 x1 = some z) : rx_Ok l G (1 + 0 * F.2) (rx_ny 54) prog_5_method_2_code 2 (some .int) [.int x0, .int x1] hf (some (.int z)) hf := by
  have h := h
  unfold f_X3_digit at h
  exact (rx_met (l := l) (G := G) (hf := hf) (as := [.int x0, .int x1]) (r := (some (.int z))) (ls0 := [some (.int x0), some (.int x1)]) (y := rx_ny 54) (D := (0 + 0 * F.2)) (ini := false) (bo := false) (u := none) (u' := none) k_X3_digit (fun h => by cases h) (Nat.le_of_ble_eq_true rfl) (Or.inl ⟨rfl, rfl, _, rfl⟩) (fun Z hZ hB => rx_RT_rI hZ hB) (by exact ⟨Or.inr rfl, Or.inr rfl, trivial⟩) (s_X3_digit_0 (cc_X3_digit F l G z) x0 x1 h)).deep (by omega)
theorem w_X3_digit (F : Nat × Nat) (l : Launch) (G : rx_G) {α : Type} {z : α} {as : List Value} {u : Option rx_H} {κ : rx_K α} (h : c_X3_digit F as u κ = some z) : rx_Cw l G (1 + 0 * F.2) 54 as u κ z := by
  unfold c_X3_digit at h
  split at h
  · obtain ⟨r, hr, h⟩ := Option.bind_eq_some_iff.mp h
    exact ⟨_, _, _, _, _, _, h, k_X3_digit, fun _ => rfl, fun h => absurd rfl h, fun hf => m_X3_digit F l G _ _ _ hr⟩
  · cases h
set_option maxRecDepth 100000 in
theorem k_X3_isOrder : rx_Cal (rx_ny 55) prog_5_method_3_code 4 (some .boolean) (rx_kd 55) 2 := ⟨rx_in (i := 391) (by rfl) (by rfl), rx_in (i := 50) (by decide +kernel) (by decide +kernel), ⟨(by decide +kernel), (by decide +kernel), (by decide +kernel)⟩, Nat.le_of_ble_eq_true rfl, (by decide +kernel), fun _ => rx_in (i := 390) (by decide +kernel) (by decide +kernel), fun h => absurd h (by decide), fun h => absurd h (by decide)⟩
set_option maxRecDepth 100000 in
theorem tk_X3_isOrder : (t_X3_isOrder.all (rx_eok "SetHouse$Orders" prog_5_method_3_code 4 false true) && rx_adj t_X3_isOrder) = true := by decide +kernel
theorem s_X3_isOrder_18 {F : Nat × Nat} {l : Launch} {G : rx_G} {D : Nat} {hf : rx_H} {z : Int32} (hC : rx_CC l G D (C_X3_isOrder F) z) : ∀ (f : Nat) (x0 : Int32) (x1 : Int32) (x2 : Int32) (x3 : Int32), f_X3_isOrder_18 F f x0 x1 x2 x3 = some z → rx_S l G ("SetHouse$Orders", prog_5_method_3_code, 4, false, true, D) hf hf rx_rI z 18 [some (.int x0), some (.int x1), some (.int x2), some (.int x3)] [] none := by
  intro f
  induction f with
  | zero =>
    intro x0 x1 x2 x3 h
    cases h
  | succ f ih =>
    intro x0 x1 x2 x3 h
    rw [g_X3_isOrder_18] at h
    refine rx_S_node (md := ("SetHouse$Orders", prog_5_method_3_code, 4, false, true, D)) tk_X3_isOrder hC rx_m_rI (fun t ls st u h => ?_) h
    unfold kk_X3_isOrder_18 at h
    rcases rx_rec_eq h with ⟨hb, h⟩ | ⟨hb, h⟩
    · have ht := Nat.eq_of_beq_eq_true hb
      subst ht
      unfold n_X3_isOrder_18 at h
      split at h
      · exact (ih _ _ _ _ h).le ⟨Or.inr rfl, Or.inr rfl, Or.inr rfl, Or.inr rfl, trivial⟩
      · cases h
    cases h
theorem s_X3_isOrder_0 {F : Nat × Nat} {l : Launch} {G : rx_G} {D : Nat} {hf : rx_H} {z : Int32} (hC : rx_CC l G D (C_X3_isOrder F) z) (x0 : Int32) (x1 : Int32) (h : f_X3_isOrder_0 F x0 x1 = some z) : rx_S l G ("SetHouse$Orders", prog_5_method_3_code, 4, false, true, D) hf hf rx_rI z 0 [some (.int x0), some (.int x1), none, none] [] none := by
  rw [g_X3_isOrder_0] at h
  refine rx_S_node (md := ("SetHouse$Orders", prog_5_method_3_code, 4, false, true, D)) tk_X3_isOrder hC rx_m_rI (fun t ls st u h => ?_) h
  unfold kk_X3_isOrder_0 at h
  rcases rx_rec_eq h with ⟨hb, h⟩ | ⟨hb, h⟩
  · have ht := Nat.eq_of_beq_eq_true hb
    subst ht
    unfold n_X3_isOrder_18 at h
    split at h
    · exact (s_X3_isOrder_18 hC _ _ _ _ _ h).le ⟨Or.inr rfl, Or.inr rfl, Or.inr rfl, Or.inr rfl, trivial⟩
    · cases h
  cases h
theorem cc_X3_isOrder (F : Nat × Nat) (l : Launch) (G : rx_G) {α : Type} (z : α) : rx_CC l G (1 + 0 * F.2) (C_X3_isOrder F) z := by
  intro j as u κ h
  unfold C_X3_isOrder at h
  rcases rx_rec_eq h with ⟨hb, h⟩ | ⟨hb, h⟩
  · have ht := Nat.eq_of_beq_eq_true hb
    subst ht
    exact (w_X3_digit F l G h).deep (by omega)
  cases h
theorem m_X3_isOrder (F : Nat × Nat) (l : Launch) (G : rx_G) (hf : rx_H) (x0 : Int32) (x1 : Int32) {z : Int32} (h : f_X3_isOrder F x0 x1 = some z) : rx_Ok l G (2 + 0 * F.2) (rx_ny 55) prog_5_method_3_code 4 (some .boolean) [.int x0, .int x1] hf (some (.int z)) hf := by
  have h := h
  unfold f_X3_isOrder at h
  exact (rx_met (l := l) (G := G) (hf := hf) (as := [.int x0, .int x1]) (r := (some (.int z))) (ls0 := [some (.int x0), some (.int x1), none, none]) (y := rx_ny 55) (D := (1 + 0 * F.2)) (ini := false) (bo := true) (u := none) (u' := none) k_X3_isOrder (fun h => by cases h) (Nat.le_of_ble_eq_true rfl) (Or.inr (Or.inl ⟨rfl, rfl, _, rfl⟩)) (fun Z hZ hB => rx_RT_rI hZ hB) (by exact ⟨Or.inr rfl, Or.inr rfl, Or.inl rfl, Or.inl rfl, trivial⟩) (s_X3_isOrder_0 (cc_X3_isOrder F l G z) x0 x1 h)).deep (by omega)
theorem w_X3_isOrder (F : Nat × Nat) (l : Launch) (G : rx_G) {α : Type} {z : α} {as : List Value} {u : Option rx_H} {κ : rx_K α} (h : c_X3_isOrder F as u κ = some z) : rx_Cw l G (2 + 0 * F.2) 55 as u κ z := by
  unfold c_X3_isOrder at h
  split at h
  · obtain ⟨r, hr, h⟩ := Option.bind_eq_some_iff.mp h
    exact ⟨_, _, _, _, _, _, h, k_X3_isOrder, fun _ => rfl, fun h => absurd rfl h, fun hf => m_X3_isOrder F l G _ _ _ hr⟩
  · cases h
set_option maxRecDepth 100000 in
theorem k_X3_unturned : rx_Cal (rx_ny 60) prog_5_method_4_code 3 (some .int) (rx_kd 60) 1 := ⟨rx_in (i := 570) (by rfl) (by rfl), rx_in (i := 50) (by decide +kernel) (by decide +kernel), ⟨(by decide +kernel), (by decide +kernel), (by decide +kernel)⟩, Nat.le_of_ble_eq_true rfl, (by decide +kernel), fun _ => rx_in (i := 569) (by decide +kernel) (by decide +kernel), fun h => absurd h (by decide), fun h => absurd h (by decide)⟩
set_option maxRecDepth 100000 in
theorem tk_X3_unturned : (t_X3_unturned.all (rx_eok "SetHouse$Orders" prog_5_method_4_code 3 false false) && rx_adj t_X3_unturned) = true := by decide +kernel
theorem s_X3_unturned_4 {F : Nat × Nat} {l : Launch} {G : rx_G} {D : Nat} {hf : rx_H} {z : Int32} (hC : rx_CC l G D (C_X3_unturned F) z) : ∀ (f : Nat) (x0 : Int32) (x1 : Int32) (x2 : Int32), f_X3_unturned_4 F f x0 x1 x2 = some z → rx_S l G ("SetHouse$Orders", prog_5_method_4_code, 3, false, false, D) hf hf rx_rI z 4 [some (.int x0), some (.int x1), some (.int x2)] [] none := by
  intro f
  induction f with
  | zero =>
    intro x0 x1 x2 h
    cases h
  | succ f ih =>
    intro x0 x1 x2 h
    rw [g_X3_unturned_4] at h
    refine rx_S_node (md := ("SetHouse$Orders", prog_5_method_4_code, 3, false, false, D)) tk_X3_unturned hC rx_m_rI (fun t ls st u h => ?_) h
    unfold kk_X3_unturned_4 at h
    rcases rx_rec_eq h with ⟨hb, h⟩ | ⟨hb, h⟩
    · have ht := Nat.eq_of_beq_eq_true hb
      subst ht
      unfold n_X3_unturned_4 at h
      split at h
      · exact (ih _ _ _ h).le ⟨Or.inr rfl, Or.inr rfl, Or.inr rfl, trivial⟩
      · cases h
    cases h
theorem s_X3_unturned_0 {F : Nat × Nat} {l : Launch} {G : rx_G} {D : Nat} {hf : rx_H} {z : Int32} (hC : rx_CC l G D (C_X3_unturned F) z) (x0 : Int32) (h : f_X3_unturned_0 F x0 = some z) : rx_S l G ("SetHouse$Orders", prog_5_method_4_code, 3, false, false, D) hf hf rx_rI z 0 [some (.int x0), none, none] [] none := by
  rw [g_X3_unturned_0] at h
  refine rx_S_node (md := ("SetHouse$Orders", prog_5_method_4_code, 3, false, false, D)) tk_X3_unturned hC rx_m_rI (fun t ls st u h => ?_) h
  unfold kk_X3_unturned_0 at h
  rcases rx_rec_eq h with ⟨hb, h⟩ | ⟨hb, h⟩
  · have ht := Nat.eq_of_beq_eq_true hb
    subst ht
    unfold n_X3_unturned_4 at h
    split at h
    · exact (s_X3_unturned_4 hC _ _ _ _ h).le ⟨Or.inr rfl, Or.inr rfl, Or.inr rfl, trivial⟩
    · cases h
  cases h
theorem cc_X3_unturned (F : Nat × Nat) (l : Launch) (G : rx_G) {α : Type} (z : α) : rx_CC l G (0 + 0 * F.2) (C_X3_unturned F) z := by
  intro j as u κ h
  unfold C_X3_unturned at h
  cases h
theorem m_X3_unturned (F : Nat × Nat) (l : Launch) (G : rx_G) (hf : rx_H) (x0 : Int32) {z : Int32} (h : f_X3_unturned F x0 = some z) : rx_Ok l G (1 + 0 * F.2) (rx_ny 60) prog_5_method_4_code 3 (some .int) [.int x0] hf (some (.int z)) hf := by
  have h := h
  unfold f_X3_unturned at h
  exact (rx_met (l := l) (G := G) (hf := hf) (as := [.int x0]) (r := (some (.int z))) (ls0 := [some (.int x0), none, none]) (y := rx_ny 60) (D := (0 + 0 * F.2)) (ini := false) (bo := false) (u := none) (u' := none) k_X3_unturned (fun h => by cases h) (Nat.le_of_ble_eq_true rfl) (Or.inl ⟨rfl, rfl, _, rfl⟩) (fun Z hZ hB => rx_RT_rI hZ hB) (by exact ⟨Or.inr rfl, Or.inl rfl, Or.inl rfl, trivial⟩) (s_X3_unturned_0 (cc_X3_unturned F l G z) x0 h)).deep (by omega)
theorem w_X3_unturned (F : Nat × Nat) (l : Launch) (G : rx_G) {α : Type} {z : α} {as : List Value} {u : Option rx_H} {κ : rx_K α} (h : c_X3_unturned F as u κ = some z) : rx_Cw l G (1 + 0 * F.2) 60 as u κ z := by
  unfold c_X3_unturned at h
  split at h
  · obtain ⟨r, hr, h⟩ := Option.bind_eq_some_iff.mp h
    exact ⟨_, _, _, _, _, _, h, k_X3_unturned, fun _ => rfl, fun h => absurd rfl h, fun hf => m_X3_unturned F l G _ _ hr⟩
  · cases h
set_option maxRecDepth 100000 in
theorem k_X3_swapDigits : rx_Cal (rx_ny 58) prog_5_method_5_code 4 (some .int) (rx_kd 58) 3 := ⟨rx_in (i := 583) (by rfl) (by rfl), rx_in (i := 50) (by decide +kernel) (by decide +kernel), ⟨(by decide +kernel), (by decide +kernel), (by decide +kernel)⟩, Nat.le_of_ble_eq_true rfl, (by decide +kernel), fun _ => rx_in (i := 582) (by decide +kernel) (by decide +kernel), fun h => absurd h (by decide), fun h => absurd h (by decide)⟩
set_option maxRecDepth 100000 in
theorem tk_X3_swapDigits : (t_X3_swapDigits.all (rx_eok "SetHouse$Orders" prog_5_method_5_code 4 false false) && rx_adj t_X3_swapDigits) = true := by decide +kernel
theorem s_X3_swapDigits_0 {F : Nat × Nat} {l : Launch} {G : rx_G} {D : Nat} {hf : rx_H} {z : Int32} (hC : rx_CC l G D (C_X3_swapDigits F) z) (x0 : Int32) (x1 : Int32) (x2 : Int32) (h : f_X3_swapDigits_0 F x0 x1 x2 = some z) : rx_S l G ("SetHouse$Orders", prog_5_method_5_code, 4, false, false, D) hf hf rx_rI z 0 [some (.int x0), some (.int x1), some (.int x2), none] [] none := by
  rw [g_X3_swapDigits_0] at h
  refine rx_S_node (md := ("SetHouse$Orders", prog_5_method_5_code, 4, false, false, D)) tk_X3_swapDigits hC rx_m_rI (fun t ls st u h => ?_) h
  unfold kk_X3_swapDigits_0 at h
  cases h
theorem cc_X3_swapDigits (F : Nat × Nat) (l : Launch) (G : rx_G) {α : Type} (z : α) : rx_CC l G (1 + 0 * F.2) (C_X3_swapDigits F) z := by
  intro j as u κ h
  unfold C_X3_swapDigits at h
  rcases rx_rec_eq h with ⟨hb, h⟩ | ⟨hb, h⟩
  · have ht := Nat.eq_of_beq_eq_true hb
    subst ht
    exact (w_X3_digit F l G h).deep (by omega)
  cases h
theorem m_X3_swapDigits (F : Nat × Nat) (l : Launch) (G : rx_G) (hf : rx_H) (x0 : Int32) (x1 : Int32) (x2 : Int32) {z : Int32} (h : f_X3_swapDigits F x0 x1 x2 = some z) : rx_Ok l G (2 + 0 * F.2) (rx_ny 58) prog_5_method_5_code 4 (some .int) [.int x0, .int x1, .int x2] hf (some (.int z)) hf := by
  have h := h
  unfold f_X3_swapDigits at h
  exact (rx_met (l := l) (G := G) (hf := hf) (as := [.int x0, .int x1, .int x2]) (r := (some (.int z))) (ls0 := [some (.int x0), some (.int x1), some (.int x2), none]) (y := rx_ny 58) (D := (1 + 0 * F.2)) (ini := false) (bo := false) (u := none) (u' := none) k_X3_swapDigits (fun h => by cases h) (Nat.le_of_ble_eq_true rfl) (Or.inl ⟨rfl, rfl, _, rfl⟩) (fun Z hZ hB => rx_RT_rI hZ hB) (by exact ⟨Or.inr rfl, Or.inr rfl, Or.inr rfl, Or.inl rfl, trivial⟩) (s_X3_swapDigits_0 (cc_X3_swapDigits F l G z) x0 x1 x2 h)).deep (by omega)
theorem w_X3_swapDigits (F : Nat × Nat) (l : Launch) (G : rx_G) {α : Type} {z : α} {as : List Value} {u : Option rx_H} {κ : rx_K α} (h : c_X3_swapDigits F as u κ = some z) : rx_Cw l G (2 + 0 * F.2) 58 as u κ z := by
  unfold c_X3_swapDigits at h
  split at h
  · obtain ⟨r, hr, h⟩ := Option.bind_eq_some_iff.mp h
    exact ⟨_, _, _, _, _, _, h, k_X3_swapDigits, fun _ => rfl, fun h => absurd rfl h, fun hf => m_X3_swapDigits F l G _ _ _ _ hr⟩
  · cases h
set_option maxRecDepth 100000 in
theorem k_X3_turnedBy : rx_Cal (rx_ny 59) prog_5_method_6_code 9 (some .long) (rx_kd 59) 3 := ⟨rx_in (i := 397) (by rfl) (by rfl), rx_in (i := 50) (by decide +kernel) (by decide +kernel), ⟨(by decide +kernel), (by decide +kernel), (by decide +kernel)⟩, Nat.le_of_ble_eq_true rfl, (by decide +kernel), fun _ => rx_in (i := 396) (by decide +kernel) (by decide +kernel), fun h => absurd h (by decide), fun h => absurd h (by decide)⟩
set_option maxRecDepth 100000 in
theorem tk_X3_turnedBy : (t_X3_turnedBy.all (rx_eok "SetHouse$Orders" prog_5_method_6_code 9 false false) && rx_adj t_X3_turnedBy) = true := by decide +kernel
theorem s_X3_turnedBy_23 {F : Nat × Nat} {l : Launch} {G : rx_G} {D : Nat} {hf : rx_H} {z : Int64} (hC : rx_CC l G D (C_X3_turnedBy F) z) {k10 : Int64 → Int32 → Int32 → Int64 → Int32 → Option Int64} (hk10 : ∀ (x0 : Int64) (x2 : Int32) (x3 : Int32) (x4 : Int64) (x6 : Int32), k10 x0 x2 x3 x4 x6 = some z → rx_S l G ("SetHouse$Orders", prog_5_method_6_code, 9, false, false, D) hf hf rx_rJ z 10 [some (.long x0), none, some (.int x2), some (.int x3), some (.long x4), none, some (.int x6), none, none] [] none) : ∀ (f : Nat) (x0 : Int64) (x2 : Int32) (x3 : Int32) (x4 : Int64) (x6 : Int32) (x7 : Int32) (x8 : Int32), f_X3_turnedBy_23 F k10 f x0 x2 x3 x4 x6 x7 x8 = some z → rx_S l G ("SetHouse$Orders", prog_5_method_6_code, 9, false, false, D) hf hf rx_rJ z 23 [some (.long x0), none, some (.int x2), some (.int x3), some (.long x4), none, some (.int x6), some (.int x7), some (.int x8)] [] none := by
  intro f
  induction f with
  | zero =>
    intro x0 x2 x3 x4 x6 x7 x8 h
    cases h
  | succ f ih =>
    intro x0 x2 x3 x4 x6 x7 x8 h
    rw [g_X3_turnedBy_23] at h
    refine rx_S_node (md := ("SetHouse$Orders", prog_5_method_6_code, 9, false, false, D)) tk_X3_turnedBy hC rx_m_rJ (fun t ls st u h => ?_) h
    unfold kk_X3_turnedBy_23 at h
    rcases rx_rec_eq h with ⟨hb, h⟩ | ⟨hb, h⟩
    · have ht := Nat.eq_of_beq_eq_true hb
      subst ht
      unfold n_X3_turnedBy_10 at h
      split at h
      · exact (hk10 _ _ _ _ _ h).le ⟨Or.inr rfl, Or.inl rfl, Or.inr rfl, Or.inr rfl, Or.inr rfl, Or.inl rfl, Or.inr rfl, Or.inl rfl, Or.inl rfl, trivial⟩
      · cases h
    rcases rx_rec_eq h with ⟨hb, h⟩ | ⟨hb, h⟩
    · have ht := Nat.eq_of_beq_eq_true hb
      subst ht
      unfold n_X3_turnedBy_23 at h
      split at h
      · exact (ih _ _ _ _ _ _ _ h).le ⟨Or.inr rfl, Or.inl rfl, Or.inr rfl, Or.inr rfl, Or.inr rfl, Or.inl rfl, Or.inr rfl, Or.inr rfl, Or.inr rfl, trivial⟩
      · cases h
    cases h
theorem s_X3_turnedBy_10 {F : Nat × Nat} {l : Launch} {G : rx_G} {D : Nat} {hf : rx_H} {z : Int64} (hC : rx_CC l G D (C_X3_turnedBy F) z) : ∀ (f : Nat) (x0 : Int64) (x2 : Int32) (x3 : Int32) (x4 : Int64) (x6 : Int32), f_X3_turnedBy_10 F f x0 x2 x3 x4 x6 = some z → rx_S l G ("SetHouse$Orders", prog_5_method_6_code, 9, false, false, D) hf hf rx_rJ z 10 [some (.long x0), none, some (.int x2), some (.int x3), some (.long x4), none, some (.int x6), none, none] [] none := by
  intro f
  induction f with
  | zero =>
    intro x0 x2 x3 x4 x6 h
    cases h
  | succ f ih =>
    intro x0 x2 x3 x4 x6 h
    rw [g_X3_turnedBy_10] at h
    refine rx_S_node (md := ("SetHouse$Orders", prog_5_method_6_code, 9, false, false, D)) tk_X3_turnedBy hC rx_m_rJ (fun t ls st u h => ?_) h
    unfold kk_X3_turnedBy_10 at h
    rcases rx_rec_eq h with ⟨hb, h⟩ | ⟨hb, h⟩
    · have ht := Nat.eq_of_beq_eq_true hb
      subst ht
      unfold n_X3_turnedBy_23 at h
      split at h
      · exact (s_X3_turnedBy_23 hC ih _ _ _ _ _ _ _ _ h).le ⟨Or.inr rfl, Or.inl rfl, Or.inr rfl, Or.inr rfl, Or.inr rfl, Or.inl rfl, Or.inr rfl, Or.inr rfl, Or.inr rfl, trivial⟩
      · cases h
    cases h
theorem s_X3_turnedBy_0 {F : Nat × Nat} {l : Launch} {G : rx_G} {D : Nat} {hf : rx_H} {z : Int64} (hC : rx_CC l G D (C_X3_turnedBy F) z) (x0 : Int64) (x2 : Int32) (x3 : Int32) (h : f_X3_turnedBy_0 F x0 x2 x3 = some z) : rx_S l G ("SetHouse$Orders", prog_5_method_6_code, 9, false, false, D) hf hf rx_rJ z 0 [some (.long x0), none, some (.int x2), some (.int x3), none, none, none, none, none] [] none := by
  rw [g_X3_turnedBy_0] at h
  refine rx_S_node (md := ("SetHouse$Orders", prog_5_method_6_code, 9, false, false, D)) tk_X3_turnedBy hC rx_m_rJ (fun t ls st u h => ?_) h
  unfold kk_X3_turnedBy_0 at h
  rcases rx_rec_eq h with ⟨hb, h⟩ | ⟨hb, h⟩
  · have ht := Nat.eq_of_beq_eq_true hb
    subst ht
    unfold n_X3_turnedBy_10 at h
    split at h
    · exact (s_X3_turnedBy_10 hC _ _ _ _ _ _ h).le ⟨Or.inr rfl, Or.inl rfl, Or.inr rfl, Or.inr rfl, Or.inr rfl, Or.inl rfl, Or.inr rfl, Or.inl rfl, Or.inl rfl, trivial⟩
    · cases h
  cases h
theorem cc_X3_turnedBy (F : Nat × Nat) (l : Launch) (G : rx_G) {α : Type} (z : α) : rx_CC l G (2 + 0 * F.2) (C_X3_turnedBy F) z := by
  intro j as u κ h
  unfold C_X3_turnedBy at h
  rcases rx_rec_eq h with ⟨hb, h⟩ | ⟨hb, h⟩
  · have ht := Nat.eq_of_beq_eq_true hb
    subst ht
    exact (w_X0_next F l G h).deep (by omega)
  rcases rx_rec_eq h with ⟨hb, h⟩ | ⟨hb, h⟩
  · have ht := Nat.eq_of_beq_eq_true hb
    subst ht
    exact (w_X3_digit F l G h).deep (by omega)
  cases h
theorem m_X3_turnedBy (F : Nat × Nat) (l : Launch) (G : rx_G) (hf : rx_H) (x0 : Int64) (x2 : Int32) (x3 : Int32) {z : Int64} (h : f_X3_turnedBy F x0 x2 x3 = some z) : rx_Ok l G (3 + 0 * F.2) (rx_ny 59) prog_5_method_6_code 9 (some .long) [.long x0, .int x2, .int x3] hf (some (.long z)) hf := by
  have h := h
  unfold f_X3_turnedBy at h
  exact (rx_met (l := l) (G := G) (hf := hf) (as := [.long x0, .int x2, .int x3]) (r := (some (.long z))) (ls0 := [some (.long x0), none, some (.int x2), some (.int x3), none, none, none, none, none]) (y := rx_ny 59) (D := (2 + 0 * F.2)) (ini := false) (bo := false) (u := none) (u' := none) k_X3_turnedBy (fun h => by cases h) (Nat.le_of_ble_eq_true rfl) (Or.inr (Or.inr (Or.inl ⟨rfl, _, rfl⟩))) (fun Z hZ hB => rx_RT_rJ hZ hB) (by exact ⟨Or.inr rfl, Or.inl rfl, Or.inr rfl, Or.inr rfl, Or.inl rfl, Or.inl rfl, Or.inl rfl, Or.inl rfl, Or.inl rfl, trivial⟩) (s_X3_turnedBy_0 (cc_X3_turnedBy F l G z) x0 x2 x3 h)).deep (by omega)
theorem w_X3_turnedBy (F : Nat × Nat) (l : Launch) (G : rx_G) {α : Type} {z : α} {as : List Value} {u : Option rx_H} {κ : rx_K α} (h : c_X3_turnedBy F as u κ = some z) : rx_Cw l G (3 + 0 * F.2) 59 as u κ z := by
  unfold c_X3_turnedBy at h
  split at h
  · obtain ⟨r, hr, h⟩ := Option.bind_eq_some_iff.mp h
    exact ⟨_, _, _, _, _, _, h, k_X3_turnedBy, fun _ => rfl, fun h => absurd rfl h, fun hf => m_X3_turnedBy F l G _ _ _ _ hr⟩
  · cases h
set_option maxRecDepth 100000 in
theorem k_X3_stretch : rx_Cal (rx_ny 57) prog_5_method_7_code 6 (some .int) (rx_kd 57) 4 := ⟨rx_in (i := 472) (by rfl) (by rfl), rx_in (i := 50) (by decide +kernel) (by decide +kernel), ⟨(by decide +kernel), (by decide +kernel), (by decide +kernel)⟩, Nat.le_of_ble_eq_true rfl, (by decide +kernel), fun _ => rx_in (i := 471) (by decide +kernel) (by decide +kernel), fun h => absurd h (by decide), fun h => absurd h (by decide)⟩
set_option maxRecDepth 100000 in
theorem tk_X3_stretch : (t_X3_stretch.all (rx_eok "SetHouse$Orders" prog_5_method_7_code 6 false false) && rx_adj t_X3_stretch) = true := by decide +kernel
theorem s_X3_stretch_33 {F : Nat × Nat} {l : Launch} {G : rx_G} {D : Nat} {hf : rx_H} {z : Int32} (hC : rx_CC l G D (C_X3_stretch F) z) {k6 : Int32 → Int32 → Int32 → Int32 → Int32 → Int32 → Option Int32} (hk6 : ∀ (x0 : Int32) (x1 : Int32) (x2 : Int32) (x3 : Int32) (x4 : Int32) (x5 : Int32), k6 x0 x1 x2 x3 x4 x5 = some z → rx_S l G ("SetHouse$Orders", prog_5_method_7_code, 6, false, false, D) hf hf rx_rI z 6 [some (.int x0), some (.int x1), some (.int x2), some (.int x3), some (.int x4), some (.int x5)] [] none) (x0 : Int32) (x1 : Int32) (x2 : Int32) (x3 : Int32) (x5 : Int32) (s0 : Int32) (s1 : Int32) (s2 : Int32) (s3 : Int32) (h : f_X3_stretch_33 F k6 x0 x1 x2 x3 x5 s0 s1 s2 s3 = some z) : rx_S l G ("SetHouse$Orders", prog_5_method_7_code, 6, false, false, D) hf hf rx_rI z 33 [some (.int x0), some (.int x1), some (.int x2), some (.int x3), none, some (.int x5)] [.int s3, .int s2, .int s1, .int s0] none := by
  rw [g_X3_stretch_33] at h
  refine rx_S_node (md := ("SetHouse$Orders", prog_5_method_7_code, 6, false, false, D)) tk_X3_stretch hC rx_m_rI (fun t ls st u h => ?_) h
  unfold kk_X3_stretch_33 at h
  rcases rx_rec_eq h with ⟨hb, h⟩ | ⟨hb, h⟩
  · have ht := Nat.eq_of_beq_eq_true hb
    subst ht
    unfold n_X3_stretch_6 at h
    split at h
    · exact (hk6 _ _ _ _ _ _ h).le ⟨Or.inr rfl, Or.inr rfl, Or.inr rfl, Or.inr rfl, Or.inr rfl, Or.inr rfl, trivial⟩
    · cases h
  cases h
theorem s_X3_stretch_6 {F : Nat × Nat} {l : Launch} {G : rx_G} {D : Nat} {hf : rx_H} {z : Int32} (hC : rx_CC l G D (C_X3_stretch F) z) : ∀ (f : Nat) (x0 : Int32) (x1 : Int32) (x2 : Int32) (x3 : Int32) (x4 : Int32) (x5 : Int32), f_X3_stretch_6 F f x0 x1 x2 x3 x4 x5 = some z → rx_S l G ("SetHouse$Orders", prog_5_method_7_code, 6, false, false, D) hf hf rx_rI z 6 [some (.int x0), some (.int x1), some (.int x2), some (.int x3), some (.int x4), some (.int x5)] [] none := by
  intro f
  induction f with
  | zero =>
    intro x0 x1 x2 x3 x4 x5 h
    cases h
  | succ f ih =>
    intro x0 x1 x2 x3 x4 x5 h
    rw [g_X3_stretch_6] at h
    refine rx_S_node (md := ("SetHouse$Orders", prog_5_method_7_code, 6, false, false, D)) tk_X3_stretch hC rx_m_rI (fun t ls st u h => ?_) h
    unfold kk_X3_stretch_6 at h
    rcases rx_rec_eq h with ⟨hb, h⟩ | ⟨hb, h⟩
    · have ht := Nat.eq_of_beq_eq_true hb
      subst ht
      unfold n_X3_stretch_33 at h
      split at h
      · exact (s_X3_stretch_33 hC ih _ _ _ _ _ _ _ _ _ h).le ⟨Or.inr rfl, Or.inr rfl, Or.inr rfl, Or.inr rfl, Or.inl rfl, Or.inr rfl, trivial⟩
      · cases h
    cases h
theorem s_X3_stretch_0 {F : Nat × Nat} {l : Launch} {G : rx_G} {D : Nat} {hf : rx_H} {z : Int32} (hC : rx_CC l G D (C_X3_stretch F) z) (x0 : Int32) (x1 : Int32) (x2 : Int32) (x3 : Int32) (h : f_X3_stretch_0 F x0 x1 x2 x3 = some z) : rx_S l G ("SetHouse$Orders", prog_5_method_7_code, 6, false, false, D) hf hf rx_rI z 0 [some (.int x0), some (.int x1), some (.int x2), some (.int x3), none, none] [] none := by
  rw [g_X3_stretch_0] at h
  refine rx_S_node (md := ("SetHouse$Orders", prog_5_method_7_code, 6, false, false, D)) tk_X3_stretch hC rx_m_rI (fun t ls st u h => ?_) h
  unfold kk_X3_stretch_0 at h
  rcases rx_rec_eq h with ⟨hb, h⟩ | ⟨hb, h⟩
  · have ht := Nat.eq_of_beq_eq_true hb
    subst ht
    unfold n_X3_stretch_6 at h
    split at h
    · exact (s_X3_stretch_6 hC _ _ _ _ _ _ _ h).le ⟨Or.inr rfl, Or.inr rfl, Or.inr rfl, Or.inr rfl, Or.inr rfl, Or.inr rfl, trivial⟩
    · cases h
  cases h
theorem cc_X3_stretch (F : Nat × Nat) (l : Launch) (G : rx_G) {α : Type} (z : α) : rx_CC l G (1 + 0 * F.2) (C_X3_stretch F) z := by
  intro j as u κ h
  unfold C_X3_stretch at h
  rcases rx_rec_eq h with ⟨hb, h⟩ | ⟨hb, h⟩
  · have ht := Nat.eq_of_beq_eq_true hb
    subst ht
    exact (w_X3_digit F l G h).deep (by omega)
  cases h
theorem m_X3_stretch (F : Nat × Nat) (l : Launch) (G : rx_G) (hf : rx_H) (x0 : Int32) (x1 : Int32) (x2 : Int32) (x3 : Int32) {z : Int32} (h : f_X3_stretch F x0 x1 x2 x3 = some z) : rx_Ok l G (2 + 0 * F.2) (rx_ny 57) prog_5_method_7_code 6 (some .int) [.int x0, .int x1, .int x2, .int x3] hf (some (.int z)) hf := by
  have h := h
  unfold f_X3_stretch at h
  exact (rx_met (l := l) (G := G) (hf := hf) (as := [.int x0, .int x1, .int x2, .int x3]) (r := (some (.int z))) (ls0 := [some (.int x0), some (.int x1), some (.int x2), some (.int x3), none, none]) (y := rx_ny 57) (D := (1 + 0 * F.2)) (ini := false) (bo := false) (u := none) (u' := none) k_X3_stretch (fun h => by cases h) (Nat.le_of_ble_eq_true rfl) (Or.inl ⟨rfl, rfl, _, rfl⟩) (fun Z hZ hB => rx_RT_rI hZ hB) (by exact ⟨Or.inr rfl, Or.inr rfl, Or.inr rfl, Or.inr rfl, Or.inl rfl, Or.inl rfl, trivial⟩) (s_X3_stretch_0 (cc_X3_stretch F l G z) x0 x1 x2 x3 h)).deep (by omega)
theorem w_X3_stretch (F : Nat × Nat) (l : Launch) (G : rx_G) {α : Type} {z : α} {as : List Value} {u : Option rx_H} {κ : rx_K α} (h : c_X3_stretch F as u κ = some z) : rx_Cw l G (2 + 0 * F.2) 57 as u κ z := by
  unfold c_X3_stretch at h
  split at h
  · obtain ⟨r, hr, h⟩ := Option.bind_eq_some_iff.mp h
    exact ⟨_, _, _, _, _, _, h, k_X3_stretch, fun _ => rfl, fun h => absurd rfl h, fun hf => m_X3_stretch F l G _ _ _ _ _ hr⟩
  · cases h
set_option maxRecDepth 100000 in
theorem k_X3_agree : rx_Cal (rx_ny 52) prog_5_method_10_code 5 (some .boolean) (rx_kd 52) 3 := ⟨rx_in (i := 576) (by rfl) (by rfl), rx_in (i := 50) (by decide +kernel) (by decide +kernel), ⟨(by decide +kernel), (by decide +kernel), (by decide +kernel)⟩, Nat.le_of_ble_eq_true rfl, (by decide +kernel), fun _ => rx_in (i := 575) (by decide +kernel) (by decide +kernel), fun h => absurd h (by decide), fun h => absurd h (by decide)⟩
set_option maxRecDepth 100000 in
theorem tk_X3_agree : (t_X3_agree.all (rx_eok "SetHouse$Orders" prog_5_method_10_code 5 false true) && rx_adj t_X3_agree) = true := by decide +kernel
theorem s_X3_agree_0 {F : Nat × Nat} {l : Launch} {G : rx_G} {D : Nat} {hf : rx_H} {z : Int32} (hC : rx_CC l G D (C_X3_agree F) z) (x0 : Int64) (x2 : Int64) (x4 : Int32) (h : f_X3_agree_0 F x0 x2 x4 = some z) : rx_S l G ("SetHouse$Orders", prog_5_method_10_code, 5, false, true, D) hf hf rx_rI z 0 [some (.long x0), none, some (.long x2), none, some (.int x4)] [] none := by
  rw [g_X3_agree_0] at h
  refine rx_S_node (md := ("SetHouse$Orders", prog_5_method_10_code, 5, false, true, D)) tk_X3_agree hC rx_m_rI (fun t ls st u h => ?_) h
  unfold kk_X3_agree_0 at h
  cases h
theorem cc_X3_agree (F : Nat × Nat) (l : Launch) (G : rx_G) {α : Type} (z : α) : rx_CC l G (1 + 0 * F.2) (C_X3_agree F) z := by
  intro j as u κ h
  unfold C_X3_agree at h
  rcases rx_rec_eq h with ⟨hb, h⟩ | ⟨hb, h⟩
  · have ht := Nat.eq_of_beq_eq_true hb
    subst ht
    exact (w_X0_below F l G h).deep (by omega)
  cases h
theorem m_X3_agree (F : Nat × Nat) (l : Launch) (G : rx_G) (hf : rx_H) (x0 : Int64) (x2 : Int64) (x4 : Int32) {z : Int32} (h : f_X3_agree F x0 x2 x4 = some z) : rx_Ok l G (2 + 0 * F.2) (rx_ny 52) prog_5_method_10_code 5 (some .boolean) [.long x0, .long x2, .int x4] hf (some (.int z)) hf := by
  have h := h
  unfold f_X3_agree at h
  exact (rx_met (l := l) (G := G) (hf := hf) (as := [.long x0, .long x2, .int x4]) (r := (some (.int z))) (ls0 := [some (.long x0), none, some (.long x2), none, some (.int x4)]) (y := rx_ny 52) (D := (1 + 0 * F.2)) (ini := false) (bo := true) (u := none) (u' := none) k_X3_agree (fun h => by cases h) (Nat.le_of_ble_eq_true rfl) (Or.inr (Or.inl ⟨rfl, rfl, _, rfl⟩)) (fun Z hZ hB => rx_RT_rI hZ hB) (by exact ⟨Or.inr rfl, Or.inl rfl, Or.inr rfl, Or.inl rfl, Or.inr rfl, trivial⟩) (s_X3_agree_0 (cc_X3_agree F l G z) x0 x2 x4 h)).deep (by omega)
theorem w_X3_agree (F : Nat × Nat) (l : Launch) (G : rx_G) {α : Type} {z : α} {as : List Value} {u : Option rx_H} {κ : rx_K α} (h : c_X3_agree F as u κ = some z) : rx_Cw l G (2 + 0 * F.2) 52 as u κ z := by
  unfold c_X3_agree at h
  split at h
  · obtain ⟨r, hr, h⟩ := Option.bind_eq_some_iff.mp h
    exact ⟨_, _, _, _, _, _, h, k_X3_agree, fun _ => rfl, fun h => absurd rfl h, fun hf => m_X3_agree F l G _ _ _ _ hr⟩
  · cases h
set_option maxRecDepth 100000 in
theorem k_X3_leastTurn : rx_Cal (rx_ny 56) prog_5_method_8_code 12 (some .int) (rx_kd 56) 5 := ⟨rx_in (i := 573) (by rfl) (by rfl), rx_in (i := 50) (by decide +kernel) (by decide +kernel), ⟨(by decide +kernel), (by decide +kernel), (by decide +kernel)⟩, Nat.le_of_ble_eq_true rfl, (by decide +kernel), fun _ => rx_in (i := 572) (by decide +kernel) (by decide +kernel), fun h => absurd h (by decide), fun h => absurd h (by decide)⟩
set_option maxRecDepth 100000 in
theorem tk_X3_leastTurn : (t_X3_leastTurn.all (rx_eok "SetHouse$Orders" prog_5_method_8_code 12 false false) && rx_adj t_X3_leastTurn) = true := by decide +kernel
theorem s_X3_leastTurn_34 {F : Nat × Nat} {d : Nat} {l : Launch} {G : rx_G} {D : Nat} {hf : rx_H} {z : Int32} (hC : rx_CC l G D (C_X3_leastTurn F d) z) : ∀ (f : Nat) (x0 : Int64) (x5 : Int32) (x6 : Int32) (x7 : Int64) (x9 : Int32) (x10 : Int32), f_X3_leastTurn_34 F (f_X3_leastTurn F d) f x0 x5 x6 x7 x9 x10 = some z → rx_S l G ("SetHouse$Orders", prog_5_method_8_code, 12, false, false, D) hf hf rx_rI z 34 [some (.long x0), none, none, none, none, some (.int x5), some (.int x6), some (.long x7), none, some (.int x9), some (.int x10), none] [] none := by
  intro f
  induction f with
  | zero =>
    intro x0 x5 x6 x7 x9 x10 h
    cases h
  | succ f ih =>
    intro x0 x5 x6 x7 x9 x10 h
    rw [g_X3_leastTurn_34] at h
    refine rx_S_node (md := ("SetHouse$Orders", prog_5_method_8_code, 12, false, false, D)) tk_X3_leastTurn hC rx_m_rI (fun t ls st u h => ?_) h
    unfold kk_X3_leastTurn_34 at h
    rcases rx_rec_eq h with ⟨hb, h⟩ | ⟨hb, h⟩
    · have ht := Nat.eq_of_beq_eq_true hb
      subst ht
      unfold n_X3_leastTurn_34 at h
      split at h
      · exact (ih _ _ _ _ _ _ h).le ⟨Or.inr rfl, Or.inl rfl, Or.inl rfl, Or.inl rfl, Or.inl rfl, Or.inr rfl, Or.inr rfl, Or.inr rfl, Or.inl rfl, Or.inr rfl, Or.inr rfl, Or.inl rfl, trivial⟩
      · cases h
    cases h
theorem s_X3_leastTurn_0 {F : Nat × Nat} {d : Nat} {l : Launch} {G : rx_G} {D : Nat} {hf : rx_H} {z : Int32} (hC : rx_CC l G D (C_X3_leastTurn F d) z) (x0 : Int64) (x2 : Int64) (x4 : Int32) (x5 : Int32) (x6 : Int32) (h : f_X3_leastTurn_0 F (f_X3_leastTurn F d) x0 x2 x4 x5 x6 = some z) : rx_S l G ("SetHouse$Orders", prog_5_method_8_code, 12, false, false, D) hf hf rx_rI z 0 [some (.long x0), none, some (.long x2), none, some (.int x4), some (.int x5), some (.int x6), none, none, none, none, none] [] none := by
  rw [g_X3_leastTurn_0] at h
  refine rx_S_node (md := ("SetHouse$Orders", prog_5_method_8_code, 12, false, false, D)) tk_X3_leastTurn hC rx_m_rI (fun t ls st u h => ?_) h
  unfold kk_X3_leastTurn_0 at h
  rcases rx_rec_eq h with ⟨hb, h⟩ | ⟨hb, h⟩
  · have ht := Nat.eq_of_beq_eq_true hb
    subst ht
    unfold n_X3_leastTurn_34 at h
    split at h
    · exact (s_X3_leastTurn_34 hC _ _ _ _ _ _ _ h).le ⟨Or.inr rfl, Or.inl rfl, Or.inl rfl, Or.inl rfl, Or.inl rfl, Or.inr rfl, Or.inr rfl, Or.inr rfl, Or.inl rfl, Or.inr rfl, Or.inr rfl, Or.inl rfl, trivial⟩
    · cases h
  cases h
theorem cc_X3_leastTurn (F : Nat × Nat) (d : Nat) (l : Launch) (G : rx_G) (hs : ∀ {α : Type} {z : α} {as : List Value} {u : Option rx_H} {κ : rx_K α}, c_X3_leastTurn F d as u κ = some z → rx_Cw l G (2 + d) 56 as u κ z) {α : Type} (z : α) : rx_CC l G (2 + d) (C_X3_leastTurn F d) z := by
  intro j as u κ h
  unfold C_X3_leastTurn at h
  rcases rx_rec_eq h with ⟨hb, h⟩ | ⟨hb, h⟩
  · have ht := Nat.eq_of_beq_eq_true hb
    subst ht
    exact (w_X0_swapped F l G h).deep (by omega)
  rcases rx_rec_eq h with ⟨hb, h⟩ | ⟨hb, h⟩
  · have ht := Nat.eq_of_beq_eq_true hb
    subst ht
    exact (w_X3_agree F l G h).deep (by omega)
  rcases rx_rec_eq h with ⟨hb, h⟩ | ⟨hb, h⟩
  · have ht := Nat.eq_of_beq_eq_true hb
    subst ht
    exact hs h
  rcases rx_rec_eq h with ⟨hb, h⟩ | ⟨hb, h⟩
  · have ht := Nat.eq_of_beq_eq_true hb
    subst ht
    exact (w_X3_swapDigits F l G h).deep (by omega)
  cases h
theorem m_X3_leastTurn (F : Nat × Nat) (l : Launch) (G : rx_G) : ∀ (d : Nat) (hf : rx_H) (x0 : Int64) (x2 : Int64) (x4 : Int32) (x5 : Int32) (x6 : Int32) (z : Int32), f_X3_leastTurn F d x0 x2 x4 x5 x6 = some z → rx_Ok l G (2 + d) (rx_ny 56) prog_5_method_8_code 12 (some .int) [.long x0, .long x2, .int x4, .int x5, .int x6] hf (some (.int z)) hf := by
  intro d
  induction d with
  | zero =>
    intro hf x0 x2 x4 x5 x6 z h
    cases h
  | succ d ih =>
    intro hf x0 x2 x4 x5 x6 z h
    have hs : ∀ {α : Type} {z : α} {as : List Value} {u : Option rx_H} {κ : rx_K α}, c_X3_leastTurn F d as u κ = some z → rx_Cw l G (2 + d) 56 as u κ z := by
      intro α z as u κ h
      unfold c_X3_leastTurn at h
      split at h
      · obtain ⟨r, hr, h⟩ := Option.bind_eq_some_iff.mp h
        exact ⟨_, _, _, _, _, _, h, k_X3_leastTurn, fun _ => rfl, fun h => absurd rfl h, fun hf => ih _ _ _ _ _ _ _ hr⟩
      · cases h
    exact (rx_met (l := l) (G := G) (hf := hf) (as := [.long x0, .long x2, .int x4, .int x5, .int x6]) (r := (some (.int z))) (ls0 := [some (.long x0), none, some (.long x2), none, some (.int x4), some (.int x5), some (.int x6), none, none, none, none, none]) (y := rx_ny 56) (D := (2 + d)) (ini := false) (bo := false) (u := none) (u' := none) k_X3_leastTurn (fun h => by cases h) (Nat.le_of_ble_eq_true rfl) (Or.inl ⟨rfl, rfl, _, rfl⟩) (fun Z hZ hB => rx_RT_rI hZ hB) (by exact ⟨Or.inr rfl, Or.inl rfl, Or.inr rfl, Or.inl rfl, Or.inr rfl, Or.inr rfl, Or.inr rfl, Or.inl rfl, Or.inl rfl, Or.inl rfl, Or.inl rfl, Or.inl rfl, trivial⟩) (s_X3_leastTurn_0 (cc_X3_leastTurn F d l G hs z) x0 x2 x4 x5 x6 h)).deep (by omega)
theorem w_X3_leastTurn (F : Nat × Nat) (l : Launch) (G : rx_G) {α : Type} {z : α} {as : List Value} {u : Option rx_H} {κ : rx_K α} (h : c_X3_leastTurn F F.2 as u κ = some z) : rx_Cw l G (2 + 1 * F.2) 56 as u κ z := by
  unfold c_X3_leastTurn at h
  split at h
  · obtain ⟨r, hr, h⟩ := Option.bind_eq_some_iff.mp h
    exact ⟨_, _, _, _, _, _, h, k_X3_leastTurn, fun _ => rfl, fun h => absurd rfl h, fun hf => (m_X3_leastTurn F l G F.2 _ _ _ _ _ _ _ hr).deep (by omega)⟩
  · cases h
set_option maxRecDepth 100000 in
theorem k_X3_countTurns : rx_Cal (rx_ny 53) prog_5_method_9_code 10 (some .int) (rx_kd 53) 4 := ⟨rx_in (i := 591) (by rfl) (by rfl), rx_in (i := 50) (by decide +kernel) (by decide +kernel), ⟨(by decide +kernel), (by decide +kernel), (by decide +kernel)⟩, Nat.le_of_ble_eq_true rfl, (by decide +kernel), fun _ => rx_in (i := 590) (by decide +kernel) (by decide +kernel), fun h => absurd h (by decide), fun h => absurd h (by decide)⟩
set_option maxRecDepth 100000 in
theorem tk_X3_countTurns : (t_X3_countTurns.all (rx_eok "SetHouse$Orders" prog_5_method_9_code 10 false false) && rx_adj t_X3_countTurns) = true := by decide +kernel
theorem s_X3_countTurns_31 {F : Nat × Nat} {d : Nat} {l : Launch} {G : rx_G} {D : Nat} {hf : rx_H} {z : Int32} (hC : rx_CC l G D (C_X3_countTurns F d) z) : ∀ (f : Nat) (x0 : Int64) (x4 : Int32) (x5 : Int32) (x6 : Int64) (x8 : Int32) (x9 : Int32), f_X3_countTurns_31 F (f_X3_countTurns F d) f x0 x4 x5 x6 x8 x9 = some z → rx_S l G ("SetHouse$Orders", prog_5_method_9_code, 10, false, false, D) hf hf rx_rI z 31 [some (.long x0), none, none, none, some (.int x4), some (.int x5), some (.long x6), none, some (.int x8), some (.int x9)] [] none := by
  intro f
  induction f with
  | zero =>
    intro x0 x4 x5 x6 x8 x9 h
    cases h
  | succ f ih =>
    intro x0 x4 x5 x6 x8 x9 h
    rw [g_X3_countTurns_31] at h
    refine rx_S_node (md := ("SetHouse$Orders", prog_5_method_9_code, 10, false, false, D)) tk_X3_countTurns hC rx_m_rI (fun t ls st u h => ?_) h
    unfold kk_X3_countTurns_31 at h
    rcases rx_rec_eq h with ⟨hb, h⟩ | ⟨hb, h⟩
    · have ht := Nat.eq_of_beq_eq_true hb
      subst ht
      unfold n_X3_countTurns_31 at h
      split at h
      · exact (ih _ _ _ _ _ _ h).le ⟨Or.inr rfl, Or.inl rfl, Or.inl rfl, Or.inl rfl, Or.inr rfl, Or.inr rfl, Or.inr rfl, Or.inl rfl, Or.inr rfl, Or.inr rfl, trivial⟩
      · cases h
    cases h
theorem s_X3_countTurns_0 {F : Nat × Nat} {d : Nat} {l : Launch} {G : rx_G} {D : Nat} {hf : rx_H} {z : Int32} (hC : rx_CC l G D (C_X3_countTurns F d) z) (x0 : Int64) (x2 : Int64) (x4 : Int32) (x5 : Int32) (h : f_X3_countTurns_0 F (f_X3_countTurns F d) x0 x2 x4 x5 = some z) : rx_S l G ("SetHouse$Orders", prog_5_method_9_code, 10, false, false, D) hf hf rx_rI z 0 [some (.long x0), none, some (.long x2), none, some (.int x4), some (.int x5), none, none, none, none] [] none := by
  rw [g_X3_countTurns_0] at h
  refine rx_S_node (md := ("SetHouse$Orders", prog_5_method_9_code, 10, false, false, D)) tk_X3_countTurns hC rx_m_rI (fun t ls st u h => ?_) h
  unfold kk_X3_countTurns_0 at h
  rcases rx_rec_eq h with ⟨hb, h⟩ | ⟨hb, h⟩
  · have ht := Nat.eq_of_beq_eq_true hb
    subst ht
    unfold n_X3_countTurns_31 at h
    split at h
    · exact (s_X3_countTurns_31 hC _ _ _ _ _ _ _ h).le ⟨Or.inr rfl, Or.inl rfl, Or.inl rfl, Or.inl rfl, Or.inr rfl, Or.inr rfl, Or.inr rfl, Or.inl rfl, Or.inr rfl, Or.inr rfl, trivial⟩
    · cases h
  cases h
theorem cc_X3_countTurns (F : Nat × Nat) (d : Nat) (l : Launch) (G : rx_G) (hs : ∀ {α : Type} {z : α} {as : List Value} {u : Option rx_H} {κ : rx_K α}, c_X3_countTurns F d as u κ = some z → rx_Cw l G (2 + d) 53 as u κ z) {α : Type} (z : α) : rx_CC l G (2 + d) (C_X3_countTurns F d) z := by
  intro j as u κ h
  unfold C_X3_countTurns at h
  rcases rx_rec_eq h with ⟨hb, h⟩ | ⟨hb, h⟩
  · have ht := Nat.eq_of_beq_eq_true hb
    subst ht
    exact (w_X0_swapped F l G h).deep (by omega)
  rcases rx_rec_eq h with ⟨hb, h⟩ | ⟨hb, h⟩
  · have ht := Nat.eq_of_beq_eq_true hb
    subst ht
    exact (w_X3_agree F l G h).deep (by omega)
  rcases rx_rec_eq h with ⟨hb, h⟩ | ⟨hb, h⟩
  · have ht := Nat.eq_of_beq_eq_true hb
    subst ht
    exact hs h
  cases h
theorem m_X3_countTurns (F : Nat × Nat) (l : Launch) (G : rx_G) : ∀ (d : Nat) (hf : rx_H) (x0 : Int64) (x2 : Int64) (x4 : Int32) (x5 : Int32) (z : Int32), f_X3_countTurns F d x0 x2 x4 x5 = some z → rx_Ok l G (2 + d) (rx_ny 53) prog_5_method_9_code 10 (some .int) [.long x0, .long x2, .int x4, .int x5] hf (some (.int z)) hf := by
  intro d
  induction d with
  | zero =>
    intro hf x0 x2 x4 x5 z h
    cases h
  | succ d ih =>
    intro hf x0 x2 x4 x5 z h
    have hs : ∀ {α : Type} {z : α} {as : List Value} {u : Option rx_H} {κ : rx_K α}, c_X3_countTurns F d as u κ = some z → rx_Cw l G (2 + d) 53 as u κ z := by
      intro α z as u κ h
      unfold c_X3_countTurns at h
      split at h
      · obtain ⟨r, hr, h⟩ := Option.bind_eq_some_iff.mp h
        exact ⟨_, _, _, _, _, _, h, k_X3_countTurns, fun _ => rfl, fun h => absurd rfl h, fun hf => ih _ _ _ _ _ _ hr⟩
      · cases h
    exact (rx_met (l := l) (G := G) (hf := hf) (as := [.long x0, .long x2, .int x4, .int x5]) (r := (some (.int z))) (ls0 := [some (.long x0), none, some (.long x2), none, some (.int x4), some (.int x5), none, none, none, none]) (y := rx_ny 53) (D := (2 + d)) (ini := false) (bo := false) (u := none) (u' := none) k_X3_countTurns (fun h => by cases h) (Nat.le_of_ble_eq_true rfl) (Or.inl ⟨rfl, rfl, _, rfl⟩) (fun Z hZ hB => rx_RT_rI hZ hB) (by exact ⟨Or.inr rfl, Or.inl rfl, Or.inr rfl, Or.inl rfl, Or.inr rfl, Or.inr rfl, Or.inl rfl, Or.inl rfl, Or.inl rfl, Or.inl rfl, trivial⟩) (s_X3_countTurns_0 (cc_X3_countTurns F d l G hs z) x0 x2 x4 x5 h)).deep (by omega)
theorem w_X3_countTurns (F : Nat × Nat) (l : Launch) (G : rx_G) {α : Type} {z : α} {as : List Value} {u : Option rx_H} {κ : rx_K α} (h : c_X3_countTurns F F.2 as u κ = some z) : rx_Cw l G (2 + 1 * F.2) 53 as u κ z := by
  unfold c_X3_countTurns at h
  split at h
  · obtain ⟨r, hr, h⟩ := Option.bind_eq_some_iff.mp h
    exact ⟨_, _, _, _, _, _, h, k_X3_countTurns, fun _ => rfl, fun h => absurd rfl h, fun hf => (m_X3_countTurns F l G F.2 _ _ _ _ _ _ hr).deep (by omega)⟩
  · cases h
set_option maxRecDepth 100000 in
theorem k_J9_min_7cf53 : rx_Cal (rx_ny 4) prog_15_method_69_code 2 (some .int) (rx_kd 4) 2 := ⟨rx_in (i := 516) (by rfl) (by rfl), rx_in (i := 42) (by decide +kernel) (by decide +kernel), ⟨(by decide +kernel), (by decide +kernel), (by decide +kernel)⟩, Nat.le_of_ble_eq_true rfl, (by decide +kernel), fun _ => rx_in (i := 515) (by decide +kernel) (by decide +kernel), fun h => absurd h (by decide), fun h => absurd h (by decide)⟩
set_option maxRecDepth 100000 in
theorem tk_J9_min_7cf53 : (t_J9_min_7cf53.all (rx_eok "java/lang/Math" prog_15_method_69_code 2 false false) && rx_adj t_J9_min_7cf53) = true := by decide +kernel
theorem s_J9_min_7cf53_0 {F : Nat × Nat} {l : Launch} {G : rx_G} {D : Nat} {hf : rx_H} {z : Int32} (hC : rx_CC l G D (C_J9_min_7cf53 F) z) (x0 : Int32) (x1 : Int32) (h : f_J9_min_7cf53_0 F x0 x1 = some z) : rx_S l G ("java/lang/Math", prog_15_method_69_code, 2, false, false, D) hf hf rx_rI z 0 [some (.int x0), some (.int x1)] [] none := by
  rw [g_J9_min_7cf53_0] at h
  refine rx_S_node (md := ("java/lang/Math", prog_15_method_69_code, 2, false, false, D)) tk_J9_min_7cf53 hC rx_m_rI (fun t ls st u h => ?_) h
  unfold kk_J9_min_7cf53_0 at h
  cases h
theorem cc_J9_min_7cf53 (F : Nat × Nat) (l : Launch) (G : rx_G) {α : Type} (z : α) : rx_CC l G (0 + 0 * F.2) (C_J9_min_7cf53 F) z := by
  intro j as u κ h
  unfold C_J9_min_7cf53 at h
  cases h
theorem m_J9_min_7cf53 (F : Nat × Nat) (l : Launch) (G : rx_G) (hf : rx_H) (x0 : Int32) (x1 : Int32) {z : Int32} (h : f_J9_min_7cf53 F x0 x1 = some z) : rx_Ok l G (1 + 0 * F.2) (rx_ny 4) prog_15_method_69_code 2 (some .int) [.int x0, .int x1] hf (some (.int z)) hf := by
  have h := h
  unfold f_J9_min_7cf53 at h
  exact (rx_met (l := l) (G := G) (hf := hf) (as := [.int x0, .int x1]) (r := (some (.int z))) (ls0 := [some (.int x0), some (.int x1)]) (y := rx_ny 4) (D := (0 + 0 * F.2)) (ini := false) (bo := false) (u := none) (u' := none) k_J9_min_7cf53 (fun h => by cases h) (Nat.le_of_ble_eq_true rfl) (Or.inl ⟨rfl, rfl, _, rfl⟩) (fun Z hZ hB => rx_RT_rI hZ hB) (by exact ⟨Or.inr rfl, Or.inr rfl, trivial⟩) (s_J9_min_7cf53_0 (cc_J9_min_7cf53 F l G z) x0 x1 h)).deep (by omega)
theorem w_J9_min_7cf53 (F : Nat × Nat) (l : Launch) (G : rx_G) {α : Type} {z : α} {as : List Value} {u : Option rx_H} {κ : rx_K α} (h : c_J9_min_7cf53 F as u κ = some z) : rx_Cw l G (1 + 0 * F.2) 4 as u κ z := by
  unfold c_J9_min_7cf53 at h
  split at h
  · obtain ⟨r, hr, h⟩ := Option.bind_eq_some_iff.mp h
    exact ⟨_, _, _, _, _, _, h, k_J9_min_7cf53, fun _ => rfl, fun h => absurd rfl h, fun hf => m_J9_min_7cf53 F l G _ _ _ hr⟩
  · cases h
set_option maxRecDepth 100000 in
theorem k_X5_fitting : rx_Cal (rx_ny 68) prog_7_method_4_code 5 (some .long) (rx_kd 68) 4 := ⟨rx_in (i := 506) (by rfl) (by rfl), rx_in (i := 45) (by decide +kernel) (by decide +kernel), ⟨(by decide +kernel), (by decide +kernel), (by decide +kernel)⟩, Nat.le_of_ble_eq_true rfl, (by decide +kernel), fun _ => rx_in (i := 505) (by decide +kernel) (by decide +kernel), fun h => absurd h (by decide), fun h => absurd h (by decide)⟩
set_option maxRecDepth 100000 in
theorem tk_X5_fitting : (t_X5_fitting.all (rx_eok "SetHouse$Seeker" prog_7_method_4_code 5 false false) && rx_adj t_X5_fitting) = true := by decide +kernel
theorem s_X5_fitting_0 {F : Nat × Nat} {l : Launch} {G : rx_G} {D : Nat} {hf : rx_H} {z : Int64} (hC : rx_CC l G D (C_X5_fitting F) z) (x0 : Int64) (x2 : Int32) (x3 : Int32) (x4 : Int32) (h : f_X5_fitting_0 F x0 x2 x3 x4 = some z) : rx_S l G ("SetHouse$Seeker", prog_7_method_4_code, 5, false, false, D) hf hf rx_rJ z 0 [some (.long x0), none, some (.int x2), some (.int x3), some (.int x4)] [] none := by
  rw [g_X5_fitting_0] at h
  refine rx_S_node (md := ("SetHouse$Seeker", prog_7_method_4_code, 5, false, false, D)) tk_X5_fitting hC rx_m_rJ (fun t ls st u h => ?_) h
  unfold kk_X5_fitting_0 at h
  cases h
theorem cc_X5_fitting (F : Nat × Nat) (l : Launch) (G : rx_G) {α : Type} (z : α) : rx_CC l G (1 + 0 * F.2) (C_X5_fitting F) z := by
  intro j as u κ h
  unfold C_X5_fitting at h
  rcases rx_rec_eq h with ⟨hb, h⟩ | ⟨hb, h⟩
  · have ht := Nat.eq_of_beq_eq_true hb
    subst ht
    exact (w_X0_below F l G h).deep (by omega)
  rcases rx_rec_eq h with ⟨hb, h⟩ | ⟨hb, h⟩
  · have ht := Nat.eq_of_beq_eq_true hb
    subst ht
    exact (w_X0_within F l G h).deep (by omega)
  cases h
theorem m_X5_fitting (F : Nat × Nat) (l : Launch) (G : rx_G) (hf : rx_H) (x0 : Int64) (x2 : Int32) (x3 : Int32) (x4 : Int32) {z : Int64} (h : f_X5_fitting F x0 x2 x3 x4 = some z) : rx_Ok l G (2 + 0 * F.2) (rx_ny 68) prog_7_method_4_code 5 (some .long) [.long x0, .int x2, .int x3, .int x4] hf (some (.long z)) hf := by
  have h := h
  unfold f_X5_fitting at h
  exact (rx_met (l := l) (G := G) (hf := hf) (as := [.long x0, .int x2, .int x3, .int x4]) (r := (some (.long z))) (ls0 := [some (.long x0), none, some (.int x2), some (.int x3), some (.int x4)]) (y := rx_ny 68) (D := (1 + 0 * F.2)) (ini := false) (bo := false) (u := none) (u' := none) k_X5_fitting (fun h => by cases h) (Nat.le_of_ble_eq_true rfl) (Or.inr (Or.inr (Or.inl ⟨rfl, _, rfl⟩))) (fun Z hZ hB => rx_RT_rJ hZ hB) (by exact ⟨Or.inr rfl, Or.inl rfl, Or.inr rfl, Or.inr rfl, Or.inr rfl, trivial⟩) (s_X5_fitting_0 (cc_X5_fitting F l G z) x0 x2 x3 x4 h)).deep (by omega)
theorem w_X5_fitting (F : Nat × Nat) (l : Launch) (G : rx_G) {α : Type} {z : α} {as : List Value} {u : Option rx_H} {κ : rx_K α} (h : c_X5_fitting F as u κ = some z) : rx_Cw l G (2 + 0 * F.2) 68 as u κ z := by
  unfold c_X5_fitting at h
  split at h
  · obtain ⟨r, hr, h⟩ := Option.bind_eq_some_iff.mp h
    exact ⟨_, _, _, _, _, _, h, k_X5_fitting, fun _ => rfl, fun h => absurd rfl h, fun hf => m_X5_fitting F l G _ _ _ _ _ hr⟩
  · cases h
set_option maxRecDepth 100000 in
theorem k_J9_max_7cf53 : rx_Cal (rx_ny 3) prog_15_method_65_code 2 (some .int) (rx_kd 3) 2 := ⟨rx_in (i := 540) (by rfl) (by rfl), rx_in (i := 42) (by decide +kernel) (by decide +kernel), ⟨(by decide +kernel), (by decide +kernel), (by decide +kernel)⟩, Nat.le_of_ble_eq_true rfl, (by decide +kernel), fun _ => rx_in (i := 539) (by decide +kernel) (by decide +kernel), fun h => absurd h (by decide), fun h => absurd h (by decide)⟩
set_option maxRecDepth 100000 in
theorem tk_J9_max_7cf53 : (t_J9_max_7cf53.all (rx_eok "java/lang/Math" prog_15_method_65_code 2 false false) && rx_adj t_J9_max_7cf53) = true := by decide +kernel
theorem s_J9_max_7cf53_0 {F : Nat × Nat} {l : Launch} {G : rx_G} {D : Nat} {hf : rx_H} {z : Int32} (hC : rx_CC l G D (C_J9_max_7cf53 F) z) (x0 : Int32) (x1 : Int32) (h : f_J9_max_7cf53_0 F x0 x1 = some z) : rx_S l G ("java/lang/Math", prog_15_method_65_code, 2, false, false, D) hf hf rx_rI z 0 [some (.int x0), some (.int x1)] [] none := by
  rw [g_J9_max_7cf53_0] at h
  refine rx_S_node (md := ("java/lang/Math", prog_15_method_65_code, 2, false, false, D)) tk_J9_max_7cf53 hC rx_m_rI (fun t ls st u h => ?_) h
  unfold kk_J9_max_7cf53_0 at h
  cases h
theorem cc_J9_max_7cf53 (F : Nat × Nat) (l : Launch) (G : rx_G) {α : Type} (z : α) : rx_CC l G (0 + 0 * F.2) (C_J9_max_7cf53 F) z := by
  intro j as u κ h
  unfold C_J9_max_7cf53 at h
  cases h
theorem m_J9_max_7cf53 (F : Nat × Nat) (l : Launch) (G : rx_G) (hf : rx_H) (x0 : Int32) (x1 : Int32) {z : Int32} (h : f_J9_max_7cf53 F x0 x1 = some z) : rx_Ok l G (1 + 0 * F.2) (rx_ny 3) prog_15_method_65_code 2 (some .int) [.int x0, .int x1] hf (some (.int z)) hf := by
  have h := h
  unfold f_J9_max_7cf53 at h
  exact (rx_met (l := l) (G := G) (hf := hf) (as := [.int x0, .int x1]) (r := (some (.int z))) (ls0 := [some (.int x0), some (.int x1)]) (y := rx_ny 3) (D := (0 + 0 * F.2)) (ini := false) (bo := false) (u := none) (u' := none) k_J9_max_7cf53 (fun h => by cases h) (Nat.le_of_ble_eq_true rfl) (Or.inl ⟨rfl, rfl, _, rfl⟩) (fun Z hZ hB => rx_RT_rI hZ hB) (by exact ⟨Or.inr rfl, Or.inr rfl, trivial⟩) (s_J9_max_7cf53_0 (cc_J9_max_7cf53 F l G z) x0 x1 h)).deep (by omega)
theorem w_J9_max_7cf53 (F : Nat × Nat) (l : Launch) (G : rx_G) {α : Type} {z : α} {as : List Value} {u : Option rx_H} {κ : rx_K α} (h : c_J9_max_7cf53 F as u κ = some z) : rx_Cw l G (1 + 0 * F.2) 3 as u κ z := by
  unfold c_J9_max_7cf53 at h
  split at h
  · obtain ⟨r, hr, h⟩ := Option.bind_eq_some_iff.mp h
    exact ⟨_, _, _, _, _, _, h, k_J9_max_7cf53, fun _ => rfl, fun h => absurd rfl h, fun hf => m_J9_max_7cf53 F l G _ _ _ hr⟩
  · cases h
set_option maxRecDepth 100000 in
theorem k_X5_near : rx_Cal (rx_ny 74) prog_7_method_10_code 7 (some .long) (rx_kd 74) 3 := ⟨rx_in (i := 563) (by rfl) (by rfl), rx_in (i := 45) (by decide +kernel) (by decide +kernel), ⟨(by decide +kernel), (by decide +kernel), (by decide +kernel)⟩, Nat.le_of_ble_eq_true rfl, (by decide +kernel), fun _ => rx_in (i := 562) (by decide +kernel) (by decide +kernel), fun h => absurd h (by decide), fun h => absurd h (by decide)⟩
set_option maxRecDepth 100000 in
theorem tk_X5_near : (t_X5_near.all (rx_eok "SetHouse$Seeker" prog_7_method_10_code 7 false false) && rx_adj t_X5_near) = true := by decide +kernel
theorem s_X5_near_41 {F : Nat × Nat} {l : Launch} {G : rx_G} {D : Nat} {hf : rx_H} {z : Int64} (hC : rx_CC l G D (C_X5_near F) z) {k10 : Int64 → Int32 → Int32 → Int64 → Int32 → Option Int64} (hk10 : ∀ (x0 : Int64) (x2 : Int32) (x3 : Int32) (x4 : Int64) (x6 : Int32), k10 x0 x2 x3 x4 x6 = some z → rx_S l G ("SetHouse$Seeker", prog_7_method_10_code, 7, false, false, D) hf hf rx_rJ z 10 [some (.long x0), none, some (.int x2), some (.int x3), some (.long x4), none, some (.int x6)] [] none) (x0 : Int64) (x2 : Int32) (x3 : Int32) (x4 : Int64) (x6 : Int32) (h : f_X5_near_41 F k10 x0 x2 x3 x4 x6 = some z) : rx_S l G ("SetHouse$Seeker", prog_7_method_10_code, 7, false, false, D) hf hf rx_rJ z 41 [some (.long x0), none, some (.int x2), some (.int x3), some (.long x4), none, some (.int x6)] [] none := by
  rw [g_X5_near_41] at h
  refine rx_S_node (md := ("SetHouse$Seeker", prog_7_method_10_code, 7, false, false, D)) tk_X5_near hC rx_m_rJ (fun t ls st u h => ?_) h
  unfold kk_X5_near_41 at h
  rcases rx_rec_eq h with ⟨hb, h⟩ | ⟨hb, h⟩
  · have ht := Nat.eq_of_beq_eq_true hb
    subst ht
    unfold n_X5_near_10 at h
    split at h
    · exact (hk10 _ _ _ _ _ h).le ⟨Or.inr rfl, Or.inl rfl, Or.inr rfl, Or.inr rfl, Or.inr rfl, Or.inl rfl, Or.inr rfl, trivial⟩
    · cases h
  cases h
theorem s_X5_near_10 {F : Nat × Nat} {l : Launch} {G : rx_G} {D : Nat} {hf : rx_H} {z : Int64} (hC : rx_CC l G D (C_X5_near F) z) : ∀ (f : Nat) (x0 : Int64) (x2 : Int32) (x3 : Int32) (x4 : Int64) (x6 : Int32), f_X5_near_10 F f x0 x2 x3 x4 x6 = some z → rx_S l G ("SetHouse$Seeker", prog_7_method_10_code, 7, false, false, D) hf hf rx_rJ z 10 [some (.long x0), none, some (.int x2), some (.int x3), some (.long x4), none, some (.int x6)] [] none := by
  intro f
  induction f with
  | zero =>
    intro x0 x2 x3 x4 x6 h
    cases h
  | succ f ih =>
    intro x0 x2 x3 x4 x6 h
    rw [g_X5_near_10] at h
    refine rx_S_node (md := ("SetHouse$Seeker", prog_7_method_10_code, 7, false, false, D)) tk_X5_near hC rx_m_rJ (fun t ls st u h => ?_) h
    unfold kk_X5_near_10 at h
    rcases rx_rec_eq h with ⟨hb, h⟩ | ⟨hb, h⟩
    · have ht := Nat.eq_of_beq_eq_true hb
      subst ht
      unfold n_X5_near_41 at h
      split at h
      · exact (s_X5_near_41 hC ih _ _ _ _ _ h).le ⟨Or.inr rfl, Or.inl rfl, Or.inr rfl, Or.inr rfl, Or.inr rfl, Or.inl rfl, Or.inr rfl, trivial⟩
      · cases h
    cases h
theorem s_X5_near_0 {F : Nat × Nat} {l : Launch} {G : rx_G} {D : Nat} {hf : rx_H} {z : Int64} (hC : rx_CC l G D (C_X5_near F) z) (x0 : Int64) (x2 : Int32) (x3 : Int32) (h : f_X5_near_0 F x0 x2 x3 = some z) : rx_S l G ("SetHouse$Seeker", prog_7_method_10_code, 7, false, false, D) hf hf rx_rJ z 0 [some (.long x0), none, some (.int x2), some (.int x3), none, none, none] [] none := by
  rw [g_X5_near_0] at h
  refine rx_S_node (md := ("SetHouse$Seeker", prog_7_method_10_code, 7, false, false, D)) tk_X5_near hC rx_m_rJ (fun t ls st u h => ?_) h
  unfold kk_X5_near_0 at h
  rcases rx_rec_eq h with ⟨hb, h⟩ | ⟨hb, h⟩
  · have ht := Nat.eq_of_beq_eq_true hb
    subst ht
    unfold n_X5_near_10 at h
    split at h
    · exact (s_X5_near_10 hC _ _ _ _ _ _ h).le ⟨Or.inr rfl, Or.inl rfl, Or.inr rfl, Or.inr rfl, Or.inr rfl, Or.inl rfl, Or.inr rfl, trivial⟩
    · cases h
  cases h
theorem cc_X5_near (F : Nat × Nat) (l : Launch) (G : rx_G) {α : Type} (z : α) : rx_CC l G (2 + 0 * F.2) (C_X5_near F) z := by
  intro j as u κ h
  unfold C_X5_near at h
  rcases rx_rec_eq h with ⟨hb, h⟩ | ⟨hb, h⟩
  · have ht := Nat.eq_of_beq_eq_true hb
    subst ht
    exact (w_J6_bitCount_0f7a4 F l G h).deep (by omega)
  rcases rx_rec_eq h with ⟨hb, h⟩ | ⟨hb, h⟩
  · have ht := Nat.eq_of_beq_eq_true hb
    subst ht
    exact (w_X0_next F l G h).deep (by omega)
  cases h
theorem m_X5_near (F : Nat × Nat) (l : Launch) (G : rx_G) (hf : rx_H) (x0 : Int64) (x2 : Int32) (x3 : Int32) {z : Int64} (h : f_X5_near F x0 x2 x3 = some z) : rx_Ok l G (3 + 0 * F.2) (rx_ny 74) prog_7_method_10_code 7 (some .long) [.long x0, .int x2, .int x3] hf (some (.long z)) hf := by
  have h := h
  unfold f_X5_near at h
  exact (rx_met (l := l) (G := G) (hf := hf) (as := [.long x0, .int x2, .int x3]) (r := (some (.long z))) (ls0 := [some (.long x0), none, some (.int x2), some (.int x3), none, none, none]) (y := rx_ny 74) (D := (2 + 0 * F.2)) (ini := false) (bo := false) (u := none) (u' := none) k_X5_near (fun h => by cases h) (Nat.le_of_ble_eq_true rfl) (Or.inr (Or.inr (Or.inl ⟨rfl, _, rfl⟩))) (fun Z hZ hB => rx_RT_rJ hZ hB) (by exact ⟨Or.inr rfl, Or.inl rfl, Or.inr rfl, Or.inr rfl, Or.inl rfl, Or.inl rfl, Or.inl rfl, trivial⟩) (s_X5_near_0 (cc_X5_near F l G z) x0 x2 x3 h)).deep (by omega)
theorem w_X5_near (F : Nat × Nat) (l : Launch) (G : rx_G) {α : Type} {z : α} {as : List Value} {u : Option rx_H} {κ : rx_K α} (h : c_X5_near F as u κ = some z) : rx_Cw l G (3 + 0 * F.2) 74 as u κ z := by
  unfold c_X5_near at h
  split at h
  · obtain ⟨r, hr, h⟩ := Option.bind_eq_some_iff.mp h
    exact ⟨_, _, _, _, _, _, h, k_X5_near, fun _ => rfl, fun h => absurd rfl h, fun hf => m_X5_near F l G _ _ _ _ hr⟩
  · cases h
set_option maxRecDepth 100000 in
theorem k_X5_largest : rx_Cal (rx_ny 72) prog_7_method_9_code 14 (some .long) (rx_kd 72) 5 := ⟨rx_in (i := 559) (by rfl) (by rfl), rx_in (i := 45) (by decide +kernel) (by decide +kernel), ⟨(by decide +kernel), (by decide +kernel), (by decide +kernel)⟩, Nat.le_of_ble_eq_true rfl, (by decide +kernel), fun _ => rx_in (i := 558) (by decide +kernel) (by decide +kernel), fun h => absurd h (by decide), fun h => absurd h (by decide)⟩
set_option maxRecDepth 100000 in
theorem tk_X5_largest : (t_X5_largest.all (rx_eok "SetHouse$Seeker" prog_7_method_9_code 14 false false) && rx_adj t_X5_largest) = true := by decide +kernel
theorem s_X5_largest_19 {F : Nat × Nat} {d : Nat} {l : Launch} {G : rx_G} {D : Nat} {hf : rx_H} {z : Int64} (hC : rx_CC l G D (C_X5_largest F d) z) (x0 : Int64) (x4 : Int64) (x8 : Int32) (h : f_X5_largest_19 F (f_X5_largest F d) x0 x4 x8 = some z) : rx_S l G ("SetHouse$Seeker", prog_7_method_9_code, 14, false, false, D) hf hf rx_rJ z 19 [some (.long x0), none, none, none, some (.long x4), none, none, none, some (.int x8), none, none, none, none, none] [] none := by
  rw [g_X5_largest_19] at h
  refine rx_S_node (md := ("SetHouse$Seeker", prog_7_method_9_code, 14, false, false, D)) tk_X5_largest hC rx_m_rJ (fun t ls st u h => ?_) h
  unfold kk_X5_largest_19 at h
  cases h
theorem s_X5_largest_0 {F : Nat × Nat} {d : Nat} {l : Launch} {G : rx_G} {D : Nat} {hf : rx_H} {z : Int64} (hC : rx_CC l G D (C_X5_largest F d) z) (x0 : Int64) (x2 : Int64) (x4 : Int64) (x6 : Int32) (x7 : Int32) (h : f_X5_largest_0 F (f_X5_largest F d) x0 x2 x4 x6 x7 = some z) : rx_S l G ("SetHouse$Seeker", prog_7_method_9_code, 14, false, false, D) hf hf rx_rJ z 0 [some (.long x0), none, some (.long x2), none, some (.long x4), none, some (.int x6), some (.int x7), none, none, none, none, none, none] [] none := by
  rw [g_X5_largest_0] at h
  refine rx_S_node (md := ("SetHouse$Seeker", prog_7_method_9_code, 14, false, false, D)) tk_X5_largest hC rx_m_rJ (fun t ls st u h => ?_) h
  unfold kk_X5_largest_0 at h
  rcases rx_rec_eq h with ⟨hb, h⟩ | ⟨hb, h⟩
  · have ht := Nat.eq_of_beq_eq_true hb
    subst ht
    unfold n_X5_largest_19 at h
    split at h
    · exact (s_X5_largest_19 hC _ _ _ h).le ⟨Or.inr rfl, Or.inl rfl, Or.inl rfl, Or.inl rfl, Or.inr rfl, Or.inl rfl, Or.inl rfl, Or.inl rfl, Or.inr rfl, Or.inl rfl, Or.inl rfl, Or.inl rfl, Or.inl rfl, Or.inl rfl, trivial⟩
    · cases h
  cases h
theorem cc_X5_largest (F : Nat × Nat) (d : Nat) (l : Launch) (G : rx_G) (hs : ∀ {α : Type} {z : α} {as : List Value} {u : Option rx_H} {κ : rx_K α}, c_X5_largest F d as u κ = some z → rx_Cw l G (3 + d) 72 as u κ z) {α : Type} (z : α) : rx_CC l G (3 + d) (C_X5_largest F d) z := by
  intro j as u κ h
  unfold C_X5_largest at h
  rcases rx_rec_eq h with ⟨hb, h⟩ | ⟨hb, h⟩
  · have ht := Nat.eq_of_beq_eq_true hb
    subst ht
    exact (w_X0_next F l G h).deep (by omega)
  rcases rx_rec_eq h with ⟨hb, h⟩ | ⟨hb, h⟩
  · have ht := Nat.eq_of_beq_eq_true hb
    subst ht
    exact (w_X0_size F l G h).deep (by omega)
  rcases rx_rec_eq h with ⟨hb, h⟩ | ⟨hb, h⟩
  · have ht := Nat.eq_of_beq_eq_true hb
    subst ht
    exact hs h
  rcases rx_rec_eq h with ⟨hb, h⟩ | ⟨hb, h⟩
  · have ht := Nat.eq_of_beq_eq_true hb
    subst ht
    exact (w_X5_near F l G h).deep (by omega)
  cases h
theorem m_X5_largest (F : Nat × Nat) (l : Launch) (G : rx_G) : ∀ (d : Nat) (hf : rx_H) (x0 : Int64) (x2 : Int64) (x4 : Int64) (x6 : Int32) (x7 : Int32) (z : Int64), f_X5_largest F d x0 x2 x4 x6 x7 = some z → rx_Ok l G (3 + d) (rx_ny 72) prog_7_method_9_code 14 (some .long) [.long x0, .long x2, .long x4, .int x6, .int x7] hf (some (.long z)) hf := by
  intro d
  induction d with
  | zero =>
    intro hf x0 x2 x4 x6 x7 z h
    cases h
  | succ d ih =>
    intro hf x0 x2 x4 x6 x7 z h
    have hs : ∀ {α : Type} {z : α} {as : List Value} {u : Option rx_H} {κ : rx_K α}, c_X5_largest F d as u κ = some z → rx_Cw l G (3 + d) 72 as u κ z := by
      intro α z as u κ h
      unfold c_X5_largest at h
      split at h
      · obtain ⟨r, hr, h⟩ := Option.bind_eq_some_iff.mp h
        exact ⟨_, _, _, _, _, _, h, k_X5_largest, fun _ => rfl, fun h => absurd rfl h, fun hf => ih _ _ _ _ _ _ _ hr⟩
      · cases h
    exact (rx_met (l := l) (G := G) (hf := hf) (as := [.long x0, .long x2, .long x4, .int x6, .int x7]) (r := (some (.long z))) (ls0 := [some (.long x0), none, some (.long x2), none, some (.long x4), none, some (.int x6), some (.int x7), none, none, none, none, none, none]) (y := rx_ny 72) (D := (3 + d)) (ini := false) (bo := false) (u := none) (u' := none) k_X5_largest (fun h => by cases h) (Nat.le_of_ble_eq_true rfl) (Or.inr (Or.inr (Or.inl ⟨rfl, _, rfl⟩))) (fun Z hZ hB => rx_RT_rJ hZ hB) (by exact ⟨Or.inr rfl, Or.inl rfl, Or.inr rfl, Or.inl rfl, Or.inr rfl, Or.inl rfl, Or.inr rfl, Or.inr rfl, Or.inl rfl, Or.inl rfl, Or.inl rfl, Or.inl rfl, Or.inl rfl, Or.inl rfl, trivial⟩) (s_X5_largest_0 (cc_X5_largest F d l G hs z) x0 x2 x4 x6 x7 h)).deep (by omega)
theorem w_X5_largest (F : Nat × Nat) (l : Launch) (G : rx_G) {α : Type} {z : α} {as : List Value} {u : Option rx_H} {κ : rx_K α} (h : c_X5_largest F F.2 as u κ = some z) : rx_Cw l G (3 + 1 * F.2) 72 as u κ z := by
  unfold c_X5_largest at h
  split at h
  · obtain ⟨r, hr, h⟩ := Option.bind_eq_some_iff.mp h
    exact ⟨_, _, _, _, _, _, h, k_X5_largest, fun _ => rfl, fun h => absurd rfl h, fun hf => (m_X5_largest F l G F.2 _ _ _ _ _ _ _ hr).deep (by omega)⟩
  · cases h
set_option maxRecDepth 100000 in
theorem k_J9_floorMod_7cf53 : rx_Cal (rx_ny 2) prog_15_method_50_code 3 (some .int) (rx_kd 2) 2 := ⟨rx_in (i := 68) (by rfl) (by rfl), rx_in (i := 42) (by decide +kernel) (by decide +kernel), ⟨(by decide +kernel), (by decide +kernel), (by decide +kernel)⟩, Nat.le_of_ble_eq_true rfl, (by decide +kernel), fun _ => rx_in (i := 67) (by decide +kernel) (by decide +kernel), fun h => absurd h (by decide), fun h => absurd h (by decide)⟩
set_option maxRecDepth 100000 in
theorem tk_J9_floorMod_7cf53 : (t_J9_floorMod_7cf53.all (rx_eok "java/lang/Math" prog_15_method_50_code 3 false false) && rx_adj t_J9_floorMod_7cf53) = true := by decide +kernel
theorem s_J9_floorMod_7cf53_0 {F : Nat × Nat} {l : Launch} {G : rx_G} {D : Nat} {hf : rx_H} {z : Int32} (hC : rx_CC l G D (C_J9_floorMod_7cf53 F) z) (x0 : Int32) (x1 : Int32) (h : f_J9_floorMod_7cf53_0 F x0 x1 = some z) : rx_S l G ("java/lang/Math", prog_15_method_50_code, 3, false, false, D) hf hf rx_rI z 0 [some (.int x0), some (.int x1), none] [] none := by
  rw [g_J9_floorMod_7cf53_0] at h
  refine rx_S_node (md := ("java/lang/Math", prog_15_method_50_code, 3, false, false, D)) tk_J9_floorMod_7cf53 hC rx_m_rI (fun t ls st u h => ?_) h
  unfold kk_J9_floorMod_7cf53_0 at h
  cases h
theorem cc_J9_floorMod_7cf53 (F : Nat × Nat) (l : Launch) (G : rx_G) {α : Type} (z : α) : rx_CC l G (0 + 0 * F.2) (C_J9_floorMod_7cf53 F) z := by
  intro j as u κ h
  unfold C_J9_floorMod_7cf53 at h
  cases h
theorem m_J9_floorMod_7cf53 (F : Nat × Nat) (l : Launch) (G : rx_G) (hf : rx_H) (x0 : Int32) (x1 : Int32) {z : Int32} (h : f_J9_floorMod_7cf53 F x0 x1 = some z) : rx_Ok l G (1 + 0 * F.2) (rx_ny 2) prog_15_method_50_code 3 (some .int) [.int x0, .int x1] hf (some (.int z)) hf := by
  have h := h
  unfold f_J9_floorMod_7cf53 at h
  exact (rx_met (l := l) (G := G) (hf := hf) (as := [.int x0, .int x1]) (r := (some (.int z))) (ls0 := [some (.int x0), some (.int x1), none]) (y := rx_ny 2) (D := (0 + 0 * F.2)) (ini := false) (bo := false) (u := none) (u' := none) k_J9_floorMod_7cf53 (fun h => by cases h) (Nat.le_of_ble_eq_true rfl) (Or.inl ⟨rfl, rfl, _, rfl⟩) (fun Z hZ hB => rx_RT_rI hZ hB) (by exact ⟨Or.inr rfl, Or.inr rfl, Or.inl rfl, trivial⟩) (s_J9_floorMod_7cf53_0 (cc_J9_floorMod_7cf53 F l G z) x0 x1 h)).deep (by omega)
theorem w_J9_floorMod_7cf53 (F : Nat × Nat) (l : Launch) (G : rx_G) {α : Type} {z : α} {as : List Value} {u : Option rx_H} {κ : rx_K α} (h : c_J9_floorMod_7cf53 F as u κ = some z) : rx_Cw l G (1 + 0 * F.2) 2 as u κ z := by
  unfold c_J9_floorMod_7cf53 at h
  split at h
  · obtain ⟨r, hr, h⟩ := Option.bind_eq_some_iff.mp h
    exact ⟨_, _, _, _, _, _, h, k_J9_floorMod_7cf53, fun _ => rfl, fun h => absurd rfl h, fun hf => m_J9_floorMod_7cf53 F l G _ _ _ hr⟩
  · cases h
set_option maxRecDepth 100000 in
theorem k_X6_isPlace : rx_Cal (rx_ny 102) prog_1_method_49_code 2 (some .boolean) (rx_kd 102) 1 := ⟨rx_in (i := 161) (by rfl) (by rfl), rx_in (i := 41) (by decide +kernel) (by decide +kernel), ⟨(by decide +kernel), (by decide +kernel), (by decide +kernel)⟩, Nat.le_of_ble_eq_true rfl, (by decide +kernel), fun h => absurd h (by decide), fun _ => ⟨rx_in (i := 160) (by decide +kernel) (by decide +kernel), rx_in (i := 0) (by decide +kernel) (by decide +kernel)⟩, fun h => absurd h (by decide)⟩
set_option maxRecDepth 100000 in
theorem tk_X6_isPlace : (t_X6_isPlace.all (rx_eok "SetHouse" prog_1_method_49_code 2 false true) && rx_adj t_X6_isPlace) = true := by decide +kernel
theorem s_X6_isPlace_0 {F : Nat × Nat} {l : Launch} {G : rx_G} {D : Nat} {hf : rx_H} {z : Int32} (hC : rx_CC l G D (C_X6_isPlace F) z) (x1 : Int32) (h : f_X6_isPlace_0 F x1 = some z) : rx_S l G ("SetHouse", prog_1_method_49_code, 2, false, true, D) hf hf rx_rI z 0 [none, some (.int x1)] [] none := by
  rw [g_X6_isPlace_0] at h
  refine rx_S_node (md := ("SetHouse", prog_1_method_49_code, 2, false, true, D)) tk_X6_isPlace hC rx_m_rI (fun t ls st u h => ?_) h
  unfold kk_X6_isPlace_0 at h
  cases h
theorem cc_X6_isPlace (F : Nat × Nat) (l : Launch) (G : rx_G) {α : Type} (z : α) : rx_CC l G (0 + 0 * F.2) (C_X6_isPlace F) z := by
  intro j as u κ h
  unfold C_X6_isPlace at h
  cases h
theorem m_X6_isPlace (F : Nat × Nat) (l : Launch) (G : rx_G) (hf : rx_H) (x0 : Nat) (x1 : Int32) {z : Int32} (h : f_X6_isPlace F x0 x1 = some z) : rx_Ok l G (1 + 0 * F.2) (rx_ny 102) prog_1_method_49_code 2 (some .boolean) [.ref x0, .int x1] hf (some (.int z)) hf := by
  have h := h
  unfold f_X6_isPlace at h
  exact (rx_met (l := l) (G := G) (hf := hf) (as := [.ref x0, .int x1]) (r := (some (.int z))) (ls0 := [none, some (.int x1)]) (y := rx_ny 102) (D := (0 + 0 * F.2)) (ini := false) (bo := true) (u := none) (u' := none) k_X6_isPlace (fun h => by cases h) (Nat.le_of_ble_eq_true rfl) (Or.inr (Or.inl ⟨rfl, rfl, _, rfl⟩)) (fun Z hZ hB => rx_RT_rI hZ hB) (by exact ⟨Or.inl rfl, Or.inr rfl, trivial⟩) (s_X6_isPlace_0 (cc_X6_isPlace F l G z) x1 h)).deep (by omega)
theorem w_X6_isPlace (F : Nat × Nat) (l : Launch) (G : rx_G) {α : Type} {z : α} {as : List Value} {u : Option rx_H} {κ : rx_K α} (h : c_X6_isPlace F as u κ = some z) : rx_Cw l G (1 + 0 * F.2) 102 as u κ z := by
  unfold c_X6_isPlace at h
  split at h
  · obtain ⟨r, hr, h⟩ := Option.bind_eq_some_iff.mp h
    exact ⟨_, _, _, _, _, _, h, k_X6_isPlace, fun h => absurd h (by decide), fun _ => ⟨_, _, rfl, rfl⟩, fun hf => m_X6_isPlace F l G _ _ _ hr⟩
  · cases h
set_option maxRecDepth 100000 in
theorem k_X6_cascade : rx_Cal (rx_ny 78) prog_1_method_27_code 4 (some .int) (rx_kd 78) 3 := ⟨rx_in (i := 439) (by rfl) (by rfl), rx_in (i := 41) (by decide +kernel) (by decide +kernel), ⟨(by decide +kernel), (by decide +kernel), (by decide +kernel)⟩, Nat.le_of_ble_eq_true rfl, (by decide +kernel), fun h => absurd h (by decide), fun _ => ⟨rx_in (i := 437) (by decide +kernel) (by decide +kernel), rx_in (i := 438) (by decide +kernel) (by decide +kernel)⟩, fun h => absurd h (by decide)⟩
set_option maxRecDepth 100000 in
theorem tk_X6_cascade : (t_X6_cascade.all (rx_eok "SetHouse" prog_1_method_27_code 4 false false) && rx_adj t_X6_cascade) = true := by decide +kernel
theorem s_X6_cascade_0 {F : Nat × Nat} {l : Launch} {G : rx_G} {D : Nat} {hf : rx_H} {z : Int32} (hC : rx_CC l G D (C_X6_cascade F) z) (x1 : Int32) (x2 : Int32) (x3 : Int32) (h : f_X6_cascade_0 F x1 x2 x3 = some z) : rx_S l G ("SetHouse", prog_1_method_27_code, 4, false, false, D) hf hf rx_rI z 0 [none, some (.int x1), some (.int x2), some (.int x3)] [] none := by
  rw [g_X6_cascade_0] at h
  refine rx_S_node (md := ("SetHouse", prog_1_method_27_code, 4, false, false, D)) tk_X6_cascade hC rx_m_rI (fun t ls st u h => ?_) h
  unfold kk_X6_cascade_0 at h
  cases h
theorem cc_X6_cascade (F : Nat × Nat) (l : Launch) (G : rx_G) {α : Type} (z : α) : rx_CC l G (2 + 0 * F.2) (C_X6_cascade F) z := by
  intro j as u κ h
  unfold C_X6_cascade at h
  rcases rx_rec_eq h with ⟨hb, h⟩ | ⟨hb, h⟩
  · have ht := Nat.eq_of_beq_eq_true hb
    subst ht
    exact (w_X2_cascadeNumber F l G h).deep (by omega)
  rcases rx_rec_eq h with ⟨hb, h⟩ | ⟨hb, h⟩
  · have ht := Nat.eq_of_beq_eq_true hb
    subst ht
    exact (w_X2_cascades F l G h).deep (by omega)
  cases h
theorem m_X6_cascade (F : Nat × Nat) (l : Launch) (G : rx_G) (hf : rx_H) (x0 : Nat) (x1 : Int32) (x2 : Int32) (x3 : Int32) {z : Int32} (h : f_X6_cascade F x0 x1 x2 x3 = some z) : rx_Ok l G (3 + 0 * F.2) (rx_ny 78) prog_1_method_27_code 4 (some .int) [.ref x0, .int x1, .int x2, .int x3] hf (some (.int z)) hf := by
  have h := h
  unfold f_X6_cascade at h
  exact (rx_met (l := l) (G := G) (hf := hf) (as := [.ref x0, .int x1, .int x2, .int x3]) (r := (some (.int z))) (ls0 := [none, some (.int x1), some (.int x2), some (.int x3)]) (y := rx_ny 78) (D := (2 + 0 * F.2)) (ini := false) (bo := false) (u := none) (u' := none) k_X6_cascade (fun h => by cases h) (Nat.le_of_ble_eq_true rfl) (Or.inl ⟨rfl, rfl, _, rfl⟩) (fun Z hZ hB => rx_RT_rI hZ hB) (by exact ⟨Or.inl rfl, Or.inr rfl, Or.inr rfl, Or.inr rfl, trivial⟩) (s_X6_cascade_0 (cc_X6_cascade F l G z) x1 x2 x3 h)).deep (by omega)
theorem w_X6_cascade (F : Nat × Nat) (l : Launch) (G : rx_G) {α : Type} {z : α} {as : List Value} {u : Option rx_H} {κ : rx_K α} (h : c_X6_cascade F as u κ = some z) : rx_Cw l G (3 + 0 * F.2) 78 as u κ z := by
  unfold c_X6_cascade at h
  split at h
  · obtain ⟨r, hr, h⟩ := Option.bind_eq_some_iff.mp h
    exact ⟨_, _, _, _, _, _, h, k_X6_cascade, fun h => absurd h (by decide), fun _ => ⟨_, _, rfl, rfl⟩, fun hf => m_X6_cascade F l G _ _ _ _ _ hr⟩
  · cases h
set_option maxRecDepth 100000 in
theorem k_X6_least : rx_Cal (rx_ny 108) prog_1_method_28_code 3 (some .int) (rx_kd 108) 2 := ⟨rx_in (i := 455) (by rfl) (by rfl), rx_in (i := 41) (by decide +kernel) (by decide +kernel), ⟨(by decide +kernel), (by decide +kernel), (by decide +kernel)⟩, Nat.le_of_ble_eq_true rfl, (by decide +kernel), fun h => absurd h (by decide), fun _ => ⟨rx_in (i := 453) (by decide +kernel) (by decide +kernel), rx_in (i := 454) (by decide +kernel) (by decide +kernel)⟩, fun h => absurd h (by decide)⟩
set_option maxRecDepth 100000 in
theorem tk_X6_least : (t_X6_least.all (rx_eok "SetHouse" prog_1_method_28_code 3 false false) && rx_adj t_X6_least) = true := by decide +kernel
theorem s_X6_least_0 {F : Nat × Nat} {l : Launch} {G : rx_G} {D : Nat} {hf : rx_H} {z : Int32} (hC : rx_CC l G D (C_X6_least F) z) (x1 : Int32) (x2 : Int32) (h : f_X6_least_0 F x1 x2 = some z) : rx_S l G ("SetHouse", prog_1_method_28_code, 3, false, false, D) hf hf rx_rI z 0 [none, some (.int x1), some (.int x2)] [] none := by
  rw [g_X6_least_0] at h
  refine rx_S_node (md := ("SetHouse", prog_1_method_28_code, 3, false, false, D)) tk_X6_least hC rx_m_rI (fun t ls st u h => ?_) h
  unfold kk_X6_least_0 at h
  cases h
theorem cc_X6_least (F : Nat × Nat) (l : Launch) (G : rx_G) {α : Type} (z : α) : rx_CC l G (2 + 0 * F.2) (C_X6_least F) z := by
  intro j as u κ h
  unfold C_X6_least at h
  rcases rx_rec_eq h with ⟨hb, h⟩ | ⟨hb, h⟩
  · have ht := Nat.eq_of_beq_eq_true hb
    subst ht
    exact (w_X2_cascades F l G h).deep (by omega)
  rcases rx_rec_eq h with ⟨hb, h⟩ | ⟨hb, h⟩
  · have ht := Nat.eq_of_beq_eq_true hb
    subst ht
    exact (w_X2_leastShadow F l G h).deep (by omega)
  cases h
theorem m_X6_least (F : Nat × Nat) (l : Launch) (G : rx_G) (hf : rx_H) (x0 : Nat) (x1 : Int32) (x2 : Int32) {z : Int32} (h : f_X6_least F x0 x1 x2 = some z) : rx_Ok l G (3 + 0 * F.2) (rx_ny 108) prog_1_method_28_code 3 (some .int) [.ref x0, .int x1, .int x2] hf (some (.int z)) hf := by
  have h := h
  unfold f_X6_least at h
  exact (rx_met (l := l) (G := G) (hf := hf) (as := [.ref x0, .int x1, .int x2]) (r := (some (.int z))) (ls0 := [none, some (.int x1), some (.int x2)]) (y := rx_ny 108) (D := (2 + 0 * F.2)) (ini := false) (bo := false) (u := none) (u' := none) k_X6_least (fun h => by cases h) (Nat.le_of_ble_eq_true rfl) (Or.inl ⟨rfl, rfl, _, rfl⟩) (fun Z hZ hB => rx_RT_rI hZ hB) (by exact ⟨Or.inl rfl, Or.inr rfl, Or.inr rfl, trivial⟩) (s_X6_least_0 (cc_X6_least F l G z) x1 x2 h)).deep (by omega)
theorem w_X6_least (F : Nat × Nat) (l : Launch) (G : rx_G) {α : Type} {z : α} {as : List Value} {u : Option rx_H} {κ : rx_K α} (h : c_X6_least F as u κ = some z) : rx_Cw l G (3 + 0 * F.2) 108 as u κ z := by
  unfold c_X6_least at h
  split at h
  · obtain ⟨r, hr, h⟩ := Option.bind_eq_some_iff.mp h
    exact ⟨_, _, _, _, _, _, h, k_X6_least, fun h => absurd h (by decide), fun _ => ⟨_, _, rfl, rfl⟩, fun hf => m_X6_least F l G _ _ _ _ hr⟩
  · cases h
set_option maxRecDepth 100000 in
theorem k_X7_isIn : rx_Cal (rx_ny 171) prog_9_method_2_code 3 (some .boolean) (rx_kd 171) 3 := ⟨rx_in (i := 804) (by rfl) (by rfl), rx_in (i := 46) (by decide +kernel) (by decide +kernel), ⟨(by decide +kernel), (by decide +kernel), (by decide +kernel)⟩, Nat.le_of_ble_eq_true rfl, (by decide +kernel), fun _ => rx_in (i := 803) (by decide +kernel) (by decide +kernel), fun h => absurd h (by decide), fun h => absurd h (by decide)⟩
set_option maxRecDepth 100000 in
theorem tk_X7_isIn : (t_X7_isIn.all (rx_eok "SetHouseModel" prog_9_method_2_code 3 false true) && rx_adj t_X7_isIn) = true := by decide +kernel
theorem s_X7_isIn_0 {F : Nat × Nat} {l : Launch} {G : rx_G} {D : Nat} {hf : rx_H} {z : Int32} (hC : rx_CC l G D (C_X7_isIn F) z) (x0 : Int32) (x1 : Int32) (x2 : Int32) (h : f_X7_isIn_0 F x0 x1 x2 = some z) : rx_S l G ("SetHouseModel", prog_9_method_2_code, 3, false, true, D) hf hf rx_rI z 0 [some (.int x0), some (.int x1), some (.int x2)] [] none := by
  rw [g_X7_isIn_0] at h
  refine rx_S_node (md := ("SetHouseModel", prog_9_method_2_code, 3, false, true, D)) tk_X7_isIn hC rx_m_rI (fun t ls st u h => ?_) h
  unfold kk_X7_isIn_0 at h
  cases h
theorem cc_X7_isIn (F : Nat × Nat) (l : Launch) (G : rx_G) {α : Type} (z : α) : rx_CC l G (0 + 0 * F.2) (C_X7_isIn F) z := by
  intro j as u κ h
  unfold C_X7_isIn at h
  cases h
theorem m_X7_isIn (F : Nat × Nat) (l : Launch) (G : rx_G) (hf : rx_H) (x0 : Int32) (x1 : Int32) (x2 : Int32) {z : Int32} (h : f_X7_isIn F x0 x1 x2 = some z) : rx_Ok l G (1 + 0 * F.2) (rx_ny 171) prog_9_method_2_code 3 (some .boolean) [.int x0, .int x1, .int x2] hf (some (.int z)) hf := by
  have h := h
  unfold f_X7_isIn at h
  exact (rx_met (l := l) (G := G) (hf := hf) (as := [.int x0, .int x1, .int x2]) (r := (some (.int z))) (ls0 := [some (.int x0), some (.int x1), some (.int x2)]) (y := rx_ny 171) (D := (0 + 0 * F.2)) (ini := false) (bo := true) (u := none) (u' := none) k_X7_isIn (fun h => by cases h) (Nat.le_of_ble_eq_true rfl) (Or.inr (Or.inl ⟨rfl, rfl, _, rfl⟩)) (fun Z hZ hB => rx_RT_rI hZ hB) (by exact ⟨Or.inr rfl, Or.inr rfl, Or.inr rfl, trivial⟩) (s_X7_isIn_0 (cc_X7_isIn F l G z) x0 x1 x2 h)).deep (by omega)
theorem w_X7_isIn (F : Nat × Nat) (l : Launch) (G : rx_G) {α : Type} {z : α} {as : List Value} {u : Option rx_H} {κ : rx_K α} (h : c_X7_isIn F as u κ = some z) : rx_Cw l G (1 + 0 * F.2) 171 as u κ z := by
  unfold c_X7_isIn at h
  split at h
  · obtain ⟨r, hr, h⟩ := Option.bind_eq_some_iff.mp h
    exact ⟨_, _, _, _, _, _, h, k_X7_isIn, fun _ => rfl, fun h => absurd rfl h, fun hf => m_X7_isIn F l G _ _ _ _ hr⟩
  · cases h
set_option maxRecDepth 100000 in
theorem k_X7_ones : rx_Cal (rx_ny 190) prog_9_method_4_code 3 (some .int) (rx_kd 190) 1 := ⟨rx_in (i := 842) (by rfl) (by rfl), rx_in (i := 46) (by decide +kernel) (by decide +kernel), ⟨(by decide +kernel), (by decide +kernel), (by decide +kernel)⟩, Nat.le_of_ble_eq_true rfl, (by decide +kernel), fun _ => rx_in (i := 841) (by decide +kernel) (by decide +kernel), fun h => absurd h (by decide), fun h => absurd h (by decide)⟩
set_option maxRecDepth 100000 in
theorem tk_X7_ones : (t_X7_ones.all (rx_eok "SetHouseModel" prog_9_method_4_code 3 false false) && rx_adj t_X7_ones) = true := by decide +kernel
theorem s_X7_ones_4 {F : Nat × Nat} {l : Launch} {G : rx_G} {D : Nat} {hf : rx_H} {z : Int32} (hC : rx_CC l G D (C_X7_ones F) z) : ∀ (f : Nat) (x1 : Int32) (x2 : Int32), f_X7_ones_4 F f x1 x2 = some z → rx_S l G ("SetHouseModel", prog_9_method_4_code, 3, false, false, D) hf hf rx_rI z 4 [none, some (.int x1), some (.int x2)] [] none := by
  intro f
  induction f with
  | zero =>
    intro x1 x2 h
    cases h
  | succ f ih =>
    intro x1 x2 h
    rw [g_X7_ones_4] at h
    refine rx_S_node (md := ("SetHouseModel", prog_9_method_4_code, 3, false, false, D)) tk_X7_ones hC rx_m_rI (fun t ls st u h => ?_) h
    unfold kk_X7_ones_4 at h
    rcases rx_rec_eq h with ⟨hb, h⟩ | ⟨hb, h⟩
    · have ht := Nat.eq_of_beq_eq_true hb
      subst ht
      unfold n_X7_ones_4 at h
      split at h
      · exact (ih _ _ h).le ⟨Or.inl rfl, Or.inr rfl, Or.inr rfl, trivial⟩
      · cases h
    cases h
theorem s_X7_ones_0 {F : Nat × Nat} {l : Launch} {G : rx_G} {D : Nat} {hf : rx_H} {z : Int32} (hC : rx_CC l G D (C_X7_ones F) z) (x0 : Int32) (h : f_X7_ones_0 F x0 = some z) : rx_S l G ("SetHouseModel", prog_9_method_4_code, 3, false, false, D) hf hf rx_rI z 0 [some (.int x0), none, none] [] none := by
  rw [g_X7_ones_0] at h
  refine rx_S_node (md := ("SetHouseModel", prog_9_method_4_code, 3, false, false, D)) tk_X7_ones hC rx_m_rI (fun t ls st u h => ?_) h
  unfold kk_X7_ones_0 at h
  rcases rx_rec_eq h with ⟨hb, h⟩ | ⟨hb, h⟩
  · have ht := Nat.eq_of_beq_eq_true hb
    subst ht
    unfold n_X7_ones_4 at h
    split at h
    · exact (s_X7_ones_4 hC _ _ _ h).le ⟨Or.inl rfl, Or.inr rfl, Or.inr rfl, trivial⟩
    · cases h
  cases h
theorem cc_X7_ones (F : Nat × Nat) (l : Launch) (G : rx_G) {α : Type} (z : α) : rx_CC l G (0 + 0 * F.2) (C_X7_ones F) z := by
  intro j as u κ h
  unfold C_X7_ones at h
  cases h
theorem m_X7_ones (F : Nat × Nat) (l : Launch) (G : rx_G) (hf : rx_H) (x0 : Int32) {z : Int32} (h : f_X7_ones F x0 = some z) : rx_Ok l G (1 + 0 * F.2) (rx_ny 190) prog_9_method_4_code 3 (some .int) [.int x0] hf (some (.int z)) hf := by
  have h := h
  unfold f_X7_ones at h
  exact (rx_met (l := l) (G := G) (hf := hf) (as := [.int x0]) (r := (some (.int z))) (ls0 := [some (.int x0), none, none]) (y := rx_ny 190) (D := (0 + 0 * F.2)) (ini := false) (bo := false) (u := none) (u' := none) k_X7_ones (fun h => by cases h) (Nat.le_of_ble_eq_true rfl) (Or.inl ⟨rfl, rfl, _, rfl⟩) (fun Z hZ hB => rx_RT_rI hZ hB) (by exact ⟨Or.inr rfl, Or.inl rfl, Or.inl rfl, trivial⟩) (s_X7_ones_0 (cc_X7_ones F l G z) x0 h)).deep (by omega)
theorem w_X7_ones (F : Nat × Nat) (l : Launch) (G : rx_G) {α : Type} {z : α} {as : List Value} {u : Option rx_H} {κ : rx_K α} (h : c_X7_ones F as u κ = some z) : rx_Cw l G (1 + 0 * F.2) 190 as u κ z := by
  unfold c_X7_ones at h
  split at h
  · obtain ⟨r, hr, h⟩ := Option.bind_eq_some_iff.mp h
    exact ⟨_, _, _, _, _, _, h, k_X7_ones, fun _ => rfl, fun h => absurd rfl h, fun hf => m_X7_ones F l G _ _ hr⟩
  · cases h
set_option maxRecDepth 100000 in
theorem k_X7_many : rx_Cal (rx_ny 184) prog_9_method_5_code 4 (some .int) (rx_kd 184) 1 := ⟨rx_in (i := 815) (by rfl) (by rfl), rx_in (i := 46) (by decide +kernel) (by decide +kernel), ⟨(by decide +kernel), (by decide +kernel), (by decide +kernel)⟩, Nat.le_of_ble_eq_true rfl, (by decide +kernel), fun _ => rx_in (i := 814) (by decide +kernel) (by decide +kernel), fun h => absurd h (by decide), fun h => absurd h (by decide)⟩
set_option maxRecDepth 100000 in
theorem tk_X7_many : (t_X7_many.all (rx_eok "SetHouseModel" prog_9_method_5_code 4 false false) && rx_adj t_X7_many) = true := by decide +kernel
theorem s_X7_many_4 {F : Nat × Nat} {l : Launch} {G : rx_G} {D : Nat} {hf : rx_H} {z : Int32} (hC : rx_CC l G D (C_X7_many F) z) : ∀ (f : Nat) (x0 : Int64) (x2 : Int32) (x3 : Int32), f_X7_many_4 F f x0 x2 x3 = some z → rx_S l G ("SetHouseModel", prog_9_method_5_code, 4, false, false, D) hf hf rx_rI z 4 [some (.long x0), none, some (.int x2), some (.int x3)] [] none := by
  intro f
  induction f with
  | zero =>
    intro x0 x2 x3 h
    cases h
  | succ f ih =>
    intro x0 x2 x3 h
    rw [g_X7_many_4] at h
    refine rx_S_node (md := ("SetHouseModel", prog_9_method_5_code, 4, false, false, D)) tk_X7_many hC rx_m_rI (fun t ls st u h => ?_) h
    unfold kk_X7_many_4 at h
    rcases rx_rec_eq h with ⟨hb, h⟩ | ⟨hb, h⟩
    · have ht := Nat.eq_of_beq_eq_true hb
      subst ht
      unfold n_X7_many_4 at h
      split at h
      · exact (ih _ _ _ h).le ⟨Or.inr rfl, Or.inl rfl, Or.inr rfl, Or.inr rfl, trivial⟩
      · cases h
    cases h
theorem s_X7_many_0 {F : Nat × Nat} {l : Launch} {G : rx_G} {D : Nat} {hf : rx_H} {z : Int32} (hC : rx_CC l G D (C_X7_many F) z) (x0 : Int64) (h : f_X7_many_0 F x0 = some z) : rx_S l G ("SetHouseModel", prog_9_method_5_code, 4, false, false, D) hf hf rx_rI z 0 [some (.long x0), none, none, none] [] none := by
  rw [g_X7_many_0] at h
  refine rx_S_node (md := ("SetHouseModel", prog_9_method_5_code, 4, false, false, D)) tk_X7_many hC rx_m_rI (fun t ls st u h => ?_) h
  unfold kk_X7_many_0 at h
  rcases rx_rec_eq h with ⟨hb, h⟩ | ⟨hb, h⟩
  · have ht := Nat.eq_of_beq_eq_true hb
    subst ht
    unfold n_X7_many_4 at h
    split at h
    · exact (s_X7_many_4 hC _ _ _ _ h).le ⟨Or.inr rfl, Or.inl rfl, Or.inr rfl, Or.inr rfl, trivial⟩
    · cases h
  cases h
theorem cc_X7_many (F : Nat × Nat) (l : Launch) (G : rx_G) {α : Type} (z : α) : rx_CC l G (0 + 0 * F.2) (C_X7_many F) z := by
  intro j as u κ h
  unfold C_X7_many at h
  cases h
theorem m_X7_many (F : Nat × Nat) (l : Launch) (G : rx_G) (hf : rx_H) (x0 : Int64) {z : Int32} (h : f_X7_many F x0 = some z) : rx_Ok l G (1 + 0 * F.2) (rx_ny 184) prog_9_method_5_code 4 (some .int) [.long x0] hf (some (.int z)) hf := by
  have h := h
  unfold f_X7_many at h
  exact (rx_met (l := l) (G := G) (hf := hf) (as := [.long x0]) (r := (some (.int z))) (ls0 := [some (.long x0), none, none, none]) (y := rx_ny 184) (D := (0 + 0 * F.2)) (ini := false) (bo := false) (u := none) (u' := none) k_X7_many (fun h => by cases h) (Nat.le_of_ble_eq_true rfl) (Or.inl ⟨rfl, rfl, _, rfl⟩) (fun Z hZ hB => rx_RT_rI hZ hB) (by exact ⟨Or.inr rfl, Or.inl rfl, Or.inl rfl, Or.inl rfl, trivial⟩) (s_X7_many_0 (cc_X7_many F l G z) x0 h)).deep (by omega)
theorem w_X7_many (F : Nat × Nat) (l : Launch) (G : rx_G) {α : Type} {z : α} {as : List Value} {u : Option rx_H} {κ : rx_K α} (h : c_X7_many F as u κ = some z) : rx_Cw l G (1 + 0 * F.2) 184 as u κ z := by
  unfold c_X7_many at h
  split at h
  · obtain ⟨r, hr, h⟩ := Option.bind_eq_some_iff.mp h
    exact ⟨_, _, _, _, _, _, h, k_X7_many, fun _ => rfl, fun h => absurd rfl h, fun hf => m_X7_many F l G _ _ hr⟩
  · cases h
set_option maxRecDepth 100000 in
theorem k_X7_has : rx_Cal (rx_ny 163) prog_9_method_6_code 3 (some .boolean) (rx_kd 163) 2 := ⟨rx_in (i := 848) (by rfl) (by rfl), rx_in (i := 46) (by decide +kernel) (by decide +kernel), ⟨(by decide +kernel), (by decide +kernel), (by decide +kernel)⟩, Nat.le_of_ble_eq_true rfl, (by decide +kernel), fun _ => rx_in (i := 847) (by decide +kernel) (by decide +kernel), fun h => absurd h (by decide), fun h => absurd h (by decide)⟩
set_option maxRecDepth 100000 in
theorem tk_X7_has : (t_X7_has.all (rx_eok "SetHouseModel" prog_9_method_6_code 3 false true) && rx_adj t_X7_has) = true := by decide +kernel
theorem s_X7_has_0 {F : Nat × Nat} {l : Launch} {G : rx_G} {D : Nat} {hf : rx_H} {z : Int32} (hC : rx_CC l G D (C_X7_has F) z) (x0 : Int64) (x2 : Int32) (h : f_X7_has_0 F x0 x2 = some z) : rx_S l G ("SetHouseModel", prog_9_method_6_code, 3, false, true, D) hf hf rx_rI z 0 [some (.long x0), none, some (.int x2)] [] none := by
  rw [g_X7_has_0] at h
  refine rx_S_node (md := ("SetHouseModel", prog_9_method_6_code, 3, false, true, D)) tk_X7_has hC rx_m_rI (fun t ls st u h => ?_) h
  unfold kk_X7_has_0 at h
  cases h
theorem cc_X7_has (F : Nat × Nat) (l : Launch) (G : rx_G) {α : Type} (z : α) : rx_CC l G (0 + 0 * F.2) (C_X7_has F) z := by
  intro j as u κ h
  unfold C_X7_has at h
  cases h
theorem m_X7_has (F : Nat × Nat) (l : Launch) (G : rx_G) (hf : rx_H) (x0 : Int64) (x2 : Int32) {z : Int32} (h : f_X7_has F x0 x2 = some z) : rx_Ok l G (1 + 0 * F.2) (rx_ny 163) prog_9_method_6_code 3 (some .boolean) [.long x0, .int x2] hf (some (.int z)) hf := by
  have h := h
  unfold f_X7_has at h
  exact (rx_met (l := l) (G := G) (hf := hf) (as := [.long x0, .int x2]) (r := (some (.int z))) (ls0 := [some (.long x0), none, some (.int x2)]) (y := rx_ny 163) (D := (0 + 0 * F.2)) (ini := false) (bo := true) (u := none) (u' := none) k_X7_has (fun h => by cases h) (Nat.le_of_ble_eq_true rfl) (Or.inr (Or.inl ⟨rfl, rfl, _, rfl⟩)) (fun Z hZ hB => rx_RT_rI hZ hB) (by exact ⟨Or.inr rfl, Or.inl rfl, Or.inr rfl, trivial⟩) (s_X7_has_0 (cc_X7_has F l G z) x0 x2 h)).deep (by omega)
theorem w_X7_has (F : Nat × Nat) (l : Launch) (G : rx_G) {α : Type} {z : α} {as : List Value} {u : Option rx_H} {κ : rx_K α} (h : c_X7_has F as u κ = some z) : rx_Cw l G (1 + 0 * F.2) 163 as u κ z := by
  unfold c_X7_has at h
  split at h
  · obtain ⟨r, hr, h⟩ := Option.bind_eq_some_iff.mp h
    exact ⟨_, _, _, _, _, _, h, k_X7_has, fun _ => rfl, fun h => absurd rfl h, fun hf => m_X7_has F l G _ _ _ hr⟩
  · cases h
set_option maxRecDepth 100000 in
theorem k_X7_isWithin : rx_Cal (rx_ny 177) prog_9_method_8_code 2 (some .boolean) (rx_kd 177) 2 := ⟨rx_in (i := 851) (by rfl) (by rfl), rx_in (i := 46) (by decide +kernel) (by decide +kernel), ⟨(by decide +kernel), (by decide +kernel), (by decide +kernel)⟩, Nat.le_of_ble_eq_true rfl, (by decide +kernel), fun _ => rx_in (i := 850) (by decide +kernel) (by decide +kernel), fun h => absurd h (by decide), fun h => absurd h (by decide)⟩
set_option maxRecDepth 100000 in
theorem tk_X7_isWithin : (t_X7_isWithin.all (rx_eok "SetHouseModel" prog_9_method_8_code 2 false true) && rx_adj t_X7_isWithin) = true := by decide +kernel
theorem s_X7_isWithin_0 {F : Nat × Nat} {l : Launch} {G : rx_G} {D : Nat} {hf : rx_H} {z : Int32} (hC : rx_CC l G D (C_X7_isWithin F) z) (x0 : Int32) (x1 : Int32) (h : f_X7_isWithin_0 F x0 x1 = some z) : rx_S l G ("SetHouseModel", prog_9_method_8_code, 2, false, true, D) hf hf rx_rI z 0 [some (.int x0), some (.int x1)] [] none := by
  rw [g_X7_isWithin_0] at h
  refine rx_S_node (md := ("SetHouseModel", prog_9_method_8_code, 2, false, true, D)) tk_X7_isWithin hC rx_m_rI (fun t ls st u h => ?_) h
  unfold kk_X7_isWithin_0 at h
  cases h
theorem cc_X7_isWithin (F : Nat × Nat) (l : Launch) (G : rx_G) {α : Type} (z : α) : rx_CC l G (0 + 0 * F.2) (C_X7_isWithin F) z := by
  intro j as u κ h
  unfold C_X7_isWithin at h
  cases h
theorem m_X7_isWithin (F : Nat × Nat) (l : Launch) (G : rx_G) (hf : rx_H) (x0 : Int32) (x1 : Int32) {z : Int32} (h : f_X7_isWithin F x0 x1 = some z) : rx_Ok l G (1 + 0 * F.2) (rx_ny 177) prog_9_method_8_code 2 (some .boolean) [.int x0, .int x1] hf (some (.int z)) hf := by
  have h := h
  unfold f_X7_isWithin at h
  exact (rx_met (l := l) (G := G) (hf := hf) (as := [.int x0, .int x1]) (r := (some (.int z))) (ls0 := [some (.int x0), some (.int x1)]) (y := rx_ny 177) (D := (0 + 0 * F.2)) (ini := false) (bo := true) (u := none) (u' := none) k_X7_isWithin (fun h => by cases h) (Nat.le_of_ble_eq_true rfl) (Or.inr (Or.inl ⟨rfl, rfl, _, rfl⟩)) (fun Z hZ hB => rx_RT_rI hZ hB) (by exact ⟨Or.inr rfl, Or.inr rfl, trivial⟩) (s_X7_isWithin_0 (cc_X7_isWithin F l G z) x0 x1 h)).deep (by omega)
theorem w_X7_isWithin (F : Nat × Nat) (l : Launch) (G : rx_G) {α : Type} {z : α} {as : List Value} {u : Option rx_H} {κ : rx_K α} (h : c_X7_isWithin F as u κ = some z) : rx_Cw l G (1 + 0 * F.2) 177 as u κ z := by
  unfold c_X7_isWithin at h
  split at h
  · obtain ⟨r, hr, h⟩ := Option.bind_eq_some_iff.mp h
    exact ⟨_, _, _, _, _, _, h, k_X7_isWithin, fun _ => rfl, fun h => absurd rfl h, fun hf => m_X7_isWithin F l G _ _ _ hr⟩
  · cases h
set_option maxRecDepth 100000 in
theorem k_X7_isPlace : rx_Cal (rx_ny 173) prog_9_method_9_code 1 (some .boolean) (rx_kd 173) 1 := ⟨rx_in (i := 801) (by rfl) (by rfl), rx_in (i := 46) (by decide +kernel) (by decide +kernel), ⟨(by decide +kernel), (by decide +kernel), (by decide +kernel)⟩, Nat.le_of_ble_eq_true rfl, (by decide +kernel), fun _ => rx_in (i := 800) (by decide +kernel) (by decide +kernel), fun h => absurd h (by decide), fun h => absurd h (by decide)⟩
set_option maxRecDepth 100000 in
theorem tk_X7_isPlace : (t_X7_isPlace.all (rx_eok "SetHouseModel" prog_9_method_9_code 1 false true) && rx_adj t_X7_isPlace) = true := by decide +kernel
theorem s_X7_isPlace_0 {F : Nat × Nat} {l : Launch} {G : rx_G} {D : Nat} {hf : rx_H} {z : Int32} (hC : rx_CC l G D (C_X7_isPlace F) z) (x0 : Int32) (h : f_X7_isPlace_0 F x0 = some z) : rx_S l G ("SetHouseModel", prog_9_method_9_code, 1, false, true, D) hf hf rx_rI z 0 [some (.int x0)] [] none := by
  rw [g_X7_isPlace_0] at h
  refine rx_S_node (md := ("SetHouseModel", prog_9_method_9_code, 1, false, true, D)) tk_X7_isPlace hC rx_m_rI (fun t ls st u h => ?_) h
  unfold kk_X7_isPlace_0 at h
  cases h
theorem cc_X7_isPlace (F : Nat × Nat) (l : Launch) (G : rx_G) {α : Type} (z : α) : rx_CC l G (1 + 0 * F.2) (C_X7_isPlace F) z := by
  intro j as u κ h
  unfold C_X7_isPlace at h
  rcases rx_rec_eq h with ⟨hb, h⟩ | ⟨hb, h⟩
  · have ht := Nat.eq_of_beq_eq_true hb
    subst ht
    exact (w_X7_isIn F l G h).deep (by omega)
  cases h
theorem m_X7_isPlace (F : Nat × Nat) (l : Launch) (G : rx_G) (hf : rx_H) (x0 : Int32) {z : Int32} (h : f_X7_isPlace F x0 = some z) : rx_Ok l G (2 + 0 * F.2) (rx_ny 173) prog_9_method_9_code 1 (some .boolean) [.int x0] hf (some (.int z)) hf := by
  have h := h
  unfold f_X7_isPlace at h
  exact (rx_met (l := l) (G := G) (hf := hf) (as := [.int x0]) (r := (some (.int z))) (ls0 := [some (.int x0)]) (y := rx_ny 173) (D := (1 + 0 * F.2)) (ini := false) (bo := true) (u := none) (u' := none) k_X7_isPlace (fun h => by cases h) (Nat.le_of_ble_eq_true rfl) (Or.inr (Or.inl ⟨rfl, rfl, _, rfl⟩)) (fun Z hZ hB => rx_RT_rI hZ hB) (by exact ⟨Or.inr rfl, trivial⟩) (s_X7_isPlace_0 (cc_X7_isPlace F l G z) x0 h)).deep (by omega)
theorem w_X7_isPlace (F : Nat × Nat) (l : Launch) (G : rx_G) {α : Type} {z : α} {as : List Value} {u : Option rx_H} {κ : rx_K α} (h : c_X7_isPlace F as u κ = some z) : rx_Cw l G (2 + 0 * F.2) 173 as u κ z := by
  unfold c_X7_isPlace at h
  split at h
  · obtain ⟨r, hr, h⟩ := Option.bind_eq_some_iff.mp h
    exact ⟨_, _, _, _, _, _, h, k_X7_isPlace, fun _ => rfl, fun h => absurd rfl h, fun hf => m_X7_isPlace F l G _ _ hr⟩
  · cases h
set_option maxRecDepth 100000 in
theorem k_X7_apartFrom : rx_Cal (rx_ny 138) prog_9_method_15_code 5 (some .int) (rx_kd 138) 3 := ⟨rx_in (i := 845) (by rfl) (by rfl), rx_in (i := 46) (by decide +kernel) (by decide +kernel), ⟨(by decide +kernel), (by decide +kernel), (by decide +kernel)⟩, Nat.le_of_ble_eq_true rfl, (by decide +kernel), fun _ => rx_in (i := 844) (by decide +kernel) (by decide +kernel), fun h => absurd h (by decide), fun h => absurd h (by decide)⟩
set_option maxRecDepth 100000 in
theorem tk_X7_apartFrom : (t_X7_apartFrom.all (rx_eok "SetHouseModel" prog_9_method_15_code 5 false false) && rx_adj t_X7_apartFrom) = true := by decide +kernel
theorem s_X7_apartFrom_3 {F : Nat × Nat} {l : Launch} {G : rx_G} {D : Nat} {hf : rx_H} {z : Int32} (hC : rx_CC l G D (C_X7_apartFrom F) z) : ∀ (f : Nat) (x0 : Int64) (x2 : Int32) (x3 : Int32) (x4 : Int32), f_X7_apartFrom_3 F f x0 x2 x3 x4 = some z → rx_S l G ("SetHouseModel", prog_9_method_15_code, 5, false, false, D) hf hf rx_rI z 3 [some (.long x0), none, some (.int x2), some (.int x3), some (.int x4)] [] none := by
  intro f
  induction f with
  | zero =>
    intro x0 x2 x3 x4 h
    cases h
  | succ f ih =>
    intro x0 x2 x3 x4 h
    rw [g_X7_apartFrom_3] at h
    refine rx_S_node (md := ("SetHouseModel", prog_9_method_15_code, 5, false, false, D)) tk_X7_apartFrom hC rx_m_rI (fun t ls st u h => ?_) h
    unfold kk_X7_apartFrom_3 at h
    rcases rx_rec_eq h with ⟨hb, h⟩ | ⟨hb, h⟩
    · have ht := Nat.eq_of_beq_eq_true hb
      subst ht
      unfold n_X7_apartFrom_3 at h
      split at h
      · exact (ih _ _ _ _ h).le ⟨Or.inr rfl, Or.inl rfl, Or.inr rfl, Or.inr rfl, Or.inr rfl, trivial⟩
      · cases h
    cases h
theorem s_X7_apartFrom_0 {F : Nat × Nat} {l : Launch} {G : rx_G} {D : Nat} {hf : rx_H} {z : Int32} (hC : rx_CC l G D (C_X7_apartFrom F) z) (x0 : Int64) (x2 : Int32) (x3 : Int32) (h : f_X7_apartFrom_0 F x0 x2 x3 = some z) : rx_S l G ("SetHouseModel", prog_9_method_15_code, 5, false, false, D) hf hf rx_rI z 0 [some (.long x0), none, some (.int x2), some (.int x3), none] [] none := by
  rw [g_X7_apartFrom_0] at h
  refine rx_S_node (md := ("SetHouseModel", prog_9_method_15_code, 5, false, false, D)) tk_X7_apartFrom hC rx_m_rI (fun t ls st u h => ?_) h
  unfold kk_X7_apartFrom_0 at h
  rcases rx_rec_eq h with ⟨hb, h⟩ | ⟨hb, h⟩
  · have ht := Nat.eq_of_beq_eq_true hb
    subst ht
    unfold n_X7_apartFrom_3 at h
    split at h
    · exact (s_X7_apartFrom_3 hC _ _ _ _ _ h).le ⟨Or.inr rfl, Or.inl rfl, Or.inr rfl, Or.inr rfl, Or.inr rfl, trivial⟩
    · cases h
  cases h
theorem cc_X7_apartFrom (F : Nat × Nat) (l : Launch) (G : rx_G) {α : Type} (z : α) : rx_CC l G (1 + 0 * F.2) (C_X7_apartFrom F) z := by
  intro j as u κ h
  unfold C_X7_apartFrom at h
  rcases rx_rec_eq h with ⟨hb, h⟩ | ⟨hb, h⟩
  · have ht := Nat.eq_of_beq_eq_true hb
    subst ht
    exact (w_X7_has F l G h).deep (by omega)
  rcases rx_rec_eq h with ⟨hb, h⟩ | ⟨hb, h⟩
  · have ht := Nat.eq_of_beq_eq_true hb
    subst ht
    exact (w_X7_ones F l G h).deep (by omega)
  cases h
theorem m_X7_apartFrom (F : Nat × Nat) (l : Launch) (G : rx_G) (hf : rx_H) (x0 : Int64) (x2 : Int32) (x3 : Int32) {z : Int32} (h : f_X7_apartFrom F x0 x2 x3 = some z) : rx_Ok l G (2 + 0 * F.2) (rx_ny 138) prog_9_method_15_code 5 (some .int) [.long x0, .int x2, .int x3] hf (some (.int z)) hf := by
  have h := h
  unfold f_X7_apartFrom at h
  exact (rx_met (l := l) (G := G) (hf := hf) (as := [.long x0, .int x2, .int x3]) (r := (some (.int z))) (ls0 := [some (.long x0), none, some (.int x2), some (.int x3), none]) (y := rx_ny 138) (D := (1 + 0 * F.2)) (ini := false) (bo := false) (u := none) (u' := none) k_X7_apartFrom (fun h => by cases h) (Nat.le_of_ble_eq_true rfl) (Or.inl ⟨rfl, rfl, _, rfl⟩) (fun Z hZ hB => rx_RT_rI hZ hB) (by exact ⟨Or.inr rfl, Or.inl rfl, Or.inr rfl, Or.inr rfl, Or.inl rfl, trivial⟩) (s_X7_apartFrom_0 (cc_X7_apartFrom F l G z) x0 x2 x3 h)).deep (by omega)
theorem w_X7_apartFrom (F : Nat × Nat) (l : Launch) (G : rx_G) {α : Type} {z : α} {as : List Value} {u : Option rx_H} {κ : rx_K α} (h : c_X7_apartFrom F as u κ = some z) : rx_Cw l G (2 + 0 * F.2) 138 as u κ z := by
  unfold c_X7_apartFrom at h
  split at h
  · obtain ⟨r, hr, h⟩ := Option.bind_eq_some_iff.mp h
    exact ⟨_, _, _, _, _, _, h, k_X7_apartFrom, fun _ => rfl, fun h => absurd rfl h, fun hf => m_X7_apartFrom F l G _ _ _ _ hr⟩
  · cases h
set_option maxRecDepth 100000 in
theorem k_X7_goes : rx_Cal (rx_ny 160) prog_9_method_27_code 7 (some .boolean) (rx_kd 160) 5 := ⟨rx_in (i := 892) (by rfl) (by rfl), rx_in (i := 46) (by decide +kernel) (by decide +kernel), ⟨(by decide +kernel), (by decide +kernel), (by decide +kernel)⟩, Nat.le_of_ble_eq_true rfl, (by decide +kernel), fun h => absurd h (by decide), fun _ => ⟨rx_in (i := 891) (by decide +kernel) (by decide +kernel), rx_in (i := 21) (by decide +kernel) (by decide +kernel)⟩, fun h => absurd h (by decide)⟩
set_option maxRecDepth 100000 in
theorem tk_X7_goes : (t_X7_goes.all (rx_eok "SetHouseModel" prog_9_method_27_code 7 false true) && rx_adj t_X7_goes) = true := by decide +kernel
theorem s_X7_goes_0 {F : Nat × Nat} {l : Launch} {G : rx_G} {D : Nat} {hf : rx_H} {z : Int32} (hC : rx_CC l G D (C_X7_goes F) z) (x3 : Int32) (x4 : Int32) (x5 : Int32) (x6 : Int32) (h : f_X7_goes_0 F x3 x4 x5 x6 = some z) : rx_S l G ("SetHouseModel", prog_9_method_27_code, 7, false, true, D) hf hf rx_rI z 0 [none, none, none, some (.int x3), some (.int x4), some (.int x5), some (.int x6)] [] none := by
  rw [g_X7_goes_0] at h
  refine rx_S_node (md := ("SetHouseModel", prog_9_method_27_code, 7, false, true, D)) tk_X7_goes hC rx_m_rI (fun t ls st u h => ?_) h
  unfold kk_X7_goes_0 at h
  cases h
theorem cc_X7_goes (F : Nat × Nat) (l : Launch) (G : rx_G) {α : Type} (z : α) : rx_CC l G (1 + 0 * F.2) (C_X7_goes F) z := by
  intro j as u κ h
  unfold C_X7_goes at h
  rcases rx_rec_eq h with ⟨hb, h⟩ | ⟨hb, h⟩
  · have ht := Nat.eq_of_beq_eq_true hb
    subst ht
    exact (w_X7_isWithin F l G h).deep (by omega)
  rcases rx_rec_eq h with ⟨hb, h⟩ | ⟨hb, h⟩
  · have ht := Nat.eq_of_beq_eq_true hb
    subst ht
    exact (w_X7_ones F l G h).deep (by omega)
  cases h
theorem m_X7_goes (F : Nat × Nat) (l : Launch) (G : rx_G) (hf : rx_H) (x0 : Nat) (x1 : Int64) (x3 : Int32) (x4 : Int32) (x5 : Int32) (x6 : Int32) {z : Int32} (h : f_X7_goes F x0 x1 x3 x4 x5 x6 = some z) : rx_Ok l G (2 + 0 * F.2) (rx_ny 160) prog_9_method_27_code 7 (some .boolean) [.ref x0, .long x1, .int x3, .int x4, .int x5, .int x6] hf (some (.int z)) hf := by
  have h := h
  unfold f_X7_goes at h
  exact (rx_met (l := l) (G := G) (hf := hf) (as := [.ref x0, .long x1, .int x3, .int x4, .int x5, .int x6]) (r := (some (.int z))) (ls0 := [none, none, none, some (.int x3), some (.int x4), some (.int x5), some (.int x6)]) (y := rx_ny 160) (D := (1 + 0 * F.2)) (ini := false) (bo := true) (u := none) (u' := none) k_X7_goes (fun h => by cases h) (Nat.le_of_ble_eq_true rfl) (Or.inr (Or.inl ⟨rfl, rfl, _, rfl⟩)) (fun Z hZ hB => rx_RT_rI hZ hB) (by exact ⟨Or.inl rfl, Or.inl rfl, Or.inl rfl, Or.inr rfl, Or.inr rfl, Or.inr rfl, Or.inr rfl, trivial⟩) (s_X7_goes_0 (cc_X7_goes F l G z) x3 x4 x5 x6 h)).deep (by omega)
theorem w_X7_goes (F : Nat × Nat) (l : Launch) (G : rx_G) {α : Type} {z : α} {as : List Value} {u : Option rx_H} {κ : rx_K α} (h : c_X7_goes F as u κ = some z) : rx_Cw l G (2 + 0 * F.2) 160 as u κ z := by
  unfold c_X7_goes at h
  split at h
  · obtain ⟨r, hr, h⟩ := Option.bind_eq_some_iff.mp h
    exact ⟨_, _, _, _, _, _, h, k_X7_goes, fun h => absurd h (by decide), fun _ => ⟨_, _, rfl, rfl⟩, fun hf => m_X7_goes F l G _ _ _ _ _ _ _ hr⟩
  · cases h
set_option maxRecDepth 100000 in
theorem k_X7_lacking : rx_Cal (rx_ny 178) prog_9_method_29_code 2 (some .int) (rx_kd 178) 2 := ⟨rx_in (i := 923) (by rfl) (by rfl), rx_in (i := 46) (by decide +kernel) (by decide +kernel), ⟨(by decide +kernel), (by decide +kernel), (by decide +kernel)⟩, Nat.le_of_ble_eq_true rfl, (by decide +kernel), fun _ => rx_in (i := 922) (by decide +kernel) (by decide +kernel), fun h => absurd h (by decide), fun h => absurd h (by decide)⟩
set_option maxRecDepth 100000 in
theorem tk_X7_lacking : (t_X7_lacking.all (rx_eok "SetHouseModel" prog_9_method_29_code 2 false false) && rx_adj t_X7_lacking) = true := by decide +kernel
theorem s_X7_lacking_0 {F : Nat × Nat} {l : Launch} {G : rx_G} {D : Nat} {hf : rx_H} {z : Int32} (hC : rx_CC l G D (C_X7_lacking F) z) (x0 : Int32) (x1 : Int32) (h : f_X7_lacking_0 F x0 x1 = some z) : rx_S l G ("SetHouseModel", prog_9_method_29_code, 2, false, false, D) hf hf rx_rI z 0 [some (.int x0), some (.int x1)] [] none := by
  rw [g_X7_lacking_0] at h
  refine rx_S_node (md := ("SetHouseModel", prog_9_method_29_code, 2, false, false, D)) tk_X7_lacking hC rx_m_rI (fun t ls st u h => ?_) h
  unfold kk_X7_lacking_0 at h
  cases h
theorem cc_X7_lacking (F : Nat × Nat) (l : Launch) (G : rx_G) {α : Type} (z : α) : rx_CC l G (0 + 0 * F.2) (C_X7_lacking F) z := by
  intro j as u κ h
  unfold C_X7_lacking at h
  cases h
theorem m_X7_lacking (F : Nat × Nat) (l : Launch) (G : rx_G) (hf : rx_H) (x0 : Int32) (x1 : Int32) {z : Int32} (h : f_X7_lacking F x0 x1 = some z) : rx_Ok l G (1 + 0 * F.2) (rx_ny 178) prog_9_method_29_code 2 (some .int) [.int x0, .int x1] hf (some (.int z)) hf := by
  have h := h
  unfold f_X7_lacking at h
  exact (rx_met (l := l) (G := G) (hf := hf) (as := [.int x0, .int x1]) (r := (some (.int z))) (ls0 := [some (.int x0), some (.int x1)]) (y := rx_ny 178) (D := (0 + 0 * F.2)) (ini := false) (bo := false) (u := none) (u' := none) k_X7_lacking (fun h => by cases h) (Nat.le_of_ble_eq_true rfl) (Or.inl ⟨rfl, rfl, _, rfl⟩) (fun Z hZ hB => rx_RT_rI hZ hB) (by exact ⟨Or.inr rfl, Or.inr rfl, trivial⟩) (s_X7_lacking_0 (cc_X7_lacking F l G z) x0 x1 h)).deep (by omega)
theorem w_X7_lacking (F : Nat × Nat) (l : Launch) (G : rx_G) {α : Type} {z : α} {as : List Value} {u : Option rx_H} {κ : rx_K α} (h : c_X7_lacking F as u κ = some z) : rx_Cw l G (1 + 0 * F.2) 178 as u κ z := by
  unfold c_X7_lacking at h
  split at h
  · obtain ⟨r, hr, h⟩ := Option.bind_eq_some_iff.mp h
    exact ⟨_, _, _, _, _, _, h, k_X7_lacking, fun _ => rfl, fun h => absurd rfl h, fun hf => m_X7_lacking F l G _ _ _ hr⟩
  · cases h
set_option maxRecDepth 100000 in
theorem k_X7_factorial : rx_Cal (rx_ny 156) prog_9_method_56_code 3 (some .int) (rx_kd 156) 1 := ⟨rx_in (i := 1006) (by rfl) (by rfl), rx_in (i := 46) (by decide +kernel) (by decide +kernel), ⟨(by decide +kernel), (by decide +kernel), (by decide +kernel)⟩, Nat.le_of_ble_eq_true rfl, (by decide +kernel), fun _ => rx_in (i := 1005) (by decide +kernel) (by decide +kernel), fun h => absurd h (by decide), fun h => absurd h (by decide)⟩
set_option maxRecDepth 100000 in
theorem tk_X7_factorial : (t_X7_factorial.all (rx_eok "SetHouseModel" prog_9_method_56_code 3 false false) && rx_adj t_X7_factorial) = true := by decide +kernel
theorem s_X7_factorial_4 {F : Nat × Nat} {l : Launch} {G : rx_G} {D : Nat} {hf : rx_H} {z : Int32} (hC : rx_CC l G D (C_X7_factorial F) z) : ∀ (f : Nat) (x0 : Int32) (x1 : Int32) (x2 : Int32), f_X7_factorial_4 F f x0 x1 x2 = some z → rx_S l G ("SetHouseModel", prog_9_method_56_code, 3, false, false, D) hf hf rx_rI z 4 [some (.int x0), some (.int x1), some (.int x2)] [] none := by
  intro f
  induction f with
  | zero =>
    intro x0 x1 x2 h
    cases h
  | succ f ih =>
    intro x0 x1 x2 h
    rw [g_X7_factorial_4] at h
    refine rx_S_node (md := ("SetHouseModel", prog_9_method_56_code, 3, false, false, D)) tk_X7_factorial hC rx_m_rI (fun t ls st u h => ?_) h
    unfold kk_X7_factorial_4 at h
    rcases rx_rec_eq h with ⟨hb, h⟩ | ⟨hb, h⟩
    · have ht := Nat.eq_of_beq_eq_true hb
      subst ht
      unfold n_X7_factorial_4 at h
      split at h
      · exact (ih _ _ _ h).le ⟨Or.inr rfl, Or.inr rfl, Or.inr rfl, trivial⟩
      · cases h
    cases h
theorem s_X7_factorial_0 {F : Nat × Nat} {l : Launch} {G : rx_G} {D : Nat} {hf : rx_H} {z : Int32} (hC : rx_CC l G D (C_X7_factorial F) z) (x0 : Int32) (h : f_X7_factorial_0 F x0 = some z) : rx_S l G ("SetHouseModel", prog_9_method_56_code, 3, false, false, D) hf hf rx_rI z 0 [some (.int x0), none, none] [] none := by
  rw [g_X7_factorial_0] at h
  refine rx_S_node (md := ("SetHouseModel", prog_9_method_56_code, 3, false, false, D)) tk_X7_factorial hC rx_m_rI (fun t ls st u h => ?_) h
  unfold kk_X7_factorial_0 at h
  rcases rx_rec_eq h with ⟨hb, h⟩ | ⟨hb, h⟩
  · have ht := Nat.eq_of_beq_eq_true hb
    subst ht
    unfold n_X7_factorial_4 at h
    split at h
    · exact (s_X7_factorial_4 hC _ _ _ _ h).le ⟨Or.inr rfl, Or.inr rfl, Or.inr rfl, trivial⟩
    · cases h
  cases h
theorem cc_X7_factorial (F : Nat × Nat) (l : Launch) (G : rx_G) {α : Type} (z : α) : rx_CC l G (0 + 0 * F.2) (C_X7_factorial F) z := by
  intro j as u κ h
  unfold C_X7_factorial at h
  cases h
theorem m_X7_factorial (F : Nat × Nat) (l : Launch) (G : rx_G) (hf : rx_H) (x0 : Int32) {z : Int32} (h : f_X7_factorial F x0 = some z) : rx_Ok l G (1 + 0 * F.2) (rx_ny 156) prog_9_method_56_code 3 (some .int) [.int x0] hf (some (.int z)) hf := by
  have h := h
  unfold f_X7_factorial at h
  exact (rx_met (l := l) (G := G) (hf := hf) (as := [.int x0]) (r := (some (.int z))) (ls0 := [some (.int x0), none, none]) (y := rx_ny 156) (D := (0 + 0 * F.2)) (ini := false) (bo := false) (u := none) (u' := none) k_X7_factorial (fun h => by cases h) (Nat.le_of_ble_eq_true rfl) (Or.inl ⟨rfl, rfl, _, rfl⟩) (fun Z hZ hB => rx_RT_rI hZ hB) (by exact ⟨Or.inr rfl, Or.inl rfl, Or.inl rfl, trivial⟩) (s_X7_factorial_0 (cc_X7_factorial F l G z) x0 h)).deep (by omega)
theorem w_X7_factorial (F : Nat × Nat) (l : Launch) (G : rx_G) {α : Type} {z : α} {as : List Value} {u : Option rx_H} {κ : rx_K α} (h : c_X7_factorial F as u κ = some z) : rx_Cw l G (1 + 0 * F.2) 156 as u κ z := by
  unfold c_X7_factorial at h
  split at h
  · obtain ⟨r, hr, h⟩ := Option.bind_eq_some_iff.mp h
    exact ⟨_, _, _, _, _, _, h, k_X7_factorial, fun _ => rfl, fun h => absurd rfl h, fun hf => m_X7_factorial F l G _ _ hr⟩
  · cases h
set_option maxRecDepth 100000 in
theorem k_X7_choose : rx_Cal (rx_ny 143) prog_9_method_60_code 4 (some .int) (rx_kd 143) 2 := ⟨rx_in (i := 1025) (by rfl) (by rfl), rx_in (i := 46) (by decide +kernel) (by decide +kernel), ⟨(by decide +kernel), (by decide +kernel), (by decide +kernel)⟩, Nat.le_of_ble_eq_true rfl, (by decide +kernel), fun _ => rx_in (i := 1024) (by decide +kernel) (by decide +kernel), fun h => absurd h (by decide), fun h => absurd h (by decide)⟩
set_option maxRecDepth 100000 in
theorem tk_X7_choose : (t_X7_choose.all (rx_eok "SetHouseModel" prog_9_method_60_code 4 false false) && rx_adj t_X7_choose) = true := by decide +kernel
theorem s_X7_choose_32 {F : Nat × Nat} {l : Launch} {G : rx_G} {D : Nat} {hf : rx_H} {z : Int32} (hC : rx_CC l G D (C_X7_choose F) z) (x0 : Int32) (x1 : Int32) (x2 : Int32) (h : f_X7_choose_32 F x0 x1 x2 = some z) : rx_S l G ("SetHouseModel", prog_9_method_60_code, 4, false, false, D) hf hf rx_rI z 32 [some (.int x0), some (.int x1), some (.int x2), none] [] none := by
  rw [g_X7_choose_32] at h
  refine rx_S_node (md := ("SetHouseModel", prog_9_method_60_code, 4, false, false, D)) tk_X7_choose hC rx_m_rI (fun t ls st u h => ?_) h
  unfold kk_X7_choose_32 at h
  cases h
theorem s_X7_choose_4 {F : Nat × Nat} {l : Launch} {G : rx_G} {D : Nat} {hf : rx_H} {z : Int32} (hC : rx_CC l G D (C_X7_choose F) z) : ∀ (f : Nat) (x0 : Int32) (x1 : Int32) (x2 : Int32) (x3 : Int32), f_X7_choose_4 F f x0 x1 x2 x3 = some z → rx_S l G ("SetHouseModel", prog_9_method_60_code, 4, false, false, D) hf hf rx_rI z 4 [some (.int x0), some (.int x1), some (.int x2), some (.int x3)] [] none := by
  intro f
  induction f with
  | zero =>
    intro x0 x1 x2 x3 h
    cases h
  | succ f ih =>
    intro x0 x1 x2 x3 h
    rw [g_X7_choose_4] at h
    refine rx_S_node (md := ("SetHouseModel", prog_9_method_60_code, 4, false, false, D)) tk_X7_choose hC rx_m_rI (fun t ls st u h => ?_) h
    unfold kk_X7_choose_4 at h
    rcases rx_rec_eq h with ⟨hb, h⟩ | ⟨hb, h⟩
    · have ht := Nat.eq_of_beq_eq_true hb
      subst ht
      unfold n_X7_choose_4 at h
      split at h
      · exact (ih _ _ _ _ h).le ⟨Or.inr rfl, Or.inr rfl, Or.inr rfl, Or.inr rfl, trivial⟩
      · cases h
    rcases rx_rec_eq h with ⟨hb, h⟩ | ⟨hb, h⟩
    · have ht := Nat.eq_of_beq_eq_true hb
      subst ht
      unfold n_X7_choose_32 at h
      split at h
      · exact (s_X7_choose_32 hC _ _ _ h).le ⟨Or.inr rfl, Or.inr rfl, Or.inr rfl, Or.inl rfl, trivial⟩
      · cases h
    cases h
theorem s_X7_choose_0 {F : Nat × Nat} {l : Launch} {G : rx_G} {D : Nat} {hf : rx_H} {z : Int32} (hC : rx_CC l G D (C_X7_choose F) z) (x0 : Int32) (x1 : Int32) (h : f_X7_choose_0 F x0 x1 = some z) : rx_S l G ("SetHouseModel", prog_9_method_60_code, 4, false, false, D) hf hf rx_rI z 0 [some (.int x0), some (.int x1), none, none] [] none := by
  rw [g_X7_choose_0] at h
  refine rx_S_node (md := ("SetHouseModel", prog_9_method_60_code, 4, false, false, D)) tk_X7_choose hC rx_m_rI (fun t ls st u h => ?_) h
  unfold kk_X7_choose_0 at h
  rcases rx_rec_eq h with ⟨hb, h⟩ | ⟨hb, h⟩
  · have ht := Nat.eq_of_beq_eq_true hb
    subst ht
    unfold n_X7_choose_4 at h
    split at h
    · exact (s_X7_choose_4 hC _ _ _ _ _ h).le ⟨Or.inr rfl, Or.inr rfl, Or.inr rfl, Or.inr rfl, trivial⟩
    · cases h
  cases h
theorem cc_X7_choose (F : Nat × Nat) (l : Launch) (G : rx_G) {α : Type} (z : α) : rx_CC l G (0 + 0 * F.2) (C_X7_choose F) z := by
  intro j as u κ h
  unfold C_X7_choose at h
  cases h
theorem m_X7_choose (F : Nat × Nat) (l : Launch) (G : rx_G) (hf : rx_H) (x0 : Int32) (x1 : Int32) {z : Int32} (h : f_X7_choose F x0 x1 = some z) : rx_Ok l G (1 + 0 * F.2) (rx_ny 143) prog_9_method_60_code 4 (some .int) [.int x0, .int x1] hf (some (.int z)) hf := by
  have h := h
  unfold f_X7_choose at h
  exact (rx_met (l := l) (G := G) (hf := hf) (as := [.int x0, .int x1]) (r := (some (.int z))) (ls0 := [some (.int x0), some (.int x1), none, none]) (y := rx_ny 143) (D := (0 + 0 * F.2)) (ini := false) (bo := false) (u := none) (u' := none) k_X7_choose (fun h => by cases h) (Nat.le_of_ble_eq_true rfl) (Or.inl ⟨rfl, rfl, _, rfl⟩) (fun Z hZ hB => rx_RT_rI hZ hB) (by exact ⟨Or.inr rfl, Or.inr rfl, Or.inl rfl, Or.inl rfl, trivial⟩) (s_X7_choose_0 (cc_X7_choose F l G z) x0 x1 h)).deep (by omega)
theorem w_X7_choose (F : Nat × Nat) (l : Launch) (G : rx_G) {α : Type} {z : α} {as : List Value} {u : Option rx_H} {κ : rx_K α} (h : c_X7_choose F as u κ = some z) : rx_Cw l G (1 + 0 * F.2) 143 as u κ z := by
  unfold c_X7_choose at h
  split at h
  · obtain ⟨r, hr, h⟩ := Option.bind_eq_some_iff.mp h
    exact ⟨_, _, _, _, _, _, h, k_X7_choose, fun _ => rfl, fun h => absurd rfl h, fun hf => m_X7_choose F l G _ _ _ hr⟩
  · cases h
set_option maxRecDepth 100000 in
theorem k_X7_greatestBelow : rx_Cal (rx_ny 162) prog_9_method_61_code 3 (some .int) (rx_kd 162) 2 := ⟨rx_in (i := 1022) (by rfl) (by rfl), rx_in (i := 46) (by decide +kernel) (by decide +kernel), ⟨(by decide +kernel), (by decide +kernel), (by decide +kernel)⟩, Nat.le_of_ble_eq_true rfl, (by decide +kernel), fun _ => rx_in (i := 1021) (by decide +kernel) (by decide +kernel), fun h => absurd h (by decide), fun h => absurd h (by decide)⟩
set_option maxRecDepth 100000 in
theorem tk_X7_greatestBelow : (t_X7_greatestBelow.all (rx_eok "SetHouseModel" prog_9_method_61_code 3 false false) && rx_adj t_X7_greatestBelow) = true := by decide +kernel
theorem s_X7_greatestBelow_2 {F : Nat × Nat} {l : Launch} {G : rx_G} {D : Nat} {hf : rx_H} {z : Int32} (hC : rx_CC l G D (C_X7_greatestBelow F) z) : ∀ (f : Nat) (x0 : Int32) (x1 : Int32) (x2 : Int32), f_X7_greatestBelow_2 F f x0 x1 x2 = some z → rx_S l G ("SetHouseModel", prog_9_method_61_code, 3, false, false, D) hf hf rx_rI z 2 [some (.int x0), some (.int x1), some (.int x2)] [] none := by
  intro f
  induction f with
  | zero =>
    intro x0 x1 x2 h
    cases h
  | succ f ih =>
    intro x0 x1 x2 h
    rw [g_X7_greatestBelow_2] at h
    refine rx_S_node (md := ("SetHouseModel", prog_9_method_61_code, 3, false, false, D)) tk_X7_greatestBelow hC rx_m_rI (fun t ls st u h => ?_) h
    unfold kk_X7_greatestBelow_2 at h
    rcases rx_rec_eq h with ⟨hb, h⟩ | ⟨hb, h⟩
    · have ht := Nat.eq_of_beq_eq_true hb
      subst ht
      unfold n_X7_greatestBelow_2 at h
      split at h
      · exact (ih _ _ _ h).le ⟨Or.inr rfl, Or.inr rfl, Or.inr rfl, trivial⟩
      · cases h
    cases h
theorem s_X7_greatestBelow_0 {F : Nat × Nat} {l : Launch} {G : rx_G} {D : Nat} {hf : rx_H} {z : Int32} (hC : rx_CC l G D (C_X7_greatestBelow F) z) (x0 : Int32) (x1 : Int32) (h : f_X7_greatestBelow_0 F x0 x1 = some z) : rx_S l G ("SetHouseModel", prog_9_method_61_code, 3, false, false, D) hf hf rx_rI z 0 [some (.int x0), some (.int x1), none] [] none := by
  rw [g_X7_greatestBelow_0] at h
  refine rx_S_node (md := ("SetHouseModel", prog_9_method_61_code, 3, false, false, D)) tk_X7_greatestBelow hC rx_m_rI (fun t ls st u h => ?_) h
  unfold kk_X7_greatestBelow_0 at h
  rcases rx_rec_eq h with ⟨hb, h⟩ | ⟨hb, h⟩
  · have ht := Nat.eq_of_beq_eq_true hb
    subst ht
    unfold n_X7_greatestBelow_2 at h
    split at h
    · exact (s_X7_greatestBelow_2 hC _ _ _ _ h).le ⟨Or.inr rfl, Or.inr rfl, Or.inr rfl, trivial⟩
    · cases h
  cases h
theorem cc_X7_greatestBelow (F : Nat × Nat) (l : Launch) (G : rx_G) {α : Type} (z : α) : rx_CC l G (1 + 0 * F.2) (C_X7_greatestBelow F) z := by
  intro j as u κ h
  unfold C_X7_greatestBelow at h
  rcases rx_rec_eq h with ⟨hb, h⟩ | ⟨hb, h⟩
  · have ht := Nat.eq_of_beq_eq_true hb
    subst ht
    exact (w_X7_choose F l G h).deep (by omega)
  cases h
theorem m_X7_greatestBelow (F : Nat × Nat) (l : Launch) (G : rx_G) (hf : rx_H) (x0 : Int32) (x1 : Int32) {z : Int32} (h : f_X7_greatestBelow F x0 x1 = some z) : rx_Ok l G (2 + 0 * F.2) (rx_ny 162) prog_9_method_61_code 3 (some .int) [.int x0, .int x1] hf (some (.int z)) hf := by
  have h := h
  unfold f_X7_greatestBelow at h
  exact (rx_met (l := l) (G := G) (hf := hf) (as := [.int x0, .int x1]) (r := (some (.int z))) (ls0 := [some (.int x0), some (.int x1), none]) (y := rx_ny 162) (D := (1 + 0 * F.2)) (ini := false) (bo := false) (u := none) (u' := none) k_X7_greatestBelow (fun h => by cases h) (Nat.le_of_ble_eq_true rfl) (Or.inl ⟨rfl, rfl, _, rfl⟩) (fun Z hZ hB => rx_RT_rI hZ hB) (by exact ⟨Or.inr rfl, Or.inr rfl, Or.inl rfl, trivial⟩) (s_X7_greatestBelow_0 (cc_X7_greatestBelow F l G z) x0 x1 h)).deep (by omega)
theorem w_X7_greatestBelow (F : Nat × Nat) (l : Launch) (G : rx_G) {α : Type} {z : α} {as : List Value} {u : Option rx_H} {κ : rx_K α} (h : c_X7_greatestBelow F as u κ = some z) : rx_Cw l G (2 + 0 * F.2) 162 as u κ z := by
  unfold c_X7_greatestBelow at h
  split at h
  · obtain ⟨r, hr, h⟩ := Option.bind_eq_some_iff.mp h
    exact ⟨_, _, _, _, _, _, h, k_X7_greatestBelow, fun _ => rfl, fun h => absurd rfl h, fun hf => m_X7_greatestBelow F l G _ _ _ hr⟩
  · cases h
set_option maxRecDepth 100000 in
theorem k_X7_cascade : rx_Cal (rx_ny 140) prog_9_method_62_code 7 (some .int) (rx_kd 140) 3 := ⟨rx_in (i := 1019) (by rfl) (by rfl), rx_in (i := 46) (by decide +kernel) (by decide +kernel), ⟨(by decide +kernel), (by decide +kernel), (by decide +kernel)⟩, Nat.le_of_ble_eq_true rfl, (by decide +kernel), fun h => absurd h (by decide), fun _ => ⟨rx_in (i := 1017) (by decide +kernel) (by decide +kernel), rx_in (i := 1018) (by decide +kernel) (by decide +kernel)⟩, fun h => absurd h (by decide)⟩
set_option maxRecDepth 100000 in
theorem tk_X7_cascade : (t_X7_cascade.all (rx_eok "SetHouseModel" prog_9_method_62_code 7 false false) && rx_adj t_X7_cascade) = true := by decide +kernel
theorem s_X7_cascade_33 {F : Nat × Nat} {l : Launch} {G : rx_G} {D : Nat} {hf : rx_H} {z : Int32} (hC : rx_CC l G D (C_X7_cascade F) z) : ∀ (f : Nat) (x2 : Int32) (x3 : Int32) (x4 : Int32) (x5 : Int32), f_X7_cascade_33 F f x2 x3 x4 x5 = some z → rx_S l G ("SetHouseModel", prog_9_method_62_code, 7, false, false, D) hf hf rx_rI z 33 [none, none, some (.int x2), some (.int x3), some (.int x4), some (.int x5), none] [] none := by
  intro f
  induction f with
  | zero =>
    intro x2 x3 x4 x5 h
    cases h
  | succ f ih =>
    intro x2 x3 x4 x5 h
    rw [g_X7_cascade_33] at h
    refine rx_S_node (md := ("SetHouseModel", prog_9_method_62_code, 7, false, false, D)) tk_X7_cascade hC rx_m_rI (fun t ls st u h => ?_) h
    unfold kk_X7_cascade_33 at h
    rcases rx_rec_eq h with ⟨hb, h⟩ | ⟨hb, h⟩
    · have ht := Nat.eq_of_beq_eq_true hb
      subst ht
      unfold n_X7_cascade_33 at h
      split at h
      · exact (ih _ _ _ _ h).le ⟨Or.inl rfl, Or.inl rfl, Or.inr rfl, Or.inr rfl, Or.inr rfl, Or.inr rfl, Or.inl rfl, trivial⟩
      · cases h
    cases h
theorem s_X7_cascade_0 {F : Nat × Nat} {l : Launch} {G : rx_G} {D : Nat} {hf : rx_H} {z : Int32} (hC : rx_CC l G D (C_X7_cascade F) z) (x1 : Int32) (x2 : Int32) (x3 : Int32) (h : f_X7_cascade_0 F x1 x2 x3 = some z) : rx_S l G ("SetHouseModel", prog_9_method_62_code, 7, false, false, D) hf hf rx_rI z 0 [none, some (.int x1), some (.int x2), some (.int x3), none, none, none] [] none := by
  rw [g_X7_cascade_0] at h
  refine rx_S_node (md := ("SetHouseModel", prog_9_method_62_code, 7, false, false, D)) tk_X7_cascade hC rx_m_rI (fun t ls st u h => ?_) h
  unfold kk_X7_cascade_0 at h
  rcases rx_rec_eq h with ⟨hb, h⟩ | ⟨hb, h⟩
  · have ht := Nat.eq_of_beq_eq_true hb
    subst ht
    unfold n_X7_cascade_33 at h
    split at h
    · exact (s_X7_cascade_33 hC _ _ _ _ _ h).le ⟨Or.inl rfl, Or.inl rfl, Or.inr rfl, Or.inr rfl, Or.inr rfl, Or.inr rfl, Or.inl rfl, trivial⟩
    · cases h
  cases h
theorem cc_X7_cascade (F : Nat × Nat) (l : Launch) (G : rx_G) {α : Type} (z : α) : rx_CC l G (2 + 0 * F.2) (C_X7_cascade F) z := by
  intro j as u κ h
  unfold C_X7_cascade at h
  rcases rx_rec_eq h with ⟨hb, h⟩ | ⟨hb, h⟩
  · have ht := Nat.eq_of_beq_eq_true hb
    subst ht
    exact (w_X7_choose F l G h).deep (by omega)
  rcases rx_rec_eq h with ⟨hb, h⟩ | ⟨hb, h⟩
  · have ht := Nat.eq_of_beq_eq_true hb
    subst ht
    exact (w_X7_greatestBelow F l G h).deep (by omega)
  rcases rx_rec_eq h with ⟨hb, h⟩ | ⟨hb, h⟩
  · have ht := Nat.eq_of_beq_eq_true hb
    subst ht
    exact (w_X7_isIn F l G h).deep (by omega)
  cases h
theorem m_X7_cascade (F : Nat × Nat) (l : Launch) (G : rx_G) (hf : rx_H) (x0 : Nat) (x1 : Int32) (x2 : Int32) (x3 : Int32) {z : Int32} (h : f_X7_cascade F x0 x1 x2 x3 = some z) : rx_Ok l G (3 + 0 * F.2) (rx_ny 140) prog_9_method_62_code 7 (some .int) [.ref x0, .int x1, .int x2, .int x3] hf (some (.int z)) hf := by
  have h := h
  unfold f_X7_cascade at h
  exact (rx_met (l := l) (G := G) (hf := hf) (as := [.ref x0, .int x1, .int x2, .int x3]) (r := (some (.int z))) (ls0 := [none, some (.int x1), some (.int x2), some (.int x3), none, none, none]) (y := rx_ny 140) (D := (2 + 0 * F.2)) (ini := false) (bo := false) (u := none) (u' := none) k_X7_cascade (fun h => by cases h) (Nat.le_of_ble_eq_true rfl) (Or.inl ⟨rfl, rfl, _, rfl⟩) (fun Z hZ hB => rx_RT_rI hZ hB) (by exact ⟨Or.inl rfl, Or.inr rfl, Or.inr rfl, Or.inr rfl, Or.inl rfl, Or.inl rfl, Or.inl rfl, trivial⟩) (s_X7_cascade_0 (cc_X7_cascade F l G z) x1 x2 x3 h)).deep (by omega)
theorem w_X7_cascade (F : Nat × Nat) (l : Launch) (G : rx_G) {α : Type} {z : α} {as : List Value} {u : Option rx_H} {κ : rx_K α} (h : c_X7_cascade F as u κ = some z) : rx_Cw l G (3 + 0 * F.2) 140 as u κ z := by
  unfold c_X7_cascade at h
  split at h
  · obtain ⟨r, hr, h⟩ := Option.bind_eq_some_iff.mp h
    exact ⟨_, _, _, _, _, _, h, k_X7_cascade, fun h => absurd h (by decide), fun _ => ⟨_, _, rfl, rfl⟩, fun hf => m_X7_cascade F l G _ _ _ _ _ hr⟩
  · cases h
set_option maxRecDepth 100000 in
theorem k_X7_chooseAll : rx_Cal (rx_ny 144) prog_9_method_64_code 5 (some .int) (rx_kd 144) 2 := ⟨rx_in (i := 1032) (by rfl) (by rfl), rx_in (i := 46) (by decide +kernel) (by decide +kernel), ⟨(by decide +kernel), (by decide +kernel), (by decide +kernel)⟩, Nat.le_of_ble_eq_true rfl, (by decide +kernel), fun _ => rx_in (i := 1031) (by decide +kernel) (by decide +kernel), fun h => absurd h (by decide), fun h => absurd h (by decide)⟩
set_option maxRecDepth 100000 in
theorem tk_X7_chooseAll : (t_X7_chooseAll.all (rx_eok "SetHouseModel" prog_9_method_64_code 5 false false) && rx_adj t_X7_chooseAll) = true := by decide +kernel
theorem s_X7_chooseAll_5 {F : Nat × Nat} {l : Launch} {G : rx_G} {D : Nat} {hf : rx_H} {z : Int32} (hC : rx_CC l G D (C_X7_chooseAll F) z) : ∀ (f : Nat) (x0 : Int32) (x1 : Int32) (x2 : Int64) (x4 : Int32), f_X7_chooseAll_5 F f x0 x1 x2 x4 = some z → rx_S l G ("SetHouseModel", prog_9_method_64_code, 5, false, false, D) hf hf rx_rI z 5 [some (.int x0), some (.int x1), some (.long x2), none, some (.int x4)] [] none := by
  intro f
  induction f with
  | zero =>
    intro x0 x1 x2 x4 h
    cases h
  | succ f ih =>
    intro x0 x1 x2 x4 h
    rw [g_X7_chooseAll_5] at h
    refine rx_S_node (md := ("SetHouseModel", prog_9_method_64_code, 5, false, false, D)) tk_X7_chooseAll hC rx_m_rI (fun t ls st u h => ?_) h
    unfold kk_X7_chooseAll_5 at h
    rcases rx_rec_eq h with ⟨hb, h⟩ | ⟨hb, h⟩
    · have ht := Nat.eq_of_beq_eq_true hb
      subst ht
      unfold n_X7_chooseAll_5 at h
      split at h
      · exact (ih _ _ _ _ h).le ⟨Or.inr rfl, Or.inr rfl, Or.inr rfl, Or.inl rfl, Or.inr rfl, trivial⟩
      · cases h
    cases h
theorem s_X7_chooseAll_0 {F : Nat × Nat} {l : Launch} {G : rx_G} {D : Nat} {hf : rx_H} {z : Int32} (hC : rx_CC l G D (C_X7_chooseAll F) z) (x0 : Int32) (x1 : Int32) (h : f_X7_chooseAll_0 F x0 x1 = some z) : rx_S l G ("SetHouseModel", prog_9_method_64_code, 5, false, false, D) hf hf rx_rI z 0 [some (.int x0), some (.int x1), none, none, none] [] none := by
  rw [g_X7_chooseAll_0] at h
  refine rx_S_node (md := ("SetHouseModel", prog_9_method_64_code, 5, false, false, D)) tk_X7_chooseAll hC rx_m_rI (fun t ls st u h => ?_) h
  unfold kk_X7_chooseAll_0 at h
  rcases rx_rec_eq h with ⟨hb, h⟩ | ⟨hb, h⟩
  · have ht := Nat.eq_of_beq_eq_true hb
    subst ht
    unfold n_X7_chooseAll_5 at h
    split at h
    · exact (s_X7_chooseAll_5 hC _ _ _ _ _ h).le ⟨Or.inr rfl, Or.inr rfl, Or.inr rfl, Or.inl rfl, Or.inr rfl, trivial⟩
    · cases h
  cases h
theorem cc_X7_chooseAll (F : Nat × Nat) (l : Launch) (G : rx_G) {α : Type} (z : α) : rx_CC l G (0 + 0 * F.2) (C_X7_chooseAll F) z := by
  intro j as u κ h
  unfold C_X7_chooseAll at h
  cases h
theorem m_X7_chooseAll (F : Nat × Nat) (l : Launch) (G : rx_G) (hf : rx_H) (x0 : Int32) (x1 : Int32) {z : Int32} (h : f_X7_chooseAll F x0 x1 = some z) : rx_Ok l G (1 + 0 * F.2) (rx_ny 144) prog_9_method_64_code 5 (some .int) [.int x0, .int x1] hf (some (.int z)) hf := by
  have h := h
  unfold f_X7_chooseAll at h
  exact (rx_met (l := l) (G := G) (hf := hf) (as := [.int x0, .int x1]) (r := (some (.int z))) (ls0 := [some (.int x0), some (.int x1), none, none, none]) (y := rx_ny 144) (D := (0 + 0 * F.2)) (ini := false) (bo := false) (u := none) (u' := none) k_X7_chooseAll (fun h => by cases h) (Nat.le_of_ble_eq_true rfl) (Or.inl ⟨rfl, rfl, _, rfl⟩) (fun Z hZ hB => rx_RT_rI hZ hB) (by exact ⟨Or.inr rfl, Or.inr rfl, Or.inl rfl, Or.inl rfl, Or.inl rfl, trivial⟩) (s_X7_chooseAll_0 (cc_X7_chooseAll F l G z) x0 x1 h)).deep (by omega)
theorem w_X7_chooseAll (F : Nat × Nat) (l : Launch) (G : rx_G) {α : Type} {z : α} {as : List Value} {u : Option rx_H} {κ : rx_K α} (h : c_X7_chooseAll F as u κ = some z) : rx_Cw l G (1 + 0 * F.2) 144 as u κ z := by
  unfold c_X7_chooseAll at h
  split at h
  · obtain ⟨r, hr, h⟩ := Option.bind_eq_some_iff.mp h
    exact ⟨_, _, _, _, _, _, h, k_X7_chooseAll, fun _ => rfl, fun h => absurd rfl h, fun hf => m_X7_chooseAll F l G _ _ _ hr⟩
  · cases h
set_option maxRecDepth 100000 in
theorem k_X7_least : rx_Cal (rx_ny 180) prog_9_method_63_code 7 (some .int) (rx_kd 180) 2 := ⟨rx_in (i := 1029) (by rfl) (by rfl), rx_in (i := 46) (by decide +kernel) (by decide +kernel), ⟨(by decide +kernel), (by decide +kernel), (by decide +kernel)⟩, Nat.le_of_ble_eq_true rfl, (by decide +kernel), fun h => absurd h (by decide), fun _ => ⟨rx_in (i := 1027) (by decide +kernel) (by decide +kernel), rx_in (i := 1028) (by decide +kernel) (by decide +kernel)⟩, fun h => absurd h (by decide)⟩
set_option maxRecDepth 100000 in
theorem tk_X7_least : (t_X7_least.all (rx_eok "SetHouseModel" prog_9_method_63_code 7 false false) && rx_adj t_X7_least) = true := by decide +kernel
theorem s_X7_least_31 {F : Nat × Nat} {l : Launch} {G : rx_G} {D : Nat} {hf : rx_H} {z : Int32} (hC : rx_CC l G D (C_X7_least F) z) : ∀ (f : Nat) (x3 : Int32) (x4 : Int32) (x5 : Int32), f_X7_least_31 F f x3 x4 x5 = some z → rx_S l G ("SetHouseModel", prog_9_method_63_code, 7, false, false, D) hf hf rx_rI z 31 [none, none, none, some (.int x3), some (.int x4), some (.int x5), none] [] none := by
  intro f
  induction f with
  | zero =>
    intro x3 x4 x5 h
    cases h
  | succ f ih =>
    intro x3 x4 x5 h
    rw [g_X7_least_31] at h
    refine rx_S_node (md := ("SetHouseModel", prog_9_method_63_code, 7, false, false, D)) tk_X7_least hC rx_m_rI (fun t ls st u h => ?_) h
    unfold kk_X7_least_31 at h
    rcases rx_rec_eq h with ⟨hb, h⟩ | ⟨hb, h⟩
    · have ht := Nat.eq_of_beq_eq_true hb
      subst ht
      unfold n_X7_least_31 at h
      split at h
      · exact (ih _ _ _ h).le ⟨Or.inl rfl, Or.inl rfl, Or.inl rfl, Or.inr rfl, Or.inr rfl, Or.inr rfl, Or.inl rfl, trivial⟩
      · cases h
    cases h
theorem s_X7_least_0 {F : Nat × Nat} {l : Launch} {G : rx_G} {D : Nat} {hf : rx_H} {z : Int32} (hC : rx_CC l G D (C_X7_least F) z) (x1 : Int32) (x2 : Int32) (h : f_X7_least_0 F x1 x2 = some z) : rx_S l G ("SetHouseModel", prog_9_method_63_code, 7, false, false, D) hf hf rx_rI z 0 [none, some (.int x1), some (.int x2), none, none, none, none] [] none := by
  rw [g_X7_least_0] at h
  refine rx_S_node (md := ("SetHouseModel", prog_9_method_63_code, 7, false, false, D)) tk_X7_least hC rx_m_rI (fun t ls st u h => ?_) h
  unfold kk_X7_least_0 at h
  rcases rx_rec_eq h with ⟨hb, h⟩ | ⟨hb, h⟩
  · have ht := Nat.eq_of_beq_eq_true hb
    subst ht
    unfold n_X7_least_31 at h
    split at h
    · exact (s_X7_least_31 hC _ _ _ _ h).le ⟨Or.inl rfl, Or.inl rfl, Or.inl rfl, Or.inr rfl, Or.inr rfl, Or.inr rfl, Or.inl rfl, trivial⟩
    · cases h
  cases h
theorem cc_X7_least (F : Nat × Nat) (l : Launch) (G : rx_G) {α : Type} (z : α) : rx_CC l G (2 + 0 * F.2) (C_X7_least F) z := by
  intro j as u κ h
  unfold C_X7_least at h
  rcases rx_rec_eq h with ⟨hb, h⟩ | ⟨hb, h⟩
  · have ht := Nat.eq_of_beq_eq_true hb
    subst ht
    exact (w_X7_choose F l G h).deep (by omega)
  rcases rx_rec_eq h with ⟨hb, h⟩ | ⟨hb, h⟩
  · have ht := Nat.eq_of_beq_eq_true hb
    subst ht
    exact (w_X7_chooseAll F l G h).deep (by omega)
  rcases rx_rec_eq h with ⟨hb, h⟩ | ⟨hb, h⟩
  · have ht := Nat.eq_of_beq_eq_true hb
    subst ht
    exact (w_X7_greatestBelow F l G h).deep (by omega)
  rcases rx_rec_eq h with ⟨hb, h⟩ | ⟨hb, h⟩
  · have ht := Nat.eq_of_beq_eq_true hb
    subst ht
    exact (w_X7_isIn F l G h).deep (by omega)
  cases h
theorem m_X7_least (F : Nat × Nat) (l : Launch) (G : rx_G) (hf : rx_H) (x0 : Nat) (x1 : Int32) (x2 : Int32) {z : Int32} (h : f_X7_least F x0 x1 x2 = some z) : rx_Ok l G (3 + 0 * F.2) (rx_ny 180) prog_9_method_63_code 7 (some .int) [.ref x0, .int x1, .int x2] hf (some (.int z)) hf := by
  have h := h
  unfold f_X7_least at h
  exact (rx_met (l := l) (G := G) (hf := hf) (as := [.ref x0, .int x1, .int x2]) (r := (some (.int z))) (ls0 := [none, some (.int x1), some (.int x2), none, none, none, none]) (y := rx_ny 180) (D := (2 + 0 * F.2)) (ini := false) (bo := false) (u := none) (u' := none) k_X7_least (fun h => by cases h) (Nat.le_of_ble_eq_true rfl) (Or.inl ⟨rfl, rfl, _, rfl⟩) (fun Z hZ hB => rx_RT_rI hZ hB) (by exact ⟨Or.inl rfl, Or.inr rfl, Or.inr rfl, Or.inl rfl, Or.inl rfl, Or.inl rfl, Or.inl rfl, trivial⟩) (s_X7_least_0 (cc_X7_least F l G z) x1 x2 h)).deep (by omega)
theorem w_X7_least (F : Nat × Nat) (l : Launch) (G : rx_G) {α : Type} {z : α} {as : List Value} {u : Option rx_H} {κ : rx_K α} (h : c_X7_least F as u κ = some z) : rx_Cw l G (3 + 0 * F.2) 180 as u κ z := by
  unfold c_X7_least at h
  split at h
  · obtain ⟨r, hr, h⟩ := Option.bind_eq_some_iff.mp h
    exact ⟨_, _, _, _, _, _, h, k_X7_least, fun h => absurd h (by decide), fun _ => ⟨_, _, rfl, rfl⟩, fun hf => m_X7_least F l G _ _ _ _ hr⟩
  · cases h
set_option maxRecDepth 100000 in
theorem k_X7_power : rx_Cal (rx_ny 192) prog_9_method_68_code 5 (some .long) (rx_kd 192) 2 := ⟨rx_in (i := 1051) (by rfl) (by rfl), rx_in (i := 46) (by decide +kernel) (by decide +kernel), ⟨(by decide +kernel), (by decide +kernel), (by decide +kernel)⟩, Nat.le_of_ble_eq_true rfl, (by decide +kernel), fun _ => rx_in (i := 1050) (by decide +kernel) (by decide +kernel), fun h => absurd h (by decide), fun h => absurd h (by decide)⟩
set_option maxRecDepth 100000 in
theorem tk_X7_power : (t_X7_power.all (rx_eok "SetHouseModel" prog_9_method_68_code 5 false false) && rx_adj t_X7_power) = true := by decide +kernel
theorem s_X7_power_5 {F : Nat × Nat} {l : Launch} {G : rx_G} {D : Nat} {hf : rx_H} {z : Int64} (hC : rx_CC l G D (C_X7_power F) z) : ∀ (f : Nat) (x0 : Int32) (x1 : Int32) (x2 : Int64) (x4 : Int32), f_X7_power_5 F f x0 x1 x2 x4 = some z → rx_S l G ("SetHouseModel", prog_9_method_68_code, 5, false, false, D) hf hf rx_rJ z 5 [some (.int x0), some (.int x1), some (.long x2), none, some (.int x4)] [] none := by
  intro f
  induction f with
  | zero =>
    intro x0 x1 x2 x4 h
    cases h
  | succ f ih =>
    intro x0 x1 x2 x4 h
    rw [g_X7_power_5] at h
    refine rx_S_node (md := ("SetHouseModel", prog_9_method_68_code, 5, false, false, D)) tk_X7_power hC rx_m_rJ (fun t ls st u h => ?_) h
    unfold kk_X7_power_5 at h
    rcases rx_rec_eq h with ⟨hb, h⟩ | ⟨hb, h⟩
    · have ht := Nat.eq_of_beq_eq_true hb
      subst ht
      unfold n_X7_power_5 at h
      split at h
      · exact (ih _ _ _ _ h).le ⟨Or.inr rfl, Or.inr rfl, Or.inr rfl, Or.inl rfl, Or.inr rfl, trivial⟩
      · cases h
    cases h
theorem s_X7_power_0 {F : Nat × Nat} {l : Launch} {G : rx_G} {D : Nat} {hf : rx_H} {z : Int64} (hC : rx_CC l G D (C_X7_power F) z) (x0 : Int32) (x1 : Int32) (h : f_X7_power_0 F x0 x1 = some z) : rx_S l G ("SetHouseModel", prog_9_method_68_code, 5, false, false, D) hf hf rx_rJ z 0 [some (.int x0), some (.int x1), none, none, none] [] none := by
  rw [g_X7_power_0] at h
  refine rx_S_node (md := ("SetHouseModel", prog_9_method_68_code, 5, false, false, D)) tk_X7_power hC rx_m_rJ (fun t ls st u h => ?_) h
  unfold kk_X7_power_0 at h
  rcases rx_rec_eq h with ⟨hb, h⟩ | ⟨hb, h⟩
  · have ht := Nat.eq_of_beq_eq_true hb
    subst ht
    unfold n_X7_power_5 at h
    split at h
    · exact (s_X7_power_5 hC _ _ _ _ _ h).le ⟨Or.inr rfl, Or.inr rfl, Or.inr rfl, Or.inl rfl, Or.inr rfl, trivial⟩
    · cases h
  cases h
theorem cc_X7_power (F : Nat × Nat) (l : Launch) (G : rx_G) {α : Type} (z : α) : rx_CC l G (0 + 0 * F.2) (C_X7_power F) z := by
  intro j as u κ h
  unfold C_X7_power at h
  cases h
theorem m_X7_power (F : Nat × Nat) (l : Launch) (G : rx_G) (hf : rx_H) (x0 : Int32) (x1 : Int32) {z : Int64} (h : f_X7_power F x0 x1 = some z) : rx_Ok l G (1 + 0 * F.2) (rx_ny 192) prog_9_method_68_code 5 (some .long) [.int x0, .int x1] hf (some (.long z)) hf := by
  have h := h
  unfold f_X7_power at h
  exact (rx_met (l := l) (G := G) (hf := hf) (as := [.int x0, .int x1]) (r := (some (.long z))) (ls0 := [some (.int x0), some (.int x1), none, none, none]) (y := rx_ny 192) (D := (0 + 0 * F.2)) (ini := false) (bo := false) (u := none) (u' := none) k_X7_power (fun h => by cases h) (Nat.le_of_ble_eq_true rfl) (Or.inr (Or.inr (Or.inl ⟨rfl, _, rfl⟩))) (fun Z hZ hB => rx_RT_rJ hZ hB) (by exact ⟨Or.inr rfl, Or.inr rfl, Or.inl rfl, Or.inl rfl, Or.inl rfl, trivial⟩) (s_X7_power_0 (cc_X7_power F l G z) x0 x1 h)).deep (by omega)
theorem w_X7_power (F : Nat × Nat) (l : Launch) (G : rx_G) {α : Type} {z : α} {as : List Value} {u : Option rx_H} {κ : rx_K α} (h : c_X7_power F as u κ = some z) : rx_Cw l G (1 + 0 * F.2) 192 as u κ z := by
  unfold c_X7_power at h
  split at h
  · obtain ⟨r, hr, h⟩ := Option.bind_eq_some_iff.mp h
    exact ⟨_, _, _, _, _, _, h, k_X7_power, fun _ => rfl, fun h => absurd rfl h, fun hf => m_X7_power F l G _ _ _ hr⟩
  · cases h
end
