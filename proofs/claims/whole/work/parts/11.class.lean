def f_X1_comingClash_0 (F : Nat × Nat) (x0 : Nat) (x1 : Int32) (u : Option rx_H) : Option (Int32 × Option rx_H) :=
  (rx_gJ u x0 0 2).bind fun v1 =>
  (f_X0_holdsSet F v1 x1).bind fun v2 =>
  if v2 = 0 then
    (rx_gI u x0 0 0).bind fun v3 =>
    if v3 = 1 then
      (f_X0_within F x1).bind fun v4 =>
      (f_X0_around F x1).bind fun v5 =>
      (f_X0_leastOf F (v1 &&& (v4 ||| v5))).bind fun v6 =>
      some (v6, u)
    else if v3 = 2 then
      (rx_gI u x0 0 1).bind fun v7 =>
      (f_X1_meetClash F v1 x1 v7).bind fun v8 =>
      some (v8, u)
    else if v3 = 3 then
      (f_X0_within F x1).bind fun v9 =>
      (f_X0_leastOf F ((v9 &&& (v1 ^^^ (-1 : Int64))) &&& (((1 : Int64) <<< (Int32.toInt64 x1 &&& 63)) ^^^ (-1 : Int64)))).bind fun v10 =>
      some (v10, u)
    else if v3 = 4 then
      (f_J6_bitCount_0f7a4 F x1).bind fun v11 =>
      (rx_gI u x0 0 1).bind fun v12 =>
      if v11 = v12 then
        some ((-2 : Int32), u)
      else
        some (x1, u)
    else if v3 = 5 then
      (rx_gI u x0 0 1).bind fun v13 =>
      (f_X1_meetClash F v1 x1 v13).bind fun v14 =>
      if v14 = (-2 : Int32) then
        (rx_gJ u x0 0 3).bind fun v15 =>
        (rx_gI u x0 0 1).bind fun v16 =>
        (f_X1_firstFarFrom F v15 x1 v16).bind fun v17 =>
        some (v17, u)
      else
        some (v14, u)
    else 
      some ((-2 : Int32), u)
  else
    some ((-2 : Int32), u)
def f_X1_comingClash (F : Nat × Nat) (x0 : Nat) (x1 : Int32) (u : Option rx_H) : Option (Int32 × Option rx_H) := f_X1_comingClash_0 F x0 x1 u
def c_X1_comingClash {α : Type} (F : Nat × Nat) (as : List Value) (u : Option rx_H) (κ : rx_K α) : Option α := match as with
  | [.ref a0, .int a1] => (f_X1_comingClash F a0 a1 u).bind fun r => κ (some (.int r.1)) r.2
  | _ => none
noncomputable def C_X1_comingClash {α : Type} (F : Nat × Nat) : rx_Cl α := fun j as u κ => Bool.rec (motive := fun _ => Option α) (Bool.rec (motive := fun _ => Option α) (Bool.rec (motive := fun _ => Option α) (Bool.rec (motive := fun _ => Option α) (Bool.rec (motive := fun _ => Option α) (Bool.rec (motive := fun _ => Option α) (Bool.rec (motive := fun _ => Option α) (none) (c_X1_meetClash F as u κ) (Nat.beq j 41)) (c_X1_firstFarFrom F as u κ) (Nat.beq j 36)) (c_X0_within F as u κ) (Nat.beq j 30)) (c_X0_leastOf F as u κ) (Nat.beq j 17)) (c_X0_holdsSet F as u κ) (Nat.beq j 13)) (c_X0_around F as u κ) (Nat.beq j 10)) (c_J6_bitCount_0f7a4 F as u κ) (Nat.beq j 1)
def t_X1_comingClash : List rx_E := [
  (0, .aload_n 0, 1, 0, 0, 0, 0, 0, []),
  (1, .getfield 9, 3, 0, 9, 82, 0, 0, []),
  (4, .lstore_n 2, 1, 0, 0, 0, 0, 0, []),
  (5, .lload_n 2, 1, 0, 0, 0, 0, 0, []),
  (6, .iload_n 1, 1, 0, 0, 0, 0, 0, []),
  (7, .invokestatic 15, 3, 13, 2, 217, 0, 0, []),
  (10, .ifCond .eq 6, 3, 16, 0, 0, 0, 0, []),
  (13, .bipush (-2), 2, 0, 0, 0, (-2), 0, []),
  (15, .ireturn, 1, 0, 0, 0, 0, 0, []),
  (16, .aload_n 0, 1, 0, 0, 0, 0, 0, []),
  (17, .getfield 21, 3, 0, 0, 77, 0, 0, []),
  (20, .tableswitch 137 1 5 #[36, 51, 61, 83, 101], 36, 157, 0, 0, 0, 0, [(1, 56), (2, 71), (3, 81), (4, 103), (5, 121)]),
  (56, .lload_n 2, 1, 0, 0, 0, 0, 0, []),
  (57, .iload_n 1, 1, 0, 0, 0, 0, 0, []),
  (58, .invokestatic 25, 3, 30, 1, 220, 0, 0, []),
  (61, .iload_n 1, 1, 0, 0, 0, 0, 0, []),
  (62, .invokestatic 29, 3, 10, 1, 223, 0, 0, []),
  (65, .lor, 1, 0, 0, 0, 0, 0, []),
  (66, .land, 1, 0, 0, 0, 0, 0, []),
  (67, .invokestatic 32, 3, 17, 1, 227, 0, 0, []),
  (70, .ireturn, 1, 0, 0, 0, 0, 0, []),
  (71, .lload_n 2, 1, 0, 0, 0, 0, 0, []),
  (72, .iload_n 1, 1, 0, 0, 0, 0, 0, []),
  (73, .aload_n 0, 1, 0, 0, 0, 0, 0, []),
  (74, .getfield 36, 3, 0, 4, 80, 0, 0, []),
  (77, .invokestatic 39, 3, 41, 3, 237, 0, 0, []),
  (80, .ireturn, 1, 0, 0, 0, 0, 0, []),
  (81, .iload_n 1, 1, 0, 0, 0, 0, 0, []),
  (82, .invokestatic 25, 3, 30, 1, 220, 0, 0, []),
  (85, .lload_n 2, 1, 0, 0, 0, 0, 0, []),
  (86, .ldc2_w 45, 3, 0, 0, 245, 0, (-1), []),
  (89, .lxor, 1, 0, 0, 0, 0, 0, []),
  (90, .land, 1, 0, 0, 0, 0, 0, []),
  (91, .lconst 1, 1, 0, 0, 0, 0, 1, []),
  (92, .iload_n 1, 1, 0, 0, 0, 0, 0, []),
  (93, .lshl, 1, 0, 0, 0, 0, 0, []),
  (94, .ldc2_w 45, 3, 0, 0, 245, 0, (-1), []),
  (97, .lxor, 1, 0, 0, 0, 0, 0, []),
  (98, .land, 1, 0, 0, 0, 0, 0, []),
  (99, .invokestatic 32, 3, 17, 1, 227, 0, 0, []),
  (102, .ireturn, 1, 0, 0, 0, 0, 0, []),
  (103, .iload_n 1, 1, 0, 0, 0, 0, 0, []),
  (104, .invokestatic 47, 3, 1, 1, 240, 0, 0, []),
  (107, .aload_n 0, 1, 0, 0, 0, 0, 0, []),
  (108, .getfield 36, 3, 0, 4, 80, 0, 0, []),
  (111, .if_icmp .ne 8, 3, 119, 0, 0, 0, 0, []),
  (114, .bipush (-2), 2, 0, 0, 0, (-2), 0, []),
  (116, .goto 4, 3, 120, 0, 0, 0, 0, []),
  (119, .iload_n 1, 1, 0, 0, 0, 0, 0, []),
  (120, .ireturn, 1, 0, 0, 0, 0, 0, []),
  (121, .lload_n 2, 1, 0, 0, 0, 0, 0, []),
  (122, .iload_n 1, 1, 0, 0, 0, 0, 0, []),
  (123, .aload_n 0, 1, 0, 0, 0, 0, 0, []),
  (124, .getfield 36, 3, 0, 4, 80, 0, 0, []),
  (127, .invokestatic 39, 3, 41, 3, 237, 0, 0, []),
  (130, .istore 4, 2, 0, 0, 0, 0, 0, []),
  (132, .iload 4, 2, 0, 0, 0, 0, 0, []),
  (134, .bipush (-2), 2, 0, 0, 0, (-2), 0, []),
  (136, .if_icmp .ne 18, 3, 154, 0, 0, 0, 0, []),
  (139, .aload_n 0, 1, 0, 0, 0, 0, 0, []),
  (140, .getfield 53, 3, 0, 13, 86, 0, 0, []),
  (143, .iload_n 1, 1, 0, 0, 0, 0, 0, []),
  (144, .aload_n 0, 1, 0, 0, 0, 0, 0, []),
  (145, .getfield 36, 3, 0, 4, 80, 0, 0, []),
  (148, .invokestatic 56, 3, 36, 3, 241, 0, 0, []),
  (151, .goto 5, 3, 156, 0, 0, 0, 0, []),
  (154, .iload 4, 2, 0, 0, 0, 0, 0, []),
  (156, .ireturn, 1, 0, 0, 0, 0, 0, []),
  (157, .bipush (-2), 2, 0, 0, 0, (-2), 0, []),
  (159, .ireturn, 1, 0, 0, 0, 0, 0, [])]
noncomputable def kk_X1_comingClash_0 (F : Nat × Nat) : Nat → rx_L → List Value → Option rx_H → Option (Int32 × Option rx_H) := fun t ls st u => none
set_option maxRecDepth 100000 in
theorem g_X1_comingClash_0 (F : Nat × Nat) (x0 : Nat) (x1 : Int32) (u : Option rx_H) : f_X1_comingClash_0 F x0 x1 u = rx_node (C_X1_comingClash F) rx_hI t_X1_comingClash [] (kk_X1_comingClash_0 F) 73 0 [some (.ref x0), some (.int x1), none, none, none] [] u := rfl
def f_X1_goingClash_0 (F : Nat × Nat) (x0 : Nat) (x1 : Int32) (u : Option rx_H) : Option (Int32 × Option rx_H) :=
  (rx_gI u x0 0 0).bind fun v1 =>
  if v1 = (3 : Int32) then
    (rx_gJ u x0 0 2).bind fun v2 =>
    (f_X0_around F x1).bind fun v3 =>
    (f_X0_leastOf F ((v2 &&& v3) &&& (((1 : Int64) <<< (Int32.toInt64 x1 &&& 63)) ^^^ (-1 : Int64)))).bind fun v4 =>
    some (v4, u)
  else
    some ((-2 : Int32), u)
def f_X1_goingClash (F : Nat × Nat) (x0 : Nat) (x1 : Int32) (u : Option rx_H) : Option (Int32 × Option rx_H) := f_X1_goingClash_0 F x0 x1 u
def c_X1_goingClash {α : Type} (F : Nat × Nat) (as : List Value) (u : Option rx_H) (κ : rx_K α) : Option α := match as with
  | [.ref a0, .int a1] => (f_X1_goingClash F a0 a1 u).bind fun r => κ (some (.int r.1)) r.2
  | _ => none
noncomputable def C_X1_goingClash {α : Type} (F : Nat × Nat) : rx_Cl α := fun j as u κ => Bool.rec (motive := fun _ => Option α) (Bool.rec (motive := fun _ => Option α) (none) (c_X0_leastOf F as u κ) (Nat.beq j 17)) (c_X0_around F as u κ) (Nat.beq j 10)
def t_X1_goingClash : List rx_E := [
  (0, .aload_n 0, 1, 0, 0, 0, 0, 0, []),
  (1, .getfield 21, 3, 0, 0, 77, 0, 0, []),
  (4, .iconst 3, 1, 0, 0, 0, 3, 0, []),
  (5, .if_icmp .eq 6, 3, 11, 0, 0, 0, 0, []),
  (8, .bipush (-2), 2, 0, 0, 0, (-2), 0, []),
  (10, .ireturn, 1, 0, 0, 0, 0, 0, []),
  (11, .aload_n 0, 1, 0, 0, 0, 0, 0, []),
  (12, .getfield 9, 3, 0, 9, 82, 0, 0, []),
  (15, .iload_n 1, 1, 0, 0, 0, 0, 0, []),
  (16, .invokestatic 29, 3, 10, 1, 223, 0, 0, []),
  (19, .land, 1, 0, 0, 0, 0, 0, []),
  (20, .lconst 1, 1, 0, 0, 0, 0, 1, []),
  (21, .iload_n 1, 1, 0, 0, 0, 0, 0, []),
  (22, .lshl, 1, 0, 0, 0, 0, 0, []),
  (23, .ldc2_w 45, 3, 0, 0, 245, 0, (-1), []),
  (26, .lxor, 1, 0, 0, 0, 0, 0, []),
  (27, .land, 1, 0, 0, 0, 0, 0, []),
  (28, .invokestatic 32, 3, 17, 1, 227, 0, 0, []),
  (31, .ireturn, 1, 0, 0, 0, 0, 0, [])]
noncomputable def kk_X1_goingClash_0 (F : Nat × Nat) : Nat → rx_L → List Value → Option rx_H → Option (Int32 × Option rx_H) := fun t ls st u => none
set_option maxRecDepth 100000 in
theorem g_X1_goingClash_0 (F : Nat × Nat) (x0 : Nat) (x1 : Int32) (u : Option rx_H) : f_X1_goingClash_0 F x0 x1 u = rx_node (C_X1_goingClash F) rx_hI t_X1_goingClash [] (kk_X1_goingClash_0 F) 22 0 [some (.ref x0), some (.int x1)] [] u := rfl
def f_X1_heftOf_0 (F : Nat × Nat) (x0 : Nat) (u : Option rx_H) : Option (Int32 × Option rx_H) :=
  (rx_gJ u x0 0 2).bind fun v1 =>
  (f_X0_size F v1).bind fun v2 =>
  (rx_gI u x0 0 0).bind fun v3 =>
  if v3 = 1 then
    some ((v2 + (10 : Int32)) + (100 : Int32), u)
  else if v3 = 2 then
    (rx_gI u x0 0 1).bind fun v4 =>
    some ((v2 + (10 : Int32)) + v4, u)
  else if v3 = 3 then
    some ((v2 + (10 : Int32)) + (1000 : Int32), u)
  else if v3 = 4 then
    some ((2 : Int32) * ((v2 + (10 : Int32)) + (100 : Int32)), u)
  else if v3 = 5 then
    (rx_gI u x0 0 1).bind fun v5 =>
    (rx_gJ u x0 0 3).bind fun v6 =>
    (f_X0_size F v6).bind fun v7 =>
    some (((v2 + (10 : Int32)) + v5) + v7, u)
  else 
    some (v2 + (10 : Int32), u)
def f_X1_heftOf (F : Nat × Nat) (x0 : Nat) (u : Option rx_H) : Option (Int32 × Option rx_H) := f_X1_heftOf_0 F x0 u
def c_X1_heftOf {α : Type} (F : Nat × Nat) (as : List Value) (u : Option rx_H) (κ : rx_K α) : Option α := match as with
  | [.ref a0] => (f_X1_heftOf F a0 u).bind fun r => κ (some (.int r.1)) r.2
  | _ => none
noncomputable def C_X1_heftOf {α : Type} (F : Nat × Nat) : rx_Cl α := fun j as u κ => Bool.rec (motive := fun _ => Option α) (none) (c_X0_size F as u κ) (Nat.beq j 28)
def t_X1_heftOf : List rx_E := [
  (0, .aload_n 0, 1, 0, 0, 0, 0, 0, []),
  (1, .getfield 9, 3, 0, 9, 82, 0, 0, []),
  (4, .invokestatic 82, 3, 28, 1, 635, 0, 0, []),
  (7, .bipush 10, 2, 0, 0, 0, 10, 0, []),
  (9, .iadd, 1, 0, 0, 0, 0, 0, []),
  (10, .istore_n 1, 1, 0, 0, 0, 0, 0, []),
  (11, .aload_n 0, 1, 0, 0, 0, 0, 0, []),
  (12, .getfield 21, 3, 0, 0, 77, 0, 0, []),
  (15, .tableswitch 73 1 5 #[33, 45, 67, 38, 52], 33, 88, 0, 0, 0, 0, [(1, 48), (2, 60), (3, 82), (4, 53), (5, 67)]),
  (48, .iload_n 1, 1, 0, 0, 0, 0, 0, []),
  (49, .bipush 100, 2, 0, 0, 0, 100, 0, []),
  (51, .iadd, 1, 0, 0, 0, 0, 0, []),
  (52, .ireturn, 1, 0, 0, 0, 0, 0, []),
  (53, .iconst 2, 1, 0, 0, 0, 2, 0, []),
  (54, .iload_n 1, 1, 0, 0, 0, 0, 0, []),
  (55, .bipush 100, 2, 0, 0, 0, 100, 0, []),
  (57, .iadd, 1, 0, 0, 0, 0, 0, []),
  (58, .imul, 1, 0, 0, 0, 0, 0, []),
  (59, .ireturn, 1, 0, 0, 0, 0, 0, []),
  (60, .iload_n 1, 1, 0, 0, 0, 0, 0, []),
  (61, .aload_n 0, 1, 0, 0, 0, 0, 0, []),
  (62, .getfield 36, 3, 0, 4, 80, 0, 0, []),
  (65, .iadd, 1, 0, 0, 0, 0, 0, []),
  (66, .ireturn, 1, 0, 0, 0, 0, 0, []),
  (67, .iload_n 1, 1, 0, 0, 0, 0, 0, []),
  (68, .aload_n 0, 1, 0, 0, 0, 0, 0, []),
  (69, .getfield 36, 3, 0, 4, 80, 0, 0, []),
  (72, .iadd, 1, 0, 0, 0, 0, 0, []),
  (73, .aload_n 0, 1, 0, 0, 0, 0, 0, []),
  (74, .getfield 53, 3, 0, 13, 86, 0, 0, []),
  (77, .invokestatic 82, 3, 28, 1, 635, 0, 0, []),
  (80, .iadd, 1, 0, 0, 0, 0, 0, []),
  (81, .ireturn, 1, 0, 0, 0, 0, 0, []),
  (82, .iload_n 1, 1, 0, 0, 0, 0, 0, []),
  (83, .sipush 1000, 3, 0, 0, 0, 1000, 0, []),
  (86, .iadd, 1, 0, 0, 0, 0, 0, []),
  (87, .ireturn, 1, 0, 0, 0, 0, 0, []),
  (88, .iload_n 1, 1, 0, 0, 0, 0, 0, []),
  (89, .ireturn, 1, 0, 0, 0, 0, 0, [])]
noncomputable def kk_X1_heftOf_0 (F : Nat × Nat) : Nat → rx_L → List Value → Option rx_H → Option (Int32 × Option rx_H) := fun t ls st u => none
set_option maxRecDepth 100000 in
theorem g_X1_heftOf_0 (F : Nat × Nat) (x0 : Nat) (u : Option rx_H) : f_X1_heftOf_0 F x0 u = rx_node (C_X1_heftOf F) rx_hI t_X1_heftOf [] (kk_X1_heftOf_0 F) 42 0 [some (.ref x0), none] [] u := rfl
def f_X4_init_0 (F : Nat × Nat) (x0 : Nat) (u : Option rx_H) : Option (Option rx_H) :=
  (rx_p u x0 0 0 (.int (-2 : Int32))).bind fun v1 =>
  (rx_nJ v1 (64 : Int32)).bind fun v2 =>
  (rx_p v2.2 x0 0 5 (.ref v2.1)).bind fun v3 =>
  some v3
def f_X4_init (F : Nat × Nat) (x0 : Nat) (u : Option rx_H) : Option (Option rx_H) := f_X4_init_0 F x0 u
def c_X4_init {α : Type} (F : Nat × Nat) (as : List Value) (u : Option rx_H) (κ : rx_K α) : Option α := match as with
  | [.ref a0] => (f_X4_init F a0 u).bind fun r => κ none r
  | _ => none
noncomputable def C_X4_init {α : Type} (F : Nat × Nat) : rx_Cl α := fun j as u κ => none
def t_X4_init : List rx_E := [
  (0, .aload_n 0, 1, 0, 0, 0, 0, 0, []),
  (1, .invokespecial 3, 3, 0, 1000, 75, 0, 0, []),
  (4, .aload_n 0, 1, 0, 0, 0, 0, 0, []),
  (5, .bipush (-2), 2, 0, 0, 0, (-2), 0, []),
  (7, .putfield 9, 3, 0, 0, 76, 0, 0, []),
  (10, .aload_n 0, 1, 0, 0, 0, 0, 0, []),
  (11, .bipush 64, 2, 0, 0, 0, 64, 0, []),
  (13, .newarray .long, 2, 0, 0, 0, 0, 0, []),
  (15, .putfield 15, 3, 0, 22, 90, 0, 0, []),
  (18, .return_, 1, 0, 0, 0, 0, 0, [])]
noncomputable def kk_X4_init_0 (F : Nat × Nat) : Nat → rx_L → List Value → Option rx_H → Option (Option rx_H) := fun t ls st u => none
set_option maxRecDepth 100000 in
theorem g_X4_init_0 (F : Nat × Nat) (x0 : Nat) (u : Option rx_H) : f_X4_init_0 F x0 u = rx_node (C_X4_init F) rx_hV t_X4_init [] (kk_X4_init_0 F) 13 0 [some (.ref x0)] [] u := rfl
def f_X4_becomeNothing_0 (F : Nat × Nat) (x0 : Nat) (u : Option rx_H) : Option (Option rx_H) :=
  (rx_p u x0 0 0 (.int (-2 : Int32))).bind fun v1 =>
  some v1
def f_X4_becomeNothing (F : Nat × Nat) (x0 : Nat) (u : Option rx_H) : Option (Option rx_H) := f_X4_becomeNothing_0 F x0 u
def c_X4_becomeNothing {α : Type} (F : Nat × Nat) (as : List Value) (u : Option rx_H) (κ : rx_K α) : Option α := match as with
  | [.ref a0] => (f_X4_becomeNothing F a0 u).bind fun r => κ none r
  | _ => none
noncomputable def C_X4_becomeNothing {α : Type} (F : Nat × Nat) : rx_Cl α := fun j as u κ => none
def t_X4_becomeNothing : List rx_E := [
  (0, .aload_n 0, 1, 0, 0, 0, 0, 0, []),
  (1, .bipush (-2), 2, 0, 0, 0, (-2), 0, []),
  (3, .putfield 9, 3, 0, 0, 76, 0, 0, []),
  (6, .return_, 1, 0, 0, 0, 0, 0, [])]
noncomputable def kk_X4_becomeNothing_0 (F : Nat × Nat) : Nat → rx_L → List Value → Option rx_H → Option (Option rx_H) := fun t ls st u => none
set_option maxRecDepth 100000 in
theorem g_X4_becomeNothing_0 (F : Nat × Nat) (x0 : Nat) (u : Option rx_H) : f_X4_becomeNothing_0 F x0 u = rx_node (C_X4_becomeNothing F) rx_hV t_X4_becomeNothing [] (kk_X4_becomeNothing_0 F) 7 0 [some (.ref x0)] [] u := rfl
def f_X4_becomeFamily_0 (F : Nat × Nat) (x0 : Nat) (x1 : Int32) (x2 : Int32) (x3 : Int64) (x5 : Int64) (u : Option rx_H) : Option (Option rx_H) :=
  (rx_p u x0 0 0 (.int x1)).bind fun v1 =>
  (rx_p v1 x0 0 1 (.int x2)).bind fun v2 =>
  (rx_p v2 x0 0 2 (.long x3)).bind fun v3 =>
  (rx_p v3 x0 0 3 (.long x5)).bind fun v4 =>
  some v4
def f_X4_becomeFamily (F : Nat × Nat) (x0 : Nat) (x1 : Int32) (x2 : Int32) (x3 : Int64) (x5 : Int64) (u : Option rx_H) : Option (Option rx_H) := f_X4_becomeFamily_0 F x0 x1 x2 x3 x5 u
def c_X4_becomeFamily {α : Type} (F : Nat × Nat) (as : List Value) (u : Option rx_H) (κ : rx_K α) : Option α := match as with
  | [.ref a0, .int a1, .int a2, .long a3, .long a4] => (f_X4_becomeFamily F a0 a1 a2 a3 a4 u).bind fun r => κ none r
  | _ => none
noncomputable def C_X4_becomeFamily {α : Type} (F : Nat × Nat) : rx_Cl α := fun j as u κ => none
def t_X4_becomeFamily : List rx_E := [
  (0, .aload_n 0, 1, 0, 0, 0, 0, 0, []),
  (1, .iload_n 1, 1, 0, 0, 0, 0, 0, []),
  (2, .putfield 9, 3, 0, 0, 76, 0, 0, []),
  (5, .aload_n 0, 1, 0, 0, 0, 0, 0, []),
  (6, .iload_n 2, 1, 0, 0, 0, 0, 0, []),
  (7, .putfield 19, 3, 0, 4, 79, 0, 0, []),
  (10, .aload_n 0, 1, 0, 0, 0, 0, 0, []),
  (11, .lload_n 3, 1, 0, 0, 0, 0, 0, []),
  (12, .putfield 22, 3, 0, 9, 83, 0, 0, []),
  (15, .aload_n 0, 1, 0, 0, 0, 0, 0, []),
  (16, .lload 5, 2, 0, 0, 0, 0, 0, []),
  (18, .putfield 26, 3, 0, 13, 85, 0, 0, []),
  (21, .return_, 1, 0, 0, 0, 0, 0, [])]
noncomputable def kk_X4_becomeFamily_0 (F : Nat × Nat) : Nat → rx_L → List Value → Option rx_H → Option (Option rx_H) := fun t ls st u => none
set_option maxRecDepth 100000 in
theorem g_X4_becomeFamily_0 (F : Nat × Nat) (x0 : Nat) (x1 : Int32) (x2 : Int32) (x3 : Int64) (x5 : Int64) (u : Option rx_H) : f_X4_becomeFamily_0 F x0 x1 x2 x3 x5 u = rx_node (C_X4_becomeFamily F) rx_hV t_X4_becomeFamily [] (kk_X4_becomeFamily_0 F) 16 0 [some (.ref x0), some (.int x1), some (.int x2), some (.long x3), none, some (.long x5), none] [] u := rfl
def f_X4_becomeRow_12 (F : Nat × Nat) : Nat → Nat → Int32 → Option rx_H → Option (Option rx_H)
  | 0, _, _, _ => none
  | f + 1, x0, x3, u =>
    if x3 < (64 : Int32) then
      (rx_gR u x0 0 5).bind fun v1 =>
      (rx_sJ u v1 x3 (0 : Int64)).bind fun v2 =>
      (f_X4_becomeRow_12 F f) x0 (x3 + 1) v2
    else
      some u
def f_X4_becomeRow_0 (F : Nat × Nat) (x0 : Nat) (x1 : Int32) (x2 : Int32) (u : Option rx_H) : Option (Option rx_H) :=
  (rx_p u x0 0 0 (.int x1)).bind fun v1 =>
  (rx_p v1 x0 0 4 (.int x2)).bind fun v2 =>
  f_X4_becomeRow_12 F F.1 x0 (0 : Int32) v2
def f_X4_becomeRow (F : Nat × Nat) (x0 : Nat) (x1 : Int32) (x2 : Int32) (u : Option rx_H) : Option (Option rx_H) := f_X4_becomeRow_0 F x0 x1 x2 u
def c_X4_becomeRow {α : Type} (F : Nat × Nat) (as : List Value) (u : Option rx_H) (κ : rx_K α) : Option α := match as with
  | [.ref a0, .int a1, .int a2] => (f_X4_becomeRow F a0 a1 a2 u).bind fun r => κ none r
  | _ => none
noncomputable def C_X4_becomeRow {α : Type} (F : Nat × Nat) : rx_Cl α := fun j as u κ => none
def t_X4_becomeRow : List rx_E := [
  (0, .aload_n 0, 1, 0, 0, 0, 0, 0, []),
  (1, .iload_n 1, 1, 0, 0, 0, 0, 0, []),
  (2, .putfield 9, 3, 0, 0, 76, 0, 0, []),
  (5, .aload_n 0, 1, 0, 0, 0, 0, 0, []),
  (6, .iload_n 2, 1, 0, 0, 0, 0, 0, []),
  (7, .putfield 29, 3, 0, 16, 88, 0, 0, []),
  (10, .iconst 0, 1, 0, 0, 0, 0, 0, []),
  (11, .istore_n 3, 1, 0, 0, 0, 0, 0, []),
  (12, .iload_n 3, 1, 0, 0, 0, 0, 0, []),
  (13, .bipush 64, 2, 0, 0, 0, 64, 0, []),
  (15, .if_icmp .ge 16, 3, 31, 0, 0, 0, 0, []),
  (18, .aload_n 0, 1, 0, 0, 0, 0, 0, []),
  (19, .getfield 15, 3, 0, 22, 90, 0, 0, []),
  (22, .iload_n 3, 1, 0, 0, 0, 0, 0, []),
  (23, .lconst 0, 1, 0, 0, 0, 0, 0, []),
  (24, .lastore, 1, 0, 0, 0, 0, 0, []),
  (25, .iinc 3 1, 3, 0, 0, 0, 1, 0, []),
  (28, .goto (-16), 3, 12, 0, 0, 0, 0, []),
  (31, .return_, 1, 0, 0, 0, 0, 0, [])]
def n_X4_becomeRow_12 (k12 : Nat → Int32 → Option rx_H → Option (Option rx_H)) (ls : rx_L) (st : List Value) (u : Option rx_H) : Option (Option rx_H) := match ls, st, u with
  | [some (.ref x0), _, _, some (.int x3)], [], u => k12 x0 x3 u
  | _, _, _ => none
noncomputable def kk_X4_becomeRow_12 (F : Nat × Nat) (k12 : Nat → Int32 → Option rx_H → Option (Option rx_H)) : Nat → rx_L → List Value → Option rx_H → Option (Option rx_H) := fun t ls st u => Bool.rec (motive := fun _ => Option (Option rx_H)) (none) (n_X4_becomeRow_12 k12 ls st u) (Nat.beq t 12)
noncomputable def kk_X4_becomeRow_0 (F : Nat × Nat) : Nat → rx_L → List Value → Option rx_H → Option (Option rx_H) := fun t ls st u => Bool.rec (motive := fun _ => Option (Option rx_H)) (none) (n_X4_becomeRow_12 (f_X4_becomeRow_12 F F.1) ls st u) (Nat.beq t 12)
set_option maxRecDepth 100000 in
theorem g_X4_becomeRow_12 (F : Nat × Nat) (f : Nat) (x0 : Nat) (x3 : Int32) (u : Option rx_H) : f_X4_becomeRow_12 F (f + 1) x0 x3 u = rx_node (C_X4_becomeRow F) rx_hV t_X4_becomeRow [12] (kk_X4_becomeRow_12 F (f_X4_becomeRow_12 F f)) 22 12 [some (.ref x0), none, none, some (.int x3)] [] u := rfl
set_option maxRecDepth 100000 in
theorem g_X4_becomeRow_0 (F : Nat × Nat) (x0 : Nat) (x1 : Int32) (x2 : Int32) (u : Option rx_H) : f_X4_becomeRow_0 F x0 x1 x2 u = rx_node (C_X4_becomeRow F) rx_hV t_X4_becomeRow [12] (kk_X4_becomeRow_0 F) 22 0 [some (.ref x0), some (.int x1), some (.int x2), none] [] u := rfl
def f_X4_isRow_0 (F : Nat × Nat) (x0 : Nat) (u : Option rx_H) : Option (Int32 × Option rx_H) :=
  (rx_gI u x0 0 0).bind fun v1 =>
  if v1 < (6 : Int32) then
    some ((0 : Int32), u)
  else
    some ((1 : Int32), u)
def f_X4_isRow (F : Nat × Nat) (x0 : Nat) (u : Option rx_H) : Option (Int32 × Option rx_H) := f_X4_isRow_0 F x0 u
def c_X4_isRow {α : Type} (F : Nat × Nat) (as : List Value) (u : Option rx_H) (κ : rx_K α) : Option α := match as with
  | [.ref a0] => (f_X4_isRow F a0 u).bind fun r => κ (some (.int r.1)) r.2
  | _ => none
noncomputable def C_X4_isRow {α : Type} (F : Nat × Nat) : rx_Cl α := fun j as u κ => none
def t_X4_isRow : List rx_E := [
  (0, .aload_n 0, 1, 0, 0, 0, 0, 0, []),
  (1, .getfield 9, 3, 0, 0, 76, 0, 0, []),
  (4, .bipush 6, 2, 0, 0, 0, 6, 0, []),
  (6, .if_icmp .lt 7, 3, 13, 0, 0, 0, 0, []),
  (9, .iconst 1, 1, 0, 0, 0, 1, 0, []),
  (10, .goto 4, 3, 14, 0, 0, 0, 0, []),
  (13, .iconst 0, 1, 0, 0, 0, 0, 0, []),
  (14, .ireturn, 1, 0, 2, 0, 0, 0, [])]
noncomputable def kk_X4_isRow_0 (F : Nat × Nat) : Nat → rx_L → List Value → Option rx_H → Option (Int32 × Option rx_H) := fun t ls st u => none
set_option maxRecDepth 100000 in
theorem g_X4_isRow_0 (F : Nat × Nat) (x0 : Nat) (u : Option rx_H) : f_X4_isRow_0 F x0 u = rx_node (C_X4_isRow F) rx_hI t_X4_isRow [] (kk_X4_isRow_0 F) 11 0 [some (.ref x0)] [] u := rfl
def f_X4_hasStretch_0 (F : Nat × Nat) (x0 : Nat) (x1 : Int32) (x2 : Int32) (u : Option rx_H) : Option (Int32 × Option rx_H) :=
  if x1 < 0 then
    some ((0 : Int32), u)
  else
    if x2 < 0 then
      some ((0 : Int32), u)
    else
      (rx_gI u x0 0 4).bind fun v1 =>
      if v1 < x1 then
        some ((0 : Int32), u)
      else
        (rx_gI u x0 0 4).bind fun v2 =>
        if v2 - x1 < x2 then
          some ((0 : Int32), u)
        else
          some ((1 : Int32), u)
def f_X4_hasStretch (F : Nat × Nat) (x0 : Nat) (x1 : Int32) (x2 : Int32) (u : Option rx_H) : Option (Int32 × Option rx_H) := f_X4_hasStretch_0 F x0 x1 x2 u
def c_X4_hasStretch {α : Type} (F : Nat × Nat) (as : List Value) (u : Option rx_H) (κ : rx_K α) : Option α := match as with
  | [.ref a0, .int a1, .int a2] => (f_X4_hasStretch F a0 a1 a2 u).bind fun r => κ (some (.int r.1)) r.2
  | _ => none
noncomputable def C_X4_hasStretch {α : Type} (F : Nat × Nat) : rx_Cl α := fun j as u κ => none
def t_X4_hasStretch : List rx_E := [
  (0, .iload_n 1, 1, 0, 0, 0, 0, 0, []),
  (1, .ifCond .lt 29, 3, 30, 0, 0, 0, 0, []),
  (4, .iload_n 2, 1, 0, 0, 0, 0, 0, []),
  (5, .ifCond .lt 25, 3, 30, 0, 0, 0, 0, []),
  (8, .iload_n 1, 1, 0, 0, 0, 0, 0, []),
  (9, .aload_n 0, 1, 0, 0, 0, 0, 0, []),
  (10, .getfield 29, 3, 0, 16, 88, 0, 0, []),
  (13, .if_icmp .gt 17, 3, 30, 0, 0, 0, 0, []),
  (16, .iload_n 2, 1, 0, 0, 0, 0, 0, []),
  (17, .aload_n 0, 1, 0, 0, 0, 0, 0, []),
  (18, .getfield 29, 3, 0, 16, 88, 0, 0, []),
  (21, .iload_n 1, 1, 0, 0, 0, 0, 0, []),
  (22, .isub, 1, 0, 0, 0, 0, 0, []),
  (23, .if_icmp .gt 7, 3, 30, 0, 0, 0, 0, []),
  (26, .iconst 1, 1, 0, 0, 0, 1, 0, []),
  (27, .goto 4, 3, 31, 0, 0, 0, 0, []),
  (30, .iconst 0, 1, 0, 0, 0, 0, 0, []),
  (31, .ireturn, 1, 0, 2, 0, 0, 0, [])]
noncomputable def kk_X4_hasStretch_0 (F : Nat × Nat) : Nat → rx_L → List Value → Option rx_H → Option (Int32 × Option rx_H) := fun t ls st u => none
set_option maxRecDepth 100000 in
theorem g_X4_hasStretch_0 (F : Nat × Nat) (x0 : Nat) (x1 : Int32) (x2 : Int32) (u : Option rx_H) : f_X4_hasStretch_0 F x0 x1 x2 u = rx_node (C_X4_hasStretch F) rx_hI t_X4_hasStretch [] (kk_X4_hasStretch_0 F) 21 0 [some (.ref x0), some (.int x1), some (.int x2)] [] u := rfl
def f_X5_init_0 (F : Nat × Nat) (x0 : Nat) (u : Option rx_H) : Option (Option rx_H) :=
  (rx_nI u (5 : Int32)).bind fun v1 =>
  (rx_p v1.2 x0 1 0 (.ref v1.1)).bind fun v2 =>
  (rx_nI v2 (5 : Int32)).bind fun v3 =>
  (rx_p v3.2 x0 1 1 (.ref v3.1)).bind fun v4 =>
  (rx_nI v4 (64 : Int32)).bind fun v5 =>
  (rx_p v5.2 x0 1 3 (.ref v5.1)).bind fun v6 =>
  (rx_nJ v6 (49 : Int32)).bind fun v7 =>
  (rx_p v7.2 x0 1 4 (.ref v7.1)).bind fun v8 =>
  some v8
def f_X5_init (F : Nat × Nat) (x0 : Nat) (u : Option rx_H) : Option (Option rx_H) := f_X5_init_0 F x0 u
def c_X5_init {α : Type} (F : Nat × Nat) (as : List Value) (u : Option rx_H) (κ : rx_K α) : Option α := match as with
  | [.ref a0] => (f_X5_init F a0 u).bind fun r => κ none r
  | _ => none
noncomputable def C_X5_init {α : Type} (F : Nat × Nat) : rx_Cl α := fun j as u κ => none
def t_X5_init : List rx_E := [
  (0, .aload_n 0, 1, 0, 0, 0, 0, 0, []),
  (1, .invokespecial 3, 3, 0, 1000, 117, 0, 0, []),
  (4, .aload_n 0, 1, 0, 0, 0, 0, 0, []),
  (5, .iconst 5, 1, 0, 0, 0, 5, 0, []),
  (6, .newarray .int, 2, 0, 0, 0, 0, 0, []),
  (8, .putfield 11, 3, 1, 2, 118, 0, 0, []),
  (11, .aload_n 0, 1, 0, 0, 0, 0, 0, []),
  (12, .iconst 5, 1, 0, 0, 0, 5, 0, []),
  (13, .newarray .int, 2, 0, 0, 0, 0, 0, []),
  (15, .putfield 15, 3, 1, 6, 119, 0, 0, []),
  (18, .aload_n 0, 1, 0, 0, 0, 0, 0, []),
  (19, .bipush 64, 2, 0, 0, 0, 64, 0, []),
  (21, .newarray .int, 2, 0, 0, 0, 0, 0, []),
  (23, .putfield 18, 3, 1, 14, 121, 0, 0, []),
  (26, .aload_n 0, 1, 0, 0, 0, 0, 0, []),
  (27, .bipush 49, 2, 0, 0, 0, 49, 0, []),
  (29, .newarray .long, 2, 0, 0, 0, 0, 0, []),
  (31, .putfield 21, 3, 1, 18, 122, 0, 0, []),
  (34, .return_, 1, 0, 0, 0, 0, 0, [])]
noncomputable def kk_X5_init_0 (F : Nat × Nat) : Nat → rx_L → List Value → Option rx_H → Option (Option rx_H) := fun t ls st u => none
set_option maxRecDepth 100000 in
theorem g_X5_init_0 (F : Nat × Nat) (x0 : Nat) (u : Option rx_H) : f_X5_init_0 F x0 u = rx_node (C_X5_init F) rx_hV t_X5_init [] (kk_X5_init_0 F) 22 0 [some (.ref x0)] [] u := rfl
def f_X5_petalAt_0 (F : Nat × Nat) (x0 : Nat) (x1 : Int32) (u : Option rx_H) : Option (Int32 × Option rx_H) :=
  if x1 < 0 then
    some ((-2 : Int32), u)
  else
    (rx_gI u x0 1 2).bind fun v1 =>
    if x1 < v1 then
      (rx_gR u x0 1 0).bind fun v2 =>
      (rx_aI u v2 x1).bind fun v3 =>
      some (v3, u)
    else
      some ((-2 : Int32), u)
def f_X5_petalAt (F : Nat × Nat) (x0 : Nat) (x1 : Int32) (u : Option rx_H) : Option (Int32 × Option rx_H) := f_X5_petalAt_0 F x0 x1 u
def c_X5_petalAt {α : Type} (F : Nat × Nat) (as : List Value) (u : Option rx_H) (κ : rx_K α) : Option α := match as with
  | [.ref a0, .int a1] => (f_X5_petalAt F a0 a1 u).bind fun r => κ (some (.int r.1)) r.2
  | _ => none
noncomputable def C_X5_petalAt {α : Type} (F : Nat × Nat) : rx_Cl α := fun j as u κ => none
def t_X5_petalAt : List rx_E := [
  (0, .iload_n 1, 1, 0, 0, 0, 0, 0, []),
  (1, .ifCond .lt 20, 3, 21, 0, 0, 0, 0, []),
  (4, .iload_n 1, 1, 0, 0, 0, 0, 0, []),
  (5, .aload_n 0, 1, 0, 0, 0, 0, 0, []),
  (6, .getfield 25, 3, 1, 8, 120, 0, 0, []),
  (9, .if_icmp .ge 12, 3, 21, 0, 0, 0, 0, []),
  (12, .aload_n 0, 1, 0, 0, 0, 0, 0, []),
  (13, .getfield 11, 3, 1, 2, 118, 0, 0, []),
  (16, .iload_n 1, 1, 0, 0, 0, 0, 0, []),
  (17, .iaload, 1, 0, 0, 0, 0, 0, []),
  (18, .goto 5, 3, 23, 0, 0, 0, 0, []),
  (21, .bipush (-2), 2, 0, 0, 0, (-2), 0, []),
  (23, .ireturn, 1, 0, 0, 0, 0, 0, [])]
noncomputable def kk_X5_petalAt_0 (F : Nat × Nat) : Nat → rx_L → List Value → Option rx_H → Option (Int32 × Option rx_H) := fun t ls st u => none
set_option maxRecDepth 100000 in
theorem g_X5_petalAt_0 (F : Nat × Nat) (x0 : Nat) (x1 : Int32) (u : Option rx_H) : f_X5_petalAt_0 F x0 x1 u = rx_node (C_X5_petalAt F) rx_hI t_X5_petalAt [] (kk_X5_petalAt_0 F) 16 0 [some (.ref x0), some (.int x1)] [] u := rfl
def f_X5_keepPetals_11 (F : Nat × Nat) : Nat → Nat → Int32 → Option rx_H → Option (Option rx_H)
  | 0, _, _, _ => none
  | f + 1, x0, x2, u =>
    (rx_gI u x0 1 2).bind fun v1 =>
    if x2 < v1 then
      (rx_gR u x0 1 0).bind fun v2 =>
      (rx_gR u x0 1 1).bind fun v3 =>
      (rx_aI u v3 x2).bind fun v4 =>
      (rx_sI u v2 x2 v4).bind fun v5 =>
      (f_X5_keepPetals_11 F f) x0 (x2 + 1) v5
    else
      some u
def f_X5_keepPetals_0 (F : Nat × Nat) (x0 : Nat) (x1 : Int32) (u : Option rx_H) : Option (Option rx_H) :=
  (f_J9_min_7cf53 F x1 (5 : Int32)).bind fun v1 =>
  (rx_p u x0 1 2 (.int v1)).bind fun v2 =>
  f_X5_keepPetals_11 F F.1 x0 (0 : Int32) v2
def f_X5_keepPetals (F : Nat × Nat) (x0 : Nat) (x1 : Int32) (u : Option rx_H) : Option (Option rx_H) := f_X5_keepPetals_0 F x0 x1 u
def c_X5_keepPetals {α : Type} (F : Nat × Nat) (as : List Value) (u : Option rx_H) (κ : rx_K α) : Option α := match as with
  | [.ref a0, .int a1] => (f_X5_keepPetals F a0 a1 u).bind fun r => κ none r
  | _ => none
noncomputable def C_X5_keepPetals {α : Type} (F : Nat × Nat) : rx_Cl α := fun j as u κ => Bool.rec (motive := fun _ => Option α) (none) (c_J9_min_7cf53 F as u κ) (Nat.beq j 4)
def t_X5_keepPetals : List rx_E := [
  (0, .aload_n 0, 1, 0, 0, 0, 0, 0, []),
  (1, .iload_n 1, 1, 0, 0, 0, 0, 0, []),
  (2, .iconst 5, 1, 0, 0, 0, 5, 0, []),
  (3, .invokestatic 62, 3, 4, 2, 514, 0, 0, []),
  (6, .putfield 25, 3, 1, 8, 120, 0, 0, []),
  (9, .iconst 0, 1, 0, 0, 0, 0, 0, []),
  (10, .istore_n 2, 1, 0, 0, 0, 0, 0, []),
  (11, .iload_n 2, 1, 0, 0, 0, 0, 0, []),
  (12, .aload_n 0, 1, 0, 0, 0, 0, 0, []),
  (13, .getfield 25, 3, 1, 8, 120, 0, 0, []),
  (16, .if_icmp .ge 21, 3, 37, 0, 0, 0, 0, []),
  (19, .aload_n 0, 1, 0, 0, 0, 0, 0, []),
  (20, .getfield 11, 3, 1, 2, 118, 0, 0, []),
  (23, .iload_n 2, 1, 0, 0, 0, 0, 0, []),
  (24, .aload_n 0, 1, 0, 0, 0, 0, 0, []),
  (25, .getfield 15, 3, 1, 6, 119, 0, 0, []),
  (28, .iload_n 2, 1, 0, 0, 0, 0, 0, []),
  (29, .iaload, 1, 0, 0, 0, 0, 0, []),
  (30, .iastore, 1, 0, 0, 0, 0, 0, []),
  (31, .iinc 2 1, 3, 0, 0, 0, 1, 0, []),
  (34, .goto (-23), 3, 11, 0, 0, 0, 0, []),
  (37, .return_, 1, 0, 0, 0, 0, 0, [])]
def n_X5_keepPetals_11 (k11 : Nat → Int32 → Option rx_H → Option (Option rx_H)) (ls : rx_L) (st : List Value) (u : Option rx_H) : Option (Option rx_H) := match ls, st, u with
  | [some (.ref x0), _, some (.int x2)], [], u => k11 x0 x2 u
  | _, _, _ => none
noncomputable def kk_X5_keepPetals_11 (F : Nat × Nat) (k11 : Nat → Int32 → Option rx_H → Option (Option rx_H)) : Nat → rx_L → List Value → Option rx_H → Option (Option rx_H) := fun t ls st u => Bool.rec (motive := fun _ => Option (Option rx_H)) (none) (n_X5_keepPetals_11 k11 ls st u) (Nat.beq t 11)
noncomputable def kk_X5_keepPetals_0 (F : Nat × Nat) : Nat → rx_L → List Value → Option rx_H → Option (Option rx_H) := fun t ls st u => Bool.rec (motive := fun _ => Option (Option rx_H)) (none) (n_X5_keepPetals_11 (f_X5_keepPetals_11 F F.1) ls st u) (Nat.beq t 11)
set_option maxRecDepth 100000 in
theorem g_X5_keepPetals_11 (F : Nat × Nat) (f : Nat) (x0 : Nat) (x2 : Int32) (u : Option rx_H) : f_X5_keepPetals_11 F (f + 1) x0 x2 u = rx_node (C_X5_keepPetals F) rx_hV t_X5_keepPetals [11] (kk_X5_keepPetals_11 F (f_X5_keepPetals_11 F f)) 25 11 [some (.ref x0), none, some (.int x2)] [] u := rfl
set_option maxRecDepth 100000 in
theorem g_X5_keepPetals_0 (F : Nat × Nat) (x0 : Nat) (x1 : Int32) (u : Option rx_H) : f_X5_keepPetals_0 F x0 x1 u = rx_node (C_X5_keepPetals F) rx_hV t_X5_keepPetals [11] (kk_X5_keepPetals_0 F) 25 0 [some (.ref x0), some (.int x1), none] [] u := rfl
def f_X5_opens_52 (F : Nat × Nat) (self : Nat → Int64 → Int32 → Int32 → Int32 → Int32 → Int32 → Option rx_H → Option (Int32 × Option rx_H)) : Nat → Nat → Int32 → Int32 → Int32 → Int32 → Int64 → Int32 → Option rx_H → Option (Int32 × Option rx_H)
  | 0, _, _, _, _, _, _, _, _ => none
  | f + 1, x0, x4, x5, x6, x7, x8, x10, u =>
    if x10 < (64 : Int32) then
      (rx_gR u x0 1 1).bind fun v1 =>
      (rx_sI u v1 x4 x10).bind fun v2 =>
      (rx_ck v2 x0 1).bind fun _ =>
      (self x0 x8 x10 (x4 + (1 : Int32)) x5 x6 (x7 ||| x10) v2).bind fun v3 =>
      if v3.1 = 0 then
        (f_X0_next F x8 (x10 + (1 : Int32))).bind fun v4 =>
        (f_X5_opens_52 F self f) x0 x4 x5 x6 x7 x8 v4 v3.2
      else
        some ((1 : Int32), v3.2)
    else
      some ((0 : Int32), u)
def f_X5_opens_0 (F : Nat × Nat) (self : Nat → Int64 → Int32 → Int32 → Int32 → Int32 → Int32 → Option rx_H → Option (Int32 × Option rx_H)) (x0 : Nat) (x1 : Int64) (x3 : Int32) (x4 : Int32) (x5 : Int32) (x6 : Int32) (x7 : Int32) (u : Option rx_H) : Option (Int32 × Option rx_H) :=
  if x4 < x5 then
    if x4 < (5 : Int32) then
      (f_J6_bitCount_0f7a4 F x7).bind fun v1 =>
      if (6 : Int32) - v1 < x5 - x4 then
        some ((0 : Int32), u)
      else
        (f_X5_fitting F x1 x3 x6 x7).bind fun v2 =>
        (f_X0_next F v2 (0 : Int32)).bind fun v3 =>
        f_X5_opens_52 F self F.1 x0 x4 x5 x6 x7 v2 v3 u
    else
      some ((1 : Int32), u)
  else
    some ((1 : Int32), u)
def f_X5_opens (F : Nat × Nat) : Nat → Nat → Int64 → Int32 → Int32 → Int32 → Int32 → Int32 → Option rx_H → Option (Int32 × Option rx_H)
  | 0, _, _, _, _, _, _, _, _ => none
  | d + 1, x0, x1, x3, x4, x5, x6, x7, u => f_X5_opens_0 F (f_X5_opens F d) x0 x1 x3 x4 x5 x6 x7 u
def c_X5_opens {α : Type} (F : Nat × Nat) (d : Nat) (as : List Value) (u : Option rx_H) (κ : rx_K α) : Option α := match as with
  | [.ref a0, .long a1, .int a2, .int a3, .int a4, .int a5, .int a6] => (f_X5_opens F d a0 a1 a2 a3 a4 a5 a6 u).bind fun r => κ (some (.int r.1)) r.2
  | _ => none
noncomputable def C_X5_opens {α : Type} (F : Nat × Nat) (d : Nat) : rx_Cl α := fun j as u κ => Bool.rec (motive := fun _ => Option α) (Bool.rec (motive := fun _ => Option α) (Bool.rec (motive := fun _ => Option α) (Bool.rec (motive := fun _ => Option α) (none) (c_X5_opens F d as u κ) (Nat.beq j 75)) (c_X5_fitting F as u κ) (Nat.beq j 68)) (c_X0_next F as u κ) (Nat.beq j 23)) (c_J6_bitCount_0f7a4 F as u κ) (Nat.beq j 1)
def t_X5_opens : List rx_E := [
  (0, .iload 4, 2, 0, 0, 0, 0, 0, []),
  (2, .iload 5, 2, 0, 0, 0, 0, 0, []),
  (4, .if_icmp .ge 9, 3, 13, 0, 0, 0, 0, []),
  (7, .iload 4, 2, 0, 0, 0, 0, 0, []),
  (9, .iconst 5, 1, 0, 0, 0, 5, 0, []),
  (10, .if_icmp .lt 5, 3, 15, 0, 0, 0, 0, []),
  (13, .iconst 1, 1, 0, 0, 0, 1, 0, []),
  (14, .ireturn, 1, 0, 2, 0, 0, 0, []),
  (15, .bipush 6, 2, 0, 0, 0, 6, 0, []),
  (17, .iload 7, 2, 0, 0, 0, 0, 0, []),
  (19, .invokestatic 52, 3, 1, 1, 503, 0, 0, []),
  (22, .isub, 1, 0, 0, 0, 0, 0, []),
  (23, .iload 5, 2, 0, 0, 0, 0, 0, []),
  (25, .iload 4, 2, 0, 0, 0, 0, 0, []),
  (27, .isub, 1, 0, 0, 0, 0, 0, []),
  (28, .if_icmp .ge 5, 3, 33, 0, 0, 0, 0, []),
  (31, .iconst 0, 1, 0, 0, 0, 0, 0, []),
  (32, .ireturn, 1, 0, 2, 0, 0, 0, []),
  (33, .lload_n 1, 1, 0, 0, 0, 0, 0, []),
  (34, .iload_n 3, 1, 0, 0, 0, 0, 0, []),
  (35, .iload 6, 2, 0, 0, 0, 0, 0, []),
  (37, .iload 7, 2, 0, 0, 0, 0, 0, []),
  (39, .invokestatic 58, 3, 68, 4, 504, 0, 0, []),
  (42, .lstore 8, 2, 0, 0, 0, 0, 0, []),
  (44, .lload 8, 2, 0, 0, 0, 0, 0, []),
  (46, .iconst 0, 1, 0, 0, 0, 0, 0, []),
  (47, .invokestatic 29, 3, 23, 2, 498, 0, 0, []),
  (50, .istore 10, 2, 0, 0, 0, 0, 0, []),
  (52, .iload 10, 2, 0, 0, 0, 0, 0, []),
  (54, .bipush 64, 2, 0, 0, 0, 64, 0, []),
  (56, .if_icmp .ge 52, 3, 108, 0, 0, 0, 0, []),
  (59, .aload_n 0, 1, 0, 0, 0, 0, 0, []),
  (60, .getfield 15, 3, 1, 6, 119, 0, 0, []),
  (63, .iload 4, 2, 0, 0, 0, 0, 0, []),
  (65, .iload 10, 2, 0, 0, 0, 0, 0, []),
  (67, .iastore, 1, 0, 0, 0, 0, 0, []),
  (68, .aload_n 0, 1, 0, 0, 0, 0, 0, []),
  (69, .lload 8, 2, 0, 0, 0, 0, 0, []),
  (71, .iload 10, 2, 0, 0, 0, 0, 0, []),
  (73, .iload 4, 2, 0, 0, 0, 0, 0, []),
  (75, .iconst 1, 1, 0, 0, 0, 1, 0, []),
  (76, .iadd, 1, 0, 0, 0, 0, 0, []),
  (77, .iload 5, 2, 0, 0, 0, 0, 0, []),
  (79, .iload 6, 2, 0, 0, 0, 0, 0, []),
  (81, .iload 7, 2, 0, 0, 0, 0, 0, []),
  (83, .iload 10, 2, 0, 0, 0, 0, 0, []),
  (85, .ior, 1, 0, 0, 0, 0, 0, []),
  (86, .invokevirtual 35, 3, 75, 107, 499, 0, 0, []),
  (89, .ifCond .eq 5, 3, 94, 0, 0, 0, 0, []),
  (92, .iconst 1, 1, 0, 0, 0, 1, 0, []),
  (93, .ireturn, 1, 0, 2, 0, 0, 0, []),
  (94, .lload 8, 2, 0, 0, 0, 0, 0, []),
  (96, .iload 10, 2, 0, 0, 0, 0, 0, []),
  (98, .iconst 1, 1, 0, 0, 0, 1, 0, []),
  (99, .iadd, 1, 0, 0, 0, 0, 0, []),
  (100, .invokestatic 29, 3, 23, 2, 498, 0, 0, []),
  (103, .istore 10, 2, 0, 0, 0, 0, 0, []),
  (105, .goto (-53), 3, 52, 0, 0, 0, 0, []),
  (108, .iconst 0, 1, 0, 0, 0, 0, 0, []),
  (109, .ireturn, 1, 0, 2, 0, 0, 0, [])]
def n_X5_opens_52 (k52 : Nat → Int32 → Int32 → Int32 → Int32 → Int64 → Int32 → Option rx_H → Option (Int32 × Option rx_H)) (ls : rx_L) (st : List Value) (u : Option rx_H) : Option (Int32 × Option rx_H) := match ls, st, u with
  | [some (.ref x0), _, _, _, some (.int x4), some (.int x5), some (.int x6), some (.int x7), some (.long x8), _, some (.int x10)], [], u => k52 x0 x4 x5 x6 x7 x8 x10 u
  | _, _, _ => none
noncomputable def kk_X5_opens_52 (F : Nat × Nat) (self : Nat → Int64 → Int32 → Int32 → Int32 → Int32 → Int32 → Option rx_H → Option (Int32 × Option rx_H)) (k52 : Nat → Int32 → Int32 → Int32 → Int32 → Int64 → Int32 → Option rx_H → Option (Int32 × Option rx_H)) : Nat → rx_L → List Value → Option rx_H → Option (Int32 × Option rx_H) := fun t ls st u => Bool.rec (motive := fun _ => Option (Int32 × Option rx_H)) (none) (n_X5_opens_52 k52 ls st u) (Nat.beq t 52)
noncomputable def kk_X5_opens_0 (F : Nat × Nat) (self : Nat → Int64 → Int32 → Int32 → Int32 → Int32 → Int32 → Option rx_H → Option (Int32 × Option rx_H)) : Nat → rx_L → List Value → Option rx_H → Option (Int32 × Option rx_H) := fun t ls st u => Bool.rec (motive := fun _ => Option (Int32 × Option rx_H)) (none) (n_X5_opens_52 (f_X5_opens_52 F self F.1) ls st u) (Nat.beq t 52)
set_option maxRecDepth 100000 in
theorem g_X5_opens_52 (F : Nat × Nat) (d : Nat) (f : Nat) (x0 : Nat) (x4 : Int32) (x5 : Int32) (x6 : Int32) (x7 : Int32) (x8 : Int64) (x10 : Int32) (u : Option rx_H) : f_X5_opens_52 F (f_X5_opens F d) (f + 1) x0 x4 x5 x6 x7 x8 x10 u = rx_node (C_X5_opens F d) rx_hI t_X5_opens [52] (kk_X5_opens_52 F (f_X5_opens F d) (f_X5_opens_52 F (f_X5_opens F d) f)) 63 52 [some (.ref x0), none, none, none, some (.int x4), some (.int x5), some (.int x6), some (.int x7), some (.long x8), none, some (.int x10)] [] u := rfl
set_option maxRecDepth 100000 in
theorem g_X5_opens_0 (F : Nat × Nat) (d : Nat) (x0 : Nat) (x1 : Int64) (x3 : Int32) (x4 : Int32) (x5 : Int32) (x6 : Int32) (x7 : Int32) (u : Option rx_H) : f_X5_opens_0 F (f_X5_opens F d) x0 x1 x3 x4 x5 x6 x7 u = rx_node (C_X5_opens F d) rx_hI t_X5_opens [52] (kk_X5_opens_0 F (f_X5_opens F d)) 63 0 [some (.ref x0), some (.long x1), none, some (.int x3), some (.int x4), some (.int x5), some (.int x6), some (.int x7), none, none, none] [] u := rfl
def f_X5_findFlower_32 (F : Nat × Nat) (k7 : Nat → Int64 → Int32 → Int32 → Option rx_H → Option (Int32 × Option rx_H)) : Nat → Nat → Int64 → Int32 → Int32 → Int32 → Option rx_H → Option (Int32 × Option rx_H)
  | 0, _, _, _, _, _, _ => none
  | f + 1, x0, x1, x3, x4, x5, u =>
    if x5 < (64 : Int32) then
      (rx_gR u x0 1 1).bind fun v1 =>
      (rx_sI u v1 (1 : Int32) x5).bind fun v2 =>
      (rx_ck v2 x0 1).bind fun _ =>
      (f_X5_opens F F.2 x0 x1 x5 (2 : Int32) x3 (x4 &&& x5) (x4 ||| x5) v2).bind fun v3 =>
      if v3.1 = 0 then
        (f_X0_next F x1 (x5 + (1 : Int32))).bind fun v4 =>
        (f_X5_findFlower_32 F k7 f) x0 x1 x3 x4 v4 v3.2
      else
        (rx_ck v3.2 x0 1).bind fun _ =>
        (f_X5_keepPetals F x0 x3 v3.2).bind fun v5 =>
        some (x4 &&& x5, v5)
    else
      (f_X0_next F x1 (x4 + (1 : Int32))).bind fun v6 =>
      k7 x0 x1 x3 v6 u
def f_X5_findFlower_7 (F : Nat × Nat) : Nat → Nat → Int64 → Int32 → Int32 → Option rx_H → Option (Int32 × Option rx_H)
  | 0, _, _, _, _, _ => none
  | f + 1, x0, x1, x3, x4, u =>
    if x4 < (64 : Int32) then
      (rx_gR u x0 1 1).bind fun v1 =>
      (rx_sI u v1 (0 : Int32) x4).bind fun v2 =>
      (f_X0_next F x1 (x4 + (1 : Int32))).bind fun v3 =>
      f_X5_findFlower_32 F (f_X5_findFlower_7 F f) F.1 x0 x1 x3 x4 v3 v2
    else
      some ((-2 : Int32), u)
def f_X5_findFlower_0 (F : Nat × Nat) (x0 : Nat) (x1 : Int64) (x3 : Int32) (u : Option rx_H) : Option (Int32 × Option rx_H) :=
  (f_X0_next F x1 (0 : Int32)).bind fun v1 =>
  f_X5_findFlower_7 F F.1 x0 x1 x3 v1 u
def f_X5_findFlower (F : Nat × Nat) (x0 : Nat) (x1 : Int64) (x3 : Int32) (u : Option rx_H) : Option (Int32 × Option rx_H) := f_X5_findFlower_0 F x0 x1 x3 u
def c_X5_findFlower {α : Type} (F : Nat × Nat) (as : List Value) (u : Option rx_H) (κ : rx_K α) : Option α := match as with
  | [.ref a0, .long a1, .int a2] => (f_X5_findFlower F a0 a1 a2 u).bind fun r => κ (some (.int r.1)) r.2
  | _ => none
noncomputable def C_X5_findFlower {α : Type} (F : Nat × Nat) : rx_Cl α := fun j as u κ => Bool.rec (motive := fun _ => Option α) (Bool.rec (motive := fun _ => Option α) (Bool.rec (motive := fun _ => Option α) (none) (c_X5_opens F F.2 as u κ) (Nat.beq j 75)) (c_X5_keepPetals F as u κ) (Nat.beq j 71)) (c_X0_next F as u κ) (Nat.beq j 23)
def t_X5_findFlower : List rx_E := [
  (0, .lload_n 1, 1, 0, 0, 0, 0, 0, []),
  (1, .iconst 0, 1, 0, 0, 0, 0, 0, []),
  (2, .invokestatic 29, 3, 23, 2, 498, 0, 0, []),
  (5, .istore 4, 2, 0, 0, 0, 0, 0, []),
  (7, .iload 4, 2, 0, 0, 0, 0, 0, []),
  (9, .bipush 64, 2, 0, 0, 0, 64, 0, []),
  (11, .if_icmp .ge 95, 3, 106, 0, 0, 0, 0, []),
  (14, .aload_n 0, 1, 0, 0, 0, 0, 0, []),
  (15, .getfield 15, 3, 1, 6, 119, 0, 0, []),
  (18, .iconst 0, 1, 0, 0, 0, 0, 0, []),
  (19, .iload 4, 2, 0, 0, 0, 0, 0, []),
  (21, .iastore, 1, 0, 0, 0, 0, 0, []),
  (22, .lload_n 1, 1, 0, 0, 0, 0, 0, []),
  (23, .iload 4, 2, 0, 0, 0, 0, 0, []),
  (25, .iconst 1, 1, 0, 0, 0, 1, 0, []),
  (26, .iadd, 1, 0, 0, 0, 0, 0, []),
  (27, .invokestatic 29, 3, 23, 2, 498, 0, 0, []),
  (30, .istore 5, 2, 0, 0, 0, 0, 0, []),
  (32, .iload 5, 2, 0, 0, 0, 0, 0, []),
  (34, .bipush 64, 2, 0, 0, 0, 64, 0, []),
  (36, .if_icmp .ge 57, 3, 93, 0, 0, 0, 0, []),
  (39, .aload_n 0, 1, 0, 0, 0, 0, 0, []),
  (40, .getfield 15, 3, 1, 6, 119, 0, 0, []),
  (43, .iconst 1, 1, 0, 0, 0, 1, 0, []),
  (44, .iload 5, 2, 0, 0, 0, 0, 0, []),
  (46, .iastore, 1, 0, 0, 0, 0, 0, []),
  (47, .aload_n 0, 1, 0, 0, 0, 0, 0, []),
  (48, .lload_n 1, 1, 0, 0, 0, 0, 0, []),
  (49, .iload 5, 2, 0, 0, 0, 0, 0, []),
  (51, .iconst 2, 1, 0, 0, 0, 2, 0, []),
  (52, .iload_n 3, 1, 0, 0, 0, 0, 0, []),
  (53, .iload 4, 2, 0, 0, 0, 0, 0, []),
  (55, .iload 5, 2, 0, 0, 0, 0, 0, []),
  (57, .iand, 1, 0, 0, 0, 0, 0, []),
  (58, .iload 4, 2, 0, 0, 0, 0, 0, []),
  (60, .iload 5, 2, 0, 0, 0, 0, 0, []),
  (62, .ior, 1, 0, 0, 0, 0, 0, []),
  (63, .invokevirtual 35, 3, 75, 107, 499, 0, 0, []),
  (66, .ifCond .eq 14, 3, 80, 0, 0, 0, 0, []),
  (69, .aload_n 0, 1, 0, 0, 0, 0, 0, []),
  (70, .iload_n 3, 1, 0, 0, 0, 0, 0, []),
  (71, .invokevirtual 39, 3, 71, 102, 510, 0, 0, []),
  (74, .iload 4, 2, 0, 0, 0, 0, 0, []),
  (76, .iload 5, 2, 0, 0, 0, 0, 0, []),
  (78, .iand, 1, 0, 0, 0, 0, 0, []),
  (79, .ireturn, 1, 0, 0, 0, 0, 0, []),
  (80, .lload_n 1, 1, 0, 0, 0, 0, 0, []),
  (81, .iload 5, 2, 0, 0, 0, 0, 0, []),
  (83, .iconst 1, 1, 0, 0, 0, 1, 0, []),
  (84, .iadd, 1, 0, 0, 0, 0, 0, []),
  (85, .invokestatic 29, 3, 23, 2, 498, 0, 0, []),
  (88, .istore 5, 2, 0, 0, 0, 0, 0, []),
  (90, .goto (-58), 3, 32, 0, 0, 0, 0, []),
  (93, .lload_n 1, 1, 0, 0, 0, 0, 0, []),
  (94, .iload 4, 2, 0, 0, 0, 0, 0, []),
  (96, .iconst 1, 1, 0, 0, 0, 1, 0, []),
  (97, .iadd, 1, 0, 0, 0, 0, 0, []),
  (98, .invokestatic 29, 3, 23, 2, 498, 0, 0, []),
  (101, .istore 4, 2, 0, 0, 0, 0, 0, []),
  (103, .goto (-96), 3, 7, 0, 0, 0, 0, []),
  (106, .bipush (-2), 2, 0, 0, 0, (-2), 0, []),
  (108, .ireturn, 1, 0, 0, 0, 0, 0, [])]
def n_X5_findFlower_7 (k7 : Nat → Int64 → Int32 → Int32 → Option rx_H → Option (Int32 × Option rx_H)) (ls : rx_L) (st : List Value) (u : Option rx_H) : Option (Int32 × Option rx_H) := match ls, st, u with
  | [some (.ref x0), some (.long x1), _, some (.int x3), some (.int x4), _], [], u => k7 x0 x1 x3 x4 u
  | _, _, _ => none
def n_X5_findFlower_32 (k32 : Nat → Int64 → Int32 → Int32 → Int32 → Option rx_H → Option (Int32 × Option rx_H)) (ls : rx_L) (st : List Value) (u : Option rx_H) : Option (Int32 × Option rx_H) := match ls, st, u with
  | [some (.ref x0), some (.long x1), _, some (.int x3), some (.int x4), some (.int x5)], [], u => k32 x0 x1 x3 x4 x5 u
  | _, _, _ => none
noncomputable def kk_X5_findFlower_32 (F : Nat × Nat) (k7 : Nat → Int64 → Int32 → Int32 → Option rx_H → Option (Int32 × Option rx_H)) (k32 : Nat → Int64 → Int32 → Int32 → Int32 → Option rx_H → Option (Int32 × Option rx_H)) : Nat → rx_L → List Value → Option rx_H → Option (Int32 × Option rx_H) := fun t ls st u => Bool.rec (motive := fun _ => Option (Int32 × Option rx_H)) (Bool.rec (motive := fun _ => Option (Int32 × Option rx_H)) (none) (n_X5_findFlower_32 k32 ls st u) (Nat.beq t 32)) (n_X5_findFlower_7 k7 ls st u) (Nat.beq t 7)
noncomputable def kk_X5_findFlower_7 (F : Nat × Nat) (k7 : Nat → Int64 → Int32 → Int32 → Option rx_H → Option (Int32 × Option rx_H)) : Nat → rx_L → List Value → Option rx_H → Option (Int32 × Option rx_H) := fun t ls st u => Bool.rec (motive := fun _ => Option (Int32 × Option rx_H)) (none) (n_X5_findFlower_32 (f_X5_findFlower_32 F k7 F.1) ls st u) (Nat.beq t 32)
noncomputable def kk_X5_findFlower_0 (F : Nat × Nat) : Nat → rx_L → List Value → Option rx_H → Option (Int32 × Option rx_H) := fun t ls st u => Bool.rec (motive := fun _ => Option (Int32 × Option rx_H)) (none) (n_X5_findFlower_7 (f_X5_findFlower_7 F F.1) ls st u) (Nat.beq t 7)
set_option maxRecDepth 100000 in
theorem g_X5_findFlower_32 (F : Nat × Nat) (k7 : Nat → Int64 → Int32 → Int32 → Option rx_H → Option (Int32 × Option rx_H)) (f : Nat) (x0 : Nat) (x1 : Int64) (x3 : Int32) (x4 : Int32) (x5 : Int32) (u : Option rx_H) : f_X5_findFlower_32 F k7 (f + 1) x0 x1 x3 x4 x5 u = rx_node (C_X5_findFlower F) rx_hI t_X5_findFlower [7, 32] (kk_X5_findFlower_32 F k7 (f_X5_findFlower_32 F k7 f)) 65 32 [some (.ref x0), some (.long x1), none, some (.int x3), some (.int x4), some (.int x5)] [] u := rfl
set_option maxRecDepth 100000 in
theorem g_X5_findFlower_7 (F : Nat × Nat) (f : Nat) (x0 : Nat) (x1 : Int64) (x3 : Int32) (x4 : Int32) (u : Option rx_H) : f_X5_findFlower_7 F (f + 1) x0 x1 x3 x4 u = rx_node (C_X5_findFlower F) rx_hI t_X5_findFlower [7, 32] (kk_X5_findFlower_7 F (f_X5_findFlower_7 F f)) 65 7 [some (.ref x0), some (.long x1), none, some (.int x3), some (.int x4), none] [] u := rfl
set_option maxRecDepth 100000 in
theorem g_X5_findFlower_0 (F : Nat × Nat) (x0 : Nat) (x1 : Int64) (x3 : Int32) (u : Option rx_H) : f_X5_findFlower_0 F x0 x1 x3 u = rx_node (C_X5_findFlower F) rx_hI t_X5_findFlower [7, 32] (kk_X5_findFlower_0 F) 65 0 [some (.ref x0), some (.long x1), none, some (.int x3), none, none] [] u := rfl
def f_X5_mostDisjoint_67 (F : Nat × Nat) (k10 : Nat → Int64 → Int32 → Int32 → Option rx_H → Option (Int32 × Option rx_H)) : Nat → Nat → Int64 → Int32 → Int32 → Int32 → Int64 → Int32 → Option rx_H → Option (Int32 × Option rx_H)
  | 0, _, _, _, _, _, _, _, _ => none
  | f + 1, x0, x1, x3, x4, x7, x8, x10, u =>
    if x4 < x10 then
      (rx_gR u x0 1 3).bind fun v1 =>
      (rx_sI u v1 x4 x7).bind fun v2 =>
      k10 x0 x1 x3 (x4 + 1) v2
    else
      (rx_gR u x0 1 3).bind fun v3 =>
      (rx_aI u v3 (x4 - x10)).bind fun v4 =>
      (f_J9_max_7cf53 F x7 ((1 : Int32) + v4)).bind fun v5 =>
      (f_X0_next F x8 (x10 + (1 : Int32))).bind fun v6 =>
      (f_X5_mostDisjoint_67 F k10 f) x0 x1 x3 x4 v5 x8 v6 u
def f_X5_mostDisjoint_122 (F : Nat × Nat) (x0 : Nat) (x1 : Int64) (x3 : Int32) (u : Option rx_H) : Option (Int32 × Option rx_H) :=
  (rx_gR u x0 1 3).bind fun v1 =>
  (rx_aI u v1 (x3 - (1 : Int32))).bind fun v2 =>
  (f_X0_holdsSet F x1 (0 : Int32)).bind fun v3 =>
  if v3 = 0 then
    some (v2 + (0 : Int32), u)
  else
    some (v2 + (1 : Int32), u)
def f_X5_mostDisjoint_10 (F : Nat × Nat) : Nat → Nat → Int64 → Int32 → Int32 → Option rx_H → Option (Int32 × Option rx_H)
  | 0, _, _, _, _, _ => none
  | f + 1, x0, x1, x3, x4, u =>
    if x4 < x3 then
      if x4 < (64 : Int32) then
        (rx_gR u x0 1 3).bind fun v1 =>
        (rx_aI u v1 (x4 - (x4 &&& (-x4)))).bind fun v2 =>
        (f_X0_within F (x4 - (x4 &&& (-x4)))).bind fun v3 =>
        (f_X0_next F (x1 &&& (v3 <<< (Int32.toInt64 (x4 &&& (-x4)) &&& 63))) (0 : Int32)).bind fun v4 =>
        f_X5_mostDisjoint_67 F (f_X5_mostDisjoint_10 F f) F.1 x0 x1 x3 x4 v2 (x1 &&& (v3 <<< (Int32.toInt64 (x4 &&& (-x4)) &&& 63))) v4 u
      else
        f_X5_mostDisjoint_122 F x0 x1 x3 u
    else
      f_X5_mostDisjoint_122 F x0 x1 x3 u
def f_X5_mostDisjoint_0 (F : Nat × Nat) (x0 : Nat) (x1 : Int64) (x3 : Int32) (u : Option rx_H) : Option (Int32 × Option rx_H) :=
  (rx_gR u x0 1 3).bind fun v1 =>
  (rx_sI u v1 (0 : Int32) (0 : Int32)).bind fun v2 =>
  f_X5_mostDisjoint_10 F F.1 x0 x1 x3 (1 : Int32) v2
def f_X5_mostDisjoint (F : Nat × Nat) (x0 : Nat) (x1 : Int64) (x3 : Int32) (u : Option rx_H) : Option (Int32 × Option rx_H) := f_X5_mostDisjoint_0 F x0 x1 x3 u
def c_X5_mostDisjoint {α : Type} (F : Nat × Nat) (as : List Value) (u : Option rx_H) (κ : rx_K α) : Option α := match as with
  | [.ref a0, .long a1, .int a2] => (f_X5_mostDisjoint F a0 a1 a2 u).bind fun r => κ (some (.int r.1)) r.2
  | _ => none
noncomputable def C_X5_mostDisjoint {α : Type} (F : Nat × Nat) : rx_Cl α := fun j as u κ => Bool.rec (motive := fun _ => Option α) (Bool.rec (motive := fun _ => Option α) (Bool.rec (motive := fun _ => Option α) (Bool.rec (motive := fun _ => Option α) (none) (c_X0_within F as u κ) (Nat.beq j 30)) (c_X0_next F as u κ) (Nat.beq j 23)) (c_X0_holdsSet F as u κ) (Nat.beq j 13)) (c_J9_max_7cf53 F as u κ) (Nat.beq j 3)
def t_X5_mostDisjoint : List rx_E := [
  (0, .aload_n 0, 1, 0, 0, 0, 0, 0, []),
  (1, .getfield 18, 3, 1, 14, 121, 0, 0, []),
  (4, .iconst 0, 1, 0, 0, 0, 0, 0, []),
  (5, .iconst 0, 1, 0, 0, 0, 0, 0, []),
  (6, .iastore, 1, 0, 0, 0, 0, 0, []),
  (7, .iconst 1, 1, 0, 0, 0, 1, 0, []),
  (8, .istore 4, 2, 0, 0, 0, 0, 0, []),
  (10, .iload 4, 2, 0, 0, 0, 0, 0, []),
  (12, .iload_n 3, 1, 0, 0, 0, 0, 0, []),
  (13, .if_icmp .ge 109, 3, 122, 0, 0, 0, 0, []),
  (16, .iload 4, 2, 0, 0, 0, 0, 0, []),
  (18, .bipush 64, 2, 0, 0, 0, 64, 0, []),
  (20, .if_icmp .ge 102, 3, 122, 0, 0, 0, 0, []),
  (23, .iload 4, 2, 0, 0, 0, 0, 0, []),
  (25, .iload 4, 2, 0, 0, 0, 0, 0, []),
  (27, .ineg, 1, 0, 0, 0, 0, 0, []),
  (28, .iand, 1, 0, 0, 0, 0, 0, []),
  (29, .istore 5, 2, 0, 0, 0, 0, 0, []),
  (31, .iload 4, 2, 0, 0, 0, 0, 0, []),
  (33, .iload 5, 2, 0, 0, 0, 0, 0, []),
  (35, .isub, 1, 0, 0, 0, 0, 0, []),
  (36, .istore 6, 2, 0, 0, 0, 0, 0, []),
  (38, .aload_n 0, 1, 0, 0, 0, 0, 0, []),
  (39, .getfield 18, 3, 1, 14, 121, 0, 0, []),
  (42, .iload 6, 2, 0, 0, 0, 0, 0, []),
  (44, .iaload, 1, 0, 0, 0, 0, 0, []),
  (45, .istore 7, 2, 0, 0, 0, 0, 0, []),
  (47, .lload_n 1, 1, 0, 0, 0, 0, 0, []),
  (48, .iload 6, 2, 0, 0, 0, 0, 0, []),
  (50, .invokestatic 49, 3, 30, 1, 509, 0, 0, []),
  (53, .iload 5, 2, 0, 0, 0, 0, 0, []),
  (55, .lshl, 1, 0, 0, 0, 0, 0, []),
  (56, .land, 1, 0, 0, 0, 0, 0, []),
  (57, .lstore 8, 2, 0, 0, 0, 0, 0, []),
  (59, .lload 8, 2, 0, 0, 0, 0, 0, []),
  (61, .iconst 0, 1, 0, 0, 0, 0, 0, []),
  (62, .invokestatic 29, 3, 23, 2, 498, 0, 0, []),
  (65, .istore 10, 2, 0, 0, 0, 0, 0, []),
  (67, .iload 10, 2, 0, 0, 0, 0, 0, []),
  (69, .iload 4, 2, 0, 0, 0, 0, 0, []),
  (71, .if_icmp .gt 36, 3, 107, 0, 0, 0, 0, []),
  (74, .iload 7, 2, 0, 0, 0, 0, 0, []),
  (76, .iconst 1, 1, 0, 0, 0, 1, 0, []),
  (77, .aload_n 0, 1, 0, 0, 0, 0, 0, []),
  (78, .getfield 18, 3, 1, 14, 121, 0, 0, []),
  (81, .iload 4, 2, 0, 0, 0, 0, 0, []),
  (83, .iload 10, 2, 0, 0, 0, 0, 0, []),
  (85, .isub, 1, 0, 0, 0, 0, 0, []),
  (86, .iaload, 1, 0, 0, 0, 0, 0, []),
  (87, .iadd, 1, 0, 0, 0, 0, 0, []),
  (88, .invokestatic 68, 3, 3, 2, 538, 0, 0, []),
  (91, .istore 7, 2, 0, 0, 0, 0, 0, []),
  (93, .lload 8, 2, 0, 0, 0, 0, 0, []),
  (95, .iload 10, 2, 0, 0, 0, 0, 0, []),
  (97, .iconst 1, 1, 0, 0, 0, 1, 0, []),
  (98, .iadd, 1, 0, 0, 0, 0, 0, []),
  (99, .invokestatic 29, 3, 23, 2, 498, 0, 0, []),
  (102, .istore 10, 2, 0, 0, 0, 0, 0, []),
  (104, .goto (-37), 3, 67, 0, 0, 0, 0, []),
  (107, .aload_n 0, 1, 0, 0, 0, 0, 0, []),
  (108, .getfield 18, 3, 1, 14, 121, 0, 0, []),
  (111, .iload 4, 2, 0, 0, 0, 0, 0, []),
  (113, .iload 7, 2, 0, 0, 0, 0, 0, []),
  (115, .iastore, 1, 0, 0, 0, 0, 0, []),
  (116, .iinc 4 1, 3, 0, 0, 0, 1, 0, []),
  (119, .goto (-109), 3, 10, 0, 0, 0, 0, []),
  (122, .aload_n 0, 1, 0, 0, 0, 0, 0, []),
  (123, .getfield 18, 3, 1, 14, 121, 0, 0, []),
  (126, .iload_n 3, 1, 0, 0, 0, 0, 0, []),
  (127, .iconst 1, 1, 0, 0, 0, 1, 0, []),
  (128, .isub, 1, 0, 0, 0, 0, 0, []),
  (129, .iaload, 1, 0, 0, 0, 0, 0, []),
  (130, .lload_n 1, 1, 0, 0, 0, 0, 0, []),
  (131, .iconst 0, 1, 0, 0, 0, 0, 0, []),
  (132, .invokestatic 71, 3, 13, 2, 541, 0, 0, []),
  (135, .ifCond .eq 7, 3, 142, 0, 0, 0, 0, []),
  (138, .iconst 1, 1, 0, 0, 0, 1, 0, []),
  (139, .goto 4, 3, 143, 0, 0, 0, 0, []),
  (142, .iconst 0, 1, 0, 0, 0, 0, 0, []),
  (143, .iadd, 1, 0, 0, 0, 0, 0, []),
  (144, .ireturn, 1, 0, 0, 0, 0, 0, [])]
def n_X5_mostDisjoint_10 (k10 : Nat → Int64 → Int32 → Int32 → Option rx_H → Option (Int32 × Option rx_H)) (ls : rx_L) (st : List Value) (u : Option rx_H) : Option (Int32 × Option rx_H) := match ls, st, u with
  | [some (.ref x0), some (.long x1), _, some (.int x3), some (.int x4), _, _, _, _, _, _], [], u => k10 x0 x1 x3 x4 u
  | _, _, _ => none
def n_X5_mostDisjoint_67 (k67 : Nat → Int64 → Int32 → Int32 → Int32 → Int64 → Int32 → Option rx_H → Option (Int32 × Option rx_H)) (ls : rx_L) (st : List Value) (u : Option rx_H) : Option (Int32 × Option rx_H) := match ls, st, u with
  | [some (.ref x0), some (.long x1), _, some (.int x3), some (.int x4), _, _, some (.int x7), some (.long x8), _, some (.int x10)], [], u => k67 x0 x1 x3 x4 x7 x8 x10 u
  | _, _, _ => none
def n_X5_mostDisjoint_122 (F : Nat × Nat) (ls : rx_L) (st : List Value) (u : Option rx_H) : Option (Int32 × Option rx_H) := match ls, st, u with
  | [some (.ref x0), some (.long x1), _, some (.int x3), _, _, _, _, _, _, _], [], u => f_X5_mostDisjoint_122 F x0 x1 x3 u
  | _, _, _ => none
noncomputable def kk_X5_mostDisjoint_67 (F : Nat × Nat) (k10 : Nat → Int64 → Int32 → Int32 → Option rx_H → Option (Int32 × Option rx_H)) (k67 : Nat → Int64 → Int32 → Int32 → Int32 → Int64 → Int32 → Option rx_H → Option (Int32 × Option rx_H)) : Nat → rx_L → List Value → Option rx_H → Option (Int32 × Option rx_H) := fun t ls st u => Bool.rec (motive := fun _ => Option (Int32 × Option rx_H)) (Bool.rec (motive := fun _ => Option (Int32 × Option rx_H)) (none) (n_X5_mostDisjoint_67 k67 ls st u) (Nat.beq t 67)) (n_X5_mostDisjoint_10 k10 ls st u) (Nat.beq t 10)
noncomputable def kk_X5_mostDisjoint_122 (F : Nat × Nat) : Nat → rx_L → List Value → Option rx_H → Option (Int32 × Option rx_H) := fun t ls st u => none
noncomputable def kk_X5_mostDisjoint_10 (F : Nat × Nat) (k10 : Nat → Int64 → Int32 → Int32 → Option rx_H → Option (Int32 × Option rx_H)) : Nat → rx_L → List Value → Option rx_H → Option (Int32 × Option rx_H) := fun t ls st u => Bool.rec (motive := fun _ => Option (Int32 × Option rx_H)) (Bool.rec (motive := fun _ => Option (Int32 × Option rx_H)) (none) (n_X5_mostDisjoint_122 F ls st u) (Nat.beq t 122)) (n_X5_mostDisjoint_67 (f_X5_mostDisjoint_67 F k10 F.1) ls st u) (Nat.beq t 67)
noncomputable def kk_X5_mostDisjoint_0 (F : Nat × Nat) : Nat → rx_L → List Value → Option rx_H → Option (Int32 × Option rx_H) := fun t ls st u => Bool.rec (motive := fun _ => Option (Int32 × Option rx_H)) (none) (n_X5_mostDisjoint_10 (f_X5_mostDisjoint_10 F F.1) ls st u) (Nat.beq t 10)
set_option maxRecDepth 100000 in
theorem g_X5_mostDisjoint_67 (F : Nat × Nat) (k10 : Nat → Int64 → Int32 → Int32 → Option rx_H → Option (Int32 × Option rx_H)) (f : Nat) (x0 : Nat) (x1 : Int64) (x3 : Int32) (x4 : Int32) (x7 : Int32) (x8 : Int64) (x10 : Int32) (u : Option rx_H) : f_X5_mostDisjoint_67 F k10 (f + 1) x0 x1 x3 x4 x7 x8 x10 u = rx_node (C_X5_mostDisjoint F) rx_hI t_X5_mostDisjoint [10, 67, 122] (kk_X5_mostDisjoint_67 F k10 (f_X5_mostDisjoint_67 F k10 f)) 84 67 [some (.ref x0), some (.long x1), none, some (.int x3), some (.int x4), none, none, some (.int x7), some (.long x8), none, some (.int x10)] [] u := rfl
set_option maxRecDepth 100000 in
theorem g_X5_mostDisjoint_122 (F : Nat × Nat) (x0 : Nat) (x1 : Int64) (x3 : Int32) (u : Option rx_H) : f_X5_mostDisjoint_122 F x0 x1 x3 u = rx_node (C_X5_mostDisjoint F) rx_hI t_X5_mostDisjoint [10, 67, 122] (kk_X5_mostDisjoint_122 F) 84 122 [some (.ref x0), some (.long x1), none, some (.int x3), none, none, none, none, none, none, none] [] u := rfl
set_option maxRecDepth 100000 in
theorem g_X5_mostDisjoint_10 (F : Nat × Nat) (f : Nat) (x0 : Nat) (x1 : Int64) (x3 : Int32) (x4 : Int32) (u : Option rx_H) : f_X5_mostDisjoint_10 F (f + 1) x0 x1 x3 x4 u = rx_node (C_X5_mostDisjoint F) rx_hI t_X5_mostDisjoint [10, 67, 122] (kk_X5_mostDisjoint_10 F (f_X5_mostDisjoint_10 F f)) 84 10 [some (.ref x0), some (.long x1), none, some (.int x3), some (.int x4), none, none, none, none, none, none] [] u := rfl
set_option maxRecDepth 100000 in
theorem g_X5_mostDisjoint_0 (F : Nat × Nat) (x0 : Nat) (x1 : Int64) (x3 : Int32) (u : Option rx_H) : f_X5_mostDisjoint_0 F x0 x1 x3 u = rx_node (C_X5_mostDisjoint F) rx_hI t_X5_mostDisjoint [10, 67, 122] (kk_X5_mostDisjoint_0 F) 84 0 [some (.ref x0), some (.long x1), none, some (.int x3), none, none, none, none, none, none, none] [] u := rfl
def f_X5_greatestMeeting_0 (F : Nat × Nat) (x0 : Nat) (x1 : Int64) (x3 : Int32) (x4 : Int32) (u : Option rx_H) : Option (Int64 × Option rx_H) :=
  (rx_gR u x0 1 4).bind fun v1 =>
  (rx_aJ u v1 (((7 : Int32) * x3) + x4)).bind fun v2 =>
  if v2 = (0 : Int64) then
    (rx_gR u x0 1 4).bind fun v3 =>
    (f_X5_largest F F.2 (0 : Int64) x1 (0 : Int64) x4 (0 : Int32)).bind fun v4 =>
    (rx_sJ u v3 (((7 : Int32) * x3) + x4) v4).bind fun v5 =>
    (rx_gR v5 x0 1 4).bind fun v6 =>
    (rx_aJ v5 v6 (((7 : Int32) * x3) + x4)).bind fun v7 =>
    some (v7, v5)
  else
    (rx_gR u x0 1 4).bind fun v8 =>
    (rx_aJ u v8 (((7 : Int32) * x3) + x4)).bind fun v9 =>
    some (v9, u)
def f_X5_greatestMeeting (F : Nat × Nat) (x0 : Nat) (x1 : Int64) (x3 : Int32) (x4 : Int32) (u : Option rx_H) : Option (Int64 × Option rx_H) := f_X5_greatestMeeting_0 F x0 x1 x3 x4 u
def c_X5_greatestMeeting {α : Type} (F : Nat × Nat) (as : List Value) (u : Option rx_H) (κ : rx_K α) : Option α := match as with
  | [.ref a0, .long a1, .int a2, .int a3] => (f_X5_greatestMeeting F a0 a1 a2 a3 u).bind fun r => κ (some (.long r.1)) r.2
  | _ => none
noncomputable def C_X5_greatestMeeting {α : Type} (F : Nat × Nat) : rx_Cl α := fun j as u κ => Bool.rec (motive := fun _ => Option α) (none) (c_X5_largest F F.2 as u κ) (Nat.beq j 72)
def t_X5_greatestMeeting : List rx_E := [
  (0, .bipush 7, 2, 0, 0, 0, 7, 0, []),
  (2, .iload_n 3, 1, 0, 0, 0, 0, 0, []),
  (3, .imul, 1, 0, 0, 0, 0, 0, []),
  (4, .iload 4, 2, 0, 0, 0, 0, 0, []),
  (6, .iadd, 1, 0, 0, 0, 0, 0, []),
  (7, .istore 5, 2, 0, 0, 0, 0, 0, []),
  (9, .aload_n 0, 1, 0, 0, 0, 0, 0, []),
  (10, .getfield 21, 3, 1, 18, 122, 0, 0, []),
  (13, .iload 5, 2, 0, 0, 0, 0, 0, []),
  (15, .laload, 1, 0, 0, 0, 0, 0, []),
  (16, .lconst 0, 1, 0, 0, 0, 0, 0, []),
  (17, .lcmp, 1, 0, 0, 0, 0, 0, []),
  (18, .ifCond .ne 19, 3, 37, 0, 0, 0, 0, []),
  (21, .aload_n 0, 1, 0, 0, 0, 0, 0, []),
  (22, .getfield 21, 3, 1, 18, 122, 0, 0, []),
  (25, .iload 5, 2, 0, 0, 0, 0, 0, []),
  (27, .lconst 0, 1, 0, 0, 0, 0, 0, []),
  (28, .lload_n 1, 1, 0, 0, 0, 0, 0, []),
  (29, .lconst 0, 1, 0, 0, 0, 0, 0, []),
  (30, .iload 4, 2, 0, 0, 0, 0, 0, []),
  (32, .iconst 0, 1, 0, 0, 0, 0, 0, []),
  (33, .invokestatic 75, 3, 72, 5, 557, 0, 0, []),
  (36, .lastore, 1, 0, 0, 0, 0, 0, []),
  (37, .aload_n 0, 1, 0, 0, 0, 0, 0, []),
  (38, .getfield 21, 3, 1, 18, 122, 0, 0, []),
  (41, .iload 5, 2, 0, 0, 0, 0, 0, []),
  (43, .laload, 1, 0, 0, 0, 0, 0, []),
  (44, .lreturn, 1, 0, 0, 0, 0, 0, [])]
noncomputable def kk_X5_greatestMeeting_0 (F : Nat × Nat) : Nat → rx_L → List Value → Option rx_H → Option (Int64 × Option rx_H) := fun t ls st u => none
set_option maxRecDepth 100000 in
theorem g_X5_greatestMeeting_0 (F : Nat × Nat) (x0 : Nat) (x1 : Int64) (x3 : Int32) (x4 : Int32) (u : Option rx_H) : f_X5_greatestMeeting_0 F x0 x1 x3 x4 u = rx_node (C_X5_greatestMeeting F) rx_hJ t_X5_greatestMeeting [] (kk_X5_greatestMeeting_0 F) 31 0 [some (.ref x0), some (.long x1), none, some (.int x3), some (.int x4), none] [] u := rfl
def f_X6_init_71 (F : Nat × Nat) : Nat → Nat → Int32 → Option rx_H → Option (Option rx_H)
  | 0, _, _, _ => none
  | f + 1, x0, x2, u =>
    (rx_gI u x0 2 1).bind fun v1 =>
    if x2 < v1 then
      (rx_gR u x0 2 3).bind fun v2 =>
      (f_J6_bitCount_0f7a4 F x2).bind fun v3 =>
      (rx_aJ u v2 v3).bind fun v4 =>
      (rx_sJ u v2 v3 (v4 ||| ((1 : Int64) <<< (Int32.toInt64 x2 &&& 63)))).bind fun v5 =>
      (f_X6_init_71 F f) x0 (x2 + 1) v5
    else
      (rx_nO u 1).bind fun v6 =>
      (f_X5_init F v6.1 v6.2).bind fun v7 =>
      (rx_p v7 x0 2 4 (.ref v6.1)).bind fun v8 =>
      (rx_p v8 x0 2 5 (.int (-2 : Int32))).bind fun v9 =>
      some v9
def f_X6_init_36 (F : Nat × Nat) : Nat → Nat → Int32 → Option rx_H → Option (Option rx_H)
  | 0, _, _, _ => none
  | f + 1, x0, x2, u =>
    if x2 < (16 : Int32) then
      (rx_gR u x0 2 2).bind fun v1 =>
      (rx_nO u 0).bind fun v2 =>
      (f_X4_init F v2.1 v2.2).bind fun v3 =>
      (rx_sR v3 v1 x2 v2.1).bind fun v4 =>
      (f_X6_init_36 F f) x0 (x2 + 1) v4
    else
      (rx_nJ u (7 : Int32)).bind fun v5 =>
      (rx_p v5.2 x0 2 3 (.ref v5.1)).bind fun v6 =>
      f_X6_init_71 F F.1 x0 (0 : Int32) v6
def f_X6_init_0 (F : Nat × Nat) (x0 : Nat) (x1 : Int32) (u : Option rx_H) : Option (Option rx_H) :=
  (f_J9_floorMod_7cf53 F x1 (4 : Int32)).bind fun v1 =>
  (rx_p u x0 2 0 (.int ((3 : Int32) + v1))).bind fun v2 =>
  (rx_gI v2 x0 2 0).bind fun v3 =>
  (rx_p v2 x0 2 1 (.int ((1 : Int32) <<< (v3 &&& 31)))).bind fun v4 =>
  (rx_nR v4 (16 : Int32)).bind fun v5 =>
  (rx_p v5.2 x0 2 2 (.ref v5.1)).bind fun v6 =>
  f_X6_init_36 F F.1 x0 (0 : Int32) v6
def f_X6_init (F : Nat × Nat) (x0 : Nat) (x1 : Int32) (u : Option rx_H) : Option (Option rx_H) := f_X6_init_0 F x0 x1 u
def c_X6_init {α : Type} (F : Nat × Nat) (as : List Value) (u : Option rx_H) (κ : rx_K α) : Option α := match as with
  | [.ref a0, .int a1] => (f_X6_init F a0 a1 u).bind fun r => κ none r
  | _ => none
noncomputable def C_X6_init {α : Type} (F : Nat × Nat) : rx_Cl α := fun j as u κ => Bool.rec (motive := fun _ => Option α) (Bool.rec (motive := fun _ => Option α) (Bool.rec (motive := fun _ => Option α) (Bool.rec (motive := fun _ => Option α) (none) (c_X5_init F as u κ) (Nat.beq j 70)) (c_X4_init F as u κ) (Nat.beq j 65)) (c_J9_floorMod_7cf53 F as u κ) (Nat.beq j 2)) (c_J6_bitCount_0f7a4 F as u κ) (Nat.beq j 1)
def t_X6_init : List rx_E := [
  (0, .aload_n 0, 1, 0, 0, 0, 0, 0, []),
  (1, .invokespecial 3, 3, 0, 1000, 63, 0, 0, []),
  (4, .aload_n 0, 1, 0, 0, 0, 0, 0, []),
  (5, .iconst 3, 1, 0, 0, 0, 3, 0, []),
  (6, .iload_n 1, 1, 0, 0, 0, 0, 0, []),
  (7, .iconst 4, 1, 0, 0, 0, 4, 0, []),
  (8, .invokestatic 9, 3, 2, 2, 66, 0, 0, []),
  (11, .iadd, 1, 0, 0, 0, 0, 0, []),
  (12, .putfield 15, 3, 2, 0, 135, 0, 0, []),
  (15, .aload_n 0, 1, 0, 0, 0, 0, 0, []),
  (16, .iconst 1, 1, 0, 0, 0, 1, 0, []),
  (17, .aload_n 0, 1, 0, 0, 0, 0, 0, []),
  (18, .getfield 15, 3, 2, 0, 135, 0, 0, []),
  (21, .ishl, 1, 0, 0, 0, 0, 0, []),
  (22, .putfield 19, 3, 2, 4, 136, 0, 0, []),
  (25, .aload_n 0, 1, 0, 0, 0, 0, 0, []),
  (26, .bipush 16, 2, 0, 0, 0, 16, 0, []),
  (28, .anewarray 22, 3, 0, 0, 69, 0, 0, []),
  (31, .putfield 24, 3, 2, 10, 137, 0, 0, []),
  (34, .iconst 0, 1, 0, 0, 0, 0, 0, []),
  (35, .istore_n 2, 1, 0, 0, 0, 0, 0, []),
  (36, .iload_n 2, 1, 0, 0, 0, 0, 0, []),
  (37, .bipush 16, 2, 0, 0, 0, 16, 0, []),
  (39, .if_icmp .ge 22, 3, 61, 0, 0, 0, 0, []),
  (42, .aload_n 0, 1, 0, 0, 0, 0, 0, []),
  (43, .getfield 24, 3, 2, 10, 137, 0, 0, []),
  (46, .iload_n 2, 1, 0, 0, 0, 0, 0, []),
  (47, .new 22, 3, 0, 0, 69, 0, 0, []),
  (50, .dup, 1, 0, 0, 0, 0, 0, []),
  (51, .invokespecial 28, 3, 65, 1, 72, 0, 0, []),
  (54, .aastore, 1, 0, 0, 0, 0, 0, []),
  (55, .iinc 2 1, 3, 0, 0, 0, 1, 0, []),
  (58, .goto (-22), 3, 36, 0, 0, 0, 0, []),
  (61, .aload_n 0, 1, 0, 0, 0, 0, 0, []),
  (62, .bipush 7, 2, 0, 0, 0, 7, 0, []),
  (64, .newarray .long, 2, 0, 0, 0, 0, 0, []),
  (66, .putfield 29, 3, 2, 14, 138, 0, 0, []),
  (69, .iconst 0, 1, 0, 0, 0, 0, 0, []),
  (70, .istore_n 2, 1, 0, 0, 0, 0, 0, []),
  (71, .iload_n 2, 1, 0, 0, 0, 0, 0, []),
  (72, .aload_n 0, 1, 0, 0, 0, 0, 0, []),
  (73, .getfield 19, 3, 2, 4, 136, 0, 0, []),
  (76, .if_icmp .ge 24, 3, 100, 0, 0, 0, 0, []),
  (79, .aload_n 0, 1, 0, 0, 0, 0, 0, []),
  (80, .getfield 29, 3, 2, 14, 138, 0, 0, []),
  (83, .iload_n 2, 1, 0, 0, 0, 0, 0, []),
  (84, .invokestatic 33, 3, 1, 1, 106, 0, 0, []),
  (87, .dup2, 1, 0, 0, 0, 0, 0, []),
  (88, .laload, 1, 0, 0, 0, 0, 0, []),
  (89, .lconst 1, 1, 0, 0, 0, 0, 1, []),
  (90, .iload_n 2, 1, 0, 0, 0, 0, 0, []),
  (91, .lshl, 1, 0, 0, 0, 0, 0, []),
  (92, .lor, 1, 0, 0, 0, 0, 0, []),
  (93, .lastore, 1, 0, 0, 0, 0, 0, []),
  (94, .iinc 2 1, 3, 0, 0, 0, 1, 0, []),
  (97, .goto (-26), 3, 71, 0, 0, 0, 0, []),
  (100, .aload_n 0, 1, 0, 0, 0, 0, 0, []),
  (101, .new 39, 3, 1, 0, 112, 0, 0, []),
  (104, .dup, 1, 0, 0, 0, 0, 0, []),
  (105, .invokespecial 41, 3, 70, 1, 114, 0, 0, []),
  (108, .putfield 42, 3, 2, 18, 139, 0, 0, []),
  (111, .aload_n 0, 1, 0, 0, 0, 0, 0, []),
  (112, .bipush (-2), 2, 0, 0, 0, (-2), 0, []),
  (114, .putfield 46, 3, 2, 20, 140, 0, 0, []),
  (117, .return_, 1, 0, 0, 0, 0, 0, [])]
def n_X6_init_36 (k36 : Nat → Int32 → Option rx_H → Option (Option rx_H)) (ls : rx_L) (st : List Value) (u : Option rx_H) : Option (Option rx_H) := match ls, st, u with
  | [some (.ref x0), _, some (.int x2)], [], u => k36 x0 x2 u
  | _, _, _ => none
def n_X6_init_71 (k71 : Nat → Int32 → Option rx_H → Option (Option rx_H)) (ls : rx_L) (st : List Value) (u : Option rx_H) : Option (Option rx_H) := match ls, st, u with
  | [some (.ref x0), _, some (.int x2)], [], u => k71 x0 x2 u
  | _, _, _ => none
noncomputable def kk_X6_init_71 (F : Nat × Nat) (k71 : Nat → Int32 → Option rx_H → Option (Option rx_H)) : Nat → rx_L → List Value → Option rx_H → Option (Option rx_H) := fun t ls st u => Bool.rec (motive := fun _ => Option (Option rx_H)) (none) (n_X6_init_71 k71 ls st u) (Nat.beq t 71)
noncomputable def kk_X6_init_36 (F : Nat × Nat) (k36 : Nat → Int32 → Option rx_H → Option (Option rx_H)) : Nat → rx_L → List Value → Option rx_H → Option (Option rx_H) := fun t ls st u => Bool.rec (motive := fun _ => Option (Option rx_H)) (Bool.rec (motive := fun _ => Option (Option rx_H)) (none) (n_X6_init_71 (f_X6_init_71 F F.1) ls st u) (Nat.beq t 71)) (n_X6_init_36 k36 ls st u) (Nat.beq t 36)
noncomputable def kk_X6_init_0 (F : Nat × Nat) : Nat → rx_L → List Value → Option rx_H → Option (Option rx_H) := fun t ls st u => Bool.rec (motive := fun _ => Option (Option rx_H)) (none) (n_X6_init_36 (f_X6_init_36 F F.1) ls st u) (Nat.beq t 36)
set_option maxRecDepth 100000 in
theorem g_X6_init_71 (F : Nat × Nat) (f : Nat) (x0 : Nat) (x2 : Int32) (u : Option rx_H) : f_X6_init_71 F (f + 1) x0 x2 u = rx_node (C_X6_init F) rx_hV t_X6_init [36, 71] (kk_X6_init_71 F (f_X6_init_71 F f)) 68 71 [some (.ref x0), none, some (.int x2)] [] u := rfl
set_option maxRecDepth 100000 in
theorem g_X6_init_36 (F : Nat × Nat) (f : Nat) (x0 : Nat) (x2 : Int32) (u : Option rx_H) : f_X6_init_36 F (f + 1) x0 x2 u = rx_node (C_X6_init F) rx_hV t_X6_init [36, 71] (kk_X6_init_36 F (f_X6_init_36 F f)) 68 36 [some (.ref x0), none, some (.int x2)] [] u := rfl
set_option maxRecDepth 100000 in
theorem g_X6_init_0 (F : Nat × Nat) (x0 : Nat) (x1 : Int32) (u : Option rx_H) : f_X6_init_0 F x0 x1 u = rx_node (C_X6_init F) rx_hV t_X6_init [36, 71] (kk_X6_init_0 F) 68 0 [some (.ref x0), some (.int x1), none] [] u := rfl
def f_X6_isSize_0 (F : Nat × Nat) (x0 : Nat) (x1 : Int32) (u : Option rx_H) : Option (Int32 × Option rx_H) :=
  if x1 < 0 then
    some ((0 : Int32), u)
  else
    (rx_gI u x0 2 0).bind fun v1 =>
    if v1 < x1 then
      some ((0 : Int32), u)
    else
      some ((1 : Int32), u)
def f_X6_isSize (F : Nat × Nat) (x0 : Nat) (x1 : Int32) (u : Option rx_H) : Option (Int32 × Option rx_H) := f_X6_isSize_0 F x0 x1 u
def c_X6_isSize {α : Type} (F : Nat × Nat) (as : List Value) (u : Option rx_H) (κ : rx_K α) : Option α := match as with
  | [.ref a0, .int a1] => (f_X6_isSize F a0 a1 u).bind fun r => κ (some (.int r.1)) r.2
  | _ => none
noncomputable def C_X6_isSize {α : Type} (F : Nat × Nat) : rx_Cl α := fun j as u κ => none
def t_X6_isSize : List rx_E := [
  (0, .iload_n 1, 1, 0, 0, 0, 0, 0, []),
  (1, .ifCond .lt 15, 3, 16, 0, 0, 0, 0, []),
  (4, .iload_n 1, 1, 0, 0, 0, 0, 0, []),
  (5, .aload_n 0, 1, 0, 0, 0, 0, 0, []),
  (6, .getfield 15, 3, 2, 0, 135, 0, 0, []),
  (9, .if_icmp .gt 7, 3, 16, 0, 0, 0, 0, []),
  (12, .iconst 1, 1, 0, 0, 0, 1, 0, []),
  (13, .goto 4, 3, 17, 0, 0, 0, 0, []),
  (16, .iconst 0, 1, 0, 0, 0, 0, 0, []),
  (17, .ireturn, 1, 0, 2, 0, 0, 0, [])]
noncomputable def kk_X6_isSize_0 (F : Nat × Nat) : Nat → rx_L → List Value → Option rx_H → Option (Int32 × Option rx_H) := fun t ls st u => none
set_option maxRecDepth 100000 in
theorem g_X6_isSize_0 (F : Nat × Nat) (x0 : Nat) (x1 : Int32) (u : Option rx_H) : f_X6_isSize_0 F x0 x1 u = rx_node (C_X6_isSize F) rx_hI t_X6_isSize [] (kk_X6_isSize_0 F) 13 0 [some (.ref x0), some (.int x1)] [] u := rfl
def f_X6_isKind_0 (F : Nat × Nat) (x0 : Nat) (x1 : Int32) (x2 : Int32) (u : Option rx_H) : Option (Int32 × Option rx_H) :=
  if x1 < 0 then
    some ((0 : Int32), u)
  else
    if (4 : Int32) < x1 then
      some ((0 : Int32), u)
    else
      (f_X1_hasNumber F x1).bind fun v1 =>
      if v1 = 0 then
        some ((1 : Int32), u)
      else
        (rx_ck u x0 2).bind fun _ =>
        (f_X6_isSize F x0 x2 u).bind fun v2 =>
        if v2.1 = 0 then
          some ((0 : Int32), v2.2)
        else
          some ((1 : Int32), v2.2)
def f_X6_isKind (F : Nat × Nat) (x0 : Nat) (x1 : Int32) (x2 : Int32) (u : Option rx_H) : Option (Int32 × Option rx_H) := f_X6_isKind_0 F x0 x1 x2 u
def c_X6_isKind {α : Type} (F : Nat × Nat) (as : List Value) (u : Option rx_H) (κ : rx_K α) : Option α := match as with
  | [.ref a0, .int a1, .int a2] => (f_X6_isKind F a0 a1 a2 u).bind fun r => κ (some (.int r.1)) r.2
  | _ => none
noncomputable def C_X6_isKind {α : Type} (F : Nat × Nat) : rx_Cl α := fun j as u κ => Bool.rec (motive := fun _ => Option α) (Bool.rec (motive := fun _ => Option α) (none) (c_X6_isSize F as u κ) (Nat.beq j 104)) (c_X1_hasNumber F as u κ) (Nat.beq j 38)
def t_X6_isKind : List rx_E := [
  (0, .iload_n 1, 1, 0, 0, 0, 0, 0, []),
  (1, .ifCond .lt 27, 3, 28, 0, 0, 0, 0, []),
  (4, .iload_n 1, 1, 0, 0, 0, 0, 0, []),
  (5, .iconst 4, 1, 0, 0, 0, 4, 0, []),
  (6, .if_icmp .gt 22, 3, 28, 0, 0, 0, 0, []),
  (9, .iload_n 1, 1, 0, 0, 0, 0, 0, []),
  (10, .invokestatic 104, 3, 38, 1, 166, 0, 0, []),
  (13, .ifCond .eq 11, 3, 24, 0, 0, 0, 0, []),
  (16, .aload_n 0, 1, 0, 0, 0, 0, 0, []),
  (17, .iload_n 2, 1, 0, 0, 0, 0, 0, []),
  (18, .invokevirtual 172, 3, 104, 202, 169, 0, 0, []),
  (21, .ifCond .eq 7, 3, 28, 0, 0, 0, 0, []),
  (24, .iconst 1, 1, 0, 0, 0, 1, 0, []),
  (25, .goto 4, 3, 29, 0, 0, 0, 0, []),
  (28, .iconst 0, 1, 0, 0, 0, 0, 0, []),
  (29, .ireturn, 1, 0, 2, 0, 0, 0, [])]
noncomputable def kk_X6_isKind_0 (F : Nat × Nat) : Nat → rx_L → List Value → Option rx_H → Option (Int32 × Option rx_H) := fun t ls st u => none
set_option maxRecDepth 100000 in
theorem g_X6_isKind_0 (F : Nat × Nat) (x0 : Nat) (x1 : Int32) (x2 : Int32) (u : Option rx_H) : f_X6_isKind_0 F x0 x1 x2 u = rx_node (C_X6_isKind F) rx_hI t_X6_isKind [] (kk_X6_isKind_0 F) 19 0 [some (.ref x0), some (.int x1), some (.int x2)] [] u := rfl
def f_X6_keep_0 (F : Nat × Nat) (x0 : Nat) (x1 : Int32) (x2 : Int32) (x3 : Int32) (x4 : Int64) (u : Option rx_H) : Option (Int32 × Option rx_H) :=
  (rx_gR u x0 2 2).bind fun v1 =>
  (rx_aR u v1 x1).bind fun v2 =>
  (rx_ck u v2 0).bind fun _ =>
  (f_X4_becomeFamily F v2 x2 x3 x4 (0 : Int64) u).bind fun v3 =>
  (f_X0_size F x4).bind fun v4 =>
  some (v4, v3)
def f_X6_keep (F : Nat × Nat) (x0 : Nat) (x1 : Int32) (x2 : Int32) (x3 : Int32) (x4 : Int64) (u : Option rx_H) : Option (Int32 × Option rx_H) := f_X6_keep_0 F x0 x1 x2 x3 x4 u
def c_X6_keep {α : Type} (F : Nat × Nat) (as : List Value) (u : Option rx_H) (κ : rx_K α) : Option α := match as with
  | [.ref a0, .int a1, .int a2, .int a3, .long a4] => (f_X6_keep F a0 a1 a2 a3 a4 u).bind fun r => κ (some (.int r.1)) r.2
  | _ => none
noncomputable def C_X6_keep {α : Type} (F : Nat × Nat) : rx_Cl α := fun j as u κ => Bool.rec (motive := fun _ => Option α) (Bool.rec (motive := fun _ => Option α) (none) (c_X4_becomeFamily F as u κ) (Nat.beq j 61)) (c_X0_size F as u κ) (Nat.beq j 28)
def t_X6_keep : List rx_E := [
  (0, .aload_n 0, 1, 0, 0, 0, 0, 0, []),
  (1, .getfield 24, 3, 2, 10, 137, 0, 0, []),
  (4, .iload_n 1, 1, 0, 0, 0, 0, 0, []),
  (5, .aaload, 1, 0, 0, 0, 0, 0, []),
  (6, .iload_n 2, 1, 0, 0, 0, 0, 0, []),
  (7, .iload_n 3, 1, 0, 0, 0, 0, 0, []),
  (8, .lload 4, 2, 0, 0, 0, 0, 0, []),
  (10, .lconst 0, 1, 0, 0, 0, 0, 0, []),
  (11, .invokevirtual 69, 3, 61, 5, 177, 0, 0, []),
  (14, .lload 4, 2, 0, 0, 0, 0, 0, []),
  (16, .invokestatic 80, 3, 28, 1, 181, 0, 0, []),
  (19, .ireturn, 1, 0, 0, 0, 0, 0, [])]
noncomputable def kk_X6_keep_0 (F : Nat × Nat) : Nat → rx_L → List Value → Option rx_H → Option (Int32 × Option rx_H) := fun t ls st u => none
set_option maxRecDepth 100000 in
theorem g_X6_keep_0 (F : Nat × Nat) (x0 : Nat) (x1 : Int32) (x2 : Int32) (x3 : Int32) (x4 : Int64) (u : Option rx_H) : f_X6_keep_0 F x0 x1 x2 x3 x4 u = rx_node (C_X6_keep F) rx_hI t_X6_keep [] (kk_X6_keep_0 F) 15 0 [some (.ref x0), some (.int x1), some (.int x2), some (.int x3), some (.long x4), none] [] u := rfl
def f_X6_make_0 (F : Nat × Nat) (x0 : Nat) (x1 : Int32) (x2 : Int32) (x3 : Int32) (u : Option rx_H) : Option (Int32 × Option rx_H) :=
  (rx_ck u x0 2).bind fun _ =>
  (f_X6_isPlace F x0 x1).bind fun v1 =>
  if v1 = 0 then
    some ((-1 : Int32), u)
  else
    (rx_ck u x0 2).bind fun _ =>
    (f_X6_isKind F x0 x2 x3 u).bind fun v2 =>
    if v2.1 = 0 then
      some ((-1 : Int32), v2.2)
    else
      (rx_ck v2.2 x0 2).bind fun _ =>
      (f_X6_keep F x0 x1 x2 x3 (0 : Int64) v2.2).bind fun v3 =>
      some ((0 : Int32), v3.2)
def f_X6_make (F : Nat × Nat) (x0 : Nat) (x1 : Int32) (x2 : Int32) (x3 : Int32) (u : Option rx_H) : Option (Int32 × Option rx_H) := f_X6_make_0 F x0 x1 x2 x3 u
def c_X6_make {α : Type} (F : Nat × Nat) (as : List Value) (u : Option rx_H) (κ : rx_K α) : Option α := match as with
  | [.ref a0, .int a1, .int a2, .int a3] => (f_X6_make F a0 a1 a2 a3 u).bind fun r => κ (some (.int r.1)) r.2
  | _ => none
noncomputable def C_X6_make {α : Type} (F : Nat × Nat) : rx_Cl α := fun j as u κ => Bool.rec (motive := fun _ => Option α) (Bool.rec (motive := fun _ => Option α) (Bool.rec (motive := fun _ => Option α) (none) (c_X6_keep F as u κ) (Nat.beq j 106)) (c_X6_isPlace F as u κ) (Nat.beq j 102)) (c_X6_isKind F as u κ) (Nat.beq j 101)
def t_X6_make : List rx_E := [
  (0, .aload_n 0, 1, 0, 0, 0, 0, 0, []),
  (1, .iload_n 1, 1, 0, 0, 0, 0, 0, []),
  (2, .invokevirtual 49, 3, 102, 202, 158, 0, 0, []),
  (5, .ifCond .eq 12, 3, 17, 0, 0, 0, 0, []),
  (8, .aload_n 0, 1, 0, 0, 0, 0, 0, []),
  (9, .iload_n 2, 1, 0, 0, 0, 0, 0, []),
  (10, .iload_n 3, 1, 0, 0, 0, 0, 0, []),
  (11, .invokevirtual 53, 3, 101, 203, 162, 0, 0, []),
  (14, .ifCond .ne 5, 3, 19, 0, 0, 0, 0, []),
  (17, .iconst (-1), 1, 0, 0, 0, (-1), 0, []),
  (18, .ireturn, 1, 0, 0, 0, 0, 0, []),
  (19, .aload_n 0, 1, 0, 0, 0, 0, 0, []),
  (20, .iload_n 1, 1, 0, 0, 0, 0, 0, []),
  (21, .iload_n 2, 1, 0, 0, 0, 0, 0, []),
  (22, .iload_n 3, 1, 0, 0, 0, 0, 0, []),
  (23, .lconst 0, 1, 0, 0, 0, 0, 0, []),
  (24, .invokevirtual 57, 3, 106, 205, 173, 0, 0, []),
  (27, .pop, 1, 0, 0, 0, 0, 0, []),
  (28, .iconst 0, 1, 0, 0, 0, 0, 0, []),
  (29, .ireturn, 1, 0, 0, 0, 0, 0, [])]
noncomputable def kk_X6_make_0 (F : Nat × Nat) : Nat → rx_L → List Value → Option rx_H → Option (Int32 × Option rx_H) := fun t ls st u => none
set_option maxRecDepth 100000 in
theorem g_X6_make_0 (F : Nat × Nat) (x0 : Nat) (x1 : Int32) (x2 : Int32) (x3 : Int32) (u : Option rx_H) : f_X6_make_0 F x0 x1 x2 x3 u = rx_node (C_X6_make F) rx_hI t_X6_make [] (kk_X6_make_0 F) 23 0 [some (.ref x0), some (.int x1), some (.int x2), some (.int x3)] [] u := rfl
def f_X6_familyRefusal_0 (F : Nat × Nat) (x0 : Nat) (x1 : Int32) (x2 : Int32) (u : Option rx_H) : Option (Int32 × Option rx_H) :=
  if x2 = 0 then
    some ((-1 : Int32), u)
  else
    (rx_ck u x0 2).bind fun _ =>
    (f_X6_isPlace F x0 x1).bind fun v1 =>
    if v1 = 0 then
      some ((-1 : Int32), u)
    else
      (rx_gR u x0 2 2).bind fun v2 =>
      (rx_aR u v2 x1).bind fun v3 =>
      (rx_gI u v3 0 0).bind fun v4 =>
      if v4 = (-2 : Int32) then
        some ((-11 : Int32), u)
      else
        (rx_gR u x0 2 2).bind fun v5 =>
        (rx_aR u v5 x1).bind fun v6 =>
        (rx_ck u v6 0).bind fun _ =>
        (f_X4_isRow F v6 u).bind fun v7 =>
        if v7.1 = 0 then
          some ((0 : Int32), v7.2)
        else
          some ((-12 : Int32), v7.2)
def f_X6_familyRefusal (F : Nat × Nat) (x0 : Nat) (x1 : Int32) (x2 : Int32) (u : Option rx_H) : Option (Int32 × Option rx_H) := f_X6_familyRefusal_0 F x0 x1 x2 u
def c_X6_familyRefusal {α : Type} (F : Nat × Nat) (as : List Value) (u : Option rx_H) (κ : rx_K α) : Option α := match as with
  | [.ref a0, .int a1, .int a2] => (f_X6_familyRefusal F a0 a1 a2 u).bind fun r => κ (some (.int r.1)) r.2
  | _ => none
noncomputable def C_X6_familyRefusal {α : Type} (F : Nat × Nat) : rx_Cl α := fun j as u κ => Bool.rec (motive := fun _ => Option α) (Bool.rec (motive := fun _ => Option α) (none) (c_X6_isPlace F as u κ) (Nat.beq j 102)) (c_X4_isRow F as u κ) (Nat.beq j 66)
def t_X6_familyRefusal : List rx_E := [
  (0, .iload_n 2, 1, 0, 0, 0, 0, 0, []),
  (1, .ifCond .eq 11, 3, 12, 0, 0, 0, 0, []),
  (4, .aload_n 0, 1, 0, 0, 0, 0, 0, []),
  (5, .iload_n 1, 1, 0, 0, 0, 0, 0, []),
  (6, .invokevirtual 49, 3, 102, 202, 158, 0, 0, []),
  (9, .ifCond .ne 5, 3, 14, 0, 0, 0, 0, []),
  (12, .iconst (-1), 1, 0, 0, 0, (-1), 0, []),
  (13, .ireturn, 1, 0, 0, 0, 0, 0, []),
  (14, .aload_n 0, 1, 0, 0, 0, 0, 0, []),
  (15, .getfield 24, 3, 2, 10, 137, 0, 0, []),
  (18, .iload_n 1, 1, 0, 0, 0, 0, 0, []),
  (19, .aaload, 1, 0, 0, 0, 0, 0, []),
  (20, .getfield 98, 3, 0, 0, 78, 0, 0, []),
  (23, .bipush (-2), 2, 0, 0, 0, (-2), 0, []),
  (25, .if_icmp .ne 6, 3, 31, 0, 0, 0, 0, []),
  (28, .bipush (-11), 2, 0, 0, 0, (-11), 0, []),
  (30, .ireturn, 1, 0, 0, 0, 0, 0, []),
  (31, .aload_n 0, 1, 0, 0, 0, 0, 0, []),
  (32, .getfield 24, 3, 2, 10, 137, 0, 0, []),
  (35, .iload_n 1, 1, 0, 0, 0, 0, 0, []),
  (36, .aaload, 1, 0, 0, 0, 0, 0, []),
  (37, .invokevirtual 255, 3, 66, 1, 198, 0, 0, []),
  (40, .ifCond .eq 8, 3, 48, 0, 0, 0, 0, []),
  (43, .bipush (-12), 2, 0, 0, 0, (-12), 0, []),
  (45, .goto 4, 3, 49, 0, 0, 0, 0, []),
  (48, .iconst 0, 1, 0, 0, 0, 0, 0, []),
  (49, .ireturn, 1, 0, 0, 0, 0, 0, [])]
noncomputable def kk_X6_familyRefusal_0 (F : Nat × Nat) : Nat → rx_L → List Value → Option rx_H → Option (Int32 × Option rx_H) := fun t ls st u => none
set_option maxRecDepth 100000 in
theorem g_X6_familyRefusal_0 (F : Nat × Nat) (x0 : Nat) (x1 : Int32) (x2 : Int32) (u : Option rx_H) : f_X6_familyRefusal_0 F x0 x1 x2 u = rx_node (C_X6_familyRefusal F) rx_hI t_X6_familyRefusal [] (kk_X6_familyRefusal_0 F) 30 0 [some (.ref x0), some (.int x1), some (.int x2)] [] u := rfl
def f_X6_cross_27 (F : Nat × Nat) (x0 : Nat) (x1 : Int32) (x2 : Int32) (x3 : Int32) (s0 : Nat) (s1 : Int32) (s2 : Int32) (u : Option rx_H) : Option (Int32 × Option rx_H) :=
  (rx_ck u s0 2).bind fun _ =>
  (f_X6_familyRefusal F s0 s1 s2 u).bind fun v1 =>
  if v1.1 = 0 then
    (rx_gR v1.2 x0 2 2).bind fun v2 =>
    (rx_aR v1.2 v2 x1).bind fun v3 =>
    (rx_gR v1.2 x0 2 2).bind fun v4 =>
    (rx_aR v1.2 v4 x2).bind fun v5 =>
    (rx_gJ v1.2 v5 0 2).bind fun v6 =>
    (rx_ck v1.2 v3 0).bind fun _ =>
    (f_X4_becomeFamily F v3 (5 : Int32) x3 (0 : Int64) v6 v1.2).bind fun v7 =>
    some ((0 : Int32), v7)
  else
    some (v1.1, v1.2)
def f_X6_cross_0 (F : Nat × Nat) (x0 : Nat) (x1 : Int32) (x2 : Int32) (x3 : Int32) (u : Option rx_H) : Option (Int32 × Option rx_H) :=
  (rx_ck u x0 2).bind fun _ =>
  (f_X6_isPlace F x0 x1).bind fun v1 =>
  if v1 = 0 then
    f_X6_cross_27 F x0 x1 x2 x3 x0 x2 (0 : Int32) u
  else
    if x3 < 0 then
      f_X6_cross_27 F x0 x1 x2 x3 x0 x2 (0 : Int32) u
    else
      (rx_gI u x0 2 0).bind fun v2 =>
      if v2 < x3 then
        f_X6_cross_27 F x0 x1 x2 x3 x0 x2 (0 : Int32) u
      else
        f_X6_cross_27 F x0 x1 x2 x3 x0 x2 (1 : Int32) u
def f_X6_cross (F : Nat × Nat) (x0 : Nat) (x1 : Int32) (x2 : Int32) (x3 : Int32) (u : Option rx_H) : Option (Int32 × Option rx_H) := f_X6_cross_0 F x0 x1 x2 x3 u
def c_X6_cross {α : Type} (F : Nat × Nat) (as : List Value) (u : Option rx_H) (κ : rx_K α) : Option α := match as with
  | [.ref a0, .int a1, .int a2, .int a3] => (f_X6_cross F a0 a1 a2 a3 u).bind fun r => κ (some (.int r.1)) r.2
  | _ => none
noncomputable def C_X6_cross {α : Type} (F : Nat × Nat) : rx_Cl α := fun j as u κ => Bool.rec (motive := fun _ => Option α) (Bool.rec (motive := fun _ => Option α) (Bool.rec (motive := fun _ => Option α) (none) (c_X6_isPlace F as u κ) (Nat.beq j 102)) (c_X6_familyRefusal F as u κ) (Nat.beq j 92)) (c_X4_becomeFamily F as u κ) (Nat.beq j 61)
def t_X6_cross : List rx_E := [
  (0, .aload_n 0, 1, 0, 0, 0, 0, 0, []),
  (1, .iload_n 2, 1, 0, 0, 0, 0, 0, []),
  (2, .aload_n 0, 1, 0, 0, 0, 0, 0, []),
  (3, .iload_n 1, 1, 0, 0, 0, 0, 0, []),
  (4, .invokevirtual 49, 3, 102, 202, 158, 0, 0, []),
  (7, .ifCond .eq 19, 3, 26, 0, 0, 0, 0, []),
  (10, .iload_n 3, 1, 0, 0, 0, 0, 0, []),
  (11, .ifCond .lt 15, 3, 26, 0, 0, 0, 0, []),
  (14, .iload_n 3, 1, 0, 0, 0, 0, 0, []),
  (15, .aload_n 0, 1, 0, 0, 0, 0, 0, []),
  (16, .getfield 15, 3, 2, 0, 135, 0, 0, []),
  (19, .if_icmp .gt 7, 3, 26, 0, 0, 0, 0, []),
  (22, .iconst 1, 1, 0, 0, 0, 1, 0, []),
  (23, .goto 4, 3, 27, 0, 0, 0, 0, []),
  (26, .iconst 0, 1, 0, 0, 0, 0, 0, []),
  (27, .invokevirtual 61, 3, 92, 203, 194, 0, 0, []),
  (30, .istore 4, 2, 0, 0, 0, 0, 0, []),
  (32, .iload 4, 2, 0, 0, 0, 0, 0, []),
  (34, .ifCond .eq 6, 3, 40, 0, 0, 0, 0, []),
  (37, .iload 4, 2, 0, 0, 0, 0, 0, []),
  (39, .ireturn, 1, 0, 0, 0, 0, 0, []),
  (40, .aload_n 0, 1, 0, 0, 0, 0, 0, []),
  (41, .getfield 24, 3, 2, 10, 137, 0, 0, []),
  (44, .iload_n 1, 1, 0, 0, 0, 0, 0, []),
  (45, .aaload, 1, 0, 0, 0, 0, 0, []),
  (46, .iconst 5, 1, 0, 0, 0, 5, 0, []),
  (47, .iload_n 3, 1, 0, 0, 0, 0, 0, []),
  (48, .lconst 0, 1, 0, 0, 0, 0, 0, []),
  (49, .aload_n 0, 1, 0, 0, 0, 0, 0, []),
  (50, .getfield 24, 3, 2, 10, 137, 0, 0, []),
  (53, .iload_n 2, 1, 0, 0, 0, 0, 0, []),
  (54, .aaload, 1, 0, 0, 0, 0, 0, []),
  (55, .getfield 65, 3, 0, 9, 84, 0, 0, []),
  (58, .invokevirtual 69, 3, 61, 5, 177, 0, 0, []),
  (61, .iconst 0, 1, 0, 0, 0, 0, 0, []),
  (62, .ireturn, 1, 0, 0, 0, 0, 0, [])]
def n_X6_cross_27 (F : Nat × Nat) (ls : rx_L) (st : List Value) (u : Option rx_H) : Option (Int32 × Option rx_H) := match ls, st, u with
  | [some (.ref x0), some (.int x1), some (.int x2), some (.int x3), _], [.int s2, .int s1, .ref s0], u => f_X6_cross_27 F x0 x1 x2 x3 s0 s1 s2 u
  | _, _, _ => none
noncomputable def kk_X6_cross_27 (F : Nat × Nat) : Nat → rx_L → List Value → Option rx_H → Option (Int32 × Option rx_H) := fun t ls st u => none
noncomputable def kk_X6_cross_0 (F : Nat × Nat) : Nat → rx_L → List Value → Option rx_H → Option (Int32 × Option rx_H) := fun t ls st u => Bool.rec (motive := fun _ => Option (Int32 × Option rx_H)) (none) (n_X6_cross_27 F ls st u) (Nat.beq t 27)
set_option maxRecDepth 100000 in
theorem g_X6_cross_27 (F : Nat × Nat) (x0 : Nat) (x1 : Int32) (x2 : Int32) (x3 : Int32) (s0 : Nat) (s1 : Int32) (s2 : Int32) (u : Option rx_H) : f_X6_cross_27 F x0 x1 x2 x3 s0 s1 s2 u = rx_node (C_X6_cross F) rx_hI t_X6_cross [27] (kk_X6_cross_27 F) 39 27 [some (.ref x0), some (.int x1), some (.int x2), some (.int x3), none] [.int s2, .int s1, .ref s0] u := rfl
set_option maxRecDepth 100000 in
theorem g_X6_cross_0 (F : Nat × Nat) (x0 : Nat) (x1 : Int32) (x2 : Int32) (x3 : Int32) (u : Option rx_H) : f_X6_cross_0 F x0 x1 x2 x3 u = rx_node (C_X6_cross F) rx_hI t_X6_cross [27] (kk_X6_cross_0 F) 39 0 [some (.ref x0), some (.int x1), some (.int x2), some (.int x3), none] [] u := rfl
def f_X6_comes_0 (F : Nat × Nat) (x0 : Nat) (x1 : Nat) (x2 : Int32) (u : Option rx_H) : Option (Int32 × Option rx_H) :=
  (f_X1_comingClash F x1 x2 u).bind fun v1 =>
  if v1.1 = (-2 : Int32) then
    (rx_gJ v1.2 x1 0 2).bind fun v2 =>
    (rx_p v1.2 x1 0 2 (.long (v2 ||| ((1 : Int64) <<< (Int32.toInt64 x2 &&& 63))))).bind fun v3 =>
    some ((1 : Int32), v3)
  else
    (rx_p v1.2 x0 2 5 (.int v1.1)).bind fun v4 =>
    some ((0 : Int32), v4)
def f_X6_comes (F : Nat × Nat) (x0 : Nat) (x1 : Nat) (x2 : Int32) (u : Option rx_H) : Option (Int32 × Option rx_H) := f_X6_comes_0 F x0 x1 x2 u
def c_X6_comes {α : Type} (F : Nat × Nat) (as : List Value) (u : Option rx_H) (κ : rx_K α) : Option α := match as with
  | [.ref a0, .ref a1, .int a2] => (f_X6_comes F a0 a1 a2 u).bind fun r => κ (some (.int r.1)) r.2
  | _ => none
noncomputable def C_X6_comes {α : Type} (F : Nat × Nat) : rx_Cl α := fun j as u κ => Bool.rec (motive := fun _ => Option α) (none) (c_X1_comingClash F as u κ) (Nat.beq j 32)
def t_X6_comes : List rx_E := [
  (0, .aload_n 1, 1, 0, 0, 0, 0, 0, []),
  (1, .iload_n 2, 1, 0, 0, 0, 0, 0, []),
  (2, .invokestatic 283, 3, 32, 2, 214, 0, 0, []),
  (5, .istore_n 3, 1, 0, 0, 0, 0, 0, []),
  (6, .iload_n 3, 1, 0, 0, 0, 0, 0, []),
  (7, .bipush (-2), 2, 0, 0, 0, (-2), 0, []),
  (9, .if_icmp .eq 10, 3, 19, 0, 0, 0, 0, []),
  (12, .aload_n 0, 1, 0, 0, 0, 0, 0, []),
  (13, .iload_n 3, 1, 0, 0, 0, 0, 0, []),
  (14, .putfield 46, 3, 2, 20, 140, 0, 0, []),
  (17, .iconst 0, 1, 0, 0, 0, 0, 0, []),
  (18, .ireturn, 1, 0, 2, 0, 0, 0, []),
  (19, .aload_n 1, 1, 0, 0, 0, 0, 0, []),
  (20, .dup, 1, 0, 0, 0, 0, 0, []),
  (21, .getfield 65, 3, 0, 9, 84, 0, 0, []),
  (24, .lconst 1, 1, 0, 0, 0, 0, 1, []),
  (25, .iload_n 2, 1, 0, 0, 0, 0, 0, []),
  (26, .lshl, 1, 0, 0, 0, 0, 0, []),
  (27, .lor, 1, 0, 0, 0, 0, 0, []),
  (28, .putfield 65, 3, 0, 9, 84, 0, 0, []),
  (31, .iconst 1, 1, 0, 0, 0, 1, 0, []),
  (32, .ireturn, 1, 0, 2, 0, 0, 0, [])]
noncomputable def kk_X6_comes_0 (F : Nat × Nat) : Nat → rx_L → List Value → Option rx_H → Option (Int32 × Option rx_H) := fun t ls st u => none
set_option maxRecDepth 100000 in
theorem g_X6_comes_0 (F : Nat × Nat) (x0 : Nat) (x1 : Nat) (x2 : Int32) (u : Option rx_H) : f_X6_comes_0 F x0 x1 x2 u = rx_node (C_X6_comes F) rx_hI t_X6_comes [] (kk_X6_comes_0 F) 25 0 [some (.ref x0), some (.ref x1), some (.int x2), none] [] u := rfl
def f_X6_isSet_0 (F : Nat × Nat) (x0 : Nat) (x1 : Int32) (u : Option rx_H) : Option (Int32 × Option rx_H) :=
  if x1 < 0 then
    some ((0 : Int32), u)
  else
    (rx_gI u x0 2 1).bind fun v1 =>
    if x1 < v1 then
      some ((1 : Int32), u)
    else
      some ((0 : Int32), u)
def f_X6_isSet (F : Nat × Nat) (x0 : Nat) (x1 : Int32) (u : Option rx_H) : Option (Int32 × Option rx_H) := f_X6_isSet_0 F x0 x1 u
def c_X6_isSet {α : Type} (F : Nat × Nat) (as : List Value) (u : Option rx_H) (κ : rx_K α) : Option α := match as with
  | [.ref a0, .int a1] => (f_X6_isSet F a0 a1 u).bind fun r => κ (some (.int r.1)) r.2
  | _ => none
noncomputable def C_X6_isSet {α : Type} (F : Nat × Nat) : rx_Cl α := fun j as u κ => none
def t_X6_isSet : List rx_E := [
  (0, .iload_n 1, 1, 0, 0, 0, 0, 0, []),
  (1, .ifCond .lt 15, 3, 16, 0, 0, 0, 0, []),
  (4, .iload_n 1, 1, 0, 0, 0, 0, 0, []),
  (5, .aload_n 0, 1, 0, 0, 0, 0, 0, []),
  (6, .getfield 19, 3, 2, 4, 136, 0, 0, []),
  (9, .if_icmp .ge 7, 3, 16, 0, 0, 0, 0, []),
  (12, .iconst 1, 1, 0, 0, 0, 1, 0, []),
  (13, .goto 4, 3, 17, 0, 0, 0, 0, []),
  (16, .iconst 0, 1, 0, 0, 0, 0, 0, []),
  (17, .ireturn, 1, 0, 2, 0, 0, 0, [])]
noncomputable def kk_X6_isSet_0 (F : Nat × Nat) : Nat → rx_L → List Value → Option rx_H → Option (Int32 × Option rx_H) := fun t ls st u => none
set_option maxRecDepth 100000 in
theorem g_X6_isSet_0 (F : Nat × Nat) (x0 : Nat) (x1 : Int32) (u : Option rx_H) : f_X6_isSet_0 F x0 x1 u = rx_node (C_X6_isSet F) rx_hI t_X6_isSet [] (kk_X6_isSet_0 F) 13 0 [some (.ref x0), some (.int x1)] [] u := rfl
def f_X6_add_0 (F : Nat × Nat) (x0 : Nat) (x1 : Int32) (x2 : Int32) (u : Option rx_H) : Option (Int32 × Option rx_H) :=
  (rx_ck u x0 2).bind fun _ =>
  (f_X6_isSet F x0 x2 u).bind fun v1 =>
  (rx_ck v1.2 x0 2).bind fun _ =>
  (f_X6_familyRefusal F x0 x1 v1.1 v1.2).bind fun v2 =>
  if v2.1 = 0 then
    (rx_gR v2.2 x0 2 2).bind fun v3 =>
    (rx_aR v2.2 v3 x1).bind fun v4 =>
    (rx_ck v2.2 x0 2).bind fun _ =>
    (f_X6_comes F x0 v4 x2 v2.2).bind fun v5 =>
    if v5.1 = 0 then
      some ((-3 : Int32), v5.2)
    else
      (rx_gR v5.2 x0 2 2).bind fun v6 =>
      (rx_aR v5.2 v6 x1).bind fun v7 =>
      (rx_gJ v5.2 v7 0 2).bind fun v8 =>
      (f_X0_size F v8).bind fun v9 =>
      some (v9, v5.2)
  else
    some (v2.1, v2.2)
def f_X6_add (F : Nat × Nat) (x0 : Nat) (x1 : Int32) (x2 : Int32) (u : Option rx_H) : Option (Int32 × Option rx_H) := f_X6_add_0 F x0 x1 x2 u
def c_X6_add {α : Type} (F : Nat × Nat) (as : List Value) (u : Option rx_H) (κ : rx_K α) : Option α := match as with
  | [.ref a0, .int a1, .int a2] => (f_X6_add F a0 a1 a2 u).bind fun r => κ (some (.int r.1)) r.2
  | _ => none
noncomputable def C_X6_add {α : Type} (F : Nat × Nat) : rx_Cl α := fun j as u κ => Bool.rec (motive := fun _ => Option α) (Bool.rec (motive := fun _ => Option α) (Bool.rec (motive := fun _ => Option α) (Bool.rec (motive := fun _ => Option α) (none) (c_X6_isSet F as u κ) (Nat.beq j 103)) (c_X6_familyRefusal F as u κ) (Nat.beq j 92)) (c_X6_comes F as u κ) (Nat.beq j 82)) (c_X0_size F as u κ) (Nat.beq j 28)
def t_X6_add : List rx_E := [
  (0, .aload_n 0, 1, 0, 0, 0, 0, 0, []),
  (1, .iload_n 1, 1, 0, 0, 0, 0, 0, []),
  (2, .aload_n 0, 1, 0, 0, 0, 0, 0, []),
  (3, .iload_n 2, 1, 0, 0, 0, 0, 0, []),
  (4, .invokevirtual 73, 3, 103, 202, 206, 0, 0, []),
  (7, .invokevirtual 61, 3, 92, 203, 194, 0, 0, []),
  (10, .istore_n 3, 1, 0, 0, 0, 0, 0, []),
  (11, .iload_n 3, 1, 0, 0, 0, 0, 0, []),
  (12, .ifCond .eq 5, 3, 17, 0, 0, 0, 0, []),
  (15, .iload_n 3, 1, 0, 0, 0, 0, 0, []),
  (16, .ireturn, 1, 0, 0, 0, 0, 0, []),
  (17, .aload_n 0, 1, 0, 0, 0, 0, 0, []),
  (18, .aload_n 0, 1, 0, 0, 0, 0, 0, []),
  (19, .getfield 24, 3, 2, 10, 137, 0, 0, []),
  (22, .iload_n 1, 1, 0, 0, 0, 0, 0, []),
  (23, .aaload, 1, 0, 0, 0, 0, 0, []),
  (24, .iload_n 2, 1, 0, 0, 0, 0, 0, []),
  (25, .invokevirtual 76, 3, 82, 203, 210, 0, 0, []),
  (28, .ifCond .ne 6, 3, 34, 0, 0, 0, 0, []),
  (31, .bipush (-3), 2, 0, 0, 0, (-3), 0, []),
  (33, .ireturn, 1, 0, 0, 0, 0, 0, []),
  (34, .aload_n 0, 1, 0, 0, 0, 0, 0, []),
  (35, .getfield 24, 3, 2, 10, 137, 0, 0, []),
  (38, .iload_n 1, 1, 0, 0, 0, 0, 0, []),
  (39, .aaload, 1, 0, 0, 0, 0, 0, []),
  (40, .getfield 65, 3, 0, 9, 84, 0, 0, []),
  (43, .invokestatic 80, 3, 28, 1, 181, 0, 0, []),
  (46, .ireturn, 1, 0, 0, 0, 0, 0, [])]
noncomputable def kk_X6_add_0 (F : Nat × Nat) : Nat → rx_L → List Value → Option rx_H → Option (Int32 × Option rx_H) := fun t ls st u => none
set_option maxRecDepth 100000 in
theorem g_X6_add_0 (F : Nat × Nat) (x0 : Nat) (x1 : Int32) (x2 : Int32) (u : Option rx_H) : f_X6_add_0 F x0 x1 x2 u = rx_node (C_X6_add F) rx_hI t_X6_add [] (kk_X6_add_0 F) 31 0 [some (.ref x0), some (.int x1), some (.int x2), none] [] u := rfl
def f_X6_drop_0 (F : Nat × Nat) (x0 : Nat) (x1 : Int32) (x2 : Int32) (u : Option rx_H) : Option (Int32 × Option rx_H) :=
  (rx_ck u x0 2).bind fun _ =>
  (f_X6_isSet F x0 x2 u).bind fun v1 =>
  (rx_ck v1.2 x0 2).bind fun _ =>
  (f_X6_familyRefusal F x0 x1 v1.1 v1.2).bind fun v2 =>
  if v2.1 = 0 then
    (rx_gR v2.2 x0 2 2).bind fun v3 =>
    (rx_aR v2.2 v3 x1).bind fun v4 =>
    (rx_gJ v2.2 v4 0 2).bind fun v5 =>
    (f_X0_holdsSet F v5 x2).bind fun v6 =>
    if v6 = 0 then
      some ((-2 : Int32), v2.2)
    else
      (f_X1_goingClash F v4 x2 v2.2).bind fun v7 =>
      if v7.1 = (-2 : Int32) then
        (rx_gJ v7.2 v4 0 2).bind fun v8 =>
        (rx_p v7.2 v4 0 2 (.long (v8 &&& (((1 : Int64) <<< (Int32.toInt64 x2 &&& 63)) ^^^ (-1 : Int64))))).bind fun v9 =>
        (rx_gJ v9 v4 0 2).bind fun v10 =>
        (f_X0_size F v10).bind fun v11 =>
        some (v11, v9)
      else
        (rx_p v7.2 x0 2 5 (.int v7.1)).bind fun v12 =>
        some ((-3 : Int32), v12)
  else
    some (v2.1, v2.2)
def f_X6_drop (F : Nat × Nat) (x0 : Nat) (x1 : Int32) (x2 : Int32) (u : Option rx_H) : Option (Int32 × Option rx_H) := f_X6_drop_0 F x0 x1 x2 u
def c_X6_drop {α : Type} (F : Nat × Nat) (as : List Value) (u : Option rx_H) (κ : rx_K α) : Option α := match as with
  | [.ref a0, .int a1, .int a2] => (f_X6_drop F a0 a1 a2 u).bind fun r => κ (some (.int r.1)) r.2
  | _ => none
noncomputable def C_X6_drop {α : Type} (F : Nat × Nat) : rx_Cl α := fun j as u κ => Bool.rec (motive := fun _ => Option α) (Bool.rec (motive := fun _ => Option α) (Bool.rec (motive := fun _ => Option α) (Bool.rec (motive := fun _ => Option α) (Bool.rec (motive := fun _ => Option α) (none) (c_X6_isSet F as u κ) (Nat.beq j 103)) (c_X6_familyRefusal F as u κ) (Nat.beq j 92)) (c_X1_goingClash F as u κ) (Nat.beq j 37)) (c_X0_size F as u κ) (Nat.beq j 28)) (c_X0_holdsSet F as u κ) (Nat.beq j 13)
def t_X6_drop : List rx_E := [
  (0, .aload_n 0, 1, 0, 0, 0, 0, 0, []),
  (1, .iload_n 1, 1, 0, 0, 0, 0, 0, []),
  (2, .aload_n 0, 1, 0, 0, 0, 0, 0, []),
  (3, .iload_n 2, 1, 0, 0, 0, 0, 0, []),
  (4, .invokevirtual 73, 3, 103, 202, 206, 0, 0, []),
  (7, .invokevirtual 61, 3, 92, 203, 194, 0, 0, []),
  (10, .istore_n 3, 1, 0, 0, 0, 0, 0, []),
  (11, .iload_n 3, 1, 0, 0, 0, 0, 0, []),
  (12, .ifCond .eq 5, 3, 17, 0, 0, 0, 0, []),
  (15, .iload_n 3, 1, 0, 0, 0, 0, 0, []),
  (16, .ireturn, 1, 0, 0, 0, 0, 0, []),
  (17, .aload_n 0, 1, 0, 0, 0, 0, 0, []),
  (18, .getfield 24, 3, 2, 10, 137, 0, 0, []),
  (21, .iload_n 1, 1, 0, 0, 0, 0, 0, []),
  (22, .aaload, 1, 0, 0, 0, 0, 0, []),
  (23, .astore 4, 2, 0, 0, 0, 0, 0, []),
  (25, .aload 4, 2, 0, 0, 0, 0, 0, []),
  (27, .getfield 65, 3, 0, 9, 84, 0, 0, []),
  (30, .iload_n 2, 1, 0, 0, 0, 0, 0, []),
  (31, .invokestatic 86, 3, 13, 2, 250, 0, 0, []),
  (34, .ifCond .ne 6, 3, 40, 0, 0, 0, 0, []),
  (37, .bipush (-2), 2, 0, 0, 0, (-2), 0, []),
  (39, .ireturn, 1, 0, 0, 0, 0, 0, []),
  (40, .aload 4, 2, 0, 0, 0, 0, 0, []),
  (42, .iload_n 2, 1, 0, 0, 0, 0, 0, []),
  (43, .invokestatic 90, 3, 37, 2, 251, 0, 0, []),
  (46, .istore 5, 2, 0, 0, 0, 0, 0, []),
  (48, .iload 5, 2, 0, 0, 0, 0, 0, []),
  (50, .bipush (-2), 2, 0, 0, 0, (-2), 0, []),
  (52, .if_icmp .eq 12, 3, 64, 0, 0, 0, 0, []),
  (55, .aload_n 0, 1, 0, 0, 0, 0, 0, []),
  (56, .iload 5, 2, 0, 0, 0, 0, 0, []),
  (58, .putfield 46, 3, 2, 20, 140, 0, 0, []),
  (61, .bipush (-3), 2, 0, 0, 0, (-3), 0, []),
  (63, .ireturn, 1, 0, 0, 0, 0, 0, []),
  (64, .aload 4, 2, 0, 0, 0, 0, 0, []),
  (66, .dup, 1, 0, 0, 0, 0, 0, []),
  (67, .getfield 65, 3, 0, 9, 84, 0, 0, []),
  (70, .lconst 1, 1, 0, 0, 0, 0, 1, []),
  (71, .iload_n 2, 1, 0, 0, 0, 0, 0, []),
  (72, .lshl, 1, 0, 0, 0, 0, 0, []),
  (73, .ldc2_w 96, 3, 0, 0, 254, 0, (-1), []),
  (76, .lxor, 1, 0, 0, 0, 0, 0, []),
  (77, .land, 1, 0, 0, 0, 0, 0, []),
  (78, .putfield 65, 3, 0, 9, 84, 0, 0, []),
  (81, .aload 4, 2, 0, 0, 0, 0, 0, []),
  (83, .getfield 65, 3, 0, 9, 84, 0, 0, []),
  (86, .invokestatic 80, 3, 28, 1, 181, 0, 0, []),
  (89, .ireturn, 1, 0, 0, 0, 0, 0, [])]
noncomputable def kk_X6_drop_0 (F : Nat × Nat) : Nat → rx_L → List Value → Option rx_H → Option (Int32 × Option rx_H) := fun t ls st u => none
set_option maxRecDepth 100000 in
theorem g_X6_drop_0 (F : Nat × Nat) (x0 : Nat) (x1 : Int32) (x2 : Int32) (u : Option rx_H) : f_X6_drop_0 F x0 x1 x2 u = rx_node (C_X6_drop F) rx_hI t_X6_drop [] (kk_X6_drop_0 F) 52 0 [some (.ref x0), some (.int x1), some (.int x2), none, none, none] [] u := rfl
def f_X6_clash_0 (F : Nat × Nat) (x0 : Nat) (u : Option rx_H) : Option (Int32 × Option rx_H) :=
  (rx_gI u x0 2 5).bind fun v1 =>
  some (v1, u)
def f_X6_clash (F : Nat × Nat) (x0 : Nat) (u : Option rx_H) : Option (Int32 × Option rx_H) := f_X6_clash_0 F x0 u
def c_X6_clash {α : Type} (F : Nat × Nat) (as : List Value) (u : Option rx_H) (κ : rx_K α) : Option α := match as with
  | [.ref a0] => (f_X6_clash F a0 u).bind fun r => κ (some (.int r.1)) r.2
  | _ => none
noncomputable def C_X6_clash {α : Type} (F : Nat × Nat) : rx_Cl α := fun j as u κ => none
def t_X6_clash : List rx_E := [
  (0, .aload_n 0, 1, 0, 0, 0, 0, 0, []),
  (1, .getfield 46, 3, 2, 20, 140, 0, 0, []),
  (4, .ireturn, 1, 0, 0, 0, 0, 0, [])]
noncomputable def kk_X6_clash_0 (F : Nat × Nat) : Nat → rx_L → List Value → Option rx_H → Option (Int32 × Option rx_H) := fun t ls st u => none
set_option maxRecDepth 100000 in
theorem g_X6_clash_0 (F : Nat × Nat) (x0 : Nat) (u : Option rx_H) : f_X6_clash_0 F x0 u = rx_node (C_X6_clash F) rx_hI t_X6_clash [] (kk_X6_clash_0 F) 6 0 [some (.ref x0)] [] u := rfl
def f_X6_empty_29 (F : Nat × Nat) (x0 : Nat) (x1 : Int32) (s0 : Int32) (u : Option rx_H) : Option (Int32 × Option rx_H) :=
  (rx_gR u x0 2 2).bind fun v1 =>
  (rx_aR u v1 x1).bind fun v2 =>
  (rx_ck u v2 0).bind fun _ =>
  (f_X4_becomeNothing F v2 u).bind fun v3 =>
  some (s0, v3)
def f_X6_empty_0 (F : Nat × Nat) (x0 : Nat) (x1 : Int32) (u : Option rx_H) : Option (Int32 × Option rx_H) :=
  (rx_ck u x0 2).bind fun _ =>
  (f_X6_isPlace F x0 x1).bind fun v1 =>
  if v1 = 0 then
    some ((-1 : Int32), u)
  else
    (rx_gR u x0 2 2).bind fun v2 =>
    (rx_aR u v2 x1).bind fun v3 =>
    (rx_gI u v3 0 0).bind fun v4 =>
    if v4 = (-2 : Int32) then
      f_X6_empty_29 F x0 x1 (0 : Int32) u
    else
      f_X6_empty_29 F x0 x1 (1 : Int32) u
def f_X6_empty (F : Nat × Nat) (x0 : Nat) (x1 : Int32) (u : Option rx_H) : Option (Int32 × Option rx_H) := f_X6_empty_0 F x0 x1 u
def c_X6_empty {α : Type} (F : Nat × Nat) (as : List Value) (u : Option rx_H) (κ : rx_K α) : Option α := match as with
  | [.ref a0, .int a1] => (f_X6_empty F a0 a1 u).bind fun r => κ (some (.int r.1)) r.2
  | _ => none
noncomputable def C_X6_empty {α : Type} (F : Nat × Nat) : rx_Cl α := fun j as u κ => Bool.rec (motive := fun _ => Option α) (Bool.rec (motive := fun _ => Option α) (none) (c_X6_isPlace F as u κ) (Nat.beq j 102)) (c_X4_becomeNothing F as u κ) (Nat.beq j 62)
def t_X6_empty : List rx_E := [
  (0, .aload_n 0, 1, 0, 0, 0, 0, 0, []),
  (1, .iload_n 1, 1, 0, 0, 0, 0, 0, []),
  (2, .invokevirtual 49, 3, 102, 202, 158, 0, 0, []),
  (5, .ifCond .ne 5, 3, 10, 0, 0, 0, 0, []),
  (8, .iconst (-1), 1, 0, 0, 0, (-1), 0, []),
  (9, .ireturn, 1, 0, 0, 0, 0, 0, []),
  (10, .aload_n 0, 1, 0, 0, 0, 0, 0, []),
  (11, .getfield 24, 3, 2, 10, 137, 0, 0, []),
  (14, .iload_n 1, 1, 0, 0, 0, 0, 0, []),
  (15, .aaload, 1, 0, 0, 0, 0, 0, []),
  (16, .getfield 98, 3, 0, 0, 78, 0, 0, []),
  (19, .bipush (-2), 2, 0, 0, 0, (-2), 0, []),
  (21, .if_icmp .ne 7, 3, 28, 0, 0, 0, 0, []),
  (24, .iconst 0, 1, 0, 0, 0, 0, 0, []),
  (25, .goto 4, 3, 29, 0, 0, 0, 0, []),
  (28, .iconst 1, 1, 0, 0, 0, 1, 0, []),
  (29, .istore_n 2, 1, 0, 0, 0, 0, 0, []),
  (30, .aload_n 0, 1, 0, 0, 0, 0, 0, []),
  (31, .getfield 24, 3, 2, 10, 137, 0, 0, []),
  (34, .iload_n 1, 1, 0, 0, 0, 0, 0, []),
  (35, .aaload, 1, 0, 0, 0, 0, 0, []),
  (36, .invokevirtual 101, 3, 62, 1, 263, 0, 0, []),
  (39, .iload_n 2, 1, 0, 0, 0, 0, 0, []),
  (40, .ireturn, 1, 0, 0, 0, 0, 0, [])]
def n_X6_empty_29 (F : Nat × Nat) (ls : rx_L) (st : List Value) (u : Option rx_H) : Option (Int32 × Option rx_H) := match ls, st, u with
  | [some (.ref x0), some (.int x1), _], [.int s0], u => f_X6_empty_29 F x0 x1 s0 u
  | _, _, _ => none
noncomputable def kk_X6_empty_29 (F : Nat × Nat) : Nat → rx_L → List Value → Option rx_H → Option (Int32 × Option rx_H) := fun t ls st u => none
noncomputable def kk_X6_empty_0 (F : Nat × Nat) : Nat → rx_L → List Value → Option rx_H → Option (Int32 × Option rx_H) := fun t ls st u => Bool.rec (motive := fun _ => Option (Int32 × Option rx_H)) (none) (n_X6_empty_29 F ls st u) (Nat.beq t 29)
set_option maxRecDepth 100000 in
theorem g_X6_empty_29 (F : Nat × Nat) (x0 : Nat) (x1 : Int32) (s0 : Int32) (u : Option rx_H) : f_X6_empty_29 F x0 x1 s0 u = rx_node (C_X6_empty F) rx_hI t_X6_empty [29] (kk_X6_empty_29 F) 27 29 [some (.ref x0), some (.int x1), none] [.int s0] u := rfl
set_option maxRecDepth 100000 in
theorem g_X6_empty_0 (F : Nat × Nat) (x0 : Nat) (x1 : Int32) (u : Option rx_H) : f_X6_empty_0 F x0 x1 u = rx_node (C_X6_empty F) rx_hI t_X6_empty [29] (kk_X6_empty_0 F) 27 0 [some (.ref x0), some (.int x1), none] [] u := rfl
def f_X6_holds_0 (F : Nat × Nat) (x0 : Nat) (x1 : Int32) (u : Option rx_H) : Option (Int32 × Option rx_H) :=
  (rx_ck u x0 2).bind fun _ =>
  (f_X6_isPlace F x0 x1).bind fun v1 =>
  if v1 = 0 then
    some ((-1 : Int32), u)
  else
    (rx_gR u x0 2 2).bind fun v2 =>
    (rx_aR u v2 x1).bind fun v3 =>
    (rx_gI u v3 0 0).bind fun v4 =>
    some (v4, u)
def f_X6_holds (F : Nat × Nat) (x0 : Nat) (x1 : Int32) (u : Option rx_H) : Option (Int32 × Option rx_H) := f_X6_holds_0 F x0 x1 u
def c_X6_holds {α : Type} (F : Nat × Nat) (as : List Value) (u : Option rx_H) (κ : rx_K α) : Option α := match as with
  | [.ref a0, .int a1] => (f_X6_holds F a0 a1 u).bind fun r => κ (some (.int r.1)) r.2
  | _ => none
noncomputable def C_X6_holds {α : Type} (F : Nat × Nat) : rx_Cl α := fun j as u κ => Bool.rec (motive := fun _ => Option α) (none) (c_X6_isPlace F as u κ) (Nat.beq j 102)
def t_X6_holds : List rx_E := [
  (0, .aload_n 0, 1, 0, 0, 0, 0, 0, []),
  (1, .iload_n 1, 1, 0, 0, 0, 0, 0, []),
  (2, .invokevirtual 49, 3, 102, 202, 158, 0, 0, []),
  (5, .ifCond .eq 15, 3, 20, 0, 0, 0, 0, []),
  (8, .aload_n 0, 1, 0, 0, 0, 0, 0, []),
  (9, .getfield 24, 3, 2, 10, 137, 0, 0, []),
  (12, .iload_n 1, 1, 0, 0, 0, 0, 0, []),
  (13, .aaload, 1, 0, 0, 0, 0, 0, []),
  (14, .getfield 98, 3, 0, 0, 78, 0, 0, []),
  (17, .goto 4, 3, 21, 0, 0, 0, 0, []),
  (20, .iconst (-1), 1, 0, 0, 0, (-1), 0, []),
  (21, .ireturn, 1, 0, 0, 0, 0, 0, [])]
noncomputable def kk_X6_holds_0 (F : Nat × Nat) : Nat → rx_L → List Value → Option rx_H → Option (Int32 × Option rx_H) := fun t ls st u => none
set_option maxRecDepth 100000 in
theorem g_X6_holds_0 (F : Nat × Nat) (x0 : Nat) (x1 : Int32) (u : Option rx_H) : f_X6_holds_0 F x0 x1 u = rx_node (C_X6_holds F) rx_hI t_X6_holds [] (kk_X6_holds_0 F) 15 0 [some (.ref x0), some (.int x1)] [] u := rfl
def f_X6_count_17 (F : Nat × Nat) (x0 : Nat) (x1 : Int32) (x2 : Int32) (s0 : Nat) (s1 : Int32) (s2 : Int32) (u : Option rx_H) : Option (Int32 × Option rx_H) :=
  (rx_ck u s0 2).bind fun _ =>
  (f_X6_familyRefusal F s0 s1 s2 u).bind fun v1 =>
  if v1.1 = 0 then
    (rx_gR v1.2 x0 2 2).bind fun v2 =>
    (rx_aR v1.2 v2 x1).bind fun v3 =>
    if x2 = 0 then
      (rx_gJ v1.2 v3 0 2).bind fun v4 =>
      (f_X0_size F v4).bind fun v5 =>
      some (v5, v1.2)
    else if x2 = 1 then
      (rx_gI v1.2 v3 0 0).bind fun v6 =>
      (f_X1_hasNumber F v6).bind fun v7 =>
      if v7 = 0 then
        some ((-2 : Int32), v1.2)
      else
        (rx_gI v1.2 v3 0 1).bind fun v8 =>
        some (v8, v1.2)
    else if x2 = 2 then
      (rx_gI v1.2 v3 0 0).bind fun v9 =>
      if v9 = (5 : Int32) then
        (rx_gJ v1.2 v3 0 3).bind fun v10 =>
        (f_X0_size F v10).bind fun v11 =>
        some (v11, v1.2)
      else
        some ((-2 : Int32), v1.2)
    else 
      (rx_gJ v1.2 v3 0 2).bind fun v12 =>
      (rx_gR v1.2 x0 2 3).bind fun v13 =>
      (rx_aJ v1.2 v13 (x2 - (3 : Int32))).bind fun v14 =>
      (f_X0_size F (v12 &&& v14)).bind fun v15 =>
      some (v15, v1.2)
  else
    some (v1.1, v1.2)
def f_X6_count_0 (F : Nat × Nat) (x0 : Nat) (x1 : Int32) (x2 : Int32) (u : Option rx_H) : Option (Int32 × Option rx_H) :=
  if x2 < 0 then
    f_X6_count_17 F x0 x1 x2 x0 x1 (0 : Int32) u
  else
    if (9 : Int32) < x2 then
      f_X6_count_17 F x0 x1 x2 x0 x1 (0 : Int32) u
    else
      f_X6_count_17 F x0 x1 x2 x0 x1 (1 : Int32) u
def f_X6_count (F : Nat × Nat) (x0 : Nat) (x1 : Int32) (x2 : Int32) (u : Option rx_H) : Option (Int32 × Option rx_H) := f_X6_count_0 F x0 x1 x2 u
def c_X6_count {α : Type} (F : Nat × Nat) (as : List Value) (u : Option rx_H) (κ : rx_K α) : Option α := match as with
  | [.ref a0, .int a1, .int a2] => (f_X6_count F a0 a1 a2 u).bind fun r => κ (some (.int r.1)) r.2
  | _ => none
noncomputable def C_X6_count {α : Type} (F : Nat × Nat) : rx_Cl α := fun j as u κ => Bool.rec (motive := fun _ => Option α) (Bool.rec (motive := fun _ => Option α) (Bool.rec (motive := fun _ => Option α) (none) (c_X6_familyRefusal F as u κ) (Nat.beq j 92)) (c_X1_hasNumber F as u κ) (Nat.beq j 38)) (c_X0_size F as u κ) (Nat.beq j 28)
def t_X6_count : List rx_E := [
  (0, .aload_n 0, 1, 0, 0, 0, 0, 0, []),
  (1, .iload_n 1, 1, 0, 0, 0, 0, 0, []),
  (2, .iload_n 2, 1, 0, 0, 0, 0, 0, []),
  (3, .ifCond .lt 13, 3, 16, 0, 0, 0, 0, []),
  (6, .iload_n 2, 1, 0, 0, 0, 0, 0, []),
  (7, .bipush 9, 2, 0, 0, 0, 9, 0, []),
  (9, .if_icmp .gt 7, 3, 16, 0, 0, 0, 0, []),
  (12, .iconst 1, 1, 0, 0, 0, 1, 0, []),
  (13, .goto 4, 3, 17, 0, 0, 0, 0, []),
  (16, .iconst 0, 1, 0, 0, 0, 0, 0, []),
  (17, .invokevirtual 61, 3, 92, 203, 194, 0, 0, []),
  (20, .istore_n 3, 1, 0, 0, 0, 0, 0, []),
  (21, .iload_n 3, 1, 0, 0, 0, 0, 0, []),
  (22, .ifCond .eq 5, 3, 27, 0, 0, 0, 0, []),
  (25, .iload_n 3, 1, 0, 0, 0, 0, 0, []),
  (26, .ireturn, 1, 0, 0, 0, 0, 0, []),
  (27, .aload_n 0, 1, 0, 0, 0, 0, 0, []),
  (28, .getfield 24, 3, 2, 10, 137, 0, 0, []),
  (31, .iload_n 1, 1, 0, 0, 0, 0, 0, []),
  (32, .aaload, 1, 0, 0, 0, 0, 0, []),
  (33, .astore 4, 2, 0, 0, 0, 0, 0, []),
  (35, .iload_n 2, 1, 0, 0, 0, 0, 0, []),
  (36, .tableswitch 82 0 2 #[28, 37, 59], 28, 118, 0, 0, 0, 0, [(0, 64), (1, 73), (2, 95)]),
  (64, .aload 4, 2, 0, 0, 0, 0, 0, []),
  (66, .getfield 65, 3, 0, 9, 84, 0, 0, []),
  (69, .invokestatic 80, 3, 28, 1, 181, 0, 0, []),
  (72, .ireturn, 1, 0, 0, 0, 0, 0, []),
  (73, .aload 4, 2, 0, 0, 0, 0, 0, []),
  (75, .getfield 98, 3, 0, 0, 78, 0, 0, []),
  (78, .invokestatic 104, 3, 38, 1, 166, 0, 0, []),
  (81, .ifCond .eq 11, 3, 92, 0, 0, 0, 0, []),
  (84, .aload 4, 2, 0, 0, 0, 0, 0, []),
  (86, .getfield 107, 3, 0, 4, 81, 0, 0, []),
  (89, .goto 5, 3, 94, 0, 0, 0, 0, []),
  (92, .bipush (-2), 2, 0, 0, 0, (-2), 0, []),
  (94, .ireturn, 1, 0, 0, 0, 0, 0, []),
  (95, .aload 4, 2, 0, 0, 0, 0, 0, []),
  (97, .getfield 98, 3, 0, 0, 78, 0, 0, []),
  (100, .iconst 5, 1, 0, 0, 0, 5, 0, []),
  (101, .if_icmp .ne 14, 3, 115, 0, 0, 0, 0, []),
  (104, .aload 4, 2, 0, 0, 0, 0, 0, []),
  (106, .getfield 110, 3, 0, 13, 87, 0, 0, []),
  (109, .invokestatic 80, 3, 28, 1, 181, 0, 0, []),
  (112, .goto 5, 3, 117, 0, 0, 0, 0, []),
  (115, .bipush (-2), 2, 0, 0, 0, (-2), 0, []),
  (117, .ireturn, 1, 0, 0, 0, 0, 0, []),
  (118, .aload 4, 2, 0, 0, 0, 0, 0, []),
  (120, .getfield 65, 3, 0, 9, 84, 0, 0, []),
  (123, .aload_n 0, 1, 0, 0, 0, 0, 0, []),
  (124, .getfield 29, 3, 2, 14, 138, 0, 0, []),
  (127, .iload_n 2, 1, 0, 0, 0, 0, 0, []),
  (128, .iconst 3, 1, 0, 0, 0, 3, 0, []),
  (129, .isub, 1, 0, 0, 0, 0, 0, []),
  (130, .laload, 1, 0, 0, 0, 0, 0, []),
  (131, .land, 1, 0, 0, 0, 0, 0, []),
  (132, .invokestatic 80, 3, 28, 1, 181, 0, 0, []),
  (135, .ireturn, 1, 0, 0, 0, 0, 0, [])]
def n_X6_count_17 (F : Nat × Nat) (ls : rx_L) (st : List Value) (u : Option rx_H) : Option (Int32 × Option rx_H) := match ls, st, u with
  | [some (.ref x0), some (.int x1), some (.int x2), _, _], [.int s2, .int s1, .ref s0], u => f_X6_count_17 F x0 x1 x2 s0 s1 s2 u
  | _, _, _ => none
noncomputable def kk_X6_count_17 (F : Nat × Nat) : Nat → rx_L → List Value → Option rx_H → Option (Int32 × Option rx_H) := fun t ls st u => none
noncomputable def kk_X6_count_0 (F : Nat × Nat) : Nat → rx_L → List Value → Option rx_H → Option (Int32 × Option rx_H) := fun t ls st u => Bool.rec (motive := fun _ => Option (Int32 × Option rx_H)) (none) (n_X6_count_17 F ls st u) (Nat.beq t 17)
set_option maxRecDepth 100000 in
theorem g_X6_count_17 (F : Nat × Nat) (x0 : Nat) (x1 : Int32) (x2 : Int32) (s0 : Nat) (s1 : Int32) (s2 : Int32) (u : Option rx_H) : f_X6_count_17 F x0 x1 x2 s0 s1 s2 u = rx_node (C_X6_count F) rx_hI t_X6_count [17] (kk_X6_count_17 F) 60 17 [some (.ref x0), some (.int x1), some (.int x2), none, none] [.int s2, .int s1, .ref s0] u := rfl
set_option maxRecDepth 100000 in
theorem g_X6_count_0 (F : Nat × Nat) (x0 : Nat) (x1 : Int32) (x2 : Int32) (u : Option rx_H) : f_X6_count_0 F x0 x1 x2 u = rx_node (C_X6_count F) rx_hI t_X6_count [17] (kk_X6_count_0 F) 60 0 [some (.ref x0), some (.int x1), some (.int x2), none, none] [] u := rfl
def f_X6_has_0 (F : Nat × Nat) (x0 : Nat) (x1 : Int32) (x2 : Int32) (u : Option rx_H) : Option (Int32 × Option rx_H) :=
  (rx_ck u x0 2).bind fun _ =>
  (f_X6_isSet F x0 x2 u).bind fun v1 =>
  (rx_ck v1.2 x0 2).bind fun _ =>
  (f_X6_familyRefusal F x0 x1 v1.1 v1.2).bind fun v2 =>
  if v2.1 = 0 then
    (rx_gR v2.2 x0 2 2).bind fun v3 =>
    (rx_aR v2.2 v3 x1).bind fun v4 =>
    (rx_gJ v2.2 v4 0 2).bind fun v5 =>
    (f_X0_holdsSet F v5 x2).bind fun v6 =>
    if v6 = 0 then
      some ((0 : Int32), v2.2)
    else
      some ((1 : Int32), v2.2)
  else
    some (v2.1, v2.2)
def f_X6_has (F : Nat × Nat) (x0 : Nat) (x1 : Int32) (x2 : Int32) (u : Option rx_H) : Option (Int32 × Option rx_H) := f_X6_has_0 F x0 x1 x2 u
def c_X6_has {α : Type} (F : Nat × Nat) (as : List Value) (u : Option rx_H) (κ : rx_K α) : Option α := match as with
  | [.ref a0, .int a1, .int a2] => (f_X6_has F a0 a1 a2 u).bind fun r => κ (some (.int r.1)) r.2
  | _ => none
noncomputable def C_X6_has {α : Type} (F : Nat × Nat) : rx_Cl α := fun j as u κ => Bool.rec (motive := fun _ => Option α) (Bool.rec (motive := fun _ => Option α) (Bool.rec (motive := fun _ => Option α) (none) (c_X6_isSet F as u κ) (Nat.beq j 103)) (c_X6_familyRefusal F as u κ) (Nat.beq j 92)) (c_X0_holdsSet F as u κ) (Nat.beq j 13)
def t_X6_has : List rx_E := [
  (0, .aload_n 0, 1, 0, 0, 0, 0, 0, []),
  (1, .iload_n 1, 1, 0, 0, 0, 0, 0, []),
  (2, .aload_n 0, 1, 0, 0, 0, 0, 0, []),
  (3, .iload_n 2, 1, 0, 0, 0, 0, 0, []),
  (4, .invokevirtual 73, 3, 103, 202, 206, 0, 0, []),
  (7, .invokevirtual 61, 3, 92, 203, 194, 0, 0, []),
  (10, .istore_n 3, 1, 0, 0, 0, 0, 0, []),
  (11, .iload_n 3, 1, 0, 0, 0, 0, 0, []),
  (12, .ifCond .eq 5, 3, 17, 0, 0, 0, 0, []),
  (15, .iload_n 3, 1, 0, 0, 0, 0, 0, []),
  (16, .ireturn, 1, 0, 0, 0, 0, 0, []),
  (17, .aload_n 0, 1, 0, 0, 0, 0, 0, []),
  (18, .getfield 24, 3, 2, 10, 137, 0, 0, []),
  (21, .iload_n 1, 1, 0, 0, 0, 0, 0, []),
  (22, .aaload, 1, 0, 0, 0, 0, 0, []),
  (23, .getfield 65, 3, 0, 9, 84, 0, 0, []),
  (26, .iload_n 2, 1, 0, 0, 0, 0, 0, []),
  (27, .invokestatic 86, 3, 13, 2, 250, 0, 0, []),
  (30, .ifCond .eq 7, 3, 37, 0, 0, 0, 0, []),
  (33, .iconst 1, 1, 0, 0, 0, 1, 0, []),
  (34, .goto 4, 3, 38, 0, 0, 0, 0, []),
  (37, .iconst 0, 1, 0, 0, 0, 0, 0, []),
  (38, .ireturn, 1, 0, 0, 0, 0, 0, [])]
noncomputable def kk_X6_has_0 (F : Nat × Nat) : Nat → rx_L → List Value → Option rx_H → Option (Int32 × Option rx_H) := fun t ls st u => none
set_option maxRecDepth 100000 in
theorem g_X6_has_0 (F : Nat × Nat) (x0 : Nat) (x1 : Int32) (x2 : Int32) (u : Option rx_H) : f_X6_has_0 F x0 x1 x2 u = rx_node (C_X6_has F) rx_hI t_X6_has [] (kk_X6_has_0 F) 26 0 [some (.ref x0), some (.int x1), some (.int x2), none] [] u := rfl
def f_X6_set_11 (F : Nat × Nat) (x0 : Nat) (x1 : Int32) (x2 : Int32) (s0 : Nat) (s1 : Int32) (s2 : Int32) (u : Option rx_H) : Option (Int32 × Option rx_H) :=
  (rx_ck u s0 2).bind fun _ =>
  (f_X6_familyRefusal F s0 s1 s2 u).bind fun v1 =>
  if v1.1 = 0 then
    (rx_gR v1.2 x0 2 2).bind fun v2 =>
    (rx_aR v1.2 v2 x1).bind fun v3 =>
    (rx_gJ v1.2 v3 0 2).bind fun v4 =>
    (f_X0_setAt F v4 x2).bind fun v5 =>
    some (v5, v1.2)
  else
    some (v1.1, v1.2)
def f_X6_set_0 (F : Nat × Nat) (x0 : Nat) (x1 : Int32) (x2 : Int32) (u : Option rx_H) : Option (Int32 × Option rx_H) :=
  if x2 < 0 then
    f_X6_set_11 F x0 x1 x2 x0 x1 (0 : Int32) u
  else
    f_X6_set_11 F x0 x1 x2 x0 x1 (1 : Int32) u
def f_X6_set (F : Nat × Nat) (x0 : Nat) (x1 : Int32) (x2 : Int32) (u : Option rx_H) : Option (Int32 × Option rx_H) := f_X6_set_0 F x0 x1 x2 u
def c_X6_set {α : Type} (F : Nat × Nat) (as : List Value) (u : Option rx_H) (κ : rx_K α) : Option α := match as with
  | [.ref a0, .int a1, .int a2] => (f_X6_set F a0 a1 a2 u).bind fun r => κ (some (.int r.1)) r.2
  | _ => none
noncomputable def C_X6_set {α : Type} (F : Nat × Nat) : rx_Cl α := fun j as u κ => Bool.rec (motive := fun _ => Option α) (Bool.rec (motive := fun _ => Option α) (none) (c_X6_familyRefusal F as u κ) (Nat.beq j 92)) (c_X0_setAt F as u κ) (Nat.beq j 26)
def t_X6_set : List rx_E := [
  (0, .aload_n 0, 1, 0, 0, 0, 0, 0, []),
  (1, .iload_n 1, 1, 0, 0, 0, 0, 0, []),
  (2, .iload_n 2, 1, 0, 0, 0, 0, 0, []),
  (3, .ifCond .lt 7, 3, 10, 0, 0, 0, 0, []),
  (6, .iconst 1, 1, 0, 0, 0, 1, 0, []),
  (7, .goto 4, 3, 11, 0, 0, 0, 0, []),
  (10, .iconst 0, 1, 0, 0, 0, 0, 0, []),
  (11, .invokevirtual 61, 3, 92, 203, 194, 0, 0, []),
  (14, .istore_n 3, 1, 0, 0, 0, 0, 0, []),
  (15, .iload_n 3, 1, 0, 0, 0, 0, 0, []),
  (16, .ifCond .eq 5, 3, 21, 0, 0, 0, 0, []),
  (19, .iload_n 3, 1, 0, 0, 0, 0, 0, []),
  (20, .ireturn, 1, 0, 0, 0, 0, 0, []),
  (21, .aload_n 0, 1, 0, 0, 0, 0, 0, []),
  (22, .getfield 24, 3, 2, 10, 137, 0, 0, []),
  (25, .iload_n 1, 1, 0, 0, 0, 0, 0, []),
  (26, .aaload, 1, 0, 0, 0, 0, 0, []),
  (27, .getfield 65, 3, 0, 9, 84, 0, 0, []),
  (30, .iload_n 2, 1, 0, 0, 0, 0, 0, []),
  (31, .invokestatic 113, 3, 26, 2, 283, 0, 0, []),
  (34, .ireturn, 1, 0, 0, 0, 0, 0, [])]
def n_X6_set_11 (F : Nat × Nat) (ls : rx_L) (st : List Value) (u : Option rx_H) : Option (Int32 × Option rx_H) := match ls, st, u with
  | [some (.ref x0), some (.int x1), some (.int x2), _], [.int s2, .int s1, .ref s0], u => f_X6_set_11 F x0 x1 x2 s0 s1 s2 u
  | _, _, _ => none
noncomputable def kk_X6_set_11 (F : Nat × Nat) : Nat → rx_L → List Value → Option rx_H → Option (Int32 × Option rx_H) := fun t ls st u => none
noncomputable def kk_X6_set_0 (F : Nat × Nat) : Nat → rx_L → List Value → Option rx_H → Option (Int32 × Option rx_H) := fun t ls st u => Bool.rec (motive := fun _ => Option (Int32 × Option rx_H)) (none) (n_X6_set_11 F ls st u) (Nat.beq t 11)
set_option maxRecDepth 100000 in
theorem g_X6_set_11 (F : Nat × Nat) (x0 : Nat) (x1 : Int32) (x2 : Int32) (s0 : Nat) (s1 : Int32) (s2 : Int32) (u : Option rx_H) : f_X6_set_11 F x0 x1 x2 s0 s1 s2 u = rx_node (C_X6_set F) rx_hI t_X6_set [11] (kk_X6_set_11 F) 24 11 [some (.ref x0), some (.int x1), some (.int x2), none] [.int s2, .int s1, .ref s0] u := rfl
set_option maxRecDepth 100000 in
theorem g_X6_set_0 (F : Nat × Nat) (x0 : Nat) (x1 : Int32) (x2 : Int32) (u : Option rx_H) : f_X6_set_0 F x0 x1 x2 u = rx_node (C_X6_set F) rx_hI t_X6_set [11] (kk_X6_set_0 F) 24 0 [some (.ref x0), some (.int x1), some (.int x2), none] [] u := rfl
def f_X6_is_0 (F : Nat × Nat) (x0 : Nat) (x1 : Int32) (x2 : Int32) (x3 : Int32) (u : Option rx_H) : Option (Int32 × Option rx_H) :=
  (rx_ck u x0 2).bind fun _ =>
  (f_X6_isKind F x0 x2 x3 u).bind fun v1 =>
  (rx_ck v1.2 x0 2).bind fun _ =>
  (f_X6_familyRefusal F x0 x1 v1.1 v1.2).bind fun v2 =>
  if v2.1 = 0 then
    (rx_gR v2.2 x0 2 2).bind fun v3 =>
    (rx_aR v2.2 v3 x1).bind fun v4 =>
    (rx_gJ v2.2 v4 0 2).bind fun v5 =>
    (f_X1_familyClash F v5 x2 x3).bind fun v6 =>
    if v6 = (-2 : Int32) then
      some ((1 : Int32), v2.2)
    else
      (rx_p v2.2 x0 2 5 (.int v6)).bind fun v7 =>
      some ((0 : Int32), v7)
  else
    some (v2.1, v2.2)
def f_X6_is (F : Nat × Nat) (x0 : Nat) (x1 : Int32) (x2 : Int32) (x3 : Int32) (u : Option rx_H) : Option (Int32 × Option rx_H) := f_X6_is_0 F x0 x1 x2 x3 u
def c_X6_is {α : Type} (F : Nat × Nat) (as : List Value) (u : Option rx_H) (κ : rx_K α) : Option α := match as with
  | [.ref a0, .int a1, .int a2, .int a3] => (f_X6_is F a0 a1 a2 a3 u).bind fun r => κ (some (.int r.1)) r.2
  | _ => none
noncomputable def C_X6_is {α : Type} (F : Nat × Nat) : rx_Cl α := fun j as u κ => Bool.rec (motive := fun _ => Option α) (Bool.rec (motive := fun _ => Option α) (Bool.rec (motive := fun _ => Option α) (none) (c_X6_isKind F as u κ) (Nat.beq j 101)) (c_X6_familyRefusal F as u κ) (Nat.beq j 92)) (c_X1_familyClash F as u κ) (Nat.beq j 35)
def t_X6_is : List rx_E := [
  (0, .aload_n 0, 1, 0, 0, 0, 0, 0, []),
  (1, .iload_n 1, 1, 0, 0, 0, 0, 0, []),
  (2, .aload_n 0, 1, 0, 0, 0, 0, 0, []),
  (3, .iload_n 2, 1, 0, 0, 0, 0, 0, []),
  (4, .iload_n 3, 1, 0, 0, 0, 0, 0, []),
  (5, .invokevirtual 53, 3, 101, 203, 162, 0, 0, []),
  (8, .invokevirtual 61, 3, 92, 203, 194, 0, 0, []),
  (11, .istore 4, 2, 0, 0, 0, 0, 0, []),
  (13, .iload 4, 2, 0, 0, 0, 0, 0, []),
  (15, .ifCond .eq 6, 3, 21, 0, 0, 0, 0, []),
  (18, .iload 4, 2, 0, 0, 0, 0, 0, []),
  (20, .ireturn, 1, 0, 0, 0, 0, 0, []),
  (21, .aload_n 0, 1, 0, 0, 0, 0, 0, []),
  (22, .getfield 24, 3, 2, 10, 137, 0, 0, []),
  (25, .iload_n 1, 1, 0, 0, 0, 0, 0, []),
  (26, .aaload, 1, 0, 0, 0, 0, 0, []),
  (27, .getfield 65, 3, 0, 9, 84, 0, 0, []),
  (30, .iload_n 2, 1, 0, 0, 0, 0, 0, []),
  (31, .iload_n 3, 1, 0, 0, 0, 0, 0, []),
  (32, .invokestatic 117, 3, 35, 3, 290, 0, 0, []),
  (35, .istore 5, 2, 0, 0, 0, 0, 0, []),
  (37, .iload 5, 2, 0, 0, 0, 0, 0, []),
  (39, .bipush (-2), 2, 0, 0, 0, (-2), 0, []),
  (41, .if_icmp .ne 5, 3, 46, 0, 0, 0, 0, []),
  (44, .iconst 1, 1, 0, 0, 0, 1, 0, []),
  (45, .ireturn, 1, 0, 0, 0, 0, 0, []),
  (46, .aload_n 0, 1, 0, 0, 0, 0, 0, []),
  (47, .iload 5, 2, 0, 0, 0, 0, 0, []),
  (49, .putfield 46, 3, 2, 20, 140, 0, 0, []),
  (52, .iconst 0, 1, 0, 0, 0, 0, 0, []),
  (53, .ireturn, 1, 0, 0, 0, 0, 0, [])]
noncomputable def kk_X6_is_0 (F : Nat × Nat) : Nat → rx_L → List Value → Option rx_H → Option (Int32 × Option rx_H) := fun t ls st u => none
set_option maxRecDepth 100000 in
theorem g_X6_is_0 (F : Nat × Nat) (x0 : Nat) (x1 : Int32) (x2 : Int32) (x3 : Int32) (u : Option rx_H) : f_X6_is_0 F x0 x1 x2 x3 u = rx_node (C_X6_is F) rx_hI t_X6_is [] (kk_X6_is_0 F) 34 0 [some (.ref x0), some (.int x1), some (.int x2), some (.int x3), none, none] [] u := rfl
def f_X6_keepBeside_66 (F : Nat × Nat) (x3 : Int64) (s0 : Nat) (s1 : Int32) (s2 : Int32) (s3 : Int32) (u : Option rx_H) : Option (Int32 × Option rx_H) :=
  (rx_ck u s0 2).bind fun _ =>
  (f_X6_keep F s0 s1 s2 s3 x3 u).bind fun v1 =>
  some (v1.1, v1.2)
def f_X6_keepBeside_55 (F : Nat × Nat) (x3 : Int64) (x6 : Int32) (x7 : Int32) (s0 : Nat) (s1 : Int32) (s2 : Int32) (u : Option rx_H) : Option (Int32 × Option rx_H) :=
  if x7 = 0 then
    f_X6_keepBeside_66 F x3 s0 s1 s2 (0 : Int32) u
  else
    f_X6_keepBeside_66 F x3 s0 s1 s2 x6 u
def f_X6_keepBeside_40 (F : Nat × Nat) (x0 : Nat) (x3 : Int64) (x5 : Int32) (x6 : Int32) (s0 : Int32) (u : Option rx_H) : Option (Int32 × Option rx_H) :=
  if s0 = 0 then
    f_X6_keepBeside_55 F x3 x6 s0 x0 x5 (0 : Int32) u
  else
    f_X6_keepBeside_55 F x3 x6 s0 x0 x5 (4 : Int32) u
def f_X6_keepBeside_0 (F : Nat × Nat) (x0 : Nat) (x1 : Int32) (x2 : Int32) (x3 : Int64) (x5 : Int32) (u : Option rx_H) : Option (Int32 × Option rx_H) :=
  (rx_gR u x0 2 2).bind fun v1 =>
  (rx_aR u v1 x1).bind fun v2 =>
  (rx_gI u v2 0 1).bind fun v3 =>
  (rx_gR u x0 2 2).bind fun v4 =>
  (rx_aR u v4 x1).bind fun v5 =>
  (rx_gI u v5 0 0).bind fun v6 =>
  if v6 = (4 : Int32) then
    (rx_ck u x0 2).bind fun _ =>
    (f_X6_isSize F x0 (v3 + x2) u).bind fun v7 =>
    if v7.1 = 0 then
      f_X6_keepBeside_40 F x0 x3 x5 (v3 + x2) (0 : Int32) v7.2
    else
      f_X6_keepBeside_40 F x0 x3 x5 (v3 + x2) (1 : Int32) v7.2
  else
    f_X6_keepBeside_40 F x0 x3 x5 (v3 + x2) (0 : Int32) u
def f_X6_keepBeside (F : Nat × Nat) (x0 : Nat) (x1 : Int32) (x2 : Int32) (x3 : Int64) (x5 : Int32) (u : Option rx_H) : Option (Int32 × Option rx_H) := f_X6_keepBeside_0 F x0 x1 x2 x3 x5 u
def c_X6_keepBeside {α : Type} (F : Nat × Nat) (as : List Value) (u : Option rx_H) (κ : rx_K α) : Option α := match as with
  | [.ref a0, .int a1, .int a2, .long a3, .int a4] => (f_X6_keepBeside F a0 a1 a2 a3 a4 u).bind fun r => κ (some (.int r.1)) r.2
  | _ => none
noncomputable def C_X6_keepBeside {α : Type} (F : Nat × Nat) : rx_Cl α := fun j as u κ => Bool.rec (motive := fun _ => Option α) (Bool.rec (motive := fun _ => Option α) (none) (c_X6_keep F as u κ) (Nat.beq j 106)) (c_X6_isSize F as u κ) (Nat.beq j 104)
def t_X6_keepBeside : List rx_E := [
  (0, .aload_n 0, 1, 0, 0, 0, 0, 0, []),
  (1, .getfield 24, 3, 2, 10, 137, 0, 0, []),
  (4, .iload_n 1, 1, 0, 0, 0, 0, 0, []),
  (5, .aaload, 1, 0, 0, 0, 0, 0, []),
  (6, .getfield 107, 3, 0, 4, 81, 0, 0, []),
  (9, .iload_n 2, 1, 0, 0, 0, 0, 0, []),
  (10, .iadd, 1, 0, 0, 0, 0, 0, []),
  (11, .istore 6, 2, 0, 0, 0, 0, 0, []),
  (13, .aload_n 0, 1, 0, 0, 0, 0, 0, []),
  (14, .getfield 24, 3, 2, 10, 137, 0, 0, []),
  (17, .iload_n 1, 1, 0, 0, 0, 0, 0, []),
  (18, .aaload, 1, 0, 0, 0, 0, 0, []),
  (19, .getfield 98, 3, 0, 0, 78, 0, 0, []),
  (22, .iconst 4, 1, 0, 0, 0, 4, 0, []),
  (23, .if_icmp .ne 16, 3, 39, 0, 0, 0, 0, []),
  (26, .aload_n 0, 1, 0, 0, 0, 0, 0, []),
  (27, .iload 6, 2, 0, 0, 0, 0, 0, []),
  (29, .invokevirtual 172, 3, 104, 202, 169, 0, 0, []),
  (32, .ifCond .eq 7, 3, 39, 0, 0, 0, 0, []),
  (35, .iconst 1, 1, 0, 0, 0, 1, 0, []),
  (36, .goto 4, 3, 40, 0, 0, 0, 0, []),
  (39, .iconst 0, 1, 0, 0, 0, 0, 0, []),
  (40, .istore 7, 2, 0, 0, 0, 0, 0, []),
  (42, .aload_n 0, 1, 0, 0, 0, 0, 0, []),
  (43, .iload 5, 2, 0, 0, 0, 0, 0, []),
  (45, .iload 7, 2, 0, 0, 0, 0, 0, []),
  (47, .ifCond .eq 7, 3, 54, 0, 0, 0, 0, []),
  (50, .iconst 4, 1, 0, 0, 0, 4, 0, []),
  (51, .goto 4, 3, 55, 0, 0, 0, 0, []),
  (54, .iconst 0, 1, 0, 0, 0, 0, 0, []),
  (55, .iload 7, 2, 0, 0, 0, 0, 0, []),
  (57, .ifCond .eq 8, 3, 65, 0, 0, 0, 0, []),
  (60, .iload 6, 2, 0, 0, 0, 0, 0, []),
  (62, .goto 4, 3, 66, 0, 0, 0, 0, []),
  (65, .iconst 0, 1, 0, 0, 0, 0, 0, []),
  (66, .lload_n 3, 1, 0, 0, 0, 0, 0, []),
  (67, .invokevirtual 57, 3, 106, 205, 173, 0, 0, []),
  (70, .ireturn, 1, 0, 0, 0, 0, 0, [])]
def n_X6_keepBeside_40 (F : Nat × Nat) (ls : rx_L) (st : List Value) (u : Option rx_H) : Option (Int32 × Option rx_H) := match ls, st, u with
  | [some (.ref x0), _, _, some (.long x3), _, some (.int x5), some (.int x6), _], [.int s0], u => f_X6_keepBeside_40 F x0 x3 x5 x6 s0 u
  | _, _, _ => none
def n_X6_keepBeside_55 (F : Nat × Nat) (ls : rx_L) (st : List Value) (u : Option rx_H) : Option (Int32 × Option rx_H) := match ls, st, u with
  | [_, _, _, some (.long x3), _, _, some (.int x6), some (.int x7)], [.int s2, .int s1, .ref s0], u => f_X6_keepBeside_55 F x3 x6 x7 s0 s1 s2 u
  | _, _, _ => none
def n_X6_keepBeside_66 (F : Nat × Nat) (ls : rx_L) (st : List Value) (u : Option rx_H) : Option (Int32 × Option rx_H) := match ls, st, u with
  | [_, _, _, some (.long x3), _, _, _, _], [.int s3, .int s2, .int s1, .ref s0], u => f_X6_keepBeside_66 F x3 s0 s1 s2 s3 u
  | _, _, _ => none
noncomputable def kk_X6_keepBeside_66 (F : Nat × Nat) : Nat → rx_L → List Value → Option rx_H → Option (Int32 × Option rx_H) := fun t ls st u => none
noncomputable def kk_X6_keepBeside_55 (F : Nat × Nat) : Nat → rx_L → List Value → Option rx_H → Option (Int32 × Option rx_H) := fun t ls st u => Bool.rec (motive := fun _ => Option (Int32 × Option rx_H)) (none) (n_X6_keepBeside_66 F ls st u) (Nat.beq t 66)
noncomputable def kk_X6_keepBeside_40 (F : Nat × Nat) : Nat → rx_L → List Value → Option rx_H → Option (Int32 × Option rx_H) := fun t ls st u => Bool.rec (motive := fun _ => Option (Int32 × Option rx_H)) (none) (n_X6_keepBeside_55 F ls st u) (Nat.beq t 55)
noncomputable def kk_X6_keepBeside_0 (F : Nat × Nat) : Nat → rx_L → List Value → Option rx_H → Option (Int32 × Option rx_H) := fun t ls st u => Bool.rec (motive := fun _ => Option (Int32 × Option rx_H)) (none) (n_X6_keepBeside_40 F ls st u) (Nat.beq t 40)
set_option maxRecDepth 100000 in
theorem g_X6_keepBeside_66 (F : Nat × Nat) (x3 : Int64) (s0 : Nat) (s1 : Int32) (s2 : Int32) (s3 : Int32) (u : Option rx_H) : f_X6_keepBeside_66 F x3 s0 s1 s2 s3 u = rx_node (C_X6_keepBeside F) rx_hI t_X6_keepBeside [40, 55, 66] (kk_X6_keepBeside_66 F) 41 66 [none, none, none, some (.long x3), none, none, none, none] [.int s3, .int s2, .int s1, .ref s0] u := rfl
set_option maxRecDepth 100000 in
theorem g_X6_keepBeside_55 (F : Nat × Nat) (x3 : Int64) (x6 : Int32) (x7 : Int32) (s0 : Nat) (s1 : Int32) (s2 : Int32) (u : Option rx_H) : f_X6_keepBeside_55 F x3 x6 x7 s0 s1 s2 u = rx_node (C_X6_keepBeside F) rx_hI t_X6_keepBeside [40, 55, 66] (kk_X6_keepBeside_55 F) 41 55 [none, none, none, some (.long x3), none, none, some (.int x6), some (.int x7)] [.int s2, .int s1, .ref s0] u := rfl
set_option maxRecDepth 100000 in
theorem g_X6_keepBeside_40 (F : Nat × Nat) (x0 : Nat) (x3 : Int64) (x5 : Int32) (x6 : Int32) (s0 : Int32) (u : Option rx_H) : f_X6_keepBeside_40 F x0 x3 x5 x6 s0 u = rx_node (C_X6_keepBeside F) rx_hI t_X6_keepBeside [40, 55, 66] (kk_X6_keepBeside_40 F) 41 40 [some (.ref x0), none, none, some (.long x3), none, some (.int x5), some (.int x6), none] [.int s0] u := rfl
set_option maxRecDepth 100000 in
theorem g_X6_keepBeside_0 (F : Nat × Nat) (x0 : Nat) (x1 : Int32) (x2 : Int32) (x3 : Int64) (x5 : Int32) (u : Option rx_H) : f_X6_keepBeside_0 F x0 x1 x2 x3 x5 u = rx_node (C_X6_keepBeside F) rx_hI t_X6_keepBeside [40, 55, 66] (kk_X6_keepBeside_0 F) 41 0 [some (.ref x0), some (.int x1), some (.int x2), some (.long x3), none, some (.int x5), none, none] [] u := rfl
def f_X6_shadow_0 (F : Nat × Nat) (x0 : Nat) (x1 : Int32) (x2 : Int32) (u : Option rx_H) : Option (Int32 × Option rx_H) :=
  (rx_ck u x0 2).bind fun _ =>
  (f_X6_isPlace F x0 x2).bind fun v1 =>
  (rx_ck u x0 2).bind fun _ =>
  (f_X6_familyRefusal F x0 x1 v1 u).bind fun v2 =>
  if v2.1 = 0 then
    (rx_gR v2.2 x0 2 2).bind fun v3 =>
    (rx_aR v2.2 v3 x1).bind fun v4 =>
    (rx_gJ v2.2 v4 0 2).bind fun v5 =>
    (f_X0_oneLess F v5).bind fun v6 =>
    (rx_ck v2.2 x0 2).bind fun _ =>
    (f_X6_keepBeside F x0 x1 (-1 : Int32) v6 x2 v2.2).bind fun v7 =>
    some (v7.1, v7.2)
  else
    some (v2.1, v2.2)
def f_X6_shadow (F : Nat × Nat) (x0 : Nat) (x1 : Int32) (x2 : Int32) (u : Option rx_H) : Option (Int32 × Option rx_H) := f_X6_shadow_0 F x0 x1 x2 u
def c_X6_shadow {α : Type} (F : Nat × Nat) (as : List Value) (u : Option rx_H) (κ : rx_K α) : Option α := match as with
  | [.ref a0, .int a1, .int a2] => (f_X6_shadow F a0 a1 a2 u).bind fun r => κ (some (.int r.1)) r.2
  | _ => none
noncomputable def C_X6_shadow {α : Type} (F : Nat × Nat) : rx_Cl α := fun j as u κ => Bool.rec (motive := fun _ => Option α) (Bool.rec (motive := fun _ => Option α) (Bool.rec (motive := fun _ => Option α) (Bool.rec (motive := fun _ => Option α) (none) (c_X6_keepBeside F as u κ) (Nat.beq j 107)) (c_X6_isPlace F as u κ) (Nat.beq j 102)) (c_X6_familyRefusal F as u κ) (Nat.beq j 92)) (c_X0_oneLess F as u κ) (Nat.beq j 24)
def t_X6_shadow : List rx_E := [
  (0, .aload_n 0, 1, 0, 0, 0, 0, 0, []),
  (1, .iload_n 1, 1, 0, 0, 0, 0, 0, []),
  (2, .aload_n 0, 1, 0, 0, 0, 0, 0, []),
  (3, .iload_n 2, 1, 0, 0, 0, 0, 0, []),
  (4, .invokevirtual 49, 3, 102, 202, 158, 0, 0, []),
  (7, .invokevirtual 61, 3, 92, 203, 194, 0, 0, []),
  (10, .istore_n 3, 1, 0, 0, 0, 0, 0, []),
  (11, .iload_n 3, 1, 0, 0, 0, 0, 0, []),
  (12, .ifCond .eq 5, 3, 17, 0, 0, 0, 0, []),
  (15, .iload_n 3, 1, 0, 0, 0, 0, 0, []),
  (16, .ireturn, 1, 0, 0, 0, 0, 0, []),
  (17, .aload_n 0, 1, 0, 0, 0, 0, 0, []),
  (18, .iload_n 1, 1, 0, 0, 0, 0, 0, []),
  (19, .iconst (-1), 1, 0, 0, 0, (-1), 0, []),
  (20, .aload_n 0, 1, 0, 0, 0, 0, 0, []),
  (21, .getfield 24, 3, 2, 10, 137, 0, 0, []),
  (24, .iload_n 1, 1, 0, 0, 0, 0, 0, []),
  (25, .aaload, 1, 0, 0, 0, 0, 0, []),
  (26, .getfield 65, 3, 0, 9, 84, 0, 0, []),
  (29, .invokestatic 121, 3, 24, 1, 313, 0, 0, []),
  (32, .iload_n 2, 1, 0, 0, 0, 0, 0, []),
  (33, .invokevirtual 125, 3, 107, 205, 321, 0, 0, []),
  (36, .ireturn, 1, 0, 0, 0, 0, 0, [])]
noncomputable def kk_X6_shadow_0 (F : Nat × Nat) : Nat → rx_L → List Value → Option rx_H → Option (Int32 × Option rx_H) := fun t ls st u => none
set_option maxRecDepth 100000 in
theorem g_X6_shadow_0 (F : Nat × Nat) (x0 : Nat) (x1 : Int32) (x2 : Int32) (u : Option rx_H) : f_X6_shadow_0 F x0 x1 x2 u = rx_node (C_X6_shadow F) rx_hI t_X6_shadow [] (kk_X6_shadow_0 F) 26 0 [some (.ref x0), some (.int x1), some (.int x2), none] [] u := rfl
def f_X6_up_0 (F : Nat × Nat) (x0 : Nat) (x1 : Int32) (x2 : Int32) (u : Option rx_H) : Option (Int32 × Option rx_H) :=
  (rx_ck u x0 2).bind fun _ =>
  (f_X6_isPlace F x0 x2).bind fun v1 =>
  (rx_ck u x0 2).bind fun _ =>
  (f_X6_familyRefusal F x0 x1 v1 u).bind fun v2 =>
  if v2.1 = 0 then
    (rx_gR v2.2 x0 2 2).bind fun v3 =>
    (rx_aR v2.2 v3 x1).bind fun v4 =>
    (rx_gJ v2.2 v4 0 2).bind fun v5 =>
    (rx_gI v2.2 x0 2 0).bind fun v6 =>
    (f_X0_oneMore F v5 v6).bind fun v7 =>
    (rx_ck v2.2 x0 2).bind fun _ =>
    (f_X6_keepBeside F x0 x1 (1 : Int32) v7 x2 v2.2).bind fun v8 =>
    some (v8.1, v8.2)
  else
    some (v2.1, v2.2)
def f_X6_up (F : Nat × Nat) (x0 : Nat) (x1 : Int32) (x2 : Int32) (u : Option rx_H) : Option (Int32 × Option rx_H) := f_X6_up_0 F x0 x1 x2 u
def c_X6_up {α : Type} (F : Nat × Nat) (as : List Value) (u : Option rx_H) (κ : rx_K α) : Option α := match as with
  | [.ref a0, .int a1, .int a2] => (f_X6_up F a0 a1 a2 u).bind fun r => κ (some (.int r.1)) r.2
  | _ => none
noncomputable def C_X6_up {α : Type} (F : Nat × Nat) : rx_Cl α := fun j as u κ => Bool.rec (motive := fun _ => Option α) (Bool.rec (motive := fun _ => Option α) (Bool.rec (motive := fun _ => Option α) (Bool.rec (motive := fun _ => Option α) (none) (c_X6_keepBeside F as u κ) (Nat.beq j 107)) (c_X6_isPlace F as u κ) (Nat.beq j 102)) (c_X6_familyRefusal F as u κ) (Nat.beq j 92)) (c_X0_oneMore F as u κ) (Nat.beq j 25)
def t_X6_up : List rx_E := [
  (0, .aload_n 0, 1, 0, 0, 0, 0, 0, []),
  (1, .iload_n 1, 1, 0, 0, 0, 0, 0, []),
  (2, .aload_n 0, 1, 0, 0, 0, 0, 0, []),
  (3, .iload_n 2, 1, 0, 0, 0, 0, 0, []),
  (4, .invokevirtual 49, 3, 102, 202, 158, 0, 0, []),
  (7, .invokevirtual 61, 3, 92, 203, 194, 0, 0, []),
  (10, .istore_n 3, 1, 0, 0, 0, 0, 0, []),
  (11, .iload_n 3, 1, 0, 0, 0, 0, 0, []),
  (12, .ifCond .eq 5, 3, 17, 0, 0, 0, 0, []),
  (15, .iload_n 3, 1, 0, 0, 0, 0, 0, []),
  (16, .ireturn, 1, 0, 0, 0, 0, 0, []),
  (17, .aload_n 0, 1, 0, 0, 0, 0, 0, []),
  (18, .iload_n 1, 1, 0, 0, 0, 0, 0, []),
  (19, .iconst 1, 1, 0, 0, 0, 1, 0, []),
  (20, .aload_n 0, 1, 0, 0, 0, 0, 0, []),
  (21, .getfield 24, 3, 2, 10, 137, 0, 0, []),
  (24, .iload_n 1, 1, 0, 0, 0, 0, 0, []),
  (25, .aaload, 1, 0, 0, 0, 0, 0, []),
  (26, .getfield 65, 3, 0, 9, 84, 0, 0, []),
  (29, .aload_n 0, 1, 0, 0, 0, 0, 0, []),
  (30, .getfield 15, 3, 2, 0, 135, 0, 0, []),
  (33, .invokestatic 129, 3, 25, 2, 329, 0, 0, []),
  (36, .iload_n 2, 1, 0, 0, 0, 0, 0, []),
  (37, .invokevirtual 125, 3, 107, 205, 321, 0, 0, []),
  (40, .ireturn, 1, 0, 0, 0, 0, 0, [])]
noncomputable def kk_X6_up_0 (F : Nat × Nat) : Nat → rx_L → List Value → Option rx_H → Option (Int32 × Option rx_H) := fun t ls st u => none
set_option maxRecDepth 100000 in
theorem g_X6_up_0 (F : Nat × Nat) (x0 : Nat) (x1 : Int32) (x2 : Int32) (u : Option rx_H) : f_X6_up_0 F x0 x1 x2 u = rx_node (C_X6_up F) rx_hI t_X6_up [] (kk_X6_up_0 F) 28 0 [some (.ref x0), some (.int x1), some (.int x2), none] [] u := rfl
def f_X6_closed_0 (F : Nat × Nat) (x0 : Nat) (x1 : Int32) (x2 : Int32) (x3 : Int32) (u : Option rx_H) : Option (Int32 × Option rx_H) :=
  (rx_ck u x0 2).bind fun _ =>
  (f_X6_isPlace F x0 x3).bind fun v1 =>
  (rx_ck u x0 2).bind fun _ =>
  (f_X6_familyRefusal F x0 x1 v1 u).bind fun v2 =>
  if v2.1 = 0 then
    (rx_gR v2.2 x0 2 2).bind fun v3 =>
    (rx_aR v2.2 v3 x1).bind fun v4 =>
    (rx_gJ v2.2 v4 0 2).bind fun v5 =>
    if x2 = 0 then
      (f_X0_allBelow F v5).bind fun v6 =>
      (rx_ck v2.2 x0 2).bind fun _ =>
      (f_X6_keep F x0 x3 (3 : Int32) (0 : Int32) v6 v2.2).bind fun v7 =>
      some (v7.1, v7.2)
    else
      (rx_gI v2.2 x0 2 0).bind fun v8 =>
      (f_X0_allAbove F v5 v8).bind fun v9 =>
      (rx_ck v2.2 x0 2).bind fun _ =>
      (f_X6_keep F x0 x3 (0 : Int32) (0 : Int32) v9 v2.2).bind fun v10 =>
      some (v10.1, v10.2)
  else
    some (v2.1, v2.2)
def f_X6_closed (F : Nat × Nat) (x0 : Nat) (x1 : Int32) (x2 : Int32) (x3 : Int32) (u : Option rx_H) : Option (Int32 × Option rx_H) := f_X6_closed_0 F x0 x1 x2 x3 u
def c_X6_closed {α : Type} (F : Nat × Nat) (as : List Value) (u : Option rx_H) (κ : rx_K α) : Option α := match as with
  | [.ref a0, .int a1, .int a2, .int a3] => (f_X6_closed F a0 a1 a2 a3 u).bind fun r => κ (some (.int r.1)) r.2
  | _ => none
noncomputable def C_X6_closed {α : Type} (F : Nat × Nat) : rx_Cl α := fun j as u κ => Bool.rec (motive := fun _ => Option α) (Bool.rec (motive := fun _ => Option α) (Bool.rec (motive := fun _ => Option α) (Bool.rec (motive := fun _ => Option α) (Bool.rec (motive := fun _ => Option α) (none) (c_X6_keep F as u κ) (Nat.beq j 106)) (c_X6_isPlace F as u κ) (Nat.beq j 102)) (c_X6_familyRefusal F as u κ) (Nat.beq j 92)) (c_X0_allBelow F as u κ) (Nat.beq j 9)) (c_X0_allAbove F as u κ) (Nat.beq j 8)
def t_X6_closed : List rx_E := [
  (0, .aload_n 0, 1, 0, 0, 0, 0, 0, []),
  (1, .iload_n 1, 1, 0, 0, 0, 0, 0, []),
  (2, .aload_n 0, 1, 0, 0, 0, 0, 0, []),
  (3, .iload_n 3, 1, 0, 0, 0, 0, 0, []),
  (4, .invokevirtual 49, 3, 102, 202, 158, 0, 0, []),
  (7, .invokevirtual 61, 3, 92, 203, 194, 0, 0, []),
  (10, .istore 4, 2, 0, 0, 0, 0, 0, []),
  (12, .iload 4, 2, 0, 0, 0, 0, 0, []),
  (14, .ifCond .eq 6, 3, 20, 0, 0, 0, 0, []),
  (17, .iload 4, 2, 0, 0, 0, 0, 0, []),
  (19, .ireturn, 1, 0, 0, 0, 0, 0, []),
  (20, .aload_n 0, 1, 0, 0, 0, 0, 0, []),
  (21, .getfield 24, 3, 2, 10, 137, 0, 0, []),
  (24, .iload_n 1, 1, 0, 0, 0, 0, 0, []),
  (25, .aaload, 1, 0, 0, 0, 0, 0, []),
  (26, .getfield 65, 3, 0, 9, 84, 0, 0, []),
  (29, .lstore 5, 2, 0, 0, 0, 0, 0, []),
  (31, .iload_n 2, 1, 0, 0, 0, 0, 0, []),
  (32, .ifCond .eq 20, 3, 52, 0, 0, 0, 0, []),
  (35, .aload_n 0, 1, 0, 0, 0, 0, 0, []),
  (36, .iload_n 3, 1, 0, 0, 0, 0, 0, []),
  (37, .iconst 0, 1, 0, 0, 0, 0, 0, []),
  (38, .iconst 0, 1, 0, 0, 0, 0, 0, []),
  (39, .lload 5, 2, 0, 0, 0, 0, 0, []),
  (41, .aload_n 0, 1, 0, 0, 0, 0, 0, []),
  (42, .getfield 15, 3, 2, 0, 135, 0, 0, []),
  (45, .invokestatic 133, 3, 8, 2, 339, 0, 0, []),
  (48, .invokevirtual 57, 3, 106, 205, 173, 0, 0, []),
  (51, .ireturn, 1, 0, 0, 0, 0, 0, []),
  (52, .aload_n 0, 1, 0, 0, 0, 0, 0, []),
  (53, .iload_n 3, 1, 0, 0, 0, 0, 0, []),
  (54, .iconst 3, 1, 0, 0, 0, 3, 0, []),
  (55, .iconst 0, 1, 0, 0, 0, 0, 0, []),
  (56, .lload 5, 2, 0, 0, 0, 0, 0, []),
  (58, .invokestatic 136, 3, 9, 1, 342, 0, 0, []),
  (61, .invokevirtual 57, 3, 106, 205, 173, 0, 0, []),
  (64, .ireturn, 1, 0, 0, 0, 0, 0, [])]
noncomputable def kk_X6_closed_0 (F : Nat × Nat) : Nat → rx_L → List Value → Option rx_H → Option (Int32 × Option rx_H) := fun t ls st u => none
set_option maxRecDepth 100000 in
theorem g_X6_closed_0 (F : Nat × Nat) (x0 : Nat) (x1 : Int32) (x2 : Int32) (x3 : Int32) (u : Option rx_H) : f_X6_closed_0 F x0 x1 x2 x3 u = rx_node (C_X6_closed F) rx_hI t_X6_closed [] (kk_X6_closed_0 F) 40 0 [some (.ref x0), some (.int x1), some (.int x2), some (.int x3), none, none, none] [] u := rfl
def f_X6_ends_62 (F : Nat × Nat) (x0 : Nat) (x3 : Int32) (x5 : Int64) (s0 : Int64) (u : Option rx_H) : Option (Int32 × Option rx_H) :=
  (rx_ck u x0 2).bind fun _ =>
  (f_X6_keep F x0 x3 (1 : Int32) (0 : Int32) (x5 &&& (s0 ^^^ (-1 : Int64))) u).bind fun v1 =>
  some (v1.1, v1.2)
def f_X6_ends_0 (F : Nat × Nat) (x0 : Nat) (x1 : Int32) (x2 : Int32) (x3 : Int32) (u : Option rx_H) : Option (Int32 × Option rx_H) :=
  (rx_ck u x0 2).bind fun _ =>
  (f_X6_isPlace F x0 x3).bind fun v1 =>
  (rx_ck u x0 2).bind fun _ =>
  (f_X6_familyRefusal F x0 x1 v1 u).bind fun v2 =>
  if v2.1 = 0 then
    (rx_gR v2.2 x0 2 2).bind fun v3 =>
    (rx_aR v2.2 v3 x1).bind fun v4 =>
    (rx_gJ v2.2 v4 0 2).bind fun v5 =>
    if x2 = 0 then
      (rx_gI v2.2 x0 2 0).bind fun v6 =>
      (f_X0_oneMore F v5 v6).bind fun v7 =>
      (rx_gI v2.2 x0 2 0).bind fun v8 =>
      (f_X0_allAbove F v7 v8).bind fun v9 =>
      f_X6_ends_62 F x0 x3 v5 v9 v2.2
    else
      (f_X0_oneLess F v5).bind fun v10 =>
      (f_X0_allBelow F v10).bind fun v11 =>
      f_X6_ends_62 F x0 x3 v5 v11 v2.2
  else
    some (v2.1, v2.2)
def f_X6_ends (F : Nat × Nat) (x0 : Nat) (x1 : Int32) (x2 : Int32) (x3 : Int32) (u : Option rx_H) : Option (Int32 × Option rx_H) := f_X6_ends_0 F x0 x1 x2 x3 u
def c_X6_ends {α : Type} (F : Nat × Nat) (as : List Value) (u : Option rx_H) (κ : rx_K α) : Option α := match as with
  | [.ref a0, .int a1, .int a2, .int a3] => (f_X6_ends F a0 a1 a2 a3 u).bind fun r => κ (some (.int r.1)) r.2
  | _ => none
noncomputable def C_X6_ends {α : Type} (F : Nat × Nat) : rx_Cl α := fun j as u κ => Bool.rec (motive := fun _ => Option α) (Bool.rec (motive := fun _ => Option α) (Bool.rec (motive := fun _ => Option α) (Bool.rec (motive := fun _ => Option α) (Bool.rec (motive := fun _ => Option α) (Bool.rec (motive := fun _ => Option α) (Bool.rec (motive := fun _ => Option α) (none) (c_X6_keep F as u κ) (Nat.beq j 106)) (c_X6_isPlace F as u κ) (Nat.beq j 102)) (c_X6_familyRefusal F as u κ) (Nat.beq j 92)) (c_X0_oneMore F as u κ) (Nat.beq j 25)) (c_X0_oneLess F as u κ) (Nat.beq j 24)) (c_X0_allBelow F as u κ) (Nat.beq j 9)) (c_X0_allAbove F as u κ) (Nat.beq j 8)
def t_X6_ends : List rx_E := [
  (0, .aload_n 0, 1, 0, 0, 0, 0, 0, []),
  (1, .iload_n 1, 1, 0, 0, 0, 0, 0, []),
  (2, .aload_n 0, 1, 0, 0, 0, 0, 0, []),
  (3, .iload_n 3, 1, 0, 0, 0, 0, 0, []),
  (4, .invokevirtual 49, 3, 102, 202, 158, 0, 0, []),
  (7, .invokevirtual 61, 3, 92, 203, 194, 0, 0, []),
  (10, .istore 4, 2, 0, 0, 0, 0, 0, []),
  (12, .iload 4, 2, 0, 0, 0, 0, 0, []),
  (14, .ifCond .eq 6, 3, 20, 0, 0, 0, 0, []),
  (17, .iload 4, 2, 0, 0, 0, 0, 0, []),
  (19, .ireturn, 1, 0, 0, 0, 0, 0, []),
  (20, .aload_n 0, 1, 0, 0, 0, 0, 0, []),
  (21, .getfield 24, 3, 2, 10, 137, 0, 0, []),
  (24, .iload_n 1, 1, 0, 0, 0, 0, 0, []),
  (25, .aaload, 1, 0, 0, 0, 0, 0, []),
  (26, .getfield 65, 3, 0, 9, 84, 0, 0, []),
  (29, .lstore 5, 2, 0, 0, 0, 0, 0, []),
  (31, .iload_n 2, 1, 0, 0, 0, 0, 0, []),
  (32, .ifCond .eq 14, 3, 46, 0, 0, 0, 0, []),
  (35, .lload 5, 2, 0, 0, 0, 0, 0, []),
  (37, .invokestatic 121, 3, 24, 1, 313, 0, 0, []),
  (40, .invokestatic 136, 3, 9, 1, 342, 0, 0, []),
  (43, .goto 19, 3, 62, 0, 0, 0, 0, []),
  (46, .lload 5, 2, 0, 0, 0, 0, 0, []),
  (48, .aload_n 0, 1, 0, 0, 0, 0, 0, []),
  (49, .getfield 15, 3, 2, 0, 135, 0, 0, []),
  (52, .invokestatic 129, 3, 25, 2, 329, 0, 0, []),
  (55, .aload_n 0, 1, 0, 0, 0, 0, 0, []),
  (56, .getfield 15, 3, 2, 0, 135, 0, 0, []),
  (59, .invokestatic 133, 3, 8, 2, 339, 0, 0, []),
  (62, .lstore 7, 2, 0, 0, 0, 0, 0, []),
  (64, .aload_n 0, 1, 0, 0, 0, 0, 0, []),
  (65, .iload_n 3, 1, 0, 0, 0, 0, 0, []),
  (66, .iconst 1, 1, 0, 0, 0, 1, 0, []),
  (67, .iconst 0, 1, 0, 0, 0, 0, 0, []),
  (68, .lload 5, 2, 0, 0, 0, 0, 0, []),
  (70, .lload 7, 2, 0, 0, 0, 0, 0, []),
  (72, .ldc2_w 96, 3, 0, 0, 254, 0, (-1), []),
  (75, .lxor, 1, 0, 0, 0, 0, 0, []),
  (76, .land, 1, 0, 0, 0, 0, 0, []),
  (77, .invokevirtual 57, 3, 106, 205, 173, 0, 0, []),
  (80, .ireturn, 1, 0, 0, 0, 0, 0, [])]
def n_X6_ends_62 (F : Nat × Nat) (ls : rx_L) (st : List Value) (u : Option rx_H) : Option (Int32 × Option rx_H) := match ls, st, u with
  | [some (.ref x0), _, _, some (.int x3), _, some (.long x5), _, _, _], [.long s0], u => f_X6_ends_62 F x0 x3 x5 s0 u
  | _, _, _ => none
noncomputable def kk_X6_ends_62 (F : Nat × Nat) : Nat → rx_L → List Value → Option rx_H → Option (Int32 × Option rx_H) := fun t ls st u => none
noncomputable def kk_X6_ends_0 (F : Nat × Nat) : Nat → rx_L → List Value → Option rx_H → Option (Int32 × Option rx_H) := fun t ls st u => Bool.rec (motive := fun _ => Option (Int32 × Option rx_H)) (none) (n_X6_ends_62 F ls st u) (Nat.beq t 62)
set_option maxRecDepth 100000 in
theorem g_X6_ends_62 (F : Nat × Nat) (x0 : Nat) (x3 : Int32) (x5 : Int64) (s0 : Int64) (u : Option rx_H) : f_X6_ends_62 F x0 x3 x5 s0 u = rx_node (C_X6_ends F) rx_hI t_X6_ends [62] (kk_X6_ends_62 F) 45 62 [some (.ref x0), none, none, some (.int x3), none, some (.long x5), none, none, none] [.long s0] u := rfl
set_option maxRecDepth 100000 in
theorem g_X6_ends_0 (F : Nat × Nat) (x0 : Nat) (x1 : Int32) (x2 : Int32) (x3 : Int32) (u : Option rx_H) : f_X6_ends_0 F x0 x1 x2 x3 u = rx_node (C_X6_ends F) rx_hI t_X6_ends [62] (kk_X6_ends_0 F) 45 0 [some (.ref x0), some (.int x1), some (.int x2), some (.int x3), none, none, none, none, none] [] u := rfl
def f_X6_familiesRefusal_19 (F : Nat × Nat) (x0 : Nat) (x2 : Int32) (s0 : Nat) (s1 : Int32) (s2 : Int32) (u : Option rx_H) : Option (Int32 × Option rx_H) :=
  (rx_ck u s0 2).bind fun _ =>
  (f_X6_familyRefusal F s0 s1 s2 u).bind fun v1 =>
  if v1.1 = 0 then
    (rx_ck v1.2 x0 2).bind fun _ =>
    (f_X6_familyRefusal F x0 x2 (1 : Int32) v1.2).bind fun v2 =>
    some (v2.1, v2.2)
  else
    some (v1.1, v1.2)
def f_X6_familiesRefusal_0 (F : Nat × Nat) (x0 : Nat) (x1 : Int32) (x2 : Int32) (x3 : Int32) (u : Option rx_H) : Option (Int32 × Option rx_H) :=
  if x3 = 0 then
    f_X6_familiesRefusal_19 F x0 x2 x0 x1 (0 : Int32) u
  else
    (rx_ck u x0 2).bind fun _ =>
    (f_X6_isPlace F x0 x2).bind fun v1 =>
    if v1 = 0 then
      f_X6_familiesRefusal_19 F x0 x2 x0 x1 (0 : Int32) u
    else
      f_X6_familiesRefusal_19 F x0 x2 x0 x1 (1 : Int32) u
def f_X6_familiesRefusal (F : Nat × Nat) (x0 : Nat) (x1 : Int32) (x2 : Int32) (x3 : Int32) (u : Option rx_H) : Option (Int32 × Option rx_H) := f_X6_familiesRefusal_0 F x0 x1 x2 x3 u
def c_X6_familiesRefusal {α : Type} (F : Nat × Nat) (as : List Value) (u : Option rx_H) (κ : rx_K α) : Option α := match as with
  | [.ref a0, .int a1, .int a2, .int a3] => (f_X6_familiesRefusal F a0 a1 a2 a3 u).bind fun r => κ (some (.int r.1)) r.2
  | _ => none
noncomputable def C_X6_familiesRefusal {α : Type} (F : Nat × Nat) : rx_Cl α := fun j as u κ => Bool.rec (motive := fun _ => Option α) (Bool.rec (motive := fun _ => Option α) (none) (c_X6_isPlace F as u κ) (Nat.beq j 102)) (c_X6_familyRefusal F as u κ) (Nat.beq j 92)
def t_X6_familiesRefusal : List rx_E := [
  (0, .aload_n 0, 1, 0, 0, 0, 0, 0, []),
  (1, .iload_n 1, 1, 0, 0, 0, 0, 0, []),
  (2, .iload_n 3, 1, 0, 0, 0, 0, 0, []),
  (3, .ifCond .eq 15, 3, 18, 0, 0, 0, 0, []),
  (6, .aload_n 0, 1, 0, 0, 0, 0, 0, []),
  (7, .iload_n 2, 1, 0, 0, 0, 0, 0, []),
  (8, .invokevirtual 49, 3, 102, 202, 158, 0, 0, []),
  (11, .ifCond .eq 7, 3, 18, 0, 0, 0, 0, []),
  (14, .iconst 1, 1, 0, 0, 0, 1, 0, []),
  (15, .goto 4, 3, 19, 0, 0, 0, 0, []),
  (18, .iconst 0, 1, 0, 0, 0, 0, 0, []),
  (19, .invokevirtual 61, 3, 92, 203, 194, 0, 0, []),
  (22, .istore 4, 2, 0, 0, 0, 0, 0, []),
  (24, .iload 4, 2, 0, 0, 0, 0, 0, []),
  (26, .ifCond .ne 12, 3, 38, 0, 0, 0, 0, []),
  (29, .aload_n 0, 1, 0, 0, 0, 0, 0, []),
  (30, .iload_n 2, 1, 0, 0, 0, 0, 0, []),
  (31, .iconst 1, 1, 0, 0, 0, 1, 0, []),
  (32, .invokevirtual 61, 3, 92, 203, 194, 0, 0, []),
  (35, .goto 5, 3, 40, 0, 0, 0, 0, []),
  (38, .iload 4, 2, 0, 0, 0, 0, 0, []),
  (40, .ireturn, 1, 0, 0, 0, 0, 0, [])]
def n_X6_familiesRefusal_19 (F : Nat × Nat) (ls : rx_L) (st : List Value) (u : Option rx_H) : Option (Int32 × Option rx_H) := match ls, st, u with
  | [some (.ref x0), _, some (.int x2), _, _], [.int s2, .int s1, .ref s0], u => f_X6_familiesRefusal_19 F x0 x2 s0 s1 s2 u
  | _, _, _ => none
noncomputable def kk_X6_familiesRefusal_19 (F : Nat × Nat) : Nat → rx_L → List Value → Option rx_H → Option (Int32 × Option rx_H) := fun t ls st u => none
noncomputable def kk_X6_familiesRefusal_0 (F : Nat × Nat) : Nat → rx_L → List Value → Option rx_H → Option (Int32 × Option rx_H) := fun t ls st u => Bool.rec (motive := fun _ => Option (Int32 × Option rx_H)) (none) (n_X6_familiesRefusal_19 F ls st u) (Nat.beq t 19)
set_option maxRecDepth 100000 in
theorem g_X6_familiesRefusal_19 (F : Nat × Nat) (x0 : Nat) (x2 : Int32) (s0 : Nat) (s1 : Int32) (s2 : Int32) (u : Option rx_H) : f_X6_familiesRefusal_19 F x0 x2 s0 s1 s2 u = rx_node (C_X6_familiesRefusal F) rx_hI t_X6_familiesRefusal [19] (kk_X6_familiesRefusal_19 F) 25 19 [some (.ref x0), none, some (.int x2), none, none] [.int s2, .int s1, .ref s0] u := rfl
set_option maxRecDepth 100000 in
theorem g_X6_familiesRefusal_0 (F : Nat × Nat) (x0 : Nat) (x1 : Int32) (x2 : Int32) (x3 : Int32) (u : Option rx_H) : f_X6_familiesRefusal_0 F x0 x1 x2 x3 u = rx_node (C_X6_familiesRefusal F) rx_hI t_X6_familiesRefusal [19] (kk_X6_familiesRefusal_0 F) 25 0 [some (.ref x0), some (.int x1), some (.int x2), some (.int x3), none] [] u := rfl
def f_X6_mix_26 (F : Nat × Nat) (x0 : Nat) (x1 : Int32) (x2 : Int32) (x3 : Int32) (x4 : Int32) (s0 : Nat) (s1 : Int32) (s2 : Int32) (s3 : Int32) (u : Option rx_H) : Option (Int32 × Option rx_H) :=
  (rx_ck u s0 2).bind fun _ =>
  (f_X6_familiesRefusal F s0 s1 s2 s3 u).bind fun v1 =>
  if v1.1 = 0 then
    (rx_gR v1.2 x0 2 2).bind fun v2 =>
    (rx_aR v1.2 v2 x1).bind fun v3 =>
    (rx_gJ v1.2 v3 0 2).bind fun v4 =>
    (rx_gR v1.2 x0 2 2).bind fun v5 =>
    (rx_aR v1.2 v5 x2).bind fun v6 =>
    (rx_gJ v1.2 v6 0 2).bind fun v7 =>
    (f_X0_mixed F v4 v7 x3).bind fun v8 =>
    (rx_ck v1.2 x0 2).bind fun _ =>
    (f_X6_keep F x0 x4 (0 : Int32) (0 : Int32) v8 v1.2).bind fun v9 =>
    some (v9.1, v9.2)
  else
    some (v1.1, v1.2)
def f_X6_mix_0 (F : Nat × Nat) (x0 : Nat) (x1 : Int32) (x2 : Int32) (x3 : Int32) (x4 : Int32) (u : Option rx_H) : Option (Int32 × Option rx_H) :=
  if x3 < 0 then
    f_X6_mix_26 F x0 x1 x2 x3 x4 x0 x1 x2 (0 : Int32) u
  else
    if (5 : Int32) < x3 then
      f_X6_mix_26 F x0 x1 x2 x3 x4 x0 x1 x2 (0 : Int32) u
    else
      (rx_ck u x0 2).bind fun _ =>
      (f_X6_isPlace F x0 x4).bind fun v1 =>
      if v1 = 0 then
        f_X6_mix_26 F x0 x1 x2 x3 x4 x0 x1 x2 (0 : Int32) u
      else
        f_X6_mix_26 F x0 x1 x2 x3 x4 x0 x1 x2 (1 : Int32) u
def f_X6_mix (F : Nat × Nat) (x0 : Nat) (x1 : Int32) (x2 : Int32) (x3 : Int32) (x4 : Int32) (u : Option rx_H) : Option (Int32 × Option rx_H) := f_X6_mix_0 F x0 x1 x2 x3 x4 u
def c_X6_mix {α : Type} (F : Nat × Nat) (as : List Value) (u : Option rx_H) (κ : rx_K α) : Option α := match as with
  | [.ref a0, .int a1, .int a2, .int a3, .int a4] => (f_X6_mix F a0 a1 a2 a3 a4 u).bind fun r => κ (some (.int r.1)) r.2
  | _ => none
noncomputable def C_X6_mix {α : Type} (F : Nat × Nat) : rx_Cl α := fun j as u κ => Bool.rec (motive := fun _ => Option α) (Bool.rec (motive := fun _ => Option α) (Bool.rec (motive := fun _ => Option α) (Bool.rec (motive := fun _ => Option α) (none) (c_X6_keep F as u κ) (Nat.beq j 106)) (c_X6_isPlace F as u κ) (Nat.beq j 102)) (c_X6_familiesRefusal F as u κ) (Nat.beq j 91)) (c_X0_mixed F as u κ) (Nat.beq j 19)
def t_X6_mix : List rx_E := [
  (0, .aload_n 0, 1, 0, 0, 0, 0, 0, []),
  (1, .iload_n 1, 1, 0, 0, 0, 0, 0, []),
  (2, .iload_n 2, 1, 0, 0, 0, 0, 0, []),
  (3, .iload_n 3, 1, 0, 0, 0, 0, 0, []),
  (4, .ifCond .lt 21, 3, 25, 0, 0, 0, 0, []),
  (7, .iload_n 3, 1, 0, 0, 0, 0, 0, []),
  (8, .iconst 5, 1, 0, 0, 0, 5, 0, []),
  (9, .if_icmp .gt 16, 3, 25, 0, 0, 0, 0, []),
  (12, .aload_n 0, 1, 0, 0, 0, 0, 0, []),
  (13, .iload 4, 2, 0, 0, 0, 0, 0, []),
  (15, .invokevirtual 49, 3, 102, 202, 158, 0, 0, []),
  (18, .ifCond .eq 7, 3, 25, 0, 0, 0, 0, []),
  (21, .iconst 1, 1, 0, 0, 0, 1, 0, []),
  (22, .goto 4, 3, 26, 0, 0, 0, 0, []),
  (25, .iconst 0, 1, 0, 0, 0, 0, 0, []),
  (26, .invokevirtual 139, 3, 91, 204, 353, 0, 0, []),
  (29, .istore 5, 2, 0, 0, 0, 0, 0, []),
  (31, .iload 5, 2, 0, 0, 0, 0, 0, []),
  (33, .ifCond .eq 6, 3, 39, 0, 0, 0, 0, []),
  (36, .iload 5, 2, 0, 0, 0, 0, 0, []),
  (38, .ireturn, 1, 0, 0, 0, 0, 0, []),
  (39, .aload_n 0, 1, 0, 0, 0, 0, 0, []),
  (40, .iload 4, 2, 0, 0, 0, 0, 0, []),
  (42, .iconst 0, 1, 0, 0, 0, 0, 0, []),
  (43, .iconst 0, 1, 0, 0, 0, 0, 0, []),
  (44, .aload_n 0, 1, 0, 0, 0, 0, 0, []),
  (45, .getfield 24, 3, 2, 10, 137, 0, 0, []),
  (48, .iload_n 1, 1, 0, 0, 0, 0, 0, []),
  (49, .aaload, 1, 0, 0, 0, 0, 0, []),
  (50, .getfield 65, 3, 0, 9, 84, 0, 0, []),
  (53, .aload_n 0, 1, 0, 0, 0, 0, 0, []),
  (54, .getfield 24, 3, 2, 10, 137, 0, 0, []),
  (57, .iload_n 2, 1, 0, 0, 0, 0, 0, []),
  (58, .aaload, 1, 0, 0, 0, 0, 0, []),
  (59, .getfield 65, 3, 0, 9, 84, 0, 0, []),
  (62, .iload_n 3, 1, 0, 0, 0, 0, 0, []),
  (63, .invokestatic 143, 3, 19, 3, 357, 0, 0, []),
  (66, .invokevirtual 57, 3, 106, 205, 173, 0, 0, []),
  (69, .ireturn, 1, 0, 0, 0, 0, 0, [])]
def n_X6_mix_26 (F : Nat × Nat) (ls : rx_L) (st : List Value) (u : Option rx_H) : Option (Int32 × Option rx_H) := match ls, st, u with
  | [some (.ref x0), some (.int x1), some (.int x2), some (.int x3), some (.int x4), _], [.int s3, .int s2, .int s1, .ref s0], u => f_X6_mix_26 F x0 x1 x2 x3 x4 s0 s1 s2 s3 u
  | _, _, _ => none
noncomputable def kk_X6_mix_26 (F : Nat × Nat) : Nat → rx_L → List Value → Option rx_H → Option (Int32 × Option rx_H) := fun t ls st u => none
noncomputable def kk_X6_mix_0 (F : Nat × Nat) : Nat → rx_L → List Value → Option rx_H → Option (Int32 × Option rx_H) := fun t ls st u => Bool.rec (motive := fun _ => Option (Int32 × Option rx_H)) (none) (n_X6_mix_26 F ls st u) (Nat.beq t 26)
set_option maxRecDepth 100000 in
theorem g_X6_mix_26 (F : Nat × Nat) (x0 : Nat) (x1 : Int32) (x2 : Int32) (x3 : Int32) (x4 : Int32) (s0 : Nat) (s1 : Int32) (s2 : Int32) (s3 : Int32) (u : Option rx_H) : f_X6_mix_26 F x0 x1 x2 x3 x4 s0 s1 s2 s3 u = rx_node (C_X6_mix F) rx_hI t_X6_mix [26] (kk_X6_mix_26 F) 42 26 [some (.ref x0), some (.int x1), some (.int x2), some (.int x3), some (.int x4), none] [.int s3, .int s2, .int s1, .ref s0] u := rfl
set_option maxRecDepth 100000 in
theorem g_X6_mix_0 (F : Nat × Nat) (x0 : Nat) (x1 : Int32) (x2 : Int32) (x3 : Int32) (x4 : Int32) (u : Option rx_H) : f_X6_mix_0 F x0 x1 x2 x3 x4 u = rx_node (C_X6_mix F) rx_hI t_X6_mix [26] (kk_X6_mix_0 F) 42 0 [some (.ref x0), some (.int x1), some (.int x2), some (.int x3), some (.int x4), none] [] u := rfl
def f_X6_rest_67 (F : Nat × Nat) (s0 : Nat) (s1 : Int32) (s2 : Int32) (s3 : Int32) (s4 : Int64) (u : Option rx_H) : Option (Int32 × Option rx_H) :=
  (rx_ck u s0 2).bind fun _ =>
  (f_X6_keep F s0 s1 s2 s3 s4 u).bind fun v1 =>
  some (v1.1, v1.2)
def f_X6_rest_0 (F : Nat × Nat) (x0 : Nat) (x1 : Int32) (x2 : Int32) (x3 : Int32) (u : Option rx_H) : Option (Int32 × Option rx_H) :=
  (rx_ck u x0 2).bind fun _ =>
  (f_X6_isPlace F x0 x3).bind fun v1 =>
  (rx_ck u x0 2).bind fun _ =>
  (f_X6_familyRefusal F x0 x1 v1 u).bind fun v2 =>
  if v2.1 = 0 then
    (rx_gR v2.2 x0 2 2).bind fun v3 =>
    (rx_aR v2.2 v3 x1).bind fun v4 =>
    (rx_gJ v2.2 v4 0 2).bind fun v5 =>
    if x2 = 0 then
      (rx_gI v2.2 x0 2 1).bind fun v6 =>
      (f_X0_within F (v6 - (1 : Int32))).bind fun v7 =>
      f_X6_rest_67 F x0 x3 (0 : Int32) (0 : Int32) (v7 &&& (v5 ^^^ (-1 : Int64))) v2.2
    else
      (rx_gI v2.2 x0 2 0).bind fun v8 =>
      (f_X0_lacking F v5 v8).bind fun v9 =>
      f_X6_rest_67 F x0 x3 (0 : Int32) (0 : Int32) v9 v2.2
  else
    some (v2.1, v2.2)
def f_X6_rest (F : Nat × Nat) (x0 : Nat) (x1 : Int32) (x2 : Int32) (x3 : Int32) (u : Option rx_H) : Option (Int32 × Option rx_H) := f_X6_rest_0 F x0 x1 x2 x3 u
def c_X6_rest {α : Type} (F : Nat × Nat) (as : List Value) (u : Option rx_H) (κ : rx_K α) : Option α := match as with
  | [.ref a0, .int a1, .int a2, .int a3] => (f_X6_rest F a0 a1 a2 a3 u).bind fun r => κ (some (.int r.1)) r.2
  | _ => none
noncomputable def C_X6_rest {α : Type} (F : Nat × Nat) : rx_Cl α := fun j as u κ => Bool.rec (motive := fun _ => Option α) (Bool.rec (motive := fun _ => Option α) (Bool.rec (motive := fun _ => Option α) (Bool.rec (motive := fun _ => Option α) (Bool.rec (motive := fun _ => Option α) (none) (c_X6_keep F as u κ) (Nat.beq j 106)) (c_X6_isPlace F as u κ) (Nat.beq j 102)) (c_X6_familyRefusal F as u κ) (Nat.beq j 92)) (c_X0_within F as u κ) (Nat.beq j 30)) (c_X0_lacking F as u κ) (Nat.beq j 15)
def t_X6_rest : List rx_E := [
  (0, .aload_n 0, 1, 0, 0, 0, 0, 0, []),
  (1, .iload_n 1, 1, 0, 0, 0, 0, 0, []),
  (2, .aload_n 0, 1, 0, 0, 0, 0, 0, []),
  (3, .iload_n 3, 1, 0, 0, 0, 0, 0, []),
  (4, .invokevirtual 49, 3, 102, 202, 158, 0, 0, []),
  (7, .invokevirtual 61, 3, 92, 203, 194, 0, 0, []),
  (10, .istore 4, 2, 0, 0, 0, 0, 0, []),
  (12, .iload 4, 2, 0, 0, 0, 0, 0, []),
  (14, .ifCond .eq 6, 3, 20, 0, 0, 0, 0, []),
  (17, .iload 4, 2, 0, 0, 0, 0, 0, []),
  (19, .ireturn, 1, 0, 0, 0, 0, 0, []),
  (20, .aload_n 0, 1, 0, 0, 0, 0, 0, []),
  (21, .getfield 24, 3, 2, 10, 137, 0, 0, []),
  (24, .iload_n 1, 1, 0, 0, 0, 0, 0, []),
  (25, .aaload, 1, 0, 0, 0, 0, 0, []),
  (26, .getfield 65, 3, 0, 9, 84, 0, 0, []),
  (29, .lstore 5, 2, 0, 0, 0, 0, 0, []),
  (31, .aload_n 0, 1, 0, 0, 0, 0, 0, []),
  (32, .iload_n 3, 1, 0, 0, 0, 0, 0, []),
  (33, .iconst 0, 1, 0, 0, 0, 0, 0, []),
  (34, .iconst 0, 1, 0, 0, 0, 0, 0, []),
  (35, .iload_n 2, 1, 0, 0, 0, 0, 0, []),
  (36, .ifCond .eq 15, 3, 51, 0, 0, 0, 0, []),
  (39, .lload 5, 2, 0, 0, 0, 0, 0, []),
  (41, .aload_n 0, 1, 0, 0, 0, 0, 0, []),
  (42, .getfield 15, 3, 2, 0, 135, 0, 0, []),
  (45, .invokestatic 147, 3, 15, 2, 376, 0, 0, []),
  (48, .goto 19, 3, 67, 0, 0, 0, 0, []),
  (51, .aload_n 0, 1, 0, 0, 0, 0, 0, []),
  (52, .getfield 19, 3, 2, 4, 136, 0, 0, []),
  (55, .iconst 1, 1, 0, 0, 0, 1, 0, []),
  (56, .isub, 1, 0, 0, 0, 0, 0, []),
  (57, .invokestatic 150, 3, 30, 1, 379, 0, 0, []),
  (60, .lload 5, 2, 0, 0, 0, 0, 0, []),
  (62, .ldc2_w 96, 3, 0, 0, 254, 0, (-1), []),
  (65, .lxor, 1, 0, 0, 0, 0, 0, []),
  (66, .land, 1, 0, 0, 0, 0, 0, []),
  (67, .invokevirtual 57, 3, 106, 205, 173, 0, 0, []),
  (70, .ireturn, 1, 0, 0, 0, 0, 0, [])]
def n_X6_rest_67 (F : Nat × Nat) (ls : rx_L) (st : List Value) (u : Option rx_H) : Option (Int32 × Option rx_H) := match ls, st, u with
  | [_, _, _, _, _, _, _], [.long s4, .int s3, .int s2, .int s1, .ref s0], u => f_X6_rest_67 F s0 s1 s2 s3 s4 u
  | _, _, _ => none
noncomputable def kk_X6_rest_67 (F : Nat × Nat) : Nat → rx_L → List Value → Option rx_H → Option (Int32 × Option rx_H) := fun t ls st u => none
noncomputable def kk_X6_rest_0 (F : Nat × Nat) : Nat → rx_L → List Value → Option rx_H → Option (Int32 × Option rx_H) := fun t ls st u => Bool.rec (motive := fun _ => Option (Int32 × Option rx_H)) (none) (n_X6_rest_67 F ls st u) (Nat.beq t 67)
set_option maxRecDepth 100000 in
theorem g_X6_rest_67 (F : Nat × Nat) (s0 : Nat) (s1 : Int32) (s2 : Int32) (s3 : Int32) (s4 : Int64) (u : Option rx_H) : f_X6_rest_67 F s0 s1 s2 s3 s4 u = rx_node (C_X6_rest F) rx_hI t_X6_rest [67] (kk_X6_rest_67 F) 42 67 [none, none, none, none, none, none, none] [.long s4, .int s3, .int s2, .int s1, .ref s0] u := rfl
set_option maxRecDepth 100000 in
theorem g_X6_rest_0 (F : Nat × Nat) (x0 : Nat) (x1 : Int32) (x2 : Int32) (x3 : Int32) (u : Option rx_H) : f_X6_rest_0 F x0 x1 x2 x3 u = rx_node (C_X6_rest F) rx_hI t_X6_rest [67] (kk_X6_rest_0 F) 42 0 [some (.ref x0), some (.int x1), some (.int x2), some (.int x3), none, none, none] [] u := rfl
def f_X6_trace_23 (F : Nat × Nat) (x0 : Nat) (x1 : Int32) (x2 : Int32) (x3 : Int32) (s0 : Nat) (s1 : Int32) (s2 : Int32) (u : Option rx_H) : Option (Int32 × Option rx_H) :=
  (rx_ck u s0 2).bind fun _ =>
  (f_X6_familyRefusal F s0 s1 s2 u).bind fun v1 =>
  if v1.1 = 0 then
    (rx_gR v1.2 x0 2 2).bind fun v2 =>
    (rx_aR v1.2 v2 x1).bind fun v3 =>
    (rx_gJ v1.2 v3 0 2).bind fun v4 =>
    (f_X0_cutTo F v4 x2).bind fun v5 =>
    (rx_ck v1.2 x0 2).bind fun _ =>
    (f_X6_keep F x0 x3 (0 : Int32) (0 : Int32) v5 v1.2).bind fun v6 =>
    some (v6.1, v6.2)
  else
    some (v1.1, v1.2)
def f_X6_trace_0 (F : Nat × Nat) (x0 : Nat) (x1 : Int32) (x2 : Int32) (x3 : Int32) (u : Option rx_H) : Option (Int32 × Option rx_H) :=
  (rx_ck u x0 2).bind fun _ =>
  (f_X6_isSet F x0 x2 u).bind fun v1 =>
  if v1.1 = 0 then
    f_X6_trace_23 F x0 x1 x2 x3 x0 x1 (0 : Int32) v1.2
  else
    (rx_ck v1.2 x0 2).bind fun _ =>
    (f_X6_isPlace F x0 x3).bind fun v2 =>
    if v2 = 0 then
      f_X6_trace_23 F x0 x1 x2 x3 x0 x1 (0 : Int32) v1.2
    else
      f_X6_trace_23 F x0 x1 x2 x3 x0 x1 (1 : Int32) v1.2
def f_X6_trace (F : Nat × Nat) (x0 : Nat) (x1 : Int32) (x2 : Int32) (x3 : Int32) (u : Option rx_H) : Option (Int32 × Option rx_H) := f_X6_trace_0 F x0 x1 x2 x3 u
def c_X6_trace {α : Type} (F : Nat × Nat) (as : List Value) (u : Option rx_H) (κ : rx_K α) : Option α := match as with
  | [.ref a0, .int a1, .int a2, .int a3] => (f_X6_trace F a0 a1 a2 a3 u).bind fun r => κ (some (.int r.1)) r.2
  | _ => none
noncomputable def C_X6_trace {α : Type} (F : Nat × Nat) : rx_Cl α := fun j as u κ => Bool.rec (motive := fun _ => Option α) (Bool.rec (motive := fun _ => Option α) (Bool.rec (motive := fun _ => Option α) (Bool.rec (motive := fun _ => Option α) (Bool.rec (motive := fun _ => Option α) (none) (c_X6_keep F as u κ) (Nat.beq j 106)) (c_X6_isSet F as u κ) (Nat.beq j 103)) (c_X6_isPlace F as u κ) (Nat.beq j 102)) (c_X6_familyRefusal F as u κ) (Nat.beq j 92)) (c_X0_cutTo F as u κ) (Nat.beq j 12)
def t_X6_trace : List rx_E := [
  (0, .aload_n 0, 1, 0, 0, 0, 0, 0, []),
  (1, .iload_n 1, 1, 0, 0, 0, 0, 0, []),
  (2, .aload_n 0, 1, 0, 0, 0, 0, 0, []),
  (3, .iload_n 2, 1, 0, 0, 0, 0, 0, []),
  (4, .invokevirtual 73, 3, 103, 202, 206, 0, 0, []),
  (7, .ifCond .eq 15, 3, 22, 0, 0, 0, 0, []),
  (10, .aload_n 0, 1, 0, 0, 0, 0, 0, []),
  (11, .iload_n 3, 1, 0, 0, 0, 0, 0, []),
  (12, .invokevirtual 49, 3, 102, 202, 158, 0, 0, []),
  (15, .ifCond .eq 7, 3, 22, 0, 0, 0, 0, []),
  (18, .iconst 1, 1, 0, 0, 0, 1, 0, []),
  (19, .goto 4, 3, 23, 0, 0, 0, 0, []),
  (22, .iconst 0, 1, 0, 0, 0, 0, 0, []),
  (23, .invokevirtual 61, 3, 92, 203, 194, 0, 0, []),
  (26, .istore 4, 2, 0, 0, 0, 0, 0, []),
  (28, .iload 4, 2, 0, 0, 0, 0, 0, []),
  (30, .ifCond .eq 6, 3, 36, 0, 0, 0, 0, []),
  (33, .iload 4, 2, 0, 0, 0, 0, 0, []),
  (35, .ireturn, 1, 0, 0, 0, 0, 0, []),
  (36, .aload_n 0, 1, 0, 0, 0, 0, 0, []),
  (37, .iload_n 3, 1, 0, 0, 0, 0, 0, []),
  (38, .iconst 0, 1, 0, 0, 0, 0, 0, []),
  (39, .iconst 0, 1, 0, 0, 0, 0, 0, []),
  (40, .aload_n 0, 1, 0, 0, 0, 0, 0, []),
  (41, .getfield 24, 3, 2, 10, 137, 0, 0, []),
  (44, .iload_n 1, 1, 0, 0, 0, 0, 0, []),
  (45, .aaload, 1, 0, 0, 0, 0, 0, []),
  (46, .getfield 65, 3, 0, 9, 84, 0, 0, []),
  (49, .iload_n 2, 1, 0, 0, 0, 0, 0, []),
  (50, .invokestatic 154, 3, 12, 2, 384, 0, 0, []),
  (53, .invokevirtual 57, 3, 106, 205, 173, 0, 0, []),
  (56, .ireturn, 1, 0, 0, 0, 0, 0, [])]
def n_X6_trace_23 (F : Nat × Nat) (ls : rx_L) (st : List Value) (u : Option rx_H) : Option (Int32 × Option rx_H) := match ls, st, u with
  | [some (.ref x0), some (.int x1), some (.int x2), some (.int x3), _], [.int s2, .int s1, .ref s0], u => f_X6_trace_23 F x0 x1 x2 x3 s0 s1 s2 u
  | _, _, _ => none
noncomputable def kk_X6_trace_23 (F : Nat × Nat) : Nat → rx_L → List Value → Option rx_H → Option (Int32 × Option rx_H) := fun t ls st u => none
noncomputable def kk_X6_trace_0 (F : Nat × Nat) : Nat → rx_L → List Value → Option rx_H → Option (Int32 × Option rx_H) := fun t ls st u => Bool.rec (motive := fun _ => Option (Int32 × Option rx_H)) (none) (n_X6_trace_23 F ls st u) (Nat.beq t 23)
set_option maxRecDepth 100000 in
theorem g_X6_trace_23 (F : Nat × Nat) (x0 : Nat) (x1 : Int32) (x2 : Int32) (x3 : Int32) (s0 : Nat) (s1 : Int32) (s2 : Int32) (u : Option rx_H) : f_X6_trace_23 F x0 x1 x2 x3 s0 s1 s2 u = rx_node (C_X6_trace F) rx_hI t_X6_trace [23] (kk_X6_trace_23 F) 35 23 [some (.ref x0), some (.int x1), some (.int x2), some (.int x3), none] [.int s2, .int s1, .ref s0] u := rfl
set_option maxRecDepth 100000 in
theorem g_X6_trace_0 (F : Nat × Nat) (x0 : Nat) (x1 : Int32) (x2 : Int32) (x3 : Int32) (u : Option rx_H) : f_X6_trace_0 F x0 x1 x2 x3 u = rx_node (C_X6_trace F) rx_hI t_X6_trace [23] (kk_X6_trace_0 F) 35 0 [some (.ref x0), some (.int x1), some (.int x2), some (.int x3), none] [] u := rfl
def f_X6_turned_65 (F : Nat × Nat) (x0 : Nat) (x2 : Int32) (x3 : Int32) (x5 : Nat) (s0 : Int32) (u : Option rx_H) : Option (Int32 × Option rx_H) :=
  (rx_gI u x5 0 1).bind fun v1 =>
  (rx_gJ u x5 0 2).bind fun v2 =>
  (rx_gI u x0 2 0).bind fun v3 =>
  (f_X3_turnedBy F v2 x2 v3).bind fun v4 =>
  (rx_ck u x0 2).bind fun _ =>
  (f_X6_keep F x0 x3 s0 v1 v4 u).bind fun v5 =>
  some (v5.1, v5.2)
def f_X6_turned_26 (F : Nat × Nat) (x0 : Nat) (x1 : Int32) (x2 : Int32) (x3 : Int32) (s0 : Nat) (s1 : Int32) (s2 : Int32) (u : Option rx_H) : Option (Int32 × Option rx_H) :=
  (rx_ck u s0 2).bind fun _ =>
  (f_X6_familyRefusal F s0 s1 s2 u).bind fun v1 =>
  if v1.1 = 0 then
    (rx_gR v1.2 x0 2 2).bind fun v2 =>
    (rx_aR v1.2 v2 x1).bind fun v3 =>
    (rx_gI v1.2 v3 0 0).bind fun v4 =>
    if v4 = (5 : Int32) then
      f_X6_turned_65 F x0 x2 x3 v3 (2 : Int32) v1.2
    else
      (rx_gI v1.2 v3 0 0).bind fun v5 =>
      f_X6_turned_65 F x0 x2 x3 v3 v5 v1.2
  else
    some (v1.1, v1.2)
def f_X6_turned_0 (F : Nat × Nat) (x0 : Nat) (x1 : Int32) (x2 : Int32) (x3 : Int32) (u : Option rx_H) : Option (Int32 × Option rx_H) :=
  (rx_gI u x0 2 0).bind fun v1 =>
  (f_X3_isOrder F x2 v1).bind fun v2 =>
  if v2 = 0 then
    f_X6_turned_26 F x0 x1 x2 x3 x0 x1 (0 : Int32) u
  else
    (rx_ck u x0 2).bind fun _ =>
    (f_X6_isPlace F x0 x3).bind fun v3 =>
    if v3 = 0 then
      f_X6_turned_26 F x0 x1 x2 x3 x0 x1 (0 : Int32) u
    else
      f_X6_turned_26 F x0 x1 x2 x3 x0 x1 (1 : Int32) u
def f_X6_turned (F : Nat × Nat) (x0 : Nat) (x1 : Int32) (x2 : Int32) (x3 : Int32) (u : Option rx_H) : Option (Int32 × Option rx_H) := f_X6_turned_0 F x0 x1 x2 x3 u
def c_X6_turned {α : Type} (F : Nat × Nat) (as : List Value) (u : Option rx_H) (κ : rx_K α) : Option α := match as with
  | [.ref a0, .int a1, .int a2, .int a3] => (f_X6_turned F a0 a1 a2 a3 u).bind fun r => κ (some (.int r.1)) r.2
  | _ => none
noncomputable def C_X6_turned {α : Type} (F : Nat × Nat) : rx_Cl α := fun j as u κ => Bool.rec (motive := fun _ => Option α) (Bool.rec (motive := fun _ => Option α) (Bool.rec (motive := fun _ => Option α) (Bool.rec (motive := fun _ => Option α) (Bool.rec (motive := fun _ => Option α) (none) (c_X6_keep F as u κ) (Nat.beq j 106)) (c_X6_isPlace F as u κ) (Nat.beq j 102)) (c_X6_familyRefusal F as u κ) (Nat.beq j 92)) (c_X3_turnedBy F as u κ) (Nat.beq j 59)) (c_X3_isOrder F as u κ) (Nat.beq j 55)
def t_X6_turned : List rx_E := [
  (0, .aload_n 0, 1, 0, 0, 0, 0, 0, []),
  (1, .iload_n 1, 1, 0, 0, 0, 0, 0, []),
  (2, .iload_n 2, 1, 0, 0, 0, 0, 0, []),
  (3, .aload_n 0, 1, 0, 0, 0, 0, 0, []),
  (4, .getfield 15, 3, 2, 0, 135, 0, 0, []),
  (7, .invokestatic 157, 3, 55, 2, 389, 0, 0, []),
  (10, .ifCond .eq 15, 3, 25, 0, 0, 0, 0, []),
  (13, .aload_n 0, 1, 0, 0, 0, 0, 0, []),
  (14, .iload_n 3, 1, 0, 0, 0, 0, 0, []),
  (15, .invokevirtual 49, 3, 102, 202, 158, 0, 0, []),
  (18, .ifCond .eq 7, 3, 25, 0, 0, 0, 0, []),
  (21, .iconst 1, 1, 0, 0, 0, 1, 0, []),
  (22, .goto 4, 3, 26, 0, 0, 0, 0, []),
  (25, .iconst 0, 1, 0, 0, 0, 0, 0, []),
  (26, .invokevirtual 61, 3, 92, 203, 194, 0, 0, []),
  (29, .istore 4, 2, 0, 0, 0, 0, 0, []),
  (31, .iload 4, 2, 0, 0, 0, 0, 0, []),
  (33, .ifCond .eq 6, 3, 39, 0, 0, 0, 0, []),
  (36, .iload 4, 2, 0, 0, 0, 0, 0, []),
  (38, .ireturn, 1, 0, 0, 0, 0, 0, []),
  (39, .aload_n 0, 1, 0, 0, 0, 0, 0, []),
  (40, .getfield 24, 3, 2, 10, 137, 0, 0, []),
  (43, .iload_n 1, 1, 0, 0, 0, 0, 0, []),
  (44, .aaload, 1, 0, 0, 0, 0, 0, []),
  (45, .astore 5, 2, 0, 0, 0, 0, 0, []),
  (47, .aload 5, 2, 0, 0, 0, 0, 0, []),
  (49, .getfield 98, 3, 0, 0, 78, 0, 0, []),
  (52, .iconst 5, 1, 0, 0, 0, 5, 0, []),
  (53, .if_icmp .ne 7, 3, 60, 0, 0, 0, 0, []),
  (56, .iconst 2, 1, 0, 0, 0, 2, 0, []),
  (57, .goto 8, 3, 65, 0, 0, 0, 0, []),
  (60, .aload 5, 2, 0, 0, 0, 0, 0, []),
  (62, .getfield 98, 3, 0, 0, 78, 0, 0, []),
  (65, .istore 6, 2, 0, 0, 0, 0, 0, []),
  (67, .aload_n 0, 1, 0, 0, 0, 0, 0, []),
  (68, .iload_n 3, 1, 0, 0, 0, 0, 0, []),
  (69, .iload 6, 2, 0, 0, 0, 0, 0, []),
  (71, .aload 5, 2, 0, 0, 0, 0, 0, []),
  (73, .getfield 107, 3, 0, 4, 81, 0, 0, []),
  (76, .aload 5, 2, 0, 0, 0, 0, 0, []),
  (78, .getfield 65, 3, 0, 9, 84, 0, 0, []),
  (81, .iload_n 2, 1, 0, 0, 0, 0, 0, []),
  (82, .aload_n 0, 1, 0, 0, 0, 0, 0, []),
  (83, .getfield 15, 3, 2, 0, 135, 0, 0, []),
  (86, .invokestatic 162, 3, 59, 3, 395, 0, 0, []),
  (89, .invokevirtual 57, 3, 106, 205, 173, 0, 0, []),
  (92, .ireturn, 1, 0, 0, 0, 0, 0, [])]
def n_X6_turned_26 (F : Nat × Nat) (ls : rx_L) (st : List Value) (u : Option rx_H) : Option (Int32 × Option rx_H) := match ls, st, u with
  | [some (.ref x0), some (.int x1), some (.int x2), some (.int x3), _, _, _], [.int s2, .int s1, .ref s0], u => f_X6_turned_26 F x0 x1 x2 x3 s0 s1 s2 u
  | _, _, _ => none
def n_X6_turned_65 (F : Nat × Nat) (ls : rx_L) (st : List Value) (u : Option rx_H) : Option (Int32 × Option rx_H) := match ls, st, u with
  | [some (.ref x0), _, some (.int x2), some (.int x3), _, some (.ref x5), _], [.int s0], u => f_X6_turned_65 F x0 x2 x3 x5 s0 u
  | _, _, _ => none
noncomputable def kk_X6_turned_65 (F : Nat × Nat) : Nat → rx_L → List Value → Option rx_H → Option (Int32 × Option rx_H) := fun t ls st u => none
noncomputable def kk_X6_turned_26 (F : Nat × Nat) : Nat → rx_L → List Value → Option rx_H → Option (Int32 × Option rx_H) := fun t ls st u => Bool.rec (motive := fun _ => Option (Int32 × Option rx_H)) (none) (n_X6_turned_65 F ls st u) (Nat.beq t 65)
noncomputable def kk_X6_turned_0 (F : Nat × Nat) : Nat → rx_L → List Value → Option rx_H → Option (Int32 × Option rx_H) := fun t ls st u => Bool.rec (motive := fun _ => Option (Int32 × Option rx_H)) (none) (n_X6_turned_26 F ls st u) (Nat.beq t 26)
set_option maxRecDepth 100000 in
theorem g_X6_turned_65 (F : Nat × Nat) (x0 : Nat) (x2 : Int32) (x3 : Int32) (x5 : Nat) (s0 : Int32) (u : Option rx_H) : f_X6_turned_65 F x0 x2 x3 x5 s0 u = rx_node (C_X6_turned F) rx_hI t_X6_turned [26, 65] (kk_X6_turned_65 F) 50 65 [some (.ref x0), none, some (.int x2), some (.int x3), none, some (.ref x5), none] [.int s0] u := rfl
set_option maxRecDepth 100000 in
theorem g_X6_turned_26 (F : Nat × Nat) (x0 : Nat) (x1 : Int32) (x2 : Int32) (x3 : Int32) (s0 : Nat) (s1 : Int32) (s2 : Int32) (u : Option rx_H) : f_X6_turned_26 F x0 x1 x2 x3 s0 s1 s2 u = rx_node (C_X6_turned F) rx_hI t_X6_turned [26, 65] (kk_X6_turned_26 F) 50 26 [some (.ref x0), some (.int x1), some (.int x2), some (.int x3), none, none, none] [.int s2, .int s1, .ref s0] u := rfl
set_option maxRecDepth 100000 in
theorem g_X6_turned_0 (F : Nat × Nat) (x0 : Nat) (x1 : Int32) (x2 : Int32) (x3 : Int32) (u : Option rx_H) : f_X6_turned_0 F x0 x1 x2 x3 u = rx_node (C_X6_turned F) rx_hI t_X6_turned [26, 65] (kk_X6_turned_0 F) 50 0 [some (.ref x0), some (.int x1), some (.int x2), some (.int x3), none, none, none] [] u := rfl
def f_X6_isThing_0 (F : Nat × Nat) (x0 : Nat) (x1 : Int32) (u : Option rx_H) : Option (Int32 × Option rx_H) :=
  if x1 < 0 then
    some ((0 : Int32), u)
  else
    (rx_gI u x0 2 0).bind fun v1 =>
    if x1 < v1 then
      some ((1 : Int32), u)
    else
      some ((0 : Int32), u)
def f_X6_isThing (F : Nat × Nat) (x0 : Nat) (x1 : Int32) (u : Option rx_H) : Option (Int32 × Option rx_H) := f_X6_isThing_0 F x0 x1 u
def c_X6_isThing {α : Type} (F : Nat × Nat) (as : List Value) (u : Option rx_H) (κ : rx_K α) : Option α := match as with
  | [.ref a0, .int a1] => (f_X6_isThing F a0 a1 u).bind fun r => κ (some (.int r.1)) r.2
  | _ => none
noncomputable def C_X6_isThing {α : Type} (F : Nat × Nat) : rx_Cl α := fun j as u κ => none
def t_X6_isThing : List rx_E := [
  (0, .iload_n 1, 1, 0, 0, 0, 0, 0, []),
  (1, .ifCond .lt 15, 3, 16, 0, 0, 0, 0, []),
  (4, .iload_n 1, 1, 0, 0, 0, 0, 0, []),
  (5, .aload_n 0, 1, 0, 0, 0, 0, 0, []),
  (6, .getfield 15, 3, 2, 0, 135, 0, 0, []),
  (9, .if_icmp .ge 7, 3, 16, 0, 0, 0, 0, []),
  (12, .iconst 1, 1, 0, 0, 0, 1, 0, []),
  (13, .goto 4, 3, 17, 0, 0, 0, 0, []),
  (16, .iconst 0, 1, 0, 0, 0, 0, 0, []),
  (17, .ireturn, 1, 0, 2, 0, 0, 0, [])]
noncomputable def kk_X6_isThing_0 (F : Nat × Nat) : Nat → rx_L → List Value → Option rx_H → Option (Int32 × Option rx_H) := fun t ls st u => none
set_option maxRecDepth 100000 in
theorem g_X6_isThing_0 (F : Nat × Nat) (x0 : Nat) (x1 : Int32) (u : Option rx_H) : f_X6_isThing_0 F x0 x1 u = rx_node (C_X6_isThing F) rx_hI t_X6_isThing [] (kk_X6_isThing_0 F) 13 0 [some (.ref x0), some (.int x1)] [] u := rfl
def f_X6_push_28 (F : Nat × Nat) (x0 : Nat) (x1 : Int32) (x2 : Int32) (x3 : Int32) (s0 : Nat) (s1 : Int32) (s2 : Int32) (u : Option rx_H) : Option (Int32 × Option rx_H) :=
  (rx_ck u s0 2).bind fun _ =>
  (f_X6_familyRefusal F s0 s1 s2 u).bind fun v1 =>
  if v1.1 = 0 then
    (rx_gR v1.2 x0 2 2).bind fun v2 =>
    (rx_aR v1.2 v2 x1).bind fun v3 =>
    (rx_gJ v1.2 v3 0 2).bind fun v4 =>
    (f_X0_moved F v4 x2 x3).bind fun v5 =>
    (rx_ck v1.2 x0 2).bind fun _ =>
    (f_X6_keepBeside F x0 x1 (0 : Int32) v5 x1 v1.2).bind fun v6 =>
    (f_X0_size F (v5 &&& (v4 ^^^ (-1 : Int64)))).bind fun v7 =>
    some (v7, v6.2)
  else
    some (v1.1, v1.2)
def f_X6_push_0 (F : Nat × Nat) (x0 : Nat) (x1 : Int32) (x2 : Int32) (x3 : Int32) (u : Option rx_H) : Option (Int32 × Option rx_H) :=
  (rx_ck u x0 2).bind fun _ =>
  (f_X6_isThing F x0 x2 u).bind fun v1 =>
  if v1.1 = 0 then
    f_X6_push_28 F x0 x1 x2 x3 x0 x1 (0 : Int32) v1.2
  else
    (rx_ck v1.2 x0 2).bind fun _ =>
    (f_X6_isThing F x0 x3 v1.2).bind fun v2 =>
    if v2.1 = 0 then
      f_X6_push_28 F x0 x1 x2 x3 x0 x1 (0 : Int32) v2.2
    else
      if x2 = x3 then
        f_X6_push_28 F x0 x1 x2 x3 x0 x1 (0 : Int32) v2.2
      else
        f_X6_push_28 F x0 x1 x2 x3 x0 x1 (1 : Int32) v2.2
def f_X6_push (F : Nat × Nat) (x0 : Nat) (x1 : Int32) (x2 : Int32) (x3 : Int32) (u : Option rx_H) : Option (Int32 × Option rx_H) := f_X6_push_0 F x0 x1 x2 x3 u
def c_X6_push {α : Type} (F : Nat × Nat) (as : List Value) (u : Option rx_H) (κ : rx_K α) : Option α := match as with
  | [.ref a0, .int a1, .int a2, .int a3] => (f_X6_push F a0 a1 a2 a3 u).bind fun r => κ (some (.int r.1)) r.2
  | _ => none
noncomputable def C_X6_push {α : Type} (F : Nat × Nat) : rx_Cl α := fun j as u κ => Bool.rec (motive := fun _ => Option α) (Bool.rec (motive := fun _ => Option α) (Bool.rec (motive := fun _ => Option α) (Bool.rec (motive := fun _ => Option α) (Bool.rec (motive := fun _ => Option α) (none) (c_X6_keepBeside F as u κ) (Nat.beq j 107)) (c_X6_isThing F as u κ) (Nat.beq j 105)) (c_X6_familyRefusal F as u κ) (Nat.beq j 92)) (c_X0_size F as u κ) (Nat.beq j 28)) (c_X0_moved F as u κ) (Nat.beq j 22)
def t_X6_push : List rx_E := [
  (0, .aload_n 0, 1, 0, 0, 0, 0, 0, []),
  (1, .iload_n 1, 1, 0, 0, 0, 0, 0, []),
  (2, .aload_n 0, 1, 0, 0, 0, 0, 0, []),
  (3, .iload_n 2, 1, 0, 0, 0, 0, 0, []),
  (4, .invokevirtual 166, 3, 105, 202, 403, 0, 0, []),
  (7, .ifCond .eq 20, 3, 27, 0, 0, 0, 0, []),
  (10, .aload_n 0, 1, 0, 0, 0, 0, 0, []),
  (11, .iload_n 3, 1, 0, 0, 0, 0, 0, []),
  (12, .invokevirtual 166, 3, 105, 202, 403, 0, 0, []),
  (15, .ifCond .eq 12, 3, 27, 0, 0, 0, 0, []),
  (18, .iload_n 2, 1, 0, 0, 0, 0, 0, []),
  (19, .iload_n 3, 1, 0, 0, 0, 0, 0, []),
  (20, .if_icmp .eq 7, 3, 27, 0, 0, 0, 0, []),
  (23, .iconst 1, 1, 0, 0, 0, 1, 0, []),
  (24, .goto 4, 3, 28, 0, 0, 0, 0, []),
  (27, .iconst 0, 1, 0, 0, 0, 0, 0, []),
  (28, .invokevirtual 61, 3, 92, 203, 194, 0, 0, []),
  (31, .istore 4, 2, 0, 0, 0, 0, 0, []),
  (33, .iload 4, 2, 0, 0, 0, 0, 0, []),
  (35, .ifCond .eq 6, 3, 41, 0, 0, 0, 0, []),
  (38, .iload 4, 2, 0, 0, 0, 0, 0, []),
  (40, .ireturn, 1, 0, 0, 0, 0, 0, []),
  (41, .aload_n 0, 1, 0, 0, 0, 0, 0, []),
  (42, .getfield 24, 3, 2, 10, 137, 0, 0, []),
  (45, .iload_n 1, 1, 0, 0, 0, 0, 0, []),
  (46, .aaload, 1, 0, 0, 0, 0, 0, []),
  (47, .getfield 65, 3, 0, 9, 84, 0, 0, []),
  (50, .lstore 5, 2, 0, 0, 0, 0, 0, []),
  (52, .lload 5, 2, 0, 0, 0, 0, 0, []),
  (54, .iload_n 2, 1, 0, 0, 0, 0, 0, []),
  (55, .iload_n 3, 1, 0, 0, 0, 0, 0, []),
  (56, .invokestatic 169, 3, 22, 3, 407, 0, 0, []),
  (59, .lstore 7, 2, 0, 0, 0, 0, 0, []),
  (61, .aload_n 0, 1, 0, 0, 0, 0, 0, []),
  (62, .iload_n 1, 1, 0, 0, 0, 0, 0, []),
  (63, .iconst 0, 1, 0, 0, 0, 0, 0, []),
  (64, .lload 7, 2, 0, 0, 0, 0, 0, []),
  (66, .iload_n 1, 1, 0, 0, 0, 0, 0, []),
  (67, .invokevirtual 125, 3, 107, 205, 321, 0, 0, []),
  (70, .pop, 1, 0, 0, 0, 0, 0, []),
  (71, .lload 7, 2, 0, 0, 0, 0, 0, []),
  (73, .lload 5, 2, 0, 0, 0, 0, 0, []),
  (75, .ldc2_w 96, 3, 0, 0, 254, 0, (-1), []),
  (78, .lxor, 1, 0, 0, 0, 0, 0, []),
  (79, .land, 1, 0, 0, 0, 0, 0, []),
  (80, .invokestatic 80, 3, 28, 1, 181, 0, 0, []),
  (83, .ireturn, 1, 0, 0, 0, 0, 0, [])]
def n_X6_push_28 (F : Nat × Nat) (ls : rx_L) (st : List Value) (u : Option rx_H) : Option (Int32 × Option rx_H) := match ls, st, u with
  | [some (.ref x0), some (.int x1), some (.int x2), some (.int x3), _, _, _, _, _], [.int s2, .int s1, .ref s0], u => f_X6_push_28 F x0 x1 x2 x3 s0 s1 s2 u
  | _, _, _ => none
noncomputable def kk_X6_push_28 (F : Nat × Nat) : Nat → rx_L → List Value → Option rx_H → Option (Int32 × Option rx_H) := fun t ls st u => none
noncomputable def kk_X6_push_0 (F : Nat × Nat) : Nat → rx_L → List Value → Option rx_H → Option (Int32 × Option rx_H) := fun t ls st u => Bool.rec (motive := fun _ => Option (Int32 × Option rx_H)) (none) (n_X6_push_28 F ls st u) (Nat.beq t 28)
set_option maxRecDepth 100000 in
theorem g_X6_push_28 (F : Nat × Nat) (x0 : Nat) (x1 : Int32) (x2 : Int32) (x3 : Int32) (s0 : Nat) (s1 : Int32) (s2 : Int32) (u : Option rx_H) : f_X6_push_28 F x0 x1 x2 x3 s0 s1 s2 u = rx_node (C_X6_push F) rx_hI t_X6_push [28] (kk_X6_push_28 F) 50 28 [some (.ref x0), some (.int x1), some (.int x2), some (.int x3), none, none, none, none, none] [.int s2, .int s1, .ref s0] u := rfl
set_option maxRecDepth 100000 in
theorem g_X6_push_0 (F : Nat × Nat) (x0 : Nat) (x1 : Int32) (x2 : Int32) (x3 : Int32) (u : Option rx_H) : f_X6_push_0 F x0 x1 x2 x3 u = rx_node (C_X6_push F) rx_hI t_X6_push [28] (kk_X6_push_0 F) 50 0 [some (.ref x0), some (.int x1), some (.int x2), some (.int x3), none, none, none, none, none] [] u := rfl
def f_X6_pushed_56 (F : Nat × Nat) (k29 : Nat → Int32 → Int64 → Int32 → Int32 → Option rx_H → Option (Int32 × Option rx_H)) (k44 : Nat → Int32 → Int64 → Int32 → Int32 → Int32 → Int32 → Option rx_H → Option (Int32 × Option rx_H)) : Nat → Nat → Int32 → Int64 → Int32 → Int32 → Int32 → Int32 → Int32 → Option rx_H → Option (Int32 × Option rx_H)
  | 0, _, _, _, _, _, _, _, _, _ => none
  | f + 1, x0, x1, x3, x5, x6, x7, x8, x9, u =>
    if x9 < x8 then
      (f_X0_moved F x3 x8 x9).bind fun v1 =>
      if v1 = x3 then
        (f_X6_pushed_56 F k29 k44 f) x0 x1 v1 (x5 + (0 : Int32)) x6 x7 x8 (x9 + 1) u
      else
        (f_X6_pushed_56 F k29 k44 f) x0 x1 v1 (x5 + (1 : Int32)) x6 x7 x8 (x9 + 1) u
    else
      k44 x0 x1 x3 x5 x6 x7 (x8 + 1) u
def f_X6_pushed_121 (F : Nat × Nat) (x0 : Nat) (x1 : Int32) (x3 : Int64) (x5 : Int32) (u : Option rx_H) : Option (Int32 × Option rx_H) :=
  (rx_ck u x0 2).bind fun _ =>
  (f_X6_keepBeside F x0 x1 (0 : Int32) x3 x1 u).bind fun v1 =>
  some (x5, v1.2)
def f_X6_pushed_44 (F : Nat × Nat) (k29 : Nat → Int32 → Int64 → Int32 → Int32 → Option rx_H → Option (Int32 × Option rx_H)) : Nat → Nat → Int32 → Int64 → Int32 → Int32 → Int32 → Int32 → Option rx_H → Option (Int32 × Option rx_H)
  | 0, _, _, _, _, _, _, _, _ => none
  | f + 1, x0, x1, x3, x5, x6, x7, x8, u =>
    (rx_gI u x0 2 0).bind fun v1 =>
    if x8 < v1 then
      f_X6_pushed_56 F k29 (f_X6_pushed_44 F k29 f) F.1 x0 x1 x3 x5 x6 x7 x8 (0 : Int32) u
    else
      if x5 = x7 then
        f_X6_pushed_121 F x0 x1 x3 x5 u
      else
        k29 x0 x1 x3 x5 (x6 + 1) u
def f_X6_pushed_29 (F : Nat × Nat) : Nat → Nat → Int32 → Int64 → Int32 → Int32 → Option rx_H → Option (Int32 × Option rx_H)
  | 0, _, _, _, _, _, _ => none
  | f + 1, x0, x1, x3, x5, x6, u =>
    if x6 < (2100 : Int32) then
      f_X6_pushed_44 F (f_X6_pushed_29 F f) F.1 x0 x1 x3 x5 x6 x5 (1 : Int32) u
    else
      f_X6_pushed_121 F x0 x1 x3 x5 u
def f_X6_pushed_0 (F : Nat × Nat) (x0 : Nat) (x1 : Int32) (u : Option rx_H) : Option (Int32 × Option rx_H) :=
  (rx_ck u x0 2).bind fun _ =>
  (f_X6_familyRefusal F x0 x1 (1 : Int32) u).bind fun v1 =>
  if v1.1 = 0 then
    (rx_gR v1.2 x0 2 2).bind fun v2 =>
    (rx_aR v1.2 v2 x1).bind fun v3 =>
    (rx_gJ v1.2 v3 0 2).bind fun v4 =>
    f_X6_pushed_29 F F.1 x0 x1 v4 (0 : Int32) (0 : Int32) v1.2
  else
    some (v1.1, v1.2)
def f_X6_pushed (F : Nat × Nat) (x0 : Nat) (x1 : Int32) (u : Option rx_H) : Option (Int32 × Option rx_H) := f_X6_pushed_0 F x0 x1 u
def c_X6_pushed {α : Type} (F : Nat × Nat) (as : List Value) (u : Option rx_H) (κ : rx_K α) : Option α := match as with
  | [.ref a0, .int a1] => (f_X6_pushed F a0 a1 u).bind fun r => κ (some (.int r.1)) r.2
  | _ => none
noncomputable def C_X6_pushed {α : Type} (F : Nat × Nat) : rx_Cl α := fun j as u κ => Bool.rec (motive := fun _ => Option α) (Bool.rec (motive := fun _ => Option α) (Bool.rec (motive := fun _ => Option α) (none) (c_X6_keepBeside F as u κ) (Nat.beq j 107)) (c_X6_familyRefusal F as u κ) (Nat.beq j 92)) (c_X0_moved F as u κ) (Nat.beq j 22)
def t_X6_pushed : List rx_E := [
  (0, .aload_n 0, 1, 0, 0, 0, 0, 0, []),
  (1, .iload_n 1, 1, 0, 0, 0, 0, 0, []),
  (2, .iconst 1, 1, 0, 0, 0, 1, 0, []),
  (3, .invokevirtual 61, 3, 92, 203, 194, 0, 0, []),
  (6, .istore_n 2, 1, 0, 0, 0, 0, 0, []),
  (7, .iload_n 2, 1, 0, 0, 0, 0, 0, []),
  (8, .ifCond .eq 5, 3, 13, 0, 0, 0, 0, []),
  (11, .iload_n 2, 1, 0, 0, 0, 0, 0, []),
  (12, .ireturn, 1, 0, 0, 0, 0, 0, []),
  (13, .aload_n 0, 1, 0, 0, 0, 0, 0, []),
  (14, .getfield 24, 3, 2, 10, 137, 0, 0, []),
  (17, .iload_n 1, 1, 0, 0, 0, 0, 0, []),
  (18, .aaload, 1, 0, 0, 0, 0, 0, []),
  (19, .getfield 65, 3, 0, 9, 84, 0, 0, []),
  (22, .lstore_n 3, 1, 0, 0, 0, 0, 0, []),
  (23, .iconst 0, 1, 0, 0, 0, 0, 0, []),
  (24, .istore 5, 2, 0, 0, 0, 0, 0, []),
  (26, .iconst 0, 1, 0, 0, 0, 0, 0, []),
  (27, .istore 6, 2, 0, 0, 0, 0, 0, []),
  (29, .iload 6, 2, 0, 0, 0, 0, 0, []),
  (31, .sipush 2100, 3, 0, 0, 0, 2100, 0, []),
  (34, .if_icmp .ge 87, 3, 121, 0, 0, 0, 0, []),
  (37, .iload 5, 2, 0, 0, 0, 0, 0, []),
  (39, .istore 7, 2, 0, 0, 0, 0, 0, []),
  (41, .iconst 1, 1, 0, 0, 0, 1, 0, []),
  (42, .istore 8, 2, 0, 0, 0, 0, 0, []),
  (44, .iload 8, 2, 0, 0, 0, 0, 0, []),
  (46, .aload_n 0, 1, 0, 0, 0, 0, 0, []),
  (47, .getfield 15, 3, 2, 0, 135, 0, 0, []),
  (50, .if_icmp .ge 55, 3, 105, 0, 0, 0, 0, []),
  (53, .iconst 0, 1, 0, 0, 0, 0, 0, []),
  (54, .istore 9, 2, 0, 0, 0, 0, 0, []),
  (56, .iload 9, 2, 0, 0, 0, 0, 0, []),
  (58, .iload 8, 2, 0, 0, 0, 0, 0, []),
  (60, .if_icmp .ge 39, 3, 99, 0, 0, 0, 0, []),
  (63, .lload_n 3, 1, 0, 0, 0, 0, 0, []),
  (64, .iload 8, 2, 0, 0, 0, 0, 0, []),
  (66, .iload 9, 2, 0, 0, 0, 0, 0, []),
  (68, .invokestatic 169, 3, 22, 3, 407, 0, 0, []),
  (71, .lstore 10, 2, 0, 0, 0, 0, 0, []),
  (73, .iload 5, 2, 0, 0, 0, 0, 0, []),
  (75, .lload 10, 2, 0, 0, 0, 0, 0, []),
  (77, .lload_n 3, 1, 0, 0, 0, 0, 0, []),
  (78, .lcmp, 1, 0, 0, 0, 0, 0, []),
  (79, .ifCond .ne 7, 3, 86, 0, 0, 0, 0, []),
  (82, .iconst 0, 1, 0, 0, 0, 0, 0, []),
  (83, .goto 4, 3, 87, 0, 0, 0, 0, []),
  (86, .iconst 1, 1, 0, 0, 0, 1, 0, []),
  (87, .iadd, 1, 0, 0, 0, 0, 0, []),
  (88, .istore 5, 2, 0, 0, 0, 0, 0, []),
  (90, .lload 10, 2, 0, 0, 0, 0, 0, []),
  (92, .lstore_n 3, 1, 0, 0, 0, 0, 0, []),
  (93, .iinc 9 1, 3, 0, 0, 0, 1, 0, []),
  (96, .goto (-40), 3, 56, 0, 0, 0, 0, []),
  (99, .iinc 8 1, 3, 0, 0, 0, 1, 0, []),
  (102, .goto (-58), 3, 44, 0, 0, 0, 0, []),
  (105, .iload 5, 2, 0, 0, 0, 0, 0, []),
  (107, .iload 7, 2, 0, 0, 0, 0, 0, []),
  (109, .if_icmp .ne 6, 3, 115, 0, 0, 0, 0, []),
  (112, .goto 9, 3, 121, 0, 0, 0, 0, []),
  (115, .iinc 6 1, 3, 0, 0, 0, 1, 0, []),
  (118, .goto (-89), 3, 29, 0, 0, 0, 0, []),
  (121, .aload_n 0, 1, 0, 0, 0, 0, 0, []),
  (122, .iload_n 1, 1, 0, 0, 0, 0, 0, []),
  (123, .iconst 0, 1, 0, 0, 0, 0, 0, []),
  (124, .lload_n 3, 1, 0, 0, 0, 0, 0, []),
  (125, .iload_n 1, 1, 0, 0, 0, 0, 0, []),
  (126, .invokevirtual 125, 3, 107, 205, 321, 0, 0, []),
  (129, .pop, 1, 0, 0, 0, 0, 0, []),
  (130, .iload 5, 2, 0, 0, 0, 0, 0, []),
  (132, .ireturn, 1, 0, 0, 0, 0, 0, [])]
def n_X6_pushed_29 (k29 : Nat → Int32 → Int64 → Int32 → Int32 → Option rx_H → Option (Int32 × Option rx_H)) (ls : rx_L) (st : List Value) (u : Option rx_H) : Option (Int32 × Option rx_H) := match ls, st, u with
  | [some (.ref x0), some (.int x1), _, some (.long x3), _, some (.int x5), some (.int x6), _, _, _, _, _], [], u => k29 x0 x1 x3 x5 x6 u
  | _, _, _ => none
def n_X6_pushed_44 (k44 : Nat → Int32 → Int64 → Int32 → Int32 → Int32 → Int32 → Option rx_H → Option (Int32 × Option rx_H)) (ls : rx_L) (st : List Value) (u : Option rx_H) : Option (Int32 × Option rx_H) := match ls, st, u with
  | [some (.ref x0), some (.int x1), _, some (.long x3), _, some (.int x5), some (.int x6), some (.int x7), some (.int x8), _, _, _], [], u => k44 x0 x1 x3 x5 x6 x7 x8 u
  | _, _, _ => none
def n_X6_pushed_56 (k56 : Nat → Int32 → Int64 → Int32 → Int32 → Int32 → Int32 → Int32 → Option rx_H → Option (Int32 × Option rx_H)) (ls : rx_L) (st : List Value) (u : Option rx_H) : Option (Int32 × Option rx_H) := match ls, st, u with
  | [some (.ref x0), some (.int x1), _, some (.long x3), _, some (.int x5), some (.int x6), some (.int x7), some (.int x8), some (.int x9), _, _], [], u => k56 x0 x1 x3 x5 x6 x7 x8 x9 u
  | _, _, _ => none
def n_X6_pushed_121 (F : Nat × Nat) (ls : rx_L) (st : List Value) (u : Option rx_H) : Option (Int32 × Option rx_H) := match ls, st, u with
  | [some (.ref x0), some (.int x1), _, some (.long x3), _, some (.int x5), _, _, _, _, _, _], [], u => f_X6_pushed_121 F x0 x1 x3 x5 u
  | _, _, _ => none
noncomputable def kk_X6_pushed_56 (F : Nat × Nat) (k29 : Nat → Int32 → Int64 → Int32 → Int32 → Option rx_H → Option (Int32 × Option rx_H)) (k44 : Nat → Int32 → Int64 → Int32 → Int32 → Int32 → Int32 → Option rx_H → Option (Int32 × Option rx_H)) (k56 : Nat → Int32 → Int64 → Int32 → Int32 → Int32 → Int32 → Int32 → Option rx_H → Option (Int32 × Option rx_H)) : Nat → rx_L → List Value → Option rx_H → Option (Int32 × Option rx_H) := fun t ls st u => Bool.rec (motive := fun _ => Option (Int32 × Option rx_H)) (Bool.rec (motive := fun _ => Option (Int32 × Option rx_H)) (none) (n_X6_pushed_56 k56 ls st u) (Nat.beq t 56)) (n_X6_pushed_44 k44 ls st u) (Nat.beq t 44)
noncomputable def kk_X6_pushed_121 (F : Nat × Nat) : Nat → rx_L → List Value → Option rx_H → Option (Int32 × Option rx_H) := fun t ls st u => none
noncomputable def kk_X6_pushed_44 (F : Nat × Nat) (k29 : Nat → Int32 → Int64 → Int32 → Int32 → Option rx_H → Option (Int32 × Option rx_H)) (k44 : Nat → Int32 → Int64 → Int32 → Int32 → Int32 → Int32 → Option rx_H → Option (Int32 × Option rx_H)) : Nat → rx_L → List Value → Option rx_H → Option (Int32 × Option rx_H) := fun t ls st u => Bool.rec (motive := fun _ => Option (Int32 × Option rx_H)) (Bool.rec (motive := fun _ => Option (Int32 × Option rx_H)) (Bool.rec (motive := fun _ => Option (Int32 × Option rx_H)) (none) (n_X6_pushed_121 F ls st u) (Nat.beq t 121)) (n_X6_pushed_56 (f_X6_pushed_56 F k29 k44 F.1) ls st u) (Nat.beq t 56)) (n_X6_pushed_29 k29 ls st u) (Nat.beq t 29)
noncomputable def kk_X6_pushed_29 (F : Nat × Nat) (k29 : Nat → Int32 → Int64 → Int32 → Int32 → Option rx_H → Option (Int32 × Option rx_H)) : Nat → rx_L → List Value → Option rx_H → Option (Int32 × Option rx_H) := fun t ls st u => Bool.rec (motive := fun _ => Option (Int32 × Option rx_H)) (Bool.rec (motive := fun _ => Option (Int32 × Option rx_H)) (none) (n_X6_pushed_121 F ls st u) (Nat.beq t 121)) (n_X6_pushed_44 (f_X6_pushed_44 F k29 F.1) ls st u) (Nat.beq t 44)
noncomputable def kk_X6_pushed_0 (F : Nat × Nat) : Nat → rx_L → List Value → Option rx_H → Option (Int32 × Option rx_H) := fun t ls st u => Bool.rec (motive := fun _ => Option (Int32 × Option rx_H)) (none) (n_X6_pushed_29 (f_X6_pushed_29 F F.1) ls st u) (Nat.beq t 29)
set_option maxRecDepth 100000 in
theorem g_X6_pushed_56 (F : Nat × Nat) (k29 : Nat → Int32 → Int64 → Int32 → Int32 → Option rx_H → Option (Int32 × Option rx_H)) (k44 : Nat → Int32 → Int64 → Int32 → Int32 → Int32 → Int32 → Option rx_H → Option (Int32 × Option rx_H)) (f : Nat) (x0 : Nat) (x1 : Int32) (x3 : Int64) (x5 : Int32) (x6 : Int32) (x7 : Int32) (x8 : Int32) (x9 : Int32) (u : Option rx_H) : f_X6_pushed_56 F k29 k44 (f + 1) x0 x1 x3 x5 x6 x7 x8 x9 u = rx_node (C_X6_pushed F) rx_hI t_X6_pushed [29, 44, 56, 121] (kk_X6_pushed_56 F k29 k44 (f_X6_pushed_56 F k29 k44 f)) 74 56 [some (.ref x0), some (.int x1), none, some (.long x3), none, some (.int x5), some (.int x6), some (.int x7), some (.int x8), some (.int x9), none, none] [] u := rfl
set_option maxRecDepth 100000 in
theorem g_X6_pushed_121 (F : Nat × Nat) (x0 : Nat) (x1 : Int32) (x3 : Int64) (x5 : Int32) (u : Option rx_H) : f_X6_pushed_121 F x0 x1 x3 x5 u = rx_node (C_X6_pushed F) rx_hI t_X6_pushed [29, 44, 56, 121] (kk_X6_pushed_121 F) 74 121 [some (.ref x0), some (.int x1), none, some (.long x3), none, some (.int x5), none, none, none, none, none, none] [] u := rfl
set_option maxRecDepth 100000 in
theorem g_X6_pushed_44 (F : Nat × Nat) (k29 : Nat → Int32 → Int64 → Int32 → Int32 → Option rx_H → Option (Int32 × Option rx_H)) (f : Nat) (x0 : Nat) (x1 : Int32) (x3 : Int64) (x5 : Int32) (x6 : Int32) (x7 : Int32) (x8 : Int32) (u : Option rx_H) : f_X6_pushed_44 F k29 (f + 1) x0 x1 x3 x5 x6 x7 x8 u = rx_node (C_X6_pushed F) rx_hI t_X6_pushed [29, 44, 56, 121] (kk_X6_pushed_44 F k29 (f_X6_pushed_44 F k29 f)) 74 44 [some (.ref x0), some (.int x1), none, some (.long x3), none, some (.int x5), some (.int x6), some (.int x7), some (.int x8), none, none, none] [] u := rfl
set_option maxRecDepth 100000 in
theorem g_X6_pushed_29 (F : Nat × Nat) (f : Nat) (x0 : Nat) (x1 : Int32) (x3 : Int64) (x5 : Int32) (x6 : Int32) (u : Option rx_H) : f_X6_pushed_29 F (f + 1) x0 x1 x3 x5 x6 u = rx_node (C_X6_pushed F) rx_hI t_X6_pushed [29, 44, 56, 121] (kk_X6_pushed_29 F (f_X6_pushed_29 F f)) 74 29 [some (.ref x0), some (.int x1), none, some (.long x3), none, some (.int x5), some (.int x6), none, none, none, none, none] [] u := rfl
set_option maxRecDepth 100000 in
theorem g_X6_pushed_0 (F : Nat × Nat) (x0 : Nat) (x1 : Int32) (u : Option rx_H) : f_X6_pushed_0 F x0 x1 u = rx_node (C_X6_pushed F) rx_hI t_X6_pushed [29, 44, 56, 121] (kk_X6_pushed_0 F) 74 0 [some (.ref x0), some (.int x1), none, none, none, none, none, none, none, none, none, none] [] u := rfl
def f_X6_first_57 (F : Nat × Nat) (x0 : Nat) (x1 : Int32) (x3 : Int32) (s0 : Int32) (u : Option rx_H) : Option (Int32 × Option rx_H) :=
  (rx_gR u x0 2 3).bind fun v1 =>
  (rx_aJ u v1 x1).bind fun v2 =>
  (f_X0_below F s0).bind fun v3 =>
  (rx_ck u x0 2).bind fun _ =>
  (f_X6_keep F x0 x3 (4 : Int32) x1 (v2 &&& v3) u).bind fun v4 =>
  some (v4.1, v4.2)
def f_X6_first_0 (F : Nat × Nat) (x0 : Nat) (x1 : Int32) (x2 : Int32) (x3 : Int32) (u : Option rx_H) : Option (Int32 × Option rx_H) :=
  (rx_ck u x0 2).bind fun _ =>
  (f_X6_isSize F x0 x1 u).bind fun v1 =>
  if v1.1 = 0 then
    some ((-1 : Int32), v1.2)
  else
    (rx_ck v1.2 x0 2).bind fun _ =>
    (f_X6_isPlace F x0 x3).bind fun v2 =>
    if v2 = 0 then
      some ((-1 : Int32), v1.2)
    else
      if x2 < 0 then
        some ((-1 : Int32), v1.2)
      else
        (rx_gR v1.2 x0 2 3).bind fun v3 =>
        (rx_aJ v1.2 v3 x1).bind fun v4 =>
        (f_X0_size F v4).bind fun v5 =>
        if v5 < x2 then
          some ((-1 : Int32), v1.2)
        else
          if x2 = 0 then
            f_X6_first_57 F x0 x1 x3 (0 : Int32) v1.2
          else
            (rx_gR v1.2 x0 2 3).bind fun v6 =>
            (rx_aJ v1.2 v6 x1).bind fun v7 =>
            (f_X0_setAt F v7 (x2 - (1 : Int32))).bind fun v8 =>
            f_X6_first_57 F x0 x1 x3 (v8 + (1 : Int32)) v1.2
def f_X6_first (F : Nat × Nat) (x0 : Nat) (x1 : Int32) (x2 : Int32) (x3 : Int32) (u : Option rx_H) : Option (Int32 × Option rx_H) := f_X6_first_0 F x0 x1 x2 x3 u
def c_X6_first {α : Type} (F : Nat × Nat) (as : List Value) (u : Option rx_H) (κ : rx_K α) : Option α := match as with
  | [.ref a0, .int a1, .int a2, .int a3] => (f_X6_first F a0 a1 a2 a3 u).bind fun r => κ (some (.int r.1)) r.2
  | _ => none
noncomputable def C_X6_first {α : Type} (F : Nat × Nat) : rx_Cl α := fun j as u κ => Bool.rec (motive := fun _ => Option α) (Bool.rec (motive := fun _ => Option α) (Bool.rec (motive := fun _ => Option α) (Bool.rec (motive := fun _ => Option α) (Bool.rec (motive := fun _ => Option α) (Bool.rec (motive := fun _ => Option α) (none) (c_X6_keep F as u κ) (Nat.beq j 106)) (c_X6_isSize F as u κ) (Nat.beq j 104)) (c_X6_isPlace F as u κ) (Nat.beq j 102)) (c_X0_size F as u κ) (Nat.beq j 28)) (c_X0_setAt F as u κ) (Nat.beq j 26)) (c_X0_below F as u κ) (Nat.beq j 11)
def t_X6_first : List rx_E := [
  (0, .aload_n 0, 1, 0, 0, 0, 0, 0, []),
  (1, .iload_n 1, 1, 0, 0, 0, 0, 0, []),
  (2, .invokevirtual 172, 3, 104, 202, 169, 0, 0, []),
  (5, .ifCond .eq 28, 3, 33, 0, 0, 0, 0, []),
  (8, .aload_n 0, 1, 0, 0, 0, 0, 0, []),
  (9, .iload_n 3, 1, 0, 0, 0, 0, 0, []),
  (10, .invokevirtual 49, 3, 102, 202, 158, 0, 0, []),
  (13, .ifCond .eq 20, 3, 33, 0, 0, 0, 0, []),
  (16, .iload_n 2, 1, 0, 0, 0, 0, 0, []),
  (17, .ifCond .lt 16, 3, 33, 0, 0, 0, 0, []),
  (20, .iload_n 2, 1, 0, 0, 0, 0, 0, []),
  (21, .aload_n 0, 1, 0, 0, 0, 0, 0, []),
  (22, .getfield 29, 3, 2, 14, 138, 0, 0, []),
  (25, .iload_n 1, 1, 0, 0, 0, 0, 0, []),
  (26, .laload, 1, 0, 0, 0, 0, 0, []),
  (27, .invokestatic 80, 3, 28, 1, 181, 0, 0, []),
  (30, .if_icmp .le 5, 3, 35, 0, 0, 0, 0, []),
  (33, .iconst (-1), 1, 0, 0, 0, (-1), 0, []),
  (34, .ireturn, 1, 0, 0, 0, 0, 0, []),
  (35, .iload_n 2, 1, 0, 0, 0, 0, 0, []),
  (36, .ifCond .ne 7, 3, 43, 0, 0, 0, 0, []),
  (39, .iconst 0, 1, 0, 0, 0, 0, 0, []),
  (40, .goto 17, 3, 57, 0, 0, 0, 0, []),
  (43, .aload_n 0, 1, 0, 0, 0, 0, 0, []),
  (44, .getfield 29, 3, 2, 14, 138, 0, 0, []),
  (47, .iload_n 1, 1, 0, 0, 0, 0, 0, []),
  (48, .laload, 1, 0, 0, 0, 0, 0, []),
  (49, .iload_n 2, 1, 0, 0, 0, 0, 0, []),
  (50, .iconst 1, 1, 0, 0, 0, 1, 0, []),
  (51, .isub, 1, 0, 0, 0, 0, 0, []),
  (52, .invokestatic 113, 3, 26, 2, 283, 0, 0, []),
  (55, .iconst 1, 1, 0, 0, 0, 1, 0, []),
  (56, .iadd, 1, 0, 0, 0, 0, 0, []),
  (57, .istore 4, 2, 0, 0, 0, 0, 0, []),
  (59, .aload_n 0, 1, 0, 0, 0, 0, 0, []),
  (60, .iload_n 3, 1, 0, 0, 0, 0, 0, []),
  (61, .iconst 4, 1, 0, 0, 0, 4, 0, []),
  (62, .iload_n 1, 1, 0, 0, 0, 0, 0, []),
  (63, .aload_n 0, 1, 0, 0, 0, 0, 0, []),
  (64, .getfield 29, 3, 2, 14, 138, 0, 0, []),
  (67, .iload_n 1, 1, 0, 0, 0, 0, 0, []),
  (68, .laload, 1, 0, 0, 0, 0, 0, []),
  (69, .iload 4, 2, 0, 0, 0, 0, 0, []),
  (71, .invokestatic 175, 3, 11, 1, 418, 0, 0, []),
  (74, .land, 1, 0, 0, 0, 0, 0, []),
  (75, .invokevirtual 57, 3, 106, 205, 173, 0, 0, []),
  (78, .ireturn, 1, 0, 0, 0, 0, 0, [])]
def n_X6_first_57 (F : Nat × Nat) (ls : rx_L) (st : List Value) (u : Option rx_H) : Option (Int32 × Option rx_H) := match ls, st, u with
  | [some (.ref x0), some (.int x1), _, some (.int x3), _], [.int s0], u => f_X6_first_57 F x0 x1 x3 s0 u
  | _, _, _ => none
noncomputable def kk_X6_first_57 (F : Nat × Nat) : Nat → rx_L → List Value → Option rx_H → Option (Int32 × Option rx_H) := fun t ls st u => none
noncomputable def kk_X6_first_0 (F : Nat × Nat) : Nat → rx_L → List Value → Option rx_H → Option (Int32 × Option rx_H) := fun t ls st u => Bool.rec (motive := fun _ => Option (Int32 × Option rx_H)) (none) (n_X6_first_57 F ls st u) (Nat.beq t 57)
set_option maxRecDepth 100000 in
theorem g_X6_first_57 (F : Nat × Nat) (x0 : Nat) (x1 : Int32) (x3 : Int32) (s0 : Int32) (u : Option rx_H) : f_X6_first_57 F x0 x1 x3 s0 u = rx_node (C_X6_first F) rx_hI t_X6_first [57] (kk_X6_first_57 F) 50 57 [some (.ref x0), some (.int x1), none, some (.int x3), none] [.int s0] u := rfl
set_option maxRecDepth 100000 in
theorem g_X6_first_0 (F : Nat × Nat) (x0 : Nat) (x1 : Int32) (x2 : Int32) (x3 : Int32) (u : Option rx_H) : f_X6_first_0 F x0 x1 x2 x3 u = rx_node (C_X6_first F) rx_hI t_X6_first [57] (kk_X6_first_0 F) 50 0 [some (.ref x0), some (.int x1), some (.int x2), some (.int x3), none] [] u := rfl
def f_X6_sum_18 (F : Nat × Nat) : Nat → Nat → Int32 → Int32 → Int32 → Option rx_H → Option (Int32 × Option rx_H)
  | 0, _, _, _, _, _ => none
  | f + 1, x0, x1, x3, x4, u =>
    (rx_gI u x0 2 0).bind fun v1 =>
    if v1 < x4 then
      some (x3, u)
    else
      (rx_gR u x0 2 2).bind fun v2 =>
      (rx_aR u v2 x1).bind fun v3 =>
      (rx_gJ u v3 0 2).bind fun v4 =>
      (rx_gR u x0 2 3).bind fun v5 =>
      (rx_aJ u v5 x4).bind fun v6 =>
      (f_X0_size F (v4 &&& v6)).bind fun v7 =>
      (f_X2_factorial F x4).bind fun v8 =>
      (rx_gI u x0 2 0).bind fun v9 =>
      (f_X2_factorial F (v9 - x4)).bind fun v10 =>
      (f_X6_sum_18 F f) x0 x1 (x3 + ((v7 * v8) * v10)) (x4 + 1) u
def f_X6_sum_0 (F : Nat × Nat) (x0 : Nat) (x1 : Int32) (u : Option rx_H) : Option (Int32 × Option rx_H) :=
  (rx_ck u x0 2).bind fun _ =>
  (f_X6_familyRefusal F x0 x1 (1 : Int32) u).bind fun v1 =>
  if v1.1 = 0 then
    f_X6_sum_18 F F.1 x0 x1 (0 : Int32) (0 : Int32) v1.2
  else
    some (v1.1, v1.2)
def f_X6_sum (F : Nat × Nat) (x0 : Nat) (x1 : Int32) (u : Option rx_H) : Option (Int32 × Option rx_H) := f_X6_sum_0 F x0 x1 u
def c_X6_sum {α : Type} (F : Nat × Nat) (as : List Value) (u : Option rx_H) (κ : rx_K α) : Option α := match as with
  | [.ref a0, .int a1] => (f_X6_sum F a0 a1 u).bind fun r => κ (some (.int r.1)) r.2
  | _ => none
noncomputable def C_X6_sum {α : Type} (F : Nat × Nat) : rx_Cl α := fun j as u κ => Bool.rec (motive := fun _ => Option α) (Bool.rec (motive := fun _ => Option α) (Bool.rec (motive := fun _ => Option α) (none) (c_X6_familyRefusal F as u κ) (Nat.beq j 92)) (c_X2_factorial F as u κ) (Nat.beq j 48)) (c_X0_size F as u κ) (Nat.beq j 28)
def t_X6_sum : List rx_E := [
  (0, .aload_n 0, 1, 0, 0, 0, 0, 0, []),
  (1, .iload_n 1, 1, 0, 0, 0, 0, 0, []),
  (2, .iconst 1, 1, 0, 0, 0, 1, 0, []),
  (3, .invokevirtual 61, 3, 92, 203, 194, 0, 0, []),
  (6, .istore_n 2, 1, 0, 0, 0, 0, 0, []),
  (7, .iload_n 2, 1, 0, 0, 0, 0, 0, []),
  (8, .ifCond .eq 5, 3, 13, 0, 0, 0, 0, []),
  (11, .iload_n 2, 1, 0, 0, 0, 0, 0, []),
  (12, .ireturn, 1, 0, 0, 0, 0, 0, []),
  (13, .iconst 0, 1, 0, 0, 0, 0, 0, []),
  (14, .istore_n 3, 1, 0, 0, 0, 0, 0, []),
  (15, .iconst 0, 1, 0, 0, 0, 0, 0, []),
  (16, .istore 4, 2, 0, 0, 0, 0, 0, []),
  (18, .iload 4, 2, 0, 0, 0, 0, 0, []),
  (20, .aload_n 0, 1, 0, 0, 0, 0, 0, []),
  (21, .getfield 15, 3, 2, 0, 135, 0, 0, []),
  (24, .if_icmp .gt 49, 3, 73, 0, 0, 0, 0, []),
  (27, .iload_n 3, 1, 0, 0, 0, 0, 0, []),
  (28, .aload_n 0, 1, 0, 0, 0, 0, 0, []),
  (29, .getfield 24, 3, 2, 10, 137, 0, 0, []),
  (32, .iload_n 1, 1, 0, 0, 0, 0, 0, []),
  (33, .aaload, 1, 0, 0, 0, 0, 0, []),
  (34, .getfield 65, 3, 0, 9, 84, 0, 0, []),
  (37, .aload_n 0, 1, 0, 0, 0, 0, 0, []),
  (38, .getfield 29, 3, 2, 14, 138, 0, 0, []),
  (41, .iload 4, 2, 0, 0, 0, 0, 0, []),
  (43, .laload, 1, 0, 0, 0, 0, 0, []),
  (44, .land, 1, 0, 0, 0, 0, 0, []),
  (45, .invokestatic 80, 3, 28, 1, 181, 0, 0, []),
  (48, .iload 4, 2, 0, 0, 0, 0, 0, []),
  (50, .invokestatic 178, 3, 48, 1, 423, 0, 0, []),
  (53, .imul, 1, 0, 0, 0, 0, 0, []),
  (54, .aload_n 0, 1, 0, 0, 0, 0, 0, []),
  (55, .getfield 15, 3, 2, 0, 135, 0, 0, []),
  (58, .iload 4, 2, 0, 0, 0, 0, 0, []),
  (60, .isub, 1, 0, 0, 0, 0, 0, []),
  (61, .invokestatic 178, 3, 48, 1, 423, 0, 0, []),
  (64, .imul, 1, 0, 0, 0, 0, 0, []),
  (65, .iadd, 1, 0, 0, 0, 0, 0, []),
  (66, .istore_n 3, 1, 0, 0, 0, 0, 0, []),
  (67, .iinc 4 1, 3, 0, 0, 0, 1, 0, []),
  (70, .goto (-52), 3, 18, 0, 0, 0, 0, []),
  (73, .iload_n 3, 1, 0, 0, 0, 0, 0, []),
  (74, .ireturn, 1, 0, 0, 0, 0, 0, [])]
def n_X6_sum_18 (k18 : Nat → Int32 → Int32 → Int32 → Option rx_H → Option (Int32 × Option rx_H)) (ls : rx_L) (st : List Value) (u : Option rx_H) : Option (Int32 × Option rx_H) := match ls, st, u with
  | [some (.ref x0), some (.int x1), _, some (.int x3), some (.int x4)], [], u => k18 x0 x1 x3 x4 u
  | _, _, _ => none
noncomputable def kk_X6_sum_18 (F : Nat × Nat) (k18 : Nat → Int32 → Int32 → Int32 → Option rx_H → Option (Int32 × Option rx_H)) : Nat → rx_L → List Value → Option rx_H → Option (Int32 × Option rx_H) := fun t ls st u => Bool.rec (motive := fun _ => Option (Int32 × Option rx_H)) (none) (n_X6_sum_18 k18 ls st u) (Nat.beq t 18)
noncomputable def kk_X6_sum_0 (F : Nat × Nat) : Nat → rx_L → List Value → Option rx_H → Option (Int32 × Option rx_H) := fun t ls st u => Bool.rec (motive := fun _ => Option (Int32 × Option rx_H)) (none) (n_X6_sum_18 (f_X6_sum_18 F F.1) ls st u) (Nat.beq t 18)
set_option maxRecDepth 100000 in
theorem g_X6_sum_18 (F : Nat × Nat) (f : Nat) (x0 : Nat) (x1 : Int32) (x3 : Int32) (x4 : Int32) (u : Option rx_H) : f_X6_sum_18 F (f + 1) x0 x1 x3 x4 u = rx_node (C_X6_sum F) rx_hI t_X6_sum [18] (kk_X6_sum_18 F (f_X6_sum_18 F f)) 47 18 [some (.ref x0), some (.int x1), none, some (.int x3), some (.int x4)] [] u := rfl
set_option maxRecDepth 100000 in
theorem g_X6_sum_0 (F : Nat × Nat) (x0 : Nat) (x1 : Int32) (u : Option rx_H) : f_X6_sum_0 F x0 x1 u = rx_node (C_X6_sum F) rx_hI t_X6_sum [18] (kk_X6_sum_0 F) 47 0 [some (.ref x0), some (.int x1), none, none, none] [] u := rfl
def f_X6_rank_0 (F : Nat × Nat) (x0 : Nat) (x1 : Int32) (u : Option rx_H) : Option (Int32 × Option rx_H) :=
  (rx_ck u x0 2).bind fun _ =>
  (f_X6_isSet F x0 x1 u).bind fun v1 =>
  if v1.1 = 0 then
    some ((-1 : Int32), v1.2)
  else
    (rx_gR v1.2 x0 2 3).bind fun v2 =>
    (f_J6_bitCount_0f7a4 F x1).bind fun v3 =>
    (rx_aJ v1.2 v2 v3).bind fun v4 =>
    (f_X0_below F x1).bind fun v5 =>
    (f_X0_size F (v4 &&& v5)).bind fun v6 =>
    some (v6, v1.2)
def f_X6_rank (F : Nat × Nat) (x0 : Nat) (x1 : Int32) (u : Option rx_H) : Option (Int32 × Option rx_H) := f_X6_rank_0 F x0 x1 u
def c_X6_rank {α : Type} (F : Nat × Nat) (as : List Value) (u : Option rx_H) (κ : rx_K α) : Option α := match as with
  | [.ref a0, .int a1] => (f_X6_rank F a0 a1 u).bind fun r => κ (some (.int r.1)) r.2
  | _ => none
noncomputable def C_X6_rank {α : Type} (F : Nat × Nat) : rx_Cl α := fun j as u κ => Bool.rec (motive := fun _ => Option α) (Bool.rec (motive := fun _ => Option α) (Bool.rec (motive := fun _ => Option α) (Bool.rec (motive := fun _ => Option α) (none) (c_X6_isSet F as u κ) (Nat.beq j 103)) (c_X0_size F as u κ) (Nat.beq j 28)) (c_X0_below F as u κ) (Nat.beq j 11)) (c_J6_bitCount_0f7a4 F as u κ) (Nat.beq j 1)
def t_X6_rank : List rx_E := [
  (0, .aload_n 0, 1, 0, 0, 0, 0, 0, []),
  (1, .iload_n 1, 1, 0, 0, 0, 0, 0, []),
  (2, .invokevirtual 73, 3, 103, 202, 206, 0, 0, []),
  (5, .ifCond .ne 5, 3, 10, 0, 0, 0, 0, []),
  (8, .iconst (-1), 1, 0, 0, 0, (-1), 0, []),
  (9, .ireturn, 1, 0, 0, 0, 0, 0, []),
  (10, .aload_n 0, 1, 0, 0, 0, 0, 0, []),
  (11, .getfield 29, 3, 2, 14, 138, 0, 0, []),
  (14, .iload_n 1, 1, 0, 0, 0, 0, 0, []),
  (15, .invokestatic 33, 3, 1, 1, 106, 0, 0, []),
  (18, .laload, 1, 0, 0, 0, 0, 0, []),
  (19, .iload_n 1, 1, 0, 0, 0, 0, 0, []),
  (20, .invokestatic 175, 3, 11, 1, 418, 0, 0, []),
  (23, .land, 1, 0, 0, 0, 0, 0, []),
  (24, .invokestatic 80, 3, 28, 1, 181, 0, 0, []),
  (27, .ireturn, 1, 0, 0, 0, 0, 0, [])]
noncomputable def kk_X6_rank_0 (F : Nat × Nat) : Nat → rx_L → List Value → Option rx_H → Option (Int32 × Option rx_H) := fun t ls st u => none
set_option maxRecDepth 100000 in
theorem g_X6_rank_0 (F : Nat × Nat) (x0 : Nat) (x1 : Int32) (u : Option rx_H) : f_X6_rank_0 F x0 x1 u = rx_node (C_X6_rank F) rx_hI t_X6_rank [] (kk_X6_rank_0 F) 19 0 [some (.ref x0), some (.int x1)] [] u := rfl
def f_X6_ranked_0 (F : Nat × Nat) (x0 : Nat) (x1 : Int32) (x2 : Int32) (u : Option rx_H) : Option (Int32 × Option rx_H) :=
  (rx_ck u x0 2).bind fun _ =>
  (f_X6_isSize F x0 x1 u).bind fun v1 =>
  if v1.1 = 0 then
    some ((-1 : Int32), v1.2)
  else
    if x2 < 0 then
      some ((-1 : Int32), v1.2)
    else
      (rx_gR v1.2 x0 2 3).bind fun v2 =>
      (rx_aJ v1.2 v2 x1).bind fun v3 =>
      (f_X0_setAt F v3 x2).bind fun v4 =>
      some (v4, v1.2)
def f_X6_ranked (F : Nat × Nat) (x0 : Nat) (x1 : Int32) (x2 : Int32) (u : Option rx_H) : Option (Int32 × Option rx_H) := f_X6_ranked_0 F x0 x1 x2 u
def c_X6_ranked {α : Type} (F : Nat × Nat) (as : List Value) (u : Option rx_H) (κ : rx_K α) : Option α := match as with
  | [.ref a0, .int a1, .int a2] => (f_X6_ranked F a0 a1 a2 u).bind fun r => κ (some (.int r.1)) r.2
  | _ => none
noncomputable def C_X6_ranked {α : Type} (F : Nat × Nat) : rx_Cl α := fun j as u κ => Bool.rec (motive := fun _ => Option α) (Bool.rec (motive := fun _ => Option α) (none) (c_X6_isSize F as u κ) (Nat.beq j 104)) (c_X0_setAt F as u κ) (Nat.beq j 26)
def t_X6_ranked : List rx_E := [
  (0, .aload_n 0, 1, 0, 0, 0, 0, 0, []),
  (1, .iload_n 1, 1, 0, 0, 0, 0, 0, []),
  (2, .invokevirtual 172, 3, 104, 202, 169, 0, 0, []),
  (5, .ifCond .eq 7, 3, 12, 0, 0, 0, 0, []),
  (8, .iload_n 2, 1, 0, 0, 0, 0, 0, []),
  (9, .ifCond .ge 5, 3, 14, 0, 0, 0, 0, []),
  (12, .iconst (-1), 1, 0, 0, 0, (-1), 0, []),
  (13, .ireturn, 1, 0, 0, 0, 0, 0, []),
  (14, .aload_n 0, 1, 0, 0, 0, 0, 0, []),
  (15, .getfield 29, 3, 2, 14, 138, 0, 0, []),
  (18, .iload_n 1, 1, 0, 0, 0, 0, 0, []),
  (19, .laload, 1, 0, 0, 0, 0, 0, []),
  (20, .iload_n 2, 1, 0, 0, 0, 0, 0, []),
  (21, .invokestatic 113, 3, 26, 2, 283, 0, 0, []),
  (24, .ireturn, 1, 0, 0, 0, 0, 0, [])]
noncomputable def kk_X6_ranked_0 (F : Nat × Nat) : Nat → rx_L → List Value → Option rx_H → Option (Int32 × Option rx_H) := fun t ls st u => none
set_option maxRecDepth 100000 in
theorem g_X6_ranked_0 (F : Nat × Nat) (x0 : Nat) (x1 : Int32) (x2 : Int32) (u : Option rx_H) : f_X6_ranked_0 F x0 x1 x2 u = rx_node (C_X6_ranked F) rx_hI t_X6_ranked [] (kk_X6_ranked_0 F) 18 0 [some (.ref x0), some (.int x1), some (.int x2)] [] u := rfl
def f_X6_chain_60 (F : Nat × Nat) : Nat → Nat → Int32 → Int32 → Int32 → Option rx_H → Option (Int32 × Option rx_H)
  | 0, _, _, _, _, _ => none
  | f + 1, x0, x3, x4, x5, u =>
    if x5 < x3 then
      (rx_gI u x0 2 0).bind fun v1 =>
      (f_X2_matchedOnes F x5 v1).bind fun v2 =>
      if v2 = x5 then
        (f_X6_chain_60 F f) x0 x3 (x4 + (1 : Int32)) (x5 + 1) u
      else
        (f_X6_chain_60 F f) x0 x3 (x4 + (0 : Int32)) (x5 + 1) u
    else
      some (x4, u)
def f_X6_chain_0 (F : Nat × Nat) (x0 : Nat) (x1 : Int32) (x2 : Int32) (u : Option rx_H) : Option (Int32 × Option rx_H) :=
  (rx_ck u x0 2).bind fun _ =>
  (f_X6_isSet F x0 x1 u).bind fun v1 =>
  if v1.1 = 0 then
    some ((-1 : Int32), v1.2)
  else
    if x2 < 0 then
      some ((-1 : Int32), v1.2)
    else
      if (2 : Int32) < x2 then
        some ((-1 : Int32), v1.2)
      else
        (rx_gI v1.2 x0 2 0).bind fun v2 =>
        (f_X2_matchedOnes F x1 v2).bind fun v3 =>
        if x2 = (1 : Int32) then
          some (v3, v1.2)
        else
          if x2 = (2 : Int32) then
            (rx_gI v1.2 x0 2 0).bind fun v4 =>
            (f_J6_bitCount_0f7a4 F v3).bind fun v5 =>
            some ((v4 - ((2 : Int32) * v5)) + (1 : Int32), v1.2)
          else
            f_X6_chain_60 F F.1 x0 v3 (0 : Int32) (0 : Int32) v1.2
def f_X6_chain (F : Nat × Nat) (x0 : Nat) (x1 : Int32) (x2 : Int32) (u : Option rx_H) : Option (Int32 × Option rx_H) := f_X6_chain_0 F x0 x1 x2 u
def c_X6_chain {α : Type} (F : Nat × Nat) (as : List Value) (u : Option rx_H) (κ : rx_K α) : Option α := match as with
  | [.ref a0, .int a1, .int a2] => (f_X6_chain F a0 a1 a2 u).bind fun r => κ (some (.int r.1)) r.2
  | _ => none
noncomputable def C_X6_chain {α : Type} (F : Nat × Nat) : rx_Cl α := fun j as u κ => Bool.rec (motive := fun _ => Option α) (Bool.rec (motive := fun _ => Option α) (Bool.rec (motive := fun _ => Option α) (none) (c_X6_isSet F as u κ) (Nat.beq j 103)) (c_X2_matchedOnes F as u κ) (Nat.beq j 50)) (c_J6_bitCount_0f7a4 F as u κ) (Nat.beq j 1)
def t_X6_chain : List rx_E := [
  (0, .aload_n 0, 1, 0, 0, 0, 0, 0, []),
  (1, .iload_n 1, 1, 0, 0, 0, 0, 0, []),
  (2, .invokevirtual 73, 3, 103, 202, 206, 0, 0, []),
  (5, .ifCond .eq 12, 3, 17, 0, 0, 0, 0, []),
  (8, .iload_n 2, 1, 0, 0, 0, 0, 0, []),
  (9, .ifCond .lt 8, 3, 17, 0, 0, 0, 0, []),
  (12, .iload_n 2, 1, 0, 0, 0, 0, 0, []),
  (13, .iconst 2, 1, 0, 0, 0, 2, 0, []),
  (14, .if_icmp .le 5, 3, 19, 0, 0, 0, 0, []),
  (17, .iconst (-1), 1, 0, 0, 0, (-1), 0, []),
  (18, .ireturn, 1, 0, 0, 0, 0, 0, []),
  (19, .iload_n 1, 1, 0, 0, 0, 0, 0, []),
  (20, .aload_n 0, 1, 0, 0, 0, 0, 0, []),
  (21, .getfield 15, 3, 2, 0, 135, 0, 0, []),
  (24, .invokestatic 193, 3, 50, 2, 463, 0, 0, []),
  (27, .istore_n 3, 1, 0, 0, 0, 0, 0, []),
  (28, .iload_n 2, 1, 0, 0, 0, 0, 0, []),
  (29, .iconst 1, 1, 0, 0, 0, 1, 0, []),
  (30, .if_icmp .ne 5, 3, 35, 0, 0, 0, 0, []),
  (33, .iload_n 3, 1, 0, 0, 0, 0, 0, []),
  (34, .ireturn, 1, 0, 0, 0, 0, 0, []),
  (35, .iload_n 2, 1, 0, 0, 0, 0, 0, []),
  (36, .iconst 2, 1, 0, 0, 0, 2, 0, []),
  (37, .if_icmp .ne 17, 3, 54, 0, 0, 0, 0, []),
  (40, .aload_n 0, 1, 0, 0, 0, 0, 0, []),
  (41, .getfield 15, 3, 2, 0, 135, 0, 0, []),
  (44, .iconst 2, 1, 0, 0, 0, 2, 0, []),
  (45, .iload_n 3, 1, 0, 0, 0, 0, 0, []),
  (46, .invokestatic 33, 3, 1, 1, 106, 0, 0, []),
  (49, .imul, 1, 0, 0, 0, 0, 0, []),
  (50, .isub, 1, 0, 0, 0, 0, 0, []),
  (51, .iconst 1, 1, 0, 0, 0, 1, 0, []),
  (52, .iadd, 1, 0, 0, 0, 0, 0, []),
  (53, .ireturn, 1, 0, 0, 0, 0, 0, []),
  (54, .iconst 0, 1, 0, 0, 0, 0, 0, []),
  (55, .istore 4, 2, 0, 0, 0, 0, 0, []),
  (57, .iconst 0, 1, 0, 0, 0, 0, 0, []),
  (58, .istore 5, 2, 0, 0, 0, 0, 0, []),
  (60, .iload 5, 2, 0, 0, 0, 0, 0, []),
  (62, .iload_n 3, 1, 0, 0, 0, 0, 0, []),
  (63, .if_icmp .ge 33, 3, 96, 0, 0, 0, 0, []),
  (66, .iload 4, 2, 0, 0, 0, 0, 0, []),
  (68, .iload 5, 2, 0, 0, 0, 0, 0, []),
  (70, .aload_n 0, 1, 0, 0, 0, 0, 0, []),
  (71, .getfield 15, 3, 2, 0, 135, 0, 0, []),
  (74, .invokestatic 193, 3, 50, 2, 463, 0, 0, []),
  (77, .iload 5, 2, 0, 0, 0, 0, 0, []),
  (79, .if_icmp .ne 7, 3, 86, 0, 0, 0, 0, []),
  (82, .iconst 1, 1, 0, 0, 0, 1, 0, []),
  (83, .goto 4, 3, 87, 0, 0, 0, 0, []),
  (86, .iconst 0, 1, 0, 0, 0, 0, 0, []),
  (87, .iadd, 1, 0, 0, 0, 0, 0, []),
  (88, .istore 4, 2, 0, 0, 0, 0, 0, []),
  (90, .iinc 5 1, 3, 0, 0, 0, 1, 0, []),
  (93, .goto (-33), 3, 60, 0, 0, 0, 0, []),
  (96, .iload 4, 2, 0, 0, 0, 0, 0, []),
  (98, .ireturn, 1, 0, 0, 0, 0, 0, [])]
def n_X6_chain_60 (k60 : Nat → Int32 → Int32 → Int32 → Option rx_H → Option (Int32 × Option rx_H)) (ls : rx_L) (st : List Value) (u : Option rx_H) : Option (Int32 × Option rx_H) := match ls, st, u with
  | [some (.ref x0), _, _, some (.int x3), some (.int x4), some (.int x5)], [], u => k60 x0 x3 x4 x5 u
  | _, _, _ => none
noncomputable def kk_X6_chain_60 (F : Nat × Nat) (k60 : Nat → Int32 → Int32 → Int32 → Option rx_H → Option (Int32 × Option rx_H)) : Nat → rx_L → List Value → Option rx_H → Option (Int32 × Option rx_H) := fun t ls st u => Bool.rec (motive := fun _ => Option (Int32 × Option rx_H)) (none) (n_X6_chain_60 k60 ls st u) (Nat.beq t 60)
noncomputable def kk_X6_chain_0 (F : Nat × Nat) : Nat → rx_L → List Value → Option rx_H → Option (Int32 × Option rx_H) := fun t ls st u => Bool.rec (motive := fun _ => Option (Int32 × Option rx_H)) (none) (n_X6_chain_60 (f_X6_chain_60 F F.1) ls st u) (Nat.beq t 60)
set_option maxRecDepth 100000 in
theorem g_X6_chain_60 (F : Nat × Nat) (f : Nat) (x0 : Nat) (x3 : Int32) (x4 : Int32) (x5 : Int32) (u : Option rx_H) : f_X6_chain_60 F (f + 1) x0 x3 x4 x5 u = rx_node (C_X6_chain F) rx_hI t_X6_chain [60] (kk_X6_chain_60 F (f_X6_chain_60 F f)) 60 60 [some (.ref x0), none, none, some (.int x3), some (.int x4), some (.int x5)] [] u := rfl
set_option maxRecDepth 100000 in
theorem g_X6_chain_0 (F : Nat × Nat) (x0 : Nat) (x1 : Int32) (x2 : Int32) (u : Option rx_H) : f_X6_chain_0 F x0 x1 x2 u = rx_node (C_X6_chain F) rx_hI t_X6_chain [60] (kk_X6_chain_0 F) 60 0 [some (.ref x0), some (.int x1), some (.int x2), none, none, none] [] u := rfl
def f_X6_ring_50 (F : Nat × Nat) : Nat → Nat → Int32 → Int32 → Int32 → Int32 → Int32 → Option rx_H → Option (Int32 × Option rx_H)
  | 0, _, _, _, _, _, _, _ => none
  | f + 1, x0, x1, x2, x3, x5, x6, u =>
    (rx_gI u x0 2 0).bind fun v1 =>
    if x6 < v1 then
      (rx_gR u x0 2 2).bind fun v2 =>
      (rx_aR u v2 x1).bind fun v3 =>
      (rx_gJ u v3 0 2).bind fun v4 =>
      (rx_gI u x0 2 0).bind fun v5 =>
      (f_X3_stretch F x2 x6 x3 v5).bind fun v6 =>
      (f_X0_holdsSet F v4 v6).bind fun v7 =>
      if v7 = 0 then
        (f_X6_ring_50 F f) x0 x1 x2 x3 (x5 + (0 : Int32)) (x6 + 1) u
      else
        (f_X6_ring_50 F f) x0 x1 x2 x3 (x5 + (1 : Int32)) (x6 + 1) u
    else
      some (x5, u)
def f_X6_ring_31 (F : Nat × Nat) (x0 : Nat) (x1 : Int32) (x2 : Int32) (x3 : Int32) (s0 : Nat) (s1 : Int32) (s2 : Int32) (u : Option rx_H) : Option (Int32 × Option rx_H) :=
  (rx_ck u s0 2).bind fun _ =>
  (f_X6_familyRefusal F s0 s1 s2 u).bind fun v1 =>
  if v1.1 = 0 then
    f_X6_ring_50 F F.1 x0 x1 x2 x3 (0 : Int32) (0 : Int32) v1.2
  else
    some (v1.1, v1.2)
def f_X6_ring_0 (F : Nat × Nat) (x0 : Nat) (x1 : Int32) (x2 : Int32) (x3 : Int32) (u : Option rx_H) : Option (Int32 × Option rx_H) :=
  (rx_gI u x0 2 0).bind fun v1 =>
  (f_X3_isOrder F x2 v1).bind fun v2 =>
  if v2 = 0 then
    f_X6_ring_31 F x0 x1 x2 x3 x0 x1 (0 : Int32) u
  else
    if x3 < (1 : Int32) then
      f_X6_ring_31 F x0 x1 x2 x3 x0 x1 (0 : Int32) u
    else
      (rx_gI u x0 2 0).bind fun v3 =>
      if x3 < v3 then
        f_X6_ring_31 F x0 x1 x2 x3 x0 x1 (1 : Int32) u
      else
        f_X6_ring_31 F x0 x1 x2 x3 x0 x1 (0 : Int32) u
def f_X6_ring (F : Nat × Nat) (x0 : Nat) (x1 : Int32) (x2 : Int32) (x3 : Int32) (u : Option rx_H) : Option (Int32 × Option rx_H) := f_X6_ring_0 F x0 x1 x2 x3 u
def c_X6_ring {α : Type} (F : Nat × Nat) (as : List Value) (u : Option rx_H) (κ : rx_K α) : Option α := match as with
  | [.ref a0, .int a1, .int a2, .int a3] => (f_X6_ring F a0 a1 a2 a3 u).bind fun r => κ (some (.int r.1)) r.2
  | _ => none
noncomputable def C_X6_ring {α : Type} (F : Nat × Nat) : rx_Cl α := fun j as u κ => Bool.rec (motive := fun _ => Option α) (Bool.rec (motive := fun _ => Option α) (Bool.rec (motive := fun _ => Option α) (Bool.rec (motive := fun _ => Option α) (none) (c_X6_familyRefusal F as u κ) (Nat.beq j 92)) (c_X3_stretch F as u κ) (Nat.beq j 57)) (c_X3_isOrder F as u κ) (Nat.beq j 55)) (c_X0_holdsSet F as u κ) (Nat.beq j 13)
def t_X6_ring : List rx_E := [
  (0, .aload_n 0, 1, 0, 0, 0, 0, 0, []),
  (1, .iload_n 1, 1, 0, 0, 0, 0, 0, []),
  (2, .iload_n 2, 1, 0, 0, 0, 0, 0, []),
  (3, .aload_n 0, 1, 0, 0, 0, 0, 0, []),
  (4, .getfield 15, 3, 2, 0, 135, 0, 0, []),
  (7, .invokestatic 157, 3, 55, 2, 389, 0, 0, []),
  (10, .ifCond .eq 20, 3, 30, 0, 0, 0, 0, []),
  (13, .iload_n 3, 1, 0, 0, 0, 0, 0, []),
  (14, .iconst 1, 1, 0, 0, 0, 1, 0, []),
  (15, .if_icmp .lt 15, 3, 30, 0, 0, 0, 0, []),
  (18, .iload_n 3, 1, 0, 0, 0, 0, 0, []),
  (19, .aload_n 0, 1, 0, 0, 0, 0, 0, []),
  (20, .getfield 15, 3, 2, 0, 135, 0, 0, []),
  (23, .if_icmp .ge 7, 3, 30, 0, 0, 0, 0, []),
  (26, .iconst 1, 1, 0, 0, 0, 1, 0, []),
  (27, .goto 4, 3, 31, 0, 0, 0, 0, []),
  (30, .iconst 0, 1, 0, 0, 0, 0, 0, []),
  (31, .invokevirtual 61, 3, 92, 203, 194, 0, 0, []),
  (34, .istore 4, 2, 0, 0, 0, 0, 0, []),
  (36, .iload 4, 2, 0, 0, 0, 0, 0, []),
  (38, .ifCond .eq 6, 3, 44, 0, 0, 0, 0, []),
  (41, .iload 4, 2, 0, 0, 0, 0, 0, []),
  (43, .ireturn, 1, 0, 0, 0, 0, 0, []),
  (44, .iconst 0, 1, 0, 0, 0, 0, 0, []),
  (45, .istore 5, 2, 0, 0, 0, 0, 0, []),
  (47, .iconst 0, 1, 0, 0, 0, 0, 0, []),
  (48, .istore 6, 2, 0, 0, 0, 0, 0, []),
  (50, .iload 6, 2, 0, 0, 0, 0, 0, []),
  (52, .aload_n 0, 1, 0, 0, 0, 0, 0, []),
  (53, .getfield 15, 3, 2, 0, 135, 0, 0, []),
  (56, .if_icmp .ge 45, 3, 101, 0, 0, 0, 0, []),
  (59, .iload 5, 2, 0, 0, 0, 0, 0, []),
  (61, .aload_n 0, 1, 0, 0, 0, 0, 0, []),
  (62, .getfield 24, 3, 2, 10, 137, 0, 0, []),
  (65, .iload_n 1, 1, 0, 0, 0, 0, 0, []),
  (66, .aaload, 1, 0, 0, 0, 0, 0, []),
  (67, .getfield 65, 3, 0, 9, 84, 0, 0, []),
  (70, .iload_n 2, 1, 0, 0, 0, 0, 0, []),
  (71, .iload 6, 2, 0, 0, 0, 0, 0, []),
  (73, .iload_n 3, 1, 0, 0, 0, 0, 0, []),
  (74, .aload_n 0, 1, 0, 0, 0, 0, 0, []),
  (75, .getfield 15, 3, 2, 0, 135, 0, 0, []),
  (78, .invokestatic 196, 3, 57, 4, 470, 0, 0, []),
  (81, .invokestatic 86, 3, 13, 2, 250, 0, 0, []),
  (84, .ifCond .eq 7, 3, 91, 0, 0, 0, 0, []),
  (87, .iconst 1, 1, 0, 0, 0, 1, 0, []),
  (88, .goto 4, 3, 92, 0, 0, 0, 0, []),
  (91, .iconst 0, 1, 0, 0, 0, 0, 0, []),
  (92, .iadd, 1, 0, 0, 0, 0, 0, []),
  (93, .istore 5, 2, 0, 0, 0, 0, 0, []),
  (95, .iinc 6 1, 3, 0, 0, 0, 1, 0, []),
  (98, .goto (-48), 3, 50, 0, 0, 0, 0, []),
  (101, .iload 5, 2, 0, 0, 0, 0, 0, []),
  (103, .ireturn, 1, 0, 0, 0, 0, 0, [])]
def n_X6_ring_31 (F : Nat × Nat) (ls : rx_L) (st : List Value) (u : Option rx_H) : Option (Int32 × Option rx_H) := match ls, st, u with
  | [some (.ref x0), some (.int x1), some (.int x2), some (.int x3), _, _, _], [.int s2, .int s1, .ref s0], u => f_X6_ring_31 F x0 x1 x2 x3 s0 s1 s2 u
  | _, _, _ => none
def n_X6_ring_50 (k50 : Nat → Int32 → Int32 → Int32 → Int32 → Int32 → Option rx_H → Option (Int32 × Option rx_H)) (ls : rx_L) (st : List Value) (u : Option rx_H) : Option (Int32 × Option rx_H) := match ls, st, u with
  | [some (.ref x0), some (.int x1), some (.int x2), some (.int x3), _, some (.int x5), some (.int x6)], [], u => k50 x0 x1 x2 x3 x5 x6 u
  | _, _, _ => none
noncomputable def kk_X6_ring_50 (F : Nat × Nat) (k50 : Nat → Int32 → Int32 → Int32 → Int32 → Int32 → Option rx_H → Option (Int32 × Option rx_H)) : Nat → rx_L → List Value → Option rx_H → Option (Int32 × Option rx_H) := fun t ls st u => Bool.rec (motive := fun _ => Option (Int32 × Option rx_H)) (none) (n_X6_ring_50 k50 ls st u) (Nat.beq t 50)
noncomputable def kk_X6_ring_31 (F : Nat × Nat) : Nat → rx_L → List Value → Option rx_H → Option (Int32 × Option rx_H) := fun t ls st u => Bool.rec (motive := fun _ => Option (Int32 × Option rx_H)) (none) (n_X6_ring_50 (f_X6_ring_50 F F.1) ls st u) (Nat.beq t 50)
noncomputable def kk_X6_ring_0 (F : Nat × Nat) : Nat → rx_L → List Value → Option rx_H → Option (Int32 × Option rx_H) := fun t ls st u => Bool.rec (motive := fun _ => Option (Int32 × Option rx_H)) (none) (n_X6_ring_31 F ls st u) (Nat.beq t 31)
set_option maxRecDepth 100000 in
theorem g_X6_ring_50 (F : Nat × Nat) (f : Nat) (x0 : Nat) (x1 : Int32) (x2 : Int32) (x3 : Int32) (x5 : Int32) (x6 : Int32) (u : Option rx_H) : f_X6_ring_50 F (f + 1) x0 x1 x2 x3 x5 x6 u = rx_node (C_X6_ring F) rx_hI t_X6_ring [31, 50] (kk_X6_ring_50 F (f_X6_ring_50 F f)) 57 50 [some (.ref x0), some (.int x1), some (.int x2), some (.int x3), none, some (.int x5), some (.int x6)] [] u := rfl
set_option maxRecDepth 100000 in
theorem g_X6_ring_31 (F : Nat × Nat) (x0 : Nat) (x1 : Int32) (x2 : Int32) (x3 : Int32) (s0 : Nat) (s1 : Int32) (s2 : Int32) (u : Option rx_H) : f_X6_ring_31 F x0 x1 x2 x3 s0 s1 s2 u = rx_node (C_X6_ring F) rx_hI t_X6_ring [31, 50] (kk_X6_ring_31 F) 57 31 [some (.ref x0), some (.int x1), some (.int x2), some (.int x3), none, none, none] [.int s2, .int s1, .ref s0] u := rfl
set_option maxRecDepth 100000 in
theorem g_X6_ring_0 (F : Nat × Nat) (x0 : Nat) (x1 : Int32) (x2 : Int32) (x3 : Int32) (u : Option rx_H) : f_X6_ring_0 F x0 x1 x2 x3 u = rx_node (C_X6_ring F) rx_hI t_X6_ring [31, 50] (kk_X6_ring_0 F) 57 0 [some (.ref x0), some (.int x1), some (.int x2), some (.int x3), none, none, none] [] u := rfl
def f_X6_weight_47 (F : Nat × Nat) : Nat → Nat → Int32 → Int32 → Int32 → Int64 → Int32 → Option rx_H → Option (Int64 × Option rx_H)
  | 0, _, _, _, _, _, _, _ => none
  | f + 1, x0, x1, x2, x3, x5, x7, u =>
    (rx_gI u x0 2 0).bind fun v1 =>
    if v1 < x7 then
      some (x5, u)
    else
      (rx_gR u x0 2 2).bind fun v2 =>
      (rx_aR u v2 x1).bind fun v3 =>
      (rx_gJ u v3 0 2).bind fun v4 =>
      (rx_gR u x0 2 3).bind fun v5 =>
      (rx_aJ u v5 x7).bind fun v6 =>
      (f_X0_size F (v4 &&& v6)).bind fun v7 =>
      (f_X2_power F x2 x7).bind fun v8 =>
      (rx_gI u x0 2 0).bind fun v9 =>
      (f_X2_power F (x3 - x2) (v9 - x7)).bind fun v10 =>
      (f_X6_weight_47 F f) x0 x1 x2 x3 (x5 + (((Int32.toInt64 v7) * v8) * v10)) (x7 + 1) u
def f_X6_weight_27 (F : Nat × Nat) (x0 : Nat) (x1 : Int32) (x2 : Int32) (x3 : Int32) (s0 : Nat) (s1 : Int32) (s2 : Int32) (u : Option rx_H) : Option (Int64 × Option rx_H) :=
  (rx_ck u s0 2).bind fun _ =>
  (f_X6_familyRefusal F s0 s1 s2 u).bind fun v1 =>
  if v1.1 = 0 then
    f_X6_weight_47 F F.1 x0 x1 x2 x3 (0 : Int64) (0 : Int32) v1.2
  else
    some (Int32.toInt64 v1.1, v1.2)
def f_X6_weight_0 (F : Nat × Nat) (x0 : Nat) (x1 : Int32) (x2 : Int32) (x3 : Int32) (u : Option rx_H) : Option (Int64 × Option rx_H) :=
  if x3 < (1 : Int32) then
    f_X6_weight_27 F x0 x1 x2 x3 x0 x1 (0 : Int32) u
  else
    if (9 : Int32) < x3 then
      f_X6_weight_27 F x0 x1 x2 x3 x0 x1 (0 : Int32) u
    else
      if x2 < 0 then
        f_X6_weight_27 F x0 x1 x2 x3 x0 x1 (0 : Int32) u
      else
        if x3 < x2 then
          f_X6_weight_27 F x0 x1 x2 x3 x0 x1 (0 : Int32) u
        else
          f_X6_weight_27 F x0 x1 x2 x3 x0 x1 (1 : Int32) u
def f_X6_weight (F : Nat × Nat) (x0 : Nat) (x1 : Int32) (x2 : Int32) (x3 : Int32) (u : Option rx_H) : Option (Int64 × Option rx_H) := f_X6_weight_0 F x0 x1 x2 x3 u
def c_X6_weight {α : Type} (F : Nat × Nat) (as : List Value) (u : Option rx_H) (κ : rx_K α) : Option α := match as with
  | [.ref a0, .int a1, .int a2, .int a3] => (f_X6_weight F a0 a1 a2 a3 u).bind fun r => κ (some (.long r.1)) r.2
  | _ => none
noncomputable def C_X6_weight {α : Type} (F : Nat × Nat) : rx_Cl α := fun j as u κ => Bool.rec (motive := fun _ => Option α) (Bool.rec (motive := fun _ => Option α) (Bool.rec (motive := fun _ => Option α) (none) (c_X6_familyRefusal F as u κ) (Nat.beq j 92)) (c_X2_power F as u κ) (Nat.beq j 51)) (c_X0_size F as u κ) (Nat.beq j 28)
def t_X6_weight : List rx_E := [
  (0, .aload_n 0, 1, 0, 0, 0, 0, 0, []),
  (1, .iload_n 1, 1, 0, 0, 0, 0, 0, []),
  (2, .iload_n 3, 1, 0, 0, 0, 0, 0, []),
  (3, .iconst 1, 1, 0, 0, 0, 1, 0, []),
  (4, .if_icmp .lt 22, 3, 26, 0, 0, 0, 0, []),
  (7, .iload_n 3, 1, 0, 0, 0, 0, 0, []),
  (8, .bipush 9, 2, 0, 0, 0, 9, 0, []),
  (10, .if_icmp .gt 16, 3, 26, 0, 0, 0, 0, []),
  (13, .iload_n 2, 1, 0, 0, 0, 0, 0, []),
  (14, .ifCond .lt 12, 3, 26, 0, 0, 0, 0, []),
  (17, .iload_n 2, 1, 0, 0, 0, 0, 0, []),
  (18, .iload_n 3, 1, 0, 0, 0, 0, 0, []),
  (19, .if_icmp .gt 7, 3, 26, 0, 0, 0, 0, []),
  (22, .iconst 1, 1, 0, 0, 0, 1, 0, []),
  (23, .goto 4, 3, 27, 0, 0, 0, 0, []),
  (26, .iconst 0, 1, 0, 0, 0, 0, 0, []),
  (27, .invokevirtual 61, 3, 92, 203, 194, 0, 0, []),
  (30, .istore 4, 2, 0, 0, 0, 0, 0, []),
  (32, .iload 4, 2, 0, 0, 0, 0, 0, []),
  (34, .ifCond .eq 7, 3, 41, 0, 0, 0, 0, []),
  (37, .iload 4, 2, 0, 0, 0, 0, 0, []),
  (39, .i2l, 1, 0, 0, 0, 0, 0, []),
  (40, .lreturn, 1, 0, 0, 0, 0, 0, []),
  (41, .lconst 0, 1, 0, 0, 0, 0, 0, []),
  (42, .lstore 5, 2, 0, 0, 0, 0, 0, []),
  (44, .iconst 0, 1, 0, 0, 0, 0, 0, []),
  (45, .istore 7, 2, 0, 0, 0, 0, 0, []),
  (47, .iload 7, 2, 0, 0, 0, 0, 0, []),
  (49, .aload_n 0, 1, 0, 0, 0, 0, 0, []),
  (50, .getfield 15, 3, 2, 0, 135, 0, 0, []),
  (53, .if_icmp .gt 56, 3, 109, 0, 0, 0, 0, []),
  (56, .lload 5, 2, 0, 0, 0, 0, 0, []),
  (58, .aload_n 0, 1, 0, 0, 0, 0, 0, []),
  (59, .getfield 24, 3, 2, 10, 137, 0, 0, []),
  (62, .iload_n 1, 1, 0, 0, 0, 0, 0, []),
  (63, .aaload, 1, 0, 0, 0, 0, 0, []),
  (64, .getfield 65, 3, 0, 9, 84, 0, 0, []),
  (67, .aload_n 0, 1, 0, 0, 0, 0, 0, []),
  (68, .getfield 29, 3, 2, 14, 138, 0, 0, []),
  (71, .iload 7, 2, 0, 0, 0, 0, 0, []),
  (73, .laload, 1, 0, 0, 0, 0, 0, []),
  (74, .land, 1, 0, 0, 0, 0, 0, []),
  (75, .invokestatic 80, 3, 28, 1, 181, 0, 0, []),
  (78, .i2l, 1, 0, 0, 0, 0, 0, []),
  (79, .iload_n 2, 1, 0, 0, 0, 0, 0, []),
  (80, .iload 7, 2, 0, 0, 0, 0, 0, []),
  (82, .invokestatic 200, 3, 51, 2, 477, 0, 0, []),
  (85, .lmul, 1, 0, 0, 0, 0, 0, []),
  (86, .iload_n 3, 1, 0, 0, 0, 0, 0, []),
  (87, .iload_n 2, 1, 0, 0, 0, 0, 0, []),
  (88, .isub, 1, 0, 0, 0, 0, 0, []),
  (89, .aload_n 0, 1, 0, 0, 0, 0, 0, []),
  (90, .getfield 15, 3, 2, 0, 135, 0, 0, []),
  (93, .iload 7, 2, 0, 0, 0, 0, 0, []),
  (95, .isub, 1, 0, 0, 0, 0, 0, []),
  (96, .invokestatic 200, 3, 51, 2, 477, 0, 0, []),
  (99, .lmul, 1, 0, 0, 0, 0, 0, []),
  (100, .ladd, 1, 0, 0, 0, 0, 0, []),
  (101, .lstore 5, 2, 0, 0, 0, 0, 0, []),
  (103, .iinc 7 1, 3, 0, 0, 0, 1, 0, []),
  (106, .goto (-59), 3, 47, 0, 0, 0, 0, []),
  (109, .lload 5, 2, 0, 0, 0, 0, 0, []),
  (111, .lreturn, 1, 0, 0, 0, 0, 0, [])]
def n_X6_weight_27 (F : Nat × Nat) (ls : rx_L) (st : List Value) (u : Option rx_H) : Option (Int64 × Option rx_H) := match ls, st, u with
  | [some (.ref x0), some (.int x1), some (.int x2), some (.int x3), _, _, _, _], [.int s2, .int s1, .ref s0], u => f_X6_weight_27 F x0 x1 x2 x3 s0 s1 s2 u
  | _, _, _ => none
def n_X6_weight_47 (k47 : Nat → Int32 → Int32 → Int32 → Int64 → Int32 → Option rx_H → Option (Int64 × Option rx_H)) (ls : rx_L) (st : List Value) (u : Option rx_H) : Option (Int64 × Option rx_H) := match ls, st, u with
  | [some (.ref x0), some (.int x1), some (.int x2), some (.int x3), _, some (.long x5), _, some (.int x7)], [], u => k47 x0 x1 x2 x3 x5 x7 u
  | _, _, _ => none
noncomputable def kk_X6_weight_47 (F : Nat × Nat) (k47 : Nat → Int32 → Int32 → Int32 → Int64 → Int32 → Option rx_H → Option (Int64 × Option rx_H)) : Nat → rx_L → List Value → Option rx_H → Option (Int64 × Option rx_H) := fun t ls st u => Bool.rec (motive := fun _ => Option (Int64 × Option rx_H)) (none) (n_X6_weight_47 k47 ls st u) (Nat.beq t 47)
noncomputable def kk_X6_weight_27 (F : Nat × Nat) : Nat → rx_L → List Value → Option rx_H → Option (Int64 × Option rx_H) := fun t ls st u => Bool.rec (motive := fun _ => Option (Int64 × Option rx_H)) (none) (n_X6_weight_47 (f_X6_weight_47 F F.1) ls st u) (Nat.beq t 47)
noncomputable def kk_X6_weight_0 (F : Nat × Nat) : Nat → rx_L → List Value → Option rx_H → Option (Int64 × Option rx_H) := fun t ls st u => Bool.rec (motive := fun _ => Option (Int64 × Option rx_H)) (none) (n_X6_weight_27 F ls st u) (Nat.beq t 27)
set_option maxRecDepth 100000 in
theorem g_X6_weight_47 (F : Nat × Nat) (f : Nat) (x0 : Nat) (x1 : Int32) (x2 : Int32) (x3 : Int32) (x5 : Int64) (x7 : Int32) (u : Option rx_H) : f_X6_weight_47 F (f + 1) x0 x1 x2 x3 x5 x7 u = rx_node (C_X6_weight F) rx_hJ t_X6_weight [27, 47] (kk_X6_weight_47 F (f_X6_weight_47 F f)) 66 47 [some (.ref x0), some (.int x1), some (.int x2), some (.int x3), none, some (.long x5), none, some (.int x7)] [] u := rfl
set_option maxRecDepth 100000 in
theorem g_X6_weight_27 (F : Nat × Nat) (x0 : Nat) (x1 : Int32) (x2 : Int32) (x3 : Int32) (s0 : Nat) (s1 : Int32) (s2 : Int32) (u : Option rx_H) : f_X6_weight_27 F x0 x1 x2 x3 s0 s1 s2 u = rx_node (C_X6_weight F) rx_hJ t_X6_weight [27, 47] (kk_X6_weight_27 F) 66 27 [some (.ref x0), some (.int x1), some (.int x2), some (.int x3), none, none, none, none] [.int s2, .int s1, .ref s0] u := rfl
set_option maxRecDepth 100000 in
theorem g_X6_weight_0 (F : Nat × Nat) (x0 : Nat) (x1 : Int32) (x2 : Int32) (x3 : Int32) (u : Option rx_H) : f_X6_weight_0 F x0 x1 x2 x3 u = rx_node (C_X6_weight F) rx_hJ t_X6_weight [27, 47] (kk_X6_weight_0 F) 66 0 [some (.ref x0), some (.int x1), some (.int x2), some (.int x3), none, none, none, none] [] u := rfl
def f_X6_matters_0 (F : Nat × Nat) (x0 : Nat) (x1 : Int32) (x2 : Int32) (u : Option rx_H) : Option (Int32 × Option rx_H) :=
  (rx_ck u x0 2).bind fun _ =>
  (f_X6_isThing F x0 x2 u).bind fun v1 =>
  (rx_ck v1.2 x0 2).bind fun _ =>
  (f_X6_familyRefusal F x0 x1 v1.1 v1.2).bind fun v2 =>
  if v2.1 = 0 then
    (rx_gR v2.2 x0 2 2).bind fun v3 =>
    (rx_aR v2.2 v3 x1).bind fun v4 =>
    (rx_gJ v2.2 v4 0 2).bind fun v5 =>
    (f_X0_lessThing F v5 x2).bind fun v6 =>
    (f_X0_lackingThing F v5 x2).bind fun v7 =>
    (f_X0_size F (v6 ^^^ v7)).bind fun v8 =>
    some (v8, v2.2)
  else
    some (v2.1, v2.2)
def f_X6_matters (F : Nat × Nat) (x0 : Nat) (x1 : Int32) (x2 : Int32) (u : Option rx_H) : Option (Int32 × Option rx_H) := f_X6_matters_0 F x0 x1 x2 u
def c_X6_matters {α : Type} (F : Nat × Nat) (as : List Value) (u : Option rx_H) (κ : rx_K α) : Option α := match as with
  | [.ref a0, .int a1, .int a2] => (f_X6_matters F a0 a1 a2 u).bind fun r => κ (some (.int r.1)) r.2
  | _ => none
noncomputable def C_X6_matters {α : Type} (F : Nat × Nat) : rx_Cl α := fun j as u κ => Bool.rec (motive := fun _ => Option α) (Bool.rec (motive := fun _ => Option α) (Bool.rec (motive := fun _ => Option α) (Bool.rec (motive := fun _ => Option α) (Bool.rec (motive := fun _ => Option α) (none) (c_X6_isThing F as u κ) (Nat.beq j 105)) (c_X6_familyRefusal F as u κ) (Nat.beq j 92)) (c_X0_size F as u κ) (Nat.beq j 28)) (c_X0_lessThing F as u κ) (Nat.beq j 18)) (c_X0_lackingThing F as u κ) (Nat.beq j 16)
def t_X6_matters : List rx_E := [
  (0, .aload_n 0, 1, 0, 0, 0, 0, 0, []),
  (1, .iload_n 1, 1, 0, 0, 0, 0, 0, []),
  (2, .aload_n 0, 1, 0, 0, 0, 0, 0, []),
  (3, .iload_n 2, 1, 0, 0, 0, 0, 0, []),
  (4, .invokevirtual 166, 3, 105, 202, 403, 0, 0, []),
  (7, .invokevirtual 61, 3, 92, 203, 194, 0, 0, []),
  (10, .istore_n 3, 1, 0, 0, 0, 0, 0, []),
  (11, .iload_n 3, 1, 0, 0, 0, 0, 0, []),
  (12, .ifCond .eq 5, 3, 17, 0, 0, 0, 0, []),
  (15, .iload_n 3, 1, 0, 0, 0, 0, 0, []),
  (16, .ireturn, 1, 0, 0, 0, 0, 0, []),
  (17, .aload_n 0, 1, 0, 0, 0, 0, 0, []),
  (18, .getfield 24, 3, 2, 10, 137, 0, 0, []),
  (21, .iload_n 1, 1, 0, 0, 0, 0, 0, []),
  (22, .aaload, 1, 0, 0, 0, 0, 0, []),
  (23, .getfield 65, 3, 0, 9, 84, 0, 0, []),
  (26, .lstore 4, 2, 0, 0, 0, 0, 0, []),
  (28, .lload 4, 2, 0, 0, 0, 0, 0, []),
  (30, .iload_n 2, 1, 0, 0, 0, 0, 0, []),
  (31, .invokestatic 204, 3, 18, 2, 484, 0, 0, []),
  (34, .lload 4, 2, 0, 0, 0, 0, 0, []),
  (36, .iload_n 2, 1, 0, 0, 0, 0, 0, []),
  (37, .invokestatic 207, 3, 16, 2, 485, 0, 0, []),
  (40, .lxor, 1, 0, 0, 0, 0, 0, []),
  (41, .invokestatic 80, 3, 28, 1, 181, 0, 0, []),
  (44, .ireturn, 1, 0, 0, 0, 0, 0, [])]
noncomputable def kk_X6_matters_0 (F : Nat × Nat) : Nat → rx_L → List Value → Option rx_H → Option (Int32 × Option rx_H) := fun t ls st u => none
set_option maxRecDepth 100000 in
theorem g_X6_matters_0 (F : Nat × Nat) (x0 : Nat) (x1 : Int32) (x2 : Int32) (u : Option rx_H) : f_X6_matters_0 F x0 x1 x2 u = rx_node (C_X6_matters F) rx_hI t_X6_matters [] (kk_X6_matters_0 F) 29 0 [some (.ref x0), some (.int x1), some (.int x2), none, none, none] [] u := rfl
def f_X6_product_0 (F : Nat × Nat) (x0 : Nat) (x1 : Int32) (x2 : Int32) (u : Option rx_H) : Option (Int32 × Option rx_H) :=
  (rx_ck u x0 2).bind fun _ =>
  (f_X6_familiesRefusal F x0 x1 x2 (1 : Int32) u).bind fun v1 =>
  if v1.1 = 0 then
    (rx_gR v1.2 x0 2 2).bind fun v2 =>
    (rx_aR v1.2 v2 x1).bind fun v3 =>
    (rx_gJ v1.2 v3 0 2).bind fun v4 =>
    (rx_gR v1.2 x0 2 2).bind fun v5 =>
    (rx_aR v1.2 v5 x2).bind fun v6 =>
    (rx_gJ v1.2 v6 0 2).bind fun v7 =>
    (f_X0_size F (v4 &&& v7)).bind fun v8 =>
    (rx_gI v1.2 x0 2 1).bind fun v9 =>
    (f_X0_size F v4).bind fun v10 =>
    (f_X0_size F v7).bind fun v11 =>
    some ((v8 * v9) - (v10 * v11), v1.2)
  else
    some (v1.1, v1.2)
def f_X6_product (F : Nat × Nat) (x0 : Nat) (x1 : Int32) (x2 : Int32) (u : Option rx_H) : Option (Int32 × Option rx_H) := f_X6_product_0 F x0 x1 x2 u
def c_X6_product {α : Type} (F : Nat × Nat) (as : List Value) (u : Option rx_H) (κ : rx_K α) : Option α := match as with
  | [.ref a0, .int a1, .int a2] => (f_X6_product F a0 a1 a2 u).bind fun r => κ (some (.int r.1)) r.2
  | _ => none
noncomputable def C_X6_product {α : Type} (F : Nat × Nat) : rx_Cl α := fun j as u κ => Bool.rec (motive := fun _ => Option α) (Bool.rec (motive := fun _ => Option α) (none) (c_X6_familiesRefusal F as u κ) (Nat.beq j 91)) (c_X0_size F as u κ) (Nat.beq j 28)
def t_X6_product : List rx_E := [
  (0, .aload_n 0, 1, 0, 0, 0, 0, 0, []),
  (1, .iload_n 1, 1, 0, 0, 0, 0, 0, []),
  (2, .iload_n 2, 1, 0, 0, 0, 0, 0, []),
  (3, .iconst 1, 1, 0, 0, 0, 1, 0, []),
  (4, .invokevirtual 139, 3, 91, 204, 353, 0, 0, []),
  (7, .istore_n 3, 1, 0, 0, 0, 0, 0, []),
  (8, .iload_n 3, 1, 0, 0, 0, 0, 0, []),
  (9, .ifCond .eq 5, 3, 14, 0, 0, 0, 0, []),
  (12, .iload_n 3, 1, 0, 0, 0, 0, 0, []),
  (13, .ireturn, 1, 0, 0, 0, 0, 0, []),
  (14, .aload_n 0, 1, 0, 0, 0, 0, 0, []),
  (15, .getfield 24, 3, 2, 10, 137, 0, 0, []),
  (18, .iload_n 1, 1, 0, 0, 0, 0, 0, []),
  (19, .aaload, 1, 0, 0, 0, 0, 0, []),
  (20, .getfield 65, 3, 0, 9, 84, 0, 0, []),
  (23, .lstore 4, 2, 0, 0, 0, 0, 0, []),
  (25, .aload_n 0, 1, 0, 0, 0, 0, 0, []),
  (26, .getfield 24, 3, 2, 10, 137, 0, 0, []),
  (29, .iload_n 2, 1, 0, 0, 0, 0, 0, []),
  (30, .aaload, 1, 0, 0, 0, 0, 0, []),
  (31, .getfield 65, 3, 0, 9, 84, 0, 0, []),
  (34, .lstore 6, 2, 0, 0, 0, 0, 0, []),
  (36, .lload 4, 2, 0, 0, 0, 0, 0, []),
  (38, .lload 6, 2, 0, 0, 0, 0, 0, []),
  (40, .land, 1, 0, 0, 0, 0, 0, []),
  (41, .invokestatic 80, 3, 28, 1, 181, 0, 0, []),
  (44, .aload_n 0, 1, 0, 0, 0, 0, 0, []),
  (45, .getfield 19, 3, 2, 4, 136, 0, 0, []),
  (48, .imul, 1, 0, 0, 0, 0, 0, []),
  (49, .lload 4, 2, 0, 0, 0, 0, 0, []),
  (51, .invokestatic 80, 3, 28, 1, 181, 0, 0, []),
  (54, .lload 6, 2, 0, 0, 0, 0, 0, []),
  (56, .invokestatic 80, 3, 28, 1, 181, 0, 0, []),
  (59, .imul, 1, 0, 0, 0, 0, 0, []),
  (60, .isub, 1, 0, 0, 0, 0, 0, []),
  (61, .ireturn, 1, 0, 0, 0, 0, 0, [])]
noncomputable def kk_X6_product_0 (F : Nat × Nat) : Nat → rx_L → List Value → Option rx_H → Option (Int32 × Option rx_H) := fun t ls st u => none
set_option maxRecDepth 100000 in
theorem g_X6_product_0 (F : Nat × Nat) (x0 : Nat) (x1 : Int32) (x2 : Int32) (u : Option rx_H) : f_X6_product_0 F x0 x1 x2 u = rx_node (C_X6_product F) rx_hI t_X6_product [] (kk_X6_product_0 F) 39 0 [some (.ref x0), some (.int x1), some (.int x2), none, none, none, none, none] [] u := rfl
def f_X6_flower_17 (F : Nat × Nat) (x0 : Nat) (x1 : Int32) (x2 : Int32) (s0 : Nat) (s1 : Int32) (s2 : Int32) (u : Option rx_H) : Option (Int32 × Option rx_H) :=
  (rx_ck u s0 2).bind fun _ =>
  (f_X6_familyRefusal F s0 s1 s2 u).bind fun v1 =>
  if v1.1 = 0 then
    (rx_gR v1.2 x0 2 4).bind fun v2 =>
    (rx_gR v1.2 x0 2 2).bind fun v3 =>
    (rx_aR v1.2 v3 x1).bind fun v4 =>
    (rx_gJ v1.2 v4 0 2).bind fun v5 =>
    (rx_ck v1.2 v2 1).bind fun _ =>
    (f_X5_findFlower F v2 v5 x2 v1.2).bind fun v6 =>
    some (v6.1, v6.2)
  else
    some (v1.1, v1.2)
def f_X6_flower_0 (F : Nat × Nat) (x0 : Nat) (x1 : Int32) (x2 : Int32) (u : Option rx_H) : Option (Int32 × Option rx_H) :=
  if x2 < (2 : Int32) then
    f_X6_flower_17 F x0 x1 x2 x0 x1 (0 : Int32) u
  else
    if (5 : Int32) < x2 then
      f_X6_flower_17 F x0 x1 x2 x0 x1 (0 : Int32) u
    else
      f_X6_flower_17 F x0 x1 x2 x0 x1 (1 : Int32) u
def f_X6_flower (F : Nat × Nat) (x0 : Nat) (x1 : Int32) (x2 : Int32) (u : Option rx_H) : Option (Int32 × Option rx_H) := f_X6_flower_0 F x0 x1 x2 u
def c_X6_flower {α : Type} (F : Nat × Nat) (as : List Value) (u : Option rx_H) (κ : rx_K α) : Option α := match as with
  | [.ref a0, .int a1, .int a2] => (f_X6_flower F a0 a1 a2 u).bind fun r => κ (some (.int r.1)) r.2
  | _ => none
noncomputable def C_X6_flower {α : Type} (F : Nat × Nat) : rx_Cl α := fun j as u κ => Bool.rec (motive := fun _ => Option α) (Bool.rec (motive := fun _ => Option α) (none) (c_X6_familyRefusal F as u κ) (Nat.beq j 92)) (c_X5_findFlower F as u κ) (Nat.beq j 67)
def t_X6_flower : List rx_E := [
  (0, .aload_n 0, 1, 0, 0, 0, 0, 0, []),
  (1, .iload_n 1, 1, 0, 0, 0, 0, 0, []),
  (2, .iload_n 2, 1, 0, 0, 0, 0, 0, []),
  (3, .iconst 2, 1, 0, 0, 0, 2, 0, []),
  (4, .if_icmp .lt 12, 3, 16, 0, 0, 0, 0, []),
  (7, .iload_n 2, 1, 0, 0, 0, 0, 0, []),
  (8, .iconst 5, 1, 0, 0, 0, 5, 0, []),
  (9, .if_icmp .gt 7, 3, 16, 0, 0, 0, 0, []),
  (12, .iconst 1, 1, 0, 0, 0, 1, 0, []),
  (13, .goto 4, 3, 17, 0, 0, 0, 0, []),
  (16, .iconst 0, 1, 0, 0, 0, 0, 0, []),
  (17, .invokevirtual 61, 3, 92, 203, 194, 0, 0, []),
  (20, .istore_n 3, 1, 0, 0, 0, 0, 0, []),
  (21, .iload_n 3, 1, 0, 0, 0, 0, 0, []),
  (22, .ifCond .eq 5, 3, 27, 0, 0, 0, 0, []),
  (25, .iload_n 3, 1, 0, 0, 0, 0, 0, []),
  (26, .ireturn, 1, 0, 0, 0, 0, 0, []),
  (27, .aload_n 0, 1, 0, 0, 0, 0, 0, []),
  (28, .getfield 42, 3, 2, 18, 139, 0, 0, []),
  (31, .aload_n 0, 1, 0, 0, 0, 0, 0, []),
  (32, .getfield 24, 3, 2, 10, 137, 0, 0, []),
  (35, .iload_n 1, 1, 0, 0, 0, 0, 0, []),
  (36, .aaload, 1, 0, 0, 0, 0, 0, []),
  (37, .getfield 65, 3, 0, 9, 84, 0, 0, []),
  (40, .iload_n 2, 1, 0, 0, 0, 0, 0, []),
  (41, .invokevirtual 210, 3, 67, 103, 494, 0, 0, []),
  (44, .ireturn, 1, 0, 0, 0, 0, 0, [])]
def n_X6_flower_17 (F : Nat × Nat) (ls : rx_L) (st : List Value) (u : Option rx_H) : Option (Int32 × Option rx_H) := match ls, st, u with
  | [some (.ref x0), some (.int x1), some (.int x2), _], [.int s2, .int s1, .ref s0], u => f_X6_flower_17 F x0 x1 x2 s0 s1 s2 u
  | _, _, _ => none
noncomputable def kk_X6_flower_17 (F : Nat × Nat) : Nat → rx_L → List Value → Option rx_H → Option (Int32 × Option rx_H) := fun t ls st u => none
noncomputable def kk_X6_flower_0 (F : Nat × Nat) : Nat → rx_L → List Value → Option rx_H → Option (Int32 × Option rx_H) := fun t ls st u => Bool.rec (motive := fun _ => Option (Int32 × Option rx_H)) (none) (n_X6_flower_17 F ls st u) (Nat.beq t 17)
set_option maxRecDepth 100000 in
theorem g_X6_flower_17 (F : Nat × Nat) (x0 : Nat) (x1 : Int32) (x2 : Int32) (s0 : Nat) (s1 : Int32) (s2 : Int32) (u : Option rx_H) : f_X6_flower_17 F x0 x1 x2 s0 s1 s2 u = rx_node (C_X6_flower F) rx_hI t_X6_flower [17] (kk_X6_flower_17 F) 30 17 [some (.ref x0), some (.int x1), some (.int x2), none] [.int s2, .int s1, .ref s0] u := rfl
set_option maxRecDepth 100000 in
theorem g_X6_flower_0 (F : Nat × Nat) (x0 : Nat) (x1 : Int32) (x2 : Int32) (u : Option rx_H) : f_X6_flower_0 F x0 x1 x2 u = rx_node (C_X6_flower F) rx_hI t_X6_flower [17] (kk_X6_flower_0 F) 30 0 [some (.ref x0), some (.int x1), some (.int x2), none] [] u := rfl
def f_X6_petal_0 (F : Nat × Nat) (x0 : Nat) (x1 : Int32) (u : Option rx_H) : Option (Int32 × Option rx_H) :=
  (rx_gR u x0 2 4).bind fun v1 =>
  (rx_ck u v1 1).bind fun _ =>
  (f_X5_petalAt F v1 x1 u).bind fun v2 =>
  some (v2.1, v2.2)
def f_X6_petal (F : Nat × Nat) (x0 : Nat) (x1 : Int32) (u : Option rx_H) : Option (Int32 × Option rx_H) := f_X6_petal_0 F x0 x1 u
def c_X6_petal {α : Type} (F : Nat × Nat) (as : List Value) (u : Option rx_H) (κ : rx_K α) : Option α := match as with
  | [.ref a0, .int a1] => (f_X6_petal F a0 a1 u).bind fun r => κ (some (.int r.1)) r.2
  | _ => none
noncomputable def C_X6_petal {α : Type} (F : Nat × Nat) : rx_Cl α := fun j as u κ => Bool.rec (motive := fun _ => Option α) (none) (c_X5_petalAt F as u κ) (Nat.beq j 76)
def t_X6_petal : List rx_E := [
  (0, .aload_n 0, 1, 0, 0, 0, 0, 0, []),
  (1, .getfield 42, 3, 2, 18, 139, 0, 0, []),
  (4, .iload_n 1, 1, 0, 0, 0, 0, 0, []),
  (5, .invokevirtual 213, 3, 76, 102, 521, 0, 0, []),
  (8, .ireturn, 1, 0, 0, 0, 0, 0, [])]
noncomputable def kk_X6_petal_0 (F : Nat × Nat) : Nat → rx_L → List Value → Option rx_H → Option (Int32 × Option rx_H) := fun t ls st u => none
set_option maxRecDepth 100000 in
theorem g_X6_petal_0 (F : Nat × Nat) (x0 : Nat) (x1 : Int32) (u : Option rx_H) : f_X6_petal_0 F x0 x1 u = rx_node (C_X6_petal F) rx_hI t_X6_petal [] (kk_X6_petal_0 F) 8 0 [some (.ref x0), some (.int x1)] [] u := rfl
def f_X6_cover_48 (F : Nat × Nat) (k26 : Nat → Int64 → Int32 → Option rx_H → Option (Int32 × Option rx_H)) : Nat → Nat → Int64 → Int32 → Int32 → Option rx_H → Option (Int32 × Option rx_H)
  | 0, _, _, _, _, _ => none
  | f + 1, x0, x3, x5, x6, u =>
    (rx_gI u x0 2 1).bind fun v1 =>
    if x6 < v1 then
      (rx_gI u x0 2 1).bind fun v2 =>
      (f_X0_within F ((v2 - (1 : Int32)) - x6)).bind fun v3 =>
      if x3 &&& v3 = (0 : Int64) then
        some (x6, u)
      else
        (rx_gR u x0 2 3).bind fun v4 =>
        (rx_aJ u v4 x5).bind fun v5 =>
        (f_X0_next F v5 (x6 + (1 : Int32))).bind fun v6 =>
        (f_X6_cover_48 F k26 f) x0 x3 x5 v6 u
    else
      k26 x0 x3 (x5 + 1) u
def f_X6_cover_26 (F : Nat × Nat) : Nat → Nat → Int64 → Int32 → Option rx_H → Option (Int32 × Option rx_H)
  | 0, _, _, _, _ => none
  | f + 1, x0, x3, x5, u =>
    (rx_gI u x0 2 0).bind fun v1 =>
    if v1 < x5 then
      some ((-2 : Int32), u)
    else
      (rx_gR u x0 2 3).bind fun v2 =>
      (rx_aJ u v2 x5).bind fun v3 =>
      (f_X0_next F v3 (0 : Int32)).bind fun v4 =>
      f_X6_cover_48 F (f_X6_cover_26 F f) F.1 x0 x3 x5 v4 u
def f_X6_cover_0 (F : Nat × Nat) (x0 : Nat) (x1 : Int32) (u : Option rx_H) : Option (Int32 × Option rx_H) :=
  (rx_ck u x0 2).bind fun _ =>
  (f_X6_familyRefusal F x0 x1 (1 : Int32) u).bind fun v1 =>
  if v1.1 = 0 then
    (rx_gR v1.2 x0 2 2).bind fun v2 =>
    (rx_aR v1.2 v2 x1).bind fun v3 =>
    (rx_gJ v1.2 v3 0 2).bind fun v4 =>
    f_X6_cover_26 F F.1 x0 v4 (0 : Int32) v1.2
  else
    some (v1.1, v1.2)
def f_X6_cover (F : Nat × Nat) (x0 : Nat) (x1 : Int32) (u : Option rx_H) : Option (Int32 × Option rx_H) := f_X6_cover_0 F x0 x1 u
def c_X6_cover {α : Type} (F : Nat × Nat) (as : List Value) (u : Option rx_H) (κ : rx_K α) : Option α := match as with
  | [.ref a0, .int a1] => (f_X6_cover F a0 a1 u).bind fun r => κ (some (.int r.1)) r.2
  | _ => none
noncomputable def C_X6_cover {α : Type} (F : Nat × Nat) : rx_Cl α := fun j as u κ => Bool.rec (motive := fun _ => Option α) (Bool.rec (motive := fun _ => Option α) (Bool.rec (motive := fun _ => Option α) (none) (c_X6_familyRefusal F as u κ) (Nat.beq j 92)) (c_X0_within F as u κ) (Nat.beq j 30)) (c_X0_next F as u κ) (Nat.beq j 23)
def t_X6_cover : List rx_E := [
  (0, .aload_n 0, 1, 0, 0, 0, 0, 0, []),
  (1, .iload_n 1, 1, 0, 0, 0, 0, 0, []),
  (2, .iconst 1, 1, 0, 0, 0, 1, 0, []),
  (3, .invokevirtual 61, 3, 92, 203, 194, 0, 0, []),
  (6, .istore_n 2, 1, 0, 0, 0, 0, 0, []),
  (7, .iload_n 2, 1, 0, 0, 0, 0, 0, []),
  (8, .ifCond .eq 5, 3, 13, 0, 0, 0, 0, []),
  (11, .iload_n 2, 1, 0, 0, 0, 0, 0, []),
  (12, .ireturn, 1, 0, 0, 0, 0, 0, []),
  (13, .aload_n 0, 1, 0, 0, 0, 0, 0, []),
  (14, .getfield 24, 3, 2, 10, 137, 0, 0, []),
  (17, .iload_n 1, 1, 0, 0, 0, 0, 0, []),
  (18, .aaload, 1, 0, 0, 0, 0, 0, []),
  (19, .getfield 65, 3, 0, 9, 84, 0, 0, []),
  (22, .lstore_n 3, 1, 0, 0, 0, 0, 0, []),
  (23, .iconst 0, 1, 0, 0, 0, 0, 0, []),
  (24, .istore 5, 2, 0, 0, 0, 0, 0, []),
  (26, .iload 5, 2, 0, 0, 0, 0, 0, []),
  (28, .aload_n 0, 1, 0, 0, 0, 0, 0, []),
  (29, .getfield 15, 3, 2, 0, 135, 0, 0, []),
  (32, .if_icmp .gt 72, 3, 104, 0, 0, 0, 0, []),
  (35, .aload_n 0, 1, 0, 0, 0, 0, 0, []),
  (36, .getfield 29, 3, 2, 14, 138, 0, 0, []),
  (39, .iload 5, 2, 0, 0, 0, 0, 0, []),
  (41, .laload, 1, 0, 0, 0, 0, 0, []),
  (42, .iconst 0, 1, 0, 0, 0, 0, 0, []),
  (43, .invokestatic 216, 3, 23, 2, 529, 0, 0, []),
  (46, .istore 6, 2, 0, 0, 0, 0, 0, []),
  (48, .iload 6, 2, 0, 0, 0, 0, 0, []),
  (50, .aload_n 0, 1, 0, 0, 0, 0, 0, []),
  (51, .getfield 19, 3, 2, 4, 136, 0, 0, []),
  (54, .if_icmp .ge 44, 3, 98, 0, 0, 0, 0, []),
  (57, .lload_n 3, 1, 0, 0, 0, 0, 0, []),
  (58, .aload_n 0, 1, 0, 0, 0, 0, 0, []),
  (59, .getfield 19, 3, 2, 4, 136, 0, 0, []),
  (62, .iconst 1, 1, 0, 0, 0, 1, 0, []),
  (63, .isub, 1, 0, 0, 0, 0, 0, []),
  (64, .iload 6, 2, 0, 0, 0, 0, 0, []),
  (66, .isub, 1, 0, 0, 0, 0, 0, []),
  (67, .invokestatic 150, 3, 30, 1, 379, 0, 0, []),
  (70, .land, 1, 0, 0, 0, 0, 0, []),
  (71, .lconst 0, 1, 0, 0, 0, 0, 0, []),
  (72, .lcmp, 1, 0, 0, 0, 0, 0, []),
  (73, .ifCond .ne 6, 3, 79, 0, 0, 0, 0, []),
  (76, .iload 6, 2, 0, 0, 0, 0, 0, []),
  (78, .ireturn, 1, 0, 0, 0, 0, 0, []),
  (79, .aload_n 0, 1, 0, 0, 0, 0, 0, []),
  (80, .getfield 29, 3, 2, 14, 138, 0, 0, []),
  (83, .iload 5, 2, 0, 0, 0, 0, 0, []),
  (85, .laload, 1, 0, 0, 0, 0, 0, []),
  (86, .iload 6, 2, 0, 0, 0, 0, 0, []),
  (88, .iconst 1, 1, 0, 0, 0, 1, 0, []),
  (89, .iadd, 1, 0, 0, 0, 0, 0, []),
  (90, .invokestatic 216, 3, 23, 2, 529, 0, 0, []),
  (93, .istore 6, 2, 0, 0, 0, 0, 0, []),
  (95, .goto (-47), 3, 48, 0, 0, 0, 0, []),
  (98, .iinc 5 1, 3, 0, 0, 0, 1, 0, []),
  (101, .goto (-75), 3, 26, 0, 0, 0, 0, []),
  (104, .bipush (-2), 2, 0, 0, 0, (-2), 0, []),
  (106, .ireturn, 1, 0, 0, 0, 0, 0, [])]
def n_X6_cover_26 (k26 : Nat → Int64 → Int32 → Option rx_H → Option (Int32 × Option rx_H)) (ls : rx_L) (st : List Value) (u : Option rx_H) : Option (Int32 × Option rx_H) := match ls, st, u with
  | [some (.ref x0), _, _, some (.long x3), _, some (.int x5), _], [], u => k26 x0 x3 x5 u
  | _, _, _ => none
def n_X6_cover_48 (k48 : Nat → Int64 → Int32 → Int32 → Option rx_H → Option (Int32 × Option rx_H)) (ls : rx_L) (st : List Value) (u : Option rx_H) : Option (Int32 × Option rx_H) := match ls, st, u with
  | [some (.ref x0), _, _, some (.long x3), _, some (.int x5), some (.int x6)], [], u => k48 x0 x3 x5 x6 u
  | _, _, _ => none
noncomputable def kk_X6_cover_48 (F : Nat × Nat) (k26 : Nat → Int64 → Int32 → Option rx_H → Option (Int32 × Option rx_H)) (k48 : Nat → Int64 → Int32 → Int32 → Option rx_H → Option (Int32 × Option rx_H)) : Nat → rx_L → List Value → Option rx_H → Option (Int32 × Option rx_H) := fun t ls st u => Bool.rec (motive := fun _ => Option (Int32 × Option rx_H)) (Bool.rec (motive := fun _ => Option (Int32 × Option rx_H)) (none) (n_X6_cover_48 k48 ls st u) (Nat.beq t 48)) (n_X6_cover_26 k26 ls st u) (Nat.beq t 26)
noncomputable def kk_X6_cover_26 (F : Nat × Nat) (k26 : Nat → Int64 → Int32 → Option rx_H → Option (Int32 × Option rx_H)) : Nat → rx_L → List Value → Option rx_H → Option (Int32 × Option rx_H) := fun t ls st u => Bool.rec (motive := fun _ => Option (Int32 × Option rx_H)) (none) (n_X6_cover_48 (f_X6_cover_48 F k26 F.1) ls st u) (Nat.beq t 48)
noncomputable def kk_X6_cover_0 (F : Nat × Nat) : Nat → rx_L → List Value → Option rx_H → Option (Int32 × Option rx_H) := fun t ls st u => Bool.rec (motive := fun _ => Option (Int32 × Option rx_H)) (none) (n_X6_cover_26 (f_X6_cover_26 F F.1) ls st u) (Nat.beq t 26)
set_option maxRecDepth 100000 in
theorem g_X6_cover_48 (F : Nat × Nat) (k26 : Nat → Int64 → Int32 → Option rx_H → Option (Int32 × Option rx_H)) (f : Nat) (x0 : Nat) (x3 : Int64) (x5 : Int32) (x6 : Int32) (u : Option rx_H) : f_X6_cover_48 F k26 (f + 1) x0 x3 x5 x6 u = rx_node (C_X6_cover F) rx_hI t_X6_cover [26, 48] (kk_X6_cover_48 F k26 (f_X6_cover_48 F k26 f)) 63 48 [some (.ref x0), none, none, some (.long x3), none, some (.int x5), some (.int x6)] [] u := rfl
set_option maxRecDepth 100000 in
theorem g_X6_cover_26 (F : Nat × Nat) (f : Nat) (x0 : Nat) (x3 : Int64) (x5 : Int32) (u : Option rx_H) : f_X6_cover_26 F (f + 1) x0 x3 x5 u = rx_node (C_X6_cover F) rx_hI t_X6_cover [26, 48] (kk_X6_cover_26 F (f_X6_cover_26 F f)) 63 26 [some (.ref x0), none, none, some (.long x3), none, some (.int x5), none] [] u := rfl
set_option maxRecDepth 100000 in
theorem g_X6_cover_0 (F : Nat × Nat) (x0 : Nat) (x1 : Int32) (u : Option rx_H) : f_X6_cover_0 F x0 x1 u = rx_node (C_X6_cover F) rx_hI t_X6_cover [26, 48] (kk_X6_cover_0 F) 63 0 [some (.ref x0), some (.int x1), none, none, none, none, none] [] u := rfl
def f_X6_loose_0 (F : Nat × Nat) (x0 : Nat) (x1 : Int32) (u : Option rx_H) : Option (Int32 × Option rx_H) :=
  (rx_ck u x0 2).bind fun _ =>
  (f_X6_familyRefusal F x0 x1 (1 : Int32) u).bind fun v1 =>
  if v1.1 = 0 then
    (rx_gR v1.2 x0 2 4).bind fun v2 =>
    (rx_gR v1.2 x0 2 2).bind fun v3 =>
    (rx_aR v1.2 v3 x1).bind fun v4 =>
    (rx_gJ v1.2 v4 0 2).bind fun v5 =>
    (rx_gI v1.2 x0 2 1).bind fun v6 =>
    (rx_ck v1.2 v2 1).bind fun _ =>
    (f_X5_mostDisjoint F v2 v5 v6 v1.2).bind fun v7 =>
    some (v7.1, v7.2)
  else
    some (v1.1, v1.2)
def f_X6_loose (F : Nat × Nat) (x0 : Nat) (x1 : Int32) (u : Option rx_H) : Option (Int32 × Option rx_H) := f_X6_loose_0 F x0 x1 u
def c_X6_loose {α : Type} (F : Nat × Nat) (as : List Value) (u : Option rx_H) (κ : rx_K α) : Option α := match as with
  | [.ref a0, .int a1] => (f_X6_loose F a0 a1 u).bind fun r => κ (some (.int r.1)) r.2
  | _ => none
noncomputable def C_X6_loose {α : Type} (F : Nat × Nat) : rx_Cl α := fun j as u κ => Bool.rec (motive := fun _ => Option α) (Bool.rec (motive := fun _ => Option α) (none) (c_X6_familyRefusal F as u κ) (Nat.beq j 92)) (c_X5_mostDisjoint F as u κ) (Nat.beq j 73)
def t_X6_loose : List rx_E := [
  (0, .aload_n 0, 1, 0, 0, 0, 0, 0, []),
  (1, .iload_n 1, 1, 0, 0, 0, 0, 0, []),
  (2, .iconst 1, 1, 0, 0, 0, 1, 0, []),
  (3, .invokevirtual 61, 3, 92, 203, 194, 0, 0, []),
  (6, .istore_n 2, 1, 0, 0, 0, 0, 0, []),
  (7, .iload_n 2, 1, 0, 0, 0, 0, 0, []),
  (8, .ifCond .eq 5, 3, 13, 0, 0, 0, 0, []),
  (11, .iload_n 2, 1, 0, 0, 0, 0, 0, []),
  (12, .ireturn, 1, 0, 0, 0, 0, 0, []),
  (13, .aload_n 0, 1, 0, 0, 0, 0, 0, []),
  (14, .getfield 42, 3, 2, 18, 139, 0, 0, []),
  (17, .aload_n 0, 1, 0, 0, 0, 0, 0, []),
  (18, .getfield 24, 3, 2, 10, 137, 0, 0, []),
  (21, .iload_n 1, 1, 0, 0, 0, 0, 0, []),
  (22, .aaload, 1, 0, 0, 0, 0, 0, []),
  (23, .getfield 65, 3, 0, 9, 84, 0, 0, []),
  (26, .aload_n 0, 1, 0, 0, 0, 0, 0, []),
  (27, .getfield 19, 3, 2, 4, 136, 0, 0, []),
  (30, .invokevirtual 219, 3, 73, 103, 534, 0, 0, []),
  (33, .ireturn, 1, 0, 0, 0, 0, 0, [])]
noncomputable def kk_X6_loose_0 (F : Nat × Nat) : Nat → rx_L → List Value → Option rx_H → Option (Int32 × Option rx_H) := fun t ls st u => none
set_option maxRecDepth 100000 in
theorem g_X6_loose_0 (F : Nat × Nat) (x0 : Nat) (x1 : Int32) (u : Option rx_H) : f_X6_loose_0 F x0 x1 u = rx_node (C_X6_loose F) rx_hI t_X6_loose [] (kk_X6_loose_0 F) 23 0 [some (.ref x0), some (.int x1), none] [] u := rfl
def f_X6_shattered_66 (F : Nat × Nat) : Nat → Nat → Int64 → Int32 → Int32 → Option rx_H → Option (Int32 × Option rx_H)
  | 0, _, _, _, _, _ => none
  | f + 1, x0, x4, x6, x7, u =>
    (rx_gI u x0 2 1).bind fun v1 =>
    if x7 < v1 then
      (f_X0_shatters F x4 x7).bind fun v2 =>
      if v2 = 0 then
        (f_X6_shattered_66 F f) x0 x4 (x6 + (0 : Int32)) (x7 + 1) u
      else
        (f_X6_shattered_66 F f) x0 x4 (x6 + (1 : Int32)) (x7 + 1) u
    else
      some (x6, u)
def f_X6_shattered_20 (F : Nat × Nat) (x0 : Nat) (x1 : Int32) (x2 : Int32) (s0 : Nat) (s1 : Int32) (s2 : Int32) (u : Option rx_H) : Option (Int32 × Option rx_H) :=
  (rx_ck u s0 2).bind fun _ =>
  (f_X6_familyRefusal F s0 s1 s2 u).bind fun v1 =>
  if v1.1 = 0 then
    (rx_gR v1.2 x0 2 2).bind fun v2 =>
    (rx_aR v1.2 v2 x1).bind fun v3 =>
    (rx_gJ v1.2 v3 0 2).bind fun v4 =>
    if x2 < 0 then
      f_X6_shattered_66 F F.1 x0 v4 (0 : Int32) (0 : Int32) v1.2
    else
      (f_X0_shatters F v4 x2).bind fun v5 =>
      if v5 = 0 then
        some ((0 : Int32), v1.2)
      else
        some ((1 : Int32), v1.2)
  else
    some (v1.1, v1.2)
def f_X6_shattered_0 (F : Nat × Nat) (x0 : Nat) (x1 : Int32) (x2 : Int32) (u : Option rx_H) : Option (Int32 × Option rx_H) :=
  if x2 = (-1 : Int32) then
    f_X6_shattered_20 F x0 x1 x2 x0 x1 (1 : Int32) u
  else
    (rx_ck u x0 2).bind fun _ =>
    (f_X6_isSet F x0 x2 u).bind fun v1 =>
    if v1.1 = 0 then
      f_X6_shattered_20 F x0 x1 x2 x0 x1 (0 : Int32) v1.2
    else
      f_X6_shattered_20 F x0 x1 x2 x0 x1 (1 : Int32) v1.2
def f_X6_shattered (F : Nat × Nat) (x0 : Nat) (x1 : Int32) (x2 : Int32) (u : Option rx_H) : Option (Int32 × Option rx_H) := f_X6_shattered_0 F x0 x1 x2 u
def c_X6_shattered {α : Type} (F : Nat × Nat) (as : List Value) (u : Option rx_H) (κ : rx_K α) : Option α := match as with
  | [.ref a0, .int a1, .int a2] => (f_X6_shattered F a0 a1 a2 u).bind fun r => κ (some (.int r.1)) r.2
  | _ => none
noncomputable def C_X6_shattered {α : Type} (F : Nat × Nat) : rx_Cl α := fun j as u κ => Bool.rec (motive := fun _ => Option α) (Bool.rec (motive := fun _ => Option α) (Bool.rec (motive := fun _ => Option α) (none) (c_X6_isSet F as u κ) (Nat.beq j 103)) (c_X6_familyRefusal F as u κ) (Nat.beq j 92)) (c_X0_shatters F as u κ) (Nat.beq j 27)
def t_X6_shattered : List rx_E := [
  (0, .aload_n 0, 1, 0, 0, 0, 0, 0, []),
  (1, .iload_n 1, 1, 0, 0, 0, 0, 0, []),
  (2, .iload_n 2, 1, 0, 0, 0, 0, 0, []),
  (3, .iconst (-1), 1, 0, 0, 0, (-1), 0, []),
  (4, .if_icmp .eq 11, 3, 15, 0, 0, 0, 0, []),
  (7, .aload_n 0, 1, 0, 0, 0, 0, 0, []),
  (8, .iload_n 2, 1, 0, 0, 0, 0, 0, []),
  (9, .invokevirtual 73, 3, 103, 202, 206, 0, 0, []),
  (12, .ifCond .eq 7, 3, 19, 0, 0, 0, 0, []),
  (15, .iconst 1, 1, 0, 0, 0, 1, 0, []),
  (16, .goto 4, 3, 20, 0, 0, 0, 0, []),
  (19, .iconst 0, 1, 0, 0, 0, 0, 0, []),
  (20, .invokevirtual 61, 3, 92, 203, 194, 0, 0, []),
  (23, .istore_n 3, 1, 0, 0, 0, 0, 0, []),
  (24, .iload_n 3, 1, 0, 0, 0, 0, 0, []),
  (25, .ifCond .eq 5, 3, 30, 0, 0, 0, 0, []),
  (28, .iload_n 3, 1, 0, 0, 0, 0, 0, []),
  (29, .ireturn, 1, 0, 0, 0, 0, 0, []),
  (30, .aload_n 0, 1, 0, 0, 0, 0, 0, []),
  (31, .getfield 24, 3, 2, 10, 137, 0, 0, []),
  (34, .iload_n 1, 1, 0, 0, 0, 0, 0, []),
  (35, .aaload, 1, 0, 0, 0, 0, 0, []),
  (36, .getfield 65, 3, 0, 9, 84, 0, 0, []),
  (39, .lstore 4, 2, 0, 0, 0, 0, 0, []),
  (41, .iload_n 2, 1, 0, 0, 0, 0, 0, []),
  (42, .ifCond .lt 18, 3, 60, 0, 0, 0, 0, []),
  (45, .lload 4, 2, 0, 0, 0, 0, 0, []),
  (47, .iload_n 2, 1, 0, 0, 0, 0, 0, []),
  (48, .invokestatic 222, 3, 27, 2, 546, 0, 0, []),
  (51, .ifCond .eq 7, 3, 58, 0, 0, 0, 0, []),
  (54, .iconst 1, 1, 0, 0, 0, 1, 0, []),
  (55, .goto 4, 3, 59, 0, 0, 0, 0, []),
  (58, .iconst 0, 1, 0, 0, 0, 0, 0, []),
  (59, .ireturn, 1, 0, 0, 0, 0, 0, []),
  (60, .iconst 0, 1, 0, 0, 0, 0, 0, []),
  (61, .istore 6, 2, 0, 0, 0, 0, 0, []),
  (63, .iconst 0, 1, 0, 0, 0, 0, 0, []),
  (64, .istore 7, 2, 0, 0, 0, 0, 0, []),
  (66, .iload 7, 2, 0, 0, 0, 0, 0, []),
  (68, .aload_n 0, 1, 0, 0, 0, 0, 0, []),
  (69, .getfield 19, 3, 2, 4, 136, 0, 0, []),
  (72, .if_icmp .ge 29, 3, 101, 0, 0, 0, 0, []),
  (75, .iload 6, 2, 0, 0, 0, 0, 0, []),
  (77, .lload 4, 2, 0, 0, 0, 0, 0, []),
  (79, .iload 7, 2, 0, 0, 0, 0, 0, []),
  (81, .invokestatic 222, 3, 27, 2, 546, 0, 0, []),
  (84, .ifCond .eq 7, 3, 91, 0, 0, 0, 0, []),
  (87, .iconst 1, 1, 0, 0, 0, 1, 0, []),
  (88, .goto 4, 3, 92, 0, 0, 0, 0, []),
  (91, .iconst 0, 1, 0, 0, 0, 0, 0, []),
  (92, .iadd, 1, 0, 0, 0, 0, 0, []),
  (93, .istore 6, 2, 0, 0, 0, 0, 0, []),
  (95, .iinc 7 1, 3, 0, 0, 0, 1, 0, []),
  (98, .goto (-32), 3, 66, 0, 0, 0, 0, []),
  (101, .iload 6, 2, 0, 0, 0, 0, 0, []),
  (103, .ireturn, 1, 0, 0, 0, 0, 0, [])]
def n_X6_shattered_20 (F : Nat × Nat) (ls : rx_L) (st : List Value) (u : Option rx_H) : Option (Int32 × Option rx_H) := match ls, st, u with
  | [some (.ref x0), some (.int x1), some (.int x2), _, _, _, _, _], [.int s2, .int s1, .ref s0], u => f_X6_shattered_20 F x0 x1 x2 s0 s1 s2 u
  | _, _, _ => none
def n_X6_shattered_66 (k66 : Nat → Int64 → Int32 → Int32 → Option rx_H → Option (Int32 × Option rx_H)) (ls : rx_L) (st : List Value) (u : Option rx_H) : Option (Int32 × Option rx_H) := match ls, st, u with
  | [some (.ref x0), _, _, _, some (.long x4), _, some (.int x6), some (.int x7)], [], u => k66 x0 x4 x6 x7 u
  | _, _, _ => none
noncomputable def kk_X6_shattered_66 (F : Nat × Nat) (k66 : Nat → Int64 → Int32 → Int32 → Option rx_H → Option (Int32 × Option rx_H)) : Nat → rx_L → List Value → Option rx_H → Option (Int32 × Option rx_H) := fun t ls st u => Bool.rec (motive := fun _ => Option (Int32 × Option rx_H)) (none) (n_X6_shattered_66 k66 ls st u) (Nat.beq t 66)
noncomputable def kk_X6_shattered_20 (F : Nat × Nat) : Nat → rx_L → List Value → Option rx_H → Option (Int32 × Option rx_H) := fun t ls st u => Bool.rec (motive := fun _ => Option (Int32 × Option rx_H)) (none) (n_X6_shattered_66 (f_X6_shattered_66 F F.1) ls st u) (Nat.beq t 66)
noncomputable def kk_X6_shattered_0 (F : Nat × Nat) : Nat → rx_L → List Value → Option rx_H → Option (Int32 × Option rx_H) := fun t ls st u => Bool.rec (motive := fun _ => Option (Int32 × Option rx_H)) (none) (n_X6_shattered_20 F ls st u) (Nat.beq t 20)
set_option maxRecDepth 100000 in
theorem g_X6_shattered_66 (F : Nat × Nat) (f : Nat) (x0 : Nat) (x4 : Int64) (x6 : Int32) (x7 : Int32) (u : Option rx_H) : f_X6_shattered_66 F (f + 1) x0 x4 x6 x7 u = rx_node (C_X6_shattered F) rx_hI t_X6_shattered [20, 66] (kk_X6_shattered_66 F (f_X6_shattered_66 F f)) 59 66 [some (.ref x0), none, none, none, some (.long x4), none, some (.int x6), some (.int x7)] [] u := rfl
set_option maxRecDepth 100000 in
theorem g_X6_shattered_20 (F : Nat × Nat) (x0 : Nat) (x1 : Int32) (x2 : Int32) (s0 : Nat) (s1 : Int32) (s2 : Int32) (u : Option rx_H) : f_X6_shattered_20 F x0 x1 x2 s0 s1 s2 u = rx_node (C_X6_shattered F) rx_hI t_X6_shattered [20, 66] (kk_X6_shattered_20 F) 59 20 [some (.ref x0), some (.int x1), some (.int x2), none, none, none, none, none] [.int s2, .int s1, .ref s0] u := rfl
set_option maxRecDepth 100000 in
theorem g_X6_shattered_0 (F : Nat × Nat) (x0 : Nat) (x1 : Int32) (x2 : Int32) (u : Option rx_H) : f_X6_shattered_0 F x0 x1 x2 u = rx_node (C_X6_shattered F) rx_hI t_X6_shattered [20, 66] (kk_X6_shattered_0 F) 59 0 [some (.ref x0), some (.int x1), some (.int x2), none, none, none, none, none] [] u := rfl
def f_X6_greatest_0 (F : Nat × Nat) (x0 : Nat) (x1 : Int32) (x2 : Int32) (x3 : Int32) (u : Option rx_H) : Option (Int32 × Option rx_H) :=
  if x1 < (1 : Int32) then
    some ((-1 : Int32), u)
  else
    (rx_gI u x0 2 0).bind fun v1 =>
    if v1 < x1 then
      some ((-1 : Int32), u)
    else
      if x2 < (1 : Int32) then
        some ((-1 : Int32), u)
      else
        if x1 < x2 then
          some ((-1 : Int32), u)
        else
          (rx_ck u x0 2).bind fun _ =>
          (f_X6_isPlace F x0 x3).bind fun v2 =>
          if v2 = 0 then
            some ((-1 : Int32), u)
          else
            (rx_gR u x0 2 4).bind fun v3 =>
            (rx_gR u x0 2 3).bind fun v4 =>
            (rx_aJ u v4 x1).bind fun v5 =>
            (rx_ck u v3 1).bind fun _ =>
            (f_X5_greatestMeeting F v3 v5 x1 x2 u).bind fun v6 =>
            (rx_ck v6.2 x0 2).bind fun _ =>
            (f_X6_keep F x0 x3 (4 : Int32) x1 v6.1 v6.2).bind fun v7 =>
            some (v7.1, v7.2)
def f_X6_greatest (F : Nat × Nat) (x0 : Nat) (x1 : Int32) (x2 : Int32) (x3 : Int32) (u : Option rx_H) : Option (Int32 × Option rx_H) := f_X6_greatest_0 F x0 x1 x2 x3 u
def c_X6_greatest {α : Type} (F : Nat × Nat) (as : List Value) (u : Option rx_H) (κ : rx_K α) : Option α := match as with
  | [.ref a0, .int a1, .int a2, .int a3] => (f_X6_greatest F a0 a1 a2 a3 u).bind fun r => κ (some (.int r.1)) r.2
  | _ => none
noncomputable def C_X6_greatest {α : Type} (F : Nat × Nat) : rx_Cl α := fun j as u κ => Bool.rec (motive := fun _ => Option α) (Bool.rec (motive := fun _ => Option α) (Bool.rec (motive := fun _ => Option α) (none) (c_X6_keep F as u κ) (Nat.beq j 106)) (c_X6_isPlace F as u κ) (Nat.beq j 102)) (c_X5_greatestMeeting F as u κ) (Nat.beq j 69)
def t_X6_greatest : List rx_E := [
  (0, .iload_n 1, 1, 0, 0, 0, 0, 0, []),
  (1, .iconst 1, 1, 0, 0, 0, 1, 0, []),
  (2, .if_icmp .lt 29, 3, 31, 0, 0, 0, 0, []),
  (5, .iload_n 1, 1, 0, 0, 0, 0, 0, []),
  (6, .aload_n 0, 1, 0, 0, 0, 0, 0, []),
  (7, .getfield 15, 3, 2, 0, 135, 0, 0, []),
  (10, .if_icmp .gt 21, 3, 31, 0, 0, 0, 0, []),
  (13, .iload_n 2, 1, 0, 0, 0, 0, 0, []),
  (14, .iconst 1, 1, 0, 0, 0, 1, 0, []),
  (15, .if_icmp .lt 16, 3, 31, 0, 0, 0, 0, []),
  (18, .iload_n 2, 1, 0, 0, 0, 0, 0, []),
  (19, .iload_n 1, 1, 0, 0, 0, 0, 0, []),
  (20, .if_icmp .gt 11, 3, 31, 0, 0, 0, 0, []),
  (23, .aload_n 0, 1, 0, 0, 0, 0, 0, []),
  (24, .iload_n 3, 1, 0, 0, 0, 0, 0, []),
  (25, .invokevirtual 49, 3, 102, 202, 158, 0, 0, []),
  (28, .ifCond .ne 5, 3, 33, 0, 0, 0, 0, []),
  (31, .iconst (-1), 1, 0, 0, 0, (-1), 0, []),
  (32, .ireturn, 1, 0, 0, 0, 0, 0, []),
  (33, .aload_n 0, 1, 0, 0, 0, 0, 0, []),
  (34, .iload_n 3, 1, 0, 0, 0, 0, 0, []),
  (35, .iconst 4, 1, 0, 0, 0, 4, 0, []),
  (36, .iload_n 1, 1, 0, 0, 0, 0, 0, []),
  (37, .aload_n 0, 1, 0, 0, 0, 0, 0, []),
  (38, .getfield 42, 3, 2, 18, 139, 0, 0, []),
  (41, .aload_n 0, 1, 0, 0, 0, 0, 0, []),
  (42, .getfield 29, 3, 2, 14, 138, 0, 0, []),
  (45, .iload_n 1, 1, 0, 0, 0, 0, 0, []),
  (46, .laload, 1, 0, 0, 0, 0, 0, []),
  (47, .iload_n 1, 1, 0, 0, 0, 0, 0, []),
  (48, .iload_n 2, 1, 0, 0, 0, 0, 0, []),
  (49, .invokevirtual 225, 3, 69, 104, 553, 0, 0, []),
  (52, .invokevirtual 57, 3, 106, 205, 173, 0, 0, []),
  (55, .ireturn, 1, 0, 0, 0, 0, 0, [])]
noncomputable def kk_X6_greatest_0 (F : Nat × Nat) : Nat → rx_L → List Value → Option rx_H → Option (Int32 × Option rx_H) := fun t ls st u => none
set_option maxRecDepth 100000 in
theorem g_X6_greatest_0 (F : Nat × Nat) (x0 : Nat) (x1 : Int32) (x2 : Int32) (x3 : Int32) (u : Option rx_H) : f_X6_greatest_0 F x0 x1 x2 x3 u = rx_node (C_X6_greatest F) rx_hI t_X6_greatest [] (kk_X6_greatest_0 F) 37 0 [some (.ref x0), some (.int x1), some (.int x2), some (.int x3)] [] u := rfl
def f_X6_same_0 (F : Nat × Nat) (x0 : Nat) (x1 : Int32) (x2 : Int32) (u : Option rx_H) : Option (Int32 × Option rx_H) :=
  (rx_ck u x0 2).bind fun _ =>
  (f_X6_familiesRefusal F x0 x1 x2 (1 : Int32) u).bind fun v1 =>
  if v1.1 = 0 then
    (rx_gR v1.2 x0 2 2).bind fun v2 =>
    (rx_aR v1.2 v2 x1).bind fun v3 =>
    (rx_gJ v1.2 v3 0 2).bind fun v4 =>
    (rx_gR v1.2 x0 2 2).bind fun v5 =>
    (rx_aR v1.2 v5 x2).bind fun v6 =>
    (rx_gJ v1.2 v6 0 2).bind fun v7 =>
    (f_X0_size F v4).bind fun v8 =>
    (f_X0_size F v7).bind fun v9 =>
    if v8 = v9 then
      (rx_gI v1.2 x0 2 0).bind fun v10 =>
      (f_X3_leastTurn F v4 v7 v10).bind fun v11 =>
      some (v11, v1.2)
    else
      some ((-2 : Int32), v1.2)
  else
    some (v1.1, v1.2)
def f_X6_same (F : Nat × Nat) (x0 : Nat) (x1 : Int32) (x2 : Int32) (u : Option rx_H) : Option (Int32 × Option rx_H) := f_X6_same_0 F x0 x1 x2 u
def c_X6_same {α : Type} (F : Nat × Nat) (as : List Value) (u : Option rx_H) (κ : rx_K α) : Option α := match as with
  | [.ref a0, .int a1, .int a2] => (f_X6_same F a0 a1 a2 u).bind fun r => κ (some (.int r.1)) r.2
  | _ => none
noncomputable def C_X6_same {α : Type} (F : Nat × Nat) : rx_Cl α := fun j as u κ => Bool.rec (motive := fun _ => Option α) (Bool.rec (motive := fun _ => Option α) (Bool.rec (motive := fun _ => Option α) (none) (c_X6_familiesRefusal F as u κ) (Nat.beq j 91)) (c_X3_leastTurn F as u κ) (Nat.beq j 56)) (c_X0_size F as u κ) (Nat.beq j 28)
def t_X6_same : List rx_E := [
  (0, .aload_n 0, 1, 0, 0, 0, 0, 0, []),
  (1, .iload_n 1, 1, 0, 0, 0, 0, 0, []),
  (2, .iload_n 2, 1, 0, 0, 0, 0, 0, []),
  (3, .iconst 1, 1, 0, 0, 0, 1, 0, []),
  (4, .invokevirtual 139, 3, 91, 204, 353, 0, 0, []),
  (7, .istore_n 3, 1, 0, 0, 0, 0, 0, []),
  (8, .iload_n 3, 1, 0, 0, 0, 0, 0, []),
  (9, .ifCond .eq 5, 3, 14, 0, 0, 0, 0, []),
  (12, .iload_n 3, 1, 0, 0, 0, 0, 0, []),
  (13, .ireturn, 1, 0, 0, 0, 0, 0, []),
  (14, .aload_n 0, 1, 0, 0, 0, 0, 0, []),
  (15, .getfield 24, 3, 2, 10, 137, 0, 0, []),
  (18, .iload_n 1, 1, 0, 0, 0, 0, 0, []),
  (19, .aaload, 1, 0, 0, 0, 0, 0, []),
  (20, .getfield 65, 3, 0, 9, 84, 0, 0, []),
  (23, .lstore 4, 2, 0, 0, 0, 0, 0, []),
  (25, .aload_n 0, 1, 0, 0, 0, 0, 0, []),
  (26, .getfield 24, 3, 2, 10, 137, 0, 0, []),
  (29, .iload_n 2, 1, 0, 0, 0, 0, 0, []),
  (30, .aaload, 1, 0, 0, 0, 0, 0, []),
  (31, .getfield 65, 3, 0, 9, 84, 0, 0, []),
  (34, .lstore 6, 2, 0, 0, 0, 0, 0, []),
  (36, .lload 4, 2, 0, 0, 0, 0, 0, []),
  (38, .invokestatic 80, 3, 28, 1, 181, 0, 0, []),
  (41, .lload 6, 2, 0, 0, 0, 0, 0, []),
  (43, .invokestatic 80, 3, 28, 1, 181, 0, 0, []),
  (46, .if_icmp .eq 6, 3, 52, 0, 0, 0, 0, []),
  (49, .bipush (-2), 2, 0, 0, 0, (-2), 0, []),
  (51, .ireturn, 1, 0, 0, 0, 0, 0, []),
  (52, .lload 4, 2, 0, 0, 0, 0, 0, []),
  (54, .lload 6, 2, 0, 0, 0, 0, 0, []),
  (56, .aload_n 0, 1, 0, 0, 0, 0, 0, []),
  (57, .getfield 15, 3, 2, 0, 135, 0, 0, []),
  (60, .invokestatic 228, 3, 56, 3, 568, 0, 0, []),
  (63, .ireturn, 1, 0, 0, 0, 0, 0, [])]
noncomputable def kk_X6_same_0 (F : Nat × Nat) : Nat → rx_L → List Value → Option rx_H → Option (Int32 × Option rx_H) := fun t ls st u => none
set_option maxRecDepth 100000 in
theorem g_X6_same_0 (F : Nat × Nat) (x0 : Nat) (x1 : Int32) (x2 : Int32) (u : Option rx_H) : f_X6_same_0 F x0 x1 x2 u = rx_node (C_X6_same F) rx_hI t_X6_same [] (kk_X6_same_0 F) 38 0 [some (.ref x0), some (.int x1), some (.int x2), none, none, none, none, none] [] u := rfl
def f_X6_turns_0 (F : Nat × Nat) (x0 : Nat) (x1 : Int32) (u : Option rx_H) : Option (Int32 × Option rx_H) :=
  (rx_ck u x0 2).bind fun _ =>
  (f_X6_familyRefusal F x0 x1 (1 : Int32) u).bind fun v1 =>
  if v1.1 = 0 then
    (rx_gR v1.2 x0 2 2).bind fun v2 =>
    (rx_aR v1.2 v2 x1).bind fun v3 =>
    (rx_gJ v1.2 v3 0 2).bind fun v4 =>
    (rx_gI v1.2 x0 2 0).bind fun v5 =>
    (f_X3_countTurns F v4 v5).bind fun v6 =>
    some (v6, v1.2)
  else
    some (v1.1, v1.2)
def f_X6_turns (F : Nat × Nat) (x0 : Nat) (x1 : Int32) (u : Option rx_H) : Option (Int32 × Option rx_H) := f_X6_turns_0 F x0 x1 u
def c_X6_turns {α : Type} (F : Nat × Nat) (as : List Value) (u : Option rx_H) (κ : rx_K α) : Option α := match as with
  | [.ref a0, .int a1] => (f_X6_turns F a0 a1 u).bind fun r => κ (some (.int r.1)) r.2
  | _ => none
noncomputable def C_X6_turns {α : Type} (F : Nat × Nat) : rx_Cl α := fun j as u κ => Bool.rec (motive := fun _ => Option α) (Bool.rec (motive := fun _ => Option α) (none) (c_X6_familyRefusal F as u κ) (Nat.beq j 92)) (c_X3_countTurns F as u κ) (Nat.beq j 53)
def t_X6_turns : List rx_E := [
  (0, .aload_n 0, 1, 0, 0, 0, 0, 0, []),
  (1, .iload_n 1, 1, 0, 0, 0, 0, 0, []),
  (2, .iconst 1, 1, 0, 0, 0, 1, 0, []),
  (3, .invokevirtual 61, 3, 92, 203, 194, 0, 0, []),
  (6, .istore_n 2, 1, 0, 0, 0, 0, 0, []),
  (7, .iload_n 2, 1, 0, 0, 0, 0, 0, []),
  (8, .ifCond .eq 5, 3, 13, 0, 0, 0, 0, []),
  (11, .iload_n 2, 1, 0, 0, 0, 0, 0, []),
  (12, .ireturn, 1, 0, 0, 0, 0, 0, []),
  (13, .aload_n 0, 1, 0, 0, 0, 0, 0, []),
  (14, .getfield 24, 3, 2, 10, 137, 0, 0, []),
  (17, .iload_n 1, 1, 0, 0, 0, 0, 0, []),
  (18, .aaload, 1, 0, 0, 0, 0, 0, []),
  (19, .getfield 65, 3, 0, 9, 84, 0, 0, []),
  (22, .aload_n 0, 1, 0, 0, 0, 0, 0, []),
  (23, .getfield 15, 3, 2, 0, 135, 0, 0, []),
  (26, .invokestatic 232, 3, 53, 2, 591, 0, 0, []),
  (29, .ireturn, 1, 0, 0, 0, 0, 0, [])]
noncomputable def kk_X6_turns_0 (F : Nat × Nat) : Nat → rx_L → List Value → Option rx_H → Option (Int32 × Option rx_H) := fun t ls st u => none
set_option maxRecDepth 100000 in
theorem g_X6_turns_0 (F : Nat × Nat) (x0 : Nat) (x1 : Int32) (u : Option rx_H) : f_X6_turns_0 F x0 x1 u = rx_node (C_X6_turns F) rx_hI t_X6_turns [] (kk_X6_turns_0 F) 21 0 [some (.ref x0), some (.int x1), none] [] u := rfl
def f_X6_row_0 (F : Nat × Nat) (x0 : Nat) (x1 : Int32) (x2 : Int32) (x3 : Int32) (u : Option rx_H) : Option (Int32 × Option rx_H) :=
  (rx_ck u x0 2).bind fun _ =>
  (f_X6_isPlace F x0 x1).bind fun v1 =>
  if v1 = 0 then
    some ((-1 : Int32), u)
  else
    if x2 < (6 : Int32) then
      some ((-1 : Int32), u)
    else
      if (8 : Int32) < x2 then
        some ((-1 : Int32), u)
      else
        if (64 : Int32) < x3 then
          some ((-1 : Int32), u)
        else
          if x3 < 0 then
            some ((-14 : Int32), u)
          else
            (rx_gR u x0 2 2).bind fun v2 =>
            (rx_aR u v2 x1).bind fun v3 =>
            (rx_ck u v3 0).bind fun _ =>
            (f_X4_becomeRow F v3 x2 x3 u).bind fun v4 =>
            some ((0 : Int32), v4)
def f_X6_row (F : Nat × Nat) (x0 : Nat) (x1 : Int32) (x2 : Int32) (x3 : Int32) (u : Option rx_H) : Option (Int32 × Option rx_H) := f_X6_row_0 F x0 x1 x2 x3 u
def c_X6_row {α : Type} (F : Nat × Nat) (as : List Value) (u : Option rx_H) (κ : rx_K α) : Option α := match as with
  | [.ref a0, .int a1, .int a2, .int a3] => (f_X6_row F a0 a1 a2 a3 u).bind fun r => κ (some (.int r.1)) r.2
  | _ => none
noncomputable def C_X6_row {α : Type} (F : Nat × Nat) : rx_Cl α := fun j as u κ => Bool.rec (motive := fun _ => Option α) (Bool.rec (motive := fun _ => Option α) (none) (c_X6_isPlace F as u κ) (Nat.beq j 102)) (c_X4_becomeRow F as u κ) (Nat.beq j 63)
def t_X6_row : List rx_E := [
  (0, .aload_n 0, 1, 0, 0, 0, 0, 0, []),
  (1, .iload_n 1, 1, 0, 0, 0, 0, 0, []),
  (2, .invokevirtual 49, 3, 102, 202, 158, 0, 0, []),
  (5, .ifCond .eq 21, 3, 26, 0, 0, 0, 0, []),
  (8, .iload_n 2, 1, 0, 0, 0, 0, 0, []),
  (9, .bipush 6, 2, 0, 0, 0, 6, 0, []),
  (11, .if_icmp .lt 15, 3, 26, 0, 0, 0, 0, []),
  (14, .iload_n 2, 1, 0, 0, 0, 0, 0, []),
  (15, .bipush 8, 2, 0, 0, 0, 8, 0, []),
  (17, .if_icmp .gt 9, 3, 26, 0, 0, 0, 0, []),
  (20, .iload_n 3, 1, 0, 0, 0, 0, 0, []),
  (21, .bipush 64, 2, 0, 0, 0, 64, 0, []),
  (23, .if_icmp .le 5, 3, 28, 0, 0, 0, 0, []),
  (26, .iconst (-1), 1, 0, 0, 0, (-1), 0, []),
  (27, .ireturn, 1, 0, 0, 0, 0, 0, []),
  (28, .iload_n 3, 1, 0, 0, 0, 0, 0, []),
  (29, .ifCond .ge 6, 3, 35, 0, 0, 0, 0, []),
  (32, .bipush (-14), 2, 0, 0, 0, (-14), 0, []),
  (34, .ireturn, 1, 0, 0, 0, 0, 0, []),
  (35, .aload_n 0, 1, 0, 0, 0, 0, 0, []),
  (36, .getfield 24, 3, 2, 10, 137, 0, 0, []),
  (39, .iload_n 1, 1, 0, 0, 0, 0, 0, []),
  (40, .aaload, 1, 0, 0, 0, 0, 0, []),
  (41, .iload_n 2, 1, 0, 0, 0, 0, 0, []),
  (42, .iload_n 3, 1, 0, 0, 0, 0, 0, []),
  (43, .invokevirtual 235, 3, 63, 3, 601, 0, 0, []),
  (46, .iconst 0, 1, 0, 0, 0, 0, 0, []),
  (47, .ireturn, 1, 0, 0, 0, 0, 0, [])]
noncomputable def kk_X6_row_0 (F : Nat × Nat) : Nat → rx_L → List Value → Option rx_H → Option (Int32 × Option rx_H) := fun t ls st u => none
set_option maxRecDepth 100000 in
theorem g_X6_row_0 (F : Nat × Nat) (x0 : Nat) (x1 : Int32) (x2 : Int32) (x3 : Int32) (u : Option rx_H) : f_X6_row_0 F x0 x1 x2 x3 u = rx_node (C_X6_row F) rx_hI t_X6_row [] (kk_X6_row_0 F) 31 0 [some (.ref x0), some (.int x1), some (.int x2), some (.int x3)] [] u := rfl
def f_X6_rowRefusal_0 (F : Nat × Nat) (x0 : Nat) (x1 : Int32) (u : Option rx_H) : Option (Int32 × Option rx_H) :=
  (rx_ck u x0 2).bind fun _ =>
  (f_X6_isPlace F x0 x1).bind fun v1 =>
  if v1 = 0 then
    some ((-1 : Int32), u)
  else
    (rx_gR u x0 2 2).bind fun v2 =>
    (rx_aR u v2 x1).bind fun v3 =>
    (rx_gI u v3 0 0).bind fun v4 =>
    if v4 = (-2 : Int32) then
      some ((-11 : Int32), u)
    else
      (rx_gR u x0 2 2).bind fun v5 =>
      (rx_aR u v5 x1).bind fun v6 =>
      (rx_ck u v6 0).bind fun _ =>
      (f_X4_isRow F v6 u).bind fun v7 =>
      if v7.1 = 0 then
        some ((-12 : Int32), v7.2)
      else
        some ((0 : Int32), v7.2)
def f_X6_rowRefusal (F : Nat × Nat) (x0 : Nat) (x1 : Int32) (u : Option rx_H) : Option (Int32 × Option rx_H) := f_X6_rowRefusal_0 F x0 x1 u
def c_X6_rowRefusal {α : Type} (F : Nat × Nat) (as : List Value) (u : Option rx_H) (κ : rx_K α) : Option α := match as with
  | [.ref a0, .int a1] => (f_X6_rowRefusal F a0 a1 u).bind fun r => κ (some (.int r.1)) r.2
  | _ => none
noncomputable def C_X6_rowRefusal {α : Type} (F : Nat × Nat) : rx_Cl α := fun j as u κ => Bool.rec (motive := fun _ => Option α) (Bool.rec (motive := fun _ => Option α) (none) (c_X6_isPlace F as u κ) (Nat.beq j 102)) (c_X4_isRow F as u κ) (Nat.beq j 66)
def t_X6_rowRefusal : List rx_E := [
  (0, .aload_n 0, 1, 0, 0, 0, 0, 0, []),
  (1, .iload_n 1, 1, 0, 0, 0, 0, 0, []),
  (2, .invokevirtual 49, 3, 102, 202, 158, 0, 0, []),
  (5, .ifCond .ne 5, 3, 10, 0, 0, 0, 0, []),
  (8, .iconst (-1), 1, 0, 0, 0, (-1), 0, []),
  (9, .ireturn, 1, 0, 0, 0, 0, 0, []),
  (10, .aload_n 0, 1, 0, 0, 0, 0, 0, []),
  (11, .getfield 24, 3, 2, 10, 137, 0, 0, []),
  (14, .iload_n 1, 1, 0, 0, 0, 0, 0, []),
  (15, .aaload, 1, 0, 0, 0, 0, 0, []),
  (16, .getfield 98, 3, 0, 0, 78, 0, 0, []),
  (19, .bipush (-2), 2, 0, 0, 0, (-2), 0, []),
  (21, .if_icmp .ne 6, 3, 27, 0, 0, 0, 0, []),
  (24, .bipush (-11), 2, 0, 0, 0, (-11), 0, []),
  (26, .ireturn, 1, 0, 0, 0, 0, 0, []),
  (27, .aload_n 0, 1, 0, 0, 0, 0, 0, []),
  (28, .getfield 24, 3, 2, 10, 137, 0, 0, []),
  (31, .iload_n 1, 1, 0, 0, 0, 0, 0, []),
  (32, .aaload, 1, 0, 0, 0, 0, 0, []),
  (33, .invokevirtual 255, 3, 66, 1, 198, 0, 0, []),
  (36, .ifCond .eq 7, 3, 43, 0, 0, 0, 0, []),
  (39, .iconst 0, 1, 0, 0, 0, 0, 0, []),
  (40, .goto 5, 3, 45, 0, 0, 0, 0, []),
  (43, .bipush (-12), 2, 0, 0, 0, (-12), 0, []),
  (45, .ireturn, 1, 0, 0, 0, 0, 0, [])]
noncomputable def kk_X6_rowRefusal_0 (F : Nat × Nat) : Nat → rx_L → List Value → Option rx_H → Option (Int32 × Option rx_H) := fun t ls st u => none
set_option maxRecDepth 100000 in
theorem g_X6_rowRefusal_0 (F : Nat × Nat) (x0 : Nat) (x1 : Int32) (u : Option rx_H) : f_X6_rowRefusal_0 F x0 x1 u = rx_node (C_X6_rowRefusal F) rx_hI t_X6_rowRefusal [] (kk_X6_rowRefusal_0 F) 28 0 [some (.ref x0), some (.int x1)] [] u := rfl
def f_X6_put_0 (F : Nat × Nat) (x0 : Nat) (x1 : Int32) (x2 : Int32) (x3 : Int64) (u : Option rx_H) : Option (Int32 × Option rx_H) :=
  (rx_ck u x0 2).bind fun _ =>
  (f_X6_rowRefusal F x0 x1 u).bind fun v1 =>
  if v1.1 = 0 then
    (rx_gR v1.2 x0 2 2).bind fun v2 =>
    (rx_aR v1.2 v2 x1).bind fun v3 =>
    if x2 < 0 then
      some ((-13 : Int32), v1.2)
    else
      (rx_gI v1.2 v3 0 4).bind fun v4 =>
      if x2 < v4 then
        (rx_gR v1.2 v3 0 5).bind fun v5 =>
        (rx_gI v1.2 v3 0 0).bind fun v6 =>
        if v6 = (6 : Int32) then
          (rx_sJ v1.2 v5 x2 (Int32.toInt64 ((Int32.toInt8 (Int64.toInt32 x3)).toInt32))).bind fun v7 =>
          some ((0 : Int32), v7)
        else
          (rx_gI v1.2 v3 0 0).bind fun v8 =>
          if v8 = (7 : Int32) then
            (rx_sJ v1.2 v5 x2 (Int32.toInt64 (Int64.toInt32 x3))).bind fun v9 =>
            some ((0 : Int32), v9)
          else
            (rx_sJ v1.2 v5 x2 x3).bind fun v10 =>
            some ((0 : Int32), v10)
      else
        some ((-13 : Int32), v1.2)
  else
    some (v1.1, v1.2)
def f_X6_put (F : Nat × Nat) (x0 : Nat) (x1 : Int32) (x2 : Int32) (x3 : Int64) (u : Option rx_H) : Option (Int32 × Option rx_H) := f_X6_put_0 F x0 x1 x2 x3 u
def c_X6_put {α : Type} (F : Nat × Nat) (as : List Value) (u : Option rx_H) (κ : rx_K α) : Option α := match as with
  | [.ref a0, .int a1, .int a2, .long a3] => (f_X6_put F a0 a1 a2 a3 u).bind fun r => κ (some (.int r.1)) r.2
  | _ => none
noncomputable def C_X6_put {α : Type} (F : Nat × Nat) : rx_Cl α := fun j as u κ => Bool.rec (motive := fun _ => Option α) (none) (c_X6_rowRefusal F as u κ) (Nat.beq j 123)
def t_X6_put : List rx_E := [
  (0, .aload_n 0, 1, 0, 0, 0, 0, 0, []),
  (1, .iload_n 1, 1, 0, 0, 0, 0, 0, []),
  (2, .invokevirtual 239, 3, 123, 202, 609, 0, 0, []),
  (5, .istore 5, 2, 0, 0, 0, 0, 0, []),
  (7, .iload 5, 2, 0, 0, 0, 0, 0, []),
  (9, .ifCond .eq 6, 3, 15, 0, 0, 0, 0, []),
  (12, .iload 5, 2, 0, 0, 0, 0, 0, []),
  (14, .ireturn, 1, 0, 0, 0, 0, 0, []),
  (15, .aload_n 0, 1, 0, 0, 0, 0, 0, []),
  (16, .getfield 24, 3, 2, 10, 137, 0, 0, []),
  (19, .iload_n 1, 1, 0, 0, 0, 0, 0, []),
  (20, .aaload, 1, 0, 0, 0, 0, 0, []),
  (21, .astore 6, 2, 0, 0, 0, 0, 0, []),
  (23, .iload_n 2, 1, 0, 0, 0, 0, 0, []),
  (24, .ifCond .lt 12, 3, 36, 0, 0, 0, 0, []),
  (27, .iload_n 2, 1, 0, 0, 0, 0, 0, []),
  (28, .aload 6, 2, 0, 0, 0, 0, 0, []),
  (30, .getfield 242, 3, 0, 16, 89, 0, 0, []),
  (33, .if_icmp .lt 6, 3, 39, 0, 0, 0, 0, []),
  (36, .bipush (-13), 2, 0, 0, 0, (-13), 0, []),
  (38, .ireturn, 1, 0, 0, 0, 0, 0, []),
  (39, .aload 6, 2, 0, 0, 0, 0, 0, []),
  (41, .getfield 245, 3, 0, 22, 91, 0, 0, []),
  (44, .iload_n 2, 1, 0, 0, 0, 0, 0, []),
  (45, .aload 6, 2, 0, 0, 0, 0, 0, []),
  (47, .getfield 98, 3, 0, 0, 78, 0, 0, []),
  (50, .bipush 6, 2, 0, 0, 0, 6, 0, []),
  (52, .if_icmp .ne 10, 3, 62, 0, 0, 0, 0, []),
  (55, .lload_n 3, 1, 0, 0, 0, 0, 0, []),
  (56, .l2i, 1, 0, 0, 0, 0, 0, []),
  (57, .i2b, 1, 0, 0, 0, 0, 0, []),
  (58, .i2l, 1, 0, 0, 0, 0, 0, []),
  (59, .goto 20, 3, 79, 0, 0, 0, 0, []),
  (62, .aload 6, 2, 0, 0, 0, 0, 0, []),
  (64, .getfield 98, 3, 0, 0, 78, 0, 0, []),
  (67, .bipush 7, 2, 0, 0, 0, 7, 0, []),
  (69, .if_icmp .ne 9, 3, 78, 0, 0, 0, 0, []),
  (72, .lload_n 3, 1, 0, 0, 0, 0, 0, []),
  (73, .l2i, 1, 0, 0, 0, 0, 0, []),
  (74, .i2l, 1, 0, 0, 0, 0, 0, []),
  (75, .goto 4, 3, 79, 0, 0, 0, 0, []),
  (78, .lload_n 3, 1, 0, 0, 0, 0, 0, []),
  (79, .lastore, 1, 0, 0, 0, 0, 0, []),
  (80, .iconst 0, 1, 0, 0, 0, 0, 0, []),
  (81, .ireturn, 1, 0, 0, 0, 0, 0, [])]
noncomputable def kk_X6_put_0 (F : Nat × Nat) : Nat → rx_L → List Value → Option rx_H → Option (Int32 × Option rx_H) := fun t ls st u => none
set_option maxRecDepth 100000 in
theorem g_X6_put_0 (F : Nat × Nat) (x0 : Nat) (x1 : Int32) (x2 : Int32) (x3 : Int64) (u : Option rx_H) : f_X6_put_0 F x0 x1 x2 x3 u = rx_node (C_X6_put F) rx_hI t_X6_put [] (kk_X6_put_0 F) 48 0 [some (.ref x0), some (.int x1), some (.int x2), some (.long x3), none, none, none] [] u := rfl
def f_X6_copy_0 (F : Nat × Nat) (x0 : Nat) (x1 : Int32) (x2 : Int32) (x3 : Int32) (x4 : Int32) (x5 : Int32) (u : Option rx_H) : Option (Int32 × Option rx_H) :=
  (rx_ck u x0 2).bind fun _ =>
  (f_X6_isPlace F x0 x1).bind fun v1 =>
  if v1 = 0 then
    some ((-1 : Int32), u)
  else
    (rx_ck u x0 2).bind fun _ =>
    (f_X6_isPlace F x0 x3).bind fun v2 =>
    if v2 = 0 then
      some ((-1 : Int32), u)
    else
      (rx_gR u x0 2 2).bind fun v3 =>
      (rx_aR u v3 x1).bind fun v4 =>
      (rx_gR u x0 2 2).bind fun v5 =>
      (rx_aR u v5 x3).bind fun v6 =>
      (rx_gI u v4 0 0).bind fun v7 =>
      if v7 = (-2 : Int32) then
        some ((-11 : Int32), u)
      else
        (rx_gI u v6 0 0).bind fun v8 =>
        if v8 = (-2 : Int32) then
          some ((-11 : Int32), u)
        else
          (rx_ck u v4 0).bind fun _ =>
          (f_X4_isRow F v4 u).bind fun v9 =>
          if v9.1 = 0 then
            some ((-12 : Int32), v9.2)
          else
            (rx_gI v9.2 v6 0 0).bind fun v10 =>
            (rx_gI v9.2 v4 0 0).bind fun v11 =>
            if v10 = v11 then
              (rx_ck v9.2 v4 0).bind fun _ =>
              (f_X4_hasStretch F v4 x2 x5 v9.2).bind fun v12 =>
              if v12.1 = 0 then
                some ((-13 : Int32), v12.2)
              else
                (rx_ck v12.2 v6 0).bind fun _ =>
                (f_X4_hasStretch F v6 x4 x5 v12.2).bind fun v13 =>
                if v13.1 = 0 then
                  some ((-13 : Int32), v13.2)
                else
                  (rx_gR v13.2 v4 0 5).bind fun v14 =>
                  (rx_gR v13.2 v6 0 5).bind fun v15 =>
                  (rx_cp v13.2 v14 x2 v15 x4 x5).bind fun v16 =>
                  some (x5, v16)
            else
              some ((-12 : Int32), v9.2)
def f_X6_copy (F : Nat × Nat) (x0 : Nat) (x1 : Int32) (x2 : Int32) (x3 : Int32) (x4 : Int32) (x5 : Int32) (u : Option rx_H) : Option (Int32 × Option rx_H) := f_X6_copy_0 F x0 x1 x2 x3 x4 x5 u
def c_X6_copy {α : Type} (F : Nat × Nat) (as : List Value) (u : Option rx_H) (κ : rx_K α) : Option α := match as with
  | [.ref a0, .int a1, .int a2, .int a3, .int a4, .int a5] => (f_X6_copy F a0 a1 a2 a3 a4 a5 u).bind fun r => κ (some (.int r.1)) r.2
  | _ => none
noncomputable def C_X6_copy {α : Type} (F : Nat × Nat) : rx_Cl α := fun j as u κ => Bool.rec (motive := fun _ => Option α) (Bool.rec (motive := fun _ => Option α) (Bool.rec (motive := fun _ => Option α) (none) (c_X6_isPlace F as u κ) (Nat.beq j 102)) (c_X4_isRow F as u κ) (Nat.beq j 66)) (c_X4_hasStretch F as u κ) (Nat.beq j 64)
def t_X6_copy : List rx_E := [
  (0, .aload_n 0, 1, 0, 0, 0, 0, 0, []),
  (1, .iload_n 1, 1, 0, 0, 0, 0, 0, []),
  (2, .invokevirtual 49, 3, 102, 202, 158, 0, 0, []),
  (5, .ifCond .eq 11, 3, 16, 0, 0, 0, 0, []),
  (8, .aload_n 0, 1, 0, 0, 0, 0, 0, []),
  (9, .iload_n 3, 1, 0, 0, 0, 0, 0, []),
  (10, .invokevirtual 49, 3, 102, 202, 158, 0, 0, []),
  (13, .ifCond .ne 5, 3, 18, 0, 0, 0, 0, []),
  (16, .iconst (-1), 1, 0, 0, 0, (-1), 0, []),
  (17, .ireturn, 1, 0, 0, 0, 0, 0, []),
  (18, .aload_n 0, 1, 0, 0, 0, 0, 0, []),
  (19, .getfield 24, 3, 2, 10, 137, 0, 0, []),
  (22, .iload_n 1, 1, 0, 0, 0, 0, 0, []),
  (23, .aaload, 1, 0, 0, 0, 0, 0, []),
  (24, .astore 6, 2, 0, 0, 0, 0, 0, []),
  (26, .aload_n 0, 1, 0, 0, 0, 0, 0, []),
  (27, .getfield 24, 3, 2, 10, 137, 0, 0, []),
  (30, .iload_n 3, 1, 0, 0, 0, 0, 0, []),
  (31, .aaload, 1, 0, 0, 0, 0, 0, []),
  (32, .astore 7, 2, 0, 0, 0, 0, 0, []),
  (34, .aload 6, 2, 0, 0, 0, 0, 0, []),
  (36, .getfield 98, 3, 0, 0, 78, 0, 0, []),
  (39, .bipush (-2), 2, 0, 0, 0, (-2), 0, []),
  (41, .if_icmp .eq 13, 3, 54, 0, 0, 0, 0, []),
  (44, .aload 7, 2, 0, 0, 0, 0, 0, []),
  (46, .getfield 98, 3, 0, 0, 78, 0, 0, []),
  (49, .bipush (-2), 2, 0, 0, 0, (-2), 0, []),
  (51, .if_icmp .ne 6, 3, 57, 0, 0, 0, 0, []),
  (54, .bipush (-11), 2, 0, 0, 0, (-11), 0, []),
  (56, .ireturn, 1, 0, 0, 0, 0, 0, []),
  (57, .aload 6, 2, 0, 0, 0, 0, 0, []),
  (59, .invokevirtual 255, 3, 66, 1, 198, 0, 0, []),
  (62, .ifCond .eq 16, 3, 78, 0, 0, 0, 0, []),
  (65, .aload 7, 2, 0, 0, 0, 0, 0, []),
  (67, .getfield 98, 3, 0, 0, 78, 0, 0, []),
  (70, .aload 6, 2, 0, 0, 0, 0, 0, []),
  (72, .getfield 98, 3, 0, 0, 78, 0, 0, []),
  (75, .if_icmp .eq 6, 3, 81, 0, 0, 0, 0, []),
  (78, .bipush (-12), 2, 0, 0, 0, (-12), 0, []),
  (80, .ireturn, 1, 0, 0, 0, 0, 0, []),
  (81, .aload 6, 2, 0, 0, 0, 0, 0, []),
  (83, .iload_n 2, 1, 0, 0, 0, 0, 0, []),
  (84, .iload 5, 2, 0, 0, 0, 0, 0, []),
  (86, .invokevirtual 266, 3, 64, 3, 617, 0, 0, []),
  (89, .ifCond .eq 15, 3, 104, 0, 0, 0, 0, []),
  (92, .aload 7, 2, 0, 0, 0, 0, 0, []),
  (94, .iload 4, 2, 0, 0, 0, 0, 0, []),
  (96, .iload 5, 2, 0, 0, 0, 0, 0, []),
  (98, .invokevirtual 266, 3, 64, 3, 617, 0, 0, []),
  (101, .ifCond .ne 6, 3, 107, 0, 0, 0, 0, []),
  (104, .bipush (-13), 2, 0, 0, 0, (-13), 0, []),
  (106, .ireturn, 1, 0, 0, 0, 0, 0, []),
  (107, .aload 6, 2, 0, 0, 0, 0, 0, []),
  (109, .getfield 245, 3, 0, 22, 91, 0, 0, []),
  (112, .iload_n 2, 1, 0, 0, 0, 0, 0, []),
  (113, .aload 7, 2, 0, 0, 0, 0, 0, []),
  (115, .getfield 245, 3, 0, 22, 91, 0, 0, []),
  (118, .iload 4, 2, 0, 0, 0, 0, 0, []),
  (120, .iload 5, 2, 0, 0, 0, 0, 0, []),
  (122, .invokestatic 269, 3, 0, 1000, 621, 0, 0, []),
  (125, .iload 5, 2, 0, 0, 0, 0, 0, []),
  (127, .ireturn, 1, 0, 0, 0, 0, 0, [])]
noncomputable def kk_X6_copy_0 (F : Nat × Nat) : Nat → rx_L → List Value → Option rx_H → Option (Int32 × Option rx_H) := fun t ls st u => none
set_option maxRecDepth 100000 in
theorem g_X6_copy_0 (F : Nat × Nat) (x0 : Nat) (x1 : Int32) (x2 : Int32) (x3 : Int32) (x4 : Int32) (x5 : Int32) (u : Option rx_H) : f_X6_copy_0 F x0 x1 x2 x3 x4 x5 u = rx_node (C_X6_copy F) rx_hI t_X6_copy [] (kk_X6_copy_0 F) 65 0 [some (.ref x0), some (.int x1), some (.int x2), some (.int x3), some (.int x4), some (.int x5), none, none] [] u := rfl
def f_X6_take_52 (F : Nat × Nat) : Nat → Nat → Int32 → Nat → Int32 → Option rx_H → Option (Int32 × Option rx_H)
  | 0, _, _, _, _, _ => none
  | f + 1, x0, x2, x4, x5, u =>
    (rx_gI u x4 0 4).bind fun v1 =>
    if x5 < v1 then
      (rx_gR u x4 0 5).bind fun v2 =>
      (rx_aJ u v2 x5).bind fun v3 =>
      if v3 < (0 : Int64) then
        some (x5, u)
      else
        (rx_gI u x0 2 1).bind fun v4 =>
        if v3 < Int32.toInt64 v4 then
          (rx_gR u x0 2 2).bind fun v5 =>
          (rx_aR u v5 x2).bind fun v6 =>
          (rx_ck u x0 2).bind fun _ =>
          (f_X6_comes F x0 v6 (Int64.toInt32 v3) u).bind fun v7 =>
          if v7.1 = 0 then
            some (x5, v7.2)
          else
            (f_X6_take_52 F f) x0 x2 x4 (x5 + 1) v7.2
        else
          some (x5, u)
    else
      (rx_gI u x4 0 4).bind fun v8 =>
      some (v8, u)
def f_X6_take_35 (F : Nat × Nat) (x0 : Nat) (x1 : Int32) (x2 : Int32) (x3 : Int32) (u : Option rx_H) : Option (Int32 × Option rx_H) :=
  if x3 = 0 then
    (rx_gR u x0 2 2).bind fun v1 =>
    (rx_aR u v1 x1).bind fun v2 =>
    f_X6_take_52 F F.1 x0 x2 v2 (0 : Int32) u
  else
    some (x3, u)
def f_X6_take_0 (F : Nat × Nat) (x0 : Nat) (x1 : Int32) (x2 : Int32) (u : Option rx_H) : Option (Int32 × Option rx_H) :=
  (rx_ck u x0 2).bind fun _ =>
  (f_X6_isPlace F x0 x1).bind fun v1 =>
  if v1 = 0 then
    some ((-1 : Int32), u)
  else
    (rx_ck u x0 2).bind fun _ =>
    (f_X6_isPlace F x0 x2).bind fun v2 =>
    if v2 = 0 then
      some ((-1 : Int32), u)
    else
      (rx_ck u x0 2).bind fun _ =>
      (f_X6_rowRefusal F x0 x1 u).bind fun v3 =>
      if v3.1 = 0 then
        (rx_ck v3.2 x0 2).bind fun _ =>
        (f_X6_familyRefusal F x0 x2 (1 : Int32) v3.2).bind fun v4 =>
        f_X6_take_35 F x0 x1 x2 v4.1 v4.2
      else
        f_X6_take_35 F x0 x1 x2 v3.1 v3.2
def f_X6_take (F : Nat × Nat) (x0 : Nat) (x1 : Int32) (x2 : Int32) (u : Option rx_H) : Option (Int32 × Option rx_H) := f_X6_take_0 F x0 x1 x2 u
def c_X6_take {α : Type} (F : Nat × Nat) (as : List Value) (u : Option rx_H) (κ : rx_K α) : Option α := match as with
  | [.ref a0, .int a1, .int a2] => (f_X6_take F a0 a1 a2 u).bind fun r => κ (some (.int r.1)) r.2
  | _ => none
noncomputable def C_X6_take {α : Type} (F : Nat × Nat) : rx_Cl α := fun j as u κ => Bool.rec (motive := fun _ => Option α) (Bool.rec (motive := fun _ => Option α) (Bool.rec (motive := fun _ => Option α) (Bool.rec (motive := fun _ => Option α) (none) (c_X6_rowRefusal F as u κ) (Nat.beq j 123)) (c_X6_isPlace F as u κ) (Nat.beq j 102)) (c_X6_familyRefusal F as u κ) (Nat.beq j 92)) (c_X6_comes F as u κ) (Nat.beq j 82)
def t_X6_take : List rx_E := [
  (0, .aload_n 0, 1, 0, 0, 0, 0, 0, []),
  (1, .iload_n 1, 1, 0, 0, 0, 0, 0, []),
  (2, .invokevirtual 49, 3, 102, 202, 158, 0, 0, []),
  (5, .ifCond .eq 11, 3, 16, 0, 0, 0, 0, []),
  (8, .aload_n 0, 1, 0, 0, 0, 0, 0, []),
  (9, .iload_n 2, 1, 0, 0, 0, 0, 0, []),
  (10, .invokevirtual 49, 3, 102, 202, 158, 0, 0, []),
  (13, .ifCond .ne 5, 3, 18, 0, 0, 0, 0, []),
  (16, .iconst (-1), 1, 0, 0, 0, (-1), 0, []),
  (17, .ireturn, 1, 0, 0, 0, 0, 0, []),
  (18, .aload_n 0, 1, 0, 0, 0, 0, 0, []),
  (19, .iload_n 1, 1, 0, 0, 0, 0, 0, []),
  (20, .invokevirtual 239, 3, 123, 202, 609, 0, 0, []),
  (23, .istore_n 3, 1, 0, 0, 0, 0, 0, []),
  (24, .iload_n 3, 1, 0, 0, 0, 0, 0, []),
  (25, .ifCond .ne 10, 3, 35, 0, 0, 0, 0, []),
  (28, .aload_n 0, 1, 0, 0, 0, 0, 0, []),
  (29, .iload_n 2, 1, 0, 0, 0, 0, 0, []),
  (30, .iconst 1, 1, 0, 0, 0, 1, 0, []),
  (31, .invokevirtual 61, 3, 92, 203, 194, 0, 0, []),
  (34, .istore_n 3, 1, 0, 0, 0, 0, 0, []),
  (35, .iload_n 3, 1, 0, 0, 0, 0, 0, []),
  (36, .ifCond .eq 5, 3, 41, 0, 0, 0, 0, []),
  (39, .iload_n 3, 1, 0, 0, 0, 0, 0, []),
  (40, .ireturn, 1, 0, 0, 0, 0, 0, []),
  (41, .aload_n 0, 1, 0, 0, 0, 0, 0, []),
  (42, .getfield 24, 3, 2, 10, 137, 0, 0, []),
  (45, .iload_n 1, 1, 0, 0, 0, 0, 0, []),
  (46, .aaload, 1, 0, 0, 0, 0, 0, []),
  (47, .astore 4, 2, 0, 0, 0, 0, 0, []),
  (49, .iconst 0, 1, 0, 0, 0, 0, 0, []),
  (50, .istore 5, 2, 0, 0, 0, 0, 0, []),
  (52, .iload 5, 2, 0, 0, 0, 0, 0, []),
  (54, .aload 4, 2, 0, 0, 0, 0, 0, []),
  (56, .getfield 242, 3, 0, 16, 89, 0, 0, []),
  (59, .if_icmp .ge 56, 3, 115, 0, 0, 0, 0, []),
  (62, .aload 4, 2, 0, 0, 0, 0, 0, []),
  (64, .getfield 245, 3, 0, 22, 91, 0, 0, []),
  (67, .iload 5, 2, 0, 0, 0, 0, 0, []),
  (69, .laload, 1, 0, 0, 0, 0, 0, []),
  (70, .lstore 6, 2, 0, 0, 0, 0, 0, []),
  (72, .lload 6, 2, 0, 0, 0, 0, 0, []),
  (74, .lconst 0, 1, 0, 0, 0, 0, 0, []),
  (75, .lcmp, 1, 0, 0, 0, 0, 0, []),
  (76, .ifCond .lt 30, 3, 106, 0, 0, 0, 0, []),
  (79, .lload 6, 2, 0, 0, 0, 0, 0, []),
  (81, .aload_n 0, 1, 0, 0, 0, 0, 0, []),
  (82, .getfield 19, 3, 2, 4, 136, 0, 0, []),
  (85, .i2l, 1, 0, 0, 0, 0, 0, []),
  (86, .lcmp, 1, 0, 0, 0, 0, 0, []),
  (87, .ifCond .ge 19, 3, 106, 0, 0, 0, 0, []),
  (90, .aload_n 0, 1, 0, 0, 0, 0, 0, []),
  (91, .aload_n 0, 1, 0, 0, 0, 0, 0, []),
  (92, .getfield 24, 3, 2, 10, 137, 0, 0, []),
  (95, .iload_n 2, 1, 0, 0, 0, 0, 0, []),
  (96, .aaload, 1, 0, 0, 0, 0, 0, []),
  (97, .lload 6, 2, 0, 0, 0, 0, 0, []),
  (99, .l2i, 1, 0, 0, 0, 0, 0, []),
  (100, .invokevirtual 76, 3, 82, 203, 210, 0, 0, []),
  (103, .ifCond .ne 6, 3, 109, 0, 0, 0, 0, []),
  (106, .iload 5, 2, 0, 0, 0, 0, 0, []),
  (108, .ireturn, 1, 0, 0, 0, 0, 0, []),
  (109, .iinc 5 1, 3, 0, 0, 0, 1, 0, []),
  (112, .goto (-60), 3, 52, 0, 0, 0, 0, []),
  (115, .aload 4, 2, 0, 0, 0, 0, 0, []),
  (117, .getfield 242, 3, 0, 16, 89, 0, 0, []),
  (120, .ireturn, 1, 0, 0, 0, 0, 0, [])]
def n_X6_take_35 (F : Nat × Nat) (ls : rx_L) (st : List Value) (u : Option rx_H) : Option (Int32 × Option rx_H) := match ls, st, u with
  | [some (.ref x0), some (.int x1), some (.int x2), some (.int x3), _, _, _, _], [], u => f_X6_take_35 F x0 x1 x2 x3 u
  | _, _, _ => none
def n_X6_take_52 (k52 : Nat → Int32 → Nat → Int32 → Option rx_H → Option (Int32 × Option rx_H)) (ls : rx_L) (st : List Value) (u : Option rx_H) : Option (Int32 × Option rx_H) := match ls, st, u with
  | [some (.ref x0), _, some (.int x2), _, some (.ref x4), some (.int x5), _, _], [], u => k52 x0 x2 x4 x5 u
  | _, _, _ => none
noncomputable def kk_X6_take_52 (F : Nat × Nat) (k52 : Nat → Int32 → Nat → Int32 → Option rx_H → Option (Int32 × Option rx_H)) : Nat → rx_L → List Value → Option rx_H → Option (Int32 × Option rx_H) := fun t ls st u => Bool.rec (motive := fun _ => Option (Int32 × Option rx_H)) (none) (n_X6_take_52 k52 ls st u) (Nat.beq t 52)
noncomputable def kk_X6_take_35 (F : Nat × Nat) : Nat → rx_L → List Value → Option rx_H → Option (Int32 × Option rx_H) := fun t ls st u => Bool.rec (motive := fun _ => Option (Int32 × Option rx_H)) (none) (n_X6_take_52 (f_X6_take_52 F F.1) ls st u) (Nat.beq t 52)
noncomputable def kk_X6_take_0 (F : Nat × Nat) : Nat → rx_L → List Value → Option rx_H → Option (Int32 × Option rx_H) := fun t ls st u => Bool.rec (motive := fun _ => Option (Int32 × Option rx_H)) (none) (n_X6_take_35 F ls st u) (Nat.beq t 35)
set_option maxRecDepth 100000 in
theorem g_X6_take_52 (F : Nat × Nat) (f : Nat) (x0 : Nat) (x2 : Int32) (x4 : Nat) (x5 : Int32) (u : Option rx_H) : f_X6_take_52 F (f + 1) x0 x2 x4 x5 u = rx_node (C_X6_take F) rx_hI t_X6_take [35, 52] (kk_X6_take_52 F (f_X6_take_52 F f)) 70 52 [some (.ref x0), none, some (.int x2), none, some (.ref x4), some (.int x5), none, none] [] u := rfl
set_option maxRecDepth 100000 in
theorem g_X6_take_35 (F : Nat × Nat) (x0 : Nat) (x1 : Int32) (x2 : Int32) (x3 : Int32) (u : Option rx_H) : f_X6_take_35 F x0 x1 x2 x3 u = rx_node (C_X6_take F) rx_hI t_X6_take [35, 52] (kk_X6_take_35 F) 70 35 [some (.ref x0), some (.int x1), some (.int x2), some (.int x3), none, none, none, none] [] u := rfl
set_option maxRecDepth 100000 in
theorem g_X6_take_0 (F : Nat × Nat) (x0 : Nat) (x1 : Int32) (x2 : Int32) (u : Option rx_H) : f_X6_take_0 F x0 x1 x2 u = rx_node (C_X6_take F) rx_hI t_X6_take [35, 52] (kk_X6_take_0 F) 70 0 [some (.ref x0), some (.int x1), some (.int x2), none, none, none, none, none] [] u := rfl
def f_X6_heft_0 (F : Nat × Nat) (x0 : Nat) (x1 : Int32) (u : Option rx_H) : Option (Int32 × Option rx_H) :=
  (rx_ck u x0 2).bind fun _ =>
  (f_X6_familyRefusal F x0 x1 (1 : Int32) u).bind fun v1 =>
  if v1.1 = 0 then
    (rx_gR v1.2 x0 2 2).bind fun v2 =>
    (rx_aR v1.2 v2 x1).bind fun v3 =>
    (f_X1_heftOf F v3 v1.2).bind fun v4 =>
    some (v4.1, v4.2)
  else
    some (v1.1, v1.2)
def f_X6_heft (F : Nat × Nat) (x0 : Nat) (x1 : Int32) (u : Option rx_H) : Option (Int32 × Option rx_H) := f_X6_heft_0 F x0 x1 u
def c_X6_heft {α : Type} (F : Nat × Nat) (as : List Value) (u : Option rx_H) (κ : rx_K α) : Option α := match as with
  | [.ref a0, .int a1] => (f_X6_heft F a0 a1 u).bind fun r => κ (some (.int r.1)) r.2
  | _ => none
noncomputable def C_X6_heft {α : Type} (F : Nat × Nat) : rx_Cl α := fun j as u κ => Bool.rec (motive := fun _ => Option α) (Bool.rec (motive := fun _ => Option α) (none) (c_X6_familyRefusal F as u κ) (Nat.beq j 92)) (c_X1_heftOf F as u κ) (Nat.beq j 39)
def t_X6_heft : List rx_E := [
  (0, .aload_n 0, 1, 0, 0, 0, 0, 0, []),
  (1, .iload_n 1, 1, 0, 0, 0, 0, 0, []),
  (2, .iconst 1, 1, 0, 0, 0, 1, 0, []),
  (3, .invokevirtual 61, 3, 92, 203, 194, 0, 0, []),
  (6, .istore_n 2, 1, 0, 0, 0, 0, 0, []),
  (7, .iload_n 2, 1, 0, 0, 0, 0, 0, []),
  (8, .ifCond .eq 5, 3, 13, 0, 0, 0, 0, []),
  (11, .iload_n 2, 1, 0, 0, 0, 0, 0, []),
  (12, .ireturn, 1, 0, 0, 0, 0, 0, []),
  (13, .aload_n 0, 1, 0, 0, 0, 0, 0, []),
  (14, .getfield 24, 3, 2, 10, 137, 0, 0, []),
  (17, .iload_n 1, 1, 0, 0, 0, 0, 0, []),
  (18, .aaload, 1, 0, 0, 0, 0, 0, []),
  (19, .invokestatic 275, 3, 39, 1, 632, 0, 0, []),
  (22, .ireturn, 1, 0, 0, 0, 0, 0, [])]
noncomputable def kk_X6_heft_0 (F : Nat × Nat) : Nat → rx_L → List Value → Option rx_H → Option (Int32 × Option rx_H) := fun t ls st u => none
set_option maxRecDepth 100000 in
theorem g_X6_heft_0 (F : Nat × Nat) (x0 : Nat) (x1 : Int32) (u : Option rx_H) : f_X6_heft_0 F x0 x1 u = rx_node (C_X6_heft F) rx_hI t_X6_heft [] (kk_X6_heft_0 F) 18 0 [some (.ref x0), some (.int x1), none] [] u := rfl
