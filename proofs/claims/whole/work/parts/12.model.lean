def f_X7_thrown_0 (F : Nat × Nat) (x0 : Nat) (u : Option rx_H) : Option (Int32 × Option rx_H) :=
  (rx_gI u x0 3 0).bind fun v1 =>
  some (v1, u)
def f_X7_thrown (F : Nat × Nat) (x0 : Nat) (u : Option rx_H) : Option (Int32 × Option rx_H) := f_X7_thrown_0 F x0 u
def c_X7_thrown {α : Type} (F : Nat × Nat) (as : List Value) (u : Option rx_H) (κ : rx_K α) : Option α := match as with
  | [.ref a0] => (f_X7_thrown F a0 u).bind fun r => κ (some (.int r.1)) r.2
  | _ => none
noncomputable def C_X7_thrown {α : Type} (F : Nat × Nat) : rx_Cl α := fun j as u κ => none
def t_X7_thrown : List rx_E := [
  (0, .aload_n 0, 1, 0, 0, 0, 0, 0, []),
  (1, .getfield 1, 3, 3, 0, 753, 0, 0, []),
  (4, .ireturn, 1, 0, 0, 0, 0, 0, [])]
noncomputable def kk_X7_thrown_0 (F : Nat × Nat) : Nat → rx_L → List Value → Option rx_H → Option (Int32 × Option rx_H) := fun t ls st u => none
set_option maxRecDepth 100000 in
theorem g_X7_thrown_0 (F : Nat × Nat) (x0 : Nat) (u : Option rx_H) : f_X7_thrown_0 F x0 u = rx_node (C_X7_thrown F) rx_hI t_X7_thrown [] (kk_X7_thrown_0 F) 6 0 [some (.ref x0)] [] u := rfl
def f_X7_init_114 (F : Nat × Nat) : Nat → Nat → Int32 → Option rx_H → Option (Option rx_H)
  | 0, _, _, _ => none
  | f + 1, x0, x2, u =>
    if x2 < (16 : Int32) then
      (rx_gR u x0 3 3).bind fun v1 =>
      (rx_sI u v1 x2 (-2 : Int32)).bind fun v2 =>
      (f_X7_init_114 F f) x0 (x2 + 1) v2
    else
      some u
def f_X7_init_0 (F : Nat × Nat) (x0 : Nat) (x1 : Int32) (u : Option rx_H) : Option (Option rx_H) :=
  (rx_nI u (16 : Int32)).bind fun v1 =>
  (rx_p v1.2 x0 3 3 (.ref v1.1)).bind fun v2 =>
  (rx_nI v2 (16 : Int32)).bind fun v3 =>
  (rx_p v3.2 x0 3 4 (.ref v3.1)).bind fun v4 =>
  (rx_nJ v4 (16 : Int32)).bind fun v5 =>
  (rx_p v5.2 x0 3 5 (.ref v5.1)).bind fun v6 =>
  (rx_nJ v6 (16 : Int32)).bind fun v7 =>
  (rx_p v7.2 x0 3 6 (.ref v7.1)).bind fun v8 =>
  (rx_nI v8 (16 : Int32)).bind fun v9 =>
  (rx_p v9.2 x0 3 7 (.ref v9.1)).bind fun v10 =>
  (rx_nJ v10 (1024 : Int32)).bind fun v11 =>
  (rx_p v11.2 x0 3 8 (.ref v11.1)).bind fun v12 =>
  (rx_p v12 x0 3 9 (.int (-2 : Int32))).bind fun v13 =>
  (rx_nI v13 (6 : Int32)).bind fun v14 =>
  (rx_p v14.2 x0 3 10 (.ref v14.1)).bind fun v15 =>
  (rx_nI v15 (5 : Int32)).bind fun v16 =>
  (rx_p v16.2 x0 3 11 (.ref v16.1)).bind fun v17 =>
  (rx_nI v17 (5 : Int32)).bind fun v18 =>
  (rx_p v18.2 x0 3 12 (.ref v18.1)).bind fun v19 =>
  (rx_nJ v19 (64 : Int32)).bind fun v20 =>
  (rx_p v20.2 x0 3 14 (.ref v20.1)).bind fun v21 =>
  (rx_p v21 x0 3 1 (.int ((3 : Int32) + (((x1 - x1 / (4 : Int32) * (4 : Int32)) + (4 : Int32)) - ((x1 - x1 / (4 : Int32) * (4 : Int32)) + (4 : Int32)) / (4 : Int32) * (4 : Int32))))).bind fun v22 =>
  (rx_gI v22 x0 3 1).bind fun v23 =>
  (rx_p v22 x0 3 2 (.int ((1 : Int32) <<< (v23 &&& 31)))).bind fun v24 =>
  f_X7_init_114 F F.1 x0 (0 : Int32) v24
def f_X7_init (F : Nat × Nat) (x0 : Nat) (x1 : Int32) (u : Option rx_H) : Option (Option rx_H) := f_X7_init_0 F x0 x1 u
def c_X7_init {α : Type} (F : Nat × Nat) (as : List Value) (u : Option rx_H) (κ : rx_K α) : Option α := match as with
  | [.ref a0, .int a1] => (f_X7_init F a0 a1 u).bind fun r => κ none r
  | _ => none
noncomputable def C_X7_init {α : Type} (F : Nat × Nat) : rx_Cl α := fun j as u κ => none
def t_X7_init : List rx_E := [
  (0, .aload_n 0, 1, 0, 0, 0, 0, 0, []),
  (1, .invokespecial 7, 3, 0, 1000, 752, 0, 0, []),
  (4, .aload_n 0, 1, 0, 0, 0, 0, 0, []),
  (5, .bipush 16, 2, 0, 0, 0, 16, 0, []),
  (7, .newarray .int, 2, 0, 0, 0, 0, 0, []),
  (9, .putfield 13, 3, 3, 14, 756, 0, 0, []),
  (12, .aload_n 0, 1, 0, 0, 0, 0, 0, []),
  (13, .bipush 16, 2, 0, 0, 0, 16, 0, []),
  (15, .newarray .int, 2, 0, 0, 0, 0, 0, []),
  (17, .putfield 17, 3, 3, 18, 757, 0, 0, []),
  (20, .aload_n 0, 1, 0, 0, 0, 0, 0, []),
  (21, .bipush 16, 2, 0, 0, 0, 16, 0, []),
  (23, .newarray .long, 2, 0, 0, 0, 0, 0, []),
  (25, .putfield 20, 3, 3, 22, 758, 0, 0, []),
  (28, .aload_n 0, 1, 0, 0, 0, 0, 0, []),
  (29, .bipush 16, 2, 0, 0, 0, 16, 0, []),
  (31, .newarray .long, 2, 0, 0, 0, 0, 0, []),
  (33, .putfield 24, 3, 3, 26, 759, 0, 0, []),
  (36, .aload_n 0, 1, 0, 0, 0, 0, 0, []),
  (37, .bipush 16, 2, 0, 0, 0, 16, 0, []),
  (39, .newarray .int, 2, 0, 0, 0, 0, 0, []),
  (41, .putfield 27, 3, 3, 30, 760, 0, 0, []),
  (44, .aload_n 0, 1, 0, 0, 0, 0, 0, []),
  (45, .sipush 1024, 3, 0, 0, 0, 1024, 0, []),
  (48, .newarray .long, 2, 0, 0, 0, 0, 0, []),
  (50, .putfield 30, 3, 3, 34, 761, 0, 0, []),
  (53, .aload_n 0, 1, 0, 0, 0, 0, 0, []),
  (54, .bipush (-2), 2, 0, 0, 0, (-2), 0, []),
  (56, .putfield 33, 3, 3, 36, 762, 0, 0, []),
  (59, .aload_n 0, 1, 0, 0, 0, 0, 0, []),
  (60, .bipush 6, 2, 0, 0, 0, 6, 0, []),
  (62, .newarray .int, 2, 0, 0, 0, 0, 0, []),
  (64, .putfield 36, 3, 3, 42, 763, 0, 0, []),
  (67, .aload_n 0, 1, 0, 0, 0, 0, 0, []),
  (68, .iconst 5, 1, 0, 0, 0, 5, 0, []),
  (69, .newarray .int, 2, 0, 0, 0, 0, 0, []),
  (71, .putfield 39, 3, 3, 46, 764, 0, 0, []),
  (74, .aload_n 0, 1, 0, 0, 0, 0, 0, []),
  (75, .iconst 5, 1, 0, 0, 0, 5, 0, []),
  (76, .newarray .int, 2, 0, 0, 0, 0, 0, []),
  (78, .putfield 42, 3, 3, 50, 765, 0, 0, []),
  (81, .aload_n 0, 1, 0, 0, 0, 0, 0, []),
  (82, .bipush 64, 2, 0, 0, 0, 64, 0, []),
  (84, .newarray .long, 2, 0, 0, 0, 0, 0, []),
  (86, .putfield 45, 3, 3, 58, 767, 0, 0, []),
  (89, .aload_n 0, 1, 0, 0, 0, 0, 0, []),
  (90, .iconst 3, 1, 0, 0, 0, 3, 0, []),
  (91, .iload_n 1, 1, 0, 0, 0, 0, 0, []),
  (92, .iconst 4, 1, 0, 0, 0, 4, 0, []),
  (93, .irem, 1, 0, 1, 0, 0, 0, []),
  (94, .iconst 4, 1, 0, 0, 0, 4, 0, []),
  (95, .iadd, 1, 0, 0, 0, 0, 0, []),
  (96, .iconst 4, 1, 0, 0, 0, 4, 0, []),
  (97, .irem, 1, 0, 1, 0, 0, 0, []),
  (98, .iadd, 1, 0, 0, 0, 0, 0, []),
  (99, .putfield 48, 3, 3, 4, 754, 0, 0, []),
  (102, .aload_n 0, 1, 0, 0, 0, 0, 0, []),
  (103, .iconst 1, 1, 0, 0, 0, 1, 0, []),
  (104, .aload_n 0, 1, 0, 0, 0, 0, 0, []),
  (105, .getfield 48, 3, 3, 4, 754, 0, 0, []),
  (108, .ishl, 1, 0, 0, 0, 0, 0, []),
  (109, .putfield 51, 3, 3, 8, 755, 0, 0, []),
  (112, .iconst 0, 1, 0, 0, 0, 0, 0, []),
  (113, .istore_n 2, 1, 0, 0, 0, 0, 0, []),
  (114, .iload_n 2, 1, 0, 0, 0, 0, 0, []),
  (115, .bipush 16, 2, 0, 0, 0, 16, 0, []),
  (117, .if_icmp .ge 17, 3, 134, 0, 0, 0, 0, []),
  (120, .aload_n 0, 1, 0, 0, 0, 0, 0, []),
  (121, .getfield 13, 3, 3, 14, 756, 0, 0, []),
  (124, .iload_n 2, 1, 0, 0, 0, 0, 0, []),
  (125, .bipush (-2), 2, 0, 0, 0, (-2), 0, []),
  (127, .iastore, 1, 0, 0, 0, 0, 0, []),
  (128, .iinc 2 1, 3, 0, 0, 0, 1, 0, []),
  (131, .goto (-17), 3, 114, 0, 0, 0, 0, []),
  (134, .return_, 1, 0, 0, 0, 0, 0, [])]
def n_X7_init_114 (k114 : Nat → Int32 → Option rx_H → Option (Option rx_H)) (ls : rx_L) (st : List Value) (u : Option rx_H) : Option (Option rx_H) := match ls, st, u with
  | [some (.ref x0), _, some (.int x2)], [], u => k114 x0 x2 u
  | _, _, _ => none
noncomputable def kk_X7_init_114 (F : Nat × Nat) (k114 : Nat → Int32 → Option rx_H → Option (Option rx_H)) : Nat → rx_L → List Value → Option rx_H → Option (Option rx_H) := fun t ls st u => Bool.rec (motive := fun _ => Option (Option rx_H)) (none) (n_X7_init_114 k114 ls st u) (Nat.beq t 114)
noncomputable def kk_X7_init_0 (F : Nat × Nat) : Nat → rx_L → List Value → Option rx_H → Option (Option rx_H) := fun t ls st u => Bool.rec (motive := fun _ => Option (Option rx_H)) (none) (n_X7_init_114 (f_X7_init_114 F F.1) ls st u) (Nat.beq t 114)
set_option maxRecDepth 100000 in
theorem g_X7_init_114 (F : Nat × Nat) (f : Nat) (x0 : Nat) (x2 : Int32) (u : Option rx_H) : f_X7_init_114 F (f + 1) x0 x2 u = rx_node (C_X7_init F) rx_hV t_X7_init [114] (kk_X7_init_114 F (f_X7_init_114 F f)) 78 114 [some (.ref x0), none, some (.int x2)] [] u := rfl
set_option maxRecDepth 100000 in
theorem g_X7_init_0 (F : Nat × Nat) (x0 : Nat) (x1 : Int32) (u : Option rx_H) : f_X7_init_0 F x0 x1 u = rx_node (C_X7_init F) rx_hV t_X7_init [114] (kk_X7_init_0 F) 78 0 [some (.ref x0), some (.int x1), none] [] u := rfl
def f_X7_isSet_0 (F : Nat × Nat) (x0 : Nat) (x1 : Int32) (u : Option rx_H) : Option (Int32 × Option rx_H) :=
  (rx_gI u x0 3 2).bind fun v1 =>
  (f_X7_isIn F x1 (0 : Int32) (v1 - (1 : Int32))).bind fun v2 =>
  if v2 = 0 then
    some (0, u)
  else if v2 = 1 then
    some (1, u)
  else
    none
def f_X7_isSet (F : Nat × Nat) (x0 : Nat) (x1 : Int32) (u : Option rx_H) : Option (Int32 × Option rx_H) := f_X7_isSet_0 F x0 x1 u
def c_X7_isSet {α : Type} (F : Nat × Nat) (as : List Value) (u : Option rx_H) (κ : rx_K α) : Option α := match as with
  | [.ref a0, .int a1] => (f_X7_isSet F a0 a1 u).bind fun r => κ (some (.int r.1)) r.2
  | _ => none
noncomputable def C_X7_isSet {α : Type} (F : Nat × Nat) : rx_Cl α := fun j as u κ => Bool.rec (motive := fun _ => Option α) (none) (c_X7_isIn F as u κ) (Nat.beq j 171)
def t_X7_isSet : List rx_E := [
  (0, .iload_n 1, 1, 0, 0, 0, 0, 0, []),
  (1, .iconst 0, 1, 0, 0, 0, 0, 0, []),
  (2, .aload_n 0, 1, 0, 0, 0, 0, 0, []),
  (3, .getfield 51, 3, 3, 8, 755, 0, 0, []),
  (6, .iconst 1, 1, 0, 0, 0, 1, 0, []),
  (7, .isub, 1, 0, 0, 0, 0, 0, []),
  (8, .invokestatic 54, 3, 171, 3, 806, 0, 0, []),
  (11, .ireturn, 1, 0, 1, 0, 0, 0, [])]
noncomputable def kk_X7_isSet_0 (F : Nat × Nat) : Nat → rx_L → List Value → Option rx_H → Option (Int32 × Option rx_H) := fun t ls st u => none
set_option maxRecDepth 100000 in
theorem g_X7_isSet_0 (F : Nat × Nat) (x0 : Nat) (x1 : Int32) (u : Option rx_H) : f_X7_isSet_0 F x0 x1 u = rx_node (C_X7_isSet F) rx_hI t_X7_isSet [] (kk_X7_isSet_0 F) 11 0 [some (.ref x0), some (.int x1)] [] u := rfl
def f_X7_lacks_0 (F : Nat × Nat) (x0 : Nat) (x1 : Int32) (u : Option rx_H) : Option (Int32 × Option rx_H) :=
  (rx_gR u x0 3 3).bind fun v1 =>
  (rx_aI u v1 x1).bind fun v2 =>
  if v2 = (-2 : Int32) then
    some ((-11 : Int32), u)
  else
    (rx_gR u x0 3 3).bind fun v3 =>
    (rx_aI u v3 x1).bind fun v4 =>
    if (5 : Int32) < v4 then
      some ((-12 : Int32), u)
    else
      some ((0 : Int32), u)
def f_X7_lacks (F : Nat × Nat) (x0 : Nat) (x1 : Int32) (u : Option rx_H) : Option (Int32 × Option rx_H) := f_X7_lacks_0 F x0 x1 u
def c_X7_lacks {α : Type} (F : Nat × Nat) (as : List Value) (u : Option rx_H) (κ : rx_K α) : Option α := match as with
  | [.ref a0, .int a1] => (f_X7_lacks F a0 a1 u).bind fun r => κ (some (.int r.1)) r.2
  | _ => none
noncomputable def C_X7_lacks {α : Type} (F : Nat × Nat) : rx_Cl α := fun j as u κ => none
def t_X7_lacks : List rx_E := [
  (0, .aload_n 0, 1, 0, 0, 0, 0, 0, []),
  (1, .getfield 13, 3, 3, 14, 756, 0, 0, []),
  (4, .iload_n 1, 1, 0, 0, 0, 0, 0, []),
  (5, .iaload, 1, 0, 0, 0, 0, 0, []),
  (6, .bipush (-2), 2, 0, 0, 0, (-2), 0, []),
  (8, .if_icmp .ne 8, 3, 16, 0, 0, 0, 0, []),
  (11, .bipush (-11), 2, 0, 0, 0, (-11), 0, []),
  (13, .goto 19, 3, 32, 0, 0, 0, 0, []),
  (16, .aload_n 0, 1, 0, 0, 0, 0, 0, []),
  (17, .getfield 13, 3, 3, 14, 756, 0, 0, []),
  (20, .iload_n 1, 1, 0, 0, 0, 0, 0, []),
  (21, .iaload, 1, 0, 0, 0, 0, 0, []),
  (22, .iconst 5, 1, 0, 0, 0, 5, 0, []),
  (23, .if_icmp .le 8, 3, 31, 0, 0, 0, 0, []),
  (26, .bipush (-12), 2, 0, 0, 0, (-12), 0, []),
  (28, .goto 4, 3, 32, 0, 0, 0, 0, []),
  (31, .iconst 0, 1, 0, 0, 0, 0, 0, []),
  (32, .ireturn, 1, 0, 0, 0, 0, 0, [])]
noncomputable def kk_X7_lacks_0 (F : Nat × Nat) : Nat → rx_L → List Value → Option rx_H → Option (Int32 × Option rx_H) := fun t ls st u => none
set_option maxRecDepth 100000 in
theorem g_X7_lacks_0 (F : Nat × Nat) (x0 : Nat) (x1 : Int32) (u : Option rx_H) : f_X7_lacks_0 F x0 x1 u = rx_node (C_X7_lacks F) rx_hI t_X7_lacks [] (kk_X7_lacks_0 F) 21 0 [some (.ref x0), some (.int x1)] [] u := rfl
def f_X7_holdsNow_0 (F : Nat × Nat) (x0 : Nat) (x1 : Int32) (x2 : Int32) (x3 : Int32) (x4 : Int64) (u : Option rx_H) : Option (Int32 × Option rx_H) :=
  (rx_gR u x0 3 3).bind fun v1 =>
  (rx_sI u v1 x1 x2).bind fun v2 =>
  (rx_gR v2 x0 3 4).bind fun v3 =>
  (rx_sI v2 v3 x1 x3).bind fun v4 =>
  (rx_gR v4 x0 3 5).bind fun v5 =>
  (rx_sJ v4 v5 x1 x4).bind fun v6 =>
  (rx_gR v6 x0 3 6).bind fun v7 =>
  (rx_sJ v6 v7 x1 (0 : Int64)).bind fun v8 =>
  (f_X7_many F x4).bind fun v9 =>
  some (v9, v8)
def f_X7_holdsNow (F : Nat × Nat) (x0 : Nat) (x1 : Int32) (x2 : Int32) (x3 : Int32) (x4 : Int64) (u : Option rx_H) : Option (Int32 × Option rx_H) := f_X7_holdsNow_0 F x0 x1 x2 x3 x4 u
def c_X7_holdsNow {α : Type} (F : Nat × Nat) (as : List Value) (u : Option rx_H) (κ : rx_K α) : Option α := match as with
  | [.ref a0, .int a1, .int a2, .int a3, .long a4] => (f_X7_holdsNow F a0 a1 a2 a3 a4 u).bind fun r => κ (some (.int r.1)) r.2
  | _ => none
noncomputable def C_X7_holdsNow {α : Type} (F : Nat × Nat) : rx_Cl α := fun j as u κ => Bool.rec (motive := fun _ => Option α) (none) (c_X7_many F as u κ) (Nat.beq j 184)
def t_X7_holdsNow : List rx_E := [
  (0, .aload_n 0, 1, 0, 0, 0, 0, 0, []),
  (1, .getfield 13, 3, 3, 14, 756, 0, 0, []),
  (4, .iload_n 1, 1, 0, 0, 0, 0, 0, []),
  (5, .iload_n 2, 1, 0, 0, 0, 0, 0, []),
  (6, .iastore, 1, 0, 0, 0, 0, 0, []),
  (7, .aload_n 0, 1, 0, 0, 0, 0, 0, []),
  (8, .getfield 17, 3, 3, 18, 757, 0, 0, []),
  (11, .iload_n 1, 1, 0, 0, 0, 0, 0, []),
  (12, .iload_n 3, 1, 0, 0, 0, 0, 0, []),
  (13, .iastore, 1, 0, 0, 0, 0, 0, []),
  (14, .aload_n 0, 1, 0, 0, 0, 0, 0, []),
  (15, .getfield 20, 3, 3, 22, 758, 0, 0, []),
  (18, .iload_n 1, 1, 0, 0, 0, 0, 0, []),
  (19, .lload 4, 2, 0, 0, 0, 0, 0, []),
  (21, .lastore, 1, 0, 0, 0, 0, 0, []),
  (22, .aload_n 0, 1, 0, 0, 0, 0, 0, []),
  (23, .getfield 24, 3, 3, 26, 759, 0, 0, []),
  (26, .iload_n 1, 1, 0, 0, 0, 0, 0, []),
  (27, .lconst 0, 1, 0, 0, 0, 0, 0, []),
  (28, .lastore, 1, 0, 0, 0, 0, 0, []),
  (29, .lload 4, 2, 0, 0, 0, 0, 0, []),
  (31, .invokestatic 58, 3, 184, 1, 817, 0, 0, []),
  (34, .ireturn, 1, 0, 0, 0, 0, 0, [])]
noncomputable def kk_X7_holdsNow_0 (F : Nat × Nat) : Nat → rx_L → List Value → Option rx_H → Option (Int32 × Option rx_H) := fun t ls st u => none
set_option maxRecDepth 100000 in
theorem g_X7_holdsNow_0 (F : Nat × Nat) (x0 : Nat) (x1 : Int32) (x2 : Int32) (x3 : Int32) (x4 : Int64) (u : Option rx_H) : f_X7_holdsNow_0 F x0 x1 x2 x3 x4 u = rx_node (C_X7_holdsNow F) rx_hI t_X7_holdsNow [] (kk_X7_holdsNow_0 F) 26 0 [some (.ref x0), some (.int x1), some (.int x2), some (.int x3), some (.long x4), none] [] u := rfl
def f_X7_isKind_19 (F : Nat × Nat) (x0 : Nat) (x2 : Int32) (u : Option rx_H) : Option (Int32 × Option rx_H) :=
  (rx_gI u x0 3 1).bind fun v1 =>
  (f_X7_isIn F x2 (0 : Int32) v1).bind fun v2 =>
  if v2 = 0 then
    some ((0 : Int32), u)
  else
    some ((1 : Int32), u)
def f_X7_isKind_0 (F : Nat × Nat) (x0 : Nat) (x1 : Int32) (x2 : Int32) (u : Option rx_H) : Option (Int32 × Option rx_H) :=
  (f_X7_isIn F x1 (0 : Int32) (4 : Int32)).bind fun v1 =>
  if v1 = 0 then
    some ((0 : Int32), u)
  else
    if x1 = (2 : Int32) then
      f_X7_isKind_19 F x0 x2 u
    else
      if x1 = (4 : Int32) then
        f_X7_isKind_19 F x0 x2 u
      else
        some ((1 : Int32), u)
def f_X7_isKind (F : Nat × Nat) (x0 : Nat) (x1 : Int32) (x2 : Int32) (u : Option rx_H) : Option (Int32 × Option rx_H) := f_X7_isKind_0 F x0 x1 x2 u
def c_X7_isKind {α : Type} (F : Nat × Nat) (as : List Value) (u : Option rx_H) (κ : rx_K α) : Option α := match as with
  | [.ref a0, .int a1, .int a2] => (f_X7_isKind F a0 a1 a2 u).bind fun r => κ (some (.int r.1)) r.2
  | _ => none
noncomputable def C_X7_isKind {α : Type} (F : Nat × Nat) : rx_Cl α := fun j as u κ => Bool.rec (motive := fun _ => Option α) (none) (c_X7_isIn F as u κ) (Nat.beq j 171)
def t_X7_isKind : List rx_E := [
  (0, .iload_n 1, 1, 0, 0, 0, 0, 0, []),
  (1, .iconst 0, 1, 0, 0, 0, 0, 0, []),
  (2, .iconst 4, 1, 0, 0, 0, 4, 0, []),
  (3, .invokestatic 54, 3, 171, 3, 806, 0, 0, []),
  (6, .ifCond .eq 29, 3, 35, 0, 0, 0, 0, []),
  (9, .iload_n 1, 1, 0, 0, 0, 0, 0, []),
  (10, .iconst 2, 1, 0, 0, 0, 2, 0, []),
  (11, .if_icmp .eq 8, 3, 19, 0, 0, 0, 0, []),
  (14, .iload_n 1, 1, 0, 0, 0, 0, 0, []),
  (15, .iconst 4, 1, 0, 0, 0, 4, 0, []),
  (16, .if_icmp .ne 15, 3, 31, 0, 0, 0, 0, []),
  (19, .iload_n 2, 1, 0, 0, 0, 0, 0, []),
  (20, .iconst 0, 1, 0, 0, 0, 0, 0, []),
  (21, .aload_n 0, 1, 0, 0, 0, 0, 0, []),
  (22, .getfield 48, 3, 3, 4, 754, 0, 0, []),
  (25, .invokestatic 54, 3, 171, 3, 806, 0, 0, []),
  (28, .ifCond .eq 7, 3, 35, 0, 0, 0, 0, []),
  (31, .iconst 1, 1, 0, 0, 0, 1, 0, []),
  (32, .goto 4, 3, 36, 0, 0, 0, 0, []),
  (35, .iconst 0, 1, 0, 0, 0, 0, 0, []),
  (36, .ireturn, 1, 0, 2, 0, 0, 0, [])]
def n_X7_isKind_19 (F : Nat × Nat) (ls : rx_L) (st : List Value) (u : Option rx_H) : Option (Int32 × Option rx_H) := match ls, st, u with
  | [some (.ref x0), _, some (.int x2)], [], u => f_X7_isKind_19 F x0 x2 u
  | _, _, _ => none
noncomputable def kk_X7_isKind_19 (F : Nat × Nat) : Nat → rx_L → List Value → Option rx_H → Option (Int32 × Option rx_H) := fun t ls st u => none
noncomputable def kk_X7_isKind_0 (F : Nat × Nat) : Nat → rx_L → List Value → Option rx_H → Option (Int32 × Option rx_H) := fun t ls st u => Bool.rec (motive := fun _ => Option (Int32 × Option rx_H)) (none) (n_X7_isKind_19 F ls st u) (Nat.beq t 19)
set_option maxRecDepth 100000 in
theorem g_X7_isKind_19 (F : Nat × Nat) (x0 : Nat) (x2 : Int32) (u : Option rx_H) : f_X7_isKind_19 F x0 x2 u = rx_node (C_X7_isKind F) rx_hI t_X7_isKind [19] (kk_X7_isKind_19 F) 24 19 [some (.ref x0), none, some (.int x2)] [] u := rfl
set_option maxRecDepth 100000 in
theorem g_X7_isKind_0 (F : Nat × Nat) (x0 : Nat) (x1 : Int32) (x2 : Int32) (u : Option rx_H) : f_X7_isKind_0 F x0 x1 x2 u = rx_node (C_X7_isKind F) rx_hI t_X7_isKind [19] (kk_X7_isKind_0 F) 24 0 [some (.ref x0), some (.int x1), some (.int x2)] [] u := rfl
def f_X7_make_0 (F : Nat × Nat) (x0 : Nat) (x1 : Int32) (x2 : Int32) (x3 : Int32) (u : Option rx_H) : Option (Int32 × Option rx_H) :=
  (f_X7_isPlace F x1).bind fun v1 =>
  if v1 = 0 then
    some ((-1 : Int32), u)
  else
    (rx_ck u x0 3).bind fun _ =>
    (f_X7_isKind F x0 x2 x3 u).bind fun v2 =>
    if v2.1 = 0 then
      some ((-1 : Int32), v2.2)
    else
      (rx_ck v2.2 x0 3).bind fun _ =>
      (f_X7_holdsNow F x0 x1 x2 x3 (0 : Int64) v2.2).bind fun v3 =>
      some (v3.1, v3.2)
def f_X7_make (F : Nat × Nat) (x0 : Nat) (x1 : Int32) (x2 : Int32) (x3 : Int32) (u : Option rx_H) : Option (Int32 × Option rx_H) := f_X7_make_0 F x0 x1 x2 x3 u
def c_X7_make {α : Type} (F : Nat × Nat) (as : List Value) (u : Option rx_H) (κ : rx_K α) : Option α := match as with
  | [.ref a0, .int a1, .int a2, .int a3] => (f_X7_make F a0 a1 a2 a3 u).bind fun r => κ (some (.int r.1)) r.2
  | _ => none
noncomputable def C_X7_make {α : Type} (F : Nat × Nat) : rx_Cl α := fun j as u κ => Bool.rec (motive := fun _ => Option α) (Bool.rec (motive := fun _ => Option α) (Bool.rec (motive := fun _ => Option α) (none) (c_X7_isPlace F as u κ) (Nat.beq j 173)) (c_X7_isKind F as u κ) (Nat.beq j 172)) (c_X7_holdsNow F as u κ) (Nat.beq j 168)
def t_X7_make : List rx_E := [
  (0, .iload_n 1, 1, 0, 0, 0, 0, 0, []),
  (1, .invokestatic 62, 3, 173, 1, 803, 0, 0, []),
  (4, .ifCond .eq 12, 3, 16, 0, 0, 0, 0, []),
  (7, .aload_n 0, 1, 0, 0, 0, 0, 0, []),
  (8, .iload_n 2, 1, 0, 0, 0, 0, 0, []),
  (9, .iload_n 3, 1, 0, 0, 0, 0, 0, []),
  (10, .invokevirtual 66, 3, 172, 303, 809, 0, 0, []),
  (13, .ifCond .ne 5, 3, 18, 0, 0, 0, 0, []),
  (16, .iconst (-1), 1, 0, 0, 0, (-1), 0, []),
  (17, .ireturn, 1, 0, 0, 0, 0, 0, []),
  (18, .aload_n 0, 1, 0, 0, 0, 0, 0, []),
  (19, .iload_n 1, 1, 0, 0, 0, 0, 0, []),
  (20, .iload_n 2, 1, 0, 0, 0, 0, 0, []),
  (21, .iload_n 3, 1, 0, 0, 0, 0, 0, []),
  (22, .lconst 0, 1, 0, 0, 0, 0, 0, []),
  (23, .invokevirtual 70, 3, 168, 305, 813, 0, 0, []),
  (26, .ireturn, 1, 0, 0, 0, 0, 0, [])]
noncomputable def kk_X7_make_0 (F : Nat × Nat) : Nat → rx_L → List Value → Option rx_H → Option (Int32 × Option rx_H) := fun t ls st u => none
set_option maxRecDepth 100000 in
theorem g_X7_make_0 (F : Nat × Nat) (x0 : Nat) (x1 : Int32) (x2 : Int32) (x3 : Int32) (u : Option rx_H) : f_X7_make_0 F x0 x1 x2 x3 u = rx_node (C_X7_make F) rx_hI t_X7_make [] (kk_X7_make_0 F) 20 0 [some (.ref x0), some (.int x1), some (.int x2), some (.int x3)] [] u := rfl
def f_X7_cross_0 (F : Nat × Nat) (x0 : Nat) (x1 : Int32) (x2 : Int32) (x3 : Int32) (u : Option rx_H) : Option (Int32 × Option rx_H) :=
  (f_X7_isPlace F x1).bind fun v1 =>
  if v1 = 0 then
    some ((-1 : Int32), u)
  else
    (f_X7_isPlace F x2).bind fun v2 =>
    if v2 = 0 then
      some ((-1 : Int32), u)
    else
      (rx_gI u x0 3 1).bind fun v3 =>
      (f_X7_isIn F x3 (0 : Int32) v3).bind fun v4 =>
      if v4 = 0 then
        some ((-1 : Int32), u)
      else
        (rx_ck u x0 3).bind fun _ =>
        (f_X7_lacks F x0 x2 u).bind fun v5 =>
        if v5.1 = 0 then
          (rx_gR v5.2 x0 3 5).bind fun v6 =>
          (rx_aJ v5.2 v6 x2).bind fun v7 =>
          (rx_ck v5.2 x0 3).bind fun _ =>
          (f_X7_holdsNow F x0 x1 (5 : Int32) x3 (0 : Int64) v5.2).bind fun v8 =>
          (rx_gR v8.2 x0 3 6).bind fun v9 =>
          (rx_sJ v8.2 v9 x1 v7).bind fun v10 =>
          some ((0 : Int32), v10)
        else
          (rx_ck v5.2 x0 3).bind fun _ =>
          (f_X7_lacks F x0 x2 v5.2).bind fun v11 =>
          some (v11.1, v11.2)
def f_X7_cross (F : Nat × Nat) (x0 : Nat) (x1 : Int32) (x2 : Int32) (x3 : Int32) (u : Option rx_H) : Option (Int32 × Option rx_H) := f_X7_cross_0 F x0 x1 x2 x3 u
def c_X7_cross {α : Type} (F : Nat × Nat) (as : List Value) (u : Option rx_H) (κ : rx_K α) : Option α := match as with
  | [.ref a0, .int a1, .int a2, .int a3] => (f_X7_cross F a0 a1 a2 a3 u).bind fun r => κ (some (.int r.1)) r.2
  | _ => none
noncomputable def C_X7_cross {α : Type} (F : Nat × Nat) : rx_Cl α := fun j as u κ => Bool.rec (motive := fun _ => Option α) (Bool.rec (motive := fun _ => Option α) (Bool.rec (motive := fun _ => Option α) (Bool.rec (motive := fun _ => Option α) (none) (c_X7_lacks F as u κ) (Nat.beq j 179)) (c_X7_isPlace F as u κ) (Nat.beq j 173)) (c_X7_isIn F as u κ) (Nat.beq j 171)) (c_X7_holdsNow F as u κ) (Nat.beq j 168)
def t_X7_cross : List rx_E := [
  (0, .iload_n 1, 1, 0, 0, 0, 0, 0, []),
  (1, .invokestatic 62, 3, 173, 1, 803, 0, 0, []),
  (4, .ifCond .eq 22, 3, 26, 0, 0, 0, 0, []),
  (7, .iload_n 2, 1, 0, 0, 0, 0, 0, []),
  (8, .invokestatic 62, 3, 173, 1, 803, 0, 0, []),
  (11, .ifCond .eq 15, 3, 26, 0, 0, 0, 0, []),
  (14, .iload_n 3, 1, 0, 0, 0, 0, 0, []),
  (15, .iconst 0, 1, 0, 0, 0, 0, 0, []),
  (16, .aload_n 0, 1, 0, 0, 0, 0, 0, []),
  (17, .getfield 48, 3, 3, 4, 754, 0, 0, []),
  (20, .invokestatic 54, 3, 171, 3, 806, 0, 0, []),
  (23, .ifCond .ne 5, 3, 28, 0, 0, 0, 0, []),
  (26, .iconst (-1), 1, 0, 0, 0, (-1), 0, []),
  (27, .ireturn, 1, 0, 0, 0, 0, 0, []),
  (28, .aload_n 0, 1, 0, 0, 0, 0, 0, []),
  (29, .iload_n 2, 1, 0, 0, 0, 0, 0, []),
  (30, .invokevirtual 74, 3, 179, 302, 824, 0, 0, []),
  (33, .ifCond .eq 9, 3, 42, 0, 0, 0, 0, []),
  (36, .aload_n 0, 1, 0, 0, 0, 0, 0, []),
  (37, .iload_n 2, 1, 0, 0, 0, 0, 0, []),
  (38, .invokevirtual 74, 3, 179, 302, 824, 0, 0, []),
  (41, .ireturn, 1, 0, 0, 0, 0, 0, []),
  (42, .aload_n 0, 1, 0, 0, 0, 0, 0, []),
  (43, .getfield 20, 3, 3, 22, 758, 0, 0, []),
  (46, .iload_n 2, 1, 0, 0, 0, 0, 0, []),
  (47, .laload, 1, 0, 0, 0, 0, 0, []),
  (48, .lstore 4, 2, 0, 0, 0, 0, 0, []),
  (50, .aload_n 0, 1, 0, 0, 0, 0, 0, []),
  (51, .iload_n 1, 1, 0, 0, 0, 0, 0, []),
  (52, .iconst 5, 1, 0, 0, 0, 5, 0, []),
  (53, .iload_n 3, 1, 0, 0, 0, 0, 0, []),
  (54, .lconst 0, 1, 0, 0, 0, 0, 0, []),
  (55, .invokevirtual 70, 3, 168, 305, 813, 0, 0, []),
  (58, .istore 6, 2, 0, 0, 0, 0, 0, []),
  (60, .aload_n 0, 1, 0, 0, 0, 0, 0, []),
  (61, .getfield 24, 3, 3, 26, 759, 0, 0, []),
  (64, .iload_n 1, 1, 0, 0, 0, 0, 0, []),
  (65, .lload 4, 2, 0, 0, 0, 0, 0, []),
  (67, .lastore, 1, 0, 0, 0, 0, 0, []),
  (68, .iconst 0, 1, 0, 0, 0, 0, 0, []),
  (69, .ireturn, 1, 0, 0, 0, 0, 0, [])]
noncomputable def kk_X7_cross_0 (F : Nat × Nat) : Nat → rx_L → List Value → Option rx_H → Option (Int32 × Option rx_H) := fun t ls st u => none
set_option maxRecDepth 100000 in
theorem g_X7_cross_0 (F : Nat × Nat) (x0 : Nat) (x1 : Int32) (x2 : Int32) (x3 : Int32) (u : Option rx_H) : f_X7_cross_0 F x0 x1 x2 x3 u = rx_node (C_X7_cross F) rx_hI t_X7_cross [] (kk_X7_cross_0 F) 44 0 [some (.ref x0), some (.int x1), some (.int x2), some (.int x3), none, none, none] [] u := rfl
def f_X7_hinders_49 (F : Nat × Nat) (x0 : Nat) (x1 : Int32) (x2 : Int32) (u : Option rx_H) : Option (Int32 × Option rx_H) :=
  (f_X7_ones F x2).bind fun v1 =>
  (rx_gR u x0 3 4).bind fun v2 =>
  (rx_aI u v2 x1).bind fun v3 =>
  if v1 < v3 then
    some (x2, u)
  else
    (rx_gR u x0 3 5).bind fun v4 =>
    (rx_aJ u v4 x1).bind fun v5 =>
    (rx_gR u x0 3 4).bind fun v6 =>
    (rx_aI u v6 x1).bind fun v7 =>
    (f_X7_apartFrom F v5 x2 v7).bind fun v8 =>
    if v8 < 0 then
      (rx_gR u x0 3 3).bind fun v9 =>
      (rx_aI u v9 x1).bind fun v10 =>
      if v10 = (2 : Int32) then
        some (v8, u)
      else
        (rx_gR u x0 3 6).bind fun v11 =>
        (rx_aJ u v11 x1).bind fun v12 =>
        (rx_gR u x0 3 4).bind fun v13 =>
        (rx_aI u v13 x1).bind fun v14 =>
        (f_X7_apartFrom F v12 x2 v14).bind fun v15 =>
        some (v15, u)
    else
      some (v8, u)
def f_X7_hinders_218 (F : Nat × Nat) (k118 : Nat → Int32 → Int32 → Int32 → Option rx_H → Option (Int32 × Option rx_H)) (x0 : Nat) (x1 : Int32) (x2 : Int32) (x3 : Int32) (s0 : Int32) (u : Option rx_H) : Option (Int32 × Option rx_H) :=
  if s0 = 0 then
    k118 x0 x1 x2 (x3 + 1) u
  else
    some (x3, u)
def f_X7_hinders_118 (F : Nat × Nat) : Nat → Nat → Int32 → Int32 → Int32 → Option rx_H → Option (Int32 × Option rx_H)
  | 0, _, _, _, _, _ => none
  | f + 1, x0, x1, x2, x3, u =>
    (rx_gI u x0 3 2).bind fun v1 =>
    if x3 < v1 then
      (rx_gR u x0 3 3).bind fun v2 =>
      (rx_aI u v2 x1).bind fun v3 =>
      if v3 = 0 then
        some ((-1 : Int32), u)
      else
        (rx_gR u x0 3 3).bind fun v4 =>
        (rx_aI u v4 x1).bind fun v5 =>
        if v5 = (1 : Int32) then
          if x3 = x2 then
            f_X7_hinders_218 F (f_X7_hinders_118 F f) x0 x1 x2 x3 (0 : Int32) u
          else
            (rx_gR u x0 3 5).bind fun v6 =>
            (rx_aJ u v6 x1).bind fun v7 =>
            (f_X7_has F v7 x3).bind fun v8 =>
            if v8 = 0 then
              f_X7_hinders_218 F (f_X7_hinders_118 F f) x0 x1 x2 x3 (0 : Int32) u
            else
              (f_X7_isWithin F x2 x3).bind fun v9 =>
              if v9 = 0 then
                (f_X7_isWithin F x3 x2).bind fun v10 =>
                if v10 = 0 then
                  f_X7_hinders_218 F (f_X7_hinders_118 F f) x0 x1 x2 x3 (0 : Int32) u
                else
                  f_X7_hinders_218 F (f_X7_hinders_118 F f) x0 x1 x2 x3 (1 : Int32) u
              else
                f_X7_hinders_218 F (f_X7_hinders_118 F f) x0 x1 x2 x3 (1 : Int32) u
        else
          if x3 = x2 then
            f_X7_hinders_218 F (f_X7_hinders_118 F f) x0 x1 x2 x3 (0 : Int32) u
          else
            (f_X7_isWithin F x3 x2).bind fun v11 =>
            if v11 = 0 then
              f_X7_hinders_218 F (f_X7_hinders_118 F f) x0 x1 x2 x3 (0 : Int32) u
            else
              (rx_gR u x0 3 5).bind fun v12 =>
              (rx_aJ u v12 x1).bind fun v13 =>
              (f_X7_has F v13 x3).bind fun v14 =>
              if v14 = 0 then
                f_X7_hinders_218 F (f_X7_hinders_118 F f) x0 x1 x2 x3 (1 : Int32) u
              else
                f_X7_hinders_218 F (f_X7_hinders_118 F f) x0 x1 x2 x3 (0 : Int32) u
    else
      some ((-1 : Int32), u)
def f_X7_hinders_0 (F : Nat × Nat) (x0 : Nat) (x1 : Int32) (x2 : Int32) (u : Option rx_H) : Option (Int32 × Option rx_H) :=
  (rx_gR u x0 3 3).bind fun v1 =>
  (rx_aI u v1 x1).bind fun v2 =>
  if v2 = (4 : Int32) then
    (f_X7_ones F x2).bind fun v3 =>
    (rx_gR u x0 3 4).bind fun v4 =>
    (rx_aI u v4 x1).bind fun v5 =>
    if v3 = v5 then
      some ((-1 : Int32), u)
    else
      some (x2, u)
  else
    (rx_gR u x0 3 3).bind fun v6 =>
    (rx_aI u v6 x1).bind fun v7 =>
    if v7 = (2 : Int32) then
      f_X7_hinders_49 F x0 x1 x2 u
    else
      (rx_gR u x0 3 3).bind fun v8 =>
      (rx_aI u v8 x1).bind fun v9 =>
      if v9 = (5 : Int32) then
        f_X7_hinders_49 F x0 x1 x2 u
      else
        f_X7_hinders_118 F F.1 x0 x1 x2 (0 : Int32) u
def f_X7_hinders (F : Nat × Nat) (x0 : Nat) (x1 : Int32) (x2 : Int32) (u : Option rx_H) : Option (Int32 × Option rx_H) := f_X7_hinders_0 F x0 x1 x2 u
def c_X7_hinders {α : Type} (F : Nat × Nat) (as : List Value) (u : Option rx_H) (κ : rx_K α) : Option α := match as with
  | [.ref a0, .int a1, .int a2] => (f_X7_hinders F a0 a1 a2 u).bind fun r => κ (some (.int r.1)) r.2
  | _ => none
noncomputable def C_X7_hinders {α : Type} (F : Nat × Nat) : rx_Cl α := fun j as u κ => Bool.rec (motive := fun _ => Option α) (Bool.rec (motive := fun _ => Option α) (Bool.rec (motive := fun _ => Option α) (Bool.rec (motive := fun _ => Option α) (none) (c_X7_ones F as u κ) (Nat.beq j 190)) (c_X7_isWithin F as u κ) (Nat.beq j 177)) (c_X7_has F as u κ) (Nat.beq j 163)) (c_X7_apartFrom F as u κ) (Nat.beq j 138)
def t_X7_hinders : List rx_E := [
  (0, .aload_n 0, 1, 0, 0, 0, 0, 0, []),
  (1, .getfield 13, 3, 3, 14, 756, 0, 0, []),
  (4, .iload_n 1, 1, 0, 0, 0, 0, 0, []),
  (5, .iaload, 1, 0, 0, 0, 0, 0, []),
  (6, .iconst 4, 1, 0, 0, 0, 4, 0, []),
  (7, .if_icmp .ne 22, 3, 29, 0, 0, 0, 0, []),
  (10, .iload_n 2, 1, 0, 0, 0, 0, 0, []),
  (11, .invokestatic 82, 3, 190, 1, 844, 0, 0, []),
  (14, .aload_n 0, 1, 0, 0, 0, 0, 0, []),
  (15, .getfield 17, 3, 3, 18, 757, 0, 0, []),
  (18, .iload_n 1, 1, 0, 0, 0, 0, 0, []),
  (19, .iaload, 1, 0, 0, 0, 0, 0, []),
  (20, .if_icmp .ne 7, 3, 27, 0, 0, 0, 0, []),
  (23, .iconst (-1), 1, 0, 0, 0, (-1), 0, []),
  (24, .goto 4, 3, 28, 0, 0, 0, 0, []),
  (27, .iload_n 2, 1, 0, 0, 0, 0, 0, []),
  (28, .ireturn, 1, 0, 0, 0, 0, 0, []),
  (29, .aload_n 0, 1, 0, 0, 0, 0, 0, []),
  (30, .getfield 13, 3, 3, 14, 756, 0, 0, []),
  (33, .iload_n 1, 1, 0, 0, 0, 0, 0, []),
  (34, .iaload, 1, 0, 0, 0, 0, 0, []),
  (35, .iconst 2, 1, 0, 0, 0, 2, 0, []),
  (36, .if_icmp .eq 13, 3, 49, 0, 0, 0, 0, []),
  (39, .aload_n 0, 1, 0, 0, 0, 0, 0, []),
  (40, .getfield 13, 3, 3, 14, 756, 0, 0, []),
  (43, .iload_n 1, 1, 0, 0, 0, 0, 0, []),
  (44, .iaload, 1, 0, 0, 0, 0, 0, []),
  (45, .iconst 5, 1, 0, 0, 0, 5, 0, []),
  (46, .if_icmp .ne 70, 3, 116, 0, 0, 0, 0, []),
  (49, .iload_n 2, 1, 0, 0, 0, 0, 0, []),
  (50, .invokestatic 82, 3, 190, 1, 844, 0, 0, []),
  (53, .aload_n 0, 1, 0, 0, 0, 0, 0, []),
  (54, .getfield 17, 3, 3, 18, 757, 0, 0, []),
  (57, .iload_n 1, 1, 0, 0, 0, 0, 0, []),
  (58, .iaload, 1, 0, 0, 0, 0, 0, []),
  (59, .if_icmp .ge 5, 3, 64, 0, 0, 0, 0, []),
  (62, .iload_n 2, 1, 0, 0, 0, 0, 0, []),
  (63, .ireturn, 1, 0, 0, 0, 0, 0, []),
  (64, .aload_n 0, 1, 0, 0, 0, 0, 0, []),
  (65, .getfield 20, 3, 3, 22, 758, 0, 0, []),
  (68, .iload_n 1, 1, 0, 0, 0, 0, 0, []),
  (69, .laload, 1, 0, 0, 0, 0, 0, []),
  (70, .iload_n 2, 1, 0, 0, 0, 0, 0, []),
  (71, .aload_n 0, 1, 0, 0, 0, 0, 0, []),
  (72, .getfield 17, 3, 3, 18, 757, 0, 0, []),
  (75, .iload_n 1, 1, 0, 0, 0, 0, 0, []),
  (76, .iaload, 1, 0, 0, 0, 0, 0, []),
  (77, .invokestatic 85, 3, 138, 3, 847, 0, 0, []),
  (80, .istore_n 3, 1, 0, 0, 0, 0, 0, []),
  (81, .iload_n 3, 1, 0, 0, 0, 0, 0, []),
  (82, .ifCond .ge 13, 3, 95, 0, 0, 0, 0, []),
  (85, .aload_n 0, 1, 0, 0, 0, 0, 0, []),
  (86, .getfield 13, 3, 3, 14, 756, 0, 0, []),
  (89, .iload_n 1, 1, 0, 0, 0, 0, 0, []),
  (90, .iaload, 1, 0, 0, 0, 0, 0, []),
  (91, .iconst 2, 1, 0, 0, 0, 2, 0, []),
  (92, .if_icmp .ne 7, 3, 99, 0, 0, 0, 0, []),
  (95, .iload_n 3, 1, 0, 0, 0, 0, 0, []),
  (96, .goto 19, 3, 115, 0, 0, 0, 0, []),
  (99, .aload_n 0, 1, 0, 0, 0, 0, 0, []),
  (100, .getfield 24, 3, 3, 26, 759, 0, 0, []),
  (103, .iload_n 1, 1, 0, 0, 0, 0, 0, []),
  (104, .laload, 1, 0, 0, 0, 0, 0, []),
  (105, .iload_n 2, 1, 0, 0, 0, 0, 0, []),
  (106, .aload_n 0, 1, 0, 0, 0, 0, 0, []),
  (107, .getfield 17, 3, 3, 18, 757, 0, 0, []),
  (110, .iload_n 1, 1, 0, 0, 0, 0, 0, []),
  (111, .iaload, 1, 0, 0, 0, 0, 0, []),
  (112, .invokestatic 85, 3, 138, 3, 847, 0, 0, []),
  (115, .ireturn, 1, 0, 0, 0, 0, 0, []),
  (116, .iconst 0, 1, 0, 0, 0, 0, 0, []),
  (117, .istore_n 3, 1, 0, 0, 0, 0, 0, []),
  (118, .iload_n 3, 1, 0, 0, 0, 0, 0, []),
  (119, .aload_n 0, 1, 0, 0, 0, 0, 0, []),
  (120, .getfield 51, 3, 3, 8, 755, 0, 0, []),
  (123, .if_icmp .ge 110, 3, 233, 0, 0, 0, 0, []),
  (126, .aload_n 0, 1, 0, 0, 0, 0, 0, []),
  (127, .getfield 13, 3, 3, 14, 756, 0, 0, []),
  (130, .iload_n 1, 1, 0, 0, 0, 0, 0, []),
  (131, .iaload, 1, 0, 0, 0, 0, 0, []),
  (132, .ifCond .eq 101, 3, 233, 0, 0, 0, 0, []),
  (135, .aload_n 0, 1, 0, 0, 0, 0, 0, []),
  (136, .getfield 13, 3, 3, 14, 756, 0, 0, []),
  (139, .iload_n 1, 1, 0, 0, 0, 0, 0, []),
  (140, .iaload, 1, 0, 0, 0, 0, 0, []),
  (141, .iconst 1, 1, 0, 0, 0, 1, 0, []),
  (142, .if_icmp .ne 45, 3, 187, 0, 0, 0, 0, []),
  (145, .iload_n 3, 1, 0, 0, 0, 0, 0, []),
  (146, .iload_n 2, 1, 0, 0, 0, 0, 0, []),
  (147, .if_icmp .eq 36, 3, 183, 0, 0, 0, 0, []),
  (150, .aload_n 0, 1, 0, 0, 0, 0, 0, []),
  (151, .getfield 20, 3, 3, 22, 758, 0, 0, []),
  (154, .iload_n 1, 1, 0, 0, 0, 0, 0, []),
  (155, .laload, 1, 0, 0, 0, 0, 0, []),
  (156, .iload_n 3, 1, 0, 0, 0, 0, 0, []),
  (157, .invokestatic 78, 3, 163, 2, 850, 0, 0, []),
  (160, .ifCond .eq 23, 3, 183, 0, 0, 0, 0, []),
  (163, .iload_n 2, 1, 0, 0, 0, 0, 0, []),
  (164, .iload_n 3, 1, 0, 0, 0, 0, 0, []),
  (165, .invokestatic 89, 3, 177, 2, 853, 0, 0, []),
  (168, .ifCond .ne 11, 3, 179, 0, 0, 0, 0, []),
  (171, .iload_n 3, 1, 0, 0, 0, 0, 0, []),
  (172, .iload_n 2, 1, 0, 0, 0, 0, 0, []),
  (173, .invokestatic 89, 3, 177, 2, 853, 0, 0, []),
  (176, .ifCond .eq 7, 3, 183, 0, 0, 0, 0, []),
  (179, .iconst 1, 1, 0, 0, 0, 1, 0, []),
  (180, .goto 38, 3, 218, 0, 0, 0, 0, []),
  (183, .iconst 0, 1, 0, 0, 0, 0, 0, []),
  (184, .goto 34, 3, 218, 0, 0, 0, 0, []),
  (187, .iload_n 3, 1, 0, 0, 0, 0, 0, []),
  (188, .iload_n 2, 1, 0, 0, 0, 0, 0, []),
  (189, .if_icmp .eq 28, 3, 217, 0, 0, 0, 0, []),
  (192, .iload_n 3, 1, 0, 0, 0, 0, 0, []),
  (193, .iload_n 2, 1, 0, 0, 0, 0, 0, []),
  (194, .invokestatic 89, 3, 177, 2, 853, 0, 0, []),
  (197, .ifCond .eq 20, 3, 217, 0, 0, 0, 0, []),
  (200, .aload_n 0, 1, 0, 0, 0, 0, 0, []),
  (201, .getfield 20, 3, 3, 22, 758, 0, 0, []),
  (204, .iload_n 1, 1, 0, 0, 0, 0, 0, []),
  (205, .laload, 1, 0, 0, 0, 0, 0, []),
  (206, .iload_n 3, 1, 0, 0, 0, 0, 0, []),
  (207, .invokestatic 78, 3, 163, 2, 850, 0, 0, []),
  (210, .ifCond .ne 7, 3, 217, 0, 0, 0, 0, []),
  (213, .iconst 1, 1, 0, 0, 0, 1, 0, []),
  (214, .goto 4, 3, 218, 0, 0, 0, 0, []),
  (217, .iconst 0, 1, 0, 0, 0, 0, 0, []),
  (218, .istore 4, 2, 0, 0, 0, 0, 0, []),
  (220, .iload 4, 2, 0, 0, 0, 0, 0, []),
  (222, .ifCond .eq 5, 3, 227, 0, 0, 0, 0, []),
  (225, .iload_n 3, 1, 0, 0, 0, 0, 0, []),
  (226, .ireturn, 1, 0, 0, 0, 0, 0, []),
  (227, .iinc 3 1, 3, 0, 0, 0, 1, 0, []),
  (230, .goto (-112), 3, 118, 0, 0, 0, 0, []),
  (233, .iconst (-1), 1, 0, 0, 0, (-1), 0, []),
  (234, .ireturn, 1, 0, 0, 0, 0, 0, [])]
def n_X7_hinders_49 (F : Nat × Nat) (ls : rx_L) (st : List Value) (u : Option rx_H) : Option (Int32 × Option rx_H) := match ls, st, u with
  | [some (.ref x0), some (.int x1), some (.int x2), _, _], [], u => f_X7_hinders_49 F x0 x1 x2 u
  | _, _, _ => none
def n_X7_hinders_118 (k118 : Nat → Int32 → Int32 → Int32 → Option rx_H → Option (Int32 × Option rx_H)) (ls : rx_L) (st : List Value) (u : Option rx_H) : Option (Int32 × Option rx_H) := match ls, st, u with
  | [some (.ref x0), some (.int x1), some (.int x2), some (.int x3), _], [], u => k118 x0 x1 x2 x3 u
  | _, _, _ => none
def n_X7_hinders_218 (F : Nat × Nat) (k118 : Nat → Int32 → Int32 → Int32 → Option rx_H → Option (Int32 × Option rx_H)) (ls : rx_L) (st : List Value) (u : Option rx_H) : Option (Int32 × Option rx_H) := match ls, st, u with
  | [some (.ref x0), some (.int x1), some (.int x2), some (.int x3), _], [.int s0], u => f_X7_hinders_218 F k118 x0 x1 x2 x3 s0 u
  | _, _, _ => none
noncomputable def kk_X7_hinders_49 (F : Nat × Nat) : Nat → rx_L → List Value → Option rx_H → Option (Int32 × Option rx_H) := fun t ls st u => none
noncomputable def kk_X7_hinders_218 (F : Nat × Nat) (k118 : Nat → Int32 → Int32 → Int32 → Option rx_H → Option (Int32 × Option rx_H)) : Nat → rx_L → List Value → Option rx_H → Option (Int32 × Option rx_H) := fun t ls st u => Bool.rec (motive := fun _ => Option (Int32 × Option rx_H)) (none) (n_X7_hinders_118 k118 ls st u) (Nat.beq t 118)
noncomputable def kk_X7_hinders_118 (F : Nat × Nat) (k118 : Nat → Int32 → Int32 → Int32 → Option rx_H → Option (Int32 × Option rx_H)) : Nat → rx_L → List Value → Option rx_H → Option (Int32 × Option rx_H) := fun t ls st u => Bool.rec (motive := fun _ => Option (Int32 × Option rx_H)) (none) (n_X7_hinders_218 F k118 ls st u) (Nat.beq t 218)
noncomputable def kk_X7_hinders_0 (F : Nat × Nat) : Nat → rx_L → List Value → Option rx_H → Option (Int32 × Option rx_H) := fun t ls st u => Bool.rec (motive := fun _ => Option (Int32 × Option rx_H)) (Bool.rec (motive := fun _ => Option (Int32 × Option rx_H)) (none) (n_X7_hinders_118 (f_X7_hinders_118 F F.1) ls st u) (Nat.beq t 118)) (n_X7_hinders_49 F ls st u) (Nat.beq t 49)
set_option maxRecDepth 100000 in
theorem g_X7_hinders_49 (F : Nat × Nat) (x0 : Nat) (x1 : Int32) (x2 : Int32) (u : Option rx_H) : f_X7_hinders_49 F x0 x1 x2 u = rx_node (C_X7_hinders F) rx_hI t_X7_hinders [49, 118, 218] (kk_X7_hinders_49 F) 138 49 [some (.ref x0), some (.int x1), some (.int x2), none, none] [] u := rfl
set_option maxRecDepth 100000 in
theorem g_X7_hinders_218 (F : Nat × Nat) (k118 : Nat → Int32 → Int32 → Int32 → Option rx_H → Option (Int32 × Option rx_H)) (x0 : Nat) (x1 : Int32) (x2 : Int32) (x3 : Int32) (s0 : Int32) (u : Option rx_H) : f_X7_hinders_218 F k118 x0 x1 x2 x3 s0 u = rx_node (C_X7_hinders F) rx_hI t_X7_hinders [49, 118, 218] (kk_X7_hinders_218 F k118) 138 218 [some (.ref x0), some (.int x1), some (.int x2), some (.int x3), none] [.int s0] u := rfl
set_option maxRecDepth 100000 in
theorem g_X7_hinders_118 (F : Nat × Nat) (f : Nat) (x0 : Nat) (x1 : Int32) (x2 : Int32) (x3 : Int32) (u : Option rx_H) : f_X7_hinders_118 F (f + 1) x0 x1 x2 x3 u = rx_node (C_X7_hinders F) rx_hI t_X7_hinders [49, 118, 218] (kk_X7_hinders_118 F (f_X7_hinders_118 F f)) 138 118 [some (.ref x0), some (.int x1), some (.int x2), some (.int x3), none] [] u := rfl
set_option maxRecDepth 100000 in
theorem g_X7_hinders_0 (F : Nat × Nat) (x0 : Nat) (x1 : Int32) (x2 : Int32) (u : Option rx_H) : f_X7_hinders_0 F x0 x1 x2 u = rx_node (C_X7_hinders F) rx_hI t_X7_hinders [49, 118, 218] (kk_X7_hinders_0 F) 138 0 [some (.ref x0), some (.int x1), some (.int x2), none, none] [] u := rfl
def f_X7_adds_0 (F : Nat × Nat) (x0 : Nat) (x1 : Int32) (x2 : Int32) (u : Option rx_H) : Option (Int32 × Option rx_H) :=
  (rx_ck u x0 3).bind fun _ =>
  (f_X7_hinders F x0 x1 x2 u).bind fun v1 =>
  if v1.1 < 0 then
    (rx_gR v1.2 x0 3 5).bind fun v2 =>
    (rx_aJ v1.2 v2 x1).bind fun v3 =>
    (rx_sJ v1.2 v2 x1 (v3 ||| ((1 : Int64) <<< (Int32.toInt64 x2 &&& 63)))).bind fun v4 =>
    (rx_gR v4 x0 3 5).bind fun v5 =>
    (rx_aJ v4 v5 x1).bind fun v6 =>
    (f_X7_many F v6).bind fun v7 =>
    some (v7, v4)
  else
    (rx_p v1.2 x0 3 9 (.int v1.1)).bind fun v8 =>
    some ((-3 : Int32), v8)
def f_X7_adds (F : Nat × Nat) (x0 : Nat) (x1 : Int32) (x2 : Int32) (u : Option rx_H) : Option (Int32 × Option rx_H) := f_X7_adds_0 F x0 x1 x2 u
def c_X7_adds {α : Type} (F : Nat × Nat) (as : List Value) (u : Option rx_H) (κ : rx_K α) : Option α := match as with
  | [.ref a0, .int a1, .int a2] => (f_X7_adds F a0 a1 a2 u).bind fun r => κ (some (.int r.1)) r.2
  | _ => none
noncomputable def C_X7_adds {α : Type} (F : Nat × Nat) : rx_Cl α := fun j as u κ => Bool.rec (motive := fun _ => Option α) (Bool.rec (motive := fun _ => Option α) (none) (c_X7_many F as u κ) (Nat.beq j 184)) (c_X7_hinders F as u κ) (Nat.beq j 166)
def t_X7_adds : List rx_E := [
  (0, .aload_n 0, 1, 0, 0, 0, 0, 0, []),
  (1, .iload_n 1, 1, 0, 0, 0, 0, 0, []),
  (2, .iload_n 2, 1, 0, 0, 0, 0, 0, []),
  (3, .invokevirtual 92, 3, 166, 303, 840, 0, 0, []),
  (6, .istore_n 3, 1, 0, 0, 0, 0, 0, []),
  (7, .iload_n 3, 1, 0, 0, 0, 0, 0, []),
  (8, .ifCond .lt 11, 3, 19, 0, 0, 0, 0, []),
  (11, .aload_n 0, 1, 0, 0, 0, 0, 0, []),
  (12, .iload_n 3, 1, 0, 0, 0, 0, 0, []),
  (13, .putfield 33, 3, 3, 36, 762, 0, 0, []),
  (16, .bipush (-3), 2, 0, 0, 0, (-3), 0, []),
  (18, .ireturn, 1, 0, 0, 0, 0, 0, []),
  (19, .aload_n 0, 1, 0, 0, 0, 0, 0, []),
  (20, .getfield 20, 3, 3, 22, 758, 0, 0, []),
  (23, .iload_n 1, 1, 0, 0, 0, 0, 0, []),
  (24, .dup2, 1, 0, 0, 0, 0, 0, []),
  (25, .laload, 1, 0, 0, 0, 0, 0, []),
  (26, .lconst 1, 1, 0, 0, 0, 0, 1, []),
  (27, .iload_n 2, 1, 0, 0, 0, 0, 0, []),
  (28, .lshl, 1, 0, 0, 0, 0, 0, []),
  (29, .lor, 1, 0, 0, 0, 0, 0, []),
  (30, .lastore, 1, 0, 0, 0, 0, 0, []),
  (31, .aload_n 0, 1, 0, 0, 0, 0, 0, []),
  (32, .getfield 20, 3, 3, 22, 758, 0, 0, []),
  (35, .iload_n 1, 1, 0, 0, 0, 0, 0, []),
  (36, .laload, 1, 0, 0, 0, 0, 0, []),
  (37, .invokestatic 58, 3, 184, 1, 817, 0, 0, []),
  (40, .ireturn, 1, 0, 0, 0, 0, 0, [])]
noncomputable def kk_X7_adds_0 (F : Nat × Nat) : Nat → rx_L → List Value → Option rx_H → Option (Int32 × Option rx_H) := fun t ls st u => none
set_option maxRecDepth 100000 in
theorem g_X7_adds_0 (F : Nat × Nat) (x0 : Nat) (x1 : Int32) (x2 : Int32) (u : Option rx_H) : f_X7_adds_0 F x0 x1 x2 u = rx_node (C_X7_adds F) rx_hI t_X7_adds [] (kk_X7_adds_0 F) 31 0 [some (.ref x0), some (.int x1), some (.int x2), none] [] u := rfl
def f_X7_add_0 (F : Nat × Nat) (x0 : Nat) (x1 : Int32) (x2 : Int32) (u : Option rx_H) : Option (Int32 × Option rx_H) :=
  (f_X7_isPlace F x1).bind fun v1 =>
  if v1 = 0 then
    some ((-1 : Int32), u)
  else
    (rx_ck u x0 3).bind fun _ =>
    (f_X7_isSet F x0 x2 u).bind fun v2 =>
    if v2.1 = 0 then
      some ((-1 : Int32), v2.2)
    else
      (rx_ck v2.2 x0 3).bind fun _ =>
      (f_X7_lacks F x0 x1 v2.2).bind fun v3 =>
      if v3.1 = 0 then
        (rx_ck v3.2 x0 3).bind fun _ =>
        (f_X7_adds F x0 x1 x2 v3.2).bind fun v4 =>
        some (v4.1, v4.2)
      else
        (rx_ck v3.2 x0 3).bind fun _ =>
        (f_X7_lacks F x0 x1 v3.2).bind fun v5 =>
        some (v5.1, v5.2)
def f_X7_add (F : Nat × Nat) (x0 : Nat) (x1 : Int32) (x2 : Int32) (u : Option rx_H) : Option (Int32 × Option rx_H) := f_X7_add_0 F x0 x1 x2 u
def c_X7_add {α : Type} (F : Nat × Nat) (as : List Value) (u : Option rx_H) (κ : rx_K α) : Option α := match as with
  | [.ref a0, .int a1, .int a2] => (f_X7_add F a0 a1 a2 u).bind fun r => κ (some (.int r.1)) r.2
  | _ => none
noncomputable def C_X7_add {α : Type} (F : Nat × Nat) : rx_Cl α := fun j as u κ => Bool.rec (motive := fun _ => Option α) (Bool.rec (motive := fun _ => Option α) (Bool.rec (motive := fun _ => Option α) (Bool.rec (motive := fun _ => Option α) (none) (c_X7_lacks F as u κ) (Nat.beq j 179)) (c_X7_isSet F as u κ) (Nat.beq j 174)) (c_X7_isPlace F as u κ) (Nat.beq j 173)) (c_X7_adds F as u κ) (Nat.beq j 137)
def t_X7_add : List rx_E := [
  (0, .iload_n 1, 1, 0, 0, 0, 0, 0, []),
  (1, .invokestatic 62, 3, 173, 1, 803, 0, 0, []),
  (4, .ifCond .eq 11, 3, 15, 0, 0, 0, 0, []),
  (7, .aload_n 0, 1, 0, 0, 0, 0, 0, []),
  (8, .iload_n 2, 1, 0, 0, 0, 0, 0, []),
  (9, .invokevirtual 96, 3, 174, 302, 832, 0, 0, []),
  (12, .ifCond .ne 5, 3, 17, 0, 0, 0, 0, []),
  (15, .iconst (-1), 1, 0, 0, 0, (-1), 0, []),
  (16, .ireturn, 1, 0, 0, 0, 0, 0, []),
  (17, .aload_n 0, 1, 0, 0, 0, 0, 0, []),
  (18, .iload_n 1, 1, 0, 0, 0, 0, 0, []),
  (19, .invokevirtual 74, 3, 179, 302, 824, 0, 0, []),
  (22, .ifCond .eq 11, 3, 33, 0, 0, 0, 0, []),
  (25, .aload_n 0, 1, 0, 0, 0, 0, 0, []),
  (26, .iload_n 1, 1, 0, 0, 0, 0, 0, []),
  (27, .invokevirtual 74, 3, 179, 302, 824, 0, 0, []),
  (30, .goto 9, 3, 39, 0, 0, 0, 0, []),
  (33, .aload_n 0, 1, 0, 0, 0, 0, 0, []),
  (34, .iload_n 1, 1, 0, 0, 0, 0, 0, []),
  (35, .iload_n 2, 1, 0, 0, 0, 0, 0, []),
  (36, .invokevirtual 99, 3, 137, 303, 836, 0, 0, []),
  (39, .ireturn, 1, 0, 0, 0, 0, 0, [])]
noncomputable def kk_X7_add_0 (F : Nat × Nat) : Nat → rx_L → List Value → Option rx_H → Option (Int32 × Option rx_H) := fun t ls st u => none
set_option maxRecDepth 100000 in
theorem g_X7_add_0 (F : Nat × Nat) (x0 : Nat) (x1 : Int32) (x2 : Int32) (u : Option rx_H) : f_X7_add_0 F x0 x1 x2 u = rx_node (C_X7_add F) rx_hI t_X7_add [] (kk_X7_add_0 F) 25 0 [some (.ref x0), some (.int x1), some (.int x2)] [] u := rfl
def f_X7_drop_107 (F : Nat × Nat) (x0 : Nat) (x1 : Int32) (x2 : Int32) (u : Option rx_H) : Option (Int32 × Option rx_H) :=
  (rx_gR u x0 3 5).bind fun v1 =>
  (rx_aJ u v1 x1).bind fun v2 =>
  (rx_sJ u v1 x1 (v2 &&& (((1 : Int64) <<< (Int32.toInt64 x2 &&& 63)) ^^^ (-1 : Int64)))).bind fun v3 =>
  (rx_gR v3 x0 3 5).bind fun v4 =>
  (rx_aJ v3 v4 x1).bind fun v5 =>
  (f_X7_many F v5).bind fun v6 =>
  some (v6, v3)
def f_X7_drop_49 (F : Nat × Nat) : Nat → Nat → Int32 → Int32 → Int32 → Option rx_H → Option (Int32 × Option rx_H)
  | 0, _, _, _, _, _ => none
  | f + 1, x0, x1, x2, x3, u =>
    (rx_gI u x0 3 2).bind fun v1 =>
    if x3 < v1 then
      (rx_gR u x0 3 3).bind fun v2 =>
      (rx_aI u v2 x1).bind fun v3 =>
      if v3 = (3 : Int32) then
        if x3 = x2 then
          (f_X7_drop_49 F f) x0 x1 x2 (x3 + 1) u
        else
          (rx_gR u x0 3 5).bind fun v4 =>
          (rx_aJ u v4 x1).bind fun v5 =>
          (f_X7_has F v5 x3).bind fun v6 =>
          if v6 = 0 then
            (f_X7_drop_49 F f) x0 x1 x2 (x3 + 1) u
          else
            (f_X7_isWithin F x2 x3).bind fun v7 =>
            if v7 = 0 then
              (f_X7_drop_49 F f) x0 x1 x2 (x3 + 1) u
            else
              (rx_p u x0 3 9 (.int x3)).bind fun v8 =>
              some ((-3 : Int32), v8)
      else
        f_X7_drop_107 F x0 x1 x2 u
    else
      f_X7_drop_107 F x0 x1 x2 u
def f_X7_drop_0 (F : Nat × Nat) (x0 : Nat) (x1 : Int32) (x2 : Int32) (u : Option rx_H) : Option (Int32 × Option rx_H) :=
  (f_X7_isPlace F x1).bind fun v1 =>
  if v1 = 0 then
    some ((-1 : Int32), u)
  else
    (rx_ck u x0 3).bind fun _ =>
    (f_X7_isSet F x0 x2 u).bind fun v2 =>
    if v2.1 = 0 then
      some ((-1 : Int32), v2.2)
    else
      (rx_ck v2.2 x0 3).bind fun _ =>
      (f_X7_lacks F x0 x1 v2.2).bind fun v3 =>
      if v3.1 = 0 then
        (rx_gR v3.2 x0 3 5).bind fun v4 =>
        (rx_aJ v3.2 v4 x1).bind fun v5 =>
        (f_X7_has F v5 x2).bind fun v6 =>
        if v6 = 0 then
          some ((-2 : Int32), v3.2)
        else
          f_X7_drop_49 F F.1 x0 x1 x2 (0 : Int32) v3.2
      else
        (rx_ck v3.2 x0 3).bind fun _ =>
        (f_X7_lacks F x0 x1 v3.2).bind fun v7 =>
        some (v7.1, v7.2)
def f_X7_drop (F : Nat × Nat) (x0 : Nat) (x1 : Int32) (x2 : Int32) (u : Option rx_H) : Option (Int32 × Option rx_H) := f_X7_drop_0 F x0 x1 x2 u
def c_X7_drop {α : Type} (F : Nat × Nat) (as : List Value) (u : Option rx_H) (κ : rx_K α) : Option α := match as with
  | [.ref a0, .int a1, .int a2] => (f_X7_drop F a0 a1 a2 u).bind fun r => κ (some (.int r.1)) r.2
  | _ => none
noncomputable def C_X7_drop {α : Type} (F : Nat × Nat) : rx_Cl α := fun j as u κ => Bool.rec (motive := fun _ => Option α) (Bool.rec (motive := fun _ => Option α) (Bool.rec (motive := fun _ => Option α) (Bool.rec (motive := fun _ => Option α) (Bool.rec (motive := fun _ => Option α) (Bool.rec (motive := fun _ => Option α) (none) (c_X7_many F as u κ) (Nat.beq j 184)) (c_X7_lacks F as u κ) (Nat.beq j 179)) (c_X7_isWithin F as u κ) (Nat.beq j 177)) (c_X7_isSet F as u κ) (Nat.beq j 174)) (c_X7_isPlace F as u κ) (Nat.beq j 173)) (c_X7_has F as u κ) (Nat.beq j 163)
def t_X7_drop : List rx_E := [
  (0, .iload_n 1, 1, 0, 0, 0, 0, 0, []),
  (1, .invokestatic 62, 3, 173, 1, 803, 0, 0, []),
  (4, .ifCond .eq 11, 3, 15, 0, 0, 0, 0, []),
  (7, .aload_n 0, 1, 0, 0, 0, 0, 0, []),
  (8, .iload_n 2, 1, 0, 0, 0, 0, 0, []),
  (9, .invokevirtual 96, 3, 174, 302, 832, 0, 0, []),
  (12, .ifCond .ne 5, 3, 17, 0, 0, 0, 0, []),
  (15, .iconst (-1), 1, 0, 0, 0, (-1), 0, []),
  (16, .ireturn, 1, 0, 0, 0, 0, 0, []),
  (17, .aload_n 0, 1, 0, 0, 0, 0, 0, []),
  (18, .iload_n 1, 1, 0, 0, 0, 0, 0, []),
  (19, .invokevirtual 74, 3, 179, 302, 824, 0, 0, []),
  (22, .ifCond .eq 9, 3, 31, 0, 0, 0, 0, []),
  (25, .aload_n 0, 1, 0, 0, 0, 0, 0, []),
  (26, .iload_n 1, 1, 0, 0, 0, 0, 0, []),
  (27, .invokevirtual 74, 3, 179, 302, 824, 0, 0, []),
  (30, .ireturn, 1, 0, 0, 0, 0, 0, []),
  (31, .aload_n 0, 1, 0, 0, 0, 0, 0, []),
  (32, .getfield 20, 3, 3, 22, 758, 0, 0, []),
  (35, .iload_n 1, 1, 0, 0, 0, 0, 0, []),
  (36, .laload, 1, 0, 0, 0, 0, 0, []),
  (37, .iload_n 2, 1, 0, 0, 0, 0, 0, []),
  (38, .invokestatic 78, 3, 163, 2, 850, 0, 0, []),
  (41, .ifCond .ne 6, 3, 47, 0, 0, 0, 0, []),
  (44, .bipush (-2), 2, 0, 0, 0, (-2), 0, []),
  (46, .ireturn, 1, 0, 0, 0, 0, 0, []),
  (47, .iconst 0, 1, 0, 0, 0, 0, 0, []),
  (48, .istore_n 3, 1, 0, 0, 0, 0, 0, []),
  (49, .iload_n 3, 1, 0, 0, 0, 0, 0, []),
  (50, .aload_n 0, 1, 0, 0, 0, 0, 0, []),
  (51, .getfield 51, 3, 3, 8, 755, 0, 0, []),
  (54, .if_icmp .ge 53, 3, 107, 0, 0, 0, 0, []),
  (57, .aload_n 0, 1, 0, 0, 0, 0, 0, []),
  (58, .getfield 13, 3, 3, 14, 756, 0, 0, []),
  (61, .iload_n 1, 1, 0, 0, 0, 0, 0, []),
  (62, .iaload, 1, 0, 0, 0, 0, 0, []),
  (63, .iconst 3, 1, 0, 0, 0, 3, 0, []),
  (64, .if_icmp .ne 43, 3, 107, 0, 0, 0, 0, []),
  (67, .iload_n 3, 1, 0, 0, 0, 0, 0, []),
  (68, .iload_n 2, 1, 0, 0, 0, 0, 0, []),
  (69, .if_icmp .eq 32, 3, 101, 0, 0, 0, 0, []),
  (72, .aload_n 0, 1, 0, 0, 0, 0, 0, []),
  (73, .getfield 20, 3, 3, 22, 758, 0, 0, []),
  (76, .iload_n 1, 1, 0, 0, 0, 0, 0, []),
  (77, .laload, 1, 0, 0, 0, 0, 0, []),
  (78, .iload_n 3, 1, 0, 0, 0, 0, 0, []),
  (79, .invokestatic 78, 3, 163, 2, 850, 0, 0, []),
  (82, .ifCond .eq 19, 3, 101, 0, 0, 0, 0, []),
  (85, .iload_n 2, 1, 0, 0, 0, 0, 0, []),
  (86, .iload_n 3, 1, 0, 0, 0, 0, 0, []),
  (87, .invokestatic 89, 3, 177, 2, 853, 0, 0, []),
  (90, .ifCond .eq 11, 3, 101, 0, 0, 0, 0, []),
  (93, .aload_n 0, 1, 0, 0, 0, 0, 0, []),
  (94, .iload_n 3, 1, 0, 0, 0, 0, 0, []),
  (95, .putfield 33, 3, 3, 36, 762, 0, 0, []),
  (98, .bipush (-3), 2, 0, 0, 0, (-3), 0, []),
  (100, .ireturn, 1, 0, 0, 0, 0, 0, []),
  (101, .iinc 3 1, 3, 0, 0, 0, 1, 0, []),
  (104, .goto (-55), 3, 49, 0, 0, 0, 0, []),
  (107, .aload_n 0, 1, 0, 0, 0, 0, 0, []),
  (108, .getfield 20, 3, 3, 22, 758, 0, 0, []),
  (111, .iload_n 1, 1, 0, 0, 0, 0, 0, []),
  (112, .dup2, 1, 0, 0, 0, 0, 0, []),
  (113, .laload, 1, 0, 0, 0, 0, 0, []),
  (114, .lconst 1, 1, 0, 0, 0, 0, 1, []),
  (115, .iload_n 2, 1, 0, 0, 0, 0, 0, []),
  (116, .lshl, 1, 0, 0, 0, 0, 0, []),
  (117, .ldc2_w 102, 3, 0, 0, 860, 0, (-1), []),
  (120, .lxor, 1, 0, 0, 0, 0, 0, []),
  (121, .land, 1, 0, 0, 0, 0, 0, []),
  (122, .lastore, 1, 0, 0, 0, 0, 0, []),
  (123, .aload_n 0, 1, 0, 0, 0, 0, 0, []),
  (124, .getfield 20, 3, 3, 22, 758, 0, 0, []),
  (127, .iload_n 1, 1, 0, 0, 0, 0, 0, []),
  (128, .laload, 1, 0, 0, 0, 0, 0, []),
  (129, .invokestatic 58, 3, 184, 1, 817, 0, 0, []),
  (132, .ireturn, 1, 0, 0, 0, 0, 0, [])]
def n_X7_drop_49 (k49 : Nat → Int32 → Int32 → Int32 → Option rx_H → Option (Int32 × Option rx_H)) (ls : rx_L) (st : List Value) (u : Option rx_H) : Option (Int32 × Option rx_H) := match ls, st, u with
  | [some (.ref x0), some (.int x1), some (.int x2), some (.int x3)], [], u => k49 x0 x1 x2 x3 u
  | _, _, _ => none
def n_X7_drop_107 (F : Nat × Nat) (ls : rx_L) (st : List Value) (u : Option rx_H) : Option (Int32 × Option rx_H) := match ls, st, u with
  | [some (.ref x0), some (.int x1), some (.int x2), _], [], u => f_X7_drop_107 F x0 x1 x2 u
  | _, _, _ => none
noncomputable def kk_X7_drop_107 (F : Nat × Nat) : Nat → rx_L → List Value → Option rx_H → Option (Int32 × Option rx_H) := fun t ls st u => none
noncomputable def kk_X7_drop_49 (F : Nat × Nat) (k49 : Nat → Int32 → Int32 → Int32 → Option rx_H → Option (Int32 × Option rx_H)) : Nat → rx_L → List Value → Option rx_H → Option (Int32 × Option rx_H) := fun t ls st u => Bool.rec (motive := fun _ => Option (Int32 × Option rx_H)) (Bool.rec (motive := fun _ => Option (Int32 × Option rx_H)) (none) (n_X7_drop_107 F ls st u) (Nat.beq t 107)) (n_X7_drop_49 k49 ls st u) (Nat.beq t 49)
noncomputable def kk_X7_drop_0 (F : Nat × Nat) : Nat → rx_L → List Value → Option rx_H → Option (Int32 × Option rx_H) := fun t ls st u => Bool.rec (motive := fun _ => Option (Int32 × Option rx_H)) (none) (n_X7_drop_49 (f_X7_drop_49 F F.1) ls st u) (Nat.beq t 49)
set_option maxRecDepth 100000 in
theorem g_X7_drop_107 (F : Nat × Nat) (x0 : Nat) (x1 : Int32) (x2 : Int32) (u : Option rx_H) : f_X7_drop_107 F x0 x1 x2 u = rx_node (C_X7_drop F) rx_hI t_X7_drop [49, 107] (kk_X7_drop_107 F) 80 107 [some (.ref x0), some (.int x1), some (.int x2), none] [] u := rfl
set_option maxRecDepth 100000 in
theorem g_X7_drop_49 (F : Nat × Nat) (f : Nat) (x0 : Nat) (x1 : Int32) (x2 : Int32) (x3 : Int32) (u : Option rx_H) : f_X7_drop_49 F (f + 1) x0 x1 x2 x3 u = rx_node (C_X7_drop F) rx_hI t_X7_drop [49, 107] (kk_X7_drop_49 F (f_X7_drop_49 F f)) 80 49 [some (.ref x0), some (.int x1), some (.int x2), some (.int x3)] [] u := rfl
set_option maxRecDepth 100000 in
theorem g_X7_drop_0 (F : Nat × Nat) (x0 : Nat) (x1 : Int32) (x2 : Int32) (u : Option rx_H) : f_X7_drop_0 F x0 x1 x2 u = rx_node (C_X7_drop F) rx_hI t_X7_drop [49, 107] (kk_X7_drop_0 F) 80 0 [some (.ref x0), some (.int x1), some (.int x2), none] [] u := rfl
def f_X7_clash_0 (F : Nat × Nat) (x0 : Nat) (u : Option rx_H) : Option (Int32 × Option rx_H) :=
  (rx_gI u x0 3 9).bind fun v1 =>
  some (v1, u)
def f_X7_clash (F : Nat × Nat) (x0 : Nat) (u : Option rx_H) : Option (Int32 × Option rx_H) := f_X7_clash_0 F x0 u
def c_X7_clash {α : Type} (F : Nat × Nat) (as : List Value) (u : Option rx_H) (κ : rx_K α) : Option α := match as with
  | [.ref a0] => (f_X7_clash F a0 u).bind fun r => κ (some (.int r.1)) r.2
  | _ => none
noncomputable def C_X7_clash {α : Type} (F : Nat × Nat) : rx_Cl α := fun j as u κ => none
def t_X7_clash : List rx_E := [
  (0, .aload_n 0, 1, 0, 0, 0, 0, 0, []),
  (1, .getfield 33, 3, 3, 36, 762, 0, 0, []),
  (4, .ireturn, 1, 0, 0, 0, 0, 0, [])]
noncomputable def kk_X7_clash_0 (F : Nat × Nat) : Nat → rx_L → List Value → Option rx_H → Option (Int32 × Option rx_H) := fun t ls st u => none
set_option maxRecDepth 100000 in
theorem g_X7_clash_0 (F : Nat × Nat) (x0 : Nat) (u : Option rx_H) : f_X7_clash_0 F x0 u = rx_node (C_X7_clash F) rx_hI t_X7_clash [] (kk_X7_clash_0 F) 6 0 [some (.ref x0)] [] u := rfl
def f_X7_empty_0 (F : Nat × Nat) (x0 : Nat) (x1 : Int32) (u : Option rx_H) : Option (Int32 × Option rx_H) :=
  (f_X7_isPlace F x1).bind fun v1 =>
  if v1 = 0 then
    some ((-1 : Int32), u)
  else
    (rx_gR u x0 3 3).bind fun v2 =>
    (rx_aI u v2 x1).bind fun v3 =>
    if v3 = (-2 : Int32) then
      (rx_gR u x0 3 3).bind fun v4 =>
      (rx_sI u v4 x1 (-2 : Int32)).bind fun v5 =>
      some ((0 : Int32), v5)
    else
      (rx_gR u x0 3 3).bind fun v6 =>
      (rx_sI u v6 x1 (-2 : Int32)).bind fun v7 =>
      some ((1 : Int32), v7)
def f_X7_empty (F : Nat × Nat) (x0 : Nat) (x1 : Int32) (u : Option rx_H) : Option (Int32 × Option rx_H) := f_X7_empty_0 F x0 x1 u
def c_X7_empty {α : Type} (F : Nat × Nat) (as : List Value) (u : Option rx_H) (κ : rx_K α) : Option α := match as with
  | [.ref a0, .int a1] => (f_X7_empty F a0 a1 u).bind fun r => κ (some (.int r.1)) r.2
  | _ => none
noncomputable def C_X7_empty {α : Type} (F : Nat × Nat) : rx_Cl α := fun j as u κ => Bool.rec (motive := fun _ => Option α) (none) (c_X7_isPlace F as u κ) (Nat.beq j 173)
def t_X7_empty : List rx_E := [
  (0, .iload_n 1, 1, 0, 0, 0, 0, 0, []),
  (1, .invokestatic 62, 3, 173, 1, 803, 0, 0, []),
  (4, .ifCond .ne 5, 3, 9, 0, 0, 0, 0, []),
  (7, .iconst (-1), 1, 0, 0, 0, (-1), 0, []),
  (8, .ireturn, 1, 0, 0, 0, 0, 0, []),
  (9, .aload_n 0, 1, 0, 0, 0, 0, 0, []),
  (10, .getfield 13, 3, 3, 14, 756, 0, 0, []),
  (13, .iload_n 1, 1, 0, 0, 0, 0, 0, []),
  (14, .iaload, 1, 0, 0, 0, 0, 0, []),
  (15, .bipush (-2), 2, 0, 0, 0, (-2), 0, []),
  (17, .if_icmp .ne 7, 3, 24, 0, 0, 0, 0, []),
  (20, .iconst 0, 1, 0, 0, 0, 0, 0, []),
  (21, .goto 4, 3, 25, 0, 0, 0, 0, []),
  (24, .iconst 1, 1, 0, 0, 0, 1, 0, []),
  (25, .istore_n 2, 1, 0, 0, 0, 0, 0, []),
  (26, .aload_n 0, 1, 0, 0, 0, 0, 0, []),
  (27, .getfield 13, 3, 3, 14, 756, 0, 0, []),
  (30, .iload_n 1, 1, 0, 0, 0, 0, 0, []),
  (31, .bipush (-2), 2, 0, 0, 0, (-2), 0, []),
  (33, .iastore, 1, 0, 0, 0, 0, 0, []),
  (34, .iload_n 2, 1, 0, 0, 0, 0, 0, []),
  (35, .ireturn, 1, 0, 0, 0, 0, 0, [])]
noncomputable def kk_X7_empty_0 (F : Nat × Nat) : Nat → rx_L → List Value → Option rx_H → Option (Int32 × Option rx_H) := fun t ls st u => none
set_option maxRecDepth 100000 in
theorem g_X7_empty_0 (F : Nat × Nat) (x0 : Nat) (x1 : Int32) (u : Option rx_H) : f_X7_empty_0 F x0 x1 u = rx_node (C_X7_empty F) rx_hI t_X7_empty [] (kk_X7_empty_0 F) 25 0 [some (.ref x0), some (.int x1), none] [] u := rfl
def f_X7_holds_0 (F : Nat × Nat) (x0 : Nat) (x1 : Int32) (u : Option rx_H) : Option (Int32 × Option rx_H) :=
  (f_X7_isPlace F x1).bind fun v1 =>
  if v1 = 0 then
    some ((-1 : Int32), u)
  else
    (rx_gR u x0 3 3).bind fun v2 =>
    (rx_aI u v2 x1).bind fun v3 =>
    some (v3, u)
def f_X7_holds (F : Nat × Nat) (x0 : Nat) (x1 : Int32) (u : Option rx_H) : Option (Int32 × Option rx_H) := f_X7_holds_0 F x0 x1 u
def c_X7_holds {α : Type} (F : Nat × Nat) (as : List Value) (u : Option rx_H) (κ : rx_K α) : Option α := match as with
  | [.ref a0, .int a1] => (f_X7_holds F a0 a1 u).bind fun r => κ (some (.int r.1)) r.2
  | _ => none
noncomputable def C_X7_holds {α : Type} (F : Nat × Nat) : rx_Cl α := fun j as u κ => Bool.rec (motive := fun _ => Option α) (none) (c_X7_isPlace F as u κ) (Nat.beq j 173)
def t_X7_holds : List rx_E := [
  (0, .iload_n 1, 1, 0, 0, 0, 0, 0, []),
  (1, .invokestatic 62, 3, 173, 1, 803, 0, 0, []),
  (4, .ifCond .eq 12, 3, 16, 0, 0, 0, 0, []),
  (7, .aload_n 0, 1, 0, 0, 0, 0, 0, []),
  (8, .getfield 13, 3, 3, 14, 756, 0, 0, []),
  (11, .iload_n 1, 1, 0, 0, 0, 0, 0, []),
  (12, .iaload, 1, 0, 0, 0, 0, 0, []),
  (13, .goto 4, 3, 17, 0, 0, 0, 0, []),
  (16, .iconst (-1), 1, 0, 0, 0, (-1), 0, []),
  (17, .ireturn, 1, 0, 0, 0, 0, 0, [])]
noncomputable def kk_X7_holds_0 (F : Nat × Nat) : Nat → rx_L → List Value → Option rx_H → Option (Int32 × Option rx_H) := fun t ls st u => none
set_option maxRecDepth 100000 in
theorem g_X7_holds_0 (F : Nat × Nat) (x0 : Nat) (x1 : Int32) (u : Option rx_H) : f_X7_holds_0 F x0 x1 u = rx_node (C_X7_holds F) rx_hI t_X7_holds [] (kk_X7_holds_0 F) 13 0 [some (.ref x0), some (.int x1)] [] u := rfl
def f_X7_sized_6 (F : Nat × Nat) : Nat → Nat → Int64 → Int32 → Int32 → Int32 → Option rx_H → Option (Int32 × Option rx_H)
  | 0, _, _, _, _, _, _ => none
  | f + 1, x0, x1, x3, x4, x5, u =>
    (rx_gI u x0 3 2).bind fun v1 =>
    if x5 < v1 then
      (f_X7_has F x1 x5).bind fun v2 =>
      if v2 = 0 then
        (f_X7_sized_6 F f) x0 x1 x3 (x4 + (0 : Int32)) (x5 + 1) u
      else
        (f_X7_ones F x5).bind fun v3 =>
        if v3 = x3 then
          (f_X7_sized_6 F f) x0 x1 x3 (x4 + (1 : Int32)) (x5 + 1) u
        else
          (f_X7_sized_6 F f) x0 x1 x3 (x4 + (0 : Int32)) (x5 + 1) u
    else
      some (x4, u)
def f_X7_sized_0 (F : Nat × Nat) (x0 : Nat) (x1 : Int64) (x3 : Int32) (u : Option rx_H) : Option (Int32 × Option rx_H) :=
  f_X7_sized_6 F F.1 x0 x1 x3 (0 : Int32) (0 : Int32) u
def f_X7_sized (F : Nat × Nat) (x0 : Nat) (x1 : Int64) (x3 : Int32) (u : Option rx_H) : Option (Int32 × Option rx_H) := f_X7_sized_0 F x0 x1 x3 u
def c_X7_sized {α : Type} (F : Nat × Nat) (as : List Value) (u : Option rx_H) (κ : rx_K α) : Option α := match as with
  | [.ref a0, .long a1, .int a2] => (f_X7_sized F a0 a1 a2 u).bind fun r => κ (some (.int r.1)) r.2
  | _ => none
noncomputable def C_X7_sized {α : Type} (F : Nat × Nat) : rx_Cl α := fun j as u κ => Bool.rec (motive := fun _ => Option α) (Bool.rec (motive := fun _ => Option α) (none) (c_X7_ones F as u κ) (Nat.beq j 190)) (c_X7_has F as u κ) (Nat.beq j 163)
def t_X7_sized : List rx_E := [
  (0, .iconst 0, 1, 0, 0, 0, 0, 0, []),
  (1, .istore 4, 2, 0, 0, 0, 0, 0, []),
  (3, .iconst 0, 1, 0, 0, 0, 0, 0, []),
  (4, .istore 5, 2, 0, 0, 0, 0, 0, []),
  (6, .iload 5, 2, 0, 0, 0, 0, 0, []),
  (8, .aload_n 0, 1, 0, 0, 0, 0, 0, []),
  (9, .getfield 51, 3, 3, 8, 755, 0, 0, []),
  (12, .if_icmp .ge 37, 3, 49, 0, 0, 0, 0, []),
  (15, .iload 4, 2, 0, 0, 0, 0, 0, []),
  (17, .lload_n 1, 1, 0, 0, 0, 0, 0, []),
  (18, .iload 5, 2, 0, 0, 0, 0, 0, []),
  (20, .invokestatic 78, 3, 163, 2, 850, 0, 0, []),
  (23, .ifCond .eq 16, 3, 39, 0, 0, 0, 0, []),
  (26, .iload 5, 2, 0, 0, 0, 0, 0, []),
  (28, .invokestatic 82, 3, 190, 1, 844, 0, 0, []),
  (31, .iload_n 3, 1, 0, 0, 0, 0, 0, []),
  (32, .if_icmp .ne 7, 3, 39, 0, 0, 0, 0, []),
  (35, .iconst 1, 1, 0, 0, 0, 1, 0, []),
  (36, .goto 4, 3, 40, 0, 0, 0, 0, []),
  (39, .iconst 0, 1, 0, 0, 0, 0, 0, []),
  (40, .iadd, 1, 0, 0, 0, 0, 0, []),
  (41, .istore 4, 2, 0, 0, 0, 0, 0, []),
  (43, .iinc 5 1, 3, 0, 0, 0, 1, 0, []),
  (46, .goto (-40), 3, 6, 0, 0, 0, 0, []),
  (49, .iload 4, 2, 0, 0, 0, 0, 0, []),
  (51, .ireturn, 1, 0, 0, 0, 0, 0, [])]
def n_X7_sized_6 (k6 : Nat → Int64 → Int32 → Int32 → Int32 → Option rx_H → Option (Int32 × Option rx_H)) (ls : rx_L) (st : List Value) (u : Option rx_H) : Option (Int32 × Option rx_H) := match ls, st, u with
  | [some (.ref x0), some (.long x1), _, some (.int x3), some (.int x4), some (.int x5)], [], u => k6 x0 x1 x3 x4 x5 u
  | _, _, _ => none
noncomputable def kk_X7_sized_6 (F : Nat × Nat) (k6 : Nat → Int64 → Int32 → Int32 → Int32 → Option rx_H → Option (Int32 × Option rx_H)) : Nat → rx_L → List Value → Option rx_H → Option (Int32 × Option rx_H) := fun t ls st u => Bool.rec (motive := fun _ => Option (Int32 × Option rx_H)) (none) (n_X7_sized_6 k6 ls st u) (Nat.beq t 6)
noncomputable def kk_X7_sized_0 (F : Nat × Nat) : Nat → rx_L → List Value → Option rx_H → Option (Int32 × Option rx_H) := fun t ls st u => Bool.rec (motive := fun _ => Option (Int32 × Option rx_H)) (none) (n_X7_sized_6 (f_X7_sized_6 F F.1) ls st u) (Nat.beq t 6)
set_option maxRecDepth 100000 in
theorem g_X7_sized_6 (F : Nat × Nat) (f : Nat) (x0 : Nat) (x1 : Int64) (x3 : Int32) (x4 : Int32) (x5 : Int32) (u : Option rx_H) : f_X7_sized_6 F (f + 1) x0 x1 x3 x4 x5 u = rx_node (C_X7_sized F) rx_hI t_X7_sized [6] (kk_X7_sized_6 F (f_X7_sized_6 F f)) 29 6 [some (.ref x0), some (.long x1), none, some (.int x3), some (.int x4), some (.int x5)] [] u := rfl
set_option maxRecDepth 100000 in
theorem g_X7_sized_0 (F : Nat × Nat) (x0 : Nat) (x1 : Int64) (x3 : Int32) (u : Option rx_H) : f_X7_sized_0 F x0 x1 x3 u = rx_node (C_X7_sized F) rx_hI t_X7_sized [6] (kk_X7_sized_0 F) 29 0 [some (.ref x0), some (.long x1), none, some (.int x3), none, none] [] u := rfl
def f_X7_count_0 (F : Nat × Nat) (x0 : Nat) (x1 : Int32) (x2 : Int32) (u : Option rx_H) : Option (Int32 × Option rx_H) :=
  (f_X7_isPlace F x1).bind fun v1 =>
  if v1 = 0 then
    some ((-1 : Int32), u)
  else
    (f_X7_isIn F x2 (0 : Int32) (9 : Int32)).bind fun v2 =>
    if v2 = 0 then
      some ((-1 : Int32), u)
    else
      (rx_ck u x0 3).bind fun _ =>
      (f_X7_lacks F x0 x1 u).bind fun v3 =>
      if v3.1 = 0 then
        if x2 = 0 then
          (rx_gR v3.2 x0 3 5).bind fun v4 =>
          (rx_aJ v3.2 v4 x1).bind fun v5 =>
          (f_X7_many F v5).bind fun v6 =>
          some (v6, v3.2)
        else
          if x2 = (1 : Int32) then
            (rx_gR v3.2 x0 3 3).bind fun v7 =>
            (rx_aI v3.2 v7 x1).bind fun v8 =>
            if v8 = (2 : Int32) then
              (rx_gR v3.2 x0 3 4).bind fun v9 =>
              (rx_aI v3.2 v9 x1).bind fun v10 =>
              some (v10, v3.2)
            else
              (rx_gR v3.2 x0 3 3).bind fun v11 =>
              (rx_aI v3.2 v11 x1).bind fun v12 =>
              if v12 = (4 : Int32) then
                (rx_gR v3.2 x0 3 4).bind fun v13 =>
                (rx_aI v3.2 v13 x1).bind fun v14 =>
                some (v14, v3.2)
              else
                (rx_gR v3.2 x0 3 3).bind fun v15 =>
                (rx_aI v3.2 v15 x1).bind fun v16 =>
                if v16 = (5 : Int32) then
                  (rx_gR v3.2 x0 3 4).bind fun v17 =>
                  (rx_aI v3.2 v17 x1).bind fun v18 =>
                  some (v18, v3.2)
                else
                  some ((-2 : Int32), v3.2)
          else
            if x2 = (2 : Int32) then
              (rx_gR v3.2 x0 3 3).bind fun v19 =>
              (rx_aI v3.2 v19 x1).bind fun v20 =>
              if v20 = (5 : Int32) then
                (rx_gR v3.2 x0 3 6).bind fun v21 =>
                (rx_aJ v3.2 v21 x1).bind fun v22 =>
                (f_X7_many F v22).bind fun v23 =>
                some (v23, v3.2)
              else
                some ((-2 : Int32), v3.2)
            else
              (rx_gR v3.2 x0 3 5).bind fun v24 =>
              (rx_aJ v3.2 v24 x1).bind fun v25 =>
              (rx_ck v3.2 x0 3).bind fun _ =>
              (f_X7_sized F x0 v25 (x2 - (3 : Int32)) v3.2).bind fun v26 =>
              some (v26.1, v26.2)
      else
        (rx_ck v3.2 x0 3).bind fun _ =>
        (f_X7_lacks F x0 x1 v3.2).bind fun v27 =>
        some (v27.1, v27.2)
def f_X7_count (F : Nat × Nat) (x0 : Nat) (x1 : Int32) (x2 : Int32) (u : Option rx_H) : Option (Int32 × Option rx_H) := f_X7_count_0 F x0 x1 x2 u
def c_X7_count {α : Type} (F : Nat × Nat) (as : List Value) (u : Option rx_H) (κ : rx_K α) : Option α := match as with
  | [.ref a0, .int a1, .int a2] => (f_X7_count F a0 a1 a2 u).bind fun r => κ (some (.int r.1)) r.2
  | _ => none
noncomputable def C_X7_count {α : Type} (F : Nat × Nat) : rx_Cl α := fun j as u κ => Bool.rec (motive := fun _ => Option α) (Bool.rec (motive := fun _ => Option α) (Bool.rec (motive := fun _ => Option α) (Bool.rec (motive := fun _ => Option α) (Bool.rec (motive := fun _ => Option α) (none) (c_X7_sized F as u κ) (Nat.beq j 209)) (c_X7_many F as u κ) (Nat.beq j 184)) (c_X7_lacks F as u κ) (Nat.beq j 179)) (c_X7_isPlace F as u κ) (Nat.beq j 173)) (c_X7_isIn F as u κ) (Nat.beq j 171)
def t_X7_count : List rx_E := [
  (0, .iload_n 1, 1, 0, 0, 0, 0, 0, []),
  (1, .invokestatic 62, 3, 173, 1, 803, 0, 0, []),
  (4, .ifCond .eq 13, 3, 17, 0, 0, 0, 0, []),
  (7, .iload_n 2, 1, 0, 0, 0, 0, 0, []),
  (8, .iconst 0, 1, 0, 0, 0, 0, 0, []),
  (9, .bipush 9, 2, 0, 0, 0, 9, 0, []),
  (11, .invokestatic 54, 3, 171, 3, 806, 0, 0, []),
  (14, .ifCond .ne 5, 3, 19, 0, 0, 0, 0, []),
  (17, .iconst (-1), 1, 0, 0, 0, (-1), 0, []),
  (18, .ireturn, 1, 0, 0, 0, 0, 0, []),
  (19, .aload_n 0, 1, 0, 0, 0, 0, 0, []),
  (20, .iload_n 1, 1, 0, 0, 0, 0, 0, []),
  (21, .invokevirtual 74, 3, 179, 302, 824, 0, 0, []),
  (24, .ifCond .eq 9, 3, 33, 0, 0, 0, 0, []),
  (27, .aload_n 0, 1, 0, 0, 0, 0, 0, []),
  (28, .iload_n 1, 1, 0, 0, 0, 0, 0, []),
  (29, .invokevirtual 74, 3, 179, 302, 824, 0, 0, []),
  (32, .ireturn, 1, 0, 0, 0, 0, 0, []),
  (33, .iload_n 2, 1, 0, 0, 0, 0, 0, []),
  (34, .ifCond .ne 13, 3, 47, 0, 0, 0, 0, []),
  (37, .aload_n 0, 1, 0, 0, 0, 0, 0, []),
  (38, .getfield 20, 3, 3, 22, 758, 0, 0, []),
  (41, .iload_n 1, 1, 0, 0, 0, 0, 0, []),
  (42, .laload, 1, 0, 0, 0, 0, 0, []),
  (43, .invokestatic 58, 3, 184, 1, 817, 0, 0, []),
  (46, .ireturn, 1, 0, 0, 0, 0, 0, []),
  (47, .iload_n 2, 1, 0, 0, 0, 0, 0, []),
  (48, .iconst 1, 1, 0, 0, 0, 1, 0, []),
  (49, .if_icmp .ne 45, 3, 94, 0, 0, 0, 0, []),
  (52, .aload_n 0, 1, 0, 0, 0, 0, 0, []),
  (53, .getfield 13, 3, 3, 14, 756, 0, 0, []),
  (56, .iload_n 1, 1, 0, 0, 0, 0, 0, []),
  (57, .iaload, 1, 0, 0, 0, 0, 0, []),
  (58, .iconst 2, 1, 0, 0, 0, 2, 0, []),
  (59, .if_icmp .eq 23, 3, 82, 0, 0, 0, 0, []),
  (62, .aload_n 0, 1, 0, 0, 0, 0, 0, []),
  (63, .getfield 13, 3, 3, 14, 756, 0, 0, []),
  (66, .iload_n 1, 1, 0, 0, 0, 0, 0, []),
  (67, .iaload, 1, 0, 0, 0, 0, 0, []),
  (68, .iconst 4, 1, 0, 0, 0, 4, 0, []),
  (69, .if_icmp .eq 13, 3, 82, 0, 0, 0, 0, []),
  (72, .aload_n 0, 1, 0, 0, 0, 0, 0, []),
  (73, .getfield 13, 3, 3, 14, 756, 0, 0, []),
  (76, .iload_n 1, 1, 0, 0, 0, 0, 0, []),
  (77, .iaload, 1, 0, 0, 0, 0, 0, []),
  (78, .iconst 5, 1, 0, 0, 0, 5, 0, []),
  (79, .if_icmp .ne 12, 3, 91, 0, 0, 0, 0, []),
  (82, .aload_n 0, 1, 0, 0, 0, 0, 0, []),
  (83, .getfield 17, 3, 3, 18, 757, 0, 0, []),
  (86, .iload_n 1, 1, 0, 0, 0, 0, 0, []),
  (87, .iaload, 1, 0, 0, 0, 0, 0, []),
  (88, .goto 5, 3, 93, 0, 0, 0, 0, []),
  (91, .bipush (-2), 2, 0, 0, 0, (-2), 0, []),
  (93, .ireturn, 1, 0, 0, 0, 0, 0, []),
  (94, .iload_n 2, 1, 0, 0, 0, 0, 0, []),
  (95, .iconst 2, 1, 0, 0, 0, 2, 0, []),
  (96, .if_icmp .ne 28, 3, 124, 0, 0, 0, 0, []),
  (99, .aload_n 0, 1, 0, 0, 0, 0, 0, []),
  (100, .getfield 13, 3, 3, 14, 756, 0, 0, []),
  (103, .iload_n 1, 1, 0, 0, 0, 0, 0, []),
  (104, .iaload, 1, 0, 0, 0, 0, 0, []),
  (105, .iconst 5, 1, 0, 0, 0, 5, 0, []),
  (106, .if_icmp .ne 15, 3, 121, 0, 0, 0, 0, []),
  (109, .aload_n 0, 1, 0, 0, 0, 0, 0, []),
  (110, .getfield 24, 3, 3, 26, 759, 0, 0, []),
  (113, .iload_n 1, 1, 0, 0, 0, 0, 0, []),
  (114, .laload, 1, 0, 0, 0, 0, 0, []),
  (115, .invokestatic 58, 3, 184, 1, 817, 0, 0, []),
  (118, .goto 5, 3, 123, 0, 0, 0, 0, []),
  (121, .bipush (-2), 2, 0, 0, 0, (-2), 0, []),
  (123, .ireturn, 1, 0, 0, 0, 0, 0, []),
  (124, .aload_n 0, 1, 0, 0, 0, 0, 0, []),
  (125, .aload_n 0, 1, 0, 0, 0, 0, 0, []),
  (126, .getfield 20, 3, 3, 22, 758, 0, 0, []),
  (129, .iload_n 1, 1, 0, 0, 0, 0, 0, []),
  (130, .laload, 1, 0, 0, 0, 0, 0, []),
  (131, .iload_n 2, 1, 0, 0, 0, 0, 0, []),
  (132, .iconst 3, 1, 0, 0, 0, 3, 0, []),
  (133, .isub, 1, 0, 0, 0, 0, 0, []),
  (134, .invokevirtual 104, 3, 209, 303, 877, 0, 0, []),
  (137, .ireturn, 1, 0, 0, 0, 0, 0, [])]
noncomputable def kk_X7_count_0 (F : Nat × Nat) : Nat → rx_L → List Value → Option rx_H → Option (Int32 × Option rx_H) := fun t ls st u => none
set_option maxRecDepth 100000 in
theorem g_X7_count_0 (F : Nat × Nat) (x0 : Nat) (x1 : Int32) (x2 : Int32) (u : Option rx_H) : f_X7_count_0 F x0 x1 x2 u = rx_node (C_X7_count F) rx_hI t_X7_count [] (kk_X7_count_0 F) 84 0 [some (.ref x0), some (.int x1), some (.int x2)] [] u := rfl
def f_X7_has__0 (F : Nat × Nat) (x0 : Nat) (x1 : Int32) (x2 : Int32) (u : Option rx_H) : Option (Int32 × Option rx_H) :=
  (f_X7_isPlace F x1).bind fun v1 =>
  if v1 = 0 then
    some ((-1 : Int32), u)
  else
    (rx_ck u x0 3).bind fun _ =>
    (f_X7_isSet F x0 x2 u).bind fun v2 =>
    if v2.1 = 0 then
      some ((-1 : Int32), v2.2)
    else
      (rx_ck v2.2 x0 3).bind fun _ =>
      (f_X7_lacks F x0 x1 v2.2).bind fun v3 =>
      if v3.1 = 0 then
        (rx_gR v3.2 x0 3 5).bind fun v4 =>
        (rx_aJ v3.2 v4 x1).bind fun v5 =>
        (f_X7_has F v5 x2).bind fun v6 =>
        if v6 = 0 then
          some ((0 : Int32), v3.2)
        else
          some ((1 : Int32), v3.2)
      else
        (rx_ck v3.2 x0 3).bind fun _ =>
        (f_X7_lacks F x0 x1 v3.2).bind fun v7 =>
        some (v7.1, v7.2)
def f_X7_has_ (F : Nat × Nat) (x0 : Nat) (x1 : Int32) (x2 : Int32) (u : Option rx_H) : Option (Int32 × Option rx_H) := f_X7_has__0 F x0 x1 x2 u
def c_X7_has_ {α : Type} (F : Nat × Nat) (as : List Value) (u : Option rx_H) (κ : rx_K α) : Option α := match as with
  | [.ref a0, .int a1, .int a2] => (f_X7_has_ F a0 a1 a2 u).bind fun r => κ (some (.int r.1)) r.2
  | _ => none
noncomputable def C_X7_has_ {α : Type} (F : Nat × Nat) : rx_Cl α := fun j as u κ => Bool.rec (motive := fun _ => Option α) (Bool.rec (motive := fun _ => Option α) (Bool.rec (motive := fun _ => Option α) (Bool.rec (motive := fun _ => Option α) (none) (c_X7_lacks F as u κ) (Nat.beq j 179)) (c_X7_isSet F as u κ) (Nat.beq j 174)) (c_X7_isPlace F as u κ) (Nat.beq j 173)) (c_X7_has F as u κ) (Nat.beq j 163)
def t_X7_has_ : List rx_E := [
  (0, .iload_n 1, 1, 0, 0, 0, 0, 0, []),
  (1, .invokestatic 62, 3, 173, 1, 803, 0, 0, []),
  (4, .ifCond .eq 11, 3, 15, 0, 0, 0, 0, []),
  (7, .aload_n 0, 1, 0, 0, 0, 0, 0, []),
  (8, .iload_n 2, 1, 0, 0, 0, 0, 0, []),
  (9, .invokevirtual 96, 3, 174, 302, 832, 0, 0, []),
  (12, .ifCond .ne 5, 3, 17, 0, 0, 0, 0, []),
  (15, .iconst (-1), 1, 0, 0, 0, (-1), 0, []),
  (16, .ireturn, 1, 0, 0, 0, 0, 0, []),
  (17, .aload_n 0, 1, 0, 0, 0, 0, 0, []),
  (18, .iload_n 1, 1, 0, 0, 0, 0, 0, []),
  (19, .invokevirtual 74, 3, 179, 302, 824, 0, 0, []),
  (22, .ifCond .eq 11, 3, 33, 0, 0, 0, 0, []),
  (25, .aload_n 0, 1, 0, 0, 0, 0, 0, []),
  (26, .iload_n 1, 1, 0, 0, 0, 0, 0, []),
  (27, .invokevirtual 74, 3, 179, 302, 824, 0, 0, []),
  (30, .goto 21, 3, 51, 0, 0, 0, 0, []),
  (33, .aload_n 0, 1, 0, 0, 0, 0, 0, []),
  (34, .getfield 20, 3, 3, 22, 758, 0, 0, []),
  (37, .iload_n 1, 1, 0, 0, 0, 0, 0, []),
  (38, .laload, 1, 0, 0, 0, 0, 0, []),
  (39, .iload_n 2, 1, 0, 0, 0, 0, 0, []),
  (40, .invokestatic 78, 3, 163, 2, 850, 0, 0, []),
  (43, .ifCond .eq 7, 3, 50, 0, 0, 0, 0, []),
  (46, .iconst 1, 1, 0, 0, 0, 1, 0, []),
  (47, .goto 4, 3, 51, 0, 0, 0, 0, []),
  (50, .iconst 0, 1, 0, 0, 0, 0, 0, []),
  (51, .ireturn, 1, 0, 0, 0, 0, 0, [])]
noncomputable def kk_X7_has__0 (F : Nat × Nat) : Nat → rx_L → List Value → Option rx_H → Option (Int32 × Option rx_H) := fun t ls st u => none
set_option maxRecDepth 100000 in
theorem g_X7_has__0 (F : Nat × Nat) (x0 : Nat) (x1 : Int32) (x2 : Int32) (u : Option rx_H) : f_X7_has__0 F x0 x1 x2 u = rx_node (C_X7_has_ F) rx_hI t_X7_has_ [] (kk_X7_has__0 F) 31 0 [some (.ref x0), some (.int x1), some (.int x2)] [] u := rfl
def f_X7_set_32 (F : Nat × Nat) : Nat → Nat → Int32 → Int32 → Int32 → Option rx_H → Option (Int32 × Option rx_H)
  | 0, _, _, _, _, _ => none
  | f + 1, x0, x1, x3, x4, u =>
    (rx_gI u x0 3 2).bind fun v1 =>
    if x4 < v1 then
      (rx_gR u x0 3 5).bind fun v2 =>
      (rx_aJ u v2 x1).bind fun v3 =>
      (f_X7_has F v3 x4).bind fun v4 =>
      if v4 = 0 then
        (f_X7_set_32 F f) x0 x1 x3 (x4 + 1) u
      else
        if x3 = 0 then
          some (x4, u)
        else
          (f_X7_set_32 F f) x0 x1 (x3 + (-1)) (x4 + 1) u
    else
      some ((-2 : Int32), u)
def f_X7_set_0 (F : Nat × Nat) (x0 : Nat) (x1 : Int32) (x2 : Int32) (u : Option rx_H) : Option (Int32 × Option rx_H) :=
  (f_X7_isPlace F x1).bind fun v1 =>
  if v1 = 0 then
    some ((-1 : Int32), u)
  else
    if x2 < 0 then
      some ((-1 : Int32), u)
    else
      (rx_ck u x0 3).bind fun _ =>
      (f_X7_lacks F x0 x1 u).bind fun v2 =>
      if v2.1 = 0 then
        f_X7_set_32 F F.1 x0 x1 x2 (0 : Int32) v2.2
      else
        (rx_ck v2.2 x0 3).bind fun _ =>
        (f_X7_lacks F x0 x1 v2.2).bind fun v3 =>
        some (v3.1, v3.2)
def f_X7_set (F : Nat × Nat) (x0 : Nat) (x1 : Int32) (x2 : Int32) (u : Option rx_H) : Option (Int32 × Option rx_H) := f_X7_set_0 F x0 x1 x2 u
def c_X7_set {α : Type} (F : Nat × Nat) (as : List Value) (u : Option rx_H) (κ : rx_K α) : Option α := match as with
  | [.ref a0, .int a1, .int a2] => (f_X7_set F a0 a1 a2 u).bind fun r => κ (some (.int r.1)) r.2
  | _ => none
noncomputable def C_X7_set {α : Type} (F : Nat × Nat) : rx_Cl α := fun j as u κ => Bool.rec (motive := fun _ => Option α) (Bool.rec (motive := fun _ => Option α) (Bool.rec (motive := fun _ => Option α) (none) (c_X7_lacks F as u κ) (Nat.beq j 179)) (c_X7_isPlace F as u κ) (Nat.beq j 173)) (c_X7_has F as u κ) (Nat.beq j 163)
def t_X7_set : List rx_E := [
  (0, .iload_n 1, 1, 0, 0, 0, 0, 0, []),
  (1, .invokestatic 62, 3, 173, 1, 803, 0, 0, []),
  (4, .ifCond .eq 7, 3, 11, 0, 0, 0, 0, []),
  (7, .iload_n 2, 1, 0, 0, 0, 0, 0, []),
  (8, .ifCond .ge 5, 3, 13, 0, 0, 0, 0, []),
  (11, .iconst (-1), 1, 0, 0, 0, (-1), 0, []),
  (12, .ireturn, 1, 0, 0, 0, 0, 0, []),
  (13, .aload_n 0, 1, 0, 0, 0, 0, 0, []),
  (14, .iload_n 1, 1, 0, 0, 0, 0, 0, []),
  (15, .invokevirtual 74, 3, 179, 302, 824, 0, 0, []),
  (18, .ifCond .eq 9, 3, 27, 0, 0, 0, 0, []),
  (21, .aload_n 0, 1, 0, 0, 0, 0, 0, []),
  (22, .iload_n 1, 1, 0, 0, 0, 0, 0, []),
  (23, .invokevirtual 74, 3, 179, 302, 824, 0, 0, []),
  (26, .ireturn, 1, 0, 0, 0, 0, 0, []),
  (27, .iload_n 2, 1, 0, 0, 0, 0, 0, []),
  (28, .istore_n 3, 1, 0, 0, 0, 0, 0, []),
  (29, .iconst 0, 1, 0, 0, 0, 0, 0, []),
  (30, .istore 4, 2, 0, 0, 0, 0, 0, []),
  (32, .iload 4, 2, 0, 0, 0, 0, 0, []),
  (34, .aload_n 0, 1, 0, 0, 0, 0, 0, []),
  (35, .getfield 51, 3, 3, 8, 755, 0, 0, []),
  (38, .if_icmp .ge 36, 3, 74, 0, 0, 0, 0, []),
  (41, .aload_n 0, 1, 0, 0, 0, 0, 0, []),
  (42, .getfield 20, 3, 3, 22, 758, 0, 0, []),
  (45, .iload_n 1, 1, 0, 0, 0, 0, 0, []),
  (46, .laload, 1, 0, 0, 0, 0, 0, []),
  (47, .iload 4, 2, 0, 0, 0, 0, 0, []),
  (49, .invokestatic 78, 3, 163, 2, 850, 0, 0, []),
  (52, .ifCond .ne 6, 3, 58, 0, 0, 0, 0, []),
  (55, .goto 13, 3, 68, 0, 0, 0, 0, []),
  (58, .iload_n 3, 1, 0, 0, 0, 0, 0, []),
  (59, .ifCond .ne 6, 3, 65, 0, 0, 0, 0, []),
  (62, .iload 4, 2, 0, 0, 0, 0, 0, []),
  (64, .ireturn, 1, 0, 0, 0, 0, 0, []),
  (65, .iinc 3 (-1), 3, 0, 0, 0, (-1), 0, []),
  (68, .iinc 4 1, 3, 0, 0, 0, 1, 0, []),
  (71, .goto (-39), 3, 32, 0, 0, 0, 0, []),
  (74, .bipush (-2), 2, 0, 0, 0, (-2), 0, []),
  (76, .ireturn, 1, 0, 0, 0, 0, 0, [])]
def n_X7_set_32 (k32 : Nat → Int32 → Int32 → Int32 → Option rx_H → Option (Int32 × Option rx_H)) (ls : rx_L) (st : List Value) (u : Option rx_H) : Option (Int32 × Option rx_H) := match ls, st, u with
  | [some (.ref x0), some (.int x1), _, some (.int x3), some (.int x4)], [], u => k32 x0 x1 x3 x4 u
  | _, _, _ => none
noncomputable def kk_X7_set_32 (F : Nat × Nat) (k32 : Nat → Int32 → Int32 → Int32 → Option rx_H → Option (Int32 × Option rx_H)) : Nat → rx_L → List Value → Option rx_H → Option (Int32 × Option rx_H) := fun t ls st u => Bool.rec (motive := fun _ => Option (Int32 × Option rx_H)) (none) (n_X7_set_32 k32 ls st u) (Nat.beq t 32)
noncomputable def kk_X7_set_0 (F : Nat × Nat) : Nat → rx_L → List Value → Option rx_H → Option (Int32 × Option rx_H) := fun t ls st u => Bool.rec (motive := fun _ => Option (Int32 × Option rx_H)) (none) (n_X7_set_32 (f_X7_set_32 F F.1) ls st u) (Nat.beq t 32)
set_option maxRecDepth 100000 in
theorem g_X7_set_32 (F : Nat × Nat) (f : Nat) (x0 : Nat) (x1 : Int32) (x3 : Int32) (x4 : Int32) (u : Option rx_H) : f_X7_set_32 F (f + 1) x0 x1 x3 x4 u = rx_node (C_X7_set F) rx_hI t_X7_set [32] (kk_X7_set_32 F (f_X7_set_32 F f)) 43 32 [some (.ref x0), some (.int x1), none, some (.int x3), some (.int x4)] [] u := rfl
set_option maxRecDepth 100000 in
theorem g_X7_set_0 (F : Nat × Nat) (x0 : Nat) (x1 : Int32) (x2 : Int32) (u : Option rx_H) : f_X7_set_0 F x0 x1 x2 u = rx_node (C_X7_set F) rx_hI t_X7_set [32] (kk_X7_set_0 F) 43 0 [some (.ref x0), some (.int x1), some (.int x2), none, none] [] u := rfl
def f_X7_is_166 (F : Nat × Nat) (x0 : Nat) (x6 : Int32) (x7 : Int32) (x8 : Int32) (u : Option rx_H) : Option (Int32 × Option rx_H) :=
  if x8 = 0 then
    (rx_p u x0 3 9 (.int (x7 + ((64 : Int32) * x6)))).bind fun v1 =>
    some ((0 : Int32), v1)
  else
    (rx_p u x0 3 9 (.int (x6 + ((64 : Int32) * x7)))).bind fun v2 =>
    some ((0 : Int32), v2)
def f_X7_is_151 (F : Nat × Nat) (k43 : Nat → Int32 → Int32 → Int64 → Int32 → Option rx_H → Option (Int32 × Option rx_H)) (k68 : Nat → Int32 → Int32 → Int64 → Int32 → Int32 → Option rx_H → Option (Int32 × Option rx_H)) (x0 : Nat) (x2 : Int32) (x3 : Int32) (x4 : Int64) (x6 : Int32) (x7 : Int32) (x8 : Int32) (s0 : Int32) (u : Option rx_H) : Option (Int32 × Option rx_H) :=
  if x8 = 0 then
    if s0 = 0 then
      k68 x0 x2 x3 x4 x6 (x7 + 1) u
    else
      f_X7_is_166 F x0 x6 x7 x8 u
  else
    f_X7_is_166 F x0 x6 x7 x8 u
def f_X7_is_119 (F : Nat × Nat) (k43 : Nat → Int32 → Int32 → Int64 → Int32 → Option rx_H → Option (Int32 × Option rx_H)) (k68 : Nat → Int32 → Int32 → Int64 → Int32 → Int32 → Option rx_H → Option (Int32 × Option rx_H)) (x0 : Nat) (x2 : Int32) (x3 : Int32) (x4 : Int64) (x6 : Int32) (x7 : Int32) (s0 : Int32) (u : Option rx_H) : Option (Int32 × Option rx_H) :=
  if x2 = (3 : Int32) then
    (f_X7_isWithin F x7 x6).bind fun v1 =>
    if v1 = 0 then
      f_X7_is_151 F k43 k68 x0 x2 x3 x4 x6 x7 s0 (0 : Int32) u
    else
      (f_X7_has F x4 x7).bind fun v2 =>
      if v2 = 0 then
        f_X7_is_151 F k43 k68 x0 x2 x3 x4 x6 x7 s0 (1 : Int32) u
      else
        f_X7_is_151 F k43 k68 x0 x2 x3 x4 x6 x7 s0 (0 : Int32) u
  else
    f_X7_is_151 F k43 k68 x0 x2 x3 x4 x6 x7 s0 (0 : Int32) u
def f_X7_is_68 (F : Nat × Nat) (k43 : Nat → Int32 → Int32 → Int64 → Int32 → Option rx_H → Option (Int32 × Option rx_H)) : Nat → Nat → Int32 → Int32 → Int64 → Int32 → Int32 → Option rx_H → Option (Int32 × Option rx_H)
  | 0, _, _, _, _, _, _, _ => none
  | f + 1, x0, x2, x3, x4, x6, x7, u =>
    (rx_gI u x0 3 2).bind fun v1 =>
    if x7 < v1 then
      if x2 = (3 : Int32) then
        f_X7_is_119 F k43 (f_X7_is_68 F k43 f) x0 x2 x3 x4 x6 x7 (0 : Int32) u
      else
        if x7 < x6 then
          f_X7_is_119 F k43 (f_X7_is_68 F k43 f) x0 x2 x3 x4 x6 x7 (0 : Int32) u
        else
          (f_X7_has F x4 x7).bind fun v2 =>
          if v2 = 0 then
            f_X7_is_119 F k43 (f_X7_is_68 F k43 f) x0 x2 x3 x4 x6 x7 (0 : Int32) u
          else
            (rx_ck u x0 3).bind fun _ =>
            (f_X7_goes F x0 x4 x6 x7 x2 x3).bind fun v3 =>
            if v3 = 0 then
              f_X7_is_119 F k43 (f_X7_is_68 F k43 f) x0 x2 x3 x4 x6 x7 (1 : Int32) u
            else
              f_X7_is_119 F k43 (f_X7_is_68 F k43 f) x0 x2 x3 x4 x6 x7 (0 : Int32) u
    else
      k43 x0 x2 x3 x4 (x6 + 1) u
def f_X7_is_43 (F : Nat × Nat) : Nat → Nat → Int32 → Int32 → Int64 → Int32 → Option rx_H → Option (Int32 × Option rx_H)
  | 0, _, _, _, _, _, _ => none
  | f + 1, x0, x2, x3, x4, x6, u =>
    (rx_gI u x0 3 2).bind fun v1 =>
    if x6 < v1 then
      (f_X7_has F x4 x6).bind fun v2 =>
      if v2 = 0 then
        (f_X7_is_43 F f) x0 x2 x3 x4 (x6 + 1) u
      else
        f_X7_is_68 F (f_X7_is_43 F f) F.1 x0 x2 x3 x4 x6 (0 : Int32) u
    else
      some ((1 : Int32), u)
def f_X7_is_0 (F : Nat × Nat) (x0 : Nat) (x1 : Int32) (x2 : Int32) (x3 : Int32) (u : Option rx_H) : Option (Int32 × Option rx_H) :=
  (f_X7_isPlace F x1).bind fun v1 =>
  if v1 = 0 then
    some ((-1 : Int32), u)
  else
    (rx_ck u x0 3).bind fun _ =>
    (f_X7_isKind F x0 x2 x3 u).bind fun v2 =>
    if v2.1 = 0 then
      some ((-1 : Int32), v2.2)
    else
      (rx_ck v2.2 x0 3).bind fun _ =>
      (f_X7_lacks F x0 x1 v2.2).bind fun v3 =>
      if v3.1 = 0 then
        (rx_gR v3.2 x0 3 5).bind fun v4 =>
        (rx_aJ v3.2 v4 x1).bind fun v5 =>
        f_X7_is_43 F F.1 x0 x2 x3 v5 (0 : Int32) v3.2
      else
        (rx_ck v3.2 x0 3).bind fun _ =>
        (f_X7_lacks F x0 x1 v3.2).bind fun v6 =>
        some (v6.1, v6.2)
def f_X7_is (F : Nat × Nat) (x0 : Nat) (x1 : Int32) (x2 : Int32) (x3 : Int32) (u : Option rx_H) : Option (Int32 × Option rx_H) := f_X7_is_0 F x0 x1 x2 x3 u
def c_X7_is {α : Type} (F : Nat × Nat) (as : List Value) (u : Option rx_H) (κ : rx_K α) : Option α := match as with
  | [.ref a0, .int a1, .int a2, .int a3] => (f_X7_is F a0 a1 a2 a3 u).bind fun r => κ (some (.int r.1)) r.2
  | _ => none
noncomputable def C_X7_is {α : Type} (F : Nat × Nat) : rx_Cl α := fun j as u κ => Bool.rec (motive := fun _ => Option α) (Bool.rec (motive := fun _ => Option α) (Bool.rec (motive := fun _ => Option α) (Bool.rec (motive := fun _ => Option α) (Bool.rec (motive := fun _ => Option α) (Bool.rec (motive := fun _ => Option α) (none) (c_X7_lacks F as u κ) (Nat.beq j 179)) (c_X7_isWithin F as u κ) (Nat.beq j 177)) (c_X7_isPlace F as u κ) (Nat.beq j 173)) (c_X7_isKind F as u κ) (Nat.beq j 172)) (c_X7_has F as u κ) (Nat.beq j 163)) (c_X7_goes F as u κ) (Nat.beq j 160)
def t_X7_is : List rx_E := [
  (0, .iload_n 1, 1, 0, 0, 0, 0, 0, []),
  (1, .invokestatic 62, 3, 173, 1, 803, 0, 0, []),
  (4, .ifCond .eq 12, 3, 16, 0, 0, 0, 0, []),
  (7, .aload_n 0, 1, 0, 0, 0, 0, 0, []),
  (8, .iload_n 2, 1, 0, 0, 0, 0, 0, []),
  (9, .iload_n 3, 1, 0, 0, 0, 0, 0, []),
  (10, .invokevirtual 66, 3, 172, 303, 809, 0, 0, []),
  (13, .ifCond .ne 5, 3, 18, 0, 0, 0, 0, []),
  (16, .iconst (-1), 1, 0, 0, 0, (-1), 0, []),
  (17, .ireturn, 1, 0, 0, 0, 0, 0, []),
  (18, .aload_n 0, 1, 0, 0, 0, 0, 0, []),
  (19, .iload_n 1, 1, 0, 0, 0, 0, 0, []),
  (20, .invokevirtual 74, 3, 179, 302, 824, 0, 0, []),
  (23, .ifCond .eq 9, 3, 32, 0, 0, 0, 0, []),
  (26, .aload_n 0, 1, 0, 0, 0, 0, 0, []),
  (27, .iload_n 1, 1, 0, 0, 0, 0, 0, []),
  (28, .invokevirtual 74, 3, 179, 302, 824, 0, 0, []),
  (31, .ireturn, 1, 0, 0, 0, 0, 0, []),
  (32, .aload_n 0, 1, 0, 0, 0, 0, 0, []),
  (33, .getfield 20, 3, 3, 22, 758, 0, 0, []),
  (36, .iload_n 1, 1, 0, 0, 0, 0, 0, []),
  (37, .laload, 1, 0, 0, 0, 0, 0, []),
  (38, .lstore 4, 2, 0, 0, 0, 0, 0, []),
  (40, .iconst 0, 1, 0, 0, 0, 0, 0, []),
  (41, .istore 6, 2, 0, 0, 0, 0, 0, []),
  (43, .iload 6, 2, 0, 0, 0, 0, 0, []),
  (45, .aload_n 0, 1, 0, 0, 0, 0, 0, []),
  (46, .getfield 51, 3, 3, 8, 755, 0, 0, []),
  (49, .if_icmp .ge 159, 3, 208, 0, 0, 0, 0, []),
  (52, .lload 4, 2, 0, 0, 0, 0, 0, []),
  (54, .iload 6, 2, 0, 0, 0, 0, 0, []),
  (56, .invokestatic 78, 3, 163, 2, 850, 0, 0, []),
  (59, .ifCond .ne 6, 3, 65, 0, 0, 0, 0, []),
  (62, .goto 140, 3, 202, 0, 0, 0, 0, []),
  (65, .iconst 0, 1, 0, 0, 0, 0, 0, []),
  (66, .istore 7, 2, 0, 0, 0, 0, 0, []),
  (68, .iload 7, 2, 0, 0, 0, 0, 0, []),
  (70, .aload_n 0, 1, 0, 0, 0, 0, 0, []),
  (71, .getfield 51, 3, 3, 8, 755, 0, 0, []),
  (74, .if_icmp .ge 128, 3, 202, 0, 0, 0, 0, []),
  (77, .iload_n 2, 1, 0, 0, 0, 0, 0, []),
  (78, .iconst 3, 1, 0, 0, 0, 3, 0, []),
  (79, .if_icmp .eq 39, 3, 118, 0, 0, 0, 0, []),
  (82, .iload 7, 2, 0, 0, 0, 0, 0, []),
  (84, .iload 6, 2, 0, 0, 0, 0, 0, []),
  (86, .if_icmp .lt 32, 3, 118, 0, 0, 0, 0, []),
  (89, .lload 4, 2, 0, 0, 0, 0, 0, []),
  (91, .iload 7, 2, 0, 0, 0, 0, 0, []),
  (93, .invokestatic 78, 3, 163, 2, 850, 0, 0, []),
  (96, .ifCond .eq 22, 3, 118, 0, 0, 0, 0, []),
  (99, .aload_n 0, 1, 0, 0, 0, 0, 0, []),
  (100, .lload 4, 2, 0, 0, 0, 0, 0, []),
  (102, .iload 6, 2, 0, 0, 0, 0, 0, []),
  (104, .iload 7, 2, 0, 0, 0, 0, 0, []),
  (106, .iload_n 2, 1, 0, 0, 0, 0, 0, []),
  (107, .iload_n 3, 1, 0, 0, 0, 0, 0, []),
  (108, .invokevirtual 108, 3, 160, 306, 893, 0, 0, []),
  (111, .ifCond .ne 7, 3, 118, 0, 0, 0, 0, []),
  (114, .iconst 1, 1, 0, 0, 0, 1, 0, []),
  (115, .goto 4, 3, 119, 0, 0, 0, 0, []),
  (118, .iconst 0, 1, 0, 0, 0, 0, 0, []),
  (119, .istore 8, 2, 0, 0, 0, 0, 0, []),
  (121, .iload_n 2, 1, 0, 0, 0, 0, 0, []),
  (122, .iconst 3, 1, 0, 0, 0, 3, 0, []),
  (123, .if_icmp .ne 27, 3, 150, 0, 0, 0, 0, []),
  (126, .iload 7, 2, 0, 0, 0, 0, 0, []),
  (128, .iload 6, 2, 0, 0, 0, 0, 0, []),
  (130, .invokestatic 89, 3, 177, 2, 853, 0, 0, []),
  (133, .ifCond .eq 17, 3, 150, 0, 0, 0, 0, []),
  (136, .lload 4, 2, 0, 0, 0, 0, 0, []),
  (138, .iload 7, 2, 0, 0, 0, 0, 0, []),
  (140, .invokestatic 78, 3, 163, 2, 850, 0, 0, []),
  (143, .ifCond .ne 7, 3, 150, 0, 0, 0, 0, []),
  (146, .iconst 1, 1, 0, 0, 0, 1, 0, []),
  (147, .goto 4, 3, 151, 0, 0, 0, 0, []),
  (150, .iconst 0, 1, 0, 0, 0, 0, 0, []),
  (151, .istore 9, 2, 0, 0, 0, 0, 0, []),
  (153, .iload 8, 2, 0, 0, 0, 0, 0, []),
  (155, .ifCond .ne 11, 3, 166, 0, 0, 0, 0, []),
  (158, .iload 9, 2, 0, 0, 0, 0, 0, []),
  (160, .ifCond .ne 6, 3, 166, 0, 0, 0, 0, []),
  (163, .goto 33, 3, 196, 0, 0, 0, 0, []),
  (166, .aload_n 0, 1, 0, 0, 0, 0, 0, []),
  (167, .iload 8, 2, 0, 0, 0, 0, 0, []),
  (169, .ifCond .eq 14, 3, 183, 0, 0, 0, 0, []),
  (172, .iload 6, 2, 0, 0, 0, 0, 0, []),
  (174, .bipush 64, 2, 0, 0, 0, 64, 0, []),
  (176, .iload 7, 2, 0, 0, 0, 0, 0, []),
  (178, .imul, 1, 0, 0, 0, 0, 0, []),
  (179, .iadd, 1, 0, 0, 0, 0, 0, []),
  (180, .goto 11, 3, 191, 0, 0, 0, 0, []),
  (183, .iload 7, 2, 0, 0, 0, 0, 0, []),
  (185, .bipush 64, 2, 0, 0, 0, 64, 0, []),
  (187, .iload 6, 2, 0, 0, 0, 0, 0, []),
  (189, .imul, 1, 0, 0, 0, 0, 0, []),
  (190, .iadd, 1, 0, 0, 0, 0, 0, []),
  (191, .putfield 33, 3, 3, 36, 762, 0, 0, []),
  (194, .iconst 0, 1, 0, 0, 0, 0, 0, []),
  (195, .ireturn, 1, 0, 0, 0, 0, 0, []),
  (196, .iinc 7 1, 3, 0, 0, 0, 1, 0, []),
  (199, .goto (-131), 3, 68, 0, 0, 0, 0, []),
  (202, .iinc 6 1, 3, 0, 0, 0, 1, 0, []),
  (205, .goto (-162), 3, 43, 0, 0, 0, 0, []),
  (208, .iconst 1, 1, 0, 0, 0, 1, 0, []),
  (209, .ireturn, 1, 0, 0, 0, 0, 0, [])]
def n_X7_is_43 (k43 : Nat → Int32 → Int32 → Int64 → Int32 → Option rx_H → Option (Int32 × Option rx_H)) (ls : rx_L) (st : List Value) (u : Option rx_H) : Option (Int32 × Option rx_H) := match ls, st, u with
  | [some (.ref x0), _, some (.int x2), some (.int x3), some (.long x4), _, some (.int x6), _, _, _], [], u => k43 x0 x2 x3 x4 x6 u
  | _, _, _ => none
def n_X7_is_68 (k68 : Nat → Int32 → Int32 → Int64 → Int32 → Int32 → Option rx_H → Option (Int32 × Option rx_H)) (ls : rx_L) (st : List Value) (u : Option rx_H) : Option (Int32 × Option rx_H) := match ls, st, u with
  | [some (.ref x0), _, some (.int x2), some (.int x3), some (.long x4), _, some (.int x6), some (.int x7), _, _], [], u => k68 x0 x2 x3 x4 x6 x7 u
  | _, _, _ => none
def n_X7_is_119 (F : Nat × Nat) (k43 : Nat → Int32 → Int32 → Int64 → Int32 → Option rx_H → Option (Int32 × Option rx_H)) (k68 : Nat → Int32 → Int32 → Int64 → Int32 → Int32 → Option rx_H → Option (Int32 × Option rx_H)) (ls : rx_L) (st : List Value) (u : Option rx_H) : Option (Int32 × Option rx_H) := match ls, st, u with
  | [some (.ref x0), _, some (.int x2), some (.int x3), some (.long x4), _, some (.int x6), some (.int x7), _, _], [.int s0], u => f_X7_is_119 F k43 k68 x0 x2 x3 x4 x6 x7 s0 u
  | _, _, _ => none
def n_X7_is_151 (F : Nat × Nat) (k43 : Nat → Int32 → Int32 → Int64 → Int32 → Option rx_H → Option (Int32 × Option rx_H)) (k68 : Nat → Int32 → Int32 → Int64 → Int32 → Int32 → Option rx_H → Option (Int32 × Option rx_H)) (ls : rx_L) (st : List Value) (u : Option rx_H) : Option (Int32 × Option rx_H) := match ls, st, u with
  | [some (.ref x0), _, some (.int x2), some (.int x3), some (.long x4), _, some (.int x6), some (.int x7), some (.int x8), _], [.int s0], u => f_X7_is_151 F k43 k68 x0 x2 x3 x4 x6 x7 x8 s0 u
  | _, _, _ => none
def n_X7_is_166 (F : Nat × Nat) (ls : rx_L) (st : List Value) (u : Option rx_H) : Option (Int32 × Option rx_H) := match ls, st, u with
  | [some (.ref x0), _, _, _, _, _, some (.int x6), some (.int x7), some (.int x8), _], [], u => f_X7_is_166 F x0 x6 x7 x8 u
  | _, _, _ => none
noncomputable def kk_X7_is_166 (F : Nat × Nat) : Nat → rx_L → List Value → Option rx_H → Option (Int32 × Option rx_H) := fun t ls st u => none
noncomputable def kk_X7_is_151 (F : Nat × Nat) (k43 : Nat → Int32 → Int32 → Int64 → Int32 → Option rx_H → Option (Int32 × Option rx_H)) (k68 : Nat → Int32 → Int32 → Int64 → Int32 → Int32 → Option rx_H → Option (Int32 × Option rx_H)) : Nat → rx_L → List Value → Option rx_H → Option (Int32 × Option rx_H) := fun t ls st u => Bool.rec (motive := fun _ => Option (Int32 × Option rx_H)) (Bool.rec (motive := fun _ => Option (Int32 × Option rx_H)) (none) (n_X7_is_166 F ls st u) (Nat.beq t 166)) (n_X7_is_68 k68 ls st u) (Nat.beq t 68)
noncomputable def kk_X7_is_119 (F : Nat × Nat) (k43 : Nat → Int32 → Int32 → Int64 → Int32 → Option rx_H → Option (Int32 × Option rx_H)) (k68 : Nat → Int32 → Int32 → Int64 → Int32 → Int32 → Option rx_H → Option (Int32 × Option rx_H)) : Nat → rx_L → List Value → Option rx_H → Option (Int32 × Option rx_H) := fun t ls st u => Bool.rec (motive := fun _ => Option (Int32 × Option rx_H)) (none) (n_X7_is_151 F k43 k68 ls st u) (Nat.beq t 151)
noncomputable def kk_X7_is_68 (F : Nat × Nat) (k43 : Nat → Int32 → Int32 → Int64 → Int32 → Option rx_H → Option (Int32 × Option rx_H)) (k68 : Nat → Int32 → Int32 → Int64 → Int32 → Int32 → Option rx_H → Option (Int32 × Option rx_H)) : Nat → rx_L → List Value → Option rx_H → Option (Int32 × Option rx_H) := fun t ls st u => Bool.rec (motive := fun _ => Option (Int32 × Option rx_H)) (Bool.rec (motive := fun _ => Option (Int32 × Option rx_H)) (none) (n_X7_is_119 F k43 k68 ls st u) (Nat.beq t 119)) (n_X7_is_43 k43 ls st u) (Nat.beq t 43)
noncomputable def kk_X7_is_43 (F : Nat × Nat) (k43 : Nat → Int32 → Int32 → Int64 → Int32 → Option rx_H → Option (Int32 × Option rx_H)) : Nat → rx_L → List Value → Option rx_H → Option (Int32 × Option rx_H) := fun t ls st u => Bool.rec (motive := fun _ => Option (Int32 × Option rx_H)) (Bool.rec (motive := fun _ => Option (Int32 × Option rx_H)) (none) (n_X7_is_68 (f_X7_is_68 F k43 F.1) ls st u) (Nat.beq t 68)) (n_X7_is_43 k43 ls st u) (Nat.beq t 43)
noncomputable def kk_X7_is_0 (F : Nat × Nat) : Nat → rx_L → List Value → Option rx_H → Option (Int32 × Option rx_H) := fun t ls st u => Bool.rec (motive := fun _ => Option (Int32 × Option rx_H)) (none) (n_X7_is_43 (f_X7_is_43 F F.1) ls st u) (Nat.beq t 43)
set_option maxRecDepth 100000 in
theorem g_X7_is_166 (F : Nat × Nat) (x0 : Nat) (x6 : Int32) (x7 : Int32) (x8 : Int32) (u : Option rx_H) : f_X7_is_166 F x0 x6 x7 x8 u = rx_node (C_X7_is F) rx_hI t_X7_is [43, 68, 119, 151, 166] (kk_X7_is_166 F) 108 166 [some (.ref x0), none, none, none, none, none, some (.int x6), some (.int x7), some (.int x8), none] [] u := rfl
set_option maxRecDepth 100000 in
theorem g_X7_is_151 (F : Nat × Nat) (k43 : Nat → Int32 → Int32 → Int64 → Int32 → Option rx_H → Option (Int32 × Option rx_H)) (k68 : Nat → Int32 → Int32 → Int64 → Int32 → Int32 → Option rx_H → Option (Int32 × Option rx_H)) (x0 : Nat) (x2 : Int32) (x3 : Int32) (x4 : Int64) (x6 : Int32) (x7 : Int32) (x8 : Int32) (s0 : Int32) (u : Option rx_H) : f_X7_is_151 F k43 k68 x0 x2 x3 x4 x6 x7 x8 s0 u = rx_node (C_X7_is F) rx_hI t_X7_is [43, 68, 119, 151, 166] (kk_X7_is_151 F k43 k68) 108 151 [some (.ref x0), none, some (.int x2), some (.int x3), some (.long x4), none, some (.int x6), some (.int x7), some (.int x8), none] [.int s0] u := rfl
set_option maxRecDepth 100000 in
theorem g_X7_is_119 (F : Nat × Nat) (k43 : Nat → Int32 → Int32 → Int64 → Int32 → Option rx_H → Option (Int32 × Option rx_H)) (k68 : Nat → Int32 → Int32 → Int64 → Int32 → Int32 → Option rx_H → Option (Int32 × Option rx_H)) (x0 : Nat) (x2 : Int32) (x3 : Int32) (x4 : Int64) (x6 : Int32) (x7 : Int32) (s0 : Int32) (u : Option rx_H) : f_X7_is_119 F k43 k68 x0 x2 x3 x4 x6 x7 s0 u = rx_node (C_X7_is F) rx_hI t_X7_is [43, 68, 119, 151, 166] (kk_X7_is_119 F k43 k68) 108 119 [some (.ref x0), none, some (.int x2), some (.int x3), some (.long x4), none, some (.int x6), some (.int x7), none, none] [.int s0] u := rfl
set_option maxRecDepth 100000 in
theorem g_X7_is_68 (F : Nat × Nat) (k43 : Nat → Int32 → Int32 → Int64 → Int32 → Option rx_H → Option (Int32 × Option rx_H)) (f : Nat) (x0 : Nat) (x2 : Int32) (x3 : Int32) (x4 : Int64) (x6 : Int32) (x7 : Int32) (u : Option rx_H) : f_X7_is_68 F k43 (f + 1) x0 x2 x3 x4 x6 x7 u = rx_node (C_X7_is F) rx_hI t_X7_is [43, 68, 119, 151, 166] (kk_X7_is_68 F k43 (f_X7_is_68 F k43 f)) 108 68 [some (.ref x0), none, some (.int x2), some (.int x3), some (.long x4), none, some (.int x6), some (.int x7), none, none] [] u := rfl
set_option maxRecDepth 100000 in
theorem g_X7_is_43 (F : Nat × Nat) (f : Nat) (x0 : Nat) (x2 : Int32) (x3 : Int32) (x4 : Int64) (x6 : Int32) (u : Option rx_H) : f_X7_is_43 F (f + 1) x0 x2 x3 x4 x6 u = rx_node (C_X7_is F) rx_hI t_X7_is [43, 68, 119, 151, 166] (kk_X7_is_43 F (f_X7_is_43 F f)) 108 43 [some (.ref x0), none, some (.int x2), some (.int x3), some (.long x4), none, some (.int x6), none, none, none] [] u := rfl
set_option maxRecDepth 100000 in
theorem g_X7_is_0 (F : Nat × Nat) (x0 : Nat) (x1 : Int32) (x2 : Int32) (x3 : Int32) (u : Option rx_H) : f_X7_is_0 F x0 x1 x2 x3 u = rx_node (C_X7_is F) rx_hI t_X7_is [43, 68, 119, 151, 166] (kk_X7_is_0 F) 108 0 [some (.ref x0), some (.int x1), some (.int x2), some (.int x3), none, none, none, none, none, none] [] u := rfl
def f_X7_shadowOf_52 (F : Nat × Nat) (k6 : Nat → Int64 → Int32 → Int64 → Int32 → Option rx_H → Option (Int64 × Option rx_H)) (k18 : Nat → Int64 → Int32 → Int64 → Int32 → Int32 → Option rx_H → Option (Int64 × Option rx_H)) (x0 : Nat) (x1 : Int64) (x3 : Int32) (x4 : Int64) (x6 : Int32) (x7 : Int32) (s0 : Int32) (u : Option rx_H) : Option (Int64 × Option rx_H) :=
  if s0 = x3 then
    k18 x0 x1 x3 x4 x6 (x7 + 1) u
  else
    k18 x0 x1 x3 (x4 ||| ((1 : Int64) <<< (Int32.toInt64 (x6 ^^^ ((1 : Int32) <<< (x7 &&& 31))) &&& 63))) x6 (x7 + 1) u
def f_X7_shadowOf_18 (F : Nat × Nat) (k6 : Nat → Int64 → Int32 → Int64 → Int32 → Option rx_H → Option (Int64 × Option rx_H)) : Nat → Nat → Int64 → Int32 → Int64 → Int32 → Int32 → Option rx_H → Option (Int64 × Option rx_H)
  | 0, _, _, _, _, _, _, _ => none
  | f + 1, x0, x1, x3, x4, x6, x7, u =>
    (rx_gI u x0 3 1).bind fun v1 =>
    if x7 < v1 then
      (f_X7_has F x1 x6).bind fun v2 =>
      if v2 = 0 then
        k6 x0 x1 x3 x4 (x6 + 1) u
      else
        if (x6 >>> (x7 &&& 31)) &&& (1 : Int32) = (1 : Int32) then
          f_X7_shadowOf_52 F k6 (f_X7_shadowOf_18 F k6 f) x0 x1 x3 x4 x6 x7 (1 : Int32) u
        else
          f_X7_shadowOf_52 F k6 (f_X7_shadowOf_18 F k6 f) x0 x1 x3 x4 x6 x7 (0 : Int32) u
    else
      k6 x0 x1 x3 x4 (x6 + 1) u
def f_X7_shadowOf_6 (F : Nat × Nat) : Nat → Nat → Int64 → Int32 → Int64 → Int32 → Option rx_H → Option (Int64 × Option rx_H)
  | 0, _, _, _, _, _, _ => none
  | f + 1, x0, x1, x3, x4, x6, u =>
    (rx_gI u x0 3 2).bind fun v1 =>
    if x6 < v1 then
      f_X7_shadowOf_18 F (f_X7_shadowOf_6 F f) F.1 x0 x1 x3 x4 x6 (0 : Int32) u
    else
      some (x4, u)
def f_X7_shadowOf_0 (F : Nat × Nat) (x0 : Nat) (x1 : Int64) (x3 : Int32) (u : Option rx_H) : Option (Int64 × Option rx_H) :=
  f_X7_shadowOf_6 F F.1 x0 x1 x3 (0 : Int64) (0 : Int32) u
def f_X7_shadowOf (F : Nat × Nat) (x0 : Nat) (x1 : Int64) (x3 : Int32) (u : Option rx_H) : Option (Int64 × Option rx_H) := f_X7_shadowOf_0 F x0 x1 x3 u
def c_X7_shadowOf {α : Type} (F : Nat × Nat) (as : List Value) (u : Option rx_H) (κ : rx_K α) : Option α := match as with
  | [.ref a0, .long a1, .int a2] => (f_X7_shadowOf F a0 a1 a2 u).bind fun r => κ (some (.long r.1)) r.2
  | _ => none
noncomputable def C_X7_shadowOf {α : Type} (F : Nat × Nat) : rx_Cl α := fun j as u κ => Bool.rec (motive := fun _ => Option α) (none) (c_X7_has F as u κ) (Nat.beq j 163)
def t_X7_shadowOf : List rx_E := [
  (0, .lconst 0, 1, 0, 0, 0, 0, 0, []),
  (1, .lstore 4, 2, 0, 0, 0, 0, 0, []),
  (3, .iconst 0, 1, 0, 0, 0, 0, 0, []),
  (4, .istore 6, 2, 0, 0, 0, 0, 0, []),
  (6, .iload 6, 2, 0, 0, 0, 0, 0, []),
  (8, .aload_n 0, 1, 0, 0, 0, 0, 0, []),
  (9, .getfield 51, 3, 3, 8, 755, 0, 0, []),
  (12, .if_icmp .ge 74, 3, 86, 0, 0, 0, 0, []),
  (15, .iconst 0, 1, 0, 0, 0, 0, 0, []),
  (16, .istore 7, 2, 0, 0, 0, 0, 0, []),
  (18, .iload 7, 2, 0, 0, 0, 0, 0, []),
  (20, .aload_n 0, 1, 0, 0, 0, 0, 0, []),
  (21, .getfield 48, 3, 3, 4, 754, 0, 0, []),
  (24, .if_icmp .ge 56, 3, 80, 0, 0, 0, 0, []),
  (27, .lload_n 1, 1, 0, 0, 0, 0, 0, []),
  (28, .iload 6, 2, 0, 0, 0, 0, 0, []),
  (30, .invokestatic 78, 3, 163, 2, 850, 0, 0, []),
  (33, .ifCond .eq 47, 3, 80, 0, 0, 0, 0, []),
  (36, .iload 6, 2, 0, 0, 0, 0, 0, []),
  (38, .iload 7, 2, 0, 0, 0, 0, 0, []),
  (40, .ishr, 1, 0, 0, 0, 0, 0, []),
  (41, .iconst 1, 1, 0, 0, 0, 1, 0, []),
  (42, .iand, 1, 0, 0, 0, 0, 0, []),
  (43, .iconst 1, 1, 0, 0, 0, 1, 0, []),
  (44, .if_icmp .ne 7, 3, 51, 0, 0, 0, 0, []),
  (47, .iconst 1, 1, 0, 0, 0, 1, 0, []),
  (48, .goto 4, 3, 52, 0, 0, 0, 0, []),
  (51, .iconst 0, 1, 0, 0, 0, 0, 0, []),
  (52, .istore 8, 2, 0, 0, 0, 0, 0, []),
  (54, .iload 8, 2, 0, 0, 0, 0, 0, []),
  (56, .iload_n 3, 1, 0, 0, 0, 0, 0, []),
  (57, .if_icmp .eq 17, 3, 74, 0, 0, 0, 0, []),
  (60, .lload 4, 2, 0, 0, 0, 0, 0, []),
  (62, .lconst 1, 1, 0, 0, 0, 0, 1, []),
  (63, .iload 6, 2, 0, 0, 0, 0, 0, []),
  (65, .iconst 1, 1, 0, 0, 0, 1, 0, []),
  (66, .iload 7, 2, 0, 0, 0, 0, 0, []),
  (68, .ishl, 1, 0, 0, 0, 0, 0, []),
  (69, .ixor, 1, 0, 0, 0, 0, 0, []),
  (70, .lshl, 1, 0, 0, 0, 0, 0, []),
  (71, .lor, 1, 0, 0, 0, 0, 0, []),
  (72, .lstore 4, 2, 0, 0, 0, 0, 0, []),
  (74, .iinc 7 1, 3, 0, 0, 0, 1, 0, []),
  (77, .goto (-59), 3, 18, 0, 0, 0, 0, []),
  (80, .iinc 6 1, 3, 0, 0, 0, 1, 0, []),
  (83, .goto (-77), 3, 6, 0, 0, 0, 0, []),
  (86, .lload 4, 2, 0, 0, 0, 0, 0, []),
  (88, .lreturn, 1, 0, 0, 0, 0, 0, [])]
def n_X7_shadowOf_6 (k6 : Nat → Int64 → Int32 → Int64 → Int32 → Option rx_H → Option (Int64 × Option rx_H)) (ls : rx_L) (st : List Value) (u : Option rx_H) : Option (Int64 × Option rx_H) := match ls, st, u with
  | [some (.ref x0), some (.long x1), _, some (.int x3), some (.long x4), _, some (.int x6), _, _], [], u => k6 x0 x1 x3 x4 x6 u
  | _, _, _ => none
def n_X7_shadowOf_18 (k18 : Nat → Int64 → Int32 → Int64 → Int32 → Int32 → Option rx_H → Option (Int64 × Option rx_H)) (ls : rx_L) (st : List Value) (u : Option rx_H) : Option (Int64 × Option rx_H) := match ls, st, u with
  | [some (.ref x0), some (.long x1), _, some (.int x3), some (.long x4), _, some (.int x6), some (.int x7), _], [], u => k18 x0 x1 x3 x4 x6 x7 u
  | _, _, _ => none
def n_X7_shadowOf_52 (F : Nat × Nat) (k6 : Nat → Int64 → Int32 → Int64 → Int32 → Option rx_H → Option (Int64 × Option rx_H)) (k18 : Nat → Int64 → Int32 → Int64 → Int32 → Int32 → Option rx_H → Option (Int64 × Option rx_H)) (ls : rx_L) (st : List Value) (u : Option rx_H) : Option (Int64 × Option rx_H) := match ls, st, u with
  | [some (.ref x0), some (.long x1), _, some (.int x3), some (.long x4), _, some (.int x6), some (.int x7), _], [.int s0], u => f_X7_shadowOf_52 F k6 k18 x0 x1 x3 x4 x6 x7 s0 u
  | _, _, _ => none
noncomputable def kk_X7_shadowOf_52 (F : Nat × Nat) (k6 : Nat → Int64 → Int32 → Int64 → Int32 → Option rx_H → Option (Int64 × Option rx_H)) (k18 : Nat → Int64 → Int32 → Int64 → Int32 → Int32 → Option rx_H → Option (Int64 × Option rx_H)) : Nat → rx_L → List Value → Option rx_H → Option (Int64 × Option rx_H) := fun t ls st u => Bool.rec (motive := fun _ => Option (Int64 × Option rx_H)) (none) (n_X7_shadowOf_18 k18 ls st u) (Nat.beq t 18)
noncomputable def kk_X7_shadowOf_18 (F : Nat × Nat) (k6 : Nat → Int64 → Int32 → Int64 → Int32 → Option rx_H → Option (Int64 × Option rx_H)) (k18 : Nat → Int64 → Int32 → Int64 → Int32 → Int32 → Option rx_H → Option (Int64 × Option rx_H)) : Nat → rx_L → List Value → Option rx_H → Option (Int64 × Option rx_H) := fun t ls st u => Bool.rec (motive := fun _ => Option (Int64 × Option rx_H)) (Bool.rec (motive := fun _ => Option (Int64 × Option rx_H)) (none) (n_X7_shadowOf_52 F k6 k18 ls st u) (Nat.beq t 52)) (n_X7_shadowOf_6 k6 ls st u) (Nat.beq t 6)
noncomputable def kk_X7_shadowOf_6 (F : Nat × Nat) (k6 : Nat → Int64 → Int32 → Int64 → Int32 → Option rx_H → Option (Int64 × Option rx_H)) : Nat → rx_L → List Value → Option rx_H → Option (Int64 × Option rx_H) := fun t ls st u => Bool.rec (motive := fun _ => Option (Int64 × Option rx_H)) (none) (n_X7_shadowOf_18 (f_X7_shadowOf_18 F k6 F.1) ls st u) (Nat.beq t 18)
noncomputable def kk_X7_shadowOf_0 (F : Nat × Nat) : Nat → rx_L → List Value → Option rx_H → Option (Int64 × Option rx_H) := fun t ls st u => Bool.rec (motive := fun _ => Option (Int64 × Option rx_H)) (none) (n_X7_shadowOf_6 (f_X7_shadowOf_6 F F.1) ls st u) (Nat.beq t 6)
set_option maxRecDepth 100000 in
theorem g_X7_shadowOf_52 (F : Nat × Nat) (k6 : Nat → Int64 → Int32 → Int64 → Int32 → Option rx_H → Option (Int64 × Option rx_H)) (k18 : Nat → Int64 → Int32 → Int64 → Int32 → Int32 → Option rx_H → Option (Int64 × Option rx_H)) (x0 : Nat) (x1 : Int64) (x3 : Int32) (x4 : Int64) (x6 : Int32) (x7 : Int32) (s0 : Int32) (u : Option rx_H) : f_X7_shadowOf_52 F k6 k18 x0 x1 x3 x4 x6 x7 s0 u = rx_node (C_X7_shadowOf F) rx_hJ t_X7_shadowOf [6, 18, 52] (kk_X7_shadowOf_52 F k6 k18) 51 52 [some (.ref x0), some (.long x1), none, some (.int x3), some (.long x4), none, some (.int x6), some (.int x7), none] [.int s0] u := rfl
set_option maxRecDepth 100000 in
theorem g_X7_shadowOf_18 (F : Nat × Nat) (k6 : Nat → Int64 → Int32 → Int64 → Int32 → Option rx_H → Option (Int64 × Option rx_H)) (f : Nat) (x0 : Nat) (x1 : Int64) (x3 : Int32) (x4 : Int64) (x6 : Int32) (x7 : Int32) (u : Option rx_H) : f_X7_shadowOf_18 F k6 (f + 1) x0 x1 x3 x4 x6 x7 u = rx_node (C_X7_shadowOf F) rx_hJ t_X7_shadowOf [6, 18, 52] (kk_X7_shadowOf_18 F k6 (f_X7_shadowOf_18 F k6 f)) 51 18 [some (.ref x0), some (.long x1), none, some (.int x3), some (.long x4), none, some (.int x6), some (.int x7), none] [] u := rfl
set_option maxRecDepth 100000 in
theorem g_X7_shadowOf_6 (F : Nat × Nat) (f : Nat) (x0 : Nat) (x1 : Int64) (x3 : Int32) (x4 : Int64) (x6 : Int32) (u : Option rx_H) : f_X7_shadowOf_6 F (f + 1) x0 x1 x3 x4 x6 u = rx_node (C_X7_shadowOf F) rx_hJ t_X7_shadowOf [6, 18, 52] (kk_X7_shadowOf_6 F (f_X7_shadowOf_6 F f)) 51 6 [some (.ref x0), some (.long x1), none, some (.int x3), some (.long x4), none, some (.int x6), none, none] [] u := rfl
set_option maxRecDepth 100000 in
theorem g_X7_shadowOf_0 (F : Nat × Nat) (x0 : Nat) (x1 : Int64) (x3 : Int32) (u : Option rx_H) : f_X7_shadowOf_0 F x0 x1 x3 u = rx_node (C_X7_shadowOf F) rx_hJ t_X7_shadowOf [6, 18, 52] (kk_X7_shadowOf_0 F) 51 0 [some (.ref x0), some (.long x1), none, some (.int x3), none, none, none, none, none] [] u := rfl
def f_X7_shadows_97 (F : Nat × Nat) (x0 : Nat) (x1 : Int32) (x3 : Int32) (x4 : Int32) (s0 : Nat) (s1 : Int32) (s2 : Int32) (u : Option rx_H) : Option (Int32 × Option rx_H) :=
  (rx_gR u x0 3 5).bind fun v1 =>
  (rx_aJ u v1 x1).bind fun v2 =>
  (rx_ck u x0 3).bind fun _ =>
  (f_X7_shadowOf F x0 v2 x3 u).bind fun v3 =>
  (rx_ck v3.2 s0 3).bind fun _ =>
  (f_X7_holdsNow F s0 s1 s2 x4 v3.1 v3.2).bind fun v4 =>
  some (v4.1, v4.2)
def f_X7_shadows_83 (F : Nat × Nat) (x0 : Nat) (x1 : Int32) (x2 : Int32) (x3 : Int32) (x4 : Int32) (s0 : Int32) (u : Option rx_H) : Option (Int32 × Option rx_H) :=
  if s0 = 0 then
    f_X7_shadows_97 F x0 x1 x3 x4 x0 x2 (0 : Int32) u
  else
    f_X7_shadows_97 F x0 x1 x3 x4 x0 x2 (4 : Int32) u
def f_X7_shadows_53 (F : Nat × Nat) (x0 : Nat) (x1 : Int32) (x2 : Int32) (x3 : Int32) (s0 : Int32) (u : Option rx_H) : Option (Int32 × Option rx_H) :=
  (rx_gR u x0 3 3).bind fun v1 =>
  (rx_aI u v1 x1).bind fun v2 =>
  if v2 = (4 : Int32) then
    (rx_gI u x0 3 1).bind fun v3 =>
    (f_X7_isIn F s0 (0 : Int32) v3).bind fun v4 =>
    if v4 = 0 then
      f_X7_shadows_83 F x0 x1 x2 x3 s0 (0 : Int32) u
    else
      f_X7_shadows_83 F x0 x1 x2 x3 s0 (1 : Int32) u
  else
    f_X7_shadows_83 F x0 x1 x2 x3 s0 (0 : Int32) u
def f_X7_shadows_0 (F : Nat × Nat) (x0 : Nat) (x1 : Int32) (x2 : Int32) (x3 : Int32) (u : Option rx_H) : Option (Int32 × Option rx_H) :=
  (f_X7_isPlace F x1).bind fun v1 =>
  if v1 = 0 then
    some ((-1 : Int32), u)
  else
    (f_X7_isPlace F x2).bind fun v2 =>
    if v2 = 0 then
      some ((-1 : Int32), u)
    else
      (rx_ck u x0 3).bind fun _ =>
      (f_X7_lacks F x0 x1 u).bind fun v3 =>
      if v3.1 = 0 then
        if x3 = 0 then
          (rx_gR v3.2 x0 3 4).bind fun v4 =>
          (rx_aI v3.2 v4 x1).bind fun v5 =>
          f_X7_shadows_53 F x0 x1 x2 x3 (v5 - (1 : Int32)) v3.2
        else
          (rx_gR v3.2 x0 3 4).bind fun v6 =>
          (rx_aI v3.2 v6 x1).bind fun v7 =>
          f_X7_shadows_53 F x0 x1 x2 x3 (v7 + (1 : Int32)) v3.2
      else
        (rx_ck v3.2 x0 3).bind fun _ =>
        (f_X7_lacks F x0 x1 v3.2).bind fun v8 =>
        some (v8.1, v8.2)
def f_X7_shadows (F : Nat × Nat) (x0 : Nat) (x1 : Int32) (x2 : Int32) (x3 : Int32) (u : Option rx_H) : Option (Int32 × Option rx_H) := f_X7_shadows_0 F x0 x1 x2 x3 u
def c_X7_shadows {α : Type} (F : Nat × Nat) (as : List Value) (u : Option rx_H) (κ : rx_K α) : Option α := match as with
  | [.ref a0, .int a1, .int a2, .int a3] => (f_X7_shadows F a0 a1 a2 a3 u).bind fun r => κ (some (.int r.1)) r.2
  | _ => none
noncomputable def C_X7_shadows {α : Type} (F : Nat × Nat) : rx_Cl α := fun j as u κ => Bool.rec (motive := fun _ => Option α) (Bool.rec (motive := fun _ => Option α) (Bool.rec (motive := fun _ => Option α) (Bool.rec (motive := fun _ => Option α) (Bool.rec (motive := fun _ => Option α) (none) (c_X7_shadowOf F as u κ) (Nat.beq j 206)) (c_X7_lacks F as u κ) (Nat.beq j 179)) (c_X7_isPlace F as u κ) (Nat.beq j 173)) (c_X7_isIn F as u κ) (Nat.beq j 171)) (c_X7_holdsNow F as u κ) (Nat.beq j 168)
def t_X7_shadows : List rx_E := [
  (0, .iload_n 1, 1, 0, 0, 0, 0, 0, []),
  (1, .invokestatic 62, 3, 173, 1, 803, 0, 0, []),
  (4, .ifCond .eq 10, 3, 14, 0, 0, 0, 0, []),
  (7, .iload_n 2, 1, 0, 0, 0, 0, 0, []),
  (8, .invokestatic 62, 3, 173, 1, 803, 0, 0, []),
  (11, .ifCond .ne 5, 3, 16, 0, 0, 0, 0, []),
  (14, .iconst (-1), 1, 0, 0, 0, (-1), 0, []),
  (15, .ireturn, 1, 0, 0, 0, 0, 0, []),
  (16, .aload_n 0, 1, 0, 0, 0, 0, 0, []),
  (17, .iload_n 1, 1, 0, 0, 0, 0, 0, []),
  (18, .invokevirtual 74, 3, 179, 302, 824, 0, 0, []),
  (21, .ifCond .eq 9, 3, 30, 0, 0, 0, 0, []),
  (24, .aload_n 0, 1, 0, 0, 0, 0, 0, []),
  (25, .iload_n 1, 1, 0, 0, 0, 0, 0, []),
  (26, .invokevirtual 74, 3, 179, 302, 824, 0, 0, []),
  (29, .ireturn, 1, 0, 0, 0, 0, 0, []),
  (30, .iload_n 3, 1, 0, 0, 0, 0, 0, []),
  (31, .ifCond .eq 14, 3, 45, 0, 0, 0, 0, []),
  (34, .aload_n 0, 1, 0, 0, 0, 0, 0, []),
  (35, .getfield 17, 3, 3, 18, 757, 0, 0, []),
  (38, .iload_n 1, 1, 0, 0, 0, 0, 0, []),
  (39, .iaload, 1, 0, 0, 0, 0, 0, []),
  (40, .iconst 1, 1, 0, 0, 0, 1, 0, []),
  (41, .iadd, 1, 0, 0, 0, 0, 0, []),
  (42, .goto 11, 3, 53, 0, 0, 0, 0, []),
  (45, .aload_n 0, 1, 0, 0, 0, 0, 0, []),
  (46, .getfield 17, 3, 3, 18, 757, 0, 0, []),
  (49, .iload_n 1, 1, 0, 0, 0, 0, 0, []),
  (50, .iaload, 1, 0, 0, 0, 0, 0, []),
  (51, .iconst 1, 1, 0, 0, 0, 1, 0, []),
  (52, .isub, 1, 0, 0, 0, 0, 0, []),
  (53, .istore 4, 2, 0, 0, 0, 0, 0, []),
  (55, .aload_n 0, 1, 0, 0, 0, 0, 0, []),
  (56, .getfield 13, 3, 3, 14, 756, 0, 0, []),
  (59, .iload_n 1, 1, 0, 0, 0, 0, 0, []),
  (60, .iaload, 1, 0, 0, 0, 0, 0, []),
  (61, .iconst 4, 1, 0, 0, 0, 4, 0, []),
  (62, .if_icmp .ne 20, 3, 82, 0, 0, 0, 0, []),
  (65, .iload 4, 2, 0, 0, 0, 0, 0, []),
  (67, .iconst 0, 1, 0, 0, 0, 0, 0, []),
  (68, .aload_n 0, 1, 0, 0, 0, 0, 0, []),
  (69, .getfield 48, 3, 3, 4, 754, 0, 0, []),
  (72, .invokestatic 54, 3, 171, 3, 806, 0, 0, []),
  (75, .ifCond .eq 7, 3, 82, 0, 0, 0, 0, []),
  (78, .iconst 1, 1, 0, 0, 0, 1, 0, []),
  (79, .goto 4, 3, 83, 0, 0, 0, 0, []),
  (82, .iconst 0, 1, 0, 0, 0, 0, 0, []),
  (83, .istore 5, 2, 0, 0, 0, 0, 0, []),
  (85, .aload_n 0, 1, 0, 0, 0, 0, 0, []),
  (86, .iload_n 2, 1, 0, 0, 0, 0, 0, []),
  (87, .iload 5, 2, 0, 0, 0, 0, 0, []),
  (89, .ifCond .eq 7, 3, 96, 0, 0, 0, 0, []),
  (92, .iconst 4, 1, 0, 0, 0, 4, 0, []),
  (93, .goto 4, 3, 97, 0, 0, 0, 0, []),
  (96, .iconst 0, 1, 0, 0, 0, 0, 0, []),
  (97, .iload 4, 2, 0, 0, 0, 0, 0, []),
  (99, .aload_n 0, 1, 0, 0, 0, 0, 0, []),
  (100, .aload_n 0, 1, 0, 0, 0, 0, 0, []),
  (101, .getfield 20, 3, 3, 22, 758, 0, 0, []),
  (104, .iload_n 1, 1, 0, 0, 0, 0, 0, []),
  (105, .laload, 1, 0, 0, 0, 0, 0, []),
  (106, .iload_n 3, 1, 0, 0, 0, 0, 0, []),
  (107, .invokevirtual 112, 3, 206, 303, 905, 0, 0, []),
  (110, .invokevirtual 70, 3, 168, 305, 813, 0, 0, []),
  (113, .ireturn, 1, 0, 0, 0, 0, 0, [])]
def n_X7_shadows_53 (F : Nat × Nat) (ls : rx_L) (st : List Value) (u : Option rx_H) : Option (Int32 × Option rx_H) := match ls, st, u with
  | [some (.ref x0), some (.int x1), some (.int x2), some (.int x3), _, _], [.int s0], u => f_X7_shadows_53 F x0 x1 x2 x3 s0 u
  | _, _, _ => none
def n_X7_shadows_83 (F : Nat × Nat) (ls : rx_L) (st : List Value) (u : Option rx_H) : Option (Int32 × Option rx_H) := match ls, st, u with
  | [some (.ref x0), some (.int x1), some (.int x2), some (.int x3), some (.int x4), _], [.int s0], u => f_X7_shadows_83 F x0 x1 x2 x3 x4 s0 u
  | _, _, _ => none
def n_X7_shadows_97 (F : Nat × Nat) (ls : rx_L) (st : List Value) (u : Option rx_H) : Option (Int32 × Option rx_H) := match ls, st, u with
  | [some (.ref x0), some (.int x1), _, some (.int x3), some (.int x4), _], [.int s2, .int s1, .ref s0], u => f_X7_shadows_97 F x0 x1 x3 x4 s0 s1 s2 u
  | _, _, _ => none
noncomputable def kk_X7_shadows_97 (F : Nat × Nat) : Nat → rx_L → List Value → Option rx_H → Option (Int32 × Option rx_H) := fun t ls st u => none
noncomputable def kk_X7_shadows_83 (F : Nat × Nat) : Nat → rx_L → List Value → Option rx_H → Option (Int32 × Option rx_H) := fun t ls st u => Bool.rec (motive := fun _ => Option (Int32 × Option rx_H)) (none) (n_X7_shadows_97 F ls st u) (Nat.beq t 97)
noncomputable def kk_X7_shadows_53 (F : Nat × Nat) : Nat → rx_L → List Value → Option rx_H → Option (Int32 × Option rx_H) := fun t ls st u => Bool.rec (motive := fun _ => Option (Int32 × Option rx_H)) (none) (n_X7_shadows_83 F ls st u) (Nat.beq t 83)
noncomputable def kk_X7_shadows_0 (F : Nat × Nat) : Nat → rx_L → List Value → Option rx_H → Option (Int32 × Option rx_H) := fun t ls st u => Bool.rec (motive := fun _ => Option (Int32 × Option rx_H)) (none) (n_X7_shadows_53 F ls st u) (Nat.beq t 53)
set_option maxRecDepth 100000 in
theorem g_X7_shadows_97 (F : Nat × Nat) (x0 : Nat) (x1 : Int32) (x3 : Int32) (x4 : Int32) (s0 : Nat) (s1 : Int32) (s2 : Int32) (u : Option rx_H) : f_X7_shadows_97 F x0 x1 x3 x4 s0 s1 s2 u = rx_node (C_X7_shadows F) rx_hI t_X7_shadows [53, 83, 97] (kk_X7_shadows_97 F) 68 97 [some (.ref x0), some (.int x1), none, some (.int x3), some (.int x4), none] [.int s2, .int s1, .ref s0] u := rfl
set_option maxRecDepth 100000 in
theorem g_X7_shadows_83 (F : Nat × Nat) (x0 : Nat) (x1 : Int32) (x2 : Int32) (x3 : Int32) (x4 : Int32) (s0 : Int32) (u : Option rx_H) : f_X7_shadows_83 F x0 x1 x2 x3 x4 s0 u = rx_node (C_X7_shadows F) rx_hI t_X7_shadows [53, 83, 97] (kk_X7_shadows_83 F) 68 83 [some (.ref x0), some (.int x1), some (.int x2), some (.int x3), some (.int x4), none] [.int s0] u := rfl
set_option maxRecDepth 100000 in
theorem g_X7_shadows_53 (F : Nat × Nat) (x0 : Nat) (x1 : Int32) (x2 : Int32) (x3 : Int32) (s0 : Int32) (u : Option rx_H) : f_X7_shadows_53 F x0 x1 x2 x3 s0 u = rx_node (C_X7_shadows F) rx_hI t_X7_shadows [53, 83, 97] (kk_X7_shadows_53 F) 68 53 [some (.ref x0), some (.int x1), some (.int x2), some (.int x3), none, none] [.int s0] u := rfl
set_option maxRecDepth 100000 in
theorem g_X7_shadows_0 (F : Nat × Nat) (x0 : Nat) (x1 : Int32) (x2 : Int32) (x3 : Int32) (u : Option rx_H) : f_X7_shadows_0 F x0 x1 x2 x3 u = rx_node (C_X7_shadows F) rx_hI t_X7_shadows [53, 83, 97] (kk_X7_shadows_0 F) 68 0 [some (.ref x0), some (.int x1), some (.int x2), some (.int x3), none, none] [] u := rfl
def f_X7_shadow_0 (F : Nat × Nat) (x0 : Nat) (x1 : Int32) (x2 : Int32) (u : Option rx_H) : Option (Int32 × Option rx_H) :=
  (rx_ck u x0 3).bind fun _ =>
  (f_X7_shadows F x0 x1 x2 (0 : Int32) u).bind fun v1 =>
  some (v1.1, v1.2)
def f_X7_shadow (F : Nat × Nat) (x0 : Nat) (x1 : Int32) (x2 : Int32) (u : Option rx_H) : Option (Int32 × Option rx_H) := f_X7_shadow_0 F x0 x1 x2 u
def c_X7_shadow {α : Type} (F : Nat × Nat) (as : List Value) (u : Option rx_H) (κ : rx_K α) : Option α := match as with
  | [.ref a0, .int a1, .int a2] => (f_X7_shadow F a0 a1 a2 u).bind fun r => κ (some (.int r.1)) r.2
  | _ => none
noncomputable def C_X7_shadow {α : Type} (F : Nat × Nat) : rx_Cl α := fun j as u κ => Bool.rec (motive := fun _ => Option α) (none) (c_X7_shadows F as u κ) (Nat.beq j 207)
def t_X7_shadow : List rx_E := [
  (0, .aload_n 0, 1, 0, 0, 0, 0, 0, []),
  (1, .iload_n 1, 1, 0, 0, 0, 0, 0, []),
  (2, .iload_n 2, 1, 0, 0, 0, 0, 0, []),
  (3, .iconst 0, 1, 0, 0, 0, 0, 0, []),
  (4, .invokevirtual 116, 3, 207, 304, 901, 0, 0, []),
  (7, .ireturn, 1, 0, 0, 0, 0, 0, [])]
noncomputable def kk_X7_shadow_0 (F : Nat × Nat) : Nat → rx_L → List Value → Option rx_H → Option (Int32 × Option rx_H) := fun t ls st u => none
set_option maxRecDepth 100000 in
theorem g_X7_shadow_0 (F : Nat × Nat) (x0 : Nat) (x1 : Int32) (x2 : Int32) (u : Option rx_H) : f_X7_shadow_0 F x0 x1 x2 u = rx_node (C_X7_shadow F) rx_hI t_X7_shadow [] (kk_X7_shadow_0 F) 9 0 [some (.ref x0), some (.int x1), some (.int x2)] [] u := rfl
def f_X7_up_0 (F : Nat × Nat) (x0 : Nat) (x1 : Int32) (x2 : Int32) (u : Option rx_H) : Option (Int32 × Option rx_H) :=
  (rx_ck u x0 3).bind fun _ =>
  (f_X7_shadows F x0 x1 x2 (1 : Int32) u).bind fun v1 =>
  some (v1.1, v1.2)
def f_X7_up (F : Nat × Nat) (x0 : Nat) (x1 : Int32) (x2 : Int32) (u : Option rx_H) : Option (Int32 × Option rx_H) := f_X7_up_0 F x0 x1 x2 u
def c_X7_up {α : Type} (F : Nat × Nat) (as : List Value) (u : Option rx_H) (κ : rx_K α) : Option α := match as with
  | [.ref a0, .int a1, .int a2] => (f_X7_up F a0 a1 a2 u).bind fun r => κ (some (.int r.1)) r.2
  | _ => none
noncomputable def C_X7_up {α : Type} (F : Nat × Nat) : rx_Cl α := fun j as u κ => Bool.rec (motive := fun _ => Option α) (none) (c_X7_shadows F as u κ) (Nat.beq j 207)
def t_X7_up : List rx_E := [
  (0, .aload_n 0, 1, 0, 0, 0, 0, 0, []),
  (1, .iload_n 1, 1, 0, 0, 0, 0, 0, []),
  (2, .iload_n 2, 1, 0, 0, 0, 0, 0, []),
  (3, .iconst 1, 1, 0, 0, 0, 1, 0, []),
  (4, .invokevirtual 116, 3, 207, 304, 901, 0, 0, []),
  (7, .ireturn, 1, 0, 0, 0, 0, 0, [])]
noncomputable def kk_X7_up_0 (F : Nat × Nat) : Nat → rx_L → List Value → Option rx_H → Option (Int32 × Option rx_H) := fun t ls st u => none
set_option maxRecDepth 100000 in
theorem g_X7_up_0 (F : Nat × Nat) (x0 : Nat) (x1 : Int32) (x2 : Int32) (u : Option rx_H) : f_X7_up_0 F x0 x1 x2 u = rx_node (C_X7_up F) rx_hI t_X7_up [] (kk_X7_up_0 F) 9 0 [some (.ref x0), some (.int x1), some (.int x2)] [] u := rfl
def f_X7_closed_48 (F : Nat × Nat) (k36 : Nat → Int32 → Int32 → Int32 → Int64 → Int32 → Option rx_H → Option (Int32 × Option rx_H)) : Nat → Nat → Int32 → Int32 → Int32 → Int64 → Int32 → Int32 → Option rx_H → Option (Int32 × Option rx_H)
  | 0, _, _, _, _, _, _, _, _ => none
  | f + 1, x0, x1, x2, x3, x4, x6, x7, u =>
    (rx_gI u x0 3 2).bind fun v1 =>
    if x7 < v1 then
      (rx_gR u x0 3 5).bind fun v2 =>
      (rx_aJ u v2 x1).bind fun v3 =>
      (f_X7_has F v3 x6).bind fun v4 =>
      if v4 = 0 then
        k36 x0 x1 x2 x3 x4 (x6 + 1) u
      else
        if x2 = 0 then
          (f_X7_isWithin F x7 x6).bind fun v5 =>
          if v5 = 0 then
            (f_X7_closed_48 F k36 f) x0 x1 x2 x3 x4 x6 (x7 + 1) u
          else
            (f_X7_closed_48 F k36 f) x0 x1 x2 x3 (x4 ||| ((1 : Int64) <<< (Int32.toInt64 x7 &&& 63))) x6 (x7 + 1) u
        else
          (f_X7_isWithin F x6 x7).bind fun v6 =>
          if v6 = 0 then
            (f_X7_closed_48 F k36 f) x0 x1 x2 x3 x4 x6 (x7 + 1) u
          else
            (f_X7_closed_48 F k36 f) x0 x1 x2 x3 (x4 ||| ((1 : Int64) <<< (Int32.toInt64 x7 &&& 63))) x6 (x7 + 1) u
    else
      k36 x0 x1 x2 x3 x4 (x6 + 1) u
def f_X7_closed_130 (F : Nat × Nat) (x4 : Int64) (s0 : Nat) (s1 : Int32) (s2 : Int32) (u : Option rx_H) : Option (Int32 × Option rx_H) :=
  (rx_ck u s0 3).bind fun _ =>
  (f_X7_holdsNow F s0 s1 s2 (0 : Int32) x4 u).bind fun v1 =>
  some (v1.1, v1.2)
def f_X7_closed_36 (F : Nat × Nat) : Nat → Nat → Int32 → Int32 → Int32 → Int64 → Int32 → Option rx_H → Option (Int32 × Option rx_H)
  | 0, _, _, _, _, _, _, _ => none
  | f + 1, x0, x1, x2, x3, x4, x6, u =>
    (rx_gI u x0 3 2).bind fun v1 =>
    if x6 < v1 then
      f_X7_closed_48 F (f_X7_closed_36 F f) F.1 x0 x1 x2 x3 x4 x6 (0 : Int32) u
    else
      if x2 = 0 then
        f_X7_closed_130 F x4 x0 x3 (3 : Int32) u
      else
        f_X7_closed_130 F x4 x0 x3 (0 : Int32) u
def f_X7_closed_0 (F : Nat × Nat) (x0 : Nat) (x1 : Int32) (x2 : Int32) (x3 : Int32) (u : Option rx_H) : Option (Int32 × Option rx_H) :=
  (f_X7_isPlace F x1).bind fun v1 =>
  if v1 = 0 then
    some ((-1 : Int32), u)
  else
    (f_X7_isPlace F x3).bind fun v2 =>
    if v2 = 0 then
      some ((-1 : Int32), u)
    else
      (rx_ck u x0 3).bind fun _ =>
      (f_X7_lacks F x0 x1 u).bind fun v3 =>
      if v3.1 = 0 then
        f_X7_closed_36 F F.1 x0 x1 x2 x3 (0 : Int64) (0 : Int32) v3.2
      else
        (rx_ck v3.2 x0 3).bind fun _ =>
        (f_X7_lacks F x0 x1 v3.2).bind fun v4 =>
        some (v4.1, v4.2)
def f_X7_closed (F : Nat × Nat) (x0 : Nat) (x1 : Int32) (x2 : Int32) (x3 : Int32) (u : Option rx_H) : Option (Int32 × Option rx_H) := f_X7_closed_0 F x0 x1 x2 x3 u
def c_X7_closed {α : Type} (F : Nat × Nat) (as : List Value) (u : Option rx_H) (κ : rx_K α) : Option α := match as with
  | [.ref a0, .int a1, .int a2, .int a3] => (f_X7_closed F a0 a1 a2 a3 u).bind fun r => κ (some (.int r.1)) r.2
  | _ => none
noncomputable def C_X7_closed {α : Type} (F : Nat × Nat) : rx_Cl α := fun j as u κ => Bool.rec (motive := fun _ => Option α) (Bool.rec (motive := fun _ => Option α) (Bool.rec (motive := fun _ => Option α) (Bool.rec (motive := fun _ => Option α) (Bool.rec (motive := fun _ => Option α) (none) (c_X7_lacks F as u κ) (Nat.beq j 179)) (c_X7_isWithin F as u κ) (Nat.beq j 177)) (c_X7_isPlace F as u κ) (Nat.beq j 173)) (c_X7_holdsNow F as u κ) (Nat.beq j 168)) (c_X7_has F as u κ) (Nat.beq j 163)
def t_X7_closed : List rx_E := [
  (0, .iload_n 1, 1, 0, 0, 0, 0, 0, []),
  (1, .invokestatic 62, 3, 173, 1, 803, 0, 0, []),
  (4, .ifCond .eq 10, 3, 14, 0, 0, 0, 0, []),
  (7, .iload_n 3, 1, 0, 0, 0, 0, 0, []),
  (8, .invokestatic 62, 3, 173, 1, 803, 0, 0, []),
  (11, .ifCond .ne 5, 3, 16, 0, 0, 0, 0, []),
  (14, .iconst (-1), 1, 0, 0, 0, (-1), 0, []),
  (15, .ireturn, 1, 0, 0, 0, 0, 0, []),
  (16, .aload_n 0, 1, 0, 0, 0, 0, 0, []),
  (17, .iload_n 1, 1, 0, 0, 0, 0, 0, []),
  (18, .invokevirtual 74, 3, 179, 302, 824, 0, 0, []),
  (21, .ifCond .eq 9, 3, 30, 0, 0, 0, 0, []),
  (24, .aload_n 0, 1, 0, 0, 0, 0, 0, []),
  (25, .iload_n 1, 1, 0, 0, 0, 0, 0, []),
  (26, .invokevirtual 74, 3, 179, 302, 824, 0, 0, []),
  (29, .ireturn, 1, 0, 0, 0, 0, 0, []),
  (30, .lconst 0, 1, 0, 0, 0, 0, 0, []),
  (31, .lstore 4, 2, 0, 0, 0, 0, 0, []),
  (33, .iconst 0, 1, 0, 0, 0, 0, 0, []),
  (34, .istore 6, 2, 0, 0, 0, 0, 0, []),
  (36, .iload 6, 2, 0, 0, 0, 0, 0, []),
  (38, .aload_n 0, 1, 0, 0, 0, 0, 0, []),
  (39, .getfield 51, 3, 3, 8, 755, 0, 0, []),
  (42, .if_icmp .ge 77, 3, 119, 0, 0, 0, 0, []),
  (45, .iconst 0, 1, 0, 0, 0, 0, 0, []),
  (46, .istore 7, 2, 0, 0, 0, 0, 0, []),
  (48, .iload 7, 2, 0, 0, 0, 0, 0, []),
  (50, .aload_n 0, 1, 0, 0, 0, 0, 0, []),
  (51, .getfield 51, 3, 3, 8, 755, 0, 0, []),
  (54, .if_icmp .ge 59, 3, 113, 0, 0, 0, 0, []),
  (57, .aload_n 0, 1, 0, 0, 0, 0, 0, []),
  (58, .getfield 20, 3, 3, 22, 758, 0, 0, []),
  (61, .iload_n 1, 1, 0, 0, 0, 0, 0, []),
  (62, .laload, 1, 0, 0, 0, 0, 0, []),
  (63, .iload 6, 2, 0, 0, 0, 0, 0, []),
  (65, .invokestatic 78, 3, 163, 2, 850, 0, 0, []),
  (68, .ifCond .eq 45, 3, 113, 0, 0, 0, 0, []),
  (71, .iload_n 2, 1, 0, 0, 0, 0, 0, []),
  (72, .ifCond .eq 16, 3, 88, 0, 0, 0, 0, []),
  (75, .iload 6, 2, 0, 0, 0, 0, 0, []),
  (77, .iload 7, 2, 0, 0, 0, 0, 0, []),
  (79, .invokestatic 89, 3, 177, 2, 853, 0, 0, []),
  (82, .ifCond .eq 25, 3, 107, 0, 0, 0, 0, []),
  (85, .goto 13, 3, 98, 0, 0, 0, 0, []),
  (88, .iload 7, 2, 0, 0, 0, 0, 0, []),
  (90, .iload 6, 2, 0, 0, 0, 0, 0, []),
  (92, .invokestatic 89, 3, 177, 2, 853, 0, 0, []),
  (95, .ifCond .eq 12, 3, 107, 0, 0, 0, 0, []),
  (98, .lload 4, 2, 0, 0, 0, 0, 0, []),
  (100, .lconst 1, 1, 0, 0, 0, 0, 1, []),
  (101, .iload 7, 2, 0, 0, 0, 0, 0, []),
  (103, .lshl, 1, 0, 0, 0, 0, 0, []),
  (104, .lor, 1, 0, 0, 0, 0, 0, []),
  (105, .lstore 4, 2, 0, 0, 0, 0, 0, []),
  (107, .iinc 7 1, 3, 0, 0, 0, 1, 0, []),
  (110, .goto (-62), 3, 48, 0, 0, 0, 0, []),
  (113, .iinc 6 1, 3, 0, 0, 0, 1, 0, []),
  (116, .goto (-80), 3, 36, 0, 0, 0, 0, []),
  (119, .aload_n 0, 1, 0, 0, 0, 0, 0, []),
  (120, .iload_n 3, 1, 0, 0, 0, 0, 0, []),
  (121, .iload_n 2, 1, 0, 0, 0, 0, 0, []),
  (122, .ifCond .eq 7, 3, 129, 0, 0, 0, 0, []),
  (125, .iconst 0, 1, 0, 0, 0, 0, 0, []),
  (126, .goto 4, 3, 130, 0, 0, 0, 0, []),
  (129, .iconst 3, 1, 0, 0, 0, 3, 0, []),
  (130, .iconst 0, 1, 0, 0, 0, 0, 0, []),
  (131, .lload 4, 2, 0, 0, 0, 0, 0, []),
  (133, .invokevirtual 70, 3, 168, 305, 813, 0, 0, []),
  (136, .ireturn, 1, 0, 0, 0, 0, 0, [])]
def n_X7_closed_36 (k36 : Nat → Int32 → Int32 → Int32 → Int64 → Int32 → Option rx_H → Option (Int32 × Option rx_H)) (ls : rx_L) (st : List Value) (u : Option rx_H) : Option (Int32 × Option rx_H) := match ls, st, u with
  | [some (.ref x0), some (.int x1), some (.int x2), some (.int x3), some (.long x4), _, some (.int x6), _], [], u => k36 x0 x1 x2 x3 x4 x6 u
  | _, _, _ => none
def n_X7_closed_48 (k48 : Nat → Int32 → Int32 → Int32 → Int64 → Int32 → Int32 → Option rx_H → Option (Int32 × Option rx_H)) (ls : rx_L) (st : List Value) (u : Option rx_H) : Option (Int32 × Option rx_H) := match ls, st, u with
  | [some (.ref x0), some (.int x1), some (.int x2), some (.int x3), some (.long x4), _, some (.int x6), some (.int x7)], [], u => k48 x0 x1 x2 x3 x4 x6 x7 u
  | _, _, _ => none
def n_X7_closed_130 (F : Nat × Nat) (ls : rx_L) (st : List Value) (u : Option rx_H) : Option (Int32 × Option rx_H) := match ls, st, u with
  | [_, _, _, _, some (.long x4), _, _, _], [.int s2, .int s1, .ref s0], u => f_X7_closed_130 F x4 s0 s1 s2 u
  | _, _, _ => none
noncomputable def kk_X7_closed_48 (F : Nat × Nat) (k36 : Nat → Int32 → Int32 → Int32 → Int64 → Int32 → Option rx_H → Option (Int32 × Option rx_H)) (k48 : Nat → Int32 → Int32 → Int32 → Int64 → Int32 → Int32 → Option rx_H → Option (Int32 × Option rx_H)) : Nat → rx_L → List Value → Option rx_H → Option (Int32 × Option rx_H) := fun t ls st u => Bool.rec (motive := fun _ => Option (Int32 × Option rx_H)) (Bool.rec (motive := fun _ => Option (Int32 × Option rx_H)) (none) (n_X7_closed_48 k48 ls st u) (Nat.beq t 48)) (n_X7_closed_36 k36 ls st u) (Nat.beq t 36)
noncomputable def kk_X7_closed_130 (F : Nat × Nat) : Nat → rx_L → List Value → Option rx_H → Option (Int32 × Option rx_H) := fun t ls st u => none
noncomputable def kk_X7_closed_36 (F : Nat × Nat) (k36 : Nat → Int32 → Int32 → Int32 → Int64 → Int32 → Option rx_H → Option (Int32 × Option rx_H)) : Nat → rx_L → List Value → Option rx_H → Option (Int32 × Option rx_H) := fun t ls st u => Bool.rec (motive := fun _ => Option (Int32 × Option rx_H)) (Bool.rec (motive := fun _ => Option (Int32 × Option rx_H)) (none) (n_X7_closed_130 F ls st u) (Nat.beq t 130)) (n_X7_closed_48 (f_X7_closed_48 F k36 F.1) ls st u) (Nat.beq t 48)
noncomputable def kk_X7_closed_0 (F : Nat × Nat) : Nat → rx_L → List Value → Option rx_H → Option (Int32 × Option rx_H) := fun t ls st u => Bool.rec (motive := fun _ => Option (Int32 × Option rx_H)) (none) (n_X7_closed_36 (f_X7_closed_36 F F.1) ls st u) (Nat.beq t 36)
set_option maxRecDepth 100000 in
theorem g_X7_closed_48 (F : Nat × Nat) (k36 : Nat → Int32 → Int32 → Int32 → Int64 → Int32 → Option rx_H → Option (Int32 × Option rx_H)) (f : Nat) (x0 : Nat) (x1 : Int32) (x2 : Int32) (x3 : Int32) (x4 : Int64) (x6 : Int32) (x7 : Int32) (u : Option rx_H) : f_X7_closed_48 F k36 (f + 1) x0 x1 x2 x3 x4 x6 x7 u = rx_node (C_X7_closed F) rx_hI t_X7_closed [36, 48, 130] (kk_X7_closed_48 F k36 (f_X7_closed_48 F k36 f)) 72 48 [some (.ref x0), some (.int x1), some (.int x2), some (.int x3), some (.long x4), none, some (.int x6), some (.int x7)] [] u := rfl
set_option maxRecDepth 100000 in
theorem g_X7_closed_130 (F : Nat × Nat) (x4 : Int64) (s0 : Nat) (s1 : Int32) (s2 : Int32) (u : Option rx_H) : f_X7_closed_130 F x4 s0 s1 s2 u = rx_node (C_X7_closed F) rx_hI t_X7_closed [36, 48, 130] (kk_X7_closed_130 F) 72 130 [none, none, none, none, some (.long x4), none, none, none] [.int s2, .int s1, .ref s0] u := rfl
set_option maxRecDepth 100000 in
theorem g_X7_closed_36 (F : Nat × Nat) (f : Nat) (x0 : Nat) (x1 : Int32) (x2 : Int32) (x3 : Int32) (x4 : Int64) (x6 : Int32) (u : Option rx_H) : f_X7_closed_36 F (f + 1) x0 x1 x2 x3 x4 x6 u = rx_node (C_X7_closed F) rx_hI t_X7_closed [36, 48, 130] (kk_X7_closed_36 F (f_X7_closed_36 F f)) 72 36 [some (.ref x0), some (.int x1), some (.int x2), some (.int x3), some (.long x4), none, some (.int x6), none] [] u := rfl
set_option maxRecDepth 100000 in
theorem g_X7_closed_0 (F : Nat × Nat) (x0 : Nat) (x1 : Int32) (x2 : Int32) (x3 : Int32) (u : Option rx_H) : f_X7_closed_0 F x0 x1 x2 x3 u = rx_node (C_X7_closed F) rx_hI t_X7_closed [36, 48, 130] (kk_X7_closed_0 F) 72 0 [some (.ref x0), some (.int x1), some (.int x2), some (.int x3), none, none, none, none] [] u := rfl
def f_X7_ends_136 (F : Nat × Nat) (k36 : Nat → Int32 → Int32 → Int32 → Int64 → Int32 → Option rx_H → Option (Int32 × Option rx_H)) (x0 : Nat) (x1 : Int32) (x2 : Int32) (x3 : Int32) (x4 : Int64) (x6 : Int32) (x7 : Int32) (u : Option rx_H) : Option (Int32 × Option rx_H) :=
  if x7 = 0 then
    k36 x0 x1 x2 x3 x4 (x6 + 1) u
  else
    k36 x0 x1 x2 x3 (x4 ||| ((1 : Int64) <<< (Int32.toInt64 x6 &&& 63))) (x6 + 1) u
def f_X7_ends_61 (F : Nat × Nat) (k36 : Nat → Int32 → Int32 → Int32 → Int64 → Int32 → Option rx_H → Option (Int32 × Option rx_H)) : Nat → Nat → Int32 → Int32 → Int32 → Int64 → Int32 → Int32 → Int32 → Option rx_H → Option (Int32 × Option rx_H)
  | 0, _, _, _, _, _, _, _, _, _ => none
  | f + 1, x0, x1, x2, x3, x4, x6, x7, x8, u =>
    (rx_gI u x0 3 2).bind fun v1 =>
    if x8 < v1 then
      if x7 = 0 then
        f_X7_ends_136 F k36 x0 x1 x2 x3 x4 x6 x7 u
      else
        if x8 = x6 then
          (f_X7_ends_61 F k36 f) x0 x1 x2 x3 x4 x6 (1 : Int32) (x8 + 1) u
        else
          (rx_gR u x0 3 5).bind fun v2 =>
          (rx_aJ u v2 x1).bind fun v3 =>
          (f_X7_has F v3 x8).bind fun v4 =>
          if v4 = 0 then
            (f_X7_ends_61 F k36 f) x0 x1 x2 x3 x4 x6 (1 : Int32) (x8 + 1) u
          else
            if x2 = 0 then
              (f_X7_isWithin F x8 x6).bind fun v5 =>
              if v5 = 0 then
                (f_X7_ends_61 F k36 f) x0 x1 x2 x3 x4 x6 (1 : Int32) (x8 + 1) u
              else
                (f_X7_ends_61 F k36 f) x0 x1 x2 x3 x4 x6 (0 : Int32) (x8 + 1) u
            else
              (f_X7_isWithin F x6 x8).bind fun v6 =>
              if v6 = 0 then
                (f_X7_ends_61 F k36 f) x0 x1 x2 x3 x4 x6 (1 : Int32) (x8 + 1) u
              else
                (f_X7_ends_61 F k36 f) x0 x1 x2 x3 x4 x6 (0 : Int32) (x8 + 1) u
    else
      f_X7_ends_136 F k36 x0 x1 x2 x3 x4 x6 x7 u
def f_X7_ends_36 (F : Nat × Nat) : Nat → Nat → Int32 → Int32 → Int32 → Int64 → Int32 → Option rx_H → Option (Int32 × Option rx_H)
  | 0, _, _, _, _, _, _, _ => none
  | f + 1, x0, x1, x2, x3, x4, x6, u =>
    (rx_gI u x0 3 2).bind fun v1 =>
    if x6 < v1 then
      (rx_gR u x0 3 5).bind fun v2 =>
      (rx_aJ u v2 x1).bind fun v3 =>
      (f_X7_has F v3 x6).bind fun v4 =>
      f_X7_ends_61 F (f_X7_ends_36 F f) F.1 x0 x1 x2 x3 x4 x6 v4 (0 : Int32) u
    else
      (rx_ck u x0 3).bind fun _ =>
      (f_X7_holdsNow F x0 x3 (1 : Int32) (0 : Int32) x4 u).bind fun v5 =>
      some (v5.1, v5.2)
def f_X7_ends_0 (F : Nat × Nat) (x0 : Nat) (x1 : Int32) (x2 : Int32) (x3 : Int32) (u : Option rx_H) : Option (Int32 × Option rx_H) :=
  (f_X7_isPlace F x1).bind fun v1 =>
  if v1 = 0 then
    some ((-1 : Int32), u)
  else
    (f_X7_isPlace F x3).bind fun v2 =>
    if v2 = 0 then
      some ((-1 : Int32), u)
    else
      (rx_ck u x0 3).bind fun _ =>
      (f_X7_lacks F x0 x1 u).bind fun v3 =>
      if v3.1 = 0 then
        f_X7_ends_36 F F.1 x0 x1 x2 x3 (0 : Int64) (0 : Int32) v3.2
      else
        (rx_ck v3.2 x0 3).bind fun _ =>
        (f_X7_lacks F x0 x1 v3.2).bind fun v4 =>
        some (v4.1, v4.2)
def f_X7_ends (F : Nat × Nat) (x0 : Nat) (x1 : Int32) (x2 : Int32) (x3 : Int32) (u : Option rx_H) : Option (Int32 × Option rx_H) := f_X7_ends_0 F x0 x1 x2 x3 u
def c_X7_ends {α : Type} (F : Nat × Nat) (as : List Value) (u : Option rx_H) (κ : rx_K α) : Option α := match as with
  | [.ref a0, .int a1, .int a2, .int a3] => (f_X7_ends F a0 a1 a2 a3 u).bind fun r => κ (some (.int r.1)) r.2
  | _ => none
noncomputable def C_X7_ends {α : Type} (F : Nat × Nat) : rx_Cl α := fun j as u κ => Bool.rec (motive := fun _ => Option α) (Bool.rec (motive := fun _ => Option α) (Bool.rec (motive := fun _ => Option α) (Bool.rec (motive := fun _ => Option α) (Bool.rec (motive := fun _ => Option α) (none) (c_X7_lacks F as u κ) (Nat.beq j 179)) (c_X7_isWithin F as u κ) (Nat.beq j 177)) (c_X7_isPlace F as u κ) (Nat.beq j 173)) (c_X7_holdsNow F as u κ) (Nat.beq j 168)) (c_X7_has F as u κ) (Nat.beq j 163)
def t_X7_ends : List rx_E := [
  (0, .iload_n 1, 1, 0, 0, 0, 0, 0, []),
  (1, .invokestatic 62, 3, 173, 1, 803, 0, 0, []),
  (4, .ifCond .eq 10, 3, 14, 0, 0, 0, 0, []),
  (7, .iload_n 3, 1, 0, 0, 0, 0, 0, []),
  (8, .invokestatic 62, 3, 173, 1, 803, 0, 0, []),
  (11, .ifCond .ne 5, 3, 16, 0, 0, 0, 0, []),
  (14, .iconst (-1), 1, 0, 0, 0, (-1), 0, []),
  (15, .ireturn, 1, 0, 0, 0, 0, 0, []),
  (16, .aload_n 0, 1, 0, 0, 0, 0, 0, []),
  (17, .iload_n 1, 1, 0, 0, 0, 0, 0, []),
  (18, .invokevirtual 74, 3, 179, 302, 824, 0, 0, []),
  (21, .ifCond .eq 9, 3, 30, 0, 0, 0, 0, []),
  (24, .aload_n 0, 1, 0, 0, 0, 0, 0, []),
  (25, .iload_n 1, 1, 0, 0, 0, 0, 0, []),
  (26, .invokevirtual 74, 3, 179, 302, 824, 0, 0, []),
  (29, .ireturn, 1, 0, 0, 0, 0, 0, []),
  (30, .lconst 0, 1, 0, 0, 0, 0, 0, []),
  (31, .lstore 4, 2, 0, 0, 0, 0, 0, []),
  (33, .iconst 0, 1, 0, 0, 0, 0, 0, []),
  (34, .istore 6, 2, 0, 0, 0, 0, 0, []),
  (36, .iload 6, 2, 0, 0, 0, 0, 0, []),
  (38, .aload_n 0, 1, 0, 0, 0, 0, 0, []),
  (39, .getfield 51, 3, 3, 8, 755, 0, 0, []),
  (42, .if_icmp .ge 114, 3, 156, 0, 0, 0, 0, []),
  (45, .aload_n 0, 1, 0, 0, 0, 0, 0, []),
  (46, .getfield 20, 3, 3, 22, 758, 0, 0, []),
  (49, .iload_n 1, 1, 0, 0, 0, 0, 0, []),
  (50, .laload, 1, 0, 0, 0, 0, 0, []),
  (51, .iload 6, 2, 0, 0, 0, 0, 0, []),
  (53, .invokestatic 78, 3, 163, 2, 850, 0, 0, []),
  (56, .istore 7, 2, 0, 0, 0, 0, 0, []),
  (58, .iconst 0, 1, 0, 0, 0, 0, 0, []),
  (59, .istore 8, 2, 0, 0, 0, 0, 0, []),
  (61, .iload 8, 2, 0, 0, 0, 0, 0, []),
  (63, .aload_n 0, 1, 0, 0, 0, 0, 0, []),
  (64, .getfield 51, 3, 3, 8, 755, 0, 0, []),
  (67, .if_icmp .ge 69, 3, 136, 0, 0, 0, 0, []),
  (70, .iload 7, 2, 0, 0, 0, 0, 0, []),
  (72, .ifCond .eq 64, 3, 136, 0, 0, 0, 0, []),
  (75, .iload 8, 2, 0, 0, 0, 0, 0, []),
  (77, .iload 6, 2, 0, 0, 0, 0, 0, []),
  (79, .if_icmp .eq 44, 3, 123, 0, 0, 0, 0, []),
  (82, .aload_n 0, 1, 0, 0, 0, 0, 0, []),
  (83, .getfield 20, 3, 3, 22, 758, 0, 0, []),
  (86, .iload_n 1, 1, 0, 0, 0, 0, 0, []),
  (87, .laload, 1, 0, 0, 0, 0, 0, []),
  (88, .iload 8, 2, 0, 0, 0, 0, 0, []),
  (90, .invokestatic 78, 3, 163, 2, 850, 0, 0, []),
  (93, .ifCond .eq 30, 3, 123, 0, 0, 0, 0, []),
  (96, .iload_n 2, 1, 0, 0, 0, 0, 0, []),
  (97, .ifCond .eq 16, 3, 113, 0, 0, 0, 0, []),
  (100, .iload 6, 2, 0, 0, 0, 0, 0, []),
  (102, .iload 8, 2, 0, 0, 0, 0, 0, []),
  (104, .invokestatic 89, 3, 177, 2, 853, 0, 0, []),
  (107, .ifCond .eq 16, 3, 123, 0, 0, 0, 0, []),
  (110, .goto 17, 3, 127, 0, 0, 0, 0, []),
  (113, .iload 8, 2, 0, 0, 0, 0, 0, []),
  (115, .iload 6, 2, 0, 0, 0, 0, 0, []),
  (117, .invokestatic 89, 3, 177, 2, 853, 0, 0, []),
  (120, .ifCond .ne 7, 3, 127, 0, 0, 0, 0, []),
  (123, .iconst 1, 1, 0, 0, 0, 1, 0, []),
  (124, .goto 4, 3, 128, 0, 0, 0, 0, []),
  (127, .iconst 0, 1, 0, 0, 0, 0, 0, []),
  (128, .istore 7, 2, 0, 0, 0, 0, 0, []),
  (130, .iinc 8 1, 3, 0, 0, 0, 1, 0, []),
  (133, .goto (-72), 3, 61, 0, 0, 0, 0, []),
  (136, .iload 7, 2, 0, 0, 0, 0, 0, []),
  (138, .ifCond .eq 12, 3, 150, 0, 0, 0, 0, []),
  (141, .lload 4, 2, 0, 0, 0, 0, 0, []),
  (143, .lconst 1, 1, 0, 0, 0, 0, 1, []),
  (144, .iload 6, 2, 0, 0, 0, 0, 0, []),
  (146, .lshl, 1, 0, 0, 0, 0, 0, []),
  (147, .lor, 1, 0, 0, 0, 0, 0, []),
  (148, .lstore 4, 2, 0, 0, 0, 0, 0, []),
  (150, .iinc 6 1, 3, 0, 0, 0, 1, 0, []),
  (153, .goto (-117), 3, 36, 0, 0, 0, 0, []),
  (156, .aload_n 0, 1, 0, 0, 0, 0, 0, []),
  (157, .iload_n 3, 1, 0, 0, 0, 0, 0, []),
  (158, .iconst 1, 1, 0, 0, 0, 1, 0, []),
  (159, .iconst 0, 1, 0, 0, 0, 0, 0, []),
  (160, .lload 4, 2, 0, 0, 0, 0, 0, []),
  (162, .invokevirtual 70, 3, 168, 305, 813, 0, 0, []),
  (165, .ireturn, 1, 0, 0, 0, 0, 0, [])]
def n_X7_ends_36 (k36 : Nat → Int32 → Int32 → Int32 → Int64 → Int32 → Option rx_H → Option (Int32 × Option rx_H)) (ls : rx_L) (st : List Value) (u : Option rx_H) : Option (Int32 × Option rx_H) := match ls, st, u with
  | [some (.ref x0), some (.int x1), some (.int x2), some (.int x3), some (.long x4), _, some (.int x6), _, _], [], u => k36 x0 x1 x2 x3 x4 x6 u
  | _, _, _ => none
def n_X7_ends_61 (k61 : Nat → Int32 → Int32 → Int32 → Int64 → Int32 → Int32 → Int32 → Option rx_H → Option (Int32 × Option rx_H)) (ls : rx_L) (st : List Value) (u : Option rx_H) : Option (Int32 × Option rx_H) := match ls, st, u with
  | [some (.ref x0), some (.int x1), some (.int x2), some (.int x3), some (.long x4), _, some (.int x6), some (.int x7), some (.int x8)], [], u => k61 x0 x1 x2 x3 x4 x6 x7 x8 u
  | _, _, _ => none
def n_X7_ends_136 (F : Nat × Nat) (k36 : Nat → Int32 → Int32 → Int32 → Int64 → Int32 → Option rx_H → Option (Int32 × Option rx_H)) (ls : rx_L) (st : List Value) (u : Option rx_H) : Option (Int32 × Option rx_H) := match ls, st, u with
  | [some (.ref x0), some (.int x1), some (.int x2), some (.int x3), some (.long x4), _, some (.int x6), some (.int x7), _], [], u => f_X7_ends_136 F k36 x0 x1 x2 x3 x4 x6 x7 u
  | _, _, _ => none
noncomputable def kk_X7_ends_136 (F : Nat × Nat) (k36 : Nat → Int32 → Int32 → Int32 → Int64 → Int32 → Option rx_H → Option (Int32 × Option rx_H)) : Nat → rx_L → List Value → Option rx_H → Option (Int32 × Option rx_H) := fun t ls st u => Bool.rec (motive := fun _ => Option (Int32 × Option rx_H)) (none) (n_X7_ends_36 k36 ls st u) (Nat.beq t 36)
noncomputable def kk_X7_ends_61 (F : Nat × Nat) (k36 : Nat → Int32 → Int32 → Int32 → Int64 → Int32 → Option rx_H → Option (Int32 × Option rx_H)) (k61 : Nat → Int32 → Int32 → Int32 → Int64 → Int32 → Int32 → Int32 → Option rx_H → Option (Int32 × Option rx_H)) : Nat → rx_L → List Value → Option rx_H → Option (Int32 × Option rx_H) := fun t ls st u => Bool.rec (motive := fun _ => Option (Int32 × Option rx_H)) (Bool.rec (motive := fun _ => Option (Int32 × Option rx_H)) (none) (n_X7_ends_136 F k36 ls st u) (Nat.beq t 136)) (n_X7_ends_61 k61 ls st u) (Nat.beq t 61)
noncomputable def kk_X7_ends_36 (F : Nat × Nat) (k36 : Nat → Int32 → Int32 → Int32 → Int64 → Int32 → Option rx_H → Option (Int32 × Option rx_H)) : Nat → rx_L → List Value → Option rx_H → Option (Int32 × Option rx_H) := fun t ls st u => Bool.rec (motive := fun _ => Option (Int32 × Option rx_H)) (none) (n_X7_ends_61 (f_X7_ends_61 F k36 F.1) ls st u) (Nat.beq t 61)
noncomputable def kk_X7_ends_0 (F : Nat × Nat) : Nat → rx_L → List Value → Option rx_H → Option (Int32 × Option rx_H) := fun t ls st u => Bool.rec (motive := fun _ => Option (Int32 × Option rx_H)) (none) (n_X7_ends_36 (f_X7_ends_36 F F.1) ls st u) (Nat.beq t 36)
set_option maxRecDepth 100000 in
theorem g_X7_ends_136 (F : Nat × Nat) (k36 : Nat → Int32 → Int32 → Int32 → Int64 → Int32 → Option rx_H → Option (Int32 × Option rx_H)) (x0 : Nat) (x1 : Int32) (x2 : Int32) (x3 : Int32) (x4 : Int64) (x6 : Int32) (x7 : Int32) (u : Option rx_H) : f_X7_ends_136 F k36 x0 x1 x2 x3 x4 x6 x7 u = rx_node (C_X7_ends F) rx_hI t_X7_ends [36, 61, 136] (kk_X7_ends_136 F k36) 86 136 [some (.ref x0), some (.int x1), some (.int x2), some (.int x3), some (.long x4), none, some (.int x6), some (.int x7), none] [] u := rfl
set_option maxRecDepth 100000 in
theorem g_X7_ends_61 (F : Nat × Nat) (k36 : Nat → Int32 → Int32 → Int32 → Int64 → Int32 → Option rx_H → Option (Int32 × Option rx_H)) (f : Nat) (x0 : Nat) (x1 : Int32) (x2 : Int32) (x3 : Int32) (x4 : Int64) (x6 : Int32) (x7 : Int32) (x8 : Int32) (u : Option rx_H) : f_X7_ends_61 F k36 (f + 1) x0 x1 x2 x3 x4 x6 x7 x8 u = rx_node (C_X7_ends F) rx_hI t_X7_ends [36, 61, 136] (kk_X7_ends_61 F k36 (f_X7_ends_61 F k36 f)) 86 61 [some (.ref x0), some (.int x1), some (.int x2), some (.int x3), some (.long x4), none, some (.int x6), some (.int x7), some (.int x8)] [] u := rfl
set_option maxRecDepth 100000 in
theorem g_X7_ends_36 (F : Nat × Nat) (f : Nat) (x0 : Nat) (x1 : Int32) (x2 : Int32) (x3 : Int32) (x4 : Int64) (x6 : Int32) (u : Option rx_H) : f_X7_ends_36 F (f + 1) x0 x1 x2 x3 x4 x6 u = rx_node (C_X7_ends F) rx_hI t_X7_ends [36, 61, 136] (kk_X7_ends_36 F (f_X7_ends_36 F f)) 86 36 [some (.ref x0), some (.int x1), some (.int x2), some (.int x3), some (.long x4), none, some (.int x6), none, none] [] u := rfl
set_option maxRecDepth 100000 in
theorem g_X7_ends_0 (F : Nat × Nat) (x0 : Nat) (x1 : Int32) (x2 : Int32) (x3 : Int32) (u : Option rx_H) : f_X7_ends_0 F x0 x1 x2 x3 u = rx_node (C_X7_ends F) rx_hI t_X7_ends [36, 61, 136] (kk_X7_ends_0 F) 86 0 [some (.ref x0), some (.int x1), some (.int x2), some (.int x3), none, none, none, none, none] [] u := rfl
def f_X7_each_18 (F : Nat × Nat) (k6 : Nat → Int64 → Int64 → Int32 → Int64 → Int32 → Option rx_H → Option (Int64 × Option rx_H)) : Nat → Nat → Int64 → Int64 → Int32 → Int64 → Int32 → Int32 → Option rx_H → Option (Int64 × Option rx_H)
  | 0, _, _, _, _, _, _, _, _ => none
  | f + 1, x0, x1, x3, x5, x6, x8, x9, u =>
    (rx_gI u x0 3 2).bind fun v1 =>
    if x9 < v1 then
      (f_X7_has F x1 x8).bind fun v2 =>
      if v2 = 0 then
        k6 x0 x1 x3 x5 x6 (x8 + 1) u
      else
        (f_X7_has F x3 x9).bind fun v3 =>
        if v3 = 0 then
          (f_X7_each_18 F k6 f) x0 x1 x3 x5 x6 x8 (x9 + 1) u
        else
          if x5 = 0 then
            (f_X7_each_18 F k6 f) x0 x1 x3 x5 (x6 ||| ((1 : Int64) <<< (Int32.toInt64 (x8 ||| x9) &&& 63))) x8 (x9 + 1) u
          else
            (f_X7_each_18 F k6 f) x0 x1 x3 x5 (x6 ||| ((1 : Int64) <<< (Int32.toInt64 (x8 &&& x9) &&& 63))) x8 (x9 + 1) u
    else
      k6 x0 x1 x3 x5 x6 (x8 + 1) u
def f_X7_each_6 (F : Nat × Nat) : Nat → Nat → Int64 → Int64 → Int32 → Int64 → Int32 → Option rx_H → Option (Int64 × Option rx_H)
  | 0, _, _, _, _, _, _, _ => none
  | f + 1, x0, x1, x3, x5, x6, x8, u =>
    (rx_gI u x0 3 2).bind fun v1 =>
    if x8 < v1 then
      f_X7_each_18 F (f_X7_each_6 F f) F.1 x0 x1 x3 x5 x6 x8 (0 : Int32) u
    else
      some (x6, u)
def f_X7_each_0 (F : Nat × Nat) (x0 : Nat) (x1 : Int64) (x3 : Int64) (x5 : Int32) (u : Option rx_H) : Option (Int64 × Option rx_H) :=
  f_X7_each_6 F F.1 x0 x1 x3 x5 (0 : Int64) (0 : Int32) u
def f_X7_each (F : Nat × Nat) (x0 : Nat) (x1 : Int64) (x3 : Int64) (x5 : Int32) (u : Option rx_H) : Option (Int64 × Option rx_H) := f_X7_each_0 F x0 x1 x3 x5 u
def c_X7_each {α : Type} (F : Nat × Nat) (as : List Value) (u : Option rx_H) (κ : rx_K α) : Option α := match as with
  | [.ref a0, .long a1, .long a2, .int a3] => (f_X7_each F a0 a1 a2 a3 u).bind fun r => κ (some (.long r.1)) r.2
  | _ => none
noncomputable def C_X7_each {α : Type} (F : Nat × Nat) : rx_Cl α := fun j as u κ => Bool.rec (motive := fun _ => Option α) (none) (c_X7_has F as u κ) (Nat.beq j 163)
def t_X7_each : List rx_E := [
  (0, .lconst 0, 1, 0, 0, 0, 0, 0, []),
  (1, .lstore 6, 2, 0, 0, 0, 0, 0, []),
  (3, .iconst 0, 1, 0, 0, 0, 0, 0, []),
  (4, .istore 8, 2, 0, 0, 0, 0, 0, []),
  (6, .iload 8, 2, 0, 0, 0, 0, 0, []),
  (8, .aload_n 0, 1, 0, 0, 0, 0, 0, []),
  (9, .getfield 51, 3, 3, 8, 755, 0, 0, []),
  (12, .if_icmp .ge 70, 3, 82, 0, 0, 0, 0, []),
  (15, .iconst 0, 1, 0, 0, 0, 0, 0, []),
  (16, .istore 9, 2, 0, 0, 0, 0, 0, []),
  (18, .iload 9, 2, 0, 0, 0, 0, 0, []),
  (20, .aload_n 0, 1, 0, 0, 0, 0, 0, []),
  (21, .getfield 51, 3, 3, 8, 755, 0, 0, []),
  (24, .if_icmp .ge 52, 3, 76, 0, 0, 0, 0, []),
  (27, .lload_n 1, 1, 0, 0, 0, 0, 0, []),
  (28, .iload 8, 2, 0, 0, 0, 0, 0, []),
  (30, .invokestatic 78, 3, 163, 2, 850, 0, 0, []),
  (33, .ifCond .eq 43, 3, 76, 0, 0, 0, 0, []),
  (36, .lload_n 3, 1, 0, 0, 0, 0, 0, []),
  (37, .iload 9, 2, 0, 0, 0, 0, 0, []),
  (39, .invokestatic 78, 3, 163, 2, 850, 0, 0, []),
  (42, .ifCond .eq 28, 3, 70, 0, 0, 0, 0, []),
  (45, .lload 6, 2, 0, 0, 0, 0, 0, []),
  (47, .lconst 1, 1, 0, 0, 0, 0, 1, []),
  (48, .iload 5, 2, 0, 0, 0, 0, 0, []),
  (50, .ifCond .eq 11, 3, 61, 0, 0, 0, 0, []),
  (53, .iload 8, 2, 0, 0, 0, 0, 0, []),
  (55, .iload 9, 2, 0, 0, 0, 0, 0, []),
  (57, .iand, 1, 0, 0, 0, 0, 0, []),
  (58, .goto 8, 3, 66, 0, 0, 0, 0, []),
  (61, .iload 8, 2, 0, 0, 0, 0, 0, []),
  (63, .iload 9, 2, 0, 0, 0, 0, 0, []),
  (65, .ior, 1, 0, 0, 0, 0, 0, []),
  (66, .lshl, 1, 0, 0, 0, 0, 0, []),
  (67, .lor, 1, 0, 0, 0, 0, 0, []),
  (68, .lstore 6, 2, 0, 0, 0, 0, 0, []),
  (70, .iinc 9 1, 3, 0, 0, 0, 1, 0, []),
  (73, .goto (-55), 3, 18, 0, 0, 0, 0, []),
  (76, .iinc 8 1, 3, 0, 0, 0, 1, 0, []),
  (79, .goto (-73), 3, 6, 0, 0, 0, 0, []),
  (82, .lload 6, 2, 0, 0, 0, 0, 0, []),
  (84, .lreturn, 1, 0, 0, 0, 0, 0, [])]
def n_X7_each_6 (k6 : Nat → Int64 → Int64 → Int32 → Int64 → Int32 → Option rx_H → Option (Int64 × Option rx_H)) (ls : rx_L) (st : List Value) (u : Option rx_H) : Option (Int64 × Option rx_H) := match ls, st, u with
  | [some (.ref x0), some (.long x1), _, some (.long x3), _, some (.int x5), some (.long x6), _, some (.int x8), _], [], u => k6 x0 x1 x3 x5 x6 x8 u
  | _, _, _ => none
def n_X7_each_18 (k18 : Nat → Int64 → Int64 → Int32 → Int64 → Int32 → Int32 → Option rx_H → Option (Int64 × Option rx_H)) (ls : rx_L) (st : List Value) (u : Option rx_H) : Option (Int64 × Option rx_H) := match ls, st, u with
  | [some (.ref x0), some (.long x1), _, some (.long x3), _, some (.int x5), some (.long x6), _, some (.int x8), some (.int x9)], [], u => k18 x0 x1 x3 x5 x6 x8 x9 u
  | _, _, _ => none
noncomputable def kk_X7_each_18 (F : Nat × Nat) (k6 : Nat → Int64 → Int64 → Int32 → Int64 → Int32 → Option rx_H → Option (Int64 × Option rx_H)) (k18 : Nat → Int64 → Int64 → Int32 → Int64 → Int32 → Int32 → Option rx_H → Option (Int64 × Option rx_H)) : Nat → rx_L → List Value → Option rx_H → Option (Int64 × Option rx_H) := fun t ls st u => Bool.rec (motive := fun _ => Option (Int64 × Option rx_H)) (Bool.rec (motive := fun _ => Option (Int64 × Option rx_H)) (none) (n_X7_each_18 k18 ls st u) (Nat.beq t 18)) (n_X7_each_6 k6 ls st u) (Nat.beq t 6)
noncomputable def kk_X7_each_6 (F : Nat × Nat) (k6 : Nat → Int64 → Int64 → Int32 → Int64 → Int32 → Option rx_H → Option (Int64 × Option rx_H)) : Nat → rx_L → List Value → Option rx_H → Option (Int64 × Option rx_H) := fun t ls st u => Bool.rec (motive := fun _ => Option (Int64 × Option rx_H)) (none) (n_X7_each_18 (f_X7_each_18 F k6 F.1) ls st u) (Nat.beq t 18)
noncomputable def kk_X7_each_0 (F : Nat × Nat) : Nat → rx_L → List Value → Option rx_H → Option (Int64 × Option rx_H) := fun t ls st u => Bool.rec (motive := fun _ => Option (Int64 × Option rx_H)) (none) (n_X7_each_6 (f_X7_each_6 F F.1) ls st u) (Nat.beq t 6)
set_option maxRecDepth 100000 in
theorem g_X7_each_18 (F : Nat × Nat) (k6 : Nat → Int64 → Int64 → Int32 → Int64 → Int32 → Option rx_H → Option (Int64 × Option rx_H)) (f : Nat) (x0 : Nat) (x1 : Int64) (x3 : Int64) (x5 : Int32) (x6 : Int64) (x8 : Int32) (x9 : Int32) (u : Option rx_H) : f_X7_each_18 F k6 (f + 1) x0 x1 x3 x5 x6 x8 x9 u = rx_node (C_X7_each F) rx_hJ t_X7_each [6, 18] (kk_X7_each_18 F k6 (f_X7_each_18 F k6 f)) 45 18 [some (.ref x0), some (.long x1), none, some (.long x3), none, some (.int x5), some (.long x6), none, some (.int x8), some (.int x9)] [] u := rfl
set_option maxRecDepth 100000 in
theorem g_X7_each_6 (F : Nat × Nat) (f : Nat) (x0 : Nat) (x1 : Int64) (x3 : Int64) (x5 : Int32) (x6 : Int64) (x8 : Int32) (u : Option rx_H) : f_X7_each_6 F (f + 1) x0 x1 x3 x5 x6 x8 u = rx_node (C_X7_each F) rx_hJ t_X7_each [6, 18] (kk_X7_each_6 F (f_X7_each_6 F f)) 45 6 [some (.ref x0), some (.long x1), none, some (.long x3), none, some (.int x5), some (.long x6), none, some (.int x8), none] [] u := rfl
set_option maxRecDepth 100000 in
theorem g_X7_each_0 (F : Nat × Nat) (x0 : Nat) (x1 : Int64) (x3 : Int64) (x5 : Int32) (u : Option rx_H) : f_X7_each_0 F x0 x1 x3 x5 u = rx_node (C_X7_each F) rx_hJ t_X7_each [6, 18] (kk_X7_each_0 F) 45 0 [some (.ref x0), some (.long x1), none, some (.long x3), none, some (.int x5), none, none, none, none] [] u := rfl
def f_X7_mix_152 (F : Nat × Nat) (x0 : Nat) (x4 : Int32) (s0 : Int64) (u : Option rx_H) : Option (Int32 × Option rx_H) :=
  (rx_ck u x0 3).bind fun _ =>
  (f_X7_holdsNow F x0 x4 (0 : Int32) (0 : Int32) s0 u).bind fun v1 =>
  some (v1.1, v1.2)
def f_X7_mix_149 (F : Nat × Nat) (x0 : Nat) (x4 : Int32) (s0 : Nat) (s1 : Int64) (s2 : Int64) (s3 : Int32) (u : Option rx_H) : Option (Int32 × Option rx_H) :=
  (rx_ck u s0 3).bind fun _ =>
  (f_X7_each F s0 s1 s2 s3 u).bind fun v1 =>
  f_X7_mix_152 F x0 x4 v1.1 v1.2
def f_X7_mix_0 (F : Nat × Nat) (x0 : Nat) (x1 : Int32) (x2 : Int32) (x3 : Int32) (x4 : Int32) (u : Option rx_H) : Option (Int32 × Option rx_H) :=
  (f_X7_isPlace F x1).bind fun v1 =>
  if v1 = 0 then
    some ((-1 : Int32), u)
  else
    (f_X7_isPlace F x2).bind fun v2 =>
    if v2 = 0 then
      some ((-1 : Int32), u)
    else
      (f_X7_isIn F x3 (0 : Int32) (5 : Int32)).bind fun v3 =>
      if v3 = 0 then
        some ((-1 : Int32), u)
      else
        (f_X7_isPlace F x4).bind fun v4 =>
        if v4 = 0 then
          some ((-1 : Int32), u)
        else
          (rx_ck u x0 3).bind fun _ =>
          (f_X7_lacks F x0 x1 u).bind fun v5 =>
          (rx_ck v5.2 x0 3).bind fun _ =>
          (f_X7_lacks F x0 x2 v5.2).bind fun v6 =>
          (f_X7_lacking F v5.1 v6.1).bind fun v7 =>
          if v7 = 0 then
            (rx_gR v6.2 x0 3 5).bind fun v8 =>
            (rx_aJ v6.2 v8 x1).bind fun v9 =>
            (rx_gR v6.2 x0 3 5).bind fun v10 =>
            (rx_aJ v6.2 v10 x2).bind fun v11 =>
            if x3 = 0 then
              f_X7_mix_152 F x0 x4 (v9 &&& v11) v6.2
            else
              if x3 = (1 : Int32) then
                f_X7_mix_152 F x0 x4 (v9 ||| v11) v6.2
              else
                if x3 = (2 : Int32) then
                  f_X7_mix_152 F x0 x4 (v9 &&& (v11 ^^^ (-1 : Int64))) v6.2
                else
                  if x3 = (3 : Int32) then
                    f_X7_mix_152 F x0 x4 (v9 ^^^ v11) v6.2
                  else
                    if x3 = (4 : Int32) then
                      f_X7_mix_149 F x0 x4 x0 v9 v11 (1 : Int32) v6.2
                    else
                      f_X7_mix_149 F x0 x4 x0 v9 v11 (0 : Int32) v6.2
          else
            (rx_ck v6.2 x0 3).bind fun _ =>
            (f_X7_lacks F x0 x1 v6.2).bind fun v12 =>
            (rx_ck v12.2 x0 3).bind fun _ =>
            (f_X7_lacks F x0 x2 v12.2).bind fun v13 =>
            (f_X7_lacking F v12.1 v13.1).bind fun v14 =>
            some (v14, v13.2)
def f_X7_mix (F : Nat × Nat) (x0 : Nat) (x1 : Int32) (x2 : Int32) (x3 : Int32) (x4 : Int32) (u : Option rx_H) : Option (Int32 × Option rx_H) := f_X7_mix_0 F x0 x1 x2 x3 x4 u
def c_X7_mix {α : Type} (F : Nat × Nat) (as : List Value) (u : Option rx_H) (κ : rx_K α) : Option α := match as with
  | [.ref a0, .int a1, .int a2, .int a3, .int a4] => (f_X7_mix F a0 a1 a2 a3 a4 u).bind fun r => κ (some (.int r.1)) r.2
  | _ => none
noncomputable def C_X7_mix {α : Type} (F : Nat × Nat) : rx_Cl α := fun j as u κ => Bool.rec (motive := fun _ => Option α) (Bool.rec (motive := fun _ => Option α) (Bool.rec (motive := fun _ => Option α) (Bool.rec (motive := fun _ => Option α) (Bool.rec (motive := fun _ => Option α) (Bool.rec (motive := fun _ => Option α) (none) (c_X7_lacks F as u κ) (Nat.beq j 179)) (c_X7_lacking F as u κ) (Nat.beq j 178)) (c_X7_isPlace F as u κ) (Nat.beq j 173)) (c_X7_isIn F as u κ) (Nat.beq j 171)) (c_X7_holdsNow F as u κ) (Nat.beq j 168)) (c_X7_each F as u κ) (Nat.beq j 152)
def t_X7_mix : List rx_E := [
  (0, .iload_n 1, 1, 0, 0, 0, 0, 0, []),
  (1, .invokestatic 62, 3, 173, 1, 803, 0, 0, []),
  (4, .ifCond .eq 27, 3, 31, 0, 0, 0, 0, []),
  (7, .iload_n 2, 1, 0, 0, 0, 0, 0, []),
  (8, .invokestatic 62, 3, 173, 1, 803, 0, 0, []),
  (11, .ifCond .eq 20, 3, 31, 0, 0, 0, 0, []),
  (14, .iload_n 3, 1, 0, 0, 0, 0, 0, []),
  (15, .iconst 0, 1, 0, 0, 0, 0, 0, []),
  (16, .iconst 5, 1, 0, 0, 0, 5, 0, []),
  (17, .invokestatic 54, 3, 171, 3, 806, 0, 0, []),
  (20, .ifCond .eq 11, 3, 31, 0, 0, 0, 0, []),
  (23, .iload 4, 2, 0, 0, 0, 0, 0, []),
  (25, .invokestatic 62, 3, 173, 1, 803, 0, 0, []),
  (28, .ifCond .ne 5, 3, 33, 0, 0, 0, 0, []),
  (31, .iconst (-1), 1, 0, 0, 0, (-1), 0, []),
  (32, .ireturn, 1, 0, 0, 0, 0, 0, []),
  (33, .aload_n 0, 1, 0, 0, 0, 0, 0, []),
  (34, .iload_n 1, 1, 0, 0, 0, 0, 0, []),
  (35, .invokevirtual 74, 3, 179, 302, 824, 0, 0, []),
  (38, .aload_n 0, 1, 0, 0, 0, 0, 0, []),
  (39, .iload_n 2, 1, 0, 0, 0, 0, 0, []),
  (40, .invokevirtual 74, 3, 179, 302, 824, 0, 0, []),
  (43, .invokestatic 120, 3, 178, 2, 925, 0, 0, []),
  (46, .ifCond .eq 17, 3, 63, 0, 0, 0, 0, []),
  (49, .aload_n 0, 1, 0, 0, 0, 0, 0, []),
  (50, .iload_n 1, 1, 0, 0, 0, 0, 0, []),
  (51, .invokevirtual 74, 3, 179, 302, 824, 0, 0, []),
  (54, .aload_n 0, 1, 0, 0, 0, 0, 0, []),
  (55, .iload_n 2, 1, 0, 0, 0, 0, 0, []),
  (56, .invokevirtual 74, 3, 179, 302, 824, 0, 0, []),
  (59, .invokestatic 120, 3, 178, 2, 925, 0, 0, []),
  (62, .ireturn, 1, 0, 0, 0, 0, 0, []),
  (63, .aload_n 0, 1, 0, 0, 0, 0, 0, []),
  (64, .getfield 20, 3, 3, 22, 758, 0, 0, []),
  (67, .iload_n 1, 1, 0, 0, 0, 0, 0, []),
  (68, .laload, 1, 0, 0, 0, 0, 0, []),
  (69, .lstore 5, 2, 0, 0, 0, 0, 0, []),
  (71, .aload_n 0, 1, 0, 0, 0, 0, 0, []),
  (72, .getfield 20, 3, 3, 22, 758, 0, 0, []),
  (75, .iload_n 2, 1, 0, 0, 0, 0, 0, []),
  (76, .laload, 1, 0, 0, 0, 0, 0, []),
  (77, .lstore 7, 2, 0, 0, 0, 0, 0, []),
  (79, .iload_n 3, 1, 0, 0, 0, 0, 0, []),
  (80, .ifCond .ne 11, 3, 91, 0, 0, 0, 0, []),
  (83, .lload 5, 2, 0, 0, 0, 0, 0, []),
  (85, .lload 7, 2, 0, 0, 0, 0, 0, []),
  (87, .land, 1, 0, 0, 0, 0, 0, []),
  (88, .goto 64, 3, 152, 0, 0, 0, 0, []),
  (91, .iload_n 3, 1, 0, 0, 0, 0, 0, []),
  (92, .iconst 1, 1, 0, 0, 0, 1, 0, []),
  (93, .if_icmp .ne 11, 3, 104, 0, 0, 0, 0, []),
  (96, .lload 5, 2, 0, 0, 0, 0, 0, []),
  (98, .lload 7, 2, 0, 0, 0, 0, 0, []),
  (100, .lor, 1, 0, 0, 0, 0, 0, []),
  (101, .goto 51, 3, 152, 0, 0, 0, 0, []),
  (104, .iload_n 3, 1, 0, 0, 0, 0, 0, []),
  (105, .iconst 2, 1, 0, 0, 0, 2, 0, []),
  (106, .if_icmp .ne 15, 3, 121, 0, 0, 0, 0, []),
  (109, .lload 5, 2, 0, 0, 0, 0, 0, []),
  (111, .lload 7, 2, 0, 0, 0, 0, 0, []),
  (113, .ldc2_w 102, 3, 0, 0, 860, 0, (-1), []),
  (116, .lxor, 1, 0, 0, 0, 0, 0, []),
  (117, .land, 1, 0, 0, 0, 0, 0, []),
  (118, .goto 34, 3, 152, 0, 0, 0, 0, []),
  (121, .iload_n 3, 1, 0, 0, 0, 0, 0, []),
  (122, .iconst 3, 1, 0, 0, 0, 3, 0, []),
  (123, .if_icmp .ne 11, 3, 134, 0, 0, 0, 0, []),
  (126, .lload 5, 2, 0, 0, 0, 0, 0, []),
  (128, .lload 7, 2, 0, 0, 0, 0, 0, []),
  (130, .lxor, 1, 0, 0, 0, 0, 0, []),
  (131, .goto 21, 3, 152, 0, 0, 0, 0, []),
  (134, .aload_n 0, 1, 0, 0, 0, 0, 0, []),
  (135, .lload 5, 2, 0, 0, 0, 0, 0, []),
  (137, .lload 7, 2, 0, 0, 0, 0, 0, []),
  (139, .iload_n 3, 1, 0, 0, 0, 0, 0, []),
  (140, .iconst 4, 1, 0, 0, 0, 4, 0, []),
  (141, .if_icmp .ne 7, 3, 148, 0, 0, 0, 0, []),
  (144, .iconst 1, 1, 0, 0, 0, 1, 0, []),
  (145, .goto 4, 3, 149, 0, 0, 0, 0, []),
  (148, .iconst 0, 1, 0, 0, 0, 0, 0, []),
  (149, .invokevirtual 123, 3, 152, 304, 928, 0, 0, []),
  (152, .lstore 9, 2, 0, 0, 0, 0, 0, []),
  (154, .aload_n 0, 1, 0, 0, 0, 0, 0, []),
  (155, .iload 4, 2, 0, 0, 0, 0, 0, []),
  (157, .iconst 0, 1, 0, 0, 0, 0, 0, []),
  (158, .iconst 0, 1, 0, 0, 0, 0, 0, []),
  (159, .lload 9, 2, 0, 0, 0, 0, 0, []),
  (161, .invokevirtual 70, 3, 168, 305, 813, 0, 0, []),
  (164, .ireturn, 1, 0, 0, 0, 0, 0, [])]
def n_X7_mix_149 (F : Nat × Nat) (ls : rx_L) (st : List Value) (u : Option rx_H) : Option (Int32 × Option rx_H) := match ls, st, u with
  | [some (.ref x0), _, _, _, some (.int x4), _, _, _, _, _, _], [.int s3, .long s2, .long s1, .ref s0], u => f_X7_mix_149 F x0 x4 s0 s1 s2 s3 u
  | _, _, _ => none
def n_X7_mix_152 (F : Nat × Nat) (ls : rx_L) (st : List Value) (u : Option rx_H) : Option (Int32 × Option rx_H) := match ls, st, u with
  | [some (.ref x0), _, _, _, some (.int x4), _, _, _, _, _, _], [.long s0], u => f_X7_mix_152 F x0 x4 s0 u
  | _, _, _ => none
noncomputable def kk_X7_mix_152 (F : Nat × Nat) : Nat → rx_L → List Value → Option rx_H → Option (Int32 × Option rx_H) := fun t ls st u => none
noncomputable def kk_X7_mix_149 (F : Nat × Nat) : Nat → rx_L → List Value → Option rx_H → Option (Int32 × Option rx_H) := fun t ls st u => Bool.rec (motive := fun _ => Option (Int32 × Option rx_H)) (none) (n_X7_mix_152 F ls st u) (Nat.beq t 152)
noncomputable def kk_X7_mix_0 (F : Nat × Nat) : Nat → rx_L → List Value → Option rx_H → Option (Int32 × Option rx_H) := fun t ls st u => Bool.rec (motive := fun _ => Option (Int32 × Option rx_H)) (Bool.rec (motive := fun _ => Option (Int32 × Option rx_H)) (none) (n_X7_mix_152 F ls st u) (Nat.beq t 152)) (n_X7_mix_149 F ls st u) (Nat.beq t 149)
set_option maxRecDepth 100000 in
theorem g_X7_mix_152 (F : Nat × Nat) (x0 : Nat) (x4 : Int32) (s0 : Int64) (u : Option rx_H) : f_X7_mix_152 F x0 x4 s0 u = rx_node (C_X7_mix F) rx_hI t_X7_mix [149, 152] (kk_X7_mix_152 F) 92 152 [some (.ref x0), none, none, none, some (.int x4), none, none, none, none, none, none] [.long s0] u := rfl
set_option maxRecDepth 100000 in
theorem g_X7_mix_149 (F : Nat × Nat) (x0 : Nat) (x4 : Int32) (s0 : Nat) (s1 : Int64) (s2 : Int64) (s3 : Int32) (u : Option rx_H) : f_X7_mix_149 F x0 x4 s0 s1 s2 s3 u = rx_node (C_X7_mix F) rx_hI t_X7_mix [149, 152] (kk_X7_mix_149 F) 92 149 [some (.ref x0), none, none, none, some (.int x4), none, none, none, none, none, none] [.int s3, .long s2, .long s1, .ref s0] u := rfl
set_option maxRecDepth 100000 in
theorem g_X7_mix_0 (F : Nat × Nat) (x0 : Nat) (x1 : Int32) (x2 : Int32) (x3 : Int32) (x4 : Int32) (u : Option rx_H) : f_X7_mix_0 F x0 x1 x2 x3 x4 u = rx_node (C_X7_mix F) rx_hI t_X7_mix [149, 152] (kk_X7_mix_0 F) 92 0 [some (.ref x0), some (.int x1), some (.int x2), some (.int x3), some (.int x4), none, none, none, none, none, none] [] u := rfl
def f_X7_rest_36 (F : Nat × Nat) : Nat → Nat → Int32 → Int32 → Int32 → Int64 → Int32 → Option rx_H → Option (Int32 × Option rx_H)
  | 0, _, _, _, _, _, _, _ => none
  | f + 1, x0, x1, x2, x3, x4, x6, u =>
    (rx_gI u x0 3 2).bind fun v1 =>
    if x6 < v1 then
      if x2 = 0 then
        (rx_gR u x0 3 5).bind fun v2 =>
        (rx_aJ u v2 x1).bind fun v3 =>
        (f_X7_has F v3 x6).bind fun v4 =>
        if v4 = 0 then
          (f_X7_rest_36 F f) x0 x1 x2 x3 (x4 ||| ((1 : Int64) <<< (Int32.toInt64 x6 &&& 63))) (x6 + 1) u
        else
          (f_X7_rest_36 F f) x0 x1 x2 x3 x4 (x6 + 1) u
      else
        (rx_gR u x0 3 5).bind fun v5 =>
        (rx_aJ u v5 x1).bind fun v6 =>
        (rx_gI u x0 3 2).bind fun v7 =>
        (f_X7_has F v6 ((v7 - (1 : Int32)) - x6)).bind fun v8 =>
        if v8 = 0 then
          (f_X7_rest_36 F f) x0 x1 x2 x3 x4 (x6 + 1) u
        else
          (f_X7_rest_36 F f) x0 x1 x2 x3 (x4 ||| ((1 : Int64) <<< (Int32.toInt64 x6 &&& 63))) (x6 + 1) u
    else
      (rx_ck u x0 3).bind fun _ =>
      (f_X7_holdsNow F x0 x3 (0 : Int32) (0 : Int32) x4 u).bind fun v9 =>
      some (v9.1, v9.2)
def f_X7_rest_0 (F : Nat × Nat) (x0 : Nat) (x1 : Int32) (x2 : Int32) (x3 : Int32) (u : Option rx_H) : Option (Int32 × Option rx_H) :=
  (f_X7_isPlace F x1).bind fun v1 =>
  if v1 = 0 then
    some ((-1 : Int32), u)
  else
    (f_X7_isPlace F x3).bind fun v2 =>
    if v2 = 0 then
      some ((-1 : Int32), u)
    else
      (rx_ck u x0 3).bind fun _ =>
      (f_X7_lacks F x0 x1 u).bind fun v3 =>
      if v3.1 = 0 then
        f_X7_rest_36 F F.1 x0 x1 x2 x3 (0 : Int64) (0 : Int32) v3.2
      else
        (rx_ck v3.2 x0 3).bind fun _ =>
        (f_X7_lacks F x0 x1 v3.2).bind fun v4 =>
        some (v4.1, v4.2)
def f_X7_rest (F : Nat × Nat) (x0 : Nat) (x1 : Int32) (x2 : Int32) (x3 : Int32) (u : Option rx_H) : Option (Int32 × Option rx_H) := f_X7_rest_0 F x0 x1 x2 x3 u
def c_X7_rest {α : Type} (F : Nat × Nat) (as : List Value) (u : Option rx_H) (κ : rx_K α) : Option α := match as with
  | [.ref a0, .int a1, .int a2, .int a3] => (f_X7_rest F a0 a1 a2 a3 u).bind fun r => κ (some (.int r.1)) r.2
  | _ => none
noncomputable def C_X7_rest {α : Type} (F : Nat × Nat) : rx_Cl α := fun j as u κ => Bool.rec (motive := fun _ => Option α) (Bool.rec (motive := fun _ => Option α) (Bool.rec (motive := fun _ => Option α) (Bool.rec (motive := fun _ => Option α) (none) (c_X7_lacks F as u κ) (Nat.beq j 179)) (c_X7_isPlace F as u κ) (Nat.beq j 173)) (c_X7_holdsNow F as u κ) (Nat.beq j 168)) (c_X7_has F as u κ) (Nat.beq j 163)
def t_X7_rest : List rx_E := [
  (0, .iload_n 1, 1, 0, 0, 0, 0, 0, []),
  (1, .invokestatic 62, 3, 173, 1, 803, 0, 0, []),
  (4, .ifCond .eq 10, 3, 14, 0, 0, 0, 0, []),
  (7, .iload_n 3, 1, 0, 0, 0, 0, 0, []),
  (8, .invokestatic 62, 3, 173, 1, 803, 0, 0, []),
  (11, .ifCond .ne 5, 3, 16, 0, 0, 0, 0, []),
  (14, .iconst (-1), 1, 0, 0, 0, (-1), 0, []),
  (15, .ireturn, 1, 0, 0, 0, 0, 0, []),
  (16, .aload_n 0, 1, 0, 0, 0, 0, 0, []),
  (17, .iload_n 1, 1, 0, 0, 0, 0, 0, []),
  (18, .invokevirtual 74, 3, 179, 302, 824, 0, 0, []),
  (21, .ifCond .eq 9, 3, 30, 0, 0, 0, 0, []),
  (24, .aload_n 0, 1, 0, 0, 0, 0, 0, []),
  (25, .iload_n 1, 1, 0, 0, 0, 0, 0, []),
  (26, .invokevirtual 74, 3, 179, 302, 824, 0, 0, []),
  (29, .ireturn, 1, 0, 0, 0, 0, 0, []),
  (30, .lconst 0, 1, 0, 0, 0, 0, 0, []),
  (31, .lstore 4, 2, 0, 0, 0, 0, 0, []),
  (33, .iconst 0, 1, 0, 0, 0, 0, 0, []),
  (34, .istore 6, 2, 0, 0, 0, 0, 0, []),
  (36, .iload 6, 2, 0, 0, 0, 0, 0, []),
  (38, .aload_n 0, 1, 0, 0, 0, 0, 0, []),
  (39, .getfield 51, 3, 3, 8, 755, 0, 0, []),
  (42, .if_icmp .ge 60, 3, 102, 0, 0, 0, 0, []),
  (45, .iload_n 2, 1, 0, 0, 0, 0, 0, []),
  (46, .ifCond .eq 27, 3, 73, 0, 0, 0, 0, []),
  (49, .aload_n 0, 1, 0, 0, 0, 0, 0, []),
  (50, .getfield 20, 3, 3, 22, 758, 0, 0, []),
  (53, .iload_n 1, 1, 0, 0, 0, 0, 0, []),
  (54, .laload, 1, 0, 0, 0, 0, 0, []),
  (55, .aload_n 0, 1, 0, 0, 0, 0, 0, []),
  (56, .getfield 51, 3, 3, 8, 755, 0, 0, []),
  (59, .iconst 1, 1, 0, 0, 0, 1, 0, []),
  (60, .isub, 1, 0, 0, 0, 0, 0, []),
  (61, .iload 6, 2, 0, 0, 0, 0, 0, []),
  (63, .isub, 1, 0, 0, 0, 0, 0, []),
  (64, .invokestatic 78, 3, 163, 2, 850, 0, 0, []),
  (67, .ifCond .eq 29, 3, 96, 0, 0, 0, 0, []),
  (70, .goto 17, 3, 87, 0, 0, 0, 0, []),
  (73, .aload_n 0, 1, 0, 0, 0, 0, 0, []),
  (74, .getfield 20, 3, 3, 22, 758, 0, 0, []),
  (77, .iload_n 1, 1, 0, 0, 0, 0, 0, []),
  (78, .laload, 1, 0, 0, 0, 0, 0, []),
  (79, .iload 6, 2, 0, 0, 0, 0, 0, []),
  (81, .invokestatic 78, 3, 163, 2, 850, 0, 0, []),
  (84, .ifCond .ne 12, 3, 96, 0, 0, 0, 0, []),
  (87, .lload 4, 2, 0, 0, 0, 0, 0, []),
  (89, .lconst 1, 1, 0, 0, 0, 0, 1, []),
  (90, .iload 6, 2, 0, 0, 0, 0, 0, []),
  (92, .lshl, 1, 0, 0, 0, 0, 0, []),
  (93, .lor, 1, 0, 0, 0, 0, 0, []),
  (94, .lstore 4, 2, 0, 0, 0, 0, 0, []),
  (96, .iinc 6 1, 3, 0, 0, 0, 1, 0, []),
  (99, .goto (-63), 3, 36, 0, 0, 0, 0, []),
  (102, .aload_n 0, 1, 0, 0, 0, 0, 0, []),
  (103, .iload_n 3, 1, 0, 0, 0, 0, 0, []),
  (104, .iconst 0, 1, 0, 0, 0, 0, 0, []),
  (105, .iconst 0, 1, 0, 0, 0, 0, 0, []),
  (106, .lload 4, 2, 0, 0, 0, 0, 0, []),
  (108, .invokevirtual 70, 3, 168, 305, 813, 0, 0, []),
  (111, .ireturn, 1, 0, 0, 0, 0, 0, [])]
def n_X7_rest_36 (k36 : Nat → Int32 → Int32 → Int32 → Int64 → Int32 → Option rx_H → Option (Int32 × Option rx_H)) (ls : rx_L) (st : List Value) (u : Option rx_H) : Option (Int32 × Option rx_H) := match ls, st, u with
  | [some (.ref x0), some (.int x1), some (.int x2), some (.int x3), some (.long x4), _, some (.int x6)], [], u => k36 x0 x1 x2 x3 x4 x6 u
  | _, _, _ => none
noncomputable def kk_X7_rest_36 (F : Nat × Nat) (k36 : Nat → Int32 → Int32 → Int32 → Int64 → Int32 → Option rx_H → Option (Int32 × Option rx_H)) : Nat → rx_L → List Value → Option rx_H → Option (Int32 × Option rx_H) := fun t ls st u => Bool.rec (motive := fun _ => Option (Int32 × Option rx_H)) (none) (n_X7_rest_36 k36 ls st u) (Nat.beq t 36)
noncomputable def kk_X7_rest_0 (F : Nat × Nat) : Nat → rx_L → List Value → Option rx_H → Option (Int32 × Option rx_H) := fun t ls st u => Bool.rec (motive := fun _ => Option (Int32 × Option rx_H)) (none) (n_X7_rest_36 (f_X7_rest_36 F F.1) ls st u) (Nat.beq t 36)
set_option maxRecDepth 100000 in
theorem g_X7_rest_36 (F : Nat × Nat) (f : Nat) (x0 : Nat) (x1 : Int32) (x2 : Int32) (x3 : Int32) (x4 : Int64) (x6 : Int32) (u : Option rx_H) : f_X7_rest_36 F (f + 1) x0 x1 x2 x3 x4 x6 u = rx_node (C_X7_rest F) rx_hI t_X7_rest [36] (kk_X7_rest_36 F (f_X7_rest_36 F f)) 64 36 [some (.ref x0), some (.int x1), some (.int x2), some (.int x3), some (.long x4), none, some (.int x6)] [] u := rfl
set_option maxRecDepth 100000 in
theorem g_X7_rest_0 (F : Nat × Nat) (x0 : Nat) (x1 : Int32) (x2 : Int32) (x3 : Int32) (u : Option rx_H) : f_X7_rest_0 F x0 x1 x2 x3 u = rx_node (C_X7_rest F) rx_hI t_X7_rest [36] (kk_X7_rest_0 F) 64 0 [some (.ref x0), some (.int x1), some (.int x2), some (.int x3), none, none, none] [] u := rfl
def f_X7_traceOf_6 (F : Nat × Nat) : Nat → Nat → Int64 → Int32 → Int64 → Int32 → Option rx_H → Option (Int64 × Option rx_H)
  | 0, _, _, _, _, _, _ => none
  | f + 1, x0, x1, x3, x4, x6, u =>
    (rx_gI u x0 3 2).bind fun v1 =>
    if x6 < v1 then
      (f_X7_has F x1 x6).bind fun v2 =>
      if v2 = 0 then
        (f_X7_traceOf_6 F f) x0 x1 x3 x4 (x6 + 1) u
      else
        (f_X7_traceOf_6 F f) x0 x1 x3 (x4 ||| ((1 : Int64) <<< (Int32.toInt64 (x6 &&& x3) &&& 63))) (x6 + 1) u
    else
      some (x4, u)
def f_X7_traceOf_0 (F : Nat × Nat) (x0 : Nat) (x1 : Int64) (x3 : Int32) (u : Option rx_H) : Option (Int64 × Option rx_H) :=
  f_X7_traceOf_6 F F.1 x0 x1 x3 (0 : Int64) (0 : Int32) u
def f_X7_traceOf (F : Nat × Nat) (x0 : Nat) (x1 : Int64) (x3 : Int32) (u : Option rx_H) : Option (Int64 × Option rx_H) := f_X7_traceOf_0 F x0 x1 x3 u
def c_X7_traceOf {α : Type} (F : Nat × Nat) (as : List Value) (u : Option rx_H) (κ : rx_K α) : Option α := match as with
  | [.ref a0, .long a1, .int a2] => (f_X7_traceOf F a0 a1 a2 u).bind fun r => κ (some (.long r.1)) r.2
  | _ => none
noncomputable def C_X7_traceOf {α : Type} (F : Nat × Nat) : rx_Cl α := fun j as u κ => Bool.rec (motive := fun _ => Option α) (none) (c_X7_has F as u κ) (Nat.beq j 163)
def t_X7_traceOf : List rx_E := [
  (0, .lconst 0, 1, 0, 0, 0, 0, 0, []),
  (1, .lstore 4, 2, 0, 0, 0, 0, 0, []),
  (3, .iconst 0, 1, 0, 0, 0, 0, 0, []),
  (4, .istore 6, 2, 0, 0, 0, 0, 0, []),
  (6, .iload 6, 2, 0, 0, 0, 0, 0, []),
  (8, .aload_n 0, 1, 0, 0, 0, 0, 0, []),
  (9, .getfield 51, 3, 3, 8, 755, 0, 0, []),
  (12, .if_icmp .ge 29, 3, 41, 0, 0, 0, 0, []),
  (15, .lload_n 1, 1, 0, 0, 0, 0, 0, []),
  (16, .iload 6, 2, 0, 0, 0, 0, 0, []),
  (18, .invokestatic 78, 3, 163, 2, 850, 0, 0, []),
  (21, .ifCond .eq 14, 3, 35, 0, 0, 0, 0, []),
  (24, .lload 4, 2, 0, 0, 0, 0, 0, []),
  (26, .lconst 1, 1, 0, 0, 0, 0, 1, []),
  (27, .iload 6, 2, 0, 0, 0, 0, 0, []),
  (29, .iload_n 3, 1, 0, 0, 0, 0, 0, []),
  (30, .iand, 1, 0, 0, 0, 0, 0, []),
  (31, .lshl, 1, 0, 0, 0, 0, 0, []),
  (32, .lor, 1, 0, 0, 0, 0, 0, []),
  (33, .lstore 4, 2, 0, 0, 0, 0, 0, []),
  (35, .iinc 6 1, 3, 0, 0, 0, 1, 0, []),
  (38, .goto (-32), 3, 6, 0, 0, 0, 0, []),
  (41, .lload 4, 2, 0, 0, 0, 0, 0, []),
  (43, .lreturn, 1, 0, 0, 0, 0, 0, [])]
def n_X7_traceOf_6 (k6 : Nat → Int64 → Int32 → Int64 → Int32 → Option rx_H → Option (Int64 × Option rx_H)) (ls : rx_L) (st : List Value) (u : Option rx_H) : Option (Int64 × Option rx_H) := match ls, st, u with
  | [some (.ref x0), some (.long x1), _, some (.int x3), some (.long x4), _, some (.int x6)], [], u => k6 x0 x1 x3 x4 x6 u
  | _, _, _ => none
noncomputable def kk_X7_traceOf_6 (F : Nat × Nat) (k6 : Nat → Int64 → Int32 → Int64 → Int32 → Option rx_H → Option (Int64 × Option rx_H)) : Nat → rx_L → List Value → Option rx_H → Option (Int64 × Option rx_H) := fun t ls st u => Bool.rec (motive := fun _ => Option (Int64 × Option rx_H)) (none) (n_X7_traceOf_6 k6 ls st u) (Nat.beq t 6)
noncomputable def kk_X7_traceOf_0 (F : Nat × Nat) : Nat → rx_L → List Value → Option rx_H → Option (Int64 × Option rx_H) := fun t ls st u => Bool.rec (motive := fun _ => Option (Int64 × Option rx_H)) (none) (n_X7_traceOf_6 (f_X7_traceOf_6 F F.1) ls st u) (Nat.beq t 6)
set_option maxRecDepth 100000 in
theorem g_X7_traceOf_6 (F : Nat × Nat) (f : Nat) (x0 : Nat) (x1 : Int64) (x3 : Int32) (x4 : Int64) (x6 : Int32) (u : Option rx_H) : f_X7_traceOf_6 F (f + 1) x0 x1 x3 x4 x6 u = rx_node (C_X7_traceOf F) rx_hJ t_X7_traceOf [6] (kk_X7_traceOf_6 F (f_X7_traceOf_6 F f)) 27 6 [some (.ref x0), some (.long x1), none, some (.int x3), some (.long x4), none, some (.int x6)] [] u := rfl
set_option maxRecDepth 100000 in
theorem g_X7_traceOf_0 (F : Nat × Nat) (x0 : Nat) (x1 : Int64) (x3 : Int32) (u : Option rx_H) : f_X7_traceOf_0 F x0 x1 x3 u = rx_node (C_X7_traceOf F) rx_hJ t_X7_traceOf [6] (kk_X7_traceOf_0 F) 27 0 [some (.ref x0), some (.long x1), none, some (.int x3), none, none, none] [] u := rfl
def f_X7_trace_0 (F : Nat × Nat) (x0 : Nat) (x1 : Int32) (x2 : Int32) (x3 : Int32) (u : Option rx_H) : Option (Int32 × Option rx_H) :=
  (f_X7_isPlace F x1).bind fun v1 =>
  if v1 = 0 then
    some ((-1 : Int32), u)
  else
    (rx_ck u x0 3).bind fun _ =>
    (f_X7_isSet F x0 x2 u).bind fun v2 =>
    if v2.1 = 0 then
      some ((-1 : Int32), v2.2)
    else
      (f_X7_isPlace F x3).bind fun v3 =>
      if v3 = 0 then
        some ((-1 : Int32), v2.2)
      else
        (rx_ck v2.2 x0 3).bind fun _ =>
        (f_X7_lacks F x0 x1 v2.2).bind fun v4 =>
        if v4.1 = 0 then
          (rx_gR v4.2 x0 3 5).bind fun v5 =>
          (rx_aJ v4.2 v5 x1).bind fun v6 =>
          (rx_ck v4.2 x0 3).bind fun _ =>
          (f_X7_traceOf F x0 v6 x2 v4.2).bind fun v7 =>
          (rx_ck v7.2 x0 3).bind fun _ =>
          (f_X7_holdsNow F x0 x3 (0 : Int32) (0 : Int32) v7.1 v7.2).bind fun v8 =>
          some (v8.1, v8.2)
        else
          (rx_ck v4.2 x0 3).bind fun _ =>
          (f_X7_lacks F x0 x1 v4.2).bind fun v9 =>
          some (v9.1, v9.2)
def f_X7_trace (F : Nat × Nat) (x0 : Nat) (x1 : Int32) (x2 : Int32) (x3 : Int32) (u : Option rx_H) : Option (Int32 × Option rx_H) := f_X7_trace_0 F x0 x1 x2 x3 u
def c_X7_trace {α : Type} (F : Nat × Nat) (as : List Value) (u : Option rx_H) (κ : rx_K α) : Option α := match as with
  | [.ref a0, .int a1, .int a2, .int a3] => (f_X7_trace F a0 a1 a2 a3 u).bind fun r => κ (some (.int r.1)) r.2
  | _ => none
noncomputable def C_X7_trace {α : Type} (F : Nat × Nat) : rx_Cl α := fun j as u κ => Bool.rec (motive := fun _ => Option α) (Bool.rec (motive := fun _ => Option α) (Bool.rec (motive := fun _ => Option α) (Bool.rec (motive := fun _ => Option α) (Bool.rec (motive := fun _ => Option α) (none) (c_X7_traceOf F as u κ) (Nat.beq j 217)) (c_X7_lacks F as u κ) (Nat.beq j 179)) (c_X7_isSet F as u κ) (Nat.beq j 174)) (c_X7_isPlace F as u κ) (Nat.beq j 173)) (c_X7_holdsNow F as u κ) (Nat.beq j 168)
def t_X7_trace : List rx_E := [
  (0, .iload_n 1, 1, 0, 0, 0, 0, 0, []),
  (1, .invokestatic 62, 3, 173, 1, 803, 0, 0, []),
  (4, .ifCond .eq 18, 3, 22, 0, 0, 0, 0, []),
  (7, .aload_n 0, 1, 0, 0, 0, 0, 0, []),
  (8, .iload_n 2, 1, 0, 0, 0, 0, 0, []),
  (9, .invokevirtual 96, 3, 174, 302, 832, 0, 0, []),
  (12, .ifCond .eq 10, 3, 22, 0, 0, 0, 0, []),
  (15, .iload_n 3, 1, 0, 0, 0, 0, 0, []),
  (16, .invokestatic 62, 3, 173, 1, 803, 0, 0, []),
  (19, .ifCond .ne 5, 3, 24, 0, 0, 0, 0, []),
  (22, .iconst (-1), 1, 0, 0, 0, (-1), 0, []),
  (23, .ireturn, 1, 0, 0, 0, 0, 0, []),
  (24, .aload_n 0, 1, 0, 0, 0, 0, 0, []),
  (25, .iload_n 1, 1, 0, 0, 0, 0, 0, []),
  (26, .invokevirtual 74, 3, 179, 302, 824, 0, 0, []),
  (29, .ifCond .eq 11, 3, 40, 0, 0, 0, 0, []),
  (32, .aload_n 0, 1, 0, 0, 0, 0, 0, []),
  (33, .iload_n 1, 1, 0, 0, 0, 0, 0, []),
  (34, .invokevirtual 74, 3, 179, 302, 824, 0, 0, []),
  (37, .goto 21, 3, 58, 0, 0, 0, 0, []),
  (40, .aload_n 0, 1, 0, 0, 0, 0, 0, []),
  (41, .iload_n 3, 1, 0, 0, 0, 0, 0, []),
  (42, .iconst 0, 1, 0, 0, 0, 0, 0, []),
  (43, .iconst 0, 1, 0, 0, 0, 0, 0, []),
  (44, .aload_n 0, 1, 0, 0, 0, 0, 0, []),
  (45, .aload_n 0, 1, 0, 0, 0, 0, 0, []),
  (46, .getfield 20, 3, 3, 22, 758, 0, 0, []),
  (49, .iload_n 1, 1, 0, 0, 0, 0, 0, []),
  (50, .laload, 1, 0, 0, 0, 0, 0, []),
  (51, .iload_n 2, 1, 0, 0, 0, 0, 0, []),
  (52, .invokevirtual 127, 3, 217, 303, 940, 0, 0, []),
  (55, .invokevirtual 70, 3, 168, 305, 813, 0, 0, []),
  (58, .ireturn, 1, 0, 0, 0, 0, 0, [])]
noncomputable def kk_X7_trace_0 (F : Nat × Nat) : Nat → rx_L → List Value → Option rx_H → Option (Int32 × Option rx_H) := fun t ls st u => none
set_option maxRecDepth 100000 in
theorem g_X7_trace_0 (F : Nat × Nat) (x0 : Nat) (x1 : Int32) (x2 : Int32) (x3 : Int32) (u : Option rx_H) : f_X7_trace_0 F x0 x1 x2 x3 u = rx_node (C_X7_trace F) rx_hI t_X7_trace [] (kk_X7_trace_0 F) 36 0 [some (.ref x0), some (.int x1), some (.int x2), some (.int x3)] [] u := rfl
def f_X7_isTurn_51 (F : Nat × Nat) (x0 : Nat) (x1 : Int32) (x2 : Int32) (x3 : Int32) (u : Option rx_H) : Option (Int32 × Option rx_H) :=
  if x1 < 0 then
    some ((0 : Int32), u)
  else
    if x2 = 0 then
      (rx_gI u x0 3 2).bind fun v1 =>
      if x3 = v1 - (1 : Int32) then
        some ((1 : Int32), u)
      else
        some ((0 : Int32), u)
    else
      some ((0 : Int32), u)
def f_X7_isTurn_7 (F : Nat × Nat) : Nat → Nat → Int32 → Int32 → Int32 → Int32 → Option rx_H → Option (Int32 × Option rx_H)
  | 0, _, _, _, _, _, _ => none
  | f + 1, x0, x1, x2, x3, x4, u =>
    (rx_gI u x0 3 1).bind fun v1 =>
    if x4 < v1 then
      if x2 < 0 then
        f_X7_isTurn_51 F x0 x1 x2 x3 u
      else
        (rx_gR u x0 3 10).bind fun v2 =>
        (rx_sI u v2 x4 (x2 - x2 / (8 : Int32) * (8 : Int32))).bind fun v3 =>
        (f_X7_isTurn_7 F f) x0 x1 (x2 / (8 : Int32)) (x3 ||| ((1 : Int32) <<< ((x2 - x2 / (8 : Int32) * (8 : Int32)) &&& 31))) (x4 + 1) v3
    else
      f_X7_isTurn_51 F x0 x1 x2 x3 u
def f_X7_isTurn_0 (F : Nat × Nat) (x0 : Nat) (x1 : Int32) (u : Option rx_H) : Option (Int32 × Option rx_H) :=
  f_X7_isTurn_7 F F.1 x0 x1 x1 (0 : Int32) (0 : Int32) u
def f_X7_isTurn (F : Nat × Nat) (x0 : Nat) (x1 : Int32) (u : Option rx_H) : Option (Int32 × Option rx_H) := f_X7_isTurn_0 F x0 x1 u
def c_X7_isTurn {α : Type} (F : Nat × Nat) (as : List Value) (u : Option rx_H) (κ : rx_K α) : Option α := match as with
  | [.ref a0, .int a1] => (f_X7_isTurn F a0 a1 u).bind fun r => κ (some (.int r.1)) r.2
  | _ => none
noncomputable def C_X7_isTurn {α : Type} (F : Nat × Nat) : rx_Cl α := fun j as u κ => none
def t_X7_isTurn : List rx_E := [
  (0, .iload_n 1, 1, 0, 0, 0, 0, 0, []),
  (1, .istore_n 2, 1, 0, 0, 0, 0, 0, []),
  (2, .iconst 0, 1, 0, 0, 0, 0, 0, []),
  (3, .istore_n 3, 1, 0, 0, 0, 0, 0, []),
  (4, .iconst 0, 1, 0, 0, 0, 0, 0, []),
  (5, .istore 4, 2, 0, 0, 0, 0, 0, []),
  (7, .iload 4, 2, 0, 0, 0, 0, 0, []),
  (9, .aload_n 0, 1, 0, 0, 0, 0, 0, []),
  (10, .getfield 48, 3, 3, 4, 754, 0, 0, []),
  (13, .if_icmp .ge 38, 3, 51, 0, 0, 0, 0, []),
  (16, .iload_n 2, 1, 0, 0, 0, 0, 0, []),
  (17, .ifCond .lt 34, 3, 51, 0, 0, 0, 0, []),
  (20, .aload_n 0, 1, 0, 0, 0, 0, 0, []),
  (21, .getfield 36, 3, 3, 42, 763, 0, 0, []),
  (24, .iload 4, 2, 0, 0, 0, 0, 0, []),
  (26, .iload_n 2, 1, 0, 0, 0, 0, 0, []),
  (27, .bipush 8, 2, 0, 0, 0, 8, 0, []),
  (29, .irem, 1, 0, 1, 0, 0, 0, []),
  (30, .iastore, 1, 0, 0, 0, 0, 0, []),
  (31, .iload_n 3, 1, 0, 0, 0, 0, 0, []),
  (32, .iconst 1, 1, 0, 0, 0, 1, 0, []),
  (33, .iload_n 2, 1, 0, 0, 0, 0, 0, []),
  (34, .bipush 8, 2, 0, 0, 0, 8, 0, []),
  (36, .irem, 1, 0, 1, 0, 0, 0, []),
  (37, .ishl, 1, 0, 0, 0, 0, 0, []),
  (38, .ior, 1, 0, 0, 0, 0, 0, []),
  (39, .istore_n 3, 1, 0, 0, 0, 0, 0, []),
  (40, .iload_n 2, 1, 0, 0, 0, 0, 0, []),
  (41, .bipush 8, 2, 0, 0, 0, 8, 0, []),
  (43, .idiv, 1, 0, 1, 0, 0, 0, []),
  (44, .istore_n 2, 1, 0, 0, 0, 0, 0, []),
  (45, .iinc 4 1, 3, 0, 0, 0, 1, 0, []),
  (48, .goto (-41), 3, 7, 0, 0, 0, 0, []),
  (51, .iload_n 1, 1, 0, 0, 0, 0, 0, []),
  (52, .ifCond .lt 21, 3, 73, 0, 0, 0, 0, []),
  (55, .iload_n 2, 1, 0, 0, 0, 0, 0, []),
  (56, .ifCond .ne 17, 3, 73, 0, 0, 0, 0, []),
  (59, .iload_n 3, 1, 0, 0, 0, 0, 0, []),
  (60, .aload_n 0, 1, 0, 0, 0, 0, 0, []),
  (61, .getfield 51, 3, 3, 8, 755, 0, 0, []),
  (64, .iconst 1, 1, 0, 0, 0, 1, 0, []),
  (65, .isub, 1, 0, 0, 0, 0, 0, []),
  (66, .if_icmp .ne 7, 3, 73, 0, 0, 0, 0, []),
  (69, .iconst 1, 1, 0, 0, 0, 1, 0, []),
  (70, .goto 4, 3, 74, 0, 0, 0, 0, []),
  (73, .iconst 0, 1, 0, 0, 0, 0, 0, []),
  (74, .ireturn, 1, 0, 2, 0, 0, 0, [])]
def n_X7_isTurn_7 (k7 : Nat → Int32 → Int32 → Int32 → Int32 → Option rx_H → Option (Int32 × Option rx_H)) (ls : rx_L) (st : List Value) (u : Option rx_H) : Option (Int32 × Option rx_H) := match ls, st, u with
  | [some (.ref x0), some (.int x1), some (.int x2), some (.int x3), some (.int x4)], [], u => k7 x0 x1 x2 x3 x4 u
  | _, _, _ => none
def n_X7_isTurn_51 (F : Nat × Nat) (ls : rx_L) (st : List Value) (u : Option rx_H) : Option (Int32 × Option rx_H) := match ls, st, u with
  | [some (.ref x0), some (.int x1), some (.int x2), some (.int x3), _], [], u => f_X7_isTurn_51 F x0 x1 x2 x3 u
  | _, _, _ => none
noncomputable def kk_X7_isTurn_51 (F : Nat × Nat) : Nat → rx_L → List Value → Option rx_H → Option (Int32 × Option rx_H) := fun t ls st u => none
noncomputable def kk_X7_isTurn_7 (F : Nat × Nat) (k7 : Nat → Int32 → Int32 → Int32 → Int32 → Option rx_H → Option (Int32 × Option rx_H)) : Nat → rx_L → List Value → Option rx_H → Option (Int32 × Option rx_H) := fun t ls st u => Bool.rec (motive := fun _ => Option (Int32 × Option rx_H)) (Bool.rec (motive := fun _ => Option (Int32 × Option rx_H)) (none) (n_X7_isTurn_51 F ls st u) (Nat.beq t 51)) (n_X7_isTurn_7 k7 ls st u) (Nat.beq t 7)
noncomputable def kk_X7_isTurn_0 (F : Nat × Nat) : Nat → rx_L → List Value → Option rx_H → Option (Int32 × Option rx_H) := fun t ls st u => Bool.rec (motive := fun _ => Option (Int32 × Option rx_H)) (none) (n_X7_isTurn_7 (f_X7_isTurn_7 F F.1) ls st u) (Nat.beq t 7)
set_option maxRecDepth 100000 in
theorem g_X7_isTurn_51 (F : Nat × Nat) (x0 : Nat) (x1 : Int32) (x2 : Int32) (x3 : Int32) (u : Option rx_H) : f_X7_isTurn_51 F x0 x1 x2 x3 u = rx_node (C_X7_isTurn F) rx_hI t_X7_isTurn [7, 51] (kk_X7_isTurn_51 F) 50 51 [some (.ref x0), some (.int x1), some (.int x2), some (.int x3), none] [] u := rfl
set_option maxRecDepth 100000 in
theorem g_X7_isTurn_7 (F : Nat × Nat) (f : Nat) (x0 : Nat) (x1 : Int32) (x2 : Int32) (x3 : Int32) (x4 : Int32) (u : Option rx_H) : f_X7_isTurn_7 F (f + 1) x0 x1 x2 x3 x4 u = rx_node (C_X7_isTurn F) rx_hI t_X7_isTurn [7, 51] (kk_X7_isTurn_7 F (f_X7_isTurn_7 F f)) 50 7 [some (.ref x0), some (.int x1), some (.int x2), some (.int x3), some (.int x4)] [] u := rfl
set_option maxRecDepth 100000 in
theorem g_X7_isTurn_0 (F : Nat × Nat) (x0 : Nat) (x1 : Int32) (u : Option rx_H) : f_X7_isTurn_0 F x0 x1 u = rx_node (C_X7_isTurn F) rx_hI t_X7_isTurn [7, 51] (kk_X7_isTurn_0 F) 50 0 [some (.ref x0), some (.int x1), none, none, none] [] u := rfl
def f_X7_turnedSet_4 (F : Nat × Nat) : Nat → Nat → Int32 → Int32 → Int32 → Option rx_H → Option (Int32 × Option rx_H)
  | 0, _, _, _, _, _ => none
  | f + 1, x0, x1, x2, x3, u =>
    (rx_gI u x0 3 1).bind fun v1 =>
    if x3 < v1 then
      (rx_gR u x0 3 10).bind fun v2 =>
      (rx_aI u v2 x3).bind fun v3 =>
      (f_X7_turnedSet_4 F f) x0 x1 (x2 ||| (((x1 >>> (x3 &&& 31)) &&& (1 : Int32)) <<< (v3 &&& 31))) (x3 + 1) u
    else
      some (x2, u)
def f_X7_turnedSet_0 (F : Nat × Nat) (x0 : Nat) (x1 : Int32) (u : Option rx_H) : Option (Int32 × Option rx_H) :=
  f_X7_turnedSet_4 F F.1 x0 x1 (0 : Int32) (0 : Int32) u
def f_X7_turnedSet (F : Nat × Nat) (x0 : Nat) (x1 : Int32) (u : Option rx_H) : Option (Int32 × Option rx_H) := f_X7_turnedSet_0 F x0 x1 u
def c_X7_turnedSet {α : Type} (F : Nat × Nat) (as : List Value) (u : Option rx_H) (κ : rx_K α) : Option α := match as with
  | [.ref a0, .int a1] => (f_X7_turnedSet F a0 a1 u).bind fun r => κ (some (.int r.1)) r.2
  | _ => none
noncomputable def C_X7_turnedSet {α : Type} (F : Nat × Nat) : rx_Cl α := fun j as u κ => none
def t_X7_turnedSet : List rx_E := [
  (0, .iconst 0, 1, 0, 0, 0, 0, 0, []),
  (1, .istore_n 2, 1, 0, 0, 0, 0, 0, []),
  (2, .iconst 0, 1, 0, 0, 0, 0, 0, []),
  (3, .istore_n 3, 1, 0, 0, 0, 0, 0, []),
  (4, .iload_n 3, 1, 0, 0, 0, 0, 0, []),
  (5, .aload_n 0, 1, 0, 0, 0, 0, 0, []),
  (6, .getfield 48, 3, 3, 4, 754, 0, 0, []),
  (9, .if_icmp .ge 24, 3, 33, 0, 0, 0, 0, []),
  (12, .iload_n 2, 1, 0, 0, 0, 0, 0, []),
  (13, .iload_n 1, 1, 0, 0, 0, 0, 0, []),
  (14, .iload_n 3, 1, 0, 0, 0, 0, 0, []),
  (15, .ishr, 1, 0, 0, 0, 0, 0, []),
  (16, .iconst 1, 1, 0, 0, 0, 1, 0, []),
  (17, .iand, 1, 0, 0, 0, 0, 0, []),
  (18, .aload_n 0, 1, 0, 0, 0, 0, 0, []),
  (19, .getfield 36, 3, 3, 42, 763, 0, 0, []),
  (22, .iload_n 3, 1, 0, 0, 0, 0, 0, []),
  (23, .iaload, 1, 0, 0, 0, 0, 0, []),
  (24, .ishl, 1, 0, 0, 0, 0, 0, []),
  (25, .ior, 1, 0, 0, 0, 0, 0, []),
  (26, .istore_n 2, 1, 0, 0, 0, 0, 0, []),
  (27, .iinc 3 1, 3, 0, 0, 0, 1, 0, []),
  (30, .goto (-26), 3, 4, 0, 0, 0, 0, []),
  (33, .iload_n 2, 1, 0, 0, 0, 0, 0, []),
  (34, .ireturn, 1, 0, 0, 0, 0, 0, [])]
def n_X7_turnedSet_4 (k4 : Nat → Int32 → Int32 → Int32 → Option rx_H → Option (Int32 × Option rx_H)) (ls : rx_L) (st : List Value) (u : Option rx_H) : Option (Int32 × Option rx_H) := match ls, st, u with
  | [some (.ref x0), some (.int x1), some (.int x2), some (.int x3)], [], u => k4 x0 x1 x2 x3 u
  | _, _, _ => none
noncomputable def kk_X7_turnedSet_4 (F : Nat × Nat) (k4 : Nat → Int32 → Int32 → Int32 → Option rx_H → Option (Int32 × Option rx_H)) : Nat → rx_L → List Value → Option rx_H → Option (Int32 × Option rx_H) := fun t ls st u => Bool.rec (motive := fun _ => Option (Int32 × Option rx_H)) (none) (n_X7_turnedSet_4 k4 ls st u) (Nat.beq t 4)
noncomputable def kk_X7_turnedSet_0 (F : Nat × Nat) : Nat → rx_L → List Value → Option rx_H → Option (Int32 × Option rx_H) := fun t ls st u => Bool.rec (motive := fun _ => Option (Int32 × Option rx_H)) (none) (n_X7_turnedSet_4 (f_X7_turnedSet_4 F F.1) ls st u) (Nat.beq t 4)
set_option maxRecDepth 100000 in
theorem g_X7_turnedSet_4 (F : Nat × Nat) (f : Nat) (x0 : Nat) (x1 : Int32) (x2 : Int32) (x3 : Int32) (u : Option rx_H) : f_X7_turnedSet_4 F (f + 1) x0 x1 x2 x3 u = rx_node (C_X7_turnedSet F) rx_hI t_X7_turnedSet [4] (kk_X7_turnedSet_4 F (f_X7_turnedSet_4 F f)) 28 4 [some (.ref x0), some (.int x1), some (.int x2), some (.int x3)] [] u := rfl
set_option maxRecDepth 100000 in
theorem g_X7_turnedSet_0 (F : Nat × Nat) (x0 : Nat) (x1 : Int32) (u : Option rx_H) : f_X7_turnedSet_0 F x0 x1 u = rx_node (C_X7_turnedSet F) rx_hI t_X7_turnedSet [4] (kk_X7_turnedSet_0 F) 28 0 [some (.ref x0), some (.int x1), none, none] [] u := rfl
def f_X7_turnedAll_5 (F : Nat × Nat) : Nat → Nat → Int64 → Int64 → Int32 → Option rx_H → Option (Int64 × Option rx_H)
  | 0, _, _, _, _, _ => none
  | f + 1, x0, x1, x3, x5, u =>
    (rx_gI u x0 3 2).bind fun v1 =>
    if x5 < v1 then
      (f_X7_has F x1 x5).bind fun v2 =>
      if v2 = 0 then
        (f_X7_turnedAll_5 F f) x0 x1 x3 (x5 + 1) u
      else
        (rx_ck u x0 3).bind fun _ =>
        (f_X7_turnedSet F x0 x5 u).bind fun v3 =>
        (f_X7_turnedAll_5 F f) x0 x1 (x3 ||| ((1 : Int64) <<< (Int32.toInt64 v3.1 &&& 63))) (x5 + 1) v3.2
    else
      some (x3, u)
def f_X7_turnedAll_0 (F : Nat × Nat) (x0 : Nat) (x1 : Int64) (u : Option rx_H) : Option (Int64 × Option rx_H) :=
  f_X7_turnedAll_5 F F.1 x0 x1 (0 : Int64) (0 : Int32) u
def f_X7_turnedAll (F : Nat × Nat) (x0 : Nat) (x1 : Int64) (u : Option rx_H) : Option (Int64 × Option rx_H) := f_X7_turnedAll_0 F x0 x1 u
def c_X7_turnedAll {α : Type} (F : Nat × Nat) (as : List Value) (u : Option rx_H) (κ : rx_K α) : Option α := match as with
  | [.ref a0, .long a1] => (f_X7_turnedAll F a0 a1 u).bind fun r => κ (some (.long r.1)) r.2
  | _ => none
noncomputable def C_X7_turnedAll {α : Type} (F : Nat × Nat) : rx_Cl α := fun j as u κ => Bool.rec (motive := fun _ => Option α) (Bool.rec (motive := fun _ => Option α) (none) (c_X7_turnedSet F as u κ) (Nat.beq j 220)) (c_X7_has F as u κ) (Nat.beq j 163)
def t_X7_turnedAll : List rx_E := [
  (0, .lconst 0, 1, 0, 0, 0, 0, 0, []),
  (1, .lstore_n 3, 1, 0, 0, 0, 0, 0, []),
  (2, .iconst 0, 1, 0, 0, 0, 0, 0, []),
  (3, .istore 5, 2, 0, 0, 0, 0, 0, []),
  (5, .iload 5, 2, 0, 0, 0, 0, 0, []),
  (7, .aload_n 0, 1, 0, 0, 0, 0, 0, []),
  (8, .getfield 51, 3, 3, 8, 755, 0, 0, []),
  (11, .if_icmp .ge 29, 3, 40, 0, 0, 0, 0, []),
  (14, .lload_n 1, 1, 0, 0, 0, 0, 0, []),
  (15, .iload 5, 2, 0, 0, 0, 0, 0, []),
  (17, .invokestatic 78, 3, 163, 2, 850, 0, 0, []),
  (20, .ifCond .eq 14, 3, 34, 0, 0, 0, 0, []),
  (23, .lload_n 3, 1, 0, 0, 0, 0, 0, []),
  (24, .lconst 1, 1, 0, 0, 0, 0, 1, []),
  (25, .aload_n 0, 1, 0, 0, 0, 0, 0, []),
  (26, .iload 5, 2, 0, 0, 0, 0, 0, []),
  (28, .invokevirtual 131, 3, 220, 302, 956, 0, 0, []),
  (31, .lshl, 1, 0, 0, 0, 0, 0, []),
  (32, .lor, 1, 0, 0, 0, 0, 0, []),
  (33, .lstore_n 3, 1, 0, 0, 0, 0, 0, []),
  (34, .iinc 5 1, 3, 0, 0, 0, 1, 0, []),
  (37, .goto (-32), 3, 5, 0, 0, 0, 0, []),
  (40, .lload_n 3, 1, 0, 0, 0, 0, 0, []),
  (41, .lreturn, 1, 0, 0, 0, 0, 0, [])]
def n_X7_turnedAll_5 (k5 : Nat → Int64 → Int64 → Int32 → Option rx_H → Option (Int64 × Option rx_H)) (ls : rx_L) (st : List Value) (u : Option rx_H) : Option (Int64 × Option rx_H) := match ls, st, u with
  | [some (.ref x0), some (.long x1), _, some (.long x3), _, some (.int x5)], [], u => k5 x0 x1 x3 x5 u
  | _, _, _ => none
noncomputable def kk_X7_turnedAll_5 (F : Nat × Nat) (k5 : Nat → Int64 → Int64 → Int32 → Option rx_H → Option (Int64 × Option rx_H)) : Nat → rx_L → List Value → Option rx_H → Option (Int64 × Option rx_H) := fun t ls st u => Bool.rec (motive := fun _ => Option (Int64 × Option rx_H)) (none) (n_X7_turnedAll_5 k5 ls st u) (Nat.beq t 5)
noncomputable def kk_X7_turnedAll_0 (F : Nat × Nat) : Nat → rx_L → List Value → Option rx_H → Option (Int64 × Option rx_H) := fun t ls st u => Bool.rec (motive := fun _ => Option (Int64 × Option rx_H)) (none) (n_X7_turnedAll_5 (f_X7_turnedAll_5 F F.1) ls st u) (Nat.beq t 5)
set_option maxRecDepth 100000 in
theorem g_X7_turnedAll_5 (F : Nat × Nat) (f : Nat) (x0 : Nat) (x1 : Int64) (x3 : Int64) (x5 : Int32) (u : Option rx_H) : f_X7_turnedAll_5 F (f + 1) x0 x1 x3 x5 u = rx_node (C_X7_turnedAll F) rx_hJ t_X7_turnedAll [5] (kk_X7_turnedAll_5 F (f_X7_turnedAll_5 F f)) 27 5 [some (.ref x0), some (.long x1), none, some (.long x3), none, some (.int x5)] [] u := rfl
set_option maxRecDepth 100000 in
theorem g_X7_turnedAll_0 (F : Nat × Nat) (x0 : Nat) (x1 : Int64) (u : Option rx_H) : f_X7_turnedAll_0 F x0 x1 u = rx_node (C_X7_turnedAll F) rx_hJ t_X7_turnedAll [5] (kk_X7_turnedAll_0 F) 27 0 [some (.ref x0), some (.long x1), none, none, none, none] [] u := rfl
def f_X7_turned_60 (F : Nat × Nat) (x0 : Nat) (x1 : Int32) (s0 : Nat) (s1 : Int32) (s2 : Int32) (u : Option rx_H) : Option (Int32 × Option rx_H) :=
  (rx_gR u x0 3 4).bind fun v1 =>
  (rx_aI u v1 x1).bind fun v2 =>
  (rx_gR u x0 3 5).bind fun v3 =>
  (rx_aJ u v3 x1).bind fun v4 =>
  (rx_ck u x0 3).bind fun _ =>
  (f_X7_turnedAll F x0 v4 u).bind fun v5 =>
  (rx_ck v5.2 s0 3).bind fun _ =>
  (f_X7_holdsNow F s0 s1 s2 v2 v5.1 v5.2).bind fun v6 =>
  some (v6.1, v6.2)
def f_X7_turned_0 (F : Nat × Nat) (x0 : Nat) (x1 : Int32) (x2 : Int32) (x3 : Int32) (u : Option rx_H) : Option (Int32 × Option rx_H) :=
  (f_X7_isPlace F x1).bind fun v1 =>
  if v1 = 0 then
    some ((-1 : Int32), u)
  else
    (rx_ck u x0 3).bind fun _ =>
    (f_X7_isTurn F x0 x2 u).bind fun v2 =>
    if v2.1 = 0 then
      some ((-1 : Int32), v2.2)
    else
      (f_X7_isPlace F x3).bind fun v3 =>
      if v3 = 0 then
        some ((-1 : Int32), v2.2)
      else
        (rx_ck v2.2 x0 3).bind fun _ =>
        (f_X7_lacks F x0 x1 v2.2).bind fun v4 =>
        if v4.1 = 0 then
          (rx_gR v4.2 x0 3 3).bind fun v5 =>
          (rx_aI v4.2 v5 x1).bind fun v6 =>
          if v6 = (5 : Int32) then
            f_X7_turned_60 F x0 x1 x0 x3 (2 : Int32) v4.2
          else
            (rx_gR v4.2 x0 3 3).bind fun v7 =>
            (rx_aI v4.2 v7 x1).bind fun v8 =>
            f_X7_turned_60 F x0 x1 x0 x3 v8 v4.2
        else
          (rx_ck v4.2 x0 3).bind fun _ =>
          (f_X7_lacks F x0 x1 v4.2).bind fun v9 =>
          some (v9.1, v9.2)
def f_X7_turned (F : Nat × Nat) (x0 : Nat) (x1 : Int32) (x2 : Int32) (x3 : Int32) (u : Option rx_H) : Option (Int32 × Option rx_H) := f_X7_turned_0 F x0 x1 x2 x3 u
def c_X7_turned {α : Type} (F : Nat × Nat) (as : List Value) (u : Option rx_H) (κ : rx_K α) : Option α := match as with
  | [.ref a0, .int a1, .int a2, .int a3] => (f_X7_turned F a0 a1 a2 a3 u).bind fun r => κ (some (.int r.1)) r.2
  | _ => none
noncomputable def C_X7_turned {α : Type} (F : Nat × Nat) : rx_Cl α := fun j as u κ => Bool.rec (motive := fun _ => Option α) (Bool.rec (motive := fun _ => Option α) (Bool.rec (motive := fun _ => Option α) (Bool.rec (motive := fun _ => Option α) (Bool.rec (motive := fun _ => Option α) (none) (c_X7_turnedAll F as u κ) (Nat.beq j 219)) (c_X7_lacks F as u κ) (Nat.beq j 179)) (c_X7_isTurn F as u κ) (Nat.beq j 176)) (c_X7_isPlace F as u κ) (Nat.beq j 173)) (c_X7_holdsNow F as u κ) (Nat.beq j 168)
def t_X7_turned : List rx_E := [
  (0, .iload_n 1, 1, 0, 0, 0, 0, 0, []),
  (1, .invokestatic 62, 3, 173, 1, 803, 0, 0, []),
  (4, .ifCond .eq 18, 3, 22, 0, 0, 0, 0, []),
  (7, .aload_n 0, 1, 0, 0, 0, 0, 0, []),
  (8, .iload_n 2, 1, 0, 0, 0, 0, 0, []),
  (9, .invokevirtual 134, 3, 176, 302, 948, 0, 0, []),
  (12, .ifCond .eq 10, 3, 22, 0, 0, 0, 0, []),
  (15, .iload_n 3, 1, 0, 0, 0, 0, 0, []),
  (16, .invokestatic 62, 3, 173, 1, 803, 0, 0, []),
  (19, .ifCond .ne 5, 3, 24, 0, 0, 0, 0, []),
  (22, .iconst (-1), 1, 0, 0, 0, (-1), 0, []),
  (23, .ireturn, 1, 0, 0, 0, 0, 0, []),
  (24, .aload_n 0, 1, 0, 0, 0, 0, 0, []),
  (25, .iload_n 1, 1, 0, 0, 0, 0, 0, []),
  (26, .invokevirtual 74, 3, 179, 302, 824, 0, 0, []),
  (29, .ifCond .eq 9, 3, 38, 0, 0, 0, 0, []),
  (32, .aload_n 0, 1, 0, 0, 0, 0, 0, []),
  (33, .iload_n 1, 1, 0, 0, 0, 0, 0, []),
  (34, .invokevirtual 74, 3, 179, 302, 824, 0, 0, []),
  (37, .ireturn, 1, 0, 0, 0, 0, 0, []),
  (38, .aload_n 0, 1, 0, 0, 0, 0, 0, []),
  (39, .iload_n 3, 1, 0, 0, 0, 0, 0, []),
  (40, .aload_n 0, 1, 0, 0, 0, 0, 0, []),
  (41, .getfield 13, 3, 3, 14, 756, 0, 0, []),
  (44, .iload_n 1, 1, 0, 0, 0, 0, 0, []),
  (45, .iaload, 1, 0, 0, 0, 0, 0, []),
  (46, .iconst 5, 1, 0, 0, 0, 5, 0, []),
  (47, .if_icmp .ne 7, 3, 54, 0, 0, 0, 0, []),
  (50, .iconst 2, 1, 0, 0, 0, 2, 0, []),
  (51, .goto 9, 3, 60, 0, 0, 0, 0, []),
  (54, .aload_n 0, 1, 0, 0, 0, 0, 0, []),
  (55, .getfield 13, 3, 3, 14, 756, 0, 0, []),
  (58, .iload_n 1, 1, 0, 0, 0, 0, 0, []),
  (59, .iaload, 1, 0, 0, 0, 0, 0, []),
  (60, .aload_n 0, 1, 0, 0, 0, 0, 0, []),
  (61, .getfield 17, 3, 3, 18, 757, 0, 0, []),
  (64, .iload_n 1, 1, 0, 0, 0, 0, 0, []),
  (65, .iaload, 1, 0, 0, 0, 0, 0, []),
  (66, .aload_n 0, 1, 0, 0, 0, 0, 0, []),
  (67, .aload_n 0, 1, 0, 0, 0, 0, 0, []),
  (68, .getfield 20, 3, 3, 22, 758, 0, 0, []),
  (71, .iload_n 1, 1, 0, 0, 0, 0, 0, []),
  (72, .laload, 1, 0, 0, 0, 0, 0, []),
  (73, .invokevirtual 137, 3, 219, 302, 952, 0, 0, []),
  (76, .invokevirtual 70, 3, 168, 305, 813, 0, 0, []),
  (79, .ireturn, 1, 0, 0, 0, 0, 0, [])]
def n_X7_turned_60 (F : Nat × Nat) (ls : rx_L) (st : List Value) (u : Option rx_H) : Option (Int32 × Option rx_H) := match ls, st, u with
  | [some (.ref x0), some (.int x1), _, _], [.int s2, .int s1, .ref s0], u => f_X7_turned_60 F x0 x1 s0 s1 s2 u
  | _, _, _ => none
noncomputable def kk_X7_turned_60 (F : Nat × Nat) : Nat → rx_L → List Value → Option rx_H → Option (Int32 × Option rx_H) := fun t ls st u => none
noncomputable def kk_X7_turned_0 (F : Nat × Nat) : Nat → rx_L → List Value → Option rx_H → Option (Int32 × Option rx_H) := fun t ls st u => Bool.rec (motive := fun _ => Option (Int32 × Option rx_H)) (none) (n_X7_turned_60 F ls st u) (Nat.beq t 60)
set_option maxRecDepth 100000 in
theorem g_X7_turned_60 (F : Nat × Nat) (x0 : Nat) (x1 : Int32) (s0 : Nat) (s1 : Int32) (s2 : Int32) (u : Option rx_H) : f_X7_turned_60 F x0 x1 s0 s1 s2 u = rx_node (C_X7_turned F) rx_hI t_X7_turned [60] (kk_X7_turned_60 F) 49 60 [some (.ref x0), some (.int x1), none, none] [.int s2, .int s1, .ref s0] u := rfl
set_option maxRecDepth 100000 in
theorem g_X7_turned_0 (F : Nat × Nat) (x0 : Nat) (x1 : Int32) (x2 : Int32) (x3 : Int32) (u : Option rx_H) : f_X7_turned_0 F x0 x1 x2 x3 u = rx_node (C_X7_turned F) rx_hI t_X7_turned [60] (kk_X7_turned_0 F) 49 0 [some (.ref x0), some (.int x1), some (.int x2), some (.int x3)] [] u := rfl
def f_X7_firstTurn_2 (F : Nat × Nat) : Nat → Nat → Int32 → Option rx_H → Option (Option rx_H)
  | 0, _, _, _ => none
  | f + 1, x0, x1, u =>
    (rx_gI u x0 3 1).bind fun v1 =>
    if x1 < v1 then
      (rx_gR u x0 3 10).bind fun v2 =>
      (rx_sI u v2 x1 x1).bind fun v3 =>
      (f_X7_firstTurn_2 F f) x0 (x1 + 1) v3
    else
      some u
def f_X7_firstTurn_0 (F : Nat × Nat) (x0 : Nat) (u : Option rx_H) : Option (Option rx_H) :=
  f_X7_firstTurn_2 F F.1 x0 (0 : Int32) u
def f_X7_firstTurn (F : Nat × Nat) (x0 : Nat) (u : Option rx_H) : Option (Option rx_H) := f_X7_firstTurn_0 F x0 u
def c_X7_firstTurn {α : Type} (F : Nat × Nat) (as : List Value) (u : Option rx_H) (κ : rx_K α) : Option α := match as with
  | [.ref a0] => (f_X7_firstTurn F a0 u).bind fun r => κ none r
  | _ => none
noncomputable def C_X7_firstTurn {α : Type} (F : Nat × Nat) : rx_Cl α := fun j as u κ => none
def t_X7_firstTurn : List rx_E := [
  (0, .iconst 0, 1, 0, 0, 0, 0, 0, []),
  (1, .istore_n 1, 1, 0, 0, 0, 0, 0, []),
  (2, .iload_n 1, 1, 0, 0, 0, 0, 0, []),
  (3, .aload_n 0, 1, 0, 0, 0, 0, 0, []),
  (4, .getfield 48, 3, 3, 4, 754, 0, 0, []),
  (7, .if_icmp .ge 16, 3, 23, 0, 0, 0, 0, []),
  (10, .aload_n 0, 1, 0, 0, 0, 0, 0, []),
  (11, .getfield 36, 3, 3, 42, 763, 0, 0, []),
  (14, .iload_n 1, 1, 0, 0, 0, 0, 0, []),
  (15, .iload_n 1, 1, 0, 0, 0, 0, 0, []),
  (16, .iastore, 1, 0, 0, 0, 0, 0, []),
  (17, .iinc 1 1, 3, 0, 0, 0, 1, 0, []),
  (20, .goto (-18), 3, 2, 0, 0, 0, 0, []),
  (23, .return_, 1, 0, 0, 0, 0, 0, [])]
def n_X7_firstTurn_2 (k2 : Nat → Int32 → Option rx_H → Option (Option rx_H)) (ls : rx_L) (st : List Value) (u : Option rx_H) : Option (Option rx_H) := match ls, st, u with
  | [some (.ref x0), some (.int x1)], [], u => k2 x0 x1 u
  | _, _, _ => none
noncomputable def kk_X7_firstTurn_2 (F : Nat × Nat) (k2 : Nat → Int32 → Option rx_H → Option (Option rx_H)) : Nat → rx_L → List Value → Option rx_H → Option (Option rx_H) := fun t ls st u => Bool.rec (motive := fun _ => Option (Option rx_H)) (none) (n_X7_firstTurn_2 k2 ls st u) (Nat.beq t 2)
noncomputable def kk_X7_firstTurn_0 (F : Nat × Nat) : Nat → rx_L → List Value → Option rx_H → Option (Option rx_H) := fun t ls st u => Bool.rec (motive := fun _ => Option (Option rx_H)) (none) (n_X7_firstTurn_2 (f_X7_firstTurn_2 F F.1) ls st u) (Nat.beq t 2)
set_option maxRecDepth 100000 in
theorem g_X7_firstTurn_2 (F : Nat × Nat) (f : Nat) (x0 : Nat) (x1 : Int32) (u : Option rx_H) : f_X7_firstTurn_2 F (f + 1) x0 x1 u = rx_node (C_X7_firstTurn F) rx_hV t_X7_firstTurn [2] (kk_X7_firstTurn_2 F (f_X7_firstTurn_2 F f)) 17 2 [some (.ref x0), some (.int x1)] [] u := rfl
set_option maxRecDepth 100000 in
theorem g_X7_firstTurn_0 (F : Nat × Nat) (x0 : Nat) (u : Option rx_H) : f_X7_firstTurn_0 F x0 u = rx_node (C_X7_firstTurn F) rx_hV t_X7_firstTurn [2] (kk_X7_firstTurn_0 F) 17 0 [some (.ref x0), none] [] u := rfl
def f_X7_swap_0 (F : Nat × Nat) (x0 : Nat) (x1 : Int32) (x2 : Int32) (u : Option rx_H) : Option (Option rx_H) :=
  (rx_gR u x0 3 10).bind fun v1 =>
  (rx_aI u v1 x1).bind fun v2 =>
  (rx_gR u x0 3 10).bind fun v3 =>
  (rx_gR u x0 3 10).bind fun v4 =>
  (rx_aI u v4 x2).bind fun v5 =>
  (rx_sI u v3 x1 v5).bind fun v6 =>
  (rx_gR v6 x0 3 10).bind fun v7 =>
  (rx_sI v6 v7 x2 v2).bind fun v8 =>
  some v8
def f_X7_swap (F : Nat × Nat) (x0 : Nat) (x1 : Int32) (x2 : Int32) (u : Option rx_H) : Option (Option rx_H) := f_X7_swap_0 F x0 x1 x2 u
def c_X7_swap {α : Type} (F : Nat × Nat) (as : List Value) (u : Option rx_H) (κ : rx_K α) : Option α := match as with
  | [.ref a0, .int a1, .int a2] => (f_X7_swap F a0 a1 a2 u).bind fun r => κ none r
  | _ => none
noncomputable def C_X7_swap {α : Type} (F : Nat × Nat) : rx_Cl α := fun j as u κ => none
def t_X7_swap : List rx_E := [
  (0, .aload_n 0, 1, 0, 0, 0, 0, 0, []),
  (1, .getfield 36, 3, 3, 42, 763, 0, 0, []),
  (4, .iload_n 1, 1, 0, 0, 0, 0, 0, []),
  (5, .iaload, 1, 0, 0, 0, 0, 0, []),
  (6, .istore_n 3, 1, 0, 0, 0, 0, 0, []),
  (7, .aload_n 0, 1, 0, 0, 0, 0, 0, []),
  (8, .getfield 36, 3, 3, 42, 763, 0, 0, []),
  (11, .iload_n 1, 1, 0, 0, 0, 0, 0, []),
  (12, .aload_n 0, 1, 0, 0, 0, 0, 0, []),
  (13, .getfield 36, 3, 3, 42, 763, 0, 0, []),
  (16, .iload_n 2, 1, 0, 0, 0, 0, 0, []),
  (17, .iaload, 1, 0, 0, 0, 0, 0, []),
  (18, .iastore, 1, 0, 0, 0, 0, 0, []),
  (19, .aload_n 0, 1, 0, 0, 0, 0, 0, []),
  (20, .getfield 36, 3, 3, 42, 763, 0, 0, []),
  (23, .iload_n 2, 1, 0, 0, 0, 0, 0, []),
  (24, .iload_n 3, 1, 0, 0, 0, 0, 0, []),
  (25, .iastore, 1, 0, 0, 0, 0, 0, []),
  (26, .return_, 1, 0, 0, 0, 0, 0, [])]
noncomputable def kk_X7_swap_0 (F : Nat × Nat) : Nat → rx_L → List Value → Option rx_H → Option (Option rx_H) := fun t ls st u => none
set_option maxRecDepth 100000 in
theorem g_X7_swap_0 (F : Nat × Nat) (x0 : Nat) (x1 : Int32) (x2 : Int32) (u : Option rx_H) : f_X7_swap_0 F x0 x1 x2 u = rx_node (C_X7_swap F) rx_hV t_X7_swap [] (kk_X7_swap_0 F) 22 0 [some (.ref x0), some (.int x1), some (.int x2), none] [] u := rfl
def f_X7_nextTurn_86 (F : Nat × Nat) : Nat → Nat → Int32 → Int32 → Option rx_H → Option (Int32 × Option rx_H)
  | 0, _, _, _, _ => none
  | f + 1, x0, x3, x4, u =>
    if x3 < x4 then
      (rx_ck u x0 3).bind fun _ =>
      (f_X7_swap F x0 x3 x4 u).bind fun v1 =>
      (f_X7_nextTurn_86 F f) x0 (x3 + 1) (x4 + (-1)) v1
    else
      some ((1 : Int32), u)
def f_X7_nextTurn_47 (F : Nat × Nat) : Nat → Nat → Int32 → Int32 → Option rx_H → Option (Int32 × Option rx_H)
  | 0, _, _, _, _ => none
  | f + 1, x0, x1, x2, u =>
    (rx_gR u x0 3 10).bind fun v1 =>
    (rx_aI u v1 x2).bind fun v2 =>
    (rx_gR u x0 3 10).bind fun v3 =>
    (rx_aI u v3 x1).bind fun v4 =>
    if v2 < v4 then
      (f_X7_nextTurn_47 F f) x0 x1 (x2 + (-1)) u
    else
      (rx_ck u x0 3).bind fun _ =>
      (f_X7_swap F x0 x1 x2 u).bind fun v5 =>
      (rx_gI v5 x0 3 1).bind fun v6 =>
      f_X7_nextTurn_86 F F.1 x0 (x1 + (1 : Int32)) (v6 - (1 : Int32)) v5
def f_X7_nextTurn_34 (F : Nat × Nat) (x0 : Nat) (x1 : Int32) (u : Option rx_H) : Option (Int32 × Option rx_H) :=
  if x1 < 0 then
    some ((0 : Int32), u)
  else
    (rx_gI u x0 3 1).bind fun v1 =>
    f_X7_nextTurn_47 F F.1 x0 x1 (v1 - (1 : Int32)) u
def f_X7_nextTurn_7 (F : Nat × Nat) : Nat → Nat → Int32 → Option rx_H → Option (Int32 × Option rx_H)
  | 0, _, _, _ => none
  | f + 1, x0, x1, u =>
    if x1 < 0 then
      f_X7_nextTurn_34 F x0 x1 u
    else
      (rx_gR u x0 3 10).bind fun v1 =>
      (rx_aI u v1 x1).bind fun v2 =>
      (rx_gR u x0 3 10).bind fun v3 =>
      (rx_aI u v3 (x1 + (1 : Int32))).bind fun v4 =>
      if v4 < v2 then
        (f_X7_nextTurn_7 F f) x0 (x1 + (-1)) u
      else
        f_X7_nextTurn_34 F x0 x1 u
def f_X7_nextTurn_0 (F : Nat × Nat) (x0 : Nat) (u : Option rx_H) : Option (Int32 × Option rx_H) :=
  (rx_gI u x0 3 1).bind fun v1 =>
  f_X7_nextTurn_7 F F.1 x0 (v1 - (2 : Int32)) u
def f_X7_nextTurn (F : Nat × Nat) (x0 : Nat) (u : Option rx_H) : Option (Int32 × Option rx_H) := f_X7_nextTurn_0 F x0 u
def c_X7_nextTurn {α : Type} (F : Nat × Nat) (as : List Value) (u : Option rx_H) (κ : rx_K α) : Option α := match as with
  | [.ref a0] => (f_X7_nextTurn F a0 u).bind fun r => κ (some (.int r.1)) r.2
  | _ => none
noncomputable def C_X7_nextTurn {α : Type} (F : Nat × Nat) : rx_Cl α := fun j as u κ => Bool.rec (motive := fun _ => Option α) (none) (c_X7_swap F as u κ) (Nat.beq j 212)
def t_X7_nextTurn : List rx_E := [
  (0, .aload_n 0, 1, 0, 0, 0, 0, 0, []),
  (1, .getfield 48, 3, 3, 4, 754, 0, 0, []),
  (4, .iconst 2, 1, 0, 0, 0, 2, 0, []),
  (5, .isub, 1, 0, 0, 0, 0, 0, []),
  (6, .istore_n 1, 1, 0, 0, 0, 0, 0, []),
  (7, .iload_n 1, 1, 0, 0, 0, 0, 0, []),
  (8, .ifCond .lt 26, 3, 34, 0, 0, 0, 0, []),
  (11, .aload_n 0, 1, 0, 0, 0, 0, 0, []),
  (12, .getfield 36, 3, 3, 42, 763, 0, 0, []),
  (15, .iload_n 1, 1, 0, 0, 0, 0, 0, []),
  (16, .iaload, 1, 0, 0, 0, 0, 0, []),
  (17, .aload_n 0, 1, 0, 0, 0, 0, 0, []),
  (18, .getfield 36, 3, 3, 42, 763, 0, 0, []),
  (21, .iload_n 1, 1, 0, 0, 0, 0, 0, []),
  (22, .iconst 1, 1, 0, 0, 0, 1, 0, []),
  (23, .iadd, 1, 0, 0, 0, 0, 0, []),
  (24, .iaload, 1, 0, 0, 0, 0, 0, []),
  (25, .if_icmp .le 9, 3, 34, 0, 0, 0, 0, []),
  (28, .iinc 1 (-1), 3, 0, 0, 0, (-1), 0, []),
  (31, .goto (-24), 3, 7, 0, 0, 0, 0, []),
  (34, .iload_n 1, 1, 0, 0, 0, 0, 0, []),
  (35, .ifCond .ge 5, 3, 40, 0, 0, 0, 0, []),
  (38, .iconst 0, 1, 0, 0, 0, 0, 0, []),
  (39, .ireturn, 1, 0, 2, 0, 0, 0, []),
  (40, .aload_n 0, 1, 0, 0, 0, 0, 0, []),
  (41, .getfield 48, 3, 3, 4, 754, 0, 0, []),
  (44, .iconst 1, 1, 0, 0, 0, 1, 0, []),
  (45, .isub, 1, 0, 0, 0, 0, 0, []),
  (46, .istore_n 2, 1, 0, 0, 0, 0, 0, []),
  (47, .aload_n 0, 1, 0, 0, 0, 0, 0, []),
  (48, .getfield 36, 3, 3, 42, 763, 0, 0, []),
  (51, .iload_n 2, 1, 0, 0, 0, 0, 0, []),
  (52, .iaload, 1, 0, 0, 0, 0, 0, []),
  (53, .aload_n 0, 1, 0, 0, 0, 0, 0, []),
  (54, .getfield 36, 3, 3, 42, 763, 0, 0, []),
  (57, .iload_n 1, 1, 0, 0, 0, 0, 0, []),
  (58, .iaload, 1, 0, 0, 0, 0, 0, []),
  (59, .if_icmp .ge 9, 3, 68, 0, 0, 0, 0, []),
  (62, .iinc 2 (-1), 3, 0, 0, 0, (-1), 0, []),
  (65, .goto (-18), 3, 47, 0, 0, 0, 0, []),
  (68, .aload_n 0, 1, 0, 0, 0, 0, 0, []),
  (69, .iload_n 1, 1, 0, 0, 0, 0, 0, []),
  (70, .iload_n 2, 1, 0, 0, 0, 0, 0, []),
  (71, .invokevirtual 141, 3, 212, 303, 976, 0, 0, []),
  (74, .iload_n 1, 1, 0, 0, 0, 0, 0, []),
  (75, .iconst 1, 1, 0, 0, 0, 1, 0, []),
  (76, .iadd, 1, 0, 0, 0, 0, 0, []),
  (77, .istore_n 3, 1, 0, 0, 0, 0, 0, []),
  (78, .aload_n 0, 1, 0, 0, 0, 0, 0, []),
  (79, .getfield 48, 3, 3, 4, 754, 0, 0, []),
  (82, .iconst 1, 1, 0, 0, 0, 1, 0, []),
  (83, .isub, 1, 0, 0, 0, 0, 0, []),
  (84, .istore 4, 2, 0, 0, 0, 0, 0, []),
  (86, .iload_n 3, 1, 0, 0, 0, 0, 0, []),
  (87, .iload 4, 2, 0, 0, 0, 0, 0, []),
  (89, .if_icmp .ge 19, 3, 108, 0, 0, 0, 0, []),
  (92, .aload_n 0, 1, 0, 0, 0, 0, 0, []),
  (93, .iload_n 3, 1, 0, 0, 0, 0, 0, []),
  (94, .iload 4, 2, 0, 0, 0, 0, 0, []),
  (96, .invokevirtual 141, 3, 212, 303, 976, 0, 0, []),
  (99, .iinc 3 1, 3, 0, 0, 0, 1, 0, []),
  (102, .iinc 4 (-1), 3, 0, 0, 0, (-1), 0, []),
  (105, .goto (-19), 3, 86, 0, 0, 0, 0, []),
  (108, .iconst 1, 1, 0, 0, 0, 1, 0, []),
  (109, .ireturn, 1, 0, 2, 0, 0, 0, [])]
def n_X7_nextTurn_7 (k7 : Nat → Int32 → Option rx_H → Option (Int32 × Option rx_H)) (ls : rx_L) (st : List Value) (u : Option rx_H) : Option (Int32 × Option rx_H) := match ls, st, u with
  | [some (.ref x0), some (.int x1), _, _, _], [], u => k7 x0 x1 u
  | _, _, _ => none
def n_X7_nextTurn_34 (F : Nat × Nat) (ls : rx_L) (st : List Value) (u : Option rx_H) : Option (Int32 × Option rx_H) := match ls, st, u with
  | [some (.ref x0), some (.int x1), _, _, _], [], u => f_X7_nextTurn_34 F x0 x1 u
  | _, _, _ => none
def n_X7_nextTurn_47 (k47 : Nat → Int32 → Int32 → Option rx_H → Option (Int32 × Option rx_H)) (ls : rx_L) (st : List Value) (u : Option rx_H) : Option (Int32 × Option rx_H) := match ls, st, u with
  | [some (.ref x0), some (.int x1), some (.int x2), _, _], [], u => k47 x0 x1 x2 u
  | _, _, _ => none
def n_X7_nextTurn_86 (k86 : Nat → Int32 → Int32 → Option rx_H → Option (Int32 × Option rx_H)) (ls : rx_L) (st : List Value) (u : Option rx_H) : Option (Int32 × Option rx_H) := match ls, st, u with
  | [some (.ref x0), _, _, some (.int x3), some (.int x4)], [], u => k86 x0 x3 x4 u
  | _, _, _ => none
noncomputable def kk_X7_nextTurn_86 (F : Nat × Nat) (k86 : Nat → Int32 → Int32 → Option rx_H → Option (Int32 × Option rx_H)) : Nat → rx_L → List Value → Option rx_H → Option (Int32 × Option rx_H) := fun t ls st u => Bool.rec (motive := fun _ => Option (Int32 × Option rx_H)) (none) (n_X7_nextTurn_86 k86 ls st u) (Nat.beq t 86)
noncomputable def kk_X7_nextTurn_47 (F : Nat × Nat) (k47 : Nat → Int32 → Int32 → Option rx_H → Option (Int32 × Option rx_H)) : Nat → rx_L → List Value → Option rx_H → Option (Int32 × Option rx_H) := fun t ls st u => Bool.rec (motive := fun _ => Option (Int32 × Option rx_H)) (Bool.rec (motive := fun _ => Option (Int32 × Option rx_H)) (none) (n_X7_nextTurn_86 (f_X7_nextTurn_86 F F.1) ls st u) (Nat.beq t 86)) (n_X7_nextTurn_47 k47 ls st u) (Nat.beq t 47)
noncomputable def kk_X7_nextTurn_34 (F : Nat × Nat) : Nat → rx_L → List Value → Option rx_H → Option (Int32 × Option rx_H) := fun t ls st u => Bool.rec (motive := fun _ => Option (Int32 × Option rx_H)) (none) (n_X7_nextTurn_47 (f_X7_nextTurn_47 F F.1) ls st u) (Nat.beq t 47)
noncomputable def kk_X7_nextTurn_7 (F : Nat × Nat) (k7 : Nat → Int32 → Option rx_H → Option (Int32 × Option rx_H)) : Nat → rx_L → List Value → Option rx_H → Option (Int32 × Option rx_H) := fun t ls st u => Bool.rec (motive := fun _ => Option (Int32 × Option rx_H)) (Bool.rec (motive := fun _ => Option (Int32 × Option rx_H)) (none) (n_X7_nextTurn_34 F ls st u) (Nat.beq t 34)) (n_X7_nextTurn_7 k7 ls st u) (Nat.beq t 7)
noncomputable def kk_X7_nextTurn_0 (F : Nat × Nat) : Nat → rx_L → List Value → Option rx_H → Option (Int32 × Option rx_H) := fun t ls st u => Bool.rec (motive := fun _ => Option (Int32 × Option rx_H)) (none) (n_X7_nextTurn_7 (f_X7_nextTurn_7 F F.1) ls st u) (Nat.beq t 7)
set_option maxRecDepth 100000 in
theorem g_X7_nextTurn_86 (F : Nat × Nat) (f : Nat) (x0 : Nat) (x3 : Int32) (x4 : Int32) (u : Option rx_H) : f_X7_nextTurn_86 F (f + 1) x0 x3 x4 u = rx_node (C_X7_nextTurn F) rx_hI t_X7_nextTurn [7, 34, 47, 86] (kk_X7_nextTurn_86 F (f_X7_nextTurn_86 F f)) 68 86 [some (.ref x0), none, none, some (.int x3), some (.int x4)] [] u := rfl
set_option maxRecDepth 100000 in
theorem g_X7_nextTurn_47 (F : Nat × Nat) (f : Nat) (x0 : Nat) (x1 : Int32) (x2 : Int32) (u : Option rx_H) : f_X7_nextTurn_47 F (f + 1) x0 x1 x2 u = rx_node (C_X7_nextTurn F) rx_hI t_X7_nextTurn [7, 34, 47, 86] (kk_X7_nextTurn_47 F (f_X7_nextTurn_47 F f)) 68 47 [some (.ref x0), some (.int x1), some (.int x2), none, none] [] u := rfl
set_option maxRecDepth 100000 in
theorem g_X7_nextTurn_34 (F : Nat × Nat) (x0 : Nat) (x1 : Int32) (u : Option rx_H) : f_X7_nextTurn_34 F x0 x1 u = rx_node (C_X7_nextTurn F) rx_hI t_X7_nextTurn [7, 34, 47, 86] (kk_X7_nextTurn_34 F) 68 34 [some (.ref x0), some (.int x1), none, none, none] [] u := rfl
set_option maxRecDepth 100000 in
theorem g_X7_nextTurn_7 (F : Nat × Nat) (f : Nat) (x0 : Nat) (x1 : Int32) (u : Option rx_H) : f_X7_nextTurn_7 F (f + 1) x0 x1 u = rx_node (C_X7_nextTurn F) rx_hI t_X7_nextTurn [7, 34, 47, 86] (kk_X7_nextTurn_7 F (f_X7_nextTurn_7 F f)) 68 7 [some (.ref x0), some (.int x1), none, none, none] [] u := rfl
set_option maxRecDepth 100000 in
theorem g_X7_nextTurn_0 (F : Nat × Nat) (x0 : Nat) (u : Option rx_H) : f_X7_nextTurn_0 F x0 u = rx_node (C_X7_nextTurn F) rx_hI t_X7_nextTurn [7, 34, 47, 86] (kk_X7_nextTurn_0 F) 68 0 [some (.ref x0), none, none, none, none] [] u := rfl
def f_X7_number_9 (F : Nat × Nat) : Nat → Nat → Int32 → Int32 → Option rx_H → Option (Int32 × Option rx_H)
  | 0, _, _, _, _ => none
  | f + 1, x0, x1, x2, u =>
    if x2 < 0 then
      some (x1, u)
    else
      (rx_gR u x0 3 10).bind fun v1 =>
      (rx_aI u v1 x2).bind fun v2 =>
      (f_X7_number_9 F f) x0 (((8 : Int32) * x1) + v2) (x2 + (-1)) u
def f_X7_number_0 (F : Nat × Nat) (x0 : Nat) (u : Option rx_H) : Option (Int32 × Option rx_H) :=
  (rx_gI u x0 3 1).bind fun v1 =>
  f_X7_number_9 F F.1 x0 (0 : Int32) (v1 - (1 : Int32)) u
def f_X7_number (F : Nat × Nat) (x0 : Nat) (u : Option rx_H) : Option (Int32 × Option rx_H) := f_X7_number_0 F x0 u
def c_X7_number {α : Type} (F : Nat × Nat) (as : List Value) (u : Option rx_H) (κ : rx_K α) : Option α := match as with
  | [.ref a0] => (f_X7_number F a0 u).bind fun r => κ (some (.int r.1)) r.2
  | _ => none
noncomputable def C_X7_number {α : Type} (F : Nat × Nat) : rx_Cl α := fun j as u κ => none
def t_X7_number : List rx_E := [
  (0, .iconst 0, 1, 0, 0, 0, 0, 0, []),
  (1, .istore_n 1, 1, 0, 0, 0, 0, 0, []),
  (2, .aload_n 0, 1, 0, 0, 0, 0, 0, []),
  (3, .getfield 48, 3, 3, 4, 754, 0, 0, []),
  (6, .iconst 1, 1, 0, 0, 0, 1, 0, []),
  (7, .isub, 1, 0, 0, 0, 0, 0, []),
  (8, .istore_n 2, 1, 0, 0, 0, 0, 0, []),
  (9, .iload_n 2, 1, 0, 0, 0, 0, 0, []),
  (10, .ifCond .lt 21, 3, 31, 0, 0, 0, 0, []),
  (13, .bipush 8, 2, 0, 0, 0, 8, 0, []),
  (15, .iload_n 1, 1, 0, 0, 0, 0, 0, []),
  (16, .imul, 1, 0, 0, 0, 0, 0, []),
  (17, .aload_n 0, 1, 0, 0, 0, 0, 0, []),
  (18, .getfield 36, 3, 3, 42, 763, 0, 0, []),
  (21, .iload_n 2, 1, 0, 0, 0, 0, 0, []),
  (22, .iaload, 1, 0, 0, 0, 0, 0, []),
  (23, .iadd, 1, 0, 0, 0, 0, 0, []),
  (24, .istore_n 1, 1, 0, 0, 0, 0, 0, []),
  (25, .iinc 2 (-1), 3, 0, 0, 0, (-1), 0, []),
  (28, .goto (-19), 3, 9, 0, 0, 0, 0, []),
  (31, .iload_n 1, 1, 0, 0, 0, 0, 0, []),
  (32, .ireturn, 1, 0, 0, 0, 0, 0, [])]
def n_X7_number_9 (k9 : Nat → Int32 → Int32 → Option rx_H → Option (Int32 × Option rx_H)) (ls : rx_L) (st : List Value) (u : Option rx_H) : Option (Int32 × Option rx_H) := match ls, st, u with
  | [some (.ref x0), some (.int x1), some (.int x2)], [], u => k9 x0 x1 x2 u
  | _, _, _ => none
noncomputable def kk_X7_number_9 (F : Nat × Nat) (k9 : Nat → Int32 → Int32 → Option rx_H → Option (Int32 × Option rx_H)) : Nat → rx_L → List Value → Option rx_H → Option (Int32 × Option rx_H) := fun t ls st u => Bool.rec (motive := fun _ => Option (Int32 × Option rx_H)) (none) (n_X7_number_9 k9 ls st u) (Nat.beq t 9)
noncomputable def kk_X7_number_0 (F : Nat × Nat) : Nat → rx_L → List Value → Option rx_H → Option (Int32 × Option rx_H) := fun t ls st u => Bool.rec (motive := fun _ => Option (Int32 × Option rx_H)) (none) (n_X7_number_9 (f_X7_number_9 F F.1) ls st u) (Nat.beq t 9)
set_option maxRecDepth 100000 in
theorem g_X7_number_9 (F : Nat × Nat) (f : Nat) (x0 : Nat) (x1 : Int32) (x2 : Int32) (u : Option rx_H) : f_X7_number_9 F (f + 1) x0 x1 x2 u = rx_node (C_X7_number F) rx_hI t_X7_number [9] (kk_X7_number_9 F (f_X7_number_9 F f)) 25 9 [some (.ref x0), some (.int x1), some (.int x2)] [] u := rfl
set_option maxRecDepth 100000 in
theorem g_X7_number_0 (F : Nat × Nat) (x0 : Nat) (u : Option rx_H) : f_X7_number_0 F x0 u = rx_node (C_X7_number F) rx_hI t_X7_number [9] (kk_X7_number_0 F) 25 0 [some (.ref x0), none, none] [] u := rfl
def f_X7_same_52 (F : Nat × Nat) : Nat → Nat → Int32 → Int32 → Int32 → Option rx_H → Option (Int32 × Option rx_H)
  | 0, _, _, _, _, _ => none
  | f + 1, x0, x1, x2, x3, u =>
    if x3 = 0 then
      some ((-2 : Int32), u)
    else
      (rx_gR u x0 3 5).bind fun v1 =>
      (rx_aJ u v1 x1).bind fun v2 =>
      (rx_ck u x0 3).bind fun _ =>
      (f_X7_turnedAll F x0 v2 u).bind fun v3 =>
      (rx_gR v3.2 x0 3 5).bind fun v4 =>
      (rx_aJ v3.2 v4 x2).bind fun v5 =>
      if v3.1 = v5 then
        (rx_ck v3.2 x0 3).bind fun _ =>
        (f_X7_number F x0 v3.2).bind fun v6 =>
        some (v6.1, v6.2)
      else
        (rx_ck v3.2 x0 3).bind fun _ =>
        (f_X7_nextTurn F x0 v3.2).bind fun v7 =>
        (f_X7_same_52 F f) x0 x1 x2 v7.1 v7.2
def f_X7_same_0 (F : Nat × Nat) (x0 : Nat) (x1 : Int32) (x2 : Int32) (u : Option rx_H) : Option (Int32 × Option rx_H) :=
  (f_X7_isPlace F x1).bind fun v1 =>
  if v1 = 0 then
    some ((-1 : Int32), u)
  else
    (f_X7_isPlace F x2).bind fun v2 =>
    if v2 = 0 then
      some ((-1 : Int32), u)
    else
      (rx_ck u x0 3).bind fun _ =>
      (f_X7_lacks F x0 x1 u).bind fun v3 =>
      (rx_ck v3.2 x0 3).bind fun _ =>
      (f_X7_lacks F x0 x2 v3.2).bind fun v4 =>
      (f_X7_lacking F v3.1 v4.1).bind fun v5 =>
      if v5 = 0 then
        (rx_ck v4.2 x0 3).bind fun _ =>
        (f_X7_firstTurn F x0 v4.2).bind fun v6 =>
        f_X7_same_52 F F.1 x0 x1 x2 (1 : Int32) v6
      else
        (rx_ck v4.2 x0 3).bind fun _ =>
        (f_X7_lacks F x0 x1 v4.2).bind fun v7 =>
        (rx_ck v7.2 x0 3).bind fun _ =>
        (f_X7_lacks F x0 x2 v7.2).bind fun v8 =>
        (f_X7_lacking F v7.1 v8.1).bind fun v9 =>
        some (v9, v8.2)
def f_X7_same (F : Nat × Nat) (x0 : Nat) (x1 : Int32) (x2 : Int32) (u : Option rx_H) : Option (Int32 × Option rx_H) := f_X7_same_0 F x0 x1 x2 u
def c_X7_same {α : Type} (F : Nat × Nat) (as : List Value) (u : Option rx_H) (κ : rx_K α) : Option α := match as with
  | [.ref a0, .int a1, .int a2] => (f_X7_same F a0 a1 a2 u).bind fun r => κ (some (.int r.1)) r.2
  | _ => none
noncomputable def C_X7_same {α : Type} (F : Nat × Nat) : rx_Cl α := fun j as u κ => Bool.rec (motive := fun _ => Option α) (Bool.rec (motive := fun _ => Option α) (Bool.rec (motive := fun _ => Option α) (Bool.rec (motive := fun _ => Option α) (Bool.rec (motive := fun _ => Option α) (Bool.rec (motive := fun _ => Option α) (Bool.rec (motive := fun _ => Option α) (none) (c_X7_turnedAll F as u κ) (Nat.beq j 219)) (c_X7_number F as u κ) (Nat.beq j 189)) (c_X7_nextTurn F as u κ) (Nat.beq j 188)) (c_X7_lacks F as u κ) (Nat.beq j 179)) (c_X7_lacking F as u κ) (Nat.beq j 178)) (c_X7_isPlace F as u κ) (Nat.beq j 173)) (c_X7_firstTurn F as u κ) (Nat.beq j 158)
def t_X7_same : List rx_E := [
  (0, .iload_n 1, 1, 0, 0, 0, 0, 0, []),
  (1, .invokestatic 62, 3, 173, 1, 803, 0, 0, []),
  (4, .ifCond .eq 10, 3, 14, 0, 0, 0, 0, []),
  (7, .iload_n 2, 1, 0, 0, 0, 0, 0, []),
  (8, .invokestatic 62, 3, 173, 1, 803, 0, 0, []),
  (11, .ifCond .ne 5, 3, 16, 0, 0, 0, 0, []),
  (14, .iconst (-1), 1, 0, 0, 0, (-1), 0, []),
  (15, .ireturn, 1, 0, 0, 0, 0, 0, []),
  (16, .aload_n 0, 1, 0, 0, 0, 0, 0, []),
  (17, .iload_n 1, 1, 0, 0, 0, 0, 0, []),
  (18, .invokevirtual 74, 3, 179, 302, 824, 0, 0, []),
  (21, .aload_n 0, 1, 0, 0, 0, 0, 0, []),
  (22, .iload_n 2, 1, 0, 0, 0, 0, 0, []),
  (23, .invokevirtual 74, 3, 179, 302, 824, 0, 0, []),
  (26, .invokestatic 120, 3, 178, 2, 925, 0, 0, []),
  (29, .ifCond .eq 17, 3, 46, 0, 0, 0, 0, []),
  (32, .aload_n 0, 1, 0, 0, 0, 0, 0, []),
  (33, .iload_n 1, 1, 0, 0, 0, 0, 0, []),
  (34, .invokevirtual 74, 3, 179, 302, 824, 0, 0, []),
  (37, .aload_n 0, 1, 0, 0, 0, 0, 0, []),
  (38, .iload_n 2, 1, 0, 0, 0, 0, 0, []),
  (39, .invokevirtual 74, 3, 179, 302, 824, 0, 0, []),
  (42, .invokestatic 120, 3, 178, 2, 925, 0, 0, []),
  (45, .ireturn, 1, 0, 0, 0, 0, 0, []),
  (46, .aload_n 0, 1, 0, 0, 0, 0, 0, []),
  (47, .invokevirtual 145, 3, 158, 301, 964, 0, 0, []),
  (50, .iconst 1, 1, 0, 0, 0, 1, 0, []),
  (51, .istore_n 3, 1, 0, 0, 0, 0, 0, []),
  (52, .iload_n 3, 1, 0, 0, 0, 0, 0, []),
  (53, .ifCond .eq 36, 3, 89, 0, 0, 0, 0, []),
  (56, .aload_n 0, 1, 0, 0, 0, 0, 0, []),
  (57, .aload_n 0, 1, 0, 0, 0, 0, 0, []),
  (58, .getfield 20, 3, 3, 22, 758, 0, 0, []),
  (61, .iload_n 1, 1, 0, 0, 0, 0, 0, []),
  (62, .laload, 1, 0, 0, 0, 0, 0, []),
  (63, .invokevirtual 137, 3, 219, 302, 952, 0, 0, []),
  (66, .aload_n 0, 1, 0, 0, 0, 0, 0, []),
  (67, .getfield 20, 3, 3, 22, 758, 0, 0, []),
  (70, .iload_n 2, 1, 0, 0, 0, 0, 0, []),
  (71, .laload, 1, 0, 0, 0, 0, 0, []),
  (72, .lcmp, 1, 0, 0, 0, 0, 0, []),
  (73, .ifCond .ne 8, 3, 81, 0, 0, 0, 0, []),
  (76, .aload_n 0, 1, 0, 0, 0, 0, 0, []),
  (77, .invokevirtual 148, 3, 189, 301, 968, 0, 0, []),
  (80, .ireturn, 1, 0, 0, 0, 0, 0, []),
  (81, .aload_n 0, 1, 0, 0, 0, 0, 0, []),
  (82, .invokevirtual 152, 3, 188, 301, 972, 0, 0, []),
  (85, .istore_n 3, 1, 0, 0, 0, 0, 0, []),
  (86, .goto (-34), 3, 52, 0, 0, 0, 0, []),
  (89, .bipush (-2), 2, 0, 0, 0, (-2), 0, []),
  (91, .ireturn, 1, 0, 0, 0, 0, 0, [])]
def n_X7_same_52 (k52 : Nat → Int32 → Int32 → Int32 → Option rx_H → Option (Int32 × Option rx_H)) (ls : rx_L) (st : List Value) (u : Option rx_H) : Option (Int32 × Option rx_H) := match ls, st, u with
  | [some (.ref x0), some (.int x1), some (.int x2), some (.int x3)], [], u => k52 x0 x1 x2 x3 u
  | _, _, _ => none
noncomputable def kk_X7_same_52 (F : Nat × Nat) (k52 : Nat → Int32 → Int32 → Int32 → Option rx_H → Option (Int32 × Option rx_H)) : Nat → rx_L → List Value → Option rx_H → Option (Int32 × Option rx_H) := fun t ls st u => Bool.rec (motive := fun _ => Option (Int32 × Option rx_H)) (none) (n_X7_same_52 k52 ls st u) (Nat.beq t 52)
noncomputable def kk_X7_same_0 (F : Nat × Nat) : Nat → rx_L → List Value → Option rx_H → Option (Int32 × Option rx_H) := fun t ls st u => Bool.rec (motive := fun _ => Option (Int32 × Option rx_H)) (none) (n_X7_same_52 (f_X7_same_52 F F.1) ls st u) (Nat.beq t 52)
set_option maxRecDepth 100000 in
theorem g_X7_same_52 (F : Nat × Nat) (f : Nat) (x0 : Nat) (x1 : Int32) (x2 : Int32) (x3 : Int32) (u : Option rx_H) : f_X7_same_52 F (f + 1) x0 x1 x2 x3 u = rx_node (C_X7_same F) rx_hI t_X7_same [52] (kk_X7_same_52 F (f_X7_same_52 F f)) 54 52 [some (.ref x0), some (.int x1), some (.int x2), some (.int x3)] [] u := rfl
set_option maxRecDepth 100000 in
theorem g_X7_same_0 (F : Nat × Nat) (x0 : Nat) (x1 : Int32) (x2 : Int32) (u : Option rx_H) : f_X7_same_0 F x0 x1 x2 u = rx_node (C_X7_same F) rx_hI t_X7_same [52] (kk_X7_same_0 F) 54 0 [some (.ref x0), some (.int x1), some (.int x2), none] [] u := rfl
def f_X7_turns_61 (F : Nat × Nat) (k31 : Nat → Int32 → Int32 → Int32 → Option rx_H → Option (Int32 × Option rx_H)) (x0 : Nat) (x1 : Int32) (s0 : Int32) (s1 : Int32) (u : Option rx_H) : Option (Int32 × Option rx_H) :=
  (rx_ck u x0 3).bind fun _ =>
  (f_X7_nextTurn F x0 u).bind fun v1 =>
  k31 x0 x1 (s0 + s1) v1.1 v1.2
def f_X7_turns_31 (F : Nat × Nat) : Nat → Nat → Int32 → Int32 → Int32 → Option rx_H → Option (Int32 × Option rx_H)
  | 0, _, _, _, _, _ => none
  | f + 1, x0, x1, x2, x3, u =>
    if x3 = 0 then
      some (x2, u)
    else
      (rx_gR u x0 3 5).bind fun v1 =>
      (rx_aJ u v1 x1).bind fun v2 =>
      (rx_ck u x0 3).bind fun _ =>
      (f_X7_turnedAll F x0 v2 u).bind fun v3 =>
      (rx_gR v3.2 x0 3 5).bind fun v4 =>
      (rx_aJ v3.2 v4 x1).bind fun v5 =>
      if v3.1 = v5 then
        f_X7_turns_61 F (f_X7_turns_31 F f) x0 x1 x2 (1 : Int32) v3.2
      else
        f_X7_turns_61 F (f_X7_turns_31 F f) x0 x1 x2 (0 : Int32) v3.2
def f_X7_turns_0 (F : Nat × Nat) (x0 : Nat) (x1 : Int32) (u : Option rx_H) : Option (Int32 × Option rx_H) :=
  (f_X7_isPlace F x1).bind fun v1 =>
  if v1 = 0 then
    some ((-1 : Int32), u)
  else
    (rx_ck u x0 3).bind fun _ =>
    (f_X7_lacks F x0 x1 u).bind fun v2 =>
    if v2.1 = 0 then
      (rx_ck v2.2 x0 3).bind fun _ =>
      (f_X7_firstTurn F x0 v2.2).bind fun v3 =>
      f_X7_turns_31 F F.1 x0 x1 (0 : Int32) (1 : Int32) v3
    else
      (rx_ck v2.2 x0 3).bind fun _ =>
      (f_X7_lacks F x0 x1 v2.2).bind fun v4 =>
      some (v4.1, v4.2)
def f_X7_turns (F : Nat × Nat) (x0 : Nat) (x1 : Int32) (u : Option rx_H) : Option (Int32 × Option rx_H) := f_X7_turns_0 F x0 x1 u
def c_X7_turns {α : Type} (F : Nat × Nat) (as : List Value) (u : Option rx_H) (κ : rx_K α) : Option α := match as with
  | [.ref a0, .int a1] => (f_X7_turns F a0 a1 u).bind fun r => κ (some (.int r.1)) r.2
  | _ => none
noncomputable def C_X7_turns {α : Type} (F : Nat × Nat) : rx_Cl α := fun j as u κ => Bool.rec (motive := fun _ => Option α) (Bool.rec (motive := fun _ => Option α) (Bool.rec (motive := fun _ => Option α) (Bool.rec (motive := fun _ => Option α) (Bool.rec (motive := fun _ => Option α) (none) (c_X7_turnedAll F as u κ) (Nat.beq j 219)) (c_X7_nextTurn F as u κ) (Nat.beq j 188)) (c_X7_lacks F as u κ) (Nat.beq j 179)) (c_X7_isPlace F as u κ) (Nat.beq j 173)) (c_X7_firstTurn F as u κ) (Nat.beq j 158)
def t_X7_turns : List rx_E := [
  (0, .iload_n 1, 1, 0, 0, 0, 0, 0, []),
  (1, .invokestatic 62, 3, 173, 1, 803, 0, 0, []),
  (4, .ifCond .ne 5, 3, 9, 0, 0, 0, 0, []),
  (7, .iconst (-1), 1, 0, 0, 0, (-1), 0, []),
  (8, .ireturn, 1, 0, 0, 0, 0, 0, []),
  (9, .aload_n 0, 1, 0, 0, 0, 0, 0, []),
  (10, .iload_n 1, 1, 0, 0, 0, 0, 0, []),
  (11, .invokevirtual 74, 3, 179, 302, 824, 0, 0, []),
  (14, .ifCond .eq 9, 3, 23, 0, 0, 0, 0, []),
  (17, .aload_n 0, 1, 0, 0, 0, 0, 0, []),
  (18, .iload_n 1, 1, 0, 0, 0, 0, 0, []),
  (19, .invokevirtual 74, 3, 179, 302, 824, 0, 0, []),
  (22, .ireturn, 1, 0, 0, 0, 0, 0, []),
  (23, .iconst 0, 1, 0, 0, 0, 0, 0, []),
  (24, .istore_n 2, 1, 0, 0, 0, 0, 0, []),
  (25, .aload_n 0, 1, 0, 0, 0, 0, 0, []),
  (26, .invokevirtual 145, 3, 158, 301, 964, 0, 0, []),
  (29, .iconst 1, 1, 0, 0, 0, 1, 0, []),
  (30, .istore_n 3, 1, 0, 0, 0, 0, 0, []),
  (31, .iload_n 3, 1, 0, 0, 0, 0, 0, []),
  (32, .ifCond .eq 39, 3, 71, 0, 0, 0, 0, []),
  (35, .iload_n 2, 1, 0, 0, 0, 0, 0, []),
  (36, .aload_n 0, 1, 0, 0, 0, 0, 0, []),
  (37, .aload_n 0, 1, 0, 0, 0, 0, 0, []),
  (38, .getfield 20, 3, 3, 22, 758, 0, 0, []),
  (41, .iload_n 1, 1, 0, 0, 0, 0, 0, []),
  (42, .laload, 1, 0, 0, 0, 0, 0, []),
  (43, .invokevirtual 137, 3, 219, 302, 952, 0, 0, []),
  (46, .aload_n 0, 1, 0, 0, 0, 0, 0, []),
  (47, .getfield 20, 3, 3, 22, 758, 0, 0, []),
  (50, .iload_n 1, 1, 0, 0, 0, 0, 0, []),
  (51, .laload, 1, 0, 0, 0, 0, 0, []),
  (52, .lcmp, 1, 0, 0, 0, 0, 0, []),
  (53, .ifCond .ne 7, 3, 60, 0, 0, 0, 0, []),
  (56, .iconst 1, 1, 0, 0, 0, 1, 0, []),
  (57, .goto 4, 3, 61, 0, 0, 0, 0, []),
  (60, .iconst 0, 1, 0, 0, 0, 0, 0, []),
  (61, .iadd, 1, 0, 0, 0, 0, 0, []),
  (62, .istore_n 2, 1, 0, 0, 0, 0, 0, []),
  (63, .aload_n 0, 1, 0, 0, 0, 0, 0, []),
  (64, .invokevirtual 152, 3, 188, 301, 972, 0, 0, []),
  (67, .istore_n 3, 1, 0, 0, 0, 0, 0, []),
  (68, .goto (-37), 3, 31, 0, 0, 0, 0, []),
  (71, .iload_n 2, 1, 0, 0, 0, 0, 0, []),
  (72, .ireturn, 1, 0, 0, 0, 0, 0, [])]
def n_X7_turns_31 (k31 : Nat → Int32 → Int32 → Int32 → Option rx_H → Option (Int32 × Option rx_H)) (ls : rx_L) (st : List Value) (u : Option rx_H) : Option (Int32 × Option rx_H) := match ls, st, u with
  | [some (.ref x0), some (.int x1), some (.int x2), some (.int x3)], [], u => k31 x0 x1 x2 x3 u
  | _, _, _ => none
def n_X7_turns_61 (F : Nat × Nat) (k31 : Nat → Int32 → Int32 → Int32 → Option rx_H → Option (Int32 × Option rx_H)) (ls : rx_L) (st : List Value) (u : Option rx_H) : Option (Int32 × Option rx_H) := match ls, st, u with
  | [some (.ref x0), some (.int x1), _, _], [.int s1, .int s0], u => f_X7_turns_61 F k31 x0 x1 s0 s1 u
  | _, _, _ => none
noncomputable def kk_X7_turns_61 (F : Nat × Nat) (k31 : Nat → Int32 → Int32 → Int32 → Option rx_H → Option (Int32 × Option rx_H)) : Nat → rx_L → List Value → Option rx_H → Option (Int32 × Option rx_H) := fun t ls st u => Bool.rec (motive := fun _ => Option (Int32 × Option rx_H)) (none) (n_X7_turns_31 k31 ls st u) (Nat.beq t 31)
noncomputable def kk_X7_turns_31 (F : Nat × Nat) (k31 : Nat → Int32 → Int32 → Int32 → Option rx_H → Option (Int32 × Option rx_H)) : Nat → rx_L → List Value → Option rx_H → Option (Int32 × Option rx_H) := fun t ls st u => Bool.rec (motive := fun _ => Option (Int32 × Option rx_H)) (none) (n_X7_turns_61 F k31 ls st u) (Nat.beq t 61)
noncomputable def kk_X7_turns_0 (F : Nat × Nat) : Nat → rx_L → List Value → Option rx_H → Option (Int32 × Option rx_H) := fun t ls st u => Bool.rec (motive := fun _ => Option (Int32 × Option rx_H)) (none) (n_X7_turns_31 (f_X7_turns_31 F F.1) ls st u) (Nat.beq t 31)
set_option maxRecDepth 100000 in
theorem g_X7_turns_61 (F : Nat × Nat) (k31 : Nat → Int32 → Int32 → Int32 → Option rx_H → Option (Int32 × Option rx_H)) (x0 : Nat) (x1 : Int32) (s0 : Int32) (s1 : Int32) (u : Option rx_H) : f_X7_turns_61 F k31 x0 x1 s0 s1 u = rx_node (C_X7_turns F) rx_hI t_X7_turns [31, 61] (kk_X7_turns_61 F k31) 48 61 [some (.ref x0), some (.int x1), none, none] [.int s1, .int s0] u := rfl
set_option maxRecDepth 100000 in
theorem g_X7_turns_31 (F : Nat × Nat) (f : Nat) (x0 : Nat) (x1 : Int32) (x2 : Int32) (x3 : Int32) (u : Option rx_H) : f_X7_turns_31 F (f + 1) x0 x1 x2 x3 u = rx_node (C_X7_turns F) rx_hI t_X7_turns [31, 61] (kk_X7_turns_31 F (f_X7_turns_31 F f)) 48 31 [some (.ref x0), some (.int x1), some (.int x2), some (.int x3)] [] u := rfl
set_option maxRecDepth 100000 in
theorem g_X7_turns_0 (F : Nat × Nat) (x0 : Nat) (x1 : Int32) (u : Option rx_H) : f_X7_turns_0 F x0 x1 u = rx_node (C_X7_turns F) rx_hI t_X7_turns [31, 61] (kk_X7_turns_0 F) 48 0 [some (.ref x0), some (.int x1), none, none] [] u := rfl
def f_X7_pushes_14 (F : Nat × Nat) : Nat → Nat → Int32 → Int32 → Int32 → Int64 → Int32 → Int32 → Option rx_H → Option (Int32 × Option rx_H)
  | 0, _, _, _, _, _, _, _, _ => none
  | f + 1, x0, x1, x2, x3, x4, x6, x7, u =>
    (rx_gI u x0 3 2).bind fun v1 =>
    if x7 < v1 then
      (f_X7_has F x4 x7).bind fun v2 =>
      if v2 = 0 then
        (f_X7_pushes_14 F f) x0 x1 x2 x3 x4 x6 (x7 + 1) u
      else
        if (x7 >>> (x2 &&& 31)) &&& (1 : Int32) = 0 then
          (f_X7_pushes_14 F f) x0 x1 x2 x3 x4 x6 (x7 + 1) u
        else
          if (x7 >>> (x3 &&& 31)) &&& (1 : Int32) = (1 : Int32) then
            (f_X7_pushes_14 F f) x0 x1 x2 x3 x4 x6 (x7 + 1) u
          else
            (f_X7_has F x4 ((x7 ^^^ ((1 : Int32) <<< (x2 &&& 31))) ^^^ ((1 : Int32) <<< (x3 &&& 31)))).bind fun v3 =>
            if v3 = 0 then
              (rx_gR u x0 3 5).bind fun v4 =>
              (rx_gR u x0 3 5).bind fun v5 =>
              (rx_aJ u v5 x1).bind fun v6 =>
              (rx_sJ u v4 x1 ((v6 &&& (((1 : Int64) <<< (Int32.toInt64 x7 &&& 63)) ^^^ (-1 : Int64))) ||| ((1 : Int64) <<< (Int32.toInt64 ((x7 ^^^ ((1 : Int32) <<< (x2 &&& 31))) ^^^ ((1 : Int32) <<< (x3 &&& 31))) &&& 63)))).bind fun v7 =>
              (f_X7_pushes_14 F f) x0 x1 x2 x3 x4 (x6 + 1) (x7 + 1) v7
            else
              (f_X7_pushes_14 F f) x0 x1 x2 x3 x4 x6 (x7 + 1) u
    else
      some (x6, u)
def f_X7_pushes_0 (F : Nat × Nat) (x0 : Nat) (x1 : Int32) (x2 : Int32) (x3 : Int32) (u : Option rx_H) : Option (Int32 × Option rx_H) :=
  (rx_gR u x0 3 5).bind fun v1 =>
  (rx_aJ u v1 x1).bind fun v2 =>
  f_X7_pushes_14 F F.1 x0 x1 x2 x3 v2 (0 : Int32) (0 : Int32) u
def f_X7_pushes (F : Nat × Nat) (x0 : Nat) (x1 : Int32) (x2 : Int32) (x3 : Int32) (u : Option rx_H) : Option (Int32 × Option rx_H) := f_X7_pushes_0 F x0 x1 x2 x3 u
def c_X7_pushes {α : Type} (F : Nat × Nat) (as : List Value) (u : Option rx_H) (κ : rx_K α) : Option α := match as with
  | [.ref a0, .int a1, .int a2, .int a3] => (f_X7_pushes F a0 a1 a2 a3 u).bind fun r => κ (some (.int r.1)) r.2
  | _ => none
noncomputable def C_X7_pushes {α : Type} (F : Nat × Nat) : rx_Cl α := fun j as u κ => Bool.rec (motive := fun _ => Option α) (none) (c_X7_has F as u κ) (Nat.beq j 163)
def t_X7_pushes : List rx_E := [
  (0, .aload_n 0, 1, 0, 0, 0, 0, 0, []),
  (1, .getfield 20, 3, 3, 22, 758, 0, 0, []),
  (4, .iload_n 1, 1, 0, 0, 0, 0, 0, []),
  (5, .laload, 1, 0, 0, 0, 0, 0, []),
  (6, .lstore 4, 2, 0, 0, 0, 0, 0, []),
  (8, .iconst 0, 1, 0, 0, 0, 0, 0, []),
  (9, .istore 6, 2, 0, 0, 0, 0, 0, []),
  (11, .iconst 0, 1, 0, 0, 0, 0, 0, []),
  (12, .istore 7, 2, 0, 0, 0, 0, 0, []),
  (14, .iload 7, 2, 0, 0, 0, 0, 0, []),
  (16, .aload_n 0, 1, 0, 0, 0, 0, 0, []),
  (17, .getfield 51, 3, 3, 8, 755, 0, 0, []),
  (20, .if_icmp .ge 95, 3, 115, 0, 0, 0, 0, []),
  (23, .lload 4, 2, 0, 0, 0, 0, 0, []),
  (25, .iload 7, 2, 0, 0, 0, 0, 0, []),
  (27, .invokestatic 78, 3, 163, 2, 850, 0, 0, []),
  (30, .ifCond .eq 79, 3, 109, 0, 0, 0, 0, []),
  (33, .iload 7, 2, 0, 0, 0, 0, 0, []),
  (35, .iload_n 2, 1, 0, 0, 0, 0, 0, []),
  (36, .ishr, 1, 0, 0, 0, 0, 0, []),
  (37, .iconst 1, 1, 0, 0, 0, 1, 0, []),
  (38, .iand, 1, 0, 0, 0, 0, 0, []),
  (39, .ifCond .eq 70, 3, 109, 0, 0, 0, 0, []),
  (42, .iload 7, 2, 0, 0, 0, 0, 0, []),
  (44, .iload_n 3, 1, 0, 0, 0, 0, 0, []),
  (45, .ishr, 1, 0, 0, 0, 0, 0, []),
  (46, .iconst 1, 1, 0, 0, 0, 1, 0, []),
  (47, .iand, 1, 0, 0, 0, 0, 0, []),
  (48, .iconst 1, 1, 0, 0, 0, 1, 0, []),
  (49, .if_icmp .ne 6, 3, 55, 0, 0, 0, 0, []),
  (52, .goto 57, 3, 109, 0, 0, 0, 0, []),
  (55, .iload 7, 2, 0, 0, 0, 0, 0, []),
  (57, .iconst 1, 1, 0, 0, 0, 1, 0, []),
  (58, .iload_n 2, 1, 0, 0, 0, 0, 0, []),
  (59, .ishl, 1, 0, 0, 0, 0, 0, []),
  (60, .ixor, 1, 0, 0, 0, 0, 0, []),
  (61, .iconst 1, 1, 0, 0, 0, 1, 0, []),
  (62, .iload_n 3, 1, 0, 0, 0, 0, 0, []),
  (63, .ishl, 1, 0, 0, 0, 0, 0, []),
  (64, .ixor, 1, 0, 0, 0, 0, 0, []),
  (65, .istore 8, 2, 0, 0, 0, 0, 0, []),
  (67, .lload 4, 2, 0, 0, 0, 0, 0, []),
  (69, .iload 8, 2, 0, 0, 0, 0, 0, []),
  (71, .invokestatic 78, 3, 163, 2, 850, 0, 0, []),
  (74, .ifCond .eq 6, 3, 80, 0, 0, 0, 0, []),
  (77, .goto 32, 3, 109, 0, 0, 0, 0, []),
  (80, .aload_n 0, 1, 0, 0, 0, 0, 0, []),
  (81, .getfield 20, 3, 3, 22, 758, 0, 0, []),
  (84, .iload_n 1, 1, 0, 0, 0, 0, 0, []),
  (85, .aload_n 0, 1, 0, 0, 0, 0, 0, []),
  (86, .getfield 20, 3, 3, 22, 758, 0, 0, []),
  (89, .iload_n 1, 1, 0, 0, 0, 0, 0, []),
  (90, .laload, 1, 0, 0, 0, 0, 0, []),
  (91, .lconst 1, 1, 0, 0, 0, 0, 1, []),
  (92, .iload 7, 2, 0, 0, 0, 0, 0, []),
  (94, .lshl, 1, 0, 0, 0, 0, 0, []),
  (95, .ldc2_w 102, 3, 0, 0, 860, 0, (-1), []),
  (98, .lxor, 1, 0, 0, 0, 0, 0, []),
  (99, .land, 1, 0, 0, 0, 0, 0, []),
  (100, .lconst 1, 1, 0, 0, 0, 0, 1, []),
  (101, .iload 8, 2, 0, 0, 0, 0, 0, []),
  (103, .lshl, 1, 0, 0, 0, 0, 0, []),
  (104, .lor, 1, 0, 0, 0, 0, 0, []),
  (105, .lastore, 1, 0, 0, 0, 0, 0, []),
  (106, .iinc 6 1, 3, 0, 0, 0, 1, 0, []),
  (109, .iinc 7 1, 3, 0, 0, 0, 1, 0, []),
  (112, .goto (-98), 3, 14, 0, 0, 0, 0, []),
  (115, .iload 6, 2, 0, 0, 0, 0, 0, []),
  (117, .ireturn, 1, 0, 0, 0, 0, 0, [])]
def n_X7_pushes_14 (k14 : Nat → Int32 → Int32 → Int32 → Int64 → Int32 → Int32 → Option rx_H → Option (Int32 × Option rx_H)) (ls : rx_L) (st : List Value) (u : Option rx_H) : Option (Int32 × Option rx_H) := match ls, st, u with
  | [some (.ref x0), some (.int x1), some (.int x2), some (.int x3), some (.long x4), _, some (.int x6), some (.int x7), _], [], u => k14 x0 x1 x2 x3 x4 x6 x7 u
  | _, _, _ => none
noncomputable def kk_X7_pushes_14 (F : Nat × Nat) (k14 : Nat → Int32 → Int32 → Int32 → Int64 → Int32 → Int32 → Option rx_H → Option (Int32 × Option rx_H)) : Nat → rx_L → List Value → Option rx_H → Option (Int32 × Option rx_H) := fun t ls st u => Bool.rec (motive := fun _ => Option (Int32 × Option rx_H)) (none) (n_X7_pushes_14 k14 ls st u) (Nat.beq t 14)
noncomputable def kk_X7_pushes_0 (F : Nat × Nat) : Nat → rx_L → List Value → Option rx_H → Option (Int32 × Option rx_H) := fun t ls st u => Bool.rec (motive := fun _ => Option (Int32 × Option rx_H)) (none) (n_X7_pushes_14 (f_X7_pushes_14 F F.1) ls st u) (Nat.beq t 14)
set_option maxRecDepth 100000 in
theorem g_X7_pushes_14 (F : Nat × Nat) (f : Nat) (x0 : Nat) (x1 : Int32) (x2 : Int32) (x3 : Int32) (x4 : Int64) (x6 : Int32) (x7 : Int32) (u : Option rx_H) : f_X7_pushes_14 F (f + 1) x0 x1 x2 x3 x4 x6 x7 u = rx_node (C_X7_pushes F) rx_hI t_X7_pushes [14] (kk_X7_pushes_14 F (f_X7_pushes_14 F f)) 72 14 [some (.ref x0), some (.int x1), some (.int x2), some (.int x3), some (.long x4), none, some (.int x6), some (.int x7), none] [] u := rfl
set_option maxRecDepth 100000 in
theorem g_X7_pushes_0 (F : Nat × Nat) (x0 : Nat) (x1 : Int32) (x2 : Int32) (x3 : Int32) (u : Option rx_H) : f_X7_pushes_0 F x0 x1 x2 x3 u = rx_node (C_X7_pushes F) rx_hI t_X7_pushes [14] (kk_X7_pushes_0 F) 72 0 [some (.ref x0), some (.int x1), some (.int x2), some (.int x3), none, none, none, none, none] [] u := rfl
def f_X7_staysLayer_0 (F : Nat × Nat) (x0 : Nat) (x1 : Int32) (u : Option rx_H) : Option (Option rx_H) :=
  (rx_gR u x0 3 3).bind fun v1 =>
  (rx_aI u v1 x1).bind fun v2 =>
  if v2 = (4 : Int32) then
    some u
  else
    (rx_gR u x0 3 3).bind fun v3 =>
    (rx_sI u v3 x1 (0 : Int32)).bind fun v4 =>
    some v4
def f_X7_staysLayer (F : Nat × Nat) (x0 : Nat) (x1 : Int32) (u : Option rx_H) : Option (Option rx_H) := f_X7_staysLayer_0 F x0 x1 u
def c_X7_staysLayer {α : Type} (F : Nat × Nat) (as : List Value) (u : Option rx_H) (κ : rx_K α) : Option α := match as with
  | [.ref a0, .int a1] => (f_X7_staysLayer F a0 a1 u).bind fun r => κ none r
  | _ => none
noncomputable def C_X7_staysLayer {α : Type} (F : Nat × Nat) : rx_Cl α := fun j as u κ => none
def t_X7_staysLayer : List rx_E := [
  (0, .aload_n 0, 1, 0, 0, 0, 0, 0, []),
  (1, .getfield 13, 3, 3, 14, 756, 0, 0, []),
  (4, .iload_n 1, 1, 0, 0, 0, 0, 0, []),
  (5, .iaload, 1, 0, 0, 0, 0, 0, []),
  (6, .iconst 4, 1, 0, 0, 0, 4, 0, []),
  (7, .if_icmp .eq 10, 3, 17, 0, 0, 0, 0, []),
  (10, .aload_n 0, 1, 0, 0, 0, 0, 0, []),
  (11, .getfield 13, 3, 3, 14, 756, 0, 0, []),
  (14, .iload_n 1, 1, 0, 0, 0, 0, 0, []),
  (15, .iconst 0, 1, 0, 0, 0, 0, 0, []),
  (16, .iastore, 1, 0, 0, 0, 0, 0, []),
  (17, .return_, 1, 0, 0, 0, 0, 0, [])]
noncomputable def kk_X7_staysLayer_0 (F : Nat × Nat) : Nat → rx_L → List Value → Option rx_H → Option (Option rx_H) := fun t ls st u => none
set_option maxRecDepth 100000 in
theorem g_X7_staysLayer_0 (F : Nat × Nat) (x0 : Nat) (x1 : Int32) (u : Option rx_H) : f_X7_staysLayer_0 F x0 x1 u = rx_node (C_X7_staysLayer F) rx_hV t_X7_staysLayer [] (kk_X7_staysLayer_0 F) 15 0 [some (.ref x0), some (.int x1)] [] u := rfl
def f_X7_push_0 (F : Nat × Nat) (x0 : Nat) (x1 : Int32) (x2 : Int32) (x3 : Int32) (u : Option rx_H) : Option (Int32 × Option rx_H) :=
  (f_X7_isPlace F x1).bind fun v1 =>
  if v1 = 0 then
    some ((-1 : Int32), u)
  else
    (rx_gI u x0 3 1).bind fun v2 =>
    (f_X7_isIn F x2 (0 : Int32) (v2 - (1 : Int32))).bind fun v3 =>
    if v3 = 0 then
      some ((-1 : Int32), u)
    else
      (rx_gI u x0 3 1).bind fun v4 =>
      (f_X7_isIn F x3 (0 : Int32) (v4 - (1 : Int32))).bind fun v5 =>
      if v5 = 0 then
        some ((-1 : Int32), u)
      else
        if x2 = x3 then
          some ((-1 : Int32), u)
        else
          (rx_ck u x0 3).bind fun _ =>
          (f_X7_lacks F x0 x1 u).bind fun v6 =>
          if v6.1 = 0 then
            (rx_ck v6.2 x0 3).bind fun _ =>
            (f_X7_pushes F x0 x1 x2 x3 v6.2).bind fun v7 =>
            (rx_ck v7.2 x0 3).bind fun _ =>
            (f_X7_staysLayer F x0 x1 v7.2).bind fun v8 =>
            some (v7.1, v8)
          else
            (rx_ck v6.2 x0 3).bind fun _ =>
            (f_X7_lacks F x0 x1 v6.2).bind fun v9 =>
            some (v9.1, v9.2)
def f_X7_push (F : Nat × Nat) (x0 : Nat) (x1 : Int32) (x2 : Int32) (x3 : Int32) (u : Option rx_H) : Option (Int32 × Option rx_H) := f_X7_push_0 F x0 x1 x2 x3 u
def c_X7_push {α : Type} (F : Nat × Nat) (as : List Value) (u : Option rx_H) (κ : rx_K α) : Option α := match as with
  | [.ref a0, .int a1, .int a2, .int a3] => (f_X7_push F a0 a1 a2 a3 u).bind fun r => κ (some (.int r.1)) r.2
  | _ => none
noncomputable def C_X7_push {α : Type} (F : Nat × Nat) : rx_Cl α := fun j as u κ => Bool.rec (motive := fun _ => Option α) (Bool.rec (motive := fun _ => Option α) (Bool.rec (motive := fun _ => Option α) (Bool.rec (motive := fun _ => Option α) (Bool.rec (motive := fun _ => Option α) (none) (c_X7_staysLayer F as u κ) (Nat.beq j 210)) (c_X7_pushes F as u κ) (Nat.beq j 196)) (c_X7_lacks F as u κ) (Nat.beq j 179)) (c_X7_isPlace F as u κ) (Nat.beq j 173)) (c_X7_isIn F as u κ) (Nat.beq j 171)
def t_X7_push : List rx_E := [
  (0, .iload_n 1, 1, 0, 0, 0, 0, 0, []),
  (1, .invokestatic 62, 3, 173, 1, 803, 0, 0, []),
  (4, .ifCond .eq 36, 3, 40, 0, 0, 0, 0, []),
  (7, .iload_n 2, 1, 0, 0, 0, 0, 0, []),
  (8, .iconst 0, 1, 0, 0, 0, 0, 0, []),
  (9, .aload_n 0, 1, 0, 0, 0, 0, 0, []),
  (10, .getfield 48, 3, 3, 4, 754, 0, 0, []),
  (13, .iconst 1, 1, 0, 0, 0, 1, 0, []),
  (14, .isub, 1, 0, 0, 0, 0, 0, []),
  (15, .invokestatic 54, 3, 171, 3, 806, 0, 0, []),
  (18, .ifCond .eq 22, 3, 40, 0, 0, 0, 0, []),
  (21, .iload_n 3, 1, 0, 0, 0, 0, 0, []),
  (22, .iconst 0, 1, 0, 0, 0, 0, 0, []),
  (23, .aload_n 0, 1, 0, 0, 0, 0, 0, []),
  (24, .getfield 48, 3, 3, 4, 754, 0, 0, []),
  (27, .iconst 1, 1, 0, 0, 0, 1, 0, []),
  (28, .isub, 1, 0, 0, 0, 0, 0, []),
  (29, .invokestatic 54, 3, 171, 3, 806, 0, 0, []),
  (32, .ifCond .eq 8, 3, 40, 0, 0, 0, 0, []),
  (35, .iload_n 2, 1, 0, 0, 0, 0, 0, []),
  (36, .iload_n 3, 1, 0, 0, 0, 0, 0, []),
  (37, .if_icmp .ne 5, 3, 42, 0, 0, 0, 0, []),
  (40, .iconst (-1), 1, 0, 0, 0, (-1), 0, []),
  (41, .ireturn, 1, 0, 0, 0, 0, 0, []),
  (42, .aload_n 0, 1, 0, 0, 0, 0, 0, []),
  (43, .iload_n 1, 1, 0, 0, 0, 0, 0, []),
  (44, .invokevirtual 74, 3, 179, 302, 824, 0, 0, []),
  (47, .ifCond .eq 9, 3, 56, 0, 0, 0, 0, []),
  (50, .aload_n 0, 1, 0, 0, 0, 0, 0, []),
  (51, .iload_n 1, 1, 0, 0, 0, 0, 0, []),
  (52, .invokevirtual 74, 3, 179, 302, 824, 0, 0, []),
  (55, .ireturn, 1, 0, 0, 0, 0, 0, []),
  (56, .aload_n 0, 1, 0, 0, 0, 0, 0, []),
  (57, .iload_n 1, 1, 0, 0, 0, 0, 0, []),
  (58, .iload_n 2, 1, 0, 0, 0, 0, 0, []),
  (59, .iload_n 3, 1, 0, 0, 0, 0, 0, []),
  (60, .invokevirtual 156, 3, 196, 304, 988, 0, 0, []),
  (63, .istore 4, 2, 0, 0, 0, 0, 0, []),
  (65, .aload_n 0, 1, 0, 0, 0, 0, 0, []),
  (66, .iload_n 1, 1, 0, 0, 0, 0, 0, []),
  (67, .invokevirtual 160, 3, 210, 302, 992, 0, 0, []),
  (70, .iload 4, 2, 0, 0, 0, 0, 0, []),
  (72, .ireturn, 1, 0, 0, 0, 0, 0, [])]
noncomputable def kk_X7_push_0 (F : Nat × Nat) : Nat → rx_L → List Value → Option rx_H → Option (Int32 × Option rx_H) := fun t ls st u => none
set_option maxRecDepth 100000 in
theorem g_X7_push_0 (F : Nat × Nat) (x0 : Nat) (x1 : Int32) (x2 : Int32) (x3 : Int32) (u : Option rx_H) : f_X7_push_0 F x0 x1 x2 x3 u = rx_node (C_X7_push F) rx_hI t_X7_push [] (kk_X7_push_0 F) 46 0 [some (.ref x0), some (.int x1), some (.int x2), some (.int x3), none] [] u := rfl
def f_X7_pushed_49 (F : Nat × Nat) (k27 : Nat → Int32 → Int32 → Int32 → Option rx_H → Option (Int32 × Option rx_H)) (k37 : Nat → Int32 → Int32 → Int32 → Int32 → Option rx_H → Option (Int32 × Option rx_H)) : Nat → Nat → Int32 → Int32 → Int32 → Int32 → Int32 → Option rx_H → Option (Int32 × Option rx_H)
  | 0, _, _, _, _, _, _, _ => none
  | f + 1, x0, x1, x2, x3, x4, x5, u =>
    if x5 < x4 then
      (rx_ck u x0 3).bind fun _ =>
      (f_X7_pushes F x0 x1 x4 x5 u).bind fun v1 =>
      if 0 < v1.1 then
        (f_X7_pushed_49 F k27 k37 f) x0 x1 (x2 + (1 : Int32)) x3 x4 (x5 + 1) v1.2
      else
        (f_X7_pushed_49 F k27 k37 f) x0 x1 (x2 + (0 : Int32)) x3 x4 (x5 + 1) v1.2
    else
      k37 x0 x1 x2 x3 (x4 + 1) u
def f_X7_pushed_37 (F : Nat × Nat) (k27 : Nat → Int32 → Int32 → Int32 → Option rx_H → Option (Int32 × Option rx_H)) : Nat → Nat → Int32 → Int32 → Int32 → Int32 → Option rx_H → Option (Int32 × Option rx_H)
  | 0, _, _, _, _, _, _ => none
  | f + 1, x0, x1, x2, x3, x4, u =>
    (rx_gI u x0 3 1).bind fun v1 =>
    if x4 < v1 then
      f_X7_pushed_49 F k27 (f_X7_pushed_37 F k27 f) F.1 x0 x1 x2 x3 x4 (0 : Int32) u
    else
      k27 x0 x1 x2 x3 u
def f_X7_pushed_27 (F : Nat × Nat) : Nat → Nat → Int32 → Int32 → Int32 → Option rx_H → Option (Int32 × Option rx_H)
  | 0, _, _, _, _, _ => none
  | f + 1, x0, x1, x2, x3, u =>
    if x3 < x2 then
      f_X7_pushed_37 F (f_X7_pushed_27 F f) F.1 x0 x1 x2 x2 (1 : Int32) u
    else
      (rx_ck u x0 3).bind fun _ =>
      (f_X7_staysLayer F x0 x1 u).bind fun v1 =>
      some (x2, v1)
def f_X7_pushed_0 (F : Nat × Nat) (x0 : Nat) (x1 : Int32) (u : Option rx_H) : Option (Int32 × Option rx_H) :=
  (f_X7_isPlace F x1).bind fun v1 =>
  if v1 = 0 then
    some ((-1 : Int32), u)
  else
    (rx_ck u x0 3).bind fun _ =>
    (f_X7_lacks F x0 x1 u).bind fun v2 =>
    if v2.1 = 0 then
      f_X7_pushed_27 F F.1 x0 x1 (0 : Int32) (-1 : Int32) v2.2
    else
      (rx_ck v2.2 x0 3).bind fun _ =>
      (f_X7_lacks F x0 x1 v2.2).bind fun v3 =>
      some (v3.1, v3.2)
def f_X7_pushed (F : Nat × Nat) (x0 : Nat) (x1 : Int32) (u : Option rx_H) : Option (Int32 × Option rx_H) := f_X7_pushed_0 F x0 x1 u
def c_X7_pushed {α : Type} (F : Nat × Nat) (as : List Value) (u : Option rx_H) (κ : rx_K α) : Option α := match as with
  | [.ref a0, .int a1] => (f_X7_pushed F a0 a1 u).bind fun r => κ (some (.int r.1)) r.2
  | _ => none
noncomputable def C_X7_pushed {α : Type} (F : Nat × Nat) : rx_Cl α := fun j as u κ => Bool.rec (motive := fun _ => Option α) (Bool.rec (motive := fun _ => Option α) (Bool.rec (motive := fun _ => Option α) (Bool.rec (motive := fun _ => Option α) (none) (c_X7_staysLayer F as u κ) (Nat.beq j 210)) (c_X7_pushes F as u κ) (Nat.beq j 196)) (c_X7_lacks F as u κ) (Nat.beq j 179)) (c_X7_isPlace F as u κ) (Nat.beq j 173)
def t_X7_pushed : List rx_E := [
  (0, .iload_n 1, 1, 0, 0, 0, 0, 0, []),
  (1, .invokestatic 62, 3, 173, 1, 803, 0, 0, []),
  (4, .ifCond .ne 5, 3, 9, 0, 0, 0, 0, []),
  (7, .iconst (-1), 1, 0, 0, 0, (-1), 0, []),
  (8, .ireturn, 1, 0, 0, 0, 0, 0, []),
  (9, .aload_n 0, 1, 0, 0, 0, 0, 0, []),
  (10, .iload_n 1, 1, 0, 0, 0, 0, 0, []),
  (11, .invokevirtual 74, 3, 179, 302, 824, 0, 0, []),
  (14, .ifCond .eq 9, 3, 23, 0, 0, 0, 0, []),
  (17, .aload_n 0, 1, 0, 0, 0, 0, 0, []),
  (18, .iload_n 1, 1, 0, 0, 0, 0, 0, []),
  (19, .invokevirtual 74, 3, 179, 302, 824, 0, 0, []),
  (22, .ireturn, 1, 0, 0, 0, 0, 0, []),
  (23, .iconst 0, 1, 0, 0, 0, 0, 0, []),
  (24, .istore_n 2, 1, 0, 0, 0, 0, 0, []),
  (25, .iconst (-1), 1, 0, 0, 0, (-1), 0, []),
  (26, .istore_n 3, 1, 0, 0, 0, 0, 0, []),
  (27, .iload_n 2, 1, 0, 0, 0, 0, 0, []),
  (28, .iload_n 3, 1, 0, 0, 0, 0, 0, []),
  (29, .if_icmp .le 62, 3, 91, 0, 0, 0, 0, []),
  (32, .iload_n 2, 1, 0, 0, 0, 0, 0, []),
  (33, .istore_n 3, 1, 0, 0, 0, 0, 0, []),
  (34, .iconst 1, 1, 0, 0, 0, 1, 0, []),
  (35, .istore 4, 2, 0, 0, 0, 0, 0, []),
  (37, .iload 4, 2, 0, 0, 0, 0, 0, []),
  (39, .aload_n 0, 1, 0, 0, 0, 0, 0, []),
  (40, .getfield 48, 3, 3, 4, 754, 0, 0, []),
  (43, .if_icmp .ge 45, 3, 88, 0, 0, 0, 0, []),
  (46, .iconst 0, 1, 0, 0, 0, 0, 0, []),
  (47, .istore 5, 2, 0, 0, 0, 0, 0, []),
  (49, .iload 5, 2, 0, 0, 0, 0, 0, []),
  (51, .iload 4, 2, 0, 0, 0, 0, 0, []),
  (53, .if_icmp .ge 29, 3, 82, 0, 0, 0, 0, []),
  (56, .iload_n 2, 1, 0, 0, 0, 0, 0, []),
  (57, .aload_n 0, 1, 0, 0, 0, 0, 0, []),
  (58, .iload_n 1, 1, 0, 0, 0, 0, 0, []),
  (59, .iload 4, 2, 0, 0, 0, 0, 0, []),
  (61, .iload 5, 2, 0, 0, 0, 0, 0, []),
  (63, .invokevirtual 156, 3, 196, 304, 988, 0, 0, []),
  (66, .ifCond .le 7, 3, 73, 0, 0, 0, 0, []),
  (69, .iconst 1, 1, 0, 0, 0, 1, 0, []),
  (70, .goto 4, 3, 74, 0, 0, 0, 0, []),
  (73, .iconst 0, 1, 0, 0, 0, 0, 0, []),
  (74, .iadd, 1, 0, 0, 0, 0, 0, []),
  (75, .istore_n 2, 1, 0, 0, 0, 0, 0, []),
  (76, .iinc 5 1, 3, 0, 0, 0, 1, 0, []),
  (79, .goto (-30), 3, 49, 0, 0, 0, 0, []),
  (82, .iinc 4 1, 3, 0, 0, 0, 1, 0, []),
  (85, .goto (-48), 3, 37, 0, 0, 0, 0, []),
  (88, .goto (-61), 3, 27, 0, 0, 0, 0, []),
  (91, .aload_n 0, 1, 0, 0, 0, 0, 0, []),
  (92, .iload_n 1, 1, 0, 0, 0, 0, 0, []),
  (93, .invokevirtual 160, 3, 210, 302, 992, 0, 0, []),
  (96, .iload_n 2, 1, 0, 0, 0, 0, 0, []),
  (97, .ireturn, 1, 0, 0, 0, 0, 0, [])]
def n_X7_pushed_27 (k27 : Nat → Int32 → Int32 → Int32 → Option rx_H → Option (Int32 × Option rx_H)) (ls : rx_L) (st : List Value) (u : Option rx_H) : Option (Int32 × Option rx_H) := match ls, st, u with
  | [some (.ref x0), some (.int x1), some (.int x2), some (.int x3), _, _], [], u => k27 x0 x1 x2 x3 u
  | _, _, _ => none
def n_X7_pushed_37 (k37 : Nat → Int32 → Int32 → Int32 → Int32 → Option rx_H → Option (Int32 × Option rx_H)) (ls : rx_L) (st : List Value) (u : Option rx_H) : Option (Int32 × Option rx_H) := match ls, st, u with
  | [some (.ref x0), some (.int x1), some (.int x2), some (.int x3), some (.int x4), _], [], u => k37 x0 x1 x2 x3 x4 u
  | _, _, _ => none
def n_X7_pushed_49 (k49 : Nat → Int32 → Int32 → Int32 → Int32 → Int32 → Option rx_H → Option (Int32 × Option rx_H)) (ls : rx_L) (st : List Value) (u : Option rx_H) : Option (Int32 × Option rx_H) := match ls, st, u with
  | [some (.ref x0), some (.int x1), some (.int x2), some (.int x3), some (.int x4), some (.int x5)], [], u => k49 x0 x1 x2 x3 x4 x5 u
  | _, _, _ => none
noncomputable def kk_X7_pushed_49 (F : Nat × Nat) (k27 : Nat → Int32 → Int32 → Int32 → Option rx_H → Option (Int32 × Option rx_H)) (k37 : Nat → Int32 → Int32 → Int32 → Int32 → Option rx_H → Option (Int32 × Option rx_H)) (k49 : Nat → Int32 → Int32 → Int32 → Int32 → Int32 → Option rx_H → Option (Int32 × Option rx_H)) : Nat → rx_L → List Value → Option rx_H → Option (Int32 × Option rx_H) := fun t ls st u => Bool.rec (motive := fun _ => Option (Int32 × Option rx_H)) (Bool.rec (motive := fun _ => Option (Int32 × Option rx_H)) (none) (n_X7_pushed_49 k49 ls st u) (Nat.beq t 49)) (n_X7_pushed_37 k37 ls st u) (Nat.beq t 37)
noncomputable def kk_X7_pushed_37 (F : Nat × Nat) (k27 : Nat → Int32 → Int32 → Int32 → Option rx_H → Option (Int32 × Option rx_H)) (k37 : Nat → Int32 → Int32 → Int32 → Int32 → Option rx_H → Option (Int32 × Option rx_H)) : Nat → rx_L → List Value → Option rx_H → Option (Int32 × Option rx_H) := fun t ls st u => Bool.rec (motive := fun _ => Option (Int32 × Option rx_H)) (Bool.rec (motive := fun _ => Option (Int32 × Option rx_H)) (none) (n_X7_pushed_49 (f_X7_pushed_49 F k27 k37 F.1) ls st u) (Nat.beq t 49)) (n_X7_pushed_27 k27 ls st u) (Nat.beq t 27)
noncomputable def kk_X7_pushed_27 (F : Nat × Nat) (k27 : Nat → Int32 → Int32 → Int32 → Option rx_H → Option (Int32 × Option rx_H)) : Nat → rx_L → List Value → Option rx_H → Option (Int32 × Option rx_H) := fun t ls st u => Bool.rec (motive := fun _ => Option (Int32 × Option rx_H)) (none) (n_X7_pushed_37 (f_X7_pushed_37 F k27 F.1) ls st u) (Nat.beq t 37)
noncomputable def kk_X7_pushed_0 (F : Nat × Nat) : Nat → rx_L → List Value → Option rx_H → Option (Int32 × Option rx_H) := fun t ls st u => Bool.rec (motive := fun _ => Option (Int32 × Option rx_H)) (none) (n_X7_pushed_27 (f_X7_pushed_27 F F.1) ls st u) (Nat.beq t 27)
set_option maxRecDepth 100000 in
theorem g_X7_pushed_49 (F : Nat × Nat) (k27 : Nat → Int32 → Int32 → Int32 → Option rx_H → Option (Int32 × Option rx_H)) (k37 : Nat → Int32 → Int32 → Int32 → Int32 → Option rx_H → Option (Int32 × Option rx_H)) (f : Nat) (x0 : Nat) (x1 : Int32) (x2 : Int32) (x3 : Int32) (x4 : Int32) (x5 : Int32) (u : Option rx_H) : f_X7_pushed_49 F k27 k37 (f + 1) x0 x1 x2 x3 x4 x5 u = rx_node (C_X7_pushed F) rx_hI t_X7_pushed [27, 37, 49] (kk_X7_pushed_49 F k27 k37 (f_X7_pushed_49 F k27 k37 f)) 58 49 [some (.ref x0), some (.int x1), some (.int x2), some (.int x3), some (.int x4), some (.int x5)] [] u := rfl
set_option maxRecDepth 100000 in
theorem g_X7_pushed_37 (F : Nat × Nat) (k27 : Nat → Int32 → Int32 → Int32 → Option rx_H → Option (Int32 × Option rx_H)) (f : Nat) (x0 : Nat) (x1 : Int32) (x2 : Int32) (x3 : Int32) (x4 : Int32) (u : Option rx_H) : f_X7_pushed_37 F k27 (f + 1) x0 x1 x2 x3 x4 u = rx_node (C_X7_pushed F) rx_hI t_X7_pushed [27, 37, 49] (kk_X7_pushed_37 F k27 (f_X7_pushed_37 F k27 f)) 58 37 [some (.ref x0), some (.int x1), some (.int x2), some (.int x3), some (.int x4), none] [] u := rfl
set_option maxRecDepth 100000 in
theorem g_X7_pushed_27 (F : Nat × Nat) (f : Nat) (x0 : Nat) (x1 : Int32) (x2 : Int32) (x3 : Int32) (u : Option rx_H) : f_X7_pushed_27 F (f + 1) x0 x1 x2 x3 u = rx_node (C_X7_pushed F) rx_hI t_X7_pushed [27, 37, 49] (kk_X7_pushed_27 F (f_X7_pushed_27 F f)) 58 27 [some (.ref x0), some (.int x1), some (.int x2), some (.int x3), none, none] [] u := rfl
set_option maxRecDepth 100000 in
theorem g_X7_pushed_0 (F : Nat × Nat) (x0 : Nat) (x1 : Int32) (u : Option rx_H) : f_X7_pushed_0 F x0 x1 u = rx_node (C_X7_pushed F) rx_hI t_X7_pushed [27, 37, 49] (kk_X7_pushed_0 F) 58 0 [some (.ref x0), some (.int x1), none, none, none, none] [] u := rfl
def f_X7_first_78 (F : Nat × Nat) (x0 : Nat) (x1 : Int32) (x3 : Int32) (x4 : Int64) (x6 : Int32) (u : Option rx_H) : Option (Int32 × Option rx_H) :=
  if 0 < x6 then
    some ((-1 : Int32), u)
  else
    (rx_ck u x0 3).bind fun _ =>
    (f_X7_holdsNow F x0 x3 (4 : Int32) x1 x4 u).bind fun v1 =>
    some (v1.1, v1.2)
def f_X7_first_34 (F : Nat × Nat) : Nat → Nat → Int32 → Int32 → Int64 → Int32 → Int32 → Option rx_H → Option (Int32 × Option rx_H)
  | 0, _, _, _, _, _, _, _ => none
  | f + 1, x0, x1, x3, x4, x6, x7, u =>
    (rx_gI u x0 3 2).bind fun v1 =>
    if x7 < v1 then
      if 0 < x6 then
        (f_X7_ones F x7).bind fun v2 =>
        if v2 = x1 then
          (f_X7_first_34 F f) x0 x1 x3 (x4 ||| ((1 : Int64) <<< (Int32.toInt64 x7 &&& 63))) (x6 + (-1)) (x7 + 1) u
        else
          (f_X7_first_34 F f) x0 x1 x3 x4 x6 (x7 + 1) u
      else
        f_X7_first_78 F x0 x1 x3 x4 x6 u
    else
      f_X7_first_78 F x0 x1 x3 x4 x6 u
def f_X7_first_0 (F : Nat × Nat) (x0 : Nat) (x1 : Int32) (x2 : Int32) (x3 : Int32) (u : Option rx_H) : Option (Int32 × Option rx_H) :=
  (rx_gI u x0 3 1).bind fun v1 =>
  (f_X7_isIn F x1 (0 : Int32) v1).bind fun v2 =>
  if v2 = 0 then
    some ((-1 : Int32), u)
  else
    if x2 < 0 then
      some ((-1 : Int32), u)
    else
      (f_X7_isPlace F x3).bind fun v3 =>
      if v3 = 0 then
        some ((-1 : Int32), u)
      else
        f_X7_first_34 F F.1 x0 x1 x3 (0 : Int64) x2 (0 : Int32) u
def f_X7_first (F : Nat × Nat) (x0 : Nat) (x1 : Int32) (x2 : Int32) (x3 : Int32) (u : Option rx_H) : Option (Int32 × Option rx_H) := f_X7_first_0 F x0 x1 x2 x3 u
def c_X7_first {α : Type} (F : Nat × Nat) (as : List Value) (u : Option rx_H) (κ : rx_K α) : Option α := match as with
  | [.ref a0, .int a1, .int a2, .int a3] => (f_X7_first F a0 a1 a2 a3 u).bind fun r => κ (some (.int r.1)) r.2
  | _ => none
noncomputable def C_X7_first {α : Type} (F : Nat × Nat) : rx_Cl α := fun j as u κ => Bool.rec (motive := fun _ => Option α) (Bool.rec (motive := fun _ => Option α) (Bool.rec (motive := fun _ => Option α) (Bool.rec (motive := fun _ => Option α) (none) (c_X7_ones F as u κ) (Nat.beq j 190)) (c_X7_isPlace F as u κ) (Nat.beq j 173)) (c_X7_isIn F as u κ) (Nat.beq j 171)) (c_X7_holdsNow F as u κ) (Nat.beq j 168)
def t_X7_first : List rx_E := [
  (0, .iload_n 1, 1, 0, 0, 0, 0, 0, []),
  (1, .iconst 0, 1, 0, 0, 0, 0, 0, []),
  (2, .aload_n 0, 1, 0, 0, 0, 0, 0, []),
  (3, .getfield 48, 3, 3, 4, 754, 0, 0, []),
  (6, .invokestatic 54, 3, 171, 3, 806, 0, 0, []),
  (9, .ifCond .eq 14, 3, 23, 0, 0, 0, 0, []),
  (12, .iload_n 2, 1, 0, 0, 0, 0, 0, []),
  (13, .ifCond .lt 10, 3, 23, 0, 0, 0, 0, []),
  (16, .iload_n 3, 1, 0, 0, 0, 0, 0, []),
  (17, .invokestatic 62, 3, 173, 1, 803, 0, 0, []),
  (20, .ifCond .ne 5, 3, 25, 0, 0, 0, 0, []),
  (23, .iconst (-1), 1, 0, 0, 0, (-1), 0, []),
  (24, .ireturn, 1, 0, 0, 0, 0, 0, []),
  (25, .lconst 0, 1, 0, 0, 0, 0, 0, []),
  (26, .lstore 4, 2, 0, 0, 0, 0, 0, []),
  (28, .iload_n 2, 1, 0, 0, 0, 0, 0, []),
  (29, .istore 6, 2, 0, 0, 0, 0, 0, []),
  (31, .iconst 0, 1, 0, 0, 0, 0, 0, []),
  (32, .istore 7, 2, 0, 0, 0, 0, 0, []),
  (34, .iload 7, 2, 0, 0, 0, 0, 0, []),
  (36, .aload_n 0, 1, 0, 0, 0, 0, 0, []),
  (37, .getfield 51, 3, 3, 8, 755, 0, 0, []),
  (40, .if_icmp .ge 38, 3, 78, 0, 0, 0, 0, []),
  (43, .iload 6, 2, 0, 0, 0, 0, 0, []),
  (45, .ifCond .le 33, 3, 78, 0, 0, 0, 0, []),
  (48, .iload 7, 2, 0, 0, 0, 0, 0, []),
  (50, .invokestatic 82, 3, 190, 1, 844, 0, 0, []),
  (53, .iload_n 1, 1, 0, 0, 0, 0, 0, []),
  (54, .if_icmp .eq 6, 3, 60, 0, 0, 0, 0, []),
  (57, .goto 15, 3, 72, 0, 0, 0, 0, []),
  (60, .lload 4, 2, 0, 0, 0, 0, 0, []),
  (62, .lconst 1, 1, 0, 0, 0, 0, 1, []),
  (63, .iload 7, 2, 0, 0, 0, 0, 0, []),
  (65, .lshl, 1, 0, 0, 0, 0, 0, []),
  (66, .lor, 1, 0, 0, 0, 0, 0, []),
  (67, .lstore 4, 2, 0, 0, 0, 0, 0, []),
  (69, .iinc 6 (-1), 3, 0, 0, 0, (-1), 0, []),
  (72, .iinc 7 1, 3, 0, 0, 0, 1, 0, []),
  (75, .goto (-41), 3, 34, 0, 0, 0, 0, []),
  (78, .iload 6, 2, 0, 0, 0, 0, 0, []),
  (80, .ifCond .le 7, 3, 87, 0, 0, 0, 0, []),
  (83, .iconst (-1), 1, 0, 0, 0, (-1), 0, []),
  (84, .goto 12, 3, 96, 0, 0, 0, 0, []),
  (87, .aload_n 0, 1, 0, 0, 0, 0, 0, []),
  (88, .iload_n 3, 1, 0, 0, 0, 0, 0, []),
  (89, .iconst 4, 1, 0, 0, 0, 4, 0, []),
  (90, .iload_n 1, 1, 0, 0, 0, 0, 0, []),
  (91, .lload 4, 2, 0, 0, 0, 0, 0, []),
  (93, .invokevirtual 70, 3, 168, 305, 813, 0, 0, []),
  (96, .ireturn, 1, 0, 0, 0, 0, 0, [])]
def n_X7_first_34 (k34 : Nat → Int32 → Int32 → Int64 → Int32 → Int32 → Option rx_H → Option (Int32 × Option rx_H)) (ls : rx_L) (st : List Value) (u : Option rx_H) : Option (Int32 × Option rx_H) := match ls, st, u with
  | [some (.ref x0), some (.int x1), _, some (.int x3), some (.long x4), _, some (.int x6), some (.int x7)], [], u => k34 x0 x1 x3 x4 x6 x7 u
  | _, _, _ => none
def n_X7_first_78 (F : Nat × Nat) (ls : rx_L) (st : List Value) (u : Option rx_H) : Option (Int32 × Option rx_H) := match ls, st, u with
  | [some (.ref x0), some (.int x1), _, some (.int x3), some (.long x4), _, some (.int x6), _], [], u => f_X7_first_78 F x0 x1 x3 x4 x6 u
  | _, _, _ => none
noncomputable def kk_X7_first_78 (F : Nat × Nat) : Nat → rx_L → List Value → Option rx_H → Option (Int32 × Option rx_H) := fun t ls st u => none
noncomputable def kk_X7_first_34 (F : Nat × Nat) (k34 : Nat → Int32 → Int32 → Int64 → Int32 → Int32 → Option rx_H → Option (Int32 × Option rx_H)) : Nat → rx_L → List Value → Option rx_H → Option (Int32 × Option rx_H) := fun t ls st u => Bool.rec (motive := fun _ => Option (Int32 × Option rx_H)) (Bool.rec (motive := fun _ => Option (Int32 × Option rx_H)) (none) (n_X7_first_78 F ls st u) (Nat.beq t 78)) (n_X7_first_34 k34 ls st u) (Nat.beq t 34)
noncomputable def kk_X7_first_0 (F : Nat × Nat) : Nat → rx_L → List Value → Option rx_H → Option (Int32 × Option rx_H) := fun t ls st u => Bool.rec (motive := fun _ => Option (Int32 × Option rx_H)) (none) (n_X7_first_34 (f_X7_first_34 F F.1) ls st u) (Nat.beq t 34)
set_option maxRecDepth 100000 in
theorem g_X7_first_78 (F : Nat × Nat) (x0 : Nat) (x1 : Int32) (x3 : Int32) (x4 : Int64) (x6 : Int32) (u : Option rx_H) : f_X7_first_78 F x0 x1 x3 x4 x6 u = rx_node (C_X7_first F) rx_hI t_X7_first [34, 78] (kk_X7_first_78 F) 53 78 [some (.ref x0), some (.int x1), none, some (.int x3), some (.long x4), none, some (.int x6), none] [] u := rfl
set_option maxRecDepth 100000 in
theorem g_X7_first_34 (F : Nat × Nat) (f : Nat) (x0 : Nat) (x1 : Int32) (x3 : Int32) (x4 : Int64) (x6 : Int32) (x7 : Int32) (u : Option rx_H) : f_X7_first_34 F (f + 1) x0 x1 x3 x4 x6 x7 u = rx_node (C_X7_first F) rx_hI t_X7_first [34, 78] (kk_X7_first_34 F (f_X7_first_34 F f)) 53 34 [some (.ref x0), some (.int x1), none, some (.int x3), some (.long x4), none, some (.int x6), some (.int x7)] [] u := rfl
set_option maxRecDepth 100000 in
theorem g_X7_first_0 (F : Nat × Nat) (x0 : Nat) (x1 : Int32) (x2 : Int32) (x3 : Int32) (u : Option rx_H) : f_X7_first_0 F x0 x1 x2 x3 u = rx_node (C_X7_first F) rx_hI t_X7_first [34, 78] (kk_X7_first_0 F) 53 0 [some (.ref x0), some (.int x1), some (.int x2), some (.int x3), none, none, none, none] [] u := rfl
def f_X7_sum_27 (F : Nat × Nat) : Nat → Nat → Int32 → Int32 → Int32 → Option rx_H → Option (Int32 × Option rx_H)
  | 0, _, _, _, _, _ => none
  | f + 1, x0, x1, x2, x3, u =>
    (rx_gI u x0 3 2).bind fun v1 =>
    if x3 < v1 then
      (rx_gR u x0 3 5).bind fun v2 =>
      (rx_aJ u v2 x1).bind fun v3 =>
      (f_X7_has F v3 x3).bind fun v4 =>
      if v4 = 0 then
        (f_X7_sum_27 F f) x0 x1 (x2 + (0 : Int32)) (x3 + 1) u
      else
        (f_X7_ones F x3).bind fun v5 =>
        (f_X7_factorial F v5).bind fun v6 =>
        (rx_gI u x0 3 1).bind fun v7 =>
        (f_X7_ones F x3).bind fun v8 =>
        (f_X7_factorial F (v7 - v8)).bind fun v9 =>
        (f_X7_sum_27 F f) x0 x1 (x2 + (v6 * v9)) (x3 + 1) u
    else
      some (x2, u)
def f_X7_sum_0 (F : Nat × Nat) (x0 : Nat) (x1 : Int32) (u : Option rx_H) : Option (Int32 × Option rx_H) :=
  (f_X7_isPlace F x1).bind fun v1 =>
  if v1 = 0 then
    some ((-1 : Int32), u)
  else
    (rx_ck u x0 3).bind fun _ =>
    (f_X7_lacks F x0 x1 u).bind fun v2 =>
    if v2.1 = 0 then
      f_X7_sum_27 F F.1 x0 x1 (0 : Int32) (0 : Int32) v2.2
    else
      (rx_ck v2.2 x0 3).bind fun _ =>
      (f_X7_lacks F x0 x1 v2.2).bind fun v3 =>
      some (v3.1, v3.2)
def f_X7_sum (F : Nat × Nat) (x0 : Nat) (x1 : Int32) (u : Option rx_H) : Option (Int32 × Option rx_H) := f_X7_sum_0 F x0 x1 u
def c_X7_sum {α : Type} (F : Nat × Nat) (as : List Value) (u : Option rx_H) (κ : rx_K α) : Option α := match as with
  | [.ref a0, .int a1] => (f_X7_sum F a0 a1 u).bind fun r => κ (some (.int r.1)) r.2
  | _ => none
noncomputable def C_X7_sum {α : Type} (F : Nat × Nat) : rx_Cl α := fun j as u κ => Bool.rec (motive := fun _ => Option α) (Bool.rec (motive := fun _ => Option α) (Bool.rec (motive := fun _ => Option α) (Bool.rec (motive := fun _ => Option α) (Bool.rec (motive := fun _ => Option α) (none) (c_X7_ones F as u κ) (Nat.beq j 190)) (c_X7_lacks F as u κ) (Nat.beq j 179)) (c_X7_isPlace F as u κ) (Nat.beq j 173)) (c_X7_has F as u κ) (Nat.beq j 163)) (c_X7_factorial F as u κ) (Nat.beq j 156)
def t_X7_sum : List rx_E := [
  (0, .iload_n 1, 1, 0, 0, 0, 0, 0, []),
  (1, .invokestatic 62, 3, 173, 1, 803, 0, 0, []),
  (4, .ifCond .ne 5, 3, 9, 0, 0, 0, 0, []),
  (7, .iconst (-1), 1, 0, 0, 0, (-1), 0, []),
  (8, .ireturn, 1, 0, 0, 0, 0, 0, []),
  (9, .aload_n 0, 1, 0, 0, 0, 0, 0, []),
  (10, .iload_n 1, 1, 0, 0, 0, 0, 0, []),
  (11, .invokevirtual 74, 3, 179, 302, 824, 0, 0, []),
  (14, .ifCond .eq 9, 3, 23, 0, 0, 0, 0, []),
  (17, .aload_n 0, 1, 0, 0, 0, 0, 0, []),
  (18, .iload_n 1, 1, 0, 0, 0, 0, 0, []),
  (19, .invokevirtual 74, 3, 179, 302, 824, 0, 0, []),
  (22, .ireturn, 1, 0, 0, 0, 0, 0, []),
  (23, .iconst 0, 1, 0, 0, 0, 0, 0, []),
  (24, .istore_n 2, 1, 0, 0, 0, 0, 0, []),
  (25, .iconst 0, 1, 0, 0, 0, 0, 0, []),
  (26, .istore_n 3, 1, 0, 0, 0, 0, 0, []),
  (27, .iload_n 3, 1, 0, 0, 0, 0, 0, []),
  (28, .aload_n 0, 1, 0, 0, 0, 0, 0, []),
  (29, .getfield 51, 3, 3, 8, 755, 0, 0, []),
  (32, .if_icmp .ge 49, 3, 81, 0, 0, 0, 0, []),
  (35, .iload_n 2, 1, 0, 0, 0, 0, 0, []),
  (36, .aload_n 0, 1, 0, 0, 0, 0, 0, []),
  (37, .getfield 20, 3, 3, 22, 758, 0, 0, []),
  (40, .iload_n 1, 1, 0, 0, 0, 0, 0, []),
  (41, .laload, 1, 0, 0, 0, 0, 0, []),
  (42, .iload_n 3, 1, 0, 0, 0, 0, 0, []),
  (43, .invokestatic 78, 3, 163, 2, 850, 0, 0, []),
  (46, .ifCond .eq 26, 3, 72, 0, 0, 0, 0, []),
  (49, .iload_n 3, 1, 0, 0, 0, 0, 0, []),
  (50, .invokestatic 82, 3, 190, 1, 844, 0, 0, []),
  (53, .invokestatic 164, 3, 156, 1, 1008, 0, 0, []),
  (56, .aload_n 0, 1, 0, 0, 0, 0, 0, []),
  (57, .getfield 48, 3, 3, 4, 754, 0, 0, []),
  (60, .iload_n 3, 1, 0, 0, 0, 0, 0, []),
  (61, .invokestatic 82, 3, 190, 1, 844, 0, 0, []),
  (64, .isub, 1, 0, 0, 0, 0, 0, []),
  (65, .invokestatic 164, 3, 156, 1, 1008, 0, 0, []),
  (68, .imul, 1, 0, 0, 0, 0, 0, []),
  (69, .goto 4, 3, 73, 0, 0, 0, 0, []),
  (72, .iconst 0, 1, 0, 0, 0, 0, 0, []),
  (73, .iadd, 1, 0, 0, 0, 0, 0, []),
  (74, .istore_n 2, 1, 0, 0, 0, 0, 0, []),
  (75, .iinc 3 1, 3, 0, 0, 0, 1, 0, []),
  (78, .goto (-51), 3, 27, 0, 0, 0, 0, []),
  (81, .iload_n 2, 1, 0, 0, 0, 0, 0, []),
  (82, .ireturn, 1, 0, 0, 0, 0, 0, [])]
def n_X7_sum_27 (k27 : Nat → Int32 → Int32 → Int32 → Option rx_H → Option (Int32 × Option rx_H)) (ls : rx_L) (st : List Value) (u : Option rx_H) : Option (Int32 × Option rx_H) := match ls, st, u with
  | [some (.ref x0), some (.int x1), some (.int x2), some (.int x3)], [], u => k27 x0 x1 x2 x3 u
  | _, _, _ => none
noncomputable def kk_X7_sum_27 (F : Nat × Nat) (k27 : Nat → Int32 → Int32 → Int32 → Option rx_H → Option (Int32 × Option rx_H)) : Nat → rx_L → List Value → Option rx_H → Option (Int32 × Option rx_H) := fun t ls st u => Bool.rec (motive := fun _ => Option (Int32 × Option rx_H)) (none) (n_X7_sum_27 k27 ls st u) (Nat.beq t 27)
noncomputable def kk_X7_sum_0 (F : Nat × Nat) : Nat → rx_L → List Value → Option rx_H → Option (Int32 × Option rx_H) := fun t ls st u => Bool.rec (motive := fun _ => Option (Int32 × Option rx_H)) (none) (n_X7_sum_27 (f_X7_sum_27 F F.1) ls st u) (Nat.beq t 27)
set_option maxRecDepth 100000 in
theorem g_X7_sum_27 (F : Nat × Nat) (f : Nat) (x0 : Nat) (x1 : Int32) (x2 : Int32) (x3 : Int32) (u : Option rx_H) : f_X7_sum_27 F (f + 1) x0 x1 x2 x3 u = rx_node (C_X7_sum F) rx_hI t_X7_sum [27] (kk_X7_sum_27 F (f_X7_sum_27 F f)) 50 27 [some (.ref x0), some (.int x1), some (.int x2), some (.int x3)] [] u := rfl
set_option maxRecDepth 100000 in
theorem g_X7_sum_0 (F : Nat × Nat) (x0 : Nat) (x1 : Int32) (u : Option rx_H) : f_X7_sum_0 F x0 x1 u = rx_node (C_X7_sum F) rx_hI t_X7_sum [27] (kk_X7_sum_0 F) 50 0 [some (.ref x0), some (.int x1), none, none] [] u := rfl
def f_X7_rank_14 (F : Nat × Nat) : Nat → Int32 → Int32 → Int32 → Option rx_H → Option (Int32 × Option rx_H)
  | 0, _, _, _, _ => none
  | f + 1, x1, x2, x3, u =>
    if x3 < x1 then
      (f_X7_ones F x3).bind fun v1 =>
      (f_X7_ones F x1).bind fun v2 =>
      if v1 = v2 then
        (f_X7_rank_14 F f) x1 (x2 + (1 : Int32)) (x3 + 1) u
      else
        (f_X7_rank_14 F f) x1 (x2 + (0 : Int32)) (x3 + 1) u
    else
      some (x2, u)
def f_X7_rank_0 (F : Nat × Nat) (x0 : Nat) (x1 : Int32) (u : Option rx_H) : Option (Int32 × Option rx_H) :=
  (rx_ck u x0 3).bind fun _ =>
  (f_X7_isSet F x0 x1 u).bind fun v1 =>
  if v1.1 = 0 then
    some ((-1 : Int32), v1.2)
  else
    f_X7_rank_14 F F.1 x1 (0 : Int32) (0 : Int32) v1.2
def f_X7_rank (F : Nat × Nat) (x0 : Nat) (x1 : Int32) (u : Option rx_H) : Option (Int32 × Option rx_H) := f_X7_rank_0 F x0 x1 u
def c_X7_rank {α : Type} (F : Nat × Nat) (as : List Value) (u : Option rx_H) (κ : rx_K α) : Option α := match as with
  | [.ref a0, .int a1] => (f_X7_rank F a0 a1 u).bind fun r => κ (some (.int r.1)) r.2
  | _ => none
noncomputable def C_X7_rank {α : Type} (F : Nat × Nat) : rx_Cl α := fun j as u κ => Bool.rec (motive := fun _ => Option α) (Bool.rec (motive := fun _ => Option α) (none) (c_X7_ones F as u κ) (Nat.beq j 190)) (c_X7_isSet F as u κ) (Nat.beq j 174)
def t_X7_rank : List rx_E := [
  (0, .aload_n 0, 1, 0, 0, 0, 0, 0, []),
  (1, .iload_n 1, 1, 0, 0, 0, 0, 0, []),
  (2, .invokevirtual 96, 3, 174, 302, 832, 0, 0, []),
  (5, .ifCond .ne 5, 3, 10, 0, 0, 0, 0, []),
  (8, .iconst (-1), 1, 0, 0, 0, (-1), 0, []),
  (9, .ireturn, 1, 0, 0, 0, 0, 0, []),
  (10, .iconst 0, 1, 0, 0, 0, 0, 0, []),
  (11, .istore_n 2, 1, 0, 0, 0, 0, 0, []),
  (12, .iconst 0, 1, 0, 0, 0, 0, 0, []),
  (13, .istore_n 3, 1, 0, 0, 0, 0, 0, []),
  (14, .iload_n 3, 1, 0, 0, 0, 0, 0, []),
  (15, .iload_n 1, 1, 0, 0, 0, 0, 0, []),
  (16, .if_icmp .ge 28, 3, 44, 0, 0, 0, 0, []),
  (19, .iload_n 2, 1, 0, 0, 0, 0, 0, []),
  (20, .iload_n 3, 1, 0, 0, 0, 0, 0, []),
  (21, .invokestatic 82, 3, 190, 1, 844, 0, 0, []),
  (24, .iload_n 1, 1, 0, 0, 0, 0, 0, []),
  (25, .invokestatic 82, 3, 190, 1, 844, 0, 0, []),
  (28, .if_icmp .ne 7, 3, 35, 0, 0, 0, 0, []),
  (31, .iconst 1, 1, 0, 0, 0, 1, 0, []),
  (32, .goto 4, 3, 36, 0, 0, 0, 0, []),
  (35, .iconst 0, 1, 0, 0, 0, 0, 0, []),
  (36, .iadd, 1, 0, 0, 0, 0, 0, []),
  (37, .istore_n 2, 1, 0, 0, 0, 0, 0, []),
  (38, .iinc 3 1, 3, 0, 0, 0, 1, 0, []),
  (41, .goto (-27), 3, 14, 0, 0, 0, 0, []),
  (44, .iload_n 2, 1, 0, 0, 0, 0, 0, []),
  (45, .ireturn, 1, 0, 0, 0, 0, 0, [])]
def n_X7_rank_14 (k14 : Int32 → Int32 → Int32 → Option rx_H → Option (Int32 × Option rx_H)) (ls : rx_L) (st : List Value) (u : Option rx_H) : Option (Int32 × Option rx_H) := match ls, st, u with
  | [_, some (.int x1), some (.int x2), some (.int x3)], [], u => k14 x1 x2 x3 u
  | _, _, _ => none
noncomputable def kk_X7_rank_14 (F : Nat × Nat) (k14 : Int32 → Int32 → Int32 → Option rx_H → Option (Int32 × Option rx_H)) : Nat → rx_L → List Value → Option rx_H → Option (Int32 × Option rx_H) := fun t ls st u => Bool.rec (motive := fun _ => Option (Int32 × Option rx_H)) (none) (n_X7_rank_14 k14 ls st u) (Nat.beq t 14)
noncomputable def kk_X7_rank_0 (F : Nat × Nat) : Nat → rx_L → List Value → Option rx_H → Option (Int32 × Option rx_H) := fun t ls st u => Bool.rec (motive := fun _ => Option (Int32 × Option rx_H)) (none) (n_X7_rank_14 (f_X7_rank_14 F F.1) ls st u) (Nat.beq t 14)
set_option maxRecDepth 100000 in
theorem g_X7_rank_14 (F : Nat × Nat) (f : Nat) (x1 : Int32) (x2 : Int32) (x3 : Int32) (u : Option rx_H) : f_X7_rank_14 F (f + 1) x1 x2 x3 u = rx_node (C_X7_rank F) rx_hI t_X7_rank [14] (kk_X7_rank_14 F (f_X7_rank_14 F f)) 31 14 [none, some (.int x1), some (.int x2), some (.int x3)] [] u := rfl
set_option maxRecDepth 100000 in
theorem g_X7_rank_0 (F : Nat × Nat) (x0 : Nat) (x1 : Int32) (u : Option rx_H) : f_X7_rank_0 F x0 x1 u = rx_node (C_X7_rank F) rx_hI t_X7_rank [14] (kk_X7_rank_0 F) 31 0 [some (.ref x0), some (.int x1), none, none] [] u := rfl
def f_X7_ranked_20 (F : Nat × Nat) : Nat → Nat → Int32 → Int32 → Int32 → Option rx_H → Option (Int32 × Option rx_H)
  | 0, _, _, _, _, _ => none
  | f + 1, x0, x1, x2, x3, u =>
    (rx_gI u x0 3 2).bind fun v1 =>
    if x3 < v1 then
      (f_X7_ones F x3).bind fun v2 =>
      if v2 = x1 then
        (rx_ck u x0 3).bind fun _ =>
        (f_X7_rank F x0 x3 u).bind fun v3 =>
        if v3.1 = x2 then
          some (x3, v3.2)
        else
          (f_X7_ranked_20 F f) x0 x1 x2 (x3 + 1) v3.2
      else
        (f_X7_ranked_20 F f) x0 x1 x2 (x3 + 1) u
    else
      some ((-2 : Int32), u)
def f_X7_ranked_0 (F : Nat × Nat) (x0 : Nat) (x1 : Int32) (x2 : Int32) (u : Option rx_H) : Option (Int32 × Option rx_H) :=
  (rx_gI u x0 3 1).bind fun v1 =>
  (f_X7_isIn F x1 (0 : Int32) v1).bind fun v2 =>
  if v2 = 0 then
    some ((-1 : Int32), u)
  else
    if x2 < 0 then
      some ((-1 : Int32), u)
    else
      f_X7_ranked_20 F F.1 x0 x1 x2 (0 : Int32) u
def f_X7_ranked (F : Nat × Nat) (x0 : Nat) (x1 : Int32) (x2 : Int32) (u : Option rx_H) : Option (Int32 × Option rx_H) := f_X7_ranked_0 F x0 x1 x2 u
def c_X7_ranked {α : Type} (F : Nat × Nat) (as : List Value) (u : Option rx_H) (κ : rx_K α) : Option α := match as with
  | [.ref a0, .int a1, .int a2] => (f_X7_ranked F a0 a1 a2 u).bind fun r => κ (some (.int r.1)) r.2
  | _ => none
noncomputable def C_X7_ranked {α : Type} (F : Nat × Nat) : rx_Cl α := fun j as u κ => Bool.rec (motive := fun _ => Option α) (Bool.rec (motive := fun _ => Option α) (Bool.rec (motive := fun _ => Option α) (none) (c_X7_rank F as u κ) (Nat.beq j 198)) (c_X7_ones F as u κ) (Nat.beq j 190)) (c_X7_isIn F as u κ) (Nat.beq j 171)
def t_X7_ranked : List rx_E := [
  (0, .iload_n 1, 1, 0, 0, 0, 0, 0, []),
  (1, .iconst 0, 1, 0, 0, 0, 0, 0, []),
  (2, .aload_n 0, 1, 0, 0, 0, 0, 0, []),
  (3, .getfield 48, 3, 3, 4, 754, 0, 0, []),
  (6, .invokestatic 54, 3, 171, 3, 806, 0, 0, []),
  (9, .ifCond .eq 7, 3, 16, 0, 0, 0, 0, []),
  (12, .iload_n 2, 1, 0, 0, 0, 0, 0, []),
  (13, .ifCond .ge 5, 3, 18, 0, 0, 0, 0, []),
  (16, .iconst (-1), 1, 0, 0, 0, (-1), 0, []),
  (17, .ireturn, 1, 0, 0, 0, 0, 0, []),
  (18, .iconst 0, 1, 0, 0, 0, 0, 0, []),
  (19, .istore_n 3, 1, 0, 0, 0, 0, 0, []),
  (20, .iload_n 3, 1, 0, 0, 0, 0, 0, []),
  (21, .aload_n 0, 1, 0, 0, 0, 0, 0, []),
  (22, .getfield 51, 3, 3, 8, 755, 0, 0, []),
  (25, .if_icmp .ge 28, 3, 53, 0, 0, 0, 0, []),
  (28, .iload_n 3, 1, 0, 0, 0, 0, 0, []),
  (29, .invokestatic 82, 3, 190, 1, 844, 0, 0, []),
  (32, .iload_n 1, 1, 0, 0, 0, 0, 0, []),
  (33, .if_icmp .ne 14, 3, 47, 0, 0, 0, 0, []),
  (36, .aload_n 0, 1, 0, 0, 0, 0, 0, []),
  (37, .iload_n 3, 1, 0, 0, 0, 0, 0, []),
  (38, .invokevirtual 167, 3, 198, 302, 1019, 0, 0, []),
  (41, .iload_n 2, 1, 0, 0, 0, 0, 0, []),
  (42, .if_icmp .ne 5, 3, 47, 0, 0, 0, 0, []),
  (45, .iload_n 3, 1, 0, 0, 0, 0, 0, []),
  (46, .ireturn, 1, 0, 0, 0, 0, 0, []),
  (47, .iinc 3 1, 3, 0, 0, 0, 1, 0, []),
  (50, .goto (-30), 3, 20, 0, 0, 0, 0, []),
  (53, .bipush (-2), 2, 0, 0, 0, (-2), 0, []),
  (55, .ireturn, 1, 0, 0, 0, 0, 0, [])]
def n_X7_ranked_20 (k20 : Nat → Int32 → Int32 → Int32 → Option rx_H → Option (Int32 × Option rx_H)) (ls : rx_L) (st : List Value) (u : Option rx_H) : Option (Int32 × Option rx_H) := match ls, st, u with
  | [some (.ref x0), some (.int x1), some (.int x2), some (.int x3)], [], u => k20 x0 x1 x2 x3 u
  | _, _, _ => none
noncomputable def kk_X7_ranked_20 (F : Nat × Nat) (k20 : Nat → Int32 → Int32 → Int32 → Option rx_H → Option (Int32 × Option rx_H)) : Nat → rx_L → List Value → Option rx_H → Option (Int32 × Option rx_H) := fun t ls st u => Bool.rec (motive := fun _ => Option (Int32 × Option rx_H)) (none) (n_X7_ranked_20 k20 ls st u) (Nat.beq t 20)
noncomputable def kk_X7_ranked_0 (F : Nat × Nat) : Nat → rx_L → List Value → Option rx_H → Option (Int32 × Option rx_H) := fun t ls st u => Bool.rec (motive := fun _ => Option (Int32 × Option rx_H)) (none) (n_X7_ranked_20 (f_X7_ranked_20 F F.1) ls st u) (Nat.beq t 20)
set_option maxRecDepth 100000 in
theorem g_X7_ranked_20 (F : Nat × Nat) (f : Nat) (x0 : Nat) (x1 : Int32) (x2 : Int32) (x3 : Int32) (u : Option rx_H) : f_X7_ranked_20 F (f + 1) x0 x1 x2 x3 u = rx_node (C_X7_ranked F) rx_hI t_X7_ranked [20] (kk_X7_ranked_20 F (f_X7_ranked_20 F f)) 34 20 [some (.ref x0), some (.int x1), some (.int x2), some (.int x3)] [] u := rfl
set_option maxRecDepth 100000 in
theorem g_X7_ranked_0 (F : Nat × Nat) (x0 : Nat) (x1 : Int32) (x2 : Int32) (u : Option rx_H) : f_X7_ranked_0 F x0 x1 x2 u = rx_node (C_X7_ranked F) rx_hI t_X7_ranked [20] (kk_X7_ranked_0 F) 34 0 [some (.ref x0), some (.int x1), some (.int x2), none] [] u := rfl
def f_X7_chainFirst_7 (F : Nat × Nat) : Nat → Nat → Int32 → Int32 → Int32 → Int32 → Option rx_H → Option (Int32 × Option rx_H)
  | 0, _, _, _, _, _, _ => none
  | f + 1, x0, x1, x2, x3, x4, u =>
    (rx_gI u x0 3 1).bind fun v1 =>
    if x4 < v1 then
      if (x1 >>> (x4 &&& 31)) &&& (1 : Int32) = 0 then
        (f_X7_chainFirst_7 F f) x0 x1 x2 (x3 + 1) (x4 + 1) u
      else
        if 0 < x3 then
          (f_X7_chainFirst_7 F f) x0 x1 (x2 ||| ((1 : Int32) <<< (x4 &&& 31))) (x3 + (-1)) (x4 + 1) u
        else
          (f_X7_chainFirst_7 F f) x0 x1 x2 x3 (x4 + 1) u
    else
      some (x2, u)
def f_X7_chainFirst_0 (F : Nat × Nat) (x0 : Nat) (x1 : Int32) (u : Option rx_H) : Option (Int32 × Option rx_H) :=
  f_X7_chainFirst_7 F F.1 x0 x1 (0 : Int32) (0 : Int32) (0 : Int32) u
def f_X7_chainFirst (F : Nat × Nat) (x0 : Nat) (x1 : Int32) (u : Option rx_H) : Option (Int32 × Option rx_H) := f_X7_chainFirst_0 F x0 x1 u
def c_X7_chainFirst {α : Type} (F : Nat × Nat) (as : List Value) (u : Option rx_H) (κ : rx_K α) : Option α := match as with
  | [.ref a0, .int a1] => (f_X7_chainFirst F a0 a1 u).bind fun r => κ (some (.int r.1)) r.2
  | _ => none
noncomputable def C_X7_chainFirst {α : Type} (F : Nat × Nat) : rx_Cl α := fun j as u κ => none
def t_X7_chainFirst : List rx_E := [
  (0, .iconst 0, 1, 0, 0, 0, 0, 0, []),
  (1, .istore_n 2, 1, 0, 0, 0, 0, 0, []),
  (2, .iconst 0, 1, 0, 0, 0, 0, 0, []),
  (3, .istore_n 3, 1, 0, 0, 0, 0, 0, []),
  (4, .iconst 0, 1, 0, 0, 0, 0, 0, []),
  (5, .istore 4, 2, 0, 0, 0, 0, 0, []),
  (7, .iload 4, 2, 0, 0, 0, 0, 0, []),
  (9, .aload_n 0, 1, 0, 0, 0, 0, 0, []),
  (10, .getfield 48, 3, 3, 4, 754, 0, 0, []),
  (13, .if_icmp .ge 38, 3, 51, 0, 0, 0, 0, []),
  (16, .iload_n 1, 1, 0, 0, 0, 0, 0, []),
  (17, .iload 4, 2, 0, 0, 0, 0, 0, []),
  (19, .ishr, 1, 0, 0, 0, 0, 0, []),
  (20, .iconst 1, 1, 0, 0, 0, 1, 0, []),
  (21, .iand, 1, 0, 0, 0, 0, 0, []),
  (22, .ifCond .ne 9, 3, 31, 0, 0, 0, 0, []),
  (25, .iinc 3 1, 3, 0, 0, 0, 1, 0, []),
  (28, .goto 17, 3, 45, 0, 0, 0, 0, []),
  (31, .iload_n 3, 1, 0, 0, 0, 0, 0, []),
  (32, .ifCond .le 13, 3, 45, 0, 0, 0, 0, []),
  (35, .iinc 3 (-1), 3, 0, 0, 0, (-1), 0, []),
  (38, .iload_n 2, 1, 0, 0, 0, 0, 0, []),
  (39, .iconst 1, 1, 0, 0, 0, 1, 0, []),
  (40, .iload 4, 2, 0, 0, 0, 0, 0, []),
  (42, .ishl, 1, 0, 0, 0, 0, 0, []),
  (43, .ior, 1, 0, 0, 0, 0, 0, []),
  (44, .istore_n 2, 1, 0, 0, 0, 0, 0, []),
  (45, .iinc 4 1, 3, 0, 0, 0, 1, 0, []),
  (48, .goto (-41), 3, 7, 0, 0, 0, 0, []),
  (51, .iload_n 2, 1, 0, 0, 0, 0, 0, []),
  (52, .ireturn, 1, 0, 0, 0, 0, 0, [])]
def n_X7_chainFirst_7 (k7 : Nat → Int32 → Int32 → Int32 → Int32 → Option rx_H → Option (Int32 × Option rx_H)) (ls : rx_L) (st : List Value) (u : Option rx_H) : Option (Int32 × Option rx_H) := match ls, st, u with
  | [some (.ref x0), some (.int x1), some (.int x2), some (.int x3), some (.int x4)], [], u => k7 x0 x1 x2 x3 x4 u
  | _, _, _ => none
noncomputable def kk_X7_chainFirst_7 (F : Nat × Nat) (k7 : Nat → Int32 → Int32 → Int32 → Int32 → Option rx_H → Option (Int32 × Option rx_H)) : Nat → rx_L → List Value → Option rx_H → Option (Int32 × Option rx_H) := fun t ls st u => Bool.rec (motive := fun _ => Option (Int32 × Option rx_H)) (none) (n_X7_chainFirst_7 k7 ls st u) (Nat.beq t 7)
noncomputable def kk_X7_chainFirst_0 (F : Nat × Nat) : Nat → rx_L → List Value → Option rx_H → Option (Int32 × Option rx_H) := fun t ls st u => Bool.rec (motive := fun _ => Option (Int32 × Option rx_H)) (none) (n_X7_chainFirst_7 (f_X7_chainFirst_7 F F.1) ls st u) (Nat.beq t 7)
set_option maxRecDepth 100000 in
theorem g_X7_chainFirst_7 (F : Nat × Nat) (f : Nat) (x0 : Nat) (x1 : Int32) (x2 : Int32) (x3 : Int32) (x4 : Int32) (u : Option rx_H) : f_X7_chainFirst_7 F (f + 1) x0 x1 x2 x3 x4 u = rx_node (C_X7_chainFirst F) rx_hI t_X7_chainFirst [7] (kk_X7_chainFirst_7 F (f_X7_chainFirst_7 F f)) 34 7 [some (.ref x0), some (.int x1), some (.int x2), some (.int x3), some (.int x4)] [] u := rfl
set_option maxRecDepth 100000 in
theorem g_X7_chainFirst_0 (F : Nat × Nat) (x0 : Nat) (x1 : Int32) (u : Option rx_H) : f_X7_chainFirst_0 F x0 x1 u = rx_node (C_X7_chainFirst F) rx_hI t_X7_chainFirst [7] (kk_X7_chainFirst_0 F) 34 0 [some (.ref x0), some (.int x1), none, none, none] [] u := rfl
def f_X7_chain_38 (F : Nat × Nat) : Nat → Nat → Int32 → Int32 → Int32 → Int32 → Option rx_H → Option (Int32 × Option rx_H)
  | 0, _, _, _, _, _, _ => none
  | f + 1, x0, x2, x3, x4, x5, u =>
    (rx_gI u x0 3 2).bind fun v1 =>
    if x5 < v1 then
      if x2 = (2 : Int32) then
        (rx_ck u x0 3).bind fun _ =>
        (f_X7_chainFirst F x0 x5 u).bind fun v2 =>
        if v2.1 = x3 then
          (f_X7_chain_38 F f) x0 x2 x3 (x4 + (1 : Int32)) (x5 + 1) v2.2
        else
          (f_X7_chain_38 F f) x0 x2 x3 (x4 + (0 : Int32)) (x5 + 1) v2.2
      else
        if x5 < x3 then
          (rx_ck u x0 3).bind fun _ =>
          (f_X7_chainFirst F x0 x5 u).bind fun v3 =>
          if v3.1 = x5 then
            (f_X7_chain_38 F f) x0 x2 x3 (x4 + (1 : Int32)) (x5 + 1) v3.2
          else
            (f_X7_chain_38 F f) x0 x2 x3 (x4 + (0 : Int32)) (x5 + 1) v3.2
        else
          (f_X7_chain_38 F f) x0 x2 x3 (x4 + (0 : Int32)) (x5 + 1) u
    else
      some (x4, u)
def f_X7_chain_0 (F : Nat × Nat) (x0 : Nat) (x1 : Int32) (x2 : Int32) (u : Option rx_H) : Option (Int32 × Option rx_H) :=
  (rx_ck u x0 3).bind fun _ =>
  (f_X7_isSet F x0 x1 u).bind fun v1 =>
  if v1.1 = 0 then
    some ((-1 : Int32), v1.2)
  else
    (f_X7_isIn F x2 (0 : Int32) (2 : Int32)).bind fun v2 =>
    if v2 = 0 then
      some ((-1 : Int32), v1.2)
    else
      (rx_ck v1.2 x0 3).bind fun _ =>
      (f_X7_chainFirst F x0 x1 v1.2).bind fun v3 =>
      if x2 = (1 : Int32) then
        some (v3.1, v3.2)
      else
        f_X7_chain_38 F F.1 x0 x2 v3.1 (0 : Int32) (0 : Int32) v3.2
def f_X7_chain (F : Nat × Nat) (x0 : Nat) (x1 : Int32) (x2 : Int32) (u : Option rx_H) : Option (Int32 × Option rx_H) := f_X7_chain_0 F x0 x1 x2 u
def c_X7_chain {α : Type} (F : Nat × Nat) (as : List Value) (u : Option rx_H) (κ : rx_K α) : Option α := match as with
  | [.ref a0, .int a1, .int a2] => (f_X7_chain F a0 a1 a2 u).bind fun r => κ (some (.int r.1)) r.2
  | _ => none
noncomputable def C_X7_chain {α : Type} (F : Nat × Nat) : rx_Cl α := fun j as u κ => Bool.rec (motive := fun _ => Option α) (Bool.rec (motive := fun _ => Option α) (Bool.rec (motive := fun _ => Option α) (none) (c_X7_isSet F as u κ) (Nat.beq j 174)) (c_X7_isIn F as u κ) (Nat.beq j 171)) (c_X7_chainFirst F as u κ) (Nat.beq j 142)
def t_X7_chain : List rx_E := [
  (0, .aload_n 0, 1, 0, 0, 0, 0, 0, []),
  (1, .iload_n 1, 1, 0, 0, 0, 0, 0, []),
  (2, .invokevirtual 96, 3, 174, 302, 832, 0, 0, []),
  (5, .ifCond .eq 12, 3, 17, 0, 0, 0, 0, []),
  (8, .iload_n 2, 1, 0, 0, 0, 0, 0, []),
  (9, .iconst 0, 1, 0, 0, 0, 0, 0, []),
  (10, .iconst 2, 1, 0, 0, 0, 2, 0, []),
  (11, .invokestatic 54, 3, 171, 3, 806, 0, 0, []),
  (14, .ifCond .ne 5, 3, 19, 0, 0, 0, 0, []),
  (17, .iconst (-1), 1, 0, 0, 0, (-1), 0, []),
  (18, .ireturn, 1, 0, 0, 0, 0, 0, []),
  (19, .aload_n 0, 1, 0, 0, 0, 0, 0, []),
  (20, .iload_n 1, 1, 0, 0, 0, 0, 0, []),
  (21, .invokevirtual 179, 3, 142, 302, 1041, 0, 0, []),
  (24, .istore_n 3, 1, 0, 0, 0, 0, 0, []),
  (25, .iload_n 2, 1, 0, 0, 0, 0, 0, []),
  (26, .iconst 1, 1, 0, 0, 0, 1, 0, []),
  (27, .if_icmp .ne 5, 3, 32, 0, 0, 0, 0, []),
  (30, .iload_n 3, 1, 0, 0, 0, 0, 0, []),
  (31, .ireturn, 1, 0, 0, 0, 0, 0, []),
  (32, .iconst 0, 1, 0, 0, 0, 0, 0, []),
  (33, .istore 4, 2, 0, 0, 0, 0, 0, []),
  (35, .iconst 0, 1, 0, 0, 0, 0, 0, []),
  (36, .istore 5, 2, 0, 0, 0, 0, 0, []),
  (38, .iload 5, 2, 0, 0, 0, 0, 0, []),
  (40, .aload_n 0, 1, 0, 0, 0, 0, 0, []),
  (41, .getfield 51, 3, 3, 8, 755, 0, 0, []),
  (44, .if_icmp .ge 64, 3, 108, 0, 0, 0, 0, []),
  (47, .iload_n 2, 1, 0, 0, 0, 0, 0, []),
  (48, .iconst 2, 1, 0, 0, 0, 2, 0, []),
  (49, .if_icmp .ne 26, 3, 75, 0, 0, 0, 0, []),
  (52, .iload 4, 2, 0, 0, 0, 0, 0, []),
  (54, .aload_n 0, 1, 0, 0, 0, 0, 0, []),
  (55, .iload 5, 2, 0, 0, 0, 0, 0, []),
  (57, .invokevirtual 179, 3, 142, 302, 1041, 0, 0, []),
  (60, .iload_n 3, 1, 0, 0, 0, 0, 0, []),
  (61, .if_icmp .ne 7, 3, 68, 0, 0, 0, 0, []),
  (64, .iconst 1, 1, 0, 0, 0, 1, 0, []),
  (65, .goto 4, 3, 69, 0, 0, 0, 0, []),
  (68, .iconst 0, 1, 0, 0, 0, 0, 0, []),
  (69, .iadd, 1, 0, 0, 0, 0, 0, []),
  (70, .istore 4, 2, 0, 0, 0, 0, 0, []),
  (72, .goto 30, 3, 102, 0, 0, 0, 0, []),
  (75, .iload 4, 2, 0, 0, 0, 0, 0, []),
  (77, .iload 5, 2, 0, 0, 0, 0, 0, []),
  (79, .iload_n 3, 1, 0, 0, 0, 0, 0, []),
  (80, .if_icmp .ge 18, 3, 98, 0, 0, 0, 0, []),
  (83, .aload_n 0, 1, 0, 0, 0, 0, 0, []),
  (84, .iload 5, 2, 0, 0, 0, 0, 0, []),
  (86, .invokevirtual 179, 3, 142, 302, 1041, 0, 0, []),
  (89, .iload 5, 2, 0, 0, 0, 0, 0, []),
  (91, .if_icmp .ne 7, 3, 98, 0, 0, 0, 0, []),
  (94, .iconst 1, 1, 0, 0, 0, 1, 0, []),
  (95, .goto 4, 3, 99, 0, 0, 0, 0, []),
  (98, .iconst 0, 1, 0, 0, 0, 0, 0, []),
  (99, .iadd, 1, 0, 0, 0, 0, 0, []),
  (100, .istore 4, 2, 0, 0, 0, 0, 0, []),
  (102, .iinc 5 1, 3, 0, 0, 0, 1, 0, []),
  (105, .goto (-67), 3, 38, 0, 0, 0, 0, []),
  (108, .iload 4, 2, 0, 0, 0, 0, 0, []),
  (110, .ireturn, 1, 0, 0, 0, 0, 0, [])]
def n_X7_chain_38 (k38 : Nat → Int32 → Int32 → Int32 → Int32 → Option rx_H → Option (Int32 × Option rx_H)) (ls : rx_L) (st : List Value) (u : Option rx_H) : Option (Int32 × Option rx_H) := match ls, st, u with
  | [some (.ref x0), _, some (.int x2), some (.int x3), some (.int x4), some (.int x5)], [], u => k38 x0 x2 x3 x4 x5 u
  | _, _, _ => none
noncomputable def kk_X7_chain_38 (F : Nat × Nat) (k38 : Nat → Int32 → Int32 → Int32 → Int32 → Option rx_H → Option (Int32 × Option rx_H)) : Nat → rx_L → List Value → Option rx_H → Option (Int32 × Option rx_H) := fun t ls st u => Bool.rec (motive := fun _ => Option (Int32 × Option rx_H)) (none) (n_X7_chain_38 k38 ls st u) (Nat.beq t 38)
noncomputable def kk_X7_chain_0 (F : Nat × Nat) : Nat → rx_L → List Value → Option rx_H → Option (Int32 × Option rx_H) := fun t ls st u => Bool.rec (motive := fun _ => Option (Int32 × Option rx_H)) (none) (n_X7_chain_38 (f_X7_chain_38 F F.1) ls st u) (Nat.beq t 38)
set_option maxRecDepth 100000 in
theorem g_X7_chain_38 (F : Nat × Nat) (f : Nat) (x0 : Nat) (x2 : Int32) (x3 : Int32) (x4 : Int32) (x5 : Int32) (u : Option rx_H) : f_X7_chain_38 F (f + 1) x0 x2 x3 x4 x5 u = rx_node (C_X7_chain F) rx_hI t_X7_chain [38] (kk_X7_chain_38 F (f_X7_chain_38 F f)) 64 38 [some (.ref x0), none, some (.int x2), some (.int x3), some (.int x4), some (.int x5)] [] u := rfl
set_option maxRecDepth 100000 in
theorem g_X7_chain_0 (F : Nat × Nat) (x0 : Nat) (x1 : Int32) (x2 : Int32) (u : Option rx_H) : f_X7_chain_0 F x0 x1 x2 u = rx_node (C_X7_chain F) rx_hI t_X7_chain [38] (kk_X7_chain_0 F) 64 0 [some (.ref x0), some (.int x1), some (.int x2), none, none, none] [] u := rfl
def f_X7_ring_66 (F : Nat × Nat) (k51 : Nat → Int32 → Int32 → Int32 → Int32 → Option rx_H → Option (Int32 × Option rx_H)) : Nat → Nat → Int32 → Int32 → Int32 → Int32 → Int32 → Int32 → Option rx_H → Option (Int32 × Option rx_H)
  | 0, _, _, _, _, _, _, _, _ => none
  | f + 1, x0, x1, x3, x4, x5, x6, x7, u =>
    if x7 < x3 then
      (rx_gR u x0 3 10).bind fun v1 =>
      (rx_gI u x0 3 1).bind fun v2 =>
      if v2 = 0 then
        none
      else
        (rx_aI u v1 ((x5 + x7) - (x5 + x7) / v2 * v2)).bind fun v3 =>
        (f_X7_ring_66 F k51 f) x0 x1 x3 x4 x5 (x6 ||| ((1 : Int32) <<< (v3 &&& 31))) (x7 + 1) u
    else
      (rx_gR u x0 3 5).bind fun v4 =>
      (rx_aJ u v4 x1).bind fun v5 =>
      (f_X7_has F v5 x6).bind fun v6 =>
      if v6 = 0 then
        k51 x0 x1 x3 (x4 + (0 : Int32)) (x5 + 1) u
      else
        k51 x0 x1 x3 (x4 + (1 : Int32)) (x5 + 1) u
def f_X7_ring_51 (F : Nat × Nat) : Nat → Nat → Int32 → Int32 → Int32 → Int32 → Option rx_H → Option (Int32 × Option rx_H)
  | 0, _, _, _, _, _, _ => none
  | f + 1, x0, x1, x3, x4, x5, u =>
    (rx_gI u x0 3 1).bind fun v1 =>
    if x5 < v1 then
      f_X7_ring_66 F (f_X7_ring_51 F f) F.1 x0 x1 x3 x4 x5 (0 : Int32) (0 : Int32) u
    else
      some (x4, u)
def f_X7_ring_0 (F : Nat × Nat) (x0 : Nat) (x1 : Int32) (x2 : Int32) (x3 : Int32) (u : Option rx_H) : Option (Int32 × Option rx_H) :=
  (f_X7_isPlace F x1).bind fun v1 =>
  if v1 = 0 then
    some ((-1 : Int32), u)
  else
    (rx_ck u x0 3).bind fun _ =>
    (f_X7_isTurn F x0 x2 u).bind fun v2 =>
    if v2.1 = 0 then
      some ((-1 : Int32), v2.2)
    else
      (rx_gI v2.2 x0 3 1).bind fun v3 =>
      (f_X7_isIn F x3 (1 : Int32) (v3 - (1 : Int32))).bind fun v4 =>
      if v4 = 0 then
        some ((-1 : Int32), v2.2)
      else
        (rx_ck v2.2 x0 3).bind fun _ =>
        (f_X7_lacks F x0 x1 v2.2).bind fun v5 =>
        if v5.1 = 0 then
          f_X7_ring_51 F F.1 x0 x1 x3 (0 : Int32) (0 : Int32) v5.2
        else
          (rx_ck v5.2 x0 3).bind fun _ =>
          (f_X7_lacks F x0 x1 v5.2).bind fun v6 =>
          some (v6.1, v6.2)
def f_X7_ring (F : Nat × Nat) (x0 : Nat) (x1 : Int32) (x2 : Int32) (x3 : Int32) (u : Option rx_H) : Option (Int32 × Option rx_H) := f_X7_ring_0 F x0 x1 x2 x3 u
def c_X7_ring {α : Type} (F : Nat × Nat) (as : List Value) (u : Option rx_H) (κ : rx_K α) : Option α := match as with
  | [.ref a0, .int a1, .int a2, .int a3] => (f_X7_ring F a0 a1 a2 a3 u).bind fun r => κ (some (.int r.1)) r.2
  | _ => none
noncomputable def C_X7_ring {α : Type} (F : Nat × Nat) : rx_Cl α := fun j as u κ => Bool.rec (motive := fun _ => Option α) (Bool.rec (motive := fun _ => Option α) (Bool.rec (motive := fun _ => Option α) (Bool.rec (motive := fun _ => Option α) (Bool.rec (motive := fun _ => Option α) (none) (c_X7_lacks F as u κ) (Nat.beq j 179)) (c_X7_isTurn F as u κ) (Nat.beq j 176)) (c_X7_isPlace F as u κ) (Nat.beq j 173)) (c_X7_isIn F as u κ) (Nat.beq j 171)) (c_X7_has F as u κ) (Nat.beq j 163)
def t_X7_ring : List rx_E := [
  (0, .iload_n 1, 1, 0, 0, 0, 0, 0, []),
  (1, .invokestatic 62, 3, 173, 1, 803, 0, 0, []),
  (4, .ifCond .eq 25, 3, 29, 0, 0, 0, 0, []),
  (7, .aload_n 0, 1, 0, 0, 0, 0, 0, []),
  (8, .iload_n 2, 1, 0, 0, 0, 0, 0, []),
  (9, .invokevirtual 134, 3, 176, 302, 948, 0, 0, []),
  (12, .ifCond .eq 17, 3, 29, 0, 0, 0, 0, []),
  (15, .iload_n 3, 1, 0, 0, 0, 0, 0, []),
  (16, .iconst 1, 1, 0, 0, 0, 1, 0, []),
  (17, .aload_n 0, 1, 0, 0, 0, 0, 0, []),
  (18, .getfield 48, 3, 3, 4, 754, 0, 0, []),
  (21, .iconst 1, 1, 0, 0, 0, 1, 0, []),
  (22, .isub, 1, 0, 0, 0, 0, 0, []),
  (23, .invokestatic 54, 3, 171, 3, 806, 0, 0, []),
  (26, .ifCond .ne 5, 3, 31, 0, 0, 0, 0, []),
  (29, .iconst (-1), 1, 0, 0, 0, (-1), 0, []),
  (30, .ireturn, 1, 0, 0, 0, 0, 0, []),
  (31, .aload_n 0, 1, 0, 0, 0, 0, 0, []),
  (32, .iload_n 1, 1, 0, 0, 0, 0, 0, []),
  (33, .invokevirtual 74, 3, 179, 302, 824, 0, 0, []),
  (36, .ifCond .eq 9, 3, 45, 0, 0, 0, 0, []),
  (39, .aload_n 0, 1, 0, 0, 0, 0, 0, []),
  (40, .iload_n 1, 1, 0, 0, 0, 0, 0, []),
  (41, .invokevirtual 74, 3, 179, 302, 824, 0, 0, []),
  (44, .ireturn, 1, 0, 0, 0, 0, 0, []),
  (45, .iconst 0, 1, 0, 0, 0, 0, 0, []),
  (46, .istore 4, 2, 0, 0, 0, 0, 0, []),
  (48, .iconst 0, 1, 0, 0, 0, 0, 0, []),
  (49, .istore 5, 2, 0, 0, 0, 0, 0, []),
  (51, .iload 5, 2, 0, 0, 0, 0, 0, []),
  (53, .aload_n 0, 1, 0, 0, 0, 0, 0, []),
  (54, .getfield 48, 3, 3, 4, 754, 0, 0, []),
  (57, .if_icmp .ge 73, 3, 130, 0, 0, 0, 0, []),
  (60, .iconst 0, 1, 0, 0, 0, 0, 0, []),
  (61, .istore 6, 2, 0, 0, 0, 0, 0, []),
  (63, .iconst 0, 1, 0, 0, 0, 0, 0, []),
  (64, .istore 7, 2, 0, 0, 0, 0, 0, []),
  (66, .iload 7, 2, 0, 0, 0, 0, 0, []),
  (68, .iload_n 3, 1, 0, 0, 0, 0, 0, []),
  (69, .if_icmp .ge 31, 3, 100, 0, 0, 0, 0, []),
  (72, .iload 6, 2, 0, 0, 0, 0, 0, []),
  (74, .iconst 1, 1, 0, 0, 0, 1, 0, []),
  (75, .aload_n 0, 1, 0, 0, 0, 0, 0, []),
  (76, .getfield 36, 3, 3, 42, 763, 0, 0, []),
  (79, .iload 5, 2, 0, 0, 0, 0, 0, []),
  (81, .iload 7, 2, 0, 0, 0, 0, 0, []),
  (83, .iadd, 1, 0, 0, 0, 0, 0, []),
  (84, .aload_n 0, 1, 0, 0, 0, 0, 0, []),
  (85, .getfield 48, 3, 3, 4, 754, 0, 0, []),
  (88, .irem, 1, 0, 0, 0, 0, 0, []),
  (89, .iaload, 1, 0, 0, 0, 0, 0, []),
  (90, .ishl, 1, 0, 0, 0, 0, 0, []),
  (91, .ior, 1, 0, 0, 0, 0, 0, []),
  (92, .istore 6, 2, 0, 0, 0, 0, 0, []),
  (94, .iinc 7 1, 3, 0, 0, 0, 1, 0, []),
  (97, .goto (-31), 3, 66, 0, 0, 0, 0, []),
  (100, .iload 4, 2, 0, 0, 0, 0, 0, []),
  (102, .aload_n 0, 1, 0, 0, 0, 0, 0, []),
  (103, .getfield 20, 3, 3, 22, 758, 0, 0, []),
  (106, .iload_n 1, 1, 0, 0, 0, 0, 0, []),
  (107, .laload, 1, 0, 0, 0, 0, 0, []),
  (108, .iload 6, 2, 0, 0, 0, 0, 0, []),
  (110, .invokestatic 78, 3, 163, 2, 850, 0, 0, []),
  (113, .ifCond .eq 7, 3, 120, 0, 0, 0, 0, []),
  (116, .iconst 1, 1, 0, 0, 0, 1, 0, []),
  (117, .goto 4, 3, 121, 0, 0, 0, 0, []),
  (120, .iconst 0, 1, 0, 0, 0, 0, 0, []),
  (121, .iadd, 1, 0, 0, 0, 0, 0, []),
  (122, .istore 4, 2, 0, 0, 0, 0, 0, []),
  (124, .iinc 5 1, 3, 0, 0, 0, 1, 0, []),
  (127, .goto (-76), 3, 51, 0, 0, 0, 0, []),
  (130, .iload 4, 2, 0, 0, 0, 0, 0, []),
  (132, .ireturn, 1, 0, 0, 0, 0, 0, [])]
def n_X7_ring_51 (k51 : Nat → Int32 → Int32 → Int32 → Int32 → Option rx_H → Option (Int32 × Option rx_H)) (ls : rx_L) (st : List Value) (u : Option rx_H) : Option (Int32 × Option rx_H) := match ls, st, u with
  | [some (.ref x0), some (.int x1), _, some (.int x3), some (.int x4), some (.int x5), _, _], [], u => k51 x0 x1 x3 x4 x5 u
  | _, _, _ => none
def n_X7_ring_66 (k66 : Nat → Int32 → Int32 → Int32 → Int32 → Int32 → Int32 → Option rx_H → Option (Int32 × Option rx_H)) (ls : rx_L) (st : List Value) (u : Option rx_H) : Option (Int32 × Option rx_H) := match ls, st, u with
  | [some (.ref x0), some (.int x1), _, some (.int x3), some (.int x4), some (.int x5), some (.int x6), some (.int x7)], [], u => k66 x0 x1 x3 x4 x5 x6 x7 u
  | _, _, _ => none
noncomputable def kk_X7_ring_66 (F : Nat × Nat) (k51 : Nat → Int32 → Int32 → Int32 → Int32 → Option rx_H → Option (Int32 × Option rx_H)) (k66 : Nat → Int32 → Int32 → Int32 → Int32 → Int32 → Int32 → Option rx_H → Option (Int32 × Option rx_H)) : Nat → rx_L → List Value → Option rx_H → Option (Int32 × Option rx_H) := fun t ls st u => Bool.rec (motive := fun _ => Option (Int32 × Option rx_H)) (Bool.rec (motive := fun _ => Option (Int32 × Option rx_H)) (none) (n_X7_ring_66 k66 ls st u) (Nat.beq t 66)) (n_X7_ring_51 k51 ls st u) (Nat.beq t 51)
noncomputable def kk_X7_ring_51 (F : Nat × Nat) (k51 : Nat → Int32 → Int32 → Int32 → Int32 → Option rx_H → Option (Int32 × Option rx_H)) : Nat → rx_L → List Value → Option rx_H → Option (Int32 × Option rx_H) := fun t ls st u => Bool.rec (motive := fun _ => Option (Int32 × Option rx_H)) (none) (n_X7_ring_66 (f_X7_ring_66 F k51 F.1) ls st u) (Nat.beq t 66)
noncomputable def kk_X7_ring_0 (F : Nat × Nat) : Nat → rx_L → List Value → Option rx_H → Option (Int32 × Option rx_H) := fun t ls st u => Bool.rec (motive := fun _ => Option (Int32 × Option rx_H)) (none) (n_X7_ring_51 (f_X7_ring_51 F F.1) ls st u) (Nat.beq t 51)
set_option maxRecDepth 100000 in
theorem g_X7_ring_66 (F : Nat × Nat) (k51 : Nat → Int32 → Int32 → Int32 → Int32 → Option rx_H → Option (Int32 × Option rx_H)) (f : Nat) (x0 : Nat) (x1 : Int32) (x3 : Int32) (x4 : Int32) (x5 : Int32) (x6 : Int32) (x7 : Int32) (u : Option rx_H) : f_X7_ring_66 F k51 (f + 1) x0 x1 x3 x4 x5 x6 x7 u = rx_node (C_X7_ring F) rx_hI t_X7_ring [51, 66] (kk_X7_ring_66 F k51 (f_X7_ring_66 F k51 f)) 76 66 [some (.ref x0), some (.int x1), none, some (.int x3), some (.int x4), some (.int x5), some (.int x6), some (.int x7)] [] u := rfl
set_option maxRecDepth 100000 in
theorem g_X7_ring_51 (F : Nat × Nat) (f : Nat) (x0 : Nat) (x1 : Int32) (x3 : Int32) (x4 : Int32) (x5 : Int32) (u : Option rx_H) : f_X7_ring_51 F (f + 1) x0 x1 x3 x4 x5 u = rx_node (C_X7_ring F) rx_hI t_X7_ring [51, 66] (kk_X7_ring_51 F (f_X7_ring_51 F f)) 76 51 [some (.ref x0), some (.int x1), none, some (.int x3), some (.int x4), some (.int x5), none, none] [] u := rfl
set_option maxRecDepth 100000 in
theorem g_X7_ring_0 (F : Nat × Nat) (x0 : Nat) (x1 : Int32) (x2 : Int32) (x3 : Int32) (u : Option rx_H) : f_X7_ring_0 F x0 x1 x2 x3 u = rx_node (C_X7_ring F) rx_hI t_X7_ring [51, 66] (kk_X7_ring_0 F) 76 0 [some (.ref x0), some (.int x1), some (.int x2), some (.int x3), none, none, none, none] [] u := rfl
def f_X7_weight_51 (F : Nat × Nat) : Nat → Nat → Int32 → Int32 → Int32 → Int64 → Int32 → Option rx_H → Option (Int64 × Option rx_H)
  | 0, _, _, _, _, _, _, _ => none
  | f + 1, x0, x1, x2, x3, x4, x6, u =>
    (rx_gI u x0 3 2).bind fun v1 =>
    if x6 < v1 then
      (rx_gR u x0 3 5).bind fun v2 =>
      (rx_aJ u v2 x1).bind fun v3 =>
      (f_X7_has F v3 x6).bind fun v4 =>
      if v4 = 0 then
        (f_X7_weight_51 F f) x0 x1 x2 x3 x4 (x6 + 1) u
      else
        (f_X7_ones F x6).bind fun v5 =>
        (f_X7_power F x2 v5).bind fun v6 =>
        (rx_gI u x0 3 1).bind fun v7 =>
        (f_X7_ones F x6).bind fun v8 =>
        (f_X7_power F (x3 - x2) (v7 - v8)).bind fun v9 =>
        (f_X7_weight_51 F f) x0 x1 x2 x3 (x4 + (v6 * v9)) (x6 + 1) u
    else
      some (x4, u)
def f_X7_weight_0 (F : Nat × Nat) (x0 : Nat) (x1 : Int32) (x2 : Int32) (x3 : Int32) (u : Option rx_H) : Option (Int64 × Option rx_H) :=
  (f_X7_isPlace F x1).bind fun v1 =>
  if v1 = 0 then
    some ((-1 : Int64), u)
  else
    (f_X7_isIn F x3 (1 : Int32) (9 : Int32)).bind fun v2 =>
    if v2 = 0 then
      some ((-1 : Int64), u)
    else
      (f_X7_isIn F x2 (0 : Int32) x3).bind fun v3 =>
      if v3 = 0 then
        some ((-1 : Int64), u)
      else
        (rx_ck u x0 3).bind fun _ =>
        (f_X7_lacks F x0 x1 u).bind fun v4 =>
        if v4.1 = 0 then
          f_X7_weight_51 F F.1 x0 x1 x2 x3 (0 : Int64) (0 : Int32) v4.2
        else
          (rx_ck v4.2 x0 3).bind fun _ =>
          (f_X7_lacks F x0 x1 v4.2).bind fun v5 =>
          some (Int32.toInt64 v5.1, v5.2)
def f_X7_weight (F : Nat × Nat) (x0 : Nat) (x1 : Int32) (x2 : Int32) (x3 : Int32) (u : Option rx_H) : Option (Int64 × Option rx_H) := f_X7_weight_0 F x0 x1 x2 x3 u
def c_X7_weight {α : Type} (F : Nat × Nat) (as : List Value) (u : Option rx_H) (κ : rx_K α) : Option α := match as with
  | [.ref a0, .int a1, .int a2, .int a3] => (f_X7_weight F a0 a1 a2 a3 u).bind fun r => κ (some (.long r.1)) r.2
  | _ => none
noncomputable def C_X7_weight {α : Type} (F : Nat × Nat) : rx_Cl α := fun j as u κ => Bool.rec (motive := fun _ => Option α) (Bool.rec (motive := fun _ => Option α) (Bool.rec (motive := fun _ => Option α) (Bool.rec (motive := fun _ => Option α) (Bool.rec (motive := fun _ => Option α) (Bool.rec (motive := fun _ => Option α) (none) (c_X7_power F as u κ) (Nat.beq j 192)) (c_X7_ones F as u κ) (Nat.beq j 190)) (c_X7_lacks F as u κ) (Nat.beq j 179)) (c_X7_isPlace F as u κ) (Nat.beq j 173)) (c_X7_isIn F as u κ) (Nat.beq j 171)) (c_X7_has F as u κ) (Nat.beq j 163)
def t_X7_weight : List rx_E := [
  (0, .iload_n 1, 1, 0, 0, 0, 0, 0, []),
  (1, .invokestatic 62, 3, 173, 1, 803, 0, 0, []),
  (4, .ifCond .eq 22, 3, 26, 0, 0, 0, 0, []),
  (7, .iload_n 3, 1, 0, 0, 0, 0, 0, []),
  (8, .iconst 1, 1, 0, 0, 0, 1, 0, []),
  (9, .bipush 9, 2, 0, 0, 0, 9, 0, []),
  (11, .invokestatic 54, 3, 171, 3, 806, 0, 0, []),
  (14, .ifCond .eq 12, 3, 26, 0, 0, 0, 0, []),
  (17, .iload_n 2, 1, 0, 0, 0, 0, 0, []),
  (18, .iconst 0, 1, 0, 0, 0, 0, 0, []),
  (19, .iload_n 3, 1, 0, 0, 0, 0, 0, []),
  (20, .invokestatic 54, 3, 171, 3, 806, 0, 0, []),
  (23, .ifCond .ne 7, 3, 30, 0, 0, 0, 0, []),
  (26, .ldc2_w 102, 3, 0, 0, 860, 0, (-1), []),
  (29, .lreturn, 1, 0, 0, 0, 0, 0, []),
  (30, .aload_n 0, 1, 0, 0, 0, 0, 0, []),
  (31, .iload_n 1, 1, 0, 0, 0, 0, 0, []),
  (32, .invokevirtual 74, 3, 179, 302, 824, 0, 0, []),
  (35, .ifCond .eq 10, 3, 45, 0, 0, 0, 0, []),
  (38, .aload_n 0, 1, 0, 0, 0, 0, 0, []),
  (39, .iload_n 1, 1, 0, 0, 0, 0, 0, []),
  (40, .invokevirtual 74, 3, 179, 302, 824, 0, 0, []),
  (43, .i2l, 1, 0, 0, 0, 0, 0, []),
  (44, .lreturn, 1, 0, 0, 0, 0, 0, []),
  (45, .lconst 0, 1, 0, 0, 0, 0, 0, []),
  (46, .lstore 4, 2, 0, 0, 0, 0, 0, []),
  (48, .iconst 0, 1, 0, 0, 0, 0, 0, []),
  (49, .istore 6, 2, 0, 0, 0, 0, 0, []),
  (51, .iload 6, 2, 0, 0, 0, 0, 0, []),
  (53, .aload_n 0, 1, 0, 0, 0, 0, 0, []),
  (54, .getfield 51, 3, 3, 8, 755, 0, 0, []),
  (57, .if_icmp .ge 54, 3, 111, 0, 0, 0, 0, []),
  (60, .aload_n 0, 1, 0, 0, 0, 0, 0, []),
  (61, .getfield 20, 3, 3, 22, 758, 0, 0, []),
  (64, .iload_n 1, 1, 0, 0, 0, 0, 0, []),
  (65, .laload, 1, 0, 0, 0, 0, 0, []),
  (66, .iload 6, 2, 0, 0, 0, 0, 0, []),
  (68, .invokestatic 78, 3, 163, 2, 850, 0, 0, []),
  (71, .ifCond .eq 34, 3, 105, 0, 0, 0, 0, []),
  (74, .lload 4, 2, 0, 0, 0, 0, 0, []),
  (76, .iload_n 2, 1, 0, 0, 0, 0, 0, []),
  (77, .iload 6, 2, 0, 0, 0, 0, 0, []),
  (79, .invokestatic 82, 3, 190, 1, 844, 0, 0, []),
  (82, .invokestatic 182, 3, 192, 2, 1053, 0, 0, []),
  (85, .iload_n 3, 1, 0, 0, 0, 0, 0, []),
  (86, .iload_n 2, 1, 0, 0, 0, 0, 0, []),
  (87, .isub, 1, 0, 0, 0, 0, 0, []),
  (88, .aload_n 0, 1, 0, 0, 0, 0, 0, []),
  (89, .getfield 48, 3, 3, 4, 754, 0, 0, []),
  (92, .iload 6, 2, 0, 0, 0, 0, 0, []),
  (94, .invokestatic 82, 3, 190, 1, 844, 0, 0, []),
  (97, .isub, 1, 0, 0, 0, 0, 0, []),
  (98, .invokestatic 182, 3, 192, 2, 1053, 0, 0, []),
  (101, .lmul, 1, 0, 0, 0, 0, 0, []),
  (102, .ladd, 1, 0, 0, 0, 0, 0, []),
  (103, .lstore 4, 2, 0, 0, 0, 0, 0, []),
  (105, .iinc 6 1, 3, 0, 0, 0, 1, 0, []),
  (108, .goto (-57), 3, 51, 0, 0, 0, 0, []),
  (111, .lload 4, 2, 0, 0, 0, 0, 0, []),
  (113, .lreturn, 1, 0, 0, 0, 0, 0, [])]
def n_X7_weight_51 (k51 : Nat → Int32 → Int32 → Int32 → Int64 → Int32 → Option rx_H → Option (Int64 × Option rx_H)) (ls : rx_L) (st : List Value) (u : Option rx_H) : Option (Int64 × Option rx_H) := match ls, st, u with
  | [some (.ref x0), some (.int x1), some (.int x2), some (.int x3), some (.long x4), _, some (.int x6)], [], u => k51 x0 x1 x2 x3 x4 x6 u
  | _, _, _ => none
noncomputable def kk_X7_weight_51 (F : Nat × Nat) (k51 : Nat → Int32 → Int32 → Int32 → Int64 → Int32 → Option rx_H → Option (Int64 × Option rx_H)) : Nat → rx_L → List Value → Option rx_H → Option (Int64 × Option rx_H) := fun t ls st u => Bool.rec (motive := fun _ => Option (Int64 × Option rx_H)) (none) (n_X7_weight_51 k51 ls st u) (Nat.beq t 51)
noncomputable def kk_X7_weight_0 (F : Nat × Nat) : Nat → rx_L → List Value → Option rx_H → Option (Int64 × Option rx_H) := fun t ls st u => Bool.rec (motive := fun _ => Option (Int64 × Option rx_H)) (none) (n_X7_weight_51 (f_X7_weight_51 F F.1) ls st u) (Nat.beq t 51)
set_option maxRecDepth 100000 in
theorem g_X7_weight_51 (F : Nat × Nat) (f : Nat) (x0 : Nat) (x1 : Int32) (x2 : Int32) (x3 : Int32) (x4 : Int64) (x6 : Int32) (u : Option rx_H) : f_X7_weight_51 F (f + 1) x0 x1 x2 x3 x4 x6 u = rx_node (C_X7_weight F) rx_hJ t_X7_weight [51] (kk_X7_weight_51 F (f_X7_weight_51 F f)) 63 51 [some (.ref x0), some (.int x1), some (.int x2), some (.int x3), some (.long x4), none, some (.int x6)] [] u := rfl
set_option maxRecDepth 100000 in
theorem g_X7_weight_0 (F : Nat × Nat) (x0 : Nat) (x1 : Int32) (x2 : Int32) (x3 : Int32) (u : Option rx_H) : f_X7_weight_0 F x0 x1 x2 x3 u = rx_node (C_X7_weight F) rx_hJ t_X7_weight [51] (kk_X7_weight_0 F) 63 0 [some (.ref x0), some (.int x1), some (.int x2), some (.int x3), none, none, none] [] u := rfl
def f_X7_matters_42 (F : Nat × Nat) : Nat → Nat → Int32 → Int32 → Int32 → Int32 → Option rx_H → Option (Int32 × Option rx_H)
  | 0, _, _, _, _, _, _ => none
  | f + 1, x0, x1, x2, x3, x4, u =>
    (rx_gI u x0 3 2).bind fun v1 =>
    if x4 < v1 then
      if (x4 >>> (x2 &&& 31)) &&& (1 : Int32) = 0 then
        (rx_gR u x0 3 5).bind fun v2 =>
        (rx_aJ u v2 x1).bind fun v3 =>
        (f_X7_has F v3 x4).bind fun v4 =>
        (rx_gR u x0 3 5).bind fun v5 =>
        (rx_aJ u v5 x1).bind fun v6 =>
        (f_X7_has F v6 (x4 ||| ((1 : Int32) <<< (x2 &&& 31)))).bind fun v7 =>
        if v4 = v7 then
          (f_X7_matters_42 F f) x0 x1 x2 (x3 + (0 : Int32)) (x4 + 1) u
        else
          (f_X7_matters_42 F f) x0 x1 x2 (x3 + (1 : Int32)) (x4 + 1) u
      else
        (f_X7_matters_42 F f) x0 x1 x2 (x3 + (0 : Int32)) (x4 + 1) u
    else
      some (x3, u)
def f_X7_matters_0 (F : Nat × Nat) (x0 : Nat) (x1 : Int32) (x2 : Int32) (u : Option rx_H) : Option (Int32 × Option rx_H) :=
  (f_X7_isPlace F x1).bind fun v1 =>
  if v1 = 0 then
    some ((-1 : Int32), u)
  else
    (rx_gI u x0 3 1).bind fun v2 =>
    (f_X7_isIn F x2 (0 : Int32) (v2 - (1 : Int32))).bind fun v3 =>
    if v3 = 0 then
      some ((-1 : Int32), u)
    else
      (rx_ck u x0 3).bind fun _ =>
      (f_X7_lacks F x0 x1 u).bind fun v4 =>
      if v4.1 = 0 then
        f_X7_matters_42 F F.1 x0 x1 x2 (0 : Int32) (0 : Int32) v4.2
      else
        (rx_ck v4.2 x0 3).bind fun _ =>
        (f_X7_lacks F x0 x1 v4.2).bind fun v5 =>
        some (v5.1, v5.2)
def f_X7_matters (F : Nat × Nat) (x0 : Nat) (x1 : Int32) (x2 : Int32) (u : Option rx_H) : Option (Int32 × Option rx_H) := f_X7_matters_0 F x0 x1 x2 u
def c_X7_matters {α : Type} (F : Nat × Nat) (as : List Value) (u : Option rx_H) (κ : rx_K α) : Option α := match as with
  | [.ref a0, .int a1, .int a2] => (f_X7_matters F a0 a1 a2 u).bind fun r => κ (some (.int r.1)) r.2
  | _ => none
noncomputable def C_X7_matters {α : Type} (F : Nat × Nat) : rx_Cl α := fun j as u κ => Bool.rec (motive := fun _ => Option α) (Bool.rec (motive := fun _ => Option α) (Bool.rec (motive := fun _ => Option α) (Bool.rec (motive := fun _ => Option α) (none) (c_X7_lacks F as u κ) (Nat.beq j 179)) (c_X7_isPlace F as u κ) (Nat.beq j 173)) (c_X7_isIn F as u κ) (Nat.beq j 171)) (c_X7_has F as u κ) (Nat.beq j 163)
def t_X7_matters : List rx_E := [
  (0, .iload_n 1, 1, 0, 0, 0, 0, 0, []),
  (1, .invokestatic 62, 3, 173, 1, 803, 0, 0, []),
  (4, .ifCond .eq 17, 3, 21, 0, 0, 0, 0, []),
  (7, .iload_n 2, 1, 0, 0, 0, 0, 0, []),
  (8, .iconst 0, 1, 0, 0, 0, 0, 0, []),
  (9, .aload_n 0, 1, 0, 0, 0, 0, 0, []),
  (10, .getfield 48, 3, 3, 4, 754, 0, 0, []),
  (13, .iconst 1, 1, 0, 0, 0, 1, 0, []),
  (14, .isub, 1, 0, 0, 0, 0, 0, []),
  (15, .invokestatic 54, 3, 171, 3, 806, 0, 0, []),
  (18, .ifCond .ne 5, 3, 23, 0, 0, 0, 0, []),
  (21, .iconst (-1), 1, 0, 0, 0, (-1), 0, []),
  (22, .ireturn, 1, 0, 0, 0, 0, 0, []),
  (23, .aload_n 0, 1, 0, 0, 0, 0, 0, []),
  (24, .iload_n 1, 1, 0, 0, 0, 0, 0, []),
  (25, .invokevirtual 74, 3, 179, 302, 824, 0, 0, []),
  (28, .ifCond .eq 9, 3, 37, 0, 0, 0, 0, []),
  (31, .aload_n 0, 1, 0, 0, 0, 0, 0, []),
  (32, .iload_n 1, 1, 0, 0, 0, 0, 0, []),
  (33, .invokevirtual 74, 3, 179, 302, 824, 0, 0, []),
  (36, .ireturn, 1, 0, 0, 0, 0, 0, []),
  (37, .iconst 0, 1, 0, 0, 0, 0, 0, []),
  (38, .istore_n 3, 1, 0, 0, 0, 0, 0, []),
  (39, .iconst 0, 1, 0, 0, 0, 0, 0, []),
  (40, .istore 4, 2, 0, 0, 0, 0, 0, []),
  (42, .iload 4, 2, 0, 0, 0, 0, 0, []),
  (44, .aload_n 0, 1, 0, 0, 0, 0, 0, []),
  (45, .getfield 51, 3, 3, 8, 755, 0, 0, []),
  (48, .if_icmp .ge 55, 3, 103, 0, 0, 0, 0, []),
  (51, .iload_n 3, 1, 0, 0, 0, 0, 0, []),
  (52, .iload 4, 2, 0, 0, 0, 0, 0, []),
  (54, .iload_n 2, 1, 0, 0, 0, 0, 0, []),
  (55, .ishr, 1, 0, 0, 0, 0, 0, []),
  (56, .iconst 1, 1, 0, 0, 0, 1, 0, []),
  (57, .iand, 1, 0, 0, 0, 0, 0, []),
  (58, .ifCond .ne 36, 3, 94, 0, 0, 0, 0, []),
  (61, .aload_n 0, 1, 0, 0, 0, 0, 0, []),
  (62, .getfield 20, 3, 3, 22, 758, 0, 0, []),
  (65, .iload_n 1, 1, 0, 0, 0, 0, 0, []),
  (66, .laload, 1, 0, 0, 0, 0, 0, []),
  (67, .iload 4, 2, 0, 0, 0, 0, 0, []),
  (69, .invokestatic 78, 3, 163, 2, 850, 0, 0, []),
  (72, .aload_n 0, 1, 0, 0, 0, 0, 0, []),
  (73, .getfield 20, 3, 3, 22, 758, 0, 0, []),
  (76, .iload_n 1, 1, 0, 0, 0, 0, 0, []),
  (77, .laload, 1, 0, 0, 0, 0, 0, []),
  (78, .iload 4, 2, 0, 0, 0, 0, 0, []),
  (80, .iconst 1, 1, 0, 0, 0, 1, 0, []),
  (81, .iload_n 2, 1, 0, 0, 0, 0, 0, []),
  (82, .ishl, 1, 0, 0, 0, 0, 0, []),
  (83, .ior, 1, 0, 0, 0, 0, 0, []),
  (84, .invokestatic 78, 3, 163, 2, 850, 0, 0, []),
  (87, .if_icmp .eq 7, 3, 94, 0, 0, 0, 0, []),
  (90, .iconst 1, 1, 0, 0, 0, 1, 0, []),
  (91, .goto 4, 3, 95, 0, 0, 0, 0, []),
  (94, .iconst 0, 1, 0, 0, 0, 0, 0, []),
  (95, .iadd, 1, 0, 0, 0, 0, 0, []),
  (96, .istore_n 3, 1, 0, 0, 0, 0, 0, []),
  (97, .iinc 4 1, 3, 0, 0, 0, 1, 0, []),
  (100, .goto (-58), 3, 42, 0, 0, 0, 0, []),
  (103, .iload_n 3, 1, 0, 0, 0, 0, 0, []),
  (104, .ireturn, 1, 0, 0, 0, 0, 0, [])]
def n_X7_matters_42 (k42 : Nat → Int32 → Int32 → Int32 → Int32 → Option rx_H → Option (Int32 × Option rx_H)) (ls : rx_L) (st : List Value) (u : Option rx_H) : Option (Int32 × Option rx_H) := match ls, st, u with
  | [some (.ref x0), some (.int x1), some (.int x2), some (.int x3), some (.int x4)], [], u => k42 x0 x1 x2 x3 x4 u
  | _, _, _ => none
noncomputable def kk_X7_matters_42 (F : Nat × Nat) (k42 : Nat → Int32 → Int32 → Int32 → Int32 → Option rx_H → Option (Int32 × Option rx_H)) : Nat → rx_L → List Value → Option rx_H → Option (Int32 × Option rx_H) := fun t ls st u => Bool.rec (motive := fun _ => Option (Int32 × Option rx_H)) (none) (n_X7_matters_42 k42 ls st u) (Nat.beq t 42)
noncomputable def kk_X7_matters_0 (F : Nat × Nat) : Nat → rx_L → List Value → Option rx_H → Option (Int32 × Option rx_H) := fun t ls st u => Bool.rec (motive := fun _ => Option (Int32 × Option rx_H)) (none) (n_X7_matters_42 (f_X7_matters_42 F F.1) ls st u) (Nat.beq t 42)
set_option maxRecDepth 100000 in
theorem g_X7_matters_42 (F : Nat × Nat) (f : Nat) (x0 : Nat) (x1 : Int32) (x2 : Int32) (x3 : Int32) (x4 : Int32) (u : Option rx_H) : f_X7_matters_42 F (f + 1) x0 x1 x2 x3 x4 u = rx_node (C_X7_matters F) rx_hI t_X7_matters [42] (kk_X7_matters_42 F (f_X7_matters_42 F f)) 65 42 [some (.ref x0), some (.int x1), some (.int x2), some (.int x3), some (.int x4)] [] u := rfl
set_option maxRecDepth 100000 in
theorem g_X7_matters_0 (F : Nat × Nat) (x0 : Nat) (x1 : Int32) (x2 : Int32) (u : Option rx_H) : f_X7_matters_0 F x0 x1 x2 u = rx_node (C_X7_matters F) rx_hI t_X7_matters [42] (kk_X7_matters_0 F) 65 0 [some (.ref x0), some (.int x1), some (.int x2), none, none] [] u := rfl
def f_X7_product_0 (F : Nat × Nat) (x0 : Nat) (x1 : Int32) (x2 : Int32) (u : Option rx_H) : Option (Int32 × Option rx_H) :=
  (f_X7_isPlace F x1).bind fun v1 =>
  if v1 = 0 then
    some ((-1 : Int32), u)
  else
    (f_X7_isPlace F x2).bind fun v2 =>
    if v2 = 0 then
      some ((-1 : Int32), u)
    else
      (rx_ck u x0 3).bind fun _ =>
      (f_X7_lacks F x0 x1 u).bind fun v3 =>
      (rx_ck v3.2 x0 3).bind fun _ =>
      (f_X7_lacks F x0 x2 v3.2).bind fun v4 =>
      (f_X7_lacking F v3.1 v4.1).bind fun v5 =>
      if v5 = 0 then
        (rx_gR v4.2 x0 3 5).bind fun v6 =>
        (rx_aJ v4.2 v6 x1).bind fun v7 =>
        (rx_gR v4.2 x0 3 5).bind fun v8 =>
        (rx_aJ v4.2 v8 x2).bind fun v9 =>
        (f_X7_many F (v7 &&& v9)).bind fun v10 =>
        (rx_gI v4.2 x0 3 2).bind fun v11 =>
        (rx_gR v4.2 x0 3 5).bind fun v12 =>
        (rx_aJ v4.2 v12 x1).bind fun v13 =>
        (f_X7_many F v13).bind fun v14 =>
        (rx_gR v4.2 x0 3 5).bind fun v15 =>
        (rx_aJ v4.2 v15 x2).bind fun v16 =>
        (f_X7_many F v16).bind fun v17 =>
        some ((v10 * v11) - (v14 * v17), v4.2)
      else
        (rx_ck v4.2 x0 3).bind fun _ =>
        (f_X7_lacks F x0 x1 v4.2).bind fun v18 =>
        (rx_ck v18.2 x0 3).bind fun _ =>
        (f_X7_lacks F x0 x2 v18.2).bind fun v19 =>
        (f_X7_lacking F v18.1 v19.1).bind fun v20 =>
        some (v20, v19.2)
def f_X7_product (F : Nat × Nat) (x0 : Nat) (x1 : Int32) (x2 : Int32) (u : Option rx_H) : Option (Int32 × Option rx_H) := f_X7_product_0 F x0 x1 x2 u
def c_X7_product {α : Type} (F : Nat × Nat) (as : List Value) (u : Option rx_H) (κ : rx_K α) : Option α := match as with
  | [.ref a0, .int a1, .int a2] => (f_X7_product F a0 a1 a2 u).bind fun r => κ (some (.int r.1)) r.2
  | _ => none
noncomputable def C_X7_product {α : Type} (F : Nat × Nat) : rx_Cl α := fun j as u κ => Bool.rec (motive := fun _ => Option α) (Bool.rec (motive := fun _ => Option α) (Bool.rec (motive := fun _ => Option α) (Bool.rec (motive := fun _ => Option α) (none) (c_X7_many F as u κ) (Nat.beq j 184)) (c_X7_lacks F as u κ) (Nat.beq j 179)) (c_X7_lacking F as u κ) (Nat.beq j 178)) (c_X7_isPlace F as u κ) (Nat.beq j 173)
def t_X7_product : List rx_E := [
  (0, .iload_n 1, 1, 0, 0, 0, 0, 0, []),
  (1, .invokestatic 62, 3, 173, 1, 803, 0, 0, []),
  (4, .ifCond .eq 10, 3, 14, 0, 0, 0, 0, []),
  (7, .iload_n 2, 1, 0, 0, 0, 0, 0, []),
  (8, .invokestatic 62, 3, 173, 1, 803, 0, 0, []),
  (11, .ifCond .ne 5, 3, 16, 0, 0, 0, 0, []),
  (14, .iconst (-1), 1, 0, 0, 0, (-1), 0, []),
  (15, .ireturn, 1, 0, 0, 0, 0, 0, []),
  (16, .aload_n 0, 1, 0, 0, 0, 0, 0, []),
  (17, .iload_n 1, 1, 0, 0, 0, 0, 0, []),
  (18, .invokevirtual 74, 3, 179, 302, 824, 0, 0, []),
  (21, .aload_n 0, 1, 0, 0, 0, 0, 0, []),
  (22, .iload_n 2, 1, 0, 0, 0, 0, 0, []),
  (23, .invokevirtual 74, 3, 179, 302, 824, 0, 0, []),
  (26, .invokestatic 120, 3, 178, 2, 925, 0, 0, []),
  (29, .ifCond .eq 17, 3, 46, 0, 0, 0, 0, []),
  (32, .aload_n 0, 1, 0, 0, 0, 0, 0, []),
  (33, .iload_n 1, 1, 0, 0, 0, 0, 0, []),
  (34, .invokevirtual 74, 3, 179, 302, 824, 0, 0, []),
  (37, .aload_n 0, 1, 0, 0, 0, 0, 0, []),
  (38, .iload_n 2, 1, 0, 0, 0, 0, 0, []),
  (39, .invokevirtual 74, 3, 179, 302, 824, 0, 0, []),
  (42, .invokestatic 120, 3, 178, 2, 925, 0, 0, []),
  (45, .ireturn, 1, 0, 0, 0, 0, 0, []),
  (46, .aload_n 0, 1, 0, 0, 0, 0, 0, []),
  (47, .getfield 20, 3, 3, 22, 758, 0, 0, []),
  (50, .iload_n 1, 1, 0, 0, 0, 0, 0, []),
  (51, .laload, 1, 0, 0, 0, 0, 0, []),
  (52, .aload_n 0, 1, 0, 0, 0, 0, 0, []),
  (53, .getfield 20, 3, 3, 22, 758, 0, 0, []),
  (56, .iload_n 2, 1, 0, 0, 0, 0, 0, []),
  (57, .laload, 1, 0, 0, 0, 0, 0, []),
  (58, .land, 1, 0, 0, 0, 0, 0, []),
  (59, .invokestatic 58, 3, 184, 1, 817, 0, 0, []),
  (62, .aload_n 0, 1, 0, 0, 0, 0, 0, []),
  (63, .getfield 51, 3, 3, 8, 755, 0, 0, []),
  (66, .imul, 1, 0, 0, 0, 0, 0, []),
  (67, .aload_n 0, 1, 0, 0, 0, 0, 0, []),
  (68, .getfield 20, 3, 3, 22, 758, 0, 0, []),
  (71, .iload_n 1, 1, 0, 0, 0, 0, 0, []),
  (72, .laload, 1, 0, 0, 0, 0, 0, []),
  (73, .invokestatic 58, 3, 184, 1, 817, 0, 0, []),
  (76, .aload_n 0, 1, 0, 0, 0, 0, 0, []),
  (77, .getfield 20, 3, 3, 22, 758, 0, 0, []),
  (80, .iload_n 2, 1, 0, 0, 0, 0, 0, []),
  (81, .laload, 1, 0, 0, 0, 0, 0, []),
  (82, .invokestatic 58, 3, 184, 1, 817, 0, 0, []),
  (85, .imul, 1, 0, 0, 0, 0, 0, []),
  (86, .isub, 1, 0, 0, 0, 0, 0, []),
  (87, .ireturn, 1, 0, 0, 0, 0, 0, [])]
noncomputable def kk_X7_product_0 (F : Nat × Nat) : Nat → rx_L → List Value → Option rx_H → Option (Int32 × Option rx_H) := fun t ls st u => none
set_option maxRecDepth 100000 in
theorem g_X7_product_0 (F : Nat × Nat) (x0 : Nat) (x1 : Int32) (x2 : Int32) (u : Option rx_H) : f_X7_product_0 F x0 x1 x2 u = rx_node (C_X7_product F) rx_hI t_X7_product [] (kk_X7_product_0 F) 53 0 [some (.ref x0), some (.int x1), some (.int x2)] [] u := rfl
def f_X7_blooms_112 (F : Nat × Nat) (self : Nat → Int64 → Int32 → Int32 → Int32 → Option rx_H → Option (Int32 × Option rx_H)) (k12 : Nat → Int64 → Int32 → Int32 → Int32 → Option rx_H → Option (Int32 × Option rx_H)) (x0 : Nat) (x1 : Int64) (x3 : Int32) (x5 : Int32) (x6 : Int32) (x7 : Int32) (u : Option rx_H) : Option (Int32 × Option rx_H) :=
  if x7 = 0 then
    k12 x0 x1 x3 x5 (x6 + 1) u
  else
    (rx_gR u x0 3 12).bind fun v1 =>
    (rx_sI u v1 x3 x6).bind fun v2 =>
    (rx_ck v2 x0 3).bind fun _ =>
    (self x0 x1 (x3 + (1 : Int32)) (x6 + (1 : Int32)) x5 v2).bind fun v3 =>
    if v3.1 = 0 then
      k12 x0 x1 x3 x5 (x6 + 1) v3.2
    else
      some ((1 : Int32), v3.2)
def f_X7_blooms_73 (F : Nat × Nat) (self : Nat → Int64 → Int32 → Int32 → Int32 → Option rx_H → Option (Int32 × Option rx_H)) (k12 : Nat → Int64 → Int32 → Int32 → Int32 → Option rx_H → Option (Int32 × Option rx_H)) : Nat → Nat → Int64 → Int32 → Int32 → Int32 → Int32 → Int32 → Int32 → Option rx_H → Option (Int32 × Option rx_H)
  | 0, _, _, _, _, _, _, _, _, _ => none
  | f + 1, x0, x1, x3, x5, x6, x7, x8, x9, u =>
    if x9 < x3 then
      if x7 = 0 then
        f_X7_blooms_112 F self k12 x0 x1 x3 x5 x6 x7 u
      else
        (rx_gR u x0 3 12).bind fun v1 =>
        (rx_aI u v1 x9).bind fun v2 =>
        if v2 &&& x6 = x8 then
          (f_X7_blooms_73 F self k12 f) x0 x1 x3 x5 x6 (1 : Int32) x8 (x9 + 1) u
        else
          (f_X7_blooms_73 F self k12 f) x0 x1 x3 x5 x6 (0 : Int32) x8 (x9 + 1) u
    else
      f_X7_blooms_112 F self k12 x0 x1 x3 x5 x6 x7 u
def f_X7_blooms_12 (F : Nat × Nat) (self : Nat → Int64 → Int32 → Int32 → Int32 → Option rx_H → Option (Int32 × Option rx_H)) : Nat → Nat → Int64 → Int32 → Int32 → Int32 → Option rx_H → Option (Int32 × Option rx_H)
  | 0, _, _, _, _, _, _ => none
  | f + 1, x0, x1, x3, x5, x6, u =>
    (rx_gI u x0 3 2).bind fun v1 =>
    if x6 < v1 then
      (f_X7_has F x1 x6).bind fun v2 =>
      if (1 : Int32) < x3 then
        (rx_gR u x0 3 12).bind fun v3 =>
        (rx_aI u v3 (0 : Int32)).bind fun v4 =>
        (rx_gR u x0 3 12).bind fun v5 =>
        (rx_aI u v5 (1 : Int32)).bind fun v6 =>
        f_X7_blooms_73 F self (f_X7_blooms_12 F self f) F.1 x0 x1 x3 x5 x6 v2 (v4 &&& v6) (0 : Int32) u
      else
        if x3 = (1 : Int32) then
          (rx_gR u x0 3 12).bind fun v7 =>
          (rx_aI u v7 (0 : Int32)).bind fun v8 =>
          f_X7_blooms_73 F self (f_X7_blooms_12 F self f) F.1 x0 x1 x3 x5 x6 v2 (v8 &&& x6) (0 : Int32) u
        else
          f_X7_blooms_73 F self (f_X7_blooms_12 F self f) F.1 x0 x1 x3 x5 x6 v2 (0 : Int32) (0 : Int32) u
    else
      some ((0 : Int32), u)
def f_X7_blooms_0 (F : Nat × Nat) (self : Nat → Int64 → Int32 → Int32 → Int32 → Option rx_H → Option (Int32 × Option rx_H)) (x0 : Nat) (x1 : Int64) (x3 : Int32) (x4 : Int32) (x5 : Int32) (u : Option rx_H) : Option (Int32 × Option rx_H) :=
  if x3 = x5 then
    some ((1 : Int32), u)
  else
    f_X7_blooms_12 F self F.1 x0 x1 x3 x5 x4 u
def f_X7_blooms (F : Nat × Nat) : Nat → Nat → Int64 → Int32 → Int32 → Int32 → Option rx_H → Option (Int32 × Option rx_H)
  | 0, _, _, _, _, _, _ => none
  | d + 1, x0, x1, x3, x4, x5, u => f_X7_blooms_0 F (f_X7_blooms F d) x0 x1 x3 x4 x5 u
def c_X7_blooms {α : Type} (F : Nat × Nat) (d : Nat) (as : List Value) (u : Option rx_H) (κ : rx_K α) : Option α := match as with
  | [.ref a0, .long a1, .int a2, .int a3, .int a4] => (f_X7_blooms F d a0 a1 a2 a3 a4 u).bind fun r => κ (some (.int r.1)) r.2
  | _ => none
noncomputable def C_X7_blooms {α : Type} (F : Nat × Nat) (d : Nat) : rx_Cl α := fun j as u κ => Bool.rec (motive := fun _ => Option α) (Bool.rec (motive := fun _ => Option α) (none) (c_X7_has F as u κ) (Nat.beq j 163)) (c_X7_blooms F d as u κ) (Nat.beq j 139)
def t_X7_blooms : List rx_E := [
  (0, .iload_n 3, 1, 0, 0, 0, 0, 0, []),
  (1, .iload 5, 2, 0, 0, 0, 0, 0, []),
  (3, .if_icmp .ne 5, 3, 8, 0, 0, 0, 0, []),
  (6, .iconst 1, 1, 0, 0, 0, 1, 0, []),
  (7, .ireturn, 1, 0, 2, 0, 0, 0, []),
  (8, .iload 4, 2, 0, 0, 0, 0, 0, []),
  (10, .istore 6, 2, 0, 0, 0, 0, 0, []),
  (12, .iload 6, 2, 0, 0, 0, 0, 0, []),
  (14, .aload_n 0, 1, 0, 0, 0, 0, 0, []),
  (15, .getfield 51, 3, 3, 8, 755, 0, 0, []),
  (18, .if_icmp .ge 135, 3, 153, 0, 0, 0, 0, []),
  (21, .lload_n 1, 1, 0, 0, 0, 0, 0, []),
  (22, .iload 6, 2, 0, 0, 0, 0, 0, []),
  (24, .invokestatic 78, 3, 163, 2, 850, 0, 0, []),
  (27, .istore 7, 2, 0, 0, 0, 0, 0, []),
  (29, .iload_n 3, 1, 0, 0, 0, 0, 0, []),
  (30, .iconst 1, 1, 0, 0, 0, 1, 0, []),
  (31, .if_icmp .le 19, 3, 50, 0, 0, 0, 0, []),
  (34, .aload_n 0, 1, 0, 0, 0, 0, 0, []),
  (35, .getfield 42, 3, 3, 50, 765, 0, 0, []),
  (38, .iconst 0, 1, 0, 0, 0, 0, 0, []),
  (39, .iaload, 1, 0, 0, 0, 0, 0, []),
  (40, .aload_n 0, 1, 0, 0, 0, 0, 0, []),
  (41, .getfield 42, 3, 3, 50, 765, 0, 0, []),
  (44, .iconst 1, 1, 0, 0, 0, 1, 0, []),
  (45, .iaload, 1, 0, 0, 0, 0, 0, []),
  (46, .iand, 1, 0, 0, 0, 0, 0, []),
  (47, .goto 21, 3, 68, 0, 0, 0, 0, []),
  (50, .iload_n 3, 1, 0, 0, 0, 0, 0, []),
  (51, .iconst 1, 1, 0, 0, 0, 1, 0, []),
  (52, .if_icmp .ne 15, 3, 67, 0, 0, 0, 0, []),
  (55, .aload_n 0, 1, 0, 0, 0, 0, 0, []),
  (56, .getfield 42, 3, 3, 50, 765, 0, 0, []),
  (59, .iconst 0, 1, 0, 0, 0, 0, 0, []),
  (60, .iaload, 1, 0, 0, 0, 0, 0, []),
  (61, .iload 6, 2, 0, 0, 0, 0, 0, []),
  (63, .iand, 1, 0, 0, 0, 0, 0, []),
  (64, .goto 4, 3, 68, 0, 0, 0, 0, []),
  (67, .iconst 0, 1, 0, 0, 0, 0, 0, []),
  (68, .istore 8, 2, 0, 0, 0, 0, 0, []),
  (70, .iconst 0, 1, 0, 0, 0, 0, 0, []),
  (71, .istore 9, 2, 0, 0, 0, 0, 0, []),
  (73, .iload 9, 2, 0, 0, 0, 0, 0, []),
  (75, .iload_n 3, 1, 0, 0, 0, 0, 0, []),
  (76, .if_icmp .ge 36, 3, 112, 0, 0, 0, 0, []),
  (79, .iload 7, 2, 0, 0, 0, 0, 0, []),
  (81, .ifCond .eq 31, 3, 112, 0, 0, 0, 0, []),
  (84, .aload_n 0, 1, 0, 0, 0, 0, 0, []),
  (85, .getfield 42, 3, 3, 50, 765, 0, 0, []),
  (88, .iload 9, 2, 0, 0, 0, 0, 0, []),
  (90, .iaload, 1, 0, 0, 0, 0, 0, []),
  (91, .iload 6, 2, 0, 0, 0, 0, 0, []),
  (93, .iand, 1, 0, 0, 0, 0, 0, []),
  (94, .iload 8, 2, 0, 0, 0, 0, 0, []),
  (96, .if_icmp .ne 7, 3, 103, 0, 0, 0, 0, []),
  (99, .iconst 1, 1, 0, 0, 0, 1, 0, []),
  (100, .goto 4, 3, 104, 0, 0, 0, 0, []),
  (103, .iconst 0, 1, 0, 0, 0, 0, 0, []),
  (104, .istore 7, 2, 0, 0, 0, 0, 0, []),
  (106, .iinc 9 1, 3, 0, 0, 0, 1, 0, []),
  (109, .goto (-36), 3, 73, 0, 0, 0, 0, []),
  (112, .iload 7, 2, 0, 0, 0, 0, 0, []),
  (114, .ifCond .ne 6, 3, 120, 0, 0, 0, 0, []),
  (117, .goto 30, 3, 147, 0, 0, 0, 0, []),
  (120, .aload_n 0, 1, 0, 0, 0, 0, 0, []),
  (121, .getfield 42, 3, 3, 50, 765, 0, 0, []),
  (124, .iload_n 3, 1, 0, 0, 0, 0, 0, []),
  (125, .iload 6, 2, 0, 0, 0, 0, 0, []),
  (127, .iastore, 1, 0, 0, 0, 0, 0, []),
  (128, .aload_n 0, 1, 0, 0, 0, 0, 0, []),
  (129, .lload_n 1, 1, 0, 0, 0, 0, 0, []),
  (130, .iload_n 3, 1, 0, 0, 0, 0, 0, []),
  (131, .iconst 1, 1, 0, 0, 0, 1, 0, []),
  (132, .iadd, 1, 0, 0, 0, 0, 0, []),
  (133, .iload 6, 2, 0, 0, 0, 0, 0, []),
  (135, .iconst 1, 1, 0, 0, 0, 1, 0, []),
  (136, .iadd, 1, 0, 0, 0, 0, 0, []),
  (137, .iload 5, 2, 0, 0, 0, 0, 0, []),
  (139, .invokevirtual 186, 3, 139, 305, 1068, 0, 0, []),
  (142, .ifCond .eq 5, 3, 147, 0, 0, 0, 0, []),
  (145, .iconst 1, 1, 0, 0, 0, 1, 0, []),
  (146, .ireturn, 1, 0, 2, 0, 0, 0, []),
  (147, .iinc 6 1, 3, 0, 0, 0, 1, 0, []),
  (150, .goto (-138), 3, 12, 0, 0, 0, 0, []),
  (153, .iconst 0, 1, 0, 0, 0, 0, 0, []),
  (154, .ireturn, 1, 0, 2, 0, 0, 0, [])]
def n_X7_blooms_12 (k12 : Nat → Int64 → Int32 → Int32 → Int32 → Option rx_H → Option (Int32 × Option rx_H)) (ls : rx_L) (st : List Value) (u : Option rx_H) : Option (Int32 × Option rx_H) := match ls, st, u with
  | [some (.ref x0), some (.long x1), _, some (.int x3), _, some (.int x5), some (.int x6), _, _, _], [], u => k12 x0 x1 x3 x5 x6 u
  | _, _, _ => none
def n_X7_blooms_73 (k73 : Nat → Int64 → Int32 → Int32 → Int32 → Int32 → Int32 → Int32 → Option rx_H → Option (Int32 × Option rx_H)) (ls : rx_L) (st : List Value) (u : Option rx_H) : Option (Int32 × Option rx_H) := match ls, st, u with
  | [some (.ref x0), some (.long x1), _, some (.int x3), _, some (.int x5), some (.int x6), some (.int x7), some (.int x8), some (.int x9)], [], u => k73 x0 x1 x3 x5 x6 x7 x8 x9 u
  | _, _, _ => none
def n_X7_blooms_112 (F : Nat × Nat) (self : Nat → Int64 → Int32 → Int32 → Int32 → Option rx_H → Option (Int32 × Option rx_H)) (k12 : Nat → Int64 → Int32 → Int32 → Int32 → Option rx_H → Option (Int32 × Option rx_H)) (ls : rx_L) (st : List Value) (u : Option rx_H) : Option (Int32 × Option rx_H) := match ls, st, u with
  | [some (.ref x0), some (.long x1), _, some (.int x3), _, some (.int x5), some (.int x6), some (.int x7), _, _], [], u => f_X7_blooms_112 F self k12 x0 x1 x3 x5 x6 x7 u
  | _, _, _ => none
noncomputable def kk_X7_blooms_112 (F : Nat × Nat) (self : Nat → Int64 → Int32 → Int32 → Int32 → Option rx_H → Option (Int32 × Option rx_H)) (k12 : Nat → Int64 → Int32 → Int32 → Int32 → Option rx_H → Option (Int32 × Option rx_H)) : Nat → rx_L → List Value → Option rx_H → Option (Int32 × Option rx_H) := fun t ls st u => Bool.rec (motive := fun _ => Option (Int32 × Option rx_H)) (none) (n_X7_blooms_12 k12 ls st u) (Nat.beq t 12)
noncomputable def kk_X7_blooms_73 (F : Nat × Nat) (self : Nat → Int64 → Int32 → Int32 → Int32 → Option rx_H → Option (Int32 × Option rx_H)) (k12 : Nat → Int64 → Int32 → Int32 → Int32 → Option rx_H → Option (Int32 × Option rx_H)) (k73 : Nat → Int64 → Int32 → Int32 → Int32 → Int32 → Int32 → Int32 → Option rx_H → Option (Int32 × Option rx_H)) : Nat → rx_L → List Value → Option rx_H → Option (Int32 × Option rx_H) := fun t ls st u => Bool.rec (motive := fun _ => Option (Int32 × Option rx_H)) (Bool.rec (motive := fun _ => Option (Int32 × Option rx_H)) (none) (n_X7_blooms_112 F self k12 ls st u) (Nat.beq t 112)) (n_X7_blooms_73 k73 ls st u) (Nat.beq t 73)
noncomputable def kk_X7_blooms_12 (F : Nat × Nat) (self : Nat → Int64 → Int32 → Int32 → Int32 → Option rx_H → Option (Int32 × Option rx_H)) (k12 : Nat → Int64 → Int32 → Int32 → Int32 → Option rx_H → Option (Int32 × Option rx_H)) : Nat → rx_L → List Value → Option rx_H → Option (Int32 × Option rx_H) := fun t ls st u => Bool.rec (motive := fun _ => Option (Int32 × Option rx_H)) (none) (n_X7_blooms_73 (f_X7_blooms_73 F self k12 F.1) ls st u) (Nat.beq t 73)
noncomputable def kk_X7_blooms_0 (F : Nat × Nat) (self : Nat → Int64 → Int32 → Int32 → Int32 → Option rx_H → Option (Int32 × Option rx_H)) : Nat → rx_L → List Value → Option rx_H → Option (Int32 × Option rx_H) := fun t ls st u => Bool.rec (motive := fun _ => Option (Int32 × Option rx_H)) (none) (n_X7_blooms_12 (f_X7_blooms_12 F self F.1) ls st u) (Nat.beq t 12)
set_option maxRecDepth 100000 in
theorem g_X7_blooms_112 (F : Nat × Nat) (d : Nat) (k12 : Nat → Int64 → Int32 → Int32 → Int32 → Option rx_H → Option (Int32 × Option rx_H)) (x0 : Nat) (x1 : Int64) (x3 : Int32) (x5 : Int32) (x6 : Int32) (x7 : Int32) (u : Option rx_H) : f_X7_blooms_112 F (f_X7_blooms F d) k12 x0 x1 x3 x5 x6 x7 u = rx_node (C_X7_blooms F d) rx_hI t_X7_blooms [12, 73, 112] (kk_X7_blooms_112 F (f_X7_blooms F d) k12) 89 112 [some (.ref x0), some (.long x1), none, some (.int x3), none, some (.int x5), some (.int x6), some (.int x7), none, none] [] u := rfl
set_option maxRecDepth 100000 in
theorem g_X7_blooms_73 (F : Nat × Nat) (d : Nat) (k12 : Nat → Int64 → Int32 → Int32 → Int32 → Option rx_H → Option (Int32 × Option rx_H)) (f : Nat) (x0 : Nat) (x1 : Int64) (x3 : Int32) (x5 : Int32) (x6 : Int32) (x7 : Int32) (x8 : Int32) (x9 : Int32) (u : Option rx_H) : f_X7_blooms_73 F (f_X7_blooms F d) k12 (f + 1) x0 x1 x3 x5 x6 x7 x8 x9 u = rx_node (C_X7_blooms F d) rx_hI t_X7_blooms [12, 73, 112] (kk_X7_blooms_73 F (f_X7_blooms F d) k12 (f_X7_blooms_73 F (f_X7_blooms F d) k12 f)) 89 73 [some (.ref x0), some (.long x1), none, some (.int x3), none, some (.int x5), some (.int x6), some (.int x7), some (.int x8), some (.int x9)] [] u := rfl
set_option maxRecDepth 100000 in
theorem g_X7_blooms_12 (F : Nat × Nat) (d : Nat) (f : Nat) (x0 : Nat) (x1 : Int64) (x3 : Int32) (x5 : Int32) (x6 : Int32) (u : Option rx_H) : f_X7_blooms_12 F (f_X7_blooms F d) (f + 1) x0 x1 x3 x5 x6 u = rx_node (C_X7_blooms F d) rx_hI t_X7_blooms [12, 73, 112] (kk_X7_blooms_12 F (f_X7_blooms F d) (f_X7_blooms_12 F (f_X7_blooms F d) f)) 89 12 [some (.ref x0), some (.long x1), none, some (.int x3), none, some (.int x5), some (.int x6), none, none, none] [] u := rfl
set_option maxRecDepth 100000 in
theorem g_X7_blooms_0 (F : Nat × Nat) (d : Nat) (x0 : Nat) (x1 : Int64) (x3 : Int32) (x4 : Int32) (x5 : Int32) (u : Option rx_H) : f_X7_blooms_0 F (f_X7_blooms F d) x0 x1 x3 x4 x5 u = rx_node (C_X7_blooms F d) rx_hI t_X7_blooms [12, 73, 112] (kk_X7_blooms_0 F (f_X7_blooms F d)) 89 0 [some (.ref x0), some (.long x1), none, some (.int x3), some (.int x4), some (.int x5), none, none, none, none] [] u := rfl
def f_X7_flower_58 (F : Nat × Nat) : Nat → Nat → Int32 → Int32 → Option rx_H → Option (Int32 × Option rx_H)
  | 0, _, _, _, _ => none
  | f + 1, x0, x2, x3, u =>
    if x3 < x2 then
      (rx_gR u x0 3 11).bind fun v1 =>
      (rx_gR u x0 3 12).bind fun v2 =>
      (rx_aI u v2 x3).bind fun v3 =>
      (rx_sI u v1 x3 v3).bind fun v4 =>
      (f_X7_flower_58 F f) x0 x2 (x3 + 1) v4
    else
      (rx_gR u x0 3 11).bind fun v5 =>
      (rx_aI u v5 (0 : Int32)).bind fun v6 =>
      (rx_gR u x0 3 11).bind fun v7 =>
      (rx_aI u v7 (1 : Int32)).bind fun v8 =>
      some (v6 &&& v8, u)
def f_X7_flower_0 (F : Nat × Nat) (x0 : Nat) (x1 : Int32) (x2 : Int32) (u : Option rx_H) : Option (Int32 × Option rx_H) :=
  (f_X7_isPlace F x1).bind fun v1 =>
  if v1 = 0 then
    some ((-1 : Int32), u)
  else
    (f_X7_isIn F x2 (2 : Int32) (5 : Int32)).bind fun v2 =>
    if v2 = 0 then
      some ((-1 : Int32), u)
    else
      (rx_ck u x0 3).bind fun _ =>
      (f_X7_lacks F x0 x1 u).bind fun v3 =>
      if v3.1 = 0 then
        (rx_gR v3.2 x0 3 5).bind fun v4 =>
        (rx_aJ v3.2 v4 x1).bind fun v5 =>
        (rx_ck v3.2 x0 3).bind fun _ =>
        (f_X7_blooms F F.2 x0 v5 (0 : Int32) (0 : Int32) x2 v3.2).bind fun v6 =>
        if v6.1 = 0 then
          some ((-2 : Int32), v6.2)
        else
          (rx_p v6.2 x0 3 13 (.int x2)).bind fun v7 =>
          f_X7_flower_58 F F.1 x0 x2 (0 : Int32) v7
      else
        (rx_ck v3.2 x0 3).bind fun _ =>
        (f_X7_lacks F x0 x1 v3.2).bind fun v8 =>
        some (v8.1, v8.2)
def f_X7_flower (F : Nat × Nat) (x0 : Nat) (x1 : Int32) (x2 : Int32) (u : Option rx_H) : Option (Int32 × Option rx_H) := f_X7_flower_0 F x0 x1 x2 u
def c_X7_flower {α : Type} (F : Nat × Nat) (as : List Value) (u : Option rx_H) (κ : rx_K α) : Option α := match as with
  | [.ref a0, .int a1, .int a2] => (f_X7_flower F a0 a1 a2 u).bind fun r => κ (some (.int r.1)) r.2
  | _ => none
noncomputable def C_X7_flower {α : Type} (F : Nat × Nat) : rx_Cl α := fun j as u κ => Bool.rec (motive := fun _ => Option α) (Bool.rec (motive := fun _ => Option α) (Bool.rec (motive := fun _ => Option α) (Bool.rec (motive := fun _ => Option α) (none) (c_X7_lacks F as u κ) (Nat.beq j 179)) (c_X7_isPlace F as u κ) (Nat.beq j 173)) (c_X7_isIn F as u κ) (Nat.beq j 171)) (c_X7_blooms F F.2 as u κ) (Nat.beq j 139)
def t_X7_flower : List rx_E := [
  (0, .iload_n 1, 1, 0, 0, 0, 0, 0, []),
  (1, .invokestatic 62, 3, 173, 1, 803, 0, 0, []),
  (4, .ifCond .eq 12, 3, 16, 0, 0, 0, 0, []),
  (7, .iload_n 2, 1, 0, 0, 0, 0, 0, []),
  (8, .iconst 2, 1, 0, 0, 0, 2, 0, []),
  (9, .iconst 5, 1, 0, 0, 0, 5, 0, []),
  (10, .invokestatic 54, 3, 171, 3, 806, 0, 0, []),
  (13, .ifCond .ne 5, 3, 18, 0, 0, 0, 0, []),
  (16, .iconst (-1), 1, 0, 0, 0, (-1), 0, []),
  (17, .ireturn, 1, 0, 0, 0, 0, 0, []),
  (18, .aload_n 0, 1, 0, 0, 0, 0, 0, []),
  (19, .iload_n 1, 1, 0, 0, 0, 0, 0, []),
  (20, .invokevirtual 74, 3, 179, 302, 824, 0, 0, []),
  (23, .ifCond .eq 9, 3, 32, 0, 0, 0, 0, []),
  (26, .aload_n 0, 1, 0, 0, 0, 0, 0, []),
  (27, .iload_n 1, 1, 0, 0, 0, 0, 0, []),
  (28, .invokevirtual 74, 3, 179, 302, 824, 0, 0, []),
  (31, .ireturn, 1, 0, 0, 0, 0, 0, []),
  (32, .aload_n 0, 1, 0, 0, 0, 0, 0, []),
  (33, .aload_n 0, 1, 0, 0, 0, 0, 0, []),
  (34, .getfield 20, 3, 3, 22, 758, 0, 0, []),
  (37, .iload_n 1, 1, 0, 0, 0, 0, 0, []),
  (38, .laload, 1, 0, 0, 0, 0, 0, []),
  (39, .iconst 0, 1, 0, 0, 0, 0, 0, []),
  (40, .iconst 0, 1, 0, 0, 0, 0, 0, []),
  (41, .iload_n 2, 1, 0, 0, 0, 0, 0, []),
  (42, .invokevirtual 186, 3, 139, 305, 1068, 0, 0, []),
  (45, .ifCond .ne 6, 3, 51, 0, 0, 0, 0, []),
  (48, .bipush (-2), 2, 0, 0, 0, (-2), 0, []),
  (50, .ireturn, 1, 0, 0, 0, 0, 0, []),
  (51, .aload_n 0, 1, 0, 0, 0, 0, 0, []),
  (52, .iload_n 2, 1, 0, 0, 0, 0, 0, []),
  (53, .putfield 190, 3, 3, 52, 766, 0, 0, []),
  (56, .iconst 0, 1, 0, 0, 0, 0, 0, []),
  (57, .istore_n 3, 1, 0, 0, 0, 0, 0, []),
  (58, .iload_n 3, 1, 0, 0, 0, 0, 0, []),
  (59, .iload_n 2, 1, 0, 0, 0, 0, 0, []),
  (60, .if_icmp .ge 21, 3, 81, 0, 0, 0, 0, []),
  (63, .aload_n 0, 1, 0, 0, 0, 0, 0, []),
  (64, .getfield 39, 3, 3, 46, 764, 0, 0, []),
  (67, .iload_n 3, 1, 0, 0, 0, 0, 0, []),
  (68, .aload_n 0, 1, 0, 0, 0, 0, 0, []),
  (69, .getfield 42, 3, 3, 50, 765, 0, 0, []),
  (72, .iload_n 3, 1, 0, 0, 0, 0, 0, []),
  (73, .iaload, 1, 0, 0, 0, 0, 0, []),
  (74, .iastore, 1, 0, 0, 0, 0, 0, []),
  (75, .iinc 3 1, 3, 0, 0, 0, 1, 0, []),
  (78, .goto (-20), 3, 58, 0, 0, 0, 0, []),
  (81, .aload_n 0, 1, 0, 0, 0, 0, 0, []),
  (82, .getfield 39, 3, 3, 46, 764, 0, 0, []),
  (85, .iconst 0, 1, 0, 0, 0, 0, 0, []),
  (86, .iaload, 1, 0, 0, 0, 0, 0, []),
  (87, .aload_n 0, 1, 0, 0, 0, 0, 0, []),
  (88, .getfield 39, 3, 3, 46, 764, 0, 0, []),
  (91, .iconst 1, 1, 0, 0, 0, 1, 0, []),
  (92, .iaload, 1, 0, 0, 0, 0, 0, []),
  (93, .iand, 1, 0, 0, 0, 0, 0, []),
  (94, .ireturn, 1, 0, 0, 0, 0, 0, [])]
def n_X7_flower_58 (k58 : Nat → Int32 → Int32 → Option rx_H → Option (Int32 × Option rx_H)) (ls : rx_L) (st : List Value) (u : Option rx_H) : Option (Int32 × Option rx_H) := match ls, st, u with
  | [some (.ref x0), _, some (.int x2), some (.int x3)], [], u => k58 x0 x2 x3 u
  | _, _, _ => none
noncomputable def kk_X7_flower_58 (F : Nat × Nat) (k58 : Nat → Int32 → Int32 → Option rx_H → Option (Int32 × Option rx_H)) : Nat → rx_L → List Value → Option rx_H → Option (Int32 × Option rx_H) := fun t ls st u => Bool.rec (motive := fun _ => Option (Int32 × Option rx_H)) (none) (n_X7_flower_58 k58 ls st u) (Nat.beq t 58)
noncomputable def kk_X7_flower_0 (F : Nat × Nat) : Nat → rx_L → List Value → Option rx_H → Option (Int32 × Option rx_H) := fun t ls st u => Bool.rec (motive := fun _ => Option (Int32 × Option rx_H)) (none) (n_X7_flower_58 (f_X7_flower_58 F F.1) ls st u) (Nat.beq t 58)
set_option maxRecDepth 100000 in
theorem g_X7_flower_58 (F : Nat × Nat) (f : Nat) (x0 : Nat) (x2 : Int32) (x3 : Int32) (u : Option rx_H) : f_X7_flower_58 F (f + 1) x0 x2 x3 u = rx_node (C_X7_flower F) rx_hI t_X7_flower [58] (kk_X7_flower_58 F (f_X7_flower_58 F f)) 61 58 [some (.ref x0), none, some (.int x2), some (.int x3)] [] u := rfl
set_option maxRecDepth 100000 in
theorem g_X7_flower_0 (F : Nat × Nat) (x0 : Nat) (x1 : Int32) (x2 : Int32) (u : Option rx_H) : f_X7_flower_0 F x0 x1 x2 u = rx_node (C_X7_flower F) rx_hI t_X7_flower [58] (kk_X7_flower_0 F) 61 0 [some (.ref x0), some (.int x1), some (.int x2), none] [] u := rfl
def f_X7_petal_0 (F : Nat × Nat) (x0 : Nat) (x1 : Int32) (u : Option rx_H) : Option (Int32 × Option rx_H) :=
  (rx_gI u x0 3 13).bind fun v1 =>
  (f_X7_isIn F x1 (0 : Int32) (v1 - (1 : Int32))).bind fun v2 =>
  if v2 = 0 then
    some ((-2 : Int32), u)
  else
    (rx_gR u x0 3 11).bind fun v3 =>
    (rx_aI u v3 x1).bind fun v4 =>
    some (v4, u)
def f_X7_petal (F : Nat × Nat) (x0 : Nat) (x1 : Int32) (u : Option rx_H) : Option (Int32 × Option rx_H) := f_X7_petal_0 F x0 x1 u
def c_X7_petal {α : Type} (F : Nat × Nat) (as : List Value) (u : Option rx_H) (κ : rx_K α) : Option α := match as with
  | [.ref a0, .int a1] => (f_X7_petal F a0 a1 u).bind fun r => κ (some (.int r.1)) r.2
  | _ => none
noncomputable def C_X7_petal {α : Type} (F : Nat × Nat) : rx_Cl α := fun j as u κ => Bool.rec (motive := fun _ => Option α) (none) (c_X7_isIn F as u κ) (Nat.beq j 171)
def t_X7_petal : List rx_E := [
  (0, .iload_n 1, 1, 0, 0, 0, 0, 0, []),
  (1, .iconst 0, 1, 0, 0, 0, 0, 0, []),
  (2, .aload_n 0, 1, 0, 0, 0, 0, 0, []),
  (3, .getfield 190, 3, 3, 52, 766, 0, 0, []),
  (6, .iconst 1, 1, 0, 0, 0, 1, 0, []),
  (7, .isub, 1, 0, 0, 0, 0, 0, []),
  (8, .invokestatic 54, 3, 171, 3, 806, 0, 0, []),
  (11, .ifCond .eq 12, 3, 23, 0, 0, 0, 0, []),
  (14, .aload_n 0, 1, 0, 0, 0, 0, 0, []),
  (15, .getfield 39, 3, 3, 46, 764, 0, 0, []),
  (18, .iload_n 1, 1, 0, 0, 0, 0, 0, []),
  (19, .iaload, 1, 0, 0, 0, 0, 0, []),
  (20, .goto 5, 3, 25, 0, 0, 0, 0, []),
  (23, .bipush (-2), 2, 0, 0, 0, (-2), 0, []),
  (25, .ireturn, 1, 0, 0, 0, 0, 0, [])]
noncomputable def kk_X7_petal_0 (F : Nat × Nat) : Nat → rx_L → List Value → Option rx_H → Option (Int32 × Option rx_H) := fun t ls st u => none
set_option maxRecDepth 100000 in
theorem g_X7_petal_0 (F : Nat × Nat) (x0 : Nat) (x1 : Int32) (u : Option rx_H) : f_X7_petal_0 F x0 x1 u = rx_node (C_X7_petal F) rx_hI t_X7_petal [] (kk_X7_petal_0 F) 18 0 [some (.ref x0), some (.int x1)] [] u := rfl
def f_X7_cover_109 (F : Nat × Nat) (k28 : Nat → Int32 → Int32 → Int32 → Option rx_H → Option (Int32 × Option rx_H)) (x0 : Nat) (x1 : Int32) (x2 : Int32) (x3 : Int32) (x4 : Int32) (u : Option rx_H) : Option (Int32 × Option rx_H) :=
  if x4 = 0 then
    k28 x0 x1 x2 (x3 + 1) u
  else
    k28 x0 x1 x3 (x3 + 1) u
def f_X7_cover_61 (F : Nat × Nat) (k28 : Nat → Int32 → Int32 → Int32 → Option rx_H → Option (Int32 × Option rx_H)) : Nat → Nat → Int32 → Int32 → Int32 → Int32 → Int32 → Option rx_H → Option (Int32 × Option rx_H)
  | 0, _, _, _, _, _, _, _ => none
  | f + 1, x0, x1, x2, x3, x4, x5, u =>
    (rx_gI u x0 3 2).bind fun v1 =>
    if x5 < v1 then
      if x4 = 0 then
        f_X7_cover_109 F k28 x0 x1 x2 x3 x4 u
      else
        (rx_gR u x0 3 5).bind fun v2 =>
        (rx_aJ u v2 x1).bind fun v3 =>
        (f_X7_has F v3 x5).bind fun v4 =>
        if v4 = 0 then
          (f_X7_cover_61 F k28 f) x0 x1 x2 x3 (1 : Int32) (x5 + 1) u
        else
          if x5 &&& x3 = 0 then
            (f_X7_cover_61 F k28 f) x0 x1 x2 x3 (0 : Int32) (x5 + 1) u
          else
            (f_X7_cover_61 F k28 f) x0 x1 x2 x3 (1 : Int32) (x5 + 1) u
    else
      f_X7_cover_109 F k28 x0 x1 x2 x3 x4 u
def f_X7_cover_28 (F : Nat × Nat) : Nat → Nat → Int32 → Int32 → Int32 → Option rx_H → Option (Int32 × Option rx_H)
  | 0, _, _, _, _, _ => none
  | f + 1, x0, x1, x2, x3, u =>
    (rx_gI u x0 3 2).bind fun v1 =>
    if x3 < v1 then
      if x2 < 0 then
        f_X7_cover_61 F (f_X7_cover_28 F f) F.1 x0 x1 x2 x3 (1 : Int32) (0 : Int32) u
      else
        (f_X7_ones F x3).bind fun v2 =>
        (f_X7_ones F x2).bind fun v3 =>
        if v2 < v3 then
          f_X7_cover_61 F (f_X7_cover_28 F f) F.1 x0 x1 x2 x3 (1 : Int32) (0 : Int32) u
        else
          f_X7_cover_61 F (f_X7_cover_28 F f) F.1 x0 x1 x2 x3 (0 : Int32) (0 : Int32) u
    else
      some (x2, u)
def f_X7_cover_0 (F : Nat × Nat) (x0 : Nat) (x1 : Int32) (u : Option rx_H) : Option (Int32 × Option rx_H) :=
  (f_X7_isPlace F x1).bind fun v1 =>
  if v1 = 0 then
    some ((-1 : Int32), u)
  else
    (rx_ck u x0 3).bind fun _ =>
    (f_X7_lacks F x0 x1 u).bind fun v2 =>
    if v2.1 = 0 then
      f_X7_cover_28 F F.1 x0 x1 (-2 : Int32) (0 : Int32) v2.2
    else
      (rx_ck v2.2 x0 3).bind fun _ =>
      (f_X7_lacks F x0 x1 v2.2).bind fun v3 =>
      some (v3.1, v3.2)
def f_X7_cover (F : Nat × Nat) (x0 : Nat) (x1 : Int32) (u : Option rx_H) : Option (Int32 × Option rx_H) := f_X7_cover_0 F x0 x1 u
def c_X7_cover {α : Type} (F : Nat × Nat) (as : List Value) (u : Option rx_H) (κ : rx_K α) : Option α := match as with
  | [.ref a0, .int a1] => (f_X7_cover F a0 a1 u).bind fun r => κ (some (.int r.1)) r.2
  | _ => none
noncomputable def C_X7_cover {α : Type} (F : Nat × Nat) : rx_Cl α := fun j as u κ => Bool.rec (motive := fun _ => Option α) (Bool.rec (motive := fun _ => Option α) (Bool.rec (motive := fun _ => Option α) (Bool.rec (motive := fun _ => Option α) (none) (c_X7_ones F as u κ) (Nat.beq j 190)) (c_X7_lacks F as u κ) (Nat.beq j 179)) (c_X7_isPlace F as u κ) (Nat.beq j 173)) (c_X7_has F as u κ) (Nat.beq j 163)
def t_X7_cover : List rx_E := [
  (0, .iload_n 1, 1, 0, 0, 0, 0, 0, []),
  (1, .invokestatic 62, 3, 173, 1, 803, 0, 0, []),
  (4, .ifCond .ne 5, 3, 9, 0, 0, 0, 0, []),
  (7, .iconst (-1), 1, 0, 0, 0, (-1), 0, []),
  (8, .ireturn, 1, 0, 0, 0, 0, 0, []),
  (9, .aload_n 0, 1, 0, 0, 0, 0, 0, []),
  (10, .iload_n 1, 1, 0, 0, 0, 0, 0, []),
  (11, .invokevirtual 74, 3, 179, 302, 824, 0, 0, []),
  (14, .ifCond .eq 9, 3, 23, 0, 0, 0, 0, []),
  (17, .aload_n 0, 1, 0, 0, 0, 0, 0, []),
  (18, .iload_n 1, 1, 0, 0, 0, 0, 0, []),
  (19, .invokevirtual 74, 3, 179, 302, 824, 0, 0, []),
  (22, .ireturn, 1, 0, 0, 0, 0, 0, []),
  (23, .bipush (-2), 2, 0, 0, 0, (-2), 0, []),
  (25, .istore_n 2, 1, 0, 0, 0, 0, 0, []),
  (26, .iconst 0, 1, 0, 0, 0, 0, 0, []),
  (27, .istore_n 3, 1, 0, 0, 0, 0, 0, []),
  (28, .iload_n 3, 1, 0, 0, 0, 0, 0, []),
  (29, .aload_n 0, 1, 0, 0, 0, 0, 0, []),
  (30, .getfield 51, 3, 3, 8, 755, 0, 0, []),
  (33, .if_icmp .ge 89, 3, 122, 0, 0, 0, 0, []),
  (36, .iload_n 2, 1, 0, 0, 0, 0, 0, []),
  (37, .ifCond .lt 14, 3, 51, 0, 0, 0, 0, []),
  (40, .iload_n 3, 1, 0, 0, 0, 0, 0, []),
  (41, .invokestatic 82, 3, 190, 1, 844, 0, 0, []),
  (44, .iload_n 2, 1, 0, 0, 0, 0, 0, []),
  (45, .invokestatic 82, 3, 190, 1, 844, 0, 0, []),
  (48, .if_icmp .ge 7, 3, 55, 0, 0, 0, 0, []),
  (51, .iconst 1, 1, 0, 0, 0, 1, 0, []),
  (52, .goto 4, 3, 56, 0, 0, 0, 0, []),
  (55, .iconst 0, 1, 0, 0, 0, 0, 0, []),
  (56, .istore 4, 2, 0, 0, 0, 0, 0, []),
  (58, .iconst 0, 1, 0, 0, 0, 0, 0, []),
  (59, .istore 5, 2, 0, 0, 0, 0, 0, []),
  (61, .iload 5, 2, 0, 0, 0, 0, 0, []),
  (63, .aload_n 0, 1, 0, 0, 0, 0, 0, []),
  (64, .getfield 51, 3, 3, 8, 755, 0, 0, []),
  (67, .if_icmp .ge 42, 3, 109, 0, 0, 0, 0, []),
  (70, .iload 4, 2, 0, 0, 0, 0, 0, []),
  (72, .ifCond .eq 37, 3, 109, 0, 0, 0, 0, []),
  (75, .aload_n 0, 1, 0, 0, 0, 0, 0, []),
  (76, .getfield 20, 3, 3, 22, 758, 0, 0, []),
  (79, .iload_n 1, 1, 0, 0, 0, 0, 0, []),
  (80, .laload, 1, 0, 0, 0, 0, 0, []),
  (81, .iload 5, 2, 0, 0, 0, 0, 0, []),
  (83, .invokestatic 78, 3, 163, 2, 850, 0, 0, []),
  (86, .ifCond .eq 10, 3, 96, 0, 0, 0, 0, []),
  (89, .iload 5, 2, 0, 0, 0, 0, 0, []),
  (91, .iload_n 3, 1, 0, 0, 0, 0, 0, []),
  (92, .iand, 1, 0, 0, 0, 0, 0, []),
  (93, .ifCond .eq 7, 3, 100, 0, 0, 0, 0, []),
  (96, .iconst 1, 1, 0, 0, 0, 1, 0, []),
  (97, .goto 4, 3, 101, 0, 0, 0, 0, []),
  (100, .iconst 0, 1, 0, 0, 0, 0, 0, []),
  (101, .istore 4, 2, 0, 0, 0, 0, 0, []),
  (103, .iinc 5 1, 3, 0, 0, 0, 1, 0, []),
  (106, .goto (-45), 3, 61, 0, 0, 0, 0, []),
  (109, .iload 4, 2, 0, 0, 0, 0, 0, []),
  (111, .ifCond .eq 5, 3, 116, 0, 0, 0, 0, []),
  (114, .iload_n 3, 1, 0, 0, 0, 0, 0, []),
  (115, .istore_n 2, 1, 0, 0, 0, 0, 0, []),
  (116, .iinc 3 1, 3, 0, 0, 0, 1, 0, []),
  (119, .goto (-91), 3, 28, 0, 0, 0, 0, []),
  (122, .iload_n 2, 1, 0, 0, 0, 0, 0, []),
  (123, .ireturn, 1, 0, 0, 0, 0, 0, [])]
def n_X7_cover_28 (k28 : Nat → Int32 → Int32 → Int32 → Option rx_H → Option (Int32 × Option rx_H)) (ls : rx_L) (st : List Value) (u : Option rx_H) : Option (Int32 × Option rx_H) := match ls, st, u with
  | [some (.ref x0), some (.int x1), some (.int x2), some (.int x3), _, _], [], u => k28 x0 x1 x2 x3 u
  | _, _, _ => none
def n_X7_cover_61 (k61 : Nat → Int32 → Int32 → Int32 → Int32 → Int32 → Option rx_H → Option (Int32 × Option rx_H)) (ls : rx_L) (st : List Value) (u : Option rx_H) : Option (Int32 × Option rx_H) := match ls, st, u with
  | [some (.ref x0), some (.int x1), some (.int x2), some (.int x3), some (.int x4), some (.int x5)], [], u => k61 x0 x1 x2 x3 x4 x5 u
  | _, _, _ => none
def n_X7_cover_109 (F : Nat × Nat) (k28 : Nat → Int32 → Int32 → Int32 → Option rx_H → Option (Int32 × Option rx_H)) (ls : rx_L) (st : List Value) (u : Option rx_H) : Option (Int32 × Option rx_H) := match ls, st, u with
  | [some (.ref x0), some (.int x1), some (.int x2), some (.int x3), some (.int x4), _], [], u => f_X7_cover_109 F k28 x0 x1 x2 x3 x4 u
  | _, _, _ => none
noncomputable def kk_X7_cover_109 (F : Nat × Nat) (k28 : Nat → Int32 → Int32 → Int32 → Option rx_H → Option (Int32 × Option rx_H)) : Nat → rx_L → List Value → Option rx_H → Option (Int32 × Option rx_H) := fun t ls st u => Bool.rec (motive := fun _ => Option (Int32 × Option rx_H)) (none) (n_X7_cover_28 k28 ls st u) (Nat.beq t 28)
noncomputable def kk_X7_cover_61 (F : Nat × Nat) (k28 : Nat → Int32 → Int32 → Int32 → Option rx_H → Option (Int32 × Option rx_H)) (k61 : Nat → Int32 → Int32 → Int32 → Int32 → Int32 → Option rx_H → Option (Int32 × Option rx_H)) : Nat → rx_L → List Value → Option rx_H → Option (Int32 × Option rx_H) := fun t ls st u => Bool.rec (motive := fun _ => Option (Int32 × Option rx_H)) (Bool.rec (motive := fun _ => Option (Int32 × Option rx_H)) (none) (n_X7_cover_109 F k28 ls st u) (Nat.beq t 109)) (n_X7_cover_61 k61 ls st u) (Nat.beq t 61)
noncomputable def kk_X7_cover_28 (F : Nat × Nat) (k28 : Nat → Int32 → Int32 → Int32 → Option rx_H → Option (Int32 × Option rx_H)) : Nat → rx_L → List Value → Option rx_H → Option (Int32 × Option rx_H) := fun t ls st u => Bool.rec (motive := fun _ => Option (Int32 × Option rx_H)) (none) (n_X7_cover_61 (f_X7_cover_61 F k28 F.1) ls st u) (Nat.beq t 61)
noncomputable def kk_X7_cover_0 (F : Nat × Nat) : Nat → rx_L → List Value → Option rx_H → Option (Int32 × Option rx_H) := fun t ls st u => Bool.rec (motive := fun _ => Option (Int32 × Option rx_H)) (none) (n_X7_cover_28 (f_X7_cover_28 F F.1) ls st u) (Nat.beq t 28)
set_option maxRecDepth 100000 in
theorem g_X7_cover_109 (F : Nat × Nat) (k28 : Nat → Int32 → Int32 → Int32 → Option rx_H → Option (Int32 × Option rx_H)) (x0 : Nat) (x1 : Int32) (x2 : Int32) (x3 : Int32) (x4 : Int32) (u : Option rx_H) : f_X7_cover_109 F k28 x0 x1 x2 x3 x4 u = rx_node (C_X7_cover F) rx_hI t_X7_cover [28, 61, 109] (kk_X7_cover_109 F k28) 68 109 [some (.ref x0), some (.int x1), some (.int x2), some (.int x3), some (.int x4), none] [] u := rfl
set_option maxRecDepth 100000 in
theorem g_X7_cover_61 (F : Nat × Nat) (k28 : Nat → Int32 → Int32 → Int32 → Option rx_H → Option (Int32 × Option rx_H)) (f : Nat) (x0 : Nat) (x1 : Int32) (x2 : Int32) (x3 : Int32) (x4 : Int32) (x5 : Int32) (u : Option rx_H) : f_X7_cover_61 F k28 (f + 1) x0 x1 x2 x3 x4 x5 u = rx_node (C_X7_cover F) rx_hI t_X7_cover [28, 61, 109] (kk_X7_cover_61 F k28 (f_X7_cover_61 F k28 f)) 68 61 [some (.ref x0), some (.int x1), some (.int x2), some (.int x3), some (.int x4), some (.int x5)] [] u := rfl
set_option maxRecDepth 100000 in
theorem g_X7_cover_28 (F : Nat × Nat) (f : Nat) (x0 : Nat) (x1 : Int32) (x2 : Int32) (x3 : Int32) (u : Option rx_H) : f_X7_cover_28 F (f + 1) x0 x1 x2 x3 u = rx_node (C_X7_cover F) rx_hI t_X7_cover [28, 61, 109] (kk_X7_cover_28 F (f_X7_cover_28 F f)) 68 28 [some (.ref x0), some (.int x1), some (.int x2), some (.int x3), none, none] [] u := rfl
set_option maxRecDepth 100000 in
theorem g_X7_cover_0 (F : Nat × Nat) (x0 : Nat) (x1 : Int32) (u : Option rx_H) : f_X7_cover_0 F x0 x1 u = rx_node (C_X7_cover F) rx_hI t_X7_cover [28, 61, 109] (kk_X7_cover_0 F) 68 0 [some (.ref x0), some (.int x1), none, none, none, none] [] u := rfl
def f_X7_looseFrom_6 (F : Nat × Nat) (self : Nat → Int64 → Int32 → Int32 → Option rx_H → Option (Int32 × Option rx_H)) : Nat → Nat → Int64 → Int32 → Int32 → Int32 → Option rx_H → Option (Int32 × Option rx_H)
  | 0, _, _, _, _, _, _ => none
  | f + 1, x0, x1, x4, x5, x6, u =>
    (rx_gI u x0 3 2).bind fun v1 =>
    if x6 < v1 then
      (f_X7_has F x1 x6).bind fun v2 =>
      if v2 = 0 then
        (f_X7_looseFrom_6 F self f) x0 x1 x4 x5 (x6 + 1) u
      else
        if x6 &&& x4 = 0 then
          (rx_ck u x0 3).bind fun _ =>
          (self x0 x1 (x6 + (1 : Int32)) (x4 ||| x6) u).bind fun v3 =>
          if x5 < (1 : Int32) + v3.1 then
            (f_X7_looseFrom_6 F self f) x0 x1 x4 ((1 : Int32) + v3.1) (x6 + 1) v3.2
          else
            (f_X7_looseFrom_6 F self f) x0 x1 x4 x5 (x6 + 1) v3.2
        else
          (f_X7_looseFrom_6 F self f) x0 x1 x4 x5 (x6 + 1) u
    else
      some (x5, u)
def f_X7_looseFrom_0 (F : Nat × Nat) (self : Nat → Int64 → Int32 → Int32 → Option rx_H → Option (Int32 × Option rx_H)) (x0 : Nat) (x1 : Int64) (x3 : Int32) (x4 : Int32) (u : Option rx_H) : Option (Int32 × Option rx_H) :=
  f_X7_looseFrom_6 F self F.1 x0 x1 x4 (0 : Int32) x3 u
def f_X7_looseFrom (F : Nat × Nat) : Nat → Nat → Int64 → Int32 → Int32 → Option rx_H → Option (Int32 × Option rx_H)
  | 0, _, _, _, _, _ => none
  | d + 1, x0, x1, x3, x4, u => f_X7_looseFrom_0 F (f_X7_looseFrom F d) x0 x1 x3 x4 u
def c_X7_looseFrom {α : Type} (F : Nat × Nat) (d : Nat) (as : List Value) (u : Option rx_H) (κ : rx_K α) : Option α := match as with
  | [.ref a0, .long a1, .int a2, .int a3] => (f_X7_looseFrom F d a0 a1 a2 a3 u).bind fun r => κ (some (.int r.1)) r.2
  | _ => none
noncomputable def C_X7_looseFrom {α : Type} (F : Nat × Nat) (d : Nat) : rx_Cl α := fun j as u κ => Bool.rec (motive := fun _ => Option α) (Bool.rec (motive := fun _ => Option α) (none) (c_X7_looseFrom F d as u κ) (Nat.beq j 182)) (c_X7_has F as u κ) (Nat.beq j 163)
def t_X7_looseFrom : List rx_E := [
  (0, .iconst 0, 1, 0, 0, 0, 0, 0, []),
  (1, .istore 5, 2, 0, 0, 0, 0, 0, []),
  (3, .iload_n 3, 1, 0, 0, 0, 0, 0, []),
  (4, .istore 6, 2, 0, 0, 0, 0, 0, []),
  (6, .iload 6, 2, 0, 0, 0, 0, 0, []),
  (8, .aload_n 0, 1, 0, 0, 0, 0, 0, []),
  (9, .getfield 51, 3, 3, 8, 755, 0, 0, []),
  (12, .if_icmp .ge 63, 3, 75, 0, 0, 0, 0, []),
  (15, .lload_n 1, 1, 0, 0, 0, 0, 0, []),
  (16, .iload 6, 2, 0, 0, 0, 0, 0, []),
  (18, .invokestatic 78, 3, 163, 2, 850, 0, 0, []),
  (21, .ifCond .eq 48, 3, 69, 0, 0, 0, 0, []),
  (24, .iload 6, 2, 0, 0, 0, 0, 0, []),
  (26, .iload 4, 2, 0, 0, 0, 0, 0, []),
  (28, .iand, 1, 0, 0, 0, 0, 0, []),
  (29, .ifCond .eq 6, 3, 35, 0, 0, 0, 0, []),
  (32, .goto 37, 3, 69, 0, 0, 0, 0, []),
  (35, .iconst 1, 1, 0, 0, 0, 1, 0, []),
  (36, .aload_n 0, 1, 0, 0, 0, 0, 0, []),
  (37, .lload_n 1, 1, 0, 0, 0, 0, 0, []),
  (38, .iload 6, 2, 0, 0, 0, 0, 0, []),
  (40, .iconst 1, 1, 0, 0, 0, 1, 0, []),
  (41, .iadd, 1, 0, 0, 0, 0, 0, []),
  (42, .iload 4, 2, 0, 0, 0, 0, 0, []),
  (44, .iload 6, 2, 0, 0, 0, 0, 0, []),
  (46, .ior, 1, 0, 0, 0, 0, 0, []),
  (47, .invokevirtual 193, 3, 182, 304, 1084, 0, 0, []),
  (50, .iadd, 1, 0, 0, 0, 0, 0, []),
  (51, .istore 7, 2, 0, 0, 0, 0, 0, []),
  (53, .iload 7, 2, 0, 0, 0, 0, 0, []),
  (55, .iload 5, 2, 0, 0, 0, 0, 0, []),
  (57, .if_icmp .le 8, 3, 65, 0, 0, 0, 0, []),
  (60, .iload 7, 2, 0, 0, 0, 0, 0, []),
  (62, .goto 5, 3, 67, 0, 0, 0, 0, []),
  (65, .iload 5, 2, 0, 0, 0, 0, 0, []),
  (67, .istore 5, 2, 0, 0, 0, 0, 0, []),
  (69, .iinc 6 1, 3, 0, 0, 0, 1, 0, []),
  (72, .goto (-66), 3, 6, 0, 0, 0, 0, []),
  (75, .iload 5, 2, 0, 0, 0, 0, 0, []),
  (77, .ireturn, 1, 0, 0, 0, 0, 0, [])]
def n_X7_looseFrom_6 (k6 : Nat → Int64 → Int32 → Int32 → Int32 → Option rx_H → Option (Int32 × Option rx_H)) (ls : rx_L) (st : List Value) (u : Option rx_H) : Option (Int32 × Option rx_H) := match ls, st, u with
  | [some (.ref x0), some (.long x1), _, _, some (.int x4), some (.int x5), some (.int x6), _], [], u => k6 x0 x1 x4 x5 x6 u
  | _, _, _ => none
noncomputable def kk_X7_looseFrom_6 (F : Nat × Nat) (self : Nat → Int64 → Int32 → Int32 → Option rx_H → Option (Int32 × Option rx_H)) (k6 : Nat → Int64 → Int32 → Int32 → Int32 → Option rx_H → Option (Int32 × Option rx_H)) : Nat → rx_L → List Value → Option rx_H → Option (Int32 × Option rx_H) := fun t ls st u => Bool.rec (motive := fun _ => Option (Int32 × Option rx_H)) (none) (n_X7_looseFrom_6 k6 ls st u) (Nat.beq t 6)
noncomputable def kk_X7_looseFrom_0 (F : Nat × Nat) (self : Nat → Int64 → Int32 → Int32 → Option rx_H → Option (Int32 × Option rx_H)) : Nat → rx_L → List Value → Option rx_H → Option (Int32 × Option rx_H) := fun t ls st u => Bool.rec (motive := fun _ => Option (Int32 × Option rx_H)) (none) (n_X7_looseFrom_6 (f_X7_looseFrom_6 F self F.1) ls st u) (Nat.beq t 6)
set_option maxRecDepth 100000 in
theorem g_X7_looseFrom_6 (F : Nat × Nat) (d : Nat) (f : Nat) (x0 : Nat) (x1 : Int64) (x4 : Int32) (x5 : Int32) (x6 : Int32) (u : Option rx_H) : f_X7_looseFrom_6 F (f_X7_looseFrom F d) (f + 1) x0 x1 x4 x5 x6 u = rx_node (C_X7_looseFrom F d) rx_hI t_X7_looseFrom [6] (kk_X7_looseFrom_6 F (f_X7_looseFrom F d) (f_X7_looseFrom_6 F (f_X7_looseFrom F d) f)) 43 6 [some (.ref x0), some (.long x1), none, none, some (.int x4), some (.int x5), some (.int x6), none] [] u := rfl
set_option maxRecDepth 100000 in
theorem g_X7_looseFrom_0 (F : Nat × Nat) (d : Nat) (x0 : Nat) (x1 : Int64) (x3 : Int32) (x4 : Int32) (u : Option rx_H) : f_X7_looseFrom_0 F (f_X7_looseFrom F d) x0 x1 x3 x4 u = rx_node (C_X7_looseFrom F d) rx_hI t_X7_looseFrom [6] (kk_X7_looseFrom_0 F (f_X7_looseFrom F d)) 43 0 [some (.ref x0), some (.long x1), none, some (.int x3), some (.int x4), none, none, none] [] u := rfl
def f_X7_loose_0 (F : Nat × Nat) (x0 : Nat) (x1 : Int32) (u : Option rx_H) : Option (Int32 × Option rx_H) :=
  (f_X7_isPlace F x1).bind fun v1 =>
  if v1 = 0 then
    some ((-1 : Int32), u)
  else
    (rx_ck u x0 3).bind fun _ =>
    (f_X7_lacks F x0 x1 u).bind fun v2 =>
    if v2.1 = 0 then
      (rx_gR v2.2 x0 3 5).bind fun v3 =>
      (rx_aJ v2.2 v3 x1).bind fun v4 =>
      (rx_ck v2.2 x0 3).bind fun _ =>
      (f_X7_looseFrom F F.2 x0 v4 (0 : Int32) (0 : Int32) v2.2).bind fun v5 =>
      some (v5.1, v5.2)
    else
      (rx_ck v2.2 x0 3).bind fun _ =>
      (f_X7_lacks F x0 x1 v2.2).bind fun v6 =>
      some (v6.1, v6.2)
def f_X7_loose (F : Nat × Nat) (x0 : Nat) (x1 : Int32) (u : Option rx_H) : Option (Int32 × Option rx_H) := f_X7_loose_0 F x0 x1 u
def c_X7_loose {α : Type} (F : Nat × Nat) (as : List Value) (u : Option rx_H) (κ : rx_K α) : Option α := match as with
  | [.ref a0, .int a1] => (f_X7_loose F a0 a1 u).bind fun r => κ (some (.int r.1)) r.2
  | _ => none
noncomputable def C_X7_loose {α : Type} (F : Nat × Nat) : rx_Cl α := fun j as u κ => Bool.rec (motive := fun _ => Option α) (Bool.rec (motive := fun _ => Option α) (Bool.rec (motive := fun _ => Option α) (none) (c_X7_looseFrom F F.2 as u κ) (Nat.beq j 182)) (c_X7_lacks F as u κ) (Nat.beq j 179)) (c_X7_isPlace F as u κ) (Nat.beq j 173)
def t_X7_loose : List rx_E := [
  (0, .iload_n 1, 1, 0, 0, 0, 0, 0, []),
  (1, .invokestatic 62, 3, 173, 1, 803, 0, 0, []),
  (4, .ifCond .ne 5, 3, 9, 0, 0, 0, 0, []),
  (7, .iconst (-1), 1, 0, 0, 0, (-1), 0, []),
  (8, .ireturn, 1, 0, 0, 0, 0, 0, []),
  (9, .aload_n 0, 1, 0, 0, 0, 0, 0, []),
  (10, .iload_n 1, 1, 0, 0, 0, 0, 0, []),
  (11, .invokevirtual 74, 3, 179, 302, 824, 0, 0, []),
  (14, .ifCond .eq 11, 3, 25, 0, 0, 0, 0, []),
  (17, .aload_n 0, 1, 0, 0, 0, 0, 0, []),
  (18, .iload_n 1, 1, 0, 0, 0, 0, 0, []),
  (19, .invokevirtual 74, 3, 179, 302, 824, 0, 0, []),
  (22, .goto 15, 3, 37, 0, 0, 0, 0, []),
  (25, .aload_n 0, 1, 0, 0, 0, 0, 0, []),
  (26, .aload_n 0, 1, 0, 0, 0, 0, 0, []),
  (27, .getfield 20, 3, 3, 22, 758, 0, 0, []),
  (30, .iload_n 1, 1, 0, 0, 0, 0, 0, []),
  (31, .laload, 1, 0, 0, 0, 0, 0, []),
  (32, .iconst 0, 1, 0, 0, 0, 0, 0, []),
  (33, .iconst 0, 1, 0, 0, 0, 0, 0, []),
  (34, .invokevirtual 193, 3, 182, 304, 1084, 0, 0, []),
  (37, .ireturn, 1, 0, 0, 0, 0, 0, [])]
noncomputable def kk_X7_loose_0 (F : Nat × Nat) : Nat → rx_L → List Value → Option rx_H → Option (Int32 × Option rx_H) := fun t ls st u => none
set_option maxRecDepth 100000 in
theorem g_X7_loose_0 (F : Nat × Nat) (x0 : Nat) (x1 : Int32) (u : Option rx_H) : f_X7_loose_0 F x0 x1 u = rx_node (C_X7_loose F) rx_hI t_X7_loose [] (kk_X7_loose_0 F) 25 0 [some (.ref x0), some (.int x1)] [] u := rfl
def f_X7_isShattered_11 (F : Nat × Nat) : Nat → Nat → Int32 → Int64 → Int32 → Option rx_H → Option (Int32 × Option rx_H)
  | 0, _, _, _, _, _ => none
  | f + 1, x0, x3, x4, x6, u =>
    (rx_gI u x0 3 2).bind fun v1 =>
    if x6 < v1 then
      (f_X7_isWithin F x6 x3).bind fun v2 =>
      if v2 = 0 then
        (f_X7_isShattered_11 F f) x0 x3 x4 (x6 + 1) u
      else
        (f_X7_has F x4 x6).bind fun v3 =>
        if v3 = 0 then
          some ((0 : Int32), u)
        else
          (f_X7_isShattered_11 F f) x0 x3 x4 (x6 + 1) u
    else
      some ((1 : Int32), u)
def f_X7_isShattered_0 (F : Nat × Nat) (x0 : Nat) (x1 : Int64) (x3 : Int32) (u : Option rx_H) : Option (Int32 × Option rx_H) :=
  (rx_ck u x0 3).bind fun _ =>
  (f_X7_traceOf F x0 x1 x3 u).bind fun v1 =>
  f_X7_isShattered_11 F F.1 x0 x3 v1.1 (0 : Int32) v1.2
def f_X7_isShattered (F : Nat × Nat) (x0 : Nat) (x1 : Int64) (x3 : Int32) (u : Option rx_H) : Option (Int32 × Option rx_H) := f_X7_isShattered_0 F x0 x1 x3 u
def c_X7_isShattered {α : Type} (F : Nat × Nat) (as : List Value) (u : Option rx_H) (κ : rx_K α) : Option α := match as with
  | [.ref a0, .long a1, .int a2] => (f_X7_isShattered F a0 a1 a2 u).bind fun r => κ (some (.int r.1)) r.2
  | _ => none
noncomputable def C_X7_isShattered {α : Type} (F : Nat × Nat) : rx_Cl α := fun j as u κ => Bool.rec (motive := fun _ => Option α) (Bool.rec (motive := fun _ => Option α) (Bool.rec (motive := fun _ => Option α) (none) (c_X7_traceOf F as u κ) (Nat.beq j 217)) (c_X7_isWithin F as u κ) (Nat.beq j 177)) (c_X7_has F as u κ) (Nat.beq j 163)
def t_X7_isShattered : List rx_E := [
  (0, .aload_n 0, 1, 0, 0, 0, 0, 0, []),
  (1, .lload_n 1, 1, 0, 0, 0, 0, 0, []),
  (2, .iload_n 3, 1, 0, 0, 0, 0, 0, []),
  (3, .invokevirtual 127, 3, 217, 303, 940, 0, 0, []),
  (6, .lstore 4, 2, 0, 0, 0, 0, 0, []),
  (8, .iconst 0, 1, 0, 0, 0, 0, 0, []),
  (9, .istore 6, 2, 0, 0, 0, 0, 0, []),
  (11, .iload 6, 2, 0, 0, 0, 0, 0, []),
  (13, .aload_n 0, 1, 0, 0, 0, 0, 0, []),
  (14, .getfield 51, 3, 3, 8, 755, 0, 0, []),
  (17, .if_icmp .ge 30, 3, 47, 0, 0, 0, 0, []),
  (20, .iload 6, 2, 0, 0, 0, 0, 0, []),
  (22, .iload_n 3, 1, 0, 0, 0, 0, 0, []),
  (23, .invokestatic 89, 3, 177, 2, 853, 0, 0, []),
  (26, .ifCond .eq 15, 3, 41, 0, 0, 0, 0, []),
  (29, .lload 4, 2, 0, 0, 0, 0, 0, []),
  (31, .iload 6, 2, 0, 0, 0, 0, 0, []),
  (33, .invokestatic 78, 3, 163, 2, 850, 0, 0, []),
  (36, .ifCond .ne 5, 3, 41, 0, 0, 0, 0, []),
  (39, .iconst 0, 1, 0, 0, 0, 0, 0, []),
  (40, .ireturn, 1, 0, 2, 0, 0, 0, []),
  (41, .iinc 6 1, 3, 0, 0, 0, 1, 0, []),
  (44, .goto (-33), 3, 11, 0, 0, 0, 0, []),
  (47, .iconst 1, 1, 0, 0, 0, 1, 0, []),
  (48, .ireturn, 1, 0, 2, 0, 0, 0, [])]
def n_X7_isShattered_11 (k11 : Nat → Int32 → Int64 → Int32 → Option rx_H → Option (Int32 × Option rx_H)) (ls : rx_L) (st : List Value) (u : Option rx_H) : Option (Int32 × Option rx_H) := match ls, st, u with
  | [some (.ref x0), _, _, some (.int x3), some (.long x4), _, some (.int x6)], [], u => k11 x0 x3 x4 x6 u
  | _, _, _ => none
noncomputable def kk_X7_isShattered_11 (F : Nat × Nat) (k11 : Nat → Int32 → Int64 → Int32 → Option rx_H → Option (Int32 × Option rx_H)) : Nat → rx_L → List Value → Option rx_H → Option (Int32 × Option rx_H) := fun t ls st u => Bool.rec (motive := fun _ => Option (Int32 × Option rx_H)) (none) (n_X7_isShattered_11 k11 ls st u) (Nat.beq t 11)
noncomputable def kk_X7_isShattered_0 (F : Nat × Nat) : Nat → rx_L → List Value → Option rx_H → Option (Int32 × Option rx_H) := fun t ls st u => Bool.rec (motive := fun _ => Option (Int32 × Option rx_H)) (none) (n_X7_isShattered_11 (f_X7_isShattered_11 F F.1) ls st u) (Nat.beq t 11)
set_option maxRecDepth 100000 in
theorem g_X7_isShattered_11 (F : Nat × Nat) (f : Nat) (x0 : Nat) (x3 : Int32) (x4 : Int64) (x6 : Int32) (u : Option rx_H) : f_X7_isShattered_11 F (f + 1) x0 x3 x4 x6 u = rx_node (C_X7_isShattered F) rx_hI t_X7_isShattered [11] (kk_X7_isShattered_11 F (f_X7_isShattered_11 F f)) 28 11 [some (.ref x0), none, none, some (.int x3), some (.long x4), none, some (.int x6)] [] u := rfl
set_option maxRecDepth 100000 in
theorem g_X7_isShattered_0 (F : Nat × Nat) (x0 : Nat) (x1 : Int64) (x3 : Int32) (u : Option rx_H) : f_X7_isShattered_0 F x0 x1 x3 u = rx_node (C_X7_isShattered F) rx_hI t_X7_isShattered [11] (kk_X7_isShattered_0 F) 28 0 [some (.ref x0), some (.long x1), none, some (.int x3), none, none, none] [] u := rfl
def f_X7_shattered_62 (F : Nat × Nat) (k41 : Nat → Int32 → Int32 → Int32 → Int32 → Option rx_H → Option (Int32 × Option rx_H)) (x0 : Nat) (x1 : Int32) (x2 : Int32) (x4 : Int32) (s0 : Int32) (u : Option rx_H) : Option (Int32 × Option rx_H) :=
  (rx_gR u x0 3 5).bind fun v1 =>
  (rx_aJ u v1 x1).bind fun v2 =>
  (rx_ck u x0 3).bind fun _ =>
  (f_X7_isShattered F x0 v2 x4 u).bind fun v3 =>
  if v3.1 = 0 then
    k41 x0 x1 x2 (s0 + (0 : Int32)) (x4 + 1) v3.2
  else
    k41 x0 x1 x2 (s0 + (1 : Int32)) (x4 + 1) v3.2
def f_X7_shattered_41 (F : Nat × Nat) : Nat → Nat → Int32 → Int32 → Int32 → Int32 → Option rx_H → Option (Int32 × Option rx_H)
  | 0, _, _, _, _, _, _ => none
  | f + 1, x0, x1, x2, x3, x4, u =>
    (rx_gI u x0 3 2).bind fun v1 =>
    if x4 < v1 then
      if x2 = (-1 : Int32) then
        f_X7_shattered_62 F (f_X7_shattered_41 F f) x0 x1 x2 x4 x3 u
      else
        if x4 = x2 then
          f_X7_shattered_62 F (f_X7_shattered_41 F f) x0 x1 x2 x4 x3 u
        else
          (f_X7_shattered_41 F f) x0 x1 x2 (x3 + (0 : Int32)) (x4 + 1) u
    else
      some (x3, u)
def f_X7_shattered_22 (F : Nat × Nat) (x0 : Nat) (x1 : Int32) (x2 : Int32) (u : Option rx_H) : Option (Int32 × Option rx_H) :=
  (rx_ck u x0 3).bind fun _ =>
  (f_X7_lacks F x0 x1 u).bind fun v1 =>
  if v1.1 = 0 then
    f_X7_shattered_41 F F.1 x0 x1 x2 (0 : Int32) (0 : Int32) v1.2
  else
    (rx_ck v1.2 x0 3).bind fun _ =>
    (f_X7_lacks F x0 x1 v1.2).bind fun v2 =>
    some (v2.1, v2.2)
def f_X7_shattered_0 (F : Nat × Nat) (x0 : Nat) (x1 : Int32) (x2 : Int32) (u : Option rx_H) : Option (Int32 × Option rx_H) :=
  (f_X7_isPlace F x1).bind fun v1 =>
  if v1 = 0 then
    some ((-1 : Int32), u)
  else
    if x2 = (-1 : Int32) then
      f_X7_shattered_22 F x0 x1 x2 u
    else
      (rx_ck u x0 3).bind fun _ =>
      (f_X7_isSet F x0 x2 u).bind fun v2 =>
      if v2.1 = 0 then
        some ((-1 : Int32), v2.2)
      else
        f_X7_shattered_22 F x0 x1 x2 v2.2
def f_X7_shattered (F : Nat × Nat) (x0 : Nat) (x1 : Int32) (x2 : Int32) (u : Option rx_H) : Option (Int32 × Option rx_H) := f_X7_shattered_0 F x0 x1 x2 u
def c_X7_shattered {α : Type} (F : Nat × Nat) (as : List Value) (u : Option rx_H) (κ : rx_K α) : Option α := match as with
  | [.ref a0, .int a1, .int a2] => (f_X7_shattered F a0 a1 a2 u).bind fun r => κ (some (.int r.1)) r.2
  | _ => none
noncomputable def C_X7_shattered {α : Type} (F : Nat × Nat) : rx_Cl α := fun j as u κ => Bool.rec (motive := fun _ => Option α) (Bool.rec (motive := fun _ => Option α) (Bool.rec (motive := fun _ => Option α) (Bool.rec (motive := fun _ => Option α) (none) (c_X7_lacks F as u κ) (Nat.beq j 179)) (c_X7_isShattered F as u κ) (Nat.beq j 175)) (c_X7_isSet F as u κ) (Nat.beq j 174)) (c_X7_isPlace F as u κ) (Nat.beq j 173)
def t_X7_shattered : List rx_E := [
  (0, .iload_n 1, 1, 0, 0, 0, 0, 0, []),
  (1, .invokestatic 62, 3, 173, 1, 803, 0, 0, []),
  (4, .ifCond .eq 16, 3, 20, 0, 0, 0, 0, []),
  (7, .iload_n 2, 1, 0, 0, 0, 0, 0, []),
  (8, .iconst (-1), 1, 0, 0, 0, (-1), 0, []),
  (9, .if_icmp .eq 13, 3, 22, 0, 0, 0, 0, []),
  (12, .aload_n 0, 1, 0, 0, 0, 0, 0, []),
  (13, .iload_n 2, 1, 0, 0, 0, 0, 0, []),
  (14, .invokevirtual 96, 3, 174, 302, 832, 0, 0, []),
  (17, .ifCond .ne 5, 3, 22, 0, 0, 0, 0, []),
  (20, .iconst (-1), 1, 0, 0, 0, (-1), 0, []),
  (21, .ireturn, 1, 0, 0, 0, 0, 0, []),
  (22, .aload_n 0, 1, 0, 0, 0, 0, 0, []),
  (23, .iload_n 1, 1, 0, 0, 0, 0, 0, []),
  (24, .invokevirtual 74, 3, 179, 302, 824, 0, 0, []),
  (27, .ifCond .eq 9, 3, 36, 0, 0, 0, 0, []),
  (30, .aload_n 0, 1, 0, 0, 0, 0, 0, []),
  (31, .iload_n 1, 1, 0, 0, 0, 0, 0, []),
  (32, .invokevirtual 74, 3, 179, 302, 824, 0, 0, []),
  (35, .ireturn, 1, 0, 0, 0, 0, 0, []),
  (36, .iconst 0, 1, 0, 0, 0, 0, 0, []),
  (37, .istore_n 3, 1, 0, 0, 0, 0, 0, []),
  (38, .iconst 0, 1, 0, 0, 0, 0, 0, []),
  (39, .istore 4, 2, 0, 0, 0, 0, 0, []),
  (41, .iload 4, 2, 0, 0, 0, 0, 0, []),
  (43, .aload_n 0, 1, 0, 0, 0, 0, 0, []),
  (44, .getfield 51, 3, 3, 8, 755, 0, 0, []),
  (47, .if_icmp .ge 43, 3, 90, 0, 0, 0, 0, []),
  (50, .iload_n 3, 1, 0, 0, 0, 0, 0, []),
  (51, .iload_n 2, 1, 0, 0, 0, 0, 0, []),
  (52, .iconst (-1), 1, 0, 0, 0, (-1), 0, []),
  (53, .if_icmp .eq 9, 3, 62, 0, 0, 0, 0, []),
  (56, .iload 4, 2, 0, 0, 0, 0, 0, []),
  (58, .iload_n 2, 1, 0, 0, 0, 0, 0, []),
  (59, .if_icmp .ne 22, 3, 81, 0, 0, 0, 0, []),
  (62, .aload_n 0, 1, 0, 0, 0, 0, 0, []),
  (63, .aload_n 0, 1, 0, 0, 0, 0, 0, []),
  (64, .getfield 20, 3, 3, 22, 758, 0, 0, []),
  (67, .iload_n 1, 1, 0, 0, 0, 0, 0, []),
  (68, .laload, 1, 0, 0, 0, 0, 0, []),
  (69, .iload 4, 2, 0, 0, 0, 0, 0, []),
  (71, .invokevirtual 196, 3, 175, 303, 1092, 0, 0, []),
  (74, .ifCond .eq 7, 3, 81, 0, 0, 0, 0, []),
  (77, .iconst 1, 1, 0, 0, 0, 1, 0, []),
  (78, .goto 4, 3, 82, 0, 0, 0, 0, []),
  (81, .iconst 0, 1, 0, 0, 0, 0, 0, []),
  (82, .iadd, 1, 0, 0, 0, 0, 0, []),
  (83, .istore_n 3, 1, 0, 0, 0, 0, 0, []),
  (84, .iinc 4 1, 3, 0, 0, 0, 1, 0, []),
  (87, .goto (-46), 3, 41, 0, 0, 0, 0, []),
  (90, .iload_n 3, 1, 0, 0, 0, 0, 0, []),
  (91, .ireturn, 1, 0, 0, 0, 0, 0, [])]
def n_X7_shattered_22 (F : Nat × Nat) (ls : rx_L) (st : List Value) (u : Option rx_H) : Option (Int32 × Option rx_H) := match ls, st, u with
  | [some (.ref x0), some (.int x1), some (.int x2), _, _], [], u => f_X7_shattered_22 F x0 x1 x2 u
  | _, _, _ => none
def n_X7_shattered_41 (k41 : Nat → Int32 → Int32 → Int32 → Int32 → Option rx_H → Option (Int32 × Option rx_H)) (ls : rx_L) (st : List Value) (u : Option rx_H) : Option (Int32 × Option rx_H) := match ls, st, u with
  | [some (.ref x0), some (.int x1), some (.int x2), some (.int x3), some (.int x4)], [], u => k41 x0 x1 x2 x3 x4 u
  | _, _, _ => none
def n_X7_shattered_62 (F : Nat × Nat) (k41 : Nat → Int32 → Int32 → Int32 → Int32 → Option rx_H → Option (Int32 × Option rx_H)) (ls : rx_L) (st : List Value) (u : Option rx_H) : Option (Int32 × Option rx_H) := match ls, st, u with
  | [some (.ref x0), some (.int x1), some (.int x2), _, some (.int x4)], [.int s0], u => f_X7_shattered_62 F k41 x0 x1 x2 x4 s0 u
  | _, _, _ => none
noncomputable def kk_X7_shattered_62 (F : Nat × Nat) (k41 : Nat → Int32 → Int32 → Int32 → Int32 → Option rx_H → Option (Int32 × Option rx_H)) : Nat → rx_L → List Value → Option rx_H → Option (Int32 × Option rx_H) := fun t ls st u => Bool.rec (motive := fun _ => Option (Int32 × Option rx_H)) (none) (n_X7_shattered_41 k41 ls st u) (Nat.beq t 41)
noncomputable def kk_X7_shattered_41 (F : Nat × Nat) (k41 : Nat → Int32 → Int32 → Int32 → Int32 → Option rx_H → Option (Int32 × Option rx_H)) : Nat → rx_L → List Value → Option rx_H → Option (Int32 × Option rx_H) := fun t ls st u => Bool.rec (motive := fun _ => Option (Int32 × Option rx_H)) (Bool.rec (motive := fun _ => Option (Int32 × Option rx_H)) (none) (n_X7_shattered_62 F k41 ls st u) (Nat.beq t 62)) (n_X7_shattered_41 k41 ls st u) (Nat.beq t 41)
noncomputable def kk_X7_shattered_22 (F : Nat × Nat) : Nat → rx_L → List Value → Option rx_H → Option (Int32 × Option rx_H) := fun t ls st u => Bool.rec (motive := fun _ => Option (Int32 × Option rx_H)) (none) (n_X7_shattered_41 (f_X7_shattered_41 F F.1) ls st u) (Nat.beq t 41)
noncomputable def kk_X7_shattered_0 (F : Nat × Nat) : Nat → rx_L → List Value → Option rx_H → Option (Int32 × Option rx_H) := fun t ls st u => Bool.rec (motive := fun _ => Option (Int32 × Option rx_H)) (none) (n_X7_shattered_22 F ls st u) (Nat.beq t 22)
set_option maxRecDepth 100000 in
theorem g_X7_shattered_62 (F : Nat × Nat) (k41 : Nat → Int32 → Int32 → Int32 → Int32 → Option rx_H → Option (Int32 × Option rx_H)) (x0 : Nat) (x1 : Int32) (x2 : Int32) (x4 : Int32) (s0 : Int32) (u : Option rx_H) : f_X7_shattered_62 F k41 x0 x1 x2 x4 s0 u = rx_node (C_X7_shattered F) rx_hI t_X7_shattered [22, 41, 62] (kk_X7_shattered_62 F k41) 55 62 [some (.ref x0), some (.int x1), some (.int x2), none, some (.int x4)] [.int s0] u := rfl
set_option maxRecDepth 100000 in
theorem g_X7_shattered_41 (F : Nat × Nat) (f : Nat) (x0 : Nat) (x1 : Int32) (x2 : Int32) (x3 : Int32) (x4 : Int32) (u : Option rx_H) : f_X7_shattered_41 F (f + 1) x0 x1 x2 x3 x4 u = rx_node (C_X7_shattered F) rx_hI t_X7_shattered [22, 41, 62] (kk_X7_shattered_41 F (f_X7_shattered_41 F f)) 55 41 [some (.ref x0), some (.int x1), some (.int x2), some (.int x3), some (.int x4)] [] u := rfl
set_option maxRecDepth 100000 in
theorem g_X7_shattered_22 (F : Nat × Nat) (x0 : Nat) (x1 : Int32) (x2 : Int32) (u : Option rx_H) : f_X7_shattered_22 F x0 x1 x2 u = rx_node (C_X7_shattered F) rx_hI t_X7_shattered [22, 41, 62] (kk_X7_shattered_22 F) 55 22 [some (.ref x0), some (.int x1), some (.int x2), none, none] [] u := rfl
set_option maxRecDepth 100000 in
theorem g_X7_shattered_0 (F : Nat × Nat) (x0 : Nat) (x1 : Int32) (x2 : Int32) (u : Option rx_H) : f_X7_shattered_0 F x0 x1 x2 u = rx_node (C_X7_shattered F) rx_hI t_X7_shattered [22, 41, 62] (kk_X7_shattered_0 F) 55 0 [some (.ref x0), some (.int x1), some (.int x2), none, none] [] u := rfl
def f_X7_mostOf_62 (F : Nat × Nat) (self : Nat → Int64 → Int32 → Int32 → Option rx_H → Option (Int32 × Option rx_H)) : Nat → Nat → Int32 → Int32 → Int32 → Int64 → Int64 → Int32 → Option rx_H → Option (Int32 × Option rx_H)
  | 0, _, _, _, _, _, _, _, _ => none
  | f + 1, x0, x3, x4, x5, x6, x8, x10, u =>
    (rx_gI u x0 3 2).bind fun v1 =>
    if x10 < v1 then
      (f_X7_has F x6 x10).bind fun v2 =>
      if v2 = 0 then
        (f_X7_mostOf_62 F self f) x0 x3 x4 x5 x6 x8 (x10 + 1) u
      else
        (f_X7_ones F (x5 &&& x10)).bind fun v3 =>
        if v3 < x3 then
          (f_X7_mostOf_62 F self f) x0 x3 x4 x5 x6 x8 (x10 + 1) u
        else
          (f_X7_mostOf_62 F self f) x0 x3 x4 x5 x6 (x8 ||| ((1 : Int64) <<< (Int32.toInt64 x10 &&& 63))) (x10 + 1) u
    else
      (rx_ck u x0 3).bind fun _ =>
      (self x0 x8 x3 (x4 - (1 : Int32)) u).bind fun v4 =>
      if x8 = x6 then
        some ((1 : Int32) + v4.1, v4.2)
      else
        if (1 : Int32) + v4.1 < x4 then
          (rx_ck v4.2 x0 3).bind fun _ =>
          (self x0 x6 x3 x4 v4.2).bind fun v5 =>
          if v5.1 < (1 : Int32) + v4.1 then
            some ((1 : Int32) + v4.1, v5.2)
          else
            some (v5.1, v5.2)
        else
          some ((1 : Int32) + v4.1, v4.2)
def f_X7_mostOf_26 (F : Nat × Nat) (self : Nat → Int64 → Int32 → Int32 → Option rx_H → Option (Int32 × Option rx_H)) : Nat → Nat → Int64 → Int32 → Int32 → Int32 → Option rx_H → Option (Int32 × Option rx_H)
  | 0, _, _, _, _, _, _ => none
  | f + 1, x0, x1, x3, x4, x5, u =>
    (f_X7_has F x1 x5).bind fun v1 =>
    if v1 = 0 then
      (f_X7_mostOf_26 F self f) x0 x1 x3 x4 (x5 + 1) u
    else
      f_X7_mostOf_62 F self F.1 x0 x3 x4 x5 (x1 &&& (((1 : Int64) <<< (Int32.toInt64 x5 &&& 63)) ^^^ (-1 : Int64))) (0 : Int64) (x5 + (1 : Int32)) u
def f_X7_mostOf_0 (F : Nat × Nat) (self : Nat → Int64 → Int32 → Int32 → Option rx_H → Option (Int32 × Option rx_H)) (x0 : Nat) (x1 : Int64) (x3 : Int32) (x4 : Int32) (u : Option rx_H) : Option (Int32 × Option rx_H) :=
  if x1 = (0 : Int64) then
    some ((0 : Int32), u)
  else
    if x4 = 0 then
      some ((0 : Int32), u)
    else
      (f_X7_many F x1).bind fun v1 =>
      if (1 : Int32) < v1 then
        f_X7_mostOf_26 F self F.1 x0 x1 x3 x4 (0 : Int32) u
      else
        some ((1 : Int32), u)
def f_X7_mostOf (F : Nat × Nat) : Nat → Nat → Int64 → Int32 → Int32 → Option rx_H → Option (Int32 × Option rx_H)
  | 0, _, _, _, _, _ => none
  | d + 1, x0, x1, x3, x4, u => f_X7_mostOf_0 F (f_X7_mostOf F d) x0 x1 x3 x4 u
def c_X7_mostOf {α : Type} (F : Nat × Nat) (d : Nat) (as : List Value) (u : Option rx_H) (κ : rx_K α) : Option α := match as with
  | [.ref a0, .long a1, .int a2, .int a3] => (f_X7_mostOf F d a0 a1 a2 a3 u).bind fun r => κ (some (.int r.1)) r.2
  | _ => none
noncomputable def C_X7_mostOf {α : Type} (F : Nat × Nat) (d : Nat) : rx_Cl α := fun j as u κ => Bool.rec (motive := fun _ => Option α) (Bool.rec (motive := fun _ => Option α) (Bool.rec (motive := fun _ => Option α) (Bool.rec (motive := fun _ => Option α) (none) (c_X7_ones F as u κ) (Nat.beq j 190)) (c_X7_mostOf F d as u κ) (Nat.beq j 187)) (c_X7_many F as u κ) (Nat.beq j 184)) (c_X7_has F as u κ) (Nat.beq j 163)
def t_X7_mostOf : List rx_E := [
  (0, .lload_n 1, 1, 0, 0, 0, 0, 0, []),
  (1, .lconst 0, 1, 0, 0, 0, 0, 0, []),
  (2, .lcmp, 1, 0, 0, 0, 0, 0, []),
  (3, .ifCond .eq 8, 3, 11, 0, 0, 0, 0, []),
  (6, .iload 4, 2, 0, 0, 0, 0, 0, []),
  (8, .ifCond .ne 5, 3, 13, 0, 0, 0, 0, []),
  (11, .iconst 0, 1, 0, 0, 0, 0, 0, []),
  (12, .ireturn, 1, 0, 0, 0, 0, 0, []),
  (13, .lload_n 1, 1, 0, 0, 0, 0, 0, []),
  (14, .invokestatic 58, 3, 184, 1, 817, 0, 0, []),
  (17, .iconst 1, 1, 0, 0, 0, 1, 0, []),
  (18, .if_icmp .gt 5, 3, 23, 0, 0, 0, 0, []),
  (21, .iconst 1, 1, 0, 0, 0, 1, 0, []),
  (22, .ireturn, 1, 0, 0, 0, 0, 0, []),
  (23, .iconst 0, 1, 0, 0, 0, 0, 0, []),
  (24, .istore 5, 2, 0, 0, 0, 0, 0, []),
  (26, .lload_n 1, 1, 0, 0, 0, 0, 0, []),
  (27, .iload 5, 2, 0, 0, 0, 0, 0, []),
  (29, .invokestatic 78, 3, 163, 2, 850, 0, 0, []),
  (32, .ifCond .ne 9, 3, 41, 0, 0, 0, 0, []),
  (35, .iinc 5 1, 3, 0, 0, 0, 1, 0, []),
  (38, .goto (-12), 3, 26, 0, 0, 0, 0, []),
  (41, .lload_n 1, 1, 0, 0, 0, 0, 0, []),
  (42, .lconst 1, 1, 0, 0, 0, 0, 1, []),
  (43, .iload 5, 2, 0, 0, 0, 0, 0, []),
  (45, .lshl, 1, 0, 0, 0, 0, 0, []),
  (46, .ldc2_w 102, 3, 0, 0, 860, 0, (-1), []),
  (49, .lxor, 1, 0, 0, 0, 0, 0, []),
  (50, .land, 1, 0, 0, 0, 0, 0, []),
  (51, .lstore 6, 2, 0, 0, 0, 0, 0, []),
  (53, .lconst 0, 1, 0, 0, 0, 0, 0, []),
  (54, .lstore 8, 2, 0, 0, 0, 0, 0, []),
  (56, .iload 5, 2, 0, 0, 0, 0, 0, []),
  (58, .iconst 1, 1, 0, 0, 0, 1, 0, []),
  (59, .iadd, 1, 0, 0, 0, 0, 0, []),
  (60, .istore 10, 2, 0, 0, 0, 0, 0, []),
  (62, .iload 10, 2, 0, 0, 0, 0, 0, []),
  (64, .aload_n 0, 1, 0, 0, 0, 0, 0, []),
  (65, .getfield 51, 3, 3, 8, 755, 0, 0, []),
  (68, .if_icmp .ge 40, 3, 108, 0, 0, 0, 0, []),
  (71, .lload 6, 2, 0, 0, 0, 0, 0, []),
  (73, .iload 10, 2, 0, 0, 0, 0, 0, []),
  (75, .invokestatic 78, 3, 163, 2, 850, 0, 0, []),
  (78, .ifCond .eq 24, 3, 102, 0, 0, 0, 0, []),
  (81, .iload 5, 2, 0, 0, 0, 0, 0, []),
  (83, .iload 10, 2, 0, 0, 0, 0, 0, []),
  (85, .iand, 1, 0, 0, 0, 0, 0, []),
  (86, .invokestatic 82, 3, 190, 1, 844, 0, 0, []),
  (89, .iload_n 3, 1, 0, 0, 0, 0, 0, []),
  (90, .if_icmp .lt 12, 3, 102, 0, 0, 0, 0, []),
  (93, .lload 8, 2, 0, 0, 0, 0, 0, []),
  (95, .lconst 1, 1, 0, 0, 0, 0, 1, []),
  (96, .iload 10, 2, 0, 0, 0, 0, 0, []),
  (98, .lshl, 1, 0, 0, 0, 0, 0, []),
  (99, .lor, 1, 0, 0, 0, 0, 0, []),
  (100, .lstore 8, 2, 0, 0, 0, 0, 0, []),
  (102, .iinc 10 1, 3, 0, 0, 0, 1, 0, []),
  (105, .goto (-43), 3, 62, 0, 0, 0, 0, []),
  (108, .iconst 1, 1, 0, 0, 0, 1, 0, []),
  (109, .aload_n 0, 1, 0, 0, 0, 0, 0, []),
  (110, .lload 8, 2, 0, 0, 0, 0, 0, []),
  (112, .iload_n 3, 1, 0, 0, 0, 0, 0, []),
  (113, .iload 4, 2, 0, 0, 0, 0, 0, []),
  (115, .iconst 1, 1, 0, 0, 0, 1, 0, []),
  (116, .isub, 1, 0, 0, 0, 0, 0, []),
  (117, .invokevirtual 199, 3, 187, 304, 1100, 0, 0, []),
  (120, .iadd, 1, 0, 0, 0, 0, 0, []),
  (121, .istore 10, 2, 0, 0, 0, 0, 0, []),
  (123, .lload 8, 2, 0, 0, 0, 0, 0, []),
  (125, .lload 6, 2, 0, 0, 0, 0, 0, []),
  (127, .lcmp, 1, 0, 0, 0, 0, 0, []),
  (128, .ifCond .eq 10, 3, 138, 0, 0, 0, 0, []),
  (131, .iload 10, 2, 0, 0, 0, 0, 0, []),
  (133, .iload 4, 2, 0, 0, 0, 0, 0, []),
  (135, .if_icmp .lt 6, 3, 141, 0, 0, 0, 0, []),
  (138, .iload 10, 2, 0, 0, 0, 0, 0, []),
  (140, .ireturn, 1, 0, 0, 0, 0, 0, []),
  (141, .aload_n 0, 1, 0, 0, 0, 0, 0, []),
  (142, .lload 6, 2, 0, 0, 0, 0, 0, []),
  (144, .iload_n 3, 1, 0, 0, 0, 0, 0, []),
  (145, .iload 4, 2, 0, 0, 0, 0, 0, []),
  (147, .invokevirtual 199, 3, 187, 304, 1100, 0, 0, []),
  (150, .istore 11, 2, 0, 0, 0, 0, 0, []),
  (152, .iload 10, 2, 0, 0, 0, 0, 0, []),
  (154, .iload 11, 2, 0, 0, 0, 0, 0, []),
  (156, .if_icmp .le 8, 3, 164, 0, 0, 0, 0, []),
  (159, .iload 10, 2, 0, 0, 0, 0, 0, []),
  (161, .goto 5, 3, 166, 0, 0, 0, 0, []),
  (164, .iload 11, 2, 0, 0, 0, 0, 0, []),
  (166, .ireturn, 1, 0, 0, 0, 0, 0, [])]
def n_X7_mostOf_26 (k26 : Nat → Int64 → Int32 → Int32 → Int32 → Option rx_H → Option (Int32 × Option rx_H)) (ls : rx_L) (st : List Value) (u : Option rx_H) : Option (Int32 × Option rx_H) := match ls, st, u with
  | [some (.ref x0), some (.long x1), _, some (.int x3), some (.int x4), some (.int x5), _, _, _, _, _, _], [], u => k26 x0 x1 x3 x4 x5 u
  | _, _, _ => none
def n_X7_mostOf_62 (k62 : Nat → Int32 → Int32 → Int32 → Int64 → Int64 → Int32 → Option rx_H → Option (Int32 × Option rx_H)) (ls : rx_L) (st : List Value) (u : Option rx_H) : Option (Int32 × Option rx_H) := match ls, st, u with
  | [some (.ref x0), _, _, some (.int x3), some (.int x4), some (.int x5), some (.long x6), _, some (.long x8), _, some (.int x10), _], [], u => k62 x0 x3 x4 x5 x6 x8 x10 u
  | _, _, _ => none
noncomputable def kk_X7_mostOf_62 (F : Nat × Nat) (self : Nat → Int64 → Int32 → Int32 → Option rx_H → Option (Int32 × Option rx_H)) (k62 : Nat → Int32 → Int32 → Int32 → Int64 → Int64 → Int32 → Option rx_H → Option (Int32 × Option rx_H)) : Nat → rx_L → List Value → Option rx_H → Option (Int32 × Option rx_H) := fun t ls st u => Bool.rec (motive := fun _ => Option (Int32 × Option rx_H)) (none) (n_X7_mostOf_62 k62 ls st u) (Nat.beq t 62)
noncomputable def kk_X7_mostOf_26 (F : Nat × Nat) (self : Nat → Int64 → Int32 → Int32 → Option rx_H → Option (Int32 × Option rx_H)) (k26 : Nat → Int64 → Int32 → Int32 → Int32 → Option rx_H → Option (Int32 × Option rx_H)) : Nat → rx_L → List Value → Option rx_H → Option (Int32 × Option rx_H) := fun t ls st u => Bool.rec (motive := fun _ => Option (Int32 × Option rx_H)) (Bool.rec (motive := fun _ => Option (Int32 × Option rx_H)) (none) (n_X7_mostOf_62 (f_X7_mostOf_62 F self F.1) ls st u) (Nat.beq t 62)) (n_X7_mostOf_26 k26 ls st u) (Nat.beq t 26)
noncomputable def kk_X7_mostOf_0 (F : Nat × Nat) (self : Nat → Int64 → Int32 → Int32 → Option rx_H → Option (Int32 × Option rx_H)) : Nat → rx_L → List Value → Option rx_H → Option (Int32 × Option rx_H) := fun t ls st u => Bool.rec (motive := fun _ => Option (Int32 × Option rx_H)) (none) (n_X7_mostOf_26 (f_X7_mostOf_26 F self F.1) ls st u) (Nat.beq t 26)
set_option maxRecDepth 100000 in
theorem g_X7_mostOf_62 (F : Nat × Nat) (d : Nat) (f : Nat) (x0 : Nat) (x3 : Int32) (x4 : Int32) (x5 : Int32) (x6 : Int64) (x8 : Int64) (x10 : Int32) (u : Option rx_H) : f_X7_mostOf_62 F (f_X7_mostOf F d) (f + 1) x0 x3 x4 x5 x6 x8 x10 u = rx_node (C_X7_mostOf F d) rx_hI t_X7_mostOf [26, 62] (kk_X7_mostOf_62 F (f_X7_mostOf F d) (f_X7_mostOf_62 F (f_X7_mostOf F d) f)) 93 62 [some (.ref x0), none, none, some (.int x3), some (.int x4), some (.int x5), some (.long x6), none, some (.long x8), none, some (.int x10), none] [] u := rfl
set_option maxRecDepth 100000 in
theorem g_X7_mostOf_26 (F : Nat × Nat) (d : Nat) (f : Nat) (x0 : Nat) (x1 : Int64) (x3 : Int32) (x4 : Int32) (x5 : Int32) (u : Option rx_H) : f_X7_mostOf_26 F (f_X7_mostOf F d) (f + 1) x0 x1 x3 x4 x5 u = rx_node (C_X7_mostOf F d) rx_hI t_X7_mostOf [26, 62] (kk_X7_mostOf_26 F (f_X7_mostOf F d) (f_X7_mostOf_26 F (f_X7_mostOf F d) f)) 93 26 [some (.ref x0), some (.long x1), none, some (.int x3), some (.int x4), some (.int x5), none, none, none, none, none, none] [] u := rfl
set_option maxRecDepth 100000 in
theorem g_X7_mostOf_0 (F : Nat × Nat) (d : Nat) (x0 : Nat) (x1 : Int64) (x3 : Int32) (x4 : Int32) (u : Option rx_H) : f_X7_mostOf_0 F (f_X7_mostOf F d) x0 x1 x3 x4 u = rx_node (C_X7_mostOf F d) rx_hI t_X7_mostOf [26, 62] (kk_X7_mostOf_0 F (f_X7_mostOf F d)) 93 0 [some (.ref x0), some (.long x1), none, some (.int x3), some (.int x4), none, none, none, none, none, none, none] [] u := rfl
def f_X7_greatest_122 (F : Nat × Nat) (k86 : Nat → Int32 → Int32 → Int32 → Int64 → Int32 → Int64 → Int32 → Option rx_H → Option (Int32 × Option rx_H)) : Nat → Nat → Int32 → Int32 → Int32 → Int64 → Int32 → Int64 → Int32 → Int64 → Int32 → Option rx_H → Option (Int32 × Option rx_H)
  | 0, _, _, _, _, _, _, _, _, _, _, _ => none
  | f + 1, x0, x1, x2, x3, x4, x6, x7, x9, x10, x12, u =>
    (rx_gI u x0 3 2).bind fun v1 =>
    if x12 < v1 then
      (f_X7_has F x4 x12).bind fun v2 =>
      if v2 = 0 then
        (f_X7_greatest_122 F k86 f) x0 x1 x2 x3 x4 x6 x7 x9 x10 (x12 + 1) u
      else
        (f_X7_ones F (x9 &&& x12)).bind fun v3 =>
        if v3 < x2 then
          (f_X7_greatest_122 F k86 f) x0 x1 x2 x3 x4 x6 x7 x9 x10 (x12 + 1) u
        else
          (f_X7_greatest_122 F k86 f) x0 x1 x2 x3 x4 x6 x7 x9 (x10 ||| ((1 : Int64) <<< (Int32.toInt64 x12 &&& 63))) (x12 + 1) u
    else
      (rx_ck u x0 3).bind fun _ =>
      (f_X7_mostOf F F.2 x0 x10 x2 x6 u).bind fun v4 =>
      if (1 : Int32) + v4.1 < x6 then
        k86 x0 x1 x2 x3 (x4 &&& (((1 : Int64) <<< (Int32.toInt64 x9 &&& 63)) ^^^ (-1 : Int64))) x6 x7 (x9 + 1) v4.2
      else
        k86 x0 x1 x2 x3 x10 (x6 + (-1)) (x7 ||| ((1 : Int64) <<< (Int32.toInt64 x9 &&& 63))) (x9 + 1) v4.2
def f_X7_greatest_222 (F : Nat × Nat) (x0 : Nat) (x1 : Int32) (x3 : Int32) (x7 : Int64) (u : Option rx_H) : Option (Int32 × Option rx_H) :=
  (rx_ck u x0 3).bind fun _ =>
  (f_X7_holdsNow F x0 x3 (4 : Int32) x1 x7 u).bind fun v1 =>
  some (v1.1, v1.2)
def f_X7_greatest_86 (F : Nat × Nat) : Nat → Nat → Int32 → Int32 → Int32 → Int64 → Int32 → Int64 → Int32 → Option rx_H → Option (Int32 × Option rx_H)
  | 0, _, _, _, _, _, _, _, _, _ => none
  | f + 1, x0, x1, x2, x3, x4, x6, x7, x9, u =>
    (rx_gI u x0 3 2).bind fun v1 =>
    if x9 < v1 then
      if 0 < x6 then
        (f_X7_has F x4 x9).bind fun v2 =>
        if v2 = 0 then
          (f_X7_greatest_86 F f) x0 x1 x2 x3 x4 x6 x7 (x9 + 1) u
        else
          f_X7_greatest_122 F (f_X7_greatest_86 F f) F.1 x0 x1 x2 x3 x4 x6 x7 x9 (0 : Int64) (x9 + (1 : Int32)) u
      else
        f_X7_greatest_222 F x0 x1 x3 x7 u
    else
      f_X7_greatest_222 F x0 x1 x3 x7 u
def f_X7_greatest_36 (F : Nat × Nat) : Nat → Nat → Int32 → Int32 → Int32 → Int64 → Int32 → Option rx_H → Option (Int32 × Option rx_H)
  | 0, _, _, _, _, _, _, _ => none
  | f + 1, x0, x1, x2, x3, x4, x6, u =>
    (rx_gI u x0 3 2).bind fun v1 =>
    if x6 < v1 then
      (f_X7_ones F x6).bind fun v2 =>
      if v2 = x1 then
        (f_X7_greatest_36 F f) x0 x1 x2 x3 (x4 ||| ((1 : Int64) <<< (Int32.toInt64 x6 &&& 63))) (x6 + 1) u
      else
        (f_X7_greatest_36 F f) x0 x1 x2 x3 x4 (x6 + 1) u
    else
      (rx_ck u x0 3).bind fun _ =>
      (f_X7_mostOf F F.2 x0 x4 x2 (64 : Int32) u).bind fun v3 =>
      f_X7_greatest_86 F F.1 x0 x1 x2 x3 x4 v3.1 (0 : Int64) (0 : Int32) v3.2
def f_X7_greatest_0 (F : Nat × Nat) (x0 : Nat) (x1 : Int32) (x2 : Int32) (x3 : Int32) (u : Option rx_H) : Option (Int32 × Option rx_H) :=
  (rx_gI u x0 3 1).bind fun v1 =>
  (f_X7_isIn F x1 (1 : Int32) v1).bind fun v2 =>
  if v2 = 0 then
    some ((-1 : Int32), u)
  else
    (f_X7_isIn F x2 (1 : Int32) x1).bind fun v3 =>
    if v3 = 0 then
      some ((-1 : Int32), u)
    else
      (f_X7_isPlace F x3).bind fun v4 =>
      if v4 = 0 then
        some ((-1 : Int32), u)
      else
        f_X7_greatest_36 F F.1 x0 x1 x2 x3 (0 : Int64) (0 : Int32) u
def f_X7_greatest (F : Nat × Nat) (x0 : Nat) (x1 : Int32) (x2 : Int32) (x3 : Int32) (u : Option rx_H) : Option (Int32 × Option rx_H) := f_X7_greatest_0 F x0 x1 x2 x3 u
def c_X7_greatest {α : Type} (F : Nat × Nat) (as : List Value) (u : Option rx_H) (κ : rx_K α) : Option α := match as with
  | [.ref a0, .int a1, .int a2, .int a3] => (f_X7_greatest F a0 a1 a2 a3 u).bind fun r => κ (some (.int r.1)) r.2
  | _ => none
noncomputable def C_X7_greatest {α : Type} (F : Nat × Nat) : rx_Cl α := fun j as u κ => Bool.rec (motive := fun _ => Option α) (Bool.rec (motive := fun _ => Option α) (Bool.rec (motive := fun _ => Option α) (Bool.rec (motive := fun _ => Option α) (Bool.rec (motive := fun _ => Option α) (Bool.rec (motive := fun _ => Option α) (none) (c_X7_ones F as u κ) (Nat.beq j 190)) (c_X7_mostOf F F.2 as u κ) (Nat.beq j 187)) (c_X7_isPlace F as u κ) (Nat.beq j 173)) (c_X7_isIn F as u κ) (Nat.beq j 171)) (c_X7_holdsNow F as u κ) (Nat.beq j 168)) (c_X7_has F as u κ) (Nat.beq j 163)
def t_X7_greatest : List rx_E := [
  (0, .iload_n 1, 1, 0, 0, 0, 0, 0, []),
  (1, .iconst 1, 1, 0, 0, 0, 1, 0, []),
  (2, .aload_n 0, 1, 0, 0, 0, 0, 0, []),
  (3, .getfield 48, 3, 3, 4, 754, 0, 0, []),
  (6, .invokestatic 54, 3, 171, 3, 806, 0, 0, []),
  (9, .ifCond .eq 19, 3, 28, 0, 0, 0, 0, []),
  (12, .iload_n 2, 1, 0, 0, 0, 0, 0, []),
  (13, .iconst 1, 1, 0, 0, 0, 1, 0, []),
  (14, .iload_n 1, 1, 0, 0, 0, 0, 0, []),
  (15, .invokestatic 54, 3, 171, 3, 806, 0, 0, []),
  (18, .ifCond .eq 10, 3, 28, 0, 0, 0, 0, []),
  (21, .iload_n 3, 1, 0, 0, 0, 0, 0, []),
  (22, .invokestatic 62, 3, 173, 1, 803, 0, 0, []),
  (25, .ifCond .ne 5, 3, 30, 0, 0, 0, 0, []),
  (28, .iconst (-1), 1, 0, 0, 0, (-1), 0, []),
  (29, .ireturn, 1, 0, 0, 0, 0, 0, []),
  (30, .lconst 0, 1, 0, 0, 0, 0, 0, []),
  (31, .lstore 4, 2, 0, 0, 0, 0, 0, []),
  (33, .iconst 0, 1, 0, 0, 0, 0, 0, []),
  (34, .istore 6, 2, 0, 0, 0, 0, 0, []),
  (36, .iload 6, 2, 0, 0, 0, 0, 0, []),
  (38, .aload_n 0, 1, 0, 0, 0, 0, 0, []),
  (39, .getfield 51, 3, 3, 8, 755, 0, 0, []),
  (42, .if_icmp .ge 27, 3, 69, 0, 0, 0, 0, []),
  (45, .iload 6, 2, 0, 0, 0, 0, 0, []),
  (47, .invokestatic 82, 3, 190, 1, 844, 0, 0, []),
  (50, .iload_n 1, 1, 0, 0, 0, 0, 0, []),
  (51, .if_icmp .ne 12, 3, 63, 0, 0, 0, 0, []),
  (54, .lload 4, 2, 0, 0, 0, 0, 0, []),
  (56, .lconst 1, 1, 0, 0, 0, 0, 1, []),
  (57, .iload 6, 2, 0, 0, 0, 0, 0, []),
  (59, .lshl, 1, 0, 0, 0, 0, 0, []),
  (60, .lor, 1, 0, 0, 0, 0, 0, []),
  (61, .lstore 4, 2, 0, 0, 0, 0, 0, []),
  (63, .iinc 6 1, 3, 0, 0, 0, 1, 0, []),
  (66, .goto (-30), 3, 36, 0, 0, 0, 0, []),
  (69, .aload_n 0, 1, 0, 0, 0, 0, 0, []),
  (70, .lload 4, 2, 0, 0, 0, 0, 0, []),
  (72, .iload_n 2, 1, 0, 0, 0, 0, 0, []),
  (73, .bipush 64, 2, 0, 0, 0, 64, 0, []),
  (75, .invokevirtual 199, 3, 187, 304, 1100, 0, 0, []),
  (78, .istore 6, 2, 0, 0, 0, 0, 0, []),
  (80, .lconst 0, 1, 0, 0, 0, 0, 0, []),
  (81, .lstore 7, 2, 0, 0, 0, 0, 0, []),
  (83, .iconst 0, 1, 0, 0, 0, 0, 0, []),
  (84, .istore 9, 2, 0, 0, 0, 0, 0, []),
  (86, .iload 9, 2, 0, 0, 0, 0, 0, []),
  (88, .aload_n 0, 1, 0, 0, 0, 0, 0, []),
  (89, .getfield 51, 3, 3, 8, 755, 0, 0, []),
  (92, .if_icmp .ge 130, 3, 222, 0, 0, 0, 0, []),
  (95, .iload 6, 2, 0, 0, 0, 0, 0, []),
  (97, .ifCond .le 125, 3, 222, 0, 0, 0, 0, []),
  (100, .lload 4, 2, 0, 0, 0, 0, 0, []),
  (102, .iload 9, 2, 0, 0, 0, 0, 0, []),
  (104, .invokestatic 78, 3, 163, 2, 850, 0, 0, []),
  (107, .ifCond .ne 6, 3, 113, 0, 0, 0, 0, []),
  (110, .goto 106, 3, 216, 0, 0, 0, 0, []),
  (113, .lconst 0, 1, 0, 0, 0, 0, 0, []),
  (114, .lstore 10, 2, 0, 0, 0, 0, 0, []),
  (116, .iload 9, 2, 0, 0, 0, 0, 0, []),
  (118, .iconst 1, 1, 0, 0, 0, 1, 0, []),
  (119, .iadd, 1, 0, 0, 0, 0, 0, []),
  (120, .istore 12, 2, 0, 0, 0, 0, 0, []),
  (122, .iload 12, 2, 0, 0, 0, 0, 0, []),
  (124, .aload_n 0, 1, 0, 0, 0, 0, 0, []),
  (125, .getfield 51, 3, 3, 8, 755, 0, 0, []),
  (128, .if_icmp .ge 40, 3, 168, 0, 0, 0, 0, []),
  (131, .lload 4, 2, 0, 0, 0, 0, 0, []),
  (133, .iload 12, 2, 0, 0, 0, 0, 0, []),
  (135, .invokestatic 78, 3, 163, 2, 850, 0, 0, []),
  (138, .ifCond .eq 24, 3, 162, 0, 0, 0, 0, []),
  (141, .iload 9, 2, 0, 0, 0, 0, 0, []),
  (143, .iload 12, 2, 0, 0, 0, 0, 0, []),
  (145, .iand, 1, 0, 0, 0, 0, 0, []),
  (146, .invokestatic 82, 3, 190, 1, 844, 0, 0, []),
  (149, .iload_n 2, 1, 0, 0, 0, 0, 0, []),
  (150, .if_icmp .lt 12, 3, 162, 0, 0, 0, 0, []),
  (153, .lload 10, 2, 0, 0, 0, 0, 0, []),
  (155, .lconst 1, 1, 0, 0, 0, 0, 1, []),
  (156, .iload 12, 2, 0, 0, 0, 0, 0, []),
  (158, .lshl, 1, 0, 0, 0, 0, 0, []),
  (159, .lor, 1, 0, 0, 0, 0, 0, []),
  (160, .lstore 10, 2, 0, 0, 0, 0, 0, []),
  (162, .iinc 12 1, 3, 0, 0, 0, 1, 0, []),
  (165, .goto (-43), 3, 122, 0, 0, 0, 0, []),
  (168, .lload 4, 2, 0, 0, 0, 0, 0, []),
  (170, .lconst 1, 1, 0, 0, 0, 0, 1, []),
  (171, .iload 9, 2, 0, 0, 0, 0, 0, []),
  (173, .lshl, 1, 0, 0, 0, 0, 0, []),
  (174, .ldc2_w 102, 3, 0, 0, 860, 0, (-1), []),
  (177, .lxor, 1, 0, 0, 0, 0, 0, []),
  (178, .land, 1, 0, 0, 0, 0, 0, []),
  (179, .lstore 4, 2, 0, 0, 0, 0, 0, []),
  (181, .iconst 1, 1, 0, 0, 0, 1, 0, []),
  (182, .aload_n 0, 1, 0, 0, 0, 0, 0, []),
  (183, .lload 10, 2, 0, 0, 0, 0, 0, []),
  (185, .iload_n 2, 1, 0, 0, 0, 0, 0, []),
  (186, .iload 6, 2, 0, 0, 0, 0, 0, []),
  (188, .invokevirtual 199, 3, 187, 304, 1100, 0, 0, []),
  (191, .iadd, 1, 0, 0, 0, 0, 0, []),
  (192, .iload 6, 2, 0, 0, 0, 0, 0, []),
  (194, .if_icmp .ge 6, 3, 200, 0, 0, 0, 0, []),
  (197, .goto 19, 3, 216, 0, 0, 0, 0, []),
  (200, .lload 7, 2, 0, 0, 0, 0, 0, []),
  (202, .lconst 1, 1, 0, 0, 0, 0, 1, []),
  (203, .iload 9, 2, 0, 0, 0, 0, 0, []),
  (205, .lshl, 1, 0, 0, 0, 0, 0, []),
  (206, .lor, 1, 0, 0, 0, 0, 0, []),
  (207, .lstore 7, 2, 0, 0, 0, 0, 0, []),
  (209, .lload 10, 2, 0, 0, 0, 0, 0, []),
  (211, .lstore 4, 2, 0, 0, 0, 0, 0, []),
  (213, .iinc 6 (-1), 3, 0, 0, 0, (-1), 0, []),
  (216, .iinc 9 1, 3, 0, 0, 0, 1, 0, []),
  (219, .goto (-133), 3, 86, 0, 0, 0, 0, []),
  (222, .aload_n 0, 1, 0, 0, 0, 0, 0, []),
  (223, .iload_n 3, 1, 0, 0, 0, 0, 0, []),
  (224, .iconst 4, 1, 0, 0, 0, 4, 0, []),
  (225, .iload_n 1, 1, 0, 0, 0, 0, 0, []),
  (226, .lload 7, 2, 0, 0, 0, 0, 0, []),
  (228, .invokevirtual 70, 3, 168, 305, 813, 0, 0, []),
  (231, .ireturn, 1, 0, 0, 0, 0, 0, [])]
def n_X7_greatest_36 (k36 : Nat → Int32 → Int32 → Int32 → Int64 → Int32 → Option rx_H → Option (Int32 × Option rx_H)) (ls : rx_L) (st : List Value) (u : Option rx_H) : Option (Int32 × Option rx_H) := match ls, st, u with
  | [some (.ref x0), some (.int x1), some (.int x2), some (.int x3), some (.long x4), _, some (.int x6), _, _, _, _, _, _], [], u => k36 x0 x1 x2 x3 x4 x6 u
  | _, _, _ => none
def n_X7_greatest_86 (k86 : Nat → Int32 → Int32 → Int32 → Int64 → Int32 → Int64 → Int32 → Option rx_H → Option (Int32 × Option rx_H)) (ls : rx_L) (st : List Value) (u : Option rx_H) : Option (Int32 × Option rx_H) := match ls, st, u with
  | [some (.ref x0), some (.int x1), some (.int x2), some (.int x3), some (.long x4), _, some (.int x6), some (.long x7), _, some (.int x9), _, _, _], [], u => k86 x0 x1 x2 x3 x4 x6 x7 x9 u
  | _, _, _ => none
def n_X7_greatest_122 (k122 : Nat → Int32 → Int32 → Int32 → Int64 → Int32 → Int64 → Int32 → Int64 → Int32 → Option rx_H → Option (Int32 × Option rx_H)) (ls : rx_L) (st : List Value) (u : Option rx_H) : Option (Int32 × Option rx_H) := match ls, st, u with
  | [some (.ref x0), some (.int x1), some (.int x2), some (.int x3), some (.long x4), _, some (.int x6), some (.long x7), _, some (.int x9), some (.long x10), _, some (.int x12)], [], u => k122 x0 x1 x2 x3 x4 x6 x7 x9 x10 x12 u
  | _, _, _ => none
def n_X7_greatest_222 (F : Nat × Nat) (ls : rx_L) (st : List Value) (u : Option rx_H) : Option (Int32 × Option rx_H) := match ls, st, u with
  | [some (.ref x0), some (.int x1), _, some (.int x3), _, _, _, some (.long x7), _, _, _, _, _], [], u => f_X7_greatest_222 F x0 x1 x3 x7 u
  | _, _, _ => none
noncomputable def kk_X7_greatest_122 (F : Nat × Nat) (k86 : Nat → Int32 → Int32 → Int32 → Int64 → Int32 → Int64 → Int32 → Option rx_H → Option (Int32 × Option rx_H)) (k122 : Nat → Int32 → Int32 → Int32 → Int64 → Int32 → Int64 → Int32 → Int64 → Int32 → Option rx_H → Option (Int32 × Option rx_H)) : Nat → rx_L → List Value → Option rx_H → Option (Int32 × Option rx_H) := fun t ls st u => Bool.rec (motive := fun _ => Option (Int32 × Option rx_H)) (Bool.rec (motive := fun _ => Option (Int32 × Option rx_H)) (none) (n_X7_greatest_122 k122 ls st u) (Nat.beq t 122)) (n_X7_greatest_86 k86 ls st u) (Nat.beq t 86)
noncomputable def kk_X7_greatest_222 (F : Nat × Nat) : Nat → rx_L → List Value → Option rx_H → Option (Int32 × Option rx_H) := fun t ls st u => none
noncomputable def kk_X7_greatest_86 (F : Nat × Nat) (k86 : Nat → Int32 → Int32 → Int32 → Int64 → Int32 → Int64 → Int32 → Option rx_H → Option (Int32 × Option rx_H)) : Nat → rx_L → List Value → Option rx_H → Option (Int32 × Option rx_H) := fun t ls st u => Bool.rec (motive := fun _ => Option (Int32 × Option rx_H)) (Bool.rec (motive := fun _ => Option (Int32 × Option rx_H)) (Bool.rec (motive := fun _ => Option (Int32 × Option rx_H)) (none) (n_X7_greatest_222 F ls st u) (Nat.beq t 222)) (n_X7_greatest_122 (f_X7_greatest_122 F k86 F.1) ls st u) (Nat.beq t 122)) (n_X7_greatest_86 k86 ls st u) (Nat.beq t 86)
noncomputable def kk_X7_greatest_36 (F : Nat × Nat) (k36 : Nat → Int32 → Int32 → Int32 → Int64 → Int32 → Option rx_H → Option (Int32 × Option rx_H)) : Nat → rx_L → List Value → Option rx_H → Option (Int32 × Option rx_H) := fun t ls st u => Bool.rec (motive := fun _ => Option (Int32 × Option rx_H)) (Bool.rec (motive := fun _ => Option (Int32 × Option rx_H)) (none) (n_X7_greatest_86 (f_X7_greatest_86 F F.1) ls st u) (Nat.beq t 86)) (n_X7_greatest_36 k36 ls st u) (Nat.beq t 36)
noncomputable def kk_X7_greatest_0 (F : Nat × Nat) : Nat → rx_L → List Value → Option rx_H → Option (Int32 × Option rx_H) := fun t ls st u => Bool.rec (motive := fun _ => Option (Int32 × Option rx_H)) (none) (n_X7_greatest_36 (f_X7_greatest_36 F F.1) ls st u) (Nat.beq t 36)
set_option maxRecDepth 100000 in
theorem g_X7_greatest_122 (F : Nat × Nat) (k86 : Nat → Int32 → Int32 → Int32 → Int64 → Int32 → Int64 → Int32 → Option rx_H → Option (Int32 × Option rx_H)) (f : Nat) (x0 : Nat) (x1 : Int32) (x2 : Int32) (x3 : Int32) (x4 : Int64) (x6 : Int32) (x7 : Int64) (x9 : Int32) (x10 : Int64) (x12 : Int32) (u : Option rx_H) : f_X7_greatest_122 F k86 (f + 1) x0 x1 x2 x3 x4 x6 x7 x9 x10 x12 u = rx_node (C_X7_greatest F) rx_hI t_X7_greatest [36, 86, 122, 222] (kk_X7_greatest_122 F k86 (f_X7_greatest_122 F k86 f)) 124 122 [some (.ref x0), some (.int x1), some (.int x2), some (.int x3), some (.long x4), none, some (.int x6), some (.long x7), none, some (.int x9), some (.long x10), none, some (.int x12)] [] u := rfl
set_option maxRecDepth 100000 in
theorem g_X7_greatest_222 (F : Nat × Nat) (x0 : Nat) (x1 : Int32) (x3 : Int32) (x7 : Int64) (u : Option rx_H) : f_X7_greatest_222 F x0 x1 x3 x7 u = rx_node (C_X7_greatest F) rx_hI t_X7_greatest [36, 86, 122, 222] (kk_X7_greatest_222 F) 124 222 [some (.ref x0), some (.int x1), none, some (.int x3), none, none, none, some (.long x7), none, none, none, none, none] [] u := rfl
set_option maxRecDepth 100000 in
theorem g_X7_greatest_86 (F : Nat × Nat) (f : Nat) (x0 : Nat) (x1 : Int32) (x2 : Int32) (x3 : Int32) (x4 : Int64) (x6 : Int32) (x7 : Int64) (x9 : Int32) (u : Option rx_H) : f_X7_greatest_86 F (f + 1) x0 x1 x2 x3 x4 x6 x7 x9 u = rx_node (C_X7_greatest F) rx_hI t_X7_greatest [36, 86, 122, 222] (kk_X7_greatest_86 F (f_X7_greatest_86 F f)) 124 86 [some (.ref x0), some (.int x1), some (.int x2), some (.int x3), some (.long x4), none, some (.int x6), some (.long x7), none, some (.int x9), none, none, none] [] u := rfl
set_option maxRecDepth 100000 in
theorem g_X7_greatest_36 (F : Nat × Nat) (f : Nat) (x0 : Nat) (x1 : Int32) (x2 : Int32) (x3 : Int32) (x4 : Int64) (x6 : Int32) (u : Option rx_H) : f_X7_greatest_36 F (f + 1) x0 x1 x2 x3 x4 x6 u = rx_node (C_X7_greatest F) rx_hI t_X7_greatest [36, 86, 122, 222] (kk_X7_greatest_36 F (f_X7_greatest_36 F f)) 124 36 [some (.ref x0), some (.int x1), some (.int x2), some (.int x3), some (.long x4), none, some (.int x6), none, none, none, none, none, none] [] u := rfl
set_option maxRecDepth 100000 in
theorem g_X7_greatest_0 (F : Nat × Nat) (x0 : Nat) (x1 : Int32) (x2 : Int32) (x3 : Int32) (u : Option rx_H) : f_X7_greatest_0 F x0 x1 x2 x3 u = rx_node (C_X7_greatest F) rx_hI t_X7_greatest [36, 86, 122, 222] (kk_X7_greatest_0 F) 124 0 [some (.ref x0), some (.int x1), some (.int x2), some (.int x3), none, none, none, none, none, none, none, none, none] [] u := rfl
def f_X7_row_50 (F : Nat × Nat) : Nat → Nat → Int32 → Int32 → Option rx_H → Option (Int32 × Option rx_H)
  | 0, _, _, _, _ => none
  | f + 1, x0, x1, x4, u =>
    if x4 < (64 : Int32) then
      (rx_gR u x0 3 8).bind fun v1 =>
      (rx_sJ u v1 (((64 : Int32) * x1) + x4) (0 : Int64)).bind fun v2 =>
      (f_X7_row_50 F f) x0 x1 (x4 + 1) v2
    else
      some ((0 : Int32), u)
def f_X7_row_0 (F : Nat × Nat) (x0 : Nat) (x1 : Int32) (x2 : Int32) (x3 : Int32) (u : Option rx_H) : Option (Int32 × Option rx_H) :=
  (f_X7_isPlace F x1).bind fun v1 =>
  if v1 = 0 then
    some ((-1 : Int32), u)
  else
    (f_X7_isIn F x2 (6 : Int32) (8 : Int32)).bind fun v2 =>
    if v2 = 0 then
      some ((-1 : Int32), u)
    else
      if (64 : Int32) < x3 then
        some ((-1 : Int32), u)
      else
        if x3 < 0 then
          some ((-14 : Int32), u)
        else
          (rx_gR u x0 3 3).bind fun v3 =>
          (rx_sI u v3 x1 x2).bind fun v4 =>
          (rx_gR v4 x0 3 7).bind fun v5 =>
          (rx_sI v4 v5 x1 x3).bind fun v6 =>
          f_X7_row_50 F F.1 x0 x1 (0 : Int32) v6
def f_X7_row (F : Nat × Nat) (x0 : Nat) (x1 : Int32) (x2 : Int32) (x3 : Int32) (u : Option rx_H) : Option (Int32 × Option rx_H) := f_X7_row_0 F x0 x1 x2 x3 u
def c_X7_row {α : Type} (F : Nat × Nat) (as : List Value) (u : Option rx_H) (κ : rx_K α) : Option α := match as with
  | [.ref a0, .int a1, .int a2, .int a3] => (f_X7_row F a0 a1 a2 a3 u).bind fun r => κ (some (.int r.1)) r.2
  | _ => none
noncomputable def C_X7_row {α : Type} (F : Nat × Nat) : rx_Cl α := fun j as u κ => Bool.rec (motive := fun _ => Option α) (Bool.rec (motive := fun _ => Option α) (none) (c_X7_isPlace F as u κ) (Nat.beq j 173)) (c_X7_isIn F as u κ) (Nat.beq j 171)
def t_X7_row : List rx_E := [
  (0, .iload_n 1, 1, 0, 0, 0, 0, 0, []),
  (1, .invokestatic 62, 3, 173, 1, 803, 0, 0, []),
  (4, .ifCond .eq 20, 3, 24, 0, 0, 0, 0, []),
  (7, .iload_n 2, 1, 0, 0, 0, 0, 0, []),
  (8, .bipush 6, 2, 0, 0, 0, 6, 0, []),
  (10, .bipush 8, 2, 0, 0, 0, 8, 0, []),
  (12, .invokestatic 54, 3, 171, 3, 806, 0, 0, []),
  (15, .ifCond .eq 9, 3, 24, 0, 0, 0, 0, []),
  (18, .iload_n 3, 1, 0, 0, 0, 0, 0, []),
  (19, .bipush 64, 2, 0, 0, 0, 64, 0, []),
  (21, .if_icmp .le 5, 3, 26, 0, 0, 0, 0, []),
  (24, .iconst (-1), 1, 0, 0, 0, (-1), 0, []),
  (25, .ireturn, 1, 0, 0, 0, 0, 0, []),
  (26, .iload_n 3, 1, 0, 0, 0, 0, 0, []),
  (27, .ifCond .ge 6, 3, 33, 0, 0, 0, 0, []),
  (30, .bipush (-14), 2, 0, 0, 0, (-14), 0, []),
  (32, .ireturn, 1, 0, 0, 0, 0, 0, []),
  (33, .aload_n 0, 1, 0, 0, 0, 0, 0, []),
  (34, .getfield 13, 3, 3, 14, 756, 0, 0, []),
  (37, .iload_n 1, 1, 0, 0, 0, 0, 0, []),
  (38, .iload_n 2, 1, 0, 0, 0, 0, 0, []),
  (39, .iastore, 1, 0, 0, 0, 0, 0, []),
  (40, .aload_n 0, 1, 0, 0, 0, 0, 0, []),
  (41, .getfield 27, 3, 3, 30, 760, 0, 0, []),
  (44, .iload_n 1, 1, 0, 0, 0, 0, 0, []),
  (45, .iload_n 3, 1, 0, 0, 0, 0, 0, []),
  (46, .iastore, 1, 0, 0, 0, 0, 0, []),
  (47, .iconst 0, 1, 0, 0, 0, 0, 0, []),
  (48, .istore 4, 2, 0, 0, 0, 0, 0, []),
  (50, .iload 4, 2, 0, 0, 0, 0, 0, []),
  (52, .bipush 64, 2, 0, 0, 0, 64, 0, []),
  (54, .if_icmp .ge 22, 3, 76, 0, 0, 0, 0, []),
  (57, .aload_n 0, 1, 0, 0, 0, 0, 0, []),
  (58, .getfield 30, 3, 3, 34, 761, 0, 0, []),
  (61, .bipush 64, 2, 0, 0, 0, 64, 0, []),
  (63, .iload_n 1, 1, 0, 0, 0, 0, 0, []),
  (64, .imul, 1, 0, 0, 0, 0, 0, []),
  (65, .iload 4, 2, 0, 0, 0, 0, 0, []),
  (67, .iadd, 1, 0, 0, 0, 0, 0, []),
  (68, .lconst 0, 1, 0, 0, 0, 0, 0, []),
  (69, .lastore, 1, 0, 0, 0, 0, 0, []),
  (70, .iinc 4 1, 3, 0, 0, 0, 1, 0, []),
  (73, .goto (-23), 3, 50, 0, 0, 0, 0, []),
  (76, .iconst 0, 1, 0, 0, 0, 0, 0, []),
  (77, .ireturn, 1, 0, 0, 0, 0, 0, [])]
def n_X7_row_50 (k50 : Nat → Int32 → Int32 → Option rx_H → Option (Int32 × Option rx_H)) (ls : rx_L) (st : List Value) (u : Option rx_H) : Option (Int32 × Option rx_H) := match ls, st, u with
  | [some (.ref x0), some (.int x1), _, _, some (.int x4)], [], u => k50 x0 x1 x4 u
  | _, _, _ => none
noncomputable def kk_X7_row_50 (F : Nat × Nat) (k50 : Nat → Int32 → Int32 → Option rx_H → Option (Int32 × Option rx_H)) : Nat → rx_L → List Value → Option rx_H → Option (Int32 × Option rx_H) := fun t ls st u => Bool.rec (motive := fun _ => Option (Int32 × Option rx_H)) (none) (n_X7_row_50 k50 ls st u) (Nat.beq t 50)
noncomputable def kk_X7_row_0 (F : Nat × Nat) : Nat → rx_L → List Value → Option rx_H → Option (Int32 × Option rx_H) := fun t ls st u => Bool.rec (motive := fun _ => Option (Int32 × Option rx_H)) (none) (n_X7_row_50 (f_X7_row_50 F F.1) ls st u) (Nat.beq t 50)
set_option maxRecDepth 100000 in
theorem g_X7_row_50 (F : Nat × Nat) (f : Nat) (x0 : Nat) (x1 : Int32) (x4 : Int32) (u : Option rx_H) : f_X7_row_50 F (f + 1) x0 x1 x4 u = rx_node (C_X7_row F) rx_hI t_X7_row [50] (kk_X7_row_50 F (f_X7_row_50 F f)) 48 50 [some (.ref x0), some (.int x1), none, none, some (.int x4)] [] u := rfl
set_option maxRecDepth 100000 in
theorem g_X7_row_0 (F : Nat × Nat) (x0 : Nat) (x1 : Int32) (x2 : Int32) (x3 : Int32) (u : Option rx_H) : f_X7_row_0 F x0 x1 x2 x3 u = rx_node (C_X7_row F) rx_hI t_X7_row [50] (kk_X7_row_0 F) 48 0 [some (.ref x0), some (.int x1), some (.int x2), some (.int x3), none] [] u := rfl
def f_X7_put_0 (F : Nat × Nat) (x0 : Nat) (x1 : Int32) (x2 : Int32) (x3 : Int64) (u : Option rx_H) : Option (Int32 × Option rx_H) :=
  (f_X7_isPlace F x1).bind fun v1 =>
  if v1 = 0 then
    some ((-1 : Int32), u)
  else
    (rx_gR u x0 3 3).bind fun v2 =>
    (rx_aI u v2 x1).bind fun v3 =>
    if v3 = (-2 : Int32) then
      some ((-11 : Int32), u)
    else
      (rx_gR u x0 3 3).bind fun v4 =>
      (rx_aI u v4 x1).bind fun v5 =>
      if v5 < (6 : Int32) then
        some ((-12 : Int32), u)
      else
        (rx_gR u x0 3 7).bind fun v6 =>
        (rx_aI u v6 x1).bind fun v7 =>
        (f_X7_isIn F x2 (0 : Int32) (v7 - (1 : Int32))).bind fun v8 =>
        if v8 = 0 then
          some ((-13 : Int32), u)
        else
          (rx_gR u x0 3 8).bind fun v9 =>
          (rx_gR u x0 3 3).bind fun v10 =>
          (rx_aI u v10 x1).bind fun v11 =>
          if v11 = (6 : Int32) then
            (rx_sJ u v9 (((64 : Int32) * x1) + x2) (Int32.toInt64 ((Int32.toInt8 (Int64.toInt32 x3)).toInt32))).bind fun v12 =>
            some ((0 : Int32), v12)
          else
            (rx_gR u x0 3 3).bind fun v13 =>
            (rx_aI u v13 x1).bind fun v14 =>
            if v14 = (7 : Int32) then
              (rx_sJ u v9 (((64 : Int32) * x1) + x2) (Int32.toInt64 (Int64.toInt32 x3))).bind fun v15 =>
              some ((0 : Int32), v15)
            else
              (rx_sJ u v9 (((64 : Int32) * x1) + x2) x3).bind fun v16 =>
              some ((0 : Int32), v16)
def f_X7_put (F : Nat × Nat) (x0 : Nat) (x1 : Int32) (x2 : Int32) (x3 : Int64) (u : Option rx_H) : Option (Int32 × Option rx_H) := f_X7_put_0 F x0 x1 x2 x3 u
def c_X7_put {α : Type} (F : Nat × Nat) (as : List Value) (u : Option rx_H) (κ : rx_K α) : Option α := match as with
  | [.ref a0, .int a1, .int a2, .long a3] => (f_X7_put F a0 a1 a2 a3 u).bind fun r => κ (some (.int r.1)) r.2
  | _ => none
noncomputable def C_X7_put {α : Type} (F : Nat × Nat) : rx_Cl α := fun j as u κ => Bool.rec (motive := fun _ => Option α) (Bool.rec (motive := fun _ => Option α) (none) (c_X7_isPlace F as u κ) (Nat.beq j 173)) (c_X7_isIn F as u κ) (Nat.beq j 171)
def t_X7_put : List rx_E := [
  (0, .iload_n 1, 1, 0, 0, 0, 0, 0, []),
  (1, .invokestatic 62, 3, 173, 1, 803, 0, 0, []),
  (4, .ifCond .ne 5, 3, 9, 0, 0, 0, 0, []),
  (7, .iconst (-1), 1, 0, 0, 0, (-1), 0, []),
  (8, .ireturn, 1, 0, 0, 0, 0, 0, []),
  (9, .aload_n 0, 1, 0, 0, 0, 0, 0, []),
  (10, .getfield 13, 3, 3, 14, 756, 0, 0, []),
  (13, .iload_n 1, 1, 0, 0, 0, 0, 0, []),
  (14, .iaload, 1, 0, 0, 0, 0, 0, []),
  (15, .bipush (-2), 2, 0, 0, 0, (-2), 0, []),
  (17, .if_icmp .ne 6, 3, 23, 0, 0, 0, 0, []),
  (20, .bipush (-11), 2, 0, 0, 0, (-11), 0, []),
  (22, .ireturn, 1, 0, 0, 0, 0, 0, []),
  (23, .aload_n 0, 1, 0, 0, 0, 0, 0, []),
  (24, .getfield 13, 3, 3, 14, 756, 0, 0, []),
  (27, .iload_n 1, 1, 0, 0, 0, 0, 0, []),
  (28, .iaload, 1, 0, 0, 0, 0, 0, []),
  (29, .bipush 6, 2, 0, 0, 0, 6, 0, []),
  (31, .if_icmp .ge 6, 3, 37, 0, 0, 0, 0, []),
  (34, .bipush (-12), 2, 0, 0, 0, (-12), 0, []),
  (36, .ireturn, 1, 0, 0, 0, 0, 0, []),
  (37, .iload_n 2, 1, 0, 0, 0, 0, 0, []),
  (38, .iconst 0, 1, 0, 0, 0, 0, 0, []),
  (39, .aload_n 0, 1, 0, 0, 0, 0, 0, []),
  (40, .getfield 27, 3, 3, 30, 760, 0, 0, []),
  (43, .iload_n 1, 1, 0, 0, 0, 0, 0, []),
  (44, .iaload, 1, 0, 0, 0, 0, 0, []),
  (45, .iconst 1, 1, 0, 0, 0, 1, 0, []),
  (46, .isub, 1, 0, 0, 0, 0, 0, []),
  (47, .invokestatic 54, 3, 171, 3, 806, 0, 0, []),
  (50, .ifCond .ne 6, 3, 56, 0, 0, 0, 0, []),
  (53, .bipush (-13), 2, 0, 0, 0, (-13), 0, []),
  (55, .ireturn, 1, 0, 0, 0, 0, 0, []),
  (56, .aload_n 0, 1, 0, 0, 0, 0, 0, []),
  (57, .getfield 30, 3, 3, 34, 761, 0, 0, []),
  (60, .bipush 64, 2, 0, 0, 0, 64, 0, []),
  (62, .iload_n 1, 1, 0, 0, 0, 0, 0, []),
  (63, .imul, 1, 0, 0, 0, 0, 0, []),
  (64, .iload_n 2, 1, 0, 0, 0, 0, 0, []),
  (65, .iadd, 1, 0, 0, 0, 0, 0, []),
  (66, .aload_n 0, 1, 0, 0, 0, 0, 0, []),
  (67, .getfield 13, 3, 3, 14, 756, 0, 0, []),
  (70, .iload_n 1, 1, 0, 0, 0, 0, 0, []),
  (71, .iaload, 1, 0, 0, 0, 0, 0, []),
  (72, .bipush 6, 2, 0, 0, 0, 6, 0, []),
  (74, .if_icmp .ne 10, 3, 84, 0, 0, 0, 0, []),
  (77, .lload_n 3, 1, 0, 0, 0, 0, 0, []),
  (78, .l2i, 1, 0, 0, 0, 0, 0, []),
  (79, .i2b, 1, 0, 0, 0, 0, 0, []),
  (80, .i2l, 1, 0, 0, 0, 0, 0, []),
  (81, .goto 21, 3, 102, 0, 0, 0, 0, []),
  (84, .aload_n 0, 1, 0, 0, 0, 0, 0, []),
  (85, .getfield 13, 3, 3, 14, 756, 0, 0, []),
  (88, .iload_n 1, 1, 0, 0, 0, 0, 0, []),
  (89, .iaload, 1, 0, 0, 0, 0, 0, []),
  (90, .bipush 7, 2, 0, 0, 0, 7, 0, []),
  (92, .if_icmp .ne 9, 3, 101, 0, 0, 0, 0, []),
  (95, .lload_n 3, 1, 0, 0, 0, 0, 0, []),
  (96, .l2i, 1, 0, 0, 0, 0, 0, []),
  (97, .i2l, 1, 0, 0, 0, 0, 0, []),
  (98, .goto 4, 3, 102, 0, 0, 0, 0, []),
  (101, .lload_n 3, 1, 0, 0, 0, 0, 0, []),
  (102, .lastore, 1, 0, 0, 0, 0, 0, []),
  (103, .iconst 0, 1, 0, 0, 0, 0, 0, []),
  (104, .ireturn, 1, 0, 0, 0, 0, 0, [])]
noncomputable def kk_X7_put_0 (F : Nat × Nat) : Nat → rx_L → List Value → Option rx_H → Option (Int32 × Option rx_H) := fun t ls st u => none
set_option maxRecDepth 100000 in
theorem g_X7_put_0 (F : Nat × Nat) (x0 : Nat) (x1 : Int32) (x2 : Int32) (x3 : Int64) (u : Option rx_H) : f_X7_put_0 F x0 x1 x2 x3 u = rx_node (C_X7_put F) rx_hI t_X7_put [] (kk_X7_put_0 F) 68 0 [some (.ref x0), some (.int x1), some (.int x2), some (.long x3), none] [] u := rfl
def f_X7_element_44 (F : Nat × Nat) (x0 : Nat) (x1 : Int32) (x2 : Int32) (s0 : Nat) (s1 : Int32) (u : Option rx_H) : Option (Int64 × Option rx_H) :=
  (rx_p u s0 3 0 (.int s1)).bind fun v1 =>
  (rx_gI v1 x0 3 0).bind fun v2 =>
  if 0 < v2 then
    some ((0 : Int64), v1)
  else
    (rx_gR v1 x0 3 8).bind fun v3 =>
    (rx_aJ v1 v3 (((64 : Int32) * x1) + x2)).bind fun v4 =>
    some (v4, v1)
def f_X7_element_0 (F : Nat × Nat) (x0 : Nat) (x1 : Int32) (x2 : Int32) (u : Option rx_H) : Option (Int64 × Option rx_H) :=
  (f_X7_isPlace F x1).bind fun v1 =>
  if v1 = 0 then
    f_X7_element_44 F x0 x1 x2 x0 (1 : Int32) u
  else
    (rx_gR u x0 3 3).bind fun v2 =>
    (rx_aI u v2 x1).bind fun v3 =>
    if v3 < (6 : Int32) then
      f_X7_element_44 F x0 x1 x2 x0 (2 : Int32) u
    else
      (rx_gR u x0 3 7).bind fun v4 =>
      (rx_aI u v4 x1).bind fun v5 =>
      (f_X7_isIn F x2 (0 : Int32) (v5 - (1 : Int32))).bind fun v6 =>
      if v6 = 0 then
        f_X7_element_44 F x0 x1 x2 x0 (2 : Int32) u
      else
        f_X7_element_44 F x0 x1 x2 x0 (0 : Int32) u
def f_X7_element (F : Nat × Nat) (x0 : Nat) (x1 : Int32) (x2 : Int32) (u : Option rx_H) : Option (Int64 × Option rx_H) := f_X7_element_0 F x0 x1 x2 u
def c_X7_element {α : Type} (F : Nat × Nat) (as : List Value) (u : Option rx_H) (κ : rx_K α) : Option α := match as with
  | [.ref a0, .int a1, .int a2] => (f_X7_element F a0 a1 a2 u).bind fun r => κ (some (.long r.1)) r.2
  | _ => none
noncomputable def C_X7_element {α : Type} (F : Nat × Nat) : rx_Cl α := fun j as u κ => Bool.rec (motive := fun _ => Option α) (Bool.rec (motive := fun _ => Option α) (none) (c_X7_isPlace F as u κ) (Nat.beq j 173)) (c_X7_isIn F as u κ) (Nat.beq j 171)
def t_X7_element : List rx_E := [
  (0, .aload_n 0, 1, 0, 0, 0, 0, 0, []),
  (1, .iload_n 1, 1, 0, 0, 0, 0, 0, []),
  (2, .invokestatic 62, 3, 173, 1, 803, 0, 0, []),
  (5, .ifCond .ne 7, 3, 12, 0, 0, 0, 0, []),
  (8, .iconst 1, 1, 0, 0, 0, 1, 0, []),
  (9, .goto 35, 3, 44, 0, 0, 0, 0, []),
  (12, .aload_n 0, 1, 0, 0, 0, 0, 0, []),
  (13, .getfield 13, 3, 3, 14, 756, 0, 0, []),
  (16, .iload_n 1, 1, 0, 0, 0, 0, 0, []),
  (17, .iaload, 1, 0, 0, 0, 0, 0, []),
  (18, .bipush 6, 2, 0, 0, 0, 6, 0, []),
  (20, .if_icmp .lt 19, 3, 39, 0, 0, 0, 0, []),
  (23, .iload_n 2, 1, 0, 0, 0, 0, 0, []),
  (24, .iconst 0, 1, 0, 0, 0, 0, 0, []),
  (25, .aload_n 0, 1, 0, 0, 0, 0, 0, []),
  (26, .getfield 27, 3, 3, 30, 760, 0, 0, []),
  (29, .iload_n 1, 1, 0, 0, 0, 0, 0, []),
  (30, .iaload, 1, 0, 0, 0, 0, 0, []),
  (31, .iconst 1, 1, 0, 0, 0, 1, 0, []),
  (32, .isub, 1, 0, 0, 0, 0, 0, []),
  (33, .invokestatic 54, 3, 171, 3, 806, 0, 0, []),
  (36, .ifCond .ne 7, 3, 43, 0, 0, 0, 0, []),
  (39, .iconst 2, 1, 0, 0, 0, 2, 0, []),
  (40, .goto 4, 3, 44, 0, 0, 0, 0, []),
  (43, .iconst 0, 1, 0, 0, 0, 0, 0, []),
  (44, .putfield 1, 3, 3, 0, 753, 0, 0, []),
  (47, .aload_n 0, 1, 0, 0, 0, 0, 0, []),
  (48, .getfield 1, 3, 3, 0, 753, 0, 0, []),
  (51, .ifCond .le 7, 3, 58, 0, 0, 0, 0, []),
  (54, .lconst 0, 1, 0, 0, 0, 0, 0, []),
  (55, .goto 14, 3, 69, 0, 0, 0, 0, []),
  (58, .aload_n 0, 1, 0, 0, 0, 0, 0, []),
  (59, .getfield 30, 3, 3, 34, 761, 0, 0, []),
  (62, .bipush 64, 2, 0, 0, 0, 64, 0, []),
  (64, .iload_n 1, 1, 0, 0, 0, 0, 0, []),
  (65, .imul, 1, 0, 0, 0, 0, 0, []),
  (66, .iload_n 2, 1, 0, 0, 0, 0, 0, []),
  (67, .iadd, 1, 0, 0, 0, 0, 0, []),
  (68, .laload, 1, 0, 0, 0, 0, 0, []),
  (69, .lreturn, 1, 0, 0, 0, 0, 0, [])]
def n_X7_element_44 (F : Nat × Nat) (ls : rx_L) (st : List Value) (u : Option rx_H) : Option (Int64 × Option rx_H) := match ls, st, u with
  | [some (.ref x0), some (.int x1), some (.int x2)], [.int s1, .ref s0], u => f_X7_element_44 F x0 x1 x2 s0 s1 u
  | _, _, _ => none
noncomputable def kk_X7_element_44 (F : Nat × Nat) : Nat → rx_L → List Value → Option rx_H → Option (Int64 × Option rx_H) := fun t ls st u => none
noncomputable def kk_X7_element_0 (F : Nat × Nat) : Nat → rx_L → List Value → Option rx_H → Option (Int64 × Option rx_H) := fun t ls st u => Bool.rec (motive := fun _ => Option (Int64 × Option rx_H)) (none) (n_X7_element_44 F ls st u) (Nat.beq t 44)
set_option maxRecDepth 100000 in
theorem g_X7_element_44 (F : Nat × Nat) (x0 : Nat) (x1 : Int32) (x2 : Int32) (s0 : Nat) (s1 : Int32) (u : Option rx_H) : f_X7_element_44 F x0 x1 x2 s0 s1 u = rx_node (C_X7_element F) rx_hJ t_X7_element [44] (kk_X7_element_44 F) 43 44 [some (.ref x0), some (.int x1), some (.int x2)] [.int s1, .ref s0] u := rfl
set_option maxRecDepth 100000 in
theorem g_X7_element_0 (F : Nat × Nat) (x0 : Nat) (x1 : Int32) (x2 : Int32) (u : Option rx_H) : f_X7_element_0 F x0 x1 x2 u = rx_node (C_X7_element F) rx_hJ t_X7_element [44] (kk_X7_element_0 F) 43 0 [some (.ref x0), some (.int x1), some (.int x2)] [] u := rfl
def f_X7_copy_154 (F : Nat × Nat) : Nat → Nat → Int32 → Int32 → Int32 → Int32 → Option rx_H → Option (Int32 × Option rx_H)
  | 0, _, _, _, _, _, _ => none
  | f + 1, x0, x3, x4, x5, x6, u =>
    if x6 < x5 then
      (rx_gR u x0 3 8).bind fun v1 =>
      (rx_gR u x0 3 14).bind fun v2 =>
      (rx_aJ u v2 x6).bind fun v3 =>
      (rx_sJ u v1 ((((64 : Int32) * x3) + x4) + x6) v3).bind fun v4 =>
      (f_X7_copy_154 F f) x0 x3 x4 x5 (x6 + 1) v4
    else
      some (x5, u)
def f_X7_copy_117 (F : Nat × Nat) : Nat → Nat → Int32 → Int32 → Int32 → Int32 → Int32 → Int32 → Option rx_H → Option (Int32 × Option rx_H)
  | 0, _, _, _, _, _, _, _, _ => none
  | f + 1, x0, x1, x2, x3, x4, x5, x6, u =>
    if x6 < x5 then
      (rx_gR u x0 3 14).bind fun v1 =>
      (rx_gR u x0 3 8).bind fun v2 =>
      (rx_aJ u v2 ((((64 : Int32) * x1) + x2) + x6)).bind fun v3 =>
      (rx_sJ u v1 x6 v3).bind fun v4 =>
      (f_X7_copy_117 F f) x0 x1 x2 x3 x4 x5 (x6 + 1) v4
    else
      f_X7_copy_154 F F.1 x0 x3 x4 x5 (0 : Int32) u
def f_X7_copy_0 (F : Nat × Nat) (x0 : Nat) (x1 : Int32) (x2 : Int32) (x3 : Int32) (x4 : Int32) (x5 : Int32) (u : Option rx_H) : Option (Int32 × Option rx_H) :=
  (f_X7_isPlace F x1).bind fun v1 =>
  if v1 = 0 then
    some ((-1 : Int32), u)
  else
    (f_X7_isPlace F x3).bind fun v2 =>
    if v2 = 0 then
      some ((-1 : Int32), u)
    else
      (rx_gR u x0 3 3).bind fun v3 =>
      (rx_aI u v3 x1).bind fun v4 =>
      if v4 = (-2 : Int32) then
        some ((-11 : Int32), u)
      else
        (rx_gR u x0 3 3).bind fun v5 =>
        (rx_aI u v5 x3).bind fun v6 =>
        if v6 = (-2 : Int32) then
          some ((-11 : Int32), u)
        else
          (rx_gR u x0 3 3).bind fun v7 =>
          (rx_aI u v7 x1).bind fun v8 =>
          if v8 < (6 : Int32) then
            some ((-12 : Int32), u)
          else
            (rx_gR u x0 3 3).bind fun v9 =>
            (rx_aI u v9 x3).bind fun v10 =>
            (rx_gR u x0 3 3).bind fun v11 =>
            (rx_aI u v11 x1).bind fun v12 =>
            if v10 = v12 then
              if x5 < 0 then
                some ((-13 : Int32), u)
              else
                if x2 < 0 then
                  some ((-13 : Int32), u)
                else
                  if x4 < 0 then
                    some ((-13 : Int32), u)
                  else
                    (rx_gR u x0 3 7).bind fun v13 =>
                    (rx_aI u v13 x1).bind fun v14 =>
                    if v14 - x5 < x2 then
                      some ((-13 : Int32), u)
                    else
                      (rx_gR u x0 3 7).bind fun v15 =>
                      (rx_aI u v15 x3).bind fun v16 =>
                      if v16 - x5 < x4 then
                        some ((-13 : Int32), u)
                      else
                        f_X7_copy_117 F F.1 x0 x1 x2 x3 x4 x5 (0 : Int32) u
            else
              some ((-12 : Int32), u)
def f_X7_copy (F : Nat × Nat) (x0 : Nat) (x1 : Int32) (x2 : Int32) (x3 : Int32) (x4 : Int32) (x5 : Int32) (u : Option rx_H) : Option (Int32 × Option rx_H) := f_X7_copy_0 F x0 x1 x2 x3 x4 x5 u
def c_X7_copy {α : Type} (F : Nat × Nat) (as : List Value) (u : Option rx_H) (κ : rx_K α) : Option α := match as with
  | [.ref a0, .int a1, .int a2, .int a3, .int a4, .int a5] => (f_X7_copy F a0 a1 a2 a3 a4 a5 u).bind fun r => κ (some (.int r.1)) r.2
  | _ => none
noncomputable def C_X7_copy {α : Type} (F : Nat × Nat) : rx_Cl α := fun j as u κ => Bool.rec (motive := fun _ => Option α) (none) (c_X7_isPlace F as u κ) (Nat.beq j 173)
def t_X7_copy : List rx_E := [
  (0, .iload_n 1, 1, 0, 0, 0, 0, 0, []),
  (1, .invokestatic 62, 3, 173, 1, 803, 0, 0, []),
  (4, .ifCond .eq 10, 3, 14, 0, 0, 0, 0, []),
  (7, .iload_n 3, 1, 0, 0, 0, 0, 0, []),
  (8, .invokestatic 62, 3, 173, 1, 803, 0, 0, []),
  (11, .ifCond .ne 5, 3, 16, 0, 0, 0, 0, []),
  (14, .iconst (-1), 1, 0, 0, 0, (-1), 0, []),
  (15, .ireturn, 1, 0, 0, 0, 0, 0, []),
  (16, .aload_n 0, 1, 0, 0, 0, 0, 0, []),
  (17, .getfield 13, 3, 3, 14, 756, 0, 0, []),
  (20, .iload_n 1, 1, 0, 0, 0, 0, 0, []),
  (21, .iaload, 1, 0, 0, 0, 0, 0, []),
  (22, .bipush (-2), 2, 0, 0, 0, (-2), 0, []),
  (24, .if_icmp .eq 14, 3, 38, 0, 0, 0, 0, []),
  (27, .aload_n 0, 1, 0, 0, 0, 0, 0, []),
  (28, .getfield 13, 3, 3, 14, 756, 0, 0, []),
  (31, .iload_n 3, 1, 0, 0, 0, 0, 0, []),
  (32, .iaload, 1, 0, 0, 0, 0, 0, []),
  (33, .bipush (-2), 2, 0, 0, 0, (-2), 0, []),
  (35, .if_icmp .ne 6, 3, 41, 0, 0, 0, 0, []),
  (38, .bipush (-11), 2, 0, 0, 0, (-11), 0, []),
  (40, .ireturn, 1, 0, 0, 0, 0, 0, []),
  (41, .aload_n 0, 1, 0, 0, 0, 0, 0, []),
  (42, .getfield 13, 3, 3, 14, 756, 0, 0, []),
  (45, .iload_n 1, 1, 0, 0, 0, 0, 0, []),
  (46, .iaload, 1, 0, 0, 0, 0, 0, []),
  (47, .bipush 6, 2, 0, 0, 0, 6, 0, []),
  (49, .if_icmp .lt 18, 3, 67, 0, 0, 0, 0, []),
  (52, .aload_n 0, 1, 0, 0, 0, 0, 0, []),
  (53, .getfield 13, 3, 3, 14, 756, 0, 0, []),
  (56, .iload_n 3, 1, 0, 0, 0, 0, 0, []),
  (57, .iaload, 1, 0, 0, 0, 0, 0, []),
  (58, .aload_n 0, 1, 0, 0, 0, 0, 0, []),
  (59, .getfield 13, 3, 3, 14, 756, 0, 0, []),
  (62, .iload_n 1, 1, 0, 0, 0, 0, 0, []),
  (63, .iaload, 1, 0, 0, 0, 0, 0, []),
  (64, .if_icmp .eq 6, 3, 70, 0, 0, 0, 0, []),
  (67, .bipush (-12), 2, 0, 0, 0, (-12), 0, []),
  (69, .ireturn, 1, 0, 0, 0, 0, 0, []),
  (70, .iload 5, 2, 0, 0, 0, 0, 0, []),
  (72, .ifCond .lt 39, 3, 111, 0, 0, 0, 0, []),
  (75, .iload_n 2, 1, 0, 0, 0, 0, 0, []),
  (76, .ifCond .lt 35, 3, 111, 0, 0, 0, 0, []),
  (79, .iload 4, 2, 0, 0, 0, 0, 0, []),
  (81, .ifCond .lt 30, 3, 111, 0, 0, 0, 0, []),
  (84, .iload_n 2, 1, 0, 0, 0, 0, 0, []),
  (85, .aload_n 0, 1, 0, 0, 0, 0, 0, []),
  (86, .getfield 27, 3, 3, 30, 760, 0, 0, []),
  (89, .iload_n 1, 1, 0, 0, 0, 0, 0, []),
  (90, .iaload, 1, 0, 0, 0, 0, 0, []),
  (91, .iload 5, 2, 0, 0, 0, 0, 0, []),
  (93, .isub, 1, 0, 0, 0, 0, 0, []),
  (94, .if_icmp .gt 17, 3, 111, 0, 0, 0, 0, []),
  (97, .iload 4, 2, 0, 0, 0, 0, 0, []),
  (99, .aload_n 0, 1, 0, 0, 0, 0, 0, []),
  (100, .getfield 27, 3, 3, 30, 760, 0, 0, []),
  (103, .iload_n 3, 1, 0, 0, 0, 0, 0, []),
  (104, .iaload, 1, 0, 0, 0, 0, 0, []),
  (105, .iload 5, 2, 0, 0, 0, 0, 0, []),
  (107, .isub, 1, 0, 0, 0, 0, 0, []),
  (108, .if_icmp .le 6, 3, 114, 0, 0, 0, 0, []),
  (111, .bipush (-13), 2, 0, 0, 0, (-13), 0, []),
  (113, .ireturn, 1, 0, 0, 0, 0, 0, []),
  (114, .iconst 0, 1, 0, 0, 0, 0, 0, []),
  (115, .istore 6, 2, 0, 0, 0, 0, 0, []),
  (117, .iload 6, 2, 0, 0, 0, 0, 0, []),
  (119, .iload 5, 2, 0, 0, 0, 0, 0, []),
  (121, .if_icmp .ge 30, 3, 151, 0, 0, 0, 0, []),
  (124, .aload_n 0, 1, 0, 0, 0, 0, 0, []),
  (125, .getfield 45, 3, 3, 58, 767, 0, 0, []),
  (128, .iload 6, 2, 0, 0, 0, 0, 0, []),
  (130, .aload_n 0, 1, 0, 0, 0, 0, 0, []),
  (131, .getfield 30, 3, 3, 34, 761, 0, 0, []),
  (134, .bipush 64, 2, 0, 0, 0, 64, 0, []),
  (136, .iload_n 1, 1, 0, 0, 0, 0, 0, []),
  (137, .imul, 1, 0, 0, 0, 0, 0, []),
  (138, .iload_n 2, 1, 0, 0, 0, 0, 0, []),
  (139, .iadd, 1, 0, 0, 0, 0, 0, []),
  (140, .iload 6, 2, 0, 0, 0, 0, 0, []),
  (142, .iadd, 1, 0, 0, 0, 0, 0, []),
  (143, .laload, 1, 0, 0, 0, 0, 0, []),
  (144, .lastore, 1, 0, 0, 0, 0, 0, []),
  (145, .iinc 6 1, 3, 0, 0, 0, 1, 0, []),
  (148, .goto (-31), 3, 117, 0, 0, 0, 0, []),
  (151, .iconst 0, 1, 0, 0, 0, 0, 0, []),
  (152, .istore 6, 2, 0, 0, 0, 0, 0, []),
  (154, .iload 6, 2, 0, 0, 0, 0, 0, []),
  (156, .iload 5, 2, 0, 0, 0, 0, 0, []),
  (158, .if_icmp .ge 31, 3, 189, 0, 0, 0, 0, []),
  (161, .aload_n 0, 1, 0, 0, 0, 0, 0, []),
  (162, .getfield 30, 3, 3, 34, 761, 0, 0, []),
  (165, .bipush 64, 2, 0, 0, 0, 64, 0, []),
  (167, .iload_n 3, 1, 0, 0, 0, 0, 0, []),
  (168, .imul, 1, 0, 0, 0, 0, 0, []),
  (169, .iload 4, 2, 0, 0, 0, 0, 0, []),
  (171, .iadd, 1, 0, 0, 0, 0, 0, []),
  (172, .iload 6, 2, 0, 0, 0, 0, 0, []),
  (174, .iadd, 1, 0, 0, 0, 0, 0, []),
  (175, .aload_n 0, 1, 0, 0, 0, 0, 0, []),
  (176, .getfield 45, 3, 3, 58, 767, 0, 0, []),
  (179, .iload 6, 2, 0, 0, 0, 0, 0, []),
  (181, .laload, 1, 0, 0, 0, 0, 0, []),
  (182, .lastore, 1, 0, 0, 0, 0, 0, []),
  (183, .iinc 6 1, 3, 0, 0, 0, 1, 0, []),
  (186, .goto (-32), 3, 154, 0, 0, 0, 0, []),
  (189, .iload 5, 2, 0, 0, 0, 0, 0, []),
  (191, .ireturn, 1, 0, 0, 0, 0, 0, [])]
def n_X7_copy_117 (k117 : Nat → Int32 → Int32 → Int32 → Int32 → Int32 → Int32 → Option rx_H → Option (Int32 × Option rx_H)) (ls : rx_L) (st : List Value) (u : Option rx_H) : Option (Int32 × Option rx_H) := match ls, st, u with
  | [some (.ref x0), some (.int x1), some (.int x2), some (.int x3), some (.int x4), some (.int x5), some (.int x6)], [], u => k117 x0 x1 x2 x3 x4 x5 x6 u
  | _, _, _ => none
def n_X7_copy_154 (k154 : Nat → Int32 → Int32 → Int32 → Int32 → Option rx_H → Option (Int32 × Option rx_H)) (ls : rx_L) (st : List Value) (u : Option rx_H) : Option (Int32 × Option rx_H) := match ls, st, u with
  | [some (.ref x0), _, _, some (.int x3), some (.int x4), some (.int x5), some (.int x6)], [], u => k154 x0 x3 x4 x5 x6 u
  | _, _, _ => none
noncomputable def kk_X7_copy_154 (F : Nat × Nat) (k154 : Nat → Int32 → Int32 → Int32 → Int32 → Option rx_H → Option (Int32 × Option rx_H)) : Nat → rx_L → List Value → Option rx_H → Option (Int32 × Option rx_H) := fun t ls st u => Bool.rec (motive := fun _ => Option (Int32 × Option rx_H)) (none) (n_X7_copy_154 k154 ls st u) (Nat.beq t 154)
noncomputable def kk_X7_copy_117 (F : Nat × Nat) (k117 : Nat → Int32 → Int32 → Int32 → Int32 → Int32 → Int32 → Option rx_H → Option (Int32 × Option rx_H)) : Nat → rx_L → List Value → Option rx_H → Option (Int32 × Option rx_H) := fun t ls st u => Bool.rec (motive := fun _ => Option (Int32 × Option rx_H)) (Bool.rec (motive := fun _ => Option (Int32 × Option rx_H)) (none) (n_X7_copy_154 (f_X7_copy_154 F F.1) ls st u) (Nat.beq t 154)) (n_X7_copy_117 k117 ls st u) (Nat.beq t 117)
noncomputable def kk_X7_copy_0 (F : Nat × Nat) : Nat → rx_L → List Value → Option rx_H → Option (Int32 × Option rx_H) := fun t ls st u => Bool.rec (motive := fun _ => Option (Int32 × Option rx_H)) (none) (n_X7_copy_117 (f_X7_copy_117 F F.1) ls st u) (Nat.beq t 117)
set_option maxRecDepth 100000 in
theorem g_X7_copy_154 (F : Nat × Nat) (f : Nat) (x0 : Nat) (x3 : Int32) (x4 : Int32) (x5 : Int32) (x6 : Int32) (u : Option rx_H) : f_X7_copy_154 F (f + 1) x0 x3 x4 x5 x6 u = rx_node (C_X7_copy F) rx_hI t_X7_copy [117, 154] (kk_X7_copy_154 F (f_X7_copy_154 F f)) 110 154 [some (.ref x0), none, none, some (.int x3), some (.int x4), some (.int x5), some (.int x6)] [] u := rfl
set_option maxRecDepth 100000 in
theorem g_X7_copy_117 (F : Nat × Nat) (f : Nat) (x0 : Nat) (x1 : Int32) (x2 : Int32) (x3 : Int32) (x4 : Int32) (x5 : Int32) (x6 : Int32) (u : Option rx_H) : f_X7_copy_117 F (f + 1) x0 x1 x2 x3 x4 x5 x6 u = rx_node (C_X7_copy F) rx_hI t_X7_copy [117, 154] (kk_X7_copy_117 F (f_X7_copy_117 F f)) 110 117 [some (.ref x0), some (.int x1), some (.int x2), some (.int x3), some (.int x4), some (.int x5), some (.int x6)] [] u := rfl
set_option maxRecDepth 100000 in
theorem g_X7_copy_0 (F : Nat × Nat) (x0 : Nat) (x1 : Int32) (x2 : Int32) (x3 : Int32) (x4 : Int32) (x5 : Int32) (u : Option rx_H) : f_X7_copy_0 F x0 x1 x2 x3 x4 x5 u = rx_node (C_X7_copy F) rx_hI t_X7_copy [117, 154] (kk_X7_copy_0 F) 110 0 [some (.ref x0), some (.int x1), some (.int x2), some (.int x3), some (.int x4), some (.int x5), none] [] u := rfl
def f_X7_take_62 (F : Nat × Nat) : Nat → Nat → Int32 → Int32 → Int32 → Option rx_H → Option (Int32 × Option rx_H)
  | 0, _, _, _, _, _ => none
  | f + 1, x0, x1, x2, x3, u =>
    (rx_gR u x0 3 7).bind fun v1 =>
    (rx_aI u v1 x1).bind fun v2 =>
    if x3 < v2 then
      (rx_gR u x0 3 8).bind fun v3 =>
      (rx_aJ u v3 (((64 : Int32) * x1) + x3)).bind fun v4 =>
      if v4 < (0 : Int64) then
        some (x3, u)
      else
        (rx_gI u x0 3 2).bind fun v5 =>
        if v4 < Int32.toInt64 v5 then
          (rx_ck u x0 3).bind fun _ =>
          (f_X7_adds F x0 x2 (Int64.toInt32 v4) u).bind fun v6 =>
          if v6.1 < 0 then
            some (x3, v6.2)
          else
            (f_X7_take_62 F f) x0 x1 x2 (x3 + 1) v6.2
        else
          some (x3, u)
    else
      (rx_gR u x0 3 7).bind fun v7 =>
      (rx_aI u v7 x1).bind fun v8 =>
      some (v8, u)
def f_X7_take_0 (F : Nat × Nat) (x0 : Nat) (x1 : Int32) (x2 : Int32) (u : Option rx_H) : Option (Int32 × Option rx_H) :=
  (f_X7_isPlace F x1).bind fun v1 =>
  if v1 = 0 then
    some ((-1 : Int32), u)
  else
    (f_X7_isPlace F x2).bind fun v2 =>
    if v2 = 0 then
      some ((-1 : Int32), u)
    else
      (rx_gR u x0 3 3).bind fun v3 =>
      (rx_aI u v3 x1).bind fun v4 =>
      if v4 < (6 : Int32) then
        (rx_gR u x0 3 3).bind fun v5 =>
        (rx_aI u v5 x1).bind fun v6 =>
        if v6 = (-2 : Int32) then
          some ((-11 : Int32), u)
        else
          some ((-12 : Int32), u)
      else
        (rx_ck u x0 3).bind fun _ =>
        (f_X7_lacks F x0 x2 u).bind fun v7 =>
        if v7.1 = 0 then
          f_X7_take_62 F F.1 x0 x1 x2 (0 : Int32) v7.2
        else
          (rx_ck v7.2 x0 3).bind fun _ =>
          (f_X7_lacks F x0 x2 v7.2).bind fun v8 =>
          some (v8.1, v8.2)
def f_X7_take (F : Nat × Nat) (x0 : Nat) (x1 : Int32) (x2 : Int32) (u : Option rx_H) : Option (Int32 × Option rx_H) := f_X7_take_0 F x0 x1 x2 u
def c_X7_take {α : Type} (F : Nat × Nat) (as : List Value) (u : Option rx_H) (κ : rx_K α) : Option α := match as with
  | [.ref a0, .int a1, .int a2] => (f_X7_take F a0 a1 a2 u).bind fun r => κ (some (.int r.1)) r.2
  | _ => none
noncomputable def C_X7_take {α : Type} (F : Nat × Nat) : rx_Cl α := fun j as u κ => Bool.rec (motive := fun _ => Option α) (Bool.rec (motive := fun _ => Option α) (Bool.rec (motive := fun _ => Option α) (none) (c_X7_lacks F as u κ) (Nat.beq j 179)) (c_X7_isPlace F as u κ) (Nat.beq j 173)) (c_X7_adds F as u κ) (Nat.beq j 137)
def t_X7_take : List rx_E := [
  (0, .iload_n 1, 1, 0, 0, 0, 0, 0, []),
  (1, .invokestatic 62, 3, 173, 1, 803, 0, 0, []),
  (4, .ifCond .eq 10, 3, 14, 0, 0, 0, 0, []),
  (7, .iload_n 2, 1, 0, 0, 0, 0, 0, []),
  (8, .invokestatic 62, 3, 173, 1, 803, 0, 0, []),
  (11, .ifCond .ne 5, 3, 16, 0, 0, 0, 0, []),
  (14, .iconst (-1), 1, 0, 0, 0, (-1), 0, []),
  (15, .ireturn, 1, 0, 0, 0, 0, 0, []),
  (16, .aload_n 0, 1, 0, 0, 0, 0, 0, []),
  (17, .getfield 13, 3, 3, 14, 756, 0, 0, []),
  (20, .iload_n 1, 1, 0, 0, 0, 0, 0, []),
  (21, .iaload, 1, 0, 0, 0, 0, 0, []),
  (22, .bipush 6, 2, 0, 0, 0, 6, 0, []),
  (24, .if_icmp .ge 22, 3, 46, 0, 0, 0, 0, []),
  (27, .aload_n 0, 1, 0, 0, 0, 0, 0, []),
  (28, .getfield 13, 3, 3, 14, 756, 0, 0, []),
  (31, .iload_n 1, 1, 0, 0, 0, 0, 0, []),
  (32, .iaload, 1, 0, 0, 0, 0, 0, []),
  (33, .bipush (-2), 2, 0, 0, 0, (-2), 0, []),
  (35, .if_icmp .ne 8, 3, 43, 0, 0, 0, 0, []),
  (38, .bipush (-11), 2, 0, 0, 0, (-11), 0, []),
  (40, .goto 5, 3, 45, 0, 0, 0, 0, []),
  (43, .bipush (-12), 2, 0, 0, 0, (-12), 0, []),
  (45, .ireturn, 1, 0, 0, 0, 0, 0, []),
  (46, .aload_n 0, 1, 0, 0, 0, 0, 0, []),
  (47, .iload_n 2, 1, 0, 0, 0, 0, 0, []),
  (48, .invokevirtual 74, 3, 179, 302, 824, 0, 0, []),
  (51, .ifCond .eq 9, 3, 60, 0, 0, 0, 0, []),
  (54, .aload_n 0, 1, 0, 0, 0, 0, 0, []),
  (55, .iload_n 2, 1, 0, 0, 0, 0, 0, []),
  (56, .invokevirtual 74, 3, 179, 302, 824, 0, 0, []),
  (59, .ireturn, 1, 0, 0, 0, 0, 0, []),
  (60, .iconst 0, 1, 0, 0, 0, 0, 0, []),
  (61, .istore_n 3, 1, 0, 0, 0, 0, 0, []),
  (62, .iload_n 3, 1, 0, 0, 0, 0, 0, []),
  (63, .aload_n 0, 1, 0, 0, 0, 0, 0, []),
  (64, .getfield 27, 3, 3, 30, 760, 0, 0, []),
  (67, .iload_n 1, 1, 0, 0, 0, 0, 0, []),
  (68, .iaload, 1, 0, 0, 0, 0, 0, []),
  (69, .if_icmp .ge 53, 3, 122, 0, 0, 0, 0, []),
  (72, .aload_n 0, 1, 0, 0, 0, 0, 0, []),
  (73, .getfield 30, 3, 3, 34, 761, 0, 0, []),
  (76, .bipush 64, 2, 0, 0, 0, 64, 0, []),
  (78, .iload_n 1, 1, 0, 0, 0, 0, 0, []),
  (79, .imul, 1, 0, 0, 0, 0, 0, []),
  (80, .iload_n 3, 1, 0, 0, 0, 0, 0, []),
  (81, .iadd, 1, 0, 0, 0, 0, 0, []),
  (82, .laload, 1, 0, 0, 0, 0, 0, []),
  (83, .lstore 4, 2, 0, 0, 0, 0, 0, []),
  (85, .lload 4, 2, 0, 0, 0, 0, 0, []),
  (87, .lconst 0, 1, 0, 0, 0, 0, 0, []),
  (88, .lcmp, 1, 0, 0, 0, 0, 0, []),
  (89, .ifCond .lt 25, 3, 114, 0, 0, 0, 0, []),
  (92, .lload 4, 2, 0, 0, 0, 0, 0, []),
  (94, .aload_n 0, 1, 0, 0, 0, 0, 0, []),
  (95, .getfield 51, 3, 3, 8, 755, 0, 0, []),
  (98, .i2l, 1, 0, 0, 0, 0, 0, []),
  (99, .lcmp, 1, 0, 0, 0, 0, 0, []),
  (100, .ifCond .ge 14, 3, 114, 0, 0, 0, 0, []),
  (103, .aload_n 0, 1, 0, 0, 0, 0, 0, []),
  (104, .iload_n 2, 1, 0, 0, 0, 0, 0, []),
  (105, .lload 4, 2, 0, 0, 0, 0, 0, []),
  (107, .l2i, 1, 0, 0, 0, 0, 0, []),
  (108, .invokevirtual 99, 3, 137, 303, 836, 0, 0, []),
  (111, .ifCond .ge 5, 3, 116, 0, 0, 0, 0, []),
  (114, .iload_n 3, 1, 0, 0, 0, 0, 0, []),
  (115, .ireturn, 1, 0, 0, 0, 0, 0, []),
  (116, .iinc 3 1, 3, 0, 0, 0, 1, 0, []),
  (119, .goto (-57), 3, 62, 0, 0, 0, 0, []),
  (122, .aload_n 0, 1, 0, 0, 0, 0, 0, []),
  (123, .getfield 27, 3, 3, 30, 760, 0, 0, []),
  (126, .iload_n 1, 1, 0, 0, 0, 0, 0, []),
  (127, .iaload, 1, 0, 0, 0, 0, 0, []),
  (128, .ireturn, 1, 0, 0, 0, 0, 0, [])]
def n_X7_take_62 (k62 : Nat → Int32 → Int32 → Int32 → Option rx_H → Option (Int32 × Option rx_H)) (ls : rx_L) (st : List Value) (u : Option rx_H) : Option (Int32 × Option rx_H) := match ls, st, u with
  | [some (.ref x0), some (.int x1), some (.int x2), some (.int x3), _, _], [], u => k62 x0 x1 x2 x3 u
  | _, _, _ => none
noncomputable def kk_X7_take_62 (F : Nat × Nat) (k62 : Nat → Int32 → Int32 → Int32 → Option rx_H → Option (Int32 × Option rx_H)) : Nat → rx_L → List Value → Option rx_H → Option (Int32 × Option rx_H) := fun t ls st u => Bool.rec (motive := fun _ => Option (Int32 × Option rx_H)) (none) (n_X7_take_62 k62 ls st u) (Nat.beq t 62)
noncomputable def kk_X7_take_0 (F : Nat × Nat) : Nat → rx_L → List Value → Option rx_H → Option (Int32 × Option rx_H) := fun t ls st u => Bool.rec (motive := fun _ => Option (Int32 × Option rx_H)) (none) (n_X7_take_62 (f_X7_take_62 F F.1) ls st u) (Nat.beq t 62)
set_option maxRecDepth 100000 in
theorem g_X7_take_62 (F : Nat × Nat) (f : Nat) (x0 : Nat) (x1 : Int32) (x2 : Int32) (x3 : Int32) (u : Option rx_H) : f_X7_take_62 F (f + 1) x0 x1 x2 x3 u = rx_node (C_X7_take F) rx_hI t_X7_take [62] (kk_X7_take_62 F (f_X7_take_62 F f)) 77 62 [some (.ref x0), some (.int x1), some (.int x2), some (.int x3), none, none] [] u := rfl
set_option maxRecDepth 100000 in
theorem g_X7_take_0 (F : Nat × Nat) (x0 : Nat) (x1 : Int32) (x2 : Int32) (u : Option rx_H) : f_X7_take_0 F x0 x1 x2 u = rx_node (C_X7_take F) rx_hI t_X7_take [62] (kk_X7_take_0 F) 77 0 [some (.ref x0), some (.int x1), some (.int x2), none, none, none] [] u := rfl
def f_X7_heft_0 (F : Nat × Nat) (x0 : Nat) (x1 : Int32) (u : Option rx_H) : Option (Int32 × Option rx_H) :=
  (f_X7_isPlace F x1).bind fun v1 =>
  if v1 = 0 then
    some ((-1 : Int32), u)
  else
    (rx_ck u x0 3).bind fun _ =>
    (f_X7_lacks F x0 x1 u).bind fun v2 =>
    if v2.1 = 0 then
      (rx_gR v2.2 x0 3 5).bind fun v3 =>
      (rx_aJ v2.2 v3 x1).bind fun v4 =>
      (f_X7_many F v4).bind fun v5 =>
      (rx_gR v2.2 x0 3 3).bind fun v6 =>
      (rx_aI v2.2 v6 x1).bind fun v7 =>
      if v7 = 1 then
        some ((v5 + (10 : Int32)) + (100 : Int32), v2.2)
      else if v7 = 2 then
        (rx_gR v2.2 x0 3 4).bind fun v8 =>
        (rx_aI v2.2 v8 x1).bind fun v9 =>
        some ((v5 + (10 : Int32)) + v9, v2.2)
      else if v7 = 3 then
        some ((v5 + (10 : Int32)) + (1000 : Int32), v2.2)
      else if v7 = 4 then
        some ((2 : Int32) * ((v5 + (10 : Int32)) + (100 : Int32)), v2.2)
      else if v7 = 5 then
        (rx_gR v2.2 x0 3 4).bind fun v10 =>
        (rx_aI v2.2 v10 x1).bind fun v11 =>
        (rx_gR v2.2 x0 3 6).bind fun v12 =>
        (rx_aJ v2.2 v12 x1).bind fun v13 =>
        (f_X7_many F v13).bind fun v14 =>
        some (((v5 + (10 : Int32)) + v11) + v14, v2.2)
      else 
        some (v5 + (10 : Int32), v2.2)
    else
      (rx_ck v2.2 x0 3).bind fun _ =>
      (f_X7_lacks F x0 x1 v2.2).bind fun v15 =>
      some (v15.1, v15.2)
def f_X7_heft (F : Nat × Nat) (x0 : Nat) (x1 : Int32) (u : Option rx_H) : Option (Int32 × Option rx_H) := f_X7_heft_0 F x0 x1 u
def c_X7_heft {α : Type} (F : Nat × Nat) (as : List Value) (u : Option rx_H) (κ : rx_K α) : Option α := match as with
  | [.ref a0, .int a1] => (f_X7_heft F a0 a1 u).bind fun r => κ (some (.int r.1)) r.2
  | _ => none
noncomputable def C_X7_heft {α : Type} (F : Nat × Nat) : rx_Cl α := fun j as u κ => Bool.rec (motive := fun _ => Option α) (Bool.rec (motive := fun _ => Option α) (Bool.rec (motive := fun _ => Option α) (none) (c_X7_many F as u κ) (Nat.beq j 184)) (c_X7_lacks F as u κ) (Nat.beq j 179)) (c_X7_isPlace F as u κ) (Nat.beq j 173)
def t_X7_heft : List rx_E := [
  (0, .iload_n 1, 1, 0, 0, 0, 0, 0, []),
  (1, .invokestatic 62, 3, 173, 1, 803, 0, 0, []),
  (4, .ifCond .ne 5, 3, 9, 0, 0, 0, 0, []),
  (7, .iconst (-1), 1, 0, 0, 0, (-1), 0, []),
  (8, .ireturn, 1, 0, 0, 0, 0, 0, []),
  (9, .aload_n 0, 1, 0, 0, 0, 0, 0, []),
  (10, .iload_n 1, 1, 0, 0, 0, 0, 0, []),
  (11, .invokevirtual 74, 3, 179, 302, 824, 0, 0, []),
  (14, .ifCond .eq 9, 3, 23, 0, 0, 0, 0, []),
  (17, .aload_n 0, 1, 0, 0, 0, 0, 0, []),
  (18, .iload_n 1, 1, 0, 0, 0, 0, 0, []),
  (19, .invokevirtual 74, 3, 179, 302, 824, 0, 0, []),
  (22, .ireturn, 1, 0, 0, 0, 0, 0, []),
  (23, .aload_n 0, 1, 0, 0, 0, 0, 0, []),
  (24, .getfield 20, 3, 3, 22, 758, 0, 0, []),
  (27, .iload_n 1, 1, 0, 0, 0, 0, 0, []),
  (28, .laload, 1, 0, 0, 0, 0, 0, []),
  (29, .invokestatic 58, 3, 184, 1, 817, 0, 0, []),
  (32, .bipush 10, 2, 0, 0, 0, 10, 0, []),
  (34, .iadd, 1, 0, 0, 0, 0, 0, []),
  (35, .istore_n 2, 1, 0, 0, 0, 0, 0, []),
  (36, .aload_n 0, 1, 0, 0, 0, 0, 0, []),
  (37, .getfield 13, 3, 3, 14, 756, 0, 0, []),
  (40, .iload_n 1, 1, 0, 0, 0, 0, 0, []),
  (41, .iaload, 1, 0, 0, 0, 0, 0, []),
  (42, .tableswitch 80 1 5 #[34, 46, 74, 39, 55], 34, 122, 0, 0, 0, 0, [(1, 76), (2, 88), (3, 116), (4, 81), (5, 97)]),
  (76, .iload_n 2, 1, 0, 0, 0, 0, 0, []),
  (77, .bipush 100, 2, 0, 0, 0, 100, 0, []),
  (79, .iadd, 1, 0, 0, 0, 0, 0, []),
  (80, .ireturn, 1, 0, 0, 0, 0, 0, []),
  (81, .iconst 2, 1, 0, 0, 0, 2, 0, []),
  (82, .iload_n 2, 1, 0, 0, 0, 0, 0, []),
  (83, .bipush 100, 2, 0, 0, 0, 100, 0, []),
  (85, .iadd, 1, 0, 0, 0, 0, 0, []),
  (86, .imul, 1, 0, 0, 0, 0, 0, []),
  (87, .ireturn, 1, 0, 0, 0, 0, 0, []),
  (88, .iload_n 2, 1, 0, 0, 0, 0, 0, []),
  (89, .aload_n 0, 1, 0, 0, 0, 0, 0, []),
  (90, .getfield 17, 3, 3, 18, 757, 0, 0, []),
  (93, .iload_n 1, 1, 0, 0, 0, 0, 0, []),
  (94, .iaload, 1, 0, 0, 0, 0, 0, []),
  (95, .iadd, 1, 0, 0, 0, 0, 0, []),
  (96, .ireturn, 1, 0, 0, 0, 0, 0, []),
  (97, .iload_n 2, 1, 0, 0, 0, 0, 0, []),
  (98, .aload_n 0, 1, 0, 0, 0, 0, 0, []),
  (99, .getfield 17, 3, 3, 18, 757, 0, 0, []),
  (102, .iload_n 1, 1, 0, 0, 0, 0, 0, []),
  (103, .iaload, 1, 0, 0, 0, 0, 0, []),
  (104, .iadd, 1, 0, 0, 0, 0, 0, []),
  (105, .aload_n 0, 1, 0, 0, 0, 0, 0, []),
  (106, .getfield 24, 3, 3, 26, 759, 0, 0, []),
  (109, .iload_n 1, 1, 0, 0, 0, 0, 0, []),
  (110, .laload, 1, 0, 0, 0, 0, 0, []),
  (111, .invokestatic 58, 3, 184, 1, 817, 0, 0, []),
  (114, .iadd, 1, 0, 0, 0, 0, 0, []),
  (115, .ireturn, 1, 0, 0, 0, 0, 0, []),
  (116, .iload_n 2, 1, 0, 0, 0, 0, 0, []),
  (117, .sipush 1000, 3, 0, 0, 0, 1000, 0, []),
  (120, .iadd, 1, 0, 0, 0, 0, 0, []),
  (121, .ireturn, 1, 0, 0, 0, 0, 0, []),
  (122, .iload_n 2, 1, 0, 0, 0, 0, 0, []),
  (123, .ireturn, 1, 0, 0, 0, 0, 0, [])]
noncomputable def kk_X7_heft_0 (F : Nat × Nat) : Nat → rx_L → List Value → Option rx_H → Option (Int32 × Option rx_H) := fun t ls st u => none
set_option maxRecDepth 100000 in
theorem g_X7_heft_0 (F : Nat × Nat) (x0 : Nat) (x1 : Int32) (u : Option rx_H) : f_X7_heft_0 F x0 x1 u = rx_node (C_X7_heft F) rx_hI t_X7_heft [] (kk_X7_heft_0 F) 65 0 [some (.ref x0), some (.int x1), none] [] u := rfl
def f_X7_toss_0 (F : Nat × Nat) (x0 : Nat) (x1 : Int32) (u : Option rx_H) : Option (Int32 × Option rx_H) :=
  (f_X7_isPlace F x1).bind fun v1 =>
  if v1 = 0 then
    some ((-1 : Int32), u)
  else
    (rx_ck u x0 3).bind fun _ =>
    (f_X7_lacks F x0 x1 u).bind fun v2 =>
    if v2.1 = 0 then
      (rx_gR v2.2 x0 3 3).bind fun v3 =>
      (rx_aI v2.2 v3 x1).bind fun v4 =>
      if v4 = (2 : Int32) then
        (rx_gR v2.2 x0 3 4).bind fun v5 =>
        (rx_aI v2.2 v5 x1).bind fun v6 =>
        some (v6, v2.2)
      else
        (rx_gR v2.2 x0 3 3).bind fun v7 =>
        (rx_aI v2.2 v7 x1).bind fun v8 =>
        if v8 = (4 : Int32) then
          (rx_gR v2.2 x0 3 4).bind fun v9 =>
          (rx_aI v2.2 v9 x1).bind fun v10 =>
          some (v10, v2.2)
        else
          (rx_gR v2.2 x0 3 3).bind fun v11 =>
          (rx_aI v2.2 v11 x1).bind fun v12 =>
          if v12 = (5 : Int32) then
            (rx_gR v2.2 x0 3 4).bind fun v13 =>
            (rx_aI v2.2 v13 x1).bind fun v14 =>
            some (v14, v2.2)
          else
            some ((-15 : Int32), v2.2)
    else
      (rx_ck v2.2 x0 3).bind fun _ =>
      (f_X7_lacks F x0 x1 v2.2).bind fun v15 =>
      some (v15.1, v15.2)
def f_X7_toss (F : Nat × Nat) (x0 : Nat) (x1 : Int32) (u : Option rx_H) : Option (Int32 × Option rx_H) := f_X7_toss_0 F x0 x1 u
def c_X7_toss {α : Type} (F : Nat × Nat) (as : List Value) (u : Option rx_H) (κ : rx_K α) : Option α := match as with
  | [.ref a0, .int a1] => (f_X7_toss F a0 a1 u).bind fun r => κ (some (.int r.1)) r.2
  | _ => none
noncomputable def C_X7_toss {α : Type} (F : Nat × Nat) : rx_Cl α := fun j as u κ => Bool.rec (motive := fun _ => Option α) (Bool.rec (motive := fun _ => Option α) (none) (c_X7_lacks F as u κ) (Nat.beq j 179)) (c_X7_isPlace F as u κ) (Nat.beq j 173)
def t_X7_toss : List rx_E := [
  (0, .iload_n 1, 1, 0, 0, 0, 0, 0, []),
  (1, .invokestatic 62, 3, 173, 1, 803, 0, 0, []),
  (4, .ifCond .ne 5, 3, 9, 0, 0, 0, 0, []),
  (7, .iconst (-1), 1, 0, 0, 0, (-1), 0, []),
  (8, .ireturn, 1, 0, 0, 0, 0, 0, []),
  (9, .aload_n 0, 1, 0, 0, 0, 0, 0, []),
  (10, .iload_n 1, 1, 0, 0, 0, 0, 0, []),
  (11, .invokevirtual 74, 3, 179, 302, 824, 0, 0, []),
  (14, .ifCond .eq 9, 3, 23, 0, 0, 0, 0, []),
  (17, .aload_n 0, 1, 0, 0, 0, 0, 0, []),
  (18, .iload_n 1, 1, 0, 0, 0, 0, 0, []),
  (19, .invokevirtual 74, 3, 179, 302, 824, 0, 0, []),
  (22, .ireturn, 1, 0, 0, 0, 0, 0, []),
  (23, .aload_n 0, 1, 0, 0, 0, 0, 0, []),
  (24, .getfield 13, 3, 3, 14, 756, 0, 0, []),
  (27, .iload_n 1, 1, 0, 0, 0, 0, 0, []),
  (28, .iaload, 1, 0, 0, 0, 0, 0, []),
  (29, .iconst 2, 1, 0, 0, 0, 2, 0, []),
  (30, .if_icmp .eq 23, 3, 53, 0, 0, 0, 0, []),
  (33, .aload_n 0, 1, 0, 0, 0, 0, 0, []),
  (34, .getfield 13, 3, 3, 14, 756, 0, 0, []),
  (37, .iload_n 1, 1, 0, 0, 0, 0, 0, []),
  (38, .iaload, 1, 0, 0, 0, 0, 0, []),
  (39, .iconst 4, 1, 0, 0, 0, 4, 0, []),
  (40, .if_icmp .eq 13, 3, 53, 0, 0, 0, 0, []),
  (43, .aload_n 0, 1, 0, 0, 0, 0, 0, []),
  (44, .getfield 13, 3, 3, 14, 756, 0, 0, []),
  (47, .iload_n 1, 1, 0, 0, 0, 0, 0, []),
  (48, .iaload, 1, 0, 0, 0, 0, 0, []),
  (49, .iconst 5, 1, 0, 0, 0, 5, 0, []),
  (50, .if_icmp .ne 12, 3, 62, 0, 0, 0, 0, []),
  (53, .aload_n 0, 1, 0, 0, 0, 0, 0, []),
  (54, .getfield 17, 3, 3, 18, 757, 0, 0, []),
  (57, .iload_n 1, 1, 0, 0, 0, 0, 0, []),
  (58, .iaload, 1, 0, 0, 0, 0, 0, []),
  (59, .goto 5, 3, 64, 0, 0, 0, 0, []),
  (62, .bipush (-15), 2, 0, 0, 0, (-15), 0, []),
  (64, .ireturn, 1, 0, 0, 0, 0, 0, [])]
noncomputable def kk_X7_toss_0 (F : Nat × Nat) : Nat → rx_L → List Value → Option rx_H → Option (Int32 × Option rx_H) := fun t ls st u => none
set_option maxRecDepth 100000 in
theorem g_X7_toss_0 (F : Nat × Nat) (x0 : Nat) (x1 : Int32) (u : Option rx_H) : f_X7_toss_0 F x0 x1 u = rx_node (C_X7_toss F) rx_hI t_X7_toss [] (kk_X7_toss_0 F) 41 0 [some (.ref x0), some (.int x1)] [] u := rfl
def f_L_cell_0 (F : Nat × Nat) (x0 : Nat) (x1 : Int32) (u : Option rx_H) : Option (Int32 × Option rx_H) :=
  (rx_len u x0).bind fun v1 =>
  if x1 < v1 then
    (rx_aI u x0 x1).bind fun v2 =>
    some (v2, u)
  else
    some ((0 : Int32), u)
def f_L_cell (F : Nat × Nat) (x0 : Nat) (x1 : Int32) (u : Option rx_H) : Option (Int32 × Option rx_H) := f_L_cell_0 F x0 x1 u
def c_L_cell {α : Type} (F : Nat × Nat) (as : List Value) (u : Option rx_H) (κ : rx_K α) : Option α := match as with
  | [.ref a0, .int a1] => (f_L_cell F a0 a1 u).bind fun r => κ (some (.int r.1)) r.2
  | _ => none
noncomputable def C_L_cell {α : Type} (F : Nat × Nat) : rx_Cl α := fun j as u κ => none
def t_L_cell : List rx_E := [
  (0, .iload_n 1, 1, 0, 0, 0, 0, 0, []),
  (1, .aload_n 0, 1, 0, 0, 0, 0, 0, []),
  (2, .arraylength, 1, 0, 0, 0, 0, 0, []),
  (3, .if_icmp .ge 9, 3, 12, 0, 0, 0, 0, []),
  (6, .aload_n 0, 1, 0, 0, 0, 0, 0, []),
  (7, .iload_n 1, 1, 0, 0, 0, 0, 0, []),
  (8, .iaload, 1, 0, 0, 0, 0, 0, []),
  (9, .goto 4, 3, 13, 0, 0, 0, 0, []),
  (12, .iconst 0, 1, 0, 0, 0, 0, 0, []),
  (13, .ireturn, 1, 0, 0, 0, 0, 0, [])]
noncomputable def kk_L_cell_0 (F : Nat × Nat) : Nat → rx_L → List Value → Option rx_H → Option (Int32 × Option rx_H) := fun t ls st u => none
set_option maxRecDepth 100000 in
theorem g_L_cell_0 (F : Nat × Nat) (x0 : Nat) (x1 : Int32) (u : Option rx_H) : f_L_cell_0 F x0 x1 u = rx_node (C_L_cell F) rx_hI t_L_cell [] (kk_L_cell_0 F) 13 0 [some (.ref x0), some (.int x1)] [] u := rfl
