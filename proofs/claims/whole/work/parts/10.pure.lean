def f_J13_bitCount_95d88_55 (F : Nat × Nat) (x0 : Int64) : Option Int32 :=
  some ((Int64.toInt32 x0) &&& (127 : Int32))
def f_J13_bitCount_95d88_48 (F : Nat × Nat) (x0 : Int64) : Option Int32 :=
  f_J13_bitCount_95d88_55 F (x0 + ((Int64.toUInt64 x0 >>> ((Int32.toInt64 (32 : Int32)).toUInt64 &&& Int64.toUInt64 63)).toInt64))
def f_J13_bitCount_95d88_41 (F : Nat × Nat) (x0 : Int64) : Option Int32 :=
  f_J13_bitCount_95d88_48 F (x0 + ((Int64.toUInt64 x0 >>> ((Int32.toInt64 (16 : Int32)).toUInt64 &&& Int64.toUInt64 63)).toInt64))
def f_J13_bitCount_95d88_34 (F : Nat × Nat) (x0 : Int64) : Option Int32 :=
  f_J13_bitCount_95d88_41 F (x0 + ((Int64.toUInt64 x0 >>> ((Int32.toInt64 (8 : Int32)).toUInt64 &&& Int64.toUInt64 63)).toInt64))
def f_J13_bitCount_95d88_24 (F : Nat × Nat) (x0 : Int64) : Option Int32 :=
  f_J13_bitCount_95d88_34 F ((x0 + ((Int64.toUInt64 x0 >>> ((Int32.toInt64 (4 : Int32)).toUInt64 &&& Int64.toUInt64 63)).toInt64)) &&& (1085102592571150095 : Int64))
def f_J13_bitCount_95d88_10 (F : Nat × Nat) (x0 : Int64) : Option Int32 :=
  f_J13_bitCount_95d88_24 F ((x0 &&& (3689348814741910323 : Int64)) + (((Int64.toUInt64 x0 >>> ((Int32.toInt64 (2 : Int32)).toUInt64 &&& Int64.toUInt64 63)).toInt64) &&& (3689348814741910323 : Int64)))
def f_J13_bitCount_95d88_0 (F : Nat × Nat) (x0 : Int64) : Option Int32 :=
  f_J13_bitCount_95d88_10 F (x0 - (((Int64.toUInt64 x0 >>> ((Int32.toInt64 (1 : Int32)).toUInt64 &&& Int64.toUInt64 63)).toInt64) &&& (6148914691236517205 : Int64)))
def f_J13_bitCount_95d88 (F : Nat × Nat) (x0 : Int64) : Option Int32 := f_J13_bitCount_95d88_0 F x0
def c_J13_bitCount_95d88 {α : Type} (F : Nat × Nat) (as : List Value) (u : Option rx_H) (κ : rx_K α) : Option α := match as with
  | [.long a0] => (f_J13_bitCount_95d88 F a0).bind fun r => κ (some (.int r)) u
  | _ => none
noncomputable def C_J13_bitCount_95d88 {α : Type} (F : Nat × Nat) : rx_Cl α := fun j as u κ => none
def t_J13_bitCount_95d88 : List rx_E := [
  (0, .lload_n 0, 1, 0, 0, 0, 0, 0, []),
  (1, .lload_n 0, 1, 0, 0, 0, 0, 0, []),
  (2, .iconst 1, 1, 0, 0, 0, 1, 0, []),
  (3, .lushr, 1, 0, 0, 0, 0, 0, []),
  (4, .ldc2_w 314, 3, 0, 0, 187, 0, 6148914691236517205, []),
  (7, .land, 1, 0, 0, 0, 0, 0, []),
  (8, .lsub, 1, 0, 0, 0, 0, 0, []),
  (9, .lstore_n 0, 1, 0, 0, 0, 0, 0, []),
  (10, .lload_n 0, 1, 0, 0, 0, 0, 0, []),
  (11, .ldc2_w 316, 3, 0, 0, 188, 0, 3689348814741910323, []),
  (14, .land, 1, 0, 0, 0, 0, 0, []),
  (15, .lload_n 0, 1, 0, 0, 0, 0, 0, []),
  (16, .iconst 2, 1, 0, 0, 0, 2, 0, []),
  (17, .lushr, 1, 0, 0, 0, 0, 0, []),
  (18, .ldc2_w 316, 3, 0, 0, 188, 0, 3689348814741910323, []),
  (21, .land, 1, 0, 0, 0, 0, 0, []),
  (22, .ladd, 1, 0, 0, 0, 0, 0, []),
  (23, .lstore_n 0, 1, 0, 0, 0, 0, 0, []),
  (24, .lload_n 0, 1, 0, 0, 0, 0, 0, []),
  (25, .lload_n 0, 1, 0, 0, 0, 0, 0, []),
  (26, .iconst 4, 1, 0, 0, 0, 4, 0, []),
  (27, .lushr, 1, 0, 0, 0, 0, 0, []),
  (28, .ladd, 1, 0, 0, 0, 0, 0, []),
  (29, .ldc2_w 318, 3, 0, 0, 189, 0, 1085102592571150095, []),
  (32, .land, 1, 0, 0, 0, 0, 0, []),
  (33, .lstore_n 0, 1, 0, 0, 0, 0, 0, []),
  (34, .lload_n 0, 1, 0, 0, 0, 0, 0, []),
  (35, .lload_n 0, 1, 0, 0, 0, 0, 0, []),
  (36, .bipush 8, 2, 0, 0, 0, 8, 0, []),
  (38, .lushr, 1, 0, 0, 0, 0, 0, []),
  (39, .ladd, 1, 0, 0, 0, 0, 0, []),
  (40, .lstore_n 0, 1, 0, 0, 0, 0, 0, []),
  (41, .lload_n 0, 1, 0, 0, 0, 0, 0, []),
  (42, .lload_n 0, 1, 0, 0, 0, 0, 0, []),
  (43, .bipush 16, 2, 0, 0, 0, 16, 0, []),
  (45, .lushr, 1, 0, 0, 0, 0, 0, []),
  (46, .ladd, 1, 0, 0, 0, 0, 0, []),
  (47, .lstore_n 0, 1, 0, 0, 0, 0, 0, []),
  (48, .lload_n 0, 1, 0, 0, 0, 0, 0, []),
  (49, .lload_n 0, 1, 0, 0, 0, 0, 0, []),
  (50, .bipush 32, 2, 0, 0, 0, 32, 0, []),
  (52, .lushr, 1, 0, 0, 0, 0, 0, []),
  (53, .ladd, 1, 0, 0, 0, 0, 0, []),
  (54, .lstore_n 0, 1, 0, 0, 0, 0, 0, []),
  (55, .lload_n 0, 1, 0, 0, 0, 0, 0, []),
  (56, .l2i, 1, 0, 0, 0, 0, 0, []),
  (57, .bipush 127, 2, 0, 0, 0, 127, 0, []),
  (59, .iand, 1, 0, 0, 0, 0, 0, []),
  (60, .ireturn, 1, 0, 0, 0, 0, 0, [])]
def n_J13_bitCount_95d88_10 (F : Nat × Nat) (ls : rx_L) (st : List Value) (u : Option rx_H) : Option Int32 := match ls, st, u with
  | [some (.long x0), _], [], none => f_J13_bitCount_95d88_10 F x0
  | _, _, _ => none
def n_J13_bitCount_95d88_24 (F : Nat × Nat) (ls : rx_L) (st : List Value) (u : Option rx_H) : Option Int32 := match ls, st, u with
  | [some (.long x0), _], [], none => f_J13_bitCount_95d88_24 F x0
  | _, _, _ => none
def n_J13_bitCount_95d88_34 (F : Nat × Nat) (ls : rx_L) (st : List Value) (u : Option rx_H) : Option Int32 := match ls, st, u with
  | [some (.long x0), _], [], none => f_J13_bitCount_95d88_34 F x0
  | _, _, _ => none
def n_J13_bitCount_95d88_41 (F : Nat × Nat) (ls : rx_L) (st : List Value) (u : Option rx_H) : Option Int32 := match ls, st, u with
  | [some (.long x0), _], [], none => f_J13_bitCount_95d88_41 F x0
  | _, _, _ => none
def n_J13_bitCount_95d88_48 (F : Nat × Nat) (ls : rx_L) (st : List Value) (u : Option rx_H) : Option Int32 := match ls, st, u with
  | [some (.long x0), _], [], none => f_J13_bitCount_95d88_48 F x0
  | _, _, _ => none
def n_J13_bitCount_95d88_55 (F : Nat × Nat) (ls : rx_L) (st : List Value) (u : Option rx_H) : Option Int32 := match ls, st, u with
  | [some (.long x0), _], [], none => f_J13_bitCount_95d88_55 F x0
  | _, _, _ => none
noncomputable def kk_J13_bitCount_95d88_55 (F : Nat × Nat) : Nat → rx_L → List Value → Option rx_H → Option Int32 := fun t ls st u => none
noncomputable def kk_J13_bitCount_95d88_48 (F : Nat × Nat) : Nat → rx_L → List Value → Option rx_H → Option Int32 := fun t ls st u => Bool.rec (motive := fun _ => Option Int32) (none) (n_J13_bitCount_95d88_55 F ls st u) (Nat.beq t 55)
noncomputable def kk_J13_bitCount_95d88_41 (F : Nat × Nat) : Nat → rx_L → List Value → Option rx_H → Option Int32 := fun t ls st u => Bool.rec (motive := fun _ => Option Int32) (none) (n_J13_bitCount_95d88_48 F ls st u) (Nat.beq t 48)
noncomputable def kk_J13_bitCount_95d88_34 (F : Nat × Nat) : Nat → rx_L → List Value → Option rx_H → Option Int32 := fun t ls st u => Bool.rec (motive := fun _ => Option Int32) (none) (n_J13_bitCount_95d88_41 F ls st u) (Nat.beq t 41)
noncomputable def kk_J13_bitCount_95d88_24 (F : Nat × Nat) : Nat → rx_L → List Value → Option rx_H → Option Int32 := fun t ls st u => Bool.rec (motive := fun _ => Option Int32) (none) (n_J13_bitCount_95d88_34 F ls st u) (Nat.beq t 34)
noncomputable def kk_J13_bitCount_95d88_10 (F : Nat × Nat) : Nat → rx_L → List Value → Option rx_H → Option Int32 := fun t ls st u => Bool.rec (motive := fun _ => Option Int32) (none) (n_J13_bitCount_95d88_24 F ls st u) (Nat.beq t 24)
noncomputable def kk_J13_bitCount_95d88_0 (F : Nat × Nat) : Nat → rx_L → List Value → Option rx_H → Option Int32 := fun t ls st u => Bool.rec (motive := fun _ => Option Int32) (none) (n_J13_bitCount_95d88_10 F ls st u) (Nat.beq t 10)
set_option maxRecDepth 100000 in
theorem g_J13_bitCount_95d88_55 (F : Nat × Nat) (x0 : Int64) : f_J13_bitCount_95d88_55 F x0 = rx_node (C_J13_bitCount_95d88 F) rx_rI t_J13_bitCount_95d88 [10, 24, 34, 41, 48, 55] (kk_J13_bitCount_95d88_55 F) 52 55 [some (.long x0), none] [] none := rfl
set_option maxRecDepth 100000 in
theorem g_J13_bitCount_95d88_48 (F : Nat × Nat) (x0 : Int64) : f_J13_bitCount_95d88_48 F x0 = rx_node (C_J13_bitCount_95d88 F) rx_rI t_J13_bitCount_95d88 [10, 24, 34, 41, 48, 55] (kk_J13_bitCount_95d88_48 F) 52 48 [some (.long x0), none] [] none := rfl
set_option maxRecDepth 100000 in
theorem g_J13_bitCount_95d88_41 (F : Nat × Nat) (x0 : Int64) : f_J13_bitCount_95d88_41 F x0 = rx_node (C_J13_bitCount_95d88 F) rx_rI t_J13_bitCount_95d88 [10, 24, 34, 41, 48, 55] (kk_J13_bitCount_95d88_41 F) 52 41 [some (.long x0), none] [] none := rfl
set_option maxRecDepth 100000 in
theorem g_J13_bitCount_95d88_34 (F : Nat × Nat) (x0 : Int64) : f_J13_bitCount_95d88_34 F x0 = rx_node (C_J13_bitCount_95d88 F) rx_rI t_J13_bitCount_95d88 [10, 24, 34, 41, 48, 55] (kk_J13_bitCount_95d88_34 F) 52 34 [some (.long x0), none] [] none := rfl
set_option maxRecDepth 100000 in
theorem g_J13_bitCount_95d88_24 (F : Nat × Nat) (x0 : Int64) : f_J13_bitCount_95d88_24 F x0 = rx_node (C_J13_bitCount_95d88 F) rx_rI t_J13_bitCount_95d88 [10, 24, 34, 41, 48, 55] (kk_J13_bitCount_95d88_24 F) 52 24 [some (.long x0), none] [] none := rfl
set_option maxRecDepth 100000 in
theorem g_J13_bitCount_95d88_10 (F : Nat × Nat) (x0 : Int64) : f_J13_bitCount_95d88_10 F x0 = rx_node (C_J13_bitCount_95d88 F) rx_rI t_J13_bitCount_95d88 [10, 24, 34, 41, 48, 55] (kk_J13_bitCount_95d88_10 F) 52 10 [some (.long x0), none] [] none := rfl
set_option maxRecDepth 100000 in
theorem g_J13_bitCount_95d88_0 (F : Nat × Nat) (x0 : Int64) : f_J13_bitCount_95d88_0 F x0 = rx_node (C_J13_bitCount_95d88 F) rx_rI t_J13_bitCount_95d88 [10, 24, 34, 41, 48, 55] (kk_J13_bitCount_95d88_0 F) 52 0 [some (.long x0), none] [] none := rfl
def f_X0_size_0 (F : Nat × Nat) (x0 : Int64) : Option Int32 :=
  (f_J13_bitCount_95d88 F x0).bind fun v1 =>
  some v1
def f_X0_size (F : Nat × Nat) (x0 : Int64) : Option Int32 := f_X0_size_0 F x0
def c_X0_size {α : Type} (F : Nat × Nat) (as : List Value) (u : Option rx_H) (κ : rx_K α) : Option α := match as with
  | [.long a0] => (f_X0_size F a0).bind fun r => κ (some (.int r)) u
  | _ => none
noncomputable def C_X0_size {α : Type} (F : Nat × Nat) : rx_Cl α := fun j as u κ => Bool.rec (motive := fun _ => Option α) (none) (c_J13_bitCount_95d88 F as u κ) (Nat.beq j 0)
def t_X0_size : List rx_E := [
  (0, .lload_n 0, 1, 0, 0, 0, 0, 0, []),
  (1, .invokestatic 9, 3, 0, 1, 184, 0, 0, []),
  (4, .ireturn, 1, 0, 0, 0, 0, 0, [])]
noncomputable def kk_X0_size_0 (F : Nat × Nat) : Nat → rx_L → List Value → Option rx_H → Option Int32 := fun t ls st u => none
set_option maxRecDepth 100000 in
theorem g_X0_size_0 (F : Nat × Nat) (x0 : Int64) : f_X0_size_0 F x0 = rx_node (C_X0_size F) rx_rI t_X0_size [] (kk_X0_size_0 F) 6 0 [some (.long x0), none] [] none := rfl
def f_X0_holdsSet_0 (F : Nat × Nat) (x0 : Int64) (x2 : Int32) : Option Int32 :=
  if ((Int64.toUInt64 x0 >>> ((Int32.toInt64 x2).toUInt64 &&& Int64.toUInt64 63)).toInt64) &&& (1 : Int64) = (0 : Int64) then
    some (0 : Int32)
  else
    some (1 : Int32)
def f_X0_holdsSet (F : Nat × Nat) (x0 : Int64) (x2 : Int32) : Option Int32 := f_X0_holdsSet_0 F x0 x2
def c_X0_holdsSet {α : Type} (F : Nat × Nat) (as : List Value) (u : Option rx_H) (κ : rx_K α) : Option α := match as with
  | [.long a0, .int a1] => (f_X0_holdsSet F a0 a1).bind fun r => κ (some (.int r)) u
  | _ => none
noncomputable def C_X0_holdsSet {α : Type} (F : Nat × Nat) : rx_Cl α := fun j as u κ => none
def t_X0_holdsSet : List rx_E := [
  (0, .lload_n 0, 1, 0, 0, 0, 0, 0, []),
  (1, .iload_n 2, 1, 0, 0, 0, 0, 0, []),
  (2, .lushr, 1, 0, 0, 0, 0, 0, []),
  (3, .lconst 1, 1, 0, 0, 0, 0, 1, []),
  (4, .land, 1, 0, 0, 0, 0, 0, []),
  (5, .lconst 0, 1, 0, 0, 0, 0, 0, []),
  (6, .lcmp, 1, 0, 0, 0, 0, 0, []),
  (7, .ifCond .eq 7, 3, 14, 0, 0, 0, 0, []),
  (10, .iconst 1, 1, 0, 0, 0, 1, 0, []),
  (11, .goto 4, 3, 15, 0, 0, 0, 0, []),
  (14, .iconst 0, 1, 0, 0, 0, 0, 0, []),
  (15, .ireturn, 1, 0, 2, 0, 0, 0, [])]
noncomputable def kk_X0_holdsSet_0 (F : Nat × Nat) : Nat → rx_L → List Value → Option rx_H → Option Int32 := fun t ls st u => none
set_option maxRecDepth 100000 in
theorem g_X0_holdsSet_0 (F : Nat × Nat) (x0 : Int64) (x2 : Int32) : f_X0_holdsSet_0 F x0 x2 = rx_node (C_X0_holdsSet F) rx_rI t_X0_holdsSet [] (kk_X0_holdsSet_0 F) 15 0 [some (.long x0), none, some (.int x2)] [] none := rfl
def f_X0_below_0 (F : Nat × Nat) (x0 : Int32) : Option Int64 :=
  if x0 < (64 : Int32) then
    some (((1 : Int64) <<< (Int32.toInt64 x0 &&& 63)) - (1 : Int64))
  else
    some (-1 : Int64)
def f_X0_below (F : Nat × Nat) (x0 : Int32) : Option Int64 := f_X0_below_0 F x0
def c_X0_below {α : Type} (F : Nat × Nat) (as : List Value) (u : Option rx_H) (κ : rx_K α) : Option α := match as with
  | [.int a0] => (f_X0_below F a0).bind fun r => κ (some (.long r)) u
  | _ => none
noncomputable def C_X0_below {α : Type} (F : Nat × Nat) : rx_Cl α := fun j as u κ => none
def t_X0_below : List rx_E := [
  (0, .iload_n 0, 1, 0, 0, 0, 0, 0, []),
  (1, .bipush 64, 2, 0, 0, 0, 64, 0, []),
  (3, .if_icmp .lt 9, 3, 12, 0, 0, 0, 0, []),
  (6, .ldc2_w 21, 3, 0, 0, 236, 0, (-1), []),
  (9, .goto 8, 3, 17, 0, 0, 0, 0, []),
  (12, .lconst 1, 1, 0, 0, 0, 0, 1, []),
  (13, .iload_n 0, 1, 0, 0, 0, 0, 0, []),
  (14, .lshl, 1, 0, 0, 0, 0, 0, []),
  (15, .lconst 1, 1, 0, 0, 0, 0, 1, []),
  (16, .lsub, 1, 0, 0, 0, 0, 0, []),
  (17, .lreturn, 1, 0, 0, 0, 0, 0, [])]
noncomputable def kk_X0_below_0 (F : Nat × Nat) : Nat → rx_L → List Value → Option rx_H → Option Int64 := fun t ls st u => none
set_option maxRecDepth 100000 in
theorem g_X0_below_0 (F : Nat × Nat) (x0 : Int32) : f_X0_below_0 F x0 = rx_node (C_X0_below F) rx_rJ t_X0_below [] (kk_X0_below_0 F) 14 0 [some (.int x0)] [] none := rfl
def f_X0_next_0 (F : Nat × Nat) (x0 : Int64) (x2 : Int32) : Option Int32 :=
  (f_X0_below F x2).bind fun v1 =>
  (f_J13_bitCount_95d88 F (((x0 &&& (v1 ^^^ (-1 : Int64))) &&& (-(x0 &&& (v1 ^^^ (-1 : Int64))))) - (1 : Int64))).bind fun v2 =>
  some v2
def f_X0_next (F : Nat × Nat) (x0 : Int64) (x2 : Int32) : Option Int32 := f_X0_next_0 F x0 x2
def c_X0_next {α : Type} (F : Nat × Nat) (as : List Value) (u : Option rx_H) (κ : rx_K α) : Option α := match as with
  | [.long a0, .int a1] => (f_X0_next F a0 a1).bind fun r => κ (some (.int r)) u
  | _ => none
noncomputable def C_X0_next {α : Type} (F : Nat × Nat) : rx_Cl α := fun j as u κ => Bool.rec (motive := fun _ => Option α) (Bool.rec (motive := fun _ => Option α) (none) (c_X0_below F as u κ) (Nat.beq j 11)) (c_J13_bitCount_95d88 F as u κ) (Nat.beq j 0)
def t_X0_next : List rx_E := [
  (0, .lload_n 0, 1, 0, 0, 0, 0, 0, []),
  (1, .iload_n 2, 1, 0, 0, 0, 0, 0, []),
  (2, .invokestatic 15, 3, 11, 1, 233, 0, 0, []),
  (5, .ldc2_w 21, 3, 0, 0, 236, 0, (-1), []),
  (8, .lxor, 1, 0, 0, 0, 0, 0, []),
  (9, .land, 1, 0, 0, 0, 0, 0, []),
  (10, .lstore_n 3, 1, 0, 0, 0, 0, 0, []),
  (11, .lload_n 3, 1, 0, 0, 0, 0, 0, []),
  (12, .lload_n 3, 1, 0, 0, 0, 0, 0, []),
  (13, .lneg, 1, 0, 0, 0, 0, 0, []),
  (14, .land, 1, 0, 0, 0, 0, 0, []),
  (15, .lconst 1, 1, 0, 0, 0, 0, 1, []),
  (16, .lsub, 1, 0, 0, 0, 0, 0, []),
  (17, .invokestatic 9, 3, 0, 1, 184, 0, 0, []),
  (20, .ireturn, 1, 0, 0, 0, 0, 0, [])]
noncomputable def kk_X0_next_0 (F : Nat × Nat) : Nat → rx_L → List Value → Option rx_H → Option Int32 := fun t ls st u => none
set_option maxRecDepth 100000 in
theorem g_X0_next_0 (F : Nat × Nat) (x0 : Int64) (x2 : Int32) : f_X0_next_0 F x0 x2 = rx_node (C_X0_next F) rx_rI t_X0_next [] (kk_X0_next_0 F) 18 0 [some (.long x0), none, some (.int x2), none, none] [] none := rfl
def f_X0_leastOf_0 (F : Nat × Nat) (x0 : Int64) : Option Int32 :=
  if x0 = (0 : Int64) then
    some (-2 : Int32)
  else
    (f_X0_next F x0 (0 : Int32)).bind fun v1 =>
    some v1
def f_X0_leastOf (F : Nat × Nat) (x0 : Int64) : Option Int32 := f_X0_leastOf_0 F x0
def c_X0_leastOf {α : Type} (F : Nat × Nat) (as : List Value) (u : Option rx_H) (κ : rx_K α) : Option α := match as with
  | [.long a0] => (f_X0_leastOf F a0).bind fun r => κ (some (.int r)) u
  | _ => none
noncomputable def C_X0_leastOf {α : Type} (F : Nat × Nat) : rx_Cl α := fun j as u κ => Bool.rec (motive := fun _ => Option α) (none) (c_X0_next F as u κ) (Nat.beq j 23)
def t_X0_leastOf : List rx_E := [
  (0, .lload_n 0, 1, 0, 0, 0, 0, 0, []),
  (1, .lconst 0, 1, 0, 0, 0, 0, 0, []),
  (2, .lcmp, 1, 0, 0, 0, 0, 0, []),
  (3, .ifCond .ne 8, 3, 11, 0, 0, 0, 0, []),
  (6, .bipush (-2), 2, 0, 0, 0, (-2), 0, []),
  (8, .goto 8, 3, 16, 0, 0, 0, 0, []),
  (11, .lload_n 0, 1, 0, 0, 0, 0, 0, []),
  (12, .iconst 0, 1, 0, 0, 0, 0, 0, []),
  (13, .invokestatic 23, 3, 23, 2, 230, 0, 0, []),
  (16, .ireturn, 1, 0, 0, 0, 0, 0, [])]
noncomputable def kk_X0_leastOf_0 (F : Nat × Nat) : Nat → rx_L → List Value → Option rx_H → Option Int32 := fun t ls st u => none
set_option maxRecDepth 100000 in
theorem g_X0_leastOf_0 (F : Nat × Nat) (x0 : Int64) : f_X0_leastOf_0 F x0 = rx_node (C_X0_leastOf F) rx_rI t_X0_leastOf [] (kk_X0_leastOf_0 F) 13 0 [some (.long x0), none] [] none := rfl
def f_X0_setAt_35 (F : Nat × Nat) (x3 : Int32) : Option Int32 :=
  if x3 < (64 : Int32) then
    some x3
  else
    some (-2 : Int32)
def f_X0_setAt_9 (F : Nat × Nat) : Nat → Int64 → Int32 → Int32 → Int32 → Option Int32
  | 0, _, _, _, _ => none
  | f + 1, x0, x2, x3, x4 =>
    if x4 < x2 then
      if x3 < (64 : Int32) then
        (f_X0_next F x0 (x3 + (1 : Int32))).bind fun v1 =>
        (f_X0_setAt_9 F f) x0 x2 v1 (x4 + 1)
      else
        f_X0_setAt_35 F x3
    else
      f_X0_setAt_35 F x3
def f_X0_setAt_0 (F : Nat × Nat) (x0 : Int64) (x2 : Int32) : Option Int32 :=
  (f_X0_next F x0 (0 : Int32)).bind fun v1 =>
  f_X0_setAt_9 F F.1 x0 x2 v1 (0 : Int32)
def f_X0_setAt (F : Nat × Nat) (x0 : Int64) (x2 : Int32) : Option Int32 := f_X0_setAt_0 F x0 x2
def c_X0_setAt {α : Type} (F : Nat × Nat) (as : List Value) (u : Option rx_H) (κ : rx_K α) : Option α := match as with
  | [.long a0, .int a1] => (f_X0_setAt F a0 a1).bind fun r => κ (some (.int r)) u
  | _ => none
noncomputable def C_X0_setAt {α : Type} (F : Nat × Nat) : rx_Cl α := fun j as u κ => Bool.rec (motive := fun _ => Option α) (none) (c_X0_next F as u κ) (Nat.beq j 23)
def t_X0_setAt : List rx_E := [
  (0, .lload_n 0, 1, 0, 0, 0, 0, 0, []),
  (1, .iconst 0, 1, 0, 0, 0, 0, 0, []),
  (2, .invokestatic 23, 3, 23, 2, 230, 0, 0, []),
  (5, .istore_n 3, 1, 0, 0, 0, 0, 0, []),
  (6, .iconst 0, 1, 0, 0, 0, 0, 0, []),
  (7, .istore 4, 2, 0, 0, 0, 0, 0, []),
  (9, .iload 4, 2, 0, 0, 0, 0, 0, []),
  (11, .iload_n 2, 1, 0, 0, 0, 0, 0, []),
  (12, .if_icmp .ge 23, 3, 35, 0, 0, 0, 0, []),
  (15, .iload_n 3, 1, 0, 0, 0, 0, 0, []),
  (16, .bipush 64, 2, 0, 0, 0, 64, 0, []),
  (18, .if_icmp .ge 17, 3, 35, 0, 0, 0, 0, []),
  (21, .lload_n 0, 1, 0, 0, 0, 0, 0, []),
  (22, .iload_n 3, 1, 0, 0, 0, 0, 0, []),
  (23, .iconst 1, 1, 0, 0, 0, 1, 0, []),
  (24, .iadd, 1, 0, 0, 0, 0, 0, []),
  (25, .invokestatic 23, 3, 23, 2, 230, 0, 0, []),
  (28, .istore_n 3, 1, 0, 0, 0, 0, 0, []),
  (29, .iinc 4 1, 3, 0, 0, 0, 1, 0, []),
  (32, .goto (-23), 3, 9, 0, 0, 0, 0, []),
  (35, .iload_n 3, 1, 0, 0, 0, 0, 0, []),
  (36, .bipush 64, 2, 0, 0, 0, 64, 0, []),
  (38, .if_icmp .ge 7, 3, 45, 0, 0, 0, 0, []),
  (41, .iload_n 3, 1, 0, 0, 0, 0, 0, []),
  (42, .goto 5, 3, 47, 0, 0, 0, 0, []),
  (45, .bipush (-2), 2, 0, 0, 0, (-2), 0, []),
  (47, .ireturn, 1, 0, 0, 0, 0, 0, [])]
def n_X0_setAt_9 (k9 : Int64 → Int32 → Int32 → Int32 → Option Int32) (ls : rx_L) (st : List Value) (u : Option rx_H) : Option Int32 := match ls, st, u with
  | [some (.long x0), _, some (.int x2), some (.int x3), some (.int x4)], [], none => k9 x0 x2 x3 x4
  | _, _, _ => none
def n_X0_setAt_35 (F : Nat × Nat) (ls : rx_L) (st : List Value) (u : Option rx_H) : Option Int32 := match ls, st, u with
  | [_, _, _, some (.int x3), _], [], none => f_X0_setAt_35 F x3
  | _, _, _ => none
noncomputable def kk_X0_setAt_35 (F : Nat × Nat) : Nat → rx_L → List Value → Option rx_H → Option Int32 := fun t ls st u => none
noncomputable def kk_X0_setAt_9 (F : Nat × Nat) (k9 : Int64 → Int32 → Int32 → Int32 → Option Int32) : Nat → rx_L → List Value → Option rx_H → Option Int32 := fun t ls st u => Bool.rec (motive := fun _ => Option Int32) (Bool.rec (motive := fun _ => Option Int32) (none) (n_X0_setAt_35 F ls st u) (Nat.beq t 35)) (n_X0_setAt_9 k9 ls st u) (Nat.beq t 9)
noncomputable def kk_X0_setAt_0 (F : Nat × Nat) : Nat → rx_L → List Value → Option rx_H → Option Int32 := fun t ls st u => Bool.rec (motive := fun _ => Option Int32) (none) (n_X0_setAt_9 (f_X0_setAt_9 F F.1) ls st u) (Nat.beq t 9)
set_option maxRecDepth 100000 in
theorem g_X0_setAt_35 (F : Nat × Nat) (x3 : Int32) : f_X0_setAt_35 F x3 = rx_node (C_X0_setAt F) rx_rI t_X0_setAt [9, 35] (kk_X0_setAt_35 F) 30 35 [none, none, none, some (.int x3), none] [] none := rfl
set_option maxRecDepth 100000 in
theorem g_X0_setAt_9 (F : Nat × Nat) (f : Nat) (x0 : Int64) (x2 : Int32) (x3 : Int32) (x4 : Int32) : f_X0_setAt_9 F (f + 1) x0 x2 x3 x4 = rx_node (C_X0_setAt F) rx_rI t_X0_setAt [9, 35] (kk_X0_setAt_9 F (f_X0_setAt_9 F f)) 30 9 [some (.long x0), none, some (.int x2), some (.int x3), some (.int x4)] [] none := rfl
set_option maxRecDepth 100000 in
theorem g_X0_setAt_0 (F : Nat × Nat) (x0 : Int64) (x2 : Int32) : f_X0_setAt_0 F x0 x2 = rx_node (C_X0_setAt F) rx_rI t_X0_setAt [9, 35] (kk_X0_setAt_0 F) 30 0 [some (.long x0), none, some (.int x2), none, none] [] none := rfl
def f_X0_within_4 (F : Nat × Nat) : Nat → Int32 → Int64 → Int32 → Option Int64
  | 0, _, _, _ => none
  | f + 1, x0, x1, x3 =>
    if x3 < (6 : Int32) then
      if (x0 >>> (x3 &&& 31)) &&& (1 : Int32) = 0 then
        (f_X0_within_4 F f) x0 x1 (x3 + 1)
      else
        (f_X0_within_4 F f) x0 (x1 ||| (x1 <<< (Int32.toInt64 ((1 : Int32) <<< (x3 &&& 31)) &&& 63))) (x3 + 1)
    else
      some x1
def f_X0_within_0 (F : Nat × Nat) (x0 : Int32) : Option Int64 :=
  f_X0_within_4 F F.1 x0 (1 : Int64) (0 : Int32)
def f_X0_within (F : Nat × Nat) (x0 : Int32) : Option Int64 := f_X0_within_0 F x0
def c_X0_within {α : Type} (F : Nat × Nat) (as : List Value) (u : Option rx_H) (κ : rx_K α) : Option α := match as with
  | [.int a0] => (f_X0_within F a0).bind fun r => κ (some (.long r)) u
  | _ => none
noncomputable def C_X0_within {α : Type} (F : Nat × Nat) : rx_Cl α := fun j as u κ => none
def t_X0_within : List rx_E := [
  (0, .lconst 1, 1, 0, 0, 0, 0, 1, []),
  (1, .lstore_n 1, 1, 0, 0, 0, 0, 0, []),
  (2, .iconst 0, 1, 0, 0, 0, 0, 0, []),
  (3, .istore_n 3, 1, 0, 0, 0, 0, 0, []),
  (4, .iload_n 3, 1, 0, 0, 0, 0, 0, []),
  (5, .bipush 6, 2, 0, 0, 0, 6, 0, []),
  (7, .if_icmp .ge 25, 3, 32, 0, 0, 0, 0, []),
  (10, .iload_n 0, 1, 0, 0, 0, 0, 0, []),
  (11, .iload_n 3, 1, 0, 0, 0, 0, 0, []),
  (12, .ishr, 1, 0, 0, 0, 0, 0, []),
  (13, .iconst 1, 1, 0, 0, 0, 1, 0, []),
  (14, .iand, 1, 0, 0, 0, 0, 0, []),
  (15, .ifCond .eq 11, 3, 26, 0, 0, 0, 0, []),
  (18, .lload_n 1, 1, 0, 0, 0, 0, 0, []),
  (19, .lload_n 1, 1, 0, 0, 0, 0, 0, []),
  (20, .iconst 1, 1, 0, 0, 0, 1, 0, []),
  (21, .iload_n 3, 1, 0, 0, 0, 0, 0, []),
  (22, .ishl, 1, 0, 0, 0, 0, 0, []),
  (23, .lshl, 1, 0, 0, 0, 0, 0, []),
  (24, .lor, 1, 0, 0, 0, 0, 0, []),
  (25, .lstore_n 1, 1, 0, 0, 0, 0, 0, []),
  (26, .iinc 3 1, 3, 0, 0, 0, 1, 0, []),
  (29, .goto (-25), 3, 4, 0, 0, 0, 0, []),
  (32, .lload_n 1, 1, 0, 0, 0, 0, 0, []),
  (33, .lreturn, 1, 0, 0, 0, 0, 0, [])]
def n_X0_within_4 (k4 : Int32 → Int64 → Int32 → Option Int64) (ls : rx_L) (st : List Value) (u : Option rx_H) : Option Int64 := match ls, st, u with
  | [some (.int x0), some (.long x1), _, some (.int x3)], [], none => k4 x0 x1 x3
  | _, _, _ => none
noncomputable def kk_X0_within_4 (F : Nat × Nat) (k4 : Int32 → Int64 → Int32 → Option Int64) : Nat → rx_L → List Value → Option rx_H → Option Int64 := fun t ls st u => Bool.rec (motive := fun _ => Option Int64) (none) (n_X0_within_4 k4 ls st u) (Nat.beq t 4)
noncomputable def kk_X0_within_0 (F : Nat × Nat) : Nat → rx_L → List Value → Option rx_H → Option Int64 := fun t ls st u => Bool.rec (motive := fun _ => Option Int64) (none) (n_X0_within_4 (f_X0_within_4 F F.1) ls st u) (Nat.beq t 4)
set_option maxRecDepth 100000 in
theorem g_X0_within_4 (F : Nat × Nat) (f : Nat) (x0 : Int32) (x1 : Int64) (x3 : Int32) : f_X0_within_4 F (f + 1) x0 x1 x3 = rx_node (C_X0_within F) rx_rJ t_X0_within [4] (kk_X0_within_4 F (f_X0_within_4 F f)) 28 4 [some (.int x0), some (.long x1), none, some (.int x3)] [] none := rfl
set_option maxRecDepth 100000 in
theorem g_X0_within_0 (F : Nat × Nat) (x0 : Int32) : f_X0_within_0 F x0 = rx_node (C_X0_within F) rx_rJ t_X0_within [4] (kk_X0_within_0 F) 28 0 [some (.int x0), none, none, none] [] none := rfl
def f_X0_around_0 (F : Nat × Nat) (x0 : Int32) : Option Int64 :=
  (f_X0_within F ((63 : Int32) - x0)).bind fun v1 =>
  some (v1 <<< (Int32.toInt64 x0 &&& 63))
def f_X0_around (F : Nat × Nat) (x0 : Int32) : Option Int64 := f_X0_around_0 F x0
def c_X0_around {α : Type} (F : Nat × Nat) (as : List Value) (u : Option rx_H) (κ : rx_K α) : Option α := match as with
  | [.int a0] => (f_X0_around F a0).bind fun r => κ (some (.long r)) u
  | _ => none
noncomputable def C_X0_around {α : Type} (F : Nat × Nat) : rx_Cl α := fun j as u κ => Bool.rec (motive := fun _ => Option α) (none) (c_X0_within F as u κ) (Nat.beq j 30)
def t_X0_around : List rx_E := [
  (0, .bipush 63, 2, 0, 0, 0, 63, 0, []),
  (2, .iload_n 0, 1, 0, 0, 0, 0, 0, []),
  (3, .isub, 1, 0, 0, 0, 0, 0, []),
  (4, .invokestatic 27, 3, 30, 1, 226, 0, 0, []),
  (7, .iload_n 0, 1, 0, 0, 0, 0, 0, []),
  (8, .lshl, 1, 0, 0, 0, 0, 0, []),
  (9, .lreturn, 1, 0, 0, 0, 0, 0, [])]
noncomputable def kk_X0_around_0 (F : Nat × Nat) : Nat → rx_L → List Value → Option rx_H → Option Int64 := fun t ls st u => none
set_option maxRecDepth 100000 in
theorem g_X0_around_0 (F : Nat × Nat) (x0 : Int32) : f_X0_around_0 F x0 = rx_node (C_X0_around F) rx_rJ t_X0_around [] (kk_X0_around_0 F) 10 0 [some (.int x0)] [] none := rfl
def f_X0_lackingThing_0 (F : Nat × Nat) (x0 : Int64) (x2 : Int32) : Option Int64 :=
  (rx_aJ none 1000001 x2).bind fun v1 =>
  some (x0 &&& v1)
def f_X0_lackingThing (F : Nat × Nat) (x0 : Int64) (x2 : Int32) : Option Int64 := f_X0_lackingThing_0 F x0 x2
def c_X0_lackingThing {α : Type} (F : Nat × Nat) (as : List Value) (u : Option rx_H) (κ : rx_K α) : Option α := match as with
  | [.long a0, .int a1] => (f_X0_lackingThing F a0 a1).bind fun r => κ (some (.long r)) u
  | _ => none
noncomputable def C_X0_lackingThing {α : Type} (F : Nat × Nat) : rx_Cl α := fun j as u κ => none
def t_X0_lackingThing : List rx_E := [
  (0, .lload_n 0, 1, 0, 0, 0, 0, 0, []),
  (1, .getstatic 30, 3, 1000001, 0, 319, 0, 0, []),
  (4, .iload_n 2, 1, 0, 0, 0, 0, 0, []),
  (5, .laload, 1, 0, 0, 0, 0, 0, []),
  (6, .land, 1, 0, 0, 0, 0, 0, []),
  (7, .lreturn, 1, 0, 0, 0, 0, 0, [])]
noncomputable def kk_X0_lackingThing_0 (F : Nat × Nat) : Nat → rx_L → List Value → Option rx_H → Option Int64 := fun t ls st u => none
set_option maxRecDepth 100000 in
theorem g_X0_lackingThing_0 (F : Nat × Nat) (x0 : Int64) (x2 : Int32) : f_X0_lackingThing_0 F x0 x2 = rx_node (C_X0_lackingThing F) rx_rJ t_X0_lackingThing [] (kk_X0_lackingThing_0 F) 9 0 [some (.long x0), none, some (.int x2)] [] none := rfl
def f_X0_lessThing_0 (F : Nat × Nat) (x0 : Int64) (x2 : Int32) : Option Int64 :=
  (rx_aJ none 1000001 x2).bind fun v1 =>
  some (((Int64.toUInt64 x0 >>> ((Int32.toInt64 ((1 : Int32) <<< (x2 &&& 31))).toUInt64 &&& Int64.toUInt64 63)).toInt64) &&& v1)
def f_X0_lessThing (F : Nat × Nat) (x0 : Int64) (x2 : Int32) : Option Int64 := f_X0_lessThing_0 F x0 x2
def c_X0_lessThing {α : Type} (F : Nat × Nat) (as : List Value) (u : Option rx_H) (κ : rx_K α) : Option α := match as with
  | [.long a0, .int a1] => (f_X0_lessThing F a0 a1).bind fun r => κ (some (.long r)) u
  | _ => none
noncomputable def C_X0_lessThing {α : Type} (F : Nat × Nat) : rx_Cl α := fun j as u κ => none
def t_X0_lessThing : List rx_E := [
  (0, .lload_n 0, 1, 0, 0, 0, 0, 0, []),
  (1, .iconst 1, 1, 0, 0, 0, 1, 0, []),
  (2, .iload_n 2, 1, 0, 0, 0, 0, 0, []),
  (3, .ishl, 1, 0, 0, 0, 0, 0, []),
  (4, .lushr, 1, 0, 0, 0, 0, 0, []),
  (5, .getstatic 30, 3, 1000001, 0, 319, 0, 0, []),
  (8, .iload_n 2, 1, 0, 0, 0, 0, 0, []),
  (9, .laload, 1, 0, 0, 0, 0, 0, []),
  (10, .land, 1, 0, 0, 0, 0, 0, []),
  (11, .lreturn, 1, 0, 0, 0, 0, 0, [])]
noncomputable def kk_X0_lessThing_0 (F : Nat × Nat) : Nat → rx_L → List Value → Option rx_H → Option Int64 := fun t ls st u => none
set_option maxRecDepth 100000 in
theorem g_X0_lessThing_0 (F : Nat × Nat) (x0 : Int64) (x2 : Int32) : f_X0_lessThing_0 F x0 x2 = rx_node (C_X0_lessThing F) rx_rJ t_X0_lessThing [] (kk_X0_lessThing_0 F) 13 0 [some (.long x0), none, some (.int x2)] [] none := rfl
def f_X0_moreThing_0 (F : Nat × Nat) (x0 : Int64) (x2 : Int32) : Option Int64 :=
  (rx_aJ none 1000001 x2).bind fun v1 =>
  some ((x0 &&& v1) <<< (Int32.toInt64 ((1 : Int32) <<< (x2 &&& 31)) &&& 63))
def f_X0_moreThing (F : Nat × Nat) (x0 : Int64) (x2 : Int32) : Option Int64 := f_X0_moreThing_0 F x0 x2
def c_X0_moreThing {α : Type} (F : Nat × Nat) (as : List Value) (u : Option rx_H) (κ : rx_K α) : Option α := match as with
  | [.long a0, .int a1] => (f_X0_moreThing F a0 a1).bind fun r => κ (some (.long r)) u
  | _ => none
noncomputable def C_X0_moreThing {α : Type} (F : Nat × Nat) : rx_Cl α := fun j as u κ => none
def t_X0_moreThing : List rx_E := [
  (0, .lload_n 0, 1, 0, 0, 0, 0, 0, []),
  (1, .getstatic 30, 3, 1000001, 0, 319, 0, 0, []),
  (4, .iload_n 2, 1, 0, 0, 0, 0, 0, []),
  (5, .laload, 1, 0, 0, 0, 0, 0, []),
  (6, .land, 1, 0, 0, 0, 0, 0, []),
  (7, .iconst 1, 1, 0, 0, 0, 1, 0, []),
  (8, .iload_n 2, 1, 0, 0, 0, 0, 0, []),
  (9, .ishl, 1, 0, 0, 0, 0, 0, []),
  (10, .lshl, 1, 0, 0, 0, 0, 0, []),
  (11, .lreturn, 1, 0, 0, 0, 0, 0, [])]
noncomputable def kk_X0_moreThing_0 (F : Nat × Nat) : Nat → rx_L → List Value → Option rx_H → Option Int64 := fun t ls st u => none
set_option maxRecDepth 100000 in
theorem g_X0_moreThing_0 (F : Nat × Nat) (x0 : Int64) (x2 : Int32) : f_X0_moreThing_0 F x0 x2 = rx_node (C_X0_moreThing F) rx_rJ t_X0_moreThing [] (kk_X0_moreThing_0 F) 13 0 [some (.long x0), none, some (.int x2)] [] none := rfl
def f_X0_oneLess_5 (F : Nat × Nat) : Nat → Int64 → Int64 → Int32 → Option Int64
  | 0, _, _, _ => none
  | f + 1, x0, x2, x4 =>
    if x4 < (6 : Int32) then
      (f_X0_lessThing F x0 x4).bind fun v1 =>
      (f_X0_oneLess_5 F f) x0 (x2 ||| v1) (x4 + 1)
    else
      some x2
def f_X0_oneLess_0 (F : Nat × Nat) (x0 : Int64) : Option Int64 :=
  f_X0_oneLess_5 F F.1 x0 (0 : Int64) (0 : Int32)
def f_X0_oneLess (F : Nat × Nat) (x0 : Int64) : Option Int64 := f_X0_oneLess_0 F x0
def c_X0_oneLess {α : Type} (F : Nat × Nat) (as : List Value) (u : Option rx_H) (κ : rx_K α) : Option α := match as with
  | [.long a0] => (f_X0_oneLess F a0).bind fun r => κ (some (.long r)) u
  | _ => none
noncomputable def C_X0_oneLess {α : Type} (F : Nat × Nat) : rx_Cl α := fun j as u κ => Bool.rec (motive := fun _ => Option α) (none) (c_X0_lessThing F as u κ) (Nat.beq j 18)
def t_X0_oneLess : List rx_E := [
  (0, .lconst 0, 1, 0, 0, 0, 0, 0, []),
  (1, .lstore_n 2, 1, 0, 0, 0, 0, 0, []),
  (2, .iconst 0, 1, 0, 0, 0, 0, 0, []),
  (3, .istore 4, 2, 0, 0, 0, 0, 0, []),
  (5, .iload 4, 2, 0, 0, 0, 0, 0, []),
  (7, .bipush 6, 2, 0, 0, 0, 6, 0, []),
  (9, .if_icmp .ge 18, 3, 27, 0, 0, 0, 0, []),
  (12, .lload_n 2, 1, 0, 0, 0, 0, 0, []),
  (13, .lload_n 0, 1, 0, 0, 0, 0, 0, []),
  (14, .iload 4, 2, 0, 0, 0, 0, 0, []),
  (16, .invokestatic 34, 3, 18, 2, 316, 0, 0, []),
  (19, .lor, 1, 0, 0, 0, 0, 0, []),
  (20, .lstore_n 2, 1, 0, 0, 0, 0, 0, []),
  (21, .iinc 4 1, 3, 0, 0, 0, 1, 0, []),
  (24, .goto (-19), 3, 5, 0, 0, 0, 0, []),
  (27, .lload_n 2, 1, 0, 0, 0, 0, 0, []),
  (28, .lreturn, 1, 0, 0, 0, 0, 0, [])]
def n_X0_oneLess_5 (k5 : Int64 → Int64 → Int32 → Option Int64) (ls : rx_L) (st : List Value) (u : Option rx_H) : Option Int64 := match ls, st, u with
  | [some (.long x0), _, some (.long x2), _, some (.int x4)], [], none => k5 x0 x2 x4
  | _, _, _ => none
noncomputable def kk_X0_oneLess_5 (F : Nat × Nat) (k5 : Int64 → Int64 → Int32 → Option Int64) : Nat → rx_L → List Value → Option rx_H → Option Int64 := fun t ls st u => Bool.rec (motive := fun _ => Option Int64) (none) (n_X0_oneLess_5 k5 ls st u) (Nat.beq t 5)
noncomputable def kk_X0_oneLess_0 (F : Nat × Nat) : Nat → rx_L → List Value → Option rx_H → Option Int64 := fun t ls st u => Bool.rec (motive := fun _ => Option Int64) (none) (n_X0_oneLess_5 (f_X0_oneLess_5 F F.1) ls st u) (Nat.beq t 5)
set_option maxRecDepth 100000 in
theorem g_X0_oneLess_5 (F : Nat × Nat) (f : Nat) (x0 : Int64) (x2 : Int64) (x4 : Int32) : f_X0_oneLess_5 F (f + 1) x0 x2 x4 = rx_node (C_X0_oneLess F) rx_rJ t_X0_oneLess [5] (kk_X0_oneLess_5 F (f_X0_oneLess_5 F f)) 20 5 [some (.long x0), none, some (.long x2), none, some (.int x4)] [] none := rfl
set_option maxRecDepth 100000 in
theorem g_X0_oneLess_0 (F : Nat × Nat) (x0 : Int64) : f_X0_oneLess_0 F x0 = rx_node (C_X0_oneLess F) rx_rJ t_X0_oneLess [5] (kk_X0_oneLess_0 F) 20 0 [some (.long x0), none, none, none, none] [] none := rfl
def f_X0_oneMore_5 (F : Nat × Nat) : Nat → Int64 → Int32 → Int64 → Int32 → Option Int64
  | 0, _, _, _, _ => none
  | f + 1, x0, x2, x3, x5 =>
    if x5 < x2 then
      (f_X0_moreThing F x0 x5).bind fun v1 =>
      (f_X0_oneMore_5 F f) x0 x2 (x3 ||| v1) (x5 + 1)
    else
      some x3
def f_X0_oneMore_0 (F : Nat × Nat) (x0 : Int64) (x2 : Int32) : Option Int64 :=
  f_X0_oneMore_5 F F.1 x0 x2 (0 : Int64) (0 : Int32)
def f_X0_oneMore (F : Nat × Nat) (x0 : Int64) (x2 : Int32) : Option Int64 := f_X0_oneMore_0 F x0 x2
def c_X0_oneMore {α : Type} (F : Nat × Nat) (as : List Value) (u : Option rx_H) (κ : rx_K α) : Option α := match as with
  | [.long a0, .int a1] => (f_X0_oneMore F a0 a1).bind fun r => κ (some (.long r)) u
  | _ => none
noncomputable def C_X0_oneMore {α : Type} (F : Nat × Nat) : rx_Cl α := fun j as u κ => Bool.rec (motive := fun _ => Option α) (none) (c_X0_moreThing F as u κ) (Nat.beq j 21)
def t_X0_oneMore : List rx_E := [
  (0, .lconst 0, 1, 0, 0, 0, 0, 0, []),
  (1, .lstore_n 3, 1, 0, 0, 0, 0, 0, []),
  (2, .iconst 0, 1, 0, 0, 0, 0, 0, []),
  (3, .istore 5, 2, 0, 0, 0, 0, 0, []),
  (5, .iload 5, 2, 0, 0, 0, 0, 0, []),
  (7, .iload_n 2, 1, 0, 0, 0, 0, 0, []),
  (8, .if_icmp .ge 18, 3, 26, 0, 0, 0, 0, []),
  (11, .lload_n 3, 1, 0, 0, 0, 0, 0, []),
  (12, .lload_n 0, 1, 0, 0, 0, 0, 0, []),
  (13, .iload 5, 2, 0, 0, 0, 0, 0, []),
  (15, .invokestatic 38, 3, 21, 2, 332, 0, 0, []),
  (18, .lor, 1, 0, 0, 0, 0, 0, []),
  (19, .lstore_n 3, 1, 0, 0, 0, 0, 0, []),
  (20, .iinc 5 1, 3, 0, 0, 0, 1, 0, []),
  (23, .goto (-18), 3, 5, 0, 0, 0, 0, []),
  (26, .lload_n 3, 1, 0, 0, 0, 0, 0, []),
  (27, .lreturn, 1, 0, 0, 0, 0, 0, [])]
def n_X0_oneMore_5 (k5 : Int64 → Int32 → Int64 → Int32 → Option Int64) (ls : rx_L) (st : List Value) (u : Option rx_H) : Option Int64 := match ls, st, u with
  | [some (.long x0), _, some (.int x2), some (.long x3), _, some (.int x5)], [], none => k5 x0 x2 x3 x5
  | _, _, _ => none
noncomputable def kk_X0_oneMore_5 (F : Nat × Nat) (k5 : Int64 → Int32 → Int64 → Int32 → Option Int64) : Nat → rx_L → List Value → Option rx_H → Option Int64 := fun t ls st u => Bool.rec (motive := fun _ => Option Int64) (none) (n_X0_oneMore_5 k5 ls st u) (Nat.beq t 5)
noncomputable def kk_X0_oneMore_0 (F : Nat × Nat) : Nat → rx_L → List Value → Option rx_H → Option Int64 := fun t ls st u => Bool.rec (motive := fun _ => Option Int64) (none) (n_X0_oneMore_5 (f_X0_oneMore_5 F F.1) ls st u) (Nat.beq t 5)
set_option maxRecDepth 100000 in
theorem g_X0_oneMore_5 (F : Nat × Nat) (f : Nat) (x0 : Int64) (x2 : Int32) (x3 : Int64) (x5 : Int32) : f_X0_oneMore_5 F (f + 1) x0 x2 x3 x5 = rx_node (C_X0_oneMore F) rx_rJ t_X0_oneMore [5] (kk_X0_oneMore_5 F (f_X0_oneMore_5 F f)) 20 5 [some (.long x0), none, some (.int x2), some (.long x3), none, some (.int x5)] [] none := rfl
set_option maxRecDepth 100000 in
theorem g_X0_oneMore_0 (F : Nat × Nat) (x0 : Int64) (x2 : Int32) : f_X0_oneMore_0 F x0 x2 = rx_node (C_X0_oneMore F) rx_rJ t_X0_oneMore [5] (kk_X0_oneMore_0 F) 20 0 [some (.long x0), none, some (.int x2), none, none, none] [] none := rfl
def f_X0_allBelow_5 (F : Nat × Nat) : Nat → Int64 → Int32 → Option Int64
  | 0, _, _ => none
  | f + 1, x2, x4 =>
    if x4 < (6 : Int32) then
      (f_X0_lessThing F x2 x4).bind fun v1 =>
      (f_X0_allBelow_5 F f) (x2 ||| v1) (x4 + 1)
    else
      some x2
def f_X0_allBelow_0 (F : Nat × Nat) (x0 : Int64) : Option Int64 :=
  f_X0_allBelow_5 F F.1 x0 (0 : Int32)
def f_X0_allBelow (F : Nat × Nat) (x0 : Int64) : Option Int64 := f_X0_allBelow_0 F x0
def c_X0_allBelow {α : Type} (F : Nat × Nat) (as : List Value) (u : Option rx_H) (κ : rx_K α) : Option α := match as with
  | [.long a0] => (f_X0_allBelow F a0).bind fun r => κ (some (.long r)) u
  | _ => none
noncomputable def C_X0_allBelow {α : Type} (F : Nat × Nat) : rx_Cl α := fun j as u κ => Bool.rec (motive := fun _ => Option α) (none) (c_X0_lessThing F as u κ) (Nat.beq j 18)
def t_X0_allBelow : List rx_E := [
  (0, .lload_n 0, 1, 0, 0, 0, 0, 0, []),
  (1, .lstore_n 2, 1, 0, 0, 0, 0, 0, []),
  (2, .iconst 0, 1, 0, 0, 0, 0, 0, []),
  (3, .istore 4, 2, 0, 0, 0, 0, 0, []),
  (5, .iload 4, 2, 0, 0, 0, 0, 0, []),
  (7, .bipush 6, 2, 0, 0, 0, 6, 0, []),
  (9, .if_icmp .ge 18, 3, 27, 0, 0, 0, 0, []),
  (12, .lload_n 2, 1, 0, 0, 0, 0, 0, []),
  (13, .lload_n 2, 1, 0, 0, 0, 0, 0, []),
  (14, .iload 4, 2, 0, 0, 0, 0, 0, []),
  (16, .invokestatic 34, 3, 18, 2, 316, 0, 0, []),
  (19, .lor, 1, 0, 0, 0, 0, 0, []),
  (20, .lstore_n 2, 1, 0, 0, 0, 0, 0, []),
  (21, .iinc 4 1, 3, 0, 0, 0, 1, 0, []),
  (24, .goto (-19), 3, 5, 0, 0, 0, 0, []),
  (27, .lload_n 2, 1, 0, 0, 0, 0, 0, []),
  (28, .lreturn, 1, 0, 0, 0, 0, 0, [])]
def n_X0_allBelow_5 (k5 : Int64 → Int32 → Option Int64) (ls : rx_L) (st : List Value) (u : Option rx_H) : Option Int64 := match ls, st, u with
  | [_, _, some (.long x2), _, some (.int x4)], [], none => k5 x2 x4
  | _, _, _ => none
noncomputable def kk_X0_allBelow_5 (F : Nat × Nat) (k5 : Int64 → Int32 → Option Int64) : Nat → rx_L → List Value → Option rx_H → Option Int64 := fun t ls st u => Bool.rec (motive := fun _ => Option Int64) (none) (n_X0_allBelow_5 k5 ls st u) (Nat.beq t 5)
noncomputable def kk_X0_allBelow_0 (F : Nat × Nat) : Nat → rx_L → List Value → Option rx_H → Option Int64 := fun t ls st u => Bool.rec (motive := fun _ => Option Int64) (none) (n_X0_allBelow_5 (f_X0_allBelow_5 F F.1) ls st u) (Nat.beq t 5)
set_option maxRecDepth 100000 in
theorem g_X0_allBelow_5 (F : Nat × Nat) (f : Nat) (x2 : Int64) (x4 : Int32) : f_X0_allBelow_5 F (f + 1) x2 x4 = rx_node (C_X0_allBelow F) rx_rJ t_X0_allBelow [5] (kk_X0_allBelow_5 F (f_X0_allBelow_5 F f)) 20 5 [none, none, some (.long x2), none, some (.int x4)] [] none := rfl
set_option maxRecDepth 100000 in
theorem g_X0_allBelow_0 (F : Nat × Nat) (x0 : Int64) : f_X0_allBelow_0 F x0 = rx_node (C_X0_allBelow F) rx_rJ t_X0_allBelow [5] (kk_X0_allBelow_0 F) 20 0 [some (.long x0), none, none, none, none] [] none := rfl
def f_X0_allAbove_5 (F : Nat × Nat) : Nat → Int32 → Int64 → Int32 → Option Int64
  | 0, _, _, _ => none
  | f + 1, x2, x3, x5 =>
    if x5 < x2 then
      (f_X0_moreThing F x3 x5).bind fun v1 =>
      (f_X0_allAbove_5 F f) x2 (x3 ||| v1) (x5 + 1)
    else
      some x3
def f_X0_allAbove_0 (F : Nat × Nat) (x0 : Int64) (x2 : Int32) : Option Int64 :=
  f_X0_allAbove_5 F F.1 x2 x0 (0 : Int32)
def f_X0_allAbove (F : Nat × Nat) (x0 : Int64) (x2 : Int32) : Option Int64 := f_X0_allAbove_0 F x0 x2
def c_X0_allAbove {α : Type} (F : Nat × Nat) (as : List Value) (u : Option rx_H) (κ : rx_K α) : Option α := match as with
  | [.long a0, .int a1] => (f_X0_allAbove F a0 a1).bind fun r => κ (some (.long r)) u
  | _ => none
noncomputable def C_X0_allAbove {α : Type} (F : Nat × Nat) : rx_Cl α := fun j as u κ => Bool.rec (motive := fun _ => Option α) (none) (c_X0_moreThing F as u κ) (Nat.beq j 21)
def t_X0_allAbove : List rx_E := [
  (0, .lload_n 0, 1, 0, 0, 0, 0, 0, []),
  (1, .lstore_n 3, 1, 0, 0, 0, 0, 0, []),
  (2, .iconst 0, 1, 0, 0, 0, 0, 0, []),
  (3, .istore 5, 2, 0, 0, 0, 0, 0, []),
  (5, .iload 5, 2, 0, 0, 0, 0, 0, []),
  (7, .iload_n 2, 1, 0, 0, 0, 0, 0, []),
  (8, .if_icmp .ge 18, 3, 26, 0, 0, 0, 0, []),
  (11, .lload_n 3, 1, 0, 0, 0, 0, 0, []),
  (12, .lload_n 3, 1, 0, 0, 0, 0, 0, []),
  (13, .iload 5, 2, 0, 0, 0, 0, 0, []),
  (15, .invokestatic 38, 3, 21, 2, 332, 0, 0, []),
  (18, .lor, 1, 0, 0, 0, 0, 0, []),
  (19, .lstore_n 3, 1, 0, 0, 0, 0, 0, []),
  (20, .iinc 5 1, 3, 0, 0, 0, 1, 0, []),
  (23, .goto (-18), 3, 5, 0, 0, 0, 0, []),
  (26, .lload_n 3, 1, 0, 0, 0, 0, 0, []),
  (27, .lreturn, 1, 0, 0, 0, 0, 0, [])]
def n_X0_allAbove_5 (k5 : Int32 → Int64 → Int32 → Option Int64) (ls : rx_L) (st : List Value) (u : Option rx_H) : Option Int64 := match ls, st, u with
  | [_, _, some (.int x2), some (.long x3), _, some (.int x5)], [], none => k5 x2 x3 x5
  | _, _, _ => none
noncomputable def kk_X0_allAbove_5 (F : Nat × Nat) (k5 : Int32 → Int64 → Int32 → Option Int64) : Nat → rx_L → List Value → Option rx_H → Option Int64 := fun t ls st u => Bool.rec (motive := fun _ => Option Int64) (none) (n_X0_allAbove_5 k5 ls st u) (Nat.beq t 5)
noncomputable def kk_X0_allAbove_0 (F : Nat × Nat) : Nat → rx_L → List Value → Option rx_H → Option Int64 := fun t ls st u => Bool.rec (motive := fun _ => Option Int64) (none) (n_X0_allAbove_5 (f_X0_allAbove_5 F F.1) ls st u) (Nat.beq t 5)
set_option maxRecDepth 100000 in
theorem g_X0_allAbove_5 (F : Nat × Nat) (f : Nat) (x2 : Int32) (x3 : Int64) (x5 : Int32) : f_X0_allAbove_5 F (f + 1) x2 x3 x5 = rx_node (C_X0_allAbove F) rx_rJ t_X0_allAbove [5] (kk_X0_allAbove_5 F (f_X0_allAbove_5 F f)) 20 5 [none, none, some (.int x2), some (.long x3), none, some (.int x5)] [] none := rfl
set_option maxRecDepth 100000 in
theorem g_X0_allAbove_0 (F : Nat × Nat) (x0 : Int64) (x2 : Int32) : f_X0_allAbove_0 F x0 x2 = rx_node (C_X0_allAbove F) rx_rJ t_X0_allAbove [5] (kk_X0_allAbove_0 F) 20 0 [some (.long x0), none, some (.int x2), none, none, none] [] none := rfl
def f_X0_lacking_5 (F : Nat × Nat) : Nat → Int32 → Int64 → Int32 → Option Int64
  | 0, _, _, _ => none
  | f + 1, x2, x3, x5 =>
    if x5 < x2 then
      (f_X0_lessThing F x3 x5).bind fun v1 =>
      (f_X0_moreThing F x3 x5).bind fun v2 =>
      (f_X0_lacking_5 F f) x2 (v1 ||| v2) (x5 + 1)
    else
      some x3
def f_X0_lacking_0 (F : Nat × Nat) (x0 : Int64) (x2 : Int32) : Option Int64 :=
  f_X0_lacking_5 F F.1 x2 x0 (0 : Int32)
def f_X0_lacking (F : Nat × Nat) (x0 : Int64) (x2 : Int32) : Option Int64 := f_X0_lacking_0 F x0 x2
def c_X0_lacking {α : Type} (F : Nat × Nat) (as : List Value) (u : Option rx_H) (κ : rx_K α) : Option α := match as with
  | [.long a0, .int a1] => (f_X0_lacking F a0 a1).bind fun r => κ (some (.long r)) u
  | _ => none
noncomputable def C_X0_lacking {α : Type} (F : Nat × Nat) : rx_Cl α := fun j as u κ => Bool.rec (motive := fun _ => Option α) (Bool.rec (motive := fun _ => Option α) (none) (c_X0_moreThing F as u κ) (Nat.beq j 21)) (c_X0_lessThing F as u κ) (Nat.beq j 18)
def t_X0_lacking : List rx_E := [
  (0, .lload_n 0, 1, 0, 0, 0, 0, 0, []),
  (1, .lstore_n 3, 1, 0, 0, 0, 0, 0, []),
  (2, .iconst 0, 1, 0, 0, 0, 0, 0, []),
  (3, .istore 5, 2, 0, 0, 0, 0, 0, []),
  (5, .iload 5, 2, 0, 0, 0, 0, 0, []),
  (7, .iload_n 2, 1, 0, 0, 0, 0, 0, []),
  (8, .if_icmp .ge 23, 3, 31, 0, 0, 0, 0, []),
  (11, .lload_n 3, 1, 0, 0, 0, 0, 0, []),
  (12, .iload 5, 2, 0, 0, 0, 0, 0, []),
  (14, .invokestatic 34, 3, 18, 2, 316, 0, 0, []),
  (17, .lload_n 3, 1, 0, 0, 0, 0, 0, []),
  (18, .iload 5, 2, 0, 0, 0, 0, 0, []),
  (20, .invokestatic 38, 3, 21, 2, 332, 0, 0, []),
  (23, .lor, 1, 0, 0, 0, 0, 0, []),
  (24, .lstore_n 3, 1, 0, 0, 0, 0, 0, []),
  (25, .iinc 5 1, 3, 0, 0, 0, 1, 0, []),
  (28, .goto (-23), 3, 5, 0, 0, 0, 0, []),
  (31, .lload_n 3, 1, 0, 0, 0, 0, 0, []),
  (32, .lreturn, 1, 0, 0, 0, 0, 0, [])]
def n_X0_lacking_5 (k5 : Int32 → Int64 → Int32 → Option Int64) (ls : rx_L) (st : List Value) (u : Option rx_H) : Option Int64 := match ls, st, u with
  | [_, _, some (.int x2), some (.long x3), _, some (.int x5)], [], none => k5 x2 x3 x5
  | _, _, _ => none
noncomputable def kk_X0_lacking_5 (F : Nat × Nat) (k5 : Int32 → Int64 → Int32 → Option Int64) : Nat → rx_L → List Value → Option rx_H → Option Int64 := fun t ls st u => Bool.rec (motive := fun _ => Option Int64) (none) (n_X0_lacking_5 k5 ls st u) (Nat.beq t 5)
noncomputable def kk_X0_lacking_0 (F : Nat × Nat) : Nat → rx_L → List Value → Option rx_H → Option Int64 := fun t ls st u => Bool.rec (motive := fun _ => Option Int64) (none) (n_X0_lacking_5 (f_X0_lacking_5 F F.1) ls st u) (Nat.beq t 5)
set_option maxRecDepth 100000 in
theorem g_X0_lacking_5 (F : Nat × Nat) (f : Nat) (x2 : Int32) (x3 : Int64) (x5 : Int32) : f_X0_lacking_5 F (f + 1) x2 x3 x5 = rx_node (C_X0_lacking F) rx_rJ t_X0_lacking [5] (kk_X0_lacking_5 F (f_X0_lacking_5 F f)) 22 5 [none, none, some (.int x2), some (.long x3), none, some (.int x5)] [] none := rfl
set_option maxRecDepth 100000 in
theorem g_X0_lacking_0 (F : Nat × Nat) (x0 : Int64) (x2 : Int32) : f_X0_lacking_0 F x0 x2 = rx_node (C_X0_lacking F) rx_rJ t_X0_lacking [5] (kk_X0_lacking_0 F) 22 0 [some (.long x0), none, some (.int x2), none, none, none] [] none := rfl
def f_X0_cutTo_5 (F : Nat × Nat) : Nat → Int32 → Int64 → Int32 → Option Int64
  | 0, _, _, _ => none
  | f + 1, x2, x3, x5 =>
    if x5 < (6 : Int32) then
      if (x2 >>> (x5 &&& 31)) &&& (1 : Int32) = 0 then
        (f_X0_lackingThing F x3 x5).bind fun v1 =>
        (f_X0_lessThing F x3 x5).bind fun v2 =>
        (f_X0_cutTo_5 F f) x2 (v1 ||| v2) (x5 + 1)
      else
        (f_X0_cutTo_5 F f) x2 x3 (x5 + 1)
    else
      some x3
def f_X0_cutTo_0 (F : Nat × Nat) (x0 : Int64) (x2 : Int32) : Option Int64 :=
  f_X0_cutTo_5 F F.1 x2 x0 (0 : Int32)
def f_X0_cutTo (F : Nat × Nat) (x0 : Int64) (x2 : Int32) : Option Int64 := f_X0_cutTo_0 F x0 x2
def c_X0_cutTo {α : Type} (F : Nat × Nat) (as : List Value) (u : Option rx_H) (κ : rx_K α) : Option α := match as with
  | [.long a0, .int a1] => (f_X0_cutTo F a0 a1).bind fun r => κ (some (.long r)) u
  | _ => none
noncomputable def C_X0_cutTo {α : Type} (F : Nat × Nat) : rx_Cl α := fun j as u κ => Bool.rec (motive := fun _ => Option α) (Bool.rec (motive := fun _ => Option α) (none) (c_X0_lessThing F as u κ) (Nat.beq j 18)) (c_X0_lackingThing F as u κ) (Nat.beq j 16)
def t_X0_cutTo : List rx_E := [
  (0, .lload_n 0, 1, 0, 0, 0, 0, 0, []),
  (1, .lstore_n 3, 1, 0, 0, 0, 0, 0, []),
  (2, .iconst 0, 1, 0, 0, 0, 0, 0, []),
  (3, .istore 5, 2, 0, 0, 0, 0, 0, []),
  (5, .iload 5, 2, 0, 0, 0, 0, 0, []),
  (7, .bipush 6, 2, 0, 0, 0, 6, 0, []),
  (9, .if_icmp .ge 32, 3, 41, 0, 0, 0, 0, []),
  (12, .iload_n 2, 1, 0, 0, 0, 0, 0, []),
  (13, .iload 5, 2, 0, 0, 0, 0, 0, []),
  (15, .ishr, 1, 0, 0, 0, 0, 0, []),
  (16, .iconst 1, 1, 0, 0, 0, 1, 0, []),
  (17, .iand, 1, 0, 0, 0, 0, 0, []),
  (18, .ifCond .ne 17, 3, 35, 0, 0, 0, 0, []),
  (21, .lload_n 3, 1, 0, 0, 0, 0, 0, []),
  (22, .iload 5, 2, 0, 0, 0, 0, 0, []),
  (24, .invokestatic 41, 3, 16, 2, 366, 0, 0, []),
  (27, .lload_n 3, 1, 0, 0, 0, 0, 0, []),
  (28, .iload 5, 2, 0, 0, 0, 0, 0, []),
  (30, .invokestatic 34, 3, 18, 2, 316, 0, 0, []),
  (33, .lor, 1, 0, 0, 0, 0, 0, []),
  (34, .lstore_n 3, 1, 0, 0, 0, 0, 0, []),
  (35, .iinc 5 1, 3, 0, 0, 0, 1, 0, []),
  (38, .goto (-33), 3, 5, 0, 0, 0, 0, []),
  (41, .lload_n 3, 1, 0, 0, 0, 0, 0, []),
  (42, .lreturn, 1, 0, 0, 0, 0, 0, [])]
def n_X0_cutTo_5 (k5 : Int32 → Int64 → Int32 → Option Int64) (ls : rx_L) (st : List Value) (u : Option rx_H) : Option Int64 := match ls, st, u with
  | [_, _, some (.int x2), some (.long x3), _, some (.int x5)], [], none => k5 x2 x3 x5
  | _, _, _ => none
noncomputable def kk_X0_cutTo_5 (F : Nat × Nat) (k5 : Int32 → Int64 → Int32 → Option Int64) : Nat → rx_L → List Value → Option rx_H → Option Int64 := fun t ls st u => Bool.rec (motive := fun _ => Option Int64) (none) (n_X0_cutTo_5 k5 ls st u) (Nat.beq t 5)
noncomputable def kk_X0_cutTo_0 (F : Nat × Nat) : Nat → rx_L → List Value → Option rx_H → Option Int64 := fun t ls st u => Bool.rec (motive := fun _ => Option Int64) (none) (n_X0_cutTo_5 (f_X0_cutTo_5 F F.1) ls st u) (Nat.beq t 5)
set_option maxRecDepth 100000 in
theorem g_X0_cutTo_5 (F : Nat × Nat) (f : Nat) (x2 : Int32) (x3 : Int64) (x5 : Int32) : f_X0_cutTo_5 F (f + 1) x2 x3 x5 = rx_node (C_X0_cutTo F) rx_rJ t_X0_cutTo [5] (kk_X0_cutTo_5 F (f_X0_cutTo_5 F f)) 28 5 [none, none, some (.int x2), some (.long x3), none, some (.int x5)] [] none := rfl
set_option maxRecDepth 100000 in
theorem g_X0_cutTo_0 (F : Nat × Nat) (x0 : Int64) (x2 : Int32) : f_X0_cutTo_0 F x0 x2 = rx_node (C_X0_cutTo F) rx_rJ t_X0_cutTo [5] (kk_X0_cutTo_0 F) 28 0 [some (.long x0), none, some (.int x2), none, none, none] [] none := rfl
def f_X0_joinedTo_5 (F : Nat × Nat) : Nat → Int32 → Int64 → Int32 → Option Int64
  | 0, _, _, _ => none
  | f + 1, x2, x3, x5 =>
    if x5 < (6 : Int32) then
      if (x2 >>> (x5 &&& 31)) &&& (1 : Int32) = 0 then
        (f_X0_joinedTo_5 F f) x2 x3 (x5 + 1)
      else
        (rx_aJ none 1000001 x5).bind fun v1 =>
        (f_X0_moreThing F x3 x5).bind fun v2 =>
        (f_X0_joinedTo_5 F f) x2 ((x3 &&& (v1 ^^^ (-1 : Int64))) ||| v2) (x5 + 1)
    else
      some x3
def f_X0_joinedTo_0 (F : Nat × Nat) (x0 : Int64) (x2 : Int32) : Option Int64 :=
  f_X0_joinedTo_5 F F.1 x2 x0 (0 : Int32)
def f_X0_joinedTo (F : Nat × Nat) (x0 : Int64) (x2 : Int32) : Option Int64 := f_X0_joinedTo_0 F x0 x2
def c_X0_joinedTo {α : Type} (F : Nat × Nat) (as : List Value) (u : Option rx_H) (κ : rx_K α) : Option α := match as with
  | [.long a0, .int a1] => (f_X0_joinedTo F a0 a1).bind fun r => κ (some (.long r)) u
  | _ => none
noncomputable def C_X0_joinedTo {α : Type} (F : Nat × Nat) : rx_Cl α := fun j as u κ => Bool.rec (motive := fun _ => Option α) (none) (c_X0_moreThing F as u κ) (Nat.beq j 21)
def t_X0_joinedTo : List rx_E := [
  (0, .lload_n 0, 1, 0, 0, 0, 0, 0, []),
  (1, .lstore_n 3, 1, 0, 0, 0, 0, 0, []),
  (2, .iconst 0, 1, 0, 0, 0, 0, 0, []),
  (3, .istore 5, 2, 0, 0, 0, 0, 0, []),
  (5, .iload 5, 2, 0, 0, 0, 0, 0, []),
  (7, .bipush 6, 2, 0, 0, 0, 6, 0, []),
  (9, .if_icmp .ge 38, 3, 47, 0, 0, 0, 0, []),
  (12, .iload_n 2, 1, 0, 0, 0, 0, 0, []),
  (13, .iload 5, 2, 0, 0, 0, 0, 0, []),
  (15, .ishr, 1, 0, 0, 0, 0, 0, []),
  (16, .iconst 1, 1, 0, 0, 0, 1, 0, []),
  (17, .iand, 1, 0, 0, 0, 0, 0, []),
  (18, .ifCond .eq 23, 3, 41, 0, 0, 0, 0, []),
  (21, .lload_n 3, 1, 0, 0, 0, 0, 0, []),
  (22, .getstatic 30, 3, 1000001, 0, 319, 0, 0, []),
  (25, .iload 5, 2, 0, 0, 0, 0, 0, []),
  (27, .laload, 1, 0, 0, 0, 0, 0, []),
  (28, .ldc2_w 21, 3, 0, 0, 236, 0, (-1), []),
  (31, .lxor, 1, 0, 0, 0, 0, 0, []),
  (32, .land, 1, 0, 0, 0, 0, 0, []),
  (33, .lload_n 3, 1, 0, 0, 0, 0, 0, []),
  (34, .iload 5, 2, 0, 0, 0, 0, 0, []),
  (36, .invokestatic 38, 3, 21, 2, 332, 0, 0, []),
  (39, .lor, 1, 0, 0, 0, 0, 0, []),
  (40, .lstore_n 3, 1, 0, 0, 0, 0, 0, []),
  (41, .iinc 5 1, 3, 0, 0, 0, 1, 0, []),
  (44, .goto (-39), 3, 5, 0, 0, 0, 0, []),
  (47, .lload_n 3, 1, 0, 0, 0, 0, 0, []),
  (48, .lreturn, 1, 0, 0, 0, 0, 0, [])]
def n_X0_joinedTo_5 (k5 : Int32 → Int64 → Int32 → Option Int64) (ls : rx_L) (st : List Value) (u : Option rx_H) : Option Int64 := match ls, st, u with
  | [_, _, some (.int x2), some (.long x3), _, some (.int x5)], [], none => k5 x2 x3 x5
  | _, _, _ => none
noncomputable def kk_X0_joinedTo_5 (F : Nat × Nat) (k5 : Int32 → Int64 → Int32 → Option Int64) : Nat → rx_L → List Value → Option rx_H → Option Int64 := fun t ls st u => Bool.rec (motive := fun _ => Option Int64) (none) (n_X0_joinedTo_5 k5 ls st u) (Nat.beq t 5)
noncomputable def kk_X0_joinedTo_0 (F : Nat × Nat) : Nat → rx_L → List Value → Option rx_H → Option Int64 := fun t ls st u => Bool.rec (motive := fun _ => Option Int64) (none) (n_X0_joinedTo_5 (f_X0_joinedTo_5 F F.1) ls st u) (Nat.beq t 5)
set_option maxRecDepth 100000 in
theorem g_X0_joinedTo_5 (F : Nat × Nat) (f : Nat) (x2 : Int32) (x3 : Int64) (x5 : Int32) : f_X0_joinedTo_5 F (f + 1) x2 x3 x5 = rx_node (C_X0_joinedTo F) rx_rJ t_X0_joinedTo [5] (kk_X0_joinedTo_5 F (f_X0_joinedTo_5 F f)) 32 5 [none, none, some (.int x2), some (.long x3), none, some (.int x5)] [] none := rfl
set_option maxRecDepth 100000 in
theorem g_X0_joinedTo_0 (F : Nat × Nat) (x0 : Int64) (x2 : Int32) : f_X0_joinedTo_0 F x0 x2 = rx_node (C_X0_joinedTo F) rx_rJ t_X0_joinedTo [5] (kk_X0_joinedTo_0 F) 32 0 [some (.long x0), none, some (.int x2), none, none, none] [] none := rfl
def f_X0_mixedInPairs_39 (F : Nat × Nat) (k10 : Int64 → Int64 → Int32 → Int64 → Int32 → Option Int64) (x0 : Int64) (x2 : Int64) (x4 : Int32) (x7 : Int32) (s0 : Int64) (s1 : Int64) : Option Int64 :=
  (f_X0_next F x2 (x7 + (1 : Int32))).bind fun v1 =>
  k10 x0 x2 x4 (s0 ||| s1) v1
def f_X0_mixedInPairs_10 (F : Nat × Nat) : Nat → Int64 → Int64 → Int32 → Int64 → Int32 → Option Int64
  | 0, _, _, _, _, _ => none
  | f + 1, x0, x2, x4, x5, x7 =>
    if x7 < (64 : Int32) then
      if x4 = 0 then
        (f_X0_joinedTo F x0 x7).bind fun v1 =>
        f_X0_mixedInPairs_39 F (f_X0_mixedInPairs_10 F f) x0 x2 x4 x7 x5 v1
      else
        (f_X0_cutTo F x0 x7).bind fun v2 =>
        f_X0_mixedInPairs_39 F (f_X0_mixedInPairs_10 F f) x0 x2 x4 x7 x5 v2
    else
      some x5
def f_X0_mixedInPairs_0 (F : Nat × Nat) (x0 : Int64) (x2 : Int64) (x4 : Int32) : Option Int64 :=
  (f_X0_next F x2 (0 : Int32)).bind fun v1 =>
  f_X0_mixedInPairs_10 F F.1 x0 x2 x4 (0 : Int64) v1
def f_X0_mixedInPairs (F : Nat × Nat) (x0 : Int64) (x2 : Int64) (x4 : Int32) : Option Int64 := f_X0_mixedInPairs_0 F x0 x2 x4
def c_X0_mixedInPairs {α : Type} (F : Nat × Nat) (as : List Value) (u : Option rx_H) (κ : rx_K α) : Option α := match as with
  | [.long a0, .long a1, .int a2] => (f_X0_mixedInPairs F a0 a1 a2).bind fun r => κ (some (.long r)) u
  | _ => none
noncomputable def C_X0_mixedInPairs {α : Type} (F : Nat × Nat) : rx_Cl α := fun j as u κ => Bool.rec (motive := fun _ => Option α) (Bool.rec (motive := fun _ => Option α) (Bool.rec (motive := fun _ => Option α) (none) (c_X0_next F as u κ) (Nat.beq j 23)) (c_X0_joinedTo F as u κ) (Nat.beq j 14)) (c_X0_cutTo F as u κ) (Nat.beq j 12)
def t_X0_mixedInPairs : List rx_E := [
  (0, .lconst 0, 1, 0, 0, 0, 0, 0, []),
  (1, .lstore 5, 2, 0, 0, 0, 0, 0, []),
  (3, .lload_n 2, 1, 0, 0, 0, 0, 0, []),
  (4, .iconst 0, 1, 0, 0, 0, 0, 0, []),
  (5, .invokestatic 23, 3, 23, 2, 230, 0, 0, []),
  (8, .istore 7, 2, 0, 0, 0, 0, 0, []),
  (10, .iload 7, 2, 0, 0, 0, 0, 0, []),
  (12, .bipush 64, 2, 0, 0, 0, 64, 0, []),
  (14, .if_icmp .ge 41, 3, 55, 0, 0, 0, 0, []),
  (17, .lload 5, 2, 0, 0, 0, 0, 0, []),
  (19, .iload 4, 2, 0, 0, 0, 0, 0, []),
  (21, .ifCond .eq 12, 3, 33, 0, 0, 0, 0, []),
  (24, .lload_n 0, 1, 0, 0, 0, 0, 0, []),
  (25, .iload 7, 2, 0, 0, 0, 0, 0, []),
  (27, .invokestatic 48, 3, 12, 2, 363, 0, 0, []),
  (30, .goto 9, 3, 39, 0, 0, 0, 0, []),
  (33, .lload_n 0, 1, 0, 0, 0, 0, 0, []),
  (34, .iload 7, 2, 0, 0, 0, 0, 0, []),
  (36, .invokestatic 51, 3, 14, 2, 369, 0, 0, []),
  (39, .lor, 1, 0, 0, 0, 0, 0, []),
  (40, .lstore 5, 2, 0, 0, 0, 0, 0, []),
  (42, .lload_n 2, 1, 0, 0, 0, 0, 0, []),
  (43, .iload 7, 2, 0, 0, 0, 0, 0, []),
  (45, .iconst 1, 1, 0, 0, 0, 1, 0, []),
  (46, .iadd, 1, 0, 0, 0, 0, 0, []),
  (47, .invokestatic 23, 3, 23, 2, 230, 0, 0, []),
  (50, .istore 7, 2, 0, 0, 0, 0, 0, []),
  (52, .goto (-42), 3, 10, 0, 0, 0, 0, []),
  (55, .lload 5, 2, 0, 0, 0, 0, 0, []),
  (57, .lreturn, 1, 0, 0, 0, 0, 0, [])]
def n_X0_mixedInPairs_10 (k10 : Int64 → Int64 → Int32 → Int64 → Int32 → Option Int64) (ls : rx_L) (st : List Value) (u : Option rx_H) : Option Int64 := match ls, st, u with
  | [some (.long x0), _, some (.long x2), _, some (.int x4), some (.long x5), _, some (.int x7)], [], none => k10 x0 x2 x4 x5 x7
  | _, _, _ => none
def n_X0_mixedInPairs_39 (F : Nat × Nat) (k10 : Int64 → Int64 → Int32 → Int64 → Int32 → Option Int64) (ls : rx_L) (st : List Value) (u : Option rx_H) : Option Int64 := match ls, st, u with
  | [some (.long x0), _, some (.long x2), _, some (.int x4), _, _, some (.int x7)], [.long s1, .long s0], none => f_X0_mixedInPairs_39 F k10 x0 x2 x4 x7 s0 s1
  | _, _, _ => none
noncomputable def kk_X0_mixedInPairs_39 (F : Nat × Nat) (k10 : Int64 → Int64 → Int32 → Int64 → Int32 → Option Int64) : Nat → rx_L → List Value → Option rx_H → Option Int64 := fun t ls st u => Bool.rec (motive := fun _ => Option Int64) (none) (n_X0_mixedInPairs_10 k10 ls st u) (Nat.beq t 10)
noncomputable def kk_X0_mixedInPairs_10 (F : Nat × Nat) (k10 : Int64 → Int64 → Int32 → Int64 → Int32 → Option Int64) : Nat → rx_L → List Value → Option rx_H → Option Int64 := fun t ls st u => Bool.rec (motive := fun _ => Option Int64) (none) (n_X0_mixedInPairs_39 F k10 ls st u) (Nat.beq t 39)
noncomputable def kk_X0_mixedInPairs_0 (F : Nat × Nat) : Nat → rx_L → List Value → Option rx_H → Option Int64 := fun t ls st u => Bool.rec (motive := fun _ => Option Int64) (none) (n_X0_mixedInPairs_10 (f_X0_mixedInPairs_10 F F.1) ls st u) (Nat.beq t 10)
set_option maxRecDepth 100000 in
theorem g_X0_mixedInPairs_39 (F : Nat × Nat) (k10 : Int64 → Int64 → Int32 → Int64 → Int32 → Option Int64) (x0 : Int64) (x2 : Int64) (x4 : Int32) (x7 : Int32) (s0 : Int64) (s1 : Int64) : f_X0_mixedInPairs_39 F k10 x0 x2 x4 x7 s0 s1 = rx_node (C_X0_mixedInPairs F) rx_rJ t_X0_mixedInPairs [10, 39] (kk_X0_mixedInPairs_39 F k10) 33 39 [some (.long x0), none, some (.long x2), none, some (.int x4), none, none, some (.int x7)] [.long s1, .long s0] none := rfl
set_option maxRecDepth 100000 in
theorem g_X0_mixedInPairs_10 (F : Nat × Nat) (f : Nat) (x0 : Int64) (x2 : Int64) (x4 : Int32) (x5 : Int64) (x7 : Int32) : f_X0_mixedInPairs_10 F (f + 1) x0 x2 x4 x5 x7 = rx_node (C_X0_mixedInPairs F) rx_rJ t_X0_mixedInPairs [10, 39] (kk_X0_mixedInPairs_10 F (f_X0_mixedInPairs_10 F f)) 33 10 [some (.long x0), none, some (.long x2), none, some (.int x4), some (.long x5), none, some (.int x7)] [] none := rfl
set_option maxRecDepth 100000 in
theorem g_X0_mixedInPairs_0 (F : Nat × Nat) (x0 : Int64) (x2 : Int64) (x4 : Int32) : f_X0_mixedInPairs_0 F x0 x2 x4 = rx_node (C_X0_mixedInPairs F) rx_rJ t_X0_mixedInPairs [10, 39] (kk_X0_mixedInPairs_0 F) 33 0 [some (.long x0), none, some (.long x2), none, some (.int x4), none, none, none] [] none := rfl
def f_X0_mixed_65 (F : Nat × Nat) (s0 : Int64) (s1 : Int64) (s2 : Int32) : Option Int64 :=
  (f_X0_mixedInPairs F s0 s1 s2).bind fun v1 =>
  some v1
def f_X0_mixed_0 (F : Nat × Nat) (x0 : Int64) (x2 : Int64) (x4 : Int32) : Option Int64 :=
  if x4 = 0 then
    some (x0 &&& x2)
  else if x4 = 1 then
    some (x0 ||| x2)
  else if x4 = 2 then
    some (x0 &&& (x2 ^^^ (-1 : Int64)))
  else if x4 = 3 then
    some (x0 ^^^ x2)
  else 
    if x4 = (4 : Int32) then
      f_X0_mixed_65 F x0 x2 (1 : Int32)
    else
      f_X0_mixed_65 F x0 x2 (0 : Int32)
def f_X0_mixed (F : Nat × Nat) (x0 : Int64) (x2 : Int64) (x4 : Int32) : Option Int64 := f_X0_mixed_0 F x0 x2 x4
def c_X0_mixed {α : Type} (F : Nat × Nat) (as : List Value) (u : Option rx_H) (κ : rx_K α) : Option α := match as with
  | [.long a0, .long a1, .int a2] => (f_X0_mixed F a0 a1 a2).bind fun r => κ (some (.long r)) u
  | _ => none
noncomputable def C_X0_mixed {α : Type} (F : Nat × Nat) : rx_Cl α := fun j as u κ => Bool.rec (motive := fun _ => Option α) (none) (c_X0_mixedInPairs F as u κ) (Nat.beq j 20)
def t_X0_mixed : List rx_E := [
  (0, .iload 4, 2, 0, 0, 0, 0, 0, []),
  (2, .tableswitch 50 0 3 #[30, 34, 38, 46], 30, 52, 0, 0, 0, 0, [(0, 32), (1, 36), (2, 40), (3, 48)]),
  (32, .lload_n 0, 1, 0, 0, 0, 0, 0, []),
  (33, .lload_n 2, 1, 0, 0, 0, 0, 0, []),
  (34, .land, 1, 0, 0, 0, 0, 0, []),
  (35, .lreturn, 1, 0, 0, 0, 0, 0, []),
  (36, .lload_n 0, 1, 0, 0, 0, 0, 0, []),
  (37, .lload_n 2, 1, 0, 0, 0, 0, 0, []),
  (38, .lor, 1, 0, 0, 0, 0, 0, []),
  (39, .lreturn, 1, 0, 0, 0, 0, 0, []),
  (40, .lload_n 0, 1, 0, 0, 0, 0, 0, []),
  (41, .lload_n 2, 1, 0, 0, 0, 0, 0, []),
  (42, .ldc2_w 21, 3, 0, 0, 236, 0, (-1), []),
  (45, .lxor, 1, 0, 0, 0, 0, 0, []),
  (46, .land, 1, 0, 0, 0, 0, 0, []),
  (47, .lreturn, 1, 0, 0, 0, 0, 0, []),
  (48, .lload_n 0, 1, 0, 0, 0, 0, 0, []),
  (49, .lload_n 2, 1, 0, 0, 0, 0, 0, []),
  (50, .lxor, 1, 0, 0, 0, 0, 0, []),
  (51, .lreturn, 1, 0, 0, 0, 0, 0, []),
  (52, .lload_n 0, 1, 0, 0, 0, 0, 0, []),
  (53, .lload_n 2, 1, 0, 0, 0, 0, 0, []),
  (54, .iload 4, 2, 0, 0, 0, 0, 0, []),
  (56, .iconst 4, 1, 0, 0, 0, 4, 0, []),
  (57, .if_icmp .ne 7, 3, 64, 0, 0, 0, 0, []),
  (60, .iconst 1, 1, 0, 0, 0, 1, 0, []),
  (61, .goto 4, 3, 65, 0, 0, 0, 0, []),
  (64, .iconst 0, 1, 0, 0, 0, 0, 0, []),
  (65, .invokestatic 44, 3, 20, 3, 360, 0, 0, []),
  (68, .lreturn, 1, 0, 0, 0, 0, 0, [])]
def n_X0_mixed_65 (F : Nat × Nat) (ls : rx_L) (st : List Value) (u : Option rx_H) : Option Int64 := match ls, st, u with
  | [_, _, _, _, _], [.int s2, .long s1, .long s0], none => f_X0_mixed_65 F s0 s1 s2
  | _, _, _ => none
noncomputable def kk_X0_mixed_65 (F : Nat × Nat) : Nat → rx_L → List Value → Option rx_H → Option Int64 := fun t ls st u => none
noncomputable def kk_X0_mixed_0 (F : Nat × Nat) : Nat → rx_L → List Value → Option rx_H → Option Int64 := fun t ls st u => Bool.rec (motive := fun _ => Option Int64) (none) (n_X0_mixed_65 F ls st u) (Nat.beq t 65)
set_option maxRecDepth 100000 in
theorem g_X0_mixed_65 (F : Nat × Nat) (s0 : Int64) (s1 : Int64) (s2 : Int32) : f_X0_mixed_65 F s0 s1 s2 = rx_node (C_X0_mixed F) rx_rJ t_X0_mixed [65] (kk_X0_mixed_65 F) 33 65 [none, none, none, none, none] [.int s2, .long s1, .long s0] none := rfl
set_option maxRecDepth 100000 in
theorem g_X0_mixed_0 (F : Nat × Nat) (x0 : Int64) (x2 : Int64) (x4 : Int32) : f_X0_mixed_0 F x0 x2 x4 = rx_node (C_X0_mixed F) rx_rJ t_X0_mixed [65] (kk_X0_mixed_0 F) 33 0 [some (.long x0), none, some (.long x2), none, some (.int x4)] [] none := rfl
def f_X0_shatters_0 (F : Nat × Nat) (x0 : Int64) (x2 : Int32) : Option Int32 :=
  (f_X0_cutTo F x0 x2).bind fun v1 =>
  (f_X0_within F x2).bind fun v2 =>
  if v1 = v2 then
    some (1 : Int32)
  else
    some (0 : Int32)
def f_X0_shatters (F : Nat × Nat) (x0 : Int64) (x2 : Int32) : Option Int32 := f_X0_shatters_0 F x0 x2
def c_X0_shatters {α : Type} (F : Nat × Nat) (as : List Value) (u : Option rx_H) (κ : rx_K α) : Option α := match as with
  | [.long a0, .int a1] => (f_X0_shatters F a0 a1).bind fun r => κ (some (.int r)) u
  | _ => none
noncomputable def C_X0_shatters {α : Type} (F : Nat × Nat) : rx_Cl α := fun j as u κ => Bool.rec (motive := fun _ => Option α) (Bool.rec (motive := fun _ => Option α) (none) (c_X0_within F as u κ) (Nat.beq j 30)) (c_X0_cutTo F as u κ) (Nat.beq j 12)
def t_X0_shatters : List rx_E := [
  (0, .lload_n 0, 1, 0, 0, 0, 0, 0, []),
  (1, .iload_n 2, 1, 0, 0, 0, 0, 0, []),
  (2, .invokestatic 48, 3, 12, 2, 363, 0, 0, []),
  (5, .iload_n 2, 1, 0, 0, 0, 0, 0, []),
  (6, .invokestatic 27, 3, 30, 1, 226, 0, 0, []),
  (9, .lcmp, 1, 0, 0, 0, 0, 0, []),
  (10, .ifCond .ne 7, 3, 17, 0, 0, 0, 0, []),
  (13, .iconst 1, 1, 0, 0, 0, 1, 0, []),
  (14, .goto 4, 3, 18, 0, 0, 0, 0, []),
  (17, .iconst 0, 1, 0, 0, 0, 0, 0, []),
  (18, .ireturn, 1, 0, 2, 0, 0, 0, [])]
noncomputable def kk_X0_shatters_0 (F : Nat × Nat) : Nat → rx_L → List Value → Option rx_H → Option Int32 := fun t ls st u => none
set_option maxRecDepth 100000 in
theorem g_X0_shatters_0 (F : Nat × Nat) (x0 : Int64) (x2 : Int32) : f_X0_shatters_0 F x0 x2 = rx_node (C_X0_shatters F) rx_rI t_X0_shatters [] (kk_X0_shatters_0 F) 14 0 [some (.long x0), none, some (.int x2)] [] none := rfl
def f_X0_moved_0 (F : Nat × Nat) (x0 : Int64) (x2 : Int32) (x3 : Int32) : Option Int64 :=
  (rx_aJ none 1000001 x2).bind fun v1 =>
  (rx_aJ none 1000001 x3).bind fun v2 =>
  (f_X0_lessThing F ((x0 &&& (v1 ^^^ (-1 : Int64))) &&& v2) x2).bind fun v3 =>
  (f_X0_moreThing F v3 x3).bind fun v4 =>
  (f_X0_lessThing F (v4 &&& (x0 ^^^ (-1 : Int64))) x3).bind fun v5 =>
  (f_X0_moreThing F v5 x2).bind fun v6 =>
  some ((x0 &&& (v6 ^^^ (-1 : Int64))) ||| (v4 &&& (x0 ^^^ (-1 : Int64))))
def f_X0_moved (F : Nat × Nat) (x0 : Int64) (x2 : Int32) (x3 : Int32) : Option Int64 := f_X0_moved_0 F x0 x2 x3
def c_X0_moved {α : Type} (F : Nat × Nat) (as : List Value) (u : Option rx_H) (κ : rx_K α) : Option α := match as with
  | [.long a0, .int a1, .int a2] => (f_X0_moved F a0 a1 a2).bind fun r => κ (some (.long r)) u
  | _ => none
noncomputable def C_X0_moved {α : Type} (F : Nat × Nat) : rx_Cl α := fun j as u κ => Bool.rec (motive := fun _ => Option α) (Bool.rec (motive := fun _ => Option α) (none) (c_X0_moreThing F as u κ) (Nat.beq j 21)) (c_X0_lessThing F as u κ) (Nat.beq j 18)
def t_X0_moved : List rx_E := [
  (0, .lload_n 0, 1, 0, 0, 0, 0, 0, []),
  (1, .getstatic 30, 3, 1000001, 0, 319, 0, 0, []),
  (4, .iload_n 2, 1, 0, 0, 0, 0, 0, []),
  (5, .laload, 1, 0, 0, 0, 0, 0, []),
  (6, .ldc2_w 21, 3, 0, 0, 236, 0, (-1), []),
  (9, .lxor, 1, 0, 0, 0, 0, 0, []),
  (10, .land, 1, 0, 0, 0, 0, 0, []),
  (11, .getstatic 30, 3, 1000001, 0, 319, 0, 0, []),
  (14, .iload_n 3, 1, 0, 0, 0, 0, 0, []),
  (15, .laload, 1, 0, 0, 0, 0, 0, []),
  (16, .land, 1, 0, 0, 0, 0, 0, []),
  (17, .lstore 4, 2, 0, 0, 0, 0, 0, []),
  (19, .lload 4, 2, 0, 0, 0, 0, 0, []),
  (21, .iload_n 2, 1, 0, 0, 0, 0, 0, []),
  (22, .invokestatic 34, 3, 18, 2, 316, 0, 0, []),
  (25, .iload_n 3, 1, 0, 0, 0, 0, 0, []),
  (26, .invokestatic 38, 3, 21, 2, 332, 0, 0, []),
  (29, .lload_n 0, 1, 0, 0, 0, 0, 0, []),
  (30, .ldc2_w 21, 3, 0, 0, 236, 0, (-1), []),
  (33, .lxor, 1, 0, 0, 0, 0, 0, []),
  (34, .land, 1, 0, 0, 0, 0, 0, []),
  (35, .lstore 6, 2, 0, 0, 0, 0, 0, []),
  (37, .lload 6, 2, 0, 0, 0, 0, 0, []),
  (39, .iload_n 3, 1, 0, 0, 0, 0, 0, []),
  (40, .invokestatic 34, 3, 18, 2, 316, 0, 0, []),
  (43, .iload_n 2, 1, 0, 0, 0, 0, 0, []),
  (44, .invokestatic 38, 3, 21, 2, 332, 0, 0, []),
  (47, .lstore 8, 2, 0, 0, 0, 0, 0, []),
  (49, .lload_n 0, 1, 0, 0, 0, 0, 0, []),
  (50, .lload 8, 2, 0, 0, 0, 0, 0, []),
  (52, .ldc2_w 21, 3, 0, 0, 236, 0, (-1), []),
  (55, .lxor, 1, 0, 0, 0, 0, 0, []),
  (56, .land, 1, 0, 0, 0, 0, 0, []),
  (57, .lload 6, 2, 0, 0, 0, 0, 0, []),
  (59, .lor, 1, 0, 0, 0, 0, 0, []),
  (60, .lreturn, 1, 0, 0, 0, 0, 0, [])]
noncomputable def kk_X0_moved_0 (F : Nat × Nat) : Nat → rx_L → List Value → Option rx_H → Option Int64 := fun t ls st u => none
set_option maxRecDepth 100000 in
theorem g_X0_moved_0 (F : Nat × Nat) (x0 : Int64) (x2 : Int32) (x3 : Int32) : f_X0_moved_0 F x0 x2 x3 = rx_node (C_X0_moved F) rx_rJ t_X0_moved [] (kk_X0_moved_0 F) 39 0 [some (.long x0), none, some (.int x2), some (.int x3), none, none, none, none, none, none] [] none := rfl
def f_X0_swapped_0 (F : Nat × Nat) (x0 : Int64) (x2 : Int32) (x3 : Int32) : Option Int64 :=
  if x2 = x3 then
    some x0
  else
    (rx_aJ none 1000001 x2).bind fun v1 =>
    (rx_aJ none 1000001 x3).bind fun v2 =>
    (rx_aJ none 1000001 x2).bind fun v3 =>
    (rx_aJ none 1000001 x3).bind fun v4 =>
    (f_X0_lessThing F ((x0 &&& (v1 ^^^ (-1 : Int64))) &&& v2) x2).bind fun v5 =>
    (f_X0_moreThing F v5 x3).bind fun v6 =>
    (f_X0_lessThing F ((x0 &&& v3) &&& (v4 ^^^ (-1 : Int64))) x3).bind fun v7 =>
    (f_X0_moreThing F v7 x2).bind fun v8 =>
    some ((((x0 &&& (((x0 &&& (v1 ^^^ (-1 : Int64))) &&& v2) ^^^ (-1 : Int64))) &&& (((x0 &&& v3) &&& (v4 ^^^ (-1 : Int64))) ^^^ (-1 : Int64))) ||| v6) ||| v8)
def f_X0_swapped (F : Nat × Nat) (x0 : Int64) (x2 : Int32) (x3 : Int32) : Option Int64 := f_X0_swapped_0 F x0 x2 x3
def c_X0_swapped {α : Type} (F : Nat × Nat) (as : List Value) (u : Option rx_H) (κ : rx_K α) : Option α := match as with
  | [.long a0, .int a1, .int a2] => (f_X0_swapped F a0 a1 a2).bind fun r => κ (some (.long r)) u
  | _ => none
noncomputable def C_X0_swapped {α : Type} (F : Nat × Nat) : rx_Cl α := fun j as u κ => Bool.rec (motive := fun _ => Option α) (Bool.rec (motive := fun _ => Option α) (none) (c_X0_moreThing F as u κ) (Nat.beq j 21)) (c_X0_lessThing F as u κ) (Nat.beq j 18)
def t_X0_swapped : List rx_E := [
  (0, .iload_n 2, 1, 0, 0, 0, 0, 0, []),
  (1, .iload_n 3, 1, 0, 0, 0, 0, 0, []),
  (2, .if_icmp .ne 5, 3, 7, 0, 0, 0, 0, []),
  (5, .lload_n 0, 1, 0, 0, 0, 0, 0, []),
  (6, .lreturn, 1, 0, 0, 0, 0, 0, []),
  (7, .lload_n 0, 1, 0, 0, 0, 0, 0, []),
  (8, .getstatic 30, 3, 1000001, 0, 319, 0, 0, []),
  (11, .iload_n 2, 1, 0, 0, 0, 0, 0, []),
  (12, .laload, 1, 0, 0, 0, 0, 0, []),
  (13, .ldc2_w 21, 3, 0, 0, 236, 0, (-1), []),
  (16, .lxor, 1, 0, 0, 0, 0, 0, []),
  (17, .land, 1, 0, 0, 0, 0, 0, []),
  (18, .getstatic 30, 3, 1000001, 0, 319, 0, 0, []),
  (21, .iload_n 3, 1, 0, 0, 0, 0, 0, []),
  (22, .laload, 1, 0, 0, 0, 0, 0, []),
  (23, .land, 1, 0, 0, 0, 0, 0, []),
  (24, .lstore 4, 2, 0, 0, 0, 0, 0, []),
  (26, .lload_n 0, 1, 0, 0, 0, 0, 0, []),
  (27, .getstatic 30, 3, 1000001, 0, 319, 0, 0, []),
  (30, .iload_n 2, 1, 0, 0, 0, 0, 0, []),
  (31, .laload, 1, 0, 0, 0, 0, 0, []),
  (32, .land, 1, 0, 0, 0, 0, 0, []),
  (33, .getstatic 30, 3, 1000001, 0, 319, 0, 0, []),
  (36, .iload_n 3, 1, 0, 0, 0, 0, 0, []),
  (37, .laload, 1, 0, 0, 0, 0, 0, []),
  (38, .ldc2_w 21, 3, 0, 0, 236, 0, (-1), []),
  (41, .lxor, 1, 0, 0, 0, 0, 0, []),
  (42, .land, 1, 0, 0, 0, 0, 0, []),
  (43, .lstore 6, 2, 0, 0, 0, 0, 0, []),
  (45, .lload_n 0, 1, 0, 0, 0, 0, 0, []),
  (46, .lload 4, 2, 0, 0, 0, 0, 0, []),
  (48, .ldc2_w 21, 3, 0, 0, 236, 0, (-1), []),
  (51, .lxor, 1, 0, 0, 0, 0, 0, []),
  (52, .land, 1, 0, 0, 0, 0, 0, []),
  (53, .lload 6, 2, 0, 0, 0, 0, 0, []),
  (55, .ldc2_w 21, 3, 0, 0, 236, 0, (-1), []),
  (58, .lxor, 1, 0, 0, 0, 0, 0, []),
  (59, .land, 1, 0, 0, 0, 0, 0, []),
  (60, .lstore 8, 2, 0, 0, 0, 0, 0, []),
  (62, .lload 8, 2, 0, 0, 0, 0, 0, []),
  (64, .lload 4, 2, 0, 0, 0, 0, 0, []),
  (66, .iload_n 2, 1, 0, 0, 0, 0, 0, []),
  (67, .invokestatic 34, 3, 18, 2, 316, 0, 0, []),
  (70, .iload_n 3, 1, 0, 0, 0, 0, 0, []),
  (71, .invokestatic 38, 3, 21, 2, 332, 0, 0, []),
  (74, .lor, 1, 0, 0, 0, 0, 0, []),
  (75, .lload 6, 2, 0, 0, 0, 0, 0, []),
  (77, .iload_n 3, 1, 0, 0, 0, 0, 0, []),
  (78, .invokestatic 34, 3, 18, 2, 316, 0, 0, []),
  (81, .iload_n 2, 1, 0, 0, 0, 0, 0, []),
  (82, .invokestatic 38, 3, 21, 2, 332, 0, 0, []),
  (85, .lor, 1, 0, 0, 0, 0, 0, []),
  (86, .lreturn, 1, 0, 0, 0, 0, 0, [])]
noncomputable def kk_X0_swapped_0 (F : Nat × Nat) : Nat → rx_L → List Value → Option rx_H → Option Int64 := fun t ls st u => none
set_option maxRecDepth 100000 in
theorem g_X0_swapped_0 (F : Nat × Nat) (x0 : Int64) (x2 : Int32) (x3 : Int32) : f_X0_swapped_0 F x0 x2 x3 = rx_node (C_X0_swapped F) rx_rJ t_X0_swapped [] (kk_X0_swapped_0 F) 56 0 [some (.long x0), none, some (.int x2), some (.int x3), none, none, none, none, none, none] [] none := rfl
def f_X1_hasNumber_0 (F : Nat × Nat) (x0 : Int32) : Option Int32 :=
  if x0 = (2 : Int32) then
    some (1 : Int32)
  else
    if x0 = (4 : Int32) then
      some (1 : Int32)
    else
      if x0 = (5 : Int32) then
        some (1 : Int32)
      else
        some (0 : Int32)
def f_X1_hasNumber (F : Nat × Nat) (x0 : Int32) : Option Int32 := f_X1_hasNumber_0 F x0
def c_X1_hasNumber {α : Type} (F : Nat × Nat) (as : List Value) (u : Option rx_H) (κ : rx_K α) : Option α := match as with
  | [.int a0] => (f_X1_hasNumber F a0).bind fun r => κ (some (.int r)) u
  | _ => none
noncomputable def C_X1_hasNumber {α : Type} (F : Nat × Nat) : rx_Cl α := fun j as u κ => none
def t_X1_hasNumber : List rx_E := [
  (0, .iload_n 0, 1, 0, 0, 0, 0, 0, []),
  (1, .iconst 2, 1, 0, 0, 0, 2, 0, []),
  (2, .if_icmp .eq 13, 3, 15, 0, 0, 0, 0, []),
  (5, .iload_n 0, 1, 0, 0, 0, 0, 0, []),
  (6, .iconst 4, 1, 0, 0, 0, 4, 0, []),
  (7, .if_icmp .eq 8, 3, 15, 0, 0, 0, 0, []),
  (10, .iload_n 0, 1, 0, 0, 0, 0, 0, []),
  (11, .iconst 5, 1, 0, 0, 0, 5, 0, []),
  (12, .if_icmp .ne 7, 3, 19, 0, 0, 0, 0, []),
  (15, .iconst 1, 1, 0, 0, 0, 1, 0, []),
  (16, .goto 4, 3, 20, 0, 0, 0, 0, []),
  (19, .iconst 0, 1, 0, 0, 0, 0, 0, []),
  (20, .ireturn, 1, 0, 2, 0, 0, 0, [])]
noncomputable def kk_X1_hasNumber_0 (F : Nat × Nat) : Nat → rx_L → List Value → Option rx_H → Option Int32 := fun t ls st u => none
set_option maxRecDepth 100000 in
theorem g_X1_hasNumber_0 (F : Nat × Nat) (x0 : Int32) : f_X1_hasNumber_0 F x0 = rx_node (C_X1_hasNumber F) rx_rI t_X1_hasNumber [] (kk_X1_hasNumber_0 F) 16 0 [some (.int x0)] [] none := rfl
def f_J6_bitCount_0f7a4_48 (F : Nat × Nat) (x0 : Int32) : Option Int32 :=
  some (x0 &&& (63 : Int32))
def f_J6_bitCount_0f7a4_41 (F : Nat × Nat) (x0 : Int32) : Option Int32 :=
  f_J6_bitCount_0f7a4_48 F (x0 + ((Int32.toUInt32 x0 >>> (Int32.toUInt32 (16 : Int32) &&& Int32.toUInt32 31)).toInt32))
def f_J6_bitCount_0f7a4_34 (F : Nat × Nat) (x0 : Int32) : Option Int32 :=
  f_J6_bitCount_0f7a4_41 F (x0 + ((Int32.toUInt32 x0 >>> (Int32.toUInt32 (8 : Int32) &&& Int32.toUInt32 31)).toInt32))
def f_J6_bitCount_0f7a4_24 (F : Nat × Nat) (x0 : Int32) : Option Int32 :=
  f_J6_bitCount_0f7a4_34 F ((x0 + ((Int32.toUInt32 x0 >>> (Int32.toUInt32 (4 : Int32) &&& Int32.toUInt32 31)).toInt32)) &&& (252645135 : Int32))
def f_J6_bitCount_0f7a4_10 (F : Nat × Nat) (x0 : Int32) : Option Int32 :=
  f_J6_bitCount_0f7a4_24 F ((x0 &&& (858993459 : Int32)) + (((Int32.toUInt32 x0 >>> (Int32.toUInt32 (2 : Int32) &&& Int32.toUInt32 31)).toInt32) &&& (858993459 : Int32)))
def f_J6_bitCount_0f7a4_0 (F : Nat × Nat) (x0 : Int32) : Option Int32 :=
  f_J6_bitCount_0f7a4_10 F (x0 - (((Int32.toUInt32 x0 >>> (Int32.toUInt32 (1 : Int32) &&& Int32.toUInt32 31)).toInt32) &&& (1431655765 : Int32)))
def f_J6_bitCount_0f7a4 (F : Nat × Nat) (x0 : Int32) : Option Int32 := f_J6_bitCount_0f7a4_0 F x0
def c_J6_bitCount_0f7a4 {α : Type} (F : Nat × Nat) (as : List Value) (u : Option rx_H) (κ : rx_K α) : Option α := match as with
  | [.int a0] => (f_J6_bitCount_0f7a4 F a0).bind fun r => κ (some (.int r)) u
  | _ => none
noncomputable def C_J6_bitCount_0f7a4 {α : Type} (F : Nat × Nat) : rx_Cl α := fun j as u κ => none
def t_J6_bitCount_0f7a4 : List rx_E := [
  (0, .iload_n 0, 1, 0, 0, 0, 0, 0, []),
  (1, .iload_n 0, 1, 0, 0, 0, 0, 0, []),
  (2, .iconst 1, 1, 0, 0, 0, 1, 0, []),
  (3, .iushr, 1, 0, 0, 0, 0, 0, []),
  (4, .ldc_w 265, 3, 0, 0, 109, 1431655765, 0, []),
  (7, .iand, 1, 0, 0, 0, 0, 0, []),
  (8, .isub, 1, 0, 0, 0, 0, 0, []),
  (9, .istore_n 0, 1, 0, 0, 0, 0, 0, []),
  (10, .iload_n 0, 1, 0, 0, 0, 0, 0, []),
  (11, .ldc_w 266, 3, 0, 0, 110, 858993459, 0, []),
  (14, .iand, 1, 0, 0, 0, 0, 0, []),
  (15, .iload_n 0, 1, 0, 0, 0, 0, 0, []),
  (16, .iconst 2, 1, 0, 0, 0, 2, 0, []),
  (17, .iushr, 1, 0, 0, 0, 0, 0, []),
  (18, .ldc_w 266, 3, 0, 0, 110, 858993459, 0, []),
  (21, .iand, 1, 0, 0, 0, 0, 0, []),
  (22, .iadd, 1, 0, 0, 0, 0, 0, []),
  (23, .istore_n 0, 1, 0, 0, 0, 0, 0, []),
  (24, .iload_n 0, 1, 0, 0, 0, 0, 0, []),
  (25, .iload_n 0, 1, 0, 0, 0, 0, 0, []),
  (26, .iconst 4, 1, 0, 0, 0, 4, 0, []),
  (27, .iushr, 1, 0, 0, 0, 0, 0, []),
  (28, .iadd, 1, 0, 0, 0, 0, 0, []),
  (29, .ldc_w 267, 3, 0, 0, 111, 252645135, 0, []),
  (32, .iand, 1, 0, 0, 0, 0, 0, []),
  (33, .istore_n 0, 1, 0, 0, 0, 0, 0, []),
  (34, .iload_n 0, 1, 0, 0, 0, 0, 0, []),
  (35, .iload_n 0, 1, 0, 0, 0, 0, 0, []),
  (36, .bipush 8, 2, 0, 0, 0, 8, 0, []),
  (38, .iushr, 1, 0, 0, 0, 0, 0, []),
  (39, .iadd, 1, 0, 0, 0, 0, 0, []),
  (40, .istore_n 0, 1, 0, 0, 0, 0, 0, []),
  (41, .iload_n 0, 1, 0, 0, 0, 0, 0, []),
  (42, .iload_n 0, 1, 0, 0, 0, 0, 0, []),
  (43, .bipush 16, 2, 0, 0, 0, 16, 0, []),
  (45, .iushr, 1, 0, 0, 0, 0, 0, []),
  (46, .iadd, 1, 0, 0, 0, 0, 0, []),
  (47, .istore_n 0, 1, 0, 0, 0, 0, 0, []),
  (48, .iload_n 0, 1, 0, 0, 0, 0, 0, []),
  (49, .bipush 63, 2, 0, 0, 0, 63, 0, []),
  (51, .iand, 1, 0, 0, 0, 0, 0, []),
  (52, .ireturn, 1, 0, 0, 0, 0, 0, [])]
def n_J6_bitCount_0f7a4_10 (F : Nat × Nat) (ls : rx_L) (st : List Value) (u : Option rx_H) : Option Int32 := match ls, st, u with
  | [some (.int x0)], [], none => f_J6_bitCount_0f7a4_10 F x0
  | _, _, _ => none
def n_J6_bitCount_0f7a4_24 (F : Nat × Nat) (ls : rx_L) (st : List Value) (u : Option rx_H) : Option Int32 := match ls, st, u with
  | [some (.int x0)], [], none => f_J6_bitCount_0f7a4_24 F x0
  | _, _, _ => none
def n_J6_bitCount_0f7a4_34 (F : Nat × Nat) (ls : rx_L) (st : List Value) (u : Option rx_H) : Option Int32 := match ls, st, u with
  | [some (.int x0)], [], none => f_J6_bitCount_0f7a4_34 F x0
  | _, _, _ => none
def n_J6_bitCount_0f7a4_41 (F : Nat × Nat) (ls : rx_L) (st : List Value) (u : Option rx_H) : Option Int32 := match ls, st, u with
  | [some (.int x0)], [], none => f_J6_bitCount_0f7a4_41 F x0
  | _, _, _ => none
def n_J6_bitCount_0f7a4_48 (F : Nat × Nat) (ls : rx_L) (st : List Value) (u : Option rx_H) : Option Int32 := match ls, st, u with
  | [some (.int x0)], [], none => f_J6_bitCount_0f7a4_48 F x0
  | _, _, _ => none
noncomputable def kk_J6_bitCount_0f7a4_48 (F : Nat × Nat) : Nat → rx_L → List Value → Option rx_H → Option Int32 := fun t ls st u => none
noncomputable def kk_J6_bitCount_0f7a4_41 (F : Nat × Nat) : Nat → rx_L → List Value → Option rx_H → Option Int32 := fun t ls st u => Bool.rec (motive := fun _ => Option Int32) (none) (n_J6_bitCount_0f7a4_48 F ls st u) (Nat.beq t 48)
noncomputable def kk_J6_bitCount_0f7a4_34 (F : Nat × Nat) : Nat → rx_L → List Value → Option rx_H → Option Int32 := fun t ls st u => Bool.rec (motive := fun _ => Option Int32) (none) (n_J6_bitCount_0f7a4_41 F ls st u) (Nat.beq t 41)
noncomputable def kk_J6_bitCount_0f7a4_24 (F : Nat × Nat) : Nat → rx_L → List Value → Option rx_H → Option Int32 := fun t ls st u => Bool.rec (motive := fun _ => Option Int32) (none) (n_J6_bitCount_0f7a4_34 F ls st u) (Nat.beq t 34)
noncomputable def kk_J6_bitCount_0f7a4_10 (F : Nat × Nat) : Nat → rx_L → List Value → Option rx_H → Option Int32 := fun t ls st u => Bool.rec (motive := fun _ => Option Int32) (none) (n_J6_bitCount_0f7a4_24 F ls st u) (Nat.beq t 24)
noncomputable def kk_J6_bitCount_0f7a4_0 (F : Nat × Nat) : Nat → rx_L → List Value → Option rx_H → Option Int32 := fun t ls st u => Bool.rec (motive := fun _ => Option Int32) (none) (n_J6_bitCount_0f7a4_10 F ls st u) (Nat.beq t 10)
set_option maxRecDepth 100000 in
theorem g_J6_bitCount_0f7a4_48 (F : Nat × Nat) (x0 : Int32) : f_J6_bitCount_0f7a4_48 F x0 = rx_node (C_J6_bitCount_0f7a4 F) rx_rI t_J6_bitCount_0f7a4 [10, 24, 34, 41, 48] (kk_J6_bitCount_0f7a4_48 F) 45 48 [some (.int x0)] [] none := rfl
set_option maxRecDepth 100000 in
theorem g_J6_bitCount_0f7a4_41 (F : Nat × Nat) (x0 : Int32) : f_J6_bitCount_0f7a4_41 F x0 = rx_node (C_J6_bitCount_0f7a4 F) rx_rI t_J6_bitCount_0f7a4 [10, 24, 34, 41, 48] (kk_J6_bitCount_0f7a4_41 F) 45 41 [some (.int x0)] [] none := rfl
set_option maxRecDepth 100000 in
theorem g_J6_bitCount_0f7a4_34 (F : Nat × Nat) (x0 : Int32) : f_J6_bitCount_0f7a4_34 F x0 = rx_node (C_J6_bitCount_0f7a4 F) rx_rI t_J6_bitCount_0f7a4 [10, 24, 34, 41, 48] (kk_J6_bitCount_0f7a4_34 F) 45 34 [some (.int x0)] [] none := rfl
set_option maxRecDepth 100000 in
theorem g_J6_bitCount_0f7a4_24 (F : Nat × Nat) (x0 : Int32) : f_J6_bitCount_0f7a4_24 F x0 = rx_node (C_J6_bitCount_0f7a4 F) rx_rI t_J6_bitCount_0f7a4 [10, 24, 34, 41, 48] (kk_J6_bitCount_0f7a4_24 F) 45 24 [some (.int x0)] [] none := rfl
set_option maxRecDepth 100000 in
theorem g_J6_bitCount_0f7a4_10 (F : Nat × Nat) (x0 : Int32) : f_J6_bitCount_0f7a4_10 F x0 = rx_node (C_J6_bitCount_0f7a4 F) rx_rI t_J6_bitCount_0f7a4 [10, 24, 34, 41, 48] (kk_J6_bitCount_0f7a4_10 F) 45 10 [some (.int x0)] [] none := rfl
set_option maxRecDepth 100000 in
theorem g_J6_bitCount_0f7a4_0 (F : Nat × Nat) (x0 : Int32) : f_J6_bitCount_0f7a4_0 F x0 = rx_node (C_J6_bitCount_0f7a4 F) rx_rI t_J6_bitCount_0f7a4 [10, 24, 34, 41, 48] (kk_J6_bitCount_0f7a4_0 F) 45 0 [some (.int x0)] [] none := rfl
def f_X1_firstFarFrom_7 (F : Nat × Nat) : Nat → Int64 → Int32 → Int32 → Int32 → Option Int32
  | 0, _, _, _, _ => none
  | f + 1, x0, x2, x3, x4 =>
    if x4 < (64 : Int32) then
      (f_J6_bitCount_0f7a4 F (x4 &&& x2)).bind fun v1 =>
      if v1 < x3 then
        some x4
      else
        (f_X0_next F x0 (x4 + (1 : Int32))).bind fun v2 =>
        (f_X1_firstFarFrom_7 F f) x0 x2 x3 v2
    else
      some (-2 : Int32)
def f_X1_firstFarFrom_0 (F : Nat × Nat) (x0 : Int64) (x2 : Int32) (x3 : Int32) : Option Int32 :=
  (f_X0_next F x0 (0 : Int32)).bind fun v1 =>
  f_X1_firstFarFrom_7 F F.1 x0 x2 x3 v1
def f_X1_firstFarFrom (F : Nat × Nat) (x0 : Int64) (x2 : Int32) (x3 : Int32) : Option Int32 := f_X1_firstFarFrom_0 F x0 x2 x3
def c_X1_firstFarFrom {α : Type} (F : Nat × Nat) (as : List Value) (u : Option rx_H) (κ : rx_K α) : Option α := match as with
  | [.long a0, .int a1, .int a2] => (f_X1_firstFarFrom F a0 a1 a2).bind fun r => κ (some (.int r)) u
  | _ => none
noncomputable def C_X1_firstFarFrom {α : Type} (F : Nat × Nat) : rx_Cl α := fun j as u κ => Bool.rec (motive := fun _ => Option α) (Bool.rec (motive := fun _ => Option α) (none) (c_X0_next F as u κ) (Nat.beq j 23)) (c_J6_bitCount_0f7a4 F as u κ) (Nat.beq j 1)
def t_X1_firstFarFrom : List rx_E := [
  (0, .lload_n 0, 1, 0, 0, 0, 0, 0, []),
  (1, .iconst 0, 1, 0, 0, 0, 0, 0, []),
  (2, .invokestatic 59, 3, 23, 2, 244, 0, 0, []),
  (5, .istore 4, 2, 0, 0, 0, 0, 0, []),
  (7, .iload 4, 2, 0, 0, 0, 0, 0, []),
  (9, .bipush 64, 2, 0, 0, 0, 64, 0, []),
  (11, .if_icmp .ge 30, 3, 41, 0, 0, 0, 0, []),
  (14, .iload 4, 2, 0, 0, 0, 0, 0, []),
  (16, .iload_n 2, 1, 0, 0, 0, 0, 0, []),
  (17, .iand, 1, 0, 0, 0, 0, 0, []),
  (18, .invokestatic 47, 3, 1, 1, 240, 0, 0, []),
  (21, .iload_n 3, 1, 0, 0, 0, 0, 0, []),
  (22, .if_icmp .ge 6, 3, 28, 0, 0, 0, 0, []),
  (25, .iload 4, 2, 0, 0, 0, 0, 0, []),
  (27, .ireturn, 1, 0, 0, 0, 0, 0, []),
  (28, .lload_n 0, 1, 0, 0, 0, 0, 0, []),
  (29, .iload 4, 2, 0, 0, 0, 0, 0, []),
  (31, .iconst 1, 1, 0, 0, 0, 1, 0, []),
  (32, .iadd, 1, 0, 0, 0, 0, 0, []),
  (33, .invokestatic 59, 3, 23, 2, 244, 0, 0, []),
  (36, .istore 4, 2, 0, 0, 0, 0, 0, []),
  (38, .goto (-31), 3, 7, 0, 0, 0, 0, []),
  (41, .bipush (-2), 2, 0, 0, 0, (-2), 0, []),
  (43, .ireturn, 1, 0, 0, 0, 0, 0, [])]
def n_X1_firstFarFrom_7 (k7 : Int64 → Int32 → Int32 → Int32 → Option Int32) (ls : rx_L) (st : List Value) (u : Option rx_H) : Option Int32 := match ls, st, u with
  | [some (.long x0), _, some (.int x2), some (.int x3), some (.int x4)], [], none => k7 x0 x2 x3 x4
  | _, _, _ => none
noncomputable def kk_X1_firstFarFrom_7 (F : Nat × Nat) (k7 : Int64 → Int32 → Int32 → Int32 → Option Int32) : Nat → rx_L → List Value → Option rx_H → Option Int32 := fun t ls st u => Bool.rec (motive := fun _ => Option Int32) (none) (n_X1_firstFarFrom_7 k7 ls st u) (Nat.beq t 7)
noncomputable def kk_X1_firstFarFrom_0 (F : Nat × Nat) : Nat → rx_L → List Value → Option rx_H → Option Int32 := fun t ls st u => Bool.rec (motive := fun _ => Option Int32) (none) (n_X1_firstFarFrom_7 (f_X1_firstFarFrom_7 F F.1) ls st u) (Nat.beq t 7)
set_option maxRecDepth 100000 in
theorem g_X1_firstFarFrom_7 (F : Nat × Nat) (f : Nat) (x0 : Int64) (x2 : Int32) (x3 : Int32) (x4 : Int32) : f_X1_firstFarFrom_7 F (f + 1) x0 x2 x3 x4 = rx_node (C_X1_firstFarFrom F) rx_rI t_X1_firstFarFrom [7] (kk_X1_firstFarFrom_7 F (f_X1_firstFarFrom_7 F f)) 27 7 [some (.long x0), none, some (.int x2), some (.int x3), some (.int x4)] [] none := rfl
set_option maxRecDepth 100000 in
theorem g_X1_firstFarFrom_0 (F : Nat × Nat) (x0 : Int64) (x2 : Int32) (x3 : Int32) : f_X1_firstFarFrom_0 F x0 x2 x3 = rx_node (C_X1_firstFarFrom F) rx_rI t_X1_firstFarFrom [7] (kk_X1_firstFarFrom_0 F) 27 0 [some (.long x0), none, some (.int x2), some (.int x3), none] [] none := rfl
def f_X1_meetClash_0 (F : Nat × Nat) (x0 : Int64) (x2 : Int32) (x3 : Int32) : Option Int32 :=
  (f_J6_bitCount_0f7a4 F x2).bind fun v1 =>
  if v1 < x3 then
    some x2
  else
    (f_X1_firstFarFrom F x0 x2 x3).bind fun v2 =>
    some v2
def f_X1_meetClash (F : Nat × Nat) (x0 : Int64) (x2 : Int32) (x3 : Int32) : Option Int32 := f_X1_meetClash_0 F x0 x2 x3
def c_X1_meetClash {α : Type} (F : Nat × Nat) (as : List Value) (u : Option rx_H) (κ : rx_K α) : Option α := match as with
  | [.long a0, .int a1, .int a2] => (f_X1_meetClash F a0 a1 a2).bind fun r => κ (some (.int r)) u
  | _ => none
noncomputable def C_X1_meetClash {α : Type} (F : Nat × Nat) : rx_Cl α := fun j as u κ => Bool.rec (motive := fun _ => Option α) (Bool.rec (motive := fun _ => Option α) (none) (c_X1_firstFarFrom F as u κ) (Nat.beq j 36)) (c_J6_bitCount_0f7a4 F as u κ) (Nat.beq j 1)
def t_X1_meetClash : List rx_E := [
  (0, .iload_n 2, 1, 0, 0, 0, 0, 0, []),
  (1, .invokestatic 47, 3, 1, 1, 240, 0, 0, []),
  (4, .iload_n 3, 1, 0, 0, 0, 0, 0, []),
  (5, .if_icmp .ge 7, 3, 12, 0, 0, 0, 0, []),
  (8, .iload_n 2, 1, 0, 0, 0, 0, 0, []),
  (9, .goto 9, 3, 18, 0, 0, 0, 0, []),
  (12, .lload_n 0, 1, 0, 0, 0, 0, 0, []),
  (13, .iload_n 2, 1, 0, 0, 0, 0, 0, []),
  (14, .iload_n 3, 1, 0, 0, 0, 0, 0, []),
  (15, .invokestatic 56, 3, 36, 3, 241, 0, 0, []),
  (18, .ireturn, 1, 0, 0, 0, 0, 0, [])]
noncomputable def kk_X1_meetClash_0 (F : Nat × Nat) : Nat → rx_L → List Value → Option rx_H → Option Int32 := fun t ls st u => none
set_option maxRecDepth 100000 in
theorem g_X1_meetClash_0 (F : Nat × Nat) (x0 : Int64) (x2 : Int32) (x3 : Int32) : f_X1_meetClash_0 F x0 x2 x3 = rx_node (C_X1_meetClash F) rx_rI t_X1_meetClash [] (kk_X1_meetClash_0 F) 14 0 [some (.long x0), none, some (.int x2), some (.int x3)] [] none := rfl
def f_X1_pair_0 (F : Nat × Nat) (x0 : Int32) (x1 : Int32) : Option Int32 :=
  some (x0 + ((64 : Int32) * x1))
def f_X1_pair (F : Nat × Nat) (x0 : Int32) (x1 : Int32) : Option Int32 := f_X1_pair_0 F x0 x1
def c_X1_pair {α : Type} (F : Nat × Nat) (as : List Value) (u : Option rx_H) (κ : rx_K α) : Option α := match as with
  | [.int a0, .int a1] => (f_X1_pair F a0 a1).bind fun r => κ (some (.int r)) u
  | _ => none
noncomputable def C_X1_pair {α : Type} (F : Nat × Nat) : rx_Cl α := fun j as u κ => none
def t_X1_pair : List rx_E := [
  (0, .iload_n 0, 1, 0, 0, 0, 0, 0, []),
  (1, .bipush 64, 2, 0, 0, 0, 64, 0, []),
  (3, .iload_n 1, 1, 0, 0, 0, 0, 0, []),
  (4, .imul, 1, 0, 0, 0, 0, 0, []),
  (5, .iadd, 1, 0, 0, 0, 0, 0, []),
  (6, .ireturn, 1, 0, 0, 0, 0, 0, [])]
noncomputable def kk_X1_pair_0 (F : Nat × Nat) : Nat → rx_L → List Value → Option rx_H → Option Int32 := fun t ls st u => none
set_option maxRecDepth 100000 in
theorem g_X1_pair_0 (F : Nat × Nat) (x0 : Int32) (x1 : Int32) : f_X1_pair_0 F x0 x1 = rx_node (C_X1_pair F) rx_rI t_X1_pair [] (kk_X1_pair_0 F) 9 0 [some (.int x0), some (.int x1)] [] none := rfl
def f_X1_apartClash_6 (F : Nat × Nat) : Nat → Int64 → Int32 → Option Int32
  | 0, _, _ => none
  | f + 1, x0, x2 =>
    if x2 < (64 : Int32) then
      (f_X0_around F x2).bind fun v1 =>
      (f_X0_leastOf F ((x0 &&& v1) &&& (((1 : Int64) <<< (Int32.toInt64 x2 &&& 63)) ^^^ (-1 : Int64)))).bind fun v2 =>
      if v2 = (-2 : Int32) then
        (f_X0_next F x0 (x2 + (1 : Int32))).bind fun v3 =>
        (f_X1_apartClash_6 F f) x0 v3
      else
        (f_X1_pair F x2 v2).bind fun v4 =>
        some v4
    else
      some (-2 : Int32)
def f_X1_apartClash_0 (F : Nat × Nat) (x0 : Int64) : Option Int32 :=
  (f_X0_next F x0 (0 : Int32)).bind fun v1 =>
  f_X1_apartClash_6 F F.1 x0 v1
def f_X1_apartClash (F : Nat × Nat) (x0 : Int64) : Option Int32 := f_X1_apartClash_0 F x0
def c_X1_apartClash {α : Type} (F : Nat × Nat) (as : List Value) (u : Option rx_H) (κ : rx_K α) : Option α := match as with
  | [.long a0] => (f_X1_apartClash F a0).bind fun r => κ (some (.int r)) u
  | _ => none
noncomputable def C_X1_apartClash {α : Type} (F : Nat × Nat) : rx_Cl α := fun j as u κ => Bool.rec (motive := fun _ => Option α) (Bool.rec (motive := fun _ => Option α) (Bool.rec (motive := fun _ => Option α) (Bool.rec (motive := fun _ => Option α) (none) (c_X1_pair F as u κ) (Nat.beq j 43)) (c_X0_next F as u κ) (Nat.beq j 23)) (c_X0_leastOf F as u κ) (Nat.beq j 17)) (c_X0_around F as u κ) (Nat.beq j 10)
def t_X1_apartClash : List rx_E := [
  (0, .lload_n 0, 1, 0, 0, 0, 0, 0, []),
  (1, .iconst 0, 1, 0, 0, 0, 0, 0, []),
  (2, .invokestatic 59, 3, 23, 2, 244, 0, 0, []),
  (5, .istore_n 2, 1, 0, 0, 0, 0, 0, []),
  (6, .iload_n 2, 1, 0, 0, 0, 0, 0, []),
  (7, .bipush 64, 2, 0, 0, 0, 64, 0, []),
  (9, .if_icmp .ge 44, 3, 53, 0, 0, 0, 0, []),
  (12, .lload_n 0, 1, 0, 0, 0, 0, 0, []),
  (13, .iload_n 2, 1, 0, 0, 0, 0, 0, []),
  (14, .invokestatic 29, 3, 10, 1, 223, 0, 0, []),
  (17, .land, 1, 0, 0, 0, 0, 0, []),
  (18, .lconst 1, 1, 0, 0, 0, 0, 1, []),
  (19, .iload_n 2, 1, 0, 0, 0, 0, 0, []),
  (20, .lshl, 1, 0, 0, 0, 0, 0, []),
  (21, .ldc2_w 45, 3, 0, 0, 245, 0, (-1), []),
  (24, .lxor, 1, 0, 0, 0, 0, 0, []),
  (25, .land, 1, 0, 0, 0, 0, 0, []),
  (26, .invokestatic 32, 3, 17, 1, 227, 0, 0, []),
  (29, .istore_n 3, 1, 0, 0, 0, 0, 0, []),
  (30, .iload_n 3, 1, 0, 0, 0, 0, 0, []),
  (31, .bipush (-2), 2, 0, 0, 0, (-2), 0, []),
  (33, .if_icmp .eq 9, 3, 42, 0, 0, 0, 0, []),
  (36, .iload_n 2, 1, 0, 0, 0, 0, 0, []),
  (37, .iload_n 3, 1, 0, 0, 0, 0, 0, []),
  (38, .invokestatic 75, 3, 43, 2, 296, 0, 0, []),
  (41, .ireturn, 1, 0, 0, 0, 0, 0, []),
  (42, .lload_n 0, 1, 0, 0, 0, 0, 0, []),
  (43, .iload_n 2, 1, 0, 0, 0, 0, 0, []),
  (44, .iconst 1, 1, 0, 0, 0, 1, 0, []),
  (45, .iadd, 1, 0, 0, 0, 0, 0, []),
  (46, .invokestatic 59, 3, 23, 2, 244, 0, 0, []),
  (49, .istore_n 2, 1, 0, 0, 0, 0, 0, []),
  (50, .goto (-44), 3, 6, 0, 0, 0, 0, []),
  (53, .bipush (-2), 2, 0, 0, 0, (-2), 0, []),
  (55, .ireturn, 1, 0, 0, 0, 0, 0, [])]
def n_X1_apartClash_6 (k6 : Int64 → Int32 → Option Int32) (ls : rx_L) (st : List Value) (u : Option rx_H) : Option Int32 := match ls, st, u with
  | [some (.long x0), _, some (.int x2), _], [], none => k6 x0 x2
  | _, _, _ => none
noncomputable def kk_X1_apartClash_6 (F : Nat × Nat) (k6 : Int64 → Int32 → Option Int32) : Nat → rx_L → List Value → Option rx_H → Option Int32 := fun t ls st u => Bool.rec (motive := fun _ => Option Int32) (none) (n_X1_apartClash_6 k6 ls st u) (Nat.beq t 6)
noncomputable def kk_X1_apartClash_0 (F : Nat × Nat) : Nat → rx_L → List Value → Option rx_H → Option Int32 := fun t ls st u => Bool.rec (motive := fun _ => Option Int32) (none) (n_X1_apartClash_6 (f_X1_apartClash_6 F F.1) ls st u) (Nat.beq t 6)
set_option maxRecDepth 100000 in
theorem g_X1_apartClash_6 (F : Nat × Nat) (f : Nat) (x0 : Int64) (x2 : Int32) : f_X1_apartClash_6 F (f + 1) x0 x2 = rx_node (C_X1_apartClash F) rx_rI t_X1_apartClash [6] (kk_X1_apartClash_6 F (f_X1_apartClash_6 F f)) 38 6 [some (.long x0), none, some (.int x2), none] [] none := rfl
set_option maxRecDepth 100000 in
theorem g_X1_apartClash_0 (F : Nat × Nat) (x0 : Int64) : f_X1_apartClash_0 F x0 = rx_node (C_X1_apartClash F) rx_rI t_X1_apartClash [6] (kk_X1_apartClash_0 F) 38 0 [some (.long x0), none, none, none] [] none := rfl
def f_X1_downClash_6 (F : Nat × Nat) : Nat → Int64 → Int32 → Option Int32
  | 0, _, _ => none
  | f + 1, x0, x2 =>
    if x2 < (64 : Int32) then
      (f_X0_within F x2).bind fun v1 =>
      (f_X0_leastOf F (v1 &&& (x0 ^^^ (-1 : Int64)))).bind fun v2 =>
      if v2 = (-2 : Int32) then
        (f_X0_next F x0 (x2 + (1 : Int32))).bind fun v3 =>
        (f_X1_downClash_6 F f) x0 v3
      else
        (f_X1_pair F v2 x2).bind fun v4 =>
        some v4
    else
      some (-2 : Int32)
def f_X1_downClash_0 (F : Nat × Nat) (x0 : Int64) : Option Int32 :=
  (f_X0_next F x0 (0 : Int32)).bind fun v1 =>
  f_X1_downClash_6 F F.1 x0 v1
def f_X1_downClash (F : Nat × Nat) (x0 : Int64) : Option Int32 := f_X1_downClash_0 F x0
def c_X1_downClash {α : Type} (F : Nat × Nat) (as : List Value) (u : Option rx_H) (κ : rx_K α) : Option α := match as with
  | [.long a0] => (f_X1_downClash F a0).bind fun r => κ (some (.int r)) u
  | _ => none
noncomputable def C_X1_downClash {α : Type} (F : Nat × Nat) : rx_Cl α := fun j as u κ => Bool.rec (motive := fun _ => Option α) (Bool.rec (motive := fun _ => Option α) (Bool.rec (motive := fun _ => Option α) (Bool.rec (motive := fun _ => Option α) (none) (c_X1_pair F as u κ) (Nat.beq j 43)) (c_X0_within F as u κ) (Nat.beq j 30)) (c_X0_next F as u κ) (Nat.beq j 23)) (c_X0_leastOf F as u κ) (Nat.beq j 17)
def t_X1_downClash : List rx_E := [
  (0, .lload_n 0, 1, 0, 0, 0, 0, 0, []),
  (1, .iconst 0, 1, 0, 0, 0, 0, 0, []),
  (2, .invokestatic 59, 3, 23, 2, 244, 0, 0, []),
  (5, .istore_n 2, 1, 0, 0, 0, 0, 0, []),
  (6, .iload_n 2, 1, 0, 0, 0, 0, 0, []),
  (7, .bipush 64, 2, 0, 0, 0, 64, 0, []),
  (9, .if_icmp .ge 40, 3, 49, 0, 0, 0, 0, []),
  (12, .iload_n 2, 1, 0, 0, 0, 0, 0, []),
  (13, .invokestatic 25, 3, 30, 1, 220, 0, 0, []),
  (16, .lload_n 0, 1, 0, 0, 0, 0, 0, []),
  (17, .ldc2_w 45, 3, 0, 0, 245, 0, (-1), []),
  (20, .lxor, 1, 0, 0, 0, 0, 0, []),
  (21, .land, 1, 0, 0, 0, 0, 0, []),
  (22, .invokestatic 32, 3, 17, 1, 227, 0, 0, []),
  (25, .istore_n 3, 1, 0, 0, 0, 0, 0, []),
  (26, .iload_n 3, 1, 0, 0, 0, 0, 0, []),
  (27, .bipush (-2), 2, 0, 0, 0, (-2), 0, []),
  (29, .if_icmp .eq 9, 3, 38, 0, 0, 0, 0, []),
  (32, .iload_n 3, 1, 0, 0, 0, 0, 0, []),
  (33, .iload_n 2, 1, 0, 0, 0, 0, 0, []),
  (34, .invokestatic 75, 3, 43, 2, 296, 0, 0, []),
  (37, .ireturn, 1, 0, 0, 0, 0, 0, []),
  (38, .lload_n 0, 1, 0, 0, 0, 0, 0, []),
  (39, .iload_n 2, 1, 0, 0, 0, 0, 0, []),
  (40, .iconst 1, 1, 0, 0, 0, 1, 0, []),
  (41, .iadd, 1, 0, 0, 0, 0, 0, []),
  (42, .invokestatic 59, 3, 23, 2, 244, 0, 0, []),
  (45, .istore_n 2, 1, 0, 0, 0, 0, 0, []),
  (46, .goto (-40), 3, 6, 0, 0, 0, 0, []),
  (49, .bipush (-2), 2, 0, 0, 0, (-2), 0, []),
  (51, .ireturn, 1, 0, 0, 0, 0, 0, [])]
def n_X1_downClash_6 (k6 : Int64 → Int32 → Option Int32) (ls : rx_L) (st : List Value) (u : Option rx_H) : Option Int32 := match ls, st, u with
  | [some (.long x0), _, some (.int x2), _], [], none => k6 x0 x2
  | _, _, _ => none
noncomputable def kk_X1_downClash_6 (F : Nat × Nat) (k6 : Int64 → Int32 → Option Int32) : Nat → rx_L → List Value → Option rx_H → Option Int32 := fun t ls st u => Bool.rec (motive := fun _ => Option Int32) (none) (n_X1_downClash_6 k6 ls st u) (Nat.beq t 6)
noncomputable def kk_X1_downClash_0 (F : Nat × Nat) : Nat → rx_L → List Value → Option rx_H → Option Int32 := fun t ls st u => Bool.rec (motive := fun _ => Option Int32) (none) (n_X1_downClash_6 (f_X1_downClash_6 F F.1) ls st u) (Nat.beq t 6)
set_option maxRecDepth 100000 in
theorem g_X1_downClash_6 (F : Nat × Nat) (f : Nat) (x0 : Int64) (x2 : Int32) : f_X1_downClash_6 F (f + 1) x0 x2 = rx_node (C_X1_downClash F) rx_rI t_X1_downClash [6] (kk_X1_downClash_6 F (f_X1_downClash_6 F f)) 34 6 [some (.long x0), none, some (.int x2), none] [] none := rfl
set_option maxRecDepth 100000 in
theorem g_X1_downClash_0 (F : Nat × Nat) (x0 : Int64) : f_X1_downClash_0 F x0 = rx_node (C_X1_downClash F) rx_rI t_X1_downClash [6] (kk_X1_downClash_0 F) 34 0 [some (.long x0), none, none, none] [] none := rfl
def f_X1_layerClash_6 (F : Nat × Nat) : Nat → Int64 → Int32 → Int32 → Option Int32
  | 0, _, _, _ => none
  | f + 1, x0, x2, x3 =>
    if x3 < (64 : Int32) then
      (f_J6_bitCount_0f7a4 F x3).bind fun v1 =>
      if v1 = x2 then
        (f_X0_next F x0 (x3 + (1 : Int32))).bind fun v2 =>
        (f_X1_layerClash_6 F f) x0 x2 v2
      else
        (f_X1_pair F x3 x3).bind fun v3 =>
        some v3
    else
      some (-2 : Int32)
def f_X1_layerClash_0 (F : Nat × Nat) (x0 : Int64) (x2 : Int32) : Option Int32 :=
  (f_X0_next F x0 (0 : Int32)).bind fun v1 =>
  f_X1_layerClash_6 F F.1 x0 x2 v1
def f_X1_layerClash (F : Nat × Nat) (x0 : Int64) (x2 : Int32) : Option Int32 := f_X1_layerClash_0 F x0 x2
def c_X1_layerClash {α : Type} (F : Nat × Nat) (as : List Value) (u : Option rx_H) (κ : rx_K α) : Option α := match as with
  | [.long a0, .int a1] => (f_X1_layerClash F a0 a1).bind fun r => κ (some (.int r)) u
  | _ => none
noncomputable def C_X1_layerClash {α : Type} (F : Nat × Nat) : rx_Cl α := fun j as u κ => Bool.rec (motive := fun _ => Option α) (Bool.rec (motive := fun _ => Option α) (Bool.rec (motive := fun _ => Option α) (none) (c_X1_pair F as u κ) (Nat.beq j 43)) (c_X0_next F as u κ) (Nat.beq j 23)) (c_J6_bitCount_0f7a4 F as u κ) (Nat.beq j 1)
def t_X1_layerClash : List rx_E := [
  (0, .lload_n 0, 1, 0, 0, 0, 0, 0, []),
  (1, .iconst 0, 1, 0, 0, 0, 0, 0, []),
  (2, .invokestatic 59, 3, 23, 2, 244, 0, 0, []),
  (5, .istore_n 3, 1, 0, 0, 0, 0, 0, []),
  (6, .iload_n 3, 1, 0, 0, 0, 0, 0, []),
  (7, .bipush 64, 2, 0, 0, 0, 64, 0, []),
  (9, .if_icmp .ge 28, 3, 37, 0, 0, 0, 0, []),
  (12, .iload_n 3, 1, 0, 0, 0, 0, 0, []),
  (13, .invokestatic 47, 3, 1, 1, 240, 0, 0, []),
  (16, .iload_n 2, 1, 0, 0, 0, 0, 0, []),
  (17, .if_icmp .eq 9, 3, 26, 0, 0, 0, 0, []),
  (20, .iload_n 3, 1, 0, 0, 0, 0, 0, []),
  (21, .iload_n 3, 1, 0, 0, 0, 0, 0, []),
  (22, .invokestatic 75, 3, 43, 2, 296, 0, 0, []),
  (25, .ireturn, 1, 0, 0, 0, 0, 0, []),
  (26, .lload_n 0, 1, 0, 0, 0, 0, 0, []),
  (27, .iload_n 3, 1, 0, 0, 0, 0, 0, []),
  (28, .iconst 1, 1, 0, 0, 0, 1, 0, []),
  (29, .iadd, 1, 0, 0, 0, 0, 0, []),
  (30, .invokestatic 59, 3, 23, 2, 244, 0, 0, []),
  (33, .istore_n 3, 1, 0, 0, 0, 0, 0, []),
  (34, .goto (-28), 3, 6, 0, 0, 0, 0, []),
  (37, .bipush (-2), 2, 0, 0, 0, (-2), 0, []),
  (39, .ireturn, 1, 0, 0, 0, 0, 0, [])]
def n_X1_layerClash_6 (k6 : Int64 → Int32 → Int32 → Option Int32) (ls : rx_L) (st : List Value) (u : Option rx_H) : Option Int32 := match ls, st, u with
  | [some (.long x0), _, some (.int x2), some (.int x3)], [], none => k6 x0 x2 x3
  | _, _, _ => none
noncomputable def kk_X1_layerClash_6 (F : Nat × Nat) (k6 : Int64 → Int32 → Int32 → Option Int32) : Nat → rx_L → List Value → Option rx_H → Option Int32 := fun t ls st u => Bool.rec (motive := fun _ => Option Int32) (none) (n_X1_layerClash_6 k6 ls st u) (Nat.beq t 6)
noncomputable def kk_X1_layerClash_0 (F : Nat × Nat) : Nat → rx_L → List Value → Option rx_H → Option Int32 := fun t ls st u => Bool.rec (motive := fun _ => Option Int32) (none) (n_X1_layerClash_6 (f_X1_layerClash_6 F F.1) ls st u) (Nat.beq t 6)
set_option maxRecDepth 100000 in
theorem g_X1_layerClash_6 (F : Nat × Nat) (f : Nat) (x0 : Int64) (x2 : Int32) (x3 : Int32) : f_X1_layerClash_6 F (f + 1) x0 x2 x3 = rx_node (C_X1_layerClash F) rx_rI t_X1_layerClash [6] (kk_X1_layerClash_6 F (f_X1_layerClash_6 F f)) 27 6 [some (.long x0), none, some (.int x2), some (.int x3)] [] none := rfl
set_option maxRecDepth 100000 in
theorem g_X1_layerClash_0 (F : Nat × Nat) (x0 : Int64) (x2 : Int32) : f_X1_layerClash_0 F x0 x2 = rx_node (C_X1_layerClash F) rx_rI t_X1_layerClash [6] (kk_X1_layerClash_0 F) 27 0 [some (.long x0), none, some (.int x2), none] [] none := rfl
def f_X1_meetingClash_6 (F : Nat × Nat) : Nat → Int64 → Int32 → Int32 → Option Int32
  | 0, _, _, _ => none
  | f + 1, x0, x2, x3 =>
    if x3 < (64 : Int32) then
      (f_X0_below F x3).bind fun v1 =>
      (f_X1_meetClash F (x0 &&& (v1 ^^^ (-1 : Int64))) x3 x2).bind fun v2 =>
      if v2 = (-2 : Int32) then
        (f_X0_next F x0 (x3 + (1 : Int32))).bind fun v3 =>
        (f_X1_meetingClash_6 F f) x0 x2 v3
      else
        (f_X1_pair F x3 v2).bind fun v4 =>
        some v4
    else
      some (-2 : Int32)
def f_X1_meetingClash_0 (F : Nat × Nat) (x0 : Int64) (x2 : Int32) : Option Int32 :=
  (f_X0_next F x0 (0 : Int32)).bind fun v1 =>
  f_X1_meetingClash_6 F F.1 x0 x2 v1
def f_X1_meetingClash (F : Nat × Nat) (x0 : Int64) (x2 : Int32) : Option Int32 := f_X1_meetingClash_0 F x0 x2
def c_X1_meetingClash {α : Type} (F : Nat × Nat) (as : List Value) (u : Option rx_H) (κ : rx_K α) : Option α := match as with
  | [.long a0, .int a1] => (f_X1_meetingClash F a0 a1).bind fun r => κ (some (.int r)) u
  | _ => none
noncomputable def C_X1_meetingClash {α : Type} (F : Nat × Nat) : rx_Cl α := fun j as u κ => Bool.rec (motive := fun _ => Option α) (Bool.rec (motive := fun _ => Option α) (Bool.rec (motive := fun _ => Option α) (Bool.rec (motive := fun _ => Option α) (none) (c_X1_pair F as u κ) (Nat.beq j 43)) (c_X1_meetClash F as u κ) (Nat.beq j 41)) (c_X0_next F as u κ) (Nat.beq j 23)) (c_X0_below F as u κ) (Nat.beq j 11)
def t_X1_meetingClash : List rx_E := [
  (0, .lload_n 0, 1, 0, 0, 0, 0, 0, []),
  (1, .iconst 0, 1, 0, 0, 0, 0, 0, []),
  (2, .invokestatic 59, 3, 23, 2, 244, 0, 0, []),
  (5, .istore_n 3, 1, 0, 0, 0, 0, 0, []),
  (6, .iload_n 3, 1, 0, 0, 0, 0, 0, []),
  (7, .bipush 64, 2, 0, 0, 0, 64, 0, []),
  (9, .if_icmp .ge 45, 3, 54, 0, 0, 0, 0, []),
  (12, .lload_n 0, 1, 0, 0, 0, 0, 0, []),
  (13, .iload_n 3, 1, 0, 0, 0, 0, 0, []),
  (14, .invokestatic 79, 3, 11, 1, 302, 0, 0, []),
  (17, .ldc2_w 45, 3, 0, 0, 245, 0, (-1), []),
  (20, .lxor, 1, 0, 0, 0, 0, 0, []),
  (21, .land, 1, 0, 0, 0, 0, 0, []),
  (22, .iload_n 3, 1, 0, 0, 0, 0, 0, []),
  (23, .iload_n 2, 1, 0, 0, 0, 0, 0, []),
  (24, .invokestatic 39, 3, 41, 3, 237, 0, 0, []),
  (27, .istore 4, 2, 0, 0, 0, 0, 0, []),
  (29, .iload 4, 2, 0, 0, 0, 0, 0, []),
  (31, .bipush (-2), 2, 0, 0, 0, (-2), 0, []),
  (33, .if_icmp .eq 10, 3, 43, 0, 0, 0, 0, []),
  (36, .iload_n 3, 1, 0, 0, 0, 0, 0, []),
  (37, .iload 4, 2, 0, 0, 0, 0, 0, []),
  (39, .invokestatic 75, 3, 43, 2, 296, 0, 0, []),
  (42, .ireturn, 1, 0, 0, 0, 0, 0, []),
  (43, .lload_n 0, 1, 0, 0, 0, 0, 0, []),
  (44, .iload_n 3, 1, 0, 0, 0, 0, 0, []),
  (45, .iconst 1, 1, 0, 0, 0, 1, 0, []),
  (46, .iadd, 1, 0, 0, 0, 0, 0, []),
  (47, .invokestatic 59, 3, 23, 2, 244, 0, 0, []),
  (50, .istore_n 3, 1, 0, 0, 0, 0, 0, []),
  (51, .goto (-45), 3, 6, 0, 0, 0, 0, []),
  (54, .bipush (-2), 2, 0, 0, 0, (-2), 0, []),
  (56, .ireturn, 1, 0, 0, 0, 0, 0, [])]
def n_X1_meetingClash_6 (k6 : Int64 → Int32 → Int32 → Option Int32) (ls : rx_L) (st : List Value) (u : Option rx_H) : Option Int32 := match ls, st, u with
  | [some (.long x0), _, some (.int x2), some (.int x3), _], [], none => k6 x0 x2 x3
  | _, _, _ => none
noncomputable def kk_X1_meetingClash_6 (F : Nat × Nat) (k6 : Int64 → Int32 → Int32 → Option Int32) : Nat → rx_L → List Value → Option rx_H → Option Int32 := fun t ls st u => Bool.rec (motive := fun _ => Option Int32) (none) (n_X1_meetingClash_6 k6 ls st u) (Nat.beq t 6)
noncomputable def kk_X1_meetingClash_0 (F : Nat × Nat) : Nat → rx_L → List Value → Option rx_H → Option Int32 := fun t ls st u => Bool.rec (motive := fun _ => Option Int32) (none) (n_X1_meetingClash_6 (f_X1_meetingClash_6 F F.1) ls st u) (Nat.beq t 6)
set_option maxRecDepth 100000 in
theorem g_X1_meetingClash_6 (F : Nat × Nat) (f : Nat) (x0 : Int64) (x2 : Int32) (x3 : Int32) : f_X1_meetingClash_6 F (f + 1) x0 x2 x3 = rx_node (C_X1_meetingClash F) rx_rI t_X1_meetingClash [6] (kk_X1_meetingClash_6 F (f_X1_meetingClash_6 F f)) 36 6 [some (.long x0), none, some (.int x2), some (.int x3), none] [] none := rfl
set_option maxRecDepth 100000 in
theorem g_X1_meetingClash_0 (F : Nat × Nat) (x0 : Int64) (x2 : Int32) : f_X1_meetingClash_0 F x0 x2 = rx_node (C_X1_meetingClash F) rx_rI t_X1_meetingClash [6] (kk_X1_meetingClash_0 F) 36 0 [some (.long x0), none, some (.int x2), none, none] [] none := rfl
def f_X1_familyClash_0 (F : Nat × Nat) (x0 : Int64) (x2 : Int32) (x3 : Int32) : Option Int32 :=
  if x2 = 1 then
    (f_X1_apartClash F x0).bind fun v1 =>
    some v1
  else if x2 = 2 then
    (f_X1_meetingClash F x0 x3).bind fun v2 =>
    some v2
  else if x2 = 3 then
    (f_X1_downClash F x0).bind fun v3 =>
    some v3
  else if x2 = 4 then
    (f_X1_layerClash F x0 x3).bind fun v4 =>
    some v4
  else 
    some (-2 : Int32)
def f_X1_familyClash (F : Nat × Nat) (x0 : Int64) (x2 : Int32) (x3 : Int32) : Option Int32 := f_X1_familyClash_0 F x0 x2 x3
def c_X1_familyClash {α : Type} (F : Nat × Nat) (as : List Value) (u : Option rx_H) (κ : rx_K α) : Option α := match as with
  | [.long a0, .int a1, .int a2] => (f_X1_familyClash F a0 a1 a2).bind fun r => κ (some (.int r)) u
  | _ => none
noncomputable def C_X1_familyClash {α : Type} (F : Nat × Nat) : rx_Cl α := fun j as u κ => Bool.rec (motive := fun _ => Option α) (Bool.rec (motive := fun _ => Option α) (Bool.rec (motive := fun _ => Option α) (Bool.rec (motive := fun _ => Option α) (none) (c_X1_meetingClash F as u κ) (Nat.beq j 42)) (c_X1_layerClash F as u κ) (Nat.beq j 40)) (c_X1_downClash F as u κ) (Nat.beq j 33)) (c_X1_apartClash F as u κ) (Nat.beq j 31)
def t_X1_familyClash : List rx_E := [
  (0, .iload_n 2, 1, 0, 0, 0, 0, 0, []),
  (1, .tableswitch 53 1 4 #[31, 36, 42, 47], 31, 54, 0, 0, 0, 0, [(1, 32), (2, 37), (3, 43), (4, 48)]),
  (32, .lload_n 0, 1, 0, 0, 0, 0, 0, []),
  (33, .invokestatic 63, 3, 31, 1, 293, 0, 0, []),
  (36, .ireturn, 1, 0, 0, 0, 0, 0, []),
  (37, .lload_n 0, 1, 0, 0, 0, 0, 0, []),
  (38, .iload_n 3, 1, 0, 0, 0, 0, 0, []),
  (39, .invokestatic 66, 3, 42, 2, 299, 0, 0, []),
  (42, .ireturn, 1, 0, 0, 0, 0, 0, []),
  (43, .lload_n 0, 1, 0, 0, 0, 0, 0, []),
  (44, .invokestatic 69, 3, 33, 1, 303, 0, 0, []),
  (47, .ireturn, 1, 0, 0, 0, 0, 0, []),
  (48, .lload_n 0, 1, 0, 0, 0, 0, 0, []),
  (49, .iload_n 3, 1, 0, 0, 0, 0, 0, []),
  (50, .invokestatic 72, 3, 40, 2, 306, 0, 0, []),
  (53, .ireturn, 1, 0, 0, 0, 0, 0, []),
  (54, .bipush (-2), 2, 0, 0, 0, (-2), 0, []),
  (56, .ireturn, 1, 0, 0, 0, 0, 0, [])]
noncomputable def kk_X1_familyClash_0 (F : Nat × Nat) : Nat → rx_L → List Value → Option rx_H → Option Int32 := fun t ls st u => none
set_option maxRecDepth 100000 in
theorem g_X1_familyClash_0 (F : Nat × Nat) (x0 : Int64) (x2 : Int32) (x3 : Int32) : f_X1_familyClash_0 F x0 x2 x3 = rx_node (C_X1_familyClash F) rx_rI t_X1_familyClash [] (kk_X1_familyClash_0 F) 21 0 [some (.long x0), none, some (.int x2), some (.int x3)] [] none := rfl
def f_X2_factorial_0 (F : Nat × Nat) (x0 : Int32) : Option Int32 :=
  (rx_aI none 1000002 x0).bind fun v1 =>
  some v1
def f_X2_factorial (F : Nat × Nat) (x0 : Int32) : Option Int32 := f_X2_factorial_0 F x0
def c_X2_factorial {α : Type} (F : Nat × Nat) (as : List Value) (u : Option rx_H) (κ : rx_K α) : Option α := match as with
  | [.int a0] => (f_X2_factorial F a0).bind fun r => κ (some (.int r)) u
  | _ => none
noncomputable def C_X2_factorial {α : Type} (F : Nat × Nat) : rx_Cl α := fun j as u κ => none
def t_X2_factorial : List rx_E := [
  (0, .getstatic 9, 3, 1000002, 0, 426, 0, 0, []),
  (3, .iload_n 0, 1, 0, 0, 0, 0, 0, []),
  (4, .iaload, 1, 0, 0, 0, 0, 0, []),
  (5, .ireturn, 1, 0, 0, 0, 0, 0, [])]
noncomputable def kk_X2_factorial_0 (F : Nat × Nat) : Nat → rx_L → List Value → Option rx_H → Option Int32 := fun t ls st u => none
set_option maxRecDepth 100000 in
theorem g_X2_factorial_0 (F : Nat × Nat) (x0 : Int32) : f_X2_factorial_0 F x0 = rx_node (C_X2_factorial F) rx_rI t_X2_factorial [] (kk_X2_factorial_0 F) 7 0 [some (.int x0)] [] none := rfl
def f_X2_power_5 (F : Nat × Nat) : Nat → Int32 → Int32 → Int64 → Int32 → Option Int64
  | 0, _, _, _, _ => none
  | f + 1, x0, x1, x2, x4 =>
    if x4 < x1 then
      (f_X2_power_5 F f) x0 x1 (x2 * (Int32.toInt64 x0)) (x4 + 1)
    else
      some x2
def f_X2_power_0 (F : Nat × Nat) (x0 : Int32) (x1 : Int32) : Option Int64 :=
  f_X2_power_5 F F.1 x0 x1 (1 : Int64) (0 : Int32)
def f_X2_power (F : Nat × Nat) (x0 : Int32) (x1 : Int32) : Option Int64 := f_X2_power_0 F x0 x1
def c_X2_power {α : Type} (F : Nat × Nat) (as : List Value) (u : Option rx_H) (κ : rx_K α) : Option α := match as with
  | [.int a0, .int a1] => (f_X2_power F a0 a1).bind fun r => κ (some (.long r)) u
  | _ => none
noncomputable def C_X2_power {α : Type} (F : Nat × Nat) : rx_Cl α := fun j as u κ => none
def t_X2_power : List rx_E := [
  (0, .lconst 1, 1, 0, 0, 0, 0, 1, []),
  (1, .lstore_n 2, 1, 0, 0, 0, 0, 0, []),
  (2, .iconst 0, 1, 0, 0, 0, 0, 0, []),
  (3, .istore 4, 2, 0, 0, 0, 0, 0, []),
  (5, .iload 4, 2, 0, 0, 0, 0, 0, []),
  (7, .iload_n 1, 1, 0, 0, 0, 0, 0, []),
  (8, .if_icmp .ge 14, 3, 22, 0, 0, 0, 0, []),
  (11, .lload_n 2, 1, 0, 0, 0, 0, 0, []),
  (12, .iload_n 0, 1, 0, 0, 0, 0, 0, []),
  (13, .i2l, 1, 0, 0, 0, 0, 0, []),
  (14, .lmul, 1, 0, 0, 0, 0, 0, []),
  (15, .lstore_n 2, 1, 0, 0, 0, 0, 0, []),
  (16, .iinc 4 1, 3, 0, 0, 0, 1, 0, []),
  (19, .goto (-14), 3, 5, 0, 0, 0, 0, []),
  (22, .lload_n 2, 1, 0, 0, 0, 0, 0, []),
  (23, .lreturn, 1, 0, 0, 0, 0, 0, [])]
def n_X2_power_5 (k5 : Int32 → Int32 → Int64 → Int32 → Option Int64) (ls : rx_L) (st : List Value) (u : Option rx_H) : Option Int64 := match ls, st, u with
  | [some (.int x0), some (.int x1), some (.long x2), _, some (.int x4)], [], none => k5 x0 x1 x2 x4
  | _, _, _ => none
noncomputable def kk_X2_power_5 (F : Nat × Nat) (k5 : Int32 → Int32 → Int64 → Int32 → Option Int64) : Nat → rx_L → List Value → Option rx_H → Option Int64 := fun t ls st u => Bool.rec (motive := fun _ => Option Int64) (none) (n_X2_power_5 k5 ls st u) (Nat.beq t 5)
noncomputable def kk_X2_power_0 (F : Nat × Nat) : Nat → rx_L → List Value → Option rx_H → Option Int64 := fun t ls st u => Bool.rec (motive := fun _ => Option Int64) (none) (n_X2_power_5 (f_X2_power_5 F F.1) ls st u) (Nat.beq t 5)
set_option maxRecDepth 100000 in
theorem g_X2_power_5 (F : Nat × Nat) (f : Nat) (x0 : Int32) (x1 : Int32) (x2 : Int64) (x4 : Int32) : f_X2_power_5 F (f + 1) x0 x1 x2 x4 = rx_node (C_X2_power F) rx_rJ t_X2_power [5] (kk_X2_power_5 F (f_X2_power_5 F f)) 19 5 [some (.int x0), some (.int x1), some (.long x2), none, some (.int x4)] [] none := rfl
set_option maxRecDepth 100000 in
theorem g_X2_power_0 (F : Nat × Nat) (x0 : Int32) (x1 : Int32) : f_X2_power_0 F x0 x1 = rx_node (C_X2_power F) rx_rJ t_X2_power [5] (kk_X2_power_0 F) 19 0 [some (.int x0), some (.int x1), none, none, none] [] none := rfl
def f_X2_cascades_0 (F : Nat × Nat) (x0 : Int32) (x1 : Int32) : Option Int32 :=
  if x0 < (1 : Int32) then
    some (0 : Int32)
  else
    if (1000 : Int32) < x0 then
      some (0 : Int32)
    else
      if x1 < (1 : Int32) then
        some (0 : Int32)
      else
        if (6 : Int32) < x1 then
          some (0 : Int32)
        else
          some (1 : Int32)
def f_X2_cascades (F : Nat × Nat) (x0 : Int32) (x1 : Int32) : Option Int32 := f_X2_cascades_0 F x0 x1
def c_X2_cascades {α : Type} (F : Nat × Nat) (as : List Value) (u : Option rx_H) (κ : rx_K α) : Option α := match as with
  | [.int a0, .int a1] => (f_X2_cascades F a0 a1).bind fun r => κ (some (.int r)) u
  | _ => none
noncomputable def C_X2_cascades {α : Type} (F : Nat × Nat) : rx_Cl α := fun j as u κ => none
def t_X2_cascades : List rx_E := [
  (0, .iload_n 0, 1, 0, 0, 0, 0, 0, []),
  (1, .iconst 1, 1, 0, 0, 0, 1, 0, []),
  (2, .if_icmp .lt 25, 3, 27, 0, 0, 0, 0, []),
  (5, .iload_n 0, 1, 0, 0, 0, 0, 0, []),
  (6, .sipush 1000, 3, 0, 0, 0, 1000, 0, []),
  (9, .if_icmp .gt 18, 3, 27, 0, 0, 0, 0, []),
  (12, .iload_n 1, 1, 0, 0, 0, 0, 0, []),
  (13, .iconst 1, 1, 0, 0, 0, 1, 0, []),
  (14, .if_icmp .lt 13, 3, 27, 0, 0, 0, 0, []),
  (17, .iload_n 1, 1, 0, 0, 0, 0, 0, []),
  (18, .bipush 6, 2, 0, 0, 0, 6, 0, []),
  (20, .if_icmp .gt 7, 3, 27, 0, 0, 0, 0, []),
  (23, .iconst 1, 1, 0, 0, 0, 1, 0, []),
  (24, .goto 4, 3, 28, 0, 0, 0, 0, []),
  (27, .iconst 0, 1, 0, 0, 0, 0, 0, []),
  (28, .ireturn, 1, 0, 2, 0, 0, 0, [])]
noncomputable def kk_X2_cascades_0 (F : Nat × Nat) : Nat → rx_L → List Value → Option rx_H → Option Int32 := fun t ls st u => none
set_option maxRecDepth 100000 in
theorem g_X2_cascades_0 (F : Nat × Nat) (x0 : Int32) (x1 : Int32) : f_X2_cascades_0 F x0 x1 = rx_node (C_X2_cascades F) rx_rI t_X2_cascades [] (kk_X2_cascades_0 F) 19 0 [some (.int x0), some (.int x1)] [] none := rfl
def f_X2_choose_4 (F : Nat × Nat) : Nat → Int32 → Int32 → Int32 → Int32 → Option Int32
  | 0, _, _, _, _ => none
  | f + 1, x0, x1, x2, x3 =>
    if x1 < x3 then
      some x2
    else
      if x3 = 0 then
        none
      else
        (f_X2_choose_4 F f) x0 x1 ((x2 * ((x0 - x1) + x3)) / x3) (x3 + 1)
def f_X2_choose_0 (F : Nat × Nat) (x0 : Int32) (x1 : Int32) : Option Int32 :=
  f_X2_choose_4 F F.1 x0 x1 (1 : Int32) (1 : Int32)
def f_X2_choose (F : Nat × Nat) (x0 : Int32) (x1 : Int32) : Option Int32 := f_X2_choose_0 F x0 x1
def c_X2_choose {α : Type} (F : Nat × Nat) (as : List Value) (u : Option rx_H) (κ : rx_K α) : Option α := match as with
  | [.int a0, .int a1] => (f_X2_choose F a0 a1).bind fun r => κ (some (.int r)) u
  | _ => none
noncomputable def C_X2_choose {α : Type} (F : Nat × Nat) : rx_Cl α := fun j as u κ => none
def t_X2_choose : List rx_E := [
  (0, .iconst 1, 1, 0, 0, 0, 1, 0, []),
  (1, .istore_n 2, 1, 0, 0, 0, 0, 0, []),
  (2, .iconst 1, 1, 0, 0, 0, 1, 0, []),
  (3, .istore_n 3, 1, 0, 0, 0, 0, 0, []),
  (4, .iload_n 3, 1, 0, 0, 0, 0, 0, []),
  (5, .iload_n 1, 1, 0, 0, 0, 0, 0, []),
  (6, .if_icmp .gt 19, 3, 25, 0, 0, 0, 0, []),
  (9, .iload_n 2, 1, 0, 0, 0, 0, 0, []),
  (10, .iload_n 0, 1, 0, 0, 0, 0, 0, []),
  (11, .iload_n 1, 1, 0, 0, 0, 0, 0, []),
  (12, .isub, 1, 0, 0, 0, 0, 0, []),
  (13, .iload_n 3, 1, 0, 0, 0, 0, 0, []),
  (14, .iadd, 1, 0, 0, 0, 0, 0, []),
  (15, .imul, 1, 0, 0, 0, 0, 0, []),
  (16, .iload_n 3, 1, 0, 0, 0, 0, 0, []),
  (17, .idiv, 1, 0, 0, 0, 0, 0, []),
  (18, .istore_n 2, 1, 0, 0, 0, 0, 0, []),
  (19, .iinc 3 1, 3, 0, 0, 0, 1, 0, []),
  (22, .goto (-18), 3, 4, 0, 0, 0, 0, []),
  (25, .iload_n 2, 1, 0, 0, 0, 0, 0, []),
  (26, .ireturn, 1, 0, 0, 0, 0, 0, [])]
def n_X2_choose_4 (k4 : Int32 → Int32 → Int32 → Int32 → Option Int32) (ls : rx_L) (st : List Value) (u : Option rx_H) : Option Int32 := match ls, st, u with
  | [some (.int x0), some (.int x1), some (.int x2), some (.int x3)], [], none => k4 x0 x1 x2 x3
  | _, _, _ => none
noncomputable def kk_X2_choose_4 (F : Nat × Nat) (k4 : Int32 → Int32 → Int32 → Int32 → Option Int32) : Nat → rx_L → List Value → Option rx_H → Option Int32 := fun t ls st u => Bool.rec (motive := fun _ => Option Int32) (none) (n_X2_choose_4 k4 ls st u) (Nat.beq t 4)
noncomputable def kk_X2_choose_0 (F : Nat × Nat) : Nat → rx_L → List Value → Option rx_H → Option Int32 := fun t ls st u => Bool.rec (motive := fun _ => Option Int32) (none) (n_X2_choose_4 (f_X2_choose_4 F F.1) ls st u) (Nat.beq t 4)
set_option maxRecDepth 100000 in
theorem g_X2_choose_4 (F : Nat × Nat) (f : Nat) (x0 : Int32) (x1 : Int32) (x2 : Int32) (x3 : Int32) : f_X2_choose_4 F (f + 1) x0 x1 x2 x3 = rx_node (C_X2_choose F) rx_rI t_X2_choose [4] (kk_X2_choose_4 F (f_X2_choose_4 F f)) 24 4 [some (.int x0), some (.int x1), some (.int x2), some (.int x3)] [] none := rfl
set_option maxRecDepth 100000 in
theorem g_X2_choose_0 (F : Nat × Nat) (x0 : Int32) (x1 : Int32) : f_X2_choose_0 F x0 x1 = rx_node (C_X2_choose F) rx_rI t_X2_choose [4] (kk_X2_choose_0 F) 24 0 [some (.int x0), some (.int x1), none, none] [] none := rfl
def f_X2_cascadeTop_4 (F : Nat × Nat) : Nat → Int32 → Int32 → Int32 → Int32 → Option Int32
  | 0, _, _, _, _ => none
  | f + 1, x0, x1, x2, x3 =>
    if x3 < (1000 : Int32) then
      if (x3 + (1 : Int32)) - x1 = 0 then
        none
      else
        if x0 < (x2 * (x3 + (1 : Int32))) / ((x3 + (1 : Int32)) - x1) then
          some x3
        else
          (f_X2_cascadeTop_4 F f) x0 x1 ((x2 * (x3 + (1 : Int32))) / ((x3 + (1 : Int32)) - x1)) (x3 + 1)
    else
      some (1000 : Int32)
def f_X2_cascadeTop_0 (F : Nat × Nat) (x0 : Int32) (x1 : Int32) : Option Int32 :=
  f_X2_cascadeTop_4 F F.1 x0 x1 (1 : Int32) x1
def f_X2_cascadeTop (F : Nat × Nat) (x0 : Int32) (x1 : Int32) : Option Int32 := f_X2_cascadeTop_0 F x0 x1
def c_X2_cascadeTop {α : Type} (F : Nat × Nat) (as : List Value) (u : Option rx_H) (κ : rx_K α) : Option α := match as with
  | [.int a0, .int a1] => (f_X2_cascadeTop F a0 a1).bind fun r => κ (some (.int r)) u
  | _ => none
noncomputable def C_X2_cascadeTop {α : Type} (F : Nat × Nat) : rx_Cl α := fun j as u κ => none
def t_X2_cascadeTop : List rx_E := [
  (0, .iconst 1, 1, 0, 0, 0, 1, 0, []),
  (1, .istore_n 2, 1, 0, 0, 0, 0, 0, []),
  (2, .iload_n 1, 1, 0, 0, 0, 0, 0, []),
  (3, .istore_n 3, 1, 0, 0, 0, 0, 0, []),
  (4, .iload_n 3, 1, 0, 0, 0, 0, 0, []),
  (5, .sipush 1000, 3, 0, 0, 0, 1000, 0, []),
  (8, .if_icmp .ge 28, 3, 36, 0, 0, 0, 0, []),
  (11, .iload_n 2, 1, 0, 0, 0, 0, 0, []),
  (12, .iload_n 3, 1, 0, 0, 0, 0, 0, []),
  (13, .iconst 1, 1, 0, 0, 0, 1, 0, []),
  (14, .iadd, 1, 0, 0, 0, 0, 0, []),
  (15, .imul, 1, 0, 0, 0, 0, 0, []),
  (16, .iload_n 3, 1, 0, 0, 0, 0, 0, []),
  (17, .iconst 1, 1, 0, 0, 0, 1, 0, []),
  (18, .iadd, 1, 0, 0, 0, 0, 0, []),
  (19, .iload_n 1, 1, 0, 0, 0, 0, 0, []),
  (20, .isub, 1, 0, 0, 0, 0, 0, []),
  (21, .idiv, 1, 0, 0, 0, 0, 0, []),
  (22, .istore_n 2, 1, 0, 0, 0, 0, 0, []),
  (23, .iload_n 2, 1, 0, 0, 0, 0, 0, []),
  (24, .iload_n 0, 1, 0, 0, 0, 0, 0, []),
  (25, .if_icmp .le 5, 3, 30, 0, 0, 0, 0, []),
  (28, .iload_n 3, 1, 0, 0, 0, 0, 0, []),
  (29, .ireturn, 1, 0, 0, 0, 0, 0, []),
  (30, .iinc 3 1, 3, 0, 0, 0, 1, 0, []),
  (33, .goto (-29), 3, 4, 0, 0, 0, 0, []),
  (36, .sipush 1000, 3, 0, 0, 0, 1000, 0, []),
  (39, .ireturn, 1, 0, 0, 0, 0, 0, [])]
def n_X2_cascadeTop_4 (k4 : Int32 → Int32 → Int32 → Int32 → Option Int32) (ls : rx_L) (st : List Value) (u : Option rx_H) : Option Int32 := match ls, st, u with
  | [some (.int x0), some (.int x1), some (.int x2), some (.int x3)], [], none => k4 x0 x1 x2 x3
  | _, _, _ => none
noncomputable def kk_X2_cascadeTop_4 (F : Nat × Nat) (k4 : Int32 → Int32 → Int32 → Int32 → Option Int32) : Nat → rx_L → List Value → Option rx_H → Option Int32 := fun t ls st u => Bool.rec (motive := fun _ => Option Int32) (none) (n_X2_cascadeTop_4 k4 ls st u) (Nat.beq t 4)
noncomputable def kk_X2_cascadeTop_0 (F : Nat × Nat) : Nat → rx_L → List Value → Option rx_H → Option Int32 := fun t ls st u => Bool.rec (motive := fun _ => Option Int32) (none) (n_X2_cascadeTop_4 (f_X2_cascadeTop_4 F F.1) ls st u) (Nat.beq t 4)
set_option maxRecDepth 100000 in
theorem g_X2_cascadeTop_4 (F : Nat × Nat) (f : Nat) (x0 : Int32) (x1 : Int32) (x2 : Int32) (x3 : Int32) : f_X2_cascadeTop_4 F (f + 1) x0 x1 x2 x3 = rx_node (C_X2_cascadeTop F) rx_rI t_X2_cascadeTop [4] (kk_X2_cascadeTop_4 F (f_X2_cascadeTop_4 F f)) 31 4 [some (.int x0), some (.int x1), some (.int x2), some (.int x3)] [] none := rfl
set_option maxRecDepth 100000 in
theorem g_X2_cascadeTop_0 (F : Nat × Nat) (x0 : Int32) (x1 : Int32) : f_X2_cascadeTop_0 F x0 x1 = rx_node (C_X2_cascadeTop F) rx_rI t_X2_cascadeTop [4] (kk_X2_cascadeTop_0 F) 31 0 [some (.int x0), some (.int x1), none, none] [] none := rfl
def f_X2_cascadeNumber_5 (F : Nat × Nat) : Nat → Int32 → Int32 → Int32 → Int32 → Option Int32
  | 0, _, _, _, _ => none
  | f + 1, x1, x2, x3, x4 =>
    if x4 < (1 : Int32) then
      some (-2 : Int32)
    else
      if 0 < x3 then
        (f_X2_cascadeTop F x3 x4).bind fun v1 =>
        if x1 - x4 = x2 then
          some v1
        else
          (f_X2_choose F v1 x4).bind fun v2 =>
          (f_X2_cascadeNumber_5 F f) x1 x2 (x3 - v2) (x4 + (-1))
      else
        some (-2 : Int32)
def f_X2_cascadeNumber_0 (F : Nat × Nat) (x0 : Int32) (x1 : Int32) (x2 : Int32) : Option Int32 :=
  f_X2_cascadeNumber_5 F F.1 x1 x2 x0 x1
def f_X2_cascadeNumber (F : Nat × Nat) (x0 : Int32) (x1 : Int32) (x2 : Int32) : Option Int32 := f_X2_cascadeNumber_0 F x0 x1 x2
def c_X2_cascadeNumber {α : Type} (F : Nat × Nat) (as : List Value) (u : Option rx_H) (κ : rx_K α) : Option α := match as with
  | [.int a0, .int a1, .int a2] => (f_X2_cascadeNumber F a0 a1 a2).bind fun r => κ (some (.int r)) u
  | _ => none
noncomputable def C_X2_cascadeNumber {α : Type} (F : Nat × Nat) : rx_Cl α := fun j as u κ => Bool.rec (motive := fun _ => Option α) (Bool.rec (motive := fun _ => Option α) (none) (c_X2_choose F as u κ) (Nat.beq j 47)) (c_X2_cascadeTop F as u κ) (Nat.beq j 45)
def t_X2_cascadeNumber : List rx_E := [
  (0, .iload_n 0, 1, 0, 0, 0, 0, 0, []),
  (1, .istore_n 3, 1, 0, 0, 0, 0, 0, []),
  (2, .iload_n 1, 1, 0, 0, 0, 0, 0, []),
  (3, .istore 4, 2, 0, 0, 0, 0, 0, []),
  (5, .iload 4, 2, 0, 0, 0, 0, 0, []),
  (7, .iconst 1, 1, 0, 0, 0, 1, 0, []),
  (8, .if_icmp .lt 42, 3, 50, 0, 0, 0, 0, []),
  (11, .iload_n 3, 1, 0, 0, 0, 0, 0, []),
  (12, .ifCond .le 38, 3, 50, 0, 0, 0, 0, []),
  (15, .iload_n 3, 1, 0, 0, 0, 0, 0, []),
  (16, .iload 4, 2, 0, 0, 0, 0, 0, []),
  (18, .invokestatic 15, 3, 45, 2, 446, 0, 0, []),
  (21, .istore 5, 2, 0, 0, 0, 0, 0, []),
  (23, .iload_n 1, 1, 0, 0, 0, 0, 0, []),
  (24, .iload 4, 2, 0, 0, 0, 0, 0, []),
  (26, .isub, 1, 0, 0, 0, 0, 0, []),
  (27, .iload_n 2, 1, 0, 0, 0, 0, 0, []),
  (28, .if_icmp .ne 6, 3, 34, 0, 0, 0, 0, []),
  (31, .iload 5, 2, 0, 0, 0, 0, 0, []),
  (33, .ireturn, 1, 0, 0, 0, 0, 0, []),
  (34, .iload_n 3, 1, 0, 0, 0, 0, 0, []),
  (35, .iload 5, 2, 0, 0, 0, 0, 0, []),
  (37, .iload 4, 2, 0, 0, 0, 0, 0, []),
  (39, .invokestatic 19, 3, 47, 2, 449, 0, 0, []),
  (42, .isub, 1, 0, 0, 0, 0, 0, []),
  (43, .istore_n 3, 1, 0, 0, 0, 0, 0, []),
  (44, .iinc 4 (-1), 3, 0, 0, 0, (-1), 0, []),
  (47, .goto (-42), 3, 5, 0, 0, 0, 0, []),
  (50, .bipush (-2), 2, 0, 0, 0, (-2), 0, []),
  (52, .ireturn, 1, 0, 0, 0, 0, 0, [])]
def n_X2_cascadeNumber_5 (k5 : Int32 → Int32 → Int32 → Int32 → Option Int32) (ls : rx_L) (st : List Value) (u : Option rx_H) : Option Int32 := match ls, st, u with
  | [_, some (.int x1), some (.int x2), some (.int x3), some (.int x4), _], [], none => k5 x1 x2 x3 x4
  | _, _, _ => none
noncomputable def kk_X2_cascadeNumber_5 (F : Nat × Nat) (k5 : Int32 → Int32 → Int32 → Int32 → Option Int32) : Nat → rx_L → List Value → Option rx_H → Option Int32 := fun t ls st u => Bool.rec (motive := fun _ => Option Int32) (none) (n_X2_cascadeNumber_5 k5 ls st u) (Nat.beq t 5)
noncomputable def kk_X2_cascadeNumber_0 (F : Nat × Nat) : Nat → rx_L → List Value → Option rx_H → Option Int32 := fun t ls st u => Bool.rec (motive := fun _ => Option Int32) (none) (n_X2_cascadeNumber_5 (f_X2_cascadeNumber_5 F F.1) ls st u) (Nat.beq t 5)
set_option maxRecDepth 100000 in
theorem g_X2_cascadeNumber_5 (F : Nat × Nat) (f : Nat) (x1 : Int32) (x2 : Int32) (x3 : Int32) (x4 : Int32) : f_X2_cascadeNumber_5 F (f + 1) x1 x2 x3 x4 = rx_node (C_X2_cascadeNumber F) rx_rI t_X2_cascadeNumber [5] (kk_X2_cascadeNumber_5 F (f_X2_cascadeNumber_5 F f)) 33 5 [none, some (.int x1), some (.int x2), some (.int x3), some (.int x4), none] [] none := rfl
set_option maxRecDepth 100000 in
theorem g_X2_cascadeNumber_0 (F : Nat × Nat) (x0 : Int32) (x1 : Int32) (x2 : Int32) : f_X2_cascadeNumber_0 F x0 x1 x2 = rx_node (C_X2_cascadeNumber F) rx_rI t_X2_cascadeNumber [5] (kk_X2_cascadeNumber_0 F) 33 0 [some (.int x0), some (.int x1), some (.int x2), none, none, none] [] none := rfl
def f_X2_leastShadow_7 (F : Nat × Nat) : Nat → Int32 → Int32 → Int32 → Option Int32
  | 0, _, _, _ => none
  | f + 1, x2, x3, x4 =>
    if x4 < (1 : Int32) then
      some x3
    else
      if 0 < x2 then
        (f_X2_cascadeTop F x2 x4).bind fun v1 =>
        (f_X2_choose F v1 (x4 - (1 : Int32))).bind fun v2 =>
        (f_X2_choose F v1 x4).bind fun v3 =>
        (f_X2_leastShadow_7 F f) (x2 - v3) (x3 + v2) (x4 + (-1))
      else
        some x3
def f_X2_leastShadow_0 (F : Nat × Nat) (x0 : Int32) (x1 : Int32) : Option Int32 :=
  f_X2_leastShadow_7 F F.1 x0 (0 : Int32) x1
def f_X2_leastShadow (F : Nat × Nat) (x0 : Int32) (x1 : Int32) : Option Int32 := f_X2_leastShadow_0 F x0 x1
def c_X2_leastShadow {α : Type} (F : Nat × Nat) (as : List Value) (u : Option rx_H) (κ : rx_K α) : Option α := match as with
  | [.int a0, .int a1] => (f_X2_leastShadow F a0 a1).bind fun r => κ (some (.int r)) u
  | _ => none
noncomputable def C_X2_leastShadow {α : Type} (F : Nat × Nat) : rx_Cl α := fun j as u κ => Bool.rec (motive := fun _ => Option α) (Bool.rec (motive := fun _ => Option α) (none) (c_X2_choose F as u κ) (Nat.beq j 47)) (c_X2_cascadeTop F as u κ) (Nat.beq j 45)
def t_X2_leastShadow : List rx_E := [
  (0, .iload_n 0, 1, 0, 0, 0, 0, 0, []),
  (1, .istore_n 2, 1, 0, 0, 0, 0, 0, []),
  (2, .iconst 0, 1, 0, 0, 0, 0, 0, []),
  (3, .istore_n 3, 1, 0, 0, 0, 0, 0, []),
  (4, .iload_n 1, 1, 0, 0, 0, 0, 0, []),
  (5, .istore 4, 2, 0, 0, 0, 0, 0, []),
  (7, .iload 4, 2, 0, 0, 0, 0, 0, []),
  (9, .iconst 1, 1, 0, 0, 0, 1, 0, []),
  (10, .if_icmp .lt 43, 3, 53, 0, 0, 0, 0, []),
  (13, .iload_n 2, 1, 0, 0, 0, 0, 0, []),
  (14, .ifCond .le 39, 3, 53, 0, 0, 0, 0, []),
  (17, .iload_n 2, 1, 0, 0, 0, 0, 0, []),
  (18, .iload 4, 2, 0, 0, 0, 0, 0, []),
  (20, .invokestatic 15, 3, 45, 2, 446, 0, 0, []),
  (23, .istore 5, 2, 0, 0, 0, 0, 0, []),
  (25, .iload_n 3, 1, 0, 0, 0, 0, 0, []),
  (26, .iload 5, 2, 0, 0, 0, 0, 0, []),
  (28, .iload 4, 2, 0, 0, 0, 0, 0, []),
  (30, .iconst 1, 1, 0, 0, 0, 1, 0, []),
  (31, .isub, 1, 0, 0, 0, 0, 0, []),
  (32, .invokestatic 19, 3, 47, 2, 449, 0, 0, []),
  (35, .iadd, 1, 0, 0, 0, 0, 0, []),
  (36, .istore_n 3, 1, 0, 0, 0, 0, 0, []),
  (37, .iload_n 2, 1, 0, 0, 0, 0, 0, []),
  (38, .iload 5, 2, 0, 0, 0, 0, 0, []),
  (40, .iload 4, 2, 0, 0, 0, 0, 0, []),
  (42, .invokestatic 19, 3, 47, 2, 449, 0, 0, []),
  (45, .isub, 1, 0, 0, 0, 0, 0, []),
  (46, .istore_n 2, 1, 0, 0, 0, 0, 0, []),
  (47, .iinc 4 (-1), 3, 0, 0, 0, (-1), 0, []),
  (50, .goto (-43), 3, 7, 0, 0, 0, 0, []),
  (53, .iload_n 3, 1, 0, 0, 0, 0, 0, []),
  (54, .ireturn, 1, 0, 0, 0, 0, 0, [])]
def n_X2_leastShadow_7 (k7 : Int32 → Int32 → Int32 → Option Int32) (ls : rx_L) (st : List Value) (u : Option rx_H) : Option Int32 := match ls, st, u with
  | [_, _, some (.int x2), some (.int x3), some (.int x4), _], [], none => k7 x2 x3 x4
  | _, _, _ => none
noncomputable def kk_X2_leastShadow_7 (F : Nat × Nat) (k7 : Int32 → Int32 → Int32 → Option Int32) : Nat → rx_L → List Value → Option rx_H → Option Int32 := fun t ls st u => Bool.rec (motive := fun _ => Option Int32) (none) (n_X2_leastShadow_7 k7 ls st u) (Nat.beq t 7)
noncomputable def kk_X2_leastShadow_0 (F : Nat × Nat) : Nat → rx_L → List Value → Option rx_H → Option Int32 := fun t ls st u => Bool.rec (motive := fun _ => Option Int32) (none) (n_X2_leastShadow_7 (f_X2_leastShadow_7 F F.1) ls st u) (Nat.beq t 7)
set_option maxRecDepth 100000 in
theorem g_X2_leastShadow_7 (F : Nat × Nat) (f : Nat) (x2 : Int32) (x3 : Int32) (x4 : Int32) : f_X2_leastShadow_7 F (f + 1) x2 x3 x4 = rx_node (C_X2_leastShadow F) rx_rI t_X2_leastShadow [7] (kk_X2_leastShadow_7 F (f_X2_leastShadow_7 F f)) 36 7 [none, none, some (.int x2), some (.int x3), some (.int x4), none] [] none := rfl
set_option maxRecDepth 100000 in
theorem g_X2_leastShadow_0 (F : Nat × Nat) (x0 : Int32) (x1 : Int32) : f_X2_leastShadow_0 F x0 x1 = rx_node (C_X2_leastShadow F) rx_rI t_X2_leastShadow [7] (kk_X2_leastShadow_0 F) 36 0 [some (.int x0), some (.int x1), none, none, none, none] [] none := rfl
def f_X2_matchedOnes_7 (F : Nat × Nat) : Nat → Int32 → Int32 → Int32 → Int32 → Int32 → Option Int32
  | 0, _, _, _, _, _ => none
  | f + 1, x0, x1, x2, x3, x4 =>
    if x4 < x1 then
      if (x0 >>> (x4 &&& 31)) &&& (1 : Int32) = 0 then
        (f_X2_matchedOnes_7 F f) x0 x1 (x2 + 1) x3 (x4 + 1)
      else
        if 0 < x2 then
          (f_X2_matchedOnes_7 F f) x0 x1 (x2 + (-1)) (x3 ||| ((1 : Int32) <<< (x4 &&& 31))) (x4 + 1)
        else
          (f_X2_matchedOnes_7 F f) x0 x1 x2 x3 (x4 + 1)
    else
      some x3
def f_X2_matchedOnes_0 (F : Nat × Nat) (x0 : Int32) (x1 : Int32) : Option Int32 :=
  f_X2_matchedOnes_7 F F.1 x0 x1 (0 : Int32) (0 : Int32) (0 : Int32)
def f_X2_matchedOnes (F : Nat × Nat) (x0 : Int32) (x1 : Int32) : Option Int32 := f_X2_matchedOnes_0 F x0 x1
def c_X2_matchedOnes {α : Type} (F : Nat × Nat) (as : List Value) (u : Option rx_H) (κ : rx_K α) : Option α := match as with
  | [.int a0, .int a1] => (f_X2_matchedOnes F a0 a1).bind fun r => κ (some (.int r)) u
  | _ => none
noncomputable def C_X2_matchedOnes {α : Type} (F : Nat × Nat) : rx_Cl α := fun j as u κ => none
def t_X2_matchedOnes : List rx_E := [
  (0, .iconst 0, 1, 0, 0, 0, 0, 0, []),
  (1, .istore_n 2, 1, 0, 0, 0, 0, 0, []),
  (2, .iconst 0, 1, 0, 0, 0, 0, 0, []),
  (3, .istore_n 3, 1, 0, 0, 0, 0, 0, []),
  (4, .iconst 0, 1, 0, 0, 0, 0, 0, []),
  (5, .istore 4, 2, 0, 0, 0, 0, 0, []),
  (7, .iload 4, 2, 0, 0, 0, 0, 0, []),
  (9, .iload_n 1, 1, 0, 0, 0, 0, 0, []),
  (10, .if_icmp .ge 38, 3, 48, 0, 0, 0, 0, []),
  (13, .iload_n 0, 1, 0, 0, 0, 0, 0, []),
  (14, .iload 4, 2, 0, 0, 0, 0, 0, []),
  (16, .ishr, 1, 0, 0, 0, 0, 0, []),
  (17, .iconst 1, 1, 0, 0, 0, 1, 0, []),
  (18, .iand, 1, 0, 0, 0, 0, 0, []),
  (19, .ifCond .ne 9, 3, 28, 0, 0, 0, 0, []),
  (22, .iinc 2 1, 3, 0, 0, 0, 1, 0, []),
  (25, .goto 17, 3, 42, 0, 0, 0, 0, []),
  (28, .iload_n 2, 1, 0, 0, 0, 0, 0, []),
  (29, .ifCond .le 13, 3, 42, 0, 0, 0, 0, []),
  (32, .iinc 2 (-1), 3, 0, 0, 0, (-1), 0, []),
  (35, .iload_n 3, 1, 0, 0, 0, 0, 0, []),
  (36, .iconst 1, 1, 0, 0, 0, 1, 0, []),
  (37, .iload 4, 2, 0, 0, 0, 0, 0, []),
  (39, .ishl, 1, 0, 0, 0, 0, 0, []),
  (40, .ior, 1, 0, 0, 0, 0, 0, []),
  (41, .istore_n 3, 1, 0, 0, 0, 0, 0, []),
  (42, .iinc 4 1, 3, 0, 0, 0, 1, 0, []),
  (45, .goto (-38), 3, 7, 0, 0, 0, 0, []),
  (48, .iload_n 3, 1, 0, 0, 0, 0, 0, []),
  (49, .ireturn, 1, 0, 0, 0, 0, 0, [])]
def n_X2_matchedOnes_7 (k7 : Int32 → Int32 → Int32 → Int32 → Int32 → Option Int32) (ls : rx_L) (st : List Value) (u : Option rx_H) : Option Int32 := match ls, st, u with
  | [some (.int x0), some (.int x1), some (.int x2), some (.int x3), some (.int x4)], [], none => k7 x0 x1 x2 x3 x4
  | _, _, _ => none
noncomputable def kk_X2_matchedOnes_7 (F : Nat × Nat) (k7 : Int32 → Int32 → Int32 → Int32 → Int32 → Option Int32) : Nat → rx_L → List Value → Option rx_H → Option Int32 := fun t ls st u => Bool.rec (motive := fun _ => Option Int32) (none) (n_X2_matchedOnes_7 k7 ls st u) (Nat.beq t 7)
noncomputable def kk_X2_matchedOnes_0 (F : Nat × Nat) : Nat → rx_L → List Value → Option rx_H → Option Int32 := fun t ls st u => Bool.rec (motive := fun _ => Option Int32) (none) (n_X2_matchedOnes_7 (f_X2_matchedOnes_7 F F.1) ls st u) (Nat.beq t 7)
set_option maxRecDepth 100000 in
theorem g_X2_matchedOnes_7 (F : Nat × Nat) (f : Nat) (x0 : Int32) (x1 : Int32) (x2 : Int32) (x3 : Int32) (x4 : Int32) : f_X2_matchedOnes_7 F (f + 1) x0 x1 x2 x3 x4 = rx_node (C_X2_matchedOnes F) rx_rI t_X2_matchedOnes [7] (kk_X2_matchedOnes_7 F (f_X2_matchedOnes_7 F f)) 33 7 [some (.int x0), some (.int x1), some (.int x2), some (.int x3), some (.int x4)] [] none := rfl
set_option maxRecDepth 100000 in
theorem g_X2_matchedOnes_0 (F : Nat × Nat) (x0 : Int32) (x1 : Int32) : f_X2_matchedOnes_0 F x0 x1 = rx_node (C_X2_matchedOnes F) rx_rI t_X2_matchedOnes [7] (kk_X2_matchedOnes_0 F) 33 0 [some (.int x0), some (.int x1), none, none, none] [] none := rfl
def f_X3_digit_0 (F : Nat × Nat) (x0 : Int32) (x1 : Int32) : Option Int32 :=
  some ((x0 >>> (((3 : Int32) * x1) &&& 31)) &&& (7 : Int32))
def f_X3_digit (F : Nat × Nat) (x0 : Int32) (x1 : Int32) : Option Int32 := f_X3_digit_0 F x0 x1
def c_X3_digit {α : Type} (F : Nat × Nat) (as : List Value) (u : Option rx_H) (κ : rx_K α) : Option α := match as with
  | [.int a0, .int a1] => (f_X3_digit F a0 a1).bind fun r => κ (some (.int r)) u
  | _ => none
noncomputable def C_X3_digit {α : Type} (F : Nat × Nat) : rx_Cl α := fun j as u κ => none
def t_X3_digit : List rx_E := [
  (0, .iload_n 0, 1, 0, 0, 0, 0, 0, []),
  (1, .iconst 3, 1, 0, 0, 0, 3, 0, []),
  (2, .iload_n 1, 1, 0, 0, 0, 0, 0, []),
  (3, .imul, 1, 0, 0, 0, 0, 0, []),
  (4, .ishr, 1, 0, 0, 0, 0, 0, []),
  (5, .bipush 7, 2, 0, 0, 0, 7, 0, []),
  (7, .iand, 1, 0, 0, 0, 0, 0, []),
  (8, .ireturn, 1, 0, 0, 0, 0, 0, [])]
noncomputable def kk_X3_digit_0 (F : Nat × Nat) : Nat → rx_L → List Value → Option rx_H → Option Int32 := fun t ls st u => none
set_option maxRecDepth 100000 in
theorem g_X3_digit_0 (F : Nat × Nat) (x0 : Int32) (x1 : Int32) : f_X3_digit_0 F x0 x1 = rx_node (C_X3_digit F) rx_rI t_X3_digit [] (kk_X3_digit_0 F) 11 0 [some (.int x0), some (.int x1)] [] none := rfl
def f_X3_isOrder_18 (F : Nat × Nat) : Nat → Int32 → Int32 → Int32 → Int32 → Option Int32
  | 0, _, _, _, _ => none
  | f + 1, x0, x1, x2, x3 =>
    if x3 < x1 then
      (f_X3_digit F x0 x3).bind fun v1 =>
      (f_X3_isOrder_18 F f) x0 x1 (x2 ||| ((1 : Int32) <<< (v1 &&& 31))) (x3 + 1)
    else
      if x2 = ((1 : Int32) <<< (x1 &&& 31)) - (1 : Int32) then
        some (1 : Int32)
      else
        some (0 : Int32)
def f_X3_isOrder_0 (F : Nat × Nat) (x0 : Int32) (x1 : Int32) : Option Int32 :=
  if x0 < 0 then
    some (0 : Int32)
  else
    if x0 >>> (((3 : Int32) * x1) &&& 31) = 0 then
      f_X3_isOrder_18 F F.1 x0 x1 (0 : Int32) (0 : Int32)
    else
      some (0 : Int32)
def f_X3_isOrder (F : Nat × Nat) (x0 : Int32) (x1 : Int32) : Option Int32 := f_X3_isOrder_0 F x0 x1
def c_X3_isOrder {α : Type} (F : Nat × Nat) (as : List Value) (u : Option rx_H) (κ : rx_K α) : Option α := match as with
  | [.int a0, .int a1] => (f_X3_isOrder F a0 a1).bind fun r => κ (some (.int r)) u
  | _ => none
noncomputable def C_X3_isOrder {α : Type} (F : Nat × Nat) : rx_Cl α := fun j as u κ => Bool.rec (motive := fun _ => Option α) (none) (c_X3_digit F as u κ) (Nat.beq j 54)
def t_X3_isOrder : List rx_E := [
  (0, .iload_n 0, 1, 0, 0, 0, 0, 0, []),
  (1, .ifCond .lt 11, 3, 12, 0, 0, 0, 0, []),
  (4, .iload_n 0, 1, 0, 0, 0, 0, 0, []),
  (5, .iconst 3, 1, 0, 0, 0, 3, 0, []),
  (6, .iload_n 1, 1, 0, 0, 0, 0, 0, []),
  (7, .imul, 1, 0, 0, 0, 0, 0, []),
  (8, .ishr, 1, 0, 0, 0, 0, 0, []),
  (9, .ifCond .eq 5, 3, 14, 0, 0, 0, 0, []),
  (12, .iconst 0, 1, 0, 0, 0, 0, 0, []),
  (13, .ireturn, 1, 0, 2, 0, 0, 0, []),
  (14, .iconst 0, 1, 0, 0, 0, 0, 0, []),
  (15, .istore_n 2, 1, 0, 0, 0, 0, 0, []),
  (16, .iconst 0, 1, 0, 0, 0, 0, 0, []),
  (17, .istore_n 3, 1, 0, 0, 0, 0, 0, []),
  (18, .iload_n 3, 1, 0, 0, 0, 0, 0, []),
  (19, .iload_n 1, 1, 0, 0, 0, 0, 0, []),
  (20, .if_icmp .ge 19, 3, 39, 0, 0, 0, 0, []),
  (23, .iload_n 2, 1, 0, 0, 0, 0, 0, []),
  (24, .iconst 1, 1, 0, 0, 0, 1, 0, []),
  (25, .iload_n 0, 1, 0, 0, 0, 0, 0, []),
  (26, .iload_n 3, 1, 0, 0, 0, 0, 0, []),
  (27, .invokestatic 9, 3, 54, 2, 392, 0, 0, []),
  (30, .ishl, 1, 0, 0, 0, 0, 0, []),
  (31, .ior, 1, 0, 0, 0, 0, 0, []),
  (32, .istore_n 2, 1, 0, 0, 0, 0, 0, []),
  (33, .iinc 3 1, 3, 0, 0, 0, 1, 0, []),
  (36, .goto (-18), 3, 18, 0, 0, 0, 0, []),
  (39, .iload_n 2, 1, 0, 0, 0, 0, 0, []),
  (40, .iconst 1, 1, 0, 0, 0, 1, 0, []),
  (41, .iload_n 1, 1, 0, 0, 0, 0, 0, []),
  (42, .ishl, 1, 0, 0, 0, 0, 0, []),
  (43, .iconst 1, 1, 0, 0, 0, 1, 0, []),
  (44, .isub, 1, 0, 0, 0, 0, 0, []),
  (45, .if_icmp .ne 7, 3, 52, 0, 0, 0, 0, []),
  (48, .iconst 1, 1, 0, 0, 0, 1, 0, []),
  (49, .goto 4, 3, 53, 0, 0, 0, 0, []),
  (52, .iconst 0, 1, 0, 0, 0, 0, 0, []),
  (53, .ireturn, 1, 0, 2, 0, 0, 0, [])]
def n_X3_isOrder_18 (k18 : Int32 → Int32 → Int32 → Int32 → Option Int32) (ls : rx_L) (st : List Value) (u : Option rx_H) : Option Int32 := match ls, st, u with
  | [some (.int x0), some (.int x1), some (.int x2), some (.int x3)], [], none => k18 x0 x1 x2 x3
  | _, _, _ => none
noncomputable def kk_X3_isOrder_18 (F : Nat × Nat) (k18 : Int32 → Int32 → Int32 → Int32 → Option Int32) : Nat → rx_L → List Value → Option rx_H → Option Int32 := fun t ls st u => Bool.rec (motive := fun _ => Option Int32) (none) (n_X3_isOrder_18 k18 ls st u) (Nat.beq t 18)
noncomputable def kk_X3_isOrder_0 (F : Nat × Nat) : Nat → rx_L → List Value → Option rx_H → Option Int32 := fun t ls st u => Bool.rec (motive := fun _ => Option Int32) (none) (n_X3_isOrder_18 (f_X3_isOrder_18 F F.1) ls st u) (Nat.beq t 18)
set_option maxRecDepth 100000 in
theorem g_X3_isOrder_18 (F : Nat × Nat) (f : Nat) (x0 : Int32) (x1 : Int32) (x2 : Int32) (x3 : Int32) : f_X3_isOrder_18 F (f + 1) x0 x1 x2 x3 = rx_node (C_X3_isOrder F) rx_rI t_X3_isOrder [18] (kk_X3_isOrder_18 F (f_X3_isOrder_18 F f)) 41 18 [some (.int x0), some (.int x1), some (.int x2), some (.int x3)] [] none := rfl
set_option maxRecDepth 100000 in
theorem g_X3_isOrder_0 (F : Nat × Nat) (x0 : Int32) (x1 : Int32) : f_X3_isOrder_0 F x0 x1 = rx_node (C_X3_isOrder F) rx_rI t_X3_isOrder [18] (kk_X3_isOrder_0 F) 41 0 [some (.int x0), some (.int x1), none, none] [] none := rfl
def f_X3_unturned_4 (F : Nat × Nat) : Nat → Int32 → Int32 → Int32 → Option Int32
  | 0, _, _, _ => none
  | f + 1, x0, x1, x2 =>
    if x2 < x0 then
      (f_X3_unturned_4 F f) x0 (x1 ||| (x2 <<< (((3 : Int32) * x2) &&& 31))) (x2 + 1)
    else
      some x1
def f_X3_unturned_0 (F : Nat × Nat) (x0 : Int32) : Option Int32 :=
  f_X3_unturned_4 F F.1 x0 (0 : Int32) (0 : Int32)
def f_X3_unturned (F : Nat × Nat) (x0 : Int32) : Option Int32 := f_X3_unturned_0 F x0
def c_X3_unturned {α : Type} (F : Nat × Nat) (as : List Value) (u : Option rx_H) (κ : rx_K α) : Option α := match as with
  | [.int a0] => (f_X3_unturned F a0).bind fun r => κ (some (.int r)) u
  | _ => none
noncomputable def C_X3_unturned {α : Type} (F : Nat × Nat) : rx_Cl α := fun j as u κ => none
def t_X3_unturned : List rx_E := [
  (0, .iconst 0, 1, 0, 0, 0, 0, 0, []),
  (1, .istore_n 1, 1, 0, 0, 0, 0, 0, []),
  (2, .iconst 0, 1, 0, 0, 0, 0, 0, []),
  (3, .istore_n 2, 1, 0, 0, 0, 0, 0, []),
  (4, .iload_n 2, 1, 0, 0, 0, 0, 0, []),
  (5, .iload_n 0, 1, 0, 0, 0, 0, 0, []),
  (6, .if_icmp .ge 17, 3, 23, 0, 0, 0, 0, []),
  (9, .iload_n 1, 1, 0, 0, 0, 0, 0, []),
  (10, .iload_n 2, 1, 0, 0, 0, 0, 0, []),
  (11, .iconst 3, 1, 0, 0, 0, 3, 0, []),
  (12, .iload_n 2, 1, 0, 0, 0, 0, 0, []),
  (13, .imul, 1, 0, 0, 0, 0, 0, []),
  (14, .ishl, 1, 0, 0, 0, 0, 0, []),
  (15, .ior, 1, 0, 0, 0, 0, 0, []),
  (16, .istore_n 1, 1, 0, 0, 0, 0, 0, []),
  (17, .iinc 2 1, 3, 0, 0, 0, 1, 0, []),
  (20, .goto (-16), 3, 4, 0, 0, 0, 0, []),
  (23, .iload_n 1, 1, 0, 0, 0, 0, 0, []),
  (24, .ireturn, 1, 0, 0, 0, 0, 0, [])]
def n_X3_unturned_4 (k4 : Int32 → Int32 → Int32 → Option Int32) (ls : rx_L) (st : List Value) (u : Option rx_H) : Option Int32 := match ls, st, u with
  | [some (.int x0), some (.int x1), some (.int x2)], [], none => k4 x0 x1 x2
  | _, _, _ => none
noncomputable def kk_X3_unturned_4 (F : Nat × Nat) (k4 : Int32 → Int32 → Int32 → Option Int32) : Nat → rx_L → List Value → Option rx_H → Option Int32 := fun t ls st u => Bool.rec (motive := fun _ => Option Int32) (none) (n_X3_unturned_4 k4 ls st u) (Nat.beq t 4)
noncomputable def kk_X3_unturned_0 (F : Nat × Nat) : Nat → rx_L → List Value → Option rx_H → Option Int32 := fun t ls st u => Bool.rec (motive := fun _ => Option Int32) (none) (n_X3_unturned_4 (f_X3_unturned_4 F F.1) ls st u) (Nat.beq t 4)
set_option maxRecDepth 100000 in
theorem g_X3_unturned_4 (F : Nat × Nat) (f : Nat) (x0 : Int32) (x1 : Int32) (x2 : Int32) : f_X3_unturned_4 F (f + 1) x0 x1 x2 = rx_node (C_X3_unturned F) rx_rI t_X3_unturned [4] (kk_X3_unturned_4 F (f_X3_unturned_4 F f)) 22 4 [some (.int x0), some (.int x1), some (.int x2)] [] none := rfl
set_option maxRecDepth 100000 in
theorem g_X3_unturned_0 (F : Nat × Nat) (x0 : Int32) : f_X3_unturned_0 F x0 = rx_node (C_X3_unturned F) rx_rI t_X3_unturned [4] (kk_X3_unturned_0 F) 22 0 [some (.int x0), none, none] [] none := rfl
def f_X3_swapDigits_0 (F : Nat × Nat) (x0 : Int32) (x1 : Int32) (x2 : Int32) : Option Int32 :=
  (f_X3_digit F x0 x1).bind fun v1 =>
  (f_X3_digit F x0 x2).bind fun v2 =>
  if x1 = x2 then
    some x0
  else
    some ((x0 ^^^ ((v1 ^^^ v2) <<< (((3 : Int32) * x1) &&& 31))) ^^^ ((v1 ^^^ v2) <<< (((3 : Int32) * x2) &&& 31)))
def f_X3_swapDigits (F : Nat × Nat) (x0 : Int32) (x1 : Int32) (x2 : Int32) : Option Int32 := f_X3_swapDigits_0 F x0 x1 x2
def c_X3_swapDigits {α : Type} (F : Nat × Nat) (as : List Value) (u : Option rx_H) (κ : rx_K α) : Option α := match as with
  | [.int a0, .int a1, .int a2] => (f_X3_swapDigits F a0 a1 a2).bind fun r => κ (some (.int r)) u
  | _ => none
noncomputable def C_X3_swapDigits {α : Type} (F : Nat × Nat) : rx_Cl α := fun j as u κ => Bool.rec (motive := fun _ => Option α) (none) (c_X3_digit F as u κ) (Nat.beq j 54)
def t_X3_swapDigits : List rx_E := [
  (0, .iload_n 0, 1, 0, 0, 0, 0, 0, []),
  (1, .iload_n 1, 1, 0, 0, 0, 0, 0, []),
  (2, .invokestatic 9, 3, 54, 2, 392, 0, 0, []),
  (5, .iload_n 0, 1, 0, 0, 0, 0, 0, []),
  (6, .iload_n 2, 1, 0, 0, 0, 0, 0, []),
  (7, .invokestatic 9, 3, 54, 2, 392, 0, 0, []),
  (10, .ixor, 1, 0, 0, 0, 0, 0, []),
  (11, .istore_n 3, 1, 0, 0, 0, 0, 0, []),
  (12, .iload_n 1, 1, 0, 0, 0, 0, 0, []),
  (13, .iload_n 2, 1, 0, 0, 0, 0, 0, []),
  (14, .if_icmp .ne 7, 3, 21, 0, 0, 0, 0, []),
  (17, .iload_n 0, 1, 0, 0, 0, 0, 0, []),
  (18, .goto 16, 3, 34, 0, 0, 0, 0, []),
  (21, .iload_n 0, 1, 0, 0, 0, 0, 0, []),
  (22, .iload_n 3, 1, 0, 0, 0, 0, 0, []),
  (23, .iconst 3, 1, 0, 0, 0, 3, 0, []),
  (24, .iload_n 1, 1, 0, 0, 0, 0, 0, []),
  (25, .imul, 1, 0, 0, 0, 0, 0, []),
  (26, .ishl, 1, 0, 0, 0, 0, 0, []),
  (27, .ixor, 1, 0, 0, 0, 0, 0, []),
  (28, .iload_n 3, 1, 0, 0, 0, 0, 0, []),
  (29, .iconst 3, 1, 0, 0, 0, 3, 0, []),
  (30, .iload_n 2, 1, 0, 0, 0, 0, 0, []),
  (31, .imul, 1, 0, 0, 0, 0, 0, []),
  (32, .ishl, 1, 0, 0, 0, 0, 0, []),
  (33, .ixor, 1, 0, 0, 0, 0, 0, []),
  (34, .ireturn, 1, 0, 0, 0, 0, 0, [])]
noncomputable def kk_X3_swapDigits_0 (F : Nat × Nat) : Nat → rx_L → List Value → Option rx_H → Option Int32 := fun t ls st u => none
set_option maxRecDepth 100000 in
theorem g_X3_swapDigits_0 (F : Nat × Nat) (x0 : Int32) (x1 : Int32) (x2 : Int32) : f_X3_swapDigits_0 F x0 x1 x2 = rx_node (C_X3_swapDigits F) rx_rI t_X3_swapDigits [] (kk_X3_swapDigits_0 F) 30 0 [some (.int x0), some (.int x1), some (.int x2), none] [] none := rfl
def f_X3_turnedBy_23 (F : Nat × Nat) (k10 : Int64 → Int32 → Int32 → Int64 → Int32 → Option Int64) : Nat → Int64 → Int32 → Int32 → Int64 → Int32 → Int32 → Int32 → Option Int64
  | 0, _, _, _, _, _, _, _ => none
  | f + 1, x0, x2, x3, x4, x6, x7, x8 =>
    if x8 < x3 then
      (f_X3_digit F x2 x8).bind fun v1 =>
      (f_X3_turnedBy_23 F k10 f) x0 x2 x3 x4 x6 (x7 ||| (((x6 >>> (x8 &&& 31)) &&& (1 : Int32)) <<< (v1 &&& 31))) (x8 + 1)
    else
      (f_X0_next F x0 (x6 + (1 : Int32))).bind fun v2 =>
      k10 x0 x2 x3 (x4 ||| ((1 : Int64) <<< (Int32.toInt64 x7 &&& 63))) v2
def f_X3_turnedBy_10 (F : Nat × Nat) : Nat → Int64 → Int32 → Int32 → Int64 → Int32 → Option Int64
  | 0, _, _, _, _, _ => none
  | f + 1, x0, x2, x3, x4, x6 =>
    if x6 < (64 : Int32) then
      f_X3_turnedBy_23 F (f_X3_turnedBy_10 F f) F.1 x0 x2 x3 x4 x6 (0 : Int32) (0 : Int32)
    else
      some x4
def f_X3_turnedBy_0 (F : Nat × Nat) (x0 : Int64) (x2 : Int32) (x3 : Int32) : Option Int64 :=
  (f_X0_next F x0 (0 : Int32)).bind fun v1 =>
  f_X3_turnedBy_10 F F.1 x0 x2 x3 (0 : Int64) v1
def f_X3_turnedBy (F : Nat × Nat) (x0 : Int64) (x2 : Int32) (x3 : Int32) : Option Int64 := f_X3_turnedBy_0 F x0 x2 x3
def c_X3_turnedBy {α : Type} (F : Nat × Nat) (as : List Value) (u : Option rx_H) (κ : rx_K α) : Option α := match as with
  | [.long a0, .int a1, .int a2] => (f_X3_turnedBy F a0 a1 a2).bind fun r => κ (some (.long r)) u
  | _ => none
noncomputable def C_X3_turnedBy {α : Type} (F : Nat × Nat) : rx_Cl α := fun j as u κ => Bool.rec (motive := fun _ => Option α) (Bool.rec (motive := fun _ => Option α) (none) (c_X3_digit F as u κ) (Nat.beq j 54)) (c_X0_next F as u κ) (Nat.beq j 23)
def t_X3_turnedBy : List rx_E := [
  (0, .lconst 0, 1, 0, 0, 0, 0, 0, []),
  (1, .lstore 4, 2, 0, 0, 0, 0, 0, []),
  (3, .lload_n 0, 1, 0, 0, 0, 0, 0, []),
  (4, .iconst 0, 1, 0, 0, 0, 0, 0, []),
  (5, .invokestatic 15, 3, 23, 2, 398, 0, 0, []),
  (8, .istore 6, 2, 0, 0, 0, 0, 0, []),
  (10, .iload 6, 2, 0, 0, 0, 0, 0, []),
  (12, .bipush 64, 2, 0, 0, 0, 64, 0, []),
  (14, .if_icmp .ge 62, 3, 76, 0, 0, 0, 0, []),
  (17, .iconst 0, 1, 0, 0, 0, 0, 0, []),
  (18, .istore 7, 2, 0, 0, 0, 0, 0, []),
  (20, .iconst 0, 1, 0, 0, 0, 0, 0, []),
  (21, .istore 8, 2, 0, 0, 0, 0, 0, []),
  (23, .iload 8, 2, 0, 0, 0, 0, 0, []),
  (25, .iload_n 3, 1, 0, 0, 0, 0, 0, []),
  (26, .if_icmp .ge 28, 3, 54, 0, 0, 0, 0, []),
  (29, .iload 7, 2, 0, 0, 0, 0, 0, []),
  (31, .iload 6, 2, 0, 0, 0, 0, 0, []),
  (33, .iload 8, 2, 0, 0, 0, 0, 0, []),
  (35, .ishr, 1, 0, 0, 0, 0, 0, []),
  (36, .iconst 1, 1, 0, 0, 0, 1, 0, []),
  (37, .iand, 1, 0, 0, 0, 0, 0, []),
  (38, .iload_n 2, 1, 0, 0, 0, 0, 0, []),
  (39, .iload 8, 2, 0, 0, 0, 0, 0, []),
  (41, .invokestatic 9, 3, 54, 2, 392, 0, 0, []),
  (44, .ishl, 1, 0, 0, 0, 0, 0, []),
  (45, .ior, 1, 0, 0, 0, 0, 0, []),
  (46, .istore 7, 2, 0, 0, 0, 0, 0, []),
  (48, .iinc 8 1, 3, 0, 0, 0, 1, 0, []),
  (51, .goto (-28), 3, 23, 0, 0, 0, 0, []),
  (54, .lload 4, 2, 0, 0, 0, 0, 0, []),
  (56, .lconst 1, 1, 0, 0, 0, 0, 1, []),
  (57, .iload 7, 2, 0, 0, 0, 0, 0, []),
  (59, .lshl, 1, 0, 0, 0, 0, 0, []),
  (60, .lor, 1, 0, 0, 0, 0, 0, []),
  (61, .lstore 4, 2, 0, 0, 0, 0, 0, []),
  (63, .lload_n 0, 1, 0, 0, 0, 0, 0, []),
  (64, .iload 6, 2, 0, 0, 0, 0, 0, []),
  (66, .iconst 1, 1, 0, 0, 0, 1, 0, []),
  (67, .iadd, 1, 0, 0, 0, 0, 0, []),
  (68, .invokestatic 15, 3, 23, 2, 398, 0, 0, []),
  (71, .istore 6, 2, 0, 0, 0, 0, 0, []),
  (73, .goto (-63), 3, 10, 0, 0, 0, 0, []),
  (76, .lload 4, 2, 0, 0, 0, 0, 0, []),
  (78, .lreturn, 1, 0, 0, 0, 0, 0, [])]
def n_X3_turnedBy_10 (k10 : Int64 → Int32 → Int32 → Int64 → Int32 → Option Int64) (ls : rx_L) (st : List Value) (u : Option rx_H) : Option Int64 := match ls, st, u with
  | [some (.long x0), _, some (.int x2), some (.int x3), some (.long x4), _, some (.int x6), _, _], [], none => k10 x0 x2 x3 x4 x6
  | _, _, _ => none
def n_X3_turnedBy_23 (k23 : Int64 → Int32 → Int32 → Int64 → Int32 → Int32 → Int32 → Option Int64) (ls : rx_L) (st : List Value) (u : Option rx_H) : Option Int64 := match ls, st, u with
  | [some (.long x0), _, some (.int x2), some (.int x3), some (.long x4), _, some (.int x6), some (.int x7), some (.int x8)], [], none => k23 x0 x2 x3 x4 x6 x7 x8
  | _, _, _ => none
noncomputable def kk_X3_turnedBy_23 (F : Nat × Nat) (k10 : Int64 → Int32 → Int32 → Int64 → Int32 → Option Int64) (k23 : Int64 → Int32 → Int32 → Int64 → Int32 → Int32 → Int32 → Option Int64) : Nat → rx_L → List Value → Option rx_H → Option Int64 := fun t ls st u => Bool.rec (motive := fun _ => Option Int64) (Bool.rec (motive := fun _ => Option Int64) (none) (n_X3_turnedBy_23 k23 ls st u) (Nat.beq t 23)) (n_X3_turnedBy_10 k10 ls st u) (Nat.beq t 10)
noncomputable def kk_X3_turnedBy_10 (F : Nat × Nat) (k10 : Int64 → Int32 → Int32 → Int64 → Int32 → Option Int64) : Nat → rx_L → List Value → Option rx_H → Option Int64 := fun t ls st u => Bool.rec (motive := fun _ => Option Int64) (none) (n_X3_turnedBy_23 (f_X3_turnedBy_23 F k10 F.1) ls st u) (Nat.beq t 23)
noncomputable def kk_X3_turnedBy_0 (F : Nat × Nat) : Nat → rx_L → List Value → Option rx_H → Option Int64 := fun t ls st u => Bool.rec (motive := fun _ => Option Int64) (none) (n_X3_turnedBy_10 (f_X3_turnedBy_10 F F.1) ls st u) (Nat.beq t 10)
set_option maxRecDepth 100000 in
theorem g_X3_turnedBy_23 (F : Nat × Nat) (k10 : Int64 → Int32 → Int32 → Int64 → Int32 → Option Int64) (f : Nat) (x0 : Int64) (x2 : Int32) (x3 : Int32) (x4 : Int64) (x6 : Int32) (x7 : Int32) (x8 : Int32) : f_X3_turnedBy_23 F k10 (f + 1) x0 x2 x3 x4 x6 x7 x8 = rx_node (C_X3_turnedBy F) rx_rJ t_X3_turnedBy [10, 23] (kk_X3_turnedBy_23 F k10 (f_X3_turnedBy_23 F k10 f)) 48 23 [some (.long x0), none, some (.int x2), some (.int x3), some (.long x4), none, some (.int x6), some (.int x7), some (.int x8)] [] none := rfl
set_option maxRecDepth 100000 in
theorem g_X3_turnedBy_10 (F : Nat × Nat) (f : Nat) (x0 : Int64) (x2 : Int32) (x3 : Int32) (x4 : Int64) (x6 : Int32) : f_X3_turnedBy_10 F (f + 1) x0 x2 x3 x4 x6 = rx_node (C_X3_turnedBy F) rx_rJ t_X3_turnedBy [10, 23] (kk_X3_turnedBy_10 F (f_X3_turnedBy_10 F f)) 48 10 [some (.long x0), none, some (.int x2), some (.int x3), some (.long x4), none, some (.int x6), none, none] [] none := rfl
set_option maxRecDepth 100000 in
theorem g_X3_turnedBy_0 (F : Nat × Nat) (x0 : Int64) (x2 : Int32) (x3 : Int32) : f_X3_turnedBy_0 F x0 x2 x3 = rx_node (C_X3_turnedBy F) rx_rJ t_X3_turnedBy [10, 23] (kk_X3_turnedBy_0 F) 48 0 [some (.long x0), none, some (.int x2), some (.int x3), none, none, none, none, none] [] none := rfl
def f_X3_stretch_33 (F : Nat × Nat) (k6 : Int32 → Int32 → Int32 → Int32 → Int32 → Int32 → Option Int32) (x0 : Int32) (x1 : Int32) (x2 : Int32) (x3 : Int32) (x5 : Int32) (s0 : Int32) (s1 : Int32) (s2 : Int32) (s3 : Int32) : Option Int32 :=
  (f_X3_digit F s2 s3).bind fun v1 =>
  k6 x0 x1 x2 x3 (s0 ||| (s1 <<< (v1 &&& 31))) (x5 + 1)
def f_X3_stretch_6 (F : Nat × Nat) : Nat → Int32 → Int32 → Int32 → Int32 → Int32 → Int32 → Option Int32
  | 0, _, _, _, _, _, _ => none
  | f + 1, x0, x1, x2, x3, x4, x5 =>
    if x5 < x1 + x2 then
      if x5 < x3 then
        f_X3_stretch_33 F (f_X3_stretch_6 F f) x0 x1 x2 x3 x5 x4 (1 : Int32) x0 x5
      else
        f_X3_stretch_33 F (f_X3_stretch_6 F f) x0 x1 x2 x3 x5 x4 (1 : Int32) x0 (x5 - x3)
    else
      some x4
def f_X3_stretch_0 (F : Nat × Nat) (x0 : Int32) (x1 : Int32) (x2 : Int32) (x3 : Int32) : Option Int32 :=
  f_X3_stretch_6 F F.1 x0 x1 x2 x3 (0 : Int32) x1
def f_X3_stretch (F : Nat × Nat) (x0 : Int32) (x1 : Int32) (x2 : Int32) (x3 : Int32) : Option Int32 := f_X3_stretch_0 F x0 x1 x2 x3
def c_X3_stretch {α : Type} (F : Nat × Nat) (as : List Value) (u : Option rx_H) (κ : rx_K α) : Option α := match as with
  | [.int a0, .int a1, .int a2, .int a3] => (f_X3_stretch F a0 a1 a2 a3).bind fun r => κ (some (.int r)) u
  | _ => none
noncomputable def C_X3_stretch {α : Type} (F : Nat × Nat) : rx_Cl α := fun j as u κ => Bool.rec (motive := fun _ => Option α) (none) (c_X3_digit F as u κ) (Nat.beq j 54)
def t_X3_stretch : List rx_E := [
  (0, .iconst 0, 1, 0, 0, 0, 0, 0, []),
  (1, .istore 4, 2, 0, 0, 0, 0, 0, []),
  (3, .iload_n 1, 1, 0, 0, 0, 0, 0, []),
  (4, .istore 5, 2, 0, 0, 0, 0, 0, []),
  (6, .iload 5, 2, 0, 0, 0, 0, 0, []),
  (8, .iload_n 1, 1, 0, 0, 0, 0, 0, []),
  (9, .iload_n 2, 1, 0, 0, 0, 0, 0, []),
  (10, .iadd, 1, 0, 0, 0, 0, 0, []),
  (11, .if_icmp .ge 35, 3, 46, 0, 0, 0, 0, []),
  (14, .iload 4, 2, 0, 0, 0, 0, 0, []),
  (16, .iconst 1, 1, 0, 0, 0, 1, 0, []),
  (17, .iload_n 0, 1, 0, 0, 0, 0, 0, []),
  (18, .iload 5, 2, 0, 0, 0, 0, 0, []),
  (20, .iload_n 3, 1, 0, 0, 0, 0, 0, []),
  (21, .if_icmp .ge 8, 3, 29, 0, 0, 0, 0, []),
  (24, .iload 5, 2, 0, 0, 0, 0, 0, []),
  (26, .goto 7, 3, 33, 0, 0, 0, 0, []),
  (29, .iload 5, 2, 0, 0, 0, 0, 0, []),
  (31, .iload_n 3, 1, 0, 0, 0, 0, 0, []),
  (32, .isub, 1, 0, 0, 0, 0, 0, []),
  (33, .invokestatic 9, 3, 54, 2, 392, 0, 0, []),
  (36, .ishl, 1, 0, 0, 0, 0, 0, []),
  (37, .ior, 1, 0, 0, 0, 0, 0, []),
  (38, .istore 4, 2, 0, 0, 0, 0, 0, []),
  (40, .iinc 5 1, 3, 0, 0, 0, 1, 0, []),
  (43, .goto (-37), 3, 6, 0, 0, 0, 0, []),
  (46, .iload 4, 2, 0, 0, 0, 0, 0, []),
  (48, .ireturn, 1, 0, 0, 0, 0, 0, [])]
def n_X3_stretch_6 (k6 : Int32 → Int32 → Int32 → Int32 → Int32 → Int32 → Option Int32) (ls : rx_L) (st : List Value) (u : Option rx_H) : Option Int32 := match ls, st, u with
  | [some (.int x0), some (.int x1), some (.int x2), some (.int x3), some (.int x4), some (.int x5)], [], none => k6 x0 x1 x2 x3 x4 x5
  | _, _, _ => none
def n_X3_stretch_33 (F : Nat × Nat) (k6 : Int32 → Int32 → Int32 → Int32 → Int32 → Int32 → Option Int32) (ls : rx_L) (st : List Value) (u : Option rx_H) : Option Int32 := match ls, st, u with
  | [some (.int x0), some (.int x1), some (.int x2), some (.int x3), _, some (.int x5)], [.int s3, .int s2, .int s1, .int s0], none => f_X3_stretch_33 F k6 x0 x1 x2 x3 x5 s0 s1 s2 s3
  | _, _, _ => none
noncomputable def kk_X3_stretch_33 (F : Nat × Nat) (k6 : Int32 → Int32 → Int32 → Int32 → Int32 → Int32 → Option Int32) : Nat → rx_L → List Value → Option rx_H → Option Int32 := fun t ls st u => Bool.rec (motive := fun _ => Option Int32) (none) (n_X3_stretch_6 k6 ls st u) (Nat.beq t 6)
noncomputable def kk_X3_stretch_6 (F : Nat × Nat) (k6 : Int32 → Int32 → Int32 → Int32 → Int32 → Int32 → Option Int32) : Nat → rx_L → List Value → Option rx_H → Option Int32 := fun t ls st u => Bool.rec (motive := fun _ => Option Int32) (none) (n_X3_stretch_33 F k6 ls st u) (Nat.beq t 33)
noncomputable def kk_X3_stretch_0 (F : Nat × Nat) : Nat → rx_L → List Value → Option rx_H → Option Int32 := fun t ls st u => Bool.rec (motive := fun _ => Option Int32) (none) (n_X3_stretch_6 (f_X3_stretch_6 F F.1) ls st u) (Nat.beq t 6)
set_option maxRecDepth 100000 in
theorem g_X3_stretch_33 (F : Nat × Nat) (k6 : Int32 → Int32 → Int32 → Int32 → Int32 → Int32 → Option Int32) (x0 : Int32) (x1 : Int32) (x2 : Int32) (x3 : Int32) (x5 : Int32) (s0 : Int32) (s1 : Int32) (s2 : Int32) (s3 : Int32) : f_X3_stretch_33 F k6 x0 x1 x2 x3 x5 s0 s1 s2 s3 = rx_node (C_X3_stretch F) rx_rI t_X3_stretch [6, 33] (kk_X3_stretch_33 F k6) 31 33 [some (.int x0), some (.int x1), some (.int x2), some (.int x3), none, some (.int x5)] [.int s3, .int s2, .int s1, .int s0] none := rfl
set_option maxRecDepth 100000 in
theorem g_X3_stretch_6 (F : Nat × Nat) (f : Nat) (x0 : Int32) (x1 : Int32) (x2 : Int32) (x3 : Int32) (x4 : Int32) (x5 : Int32) : f_X3_stretch_6 F (f + 1) x0 x1 x2 x3 x4 x5 = rx_node (C_X3_stretch F) rx_rI t_X3_stretch [6, 33] (kk_X3_stretch_6 F (f_X3_stretch_6 F f)) 31 6 [some (.int x0), some (.int x1), some (.int x2), some (.int x3), some (.int x4), some (.int x5)] [] none := rfl
set_option maxRecDepth 100000 in
theorem g_X3_stretch_0 (F : Nat × Nat) (x0 : Int32) (x1 : Int32) (x2 : Int32) (x3 : Int32) : f_X3_stretch_0 F x0 x1 x2 x3 = rx_node (C_X3_stretch F) rx_rI t_X3_stretch [6, 33] (kk_X3_stretch_0 F) 31 0 [some (.int x0), some (.int x1), some (.int x2), some (.int x3), none, none] [] none := rfl
def f_X3_agree_0 (F : Nat × Nat) (x0 : Int64) (x2 : Int64) (x4 : Int32) : Option Int32 :=
  (f_X0_below F ((1 : Int32) <<< (x4 &&& 31))).bind fun v1 =>
  if (x0 ^^^ x2) &&& v1 = (0 : Int64) then
    some (1 : Int32)
  else
    some (0 : Int32)
def f_X3_agree (F : Nat × Nat) (x0 : Int64) (x2 : Int64) (x4 : Int32) : Option Int32 := f_X3_agree_0 F x0 x2 x4
def c_X3_agree {α : Type} (F : Nat × Nat) (as : List Value) (u : Option rx_H) (κ : rx_K α) : Option α := match as with
  | [.long a0, .long a1, .int a2] => (f_X3_agree F a0 a1 a2).bind fun r => κ (some (.int r)) u
  | _ => none
noncomputable def C_X3_agree {α : Type} (F : Nat × Nat) : rx_Cl α := fun j as u κ => Bool.rec (motive := fun _ => Option α) (none) (c_X0_below F as u κ) (Nat.beq j 11)
def t_X3_agree : List rx_E := [
  (0, .lload_n 0, 1, 0, 0, 0, 0, 0, []),
  (1, .lload_n 2, 1, 0, 0, 0, 0, 0, []),
  (2, .lxor, 1, 0, 0, 0, 0, 0, []),
  (3, .iconst 1, 1, 0, 0, 0, 1, 0, []),
  (4, .iload 4, 2, 0, 0, 0, 0, 0, []),
  (6, .ishl, 1, 0, 0, 0, 0, 0, []),
  (7, .invokestatic 45, 3, 11, 1, 580, 0, 0, []),
  (10, .land, 1, 0, 0, 0, 0, 0, []),
  (11, .lconst 0, 1, 0, 0, 0, 0, 0, []),
  (12, .lcmp, 1, 0, 0, 0, 0, 0, []),
  (13, .ifCond .ne 7, 3, 20, 0, 0, 0, 0, []),
  (16, .iconst 1, 1, 0, 0, 0, 1, 0, []),
  (17, .goto 4, 3, 21, 0, 0, 0, 0, []),
  (20, .iconst 0, 1, 0, 0, 0, 0, 0, []),
  (21, .ireturn, 1, 0, 2, 0, 0, 0, [])]
noncomputable def kk_X3_agree_0 (F : Nat × Nat) : Nat → rx_L → List Value → Option rx_H → Option Int32 := fun t ls st u => none
set_option maxRecDepth 100000 in
theorem g_X3_agree_0 (F : Nat × Nat) (x0 : Int64) (x2 : Int64) (x4 : Int32) : f_X3_agree_0 F x0 x2 x4 = rx_node (C_X3_agree F) rx_rI t_X3_agree [] (kk_X3_agree_0 F) 18 0 [some (.long x0), none, some (.long x2), none, some (.int x4)] [] none := rfl
def f_X3_leastTurnFrom_34 (F : Nat × Nat) (self : Int64 → Int64 → Int32 → Int32 → Int32 → Option Int32) : Nat → Int64 → Int32 → Int32 → Int64 → Int32 → Int32 → Option Int32
  | 0, _, _, _, _, _, _ => none
  | f + 1, x0, x5, x6, x7, x9, x10 =>
    if x10 < x6 then
      (f_X0_swapped F x7 x5 x10).bind fun v1 =>
      (f_X3_swapDigits F x9 x5 x10).bind fun v2 =>
      (self x0 v1 v2 (x5 + (1 : Int32)) x6).bind fun v3 =>
      if v3 = (-2 : Int32) then
        (f_X3_leastTurnFrom_34 F self f) x0 x5 x6 v1 v2 (x10 + 1)
      else
        some v3
    else
      some (-2 : Int32)
def f_X3_leastTurnFrom_0 (F : Nat × Nat) (self : Int64 → Int64 → Int32 → Int32 → Int32 → Option Int32) (x0 : Int64) (x2 : Int64) (x4 : Int32) (x5 : Int32) (x6 : Int32) : Option Int32 :=
  (f_X3_agree F x0 x2 x5).bind fun v1 =>
  if v1 = 0 then
    some (-2 : Int32)
  else
    if x5 < x6 then
      f_X3_leastTurnFrom_34 F self F.1 x0 x5 x6 x2 x4 x5
    else
      some x4
def f_X3_leastTurnFrom (F : Nat × Nat) : Nat → Int64 → Int64 → Int32 → Int32 → Int32 → Option Int32
  | 0, _, _, _, _, _ => none
  | d + 1, x0, x2, x4, x5, x6 => f_X3_leastTurnFrom_0 F (f_X3_leastTurnFrom F d) x0 x2 x4 x5 x6
def c_X3_leastTurnFrom {α : Type} (F : Nat × Nat) (d : Nat) (as : List Value) (u : Option rx_H) (κ : rx_K α) : Option α := match as with
  | [.long a0, .long a1, .int a2, .int a3, .int a4] => (f_X3_leastTurnFrom F d a0 a1 a2 a3 a4).bind fun r => κ (some (.int r)) u
  | _ => none
noncomputable def C_X3_leastTurnFrom {α : Type} (F : Nat × Nat) (d : Nat) : rx_Cl α := fun j as u κ => Bool.rec (motive := fun _ => Option α) (Bool.rec (motive := fun _ => Option α) (Bool.rec (motive := fun _ => Option α) (Bool.rec (motive := fun _ => Option α) (none) (c_X3_leastTurnFrom F d as u κ) (Nat.beq j 225)) (c_X3_swapDigits F as u κ) (Nat.beq j 58)) (c_X3_agree F as u κ) (Nat.beq j 52)) (c_X0_swapped F as u κ) (Nat.beq j 29)
def t_X3_leastTurnFrom : List rx_E := [
  (0, .lload_n 0, 1, 0, 0, 0, 0, 0, []),
  (1, .lload_n 2, 1, 0, 0, 0, 0, 0, []),
  (2, .iload 5, 2, 0, 0, 0, 0, 0, []),
  (4, .invokestatic 33, 3, 52, 3, 577, 0, 0, []),
  (7, .ifCond .ne 6, 3, 13, 0, 0, 0, 0, []),
  (10, .bipush (-2), 2, 0, 0, 0, (-2), 0, []),
  (12, .ireturn, 1, 0, 0, 0, 0, 0, []),
  (13, .iload 5, 2, 0, 0, 0, 0, 0, []),
  (15, .iload 6, 2, 0, 0, 0, 0, 0, []),
  (17, .if_icmp .lt 6, 3, 23, 0, 0, 0, 0, []),
  (20, .iload 4, 2, 0, 0, 0, 0, 0, []),
  (22, .ireturn, 1, 0, 0, 0, 0, 0, []),
  (23, .lload_n 2, 1, 0, 0, 0, 0, 0, []),
  (24, .lstore 7, 2, 0, 0, 0, 0, 0, []),
  (26, .iload 4, 2, 0, 0, 0, 0, 0, []),
  (28, .istore 9, 2, 0, 0, 0, 0, 0, []),
  (30, .iload 5, 2, 0, 0, 0, 0, 0, []),
  (32, .istore 10, 2, 0, 0, 0, 0, 0, []),
  (34, .iload 10, 2, 0, 0, 0, 0, 0, []),
  (36, .iload 6, 2, 0, 0, 0, 0, 0, []),
  (38, .if_icmp .ge 57, 3, 95, 0, 0, 0, 0, []),
  (41, .lload 7, 2, 0, 0, 0, 0, 0, []),
  (43, .iload 5, 2, 0, 0, 0, 0, 0, []),
  (45, .iload 10, 2, 0, 0, 0, 0, 0, []),
  (47, .invokestatic 37, 3, 29, 3, 581, 0, 0, []),
  (50, .lstore 7, 2, 0, 0, 0, 0, 0, []),
  (52, .iload 9, 2, 0, 0, 0, 0, 0, []),
  (54, .iload 5, 2, 0, 0, 0, 0, 0, []),
  (56, .iload 10, 2, 0, 0, 0, 0, 0, []),
  (58, .invokestatic 41, 3, 58, 3, 584, 0, 0, []),
  (61, .istore 9, 2, 0, 0, 0, 0, 0, []),
  (63, .lload_n 0, 1, 0, 0, 0, 0, 0, []),
  (64, .lload 7, 2, 0, 0, 0, 0, 0, []),
  (66, .iload 9, 2, 0, 0, 0, 0, 0, []),
  (68, .iload 5, 2, 0, 0, 0, 0, 0, []),
  (70, .iconst 1, 1, 0, 0, 0, 1, 0, []),
  (71, .iadd, 1, 0, 0, 0, 0, 0, []),
  (72, .iload 6, 2, 0, 0, 0, 0, 0, []),
  (74, .invokestatic 25, 3, 225, 5, 574, 0, 0, []),
  (77, .istore 11, 2, 0, 0, 0, 0, 0, []),
  (79, .iload 11, 2, 0, 0, 0, 0, 0, []),
  (81, .bipush (-2), 2, 0, 0, 0, (-2), 0, []),
  (83, .if_icmp .eq 6, 3, 89, 0, 0, 0, 0, []),
  (86, .iload 11, 2, 0, 0, 0, 0, 0, []),
  (88, .ireturn, 1, 0, 0, 0, 0, 0, []),
  (89, .iinc 10 1, 3, 0, 0, 0, 1, 0, []),
  (92, .goto (-58), 3, 34, 0, 0, 0, 0, []),
  (95, .bipush (-2), 2, 0, 0, 0, (-2), 0, []),
  (97, .ireturn, 1, 0, 0, 0, 0, 0, [])]
def n_X3_leastTurnFrom_34 (k34 : Int64 → Int32 → Int32 → Int64 → Int32 → Int32 → Option Int32) (ls : rx_L) (st : List Value) (u : Option rx_H) : Option Int32 := match ls, st, u with
  | [some (.long x0), _, _, _, _, some (.int x5), some (.int x6), some (.long x7), _, some (.int x9), some (.int x10), _], [], none => k34 x0 x5 x6 x7 x9 x10
  | _, _, _ => none
noncomputable def kk_X3_leastTurnFrom_34 (F : Nat × Nat) (self : Int64 → Int64 → Int32 → Int32 → Int32 → Option Int32) (k34 : Int64 → Int32 → Int32 → Int64 → Int32 → Int32 → Option Int32) : Nat → rx_L → List Value → Option rx_H → Option Int32 := fun t ls st u => Bool.rec (motive := fun _ => Option Int32) (none) (n_X3_leastTurnFrom_34 k34 ls st u) (Nat.beq t 34)
noncomputable def kk_X3_leastTurnFrom_0 (F : Nat × Nat) (self : Int64 → Int64 → Int32 → Int32 → Int32 → Option Int32) : Nat → rx_L → List Value → Option rx_H → Option Int32 := fun t ls st u => Bool.rec (motive := fun _ => Option Int32) (none) (n_X3_leastTurnFrom_34 (f_X3_leastTurnFrom_34 F self F.1) ls st u) (Nat.beq t 34)
set_option maxRecDepth 100000 in
theorem g_X3_leastTurnFrom_34 (F : Nat × Nat) (d : Nat) (f : Nat) (x0 : Int64) (x5 : Int32) (x6 : Int32) (x7 : Int64) (x9 : Int32) (x10 : Int32) : f_X3_leastTurnFrom_34 F (f_X3_leastTurnFrom F d) (f + 1) x0 x5 x6 x7 x9 x10 = rx_node (C_X3_leastTurnFrom F d) rx_rI t_X3_leastTurnFrom [34] (kk_X3_leastTurnFrom_34 F (f_X3_leastTurnFrom F d) (f_X3_leastTurnFrom_34 F (f_X3_leastTurnFrom F d) f)) 52 34 [some (.long x0), none, none, none, none, some (.int x5), some (.int x6), some (.long x7), none, some (.int x9), some (.int x10), none] [] none := rfl
set_option maxRecDepth 100000 in
theorem g_X3_leastTurnFrom_0 (F : Nat × Nat) (d : Nat) (x0 : Int64) (x2 : Int64) (x4 : Int32) (x5 : Int32) (x6 : Int32) : f_X3_leastTurnFrom_0 F (f_X3_leastTurnFrom F d) x0 x2 x4 x5 x6 = rx_node (C_X3_leastTurnFrom F d) rx_rI t_X3_leastTurnFrom [34] (kk_X3_leastTurnFrom_0 F (f_X3_leastTurnFrom F d)) 52 0 [some (.long x0), none, some (.long x2), none, some (.int x4), some (.int x5), some (.int x6), none, none, none, none, none] [] none := rfl
def f_X3_leastTurn_0 (F : Nat × Nat) (x0 : Int64) (x2 : Int64) (x4 : Int32) : Option Int32 :=
  (f_X3_unturned F x4).bind fun v1 =>
  (f_X3_leastTurnFrom F F.2 x0 x2 v1 (0 : Int32) x4).bind fun v2 =>
  some v2
def f_X3_leastTurn (F : Nat × Nat) (x0 : Int64) (x2 : Int64) (x4 : Int32) : Option Int32 := f_X3_leastTurn_0 F x0 x2 x4
def c_X3_leastTurn {α : Type} (F : Nat × Nat) (as : List Value) (u : Option rx_H) (κ : rx_K α) : Option α := match as with
  | [.long a0, .long a1, .int a2] => (f_X3_leastTurn F a0 a1 a2).bind fun r => κ (some (.int r)) u
  | _ => none
noncomputable def C_X3_leastTurn {α : Type} (F : Nat × Nat) : rx_Cl α := fun j as u κ => Bool.rec (motive := fun _ => Option α) (Bool.rec (motive := fun _ => Option α) (none) (c_X3_leastTurnFrom F F.2 as u κ) (Nat.beq j 225)) (c_X3_unturned F as u κ) (Nat.beq j 60)
def t_X3_leastTurn : List rx_E := [
  (0, .lload_n 0, 1, 0, 0, 0, 0, 0, []),
  (1, .lload_n 2, 1, 0, 0, 0, 0, 0, []),
  (2, .iload 4, 2, 0, 0, 0, 0, 0, []),
  (4, .invokestatic 21, 3, 60, 1, 571, 0, 0, []),
  (7, .iconst 0, 1, 0, 0, 0, 0, 0, []),
  (8, .iload 4, 2, 0, 0, 0, 0, 0, []),
  (10, .invokestatic 25, 3, 225, 5, 574, 0, 0, []),
  (13, .ireturn, 1, 0, 0, 0, 0, 0, [])]
noncomputable def kk_X3_leastTurn_0 (F : Nat × Nat) : Nat → rx_L → List Value → Option rx_H → Option Int32 := fun t ls st u => none
set_option maxRecDepth 100000 in
theorem g_X3_leastTurn_0 (F : Nat × Nat) (x0 : Int64) (x2 : Int64) (x4 : Int32) : f_X3_leastTurn_0 F x0 x2 x4 = rx_node (C_X3_leastTurn F) rx_rI t_X3_leastTurn [] (kk_X3_leastTurn_0 F) 11 0 [some (.long x0), none, some (.long x2), none, some (.int x4)] [] none := rfl
def f_X3_countTurnsFrom_31 (F : Nat × Nat) (self : Int64 → Int64 → Int32 → Int32 → Option Int32) : Nat → Int64 → Int32 → Int32 → Int64 → Int32 → Int32 → Option Int32
  | 0, _, _, _, _, _, _ => none
  | f + 1, x0, x4, x5, x6, x8, x9 =>
    if x9 < x5 then
      (f_X0_swapped F x6 x4 x9).bind fun v1 =>
      (self x0 v1 (x4 + (1 : Int32)) x5).bind fun v2 =>
      (f_X3_countTurnsFrom_31 F self f) x0 x4 x5 v1 (x8 + v2) (x9 + 1)
    else
      some x8
def f_X3_countTurnsFrom_0 (F : Nat × Nat) (self : Int64 → Int64 → Int32 → Int32 → Option Int32) (x0 : Int64) (x2 : Int64) (x4 : Int32) (x5 : Int32) : Option Int32 :=
  (f_X3_agree F x0 x2 x4).bind fun v1 =>
  if v1 = 0 then
    some (0 : Int32)
  else
    if x4 < x5 then
      f_X3_countTurnsFrom_31 F self F.1 x0 x4 x5 x2 (0 : Int32) x4
    else
      some (1 : Int32)
def f_X3_countTurnsFrom (F : Nat × Nat) : Nat → Int64 → Int64 → Int32 → Int32 → Option Int32
  | 0, _, _, _, _ => none
  | d + 1, x0, x2, x4, x5 => f_X3_countTurnsFrom_0 F (f_X3_countTurnsFrom F d) x0 x2 x4 x5
def c_X3_countTurnsFrom {α : Type} (F : Nat × Nat) (d : Nat) (as : List Value) (u : Option rx_H) (κ : rx_K α) : Option α := match as with
  | [.long a0, .long a1, .int a2, .int a3] => (f_X3_countTurnsFrom F d a0 a1 a2 a3).bind fun r => κ (some (.int r)) u
  | _ => none
noncomputable def C_X3_countTurnsFrom {α : Type} (F : Nat × Nat) (d : Nat) : rx_Cl α := fun j as u κ => Bool.rec (motive := fun _ => Option α) (Bool.rec (motive := fun _ => Option α) (Bool.rec (motive := fun _ => Option α) (none) (c_X3_countTurnsFrom F d as u κ) (Nat.beq j 224)) (c_X3_agree F as u κ) (Nat.beq j 52)) (c_X0_swapped F as u κ) (Nat.beq j 29)
def t_X3_countTurnsFrom : List rx_E := [
  (0, .lload_n 0, 1, 0, 0, 0, 0, 0, []),
  (1, .lload_n 2, 1, 0, 0, 0, 0, 0, []),
  (2, .iload 4, 2, 0, 0, 0, 0, 0, []),
  (4, .invokestatic 33, 3, 52, 3, 577, 0, 0, []),
  (7, .ifCond .ne 5, 3, 12, 0, 0, 0, 0, []),
  (10, .iconst 0, 1, 0, 0, 0, 0, 0, []),
  (11, .ireturn, 1, 0, 0, 0, 0, 0, []),
  (12, .iload 4, 2, 0, 0, 0, 0, 0, []),
  (14, .iload 5, 2, 0, 0, 0, 0, 0, []),
  (16, .if_icmp .lt 5, 3, 21, 0, 0, 0, 0, []),
  (19, .iconst 1, 1, 0, 0, 0, 1, 0, []),
  (20, .ireturn, 1, 0, 0, 0, 0, 0, []),
  (21, .lload_n 2, 1, 0, 0, 0, 0, 0, []),
  (22, .lstore 6, 2, 0, 0, 0, 0, 0, []),
  (24, .iconst 0, 1, 0, 0, 0, 0, 0, []),
  (25, .istore 8, 2, 0, 0, 0, 0, 0, []),
  (27, .iload 4, 2, 0, 0, 0, 0, 0, []),
  (29, .istore 9, 2, 0, 0, 0, 0, 0, []),
  (31, .iload 9, 2, 0, 0, 0, 0, 0, []),
  (33, .iload 5, 2, 0, 0, 0, 0, 0, []),
  (35, .if_icmp .ge 37, 3, 72, 0, 0, 0, 0, []),
  (38, .lload 6, 2, 0, 0, 0, 0, 0, []),
  (40, .iload 4, 2, 0, 0, 0, 0, 0, []),
  (42, .iload 9, 2, 0, 0, 0, 0, 0, []),
  (44, .invokestatic 37, 3, 29, 3, 581, 0, 0, []),
  (47, .lstore 6, 2, 0, 0, 0, 0, 0, []),
  (49, .iload 8, 2, 0, 0, 0, 0, 0, []),
  (51, .lload_n 0, 1, 0, 0, 0, 0, 0, []),
  (52, .lload 6, 2, 0, 0, 0, 0, 0, []),
  (54, .iload 4, 2, 0, 0, 0, 0, 0, []),
  (56, .iconst 1, 1, 0, 0, 0, 1, 0, []),
  (57, .iadd, 1, 0, 0, 0, 0, 0, []),
  (58, .iload 5, 2, 0, 0, 0, 0, 0, []),
  (60, .invokestatic 29, 3, 224, 4, 594, 0, 0, []),
  (63, .iadd, 1, 0, 0, 0, 0, 0, []),
  (64, .istore 8, 2, 0, 0, 0, 0, 0, []),
  (66, .iinc 9 1, 3, 0, 0, 0, 1, 0, []),
  (69, .goto (-38), 3, 31, 0, 0, 0, 0, []),
  (72, .iload 8, 2, 0, 0, 0, 0, 0, []),
  (74, .ireturn, 1, 0, 0, 0, 0, 0, [])]
def n_X3_countTurnsFrom_31 (k31 : Int64 → Int32 → Int32 → Int64 → Int32 → Int32 → Option Int32) (ls : rx_L) (st : List Value) (u : Option rx_H) : Option Int32 := match ls, st, u with
  | [some (.long x0), _, _, _, some (.int x4), some (.int x5), some (.long x6), _, some (.int x8), some (.int x9)], [], none => k31 x0 x4 x5 x6 x8 x9
  | _, _, _ => none
noncomputable def kk_X3_countTurnsFrom_31 (F : Nat × Nat) (self : Int64 → Int64 → Int32 → Int32 → Option Int32) (k31 : Int64 → Int32 → Int32 → Int64 → Int32 → Int32 → Option Int32) : Nat → rx_L → List Value → Option rx_H → Option Int32 := fun t ls st u => Bool.rec (motive := fun _ => Option Int32) (none) (n_X3_countTurnsFrom_31 k31 ls st u) (Nat.beq t 31)
noncomputable def kk_X3_countTurnsFrom_0 (F : Nat × Nat) (self : Int64 → Int64 → Int32 → Int32 → Option Int32) : Nat → rx_L → List Value → Option rx_H → Option Int32 := fun t ls st u => Bool.rec (motive := fun _ => Option Int32) (none) (n_X3_countTurnsFrom_31 (f_X3_countTurnsFrom_31 F self F.1) ls st u) (Nat.beq t 31)
set_option maxRecDepth 100000 in
theorem g_X3_countTurnsFrom_31 (F : Nat × Nat) (d : Nat) (f : Nat) (x0 : Int64) (x4 : Int32) (x5 : Int32) (x6 : Int64) (x8 : Int32) (x9 : Int32) : f_X3_countTurnsFrom_31 F (f_X3_countTurnsFrom F d) (f + 1) x0 x4 x5 x6 x8 x9 = rx_node (C_X3_countTurnsFrom F d) rx_rI t_X3_countTurnsFrom [31] (kk_X3_countTurnsFrom_31 F (f_X3_countTurnsFrom F d) (f_X3_countTurnsFrom_31 F (f_X3_countTurnsFrom F d) f)) 43 31 [some (.long x0), none, none, none, some (.int x4), some (.int x5), some (.long x6), none, some (.int x8), some (.int x9)] [] none := rfl
set_option maxRecDepth 100000 in
theorem g_X3_countTurnsFrom_0 (F : Nat × Nat) (d : Nat) (x0 : Int64) (x2 : Int64) (x4 : Int32) (x5 : Int32) : f_X3_countTurnsFrom_0 F (f_X3_countTurnsFrom F d) x0 x2 x4 x5 = rx_node (C_X3_countTurnsFrom F d) rx_rI t_X3_countTurnsFrom [31] (kk_X3_countTurnsFrom_0 F (f_X3_countTurnsFrom F d)) 43 0 [some (.long x0), none, some (.long x2), none, some (.int x4), some (.int x5), none, none, none, none] [] none := rfl
def f_X3_countTurns_0 (F : Nat × Nat) (x0 : Int64) (x2 : Int32) : Option Int32 :=
  (f_X3_countTurnsFrom F F.2 x0 x0 (0 : Int32) x2).bind fun v1 =>
  some v1
def f_X3_countTurns (F : Nat × Nat) (x0 : Int64) (x2 : Int32) : Option Int32 := f_X3_countTurns_0 F x0 x2
def c_X3_countTurns {α : Type} (F : Nat × Nat) (as : List Value) (u : Option rx_H) (κ : rx_K α) : Option α := match as with
  | [.long a0, .int a1] => (f_X3_countTurns F a0 a1).bind fun r => κ (some (.int r)) u
  | _ => none
noncomputable def C_X3_countTurns {α : Type} (F : Nat × Nat) : rx_Cl α := fun j as u κ => Bool.rec (motive := fun _ => Option α) (none) (c_X3_countTurnsFrom F F.2 as u κ) (Nat.beq j 224)
def t_X3_countTurns : List rx_E := [
  (0, .lload_n 0, 1, 0, 0, 0, 0, 0, []),
  (1, .lload_n 0, 1, 0, 0, 0, 0, 0, []),
  (2, .iconst 0, 1, 0, 0, 0, 0, 0, []),
  (3, .iload_n 2, 1, 0, 0, 0, 0, 0, []),
  (4, .invokestatic 29, 3, 224, 4, 594, 0, 0, []),
  (7, .ireturn, 1, 0, 0, 0, 0, 0, [])]
noncomputable def kk_X3_countTurns_0 (F : Nat × Nat) : Nat → rx_L → List Value → Option rx_H → Option Int32 := fun t ls st u => none
set_option maxRecDepth 100000 in
theorem g_X3_countTurns_0 (F : Nat × Nat) (x0 : Int64) (x2 : Int32) : f_X3_countTurns_0 F x0 x2 = rx_node (C_X3_countTurns F) rx_rI t_X3_countTurns [] (kk_X3_countTurns_0 F) 9 0 [some (.long x0), none, some (.int x2)] [] none := rfl
def f_J9_min_7cf53_0 (F : Nat × Nat) (x0 : Int32) (x1 : Int32) : Option Int32 :=
  if x1 < x0 then
    some x1
  else
    some x0
def f_J9_min_7cf53 (F : Nat × Nat) (x0 : Int32) (x1 : Int32) : Option Int32 := f_J9_min_7cf53_0 F x0 x1
def c_J9_min_7cf53 {α : Type} (F : Nat × Nat) (as : List Value) (u : Option rx_H) (κ : rx_K α) : Option α := match as with
  | [.int a0, .int a1] => (f_J9_min_7cf53 F a0 a1).bind fun r => κ (some (.int r)) u
  | _ => none
noncomputable def C_J9_min_7cf53 {α : Type} (F : Nat × Nat) : rx_Cl α := fun j as u κ => none
def t_J9_min_7cf53 : List rx_E := [
  (0, .iload_n 0, 1, 0, 0, 0, 0, 0, []),
  (1, .iload_n 1, 1, 0, 0, 0, 0, 0, []),
  (2, .if_icmp .gt 7, 3, 9, 0, 0, 0, 0, []),
  (5, .iload_n 0, 1, 0, 0, 0, 0, 0, []),
  (6, .goto 4, 3, 10, 0, 0, 0, 0, []),
  (9, .iload_n 1, 1, 0, 0, 0, 0, 0, []),
  (10, .ireturn, 1, 0, 0, 0, 0, 0, [])]
noncomputable def kk_J9_min_7cf53_0 (F : Nat × Nat) : Nat → rx_L → List Value → Option rx_H → Option Int32 := fun t ls st u => none
set_option maxRecDepth 100000 in
theorem g_J9_min_7cf53_0 (F : Nat × Nat) (x0 : Int32) (x1 : Int32) : f_J9_min_7cf53_0 F x0 x1 = rx_node (C_J9_min_7cf53 F) rx_rI t_J9_min_7cf53 [] (kk_J9_min_7cf53_0 F) 10 0 [some (.int x0), some (.int x1)] [] none := rfl
def f_X5_fitting_0 (F : Nat × Nat) (x0 : Int64) (x2 : Int32) (x3 : Int32) (x4 : Int32) : Option Int64 :=
  (f_X0_below F (x2 + (1 : Int32))).bind fun v1 =>
  (f_X0_within F ((63 : Int32) - x4)).bind fun v2 =>
  some ((x0 &&& (v1 ^^^ (-1 : Int64))) &&& (v2 <<< (Int32.toInt64 x3 &&& 63)))
def f_X5_fitting (F : Nat × Nat) (x0 : Int64) (x2 : Int32) (x3 : Int32) (x4 : Int32) : Option Int64 := f_X5_fitting_0 F x0 x2 x3 x4
def c_X5_fitting {α : Type} (F : Nat × Nat) (as : List Value) (u : Option rx_H) (κ : rx_K α) : Option α := match as with
  | [.long a0, .int a1, .int a2, .int a3] => (f_X5_fitting F a0 a1 a2 a3).bind fun r => κ (some (.long r)) u
  | _ => none
noncomputable def C_X5_fitting {α : Type} (F : Nat × Nat) : rx_Cl α := fun j as u κ => Bool.rec (motive := fun _ => Option α) (Bool.rec (motive := fun _ => Option α) (none) (c_X0_within F as u κ) (Nat.beq j 30)) (c_X0_below F as u κ) (Nat.beq j 11)
def t_X5_fitting : List rx_E := [
  (0, .lload_n 0, 1, 0, 0, 0, 0, 0, []),
  (1, .iload_n 2, 1, 0, 0, 0, 0, 0, []),
  (2, .iconst 1, 1, 0, 0, 0, 1, 0, []),
  (3, .iadd, 1, 0, 0, 0, 0, 0, []),
  (4, .invokestatic 43, 3, 11, 1, 507, 0, 0, []),
  (7, .ldc2_w 47, 3, 0, 0, 508, 0, (-1), []),
  (10, .lxor, 1, 0, 0, 0, 0, 0, []),
  (11, .land, 1, 0, 0, 0, 0, 0, []),
  (12, .bipush 63, 2, 0, 0, 0, 63, 0, []),
  (14, .iload 4, 2, 0, 0, 0, 0, 0, []),
  (16, .isub, 1, 0, 0, 0, 0, 0, []),
  (17, .invokestatic 49, 3, 30, 1, 509, 0, 0, []),
  (20, .iload_n 3, 1, 0, 0, 0, 0, 0, []),
  (21, .lshl, 1, 0, 0, 0, 0, 0, []),
  (22, .land, 1, 0, 0, 0, 0, 0, []),
  (23, .lreturn, 1, 0, 0, 0, 0, 0, [])]
noncomputable def kk_X5_fitting_0 (F : Nat × Nat) : Nat → rx_L → List Value → Option rx_H → Option Int64 := fun t ls st u => none
set_option maxRecDepth 100000 in
theorem g_X5_fitting_0 (F : Nat × Nat) (x0 : Int64) (x2 : Int32) (x3 : Int32) (x4 : Int32) : f_X5_fitting_0 F x0 x2 x3 x4 = rx_node (C_X5_fitting F) rx_rJ t_X5_fitting [] (kk_X5_fitting_0 F) 19 0 [some (.long x0), none, some (.int x2), some (.int x3), some (.int x4)] [] none := rfl
def f_J9_max_7cf53_0 (F : Nat × Nat) (x0 : Int32) (x1 : Int32) : Option Int32 :=
  if x0 < x1 then
    some x1
  else
    some x0
def f_J9_max_7cf53 (F : Nat × Nat) (x0 : Int32) (x1 : Int32) : Option Int32 := f_J9_max_7cf53_0 F x0 x1
def c_J9_max_7cf53 {α : Type} (F : Nat × Nat) (as : List Value) (u : Option rx_H) (κ : rx_K α) : Option α := match as with
  | [.int a0, .int a1] => (f_J9_max_7cf53 F a0 a1).bind fun r => κ (some (.int r)) u
  | _ => none
noncomputable def C_J9_max_7cf53 {α : Type} (F : Nat × Nat) : rx_Cl α := fun j as u κ => none
def t_J9_max_7cf53 : List rx_E := [
  (0, .iload_n 0, 1, 0, 0, 0, 0, 0, []),
  (1, .iload_n 1, 1, 0, 0, 0, 0, 0, []),
  (2, .if_icmp .lt 7, 3, 9, 0, 0, 0, 0, []),
  (5, .iload_n 0, 1, 0, 0, 0, 0, 0, []),
  (6, .goto 4, 3, 10, 0, 0, 0, 0, []),
  (9, .iload_n 1, 1, 0, 0, 0, 0, 0, []),
  (10, .ireturn, 1, 0, 0, 0, 0, 0, [])]
noncomputable def kk_J9_max_7cf53_0 (F : Nat × Nat) : Nat → rx_L → List Value → Option rx_H → Option Int32 := fun t ls st u => none
set_option maxRecDepth 100000 in
theorem g_J9_max_7cf53_0 (F : Nat × Nat) (x0 : Int32) (x1 : Int32) : f_J9_max_7cf53_0 F x0 x1 = rx_node (C_J9_max_7cf53 F) rx_rI t_J9_max_7cf53 [] (kk_J9_max_7cf53_0 F) 10 0 [some (.int x0), some (.int x1)] [] none := rfl
def f_X5_near_41 (F : Nat × Nat) (k10 : Int64 → Int32 → Int32 → Int64 → Int32 → Option Int64) (x0 : Int64) (x2 : Int32) (x3 : Int32) (x4 : Int64) (x6 : Int32) : Option Int64 :=
  (f_X0_next F x0 (x6 + (1 : Int32))).bind fun v1 =>
  k10 x0 x2 x3 x4 v1
def f_X5_near_10 (F : Nat × Nat) : Nat → Int64 → Int32 → Int32 → Int64 → Int32 → Option Int64
  | 0, _, _, _, _, _ => none
  | f + 1, x0, x2, x3, x4, x6 =>
    if x6 < (64 : Int32) then
      (f_J6_bitCount_0f7a4 F (x6 &&& x2)).bind fun v1 =>
      if v1 < x3 then
        f_X5_near_41 F (f_X5_near_10 F f) x0 x2 x3 (x4 &&& (((1 : Int64) <<< (Int32.toInt64 x6 &&& 63)) ^^^ (-1 : Int64))) x6
      else
        f_X5_near_41 F (f_X5_near_10 F f) x0 x2 x3 x4 x6
    else
      some x4
def f_X5_near_0 (F : Nat × Nat) (x0 : Int64) (x2 : Int32) (x3 : Int32) : Option Int64 :=
  (f_X0_next F x0 (0 : Int32)).bind fun v1 =>
  f_X5_near_10 F F.1 x0 x2 x3 x0 v1
def f_X5_near (F : Nat × Nat) (x0 : Int64) (x2 : Int32) (x3 : Int32) : Option Int64 := f_X5_near_0 F x0 x2 x3
def c_X5_near {α : Type} (F : Nat × Nat) (as : List Value) (u : Option rx_H) (κ : rx_K α) : Option α := match as with
  | [.long a0, .int a1, .int a2] => (f_X5_near F a0 a1 a2).bind fun r => κ (some (.long r)) u
  | _ => none
noncomputable def C_X5_near {α : Type} (F : Nat × Nat) : rx_Cl α := fun j as u κ => Bool.rec (motive := fun _ => Option α) (Bool.rec (motive := fun _ => Option α) (none) (c_X0_next F as u κ) (Nat.beq j 23)) (c_J6_bitCount_0f7a4 F as u κ) (Nat.beq j 1)
def t_X5_near : List rx_E := [
  (0, .lload_n 0, 1, 0, 0, 0, 0, 0, []),
  (1, .lstore 4, 2, 0, 0, 0, 0, 0, []),
  (3, .lload_n 0, 1, 0, 0, 0, 0, 0, []),
  (4, .iconst 0, 1, 0, 0, 0, 0, 0, []),
  (5, .invokestatic 29, 3, 23, 2, 498, 0, 0, []),
  (8, .istore 6, 2, 0, 0, 0, 0, 0, []),
  (10, .iload 6, 2, 0, 0, 0, 0, 0, []),
  (12, .bipush 64, 2, 0, 0, 0, 64, 0, []),
  (14, .if_icmp .ge 40, 3, 54, 0, 0, 0, 0, []),
  (17, .iload 6, 2, 0, 0, 0, 0, 0, []),
  (19, .iload_n 2, 1, 0, 0, 0, 0, 0, []),
  (20, .iand, 1, 0, 0, 0, 0, 0, []),
  (21, .invokestatic 52, 3, 1, 1, 503, 0, 0, []),
  (24, .iload_n 3, 1, 0, 0, 0, 0, 0, []),
  (25, .if_icmp .ge 16, 3, 41, 0, 0, 0, 0, []),
  (28, .lload 4, 2, 0, 0, 0, 0, 0, []),
  (30, .lconst 1, 1, 0, 0, 0, 0, 1, []),
  (31, .iload 6, 2, 0, 0, 0, 0, 0, []),
  (33, .lshl, 1, 0, 0, 0, 0, 0, []),
  (34, .ldc2_w 47, 3, 0, 0, 508, 0, (-1), []),
  (37, .lxor, 1, 0, 0, 0, 0, 0, []),
  (38, .land, 1, 0, 0, 0, 0, 0, []),
  (39, .lstore 4, 2, 0, 0, 0, 0, 0, []),
  (41, .lload_n 0, 1, 0, 0, 0, 0, 0, []),
  (42, .iload 6, 2, 0, 0, 0, 0, 0, []),
  (44, .iconst 1, 1, 0, 0, 0, 1, 0, []),
  (45, .iadd, 1, 0, 0, 0, 0, 0, []),
  (46, .invokestatic 29, 3, 23, 2, 498, 0, 0, []),
  (49, .istore 6, 2, 0, 0, 0, 0, 0, []),
  (51, .goto (-41), 3, 10, 0, 0, 0, 0, []),
  (54, .lload 4, 2, 0, 0, 0, 0, 0, []),
  (56, .lreturn, 1, 0, 0, 0, 0, 0, [])]
def n_X5_near_10 (k10 : Int64 → Int32 → Int32 → Int64 → Int32 → Option Int64) (ls : rx_L) (st : List Value) (u : Option rx_H) : Option Int64 := match ls, st, u with
  | [some (.long x0), _, some (.int x2), some (.int x3), some (.long x4), _, some (.int x6)], [], none => k10 x0 x2 x3 x4 x6
  | _, _, _ => none
def n_X5_near_41 (F : Nat × Nat) (k10 : Int64 → Int32 → Int32 → Int64 → Int32 → Option Int64) (ls : rx_L) (st : List Value) (u : Option rx_H) : Option Int64 := match ls, st, u with
  | [some (.long x0), _, some (.int x2), some (.int x3), some (.long x4), _, some (.int x6)], [], none => f_X5_near_41 F k10 x0 x2 x3 x4 x6
  | _, _, _ => none
noncomputable def kk_X5_near_41 (F : Nat × Nat) (k10 : Int64 → Int32 → Int32 → Int64 → Int32 → Option Int64) : Nat → rx_L → List Value → Option rx_H → Option Int64 := fun t ls st u => Bool.rec (motive := fun _ => Option Int64) (none) (n_X5_near_10 k10 ls st u) (Nat.beq t 10)
noncomputable def kk_X5_near_10 (F : Nat × Nat) (k10 : Int64 → Int32 → Int32 → Int64 → Int32 → Option Int64) : Nat → rx_L → List Value → Option rx_H → Option Int64 := fun t ls st u => Bool.rec (motive := fun _ => Option Int64) (none) (n_X5_near_41 F k10 ls st u) (Nat.beq t 41)
noncomputable def kk_X5_near_0 (F : Nat × Nat) : Nat → rx_L → List Value → Option rx_H → Option Int64 := fun t ls st u => Bool.rec (motive := fun _ => Option Int64) (none) (n_X5_near_10 (f_X5_near_10 F F.1) ls st u) (Nat.beq t 10)
set_option maxRecDepth 100000 in
theorem g_X5_near_41 (F : Nat × Nat) (k10 : Int64 → Int32 → Int32 → Int64 → Int32 → Option Int64) (x0 : Int64) (x2 : Int32) (x3 : Int32) (x4 : Int64) (x6 : Int32) : f_X5_near_41 F k10 x0 x2 x3 x4 x6 = rx_node (C_X5_near F) rx_rJ t_X5_near [10, 41] (kk_X5_near_41 F k10) 35 41 [some (.long x0), none, some (.int x2), some (.int x3), some (.long x4), none, some (.int x6)] [] none := rfl
set_option maxRecDepth 100000 in
theorem g_X5_near_10 (F : Nat × Nat) (f : Nat) (x0 : Int64) (x2 : Int32) (x3 : Int32) (x4 : Int64) (x6 : Int32) : f_X5_near_10 F (f + 1) x0 x2 x3 x4 x6 = rx_node (C_X5_near F) rx_rJ t_X5_near [10, 41] (kk_X5_near_10 F (f_X5_near_10 F f)) 35 10 [some (.long x0), none, some (.int x2), some (.int x3), some (.long x4), none, some (.int x6)] [] none := rfl
set_option maxRecDepth 100000 in
theorem g_X5_near_0 (F : Nat × Nat) (x0 : Int64) (x2 : Int32) (x3 : Int32) : f_X5_near_0 F x0 x2 x3 = rx_node (C_X5_near F) rx_rJ t_X5_near [10, 41] (kk_X5_near_0 F) 35 0 [some (.long x0), none, some (.int x2), some (.int x3), none, none, none] [] none := rfl
def f_X5_largest_19 (F : Nat × Nat) (self : Int64 → Int64 → Int64 → Int32 → Int32 → Option Int64) (x0 : Int64) (x4 : Int64) (x8 : Int32) : Option Int64 :=
  (f_X0_size F x4).bind fun v1 =>
  if v1 < x8 then
    some x0
  else
    some x4
def f_X5_largest_0 (F : Nat × Nat) (self : Int64 → Int64 → Int64 → Int32 → Int32 → Option Int64) (x0 : Int64) (x2 : Int64) (x4 : Int64) (x6 : Int32) (x7 : Int32) : Option Int64 :=
  (f_X0_size F x0).bind fun v1 =>
  if x2 = (0 : Int64) then
    f_X5_largest_19 F self x0 x4 v1
  else
    if (20 : Int32) < x7 then
      f_X5_largest_19 F self x0 x4 v1
    else
      (f_X0_size F x2).bind fun v2 =>
      (f_X0_size F x4).bind fun v3 =>
      if v3 < v1 + v2 then
        (f_X0_next F x2 (0 : Int32)).bind fun v4 =>
        (f_X5_near F (x2 &&& (x2 - (1 : Int64))) v4 x6).bind fun v5 =>
        (self (x0 ||| ((1 : Int64) <<< (Int32.toInt64 v4 &&& 63))) v5 x4 x6 (x7 + (1 : Int32))).bind fun v6 =>
        (self x0 (x2 &&& (x2 - (1 : Int64))) v6 x6 (x7 + (1 : Int32))).bind fun v7 =>
        some v7
      else
        some x4
def f_X5_largest (F : Nat × Nat) : Nat → Int64 → Int64 → Int64 → Int32 → Int32 → Option Int64
  | 0, _, _, _, _, _ => none
  | d + 1, x0, x2, x4, x6, x7 => f_X5_largest_0 F (f_X5_largest F d) x0 x2 x4 x6 x7
def c_X5_largest {α : Type} (F : Nat × Nat) (d : Nat) (as : List Value) (u : Option rx_H) (κ : rx_K α) : Option α := match as with
  | [.long a0, .long a1, .long a2, .int a3, .int a4] => (f_X5_largest F d a0 a1 a2 a3 a4).bind fun r => κ (some (.long r)) u
  | _ => none
noncomputable def C_X5_largest {α : Type} (F : Nat × Nat) (d : Nat) : rx_Cl α := fun j as u κ => Bool.rec (motive := fun _ => Option α) (Bool.rec (motive := fun _ => Option α) (Bool.rec (motive := fun _ => Option α) (Bool.rec (motive := fun _ => Option α) (none) (c_X5_near F as u κ) (Nat.beq j 74)) (c_X5_largest F d as u κ) (Nat.beq j 72)) (c_X0_size F as u κ) (Nat.beq j 28)) (c_X0_next F as u κ) (Nat.beq j 23)
def t_X5_largest : List rx_E := [
  (0, .lload_n 0, 1, 0, 0, 0, 0, 0, []),
  (1, .invokestatic 79, 3, 28, 1, 560, 0, 0, []),
  (4, .istore 8, 2, 0, 0, 0, 0, 0, []),
  (6, .lload_n 2, 1, 0, 0, 0, 0, 0, []),
  (7, .lconst 0, 1, 0, 0, 0, 0, 0, []),
  (8, .lcmp, 1, 0, 0, 0, 0, 0, []),
  (9, .ifCond .eq 10, 3, 19, 0, 0, 0, 0, []),
  (12, .iload 7, 2, 0, 0, 0, 0, 0, []),
  (14, .bipush 20, 2, 0, 0, 0, 20, 0, []),
  (16, .if_icmp .le 20, 3, 36, 0, 0, 0, 0, []),
  (19, .iload 8, 2, 0, 0, 0, 0, 0, []),
  (21, .lload 4, 2, 0, 0, 0, 0, 0, []),
  (23, .invokestatic 79, 3, 28, 1, 560, 0, 0, []),
  (26, .if_icmp .le 7, 3, 33, 0, 0, 0, 0, []),
  (29, .lload_n 0, 1, 0, 0, 0, 0, 0, []),
  (30, .goto 5, 3, 35, 0, 0, 0, 0, []),
  (33, .lload 4, 2, 0, 0, 0, 0, 0, []),
  (35, .lreturn, 1, 0, 0, 0, 0, 0, []),
  (36, .iload 8, 2, 0, 0, 0, 0, 0, []),
  (38, .lload_n 2, 1, 0, 0, 0, 0, 0, []),
  (39, .invokestatic 79, 3, 28, 1, 560, 0, 0, []),
  (42, .iadd, 1, 0, 0, 0, 0, 0, []),
  (43, .lload 4, 2, 0, 0, 0, 0, 0, []),
  (45, .invokestatic 79, 3, 28, 1, 560, 0, 0, []),
  (48, .if_icmp .gt 6, 3, 54, 0, 0, 0, 0, []),
  (51, .lload 4, 2, 0, 0, 0, 0, 0, []),
  (53, .lreturn, 1, 0, 0, 0, 0, 0, []),
  (54, .lload_n 2, 1, 0, 0, 0, 0, 0, []),
  (55, .iconst 0, 1, 0, 0, 0, 0, 0, []),
  (56, .invokestatic 29, 3, 23, 2, 498, 0, 0, []),
  (59, .istore 9, 2, 0, 0, 0, 0, 0, []),
  (61, .lload_n 2, 1, 0, 0, 0, 0, 0, []),
  (62, .lload_n 2, 1, 0, 0, 0, 0, 0, []),
  (63, .lconst 1, 1, 0, 0, 0, 0, 1, []),
  (64, .lsub, 1, 0, 0, 0, 0, 0, []),
  (65, .land, 1, 0, 0, 0, 0, 0, []),
  (66, .lstore 10, 2, 0, 0, 0, 0, 0, []),
  (68, .lload_n 0, 1, 0, 0, 0, 0, 0, []),
  (69, .lconst 1, 1, 0, 0, 0, 0, 1, []),
  (70, .iload 9, 2, 0, 0, 0, 0, 0, []),
  (72, .lshl, 1, 0, 0, 0, 0, 0, []),
  (73, .lor, 1, 0, 0, 0, 0, 0, []),
  (74, .lload 10, 2, 0, 0, 0, 0, 0, []),
  (76, .iload 9, 2, 0, 0, 0, 0, 0, []),
  (78, .iload 6, 2, 0, 0, 0, 0, 0, []),
  (80, .invokestatic 83, 3, 74, 3, 561, 0, 0, []),
  (83, .lload 4, 2, 0, 0, 0, 0, 0, []),
  (85, .iload 6, 2, 0, 0, 0, 0, 0, []),
  (87, .iload 7, 2, 0, 0, 0, 0, 0, []),
  (89, .iconst 1, 1, 0, 0, 0, 1, 0, []),
  (90, .iadd, 1, 0, 0, 0, 0, 0, []),
  (91, .invokestatic 75, 3, 72, 5, 557, 0, 0, []),
  (94, .lstore 12, 2, 0, 0, 0, 0, 0, []),
  (96, .lload_n 0, 1, 0, 0, 0, 0, 0, []),
  (97, .lload 10, 2, 0, 0, 0, 0, 0, []),
  (99, .lload 12, 2, 0, 0, 0, 0, 0, []),
  (101, .iload 6, 2, 0, 0, 0, 0, 0, []),
  (103, .iload 7, 2, 0, 0, 0, 0, 0, []),
  (105, .iconst 1, 1, 0, 0, 0, 1, 0, []),
  (106, .iadd, 1, 0, 0, 0, 0, 0, []),
  (107, .invokestatic 75, 3, 72, 5, 557, 0, 0, []),
  (110, .lreturn, 1, 0, 0, 0, 0, 0, [])]
def n_X5_largest_19 (F : Nat × Nat) (self : Int64 → Int64 → Int64 → Int32 → Int32 → Option Int64) (ls : rx_L) (st : List Value) (u : Option rx_H) : Option Int64 := match ls, st, u with
  | [some (.long x0), _, _, _, some (.long x4), _, _, _, some (.int x8), _, _, _, _, _], [], none => f_X5_largest_19 F self x0 x4 x8
  | _, _, _ => none
noncomputable def kk_X5_largest_19 (F : Nat × Nat) (self : Int64 → Int64 → Int64 → Int32 → Int32 → Option Int64) : Nat → rx_L → List Value → Option rx_H → Option Int64 := fun t ls st u => none
noncomputable def kk_X5_largest_0 (F : Nat × Nat) (self : Int64 → Int64 → Int64 → Int32 → Int32 → Option Int64) : Nat → rx_L → List Value → Option rx_H → Option Int64 := fun t ls st u => Bool.rec (motive := fun _ => Option Int64) (none) (n_X5_largest_19 F self ls st u) (Nat.beq t 19)
set_option maxRecDepth 100000 in
theorem g_X5_largest_19 (F : Nat × Nat) (d : Nat) (x0 : Int64) (x4 : Int64) (x8 : Int32) : f_X5_largest_19 F (f_X5_largest F d) x0 x4 x8 = rx_node (C_X5_largest F d) rx_rJ t_X5_largest [19] (kk_X5_largest_19 F (f_X5_largest F d)) 65 19 [some (.long x0), none, none, none, some (.long x4), none, none, none, some (.int x8), none, none, none, none, none] [] none := rfl
set_option maxRecDepth 100000 in
theorem g_X5_largest_0 (F : Nat × Nat) (d : Nat) (x0 : Int64) (x2 : Int64) (x4 : Int64) (x6 : Int32) (x7 : Int32) : f_X5_largest_0 F (f_X5_largest F d) x0 x2 x4 x6 x7 = rx_node (C_X5_largest F d) rx_rJ t_X5_largest [19] (kk_X5_largest_0 F (f_X5_largest F d)) 65 0 [some (.long x0), none, some (.long x2), none, some (.long x4), none, some (.int x6), some (.int x7), none, none, none, none, none, none] [] none := rfl
def f_J9_floorMod_7cf53_0 (F : Nat × Nat) (x0 : Int32) (x1 : Int32) : Option Int32 :=
  if x1 = 0 then
    none
  else
    if x0 ^^^ x1 < 0 then
      if x0 - x0 / x1 * x1 = 0 then
        some (x0 - x0 / x1 * x1)
      else
        some ((x0 - x0 / x1 * x1) + x1)
    else
      some (x0 - x0 / x1 * x1)
def f_J9_floorMod_7cf53 (F : Nat × Nat) (x0 : Int32) (x1 : Int32) : Option Int32 := f_J9_floorMod_7cf53_0 F x0 x1
def c_J9_floorMod_7cf53 {α : Type} (F : Nat × Nat) (as : List Value) (u : Option rx_H) (κ : rx_K α) : Option α := match as with
  | [.int a0, .int a1] => (f_J9_floorMod_7cf53 F a0 a1).bind fun r => κ (some (.int r)) u
  | _ => none
noncomputable def C_J9_floorMod_7cf53 {α : Type} (F : Nat × Nat) : rx_Cl α := fun j as u κ => none
def t_J9_floorMod_7cf53 : List rx_E := [
  (0, .iload_n 0, 1, 0, 0, 0, 0, 0, []),
  (1, .iload_n 1, 1, 0, 0, 0, 0, 0, []),
  (2, .irem, 1, 0, 0, 0, 0, 0, []),
  (3, .istore_n 2, 1, 0, 0, 0, 0, 0, []),
  (4, .iload_n 0, 1, 0, 0, 0, 0, 0, []),
  (5, .iload_n 1, 1, 0, 0, 0, 0, 0, []),
  (6, .ixor, 1, 0, 0, 0, 0, 0, []),
  (7, .ifCond .ge 11, 3, 18, 0, 0, 0, 0, []),
  (10, .iload_n 2, 1, 0, 0, 0, 0, 0, []),
  (11, .ifCond .eq 7, 3, 18, 0, 0, 0, 0, []),
  (14, .iload_n 2, 1, 0, 0, 0, 0, 0, []),
  (15, .iload_n 1, 1, 0, 0, 0, 0, 0, []),
  (16, .iadd, 1, 0, 0, 0, 0, 0, []),
  (17, .ireturn, 1, 0, 0, 0, 0, 0, []),
  (18, .iload_n 2, 1, 0, 0, 0, 0, 0, []),
  (19, .ireturn, 1, 0, 0, 0, 0, 0, [])]
noncomputable def kk_J9_floorMod_7cf53_0 (F : Nat × Nat) : Nat → rx_L → List Value → Option rx_H → Option Int32 := fun t ls st u => none
set_option maxRecDepth 100000 in
theorem g_J9_floorMod_7cf53_0 (F : Nat × Nat) (x0 : Int32) (x1 : Int32) : f_J9_floorMod_7cf53_0 F x0 x1 = rx_node (C_J9_floorMod_7cf53 F) rx_rI t_J9_floorMod_7cf53 [] (kk_J9_floorMod_7cf53_0 F) 19 0 [some (.int x0), some (.int x1), none] [] none := rfl
def f_X6_isPlace_0 (F : Nat × Nat) (x1 : Int32) : Option Int32 :=
  if x1 < 0 then
    some (0 : Int32)
  else
    if x1 < (16 : Int32) then
      some (1 : Int32)
    else
      some (0 : Int32)
def f_X6_isPlace (F : Nat × Nat) (x0 : Nat) (x1 : Int32) : Option Int32 := f_X6_isPlace_0 F x1
def c_X6_isPlace {α : Type} (F : Nat × Nat) (as : List Value) (u : Option rx_H) (κ : rx_K α) : Option α := match as with
  | [.ref a0, .int a1] => (f_X6_isPlace F a0 a1).bind fun r => κ (some (.int r)) u
  | _ => none
noncomputable def C_X6_isPlace {α : Type} (F : Nat × Nat) : rx_Cl α := fun j as u κ => none
def t_X6_isPlace : List rx_E := [
  (0, .iload_n 1, 1, 0, 0, 0, 0, 0, []),
  (1, .ifCond .lt 13, 3, 14, 0, 0, 0, 0, []),
  (4, .iload_n 1, 1, 0, 0, 0, 0, 0, []),
  (5, .bipush 16, 2, 0, 0, 0, 16, 0, []),
  (7, .if_icmp .ge 7, 3, 14, 0, 0, 0, 0, []),
  (10, .iconst 1, 1, 0, 0, 0, 1, 0, []),
  (11, .goto 4, 3, 15, 0, 0, 0, 0, []),
  (14, .iconst 0, 1, 0, 0, 0, 0, 0, []),
  (15, .ireturn, 1, 0, 2, 0, 0, 0, [])]
noncomputable def kk_X6_isPlace_0 (F : Nat × Nat) : Nat → rx_L → List Value → Option rx_H → Option Int32 := fun t ls st u => none
set_option maxRecDepth 100000 in
theorem g_X6_isPlace_0 (F : Nat × Nat) (x1 : Int32) : f_X6_isPlace_0 F x1 = rx_node (C_X6_isPlace F) rx_rI t_X6_isPlace [] (kk_X6_isPlace_0 F) 12 0 [none, some (.int x1)] [] none := rfl
def f_X6_cascade_0 (F : Nat × Nat) (x1 : Int32) (x2 : Int32) (x3 : Int32) : Option Int32 :=
  (f_X2_cascades F x1 x2).bind fun v1 =>
  if v1 = 0 then
    some (-1 : Int32)
  else
    if x3 < 0 then
      some (-1 : Int32)
    else
      (f_X2_cascadeNumber F x1 x2 x3).bind fun v2 =>
      some v2
def f_X6_cascade (F : Nat × Nat) (x0 : Nat) (x1 : Int32) (x2 : Int32) (x3 : Int32) : Option Int32 := f_X6_cascade_0 F x1 x2 x3
def c_X6_cascade {α : Type} (F : Nat × Nat) (as : List Value) (u : Option rx_H) (κ : rx_K α) : Option α := match as with
  | [.ref a0, .int a1, .int a2, .int a3] => (f_X6_cascade F a0 a1 a2 a3).bind fun r => κ (some (.int r)) u
  | _ => none
noncomputable def C_X6_cascade {α : Type} (F : Nat × Nat) : rx_Cl α := fun j as u κ => Bool.rec (motive := fun _ => Option α) (Bool.rec (motive := fun _ => Option α) (none) (c_X2_cascades F as u κ) (Nat.beq j 46)) (c_X2_cascadeNumber F as u κ) (Nat.beq j 44)
def t_X6_cascade : List rx_E := [
  (0, .iload_n 1, 1, 0, 0, 0, 0, 0, []),
  (1, .iload_n 2, 1, 0, 0, 0, 0, 0, []),
  (2, .invokestatic 183, 3, 46, 2, 440, 0, 0, []),
  (5, .ifCond .eq 7, 3, 12, 0, 0, 0, 0, []),
  (8, .iload_n 3, 1, 0, 0, 0, 0, 0, []),
  (9, .ifCond .ge 5, 3, 14, 0, 0, 0, 0, []),
  (12, .iconst (-1), 1, 0, 0, 0, (-1), 0, []),
  (13, .ireturn, 1, 0, 0, 0, 0, 0, []),
  (14, .iload_n 1, 1, 0, 0, 0, 0, 0, []),
  (15, .iload_n 2, 1, 0, 0, 0, 0, 0, []),
  (16, .iload_n 3, 1, 0, 0, 0, 0, 0, []),
  (17, .invokestatic 186, 3, 44, 3, 443, 0, 0, []),
  (20, .ireturn, 1, 0, 0, 0, 0, 0, [])]
noncomputable def kk_X6_cascade_0 (F : Nat × Nat) : Nat → rx_L → List Value → Option rx_H → Option Int32 := fun t ls st u => none
set_option maxRecDepth 100000 in
theorem g_X6_cascade_0 (F : Nat × Nat) (x1 : Int32) (x2 : Int32) (x3 : Int32) : f_X6_cascade_0 F x1 x2 x3 = rx_node (C_X6_cascade F) rx_rI t_X6_cascade [] (kk_X6_cascade_0 F) 16 0 [none, some (.int x1), some (.int x2), some (.int x3)] [] none := rfl
def f_X6_least_0 (F : Nat × Nat) (x1 : Int32) (x2 : Int32) : Option Int32 :=
  (f_X2_cascades F x1 x2).bind fun v1 =>
  if v1 = 0 then
    some (-1 : Int32)
  else
    (f_X2_leastShadow F x1 x2).bind fun v2 =>
    some v2
def f_X6_least (F : Nat × Nat) (x0 : Nat) (x1 : Int32) (x2 : Int32) : Option Int32 := f_X6_least_0 F x1 x2
def c_X6_least {α : Type} (F : Nat × Nat) (as : List Value) (u : Option rx_H) (κ : rx_K α) : Option α := match as with
  | [.ref a0, .int a1, .int a2] => (f_X6_least F a0 a1 a2).bind fun r => κ (some (.int r)) u
  | _ => none
noncomputable def C_X6_least {α : Type} (F : Nat × Nat) : rx_Cl α := fun j as u κ => Bool.rec (motive := fun _ => Option α) (Bool.rec (motive := fun _ => Option α) (none) (c_X2_leastShadow F as u κ) (Nat.beq j 49)) (c_X2_cascades F as u κ) (Nat.beq j 46)
def t_X6_least : List rx_E := [
  (0, .iload_n 1, 1, 0, 0, 0, 0, 0, []),
  (1, .iload_n 2, 1, 0, 0, 0, 0, 0, []),
  (2, .invokestatic 183, 3, 46, 2, 440, 0, 0, []),
  (5, .ifCond .eq 11, 3, 16, 0, 0, 0, 0, []),
  (8, .iload_n 1, 1, 0, 0, 0, 0, 0, []),
  (9, .iload_n 2, 1, 0, 0, 0, 0, 0, []),
  (10, .invokestatic 190, 3, 49, 2, 456, 0, 0, []),
  (13, .goto 4, 3, 17, 0, 0, 0, 0, []),
  (16, .iconst (-1), 1, 0, 0, 0, (-1), 0, []),
  (17, .ireturn, 1, 0, 0, 0, 0, 0, [])]
noncomputable def kk_X6_least_0 (F : Nat × Nat) : Nat → rx_L → List Value → Option rx_H → Option Int32 := fun t ls st u => none
set_option maxRecDepth 100000 in
theorem g_X6_least_0 (F : Nat × Nat) (x1 : Int32) (x2 : Int32) : f_X6_least_0 F x1 x2 = rx_node (C_X6_least F) rx_rI t_X6_least [] (kk_X6_least_0 F) 13 0 [none, some (.int x1), some (.int x2)] [] none := rfl
def f_X7_isIn_0 (F : Nat × Nat) (x0 : Int32) (x1 : Int32) (x2 : Int32) : Option Int32 :=
  if x0 < x1 then
    some (0 : Int32)
  else
    if x2 < x0 then
      some (0 : Int32)
    else
      some (1 : Int32)
def f_X7_isIn (F : Nat × Nat) (x0 : Int32) (x1 : Int32) (x2 : Int32) : Option Int32 := f_X7_isIn_0 F x0 x1 x2
def c_X7_isIn {α : Type} (F : Nat × Nat) (as : List Value) (u : Option rx_H) (κ : rx_K α) : Option α := match as with
  | [.int a0, .int a1, .int a2] => (f_X7_isIn F a0 a1 a2).bind fun r => κ (some (.int r)) u
  | _ => none
noncomputable def C_X7_isIn {α : Type} (F : Nat × Nat) : rx_Cl α := fun j as u κ => none
def t_X7_isIn : List rx_E := [
  (0, .iload_n 0, 1, 0, 0, 0, 0, 0, []),
  (1, .iload_n 1, 1, 0, 0, 0, 0, 0, []),
  (2, .if_icmp .lt 12, 3, 14, 0, 0, 0, 0, []),
  (5, .iload_n 0, 1, 0, 0, 0, 0, 0, []),
  (6, .iload_n 2, 1, 0, 0, 0, 0, 0, []),
  (7, .if_icmp .gt 7, 3, 14, 0, 0, 0, 0, []),
  (10, .iconst 1, 1, 0, 0, 0, 1, 0, []),
  (11, .goto 4, 3, 15, 0, 0, 0, 0, []),
  (14, .iconst 0, 1, 0, 0, 0, 0, 0, []),
  (15, .ireturn, 1, 0, 2, 0, 0, 0, [])]
noncomputable def kk_X7_isIn_0 (F : Nat × Nat) : Nat → rx_L → List Value → Option rx_H → Option Int32 := fun t ls st u => none
set_option maxRecDepth 100000 in
theorem g_X7_isIn_0 (F : Nat × Nat) (x0 : Int32) (x1 : Int32) (x2 : Int32) : f_X7_isIn_0 F x0 x1 x2 = rx_node (C_X7_isIn F) rx_rI t_X7_isIn [] (kk_X7_isIn_0 F) 13 0 [some (.int x0), some (.int x1), some (.int x2)] [] none := rfl
def f_X7_ones_4 (F : Nat × Nat) : Nat → Int32 → Int32 → Option Int32
  | 0, _, _ => none
  | f + 1, x1, x2 =>
    if 0 < x2 then
      (f_X7_ones_4 F f) (x1 + (x2 - x2 / (2 : Int32) * (2 : Int32))) (x2 / (2 : Int32))
    else
      some x1
def f_X7_ones_0 (F : Nat × Nat) (x0 : Int32) : Option Int32 :=
  f_X7_ones_4 F F.1 (0 : Int32) x0
def f_X7_ones (F : Nat × Nat) (x0 : Int32) : Option Int32 := f_X7_ones_0 F x0
def c_X7_ones {α : Type} (F : Nat × Nat) (as : List Value) (u : Option rx_H) (κ : rx_K α) : Option α := match as with
  | [.int a0] => (f_X7_ones F a0).bind fun r => κ (some (.int r)) u
  | _ => none
noncomputable def C_X7_ones {α : Type} (F : Nat × Nat) : rx_Cl α := fun j as u κ => none
def t_X7_ones : List rx_E := [
  (0, .iconst 0, 1, 0, 0, 0, 0, 0, []),
  (1, .istore_n 1, 1, 0, 0, 0, 0, 0, []),
  (2, .iload_n 0, 1, 0, 0, 0, 0, 0, []),
  (3, .istore_n 2, 1, 0, 0, 0, 0, 0, []),
  (4, .iload_n 2, 1, 0, 0, 0, 0, 0, []),
  (5, .ifCond .le 16, 3, 21, 0, 0, 0, 0, []),
  (8, .iload_n 1, 1, 0, 0, 0, 0, 0, []),
  (9, .iload_n 2, 1, 0, 0, 0, 0, 0, []),
  (10, .iconst 2, 1, 0, 0, 0, 2, 0, []),
  (11, .irem, 1, 0, 1, 0, 0, 0, []),
  (12, .iadd, 1, 0, 0, 0, 0, 0, []),
  (13, .istore_n 1, 1, 0, 0, 0, 0, 0, []),
  (14, .iload_n 2, 1, 0, 0, 0, 0, 0, []),
  (15, .iconst 2, 1, 0, 0, 0, 2, 0, []),
  (16, .idiv, 1, 0, 1, 0, 0, 0, []),
  (17, .istore_n 2, 1, 0, 0, 0, 0, 0, []),
  (18, .goto (-14), 3, 4, 0, 0, 0, 0, []),
  (21, .iload_n 1, 1, 0, 0, 0, 0, 0, []),
  (22, .ireturn, 1, 0, 0, 0, 0, 0, [])]
def n_X7_ones_4 (k4 : Int32 → Int32 → Option Int32) (ls : rx_L) (st : List Value) (u : Option rx_H) : Option Int32 := match ls, st, u with
  | [_, some (.int x1), some (.int x2)], [], none => k4 x1 x2
  | _, _, _ => none
noncomputable def kk_X7_ones_4 (F : Nat × Nat) (k4 : Int32 → Int32 → Option Int32) : Nat → rx_L → List Value → Option rx_H → Option Int32 := fun t ls st u => Bool.rec (motive := fun _ => Option Int32) (none) (n_X7_ones_4 k4 ls st u) (Nat.beq t 4)
noncomputable def kk_X7_ones_0 (F : Nat × Nat) : Nat → rx_L → List Value → Option rx_H → Option Int32 := fun t ls st u => Bool.rec (motive := fun _ => Option Int32) (none) (n_X7_ones_4 (f_X7_ones_4 F F.1) ls st u) (Nat.beq t 4)
set_option maxRecDepth 100000 in
theorem g_X7_ones_4 (F : Nat × Nat) (f : Nat) (x1 : Int32) (x2 : Int32) : f_X7_ones_4 F (f + 1) x1 x2 = rx_node (C_X7_ones F) rx_rI t_X7_ones [4] (kk_X7_ones_4 F (f_X7_ones_4 F f)) 22 4 [none, some (.int x1), some (.int x2)] [] none := rfl
set_option maxRecDepth 100000 in
theorem g_X7_ones_0 (F : Nat × Nat) (x0 : Int32) : f_X7_ones_0 F x0 = rx_node (C_X7_ones F) rx_rI t_X7_ones [4] (kk_X7_ones_0 F) 22 0 [some (.int x0), none, none] [] none := rfl
def f_X7_many_4 (F : Nat × Nat) : Nat → Int64 → Int32 → Int32 → Option Int32
  | 0, _, _, _ => none
  | f + 1, x0, x2, x3 =>
    if x3 < (64 : Int32) then
      (f_X7_many_4 F f) x0 (x2 + (Int64.toInt32 (((Int64.toUInt64 x0 >>> ((Int32.toInt64 x3).toUInt64 &&& Int64.toUInt64 63)).toInt64) &&& (1 : Int64)))) (x3 + 1)
    else
      some x2
def f_X7_many_0 (F : Nat × Nat) (x0 : Int64) : Option Int32 :=
  f_X7_many_4 F F.1 x0 (0 : Int32) (0 : Int32)
def f_X7_many (F : Nat × Nat) (x0 : Int64) : Option Int32 := f_X7_many_0 F x0
def c_X7_many {α : Type} (F : Nat × Nat) (as : List Value) (u : Option rx_H) (κ : rx_K α) : Option α := match as with
  | [.long a0] => (f_X7_many F a0).bind fun r => κ (some (.int r)) u
  | _ => none
noncomputable def C_X7_many {α : Type} (F : Nat × Nat) : rx_Cl α := fun j as u κ => none
def t_X7_many : List rx_E := [
  (0, .iconst 0, 1, 0, 0, 0, 0, 0, []),
  (1, .istore_n 2, 1, 0, 0, 0, 0, 0, []),
  (2, .iconst 0, 1, 0, 0, 0, 0, 0, []),
  (3, .istore_n 3, 1, 0, 0, 0, 0, 0, []),
  (4, .iload_n 3, 1, 0, 0, 0, 0, 0, []),
  (5, .bipush 64, 2, 0, 0, 0, 64, 0, []),
  (7, .if_icmp .ge 18, 3, 25, 0, 0, 0, 0, []),
  (10, .iload_n 2, 1, 0, 0, 0, 0, 0, []),
  (11, .lload_n 0, 1, 0, 0, 0, 0, 0, []),
  (12, .iload_n 3, 1, 0, 0, 0, 0, 0, []),
  (13, .lushr, 1, 0, 0, 0, 0, 0, []),
  (14, .lconst 1, 1, 0, 0, 0, 0, 1, []),
  (15, .land, 1, 0, 0, 0, 0, 0, []),
  (16, .l2i, 1, 0, 0, 0, 0, 0, []),
  (17, .iadd, 1, 0, 0, 0, 0, 0, []),
  (18, .istore_n 2, 1, 0, 0, 0, 0, 0, []),
  (19, .iinc 3 1, 3, 0, 0, 0, 1, 0, []),
  (22, .goto (-18), 3, 4, 0, 0, 0, 0, []),
  (25, .iload_n 2, 1, 0, 0, 0, 0, 0, []),
  (26, .ireturn, 1, 0, 0, 0, 0, 0, [])]
def n_X7_many_4 (k4 : Int64 → Int32 → Int32 → Option Int32) (ls : rx_L) (st : List Value) (u : Option rx_H) : Option Int32 := match ls, st, u with
  | [some (.long x0), _, some (.int x2), some (.int x3)], [], none => k4 x0 x2 x3
  | _, _, _ => none
noncomputable def kk_X7_many_4 (F : Nat × Nat) (k4 : Int64 → Int32 → Int32 → Option Int32) : Nat → rx_L → List Value → Option rx_H → Option Int32 := fun t ls st u => Bool.rec (motive := fun _ => Option Int32) (none) (n_X7_many_4 k4 ls st u) (Nat.beq t 4)
noncomputable def kk_X7_many_0 (F : Nat × Nat) : Nat → rx_L → List Value → Option rx_H → Option Int32 := fun t ls st u => Bool.rec (motive := fun _ => Option Int32) (none) (n_X7_many_4 (f_X7_many_4 F F.1) ls st u) (Nat.beq t 4)
set_option maxRecDepth 100000 in
theorem g_X7_many_4 (F : Nat × Nat) (f : Nat) (x0 : Int64) (x2 : Int32) (x3 : Int32) : f_X7_many_4 F (f + 1) x0 x2 x3 = rx_node (C_X7_many F) rx_rI t_X7_many [4] (kk_X7_many_4 F (f_X7_many_4 F f)) 23 4 [some (.long x0), none, some (.int x2), some (.int x3)] [] none := rfl
set_option maxRecDepth 100000 in
theorem g_X7_many_0 (F : Nat × Nat) (x0 : Int64) : f_X7_many_0 F x0 = rx_node (C_X7_many F) rx_rI t_X7_many [4] (kk_X7_many_0 F) 23 0 [some (.long x0), none, none, none] [] none := rfl
def f_X7_has_0 (F : Nat × Nat) (x0 : Int64) (x2 : Int32) : Option Int32 :=
  if ((Int64.toUInt64 x0 >>> ((Int32.toInt64 x2).toUInt64 &&& Int64.toUInt64 63)).toInt64) &&& (1 : Int64) = (1 : Int64) then
    some (1 : Int32)
  else
    some (0 : Int32)
def f_X7_has (F : Nat × Nat) (x0 : Int64) (x2 : Int32) : Option Int32 := f_X7_has_0 F x0 x2
def c_X7_has {α : Type} (F : Nat × Nat) (as : List Value) (u : Option rx_H) (κ : rx_K α) : Option α := match as with
  | [.long a0, .int a1] => (f_X7_has F a0 a1).bind fun r => κ (some (.int r)) u
  | _ => none
noncomputable def C_X7_has {α : Type} (F : Nat × Nat) : rx_Cl α := fun j as u κ => none
def t_X7_has : List rx_E := [
  (0, .lload_n 0, 1, 0, 0, 0, 0, 0, []),
  (1, .iload_n 2, 1, 0, 0, 0, 0, 0, []),
  (2, .lushr, 1, 0, 0, 0, 0, 0, []),
  (3, .lconst 1, 1, 0, 0, 0, 0, 1, []),
  (4, .land, 1, 0, 0, 0, 0, 0, []),
  (5, .lconst 1, 1, 0, 0, 0, 0, 1, []),
  (6, .lcmp, 1, 0, 0, 0, 0, 0, []),
  (7, .ifCond .ne 7, 3, 14, 0, 0, 0, 0, []),
  (10, .iconst 1, 1, 0, 0, 0, 1, 0, []),
  (11, .goto 4, 3, 15, 0, 0, 0, 0, []),
  (14, .iconst 0, 1, 0, 0, 0, 0, 0, []),
  (15, .ireturn, 1, 0, 2, 0, 0, 0, [])]
noncomputable def kk_X7_has_0 (F : Nat × Nat) : Nat → rx_L → List Value → Option rx_H → Option Int32 := fun t ls st u => none
set_option maxRecDepth 100000 in
theorem g_X7_has_0 (F : Nat × Nat) (x0 : Int64) (x2 : Int32) : f_X7_has_0 F x0 x2 = rx_node (C_X7_has F) rx_rI t_X7_has [] (kk_X7_has_0 F) 15 0 [some (.long x0), none, some (.int x2)] [] none := rfl
def f_X7_isWithin_0 (F : Nat × Nat) (x0 : Int32) (x1 : Int32) : Option Int32 :=
  if x0 &&& (x1 ^^^ (-1 : Int32)) = 0 then
    some (1 : Int32)
  else
    some (0 : Int32)
def f_X7_isWithin (F : Nat × Nat) (x0 : Int32) (x1 : Int32) : Option Int32 := f_X7_isWithin_0 F x0 x1
def c_X7_isWithin {α : Type} (F : Nat × Nat) (as : List Value) (u : Option rx_H) (κ : rx_K α) : Option α := match as with
  | [.int a0, .int a1] => (f_X7_isWithin F a0 a1).bind fun r => κ (some (.int r)) u
  | _ => none
noncomputable def C_X7_isWithin {α : Type} (F : Nat × Nat) : rx_Cl α := fun j as u κ => none
def t_X7_isWithin : List rx_E := [
  (0, .iload_n 0, 1, 0, 0, 0, 0, 0, []),
  (1, .iload_n 1, 1, 0, 0, 0, 0, 0, []),
  (2, .iconst (-1), 1, 0, 0, 0, (-1), 0, []),
  (3, .ixor, 1, 0, 0, 0, 0, 0, []),
  (4, .iand, 1, 0, 0, 0, 0, 0, []),
  (5, .ifCond .ne 7, 3, 12, 0, 0, 0, 0, []),
  (8, .iconst 1, 1, 0, 0, 0, 1, 0, []),
  (9, .goto 4, 3, 13, 0, 0, 0, 0, []),
  (12, .iconst 0, 1, 0, 0, 0, 0, 0, []),
  (13, .ireturn, 1, 0, 2, 0, 0, 0, [])]
noncomputable def kk_X7_isWithin_0 (F : Nat × Nat) : Nat → rx_L → List Value → Option rx_H → Option Int32 := fun t ls st u => none
set_option maxRecDepth 100000 in
theorem g_X7_isWithin_0 (F : Nat × Nat) (x0 : Int32) (x1 : Int32) : f_X7_isWithin_0 F x0 x1 = rx_node (C_X7_isWithin F) rx_rI t_X7_isWithin [] (kk_X7_isWithin_0 F) 13 0 [some (.int x0), some (.int x1)] [] none := rfl
def f_X7_isPlace_0 (F : Nat × Nat) (x0 : Int32) : Option Int32 :=
  (f_X7_isIn F x0 (0 : Int32) (15 : Int32)).bind fun v1 =>
  if v1 = 0 then
    some 0
  else if v1 = 1 then
    some 1
  else
    none
def f_X7_isPlace (F : Nat × Nat) (x0 : Int32) : Option Int32 := f_X7_isPlace_0 F x0
def c_X7_isPlace {α : Type} (F : Nat × Nat) (as : List Value) (u : Option rx_H) (κ : rx_K α) : Option α := match as with
  | [.int a0] => (f_X7_isPlace F a0).bind fun r => κ (some (.int r)) u
  | _ => none
noncomputable def C_X7_isPlace {α : Type} (F : Nat × Nat) : rx_Cl α := fun j as u κ => Bool.rec (motive := fun _ => Option α) (none) (c_X7_isIn F as u κ) (Nat.beq j 171)
def t_X7_isPlace : List rx_E := [
  (0, .iload_n 0, 1, 0, 0, 0, 0, 0, []),
  (1, .iconst 0, 1, 0, 0, 0, 0, 0, []),
  (2, .bipush 15, 2, 0, 0, 0, 15, 0, []),
  (4, .invokestatic 54, 3, 171, 3, 806, 0, 0, []),
  (7, .ireturn, 1, 0, 1, 0, 0, 0, [])]
noncomputable def kk_X7_isPlace_0 (F : Nat × Nat) : Nat → rx_L → List Value → Option rx_H → Option Int32 := fun t ls st u => none
set_option maxRecDepth 100000 in
theorem g_X7_isPlace_0 (F : Nat × Nat) (x0 : Int32) : f_X7_isPlace_0 F x0 = rx_node (C_X7_isPlace F) rx_rI t_X7_isPlace [] (kk_X7_isPlace_0 F) 8 0 [some (.int x0)] [] none := rfl
def f_X7_apartFrom_3 (F : Nat × Nat) : Nat → Int64 → Int32 → Int32 → Int32 → Option Int32
  | 0, _, _, _, _ => none
  | f + 1, x0, x2, x3, x4 =>
    if x4 < (64 : Int32) then
      (f_X7_has F x0 x4).bind fun v1 =>
      if v1 = 0 then
        (f_X7_apartFrom_3 F f) x0 x2 x3 (x4 + 1)
      else
        (f_X7_ones F (x2 &&& x4)).bind fun v2 =>
        if v2 < x3 then
          some x4
        else
          (f_X7_apartFrom_3 F f) x0 x2 x3 (x4 + 1)
    else
      some (-1 : Int32)
def f_X7_apartFrom_0 (F : Nat × Nat) (x0 : Int64) (x2 : Int32) (x3 : Int32) : Option Int32 :=
  f_X7_apartFrom_3 F F.1 x0 x2 x3 (0 : Int32)
def f_X7_apartFrom (F : Nat × Nat) (x0 : Int64) (x2 : Int32) (x3 : Int32) : Option Int32 := f_X7_apartFrom_0 F x0 x2 x3
def c_X7_apartFrom {α : Type} (F : Nat × Nat) (as : List Value) (u : Option rx_H) (κ : rx_K α) : Option α := match as with
  | [.long a0, .int a1, .int a2] => (f_X7_apartFrom F a0 a1 a2).bind fun r => κ (some (.int r)) u
  | _ => none
noncomputable def C_X7_apartFrom {α : Type} (F : Nat × Nat) : rx_Cl α := fun j as u κ => Bool.rec (motive := fun _ => Option α) (Bool.rec (motive := fun _ => Option α) (none) (c_X7_ones F as u κ) (Nat.beq j 190)) (c_X7_has F as u κ) (Nat.beq j 163)
def t_X7_apartFrom : List rx_E := [
  (0, .iconst 0, 1, 0, 0, 0, 0, 0, []),
  (1, .istore 4, 2, 0, 0, 0, 0, 0, []),
  (3, .iload 4, 2, 0, 0, 0, 0, 0, []),
  (5, .bipush 64, 2, 0, 0, 0, 64, 0, []),
  (7, .if_icmp .ge 32, 3, 39, 0, 0, 0, 0, []),
  (10, .lload_n 0, 1, 0, 0, 0, 0, 0, []),
  (11, .iload 4, 2, 0, 0, 0, 0, 0, []),
  (13, .invokestatic 78, 3, 163, 2, 850, 0, 0, []),
  (16, .ifCond .eq 17, 3, 33, 0, 0, 0, 0, []),
  (19, .iload_n 2, 1, 0, 0, 0, 0, 0, []),
  (20, .iload 4, 2, 0, 0, 0, 0, 0, []),
  (22, .iand, 1, 0, 0, 0, 0, 0, []),
  (23, .invokestatic 82, 3, 190, 1, 844, 0, 0, []),
  (26, .iload_n 3, 1, 0, 0, 0, 0, 0, []),
  (27, .if_icmp .ge 6, 3, 33, 0, 0, 0, 0, []),
  (30, .iload 4, 2, 0, 0, 0, 0, 0, []),
  (32, .ireturn, 1, 0, 0, 0, 0, 0, []),
  (33, .iinc 4 1, 3, 0, 0, 0, 1, 0, []),
  (36, .goto (-33), 3, 3, 0, 0, 0, 0, []),
  (39, .iconst (-1), 1, 0, 0, 0, (-1), 0, []),
  (40, .ireturn, 1, 0, 0, 0, 0, 0, [])]
def n_X7_apartFrom_3 (k3 : Int64 → Int32 → Int32 → Int32 → Option Int32) (ls : rx_L) (st : List Value) (u : Option rx_H) : Option Int32 := match ls, st, u with
  | [some (.long x0), _, some (.int x2), some (.int x3), some (.int x4)], [], none => k3 x0 x2 x3 x4
  | _, _, _ => none
noncomputable def kk_X7_apartFrom_3 (F : Nat × Nat) (k3 : Int64 → Int32 → Int32 → Int32 → Option Int32) : Nat → rx_L → List Value → Option rx_H → Option Int32 := fun t ls st u => Bool.rec (motive := fun _ => Option Int32) (none) (n_X7_apartFrom_3 k3 ls st u) (Nat.beq t 3)
noncomputable def kk_X7_apartFrom_0 (F : Nat × Nat) : Nat → rx_L → List Value → Option rx_H → Option Int32 := fun t ls st u => Bool.rec (motive := fun _ => Option Int32) (none) (n_X7_apartFrom_3 (f_X7_apartFrom_3 F F.1) ls st u) (Nat.beq t 3)
set_option maxRecDepth 100000 in
theorem g_X7_apartFrom_3 (F : Nat × Nat) (f : Nat) (x0 : Int64) (x2 : Int32) (x3 : Int32) (x4 : Int32) : f_X7_apartFrom_3 F (f + 1) x0 x2 x3 x4 = rx_node (C_X7_apartFrom F) rx_rI t_X7_apartFrom [3] (kk_X7_apartFrom_3 F (f_X7_apartFrom_3 F f)) 24 3 [some (.long x0), none, some (.int x2), some (.int x3), some (.int x4)] [] none := rfl
set_option maxRecDepth 100000 in
theorem g_X7_apartFrom_0 (F : Nat × Nat) (x0 : Int64) (x2 : Int32) (x3 : Int32) : f_X7_apartFrom_0 F x0 x2 x3 = rx_node (C_X7_apartFrom F) rx_rI t_X7_apartFrom [3] (kk_X7_apartFrom_0 F) 24 0 [some (.long x0), none, some (.int x2), some (.int x3), none] [] none := rfl
def f_X7_goes_0 (F : Nat × Nat) (x3 : Int32) (x4 : Int32) (x5 : Int32) (x6 : Int32) : Option Int32 :=
  if x5 = (1 : Int32) then
    if x3 = x4 then
      some (1 : Int32)
    else
      (f_X7_isWithin F x3 x4).bind fun v1 =>
      if v1 = 0 then
        (f_X7_isWithin F x4 x3).bind fun v2 =>
        if v2 = 0 then
          some (1 : Int32)
        else
          some (0 : Int32)
      else
        some (0 : Int32)
  else
    if x5 = (2 : Int32) then
      (f_X7_ones F (x3 &&& x4)).bind fun v3 =>
      if v3 < x6 then
        some (0 : Int32)
      else
        some (1 : Int32)
    else
      if x5 = (4 : Int32) then
        if x3 = x4 then
          (f_X7_ones F x3).bind fun v4 =>
          if v4 = x6 then
            some (1 : Int32)
          else
            some (0 : Int32)
        else
          some (1 : Int32)
      else
        some (1 : Int32)
def f_X7_goes (F : Nat × Nat) (x0 : Nat) (x1 : Int64) (x3 : Int32) (x4 : Int32) (x5 : Int32) (x6 : Int32) : Option Int32 := f_X7_goes_0 F x3 x4 x5 x6
def c_X7_goes {α : Type} (F : Nat × Nat) (as : List Value) (u : Option rx_H) (κ : rx_K α) : Option α := match as with
  | [.ref a0, .long a1, .int a2, .int a3, .int a4, .int a5] => (f_X7_goes F a0 a1 a2 a3 a4 a5).bind fun r => κ (some (.int r)) u
  | _ => none
noncomputable def C_X7_goes {α : Type} (F : Nat × Nat) : rx_Cl α := fun j as u κ => Bool.rec (motive := fun _ => Option α) (Bool.rec (motive := fun _ => Option α) (none) (c_X7_ones F as u κ) (Nat.beq j 190)) (c_X7_isWithin F as u κ) (Nat.beq j 177)
def t_X7_goes : List rx_E := [
  (0, .iload 5, 2, 0, 0, 0, 0, 0, []),
  (2, .iconst 1, 1, 0, 0, 0, 1, 0, []),
  (3, .if_icmp .ne 33, 3, 36, 0, 0, 0, 0, []),
  (6, .iload_n 3, 1, 0, 0, 0, 0, 0, []),
  (7, .iload 4, 2, 0, 0, 0, 0, 0, []),
  (9, .if_icmp .eq 21, 3, 30, 0, 0, 0, 0, []),
  (12, .iload_n 3, 1, 0, 0, 0, 0, 0, []),
  (13, .iload 4, 2, 0, 0, 0, 0, 0, []),
  (15, .invokestatic 89, 3, 177, 2, 853, 0, 0, []),
  (18, .ifCond .ne 16, 3, 34, 0, 0, 0, 0, []),
  (21, .iload 4, 2, 0, 0, 0, 0, 0, []),
  (23, .iload_n 3, 1, 0, 0, 0, 0, 0, []),
  (24, .invokestatic 89, 3, 177, 2, 853, 0, 0, []),
  (27, .ifCond .ne 7, 3, 34, 0, 0, 0, 0, []),
  (30, .iconst 1, 1, 0, 0, 0, 1, 0, []),
  (31, .goto 4, 3, 35, 0, 0, 0, 0, []),
  (34, .iconst 0, 1, 0, 0, 0, 0, 0, []),
  (35, .ireturn, 1, 0, 2, 0, 0, 0, []),
  (36, .iload 5, 2, 0, 0, 0, 0, 0, []),
  (38, .iconst 2, 1, 0, 0, 0, 2, 0, []),
  (39, .if_icmp .ne 21, 3, 60, 0, 0, 0, 0, []),
  (42, .iload_n 3, 1, 0, 0, 0, 0, 0, []),
  (43, .iload 4, 2, 0, 0, 0, 0, 0, []),
  (45, .iand, 1, 0, 0, 0, 0, 0, []),
  (46, .invokestatic 82, 3, 190, 1, 844, 0, 0, []),
  (49, .iload 6, 2, 0, 0, 0, 0, 0, []),
  (51, .if_icmp .lt 7, 3, 58, 0, 0, 0, 0, []),
  (54, .iconst 1, 1, 0, 0, 0, 1, 0, []),
  (55, .goto 4, 3, 59, 0, 0, 0, 0, []),
  (58, .iconst 0, 1, 0, 0, 0, 0, 0, []),
  (59, .ireturn, 1, 0, 2, 0, 0, 0, []),
  (60, .iload 5, 2, 0, 0, 0, 0, 0, []),
  (62, .iconst 4, 1, 0, 0, 0, 4, 0, []),
  (63, .if_icmp .ne 18, 3, 81, 0, 0, 0, 0, []),
  (66, .iload_n 3, 1, 0, 0, 0, 0, 0, []),
  (67, .iload 4, 2, 0, 0, 0, 0, 0, []),
  (69, .if_icmp .ne 12, 3, 81, 0, 0, 0, 0, []),
  (72, .iload_n 3, 1, 0, 0, 0, 0, 0, []),
  (73, .invokestatic 82, 3, 190, 1, 844, 0, 0, []),
  (76, .iload 6, 2, 0, 0, 0, 0, 0, []),
  (78, .if_icmp .ne 7, 3, 85, 0, 0, 0, 0, []),
  (81, .iconst 1, 1, 0, 0, 0, 1, 0, []),
  (82, .goto 4, 3, 86, 0, 0, 0, 0, []),
  (85, .iconst 0, 1, 0, 0, 0, 0, 0, []),
  (86, .ireturn, 1, 0, 2, 0, 0, 0, [])]
noncomputable def kk_X7_goes_0 (F : Nat × Nat) : Nat → rx_L → List Value → Option rx_H → Option Int32 := fun t ls st u => none
set_option maxRecDepth 100000 in
theorem g_X7_goes_0 (F : Nat × Nat) (x3 : Int32) (x4 : Int32) (x5 : Int32) (x6 : Int32) : f_X7_goes_0 F x3 x4 x5 x6 = rx_node (C_X7_goes F) rx_rI t_X7_goes [] (kk_X7_goes_0 F) 48 0 [none, none, none, some (.int x3), some (.int x4), some (.int x5), some (.int x6)] [] none := rfl
def f_X7_lacking_0 (F : Nat × Nat) (x0 : Int32) (x1 : Int32) : Option Int32 :=
  if x0 = 0 then
    some x1
  else
    some x0
def f_X7_lacking (F : Nat × Nat) (x0 : Int32) (x1 : Int32) : Option Int32 := f_X7_lacking_0 F x0 x1
def c_X7_lacking {α : Type} (F : Nat × Nat) (as : List Value) (u : Option rx_H) (κ : rx_K α) : Option α := match as with
  | [.int a0, .int a1] => (f_X7_lacking F a0 a1).bind fun r => κ (some (.int r)) u
  | _ => none
noncomputable def C_X7_lacking {α : Type} (F : Nat × Nat) : rx_Cl α := fun j as u κ => none
def t_X7_lacking : List rx_E := [
  (0, .iload_n 0, 1, 0, 0, 0, 0, 0, []),
  (1, .ifCond .eq 7, 3, 8, 0, 0, 0, 0, []),
  (4, .iload_n 0, 1, 0, 0, 0, 0, 0, []),
  (5, .goto 4, 3, 9, 0, 0, 0, 0, []),
  (8, .iload_n 1, 1, 0, 0, 0, 0, 0, []),
  (9, .ireturn, 1, 0, 0, 0, 0, 0, [])]
noncomputable def kk_X7_lacking_0 (F : Nat × Nat) : Nat → rx_L → List Value → Option rx_H → Option Int32 := fun t ls st u => none
set_option maxRecDepth 100000 in
theorem g_X7_lacking_0 (F : Nat × Nat) (x0 : Int32) (x1 : Int32) : f_X7_lacking_0 F x0 x1 = rx_node (C_X7_lacking F) rx_rI t_X7_lacking [] (kk_X7_lacking_0 F) 9 0 [some (.int x0), some (.int x1)] [] none := rfl
def f_X7_factorial_4 (F : Nat × Nat) : Nat → Int32 → Int32 → Int32 → Option Int32
  | 0, _, _, _ => none
  | f + 1, x0, x1, x2 =>
    if x0 < x2 then
      some x1
    else
      (f_X7_factorial_4 F f) x0 (x1 * x2) (x2 + 1)
def f_X7_factorial_0 (F : Nat × Nat) (x0 : Int32) : Option Int32 :=
  f_X7_factorial_4 F F.1 x0 (1 : Int32) (2 : Int32)
def f_X7_factorial (F : Nat × Nat) (x0 : Int32) : Option Int32 := f_X7_factorial_0 F x0
def c_X7_factorial {α : Type} (F : Nat × Nat) (as : List Value) (u : Option rx_H) (κ : rx_K α) : Option α := match as with
  | [.int a0] => (f_X7_factorial F a0).bind fun r => κ (some (.int r)) u
  | _ => none
noncomputable def C_X7_factorial {α : Type} (F : Nat × Nat) : rx_Cl α := fun j as u κ => none
def t_X7_factorial : List rx_E := [
  (0, .iconst 1, 1, 0, 0, 0, 1, 0, []),
  (1, .istore_n 1, 1, 0, 0, 0, 0, 0, []),
  (2, .iconst 2, 1, 0, 0, 0, 2, 0, []),
  (3, .istore_n 2, 1, 0, 0, 0, 0, 0, []),
  (4, .iload_n 2, 1, 0, 0, 0, 0, 0, []),
  (5, .iload_n 0, 1, 0, 0, 0, 0, 0, []),
  (6, .if_icmp .gt 13, 3, 19, 0, 0, 0, 0, []),
  (9, .iload_n 1, 1, 0, 0, 0, 0, 0, []),
  (10, .iload_n 2, 1, 0, 0, 0, 0, 0, []),
  (11, .imul, 1, 0, 0, 0, 0, 0, []),
  (12, .istore_n 1, 1, 0, 0, 0, 0, 0, []),
  (13, .iinc 2 1, 3, 0, 0, 0, 1, 0, []),
  (16, .goto (-12), 3, 4, 0, 0, 0, 0, []),
  (19, .iload_n 1, 1, 0, 0, 0, 0, 0, []),
  (20, .ireturn, 1, 0, 0, 0, 0, 0, [])]
def n_X7_factorial_4 (k4 : Int32 → Int32 → Int32 → Option Int32) (ls : rx_L) (st : List Value) (u : Option rx_H) : Option Int32 := match ls, st, u with
  | [some (.int x0), some (.int x1), some (.int x2)], [], none => k4 x0 x1 x2
  | _, _, _ => none
noncomputable def kk_X7_factorial_4 (F : Nat × Nat) (k4 : Int32 → Int32 → Int32 → Option Int32) : Nat → rx_L → List Value → Option rx_H → Option Int32 := fun t ls st u => Bool.rec (motive := fun _ => Option Int32) (none) (n_X7_factorial_4 k4 ls st u) (Nat.beq t 4)
noncomputable def kk_X7_factorial_0 (F : Nat × Nat) : Nat → rx_L → List Value → Option rx_H → Option Int32 := fun t ls st u => Bool.rec (motive := fun _ => Option Int32) (none) (n_X7_factorial_4 (f_X7_factorial_4 F F.1) ls st u) (Nat.beq t 4)
set_option maxRecDepth 100000 in
theorem g_X7_factorial_4 (F : Nat × Nat) (f : Nat) (x0 : Int32) (x1 : Int32) (x2 : Int32) : f_X7_factorial_4 F (f + 1) x0 x1 x2 = rx_node (C_X7_factorial F) rx_rI t_X7_factorial [4] (kk_X7_factorial_4 F (f_X7_factorial_4 F f)) 18 4 [some (.int x0), some (.int x1), some (.int x2)] [] none := rfl
set_option maxRecDepth 100000 in
theorem g_X7_factorial_0 (F : Nat × Nat) (x0 : Int32) : f_X7_factorial_0 F x0 = rx_node (C_X7_factorial F) rx_rI t_X7_factorial [4] (kk_X7_factorial_0 F) 18 0 [some (.int x0), none, none] [] none := rfl
def f_X7_choose_32 (F : Nat × Nat) (x0 : Int32) (x1 : Int32) (x2 : Int32) : Option Int32 :=
  if x0 < x1 then
    some (0 : Int32)
  else
    some x2
def f_X7_choose_4 (F : Nat × Nat) : Nat → Int32 → Int32 → Int32 → Int32 → Option Int32
  | 0, _, _, _, _ => none
  | f + 1, x0, x1, x2, x3 =>
    if x3 < x1 then
      if (2000 : Int32) < x2 then
        f_X7_choose_32 F x0 x1 x2
      else
        if x3 + (1 : Int32) = 0 then
          none
        else
          (f_X7_choose_4 F f) x0 x1 ((x2 * (x0 - x3)) / (x3 + (1 : Int32))) (x3 + 1)
    else
      f_X7_choose_32 F x0 x1 x2
def f_X7_choose_0 (F : Nat × Nat) (x0 : Int32) (x1 : Int32) : Option Int32 :=
  f_X7_choose_4 F F.1 x0 x1 (1 : Int32) (0 : Int32)
def f_X7_choose (F : Nat × Nat) (x0 : Int32) (x1 : Int32) : Option Int32 := f_X7_choose_0 F x0 x1
def c_X7_choose {α : Type} (F : Nat × Nat) (as : List Value) (u : Option rx_H) (κ : rx_K α) : Option α := match as with
  | [.int a0, .int a1] => (f_X7_choose F a0 a1).bind fun r => κ (some (.int r)) u
  | _ => none
noncomputable def C_X7_choose {α : Type} (F : Nat × Nat) : rx_Cl α := fun j as u κ => none
def t_X7_choose : List rx_E := [
  (0, .iconst 1, 1, 0, 0, 0, 1, 0, []),
  (1, .istore_n 2, 1, 0, 0, 0, 0, 0, []),
  (2, .iconst 0, 1, 0, 0, 0, 0, 0, []),
  (3, .istore_n 3, 1, 0, 0, 0, 0, 0, []),
  (4, .iload_n 3, 1, 0, 0, 0, 0, 0, []),
  (5, .iload_n 1, 1, 0, 0, 0, 0, 0, []),
  (6, .if_icmp .ge 26, 3, 32, 0, 0, 0, 0, []),
  (9, .iload_n 2, 1, 0, 0, 0, 0, 0, []),
  (10, .sipush 2000, 3, 0, 0, 0, 2000, 0, []),
  (13, .if_icmp .gt 19, 3, 32, 0, 0, 0, 0, []),
  (16, .iload_n 2, 1, 0, 0, 0, 0, 0, []),
  (17, .iload_n 0, 1, 0, 0, 0, 0, 0, []),
  (18, .iload_n 3, 1, 0, 0, 0, 0, 0, []),
  (19, .isub, 1, 0, 0, 0, 0, 0, []),
  (20, .imul, 1, 0, 0, 0, 0, 0, []),
  (21, .iload_n 3, 1, 0, 0, 0, 0, 0, []),
  (22, .iconst 1, 1, 0, 0, 0, 1, 0, []),
  (23, .iadd, 1, 0, 0, 0, 0, 0, []),
  (24, .idiv, 1, 0, 0, 0, 0, 0, []),
  (25, .istore_n 2, 1, 0, 0, 0, 0, 0, []),
  (26, .iinc 3 1, 3, 0, 0, 0, 1, 0, []),
  (29, .goto (-25), 3, 4, 0, 0, 0, 0, []),
  (32, .iload_n 0, 1, 0, 0, 0, 0, 0, []),
  (33, .iload_n 1, 1, 0, 0, 0, 0, 0, []),
  (34, .if_icmp .ge 7, 3, 41, 0, 0, 0, 0, []),
  (37, .iconst 0, 1, 0, 0, 0, 0, 0, []),
  (38, .goto 4, 3, 42, 0, 0, 0, 0, []),
  (41, .iload_n 2, 1, 0, 0, 0, 0, 0, []),
  (42, .ireturn, 1, 0, 0, 0, 0, 0, [])]
def n_X7_choose_4 (k4 : Int32 → Int32 → Int32 → Int32 → Option Int32) (ls : rx_L) (st : List Value) (u : Option rx_H) : Option Int32 := match ls, st, u with
  | [some (.int x0), some (.int x1), some (.int x2), some (.int x3)], [], none => k4 x0 x1 x2 x3
  | _, _, _ => none
def n_X7_choose_32 (F : Nat × Nat) (ls : rx_L) (st : List Value) (u : Option rx_H) : Option Int32 := match ls, st, u with
  | [some (.int x0), some (.int x1), some (.int x2), _], [], none => f_X7_choose_32 F x0 x1 x2
  | _, _, _ => none
noncomputable def kk_X7_choose_32 (F : Nat × Nat) : Nat → rx_L → List Value → Option rx_H → Option Int32 := fun t ls st u => none
noncomputable def kk_X7_choose_4 (F : Nat × Nat) (k4 : Int32 → Int32 → Int32 → Int32 → Option Int32) : Nat → rx_L → List Value → Option rx_H → Option Int32 := fun t ls st u => Bool.rec (motive := fun _ => Option Int32) (Bool.rec (motive := fun _ => Option Int32) (none) (n_X7_choose_32 F ls st u) (Nat.beq t 32)) (n_X7_choose_4 k4 ls st u) (Nat.beq t 4)
noncomputable def kk_X7_choose_0 (F : Nat × Nat) : Nat → rx_L → List Value → Option rx_H → Option Int32 := fun t ls st u => Bool.rec (motive := fun _ => Option Int32) (none) (n_X7_choose_4 (f_X7_choose_4 F F.1) ls st u) (Nat.beq t 4)
set_option maxRecDepth 100000 in
theorem g_X7_choose_32 (F : Nat × Nat) (x0 : Int32) (x1 : Int32) (x2 : Int32) : f_X7_choose_32 F x0 x1 x2 = rx_node (C_X7_choose F) rx_rI t_X7_choose [4, 32] (kk_X7_choose_32 F) 32 32 [some (.int x0), some (.int x1), some (.int x2), none] [] none := rfl
set_option maxRecDepth 100000 in
theorem g_X7_choose_4 (F : Nat × Nat) (f : Nat) (x0 : Int32) (x1 : Int32) (x2 : Int32) (x3 : Int32) : f_X7_choose_4 F (f + 1) x0 x1 x2 x3 = rx_node (C_X7_choose F) rx_rI t_X7_choose [4, 32] (kk_X7_choose_4 F (f_X7_choose_4 F f)) 32 4 [some (.int x0), some (.int x1), some (.int x2), some (.int x3)] [] none := rfl
set_option maxRecDepth 100000 in
theorem g_X7_choose_0 (F : Nat × Nat) (x0 : Int32) (x1 : Int32) : f_X7_choose_0 F x0 x1 = rx_node (C_X7_choose F) rx_rI t_X7_choose [4, 32] (kk_X7_choose_0 F) 32 0 [some (.int x0), some (.int x1), none, none] [] none := rfl
def f_X7_greatestBelow_2 (F : Nat × Nat) : Nat → Int32 → Int32 → Int32 → Option Int32
  | 0, _, _, _ => none
  | f + 1, x0, x1, x2 =>
    (f_X7_choose F (x2 + (1 : Int32)) x1).bind fun v1 =>
    if x0 < v1 then
      some x2
    else
      (f_X7_greatestBelow_2 F f) x0 x1 (x2 + 1)
def f_X7_greatestBelow_0 (F : Nat × Nat) (x0 : Int32) (x1 : Int32) : Option Int32 :=
  f_X7_greatestBelow_2 F F.1 x0 x1 x1
def f_X7_greatestBelow (F : Nat × Nat) (x0 : Int32) (x1 : Int32) : Option Int32 := f_X7_greatestBelow_0 F x0 x1
def c_X7_greatestBelow {α : Type} (F : Nat × Nat) (as : List Value) (u : Option rx_H) (κ : rx_K α) : Option α := match as with
  | [.int a0, .int a1] => (f_X7_greatestBelow F a0 a1).bind fun r => κ (some (.int r)) u
  | _ => none
noncomputable def C_X7_greatestBelow {α : Type} (F : Nat × Nat) : rx_Cl α := fun j as u κ => Bool.rec (motive := fun _ => Option α) (none) (c_X7_choose F as u κ) (Nat.beq j 143)
def t_X7_greatestBelow : List rx_E := [
  (0, .iload_n 1, 1, 0, 0, 0, 0, 0, []),
  (1, .istore_n 2, 1, 0, 0, 0, 0, 0, []),
  (2, .iload_n 2, 1, 0, 0, 0, 0, 0, []),
  (3, .iconst 1, 1, 0, 0, 0, 1, 0, []),
  (4, .iadd, 1, 0, 0, 0, 0, 0, []),
  (5, .iload_n 1, 1, 0, 0, 0, 0, 0, []),
  (6, .invokestatic 170, 3, 143, 2, 1027, 0, 0, []),
  (9, .iload_n 0, 1, 0, 0, 0, 0, 0, []),
  (10, .if_icmp .gt 9, 3, 19, 0, 0, 0, 0, []),
  (13, .iinc 2 1, 3, 0, 0, 0, 1, 0, []),
  (16, .goto (-14), 3, 2, 0, 0, 0, 0, []),
  (19, .iload_n 2, 1, 0, 0, 0, 0, 0, []),
  (20, .ireturn, 1, 0, 0, 0, 0, 0, [])]
def n_X7_greatestBelow_2 (k2 : Int32 → Int32 → Int32 → Option Int32) (ls : rx_L) (st : List Value) (u : Option rx_H) : Option Int32 := match ls, st, u with
  | [some (.int x0), some (.int x1), some (.int x2)], [], none => k2 x0 x1 x2
  | _, _, _ => none
noncomputable def kk_X7_greatestBelow_2 (F : Nat × Nat) (k2 : Int32 → Int32 → Int32 → Option Int32) : Nat → rx_L → List Value → Option rx_H → Option Int32 := fun t ls st u => Bool.rec (motive := fun _ => Option Int32) (none) (n_X7_greatestBelow_2 k2 ls st u) (Nat.beq t 2)
noncomputable def kk_X7_greatestBelow_0 (F : Nat × Nat) : Nat → rx_L → List Value → Option rx_H → Option Int32 := fun t ls st u => Bool.rec (motive := fun _ => Option Int32) (none) (n_X7_greatestBelow_2 (f_X7_greatestBelow_2 F F.1) ls st u) (Nat.beq t 2)
set_option maxRecDepth 100000 in
theorem g_X7_greatestBelow_2 (F : Nat × Nat) (f : Nat) (x0 : Int32) (x1 : Int32) (x2 : Int32) : f_X7_greatestBelow_2 F (f + 1) x0 x1 x2 = rx_node (C_X7_greatestBelow F) rx_rI t_X7_greatestBelow [2] (kk_X7_greatestBelow_2 F (f_X7_greatestBelow_2 F f)) 16 2 [some (.int x0), some (.int x1), some (.int x2)] [] none := rfl
set_option maxRecDepth 100000 in
theorem g_X7_greatestBelow_0 (F : Nat × Nat) (x0 : Int32) (x1 : Int32) : f_X7_greatestBelow_0 F x0 x1 = rx_node (C_X7_greatestBelow F) rx_rI t_X7_greatestBelow [2] (kk_X7_greatestBelow_0 F) 16 0 [some (.int x0), some (.int x1), none] [] none := rfl
def f_X7_cascade_33 (F : Nat × Nat) : Nat → Int32 → Int32 → Int32 → Int32 → Option Int32
  | 0, _, _, _, _ => none
  | f + 1, x2, x3, x4, x5 =>
    if 0 < x5 then
      if 0 < x4 then
        (f_X7_greatestBelow F x4 x5).bind fun v1 =>
        if x2 - x5 = x3 then
          some v1
        else
          (f_X7_choose F v1 x5).bind fun v2 =>
          (f_X7_cascade_33 F f) x2 x3 (x4 - v2) (x5 + (-1))
      else
        some (-2 : Int32)
    else
      some (-2 : Int32)
def f_X7_cascade_0 (F : Nat × Nat) (x1 : Int32) (x2 : Int32) (x3 : Int32) : Option Int32 :=
  (f_X7_isIn F x1 (1 : Int32) (1000 : Int32)).bind fun v1 =>
  if v1 = 0 then
    some (-1 : Int32)
  else
    (f_X7_isIn F x2 (1 : Int32) (6 : Int32)).bind fun v2 =>
    if v2 = 0 then
      some (-1 : Int32)
    else
      if x3 < 0 then
        some (-1 : Int32)
      else
        f_X7_cascade_33 F F.1 x2 x3 x1 x2
def f_X7_cascade (F : Nat × Nat) (x0 : Nat) (x1 : Int32) (x2 : Int32) (x3 : Int32) : Option Int32 := f_X7_cascade_0 F x1 x2 x3
def c_X7_cascade {α : Type} (F : Nat × Nat) (as : List Value) (u : Option rx_H) (κ : rx_K α) : Option α := match as with
  | [.ref a0, .int a1, .int a2, .int a3] => (f_X7_cascade F a0 a1 a2 a3).bind fun r => κ (some (.int r)) u
  | _ => none
noncomputable def C_X7_cascade {α : Type} (F : Nat × Nat) : rx_Cl α := fun j as u κ => Bool.rec (motive := fun _ => Option α) (Bool.rec (motive := fun _ => Option α) (Bool.rec (motive := fun _ => Option α) (none) (c_X7_isIn F as u κ) (Nat.beq j 171)) (c_X7_greatestBelow F as u κ) (Nat.beq j 162)) (c_X7_choose F as u κ) (Nat.beq j 143)
def t_X7_cascade : List rx_E := [
  (0, .iload_n 1, 1, 0, 0, 0, 0, 0, []),
  (1, .iconst 1, 1, 0, 0, 0, 1, 0, []),
  (2, .sipush 1000, 3, 0, 0, 0, 1000, 0, []),
  (5, .invokestatic 54, 3, 171, 3, 806, 0, 0, []),
  (8, .ifCond .eq 17, 3, 25, 0, 0, 0, 0, []),
  (11, .iload_n 2, 1, 0, 0, 0, 0, 0, []),
  (12, .iconst 1, 1, 0, 0, 0, 1, 0, []),
  (13, .bipush 6, 2, 0, 0, 0, 6, 0, []),
  (15, .invokestatic 54, 3, 171, 3, 806, 0, 0, []),
  (18, .ifCond .eq 7, 3, 25, 0, 0, 0, 0, []),
  (21, .iload_n 3, 1, 0, 0, 0, 0, 0, []),
  (22, .ifCond .ge 5, 3, 27, 0, 0, 0, 0, []),
  (25, .iconst (-1), 1, 0, 0, 0, (-1), 0, []),
  (26, .ireturn, 1, 0, 0, 0, 0, 0, []),
  (27, .iload_n 1, 1, 0, 0, 0, 0, 0, []),
  (28, .istore 4, 2, 0, 0, 0, 0, 0, []),
  (30, .iload_n 2, 1, 0, 0, 0, 0, 0, []),
  (31, .istore 5, 2, 0, 0, 0, 0, 0, []),
  (33, .iload 5, 2, 0, 0, 0, 0, 0, []),
  (35, .ifCond .le 46, 3, 81, 0, 0, 0, 0, []),
  (38, .iload 4, 2, 0, 0, 0, 0, 0, []),
  (40, .ifCond .le 41, 3, 81, 0, 0, 0, 0, []),
  (43, .iload 4, 2, 0, 0, 0, 0, 0, []),
  (45, .iload 5, 2, 0, 0, 0, 0, 0, []),
  (47, .invokestatic 173, 3, 162, 2, 1024, 0, 0, []),
  (50, .istore 6, 2, 0, 0, 0, 0, 0, []),
  (52, .iload_n 2, 1, 0, 0, 0, 0, 0, []),
  (53, .iload 5, 2, 0, 0, 0, 0, 0, []),
  (55, .isub, 1, 0, 0, 0, 0, 0, []),
  (56, .iload_n 3, 1, 0, 0, 0, 0, 0, []),
  (57, .if_icmp .ne 6, 3, 63, 0, 0, 0, 0, []),
  (60, .iload 6, 2, 0, 0, 0, 0, 0, []),
  (62, .ireturn, 1, 0, 0, 0, 0, 0, []),
  (63, .iload 4, 2, 0, 0, 0, 0, 0, []),
  (65, .iload 6, 2, 0, 0, 0, 0, 0, []),
  (67, .iload 5, 2, 0, 0, 0, 0, 0, []),
  (69, .invokestatic 170, 3, 143, 2, 1027, 0, 0, []),
  (72, .isub, 1, 0, 0, 0, 0, 0, []),
  (73, .istore 4, 2, 0, 0, 0, 0, 0, []),
  (75, .iinc 5 (-1), 3, 0, 0, 0, (-1), 0, []),
  (78, .goto (-45), 3, 33, 0, 0, 0, 0, []),
  (81, .bipush (-2), 2, 0, 0, 0, (-2), 0, []),
  (83, .ireturn, 1, 0, 0, 0, 0, 0, [])]
def n_X7_cascade_33 (k33 : Int32 → Int32 → Int32 → Int32 → Option Int32) (ls : rx_L) (st : List Value) (u : Option rx_H) : Option Int32 := match ls, st, u with
  | [_, _, some (.int x2), some (.int x3), some (.int x4), some (.int x5), _], [], none => k33 x2 x3 x4 x5
  | _, _, _ => none
noncomputable def kk_X7_cascade_33 (F : Nat × Nat) (k33 : Int32 → Int32 → Int32 → Int32 → Option Int32) : Nat → rx_L → List Value → Option rx_H → Option Int32 := fun t ls st u => Bool.rec (motive := fun _ => Option Int32) (none) (n_X7_cascade_33 k33 ls st u) (Nat.beq t 33)
noncomputable def kk_X7_cascade_0 (F : Nat × Nat) : Nat → rx_L → List Value → Option rx_H → Option Int32 := fun t ls st u => Bool.rec (motive := fun _ => Option Int32) (none) (n_X7_cascade_33 (f_X7_cascade_33 F F.1) ls st u) (Nat.beq t 33)
set_option maxRecDepth 100000 in
theorem g_X7_cascade_33 (F : Nat × Nat) (f : Nat) (x2 : Int32) (x3 : Int32) (x4 : Int32) (x5 : Int32) : f_X7_cascade_33 F (f + 1) x2 x3 x4 x5 = rx_node (C_X7_cascade F) rx_rI t_X7_cascade [33] (kk_X7_cascade_33 F (f_X7_cascade_33 F f)) 46 33 [none, none, some (.int x2), some (.int x3), some (.int x4), some (.int x5), none] [] none := rfl
set_option maxRecDepth 100000 in
theorem g_X7_cascade_0 (F : Nat × Nat) (x1 : Int32) (x2 : Int32) (x3 : Int32) : f_X7_cascade_0 F x1 x2 x3 = rx_node (C_X7_cascade F) rx_rI t_X7_cascade [33] (kk_X7_cascade_0 F) 46 0 [none, some (.int x1), some (.int x2), some (.int x3), none, none, none] [] none := rfl
def f_X7_chooseAll_5 (F : Nat × Nat) : Nat → Int32 → Int32 → Int64 → Int32 → Option Int32
  | 0, _, _, _, _ => none
  | f + 1, x0, x1, x2, x4 =>
    if x4 < x1 then
      if Int32.toInt64 (x4 + (1 : Int32)) = 0 then
        none
      else
        (f_X7_chooseAll_5 F f) x0 x1 ((x2 * (Int32.toInt64 (x0 - x4))) / (Int32.toInt64 (x4 + (1 : Int32)))) (x4 + 1)
    else
      some (Int64.toInt32 x2)
def f_X7_chooseAll_0 (F : Nat × Nat) (x0 : Int32) (x1 : Int32) : Option Int32 :=
  f_X7_chooseAll_5 F F.1 x0 x1 (1 : Int64) (0 : Int32)
def f_X7_chooseAll (F : Nat × Nat) (x0 : Int32) (x1 : Int32) : Option Int32 := f_X7_chooseAll_0 F x0 x1
def c_X7_chooseAll {α : Type} (F : Nat × Nat) (as : List Value) (u : Option rx_H) (κ : rx_K α) : Option α := match as with
  | [.int a0, .int a1] => (f_X7_chooseAll F a0 a1).bind fun r => κ (some (.int r)) u
  | _ => none
noncomputable def C_X7_chooseAll {α : Type} (F : Nat × Nat) : rx_Cl α := fun j as u κ => none
def t_X7_chooseAll : List rx_E := [
  (0, .lconst 1, 1, 0, 0, 0, 0, 1, []),
  (1, .lstore_n 2, 1, 0, 0, 0, 0, 0, []),
  (2, .iconst 0, 1, 0, 0, 0, 0, 0, []),
  (3, .istore 4, 2, 0, 0, 0, 0, 0, []),
  (5, .iload 4, 2, 0, 0, 0, 0, 0, []),
  (7, .iload_n 1, 1, 0, 0, 0, 0, 0, []),
  (8, .if_icmp .ge 23, 3, 31, 0, 0, 0, 0, []),
  (11, .lload_n 2, 1, 0, 0, 0, 0, 0, []),
  (12, .iload_n 0, 1, 0, 0, 0, 0, 0, []),
  (13, .iload 4, 2, 0, 0, 0, 0, 0, []),
  (15, .isub, 1, 0, 0, 0, 0, 0, []),
  (16, .i2l, 1, 0, 0, 0, 0, 0, []),
  (17, .lmul, 1, 0, 0, 0, 0, 0, []),
  (18, .iload 4, 2, 0, 0, 0, 0, 0, []),
  (20, .iconst 1, 1, 0, 0, 0, 1, 0, []),
  (21, .iadd, 1, 0, 0, 0, 0, 0, []),
  (22, .i2l, 1, 0, 0, 0, 0, 0, []),
  (23, .ldiv, 1, 0, 0, 0, 0, 0, []),
  (24, .lstore_n 2, 1, 0, 0, 0, 0, 0, []),
  (25, .iinc 4 1, 3, 0, 0, 0, 1, 0, []),
  (28, .goto (-23), 3, 5, 0, 0, 0, 0, []),
  (31, .lload_n 2, 1, 0, 0, 0, 0, 0, []),
  (32, .l2i, 1, 0, 0, 0, 0, 0, []),
  (33, .ireturn, 1, 0, 0, 0, 0, 0, [])]
def n_X7_chooseAll_5 (k5 : Int32 → Int32 → Int64 → Int32 → Option Int32) (ls : rx_L) (st : List Value) (u : Option rx_H) : Option Int32 := match ls, st, u with
  | [some (.int x0), some (.int x1), some (.long x2), _, some (.int x4)], [], none => k5 x0 x1 x2 x4
  | _, _, _ => none
noncomputable def kk_X7_chooseAll_5 (F : Nat × Nat) (k5 : Int32 → Int32 → Int64 → Int32 → Option Int32) : Nat → rx_L → List Value → Option rx_H → Option Int32 := fun t ls st u => Bool.rec (motive := fun _ => Option Int32) (none) (n_X7_chooseAll_5 k5 ls st u) (Nat.beq t 5)
noncomputable def kk_X7_chooseAll_0 (F : Nat × Nat) : Nat → rx_L → List Value → Option rx_H → Option Int32 := fun t ls st u => Bool.rec (motive := fun _ => Option Int32) (none) (n_X7_chooseAll_5 (f_X7_chooseAll_5 F F.1) ls st u) (Nat.beq t 5)
set_option maxRecDepth 100000 in
theorem g_X7_chooseAll_5 (F : Nat × Nat) (f : Nat) (x0 : Int32) (x1 : Int32) (x2 : Int64) (x4 : Int32) : f_X7_chooseAll_5 F (f + 1) x0 x1 x2 x4 = rx_node (C_X7_chooseAll F) rx_rI t_X7_chooseAll [5] (kk_X7_chooseAll_5 F (f_X7_chooseAll_5 F f)) 27 5 [some (.int x0), some (.int x1), some (.long x2), none, some (.int x4)] [] none := rfl
set_option maxRecDepth 100000 in
theorem g_X7_chooseAll_0 (F : Nat × Nat) (x0 : Int32) (x1 : Int32) : f_X7_chooseAll_0 F x0 x1 = rx_node (C_X7_chooseAll F) rx_rI t_X7_chooseAll [5] (kk_X7_chooseAll_0 F) 27 0 [some (.int x0), some (.int x1), none, none, none] [] none := rfl
def f_X7_least_31 (F : Nat × Nat) : Nat → Int32 → Int32 → Int32 → Option Int32
  | 0, _, _, _ => none
  | f + 1, x3, x4, x5 =>
    if 0 < x5 then
      if 0 < x3 then
        (f_X7_greatestBelow F x3 x5).bind fun v1 =>
        (f_X7_chooseAll F v1 (x5 - (1 : Int32))).bind fun v2 =>
        (f_X7_choose F v1 x5).bind fun v3 =>
        (f_X7_least_31 F f) (x3 - v3) (x4 + v2) (x5 + (-1))
      else
        some x4
    else
      some x4
def f_X7_least_0 (F : Nat × Nat) (x1 : Int32) (x2 : Int32) : Option Int32 :=
  (f_X7_isIn F x1 (1 : Int32) (1000 : Int32)).bind fun v1 =>
  if v1 = 0 then
    some (-1 : Int32)
  else
    (f_X7_isIn F x2 (1 : Int32) (6 : Int32)).bind fun v2 =>
    if v2 = 0 then
      some (-1 : Int32)
    else
      f_X7_least_31 F F.1 x1 (0 : Int32) x2
def f_X7_least (F : Nat × Nat) (x0 : Nat) (x1 : Int32) (x2 : Int32) : Option Int32 := f_X7_least_0 F x1 x2
def c_X7_least {α : Type} (F : Nat × Nat) (as : List Value) (u : Option rx_H) (κ : rx_K α) : Option α := match as with
  | [.ref a0, .int a1, .int a2] => (f_X7_least F a0 a1 a2).bind fun r => κ (some (.int r)) u
  | _ => none
noncomputable def C_X7_least {α : Type} (F : Nat × Nat) : rx_Cl α := fun j as u κ => Bool.rec (motive := fun _ => Option α) (Bool.rec (motive := fun _ => Option α) (Bool.rec (motive := fun _ => Option α) (Bool.rec (motive := fun _ => Option α) (none) (c_X7_isIn F as u κ) (Nat.beq j 171)) (c_X7_greatestBelow F as u κ) (Nat.beq j 162)) (c_X7_chooseAll F as u κ) (Nat.beq j 144)) (c_X7_choose F as u κ) (Nat.beq j 143)
def t_X7_least : List rx_E := [
  (0, .iload_n 1, 1, 0, 0, 0, 0, 0, []),
  (1, .iconst 1, 1, 0, 0, 0, 1, 0, []),
  (2, .sipush 1000, 3, 0, 0, 0, 1000, 0, []),
  (5, .invokestatic 54, 3, 171, 3, 806, 0, 0, []),
  (8, .ifCond .eq 13, 3, 21, 0, 0, 0, 0, []),
  (11, .iload_n 2, 1, 0, 0, 0, 0, 0, []),
  (12, .iconst 1, 1, 0, 0, 0, 1, 0, []),
  (13, .bipush 6, 2, 0, 0, 0, 6, 0, []),
  (15, .invokestatic 54, 3, 171, 3, 806, 0, 0, []),
  (18, .ifCond .ne 5, 3, 23, 0, 0, 0, 0, []),
  (21, .iconst (-1), 1, 0, 0, 0, (-1), 0, []),
  (22, .ireturn, 1, 0, 0, 0, 0, 0, []),
  (23, .iload_n 1, 1, 0, 0, 0, 0, 0, []),
  (24, .istore_n 3, 1, 0, 0, 0, 0, 0, []),
  (25, .iconst 0, 1, 0, 0, 0, 0, 0, []),
  (26, .istore 4, 2, 0, 0, 0, 0, 0, []),
  (28, .iload_n 2, 1, 0, 0, 0, 0, 0, []),
  (29, .istore 5, 2, 0, 0, 0, 0, 0, []),
  (31, .iload 5, 2, 0, 0, 0, 0, 0, []),
  (33, .ifCond .le 45, 3, 78, 0, 0, 0, 0, []),
  (36, .iload_n 3, 1, 0, 0, 0, 0, 0, []),
  (37, .ifCond .le 41, 3, 78, 0, 0, 0, 0, []),
  (40, .iload_n 3, 1, 0, 0, 0, 0, 0, []),
  (41, .iload 5, 2, 0, 0, 0, 0, 0, []),
  (43, .invokestatic 173, 3, 162, 2, 1024, 0, 0, []),
  (46, .istore 6, 2, 0, 0, 0, 0, 0, []),
  (48, .iload 4, 2, 0, 0, 0, 0, 0, []),
  (50, .iload 6, 2, 0, 0, 0, 0, 0, []),
  (52, .iload 5, 2, 0, 0, 0, 0, 0, []),
  (54, .iconst 1, 1, 0, 0, 0, 1, 0, []),
  (55, .isub, 1, 0, 0, 0, 0, 0, []),
  (56, .invokestatic 176, 3, 144, 2, 1034, 0, 0, []),
  (59, .iadd, 1, 0, 0, 0, 0, 0, []),
  (60, .istore 4, 2, 0, 0, 0, 0, 0, []),
  (62, .iload_n 3, 1, 0, 0, 0, 0, 0, []),
  (63, .iload 6, 2, 0, 0, 0, 0, 0, []),
  (65, .iload 5, 2, 0, 0, 0, 0, 0, []),
  (67, .invokestatic 170, 3, 143, 2, 1027, 0, 0, []),
  (70, .isub, 1, 0, 0, 0, 0, 0, []),
  (71, .istore_n 3, 1, 0, 0, 0, 0, 0, []),
  (72, .iinc 5 (-1), 3, 0, 0, 0, (-1), 0, []),
  (75, .goto (-44), 3, 31, 0, 0, 0, 0, []),
  (78, .iload 4, 2, 0, 0, 0, 0, 0, []),
  (80, .ireturn, 1, 0, 0, 0, 0, 0, [])]
def n_X7_least_31 (k31 : Int32 → Int32 → Int32 → Option Int32) (ls : rx_L) (st : List Value) (u : Option rx_H) : Option Int32 := match ls, st, u with
  | [_, _, _, some (.int x3), some (.int x4), some (.int x5), _], [], none => k31 x3 x4 x5
  | _, _, _ => none
noncomputable def kk_X7_least_31 (F : Nat × Nat) (k31 : Int32 → Int32 → Int32 → Option Int32) : Nat → rx_L → List Value → Option rx_H → Option Int32 := fun t ls st u => Bool.rec (motive := fun _ => Option Int32) (none) (n_X7_least_31 k31 ls st u) (Nat.beq t 31)
noncomputable def kk_X7_least_0 (F : Nat × Nat) : Nat → rx_L → List Value → Option rx_H → Option Int32 := fun t ls st u => Bool.rec (motive := fun _ => Option Int32) (none) (n_X7_least_31 (f_X7_least_31 F F.1) ls st u) (Nat.beq t 31)
set_option maxRecDepth 100000 in
theorem g_X7_least_31 (F : Nat × Nat) (f : Nat) (x3 : Int32) (x4 : Int32) (x5 : Int32) : f_X7_least_31 F (f + 1) x3 x4 x5 = rx_node (C_X7_least F) rx_rI t_X7_least [31] (kk_X7_least_31 F (f_X7_least_31 F f)) 47 31 [none, none, none, some (.int x3), some (.int x4), some (.int x5), none] [] none := rfl
set_option maxRecDepth 100000 in
theorem g_X7_least_0 (F : Nat × Nat) (x1 : Int32) (x2 : Int32) : f_X7_least_0 F x1 x2 = rx_node (C_X7_least F) rx_rI t_X7_least [31] (kk_X7_least_0 F) 47 0 [none, some (.int x1), some (.int x2), none, none, none, none] [] none := rfl
def f_X7_power_5 (F : Nat × Nat) : Nat → Int32 → Int32 → Int64 → Int32 → Option Int64
  | 0, _, _, _, _ => none
  | f + 1, x0, x1, x2, x4 =>
    if x4 < x1 then
      (f_X7_power_5 F f) x0 x1 (x2 * (Int32.toInt64 x0)) (x4 + 1)
    else
      some x2
def f_X7_power_0 (F : Nat × Nat) (x0 : Int32) (x1 : Int32) : Option Int64 :=
  f_X7_power_5 F F.1 x0 x1 (1 : Int64) (0 : Int32)
def f_X7_power (F : Nat × Nat) (x0 : Int32) (x1 : Int32) : Option Int64 := f_X7_power_0 F x0 x1
def c_X7_power {α : Type} (F : Nat × Nat) (as : List Value) (u : Option rx_H) (κ : rx_K α) : Option α := match as with
  | [.int a0, .int a1] => (f_X7_power F a0 a1).bind fun r => κ (some (.long r)) u
  | _ => none
noncomputable def C_X7_power {α : Type} (F : Nat × Nat) : rx_Cl α := fun j as u κ => none
def t_X7_power : List rx_E := [
  (0, .lconst 1, 1, 0, 0, 0, 0, 1, []),
  (1, .lstore_n 2, 1, 0, 0, 0, 0, 0, []),
  (2, .iconst 0, 1, 0, 0, 0, 0, 0, []),
  (3, .istore 4, 2, 0, 0, 0, 0, 0, []),
  (5, .iload 4, 2, 0, 0, 0, 0, 0, []),
  (7, .iload_n 1, 1, 0, 0, 0, 0, 0, []),
  (8, .if_icmp .ge 14, 3, 22, 0, 0, 0, 0, []),
  (11, .lload_n 2, 1, 0, 0, 0, 0, 0, []),
  (12, .iload_n 0, 1, 0, 0, 0, 0, 0, []),
  (13, .i2l, 1, 0, 0, 0, 0, 0, []),
  (14, .lmul, 1, 0, 0, 0, 0, 0, []),
  (15, .lstore_n 2, 1, 0, 0, 0, 0, 0, []),
  (16, .iinc 4 1, 3, 0, 0, 0, 1, 0, []),
  (19, .goto (-14), 3, 5, 0, 0, 0, 0, []),
  (22, .lload_n 2, 1, 0, 0, 0, 0, 0, []),
  (23, .lreturn, 1, 0, 0, 0, 0, 0, [])]
def n_X7_power_5 (k5 : Int32 → Int32 → Int64 → Int32 → Option Int64) (ls : rx_L) (st : List Value) (u : Option rx_H) : Option Int64 := match ls, st, u with
  | [some (.int x0), some (.int x1), some (.long x2), _, some (.int x4)], [], none => k5 x0 x1 x2 x4
  | _, _, _ => none
noncomputable def kk_X7_power_5 (F : Nat × Nat) (k5 : Int32 → Int32 → Int64 → Int32 → Option Int64) : Nat → rx_L → List Value → Option rx_H → Option Int64 := fun t ls st u => Bool.rec (motive := fun _ => Option Int64) (none) (n_X7_power_5 k5 ls st u) (Nat.beq t 5)
noncomputable def kk_X7_power_0 (F : Nat × Nat) : Nat → rx_L → List Value → Option rx_H → Option Int64 := fun t ls st u => Bool.rec (motive := fun _ => Option Int64) (none) (n_X7_power_5 (f_X7_power_5 F F.1) ls st u) (Nat.beq t 5)
set_option maxRecDepth 100000 in
theorem g_X7_power_5 (F : Nat × Nat) (f : Nat) (x0 : Int32) (x1 : Int32) (x2 : Int64) (x4 : Int32) : f_X7_power_5 F (f + 1) x0 x1 x2 x4 = rx_node (C_X7_power F) rx_rJ t_X7_power [5] (kk_X7_power_5 F (f_X7_power_5 F f)) 19 5 [some (.int x0), some (.int x1), some (.long x2), none, some (.int x4)] [] none := rfl
set_option maxRecDepth 100000 in
theorem g_X7_power_0 (F : Nat × Nat) (x0 : Int32) (x1 : Int32) : f_X7_power_0 F x0 x1 = rx_node (C_X7_power F) rx_rJ t_X7_power [5] (kk_X7_power_0 F) 19 0 [some (.int x0), some (.int x1), none, none, none] [] none := rfl
