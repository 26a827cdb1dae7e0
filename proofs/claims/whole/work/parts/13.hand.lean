/-! The two methods in which something is thrown and caught, as functions; their contracts are proved by hand. -/
/-- a cell of which nothing is kept: an exception's -/
def rx_exc : rx_C := .inl (6, .inr (.inr (.inl fun _ => 0)))
def f_X6_toss (F : Nat × Nat) (x0 : Nat) (x1 : Int32) (u : Option rx_H) : Option (Int32 × Option rx_H) :=
  (rx_ck u x0 2).bind fun _ =>
  (f_X6_familyRefusal F x0 x1 1 u).bind fun v1 =>
  if v1.1 = 0 then
    (rx_gR v1.2 x0 2 2).bind fun v2 =>
    (rx_aR v1.2 v2 x1).bind fun v3 =>
    (rx_gI v1.2 v3 0 0).bind fun v4 =>
    (f_X1_hasNumber F v4).bind fun v5 =>
    if v5 = 0 then
      some (-15, v1.2)
    else
      (rx_push v1.2 rx_exc).bind fun v6 =>
      (rx_gR v6.2 x0 2 2).bind fun v7 =>
      (rx_aR v6.2 v7 x1).bind fun v8 =>
      (rx_gI v6.2 v8 0 1).bind fun v9 =>
      some (v9, v6.2)
  else
    some (v1.1, v1.2)
def c_X6_toss {α : Type} (F : Nat × Nat) (as : List Value) (u : Option rx_H) (κ : rx_K α) : Option α := match as with
  | [.ref a0, .int a1] => (f_X6_toss F a0 a1 u).bind fun r => κ (some (.int r.1)) r.2
  | _ => none
def f_L_element (F : Nat × Nat) (x0 : Nat) (x1 x2 : Int32) (x3 : Nat) (u : Option rx_H) : Option (Int32 × Option rx_H) :=
  (rx_ck u x0 2).bind fun _ =>
  (f_X6_isPlace F x0 x1).bind fun v1 =>
  if v1 = 0 then
    (rx_push u rx_exc).bind fun q => some (1, q.2)
  else
    (rx_gR u x0 2 2).bind fun v2 =>
    (rx_aR u v2 x1).bind fun v3 =>
    (rx_ck u v3 0).bind fun _ =>
    (f_X4_isRow F v3 u).bind fun v4 =>
    if v4.1 = 0 then
      (rx_push v4.2 rx_exc).bind fun q => some (2, q.2)
    else
      if x2 < 0 then
        (rx_push v4.2 rx_exc).bind fun q => some (2, q.2)
      else
        (rx_gI v4.2 v3 0 4).bind fun v5 =>
        if x2 < v5 then
          (rx_gR v4.2 v3 0 5).bind fun v6 =>
          (rx_aJ v4.2 v6 x2).bind fun v7 =>
          (rx_sJ v4.2 x3 0 v7).bind fun v8 =>
          some (0, v8)
        else
          (rx_push v4.2 rx_exc).bind fun q => some (2, q.2)
def c_L_element {α : Type} (F : Nat × Nat) (as : List Value) (u : Option rx_H) (κ : rx_K α) : Option α := match as with
  | [.ref a0, .int a1, .int a2, .ref a3] => (f_L_element F a0 a1 a2 a3 u).bind fun r => κ (some (.int r.1)) r.2
  | _ => none
