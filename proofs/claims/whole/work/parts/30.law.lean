def f_L_law_252 (F : Nat × Nat) (k33 : Nat → Nat → Nat → Nat → Int32 → Option rx_H → Option (Int32 × Option rx_H)) (x0 : Nat) (x1 : Nat) (x2 : Nat) (x3 : Nat) (x4 : Int32) (u : Option rx_H) : Option (Int32 × Option rx_H) :=
  (rx_aI u x0 (x4 + (1 : Int32))).bind fun v1 =>
  (rx_aI u x0 (x4 + (2 : Int32))).bind fun v2 =>
  (rx_aI u x0 (x4 + (3 : Int32))).bind fun v3 =>
  (rx_ck u x1 2).bind fun _ =>
  (f_X6_make F x1 v1 v2 v3 u).bind fun v4 =>
  (rx_aI v4.2 x0 (x4 + (1 : Int32))).bind fun v5 =>
  (rx_aI v4.2 x0 (x4 + (2 : Int32))).bind fun v6 =>
  (rx_aI v4.2 x0 (x4 + (3 : Int32))).bind fun v7 =>
  (rx_ck v4.2 x2 3).bind fun _ =>
  (f_X7_make F x2 v5 v6 v7 v4.2).bind fun v8 =>
  if v4.1 = v8.1 then
    k33 x0 x1 x2 x3 (x4 + 6) v8.2
  else
    some ((0 : Int32), v8.2)
def f_L_law_301 (F : Nat × Nat) (k33 : Nat → Nat → Nat → Nat → Int32 → Option rx_H → Option (Int32 × Option rx_H)) (x0 : Nat) (x1 : Nat) (x2 : Nat) (x3 : Nat) (x4 : Int32) (u : Option rx_H) : Option (Int32 × Option rx_H) :=
  (rx_aI u x0 (x4 + (1 : Int32))).bind fun v1 =>
  (rx_aI u x0 (x4 + (2 : Int32))).bind fun v2 =>
  (rx_aI u x0 (x4 + (3 : Int32))).bind fun v3 =>
  (rx_ck u x1 2).bind fun _ =>
  (f_X6_cross F x1 v1 v2 v3 u).bind fun v4 =>
  (rx_aI v4.2 x0 (x4 + (1 : Int32))).bind fun v5 =>
  (rx_aI v4.2 x0 (x4 + (2 : Int32))).bind fun v6 =>
  (rx_aI v4.2 x0 (x4 + (3 : Int32))).bind fun v7 =>
  (rx_ck v4.2 x2 3).bind fun _ =>
  (f_X7_cross F x2 v5 v6 v7 v4.2).bind fun v8 =>
  if v4.1 = v8.1 then
    k33 x0 x1 x2 x3 (x4 + 6) v8.2
  else
    some ((0 : Int32), v8.2)
def f_L_law_350 (F : Nat × Nat) (k33 : Nat → Nat → Nat → Nat → Int32 → Option rx_H → Option (Int32 × Option rx_H)) (x0 : Nat) (x1 : Nat) (x2 : Nat) (x3 : Nat) (x4 : Int32) (u : Option rx_H) : Option (Int32 × Option rx_H) :=
  (rx_aI u x0 (x4 + (1 : Int32))).bind fun v1 =>
  (rx_aI u x0 (x4 + (2 : Int32))).bind fun v2 =>
  (rx_ck u x1 2).bind fun _ =>
  (f_X6_add F x1 v1 v2 u).bind fun v3 =>
  (rx_aI v3.2 x0 (x4 + (1 : Int32))).bind fun v4 =>
  (rx_aI v3.2 x0 (x4 + (2 : Int32))).bind fun v5 =>
  (rx_ck v3.2 x2 3).bind fun _ =>
  (f_X7_add F x2 v4 v5 v3.2).bind fun v6 =>
  if v3.1 = v6.1 then
    k33 x0 x1 x2 x3 (x4 + 6) v6.2
  else
    some ((0 : Int32), v6.2)
def f_L_law_387 (F : Nat × Nat) (k33 : Nat → Nat → Nat → Nat → Int32 → Option rx_H → Option (Int32 × Option rx_H)) (x0 : Nat) (x1 : Nat) (x2 : Nat) (x3 : Nat) (x4 : Int32) (u : Option rx_H) : Option (Int32 × Option rx_H) :=
  (rx_aI u x0 (x4 + (1 : Int32))).bind fun v1 =>
  (rx_aI u x0 (x4 + (2 : Int32))).bind fun v2 =>
  (rx_ck u x1 2).bind fun _ =>
  (f_X6_drop F x1 v1 v2 u).bind fun v3 =>
  (rx_aI v3.2 x0 (x4 + (1 : Int32))).bind fun v4 =>
  (rx_aI v3.2 x0 (x4 + (2 : Int32))).bind fun v5 =>
  (rx_ck v3.2 x2 3).bind fun _ =>
  (f_X7_drop F x2 v4 v5 v3.2).bind fun v6 =>
  if v3.1 = v6.1 then
    k33 x0 x1 x2 x3 (x4 + 6) v6.2
  else
    some ((0 : Int32), v6.2)
def f_L_law_424 (F : Nat × Nat) (k33 : Nat → Nat → Nat → Nat → Int32 → Option rx_H → Option (Int32 × Option rx_H)) (x0 : Nat) (x1 : Nat) (x2 : Nat) (x3 : Nat) (x4 : Int32) (u : Option rx_H) : Option (Int32 × Option rx_H) :=
  (rx_ck u x1 2).bind fun _ =>
  (f_X6_clash F x1 u).bind fun v1 =>
  (rx_ck v1.2 x2 3).bind fun _ =>
  (f_X7_clash F x2 v1.2).bind fun v2 =>
  if v1.1 = v2.1 then
    k33 x0 x1 x2 x3 (x4 + 6) v2.2
  else
    some ((0 : Int32), v2.2)
def f_L_law_437 (F : Nat × Nat) (k33 : Nat → Nat → Nat → Nat → Int32 → Option rx_H → Option (Int32 × Option rx_H)) (x0 : Nat) (x1 : Nat) (x2 : Nat) (x3 : Nat) (x4 : Int32) (u : Option rx_H) : Option (Int32 × Option rx_H) :=
  (rx_aI u x0 (x4 + (1 : Int32))).bind fun v1 =>
  (rx_ck u x1 2).bind fun _ =>
  (f_X6_empty F x1 v1 u).bind fun v2 =>
  (rx_aI v2.2 x0 (x4 + (1 : Int32))).bind fun v3 =>
  (rx_ck v2.2 x2 3).bind fun _ =>
  (f_X7_empty F x2 v3 v2.2).bind fun v4 =>
  if v2.1 = v4.1 then
    k33 x0 x1 x2 x3 (x4 + 6) v4.2
  else
    some ((0 : Int32), v4.2)
def f_L_law_462 (F : Nat × Nat) (k33 : Nat → Nat → Nat → Nat → Int32 → Option rx_H → Option (Int32 × Option rx_H)) (x0 : Nat) (x1 : Nat) (x2 : Nat) (x3 : Nat) (x4 : Int32) (u : Option rx_H) : Option (Int32 × Option rx_H) :=
  (rx_aI u x0 (x4 + (1 : Int32))).bind fun v1 =>
  (rx_ck u x1 2).bind fun _ =>
  (f_X6_holds F x1 v1 u).bind fun v2 =>
  (rx_aI v2.2 x0 (x4 + (1 : Int32))).bind fun v3 =>
  (rx_ck v2.2 x2 3).bind fun _ =>
  (f_X7_holds F x2 v3 v2.2).bind fun v4 =>
  if v2.1 = v4.1 then
    k33 x0 x1 x2 x3 (x4 + 6) v4.2
  else
    some ((0 : Int32), v4.2)
def f_L_law_487 (F : Nat × Nat) (k33 : Nat → Nat → Nat → Nat → Int32 → Option rx_H → Option (Int32 × Option rx_H)) (x0 : Nat) (x1 : Nat) (x2 : Nat) (x3 : Nat) (x4 : Int32) (u : Option rx_H) : Option (Int32 × Option rx_H) :=
  (rx_aI u x0 (x4 + (1 : Int32))).bind fun v1 =>
  (rx_aI u x0 (x4 + (2 : Int32))).bind fun v2 =>
  (rx_ck u x1 2).bind fun _ =>
  (f_X6_count F x1 v1 v2 u).bind fun v3 =>
  (rx_aI v3.2 x0 (x4 + (1 : Int32))).bind fun v4 =>
  (rx_aI v3.2 x0 (x4 + (2 : Int32))).bind fun v5 =>
  (rx_ck v3.2 x2 3).bind fun _ =>
  (f_X7_count F x2 v4 v5 v3.2).bind fun v6 =>
  if v3.1 = v6.1 then
    k33 x0 x1 x2 x3 (x4 + 6) v6.2
  else
    some ((0 : Int32), v6.2)
def f_L_law_524 (F : Nat × Nat) (k33 : Nat → Nat → Nat → Nat → Int32 → Option rx_H → Option (Int32 × Option rx_H)) (x0 : Nat) (x1 : Nat) (x2 : Nat) (x3 : Nat) (x4 : Int32) (u : Option rx_H) : Option (Int32 × Option rx_H) :=
  (rx_aI u x0 (x4 + (1 : Int32))).bind fun v1 =>
  (rx_aI u x0 (x4 + (2 : Int32))).bind fun v2 =>
  (rx_ck u x1 2).bind fun _ =>
  (f_X6_has F x1 v1 v2 u).bind fun v3 =>
  (rx_aI v3.2 x0 (x4 + (1 : Int32))).bind fun v4 =>
  (rx_aI v3.2 x0 (x4 + (2 : Int32))).bind fun v5 =>
  (rx_ck v3.2 x2 3).bind fun _ =>
  (f_X7_has_ F x2 v4 v5 v3.2).bind fun v6 =>
  if v3.1 = v6.1 then
    k33 x0 x1 x2 x3 (x4 + 6) v6.2
  else
    some ((0 : Int32), v6.2)
def f_L_law_561 (F : Nat × Nat) (k33 : Nat → Nat → Nat → Nat → Int32 → Option rx_H → Option (Int32 × Option rx_H)) (x0 : Nat) (x1 : Nat) (x2 : Nat) (x3 : Nat) (x4 : Int32) (u : Option rx_H) : Option (Int32 × Option rx_H) :=
  (rx_aI u x0 (x4 + (1 : Int32))).bind fun v1 =>
  (rx_aI u x0 (x4 + (2 : Int32))).bind fun v2 =>
  (rx_ck u x1 2).bind fun _ =>
  (f_X6_set F x1 v1 v2 u).bind fun v3 =>
  (rx_aI v3.2 x0 (x4 + (1 : Int32))).bind fun v4 =>
  (rx_aI v3.2 x0 (x4 + (2 : Int32))).bind fun v5 =>
  (rx_ck v3.2 x2 3).bind fun _ =>
  (f_X7_set F x2 v4 v5 v3.2).bind fun v6 =>
  if v3.1 = v6.1 then
    k33 x0 x1 x2 x3 (x4 + 6) v6.2
  else
    some ((0 : Int32), v6.2)
def f_L_law_598 (F : Nat × Nat) (k33 : Nat → Nat → Nat → Nat → Int32 → Option rx_H → Option (Int32 × Option rx_H)) (x0 : Nat) (x1 : Nat) (x2 : Nat) (x3 : Nat) (x4 : Int32) (u : Option rx_H) : Option (Int32 × Option rx_H) :=
  (rx_aI u x0 (x4 + (1 : Int32))).bind fun v1 =>
  (rx_aI u x0 (x4 + (2 : Int32))).bind fun v2 =>
  (rx_aI u x0 (x4 + (3 : Int32))).bind fun v3 =>
  (rx_ck u x1 2).bind fun _ =>
  (f_X6_is F x1 v1 v2 v3 u).bind fun v4 =>
  (rx_aI v4.2 x0 (x4 + (1 : Int32))).bind fun v5 =>
  (rx_aI v4.2 x0 (x4 + (2 : Int32))).bind fun v6 =>
  (rx_aI v4.2 x0 (x4 + (3 : Int32))).bind fun v7 =>
  (rx_ck v4.2 x2 3).bind fun _ =>
  (f_X7_is F x2 v5 v6 v7 v4.2).bind fun v8 =>
  if v4.1 = v8.1 then
    k33 x0 x1 x2 x3 (x4 + 6) v8.2
  else
    some ((0 : Int32), v8.2)
def f_L_law_647 (F : Nat × Nat) (k33 : Nat → Nat → Nat → Nat → Int32 → Option rx_H → Option (Int32 × Option rx_H)) (x0 : Nat) (x1 : Nat) (x2 : Nat) (x3 : Nat) (x4 : Int32) (u : Option rx_H) : Option (Int32 × Option rx_H) :=
  (rx_aI u x0 (x4 + (1 : Int32))).bind fun v1 =>
  (rx_aI u x0 (x4 + (2 : Int32))).bind fun v2 =>
  (rx_ck u x1 2).bind fun _ =>
  (f_X6_shadow F x1 v1 v2 u).bind fun v3 =>
  (rx_aI v3.2 x0 (x4 + (1 : Int32))).bind fun v4 =>
  (rx_aI v3.2 x0 (x4 + (2 : Int32))).bind fun v5 =>
  (rx_ck v3.2 x2 3).bind fun _ =>
  (f_X7_shadow F x2 v4 v5 v3.2).bind fun v6 =>
  if v3.1 = v6.1 then
    k33 x0 x1 x2 x3 (x4 + 6) v6.2
  else
    some ((0 : Int32), v6.2)
def f_L_law_684 (F : Nat × Nat) (k33 : Nat → Nat → Nat → Nat → Int32 → Option rx_H → Option (Int32 × Option rx_H)) (x0 : Nat) (x1 : Nat) (x2 : Nat) (x3 : Nat) (x4 : Int32) (u : Option rx_H) : Option (Int32 × Option rx_H) :=
  (rx_aI u x0 (x4 + (1 : Int32))).bind fun v1 =>
  (rx_aI u x0 (x4 + (2 : Int32))).bind fun v2 =>
  (rx_ck u x1 2).bind fun _ =>
  (f_X6_up F x1 v1 v2 u).bind fun v3 =>
  (rx_aI v3.2 x0 (x4 + (1 : Int32))).bind fun v4 =>
  (rx_aI v3.2 x0 (x4 + (2 : Int32))).bind fun v5 =>
  (rx_ck v3.2 x2 3).bind fun _ =>
  (f_X7_up F x2 v4 v5 v3.2).bind fun v6 =>
  if v3.1 = v6.1 then
    k33 x0 x1 x2 x3 (x4 + 6) v6.2
  else
    some ((0 : Int32), v6.2)
def f_L_law_772 (F : Nat × Nat) (k33 : Nat → Nat → Nat → Nat → Int32 → Option rx_H → Option (Int32 × Option rx_H)) (x0 : Nat) (x1 : Nat) (x2 : Nat) (x3 : Nat) (x4 : Int32) (s0 : Int32) (s1 : Nat) (s2 : Int32) (s3 : Int32) (u : Option rx_H) : Option (Int32 × Option rx_H) :=
  (rx_aI u x0 (x4 + (3 : Int32))).bind fun v1 =>
  (rx_ck u s1 3).bind fun _ =>
  (f_X7_closed F s1 s2 s3 v1 u).bind fun v2 =>
  if s0 = v2.1 then
    k33 x0 x1 x2 x3 (x4 + 6) v2.2
  else
    some ((0 : Int32), v2.2)
def f_L_law_742 (F : Nat × Nat) (k33 : Nat → Nat → Nat → Nat → Int32 → Option rx_H → Option (Int32 × Option rx_H)) (x0 : Nat) (x1 : Nat) (x2 : Nat) (x3 : Nat) (x4 : Int32) (s0 : Nat) (s1 : Int32) (s2 : Int32) (u : Option rx_H) : Option (Int32 × Option rx_H) :=
  (rx_aI u x0 (x4 + (3 : Int32))).bind fun v1 =>
  (rx_ck u s0 2).bind fun _ =>
  (f_X6_closed F s0 s1 s2 v1 u).bind fun v2 =>
  (rx_aI v2.2 x0 (x4 + (1 : Int32))).bind fun v3 =>
  (rx_aI v2.2 x0 (x4 + (2 : Int32))).bind fun v4 =>
  if v4 = 0 then
    f_L_law_772 F k33 x0 x1 x2 x3 x4 v2.1 x2 v3 (0 : Int32) v2.2
  else
    f_L_law_772 F k33 x0 x1 x2 x3 x4 v2.1 x2 v3 (1 : Int32) v2.2
def f_L_law_721 (F : Nat × Nat) (k33 : Nat → Nat → Nat → Nat → Int32 → Option rx_H → Option (Int32 × Option rx_H)) (x0 : Nat) (x1 : Nat) (x2 : Nat) (x3 : Nat) (x4 : Int32) (u : Option rx_H) : Option (Int32 × Option rx_H) :=
  (rx_aI u x0 (x4 + (1 : Int32))).bind fun v1 =>
  (rx_aI u x0 (x4 + (2 : Int32))).bind fun v2 =>
  if v2 = 0 then
    f_L_law_742 F k33 x0 x1 x2 x3 x4 x1 v1 (0 : Int32) u
  else
    f_L_law_742 F k33 x0 x1 x2 x3 x4 x1 v1 (1 : Int32) u
def f_L_law_837 (F : Nat × Nat) (k33 : Nat → Nat → Nat → Nat → Int32 → Option rx_H → Option (Int32 × Option rx_H)) (x0 : Nat) (x1 : Nat) (x2 : Nat) (x3 : Nat) (x4 : Int32) (s0 : Int32) (s1 : Nat) (s2 : Int32) (s3 : Int32) (u : Option rx_H) : Option (Int32 × Option rx_H) :=
  (rx_aI u x0 (x4 + (3 : Int32))).bind fun v1 =>
  (rx_ck u s1 3).bind fun _ =>
  (f_X7_ends F s1 s2 s3 v1 u).bind fun v2 =>
  if s0 = v2.1 then
    k33 x0 x1 x2 x3 (x4 + 6) v2.2
  else
    some ((0 : Int32), v2.2)
def f_L_law_807 (F : Nat × Nat) (k33 : Nat → Nat → Nat → Nat → Int32 → Option rx_H → Option (Int32 × Option rx_H)) (x0 : Nat) (x1 : Nat) (x2 : Nat) (x3 : Nat) (x4 : Int32) (s0 : Nat) (s1 : Int32) (s2 : Int32) (u : Option rx_H) : Option (Int32 × Option rx_H) :=
  (rx_aI u x0 (x4 + (3 : Int32))).bind fun v1 =>
  (rx_ck u s0 2).bind fun _ =>
  (f_X6_ends F s0 s1 s2 v1 u).bind fun v2 =>
  (rx_aI v2.2 x0 (x4 + (1 : Int32))).bind fun v3 =>
  (rx_aI v2.2 x0 (x4 + (2 : Int32))).bind fun v4 =>
  if v4 = 0 then
    f_L_law_837 F k33 x0 x1 x2 x3 x4 v2.1 x2 v3 (0 : Int32) v2.2
  else
    f_L_law_837 F k33 x0 x1 x2 x3 x4 v2.1 x2 v3 (1 : Int32) v2.2
def f_L_law_786 (F : Nat × Nat) (k33 : Nat → Nat → Nat → Nat → Int32 → Option rx_H → Option (Int32 × Option rx_H)) (x0 : Nat) (x1 : Nat) (x2 : Nat) (x3 : Nat) (x4 : Int32) (u : Option rx_H) : Option (Int32 × Option rx_H) :=
  (rx_aI u x0 (x4 + (1 : Int32))).bind fun v1 =>
  (rx_aI u x0 (x4 + (2 : Int32))).bind fun v2 =>
  if v2 = 0 then
    f_L_law_807 F k33 x0 x1 x2 x3 x4 x1 v1 (0 : Int32) u
  else
    f_L_law_807 F k33 x0 x1 x2 x3 x4 x1 v1 (1 : Int32) u
def f_L_law_851 (F : Nat × Nat) (k33 : Nat → Nat → Nat → Nat → Int32 → Option rx_H → Option (Int32 × Option rx_H)) (x0 : Nat) (x1 : Nat) (x2 : Nat) (x3 : Nat) (x4 : Int32) (u : Option rx_H) : Option (Int32 × Option rx_H) :=
  (rx_aI u x0 (x4 + (1 : Int32))).bind fun v1 =>
  (rx_aI u x0 (x4 + (2 : Int32))).bind fun v2 =>
  (rx_aI u x0 (x4 + (3 : Int32))).bind fun v3 =>
  (rx_aI u x0 (x4 + (4 : Int32))).bind fun v4 =>
  (rx_ck u x1 2).bind fun _ =>
  (f_X6_mix F x1 v1 v2 v3 v4 u).bind fun v5 =>
  (rx_aI v5.2 x0 (x4 + (1 : Int32))).bind fun v6 =>
  (rx_aI v5.2 x0 (x4 + (2 : Int32))).bind fun v7 =>
  (rx_aI v5.2 x0 (x4 + (3 : Int32))).bind fun v8 =>
  (rx_aI v5.2 x0 (x4 + (4 : Int32))).bind fun v9 =>
  (rx_ck v5.2 x2 3).bind fun _ =>
  (f_X7_mix F x2 v6 v7 v8 v9 v5.2).bind fun v10 =>
  if v5.1 = v10.1 then
    k33 x0 x1 x2 x3 (x4 + 6) v10.2
  else
    some ((0 : Int32), v10.2)
def f_L_law_963 (F : Nat × Nat) (k33 : Nat → Nat → Nat → Nat → Int32 → Option rx_H → Option (Int32 × Option rx_H)) (x0 : Nat) (x1 : Nat) (x2 : Nat) (x3 : Nat) (x4 : Int32) (s0 : Int32) (s1 : Nat) (s2 : Int32) (s3 : Int32) (u : Option rx_H) : Option (Int32 × Option rx_H) :=
  (rx_aI u x0 (x4 + (3 : Int32))).bind fun v1 =>
  (rx_ck u s1 3).bind fun _ =>
  (f_X7_rest F s1 s2 s3 v1 u).bind fun v2 =>
  if s0 = v2.1 then
    k33 x0 x1 x2 x3 (x4 + 6) v2.2
  else
    some ((0 : Int32), v2.2)
def f_L_law_933 (F : Nat × Nat) (k33 : Nat → Nat → Nat → Nat → Int32 → Option rx_H → Option (Int32 × Option rx_H)) (x0 : Nat) (x1 : Nat) (x2 : Nat) (x3 : Nat) (x4 : Int32) (s0 : Nat) (s1 : Int32) (s2 : Int32) (u : Option rx_H) : Option (Int32 × Option rx_H) :=
  (rx_aI u x0 (x4 + (3 : Int32))).bind fun v1 =>
  (rx_ck u s0 2).bind fun _ =>
  (f_X6_rest F s0 s1 s2 v1 u).bind fun v2 =>
  (rx_aI v2.2 x0 (x4 + (1 : Int32))).bind fun v3 =>
  (rx_aI v2.2 x0 (x4 + (2 : Int32))).bind fun v4 =>
  if v4 = 0 then
    f_L_law_963 F k33 x0 x1 x2 x3 x4 v2.1 x2 v3 (0 : Int32) v2.2
  else
    f_L_law_963 F k33 x0 x1 x2 x3 x4 v2.1 x2 v3 (1 : Int32) v2.2
def f_L_law_912 (F : Nat × Nat) (k33 : Nat → Nat → Nat → Nat → Int32 → Option rx_H → Option (Int32 × Option rx_H)) (x0 : Nat) (x1 : Nat) (x2 : Nat) (x3 : Nat) (x4 : Int32) (u : Option rx_H) : Option (Int32 × Option rx_H) :=
  (rx_aI u x0 (x4 + (1 : Int32))).bind fun v1 =>
  (rx_aI u x0 (x4 + (2 : Int32))).bind fun v2 =>
  if v2 = 0 then
    f_L_law_933 F k33 x0 x1 x2 x3 x4 x1 v1 (0 : Int32) u
  else
    f_L_law_933 F k33 x0 x1 x2 x3 x4 x1 v1 (1 : Int32) u
def f_L_law_977 (F : Nat × Nat) (k33 : Nat → Nat → Nat → Nat → Int32 → Option rx_H → Option (Int32 × Option rx_H)) (x0 : Nat) (x1 : Nat) (x2 : Nat) (x3 : Nat) (x4 : Int32) (u : Option rx_H) : Option (Int32 × Option rx_H) :=
  (rx_aI u x0 (x4 + (1 : Int32))).bind fun v1 =>
  (rx_aI u x0 (x4 + (2 : Int32))).bind fun v2 =>
  (rx_aI u x0 (x4 + (3 : Int32))).bind fun v3 =>
  (rx_ck u x1 2).bind fun _ =>
  (f_X6_trace F x1 v1 v2 v3 u).bind fun v4 =>
  (rx_aI v4.2 x0 (x4 + (1 : Int32))).bind fun v5 =>
  (rx_aI v4.2 x0 (x4 + (2 : Int32))).bind fun v6 =>
  (rx_aI v4.2 x0 (x4 + (3 : Int32))).bind fun v7 =>
  (rx_ck v4.2 x2 3).bind fun _ =>
  (f_X7_trace F x2 v5 v6 v7 v4.2).bind fun v8 =>
  if v4.1 = v8.1 then
    k33 x0 x1 x2 x3 (x4 + 6) v8.2
  else
    some ((0 : Int32), v8.2)
def f_L_law_1026 (F : Nat × Nat) (k33 : Nat → Nat → Nat → Nat → Int32 → Option rx_H → Option (Int32 × Option rx_H)) (x0 : Nat) (x1 : Nat) (x2 : Nat) (x3 : Nat) (x4 : Int32) (u : Option rx_H) : Option (Int32 × Option rx_H) :=
  (rx_aI u x0 (x4 + (1 : Int32))).bind fun v1 =>
  (rx_aI u x0 (x4 + (2 : Int32))).bind fun v2 =>
  (rx_aI u x0 (x4 + (3 : Int32))).bind fun v3 =>
  (rx_ck u x1 2).bind fun _ =>
  (f_X6_turned F x1 v1 v2 v3 u).bind fun v4 =>
  (rx_aI v4.2 x0 (x4 + (1 : Int32))).bind fun v5 =>
  (rx_aI v4.2 x0 (x4 + (2 : Int32))).bind fun v6 =>
  (rx_aI v4.2 x0 (x4 + (3 : Int32))).bind fun v7 =>
  (rx_ck v4.2 x2 3).bind fun _ =>
  (f_X7_turned F x2 v5 v6 v7 v4.2).bind fun v8 =>
  if v4.1 = v8.1 then
    k33 x0 x1 x2 x3 (x4 + 6) v8.2
  else
    some ((0 : Int32), v8.2)
def f_L_law_1075 (F : Nat × Nat) (k33 : Nat → Nat → Nat → Nat → Int32 → Option rx_H → Option (Int32 × Option rx_H)) (x0 : Nat) (x1 : Nat) (x2 : Nat) (x3 : Nat) (x4 : Int32) (u : Option rx_H) : Option (Int32 × Option rx_H) :=
  (rx_aI u x0 (x4 + (1 : Int32))).bind fun v1 =>
  (rx_aI u x0 (x4 + (2 : Int32))).bind fun v2 =>
  (rx_aI u x0 (x4 + (3 : Int32))).bind fun v3 =>
  (rx_ck u x1 2).bind fun _ =>
  (f_X6_push F x1 v1 v2 v3 u).bind fun v4 =>
  (rx_aI v4.2 x0 (x4 + (1 : Int32))).bind fun v5 =>
  (rx_aI v4.2 x0 (x4 + (2 : Int32))).bind fun v6 =>
  (rx_aI v4.2 x0 (x4 + (3 : Int32))).bind fun v7 =>
  (rx_ck v4.2 x2 3).bind fun _ =>
  (f_X7_push F x2 v5 v6 v7 v4.2).bind fun v8 =>
  if v4.1 = v8.1 then
    k33 x0 x1 x2 x3 (x4 + 6) v8.2
  else
    some ((0 : Int32), v8.2)
def f_L_law_1124 (F : Nat × Nat) (k33 : Nat → Nat → Nat → Nat → Int32 → Option rx_H → Option (Int32 × Option rx_H)) (x0 : Nat) (x1 : Nat) (x2 : Nat) (x3 : Nat) (x4 : Int32) (u : Option rx_H) : Option (Int32 × Option rx_H) :=
  (rx_aI u x0 (x4 + (1 : Int32))).bind fun v1 =>
  (rx_ck u x1 2).bind fun _ =>
  (f_X6_pushed F x1 v1 u).bind fun v2 =>
  (rx_aI v2.2 x0 (x4 + (1 : Int32))).bind fun v3 =>
  (rx_ck v2.2 x2 3).bind fun _ =>
  (f_X7_pushed F x2 v3 v2.2).bind fun v4 =>
  if v2.1 = v4.1 then
    k33 x0 x1 x2 x3 (x4 + 6) v4.2
  else
    some ((0 : Int32), v4.2)
def f_L_law_1149 (F : Nat × Nat) (k33 : Nat → Nat → Nat → Nat → Int32 → Option rx_H → Option (Int32 × Option rx_H)) (x0 : Nat) (x1 : Nat) (x2 : Nat) (x3 : Nat) (x4 : Int32) (u : Option rx_H) : Option (Int32 × Option rx_H) :=
  (rx_aI u x0 (x4 + (1 : Int32))).bind fun v1 =>
  (rx_aI u x0 (x4 + (2 : Int32))).bind fun v2 =>
  (rx_aI u x0 (x4 + (3 : Int32))).bind fun v3 =>
  (rx_ck u x1 2).bind fun _ =>
  (f_X6_first F x1 v1 v2 v3 u).bind fun v4 =>
  (rx_aI v4.2 x0 (x4 + (1 : Int32))).bind fun v5 =>
  (rx_aI v4.2 x0 (x4 + (2 : Int32))).bind fun v6 =>
  (rx_aI v4.2 x0 (x4 + (3 : Int32))).bind fun v7 =>
  (rx_ck v4.2 x2 3).bind fun _ =>
  (f_X7_first F x2 v5 v6 v7 v4.2).bind fun v8 =>
  if v4.1 = v8.1 then
    k33 x0 x1 x2 x3 (x4 + 6) v8.2
  else
    some ((0 : Int32), v8.2)
def f_L_law_1198 (F : Nat × Nat) (k33 : Nat → Nat → Nat → Nat → Int32 → Option rx_H → Option (Int32 × Option rx_H)) (x0 : Nat) (x1 : Nat) (x2 : Nat) (x3 : Nat) (x4 : Int32) (u : Option rx_H) : Option (Int32 × Option rx_H) :=
  (rx_aI u x0 (x4 + (1 : Int32))).bind fun v1 =>
  (rx_ck u x1 2).bind fun _ =>
  (f_X6_sum F x1 v1 u).bind fun v2 =>
  (rx_aI v2.2 x0 (x4 + (1 : Int32))).bind fun v3 =>
  (rx_ck v2.2 x2 3).bind fun _ =>
  (f_X7_sum F x2 v3 v2.2).bind fun v4 =>
  if v2.1 = v4.1 then
    k33 x0 x1 x2 x3 (x4 + 6) v4.2
  else
    some ((0 : Int32), v4.2)
def f_L_law_1223 (F : Nat × Nat) (k33 : Nat → Nat → Nat → Nat → Int32 → Option rx_H → Option (Int32 × Option rx_H)) (x0 : Nat) (x1 : Nat) (x2 : Nat) (x3 : Nat) (x4 : Int32) (u : Option rx_H) : Option (Int32 × Option rx_H) :=
  (rx_aI u x0 (x4 + (1 : Int32))).bind fun v1 =>
  (rx_ck u x1 2).bind fun _ =>
  (f_X6_rank F x1 v1 u).bind fun v2 =>
  (rx_aI v2.2 x0 (x4 + (1 : Int32))).bind fun v3 =>
  (rx_ck v2.2 x2 3).bind fun _ =>
  (f_X7_rank F x2 v3 v2.2).bind fun v4 =>
  if v2.1 = v4.1 then
    k33 x0 x1 x2 x3 (x4 + 6) v4.2
  else
    some ((0 : Int32), v4.2)
def f_L_law_1248 (F : Nat × Nat) (k33 : Nat → Nat → Nat → Nat → Int32 → Option rx_H → Option (Int32 × Option rx_H)) (x0 : Nat) (x1 : Nat) (x2 : Nat) (x3 : Nat) (x4 : Int32) (u : Option rx_H) : Option (Int32 × Option rx_H) :=
  (rx_aI u x0 (x4 + (1 : Int32))).bind fun v1 =>
  (rx_aI u x0 (x4 + (2 : Int32))).bind fun v2 =>
  (rx_ck u x1 2).bind fun _ =>
  (f_X6_ranked F x1 v1 v2 u).bind fun v3 =>
  (rx_aI v3.2 x0 (x4 + (1 : Int32))).bind fun v4 =>
  (rx_aI v3.2 x0 (x4 + (2 : Int32))).bind fun v5 =>
  (rx_ck v3.2 x2 3).bind fun _ =>
  (f_X7_ranked F x2 v4 v5 v3.2).bind fun v6 =>
  if v3.1 = v6.1 then
    k33 x0 x1 x2 x3 (x4 + 6) v6.2
  else
    some ((0 : Int32), v6.2)
def f_L_law_1285 (F : Nat × Nat) (k33 : Nat → Nat → Nat → Nat → Int32 → Option rx_H → Option (Int32 × Option rx_H)) (x0 : Nat) (x1 : Nat) (x2 : Nat) (x3 : Nat) (x4 : Int32) (u : Option rx_H) : Option (Int32 × Option rx_H) :=
  (rx_aI u x0 (x4 + (1 : Int32))).bind fun v1 =>
  (rx_aI u x0 (x4 + (2 : Int32))).bind fun v2 =>
  (rx_aI u x0 (x4 + (3 : Int32))).bind fun v3 =>
  (rx_ck u x1 2).bind fun _ =>
  (f_X6_cascade F x1 v1 v2 v3).bind fun v4 =>
  (rx_aI u x0 (x4 + (1 : Int32))).bind fun v5 =>
  (rx_aI u x0 (x4 + (2 : Int32))).bind fun v6 =>
  (rx_aI u x0 (x4 + (3 : Int32))).bind fun v7 =>
  (rx_ck u x2 3).bind fun _ =>
  (f_X7_cascade F x2 v5 v6 v7).bind fun v8 =>
  if v4 = v8 then
    k33 x0 x1 x2 x3 (x4 + 6) u
  else
    some ((0 : Int32), u)
def f_L_law_1334 (F : Nat × Nat) (k33 : Nat → Nat → Nat → Nat → Int32 → Option rx_H → Option (Int32 × Option rx_H)) (x0 : Nat) (x1 : Nat) (x2 : Nat) (x3 : Nat) (x4 : Int32) (u : Option rx_H) : Option (Int32 × Option rx_H) :=
  (rx_aI u x0 (x4 + (1 : Int32))).bind fun v1 =>
  (rx_aI u x0 (x4 + (2 : Int32))).bind fun v2 =>
  (rx_ck u x1 2).bind fun _ =>
  (f_X6_least F x1 v1 v2).bind fun v3 =>
  (rx_aI u x0 (x4 + (1 : Int32))).bind fun v4 =>
  (rx_aI u x0 (x4 + (2 : Int32))).bind fun v5 =>
  (rx_ck u x2 3).bind fun _ =>
  (f_X7_least F x2 v4 v5).bind fun v6 =>
  if v3 = v6 then
    k33 x0 x1 x2 x3 (x4 + 6) u
  else
    some ((0 : Int32), u)
def f_L_law_1371 (F : Nat × Nat) (k33 : Nat → Nat → Nat → Nat → Int32 → Option rx_H → Option (Int32 × Option rx_H)) (x0 : Nat) (x1 : Nat) (x2 : Nat) (x3 : Nat) (x4 : Int32) (u : Option rx_H) : Option (Int32 × Option rx_H) :=
  (rx_aI u x0 (x4 + (1 : Int32))).bind fun v1 =>
  (rx_aI u x0 (x4 + (2 : Int32))).bind fun v2 =>
  (rx_ck u x1 2).bind fun _ =>
  (f_X6_chain F x1 v1 v2 u).bind fun v3 =>
  (rx_aI v3.2 x0 (x4 + (1 : Int32))).bind fun v4 =>
  (rx_aI v3.2 x0 (x4 + (2 : Int32))).bind fun v5 =>
  (rx_ck v3.2 x2 3).bind fun _ =>
  (f_X7_chain F x2 v4 v5 v3.2).bind fun v6 =>
  if v3.1 = v6.1 then
    k33 x0 x1 x2 x3 (x4 + 6) v6.2
  else
    some ((0 : Int32), v6.2)
def f_L_law_1408 (F : Nat × Nat) (k33 : Nat → Nat → Nat → Nat → Int32 → Option rx_H → Option (Int32 × Option rx_H)) (x0 : Nat) (x1 : Nat) (x2 : Nat) (x3 : Nat) (x4 : Int32) (u : Option rx_H) : Option (Int32 × Option rx_H) :=
  (rx_aI u x0 (x4 + (1 : Int32))).bind fun v1 =>
  (rx_aI u x0 (x4 + (2 : Int32))).bind fun v2 =>
  (rx_aI u x0 (x4 + (3 : Int32))).bind fun v3 =>
  (rx_ck u x1 2).bind fun _ =>
  (f_X6_ring F x1 v1 v2 v3 u).bind fun v4 =>
  (rx_aI v4.2 x0 (x4 + (1 : Int32))).bind fun v5 =>
  (rx_aI v4.2 x0 (x4 + (2 : Int32))).bind fun v6 =>
  (rx_aI v4.2 x0 (x4 + (3 : Int32))).bind fun v7 =>
  (rx_ck v4.2 x2 3).bind fun _ =>
  (f_X7_ring F x2 v5 v6 v7 v4.2).bind fun v8 =>
  if v4.1 = v8.1 then
    k33 x0 x1 x2 x3 (x4 + 6) v8.2
  else
    some ((0 : Int32), v8.2)
def f_L_law_1457 (F : Nat × Nat) (k33 : Nat → Nat → Nat → Nat → Int32 → Option rx_H → Option (Int32 × Option rx_H)) (x0 : Nat) (x1 : Nat) (x2 : Nat) (x3 : Nat) (x4 : Int32) (u : Option rx_H) : Option (Int32 × Option rx_H) :=
  (rx_aI u x0 (x4 + (1 : Int32))).bind fun v1 =>
  (rx_aI u x0 (x4 + (2 : Int32))).bind fun v2 =>
  (rx_aI u x0 (x4 + (3 : Int32))).bind fun v3 =>
  (rx_ck u x1 2).bind fun _ =>
  (f_X6_weight F x1 v1 v2 v3 u).bind fun v4 =>
  (rx_aI v4.2 x0 (x4 + (1 : Int32))).bind fun v5 =>
  (rx_aI v4.2 x0 (x4 + (2 : Int32))).bind fun v6 =>
  (rx_aI v4.2 x0 (x4 + (3 : Int32))).bind fun v7 =>
  (rx_ck v4.2 x2 3).bind fun _ =>
  (f_X7_weight F x2 v5 v6 v7 v4.2).bind fun v8 =>
  if v4.1 = v8.1 then
    k33 x0 x1 x2 x3 (x4 + 6) v8.2
  else
    some ((0 : Int32), v8.2)
def f_L_law_1507 (F : Nat × Nat) (k33 : Nat → Nat → Nat → Nat → Int32 → Option rx_H → Option (Int32 × Option rx_H)) (x0 : Nat) (x1 : Nat) (x2 : Nat) (x3 : Nat) (x4 : Int32) (u : Option rx_H) : Option (Int32 × Option rx_H) :=
  (rx_aI u x0 (x4 + (1 : Int32))).bind fun v1 =>
  (rx_aI u x0 (x4 + (2 : Int32))).bind fun v2 =>
  (rx_ck u x1 2).bind fun _ =>
  (f_X6_matters F x1 v1 v2 u).bind fun v3 =>
  (rx_aI v3.2 x0 (x4 + (1 : Int32))).bind fun v4 =>
  (rx_aI v3.2 x0 (x4 + (2 : Int32))).bind fun v5 =>
  (rx_ck v3.2 x2 3).bind fun _ =>
  (f_X7_matters F x2 v4 v5 v3.2).bind fun v6 =>
  if v3.1 = v6.1 then
    k33 x0 x1 x2 x3 (x4 + 6) v6.2
  else
    some ((0 : Int32), v6.2)
def f_L_law_1544 (F : Nat × Nat) (k33 : Nat → Nat → Nat → Nat → Int32 → Option rx_H → Option (Int32 × Option rx_H)) (x0 : Nat) (x1 : Nat) (x2 : Nat) (x3 : Nat) (x4 : Int32) (u : Option rx_H) : Option (Int32 × Option rx_H) :=
  (rx_aI u x0 (x4 + (1 : Int32))).bind fun v1 =>
  (rx_aI u x0 (x4 + (2 : Int32))).bind fun v2 =>
  (rx_ck u x1 2).bind fun _ =>
  (f_X6_product F x1 v1 v2 u).bind fun v3 =>
  (rx_aI v3.2 x0 (x4 + (1 : Int32))).bind fun v4 =>
  (rx_aI v3.2 x0 (x4 + (2 : Int32))).bind fun v5 =>
  (rx_ck v3.2 x2 3).bind fun _ =>
  (f_X7_product F x2 v4 v5 v3.2).bind fun v6 =>
  if v3.1 = v6.1 then
    k33 x0 x1 x2 x3 (x4 + 6) v6.2
  else
    some ((0 : Int32), v6.2)
def f_L_law_1581 (F : Nat × Nat) (k33 : Nat → Nat → Nat → Nat → Int32 → Option rx_H → Option (Int32 × Option rx_H)) (x0 : Nat) (x1 : Nat) (x2 : Nat) (x3 : Nat) (x4 : Int32) (u : Option rx_H) : Option (Int32 × Option rx_H) :=
  (rx_aI u x0 (x4 + (1 : Int32))).bind fun v1 =>
  (rx_aI u x0 (x4 + (2 : Int32))).bind fun v2 =>
  (rx_ck u x1 2).bind fun _ =>
  (f_X6_flower F x1 v1 v2 u).bind fun v3 =>
  (rx_aI v3.2 x0 (x4 + (1 : Int32))).bind fun v4 =>
  (rx_aI v3.2 x0 (x4 + (2 : Int32))).bind fun v5 =>
  (rx_ck v3.2 x2 3).bind fun _ =>
  (f_X7_flower F x2 v4 v5 v3.2).bind fun v6 =>
  if v3.1 = v6.1 then
    k33 x0 x1 x2 x3 (x4 + 6) v6.2
  else
    some ((0 : Int32), v6.2)
def f_L_law_1618 (F : Nat × Nat) (k33 : Nat → Nat → Nat → Nat → Int32 → Option rx_H → Option (Int32 × Option rx_H)) (x0 : Nat) (x1 : Nat) (x2 : Nat) (x3 : Nat) (x4 : Int32) (u : Option rx_H) : Option (Int32 × Option rx_H) :=
  (rx_aI u x0 (x4 + (1 : Int32))).bind fun v1 =>
  (rx_ck u x1 2).bind fun _ =>
  (f_X6_petal F x1 v1 u).bind fun v2 =>
  (rx_aI v2.2 x0 (x4 + (1 : Int32))).bind fun v3 =>
  (rx_ck v2.2 x2 3).bind fun _ =>
  (f_X7_petal F x2 v3 v2.2).bind fun v4 =>
  if v2.1 = v4.1 then
    k33 x0 x1 x2 x3 (x4 + 6) v4.2
  else
    some ((0 : Int32), v4.2)
def f_L_law_1643 (F : Nat × Nat) (k33 : Nat → Nat → Nat → Nat → Int32 → Option rx_H → Option (Int32 × Option rx_H)) (x0 : Nat) (x1 : Nat) (x2 : Nat) (x3 : Nat) (x4 : Int32) (u : Option rx_H) : Option (Int32 × Option rx_H) :=
  (rx_aI u x0 (x4 + (1 : Int32))).bind fun v1 =>
  (rx_ck u x1 2).bind fun _ =>
  (f_X6_cover F x1 v1 u).bind fun v2 =>
  (rx_aI v2.2 x0 (x4 + (1 : Int32))).bind fun v3 =>
  (rx_ck v2.2 x2 3).bind fun _ =>
  (f_X7_cover F x2 v3 v2.2).bind fun v4 =>
  if v2.1 = v4.1 then
    k33 x0 x1 x2 x3 (x4 + 6) v4.2
  else
    some ((0 : Int32), v4.2)
def f_L_law_1668 (F : Nat × Nat) (k33 : Nat → Nat → Nat → Nat → Int32 → Option rx_H → Option (Int32 × Option rx_H)) (x0 : Nat) (x1 : Nat) (x2 : Nat) (x3 : Nat) (x4 : Int32) (u : Option rx_H) : Option (Int32 × Option rx_H) :=
  (rx_aI u x0 (x4 + (1 : Int32))).bind fun v1 =>
  (rx_ck u x1 2).bind fun _ =>
  (f_X6_loose F x1 v1 u).bind fun v2 =>
  (rx_aI v2.2 x0 (x4 + (1 : Int32))).bind fun v3 =>
  (rx_ck v2.2 x2 3).bind fun _ =>
  (f_X7_loose F x2 v3 v2.2).bind fun v4 =>
  if v2.1 = v4.1 then
    k33 x0 x1 x2 x3 (x4 + 6) v4.2
  else
    some ((0 : Int32), v4.2)
def f_L_law_1693 (F : Nat × Nat) (k33 : Nat → Nat → Nat → Nat → Int32 → Option rx_H → Option (Int32 × Option rx_H)) (x0 : Nat) (x1 : Nat) (x2 : Nat) (x3 : Nat) (x4 : Int32) (u : Option rx_H) : Option (Int32 × Option rx_H) :=
  (rx_aI u x0 (x4 + (1 : Int32))).bind fun v1 =>
  (rx_aI u x0 (x4 + (2 : Int32))).bind fun v2 =>
  (rx_ck u x1 2).bind fun _ =>
  (f_X6_shattered F x1 v1 v2 u).bind fun v3 =>
  (rx_aI v3.2 x0 (x4 + (1 : Int32))).bind fun v4 =>
  (rx_aI v3.2 x0 (x4 + (2 : Int32))).bind fun v5 =>
  (rx_ck v3.2 x2 3).bind fun _ =>
  (f_X7_shattered F x2 v4 v5 v3.2).bind fun v6 =>
  if v3.1 = v6.1 then
    k33 x0 x1 x2 x3 (x4 + 6) v6.2
  else
    some ((0 : Int32), v6.2)
def f_L_law_1730 (F : Nat × Nat) (k33 : Nat → Nat → Nat → Nat → Int32 → Option rx_H → Option (Int32 × Option rx_H)) (x0 : Nat) (x1 : Nat) (x2 : Nat) (x3 : Nat) (x4 : Int32) (u : Option rx_H) : Option (Int32 × Option rx_H) :=
  (rx_aI u x0 (x4 + (1 : Int32))).bind fun v1 =>
  (rx_aI u x0 (x4 + (2 : Int32))).bind fun v2 =>
  (rx_aI u x0 (x4 + (3 : Int32))).bind fun v3 =>
  (rx_ck u x1 2).bind fun _ =>
  (f_X6_greatest F x1 v1 v2 v3 u).bind fun v4 =>
  (rx_aI v4.2 x0 (x4 + (1 : Int32))).bind fun v5 =>
  (rx_aI v4.2 x0 (x4 + (2 : Int32))).bind fun v6 =>
  (rx_aI v4.2 x0 (x4 + (3 : Int32))).bind fun v7 =>
  (rx_ck v4.2 x2 3).bind fun _ =>
  (f_X7_greatest F x2 v5 v6 v7 v4.2).bind fun v8 =>
  if v4.1 = v8.1 then
    k33 x0 x1 x2 x3 (x4 + 6) v8.2
  else
    some ((0 : Int32), v8.2)
def f_L_law_1779 (F : Nat × Nat) (k33 : Nat → Nat → Nat → Nat → Int32 → Option rx_H → Option (Int32 × Option rx_H)) (x0 : Nat) (x1 : Nat) (x2 : Nat) (x3 : Nat) (x4 : Int32) (u : Option rx_H) : Option (Int32 × Option rx_H) :=
  (rx_aI u x0 (x4 + (1 : Int32))).bind fun v1 =>
  (rx_aI u x0 (x4 + (2 : Int32))).bind fun v2 =>
  (rx_ck u x1 2).bind fun _ =>
  (f_X6_same F x1 v1 v2 u).bind fun v3 =>
  (rx_aI v3.2 x0 (x4 + (1 : Int32))).bind fun v4 =>
  (rx_aI v3.2 x0 (x4 + (2 : Int32))).bind fun v5 =>
  (rx_ck v3.2 x2 3).bind fun _ =>
  (f_X7_same F x2 v4 v5 v3.2).bind fun v6 =>
  if v3.1 = v6.1 then
    k33 x0 x1 x2 x3 (x4 + 6) v6.2
  else
    some ((0 : Int32), v6.2)
def f_L_law_1816 (F : Nat × Nat) (k33 : Nat → Nat → Nat → Nat → Int32 → Option rx_H → Option (Int32 × Option rx_H)) (x0 : Nat) (x1 : Nat) (x2 : Nat) (x3 : Nat) (x4 : Int32) (u : Option rx_H) : Option (Int32 × Option rx_H) :=
  (rx_aI u x0 (x4 + (1 : Int32))).bind fun v1 =>
  (rx_ck u x1 2).bind fun _ =>
  (f_X6_turns F x1 v1 u).bind fun v2 =>
  (rx_aI v2.2 x0 (x4 + (1 : Int32))).bind fun v3 =>
  (rx_ck v2.2 x2 3).bind fun _ =>
  (f_X7_turns F x2 v3 v2.2).bind fun v4 =>
  if v2.1 = v4.1 then
    k33 x0 x1 x2 x3 (x4 + 6) v4.2
  else
    some ((0 : Int32), v4.2)
def f_L_law_1841 (F : Nat × Nat) (k33 : Nat → Nat → Nat → Nat → Int32 → Option rx_H → Option (Int32 × Option rx_H)) (x0 : Nat) (x1 : Nat) (x2 : Nat) (x3 : Nat) (x4 : Int32) (u : Option rx_H) : Option (Int32 × Option rx_H) :=
  (rx_aI u x0 (x4 + (1 : Int32))).bind fun v1 =>
  (rx_aI u x0 (x4 + (2 : Int32))).bind fun v2 =>
  (rx_aI u x0 (x4 + (3 : Int32))).bind fun v3 =>
  (rx_ck u x1 2).bind fun _ =>
  (f_X6_row F x1 v1 v2 v3 u).bind fun v4 =>
  (rx_aI v4.2 x0 (x4 + (1 : Int32))).bind fun v5 =>
  (rx_aI v4.2 x0 (x4 + (2 : Int32))).bind fun v6 =>
  (rx_aI v4.2 x0 (x4 + (3 : Int32))).bind fun v7 =>
  (rx_ck v4.2 x2 3).bind fun _ =>
  (f_X7_row F x2 v5 v6 v7 v4.2).bind fun v8 =>
  if v4.1 = v8.1 then
    k33 x0 x1 x2 x3 (x4 + 6) v8.2
  else
    some ((0 : Int32), v8.2)
def f_L_law_1890 (F : Nat × Nat) (k33 : Nat → Nat → Nat → Nat → Int32 → Option rx_H → Option (Int32 × Option rx_H)) (x0 : Nat) (x1 : Nat) (x2 : Nat) (x3 : Nat) (x4 : Int32) (u : Option rx_H) : Option (Int32 × Option rx_H) :=
  (rx_aI u x0 (x4 + (1 : Int32))).bind fun v1 =>
  (rx_aI u x0 (x4 + (2 : Int32))).bind fun v2 =>
  (rx_aI u x0 (x4 + (3 : Int32))).bind fun v3 =>
  (rx_aI u x0 (x4 + (4 : Int32))).bind fun v4 =>
  (rx_ck u x1 2).bind fun _ =>
  (f_X6_put F x1 v1 v2 (((Int32.toInt64 v3) <<< (Int32.toInt64 (32 : Int32) &&& 63)) ||| ((Int32.toInt64 v4) &&& (4294967295 : Int64))) u).bind fun v5 =>
  (rx_aI v5.2 x0 (x4 + (1 : Int32))).bind fun v6 =>
  (rx_aI v5.2 x0 (x4 + (2 : Int32))).bind fun v7 =>
  (rx_aI v5.2 x0 (x4 + (3 : Int32))).bind fun v8 =>
  (rx_aI v5.2 x0 (x4 + (4 : Int32))).bind fun v9 =>
  (rx_ck v5.2 x2 3).bind fun _ =>
  (f_X7_put F x2 v6 v7 (((Int32.toInt64 v8) <<< (Int32.toInt64 (32 : Int32) &&& 63)) ||| ((Int32.toInt64 v9) &&& (4294967295 : Int64))) v5.2).bind fun v10 =>
  if v5.1 = v10.1 then
    k33 x0 x1 x2 x3 (x4 + 6) v10.2
  else
    some ((0 : Int32), v10.2)
def f_L_law_1971 (F : Nat × Nat) (k33 : Nat → Nat → Nat → Nat → Int32 → Option rx_H → Option (Int32 × Option rx_H)) (x0 : Nat) (x1 : Nat) (x2 : Nat) (x3 : Nat) (x4 : Int32) (u : Option rx_H) : Option (Int32 × Option rx_H) :=
  (rx_aI u x0 (x4 + (1 : Int32))).bind fun v1 =>
  (rx_aI u x0 (x4 + (2 : Int32))).bind fun v2 =>
  (f_L_element F x1 v1 v2 x3 u).bind fun v3 =>
  (rx_aI v3.2 x0 (x4 + (1 : Int32))).bind fun v4 =>
  (rx_aI v3.2 x0 (x4 + (2 : Int32))).bind fun v5 =>
  (rx_ck v3.2 x2 3).bind fun _ =>
  (f_X7_element F x2 v4 v5 v3.2).bind fun v6 =>
  (rx_ck v6.2 x2 3).bind fun _ =>
  (f_X7_thrown F x2 v6.2).bind fun v7 =>
  if v7.1 = v3.1 then
    if v3.1 = 0 then
      (rx_aJ v7.2 x3 (0 : Int32)).bind fun v8 =>
      if v8 = v6.1 then
        k33 x0 x1 x2 x3 (x4 + 6) v7.2
      else
        some ((0 : Int32), v7.2)
    else
      k33 x0 x1 x2 x3 (x4 + 6) v7.2
  else
    some ((0 : Int32), v7.2)
def f_L_law_2038 (F : Nat × Nat) (k33 : Nat → Nat → Nat → Nat → Int32 → Option rx_H → Option (Int32 × Option rx_H)) (x0 : Nat) (x1 : Nat) (x2 : Nat) (x3 : Nat) (x4 : Int32) (u : Option rx_H) : Option (Int32 × Option rx_H) :=
  (rx_aI u x0 (x4 + (1 : Int32))).bind fun v1 =>
  (rx_aI u x0 (x4 + (2 : Int32))).bind fun v2 =>
  (rx_aI u x0 (x4 + (3 : Int32))).bind fun v3 =>
  (rx_aI u x0 (x4 + (4 : Int32))).bind fun v4 =>
  (rx_aI u x0 (x4 + (5 : Int32))).bind fun v5 =>
  (rx_ck u x1 2).bind fun _ =>
  (f_X6_copy F x1 v1 v2 v3 v4 v5 u).bind fun v6 =>
  (rx_aI v6.2 x0 (x4 + (1 : Int32))).bind fun v7 =>
  (rx_aI v6.2 x0 (x4 + (2 : Int32))).bind fun v8 =>
  (rx_aI v6.2 x0 (x4 + (3 : Int32))).bind fun v9 =>
  (rx_aI v6.2 x0 (x4 + (4 : Int32))).bind fun v10 =>
  (rx_aI v6.2 x0 (x4 + (5 : Int32))).bind fun v11 =>
  (rx_ck v6.2 x2 3).bind fun _ =>
  (f_X7_copy F x2 v7 v8 v9 v10 v11 v6.2).bind fun v12 =>
  if v6.1 = v12.1 then
    k33 x0 x1 x2 x3 (x4 + 6) v12.2
  else
    some ((0 : Int32), v12.2)
def f_L_law_2111 (F : Nat × Nat) (k33 : Nat → Nat → Nat → Nat → Int32 → Option rx_H → Option (Int32 × Option rx_H)) (x0 : Nat) (x1 : Nat) (x2 : Nat) (x3 : Nat) (x4 : Int32) (u : Option rx_H) : Option (Int32 × Option rx_H) :=
  (rx_aI u x0 (x4 + (1 : Int32))).bind fun v1 =>
  (rx_aI u x0 (x4 + (2 : Int32))).bind fun v2 =>
  (rx_ck u x1 2).bind fun _ =>
  (f_X6_take F x1 v1 v2 u).bind fun v3 =>
  (rx_aI v3.2 x0 (x4 + (1 : Int32))).bind fun v4 =>
  (rx_aI v3.2 x0 (x4 + (2 : Int32))).bind fun v5 =>
  (rx_ck v3.2 x2 3).bind fun _ =>
  (f_X7_take F x2 v4 v5 v3.2).bind fun v6 =>
  if v3.1 = v6.1 then
    k33 x0 x1 x2 x3 (x4 + 6) v6.2
  else
    some ((0 : Int32), v6.2)
def f_L_law_2148 (F : Nat × Nat) (k33 : Nat → Nat → Nat → Nat → Int32 → Option rx_H → Option (Int32 × Option rx_H)) (x0 : Nat) (x1 : Nat) (x2 : Nat) (x3 : Nat) (x4 : Int32) (u : Option rx_H) : Option (Int32 × Option rx_H) :=
  (rx_aI u x0 (x4 + (1 : Int32))).bind fun v1 =>
  (rx_ck u x1 2).bind fun _ =>
  (f_X6_heft F x1 v1 u).bind fun v2 =>
  (rx_aI v2.2 x0 (x4 + (1 : Int32))).bind fun v3 =>
  (rx_ck v2.2 x2 3).bind fun _ =>
  (f_X7_heft F x2 v3 v2.2).bind fun v4 =>
  if v2.1 = v4.1 then
    k33 x0 x1 x2 x3 (x4 + 6) v4.2
  else
    some ((0 : Int32), v4.2)
def f_L_law_2173 (F : Nat × Nat) (k33 : Nat → Nat → Nat → Nat → Int32 → Option rx_H → Option (Int32 × Option rx_H)) (x0 : Nat) (x1 : Nat) (x2 : Nat) (x3 : Nat) (x4 : Int32) (u : Option rx_H) : Option (Int32 × Option rx_H) :=
  (rx_aI u x0 (x4 + (1 : Int32))).bind fun v1 =>
  (rx_ck u x1 2).bind fun _ =>
  (f_X6_toss F x1 v1 u).bind fun v2 =>
  (rx_aI v2.2 x0 (x4 + (1 : Int32))).bind fun v3 =>
  (rx_ck v2.2 x2 3).bind fun _ =>
  (f_X7_toss F x2 v3 v2.2).bind fun v4 =>
  if v2.1 = v4.1 then
    k33 x0 x1 x2 x3 (x4 + 6) v4.2
  else
    some ((0 : Int32), v4.2)
def f_L_law_33 (F : Nat × Nat) : Nat → Nat → Nat → Nat → Nat → Int32 → Option rx_H → Option (Int32 × Option rx_H)
  | 0, _, _, _, _, _, _ => none
  | f + 1, x0, x1, x2, x3, x4, u =>
    (rx_len u x0).bind fun v1 =>
    if v1 - (6 : Int32) < x4 then
      some ((1 : Int32), u)
    else
      (rx_aI u x0 x4).bind fun v2 =>
      if v2 &&& (63 : Int32) = 0 then
        f_L_law_252 F (f_L_law_33 F f) x0 x1 x2 x3 x4 u
      else if v2 &&& (63 : Int32) = 1 then
        f_L_law_301 F (f_L_law_33 F f) x0 x1 x2 x3 x4 u
      else if v2 &&& (63 : Int32) = 2 then
        f_L_law_350 F (f_L_law_33 F f) x0 x1 x2 x3 x4 u
      else if v2 &&& (63 : Int32) = 3 then
        f_L_law_387 F (f_L_law_33 F f) x0 x1 x2 x3 x4 u
      else if v2 &&& (63 : Int32) = 4 then
        f_L_law_424 F (f_L_law_33 F f) x0 x1 x2 x3 x4 u
      else if v2 &&& (63 : Int32) = 5 then
        f_L_law_437 F (f_L_law_33 F f) x0 x1 x2 x3 x4 u
      else if v2 &&& (63 : Int32) = 6 then
        f_L_law_462 F (f_L_law_33 F f) x0 x1 x2 x3 x4 u
      else if v2 &&& (63 : Int32) = 7 then
        f_L_law_487 F (f_L_law_33 F f) x0 x1 x2 x3 x4 u
      else if v2 &&& (63 : Int32) = 8 then
        f_L_law_524 F (f_L_law_33 F f) x0 x1 x2 x3 x4 u
      else if v2 &&& (63 : Int32) = 9 then
        f_L_law_561 F (f_L_law_33 F f) x0 x1 x2 x3 x4 u
      else if v2 &&& (63 : Int32) = 10 then
        f_L_law_598 F (f_L_law_33 F f) x0 x1 x2 x3 x4 u
      else if v2 &&& (63 : Int32) = 11 then
        f_L_law_647 F (f_L_law_33 F f) x0 x1 x2 x3 x4 u
      else if v2 &&& (63 : Int32) = 12 then
        f_L_law_684 F (f_L_law_33 F f) x0 x1 x2 x3 x4 u
      else if v2 &&& (63 : Int32) = 13 then
        f_L_law_721 F (f_L_law_33 F f) x0 x1 x2 x3 x4 u
      else if v2 &&& (63 : Int32) = 14 then
        f_L_law_786 F (f_L_law_33 F f) x0 x1 x2 x3 x4 u
      else if v2 &&& (63 : Int32) = 15 then
        f_L_law_851 F (f_L_law_33 F f) x0 x1 x2 x3 x4 u
      else if v2 &&& (63 : Int32) = 16 then
        f_L_law_912 F (f_L_law_33 F f) x0 x1 x2 x3 x4 u
      else if v2 &&& (63 : Int32) = 17 then
        f_L_law_977 F (f_L_law_33 F f) x0 x1 x2 x3 x4 u
      else if v2 &&& (63 : Int32) = 18 then
        f_L_law_1026 F (f_L_law_33 F f) x0 x1 x2 x3 x4 u
      else if v2 &&& (63 : Int32) = 19 then
        f_L_law_1075 F (f_L_law_33 F f) x0 x1 x2 x3 x4 u
      else if v2 &&& (63 : Int32) = 20 then
        f_L_law_1124 F (f_L_law_33 F f) x0 x1 x2 x3 x4 u
      else if v2 &&& (63 : Int32) = 21 then
        f_L_law_1149 F (f_L_law_33 F f) x0 x1 x2 x3 x4 u
      else if v2 &&& (63 : Int32) = 22 then
        f_L_law_1198 F (f_L_law_33 F f) x0 x1 x2 x3 x4 u
      else if v2 &&& (63 : Int32) = 23 then
        f_L_law_1223 F (f_L_law_33 F f) x0 x1 x2 x3 x4 u
      else if v2 &&& (63 : Int32) = 24 then
        f_L_law_1248 F (f_L_law_33 F f) x0 x1 x2 x3 x4 u
      else if v2 &&& (63 : Int32) = 25 then
        f_L_law_1285 F (f_L_law_33 F f) x0 x1 x2 x3 x4 u
      else if v2 &&& (63 : Int32) = 26 then
        f_L_law_1334 F (f_L_law_33 F f) x0 x1 x2 x3 x4 u
      else if v2 &&& (63 : Int32) = 27 then
        f_L_law_1371 F (f_L_law_33 F f) x0 x1 x2 x3 x4 u
      else if v2 &&& (63 : Int32) = 28 then
        f_L_law_1408 F (f_L_law_33 F f) x0 x1 x2 x3 x4 u
      else if v2 &&& (63 : Int32) = 29 then
        f_L_law_1457 F (f_L_law_33 F f) x0 x1 x2 x3 x4 u
      else if v2 &&& (63 : Int32) = 30 then
        f_L_law_1507 F (f_L_law_33 F f) x0 x1 x2 x3 x4 u
      else if v2 &&& (63 : Int32) = 31 then
        f_L_law_1544 F (f_L_law_33 F f) x0 x1 x2 x3 x4 u
      else if v2 &&& (63 : Int32) = 32 then
        f_L_law_1581 F (f_L_law_33 F f) x0 x1 x2 x3 x4 u
      else if v2 &&& (63 : Int32) = 33 then
        f_L_law_1618 F (f_L_law_33 F f) x0 x1 x2 x3 x4 u
      else if v2 &&& (63 : Int32) = 34 then
        f_L_law_1643 F (f_L_law_33 F f) x0 x1 x2 x3 x4 u
      else if v2 &&& (63 : Int32) = 35 then
        f_L_law_1668 F (f_L_law_33 F f) x0 x1 x2 x3 x4 u
      else if v2 &&& (63 : Int32) = 36 then
        f_L_law_1693 F (f_L_law_33 F f) x0 x1 x2 x3 x4 u
      else if v2 &&& (63 : Int32) = 37 then
        f_L_law_1730 F (f_L_law_33 F f) x0 x1 x2 x3 x4 u
      else if v2 &&& (63 : Int32) = 38 then
        f_L_law_1779 F (f_L_law_33 F f) x0 x1 x2 x3 x4 u
      else if v2 &&& (63 : Int32) = 39 then
        f_L_law_1816 F (f_L_law_33 F f) x0 x1 x2 x3 x4 u
      else if v2 &&& (63 : Int32) = 40 then
        f_L_law_1841 F (f_L_law_33 F f) x0 x1 x2 x3 x4 u
      else if v2 &&& (63 : Int32) = 41 then
        f_L_law_1890 F (f_L_law_33 F f) x0 x1 x2 x3 x4 u
      else if v2 &&& (63 : Int32) = 42 then
        f_L_law_1971 F (f_L_law_33 F f) x0 x1 x2 x3 x4 u
      else if v2 &&& (63 : Int32) = 43 then
        f_L_law_2038 F (f_L_law_33 F f) x0 x1 x2 x3 x4 u
      else if v2 &&& (63 : Int32) = 44 then
        f_L_law_2111 F (f_L_law_33 F f) x0 x1 x2 x3 x4 u
      else if v2 &&& (63 : Int32) = 45 then
        f_L_law_2148 F (f_L_law_33 F f) x0 x1 x2 x3 x4 u
      else if v2 &&& (63 : Int32) = 46 then
        f_L_law_2173 F (f_L_law_33 F f) x0 x1 x2 x3 x4 u
      else 
        (f_L_law_33 F f) x0 x1 x2 x3 (x4 + 6) u
def f_L_law_0 (F : Nat × Nat) (x0 : Nat) (u : Option rx_H) : Option (Int32 × Option rx_H) :=
  (rx_nO u 2).bind fun v1 =>
  (f_L_cell F x0 (0 : Int32) v1.2).bind fun v2 =>
  (f_X6_init F v1.1 v2.1 v2.2).bind fun v3 =>
  (rx_nO v3 3).bind fun v4 =>
  (f_L_cell F x0 (0 : Int32) v4.2).bind fun v5 =>
  (f_X7_init F v4.1 v5.1 v5.2).bind fun v6 =>
  (rx_nJ v6 (1 : Int32)).bind fun v7 =>
  f_L_law_33 F F.1 x0 v1.1 v4.1 v7.1 (1 : Int32) v7.2
def f_L_law (F : Nat × Nat) (x0 : Nat) (u : Option rx_H) : Option (Int32 × Option rx_H) := f_L_law_0 F x0 u
def c_L_law {α : Type} (F : Nat × Nat) (as : List Value) (u : Option rx_H) (κ : rx_K α) : Option α := match as with
  | [.ref a0] => (f_L_law F a0 u).bind fun r => κ (some (.int r.1)) r.2
  | _ => none
noncomputable def C_L_law {α : Type} (F : Nat × Nat) : rx_Cl α := fun j as u κ => Bool.rec (motive := fun _ => Option α) (Bool.rec (motive := fun _ => Option α) (Bool.rec (motive := fun _ => Option α) (Bool.rec (motive := fun _ => Option α) (Bool.rec (motive := fun _ => Option α) (Bool.rec (motive := fun _ => Option α) (Bool.rec (motive := fun _ => Option α) (Bool.rec (motive := fun _ => Option α) (Bool.rec (motive := fun _ => Option α) (Bool.rec (motive := fun _ => Option α) (Bool.rec (motive := fun _ => Option α) (Bool.rec (motive := fun _ => Option α) (Bool.rec (motive := fun _ => Option α) (Bool.rec (motive := fun _ => Option α) (Bool.rec (motive := fun _ => Option α) (Bool.rec (motive := fun _ => Option α) (Bool.rec (motive := fun _ => Option α) (Bool.rec (motive := fun _ => Option α) (Bool.rec (motive := fun _ => Option α) (Bool.rec (motive := fun _ => Option α) (Bool.rec (motive := fun _ => Option α) (Bool.rec (motive := fun _ => Option α) (Bool.rec (motive := fun _ => Option α) (Bool.rec (motive := fun _ => Option α) (Bool.rec (motive := fun _ => Option α) (Bool.rec (motive := fun _ => Option α) (Bool.rec (motive := fun _ => Option α) (Bool.rec (motive := fun _ => Option α) (Bool.rec (motive := fun _ => Option α) (Bool.rec (motive := fun _ => Option α) (Bool.rec (motive := fun _ => Option α) (Bool.rec (motive := fun _ => Option α) (Bool.rec (motive := fun _ => Option α) (Bool.rec (motive := fun _ => Option α) (Bool.rec (motive := fun _ => Option α) (Bool.rec (motive := fun _ => Option α) (Bool.rec (motive := fun _ => Option α) (Bool.rec (motive := fun _ => Option α) (Bool.rec (motive := fun _ => Option α) (Bool.rec (motive := fun _ => Option α) (Bool.rec (motive := fun _ => Option α) (Bool.rec (motive := fun _ => Option α) (Bool.rec (motive := fun _ => Option α) (Bool.rec (motive := fun _ => Option α) (Bool.rec (motive := fun _ => Option α) (Bool.rec (motive := fun _ => Option α) (Bool.rec (motive := fun _ => Option α) (Bool.rec (motive := fun _ => Option α) (Bool.rec (motive := fun _ => Option α) (Bool.rec (motive := fun _ => Option α) (Bool.rec (motive := fun _ => Option α) (Bool.rec (motive := fun _ => Option α) (Bool.rec (motive := fun _ => Option α) (Bool.rec (motive := fun _ => Option α) (Bool.rec (motive := fun _ => Option α) (Bool.rec (motive := fun _ => Option α) (Bool.rec (motive := fun _ => Option α) (Bool.rec (motive := fun _ => Option α) (Bool.rec (motive := fun _ => Option α) (Bool.rec (motive := fun _ => Option α) (Bool.rec (motive := fun _ => Option α) (Bool.rec (motive := fun _ => Option α) (Bool.rec (motive := fun _ => Option α) (Bool.rec (motive := fun _ => Option α) (Bool.rec (motive := fun _ => Option α) (Bool.rec (motive := fun _ => Option α) (Bool.rec (motive := fun _ => Option α) (Bool.rec (motive := fun _ => Option α) (Bool.rec (motive := fun _ => Option α) (Bool.rec (motive := fun _ => Option α) (Bool.rec (motive := fun _ => Option α) (Bool.rec (motive := fun _ => Option α) (Bool.rec (motive := fun _ => Option α) (Bool.rec (motive := fun _ => Option α) (Bool.rec (motive := fun _ => Option α) (Bool.rec (motive := fun _ => Option α) (Bool.rec (motive := fun _ => Option α) (Bool.rec (motive := fun _ => Option α) (Bool.rec (motive := fun _ => Option α) (Bool.rec (motive := fun _ => Option α) (Bool.rec (motive := fun _ => Option α) (Bool.rec (motive := fun _ => Option α) (Bool.rec (motive := fun _ => Option α) (Bool.rec (motive := fun _ => Option α) (Bool.rec (motive := fun _ => Option α) (Bool.rec (motive := fun _ => Option α) (Bool.rec (motive := fun _ => Option α) (Bool.rec (motive := fun _ => Option α) (Bool.rec (motive := fun _ => Option α) (Bool.rec (motive := fun _ => Option α) (Bool.rec (motive := fun _ => Option α) (Bool.rec (motive := fun _ => Option α) (Bool.rec (motive := fun _ => Option α) (Bool.rec (motive := fun _ => Option α) (Bool.rec (motive := fun _ => Option α) (Bool.rec (motive := fun _ => Option α) (Bool.rec (motive := fun _ => Option α) (Bool.rec (motive := fun _ => Option α) (none) (c_X7_weight F as u κ) (Nat.beq j 223)) (c_X7_up F as u κ) (Nat.beq j 222)) (c_X7_turns F as u κ) (Nat.beq j 221)) (c_X7_turned F as u κ) (Nat.beq j 218)) (c_X7_trace F as u κ) (Nat.beq j 216)) (c_X7_toss F as u κ) (Nat.beq j 215)) (c_X7_thrown F as u κ) (Nat.beq j 214)) (c_X7_take F as u κ) (Nat.beq j 213)) (c_X7_sum F as u κ) (Nat.beq j 211)) (c_X7_shattered F as u κ) (Nat.beq j 208)) (c_X7_shadow F as u κ) (Nat.beq j 205)) (c_X7_set F as u κ) (Nat.beq j 204)) (c_X7_same F as u κ) (Nat.beq j 203)) (c_X7_row F as u κ) (Nat.beq j 202)) (c_X7_ring F as u κ) (Nat.beq j 201)) (c_X7_rest F as u κ) (Nat.beq j 200)) (c_X7_ranked F as u κ) (Nat.beq j 199)) (c_X7_rank F as u κ) (Nat.beq j 198)) (c_X7_put F as u κ) (Nat.beq j 197)) (c_X7_pushed F as u κ) (Nat.beq j 195)) (c_X7_push F as u κ) (Nat.beq j 194)) (c_X7_product F as u κ) (Nat.beq j 193)) (c_X7_petal F as u κ) (Nat.beq j 191)) (c_X7_mix F as u κ) (Nat.beq j 186)) (c_X7_matters F as u κ) (Nat.beq j 185)) (c_X7_make F as u κ) (Nat.beq j 183)) (c_X7_loose F as u κ) (Nat.beq j 181)) (c_X7_least F as u κ) (Nat.beq j 180)) (c_X7_is F as u κ) (Nat.beq j 170)) (c_X7_init F as u κ) (Nat.beq j 169)) (c_X7_holds F as u κ) (Nat.beq j 167)) (c_X7_heft F as u κ) (Nat.beq j 165)) (c_X7_has_ F as u κ) (Nat.beq j 164)) (c_X7_greatest F as u κ) (Nat.beq j 161)) (c_X7_flower F as u κ) (Nat.beq j 159)) (c_X7_first F as u κ) (Nat.beq j 157)) (c_X7_ends F as u κ) (Nat.beq j 155)) (c_X7_empty F as u κ) (Nat.beq j 154)) (c_X7_element F as u κ) (Nat.beq j 153)) (c_X7_drop F as u κ) (Nat.beq j 151)) (c_X7_cross F as u κ) (Nat.beq j 150)) (c_X7_cover F as u κ) (Nat.beq j 149)) (c_X7_count F as u κ) (Nat.beq j 148)) (c_X7_copy F as u κ) (Nat.beq j 147)) (c_X7_closed F as u κ) (Nat.beq j 146)) (c_X7_clash F as u κ) (Nat.beq j 145)) (c_X7_chain F as u κ) (Nat.beq j 141)) (c_X7_cascade F as u κ) (Nat.beq j 140)) (c_X7_add F as u κ) (Nat.beq j 136)) (c_X6_weight F as u κ) (Nat.beq j 135)) (c_X6_up F as u κ) (Nat.beq j 134)) (c_X6_turns F as u κ) (Nat.beq j 133)) (c_X6_turned F as u κ) (Nat.beq j 132)) (c_X6_trace F as u κ) (Nat.beq j 131)) (c_X6_toss F as u κ) (Nat.beq j 130)) (c_X6_take F as u κ) (Nat.beq j 129)) (c_X6_sum F as u κ) (Nat.beq j 128)) (c_X6_shattered F as u κ) (Nat.beq j 127)) (c_X6_shadow F as u κ) (Nat.beq j 126)) (c_X6_set F as u κ) (Nat.beq j 125)) (c_X6_same F as u κ) (Nat.beq j 124)) (c_X6_row F as u κ) (Nat.beq j 122)) (c_X6_ring F as u κ) (Nat.beq j 121)) (c_X6_rest F as u κ) (Nat.beq j 120)) (c_X6_ranked F as u κ) (Nat.beq j 119)) (c_X6_rank F as u κ) (Nat.beq j 118)) (c_X6_put F as u κ) (Nat.beq j 117)) (c_X6_pushed F as u κ) (Nat.beq j 116)) (c_X6_push F as u κ) (Nat.beq j 115)) (c_X6_product F as u κ) (Nat.beq j 114)) (c_X6_petal F as u κ) (Nat.beq j 113)) (c_X6_mix F as u κ) (Nat.beq j 112)) (c_X6_matters F as u κ) (Nat.beq j 111)) (c_X6_make F as u κ) (Nat.beq j 110)) (c_X6_loose F as u κ) (Nat.beq j 109)) (c_X6_least F as u κ) (Nat.beq j 108)) (c_X6_is F as u κ) (Nat.beq j 100)) (c_X6_init F as u κ) (Nat.beq j 99)) (c_X6_holds F as u κ) (Nat.beq j 98)) (c_X6_heft F as u κ) (Nat.beq j 97)) (c_X6_has F as u κ) (Nat.beq j 96)) (c_X6_greatest F as u κ) (Nat.beq j 95)) (c_X6_flower F as u κ) (Nat.beq j 94)) (c_X6_first F as u κ) (Nat.beq j 93)) (c_X6_ends F as u κ) (Nat.beq j 90)) (c_X6_empty F as u κ) (Nat.beq j 89)) (c_X6_drop F as u κ) (Nat.beq j 87)) (c_X6_cross F as u κ) (Nat.beq j 86)) (c_X6_cover F as u κ) (Nat.beq j 85)) (c_X6_count F as u κ) (Nat.beq j 84)) (c_X6_copy F as u κ) (Nat.beq j 83)) (c_X6_closed F as u κ) (Nat.beq j 81)) (c_X6_clash F as u κ) (Nat.beq j 80)) (c_X6_chain F as u κ) (Nat.beq j 79)) (c_X6_cascade F as u κ) (Nat.beq j 78)) (c_X6_add F as u κ) (Nat.beq j 77)) (c_L_element F as u κ) (Nat.beq j 6)) (c_L_cell F as u κ) (Nat.beq j 5)
def t_L_law_p0 : List rx_E := [
  (0, .new 8, 3, 2, 0, 58, 0, 0, []),
  (3, .dup, 1, 0, 0, 0, 0, 0, []),
  (4, .aload_n 0, 1, 0, 0, 0, 0, 0, []),
  (5, .iconst 0, 1, 0, 0, 0, 0, 0, []),
  (6, .invokestatic 17, 3, 5, 2, 712, 0, 0, []),
  (9, .invokespecial 23, 3, 99, 2, 60, 0, 0, []),
  (12, .astore_n 1, 1, 0, 0, 0, 0, 0, []),
  (13, .new 26, 3, 3, 0, 747, 0, 0, []),
  (16, .dup, 1, 0, 0, 0, 0, 0, []),
  (17, .aload_n 0, 1, 0, 0, 0, 0, 0, []),
  (18, .iconst 0, 1, 0, 0, 0, 0, 0, []),
  (19, .invokestatic 17, 3, 5, 2, 712, 0, 0, []),
  (22, .invokespecial 28, 3, 169, 2, 749, 0, 0, []),
  (25, .astore_n 2, 1, 0, 0, 0, 0, 0, []),
  (26, .iconst 1, 1, 0, 0, 0, 1, 0, []),
  (27, .newarray .long, 2, 0, 0, 0, 0, 0, []),
  (29, .astore_n 3, 1, 0, 0, 0, 0, 0, []),
  (30, .iconst 1, 1, 0, 0, 0, 1, 0, []),
  (31, .istore 4, 2, 0, 0, 0, 0, 0, []),
  (33, .iload 4, 2, 0, 0, 0, 0, 0, []),
  (35, .aload_n 0, 1, 0, 0, 0, 0, 0, []),
  (36, .arraylength, 1, 0, 0, 0, 0, 0, []),
  (37, .bipush 6, 2, 0, 0, 0, 6, 0, []),
  (39, .isub, 1, 0, 0, 0, 0, 0, []),
  (40, .if_icmp .gt 2164, 3, 2204, 0, 0, 0, 0, []),
  (43, .aload_n 0, 1, 0, 0, 0, 0, 0, []),
  (44, .iload 4, 2, 0, 0, 0, 0, 0, []),
  (46, .iaload, 1, 0, 0, 0, 0, 0, []),
  (47, .bipush 63, 2, 0, 0, 0, 63, 0, []),
  (49, .iand, 1, 0, 0, 0, 0, 0, []),
  (50, .tableswitch 2148 0 46 #[202, 251, 300, 337, 374, 387, 412, 437, 474, 511, 548, 597, 634, 671, 736, 801, 862, 927, 976, 1025, 1074, 1099, 1148, 1173, 1198, 1235, 1284, 1321, 1358, 1407, 1457, 1494, 1531, 1568, 1593, 1618, 1643, 1680, 1729, 1766, 1791, 1840, 1921, 1988, 2061, 2098, 2123], 202, 2198, 0, 0, 0, 0, [(0, 252), (1, 301), (2, 350), (3, 387), (4, 424), (5, 437), (6, 462), (7, 487), (8, 524), (9, 561), (10, 598), (11, 647), (12, 684), (13, 721), (14, 786), (15, 851), (16, 912), (17, 977), (18, 1026), (19, 1075), (20, 1124), (21, 1149), (22, 1198), (23, 1223), (24, 1248), (25, 1285), (26, 1334), (27, 1371), (28, 1408), (29, 1457), (30, 1507), (31, 1544), (32, 1581), (33, 1618), (34, 1643), (35, 1668), (36, 1693), (37, 1730), (38, 1779), (39, 1816), (40, 1841), (41, 1890), (42, 1971), (43, 2038), (44, 2111), (45, 2148), (46, 2173)]),
  (252, .aload_n 1, 1, 0, 0, 0, 0, 0, []),
  (253, .aload_n 0, 1, 0, 0, 0, 0, 0, []),
  (254, .iload 4, 2, 0, 0, 0, 0, 0, []),
  (256, .iconst 1, 1, 0, 0, 0, 1, 0, []),
  (257, .iadd, 1, 0, 0, 0, 0, 0, []),
  (258, .iaload, 1, 0, 0, 0, 0, 0, []),
  (259, .aload_n 0, 1, 0, 0, 0, 0, 0, []),
  (260, .iload 4, 2, 0, 0, 0, 0, 0, []),
  (262, .iconst 2, 1, 0, 0, 0, 2, 0, []),
  (263, .iadd, 1, 0, 0, 0, 0, 0, []),
  (264, .iaload, 1, 0, 0, 0, 0, 0, []),
  (265, .aload_n 0, 1, 0, 0, 0, 0, 0, []),
  (266, .iload 4, 2, 0, 0, 0, 0, 0, []),
  (268, .iconst 3, 1, 0, 0, 0, 3, 0, []),
  (269, .iadd, 1, 0, 0, 0, 0, 0, []),
  (270, .iaload, 1, 0, 0, 0, 0, 0, []),
  (271, .invokevirtual 29, 3, 110, 204, 154, 0, 0, []),
  (274, .aload_n 2, 1, 0, 0, 0, 0, 0, []),
  (275, .aload_n 0, 1, 0, 0, 0, 0, 0, []),
  (276, .iload 4, 2, 0, 0, 0, 0, 0, []),
  (278, .iconst 1, 1, 0, 0, 0, 1, 0, []),
  (279, .iadd, 1, 0, 0, 0, 0, 0, []),
  (280, .iaload, 1, 0, 0, 0, 0, 0, []),
  (281, .aload_n 0, 1, 0, 0, 0, 0, 0, []),
  (282, .iload 4, 2, 0, 0, 0, 0, 0, []),
  (284, .iconst 2, 1, 0, 0, 0, 2, 0, []),
  (285, .iadd, 1, 0, 0, 0, 0, 0, []),
  (286, .iaload, 1, 0, 0, 0, 0, 0, []),
  (287, .aload_n 0, 1, 0, 0, 0, 0, 0, []),
  (288, .iload 4, 2, 0, 0, 0, 0, 0, []),
  (290, .iconst 3, 1, 0, 0, 0, 3, 0, []),
  (291, .iadd, 1, 0, 0, 0, 0, 0, []),
  (292, .iaload, 1, 0, 0, 0, 0, 0, []),
  (293, .invokevirtual 33, 3, 183, 304, 799, 0, 0, []),
  (296, .if_icmp .eq 1902, 3, 2198, 0, 0, 0, 0, []),
  (299, .iconst 0, 1, 0, 0, 0, 0, 0, []),
  (300, .ireturn, 1, 0, 2, 0, 0, 0, []),
  (301, .aload_n 1, 1, 0, 0, 0, 0, 0, []),
  (302, .aload_n 0, 1, 0, 0, 0, 0, 0, []),
  (303, .iload 4, 2, 0, 0, 0, 0, 0, []),
  (305, .iconst 1, 1, 0, 0, 0, 1, 0, []),
  (306, .iadd, 1, 0, 0, 0, 0, 0, []),
  (307, .iaload, 1, 0, 0, 0, 0, 0, []),
  (308, .aload_n 0, 1, 0, 0, 0, 0, 0, []),
  (309, .iload 4, 2, 0, 0, 0, 0, 0, []),
  (311, .iconst 2, 1, 0, 0, 0, 2, 0, []),
  (312, .iadd, 1, 0, 0, 0, 0, 0, []),
  (313, .iaload, 1, 0, 0, 0, 0, 0, []),
  (314, .aload_n 0, 1, 0, 0, 0, 0, 0, []),
  (315, .iload 4, 2, 0, 0, 0, 0, 0, []),
  (317, .iconst 3, 1, 0, 0, 0, 3, 0, []),
  (318, .iadd, 1, 0, 0, 0, 0, 0, []),
  (319, .iaload, 1, 0, 0, 0, 0, 0, []),
  (320, .invokevirtual 34, 3, 86, 204, 190, 0, 0, []),
  (323, .aload_n 2, 1, 0, 0, 0, 0, 0, []),
  (324, .aload_n 0, 1, 0, 0, 0, 0, 0, []),
  (325, .iload 4, 2, 0, 0, 0, 0, 0, []),
  (327, .iconst 1, 1, 0, 0, 0, 1, 0, []),
  (328, .iadd, 1, 0, 0, 0, 0, 0, []),
  (329, .iaload, 1, 0, 0, 0, 0, 0, []),
  (330, .aload_n 0, 1, 0, 0, 0, 0, 0, []),
  (331, .iload 4, 2, 0, 0, 0, 0, 0, []),
  (333, .iconst 2, 1, 0, 0, 0, 2, 0, []),
  (334, .iadd, 1, 0, 0, 0, 0, 0, []),
  (335, .iaload, 1, 0, 0, 0, 0, 0, []),
  (336, .aload_n 0, 1, 0, 0, 0, 0, 0, []),
  (337, .iload 4, 2, 0, 0, 0, 0, 0, []),
  (339, .iconst 3, 1, 0, 0, 0, 3, 0, []),
  (340, .iadd, 1, 0, 0, 0, 0, 0, [])]
def t_L_law_p1 : List rx_E := [
  (341, .iaload, 1, 0, 0, 0, 0, 0, []),
  (342, .invokevirtual 37, 3, 150, 304, 820, 0, 0, []),
  (345, .if_icmp .eq 1853, 3, 2198, 0, 0, 0, 0, []),
  (348, .iconst 0, 1, 0, 0, 0, 0, 0, []),
  (349, .ireturn, 1, 0, 2, 0, 0, 0, []),
  (350, .aload_n 1, 1, 0, 0, 0, 0, 0, []),
  (351, .aload_n 0, 1, 0, 0, 0, 0, 0, []),
  (352, .iload 4, 2, 0, 0, 0, 0, 0, []),
  (354, .iconst 1, 1, 0, 0, 0, 1, 0, []),
  (355, .iadd, 1, 0, 0, 0, 0, 0, []),
  (356, .iaload, 1, 0, 0, 0, 0, 0, []),
  (357, .aload_n 0, 1, 0, 0, 0, 0, 0, []),
  (358, .iload 4, 2, 0, 0, 0, 0, 0, []),
  (360, .iconst 2, 1, 0, 0, 0, 2, 0, []),
  (361, .iadd, 1, 0, 0, 0, 0, 0, []),
  (362, .iaload, 1, 0, 0, 0, 0, 0, []),
  (363, .invokevirtual 38, 3, 77, 203, 202, 0, 0, []),
  (366, .aload_n 2, 1, 0, 0, 0, 0, 0, []),
  (367, .aload_n 0, 1, 0, 0, 0, 0, 0, []),
  (368, .iload 4, 2, 0, 0, 0, 0, 0, []),
  (370, .iconst 1, 1, 0, 0, 0, 1, 0, []),
  (371, .iadd, 1, 0, 0, 0, 0, 0, []),
  (372, .iaload, 1, 0, 0, 0, 0, 0, []),
  (373, .aload_n 0, 1, 0, 0, 0, 0, 0, []),
  (374, .iload 4, 2, 0, 0, 0, 0, 0, []),
  (376, .iconst 2, 1, 0, 0, 0, 2, 0, []),
  (377, .iadd, 1, 0, 0, 0, 0, 0, []),
  (378, .iaload, 1, 0, 0, 0, 0, 0, []),
  (379, .invokevirtual 42, 3, 136, 303, 828, 0, 0, []),
  (382, .if_icmp .eq 1816, 3, 2198, 0, 0, 0, 0, []),
  (385, .iconst 0, 1, 0, 0, 0, 0, 0, []),
  (386, .ireturn, 1, 0, 2, 0, 0, 0, []),
  (387, .aload_n 1, 1, 0, 0, 0, 0, 0, []),
  (388, .aload_n 0, 1, 0, 0, 0, 0, 0, []),
  (389, .iload 4, 2, 0, 0, 0, 0, 0, []),
  (391, .iconst 1, 1, 0, 0, 0, 1, 0, []),
  (392, .iadd, 1, 0, 0, 0, 0, 0, []),
  (393, .iaload, 1, 0, 0, 0, 0, 0, []),
  (394, .aload_n 0, 1, 0, 0, 0, 0, 0, []),
  (395, .iload 4, 2, 0, 0, 0, 0, 0, []),
  (397, .iconst 2, 1, 0, 0, 0, 2, 0, []),
  (398, .iadd, 1, 0, 0, 0, 0, 0, []),
  (399, .iaload, 1, 0, 0, 0, 0, 0, []),
  (400, .invokevirtual 43, 3, 87, 203, 246, 0, 0, []),
  (403, .aload_n 2, 1, 0, 0, 0, 0, 0, []),
  (404, .aload_n 0, 1, 0, 0, 0, 0, 0, []),
  (405, .iload 4, 2, 0, 0, 0, 0, 0, []),
  (407, .iconst 1, 1, 0, 0, 0, 1, 0, []),
  (408, .iadd, 1, 0, 0, 0, 0, 0, []),
  (409, .iaload, 1, 0, 0, 0, 0, 0, []),
  (410, .aload_n 0, 1, 0, 0, 0, 0, 0, []),
  (411, .iload 4, 2, 0, 0, 0, 0, 0, []),
  (413, .iconst 2, 1, 0, 0, 0, 2, 0, []),
  (414, .iadd, 1, 0, 0, 0, 0, 0, []),
  (415, .iaload, 1, 0, 0, 0, 0, 0, []),
  (416, .invokevirtual 46, 3, 151, 303, 856, 0, 0, []),
  (419, .if_icmp .eq 1779, 3, 2198, 0, 0, 0, 0, []),
  (422, .iconst 0, 1, 0, 0, 0, 0, 0, []),
  (423, .ireturn, 1, 0, 2, 0, 0, 0, []),
  (424, .aload_n 1, 1, 0, 0, 0, 0, 0, []),
  (425, .invokevirtual 47, 3, 80, 201, 255, 0, 0, []),
  (428, .aload_n 2, 1, 0, 0, 0, 0, 0, []),
  (429, .invokevirtual 51, 3, 145, 301, 861, 0, 0, []),
  (432, .if_icmp .eq 1766, 3, 2198, 0, 0, 0, 0, []),
  (435, .iconst 0, 1, 0, 0, 0, 0, 0, []),
  (436, .ireturn, 1, 0, 2, 0, 0, 0, []),
  (437, .aload_n 1, 1, 0, 0, 0, 0, 0, []),
  (438, .aload_n 0, 1, 0, 0, 0, 0, 0, []),
  (439, .iload 4, 2, 0, 0, 0, 0, 0, []),
  (441, .iconst 1, 1, 0, 0, 0, 1, 0, []),
  (442, .iadd, 1, 0, 0, 0, 0, 0, []),
  (443, .iaload, 1, 0, 0, 0, 0, 0, []),
  (444, .invokevirtual 52, 3, 89, 202, 259, 0, 0, []),
  (447, .aload_n 2, 1, 0, 0, 0, 0, 0, []),
  (448, .aload_n 0, 1, 0, 0, 0, 0, 0, []),
  (449, .iload 4, 2, 0, 0, 0, 0, 0, []),
  (451, .iconst 1, 1, 0, 0, 0, 1, 0, []),
  (452, .iadd, 1, 0, 0, 0, 0, 0, []),
  (453, .iaload, 1, 0, 0, 0, 0, 0, []),
  (454, .invokevirtual 56, 3, 154, 302, 865, 0, 0, []),
  (457, .if_icmp .eq 1741, 3, 2198, 0, 0, 0, 0, []),
  (460, .iconst 0, 1, 0, 0, 0, 0, 0, []),
  (461, .ireturn, 1, 0, 2, 0, 0, 0, []),
  (462, .aload_n 1, 1, 0, 0, 0, 0, 0, []),
  (463, .aload_n 0, 1, 0, 0, 0, 0, 0, []),
  (464, .iload 4, 2, 0, 0, 0, 0, 0, []),
  (466, .iconst 1, 1, 0, 0, 0, 1, 0, []),
  (467, .iadd, 1, 0, 0, 0, 0, 0, []),
  (468, .iaload, 1, 0, 0, 0, 0, 0, []),
  (469, .invokevirtual 57, 3, 98, 202, 267, 0, 0, []),
  (472, .aload_n 2, 1, 0, 0, 0, 0, 0, []),
  (473, .aload_n 0, 1, 0, 0, 0, 0, 0, []),
  (474, .iload 4, 2, 0, 0, 0, 0, 0, []),
  (476, .iconst 1, 1, 0, 0, 0, 1, 0, []),
  (477, .iadd, 1, 0, 0, 0, 0, 0, []),
  (478, .iaload, 1, 0, 0, 0, 0, 0, []),
  (479, .invokevirtual 60, 3, 167, 302, 869, 0, 0, []),
  (482, .if_icmp .eq 1716, 3, 2198, 0, 0, 0, 0, []),
  (485, .iconst 0, 1, 0, 0, 0, 0, 0, []),
  (486, .ireturn, 1, 0, 2, 0, 0, 0, [])]
def t_L_law_p2 : List rx_E := [
  (487, .aload_n 1, 1, 0, 0, 0, 0, 0, []),
  (488, .aload_n 0, 1, 0, 0, 0, 0, 0, []),
  (489, .iload 4, 2, 0, 0, 0, 0, 0, []),
  (491, .iconst 1, 1, 0, 0, 0, 1, 0, []),
  (492, .iadd, 1, 0, 0, 0, 0, 0, []),
  (493, .iaload, 1, 0, 0, 0, 0, 0, []),
  (494, .aload_n 0, 1, 0, 0, 0, 0, 0, []),
  (495, .iload 4, 2, 0, 0, 0, 0, 0, []),
  (497, .iconst 2, 1, 0, 0, 0, 2, 0, []),
  (498, .iadd, 1, 0, 0, 0, 0, 0, []),
  (499, .iaload, 1, 0, 0, 0, 0, 0, []),
  (500, .invokevirtual 61, 3, 84, 203, 271, 0, 0, []),
  (503, .aload_n 2, 1, 0, 0, 0, 0, 0, []),
  (504, .aload_n 0, 1, 0, 0, 0, 0, 0, []),
  (505, .iload 4, 2, 0, 0, 0, 0, 0, []),
  (507, .iconst 1, 1, 0, 0, 0, 1, 0, []),
  (508, .iadd, 1, 0, 0, 0, 0, 0, []),
  (509, .iaload, 1, 0, 0, 0, 0, 0, []),
  (510, .aload_n 0, 1, 0, 0, 0, 0, 0, []),
  (511, .iload 4, 2, 0, 0, 0, 0, 0, []),
  (513, .iconst 2, 1, 0, 0, 0, 2, 0, []),
  (514, .iadd, 1, 0, 0, 0, 0, 0, []),
  (515, .iaload, 1, 0, 0, 0, 0, 0, []),
  (516, .invokevirtual 64, 3, 148, 303, 873, 0, 0, []),
  (519, .if_icmp .eq 1679, 3, 2198, 0, 0, 0, 0, []),
  (522, .iconst 0, 1, 0, 0, 0, 0, 0, []),
  (523, .ireturn, 1, 0, 2, 0, 0, 0, []),
  (524, .aload_n 1, 1, 0, 0, 0, 0, 0, []),
  (525, .aload_n 0, 1, 0, 0, 0, 0, 0, []),
  (526, .iload 4, 2, 0, 0, 0, 0, 0, []),
  (528, .iconst 1, 1, 0, 0, 0, 1, 0, []),
  (529, .iadd, 1, 0, 0, 0, 0, 0, []),
  (530, .iaload, 1, 0, 0, 0, 0, 0, []),
  (531, .aload_n 0, 1, 0, 0, 0, 0, 0, []),
  (532, .iload 4, 2, 0, 0, 0, 0, 0, []),
  (534, .iconst 2, 1, 0, 0, 0, 2, 0, []),
  (535, .iadd, 1, 0, 0, 0, 0, 0, []),
  (536, .iaload, 1, 0, 0, 0, 0, 0, []),
  (537, .invokevirtual 65, 3, 96, 203, 275, 0, 0, []),
  (540, .aload_n 2, 1, 0, 0, 0, 0, 0, []),
  (541, .aload_n 0, 1, 0, 0, 0, 0, 0, []),
  (542, .iload 4, 2, 0, 0, 0, 0, 0, []),
  (544, .iconst 1, 1, 0, 0, 0, 1, 0, []),
  (545, .iadd, 1, 0, 0, 0, 0, 0, []),
  (546, .iaload, 1, 0, 0, 0, 0, 0, []),
  (547, .aload_n 0, 1, 0, 0, 0, 0, 0, []),
  (548, .iload 4, 2, 0, 0, 0, 0, 0, []),
  (550, .iconst 2, 1, 0, 0, 0, 2, 0, []),
  (551, .iadd, 1, 0, 0, 0, 0, 0, []),
  (552, .iaload, 1, 0, 0, 0, 0, 0, []),
  (553, .invokevirtual 68, 3, 164, 303, 881, 0, 0, []),
  (556, .if_icmp .eq 1642, 3, 2198, 0, 0, 0, 0, []),
  (559, .iconst 0, 1, 0, 0, 0, 0, 0, []),
  (560, .ireturn, 1, 0, 2, 0, 0, 0, []),
  (561, .aload_n 1, 1, 0, 0, 0, 0, 0, []),
  (562, .aload_n 0, 1, 0, 0, 0, 0, 0, []),
  (563, .iload 4, 2, 0, 0, 0, 0, 0, []),
  (565, .iconst 1, 1, 0, 0, 0, 1, 0, []),
  (566, .iadd, 1, 0, 0, 0, 0, 0, []),
  (567, .iaload, 1, 0, 0, 0, 0, 0, []),
  (568, .aload_n 0, 1, 0, 0, 0, 0, 0, []),
  (569, .iload 4, 2, 0, 0, 0, 0, 0, []),
  (571, .iconst 2, 1, 0, 0, 0, 2, 0, []),
  (572, .iadd, 1, 0, 0, 0, 0, 0, []),
  (573, .iaload, 1, 0, 0, 0, 0, 0, []),
  (574, .invokevirtual 69, 3, 125, 203, 279, 0, 0, []),
  (577, .aload_n 2, 1, 0, 0, 0, 0, 0, []),
  (578, .aload_n 0, 1, 0, 0, 0, 0, 0, []),
  (579, .iload 4, 2, 0, 0, 0, 0, 0, []),
  (581, .iconst 1, 1, 0, 0, 0, 1, 0, []),
  (582, .iadd, 1, 0, 0, 0, 0, 0, []),
  (583, .iaload, 1, 0, 0, 0, 0, 0, []),
  (584, .aload_n 0, 1, 0, 0, 0, 0, 0, []),
  (585, .iload 4, 2, 0, 0, 0, 0, 0, []),
  (587, .iconst 2, 1, 0, 0, 0, 2, 0, []),
  (588, .iadd, 1, 0, 0, 0, 0, 0, []),
  (589, .iaload, 1, 0, 0, 0, 0, 0, []),
  (590, .invokevirtual 72, 3, 204, 303, 885, 0, 0, []),
  (593, .if_icmp .eq 1605, 3, 2198, 0, 0, 0, 0, []),
  (596, .iconst 0, 1, 0, 0, 0, 0, 0, []),
  (597, .ireturn, 1, 0, 2, 0, 0, 0, []),
  (598, .aload_n 1, 1, 0, 0, 0, 0, 0, []),
  (599, .aload_n 0, 1, 0, 0, 0, 0, 0, []),
  (600, .iload 4, 2, 0, 0, 0, 0, 0, []),
  (602, .iconst 1, 1, 0, 0, 0, 1, 0, []),
  (603, .iadd, 1, 0, 0, 0, 0, 0, []),
  (604, .iaload, 1, 0, 0, 0, 0, 0, []),
  (605, .aload_n 0, 1, 0, 0, 0, 0, 0, []),
  (606, .iload 4, 2, 0, 0, 0, 0, 0, []),
  (608, .iconst 2, 1, 0, 0, 0, 2, 0, []),
  (609, .iadd, 1, 0, 0, 0, 0, 0, []),
  (610, .iaload, 1, 0, 0, 0, 0, 0, []),
  (611, .aload_n 0, 1, 0, 0, 0, 0, 0, []),
  (612, .iload 4, 2, 0, 0, 0, 0, 0, []),
  (614, .iconst 3, 1, 0, 0, 0, 3, 0, []),
  (615, .iadd, 1, 0, 0, 0, 0, 0, []),
  (616, .iaload, 1, 0, 0, 0, 0, 0, []),
  (617, .invokevirtual 73, 3, 100, 204, 286, 0, 0, []),
  (620, .aload_n 2, 1, 0, 0, 0, 0, 0, []),
  (621, .aload_n 0, 1, 0, 0, 0, 0, 0, [])]
def t_L_law_p3 : List rx_E := [
  (622, .iload 4, 2, 0, 0, 0, 0, 0, []),
  (624, .iconst 1, 1, 0, 0, 0, 1, 0, []),
  (625, .iadd, 1, 0, 0, 0, 0, 0, []),
  (626, .iaload, 1, 0, 0, 0, 0, 0, []),
  (627, .aload_n 0, 1, 0, 0, 0, 0, 0, []),
  (628, .iload 4, 2, 0, 0, 0, 0, 0, []),
  (630, .iconst 2, 1, 0, 0, 0, 2, 0, []),
  (631, .iadd, 1, 0, 0, 0, 0, 0, []),
  (632, .iaload, 1, 0, 0, 0, 0, 0, []),
  (633, .aload_n 0, 1, 0, 0, 0, 0, 0, []),
  (634, .iload 4, 2, 0, 0, 0, 0, 0, []),
  (636, .iconst 3, 1, 0, 0, 0, 3, 0, []),
  (637, .iadd, 1, 0, 0, 0, 0, 0, []),
  (638, .iaload, 1, 0, 0, 0, 0, 0, []),
  (639, .invokevirtual 76, 3, 170, 304, 889, 0, 0, []),
  (642, .if_icmp .eq 1556, 3, 2198, 0, 0, 0, 0, []),
  (645, .iconst 0, 1, 0, 0, 0, 0, 0, []),
  (646, .ireturn, 1, 0, 2, 0, 0, 0, []),
  (647, .aload_n 1, 1, 0, 0, 0, 0, 0, []),
  (648, .aload_n 0, 1, 0, 0, 0, 0, 0, []),
  (649, .iload 4, 2, 0, 0, 0, 0, 0, []),
  (651, .iconst 1, 1, 0, 0, 0, 1, 0, []),
  (652, .iadd, 1, 0, 0, 0, 0, 0, []),
  (653, .iaload, 1, 0, 0, 0, 0, 0, []),
  (654, .aload_n 0, 1, 0, 0, 0, 0, 0, []),
  (655, .iload 4, 2, 0, 0, 0, 0, 0, []),
  (657, .iconst 2, 1, 0, 0, 0, 2, 0, []),
  (658, .iadd, 1, 0, 0, 0, 0, 0, []),
  (659, .iaload, 1, 0, 0, 0, 0, 0, []),
  (660, .invokevirtual 77, 3, 126, 203, 309, 0, 0, []),
  (663, .aload_n 2, 1, 0, 0, 0, 0, 0, []),
  (664, .aload_n 0, 1, 0, 0, 0, 0, 0, []),
  (665, .iload 4, 2, 0, 0, 0, 0, 0, []),
  (667, .iconst 1, 1, 0, 0, 0, 1, 0, []),
  (668, .iadd, 1, 0, 0, 0, 0, 0, []),
  (669, .iaload, 1, 0, 0, 0, 0, 0, []),
  (670, .aload_n 0, 1, 0, 0, 0, 0, 0, []),
  (671, .iload 4, 2, 0, 0, 0, 0, 0, []),
  (673, .iconst 2, 1, 0, 0, 0, 2, 0, []),
  (674, .iadd, 1, 0, 0, 0, 0, 0, []),
  (675, .iaload, 1, 0, 0, 0, 0, 0, []),
  (676, .invokevirtual 80, 3, 205, 303, 897, 0, 0, []),
  (679, .if_icmp .eq 1519, 3, 2198, 0, 0, 0, 0, []),
  (682, .iconst 0, 1, 0, 0, 0, 0, 0, []),
  (683, .ireturn, 1, 0, 2, 0, 0, 0, []),
  (684, .aload_n 1, 1, 0, 0, 0, 0, 0, []),
  (685, .aload_n 0, 1, 0, 0, 0, 0, 0, []),
  (686, .iload 4, 2, 0, 0, 0, 0, 0, []),
  (688, .iconst 1, 1, 0, 0, 0, 1, 0, []),
  (689, .iadd, 1, 0, 0, 0, 0, 0, []),
  (690, .iaload, 1, 0, 0, 0, 0, 0, []),
  (691, .aload_n 0, 1, 0, 0, 0, 0, 0, []),
  (692, .iload 4, 2, 0, 0, 0, 0, 0, []),
  (694, .iconst 2, 1, 0, 0, 0, 2, 0, []),
  (695, .iadd, 1, 0, 0, 0, 0, 0, []),
  (696, .iaload, 1, 0, 0, 0, 0, 0, []),
  (697, .invokevirtual 81, 3, 134, 203, 325, 0, 0, []),
  (700, .aload_n 2, 1, 0, 0, 0, 0, 0, []),
  (701, .aload_n 0, 1, 0, 0, 0, 0, 0, []),
  (702, .iload 4, 2, 0, 0, 0, 0, 0, []),
  (704, .iconst 1, 1, 0, 0, 0, 1, 0, []),
  (705, .iadd, 1, 0, 0, 0, 0, 0, []),
  (706, .iaload, 1, 0, 0, 0, 0, 0, []),
  (707, .aload_n 0, 1, 0, 0, 0, 0, 0, []),
  (708, .iload 4, 2, 0, 0, 0, 0, 0, []),
  (710, .iconst 2, 1, 0, 0, 0, 2, 0, []),
  (711, .iadd, 1, 0, 0, 0, 0, 0, []),
  (712, .iaload, 1, 0, 0, 0, 0, 0, []),
  (713, .invokevirtual 84, 3, 222, 303, 909, 0, 0, []),
  (716, .if_icmp .eq 1482, 3, 2198, 0, 0, 0, 0, []),
  (719, .iconst 0, 1, 0, 0, 0, 0, 0, []),
  (720, .ireturn, 1, 0, 2, 0, 0, 0, []),
  (721, .aload_n 1, 1, 0, 0, 0, 0, 0, []),
  (722, .aload_n 0, 1, 0, 0, 0, 0, 0, []),
  (723, .iload 4, 2, 0, 0, 0, 0, 0, []),
  (725, .iconst 1, 1, 0, 0, 0, 1, 0, []),
  (726, .iadd, 1, 0, 0, 0, 0, 0, []),
  (727, .iaload, 1, 0, 0, 0, 0, 0, []),
  (728, .aload_n 0, 1, 0, 0, 0, 0, 0, []),
  (729, .iload 4, 2, 0, 0, 0, 0, 0, []),
  (731, .iconst 2, 1, 0, 0, 0, 2, 0, []),
  (732, .iadd, 1, 0, 0, 0, 0, 0, []),
  (733, .iaload, 1, 0, 0, 0, 0, 0, []),
  (734, .ifCond .eq 7, 3, 741, 0, 0, 0, 0, []),
  (737, .iconst 1, 1, 0, 0, 0, 1, 0, []),
  (738, .goto 4, 3, 742, 0, 0, 0, 0, []),
  (741, .iconst 0, 1, 0, 0, 0, 0, 0, []),
  (742, .aload_n 0, 1, 0, 0, 0, 0, 0, []),
  (743, .iload 4, 2, 0, 0, 0, 0, 0, []),
  (745, .iconst 3, 1, 0, 0, 0, 3, 0, []),
  (746, .iadd, 1, 0, 0, 0, 0, 0, []),
  (747, .iaload, 1, 0, 0, 0, 0, 0, []),
  (748, .invokevirtual 85, 3, 81, 204, 335, 0, 0, []),
  (751, .aload_n 2, 1, 0, 0, 0, 0, 0, []),
  (752, .aload_n 0, 1, 0, 0, 0, 0, 0, []),
  (753, .iload 4, 2, 0, 0, 0, 0, 0, []),
  (755, .iconst 1, 1, 0, 0, 0, 1, 0, []),
  (756, .iadd, 1, 0, 0, 0, 0, 0, []),
  (757, .iaload, 1, 0, 0, 0, 0, 0, []),
  (758, .aload_n 0, 1, 0, 0, 0, 0, 0, [])]
def t_L_law_p4 : List rx_E := [
  (759, .iload 4, 2, 0, 0, 0, 0, 0, []),
  (761, .iconst 2, 1, 0, 0, 0, 2, 0, []),
  (762, .iadd, 1, 0, 0, 0, 0, 0, []),
  (763, .iaload, 1, 0, 0, 0, 0, 0, []),
  (764, .ifCond .eq 7, 3, 771, 0, 0, 0, 0, []),
  (767, .iconst 1, 1, 0, 0, 0, 1, 0, []),
  (768, .goto 4, 3, 772, 0, 0, 0, 0, []),
  (771, .iconst 0, 1, 0, 0, 0, 0, 0, []),
  (772, .aload_n 0, 1, 0, 0, 0, 0, 0, []),
  (773, .iload 4, 2, 0, 0, 0, 0, 0, []),
  (775, .iconst 3, 1, 0, 0, 0, 3, 0, []),
  (776, .iadd, 1, 0, 0, 0, 0, 0, []),
  (777, .iaload, 1, 0, 0, 0, 0, 0, []),
  (778, .invokevirtual 89, 3, 146, 304, 913, 0, 0, []),
  (781, .if_icmp .eq 1417, 3, 2198, 0, 0, 0, 0, []),
  (784, .iconst 0, 1, 0, 0, 0, 0, 0, []),
  (785, .ireturn, 1, 0, 2, 0, 0, 0, []),
  (786, .aload_n 1, 1, 0, 0, 0, 0, 0, []),
  (787, .aload_n 0, 1, 0, 0, 0, 0, 0, []),
  (788, .iload 4, 2, 0, 0, 0, 0, 0, []),
  (790, .iconst 1, 1, 0, 0, 0, 1, 0, []),
  (791, .iadd, 1, 0, 0, 0, 0, 0, []),
  (792, .iaload, 1, 0, 0, 0, 0, 0, []),
  (793, .aload_n 0, 1, 0, 0, 0, 0, 0, []),
  (794, .iload 4, 2, 0, 0, 0, 0, 0, []),
  (796, .iconst 2, 1, 0, 0, 0, 2, 0, []),
  (797, .iadd, 1, 0, 0, 0, 0, 0, []),
  (798, .iaload, 1, 0, 0, 0, 0, 0, []),
  (799, .ifCond .eq 7, 3, 806, 0, 0, 0, 0, []),
  (802, .iconst 1, 1, 0, 0, 0, 1, 0, []),
  (803, .goto 4, 3, 807, 0, 0, 0, 0, []),
  (806, .iconst 0, 1, 0, 0, 0, 0, 0, []),
  (807, .aload_n 0, 1, 0, 0, 0, 0, 0, []),
  (808, .iload 4, 2, 0, 0, 0, 0, 0, []),
  (810, .iconst 3, 1, 0, 0, 0, 3, 0, []),
  (811, .iadd, 1, 0, 0, 0, 0, 0, []),
  (812, .iaload, 1, 0, 0, 0, 0, 0, []),
  (813, .invokevirtual 90, 3, 90, 204, 345, 0, 0, []),
  (816, .aload_n 2, 1, 0, 0, 0, 0, 0, []),
  (817, .aload_n 0, 1, 0, 0, 0, 0, 0, []),
  (818, .iload 4, 2, 0, 0, 0, 0, 0, []),
  (820, .iconst 1, 1, 0, 0, 0, 1, 0, []),
  (821, .iadd, 1, 0, 0, 0, 0, 0, []),
  (822, .iaload, 1, 0, 0, 0, 0, 0, []),
  (823, .aload_n 0, 1, 0, 0, 0, 0, 0, []),
  (824, .iload 4, 2, 0, 0, 0, 0, 0, []),
  (826, .iconst 2, 1, 0, 0, 0, 2, 0, []),
  (827, .iadd, 1, 0, 0, 0, 0, 0, []),
  (828, .iaload, 1, 0, 0, 0, 0, 0, []),
  (829, .ifCond .eq 7, 3, 836, 0, 0, 0, 0, []),
  (832, .iconst 1, 1, 0, 0, 0, 1, 0, []),
  (833, .goto 4, 3, 837, 0, 0, 0, 0, []),
  (836, .iconst 0, 1, 0, 0, 0, 0, 0, []),
  (837, .aload_n 0, 1, 0, 0, 0, 0, 0, []),
  (838, .iload 4, 2, 0, 0, 0, 0, 0, []),
  (840, .iconst 3, 1, 0, 0, 0, 3, 0, []),
  (841, .iadd, 1, 0, 0, 0, 0, 0, []),
  (842, .iaload, 1, 0, 0, 0, 0, 0, []),
  (843, .invokevirtual 93, 3, 155, 304, 917, 0, 0, []),
  (846, .if_icmp .eq 1352, 3, 2198, 0, 0, 0, 0, []),
  (849, .iconst 0, 1, 0, 0, 0, 0, 0, []),
  (850, .ireturn, 1, 0, 2, 0, 0, 0, []),
  (851, .aload_n 1, 1, 0, 0, 0, 0, 0, []),
  (852, .aload_n 0, 1, 0, 0, 0, 0, 0, []),
  (853, .iload 4, 2, 0, 0, 0, 0, 0, []),
  (855, .iconst 1, 1, 0, 0, 0, 1, 0, []),
  (856, .iadd, 1, 0, 0, 0, 0, 0, []),
  (857, .iaload, 1, 0, 0, 0, 0, 0, []),
  (858, .aload_n 0, 1, 0, 0, 0, 0, 0, []),
  (859, .iload 4, 2, 0, 0, 0, 0, 0, []),
  (861, .iconst 2, 1, 0, 0, 0, 2, 0, []),
  (862, .iadd, 1, 0, 0, 0, 0, 0, []),
  (863, .iaload, 1, 0, 0, 0, 0, 0, []),
  (864, .aload_n 0, 1, 0, 0, 0, 0, 0, []),
  (865, .iload 4, 2, 0, 0, 0, 0, 0, []),
  (867, .iconst 3, 1, 0, 0, 0, 3, 0, []),
  (868, .iadd, 1, 0, 0, 0, 0, 0, []),
  (869, .iaload, 1, 0, 0, 0, 0, 0, []),
  (870, .aload_n 0, 1, 0, 0, 0, 0, 0, []),
  (871, .iload 4, 2, 0, 0, 0, 0, 0, []),
  (873, .iconst 4, 1, 0, 0, 0, 4, 0, []),
  (874, .iadd, 1, 0, 0, 0, 0, 0, []),
  (875, .iaload, 1, 0, 0, 0, 0, 0, []),
  (876, .invokevirtual 94, 3, 112, 205, 349, 0, 0, []),
  (879, .aload_n 2, 1, 0, 0, 0, 0, 0, []),
  (880, .aload_n 0, 1, 0, 0, 0, 0, 0, []),
  (881, .iload 4, 2, 0, 0, 0, 0, 0, []),
  (883, .iconst 1, 1, 0, 0, 0, 1, 0, []),
  (884, .iadd, 1, 0, 0, 0, 0, 0, []),
  (885, .iaload, 1, 0, 0, 0, 0, 0, []),
  (886, .aload_n 0, 1, 0, 0, 0, 0, 0, []),
  (887, .iload 4, 2, 0, 0, 0, 0, 0, []),
  (889, .iconst 2, 1, 0, 0, 0, 2, 0, []),
  (890, .iadd, 1, 0, 0, 0, 0, 0, []),
  (891, .iaload, 1, 0, 0, 0, 0, 0, []),
  (892, .aload_n 0, 1, 0, 0, 0, 0, 0, []),
  (893, .iload 4, 2, 0, 0, 0, 0, 0, []),
  (895, .iconst 3, 1, 0, 0, 0, 3, 0, []),
  (896, .iadd, 1, 0, 0, 0, 0, 0, []),
  (897, .iaload, 1, 0, 0, 0, 0, 0, [])]
def t_L_law_p5 : List rx_E := [
  (898, .aload_n 0, 1, 0, 0, 0, 0, 0, []),
  (899, .iload 4, 2, 0, 0, 0, 0, 0, []),
  (901, .iconst 4, 1, 0, 0, 0, 4, 0, []),
  (902, .iadd, 1, 0, 0, 0, 0, 0, []),
  (903, .iaload, 1, 0, 0, 0, 0, 0, []),
  (904, .invokevirtual 98, 3, 186, 305, 921, 0, 0, []),
  (907, .if_icmp .eq 1291, 3, 2198, 0, 0, 0, 0, []),
  (910, .iconst 0, 1, 0, 0, 0, 0, 0, []),
  (911, .ireturn, 1, 0, 2, 0, 0, 0, []),
  (912, .aload_n 1, 1, 0, 0, 0, 0, 0, []),
  (913, .aload_n 0, 1, 0, 0, 0, 0, 0, []),
  (914, .iload 4, 2, 0, 0, 0, 0, 0, []),
  (916, .iconst 1, 1, 0, 0, 0, 1, 0, []),
  (917, .iadd, 1, 0, 0, 0, 0, 0, []),
  (918, .iaload, 1, 0, 0, 0, 0, 0, []),
  (919, .aload_n 0, 1, 0, 0, 0, 0, 0, []),
  (920, .iload 4, 2, 0, 0, 0, 0, 0, []),
  (922, .iconst 2, 1, 0, 0, 0, 2, 0, []),
  (923, .iadd, 1, 0, 0, 0, 0, 0, []),
  (924, .iaload, 1, 0, 0, 0, 0, 0, []),
  (925, .ifCond .eq 7, 3, 932, 0, 0, 0, 0, []),
  (928, .iconst 1, 1, 0, 0, 0, 1, 0, []),
  (929, .goto 4, 3, 933, 0, 0, 0, 0, []),
  (932, .iconst 0, 1, 0, 0, 0, 0, 0, []),
  (933, .aload_n 0, 1, 0, 0, 0, 0, 0, []),
  (934, .iload 4, 2, 0, 0, 0, 0, 0, []),
  (936, .iconst 3, 1, 0, 0, 0, 3, 0, []),
  (937, .iadd, 1, 0, 0, 0, 0, 0, []),
  (938, .iaload, 1, 0, 0, 0, 0, 0, []),
  (939, .invokevirtual 99, 3, 120, 204, 372, 0, 0, []),
  (942, .aload_n 2, 1, 0, 0, 0, 0, 0, []),
  (943, .aload_n 0, 1, 0, 0, 0, 0, 0, []),
  (944, .iload 4, 2, 0, 0, 0, 0, 0, []),
  (946, .iconst 1, 1, 0, 0, 0, 1, 0, []),
  (947, .iadd, 1, 0, 0, 0, 0, 0, []),
  (948, .iaload, 1, 0, 0, 0, 0, 0, []),
  (949, .aload_n 0, 1, 0, 0, 0, 0, 0, []),
  (950, .iload 4, 2, 0, 0, 0, 0, 0, []),
  (952, .iconst 2, 1, 0, 0, 0, 2, 0, []),
  (953, .iadd, 1, 0, 0, 0, 0, 0, []),
  (954, .iaload, 1, 0, 0, 0, 0, 0, []),
  (955, .ifCond .eq 7, 3, 962, 0, 0, 0, 0, []),
  (958, .iconst 1, 1, 0, 0, 0, 1, 0, []),
  (959, .goto 4, 3, 963, 0, 0, 0, 0, []),
  (962, .iconst 0, 1, 0, 0, 0, 0, 0, []),
  (963, .aload_n 0, 1, 0, 0, 0, 0, 0, []),
  (964, .iload 4, 2, 0, 0, 0, 0, 0, []),
  (966, .iconst 3, 1, 0, 0, 0, 3, 0, []),
  (967, .iadd, 1, 0, 0, 0, 0, 0, []),
  (968, .iaload, 1, 0, 0, 0, 0, 0, []),
  (969, .invokevirtual 102, 3, 200, 304, 932, 0, 0, []),
  (972, .if_icmp .eq 1226, 3, 2198, 0, 0, 0, 0, []),
  (975, .iconst 0, 1, 0, 0, 0, 0, 0, []),
  (976, .ireturn, 1, 0, 2, 0, 0, 0, []),
  (977, .aload_n 1, 1, 0, 0, 0, 0, 0, []),
  (978, .aload_n 0, 1, 0, 0, 0, 0, 0, []),
  (979, .iload 4, 2, 0, 0, 0, 0, 0, []),
  (981, .iconst 1, 1, 0, 0, 0, 1, 0, []),
  (982, .iadd, 1, 0, 0, 0, 0, 0, []),
  (983, .iaload, 1, 0, 0, 0, 0, 0, []),
  (984, .aload_n 0, 1, 0, 0, 0, 0, 0, []),
  (985, .iload 4, 2, 0, 0, 0, 0, 0, []),
  (987, .iconst 2, 1, 0, 0, 0, 2, 0, []),
  (988, .iadd, 1, 0, 0, 0, 0, 0, []),
  (989, .iaload, 1, 0, 0, 0, 0, 0, []),
  (990, .aload_n 0, 1, 0, 0, 0, 0, 0, []),
  (991, .iload 4, 2, 0, 0, 0, 0, 0, []),
  (993, .iconst 3, 1, 0, 0, 0, 3, 0, []),
  (994, .iadd, 1, 0, 0, 0, 0, 0, []),
  (995, .iaload, 1, 0, 0, 0, 0, 0, []),
  (996, .invokevirtual 103, 3, 131, 204, 380, 0, 0, []),
  (999, .aload_n 2, 1, 0, 0, 0, 0, 0, []),
  (1000, .aload_n 0, 1, 0, 0, 0, 0, 0, []),
  (1001, .iload 4, 2, 0, 0, 0, 0, 0, []),
  (1003, .iconst 1, 1, 0, 0, 0, 1, 0, []),
  (1004, .iadd, 1, 0, 0, 0, 0, 0, []),
  (1005, .iaload, 1, 0, 0, 0, 0, 0, []),
  (1006, .aload_n 0, 1, 0, 0, 0, 0, 0, []),
  (1007, .iload 4, 2, 0, 0, 0, 0, 0, []),
  (1009, .iconst 2, 1, 0, 0, 0, 2, 0, []),
  (1010, .iadd, 1, 0, 0, 0, 0, 0, []),
  (1011, .iaload, 1, 0, 0, 0, 0, 0, []),
  (1012, .aload_n 0, 1, 0, 0, 0, 0, 0, []),
  (1013, .iload 4, 2, 0, 0, 0, 0, 0, []),
  (1015, .iconst 3, 1, 0, 0, 0, 3, 0, []),
  (1016, .iadd, 1, 0, 0, 0, 0, 0, []),
  (1017, .iaload, 1, 0, 0, 0, 0, 0, []),
  (1018, .invokevirtual 106, 3, 216, 304, 936, 0, 0, []),
  (1021, .if_icmp .eq 1177, 3, 2198, 0, 0, 0, 0, []),
  (1024, .iconst 0, 1, 0, 0, 0, 0, 0, []),
  (1025, .ireturn, 1, 0, 2, 0, 0, 0, []),
  (1026, .aload_n 1, 1, 0, 0, 0, 0, 0, []),
  (1027, .aload_n 0, 1, 0, 0, 0, 0, 0, []),
  (1028, .iload 4, 2, 0, 0, 0, 0, 0, []),
  (1030, .iconst 1, 1, 0, 0, 0, 1, 0, []),
  (1031, .iadd, 1, 0, 0, 0, 0, 0, []),
  (1032, .iaload, 1, 0, 0, 0, 0, 0, []),
  (1033, .aload_n 0, 1, 0, 0, 0, 0, 0, []),
  (1034, .iload 4, 2, 0, 0, 0, 0, 0, []),
  (1036, .iconst 2, 1, 0, 0, 0, 2, 0, [])]
def t_L_law_p6 : List rx_E := [
  (1037, .iadd, 1, 0, 0, 0, 0, 0, []),
  (1038, .iaload, 1, 0, 0, 0, 0, 0, []),
  (1039, .aload_n 0, 1, 0, 0, 0, 0, 0, []),
  (1040, .iload 4, 2, 0, 0, 0, 0, 0, []),
  (1042, .iconst 3, 1, 0, 0, 0, 3, 0, []),
  (1043, .iadd, 1, 0, 0, 0, 0, 0, []),
  (1044, .iaload, 1, 0, 0, 0, 0, 0, []),
  (1045, .invokevirtual 107, 3, 132, 204, 385, 0, 0, []),
  (1048, .aload_n 2, 1, 0, 0, 0, 0, 0, []),
  (1049, .aload_n 0, 1, 0, 0, 0, 0, 0, []),
  (1050, .iload 4, 2, 0, 0, 0, 0, 0, []),
  (1052, .iconst 1, 1, 0, 0, 0, 1, 0, []),
  (1053, .iadd, 1, 0, 0, 0, 0, 0, []),
  (1054, .iaload, 1, 0, 0, 0, 0, 0, []),
  (1055, .aload_n 0, 1, 0, 0, 0, 0, 0, []),
  (1056, .iload 4, 2, 0, 0, 0, 0, 0, []),
  (1058, .iconst 2, 1, 0, 0, 0, 2, 0, []),
  (1059, .iadd, 1, 0, 0, 0, 0, 0, []),
  (1060, .iaload, 1, 0, 0, 0, 0, 0, []),
  (1061, .aload_n 0, 1, 0, 0, 0, 0, 0, []),
  (1062, .iload 4, 2, 0, 0, 0, 0, 0, []),
  (1064, .iconst 3, 1, 0, 0, 0, 3, 0, []),
  (1065, .iadd, 1, 0, 0, 0, 0, 0, []),
  (1066, .iaload, 1, 0, 0, 0, 0, 0, []),
  (1067, .invokevirtual 110, 3, 218, 304, 944, 0, 0, []),
  (1070, .if_icmp .eq 1128, 3, 2198, 0, 0, 0, 0, []),
  (1073, .iconst 0, 1, 0, 0, 0, 0, 0, []),
  (1074, .ireturn, 1, 0, 2, 0, 0, 0, []),
  (1075, .aload_n 1, 1, 0, 0, 0, 0, 0, []),
  (1076, .aload_n 0, 1, 0, 0, 0, 0, 0, []),
  (1077, .iload 4, 2, 0, 0, 0, 0, 0, []),
  (1079, .iconst 1, 1, 0, 0, 0, 1, 0, []),
  (1080, .iadd, 1, 0, 0, 0, 0, 0, []),
  (1081, .iaload, 1, 0, 0, 0, 0, 0, []),
  (1082, .aload_n 0, 1, 0, 0, 0, 0, 0, []),
  (1083, .iload 4, 2, 0, 0, 0, 0, 0, []),
  (1085, .iconst 2, 1, 0, 0, 0, 2, 0, []),
  (1086, .iadd, 1, 0, 0, 0, 0, 0, []),
  (1087, .iaload, 1, 0, 0, 0, 0, 0, []),
  (1088, .aload_n 0, 1, 0, 0, 0, 0, 0, []),
  (1089, .iload 4, 2, 0, 0, 0, 0, 0, []),
  (1091, .iconst 3, 1, 0, 0, 0, 3, 0, []),
  (1092, .iadd, 1, 0, 0, 0, 0, 0, []),
  (1093, .iaload, 1, 0, 0, 0, 0, 0, []),
  (1094, .invokevirtual 111, 3, 115, 204, 399, 0, 0, []),
  (1097, .aload_n 2, 1, 0, 0, 0, 0, 0, []),
  (1098, .aload_n 0, 1, 0, 0, 0, 0, 0, []),
  (1099, .iload 4, 2, 0, 0, 0, 0, 0, []),
  (1101, .iconst 1, 1, 0, 0, 0, 1, 0, []),
  (1102, .iadd, 1, 0, 0, 0, 0, 0, []),
  (1103, .iaload, 1, 0, 0, 0, 0, 0, []),
  (1104, .aload_n 0, 1, 0, 0, 0, 0, 0, []),
  (1105, .iload 4, 2, 0, 0, 0, 0, 0, []),
  (1107, .iconst 2, 1, 0, 0, 0, 2, 0, []),
  (1108, .iadd, 1, 0, 0, 0, 0, 0, []),
  (1109, .iaload, 1, 0, 0, 0, 0, 0, []),
  (1110, .aload_n 0, 1, 0, 0, 0, 0, 0, []),
  (1111, .iload 4, 2, 0, 0, 0, 0, 0, []),
  (1113, .iconst 3, 1, 0, 0, 0, 3, 0, []),
  (1114, .iadd, 1, 0, 0, 0, 0, 0, []),
  (1115, .iaload, 1, 0, 0, 0, 0, 0, []),
  (1116, .invokevirtual 114, 3, 194, 304, 984, 0, 0, []),
  (1119, .if_icmp .eq 1079, 3, 2198, 0, 0, 0, 0, []),
  (1122, .iconst 0, 1, 0, 0, 0, 0, 0, []),
  (1123, .ireturn, 1, 0, 2, 0, 0, 0, []),
  (1124, .aload_n 1, 1, 0, 0, 0, 0, 0, []),
  (1125, .aload_n 0, 1, 0, 0, 0, 0, 0, []),
  (1126, .iload 4, 2, 0, 0, 0, 0, 0, []),
  (1128, .iconst 1, 1, 0, 0, 0, 1, 0, []),
  (1129, .iadd, 1, 0, 0, 0, 0, 0, []),
  (1130, .iaload, 1, 0, 0, 0, 0, 0, []),
  (1131, .invokevirtual 115, 3, 116, 202, 410, 0, 0, []),
  (1134, .aload_n 2, 1, 0, 0, 0, 0, 0, []),
  (1135, .aload_n 0, 1, 0, 0, 0, 0, 0, []),
  (1136, .iload 4, 2, 0, 0, 0, 0, 0, []),
  (1138, .iconst 1, 1, 0, 0, 0, 1, 0, []),
  (1139, .iadd, 1, 0, 0, 0, 0, 0, []),
  (1140, .iaload, 1, 0, 0, 0, 0, 0, []),
  (1141, .invokevirtual 118, 3, 195, 302, 996, 0, 0, []),
  (1144, .if_icmp .eq 1054, 3, 2198, 0, 0, 0, 0, []),
  (1147, .iconst 0, 1, 0, 0, 0, 0, 0, []),
  (1148, .ireturn, 1, 0, 2, 0, 0, 0, []),
  (1149, .aload_n 1, 1, 0, 0, 0, 0, 0, []),
  (1150, .aload_n 0, 1, 0, 0, 0, 0, 0, []),
  (1151, .iload 4, 2, 0, 0, 0, 0, 0, []),
  (1153, .iconst 1, 1, 0, 0, 0, 1, 0, []),
  (1154, .iadd, 1, 0, 0, 0, 0, 0, []),
  (1155, .iaload, 1, 0, 0, 0, 0, 0, []),
  (1156, .aload_n 0, 1, 0, 0, 0, 0, 0, []),
  (1157, .iload 4, 2, 0, 0, 0, 0, 0, []),
  (1159, .iconst 2, 1, 0, 0, 0, 2, 0, []),
  (1160, .iadd, 1, 0, 0, 0, 0, 0, []),
  (1161, .iaload, 1, 0, 0, 0, 0, 0, []),
  (1162, .aload_n 0, 1, 0, 0, 0, 0, 0, []),
  (1163, .iload 4, 2, 0, 0, 0, 0, 0, []),
  (1165, .iconst 3, 1, 0, 0, 0, 3, 0, []),
  (1166, .iadd, 1, 0, 0, 0, 0, 0, []),
  (1167, .iaload, 1, 0, 0, 0, 0, 0, []),
  (1168, .invokevirtual 119, 3, 93, 204, 414, 0, 0, []),
  (1171, .aload_n 2, 1, 0, 0, 0, 0, 0, [])]
def t_L_law_p7 : List rx_E := [
  (1172, .aload_n 0, 1, 0, 0, 0, 0, 0, []),
  (1173, .iload 4, 2, 0, 0, 0, 0, 0, []),
  (1175, .iconst 1, 1, 0, 0, 0, 1, 0, []),
  (1176, .iadd, 1, 0, 0, 0, 0, 0, []),
  (1177, .iaload, 1, 0, 0, 0, 0, 0, []),
  (1178, .aload_n 0, 1, 0, 0, 0, 0, 0, []),
  (1179, .iload 4, 2, 0, 0, 0, 0, 0, []),
  (1181, .iconst 2, 1, 0, 0, 0, 2, 0, []),
  (1182, .iadd, 1, 0, 0, 0, 0, 0, []),
  (1183, .iaload, 1, 0, 0, 0, 0, 0, []),
  (1184, .aload_n 0, 1, 0, 0, 0, 0, 0, []),
  (1185, .iload 4, 2, 0, 0, 0, 0, 0, []),
  (1187, .iconst 3, 1, 0, 0, 0, 3, 0, []),
  (1188, .iadd, 1, 0, 0, 0, 0, 0, []),
  (1189, .iaload, 1, 0, 0, 0, 0, 0, []),
  (1190, .invokevirtual 122, 3, 157, 304, 1000, 0, 0, []),
  (1193, .if_icmp .eq 1005, 3, 2198, 0, 0, 0, 0, []),
  (1196, .iconst 0, 1, 0, 0, 0, 0, 0, []),
  (1197, .ireturn, 1, 0, 2, 0, 0, 0, []),
  (1198, .aload_n 1, 1, 0, 0, 0, 0, 0, []),
  (1199, .aload_n 0, 1, 0, 0, 0, 0, 0, []),
  (1200, .iload 4, 2, 0, 0, 0, 0, 0, []),
  (1202, .iconst 1, 1, 0, 0, 0, 1, 0, []),
  (1203, .iadd, 1, 0, 0, 0, 0, 0, []),
  (1204, .iaload, 1, 0, 0, 0, 0, 0, []),
  (1205, .invokevirtual 123, 3, 128, 202, 419, 0, 0, []),
  (1208, .aload_n 2, 1, 0, 0, 0, 0, 0, []),
  (1209, .aload_n 0, 1, 0, 0, 0, 0, 0, []),
  (1210, .iload 4, 2, 0, 0, 0, 0, 0, []),
  (1212, .iconst 1, 1, 0, 0, 0, 1, 0, []),
  (1213, .iadd, 1, 0, 0, 0, 0, 0, []),
  (1214, .iaload, 1, 0, 0, 0, 0, 0, []),
  (1215, .invokevirtual 126, 3, 211, 302, 1004, 0, 0, []),
  (1218, .if_icmp .eq 980, 3, 2198, 0, 0, 0, 0, []),
  (1221, .iconst 0, 1, 0, 0, 0, 0, 0, []),
  (1222, .ireturn, 1, 0, 2, 0, 0, 0, []),
  (1223, .aload_n 1, 1, 0, 0, 0, 0, 0, []),
  (1224, .aload_n 0, 1, 0, 0, 0, 0, 0, []),
  (1225, .iload 4, 2, 0, 0, 0, 0, 0, []),
  (1227, .iconst 1, 1, 0, 0, 0, 1, 0, []),
  (1228, .iadd, 1, 0, 0, 0, 0, 0, []),
  (1229, .iaload, 1, 0, 0, 0, 0, 0, []),
  (1230, .invokevirtual 127, 3, 118, 202, 428, 0, 0, []),
  (1233, .aload_n 2, 1, 0, 0, 0, 0, 0, []),
  (1234, .aload_n 0, 1, 0, 0, 0, 0, 0, []),
  (1235, .iload 4, 2, 0, 0, 0, 0, 0, []),
  (1237, .iconst 1, 1, 0, 0, 0, 1, 0, []),
  (1238, .iadd, 1, 0, 0, 0, 0, 0, []),
  (1239, .iaload, 1, 0, 0, 0, 0, 0, []),
  (1240, .invokevirtual 130, 3, 198, 302, 1011, 0, 0, []),
  (1243, .if_icmp .eq 955, 3, 2198, 0, 0, 0, 0, []),
  (1246, .iconst 0, 1, 0, 0, 0, 0, 0, []),
  (1247, .ireturn, 1, 0, 2, 0, 0, 0, []),
  (1248, .aload_n 1, 1, 0, 0, 0, 0, 0, []),
  (1249, .aload_n 0, 1, 0, 0, 0, 0, 0, []),
  (1250, .iload 4, 2, 0, 0, 0, 0, 0, []),
  (1252, .iconst 1, 1, 0, 0, 0, 1, 0, []),
  (1253, .iadd, 1, 0, 0, 0, 0, 0, []),
  (1254, .iaload, 1, 0, 0, 0, 0, 0, []),
  (1255, .aload_n 0, 1, 0, 0, 0, 0, 0, []),
  (1256, .iload 4, 2, 0, 0, 0, 0, 0, []),
  (1258, .iconst 2, 1, 0, 0, 0, 2, 0, []),
  (1259, .iadd, 1, 0, 0, 0, 0, 0, []),
  (1260, .iaload, 1, 0, 0, 0, 0, 0, []),
  (1261, .invokevirtual 131, 3, 119, 203, 432, 0, 0, []),
  (1264, .aload_n 2, 1, 0, 0, 0, 0, 0, []),
  (1265, .aload_n 0, 1, 0, 0, 0, 0, 0, []),
  (1266, .iload 4, 2, 0, 0, 0, 0, 0, []),
  (1268, .iconst 1, 1, 0, 0, 0, 1, 0, []),
  (1269, .iadd, 1, 0, 0, 0, 0, 0, []),
  (1270, .iaload, 1, 0, 0, 0, 0, 0, []),
  (1271, .aload_n 0, 1, 0, 0, 0, 0, 0, []),
  (1272, .iload 4, 2, 0, 0, 0, 0, 0, []),
  (1274, .iconst 2, 1, 0, 0, 0, 2, 0, []),
  (1275, .iadd, 1, 0, 0, 0, 0, 0, []),
  (1276, .iaload, 1, 0, 0, 0, 0, 0, []),
  (1277, .invokevirtual 134, 3, 199, 303, 1015, 0, 0, []),
  (1280, .if_icmp .eq 918, 3, 2198, 0, 0, 0, 0, []),
  (1283, .iconst 0, 1, 0, 0, 0, 0, 0, []),
  (1284, .ireturn, 1, 0, 2, 0, 0, 0, []),
  (1285, .aload_n 1, 1, 0, 0, 0, 0, 0, []),
  (1286, .aload_n 0, 1, 0, 0, 0, 0, 0, []),
  (1287, .iload 4, 2, 0, 0, 0, 0, 0, []),
  (1289, .iconst 1, 1, 0, 0, 0, 1, 0, []),
  (1290, .iadd, 1, 0, 0, 0, 0, 0, []),
  (1291, .iaload, 1, 0, 0, 0, 0, 0, []),
  (1292, .aload_n 0, 1, 0, 0, 0, 0, 0, []),
  (1293, .iload 4, 2, 0, 0, 0, 0, 0, []),
  (1295, .iconst 2, 1, 0, 0, 0, 2, 0, []),
  (1296, .iadd, 1, 0, 0, 0, 0, 0, []),
  (1297, .iaload, 1, 0, 0, 0, 0, 0, []),
  (1298, .aload_n 0, 1, 0, 0, 0, 0, 0, []),
  (1299, .iload 4, 2, 0, 0, 0, 0, 0, []),
  (1301, .iconst 3, 1, 0, 0, 0, 3, 0, []),
  (1302, .iadd, 1, 0, 0, 0, 0, 0, []),
  (1303, .iaload, 1, 0, 0, 0, 0, 0, []),
  (1304, .invokevirtual 135, 3, 78, 204, 436, 0, 0, []),
  (1307, .aload_n 2, 1, 0, 0, 0, 0, 0, []),
  (1308, .aload_n 0, 1, 0, 0, 0, 0, 0, []),
  (1309, .iload 4, 2, 0, 0, 0, 0, 0, [])]
def t_L_law_p8 : List rx_E := [
  (1311, .iconst 1, 1, 0, 0, 0, 1, 0, []),
  (1312, .iadd, 1, 0, 0, 0, 0, 0, []),
  (1313, .iaload, 1, 0, 0, 0, 0, 0, []),
  (1314, .aload_n 0, 1, 0, 0, 0, 0, 0, []),
  (1315, .iload 4, 2, 0, 0, 0, 0, 0, []),
  (1317, .iconst 2, 1, 0, 0, 0, 2, 0, []),
  (1318, .iadd, 1, 0, 0, 0, 0, 0, []),
  (1319, .iaload, 1, 0, 0, 0, 0, 0, []),
  (1320, .aload_n 0, 1, 0, 0, 0, 0, 0, []),
  (1321, .iload 4, 2, 0, 0, 0, 0, 0, []),
  (1323, .iconst 3, 1, 0, 0, 0, 3, 0, []),
  (1324, .iadd, 1, 0, 0, 0, 0, 0, []),
  (1325, .iaload, 1, 0, 0, 0, 0, 0, []),
  (1326, .invokevirtual 138, 3, 140, 304, 1020, 0, 0, []),
  (1329, .if_icmp .eq 869, 3, 2198, 0, 0, 0, 0, []),
  (1332, .iconst 0, 1, 0, 0, 0, 0, 0, []),
  (1333, .ireturn, 1, 0, 2, 0, 0, 0, []),
  (1334, .aload_n 1, 1, 0, 0, 0, 0, 0, []),
  (1335, .aload_n 0, 1, 0, 0, 0, 0, 0, []),
  (1336, .iload 4, 2, 0, 0, 0, 0, 0, []),
  (1338, .iconst 1, 1, 0, 0, 0, 1, 0, []),
  (1339, .iadd, 1, 0, 0, 0, 0, 0, []),
  (1340, .iaload, 1, 0, 0, 0, 0, 0, []),
  (1341, .aload_n 0, 1, 0, 0, 0, 0, 0, []),
  (1342, .iload 4, 2, 0, 0, 0, 0, 0, []),
  (1344, .iconst 2, 1, 0, 0, 0, 2, 0, []),
  (1345, .iadd, 1, 0, 0, 0, 0, 0, []),
  (1346, .iaload, 1, 0, 0, 0, 0, 0, []),
  (1347, .invokevirtual 139, 3, 108, 203, 452, 0, 0, []),
  (1350, .aload_n 2, 1, 0, 0, 0, 0, 0, []),
  (1351, .aload_n 0, 1, 0, 0, 0, 0, 0, []),
  (1352, .iload 4, 2, 0, 0, 0, 0, 0, []),
  (1354, .iconst 1, 1, 0, 0, 0, 1, 0, []),
  (1355, .iadd, 1, 0, 0, 0, 0, 0, []),
  (1356, .iaload, 1, 0, 0, 0, 0, 0, []),
  (1357, .aload_n 0, 1, 0, 0, 0, 0, 0, []),
  (1358, .iload 4, 2, 0, 0, 0, 0, 0, []),
  (1360, .iconst 2, 1, 0, 0, 0, 2, 0, []),
  (1361, .iadd, 1, 0, 0, 0, 0, 0, []),
  (1362, .iaload, 1, 0, 0, 0, 0, 0, []),
  (1363, .invokevirtual 142, 3, 180, 303, 1030, 0, 0, []),
  (1366, .if_icmp .eq 832, 3, 2198, 0, 0, 0, 0, []),
  (1369, .iconst 0, 1, 0, 0, 0, 0, 0, []),
  (1370, .ireturn, 1, 0, 2, 0, 0, 0, []),
  (1371, .aload_n 1, 1, 0, 0, 0, 0, 0, []),
  (1372, .aload_n 0, 1, 0, 0, 0, 0, 0, []),
  (1373, .iload 4, 2, 0, 0, 0, 0, 0, []),
  (1375, .iconst 1, 1, 0, 0, 0, 1, 0, []),
  (1376, .iadd, 1, 0, 0, 0, 0, 0, []),
  (1377, .iaload, 1, 0, 0, 0, 0, 0, []),
  (1378, .aload_n 0, 1, 0, 0, 0, 0, 0, []),
  (1379, .iload 4, 2, 0, 0, 0, 0, 0, []),
  (1381, .iconst 2, 1, 0, 0, 0, 2, 0, []),
  (1382, .iadd, 1, 0, 0, 0, 0, 0, []),
  (1383, .iaload, 1, 0, 0, 0, 0, 0, []),
  (1384, .invokevirtual 143, 3, 79, 203, 459, 0, 0, []),
  (1387, .aload_n 2, 1, 0, 0, 0, 0, 0, []),
  (1388, .aload_n 0, 1, 0, 0, 0, 0, 0, []),
  (1389, .iload 4, 2, 0, 0, 0, 0, 0, []),
  (1391, .iconst 1, 1, 0, 0, 0, 1, 0, []),
  (1392, .iadd, 1, 0, 0, 0, 0, 0, []),
  (1393, .iaload, 1, 0, 0, 0, 0, 0, []),
  (1394, .aload_n 0, 1, 0, 0, 0, 0, 0, []),
  (1395, .iload 4, 2, 0, 0, 0, 0, 0, []),
  (1397, .iconst 2, 1, 0, 0, 0, 2, 0, []),
  (1398, .iadd, 1, 0, 0, 0, 0, 0, []),
  (1399, .iaload, 1, 0, 0, 0, 0, 0, []),
  (1400, .invokevirtual 146, 3, 141, 303, 1037, 0, 0, []),
  (1403, .if_icmp .eq 795, 3, 2198, 0, 0, 0, 0, []),
  (1406, .iconst 0, 1, 0, 0, 0, 0, 0, []),
  (1407, .ireturn, 1, 0, 2, 0, 0, 0, []),
  (1408, .aload_n 1, 1, 0, 0, 0, 0, 0, []),
  (1409, .aload_n 0, 1, 0, 0, 0, 0, 0, []),
  (1410, .iload 4, 2, 0, 0, 0, 0, 0, []),
  (1412, .iconst 1, 1, 0, 0, 0, 1, 0, []),
  (1413, .iadd, 1, 0, 0, 0, 0, 0, []),
  (1414, .iaload, 1, 0, 0, 0, 0, 0, []),
  (1415, .aload_n 0, 1, 0, 0, 0, 0, 0, []),
  (1416, .iload 4, 2, 0, 0, 0, 0, 0, []),
  (1418, .iconst 2, 1, 0, 0, 0, 2, 0, []),
  (1419, .iadd, 1, 0, 0, 0, 0, 0, []),
  (1420, .iaload, 1, 0, 0, 0, 0, 0, []),
  (1421, .aload_n 0, 1, 0, 0, 0, 0, 0, []),
  (1422, .iload 4, 2, 0, 0, 0, 0, 0, []),
  (1424, .iconst 3, 1, 0, 0, 0, 3, 0, []),
  (1425, .iadd, 1, 0, 0, 0, 0, 0, []),
  (1426, .iaload, 1, 0, 0, 0, 0, 0, []),
  (1427, .invokevirtual 147, 3, 121, 204, 466, 0, 0, []),
  (1430, .aload_n 2, 1, 0, 0, 0, 0, 0, []),
  (1431, .aload_n 0, 1, 0, 0, 0, 0, 0, []),
  (1432, .iload 4, 2, 0, 0, 0, 0, 0, []),
  (1434, .iconst 1, 1, 0, 0, 0, 1, 0, []),
  (1435, .iadd, 1, 0, 0, 0, 0, 0, []),
  (1436, .iaload, 1, 0, 0, 0, 0, 0, []),
  (1437, .aload_n 0, 1, 0, 0, 0, 0, 0, []),
  (1438, .iload 4, 2, 0, 0, 0, 0, 0, []),
  (1440, .iconst 2, 1, 0, 0, 0, 2, 0, []),
  (1441, .iadd, 1, 0, 0, 0, 0, 0, []),
  (1442, .iaload, 1, 0, 0, 0, 0, 0, []),
  (1443, .aload_n 0, 1, 0, 0, 0, 0, 0, [])]
def t_L_law_p9 : List rx_E := [
  (1444, .iload 4, 2, 0, 0, 0, 0, 0, []),
  (1446, .iconst 3, 1, 0, 0, 0, 3, 0, []),
  (1447, .iadd, 1, 0, 0, 0, 0, 0, []),
  (1448, .iaload, 1, 0, 0, 0, 0, 0, []),
  (1449, .invokevirtual 150, 3, 201, 304, 1045, 0, 0, []),
  (1452, .if_icmp .eq 746, 3, 2198, 0, 0, 0, 0, []),
  (1455, .iconst 0, 1, 0, 0, 0, 0, 0, []),
  (1456, .ireturn, 1, 0, 2, 0, 0, 0, []),
  (1457, .aload_n 1, 1, 0, 0, 0, 0, 0, []),
  (1458, .aload_n 0, 1, 0, 0, 0, 0, 0, []),
  (1459, .iload 4, 2, 0, 0, 0, 0, 0, []),
  (1461, .iconst 1, 1, 0, 0, 0, 1, 0, []),
  (1462, .iadd, 1, 0, 0, 0, 0, 0, []),
  (1463, .iaload, 1, 0, 0, 0, 0, 0, []),
  (1464, .aload_n 0, 1, 0, 0, 0, 0, 0, []),
  (1465, .iload 4, 2, 0, 0, 0, 0, 0, []),
  (1467, .iconst 2, 1, 0, 0, 0, 2, 0, []),
  (1468, .iadd, 1, 0, 0, 0, 0, 0, []),
  (1469, .iaload, 1, 0, 0, 0, 0, 0, []),
  (1470, .aload_n 0, 1, 0, 0, 0, 0, 0, []),
  (1471, .iload 4, 2, 0, 0, 0, 0, 0, []),
  (1473, .iconst 3, 1, 0, 0, 0, 3, 0, []),
  (1474, .iadd, 1, 0, 0, 0, 0, 0, []),
  (1475, .iaload, 1, 0, 0, 0, 0, 0, []),
  (1476, .invokevirtual 151, 3, 135, 204, 473, 0, 0, []),
  (1479, .aload_n 2, 1, 0, 0, 0, 0, 0, []),
  (1480, .aload_n 0, 1, 0, 0, 0, 0, 0, []),
  (1481, .iload 4, 2, 0, 0, 0, 0, 0, []),
  (1483, .iconst 1, 1, 0, 0, 0, 1, 0, []),
  (1484, .iadd, 1, 0, 0, 0, 0, 0, []),
  (1485, .iaload, 1, 0, 0, 0, 0, 0, []),
  (1486, .aload_n 0, 1, 0, 0, 0, 0, 0, []),
  (1487, .iload 4, 2, 0, 0, 0, 0, 0, []),
  (1489, .iconst 2, 1, 0, 0, 0, 2, 0, []),
  (1490, .iadd, 1, 0, 0, 0, 0, 0, []),
  (1491, .iaload, 1, 0, 0, 0, 0, 0, []),
  (1492, .aload_n 0, 1, 0, 0, 0, 0, 0, []),
  (1493, .iload 4, 2, 0, 0, 0, 0, 0, []),
  (1495, .iconst 3, 1, 0, 0, 0, 3, 0, []),
  (1496, .iadd, 1, 0, 0, 0, 0, 0, []),
  (1497, .iaload, 1, 0, 0, 0, 0, 0, []),
  (1498, .invokevirtual 155, 3, 223, 304, 1049, 0, 0, []),
  (1501, .lcmp, 1, 0, 0, 0, 0, 0, []),
  (1502, .ifCond .eq 696, 3, 2198, 0, 0, 0, 0, []),
  (1505, .iconst 0, 1, 0, 0, 0, 0, 0, []),
  (1506, .ireturn, 1, 0, 2, 0, 0, 0, []),
  (1507, .aload_n 1, 1, 0, 0, 0, 0, 0, []),
  (1508, .aload_n 0, 1, 0, 0, 0, 0, 0, []),
  (1509, .iload 4, 2, 0, 0, 0, 0, 0, []),
  (1511, .iconst 1, 1, 0, 0, 0, 1, 0, []),
  (1512, .iadd, 1, 0, 0, 0, 0, 0, []),
  (1513, .iaload, 1, 0, 0, 0, 0, 0, []),
  (1514, .aload_n 0, 1, 0, 0, 0, 0, 0, []),
  (1515, .iload 4, 2, 0, 0, 0, 0, 0, []),
  (1517, .iconst 2, 1, 0, 0, 0, 2, 0, []),
  (1518, .iadd, 1, 0, 0, 0, 0, 0, []),
  (1519, .iaload, 1, 0, 0, 0, 0, 0, []),
  (1520, .invokevirtual 156, 3, 111, 203, 480, 0, 0, []),
  (1523, .aload_n 2, 1, 0, 0, 0, 0, 0, []),
  (1524, .aload_n 0, 1, 0, 0, 0, 0, 0, []),
  (1525, .iload 4, 2, 0, 0, 0, 0, 0, []),
  (1527, .iconst 1, 1, 0, 0, 0, 1, 0, []),
  (1528, .iadd, 1, 0, 0, 0, 0, 0, []),
  (1529, .iaload, 1, 0, 0, 0, 0, 0, []),
  (1530, .aload_n 0, 1, 0, 0, 0, 0, 0, []),
  (1531, .iload 4, 2, 0, 0, 0, 0, 0, []),
  (1533, .iconst 2, 1, 0, 0, 0, 2, 0, []),
  (1534, .iadd, 1, 0, 0, 0, 0, 0, []),
  (1535, .iaload, 1, 0, 0, 0, 0, 0, []),
  (1536, .invokevirtual 159, 3, 185, 303, 1056, 0, 0, []),
  (1539, .if_icmp .eq 659, 3, 2198, 0, 0, 0, 0, []),
  (1542, .iconst 0, 1, 0, 0, 0, 0, 0, []),
  (1543, .ireturn, 1, 0, 2, 0, 0, 0, []),
  (1544, .aload_n 1, 1, 0, 0, 0, 0, 0, []),
  (1545, .aload_n 0, 1, 0, 0, 0, 0, 0, []),
  (1546, .iload 4, 2, 0, 0, 0, 0, 0, []),
  (1548, .iconst 1, 1, 0, 0, 0, 1, 0, []),
  (1549, .iadd, 1, 0, 0, 0, 0, 0, []),
  (1550, .iaload, 1, 0, 0, 0, 0, 0, []),
  (1551, .aload_n 0, 1, 0, 0, 0, 0, 0, []),
  (1552, .iload 4, 2, 0, 0, 0, 0, 0, []),
  (1554, .iconst 2, 1, 0, 0, 0, 2, 0, []),
  (1555, .iadd, 1, 0, 0, 0, 0, 0, []),
  (1556, .iaload, 1, 0, 0, 0, 0, 0, []),
  (1557, .invokevirtual 160, 3, 114, 203, 486, 0, 0, []),
  (1560, .aload_n 2, 1, 0, 0, 0, 0, 0, []),
  (1561, .aload_n 0, 1, 0, 0, 0, 0, 0, []),
  (1562, .iload 4, 2, 0, 0, 0, 0, 0, []),
  (1564, .iconst 1, 1, 0, 0, 0, 1, 0, []),
  (1565, .iadd, 1, 0, 0, 0, 0, 0, []),
  (1566, .iaload, 1, 0, 0, 0, 0, 0, []),
  (1567, .aload_n 0, 1, 0, 0, 0, 0, 0, []),
  (1568, .iload 4, 2, 0, 0, 0, 0, 0, []),
  (1570, .iconst 2, 1, 0, 0, 0, 2, 0, []),
  (1571, .iadd, 1, 0, 0, 0, 0, 0, []),
  (1572, .iaload, 1, 0, 0, 0, 0, 0, []),
  (1573, .invokevirtual 163, 3, 193, 303, 1060, 0, 0, []),
  (1576, .if_icmp .eq 622, 3, 2198, 0, 0, 0, 0, []),
  (1579, .iconst 0, 1, 0, 0, 0, 0, 0, []),
  (1580, .ireturn, 1, 0, 2, 0, 0, 0, [])]
def t_L_law_p10 : List rx_E := [
  (1581, .aload_n 1, 1, 0, 0, 0, 0, 0, []),
  (1582, .aload_n 0, 1, 0, 0, 0, 0, 0, []),
  (1583, .iload 4, 2, 0, 0, 0, 0, 0, []),
  (1585, .iconst 1, 1, 0, 0, 0, 1, 0, []),
  (1586, .iadd, 1, 0, 0, 0, 0, 0, []),
  (1587, .iaload, 1, 0, 0, 0, 0, 0, []),
  (1588, .aload_n 0, 1, 0, 0, 0, 0, 0, []),
  (1589, .iload 4, 2, 0, 0, 0, 0, 0, []),
  (1591, .iconst 2, 1, 0, 0, 0, 2, 0, []),
  (1592, .iadd, 1, 0, 0, 0, 0, 0, []),
  (1593, .iaload, 1, 0, 0, 0, 0, 0, []),
  (1594, .invokevirtual 164, 3, 94, 203, 490, 0, 0, []),
  (1597, .aload_n 2, 1, 0, 0, 0, 0, 0, []),
  (1598, .aload_n 0, 1, 0, 0, 0, 0, 0, []),
  (1599, .iload 4, 2, 0, 0, 0, 0, 0, []),
  (1601, .iconst 1, 1, 0, 0, 0, 1, 0, []),
  (1602, .iadd, 1, 0, 0, 0, 0, 0, []),
  (1603, .iaload, 1, 0, 0, 0, 0, 0, []),
  (1604, .aload_n 0, 1, 0, 0, 0, 0, 0, []),
  (1605, .iload 4, 2, 0, 0, 0, 0, 0, []),
  (1607, .iconst 2, 1, 0, 0, 0, 2, 0, []),
  (1608, .iadd, 1, 0, 0, 0, 0, 0, []),
  (1609, .iaload, 1, 0, 0, 0, 0, 0, []),
  (1610, .invokevirtual 167, 3, 159, 303, 1064, 0, 0, []),
  (1613, .if_icmp .eq 585, 3, 2198, 0, 0, 0, 0, []),
  (1616, .iconst 0, 1, 0, 0, 0, 0, 0, []),
  (1617, .ireturn, 1, 0, 2, 0, 0, 0, []),
  (1618, .aload_n 1, 1, 0, 0, 0, 0, 0, []),
  (1619, .aload_n 0, 1, 0, 0, 0, 0, 0, []),
  (1620, .iload 4, 2, 0, 0, 0, 0, 0, []),
  (1622, .iconst 1, 1, 0, 0, 0, 1, 0, []),
  (1623, .iadd, 1, 0, 0, 0, 0, 0, []),
  (1624, .iaload, 1, 0, 0, 0, 0, 0, []),
  (1625, .invokevirtual 168, 3, 113, 202, 517, 0, 0, []),
  (1628, .aload_n 2, 1, 0, 0, 0, 0, 0, []),
  (1629, .aload_n 0, 1, 0, 0, 0, 0, 0, []),
  (1630, .iload 4, 2, 0, 0, 0, 0, 0, []),
  (1632, .iconst 1, 1, 0, 0, 0, 1, 0, []),
  (1633, .iadd, 1, 0, 0, 0, 0, 0, []),
  (1634, .iaload, 1, 0, 0, 0, 0, 0, []),
  (1635, .invokevirtual 171, 3, 191, 302, 1072, 0, 0, []),
  (1638, .if_icmp .eq 560, 3, 2198, 0, 0, 0, 0, []),
  (1641, .iconst 0, 1, 0, 0, 0, 0, 0, []),
  (1642, .ireturn, 1, 0, 2, 0, 0, 0, []),
  (1643, .aload_n 1, 1, 0, 0, 0, 0, 0, []),
  (1644, .aload_n 0, 1, 0, 0, 0, 0, 0, []),
  (1645, .iload 4, 2, 0, 0, 0, 0, 0, []),
  (1647, .iconst 1, 1, 0, 0, 0, 1, 0, []),
  (1648, .iadd, 1, 0, 0, 0, 0, 0, []),
  (1649, .iaload, 1, 0, 0, 0, 0, 0, []),
  (1650, .invokevirtual 172, 3, 85, 202, 525, 0, 0, []),
  (1653, .aload_n 2, 1, 0, 0, 0, 0, 0, []),
  (1654, .aload_n 0, 1, 0, 0, 0, 0, 0, []),
  (1655, .iload 4, 2, 0, 0, 0, 0, 0, []),
  (1657, .iconst 1, 1, 0, 0, 0, 1, 0, []),
  (1658, .iadd, 1, 0, 0, 0, 0, 0, []),
  (1659, .iaload, 1, 0, 0, 0, 0, 0, []),
  (1660, .invokevirtual 175, 3, 149, 302, 1076, 0, 0, []),
  (1663, .if_icmp .eq 535, 3, 2198, 0, 0, 0, 0, []),
  (1666, .iconst 0, 1, 0, 0, 0, 0, 0, []),
  (1667, .ireturn, 1, 0, 2, 0, 0, 0, []),
  (1668, .aload_n 1, 1, 0, 0, 0, 0, 0, []),
  (1669, .aload_n 0, 1, 0, 0, 0, 0, 0, []),
  (1670, .iload 4, 2, 0, 0, 0, 0, 0, []),
  (1672, .iconst 1, 1, 0, 0, 0, 1, 0, []),
  (1673, .iadd, 1, 0, 0, 0, 0, 0, []),
  (1674, .iaload, 1, 0, 0, 0, 0, 0, []),
  (1675, .invokevirtual 176, 3, 109, 202, 530, 0, 0, []),
  (1678, .aload_n 2, 1, 0, 0, 0, 0, 0, []),
  (1679, .aload_n 0, 1, 0, 0, 0, 0, 0, []),
  (1680, .iload 4, 2, 0, 0, 0, 0, 0, []),
  (1682, .iconst 1, 1, 0, 0, 0, 1, 0, []),
  (1683, .iadd, 1, 0, 0, 0, 0, 0, []),
  (1684, .iaload, 1, 0, 0, 0, 0, 0, []),
  (1685, .invokevirtual 179, 3, 181, 302, 1080, 0, 0, []),
  (1688, .if_icmp .eq 510, 3, 2198, 0, 0, 0, 0, []),
  (1691, .iconst 0, 1, 0, 0, 0, 0, 0, []),
  (1692, .ireturn, 1, 0, 2, 0, 0, 0, []),
  (1693, .aload_n 1, 1, 0, 0, 0, 0, 0, []),
  (1694, .aload_n 0, 1, 0, 0, 0, 0, 0, []),
  (1695, .iload 4, 2, 0, 0, 0, 0, 0, []),
  (1697, .iconst 1, 1, 0, 0, 0, 1, 0, []),
  (1698, .iadd, 1, 0, 0, 0, 0, 0, []),
  (1699, .iaload, 1, 0, 0, 0, 0, 0, []),
  (1700, .aload_n 0, 1, 0, 0, 0, 0, 0, []),
  (1701, .iload 4, 2, 0, 0, 0, 0, 0, []),
  (1703, .iconst 2, 1, 0, 0, 0, 2, 0, []),
  (1704, .iadd, 1, 0, 0, 0, 0, 0, []),
  (1705, .iaload, 1, 0, 0, 0, 0, 0, []),
  (1706, .invokevirtual 180, 3, 127, 203, 542, 0, 0, []),
  (1709, .aload_n 2, 1, 0, 0, 0, 0, 0, []),
  (1710, .aload_n 0, 1, 0, 0, 0, 0, 0, []),
  (1711, .iload 4, 2, 0, 0, 0, 0, 0, []),
  (1713, .iconst 1, 1, 0, 0, 0, 1, 0, []),
  (1714, .iadd, 1, 0, 0, 0, 0, 0, []),
  (1715, .iaload, 1, 0, 0, 0, 0, 0, []),
  (1716, .aload_n 0, 1, 0, 0, 0, 0, 0, []),
  (1717, .iload 4, 2, 0, 0, 0, 0, 0, []),
  (1719, .iconst 2, 1, 0, 0, 0, 2, 0, []),
  (1720, .iadd, 1, 0, 0, 0, 0, 0, [])]
def t_L_law_p11 : List rx_E := [
  (1721, .iaload, 1, 0, 0, 0, 0, 0, []),
  (1722, .invokevirtual 183, 3, 208, 303, 1088, 0, 0, []),
  (1725, .if_icmp .eq 473, 3, 2198, 0, 0, 0, 0, []),
  (1728, .iconst 0, 1, 0, 0, 0, 0, 0, []),
  (1729, .ireturn, 1, 0, 2, 0, 0, 0, []),
  (1730, .aload_n 1, 1, 0, 0, 0, 0, 0, []),
  (1731, .aload_n 0, 1, 0, 0, 0, 0, 0, []),
  (1732, .iload 4, 2, 0, 0, 0, 0, 0, []),
  (1734, .iconst 1, 1, 0, 0, 0, 1, 0, []),
  (1735, .iadd, 1, 0, 0, 0, 0, 0, []),
  (1736, .iaload, 1, 0, 0, 0, 0, 0, []),
  (1737, .aload_n 0, 1, 0, 0, 0, 0, 0, []),
  (1738, .iload 4, 2, 0, 0, 0, 0, 0, []),
  (1740, .iconst 2, 1, 0, 0, 0, 2, 0, []),
  (1741, .iadd, 1, 0, 0, 0, 0, 0, []),
  (1742, .iaload, 1, 0, 0, 0, 0, 0, []),
  (1743, .aload_n 0, 1, 0, 0, 0, 0, 0, []),
  (1744, .iload 4, 2, 0, 0, 0, 0, 0, []),
  (1746, .iconst 3, 1, 0, 0, 0, 3, 0, []),
  (1747, .iadd, 1, 0, 0, 0, 0, 0, []),
  (1748, .iaload, 1, 0, 0, 0, 0, 0, []),
  (1749, .invokevirtual 184, 3, 95, 204, 549, 0, 0, []),
  (1752, .aload_n 2, 1, 0, 0, 0, 0, 0, []),
  (1753, .aload_n 0, 1, 0, 0, 0, 0, 0, []),
  (1754, .iload 4, 2, 0, 0, 0, 0, 0, []),
  (1756, .iconst 1, 1, 0, 0, 0, 1, 0, []),
  (1757, .iadd, 1, 0, 0, 0, 0, 0, []),
  (1758, .iaload, 1, 0, 0, 0, 0, 0, []),
  (1759, .aload_n 0, 1, 0, 0, 0, 0, 0, []),
  (1760, .iload 4, 2, 0, 0, 0, 0, 0, []),
  (1762, .iconst 2, 1, 0, 0, 0, 2, 0, []),
  (1763, .iadd, 1, 0, 0, 0, 0, 0, []),
  (1764, .iaload, 1, 0, 0, 0, 0, 0, []),
  (1765, .aload_n 0, 1, 0, 0, 0, 0, 0, []),
  (1766, .iload 4, 2, 0, 0, 0, 0, 0, []),
  (1768, .iconst 3, 1, 0, 0, 0, 3, 0, []),
  (1769, .iadd, 1, 0, 0, 0, 0, 0, []),
  (1770, .iaload, 1, 0, 0, 0, 0, 0, []),
  (1771, .invokevirtual 187, 3, 161, 304, 1096, 0, 0, []),
  (1774, .if_icmp .eq 424, 3, 2198, 0, 0, 0, 0, []),
  (1777, .iconst 0, 1, 0, 0, 0, 0, 0, []),
  (1778, .ireturn, 1, 0, 2, 0, 0, 0, []),
  (1779, .aload_n 1, 1, 0, 0, 0, 0, 0, []),
  (1780, .aload_n 0, 1, 0, 0, 0, 0, 0, []),
  (1781, .iload 4, 2, 0, 0, 0, 0, 0, []),
  (1783, .iconst 1, 1, 0, 0, 0, 1, 0, []),
  (1784, .iadd, 1, 0, 0, 0, 0, 0, []),
  (1785, .iaload, 1, 0, 0, 0, 0, 0, []),
  (1786, .aload_n 0, 1, 0, 0, 0, 0, 0, []),
  (1787, .iload 4, 2, 0, 0, 0, 0, 0, []),
  (1789, .iconst 2, 1, 0, 0, 0, 2, 0, []),
  (1790, .iadd, 1, 0, 0, 0, 0, 0, []),
  (1791, .iaload, 1, 0, 0, 0, 0, 0, []),
  (1792, .invokevirtual 188, 3, 124, 203, 564, 0, 0, []),
  (1795, .aload_n 2, 1, 0, 0, 0, 0, 0, []),
  (1796, .aload_n 0, 1, 0, 0, 0, 0, 0, []),
  (1797, .iload 4, 2, 0, 0, 0, 0, 0, []),
  (1799, .iconst 1, 1, 0, 0, 0, 1, 0, []),
  (1800, .iadd, 1, 0, 0, 0, 0, 0, []),
  (1801, .iaload, 1, 0, 0, 0, 0, 0, []),
  (1802, .aload_n 0, 1, 0, 0, 0, 0, 0, []),
  (1803, .iload 4, 2, 0, 0, 0, 0, 0, []),
  (1805, .iconst 2, 1, 0, 0, 0, 2, 0, []),
  (1806, .iadd, 1, 0, 0, 0, 0, 0, []),
  (1807, .iaload, 1, 0, 0, 0, 0, 0, []),
  (1808, .invokevirtual 191, 3, 203, 303, 960, 0, 0, []),
  (1811, .if_icmp .eq 387, 3, 2198, 0, 0, 0, 0, []),
  (1814, .iconst 0, 1, 0, 0, 0, 0, 0, []),
  (1815, .ireturn, 1, 0, 2, 0, 0, 0, []),
  (1816, .aload_n 1, 1, 0, 0, 0, 0, 0, []),
  (1817, .aload_n 0, 1, 0, 0, 0, 0, 0, []),
  (1818, .iload 4, 2, 0, 0, 0, 0, 0, []),
  (1820, .iconst 1, 1, 0, 0, 0, 1, 0, []),
  (1821, .iadd, 1, 0, 0, 0, 0, 0, []),
  (1822, .iaload, 1, 0, 0, 0, 0, 0, []),
  (1823, .invokevirtual 192, 3, 133, 202, 587, 0, 0, []),
  (1826, .aload_n 2, 1, 0, 0, 0, 0, 0, []),
  (1827, .aload_n 0, 1, 0, 0, 0, 0, 0, []),
  (1828, .iload 4, 2, 0, 0, 0, 0, 0, []),
  (1830, .iconst 1, 1, 0, 0, 0, 1, 0, []),
  (1831, .iadd, 1, 0, 0, 0, 0, 0, []),
  (1832, .iaload, 1, 0, 0, 0, 0, 0, []),
  (1833, .invokevirtual 195, 3, 221, 302, 980, 0, 0, []),
  (1836, .if_icmp .eq 362, 3, 2198, 0, 0, 0, 0, []),
  (1839, .iconst 0, 1, 0, 0, 0, 0, 0, []),
  (1840, .ireturn, 1, 0, 2, 0, 0, 0, []),
  (1841, .aload_n 1, 1, 0, 0, 0, 0, 0, []),
  (1842, .aload_n 0, 1, 0, 0, 0, 0, 0, []),
  (1843, .iload 4, 2, 0, 0, 0, 0, 0, []),
  (1845, .iconst 1, 1, 0, 0, 0, 1, 0, []),
  (1846, .iadd, 1, 0, 0, 0, 0, 0, []),
  (1847, .iaload, 1, 0, 0, 0, 0, 0, []),
  (1848, .aload_n 0, 1, 0, 0, 0, 0, 0, []),
  (1849, .iload 4, 2, 0, 0, 0, 0, 0, []),
  (1851, .iconst 2, 1, 0, 0, 0, 2, 0, []),
  (1852, .iadd, 1, 0, 0, 0, 0, 0, []),
  (1853, .iaload, 1, 0, 0, 0, 0, 0, []),
  (1854, .aload_n 0, 1, 0, 0, 0, 0, 0, []),
  (1855, .iload 4, 2, 0, 0, 0, 0, 0, []),
  (1857, .iconst 3, 1, 0, 0, 0, 3, 0, [])]
def t_L_law_p12 : List rx_E := [
  (1858, .iadd, 1, 0, 0, 0, 0, 0, []),
  (1859, .iaload, 1, 0, 0, 0, 0, 0, []),
  (1860, .invokevirtual 196, 3, 122, 204, 597, 0, 0, []),
  (1863, .aload_n 2, 1, 0, 0, 0, 0, 0, []),
  (1864, .aload_n 0, 1, 0, 0, 0, 0, 0, []),
  (1865, .iload 4, 2, 0, 0, 0, 0, 0, []),
  (1867, .iconst 1, 1, 0, 0, 0, 1, 0, []),
  (1868, .iadd, 1, 0, 0, 0, 0, 0, []),
  (1869, .iaload, 1, 0, 0, 0, 0, 0, []),
  (1870, .aload_n 0, 1, 0, 0, 0, 0, 0, []),
  (1871, .iload 4, 2, 0, 0, 0, 0, 0, []),
  (1873, .iconst 2, 1, 0, 0, 0, 2, 0, []),
  (1874, .iadd, 1, 0, 0, 0, 0, 0, []),
  (1875, .iaload, 1, 0, 0, 0, 0, 0, []),
  (1876, .aload_n 0, 1, 0, 0, 0, 0, 0, []),
  (1877, .iload 4, 2, 0, 0, 0, 0, 0, []),
  (1879, .iconst 3, 1, 0, 0, 0, 3, 0, []),
  (1880, .iadd, 1, 0, 0, 0, 0, 0, []),
  (1881, .iaload, 1, 0, 0, 0, 0, 0, []),
  (1882, .invokevirtual 199, 3, 202, 304, 1104, 0, 0, []),
  (1885, .if_icmp .eq 313, 3, 2198, 0, 0, 0, 0, []),
  (1888, .iconst 0, 1, 0, 0, 0, 0, 0, []),
  (1889, .ireturn, 1, 0, 2, 0, 0, 0, []),
  (1890, .aload_n 1, 1, 0, 0, 0, 0, 0, []),
  (1891, .aload_n 0, 1, 0, 0, 0, 0, 0, []),
  (1892, .iload 4, 2, 0, 0, 0, 0, 0, []),
  (1894, .iconst 1, 1, 0, 0, 0, 1, 0, []),
  (1895, .iadd, 1, 0, 0, 0, 0, 0, []),
  (1896, .iaload, 1, 0, 0, 0, 0, 0, []),
  (1897, .aload_n 0, 1, 0, 0, 0, 0, 0, []),
  (1898, .iload 4, 2, 0, 0, 0, 0, 0, []),
  (1900, .iconst 2, 1, 0, 0, 0, 2, 0, []),
  (1901, .iadd, 1, 0, 0, 0, 0, 0, []),
  (1902, .iaload, 1, 0, 0, 0, 0, 0, []),
  (1903, .aload_n 0, 1, 0, 0, 0, 0, 0, []),
  (1904, .iload 4, 2, 0, 0, 0, 0, 0, []),
  (1906, .iconst 3, 1, 0, 0, 0, 3, 0, []),
  (1907, .iadd, 1, 0, 0, 0, 0, 0, []),
  (1908, .iaload, 1, 0, 0, 0, 0, 0, []),
  (1909, .i2l, 1, 0, 0, 0, 0, 0, []),
  (1910, .bipush 32, 2, 0, 0, 0, 32, 0, []),
  (1912, .lshl, 1, 0, 0, 0, 0, 0, []),
  (1913, .aload_n 0, 1, 0, 0, 0, 0, 0, []),
  (1914, .iload 4, 2, 0, 0, 0, 0, 0, []),
  (1916, .iconst 4, 1, 0, 0, 0, 4, 0, []),
  (1917, .iadd, 1, 0, 0, 0, 0, 0, []),
  (1918, .iaload, 1, 0, 0, 0, 0, 0, []),
  (1919, .i2l, 1, 0, 0, 0, 0, 0, []),
  (1920, .ldc2_w 200, 3, 0, 0, 1132, 0, 4294967295, []),
  (1923, .land, 1, 0, 0, 0, 0, 0, []),
  (1924, .lor, 1, 0, 0, 0, 0, 0, []),
  (1925, .invokevirtual 202, 3, 117, 204, 605, 0, 0, []),
  (1928, .aload_n 2, 1, 0, 0, 0, 0, 0, []),
  (1929, .aload_n 0, 1, 0, 0, 0, 0, 0, []),
  (1930, .iload 4, 2, 0, 0, 0, 0, 0, []),
  (1932, .iconst 1, 1, 0, 0, 0, 1, 0, []),
  (1933, .iadd, 1, 0, 0, 0, 0, 0, []),
  (1934, .iaload, 1, 0, 0, 0, 0, 0, []),
  (1935, .aload_n 0, 1, 0, 0, 0, 0, 0, []),
  (1936, .iload 4, 2, 0, 0, 0, 0, 0, []),
  (1938, .iconst 2, 1, 0, 0, 0, 2, 0, []),
  (1939, .iadd, 1, 0, 0, 0, 0, 0, []),
  (1940, .iaload, 1, 0, 0, 0, 0, 0, []),
  (1941, .aload_n 0, 1, 0, 0, 0, 0, 0, []),
  (1942, .iload 4, 2, 0, 0, 0, 0, 0, []),
  (1944, .iconst 3, 1, 0, 0, 0, 3, 0, []),
  (1945, .iadd, 1, 0, 0, 0, 0, 0, []),
  (1946, .iaload, 1, 0, 0, 0, 0, 0, []),
  (1947, .i2l, 1, 0, 0, 0, 0, 0, []),
  (1948, .bipush 32, 2, 0, 0, 0, 32, 0, []),
  (1950, .lshl, 1, 0, 0, 0, 0, 0, []),
  (1951, .aload_n 0, 1, 0, 0, 0, 0, 0, []),
  (1952, .iload 4, 2, 0, 0, 0, 0, 0, []),
  (1954, .iconst 4, 1, 0, 0, 0, 4, 0, []),
  (1955, .iadd, 1, 0, 0, 0, 0, 0, []),
  (1956, .iaload, 1, 0, 0, 0, 0, 0, []),
  (1957, .i2l, 1, 0, 0, 0, 0, 0, []),
  (1958, .ldc2_w 200, 3, 0, 0, 1132, 0, 4294967295, []),
  (1961, .land, 1, 0, 0, 0, 0, 0, []),
  (1962, .lor, 1, 0, 0, 0, 0, 0, []),
  (1963, .invokevirtual 206, 3, 197, 304, 1108, 0, 0, []),
  (1966, .if_icmp .eq 232, 3, 2198, 0, 0, 0, 0, []),
  (1969, .iconst 0, 1, 0, 0, 0, 0, 0, []),
  (1970, .ireturn, 1, 0, 2, 0, 0, 0, []),
  (1971, .aload_n 1, 1, 0, 0, 0, 0, 0, []),
  (1972, .aload_n 0, 1, 0, 0, 0, 0, 0, []),
  (1973, .iload 4, 2, 0, 0, 0, 0, 0, []),
  (1975, .iconst 1, 1, 0, 0, 0, 1, 0, []),
  (1976, .iadd, 1, 0, 0, 0, 0, 0, []),
  (1977, .iaload, 1, 0, 0, 0, 0, 0, []),
  (1978, .aload_n 0, 1, 0, 0, 0, 0, 0, []),
  (1979, .iload 4, 2, 0, 0, 0, 0, 0, []),
  (1981, .iconst 2, 1, 0, 0, 0, 2, 0, []),
  (1982, .iadd, 1, 0, 0, 0, 0, 0, []),
  (1983, .iaload, 1, 0, 0, 0, 0, 0, []),
  (1984, .aload_n 3, 1, 0, 0, 0, 0, 0, []),
  (1985, .invokestatic 207, 3, 6, 4, 715, 0, 0, []),
  (1988, .istore 5, 2, 0, 0, 0, 0, 0, []),
  (1990, .aload_n 2, 1, 0, 0, 0, 0, 0, []),
  (1991, .aload_n 0, 1, 0, 0, 0, 0, 0, [])]
def t_L_law_p13 : List rx_E := [
  (1992, .iload 4, 2, 0, 0, 0, 0, 0, []),
  (1994, .iconst 1, 1, 0, 0, 0, 1, 0, []),
  (1995, .iadd, 1, 0, 0, 0, 0, 0, []),
  (1996, .iaload, 1, 0, 0, 0, 0, 0, []),
  (1997, .aload_n 0, 1, 0, 0, 0, 0, 0, []),
  (1998, .iload 4, 2, 0, 0, 0, 0, 0, []),
  (2000, .iconst 2, 1, 0, 0, 0, 2, 0, []),
  (2001, .iadd, 1, 0, 0, 0, 0, 0, []),
  (2002, .iaload, 1, 0, 0, 0, 0, 0, []),
  (2003, .invokevirtual 210, 3, 153, 303, 1112, 0, 0, []),
  (2006, .lstore 6, 2, 0, 0, 0, 0, 0, []),
  (2008, .aload_n 2, 1, 0, 0, 0, 0, 0, []),
  (2009, .invokevirtual 211, 3, 214, 301, 743, 0, 0, []),
  (2012, .iload 5, 2, 0, 0, 0, 0, 0, []),
  (2014, .if_icmp .eq 5, 3, 2019, 0, 0, 0, 0, []),
  (2017, .iconst 0, 1, 0, 0, 0, 0, 0, []),
  (2018, .ireturn, 1, 0, 2, 0, 0, 0, []),
  (2019, .iload 5, 2, 0, 0, 0, 0, 0, []),
  (2021, .ifCond .ne 14, 3, 2035, 0, 0, 0, 0, []),
  (2024, .aload_n 3, 1, 0, 0, 0, 0, 0, []),
  (2025, .iconst 0, 1, 0, 0, 0, 0, 0, []),
  (2026, .laload, 1, 0, 0, 0, 0, 0, []),
  (2027, .lload 6, 2, 0, 0, 0, 0, 0, []),
  (2029, .lcmp, 1, 0, 0, 0, 0, 0, []),
  (2030, .ifCond .eq 5, 3, 2035, 0, 0, 0, 0, []),
  (2033, .iconst 0, 1, 0, 0, 0, 0, 0, []),
  (2034, .ireturn, 1, 0, 2, 0, 0, 0, []),
  (2035, .goto 163, 3, 2198, 0, 0, 0, 0, []),
  (2038, .aload_n 1, 1, 0, 0, 0, 0, 0, []),
  (2039, .aload_n 0, 1, 0, 0, 0, 0, 0, []),
  (2040, .iload 4, 2, 0, 0, 0, 0, 0, []),
  (2042, .iconst 1, 1, 0, 0, 0, 1, 0, []),
  (2043, .iadd, 1, 0, 0, 0, 0, 0, []),
  (2044, .iaload, 1, 0, 0, 0, 0, 0, []),
  (2045, .aload_n 0, 1, 0, 0, 0, 0, 0, []),
  (2046, .iload 4, 2, 0, 0, 0, 0, 0, []),
  (2048, .iconst 2, 1, 0, 0, 0, 2, 0, []),
  (2049, .iadd, 1, 0, 0, 0, 0, 0, []),
  (2050, .iaload, 1, 0, 0, 0, 0, 0, []),
  (2051, .aload_n 0, 1, 0, 0, 0, 0, 0, []),
  (2052, .iload 4, 2, 0, 0, 0, 0, 0, []),
  (2054, .iconst 3, 1, 0, 0, 0, 3, 0, []),
  (2055, .iadd, 1, 0, 0, 0, 0, 0, []),
  (2056, .iaload, 1, 0, 0, 0, 0, 0, []),
  (2057, .aload_n 0, 1, 0, 0, 0, 0, 0, []),
  (2058, .iload 4, 2, 0, 0, 0, 0, 0, []),
  (2060, .iconst 4, 1, 0, 0, 0, 4, 0, []),
  (2061, .iadd, 1, 0, 0, 0, 0, 0, []),
  (2062, .iaload, 1, 0, 0, 0, 0, 0, []),
  (2063, .aload_n 0, 1, 0, 0, 0, 0, 0, []),
  (2064, .iload 4, 2, 0, 0, 0, 0, 0, []),
  (2066, .iconst 5, 1, 0, 0, 0, 5, 0, []),
  (2067, .iadd, 1, 0, 0, 0, 0, 0, []),
  (2068, .iaload, 1, 0, 0, 0, 0, 0, []),
  (2069, .invokevirtual 214, 3, 83, 206, 613, 0, 0, []),
  (2072, .aload_n 2, 1, 0, 0, 0, 0, 0, []),
  (2073, .aload_n 0, 1, 0, 0, 0, 0, 0, []),
  (2074, .iload 4, 2, 0, 0, 0, 0, 0, []),
  (2076, .iconst 1, 1, 0, 0, 0, 1, 0, []),
  (2077, .iadd, 1, 0, 0, 0, 0, 0, []),
  (2078, .iaload, 1, 0, 0, 0, 0, 0, []),
  (2079, .aload_n 0, 1, 0, 0, 0, 0, 0, []),
  (2080, .iload 4, 2, 0, 0, 0, 0, 0, []),
  (2082, .iconst 2, 1, 0, 0, 0, 2, 0, []),
  (2083, .iadd, 1, 0, 0, 0, 0, 0, []),
  (2084, .iaload, 1, 0, 0, 0, 0, 0, []),
  (2085, .aload_n 0, 1, 0, 0, 0, 0, 0, []),
  (2086, .iload 4, 2, 0, 0, 0, 0, 0, []),
  (2088, .iconst 3, 1, 0, 0, 0, 3, 0, []),
  (2089, .iadd, 1, 0, 0, 0, 0, 0, []),
  (2090, .iaload, 1, 0, 0, 0, 0, 0, []),
  (2091, .aload_n 0, 1, 0, 0, 0, 0, 0, []),
  (2092, .iload 4, 2, 0, 0, 0, 0, 0, []),
  (2094, .iconst 4, 1, 0, 0, 0, 4, 0, []),
  (2095, .iadd, 1, 0, 0, 0, 0, 0, []),
  (2096, .iaload, 1, 0, 0, 0, 0, 0, []),
  (2097, .aload_n 0, 1, 0, 0, 0, 0, 0, []),
  (2098, .iload 4, 2, 0, 0, 0, 0, 0, []),
  (2100, .iconst 5, 1, 0, 0, 0, 5, 0, []),
  (2101, .iadd, 1, 0, 0, 0, 0, 0, []),
  (2102, .iaload, 1, 0, 0, 0, 0, 0, []),
  (2103, .invokevirtual 218, 3, 147, 306, 1116, 0, 0, []),
  (2106, .if_icmp .eq 92, 3, 2198, 0, 0, 0, 0, []),
  (2109, .iconst 0, 1, 0, 0, 0, 0, 0, []),
  (2110, .ireturn, 1, 0, 2, 0, 0, 0, []),
  (2111, .aload_n 1, 1, 0, 0, 0, 0, 0, []),
  (2112, .aload_n 0, 1, 0, 0, 0, 0, 0, []),
  (2113, .iload 4, 2, 0, 0, 0, 0, 0, []),
  (2115, .iconst 1, 1, 0, 0, 0, 1, 0, []),
  (2116, .iadd, 1, 0, 0, 0, 0, 0, []),
  (2117, .iaload, 1, 0, 0, 0, 0, 0, []),
  (2118, .aload_n 0, 1, 0, 0, 0, 0, 0, []),
  (2119, .iload 4, 2, 0, 0, 0, 0, 0, []),
  (2121, .iconst 2, 1, 0, 0, 0, 2, 0, []),
  (2122, .iadd, 1, 0, 0, 0, 0, 0, []),
  (2123, .iaload, 1, 0, 0, 0, 0, 0, []),
  (2124, .invokevirtual 219, 3, 129, 203, 624, 0, 0, []),
  (2127, .aload_n 2, 1, 0, 0, 0, 0, 0, []),
  (2128, .aload_n 0, 1, 0, 0, 0, 0, 0, []),
  (2129, .iload 4, 2, 0, 0, 0, 0, 0, [])]
def t_L_law_p14 : List rx_E := [
  (2131, .iconst 1, 1, 0, 0, 0, 1, 0, []),
  (2132, .iadd, 1, 0, 0, 0, 0, 0, []),
  (2133, .iaload, 1, 0, 0, 0, 0, 0, []),
  (2134, .aload_n 0, 1, 0, 0, 0, 0, 0, []),
  (2135, .iload 4, 2, 0, 0, 0, 0, 0, []),
  (2137, .iconst 2, 1, 0, 0, 0, 2, 0, []),
  (2138, .iadd, 1, 0, 0, 0, 0, 0, []),
  (2139, .iaload, 1, 0, 0, 0, 0, 0, []),
  (2140, .invokevirtual 222, 3, 213, 303, 1120, 0, 0, []),
  (2143, .if_icmp .eq 55, 3, 2198, 0, 0, 0, 0, []),
  (2146, .iconst 0, 1, 0, 0, 0, 0, 0, []),
  (2147, .ireturn, 1, 0, 2, 0, 0, 0, []),
  (2148, .aload_n 1, 1, 0, 0, 0, 0, 0, []),
  (2149, .aload_n 0, 1, 0, 0, 0, 0, 0, []),
  (2150, .iload 4, 2, 0, 0, 0, 0, 0, []),
  (2152, .iconst 1, 1, 0, 0, 0, 1, 0, []),
  (2153, .iadd, 1, 0, 0, 0, 0, 0, []),
  (2154, .iaload, 1, 0, 0, 0, 0, 0, []),
  (2155, .invokevirtual 223, 3, 97, 202, 628, 0, 0, []),
  (2158, .aload_n 2, 1, 0, 0, 0, 0, 0, []),
  (2159, .aload_n 0, 1, 0, 0, 0, 0, 0, []),
  (2160, .iload 4, 2, 0, 0, 0, 0, 0, []),
  (2162, .iconst 1, 1, 0, 0, 0, 1, 0, []),
  (2163, .iadd, 1, 0, 0, 0, 0, 0, []),
  (2164, .iaload, 1, 0, 0, 0, 0, 0, []),
  (2165, .invokevirtual 226, 3, 165, 302, 1124, 0, 0, []),
  (2168, .if_icmp .eq 30, 3, 2198, 0, 0, 0, 0, []),
  (2171, .iconst 0, 1, 0, 0, 0, 0, 0, []),
  (2172, .ireturn, 1, 0, 2, 0, 0, 0, []),
  (2173, .aload_n 1, 1, 0, 0, 0, 0, 0, []),
  (2174, .aload_n 0, 1, 0, 0, 0, 0, 0, []),
  (2175, .iload 4, 2, 0, 0, 0, 0, 0, []),
  (2177, .iconst 1, 1, 0, 0, 0, 1, 0, []),
  (2178, .iadd, 1, 0, 0, 0, 0, 0, []),
  (2179, .iaload, 1, 0, 0, 0, 0, 0, []),
  (2180, .invokevirtual 227, 3, 130, 202, 636, 0, 0, []),
  (2183, .aload_n 2, 1, 0, 0, 0, 0, 0, []),
  (2184, .aload_n 0, 1, 0, 0, 0, 0, 0, []),
  (2185, .iload 4, 2, 0, 0, 0, 0, 0, []),
  (2187, .iconst 1, 1, 0, 0, 0, 1, 0, []),
  (2188, .iadd, 1, 0, 0, 0, 0, 0, []),
  (2189, .iaload, 1, 0, 0, 0, 0, 0, []),
  (2190, .invokevirtual 230, 3, 215, 302, 1128, 0, 0, []),
  (2193, .if_icmp .eq 5, 3, 2198, 0, 0, 0, 0, []),
  (2196, .iconst 0, 1, 0, 0, 0, 0, 0, []),
  (2197, .ireturn, 1, 0, 2, 0, 0, 0, []),
  (2198, .iinc 4 6, 3, 0, 0, 0, 6, 0, []),
  (2201, .goto (-2168), 3, 33, 0, 0, 0, 0, []),
  (2204, .iconst 1, 1, 0, 0, 0, 1, 0, []),
  (2205, .ireturn, 1, 0, 2, 0, 0, 0, [])]
def t_L_law : List rx_E := t_L_law_p0 ++ (t_L_law_p1 ++ (t_L_law_p2 ++ (t_L_law_p3 ++ (t_L_law_p4 ++ (t_L_law_p5 ++ (t_L_law_p6 ++ (t_L_law_p7 ++ (t_L_law_p8 ++ (t_L_law_p9 ++ (t_L_law_p10 ++ (t_L_law_p11 ++ (t_L_law_p12 ++ (t_L_law_p13 ++ (t_L_law_p14))))))))))))))
def n_L_law_33 (k33 : Nat → Nat → Nat → Nat → Int32 → Option rx_H → Option (Int32 × Option rx_H)) (ls : rx_L) (st : List Value) (u : Option rx_H) : Option (Int32 × Option rx_H) := match ls, st, u with
  | [some (.ref x0), some (.ref x1), some (.ref x2), some (.ref x3), some (.int x4), _, _, _], [], u => k33 x0 x1 x2 x3 x4 u
  | _, _, _ => none
def n_L_law_252 (F : Nat × Nat) (k33 : Nat → Nat → Nat → Nat → Int32 → Option rx_H → Option (Int32 × Option rx_H)) (ls : rx_L) (st : List Value) (u : Option rx_H) : Option (Int32 × Option rx_H) := match ls, st, u with
  | [some (.ref x0), some (.ref x1), some (.ref x2), some (.ref x3), some (.int x4), _, _, _], [], u => f_L_law_252 F k33 x0 x1 x2 x3 x4 u
  | _, _, _ => none
def n_L_law_301 (F : Nat × Nat) (k33 : Nat → Nat → Nat → Nat → Int32 → Option rx_H → Option (Int32 × Option rx_H)) (ls : rx_L) (st : List Value) (u : Option rx_H) : Option (Int32 × Option rx_H) := match ls, st, u with
  | [some (.ref x0), some (.ref x1), some (.ref x2), some (.ref x3), some (.int x4), _, _, _], [], u => f_L_law_301 F k33 x0 x1 x2 x3 x4 u
  | _, _, _ => none
def n_L_law_350 (F : Nat × Nat) (k33 : Nat → Nat → Nat → Nat → Int32 → Option rx_H → Option (Int32 × Option rx_H)) (ls : rx_L) (st : List Value) (u : Option rx_H) : Option (Int32 × Option rx_H) := match ls, st, u with
  | [some (.ref x0), some (.ref x1), some (.ref x2), some (.ref x3), some (.int x4), _, _, _], [], u => f_L_law_350 F k33 x0 x1 x2 x3 x4 u
  | _, _, _ => none
def n_L_law_387 (F : Nat × Nat) (k33 : Nat → Nat → Nat → Nat → Int32 → Option rx_H → Option (Int32 × Option rx_H)) (ls : rx_L) (st : List Value) (u : Option rx_H) : Option (Int32 × Option rx_H) := match ls, st, u with
  | [some (.ref x0), some (.ref x1), some (.ref x2), some (.ref x3), some (.int x4), _, _, _], [], u => f_L_law_387 F k33 x0 x1 x2 x3 x4 u
  | _, _, _ => none
def n_L_law_424 (F : Nat × Nat) (k33 : Nat → Nat → Nat → Nat → Int32 → Option rx_H → Option (Int32 × Option rx_H)) (ls : rx_L) (st : List Value) (u : Option rx_H) : Option (Int32 × Option rx_H) := match ls, st, u with
  | [some (.ref x0), some (.ref x1), some (.ref x2), some (.ref x3), some (.int x4), _, _, _], [], u => f_L_law_424 F k33 x0 x1 x2 x3 x4 u
  | _, _, _ => none
def n_L_law_437 (F : Nat × Nat) (k33 : Nat → Nat → Nat → Nat → Int32 → Option rx_H → Option (Int32 × Option rx_H)) (ls : rx_L) (st : List Value) (u : Option rx_H) : Option (Int32 × Option rx_H) := match ls, st, u with
  | [some (.ref x0), some (.ref x1), some (.ref x2), some (.ref x3), some (.int x4), _, _, _], [], u => f_L_law_437 F k33 x0 x1 x2 x3 x4 u
  | _, _, _ => none
def n_L_law_462 (F : Nat × Nat) (k33 : Nat → Nat → Nat → Nat → Int32 → Option rx_H → Option (Int32 × Option rx_H)) (ls : rx_L) (st : List Value) (u : Option rx_H) : Option (Int32 × Option rx_H) := match ls, st, u with
  | [some (.ref x0), some (.ref x1), some (.ref x2), some (.ref x3), some (.int x4), _, _, _], [], u => f_L_law_462 F k33 x0 x1 x2 x3 x4 u
  | _, _, _ => none
def n_L_law_487 (F : Nat × Nat) (k33 : Nat → Nat → Nat → Nat → Int32 → Option rx_H → Option (Int32 × Option rx_H)) (ls : rx_L) (st : List Value) (u : Option rx_H) : Option (Int32 × Option rx_H) := match ls, st, u with
  | [some (.ref x0), some (.ref x1), some (.ref x2), some (.ref x3), some (.int x4), _, _, _], [], u => f_L_law_487 F k33 x0 x1 x2 x3 x4 u
  | _, _, _ => none
def n_L_law_524 (F : Nat × Nat) (k33 : Nat → Nat → Nat → Nat → Int32 → Option rx_H → Option (Int32 × Option rx_H)) (ls : rx_L) (st : List Value) (u : Option rx_H) : Option (Int32 × Option rx_H) := match ls, st, u with
  | [some (.ref x0), some (.ref x1), some (.ref x2), some (.ref x3), some (.int x4), _, _, _], [], u => f_L_law_524 F k33 x0 x1 x2 x3 x4 u
  | _, _, _ => none
def n_L_law_561 (F : Nat × Nat) (k33 : Nat → Nat → Nat → Nat → Int32 → Option rx_H → Option (Int32 × Option rx_H)) (ls : rx_L) (st : List Value) (u : Option rx_H) : Option (Int32 × Option rx_H) := match ls, st, u with
  | [some (.ref x0), some (.ref x1), some (.ref x2), some (.ref x3), some (.int x4), _, _, _], [], u => f_L_law_561 F k33 x0 x1 x2 x3 x4 u
  | _, _, _ => none
def n_L_law_598 (F : Nat × Nat) (k33 : Nat → Nat → Nat → Nat → Int32 → Option rx_H → Option (Int32 × Option rx_H)) (ls : rx_L) (st : List Value) (u : Option rx_H) : Option (Int32 × Option rx_H) := match ls, st, u with
  | [some (.ref x0), some (.ref x1), some (.ref x2), some (.ref x3), some (.int x4), _, _, _], [], u => f_L_law_598 F k33 x0 x1 x2 x3 x4 u
  | _, _, _ => none
def n_L_law_647 (F : Nat × Nat) (k33 : Nat → Nat → Nat → Nat → Int32 → Option rx_H → Option (Int32 × Option rx_H)) (ls : rx_L) (st : List Value) (u : Option rx_H) : Option (Int32 × Option rx_H) := match ls, st, u with
  | [some (.ref x0), some (.ref x1), some (.ref x2), some (.ref x3), some (.int x4), _, _, _], [], u => f_L_law_647 F k33 x0 x1 x2 x3 x4 u
  | _, _, _ => none
def n_L_law_684 (F : Nat × Nat) (k33 : Nat → Nat → Nat → Nat → Int32 → Option rx_H → Option (Int32 × Option rx_H)) (ls : rx_L) (st : List Value) (u : Option rx_H) : Option (Int32 × Option rx_H) := match ls, st, u with
  | [some (.ref x0), some (.ref x1), some (.ref x2), some (.ref x3), some (.int x4), _, _, _], [], u => f_L_law_684 F k33 x0 x1 x2 x3 x4 u
  | _, _, _ => none
def n_L_law_721 (F : Nat × Nat) (k33 : Nat → Nat → Nat → Nat → Int32 → Option rx_H → Option (Int32 × Option rx_H)) (ls : rx_L) (st : List Value) (u : Option rx_H) : Option (Int32 × Option rx_H) := match ls, st, u with
  | [some (.ref x0), some (.ref x1), some (.ref x2), some (.ref x3), some (.int x4), _, _, _], [], u => f_L_law_721 F k33 x0 x1 x2 x3 x4 u
  | _, _, _ => none
def n_L_law_742 (F : Nat × Nat) (k33 : Nat → Nat → Nat → Nat → Int32 → Option rx_H → Option (Int32 × Option rx_H)) (ls : rx_L) (st : List Value) (u : Option rx_H) : Option (Int32 × Option rx_H) := match ls, st, u with
  | [some (.ref x0), some (.ref x1), some (.ref x2), some (.ref x3), some (.int x4), _, _, _], [.int s2, .int s1, .ref s0], u => f_L_law_742 F k33 x0 x1 x2 x3 x4 s0 s1 s2 u
  | _, _, _ => none
def n_L_law_772 (F : Nat × Nat) (k33 : Nat → Nat → Nat → Nat → Int32 → Option rx_H → Option (Int32 × Option rx_H)) (ls : rx_L) (st : List Value) (u : Option rx_H) : Option (Int32 × Option rx_H) := match ls, st, u with
  | [some (.ref x0), some (.ref x1), some (.ref x2), some (.ref x3), some (.int x4), _, _, _], [.int s3, .int s2, .ref s1, .int s0], u => f_L_law_772 F k33 x0 x1 x2 x3 x4 s0 s1 s2 s3 u
  | _, _, _ => none
def n_L_law_786 (F : Nat × Nat) (k33 : Nat → Nat → Nat → Nat → Int32 → Option rx_H → Option (Int32 × Option rx_H)) (ls : rx_L) (st : List Value) (u : Option rx_H) : Option (Int32 × Option rx_H) := match ls, st, u with
  | [some (.ref x0), some (.ref x1), some (.ref x2), some (.ref x3), some (.int x4), _, _, _], [], u => f_L_law_786 F k33 x0 x1 x2 x3 x4 u
  | _, _, _ => none
def n_L_law_807 (F : Nat × Nat) (k33 : Nat → Nat → Nat → Nat → Int32 → Option rx_H → Option (Int32 × Option rx_H)) (ls : rx_L) (st : List Value) (u : Option rx_H) : Option (Int32 × Option rx_H) := match ls, st, u with
  | [some (.ref x0), some (.ref x1), some (.ref x2), some (.ref x3), some (.int x4), _, _, _], [.int s2, .int s1, .ref s0], u => f_L_law_807 F k33 x0 x1 x2 x3 x4 s0 s1 s2 u
  | _, _, _ => none
def n_L_law_837 (F : Nat × Nat) (k33 : Nat → Nat → Nat → Nat → Int32 → Option rx_H → Option (Int32 × Option rx_H)) (ls : rx_L) (st : List Value) (u : Option rx_H) : Option (Int32 × Option rx_H) := match ls, st, u with
  | [some (.ref x0), some (.ref x1), some (.ref x2), some (.ref x3), some (.int x4), _, _, _], [.int s3, .int s2, .ref s1, .int s0], u => f_L_law_837 F k33 x0 x1 x2 x3 x4 s0 s1 s2 s3 u
  | _, _, _ => none
def n_L_law_851 (F : Nat × Nat) (k33 : Nat → Nat → Nat → Nat → Int32 → Option rx_H → Option (Int32 × Option rx_H)) (ls : rx_L) (st : List Value) (u : Option rx_H) : Option (Int32 × Option rx_H) := match ls, st, u with
  | [some (.ref x0), some (.ref x1), some (.ref x2), some (.ref x3), some (.int x4), _, _, _], [], u => f_L_law_851 F k33 x0 x1 x2 x3 x4 u
  | _, _, _ => none
def n_L_law_912 (F : Nat × Nat) (k33 : Nat → Nat → Nat → Nat → Int32 → Option rx_H → Option (Int32 × Option rx_H)) (ls : rx_L) (st : List Value) (u : Option rx_H) : Option (Int32 × Option rx_H) := match ls, st, u with
  | [some (.ref x0), some (.ref x1), some (.ref x2), some (.ref x3), some (.int x4), _, _, _], [], u => f_L_law_912 F k33 x0 x1 x2 x3 x4 u
  | _, _, _ => none
def n_L_law_933 (F : Nat × Nat) (k33 : Nat → Nat → Nat → Nat → Int32 → Option rx_H → Option (Int32 × Option rx_H)) (ls : rx_L) (st : List Value) (u : Option rx_H) : Option (Int32 × Option rx_H) := match ls, st, u with
  | [some (.ref x0), some (.ref x1), some (.ref x2), some (.ref x3), some (.int x4), _, _, _], [.int s2, .int s1, .ref s0], u => f_L_law_933 F k33 x0 x1 x2 x3 x4 s0 s1 s2 u
  | _, _, _ => none
def n_L_law_963 (F : Nat × Nat) (k33 : Nat → Nat → Nat → Nat → Int32 → Option rx_H → Option (Int32 × Option rx_H)) (ls : rx_L) (st : List Value) (u : Option rx_H) : Option (Int32 × Option rx_H) := match ls, st, u with
  | [some (.ref x0), some (.ref x1), some (.ref x2), some (.ref x3), some (.int x4), _, _, _], [.int s3, .int s2, .ref s1, .int s0], u => f_L_law_963 F k33 x0 x1 x2 x3 x4 s0 s1 s2 s3 u
  | _, _, _ => none
def n_L_law_977 (F : Nat × Nat) (k33 : Nat → Nat → Nat → Nat → Int32 → Option rx_H → Option (Int32 × Option rx_H)) (ls : rx_L) (st : List Value) (u : Option rx_H) : Option (Int32 × Option rx_H) := match ls, st, u with
  | [some (.ref x0), some (.ref x1), some (.ref x2), some (.ref x3), some (.int x4), _, _, _], [], u => f_L_law_977 F k33 x0 x1 x2 x3 x4 u
  | _, _, _ => none
def n_L_law_1026 (F : Nat × Nat) (k33 : Nat → Nat → Nat → Nat → Int32 → Option rx_H → Option (Int32 × Option rx_H)) (ls : rx_L) (st : List Value) (u : Option rx_H) : Option (Int32 × Option rx_H) := match ls, st, u with
  | [some (.ref x0), some (.ref x1), some (.ref x2), some (.ref x3), some (.int x4), _, _, _], [], u => f_L_law_1026 F k33 x0 x1 x2 x3 x4 u
  | _, _, _ => none
def n_L_law_1075 (F : Nat × Nat) (k33 : Nat → Nat → Nat → Nat → Int32 → Option rx_H → Option (Int32 × Option rx_H)) (ls : rx_L) (st : List Value) (u : Option rx_H) : Option (Int32 × Option rx_H) := match ls, st, u with
  | [some (.ref x0), some (.ref x1), some (.ref x2), some (.ref x3), some (.int x4), _, _, _], [], u => f_L_law_1075 F k33 x0 x1 x2 x3 x4 u
  | _, _, _ => none
def n_L_law_1124 (F : Nat × Nat) (k33 : Nat → Nat → Nat → Nat → Int32 → Option rx_H → Option (Int32 × Option rx_H)) (ls : rx_L) (st : List Value) (u : Option rx_H) : Option (Int32 × Option rx_H) := match ls, st, u with
  | [some (.ref x0), some (.ref x1), some (.ref x2), some (.ref x3), some (.int x4), _, _, _], [], u => f_L_law_1124 F k33 x0 x1 x2 x3 x4 u
  | _, _, _ => none
def n_L_law_1149 (F : Nat × Nat) (k33 : Nat → Nat → Nat → Nat → Int32 → Option rx_H → Option (Int32 × Option rx_H)) (ls : rx_L) (st : List Value) (u : Option rx_H) : Option (Int32 × Option rx_H) := match ls, st, u with
  | [some (.ref x0), some (.ref x1), some (.ref x2), some (.ref x3), some (.int x4), _, _, _], [], u => f_L_law_1149 F k33 x0 x1 x2 x3 x4 u
  | _, _, _ => none
def n_L_law_1198 (F : Nat × Nat) (k33 : Nat → Nat → Nat → Nat → Int32 → Option rx_H → Option (Int32 × Option rx_H)) (ls : rx_L) (st : List Value) (u : Option rx_H) : Option (Int32 × Option rx_H) := match ls, st, u with
  | [some (.ref x0), some (.ref x1), some (.ref x2), some (.ref x3), some (.int x4), _, _, _], [], u => f_L_law_1198 F k33 x0 x1 x2 x3 x4 u
  | _, _, _ => none
def n_L_law_1223 (F : Nat × Nat) (k33 : Nat → Nat → Nat → Nat → Int32 → Option rx_H → Option (Int32 × Option rx_H)) (ls : rx_L) (st : List Value) (u : Option rx_H) : Option (Int32 × Option rx_H) := match ls, st, u with
  | [some (.ref x0), some (.ref x1), some (.ref x2), some (.ref x3), some (.int x4), _, _, _], [], u => f_L_law_1223 F k33 x0 x1 x2 x3 x4 u
  | _, _, _ => none
def n_L_law_1248 (F : Nat × Nat) (k33 : Nat → Nat → Nat → Nat → Int32 → Option rx_H → Option (Int32 × Option rx_H)) (ls : rx_L) (st : List Value) (u : Option rx_H) : Option (Int32 × Option rx_H) := match ls, st, u with
  | [some (.ref x0), some (.ref x1), some (.ref x2), some (.ref x3), some (.int x4), _, _, _], [], u => f_L_law_1248 F k33 x0 x1 x2 x3 x4 u
  | _, _, _ => none
def n_L_law_1285 (F : Nat × Nat) (k33 : Nat → Nat → Nat → Nat → Int32 → Option rx_H → Option (Int32 × Option rx_H)) (ls : rx_L) (st : List Value) (u : Option rx_H) : Option (Int32 × Option rx_H) := match ls, st, u with
  | [some (.ref x0), some (.ref x1), some (.ref x2), some (.ref x3), some (.int x4), _, _, _], [], u => f_L_law_1285 F k33 x0 x1 x2 x3 x4 u
  | _, _, _ => none
def n_L_law_1334 (F : Nat × Nat) (k33 : Nat → Nat → Nat → Nat → Int32 → Option rx_H → Option (Int32 × Option rx_H)) (ls : rx_L) (st : List Value) (u : Option rx_H) : Option (Int32 × Option rx_H) := match ls, st, u with
  | [some (.ref x0), some (.ref x1), some (.ref x2), some (.ref x3), some (.int x4), _, _, _], [], u => f_L_law_1334 F k33 x0 x1 x2 x3 x4 u
  | _, _, _ => none
def n_L_law_1371 (F : Nat × Nat) (k33 : Nat → Nat → Nat → Nat → Int32 → Option rx_H → Option (Int32 × Option rx_H)) (ls : rx_L) (st : List Value) (u : Option rx_H) : Option (Int32 × Option rx_H) := match ls, st, u with
  | [some (.ref x0), some (.ref x1), some (.ref x2), some (.ref x3), some (.int x4), _, _, _], [], u => f_L_law_1371 F k33 x0 x1 x2 x3 x4 u
  | _, _, _ => none
def n_L_law_1408 (F : Nat × Nat) (k33 : Nat → Nat → Nat → Nat → Int32 → Option rx_H → Option (Int32 × Option rx_H)) (ls : rx_L) (st : List Value) (u : Option rx_H) : Option (Int32 × Option rx_H) := match ls, st, u with
  | [some (.ref x0), some (.ref x1), some (.ref x2), some (.ref x3), some (.int x4), _, _, _], [], u => f_L_law_1408 F k33 x0 x1 x2 x3 x4 u
  | _, _, _ => none
def n_L_law_1457 (F : Nat × Nat) (k33 : Nat → Nat → Nat → Nat → Int32 → Option rx_H → Option (Int32 × Option rx_H)) (ls : rx_L) (st : List Value) (u : Option rx_H) : Option (Int32 × Option rx_H) := match ls, st, u with
  | [some (.ref x0), some (.ref x1), some (.ref x2), some (.ref x3), some (.int x4), _, _, _], [], u => f_L_law_1457 F k33 x0 x1 x2 x3 x4 u
  | _, _, _ => none
def n_L_law_1507 (F : Nat × Nat) (k33 : Nat → Nat → Nat → Nat → Int32 → Option rx_H → Option (Int32 × Option rx_H)) (ls : rx_L) (st : List Value) (u : Option rx_H) : Option (Int32 × Option rx_H) := match ls, st, u with
  | [some (.ref x0), some (.ref x1), some (.ref x2), some (.ref x3), some (.int x4), _, _, _], [], u => f_L_law_1507 F k33 x0 x1 x2 x3 x4 u
  | _, _, _ => none
def n_L_law_1544 (F : Nat × Nat) (k33 : Nat → Nat → Nat → Nat → Int32 → Option rx_H → Option (Int32 × Option rx_H)) (ls : rx_L) (st : List Value) (u : Option rx_H) : Option (Int32 × Option rx_H) := match ls, st, u with
  | [some (.ref x0), some (.ref x1), some (.ref x2), some (.ref x3), some (.int x4), _, _, _], [], u => f_L_law_1544 F k33 x0 x1 x2 x3 x4 u
  | _, _, _ => none
def n_L_law_1581 (F : Nat × Nat) (k33 : Nat → Nat → Nat → Nat → Int32 → Option rx_H → Option (Int32 × Option rx_H)) (ls : rx_L) (st : List Value) (u : Option rx_H) : Option (Int32 × Option rx_H) := match ls, st, u with
  | [some (.ref x0), some (.ref x1), some (.ref x2), some (.ref x3), some (.int x4), _, _, _], [], u => f_L_law_1581 F k33 x0 x1 x2 x3 x4 u
  | _, _, _ => none
def n_L_law_1618 (F : Nat × Nat) (k33 : Nat → Nat → Nat → Nat → Int32 → Option rx_H → Option (Int32 × Option rx_H)) (ls : rx_L) (st : List Value) (u : Option rx_H) : Option (Int32 × Option rx_H) := match ls, st, u with
  | [some (.ref x0), some (.ref x1), some (.ref x2), some (.ref x3), some (.int x4), _, _, _], [], u => f_L_law_1618 F k33 x0 x1 x2 x3 x4 u
  | _, _, _ => none
def n_L_law_1643 (F : Nat × Nat) (k33 : Nat → Nat → Nat → Nat → Int32 → Option rx_H → Option (Int32 × Option rx_H)) (ls : rx_L) (st : List Value) (u : Option rx_H) : Option (Int32 × Option rx_H) := match ls, st, u with
  | [some (.ref x0), some (.ref x1), some (.ref x2), some (.ref x3), some (.int x4), _, _, _], [], u => f_L_law_1643 F k33 x0 x1 x2 x3 x4 u
  | _, _, _ => none
def n_L_law_1668 (F : Nat × Nat) (k33 : Nat → Nat → Nat → Nat → Int32 → Option rx_H → Option (Int32 × Option rx_H)) (ls : rx_L) (st : List Value) (u : Option rx_H) : Option (Int32 × Option rx_H) := match ls, st, u with
  | [some (.ref x0), some (.ref x1), some (.ref x2), some (.ref x3), some (.int x4), _, _, _], [], u => f_L_law_1668 F k33 x0 x1 x2 x3 x4 u
  | _, _, _ => none
def n_L_law_1693 (F : Nat × Nat) (k33 : Nat → Nat → Nat → Nat → Int32 → Option rx_H → Option (Int32 × Option rx_H)) (ls : rx_L) (st : List Value) (u : Option rx_H) : Option (Int32 × Option rx_H) := match ls, st, u with
  | [some (.ref x0), some (.ref x1), some (.ref x2), some (.ref x3), some (.int x4), _, _, _], [], u => f_L_law_1693 F k33 x0 x1 x2 x3 x4 u
  | _, _, _ => none
def n_L_law_1730 (F : Nat × Nat) (k33 : Nat → Nat → Nat → Nat → Int32 → Option rx_H → Option (Int32 × Option rx_H)) (ls : rx_L) (st : List Value) (u : Option rx_H) : Option (Int32 × Option rx_H) := match ls, st, u with
  | [some (.ref x0), some (.ref x1), some (.ref x2), some (.ref x3), some (.int x4), _, _, _], [], u => f_L_law_1730 F k33 x0 x1 x2 x3 x4 u
  | _, _, _ => none
def n_L_law_1779 (F : Nat × Nat) (k33 : Nat → Nat → Nat → Nat → Int32 → Option rx_H → Option (Int32 × Option rx_H)) (ls : rx_L) (st : List Value) (u : Option rx_H) : Option (Int32 × Option rx_H) := match ls, st, u with
  | [some (.ref x0), some (.ref x1), some (.ref x2), some (.ref x3), some (.int x4), _, _, _], [], u => f_L_law_1779 F k33 x0 x1 x2 x3 x4 u
  | _, _, _ => none
def n_L_law_1816 (F : Nat × Nat) (k33 : Nat → Nat → Nat → Nat → Int32 → Option rx_H → Option (Int32 × Option rx_H)) (ls : rx_L) (st : List Value) (u : Option rx_H) : Option (Int32 × Option rx_H) := match ls, st, u with
  | [some (.ref x0), some (.ref x1), some (.ref x2), some (.ref x3), some (.int x4), _, _, _], [], u => f_L_law_1816 F k33 x0 x1 x2 x3 x4 u
  | _, _, _ => none
def n_L_law_1841 (F : Nat × Nat) (k33 : Nat → Nat → Nat → Nat → Int32 → Option rx_H → Option (Int32 × Option rx_H)) (ls : rx_L) (st : List Value) (u : Option rx_H) : Option (Int32 × Option rx_H) := match ls, st, u with
  | [some (.ref x0), some (.ref x1), some (.ref x2), some (.ref x3), some (.int x4), _, _, _], [], u => f_L_law_1841 F k33 x0 x1 x2 x3 x4 u
  | _, _, _ => none
def n_L_law_1890 (F : Nat × Nat) (k33 : Nat → Nat → Nat → Nat → Int32 → Option rx_H → Option (Int32 × Option rx_H)) (ls : rx_L) (st : List Value) (u : Option rx_H) : Option (Int32 × Option rx_H) := match ls, st, u with
  | [some (.ref x0), some (.ref x1), some (.ref x2), some (.ref x3), some (.int x4), _, _, _], [], u => f_L_law_1890 F k33 x0 x1 x2 x3 x4 u
  | _, _, _ => none
def n_L_law_1971 (F : Nat × Nat) (k33 : Nat → Nat → Nat → Nat → Int32 → Option rx_H → Option (Int32 × Option rx_H)) (ls : rx_L) (st : List Value) (u : Option rx_H) : Option (Int32 × Option rx_H) := match ls, st, u with
  | [some (.ref x0), some (.ref x1), some (.ref x2), some (.ref x3), some (.int x4), _, _, _], [], u => f_L_law_1971 F k33 x0 x1 x2 x3 x4 u
  | _, _, _ => none
def n_L_law_2038 (F : Nat × Nat) (k33 : Nat → Nat → Nat → Nat → Int32 → Option rx_H → Option (Int32 × Option rx_H)) (ls : rx_L) (st : List Value) (u : Option rx_H) : Option (Int32 × Option rx_H) := match ls, st, u with
  | [some (.ref x0), some (.ref x1), some (.ref x2), some (.ref x3), some (.int x4), _, _, _], [], u => f_L_law_2038 F k33 x0 x1 x2 x3 x4 u
  | _, _, _ => none
def n_L_law_2111 (F : Nat × Nat) (k33 : Nat → Nat → Nat → Nat → Int32 → Option rx_H → Option (Int32 × Option rx_H)) (ls : rx_L) (st : List Value) (u : Option rx_H) : Option (Int32 × Option rx_H) := match ls, st, u with
  | [some (.ref x0), some (.ref x1), some (.ref x2), some (.ref x3), some (.int x4), _, _, _], [], u => f_L_law_2111 F k33 x0 x1 x2 x3 x4 u
  | _, _, _ => none
def n_L_law_2148 (F : Nat × Nat) (k33 : Nat → Nat → Nat → Nat → Int32 → Option rx_H → Option (Int32 × Option rx_H)) (ls : rx_L) (st : List Value) (u : Option rx_H) : Option (Int32 × Option rx_H) := match ls, st, u with
  | [some (.ref x0), some (.ref x1), some (.ref x2), some (.ref x3), some (.int x4), _, _, _], [], u => f_L_law_2148 F k33 x0 x1 x2 x3 x4 u
  | _, _, _ => none
def n_L_law_2173 (F : Nat × Nat) (k33 : Nat → Nat → Nat → Nat → Int32 → Option rx_H → Option (Int32 × Option rx_H)) (ls : rx_L) (st : List Value) (u : Option rx_H) : Option (Int32 × Option rx_H) := match ls, st, u with
  | [some (.ref x0), some (.ref x1), some (.ref x2), some (.ref x3), some (.int x4), _, _, _], [], u => f_L_law_2173 F k33 x0 x1 x2 x3 x4 u
  | _, _, _ => none
noncomputable def kk_L_law_252 (F : Nat × Nat) (k33 : Nat → Nat → Nat → Nat → Int32 → Option rx_H → Option (Int32 × Option rx_H)) : Nat → rx_L → List Value → Option rx_H → Option (Int32 × Option rx_H) := fun t ls st u => Bool.rec (motive := fun _ => Option (Int32 × Option rx_H)) (none) (n_L_law_33 k33 ls st u) (Nat.beq t 33)
noncomputable def kk_L_law_301 (F : Nat × Nat) (k33 : Nat → Nat → Nat → Nat → Int32 → Option rx_H → Option (Int32 × Option rx_H)) : Nat → rx_L → List Value → Option rx_H → Option (Int32 × Option rx_H) := fun t ls st u => Bool.rec (motive := fun _ => Option (Int32 × Option rx_H)) (none) (n_L_law_33 k33 ls st u) (Nat.beq t 33)
noncomputable def kk_L_law_350 (F : Nat × Nat) (k33 : Nat → Nat → Nat → Nat → Int32 → Option rx_H → Option (Int32 × Option rx_H)) : Nat → rx_L → List Value → Option rx_H → Option (Int32 × Option rx_H) := fun t ls st u => Bool.rec (motive := fun _ => Option (Int32 × Option rx_H)) (none) (n_L_law_33 k33 ls st u) (Nat.beq t 33)
noncomputable def kk_L_law_387 (F : Nat × Nat) (k33 : Nat → Nat → Nat → Nat → Int32 → Option rx_H → Option (Int32 × Option rx_H)) : Nat → rx_L → List Value → Option rx_H → Option (Int32 × Option rx_H) := fun t ls st u => Bool.rec (motive := fun _ => Option (Int32 × Option rx_H)) (none) (n_L_law_33 k33 ls st u) (Nat.beq t 33)
noncomputable def kk_L_law_424 (F : Nat × Nat) (k33 : Nat → Nat → Nat → Nat → Int32 → Option rx_H → Option (Int32 × Option rx_H)) : Nat → rx_L → List Value → Option rx_H → Option (Int32 × Option rx_H) := fun t ls st u => Bool.rec (motive := fun _ => Option (Int32 × Option rx_H)) (none) (n_L_law_33 k33 ls st u) (Nat.beq t 33)
noncomputable def kk_L_law_437 (F : Nat × Nat) (k33 : Nat → Nat → Nat → Nat → Int32 → Option rx_H → Option (Int32 × Option rx_H)) : Nat → rx_L → List Value → Option rx_H → Option (Int32 × Option rx_H) := fun t ls st u => Bool.rec (motive := fun _ => Option (Int32 × Option rx_H)) (none) (n_L_law_33 k33 ls st u) (Nat.beq t 33)
noncomputable def kk_L_law_462 (F : Nat × Nat) (k33 : Nat → Nat → Nat → Nat → Int32 → Option rx_H → Option (Int32 × Option rx_H)) : Nat → rx_L → List Value → Option rx_H → Option (Int32 × Option rx_H) := fun t ls st u => Bool.rec (motive := fun _ => Option (Int32 × Option rx_H)) (none) (n_L_law_33 k33 ls st u) (Nat.beq t 33)
noncomputable def kk_L_law_487 (F : Nat × Nat) (k33 : Nat → Nat → Nat → Nat → Int32 → Option rx_H → Option (Int32 × Option rx_H)) : Nat → rx_L → List Value → Option rx_H → Option (Int32 × Option rx_H) := fun t ls st u => Bool.rec (motive := fun _ => Option (Int32 × Option rx_H)) (none) (n_L_law_33 k33 ls st u) (Nat.beq t 33)
noncomputable def kk_L_law_524 (F : Nat × Nat) (k33 : Nat → Nat → Nat → Nat → Int32 → Option rx_H → Option (Int32 × Option rx_H)) : Nat → rx_L → List Value → Option rx_H → Option (Int32 × Option rx_H) := fun t ls st u => Bool.rec (motive := fun _ => Option (Int32 × Option rx_H)) (none) (n_L_law_33 k33 ls st u) (Nat.beq t 33)
noncomputable def kk_L_law_561 (F : Nat × Nat) (k33 : Nat → Nat → Nat → Nat → Int32 → Option rx_H → Option (Int32 × Option rx_H)) : Nat → rx_L → List Value → Option rx_H → Option (Int32 × Option rx_H) := fun t ls st u => Bool.rec (motive := fun _ => Option (Int32 × Option rx_H)) (none) (n_L_law_33 k33 ls st u) (Nat.beq t 33)
noncomputable def kk_L_law_598 (F : Nat × Nat) (k33 : Nat → Nat → Nat → Nat → Int32 → Option rx_H → Option (Int32 × Option rx_H)) : Nat → rx_L → List Value → Option rx_H → Option (Int32 × Option rx_H) := fun t ls st u => Bool.rec (motive := fun _ => Option (Int32 × Option rx_H)) (none) (n_L_law_33 k33 ls st u) (Nat.beq t 33)
noncomputable def kk_L_law_647 (F : Nat × Nat) (k33 : Nat → Nat → Nat → Nat → Int32 → Option rx_H → Option (Int32 × Option rx_H)) : Nat → rx_L → List Value → Option rx_H → Option (Int32 × Option rx_H) := fun t ls st u => Bool.rec (motive := fun _ => Option (Int32 × Option rx_H)) (none) (n_L_law_33 k33 ls st u) (Nat.beq t 33)
noncomputable def kk_L_law_684 (F : Nat × Nat) (k33 : Nat → Nat → Nat → Nat → Int32 → Option rx_H → Option (Int32 × Option rx_H)) : Nat → rx_L → List Value → Option rx_H → Option (Int32 × Option rx_H) := fun t ls st u => Bool.rec (motive := fun _ => Option (Int32 × Option rx_H)) (none) (n_L_law_33 k33 ls st u) (Nat.beq t 33)
noncomputable def kk_L_law_772 (F : Nat × Nat) (k33 : Nat → Nat → Nat → Nat → Int32 → Option rx_H → Option (Int32 × Option rx_H)) : Nat → rx_L → List Value → Option rx_H → Option (Int32 × Option rx_H) := fun t ls st u => Bool.rec (motive := fun _ => Option (Int32 × Option rx_H)) (none) (n_L_law_33 k33 ls st u) (Nat.beq t 33)
noncomputable def kk_L_law_742 (F : Nat × Nat) (k33 : Nat → Nat → Nat → Nat → Int32 → Option rx_H → Option (Int32 × Option rx_H)) : Nat → rx_L → List Value → Option rx_H → Option (Int32 × Option rx_H) := fun t ls st u => Bool.rec (motive := fun _ => Option (Int32 × Option rx_H)) (none) (n_L_law_772 F k33 ls st u) (Nat.beq t 772)
noncomputable def kk_L_law_721 (F : Nat × Nat) (k33 : Nat → Nat → Nat → Nat → Int32 → Option rx_H → Option (Int32 × Option rx_H)) : Nat → rx_L → List Value → Option rx_H → Option (Int32 × Option rx_H) := fun t ls st u => Bool.rec (motive := fun _ => Option (Int32 × Option rx_H)) (none) (n_L_law_742 F k33 ls st u) (Nat.beq t 742)
noncomputable def kk_L_law_837 (F : Nat × Nat) (k33 : Nat → Nat → Nat → Nat → Int32 → Option rx_H → Option (Int32 × Option rx_H)) : Nat → rx_L → List Value → Option rx_H → Option (Int32 × Option rx_H) := fun t ls st u => Bool.rec (motive := fun _ => Option (Int32 × Option rx_H)) (none) (n_L_law_33 k33 ls st u) (Nat.beq t 33)
noncomputable def kk_L_law_807 (F : Nat × Nat) (k33 : Nat → Nat → Nat → Nat → Int32 → Option rx_H → Option (Int32 × Option rx_H)) : Nat → rx_L → List Value → Option rx_H → Option (Int32 × Option rx_H) := fun t ls st u => Bool.rec (motive := fun _ => Option (Int32 × Option rx_H)) (none) (n_L_law_837 F k33 ls st u) (Nat.beq t 837)
noncomputable def kk_L_law_786 (F : Nat × Nat) (k33 : Nat → Nat → Nat → Nat → Int32 → Option rx_H → Option (Int32 × Option rx_H)) : Nat → rx_L → List Value → Option rx_H → Option (Int32 × Option rx_H) := fun t ls st u => Bool.rec (motive := fun _ => Option (Int32 × Option rx_H)) (none) (n_L_law_807 F k33 ls st u) (Nat.beq t 807)
noncomputable def kk_L_law_851 (F : Nat × Nat) (k33 : Nat → Nat → Nat → Nat → Int32 → Option rx_H → Option (Int32 × Option rx_H)) : Nat → rx_L → List Value → Option rx_H → Option (Int32 × Option rx_H) := fun t ls st u => Bool.rec (motive := fun _ => Option (Int32 × Option rx_H)) (none) (n_L_law_33 k33 ls st u) (Nat.beq t 33)
noncomputable def kk_L_law_963 (F : Nat × Nat) (k33 : Nat → Nat → Nat → Nat → Int32 → Option rx_H → Option (Int32 × Option rx_H)) : Nat → rx_L → List Value → Option rx_H → Option (Int32 × Option rx_H) := fun t ls st u => Bool.rec (motive := fun _ => Option (Int32 × Option rx_H)) (none) (n_L_law_33 k33 ls st u) (Nat.beq t 33)
noncomputable def kk_L_law_933 (F : Nat × Nat) (k33 : Nat → Nat → Nat → Nat → Int32 → Option rx_H → Option (Int32 × Option rx_H)) : Nat → rx_L → List Value → Option rx_H → Option (Int32 × Option rx_H) := fun t ls st u => Bool.rec (motive := fun _ => Option (Int32 × Option rx_H)) (none) (n_L_law_963 F k33 ls st u) (Nat.beq t 963)
noncomputable def kk_L_law_912 (F : Nat × Nat) (k33 : Nat → Nat → Nat → Nat → Int32 → Option rx_H → Option (Int32 × Option rx_H)) : Nat → rx_L → List Value → Option rx_H → Option (Int32 × Option rx_H) := fun t ls st u => Bool.rec (motive := fun _ => Option (Int32 × Option rx_H)) (none) (n_L_law_933 F k33 ls st u) (Nat.beq t 933)
noncomputable def kk_L_law_977 (F : Nat × Nat) (k33 : Nat → Nat → Nat → Nat → Int32 → Option rx_H → Option (Int32 × Option rx_H)) : Nat → rx_L → List Value → Option rx_H → Option (Int32 × Option rx_H) := fun t ls st u => Bool.rec (motive := fun _ => Option (Int32 × Option rx_H)) (none) (n_L_law_33 k33 ls st u) (Nat.beq t 33)
noncomputable def kk_L_law_1026 (F : Nat × Nat) (k33 : Nat → Nat → Nat → Nat → Int32 → Option rx_H → Option (Int32 × Option rx_H)) : Nat → rx_L → List Value → Option rx_H → Option (Int32 × Option rx_H) := fun t ls st u => Bool.rec (motive := fun _ => Option (Int32 × Option rx_H)) (none) (n_L_law_33 k33 ls st u) (Nat.beq t 33)
noncomputable def kk_L_law_1075 (F : Nat × Nat) (k33 : Nat → Nat → Nat → Nat → Int32 → Option rx_H → Option (Int32 × Option rx_H)) : Nat → rx_L → List Value → Option rx_H → Option (Int32 × Option rx_H) := fun t ls st u => Bool.rec (motive := fun _ => Option (Int32 × Option rx_H)) (none) (n_L_law_33 k33 ls st u) (Nat.beq t 33)
noncomputable def kk_L_law_1124 (F : Nat × Nat) (k33 : Nat → Nat → Nat → Nat → Int32 → Option rx_H → Option (Int32 × Option rx_H)) : Nat → rx_L → List Value → Option rx_H → Option (Int32 × Option rx_H) := fun t ls st u => Bool.rec (motive := fun _ => Option (Int32 × Option rx_H)) (none) (n_L_law_33 k33 ls st u) (Nat.beq t 33)
noncomputable def kk_L_law_1149 (F : Nat × Nat) (k33 : Nat → Nat → Nat → Nat → Int32 → Option rx_H → Option (Int32 × Option rx_H)) : Nat → rx_L → List Value → Option rx_H → Option (Int32 × Option rx_H) := fun t ls st u => Bool.rec (motive := fun _ => Option (Int32 × Option rx_H)) (none) (n_L_law_33 k33 ls st u) (Nat.beq t 33)
noncomputable def kk_L_law_1198 (F : Nat × Nat) (k33 : Nat → Nat → Nat → Nat → Int32 → Option rx_H → Option (Int32 × Option rx_H)) : Nat → rx_L → List Value → Option rx_H → Option (Int32 × Option rx_H) := fun t ls st u => Bool.rec (motive := fun _ => Option (Int32 × Option rx_H)) (none) (n_L_law_33 k33 ls st u) (Nat.beq t 33)
noncomputable def kk_L_law_1223 (F : Nat × Nat) (k33 : Nat → Nat → Nat → Nat → Int32 → Option rx_H → Option (Int32 × Option rx_H)) : Nat → rx_L → List Value → Option rx_H → Option (Int32 × Option rx_H) := fun t ls st u => Bool.rec (motive := fun _ => Option (Int32 × Option rx_H)) (none) (n_L_law_33 k33 ls st u) (Nat.beq t 33)
noncomputable def kk_L_law_1248 (F : Nat × Nat) (k33 : Nat → Nat → Nat → Nat → Int32 → Option rx_H → Option (Int32 × Option rx_H)) : Nat → rx_L → List Value → Option rx_H → Option (Int32 × Option rx_H) := fun t ls st u => Bool.rec (motive := fun _ => Option (Int32 × Option rx_H)) (none) (n_L_law_33 k33 ls st u) (Nat.beq t 33)
noncomputable def kk_L_law_1285 (F : Nat × Nat) (k33 : Nat → Nat → Nat → Nat → Int32 → Option rx_H → Option (Int32 × Option rx_H)) : Nat → rx_L → List Value → Option rx_H → Option (Int32 × Option rx_H) := fun t ls st u => Bool.rec (motive := fun _ => Option (Int32 × Option rx_H)) (none) (n_L_law_33 k33 ls st u) (Nat.beq t 33)
noncomputable def kk_L_law_1334 (F : Nat × Nat) (k33 : Nat → Nat → Nat → Nat → Int32 → Option rx_H → Option (Int32 × Option rx_H)) : Nat → rx_L → List Value → Option rx_H → Option (Int32 × Option rx_H) := fun t ls st u => Bool.rec (motive := fun _ => Option (Int32 × Option rx_H)) (none) (n_L_law_33 k33 ls st u) (Nat.beq t 33)
noncomputable def kk_L_law_1371 (F : Nat × Nat) (k33 : Nat → Nat → Nat → Nat → Int32 → Option rx_H → Option (Int32 × Option rx_H)) : Nat → rx_L → List Value → Option rx_H → Option (Int32 × Option rx_H) := fun t ls st u => Bool.rec (motive := fun _ => Option (Int32 × Option rx_H)) (none) (n_L_law_33 k33 ls st u) (Nat.beq t 33)
noncomputable def kk_L_law_1408 (F : Nat × Nat) (k33 : Nat → Nat → Nat → Nat → Int32 → Option rx_H → Option (Int32 × Option rx_H)) : Nat → rx_L → List Value → Option rx_H → Option (Int32 × Option rx_H) := fun t ls st u => Bool.rec (motive := fun _ => Option (Int32 × Option rx_H)) (none) (n_L_law_33 k33 ls st u) (Nat.beq t 33)
noncomputable def kk_L_law_1457 (F : Nat × Nat) (k33 : Nat → Nat → Nat → Nat → Int32 → Option rx_H → Option (Int32 × Option rx_H)) : Nat → rx_L → List Value → Option rx_H → Option (Int32 × Option rx_H) := fun t ls st u => Bool.rec (motive := fun _ => Option (Int32 × Option rx_H)) (none) (n_L_law_33 k33 ls st u) (Nat.beq t 33)
noncomputable def kk_L_law_1507 (F : Nat × Nat) (k33 : Nat → Nat → Nat → Nat → Int32 → Option rx_H → Option (Int32 × Option rx_H)) : Nat → rx_L → List Value → Option rx_H → Option (Int32 × Option rx_H) := fun t ls st u => Bool.rec (motive := fun _ => Option (Int32 × Option rx_H)) (none) (n_L_law_33 k33 ls st u) (Nat.beq t 33)
noncomputable def kk_L_law_1544 (F : Nat × Nat) (k33 : Nat → Nat → Nat → Nat → Int32 → Option rx_H → Option (Int32 × Option rx_H)) : Nat → rx_L → List Value → Option rx_H → Option (Int32 × Option rx_H) := fun t ls st u => Bool.rec (motive := fun _ => Option (Int32 × Option rx_H)) (none) (n_L_law_33 k33 ls st u) (Nat.beq t 33)
noncomputable def kk_L_law_1581 (F : Nat × Nat) (k33 : Nat → Nat → Nat → Nat → Int32 → Option rx_H → Option (Int32 × Option rx_H)) : Nat → rx_L → List Value → Option rx_H → Option (Int32 × Option rx_H) := fun t ls st u => Bool.rec (motive := fun _ => Option (Int32 × Option rx_H)) (none) (n_L_law_33 k33 ls st u) (Nat.beq t 33)
noncomputable def kk_L_law_1618 (F : Nat × Nat) (k33 : Nat → Nat → Nat → Nat → Int32 → Option rx_H → Option (Int32 × Option rx_H)) : Nat → rx_L → List Value → Option rx_H → Option (Int32 × Option rx_H) := fun t ls st u => Bool.rec (motive := fun _ => Option (Int32 × Option rx_H)) (none) (n_L_law_33 k33 ls st u) (Nat.beq t 33)
noncomputable def kk_L_law_1643 (F : Nat × Nat) (k33 : Nat → Nat → Nat → Nat → Int32 → Option rx_H → Option (Int32 × Option rx_H)) : Nat → rx_L → List Value → Option rx_H → Option (Int32 × Option rx_H) := fun t ls st u => Bool.rec (motive := fun _ => Option (Int32 × Option rx_H)) (none) (n_L_law_33 k33 ls st u) (Nat.beq t 33)
noncomputable def kk_L_law_1668 (F : Nat × Nat) (k33 : Nat → Nat → Nat → Nat → Int32 → Option rx_H → Option (Int32 × Option rx_H)) : Nat → rx_L → List Value → Option rx_H → Option (Int32 × Option rx_H) := fun t ls st u => Bool.rec (motive := fun _ => Option (Int32 × Option rx_H)) (none) (n_L_law_33 k33 ls st u) (Nat.beq t 33)
noncomputable def kk_L_law_1693 (F : Nat × Nat) (k33 : Nat → Nat → Nat → Nat → Int32 → Option rx_H → Option (Int32 × Option rx_H)) : Nat → rx_L → List Value → Option rx_H → Option (Int32 × Option rx_H) := fun t ls st u => Bool.rec (motive := fun _ => Option (Int32 × Option rx_H)) (none) (n_L_law_33 k33 ls st u) (Nat.beq t 33)
noncomputable def kk_L_law_1730 (F : Nat × Nat) (k33 : Nat → Nat → Nat → Nat → Int32 → Option rx_H → Option (Int32 × Option rx_H)) : Nat → rx_L → List Value → Option rx_H → Option (Int32 × Option rx_H) := fun t ls st u => Bool.rec (motive := fun _ => Option (Int32 × Option rx_H)) (none) (n_L_law_33 k33 ls st u) (Nat.beq t 33)
noncomputable def kk_L_law_1779 (F : Nat × Nat) (k33 : Nat → Nat → Nat → Nat → Int32 → Option rx_H → Option (Int32 × Option rx_H)) : Nat → rx_L → List Value → Option rx_H → Option (Int32 × Option rx_H) := fun t ls st u => Bool.rec (motive := fun _ => Option (Int32 × Option rx_H)) (none) (n_L_law_33 k33 ls st u) (Nat.beq t 33)
noncomputable def kk_L_law_1816 (F : Nat × Nat) (k33 : Nat → Nat → Nat → Nat → Int32 → Option rx_H → Option (Int32 × Option rx_H)) : Nat → rx_L → List Value → Option rx_H → Option (Int32 × Option rx_H) := fun t ls st u => Bool.rec (motive := fun _ => Option (Int32 × Option rx_H)) (none) (n_L_law_33 k33 ls st u) (Nat.beq t 33)
noncomputable def kk_L_law_1841 (F : Nat × Nat) (k33 : Nat → Nat → Nat → Nat → Int32 → Option rx_H → Option (Int32 × Option rx_H)) : Nat → rx_L → List Value → Option rx_H → Option (Int32 × Option rx_H) := fun t ls st u => Bool.rec (motive := fun _ => Option (Int32 × Option rx_H)) (none) (n_L_law_33 k33 ls st u) (Nat.beq t 33)
noncomputable def kk_L_law_1890 (F : Nat × Nat) (k33 : Nat → Nat → Nat → Nat → Int32 → Option rx_H → Option (Int32 × Option rx_H)) : Nat → rx_L → List Value → Option rx_H → Option (Int32 × Option rx_H) := fun t ls st u => Bool.rec (motive := fun _ => Option (Int32 × Option rx_H)) (none) (n_L_law_33 k33 ls st u) (Nat.beq t 33)
noncomputable def kk_L_law_1971 (F : Nat × Nat) (k33 : Nat → Nat → Nat → Nat → Int32 → Option rx_H → Option (Int32 × Option rx_H)) : Nat → rx_L → List Value → Option rx_H → Option (Int32 × Option rx_H) := fun t ls st u => Bool.rec (motive := fun _ => Option (Int32 × Option rx_H)) (none) (n_L_law_33 k33 ls st u) (Nat.beq t 33)
noncomputable def kk_L_law_2038 (F : Nat × Nat) (k33 : Nat → Nat → Nat → Nat → Int32 → Option rx_H → Option (Int32 × Option rx_H)) : Nat → rx_L → List Value → Option rx_H → Option (Int32 × Option rx_H) := fun t ls st u => Bool.rec (motive := fun _ => Option (Int32 × Option rx_H)) (none) (n_L_law_33 k33 ls st u) (Nat.beq t 33)
noncomputable def kk_L_law_2111 (F : Nat × Nat) (k33 : Nat → Nat → Nat → Nat → Int32 → Option rx_H → Option (Int32 × Option rx_H)) : Nat → rx_L → List Value → Option rx_H → Option (Int32 × Option rx_H) := fun t ls st u => Bool.rec (motive := fun _ => Option (Int32 × Option rx_H)) (none) (n_L_law_33 k33 ls st u) (Nat.beq t 33)
noncomputable def kk_L_law_2148 (F : Nat × Nat) (k33 : Nat → Nat → Nat → Nat → Int32 → Option rx_H → Option (Int32 × Option rx_H)) : Nat → rx_L → List Value → Option rx_H → Option (Int32 × Option rx_H) := fun t ls st u => Bool.rec (motive := fun _ => Option (Int32 × Option rx_H)) (none) (n_L_law_33 k33 ls st u) (Nat.beq t 33)
noncomputable def kk_L_law_2173 (F : Nat × Nat) (k33 : Nat → Nat → Nat → Nat → Int32 → Option rx_H → Option (Int32 × Option rx_H)) : Nat → rx_L → List Value → Option rx_H → Option (Int32 × Option rx_H) := fun t ls st u => Bool.rec (motive := fun _ => Option (Int32 × Option rx_H)) (none) (n_L_law_33 k33 ls st u) (Nat.beq t 33)
noncomputable def kk_L_law_33 (F : Nat × Nat) (k33 : Nat → Nat → Nat → Nat → Int32 → Option rx_H → Option (Int32 × Option rx_H)) : Nat → rx_L → List Value → Option rx_H → Option (Int32 × Option rx_H) := fun t ls st u => Bool.rec (motive := fun _ => Option (Int32 × Option rx_H)) (Bool.rec (motive := fun _ => Option (Int32 × Option rx_H)) (Bool.rec (motive := fun _ => Option (Int32 × Option rx_H)) (Bool.rec (motive := fun _ => Option (Int32 × Option rx_H)) (Bool.rec (motive := fun _ => Option (Int32 × Option rx_H)) (Bool.rec (motive := fun _ => Option (Int32 × Option rx_H)) (Bool.rec (motive := fun _ => Option (Int32 × Option rx_H)) (Bool.rec (motive := fun _ => Option (Int32 × Option rx_H)) (Bool.rec (motive := fun _ => Option (Int32 × Option rx_H)) (Bool.rec (motive := fun _ => Option (Int32 × Option rx_H)) (Bool.rec (motive := fun _ => Option (Int32 × Option rx_H)) (Bool.rec (motive := fun _ => Option (Int32 × Option rx_H)) (Bool.rec (motive := fun _ => Option (Int32 × Option rx_H)) (Bool.rec (motive := fun _ => Option (Int32 × Option rx_H)) (Bool.rec (motive := fun _ => Option (Int32 × Option rx_H)) (Bool.rec (motive := fun _ => Option (Int32 × Option rx_H)) (Bool.rec (motive := fun _ => Option (Int32 × Option rx_H)) (Bool.rec (motive := fun _ => Option (Int32 × Option rx_H)) (Bool.rec (motive := fun _ => Option (Int32 × Option rx_H)) (Bool.rec (motive := fun _ => Option (Int32 × Option rx_H)) (Bool.rec (motive := fun _ => Option (Int32 × Option rx_H)) (Bool.rec (motive := fun _ => Option (Int32 × Option rx_H)) (Bool.rec (motive := fun _ => Option (Int32 × Option rx_H)) (Bool.rec (motive := fun _ => Option (Int32 × Option rx_H)) (Bool.rec (motive := fun _ => Option (Int32 × Option rx_H)) (Bool.rec (motive := fun _ => Option (Int32 × Option rx_H)) (Bool.rec (motive := fun _ => Option (Int32 × Option rx_H)) (Bool.rec (motive := fun _ => Option (Int32 × Option rx_H)) (Bool.rec (motive := fun _ => Option (Int32 × Option rx_H)) (Bool.rec (motive := fun _ => Option (Int32 × Option rx_H)) (Bool.rec (motive := fun _ => Option (Int32 × Option rx_H)) (Bool.rec (motive := fun _ => Option (Int32 × Option rx_H)) (Bool.rec (motive := fun _ => Option (Int32 × Option rx_H)) (Bool.rec (motive := fun _ => Option (Int32 × Option rx_H)) (Bool.rec (motive := fun _ => Option (Int32 × Option rx_H)) (Bool.rec (motive := fun _ => Option (Int32 × Option rx_H)) (Bool.rec (motive := fun _ => Option (Int32 × Option rx_H)) (Bool.rec (motive := fun _ => Option (Int32 × Option rx_H)) (Bool.rec (motive := fun _ => Option (Int32 × Option rx_H)) (Bool.rec (motive := fun _ => Option (Int32 × Option rx_H)) (Bool.rec (motive := fun _ => Option (Int32 × Option rx_H)) (Bool.rec (motive := fun _ => Option (Int32 × Option rx_H)) (Bool.rec (motive := fun _ => Option (Int32 × Option rx_H)) (Bool.rec (motive := fun _ => Option (Int32 × Option rx_H)) (Bool.rec (motive := fun _ => Option (Int32 × Option rx_H)) (Bool.rec (motive := fun _ => Option (Int32 × Option rx_H)) (Bool.rec (motive := fun _ => Option (Int32 × Option rx_H)) (Bool.rec (motive := fun _ => Option (Int32 × Option rx_H)) (none) (n_L_law_2173 F k33 ls st u) (Nat.beq t 2173)) (n_L_law_2148 F k33 ls st u) (Nat.beq t 2148)) (n_L_law_2111 F k33 ls st u) (Nat.beq t 2111)) (n_L_law_2038 F k33 ls st u) (Nat.beq t 2038)) (n_L_law_1971 F k33 ls st u) (Nat.beq t 1971)) (n_L_law_1890 F k33 ls st u) (Nat.beq t 1890)) (n_L_law_1841 F k33 ls st u) (Nat.beq t 1841)) (n_L_law_1816 F k33 ls st u) (Nat.beq t 1816)) (n_L_law_1779 F k33 ls st u) (Nat.beq t 1779)) (n_L_law_1730 F k33 ls st u) (Nat.beq t 1730)) (n_L_law_1693 F k33 ls st u) (Nat.beq t 1693)) (n_L_law_1668 F k33 ls st u) (Nat.beq t 1668)) (n_L_law_1643 F k33 ls st u) (Nat.beq t 1643)) (n_L_law_1618 F k33 ls st u) (Nat.beq t 1618)) (n_L_law_1581 F k33 ls st u) (Nat.beq t 1581)) (n_L_law_1544 F k33 ls st u) (Nat.beq t 1544)) (n_L_law_1507 F k33 ls st u) (Nat.beq t 1507)) (n_L_law_1457 F k33 ls st u) (Nat.beq t 1457)) (n_L_law_1408 F k33 ls st u) (Nat.beq t 1408)) (n_L_law_1371 F k33 ls st u) (Nat.beq t 1371)) (n_L_law_1334 F k33 ls st u) (Nat.beq t 1334)) (n_L_law_1285 F k33 ls st u) (Nat.beq t 1285)) (n_L_law_1248 F k33 ls st u) (Nat.beq t 1248)) (n_L_law_1223 F k33 ls st u) (Nat.beq t 1223)) (n_L_law_1198 F k33 ls st u) (Nat.beq t 1198)) (n_L_law_1149 F k33 ls st u) (Nat.beq t 1149)) (n_L_law_1124 F k33 ls st u) (Nat.beq t 1124)) (n_L_law_1075 F k33 ls st u) (Nat.beq t 1075)) (n_L_law_1026 F k33 ls st u) (Nat.beq t 1026)) (n_L_law_977 F k33 ls st u) (Nat.beq t 977)) (n_L_law_912 F k33 ls st u) (Nat.beq t 912)) (n_L_law_851 F k33 ls st u) (Nat.beq t 851)) (n_L_law_786 F k33 ls st u) (Nat.beq t 786)) (n_L_law_721 F k33 ls st u) (Nat.beq t 721)) (n_L_law_684 F k33 ls st u) (Nat.beq t 684)) (n_L_law_647 F k33 ls st u) (Nat.beq t 647)) (n_L_law_598 F k33 ls st u) (Nat.beq t 598)) (n_L_law_561 F k33 ls st u) (Nat.beq t 561)) (n_L_law_524 F k33 ls st u) (Nat.beq t 524)) (n_L_law_487 F k33 ls st u) (Nat.beq t 487)) (n_L_law_462 F k33 ls st u) (Nat.beq t 462)) (n_L_law_437 F k33 ls st u) (Nat.beq t 437)) (n_L_law_424 F k33 ls st u) (Nat.beq t 424)) (n_L_law_387 F k33 ls st u) (Nat.beq t 387)) (n_L_law_350 F k33 ls st u) (Nat.beq t 350)) (n_L_law_301 F k33 ls st u) (Nat.beq t 301)) (n_L_law_252 F k33 ls st u) (Nat.beq t 252)) (n_L_law_33 k33 ls st u) (Nat.beq t 33)
noncomputable def kk_L_law_0 (F : Nat × Nat) : Nat → rx_L → List Value → Option rx_H → Option (Int32 × Option rx_H) := fun t ls st u => Bool.rec (motive := fun _ => Option (Int32 × Option rx_H)) (none) (n_L_law_33 (f_L_law_33 F F.1) ls st u) (Nat.beq t 33)
set_option maxRecDepth 100000 in
theorem g_L_law_252 (F : Nat × Nat) (k33 : Nat → Nat → Nat → Nat → Int32 → Option rx_H → Option (Int32 × Option rx_H)) (x0 : Nat) (x1 : Nat) (x2 : Nat) (x3 : Nat) (x4 : Int32) (u : Option rx_H) : f_L_law_252 F k33 x0 x1 x2 x3 x4 u = rx_node (C_L_law F) rx_hI t_L_law [33, 252, 301, 350, 387, 424, 437, 462, 487, 524, 561, 598, 647, 684, 721, 742, 772, 786, 807, 837, 851, 912, 933, 963, 977, 1026, 1075, 1124, 1149, 1198, 1223, 1248, 1285, 1334, 1371, 1408, 1457, 1507, 1544, 1581, 1618, 1643, 1668, 1693, 1730, 1779, 1816, 1841, 1890, 1971, 2038, 2111, 2148, 2173] (kk_L_law_252 F k33) 1453 252 [some (.ref x0), some (.ref x1), some (.ref x2), some (.ref x3), some (.int x4), none, none, none] [] u := rfl
set_option maxRecDepth 100000 in
theorem g_L_law_301 (F : Nat × Nat) (k33 : Nat → Nat → Nat → Nat → Int32 → Option rx_H → Option (Int32 × Option rx_H)) (x0 : Nat) (x1 : Nat) (x2 : Nat) (x3 : Nat) (x4 : Int32) (u : Option rx_H) : f_L_law_301 F k33 x0 x1 x2 x3 x4 u = rx_node (C_L_law F) rx_hI t_L_law [33, 252, 301, 350, 387, 424, 437, 462, 487, 524, 561, 598, 647, 684, 721, 742, 772, 786, 807, 837, 851, 912, 933, 963, 977, 1026, 1075, 1124, 1149, 1198, 1223, 1248, 1285, 1334, 1371, 1408, 1457, 1507, 1544, 1581, 1618, 1643, 1668, 1693, 1730, 1779, 1816, 1841, 1890, 1971, 2038, 2111, 2148, 2173] (kk_L_law_301 F k33) 1453 301 [some (.ref x0), some (.ref x1), some (.ref x2), some (.ref x3), some (.int x4), none, none, none] [] u := rfl
set_option maxRecDepth 100000 in
theorem g_L_law_350 (F : Nat × Nat) (k33 : Nat → Nat → Nat → Nat → Int32 → Option rx_H → Option (Int32 × Option rx_H)) (x0 : Nat) (x1 : Nat) (x2 : Nat) (x3 : Nat) (x4 : Int32) (u : Option rx_H) : f_L_law_350 F k33 x0 x1 x2 x3 x4 u = rx_node (C_L_law F) rx_hI t_L_law [33, 252, 301, 350, 387, 424, 437, 462, 487, 524, 561, 598, 647, 684, 721, 742, 772, 786, 807, 837, 851, 912, 933, 963, 977, 1026, 1075, 1124, 1149, 1198, 1223, 1248, 1285, 1334, 1371, 1408, 1457, 1507, 1544, 1581, 1618, 1643, 1668, 1693, 1730, 1779, 1816, 1841, 1890, 1971, 2038, 2111, 2148, 2173] (kk_L_law_350 F k33) 1453 350 [some (.ref x0), some (.ref x1), some (.ref x2), some (.ref x3), some (.int x4), none, none, none] [] u := rfl
set_option maxRecDepth 100000 in
theorem g_L_law_387 (F : Nat × Nat) (k33 : Nat → Nat → Nat → Nat → Int32 → Option rx_H → Option (Int32 × Option rx_H)) (x0 : Nat) (x1 : Nat) (x2 : Nat) (x3 : Nat) (x4 : Int32) (u : Option rx_H) : f_L_law_387 F k33 x0 x1 x2 x3 x4 u = rx_node (C_L_law F) rx_hI t_L_law [33, 252, 301, 350, 387, 424, 437, 462, 487, 524, 561, 598, 647, 684, 721, 742, 772, 786, 807, 837, 851, 912, 933, 963, 977, 1026, 1075, 1124, 1149, 1198, 1223, 1248, 1285, 1334, 1371, 1408, 1457, 1507, 1544, 1581, 1618, 1643, 1668, 1693, 1730, 1779, 1816, 1841, 1890, 1971, 2038, 2111, 2148, 2173] (kk_L_law_387 F k33) 1453 387 [some (.ref x0), some (.ref x1), some (.ref x2), some (.ref x3), some (.int x4), none, none, none] [] u := rfl
set_option maxRecDepth 100000 in
theorem g_L_law_424 (F : Nat × Nat) (k33 : Nat → Nat → Nat → Nat → Int32 → Option rx_H → Option (Int32 × Option rx_H)) (x0 : Nat) (x1 : Nat) (x2 : Nat) (x3 : Nat) (x4 : Int32) (u : Option rx_H) : f_L_law_424 F k33 x0 x1 x2 x3 x4 u = rx_node (C_L_law F) rx_hI t_L_law [33, 252, 301, 350, 387, 424, 437, 462, 487, 524, 561, 598, 647, 684, 721, 742, 772, 786, 807, 837, 851, 912, 933, 963, 977, 1026, 1075, 1124, 1149, 1198, 1223, 1248, 1285, 1334, 1371, 1408, 1457, 1507, 1544, 1581, 1618, 1643, 1668, 1693, 1730, 1779, 1816, 1841, 1890, 1971, 2038, 2111, 2148, 2173] (kk_L_law_424 F k33) 1453 424 [some (.ref x0), some (.ref x1), some (.ref x2), some (.ref x3), some (.int x4), none, none, none] [] u := rfl
set_option maxRecDepth 100000 in
theorem g_L_law_437 (F : Nat × Nat) (k33 : Nat → Nat → Nat → Nat → Int32 → Option rx_H → Option (Int32 × Option rx_H)) (x0 : Nat) (x1 : Nat) (x2 : Nat) (x3 : Nat) (x4 : Int32) (u : Option rx_H) : f_L_law_437 F k33 x0 x1 x2 x3 x4 u = rx_node (C_L_law F) rx_hI t_L_law [33, 252, 301, 350, 387, 424, 437, 462, 487, 524, 561, 598, 647, 684, 721, 742, 772, 786, 807, 837, 851, 912, 933, 963, 977, 1026, 1075, 1124, 1149, 1198, 1223, 1248, 1285, 1334, 1371, 1408, 1457, 1507, 1544, 1581, 1618, 1643, 1668, 1693, 1730, 1779, 1816, 1841, 1890, 1971, 2038, 2111, 2148, 2173] (kk_L_law_437 F k33) 1453 437 [some (.ref x0), some (.ref x1), some (.ref x2), some (.ref x3), some (.int x4), none, none, none] [] u := rfl
set_option maxRecDepth 100000 in
theorem g_L_law_462 (F : Nat × Nat) (k33 : Nat → Nat → Nat → Nat → Int32 → Option rx_H → Option (Int32 × Option rx_H)) (x0 : Nat) (x1 : Nat) (x2 : Nat) (x3 : Nat) (x4 : Int32) (u : Option rx_H) : f_L_law_462 F k33 x0 x1 x2 x3 x4 u = rx_node (C_L_law F) rx_hI t_L_law [33, 252, 301, 350, 387, 424, 437, 462, 487, 524, 561, 598, 647, 684, 721, 742, 772, 786, 807, 837, 851, 912, 933, 963, 977, 1026, 1075, 1124, 1149, 1198, 1223, 1248, 1285, 1334, 1371, 1408, 1457, 1507, 1544, 1581, 1618, 1643, 1668, 1693, 1730, 1779, 1816, 1841, 1890, 1971, 2038, 2111, 2148, 2173] (kk_L_law_462 F k33) 1453 462 [some (.ref x0), some (.ref x1), some (.ref x2), some (.ref x3), some (.int x4), none, none, none] [] u := rfl
set_option maxRecDepth 100000 in
theorem g_L_law_487 (F : Nat × Nat) (k33 : Nat → Nat → Nat → Nat → Int32 → Option rx_H → Option (Int32 × Option rx_H)) (x0 : Nat) (x1 : Nat) (x2 : Nat) (x3 : Nat) (x4 : Int32) (u : Option rx_H) : f_L_law_487 F k33 x0 x1 x2 x3 x4 u = rx_node (C_L_law F) rx_hI t_L_law [33, 252, 301, 350, 387, 424, 437, 462, 487, 524, 561, 598, 647, 684, 721, 742, 772, 786, 807, 837, 851, 912, 933, 963, 977, 1026, 1075, 1124, 1149, 1198, 1223, 1248, 1285, 1334, 1371, 1408, 1457, 1507, 1544, 1581, 1618, 1643, 1668, 1693, 1730, 1779, 1816, 1841, 1890, 1971, 2038, 2111, 2148, 2173] (kk_L_law_487 F k33) 1453 487 [some (.ref x0), some (.ref x1), some (.ref x2), some (.ref x3), some (.int x4), none, none, none] [] u := rfl
set_option maxRecDepth 100000 in
theorem g_L_law_524 (F : Nat × Nat) (k33 : Nat → Nat → Nat → Nat → Int32 → Option rx_H → Option (Int32 × Option rx_H)) (x0 : Nat) (x1 : Nat) (x2 : Nat) (x3 : Nat) (x4 : Int32) (u : Option rx_H) : f_L_law_524 F k33 x0 x1 x2 x3 x4 u = rx_node (C_L_law F) rx_hI t_L_law [33, 252, 301, 350, 387, 424, 437, 462, 487, 524, 561, 598, 647, 684, 721, 742, 772, 786, 807, 837, 851, 912, 933, 963, 977, 1026, 1075, 1124, 1149, 1198, 1223, 1248, 1285, 1334, 1371, 1408, 1457, 1507, 1544, 1581, 1618, 1643, 1668, 1693, 1730, 1779, 1816, 1841, 1890, 1971, 2038, 2111, 2148, 2173] (kk_L_law_524 F k33) 1453 524 [some (.ref x0), some (.ref x1), some (.ref x2), some (.ref x3), some (.int x4), none, none, none] [] u := rfl
set_option maxRecDepth 100000 in
theorem g_L_law_561 (F : Nat × Nat) (k33 : Nat → Nat → Nat → Nat → Int32 → Option rx_H → Option (Int32 × Option rx_H)) (x0 : Nat) (x1 : Nat) (x2 : Nat) (x3 : Nat) (x4 : Int32) (u : Option rx_H) : f_L_law_561 F k33 x0 x1 x2 x3 x4 u = rx_node (C_L_law F) rx_hI t_L_law [33, 252, 301, 350, 387, 424, 437, 462, 487, 524, 561, 598, 647, 684, 721, 742, 772, 786, 807, 837, 851, 912, 933, 963, 977, 1026, 1075, 1124, 1149, 1198, 1223, 1248, 1285, 1334, 1371, 1408, 1457, 1507, 1544, 1581, 1618, 1643, 1668, 1693, 1730, 1779, 1816, 1841, 1890, 1971, 2038, 2111, 2148, 2173] (kk_L_law_561 F k33) 1453 561 [some (.ref x0), some (.ref x1), some (.ref x2), some (.ref x3), some (.int x4), none, none, none] [] u := rfl
set_option maxRecDepth 100000 in
theorem g_L_law_598 (F : Nat × Nat) (k33 : Nat → Nat → Nat → Nat → Int32 → Option rx_H → Option (Int32 × Option rx_H)) (x0 : Nat) (x1 : Nat) (x2 : Nat) (x3 : Nat) (x4 : Int32) (u : Option rx_H) : f_L_law_598 F k33 x0 x1 x2 x3 x4 u = rx_node (C_L_law F) rx_hI t_L_law [33, 252, 301, 350, 387, 424, 437, 462, 487, 524, 561, 598, 647, 684, 721, 742, 772, 786, 807, 837, 851, 912, 933, 963, 977, 1026, 1075, 1124, 1149, 1198, 1223, 1248, 1285, 1334, 1371, 1408, 1457, 1507, 1544, 1581, 1618, 1643, 1668, 1693, 1730, 1779, 1816, 1841, 1890, 1971, 2038, 2111, 2148, 2173] (kk_L_law_598 F k33) 1453 598 [some (.ref x0), some (.ref x1), some (.ref x2), some (.ref x3), some (.int x4), none, none, none] [] u := rfl
set_option maxRecDepth 100000 in
theorem g_L_law_647 (F : Nat × Nat) (k33 : Nat → Nat → Nat → Nat → Int32 → Option rx_H → Option (Int32 × Option rx_H)) (x0 : Nat) (x1 : Nat) (x2 : Nat) (x3 : Nat) (x4 : Int32) (u : Option rx_H) : f_L_law_647 F k33 x0 x1 x2 x3 x4 u = rx_node (C_L_law F) rx_hI t_L_law [33, 252, 301, 350, 387, 424, 437, 462, 487, 524, 561, 598, 647, 684, 721, 742, 772, 786, 807, 837, 851, 912, 933, 963, 977, 1026, 1075, 1124, 1149, 1198, 1223, 1248, 1285, 1334, 1371, 1408, 1457, 1507, 1544, 1581, 1618, 1643, 1668, 1693, 1730, 1779, 1816, 1841, 1890, 1971, 2038, 2111, 2148, 2173] (kk_L_law_647 F k33) 1453 647 [some (.ref x0), some (.ref x1), some (.ref x2), some (.ref x3), some (.int x4), none, none, none] [] u := rfl
set_option maxRecDepth 100000 in
theorem g_L_law_684 (F : Nat × Nat) (k33 : Nat → Nat → Nat → Nat → Int32 → Option rx_H → Option (Int32 × Option rx_H)) (x0 : Nat) (x1 : Nat) (x2 : Nat) (x3 : Nat) (x4 : Int32) (u : Option rx_H) : f_L_law_684 F k33 x0 x1 x2 x3 x4 u = rx_node (C_L_law F) rx_hI t_L_law [33, 252, 301, 350, 387, 424, 437, 462, 487, 524, 561, 598, 647, 684, 721, 742, 772, 786, 807, 837, 851, 912, 933, 963, 977, 1026, 1075, 1124, 1149, 1198, 1223, 1248, 1285, 1334, 1371, 1408, 1457, 1507, 1544, 1581, 1618, 1643, 1668, 1693, 1730, 1779, 1816, 1841, 1890, 1971, 2038, 2111, 2148, 2173] (kk_L_law_684 F k33) 1453 684 [some (.ref x0), some (.ref x1), some (.ref x2), some (.ref x3), some (.int x4), none, none, none] [] u := rfl
set_option maxRecDepth 100000 in
theorem g_L_law_772 (F : Nat × Nat) (k33 : Nat → Nat → Nat → Nat → Int32 → Option rx_H → Option (Int32 × Option rx_H)) (x0 : Nat) (x1 : Nat) (x2 : Nat) (x3 : Nat) (x4 : Int32) (s0 : Int32) (s1 : Nat) (s2 : Int32) (s3 : Int32) (u : Option rx_H) : f_L_law_772 F k33 x0 x1 x2 x3 x4 s0 s1 s2 s3 u = rx_node (C_L_law F) rx_hI t_L_law [33, 252, 301, 350, 387, 424, 437, 462, 487, 524, 561, 598, 647, 684, 721, 742, 772, 786, 807, 837, 851, 912, 933, 963, 977, 1026, 1075, 1124, 1149, 1198, 1223, 1248, 1285, 1334, 1371, 1408, 1457, 1507, 1544, 1581, 1618, 1643, 1668, 1693, 1730, 1779, 1816, 1841, 1890, 1971, 2038, 2111, 2148, 2173] (kk_L_law_772 F k33) 1453 772 [some (.ref x0), some (.ref x1), some (.ref x2), some (.ref x3), some (.int x4), none, none, none] [.int s3, .int s2, .ref s1, .int s0] u := rfl
set_option maxRecDepth 100000 in
theorem g_L_law_742 (F : Nat × Nat) (k33 : Nat → Nat → Nat → Nat → Int32 → Option rx_H → Option (Int32 × Option rx_H)) (x0 : Nat) (x1 : Nat) (x2 : Nat) (x3 : Nat) (x4 : Int32) (s0 : Nat) (s1 : Int32) (s2 : Int32) (u : Option rx_H) : f_L_law_742 F k33 x0 x1 x2 x3 x4 s0 s1 s2 u = rx_node (C_L_law F) rx_hI t_L_law [33, 252, 301, 350, 387, 424, 437, 462, 487, 524, 561, 598, 647, 684, 721, 742, 772, 786, 807, 837, 851, 912, 933, 963, 977, 1026, 1075, 1124, 1149, 1198, 1223, 1248, 1285, 1334, 1371, 1408, 1457, 1507, 1544, 1581, 1618, 1643, 1668, 1693, 1730, 1779, 1816, 1841, 1890, 1971, 2038, 2111, 2148, 2173] (kk_L_law_742 F k33) 1453 742 [some (.ref x0), some (.ref x1), some (.ref x2), some (.ref x3), some (.int x4), none, none, none] [.int s2, .int s1, .ref s0] u := rfl
set_option maxRecDepth 100000 in
theorem g_L_law_721 (F : Nat × Nat) (k33 : Nat → Nat → Nat → Nat → Int32 → Option rx_H → Option (Int32 × Option rx_H)) (x0 : Nat) (x1 : Nat) (x2 : Nat) (x3 : Nat) (x4 : Int32) (u : Option rx_H) : f_L_law_721 F k33 x0 x1 x2 x3 x4 u = rx_node (C_L_law F) rx_hI t_L_law [33, 252, 301, 350, 387, 424, 437, 462, 487, 524, 561, 598, 647, 684, 721, 742, 772, 786, 807, 837, 851, 912, 933, 963, 977, 1026, 1075, 1124, 1149, 1198, 1223, 1248, 1285, 1334, 1371, 1408, 1457, 1507, 1544, 1581, 1618, 1643, 1668, 1693, 1730, 1779, 1816, 1841, 1890, 1971, 2038, 2111, 2148, 2173] (kk_L_law_721 F k33) 1453 721 [some (.ref x0), some (.ref x1), some (.ref x2), some (.ref x3), some (.int x4), none, none, none] [] u := rfl
set_option maxRecDepth 100000 in
theorem g_L_law_837 (F : Nat × Nat) (k33 : Nat → Nat → Nat → Nat → Int32 → Option rx_H → Option (Int32 × Option rx_H)) (x0 : Nat) (x1 : Nat) (x2 : Nat) (x3 : Nat) (x4 : Int32) (s0 : Int32) (s1 : Nat) (s2 : Int32) (s3 : Int32) (u : Option rx_H) : f_L_law_837 F k33 x0 x1 x2 x3 x4 s0 s1 s2 s3 u = rx_node (C_L_law F) rx_hI t_L_law [33, 252, 301, 350, 387, 424, 437, 462, 487, 524, 561, 598, 647, 684, 721, 742, 772, 786, 807, 837, 851, 912, 933, 963, 977, 1026, 1075, 1124, 1149, 1198, 1223, 1248, 1285, 1334, 1371, 1408, 1457, 1507, 1544, 1581, 1618, 1643, 1668, 1693, 1730, 1779, 1816, 1841, 1890, 1971, 2038, 2111, 2148, 2173] (kk_L_law_837 F k33) 1453 837 [some (.ref x0), some (.ref x1), some (.ref x2), some (.ref x3), some (.int x4), none, none, none] [.int s3, .int s2, .ref s1, .int s0] u := rfl
set_option maxRecDepth 100000 in
theorem g_L_law_807 (F : Nat × Nat) (k33 : Nat → Nat → Nat → Nat → Int32 → Option rx_H → Option (Int32 × Option rx_H)) (x0 : Nat) (x1 : Nat) (x2 : Nat) (x3 : Nat) (x4 : Int32) (s0 : Nat) (s1 : Int32) (s2 : Int32) (u : Option rx_H) : f_L_law_807 F k33 x0 x1 x2 x3 x4 s0 s1 s2 u = rx_node (C_L_law F) rx_hI t_L_law [33, 252, 301, 350, 387, 424, 437, 462, 487, 524, 561, 598, 647, 684, 721, 742, 772, 786, 807, 837, 851, 912, 933, 963, 977, 1026, 1075, 1124, 1149, 1198, 1223, 1248, 1285, 1334, 1371, 1408, 1457, 1507, 1544, 1581, 1618, 1643, 1668, 1693, 1730, 1779, 1816, 1841, 1890, 1971, 2038, 2111, 2148, 2173] (kk_L_law_807 F k33) 1453 807 [some (.ref x0), some (.ref x1), some (.ref x2), some (.ref x3), some (.int x4), none, none, none] [.int s2, .int s1, .ref s0] u := rfl
set_option maxRecDepth 100000 in
theorem g_L_law_786 (F : Nat × Nat) (k33 : Nat → Nat → Nat → Nat → Int32 → Option rx_H → Option (Int32 × Option rx_H)) (x0 : Nat) (x1 : Nat) (x2 : Nat) (x3 : Nat) (x4 : Int32) (u : Option rx_H) : f_L_law_786 F k33 x0 x1 x2 x3 x4 u = rx_node (C_L_law F) rx_hI t_L_law [33, 252, 301, 350, 387, 424, 437, 462, 487, 524, 561, 598, 647, 684, 721, 742, 772, 786, 807, 837, 851, 912, 933, 963, 977, 1026, 1075, 1124, 1149, 1198, 1223, 1248, 1285, 1334, 1371, 1408, 1457, 1507, 1544, 1581, 1618, 1643, 1668, 1693, 1730, 1779, 1816, 1841, 1890, 1971, 2038, 2111, 2148, 2173] (kk_L_law_786 F k33) 1453 786 [some (.ref x0), some (.ref x1), some (.ref x2), some (.ref x3), some (.int x4), none, none, none] [] u := rfl
set_option maxRecDepth 100000 in
theorem g_L_law_851 (F : Nat × Nat) (k33 : Nat → Nat → Nat → Nat → Int32 → Option rx_H → Option (Int32 × Option rx_H)) (x0 : Nat) (x1 : Nat) (x2 : Nat) (x3 : Nat) (x4 : Int32) (u : Option rx_H) : f_L_law_851 F k33 x0 x1 x2 x3 x4 u = rx_node (C_L_law F) rx_hI t_L_law [33, 252, 301, 350, 387, 424, 437, 462, 487, 524, 561, 598, 647, 684, 721, 742, 772, 786, 807, 837, 851, 912, 933, 963, 977, 1026, 1075, 1124, 1149, 1198, 1223, 1248, 1285, 1334, 1371, 1408, 1457, 1507, 1544, 1581, 1618, 1643, 1668, 1693, 1730, 1779, 1816, 1841, 1890, 1971, 2038, 2111, 2148, 2173] (kk_L_law_851 F k33) 1453 851 [some (.ref x0), some (.ref x1), some (.ref x2), some (.ref x3), some (.int x4), none, none, none] [] u := rfl
set_option maxRecDepth 100000 in
theorem g_L_law_963 (F : Nat × Nat) (k33 : Nat → Nat → Nat → Nat → Int32 → Option rx_H → Option (Int32 × Option rx_H)) (x0 : Nat) (x1 : Nat) (x2 : Nat) (x3 : Nat) (x4 : Int32) (s0 : Int32) (s1 : Nat) (s2 : Int32) (s3 : Int32) (u : Option rx_H) : f_L_law_963 F k33 x0 x1 x2 x3 x4 s0 s1 s2 s3 u = rx_node (C_L_law F) rx_hI t_L_law [33, 252, 301, 350, 387, 424, 437, 462, 487, 524, 561, 598, 647, 684, 721, 742, 772, 786, 807, 837, 851, 912, 933, 963, 977, 1026, 1075, 1124, 1149, 1198, 1223, 1248, 1285, 1334, 1371, 1408, 1457, 1507, 1544, 1581, 1618, 1643, 1668, 1693, 1730, 1779, 1816, 1841, 1890, 1971, 2038, 2111, 2148, 2173] (kk_L_law_963 F k33) 1453 963 [some (.ref x0), some (.ref x1), some (.ref x2), some (.ref x3), some (.int x4), none, none, none] [.int s3, .int s2, .ref s1, .int s0] u := rfl
set_option maxRecDepth 100000 in
theorem g_L_law_933 (F : Nat × Nat) (k33 : Nat → Nat → Nat → Nat → Int32 → Option rx_H → Option (Int32 × Option rx_H)) (x0 : Nat) (x1 : Nat) (x2 : Nat) (x3 : Nat) (x4 : Int32) (s0 : Nat) (s1 : Int32) (s2 : Int32) (u : Option rx_H) : f_L_law_933 F k33 x0 x1 x2 x3 x4 s0 s1 s2 u = rx_node (C_L_law F) rx_hI t_L_law [33, 252, 301, 350, 387, 424, 437, 462, 487, 524, 561, 598, 647, 684, 721, 742, 772, 786, 807, 837, 851, 912, 933, 963, 977, 1026, 1075, 1124, 1149, 1198, 1223, 1248, 1285, 1334, 1371, 1408, 1457, 1507, 1544, 1581, 1618, 1643, 1668, 1693, 1730, 1779, 1816, 1841, 1890, 1971, 2038, 2111, 2148, 2173] (kk_L_law_933 F k33) 1453 933 [some (.ref x0), some (.ref x1), some (.ref x2), some (.ref x3), some (.int x4), none, none, none] [.int s2, .int s1, .ref s0] u := rfl
set_option maxRecDepth 100000 in
theorem g_L_law_912 (F : Nat × Nat) (k33 : Nat → Nat → Nat → Nat → Int32 → Option rx_H → Option (Int32 × Option rx_H)) (x0 : Nat) (x1 : Nat) (x2 : Nat) (x3 : Nat) (x4 : Int32) (u : Option rx_H) : f_L_law_912 F k33 x0 x1 x2 x3 x4 u = rx_node (C_L_law F) rx_hI t_L_law [33, 252, 301, 350, 387, 424, 437, 462, 487, 524, 561, 598, 647, 684, 721, 742, 772, 786, 807, 837, 851, 912, 933, 963, 977, 1026, 1075, 1124, 1149, 1198, 1223, 1248, 1285, 1334, 1371, 1408, 1457, 1507, 1544, 1581, 1618, 1643, 1668, 1693, 1730, 1779, 1816, 1841, 1890, 1971, 2038, 2111, 2148, 2173] (kk_L_law_912 F k33) 1453 912 [some (.ref x0), some (.ref x1), some (.ref x2), some (.ref x3), some (.int x4), none, none, none] [] u := rfl
set_option maxRecDepth 100000 in
theorem g_L_law_977 (F : Nat × Nat) (k33 : Nat → Nat → Nat → Nat → Int32 → Option rx_H → Option (Int32 × Option rx_H)) (x0 : Nat) (x1 : Nat) (x2 : Nat) (x3 : Nat) (x4 : Int32) (u : Option rx_H) : f_L_law_977 F k33 x0 x1 x2 x3 x4 u = rx_node (C_L_law F) rx_hI t_L_law [33, 252, 301, 350, 387, 424, 437, 462, 487, 524, 561, 598, 647, 684, 721, 742, 772, 786, 807, 837, 851, 912, 933, 963, 977, 1026, 1075, 1124, 1149, 1198, 1223, 1248, 1285, 1334, 1371, 1408, 1457, 1507, 1544, 1581, 1618, 1643, 1668, 1693, 1730, 1779, 1816, 1841, 1890, 1971, 2038, 2111, 2148, 2173] (kk_L_law_977 F k33) 1453 977 [some (.ref x0), some (.ref x1), some (.ref x2), some (.ref x3), some (.int x4), none, none, none] [] u := rfl
set_option maxRecDepth 100000 in
theorem g_L_law_1026 (F : Nat × Nat) (k33 : Nat → Nat → Nat → Nat → Int32 → Option rx_H → Option (Int32 × Option rx_H)) (x0 : Nat) (x1 : Nat) (x2 : Nat) (x3 : Nat) (x4 : Int32) (u : Option rx_H) : f_L_law_1026 F k33 x0 x1 x2 x3 x4 u = rx_node (C_L_law F) rx_hI t_L_law [33, 252, 301, 350, 387, 424, 437, 462, 487, 524, 561, 598, 647, 684, 721, 742, 772, 786, 807, 837, 851, 912, 933, 963, 977, 1026, 1075, 1124, 1149, 1198, 1223, 1248, 1285, 1334, 1371, 1408, 1457, 1507, 1544, 1581, 1618, 1643, 1668, 1693, 1730, 1779, 1816, 1841, 1890, 1971, 2038, 2111, 2148, 2173] (kk_L_law_1026 F k33) 1453 1026 [some (.ref x0), some (.ref x1), some (.ref x2), some (.ref x3), some (.int x4), none, none, none] [] u := rfl
set_option maxRecDepth 100000 in
theorem g_L_law_1075 (F : Nat × Nat) (k33 : Nat → Nat → Nat → Nat → Int32 → Option rx_H → Option (Int32 × Option rx_H)) (x0 : Nat) (x1 : Nat) (x2 : Nat) (x3 : Nat) (x4 : Int32) (u : Option rx_H) : f_L_law_1075 F k33 x0 x1 x2 x3 x4 u = rx_node (C_L_law F) rx_hI t_L_law [33, 252, 301, 350, 387, 424, 437, 462, 487, 524, 561, 598, 647, 684, 721, 742, 772, 786, 807, 837, 851, 912, 933, 963, 977, 1026, 1075, 1124, 1149, 1198, 1223, 1248, 1285, 1334, 1371, 1408, 1457, 1507, 1544, 1581, 1618, 1643, 1668, 1693, 1730, 1779, 1816, 1841, 1890, 1971, 2038, 2111, 2148, 2173] (kk_L_law_1075 F k33) 1453 1075 [some (.ref x0), some (.ref x1), some (.ref x2), some (.ref x3), some (.int x4), none, none, none] [] u := rfl
set_option maxRecDepth 100000 in
theorem g_L_law_1124 (F : Nat × Nat) (k33 : Nat → Nat → Nat → Nat → Int32 → Option rx_H → Option (Int32 × Option rx_H)) (x0 : Nat) (x1 : Nat) (x2 : Nat) (x3 : Nat) (x4 : Int32) (u : Option rx_H) : f_L_law_1124 F k33 x0 x1 x2 x3 x4 u = rx_node (C_L_law F) rx_hI t_L_law [33, 252, 301, 350, 387, 424, 437, 462, 487, 524, 561, 598, 647, 684, 721, 742, 772, 786, 807, 837, 851, 912, 933, 963, 977, 1026, 1075, 1124, 1149, 1198, 1223, 1248, 1285, 1334, 1371, 1408, 1457, 1507, 1544, 1581, 1618, 1643, 1668, 1693, 1730, 1779, 1816, 1841, 1890, 1971, 2038, 2111, 2148, 2173] (kk_L_law_1124 F k33) 1453 1124 [some (.ref x0), some (.ref x1), some (.ref x2), some (.ref x3), some (.int x4), none, none, none] [] u := rfl
set_option maxRecDepth 100000 in
theorem g_L_law_1149 (F : Nat × Nat) (k33 : Nat → Nat → Nat → Nat → Int32 → Option rx_H → Option (Int32 × Option rx_H)) (x0 : Nat) (x1 : Nat) (x2 : Nat) (x3 : Nat) (x4 : Int32) (u : Option rx_H) : f_L_law_1149 F k33 x0 x1 x2 x3 x4 u = rx_node (C_L_law F) rx_hI t_L_law [33, 252, 301, 350, 387, 424, 437, 462, 487, 524, 561, 598, 647, 684, 721, 742, 772, 786, 807, 837, 851, 912, 933, 963, 977, 1026, 1075, 1124, 1149, 1198, 1223, 1248, 1285, 1334, 1371, 1408, 1457, 1507, 1544, 1581, 1618, 1643, 1668, 1693, 1730, 1779, 1816, 1841, 1890, 1971, 2038, 2111, 2148, 2173] (kk_L_law_1149 F k33) 1453 1149 [some (.ref x0), some (.ref x1), some (.ref x2), some (.ref x3), some (.int x4), none, none, none] [] u := rfl
set_option maxRecDepth 100000 in
theorem g_L_law_1198 (F : Nat × Nat) (k33 : Nat → Nat → Nat → Nat → Int32 → Option rx_H → Option (Int32 × Option rx_H)) (x0 : Nat) (x1 : Nat) (x2 : Nat) (x3 : Nat) (x4 : Int32) (u : Option rx_H) : f_L_law_1198 F k33 x0 x1 x2 x3 x4 u = rx_node (C_L_law F) rx_hI t_L_law [33, 252, 301, 350, 387, 424, 437, 462, 487, 524, 561, 598, 647, 684, 721, 742, 772, 786, 807, 837, 851, 912, 933, 963, 977, 1026, 1075, 1124, 1149, 1198, 1223, 1248, 1285, 1334, 1371, 1408, 1457, 1507, 1544, 1581, 1618, 1643, 1668, 1693, 1730, 1779, 1816, 1841, 1890, 1971, 2038, 2111, 2148, 2173] (kk_L_law_1198 F k33) 1453 1198 [some (.ref x0), some (.ref x1), some (.ref x2), some (.ref x3), some (.int x4), none, none, none] [] u := rfl
set_option maxRecDepth 100000 in
theorem g_L_law_1223 (F : Nat × Nat) (k33 : Nat → Nat → Nat → Nat → Int32 → Option rx_H → Option (Int32 × Option rx_H)) (x0 : Nat) (x1 : Nat) (x2 : Nat) (x3 : Nat) (x4 : Int32) (u : Option rx_H) : f_L_law_1223 F k33 x0 x1 x2 x3 x4 u = rx_node (C_L_law F) rx_hI t_L_law [33, 252, 301, 350, 387, 424, 437, 462, 487, 524, 561, 598, 647, 684, 721, 742, 772, 786, 807, 837, 851, 912, 933, 963, 977, 1026, 1075, 1124, 1149, 1198, 1223, 1248, 1285, 1334, 1371, 1408, 1457, 1507, 1544, 1581, 1618, 1643, 1668, 1693, 1730, 1779, 1816, 1841, 1890, 1971, 2038, 2111, 2148, 2173] (kk_L_law_1223 F k33) 1453 1223 [some (.ref x0), some (.ref x1), some (.ref x2), some (.ref x3), some (.int x4), none, none, none] [] u := rfl
set_option maxRecDepth 100000 in
theorem g_L_law_1248 (F : Nat × Nat) (k33 : Nat → Nat → Nat → Nat → Int32 → Option rx_H → Option (Int32 × Option rx_H)) (x0 : Nat) (x1 : Nat) (x2 : Nat) (x3 : Nat) (x4 : Int32) (u : Option rx_H) : f_L_law_1248 F k33 x0 x1 x2 x3 x4 u = rx_node (C_L_law F) rx_hI t_L_law [33, 252, 301, 350, 387, 424, 437, 462, 487, 524, 561, 598, 647, 684, 721, 742, 772, 786, 807, 837, 851, 912, 933, 963, 977, 1026, 1075, 1124, 1149, 1198, 1223, 1248, 1285, 1334, 1371, 1408, 1457, 1507, 1544, 1581, 1618, 1643, 1668, 1693, 1730, 1779, 1816, 1841, 1890, 1971, 2038, 2111, 2148, 2173] (kk_L_law_1248 F k33) 1453 1248 [some (.ref x0), some (.ref x1), some (.ref x2), some (.ref x3), some (.int x4), none, none, none] [] u := rfl
set_option maxRecDepth 100000 in
theorem g_L_law_1285 (F : Nat × Nat) (k33 : Nat → Nat → Nat → Nat → Int32 → Option rx_H → Option (Int32 × Option rx_H)) (x0 : Nat) (x1 : Nat) (x2 : Nat) (x3 : Nat) (x4 : Int32) (u : Option rx_H) : f_L_law_1285 F k33 x0 x1 x2 x3 x4 u = rx_node (C_L_law F) rx_hI t_L_law [33, 252, 301, 350, 387, 424, 437, 462, 487, 524, 561, 598, 647, 684, 721, 742, 772, 786, 807, 837, 851, 912, 933, 963, 977, 1026, 1075, 1124, 1149, 1198, 1223, 1248, 1285, 1334, 1371, 1408, 1457, 1507, 1544, 1581, 1618, 1643, 1668, 1693, 1730, 1779, 1816, 1841, 1890, 1971, 2038, 2111, 2148, 2173] (kk_L_law_1285 F k33) 1453 1285 [some (.ref x0), some (.ref x1), some (.ref x2), some (.ref x3), some (.int x4), none, none, none] [] u := rfl
set_option maxRecDepth 100000 in
theorem g_L_law_1334 (F : Nat × Nat) (k33 : Nat → Nat → Nat → Nat → Int32 → Option rx_H → Option (Int32 × Option rx_H)) (x0 : Nat) (x1 : Nat) (x2 : Nat) (x3 : Nat) (x4 : Int32) (u : Option rx_H) : f_L_law_1334 F k33 x0 x1 x2 x3 x4 u = rx_node (C_L_law F) rx_hI t_L_law [33, 252, 301, 350, 387, 424, 437, 462, 487, 524, 561, 598, 647, 684, 721, 742, 772, 786, 807, 837, 851, 912, 933, 963, 977, 1026, 1075, 1124, 1149, 1198, 1223, 1248, 1285, 1334, 1371, 1408, 1457, 1507, 1544, 1581, 1618, 1643, 1668, 1693, 1730, 1779, 1816, 1841, 1890, 1971, 2038, 2111, 2148, 2173] (kk_L_law_1334 F k33) 1453 1334 [some (.ref x0), some (.ref x1), some (.ref x2), some (.ref x3), some (.int x4), none, none, none] [] u := rfl
set_option maxRecDepth 100000 in
theorem g_L_law_1371 (F : Nat × Nat) (k33 : Nat → Nat → Nat → Nat → Int32 → Option rx_H → Option (Int32 × Option rx_H)) (x0 : Nat) (x1 : Nat) (x2 : Nat) (x3 : Nat) (x4 : Int32) (u : Option rx_H) : f_L_law_1371 F k33 x0 x1 x2 x3 x4 u = rx_node (C_L_law F) rx_hI t_L_law [33, 252, 301, 350, 387, 424, 437, 462, 487, 524, 561, 598, 647, 684, 721, 742, 772, 786, 807, 837, 851, 912, 933, 963, 977, 1026, 1075, 1124, 1149, 1198, 1223, 1248, 1285, 1334, 1371, 1408, 1457, 1507, 1544, 1581, 1618, 1643, 1668, 1693, 1730, 1779, 1816, 1841, 1890, 1971, 2038, 2111, 2148, 2173] (kk_L_law_1371 F k33) 1453 1371 [some (.ref x0), some (.ref x1), some (.ref x2), some (.ref x3), some (.int x4), none, none, none] [] u := rfl
set_option maxRecDepth 100000 in
theorem g_L_law_1408 (F : Nat × Nat) (k33 : Nat → Nat → Nat → Nat → Int32 → Option rx_H → Option (Int32 × Option rx_H)) (x0 : Nat) (x1 : Nat) (x2 : Nat) (x3 : Nat) (x4 : Int32) (u : Option rx_H) : f_L_law_1408 F k33 x0 x1 x2 x3 x4 u = rx_node (C_L_law F) rx_hI t_L_law [33, 252, 301, 350, 387, 424, 437, 462, 487, 524, 561, 598, 647, 684, 721, 742, 772, 786, 807, 837, 851, 912, 933, 963, 977, 1026, 1075, 1124, 1149, 1198, 1223, 1248, 1285, 1334, 1371, 1408, 1457, 1507, 1544, 1581, 1618, 1643, 1668, 1693, 1730, 1779, 1816, 1841, 1890, 1971, 2038, 2111, 2148, 2173] (kk_L_law_1408 F k33) 1453 1408 [some (.ref x0), some (.ref x1), some (.ref x2), some (.ref x3), some (.int x4), none, none, none] [] u := rfl
set_option maxRecDepth 100000 in
theorem g_L_law_1457 (F : Nat × Nat) (k33 : Nat → Nat → Nat → Nat → Int32 → Option rx_H → Option (Int32 × Option rx_H)) (x0 : Nat) (x1 : Nat) (x2 : Nat) (x3 : Nat) (x4 : Int32) (u : Option rx_H) : f_L_law_1457 F k33 x0 x1 x2 x3 x4 u = rx_node (C_L_law F) rx_hI t_L_law [33, 252, 301, 350, 387, 424, 437, 462, 487, 524, 561, 598, 647, 684, 721, 742, 772, 786, 807, 837, 851, 912, 933, 963, 977, 1026, 1075, 1124, 1149, 1198, 1223, 1248, 1285, 1334, 1371, 1408, 1457, 1507, 1544, 1581, 1618, 1643, 1668, 1693, 1730, 1779, 1816, 1841, 1890, 1971, 2038, 2111, 2148, 2173] (kk_L_law_1457 F k33) 1453 1457 [some (.ref x0), some (.ref x1), some (.ref x2), some (.ref x3), some (.int x4), none, none, none] [] u := rfl
set_option maxRecDepth 100000 in
theorem g_L_law_1507 (F : Nat × Nat) (k33 : Nat → Nat → Nat → Nat → Int32 → Option rx_H → Option (Int32 × Option rx_H)) (x0 : Nat) (x1 : Nat) (x2 : Nat) (x3 : Nat) (x4 : Int32) (u : Option rx_H) : f_L_law_1507 F k33 x0 x1 x2 x3 x4 u = rx_node (C_L_law F) rx_hI t_L_law [33, 252, 301, 350, 387, 424, 437, 462, 487, 524, 561, 598, 647, 684, 721, 742, 772, 786, 807, 837, 851, 912, 933, 963, 977, 1026, 1075, 1124, 1149, 1198, 1223, 1248, 1285, 1334, 1371, 1408, 1457, 1507, 1544, 1581, 1618, 1643, 1668, 1693, 1730, 1779, 1816, 1841, 1890, 1971, 2038, 2111, 2148, 2173] (kk_L_law_1507 F k33) 1453 1507 [some (.ref x0), some (.ref x1), some (.ref x2), some (.ref x3), some (.int x4), none, none, none] [] u := rfl
set_option maxRecDepth 100000 in
theorem g_L_law_1544 (F : Nat × Nat) (k33 : Nat → Nat → Nat → Nat → Int32 → Option rx_H → Option (Int32 × Option rx_H)) (x0 : Nat) (x1 : Nat) (x2 : Nat) (x3 : Nat) (x4 : Int32) (u : Option rx_H) : f_L_law_1544 F k33 x0 x1 x2 x3 x4 u = rx_node (C_L_law F) rx_hI t_L_law [33, 252, 301, 350, 387, 424, 437, 462, 487, 524, 561, 598, 647, 684, 721, 742, 772, 786, 807, 837, 851, 912, 933, 963, 977, 1026, 1075, 1124, 1149, 1198, 1223, 1248, 1285, 1334, 1371, 1408, 1457, 1507, 1544, 1581, 1618, 1643, 1668, 1693, 1730, 1779, 1816, 1841, 1890, 1971, 2038, 2111, 2148, 2173] (kk_L_law_1544 F k33) 1453 1544 [some (.ref x0), some (.ref x1), some (.ref x2), some (.ref x3), some (.int x4), none, none, none] [] u := rfl
set_option maxRecDepth 100000 in
theorem g_L_law_1581 (F : Nat × Nat) (k33 : Nat → Nat → Nat → Nat → Int32 → Option rx_H → Option (Int32 × Option rx_H)) (x0 : Nat) (x1 : Nat) (x2 : Nat) (x3 : Nat) (x4 : Int32) (u : Option rx_H) : f_L_law_1581 F k33 x0 x1 x2 x3 x4 u = rx_node (C_L_law F) rx_hI t_L_law [33, 252, 301, 350, 387, 424, 437, 462, 487, 524, 561, 598, 647, 684, 721, 742, 772, 786, 807, 837, 851, 912, 933, 963, 977, 1026, 1075, 1124, 1149, 1198, 1223, 1248, 1285, 1334, 1371, 1408, 1457, 1507, 1544, 1581, 1618, 1643, 1668, 1693, 1730, 1779, 1816, 1841, 1890, 1971, 2038, 2111, 2148, 2173] (kk_L_law_1581 F k33) 1453 1581 [some (.ref x0), some (.ref x1), some (.ref x2), some (.ref x3), some (.int x4), none, none, none] [] u := rfl
set_option maxRecDepth 100000 in
theorem g_L_law_1618 (F : Nat × Nat) (k33 : Nat → Nat → Nat → Nat → Int32 → Option rx_H → Option (Int32 × Option rx_H)) (x0 : Nat) (x1 : Nat) (x2 : Nat) (x3 : Nat) (x4 : Int32) (u : Option rx_H) : f_L_law_1618 F k33 x0 x1 x2 x3 x4 u = rx_node (C_L_law F) rx_hI t_L_law [33, 252, 301, 350, 387, 424, 437, 462, 487, 524, 561, 598, 647, 684, 721, 742, 772, 786, 807, 837, 851, 912, 933, 963, 977, 1026, 1075, 1124, 1149, 1198, 1223, 1248, 1285, 1334, 1371, 1408, 1457, 1507, 1544, 1581, 1618, 1643, 1668, 1693, 1730, 1779, 1816, 1841, 1890, 1971, 2038, 2111, 2148, 2173] (kk_L_law_1618 F k33) 1453 1618 [some (.ref x0), some (.ref x1), some (.ref x2), some (.ref x3), some (.int x4), none, none, none] [] u := rfl
set_option maxRecDepth 100000 in
theorem g_L_law_1643 (F : Nat × Nat) (k33 : Nat → Nat → Nat → Nat → Int32 → Option rx_H → Option (Int32 × Option rx_H)) (x0 : Nat) (x1 : Nat) (x2 : Nat) (x3 : Nat) (x4 : Int32) (u : Option rx_H) : f_L_law_1643 F k33 x0 x1 x2 x3 x4 u = rx_node (C_L_law F) rx_hI t_L_law [33, 252, 301, 350, 387, 424, 437, 462, 487, 524, 561, 598, 647, 684, 721, 742, 772, 786, 807, 837, 851, 912, 933, 963, 977, 1026, 1075, 1124, 1149, 1198, 1223, 1248, 1285, 1334, 1371, 1408, 1457, 1507, 1544, 1581, 1618, 1643, 1668, 1693, 1730, 1779, 1816, 1841, 1890, 1971, 2038, 2111, 2148, 2173] (kk_L_law_1643 F k33) 1453 1643 [some (.ref x0), some (.ref x1), some (.ref x2), some (.ref x3), some (.int x4), none, none, none] [] u := rfl
set_option maxRecDepth 100000 in
theorem g_L_law_1668 (F : Nat × Nat) (k33 : Nat → Nat → Nat → Nat → Int32 → Option rx_H → Option (Int32 × Option rx_H)) (x0 : Nat) (x1 : Nat) (x2 : Nat) (x3 : Nat) (x4 : Int32) (u : Option rx_H) : f_L_law_1668 F k33 x0 x1 x2 x3 x4 u = rx_node (C_L_law F) rx_hI t_L_law [33, 252, 301, 350, 387, 424, 437, 462, 487, 524, 561, 598, 647, 684, 721, 742, 772, 786, 807, 837, 851, 912, 933, 963, 977, 1026, 1075, 1124, 1149, 1198, 1223, 1248, 1285, 1334, 1371, 1408, 1457, 1507, 1544, 1581, 1618, 1643, 1668, 1693, 1730, 1779, 1816, 1841, 1890, 1971, 2038, 2111, 2148, 2173] (kk_L_law_1668 F k33) 1453 1668 [some (.ref x0), some (.ref x1), some (.ref x2), some (.ref x3), some (.int x4), none, none, none] [] u := rfl
set_option maxRecDepth 100000 in
theorem g_L_law_1693 (F : Nat × Nat) (k33 : Nat → Nat → Nat → Nat → Int32 → Option rx_H → Option (Int32 × Option rx_H)) (x0 : Nat) (x1 : Nat) (x2 : Nat) (x3 : Nat) (x4 : Int32) (u : Option rx_H) : f_L_law_1693 F k33 x0 x1 x2 x3 x4 u = rx_node (C_L_law F) rx_hI t_L_law [33, 252, 301, 350, 387, 424, 437, 462, 487, 524, 561, 598, 647, 684, 721, 742, 772, 786, 807, 837, 851, 912, 933, 963, 977, 1026, 1075, 1124, 1149, 1198, 1223, 1248, 1285, 1334, 1371, 1408, 1457, 1507, 1544, 1581, 1618, 1643, 1668, 1693, 1730, 1779, 1816, 1841, 1890, 1971, 2038, 2111, 2148, 2173] (kk_L_law_1693 F k33) 1453 1693 [some (.ref x0), some (.ref x1), some (.ref x2), some (.ref x3), some (.int x4), none, none, none] [] u := rfl
set_option maxRecDepth 100000 in
theorem g_L_law_1730 (F : Nat × Nat) (k33 : Nat → Nat → Nat → Nat → Int32 → Option rx_H → Option (Int32 × Option rx_H)) (x0 : Nat) (x1 : Nat) (x2 : Nat) (x3 : Nat) (x4 : Int32) (u : Option rx_H) : f_L_law_1730 F k33 x0 x1 x2 x3 x4 u = rx_node (C_L_law F) rx_hI t_L_law [33, 252, 301, 350, 387, 424, 437, 462, 487, 524, 561, 598, 647, 684, 721, 742, 772, 786, 807, 837, 851, 912, 933, 963, 977, 1026, 1075, 1124, 1149, 1198, 1223, 1248, 1285, 1334, 1371, 1408, 1457, 1507, 1544, 1581, 1618, 1643, 1668, 1693, 1730, 1779, 1816, 1841, 1890, 1971, 2038, 2111, 2148, 2173] (kk_L_law_1730 F k33) 1453 1730 [some (.ref x0), some (.ref x1), some (.ref x2), some (.ref x3), some (.int x4), none, none, none] [] u := rfl
set_option maxRecDepth 100000 in
theorem g_L_law_1779 (F : Nat × Nat) (k33 : Nat → Nat → Nat → Nat → Int32 → Option rx_H → Option (Int32 × Option rx_H)) (x0 : Nat) (x1 : Nat) (x2 : Nat) (x3 : Nat) (x4 : Int32) (u : Option rx_H) : f_L_law_1779 F k33 x0 x1 x2 x3 x4 u = rx_node (C_L_law F) rx_hI t_L_law [33, 252, 301, 350, 387, 424, 437, 462, 487, 524, 561, 598, 647, 684, 721, 742, 772, 786, 807, 837, 851, 912, 933, 963, 977, 1026, 1075, 1124, 1149, 1198, 1223, 1248, 1285, 1334, 1371, 1408, 1457, 1507, 1544, 1581, 1618, 1643, 1668, 1693, 1730, 1779, 1816, 1841, 1890, 1971, 2038, 2111, 2148, 2173] (kk_L_law_1779 F k33) 1453 1779 [some (.ref x0), some (.ref x1), some (.ref x2), some (.ref x3), some (.int x4), none, none, none] [] u := rfl
set_option maxRecDepth 100000 in
theorem g_L_law_1816 (F : Nat × Nat) (k33 : Nat → Nat → Nat → Nat → Int32 → Option rx_H → Option (Int32 × Option rx_H)) (x0 : Nat) (x1 : Nat) (x2 : Nat) (x3 : Nat) (x4 : Int32) (u : Option rx_H) : f_L_law_1816 F k33 x0 x1 x2 x3 x4 u = rx_node (C_L_law F) rx_hI t_L_law [33, 252, 301, 350, 387, 424, 437, 462, 487, 524, 561, 598, 647, 684, 721, 742, 772, 786, 807, 837, 851, 912, 933, 963, 977, 1026, 1075, 1124, 1149, 1198, 1223, 1248, 1285, 1334, 1371, 1408, 1457, 1507, 1544, 1581, 1618, 1643, 1668, 1693, 1730, 1779, 1816, 1841, 1890, 1971, 2038, 2111, 2148, 2173] (kk_L_law_1816 F k33) 1453 1816 [some (.ref x0), some (.ref x1), some (.ref x2), some (.ref x3), some (.int x4), none, none, none] [] u := rfl
set_option maxRecDepth 100000 in
theorem g_L_law_1841 (F : Nat × Nat) (k33 : Nat → Nat → Nat → Nat → Int32 → Option rx_H → Option (Int32 × Option rx_H)) (x0 : Nat) (x1 : Nat) (x2 : Nat) (x3 : Nat) (x4 : Int32) (u : Option rx_H) : f_L_law_1841 F k33 x0 x1 x2 x3 x4 u = rx_node (C_L_law F) rx_hI t_L_law [33, 252, 301, 350, 387, 424, 437, 462, 487, 524, 561, 598, 647, 684, 721, 742, 772, 786, 807, 837, 851, 912, 933, 963, 977, 1026, 1075, 1124, 1149, 1198, 1223, 1248, 1285, 1334, 1371, 1408, 1457, 1507, 1544, 1581, 1618, 1643, 1668, 1693, 1730, 1779, 1816, 1841, 1890, 1971, 2038, 2111, 2148, 2173] (kk_L_law_1841 F k33) 1453 1841 [some (.ref x0), some (.ref x1), some (.ref x2), some (.ref x3), some (.int x4), none, none, none] [] u := rfl
set_option maxRecDepth 100000 in
theorem g_L_law_1890 (F : Nat × Nat) (k33 : Nat → Nat → Nat → Nat → Int32 → Option rx_H → Option (Int32 × Option rx_H)) (x0 : Nat) (x1 : Nat) (x2 : Nat) (x3 : Nat) (x4 : Int32) (u : Option rx_H) : f_L_law_1890 F k33 x0 x1 x2 x3 x4 u = rx_node (C_L_law F) rx_hI t_L_law [33, 252, 301, 350, 387, 424, 437, 462, 487, 524, 561, 598, 647, 684, 721, 742, 772, 786, 807, 837, 851, 912, 933, 963, 977, 1026, 1075, 1124, 1149, 1198, 1223, 1248, 1285, 1334, 1371, 1408, 1457, 1507, 1544, 1581, 1618, 1643, 1668, 1693, 1730, 1779, 1816, 1841, 1890, 1971, 2038, 2111, 2148, 2173] (kk_L_law_1890 F k33) 1453 1890 [some (.ref x0), some (.ref x1), some (.ref x2), some (.ref x3), some (.int x4), none, none, none] [] u := rfl
set_option maxRecDepth 100000 in
theorem g_L_law_1971 (F : Nat × Nat) (k33 : Nat → Nat → Nat → Nat → Int32 → Option rx_H → Option (Int32 × Option rx_H)) (x0 : Nat) (x1 : Nat) (x2 : Nat) (x3 : Nat) (x4 : Int32) (u : Option rx_H) : f_L_law_1971 F k33 x0 x1 x2 x3 x4 u = rx_node (C_L_law F) rx_hI t_L_law [33, 252, 301, 350, 387, 424, 437, 462, 487, 524, 561, 598, 647, 684, 721, 742, 772, 786, 807, 837, 851, 912, 933, 963, 977, 1026, 1075, 1124, 1149, 1198, 1223, 1248, 1285, 1334, 1371, 1408, 1457, 1507, 1544, 1581, 1618, 1643, 1668, 1693, 1730, 1779, 1816, 1841, 1890, 1971, 2038, 2111, 2148, 2173] (kk_L_law_1971 F k33) 1453 1971 [some (.ref x0), some (.ref x1), some (.ref x2), some (.ref x3), some (.int x4), none, none, none] [] u := rfl
set_option maxRecDepth 100000 in
theorem g_L_law_2038 (F : Nat × Nat) (k33 : Nat → Nat → Nat → Nat → Int32 → Option rx_H → Option (Int32 × Option rx_H)) (x0 : Nat) (x1 : Nat) (x2 : Nat) (x3 : Nat) (x4 : Int32) (u : Option rx_H) : f_L_law_2038 F k33 x0 x1 x2 x3 x4 u = rx_node (C_L_law F) rx_hI t_L_law [33, 252, 301, 350, 387, 424, 437, 462, 487, 524, 561, 598, 647, 684, 721, 742, 772, 786, 807, 837, 851, 912, 933, 963, 977, 1026, 1075, 1124, 1149, 1198, 1223, 1248, 1285, 1334, 1371, 1408, 1457, 1507, 1544, 1581, 1618, 1643, 1668, 1693, 1730, 1779, 1816, 1841, 1890, 1971, 2038, 2111, 2148, 2173] (kk_L_law_2038 F k33) 1453 2038 [some (.ref x0), some (.ref x1), some (.ref x2), some (.ref x3), some (.int x4), none, none, none] [] u := rfl
set_option maxRecDepth 100000 in
theorem g_L_law_2111 (F : Nat × Nat) (k33 : Nat → Nat → Nat → Nat → Int32 → Option rx_H → Option (Int32 × Option rx_H)) (x0 : Nat) (x1 : Nat) (x2 : Nat) (x3 : Nat) (x4 : Int32) (u : Option rx_H) : f_L_law_2111 F k33 x0 x1 x2 x3 x4 u = rx_node (C_L_law F) rx_hI t_L_law [33, 252, 301, 350, 387, 424, 437, 462, 487, 524, 561, 598, 647, 684, 721, 742, 772, 786, 807, 837, 851, 912, 933, 963, 977, 1026, 1075, 1124, 1149, 1198, 1223, 1248, 1285, 1334, 1371, 1408, 1457, 1507, 1544, 1581, 1618, 1643, 1668, 1693, 1730, 1779, 1816, 1841, 1890, 1971, 2038, 2111, 2148, 2173] (kk_L_law_2111 F k33) 1453 2111 [some (.ref x0), some (.ref x1), some (.ref x2), some (.ref x3), some (.int x4), none, none, none] [] u := rfl
set_option maxRecDepth 100000 in
theorem g_L_law_2148 (F : Nat × Nat) (k33 : Nat → Nat → Nat → Nat → Int32 → Option rx_H → Option (Int32 × Option rx_H)) (x0 : Nat) (x1 : Nat) (x2 : Nat) (x3 : Nat) (x4 : Int32) (u : Option rx_H) : f_L_law_2148 F k33 x0 x1 x2 x3 x4 u = rx_node (C_L_law F) rx_hI t_L_law [33, 252, 301, 350, 387, 424, 437, 462, 487, 524, 561, 598, 647, 684, 721, 742, 772, 786, 807, 837, 851, 912, 933, 963, 977, 1026, 1075, 1124, 1149, 1198, 1223, 1248, 1285, 1334, 1371, 1408, 1457, 1507, 1544, 1581, 1618, 1643, 1668, 1693, 1730, 1779, 1816, 1841, 1890, 1971, 2038, 2111, 2148, 2173] (kk_L_law_2148 F k33) 1453 2148 [some (.ref x0), some (.ref x1), some (.ref x2), some (.ref x3), some (.int x4), none, none, none] [] u := rfl
set_option maxRecDepth 100000 in
theorem g_L_law_2173 (F : Nat × Nat) (k33 : Nat → Nat → Nat → Nat → Int32 → Option rx_H → Option (Int32 × Option rx_H)) (x0 : Nat) (x1 : Nat) (x2 : Nat) (x3 : Nat) (x4 : Int32) (u : Option rx_H) : f_L_law_2173 F k33 x0 x1 x2 x3 x4 u = rx_node (C_L_law F) rx_hI t_L_law [33, 252, 301, 350, 387, 424, 437, 462, 487, 524, 561, 598, 647, 684, 721, 742, 772, 786, 807, 837, 851, 912, 933, 963, 977, 1026, 1075, 1124, 1149, 1198, 1223, 1248, 1285, 1334, 1371, 1408, 1457, 1507, 1544, 1581, 1618, 1643, 1668, 1693, 1730, 1779, 1816, 1841, 1890, 1971, 2038, 2111, 2148, 2173] (kk_L_law_2173 F k33) 1453 2173 [some (.ref x0), some (.ref x1), some (.ref x2), some (.ref x3), some (.int x4), none, none, none] [] u := rfl
set_option maxRecDepth 100000 in
theorem g_L_law_33 (F : Nat × Nat) (f : Nat) (x0 : Nat) (x1 : Nat) (x2 : Nat) (x3 : Nat) (x4 : Int32) (u : Option rx_H) : f_L_law_33 F (f + 1) x0 x1 x2 x3 x4 u = rx_node (C_L_law F) rx_hI t_L_law [33, 252, 301, 350, 387, 424, 437, 462, 487, 524, 561, 598, 647, 684, 721, 742, 772, 786, 807, 837, 851, 912, 933, 963, 977, 1026, 1075, 1124, 1149, 1198, 1223, 1248, 1285, 1334, 1371, 1408, 1457, 1507, 1544, 1581, 1618, 1643, 1668, 1693, 1730, 1779, 1816, 1841, 1890, 1971, 2038, 2111, 2148, 2173] (kk_L_law_33 F (f_L_law_33 F f)) 1453 33 [some (.ref x0), some (.ref x1), some (.ref x2), some (.ref x3), some (.int x4), none, none, none] [] u := rfl
set_option maxRecDepth 100000 in
theorem g_L_law_0 (F : Nat × Nat) (x0 : Nat) (u : Option rx_H) : f_L_law_0 F x0 u = rx_node (C_L_law F) rx_hI t_L_law [33, 252, 301, 350, 387, 424, 437, 462, 487, 524, 561, 598, 647, 684, 721, 742, 772, 786, 807, 837, 851, 912, 933, 963, 977, 1026, 1075, 1124, 1149, 1198, 1223, 1248, 1285, 1334, 1371, 1408, 1457, 1507, 1544, 1581, 1618, 1643, 1668, 1693, 1730, 1779, 1816, 1841, 1890, 1971, 2038, 2111, 2148, 2173] (kk_L_law_0 F) 1453 0 [some (.ref x0), none, none, none, none, none, none, none] [] u := rfl
