/-! A small machine over pictures of the heap, run by reduction. Its steps are proved to be the machine's own in the next part. -/
/-- a cell: an array (its size, what it holds), or an object (its class among rx_cl, its fields); references are places in the picture -/
abbrev rx_C : Type := vp_A ⊕ (Nat × List Value)
/-- the script (its length, its ints), and the cells -/
abbrev rx_H : Type := (Nat × (Nat → Int32)) × List rx_C
abbrev rx_L : Type := List (Option Value)
/-- an instruction: pc, itself, its length, two numbers, the place of its word, an int, a long, a switch's cases -/
abbrev rx_E : Type := Nat × Instr × Nat × Nat × Nat × Nat × Int32 × Int64 × List (Int32 × Nat)
/-- what a call is given to go on with -/
abbrev rx_K (α : Type) : Type := Option Value → Option rx_H → Option α
abbrev rx_Cl (α : Type) : Type := Nat → List Value → Option rx_H → rx_K α → Option α
def rx_W : List Int64 := [6148914691236517205, 3689348814741910323, 1085102592571150095, 71777214294589695, 281470681808895, 4294967295]
def rx_F : List Int32 := [1, 1, 2, 6, 24, 120, 720]
def rx_fd (u : Option rx_H) (r c k : Nat) : Option Value := match u with
  | none => none
  | some h => match h.2[r]? with
    | some (.inr (c', fs)) => if c' = c then fs[k]? else none
    | _ => none
def rx_gI (u : Option rx_H) (r c k : Nat) : Option Int32 := match rx_fd u r c k with
  | some (.int x) => some x
  | _ => none
def rx_gJ (u : Option rx_H) (r c k : Nat) : Option Int64 := match rx_fd u r c k with
  | some (.long x) => some x
  | _ => none
def rx_gR (u : Option rx_H) (r c k : Nat) : Option Nat := match rx_fd u r c k with
  | some (.ref x) => some x
  | _ => none
def rx_p (u : Option rx_H) (r c k : Nat) (v : Value) : Option (Option rx_H) := match u with
  | none => none
  | some h => match h.2[r]? with
    | some (.inr (c', fs)) => if c' = c ∧ k < fs.length then some (some (h.1, h.2.set r (.inr (c', fs.set k v)))) else none
    | _ => none
def rx_aI (u : Option rx_H) (r : Nat) (i : Int32) : Option Int32 :=
  if r = 1000002 then (if i < 0 then none else rx_F[i.toNatClampNeg]?)
  else match u with
    | none => none
    | some h => if r = 1000000 then (if i < 0 ∨ h.1.1 ≤ i.toNatClampNeg then none else some (h.1.2 i.toNatClampNeg))
      else match h.2[r]? with
        | some (.inl (n, .inl f)) => if i < 0 ∨ n ≤ i.toNatClampNeg then none else some (f i.toNatClampNeg)
        | _ => none
def rx_aJ (u : Option rx_H) (r : Nat) (i : Int32) : Option Int64 :=
  if r = 1000001 then (if i < 0 then none else rx_W[i.toNatClampNeg]?)
  else match u with
    | none => none
    | some h => match h.2[r]? with
      | some (.inl (n, .inr (.inl f))) => if i < 0 ∨ n ≤ i.toNatClampNeg then none else some (f i.toNatClampNeg)
      | _ => none
def rx_aR (u : Option rx_H) (r : Nat) (i : Int32) : Option Nat := match u with
  | none => none
  | some h => match h.2[r]? with
    | some (.inl (n, .inr (.inr (.inr (.inr f))))) => if i < 0 ∨ n ≤ i.toNatClampNeg then none else f i.toNatClampNeg
    | _ => none
def rx_sI (u : Option rx_H) (r : Nat) (i x : Int32) : Option (Option rx_H) := match u with
  | none => none
  | some h => match h.2[r]? with
    | some (.inl (n, .inl f)) => if i < 0 ∨ n ≤ i.toNatClampNeg then none else some (some (h.1, h.2.set r (.inl (n, .inl (upd f i.toNatClampNeg x)))))
    | _ => none
def rx_sJ (u : Option rx_H) (r : Nat) (i : Int32) (x : Int64) : Option (Option rx_H) := match u with
  | none => none
  | some h => match h.2[r]? with
    | some (.inl (n, .inr (.inl f))) => if i < 0 ∨ n ≤ i.toNatClampNeg then none else some (some (h.1, h.2.set r (.inl (n, .inr (.inl (vp_updL f i.toNatClampNeg x))))))
    | _ => none
/-- only objects of class 0 are put into arrays of references -/
def rx_sR (u : Option rx_H) (r : Nat) (i : Int32) (x : Nat) : Option (Option rx_H) := match u with
  | none => none
  | some h => match h.2[r]?, h.2[x]? with
    | some (.inl (n, .inr (.inr (.inr (.inr f))))), some (.inr (0, _)) => if i < 0 ∨ n ≤ i.toNatClampNeg then none else some (some (h.1, h.2.set r (.inl (n, .inr (.inr (.inr (.inr (va_up f i.toNatClampNeg (some x)))))))))
    | _, _ => none
/-- the script's length -/
def rx_len (u : Option rx_H) (r : Nat) : Option Int32 := match u with
  | none => none
  | some h => if r = 1000000 then some (Int32.ofNat h.1.1) else none
def rx_df (c : Nat) : List Value := match c with
  | 0 => [.int 0, .int 0, .long 0, .long 0, .int 0, .null]
  | 1 => [.null, .null, .int 0, .null, .null]
  | 2 => [.int 0, .int 0, .null, .null, .null, .int 0]
  | 3 => [.int 0, .int 0, .int 0, .null, .null, .null, .null, .null, .null, .int 0, .null, .null, .null, .int 0, .null]
  | _ => []
def rx_push (u : Option rx_H) (c : rx_C) : Option (Nat × Option rx_H) := match u with
  | none => none
  | some h => if h.2.length < 999999 then some (h.2.length, some (h.1, h.2 ++ [c])) else none
def rx_nI (u : Option rx_H) (n : Int32) : Option (Nat × Option rx_H) := if n < 0 ∨ 100000 < n.toNatClampNeg then none else rx_push u (.inl (n.toNatClampNeg, .inl (fun _ => 0)))
def rx_nJ (u : Option rx_H) (n : Int32) : Option (Nat × Option rx_H) := if n < 0 ∨ 100000 < n.toNatClampNeg then none else rx_push u (.inl (n.toNatClampNeg, .inr (.inl (fun _ => 0))))
def rx_nR (u : Option rx_H) (n : Int32) : Option (Nat × Option rx_H) := if n < 0 ∨ 100000 < n.toNatClampNeg then none else rx_push u (.inl (n.toNatClampNeg, .inr (.inr (.inr (.inr (fun _ => none))))))
def rx_nO (u : Option rx_H) (c : Nat) : Option (Nat × Option rx_H) := if c < 4 then rx_push u (.inr (c, rx_df c)) else none
/-- System.arraycopy of longs -/
def rx_cp (u : Option rx_H) (r0 : Nat) (sp : Int32) (r1 : Nat) (dp n : Int32) : Option (Option rx_H) := match u with
  | none => none
  | some h => match h.2[r0]?, h.2[r1]? with
    | some (.inl (n0, .inr (.inl f))), some (.inl (n1, .inr (.inl g))) =>
      if sp < 0 ∨ dp < 0 ∨ n < 0 ∨ n0 < sp.toNatClampNeg + n.toNatClampNeg ∨ n1 < dp.toNatClampNeg + n.toNatClampNeg then none
      else some (some (h.1, h.2.set r1 (.inl (n1, .inr (.inl (va_cpy f g sp.toNatClampNeg dp.toNatClampNeg n.toNatClampNeg))))))
    | _, _ => none
/-- an object of a class -/
def rx_ck (u : Option rx_H) (r c : Nat) : Option Unit := match u with
  | none => none
  | some h => match h.2[r]? with
    | some (.inr (c', _)) => if c' = c then some () else none
    | _ => none
/-! locals -/
def rx_lg (ls : rx_L) (i : Nat) : Option Value := match ls[i]? with
  | some (some v) => some v
  | _ => none
def rx_kill (ls : rx_L) (i : Nat) : rx_L := match i with
  | 0 => ls
  | j + 1 => match ls[j]? with
    | some (some (.long _)) => ls.set j none
    | some (some (.double _)) => ls.set j none
    | _ => ls
def rx_s1 (ls : rx_L) (i : Nat) (v : Value) : rx_L := (rx_kill ls i).set i (some v)
def rx_s2 (ls : rx_L) (i : Nat) (v : Value) : rx_L := ((rx_kill ls i).set i (some v)).set (i + 1) none
noncomputable def rx_suf (t : Nat) : List rx_E → List rx_E
  | [] => []
  | e :: es => Bool.rec (motive := fun _ => List rx_E) (rx_suf t es) (e :: es) (Nat.beq e.1 t)
/-- a switch -/
def rx_sw {α : Type} (k : Nat → Option α) (x : Int32) (d : Nat) : List (Int32 × Nat) → Option α
  | [] => k d
  | q :: qs => if x = q.1 then k q.2 else rx_sw k x d qs
def rx_cat (st : List Value) : Nat := match st with
  | [] => 0
  | .long _ :: st => rx_cat st + 2
  | .double _ :: st => rx_cat st + 2
  | _ :: st => rx_cat st + 1
/-- so many arguments off the stack -/
def rx_take : Nat → List Value → List Value → Option (List Value × List Value)
  | 0, st, acc => some (acc, st)
  | _ + 1, [], _ => none
  | n + 1, v :: st, acc => rx_take n st (v :: acc)
noncomputable def rx_call {α : Type} (C : rx_Cl α) (k : List Value → Option rx_H → Option α) (j n : Nat) (st : List Value) (u : Option rx_H) : Option α := match rx_take n st [] with
  | none => none
  | some (as, rest) => Bool.rec (motive := fun _ => Option α) none (C j as u (fun v u' => k (v.toList ++ rest) u')) (Nat.ble (rx_cat rest) 8)
def rx_if {α : Type} (cd : ClassFile.Cond) (x y : Int32) (kt kf : Option α) : Option α := match cd with
  | .eq => if x = y then kt else kf
  | .ne => if x = y then kf else kt
  | .lt => if x < y then kt else kf
  | .ge => if x < y then kf else kt
  | .gt => if y < x then kt else kf
  | .le => if y < x then kf else kt
def rx_ifJ {α : Type} (cd : ClassFile.Cond) (x y : Int64) (kt kf : Option α) : Option α := match cd with
  | .eq => if x = y then kt else kf
  | .ne => if x = y then kf else kt
  | .lt => if x < y then kt else kf
  | .ge => if x < y then kf else kt
  | .gt => if y < x then kt else kf
  | .le => if y < x then kf else kt
abbrev rx_Go (α : Type) : Type := List rx_E → rx_L → List Value → Option rx_H → Option α
/-- one instruction -/
noncomputable def rx_act {α : Type} (C : rx_Cl α) (ret : rx_K α) (all : List rx_E) (k : rx_Go α) (e : rx_E) (es : List rx_E) (ls : rx_L) (st : List Value) (u : Option rx_H) : Option α := match e with
  | (_, ins, _, a, b, _, vi, vl, sw) => match ins with
    | .iconst _ => k es ls (.int vi :: st) u
    | .bipush _ => k es ls (.int vi :: st) u
    | .sipush _ => k es ls (.int vi :: st) u
    | .ldc _ => k es ls (.int vi :: st) u
    | .ldc_w _ => k es ls (.int vi :: st) u
    | .lconst _ => k es ls (.long vl :: st) u
    | .ldc2_w _ => k es ls (.long vl :: st) u
    | .iload i => match rx_lg ls i with
      | some (.int x) => k es ls (.int x :: st) u
      | _ => none
    | .iload_n i => match rx_lg ls i.val with
      | some (.int x) => k es ls (.int x :: st) u
      | _ => none
    | .lload i => match rx_lg ls i with
      | some (.long x) => k es ls (.long x :: st) u
      | _ => none
    | .lload_n i => match rx_lg ls i.val with
      | some (.long x) => k es ls (.long x :: st) u
      | _ => none
    | .aload i => match rx_lg ls i with
      | some (.ref x) => k es ls (.ref x :: st) u
      | _ => none
    | .aload_n i => match rx_lg ls i.val with
      | some (.ref x) => k es ls (.ref x :: st) u
      | _ => none
    | .istore i => match st with
      | .int x :: st => k es (rx_s1 ls i (.int x)) st u
      | _ => none
    | .istore_n i => match st with
      | .int x :: st => k es (rx_s1 ls i.val (.int x)) st u
      | _ => none
    | .lstore i => match st with
      | .long x :: st => k es (rx_s2 ls i (.long x)) st u
      | _ => none
    | .lstore_n i => match st with
      | .long x :: st => k es (rx_s2 ls i.val (.long x)) st u
      | _ => none
    | .astore i => match st with
      | .ref x :: st => k es (rx_s1 ls i (.ref x)) st u
      | _ => none
    | .astore_n i => match st with
      | .ref x :: st => k es (rx_s1 ls i.val (.ref x)) st u
      | _ => none
    | .iinc i _ => match rx_lg ls i with
      | some (.int x) => k es (rx_s1 ls i (.int (x + vi))) st u
      | _ => none
    | .iadd => match st with
      | .int y :: .int x :: st => k es ls (.int (x + y) :: st) u
      | _ => none
    | .isub => match st with
      | .int y :: .int x :: st => k es ls (.int (x - y) :: st) u
      | _ => none
    | .imul => match st with
      | .int y :: .int x :: st => k es ls (.int (x * y) :: st) u
      | _ => none
    | .iand => match st with
      | .int y :: .int x :: st => k es ls (.int (x &&& y) :: st) u
      | _ => none
    | .ior => match st with
      | .int y :: .int x :: st => k es ls (.int (x ||| y) :: st) u
      | _ => none
    | .ixor => match st with
      | .int y :: .int x :: st => k es ls (.int (x ^^^ y) :: st) u
      | _ => none
    | .ishl => match st with
      | .int y :: .int x :: st => k es ls (.int (x <<< (y &&& 31)) :: st) u
      | _ => none
    | .ishr => match st with
      | .int y :: .int x :: st => k es ls (.int (x >>> (y &&& 31)) :: st) u
      | _ => none
    | .iushr => match st with
      | .int y :: .int x :: st => k es ls (.int ((x.toUInt32 >>> (y.toUInt32 &&& Int32.toUInt32 31)).toInt32) :: st) u
      | _ => none
    | .ineg => match st with
      | .int x :: st => k es ls (.int (-x) :: st) u
      | _ => none
    | .idiv => match st with
      | .int y :: .int x :: st => (match b with
        | 1 => Bool.rec (motive := fun _ => Option α) (k es ls (.int (x / y) :: st) u) none (decide (y = 0))
        | _ => if y = 0 then none else k es ls (.int (x / y) :: st) u)
      | _ => none
    | .irem => match st with
      | .int y :: .int x :: st => (match b with
        | 1 => Bool.rec (motive := fun _ => Option α) (k es ls (.int (x - x / y * y) :: st) u) none (decide (y = 0))
        | _ => if y = 0 then none else k es ls (.int (x - x / y * y) :: st) u)
      | _ => none
    | .ladd => match st with
      | .long y :: .long x :: st => k es ls (.long (x + y) :: st) u
      | _ => none
    | .lsub => match st with
      | .long y :: .long x :: st => k es ls (.long (x - y) :: st) u
      | _ => none
    | .lmul => match st with
      | .long y :: .long x :: st => k es ls (.long (x * y) :: st) u
      | _ => none
    | .land => match st with
      | .long y :: .long x :: st => k es ls (.long (x &&& y) :: st) u
      | _ => none
    | .lor => match st with
      | .long y :: .long x :: st => k es ls (.long (x ||| y) :: st) u
      | _ => none
    | .lxor => match st with
      | .long y :: .long x :: st => k es ls (.long (x ^^^ y) :: st) u
      | _ => none
    | .ldiv => match st with
      | .long y :: .long x :: st => if y = 0 then none else k es ls (.long (x / y) :: st) u
      | _ => none
    | .lneg => match st with
      | .long x :: st => k es ls (.long (-x) :: st) u
      | _ => none
    | .lshl => match st with
      | .int y :: .long x :: st => k es ls (.long (x <<< (y.toInt64 &&& 63)) :: st) u
      | _ => none
    | .lushr => match st with
      | .int y :: .long x :: st => k es ls (.long ((x.toUInt64 >>> (y.toInt64.toUInt64 &&& Int64.toUInt64 63)).toInt64) :: st) u
      | _ => none
    | .i2l => match st with
      | .int x :: st => k es ls (.long x.toInt64 :: st) u
      | _ => none
    | .l2i => match st with
      | .long x :: st => k es ls (.int x.toInt32 :: st) u
      | _ => none
    | .i2b => match st with
      | .int x :: st => k es ls (.int x.toInt8.toInt32 :: st) u
      | _ => none
    | .dup => match st with
      | .int x :: st => k es ls (.int x :: .int x :: st) u
      | .ref x :: st => k es ls (.ref x :: .ref x :: st) u
      | _ => none
    | .dup2 => match st with
      | .int x :: .ref y :: st => k es ls (.int x :: .ref y :: .int x :: .ref y :: st) u
      | .int x :: .int y :: st => k es ls (.int x :: .int y :: .int x :: .int y :: st) u
      | _ => none
    | .pop => match st with
      | .int _ :: st => k es ls st u
      | .ref _ :: st => k es ls st u
      | _ => none
    | .goto _ => k (rx_suf a all) ls st u
    | .ifCond cd _ => match st with
      | .int x :: st => rx_if cd x 0 (k (rx_suf a all) ls st u) (k es ls st u)
      | _ => none
    | .if_icmp cd _ => match st with
      | .int y :: .int x :: st => rx_if cd x y (k (rx_suf a all) ls st u) (k es ls st u)
      | _ => none
    | .lcmp => match st, es with
      | .long y :: .long x :: st, (_, .ifCond cd _, _, a2, _, _, _, _, _) :: es2 => rx_ifJ cd x y (k (rx_suf a2 all) ls st u) (k es2 ls st u)
      | _, _ => none
    | .tableswitch _ _ _ _ => match st with
      | .int x :: st => rx_sw (fun t => k (rx_suf t all) ls st u) x a sw
      | _ => none
    | .getfield _ => match st with
      | .ref r :: st => (match b % 4 with
        | 0 => (rx_gI u r a (b / 4)).bind fun x => k es ls (.int x :: st) u
        | 1 => (rx_gJ u r a (b / 4)).bind fun x => k es ls (.long x :: st) u
        | 2 => (rx_gR u r a (b / 4)).bind fun x => k es ls (.ref x :: st) u
        | _ => none)
      | _ => none
    | .putfield _ => match st with
      | .int x :: .ref r :: st => Bool.rec (motive := fun _ => Option α) none ((rx_p u r a (b / 4) (.int x)).bind fun u => k es ls st u) (Nat.beq (b % 4) 0)
      | .long x :: .ref r :: st => Bool.rec (motive := fun _ => Option α) none ((rx_p u r a (b / 4) (.long x)).bind fun u => k es ls st u) (Nat.beq (b % 4) 1)
      | .ref x :: .ref r :: st => Bool.rec (motive := fun _ => Option α) none ((rx_p u r a (b / 4) (.ref x)).bind fun u => k es ls st u) (Nat.beq (b % 4) 2)
      | _ => none
    | .getstatic _ => k es ls (.ref a :: st) u
    | .iaload => match st with
      | .int i :: .ref r :: st => (rx_aI u r i).bind fun x => k es ls (.int x :: st) u
      | _ => none
    | .laload => match st with
      | .int i :: .ref r :: st => (rx_aJ u r i).bind fun x => k es ls (.long x :: st) u
      | _ => none
    | .aaload => match st with
      | .int i :: .ref r :: st => (rx_aR u r i).bind fun x => k es ls (.ref x :: st) u
      | _ => none
    | .iastore => match st with
      | .int x :: .int i :: .ref r :: st => (rx_sI u r i x).bind fun u => k es ls st u
      | _ => none
    | .lastore => match st with
      | .long x :: .int i :: .ref r :: st => (rx_sJ u r i x).bind fun u => k es ls st u
      | _ => none
    | .aastore => match st with
      | .ref x :: .int i :: .ref r :: st => (rx_sR u r i x).bind fun u => k es ls st u
      | _ => none
    | .arraylength => match st with
      | .ref r :: st => (rx_len u r).bind fun x => k es ls (.int x :: st) u
      | _ => none
    | .newarray t => match st with
      | .int n :: st => (match t with
        | .int => (rx_nI u n).bind fun q => k es ls (.ref q.1 :: st) q.2
        | .long => (rx_nJ u n).bind fun q => k es ls (.ref q.1 :: st) q.2
        | _ => none)
      | _ => none
    | .anewarray _ => match st with
      | .int n :: st => (rx_nR u n).bind fun q => k es ls (.ref q.1 :: st) q.2
      | _ => none
    | .new _ => (rx_nO u a).bind fun q => k es ls (.ref q.1 :: st) q.2
    | .invokestatic _ => match b with
      | 1000 => (match st with
        | .int n :: .int dp :: .ref r1 :: .int sp :: .ref r0 :: st => Bool.rec (motive := fun _ => Option α) none ((rx_cp u r0 sp r1 dp n).bind fun u => k es ls st u) (Nat.ble (rx_cat st) 8)
        | _ => none)
      | _ => rx_call C (fun st u => k es ls st u) a b st u
    | .invokevirtual _ => match rx_take (b % 100) st [] with
      | some (.ref r :: as, rest) => Bool.rec (motive := fun _ => Option α) none ((rx_ck u r (b / 100)).bind fun _ => C a (.ref r :: as) u (fun v u' => k es ls (v.toList ++ rest) u')) (Nat.ble (rx_cat rest) 8)
      | _ => none
    | .invokespecial _ => match b with
      | 1000 => (match st with
        | .ref _ :: st => Bool.rec (motive := fun _ => Option α) none (k es ls st u) (Nat.ble (rx_cat st) 8)
        | _ => none)
      | _ => rx_call C (fun st u => k es ls st u) a b st u
    | .ireturn => match st with
      | [.int x] => (match b with
        | 1 => if x = 0 then ret (some (.int 0)) u else if x = 1 then ret (some (.int 1)) u else none
        | 2 => Bool.rec (motive := fun _ => Option α) (Bool.rec (motive := fun _ => Option α) none (ret (some (.int 1)) u) (decide (x = 1))) (ret (some (.int 0)) u) (decide (x = 0))
        | _ => ret (some (.int x)) u)
      | _ => none
    | .lreturn => match st with
      | [.long x] => ret (some (.long x)) u
      | _ => none
    | .return_ => match st with
      | [] => ret none u
      | _ => none
    | _ => none
/-- on to a place where it stops -/
noncomputable def rx_run {α : Type} (C : rx_Cl α) (ret : rx_K α) (all : List rx_E) (stop : List Nat) (kk : Nat → rx_L → List Value → Option rx_H → Option α) : Nat → rx_Go α
  | 0, _, _, _, _ => none
  | _ + 1, [], _, _, _ => none
  | n + 1, e :: es, ls, st, u => Bool.rec (motive := fun _ => Option α) (rx_act C ret all (rx_run C ret all stop kk n) e es ls st u) (kk e.1 ls st u) (stop.any (Nat.beq e.1))
/-- from a place, a step at least -/
noncomputable def rx_node {α : Type} (C : rx_Cl α) (ret : rx_K α) (all : List rx_E) (stop : List Nat) (kk : Nat → rx_L → List Value → Option rx_H → Option α) (n t : Nat) (ls : rx_L) (st : List Value) (u : Option rx_H) : Option α := match rx_suf t all with
  | [] => none
  | e :: es => rx_act C ret all (rx_run C ret all stop kk n) e es ls st u
/-- how a method answers: without the heap where it never looks at it -/
def rx_rI : rx_K Int32
  | some (.int x), none => some x
  | _, _ => none
def rx_rJ : rx_K Int64
  | some (.long x), none => some x
  | _, _ => none
def rx_hI : rx_K (Int32 × Option rx_H)
  | some (.int x), u => some (x, u)
  | _, _ => none
def rx_hJ : rx_K (Int64 × Option rx_H)
  | some (.long x), u => some (x, u)
  | _, _ => none
def rx_hV : rx_K (Option rx_H)
  | none, u => some u
  | _, _ => none
def rx_FU : Nat := 1000000
def rx_FD : Nat := 200
