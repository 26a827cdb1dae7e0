/-! ===== One instruction of the small machine is one of the machine's ===== -/
abbrev rx_Z : Type := (Program × Launch × Env × Room × State × MethodId × Array Value × List Frame × Method × Code) × ((State → Prop) × Nat × rx_G × rx_H × Nat × Nat × Nat × Nat × Nat × ByteArray × String × Bool × Bool)
abbrev zP (Z : rx_Z) : Program := Z.1.1
abbrev zL (Z : rx_Z) : Launch := Z.1.2.1
abbrev zE (Z : rx_Z) : Env := Z.1.2.2.1
abbrev zR (Z : rx_Z) : Room := Z.1.2.2.2.1
abbrev zS (Z : rx_Z) : State := Z.1.2.2.2.2.1
abbrev zM (Z : rx_Z) : MethodId := Z.1.2.2.2.2.2.1
abbrev zA (Z : rx_Z) : Array Value := Z.1.2.2.2.2.2.2.1
abbrev zB (Z : rx_Z) : List Frame := Z.1.2.2.2.2.2.2.2.1
abbrev zMe (Z : rx_Z) : Method := Z.1.2.2.2.2.2.2.2.2.1
abbrev zC (Z : rx_Z) : Code := Z.1.2.2.2.2.2.2.2.2.2
abbrev zQ (Z : rx_Z) : State → Prop := Z.2.1
abbrev zn (Z : rx_Z) : Nat := Z.2.2.1
abbrev zG (Z : rx_Z) : rx_G := Z.2.2.2.1
abbrev zh (Z : rx_Z) : rx_H := Z.2.2.2.2.1
abbrev zn0 (Z : rx_Z) : Nat := Z.2.2.2.2.2.1
abbrev zs0 (Z : rx_Z) : Nat := Z.2.2.2.2.2.2.1
abbrev zn1 (Z : rx_Z) : Nat := Z.2.2.2.2.2.2.2.1
abbrev zs1 (Z : rx_Z) : Nat := Z.2.2.2.2.2.2.2.2.1
abbrev zd (Z : rx_Z) : Nat := Z.2.2.2.2.2.2.2.2.2.1
abbrev zcc (Z : rx_Z) : ByteArray := Z.2.2.2.2.2.2.2.2.2.2.1
abbrev zo (Z : rx_Z) : String := Z.2.2.2.2.2.2.2.2.2.2.2.1
abbrev zi (Z : rx_Z) : Bool := Z.2.2.2.2.2.2.2.2.2.2.2.2.1
abbrev zb (Z : rx_Z) : Bool := Z.2.2.2.2.2.2.2.2.2.2.2.2.2
abbrev zW (Z : rx_Z) (H : Heap) (locs : List Loc) (cells slots : Nat) (g : JFrame) : Prop := W (zP Z) (zL Z) (zE Z) (zR Z) (zS Z) (zM Z) (zA Z) (zB Z) (zMe Z) (zC Z) H locs cells slots (zQ Z) g
/-- the frame: the machine, the code, the words, what is known of the heap at the start, the room -/
def rx_Fr (Z : rx_Z) : Prop := (zP Z).tables.exec = Jvm.exec ∧ (zC Z).code = zcc Z ∧ (zC Z).maxLocals = zn Z ∧ (zS Z).vm.findClass (zo Z) = some (zM Z).cls ∧ (∀ w ∈ rx_TB, w.before (zA Z) (zS Z) = true) ∧ rx_Ks (zG Z) (zS Z) ∧ (zi Z = true → (zMe Z).name = "<init>") ∧
  zd Z + 1 ≤ (zR Z).frames ∧ 64 * (zd Z + 1) ≤ (zR Z).locals ∧ zn1 Z - zn0 Z ≤ (zR Z).cells ∧ zs1 Z - zs0 Z ≤ (zR Z).slots
abbrev rx_u (Z : rx_Z) (u : Option rx_H) : rx_H := u.getD (zh Z)
/-- from here the machine comes to its end -/
def rx_WS (Z : rx_Z) (pc : Nat) (als : rx_L) (st : List Value) (u : Option rx_H) : Prop := ∀ (H : Heap) (ls : Array Slot) (locs : List Loc), rx_R (zG Z) (rx_u Z u) H → rx_lo (zG Z) ls (zn Z) als → (∀ q ∈ locs, rx_base (zG Z) ≤ q.base) →
  zW Z H locs ((rx_u Z u).2.length - zn0 Z) (rx_sl (rx_u Z u) - zs0 Z) (F0 (zM Z) pc ls (st.map (rx_ev (zG Z))))
def rx_O (Z : rx_Z) (pc : Nat) (als : rx_L) (st : List Value) (u : Option rx_H) : Prop := zn0 Z ≤ (rx_u Z u).2.length → zs0 Z ≤ rx_sl (rx_u Z u) → ((rx_u Z u).2.length ≤ zn1 Z ∧ rx_sl (rx_u Z u) ≤ zs1 Z) ∧ rx_WS Z pc als st u
theorem rx_O.map {Z : rx_Z} {pc pc' : Nat} {als als' : rx_L} {st st' : List Value} {u : Option rx_H} (h : rx_O Z pc als st u) (f : rx_WS Z pc als st u → rx_WS Z pc' als' st' u) : rx_O Z pc' als' st' u := fun h1 h2 => ⟨(h h1 h2).1, f (h h1 h2).2⟩
theorem rx_O.le {Z : rx_Z} {pc : Nat} {a b : rx_L} {st : List Value} {u : Option rx_H} (h : rx_O Z pc a st u) (hl : rx_le a b) : rx_O Z pc b st u := h.map fun k H ls locs h1 h2 h3 => k H ls locs h1 (h2.le hl) h3
section rxT
variable {Z : rx_Z} {pc : Nat} {als : rx_L} {st : List Value} {u : Option rx_H}
theorem rx_t_iadd (F : rx_Fr Z) {x y : Int32} (hd : decode (zcc Z) pc = .ok (.iadd, 1)) (k : rx_WS Z (pc + 1) als (.int (x + y) :: st) u) : rx_WS Z pc als (.int y :: .int x :: st) u := fun H ls locs h1 h2 h3 => lv_iadd F.1 F.2.1 hd (k H ls locs h1 h2 h3)
theorem rx_t_isub (F : rx_Fr Z) {x y : Int32} (hd : decode (zcc Z) pc = .ok (.isub, 1)) (k : rx_WS Z (pc + 1) als (.int (x - y) :: st) u) : rx_WS Z pc als (.int y :: .int x :: st) u := fun H ls locs h1 h2 h3 => lv_isub F.1 F.2.1 hd (k H ls locs h1 h2 h3)
theorem rx_t_imul (F : rx_Fr Z) {x y : Int32} (hd : decode (zcc Z) pc = .ok (.imul, 1)) (k : rx_WS Z (pc + 1) als (.int (x * y) :: st) u) : rx_WS Z pc als (.int y :: .int x :: st) u := fun H ls locs h1 h2 h3 => lv_imul F.1 F.2.1 hd (k H ls locs h1 h2 h3)
theorem rx_t_iand (F : rx_Fr Z) {x y : Int32} (hd : decode (zcc Z) pc = .ok (.iand, 1)) (k : rx_WS Z (pc + 1) als (.int (x &&& y) :: st) u) : rx_WS Z pc als (.int y :: .int x :: st) u := fun H ls locs h1 h2 h3 => lv_iand F.1 F.2.1 hd (k H ls locs h1 h2 h3)
theorem rx_t_ior (F : rx_Fr Z) {x y : Int32} (hd : decode (zcc Z) pc = .ok (.ior, 1)) (k : rx_WS Z (pc + 1) als (.int (x ||| y) :: st) u) : rx_WS Z pc als (.int y :: .int x :: st) u := fun H ls locs h1 h2 h3 => lv_ior F.1 F.2.1 hd (k H ls locs h1 h2 h3)
theorem rx_t_ixor (F : rx_Fr Z) {x y : Int32} (hd : decode (zcc Z) pc = .ok (.ixor, 1)) (k : rx_WS Z (pc + 1) als (.int (x ^^^ y) :: st) u) : rx_WS Z pc als (.int y :: .int x :: st) u := fun H ls locs h1 h2 h3 => lv_ixor F.1 F.2.1 hd (k H ls locs h1 h2 h3)
theorem rx_t_ishl (F : rx_Fr Z) {x y : Int32} (hd : decode (zcc Z) pc = .ok (.ishl, 1)) (k : rx_WS Z (pc + 1) als (.int (x <<< (y &&& 31)) :: st) u) : rx_WS Z pc als (.int y :: .int x :: st) u := fun H ls locs h1 h2 h3 => lv_ishl F.1 F.2.1 hd (k H ls locs h1 h2 h3)
theorem rx_t_ishr (F : rx_Fr Z) {x y : Int32} (hd : decode (zcc Z) pc = .ok (.ishr, 1)) (k : rx_WS Z (pc + 1) als (.int (x >>> (y &&& 31)) :: st) u) : rx_WS Z pc als (.int y :: .int x :: st) u := fun H ls locs h1 h2 h3 => lv_ishr F.1 F.2.1 hd (k H ls locs h1 h2 h3)
theorem rx_t_iushr (F : rx_Fr Z) {x y : Int32} (hd : decode (zcc Z) pc = .ok (.iushr, 1)) (k : rx_WS Z (pc + 1) als (.int ((x.toUInt32 >>> (y.toUInt32 &&& Int32.toUInt32 31)).toInt32) :: st) u) : rx_WS Z pc als (.int y :: .int x :: st) u := fun H ls locs h1 h2 h3 => lv_iushr F.1 F.2.1 hd rfl (k H ls locs h1 h2 h3)
theorem rx_t_ineg (F : rx_Fr Z) {x : Int32} (hd : decode (zcc Z) pc = .ok (.ineg, 1)) (k : rx_WS Z (pc + 1) als (.int (-x) :: st) u) : rx_WS Z pc als (.int x :: st) u := fun H ls locs h1 h2 h3 => lv_ineg F.1 F.2.1 hd (k H ls locs h1 h2 h3)
theorem rx_t_idiv (F : rx_Fr Z) {x y : Int32} (hy : ¬ y = 0) (hd : decode (zcc Z) pc = .ok (.idiv, 1)) (k : rx_WS Z (pc + 1) als (.int (x / y) :: st) u) : rx_WS Z pc als (.int y :: .int x :: st) u := fun H ls locs h1 h2 h3 => lv_idiv F.1 F.2.1 hd hy (k H ls locs h1 h2 h3)
theorem rx_t_irem (F : rx_Fr Z) {x y : Int32} (hy : ¬ y = 0) (hd : decode (zcc Z) pc = .ok (.irem, 1)) (k : rx_WS Z (pc + 1) als (.int (x - x / y * y) :: st) u) : rx_WS Z pc als (.int y :: .int x :: st) u := fun H ls locs h1 h2 h3 => lv_irem F.1 F.2.1 hd hy (k H ls locs h1 h2 h3)
theorem rx_t_ladd (F : rx_Fr Z) {x y : Int64} (hd : decode (zcc Z) pc = .ok (.ladd, 1)) (k : rx_WS Z (pc + 1) als (.long (x + y) :: st) u) : rx_WS Z pc als (.long y :: .long x :: st) u := fun H ls locs h1 h2 h3 => lv_ladd F.1 F.2.1 hd (k H ls locs h1 h2 h3)
theorem rx_t_lsub (F : rx_Fr Z) {x y : Int64} (hd : decode (zcc Z) pc = .ok (.lsub, 1)) (k : rx_WS Z (pc + 1) als (.long (x - y) :: st) u) : rx_WS Z pc als (.long y :: .long x :: st) u := fun H ls locs h1 h2 h3 => lv_lsub F.1 F.2.1 hd (k H ls locs h1 h2 h3)
theorem rx_t_lmul (F : rx_Fr Z) {x y : Int64} (hd : decode (zcc Z) pc = .ok (.lmul, 1)) (k : rx_WS Z (pc + 1) als (.long (x * y) :: st) u) : rx_WS Z pc als (.long y :: .long x :: st) u := fun H ls locs h1 h2 h3 => lv_lmul F.1 F.2.1 hd (k H ls locs h1 h2 h3)
theorem rx_t_land (F : rx_Fr Z) {x y : Int64} (hd : decode (zcc Z) pc = .ok (.land, 1)) (k : rx_WS Z (pc + 1) als (.long (x &&& y) :: st) u) : rx_WS Z pc als (.long y :: .long x :: st) u := fun H ls locs h1 h2 h3 => lv_land F.1 F.2.1 hd (k H ls locs h1 h2 h3)
theorem rx_t_lor (F : rx_Fr Z) {x y : Int64} (hd : decode (zcc Z) pc = .ok (.lor, 1)) (k : rx_WS Z (pc + 1) als (.long (x ||| y) :: st) u) : rx_WS Z pc als (.long y :: .long x :: st) u := fun H ls locs h1 h2 h3 => lv_lor F.1 F.2.1 hd (k H ls locs h1 h2 h3)
theorem rx_t_lxor (F : rx_Fr Z) {x y : Int64} (hd : decode (zcc Z) pc = .ok (.lxor, 1)) (k : rx_WS Z (pc + 1) als (.long (x ^^^ y) :: st) u) : rx_WS Z pc als (.long y :: .long x :: st) u := fun H ls locs h1 h2 h3 => lv_lxor F.1 F.2.1 hd (k H ls locs h1 h2 h3)
theorem rx_t_ldiv (F : rx_Fr Z) {x y : Int64} (hy : ¬ y = 0) (hd : decode (zcc Z) pc = .ok (.ldiv, 1)) (k : rx_WS Z (pc + 1) als (.long (x / y) :: st) u) : rx_WS Z pc als (.long y :: .long x :: st) u := fun H ls locs h1 h2 h3 => lv_ldiv F.1 F.2.1 hd hy (k H ls locs h1 h2 h3)
theorem rx_t_lneg (F : rx_Fr Z) {x : Int64} (hd : decode (zcc Z) pc = .ok (.lneg, 1)) (k : rx_WS Z (pc + 1) als (.long (-x) :: st) u) : rx_WS Z pc als (.long x :: st) u := fun H ls locs h1 h2 h3 => lv_lneg F.1 F.2.1 hd (k H ls locs h1 h2 h3)
theorem rx_t_lshl (F : rx_Fr Z) {x : Int64} {y : Int32} (hd : decode (zcc Z) pc = .ok (.lshl, 1)) (k : rx_WS Z (pc + 1) als (.long (x <<< (y.toInt64 &&& 63)) :: st) u) : rx_WS Z pc als (.int y :: .long x :: st) u := fun H ls locs h1 h2 h3 => lv_lshl F.1 F.2.1 hd rfl (k H ls locs h1 h2 h3)
theorem rx_t_lushr (F : rx_Fr Z) {x : Int64} {y : Int32} (hd : decode (zcc Z) pc = .ok (.lushr, 1)) (k : rx_WS Z (pc + 1) als (.long ((x.toUInt64 >>> (y.toInt64.toUInt64 &&& Int64.toUInt64 63)).toInt64) :: st) u) : rx_WS Z pc als (.int y :: .long x :: st) u := fun H ls locs h1 h2 h3 => lv_lushr F.1 F.2.1 hd rfl (k H ls locs h1 h2 h3)
theorem rx_t_i2l (F : rx_Fr Z) {x : Int32} (hd : decode (zcc Z) pc = .ok (.i2l, 1)) (k : rx_WS Z (pc + 1) als (.long x.toInt64 :: st) u) : rx_WS Z pc als (.int x :: st) u := fun H ls locs h1 h2 h3 => lv_i2l F.1 F.2.1 hd rfl (k H ls locs h1 h2 h3)
theorem rx_t_l2i (F : rx_Fr Z) {x : Int64} (hd : decode (zcc Z) pc = .ok (.l2i, 1)) (k : rx_WS Z (pc + 1) als (.int x.toInt32 :: st) u) : rx_WS Z pc als (.long x :: st) u := fun H ls locs h1 h2 h3 => lv_l2i F.1 F.2.1 hd rfl (k H ls locs h1 h2 h3)
theorem rx_t_i2b (F : rx_Fr Z) {x : Int32} (hd : decode (zcc Z) pc = .ok (.i2b, 1)) (k : rx_WS Z (pc + 1) als (.int x.toInt8.toInt32 :: st) u) : rx_WS Z pc als (.int x :: st) u := fun H ls locs h1 h2 h3 => lv_i2b F.1 F.2.1 hd rfl (k H ls locs h1 h2 h3)
theorem rx_t_iconst (F : rx_Fr Z) {n : Int} {v : Int32} (hv : Int32.ofInt n = v) (hd : decode (zcc Z) pc = .ok (.iconst n, 1)) (k : rx_WS Z (pc + 1) als (.int v :: st) u) : rx_WS Z pc als (st) u := fun H ls locs h1 h2 h3 => lv_iconst F.1 F.2.1 hd hv (k H ls locs h1 h2 h3)
theorem rx_t_bipush (F : rx_Fr Z) {n : Int} {v : Int32} (hv : (Int8.ofInt n).toInt32 = v) (hd : decode (zcc Z) pc = .ok (.bipush n, 2)) (k : rx_WS Z (pc + 2) als (.int v :: st) u) : rx_WS Z pc als (st) u := fun H ls locs h1 h2 h3 => lv_bipush F.1 F.2.1 hd hv (k H ls locs h1 h2 h3)
theorem rx_t_sipush (F : rx_Fr Z) {n : Int} {v : Int32} (hv : (Int16.ofInt n).toInt32 = v) (hd : decode (zcc Z) pc = .ok (.sipush n, 3)) (k : rx_WS Z (pc + 3) als (.int v :: st) u) : rx_WS Z pc als (st) u := fun H ls locs h1 h2 h3 => lv_sipush F.1 F.2.1 hd hv (k H ls locs h1 h2 h3)
theorem rx_t_lconst (F : rx_Fr Z) {n : Fin 2} {v : Int64} (hv : Int64.ofNat (n : Nat) = v) (hd : decode (zcc Z) pc = .ok (.lconst n, 1)) (k : rx_WS Z (pc + 1) als (.long v :: st) u) : rx_WS Z pc als (st) u := fun H ls locs h1 h2 h3 => lv_lconst F.1 F.2.1 hd hv (k H ls locs h1 h2 h3)
theorem rx_t_iload (F : rx_Fr Z) {i : Nat} {x : Int32} (hl : rx_lg als i = some (.int x)) (hd : decode (zcc Z) pc = .ok (.iload i, 2)) (k : rx_WS Z (pc + 2) als (.int x :: st) u) : rx_WS Z pc als st u := fun H ls locs h1 h2 h3 => lv_iload F.1 F.2.1 hd (h2.2.2.2 i _ (rx_lg_some hl)) (k H ls locs h1 h2 h3)
theorem rx_t_iload_n (F : rx_Fr Z) {i : Fin 4} {x : Int32} (hl : rx_lg als i.val = some (.int x)) (hd : decode (zcc Z) pc = .ok (.iload_n i, 1)) (k : rx_WS Z (pc + 1) als (.int x :: st) u) : rx_WS Z pc als st u := fun H ls locs h1 h2 h3 => lv_iload_n F.1 F.2.1 hd rfl (h2.2.2.2 i.val _ (rx_lg_some hl)) (k H ls locs h1 h2 h3)
theorem rx_t_istore (F : rx_Fr Z) {i : Nat} {x : Int32} (hi : i < zn Z) (hd : decode (zcc Z) pc = .ok (.istore i, 2)) (k : rx_WS Z (pc + 2) (rx_s1 als i (.int x)) st u) : rx_WS Z pc als (.int x :: st) u := fun H ls locs h1 h2 h3 => lv_istore F.1 F.2.1 hd h2.has hi rfl fun ls' hl => k H ls' locs h1 (rx_s1_ok h2.1 hi hl) h3
theorem rx_t_istore_n (F : rx_Fr Z) {i : Fin 4} {x : Int32} (hi : i.val < zn Z) (hd : decode (zcc Z) pc = .ok (.istore_n i, 1)) (k : rx_WS Z (pc + 1) (rx_s1 als i.val (.int x)) st u) : rx_WS Z pc als (.int x :: st) u := fun H ls locs h1 h2 h3 => lv_istore_n F.1 F.2.1 hd rfl h2.has hi rfl fun ls' hl => k H ls' locs h1 (rx_s1_ok h2.1 hi hl) h3
theorem rx_t_lload (F : rx_Fr Z) {i : Nat} {x : Int64} (hl : rx_lg als i = some (.long x)) (hd : decode (zcc Z) pc = .ok (.lload i, 2)) (k : rx_WS Z (pc + 2) als (.long x :: st) u) : rx_WS Z pc als st u := fun H ls locs h1 h2 h3 => lv_lload F.1 F.2.1 hd (h2.2.2.2 i _ (rx_lg_some hl)) (k H ls locs h1 h2 h3)
theorem rx_t_lload_n (F : rx_Fr Z) {i : Fin 4} {x : Int64} (hl : rx_lg als i.val = some (.long x)) (hd : decode (zcc Z) pc = .ok (.lload_n i, 1)) (k : rx_WS Z (pc + 1) als (.long x :: st) u) : rx_WS Z pc als st u := fun H ls locs h1 h2 h3 => lv_lload_n F.1 F.2.1 hd rfl (h2.2.2.2 i.val _ (rx_lg_some hl)) (k H ls locs h1 h2 h3)
theorem rx_t_lstore (F : rx_Fr Z) {i : Nat} {x : Int64} (hi : i + 1 < zn Z) (hd : decode (zcc Z) pc = .ok (.lstore i, 2)) (k : rx_WS Z (pc + 2) (rx_s2 als i (.long x)) st u) : rx_WS Z pc als (.long x :: st) u := fun H ls locs h1 h2 h3 => lv_lstore F.1 F.2.1 hd h2.has hi rfl fun ls' hl => k H ls' locs h1 (rx_s2_ok h2.1 hi hl) h3
theorem rx_t_lstore_n (F : rx_Fr Z) {i : Fin 4} {x : Int64} (hi : i.val + 1 < zn Z) (hd : decode (zcc Z) pc = .ok (.lstore_n i, 1)) (k : rx_WS Z (pc + 1) (rx_s2 als i.val (.long x)) st u) : rx_WS Z pc als (.long x :: st) u := fun H ls locs h1 h2 h3 => lv_lstore_n F.1 F.2.1 hd rfl h2.has hi rfl fun ls' hl => k H ls' locs h1 (rx_s2_ok h2.1 hi hl) h3
theorem rx_t_aload (F : rx_Fr Z) {i : Nat} {x : Nat} (hl : rx_lg als i = some (.ref x)) (hd : decode (zcc Z) pc = .ok (.aload i, 2)) (k : rx_WS Z (pc + 2) als (.ref x :: st) u) : rx_WS Z pc als st u := fun H ls locs h1 h2 h3 => lv_aload F.1 F.2.1 hd (h2.2.2.2 i _ (rx_lg_some hl)) (k H ls locs h1 h2 h3)
theorem rx_t_aload_n (F : rx_Fr Z) {i : Fin 4} {x : Nat} (hl : rx_lg als i.val = some (.ref x)) (hd : decode (zcc Z) pc = .ok (.aload_n i, 1)) (k : rx_WS Z (pc + 1) als (.ref x :: st) u) : rx_WS Z pc als st u := fun H ls locs h1 h2 h3 => lv_aload_n F.1 F.2.1 hd rfl (h2.2.2.2 i.val _ (rx_lg_some hl)) (k H ls locs h1 h2 h3)
theorem rx_t_astore (F : rx_Fr Z) {i : Nat} {x : Nat} (hi : i < zn Z) (hd : decode (zcc Z) pc = .ok (.astore i, 2)) (k : rx_WS Z (pc + 2) (rx_s1 als i (.ref x)) st u) : rx_WS Z pc als (.ref x :: st) u := fun H ls locs h1 h2 h3 => lv_astore F.1 F.2.1 hd h2.has hi rfl fun ls' hl => k H ls' locs h1 (rx_s1_ok h2.1 hi hl) h3
theorem rx_t_astore_n (F : rx_Fr Z) {i : Fin 4} {x : Nat} (hi : i.val < zn Z) (hd : decode (zcc Z) pc = .ok (.astore_n i, 1)) (k : rx_WS Z (pc + 1) (rx_s1 als i.val (.ref x)) st u) : rx_WS Z pc als (.ref x :: st) u := fun H ls locs h1 h2 h3 => lv_astore_n F.1 F.2.1 hd rfl h2.has hi rfl fun ls' hl => k H ls' locs h1 (rx_s1_ok h2.1 hi hl) h3
theorem rx_t_iinc (F : rx_Fr Z) {i : Nat} {n : Int} {x v : Int32} (hv : Int32.ofInt n = v) (hi : i < zn Z) (hl : rx_lg als i = some (.int x)) (hd : decode (zcc Z) pc = .ok (.iinc i n, 3)) (k : rx_WS Z (pc + 3) (rx_s1 als i (.int (x + v))) st u) : rx_WS Z pc als st u := fun H ls locs h1 h2 h3 => by
  obtain ⟨j, hj⟩ := List.getElem?_of_mem (rx_ll_mem (G := zG Z) (rx_lg_some hl))
  exact lv_iinc F.1 F.2.1 hd h2.has hj (by rw [hv]) hi rfl fun ls' hl => k H ls' locs h1 (rx_s1_ok h2.1 hi hl) h3
theorem rx_t_dupI (F : rx_Fr Z) {x : Int32} (hd : decode (zcc Z) pc = .ok (.dup, 1)) (k : rx_WS Z (pc + 1) als (.int x :: .int x :: st) u) : rx_WS Z pc als (.int x :: st) u := fun H ls locs h1 h2 h3 => lv_dup F.1 F.2.1 hd rfl (k H ls locs h1 h2 h3)
theorem rx_t_dupR (F : rx_Fr Z) {x : Nat} (hd : decode (zcc Z) pc = .ok (.dup, 1)) (k : rx_WS Z (pc + 1) als (.ref x :: .ref x :: st) u) : rx_WS Z pc als (.ref x :: st) u := fun H ls locs h1 h2 h3 => lv_dup F.1 F.2.1 hd rfl (k H ls locs h1 h2 h3)
theorem rx_t_dup2R (F : rx_Fr Z) {x : Int32} {y : Nat} (hd : decode (zcc Z) pc = .ok (.dup2, 1)) (k : rx_WS Z (pc + 1) als (.int x :: .ref y :: .int x :: .ref y :: st) u) : rx_WS Z pc als (.int x :: .ref y :: st) u := fun H ls locs h1 h2 h3 => lv_dup2_11 F.1 F.2.1 hd rfl rfl (k H ls locs h1 h2 h3)
theorem rx_t_dup2I (F : rx_Fr Z) {x y : Int32} (hd : decode (zcc Z) pc = .ok (.dup2, 1)) (k : rx_WS Z (pc + 1) als (.int x :: .int y :: .int x :: .int y :: st) u) : rx_WS Z pc als (.int x :: .int y :: st) u := fun H ls locs h1 h2 h3 => lv_dup2_11 F.1 F.2.1 hd rfl rfl (k H ls locs h1 h2 h3)
theorem rx_t_popI (F : rx_Fr Z) {x : Int32} (hd : decode (zcc Z) pc = .ok (.pop, 1)) (k : rx_WS Z (pc + 1) als (st) u) : rx_WS Z pc als (.int x :: st) u := fun H ls locs h1 h2 h3 => lv_pop F.1 F.2.1 hd rfl (k H ls locs h1 h2 h3)
theorem rx_t_popR (F : rx_Fr Z) {x : Nat} (hd : decode (zcc Z) pc = .ok (.pop, 1)) (k : rx_WS Z (pc + 1) als (st) u) : rx_WS Z pc als (.ref x :: st) u := fun H ls locs h1 h2 h3 => lv_pop F.1 F.2.1 hd rfl (k H ls locs h1 h2 h3)
theorem rx_t_ldc (F : rx_Fr Z) {i : Nat} {v : Int32} (hw : Jvm.Cond.constant (zo Z) i v ∈ rx_TB) (hd : decode (zcc Z) pc = .ok (.ldc i, 2)) (k : rx_WS Z (pc + 2) als (.int v :: st) u) : rx_WS Z pc als st u := fun H ls locs h1 h2 h3 => lv_ldc F.1 F.2.1 F.2.2.2.1 (F.2.2.2.2.1 _ hw) hd (k H ls locs h1 h2 h3)
theorem rx_t_ldc_w (F : rx_Fr Z) {i : Nat} {v : Int32} (hw : Jvm.Cond.constant (zo Z) i v ∈ rx_TB) (hd : decode (zcc Z) pc = .ok (.ldc_w i, 3)) (k : rx_WS Z (pc + 3) als (.int v :: st) u) : rx_WS Z pc als st u := fun H ls locs h1 h2 h3 => lv_ldcw F.1 F.2.1 F.2.2.2.1 (F.2.2.2.2.1 _ hw) hd (k H ls locs h1 h2 h3)
theorem rx_t_ldc2 (F : rx_Fr Z) {i : Nat} {v : Int64} (hw : Jvm.Cond.constantLong (zo Z) i v ∈ rx_TB) (hd : decode (zcc Z) pc = .ok (.ldc2_w i, 3)) (k : rx_WS Z (pc + 3) als (.long v :: st) u) : rx_WS Z pc als st u := fun H ls locs h1 h2 h3 => lv_ldc2 F.1 F.2.1 F.2.2.2.1 (F.2.2.2.2.1 _ hw) hd (k H ls locs h1 h2 h3)
theorem rx_t_goto (F : rx_Fr Z) {off : Int} {t : Nat} (ht : (pc : Int) + off = (t : Int)) (hd : decode (zcc Z) pc = .ok (.goto off, 3)) (k : rx_WS Z t als st u) : rx_WS Z pc als st u := fun H ls locs h1 h2 h3 => lv_goto F.1 F.2.1 hd ht (k H ls locs h1 h2 h3)
theorem rx_t_if (F : rx_Fr Z) {cd : ClassFile.Cond} {off : Int} {t : Nat} {x : Int32} (ht : (pc : Int) + off = (t : Int)) (hd : decode (zcc Z) pc = .ok (.ifCond cd off, 3)) {α : Type} {kt kf : Option α} {r : α} (h : rx_if cd x 0 kt kf = some r) (gt : kt = some r → rx_O Z t als st u) (gf : kf = some r → rx_O Z (pc + 3) als st u) : rx_O Z pc als (.int x :: st) u := by
  cases cd <;> simp only [rx_if] at h <;> split at h <;> rename_i hc
  · exact (gt h).map fun k H ls locs h1 h2 h3 => lv_if_eq F.1 F.2.1 hd ht (fun _ => k H ls locs h1 h2 h3) (fun q => absurd hc q)
  · exact (gf h).map fun k H ls locs h1 h2 h3 => lv_if_eq F.1 F.2.1 hd ht (fun q => absurd q hc) (fun _ => k H ls locs h1 h2 h3)
  · exact (gf h).map fun k H ls locs h1 h2 h3 => lv_if_ne F.1 F.2.1 hd ht (fun q => absurd hc q) (fun _ => k H ls locs h1 h2 h3)
  · exact (gt h).map fun k H ls locs h1 h2 h3 => lv_if_ne F.1 F.2.1 hd ht (fun _ => k H ls locs h1 h2 h3) (fun q => absurd q hc)
  · exact (gt h).map fun k H ls locs h1 h2 h3 => lv_if_lt F.1 F.2.1 hd ht (fun _ => k H ls locs h1 h2 h3) (fun q => absurd hc q)
  · exact (gf h).map fun k H ls locs h1 h2 h3 => lv_if_lt F.1 F.2.1 hd ht (fun q => absurd q hc) (fun _ => k H ls locs h1 h2 h3)
  · exact (gf h).map fun k H ls locs h1 h2 h3 => lv_if_ge F.1 F.2.1 hd ht (fun q => absurd hc (Int32.not_lt.mpr q)) (fun _ => k H ls locs h1 h2 h3)
  · exact (gt h).map fun k H ls locs h1 h2 h3 => lv_if_ge F.1 F.2.1 hd ht (fun _ => k H ls locs h1 h2 h3) (fun q => absurd (Int32.not_lt.mp hc) q)
  · exact (gt h).map fun k H ls locs h1 h2 h3 => lv_if_gt F.1 F.2.1 hd ht (fun _ => k H ls locs h1 h2 h3) (fun q => absurd hc q)
  · exact (gf h).map fun k H ls locs h1 h2 h3 => lv_if_gt F.1 F.2.1 hd ht (fun q => absurd q hc) (fun _ => k H ls locs h1 h2 h3)
  · exact (gf h).map fun k H ls locs h1 h2 h3 => lv_if_le F.1 F.2.1 hd ht (fun q => absurd hc (Int32.not_lt.mpr q)) (fun _ => k H ls locs h1 h2 h3)
  · exact (gt h).map fun k H ls locs h1 h2 h3 => lv_if_le F.1 F.2.1 hd ht (fun _ => k H ls locs h1 h2 h3) (fun q => absurd (Int32.not_lt.mp hc) q)
theorem rx_t_icmp (F : rx_Fr Z) {cd : ClassFile.Cond} {off : Int} {t : Nat} {x y : Int32} (ht : (pc : Int) + off = (t : Int)) (hd : decode (zcc Z) pc = .ok (.if_icmp cd off, 3)) {α : Type} {kt kf : Option α} {r : α} (h : rx_if cd x y kt kf = some r) (gt : kt = some r → rx_O Z t als st u) (gf : kf = some r → rx_O Z (pc + 3) als st u) : rx_O Z pc als (.int y :: .int x :: st) u := by
  cases cd <;> simp only [rx_if] at h <;> split at h <;> rename_i hc
  · exact (gt h).map fun k H ls locs h1 h2 h3 => lv_icmp_eq F.1 F.2.1 hd ht (fun _ => k H ls locs h1 h2 h3) (fun q => absurd hc q)
  · exact (gf h).map fun k H ls locs h1 h2 h3 => lv_icmp_eq F.1 F.2.1 hd ht (fun q => absurd q hc) (fun _ => k H ls locs h1 h2 h3)
  · exact (gf h).map fun k H ls locs h1 h2 h3 => lv_icmp_ne F.1 F.2.1 hd ht (fun q => absurd hc q) (fun _ => k H ls locs h1 h2 h3)
  · exact (gt h).map fun k H ls locs h1 h2 h3 => lv_icmp_ne F.1 F.2.1 hd ht (fun _ => k H ls locs h1 h2 h3) (fun q => absurd q hc)
  · exact (gt h).map fun k H ls locs h1 h2 h3 => lv_icmp_lt F.1 F.2.1 hd ht (fun _ => k H ls locs h1 h2 h3) (fun q => absurd hc q)
  · exact (gf h).map fun k H ls locs h1 h2 h3 => lv_icmp_lt F.1 F.2.1 hd ht (fun q => absurd q hc) (fun _ => k H ls locs h1 h2 h3)
  · exact (gf h).map fun k H ls locs h1 h2 h3 => lv_icmp_ge F.1 F.2.1 hd ht (fun q => absurd hc (Int32.not_lt.mpr q)) (fun _ => k H ls locs h1 h2 h3)
  · exact (gt h).map fun k H ls locs h1 h2 h3 => lv_icmp_ge F.1 F.2.1 hd ht (fun _ => k H ls locs h1 h2 h3) (fun q => absurd (Int32.not_lt.mp hc) q)
  · exact (gt h).map fun k H ls locs h1 h2 h3 => lv_icmp_gt F.1 F.2.1 hd ht (fun _ => k H ls locs h1 h2 h3) (fun q => absurd hc q)
  · exact (gf h).map fun k H ls locs h1 h2 h3 => lv_icmp_gt F.1 F.2.1 hd ht (fun q => absurd q hc) (fun _ => k H ls locs h1 h2 h3)
  · exact (gf h).map fun k H ls locs h1 h2 h3 => lv_icmp_le F.1 F.2.1 hd ht (fun q => absurd hc (Int32.not_lt.mpr q)) (fun _ => k H ls locs h1 h2 h3)
  · exact (gt h).map fun k H ls locs h1 h2 h3 => lv_icmp_le F.1 F.2.1 hd ht (fun _ => k H ls locs h1 h2 h3) (fun q => absurd (Int32.not_lt.mp hc) q)
theorem rx_ifJ_if {cd : ClassFile.Cond} {x y : Int64} {α : Type} {kt kf : Option α} : rx_ifJ cd x y kt kf = rx_if cd (lg_cmp x y) 0 kt kf := by
  have e1 : (lg_cmp x y = 0) = (x = y) := propext (lg_cmp_eq x y)
  have e2 : (lg_cmp x y < 0) = (x < y) := propext (lg_cmp_lt x y)
  have e3 : (0 < lg_cmp x y) = (y < x) := propext (lg_cmp_gt x y)
  cases cd <;> simp only [rx_ifJ, rx_if, e1, e2, e3]
theorem rx_t_lcmp (F : rx_Fr Z) {x y : Int64} (hd : decode (zcc Z) pc = .ok (.lcmp, 1)) (k : rx_O Z (pc + 1) als (.int (lg_cmp x y) :: st) u) : rx_O Z pc als (.long y :: .long x :: st) u := k.map fun k H ls locs h1 h2 h3 => W.lcmp F.1 F.2.1 hd (k H ls locs h1 h2 h3)
end rxT
