/-! The classes, their fields, the words that every method is given; the methods' names by number. -/
def rx_T0 : u_T := fun k => match k with
  | 0 => ("SetHouse$Place", "holds", "I", false)
  | 1 => ("SetHouse$Place", "least", "I", false)
  | 2 => ("SetHouse$Place", "sets", "J", false)
  | 3 => ("SetHouse$Place", "partner", "J", false)
  | 4 => ("SetHouse$Place", "length", "I", false)
  | _ => ("SetHouse$Place", "numbers", "[J", true)
def rx_y0 : Nat → FieldType := fun k => match k with
  | 0 => .int
  | 1 => .int
  | 2 => .long
  | 3 => .long
  | 4 => .int
  | _ => .array .long
def rx_T1 : u_T := fun k => match k with
  | 0 => ("SetHouse$Seeker", "petals", "[I", true)
  | 1 => ("SetHouse$Seeker", "tried", "[I", true)
  | 2 => ("SetHouse$Seeker", "petalCount", "I", false)
  | 3 => ("SetHouse$Seeker", "disjoint", "[I", true)
  | _ => ("SetHouse$Seeker", "meeting", "[J", true)
def rx_y1 : Nat → FieldType := fun k => match k with
  | 0 => .array .int
  | 1 => .array .int
  | 2 => .int
  | 3 => .array .int
  | _ => .array .long
def rx_T2 : u_T := fun k => match k with
  | 0 => ("SetHouse", "n", "I", true)
  | 1 => ("SetHouse", "all", "I", true)
  | 2 => ("SetHouse", "shelf", "[LSetHouse$Place;", true)
  | 3 => ("SetHouse", "layers", "[J", true)
  | 4 => ("SetHouse", "seeker", "LSetHouse$Seeker;", true)
  | _ => ("SetHouse", "latestClash", "I", false)
def rx_y2 : Nat → FieldType := fun k => match k with
  | 0 => .int
  | 1 => .int
  | 2 => .array (.object "SetHouse$Place")
  | 3 => .array .long
  | 4 => .object "SetHouse$Seeker"
  | _ => .int
def rx_T3 : u_T := fun k => match k with
  | 0 => ("SetHouseModel", "thrown", "I", false)
  | 1 => ("SetHouseModel", "n", "I", true)
  | 2 => ("SetHouseModel", "all", "I", true)
  | 3 => ("SetHouseModel", "kind", "[I", true)
  | 4 => ("SetHouseModel", "told", "[I", true)
  | 5 => ("SetHouseModel", "family", "[J", true)
  | 6 => ("SetHouseModel", "partner", "[J", true)
  | 7 => ("SetHouseModel", "size", "[I", true)
  | 8 => ("SetHouseModel", "rows", "[J", true)
  | 9 => ("SetHouseModel", "clash", "I", false)
  | 10 => ("SetHouseModel", "turn", "[I", true)
  | 11 => ("SetHouseModel", "petals", "[I", true)
  | 12 => ("SetHouseModel", "trial", "[I", true)
  | 13 => ("SetHouseModel", "petalCount", "I", false)
  | _ => ("SetHouseModel", "aside", "[J", true)
def rx_y3 : Nat → FieldType := fun k => match k with
  | 0 => .int
  | 1 => .int
  | 2 => .int
  | 3 => .array .int
  | 4 => .array .int
  | 5 => .array .long
  | 6 => .array .long
  | 7 => .array .int
  | 8 => .array .long
  | 9 => .int
  | 10 => .array .int
  | 11 => .array .int
  | 12 => .array .int
  | 13 => .int
  | _ => .array .long
def rx_cl : List vw_C := [("SetHouse$Place", rx_T0, 6), ("SetHouse$Seeker", rx_T1, 5), ("SetHouse", rx_T2, 6), ("SetHouseModel", rx_T3, 15)]
def rx_ty : Nat → Nat → FieldType := fun c => match c with
  | 0 => rx_y0
  | 1 => rx_y1
  | 2 => rx_y2
  | _ => rx_y3
/-- the words that hold on -/
def rx_TB : List Cond := lw_tbl.filter goodWord
theorem rx_in {w : Cond} {i : Nat} (h : lw_tbl[i]? = some w) (hg : goodWord w = true) : w ∈ rx_TB := List.mem_filter.mpr ⟨List.mem_of_getElem? h, hg⟩
theorem rx_good : ∀ w ∈ rx_TB, (w.onTables && w.keeps) = true ∨ ∃ ty, w = .arrayClass ty := fun _ h => good_of_word (List.mem_filter.mp h).2
theorem rx_ins {ws : List Cond} (ps : List Nat) (hp : ws = ps.filterMap (fun i => lw_tbl[i]?)) (h : ws.all goodWord = true) : ∀ w ∈ ws, w ∈ rx_TB := by
  intro w hw
  have h1 := List.all_eq_true.mp h w hw
  rw [hp] at hw
  obtain ⟨i, -, hi⟩ := List.mem_filterMap.mp hw
  exact rx_in hi h1
theorem rx_l0 : ∀ w ∈ u_ws "SetHouse$Place" rx_T0 6, w ∈ rx_TB := rx_ins [92, 94, 96, 98, 100, 102] (by decide +kernel) (by decide +kernel)
theorem rx_n0 : ∀ a, a < 6 → ∀ b, b < 6 → a ≠ b → (rx_T0 a).2.1 ≠ (rx_T0 b).2.1 := by decide +kernel
theorem rx_yo0 : ∀ k, k < 6 → parseFieldDescriptor (rx_T0 k).2.2.1 = some (rx_y0 k) := by decide +kernel
theorem rx_l1 : ∀ w ∈ u_ws "SetHouse$Seeker" rx_T1 5, w ∈ rx_TB := rx_ins [123, 125, 127, 129, 131] (by decide +kernel) (by decide +kernel)
theorem rx_n1 : ∀ a, a < 5 → ∀ b, b < 5 → a ≠ b → (rx_T1 a).2.1 ≠ (rx_T1 b).2.1 := by decide +kernel
theorem rx_yo1 : ∀ k, k < 5 → parseFieldDescriptor (rx_T1 k).2.2.1 = some (rx_y1 k) := by decide +kernel
theorem rx_l2 : ∀ w ∈ u_ws "SetHouse" rx_T2 6, w ∈ rx_TB := rx_ins [141, 143, 145, 147, 149, 151] (by decide +kernel) (by decide +kernel)
theorem rx_n2 : ∀ a, a < 6 → ∀ b, b < 6 → a ≠ b → (rx_T2 a).2.1 ≠ (rx_T2 b).2.1 := by decide +kernel
theorem rx_yo2 : ∀ k, k < 6 → parseFieldDescriptor (rx_T2 k).2.2.1 = some (rx_y2 k) := by decide +kernel
theorem rx_l3 : ∀ w ∈ u_ws "SetHouseModel" rx_T3 15, w ∈ rx_TB := rx_ins [768, 770, 772, 774, 776, 778, 780, 782, 784, 786, 788, 790, 792, 794, 796] (by decide +kernel) (by decide +kernel)
theorem rx_n3 : ∀ a, a < 15 → ∀ b, b < 15 → a ≠ b → (rx_T3 a).2.1 ≠ (rx_T3 b).2.1 := by decide +kernel
theorem rx_yo3 : ∀ k, k < 15 → parseFieldDescriptor (rx_T3 k).2.2.1 = some (rx_y3 k) := by decide +kernel
/-- the methods: name, and kind (static, of an object, a constructor) -/
def rx_ms : List (MethodName × Nat) := [
  (⟨"java/lang/Long", "bitCount", "(J)I"⟩, 0),
  (⟨"java/lang/Integer", "bitCount", "(I)I"⟩, 0),
  (⟨"java/lang/Math", "floorMod", "(II)I"⟩, 0),
  (⟨"java/lang/Math", "max", "(II)I"⟩, 0),
  (⟨"java/lang/Math", "min", "(II)I"⟩, 0),
  (⟨"SetHouseLaw", "cell", "([II)I"⟩, 0),
  (⟨"SetHouseLaw", "element", "(LSetHouse;II[J)I"⟩, 0),
  (⟨"SetHouseLaw", "law", "([I)Z"⟩, 0),
  (⟨"SetHouse$Heap", "allAbove", "(JI)J"⟩, 0),
  (⟨"SetHouse$Heap", "allBelow", "(J)J"⟩, 0),
  (⟨"SetHouse$Heap", "around", "(I)J"⟩, 0),
  (⟨"SetHouse$Heap", "below", "(I)J"⟩, 0),
  (⟨"SetHouse$Heap", "cutTo", "(JI)J"⟩, 0),
  (⟨"SetHouse$Heap", "holdsSet", "(JI)Z"⟩, 0),
  (⟨"SetHouse$Heap", "joinedTo", "(JI)J"⟩, 0),
  (⟨"SetHouse$Heap", "lacking", "(JI)J"⟩, 0),
  (⟨"SetHouse$Heap", "lackingThing", "(JI)J"⟩, 0),
  (⟨"SetHouse$Heap", "leastOf", "(J)I"⟩, 0),
  (⟨"SetHouse$Heap", "lessThing", "(JI)J"⟩, 0),
  (⟨"SetHouse$Heap", "mixed", "(JJI)J"⟩, 0),
  (⟨"SetHouse$Heap", "mixedInPairs", "(JJZ)J"⟩, 0),
  (⟨"SetHouse$Heap", "moreThing", "(JI)J"⟩, 0),
  (⟨"SetHouse$Heap", "moved", "(JII)J"⟩, 0),
  (⟨"SetHouse$Heap", "next", "(JI)I"⟩, 0),
  (⟨"SetHouse$Heap", "oneLess", "(J)J"⟩, 0),
  (⟨"SetHouse$Heap", "oneMore", "(JI)J"⟩, 0),
  (⟨"SetHouse$Heap", "setAt", "(JI)I"⟩, 0),
  (⟨"SetHouse$Heap", "shatters", "(JI)Z"⟩, 0),
  (⟨"SetHouse$Heap", "size", "(J)I"⟩, 0),
  (⟨"SetHouse$Heap", "swapped", "(JII)J"⟩, 0),
  (⟨"SetHouse$Heap", "within", "(I)J"⟩, 0),
  (⟨"SetHouse$Kinds", "apartClash", "(J)I"⟩, 0),
  (⟨"SetHouse$Kinds", "comingClash", "(LSetHouse$Place;I)I"⟩, 0),
  (⟨"SetHouse$Kinds", "downClash", "(J)I"⟩, 0),
  (⟨"SetHouse$Kinds", "fail", "(LSetHouse$Place;)V"⟩, 0),
  (⟨"SetHouse$Kinds", "familyClash", "(JII)I"⟩, 0),
  (⟨"SetHouse$Kinds", "firstFarFrom", "(JII)I"⟩, 0),
  (⟨"SetHouse$Kinds", "goingClash", "(LSetHouse$Place;I)I"⟩, 0),
  (⟨"SetHouse$Kinds", "hasNumber", "(I)Z"⟩, 0),
  (⟨"SetHouse$Kinds", "heftOf", "(LSetHouse$Place;)I"⟩, 0),
  (⟨"SetHouse$Kinds", "layerClash", "(JI)I"⟩, 0),
  (⟨"SetHouse$Kinds", "meetClash", "(JII)I"⟩, 0),
  (⟨"SetHouse$Kinds", "meetingClash", "(JI)I"⟩, 0),
  (⟨"SetHouse$Kinds", "pair", "(II)I"⟩, 0),
  (⟨"SetHouse$Numbers", "cascadeNumber", "(III)I"⟩, 0),
  (⟨"SetHouse$Numbers", "cascadeTop", "(II)I"⟩, 0),
  (⟨"SetHouse$Numbers", "cascades", "(II)Z"⟩, 0),
  (⟨"SetHouse$Numbers", "choose", "(II)I"⟩, 0),
  (⟨"SetHouse$Numbers", "factorial", "(I)I"⟩, 0),
  (⟨"SetHouse$Numbers", "leastShadow", "(II)I"⟩, 0),
  (⟨"SetHouse$Numbers", "matchedOnes", "(II)I"⟩, 0),
  (⟨"SetHouse$Numbers", "power", "(II)J"⟩, 0),
  (⟨"SetHouse$Orders", "agree", "(JJI)Z"⟩, 0),
  (⟨"SetHouse$Orders", "countTurns", "(JI)I"⟩, 0),
  (⟨"SetHouse$Orders", "digit", "(II)I"⟩, 0),
  (⟨"SetHouse$Orders", "isOrder", "(II)Z"⟩, 0),
  (⟨"SetHouse$Orders", "leastTurn", "(JJI)I"⟩, 0),
  (⟨"SetHouse$Orders", "stretch", "(IIII)I"⟩, 0),
  (⟨"SetHouse$Orders", "swapDigits", "(III)I"⟩, 0),
  (⟨"SetHouse$Orders", "turnedBy", "(JII)J"⟩, 0),
  (⟨"SetHouse$Orders", "unturned", "(I)I"⟩, 0),
  (⟨"SetHouse$Place", "becomeFamily", "(IIJJ)V"⟩, 1),
  (⟨"SetHouse$Place", "becomeNothing", "()V"⟩, 1),
  (⟨"SetHouse$Place", "becomeRow", "(II)V"⟩, 1),
  (⟨"SetHouse$Place", "hasStretch", "(II)Z"⟩, 1),
  (⟨"SetHouse$Place", "<init>", "()V"⟩, 2),
  (⟨"SetHouse$Place", "isRow", "()Z"⟩, 1),
  (⟨"SetHouse$Seeker", "findFlower", "(JI)I"⟩, 1),
  (⟨"SetHouse$Seeker", "fitting", "(JIII)J"⟩, 0),
  (⟨"SetHouse$Seeker", "greatestMeeting", "(JII)J"⟩, 1),
  (⟨"SetHouse$Seeker", "<init>", "()V"⟩, 2),
  (⟨"SetHouse$Seeker", "keepPetals", "(I)V"⟩, 1),
  (⟨"SetHouse$Seeker", "largest", "(JJJII)J"⟩, 0),
  (⟨"SetHouse$Seeker", "mostDisjoint", "(JI)I"⟩, 1),
  (⟨"SetHouse$Seeker", "near", "(JII)J"⟩, 0),
  (⟨"SetHouse$Seeker", "opens", "(JIIIII)Z"⟩, 1),
  (⟨"SetHouse$Seeker", "petalAt", "(I)I"⟩, 1),
  (⟨"SetHouse", "add", "(II)I"⟩, 1),
  (⟨"SetHouse", "cascade", "(III)I"⟩, 1),
  (⟨"SetHouse", "chain", "(II)I"⟩, 1),
  (⟨"SetHouse", "clash", "()I"⟩, 1),
  (⟨"SetHouse", "closed", "(IZI)I"⟩, 1),
  (⟨"SetHouse", "comes", "(LSetHouse$Place;I)Z"⟩, 1),
  (⟨"SetHouse", "copy", "(IIIII)I"⟩, 1),
  (⟨"SetHouse", "count", "(II)I"⟩, 1),
  (⟨"SetHouse", "cover", "(I)I"⟩, 1),
  (⟨"SetHouse", "cross", "(III)I"⟩, 1),
  (⟨"SetHouse", "drop", "(II)I"⟩, 1),
  (⟨"SetHouse", "element", "(II)J"⟩, 1),
  (⟨"SetHouse", "empty", "(I)I"⟩, 1),
  (⟨"SetHouse", "ends", "(IZI)I"⟩, 1),
  (⟨"SetHouse", "familiesRefusal", "(IIZ)I"⟩, 1),
  (⟨"SetHouse", "familyRefusal", "(IZ)I"⟩, 1),
  (⟨"SetHouse", "first", "(III)I"⟩, 1),
  (⟨"SetHouse", "flower", "(II)I"⟩, 1),
  (⟨"SetHouse", "greatest", "(III)I"⟩, 1),
  (⟨"SetHouse", "has", "(II)I"⟩, 1),
  (⟨"SetHouse", "heft", "(I)I"⟩, 1),
  (⟨"SetHouse", "holds", "(I)I"⟩, 1),
  (⟨"SetHouse", "<init>", "(I)V"⟩, 2),
  (⟨"SetHouse", "is", "(III)I"⟩, 1),
  (⟨"SetHouse", "isKind", "(II)Z"⟩, 1),
  (⟨"SetHouse", "isPlace", "(I)Z"⟩, 1),
  (⟨"SetHouse", "isSet", "(I)Z"⟩, 1),
  (⟨"SetHouse", "isSize", "(I)Z"⟩, 1),
  (⟨"SetHouse", "isThing", "(I)Z"⟩, 1),
  (⟨"SetHouse", "keep", "(IIIJ)I"⟩, 1),
  (⟨"SetHouse", "keepBeside", "(IIJI)I"⟩, 1),
  (⟨"SetHouse", "least", "(II)I"⟩, 1),
  (⟨"SetHouse", "loose", "(I)I"⟩, 1),
  (⟨"SetHouse", "make", "(III)I"⟩, 1),
  (⟨"SetHouse", "matters", "(II)I"⟩, 1),
  (⟨"SetHouse", "mix", "(IIII)I"⟩, 1),
  (⟨"SetHouse", "petal", "(I)I"⟩, 1),
  (⟨"SetHouse", "product", "(II)I"⟩, 1),
  (⟨"SetHouse", "push", "(III)I"⟩, 1),
  (⟨"SetHouse", "pushed", "(I)I"⟩, 1),
  (⟨"SetHouse", "put", "(IIJ)I"⟩, 1),
  (⟨"SetHouse", "rank", "(I)I"⟩, 1),
  (⟨"SetHouse", "ranked", "(II)I"⟩, 1),
  (⟨"SetHouse", "rest", "(IZI)I"⟩, 1),
  (⟨"SetHouse", "ring", "(III)I"⟩, 1),
  (⟨"SetHouse", "row", "(III)I"⟩, 1),
  (⟨"SetHouse", "rowRefusal", "(I)I"⟩, 1),
  (⟨"SetHouse", "same", "(II)I"⟩, 1),
  (⟨"SetHouse", "set", "(II)I"⟩, 1),
  (⟨"SetHouse", "shadow", "(II)I"⟩, 1),
  (⟨"SetHouse", "shattered", "(II)I"⟩, 1),
  (⟨"SetHouse", "sum", "(I)I"⟩, 1),
  (⟨"SetHouse", "take", "(II)I"⟩, 1),
  (⟨"SetHouse", "toss", "(I)I"⟩, 1),
  (⟨"SetHouse", "trace", "(III)I"⟩, 1),
  (⟨"SetHouse", "turned", "(III)I"⟩, 1),
  (⟨"SetHouse", "turns", "(I)I"⟩, 1),
  (⟨"SetHouse", "up", "(II)I"⟩, 1),
  (⟨"SetHouse", "weight", "(III)J"⟩, 1),
  (⟨"SetHouseModel", "add", "(II)I"⟩, 1),
  (⟨"SetHouseModel", "adds", "(II)I"⟩, 1),
  (⟨"SetHouseModel", "apartFrom", "(JII)I"⟩, 0),
  (⟨"SetHouseModel", "blooms", "(JIII)Z"⟩, 1),
  (⟨"SetHouseModel", "cascade", "(III)I"⟩, 1),
  (⟨"SetHouseModel", "chain", "(II)I"⟩, 1),
  (⟨"SetHouseModel", "chainFirst", "(I)I"⟩, 1),
  (⟨"SetHouseModel", "choose", "(II)I"⟩, 0),
  (⟨"SetHouseModel", "chooseAll", "(II)I"⟩, 0),
  (⟨"SetHouseModel", "clash", "()I"⟩, 1),
  (⟨"SetHouseModel", "closed", "(IZI)I"⟩, 1),
  (⟨"SetHouseModel", "copy", "(IIIII)I"⟩, 1),
  (⟨"SetHouseModel", "count", "(II)I"⟩, 1),
  (⟨"SetHouseModel", "cover", "(I)I"⟩, 1),
  (⟨"SetHouseModel", "cross", "(III)I"⟩, 1),
  (⟨"SetHouseModel", "drop", "(II)I"⟩, 1),
  (⟨"SetHouseModel", "each", "(JJZ)J"⟩, 1),
  (⟨"SetHouseModel", "element", "(II)J"⟩, 1),
  (⟨"SetHouseModel", "empty", "(I)I"⟩, 1),
  (⟨"SetHouseModel", "ends", "(IZI)I"⟩, 1),
  (⟨"SetHouseModel", "factorial", "(I)I"⟩, 0),
  (⟨"SetHouseModel", "first", "(III)I"⟩, 1),
  (⟨"SetHouseModel", "firstTurn", "()V"⟩, 1),
  (⟨"SetHouseModel", "flower", "(II)I"⟩, 1),
  (⟨"SetHouseModel", "goes", "(JIIII)Z"⟩, 1),
  (⟨"SetHouseModel", "greatest", "(III)I"⟩, 1),
  (⟨"SetHouseModel", "greatestBelow", "(II)I"⟩, 0),
  (⟨"SetHouseModel", "has", "(JI)Z"⟩, 0),
  (⟨"SetHouseModel", "has", "(II)I"⟩, 1),
  (⟨"SetHouseModel", "heft", "(I)I"⟩, 1),
  (⟨"SetHouseModel", "hinders", "(II)I"⟩, 1),
  (⟨"SetHouseModel", "holds", "(I)I"⟩, 1),
  (⟨"SetHouseModel", "holdsNow", "(IIIJ)I"⟩, 1),
  (⟨"SetHouseModel", "<init>", "(I)V"⟩, 2),
  (⟨"SetHouseModel", "is", "(III)I"⟩, 1),
  (⟨"SetHouseModel", "isIn", "(III)Z"⟩, 0),
  (⟨"SetHouseModel", "isKind", "(II)Z"⟩, 1),
  (⟨"SetHouseModel", "isPlace", "(I)Z"⟩, 0),
  (⟨"SetHouseModel", "isSet", "(I)Z"⟩, 1),
  (⟨"SetHouseModel", "isShattered", "(JI)Z"⟩, 1),
  (⟨"SetHouseModel", "isTurn", "(I)Z"⟩, 1),
  (⟨"SetHouseModel", "isWithin", "(II)Z"⟩, 0),
  (⟨"SetHouseModel", "lacking", "(II)I"⟩, 0),
  (⟨"SetHouseModel", "lacks", "(I)I"⟩, 1),
  (⟨"SetHouseModel", "least", "(II)I"⟩, 1),
  (⟨"SetHouseModel", "loose", "(I)I"⟩, 1),
  (⟨"SetHouseModel", "looseFrom", "(JII)I"⟩, 1),
  (⟨"SetHouseModel", "make", "(III)I"⟩, 1),
  (⟨"SetHouseModel", "many", "(J)I"⟩, 0),
  (⟨"SetHouseModel", "matters", "(II)I"⟩, 1),
  (⟨"SetHouseModel", "mix", "(IIII)I"⟩, 1),
  (⟨"SetHouseModel", "mostOf", "(JII)I"⟩, 1),
  (⟨"SetHouseModel", "nextTurn", "()Z"⟩, 1),
  (⟨"SetHouseModel", "number", "()I"⟩, 1),
  (⟨"SetHouseModel", "ones", "(I)I"⟩, 0),
  (⟨"SetHouseModel", "petal", "(I)I"⟩, 1),
  (⟨"SetHouseModel", "power", "(II)J"⟩, 0),
  (⟨"SetHouseModel", "product", "(II)I"⟩, 1),
  (⟨"SetHouseModel", "push", "(III)I"⟩, 1),
  (⟨"SetHouseModel", "pushed", "(I)I"⟩, 1),
  (⟨"SetHouseModel", "pushes", "(III)I"⟩, 1),
  (⟨"SetHouseModel", "put", "(IIJ)I"⟩, 1),
  (⟨"SetHouseModel", "rank", "(I)I"⟩, 1),
  (⟨"SetHouseModel", "ranked", "(II)I"⟩, 1),
  (⟨"SetHouseModel", "rest", "(IZI)I"⟩, 1),
  (⟨"SetHouseModel", "ring", "(III)I"⟩, 1),
  (⟨"SetHouseModel", "row", "(III)I"⟩, 1),
  (⟨"SetHouseModel", "same", "(II)I"⟩, 1),
  (⟨"SetHouseModel", "set", "(II)I"⟩, 1),
  (⟨"SetHouseModel", "shadow", "(II)I"⟩, 1),
  (⟨"SetHouseModel", "shadowOf", "(JZ)J"⟩, 1),
  (⟨"SetHouseModel", "shadows", "(IIZ)I"⟩, 1),
  (⟨"SetHouseModel", "shattered", "(II)I"⟩, 1),
  (⟨"SetHouseModel", "sized", "(JI)I"⟩, 1),
  (⟨"SetHouseModel", "staysLayer", "(I)V"⟩, 1),
  (⟨"SetHouseModel", "sum", "(I)I"⟩, 1),
  (⟨"SetHouseModel", "swap", "(II)V"⟩, 1),
  (⟨"SetHouseModel", "take", "(II)I"⟩, 1),
  (⟨"SetHouseModel", "thrown", "()I"⟩, 1),
  (⟨"SetHouseModel", "toss", "(I)I"⟩, 1),
  (⟨"SetHouseModel", "trace", "(III)I"⟩, 1),
  (⟨"SetHouseModel", "traceOf", "(JI)J"⟩, 1),
  (⟨"SetHouseModel", "turned", "(III)I"⟩, 1),
  (⟨"SetHouseModel", "turnedAll", "(J)J"⟩, 1),
  (⟨"SetHouseModel", "turnedSet", "(I)I"⟩, 1),
  (⟨"SetHouseModel", "turns", "(I)I"⟩, 1),
  (⟨"SetHouseModel", "up", "(II)I"⟩, 1),
  (⟨"SetHouseModel", "weight", "(III)J"⟩, 1),
  (⟨"SetHouse$Orders", "countTurnsFrom", "(JJII)I"⟩, 0),
  (⟨"SetHouse$Orders", "leastTurnFrom", "(JJIII)I"⟩, 0)]
def rx_ny (j : Nat) : MethodName := (rx_ms.getD j (⟨"", "", ""⟩, 9)).1
def rx_kd (j : Nat) : Nat := (rx_ms.getD j (⟨"", "", ""⟩, 9)).2
