/-! ===== Pictures and the machine's heap ===== -/
/-- where the law's heap began, the script's cell, WITHOUT's, FACTORIALS'; class numbers and slots; the array classes; the heap at the start; the script -/
abbrev rx_G : Type := Nat × Nat × Nat × Nat × va_G × (ClassId × ClassId × ClassId) × Heap × (Nat × (Nat → Int32))
abbrev rx_base (G : rx_G) : Nat := G.1
abbrev rx_ab (G : rx_G) : Nat := G.2.1
abbrev rx_aw (G : rx_G) : Nat := G.2.2.1
abbrev rx_af (G : rx_G) : Nat := G.2.2.2.1
abbrev rx_D (G : rx_G) : va_G := G.2.2.2.2.1
abbrev rx_cI (G : rx_G) : ClassId := G.2.2.2.2.2.1.1
abbrev rx_cJ (G : rx_G) : ClassId := G.2.2.2.2.2.1.2.1
abbrev rx_cP (G : rx_G) : ClassId := G.2.2.2.2.2.1.2.2
abbrev rx_H0 (G : rx_G) : Heap := G.2.2.2.2.2.2.1
abbrev rx_sc (G : rx_G) : Nat × (Nat → Int32) := G.2.2.2.2.2.2.2
def rx_ad (G : rx_G) (k : Nat) : Nat := if k = 1000000 then rx_ab G else if k = 1000001 then rx_aw G else if k = 1000002 then rx_af G else rx_base G + k
def rx_ev (G : rx_G) : Value → Value
  | .ref k => .ref (rx_ad G k)
  | v => v
theorem rx_ad_lt (G : rx_G) {k : Nat} (h : k < 1000000) : rx_ad G k = rx_base G + k := by
  unfold rx_ad
  rw [if_neg (by omega), if_neg (by omega), if_neg (by omega)]
theorem rx_ev_cat (G : rx_G) (v : Value) : (rx_ev G v).category = v.category := by cases v <;> rfl
theorem rx_cat_eq (G : rx_G) (st : List Value) : ((st.map (rx_ev G)).map fun v => v.category).sum = rx_cat st := by
  induction st with
  | nil => rfl
  | cons v st ih =>
    simp only [List.map_cons, List.sum_cons, ih, rx_ev_cat]
    cases v <;> simp [rx_cat, Value.category] <;> omega
def rx_at (G : rx_G) (c : rx_C) (a : Nat) (H : Heap) : Prop := match c with
  | .inl (n, .inl f) => H[a]? = some (arrV (rx_cI G) n (fun j => .int (f j)))
  | .inl (n, .inr (.inl f)) => H[a]? = some (arrV (rx_cJ G) n (fun j => .long (f j)))
  | .inl (n, .inr (.inr (.inr (.inr f)))) => H[a]? = some (arrV (rx_cP G) n (fun j => va_rf ((f j).map (rx_ad G))))
  | .inl _ => True
  | .inr (ci, fs) => ∃ r : vw_C, rx_cl[ci]? = some r ∧ fs.length = r.2.2 ∧ t_OB a ((rx_D G).1 ci) r.2.2 ((rx_D G).2 ci) H (vp_V (fs.map (rx_ev G)))
theorem rx_at.kept {G : rx_G} {c : rx_C} {a : Nat} {H H1 : Heap} (h : rx_at G c a H) (hq : H1[a]? = H[a]?) : rx_at G c a H1 := by
  unfold rx_at at h ⊢
  split at h
  · rw [hq]; exact h
  · rw [hq]; exact h
  · rw [hq]; exact h
  · trivial
  · obtain ⟨r, h1, h2, h3⟩ := h
    exact ⟨r, h1, h2, h3.kept hq⟩
def rx_R (G : rx_G) (h : rx_H) (H : Heap) : Prop := (∀ (k : Nat) (c : rx_C), h.2[k]? = some c → rx_at G c (rx_base G + k) H) ∧ H.size = rx_base G + h.2.length ∧ h.2.length ≤ 999999 ∧ (∀ q, q < rx_base G → H[q]? = (rx_H0 G)[q]?) ∧ h.1 = rx_sc G
/-- one cell is another one -/
theorem rx_R.set {G : rx_G} {h : rx_H} {H H1 : Heap} (hR : rx_R G h H) {r : Nat} {c c1 : rx_C} (hr : h.2[r]? = some c) (hc : rx_at G c1 (rx_base G + r) H1) (hz : H1.size = H.size) (ho : ∀ q, q ≠ rx_base G + r → H1[q]? = H[q]?) : rx_R G (h.1, h.2.set r c1) H1 := by
  obtain ⟨h1, h2, h3, h4, h5⟩ := hR
  refine ⟨fun k c2 hk => ?_, by rw [hz, h2]; simp, by simpa using h3, fun q hq => by rw [ho q (by omega)]; exact h4 q hq, h5⟩
  by_cases hkr : r = k
  · subst hkr
    have hlt := (List.getElem?_eq_some_iff.mp hr).1
    simp only [List.getElem?_set_self hlt] at hk
    cases hk
    exact hc
  · simp only [List.getElem?_set_ne hkr] at hk
    exact (h1 k c2 hk).kept (ho _ (by omega))
/-- a cell more -/
theorem rx_R.push {G : rx_G} {h : rx_H} {H H1 : Heap} (hR : rx_R G h H) {c1 : rx_C} (hl : h.2.length < 999999) (hc : rx_at G c1 (rx_base G + h.2.length) H1) (hz : H1.size = H.size + 1) (ho : ∀ q, q < H.size → H1[q]? = H[q]?) : rx_R G (h.1, h.2 ++ [c1]) H1 := by
  obtain ⟨h1, h2, h3, h4, h5⟩ := hR
  refine ⟨fun k c2 hk => ?_, by rw [hz, h2]; simp; omega, by simp; omega, fun q hq => by rw [ho q (by omega)]; exact h4 q hq, h5⟩
  by_cases hkl : k < h.2.length
  · rw [List.getElem?_append_left hkl] at hk
    exact (h1 k c2 hk).kept (ho _ (by omega))
  · rw [List.getElem?_append_right (by omega)] at hk
    have hz1 : k - h.2.length < 1 := (List.getElem?_eq_some_iff.mp hk).1
    have he : k = h.2.length := by omega
    subst he
    simp at hk
    subst hk
    exact hc
def rx_tys (G : rx_G) : List (ClassId × FieldType) := [(rx_cI G, .int), (rx_cJ G, .long), (rx_cP G, .object "SetHouse$Place")]
def rx_yP : MethodName := ⟨"SetHouse$Place", "<init>", "()V"⟩
def rx_yS : MethodName := ⟨"SetHouse$Seeker", "<init>", "()V"⟩
/-- an array that was there before -/
def rx_old (G : rx_G) (a : Nat) (ty : FieldType) (n : Nat) (f : Nat → Value) (U : State) : Prop := a < rx_base G ∧ ∃ scr : Cell, (rx_H0 G)[a]? = some scr ∧ U.isArrayOf scr ty ∧ scr.vm ≠ .unknown ∧ (n ≤ scr.slots.size ∧ scr.slots.size.toInt32 = Int32.ofNat n) ∧ ∀ j, j < n → scr.slots[j]? = some (f j)
/-- words that a throw takes, and that hold on though they aren't among rx_TB -/
def rx_TE : List Cond := lw_tbl.filter (fun w => w.onTables && w.keepsFace)
theorem rx_te {w : Cond} {i : Nat} (h : lw_tbl[i]? = some w) (hg : (w.onTables && w.keepsFace) = true) : w ∈ rx_TE := List.mem_filter.mpr ⟨List.mem_of_getElem? h, hg⟩
/-- what a throw takes: words, the two statics of Throwable, the four texts; one class of exceptions is not the other -/
def rx_KE (G : rx_G) (U : State) : Prop := (∀ w ∈ rx_TE, va_Nw w U) ∧ vx_Zq Bundle.tN "UNASSIGNED_STACK" Bundle.steD (fun q => rx_base G ≤ q) U (rx_H0 G) ∧ vx_Zq Bundle.tN "SUPPRESSED_SENTINEL" Bundle.listD (fun q => rx_base G ≤ q) U (rx_H0 G) ∧
  (∃ a, vk_R "SetHouse$Kinds" 91 "the FAILURE of a FAMILY that has a t" a U) ∧ (∃ a, vk_R "SetHouse" 250 "no such PLACE" a U) ∧ (∃ a, vk_R "SetHouse" 261 "no ROW there" a U) ∧ (∃ a, vk_R "SetHouse" 264 "the ROW has no such place" a U) ∧
  va_Nc "java/lang/IllegalStateException" "java/lang/IllegalArgumentException" U
theorem rx_KE.warm {G : rx_G} {s U : State} (hW : s.WarmedH U.vm) (h : rx_KE G s) : rx_KE G U := by
  obtain ⟨h1, h2, h3, ⟨a4, h4⟩, ⟨a5, h5⟩, ⟨a6, h6⟩, ⟨a7, h7⟩, h8⟩ := h
  refine ⟨fun w hw => ?_, h2.moved hW.alike, h3.moved hW.alike, ⟨a4, h4.warm hW⟩, ⟨a5, h5.warm hW⟩, ⟨a6, h6.warm hW⟩, ⟨a7, h7.warm hW⟩, h8.moved hW.alike⟩
  have hg := (List.mem_filter.mp hw).2
  rw [Bool.and_eq_true] at hg
  exact va_tabs hg.1 (rfl : (s.setVm U.vm).vm = U.vm) (Cond.before_shiftedFace (State.Shifted.of_warmed hW) w hg.2 (h1 w hw))
theorem rx_KE.same {G : rx_G} {s U : State} (hv : s.vm = U.vm) (h : rx_KE G s) : rx_KE G U := by
  obtain ⟨h1, h2, h3, ⟨a4, h4⟩, ⟨a5, h5⟩, ⟨a6, h6⟩, ⟨a7, h7⟩, h8⟩ := h
  have ha : s.vm.Alike U.vm := by rw [hv]; exact Vm.Alike.refl _
  refine ⟨fun w hw => ?_, h2.moved ha, h3.moved ha, ⟨a4, h4.same hv.symm⟩, ⟨a5, h5.same hv.symm⟩, ⟨a6, h6.same hv.symm⟩, ⟨a7, h7.same hv.symm⟩, h8.moved ha⟩
  have hg := (List.mem_filter.mp hw).2
  rw [Bool.and_eq_true] at hg
  exact va_Nw.same hg.1 hv (h1 w hw)
def rx_Ks (G : rx_G) (U : State) : Prop := va_K (rx_D G) rx_cl (rx_tys G) U ∧ rx_old G (rx_ab G) .int (rx_sc G).1 (fun j => .int ((rx_sc G).2 j)) U ∧ (rx_H0 G).size = rx_base G ∧
  va_Z "SetHouse$Heap" "WITHOUT" "[J" (.ref (rx_aw G)) (fun q => rx_base G ≤ q) U (rx_H0 G) ∧ rx_old G (rx_aw G) .long 6 (fun j => .long (rx_W.getD j 0)) U ∧
  va_Z "SetHouse$Numbers" "FACTORIALS" "[I" (.ref (rx_af G)) (fun q => rx_base G ≤ q) U (rx_H0 G) ∧ rx_old G (rx_af G) .int 7 (fun j => .int (rx_F.getD j 0)) U ∧
  va_Nw (.methodLinkNest "SetHouse" 28 rx_yP "SetHouse") U ∧ va_Nw (.methodLinkNest "SetHouse" 41 rx_yS "SetHouse") U ∧ va_AO "SetHouse$Place" U ∧ rx_KE G U
theorem rx_old.moved {G : rx_G} {a n : Nat} {ty : FieldType} {f : Nat → Value} {u U : State} (hvm : u.vm.Alike U.vm) (h : rx_old G a ty n f u) : rx_old G a ty n f U := by
  obtain ⟨h0, scr, h1, h2, h3⟩ := h
  exact ⟨h0, scr, h1, State.isArrayOf_alike hvm h2, h3⟩
theorem rx_Ks.warm {G : rx_G} {s U : State} (hW : s.WarmedH U.vm) (h : rx_Ks G s) : rx_Ks G U := by
  obtain ⟨h1, h2, h3, h4, h5, h6, h7, h8, h9, h10, h11⟩ := h
  have ha := hW.alike
  exact ⟨h1.moved ha, h2.moved ha, h3, h4.moved ha, h5.moved ha, h6.moved ha, h7.moved ha, va_Nw.warmM hW h8, va_Nw.warmM hW h9, h10.moved ha, h11.warm hW⟩
theorem rx_Ks.same {G : rx_G} {s U : State} (hv : s.vm = U.vm) (h : rx_Ks G s) : rx_Ks G U := by
  obtain ⟨h1, h2, h3, h4, h5, h6, h7, h8, h9, h10, h11⟩ := h
  have ha : s.vm.Alike U.vm := by rw [hv]; exact Vm.Alike.refl _
  exact ⟨h1.moved ha, h2.moved ha, h3, h4.moved ha, h5.moved ha, h6.moved ha, h7.moved ha, va_Nw.same rfl hv h8, va_Nw.same rfl hv h9, h10.moved ha, h11.same hv⟩
/-! locals -/
def rx_lo (G : rx_G) (ls : Array Slot) (nL : Nat) (als : rx_L) : Prop := als.length = nL ∧ ls.size = nL ∧ lv_wf ls ∧ ∀ (i : Nat) (v : Value), als[i]? = some (some v) → ls[i]? = some (.val (rx_ev G v))
def rx_ll (G : rx_G) (als : rx_L) : List (Nat × Value) := (List.range als.length).filterMap fun i => match als[i]? with
  | some (some v) => some (i, rx_ev G v)
  | _ => none
theorem rx_ll_mem {G : rx_G} {als : rx_L} {i : Nat} {v : Value} (h : als[i]? = some (some v)) : (i, rx_ev G v) ∈ rx_ll G als := by
  refine List.mem_filterMap.mpr ⟨i, List.mem_range.mpr (List.getElem?_eq_some_iff.mp h).1, ?_⟩
  rw [h]
theorem rx_lo.has {G : rx_G} {ls : Array Slot} {nL : Nat} {als : rx_L} (h : rx_lo G ls nL als) : lv_has ls nL (rx_ll G als) := by
  obtain ⟨h0, h1, h2, h3⟩ := h
  refine ⟨h1, h2, fun q hq => ?_⟩
  obtain ⟨i, -, hi⟩ := List.mem_filterMap.mp hq
  split at hi
  · next v hv => cases hi; exact h3 i v hv
  · cases hi
theorem rx_lg_some {als : rx_L} {i : Nat} {v : Value} (h : rx_lg als i = some v) : als[i]? = some (some v) := by
  unfold rx_lg at h
  split at h
  · next w hw => cases h; exact hw
  · cases h
theorem rx_kill_len (als : rx_L) (i : Nat) : (rx_kill als i).length = als.length := by
  unfold rx_kill
  split
  · rfl
  · split <;> simp
theorem rx_kill_get {als : rx_L} {i j : Nat} {v : Value} (h : (rx_kill als i)[j]? = some (some v)) : als[j]? = some (some v) ∧ ¬ (j + 1 = i ∧ v.category = 2) := by
  unfold rx_kill at h
  split at h
  · exact ⟨h, fun q => by omega⟩
  · next j0 =>
    split at h
    · by_cases hj : j0 = j
      · subst hj
        exfalso
        rw [List.getElem?_set] at h
        simp at h
      · rw [List.getElem?_set_ne hj] at h
        exact ⟨h, fun q => hj (by omega)⟩
    · by_cases hj : j0 = j
      · subst hj
        exfalso
        rw [List.getElem?_set] at h
        simp at h
      · rw [List.getElem?_set_ne hj] at h
        exact ⟨h, fun q => hj (by omega)⟩
    · next n1 n2 =>
      refine ⟨h, fun q => ?_⟩
      have hj : j0 = j := by omega
      subst hj
      cases v with
      | long x => exact n1 x h
      | double x => exact n2 x h
      | _ => simp [Value.category] at q
theorem rx_s1_ok {G : rx_G} {ls' : Array Slot} {nL i : Nat} {als : rx_L} {v : Value} (hn : als.length = nL) (hi : i < nL) (h : lv_has ls' nL ((i, rx_ev G v) :: (rx_ll G als).filter (fun q => !(q.1 == i) && !(q.1 + 1 == i && q.2.category == 2)))) : rx_lo G ls' nL (rx_s1 als i v) := by
  obtain ⟨h1, h2, h3⟩ := h
  refine ⟨by simp [rx_s1, rx_kill_len, hn], h1, h2, fun j w hw => ?_⟩
  unfold rx_s1 at hw
  by_cases hj : i = j
  · subst hj
    rw [List.getElem?_set_self (by rw [rx_kill_len]; omega)] at hw
    cases hw
    exact h3 _ List.mem_cons_self
  · rw [List.getElem?_set_ne hj] at hw
    obtain ⟨g1, g2⟩ := rx_kill_get hw
    refine h3 (j, rx_ev G w) (List.mem_cons_of_mem _ (List.mem_filter.mpr ⟨rx_ll_mem g1, ?_⟩))
    have hj2 : ¬ j = i := fun q => hj q.symm
    simp [rx_ev_cat, hj2]
    by_cases q1 : j + 1 = i
    · exact Or.inr fun q2 => g2 ⟨q1, q2⟩
    · exact Or.inl q1
theorem rx_s2_ok {G : rx_G} {ls' : Array Slot} {nL i : Nat} {als : rx_L} {v : Value} (hn : als.length = nL) (hi : i + 1 < nL) (h : lv_has ls' nL ((i, rx_ev G v) :: (rx_ll G als).filter (fun q => !(q.1 == i) && (!(q.1 == i + 1) && !(q.1 + 1 == i && q.2.category == 2))))) : rx_lo G ls' nL (rx_s2 als i v) := by
  obtain ⟨h1, h2, h3⟩ := h
  refine ⟨by simp [rx_s2, rx_kill_len, hn], h1, h2, fun j w hw => ?_⟩
  unfold rx_s2 at hw
  by_cases hj1 : i + 1 = j
  · subst hj1
    exfalso
    rw [List.getElem?_set] at hw
    simp at hw
  rw [List.getElem?_set_ne hj1] at hw
  by_cases hj : i = j
  · subst hj
    rw [List.getElem?_set_self (by rw [rx_kill_len]; omega)] at hw
    cases hw
    exact h3 _ List.mem_cons_self
  · rw [List.getElem?_set_ne hj] at hw
    obtain ⟨g1, g2⟩ := rx_kill_get hw
    refine h3 (j, rx_ev G w) (List.mem_cons_of_mem _ (List.mem_filter.mpr ⟨rx_ll_mem g1, ?_⟩))
    have hj2 : ¬ j = i := fun q => hj q.symm
    have hj3 : ¬ j = i + 1 := fun q => hj1 q.symm
    simp [rx_ev_cat, hj2, hj3]
    by_cases q1 : j + 1 = i
    · exact Or.inr fun q2 => g2 ⟨q1, q2⟩
    · exact Or.inl q1
/-- less is known of the locals -/
def rx_le (a b : rx_L) : Prop := a.length = b.length ∧ ∀ (i : Nat) (v : Value), a[i]? = some (some v) → b[i]? = some (some v)
theorem rx_lo.le {G : rx_G} {ls : Array Slot} {nL : Nat} {a b : rx_L} (h : rx_lo G ls nL b) (hl : rx_le a b) : rx_lo G ls nL a := ⟨hl.1.trans h.1, h.2.1, h.2.2.1, fun i v hi => h.2.2.2 i v (hl.2 i v hi)⟩
/-! how many slots -/
def rx_sl1 : rx_C → Nat
  | .inl a => a.1
  | .inr o => o.2.length
def rx_sl (h : rx_H) : Nat := (h.2.map rx_sl1).sum
theorem rx_sl_set {h : rx_H} {r : Nat} {c c1 : rx_C} (hr : h.2[r]? = some c) (he : rx_sl1 c1 = rx_sl1 c) : rx_sl (h.1, h.2.set r c1) = rx_sl h := by
  obtain ⟨sc, cs⟩ := h
  unfold rx_sl
  dsimp only at hr ⊢
  induction cs generalizing r with
  | nil => simp at hr
  | cons x xs ih =>
    cases r with
    | zero =>
      simp at hr
      subst hr
      simp [he]
    | succ r =>
      simp at hr
      have h2 := ih hr
      simp only [List.set_cons_succ, List.map_cons, List.sum_cons, h2]
theorem rx_sl_push (h : rx_H) (c1 : rx_C) : rx_sl (h.1, h.2 ++ [c1]) = rx_sl h + rx_sl1 c1 := by
  unfold rx_sl
  simp
