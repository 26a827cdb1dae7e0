/-! ===== Fields, arrays, new cells ===== -/
theorem rx_lin {a : Nat} {q : vw_C} (h : rx_cl[a]? = some q) : ∀ w ∈ u_ws q.1 q.2.1 q.2.2, w ∈ rx_TB := by
  match a, h with
  | 0, h => cases h; exact rx_l0
  | 1, h => cases h; exact rx_l1
  | 2, h => cases h; exact rx_l2
  | 3, h => cases h; exact rx_l3
  | n + 4, h => simp [rx_cl] at h
theorem rx_yok {a : Nat} {q : vw_C} (h : rx_cl[a]? = some q) : ∀ k, k < q.2.2 → parseFieldDescriptor (q.2.1 k).2.2.1 = some (rx_ty a k) := by
  match a, h with
  | 0, h => cases h; exact rx_yo0
  | 1, h => cases h; exact rx_yo1
  | 2, h => cases h; exact rx_yo2
  | 3, h => cases h; exact rx_yo3
  | n + 4, h => simp [rx_cl] at h
theorem rx_nok {a : Nat} {q : vw_C} (h : rx_cl[a]? = some q) : ∀ x, x < q.2.2 → ∀ y, y < q.2.2 → x ≠ y → (q.2.1 x).2.1 ≠ (q.2.1 y).2.1 := by
  match a, h with
  | 0, h => cases h; exact rx_n0
  | 1, h => cases h; exact rx_n1
  | 2, h => cases h; exact rx_n2
  | 3, h => cases h; exact rx_n3
  | n + 4, h => simp [rx_cl] at h
theorem rx_fd_some {u : Option rx_H} {r c k : Nat} {v : Value} (h : rx_fd u r c k = some v) : ∃ (h0 : rx_H) (fs : List Value), u = some h0 ∧ h0.2[r]? = some (.inr (c, fs)) ∧ fs[k]? = some v := by
  unfold rx_fd at h
  split at h
  · cases h
  · next h0 =>
    split at h
    · next c' fs hc =>
      split at h
      · next he => subst he; exact ⟨h0, fs, rfl, hc, h⟩
      · cases h
    · cases h
theorem rx_lt6 {h : rx_H} {G : rx_G} {H : Heap} (hR : rx_R G h H) {r : Nat} {c : rx_C} (hr : h.2[r]? = some c) : r < 1000000 := by
  have h1 := (List.getElem?_eq_some_iff.mp hr).1
  have h2 := hR.2.2.1
  omega
section rxH
variable {Z : rx_Z} {pc : Nat} {als : rx_L} {st : List Value} {u u' : Option rx_H}
theorem rx_t_getf (F : rx_Fr Z) {i a k r : Nat} {v : Value} {q : vw_C} (hc : rx_cl[a]? = some q) (hk : k < q.2.2) (hw : Cond.fieldLink (zo Z) i (q.2.1 k).1 (q.2.1 k).2.1 (q.2.1 k).2.2.1 ∈ rx_TB) (hf : rx_fd u r a k = some v) (hd : decode (zcc Z) pc = .ok (.getfield i, 3)) (kk : rx_WS Z (pc + 3) als (v :: st) u) : rx_WS Z pc als (.ref r :: st) u := by
  obtain ⟨h0, fs, rfl, hr, hv⟩ := rx_fd_some hf
  intro H ls locs h1 h2 h3
  have hk2 := kk H ls locs h1 h2 h3
  have hR : rx_R (zG Z) h0 H := h1
  obtain ⟨q', hq', hlen, cell, q1, q2, q3, q4⟩ := hR.1 r _ hr
  cases hc.symm.trans hq'
  obtain ⟨hS, hfc, kC, hkC, hkind⟩ := F.2.2.2.2.2.1.1.1 a _ hc
  obtain ⟨cf, kf, fi, f, hi, hsl⟩ := hS k hk
  show W _ _ _ _ _ _ _ _ _ _ H locs _ _ _ (F0 _ pc ls (.ref (rx_ad (zG Z) r) :: st.map (rx_ev (zG Z))))
  rw [rx_ad_lt _ (rx_lt6 hR hr)]
  refine W.getf F.1 F.2.1 F.2.2.2.1 (F.2.2.2.2.1 _ hw) hi (u_facts hfc hkC (u_lays F.2.2.2.2.1 (rx_lin hc) hk) hi).1 q1 (by rw [q3]; exact fun h => by cases h) (v := rx_ev (zG Z) v) ?_ rfl rfl hd hk2
  rw [hsl, q4 k hk]
  simp [vp_V, hv]
theorem rx_t_put (F : rx_Fr Z) {i a k r : Nat} {v : Value} {q : vw_C} (hc : rx_cl[a]? = some q) (hk : k < q.2.2) (hw : Cond.fieldLink (zo Z) i (q.2.1 k).1 (q.2.1 k).2.1 (q.2.1 k).2.2.1 ∈ rx_TB) (hn : narrow (rx_ty a k) (rx_ev (zG Z) v) = rx_ev (zG Z) v) (hfit : fits (rx_ty a k) (rx_ev (zG Z) v) = true) (hfin : (q.2.1 k).2.2.2 = false ∨ (zi Z = true ∧ (q.2.1 k).1 = zo Z))
    (hp : rx_p u r a k v = some u') (hd : decode (zcc Z) pc = .ok (.putfield i, 3)) (kk : rx_O Z (pc + 3) als st u') : rx_O Z pc als (v :: .ref r :: st) u := by
  unfold rx_p at hp
  split at hp
  · cases hp
  next h0 =>
  split at hp
  case h_2 => cases hp
  next c' fs hr =>
  split at hp
  case isFalse => cases hp
  next hcl =>
  obtain ⟨rfl, hl⟩ := hcl
  cases hp
  have el : (h0.2.set r (.inr (c', fs.set k v))).length = h0.2.length := by simp
  have es : rx_sl (h0.1, h0.2.set r (.inr (c', fs.set k v))) = rx_sl h0 := rx_sl_set hr (by simp [rx_sl1])
  intro g1 g2
  obtain ⟨g3, g4⟩ := kk (by show zn0 Z ≤ (h0.2.set r _).length; rw [el]; exact g1) (by show zs0 Z ≤ rx_sl (h0.1, h0.2.set r _); rw [es]; exact g2)
  refine ⟨⟨by show h0.2.length ≤ _; rw [← el]; exact g3.1, by show rx_sl h0 ≤ _; rw [← es]; exact g3.2⟩, ?_⟩
  intro H ls locs h1 h2 h3
  have hR : rx_R (zG Z) h0 H := h1
  obtain ⟨q', hq', hlen, cell, q1, q2, q3, q4⟩ := hR.1 r _ hr
  cases hc.symm.trans hq'
  have hK := F.2.2.2.2.2.1.1
  have hts := F.2.2.2.2.1
  obtain ⟨hS, hfc, kC, hkC, hkind⟩ := hK.1 c' _ hc
  obtain ⟨cf, kf, fi, f, hi, hsl⟩ := hS k hk
  have hap := va_apart (own := zo Z) hts (rx_lin hc) (rx_ty c') (rx_yok hc) (rx_nok hc) hK hc
  have hst := (u_facts hfc hkC (u_lays hts (rx_lin hc) hk) hi).1
  have hlay := hts _ (rx_lin hc _ (u_in_lay hk))
  show W _ _ _ _ _ _ _ _ _ _ H locs _ _ _ (F0 _ pc ls (rx_ev (zG Z) v :: .ref (rx_ad (zG Z) r) :: st.map (rx_ev (zG Z))))
  rw [rx_ad_lt _ (rx_lt6 hR hr)]
  have fin : ∀ H' : Heap, H'[rx_base (zG Z) + r]? = some (cell.setSlot f.slot (rx_ev (zG Z) v)) → H'.size = H.size → (∀ q, q ≠ rx_base (zG Z) + r → H'[q]? = H[q]?) →
      zW Z H' (locs ++ [⟨rx_base (zG Z) + r, f.slot⟩]) (h0.2.length - zn0 Z) (rx_sl h0 - zs0 Z) (F0 (zM Z) (pc + 3) ls (st.map (rx_ev (zG Z)))) := by
    intro H' e1 e2 e3
    rw [hsl] at e1
    have hc1 : rx_at (zG Z) (.inr (c', fs.set k v)) (rx_base (zG Z) + r) H' := by
      refine ⟨_, hc, by simpa using hlen, t_OB.to (V := updV (vp_V (fs.map (rx_ev (zG Z)))) k (rx_ev (zG Z) v)) ⟨_, e1, q2, q3, t_set q4 hap hk _⟩ (fun j _ => ?_)⟩
      rw [vp_updV_set (by simpa using hl), List.map_set]
    have := g4 H' ls (locs ++ [⟨rx_base (zG Z) + r, f.slot⟩]) (hR.set hr hc1 e2 e3) h2 (t_lc h3 (Nat.le_add_right _ _))
    have e5 : (rx_u Z (some (h0.1, h0.2.set r (.inr (c', fs.set k v))))).2.length = h0.2.length := el
    have e6 : rx_sl (rx_u Z (some (h0.1, h0.2.set r (.inr (c', fs.set k v))))) = rx_sl h0 := es
    rw [e5, e6] at this
    exact this
  by_cases hff : (q.2.1 k).2.2.2 = false
  · unfold u_lay at hlay
    rw [if_neg (by rw [hff]; decide)] at hlay
    have h6 := u_store hfc hkC hkind hlay hi (rx_yok hc k hk) hn hfit
    exact W.putK F.1 F.2.1 (f := f) ⟨F.2.2.2.1, hts _ hw, ⟨_, _, _, hi⟩, hst⟩ (by rw [q2]; exact h6) q1 q3 (by rw [hsl]; exact k2_hasslot (q4 k hk)) rfl rfl hd fin
  · have hft : (q.2.1 k).2.2.2 = true := by simpa using hff
    rcases hfin with hfin | ⟨hini, hdecl⟩
    · exact absurd hfin hff
    unfold u_lay at hlay
    rw [if_pos hft] at hlay
    have hcf : (zM Z).cls = cf := by
      obtain ⟨_, _, c2, _, _, _, -, -, hf', -, -, -, hown2, -⟩ := Cond.laysFinal_spec hlay
      have e1 : c2 = cf := by have := hi.symm.trans hf'; simp at this; exact this.1.symm
      rw [hdecl] at hown2
      rw [← e1]; exact Option.some.inj (F.2.2.2.1.symm.trans hown2)
    have h6 := u_fits hfc hkC hkind (Or.inr hlay) hi (rx_yok hc k hk) hn hfit
    exact W.putFinK F.1 F.2.1 F.2.2.2.1 (hts _ hw) hi hst hcf (F.2.2.2.2.2.2.1 hini) (by rw [q2]; exact h6) q1 q3 (by rw [hsl]; exact k2_hasslot (q4 k hk)) rfl rfl hd fin
/-- an array that was there before -/
theorem rx_oldAt {G : rx_G} {a n : Nat} {ty : FieldType} {f : Nat → Value} {U : State} {h : rx_H} {H : Heap} (ho : rx_old G a ty n f U) (hR : rx_R G h H) : ∃ scr : Cell, H[a]? = some scr ∧ U.isArrayOf scr ty ∧ scr.vm ≠ .unknown ∧ (n ≤ scr.slots.size ∧ scr.slots.size.toInt32 = Int32.ofNat n) ∧ ∀ j, j < n → scr.slots[j]? = some (f j) := by
  obtain ⟨hl, scr, h1, h2⟩ := ho
  exact ⟨scr, by rw [hR.2.2.2.1 a hl]; exact h1, h2⟩
theorem rx_t_iald (F : rx_Fr Z) {i x : Int32} {r : Nat} (hx : rx_aI u r i = some x) (hd : decode (zcc Z) pc = .ok (.iaload, 1)) (kk : rx_WS Z (pc + 1) als (.int x :: st) u) : rx_WS Z pc als (.int i :: .ref r :: st) u := by
  intro H ls locs h1 h2 h3
  have hk2 := kk H ls locs h1 h2 h3
  show W _ _ _ _ _ _ _ _ _ _ H locs _ _ _ (F0 _ pc ls (.int i :: .ref (rx_ad (zG Z) r) :: st.map (rx_ev (zG Z))))
  unfold rx_aI at hx
  split at hx
  · next hr =>
    subst hr
    split at hx
    · cases hx
    next hi =>
    obtain ⟨scr, e1, e2, e3, e4, e5⟩ := rx_oldAt F.2.2.2.2.2.1.2.2.2.2.2.2.1 h1
    have hlt : i.toNatClampNeg < 7 := (List.getElem?_eq_some_iff.mp hx).1
    have hg : rx_F.getD i.toNatClampNeg 0 = x := by rw [List.getD_eq_getElem?_getD, hx]; rfl
    have ha : rx_ad (zG Z) 1000002 = rx_af (zG Z) := rfl
    rw [ha]
    exact W.iald (v := .int x) F.1 F.2.1 e1 e2 e3 (by have e6 := e4.1; intro q; rcases q with q | q; exact hi q; omega) (by rw [e5 _ hlt, hg]) rfl rfl hd hk2
  · next hr2 =>
    split at hx
    · cases hx
    next h0 =>
    split at hx
    · next hr =>
      subst hr
      split at hx
      · cases hx
      next hi =>
      cases hx
      have hR : rx_R (zG Z) h0 H := h1
      obtain ⟨scr, e1, e2, e3, e4, e5⟩ := rx_oldAt F.2.2.2.2.2.1.2.1 h1
      have ha : rx_ad (zG Z) 1000000 = rx_ab (zG Z) := rfl
      rw [ha]
      rw [hR.2.2.2.2] at hi hk2
      have hlt : i.toNatClampNeg < (rx_sc (zG Z)).1 := Nat.not_le.mp fun q => hi (Or.inr q)
      exact W.iald F.1 F.2.1 e1 e2 e3 (by have e6 := e4.1; intro q; rcases q with q | q; exact hi (Or.inl q); exact hi (Or.inr (by omega))) (e5 _ hlt) rfl rfl hd hk2
    · next hr1 =>
      split at hx
      · next n f hc =>
        split at hx
        · cases hx
        next hi =>
        cases hx
        have hR : rx_R (zG Z) h0 H := h1
        rw [rx_ad_lt _ (rx_lt6 hR hc)]
        have hlt : i.toNatClampNeg < n := Nat.not_le.mp fun q => hi (Or.inr q)
        exact W.iald F.1 F.2.1 (hR.1 r _ hc) ((F.2.2.2.2.2.1.1.2 0 _ rfl).1 n (fun j => .int (f j))) (fun q => by cases q) (by rw [arrV_size]; exact hi) (arrV_read _ _ hlt) rfl rfl hd hk2
      · cases hx
theorem rx_t_lald (F : rx_Fr Z) {i : Int32} {x : Int64} {r : Nat} (hx : rx_aJ u r i = some x) (hd : decode (zcc Z) pc = .ok (.laload, 1)) (kk : rx_WS Z (pc + 1) als (.long x :: st) u) : rx_WS Z pc als (.int i :: .ref r :: st) u := by
  intro H ls locs h1 h2 h3
  have hk2 := kk H ls locs h1 h2 h3
  show W _ _ _ _ _ _ _ _ _ _ H locs _ _ _ (F0 _ pc ls (.int i :: .ref (rx_ad (zG Z) r) :: st.map (rx_ev (zG Z))))
  unfold rx_aJ at hx
  split at hx
  · next hr =>
    subst hr
    split at hx
    · cases hx
    next hi =>
    obtain ⟨scr, e1, e2, e3, e4, e5⟩ := rx_oldAt F.2.2.2.2.2.1.2.2.2.2.1 h1
    have hlt : i.toNatClampNeg < 6 := (List.getElem?_eq_some_iff.mp hx).1
    have hg : rx_W.getD i.toNatClampNeg 0 = x := by rw [List.getD_eq_getElem?_getD, hx]; rfl
    have ha : rx_ad (zG Z) 1000001 = rx_aw (zG Z) := rfl
    rw [ha]
    exact W.lald (v := .long x) F.1 F.2.1 e1 e2 e3 (by have e6 := e4.1; intro q; rcases q with q | q; exact hi q; omega) (by rw [e5 _ hlt, hg]) rfl rfl hd hk2
  · split at hx
    · cases hx
    next h0 =>
    split at hx
    · next n f hc =>
      split at hx
      · cases hx
      next hi =>
      cases hx
      have hR : rx_R (zG Z) h0 H := h1
      rw [rx_ad_lt _ (rx_lt6 hR hc)]
      have hlt : i.toNatClampNeg < n := Nat.not_le.mp fun q => hi (Or.inr q)
      exact W.lald F.1 F.2.1 (hR.1 r _ hc) ((F.2.2.2.2.2.1.1.2 1 _ rfl).1 n (fun j => .long (f j))) (fun q => by cases q) (by rw [arrV_size]; exact hi) (arrV_read _ _ hlt) rfl rfl hd hk2
    · cases hx
theorem rx_t_aald (F : rx_Fr Z) {i : Int32} {x : Nat} {r : Nat} (hx : rx_aR u r i = some x) (hd : decode (zcc Z) pc = .ok (.aaload, 1)) (kk : rx_WS Z (pc + 1) als (.ref x :: st) u) : rx_WS Z pc als (.int i :: .ref r :: st) u := by
  intro H ls locs h1 h2 h3
  have hk2 := kk H ls locs h1 h2 h3
  show W _ _ _ _ _ _ _ _ _ _ H locs _ _ _ (F0 _ pc ls (.int i :: .ref (rx_ad (zG Z) r) :: st.map (rx_ev (zG Z))))
  unfold rx_aR at hx
  split at hx
  · cases hx
  next h0 =>
  split at hx
  · next n f hc =>
    split at hx
    · cases hx
    next hi =>
    have hR : rx_R (zG Z) h0 H := h1
    rw [rx_ad_lt _ (rx_lt6 hR hc)]
    have hlt : i.toNatClampNeg < n := Nat.not_le.mp fun q => hi (Or.inr q)
    have hA := (F.2.2.2.2.2.1.1.2 2 _ rfl).1
    exact W.aald (v := .ref (rx_ad (zG Z) x)) F.1 F.2.1 (hR.1 r _ hc) (hA n (fun j => va_rf ((f j).map (rx_ad (zG Z))))) rfl (fun q => by cases q) (by rw [arrV_size]; exact hi) (by rw [arrV_read _ _ hlt, hx]; rfl) rfl rfl hd hk2
  · cases hx
theorem rx_t_len (F : rx_Fr Z) {x : Int32} {r : Nat} (hx : rx_len u r = some x) (hd : decode (zcc Z) pc = .ok (.arraylength, 1)) (kk : rx_WS Z (pc + 1) als (.int x :: st) u) : rx_WS Z pc als (.ref r :: st) u := by
  intro H ls locs h1 h2 h3
  have hk2 := kk H ls locs h1 h2 h3
  unfold rx_len at hx
  split at hx
  · cases hx
  next h0 =>
  split at hx
  · next hr =>
    subst hr
    cases hx
    have hR : rx_R (zG Z) h0 H := h1
    obtain ⟨scr, e1, e2, e3, e4, e5⟩ := rx_oldAt F.2.2.2.2.2.1.2.1 h1
    rw [hR.2.2.2.2] at hk2
    exact W.alen (n := Int32.ofNat (rx_sc (zG Z)).1) F.1 F.2.1 e1 e2 (by first | exact e4.2 | exact e4.2.symm) rfl rfl hd hk2
  · cases hx
/-- what is put into an array -/
theorem rx_putA {h0 : rx_H} {r : Nat} {c c1 : rx_C} (hr : h0.2[r]? = some c) (hs : rx_sl1 c1 = rx_sl1 c) (kk : rx_O Z pc als st (some (h0.1, h0.2.set r c1)))
    {pc' : Nat} {st' : List Value} (step : (∀ (H' : Heap) (ls : Array Slot) (locs : List Loc), rx_R (zG Z) (h0.1, h0.2.set r c1) H' → rx_lo (zG Z) ls (zn Z) als → (∀ q ∈ locs, rx_base (zG Z) ≤ q.base) → zW Z H' locs (h0.2.length - zn0 Z) (rx_sl h0 - zs0 Z) (F0 (zM Z) pc ls (st.map (rx_ev (zG Z))))) → rx_WS Z pc' als st' (some h0)) : rx_O Z pc' als st' (some h0) := by
  have el : (h0.2.set r c1).length = h0.2.length := by simp
  have es : rx_sl (h0.1, h0.2.set r c1) = rx_sl h0 := rx_sl_set hr hs
  intro g1 g2
  obtain ⟨g3, g4⟩ := kk (by show zn0 Z ≤ (h0.2.set r _).length; rw [el]; exact g1) (by show zs0 Z ≤ rx_sl (h0.1, h0.2.set r _); rw [es]; exact g2)
  refine ⟨⟨by show h0.2.length ≤ _; rw [← el]; exact g3.1, by show rx_sl h0 ≤ _; rw [← es]; exact g3.2⟩, step fun H' ls locs h1 h2 h3 => ?_⟩
  have := g4 H' ls locs h1 h2 h3
  have e5 : (rx_u Z (some (h0.1, h0.2.set r c1))).2.length = h0.2.length := el
  have e6 : rx_sl (rx_u Z (some (h0.1, h0.2.set r c1))) = rx_sl h0 := es
  rw [e5, e6] at this
  exact this
theorem rx_t_iast (F : rx_Fr Z) {i x : Int32} {r : Nat} (hx : rx_sI u r i x = some u') (hd : decode (zcc Z) pc = .ok (.iastore, 1)) (kk : rx_O Z (pc + 1) als st u') : rx_O Z pc als (.int x :: .int i :: .ref r :: st) u := by
  unfold rx_sI at hx
  split at hx
  · cases hx
  next h0 =>
  split at hx
  case h_2 => cases hx
  next n f hc =>
  split at hx
  case isTrue => cases hx
  next hi =>
  cases hx
  refine rx_putA hc (by rfl) kk fun k H ls locs h1 h2 h3 => ?_
  have hR : rx_R (zG Z) h0 H := h1
  show W _ _ _ _ _ _ _ _ _ _ H locs _ _ _ (F0 _ pc ls (.int x :: .int i :: .ref (rx_ad (zG Z) r) :: st.map (rx_ev (zG Z))))
  rw [rx_ad_lt _ (rx_lt6 hR hc)]
  refine W.iast F.1 F.2.1 (hR.1 r _ hc) ((F.2.2.2.2.2.1.1.2 0 _ rfl).1 n (fun j => .int (f j))) (fun q => by cases q) (by rw [arrV_size]; exact hi) rfl rfl hd fun H1 e z oq => ?_
  refine k H1 ls _ (hR.set hc ?_ z oq) h2 (t_lc h3 (Nat.le_add_right _ _))
  show H1[_]? = some (arrV _ _ _)
  rw [e, arrV_store]
  congr 2
  funext q
  by_cases hq : q = i.toNatClampNeg
  · subst hq
    simp [updV, upd]
  · simp [updV, upd, hq]
theorem rx_t_last (F : rx_Fr Z) {i : Int32} {x : Int64} {r : Nat} (hx : rx_sJ u r i x = some u') (hd : decode (zcc Z) pc = .ok (.lastore, 1)) (kk : rx_O Z (pc + 1) als st u') : rx_O Z pc als (.long x :: .int i :: .ref r :: st) u := by
  unfold rx_sJ at hx
  split at hx
  · cases hx
  next h0 =>
  split at hx
  case h_2 => cases hx
  next n f hc =>
  split at hx
  case isTrue => cases hx
  next hi =>
  cases hx
  refine rx_putA hc (by rfl) kk fun k H ls locs h1 h2 h3 => ?_
  have hR : rx_R (zG Z) h0 H := h1
  show W _ _ _ _ _ _ _ _ _ _ H locs _ _ _ (F0 _ pc ls (.long x :: .int i :: .ref (rx_ad (zG Z) r) :: st.map (rx_ev (zG Z))))
  rw [rx_ad_lt _ (rx_lt6 hR hc)]
  refine W.last F.1 F.2.1 (hR.1 r _ hc) ((F.2.2.2.2.2.1.1.2 1 _ rfl).1 n (fun j => .long (f j))) (fun q => by cases q) (by rw [arrV_size]; exact hi) rfl rfl hd fun H1 e z oq => ?_
  refine k H1 ls _ (hR.set hc ?_ z oq) h2 (t_lc h3 (Nat.le_add_right _ _))
  show H1[_]? = some (arrV _ _ _)
  rw [e, arrV_store]
  congr 2
  funext q
  by_cases hq : q = i.toNatClampNeg
  · subst hq
    simp [updV, vp_updL]
  · simp [updV, vp_updL, hq]
theorem rx_t_aast (F : rx_Fr Z) {i : Int32} {x : Nat} {r : Nat} (hx : rx_sR u r i x = some u') (hd : decode (zcc Z) pc = .ok (.aastore, 1)) (kk : rx_O Z (pc + 1) als st u') : rx_O Z pc als (.ref x :: .int i :: .ref r :: st) u := by
  unfold rx_sR at hx
  split at hx
  · cases hx
  next h0 =>
  split at hx
  case h_2 => cases hx
  next n f gs hc hv =>
  split at hx
  case isTrue => cases hx
  next hi =>
  cases hx
  refine rx_putA hc (by rfl) kk fun k H ls locs h1 h2 h3 => ?_
  have hR : rx_R (zG Z) h0 H := h1
  show W _ _ _ _ _ _ _ _ _ _ H locs _ _ _ (F0 _ pc ls (.ref (rx_ad (zG Z) x) :: .int i :: .ref (rx_ad (zG Z) r) :: st.map (rx_ev (zG Z))))
  have hax := rx_ad_lt (zG Z) (rx_lt6 hR hv)
  rw [rx_ad_lt _ (rx_lt6 hR hc), hax]
  have hlt : i.toNatClampNeg < n := Nat.not_le.mp fun q => hi (Or.inr q)
  have hi0 : ¬ i < 0 := fun q => hi (Or.inl q)
  obtain ⟨r', hr', hln, cellV, g1, g2, g3, -⟩ := hR.1 x _ hv
  have hK := F.2.2.2.2.2.1.1
  have hcls := (hK.1 0 _ rfl).2
  obtain ⟨kA, comp, k1, k2, k3, -⟩ := (hK.2 2 _ rfl).2
  have hcomp : comp = (rx_D (zG Z)).1 0 := Option.some.inj (k3.symm.trans hcls.1)
  subst hcomp
  obtain ⟨kC, hkC, -⟩ := hcls.2
  refine W.aast F.1 F.2.1 (hR.1 r _ hc) (fun q h => by cases h) (fun h => by cases h) k1 k2 rfl hkC ⟨hi0, by rw [arrV_size]; exact hlt⟩ g1 (fun q h => by rw [g3] at h; cases h) (by rw [g2]; exact hkC) (by rw [g2]; exact va_assign hcls) rfl rfl hd fun H1 e z oq => ?_
  refine k H1 ls _ (hR.set hc ?_ z oq) h2 (t_lc h3 (Nat.le_add_right _ _))
  show H1[_]? = some (arrV _ _ _)
  rw [e, arrV_store]
  congr 2
  funext q
  by_cases hq : q = i.toNatClampNeg
  · subst hq
    simp [updV, va_up, va_rf, hax]
  · simp [updV, va_up, hq]
theorem rx_t_gets (F : rx_Fr Z) {i a : Nat} {C n d : String} {v : Nat} (ha : rx_ad (zG Z) a = v) (hZ : va_Z C n d (.ref v) (fun q => rx_base (zG Z) ≤ q) (zS Z) (rx_H0 (zG Z))) (hw : Cond.fieldLink (zo Z) i C n d ∈ rx_TB) (hd : decode (zcc Z) pc = .ok (.getstatic i, 3)) (kk : rx_WS Z (pc + 3) als (.ref a :: st) u) : rx_WS Z pc als st u := by
  intro H ls locs h1 h2 h3
  have hk2 := kk H ls locs h1 h2 h3
  obtain ⟨cf, kf, fi, f, a1, cell, e1, e2, e3, e4, e5, e6, e7, e8⟩ := hZ
  have hk3 : zW Z H locs ((rx_u Z u).2.length - zn0 Z) (rx_sl (rx_u Z u) - zs0 Z) (F0 (zM Z) (pc + 3) ls (.ref v :: st.map (rx_ev (zG Z)))) := by rw [← ha]; exact hk2
  exact W.gets F.1 F.2.1 F.2.2.2.1 (F.2.2.2.2.1 _ hw) e1 e2 e3 e4 (by rw [h1.2.2.2.1 a1 (by omega)]; exact e5) (fun e => by rw [e] at e6; cases e6) e7 rfl hd hk3
/-! new cells -/
theorem rx_pushO {h0 : rx_H} {c1 : rx_C} (F : rx_Fr Z) (kk : rx_O Z pc als st (some (h0.1, h0.2 ++ [c1])))
    {pc' : Nat} {st' : List Value} (step : (h0.2.length - zn0 Z) + 1 ≤ (zR Z).cells → (rx_sl h0 - zs0 Z) + rx_sl1 c1 ≤ (zR Z).slots → (∀ (H' : Heap) (ls : Array Slot) (locs : List Loc), rx_R (zG Z) (h0.1, h0.2 ++ [c1]) H' → rx_lo (zG Z) ls (zn Z) als → (∀ q ∈ locs, rx_base (zG Z) ≤ q.base) → zW Z H' locs ((h0.2.length - zn0 Z) + 1) ((rx_sl h0 - zs0 Z) + rx_sl1 c1) (F0 (zM Z) pc ls (st.map (rx_ev (zG Z))))) → rx_WS Z pc' als st' (some h0)) : rx_O Z pc' als st' (some h0) := by
  have el : (h0.2 ++ [c1]).length = h0.2.length + 1 := by simp
  have es : rx_sl (h0.1, h0.2 ++ [c1]) = rx_sl h0 + rx_sl1 c1 := rx_sl_push h0 c1
  intro g1 g2
  have g1' : zn0 Z ≤ h0.2.length := g1
  have g2' : zs0 Z ≤ rx_sl h0 := g2
  obtain ⟨⟨g3, g3'⟩, g4⟩ := kk (by show zn0 Z ≤ (h0.2 ++ [c1]).length; omega) (by show zs0 Z ≤ rx_sl (h0.1, h0.2 ++ [c1]); omega)
  have g5 : h0.2.length + 1 ≤ zn1 Z := by rw [← el]; exact g3
  have g6 : rx_sl h0 + rx_sl1 c1 ≤ zs1 Z := by rw [← es]; exact g3'
  have hc := F.2.2.2.2.2.2.2.2.2.1
  have hs := F.2.2.2.2.2.2.2.2.2.2
  refine ⟨⟨by show h0.2.length ≤ _; omega, by show rx_sl h0 ≤ _; omega⟩, step (by omega) (by omega) fun H' ls locs h1 h2 h3 => ?_⟩
  have := g4 H' ls locs h1 h2 h3
  have e5 : (rx_u Z (some (h0.1, h0.2 ++ [c1]))).2.length - zn0 Z = (h0.2.length - zn0 Z) + 1 := by show (h0.2 ++ [c1]).length - zn0 Z = _; omega
  have e6 : rx_sl (rx_u Z (some (h0.1, h0.2 ++ [c1]))) - zs0 Z = (rx_sl h0 - zs0 Z) + rx_sl1 c1 := by show rx_sl (h0.1, h0.2 ++ [c1]) - zs0 Z = _; omega
  rw [e5, e6] at this
  exact this
theorem rx_push_some {c1 : rx_C} {q : Nat × Option rx_H} (h : rx_push u c1 = some q) : ∃ h0 : rx_H, u = some h0 ∧ h0.2.length < 999999 ∧ q = (h0.2.length, some (h0.1, h0.2 ++ [c1])) := by
  unfold rx_push at h
  split at h
  · cases h
  next h0 =>
  split at h
  · next hl => cases h; exact ⟨h0, rfl, hl, rfl⟩
  · cases h
theorem rx_t_newI (F : rx_Fr Z) {n : Int32} {q : Nat × Option rx_H} (hx : rx_nI u n = some q) (hw : Cond.arrayClass .int ∈ rx_TB) (hd : decode (zcc Z) pc = .ok (.newarray .int, 2)) (kk : rx_O Z (pc + 2) als (.ref q.1 :: st) q.2) : rx_O Z pc als (.int n :: st) u := by
  unfold rx_nI at hx
  split at hx
  · cases hx
  next hn =>
  obtain ⟨h0, rfl, hl, rfl⟩ := rx_push_some hx
  refine rx_pushO F kk fun hc hs k H ls locs h1 h2 h3 => ?_
  have hR : rx_R (zG Z) h0 H := h1
  refine va_newaK F.1 F.2.1 (atype := .int) (F.2.2.2.2.1 _ hw) rfl hd rfl (fun q => hn (Or.inl q)) rfl ?_ hc hs rfl fun H' cA e z o hA hf => ?_
  · have : n.toNatClampNeg ≤ 100000 := Nat.not_lt.mp fun q => hn (Or.inr q)
    show n.toNatClampNeg * 4 ≤ 536870912
    omega
  · have hcA : cA = rx_cI (zG Z) := Option.some.inj (hf.symm.trans (F.2.2.2.2.2.1.1.2 0 _ rfl).2)
    subst hcA
    have hz : H.size = rx_base (zG Z) + h0.2.length := hR.2.1
    have hr := k H' ls locs (hR.push hl (by rw [← hz]; exact e) z o) h2 h3
    have ha : rx_ad (zG Z) h0.2.length = H.size := by rw [rx_ad_lt _ (by omega), hz]
    have hr2 : zW Z H' locs ((h0.2.length - zn0 Z) + 1) ((rx_sl h0 - zs0 Z) + n.toNatClampNeg) (F0 (zM Z) (pc + 2) ls (.ref H.size :: st.map (rx_ev (zG Z)))) := by rw [← ha]; exact hr
    exact hr2
theorem rx_t_newJ (F : rx_Fr Z) {n : Int32} {q : Nat × Option rx_H} (hx : rx_nJ u n = some q) (hw : Cond.arrayClass .long ∈ rx_TB) (hd : decode (zcc Z) pc = .ok (.newarray .long, 2)) (kk : rx_O Z (pc + 2) als (.ref q.1 :: st) q.2) : rx_O Z pc als (.int n :: st) u := by
  unfold rx_nJ at hx
  split at hx
  · cases hx
  next hn =>
  obtain ⟨h0, rfl, hl, rfl⟩ := rx_push_some hx
  refine rx_pushO F kk fun hc hs k H ls locs h1 h2 h3 => ?_
  have hR : rx_R (zG Z) h0 H := h1
  refine va_newaK F.1 F.2.1 (atype := .long) (F.2.2.2.2.1 _ hw) rfl hd rfl (fun q => hn (Or.inl q)) rfl ?_ hc hs rfl fun H' cA e z o hA hf => ?_
  · have : n.toNatClampNeg ≤ 100000 := Nat.not_lt.mp fun q => hn (Or.inr q)
    show n.toNatClampNeg * 8 ≤ 536870912
    omega
  · have hcA : cA = rx_cJ (zG Z) := Option.some.inj (hf.symm.trans (F.2.2.2.2.2.1.1.2 1 _ rfl).2)
    subst hcA
    have hz : H.size = rx_base (zG Z) + h0.2.length := hR.2.1
    have hr := k H' ls locs (hR.push hl (by rw [← hz]; exact e) z o) h2 h3
    have ha : rx_ad (zG Z) h0.2.length = H.size := by rw [rx_ad_lt _ (by omega), hz]
    have hr2 : zW Z H' locs ((h0.2.length - zn0 Z) + 1) ((rx_sl h0 - zs0 Z) + n.toNatClampNeg) (F0 (zM Z) (pc + 2) ls (.ref H.size :: st.map (rx_ev (zG Z)))) := by rw [← ha]; exact hr
    exact hr2
theorem rx_t_newR (F : rx_Fr Z) {n : Int32} {i : Nat} {q : Nat × Option rx_H} (hx : rx_nR u n = some q) (hw : Cond.classLink (zo Z) i "SetHouse$Place" ∈ rx_TB) (hd : decode (zcc Z) pc = .ok (.anewarray i, 3)) (kk : rx_O Z (pc + 3) als (.ref q.1 :: st) q.2) : rx_O Z pc als (.int n :: st) u := by
  unfold rx_nR at hx
  split at hx
  · cases hx
  next hn =>
  obtain ⟨h0, rfl, hl, rfl⟩ := rx_push_some hx
  refine rx_pushO F kk fun hc hs k H ls locs h1 h2 h3 => ?_
  have hR : rx_R (zG Z) h0 H := h1
  refine W.anew F.1 F.2.1 F.2.2.2.1 (F.2.2.2.2.1 _ hw) (va_AO.use F.2.2.2.2.2.1.2.2.2.2.2.2.2.2.2.1) rfl hd rfl (fun q => hn (Or.inl q)) ?_ hc hs fun cA kA comp f1 f2 f3 f4 => ?_
  · have : n.toNatClampNeg ≤ 100000 := Nat.not_lt.mp fun q => hn (Or.inr q)
    omega
  · obtain ⟨kA', comp', g1, g2, g3, g4⟩ := (F.2.2.2.2.2.1.1.2 2 _ rfl).2
    have hcA : cA = rx_cP (zG Z) := Option.some.inj (f1.symm.trans g4)
    subst hcA
    have hz : H.size = rx_base (zG Z) + h0.2.length := hR.2.1
    generalize hH1 : H.push ({ cls := rx_cP (zG Z), slots := Array.replicate n.toNatClampNeg .null, vm := .none } : Cell) = H1
    have z1 : H1.size = H.size + 1 := by rw [← hH1, Array.size_push]
    have e1 : H1[H.size]? = some (arrV (rx_cP (zG Z)) n.toNatClampNeg (fun _ => .null)) := by rw [← hH1, Array.getElem?_push_size, ← arrV_new]
    have o1 : ∀ q : Nat, q < H.size → H1[q]? = H[q]? := fun q hq => by rw [← hH1, Array.getElem?_push, if_neg (Nat.ne_of_lt hq)]
    have hr := k H1 ls locs (hR.push hl (by rw [← hz]; exact e1) z1 o1) h2 h3
    have ha : rx_ad (zG Z) h0.2.length = H.size := by rw [rx_ad_lt _ (by omega), hz]
    have hr2 : zW Z H1 locs ((h0.2.length - zn0 Z) + 1) ((rx_sl h0 - zs0 Z) + n.toNatClampNeg) (F0 (zM Z) (pc + 3) ls (.ref H.size :: st.map (rx_ev (zG Z)))) := by rw [← ha]; exact hr
    exact hr2
theorem rx_df_ok {a : Nat} {q : vw_C} (h : rx_cl[a]? = some q) (G : rx_G) : (rx_df a).length = q.2.2 ∧ ∀ j, j < q.2.2 → defaultValue (rx_ty a j) = vp_V ((rx_df a).map (rx_ev G)) j := by
  match a, h with
  | 0, h => cases h; exact ⟨rfl, fun j hj => by match j, hj with
    | 0, _ => rfl
    | 1, _ => rfl
    | 2, _ => rfl
    | 3, _ => rfl
    | 4, _ => rfl
    | 5, _ => rfl
    | n + 6, hj => exact absurd hj (by show ¬ n + 6 < 6; omega)⟩
  | 1, h => cases h; exact ⟨rfl, fun j hj => by match j, hj with
    | 0, _ => rfl
    | 1, _ => rfl
    | 2, _ => rfl
    | 3, _ => rfl
    | 4, _ => rfl
    | n + 5, hj => exact absurd hj (by show ¬ n + 5 < 5; omega)⟩
  | 2, h => cases h; exact ⟨rfl, fun j hj => by match j, hj with
    | 0, _ => rfl
    | 1, _ => rfl
    | 2, _ => rfl
    | 3, _ => rfl
    | 4, _ => rfl
    | 5, _ => rfl
    | n + 6, hj => exact absurd hj (by show ¬ n + 6 < 6; omega)⟩
  | 3, h => cases h; exact ⟨rfl, fun j hj => by match j, hj with
    | 0, _ => rfl
    | 1, _ => rfl
    | 2, _ => rfl
    | 3, _ => rfl
    | 4, _ => rfl
    | 5, _ => rfl
    | 6, _ => rfl
    | 7, _ => rfl
    | 8, _ => rfl
    | 9, _ => rfl
    | 10, _ => rfl
    | 11, _ => rfl
    | 12, _ => rfl
    | 13, _ => rfl
    | 14, _ => rfl
    | n + 15, hj => exact absurd hj (by show ¬ n + 15 < 15; omega)⟩
  | n + 4, h => simp [rx_cl] at h
theorem rx_t_newO (F : rx_Fr Z) {i a : Nat} {cq : vw_C} {q : Nat × Option rx_H} (hx : rx_nO u a = some q) (hc : rx_cl[a]? = some cq) (hw : Cond.classLink (zo Z) i cq.1 ∈ rx_TB) (hw2 : Cond.instantiable cq.1 cq.2.2 ∈ rx_TB) (hw3 : Cond.initialized cq.1 ∈ rx_TB) (hd : decode (zcc Z) pc = .ok (.new i, 3)) (kk : rx_O Z (pc + 3) als (.ref q.1 :: st) q.2) : rx_O Z pc als st u := by
  unfold rx_nO at hx
  split at hx
  case isFalse => cases hx
  next hn =>
  obtain ⟨h0, rfl, hl, rfl⟩ := rx_push_some hx
  obtain ⟨d1, d2⟩ := rx_df_ok hc (zG Z)
  refine rx_pushO F kk fun hcc hs k H ls locs h1 h2 h3 => ?_
  have hR : rx_R (zG Z) h0 H := h1
  have hts := F.2.2.2.2.1
  have hKn := F.2.2.2.2.2.1.1.1 a _ hc
  have hs' : (rx_sl h0 - zs0 Z) + cq.2.2 ≤ (zR Z).slots := by rw [← d1]; exact hs
  have hz : H.size = rx_base (zG Z) + h0.2.length := hR.2.1
  refine W.newcK F.1 F.2.1 F.2.2.2.1 (hts _ hw) (hts _ hw2) (hts _ hw3) rfl hd hcc hs' hKn.2.1 rfl fun H1 kC hkC e1 z1 o1 => ?_
  have hb := (u_born (rx_ty a) hts (rx_lin hc) hKn hkC e1 (rx_yok hc)).to d2
  have hr := k H1 ls locs (hR.push hl ⟨cq, hc, d1, by rw [← hz]; exact hb⟩ z1 o1) h2 h3
  have ha : rx_ad (zG Z) h0.2.length = H.size := by rw [rx_ad_lt _ (by omega), hz]
  have hr2 : zW Z H1 locs ((h0.2.length - zn0 Z) + 1) ((rx_sl h0 - zs0 Z) + cq.2.2) (F0 (zM Z) (pc + 3) ls (.ref H.size :: st.map (rx_ev (zG Z)))) := by rw [← ha, ← d1]; exact hr
  exact hr2
end rxH
