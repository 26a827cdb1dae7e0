/-! ===== The claim out of a statement about functions ===== -/
def rx_FF : Nat × Nat := (1000000, 200)
/-- what is owed of the functions: for every script the law's function answers 1, in its room -/
def rx_GOAL : Prop := ∀ (L : Nat) (xs : Nat → Int32), L ≤ 3073 → ∃ h' : rx_H, f_L_law rx_FF 1000000 (some ((L, xs), [])) = some (1, some h') ∧ h'.2.length ≤ 601024 ∧ rx_sl h' ≤ 7293000
theorem whole_start_of (hG : rx_GOAL) {p : Program} {e : Env} {s : State} {m : MethodId} {below : List Frame} {meth : Method} {c : Code} (l : Launch) (hflags : l.flags = flags0) {b L : Nat} {xs : Nat → Int32} (hL : L ≤ 3073) (C0 : lw_At p s m meth c b L xs) : W p l e room_1 s m #[Value.ref b] below meth c s.heap [] 0 0 (lw_Z below #[Value.ref b] s) (entryFrame m ([Value.ref b] : List Value).toArray 8) := by
  obtain ⟨h', hf, hn, hs⟩ := hG L xs hL
  obtain ⟨G, eb, ea, eH, es, hK⟩ := rx_start C0
  obtain ⟨hx, hb, hr, hml, hown, hts, hX, hbl, hlocks, hgv⟩ := C0
  have hl : l.stackTraces = false := by unfold Launch.stackTraces; rw [hflags]; decide +kernel
  let h0 : rx_H := ((L, xs), [])
  let Z : rx_Z := ((p, l, e, room_1, s, m, #[Value.ref b], below, meth, c), (lw_Z below #[Value.ref b] s, 8, G, h0, 0, 0, h'.2.length, rx_sl h', 13 + 1 * rx_FF.2, code, "SetHouseLaw", false, true))
  have hZM : rx_ZM Z l G ("SetHouseLaw", code, 8, false, true, 13 + 1 * rx_FF.2) h0 h' := ⟨rfl, rfl, rfl, rfl, rfl, rfl⟩
  have F : rx_Fr Z := ⟨hx, hb, hml, hown, fun w hw => hts w (List.mem_filter.mp hw).1, hK, (fun hi => by cases hi), (by show 13 + 1 * 200 + 1 ≤ 2048; decide), (by show 64 * (13 + 1 * 200 + 1) ≤ 84000; decide), hn, hs⟩
  have hS := s_L_law_0 (hf := h0) (cc_L_law hl rx_FF G (1, some h')) 1000000 (some h0) hf
  have hRT : rx_RT Z rx_hI (1, some h') := by
    intro v u hv
    unfold rx_hI at hv
    split at hv
    · cases hv
      refine ⟨Nat.le_refl _, Nat.le_refl _, fun pc ls H locs hrv hR hlc => ?_⟩
      refine va_forget (fun q hq => by rw [← eb]; exact hlc q hq) ?_
      exact W.widen (k := 601024) (n := 7293000) hn hs (lw_ret hx hb hr hlocks hrv.1)
    · cases hv
  have hR : rx_R G h0 s.heap := ⟨fun k c h => by simp [h0] at h, by rw [eb]; rfl, by simp [h0], fun q hq => by rw [eH], by rw [es]⟩
  obtain ⟨-, hW⟩ := hS.2 Z hZM F hRT (Nat.zero_le _) (Nat.zero_le _)
  have hlo := rx_ent_lo G (vs := [.ref 1000000]) (n := 8) (Nat.le_of_ble_eq_true rfl)
  have hev : [Value.ref 1000000].map (rx_ev G) = [Value.ref b] := by
    show [Value.ref (rx_ab G)] = _
    rw [ea]
  rw [hev] at hlo
  rw [lg_entry_eq]
  exact hW s.heap _ [] hR (hlo.le (rx_leq_le _ _ (by exact ⟨Or.inr rfl, Or.inl rfl, Or.inl rfl, Or.inl rfl, Or.inl rfl, Or.inl rfl, Or.inl rfl, Or.inl rfl, trivial⟩))) (fun q h => by cases h)
