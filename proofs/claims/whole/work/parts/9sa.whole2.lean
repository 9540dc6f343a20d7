/-! the start -/
theorem frame_nil {s t : State} {o : Outcome} {L : List Loc} {k n : Nat} (h : FrameEnd s o t L k n) (hL : ∀ q ∈ L, s.heap.size ≤ q.base) : Framed s o t [] k n := by
  obtain ⟨h1, h2, a1, a2, a3, a4, a5, a6⟩ := h
  refine ⟨h1, h2, a1, a2, a3, a4, a5, fun a c hc => ?_⟩
  obtain ⟨c', b1, b2, b3, b4⟩ := a6 a c hc
  refine ⟨c', b1, b2, b3, fun i _ => b4 i (fun hq => ?_)⟩
  have h5 := hL _ hq
  have h6 := (Array.getElem?_eq_some_iff.mp hc).1
  exact absurd h5 (Nat.not_le.mpr h6)
/-- from the entry, for every script of at most 3072 ints, the law comes to its end with true -/
theorem whole_start {p : Program} {e : Env} {s : State} {m : MethodId} {below : List Frame} {meth : Method} {c : Code} (l : Launch) {b L : Nat} {xs : Nat → Int32} (hL : L ≤ 3072) (hnm : meth.name = x.name) (C0 : lw_At p s m meth c b L xs) : W p l e room_1 s m #[Value.ref b] below meth c s.heap [] 0 0 (lw_Z below #[Value.ref b] s) (entryFrame m ([Value.ref b] : List Value).toArray 4) := by
  obtain ⟨D, sa, h5, hK⟩ := law_kt C0
  obtain ⟨hx, hb, hr, hml, hown, hts, hX, hbl, hlk, hgv⟩ := C0
  have hS : SCR (D, s.heap.size, sa, s.heap) L xs := by
    obtain ⟨scr, s1, -, -, s4, s5⟩ := hX
    exact ⟨by show sa 5 < _; rw [h5]; exact hbl, scr, by show s.heap[sa 5]? = _; rw [h5]; exact s1, s4, s5⟩
  have hg : Gd (D, s.heap.size, sa, s.heap) l mL_law 0 [(0, .float 5)] [] [] 0 0 (fun v _ => v = some (.int 1)) := law_all hL hS (fun _ => rfl)
  have hle := lv_entry ([Value.ref b] : List Value) (n := 4) (Nat.le_of_ble_eq_true rfl)
  rw [lg_entry_eq]
  have hlv : lv_has (lg_sl [Value.ref b] ++ List.replicate (4 - (lg_sl [Value.ref b]).length) Slot.unset).toArray 4 (([(0, .float 5)] : List (Nat × Value)).map (tq (D, s.heap.size, sa, s.heap))) := by
    show lv_has _ 4 [(0, Value.ref (sa 5))]
    rw [h5]
    exact hle
  have hw := hg p e s m #[Value.ref b] below meth c s.heap [] _ ⟨hx, hb, hr, hml, hown, fun w hw => hts w (lw_good hw), hlk, hnm, hK⟩ ⟨rfl, fun k e' hk => by simp at hk, fun q _ => rfl⟩ (fun q hq => absurd hq List.not_mem_nil) hlv
  intro T hT X
  obtain ⟨t, g1, o, g2, g3, ⟨v, h', e1, e2, e3⟩, LL, g4, g5⟩ := hw T hT X
  have eo : o = .returned (some (.int 1)) := by rw [e1, e2]; rfl
  exact ⟨t, g1, o, g2, g3, eo, frame_nil g4 g5⟩
