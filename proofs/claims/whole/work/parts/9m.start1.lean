/-! the store behind the constructors -/
theorem bg0 (k : Nat) : begL plnP k = 0 := by
  unfold begL
  rw [if_neg]
  intro h
  have := of_decide_eq_true h.2
  exact absurd this.1 (Nat.not_lt_zero _)
theorem bgH (i : Nat) : cH (begL plnP) i = 0 := by
  unfold cH
  split
  · exact bg0 _
  · rfl
theorem bgF (i : Nat) : cF (begL plnP) i = 0 := by
  unfold cF
  split
  · exact bg0 _
  · rfl
theorem sFi {G : HF} {b : Nat} {e : PC} (h : G b = e) (j : Nat) : (sF G).1 b j = exI e j := by
  show exI (G b) j = _
  rw [h]
theorem sFr {G : HF} {b : Nat} {e : PC} (h : G b = e) (j : Nat) : (sF G).2.2 b j = exR e j := by
  show exR (G b) j = _
  rw [h]
theorem XL0 {G : HF} {a : Nat} (ha : isL a) (h : lwN G a) : XL (sF G) a (begL plnP) := by
  obtain ⟨h0, h1, h2, h3, h4⟩ := h
  refine ⟨ha, fun i _ => ?_, fun i _ => ?_, fun w _ => ?_, fun s _ => ?_, ?_, ?_⟩
  · rw [sFi h1, bgH]; rfl
  · rw [sFi h2, bgF]; rfl
  · rw [sFi h3, bg0]; rfl
  · rw [sFi h4, bg0]; rfl
  · rw [sFi h0, bg0]; rfl
  · rw [sFi h0, bg0]; rfl
theorem XW0 {G : HF} {a k : Nat} {x : Int32} {d : Nat} (ha : isW a) (hk : okL (dfl k)) (h0 : G a = .inr (2, [.ref (a + 1), .ref d, .int 2])) (h1 : G (a + 1) = .inl (.int, 401, .inl (upd (upd (fun _ => 0) 0 x) 1 (-100)))) (he : encL 0 (dfl k) = [x, -100]) : XW (sF G) a (dfl k) := by
  refine ⟨ha, hk, by rw [he]; exact Nat.le_of_ble_eq_true rfl, by rw [he, sFi h0]; rfl, fun j hj => ?_⟩
  rw [sFi h1]
  rw [he] at hj
  have hj2 : j < 2 := hj
  have e : j = 0 ∨ j = 1 := by omega
  rcases e with e | e <;> subst e <;> simp [he] <;> rfl
theorem XS0 {G : HF} (g0 : G 0 = .inr (9, [.ref 1, .ref 7, .ref 46, .ref 50, .ref 219, .ref 269, .ref 274, .ref 279, .ref 10, .ref 28, .int (-1)])) (g1 : G 1 = .inr (8, [.ref 2, .int 0, .ref 3, .ref 4, .ref 5, .ref 6, .int 0, .int 0, .int 0, .int 0, .long 0])) (g10 : G 10 = .inr (6, [.ref 11, .ref 12, .ref 13, .ref 14, .ref 15, .ref 16, .ref 17, .ref 18, .ref 19, .ref 22, .ref 25, .int 0, .int 0, .int 0, .int 0, .int 0, .int 20, .int 0, .int 0, .int 0])) (g11 : G 11 = rowT 80 (-2) 80) (g18 : G 18 = rowT 4 0 4) (g19 : G 19 = .inr (2, [.ref 20, .ref 21, .int 2])) (g20 : G 20 = .inl (.int, 401, .inl (upd (upd (fun _ => 0) 0 (-2)) 1 (-100)))) (g22 : G 22 = .inr (2, [.ref 23, .ref 24, .int 2])) (g23 : G 23 = .inl (.int, 401, .inl (upd (upd (fun _ => 0) 0 2) 1 (-100)))) (g25 : G 25 = .inr (2, [.ref 26, .ref 27, .int 2])) (g26 : G 26 = .inl (.int, 401, .inl (upd (upd (fun _ => 0) 0 (-9)) 1 (-100)))) (g46 : G 46 = .inr (1, [.ref 47, .ref 48, .ref 49, .ref 10])) (g50 : G 50 = .inr (5, [.ref 51, .ref 52, .ref 53, .int 0, .int 0])) (g51 : G 51 = aRf 30 (lwR 54 30)) (g52 : G 52 = aRf 3 (lwR 204 3)) (g53 : G 53 = aZz 3) (g219 : G 219 = .inr (0, [.ref 46, .ref 220, .ref 221, .ref 222, .int 0, .ref 223, .ref 228, .ref 260, .int (-1), .ref 261, .ref 262, .ref 263, .ref 268, .int 0, .int 0, .int 0, .int 0])) (g223 : G 223 = .inr (4, [.ref 224, .ref 225, .ref 226, .ref 227, .int 0, .int 0])) (g224 : G 224 = aIz 80) (g225 : G 225 = aIz 80) (g226 : G 226 = aIz 4) (g227 : G 227 = aIz 4) (g228 : G 228 = aRR 228 31) (g263 : G 263 = .inr (4, [.ref 264, .ref 265, .ref 266, .ref 267, .int 0, .int 0])) (g265 : G 265 = aIz 80) (g266 : G 266 = aIz 4) (g267 : G 267 = aIz 4) (g269 : G 269 = .inr (4, [.ref 270, .ref 271, .ref 272, .ref 273, .int 0, .int 0])) (g270 : G 270 = aIz 80) (g271 : G 271 = aIz 80) (g272 : G 272 = aIz 4) (g273 : G 273 = aIz 4) (gr : ∀ j, j < 31 → G (229 + j) = aIz 80) : XS (sF G) [] (-1) plnP (begL plnP) [] (fun _ => none) [] := by
  obtain ⟨pk, -⟩ := plnP_ok.2.2.2.2.2.2.2.2.2.2 rfl
  refine ⟨10, ⟨sFr g0 8, 28, sFr g0 9, by unfold isP; decide, by decide⟩, ⟨⟨sFr g46 3, ⟨by unfold isP; decide, ?_, ?_, ?_, ?_, ?_, ?_, ?_, ?_, ?_, fun i hi => ?_, fun s hs => absurd hs (Nat.not_lt_zero _), fun s hs => absurd hs (Nat.not_lt_zero _), fun w hw => ?_⟩, pk⟩, ?_, ?_, ?_⟩, ?_, ⟨by decide, sFi g1 1, fun i hi => absurd hi (Nat.not_lt_zero _)⟩, ⟨fun i hi => ?_, fun i hi => ?_, ⟨0, by decide, sFi g50 3, by decide, sFi g50 4, fun i hi => absurd hi (Nat.not_lt_zero _)⟩, fun s hs => ⟨sFi g53 s, fun M hM => by cases hM⟩⟩, ⟨by decide, sFi g219 4, fun i hi => absurd hi (Nat.not_lt_zero _)⟩, sFi g0 10, ⟨⟨fun i hi => ?_, ⟨fun i _ => sFi g265 i, fun i _ => sFi g266 i, fun i _ => sFi g267 i, sFi g263 5⟩, 0, by decide, ?_, fun w w1 _ i hi => ?_⟩, Or.inl (sFi g219 8)⟩⟩
  · exact sFi g10 11
  · exact sFi g10 12
  · exact sFi g10 13
  · exact sFi g10 14
  · exact sFi g10 15
  · exact sFi g10 16
  · exact sFi g10 17
  · exact sFi g10 18
  · exact sFi g10 19
  · rw [sFi g11]
    show (if i < 80 then (-2 : Int32) else 0) = _
    rw [if_pos hi]
    unfold cSu
    split <;> rfl
  · rw [sFi g18]
    show (if w < 4 then (0 : Int32) else 0) = _
    rw [if_pos hw]
    rfl
  · exact XW0 (by unfold isW; decide) (dfl_ok 0 (by decide)) g19 g20 (dfl_enc 0 (by decide))
  · exact XW0 (by unfold isW; decide) (dfl_ok 1 (by decide)) g22 g23 (dfl_enc 1 (by decide))
  · exact XW0 (by unfold isW; decide) (dfl_ok 2 (by decide)) g25 g26 (dfl_enc 2 (by decide))
  · exact XL0 isL_269 ⟨g269, g270, g271, g272, g273⟩
  · rw [sFr g51]
    show (if i < 30 then some (54 + 5 * i) else none).getD 0 = _
    rw [if_pos hi]
    rfl
  · rw [sFr g52]
    show (if i < 3 then some (204 + 5 * i) else none).getD 0 = _
    rw [if_pos hi]
    rfl
  · rw [sFr g228]
    show (if i < 31 then some (228 + 1 + i) else none).getD 0 = _
    rw [if_pos hi]
    rfl
  · exact XL0 (by unfold isL; decide) ⟨g223, g224, g225, g226, g227⟩
  · have e : w = 0 := by omega
    subst e
    rw [sFi (gr 0 (by decide))]
    show (0 : Int32) = nI (cH (begL plnP) i)
    rw [bgH]
    rfl
