/-! a past as it is made -/
section IN
variable {Γ : GE} {l : Launch} {a : Nat} {K : Option Value → PH → Prop}
/-- a lawn as it is made -/
def lwN (G : HF) (b : Nat) : Prop := G b = .inr (4, [.ref (b + 1), .ref (b + 2), .ref (b + 3), .ref (b + 4), .int 0, .int 0]) ∧ G (b + 1) = aIz 80 ∧ G (b + 2) = aIz 80 ∧ G (b + 3) = aIz 4 ∧ G (b + 4) = aIz 4
/-- the first of a row of lawns -/
def lwR (c i : Nat) : Nat → Option Nat := fun j => if j < i then some (c + 5 * j) else none
theorem lwR_0 (c : Nat) : (fun _ => none) = lwR c 0 := by
  funext j
  show none = if j < 0 then _ else _
  rw [if_neg (by omega)]
theorem lwR_up (c i : Nat) : va_up (lwR c i) i (some (c + 5 * i)) = lwR c (i + 1) := by
  funext j
  show (if j = i then some (c + 5 * i) else if j < i then some (c + 5 * j) else none) = if j < i + 1 then some (c + 5 * j) else none
  by_cases h : j = i
  · subst h
    rw [if_pos rfl, if_pos (by omega)]
  · by_cases h2 : j < i
    · rw [if_neg h, if_pos h2, if_pos (by omega)]
    · rw [if_neg h, if_neg h2, if_neg (by omega)]
theorem lwN_of {G F : HF} {b : Nat} (h : lwN F b) (e : ∀ k, k < 5 → G (b + k) = F (b + k)) : lwN G b :=
  ⟨(e 0 (by omega)).trans h.1, (e 1 (by omega)).trans h.2.1, (e 2 (by omega)).trans h.2.2.1, (e 3 (by omega)).trans h.2.2.2.1, (e 4 (by omega)).trans h.2.2.2.2⟩
set_option maxHeartbeats 4000000 in
theorem vX5_l1 : ∀ (n i : Nat) (F : HF), i + n = 30 → F a = .inr (5, [.ref (a + 1), .ref (a + 2), .ref (a + 3), .int 0, .int 0]) → F (a + 1) = aRf 30 (lwR (a + 4) i) →
    (∀ G : HF, (∀ b, b ≠ a + 1 → b < a + 4 + 5 * i → G b = F b) → G (a + 1) = aRf 30 (lwR (a + 4) 30) → (∀ j, i ≤ j → j < 30 → lwN G (a + 4 + 5 * j)) → Gd Γ l mX5_init 55 [(1, .int (nI 30)), (0, .ref a)] [] (mkF (a + 4 + 5 * 30) G) (3 + 5 * 30) (36 + 174 * 30) K) →
    Gd Γ l mX5_init 30 [(1, .int (nI i)), (0, .ref a)] [] (mkF (a + 4 + 5 * i) F) (3 + 5 * i) (36 + 174 * i) K := by
  intro n
  induction n with
  | zero =>
    intro i F hi hF hc kk
    have e : i = 30 := by omega
    subst e
    refine r_iload_n (dcx dX5_init_c0 16 rfl) 0 rfl ?_
    refine r_bipush (v := 30) (dcx dX5_init_c0 17 rfl) rfl ?_
    refine r_icmp_ge (tgt := 55) (dcx dX5_init_c0 18 rfl) (by decide) (fun q_ => ?_) (fun q_ => absurd ((nI_leI (a := 30) (b := 30) (by decide) (by decide)).mpr (Nat.le_refl _)) q_)
    exact kk F (fun _ _ _ => rfl) hc (fun j h1 h2 => absurd h1 (by omega))
  | succ n ih =>
    intro i F hi hF hc kk
    refine r_iload_n (dcx dX5_init_c0 16 rfl) 0 rfl ?_
    refine r_bipush (v := 30) (dcx dX5_init_c0 17 rfl) rfl ?_
    refine r_icmp_ge (tgt := 55) (dcx dX5_init_c0 18 rfl) (by decide) (fun q_ => absurd ((nI_leI (a := 30) (b := i) (by decide) (by omega)).mp q_) (by omega)) (fun q_ => ?_)
    refine r_aload_n (dcx dX5_init_c0 19 rfl) 1 rfl ?_
    refine f_get fX5_11 (dcx dX5_init_c0 20 rfl) (by omega) hF rfl ?_
    refine r_iload_n (dcx dX5_init_c0 21 rfl) 0 rfl ?_
    refine f_new q335 q337 q9 (ci := 4) rfl lyX4 tyX4_ok (fs := [.null, .null, .null, .null, .int 0, .int 0]) rfl (by decide) (dcx dX5_init_c0 22 rfl) (by show 3 + 5 * i + 1 ≤ 168; omega) (by show 36 + 174 * i + 6 ≤ 5778; omega) (fun G1 h1 => ?_)
    refine r_dup (dcx dX5_init_c0 23 rfl) rfl ?_
    refine r_callIN (as := []) (st := [.ref (a + 4 + 5 * i), .int (nI i), .ref (a + 1)]) kX5_init_24 (dcx dX5_init_c0 24 rfl) rfl rfl (Nat.le_of_ble_eq_true rfl) ⟨by show 3 + 5 * i + 1 + 4 ≤ 168; omega, by show 36 + 174 * i + 6 + 168 ≤ 5778; omega⟩ (iX4 (a := a + 4 + 5 * i) (by rw [h1, uF_s]) (fun G2 h2 u0 u1 u2 u3 u4 => ?_))
    show Gd Γ l mX5_init (48) [(1, .int (nI i)), (0, .ref a)] [.ref (a + 4 + 5 * i), .int (nI i), .ref (a + 1)] (mkF (a + 4 + 5 * i + 5) G2) (3 + 5 * i + 1 + 4) (36 + 174 * i + 6 + 168) K
    rw [show a + 4 + 5 * i + 5 = a + 4 + 5 * (i + 1) by omega, show 3 + 5 * i + 1 + 4 = 3 + 5 * (i + 1) by omega, show 36 + 174 * i + 6 + 168 = 36 + 174 * (i + 1) by omega]
    have hc2 : G2 (a + 1) = aRf 30 (lwR (a + 4) i) := by rw [h2 _ (by omega), h1, uF_n (by omega), hc]
    have hF2 : G2 a = .inr (5, [.ref (a + 1), .ref (a + 2), .ref (a + 3), .int 0, .int 0]) := by rw [h2 _ (by omega), h1, uF_n (by omega), hF]
    refine f_aast (dcx dX5_init_c0 25 rfl) (by omega) (by omega) hc2 u0 (vp_in_nI (by omega) (by decide)) (fun G3 h3 => ?_)
    rw [nI_clamp (by omega), lwR_up] at h3
    refine r_iinc (dcx dX5_init_c0 26 rfl) 0 rfl (by decide) (lv1 := [(1, .int (nI i + Int32.ofInt 1)), (0, .ref a)]) rfl ?_
    refine r_goto (tgt := 30) (dcx dX5_init_c0 27 rfl) (by decide) ?_
    rw [show nI i + Int32.ofInt 1 = nI (i + 1) from (nI_succ i).symm]
    refine ih (i + 1) G3 (by omega) (by rw [h3, uF_n (by omega), hF2]) (by rw [h3, uF_s]) (fun G h4 h5 h6 => kk G (fun b z1 z2 => by rw [h4 b z1 (by omega), h3, uF_n z1, h2 b (by omega), h1, uF_n (by omega)]) h5 (fun j j1 j2 => ?_))
    by_cases hj : j = i
    · subst hj
      refine lwN_of (F := G2) ⟨u0, u1, u2, u3, u4⟩ (fun k hk => ?_)
      rw [h4 _ (by omega) (by omega), h3, uF_n (by omega)]
    · exact h6 j (by omega) j2
set_option maxHeartbeats 4000000 in
theorem vX5_l2 : ∀ (n i : Nat) (F : HF), i + n = 3 → F a = .inr (5, [.ref (a + 1), .ref (a + 2), .ref (a + 3), .int 0, .int 0]) → F (a + 2) = aRf 3 (lwR (a + 154) i) →
    (∀ G : HF, (∀ b, b ≠ a + 2 → b < a + 154 + 5 * i → G b = F b) → G (a + 2) = aRf 3 (lwR (a + 154) 3) → (∀ j, i ≤ j → j < 3 → lwN G (a + 154 + 5 * j)) → Gd Γ l mX5_init 81 [(1, .int (nI 3)), (0, .ref a)] [] (mkF (a + 154 + 5 * 3) G) (153 + 5 * 3) (5256 + 174 * 3) K) →
    Gd Γ l mX5_init 57 [(1, .int (nI i)), (0, .ref a)] [] (mkF (a + 154 + 5 * i) F) (153 + 5 * i) (5256 + 174 * i) K := by
  intro n
  induction n with
  | zero =>
    intro i F hi hF hc kk
    have e : i = 3 := by omega
    subst e
    refine r_iload_n (dcx dX5_init_c0 30 rfl) 0 rfl ?_
    refine r_iconst (v := 3) (dcx dX5_init_c0 31 rfl) rfl ?_
    refine r_icmp_ge (tgt := 81) (dcx dX5_init_c0 32 rfl) (by decide) (fun q_ => ?_) (fun q_ => absurd ((nI_leI (a := 3) (b := 3) (by decide) (by decide)).mpr (Nat.le_refl _)) q_)
    exact kk F (fun _ _ _ => rfl) hc (fun j h1 h2 => absurd h1 (by omega))
  | succ n ih =>
    intro i F hi hF hc kk
    refine r_iload_n (dcx dX5_init_c0 30 rfl) 0 rfl ?_
    refine r_iconst (v := 3) (dcx dX5_init_c0 31 rfl) rfl ?_
    refine r_icmp_ge (tgt := 81) (dcx dX5_init_c0 32 rfl) (by decide) (fun q_ => absurd ((nI_leI (a := 3) (b := i) (by decide) (by omega)).mp q_) (by omega)) (fun q_ => ?_)
    refine r_aload_n (dcx dX5_init_c0 33 rfl) 1 rfl ?_
    refine f_get fX5_17 (dcx dX5_init_c0 34 rfl) (by omega) hF rfl ?_
    refine r_iload_n (dcx dX5_init_c0 35 rfl) 0 rfl ?_
    refine f_new q335 q337 q9 (ci := 4) rfl lyX4 tyX4_ok (fs := [.null, .null, .null, .null, .int 0, .int 0]) rfl (by decide) (dcx dX5_init_c0 36 rfl) (by show 153 + 5 * i + 1 ≤ 168; omega) (by show 5256 + 174 * i + 6 ≤ 5778; omega) (fun G1 h1 => ?_)
    refine r_dup (dcx dX5_init_c0 37 rfl) rfl ?_
    refine r_callIN (as := []) (st := [.ref (a + 154 + 5 * i), .int (nI i), .ref (a + 2)]) kX5_init_24 (dcx dX5_init_c0 38 rfl) rfl rfl (Nat.le_of_ble_eq_true rfl) ⟨by show 153 + 5 * i + 1 + 4 ≤ 168; omega, by show 5256 + 174 * i + 6 + 168 ≤ 5778; omega⟩ (iX4 (a := a + 154 + 5 * i) (by rw [h1, uF_s]) (fun G2 h2 u0 u1 u2 u3 u4 => ?_))
    show Gd Γ l mX5_init (74) [(1, .int (nI i)), (0, .ref a)] [.ref (a + 154 + 5 * i), .int (nI i), .ref (a + 2)] (mkF (a + 154 + 5 * i + 5) G2) (153 + 5 * i + 1 + 4) (5256 + 174 * i + 6 + 168) K
    rw [show a + 154 + 5 * i + 5 = a + 154 + 5 * (i + 1) by omega, show 153 + 5 * i + 1 + 4 = 153 + 5 * (i + 1) by omega, show 5256 + 174 * i + 6 + 168 = 5256 + 174 * (i + 1) by omega]
    have hc2 : G2 (a + 2) = aRf 3 (lwR (a + 154) i) := by rw [h2 _ (by omega), h1, uF_n (by omega), hc]
    have hF2 : G2 a = .inr (5, [.ref (a + 1), .ref (a + 2), .ref (a + 3), .int 0, .int 0]) := by rw [h2 _ (by omega), h1, uF_n (by omega), hF]
    refine f_aast (dcx dX5_init_c0 39 rfl) (by omega) (by omega) hc2 u0 (vp_in_nI (by omega) (by decide)) (fun G3 h3 => ?_)
    rw [nI_clamp (by omega), lwR_up] at h3
    refine r_iinc (dcx dX5_init_c1 0 rfl) 0 rfl (by decide) (lv1 := [(1, .int (nI i + Int32.ofInt 1)), (0, .ref a)]) rfl ?_
    refine r_goto (tgt := 57) (dcx dX5_init_c1 1 rfl) (by decide) ?_
    rw [show nI i + Int32.ofInt 1 = nI (i + 1) from (nI_succ i).symm]
    refine ih (i + 1) G3 (by omega) (by rw [h3, uF_n (by omega), hF2]) (by rw [h3, uF_s]) (fun G h4 h5 h6 => kk G (fun b z1 z2 => by rw [h4 b z1 (by omega), h3, uF_n z1, h2 b (by omega), h1, uF_n (by omega)]) h5 (fun j j1 j2 => ?_))
    by_cases hj : j = i
    · subst hj
      refine lwN_of (F := G2) ⟨u0, u1, u2, u3, u4⟩ (fun k hk => ?_)
      rw [h4 _ (by omega) (by omega), h3, uF_n (by omega)]
    · exact h6 j (by omega) j2
set_option maxRecDepth 20000 in
set_option maxHeartbeats 4000000 in
theorem iX5 {F : HF} (hF : F a = .inr (5, [.null, .null, .null, .int 0, .int 0])) (hK : ∀ G : HF, (∀ b, b < a → G b = F b) → G a = .inr (5, [.ref (a + 1), .ref (a + 2), .ref (a + 3), .int 0, .int 0]) → G (a + 1) = aRf 30 (lwR (a + 4) 30) → G (a + 2) = aRf 3 (lwR (a + 154) 3) → G (a + 3) = aZz 3 → (∀ j, j < 30 → lwN G (a + 4 + 5 * j)) → (∀ j, j < 3 → lwN G (a + 154 + 5 * j)) → K none (mkF (a + 169) G)) : Cd Γ l mX5_init [.ref a] (mkF (a + 1) F) K := by
  refine cd_of (lv := [(0, .ref a)]) (by decide) (Nat.le_of_ble_eq_true rfl) rfl ?_
  refine r_aload_n (dcx dX5_init_c0 0 rfl) 0 rfl ?_
  refine r_objInit q334 q26 q27 (dcx dX5_init_c0 1 rfl) (by decide) (by decide) ?_
  refine r_aload_n (dcx dX5_init_c0 2 rfl) 0 rfl ?_
  refine r_bipush (v := 30) (dcx dX5_init_c0 3 rfl) rfl ?_
  refine f_anew (N := 30) q335 (dcx dX5_init_c0 4 rfl) (by decide) rfl (by decide) (by decide) (by decide) (fun G1 h1 => ?_)
  refine f_putF gX5_11 rfl (dcx dX5_init_c0 5 rfl) (by omega) (by rw [h1, uF_n (by omega)]; exact hF) rfl rfl (Nat.le_of_ble_eq_true rfl) (fs' := [.ref (a + 1), .null, .null, .int 0, .int 0]) rfl (fun G2 h2 => ?_)
  refine r_aload_n (dcx dX5_init_c0 6 rfl) 0 rfl ?_
  refine r_iconst (v := 3) (dcx dX5_init_c0 7 rfl) rfl ?_
  refine f_anew (N := 3) q335 (dcx dX5_init_c0 8 rfl) (by decide) rfl (by decide) (by decide) (by decide) (fun G3 h3 => ?_)
  refine f_putF gX5_17 rfl (dcx dX5_init_c0 9 rfl) (by omega) (by rw [h3, uF_n (by omega), h2, uF_s]) rfl rfl (Nat.le_of_ble_eq_true rfl) (fs' := [.ref (a + 1), .ref (a + 2), .null, .int 0, .int 0]) rfl (fun G4 h4 => ?_)
  refine r_aload_n (dcx dX5_init_c0 10 rfl) 0 rfl ?_
  refine r_iconst (v := 3) (dcx dX5_init_c0 11 rfl) rfl ?_
  refine f_newZ (N := 3) (dcx dX5_init_c0 12 rfl) (by decide) rfl (by decide) (by decide) (by decide) (fun G5 h5 => ?_)
  refine f_putF gX5_20 rfl (dcx dX5_init_c0 13 rfl) (by omega) (by rw [h5, uF_n (by omega), h4, uF_s]) rfl rfl (Nat.le_of_ble_eq_true rfl) (fs' := [.ref (a + 1), .ref (a + 2), .ref (a + 3), .int 0, .int 0]) rfl (fun G6 h6 => ?_)
  refine r_iconst (v := 0) (dcx dX5_init_c0 14 rfl) rfl ?_
  refine r_istore_n (lv1 := [(1, .int 0), (0, .ref a)]) (dcx dX5_init_c0 15 rfl) (Nat.le_of_ble_eq_true rfl) rfl ?_
  refine vX5_l1 30 0 G6 rfl (by rw [h6, uF_s]) (by rw [← lwR_0]; rw [h6, uF_n (by omega), h5, uF_n (by omega), h4, uF_n (by omega), h3, uF_n (by omega), h2, uF_n (by omega), h1, uF_s]) (fun A1 k1 k2 k3 => ?_)
  refine r_iconst (v := 0) (dcx dX5_init_c0 28 rfl) rfl ?_
  refine r_istore_n (lv1 := [(1, .int 0), (0, .ref a)]) (dcx dX5_init_c0 29 rfl) (Nat.le_of_ble_eq_true rfl) rfl ?_
  refine vX5_l2 3 0 A1 rfl (by rw [k1 (a) (by omega) (by omega), h6, uF_s]) (by rw [← lwR_0]; rw [k1 (a + 2) (by omega) (by omega), h6, uF_n (by omega), h5, uF_n (by omega), h4, uF_n (by omega), h3, uF_s]) (fun A2 k4 k5 k6 => ?_)
  refine r_vret rfl (hK A2 (fun b hb => by rw [k4 b (by omega) (by omega), k1 b (by omega) (by omega), h6, uF_n (by omega), h5, uF_n (by omega), h4, uF_n (by omega), h3, uF_n (by omega), h2, uF_n (by omega), h1, uF_n (by omega)]) (by rw [k4 (a) (by omega) (by omega), k1 (a) (by omega) (by omega), h6, uF_s]) (by rw [k4 (a + 1) (by omega) (by omega)]; exact k2) (k5) (by rw [k4 (a + 3) (by omega) (by omega), k1 (a + 3) (by omega) (by omega), h6, uF_n (by omega), h5, uF_s]) (fun j hj => ?_) (fun j hj => k6 j (by omega) hj)) (Nat.le_of_ble_eq_true rfl) (Nat.le_of_ble_eq_true rfl) (dcx dX5_init_c1 2 rfl)
  exact lwN_of (k3 j (by omega) hj) (fun k hk => k4 _ (by omega) (by omega))
end IN
