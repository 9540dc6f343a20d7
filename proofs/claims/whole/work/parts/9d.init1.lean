/-! the constructors -/
section IN
variable {Γ : GE} {l : Launch} {F : HF} {a : Nat} {K : Option Value → PH → Prop}
set_option maxRecDepth 20000 in
set_option maxHeartbeats 4000000 in
theorem iX8 (hF : F a = .inr (8, [.null, .int 0, .null, .null, .null, .null, .int 0, .int 0, .int 0, .int 0, .long 0])) (hK : ∀ G : HF, (∀ b, b < a → G b = F b) → G a = .inr (8, [.ref (a + 1), .int 0, .ref (a + 2), .ref (a + 3), .ref (a + 4), .ref (a + 5), .int 0, .int 0, .int 0, .int 0, .long 0]) → G (a + 1) = aIz 2000 → G (a + 2) = aIz 402 → G (a + 3) = aIz 402 → G (a + 4) = aIz 402 → G (a + 5) = aJz 402 → K none (mkF (a + 6) G)) : Cd Γ l mX8_init [.ref a] (mkF (a + 1) F) K := by
  refine cd_of (lv := [(0, .ref a)]) (by decide) (Nat.le_of_ble_eq_true rfl) rfl ?_
  refine r_aload_n (dcx dX8_init_c0 0 rfl) 0 rfl ?_
  refine r_objInit q33 q26 q27 (dcx dX8_init_c0 1 rfl) (by decide) (by decide) ?_
  refine r_aload_n (dcx dX8_init_c0 2 rfl) 0 rfl ?_
  refine r_sipush (v := 2000) (dcx dX8_init_c0 3 rfl) rfl ?_
  refine f_newI (N := 2000) (dcx dX8_init_c0 4 rfl) (by decide) rfl (by decide) (by decide) (by decide) (fun G1 h1 => ?_)
  refine f_putF gX8_9 rfl (dcx dX8_init_c0 5 rfl) (by omega) (by rw [h1, uF_n (by omega)]; exact hF) rfl rfl (Nat.le_of_ble_eq_true rfl) (fs' := [.ref (a + 1), .int 0, .null, .null, .null, .null, .int 0, .int 0, .int 0, .int 0, .long 0]) rfl (fun G2 h2 => ?_)
  refine r_aload_n (dcx dX8_init_c0 6 rfl) 0 rfl ?_
  refine r_sipush (v := 402) (dcx dX8_init_c0 7 rfl) rfl ?_
  refine f_newI (N := 402) (dcx dX8_init_c0 8 rfl) (by decide) rfl (by decide) (by decide) (by decide) (fun G3 h3 => ?_)
  refine f_putF gX8_15 rfl (dcx dX8_init_c0 9 rfl) (by omega) (by rw [h3, uF_n (by omega), h2, uF_s]) rfl rfl (Nat.le_of_ble_eq_true rfl) (fs' := [.ref (a + 1), .int 0, .ref (a + 2), .null, .null, .null, .int 0, .int 0, .int 0, .int 0, .long 0]) rfl (fun G4 h4 => ?_)
  refine r_aload_n (dcx dX8_init_c0 10 rfl) 0 rfl ?_
  refine r_sipush (v := 402) (dcx dX8_init_c0 11 rfl) rfl ?_
  refine f_newI (N := 402) (dcx dX8_init_c0 12 rfl) (by decide) rfl (by decide) (by decide) (by decide) (fun G5 h5 => ?_)
  refine f_putF gX8_18 rfl (dcx dX8_init_c0 13 rfl) (by omega) (by rw [h5, uF_n (by omega), h4, uF_s]) rfl rfl (Nat.le_of_ble_eq_true rfl) (fs' := [.ref (a + 1), .int 0, .ref (a + 2), .ref (a + 3), .null, .null, .int 0, .int 0, .int 0, .int 0, .long 0]) rfl (fun G6 h6 => ?_)
  refine r_aload_n (dcx dX8_init_c0 14 rfl) 0 rfl ?_
  refine r_sipush (v := 402) (dcx dX8_init_c0 15 rfl) rfl ?_
  refine f_newI (N := 402) (dcx dX8_init_c0 16 rfl) (by decide) rfl (by decide) (by decide) (by decide) (fun G7 h7 => ?_)
  refine f_putF gX8_21 rfl (dcx dX8_init_c0 17 rfl) (by omega) (by rw [h7, uF_n (by omega), h6, uF_s]) rfl rfl (Nat.le_of_ble_eq_true rfl) (fs' := [.ref (a + 1), .int 0, .ref (a + 2), .ref (a + 3), .ref (a + 4), .null, .int 0, .int 0, .int 0, .int 0, .long 0]) rfl (fun G8 h8 => ?_)
  refine r_aload_n (dcx dX8_init_c0 18 rfl) 0 rfl ?_
  refine r_sipush (v := 402) (dcx dX8_init_c0 19 rfl) rfl ?_
  refine f_newJ (N := 402) (dcx dX8_init_c0 20 rfl) (by decide) rfl (by decide) (by decide) (by decide) (fun G9 h9 => ?_)
  refine f_putF gX8_24 rfl (dcx dX8_init_c0 21 rfl) (by omega) (by rw [h9, uF_n (by omega), h8, uF_s]) rfl rfl (Nat.le_of_ble_eq_true rfl) (fs' := [.ref (a + 1), .int 0, .ref (a + 2), .ref (a + 3), .ref (a + 4), .ref (a + 5), .int 0, .int 0, .int 0, .int 0, .long 0]) rfl (fun G10 h10 => ?_)
  exact r_vret rfl (hK G10 (fun b hb => by rw [h10, uF_n (by omega), h9, uF_n (by omega), h8, uF_n (by omega), h7, uF_n (by omega), h6, uF_n (by omega), h5, uF_n (by omega), h4, uF_n (by omega), h3, uF_n (by omega), h2, uF_n (by omega), h1, uF_n (by omega)]) (by rw [h10, uF_s]) (by rw [h10, uF_n (by omega), h9, uF_n (by omega), h8, uF_n (by omega), h7, uF_n (by omega), h6, uF_n (by omega), h5, uF_n (by omega), h4, uF_n (by omega), h3, uF_n (by omega), h2, uF_n (by omega), h1, uF_s]) (by rw [h10, uF_n (by omega), h9, uF_n (by omega), h8, uF_n (by omega), h7, uF_n (by omega), h6, uF_n (by omega), h5, uF_n (by omega), h4, uF_n (by omega), h3, uF_s]) (by rw [h10, uF_n (by omega), h9, uF_n (by omega), h8, uF_n (by omega), h7, uF_n (by omega), h6, uF_n (by omega), h5, uF_s]) (by rw [h10, uF_n (by omega), h9, uF_n (by omega), h8, uF_n (by omega), h7, uF_s]) (by rw [h10, uF_n (by omega), h9, uF_s])) (by decide) (by decide) (dcx dX8_init_c0 22 rfl)
set_option maxRecDepth 20000 in
set_option maxHeartbeats 4000000 in
theorem iX3 (hF : F a = .inr (3, [.null, .int 0, .null, .int 0, .int 0, .int 0, .int 0, .int 0, .int 0])) (hK : ∀ G : HF, (∀ b, b < a → G b = F b) → G a = .inr (3, [.ref (a + 1), .int 0, .null, .int 0, .int 0, .int 0, .int 0, .int 0, .int 0]) → G (a + 1) = aIz 24 → K none (mkF (a + 2) G)) : Cd Γ l mX3_init [.ref a] (mkF (a + 1) F) K := by
  refine cd_of (lv := [(0, .ref a)]) (by decide) (Nat.le_of_ble_eq_true rfl) rfl ?_
  refine r_aload_n (dcx dX3_init_c0 0 rfl) 0 rfl ?_
  refine r_objInit q86 q26 q27 (dcx dX3_init_c0 1 rfl) (by decide) (by decide) ?_
  refine r_aload_n (dcx dX3_init_c0 2 rfl) 0 rfl ?_
  refine r_bipush (v := 24) (dcx dX3_init_c0 3 rfl) rfl ?_
  refine f_newI (N := 24) (dcx dX3_init_c0 4 rfl) (by decide) rfl (by decide) (by decide) (by decide) (fun G1 h1 => ?_)
  refine f_putF gX3_9 rfl (dcx dX3_init_c0 5 rfl) (by omega) (by rw [h1, uF_n (by omega)]; exact hF) rfl rfl (Nat.le_of_ble_eq_true rfl) (fs' := [.ref (a + 1), .int 0, .null, .int 0, .int 0, .int 0, .int 0, .int 0, .int 0]) rfl (fun G2 h2 => ?_)
  exact r_vret rfl (hK G2 (fun b hb => by rw [h2, uF_n (by omega), h1, uF_n (by omega)]) (by rw [h2, uF_s]) (by rw [h2, uF_n (by omega), h1, uF_s])) (by decide) (by decide) (dcx dX3_init_c0 6 rfl)
set_option maxRecDepth 20000 in
set_option maxHeartbeats 4000000 in
theorem iX7 {t : Nat} (hF : F a = .inr (7, [.null, .null, .null, .int 0, .int 0, .int 0, .int 0, .int 0, .int 0, .int 0, .long 0])) (hK : ∀ G : HF, (∀ b, b < a → G b = F b) → G a = .inr (7, [.ref t, .ref (a + 1), .null, .int 0, .int 0, .int 0, .int 0, .int 0, .int 0, .int 0, .long 0]) → G (a + 1) = .inr (3, [.ref (a + 2), .int 0, .null, .int 0, .int 0, .int 0, .int 0, .int 0, .int 0]) → G (a + 2) = aIz 24 → K none (mkF (a + 3) G)) : Cd Γ l mX7_init [.ref a, .ref t] (mkF (a + 1) F) K := by
  refine cd_of (lv := [(0, .ref a), (1, .ref t)]) (by decide) (Nat.le_of_ble_eq_true rfl) rfl ?_
  refine r_aload_n (dcx dX7_init_c0 0 rfl) 0 rfl ?_
  refine r_objInit q80 q26 q27 (dcx dX7_init_c0 1 rfl) (by decide) (by decide) ?_
  refine r_aload_n (dcx dX7_init_c0 2 rfl) 0 rfl ?_
  refine f_new q81 q82 q4 (ci := 3) rfl lyX3 tyX3_ok (fs := [.null, .int 0, .null, .int 0, .int 0, .int 0, .int 0, .int 0, .int 0]) rfl (by decide) (dcx dX7_init_c0 3 rfl) (by decide) (by decide) (fun G1 h1 => ?_)
  refine r_dup (dcx dX7_init_c0 4 rfl) rfl ?_
  refine r_callIN (as := []) (st := [.ref (a + 1), .ref a]) kX7_init_11 (dcx dX7_init_c0 5 rfl) rfl rfl (Nat.le_of_ble_eq_true rfl) (by decide) (iX3 (a := a + 1) (by rw [h1, uF_s]) (fun G2 h2 u2_0 u2_1 => ?_))
  show Gd Γ l mX7_init 12 [(0, .ref a), (1, .ref t)] [.ref (a + 1), .ref a] (mkF (a + 3) G2) 2 33 K
  refine f_putF gX7_12 rfl (dcx dX7_init_c0 6 rfl) (by omega) (by rw [h2 (a) (by omega), h1, uF_n (by omega)]; exact hF) rfl rfl (Nat.le_of_ble_eq_true rfl) (fs' := [.null, .ref (a + 1), .null, .int 0, .int 0, .int 0, .int 0, .int 0, .int 0, .int 0, .long 0]) rfl (fun G3 h3 => ?_)
  refine r_aload_n (dcx dX7_init_c0 7 rfl) 0 rfl ?_
  refine r_aload_n (dcx dX7_init_c0 8 rfl) 1 rfl ?_
  refine f_putF gX7_18 rfl (dcx dX7_init_c0 9 rfl) (by omega) (by rw [h3, uF_s]) rfl rfl (Nat.le_of_ble_eq_true rfl) (fs' := [.ref t, .ref (a + 1), .null, .int 0, .int 0, .int 0, .int 0, .int 0, .int 0, .int 0, .long 0]) rfl (fun G4 h4 => ?_)
  exact r_vret rfl (hK G4 (fun b hb => by rw [h4, uF_n (by omega), h3, uF_n (by omega), h2 b (by omega), h1, uF_n (by omega)]) (by rw [h4, uF_s]) (by rw [h4, uF_n (by omega), h3, uF_n (by omega)]; exact u2_0) (by rw [h4, uF_n (by omega), h3, uF_n (by omega)]; exact u2_1)) (by decide) (by decide) (dcx dX7_init_c0 10 rfl)
set_option maxRecDepth 20000 in
set_option maxHeartbeats 4000000 in
theorem iX2 (hF : F a = .inr (2, [.null, .null, .int 0])) (hK : ∀ G : HF, (∀ b, b < a → G b = F b) → G a = .inr (2, [.ref (a + 1), .ref (a + 2), .int 0]) → G (a + 1) = aIz 401 → G (a + 2) = aIz 20 → K none (mkF (a + 3) G)) : Cd Γ l mX2_init [.ref a] (mkF (a + 1) F) K := by
  refine cd_of (lv := [(0, .ref a)]) (by decide) (Nat.le_of_ble_eq_true rfl) rfl ?_
  refine r_aload_n (dcx dX2_init_c0 0 rfl) 0 rfl ?_
  refine r_objInit q164 q26 q27 (dcx dX2_init_c0 1 rfl) (by decide) (by decide) ?_
  refine r_aload_n (dcx dX2_init_c0 2 rfl) 0 rfl ?_
  refine r_sipush (v := 401) (dcx dX2_init_c0 3 rfl) rfl ?_
  refine f_newI (N := 401) (dcx dX2_init_c0 4 rfl) (by decide) rfl (by decide) (by decide) (by decide) (fun G1 h1 => ?_)
  refine f_putF gX2_9 rfl (dcx dX2_init_c0 5 rfl) (by omega) (by rw [h1, uF_n (by omega)]; exact hF) rfl rfl (Nat.le_of_ble_eq_true rfl) (fs' := [.ref (a + 1), .null, .int 0]) rfl (fun G2 h2 => ?_)
  refine r_aload_n (dcx dX2_init_c0 6 rfl) 0 rfl ?_
  refine r_bipush (v := 20) (dcx dX2_init_c0 7 rfl) rfl ?_
  refine f_newI (N := 20) (dcx dX2_init_c0 8 rfl) (by decide) rfl (by decide) (by decide) (by decide) (fun G3 h3 => ?_)
  refine f_putF gX2_15 rfl (dcx dX2_init_c0 9 rfl) (by omega) (by rw [h3, uF_n (by omega), h2, uF_s]) rfl rfl (Nat.le_of_ble_eq_true rfl) (fs' := [.ref (a + 1), .ref (a + 2), .int 0]) rfl (fun G4 h4 => ?_)
  exact r_vret rfl (hK G4 (fun b hb => by rw [h4, uF_n (by omega), h3, uF_n (by omega), h2, uF_n (by omega), h1, uF_n (by omega)]) (by rw [h4, uF_s]) (by rw [h4, uF_n (by omega), h3, uF_n (by omega), h2, uF_n (by omega), h1, uF_s]) (by rw [h4, uF_n (by omega), h3, uF_s])) (by decide) (by decide) (dcx dX2_init_c0 10 rfl)
set_option maxRecDepth 20000 in
set_option maxHeartbeats 4000000 in
theorem iX4 (hF : F a = .inr (4, [.null, .null, .null, .null, .int 0, .int 0])) (hK : ∀ G : HF, (∀ b, b < a → G b = F b) → G a = .inr (4, [.ref (a + 1), .ref (a + 2), .ref (a + 3), .ref (a + 4), .int 0, .int 0]) → G (a + 1) = aIz 80 → G (a + 2) = aIz 80 → G (a + 3) = aIz 4 → G (a + 4) = aIz 4 → K none (mkF (a + 5) G)) : Cd Γ l mX4_init [.ref a] (mkF (a + 1) F) K := by
  refine cd_of (lv := [(0, .ref a)]) (by decide) (Nat.le_of_ble_eq_true rfl) rfl ?_
  refine r_aload_n (dcx dX4_init_c0 0 rfl) 0 rfl ?_
  refine r_objInit q341 q26 q27 (dcx dX4_init_c0 1 rfl) (by decide) (by decide) ?_
  refine r_aload_n (dcx dX4_init_c0 2 rfl) 0 rfl ?_
  refine r_bipush (v := 80) (dcx dX4_init_c0 3 rfl) rfl ?_
  refine f_newI (N := 80) (dcx dX4_init_c0 4 rfl) (by decide) rfl (by decide) (by decide) (by decide) (fun G1 h1 => ?_)
  refine f_putF gX4_9 rfl (dcx dX4_init_c0 5 rfl) (by omega) (by rw [h1, uF_n (by omega)]; exact hF) rfl rfl (Nat.le_of_ble_eq_true rfl) (fs' := [.ref (a + 1), .null, .null, .null, .int 0, .int 0]) rfl (fun G2 h2 => ?_)
  refine r_aload_n (dcx dX4_init_c0 6 rfl) 0 rfl ?_
  refine r_bipush (v := 80) (dcx dX4_init_c0 7 rfl) rfl ?_
  refine f_newI (N := 80) (dcx dX4_init_c0 8 rfl) (by decide) rfl (by decide) (by decide) (by decide) (fun G3 h3 => ?_)
  refine f_putF gX4_15 rfl (dcx dX4_init_c0 9 rfl) (by omega) (by rw [h3, uF_n (by omega), h2, uF_s]) rfl rfl (Nat.le_of_ble_eq_true rfl) (fs' := [.ref (a + 1), .ref (a + 2), .null, .null, .int 0, .int 0]) rfl (fun G4 h4 => ?_)
  refine r_aload_n (dcx dX4_init_c0 10 rfl) 0 rfl ?_
  refine r_iconst (v := 4) (dcx dX4_init_c0 11 rfl) rfl ?_
  refine f_newI (N := 4) (dcx dX4_init_c0 12 rfl) (by decide) rfl (by decide) (by decide) (by decide) (fun G5 h5 => ?_)
  refine f_putF gX4_18 rfl (dcx dX4_init_c0 13 rfl) (by omega) (by rw [h5, uF_n (by omega), h4, uF_s]) rfl rfl (Nat.le_of_ble_eq_true rfl) (fs' := [.ref (a + 1), .ref (a + 2), .ref (a + 3), .null, .int 0, .int 0]) rfl (fun G6 h6 => ?_)
  refine r_aload_n (dcx dX4_init_c0 14 rfl) 0 rfl ?_
  refine r_iconst (v := 4) (dcx dX4_init_c0 15 rfl) rfl ?_
  refine f_newI (N := 4) (dcx dX4_init_c0 16 rfl) (by decide) rfl (by decide) (by decide) (by decide) (fun G7 h7 => ?_)
  refine f_putF gX4_21 rfl (dcx dX4_init_c0 17 rfl) (by omega) (by rw [h7, uF_n (by omega), h6, uF_s]) rfl rfl (Nat.le_of_ble_eq_true rfl) (fs' := [.ref (a + 1), .ref (a + 2), .ref (a + 3), .ref (a + 4), .int 0, .int 0]) rfl (fun G8 h8 => ?_)
  exact r_vret rfl (hK G8 (fun b hb => by rw [h8, uF_n (by omega), h7, uF_n (by omega), h6, uF_n (by omega), h5, uF_n (by omega), h4, uF_n (by omega), h3, uF_n (by omega), h2, uF_n (by omega), h1, uF_n (by omega)]) (by rw [h8, uF_s]) (by rw [h8, uF_n (by omega), h7, uF_n (by omega), h6, uF_n (by omega), h5, uF_n (by omega), h4, uF_n (by omega), h3, uF_n (by omega), h2, uF_n (by omega), h1, uF_s]) (by rw [h8, uF_n (by omega), h7, uF_n (by omega), h6, uF_n (by omega), h5, uF_n (by omega), h4, uF_n (by omega), h3, uF_s]) (by rw [h8, uF_n (by omega), h7, uF_n (by omega), h6, uF_n (by omega), h5, uF_s]) (by rw [h8, uF_n (by omega), h7, uF_s])) (by decide) (by decide) (dcx dX4_init_c0 18 rfl)
set_option maxRecDepth 20000 in
set_option maxHeartbeats 4000000 in
theorem iX1 {t : Nat} (hF : F a = .inr (1, [.null, .null, .null, .null])) (hK : ∀ G : HF, (∀ b, b < a → G b = F b) → G a = .inr (1, [.ref (a + 1), .ref (a + 2), .ref (a + 3), .ref t]) → G (a + 1) = aIz 9 → G (a + 2) = aIz 80 → G (a + 3) = aIz 4 → K none (mkF (a + 4) G)) : Cd Γ l mX1_init [.ref a, .ref t] (mkF (a + 1) F) K := by
  refine cd_of (lv := [(0, .ref a), (1, .ref t)]) (by decide) (Nat.le_of_ble_eq_true rfl) rfl ?_
  refine r_aload_n (dcx dX1_init_c0 0 rfl) 0 rfl ?_
  refine r_objInit q313 q26 q27 (dcx dX1_init_c0 1 rfl) (by decide) (by decide) ?_
  refine r_aload_n (dcx dX1_init_c0 2 rfl) 0 rfl ?_
  refine r_bipush (v := 9) (dcx dX1_init_c0 3 rfl) rfl ?_
  refine f_newI (N := 9) (dcx dX1_init_c0 4 rfl) (by decide) rfl (by decide) (by decide) (by decide) (fun G1 h1 => ?_)
  refine f_putF gX1_9 rfl (dcx dX1_init_c0 5 rfl) (by omega) (by rw [h1, uF_n (by omega)]; exact hF) rfl rfl (Nat.le_of_ble_eq_true rfl) (fs' := [.ref (a + 1), .null, .null, .null]) rfl (fun G2 h2 => ?_)
  refine r_aload_n (dcx dX1_init_c0 6 rfl) 0 rfl ?_
  refine r_bipush (v := 80) (dcx dX1_init_c0 7 rfl) rfl ?_
  refine f_newI (N := 80) (dcx dX1_init_c0 8 rfl) (by decide) rfl (by decide) (by decide) (by decide) (fun G3 h3 => ?_)
  refine f_putF gX1_15 rfl (dcx dX1_init_c0 9 rfl) (by omega) (by rw [h3, uF_n (by omega), h2, uF_s]) rfl rfl (Nat.le_of_ble_eq_true rfl) (fs' := [.ref (a + 1), .ref (a + 2), .null, .null]) rfl (fun G4 h4 => ?_)
  refine r_aload_n (dcx dX1_init_c0 10 rfl) 0 rfl ?_
  refine r_iconst (v := 4) (dcx dX1_init_c0 11 rfl) rfl ?_
  refine f_newI (N := 4) (dcx dX1_init_c0 12 rfl) (by decide) rfl (by decide) (by decide) (by decide) (fun G5 h5 => ?_)
  refine f_putF gX1_18 rfl (dcx dX1_init_c0 13 rfl) (by omega) (by rw [h5, uF_n (by omega), h4, uF_s]) rfl rfl (Nat.le_of_ble_eq_true rfl) (fs' := [.ref (a + 1), .ref (a + 2), .ref (a + 3), .null]) rfl (fun G6 h6 => ?_)
  refine r_aload_n (dcx dX1_init_c0 14 rfl) 0 rfl ?_
  refine r_aload_n (dcx dX1_init_c0 15 rfl) 1 rfl ?_
  refine f_put gX1_21 (dcx dX1_init_c0 16 rfl) (by omega) (by rw [h6, uF_s]) rfl rfl (Nat.le_of_ble_eq_true rfl) (fs' := [.ref (a + 1), .ref (a + 2), .ref (a + 3), .ref t]) rfl (fun G7 h7 => ?_)
  exact r_vret rfl (hK G7 (fun b hb => by rw [h7, uF_n (by omega), h6, uF_n (by omega), h5, uF_n (by omega), h4, uF_n (by omega), h3, uF_n (by omega), h2, uF_n (by omega), h1, uF_n (by omega)]) (by rw [h7, uF_s]) (by rw [h7, uF_n (by omega), h6, uF_n (by omega), h5, uF_n (by omega), h4, uF_n (by omega), h3, uF_n (by omega), h2, uF_n (by omega), h1, uF_s]) (by rw [h7, uF_n (by omega), h6, uF_n (by omega), h5, uF_n (by omega), h4, uF_n (by omega), h3, uF_s]) (by rw [h7, uF_n (by omega), h6, uF_n (by omega), h5, uF_s])) (by decide) (by decide) (dcx dX1_init_c0 17 rfl)
end IN
