set_option maxHeartbeats 4000000 in
set_option maxRecDepth 20000 in
theorem tX9_nourish {Γ : GE} {l : Launch} {x1 : Int32} {x2 : Int32} {σ : SS} {K : Option Value → SS → Prop}  (hyp : ∃ b1_ : Nat, σ.2.2 0 8 = b1_ ∧ isP b1_ ∧ (C2 Γ l mX6_hasCell [.ref b1_, .int x1, .int x2] σ (Ri fun r3_ s2_ => ((¬ r3_ = 0 → (∃ b4_ : Nat, s2_.2.2 0 8 = b4_ ∧ isP b4_ ∧ (C2 Γ l mX6_isGrass [.ref b4_, .int x1, .int x2] s2_ (Ri fun r6_ s5_ => ((¬ r6_ = 0 → (C2 Γ l mX5_keep [.ref 50, .ref 269] s5_ (Rv fun s7_ => (C2 Γ l mX1_giveFood [.ref 46, .ref 269, .int x1, .int x2] s7_ (Rv fun s9_ => (C2 Γ l mX9_indexOf [.int x1, .int x2] s9_ (Ri fun r12_ s11_ => (vp_in r12_ 80 ∧ (K (some (.int (s11_.1 (269 + 2) (Int32.toNatClampNeg r12_)))) s11_))))))))) ∧ (r6_ = 0 → (K (some (.int ((-2)))) s5_))))))) ∧ (r3_ = 0 → (K (some (.int ((-1)))) s2_)))))) : C2 Γ l mX9_nourish [.ref 0, .int x1, .int x2] σ K := by
  refine c2_of (lv := [(0, .ref 0), (1, .int x1), (2, .int x2)]) (by decide) (Nat.le_of_ble_eq_true rfl) rfl ?_
  refine r_aload_n (dcx dX9_nourish_c0 0 rfl) 0 rfl ?_
  obtain ⟨b1_, eb1_, hb1_, hyp⟩ := hyp
  refine s_getmE fX9_28 (dcx dX9_nourish_c0 1 rfl) F0_8 eb1_ (nzP hb1_) ?_
  refine r_iload_n (dcx dX9_nourish_c0 2 rfl) 1 rfl ?_
  refine r_iload_n (dcx dX9_nourish_c0 3 rfl) 2 rfl ?_
  refine s_callV (as := [.int x1, .int x2]) (st := []) zX6_hasCell kX9_nourish_113 (dcx dX9_nourish_c0 4 rfl) rfl rfl (Nat.le_of_ble_eq_true rfl) (OP hb1_) rfl rfl (C2.mono hyp ?_)
  rintro _ s2_ ⟨r3_, rfl, hyp⟩
  show G2 Γ l mX9_nourish 9 [(0, .ref 0), (1, .int x1), (2, .int x2)] [.int r3_] s2_ K
  refine r_if_ne (tgt := 14) (dcx dX9_nourish_c0 5 rfl) (by decide) (fun q_ => ?_) (fun q_ => ?_)
  · have hyp := hyp.1 q_
    refine r_aload_n (dcx dX9_nourish_c0 8 rfl) 0 rfl ?_
    obtain ⟨b4_, eb4_, hb4_, hyp⟩ := hyp
    refine s_getmE fX9_28 (dcx dX9_nourish_c0 9 rfl) F0_8 eb4_ (nzP hb4_) ?_
    refine r_iload_n (dcx dX9_nourish_c0 10 rfl) 1 rfl ?_
    refine r_iload_n (dcx dX9_nourish_c0 11 rfl) 2 rfl ?_
    refine s_callV (as := [.int x1, .int x2]) (st := []) zX6_isGrass kX9_nourish_131 (dcx dX9_nourish_c0 12 rfl) rfl rfl (Nat.le_of_ble_eq_true rfl) (OP hb4_) rfl rfl (C2.mono hyp ?_)
    rintro _ s5_ ⟨r6_, rfl, hyp⟩
    show G2 Γ l mX9_nourish 23 [(0, .ref 0), (1, .int x1), (2, .int x2)] [.int r6_] s5_ K
    refine r_if_ne (tgt := 29) (dcx dX9_nourish_c0 13 rfl) (by decide) (fun q_ => ?_) (fun q_ => ?_)
    · have hyp := hyp.1 q_
      refine r_aload_n (dcx dX9_nourish_c0 16 rfl) 0 rfl ?_
      refine s_getr (b := 50) fX9_47 (dcx dX9_nourish_c0 17 rfl) F0_3 ?_
      refine r_aload_n (dcx dX9_nourish_c0 18 rfl) 0 rfl ?_
      refine s_getr (b := 269) fX9_63 (dcx dX9_nourish_c0 19 rfl) F0_5 ?_
      refine s_callV (as := [.ref 269]) (st := []) zX5_keep kX9_nourish_195 (dcx dX9_nourish_c0 20 rfl) rfl rfl (Nat.le_of_ble_eq_true rfl) O50 rfl rfl (C2.mono hyp ?_)
      rintro _ s7_ ⟨rfl, hyp⟩
      show G2 Γ l mX9_nourish 40 [(0, .ref 0), (1, .int x1), (2, .int x2)] [] s7_ K
      refine r_aload_n (dcx dX9_nourish_c0 21 rfl) 0 rfl ?_
      refine s_getr (b := 46) fX9_40 (dcx dX9_nourish_c0 22 rfl) F0_2 ?_
      refine r_aload_n (dcx dX9_nourish_c0 23 rfl) 0 rfl ?_
      refine s_getr (b := 269) fX9_63 (dcx dX9_nourish_c0 24 rfl) F0_5 ?_
      refine r_iload_n (dcx dX9_nourish_c0 25 rfl) 1 rfl ?_
      refine r_iload_n (dcx dX9_nourish_c0 26 rfl) 2 rfl ?_
      refine s_callV (as := [.ref 269, .int x1, .int x2]) (st := []) zX1_giveFood kX9_nourish_209 (dcx dX9_nourish_c0 27 rfl) rfl rfl (Nat.le_of_ble_eq_true rfl) O46 rfl rfl (C2.mono hyp ?_)
      rintro _ s9_ ⟨rfl, hyp⟩
      show G2 Γ l mX9_nourish 53 [(0, .ref 0), (1, .int x1), (2, .int x2)] [] s9_ K
      refine r_aload_n (dcx dX9_nourish_c0 28 rfl) 0 rfl ?_
      refine s_getr (b := 269) fX9_63 (dcx dX9_nourish_c0 29 rfl) F0_5 ?_
      refine s_getr (b := 269 + 2) fX9_128 (dcx dX9_nourish_c0 30 rfl) (FL_1 isL269) ?_
      refine r_iload_n (dcx dX9_nourish_c0 31 rfl) 1 rfl ?_
      refine r_iload_n (dcx dX9_nourish_c0 32 rfl) 2 rfl ?_
      refine s_callS (as := [.int x1, .int x2]) (st := [.ref (269 + 2)]) zX9_indexOf kX9_nourish_117 (dcx dX9_nourish_c0 33 rfl) rfl rfl (Nat.le_of_ble_eq_true rfl) (C2.mono hyp ?_)
      rintro _ s11_ ⟨r12_, rfl, hyp⟩
      show G2 Γ l mX9_nourish 65 [(0, .ref 0), (1, .int x1), (2, .int x2)] [.int r12_, .ref (269 + 2)] s11_ K
      obtain ⟨hb_, hyp⟩ := hyp
      refine s_iald (dcx dX9_nourish_c0 34 rfl) (AL_1 isL269) hb_ ?_
      exact s_ret rfl rfl rfl hyp (dcx dX9_nourish_c0 35 rfl)
    · have hyp := hyp.2 q_
      refine r_bipush (v := (-2)) (dcx dX9_nourish_c0 14 rfl) rfl ?_
      exact s_ret rfl rfl rfl hyp (dcx dX9_nourish_c0 15 rfl)
  · have hyp := hyp.2 q_
    refine r_iconst (v := (-1)) (dcx dX9_nourish_c0 6 rfl) rfl ?_
    exact s_ret rfl rfl rfl hyp (dcx dX9_nourish_c0 7 rfl)
set_option maxHeartbeats 4000000 in
set_option maxRecDepth 20000 in
theorem tX9_mow {Γ : GE} {l : Launch} {x1 : Int32} {σ : SS} {K : Option Value → SS → Prop}  (hyp : C2 Γ l mX9_isHeight [.int x1] σ (Ri fun r2_ s1_ => ((¬ r2_ = 0 → (C2 Γ l mX5_keep [.ref 50, .ref 269] s1_ (Rv fun s3_ => (C2 Γ l mX1_mowTo [.ref 46, .ref 269, .int x1] s3_ (Ri fun r6_ s5_ => (K (some (.int r6_)) s5_)))))) ∧ (r2_ = 0 → (K (some (.int ((-1)))) s1_))))) : C2 Γ l mX9_mow [.ref 0, .int x1] σ K := by
  refine c2_of (lv := [(0, .ref 0), (1, .int x1)]) (by decide) (Nat.le_of_ble_eq_true rfl) rfl ?_
  refine r_iload_n (dcx dX9_mow_c0 0 rfl) 1 rfl ?_
  refine s_callS (as := [.int x1]) (st := []) zX9_isHeight kX9_mow_213 (dcx dX9_mow_c0 1 rfl) rfl rfl (Nat.le_of_ble_eq_true rfl) (C2.mono hyp ?_)
  rintro _ s1_ ⟨r2_, rfl, hyp⟩
  show G2 Γ l mX9_mow 4 [(0, .ref 0), (1, .int x1)] [.int r2_] s1_ K
  refine r_if_ne (tgt := 9) (dcx dX9_mow_c0 2 rfl) (by decide) (fun q_ => ?_) (fun q_ => ?_)
  · have hyp := hyp.1 q_
    refine r_aload_n (dcx dX9_mow_c0 5 rfl) 0 rfl ?_
    refine s_getr (b := 50) fX9_47 (dcx dX9_mow_c0 6 rfl) F0_3 ?_
    refine r_aload_n (dcx dX9_mow_c0 7 rfl) 0 rfl ?_
    refine s_getr (b := 269) fX9_63 (dcx dX9_mow_c0 8 rfl) F0_5 ?_
    refine s_callV (as := [.ref 269]) (st := []) zX5_keep kX9_mow_195 (dcx dX9_mow_c0 9 rfl) rfl rfl (Nat.le_of_ble_eq_true rfl) O50 rfl rfl (C2.mono hyp ?_)
    rintro _ s3_ ⟨rfl, hyp⟩
    show G2 Γ l mX9_mow 20 [(0, .ref 0), (1, .int x1)] [] s3_ K
    refine r_aload_n (dcx dX9_mow_c0 10 rfl) 0 rfl ?_
    refine s_getr (b := 46) fX9_40 (dcx dX9_mow_c0 11 rfl) F0_2 ?_
    refine r_aload_n (dcx dX9_mow_c0 12 rfl) 0 rfl ?_
    refine s_getr (b := 269) fX9_63 (dcx dX9_mow_c0 13 rfl) F0_5 ?_
    refine r_iload_n (dcx dX9_mow_c0 14 rfl) 1 rfl ?_
    refine s_callV (as := [.ref 269, .int x1]) (st := []) zX1_mowTo kX9_mow_216 (dcx dX9_mow_c0 15 rfl) rfl rfl (Nat.le_of_ble_eq_true rfl) O46 rfl rfl (C2.mono hyp ?_)
    rintro _ s5_ ⟨r6_, rfl, hyp⟩
    show G2 Γ l mX9_mow 32 [(0, .ref 0), (1, .int x1)] [.int r6_] s5_ K
    exact s_ret rfl rfl rfl hyp (dcx dX9_mow_c0 16 rfl)
  · have hyp := hyp.2 q_
    refine r_iconst (v := (-1)) (dcx dX9_mow_c0 3 rfl) rfl ?_
    exact s_ret rfl rfl rfl hyp (dcx dX9_mow_c0 4 rfl)
def wX9_weeks_26 (Γ : GE) (l : Launch) (x1 : Int32) (x2 : Int32) (σ : SS) (K : Option Value → SS → Prop) : Prop := G2 Γ l mX9_weeks 26 [(0, .ref 0), (1, .int x1), (2, .int x2)] [] σ K
set_option maxHeartbeats 4000000 in
set_option maxRecDepth 20000 in
theorem tX9_weeks {Γ : GE} {l : Launch} {x1 : Int32} {σ : SS} {K : Option Value → SS → Prop}  (hyp : C2 Γ l mX9_isWait [.int x1] σ (Ri fun r2_ s1_ => ((¬ r2_ = 0 → ((x1 ≤ 0 → (wX9_weeks_26 Γ l x1 0 s1_ K)) ∧ (¬ (x1 ≤ 0) → (C2 Γ l mX5_keep [.ref 50, .ref 269] s1_ (Rv fun s3_ => (wX9_weeks_26 Γ l x1 0 s3_ K)))))) ∧ (r2_ = 0 → (K (some (.int ((-1)))) s1_))))) : C2 Γ l mX9_weeks [.ref 0, .int x1] σ K := by
  refine c2_of (lv := [(0, .ref 0), (1, .int x1)]) (by decide) (Nat.le_of_ble_eq_true rfl) rfl ?_
  refine r_iload_n (dcx dX9_weeks_c0 0 rfl) 1 rfl ?_
  refine s_callS (as := [.int x1]) (st := []) zX9_isWait kX9_weeks_220 (dcx dX9_weeks_c0 1 rfl) rfl rfl (Nat.le_of_ble_eq_true rfl) (C2.mono hyp ?_)
  rintro _ s1_ ⟨r2_, rfl, hyp⟩
  show G2 Γ l mX9_weeks 4 [(0, .ref 0), (1, .int x1)] [.int r2_] s1_ K
  refine r_if_ne (tgt := 9) (dcx dX9_weeks_c0 2 rfl) (by decide) (fun q_ => ?_) (fun q_ => ?_)
  · have hyp := hyp.1 q_
    refine r_iload_n (dcx dX9_weeks_c0 5 rfl) 1 rfl ?_
    refine r_if_le (tgt := 24) (dcx dX9_weeks_c0 6 rfl) (by decide) (fun q_ => ?_) (fun q_ => ?_)
    · have hyp := hyp.1 q_
      refine r_iconst (v := 0) (dcx dX9_weeks_c0 12 rfl) rfl ?_
      refine r_istore_n (lv1 := [(2, .int 0), (0, .ref 0), (1, .int x1)]) (dcx dX9_weeks_c0 13 rfl) (Nat.le_of_ble_eq_true rfl) rfl ?_
      refine r_loc (lv1 := [(0, .ref 0), (1, .int x1), (2, .int 0)]) [1, 2, 0] rfl ?_
      exact hyp
    · have hyp := hyp.2 q_
      refine r_aload_n (dcx dX9_weeks_c0 7 rfl) 0 rfl ?_
      refine s_getr (b := 50) fX9_47 (dcx dX9_weeks_c0 8 rfl) F0_3 ?_
      refine r_aload_n (dcx dX9_weeks_c0 9 rfl) 0 rfl ?_
      refine s_getr (b := 269) fX9_63 (dcx dX9_weeks_c0 10 rfl) F0_5 ?_
      refine s_callV (as := [.ref 269]) (st := []) zX5_keep kX9_weeks_195 (dcx dX9_weeks_c0 11 rfl) rfl rfl (Nat.le_of_ble_eq_true rfl) O50 rfl rfl (C2.mono hyp ?_)
      rintro _ s3_ ⟨rfl, hyp⟩
      show G2 Γ l mX9_weeks 24 [(0, .ref 0), (1, .int x1)] [] s3_ K
      refine r_iconst (v := 0) (dcx dX9_weeks_c0 12 rfl) rfl ?_
      refine r_istore_n (lv1 := [(2, .int 0), (0, .ref 0), (1, .int x1)]) (dcx dX9_weeks_c0 13 rfl) (Nat.le_of_ble_eq_true rfl) rfl ?_
      refine r_loc (lv1 := [(0, .ref 0), (1, .int x1), (2, .int 0)]) [1, 2, 0] rfl ?_
      exact hyp
  · have hyp := hyp.2 q_
    refine r_iconst (v := (-1)) (dcx dX9_weeks_c0 3 rfl) rfl ?_
    exact s_ret rfl rfl rfl hyp (dcx dX9_weeks_c0 4 rfl)
set_option maxHeartbeats 4000000 in
set_option maxRecDepth 20000 in
theorem tX9_weeks_26 {Γ : GE} {l : Launch} {x1 : Int32} {x2 : Int32} {σ : SS} {K : Option Value → SS → Prop}  (hyp : (x1 ≤ x2 → (K (some (.int (σ.1 269 4))) σ)) ∧ (¬ (x1 ≤ x2) → (C2 Γ l mX1_live [.ref 46, .ref 269] σ (Rv fun s1_ => (wX9_weeks_26 Γ l x1 (x2 + 1) s1_ K))))) : wX9_weeks_26 Γ l x1 x2 σ K := by
  show G2 Γ l mX9_weeks 26 [(0, .ref 0), (1, .int x1), (2, .int x2)] [] σ K
  refine r_iload_n (dcx dX9_weeks_c0 14 rfl) 2 rfl ?_
  refine r_iload_n (dcx dX9_weeks_c0 15 rfl) 1 rfl ?_
  refine r_icmp_ge (tgt := 48) (dcx dX9_weeks_c0 16 rfl) (by decide) (fun q_ => ?_) (fun q_ => ?_)
  · have hyp := hyp.1 q_
    refine r_aload_n (dcx dX9_weeks_c0 24 rfl) 0 rfl ?_
    refine s_getr (b := 269) fX9_63 (dcx dX9_weeks_c0 25 rfl) F0_5 ?_
    refine s_geti fX9_226 (dcx dX9_weeks_c0 26 rfl) (FL_4 isL269) ?_
    exact s_ret rfl rfl rfl hyp (dcx dX9_weeks_c0 27 rfl)
  · have hyp := hyp.2 q_
    refine r_aload_n (dcx dX9_weeks_c0 17 rfl) 0 rfl ?_
    refine s_getr (b := 46) fX9_40 (dcx dX9_weeks_c0 18 rfl) F0_2 ?_
    refine r_aload_n (dcx dX9_weeks_c0 19 rfl) 0 rfl ?_
    refine s_getr (b := 269) fX9_63 (dcx dX9_weeks_c0 20 rfl) F0_5 ?_
    refine s_callV (as := [.ref 269]) (st := []) zX1_live kX9_weeks_223 (dcx dX9_weeks_c0 21 rfl) rfl rfl (Nat.le_of_ble_eq_true rfl) O46 rfl rfl (C2.mono hyp ?_)
    rintro _ s1_ ⟨rfl, hyp⟩
    show G2 Γ l mX9_weeks 42 [(0, .ref 0), (1, .int x1), (2, .int x2)] [] s1_ K
    refine r_iinc (lv1 := [(2, .int (x2 + 1)), (0, .ref 0), (1, .int x1)]) (dcx dX9_weeks_c0 22 rfl) 2 rfl (Nat.le_of_ble_eq_true rfl) rfl ?_
    refine r_goto (tgt := 26) (dcx dX9_weeks_c0 23 rfl) (by decide) ?_
    refine r_loc (lv1 := [(0, .ref 0), (1, .int x1), (2, .int (x2 + 1))]) [1, 2, 0] rfl ?_
    exact hyp
set_option maxHeartbeats 4000000 in
set_option maxRecDepth 20000 in
theorem tX9_undo {Γ : GE} {l : Launch}  {σ : SS} {K : Option Value → SS → Prop}  (hyp : C2 Γ l mX5_takeBack [.ref 50, .ref 269] σ (Ri fun r2_ s1_ => (narrow .boolean (.int r2_) = .int r2_ ∧ K (some (.int r2_)) s1_))) : C2 Γ l mX9_undo [.ref 0] σ K := by
  refine c2_of (lv := [(0, .ref 0)]) (by decide) (Nat.le_of_ble_eq_true rfl) rfl ?_
  refine r_aload_n (dcx dX9_undo_c0 0 rfl) 0 rfl ?_
  refine s_getr (b := 50) fX9_47 (dcx dX9_undo_c0 1 rfl) F0_3 ?_
  refine r_aload_n (dcx dX9_undo_c0 2 rfl) 0 rfl ?_
  refine s_getr (b := 269) fX9_63 (dcx dX9_undo_c0 3 rfl) F0_5 ?_
  refine s_callV (as := [.ref 269]) (st := []) zX5_takeBack kX9_undo_229 (dcx dX9_undo_c0 4 rfl) rfl rfl (Nat.le_of_ble_eq_true rfl) O50 rfl rfl (C2.mono hyp ?_)
  rintro _ s1_ ⟨r2_, rfl, hyp⟩
  show G2 Γ l mX9_undo 11 [(0, .ref 0)] [.int r2_] s1_ K
  exact s_ret rfl rfl hyp.1 hyp.2 (dcx dX9_undo_c0 5 rfl)
def wX9_best_39 (Γ : GE) (l : Launch) (x1 : Int32) (x2 : Int32) (x3 : Int32) (x4 : Int32) (x5 : Int32) (x6 : Int32) (σ : SS) (K : Option Value → SS → Prop) : Prop := G2 Γ l mX9_best 39 [(0, .ref 0), (1, .int x1), (2, .int x2), (3, .int x3), (4, .int x4), (5, .int x5), (6, .int x6)] [] σ K
def wX9_best_56 (Γ : GE) (l : Launch) (x1 : Int32) (x2 : Int32) (x3 : Int32) (x4 : Int32) (x5 : Int32) (x6 : Int32) (x7 : Int32) (σ : SS) (K : Option Value → SS → Prop) : Prop := G2 Γ l mX9_best 56 [(0, .ref 0), (1, .int x1), (2, .int x2), (3, .int x3), (4, .int x4), (5, .int x5), (6, .int x6), (7, .int x7)] [] σ K
set_option maxHeartbeats 4000000 in
set_option maxRecDepth 20000 in
theorem tX9_best {Γ : GE} {l : Launch} {x1 : Int32} {x2 : Int32} {σ : SS} {K : Option Value → SS → Prop}  (hyp : ∃ b1_ : Nat, σ.2.2 0 8 = b1_ ∧ isP b1_ ∧ (C2 Γ l mX6_hasPlace [.ref b1_, .int x1, .int 0, .int 0] σ (Ri fun r3_ s2_ => ((r3_ = 0 → (K (some (.int ((-2000)))) s2_)) ∧ (¬ (r3_ = 0) → ((x2 < 0 → (K (some (.int ((-2000)))) s2_)) ∧ (¬ (x2 < 0) → ((x2 ≤ 2 → (wX9_best_39 Γ l x1 x2 ((-2000)) 0 0 0 s2_ K)) ∧ (¬ (x2 ≤ 2) → (K (some (.int ((-2000)))) s2_)))))))))) : C2 Γ l mX9_best [.ref 0, .int x1, .int x2] σ K := by
  refine c2_of (lv := [(0, .ref 0), (1, .int x1), (2, .int x2)]) (by decide) (Nat.le_of_ble_eq_true rfl) rfl ?_
  refine r_aload_n (dcx dX9_best_c0 0 rfl) 0 rfl ?_
  obtain ⟨b1_, eb1_, hb1_, hyp⟩ := hyp
  refine s_getmE fX9_28 (dcx dX9_best_c0 1 rfl) F0_8 eb1_ (nzP hb1_) ?_
  refine r_iload_n (dcx dX9_best_c0 2 rfl) 1 rfl ?_
  refine r_iconst (v := 0) (dcx dX9_best_c0 3 rfl) rfl ?_
  refine r_iconst (v := 0) (dcx dX9_best_c0 4 rfl) rfl ?_
  refine s_callV (as := [.int x1, .int 0, .int 0]) (st := []) zX6_hasPlace kX9_best_178 (dcx dX9_best_c0 5 rfl) rfl rfl (Nat.le_of_ble_eq_true rfl) (OP hb1_) rfl rfl (C2.mono hyp ?_)
  rintro _ s2_ ⟨r3_, rfl, hyp⟩
  show G2 Γ l mX9_best 10 [(0, .ref 0), (1, .int x1), (2, .int x2)] [.int r3_] s2_ K
  refine r_if_eq (tgt := 22) (dcx dX9_best_c0 6 rfl) (by decide) (fun q_ => ?_) (fun q_ => ?_)
  · have hyp := hyp.1 q_
    refine r_sipush (v := (-2000)) (dcx dX9_best_c0 12 rfl) rfl ?_
    exact s_ret rfl rfl rfl hyp (dcx dX9_best_c0 13 rfl)
  · have hyp := hyp.2 q_
    refine r_iload_n (dcx dX9_best_c0 7 rfl) 2 rfl ?_
    refine r_if_lt (tgt := 22) (dcx dX9_best_c0 8 rfl) (by decide) (fun q_ => ?_) (fun q_ => ?_)
    · have hyp := hyp.1 q_
      refine r_sipush (v := (-2000)) (dcx dX9_best_c0 12 rfl) rfl ?_
      exact s_ret rfl rfl rfl hyp (dcx dX9_best_c0 13 rfl)
    · have hyp := hyp.2 q_
      refine r_iload_n (dcx dX9_best_c0 9 rfl) 2 rfl ?_
      refine r_iconst (v := 2) (dcx dX9_best_c0 10 rfl) rfl ?_
      refine r_icmp_le (tgt := 26) (dcx dX9_best_c0 11 rfl) (by decide) (fun q_ => ?_) (fun q_ => ?_)
      · have hyp := hyp.1 q_
        refine r_sipush (v := (-2000)) (dcx dX9_best_c0 14 rfl) rfl ?_
        refine r_istore_n (lv1 := [(3, .int ((-2000))), (0, .ref 0), (1, .int x1), (2, .int x2)]) (dcx dX9_best_c0 15 rfl) (Nat.le_of_ble_eq_true rfl) rfl ?_
        refine r_iconst (v := 0) (dcx dX9_best_c0 16 rfl) rfl ?_
        refine r_istore (lv1 := [(4, .int 0), (3, .int ((-2000))), (0, .ref 0), (1, .int x1), (2, .int x2)]) (dcx dX9_best_c0 17 rfl) (Nat.le_of_ble_eq_true rfl) rfl ?_
        refine r_iconst (v := 0) (dcx dX9_best_c0 18 rfl) rfl ?_
        refine r_istore (lv1 := [(5, .int 0), (4, .int 0), (3, .int ((-2000))), (0, .ref 0), (1, .int x1), (2, .int x2)]) (dcx dX9_best_c0 19 rfl) (Nat.le_of_ble_eq_true rfl) rfl ?_
        refine r_iconst (v := 0) (dcx dX9_best_c0 20 rfl) rfl ?_
        refine r_istore (lv1 := [(6, .int 0), (5, .int 0), (4, .int 0), (3, .int ((-2000))), (0, .ref 0), (1, .int x1), (2, .int x2)]) (dcx dX9_best_c0 21 rfl) (Nat.le_of_ble_eq_true rfl) rfl ?_
        refine r_loc (lv1 := [(0, .ref 0), (1, .int x1), (2, .int x2), (3, .int ((-2000))), (4, .int 0), (5, .int 0), (6, .int 0)]) [4, 5, 6, 3, 2, 1, 0] rfl ?_
        exact hyp
      · have hyp := hyp.2 q_
        refine r_sipush (v := (-2000)) (dcx dX9_best_c0 12 rfl) rfl ?_
        exact s_ret rfl rfl rfl hyp (dcx dX9_best_c0 13 rfl)
set_option maxHeartbeats 4000000 in
set_option maxRecDepth 20000 in
theorem tX9_best_39 {Γ : GE} {l : Launch} {x1 : Int32} {x2 : Int32} {x3 : Int32} {x4 : Int32} {x5 : Int32} {x6 : Int32} {σ : SS} {K : Option Value → SS → Prop}  (hyp : ∃ b1_ : Nat, σ.2.2 0 8 = b1_ ∧ isP b1_ ∧ (((σ.1 b1_ 12) ≤ (x6 + 2) → ((¬ x2 = 0 → ((¬ x2 = 1 → (K (some (.int x5)) σ)) ∧ (x2 = 1 → (K (some (.int x4)) σ)))) ∧ (x2 = 0 → (K (some (.int x3)) σ)))) ∧ (¬ ((σ.1 b1_ 12) ≤ (x6 + 2)) → (wX9_best_56 Γ l x1 x2 x3 x4 x5 x6 0 σ K)))) : wX9_best_39 Γ l x1 x2 x3 x4 x5 x6 σ K := by
  show G2 Γ l mX9_best 39 [(0, .ref 0), (1, .int x1), (2, .int x2), (3, .int x3), (4, .int x4), (5, .int x5), (6, .int x6)] [] σ K
  refine r_iload (dcx dX9_best_c0 22 rfl) 6 rfl ?_
  refine r_iconst (v := 2) (dcx dX9_best_c0 23 rfl) rfl ?_
  refine r_iadd (dcx dX9_best_c0 24 rfl) ?_
  refine r_aload_n (dcx dX9_best_c0 25 rfl) 0 rfl ?_
  obtain ⟨b1_, eb1_, hb1_, hyp⟩ := hyp
  refine s_getmE fX9_28 (dcx dX9_best_c0 26 rfl) F0_8 eb1_ (nzP hb1_) ?_
  refine s_geti fX9_185 (dcx dX9_best_c0 27 rfl) (FP_12 hb1_) ?_
  refine r_icmp_ge (tgt := 117) (dcx dX9_best_c0 28 rfl) (by decide) (fun q_ => ?_) (fun q_ => ?_)
  · have hyp := hyp.1 q_
    refine r_iload_n (dcx dX9_best_c1 20 rfl) 2 rfl ?_
    refine r_if_ne (tgt := 123) (dcx dX9_best_c1 21 rfl) (by decide) (fun q_ => ?_) (fun q_ => ?_)
    · have hyp := hyp.1 q_
      refine r_iload_n (dcx dX9_best_c1 24 rfl) 2 rfl ?_
      refine r_iconst (v := 1) (dcx dX9_best_c1 25 rfl) rfl ?_
      refine r_icmp_ne (tgt := 133) (dcx dX9_best_c1 26 rfl) (by decide) (fun q_ => ?_) (fun q_ => ?_)
      · have hyp := hyp.1 q_
        refine r_iload (dcx dX9_best_c1 29 rfl) 5 rfl ?_
        exact s_ret rfl rfl rfl hyp (dcx dX9_best_c1 30 rfl)
      · have hyp := hyp.2 q_
        refine r_iload (dcx dX9_best_c1 27 rfl) 4 rfl ?_
        refine r_goto (tgt := 135) (dcx dX9_best_c1 28 rfl) (by decide) ?_
        exact s_ret rfl rfl rfl hyp (dcx dX9_best_c1 30 rfl)
    · have hyp := hyp.2 q_
      refine r_iload_n (dcx dX9_best_c1 22 rfl) 3 rfl ?_
      exact s_ret rfl rfl rfl hyp (dcx dX9_best_c1 23 rfl)
  · have hyp := hyp.2 q_
    refine r_iconst (v := 0) (dcx dX9_best_c0 29 rfl) rfl ?_
    refine r_istore (lv1 := [(7, .int 0), (0, .ref 0), (1, .int x1), (2, .int x2), (3, .int x3), (4, .int x4), (5, .int x5), (6, .int x6)]) (dcx dX9_best_c0 30 rfl) (Nat.le_of_ble_eq_true rfl) rfl ?_
    refine r_loc (lv1 := [(0, .ref 0), (1, .int x1), (2, .int x2), (3, .int x3), (4, .int x4), (5, .int x5), (6, .int x6), (7, .int 0)]) [1, 2, 3, 4, 5, 6, 7, 0] rfl ?_
    exact hyp
set_option maxHeartbeats 4000000 in
set_option maxRecDepth 20000 in
theorem tX9_best_56 {Γ : GE} {l : Launch} {x1 : Int32} {x2 : Int32} {x3 : Int32} {x4 : Int32} {x5 : Int32} {x6 : Int32} {x7 : Int32} {σ : SS} {K : Option Value → SS → Prop}  (hyp : ∃ b1_ : Nat, σ.2.2 0 8 = b1_ ∧ isP b1_ ∧ (((σ.1 b1_ 11) ≤ (x7 + 2) → (wX9_best_39 Γ l x1 x2 x3 x4 x5 (x6 + 1) σ K)) ∧ (¬ ((σ.1 b1_ 11) ≤ (x7 + 2)) → (C2 Γ l mX1_standsOut [.ref 46, .ref 269, .int x1, .int x7, .int x6] σ (Ri fun r3_ s2_ => ((r3_ ≤ x3 → (wX9_best_56 Γ l x1 x2 x3 x4 x5 x6 (x7 + 1) s2_ K)) ∧ (¬ (r3_ ≤ x3) → (wX9_best_56 Γ l x1 x2 r3_ x7 x6 x6 (x7 + 1) s2_ K)))))))) : wX9_best_56 Γ l x1 x2 x3 x4 x5 x6 x7 σ K := by
  show G2 Γ l mX9_best 56 [(0, .ref 0), (1, .int x1), (2, .int x2), (3, .int x3), (4, .int x4), (5, .int x5), (6, .int x6), (7, .int x7)] [] σ K
  refine r_iload (dcx dX9_best_c0 31 rfl) 7 rfl ?_
  refine r_iconst (v := 2) (dcx dX9_best_c0 32 rfl) rfl ?_
  refine r_iadd (dcx dX9_best_c0 33 rfl) ?_
  refine r_aload_n (dcx dX9_best_c0 34 rfl) 0 rfl ?_
  obtain ⟨b1_, eb1_, hb1_, hyp⟩ := hyp
  refine s_getmE fX9_28 (dcx dX9_best_c0 35 rfl) F0_8 eb1_ (nzP hb1_) ?_
  refine s_geti fX9_188 (dcx dX9_best_c0 36 rfl) (FP_11 hb1_) ?_
  refine r_icmp_ge (tgt := 111) (dcx dX9_best_c0 37 rfl) (by decide) (fun q_ => ?_) (fun q_ => ?_)
  · have hyp := hyp.1 q_
    refine r_iinc (lv1 := [(6, .int (x6 + 1)), (0, .ref 0), (1, .int x1), (2, .int x2), (3, .int x3), (4, .int x4), (5, .int x5), (7, .int x7)]) (dcx dX9_best_c1 18 rfl) 6 rfl (Nat.le_of_ble_eq_true rfl) rfl ?_
    refine r_goto (tgt := 39) (dcx dX9_best_c1 19 rfl) (by decide) ?_
    refine r_loc (lv1 := [(0, .ref 0), (1, .int x1), (2, .int x2), (3, .int x3), (4, .int x4), (5, .int x5), (6, .int (x6 + 1))]) [1, 2, 3, 4, 5, 6, 0] rfl ?_
    exact hyp
  · have hyp := hyp.2 q_
    refine r_aload_n (dcx dX9_best_c0 38 rfl) 0 rfl ?_
    refine s_getr (b := 46) fX9_40 (dcx dX9_best_c0 39 rfl) F0_2 ?_
    refine r_aload_n (dcx dX9_best_c1 0 rfl) 0 rfl ?_
    refine s_getr (b := 269) fX9_63 (dcx dX9_best_c1 1 rfl) F0_5 ?_
    refine r_iload_n (dcx dX9_best_c1 2 rfl) 1 rfl ?_
    refine r_iload (dcx dX9_best_c1 3 rfl) 7 rfl ?_
    refine r_iload (dcx dX9_best_c1 4 rfl) 6 rfl ?_
    refine s_callV (as := [.ref 269, .int x1, .int x7, .int x6]) (st := []) zX1_standsOut kX9_best_182 (dcx dX9_best_c1 5 rfl) rfl rfl (Nat.le_of_ble_eq_true rfl) O46 rfl rfl (C2.mono hyp ?_)
    rintro _ s2_ ⟨r3_, rfl, hyp⟩
    show G2 Γ l mX9_best 86 [(0, .ref 0), (1, .int x1), (2, .int x2), (3, .int x3), (4, .int x4), (5, .int x5), (6, .int x6), (7, .int x7)] [.int r3_] s2_ K
    refine r_istore (lv1 := [(8, .int r3_), (0, .ref 0), (1, .int x1), (2, .int x2), (3, .int x3), (4, .int x4), (5, .int x5), (6, .int x6), (7, .int x7)]) (dcx dX9_best_c1 6 rfl) (Nat.le_of_ble_eq_true rfl) rfl ?_
    refine r_iload (dcx dX9_best_c1 7 rfl) 0 rfl ?_
    refine r_iload_n (dcx dX9_best_c1 8 rfl) 4 rfl ?_
    refine r_icmp_le (tgt := 105) (dcx dX9_best_c1 9 rfl) (by decide) (fun q_ => ?_) (fun q_ => ?_)
    · have hyp := hyp.1 q_
      refine r_iinc (lv1 := [(7, .int (x7 + 1)), (8, .int r3_), (0, .ref 0), (1, .int x1), (2, .int x2), (3, .int x3), (4, .int x4), (5, .int x5), (6, .int x6)]) (dcx dX9_best_c1 16 rfl) 8 rfl (Nat.le_of_ble_eq_true rfl) rfl ?_
      refine r_goto (tgt := 56) (dcx dX9_best_c1 17 rfl) (by decide) ?_
      refine r_loc (lv1 := [(0, .ref 0), (1, .int x1), (2, .int x2), (3, .int x3), (4, .int x4), (5, .int x5), (6, .int x6), (7, .int (x7 + 1))]) [2, 3, 4, 5, 6, 7, 8, 0] rfl ?_
      exact hyp
    · have hyp := hyp.2 q_
      refine r_iload (dcx dX9_best_c1 10 rfl) 0 rfl ?_
      refine r_istore_n (lv1 := [(3, .int r3_), (8, .int r3_), (0, .ref 0), (1, .int x1), (2, .int x2), (4, .int x4), (5, .int x5), (6, .int x6), (7, .int x7)]) (dcx dX9_best_c1 11 rfl) (Nat.le_of_ble_eq_true rfl) rfl ?_
      refine r_iload (dcx dX9_best_c1 12 rfl) 8 rfl ?_
      refine r_istore (lv1 := [(4, .int x7), (3, .int r3_), (8, .int r3_), (0, .ref 0), (1, .int x1), (2, .int x2), (5, .int x5), (6, .int x6), (7, .int x7)]) (dcx dX9_best_c1 13 rfl) (Nat.le_of_ble_eq_true rfl) rfl ?_
      refine r_iload (dcx dX9_best_c1 14 rfl) 7 rfl ?_
      refine r_istore (lv1 := [(5, .int x6), (4, .int x7), (3, .int r3_), (8, .int r3_), (0, .ref 0), (1, .int x1), (2, .int x2), (6, .int x6), (7, .int x7)]) (dcx dX9_best_c1 15 rfl) (Nat.le_of_ble_eq_true rfl) rfl ?_
      refine r_iinc (lv1 := [(7, .int (x7 + 1)), (5, .int x6), (4, .int x7), (3, .int r3_), (8, .int r3_), (0, .ref 0), (1, .int x1), (2, .int x2), (6, .int x6)]) (dcx dX9_best_c1 16 rfl) 8 rfl (Nat.le_of_ble_eq_true rfl) rfl ?_
      refine r_goto (tgt := 56) (dcx dX9_best_c1 17 rfl) (by decide) ?_
      refine r_loc (lv1 := [(0, .ref 0), (1, .int x1), (2, .int x2), (3, .int r3_), (4, .int x7), (5, .int x6), (6, .int x6), (7, .int (x7 + 1))]) [5, 6, 7, 3, 2, 1, 8, 0] rfl ?_
      exact hyp
set_option maxHeartbeats 4000000 in
set_option maxRecDepth 20000 in
theorem tX9_gone {Γ : GE} {l : Launch} {x1 : Int32} {x2 : Int32} {x3 : Int32} {σ : SS} {K : Option Value → SS → Prop}  (hyp : ∃ b1_ : Nat, σ.2.2 0 8 = b1_ ∧ isP b1_ ∧ (C2 Γ l mX6_hasPlace [.ref b1_, .int x1, .int x2, .int x3] σ (Ri fun r3_ s2_ => ((¬ r3_ = 0 → (C2 Γ l mX4_become [.ref 274, .ref 269] s2_ (Rv fun s4_ => (C2 Γ l mX9_weeksTillGone [.ref 0, .int x1, .int x2, .int x3] s4_ (Ri fun r7_ s6_ => ((r7_ ≤ 99 → (K (some (.int r7_)) s6_)) ∧ (¬ (r7_ ≤ 99) → (K (some (.int ((-2)))) s6_)))))))) ∧ (r3_ = 0 → (K (some (.int ((-1)))) s2_)))))) : C2 Γ l mX9_gone [.ref 0, .int x1, .int x2, .int x3] σ K := by
  refine c2_of (lv := [(0, .ref 0), (1, .int x1), (2, .int x2), (3, .int x3)]) (by decide) (Nat.le_of_ble_eq_true rfl) rfl ?_
  refine r_aload_n (dcx dX9_gone_c0 0 rfl) 0 rfl ?_
  obtain ⟨b1_, eb1_, hb1_, hyp⟩ := hyp
  refine s_getmE fX9_28 (dcx dX9_gone_c0 1 rfl) F0_8 eb1_ (nzP hb1_) ?_
  refine r_iload_n (dcx dX9_gone_c0 2 rfl) 1 rfl ?_
  refine r_iload_n (dcx dX9_gone_c0 3 rfl) 2 rfl ?_
  refine r_iload_n (dcx dX9_gone_c0 4 rfl) 3 rfl ?_
  refine s_callV (as := [.int x1, .int x2, .int x3]) (st := []) zX6_hasPlace kX9_gone_178 (dcx dX9_gone_c0 5 rfl) rfl rfl (Nat.le_of_ble_eq_true rfl) (OP hb1_) rfl rfl (C2.mono hyp ?_)
  rintro _ s2_ ⟨r3_, rfl, hyp⟩
  show G2 Γ l mX9_gone 10 [(0, .ref 0), (1, .int x1), (2, .int x2), (3, .int x3)] [.int r3_] s2_ K
  refine r_if_ne (tgt := 15) (dcx dX9_gone_c0 6 rfl) (by decide) (fun q_ => ?_) (fun q_ => ?_)
  · have hyp := hyp.1 q_
    refine r_aload_n (dcx dX9_gone_c0 9 rfl) 0 rfl ?_
    refine s_getr (b := 274) fX9_67 (dcx dX9_gone_c0 10 rfl) F0_6 ?_
    refine r_aload_n (dcx dX9_gone_c0 11 rfl) 0 rfl ?_
    refine s_getr (b := 269) fX9_63 (dcx dX9_gone_c0 12 rfl) F0_5 ?_
    refine s_callV (as := [.ref 269]) (st := []) zX4_become kX9_gone_233 (dcx dX9_gone_c0 13 rfl) rfl rfl (Nat.le_of_ble_eq_true rfl) (OL isL274) rfl rfl (C2.mono hyp ?_)
    rintro _ s4_ ⟨rfl, hyp⟩
    show G2 Γ l mX9_gone 26 [(0, .ref 0), (1, .int x1), (2, .int x2), (3, .int x3)] [] s4_ K
    refine r_aload_n (dcx dX9_gone_c0 14 rfl) 0 rfl ?_
    refine r_iload_n (dcx dX9_gone_c0 15 rfl) 1 rfl ?_
    refine r_iload_n (dcx dX9_gone_c0 16 rfl) 2 rfl ?_
    refine r_iload_n (dcx dX9_gone_c0 17 rfl) 3 rfl ?_
    refine s_callV (as := [.int x1, .int x2, .int x3]) (st := []) zX9_weeksTillGone kX9_gone_236 (dcx dX9_gone_c0 18 rfl) rfl rfl (Nat.le_of_ble_eq_true rfl) O0 rfl rfl (C2.mono hyp ?_)
    rintro _ s6_ ⟨r7_, rfl, hyp⟩
    show G2 Γ l mX9_gone 33 [(0, .ref 0), (1, .int x1), (2, .int x2), (3, .int x3)] [.int r7_] s6_ K
    refine r_istore (lv1 := [(4, .int r7_), (0, .ref 0), (1, .int x1), (2, .int x2), (3, .int x3)]) (dcx dX9_gone_c0 19 rfl) (Nat.le_of_ble_eq_true rfl) rfl ?_
    refine r_iload (dcx dX9_gone_c0 20 rfl) 0 rfl ?_
    refine r_bipush (v := 99) (dcx dX9_gone_c0 21 rfl) rfl ?_
    refine r_icmp_le (tgt := 47) (dcx dX9_gone_c0 22 rfl) (by decide) (fun q_ => ?_) (fun q_ => ?_)
    · have hyp := hyp.1 q_
      refine r_iload (dcx dX9_gone_c0 25 rfl) 0 rfl ?_
      exact s_ret rfl rfl rfl hyp (dcx dX9_gone_c0 26 rfl)
    · have hyp := hyp.2 q_
      refine r_bipush (v := (-2)) (dcx dX9_gone_c0 23 rfl) rfl ?_
      refine r_goto (tgt := 49) (dcx dX9_gone_c0 24 rfl) (by decide) ?_
      exact s_ret rfl rfl rfl hyp (dcx dX9_gone_c0 26 rfl)
  · have hyp := hyp.2 q_
    refine r_iconst (v := (-1)) (dcx dX9_gone_c0 7 rfl) rfl ?_
    exact s_ret rfl rfl rfl hyp (dcx dX9_gone_c0 8 rfl)
def wX9_weeksTillGone_3 (Γ : GE) (l : Launch) (x1 : Int32) (x2 : Int32) (x3 : Int32) (x4 : Int32) (σ : SS) (K : Option Value → SS → Prop) : Prop := G2 Γ l mX9_weeksTillGone 3 [(0, .ref 0), (1, .int x1), (2, .int x2), (3, .int x3), (4, .int x4)] [] σ K
set_option maxHeartbeats 4000000 in
set_option maxRecDepth 20000 in
theorem tX9_weeksTillGone {Γ : GE} {l : Launch} {x1 : Int32} {x2 : Int32} {x3 : Int32} {σ : SS} {K : Option Value → SS → Prop}  (hyp : wX9_weeksTillGone_3 Γ l x1 x2 x3 0 σ K) : C2 Γ l mX9_weeksTillGone [.ref 0, .int x1, .int x2, .int x3] σ K := by
  refine c2_of (lv := [(0, .ref 0), (1, .int x1), (2, .int x2), (3, .int x3)]) (by decide) (Nat.le_of_ble_eq_true rfl) rfl ?_
  refine r_iconst (v := 0) (dcx dX9_weeksTillGone_c0 0 rfl) rfl ?_
  refine r_istore (lv1 := [(4, .int 0), (0, .ref 0), (1, .int x1), (2, .int x2), (3, .int x3)]) (dcx dX9_weeksTillGone_c0 1 rfl) (Nat.le_of_ble_eq_true rfl) rfl ?_
  refine r_loc (lv1 := [(0, .ref 0), (1, .int x1), (2, .int x2), (3, .int x3), (4, .int 0)]) [1, 2, 3, 4, 0] rfl ?_
  exact hyp
set_option maxHeartbeats 4000000 in
set_option maxRecDepth 20000 in
theorem tX9_weeksTillGone_3 {Γ : GE} {l : Launch} {x1 : Int32} {x2 : Int32} {x3 : Int32} {x4 : Int32} {σ : SS} {K : Option Value → SS → Prop}  (hyp : ((99 : Int32) ≤ x4 → (C2 Γ l mX1_someoneReads [.ref 46, .ref 274, .int x1, .int x2, .int x3] σ (Ri fun r2_ s1_ => ((r2_ = 0 → (K (some (.int 99)) s1_)) ∧ (¬ (r2_ = 0) → (K (some (.int 100)) s1_)))))) ∧ (¬ ((99 : Int32) ≤ x4) → (C2 Γ l mX1_someoneReads [.ref 46, .ref 274, .int x1, .int x2, .int x3] σ (Ri fun r4_ s3_ => ((¬ r4_ = 0 → (∃ b5_ : Nat, s3_.2.2 0 8 = b5_ ∧ isP b5_ ∧ (C2 Γ l mX1_growWeek [.ref 46, .ref 274, .int (s3_.1 b5_ 19)] s3_ (Rv fun s6_ => (wX9_weeksTillGone_3 Γ l x1 x2 x3 (x4 + 1) s6_ K))))) ∧ (r4_ = 0 → (K (some (.int x4)) s3_))))))) : wX9_weeksTillGone_3 Γ l x1 x2 x3 x4 σ K := by
  show G2 Γ l mX9_weeksTillGone 3 [(0, .ref 0), (1, .int x1), (2, .int x2), (3, .int x3), (4, .int x4)] [] σ K
  refine r_iload (dcx dX9_weeksTillGone_c0 2 rfl) 4 rfl ?_
  refine r_bipush (v := 99) (dcx dX9_weeksTillGone_c0 3 rfl) rfl ?_
  refine r_icmp_ge (tgt := 54) (dcx dX9_weeksTillGone_c0 4 rfl) (by decide) (fun q_ => ?_) (fun q_ => ?_)
  · have hyp := hyp.1 q_
    refine r_aload_n (dcx dX9_weeksTillGone_c0 26 rfl) 0 rfl ?_
    refine s_getr (b := 46) fX9_40 (dcx dX9_weeksTillGone_c0 27 rfl) F0_2 ?_
    refine r_aload_n (dcx dX9_weeksTillGone_c0 28 rfl) 0 rfl ?_
    refine s_getr (b := 274) fX9_67 (dcx dX9_weeksTillGone_c0 29 rfl) F0_6 ?_
    refine r_iload_n (dcx dX9_weeksTillGone_c0 30 rfl) 1 rfl ?_
    refine r_iload_n (dcx dX9_weeksTillGone_c0 31 rfl) 2 rfl ?_
    refine r_iload_n (dcx dX9_weeksTillGone_c0 32 rfl) 3 rfl ?_
    refine s_callV (as := [.ref 274, .int x1, .int x2, .int x3]) (st := []) zX1_someoneReads kX9_weeksTillGone_240 (dcx dX9_weeksTillGone_c0 33 rfl) rfl rfl (Nat.le_of_ble_eq_true rfl) O46 rfl rfl (C2.mono hyp ?_)
    rintro _ s1_ ⟨r2_, rfl, hyp⟩
    show G2 Γ l mX9_weeksTillGone 68 [(0, .ref 0), (1, .int x1), (2, .int x2), (3, .int x3), (4, .int x4)] [.int r2_] s1_ K
    refine r_if_eq (tgt := 76) (dcx dX9_weeksTillGone_c0 34 rfl) (by decide) (fun q_ => ?_) (fun q_ => ?_)
    · have hyp := hyp.1 q_
      refine r_bipush (v := 99) (dcx dX9_weeksTillGone_c0 37 rfl) rfl ?_
      exact s_ret rfl rfl rfl hyp (dcx dX9_weeksTillGone_c0 38 rfl)
    · have hyp := hyp.2 q_
      refine r_bipush (v := 100) (dcx dX9_weeksTillGone_c0 35 rfl) rfl ?_
      refine r_goto (tgt := 78) (dcx dX9_weeksTillGone_c0 36 rfl) (by decide) ?_
      exact s_ret rfl rfl rfl hyp (dcx dX9_weeksTillGone_c0 38 rfl)
  · have hyp := hyp.2 q_
    refine r_aload_n (dcx dX9_weeksTillGone_c0 5 rfl) 0 rfl ?_
    refine s_getr (b := 46) fX9_40 (dcx dX9_weeksTillGone_c0 6 rfl) F0_2 ?_
    refine r_aload_n (dcx dX9_weeksTillGone_c0 7 rfl) 0 rfl ?_
    refine s_getr (b := 274) fX9_67 (dcx dX9_weeksTillGone_c0 8 rfl) F0_6 ?_
    refine r_iload_n (dcx dX9_weeksTillGone_c0 9 rfl) 1 rfl ?_
    refine r_iload_n (dcx dX9_weeksTillGone_c0 10 rfl) 2 rfl ?_
    refine r_iload_n (dcx dX9_weeksTillGone_c0 11 rfl) 3 rfl ?_
    refine s_callV (as := [.ref 274, .int x1, .int x2, .int x3]) (st := []) zX1_someoneReads kX9_weeksTillGone_240 (dcx dX9_weeksTillGone_c0 12 rfl) rfl rfl (Nat.le_of_ble_eq_true rfl) O46 rfl rfl (C2.mono hyp ?_)
    rintro _ s3_ ⟨r4_, rfl, hyp⟩
    show G2 Γ l mX9_weeksTillGone 24 [(0, .ref 0), (1, .int x1), (2, .int x2), (3, .int x3), (4, .int x4)] [.int r4_] s3_ K
    refine r_if_ne (tgt := 30) (dcx dX9_weeksTillGone_c0 13 rfl) (by decide) (fun q_ => ?_) (fun q_ => ?_)
    · have hyp := hyp.1 q_
      refine r_aload_n (dcx dX9_weeksTillGone_c0 16 rfl) 0 rfl ?_
      refine s_getr (b := 46) fX9_40 (dcx dX9_weeksTillGone_c0 17 rfl) F0_2 ?_
      refine r_aload_n (dcx dX9_weeksTillGone_c0 18 rfl) 0 rfl ?_
      refine s_getr (b := 274) fX9_67 (dcx dX9_weeksTillGone_c0 19 rfl) F0_6 ?_
      refine r_aload_n (dcx dX9_weeksTillGone_c0 20 rfl) 0 rfl ?_
      obtain ⟨b5_, eb5_, hb5_, hyp⟩ := hyp
      refine s_getmE fX9_28 (dcx dX9_weeksTillGone_c0 21 rfl) F0_8 eb5_ (nzP hb5_) ?_
      refine s_geti fX9_244 (dcx dX9_weeksTillGone_c0 22 rfl) (FP_19 hb5_) ?_
      refine s_callV (as := [.ref 274, .int (s3_.1 b5_ 19)]) (st := []) zX1_growWeek kX9_weeksTillGone_247 (dcx dX9_weeksTillGone_c0 23 rfl) rfl rfl (Nat.le_of_ble_eq_true rfl) O46 rfl rfl (C2.mono hyp ?_)
      rintro _ s6_ ⟨rfl, hyp⟩
      show G2 Γ l mX9_weeksTillGone 48 [(0, .ref 0), (1, .int x1), (2, .int x2), (3, .int x3), (4, .int x4)] [] s6_ K
      refine r_iinc (lv1 := [(4, .int (x4 + 1)), (0, .ref 0), (1, .int x1), (2, .int x2), (3, .int x3)]) (dcx dX9_weeksTillGone_c0 24 rfl) 4 rfl (Nat.le_of_ble_eq_true rfl) rfl ?_
      refine r_goto (tgt := 3) (dcx dX9_weeksTillGone_c0 25 rfl) (by decide) ?_
      refine r_loc (lv1 := [(0, .ref 0), (1, .int x1), (2, .int x2), (3, .int x3), (4, .int (x4 + 1))]) [1, 2, 3, 4, 0] rfl ?_
      exact hyp
    · have hyp := hyp.2 q_
      refine r_iload (dcx dX9_weeksTillGone_c0 14 rfl) 4 rfl ?_
      exact s_ret rfl rfl rfl hyp (dcx dX9_weeksTillGone_c0 15 rfl)
def wX9_when_48 (Γ : GE) (l : Launch) (x1 : Int32) (x2 : Int32) (x3 : Int32) (x4 : Int32) (x5 : Int32) (x6 : Int32) (σ : SS) (K : Option Value → SS → Prop) : Prop := G2 Γ l mX9_when 48 [(0, .ref 0), (1, .int x1), (2, .int x2), (3, .int x3), (4, .int x4), (5, .int x5), (6, .int x6)] [] σ K
set_option maxHeartbeats 4000000 in
set_option maxRecDepth 20000 in
theorem tX9_when {Γ : GE} {l : Launch} {x1 : Int32} {x2 : Int32} {x3 : Int32} {x4 : Int32} {x5 : Int32} {σ : SS} {K : Option Value → SS → Prop}  (hyp : ∃ b1_ : Nat, σ.2.2 0 8 = b1_ ∧ isP b1_ ∧ (C2 Γ l mX6_hasPlace [.ref b1_, .int x1, .int x2, .int x3] σ (Ri fun r3_ s2_ => ((r3_ = 0 → (K (some (.int ((-1)))) s2_)) ∧ (¬ (r3_ = 0) → ((x4 < 0 → (K (some (.int ((-1)))) s2_)) ∧ (¬ (x4 < 0) → ((x5 ≤ x4 → (K (some (.int ((-1)))) s2_)) ∧ (¬ (x5 ≤ x4) → ((x5 ≤ 60 → (C2 Γ l mX4_become [.ref 279, .ref 269] s2_ (Rv fun s4_ => (wX9_when_48 Γ l x1 x2 x3 x4 x5 0 s4_ K)))) ∧ (¬ (x5 ≤ 60) → (K (some (.int ((-1)))) s2_)))))))))))) : C2 Γ l mX9_when [.ref 0, .int x1, .int x2, .int x3, .int x4, .int x5] σ K := by
  refine c2_of (lv := [(0, .ref 0), (1, .int x1), (2, .int x2), (3, .int x3), (4, .int x4), (5, .int x5)]) (by decide) (Nat.le_of_ble_eq_true rfl) rfl ?_
  refine r_aload_n (dcx dX9_when_c0 0 rfl) 0 rfl ?_
  obtain ⟨b1_, eb1_, hb1_, hyp⟩ := hyp
  refine s_getmE fX9_28 (dcx dX9_when_c0 1 rfl) F0_8 eb1_ (nzP hb1_) ?_
  refine r_iload_n (dcx dX9_when_c0 2 rfl) 1 rfl ?_
  refine r_iload_n (dcx dX9_when_c0 3 rfl) 2 rfl ?_
  refine r_iload_n (dcx dX9_when_c0 4 rfl) 3 rfl ?_
  refine s_callV (as := [.int x1, .int x2, .int x3]) (st := []) zX6_hasPlace kX9_when_178 (dcx dX9_when_c0 5 rfl) rfl rfl (Nat.le_of_ble_eq_true rfl) (OP hb1_) rfl rfl (C2.mono hyp ?_)
  rintro _ s2_ ⟨r3_, rfl, hyp⟩
  show G2 Γ l mX9_when 10 [(0, .ref 0), (1, .int x1), (2, .int x2), (3, .int x3), (4, .int x4), (5, .int x5)] [.int r3_] s2_ K
  refine r_if_eq (tgt := 32) (dcx dX9_when_c0 6 rfl) (by decide) (fun q_ => ?_) (fun q_ => ?_)
  · have hyp := hyp.1 q_
    refine r_iconst (v := (-1)) (dcx dX9_when_c0 15 rfl) rfl ?_
    exact s_ret rfl rfl rfl hyp (dcx dX9_when_c0 16 rfl)
  · have hyp := hyp.2 q_
    refine r_iload (dcx dX9_when_c0 7 rfl) 4 rfl ?_
    refine r_if_lt (tgt := 32) (dcx dX9_when_c0 8 rfl) (by decide) (fun q_ => ?_) (fun q_ => ?_)
    · have hyp := hyp.1 q_
      refine r_iconst (v := (-1)) (dcx dX9_when_c0 15 rfl) rfl ?_
      exact s_ret rfl rfl rfl hyp (dcx dX9_when_c0 16 rfl)
    · have hyp := hyp.2 q_
      refine r_iload (dcx dX9_when_c0 9 rfl) 4 rfl ?_
      refine r_iload (dcx dX9_when_c0 10 rfl) 5 rfl ?_
      refine r_icmp_ge (tgt := 32) (dcx dX9_when_c0 11 rfl) (by decide) (fun q_ => ?_) (fun q_ => ?_)
      · have hyp := hyp.1 q_
        refine r_iconst (v := (-1)) (dcx dX9_when_c0 15 rfl) rfl ?_
        exact s_ret rfl rfl rfl hyp (dcx dX9_when_c0 16 rfl)
      · have hyp := hyp.2 q_
        refine r_iload (dcx dX9_when_c0 12 rfl) 5 rfl ?_
        refine r_bipush (v := 60) (dcx dX9_when_c0 13 rfl) rfl ?_
        refine r_icmp_le (tgt := 34) (dcx dX9_when_c0 14 rfl) (by decide) (fun q_ => ?_) (fun q_ => ?_)
        · have hyp := hyp.1 q_
          refine r_aload_n (dcx dX9_when_c0 17 rfl) 0 rfl ?_
          refine s_getr (b := 279) fX9_70 (dcx dX9_when_c0 18 rfl) F0_7 ?_
          refine r_aload_n (dcx dX9_when_c0 19 rfl) 0 rfl ?_
          refine s_getr (b := 269) fX9_63 (dcx dX9_when_c0 20 rfl) F0_5 ?_
          refine s_callV (as := [.ref 269]) (st := []) zX4_become kX9_when_233 (dcx dX9_when_c0 21 rfl) rfl rfl (Nat.le_of_ble_eq_true rfl) (OL isL279) rfl rfl (C2.mono hyp ?_)
          rintro _ s4_ ⟨rfl, hyp⟩
          show G2 Γ l mX9_when 45 [(0, .ref 0), (1, .int x1), (2, .int x2), (3, .int x3), (4, .int x4), (5, .int x5)] [] s4_ K
          refine r_iconst (v := 0) (dcx dX9_when_c0 22 rfl) rfl ?_
          refine r_istore (lv1 := [(6, .int 0), (0, .ref 0), (1, .int x1), (2, .int x2), (3, .int x3), (4, .int x4), (5, .int x5)]) (dcx dX9_when_c0 23 rfl) (Nat.le_of_ble_eq_true rfl) rfl ?_
          refine r_loc (lv1 := [(0, .ref 0), (1, .int x1), (2, .int x2), (3, .int x3), (4, .int x4), (5, .int x5), (6, .int 0)]) [1, 2, 3, 4, 5, 6, 0] rfl ?_
          exact hyp
        · have hyp := hyp.2 q_
          refine r_iconst (v := (-1)) (dcx dX9_when_c0 15 rfl) rfl ?_
          exact s_ret rfl rfl rfl hyp (dcx dX9_when_c0 16 rfl)
set_option maxHeartbeats 4000000 in
set_option maxRecDepth 20000 in
theorem tX9_when_48 {Γ : GE} {l : Launch} {x1 : Int32} {x2 : Int32} {x3 : Int32} {x4 : Int32} {x5 : Int32} {x6 : Int32} {σ : SS} {K : Option Value → SS → Prop}  (hyp : (x4 < x6 → (K (some (.int ((-2)))) σ)) ∧ (¬ (x4 < x6) → (C2 Γ l mX4_become [.ref 274, .ref 279] σ (Rv fun s1_ => (C2 Γ l mX1_cutOut [.ref 46, .ref 274, .int x1, .int x2, .int x3] s1_ (Rv fun s3_ => (C2 Γ l mX9_readThenGone [.ref 0, .int x1, .int x2, .int x3, .int (x4 - x6), .int (x5 - x4)] s3_ (Ri fun r6_ s5_ => ((r6_ = 0 → (∃ b7_ : Nat, s5_.2.2 0 8 = b7_ ∧ isP b7_ ∧ (C2 Γ l mX1_growWeek [.ref 46, .ref 279, .int (s5_.1 b7_ 19)] s5_ (Rv fun s8_ => (wX9_when_48 Γ l x1 x2 x3 x4 x5 (x6 + 1) s8_ K))))) ∧ (¬ (r6_ = 0) → (K (some (.int x6)) s5_))))))))))) : wX9_when_48 Γ l x1 x2 x3 x4 x5 x6 σ K := by
  show G2 Γ l mX9_when 48 [(0, .ref 0), (1, .int x1), (2, .int x2), (3, .int x3), (4, .int x4), (5, .int x5), (6, .int x6)] [] σ K
  refine r_iload (dcx dX9_when_c0 24 rfl) 6 rfl ?_
  refine r_iload (dcx dX9_when_c0 25 rfl) 4 rfl ?_
  refine r_icmp_gt (tgt := 127) (dcx dX9_when_c0 26 rfl) (by decide) (fun q_ => ?_) (fun q_ => ?_)
  · have hyp := hyp.1 q_
    refine r_bipush (v := (-2)) (dcx dX9_when_c1 24 rfl) rfl ?_
    exact s_ret rfl rfl rfl hyp (dcx dX9_when_c1 25 rfl)
  · have hyp := hyp.2 q_
    refine r_aload_n (dcx dX9_when_c0 27 rfl) 0 rfl ?_
    refine s_getr (b := 274) fX9_67 (dcx dX9_when_c0 28 rfl) F0_6 ?_
    refine r_aload_n (dcx dX9_when_c0 29 rfl) 0 rfl ?_
    refine s_getr (b := 279) fX9_70 (dcx dX9_when_c0 30 rfl) F0_7 ?_
    refine s_callV (as := [.ref 279]) (st := []) zX4_become kX9_when_233 (dcx dX9_when_c0 31 rfl) rfl rfl (Nat.le_of_ble_eq_true rfl) (OL isL274) rfl rfl (C2.mono hyp ?_)
    rintro _ s1_ ⟨rfl, hyp⟩
    show G2 Γ l mX9_when 66 [(0, .ref 0), (1, .int x1), (2, .int x2), (3, .int x3), (4, .int x4), (5, .int x5), (6, .int x6)] [] s1_ K
    refine r_aload_n (dcx dX9_when_c0 32 rfl) 0 rfl ?_
    refine s_getr (b := 46) fX9_40 (dcx dX9_when_c0 33 rfl) F0_2 ?_
    refine r_aload_n (dcx dX9_when_c0 34 rfl) 0 rfl ?_
    refine s_getr (b := 274) fX9_67 (dcx dX9_when_c0 35 rfl) F0_6 ?_
    refine r_iload_n (dcx dX9_when_c0 36 rfl) 1 rfl ?_
    refine r_iload_n (dcx dX9_when_c0 37 rfl) 2 rfl ?_
    refine r_iload_n (dcx dX9_when_c0 38 rfl) 3 rfl ?_
    refine s_callV (as := [.ref 274, .int x1, .int x2, .int x3]) (st := []) zX1_cutOut kX9_when_202 (dcx dX9_when_c0 39 rfl) rfl rfl (Nat.le_of_ble_eq_true rfl) O46 rfl rfl (C2.mono hyp ?_)
    rintro _ s3_ ⟨rfl, hyp⟩
    show G2 Γ l mX9_when 80 [(0, .ref 0), (1, .int x1), (2, .int x2), (3, .int x3), (4, .int x4), (5, .int x5), (6, .int x6)] [] s3_ K
    refine r_aload_n (dcx dX9_when_c1 0 rfl) 0 rfl ?_
    refine r_iload_n (dcx dX9_when_c1 1 rfl) 1 rfl ?_
    refine r_iload_n (dcx dX9_when_c1 2 rfl) 2 rfl ?_
    refine r_iload_n (dcx dX9_when_c1 3 rfl) 3 rfl ?_
    refine r_iload (dcx dX9_when_c1 4 rfl) 4 rfl ?_
    refine r_iload (dcx dX9_when_c1 5 rfl) 6 rfl ?_
    refine r_isub (dcx dX9_when_c1 6 rfl) ?_
    refine r_iload (dcx dX9_when_c1 7 rfl) 5 rfl ?_
    refine r_iload (dcx dX9_when_c1 8 rfl) 4 rfl ?_
    refine r_isub (dcx dX9_when_c1 9 rfl) ?_
    refine s_callV (as := [.int x1, .int x2, .int x3, .int (x4 - x6), .int (x5 - x4)]) (st := []) zX9_readThenGone kX9_when_251 (dcx dX9_when_c1 10 rfl) rfl rfl (Nat.le_of_ble_eq_true rfl) O0 rfl rfl (C2.mono hyp ?_)
    rintro _ s5_ ⟨r6_, rfl, hyp⟩
    show G2 Γ l mX9_when 97 [(0, .ref 0), (1, .int x1), (2, .int x2), (3, .int x3), (4, .int x4), (5, .int x5), (6, .int x6)] [.int r6_] s5_ K
    refine r_if_eq (tgt := 103) (dcx dX9_when_c1 11 rfl) (by decide) (fun q_ => ?_) (fun q_ => ?_)
    · have hyp := hyp.1 q_
      refine r_aload_n (dcx dX9_when_c1 14 rfl) 0 rfl ?_
      refine s_getr (b := 46) fX9_40 (dcx dX9_when_c1 15 rfl) F0_2 ?_
      refine r_aload_n (dcx dX9_when_c1 16 rfl) 0 rfl ?_
      refine s_getr (b := 279) fX9_70 (dcx dX9_when_c1 17 rfl) F0_7 ?_
      refine r_aload_n (dcx dX9_when_c1 18 rfl) 0 rfl ?_
      obtain ⟨b7_, eb7_, hb7_, hyp⟩ := hyp
      refine s_getmE fX9_28 (dcx dX9_when_c1 19 rfl) F0_8 eb7_ (nzP hb7_) ?_
      refine s_geti fX9_244 (dcx dX9_when_c1 20 rfl) (FP_19 hb7_) ?_
      refine s_callV (as := [.ref 279, .int (s5_.1 b7_ 19)]) (st := []) zX1_growWeek kX9_when_247 (dcx dX9_when_c1 21 rfl) rfl rfl (Nat.le_of_ble_eq_true rfl) O46 rfl rfl (C2.mono hyp ?_)
      rintro _ s8_ ⟨rfl, hyp⟩
      show G2 Γ l mX9_when 121 [(0, .ref 0), (1, .int x1), (2, .int x2), (3, .int x3), (4, .int x4), (5, .int x5), (6, .int x6)] [] s8_ K
      refine r_iinc (lv1 := [(6, .int (x6 + 1)), (0, .ref 0), (1, .int x1), (2, .int x2), (3, .int x3), (4, .int x4), (5, .int x5)]) (dcx dX9_when_c1 22 rfl) 6 rfl (Nat.le_of_ble_eq_true rfl) rfl ?_
      refine r_goto (tgt := 48) (dcx dX9_when_c1 23 rfl) (by decide) ?_
      refine r_loc (lv1 := [(0, .ref 0), (1, .int x1), (2, .int x2), (3, .int x3), (4, .int x4), (5, .int x5), (6, .int (x6 + 1))]) [1, 2, 3, 4, 5, 6, 0] rfl ?_
      exact hyp
    · have hyp := hyp.2 q_
      refine r_iload (dcx dX9_when_c1 12 rfl) 6 rfl ?_
      exact s_ret rfl rfl rfl hyp (dcx dX9_when_c1 13 rfl)
set_option maxHeartbeats 4000000 in
set_option maxRecDepth 20000 in
theorem tX9_readThenGone {Γ : GE} {l : Launch} {x1 : Int32} {x2 : Int32} {x3 : Int32} {x4 : Int32} {x5 : Int32} {σ : SS} {K : Option Value → SS → Prop}  (hyp : ∃ b1_ : Nat, σ.2.2 0 8 = b1_ ∧ isP b1_ ∧ (C2 Γ l mX1_growWeeks [.ref 46, .ref 274, .int x4, .int (σ.1 b1_ 19)] σ (Rv fun s2_ => (C2 Γ l mX1_someoneReads [.ref 46, .ref 274, .int x1, .int x2, .int x3] s2_ (Ri fun r5_ s4_ => ((¬ r5_ = 0 → (∃ b6_ : Nat, s4_.2.2 0 8 = b6_ ∧ isP b6_ ∧ (C2 Γ l mX1_growWeeks [.ref 46, .ref 274, .int x5, .int (s4_.1 b6_ 19)] s4_ (Rv fun s7_ => (C2 Γ l mX1_someoneReads [.ref 46, .ref 274, .int x1, .int x2, .int x3] s7_ (Ri fun r10_ s9_ => ((¬ r10_ = 0 → (K (some (.int 0)) s9_)) ∧ (r10_ = 0 → (K (some (.int 1)) s9_))))))))) ∧ (r5_ = 0 → (K (some (.int 0)) s4_)))))))) : C2 Γ l mX9_readThenGone [.ref 0, .int x1, .int x2, .int x3, .int x4, .int x5] σ K := by
  refine c2_of (lv := [(0, .ref 0), (1, .int x1), (2, .int x2), (3, .int x3), (4, .int x4), (5, .int x5)]) (by decide) (Nat.le_of_ble_eq_true rfl) rfl ?_
  refine r_aload_n (dcx dX9_readThenGone_c0 0 rfl) 0 rfl ?_
  refine s_getr (b := 46) fX9_40 (dcx dX9_readThenGone_c0 1 rfl) F0_2 ?_
  refine r_aload_n (dcx dX9_readThenGone_c0 2 rfl) 0 rfl ?_
  refine s_getr (b := 274) fX9_67 (dcx dX9_readThenGone_c0 3 rfl) F0_6 ?_
  refine r_iload (dcx dX9_readThenGone_c0 4 rfl) 4 rfl ?_
  refine r_aload_n (dcx dX9_readThenGone_c0 5 rfl) 0 rfl ?_
  obtain ⟨b1_, eb1_, hb1_, hyp⟩ := hyp
  refine s_getmE fX9_28 (dcx dX9_readThenGone_c0 6 rfl) F0_8 eb1_ (nzP hb1_) ?_
  refine s_geti fX9_244 (dcx dX9_readThenGone_c0 7 rfl) (FP_19 hb1_) ?_
  refine s_callV (as := [.ref 274, .int x4, .int (σ.1 b1_ 19)]) (st := []) zX1_growWeeks kX9_readThenGone_255 (dcx dX9_readThenGone_c0 8 rfl) rfl rfl (Nat.le_of_ble_eq_true rfl) O46 rfl rfl (C2.mono hyp ?_)
  rintro _ s2_ ⟨rfl, hyp⟩
  show G2 Γ l mX9_readThenGone 20 [(0, .ref 0), (1, .int x1), (2, .int x2), (3, .int x3), (4, .int x4), (5, .int x5)] [] s2_ K
  refine r_aload_n (dcx dX9_readThenGone_c0 9 rfl) 0 rfl ?_
  refine s_getr (b := 46) fX9_40 (dcx dX9_readThenGone_c0 10 rfl) F0_2 ?_
  refine r_aload_n (dcx dX9_readThenGone_c0 11 rfl) 0 rfl ?_
  refine s_getr (b := 274) fX9_67 (dcx dX9_readThenGone_c0 12 rfl) F0_6 ?_
  refine r_iload_n (dcx dX9_readThenGone_c0 13 rfl) 1 rfl ?_
  refine r_iload_n (dcx dX9_readThenGone_c0 14 rfl) 2 rfl ?_
  refine r_iload_n (dcx dX9_readThenGone_c0 15 rfl) 3 rfl ?_
  refine s_callV (as := [.ref 274, .int x1, .int x2, .int x3]) (st := []) zX1_someoneReads kX9_readThenGone_240 (dcx dX9_readThenGone_c0 16 rfl) rfl rfl (Nat.le_of_ble_eq_true rfl) O46 rfl rfl (C2.mono hyp ?_)
  rintro _ s4_ ⟨r5_, rfl, hyp⟩
  show G2 Γ l mX9_readThenGone 34 [(0, .ref 0), (1, .int x1), (2, .int x2), (3, .int x3), (4, .int x4), (5, .int x5)] [.int r5_] s4_ K
  refine r_if_ne (tgt := 39) (dcx dX9_readThenGone_c0 17 rfl) (by decide) (fun q_ => ?_) (fun q_ => ?_)
  · have hyp := hyp.1 q_
    refine r_aload_n (dcx dX9_readThenGone_c0 20 rfl) 0 rfl ?_
    refine s_getr (b := 46) fX9_40 (dcx dX9_readThenGone_c0 21 rfl) F0_2 ?_
    refine r_aload_n (dcx dX9_readThenGone_c0 22 rfl) 0 rfl ?_
    refine s_getr (b := 274) fX9_67 (dcx dX9_readThenGone_c0 23 rfl) F0_6 ?_
    refine r_iload (dcx dX9_readThenGone_c0 24 rfl) 5 rfl ?_
    refine r_aload_n (dcx dX9_readThenGone_c0 25 rfl) 0 rfl ?_
    obtain ⟨b6_, eb6_, hb6_, hyp⟩ := hyp
    refine s_getmE fX9_28 (dcx dX9_readThenGone_c0 26 rfl) F0_8 eb6_ (nzP hb6_) ?_
    refine s_geti fX9_244 (dcx dX9_readThenGone_c0 27 rfl) (FP_19 hb6_) ?_
    refine s_callV (as := [.ref 274, .int x5, .int (s4_.1 b6_ 19)]) (st := []) zX1_growWeeks kX9_readThenGone_255 (dcx dX9_readThenGone_c0 28 rfl) rfl rfl (Nat.le_of_ble_eq_true rfl) O46 rfl rfl (C2.mono hyp ?_)
    rintro _ s7_ ⟨rfl, hyp⟩
    show G2 Γ l mX9_readThenGone 59 [(0, .ref 0), (1, .int x1), (2, .int x2), (3, .int x3), (4, .int x4), (5, .int x5)] [] s7_ K
    refine r_aload_n (dcx dX9_readThenGone_c0 29 rfl) 0 rfl ?_
    refine s_getr (b := 46) fX9_40 (dcx dX9_readThenGone_c0 30 rfl) F0_2 ?_
    refine r_aload_n (dcx dX9_readThenGone_c0 31 rfl) 0 rfl ?_
    refine s_getr (b := 274) fX9_67 (dcx dX9_readThenGone_c0 32 rfl) F0_6 ?_
    refine r_iload_n (dcx dX9_readThenGone_c0 33 rfl) 1 rfl ?_
    refine r_iload_n (dcx dX9_readThenGone_c0 34 rfl) 2 rfl ?_
    refine r_iload_n (dcx dX9_readThenGone_c0 35 rfl) 3 rfl ?_
    refine s_callV (as := [.ref 274, .int x1, .int x2, .int x3]) (st := []) zX1_someoneReads kX9_readThenGone_240 (dcx dX9_readThenGone_c0 36 rfl) rfl rfl (Nat.le_of_ble_eq_true rfl) O46 rfl rfl (C2.mono hyp ?_)
    rintro _ s9_ ⟨r10_, rfl, hyp⟩
    show G2 Γ l mX9_readThenGone 73 [(0, .ref 0), (1, .int x1), (2, .int x2), (3, .int x3), (4, .int x4), (5, .int x5)] [.int r10_] s9_ K
    refine r_if_ne (tgt := 80) (dcx dX9_readThenGone_c0 37 rfl) (by decide) (fun q_ => ?_) (fun q_ => ?_)
    · have hyp := hyp.1 q_
      refine r_iconst (v := 0) (dcx dX9_readThenGone_c1 0 rfl) rfl ?_
      exact s_ret rfl rfl rfl hyp (dcx dX9_readThenGone_c1 1 rfl)
    · have hyp := hyp.2 q_
      refine r_iconst (v := 1) (dcx dX9_readThenGone_c0 38 rfl) rfl ?_
      refine r_goto (tgt := 81) (dcx dX9_readThenGone_c0 39 rfl) (by decide) ?_
      exact s_ret rfl rfl rfl hyp (dcx dX9_readThenGone_c1 1 rfl)
  · have hyp := hyp.2 q_
    refine r_iconst (v := 0) (dcx dX9_readThenGone_c0 18 rfl) rfl ?_
    exact s_ret rfl rfl rfl hyp (dcx dX9_readThenGone_c0 19 rfl)
set_option maxHeartbeats 4000000 in
set_option maxRecDepth 20000 in
theorem tX9_cuts {Γ : GE} {l : Launch} {x1 : Int32} {x2 : Int32} {x3 : Int32} {x4 : Int32} {σ : SS} {K : Option Value → SS → Prop}  (hyp : ∃ b1_ : Nat, σ.2.2 0 8 = b1_ ∧ isP b1_ ∧ (C2 Γ l mX6_hasWindow [.ref b1_, .int x1] σ (Ri fun r3_ s2_ => ((r3_ = 0 → (K (some (.int ((-1)))) s2_)) ∧ (¬ (r3_ = 0) → (∃ b4_ : Nat, s2_.2.2 0 8 = b4_ ∧ isP b4_ ∧ (C2 Γ l mX6_hasPlace [.ref b4_, .int x2, .int x3, .int x4] s2_ (Ri fun r6_ s5_ => ((¬ r6_ = 0 → (∃ b7_ : Nat, s5_.2.2 0 8 = b7_ ∧ isP b7_ ∧ (C2 Γ l mX6_sees [.ref b7_, .int x1, .int x3] s5_ (Ri fun r9_ s8_ => ((r9_ = 0 → (K (some (.int ((-2)))) s8_)) ∧ (¬ (r9_ = 0) → (∃ b10_ : Nat, s8_.2.2 0 8 = b10_ ∧ isP b10_ ∧ (C2 Γ l mX6_isReadable [.ref b10_, .int x2] s8_ (Ri fun r12_ s11_ => ((¬ r12_ = 0 → (C2 Γ l mX1_leastLeft [.ref 46, .ref 269, .int x2, .int x3, .int x4] s11_ (Ri fun r14_ s13_ => (∃ b15_ : Nat, s13_.2.2 0 8 = b15_ ∧ isP b15_ ∧ (vp_in x1 4 ∧ (∀ v16_ : Int32, v16_ = r14_ - (s13_.1 (b15_ + 7) (Int32.toNatClampNeg x1)) → (((0 : Int32) ≤ v16_ → (C2 Γ l mX1_tooTall [.ref 46, .ref 269, .int x2, .int x3, .int x4, .int v16_] s13_ (Ri fun r18_ s17_ => (K (some (.int r18_)) s17_)))) ∧ (¬ ((0 : Int32) ≤ v16_) → (K (some (.int ((-2)))) s13_))))))))) ∧ (r12_ = 0 → (K (some (.int ((-2)))) s11_)))))))))))) ∧ (r6_ = 0 → (K (some (.int ((-1)))) s5_))))))))))) : C2 Γ l mX9_cuts [.ref 0, .int x1, .int x2, .int x3, .int x4] σ K := by
  refine c2_of (lv := [(0, .ref 0), (1, .int x1), (2, .int x2), (3, .int x3), (4, .int x4)]) (by decide) (Nat.le_of_ble_eq_true rfl) rfl ?_
  refine r_aload_n (dcx dX9_cuts_c0 0 rfl) 0 rfl ?_
  obtain ⟨b1_, eb1_, hb1_, hyp⟩ := hyp
  refine s_getmE fX9_28 (dcx dX9_cuts_c0 1 rfl) F0_8 eb1_ (nzP hb1_) ?_
  refine r_iload_n (dcx dX9_cuts_c0 2 rfl) 1 rfl ?_
  refine s_callV (as := [.int x1]) (st := []) zX6_hasWindow kX9_cuts_163 (dcx dX9_cuts_c0 3 rfl) rfl rfl (Nat.le_of_ble_eq_true rfl) (OP hb1_) rfl rfl (C2.mono hyp ?_)
  rintro _ s2_ ⟨r3_, rfl, hyp⟩
  show G2 Γ l mX9_cuts 8 [(0, .ref 0), (1, .int x1), (2, .int x2), (3, .int x3), (4, .int x4)] [.int r3_] s2_ K
  refine r_if_eq (tgt := 25) (dcx dX9_cuts_c0 4 rfl) (by decide) (fun q_ => ?_) (fun q_ => ?_)
  · have hyp := hyp.1 q_
    refine r_iconst (v := (-1)) (dcx dX9_cuts_c0 12 rfl) rfl ?_
    exact s_ret rfl rfl rfl hyp (dcx dX9_cuts_c0 13 rfl)
  · have hyp := hyp.2 q_
    refine r_aload_n (dcx dX9_cuts_c0 5 rfl) 0 rfl ?_
    obtain ⟨b4_, eb4_, hb4_, hyp⟩ := hyp
    refine s_getmE fX9_28 (dcx dX9_cuts_c0 6 rfl) F0_8 eb4_ (nzP hb4_) ?_
    refine r_iload_n (dcx dX9_cuts_c0 7 rfl) 2 rfl ?_
    refine r_iload_n (dcx dX9_cuts_c0 8 rfl) 3 rfl ?_
    refine r_iload (dcx dX9_cuts_c0 9 rfl) 4 rfl ?_
    refine s_callV (as := [.int x2, .int x3, .int x4]) (st := []) zX6_hasPlace kX9_cuts_178 (dcx dX9_cuts_c0 10 rfl) rfl rfl (Nat.le_of_ble_eq_true rfl) (OP hb4_) rfl rfl (C2.mono hyp ?_)
    rintro _ s5_ ⟨r6_, rfl, hyp⟩
    show G2 Γ l mX9_cuts 22 [(0, .ref 0), (1, .int x1), (2, .int x2), (3, .int x3), (4, .int x4)] [.int r6_] s5_ K
    refine r_if_ne (tgt := 27) (dcx dX9_cuts_c0 11 rfl) (by decide) (fun q_ => ?_) (fun q_ => ?_)
    · have hyp := hyp.1 q_
      refine r_aload_n (dcx dX9_cuts_c0 14 rfl) 0 rfl ?_
      obtain ⟨b7_, eb7_, hb7_, hyp⟩ := hyp
      refine s_getmE fX9_28 (dcx dX9_cuts_c0 15 rfl) F0_8 eb7_ (nzP hb7_) ?_
      refine r_iload_n (dcx dX9_cuts_c0 16 rfl) 1 rfl ?_
      refine r_iload_n (dcx dX9_cuts_c0 17 rfl) 3 rfl ?_
      refine s_callV (as := [.int x1, .int x3]) (st := []) zX6_sees kX9_cuts_258 (dcx dX9_cuts_c0 18 rfl) rfl rfl (Nat.le_of_ble_eq_true rfl) (OP hb7_) rfl rfl (C2.mono hyp ?_)
      rintro _ s8_ ⟨r9_, rfl, hyp⟩
      show G2 Γ l mX9_cuts 36 [(0, .ref 0), (1, .int x1), (2, .int x2), (3, .int x3), (4, .int x4)] [.int r9_] s8_ K
      refine r_if_eq (tgt := 50) (dcx dX9_cuts_c0 19 rfl) (by decide) (fun q_ => ?_) (fun q_ => ?_)
      · have hyp := hyp.1 q_
        refine r_bipush (v := (-2)) (dcx dX9_cuts_c0 25 rfl) rfl ?_
        exact s_ret rfl rfl rfl hyp (dcx dX9_cuts_c0 26 rfl)
      · have hyp := hyp.2 q_
        refine r_aload_n (dcx dX9_cuts_c0 20 rfl) 0 rfl ?_
        obtain ⟨b10_, eb10_, hb10_, hyp⟩ := hyp
        refine s_getmE fX9_28 (dcx dX9_cuts_c0 21 rfl) F0_8 eb10_ (nzP hb10_) ?_
        refine r_iload_n (dcx dX9_cuts_c0 22 rfl) 2 rfl ?_
        refine s_callV (as := [.int x2]) (st := []) zX6_isReadable kX9_cuts_261 (dcx dX9_cuts_c0 23 rfl) rfl rfl (Nat.le_of_ble_eq_true rfl) (OP hb10_) rfl rfl (C2.mono hyp ?_)
        rintro _ s11_ ⟨r12_, rfl, hyp⟩
        show G2 Γ l mX9_cuts 47 [(0, .ref 0), (1, .int x1), (2, .int x2), (3, .int x3), (4, .int x4)] [.int r12_] s11_ K
        refine r_if_ne (tgt := 53) (dcx dX9_cuts_c0 24 rfl) (by decide) (fun q_ => ?_) (fun q_ => ?_)
        · have hyp := hyp.1 q_
          refine r_aload_n (dcx dX9_cuts_c0 27 rfl) 0 rfl ?_
          refine s_getr (b := 46) fX9_40 (dcx dX9_cuts_c0 28 rfl) F0_2 ?_
          refine r_aload_n (dcx dX9_cuts_c0 29 rfl) 0 rfl ?_
          refine s_getr (b := 269) fX9_63 (dcx dX9_cuts_c0 30 rfl) F0_5 ?_
          refine r_iload_n (dcx dX9_cuts_c0 31 rfl) 2 rfl ?_
          refine r_iload_n (dcx dX9_cuts_c0 32 rfl) 3 rfl ?_
          refine r_iload (dcx dX9_cuts_c0 33 rfl) 4 rfl ?_
          refine s_callV (as := [.ref 269, .int x2, .int x3, .int x4]) (st := []) zX1_leastLeft kX9_cuts_264 (dcx dX9_cuts_c0 34 rfl) rfl rfl (Nat.le_of_ble_eq_true rfl) O46 rfl rfl (C2.mono hyp ?_)
          rintro _ s13_ ⟨r14_, rfl, hyp⟩
          show G2 Γ l mX9_cuts 68 [(0, .ref 0), (1, .int x1), (2, .int x2), (3, .int x3), (4, .int x4)] [.int r14_] s13_ K
          refine r_aload_n (dcx dX9_cuts_c0 35 rfl) 0 rfl ?_
          obtain ⟨b15_, eb15_, hb15_, hyp⟩ := hyp
          refine s_getmE fX9_28 (dcx dX9_cuts_c0 36 rfl) F0_8 eb15_ (nzP hb15_) ?_
          refine s_getr (b := b15_ + 7) fX9_172 (dcx dX9_cuts_c0 37 rfl) (FP_6 hb15_) ?_
          refine r_iload_n (dcx dX9_cuts_c0 38 rfl) 1 rfl ?_
          obtain ⟨hb_, hyp⟩ := hyp
          refine s_iald (dcx dX9_cuts_c0 39 rfl) (AP_6 hb15_) hb_ ?_
          refine r_isub (dcx dX9_cuts_c1 0 rfl) ?_
          obtain ⟨v16_, ev16_⟩ : ∃ z : Int32, z = r14_ - (s13_.1 (b15_ + 7) (Int32.toNatClampNeg x1)) := ⟨_, rfl⟩
          rw [← ev16_]
          have hyp := hyp v16_ ev16_
          refine r_istore (lv1 := [(5, .int v16_), (0, .ref 0), (1, .int x1), (2, .int x2), (3, .int x3), (4, .int x4)]) (dcx dX9_cuts_c1 1 rfl) (Nat.le_of_ble_eq_true rfl) rfl ?_
          refine r_iload (dcx dX9_cuts_c1 2 rfl) 0 rfl ?_
          refine r_if_ge (tgt := 90) (dcx dX9_cuts_c1 3 rfl) (by decide) (fun q_ => ?_) (fun q_ => ?_)
          · have hyp := hyp.1 q_
            refine r_aload_n (dcx dX9_cuts_c1 6 rfl) 1 rfl ?_
            refine s_getr (b := 46) fX9_40 (dcx dX9_cuts_c1 7 rfl) F0_2 ?_
            refine r_aload_n (dcx dX9_cuts_c1 8 rfl) 1 rfl ?_
            refine s_getr (b := 269) fX9_63 (dcx dX9_cuts_c1 9 rfl) F0_5 ?_
            refine r_iload_n (dcx dX9_cuts_c1 10 rfl) 3 rfl ?_
            refine r_iload_n (dcx dX9_cuts_c1 11 rfl) 4 rfl ?_
            refine r_iload (dcx dX9_cuts_c1 12 rfl) 5 rfl ?_
            refine r_iload (dcx dX9_cuts_c1 13 rfl) 0 rfl ?_
            refine s_callV (as := [.ref 269, .int x2, .int x3, .int x4, .int v16_]) (st := []) zX1_tooTall kX9_cuts_267 (dcx dX9_cuts_c1 14 rfl) rfl rfl (Nat.le_of_ble_eq_true rfl) O46 rfl rfl (C2.mono hyp ?_)
            rintro _ s17_ ⟨r18_, rfl, hyp⟩
            show G2 Γ l mX9_cuts 107 [(5, .int v16_), (0, .ref 0), (1, .int x1), (2, .int x2), (3, .int x3), (4, .int x4)] [.int r18_] s17_ K
            exact s_ret rfl rfl rfl hyp (dcx dX9_cuts_c1 15 rfl)
          · have hyp := hyp.2 q_
            refine r_bipush (v := (-2)) (dcx dX9_cuts_c1 4 rfl) rfl ?_
            refine r_goto (tgt := 107) (dcx dX9_cuts_c1 5 rfl) (by decide) ?_
            exact s_ret rfl rfl rfl hyp (dcx dX9_cuts_c1 15 rfl)
        · have hyp := hyp.2 q_
          refine r_bipush (v := (-2)) (dcx dX9_cuts_c0 25 rfl) rfl ?_
          exact s_ret rfl rfl rfl hyp (dcx dX9_cuts_c0 26 rfl)
    · have hyp := hyp.2 q_
      refine r_iconst (v := (-1)) (dcx dX9_cuts_c0 12 rfl) rfl ?_
      exact s_ret rfl rfl rfl hyp (dcx dX9_cuts_c0 13 rfl)
def wX9_care_59 (Γ : GE) (l : Launch) (x1 : Int32) (x2 : Int32) (x3 : Int32) (x4 : Int32) (x5 : Int32) (x6 : Int32) (σ : SS) (K : Option Value → SS → Prop) : Prop := G2 Γ l mX9_care 59 [(0, .ref 0), (1, .int x1), (2, .int x2), (3, .int x3), (4, .int x4), (5, .int x5), (6, .int x6)] [] σ K
def wX9_care_74 (Γ : GE) (l : Launch) (x1 : Int32) (x2 : Int32) (x3 : Int32) (x4 : Int32) (x5 : Int32) (x6 : Int32) (x7 : Int32) (σ : SS) (K : Option Value → SS → Prop) : Prop := G2 Γ l mX9_care 74 [(0, .ref 0), (1, .int x1), (2, .int x2), (3, .int x3), (4, .int x4), (5, .int x5), (6, .int x6), (7, .int x7)] [] σ K
set_option maxHeartbeats 4000000 in
set_option maxRecDepth 20000 in
theorem tX9_care {Γ : GE} {l : Launch} {x1 : Int32} {x2 : Int32} {x3 : Int32} {σ : SS} {K : Option Value → SS → Prop}  (hyp : ∃ b1_ : Nat, σ.2.2 0 8 = b1_ ∧ isP b1_ ∧ (C2 Γ l mX6_hasPlace [.ref b1_, .int x1, .int x2, .int x3] σ (Ri fun r3_ s2_ => ((¬ r3_ = 0 → (∃ b4_ : Nat, s2_.2.2 0 8 = b4_ ∧ isP b4_ ∧ (C2 Γ l mX2_uses [.ref (b4_ + 9), .int 4] s2_ (Ri fun r6_ s5_ => ((¬ r6_ = 0 → (C2 Γ l mX4_become [.ref 274, .ref 269] s5_ (Rv fun s7_ => (C2 Γ l mX9_weeksTillGone [.ref 0, .int x1, .int x2, .int x3] s7_ (Ri fun r10_ s9_ => (wX9_care_59 Γ l x1 x2 x3 r10_ ((-2)) 0 s9_ K)))))) ∧ (r6_ = 0 → (K (some (.int ((-2)))) s5_))))))) ∧ (r3_ = 0 → (K (some (.int ((-1)))) s2_)))))) : C2 Γ l mX9_care [.ref 0, .int x1, .int x2, .int x3] σ K := by
  refine c2_of (lv := [(0, .ref 0), (1, .int x1), (2, .int x2), (3, .int x3)]) (by decide) (Nat.le_of_ble_eq_true rfl) rfl ?_
  refine r_aload_n (dcx dX9_care_c0 0 rfl) 0 rfl ?_
  obtain ⟨b1_, eb1_, hb1_, hyp⟩ := hyp
  refine s_getmE fX9_28 (dcx dX9_care_c0 1 rfl) F0_8 eb1_ (nzP hb1_) ?_
  refine r_iload_n (dcx dX9_care_c0 2 rfl) 1 rfl ?_
  refine r_iload_n (dcx dX9_care_c0 3 rfl) 2 rfl ?_
  refine r_iload_n (dcx dX9_care_c0 4 rfl) 3 rfl ?_
  refine s_callV (as := [.int x1, .int x2, .int x3]) (st := []) zX6_hasPlace kX9_care_178 (dcx dX9_care_c0 5 rfl) rfl rfl (Nat.le_of_ble_eq_true rfl) (OP hb1_) rfl rfl (C2.mono hyp ?_)
  rintro _ s2_ ⟨r3_, rfl, hyp⟩
  show G2 Γ l mX9_care 10 [(0, .ref 0), (1, .int x1), (2, .int x2), (3, .int x3)] [.int r3_] s2_ K
  refine r_if_ne (tgt := 15) (dcx dX9_care_c0 6 rfl) (by decide) (fun q_ => ?_) (fun q_ => ?_)
  · have hyp := hyp.1 q_
    refine r_aload_n (dcx dX9_care_c0 9 rfl) 0 rfl ?_
    obtain ⟨b4_, eb4_, hb4_, hyp⟩ := hyp
    refine s_getmE fX9_28 (dcx dX9_care_c0 10 rfl) F0_8 eb4_ (nzP hb4_) ?_
    refine s_getr (b := b4_ + 9) fX9_271 (dcx dX9_care_c0 11 rfl) (FP_8 hb4_) ?_
    refine r_iconst (v := 4) (dcx dX9_care_c0 12 rfl) rfl ?_
    refine s_callV (as := [.int 4]) (st := []) zX2_uses kX9_care_275 (dcx dX9_care_c0 13 rfl) rfl rfl (Nat.le_of_ble_eq_true rfl) (OW (IP_8 hb4_)) rfl rfl (C2.mono hyp ?_)
    rintro _ s5_ ⟨r6_, rfl, hyp⟩
    show G2 Γ l mX9_care 26 [(0, .ref 0), (1, .int x1), (2, .int x2), (3, .int x3)] [.int r6_] s5_ K
    refine r_if_ne (tgt := 32) (dcx dX9_care_c0 14 rfl) (by decide) (fun q_ => ?_) (fun q_ => ?_)
    · have hyp := hyp.1 q_
      refine r_aload_n (dcx dX9_care_c0 17 rfl) 0 rfl ?_
      refine s_getr (b := 274) fX9_67 (dcx dX9_care_c0 18 rfl) F0_6 ?_
      refine r_aload_n (dcx dX9_care_c0 19 rfl) 0 rfl ?_
      refine s_getr (b := 269) fX9_63 (dcx dX9_care_c0 20 rfl) F0_5 ?_
      refine s_callV (as := [.ref 269]) (st := []) zX4_become kX9_care_233 (dcx dX9_care_c0 21 rfl) rfl rfl (Nat.le_of_ble_eq_true rfl) (OL isL274) rfl rfl (C2.mono hyp ?_)
      rintro _ s7_ ⟨rfl, hyp⟩
      show G2 Γ l mX9_care 43 [(0, .ref 0), (1, .int x1), (2, .int x2), (3, .int x3)] [] s7_ K
      refine r_aload_n (dcx dX9_care_c0 22 rfl) 0 rfl ?_
      refine r_iload_n (dcx dX9_care_c0 23 rfl) 1 rfl ?_
      refine r_iload_n (dcx dX9_care_c0 24 rfl) 2 rfl ?_
      refine r_iload_n (dcx dX9_care_c0 25 rfl) 3 rfl ?_
      refine s_callV (as := [.int x1, .int x2, .int x3]) (st := []) zX9_weeksTillGone kX9_care_236 (dcx dX9_care_c0 26 rfl) rfl rfl (Nat.le_of_ble_eq_true rfl) O0 rfl rfl (C2.mono hyp ?_)
      rintro _ s9_ ⟨r10_, rfl, hyp⟩
      show G2 Γ l mX9_care 50 [(0, .ref 0), (1, .int x1), (2, .int x2), (3, .int x3)] [.int r10_] s9_ K
      refine r_istore (lv1 := [(4, .int r10_), (0, .ref 0), (1, .int x1), (2, .int x2), (3, .int x3)]) (dcx dX9_care_c0 27 rfl) (Nat.le_of_ble_eq_true rfl) rfl ?_
      refine r_bipush (v := (-2)) (dcx dX9_care_c0 28 rfl) rfl ?_
      refine r_istore (lv1 := [(5, .int ((-2))), (4, .int r10_), (0, .ref 0), (1, .int x1), (2, .int x2), (3, .int x3)]) (dcx dX9_care_c0 29 rfl) (Nat.le_of_ble_eq_true rfl) rfl ?_
      refine r_iconst (v := 0) (dcx dX9_care_c0 30 rfl) rfl ?_
      refine r_istore (lv1 := [(6, .int 0), (5, .int ((-2))), (4, .int r10_), (0, .ref 0), (1, .int x1), (2, .int x2), (3, .int x3)]) (dcx dX9_care_c0 31 rfl) (Nat.le_of_ble_eq_true rfl) rfl ?_
      refine r_loc (lv1 := [(0, .ref 0), (1, .int x1), (2, .int x2), (3, .int x3), (4, .int r10_), (5, .int ((-2))), (6, .int 0)]) [3, 4, 5, 6, 2, 1, 0] rfl ?_
      exact hyp
    · have hyp := hyp.2 q_
      refine r_bipush (v := (-2)) (dcx dX9_care_c0 15 rfl) rfl ?_
      exact s_ret rfl rfl rfl hyp (dcx dX9_care_c0 16 rfl)
  · have hyp := hyp.2 q_
    refine r_iconst (v := (-1)) (dcx dX9_care_c0 7 rfl) rfl ?_
    exact s_ret rfl rfl rfl hyp (dcx dX9_care_c0 8 rfl)
set_option maxHeartbeats 4000000 in
set_option maxRecDepth 20000 in
theorem tX9_care_59 {Γ : GE} {l : Launch} {x1 : Int32} {x2 : Int32} {x3 : Int32} {x4 : Int32} {x5 : Int32} {x6 : Int32} {σ : SS} {K : Option Value → SS → Prop}  (hyp : ∃ b1_ : Nat, σ.2.2 0 8 = b1_ ∧ isP b1_ ∧ (((σ.1 b1_ 12) ≤ x6 → (K (some (.int x5)) σ)) ∧ (¬ ((σ.1 b1_ 12) ≤ x6) → (wX9_care_74 Γ l x1 x2 x3 x4 x5 x6 0 σ K)))) : wX9_care_59 Γ l x1 x2 x3 x4 x5 x6 σ K := by
  show G2 Γ l mX9_care 59 [(0, .ref 0), (1, .int x1), (2, .int x2), (3, .int x3), (4, .int x4), (5, .int x5), (6, .int x6)] [] σ K
  refine r_iload (dcx dX9_care_c0 32 rfl) 6 rfl ?_
  refine r_aload_n (dcx dX9_care_c0 33 rfl) 0 rfl ?_
  obtain ⟨b1_, eb1_, hb1_, hyp⟩ := hyp
  refine s_getmE fX9_28 (dcx dX9_care_c0 34 rfl) F0_8 eb1_ (nzP hb1_) ?_
  refine s_geti fX9_185 (dcx dX9_care_c0 35 rfl) (FP_12 hb1_) ?_
  refine r_icmp_ge (tgt := 175) (dcx dX9_care_c0 36 rfl) (by decide) (fun q_ => ?_) (fun q_ => ?_)
  · have hyp := hyp.1 q_
    refine r_iload (dcx dX9_care_c2 6 rfl) 5 rfl ?_
    exact s_ret rfl rfl rfl hyp (dcx dX9_care_c2 7 rfl)
  · have hyp := hyp.2 q_
    refine r_iconst (v := 0) (dcx dX9_care_c0 37 rfl) rfl ?_
    refine r_istore (lv1 := [(7, .int 0), (0, .ref 0), (1, .int x1), (2, .int x2), (3, .int x3), (4, .int x4), (5, .int x5), (6, .int x6)]) (dcx dX9_care_c0 38 rfl) (Nat.le_of_ble_eq_true rfl) rfl ?_
    refine r_loc (lv1 := [(0, .ref 0), (1, .int x1), (2, .int x2), (3, .int x3), (4, .int x4), (5, .int x5), (6, .int x6), (7, .int 0)]) [1, 2, 3, 4, 5, 6, 7, 0] rfl ?_
    exact hyp
set_option maxHeartbeats 4000000 in
set_option maxRecDepth 20000 in
theorem tX9_care_74 {Γ : GE} {l : Launch} {x1 : Int32} {x2 : Int32} {x3 : Int32} {x4 : Int32} {x5 : Int32} {x6 : Int32} {x7 : Int32} {σ : SS} {K : Option Value → SS → Prop}  (hyp : ∃ b1_ : Nat, σ.2.2 0 8 = b1_ ∧ isP b1_ ∧ (((σ.1 b1_ 11) ≤ x7 → (wX9_care_59 Γ l x1 x2 x3 x4 x5 (x6 + 1) σ K)) ∧ (¬ ((σ.1 b1_ 11) ≤ x7) → (((99 : Int32) < x4 → (wX9_care_74 Γ l x1 x2 x3 x4 x5 x6 (x7 + 1) σ K)) ∧ (¬ ((99 : Int32) < x4) → (∃ b2_ : Nat, σ.2.2 0 8 = b2_ ∧ isP b2_ ∧ (C2 Γ l mX6_isGrass [.ref b2_, .int x7, .int x6] σ (Ri fun r4_ s3_ => ((r4_ = 0 → (wX9_care_74 Γ l x1 x2 x3 x4 x5 x6 (x7 + 1) s3_ K)) ∧ (¬ (r4_ = 0) → (C2 Γ l mX4_become [.ref 274, .ref 269] s3_ (Rv fun s5_ => (C2 Γ l mX1_giveFood [.ref 46, .ref 274, .int x7, .int x6] s5_ (Rv fun s7_ => (C2 Γ l mX9_weeksTillGone [.ref 0, .int x1, .int x2, .int x3] s7_ (Ri fun r10_ s9_ => ((r10_ ≤ x4 → (wX9_care_74 Γ l x1 x2 x3 x4 x5 x6 (x7 + 1) s9_ K)) ∧ (¬ (r10_ ≤ x4) → (wX9_care_74 Γ l x1 x2 x3 r10_ ((10 * x6) + x7) x6 (x7 + 1) s9_ K))))))))))))))))))) : wX9_care_74 Γ l x1 x2 x3 x4 x5 x6 x7 σ K := by
  show G2 Γ l mX9_care 74 [(0, .ref 0), (1, .int x1), (2, .int x2), (3, .int x3), (4, .int x4), (5, .int x5), (6, .int x6), (7, .int x7)] [] σ K
  refine r_iload (dcx dX9_care_c0 39 rfl) 7 rfl ?_
  refine r_aload_n (dcx dX9_care_c1 0 rfl) 0 rfl ?_
  obtain ⟨b1_, eb1_, hb1_, hyp⟩ := hyp
  refine s_getmE fX9_28 (dcx dX9_care_c1 1 rfl) F0_8 eb1_ (nzP hb1_) ?_
  refine s_geti fX9_188 (dcx dX9_care_c1 2 rfl) (FP_11 hb1_) ?_
  refine r_icmp_ge (tgt := 169) (dcx dX9_care_c1 3 rfl) (by decide) (fun q_ => ?_) (fun q_ => ?_)
  · have hyp := hyp.1 q_
    refine r_iinc (lv1 := [(6, .int (x6 + 1)), (0, .ref 0), (1, .int x1), (2, .int x2), (3, .int x3), (4, .int x4), (5, .int x5), (7, .int x7)]) (dcx dX9_care_c2 4 rfl) 6 rfl (Nat.le_of_ble_eq_true rfl) rfl ?_
    refine r_goto (tgt := 59) (dcx dX9_care_c2 5 rfl) (by decide) ?_
    refine r_loc (lv1 := [(0, .ref 0), (1, .int x1), (2, .int x2), (3, .int x3), (4, .int x4), (5, .int x5), (6, .int (x6 + 1))]) [1, 2, 3, 4, 5, 6, 0] rfl ?_
    exact hyp
  · have hyp := hyp.2 q_
    refine r_iload (dcx dX9_care_c1 4 rfl) 4 rfl ?_
    refine r_bipush (v := 99) (dcx dX9_care_c1 5 rfl) rfl ?_
    refine r_icmp_gt (tgt := 163) (dcx dX9_care_c1 6 rfl) (by decide) (fun q_ => ?_) (fun q_ => ?_)
    · have hyp := hyp.1 q_
      refine r_iinc (lv1 := [(7, .int (x7 + 1)), (0, .ref 0), (1, .int x1), (2, .int x2), (3, .int x3), (4, .int x4), (5, .int x5), (6, .int x6)]) (dcx dX9_care_c2 2 rfl) 7 rfl (Nat.le_of_ble_eq_true rfl) rfl ?_
      refine r_goto (tgt := 74) (dcx dX9_care_c2 3 rfl) (by decide) ?_
      refine r_loc (lv1 := [(0, .ref 0), (1, .int x1), (2, .int x2), (3, .int x3), (4, .int x4), (5, .int x5), (6, .int x6), (7, .int (x7 + 1))]) [1, 2, 3, 4, 5, 6, 7, 0] rfl ?_
      exact hyp
    · have hyp := hyp.2 q_
      refine r_aload_n (dcx dX9_care_c1 7 rfl) 0 rfl ?_
      obtain ⟨b2_, eb2_, hb2_, hyp⟩ := hyp
      refine s_getmE fX9_28 (dcx dX9_care_c1 8 rfl) F0_8 eb2_ (nzP hb2_) ?_
      refine r_iload (dcx dX9_care_c1 9 rfl) 7 rfl ?_
      refine r_iload (dcx dX9_care_c1 10 rfl) 6 rfl ?_
      refine s_callV (as := [.int x7, .int x6]) (st := []) zX6_isGrass kX9_care_131 (dcx dX9_care_c1 11 rfl) rfl rfl (Nat.le_of_ble_eq_true rfl) (OP hb2_) rfl rfl (C2.mono hyp ?_)
      rintro _ s3_ ⟨r4_, rfl, hyp⟩
      show G2 Γ l mX9_care 104 [(0, .ref 0), (1, .int x1), (2, .int x2), (3, .int x3), (4, .int x4), (5, .int x5), (6, .int x6), (7, .int x7)] [.int r4_] s3_ K
      refine r_if_eq (tgt := 163) (dcx dX9_care_c1 12 rfl) (by decide) (fun q_ => ?_) (fun q_ => ?_)
      · have hyp := hyp.1 q_
        refine r_iinc (lv1 := [(7, .int (x7 + 1)), (0, .ref 0), (1, .int x1), (2, .int x2), (3, .int x3), (4, .int x4), (5, .int x5), (6, .int x6)]) (dcx dX9_care_c2 2 rfl) 7 rfl (Nat.le_of_ble_eq_true rfl) rfl ?_
        refine r_goto (tgt := 74) (dcx dX9_care_c2 3 rfl) (by decide) ?_
        refine r_loc (lv1 := [(0, .ref 0), (1, .int x1), (2, .int x2), (3, .int x3), (4, .int x4), (5, .int x5), (6, .int x6), (7, .int (x7 + 1))]) [1, 2, 3, 4, 5, 6, 7, 0] rfl ?_
        exact hyp
      · have hyp := hyp.2 q_
        refine r_aload_n (dcx dX9_care_c1 13 rfl) 0 rfl ?_
        refine s_getr (b := 274) fX9_67 (dcx dX9_care_c1 14 rfl) F0_6 ?_
        refine r_aload_n (dcx dX9_care_c1 15 rfl) 0 rfl ?_
        refine s_getr (b := 269) fX9_63 (dcx dX9_care_c1 16 rfl) F0_5 ?_
        refine s_callV (as := [.ref 269]) (st := []) zX4_become kX9_care_233 (dcx dX9_care_c1 17 rfl) rfl rfl (Nat.le_of_ble_eq_true rfl) (OL isL274) rfl rfl (C2.mono hyp ?_)
        rintro _ s5_ ⟨rfl, hyp⟩
        show G2 Γ l mX9_care 118 [(0, .ref 0), (1, .int x1), (2, .int x2), (3, .int x3), (4, .int x4), (5, .int x5), (6, .int x6), (7, .int x7)] [] s5_ K
        refine r_aload_n (dcx dX9_care_c1 18 rfl) 0 rfl ?_
        refine s_getr (b := 46) fX9_40 (dcx dX9_care_c1 19 rfl) F0_2 ?_
        refine r_aload_n (dcx dX9_care_c1 20 rfl) 0 rfl ?_
        refine s_getr (b := 274) fX9_67 (dcx dX9_care_c1 21 rfl) F0_6 ?_
        refine r_iload (dcx dX9_care_c1 22 rfl) 7 rfl ?_
        refine r_iload (dcx dX9_care_c1 23 rfl) 6 rfl ?_
        refine s_callV (as := [.ref 274, .int x7, .int x6]) (st := []) zX1_giveFood kX9_care_209 (dcx dX9_care_c1 24 rfl) rfl rfl (Nat.le_of_ble_eq_true rfl) O46 rfl rfl (C2.mono hyp ?_)
        rintro _ s7_ ⟨rfl, hyp⟩
        show G2 Γ l mX9_care 133 [(0, .ref 0), (1, .int x1), (2, .int x2), (3, .int x3), (4, .int x4), (5, .int x5), (6, .int x6), (7, .int x7)] [] s7_ K
        refine r_aload_n (dcx dX9_care_c1 25 rfl) 0 rfl ?_
        refine r_iload_n (dcx dX9_care_c1 26 rfl) 1 rfl ?_
        refine r_iload_n (dcx dX9_care_c1 27 rfl) 2 rfl ?_
        refine r_iload_n (dcx dX9_care_c1 28 rfl) 3 rfl ?_
        refine s_callV (as := [.int x1, .int x2, .int x3]) (st := []) zX9_weeksTillGone kX9_care_236 (dcx dX9_care_c1 29 rfl) rfl rfl (Nat.le_of_ble_eq_true rfl) O0 rfl rfl (C2.mono hyp ?_)
        rintro _ s9_ ⟨r10_, rfl, hyp⟩
        show G2 Γ l mX9_care 140 [(0, .ref 0), (1, .int x1), (2, .int x2), (3, .int x3), (4, .int x4), (5, .int x5), (6, .int x6), (7, .int x7)] [.int r10_] s9_ K
        refine r_istore (lv1 := [(8, .int r10_), (0, .ref 0), (1, .int x1), (2, .int x2), (3, .int x3), (4, .int x4), (5, .int x5), (6, .int x6), (7, .int x7)]) (dcx dX9_care_c1 30 rfl) (Nat.le_of_ble_eq_true rfl) rfl ?_
        refine r_iload (dcx dX9_care_c1 31 rfl) 0 rfl ?_
        refine r_iload (dcx dX9_care_c1 32 rfl) 5 rfl ?_
        refine r_icmp_le (tgt := 163) (dcx dX9_care_c1 33 rfl) (by decide) (fun q_ => ?_) (fun q_ => ?_)
        · have hyp := hyp.1 q_
          refine r_iinc (lv1 := [(7, .int (x7 + 1)), (8, .int r10_), (0, .ref 0), (1, .int x1), (2, .int x2), (3, .int x3), (4, .int x4), (5, .int x5), (6, .int x6)]) (dcx dX9_care_c2 2 rfl) 8 rfl (Nat.le_of_ble_eq_true rfl) rfl ?_
          refine r_goto (tgt := 74) (dcx dX9_care_c2 3 rfl) (by decide) ?_
          refine r_loc (lv1 := [(0, .ref 0), (1, .int x1), (2, .int x2), (3, .int x3), (4, .int x4), (5, .int x5), (6, .int x6), (7, .int (x7 + 1))]) [2, 3, 4, 5, 6, 7, 8, 0] rfl ?_
          exact hyp
        · have hyp := hyp.2 q_
          refine r_iload (dcx dX9_care_c1 34 rfl) 0 rfl ?_
          refine r_istore (lv1 := [(4, .int r10_), (8, .int r10_), (0, .ref 0), (1, .int x1), (2, .int x2), (3, .int x3), (5, .int x5), (6, .int x6), (7, .int x7)]) (dcx dX9_care_c1 35 rfl) (Nat.le_of_ble_eq_true rfl) rfl ?_
          refine r_bipush (v := 10) (dcx dX9_care_c1 36 rfl) rfl ?_
          refine r_iload (dcx dX9_care_c1 37 rfl) 7 rfl ?_
          refine r_imul (dcx dX9_care_c1 38 rfl) ?_
          refine r_iload (dcx dX9_care_c1 39 rfl) 8 rfl ?_
          refine r_iadd (dcx dX9_care_c2 0 rfl) ?_
          refine r_istore (lv1 := [(5, .int ((10 * x6) + x7)), (4, .int r10_), (8, .int r10_), (0, .ref 0), (1, .int x1), (2, .int x2), (3, .int x3), (6, .int x6), (7, .int x7)]) (dcx dX9_care_c2 1 rfl) (Nat.le_of_ble_eq_true rfl) rfl ?_
          refine r_iinc (lv1 := [(7, .int (x7 + 1)), (5, .int ((10 * x6) + x7)), (4, .int r10_), (8, .int r10_), (0, .ref 0), (1, .int x1), (2, .int x2), (3, .int x3), (6, .int x6)]) (dcx dX9_care_c2 2 rfl) 8 rfl (Nat.le_of_ble_eq_true rfl) rfl ?_
          refine r_goto (tgt := 74) (dcx dX9_care_c2 3 rfl) (by decide) ?_
          refine r_loc (lv1 := [(0, .ref 0), (1, .int x1), (2, .int x2), (3, .int x3), (4, .int r10_), (5, .int ((10 * x6) + x7)), (6, .int x6), (7, .int (x7 + 1))]) [4, 5, 6, 7, 2, 1, 8, 0] rfl ?_
          exact hyp
def wX9_level_14 (Γ : GE) (l : Launch) (x1 : Int32) (σ : SS) (K : Option Value → SS → Prop) : Prop := G2 Γ l mX9_level 14 [(0, .ref 0), (1, .int x1)] [] σ K
set_option maxHeartbeats 4000000 in
set_option maxRecDepth 20000 in
theorem tX9_level {Γ : GE} {l : Launch}  {σ : SS} {K : Option Value → SS → Prop}  (hyp : C2 Γ l mX4_become [.ref 274, .ref 269] σ (Rv fun s1_ => (wX9_level_14 Γ l 99 s1_ K))) : C2 Γ l mX9_level [.ref 0] σ K := by
  refine c2_of (lv := [(0, .ref 0)]) (by decide) (Nat.le_of_ble_eq_true rfl) rfl ?_
  refine r_aload_n (dcx dX9_level_c0 0 rfl) 0 rfl ?_
  refine s_getr (b := 274) fX9_67 (dcx dX9_level_c0 1 rfl) F0_6 ?_
  refine r_aload_n (dcx dX9_level_c0 2 rfl) 0 rfl ?_
  refine s_getr (b := 269) fX9_63 (dcx dX9_level_c0 3 rfl) F0_5 ?_
  refine s_callV (as := [.ref 269]) (st := []) zX4_become kX9_level_233 (dcx dX9_level_c0 4 rfl) rfl rfl (Nat.le_of_ble_eq_true rfl) (OL isL274) rfl rfl (C2.mono hyp ?_)
  rintro _ s1_ ⟨rfl, hyp⟩
  show G2 Γ l mX9_level 11 [(0, .ref 0)] [] s1_ K
  refine r_bipush (v := 99) (dcx dX9_level_c0 5 rfl) rfl ?_
  refine r_istore_n (lv1 := [(1, .int 99), (0, .ref 0)]) (dcx dX9_level_c0 6 rfl) (Nat.le_of_ble_eq_true rfl) rfl ?_
  refine r_loc (lv1 := [(0, .ref 0), (1, .int 99)]) [1, 0] rfl ?_
  exact hyp
set_option maxHeartbeats 4000000 in
set_option maxRecDepth 20000 in
theorem tX9_level_14 {Γ : GE} {l : Launch} {x1 : Int32} {σ : SS} {K : Option Value → SS → Prop}  (hyp : (x1 < 0 → (K (some (.int ((-2)))) σ)) ∧ (¬ (x1 < 0) → (C2 Γ l mX1_mowTo [.ref 46, .ref 274, .int x1] σ (Ri fun r2_ s1_ => (C2 Γ l mX1_anythingIsRead [.ref 46, .ref 274] s1_ (Ri fun r4_ s3_ => ((¬ r4_ = 0 → (wX9_level_14 Γ l (x1 + (-1)) s3_ K)) ∧ (r4_ = 0 → (K (some (.int x1)) s3_))))))))) : wX9_level_14 Γ l x1 σ K := by
  show G2 Γ l mX9_level 14 [(0, .ref 0), (1, .int x1)] [] σ K
  refine r_iload_n (dcx dX9_level_c0 7 rfl) 1 rfl ?_
  refine r_if_lt (tgt := 53) (dcx dX9_level_c0 8 rfl) (by decide) (fun q_ => ?_) (fun q_ => ?_)
  · have hyp := hyp.1 q_
    refine r_bipush (v := (-2)) (dcx dX9_level_c0 26 rfl) rfl ?_
    exact s_ret rfl rfl rfl hyp (dcx dX9_level_c0 27 rfl)
  · have hyp := hyp.2 q_
    refine r_aload_n (dcx dX9_level_c0 9 rfl) 0 rfl ?_
    refine s_getr (b := 46) fX9_40 (dcx dX9_level_c0 10 rfl) F0_2 ?_
    refine r_aload_n (dcx dX9_level_c0 11 rfl) 0 rfl ?_
    refine s_getr (b := 274) fX9_67 (dcx dX9_level_c0 12 rfl) F0_6 ?_
    refine r_iload_n (dcx dX9_level_c0 13 rfl) 1 rfl ?_
    refine s_callV (as := [.ref 274, .int x1]) (st := []) zX1_mowTo kX9_level_216 (dcx dX9_level_c0 14 rfl) rfl rfl (Nat.le_of_ble_eq_true rfl) O46 rfl rfl (C2.mono hyp ?_)
    rintro _ s1_ ⟨r2_, rfl, hyp⟩
    show G2 Γ l mX9_level 30 [(0, .ref 0), (1, .int x1)] [.int r2_] s1_ K
    refine r_pop (dcx dX9_level_c0 15 rfl) rfl ?_
    refine r_aload_n (dcx dX9_level_c0 16 rfl) 0 rfl ?_
    refine s_getr (b := 46) fX9_40 (dcx dX9_level_c0 17 rfl) F0_2 ?_
    refine r_aload_n (dcx dX9_level_c0 18 rfl) 0 rfl ?_
    refine s_getr (b := 274) fX9_67 (dcx dX9_level_c0 19 rfl) F0_6 ?_
    refine s_callV (as := [.ref 274]) (st := []) zX1_anythingIsRead kX9_level_280 (dcx dX9_level_c0 20 rfl) rfl rfl (Nat.le_of_ble_eq_true rfl) O46 rfl rfl (C2.mono hyp ?_)
    rintro _ s3_ ⟨r4_, rfl, hyp⟩
    show G2 Γ l mX9_level 42 [(0, .ref 0), (1, .int x1)] [.int r4_] s3_ K
    refine r_if_ne (tgt := 47) (dcx dX9_level_c0 21 rfl) (by decide) (fun q_ => ?_) (fun q_ => ?_)
    · have hyp := hyp.1 q_
      refine r_iinc (lv1 := [(1, .int (x1 + (-1))), (0, .ref 0)]) (dcx dX9_level_c0 24 rfl) 1 rfl (Nat.le_of_ble_eq_true rfl) rfl ?_
      refine r_goto (tgt := 14) (dcx dX9_level_c0 25 rfl) (by decide) ?_
      refine r_loc (lv1 := [(0, .ref 0), (1, .int (x1 + (-1)))]) [1, 0] rfl ?_
      exact hyp
    · have hyp := hyp.2 q_
      refine r_iload_n (dcx dX9_level_c0 22 rfl) 1 rfl ?_
      exact s_ret rfl rfl rfl hyp (dcx dX9_level_c0 23 rfl)
def wX9_quiet_13 (Γ : GE) (l : Launch) (x1 : Int32) (σ : SS) (K : Option Value → SS → Prop) : Prop := G2 Γ l mX9_quiet 13 [(0, .ref 0), (1, .int x1)] [] σ K
set_option maxHeartbeats 4000000 in
set_option maxRecDepth 20000 in
theorem tX9_quiet {Γ : GE} {l : Launch}  {σ : SS} {K : Option Value → SS → Prop}  (hyp : C2 Γ l mX4_become [.ref 274, .ref 269] σ (Rv fun s1_ => (wX9_quiet_13 Γ l 0 s1_ K))) : C2 Γ l mX9_quiet [.ref 0] σ K := by
  refine c2_of (lv := [(0, .ref 0)]) (by decide) (Nat.le_of_ble_eq_true rfl) rfl ?_
  refine r_aload_n (dcx dX9_quiet_c0 0 rfl) 0 rfl ?_
  refine s_getr (b := 274) fX9_67 (dcx dX9_quiet_c0 1 rfl) F0_6 ?_
  refine r_aload_n (dcx dX9_quiet_c0 2 rfl) 0 rfl ?_
  refine s_getr (b := 269) fX9_63 (dcx dX9_quiet_c0 3 rfl) F0_5 ?_
  refine s_callV (as := [.ref 269]) (st := []) zX4_become kX9_quiet_233 (dcx dX9_quiet_c0 4 rfl) rfl rfl (Nat.le_of_ble_eq_true rfl) (OL isL274) rfl rfl (C2.mono hyp ?_)
  rintro _ s1_ ⟨rfl, hyp⟩
  show G2 Γ l mX9_quiet 11 [(0, .ref 0)] [] s1_ K
  refine r_iconst (v := 0) (dcx dX9_quiet_c0 5 rfl) rfl ?_
  refine r_istore_n (lv1 := [(1, .int 0), (0, .ref 0)]) (dcx dX9_quiet_c0 6 rfl) (Nat.le_of_ble_eq_true rfl) rfl ?_
  refine r_loc (lv1 := [(0, .ref 0), (1, .int 0)]) [1, 0] rfl ?_
  exact hyp
set_option maxHeartbeats 4000000 in
set_option maxRecDepth 20000 in
theorem tX9_quiet_13 {Γ : GE} {l : Launch} {x1 : Int32} {σ : SS} {K : Option Value → SS → Prop}  (hyp : ((200 : Int32) < x1 → (K (some (.int ((-2)))) σ)) ∧ (¬ ((200 : Int32) < x1) → (C2 Γ l mX1_anythingIsRead [.ref 46, .ref 274] σ (Ri fun r2_ s1_ => ((¬ r2_ = 0 → (∃ b3_ : Nat, s1_.2.2 0 8 = b3_ ∧ isP b3_ ∧ (C2 Γ l mX1_growWeek [.ref 46, .ref 274, .int (s1_.1 b3_ 19)] s1_ (Rv fun s4_ => (wX9_quiet_13 Γ l (x1 + 1) s4_ K))))) ∧ (r2_ = 0 → (K (some (.int x1)) s1_))))))) : wX9_quiet_13 Γ l x1 σ K := by
  show G2 Γ l mX9_quiet 13 [(0, .ref 0), (1, .int x1)] [] σ K
  refine r_iload_n (dcx dX9_quiet_c0 7 rfl) 1 rfl ?_
  refine r_sipush (v := 200) (dcx dX9_quiet_c0 8 rfl) rfl ?_
  refine r_icmp_gt (tgt := 60) (dcx dX9_quiet_c0 9 rfl) (by decide) (fun q_ => ?_) (fun q_ => ?_)
  · have hyp := hyp.1 q_
    refine r_bipush (v := (-2)) (dcx dX9_quiet_c0 28 rfl) rfl ?_
    exact s_ret rfl rfl rfl hyp (dcx dX9_quiet_c0 29 rfl)
  · have hyp := hyp.2 q_
    refine r_aload_n (dcx dX9_quiet_c0 10 rfl) 0 rfl ?_
    refine s_getr (b := 46) fX9_40 (dcx dX9_quiet_c0 11 rfl) F0_2 ?_
    refine r_aload_n (dcx dX9_quiet_c0 12 rfl) 0 rfl ?_
    refine s_getr (b := 274) fX9_67 (dcx dX9_quiet_c0 13 rfl) F0_6 ?_
    refine s_callV (as := [.ref 274]) (st := []) zX1_anythingIsRead kX9_quiet_280 (dcx dX9_quiet_c0 14 rfl) rfl rfl (Nat.le_of_ble_eq_true rfl) O46 rfl rfl (C2.mono hyp ?_)
    rintro _ s1_ ⟨r2_, rfl, hyp⟩
    show G2 Γ l mX9_quiet 31 [(0, .ref 0), (1, .int x1)] [.int r2_] s1_ K
    refine r_if_ne (tgt := 36) (dcx dX9_quiet_c0 15 rfl) (by decide) (fun q_ => ?_) (fun q_ => ?_)
    · have hyp := hyp.1 q_
      refine r_aload_n (dcx dX9_quiet_c0 18 rfl) 0 rfl ?_
      refine s_getr (b := 46) fX9_40 (dcx dX9_quiet_c0 19 rfl) F0_2 ?_
      refine r_aload_n (dcx dX9_quiet_c0 20 rfl) 0 rfl ?_
      refine s_getr (b := 274) fX9_67 (dcx dX9_quiet_c0 21 rfl) F0_6 ?_
      refine r_aload_n (dcx dX9_quiet_c0 22 rfl) 0 rfl ?_
      obtain ⟨b3_, eb3_, hb3_, hyp⟩ := hyp
      refine s_getmE fX9_28 (dcx dX9_quiet_c0 23 rfl) F0_8 eb3_ (nzP hb3_) ?_
      refine s_geti fX9_244 (dcx dX9_quiet_c0 24 rfl) (FP_19 hb3_) ?_
      refine s_callV (as := [.ref 274, .int (s1_.1 b3_ 19)]) (st := []) zX1_growWeek kX9_quiet_247 (dcx dX9_quiet_c0 25 rfl) rfl rfl (Nat.le_of_ble_eq_true rfl) O46 rfl rfl (C2.mono hyp ?_)
      rintro _ s4_ ⟨rfl, hyp⟩
      show G2 Γ l mX9_quiet 54 [(0, .ref 0), (1, .int x1)] [] s4_ K
      refine r_iinc (lv1 := [(1, .int (x1 + 1)), (0, .ref 0)]) (dcx dX9_quiet_c0 26 rfl) 1 rfl (Nat.le_of_ble_eq_true rfl) rfl ?_
      refine r_goto (tgt := 13) (dcx dX9_quiet_c0 27 rfl) (by decide) ?_
      refine r_loc (lv1 := [(0, .ref 0), (1, .int (x1 + 1))]) [1, 0] rfl ?_
      exact hyp
    · have hyp := hyp.2 q_
      refine r_iload_n (dcx dX9_quiet_c0 16 rfl) 1 rfl ?_
      exact s_ret rfl rfl rfl hyp (dcx dX9_quiet_c0 17 rfl)
def wX9_knows_37 (Γ : GE) (l : Launch) (x1 : Int32) (x2 : Int32) (x3 : Int32) (σ : SS) (K : Option Value → SS → Prop) : Prop := G2 Γ l mX9_knows 37 [(0, .ref 0), (1, .int x1), (2, .int x2), (3, .int x3)] [] σ K
set_option maxHeartbeats 4000000 in
set_option maxRecDepth 20000 in
theorem tX9_knows {Γ : GE} {l : Launch} {x1 : Int32} {x2 : Int32} {σ : SS} {K : Option Value → SS → Prop}  (hyp : ∃ b1_ : Nat, σ.2.2 0 8 = b1_ ∧ isP b1_ ∧ (C2 Γ l mX6_hasWindow [.ref b1_, .int x1] σ (Ri fun r3_ s2_ => ((r3_ = 0 → (K (some (.int ((-1)))) s2_)) ∧ (¬ (r3_ = 0) → (∃ b4_ : Nat, s2_.2.2 0 8 = b4_ ∧ isP b4_ ∧ (C2 Γ l mX6_hasSign [.ref b4_, .int x2] s2_ (Ri fun r6_ s5_ => ((¬ r6_ = 0 → (C2 Γ l mX4_become [.ref 274, .ref 269] s5_ (Rv fun s7_ => (wX9_knows_37 Γ l x1 x2 0 s7_ K)))) ∧ (r6_ = 0 → (K (some (.int ((-1)))) s5_))))))))))) : C2 Γ l mX9_knows [.ref 0, .int x1, .int x2] σ K := by
  refine c2_of (lv := [(0, .ref 0), (1, .int x1), (2, .int x2)]) (by decide) (Nat.le_of_ble_eq_true rfl) rfl ?_
  refine r_aload_n (dcx dX9_knows_c0 0 rfl) 0 rfl ?_
  obtain ⟨b1_, eb1_, hb1_, hyp⟩ := hyp
  refine s_getmE fX9_28 (dcx dX9_knows_c0 1 rfl) F0_8 eb1_ (nzP hb1_) ?_
  refine r_iload_n (dcx dX9_knows_c0 2 rfl) 1 rfl ?_
  refine s_callV (as := [.int x1]) (st := []) zX6_hasWindow kX9_knows_163 (dcx dX9_knows_c0 3 rfl) rfl rfl (Nat.le_of_ble_eq_true rfl) (OP hb1_) rfl rfl (C2.mono hyp ?_)
  rintro _ s2_ ⟨r3_, rfl, hyp⟩
  show G2 Γ l mX9_knows 8 [(0, .ref 0), (1, .int x1), (2, .int x2)] [.int r3_] s2_ K
  refine r_if_eq (tgt := 22) (dcx dX9_knows_c0 4 rfl) (by decide) (fun q_ => ?_) (fun q_ => ?_)
  · have hyp := hyp.1 q_
    refine r_iconst (v := (-1)) (dcx dX9_knows_c0 10 rfl) rfl ?_
    exact s_ret rfl rfl rfl hyp (dcx dX9_knows_c0 11 rfl)
  · have hyp := hyp.2 q_
    refine r_aload_n (dcx dX9_knows_c0 5 rfl) 0 rfl ?_
    obtain ⟨b4_, eb4_, hb4_, hyp⟩ := hyp
    refine s_getmE fX9_28 (dcx dX9_knows_c0 6 rfl) F0_8 eb4_ (nzP hb4_) ?_
    refine r_iload_n (dcx dX9_knows_c0 7 rfl) 2 rfl ?_
    refine s_callV (as := [.int x2]) (st := []) zX6_hasSign kX9_knows_138 (dcx dX9_knows_c0 8 rfl) rfl rfl (Nat.le_of_ble_eq_true rfl) (OP hb4_) rfl rfl (C2.mono hyp ?_)
    rintro _ s5_ ⟨r6_, rfl, hyp⟩
    show G2 Γ l mX9_knows 19 [(0, .ref 0), (1, .int x1), (2, .int x2)] [.int r6_] s5_ K
    refine r_if_ne (tgt := 24) (dcx dX9_knows_c0 9 rfl) (by decide) (fun q_ => ?_) (fun q_ => ?_)
    · have hyp := hyp.1 q_
      refine r_aload_n (dcx dX9_knows_c0 12 rfl) 0 rfl ?_
      refine s_getr (b := 274) fX9_67 (dcx dX9_knows_c0 13 rfl) F0_6 ?_
      refine r_aload_n (dcx dX9_knows_c0 14 rfl) 0 rfl ?_
      refine s_getr (b := 269) fX9_63 (dcx dX9_knows_c0 15 rfl) F0_5 ?_
      refine s_callV (as := [.ref 269]) (st := []) zX4_become kX9_knows_233 (dcx dX9_knows_c0 16 rfl) rfl rfl (Nat.le_of_ble_eq_true rfl) (OL isL274) rfl rfl (C2.mono hyp ?_)
      rintro _ s7_ ⟨rfl, hyp⟩
      show G2 Γ l mX9_knows 35 [(0, .ref 0), (1, .int x1), (2, .int x2)] [] s7_ K
      refine r_iconst (v := 0) (dcx dX9_knows_c0 17 rfl) rfl ?_
      refine r_istore_n (lv1 := [(3, .int 0), (0, .ref 0), (1, .int x1), (2, .int x2)]) (dcx dX9_knows_c0 18 rfl) (Nat.le_of_ble_eq_true rfl) rfl ?_
      refine r_loc (lv1 := [(0, .ref 0), (1, .int x1), (2, .int x2), (3, .int 0)]) [1, 2, 3, 0] rfl ?_
      exact hyp
    · have hyp := hyp.2 q_
      refine r_iconst (v := (-1)) (dcx dX9_knows_c0 10 rfl) rfl ?_
      exact s_ret rfl rfl rfl hyp (dcx dX9_knows_c0 11 rfl)
set_option maxHeartbeats 4000000 in
set_option maxRecDepth 20000 in
theorem tX9_knows_37 {Γ : GE} {l : Launch} {x1 : Int32} {x2 : Int32} {x3 : Int32} {σ : SS} {K : Option Value → SS → Prop}  (hyp : ((200 : Int32) < x3 → (K (some (.int ((-2)))) σ)) ∧ (¬ ((200 : Int32) < x3) → (vp_in x1 4 ∧ ((¬ (((σ.1 (274 + 3) (Int32.toNatClampNeg x1)) >>> (x2 &&& 31)) &&& 1) = 1 → (C2 Γ l mX1_live [.ref 46, .ref 274] σ (Rv fun s1_ => (wX9_knows_37 Γ l x1 x2 (x3 + 1) s1_ K)))) ∧ ((((σ.1 (274 + 3) (Int32.toNatClampNeg x1)) >>> (x2 &&& 31)) &&& 1) = 1 → (K (some (.int x3)) σ)))))) : wX9_knows_37 Γ l x1 x2 x3 σ K := by
  show G2 Γ l mX9_knows 37 [(0, .ref 0), (1, .int x1), (2, .int x2), (3, .int x3)] [] σ K
  refine r_iload_n (dcx dX9_knows_c0 19 rfl) 3 rfl ?_
  refine r_sipush (v := 200) (dcx dX9_knows_c0 20 rfl) rfl ?_
  refine r_icmp_gt (tgt := 80) (dcx dX9_knows_c0 21 rfl) (by decide) (fun q_ => ?_) (fun q_ => ?_)
  · have hyp := hyp.1 q_
    refine r_bipush (v := (-2)) (dcx dX9_knows_c1 2 rfl) rfl ?_
    exact s_ret rfl rfl rfl hyp (dcx dX9_knows_c1 3 rfl)
  · have hyp := hyp.2 q_
    refine r_aload_n (dcx dX9_knows_c0 22 rfl) 0 rfl ?_
    refine s_getr (b := 274) fX9_67 (dcx dX9_knows_c0 23 rfl) F0_6 ?_
    refine s_getr (b := 274 + 3) fX9_160 (dcx dX9_knows_c0 24 rfl) (FL_2 isL274) ?_
    refine r_iload_n (dcx dX9_knows_c0 25 rfl) 1 rfl ?_
    obtain ⟨hb_, hyp⟩ := hyp
    refine s_iald (dcx dX9_knows_c0 26 rfl) (AL_2 isL274) hb_ ?_
    refine r_iload_n (dcx dX9_knows_c0 27 rfl) 2 rfl ?_
    refine r_ishr (dcx dX9_knows_c0 28 rfl) ?_
    refine r_iconst (v := 1) (dcx dX9_knows_c0 29 rfl) rfl ?_
    refine r_iand (dcx dX9_knows_c0 30 rfl) ?_
    refine r_iconst (v := 1) (dcx dX9_knows_c0 31 rfl) rfl ?_
    refine r_icmp_ne (tgt := 63) (dcx dX9_knows_c0 32 rfl) (by decide) (fun q_ => ?_) (fun q_ => ?_)
    · have hyp := hyp.1 q_
      refine r_aload_n (dcx dX9_knows_c0 35 rfl) 0 rfl ?_
      refine s_getr (b := 46) fX9_40 (dcx dX9_knows_c0 36 rfl) F0_2 ?_
      refine r_aload_n (dcx dX9_knows_c0 37 rfl) 0 rfl ?_
      refine s_getr (b := 274) fX9_67 (dcx dX9_knows_c0 38 rfl) F0_6 ?_
      refine s_callV (as := [.ref 274]) (st := []) zX1_live kX9_knows_223 (dcx dX9_knows_c0 39 rfl) rfl rfl (Nat.le_of_ble_eq_true rfl) O46 rfl rfl (C2.mono hyp ?_)
      rintro _ s1_ ⟨rfl, hyp⟩
      show G2 Γ l mX9_knows 74 [(0, .ref 0), (1, .int x1), (2, .int x2), (3, .int x3)] [] s1_ K
      refine r_iinc (lv1 := [(3, .int (x3 + 1)), (0, .ref 0), (1, .int x1), (2, .int x2)]) (dcx dX9_knows_c1 0 rfl) 3 rfl (Nat.le_of_ble_eq_true rfl) rfl ?_
      refine r_goto (tgt := 37) (dcx dX9_knows_c1 1 rfl) (by decide) ?_
      refine r_loc (lv1 := [(0, .ref 0), (1, .int x1), (2, .int x2), (3, .int (x3 + 1))]) [1, 2, 3, 0] rfl ?_
      exact hyp
    · have hyp := hyp.2 q_
      refine r_iload_n (dcx dX9_knows_c0 33 rfl) 3 rfl ?_
      exact s_ret rfl rfl rfl hyp (dcx dX9_knows_c0 34 rfl)
