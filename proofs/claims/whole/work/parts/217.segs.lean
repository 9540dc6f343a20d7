def wX10_care_39 (Γ : GE) (l : Launch) (x1 : Int32) (x2 : Int32) (x3 : Int32) (x4 : Int32) (x5 : Int32) (x6 : Int32) (σ : SS) (K : Option Value → SS → Prop) : Prop := G2 Γ l mX10_care 39 [(0, .ref 284), (1, .int x1), (2, .int x2), (3, .int x3), (4, .int x4), (5, .int x5), (6, .int x6)] [] σ K
def wX10_care_56 (Γ : GE) (l : Launch) (x1 : Int32) (x2 : Int32) (x3 : Int32) (x4 : Int32) (x5 : Int32) (x6 : Int32) (x7 : Int32) (σ : SS) (K : Option Value → SS → Prop) : Prop := G2 Γ l mX10_care 56 [(0, .ref 284), (1, .int x1), (2, .int x2), (3, .int x3), (4, .int x4), (5, .int x5), (6, .int x6), (7, .int x7)] [] σ K
set_option maxHeartbeats 4000000 in
set_option maxRecDepth 20000 in
theorem tX10_care {Γ : GE} {l : Launch} {x1 : Int32} {x2 : Int32} {x3 : Int32} {σ : SS} {K : Option Value → SS → Prop}  (hyp : C2 Γ l mX10_isSign [.ref 284, .int x1] σ (Ri fun r2_ s1_ => ((r2_ = 0 → (K (some (.int ((-1)))) s1_)) ∧ (¬ (r2_ = 0) → (C2 Γ l mX10_isPlace [.ref 284, .int x2, .int x3] s1_ (Ri fun r4_ s3_ => ((¬ r4_ = 0 → (C2 Γ l mX10_copies [.ref 284] s3_ (Rv fun s5_ => (C2 Γ l mX10_goneIn [.ref 284, .int x1, .int x2, .int x3] s5_ (Ri fun r8_ s7_ => (wX10_care_39 Γ l x1 x2 x3 r8_ ((-2)) 0 s7_ K)))))) ∧ (r4_ = 0 → (K (some (.int ((-1)))) s3_))))))))) : C2 Γ l mX10_care [.ref 284, .int x1, .int x2, .int x3] σ K := by
  refine c2_of (lv := [(0, .ref 284), (1, .int x1), (2, .int x2), (3, .int x3)]) (by decide) (Nat.le_of_ble_eq_true rfl) rfl ?_
  refine r_aload_n (dcx dX10_care_c0 0 rfl) 0 rfl ?_
  refine r_iload_n (dcx dX10_care_c0 1 rfl) 1 rfl ?_
  refine s_callV (as := [.int x1]) (st := []) zX10_isSign kX10_care_418 (dcx dX10_care_c0 2 rfl) rfl rfl (Nat.le_of_ble_eq_true rfl) O284 rfl rfl (C2.mono hyp ?_)
  rintro _ s1_ ⟨r2_, rfl, hyp⟩
  show G2 Γ l mX10_care 5 [(0, .ref 284), (1, .int x1), (2, .int x2), (3, .int x3)] [.int r2_] s1_ K
  refine r_if_eq (tgt := 17) (dcx dX10_care_c0 3 rfl) (by decide) (fun q_ => ?_) (fun q_ => ?_)
  · have hyp := hyp.1 q_
    refine r_iconst (v := (-1)) (dcx dX10_care_c0 9 rfl) rfl ?_
    exact s_ret rfl rfl rfl hyp (dcx dX10_care_c0 10 rfl)
  · have hyp := hyp.2 q_
    refine r_aload_n (dcx dX10_care_c0 4 rfl) 0 rfl ?_
    refine r_iload_n (dcx dX10_care_c0 5 rfl) 2 rfl ?_
    refine r_iload_n (dcx dX10_care_c0 6 rfl) 3 rfl ?_
    refine s_callV (as := [.int x2, .int x3]) (st := []) zX10_isPlace kX10_care_424 (dcx dX10_care_c0 7 rfl) rfl rfl (Nat.le_of_ble_eq_true rfl) O284 rfl rfl (C2.mono hyp ?_)
    rintro _ s3_ ⟨r4_, rfl, hyp⟩
    show G2 Γ l mX10_care 14 [(0, .ref 284), (1, .int x1), (2, .int x2), (3, .int x3)] [.int r4_] s3_ K
    refine r_if_ne (tgt := 19) (dcx dX10_care_c0 8 rfl) (by decide) (fun q_ => ?_) (fun q_ => ?_)
    · have hyp := hyp.1 q_
      refine r_aload_n (dcx dX10_care_c0 11 rfl) 0 rfl ?_
      refine s_callV (as := []) (st := []) zX10_copies kX10_care_415 (dcx dX10_care_c0 12 rfl) rfl rfl (Nat.le_of_ble_eq_true rfl) O284 rfl rfl (C2.mono hyp ?_)
      rintro _ s5_ ⟨rfl, hyp⟩
      show G2 Γ l mX10_care 23 [(0, .ref 284), (1, .int x1), (2, .int x2), (3, .int x3)] [] s5_ K
      refine r_aload_n (dcx dX10_care_c0 13 rfl) 0 rfl ?_
      refine r_iload_n (dcx dX10_care_c0 14 rfl) 1 rfl ?_
      refine r_iload_n (dcx dX10_care_c0 15 rfl) 2 rfl ?_
      refine r_iload_n (dcx dX10_care_c0 16 rfl) 3 rfl ?_
      refine s_callV (as := [.int x1, .int x2, .int x3]) (st := []) zX10_goneIn kX10_care_452 (dcx dX10_care_c0 17 rfl) rfl rfl (Nat.le_of_ble_eq_true rfl) O284 rfl rfl (C2.mono hyp ?_)
      rintro _ s7_ ⟨r8_, rfl, hyp⟩
      show G2 Γ l mX10_care 30 [(0, .ref 284), (1, .int x1), (2, .int x2), (3, .int x3)] [.int r8_] s7_ K
      refine r_istore (lv1 := [(4, .int r8_), (0, .ref 284), (1, .int x1), (2, .int x2), (3, .int x3)]) (dcx dX10_care_c0 18 rfl) (Nat.le_of_ble_eq_true rfl) rfl ?_
      refine r_bipush (v := (-2)) (dcx dX10_care_c0 19 rfl) rfl ?_
      refine r_istore (lv1 := [(5, .int ((-2))), (4, .int r8_), (0, .ref 284), (1, .int x1), (2, .int x2), (3, .int x3)]) (dcx dX10_care_c0 20 rfl) (Nat.le_of_ble_eq_true rfl) rfl ?_
      refine r_iconst (v := 0) (dcx dX10_care_c0 21 rfl) rfl ?_
      refine r_istore (lv1 := [(6, .int 0), (5, .int ((-2))), (4, .int r8_), (0, .ref 284), (1, .int x1), (2, .int x2), (3, .int x3)]) (dcx dX10_care_c0 22 rfl) (Nat.le_of_ble_eq_true rfl) rfl ?_
      refine r_loc (lv1 := [(0, .ref 284), (1, .int x1), (2, .int x2), (3, .int x3), (4, .int r8_), (5, .int ((-2))), (6, .int 0)]) [3, 4, 5, 6, 2, 1, 0] rfl ?_
      exact hyp
    · have hyp := hyp.2 q_
      refine r_iconst (v := (-1)) (dcx dX10_care_c0 9 rfl) rfl ?_
      exact s_ret rfl rfl rfl hyp (dcx dX10_care_c0 10 rfl)
set_option maxHeartbeats 4000000 in
set_option maxRecDepth 20000 in
theorem tX10_care_39 {Γ : GE} {l : Launch} {x1 : Int32} {x2 : Int32} {x3 : Int32} {x4 : Int32} {x5 : Int32} {x6 : Int32} {σ : SS} {K : Option Value → SS → Prop}  (hyp : vp_in (σ.1 284 18) 2 ∧ (((σ.1 295 (Int32.toNatClampNeg (σ.1 284 18))) ≤ x6 → (K (some (.int x5)) σ)) ∧ (¬ ((σ.1 295 (Int32.toNatClampNeg (σ.1 284 18))) ≤ x6) → (wX10_care_56 Γ l x1 x2 x3 x4 x5 x6 0 σ K)))) : wX10_care_39 Γ l x1 x2 x3 x4 x5 x6 σ K := by
  show G2 Γ l mX10_care 39 [(0, .ref 284), (1, .int x1), (2, .int x2), (3, .int x3), (4, .int x4), (5, .int x5), (6, .int x6)] [] σ K
  refine r_iload (dcx dX10_care_c0 23 rfl) 6 rfl ?_
  refine r_aload_n (dcx dX10_care_c0 24 rfl) 0 rfl ?_
  refine s_getr (b := 295) fX10_49 (dcx dX10_care_c0 25 rfl) F284_24 ?_
  refine r_aload_n (dcx dX10_care_c0 26 rfl) 0 rfl ?_
  refine s_geti fX10_245 (dcx dX10_care_c0 27 rfl) F284_18 ?_
  obtain ⟨hb_, hyp⟩ := hyp
  refine s_iald (dcx dX10_care_c0 28 rfl) A295 hb_ ?_
  refine r_icmp_ge (tgt := 141) (dcx dX10_care_c0 29 rfl) (by decide) (fun q_ => ?_) (fun q_ => ?_)
  · have hyp := hyp.1 q_
    refine r_iload (dcx dX10_care_c1 33 rfl) 5 rfl ?_
    exact s_ret rfl rfl rfl hyp (dcx dX10_care_c1 34 rfl)
  · have hyp := hyp.2 q_
    refine r_iconst (v := 0) (dcx dX10_care_c0 30 rfl) rfl ?_
    refine r_istore (lv1 := [(7, .int 0), (0, .ref 284), (1, .int x1), (2, .int x2), (3, .int x3), (4, .int x4), (5, .int x5), (6, .int x6)]) (dcx dX10_care_c0 31 rfl) (Nat.le_of_ble_eq_true rfl) rfl ?_
    refine r_loc (lv1 := [(0, .ref 284), (1, .int x1), (2, .int x2), (3, .int x3), (4, .int x4), (5, .int x5), (6, .int x6), (7, .int 0)]) [1, 2, 3, 4, 5, 6, 7, 0] rfl ?_
    exact hyp
set_option maxHeartbeats 4000000 in
set_option maxRecDepth 20000 in
theorem tX10_care_56 {Γ : GE} {l : Launch} {x1 : Int32} {x2 : Int32} {x3 : Int32} {x4 : Int32} {x5 : Int32} {x6 : Int32} {x7 : Int32} {σ : SS} {K : Option Value → SS → Prop}  (hyp : vp_in (σ.1 284 18) 2 ∧ (((σ.1 294 (Int32.toNatClampNeg (σ.1 284 18))) ≤ x7 → (wX10_care_39 Γ l x1 x2 x3 x4 x5 (x6 + 1) σ K)) ∧ (¬ ((σ.1 294 (Int32.toNatClampNeg (σ.1 284 18))) ≤ x7) → (C2 Γ l mX10_isGrass [.ref 284, .int x7, .int x6] σ (Ri fun r2_ s1_ => ((¬ r2_ = 0 → (C2 Γ l mX10_copies [.ref 284] s1_ (Rv fun s3_ => (C2 Γ l mX10_feedsCell [.ref 284, .int x7, .int x6] s3_ (Rv fun s5_ => (C2 Γ l mX10_goneIn [.ref 284, .int x1, .int x2, .int x3] s5_ (Ri fun r8_ s7_ => ((x4 < r8_ → (wX10_care_56 Γ l x1 x2 x3 r8_ ((10 * x6) + x7) x6 (x7 + 1) s7_ K)) ∧ (¬ (x4 < r8_) → (wX10_care_56 Γ l x1 x2 x3 x4 x5 x6 (x7 + 1) s7_ K)))))))))) ∧ (r2_ = 0 → (wX10_care_56 Γ l x1 x2 x3 x4 x5 x6 (x7 + 1) s1_ K)))))))) : wX10_care_56 Γ l x1 x2 x3 x4 x5 x6 x7 σ K := by
  show G2 Γ l mX10_care 56 [(0, .ref 284), (1, .int x1), (2, .int x2), (3, .int x3), (4, .int x4), (5, .int x5), (6, .int x6), (7, .int x7)] [] σ K
  refine r_iload (dcx dX10_care_c0 32 rfl) 7 rfl ?_
  refine r_aload_n (dcx dX10_care_c0 33 rfl) 0 rfl ?_
  refine s_getr (b := 294) fX10_46 (dcx dX10_care_c0 34 rfl) F284_23 ?_
  refine r_aload_n (dcx dX10_care_c0 35 rfl) 0 rfl ?_
  refine s_geti fX10_245 (dcx dX10_care_c0 36 rfl) F284_18 ?_
  obtain ⟨hb_, hyp⟩ := hyp
  refine s_iald (dcx dX10_care_c0 37 rfl) A294 hb_ ?_
  refine r_icmp_ge (tgt := 135) (dcx dX10_care_c0 38 rfl) (by decide) (fun q_ => ?_) (fun q_ => ?_)
  · have hyp := hyp.1 q_
    refine r_iinc (lv1 := [(6, .int (x6 + 1)), (0, .ref 284), (1, .int x1), (2, .int x2), (3, .int x3), (4, .int x4), (5, .int x5), (7, .int x7)]) (dcx dX10_care_c1 31 rfl) 6 rfl (Nat.le_of_ble_eq_true rfl) rfl ?_
    refine r_goto (tgt := 39) (dcx dX10_care_c1 32 rfl) (by decide) ?_
    refine r_loc (lv1 := [(0, .ref 284), (1, .int x1), (2, .int x2), (3, .int x3), (4, .int x4), (5, .int x5), (6, .int (x6 + 1))]) [1, 2, 3, 4, 5, 6, 0] rfl ?_
    exact hyp
  · have hyp := hyp.2 q_
    refine r_aload_n (dcx dX10_care_c0 39 rfl) 0 rfl ?_
    refine r_iload (dcx dX10_care_c1 0 rfl) 7 rfl ?_
    refine r_iload (dcx dX10_care_c1 1 rfl) 6 rfl ?_
    refine s_callV (as := [.int x7, .int x6]) (st := []) zX10_isGrass kX10_care_347 (dcx dX10_care_c1 2 rfl) rfl rfl (Nat.le_of_ble_eq_true rfl) O284 rfl rfl (C2.mono hyp ?_)
    rintro _ s1_ ⟨r2_, rfl, hyp⟩
    show G2 Γ l mX10_care 78 [(0, .ref 284), (1, .int x1), (2, .int x2), (3, .int x3), (4, .int x4), (5, .int x5), (6, .int x6), (7, .int x7)] [.int r2_] s1_ K
    refine r_if_ne (tgt := 84) (dcx dX10_care_c1 3 rfl) (by decide) (fun q_ => ?_) (fun q_ => ?_)
    · have hyp := hyp.1 q_
      refine r_aload_n (dcx dX10_care_c1 5 rfl) 0 rfl ?_
      refine s_callV (as := []) (st := []) zX10_copies kX10_care_415 (dcx dX10_care_c1 6 rfl) rfl rfl (Nat.le_of_ble_eq_true rfl) O284 rfl rfl (C2.mono hyp ?_)
      rintro _ s3_ ⟨rfl, hyp⟩
      show G2 Γ l mX10_care 88 [(0, .ref 284), (1, .int x1), (2, .int x2), (3, .int x3), (4, .int x4), (5, .int x5), (6, .int x6), (7, .int x7)] [] s3_ K
      refine r_aload_n (dcx dX10_care_c1 7 rfl) 0 rfl ?_
      refine r_iload (dcx dX10_care_c1 8 rfl) 7 rfl ?_
      refine r_iload (dcx dX10_care_c1 9 rfl) 6 rfl ?_
      refine s_callV (as := [.int x7, .int x6]) (st := []) zX10_feedsCell kX10_care_440 (dcx dX10_care_c1 10 rfl) rfl rfl (Nat.le_of_ble_eq_true rfl) O284 rfl rfl (C2.mono hyp ?_)
      rintro _ s5_ ⟨rfl, hyp⟩
      show G2 Γ l mX10_care 96 [(0, .ref 284), (1, .int x1), (2, .int x2), (3, .int x3), (4, .int x4), (5, .int x5), (6, .int x6), (7, .int x7)] [] s5_ K
      refine r_aload_n (dcx dX10_care_c1 11 rfl) 0 rfl ?_
      refine r_iload_n (dcx dX10_care_c1 12 rfl) 1 rfl ?_
      refine r_iload_n (dcx dX10_care_c1 13 rfl) 2 rfl ?_
      refine r_iload_n (dcx dX10_care_c1 14 rfl) 3 rfl ?_
      refine s_callV (as := [.int x1, .int x2, .int x3]) (st := []) zX10_goneIn kX10_care_452 (dcx dX10_care_c1 15 rfl) rfl rfl (Nat.le_of_ble_eq_true rfl) O284 rfl rfl (C2.mono hyp ?_)
      rintro _ s7_ ⟨r8_, rfl, hyp⟩
      show G2 Γ l mX10_care 103 [(0, .ref 284), (1, .int x1), (2, .int x2), (3, .int x3), (4, .int x4), (5, .int x5), (6, .int x6), (7, .int x7)] [.int r8_] s7_ K
      refine r_istore (lv1 := [(8, .int r8_), (0, .ref 284), (1, .int x1), (2, .int x2), (3, .int x3), (4, .int x4), (5, .int x5), (6, .int x6), (7, .int x7)]) (dcx dX10_care_c1 16 rfl) (Nat.le_of_ble_eq_true rfl) rfl ?_
      refine r_iload (dcx dX10_care_c1 17 rfl) 0 rfl ?_
      refine r_iload (dcx dX10_care_c1 18 rfl) 5 rfl ?_
      refine r_icmp_gt (tgt := 115) (dcx dX10_care_c1 19 rfl) (by decide) (fun q_ => ?_) (fun q_ => ?_)
      · have hyp := hyp.1 q_
        refine r_iload (dcx dX10_care_c1 21 rfl) 0 rfl ?_
        refine r_istore (lv1 := [(4, .int r8_), (8, .int r8_), (0, .ref 284), (1, .int x1), (2, .int x2), (3, .int x3), (5, .int x5), (6, .int x6), (7, .int x7)]) (dcx dX10_care_c1 22 rfl) (Nat.le_of_ble_eq_true rfl) rfl ?_
        refine r_bipush (v := 10) (dcx dX10_care_c1 23 rfl) rfl ?_
        refine r_iload (dcx dX10_care_c1 24 rfl) 7 rfl ?_
        refine r_imul (dcx dX10_care_c1 25 rfl) ?_
        refine r_iload (dcx dX10_care_c1 26 rfl) 8 rfl ?_
        refine r_iadd (dcx dX10_care_c1 27 rfl) ?_
        refine r_istore (lv1 := [(5, .int ((10 * x6) + x7)), (4, .int r8_), (8, .int r8_), (0, .ref 284), (1, .int x1), (2, .int x2), (3, .int x3), (6, .int x6), (7, .int x7)]) (dcx dX10_care_c1 28 rfl) (Nat.le_of_ble_eq_true rfl) rfl ?_
        refine r_iinc (lv1 := [(7, .int (x7 + 1)), (5, .int ((10 * x6) + x7)), (4, .int r8_), (8, .int r8_), (0, .ref 284), (1, .int x1), (2, .int x2), (3, .int x3), (6, .int x6)]) (dcx dX10_care_c1 29 rfl) 8 rfl (Nat.le_of_ble_eq_true rfl) rfl ?_
        refine r_goto (tgt := 56) (dcx dX10_care_c1 30 rfl) (by decide) ?_
        refine r_loc (lv1 := [(0, .ref 284), (1, .int x1), (2, .int x2), (3, .int x3), (4, .int r8_), (5, .int ((10 * x6) + x7)), (6, .int x6), (7, .int (x7 + 1))]) [4, 5, 6, 7, 2, 1, 8, 0] rfl ?_
        exact hyp
      · have hyp := hyp.2 q_
        refine r_goto (tgt := 129) (dcx dX10_care_c1 20 rfl) (by decide) ?_
        refine r_iinc (lv1 := [(7, .int (x7 + 1)), (8, .int r8_), (0, .ref 284), (1, .int x1), (2, .int x2), (3, .int x3), (4, .int x4), (5, .int x5), (6, .int x6)]) (dcx dX10_care_c1 29 rfl) 8 rfl (Nat.le_of_ble_eq_true rfl) rfl ?_
        refine r_goto (tgt := 56) (dcx dX10_care_c1 30 rfl) (by decide) ?_
        refine r_loc (lv1 := [(0, .ref 284), (1, .int x1), (2, .int x2), (3, .int x3), (4, .int x4), (5, .int x5), (6, .int x6), (7, .int (x7 + 1))]) [2, 3, 4, 5, 6, 7, 8, 0] rfl ?_
        exact hyp
    · have hyp := hyp.2 q_
      refine r_goto (tgt := 129) (dcx dX10_care_c1 4 rfl) (by decide) ?_
      refine r_iinc (lv1 := [(7, .int (x7 + 1)), (0, .ref 284), (1, .int x1), (2, .int x2), (3, .int x3), (4, .int x4), (5, .int x5), (6, .int x6)]) (dcx dX10_care_c1 29 rfl) 7 rfl (Nat.le_of_ble_eq_true rfl) rfl ?_
      refine r_goto (tgt := 56) (dcx dX10_care_c1 30 rfl) (by decide) ?_
      refine r_loc (lv1 := [(0, .ref 284), (1, .int x1), (2, .int x2), (3, .int x3), (4, .int x4), (5, .int x5), (6, .int x6), (7, .int (x7 + 1))]) [1, 2, 3, 4, 5, 6, 7, 0] rfl ?_
      exact hyp
def wX10_isQuiet_2 (Γ : GE) (l : Launch) (x1 : Int32) (σ : SS) (K : Option Value → SS → Prop) : Prop := G2 Γ l mX10_isQuiet 2 [(0, .ref 284), (1, .int x1)] [] σ K
def wX10_isQuiet_17 (Γ : GE) (l : Launch) (x1 : Int32) (x2 : Int32) (σ : SS) (K : Option Value → SS → Prop) : Prop := G2 Γ l mX10_isQuiet 17 [(0, .ref 284), (1, .int x1), (2, .int x2)] [] σ K
set_option maxHeartbeats 4000000 in
set_option maxRecDepth 20000 in
theorem tX10_isQuiet {Γ : GE} {l : Launch}  {σ : SS} {K : Option Value → SS → Prop}  (hyp : wX10_isQuiet_2 Γ l 0 σ K) : C2 Γ l mX10_isQuiet [.ref 284] σ K := by
  refine c2_of (lv := [(0, .ref 284)]) (by decide) (Nat.le_of_ble_eq_true rfl) rfl ?_
  refine r_iconst (v := 0) (dcx dX10_isQuiet_c0 0 rfl) rfl ?_
  refine r_istore_n (lv1 := [(1, .int 0), (0, .ref 284)]) (dcx dX10_isQuiet_c0 1 rfl) (Nat.le_of_ble_eq_true rfl) rfl ?_
  refine r_loc (lv1 := [(0, .ref 284), (1, .int 0)]) [1, 0] rfl ?_
  exact hyp
set_option maxHeartbeats 4000000 in
set_option maxRecDepth 20000 in
theorem tX10_isQuiet_2 {Γ : GE} {l : Launch} {x1 : Int32} {σ : SS} {K : Option Value → SS → Prop}  (hyp : vp_in (σ.1 284 18) 2 ∧ (((σ.1 299 (Int32.toNatClampNeg (σ.1 284 18))) ≤ x1 → (K (some (.int 1)) σ)) ∧ (¬ ((σ.1 299 (Int32.toNatClampNeg (σ.1 284 18))) ≤ x1) → (wX10_isQuiet_17 Γ l x1 0 σ K)))) : wX10_isQuiet_2 Γ l x1 σ K := by
  show G2 Γ l mX10_isQuiet 2 [(0, .ref 284), (1, .int x1)] [] σ K
  refine r_iload_n (dcx dX10_isQuiet_c0 2 rfl) 1 rfl ?_
  refine r_aload_n (dcx dX10_isQuiet_c0 3 rfl) 0 rfl ?_
  refine s_getr (b := 299) fX10_62 (dcx dX10_isQuiet_c0 4 rfl) F284_28 ?_
  refine r_aload_n (dcx dX10_isQuiet_c0 5 rfl) 0 rfl ?_
  refine s_geti fX10_245 (dcx dX10_isQuiet_c0 6 rfl) F284_18 ?_
  obtain ⟨hb_, hyp⟩ := hyp
  refine s_iald (dcx dX10_isQuiet_c0 7 rfl) A299 hb_ ?_
  refine r_icmp_ge (tgt := 53) (dcx dX10_isQuiet_c0 8 rfl) (by decide) (fun q_ => ?_) (fun q_ => ?_)
  · have hyp := hyp.1 q_
    refine r_iconst (v := 1) (dcx dX10_isQuiet_c0 29 rfl) rfl ?_
    exact s_ret rfl rfl rfl hyp (dcx dX10_isQuiet_c0 30 rfl)
  · have hyp := hyp.2 q_
    refine r_iconst (v := 0) (dcx dX10_isQuiet_c0 9 rfl) rfl ?_
    refine r_istore_n (lv1 := [(2, .int 0), (0, .ref 284), (1, .int x1)]) (dcx dX10_isQuiet_c0 10 rfl) (Nat.le_of_ble_eq_true rfl) rfl ?_
    refine r_loc (lv1 := [(0, .ref 284), (1, .int x1), (2, .int 0)]) [1, 2, 0] rfl ?_
    exact hyp
set_option maxHeartbeats 4000000 in
set_option maxRecDepth 20000 in
theorem tX10_isQuiet_17 {Γ : GE} {l : Launch} {x1 : Int32} {x2 : Int32} {σ : SS} {K : Option Value → SS → Prop}  (hyp : vp_in (σ.1 284 18) 2 ∧ (((σ.1 297 (Int32.toNatClampNeg (σ.1 284 18))) ≤ x2 → (wX10_isQuiet_2 Γ l (x1 + 1) σ K)) ∧ (¬ ((σ.1 297 (Int32.toNatClampNeg (σ.1 284 18))) ≤ x2) → (C2 Γ l mX10_readsAnywhere [.ref 284, .int x1, .int x2] σ (Ri fun r2_ s1_ => ((r2_ = 0 → (wX10_isQuiet_17 Γ l x1 (x2 + 1) s1_ K)) ∧ (¬ (r2_ = 0) → (K (some (.int 0)) s1_)))))))) : wX10_isQuiet_17 Γ l x1 x2 σ K := by
  show G2 Γ l mX10_isQuiet 17 [(0, .ref 284), (1, .int x1), (2, .int x2)] [] σ K
  refine r_iload_n (dcx dX10_isQuiet_c0 11 rfl) 2 rfl ?_
  refine r_aload_n (dcx dX10_isQuiet_c0 12 rfl) 0 rfl ?_
  refine s_getr (b := 297) fX10_55 (dcx dX10_isQuiet_c0 13 rfl) F284_26 ?_
  refine r_aload_n (dcx dX10_isQuiet_c0 14 rfl) 0 rfl ?_
  refine s_geti fX10_245 (dcx dX10_isQuiet_c0 15 rfl) F284_18 ?_
  obtain ⟨hb_, hyp⟩ := hyp
  refine s_iald (dcx dX10_isQuiet_c0 16 rfl) A297 hb_ ?_
  refine r_icmp_ge (tgt := 47) (dcx dX10_isQuiet_c0 17 rfl) (by decide) (fun q_ => ?_) (fun q_ => ?_)
  · have hyp := hyp.1 q_
    refine r_iinc (lv1 := [(1, .int (x1 + 1)), (0, .ref 284), (2, .int x2)]) (dcx dX10_isQuiet_c0 27 rfl) 1 rfl (Nat.le_of_ble_eq_true rfl) rfl ?_
    refine r_goto (tgt := 2) (dcx dX10_isQuiet_c0 28 rfl) (by decide) ?_
    refine r_loc (lv1 := [(0, .ref 284), (1, .int (x1 + 1))]) [1, 0] rfl ?_
    exact hyp
  · have hyp := hyp.2 q_
    refine r_aload_n (dcx dX10_isQuiet_c0 18 rfl) 0 rfl ?_
    refine r_iload_n (dcx dX10_isQuiet_c0 19 rfl) 1 rfl ?_
    refine r_iload_n (dcx dX10_isQuiet_c0 20 rfl) 2 rfl ?_
    refine s_callV (as := [.int x1, .int x2]) (st := []) zX10_readsAnywhere kX10_isQuiet_409 (dcx dX10_isQuiet_c0 21 rfl) rfl rfl (Nat.le_of_ble_eq_true rfl) O284 rfl rfl (C2.mono hyp ?_)
    rintro _ s1_ ⟨r2_, rfl, hyp⟩
    show G2 Γ l mX10_isQuiet 36 [(0, .ref 284), (1, .int x1), (2, .int x2)] [.int r2_] s1_ K
    refine r_if_eq (tgt := 41) (dcx dX10_isQuiet_c0 22 rfl) (by decide) (fun q_ => ?_) (fun q_ => ?_)
    · have hyp := hyp.1 q_
      refine r_iinc (lv1 := [(2, .int (x2 + 1)), (0, .ref 284), (1, .int x1)]) (dcx dX10_isQuiet_c0 25 rfl) 2 rfl (Nat.le_of_ble_eq_true rfl) rfl ?_
      refine r_goto (tgt := 17) (dcx dX10_isQuiet_c0 26 rfl) (by decide) ?_
      refine r_loc (lv1 := [(0, .ref 284), (1, .int x1), (2, .int (x2 + 1))]) [1, 2, 0] rfl ?_
      exact hyp
    · have hyp := hyp.2 q_
      refine r_iconst (v := 0) (dcx dX10_isQuiet_c0 23 rfl) rfl ?_
      exact s_ret rfl rfl rfl hyp (dcx dX10_isQuiet_c0 24 rfl)
def wX10_level_3 (Γ : GE) (l : Launch) (x1 : Int32) (σ : SS) (K : Option Value → SS → Prop) : Prop := G2 Γ l mX10_level 3 [(0, .ref 284), (1, .int x1)] [] σ K
set_option maxHeartbeats 4000000 in
set_option maxRecDepth 20000 in
theorem tX10_level {Γ : GE} {l : Launch}  {σ : SS} {K : Option Value → SS → Prop}  (hyp : wX10_level_3 Γ l 99 σ K) : C2 Γ l mX10_level [.ref 284] σ K := by
  refine c2_of (lv := [(0, .ref 284)]) (by decide) (Nat.le_of_ble_eq_true rfl) rfl ?_
  refine r_bipush (v := 99) (dcx dX10_level_c0 0 rfl) rfl ?_
  refine r_istore_n (lv1 := [(1, .int 99), (0, .ref 284)]) (dcx dX10_level_c0 1 rfl) (Nat.le_of_ble_eq_true rfl) rfl ?_
  refine r_loc (lv1 := [(0, .ref 284), (1, .int 99)]) [1, 0] rfl ?_
  exact hyp
set_option maxHeartbeats 4000000 in
set_option maxRecDepth 20000 in
theorem tX10_level_3 {Γ : GE} {l : Launch} {x1 : Int32} {σ : SS} {K : Option Value → SS → Prop}  (hyp : (x1 < 0 → (K (some (.int ((-2)))) σ)) ∧ (¬ (x1 < 0) → (C2 Γ l mX10_copies [.ref 284] σ (Rv fun s1_ => (C2 Γ l mX10_mowsTo [.ref 284, .int x1] s1_ (Ri fun r4_ s3_ => (C2 Γ l mX10_isQuiet [.ref 284] s3_ (Ri fun r6_ s5_ => ((r6_ = 0 → (wX10_level_3 Γ l (x1 + (-1)) s5_ K)) ∧ (¬ (r6_ = 0) → (K (some (.int x1)) s5_))))))))))) : wX10_level_3 Γ l x1 σ K := by
  show G2 Γ l mX10_level 3 [(0, .ref 284), (1, .int x1)] [] σ K
  refine r_iload_n (dcx dX10_level_c0 2 rfl) 1 rfl ?_
  refine r_if_lt (tgt := 32) (dcx dX10_level_c0 3 rfl) (by decide) (fun q_ => ?_) (fun q_ => ?_)
  · have hyp := hyp.1 q_
    refine r_bipush (v := (-2)) (dcx dX10_level_c0 17 rfl) rfl ?_
    exact s_ret rfl rfl rfl hyp (dcx dX10_level_c0 18 rfl)
  · have hyp := hyp.2 q_
    refine r_aload_n (dcx dX10_level_c0 4 rfl) 0 rfl ?_
    refine s_callV (as := []) (st := []) zX10_copies kX10_level_415 (dcx dX10_level_c0 5 rfl) rfl rfl (Nat.le_of_ble_eq_true rfl) O284 rfl rfl (C2.mono hyp ?_)
    rintro _ s1_ ⟨rfl, hyp⟩
    show G2 Γ l mX10_level 11 [(0, .ref 284), (1, .int x1)] [] s1_ K
    refine r_aload_n (dcx dX10_level_c0 6 rfl) 0 rfl ?_
    refine r_iload_n (dcx dX10_level_c0 7 rfl) 1 rfl ?_
    refine s_callV (as := [.int x1]) (st := []) zX10_mowsTo kX10_level_443 (dcx dX10_level_c0 8 rfl) rfl rfl (Nat.le_of_ble_eq_true rfl) O284 rfl rfl (C2.mono hyp ?_)
    rintro _ s3_ ⟨r4_, rfl, hyp⟩
    show G2 Γ l mX10_level 16 [(0, .ref 284), (1, .int x1)] [.int r4_] s3_ K
    refine r_pop (dcx dX10_level_c0 9 rfl) rfl ?_
    refine r_aload_n (dcx dX10_level_c0 10 rfl) 0 rfl ?_
    refine s_callV (as := []) (st := []) zX10_isQuiet kX10_level_462 (dcx dX10_level_c0 11 rfl) rfl rfl (Nat.le_of_ble_eq_true rfl) O284 rfl rfl (C2.mono hyp ?_)
    rintro _ s5_ ⟨r6_, rfl, hyp⟩
    show G2 Γ l mX10_level 21 [(0, .ref 284), (1, .int x1)] [.int r6_] s5_ K
    refine r_if_eq (tgt := 26) (dcx dX10_level_c0 12 rfl) (by decide) (fun q_ => ?_) (fun q_ => ?_)
    · have hyp := hyp.1 q_
      refine r_iinc (lv1 := [(1, .int (x1 + (-1))), (0, .ref 284)]) (dcx dX10_level_c0 15 rfl) 1 rfl (Nat.le_of_ble_eq_true rfl) rfl ?_
      refine r_goto (tgt := 3) (dcx dX10_level_c0 16 rfl) (by decide) ?_
      refine r_loc (lv1 := [(0, .ref 284), (1, .int (x1 + (-1)))]) [1, 0] rfl ?_
      exact hyp
    · have hyp := hyp.2 q_
      refine r_iload_n (dcx dX10_level_c0 13 rfl) 1 rfl ?_
      exact s_ret rfl rfl rfl hyp (dcx dX10_level_c0 14 rfl)
def wX10_quiet_6 (Γ : GE) (l : Launch) (x1 : Int32) (σ : SS) (K : Option Value → SS → Prop) : Prop := G2 Γ l mX10_quiet 6 [(0, .ref 284), (1, .int x1)] [] σ K
set_option maxHeartbeats 4000000 in
set_option maxRecDepth 20000 in
theorem tX10_quiet {Γ : GE} {l : Launch}  {σ : SS} {K : Option Value → SS → Prop}  (hyp : C2 Γ l mX10_copies [.ref 284] σ (Rv fun s1_ => (wX10_quiet_6 Γ l 0 s1_ K))) : C2 Γ l mX10_quiet [.ref 284] σ K := by
  refine c2_of (lv := [(0, .ref 284)]) (by decide) (Nat.le_of_ble_eq_true rfl) rfl ?_
  refine r_aload_n (dcx dX10_quiet_c0 0 rfl) 0 rfl ?_
  refine s_callV (as := []) (st := []) zX10_copies kX10_quiet_415 (dcx dX10_quiet_c0 1 rfl) rfl rfl (Nat.le_of_ble_eq_true rfl) O284 rfl rfl (C2.mono hyp ?_)
  rintro _ s1_ ⟨rfl, hyp⟩
  show G2 Γ l mX10_quiet 4 [(0, .ref 284)] [] s1_ K
  refine r_iconst (v := 0) (dcx dX10_quiet_c0 2 rfl) rfl ?_
  refine r_istore_n (lv1 := [(1, .int 0), (0, .ref 284)]) (dcx dX10_quiet_c0 3 rfl) (Nat.le_of_ble_eq_true rfl) rfl ?_
  refine r_loc (lv1 := [(0, .ref 284), (1, .int 0)]) [1, 0] rfl ?_
  exact hyp
set_option maxHeartbeats 4000000 in
set_option maxRecDepth 20000 in
theorem tX10_quiet_6 {Γ : GE} {l : Launch} {x1 : Int32} {σ : SS} {K : Option Value → SS → Prop}  (hyp : ((200 : Int32) < x1 → (K (some (.int ((-2)))) σ)) ∧ (¬ ((200 : Int32) < x1) → (C2 Γ l mX10_isQuiet [.ref 284] σ (Ri fun r2_ s1_ => ((r2_ = 0 → (C2 Γ l mX10_grassGrows [.ref 284] s1_ (Rv fun s3_ => (wX10_quiet_6 Γ l (x1 + 1) s3_ K)))) ∧ (¬ (r2_ = 0) → (K (some (.int x1)) s1_))))))) : wX10_quiet_6 Γ l x1 σ K := by
  show G2 Γ l mX10_quiet 6 [(0, .ref 284), (1, .int x1)] [] σ K
  refine r_iload_n (dcx dX10_quiet_c0 4 rfl) 1 rfl ?_
  refine r_sipush (v := 200) (dcx dX10_quiet_c0 5 rfl) rfl ?_
  refine r_icmp_gt (tgt := 32) (dcx dX10_quiet_c0 6 rfl) (by decide) (fun q_ => ?_) (fun q_ => ?_)
  · have hyp := hyp.1 q_
    refine r_bipush (v := (-2)) (dcx dX10_quiet_c0 16 rfl) rfl ?_
    exact s_ret rfl rfl rfl hyp (dcx dX10_quiet_c0 17 rfl)
  · have hyp := hyp.2 q_
    refine r_aload_n (dcx dX10_quiet_c0 7 rfl) 0 rfl ?_
    refine s_callV (as := []) (st := []) zX10_isQuiet kX10_quiet_462 (dcx dX10_quiet_c0 8 rfl) rfl rfl (Nat.le_of_ble_eq_true rfl) O284 rfl rfl (C2.mono hyp ?_)
    rintro _ s1_ ⟨r2_, rfl, hyp⟩
    show G2 Γ l mX10_quiet 17 [(0, .ref 284), (1, .int x1)] [.int r2_] s1_ K
    refine r_if_eq (tgt := 22) (dcx dX10_quiet_c0 9 rfl) (by decide) (fun q_ => ?_) (fun q_ => ?_)
    · have hyp := hyp.1 q_
      refine r_aload_n (dcx dX10_quiet_c0 12 rfl) 0 rfl ?_
      refine s_callV (as := []) (st := []) zX10_grassGrows kX10_quiet_406 (dcx dX10_quiet_c0 13 rfl) rfl rfl (Nat.le_of_ble_eq_true rfl) O284 rfl rfl (C2.mono hyp ?_)
      rintro _ s3_ ⟨rfl, hyp⟩
      show G2 Γ l mX10_quiet 26 [(0, .ref 284), (1, .int x1)] [] s3_ K
      refine r_iinc (lv1 := [(1, .int (x1 + 1)), (0, .ref 284)]) (dcx dX10_quiet_c0 14 rfl) 1 rfl (Nat.le_of_ble_eq_true rfl) rfl ?_
      refine r_goto (tgt := 6) (dcx dX10_quiet_c0 15 rfl) (by decide) ?_
      refine r_loc (lv1 := [(0, .ref 284), (1, .int (x1 + 1))]) [1, 0] rfl ?_
      exact hyp
    · have hyp := hyp.2 q_
      refine r_iload_n (dcx dX10_quiet_c0 10 rfl) 1 rfl ?_
      exact s_ret rfl rfl rfl hyp (dcx dX10_quiet_c0 11 rfl)
def wX10_knows_24 (Γ : GE) (l : Launch) (x1 : Int32) (x2 : Int32) (x3 : Int32) (σ : SS) (K : Option Value → SS → Prop) : Prop := G2 Γ l mX10_knows 24 [(0, .ref 284), (1, .int x1), (2, .int x2), (3, .int x3)] [] σ K
set_option maxHeartbeats 4000000 in
set_option maxRecDepth 20000 in
theorem tX10_knows {Γ : GE} {l : Launch} {x1 : Int32} {x2 : Int32} {σ : SS} {K : Option Value → SS → Prop}  (hyp : C2 Γ l mX10_isWindow [.ref 284, .int x1] σ (Ri fun r2_ s1_ => ((r2_ = 0 → (K (some (.int ((-1)))) s1_)) ∧ (¬ (r2_ = 0) → (C2 Γ l mX10_isSign [.ref 284, .int x2] s1_ (Ri fun r4_ s3_ => ((¬ r4_ = 0 → (C2 Γ l mX10_copies [.ref 284] s3_ (Rv fun s5_ => (wX10_knows_24 Γ l x1 x2 0 s5_ K)))) ∧ (r4_ = 0 → (K (some (.int ((-1)))) s3_))))))))) : C2 Γ l mX10_knows [.ref 284, .int x1, .int x2] σ K := by
  refine c2_of (lv := [(0, .ref 284), (1, .int x1), (2, .int x2)]) (by decide) (Nat.le_of_ble_eq_true rfl) rfl ?_
  refine r_aload_n (dcx dX10_knows_c0 0 rfl) 0 rfl ?_
  refine r_iload_n (dcx dX10_knows_c0 1 rfl) 1 rfl ?_
  refine s_callV (as := [.int x1]) (st := []) zX10_isWindow kX10_knows_421 (dcx dX10_knows_c0 2 rfl) rfl rfl (Nat.le_of_ble_eq_true rfl) O284 rfl rfl (C2.mono hyp ?_)
  rintro _ s1_ ⟨r2_, rfl, hyp⟩
  show G2 Γ l mX10_knows 5 [(0, .ref 284), (1, .int x1), (2, .int x2)] [.int r2_] s1_ K
  refine r_if_eq (tgt := 16) (dcx dX10_knows_c0 3 rfl) (by decide) (fun q_ => ?_) (fun q_ => ?_)
  · have hyp := hyp.1 q_
    refine r_iconst (v := (-1)) (dcx dX10_knows_c0 8 rfl) rfl ?_
    exact s_ret rfl rfl rfl hyp (dcx dX10_knows_c0 9 rfl)
  · have hyp := hyp.2 q_
    refine r_aload_n (dcx dX10_knows_c0 4 rfl) 0 rfl ?_
    refine r_iload_n (dcx dX10_knows_c0 5 rfl) 2 rfl ?_
    refine s_callV (as := [.int x2]) (st := []) zX10_isSign kX10_knows_418 (dcx dX10_knows_c0 6 rfl) rfl rfl (Nat.le_of_ble_eq_true rfl) O284 rfl rfl (C2.mono hyp ?_)
    rintro _ s3_ ⟨r4_, rfl, hyp⟩
    show G2 Γ l mX10_knows 13 [(0, .ref 284), (1, .int x1), (2, .int x2)] [.int r4_] s3_ K
    refine r_if_ne (tgt := 18) (dcx dX10_knows_c0 7 rfl) (by decide) (fun q_ => ?_) (fun q_ => ?_)
    · have hyp := hyp.1 q_
      refine r_aload_n (dcx dX10_knows_c0 10 rfl) 0 rfl ?_
      refine s_callV (as := []) (st := []) zX10_copies kX10_knows_415 (dcx dX10_knows_c0 11 rfl) rfl rfl (Nat.le_of_ble_eq_true rfl) O284 rfl rfl (C2.mono hyp ?_)
      rintro _ s5_ ⟨rfl, hyp⟩
      show G2 Γ l mX10_knows 22 [(0, .ref 284), (1, .int x1), (2, .int x2)] [] s5_ K
      refine r_iconst (v := 0) (dcx dX10_knows_c0 12 rfl) rfl ?_
      refine r_istore_n (lv1 := [(3, .int 0), (0, .ref 284), (1, .int x1), (2, .int x2)]) (dcx dX10_knows_c0 13 rfl) (Nat.le_of_ble_eq_true rfl) rfl ?_
      refine r_loc (lv1 := [(0, .ref 284), (1, .int x1), (2, .int x2), (3, .int 0)]) [1, 2, 3, 0] rfl ?_
      exact hyp
    · have hyp := hyp.2 q_
      refine r_iconst (v := (-1)) (dcx dX10_knows_c0 8 rfl) rfl ?_
      exact s_ret rfl rfl rfl hyp (dcx dX10_knows_c0 9 rfl)
set_option maxHeartbeats 4000000 in
set_option maxRecDepth 20000 in
theorem tX10_knows_24 {Γ : GE} {l : Launch} {x1 : Int32} {x2 : Int32} {x3 : Int32} {σ : SS} {K : Option Value → SS → Prop}  (hyp : ((200 : Int32) < x3 → (K (some (.int ((-2)))) σ)) ∧ (¬ ((200 : Int32) < x3) → (vp_in (100 + x1) 106 ∧ ((¬ (((σ.1 322 (Int32.toNatClampNeg (100 + x1))) >>> (x2 &&& 31)) &&& 1) = 1 → (C2 Γ l mX10_weekGoes [.ref 284] σ (Rv fun s1_ => (wX10_knows_24 Γ l x1 x2 (x3 + 1) s1_ K)))) ∧ ((((σ.1 322 (Int32.toNatClampNeg (100 + x1))) >>> (x2 &&& 31)) &&& 1) = 1 → (K (some (.int x3)) σ)))))) : wX10_knows_24 Γ l x1 x2 x3 σ K := by
  show G2 Γ l mX10_knows 24 [(0, .ref 284), (1, .int x1), (2, .int x2), (3, .int x3)] [] σ K
  refine r_iload_n (dcx dX10_knows_c0 14 rfl) 3 rfl ?_
  refine r_sipush (v := 200) (dcx dX10_knows_c0 15 rfl) rfl ?_
  refine r_icmp_gt (tgt := 60) (dcx dX10_knows_c0 16 rfl) (by decide) (fun q_ => ?_) (fun q_ => ?_)
  · have hyp := hyp.1 q_
    refine r_bipush (v := (-2)) (dcx dX10_knows_c0 35 rfl) rfl ?_
    exact s_ret rfl rfl rfl hyp (dcx dX10_knows_c0 36 rfl)
  · have hyp := hyp.2 q_
    refine r_aload_n (dcx dX10_knows_c0 17 rfl) 0 rfl ?_
    refine s_getr (b := 322) fX10_131 (dcx dX10_knows_c0 18 rfl) F284_55 ?_
    refine r_bipush (v := 100) (dcx dX10_knows_c0 19 rfl) rfl ?_
    refine r_iload_n (dcx dX10_knows_c0 20 rfl) 1 rfl ?_
    refine r_iadd (dcx dX10_knows_c0 21 rfl) ?_
    obtain ⟨hb_, hyp⟩ := hyp
    refine s_iald (dcx dX10_knows_c0 22 rfl) A322 hb_ ?_
    refine r_iload_n (dcx dX10_knows_c0 23 rfl) 2 rfl ?_
    refine r_ishr (dcx dX10_knows_c0 24 rfl) ?_
    refine r_iconst (v := 1) (dcx dX10_knows_c0 25 rfl) rfl ?_
    refine r_iand (dcx dX10_knows_c0 26 rfl) ?_
    refine r_iconst (v := 1) (dcx dX10_knows_c0 27 rfl) rfl ?_
    refine r_icmp_ne (tgt := 50) (dcx dX10_knows_c0 28 rfl) (by decide) (fun q_ => ?_) (fun q_ => ?_)
    · have hyp := hyp.1 q_
      refine r_aload_n (dcx dX10_knows_c0 31 rfl) 0 rfl ?_
      refine s_callV (as := []) (st := []) zX10_weekGoes kX10_knows_412 (dcx dX10_knows_c0 32 rfl) rfl rfl (Nat.le_of_ble_eq_true rfl) O284 rfl rfl (C2.mono hyp ?_)
      rintro _ s1_ ⟨rfl, hyp⟩
      show G2 Γ l mX10_knows 54 [(0, .ref 284), (1, .int x1), (2, .int x2), (3, .int x3)] [] s1_ K
      refine r_iinc (lv1 := [(3, .int (x3 + 1)), (0, .ref 284), (1, .int x1), (2, .int x2)]) (dcx dX10_knows_c0 33 rfl) 3 rfl (Nat.le_of_ble_eq_true rfl) rfl ?_
      refine r_goto (tgt := 24) (dcx dX10_knows_c0 34 rfl) (by decide) ?_
      refine r_loc (lv1 := [(0, .ref 284), (1, .int x1), (2, .int x2), (3, .int (x3 + 1))]) [1, 2, 3, 0] rfl ?_
      exact hyp
    · have hyp := hyp.2 q_
      refine r_iload_n (dcx dX10_knows_c0 29 rfl) 3 rfl ?_
      exact s_ret rfl rfl rfl hyp (dcx dX10_knows_c0 30 rfl)
set_option maxHeartbeats 4000000 in
set_option maxRecDepth 20000 in
theorem tX10_isLong {Γ : GE} {l : Launch} {x0 : Int32} {σ : SS} {K : Option Value → SS → Prop}  (hyp : C2 Γ l mX10_in [.int x0, .int 0, .int 60] σ (Ri fun r2_ s1_ => (narrow .boolean (.int r2_) = .int r2_ ∧ K (some (.int r2_)) s1_))) : C2 Γ l mX10_isLong [.int x0] σ K := by
  refine c2_of (lv := [(0, .int x0)]) (by decide) (Nat.le_of_ble_eq_true rfl) rfl ?_
  refine r_iload_n (dcx dX10_isLong_c0 0 rfl) 0 rfl ?_
  refine r_iconst (v := 0) (dcx dX10_isLong_c0 1 rfl) rfl ?_
  refine r_bipush (v := 60) (dcx dX10_isLong_c0 2 rfl) rfl ?_
  refine s_callS (as := [.int x0, .int 0, .int 60]) (st := []) zX10_in kX10_isLong_339 (dcx dX10_isLong_c0 3 rfl) rfl rfl (Nat.le_of_ble_eq_true rfl) (C2.mono hyp ?_)
  rintro _ s1_ ⟨r2_, rfl, hyp⟩
  show G2 Γ l mX10_isLong 7 [(0, .int x0)] [.int r2_] s1_ K
  exact s_ret rfl rfl hyp.1 hyp.2 (dcx dX10_isLong_c0 4 rfl)
set_option maxHeartbeats 4000000 in
set_option maxRecDepth 20000 in
theorem tX10_then {Γ : GE} {l : Launch} {x1 : Int32} {x2 : Int32} {x3 : Int32} {σ : SS} {K : Option Value → SS → Prop}  (hyp : C2 Γ l mX10_isCell [.ref 284, .int x1, .int x2] σ (Ri fun r2_ s1_ => ((r2_ = 0 → (K (some (.int ((-1)))) s1_)) ∧ (¬ (r2_ = 0) → (C2 Γ l mX10_isLong [.int x3] s1_ (Ri fun r4_ s3_ => ((¬ r4_ = 0 → (C2 Γ l mX10_copies [.ref 284] s3_ (Rv fun s5_ => (C2 Γ l mX10_grows [.ref 284, .int x3] s5_ (Rv fun s7_ => (vp_in ((8 * x2) + x1) 106 ∧ (K (some (.int (s7_.1 322 (Int32.toNatClampNeg ((8 * x2) + x1))))) s7_))))))) ∧ (r4_ = 0 → (K (some (.int ((-1)))) s3_))))))))) : C2 Γ l mX10_then [.ref 284, .int x1, .int x2, .int x3] σ K := by
  refine c2_of (lv := [(0, .ref 284), (1, .int x1), (2, .int x2), (3, .int x3)]) (by decide) (Nat.le_of_ble_eq_true rfl) rfl ?_
  refine r_aload_n (dcx dX10_then_c0 0 rfl) 0 rfl ?_
  refine r_iload_n (dcx dX10_then_c0 1 rfl) 1 rfl ?_
  refine r_iload_n (dcx dX10_then_c0 2 rfl) 2 rfl ?_
  refine s_callV (as := [.int x1, .int x2]) (st := []) zX10_isCell kX10_then_343 (dcx dX10_then_c0 3 rfl) rfl rfl (Nat.le_of_ble_eq_true rfl) O284 rfl rfl (C2.mono hyp ?_)
  rintro _ s1_ ⟨r2_, rfl, hyp⟩
  show G2 Γ l mX10_then 6 [(0, .ref 284), (1, .int x1), (2, .int x2), (3, .int x3)] [.int r2_] s1_ K
  refine r_if_eq (tgt := 16) (dcx dX10_then_c0 4 rfl) (by decide) (fun q_ => ?_) (fun q_ => ?_)
  · have hyp := hyp.1 q_
    refine r_iconst (v := (-1)) (dcx dX10_then_c0 8 rfl) rfl ?_
    exact s_ret rfl rfl rfl hyp (dcx dX10_then_c0 9 rfl)
  · have hyp := hyp.2 q_
    refine r_iload_n (dcx dX10_then_c0 5 rfl) 3 rfl ?_
    refine s_callS (as := [.int x3]) (st := []) zX10_isLong kX10_then_466 (dcx dX10_then_c0 6 rfl) rfl rfl (Nat.le_of_ble_eq_true rfl) (C2.mono hyp ?_)
    rintro _ s3_ ⟨r4_, rfl, hyp⟩
    show G2 Γ l mX10_then 13 [(0, .ref 284), (1, .int x1), (2, .int x2), (3, .int x3)] [.int r4_] s3_ K
    refine r_if_ne (tgt := 18) (dcx dX10_then_c0 7 rfl) (by decide) (fun q_ => ?_) (fun q_ => ?_)
    · have hyp := hyp.1 q_
      refine r_aload_n (dcx dX10_then_c0 10 rfl) 0 rfl ?_
      refine s_callV (as := []) (st := []) zX10_copies kX10_then_415 (dcx dX10_then_c0 11 rfl) rfl rfl (Nat.le_of_ble_eq_true rfl) O284 rfl rfl (C2.mono hyp ?_)
      rintro _ s5_ ⟨rfl, hyp⟩
      show G2 Γ l mX10_then 22 [(0, .ref 284), (1, .int x1), (2, .int x2), (3, .int x3)] [] s5_ K
      refine r_aload_n (dcx dX10_then_c0 12 rfl) 0 rfl ?_
      refine r_iload_n (dcx dX10_then_c0 13 rfl) 3 rfl ?_
      refine s_callV (as := [.int x3]) (st := []) zX10_grows kX10_then_455 (dcx dX10_then_c0 14 rfl) rfl rfl (Nat.le_of_ble_eq_true rfl) O284 rfl rfl (C2.mono hyp ?_)
      rintro _ s7_ ⟨rfl, hyp⟩
      show G2 Γ l mX10_then 27 [(0, .ref 284), (1, .int x1), (2, .int x2), (3, .int x3)] [] s7_ K
      refine r_aload_n (dcx dX10_then_c0 15 rfl) 0 rfl ?_
      refine s_getr (b := 322) fX10_131 (dcx dX10_then_c0 16 rfl) F284_55 ?_
      refine r_bipush (v := 8) (dcx dX10_then_c0 17 rfl) rfl ?_
      refine r_iload_n (dcx dX10_then_c0 18 rfl) 2 rfl ?_
      refine r_imul (dcx dX10_then_c0 19 rfl) ?_
      refine r_iload_n (dcx dX10_then_c0 20 rfl) 1 rfl ?_
      refine r_iadd (dcx dX10_then_c0 21 rfl) ?_
      obtain ⟨hb_, hyp⟩ := hyp
      refine s_iald (dcx dX10_then_c0 22 rfl) A322 hb_ ?_
      exact s_ret rfl rfl rfl hyp (dcx dX10_then_c0 23 rfl)
    · have hyp := hyp.2 q_
      refine r_iconst (v := (-1)) (dcx dX10_then_c0 8 rfl) rfl ?_
      exact s_ret rfl rfl rfl hyp (dcx dX10_then_c0 9 rfl)
def wX10_all_31 (Γ : GE) (l : Launch)  (σ : SS) (K : Option Value → SS → Prop) : Prop := G2 Γ l mX10_all 31 [] [] σ K
def wX10_all_33 (Γ : GE) (l : Launch) (x1 : Int32) (x2 : Int32) (x3 : Int32) (σ : SS) (K : Option Value → SS → Prop) : Prop := G2 Γ l mX10_all 33 [(0, .ref 284), (1, .int x1), (2, .int x2), (3, .int x3)] [] σ K
def wX10_all_55 (Γ : GE) (l : Launch) (x2 : Int32) (x3 : Int32) (x4 : Int32) (x5 : Int32) (x6 : Int32) (x7 : Int32) (σ : SS) (K : Option Value → SS → Prop) : Prop := G2 Γ l mX10_all 55 [(0, .ref 284), (2, .int x2), (3, .int x3), (4, .int x4), (5, .int x5), (6, .int x6), (7, .int x7)] [] σ K
def wX10_all_72 (Γ : GE) (l : Launch) (x2 : Int32) (x3 : Int32) (x4 : Int32) (x5 : Int32) (x6 : Int32) (x7 : Int32) (x8 : Int32) (σ : SS) (K : Option Value → SS → Prop) : Prop := G2 Γ l mX10_all 72 [(0, .ref 284), (2, .int x2), (3, .int x3), (4, .int x4), (5, .int x5), (6, .int x6), (7, .int x7), (8, .int x8)] [] σ K
def wX10_all_128 (Γ : GE) (l : Launch) (x2 : Int32) (x3 : Int32) (x4 : Int32) (x5 : Int32) (x6 : Int32) (x7 : Int32) (x8 : Int32) (x9 : Int32) (σ : SS) (K : Option Value → SS → Prop) : Prop := G2 Γ l mX10_all 128 [(0, .ref 284), (2, .int x2), (3, .int x3), (4, .int x4), (5, .int x5), (6, .int x6), (7, .int x7), (8, .int x8), (9, .int x9)] [] σ K
def wX10_all_157 (Γ : GE) (l : Launch) (x2 : Int32) (x3 : Int32) (x5 : Int32) (x6 : Int32) (x7 : Int32) (x8 : Int32) (σ : SS) (K : Option Value → SS → Prop) : Prop := G2 Γ l mX10_all 157 [(0, .ref 284), (2, .int x2), (3, .int x3), (5, .int x5), (6, .int x6), (7, .int x7), (8, .int x8)] [] σ K
def wX10_all_167 (Γ : GE) (l : Launch) (x2 : Int32) (x3 : Int32) (x4 : Int32) (x5 : Int32) (x6 : Int32) (x7 : Int32) (x8 : Int32) (σ : SS) (K : Option Value → SS → Prop) : Prop := G2 Γ l mX10_all 167 [(0, .ref 284), (2, .int x2), (3, .int x3), (4, .int x4), (5, .int x5), (6, .int x6), (7, .int x7), (8, .int x8)] [] σ K
set_option maxHeartbeats 4000000 in
set_option maxRecDepth 20000 in
theorem tX10_all {Γ : GE} {l : Launch} {x1 : Int32} {x2 : Int32} {x3 : Int32} {σ : SS} {K : Option Value → SS → Prop}  (hyp : C2 Γ l mX10_isLong [.int x1] σ (Ri fun r2_ s1_ => ((r2_ = 0 → (wX10_all_31 Γ l  s1_ K)) ∧ (¬ (r2_ = 0) → (C2 Γ l mX10_in [.int x2, .int 0, .int 3] s1_ (Ri fun r4_ s3_ => ((r4_ = 0 → (wX10_all_31 Γ l  s3_ K)) ∧ (¬ (r4_ = 0) → ((¬ x2 = 3 → (wX10_all_33 Γ l x1 x2 x3 s3_ K)) ∧ (x2 = 3 → (C2 Γ l mX10_in [.int x3, .int 0, .int 99] s3_ (Ri fun r6_ s5_ => ((¬ r6_ = 0 → (wX10_all_33 Γ l x1 x2 x3 s5_ K)) ∧ (r6_ = 0 → (wX10_all_31 Γ l  s5_ K))))))))))))))) : C2 Γ l mX10_all [.ref 284, .int x1, .int x2, .int x3] σ K := by
  refine c2_of (lv := [(0, .ref 284), (1, .int x1), (2, .int x2), (3, .int x3)]) (by decide) (Nat.le_of_ble_eq_true rfl) rfl ?_
  refine r_iload_n (dcx dX10_all_c0 0 rfl) 1 rfl ?_
  refine s_callS (as := [.int x1]) (st := []) zX10_isLong kX10_all_466 (dcx dX10_all_c0 1 rfl) rfl rfl (Nat.le_of_ble_eq_true rfl) (C2.mono hyp ?_)
  rintro _ s1_ ⟨r2_, rfl, hyp⟩
  show G2 Γ l mX10_all 4 [(0, .ref 284), (1, .int x1), (2, .int x2), (3, .int x3)] [.int r2_] s1_ K
  refine r_if_eq (tgt := 31) (dcx dX10_all_c0 2 rfl) (by decide) (fun q_ => ?_) (fun q_ => ?_)
  · have hyp := hyp.1 q_
    refine r_loc (lv1 := []) [] rfl ?_
    exact hyp
  · have hyp := hyp.2 q_
    refine r_iload_n (dcx dX10_all_c0 3 rfl) 2 rfl ?_
    refine r_iconst (v := 0) (dcx dX10_all_c0 4 rfl) rfl ?_
    refine r_iconst (v := 3) (dcx dX10_all_c0 5 rfl) rfl ?_
    refine s_callS (as := [.int x2, .int 0, .int 3]) (st := []) zX10_in kX10_all_339 (dcx dX10_all_c0 6 rfl) rfl rfl (Nat.le_of_ble_eq_true rfl) (C2.mono hyp ?_)
    rintro _ s3_ ⟨r4_, rfl, hyp⟩
    show G2 Γ l mX10_all 13 [(0, .ref 284), (1, .int x1), (2, .int x2), (3, .int x3)] [.int r4_] s3_ K
    refine r_if_eq (tgt := 31) (dcx dX10_all_c0 7 rfl) (by decide) (fun q_ => ?_) (fun q_ => ?_)
    · have hyp := hyp.1 q_
      refine r_loc (lv1 := []) [] rfl ?_
      exact hyp
    · have hyp := hyp.2 q_
      refine r_iload_n (dcx dX10_all_c0 8 rfl) 2 rfl ?_
      refine r_iconst (v := 3) (dcx dX10_all_c0 9 rfl) rfl ?_
      refine r_icmp_ne (tgt := 33) (dcx dX10_all_c0 10 rfl) (by decide) (fun q_ => ?_) (fun q_ => ?_)
      · have hyp := hyp.1 q_
        refine r_loc (lv1 := [(0, .ref 284), (1, .int x1), (2, .int x2), (3, .int x3)]) [0, 1, 2, 3] rfl ?_
        exact hyp
      · have hyp := hyp.2 q_
        refine r_iload_n (dcx dX10_all_c0 11 rfl) 3 rfl ?_
        refine r_iconst (v := 0) (dcx dX10_all_c0 12 rfl) rfl ?_
        refine r_bipush (v := 99) (dcx dX10_all_c0 13 rfl) rfl ?_
        refine s_callS (as := [.int x3, .int 0, .int 99]) (st := []) zX10_in kX10_all_339 (dcx dX10_all_c0 14 rfl) rfl rfl (Nat.le_of_ble_eq_true rfl) (C2.mono hyp ?_)
        rintro _ s5_ ⟨r6_, rfl, hyp⟩
        show G2 Γ l mX10_all 28 [(0, .ref 284), (1, .int x1), (2, .int x2), (3, .int x3)] [.int r6_] s5_ K
        refine r_if_ne (tgt := 33) (dcx dX10_all_c0 15 rfl) (by decide) (fun q_ => ?_) (fun q_ => ?_)
        · have hyp := hyp.1 q_
          refine r_loc (lv1 := [(0, .ref 284), (1, .int x1), (2, .int x2), (3, .int x3)]) [0, 1, 2, 3] rfl ?_
          exact hyp
        · have hyp := hyp.2 q_
          refine r_loc (lv1 := []) [] rfl ?_
          exact hyp
set_option maxHeartbeats 4000000 in
set_option maxRecDepth 20000 in
theorem tX10_all_31 {Γ : GE} {l : Launch}  {σ : SS} {K : Option Value → SS → Prop}  (hyp : K (some (.int ((-1)))) σ) : wX10_all_31 Γ l  σ K := by
  show G2 Γ l mX10_all 31 [] [] σ K
  refine r_iconst (v := (-1)) (dcx dX10_all_c0 16 rfl) rfl ?_
  exact s_ret rfl rfl rfl hyp (dcx dX10_all_c0 17 rfl)
set_option maxHeartbeats 4000000 in
set_option maxRecDepth 20000 in
theorem tX10_all_33 {Γ : GE} {l : Launch} {x1 : Int32} {x2 : Int32} {x3 : Int32} {σ : SS} {K : Option Value → SS → Prop}  (hyp : C2 Γ l mX10_copies [.ref 284] σ (Rv fun s1_ => (C2 Γ l mX10_grows [.ref 284, .int x1] s1_ (Rv fun s3_ => (wX10_all_55 Γ l x2 x3 ((-2)) 0 0 0 s3_ K))))) : wX10_all_33 Γ l x1 x2 x3 σ K := by
  show G2 Γ l mX10_all 33 [(0, .ref 284), (1, .int x1), (2, .int x2), (3, .int x3)] [] σ K
  refine r_aload_n (dcx dX10_all_c0 18 rfl) 0 rfl ?_
  refine s_callV (as := []) (st := []) zX10_copies kX10_all_415 (dcx dX10_all_c0 19 rfl) rfl rfl (Nat.le_of_ble_eq_true rfl) O284 rfl rfl (C2.mono hyp ?_)
  rintro _ s1_ ⟨rfl, hyp⟩
  show G2 Γ l mX10_all 37 [(0, .ref 284), (1, .int x1), (2, .int x2), (3, .int x3)] [] s1_ K
  refine r_aload_n (dcx dX10_all_c0 20 rfl) 0 rfl ?_
  refine r_iload_n (dcx dX10_all_c0 21 rfl) 1 rfl ?_
  refine s_callV (as := [.int x1]) (st := []) zX10_grows kX10_all_455 (dcx dX10_all_c0 22 rfl) rfl rfl (Nat.le_of_ble_eq_true rfl) O284 rfl rfl (C2.mono hyp ?_)
  rintro _ s3_ ⟨rfl, hyp⟩
  show G2 Γ l mX10_all 42 [(0, .ref 284), (1, .int x1), (2, .int x2), (3, .int x3)] [] s3_ K
  refine r_bipush (v := (-2)) (dcx dX10_all_c0 23 rfl) rfl ?_
  refine r_istore (lv1 := [(4, .int ((-2))), (0, .ref 284), (1, .int x1), (2, .int x2), (3, .int x3)]) (dcx dX10_all_c0 24 rfl) (Nat.le_of_ble_eq_true rfl) rfl ?_
  refine r_iconst (v := 0) (dcx dX10_all_c0 25 rfl) rfl ?_
  refine r_istore (lv1 := [(5, .int 0), (4, .int ((-2))), (0, .ref 284), (1, .int x1), (2, .int x2), (3, .int x3)]) (dcx dX10_all_c0 26 rfl) (Nat.le_of_ble_eq_true rfl) rfl ?_
  refine r_iconst (v := 0) (dcx dX10_all_c0 27 rfl) rfl ?_
  refine r_istore (lv1 := [(6, .int 0), (5, .int 0), (4, .int ((-2))), (0, .ref 284), (1, .int x1), (2, .int x2), (3, .int x3)]) (dcx dX10_all_c0 28 rfl) (Nat.le_of_ble_eq_true rfl) rfl ?_
  refine r_iconst (v := 0) (dcx dX10_all_c0 29 rfl) rfl ?_
  refine r_istore (lv1 := [(7, .int 0), (6, .int 0), (5, .int 0), (4, .int ((-2))), (0, .ref 284), (1, .int x1), (2, .int x2), (3, .int x3)]) (dcx dX10_all_c0 30 rfl) (Nat.le_of_ble_eq_true rfl) rfl ?_
  refine r_loc (lv1 := [(0, .ref 284), (2, .int x2), (3, .int x3), (4, .int ((-2))), (5, .int 0), (6, .int 0), (7, .int 0)]) [4, 6, 7, 3, 2, 1, 0] rfl ?_
  exact hyp
set_option maxHeartbeats 4000000 in
set_option maxRecDepth 20000 in
theorem tX10_all_55 {Γ : GE} {l : Launch} {x2 : Int32} {x3 : Int32} {x4 : Int32} {x5 : Int32} {x6 : Int32} {x7 : Int32} {σ : SS} {K : Option Value → SS → Prop}  (hyp : vp_in (σ.1 284 18) 2 ∧ (((σ.1 295 (Int32.toNatClampNeg (σ.1 284 18))) ≤ x7 → ((x2 = 0 → (((0 : Int32) ≤ x4 → (vp_in ((8 * (x4 / 10)) + (x4 - x4 / 10 * 10)) 106 ∧ (K (some (.int (σ.1 322 (Int32.toNatClampNeg ((8 * (x4 / 10)) + (x4 - x4 / 10 * 10)))))) σ))) ∧ (¬ ((0 : Int32) ≤ x4) → (K (some (.int ((-2)))) σ)))) ∧ (x2 = 1 → (K (some (.int x4)) σ)) ∧ (x2 = 2 → (K (some (.int x5)) σ)) ∧ (¬ x2 = 0 → ¬ x2 = 1 → ¬ x2 = 2 → (K (some (.int x6)) σ)))) ∧ (¬ ((σ.1 295 (Int32.toNatClampNeg (σ.1 284 18))) ≤ x7) → (wX10_all_72 Γ l x2 x3 x4 x5 x6 x7 0 σ K)))) : wX10_all_55 Γ l x2 x3 x4 x5 x6 x7 σ K := by
  show G2 Γ l mX10_all 55 [(0, .ref 284), (2, .int x2), (3, .int x3), (4, .int x4), (5, .int x5), (6, .int x6), (7, .int x7)] [] σ K
  refine r_iload (dcx dX10_all_c0 31 rfl) 6 rfl ?_
  refine r_aload_n (dcx dX10_all_c0 32 rfl) 0 rfl ?_
  refine s_getr (b := 295) fX10_49 (dcx dX10_all_c0 33 rfl) F284_24 ?_
  refine r_aload_n (dcx dX10_all_c0 34 rfl) 0 rfl ?_
  refine s_geti fX10_245 (dcx dX10_all_c0 35 rfl) F284_18 ?_
  obtain ⟨hb_, hyp⟩ := hyp
  refine s_iald (dcx dX10_all_c0 36 rfl) A295 hb_ ?_
  refine r_icmp_ge (tgt := 179) (dcx dX10_all_c0 37 rfl) (by decide) (fun q_ => ?_) (fun q_ => ?_)
  · have hyp := hyp.1 q_
    refine r_iload_n (dcx dX10_all_c2 15 rfl) 1 rfl ?_
    by_cases q0_ : x2 = 0
    · have hyp := hyp.1 q0_
      refine r_tableIn (off := 28) (tgt := 208) (dcx dX10_all_c2 16 rfl) (by rw [q0_]; decide) (by rw [q0_]; decide) (by rw [q0_]; decide) (by decide) ?_
      refine r_iload (dcx dX10_all_c2 17 rfl) 3 rfl ?_
      refine r_if_ge (tgt := 218) (dcx dX10_all_c2 18 rfl) (by decide) (fun q_ => ?_) (fun q_ => ?_)
      · have hyp := hyp.1 q_
        refine r_aload_n (dcx dX10_all_c2 21 rfl) 0 rfl ?_
        refine s_getr (b := 322) fX10_131 (dcx dX10_all_c2 22 rfl) F284_55 ?_
        refine r_bipush (v := 8) (dcx dX10_all_c2 23 rfl) rfl ?_
        refine r_iload (dcx dX10_all_c2 24 rfl) 3 rfl ?_
        refine r_bipush (v := 10) (dcx dX10_all_c2 25 rfl) rfl ?_
        refine r_idiv (dcx dX10_all_c2 26 rfl) (by decide) ?_
        refine r_imul (dcx dX10_all_c2 27 rfl) ?_
        refine r_iload (dcx dX10_all_c2 28 rfl) 3 rfl ?_
        refine r_bipush (v := 10) (dcx dX10_all_c2 29 rfl) rfl ?_
        refine r_irem (dcx dX10_all_c2 30 rfl) (by decide) ?_
        refine r_iadd (dcx dX10_all_c2 31 rfl) ?_
        obtain ⟨hb_, hyp⟩ := hyp
        refine s_iald (dcx dX10_all_c2 32 rfl) A322 hb_ ?_
        exact s_ret rfl rfl rfl hyp (dcx dX10_all_c2 33 rfl)
      · have hyp := hyp.2 q_
        refine r_bipush (v := (-2)) (dcx dX10_all_c2 19 rfl) rfl ?_
        refine r_goto (tgt := 237) (dcx dX10_all_c2 20 rfl) (by decide) ?_
        exact s_ret rfl rfl rfl hyp (dcx dX10_all_c2 33 rfl)
    have hyp := hyp.2
    by_cases q1_ : x2 = 1
    · have hyp := hyp.1 q1_
      refine r_tableIn (off := 58) (tgt := 238) (dcx dX10_all_c2 16 rfl) (by rw [q1_]; decide) (by rw [q1_]; decide) (by rw [q1_]; decide) (by decide) ?_
      refine r_iload (dcx dX10_all_c2 34 rfl) 3 rfl ?_
      exact s_ret rfl rfl rfl hyp (dcx dX10_all_c2 35 rfl)
    have hyp := hyp.2
    by_cases q2_ : x2 = 2
    · have hyp := hyp.1 q2_
      refine r_tableIn (off := 61) (tgt := 241) (dcx dX10_all_c2 16 rfl) (by rw [q2_]; decide) (by rw [q2_]; decide) (by rw [q2_]; decide) (by decide) ?_
      refine r_iload (dcx dX10_all_c2 36 rfl) 4 rfl ?_
      exact s_ret rfl rfl rfl hyp (dcx dX10_all_c2 37 rfl)
    have hyp := hyp.2
    have hyp := hyp q0_ q1_ q2_
    refine r_tableOut (tgt := 244) (dcx dX10_all_c2 16 rfl) (by have t0_ := lv_neT (a := 0) q0_ (by decide); have t1_ := lv_neT (a := 1) q1_ (by decide); have t2_ := lv_neT (a := 2) q2_ (by decide); omega) (by decide) ?_
    refine r_iload (dcx dX10_all_c2 38 rfl) 5 rfl ?_
    exact s_ret rfl rfl rfl hyp (dcx dX10_all_c2 39 rfl)
  · have hyp := hyp.2 q_
    refine r_iconst (v := 0) (dcx dX10_all_c0 38 rfl) rfl ?_
    refine r_istore (lv1 := [(8, .int 0), (0, .ref 284), (2, .int x2), (3, .int x3), (4, .int x4), (5, .int x5), (6, .int x6), (7, .int x7)]) (dcx dX10_all_c0 39 rfl) (Nat.le_of_ble_eq_true rfl) rfl ?_
    refine r_loc (lv1 := [(0, .ref 284), (2, .int x2), (3, .int x3), (4, .int x4), (5, .int x5), (6, .int x6), (7, .int x7), (8, .int 0)]) [1, 2, 3, 4, 5, 6, 7, 0] rfl ?_
    exact hyp
set_option maxHeartbeats 4000000 in
set_option maxRecDepth 20000 in
theorem tX10_all_72 {Γ : GE} {l : Launch} {x2 : Int32} {x3 : Int32} {x4 : Int32} {x5 : Int32} {x6 : Int32} {x7 : Int32} {x8 : Int32} {σ : SS} {K : Option Value → SS → Prop}  (hyp : vp_in (σ.1 284 18) 2 ∧ (((σ.1 294 (Int32.toNatClampNeg (σ.1 284 18))) ≤ x8 → (wX10_all_55 Γ l x2 x3 x4 x5 x6 (x7 + 1) σ K)) ∧ (¬ ((σ.1 294 (Int32.toNatClampNeg (σ.1 284 18))) ≤ x8) → (vp_in ((8 * x7) + x8) 106 ∧ (∀ v1_ : Int32, v1_ = x5 + (σ.1 322 (Int32.toNatClampNeg ((8 * x7) + x8))) → (C2 Γ l mX10_isGrass [.ref 284, .int x8, .int x7] σ (Ri fun r3_ s2_ => ((r3_ = 0 → (wX10_all_128 Γ l x2 x3 x4 v1_ x6 x7 x8 (σ.1 322 (Int32.toNatClampNeg ((8 * x7) + x8))) s2_ K)) ∧ (¬ (r3_ = 0) → (((σ.1 322 (Int32.toNatClampNeg ((8 * x7) + x8))) < x3 → (wX10_all_128 Γ l x2 x3 x4 v1_ x6 x7 x8 (σ.1 322 (Int32.toNatClampNeg ((8 * x7) + x8))) s2_ K)) ∧ (¬ ((σ.1 322 (Int32.toNatClampNeg ((8 * x7) + x8))) < x3) → (wX10_all_128 Γ l x2 x3 x4 v1_ (x6 + 1) x7 x8 (σ.1 322 (Int32.toNatClampNeg ((8 * x7) + x8))) s2_ K)))))))))))) : wX10_all_72 Γ l x2 x3 x4 x5 x6 x7 x8 σ K := by
  show G2 Γ l mX10_all 72 [(0, .ref 284), (2, .int x2), (3, .int x3), (4, .int x4), (5, .int x5), (6, .int x6), (7, .int x7), (8, .int x8)] [] σ K
  refine r_iload (dcx dX10_all_c1 0 rfl) 7 rfl ?_
  refine r_aload_n (dcx dX10_all_c1 1 rfl) 0 rfl ?_
  refine s_getr (b := 294) fX10_46 (dcx dX10_all_c1 2 rfl) F284_23 ?_
  refine r_aload_n (dcx dX10_all_c1 3 rfl) 0 rfl ?_
  refine s_geti fX10_245 (dcx dX10_all_c1 4 rfl) F284_18 ?_
  obtain ⟨hb_, hyp⟩ := hyp
  refine s_iald (dcx dX10_all_c1 5 rfl) A294 hb_ ?_
  refine r_icmp_ge (tgt := 173) (dcx dX10_all_c1 6 rfl) (by decide) (fun q_ => ?_) (fun q_ => ?_)
  · have hyp := hyp.1 q_
    refine r_iinc (lv1 := [(7, .int (x7 + 1)), (0, .ref 284), (2, .int x2), (3, .int x3), (4, .int x4), (5, .int x5), (6, .int x6), (8, .int x8)]) (dcx dX10_all_c2 13 rfl) 6 rfl (Nat.le_of_ble_eq_true rfl) rfl ?_
    refine r_goto (tgt := 55) (dcx dX10_all_c2 14 rfl) (by decide) ?_
    refine r_loc (lv1 := [(0, .ref 284), (2, .int x2), (3, .int x3), (4, .int x4), (5, .int x5), (6, .int x6), (7, .int (x7 + 1))]) [1, 2, 3, 4, 5, 6, 0] rfl ?_
    exact hyp
  · have hyp := hyp.2 q_
    refine r_aload_n (dcx dX10_all_c1 7 rfl) 0 rfl ?_
    refine s_getr (b := 322) fX10_131 (dcx dX10_all_c1 8 rfl) F284_55 ?_
    refine r_bipush (v := 8) (dcx dX10_all_c1 9 rfl) rfl ?_
    refine r_iload (dcx dX10_all_c1 10 rfl) 6 rfl ?_
    refine r_imul (dcx dX10_all_c1 11 rfl) ?_
    refine r_iload (dcx dX10_all_c1 12 rfl) 7 rfl ?_
    refine r_iadd (dcx dX10_all_c1 13 rfl) ?_
    obtain ⟨hb_, hyp⟩ := hyp
    refine s_iald (dcx dX10_all_c1 14 rfl) A322 hb_ ?_
    refine r_istore (lv1 := [(9, .int (σ.1 322 (Int32.toNatClampNeg ((8 * x7) + x8)))), (0, .ref 284), (2, .int x2), (3, .int x3), (4, .int x4), (5, .int x5), (6, .int x6), (7, .int x7), (8, .int x8)]) (dcx dX10_all_c1 15 rfl) (Nat.le_of_ble_eq_true rfl) rfl ?_
    refine r_iload (dcx dX10_all_c1 16 rfl) 5 rfl ?_
    refine r_iload (dcx dX10_all_c1 17 rfl) 0 rfl ?_
    refine r_iadd (dcx dX10_all_c1 18 rfl) ?_
    obtain ⟨v1_, ev1_⟩ : ∃ z : Int32, z = x5 + (σ.1 322 (Int32.toNatClampNeg ((8 * x7) + x8))) := ⟨_, rfl⟩
    rw [← ev1_]
    have hyp := hyp v1_ ev1_
    refine r_istore (lv1 := [(5, .int v1_), (9, .int (σ.1 322 (Int32.toNatClampNeg ((8 * x7) + x8)))), (0, .ref 284), (2, .int x2), (3, .int x3), (4, .int x4), (6, .int x6), (7, .int x7), (8, .int x8)]) (dcx dX10_all_c1 19 rfl) (Nat.le_of_ble_eq_true rfl) rfl ?_
    refine r_aload_n (dcx dX10_all_c1 20 rfl) 2 rfl ?_
    refine r_iload (dcx dX10_all_c1 21 rfl) 8 rfl ?_
    refine r_iload (dcx dX10_all_c1 22 rfl) 7 rfl ?_
    refine s_callV (as := [.int x8, .int x7]) (st := []) zX10_isGrass kX10_all_347 (dcx dX10_all_c1 23 rfl) rfl rfl (Nat.le_of_ble_eq_true rfl) O284 rfl rfl (C2.mono hyp ?_)
    rintro _ s2_ ⟨r3_, rfl, hyp⟩
    show G2 Γ l mX10_all 116 [(5, .int v1_), (9, .int (σ.1 322 (Int32.toNatClampNeg ((8 * x7) + x8)))), (0, .ref 284), (2, .int x2), (3, .int x3), (4, .int x4), (6, .int x6), (7, .int x7), (8, .int x8)] [.int r3_] s2_ K
    refine r_if_eq (tgt := 128) (dcx dX10_all_c1 24 rfl) (by decide) (fun q_ => ?_) (fun q_ => ?_)
    · have hyp := hyp.1 q_
      refine r_loc (lv1 := [(0, .ref 284), (2, .int x2), (3, .int x3), (4, .int x4), (5, .int v1_), (6, .int x6), (7, .int x7), (8, .int x8), (9, .int (σ.1 322 (Int32.toNatClampNeg ((8 * x7) + x8))))]) [2, 3, 4, 5, 0, 6, 7, 8, 1] rfl ?_
      exact hyp
    · have hyp := hyp.2 q_
      refine r_iload (dcx dX10_all_c1 25 rfl) 1 rfl ?_
      refine r_iload_n (dcx dX10_all_c1 26 rfl) 4 rfl ?_
      refine r_icmp_lt (tgt := 128) (dcx dX10_all_c1 27 rfl) (by decide) (fun q_ => ?_) (fun q_ => ?_)
      · have hyp := hyp.1 q_
        refine r_loc (lv1 := [(0, .ref 284), (2, .int x2), (3, .int x3), (4, .int x4), (5, .int v1_), (6, .int x6), (7, .int x7), (8, .int x8), (9, .int (σ.1 322 (Int32.toNatClampNeg ((8 * x7) + x8))))]) [2, 3, 4, 5, 0, 6, 7, 8, 1] rfl ?_
        exact hyp
      · have hyp := hyp.2 q_
        refine r_iinc (lv1 := [(6, .int (x6 + 1)), (5, .int v1_), (9, .int (σ.1 322 (Int32.toNatClampNeg ((8 * x7) + x8)))), (0, .ref 284), (2, .int x2), (3, .int x3), (4, .int x4), (7, .int x7), (8, .int x8)]) (dcx dX10_all_c1 28 rfl) 6 rfl (Nat.le_of_ble_eq_true rfl) rfl ?_
        refine r_loc (lv1 := [(0, .ref 284), (2, .int x2), (3, .int x3), (4, .int x4), (5, .int v1_), (6, .int (x6 + 1)), (7, .int x7), (8, .int x8), (9, .int (σ.1 322 (Int32.toNatClampNeg ((8 * x7) + x8))))]) [3, 4, 5, 6, 1, 0, 7, 8, 2] rfl ?_
        exact hyp
set_option maxHeartbeats 4000000 in
set_option maxRecDepth 20000 in
theorem tX10_all_128 {Γ : GE} {l : Launch} {x2 : Int32} {x3 : Int32} {x4 : Int32} {x5 : Int32} {x6 : Int32} {x7 : Int32} {x8 : Int32} {x9 : Int32} {σ : SS} {K : Option Value → SS → Prop}  (hyp : (x4 < 0 → (wX10_all_157 Γ l x2 x3 x5 x6 x7 x8 σ K)) ∧ (¬ (x4 < 0) → (vp_in ((8 * (x4 / 10)) + (x4 - x4 / 10 * 10)) 106 ∧ ((x9 ≤ (σ.1 322 (Int32.toNatClampNeg ((8 * (x4 / 10)) + (x4 - x4 / 10 * 10)))) → (wX10_all_167 Γ l x2 x3 x4 x5 x6 x7 x8 σ K)) ∧ (¬ (x9 ≤ (σ.1 322 (Int32.toNatClampNeg ((8 * (x4 / 10)) + (x4 - x4 / 10 * 10))))) → (wX10_all_157 Γ l x2 x3 x5 x6 x7 x8 σ K)))))) : wX10_all_128 Γ l x2 x3 x4 x5 x6 x7 x8 x9 σ K := by
  show G2 Γ l mX10_all 128 [(0, .ref 284), (2, .int x2), (3, .int x3), (4, .int x4), (5, .int x5), (6, .int x6), (7, .int x7), (8, .int x8), (9, .int x9)] [] σ K
  refine r_iload (dcx dX10_all_c1 29 rfl) 3 rfl ?_
  refine r_if_lt (tgt := 157) (dcx dX10_all_c1 30 rfl) (by decide) (fun q_ => ?_) (fun q_ => ?_)
  · have hyp := hyp.1 q_
    refine r_loc (lv1 := [(0, .ref 284), (2, .int x2), (3, .int x3), (5, .int x5), (6, .int x6), (7, .int x7), (8, .int x8)]) [0, 1, 2, 4, 5, 6, 7] rfl ?_
    exact hyp
  · have hyp := hyp.2 q_
    refine r_iload (dcx dX10_all_c1 31 rfl) 8 rfl ?_
    refine r_aload_n (dcx dX10_all_c1 32 rfl) 0 rfl ?_
    refine s_getr (b := 322) fX10_131 (dcx dX10_all_c1 33 rfl) F284_55 ?_
    refine r_bipush (v := 8) (dcx dX10_all_c1 34 rfl) rfl ?_
    refine r_iload (dcx dX10_all_c1 35 rfl) 3 rfl ?_
    refine r_bipush (v := 10) (dcx dX10_all_c1 36 rfl) rfl ?_
    refine r_idiv (dcx dX10_all_c1 37 rfl) (by decide) ?_
    refine r_imul (dcx dX10_all_c1 38 rfl) ?_
    refine r_iload (dcx dX10_all_c1 39 rfl) 3 rfl ?_
    refine r_bipush (v := 10) (dcx dX10_all_c2 0 rfl) rfl ?_
    refine r_irem (dcx dX10_all_c2 1 rfl) (by decide) ?_
    refine r_iadd (dcx dX10_all_c2 2 rfl) ?_
    obtain ⟨hb_, hyp⟩ := hyp
    refine s_iald (dcx dX10_all_c2 3 rfl) A322 hb_ ?_
    refine r_icmp_le (tgt := 167) (dcx dX10_all_c2 4 rfl) (by decide) (fun q_ => ?_) (fun q_ => ?_)
    · have hyp := hyp.1 q_
      refine r_loc (lv1 := [(0, .ref 284), (2, .int x2), (3, .int x3), (4, .int x4), (5, .int x5), (6, .int x6), (7, .int x7), (8, .int x8)]) [0, 1, 2, 3, 4, 5, 6, 7] rfl ?_
      exact hyp
    · have hyp := hyp.2 q_
      refine r_loc (lv1 := [(0, .ref 284), (2, .int x2), (3, .int x3), (5, .int x5), (6, .int x6), (7, .int x7), (8, .int x8)]) [0, 1, 2, 4, 5, 6, 7] rfl ?_
      exact hyp
set_option maxHeartbeats 4000000 in
set_option maxRecDepth 20000 in
theorem tX10_all_157 {Γ : GE} {l : Launch} {x2 : Int32} {x3 : Int32} {x5 : Int32} {x6 : Int32} {x7 : Int32} {x8 : Int32} {σ : SS} {K : Option Value → SS → Prop}  (hyp : wX10_all_167 Γ l x2 x3 ((10 * x7) + x8) x5 x6 x7 x8 σ K) : wX10_all_157 Γ l x2 x3 x5 x6 x7 x8 σ K := by
  show G2 Γ l mX10_all 157 [(0, .ref 284), (2, .int x2), (3, .int x3), (5, .int x5), (6, .int x6), (7, .int x7), (8, .int x8)] [] σ K
  refine r_bipush (v := 10) (dcx dX10_all_c2 5 rfl) rfl ?_
  refine r_iload (dcx dX10_all_c2 6 rfl) 5 rfl ?_
  refine r_imul (dcx dX10_all_c2 7 rfl) ?_
  refine r_iload (dcx dX10_all_c2 8 rfl) 6 rfl ?_
  refine r_iadd (dcx dX10_all_c2 9 rfl) ?_
  refine r_istore (lv1 := [(4, .int ((10 * x7) + x8)), (0, .ref 284), (2, .int x2), (3, .int x3), (5, .int x5), (6, .int x6), (7, .int x7), (8, .int x8)]) (dcx dX10_all_c2 10 rfl) (Nat.le_of_ble_eq_true rfl) rfl ?_
  refine r_loc (lv1 := [(0, .ref 284), (2, .int x2), (3, .int x3), (4, .int ((10 * x7) + x8)), (5, .int x5), (6, .int x6), (7, .int x7), (8, .int x8)]) [1, 2, 3, 0, 4, 5, 6, 7] rfl ?_
  exact hyp
set_option maxHeartbeats 4000000 in
set_option maxRecDepth 20000 in
theorem tX10_all_167 {Γ : GE} {l : Launch} {x2 : Int32} {x3 : Int32} {x4 : Int32} {x5 : Int32} {x6 : Int32} {x7 : Int32} {x8 : Int32} {σ : SS} {K : Option Value → SS → Prop}  (hyp : wX10_all_72 Γ l x2 x3 x4 x5 x6 x7 (x8 + 1) σ K) : wX10_all_167 Γ l x2 x3 x4 x5 x6 x7 x8 σ K := by
  show G2 Γ l mX10_all 167 [(0, .ref 284), (2, .int x2), (3, .int x3), (4, .int x4), (5, .int x5), (6, .int x6), (7, .int x7), (8, .int x8)] [] σ K
  refine r_iinc (lv1 := [(8, .int (x8 + 1)), (0, .ref 284), (2, .int x2), (3, .int x3), (4, .int x4), (5, .int x5), (6, .int x6), (7, .int x7)]) (dcx dX10_all_c2 11 rfl) 7 rfl (Nat.le_of_ble_eq_true rfl) rfl ?_
  refine r_goto (tgt := 72) (dcx dX10_all_c2 12 rfl) (by decide) ?_
  refine r_loc (lv1 := [(0, .ref 284), (2, .int x2), (3, .int x3), (4, .int x4), (5, .int x5), (6, .int x6), (7, .int x7), (8, .int (x8 + 1))]) [1, 2, 3, 4, 5, 6, 7, 0] rfl ?_
  exact hyp
def wX10_year_42 (Γ : GE) (l : Launch) (x1 : Int32) (x2 : Int32) (x3 : Int32) (x4 : Int32) (x5 : Int32) (x6 : Int32) (σ : SS) (K : Option Value → SS → Prop) : Prop := G2 Γ l mX10_year 42 [(0, .ref 284), (1, .int x1), (2, .int x2), (3, .int x3), (4, .int x4), (5, .int x5), (6, .int x6)] [] σ K
set_option maxHeartbeats 4000000 in
set_option maxRecDepth 20000 in
theorem tX10_year {Γ : GE} {l : Launch} {x1 : Int32} {x2 : Int32} {x3 : Int32} {x4 : Int32} {σ : SS} {K : Option Value → SS → Prop}  (hyp : C2 Γ l mX10_isWindow [.ref 284, .int x1] σ (Ri fun r2_ s1_ => ((r2_ = 0 → (K (some (.int ((-1)))) s1_)) ∧ (¬ (r2_ = 0) → (C2 Γ l mX10_isSign [.ref 284, .int x2] s1_ (Ri fun r4_ s3_ => ((r4_ = 0 → (K (some (.int ((-1)))) s3_)) ∧ (¬ (r4_ = 0) → (C2 Γ l mX10_isLong [.int x3] s3_ (Ri fun r6_ s5_ => ((r6_ = 0 → (K (some (.int ((-1)))) s5_)) ∧ (¬ (r6_ = 0) → (C2 Γ l mX10_in [.int x4, .int 1, .int 20] s5_ (Ri fun r8_ s7_ => ((¬ r8_ = 0 → (wX10_year_42 Γ l x1 x2 x3 x4 0 0 s7_ K)) ∧ (r8_ = 0 → (K (some (.int ((-1)))) s7_))))))))))))))))) : C2 Γ l mX10_year [.ref 284, .int x1, .int x2, .int x3, .int x4] σ K := by
  refine c2_of (lv := [(0, .ref 284), (1, .int x1), (2, .int x2), (3, .int x3), (4, .int x4)]) (by decide) (Nat.le_of_ble_eq_true rfl) rfl ?_
  refine r_aload_n (dcx dX10_year_c0 0 rfl) 0 rfl ?_
  refine r_iload_n (dcx dX10_year_c0 1 rfl) 1 rfl ?_
  refine s_callV (as := [.int x1]) (st := []) zX10_isWindow kX10_year_421 (dcx dX10_year_c0 2 rfl) rfl rfl (Nat.le_of_ble_eq_true rfl) O284 rfl rfl (C2.mono hyp ?_)
  rintro _ s1_ ⟨r2_, rfl, hyp⟩
  show G2 Γ l mX10_year 5 [(0, .ref 284), (1, .int x1), (2, .int x2), (3, .int x3), (4, .int x4)] [.int r2_] s1_ K
  refine r_if_eq (tgt := 34) (dcx dX10_year_c0 3 rfl) (by decide) (fun q_ => ?_) (fun q_ => ?_)
  · have hyp := hyp.1 q_
    refine r_iconst (v := (-1)) (dcx dX10_year_c0 16 rfl) rfl ?_
    exact s_ret rfl rfl rfl hyp (dcx dX10_year_c0 17 rfl)
  · have hyp := hyp.2 q_
    refine r_aload_n (dcx dX10_year_c0 4 rfl) 0 rfl ?_
    refine r_iload_n (dcx dX10_year_c0 5 rfl) 2 rfl ?_
    refine s_callV (as := [.int x2]) (st := []) zX10_isSign kX10_year_418 (dcx dX10_year_c0 6 rfl) rfl rfl (Nat.le_of_ble_eq_true rfl) O284 rfl rfl (C2.mono hyp ?_)
    rintro _ s3_ ⟨r4_, rfl, hyp⟩
    show G2 Γ l mX10_year 13 [(0, .ref 284), (1, .int x1), (2, .int x2), (3, .int x3), (4, .int x4)] [.int r4_] s3_ K
    refine r_if_eq (tgt := 34) (dcx dX10_year_c0 7 rfl) (by decide) (fun q_ => ?_) (fun q_ => ?_)
    · have hyp := hyp.1 q_
      refine r_iconst (v := (-1)) (dcx dX10_year_c0 16 rfl) rfl ?_
      exact s_ret rfl rfl rfl hyp (dcx dX10_year_c0 17 rfl)
    · have hyp := hyp.2 q_
      refine r_iload_n (dcx dX10_year_c0 8 rfl) 3 rfl ?_
      refine s_callS (as := [.int x3]) (st := []) zX10_isLong kX10_year_466 (dcx dX10_year_c0 9 rfl) rfl rfl (Nat.le_of_ble_eq_true rfl) (C2.mono hyp ?_)
      rintro _ s5_ ⟨r6_, rfl, hyp⟩
      show G2 Γ l mX10_year 20 [(0, .ref 284), (1, .int x1), (2, .int x2), (3, .int x3), (4, .int x4)] [.int r6_] s5_ K
      refine r_if_eq (tgt := 34) (dcx dX10_year_c0 10 rfl) (by decide) (fun q_ => ?_) (fun q_ => ?_)
      · have hyp := hyp.1 q_
        refine r_iconst (v := (-1)) (dcx dX10_year_c0 16 rfl) rfl ?_
        exact s_ret rfl rfl rfl hyp (dcx dX10_year_c0 17 rfl)
      · have hyp := hyp.2 q_
        refine r_iload (dcx dX10_year_c0 11 rfl) 4 rfl ?_
        refine r_iconst (v := 1) (dcx dX10_year_c0 12 rfl) rfl ?_
        refine r_bipush (v := 20) (dcx dX10_year_c0 13 rfl) rfl ?_
        refine s_callS (as := [.int x4, .int 1, .int 20]) (st := []) zX10_in kX10_year_339 (dcx dX10_year_c0 14 rfl) rfl rfl (Nat.le_of_ble_eq_true rfl) (C2.mono hyp ?_)
        rintro _ s7_ ⟨r8_, rfl, hyp⟩
        show G2 Γ l mX10_year 31 [(0, .ref 284), (1, .int x1), (2, .int x2), (3, .int x3), (4, .int x4)] [.int r8_] s7_ K
        refine r_if_ne (tgt := 36) (dcx dX10_year_c0 15 rfl) (by decide) (fun q_ => ?_) (fun q_ => ?_)
        · have hyp := hyp.1 q_
          refine r_iconst (v := 0) (dcx dX10_year_c0 18 rfl) rfl ?_
          refine r_istore (lv1 := [(5, .int 0), (0, .ref 284), (1, .int x1), (2, .int x2), (3, .int x3), (4, .int x4)]) (dcx dX10_year_c0 19 rfl) (Nat.le_of_ble_eq_true rfl) rfl ?_
          refine r_iconst (v := 0) (dcx dX10_year_c0 20 rfl) rfl ?_
          refine r_istore (lv1 := [(6, .int 0), (5, .int 0), (0, .ref 284), (1, .int x1), (2, .int x2), (3, .int x3), (4, .int x4)]) (dcx dX10_year_c0 21 rfl) (Nat.le_of_ble_eq_true rfl) rfl ?_
          refine r_loc (lv1 := [(0, .ref 284), (1, .int x1), (2, .int x2), (3, .int x3), (4, .int x4), (5, .int 0), (6, .int 0)]) [2, 3, 4, 5, 6, 1, 0] rfl ?_
          exact hyp
        · have hyp := hyp.2 q_
          refine r_iconst (v := (-1)) (dcx dX10_year_c0 16 rfl) rfl ?_
          exact s_ret rfl rfl rfl hyp (dcx dX10_year_c0 17 rfl)
set_option maxHeartbeats 4000000 in
set_option maxRecDepth 20000 in
theorem tX10_year_42 {Γ : GE} {l : Launch} {x1 : Int32} {x2 : Int32} {x3 : Int32} {x4 : Int32} {x5 : Int32} {x6 : Int32} {σ : SS} {K : Option Value → SS → Prop}  (hyp : (x4 ≤ x6 → (K (some (.int x5)) σ)) ∧ (¬ (x4 ≤ x6) → (C2 Γ l mX10_copies [.ref 284] σ (Rv fun s1_ => (∀ s3_ : SS, s3_ = sI s1_ 284 56 ((s1_.1 284 56) + x6) → (C2 Γ l mX10_grows [.ref 284, .int x3] s3_ (Rv fun s4_ => (C2 Γ l mX10_readsAnywhere [.ref 284, .int x1, .int x2] s4_ (Ri fun r7_ s6_ => ((r7_ = 0 → (wX10_year_42 Γ l x1 x2 x3 x4 x5 (x6 + 1) s6_ K)) ∧ (¬ (r7_ = 0) → (wX10_year_42 Γ l x1 x2 x3 x4 (x5 + 1) (x6 + 1) s6_ K)))))))))))) : wX10_year_42 Γ l x1 x2 x3 x4 x5 x6 σ K := by
  show G2 Γ l mX10_year 42 [(0, .ref 284), (1, .int x1), (2, .int x2), (3, .int x3), (4, .int x4), (5, .int x5), (6, .int x6)] [] σ K
  refine r_iload (dcx dX10_year_c0 22 rfl) 6 rfl ?_
  refine r_iload (dcx dX10_year_c0 23 rfl) 4 rfl ?_
  refine r_icmp_ge (tgt := 87) (dcx dX10_year_c0 24 rfl) (by decide) (fun q_ => ?_) (fun q_ => ?_)
  · have hyp := hyp.1 q_
    refine r_iload (dcx dX10_year_c1 4 rfl) 5 rfl ?_
    exact s_ret rfl rfl rfl hyp (dcx dX10_year_c1 5 rfl)
  · have hyp := hyp.2 q_
    refine r_aload_n (dcx dX10_year_c0 25 rfl) 0 rfl ?_
    refine s_callV (as := []) (st := []) zX10_copies kX10_year_415 (dcx dX10_year_c0 26 rfl) rfl rfl (Nat.le_of_ble_eq_true rfl) O284 rfl rfl (C2.mono hyp ?_)
    rintro _ s1_ ⟨rfl, hyp⟩
    show G2 Γ l mX10_year 53 [(0, .ref 284), (1, .int x1), (2, .int x2), (3, .int x3), (4, .int x4), (5, .int x5), (6, .int x6)] [] s1_ K
    refine r_aload_n (dcx dX10_year_c0 27 rfl) 0 rfl ?_
    refine r_dup (dcx dX10_year_c0 28 rfl) rfl ?_
    refine s_geti fX10_350 (dcx dX10_year_c0 29 rfl) F284_56 ?_
    refine r_iload (dcx dX10_year_c0 30 rfl) 6 rfl ?_
    refine r_iadd (dcx dX10_year_c0 31 rfl) ?_
    refine s_puti gX10_350 (dcx dX10_year_c0 32 rfl) F284_56 ?_
    obtain ⟨s3_, es3_⟩ : ∃ z : SS, z = sI s1_ 284 56 ((s1_.1 284 56) + x6) := ⟨_, rfl⟩
    rw [← es3_]
    have hyp := hyp s3_ es3_
    refine r_aload_n (dcx dX10_year_c0 33 rfl) 0 rfl ?_
    refine r_iload_n (dcx dX10_year_c0 34 rfl) 3 rfl ?_
    refine s_callV (as := [.int x3]) (st := []) zX10_grows kX10_year_455 (dcx dX10_year_c0 35 rfl) rfl rfl (Nat.le_of_ble_eq_true rfl) O284 rfl rfl (C2.mono hyp ?_)
    rintro _ s4_ ⟨rfl, hyp⟩
    show G2 Γ l mX10_year 69 [(0, .ref 284), (1, .int x1), (2, .int x2), (3, .int x3), (4, .int x4), (5, .int x5), (6, .int x6)] [] s4_ K
    refine r_aload_n (dcx dX10_year_c0 36 rfl) 0 rfl ?_
    refine r_iload_n (dcx dX10_year_c0 37 rfl) 1 rfl ?_
    refine r_iload_n (dcx dX10_year_c0 38 rfl) 2 rfl ?_
    refine s_callV (as := [.int x1, .int x2]) (st := []) zX10_readsAnywhere kX10_year_409 (dcx dX10_year_c0 39 rfl) rfl rfl (Nat.le_of_ble_eq_true rfl) O284 rfl rfl (C2.mono hyp ?_)
    rintro _ s6_ ⟨r7_, rfl, hyp⟩
    show G2 Γ l mX10_year 75 [(0, .ref 284), (1, .int x1), (2, .int x2), (3, .int x3), (4, .int x4), (5, .int x5), (6, .int x6)] [.int r7_] s6_ K
    refine r_if_eq (tgt := 81) (dcx dX10_year_c1 0 rfl) (by decide) (fun q_ => ?_) (fun q_ => ?_)
    · have hyp := hyp.1 q_
      refine r_iinc (lv1 := [(6, .int (x6 + 1)), (0, .ref 284), (1, .int x1), (2, .int x2), (3, .int x3), (4, .int x4), (5, .int x5)]) (dcx dX10_year_c1 2 rfl) 6 rfl (Nat.le_of_ble_eq_true rfl) rfl ?_
      refine r_goto (tgt := 42) (dcx dX10_year_c1 3 rfl) (by decide) ?_
      refine r_loc (lv1 := [(0, .ref 284), (1, .int x1), (2, .int x2), (3, .int x3), (4, .int x4), (5, .int x5), (6, .int (x6 + 1))]) [1, 2, 3, 4, 5, 6, 0] rfl ?_
      exact hyp
    · have hyp := hyp.2 q_
      refine r_iinc (lv1 := [(5, .int (x5 + 1)), (0, .ref 284), (1, .int x1), (2, .int x2), (3, .int x3), (4, .int x4), (6, .int x6)]) (dcx dX10_year_c1 1 rfl) 5 rfl (Nat.le_of_ble_eq_true rfl) rfl ?_
      refine r_iinc (lv1 := [(6, .int (x6 + 1)), (5, .int (x5 + 1)), (0, .ref 284), (1, .int x1), (2, .int x2), (3, .int x3), (4, .int x4)]) (dcx dX10_year_c1 2 rfl) 6 rfl (Nat.le_of_ble_eq_true rfl) rfl ?_
      refine r_goto (tgt := 42) (dcx dX10_year_c1 3 rfl) (by decide) ?_
      refine r_loc (lv1 := [(0, .ref 284), (1, .int x1), (2, .int x2), (3, .int x3), (4, .int x4), (5, .int (x5 + 1)), (6, .int (x6 + 1))]) [2, 3, 4, 5, 6, 1, 0] rfl ?_
      exact hyp
set_option maxHeartbeats 4000000 in
set_option maxRecDepth 20000 in
theorem tX10_tell {Γ : GE} {l : Launch} {x1 : Int32} {x2 : Int32} {x3 : Int32} {σ : SS} {K : Option Value → SS → Prop}  (hyp : ((σ.1 284 61) = 20 → (K (some (.int ((-1)))) σ)) ∧ (¬ ((σ.1 284 61) = 20) → (C2 Γ l mX10_isCell [.ref 284, .int x1, .int x2] σ (Ri fun r2_ s1_ => ((r2_ = 0 → (K (some (.int ((-1)))) s1_)) ∧ (¬ (r2_ = 0) → (C2 Γ l mX10_in [.int x3, .int 0, .int 99] s1_ (Ri fun r4_ s3_ => ((¬ r4_ = 0 → (vp_in (s3_.1 284 61) 20 ∧ (∀ s5_ : SS, s5_ = sI s3_ 326 (Int32.toNatClampNeg (s3_.1 284 61)) ((8 * x2) + x1) → (vp_in (s5_.1 284 61) 20 ∧ (∀ s6_ : SS, s6_ = sI s5_ 327 (Int32.toNatClampNeg (s5_.1 284 61)) x3 → (∀ s7_ : SS, s7_ = sI s6_ 284 61 ((s6_.1 284 61) + 1) → (K (some (.int ((s7_.1 284 61) - 1))) s7_))))))) ∧ (r4_ = 0 → (K (some (.int ((-1)))) s3_))))))))))) : C2 Γ l mX10_tell [.ref 284, .int x1, .int x2, .int x3] σ K := by
  refine c2_of (lv := [(0, .ref 284), (1, .int x1), (2, .int x2), (3, .int x3)]) (by decide) (Nat.le_of_ble_eq_true rfl) rfl ?_
  refine r_aload_n (dcx dX10_tell_c0 0 rfl) 0 rfl ?_
  refine s_geti fX10_266 (dcx dX10_tell_c0 1 rfl) F284_61 ?_
  refine r_bipush (v := 20) (dcx dX10_tell_c0 2 rfl) rfl ?_
  refine r_icmp_eq (tgt := 28) (dcx dX10_tell_c0 3 rfl) (by decide) (fun q_ => ?_) (fun q_ => ?_)
  · have hyp := hyp.1 q_
    refine r_iconst (v := (-1)) (dcx dX10_tell_c0 14 rfl) rfl ?_
    exact s_ret rfl rfl rfl hyp (dcx dX10_tell_c0 15 rfl)
  · have hyp := hyp.2 q_
    refine r_aload_n (dcx dX10_tell_c0 4 rfl) 0 rfl ?_
    refine r_iload_n (dcx dX10_tell_c0 5 rfl) 1 rfl ?_
    refine r_iload_n (dcx dX10_tell_c0 6 rfl) 2 rfl ?_
    refine s_callV (as := [.int x1, .int x2]) (st := []) zX10_isCell kX10_tell_343 (dcx dX10_tell_c0 7 rfl) rfl rfl (Nat.le_of_ble_eq_true rfl) O284 rfl rfl (C2.mono hyp ?_)
    rintro _ s1_ ⟨r2_, rfl, hyp⟩
    show G2 Γ l mX10_tell 15 [(0, .ref 284), (1, .int x1), (2, .int x2), (3, .int x3)] [.int r2_] s1_ K
    refine r_if_eq (tgt := 28) (dcx dX10_tell_c0 8 rfl) (by decide) (fun q_ => ?_) (fun q_ => ?_)
    · have hyp := hyp.1 q_
      refine r_iconst (v := (-1)) (dcx dX10_tell_c0 14 rfl) rfl ?_
      exact s_ret rfl rfl rfl hyp (dcx dX10_tell_c0 15 rfl)
    · have hyp := hyp.2 q_
      refine r_iload_n (dcx dX10_tell_c0 9 rfl) 3 rfl ?_
      refine r_iconst (v := 0) (dcx dX10_tell_c0 10 rfl) rfl ?_
      refine r_bipush (v := 99) (dcx dX10_tell_c0 11 rfl) rfl ?_
      refine s_callS (as := [.int x3, .int 0, .int 99]) (st := []) zX10_in kX10_tell_339 (dcx dX10_tell_c0 12 rfl) rfl rfl (Nat.le_of_ble_eq_true rfl) (C2.mono hyp ?_)
      rintro _ s3_ ⟨r4_, rfl, hyp⟩
      show G2 Γ l mX10_tell 25 [(0, .ref 284), (1, .int x1), (2, .int x2), (3, .int x3)] [.int r4_] s3_ K
      refine r_if_ne (tgt := 30) (dcx dX10_tell_c0 13 rfl) (by decide) (fun q_ => ?_) (fun q_ => ?_)
      · have hyp := hyp.1 q_
        refine r_aload_n (dcx dX10_tell_c0 16 rfl) 0 rfl ?_
        refine s_getr (b := 326) fX10_143 (dcx dX10_tell_c0 17 rfl) F284_62 ?_
        refine r_aload_n (dcx dX10_tell_c0 18 rfl) 0 rfl ?_
        refine s_geti fX10_266 (dcx dX10_tell_c0 19 rfl) F284_61 ?_
        refine r_bipush (v := 8) (dcx dX10_tell_c0 20 rfl) rfl ?_
        refine r_iload_n (dcx dX10_tell_c0 21 rfl) 2 rfl ?_
        refine r_imul (dcx dX10_tell_c0 22 rfl) ?_
        refine r_iload_n (dcx dX10_tell_c0 23 rfl) 1 rfl ?_
        refine r_iadd (dcx dX10_tell_c0 24 rfl) ?_
        obtain ⟨hb_, hyp⟩ := hyp
        refine s_iast (dcx dX10_tell_c0 25 rfl) A326 hb_ ?_
        obtain ⟨s5_, es5_⟩ : ∃ z : SS, z = sI s3_ 326 (Int32.toNatClampNeg (s3_.1 284 61)) ((8 * x2) + x1) := ⟨_, rfl⟩
        rw [← es5_]
        have hyp := hyp s5_ es5_
        refine r_aload_n (dcx dX10_tell_c0 26 rfl) 0 rfl ?_
        refine s_getr (b := 327) fX10_146 (dcx dX10_tell_c0 27 rfl) F284_63 ?_
        refine r_aload_n (dcx dX10_tell_c0 28 rfl) 0 rfl ?_
        refine s_geti fX10_266 (dcx dX10_tell_c0 29 rfl) F284_61 ?_
        refine r_iload_n (dcx dX10_tell_c0 30 rfl) 3 rfl ?_
        obtain ⟨hb_, hyp⟩ := hyp
        refine s_iast (dcx dX10_tell_c0 31 rfl) A327 hb_ ?_
        obtain ⟨s6_, es6_⟩ : ∃ z : SS, z = sI s5_ 327 (Int32.toNatClampNeg (s5_.1 284 61)) x3 := ⟨_, rfl⟩
        rw [← es6_]
        have hyp := hyp s6_ es6_
        refine r_aload_n (dcx dX10_tell_c0 32 rfl) 0 rfl ?_
        refine r_dup (dcx dX10_tell_c0 33 rfl) rfl ?_
        refine s_geti fX10_266 (dcx dX10_tell_c0 34 rfl) F284_61 ?_
        refine r_iconst (v := 1) (dcx dX10_tell_c0 35 rfl) rfl ?_
        refine r_iadd (dcx dX10_tell_c0 36 rfl) ?_
        refine s_puti gX10_266 (dcx dX10_tell_c0 37 rfl) F284_61 ?_
        obtain ⟨s7_, es7_⟩ : ∃ z : SS, z = sI s6_ 284 61 ((s6_.1 284 61) + 1) := ⟨_, rfl⟩
        rw [← es7_]
        have hyp := hyp s7_ es7_
        refine r_aload_n (dcx dX10_tell_c0 38 rfl) 0 rfl ?_
        refine s_geti fX10_266 (dcx dX10_tell_c0 39 rfl) F284_61 ?_
        refine r_iconst (v := 1) (dcx dX10_tell_c1 0 rfl) rfl ?_
        refine r_isub (dcx dX10_tell_c1 1 rfl) ?_
        exact s_ret rfl rfl rfl hyp (dcx dX10_tell_c1 2 rfl)
      · have hyp := hyp.2 q_
        refine r_iconst (v := (-1)) (dcx dX10_tell_c0 14 rfl) rfl ?_
        exact s_ret rfl rfl rfl hyp (dcx dX10_tell_c0 15 rfl)
set_option maxHeartbeats 4000000 in
set_option maxRecDepth 20000 in
theorem tX10_forget {Γ : GE} {l : Launch}  {σ : SS} {K : Option Value → SS → Prop}  (hyp : ∀ s1_ : SS, s1_ = sI σ 284 61 0 → (K (some (.int (σ.1 284 61))) s1_)) : C2 Γ l mX10_forget [.ref 284] σ K := by
  refine c2_of (lv := [(0, .ref 284)]) (by decide) (Nat.le_of_ble_eq_true rfl) rfl ?_
  refine r_aload_n (dcx dX10_forget_c0 0 rfl) 0 rfl ?_
  refine s_geti fX10_266 (dcx dX10_forget_c0 1 rfl) F284_61 ?_
  refine r_istore_n (lv1 := [(1, .int (σ.1 284 61)), (0, .ref 284)]) (dcx dX10_forget_c0 2 rfl) (Nat.le_of_ble_eq_true rfl) rfl ?_
  refine r_aload_n (dcx dX10_forget_c0 3 rfl) 1 rfl ?_
  refine r_iconst (v := 0) (dcx dX10_forget_c0 4 rfl) rfl ?_
  refine s_puti gX10_266 (dcx dX10_forget_c0 5 rfl) F284_61 ?_
  obtain ⟨s1_, es1_⟩ : ∃ z : SS, z = sI σ 284 61 0 := ⟨_, rfl⟩
  rw [← es1_]
  have hyp := hyp s1_ es1_
  refine r_iload_n (dcx dX10_forget_c0 6 rfl) 0 rfl ?_
  exact s_ret rfl rfl rfl hyp (dcx dX10_forget_c0 7 rfl)
set_option maxHeartbeats 4000000 in
set_option maxRecDepth 20000 in
theorem tX10_agoMost {Γ : GE} {l : Launch}  {σ : SS} {K : Option Value → SS → Prop}  (hyp : vp_in 104 106 ∧ (((30 : Int32) ≤ (σ.1 321 (Int32.toNatClampNeg 104)) → (K (some (.int 30)) σ)) ∧ (¬ ((30 : Int32) ≤ (σ.1 321 (Int32.toNatClampNeg 104))) → (vp_in 104 106 ∧ (K (some (.int (σ.1 321 (Int32.toNatClampNeg 104)))) σ))))) : C2 Γ l mX10_agoMost [.ref 284] σ K := by
  refine c2_of (lv := [(0, .ref 284)]) (by decide) (Nat.le_of_ble_eq_true rfl) rfl ?_
  refine r_aload_n (dcx dX10_agoMost_c0 0 rfl) 0 rfl ?_
  refine s_getr (b := 321) fX10_128 (dcx dX10_agoMost_c0 1 rfl) F284_54 ?_
  refine r_bipush (v := 104) (dcx dX10_agoMost_c0 2 rfl) rfl ?_
  obtain ⟨hb_, hyp⟩ := hyp
  refine s_iald (dcx dX10_agoMost_c0 3 rfl) A321 hb_ ?_
  refine r_bipush (v := 30) (dcx dX10_agoMost_c0 4 rfl) rfl ?_
  refine r_icmp_ge (tgt := 22) (dcx dX10_agoMost_c0 5 rfl) (by decide) (fun q_ => ?_) (fun q_ => ?_)
  · have hyp := hyp.1 q_
    refine r_bipush (v := 30) (dcx dX10_agoMost_c0 11 rfl) rfl ?_
    exact s_ret rfl rfl rfl hyp (dcx dX10_agoMost_c0 12 rfl)
  · have hyp := hyp.2 q_
    refine r_aload_n (dcx dX10_agoMost_c0 6 rfl) 0 rfl ?_
    refine s_getr (b := 321) fX10_128 (dcx dX10_agoMost_c0 7 rfl) F284_54 ?_
    refine r_bipush (v := 104) (dcx dX10_agoMost_c0 8 rfl) rfl ?_
    obtain ⟨hb_, hyp⟩ := hyp
    refine s_iald (dcx dX10_agoMost_c0 9 rfl) A321 hb_ ?_
    refine r_goto (tgt := 24) (dcx dX10_agoMost_c0 10 rfl) (by decide) ?_
    exact s_ret rfl rfl rfl hyp (dcx dX10_agoMost_c0 12 rfl)
def wX10_fillsWas_6 (Γ : GE) (l : Launch) (x1 : Int32) (σ : SS) (K : Option Value → SS → Prop) : Prop := G2 Γ l mX10_fillsWas 6 [(0, .ref 284), (1, .int x1)] [] σ K
def wX10_fillsWas_29 (Γ : GE) (l : Launch) (x1 : Int32) (x2 : Int32) (x3 : Int32) (σ : SS) (K : Option Value → SS → Prop) : Prop := G2 Γ l mX10_fillsWas 29 [(0, .ref 284), (1, .int x1), (2, .int x2), (3, .int x3)] [] σ K
set_option maxHeartbeats 4000000 in
set_option maxRecDepth 20000 in
theorem tX10_fillsWas {Γ : GE} {l : Launch}  {σ : SS} {K : Option Value → SS → Prop}  (hyp : C2 Γ l mX10_begins [.ref 284] σ (Rv fun s1_ => (wX10_fillsWas_6 Γ l 0 s1_ K))) : C2 Γ l mX10_fillsWas [.ref 284] σ K := by
  refine c2_of (lv := [(0, .ref 284)]) (by decide) (Nat.le_of_ble_eq_true rfl) rfl ?_
  refine r_aload_n (dcx dX10_fillsWas_c0 0 rfl) 0 rfl ?_
  refine s_callV (as := []) (st := []) zX10_begins kX10_fillsWas_172 (dcx dX10_fillsWas_c0 1 rfl) rfl rfl (Nat.le_of_ble_eq_true rfl) O284 rfl rfl (C2.mono hyp ?_)
  rintro _ s1_ ⟨rfl, hyp⟩
  show G2 Γ l mX10_fillsWas 4 [(0, .ref 284)] [] s1_ K
  refine r_iconst (v := 0) (dcx dX10_fillsWas_c0 2 rfl) rfl ?_
  refine r_istore_n (lv1 := [(1, .int 0), (0, .ref 284)]) (dcx dX10_fillsWas_c0 3 rfl) (Nat.le_of_ble_eq_true rfl) rfl ?_
  refine r_loc (lv1 := [(0, .ref 284), (1, .int 0)]) [1, 0] rfl ?_
  exact hyp
set_option maxHeartbeats 4000000 in
set_option maxRecDepth 20000 in
theorem tX10_fillsWas_6 {Γ : GE} {l : Launch} {x1 : Int32} {σ : SS} {K : Option Value → SS → Prop}  (hyp : vp_in 104 106 ∧ (((σ.1 321 (Int32.toNatClampNeg 104)) < x1 → (K none σ)) ∧ (¬ ((σ.1 321 (Int32.toNatClampNeg 104)) < x1) → (vp_in 104 106 ∧ (wX10_fillsWas_29 Γ l x1 ((σ.1 321 (Int32.toNatClampNeg 104)) - x1) 0 σ K))))) : wX10_fillsWas_6 Γ l x1 σ K := by
  show G2 Γ l mX10_fillsWas 6 [(0, .ref 284), (1, .int x1)] [] σ K
  refine r_iload_n (dcx dX10_fillsWas_c0 4 rfl) 1 rfl ?_
  refine r_aload_n (dcx dX10_fillsWas_c0 5 rfl) 0 rfl ?_
  refine s_getr (b := 321) fX10_128 (dcx dX10_fillsWas_c0 6 rfl) F284_54 ?_
  refine r_bipush (v := 104) (dcx dX10_fillsWas_c0 7 rfl) rfl ?_
  obtain ⟨hb_, hyp⟩ := hyp
  refine s_iald (dcx dX10_fillsWas_c0 8 rfl) A321 hb_ ?_
  refine r_icmp_gt (tgt := 74) (dcx dX10_fillsWas_c0 9 rfl) (by decide) (fun q_ => ?_) (fun q_ => ?_)
  · have hyp := hyp.1 q_
    exact s_vret rfl hyp (dcx dX10_fillsWas_c1 3 rfl)
  · have hyp := hyp.2 q_
    refine r_aload_n (dcx dX10_fillsWas_c0 10 rfl) 0 rfl ?_
    refine s_getr (b := 321) fX10_128 (dcx dX10_fillsWas_c0 11 rfl) F284_54 ?_
    refine r_bipush (v := 104) (dcx dX10_fillsWas_c0 12 rfl) rfl ?_
    obtain ⟨hb_, hyp⟩ := hyp
    refine s_iald (dcx dX10_fillsWas_c0 13 rfl) A321 hb_ ?_
    refine r_iload_n (dcx dX10_fillsWas_c0 14 rfl) 1 rfl ?_
    refine r_isub (dcx dX10_fillsWas_c0 15 rfl) ?_
    refine r_istore_n (lv1 := [(2, .int ((σ.1 321 (Int32.toNatClampNeg 104)) - x1)), (0, .ref 284), (1, .int x1)]) (dcx dX10_fillsWas_c0 16 rfl) (Nat.le_of_ble_eq_true rfl) rfl ?_
    refine r_iconst (v := 0) (dcx dX10_fillsWas_c0 17 rfl) rfl ?_
    refine r_istore_n (lv1 := [(3, .int 0), (2, .int ((σ.1 321 (Int32.toNatClampNeg 104)) - x1)), (0, .ref 284), (1, .int x1)]) (dcx dX10_fillsWas_c0 18 rfl) (Nat.le_of_ble_eq_true rfl) rfl ?_
    refine r_loc (lv1 := [(0, .ref 284), (1, .int x1), (2, .int ((σ.1 321 (Int32.toNatClampNeg 104)) - x1)), (3, .int 0)]) [2, 3, 1, 0] rfl ?_
    exact hyp
set_option maxHeartbeats 4000000 in
set_option maxRecDepth 20000 in
theorem tX10_fillsWas_29 {Γ : GE} {l : Launch} {x1 : Int32} {x2 : Int32} {x3 : Int32} {σ : SS} {K : Option Value → SS → Prop}  (hyp : ((48 : Int32) ≤ x3 → (C2 Γ l mX10_grassGrows [.ref 284] σ (Rv fun s1_ => (wX10_fillsWas_6 Γ l (x1 + 1) s1_ K)))) ∧ (¬ ((48 : Int32) ≤ x3) → (((30 : Int32) < x2 → (C2 Γ l mX10_grassGrows [.ref 284] σ (Rv fun s3_ => (wX10_fillsWas_6 Γ l (x1 + 1) s3_ K)))) ∧ (¬ ((30 : Int32) < x2) → (vp_in x3 106 ∧ (vp_in ((48 * x2) + x3) 1488 ∧ (∀ s5_ : SS, s5_ = sI σ 328 (Int32.toNatClampNeg ((48 * x2) + x3)) (σ.1 322 (Int32.toNatClampNeg x3)) → (wX10_fillsWas_29 Γ l x1 x2 (x3 + 1) s5_ K)))))))) : wX10_fillsWas_29 Γ l x1 x2 x3 σ K := by
  show G2 Γ l mX10_fillsWas 29 [(0, .ref 284), (1, .int x1), (2, .int x2), (3, .int x3)] [] σ K
  refine r_iload_n (dcx dX10_fillsWas_c0 19 rfl) 3 rfl ?_
  refine r_bipush (v := 48) (dcx dX10_fillsWas_c0 20 rfl) rfl ?_
  refine r_icmp_ge (tgt := 64) (dcx dX10_fillsWas_c0 21 rfl) (by decide) (fun q_ => ?_) (fun q_ => ?_)
  · have hyp := hyp.1 q_
    refine r_aload_n (dcx dX10_fillsWas_c0 39 rfl) 0 rfl ?_
    refine s_callV (as := []) (st := []) zX10_grassGrows kX10_fillsWas_406 (dcx dX10_fillsWas_c1 0 rfl) rfl rfl (Nat.le_of_ble_eq_true rfl) O284 rfl rfl (C2.mono hyp ?_)
    rintro _ s1_ ⟨rfl, hyp⟩
    show G2 Γ l mX10_fillsWas 68 [(0, .ref 284), (1, .int x1), (2, .int x2), (3, .int x3)] [] s1_ K
    refine r_iinc (lv1 := [(1, .int (x1 + 1)), (0, .ref 284), (2, .int x2), (3, .int x3)]) (dcx dX10_fillsWas_c1 1 rfl) 1 rfl (Nat.le_of_ble_eq_true rfl) rfl ?_
    refine r_goto (tgt := 6) (dcx dX10_fillsWas_c1 2 rfl) (by decide) ?_
    refine r_loc (lv1 := [(0, .ref 284), (1, .int (x1 + 1))]) [1, 0] rfl ?_
    exact hyp
  · have hyp := hyp.2 q_
    refine r_iload_n (dcx dX10_fillsWas_c0 22 rfl) 2 rfl ?_
    refine r_bipush (v := 30) (dcx dX10_fillsWas_c0 23 rfl) rfl ?_
    refine r_icmp_gt (tgt := 64) (dcx dX10_fillsWas_c0 24 rfl) (by decide) (fun q_ => ?_) (fun q_ => ?_)
    · have hyp := hyp.1 q_
      refine r_aload_n (dcx dX10_fillsWas_c0 39 rfl) 0 rfl ?_
      refine s_callV (as := []) (st := []) zX10_grassGrows kX10_fillsWas_406 (dcx dX10_fillsWas_c1 0 rfl) rfl rfl (Nat.le_of_ble_eq_true rfl) O284 rfl rfl (C2.mono hyp ?_)
      rintro _ s3_ ⟨rfl, hyp⟩
      show G2 Γ l mX10_fillsWas 68 [(0, .ref 284), (1, .int x1), (2, .int x2), (3, .int x3)] [] s3_ K
      refine r_iinc (lv1 := [(1, .int (x1 + 1)), (0, .ref 284), (2, .int x2), (3, .int x3)]) (dcx dX10_fillsWas_c1 1 rfl) 1 rfl (Nat.le_of_ble_eq_true rfl) rfl ?_
      refine r_goto (tgt := 6) (dcx dX10_fillsWas_c1 2 rfl) (by decide) ?_
      refine r_loc (lv1 := [(0, .ref 284), (1, .int (x1 + 1))]) [1, 0] rfl ?_
      exact hyp
    · have hyp := hyp.2 q_
      refine r_aload_n (dcx dX10_fillsWas_c0 25 rfl) 0 rfl ?_
      refine s_getr (b := 328) fX10_149 (dcx dX10_fillsWas_c0 26 rfl) F284_64 ?_
      refine r_bipush (v := 48) (dcx dX10_fillsWas_c0 27 rfl) rfl ?_
      refine r_iload_n (dcx dX10_fillsWas_c0 28 rfl) 2 rfl ?_
      refine r_imul (dcx dX10_fillsWas_c0 29 rfl) ?_
      refine r_iload_n (dcx dX10_fillsWas_c0 30 rfl) 3 rfl ?_
      refine r_iadd (dcx dX10_fillsWas_c0 31 rfl) ?_
      refine r_aload_n (dcx dX10_fillsWas_c0 32 rfl) 0 rfl ?_
      refine s_getr (b := 322) fX10_131 (dcx dX10_fillsWas_c0 33 rfl) F284_55 ?_
      refine r_iload_n (dcx dX10_fillsWas_c0 34 rfl) 3 rfl ?_
      obtain ⟨hb_, hyp⟩ := hyp
      refine s_iald (dcx dX10_fillsWas_c0 35 rfl) A322 hb_ ?_
      obtain ⟨hb_, hyp⟩ := hyp
      refine s_iast (dcx dX10_fillsWas_c0 36 rfl) A328 hb_ ?_
      obtain ⟨s5_, es5_⟩ : ∃ z : SS, z = sI σ 328 (Int32.toNatClampNeg ((48 * x2) + x3)) (σ.1 322 (Int32.toNatClampNeg x3)) := ⟨_, rfl⟩
      rw [← es5_]
      have hyp := hyp s5_ es5_
      refine r_iinc (lv1 := [(3, .int (x3 + 1)), (0, .ref 284), (1, .int x1), (2, .int x2)]) (dcx dX10_fillsWas_c0 37 rfl) 3 rfl (Nat.le_of_ble_eq_true rfl) rfl ?_
      refine r_goto (tgt := 29) (dcx dX10_fillsWas_c0 38 rfl) (by decide) ?_
      refine r_loc (lv1 := [(0, .ref 284), (1, .int x1), (2, .int x2), (3, .int (x3 + 1))]) [1, 2, 3, 0] rfl ?_
      exact hyp
