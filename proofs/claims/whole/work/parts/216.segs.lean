def wX10_keeps_51 (Γ : GE) (l : Launch) (x1 : Int32) (σ : SS) (K : Option Value → SS → Prop) : Prop := G2 Γ l mX10_keeps 51 [(0, .ref 284), (1, .int x1)] [] σ K
def wX10_keeps_11 (Γ : GE) (l : Launch) (x1 : Int32) (σ : SS) (K : Option Value → SS → Prop) : Prop := G2 Γ l mX10_keeps 11 [(0, .ref 284), (1, .int x1)] [] σ K
set_option maxHeartbeats 4000000 in
set_option maxRecDepth 20000 in
theorem tX10_keeps {Γ : GE} {l : Launch}  {σ : SS} {K : Option Value → SS → Prop}  (hyp : (¬ (σ.1 284 59) = 30 → (wX10_keeps_51 Γ l 0 σ K)) ∧ ((σ.1 284 59) = 30 → (wX10_keeps_11 Γ l 0 σ K))) : C2 Γ l mX10_keeps [.ref 284] σ K := by
  refine c2_of (lv := [(0, .ref 284)]) (by decide) (Nat.le_of_ble_eq_true rfl) rfl ?_
  refine r_aload_n (dcx dX10_keeps_c0 0 rfl) 0 rfl ?_
  refine s_geti fX10_263 (dcx dX10_keeps_c0 1 rfl) F284_59 ?_
  refine r_bipush (v := 30) (dcx dX10_keeps_c0 2 rfl) rfl ?_
  refine r_icmp_ne (tgt := 49) (dcx dX10_keeps_c0 3 rfl) (by decide) (fun q_ => ?_) (fun q_ => ?_)
  · have hyp := hyp.1 q_
    refine r_iconst (v := 0) (dcx dX10_keeps_c0 27 rfl) rfl ?_
    refine r_istore_n (lv1 := [(1, .int 0), (0, .ref 284)]) (dcx dX10_keeps_c0 28 rfl) (Nat.le_of_ble_eq_true rfl) rfl ?_
    refine r_loc (lv1 := [(0, .ref 284), (1, .int 0)]) [1, 0] rfl ?_
    exact hyp
  · have hyp := hyp.2 q_
    refine r_iconst (v := 0) (dcx dX10_keeps_c0 4 rfl) rfl ?_
    refine r_istore_n (lv1 := [(1, .int 0), (0, .ref 284)]) (dcx dX10_keeps_c0 5 rfl) (Nat.le_of_ble_eq_true rfl) rfl ?_
    refine r_loc (lv1 := [(0, .ref 284), (1, .int 0)]) [1, 0] rfl ?_
    exact hyp
set_option maxHeartbeats 4000000 in
set_option maxRecDepth 20000 in
theorem tX10_keeps_51 {Γ : GE} {l : Launch} {x1 : Int32} {σ : SS} {K : Option Value → SS → Prop}  (hyp : ((106 : Int32) ≤ x1 → (∀ s1_ : SS, s1_ = sI σ 284 59 ((σ.1 284 59) + 1) → (C2 Γ l mX10_keepsRow [.ref 284] s1_ (Rv fun s2_ => (K none s2_))))) ∧ (¬ ((106 : Int32) ≤ x1) → (vp_in x1 106 ∧ (vp_in ((106 * (σ.1 284 59)) + x1) 3180 ∧ (∀ s4_ : SS, s4_ = sI σ 325 (Int32.toNatClampNeg ((106 * (σ.1 284 59)) + x1)) (σ.1 321 (Int32.toNatClampNeg x1)) → (wX10_keeps_51 Γ l (x1 + 1) s4_ K)))))) : wX10_keeps_51 Γ l x1 σ K := by
  show G2 Γ l mX10_keeps 51 [(0, .ref 284), (1, .int x1)] [] σ K
  refine r_iload_n (dcx dX10_keeps_c0 29 rfl) 1 rfl ?_
  refine r_bipush (v := 106) (dcx dX10_keeps_c0 30 rfl) rfl ?_
  refine r_icmp_ge (tgt := 83) (dcx dX10_keeps_c0 31 rfl) (by decide) (fun q_ => ?_) (fun q_ => ?_)
  · have hyp := hyp.1 q_
    refine r_aload_n (dcx dX10_keeps_c1 7 rfl) 0 rfl ?_
    refine r_dup (dcx dX10_keeps_c1 8 rfl) rfl ?_
    refine s_geti fX10_263 (dcx dX10_keeps_c1 9 rfl) F284_59 ?_
    refine r_iconst (v := 1) (dcx dX10_keeps_c1 10 rfl) rfl ?_
    refine r_iadd (dcx dX10_keeps_c1 11 rfl) ?_
    refine s_puti gX10_263 (dcx dX10_keeps_c1 12 rfl) F284_59 ?_
    obtain ⟨s1_, es1_⟩ : ∃ z : SS, z = sI σ 284 59 ((σ.1 284 59) + 1) := ⟨_, rfl⟩
    rw [← es1_]
    have hyp := hyp s1_ es1_
    refine r_aload_n (dcx dX10_keeps_c1 13 rfl) 0 rfl ?_
    refine s_callV (as := []) (st := []) zX10_keepsRow kX10_keeps_175 (dcx dX10_keeps_c1 14 rfl) rfl rfl (Nat.le_of_ble_eq_true rfl) O284 rfl rfl (C2.mono hyp ?_)
    rintro _ s2_ ⟨rfl, hyp⟩
    show G2 Γ l mX10_keeps 97 [(0, .ref 284), (1, .int x1)] [] s2_ K
    exact s_vret rfl hyp (dcx dX10_keeps_c1 15 rfl)
  · have hyp := hyp.2 q_
    refine r_aload_n (dcx dX10_keeps_c0 32 rfl) 0 rfl ?_
    refine s_getr (b := 325) fX10_140 (dcx dX10_keeps_c0 33 rfl) F284_60 ?_
    refine r_bipush (v := 106) (dcx dX10_keeps_c0 34 rfl) rfl ?_
    refine r_aload_n (dcx dX10_keeps_c0 35 rfl) 0 rfl ?_
    refine s_geti fX10_263 (dcx dX10_keeps_c0 36 rfl) F284_59 ?_
    refine r_imul (dcx dX10_keeps_c0 37 rfl) ?_
    refine r_iload_n (dcx dX10_keeps_c0 38 rfl) 1 rfl ?_
    refine r_iadd (dcx dX10_keeps_c0 39 rfl) ?_
    refine r_aload_n (dcx dX10_keeps_c1 0 rfl) 0 rfl ?_
    refine s_getr (b := 321) fX10_128 (dcx dX10_keeps_c1 1 rfl) F284_54 ?_
    refine r_iload_n (dcx dX10_keeps_c1 2 rfl) 1 rfl ?_
    obtain ⟨hb_, hyp⟩ := hyp
    refine s_iald (dcx dX10_keeps_c1 3 rfl) A321 hb_ ?_
    obtain ⟨hb_, hyp⟩ := hyp
    refine s_iast (dcx dX10_keeps_c1 4 rfl) A325 hb_ ?_
    obtain ⟨s4_, es4_⟩ : ∃ z : SS, z = sI σ 325 (Int32.toNatClampNeg ((106 * (σ.1 284 59)) + x1)) (σ.1 321 (Int32.toNatClampNeg x1)) := ⟨_, rfl⟩
    rw [← es4_]
    have hyp := hyp s4_ es4_
    refine r_iinc (lv1 := [(1, .int (x1 + 1)), (0, .ref 284)]) (dcx dX10_keeps_c1 5 rfl) 1 rfl (Nat.le_of_ble_eq_true rfl) rfl ?_
    refine r_goto (tgt := 51) (dcx dX10_keeps_c1 6 rfl) (by decide) ?_
    refine r_loc (lv1 := [(0, .ref 284), (1, .int (x1 + 1))]) [1, 0] rfl ?_
    exact hyp
set_option maxHeartbeats 4000000 in
set_option maxRecDepth 20000 in
theorem tX10_keeps_11 {Γ : GE} {l : Launch} {x1 : Int32} {σ : SS} {K : Option Value → SS → Prop}  (hyp : ((3074 : Int32) ≤ x1 → (∀ s1_ : SS, s1_ = sI σ 284 59 ((σ.1 284 59) - 1) → (wX10_keeps_51 Γ l 0 s1_ K))) ∧ (¬ ((3074 : Int32) ≤ x1) → (vp_in (x1 + 106) 3180 ∧ (vp_in x1 3180 ∧ (∀ s2_ : SS, s2_ = sI σ 325 (Int32.toNatClampNeg x1) (σ.1 325 (Int32.toNatClampNeg (x1 + 106))) → (wX10_keeps_11 Γ l (x1 + 1) s2_ K)))))) : wX10_keeps_11 Γ l x1 σ K := by
  show G2 Γ l mX10_keeps 11 [(0, .ref 284), (1, .int x1)] [] σ K
  refine r_iload_n (dcx dX10_keeps_c0 6 rfl) 1 rfl ?_
  refine r_sipush (v := 3074) (dcx dX10_keeps_c0 7 rfl) rfl ?_
  refine r_icmp_ge (tgt := 39) (dcx dX10_keeps_c0 8 rfl) (by decide) (fun q_ => ?_) (fun q_ => ?_)
  · have hyp := hyp.1 q_
    refine r_aload_n (dcx dX10_keeps_c0 21 rfl) 0 rfl ?_
    refine r_dup (dcx dX10_keeps_c0 22 rfl) rfl ?_
    refine s_geti fX10_263 (dcx dX10_keeps_c0 23 rfl) F284_59 ?_
    refine r_iconst (v := 1) (dcx dX10_keeps_c0 24 rfl) rfl ?_
    refine r_isub (dcx dX10_keeps_c0 25 rfl) ?_
    refine s_puti gX10_263 (dcx dX10_keeps_c0 26 rfl) F284_59 ?_
    obtain ⟨s1_, es1_⟩ : ∃ z : SS, z = sI σ 284 59 ((σ.1 284 59) - 1) := ⟨_, rfl⟩
    rw [← es1_]
    have hyp := hyp s1_ es1_
    refine r_iconst (v := 0) (dcx dX10_keeps_c0 27 rfl) rfl ?_
    refine r_istore_n (lv1 := [(1, .int 0), (0, .ref 284)]) (dcx dX10_keeps_c0 28 rfl) (Nat.le_of_ble_eq_true rfl) rfl ?_
    refine r_loc (lv1 := [(0, .ref 284), (1, .int 0)]) [1, 0] rfl ?_
    exact hyp
  · have hyp := hyp.2 q_
    refine r_aload_n (dcx dX10_keeps_c0 9 rfl) 0 rfl ?_
    refine s_getr (b := 325) fX10_140 (dcx dX10_keeps_c0 10 rfl) F284_60 ?_
    refine r_iload_n (dcx dX10_keeps_c0 11 rfl) 1 rfl ?_
    refine r_aload_n (dcx dX10_keeps_c0 12 rfl) 0 rfl ?_
    refine s_getr (b := 325) fX10_140 (dcx dX10_keeps_c0 13 rfl) F284_60 ?_
    refine r_iload_n (dcx dX10_keeps_c0 14 rfl) 1 rfl ?_
    refine r_bipush (v := 106) (dcx dX10_keeps_c0 15 rfl) rfl ?_
    refine r_iadd (dcx dX10_keeps_c0 16 rfl) ?_
    obtain ⟨hb_, hyp⟩ := hyp
    refine s_iald (dcx dX10_keeps_c0 17 rfl) A325 hb_ ?_
    obtain ⟨hb_, hyp⟩ := hyp
    refine s_iast (dcx dX10_keeps_c0 18 rfl) A325 hb_ ?_
    obtain ⟨s2_, es2_⟩ : ∃ z : SS, z = sI σ 325 (Int32.toNatClampNeg x1) (σ.1 325 (Int32.toNatClampNeg (x1 + 106))) := ⟨_, rfl⟩
    rw [← es2_]
    have hyp := hyp s2_ es2_
    refine r_iinc (lv1 := [(1, .int (x1 + 1)), (0, .ref 284)]) (dcx dX10_keeps_c0 19 rfl) 1 rfl (Nat.le_of_ble_eq_true rfl) rfl ?_
    refine r_goto (tgt := 11) (dcx dX10_keeps_c0 20 rfl) (by decide) ?_
    refine r_loc (lv1 := [(0, .ref 284), (1, .int (x1 + 1))]) [1, 0] rfl ?_
    exact hyp
set_option maxHeartbeats 4000000 in
set_option maxRecDepth 20000 in
theorem tX10_cut {Γ : GE} {l : Launch} {x1 : Int32} {x2 : Int32} {x3 : Int32} {σ : SS} {K : Option Value → SS → Prop}  (hyp : C2 Γ l mX10_isSign [.ref 284, .int x1] σ (Ri fun r2_ s1_ => ((r2_ = 0 → (K (some (.int ((-1)))) s1_)) ∧ (¬ (r2_ = 0) → (C2 Γ l mX10_isPlace [.ref 284, .int x2, .int x3] s1_ (Ri fun r4_ s3_ => ((¬ r4_ = 0 → (C2 Γ l mX10_copies [.ref 284] s3_ (Rv fun s5_ => (C2 Γ l mX10_finesBy [.ref 284, .int x1, .int x2, .int x3] s5_ (Ri fun r8_ s7_ => (C2 Γ l mX10_cuts9 [.ref 284, .int x1, .int x2, .int x3] s7_ (Rv fun s9_ => (vp_in (96 + x1) 106 ∧ (vp_in (96 + x1) 106 ∧ (∀ s11_ : SS, s11_ = sI s9_ 322 (Int32.toNatClampNeg (96 + x1)) ((s9_.1 322 (Int32.toNatClampNeg (96 + x1))) + 1) → (vp_in 105 106 ∧ (vp_in 105 106 ∧ (∀ s12_ : SS, s12_ = sI s11_ 322 (Int32.toNatClampNeg 105) ((s11_.1 322 (Int32.toNatClampNeg 105)) + r8_) → (C2 Γ l mX10_keeps [.ref 284] s12_ (Rv fun s13_ => (K (some (.int r8_)) s13_)))))))))))))))) ∧ (r4_ = 0 → (K (some (.int ((-1)))) s3_))))))))) : C2 Γ l mX10_cut [.ref 284, .int x1, .int x2, .int x3] σ K := by
  refine c2_of (lv := [(0, .ref 284), (1, .int x1), (2, .int x2), (3, .int x3)]) (by decide) (Nat.le_of_ble_eq_true rfl) rfl ?_
  refine r_aload_n (dcx dX10_cut_c0 0 rfl) 0 rfl ?_
  refine r_iload_n (dcx dX10_cut_c0 1 rfl) 1 rfl ?_
  refine s_callV (as := [.int x1]) (st := []) zX10_isSign kX10_cut_418 (dcx dX10_cut_c0 2 rfl) rfl rfl (Nat.le_of_ble_eq_true rfl) O284 rfl rfl (C2.mono hyp ?_)
  rintro _ s1_ ⟨r2_, rfl, hyp⟩
  show G2 Γ l mX10_cut 5 [(0, .ref 284), (1, .int x1), (2, .int x2), (3, .int x3)] [.int r2_] s1_ K
  refine r_if_eq (tgt := 17) (dcx dX10_cut_c0 3 rfl) (by decide) (fun q_ => ?_) (fun q_ => ?_)
  · have hyp := hyp.1 q_
    refine r_iconst (v := (-1)) (dcx dX10_cut_c0 9 rfl) rfl ?_
    exact s_ret rfl rfl rfl hyp (dcx dX10_cut_c0 10 rfl)
  · have hyp := hyp.2 q_
    refine r_aload_n (dcx dX10_cut_c0 4 rfl) 0 rfl ?_
    refine r_iload_n (dcx dX10_cut_c0 5 rfl) 2 rfl ?_
    refine r_iload_n (dcx dX10_cut_c0 6 rfl) 3 rfl ?_
    refine s_callV (as := [.int x2, .int x3]) (st := []) zX10_isPlace kX10_cut_424 (dcx dX10_cut_c0 7 rfl) rfl rfl (Nat.le_of_ble_eq_true rfl) O284 rfl rfl (C2.mono hyp ?_)
    rintro _ s3_ ⟨r4_, rfl, hyp⟩
    show G2 Γ l mX10_cut 14 [(0, .ref 284), (1, .int x1), (2, .int x2), (3, .int x3)] [.int r4_] s3_ K
    refine r_if_ne (tgt := 19) (dcx dX10_cut_c0 8 rfl) (by decide) (fun q_ => ?_) (fun q_ => ?_)
    · have hyp := hyp.1 q_
      refine r_aload_n (dcx dX10_cut_c0 11 rfl) 0 rfl ?_
      refine s_callV (as := []) (st := []) zX10_copies kX10_cut_415 (dcx dX10_cut_c0 12 rfl) rfl rfl (Nat.le_of_ble_eq_true rfl) O284 rfl rfl (C2.mono hyp ?_)
      rintro _ s5_ ⟨rfl, hyp⟩
      show G2 Γ l mX10_cut 23 [(0, .ref 284), (1, .int x1), (2, .int x2), (3, .int x3)] [] s5_ K
      refine r_aload_n (dcx dX10_cut_c0 13 rfl) 0 rfl ?_
      refine r_iload_n (dcx dX10_cut_c0 14 rfl) 1 rfl ?_
      refine r_iload_n (dcx dX10_cut_c0 15 rfl) 2 rfl ?_
      refine r_iload_n (dcx dX10_cut_c0 16 rfl) 3 rfl ?_
      refine s_callV (as := [.int x1, .int x2, .int x3]) (st := []) zX10_finesBy kX10_cut_427 (dcx dX10_cut_c0 17 rfl) rfl rfl (Nat.le_of_ble_eq_true rfl) O284 rfl rfl (C2.mono hyp ?_)
      rintro _ s7_ ⟨r8_, rfl, hyp⟩
      show G2 Γ l mX10_cut 30 [(0, .ref 284), (1, .int x1), (2, .int x2), (3, .int x3)] [.int r8_] s7_ K
      refine r_istore (lv1 := [(4, .int r8_), (0, .ref 284), (1, .int x1), (2, .int x2), (3, .int x3)]) (dcx dX10_cut_c0 18 rfl) (Nat.le_of_ble_eq_true rfl) rfl ?_
      refine r_aload_n (dcx dX10_cut_c0 19 rfl) 1 rfl ?_
      refine r_iload_n (dcx dX10_cut_c0 20 rfl) 2 rfl ?_
      refine r_iload_n (dcx dX10_cut_c0 21 rfl) 3 rfl ?_
      refine r_iload_n (dcx dX10_cut_c0 22 rfl) 4 rfl ?_
      refine s_callV (as := [.int x1, .int x2, .int x3]) (st := []) zX10_cuts9 kX10_cut_430 (dcx dX10_cut_c0 23 rfl) rfl rfl (Nat.le_of_ble_eq_true rfl) O284 rfl rfl (C2.mono hyp ?_)
      rintro _ s9_ ⟨rfl, hyp⟩
      show G2 Γ l mX10_cut 39 [(4, .int r8_), (0, .ref 284), (1, .int x1), (2, .int x2), (3, .int x3)] [] s9_ K
      refine r_aload_n (dcx dX10_cut_c0 24 rfl) 1 rfl ?_
      refine s_getr (b := 322) fX10_131 (dcx dX10_cut_c0 25 rfl) F284_55 ?_
      refine r_bipush (v := 96) (dcx dX10_cut_c0 26 rfl) rfl ?_
      refine r_iload_n (dcx dX10_cut_c0 27 rfl) 2 rfl ?_
      refine r_iadd (dcx dX10_cut_c0 28 rfl) ?_
      refine r_dup2 (dcx dX10_cut_c0 29 rfl) rfl rfl ?_
      obtain ⟨hb_, hyp⟩ := hyp
      refine s_iald (dcx dX10_cut_c0 30 rfl) A322 hb_ ?_
      refine r_iconst (v := 1) (dcx dX10_cut_c0 31 rfl) rfl ?_
      refine r_iadd (dcx dX10_cut_c0 32 rfl) ?_
      obtain ⟨hb_, hyp⟩ := hyp
      refine s_iast (dcx dX10_cut_c0 33 rfl) A322 hb_ ?_
      obtain ⟨s11_, es11_⟩ : ∃ z : SS, z = sI s9_ 322 (Int32.toNatClampNeg (96 + x1)) ((s9_.1 322 (Int32.toNatClampNeg (96 + x1))) + 1) := ⟨_, rfl⟩
      rw [← es11_]
      have hyp := hyp s11_ es11_
      refine r_aload_n (dcx dX10_cut_c0 34 rfl) 1 rfl ?_
      refine s_getr (b := 322) fX10_131 (dcx dX10_cut_c0 35 rfl) F284_55 ?_
      refine r_bipush (v := 105) (dcx dX10_cut_c0 36 rfl) rfl ?_
      refine r_dup2 (dcx dX10_cut_c0 37 rfl) rfl rfl ?_
      obtain ⟨hb_, hyp⟩ := hyp
      refine s_iald (dcx dX10_cut_c0 38 rfl) A322 hb_ ?_
      refine r_iload (dcx dX10_cut_c0 39 rfl) 0 rfl ?_
      refine r_iadd (dcx dX10_cut_c1 0 rfl) ?_
      obtain ⟨hb_, hyp⟩ := hyp
      refine s_iast (dcx dX10_cut_c1 1 rfl) A322 hb_ ?_
      obtain ⟨s12_, es12_⟩ : ∃ z : SS, z = sI s11_ 322 (Int32.toNatClampNeg 105) ((s11_.1 322 (Int32.toNatClampNeg 105)) + r8_) := ⟨_, rfl⟩
      rw [← es12_]
      have hyp := hyp s12_ es12_
      refine r_aload_n (dcx dX10_cut_c1 2 rfl) 1 rfl ?_
      refine s_callV (as := []) (st := []) zX10_keeps kX10_cut_434 (dcx dX10_cut_c1 3 rfl) rfl rfl (Nat.le_of_ble_eq_true rfl) O284 rfl rfl (C2.mono hyp ?_)
      rintro _ s13_ ⟨rfl, hyp⟩
      show G2 Γ l mX10_cut 68 [(4, .int r8_), (0, .ref 284), (1, .int x1), (2, .int x2), (3, .int x3)] [] s13_ K
      refine r_iload (dcx dX10_cut_c1 4 rfl) 0 rfl ?_
      exact s_ret rfl rfl rfl hyp (dcx dX10_cut_c1 5 rfl)
    · have hyp := hyp.2 q_
      refine r_iconst (v := (-1)) (dcx dX10_cut_c0 9 rfl) rfl ?_
      exact s_ret rfl rfl rfl hyp (dcx dX10_cut_c0 10 rfl)
set_option maxHeartbeats 4000000 in
set_option maxRecDepth 20000 in
theorem tX10_graze {Γ : GE} {l : Launch} {x1 : Int32} {x2 : Int32} {σ : SS} {K : Option Value → SS → Prop}  (hyp : C2 Γ l mX10_isCell [.ref 284, .int x1, .int x2] σ (Ri fun r2_ s1_ => ((¬ r2_ = 0 → (C2 Γ l mX10_isGrass [.ref 284, .int x1, .int x2] s1_ (Ri fun r4_ s3_ => ((¬ r4_ = 0 → (C2 Γ l mX10_copies [.ref 284] s3_ (Rv fun s5_ => (vp_in ((8 * x2) + x1) 106 ∧ (vp_in ((8 * x2) + x1) 106 ∧ (∀ s7_ : SS, s7_ = sI s5_ 322 (Int32.toNatClampNeg ((8 * x2) + x1)) 0 → (C2 Γ l mX10_keeps [.ref 284] s7_ (Rv fun s8_ => (K (some (.int (s5_.1 322 (Int32.toNatClampNeg ((8 * x2) + x1))))) s8_))))))))) ∧ (r4_ = 0 → (K (some (.int ((-2)))) s3_)))))) ∧ (r2_ = 0 → (K (some (.int ((-1)))) s1_))))) : C2 Γ l mX10_graze [.ref 284, .int x1, .int x2] σ K := by
  refine c2_of (lv := [(0, .ref 284), (1, .int x1), (2, .int x2)]) (by decide) (Nat.le_of_ble_eq_true rfl) rfl ?_
  refine r_aload_n (dcx dX10_graze_c0 0 rfl) 0 rfl ?_
  refine r_iload_n (dcx dX10_graze_c0 1 rfl) 1 rfl ?_
  refine r_iload_n (dcx dX10_graze_c0 2 rfl) 2 rfl ?_
  refine s_callV (as := [.int x1, .int x2]) (st := []) zX10_isCell kX10_graze_343 (dcx dX10_graze_c0 3 rfl) rfl rfl (Nat.le_of_ble_eq_true rfl) O284 rfl rfl (C2.mono hyp ?_)
  rintro _ s1_ ⟨r2_, rfl, hyp⟩
  show G2 Γ l mX10_graze 6 [(0, .ref 284), (1, .int x1), (2, .int x2)] [.int r2_] s1_ K
  refine r_if_ne (tgt := 11) (dcx dX10_graze_c0 4 rfl) (by decide) (fun q_ => ?_) (fun q_ => ?_)
  · have hyp := hyp.1 q_
    refine r_aload_n (dcx dX10_graze_c0 7 rfl) 0 rfl ?_
    refine r_iload_n (dcx dX10_graze_c0 8 rfl) 1 rfl ?_
    refine r_iload_n (dcx dX10_graze_c0 9 rfl) 2 rfl ?_
    refine s_callV (as := [.int x1, .int x2]) (st := []) zX10_isGrass kX10_graze_347 (dcx dX10_graze_c0 10 rfl) rfl rfl (Nat.le_of_ble_eq_true rfl) O284 rfl rfl (C2.mono hyp ?_)
    rintro _ s3_ ⟨r4_, rfl, hyp⟩
    show G2 Γ l mX10_graze 17 [(0, .ref 284), (1, .int x1), (2, .int x2)] [.int r4_] s3_ K
    refine r_if_ne (tgt := 23) (dcx dX10_graze_c0 11 rfl) (by decide) (fun q_ => ?_) (fun q_ => ?_)
    · have hyp := hyp.1 q_
      refine r_aload_n (dcx dX10_graze_c0 14 rfl) 0 rfl ?_
      refine s_callV (as := []) (st := []) zX10_copies kX10_graze_415 (dcx dX10_graze_c0 15 rfl) rfl rfl (Nat.le_of_ble_eq_true rfl) O284 rfl rfl (C2.mono hyp ?_)
      rintro _ s5_ ⟨rfl, hyp⟩
      show G2 Γ l mX10_graze 27 [(0, .ref 284), (1, .int x1), (2, .int x2)] [] s5_ K
      refine r_aload_n (dcx dX10_graze_c0 16 rfl) 0 rfl ?_
      refine s_getr (b := 322) fX10_131 (dcx dX10_graze_c0 17 rfl) F284_55 ?_
      refine r_bipush (v := 8) (dcx dX10_graze_c0 18 rfl) rfl ?_
      refine r_iload_n (dcx dX10_graze_c0 19 rfl) 2 rfl ?_
      refine r_imul (dcx dX10_graze_c0 20 rfl) ?_
      refine r_iload_n (dcx dX10_graze_c0 21 rfl) 1 rfl ?_
      refine r_iadd (dcx dX10_graze_c0 22 rfl) ?_
      obtain ⟨hb_, hyp⟩ := hyp
      refine s_iald (dcx dX10_graze_c0 23 rfl) A322 hb_ ?_
      refine r_istore_n (lv1 := [(3, .int (s5_.1 322 (Int32.toNatClampNeg ((8 * x2) + x1)))), (0, .ref 284), (1, .int x1), (2, .int x2)]) (dcx dX10_graze_c0 24 rfl) (Nat.le_of_ble_eq_true rfl) rfl ?_
      refine r_aload_n (dcx dX10_graze_c0 25 rfl) 1 rfl ?_
      refine s_getr (b := 322) fX10_131 (dcx dX10_graze_c0 26 rfl) F284_55 ?_
      refine r_bipush (v := 8) (dcx dX10_graze_c0 27 rfl) rfl ?_
      refine r_iload_n (dcx dX10_graze_c0 28 rfl) 3 rfl ?_
      refine r_imul (dcx dX10_graze_c0 29 rfl) ?_
      refine r_iload_n (dcx dX10_graze_c0 30 rfl) 2 rfl ?_
      refine r_iadd (dcx dX10_graze_c0 31 rfl) ?_
      refine r_iconst (v := 0) (dcx dX10_graze_c0 32 rfl) rfl ?_
      obtain ⟨hb_, hyp⟩ := hyp
      refine s_iast (dcx dX10_graze_c0 33 rfl) A322 hb_ ?_
      obtain ⟨s7_, es7_⟩ : ∃ z : SS, z = sI s5_ 322 (Int32.toNatClampNeg ((8 * x2) + x1)) 0 := ⟨_, rfl⟩
      rw [← es7_]
      have hyp := hyp s7_ es7_
      refine r_aload_n (dcx dX10_graze_c0 34 rfl) 1 rfl ?_
      refine s_callV (as := []) (st := []) zX10_keeps kX10_graze_434 (dcx dX10_graze_c0 35 rfl) rfl rfl (Nat.le_of_ble_eq_true rfl) O284 rfl rfl (C2.mono hyp ?_)
      rintro _ s8_ ⟨rfl, hyp⟩
      show G2 Γ l mX10_graze 55 [(3, .int (s5_.1 322 (Int32.toNatClampNeg ((8 * x2) + x1)))), (0, .ref 284), (1, .int x1), (2, .int x2)] [] s8_ K
      refine r_iload_n (dcx dX10_graze_c0 36 rfl) 0 rfl ?_
      exact s_ret rfl rfl rfl hyp (dcx dX10_graze_c0 37 rfl)
    · have hyp := hyp.2 q_
      refine r_bipush (v := (-2)) (dcx dX10_graze_c0 12 rfl) rfl ?_
      exact s_ret rfl rfl rfl hyp (dcx dX10_graze_c0 13 rfl)
  · have hyp := hyp.2 q_
    refine r_iconst (v := (-1)) (dcx dX10_graze_c0 5 rfl) rfl ?_
    exact s_ret rfl rfl rfl hyp (dcx dX10_graze_c0 6 rfl)
set_option maxHeartbeats 4000000 in
set_option maxRecDepth 20000 in
theorem tX10_feedsCell {Γ : GE} {l : Launch} {x1 : Int32} {x2 : Int32} {σ : SS} {K : Option Value → SS → Prop}  (hyp : vp_in ((48 + (8 * x2)) + x1) 106 ∧ (C2 Γ l mX10_feedsBy [.ref 284, .int x1, .int x2] σ (Ri fun r2_ s1_ => (C2 Γ l mX10_held [.int ((σ.1 322 (Int32.toNatClampNeg ((48 + (8 * x2)) + x1))) + r2_), .int 0, .int 99] s1_ (Ri fun r4_ s3_ => (vp_in ((48 + (8 * x2)) + x1) 106 ∧ (∀ s5_ : SS, s5_ = sI s3_ 322 (Int32.toNatClampNeg ((48 + (8 * x2)) + x1)) r4_ → (K none s5_)))))))) : C2 Γ l mX10_feedsCell [.ref 284, .int x1, .int x2] σ K := by
  refine c2_of (lv := [(0, .ref 284), (1, .int x1), (2, .int x2)]) (by decide) (Nat.le_of_ble_eq_true rfl) rfl ?_
  refine r_aload_n (dcx dX10_feedsCell_c0 0 rfl) 0 rfl ?_
  refine s_getr (b := 322) fX10_131 (dcx dX10_feedsCell_c0 1 rfl) F284_55 ?_
  refine r_bipush (v := 48) (dcx dX10_feedsCell_c0 2 rfl) rfl ?_
  refine r_bipush (v := 8) (dcx dX10_feedsCell_c0 3 rfl) rfl ?_
  refine r_iload_n (dcx dX10_feedsCell_c0 4 rfl) 2 rfl ?_
  refine r_imul (dcx dX10_feedsCell_c0 5 rfl) ?_
  refine r_iadd (dcx dX10_feedsCell_c0 6 rfl) ?_
  refine r_iload_n (dcx dX10_feedsCell_c0 7 rfl) 1 rfl ?_
  refine r_iadd (dcx dX10_feedsCell_c0 8 rfl) ?_
  refine r_aload_n (dcx dX10_feedsCell_c0 9 rfl) 0 rfl ?_
  refine s_getr (b := 322) fX10_131 (dcx dX10_feedsCell_c0 10 rfl) F284_55 ?_
  refine r_bipush (v := 48) (dcx dX10_feedsCell_c0 11 rfl) rfl ?_
  refine r_bipush (v := 8) (dcx dX10_feedsCell_c0 12 rfl) rfl ?_
  refine r_iload_n (dcx dX10_feedsCell_c0 13 rfl) 2 rfl ?_
  refine r_imul (dcx dX10_feedsCell_c0 14 rfl) ?_
  refine r_iadd (dcx dX10_feedsCell_c0 15 rfl) ?_
  refine r_iload_n (dcx dX10_feedsCell_c0 16 rfl) 1 rfl ?_
  refine r_iadd (dcx dX10_feedsCell_c0 17 rfl) ?_
  obtain ⟨hb_, hyp⟩ := hyp
  refine s_iald (dcx dX10_feedsCell_c0 18 rfl) A322 hb_ ?_
  refine r_aload_n (dcx dX10_feedsCell_c0 19 rfl) 0 rfl ?_
  refine r_iload_n (dcx dX10_feedsCell_c0 20 rfl) 1 rfl ?_
  refine r_iload_n (dcx dX10_feedsCell_c0 21 rfl) 2 rfl ?_
  refine s_callV (as := [.int x1, .int x2]) (st := [.int (σ.1 322 (Int32.toNatClampNeg ((48 + (8 * x2)) + x1))), .int ((48 + (8 * x2)) + x1), .ref 322]) zX10_feedsBy kX10_feedsCell_437 (dcx dX10_feedsCell_c0 22 rfl) rfl rfl (Nat.le_of_ble_eq_true rfl) O284 rfl rfl (C2.mono hyp ?_)
  rintro _ s1_ ⟨r2_, rfl, hyp⟩
  show G2 Γ l mX10_feedsCell 33 [(0, .ref 284), (1, .int x1), (2, .int x2)] [.int r2_, .int (σ.1 322 (Int32.toNatClampNeg ((48 + (8 * x2)) + x1))), .int ((48 + (8 * x2)) + x1), .ref 322] s1_ K
  refine r_iadd (dcx dX10_feedsCell_c0 23 rfl) ?_
  refine r_iconst (v := 0) (dcx dX10_feedsCell_c0 24 rfl) rfl ?_
  refine r_bipush (v := 99) (dcx dX10_feedsCell_c0 25 rfl) rfl ?_
  refine s_callS (as := [.int ((σ.1 322 (Int32.toNatClampNeg ((48 + (8 * x2)) + x1))) + r2_), .int 0, .int 99]) (st := [.int ((48 + (8 * x2)) + x1), .ref 322]) zX10_held kX10_feedsCell_375 (dcx dX10_feedsCell_c0 26 rfl) rfl rfl (Nat.le_of_ble_eq_true rfl) (C2.mono hyp ?_)
  rintro _ s3_ ⟨r4_, rfl, hyp⟩
  show G2 Γ l mX10_feedsCell 40 [(0, .ref 284), (1, .int x1), (2, .int x2)] [.int r4_, .int ((48 + (8 * x2)) + x1), .ref 322] s3_ K
  obtain ⟨hb_, hyp⟩ := hyp
  refine s_iast (dcx dX10_feedsCell_c0 27 rfl) A322 hb_ ?_
  obtain ⟨s5_, es5_⟩ : ∃ z : SS, z = sI s3_ 322 (Int32.toNatClampNeg ((48 + (8 * x2)) + x1)) r4_ := ⟨_, rfl⟩
  rw [← es5_]
  have hyp := hyp s5_ es5_
  exact s_vret rfl hyp (dcx dX10_feedsCell_c0 28 rfl)
set_option maxHeartbeats 4000000 in
set_option maxRecDepth 20000 in
theorem tX10_nourish {Γ : GE} {l : Launch} {x1 : Int32} {x2 : Int32} {σ : SS} {K : Option Value → SS → Prop}  (hyp : C2 Γ l mX10_isCell [.ref 284, .int x1, .int x2] σ (Ri fun r2_ s1_ => ((¬ r2_ = 0 → (C2 Γ l mX10_isGrass [.ref 284, .int x1, .int x2] s1_ (Ri fun r4_ s3_ => ((¬ r4_ = 0 → (C2 Γ l mX10_copies [.ref 284] s3_ (Rv fun s5_ => (C2 Γ l mX10_feedsCell [.ref 284, .int x1, .int x2] s5_ (Rv fun s7_ => (C2 Γ l mX10_keeps [.ref 284] s7_ (Rv fun s9_ => (vp_in ((48 + (8 * x2)) + x1) 106 ∧ (K (some (.int (s9_.1 321 (Int32.toNatClampNeg ((48 + (8 * x2)) + x1))))) s9_))))))))) ∧ (r4_ = 0 → (K (some (.int ((-2)))) s3_)))))) ∧ (r2_ = 0 → (K (some (.int ((-1)))) s1_))))) : C2 Γ l mX10_nourish [.ref 284, .int x1, .int x2] σ K := by
  refine c2_of (lv := [(0, .ref 284), (1, .int x1), (2, .int x2)]) (by decide) (Nat.le_of_ble_eq_true rfl) rfl ?_
  refine r_aload_n (dcx dX10_nourish_c0 0 rfl) 0 rfl ?_
  refine r_iload_n (dcx dX10_nourish_c0 1 rfl) 1 rfl ?_
  refine r_iload_n (dcx dX10_nourish_c0 2 rfl) 2 rfl ?_
  refine s_callV (as := [.int x1, .int x2]) (st := []) zX10_isCell kX10_nourish_343 (dcx dX10_nourish_c0 3 rfl) rfl rfl (Nat.le_of_ble_eq_true rfl) O284 rfl rfl (C2.mono hyp ?_)
  rintro _ s1_ ⟨r2_, rfl, hyp⟩
  show G2 Γ l mX10_nourish 6 [(0, .ref 284), (1, .int x1), (2, .int x2)] [.int r2_] s1_ K
  refine r_if_ne (tgt := 11) (dcx dX10_nourish_c0 4 rfl) (by decide) (fun q_ => ?_) (fun q_ => ?_)
  · have hyp := hyp.1 q_
    refine r_aload_n (dcx dX10_nourish_c0 7 rfl) 0 rfl ?_
    refine r_iload_n (dcx dX10_nourish_c0 8 rfl) 1 rfl ?_
    refine r_iload_n (dcx dX10_nourish_c0 9 rfl) 2 rfl ?_
    refine s_callV (as := [.int x1, .int x2]) (st := []) zX10_isGrass kX10_nourish_347 (dcx dX10_nourish_c0 10 rfl) rfl rfl (Nat.le_of_ble_eq_true rfl) O284 rfl rfl (C2.mono hyp ?_)
    rintro _ s3_ ⟨r4_, rfl, hyp⟩
    show G2 Γ l mX10_nourish 17 [(0, .ref 284), (1, .int x1), (2, .int x2)] [.int r4_] s3_ K
    refine r_if_ne (tgt := 23) (dcx dX10_nourish_c0 11 rfl) (by decide) (fun q_ => ?_) (fun q_ => ?_)
    · have hyp := hyp.1 q_
      refine r_aload_n (dcx dX10_nourish_c0 14 rfl) 0 rfl ?_
      refine s_callV (as := []) (st := []) zX10_copies kX10_nourish_415 (dcx dX10_nourish_c0 15 rfl) rfl rfl (Nat.le_of_ble_eq_true rfl) O284 rfl rfl (C2.mono hyp ?_)
      rintro _ s5_ ⟨rfl, hyp⟩
      show G2 Γ l mX10_nourish 27 [(0, .ref 284), (1, .int x1), (2, .int x2)] [] s5_ K
      refine r_aload_n (dcx dX10_nourish_c0 16 rfl) 0 rfl ?_
      refine r_iload_n (dcx dX10_nourish_c0 17 rfl) 1 rfl ?_
      refine r_iload_n (dcx dX10_nourish_c0 18 rfl) 2 rfl ?_
      refine s_callV (as := [.int x1, .int x2]) (st := []) zX10_feedsCell kX10_nourish_440 (dcx dX10_nourish_c0 19 rfl) rfl rfl (Nat.le_of_ble_eq_true rfl) O284 rfl rfl (C2.mono hyp ?_)
      rintro _ s7_ ⟨rfl, hyp⟩
      show G2 Γ l mX10_nourish 33 [(0, .ref 284), (1, .int x1), (2, .int x2)] [] s7_ K
      refine r_aload_n (dcx dX10_nourish_c0 20 rfl) 0 rfl ?_
      refine s_callV (as := []) (st := []) zX10_keeps kX10_nourish_434 (dcx dX10_nourish_c0 21 rfl) rfl rfl (Nat.le_of_ble_eq_true rfl) O284 rfl rfl (C2.mono hyp ?_)
      rintro _ s9_ ⟨rfl, hyp⟩
      show G2 Γ l mX10_nourish 37 [(0, .ref 284), (1, .int x1), (2, .int x2)] [] s9_ K
      refine r_aload_n (dcx dX10_nourish_c0 22 rfl) 0 rfl ?_
      refine s_getr (b := 321) fX10_128 (dcx dX10_nourish_c0 23 rfl) F284_54 ?_
      refine r_bipush (v := 48) (dcx dX10_nourish_c0 24 rfl) rfl ?_
      refine r_bipush (v := 8) (dcx dX10_nourish_c0 25 rfl) rfl ?_
      refine r_iload_n (dcx dX10_nourish_c0 26 rfl) 2 rfl ?_
      refine r_imul (dcx dX10_nourish_c0 27 rfl) ?_
      refine r_iadd (dcx dX10_nourish_c0 28 rfl) ?_
      refine r_iload_n (dcx dX10_nourish_c0 29 rfl) 1 rfl ?_
      refine r_iadd (dcx dX10_nourish_c0 30 rfl) ?_
      obtain ⟨hb_, hyp⟩ := hyp
      refine s_iald (dcx dX10_nourish_c0 31 rfl) A321 hb_ ?_
      exact s_ret rfl rfl rfl hyp (dcx dX10_nourish_c0 32 rfl)
    · have hyp := hyp.2 q_
      refine r_bipush (v := (-2)) (dcx dX10_nourish_c0 12 rfl) rfl ?_
      exact s_ret rfl rfl rfl hyp (dcx dX10_nourish_c0 13 rfl)
  · have hyp := hyp.2 q_
    refine r_iconst (v := (-1)) (dcx dX10_nourish_c0 5 rfl) rfl ?_
    exact s_ret rfl rfl rfl hyp (dcx dX10_nourish_c0 6 rfl)
def wX10_mowsTo_4 (Γ : GE) (l : Launch) (x1 : Int32) (x2 : Int32) (x3 : Int32) (σ : SS) (K : Option Value → SS → Prop) : Prop := G2 Γ l mX10_mowsTo 4 [(0, .ref 284), (1, .int x1), (2, .int x2), (3, .int x3)] [] σ K
set_option maxHeartbeats 4000000 in
set_option maxRecDepth 20000 in
theorem tX10_mowsTo {Γ : GE} {l : Launch} {x1 : Int32} {σ : SS} {K : Option Value → SS → Prop}  (hyp : wX10_mowsTo_4 Γ l x1 0 0 σ K) : C2 Γ l mX10_mowsTo [.ref 284, .int x1] σ K := by
  refine c2_of (lv := [(0, .ref 284), (1, .int x1)]) (by decide) (Nat.le_of_ble_eq_true rfl) rfl ?_
  refine r_iconst (v := 0) (dcx dX10_mowsTo_c0 0 rfl) rfl ?_
  refine r_istore_n (lv1 := [(2, .int 0), (0, .ref 284), (1, .int x1)]) (dcx dX10_mowsTo_c0 1 rfl) (Nat.le_of_ble_eq_true rfl) rfl ?_
  refine r_iconst (v := 0) (dcx dX10_mowsTo_c0 2 rfl) rfl ?_
  refine r_istore_n (lv1 := [(3, .int 0), (2, .int 0), (0, .ref 284), (1, .int x1)]) (dcx dX10_mowsTo_c0 3 rfl) (Nat.le_of_ble_eq_true rfl) rfl ?_
  refine r_loc (lv1 := [(0, .ref 284), (1, .int x1), (2, .int 0), (3, .int 0)]) [2, 3, 1, 0] rfl ?_
  exact hyp
set_option maxHeartbeats 4000000 in
set_option maxRecDepth 20000 in
theorem tX10_mowsTo_4 {Γ : GE} {l : Launch} {x1 : Int32} {x2 : Int32} {x3 : Int32} {σ : SS} {K : Option Value → SS → Prop}  (hyp : ((48 : Int32) ≤ x3 → (K (some (.int x2)) σ)) ∧ (¬ ((48 : Int32) ≤ x3) → (vp_in x3 106 ∧ ((x1 < (σ.1 322 (Int32.toNatClampNeg x3)) → (vp_in x3 106 ∧ (∀ s1_ : SS, s1_ = sI σ 322 (Int32.toNatClampNeg x3) x1 → (wX10_mowsTo_4 Γ l x1 (x2 + 1) (x3 + 1) s1_ K)))) ∧ (¬ (x1 < (σ.1 322 (Int32.toNatClampNeg x3))) → (wX10_mowsTo_4 Γ l x1 x2 (x3 + 1) σ K)))))) : wX10_mowsTo_4 Γ l x1 x2 x3 σ K := by
  show G2 Γ l mX10_mowsTo 4 [(0, .ref 284), (1, .int x1), (2, .int x2), (3, .int x3)] [] σ K
  refine r_iload_n (dcx dX10_mowsTo_c0 4 rfl) 3 rfl ?_
  refine r_bipush (v := 48) (dcx dX10_mowsTo_c0 5 rfl) rfl ?_
  refine r_icmp_ge (tgt := 39) (dcx dX10_mowsTo_c0 6 rfl) (by decide) (fun q_ => ?_) (fun q_ => ?_)
  · have hyp := hyp.1 q_
    refine r_iload_n (dcx dX10_mowsTo_c0 22 rfl) 2 rfl ?_
    exact s_ret rfl rfl rfl hyp (dcx dX10_mowsTo_c0 23 rfl)
  · have hyp := hyp.2 q_
    refine r_aload_n (dcx dX10_mowsTo_c0 7 rfl) 0 rfl ?_
    refine s_getr (b := 322) fX10_131 (dcx dX10_mowsTo_c0 8 rfl) F284_55 ?_
    refine r_iload_n (dcx dX10_mowsTo_c0 9 rfl) 3 rfl ?_
    obtain ⟨hb_, hyp⟩ := hyp
    refine s_iald (dcx dX10_mowsTo_c0 10 rfl) A322 hb_ ?_
    refine r_iload_n (dcx dX10_mowsTo_c0 11 rfl) 1 rfl ?_
    refine r_icmp_gt (tgt := 23) (dcx dX10_mowsTo_c0 12 rfl) (by decide) (fun q_ => ?_) (fun q_ => ?_)
    · have hyp := hyp.1 q_
      refine r_aload_n (dcx dX10_mowsTo_c0 14 rfl) 0 rfl ?_
      refine s_getr (b := 322) fX10_131 (dcx dX10_mowsTo_c0 15 rfl) F284_55 ?_
      refine r_iload_n (dcx dX10_mowsTo_c0 16 rfl) 3 rfl ?_
      refine r_iload_n (dcx dX10_mowsTo_c0 17 rfl) 1 rfl ?_
      obtain ⟨hb_, hyp⟩ := hyp
      refine s_iast (dcx dX10_mowsTo_c0 18 rfl) A322 hb_ ?_
      obtain ⟨s1_, es1_⟩ : ∃ z : SS, z = sI σ 322 (Int32.toNatClampNeg x3) x1 := ⟨_, rfl⟩
      rw [← es1_]
      have hyp := hyp s1_ es1_
      refine r_iinc (lv1 := [(2, .int (x2 + 1)), (0, .ref 284), (1, .int x1), (3, .int x3)]) (dcx dX10_mowsTo_c0 19 rfl) 2 rfl (Nat.le_of_ble_eq_true rfl) rfl ?_
      refine r_iinc (lv1 := [(3, .int (x3 + 1)), (2, .int (x2 + 1)), (0, .ref 284), (1, .int x1)]) (dcx dX10_mowsTo_c0 20 rfl) 3 rfl (Nat.le_of_ble_eq_true rfl) rfl ?_
      refine r_goto (tgt := 4) (dcx dX10_mowsTo_c0 21 rfl) (by decide) ?_
      refine r_loc (lv1 := [(0, .ref 284), (1, .int x1), (2, .int (x2 + 1)), (3, .int (x3 + 1))]) [2, 3, 1, 0] rfl ?_
      exact hyp
    · have hyp := hyp.2 q_
      refine r_goto (tgt := 33) (dcx dX10_mowsTo_c0 13 rfl) (by decide) ?_
      refine r_iinc (lv1 := [(3, .int (x3 + 1)), (0, .ref 284), (1, .int x1), (2, .int x2)]) (dcx dX10_mowsTo_c0 20 rfl) 3 rfl (Nat.le_of_ble_eq_true rfl) rfl ?_
      refine r_goto (tgt := 4) (dcx dX10_mowsTo_c0 21 rfl) (by decide) ?_
      refine r_loc (lv1 := [(0, .ref 284), (1, .int x1), (2, .int x2), (3, .int (x3 + 1))]) [1, 2, 3, 0] rfl ?_
      exact hyp
set_option maxHeartbeats 4000000 in
set_option maxRecDepth 20000 in
theorem tX10_mow {Γ : GE} {l : Launch} {x1 : Int32} {σ : SS} {K : Option Value → SS → Prop}  (hyp : C2 Γ l mX10_in [.int x1, .int 0, .int 99] σ (Ri fun r2_ s1_ => ((¬ r2_ = 0 → (C2 Γ l mX10_copies [.ref 284] s1_ (Rv fun s3_ => (C2 Γ l mX10_mowsTo [.ref 284, .int x1] s3_ (Ri fun r6_ s5_ => (C2 Γ l mX10_keeps [.ref 284] s5_ (Rv fun s7_ => (K (some (.int r6_)) s7_)))))))) ∧ (r2_ = 0 → (K (some (.int ((-1)))) s1_))))) : C2 Γ l mX10_mow [.ref 284, .int x1] σ K := by
  refine c2_of (lv := [(0, .ref 284), (1, .int x1)]) (by decide) (Nat.le_of_ble_eq_true rfl) rfl ?_
  refine r_iload_n (dcx dX10_mow_c0 0 rfl) 1 rfl ?_
  refine r_iconst (v := 0) (dcx dX10_mow_c0 1 rfl) rfl ?_
  refine r_bipush (v := 99) (dcx dX10_mow_c0 2 rfl) rfl ?_
  refine s_callS (as := [.int x1, .int 0, .int 99]) (st := []) zX10_in kX10_mow_339 (dcx dX10_mow_c0 3 rfl) rfl rfl (Nat.le_of_ble_eq_true rfl) (C2.mono hyp ?_)
  rintro _ s1_ ⟨r2_, rfl, hyp⟩
  show G2 Γ l mX10_mow 7 [(0, .ref 284), (1, .int x1)] [.int r2_] s1_ K
  refine r_if_ne (tgt := 12) (dcx dX10_mow_c0 4 rfl) (by decide) (fun q_ => ?_) (fun q_ => ?_)
  · have hyp := hyp.1 q_
    refine r_aload_n (dcx dX10_mow_c0 7 rfl) 0 rfl ?_
    refine s_callV (as := []) (st := []) zX10_copies kX10_mow_415 (dcx dX10_mow_c0 8 rfl) rfl rfl (Nat.le_of_ble_eq_true rfl) O284 rfl rfl (C2.mono hyp ?_)
    rintro _ s3_ ⟨rfl, hyp⟩
    show G2 Γ l mX10_mow 16 [(0, .ref 284), (1, .int x1)] [] s3_ K
    refine r_aload_n (dcx dX10_mow_c0 9 rfl) 0 rfl ?_
    refine r_iload_n (dcx dX10_mow_c0 10 rfl) 1 rfl ?_
    refine s_callV (as := [.int x1]) (st := []) zX10_mowsTo kX10_mow_443 (dcx dX10_mow_c0 11 rfl) rfl rfl (Nat.le_of_ble_eq_true rfl) O284 rfl rfl (C2.mono hyp ?_)
    rintro _ s5_ ⟨r6_, rfl, hyp⟩
    show G2 Γ l mX10_mow 21 [(0, .ref 284), (1, .int x1)] [.int r6_] s5_ K
    refine r_istore_n (lv1 := [(2, .int r6_), (0, .ref 284), (1, .int x1)]) (dcx dX10_mow_c0 12 rfl) (Nat.le_of_ble_eq_true rfl) rfl ?_
    refine r_aload_n (dcx dX10_mow_c0 13 rfl) 1 rfl ?_
    refine s_callV (as := []) (st := []) zX10_keeps kX10_mow_434 (dcx dX10_mow_c0 14 rfl) rfl rfl (Nat.le_of_ble_eq_true rfl) O284 rfl rfl (C2.mono hyp ?_)
    rintro _ s7_ ⟨rfl, hyp⟩
    show G2 Γ l mX10_mow 26 [(2, .int r6_), (0, .ref 284), (1, .int x1)] [] s7_ K
    refine r_iload_n (dcx dX10_mow_c0 15 rfl) 0 rfl ?_
    exact s_ret rfl rfl rfl hyp (dcx dX10_mow_c0 16 rfl)
  · have hyp := hyp.2 q_
    refine r_iconst (v := (-1)) (dcx dX10_mow_c0 5 rfl) rfl ?_
    exact s_ret rfl rfl rfl hyp (dcx dX10_mow_c0 6 rfl)
set_option maxHeartbeats 4000000 in
set_option maxRecDepth 20000 in
theorem tX10_weeks {Γ : GE} {l : Launch} {x1 : Int32} {σ : SS} {K : Option Value → SS → Prop}  (hyp : C2 Γ l mX10_in [.int x1, .int 0, .int 60] σ (Ri fun r2_ s1_ => ((¬ r2_ = 0 → ((¬ x1 = 0 → (C2 Γ l mX10_copies [.ref 284] s1_ (Rv fun s3_ => (C2 Γ l mX10_goes [.ref 284, .int x1] s3_ (Rv fun s5_ => (C2 Γ l mX10_keeps [.ref 284] s5_ (Rv fun s7_ => (vp_in 104 106 ∧ (K (some (.int (s7_.1 321 (Int32.toNatClampNeg 104)))) s7_))))))))) ∧ (x1 = 0 → (vp_in 104 106 ∧ (K (some (.int (s1_.1 321 (Int32.toNatClampNeg 104)))) s1_))))) ∧ (r2_ = 0 → (K (some (.int ((-1)))) s1_))))) : C2 Γ l mX10_weeks [.ref 284, .int x1] σ K := by
  refine c2_of (lv := [(0, .ref 284), (1, .int x1)]) (by decide) (Nat.le_of_ble_eq_true rfl) rfl ?_
  refine r_iload_n (dcx dX10_weeks_c0 0 rfl) 1 rfl ?_
  refine r_iconst (v := 0) (dcx dX10_weeks_c0 1 rfl) rfl ?_
  refine r_bipush (v := 60) (dcx dX10_weeks_c0 2 rfl) rfl ?_
  refine s_callS (as := [.int x1, .int 0, .int 60]) (st := []) zX10_in kX10_weeks_339 (dcx dX10_weeks_c0 3 rfl) rfl rfl (Nat.le_of_ble_eq_true rfl) (C2.mono hyp ?_)
  rintro _ s1_ ⟨r2_, rfl, hyp⟩
  show G2 Γ l mX10_weeks 7 [(0, .ref 284), (1, .int x1)] [.int r2_] s1_ K
  refine r_if_ne (tgt := 12) (dcx dX10_weeks_c0 4 rfl) (by decide) (fun q_ => ?_) (fun q_ => ?_)
  · have hyp := hyp.1 q_
    refine r_iload_n (dcx dX10_weeks_c0 7 rfl) 1 rfl ?_
    refine r_if_ne (tgt := 24) (dcx dX10_weeks_c0 8 rfl) (by decide) (fun q_ => ?_) (fun q_ => ?_)
    · have hyp := hyp.1 q_
      refine r_aload_n (dcx dX10_weeks_c0 14 rfl) 0 rfl ?_
      refine s_callV (as := []) (st := []) zX10_copies kX10_weeks_415 (dcx dX10_weeks_c0 15 rfl) rfl rfl (Nat.le_of_ble_eq_true rfl) O284 rfl rfl (C2.mono hyp ?_)
      rintro _ s3_ ⟨rfl, hyp⟩
      show G2 Γ l mX10_weeks 28 [(0, .ref 284), (1, .int x1)] [] s3_ K
      refine r_aload_n (dcx dX10_weeks_c0 16 rfl) 0 rfl ?_
      refine r_iload_n (dcx dX10_weeks_c0 17 rfl) 1 rfl ?_
      refine s_callV (as := [.int x1]) (st := []) zX10_goes kX10_weeks_446 (dcx dX10_weeks_c0 18 rfl) rfl rfl (Nat.le_of_ble_eq_true rfl) O284 rfl rfl (C2.mono hyp ?_)
      rintro _ s5_ ⟨rfl, hyp⟩
      show G2 Γ l mX10_weeks 33 [(0, .ref 284), (1, .int x1)] [] s5_ K
      refine r_aload_n (dcx dX10_weeks_c0 19 rfl) 0 rfl ?_
      refine s_callV (as := []) (st := []) zX10_keeps kX10_weeks_434 (dcx dX10_weeks_c0 20 rfl) rfl rfl (Nat.le_of_ble_eq_true rfl) O284 rfl rfl (C2.mono hyp ?_)
      rintro _ s7_ ⟨rfl, hyp⟩
      show G2 Γ l mX10_weeks 37 [(0, .ref 284), (1, .int x1)] [] s7_ K
      refine r_aload_n (dcx dX10_weeks_c0 21 rfl) 0 rfl ?_
      refine s_getr (b := 321) fX10_128 (dcx dX10_weeks_c0 22 rfl) F284_54 ?_
      refine r_bipush (v := 104) (dcx dX10_weeks_c0 23 rfl) rfl ?_
      obtain ⟨hb_, hyp⟩ := hyp
      refine s_iald (dcx dX10_weeks_c0 24 rfl) A321 hb_ ?_
      exact s_ret rfl rfl rfl hyp (dcx dX10_weeks_c0 25 rfl)
    · have hyp := hyp.2 q_
      refine r_aload_n (dcx dX10_weeks_c0 9 rfl) 0 rfl ?_
      refine s_getr (b := 321) fX10_128 (dcx dX10_weeks_c0 10 rfl) F284_54 ?_
      refine r_bipush (v := 104) (dcx dX10_weeks_c0 11 rfl) rfl ?_
      obtain ⟨hb_, hyp⟩ := hyp
      refine s_iald (dcx dX10_weeks_c0 12 rfl) A321 hb_ ?_
      exact s_ret rfl rfl rfl hyp (dcx dX10_weeks_c0 13 rfl)
  · have hyp := hyp.2 q_
    refine r_iconst (v := (-1)) (dcx dX10_weeks_c0 5 rfl) rfl ?_
    exact s_ret rfl rfl rfl hyp (dcx dX10_weeks_c0 6 rfl)
def wX10_undo_21 (Γ : GE) (l : Launch) (x1 : Int32) (σ : SS) (K : Option Value → SS → Prop) : Prop := G2 Γ l mX10_undo 21 [(0, .ref 284), (1, .int x1)] [] σ K
set_option maxHeartbeats 4000000 in
set_option maxRecDepth 20000 in
theorem tX10_undo {Γ : GE} {l : Launch}  {σ : SS} {K : Option Value → SS → Prop}  (hyp : (¬ (σ.1 284 59) = 0 → (∀ s1_ : SS, s1_ = sI σ 284 59 ((σ.1 284 59) - 1) → (wX10_undo_21 Γ l 0 s1_ K))) ∧ ((σ.1 284 59) = 0 → (K (some (.int 0)) σ))) : C2 Γ l mX10_undo [.ref 284] σ K := by
  refine c2_of (lv := [(0, .ref 284)]) (by decide) (Nat.le_of_ble_eq_true rfl) rfl ?_
  refine r_aload_n (dcx dX10_undo_c0 0 rfl) 0 rfl ?_
  refine s_geti fX10_263 (dcx dX10_undo_c0 1 rfl) F284_59 ?_
  refine r_if_ne (tgt := 9) (dcx dX10_undo_c0 2 rfl) (by decide) (fun q_ => ?_) (fun q_ => ?_)
  · have hyp := hyp.1 q_
    refine r_aload_n (dcx dX10_undo_c0 5 rfl) 0 rfl ?_
    refine r_dup (dcx dX10_undo_c0 6 rfl) rfl ?_
    refine s_geti fX10_263 (dcx dX10_undo_c0 7 rfl) F284_59 ?_
    refine r_iconst (v := 1) (dcx dX10_undo_c0 8 rfl) rfl ?_
    refine r_isub (dcx dX10_undo_c0 9 rfl) ?_
    refine s_puti gX10_263 (dcx dX10_undo_c0 10 rfl) F284_59 ?_
    obtain ⟨s1_, es1_⟩ : ∃ z : SS, z = sI σ 284 59 ((σ.1 284 59) - 1) := ⟨_, rfl⟩
    rw [← es1_]
    have hyp := hyp s1_ es1_
    refine r_iconst (v := 0) (dcx dX10_undo_c0 11 rfl) rfl ?_
    refine r_istore_n (lv1 := [(1, .int 0), (0, .ref 284)]) (dcx dX10_undo_c0 12 rfl) (Nat.le_of_ble_eq_true rfl) rfl ?_
    refine r_loc (lv1 := [(0, .ref 284), (1, .int 0)]) [1, 0] rfl ?_
    exact hyp
  · have hyp := hyp.2 q_
    refine r_iconst (v := 0) (dcx dX10_undo_c0 3 rfl) rfl ?_
    exact s_ret rfl rfl rfl hyp (dcx dX10_undo_c0 4 rfl)
set_option maxHeartbeats 4000000 in
set_option maxRecDepth 20000 in
theorem tX10_undo_21 {Γ : GE} {l : Launch} {x1 : Int32} {σ : SS} {K : Option Value → SS → Prop}  (hyp : ((106 : Int32) ≤ x1 → (K (some (.int 1)) σ)) ∧ (¬ ((106 : Int32) ≤ x1) → (vp_in ((106 * (σ.1 284 59)) + x1) 3180 ∧ (vp_in x1 106 ∧ (∀ s1_ : SS, s1_ = sI σ 321 (Int32.toNatClampNeg x1) (σ.1 325 (Int32.toNatClampNeg ((106 * (σ.1 284 59)) + x1))) → (wX10_undo_21 Γ l (x1 + 1) s1_ K)))))) : wX10_undo_21 Γ l x1 σ K := by
  show G2 Γ l mX10_undo 21 [(0, .ref 284), (1, .int x1)] [] σ K
  refine r_iload_n (dcx dX10_undo_c0 13 rfl) 1 rfl ?_
  refine r_bipush (v := 106) (dcx dX10_undo_c0 14 rfl) rfl ?_
  refine r_icmp_ge (tgt := 53) (dcx dX10_undo_c0 15 rfl) (by decide) (fun q_ => ?_) (fun q_ => ?_)
  · have hyp := hyp.1 q_
    refine r_iconst (v := 1) (dcx dX10_undo_c0 31 rfl) rfl ?_
    exact s_ret rfl rfl rfl hyp (dcx dX10_undo_c0 32 rfl)
  · have hyp := hyp.2 q_
    refine r_aload_n (dcx dX10_undo_c0 16 rfl) 0 rfl ?_
    refine s_getr (b := 321) fX10_128 (dcx dX10_undo_c0 17 rfl) F284_54 ?_
    refine r_iload_n (dcx dX10_undo_c0 18 rfl) 1 rfl ?_
    refine r_aload_n (dcx dX10_undo_c0 19 rfl) 0 rfl ?_
    refine s_getr (b := 325) fX10_140 (dcx dX10_undo_c0 20 rfl) F284_60 ?_
    refine r_bipush (v := 106) (dcx dX10_undo_c0 21 rfl) rfl ?_
    refine r_aload_n (dcx dX10_undo_c0 22 rfl) 0 rfl ?_
    refine s_geti fX10_263 (dcx dX10_undo_c0 23 rfl) F284_59 ?_
    refine r_imul (dcx dX10_undo_c0 24 rfl) ?_
    refine r_iload_n (dcx dX10_undo_c0 25 rfl) 1 rfl ?_
    refine r_iadd (dcx dX10_undo_c0 26 rfl) ?_
    obtain ⟨hb_, hyp⟩ := hyp
    refine s_iald (dcx dX10_undo_c0 27 rfl) A325 hb_ ?_
    obtain ⟨hb_, hyp⟩ := hyp
    refine s_iast (dcx dX10_undo_c0 28 rfl) A321 hb_ ?_
    obtain ⟨s1_, es1_⟩ : ∃ z : SS, z = sI σ 321 (Int32.toNatClampNeg x1) (σ.1 325 (Int32.toNatClampNeg ((106 * (σ.1 284 59)) + x1))) := ⟨_, rfl⟩
    rw [← es1_]
    have hyp := hyp s1_ es1_
    refine r_iinc (lv1 := [(1, .int (x1 + 1)), (0, .ref 284)]) (dcx dX10_undo_c0 29 rfl) 1 rfl (Nat.le_of_ble_eq_true rfl) rfl ?_
    refine r_goto (tgt := 21) (dcx dX10_undo_c0 30 rfl) (by decide) ?_
    refine r_loc (lv1 := [(0, .ref 284), (1, .int (x1 + 1))]) [1, 0] rfl ?_
    exact hyp
def wX10_best_35 (Γ : GE) (l : Launch) (x1 : Int32) (x2 : Int32) (x3 : Int32) (x4 : Int32) (x5 : Int32) (σ : SS) (K : Option Value → SS → Prop) : Prop := G2 Γ l mX10_best 35 [(0, .ref 284), (1, .int x1), (2, .int x2), (3, .int x3), (4, .int x4), (5, .int x5)] [] σ K
def wX10_best_54 (Γ : GE) (l : Launch) (x1 : Int32) (x2 : Int32) (x3 : Int32) (x4 : Int32) (x5 : Int32) (x6 : Int32) (σ : SS) (K : Option Value → SS → Prop) : Prop := G2 Γ l mX10_best 54 [(0, .ref 284), (1, .int x1), (2, .int x2), (3, .int x3), (4, .int x4), (5, .int x5), (6, .int x6)] [] σ K
set_option maxHeartbeats 4000000 in
set_option maxRecDepth 20000 in
theorem tX10_best {Γ : GE} {l : Launch} {x1 : Int32} {x2 : Int32} {σ : SS} {K : Option Value → SS → Prop}  (hyp : C2 Γ l mX10_isSign [.ref 284, .int x1] σ (Ri fun r2_ s1_ => ((r2_ = 0 → (K (some (.int ((-2000)))) s1_)) ∧ (¬ (r2_ = 0) → (C2 Γ l mX10_in [.int x2, .int 0, .int 2] s1_ (Ri fun r4_ s3_ => ((¬ r4_ = 0 → (C2 Γ l mX10_copies [.ref 284] s3_ (Rv fun s5_ => (wX10_best_35 Γ l x1 x2 ((-2000)) ((-1)) 0 s5_ K)))) ∧ (r4_ = 0 → (K (some (.int ((-2000)))) s3_))))))))) : C2 Γ l mX10_best [.ref 284, .int x1, .int x2] σ K := by
  refine c2_of (lv := [(0, .ref 284), (1, .int x1), (2, .int x2)]) (by decide) (Nat.le_of_ble_eq_true rfl) rfl ?_
  refine r_aload_n (dcx dX10_best_c0 0 rfl) 0 rfl ?_
  refine r_iload_n (dcx dX10_best_c0 1 rfl) 1 rfl ?_
  refine s_callV (as := [.int x1]) (st := []) zX10_isSign kX10_best_418 (dcx dX10_best_c0 2 rfl) rfl rfl (Nat.le_of_ble_eq_true rfl) O284 rfl rfl (C2.mono hyp ?_)
  rintro _ s1_ ⟨r2_, rfl, hyp⟩
  show G2 Γ l mX10_best 5 [(0, .ref 284), (1, .int x1), (2, .int x2)] [.int r2_] s1_ K
  refine r_if_eq (tgt := 17) (dcx dX10_best_c0 3 rfl) (by decide) (fun q_ => ?_) (fun q_ => ?_)
  · have hyp := hyp.1 q_
    refine r_sipush (v := (-2000)) (dcx dX10_best_c0 9 rfl) rfl ?_
    exact s_ret rfl rfl rfl hyp (dcx dX10_best_c0 10 rfl)
  · have hyp := hyp.2 q_
    refine r_iload_n (dcx dX10_best_c0 4 rfl) 2 rfl ?_
    refine r_iconst (v := 0) (dcx dX10_best_c0 5 rfl) rfl ?_
    refine r_iconst (v := 2) (dcx dX10_best_c0 6 rfl) rfl ?_
    refine s_callS (as := [.int x2, .int 0, .int 2]) (st := []) zX10_in kX10_best_339 (dcx dX10_best_c0 7 rfl) rfl rfl (Nat.le_of_ble_eq_true rfl) (C2.mono hyp ?_)
    rintro _ s3_ ⟨r4_, rfl, hyp⟩
    show G2 Γ l mX10_best 14 [(0, .ref 284), (1, .int x1), (2, .int x2)] [.int r4_] s3_ K
    refine r_if_ne (tgt := 21) (dcx dX10_best_c0 8 rfl) (by decide) (fun q_ => ?_) (fun q_ => ?_)
    · have hyp := hyp.1 q_
      refine r_aload_n (dcx dX10_best_c0 11 rfl) 0 rfl ?_
      refine s_callV (as := []) (st := []) zX10_copies kX10_best_415 (dcx dX10_best_c0 12 rfl) rfl rfl (Nat.le_of_ble_eq_true rfl) O284 rfl rfl (C2.mono hyp ?_)
      rintro _ s5_ ⟨rfl, hyp⟩
      show G2 Γ l mX10_best 25 [(0, .ref 284), (1, .int x1), (2, .int x2)] [] s5_ K
      refine r_sipush (v := (-2000)) (dcx dX10_best_c0 13 rfl) rfl ?_
      refine r_istore_n (lv1 := [(3, .int ((-2000))), (0, .ref 284), (1, .int x1), (2, .int x2)]) (dcx dX10_best_c0 14 rfl) (Nat.le_of_ble_eq_true rfl) rfl ?_
      refine r_iconst (v := (-1)) (dcx dX10_best_c0 15 rfl) rfl ?_
      refine r_istore (lv1 := [(4, .int ((-1))), (3, .int ((-2000))), (0, .ref 284), (1, .int x1), (2, .int x2)]) (dcx dX10_best_c0 16 rfl) (Nat.le_of_ble_eq_true rfl) rfl ?_
      refine r_iconst (v := 0) (dcx dX10_best_c0 17 rfl) rfl ?_
      refine r_istore (lv1 := [(5, .int 0), (4, .int ((-1))), (3, .int ((-2000))), (0, .ref 284), (1, .int x1), (2, .int x2)]) (dcx dX10_best_c0 18 rfl) (Nat.le_of_ble_eq_true rfl) rfl ?_
      refine r_loc (lv1 := [(0, .ref 284), (1, .int x1), (2, .int x2), (3, .int ((-2000))), (4, .int ((-1))), (5, .int 0)]) [3, 4, 5, 2, 1, 0] rfl ?_
      exact hyp
    · have hyp := hyp.2 q_
      refine r_sipush (v := (-2000)) (dcx dX10_best_c0 9 rfl) rfl ?_
      exact s_ret rfl rfl rfl hyp (dcx dX10_best_c0 10 rfl)
set_option maxHeartbeats 4000000 in
set_option maxRecDepth 20000 in
theorem tX10_best_35 {Γ : GE} {l : Launch} {x1 : Int32} {x2 : Int32} {x3 : Int32} {x4 : Int32} {x5 : Int32} {σ : SS} {K : Option Value → SS → Prop}  (hyp : vp_in (σ.1 284 18) 2 ∧ (((σ.1 295 (Int32.toNatClampNeg (σ.1 284 18))) ≤ (x5 + 2) → ((x4 < 0 → (K (some (.int x3)) σ)) ∧ (¬ (x4 < 0) → ((¬ x2 = 0 → ((¬ x2 = 1 → (K (some (.int (x4 / 10))) σ)) ∧ (x2 = 1 → (K (some (.int (x4 - x4 / 10 * 10))) σ)))) ∧ (x2 = 0 → (K (some (.int x3)) σ)))))) ∧ (¬ ((σ.1 295 (Int32.toNatClampNeg (σ.1 284 18))) ≤ (x5 + 2)) → (wX10_best_54 Γ l x1 x2 x3 x4 x5 0 σ K)))) : wX10_best_35 Γ l x1 x2 x3 x4 x5 σ K := by
  show G2 Γ l mX10_best 35 [(0, .ref 284), (1, .int x1), (2, .int x2), (3, .int x3), (4, .int x4), (5, .int x5)] [] σ K
  refine r_iload (dcx dX10_best_c0 19 rfl) 5 rfl ?_
  refine r_iconst (v := 2) (dcx dX10_best_c0 20 rfl) rfl ?_
  refine r_iadd (dcx dX10_best_c0 21 rfl) ?_
  refine r_aload_n (dcx dX10_best_c0 22 rfl) 0 rfl ?_
  refine s_getr (b := 295) fX10_49 (dcx dX10_best_c0 23 rfl) F284_24 ?_
  refine r_aload_n (dcx dX10_best_c0 24 rfl) 0 rfl ?_
  refine s_geti fX10_245 (dcx dX10_best_c0 25 rfl) F284_18 ?_
  obtain ⟨hb_, hyp⟩ := hyp
  refine s_iald (dcx dX10_best_c0 26 rfl) A295 hb_ ?_
  refine r_icmp_ge (tgt := 115) (dcx dX10_best_c0 27 rfl) (by decide) (fun q_ => ?_) (fun q_ => ?_)
  · have hyp := hyp.1 q_
    refine r_iload (dcx dX10_best_c1 21 rfl) 4 rfl ?_
    refine r_if_lt (tgt := 124) (dcx dX10_best_c1 22 rfl) (by decide) (fun q_ => ?_) (fun q_ => ?_)
    · have hyp := hyp.1 q_
      refine r_iload_n (dcx dX10_best_c1 25 rfl) 3 rfl ?_
      refine r_goto (tgt := 146) (dcx dX10_best_c1 26 rfl) (by decide) ?_
      exact s_ret rfl rfl rfl hyp (dcx dX10_best_c1 37 rfl)
    · have hyp := hyp.2 q_
      refine r_iload_n (dcx dX10_best_c1 23 rfl) 2 rfl ?_
      refine r_if_ne (tgt := 128) (dcx dX10_best_c1 24 rfl) (by decide) (fun q_ => ?_) (fun q_ => ?_)
      · have hyp := hyp.1 q_
        refine r_iload_n (dcx dX10_best_c1 27 rfl) 2 rfl ?_
        refine r_iconst (v := 1) (dcx dX10_best_c1 28 rfl) rfl ?_
        refine r_icmp_ne (tgt := 141) (dcx dX10_best_c1 29 rfl) (by decide) (fun q_ => ?_) (fun q_ => ?_)
        · have hyp := hyp.1 q_
          refine r_iload (dcx dX10_best_c1 34 rfl) 4 rfl ?_
          refine r_bipush (v := 10) (dcx dX10_best_c1 35 rfl) rfl ?_
          refine r_idiv (dcx dX10_best_c1 36 rfl) (by decide) ?_
          exact s_ret rfl rfl rfl hyp (dcx dX10_best_c1 37 rfl)
        · have hyp := hyp.2 q_
          refine r_iload (dcx dX10_best_c1 30 rfl) 4 rfl ?_
          refine r_bipush (v := 10) (dcx dX10_best_c1 31 rfl) rfl ?_
          refine r_irem (dcx dX10_best_c1 32 rfl) (by decide) ?_
          refine r_goto (tgt := 146) (dcx dX10_best_c1 33 rfl) (by decide) ?_
          exact s_ret rfl rfl rfl hyp (dcx dX10_best_c1 37 rfl)
      · have hyp := hyp.2 q_
        refine r_iload_n (dcx dX10_best_c1 25 rfl) 3 rfl ?_
        refine r_goto (tgt := 146) (dcx dX10_best_c1 26 rfl) (by decide) ?_
        exact s_ret rfl rfl rfl hyp (dcx dX10_best_c1 37 rfl)
  · have hyp := hyp.2 q_
    refine r_iconst (v := 0) (dcx dX10_best_c0 28 rfl) rfl ?_
    refine r_istore (lv1 := [(6, .int 0), (0, .ref 284), (1, .int x1), (2, .int x2), (3, .int x3), (4, .int x4), (5, .int x5)]) (dcx dX10_best_c0 29 rfl) (Nat.le_of_ble_eq_true rfl) rfl ?_
    refine r_loc (lv1 := [(0, .ref 284), (1, .int x1), (2, .int x2), (3, .int x3), (4, .int x4), (5, .int x5), (6, .int 0)]) [1, 2, 3, 4, 5, 6, 0] rfl ?_
    exact hyp
set_option maxHeartbeats 4000000 in
set_option maxRecDepth 20000 in
theorem tX10_best_54 {Γ : GE} {l : Launch} {x1 : Int32} {x2 : Int32} {x3 : Int32} {x4 : Int32} {x5 : Int32} {x6 : Int32} {σ : SS} {K : Option Value → SS → Prop}  (hyp : vp_in (σ.1 284 18) 2 ∧ (((σ.1 294 (Int32.toNatClampNeg (σ.1 284 18))) ≤ (x6 + 2) → (wX10_best_35 Γ l x1 x2 x3 x4 (x5 + 1) σ K)) ∧ (¬ ((σ.1 294 (Int32.toNatClampNeg (σ.1 284 18))) ≤ (x6 + 2)) → (C2 Γ l mX10_standsOut [.ref 284, .int x1, .int x6, .int x5] σ (Ri fun r2_ s1_ => ((x3 < r2_ → (wX10_best_54 Γ l x1 x2 r2_ ((10 * x5) + x6) x5 (x6 + 1) s1_ K)) ∧ (¬ (x3 < r2_) → (wX10_best_54 Γ l x1 x2 x3 x4 x5 (x6 + 1) s1_ K)))))))) : wX10_best_54 Γ l x1 x2 x3 x4 x5 x6 σ K := by
  show G2 Γ l mX10_best 54 [(0, .ref 284), (1, .int x1), (2, .int x2), (3, .int x3), (4, .int x4), (5, .int x5), (6, .int x6)] [] σ K
  refine r_iload (dcx dX10_best_c0 30 rfl) 6 rfl ?_
  refine r_iconst (v := 2) (dcx dX10_best_c0 31 rfl) rfl ?_
  refine r_iadd (dcx dX10_best_c0 32 rfl) ?_
  refine r_aload_n (dcx dX10_best_c0 33 rfl) 0 rfl ?_
  refine s_getr (b := 294) fX10_46 (dcx dX10_best_c0 34 rfl) F284_23 ?_
  refine r_aload_n (dcx dX10_best_c0 35 rfl) 0 rfl ?_
  refine s_geti fX10_245 (dcx dX10_best_c0 36 rfl) F284_18 ?_
  obtain ⟨hb_, hyp⟩ := hyp
  refine s_iald (dcx dX10_best_c0 37 rfl) A294 hb_ ?_
  refine r_icmp_ge (tgt := 109) (dcx dX10_best_c0 38 rfl) (by decide) (fun q_ => ?_) (fun q_ => ?_)
  · have hyp := hyp.1 q_
    refine r_iinc (lv1 := [(5, .int (x5 + 1)), (0, .ref 284), (1, .int x1), (2, .int x2), (3, .int x3), (4, .int x4), (6, .int x6)]) (dcx dX10_best_c1 19 rfl) 5 rfl (Nat.le_of_ble_eq_true rfl) rfl ?_
    refine r_goto (tgt := 35) (dcx dX10_best_c1 20 rfl) (by decide) ?_
    refine r_loc (lv1 := [(0, .ref 284), (1, .int x1), (2, .int x2), (3, .int x3), (4, .int x4), (5, .int (x5 + 1))]) [1, 2, 3, 4, 5, 0] rfl ?_
    exact hyp
  · have hyp := hyp.2 q_
    refine r_aload_n (dcx dX10_best_c0 39 rfl) 0 rfl ?_
    refine r_iload_n (dcx dX10_best_c1 0 rfl) 1 rfl ?_
    refine r_iload (dcx dX10_best_c1 1 rfl) 6 rfl ?_
    refine r_iload (dcx dX10_best_c1 2 rfl) 5 rfl ?_
    refine s_callV (as := [.int x1, .int x6, .int x5]) (st := []) zX10_standsOut kX10_best_393 (dcx dX10_best_c1 3 rfl) rfl rfl (Nat.le_of_ble_eq_true rfl) O284 rfl rfl (C2.mono hyp ?_)
    rintro _ s1_ ⟨r2_, rfl, hyp⟩
    show G2 Γ l mX10_best 79 [(0, .ref 284), (1, .int x1), (2, .int x2), (3, .int x3), (4, .int x4), (5, .int x5), (6, .int x6)] [.int r2_] s1_ K
    refine r_istore (lv1 := [(7, .int r2_), (0, .ref 284), (1, .int x1), (2, .int x2), (3, .int x3), (4, .int x4), (5, .int x5), (6, .int x6)]) (dcx dX10_best_c1 4 rfl) (Nat.le_of_ble_eq_true rfl) rfl ?_
    refine r_iload (dcx dX10_best_c1 5 rfl) 0 rfl ?_
    refine r_iload_n (dcx dX10_best_c1 6 rfl) 4 rfl ?_
    refine r_icmp_gt (tgt := 90) (dcx dX10_best_c1 7 rfl) (by decide) (fun q_ => ?_) (fun q_ => ?_)
    · have hyp := hyp.1 q_
      refine r_iload (dcx dX10_best_c1 9 rfl) 0 rfl ?_
      refine r_istore_n (lv1 := [(3, .int r2_), (7, .int r2_), (0, .ref 284), (1, .int x1), (2, .int x2), (4, .int x4), (5, .int x5), (6, .int x6)]) (dcx dX10_best_c1 10 rfl) (Nat.le_of_ble_eq_true rfl) rfl ?_
      refine r_bipush (v := 10) (dcx dX10_best_c1 11 rfl) rfl ?_
      refine r_iload (dcx dX10_best_c1 12 rfl) 6 rfl ?_
      refine r_imul (dcx dX10_best_c1 13 rfl) ?_
      refine r_iload (dcx dX10_best_c1 14 rfl) 7 rfl ?_
      refine r_iadd (dcx dX10_best_c1 15 rfl) ?_
      refine r_istore (lv1 := [(4, .int ((10 * x5) + x6)), (3, .int r2_), (7, .int r2_), (0, .ref 284), (1, .int x1), (2, .int x2), (5, .int x5), (6, .int x6)]) (dcx dX10_best_c1 16 rfl) (Nat.le_of_ble_eq_true rfl) rfl ?_
      refine r_iinc (lv1 := [(6, .int (x6 + 1)), (4, .int ((10 * x5) + x6)), (3, .int r2_), (7, .int r2_), (0, .ref 284), (1, .int x1), (2, .int x2), (5, .int x5)]) (dcx dX10_best_c1 17 rfl) 7 rfl (Nat.le_of_ble_eq_true rfl) rfl ?_
      refine r_goto (tgt := 54) (dcx dX10_best_c1 18 rfl) (by decide) ?_
      refine r_loc (lv1 := [(0, .ref 284), (1, .int x1), (2, .int x2), (3, .int r2_), (4, .int ((10 * x5) + x6)), (5, .int x5), (6, .int (x6 + 1))]) [4, 5, 6, 2, 1, 7, 0] rfl ?_
      exact hyp
    · have hyp := hyp.2 q_
      refine r_goto (tgt := 103) (dcx dX10_best_c1 8 rfl) (by decide) ?_
      refine r_iinc (lv1 := [(6, .int (x6 + 1)), (7, .int r2_), (0, .ref 284), (1, .int x1), (2, .int x2), (3, .int x3), (4, .int x4), (5, .int x5)]) (dcx dX10_best_c1 17 rfl) 7 rfl (Nat.le_of_ble_eq_true rfl) rfl ?_
      refine r_goto (tgt := 54) (dcx dX10_best_c1 18 rfl) (by decide) ?_
      refine r_loc (lv1 := [(0, .ref 284), (1, .int x1), (2, .int x2), (3, .int x3), (4, .int x4), (5, .int x5), (6, .int (x6 + 1))]) [2, 3, 4, 5, 6, 7, 0] rfl ?_
      exact hyp
def wX10_goneIn_3 (Γ : GE) (l : Launch) (x1 : Int32) (x2 : Int32) (x3 : Int32) (x4 : Int32) (σ : SS) (K : Option Value → SS → Prop) : Prop := G2 Γ l mX10_goneIn 3 [(0, .ref 284), (1, .int x1), (2, .int x2), (3, .int x3), (4, .int x4)] [] σ K
set_option maxHeartbeats 4000000 in
set_option maxRecDepth 20000 in
theorem tX10_goneIn {Γ : GE} {l : Launch} {x1 : Int32} {x2 : Int32} {x3 : Int32} {σ : SS} {K : Option Value → SS → Prop}  (hyp : wX10_goneIn_3 Γ l x1 x2 x3 0 σ K) : C2 Γ l mX10_goneIn [.ref 284, .int x1, .int x2, .int x3] σ K := by
  refine c2_of (lv := [(0, .ref 284), (1, .int x1), (2, .int x2), (3, .int x3)]) (by decide) (Nat.le_of_ble_eq_true rfl) rfl ?_
  refine r_iconst (v := 0) (dcx dX10_goneIn_c0 0 rfl) rfl ?_
  refine r_istore (lv1 := [(4, .int 0), (0, .ref 284), (1, .int x1), (2, .int x2), (3, .int x3)]) (dcx dX10_goneIn_c0 1 rfl) (Nat.le_of_ble_eq_true rfl) rfl ?_
  refine r_loc (lv1 := [(0, .ref 284), (1, .int x1), (2, .int x2), (3, .int x3), (4, .int 0)]) [1, 2, 3, 4, 0] rfl ?_
  exact hyp
set_option maxHeartbeats 4000000 in
set_option maxRecDepth 20000 in
theorem tX10_goneIn_3 {Γ : GE} {l : Launch} {x1 : Int32} {x2 : Int32} {x3 : Int32} {x4 : Int32} {σ : SS} {K : Option Value → SS → Prop}  (hyp : ((99 : Int32) < x4 → (K (some (.int 100)) σ)) ∧ (¬ ((99 : Int32) < x4) → (C2 Γ l mX10_anyReads [.ref 284, .int x1, .int x2, .int x3] σ (Ri fun r2_ s1_ => ((¬ r2_ = 0 → (C2 Γ l mX10_grassGrows [.ref 284] s1_ (Rv fun s3_ => (wX10_goneIn_3 Γ l x1 x2 x3 (x4 + 1) s3_ K)))) ∧ (r2_ = 0 → (K (some (.int x4)) s1_))))))) : wX10_goneIn_3 Γ l x1 x2 x3 x4 σ K := by
  show G2 Γ l mX10_goneIn 3 [(0, .ref 284), (1, .int x1), (2, .int x2), (3, .int x3), (4, .int x4)] [] σ K
  refine r_iload (dcx dX10_goneIn_c0 2 rfl) 4 rfl ?_
  refine r_bipush (v := 99) (dcx dX10_goneIn_c0 3 rfl) rfl ?_
  refine r_icmp_gt (tgt := 33) (dcx dX10_goneIn_c0 4 rfl) (by decide) (fun q_ => ?_) (fun q_ => ?_)
  · have hyp := hyp.1 q_
    refine r_bipush (v := 100) (dcx dX10_goneIn_c0 17 rfl) rfl ?_
    exact s_ret rfl rfl rfl hyp (dcx dX10_goneIn_c0 18 rfl)
  · have hyp := hyp.2 q_
    refine r_aload_n (dcx dX10_goneIn_c0 5 rfl) 0 rfl ?_
    refine r_iload_n (dcx dX10_goneIn_c0 6 rfl) 1 rfl ?_
    refine r_iload_n (dcx dX10_goneIn_c0 7 rfl) 2 rfl ?_
    refine r_iload_n (dcx dX10_goneIn_c0 8 rfl) 3 rfl ?_
    refine s_callV (as := [.int x1, .int x2, .int x3]) (st := []) zX10_anyReads kX10_goneIn_449 (dcx dX10_goneIn_c0 9 rfl) rfl rfl (Nat.le_of_ble_eq_true rfl) O284 rfl rfl (C2.mono hyp ?_)
    rintro _ s1_ ⟨r2_, rfl, hyp⟩
    show G2 Γ l mX10_goneIn 17 [(0, .ref 284), (1, .int x1), (2, .int x2), (3, .int x3), (4, .int x4)] [.int r2_] s1_ K
    refine r_if_ne (tgt := 23) (dcx dX10_goneIn_c0 10 rfl) (by decide) (fun q_ => ?_) (fun q_ => ?_)
    · have hyp := hyp.1 q_
      refine r_aload_n (dcx dX10_goneIn_c0 13 rfl) 0 rfl ?_
      refine s_callV (as := []) (st := []) zX10_grassGrows kX10_goneIn_406 (dcx dX10_goneIn_c0 14 rfl) rfl rfl (Nat.le_of_ble_eq_true rfl) O284 rfl rfl (C2.mono hyp ?_)
      rintro _ s3_ ⟨rfl, hyp⟩
      show G2 Γ l mX10_goneIn 27 [(0, .ref 284), (1, .int x1), (2, .int x2), (3, .int x3), (4, .int x4)] [] s3_ K
      refine r_iinc (lv1 := [(4, .int (x4 + 1)), (0, .ref 284), (1, .int x1), (2, .int x2), (3, .int x3)]) (dcx dX10_goneIn_c0 15 rfl) 4 rfl (Nat.le_of_ble_eq_true rfl) rfl ?_
      refine r_goto (tgt := 3) (dcx dX10_goneIn_c0 16 rfl) (by decide) ?_
      refine r_loc (lv1 := [(0, .ref 284), (1, .int x1), (2, .int x2), (3, .int x3), (4, .int (x4 + 1))]) [1, 2, 3, 4, 0] rfl ?_
      exact hyp
    · have hyp := hyp.2 q_
      refine r_iload (dcx dX10_goneIn_c0 11 rfl) 4 rfl ?_
      exact s_ret rfl rfl rfl hyp (dcx dX10_goneIn_c0 12 rfl)
set_option maxHeartbeats 4000000 in
set_option maxRecDepth 20000 in
theorem tX10_gone {Γ : GE} {l : Launch} {x1 : Int32} {x2 : Int32} {x3 : Int32} {σ : SS} {K : Option Value → SS → Prop}  (hyp : C2 Γ l mX10_isSign [.ref 284, .int x1] σ (Ri fun r2_ s1_ => ((r2_ = 0 → (K (some (.int ((-1)))) s1_)) ∧ (¬ (r2_ = 0) → (C2 Γ l mX10_isPlace [.ref 284, .int x2, .int x3] s1_ (Ri fun r4_ s3_ => ((¬ r4_ = 0 → (C2 Γ l mX10_copies [.ref 284] s3_ (Rv fun s5_ => (C2 Γ l mX10_goneIn [.ref 284, .int x1, .int x2, .int x3] s5_ (Ri fun r8_ s7_ => ((¬ r8_ = 100 → (K (some (.int r8_)) s7_)) ∧ (r8_ = 100 → (K (some (.int ((-2)))) s7_)))))))) ∧ (r4_ = 0 → (K (some (.int ((-1)))) s3_))))))))) : C2 Γ l mX10_gone [.ref 284, .int x1, .int x2, .int x3] σ K := by
  refine c2_of (lv := [(0, .ref 284), (1, .int x1), (2, .int x2), (3, .int x3)]) (by decide) (Nat.le_of_ble_eq_true rfl) rfl ?_
  refine r_aload_n (dcx dX10_gone_c0 0 rfl) 0 rfl ?_
  refine r_iload_n (dcx dX10_gone_c0 1 rfl) 1 rfl ?_
  refine s_callV (as := [.int x1]) (st := []) zX10_isSign kX10_gone_418 (dcx dX10_gone_c0 2 rfl) rfl rfl (Nat.le_of_ble_eq_true rfl) O284 rfl rfl (C2.mono hyp ?_)
  rintro _ s1_ ⟨r2_, rfl, hyp⟩
  show G2 Γ l mX10_gone 5 [(0, .ref 284), (1, .int x1), (2, .int x2), (3, .int x3)] [.int r2_] s1_ K
  refine r_if_eq (tgt := 17) (dcx dX10_gone_c0 3 rfl) (by decide) (fun q_ => ?_) (fun q_ => ?_)
  · have hyp := hyp.1 q_
    refine r_iconst (v := (-1)) (dcx dX10_gone_c0 9 rfl) rfl ?_
    exact s_ret rfl rfl rfl hyp (dcx dX10_gone_c0 10 rfl)
  · have hyp := hyp.2 q_
    refine r_aload_n (dcx dX10_gone_c0 4 rfl) 0 rfl ?_
    refine r_iload_n (dcx dX10_gone_c0 5 rfl) 2 rfl ?_
    refine r_iload_n (dcx dX10_gone_c0 6 rfl) 3 rfl ?_
    refine s_callV (as := [.int x2, .int x3]) (st := []) zX10_isPlace kX10_gone_424 (dcx dX10_gone_c0 7 rfl) rfl rfl (Nat.le_of_ble_eq_true rfl) O284 rfl rfl (C2.mono hyp ?_)
    rintro _ s3_ ⟨r4_, rfl, hyp⟩
    show G2 Γ l mX10_gone 14 [(0, .ref 284), (1, .int x1), (2, .int x2), (3, .int x3)] [.int r4_] s3_ K
    refine r_if_ne (tgt := 19) (dcx dX10_gone_c0 8 rfl) (by decide) (fun q_ => ?_) (fun q_ => ?_)
    · have hyp := hyp.1 q_
      refine r_aload_n (dcx dX10_gone_c0 11 rfl) 0 rfl ?_
      refine s_callV (as := []) (st := []) zX10_copies kX10_gone_415 (dcx dX10_gone_c0 12 rfl) rfl rfl (Nat.le_of_ble_eq_true rfl) O284 rfl rfl (C2.mono hyp ?_)
      rintro _ s5_ ⟨rfl, hyp⟩
      show G2 Γ l mX10_gone 23 [(0, .ref 284), (1, .int x1), (2, .int x2), (3, .int x3)] [] s5_ K
      refine r_aload_n (dcx dX10_gone_c0 13 rfl) 0 rfl ?_
      refine r_iload_n (dcx dX10_gone_c0 14 rfl) 1 rfl ?_
      refine r_iload_n (dcx dX10_gone_c0 15 rfl) 2 rfl ?_
      refine r_iload_n (dcx dX10_gone_c0 16 rfl) 3 rfl ?_
      refine s_callV (as := [.int x1, .int x2, .int x3]) (st := []) zX10_goneIn kX10_gone_452 (dcx dX10_gone_c0 17 rfl) rfl rfl (Nat.le_of_ble_eq_true rfl) O284 rfl rfl (C2.mono hyp ?_)
      rintro _ s7_ ⟨r8_, rfl, hyp⟩
      show G2 Γ l mX10_gone 30 [(0, .ref 284), (1, .int x1), (2, .int x2), (3, .int x3)] [.int r8_] s7_ K
      refine r_istore (lv1 := [(4, .int r8_), (0, .ref 284), (1, .int x1), (2, .int x2), (3, .int x3)]) (dcx dX10_gone_c0 18 rfl) (Nat.le_of_ble_eq_true rfl) rfl ?_
      refine r_iload (dcx dX10_gone_c0 19 rfl) 0 rfl ?_
      refine r_bipush (v := 100) (dcx dX10_gone_c0 20 rfl) rfl ?_
      refine r_icmp_ne (tgt := 44) (dcx dX10_gone_c0 21 rfl) (by decide) (fun q_ => ?_) (fun q_ => ?_)
      · have hyp := hyp.1 q_
        refine r_iload (dcx dX10_gone_c0 24 rfl) 0 rfl ?_
        exact s_ret rfl rfl rfl hyp (dcx dX10_gone_c0 25 rfl)
      · have hyp := hyp.2 q_
        refine r_bipush (v := (-2)) (dcx dX10_gone_c0 22 rfl) rfl ?_
        refine r_goto (tgt := 46) (dcx dX10_gone_c0 23 rfl) (by decide) ?_
        exact s_ret rfl rfl rfl hyp (dcx dX10_gone_c0 25 rfl)
    · have hyp := hyp.2 q_
      refine r_iconst (v := (-1)) (dcx dX10_gone_c0 9 rfl) rfl ?_
      exact s_ret rfl rfl rfl hyp (dcx dX10_gone_c0 10 rfl)
set_option maxHeartbeats 4000000 in
set_option maxRecDepth 20000 in
theorem tX10_isThen {Γ : GE} {l : Launch} {x1 : Int32} {x2 : Int32} {x3 : Int32} {x4 : Int32} {x5 : Int32} {x6 : Int32} {σ : SS} {K : Option Value → SS → Prop}  (hyp : C2 Γ l mX10_copies [.ref 284] σ (Rv fun s1_ => (C2 Γ l mX10_grows [.ref 284, .int x4] s1_ (Rv fun s3_ => (C2 Γ l mX10_cuts9 [.ref 284, .int x1, .int x2, .int x3] s3_ (Rv fun s5_ => (C2 Γ l mX10_grows [.ref 284, .int (x5 - x4)] s5_ (Rv fun s7_ => (C2 Γ l mX10_anyReads [.ref 284, .int x1, .int x2, .int x3] s7_ (Ri fun r10_ s9_ => ((¬ r10_ = 0 → (C2 Γ l mX10_grows [.ref 284, .int (x6 - x5)] s9_ (Rv fun s11_ => (C2 Γ l mX10_anyReads [.ref 284, .int x1, .int x2, .int x3] s11_ (Ri fun r14_ s13_ => ((¬ r14_ = 0 → (K (some (.int 0)) s13_)) ∧ (r14_ = 0 → (K (some (.int 1)) s13_)))))))) ∧ (r10_ = 0 → (K (some (.int 0)) s9_))))))))))))) : C2 Γ l mX10_isThen [.ref 284, .int x1, .int x2, .int x3, .int x4, .int x5, .int x6] σ K := by
  refine c2_of (lv := [(0, .ref 284), (1, .int x1), (2, .int x2), (3, .int x3), (4, .int x4), (5, .int x5), (6, .int x6)]) (by decide) (Nat.le_of_ble_eq_true rfl) rfl ?_
  refine r_aload_n (dcx dX10_isThen_c0 0 rfl) 0 rfl ?_
  refine s_callV (as := []) (st := []) zX10_copies kX10_isThen_415 (dcx dX10_isThen_c0 1 rfl) rfl rfl (Nat.le_of_ble_eq_true rfl) O284 rfl rfl (C2.mono hyp ?_)
  rintro _ s1_ ⟨rfl, hyp⟩
  show G2 Γ l mX10_isThen 4 [(0, .ref 284), (1, .int x1), (2, .int x2), (3, .int x3), (4, .int x4), (5, .int x5), (6, .int x6)] [] s1_ K
  refine r_aload_n (dcx dX10_isThen_c0 2 rfl) 0 rfl ?_
  refine r_iload (dcx dX10_isThen_c0 3 rfl) 4 rfl ?_
  refine s_callV (as := [.int x4]) (st := []) zX10_grows kX10_isThen_455 (dcx dX10_isThen_c0 4 rfl) rfl rfl (Nat.le_of_ble_eq_true rfl) O284 rfl rfl (C2.mono hyp ?_)
  rintro _ s3_ ⟨rfl, hyp⟩
  show G2 Γ l mX10_isThen 10 [(0, .ref 284), (1, .int x1), (2, .int x2), (3, .int x3), (4, .int x4), (5, .int x5), (6, .int x6)] [] s3_ K
  refine r_aload_n (dcx dX10_isThen_c0 5 rfl) 0 rfl ?_
  refine r_iload_n (dcx dX10_isThen_c0 6 rfl) 1 rfl ?_
  refine r_iload_n (dcx dX10_isThen_c0 7 rfl) 2 rfl ?_
  refine r_iload_n (dcx dX10_isThen_c0 8 rfl) 3 rfl ?_
  refine s_callV (as := [.int x1, .int x2, .int x3]) (st := []) zX10_cuts9 kX10_isThen_430 (dcx dX10_isThen_c0 9 rfl) rfl rfl (Nat.le_of_ble_eq_true rfl) O284 rfl rfl (C2.mono hyp ?_)
  rintro _ s5_ ⟨rfl, hyp⟩
  show G2 Γ l mX10_isThen 17 [(0, .ref 284), (1, .int x1), (2, .int x2), (3, .int x3), (4, .int x4), (5, .int x5), (6, .int x6)] [] s5_ K
  refine r_aload_n (dcx dX10_isThen_c0 10 rfl) 0 rfl ?_
  refine r_iload (dcx dX10_isThen_c0 11 rfl) 5 rfl ?_
  refine r_iload (dcx dX10_isThen_c0 12 rfl) 4 rfl ?_
  refine r_isub (dcx dX10_isThen_c0 13 rfl) ?_
  refine s_callV (as := [.int (x5 - x4)]) (st := []) zX10_grows kX10_isThen_455 (dcx dX10_isThen_c0 14 rfl) rfl rfl (Nat.le_of_ble_eq_true rfl) O284 rfl rfl (C2.mono hyp ?_)
  rintro _ s7_ ⟨rfl, hyp⟩
  show G2 Γ l mX10_isThen 26 [(0, .ref 284), (1, .int x1), (2, .int x2), (3, .int x3), (4, .int x4), (5, .int x5), (6, .int x6)] [] s7_ K
  refine r_aload_n (dcx dX10_isThen_c0 15 rfl) 0 rfl ?_
  refine r_iload_n (dcx dX10_isThen_c0 16 rfl) 1 rfl ?_
  refine r_iload_n (dcx dX10_isThen_c0 17 rfl) 2 rfl ?_
  refine r_iload_n (dcx dX10_isThen_c0 18 rfl) 3 rfl ?_
  refine s_callV (as := [.int x1, .int x2, .int x3]) (st := []) zX10_anyReads kX10_isThen_449 (dcx dX10_isThen_c0 19 rfl) rfl rfl (Nat.le_of_ble_eq_true rfl) O284 rfl rfl (C2.mono hyp ?_)
  rintro _ s9_ ⟨r10_, rfl, hyp⟩
  show G2 Γ l mX10_isThen 33 [(0, .ref 284), (1, .int x1), (2, .int x2), (3, .int x3), (4, .int x4), (5, .int x5), (6, .int x6)] [.int r10_] s9_ K
  refine r_if_ne (tgt := 38) (dcx dX10_isThen_c0 20 rfl) (by decide) (fun q_ => ?_) (fun q_ => ?_)
  · have hyp := hyp.1 q_
    refine r_aload_n (dcx dX10_isThen_c0 23 rfl) 0 rfl ?_
    refine r_iload (dcx dX10_isThen_c0 24 rfl) 6 rfl ?_
    refine r_iload (dcx dX10_isThen_c0 25 rfl) 5 rfl ?_
    refine r_isub (dcx dX10_isThen_c0 26 rfl) ?_
    refine s_callV (as := [.int (x6 - x5)]) (st := []) zX10_grows kX10_isThen_455 (dcx dX10_isThen_c0 27 rfl) rfl rfl (Nat.le_of_ble_eq_true rfl) O284 rfl rfl (C2.mono hyp ?_)
    rintro _ s11_ ⟨rfl, hyp⟩
    show G2 Γ l mX10_isThen 47 [(0, .ref 284), (1, .int x1), (2, .int x2), (3, .int x3), (4, .int x4), (5, .int x5), (6, .int x6)] [] s11_ K
    refine r_aload_n (dcx dX10_isThen_c0 28 rfl) 0 rfl ?_
    refine r_iload_n (dcx dX10_isThen_c0 29 rfl) 1 rfl ?_
    refine r_iload_n (dcx dX10_isThen_c0 30 rfl) 2 rfl ?_
    refine r_iload_n (dcx dX10_isThen_c0 31 rfl) 3 rfl ?_
    refine s_callV (as := [.int x1, .int x2, .int x3]) (st := []) zX10_anyReads kX10_isThen_449 (dcx dX10_isThen_c0 32 rfl) rfl rfl (Nat.le_of_ble_eq_true rfl) O284 rfl rfl (C2.mono hyp ?_)
    rintro _ s13_ ⟨r14_, rfl, hyp⟩
    show G2 Γ l mX10_isThen 54 [(0, .ref 284), (1, .int x1), (2, .int x2), (3, .int x3), (4, .int x4), (5, .int x5), (6, .int x6)] [.int r14_] s13_ K
    refine r_if_ne (tgt := 61) (dcx dX10_isThen_c0 33 rfl) (by decide) (fun q_ => ?_) (fun q_ => ?_)
    · have hyp := hyp.1 q_
      refine r_iconst (v := 0) (dcx dX10_isThen_c0 36 rfl) rfl ?_
      exact s_ret rfl rfl rfl hyp (dcx dX10_isThen_c0 37 rfl)
    · have hyp := hyp.2 q_
      refine r_iconst (v := 1) (dcx dX10_isThen_c0 34 rfl) rfl ?_
      refine r_goto (tgt := 62) (dcx dX10_isThen_c0 35 rfl) (by decide) ?_
      exact s_ret rfl rfl rfl hyp (dcx dX10_isThen_c0 37 rfl)
  · have hyp := hyp.2 q_
    refine r_iconst (v := 0) (dcx dX10_isThen_c0 21 rfl) rfl ?_
    exact s_ret rfl rfl rfl hyp (dcx dX10_isThen_c0 22 rfl)
def wX10_when_41 (Γ : GE) (l : Launch) (x1 : Int32) (x2 : Int32) (x3 : Int32) (x4 : Int32) (x5 : Int32) (x6 : Int32) (σ : SS) (K : Option Value → SS → Prop) : Prop := G2 Γ l mX10_when 41 [(0, .ref 284), (1, .int x1), (2, .int x2), (3, .int x3), (4, .int x4), (5, .int x5), (6, .int x6)] [] σ K
set_option maxHeartbeats 4000000 in
set_option maxRecDepth 20000 in
theorem tX10_when {Γ : GE} {l : Launch} {x1 : Int32} {x2 : Int32} {x3 : Int32} {x4 : Int32} {x5 : Int32} {σ : SS} {K : Option Value → SS → Prop}  (hyp : C2 Γ l mX10_isSign [.ref 284, .int x1] σ (Ri fun r2_ s1_ => ((r2_ = 0 → (K (some (.int ((-1)))) s1_)) ∧ (¬ (r2_ = 0) → (C2 Γ l mX10_isPlace [.ref 284, .int x2, .int x3] s1_ (Ri fun r4_ s3_ => ((r4_ = 0 → (K (some (.int ((-1)))) s3_)) ∧ (¬ (r4_ = 0) → ((x4 < 0 → (K (some (.int ((-1)))) s3_)) ∧ (¬ (x4 < 0) → ((x5 ≤ x4 → (K (some (.int ((-1)))) s3_)) ∧ (¬ (x5 ≤ x4) → ((x5 ≤ 60 → (wX10_when_41 Γ l x1 x2 x3 x4 x5 0 s3_ K)) ∧ (¬ (x5 ≤ 60) → (K (some (.int ((-1)))) s3_))))))))))))))) : C2 Γ l mX10_when [.ref 284, .int x1, .int x2, .int x3, .int x4, .int x5] σ K := by
  refine c2_of (lv := [(0, .ref 284), (1, .int x1), (2, .int x2), (3, .int x3), (4, .int x4), (5, .int x5)]) (by decide) (Nat.le_of_ble_eq_true rfl) rfl ?_
  refine r_aload_n (dcx dX10_when_c0 0 rfl) 0 rfl ?_
  refine r_iload_n (dcx dX10_when_c0 1 rfl) 1 rfl ?_
  refine s_callV (as := [.int x1]) (st := []) zX10_isSign kX10_when_418 (dcx dX10_when_c0 2 rfl) rfl rfl (Nat.le_of_ble_eq_true rfl) O284 rfl rfl (C2.mono hyp ?_)
  rintro _ s1_ ⟨r2_, rfl, hyp⟩
  show G2 Γ l mX10_when 5 [(0, .ref 284), (1, .int x1), (2, .int x2), (3, .int x3), (4, .int x4), (5, .int x5)] [.int r2_] s1_ K
  refine r_if_eq (tgt := 36) (dcx dX10_when_c0 3 rfl) (by decide) (fun q_ => ?_) (fun q_ => ?_)
  · have hyp := hyp.1 q_
    refine r_iconst (v := (-1)) (dcx dX10_when_c0 17 rfl) rfl ?_
    exact s_ret rfl rfl rfl hyp (dcx dX10_when_c0 18 rfl)
  · have hyp := hyp.2 q_
    refine r_aload_n (dcx dX10_when_c0 4 rfl) 0 rfl ?_
    refine r_iload_n (dcx dX10_when_c0 5 rfl) 2 rfl ?_
    refine r_iload_n (dcx dX10_when_c0 6 rfl) 3 rfl ?_
    refine s_callV (as := [.int x2, .int x3]) (st := []) zX10_isPlace kX10_when_424 (dcx dX10_when_c0 7 rfl) rfl rfl (Nat.le_of_ble_eq_true rfl) O284 rfl rfl (C2.mono hyp ?_)
    rintro _ s3_ ⟨r4_, rfl, hyp⟩
    show G2 Γ l mX10_when 14 [(0, .ref 284), (1, .int x1), (2, .int x2), (3, .int x3), (4, .int x4), (5, .int x5)] [.int r4_] s3_ K
    refine r_if_eq (tgt := 36) (dcx dX10_when_c0 8 rfl) (by decide) (fun q_ => ?_) (fun q_ => ?_)
    · have hyp := hyp.1 q_
      refine r_iconst (v := (-1)) (dcx dX10_when_c0 17 rfl) rfl ?_
      exact s_ret rfl rfl rfl hyp (dcx dX10_when_c0 18 rfl)
    · have hyp := hyp.2 q_
      refine r_iload (dcx dX10_when_c0 9 rfl) 4 rfl ?_
      refine r_if_lt (tgt := 36) (dcx dX10_when_c0 10 rfl) (by decide) (fun q_ => ?_) (fun q_ => ?_)
      · have hyp := hyp.1 q_
        refine r_iconst (v := (-1)) (dcx dX10_when_c0 17 rfl) rfl ?_
        exact s_ret rfl rfl rfl hyp (dcx dX10_when_c0 18 rfl)
      · have hyp := hyp.2 q_
        refine r_iload (dcx dX10_when_c0 11 rfl) 5 rfl ?_
        refine r_iload (dcx dX10_when_c0 12 rfl) 4 rfl ?_
        refine r_icmp_le (tgt := 36) (dcx dX10_when_c0 13 rfl) (by decide) (fun q_ => ?_) (fun q_ => ?_)
        · have hyp := hyp.1 q_
          refine r_iconst (v := (-1)) (dcx dX10_when_c0 17 rfl) rfl ?_
          exact s_ret rfl rfl rfl hyp (dcx dX10_when_c0 18 rfl)
        · have hyp := hyp.2 q_
          refine r_iload (dcx dX10_when_c0 14 rfl) 5 rfl ?_
          refine r_bipush (v := 60) (dcx dX10_when_c0 15 rfl) rfl ?_
          refine r_icmp_le (tgt := 38) (dcx dX10_when_c0 16 rfl) (by decide) (fun q_ => ?_) (fun q_ => ?_)
          · have hyp := hyp.1 q_
            refine r_iconst (v := 0) (dcx dX10_when_c0 19 rfl) rfl ?_
            refine r_istore (lv1 := [(6, .int 0), (0, .ref 284), (1, .int x1), (2, .int x2), (3, .int x3), (4, .int x4), (5, .int x5)]) (dcx dX10_when_c0 20 rfl) (Nat.le_of_ble_eq_true rfl) rfl ?_
            refine r_loc (lv1 := [(0, .ref 284), (1, .int x1), (2, .int x2), (3, .int x3), (4, .int x4), (5, .int x5), (6, .int 0)]) [1, 2, 3, 4, 5, 6, 0] rfl ?_
            exact hyp
          · have hyp := hyp.2 q_
            refine r_iconst (v := (-1)) (dcx dX10_when_c0 17 rfl) rfl ?_
            exact s_ret rfl rfl rfl hyp (dcx dX10_when_c0 18 rfl)
set_option maxHeartbeats 4000000 in
set_option maxRecDepth 20000 in
theorem tX10_when_41 {Γ : GE} {l : Launch} {x1 : Int32} {x2 : Int32} {x3 : Int32} {x4 : Int32} {x5 : Int32} {x6 : Int32} {σ : SS} {K : Option Value → SS → Prop}  (hyp : (x4 < x6 → (K (some (.int ((-2)))) σ)) ∧ (¬ (x4 < x6) → (C2 Γ l mX10_isThen [.ref 284, .int x1, .int x2, .int x3, .int x6, .int x4, .int x5] σ (Ri fun r2_ s1_ => ((r2_ = 0 → (wX10_when_41 Γ l x1 x2 x3 x4 x5 (x6 + 1) s1_ K)) ∧ (¬ (r2_ = 0) → (K (some (.int x6)) s1_))))))) : wX10_when_41 Γ l x1 x2 x3 x4 x5 x6 σ K := by
  show G2 Γ l mX10_when 41 [(0, .ref 284), (1, .int x1), (2, .int x2), (3, .int x3), (4, .int x4), (5, .int x5), (6, .int x6)] [] σ K
  refine r_iload (dcx dX10_when_c0 21 rfl) 6 rfl ?_
  refine r_iload (dcx dX10_when_c0 22 rfl) 4 rfl ?_
  refine r_icmp_gt (tgt := 73) (dcx dX10_when_c0 23 rfl) (by decide) (fun q_ => ?_) (fun q_ => ?_)
  · have hyp := hyp.1 q_
    refine r_bipush (v := (-2)) (dcx dX10_when_c0 37 rfl) rfl ?_
    exact s_ret rfl rfl rfl hyp (dcx dX10_when_c0 38 rfl)
  · have hyp := hyp.2 q_
    refine r_aload_n (dcx dX10_when_c0 24 rfl) 0 rfl ?_
    refine r_iload_n (dcx dX10_when_c0 25 rfl) 1 rfl ?_
    refine r_iload_n (dcx dX10_when_c0 26 rfl) 2 rfl ?_
    refine r_iload_n (dcx dX10_when_c0 27 rfl) 3 rfl ?_
    refine r_iload (dcx dX10_when_c0 28 rfl) 6 rfl ?_
    refine r_iload (dcx dX10_when_c0 29 rfl) 4 rfl ?_
    refine r_iload (dcx dX10_when_c0 30 rfl) 5 rfl ?_
    refine s_callV (as := [.int x1, .int x2, .int x3, .int x6, .int x4, .int x5]) (st := []) zX10_isThen kX10_when_458 (dcx dX10_when_c0 31 rfl) rfl rfl (Nat.le_of_ble_eq_true rfl) O284 rfl rfl (C2.mono hyp ?_)
    rintro _ s1_ ⟨r2_, rfl, hyp⟩
    show G2 Γ l mX10_when 61 [(0, .ref 284), (1, .int x1), (2, .int x2), (3, .int x3), (4, .int x4), (5, .int x5), (6, .int x6)] [.int r2_] s1_ K
    refine r_if_eq (tgt := 67) (dcx dX10_when_c0 32 rfl) (by decide) (fun q_ => ?_) (fun q_ => ?_)
    · have hyp := hyp.1 q_
      refine r_iinc (lv1 := [(6, .int (x6 + 1)), (0, .ref 284), (1, .int x1), (2, .int x2), (3, .int x3), (4, .int x4), (5, .int x5)]) (dcx dX10_when_c0 35 rfl) 6 rfl (Nat.le_of_ble_eq_true rfl) rfl ?_
      refine r_goto (tgt := 41) (dcx dX10_when_c0 36 rfl) (by decide) ?_
      refine r_loc (lv1 := [(0, .ref 284), (1, .int x1), (2, .int x2), (3, .int x3), (4, .int x4), (5, .int x5), (6, .int (x6 + 1))]) [1, 2, 3, 4, 5, 6, 0] rfl ?_
      exact hyp
    · have hyp := hyp.2 q_
      refine r_iload (dcx dX10_when_c0 33 rfl) 6 rfl ?_
      exact s_ret rfl rfl rfl hyp (dcx dX10_when_c0 34 rfl)
def wX10_cuts_87 (Γ : GE) (l : Launch) (x2 : Int32) (x3 : Int32) (x4 : Int32) (x5 : Int32) (x6 : Int32) (x7 : Int32) (σ : SS) (K : Option Value → SS → Prop) : Prop := G2 Γ l mX10_cuts 87 [(0, .ref 284), (2, .int x2), (3, .int x3), (4, .int x4), (5, .int x5), (6, .int x6), (7, .int x7)] [] σ K
set_option maxHeartbeats 4000000 in
set_option maxRecDepth 20000 in
theorem tX10_cuts {Γ : GE} {l : Launch} {x1 : Int32} {x2 : Int32} {x3 : Int32} {x4 : Int32} {σ : SS} {K : Option Value → SS → Prop}  (hyp : C2 Γ l mX10_isWindow [.ref 284, .int x1] σ (Ri fun r2_ s1_ => ((r2_ = 0 → (K (some (.int ((-1)))) s1_)) ∧ (¬ (r2_ = 0) → (C2 Γ l mX10_isSign [.ref 284, .int x2] s1_ (Ri fun r4_ s3_ => ((r4_ = 0 → (K (some (.int ((-1)))) s3_)) ∧ (¬ (r4_ = 0) → (C2 Γ l mX10_isPlace [.ref 284, .int x3, .int x4] s3_ (Ri fun r6_ s5_ => ((¬ r6_ = 0 → (C2 Γ l mX10_copies [.ref 284] s5_ (Rv fun s7_ => (C2 Γ l mX10_leastLeft [.ref 284, .int x2, .int x3, .int x4] s7_ (Ri fun r10_ s9_ => (vp_in ((4 * (s9_.1 284 18)) + x1) 8 ∧ (∀ v11_ : Int32, v11_ = r10_ - (s9_.1 302 (Int32.toNatClampNeg ((4 * (s9_.1 284 18)) + x1))) → (C2 Γ l mX10_isPlain [.ref 284, .int x2] s9_ (Ri fun r13_ s12_ => ((¬ r13_ = 0 → (K (some (.int ((-2)))) s12_)) ∧ (r13_ = 0 → (C2 Γ l mX10_sees [.ref 284, .int x1, .int x3] s12_ (Ri fun r15_ s14_ => ((r15_ = 0 → (K (some (.int ((-2)))) s14_)) ∧ (¬ (r15_ = 0) → (((0 : Int32) ≤ v11_ → (wX10_cuts_87 Γ l x2 x3 x4 v11_ 0 0 s14_ K)) ∧ (¬ ((0 : Int32) ≤ v11_) → (K (some (.int ((-2)))) s14_)))))))))))))))))) ∧ (r6_ = 0 → (K (some (.int ((-1)))) s5_))))))))))))) : C2 Γ l mX10_cuts [.ref 284, .int x1, .int x2, .int x3, .int x4] σ K := by
  refine c2_of (lv := [(0, .ref 284), (1, .int x1), (2, .int x2), (3, .int x3), (4, .int x4)]) (by decide) (Nat.le_of_ble_eq_true rfl) rfl ?_
  refine r_aload_n (dcx dX10_cuts_c0 0 rfl) 0 rfl ?_
  refine r_iload_n (dcx dX10_cuts_c0 1 rfl) 1 rfl ?_
  refine s_callV (as := [.int x1]) (st := []) zX10_isWindow kX10_cuts_421 (dcx dX10_cuts_c0 2 rfl) rfl rfl (Nat.le_of_ble_eq_true rfl) O284 rfl rfl (C2.mono hyp ?_)
  rintro _ s1_ ⟨r2_, rfl, hyp⟩
  show G2 Γ l mX10_cuts 5 [(0, .ref 284), (1, .int x1), (2, .int x2), (3, .int x3), (4, .int x4)] [.int r2_] s1_ K
  refine r_if_eq (tgt := 26) (dcx dX10_cuts_c0 3 rfl) (by decide) (fun q_ => ?_) (fun q_ => ?_)
  · have hyp := hyp.1 q_
    refine r_iconst (v := (-1)) (dcx dX10_cuts_c0 13 rfl) rfl ?_
    exact s_ret rfl rfl rfl hyp (dcx dX10_cuts_c0 14 rfl)
  · have hyp := hyp.2 q_
    refine r_aload_n (dcx dX10_cuts_c0 4 rfl) 0 rfl ?_
    refine r_iload_n (dcx dX10_cuts_c0 5 rfl) 2 rfl ?_
    refine s_callV (as := [.int x2]) (st := []) zX10_isSign kX10_cuts_418 (dcx dX10_cuts_c0 6 rfl) rfl rfl (Nat.le_of_ble_eq_true rfl) O284 rfl rfl (C2.mono hyp ?_)
    rintro _ s3_ ⟨r4_, rfl, hyp⟩
    show G2 Γ l mX10_cuts 13 [(0, .ref 284), (1, .int x1), (2, .int x2), (3, .int x3), (4, .int x4)] [.int r4_] s3_ K
    refine r_if_eq (tgt := 26) (dcx dX10_cuts_c0 7 rfl) (by decide) (fun q_ => ?_) (fun q_ => ?_)
    · have hyp := hyp.1 q_
      refine r_iconst (v := (-1)) (dcx dX10_cuts_c0 13 rfl) rfl ?_
      exact s_ret rfl rfl rfl hyp (dcx dX10_cuts_c0 14 rfl)
    · have hyp := hyp.2 q_
      refine r_aload_n (dcx dX10_cuts_c0 8 rfl) 0 rfl ?_
      refine r_iload_n (dcx dX10_cuts_c0 9 rfl) 3 rfl ?_
      refine r_iload (dcx dX10_cuts_c0 10 rfl) 4 rfl ?_
      refine s_callV (as := [.int x3, .int x4]) (st := []) zX10_isPlace kX10_cuts_424 (dcx dX10_cuts_c0 11 rfl) rfl rfl (Nat.le_of_ble_eq_true rfl) O284 rfl rfl (C2.mono hyp ?_)
      rintro _ s5_ ⟨r6_, rfl, hyp⟩
      show G2 Γ l mX10_cuts 23 [(0, .ref 284), (1, .int x1), (2, .int x2), (3, .int x3), (4, .int x4)] [.int r6_] s5_ K
      refine r_if_ne (tgt := 28) (dcx dX10_cuts_c0 12 rfl) (by decide) (fun q_ => ?_) (fun q_ => ?_)
      · have hyp := hyp.1 q_
        refine r_aload_n (dcx dX10_cuts_c0 15 rfl) 0 rfl ?_
        refine s_callV (as := []) (st := []) zX10_copies kX10_cuts_415 (dcx dX10_cuts_c0 16 rfl) rfl rfl (Nat.le_of_ble_eq_true rfl) O284 rfl rfl (C2.mono hyp ?_)
        rintro _ s7_ ⟨rfl, hyp⟩
        show G2 Γ l mX10_cuts 32 [(0, .ref 284), (1, .int x1), (2, .int x2), (3, .int x3), (4, .int x4)] [] s7_ K
        refine r_aload_n (dcx dX10_cuts_c0 17 rfl) 0 rfl ?_
        refine r_iload_n (dcx dX10_cuts_c0 18 rfl) 2 rfl ?_
        refine r_iload_n (dcx dX10_cuts_c0 19 rfl) 3 rfl ?_
        refine r_iload (dcx dX10_cuts_c0 20 rfl) 4 rfl ?_
        refine s_callV (as := [.int x2, .int x3, .int x4]) (st := []) zX10_leastLeft kX10_cuts_384 (dcx dX10_cuts_c0 21 rfl) rfl rfl (Nat.le_of_ble_eq_true rfl) O284 rfl rfl (C2.mono hyp ?_)
        rintro _ s9_ ⟨r10_, rfl, hyp⟩
        show G2 Γ l mX10_cuts 40 [(0, .ref 284), (1, .int x1), (2, .int x2), (3, .int x3), (4, .int x4)] [.int r10_] s9_ K
        refine r_aload_n (dcx dX10_cuts_c0 22 rfl) 0 rfl ?_
        refine s_getr (b := 302) fX10_71 (dcx dX10_cuts_c0 23 rfl) F284_31 ?_
        refine r_iconst (v := 4) (dcx dX10_cuts_c0 24 rfl) rfl ?_
        refine r_aload_n (dcx dX10_cuts_c0 25 rfl) 0 rfl ?_
        refine s_geti fX10_245 (dcx dX10_cuts_c0 26 rfl) F284_18 ?_
        refine r_imul (dcx dX10_cuts_c0 27 rfl) ?_
        refine r_iload_n (dcx dX10_cuts_c0 28 rfl) 1 rfl ?_
        refine r_iadd (dcx dX10_cuts_c0 29 rfl) ?_
        obtain ⟨hb_, hyp⟩ := hyp
        refine s_iald (dcx dX10_cuts_c0 30 rfl) A302 hb_ ?_
        refine r_isub (dcx dX10_cuts_c0 31 rfl) ?_
        obtain ⟨v11_, ev11_⟩ : ∃ z : Int32, z = r10_ - (s9_.1 302 (Int32.toNatClampNeg ((4 * (s9_.1 284 18)) + x1))) := ⟨_, rfl⟩
        rw [← ev11_]
        have hyp := hyp v11_ ev11_
        refine r_istore (lv1 := [(5, .int v11_), (0, .ref 284), (1, .int x1), (2, .int x2), (3, .int x3), (4, .int x4)]) (dcx dX10_cuts_c0 32 rfl) (Nat.le_of_ble_eq_true rfl) rfl ?_
        refine r_aload_n (dcx dX10_cuts_c0 33 rfl) 1 rfl ?_
        refine r_iload_n (dcx dX10_cuts_c0 34 rfl) 3 rfl ?_
        refine s_callV (as := [.int x2]) (st := []) zX10_isPlain kX10_cuts_381 (dcx dX10_cuts_c0 35 rfl) rfl rfl (Nat.le_of_ble_eq_true rfl) O284 rfl rfl (C2.mono hyp ?_)
        rintro _ s12_ ⟨r13_, rfl, hyp⟩
        show G2 Γ l mX10_cuts 61 [(5, .int v11_), (0, .ref 284), (1, .int x1), (2, .int x2), (3, .int x3), (4, .int x4)] [.int r13_] s12_ K
        refine r_if_ne (tgt := 78) (dcx dX10_cuts_c0 36 rfl) (by decide) (fun q_ => ?_) (fun q_ => ?_)
        · have hyp := hyp.1 q_
          refine r_bipush (v := (-2)) (dcx dX10_cuts_c1 4 rfl) rfl ?_
          exact s_ret rfl rfl rfl hyp (dcx dX10_cuts_c1 5 rfl)
        · have hyp := hyp.2 q_
          refine r_aload_n (dcx dX10_cuts_c0 37 rfl) 1 rfl ?_
          refine r_iload_n (dcx dX10_cuts_c0 38 rfl) 2 rfl ?_
          refine r_iload_n (dcx dX10_cuts_c0 39 rfl) 4 rfl ?_
          refine s_callV (as := [.int x1, .int x3]) (st := []) zX10_sees kX10_cuts_390 (dcx dX10_cuts_c1 0 rfl) rfl rfl (Nat.le_of_ble_eq_true rfl) O284 rfl rfl (C2.mono hyp ?_)
          rintro _ s14_ ⟨r15_, rfl, hyp⟩
          show G2 Γ l mX10_cuts 70 [(5, .int v11_), (0, .ref 284), (1, .int x1), (2, .int x2), (3, .int x3), (4, .int x4)] [.int r15_] s14_ K
          refine r_if_eq (tgt := 78) (dcx dX10_cuts_c1 1 rfl) (by decide) (fun q_ => ?_) (fun q_ => ?_)
          · have hyp := hyp.1 q_
            refine r_bipush (v := (-2)) (dcx dX10_cuts_c1 4 rfl) rfl ?_
            exact s_ret rfl rfl rfl hyp (dcx dX10_cuts_c1 5 rfl)
          · have hyp := hyp.2 q_
            refine r_iload (dcx dX10_cuts_c1 2 rfl) 0 rfl ?_
            refine r_if_ge (tgt := 81) (dcx dX10_cuts_c1 3 rfl) (by decide) (fun q_ => ?_) (fun q_ => ?_)
            · have hyp := hyp.1 q_
              refine r_iconst (v := 0) (dcx dX10_cuts_c1 6 rfl) rfl ?_
              refine r_istore (lv1 := [(6, .int 0), (5, .int v11_), (0, .ref 284), (1, .int x1), (2, .int x2), (3, .int x3), (4, .int x4)]) (dcx dX10_cuts_c1 7 rfl) (Nat.le_of_ble_eq_true rfl) rfl ?_
              refine r_iconst (v := 0) (dcx dX10_cuts_c1 8 rfl) rfl ?_
              refine r_istore (lv1 := [(7, .int 0), (6, .int 0), (5, .int v11_), (0, .ref 284), (1, .int x1), (2, .int x2), (3, .int x3), (4, .int x4)]) (dcx dX10_cuts_c1 9 rfl) (Nat.le_of_ble_eq_true rfl) rfl ?_
              refine r_loc (lv1 := [(0, .ref 284), (2, .int x2), (3, .int x3), (4, .int x4), (5, .int v11_), (6, .int 0), (7, .int 0)]) [3, 5, 6, 7, 2, 1, 0] rfl ?_
              exact hyp
            · have hyp := hyp.2 q_
              refine r_bipush (v := (-2)) (dcx dX10_cuts_c1 4 rfl) rfl ?_
              exact s_ret rfl rfl rfl hyp (dcx dX10_cuts_c1 5 rfl)
      · have hyp := hyp.2 q_
        refine r_iconst (v := (-1)) (dcx dX10_cuts_c0 13 rfl) rfl ?_
        exact s_ret rfl rfl rfl hyp (dcx dX10_cuts_c0 14 rfl)
set_option maxHeartbeats 4000000 in
set_option maxRecDepth 20000 in
theorem tX10_cuts_87 {Γ : GE} {l : Launch} {x2 : Int32} {x3 : Int32} {x4 : Int32} {x5 : Int32} {x6 : Int32} {x7 : Int32} {σ : SS} {K : Option Value → SS → Prop}  (hyp : ((9 : Int32) ≤ x7 → (K (some (.int x6)) σ)) ∧ (¬ ((9 : Int32) ≤ x7) → (vp_in ((9 * ((4 * (σ.1 284 18)) + x2)) + x7) 72 ∧ (((σ.1 298 (Int32.toNatClampNeg ((9 * ((4 * (σ.1 284 18)) + x2)) + x7))) = 0 → (wX10_cuts_87 Γ l x2 x3 x4 x5 x6 (x7 + 1) σ K)) ∧ (¬ ((σ.1 298 (Int32.toNatClampNeg ((9 * ((4 * (σ.1 284 18)) + x2)) + x7))) = 0) → (vp_in (((8 * (x4 + (x7 / 3))) + x3) + (x7 - x7 / 3 * 3)) 106 ∧ (((σ.1 322 (Int32.toNatClampNeg (((8 * (x4 + (x7 / 3))) + x3) + (x7 - x7 / 3 * 3)))) ≤ x5 → (wX10_cuts_87 Γ l x2 x3 x4 x5 x6 (x7 + 1) σ K)) ∧ (¬ ((σ.1 322 (Int32.toNatClampNeg (((8 * (x4 + (x7 / 3))) + x3) + (x7 - x7 / 3 * 3)))) ≤ x5) → (wX10_cuts_87 Γ l x2 x3 x4 x5 (x6 + 1) (x7 + 1) σ K))))))))) : wX10_cuts_87 Γ l x2 x3 x4 x5 x6 x7 σ K := by
  show G2 Γ l mX10_cuts 87 [(0, .ref 284), (2, .int x2), (3, .int x3), (4, .int x4), (5, .int x5), (6, .int x6), (7, .int x7)] [] σ K
  refine r_iload (dcx dX10_cuts_c1 10 rfl) 6 rfl ?_
  refine r_bipush (v := 9) (dcx dX10_cuts_c1 11 rfl) rfl ?_
  refine r_icmp_ge (tgt := 152) (dcx dX10_cuts_c1 12 rfl) (by decide) (fun q_ => ?_) (fun q_ => ?_)
  · have hyp := hyp.1 q_
    refine r_iload (dcx dX10_cuts_c2 8 rfl) 5 rfl ?_
    exact s_ret rfl rfl rfl hyp (dcx dX10_cuts_c2 9 rfl)
  · have hyp := hyp.2 q_
    refine r_aload_n (dcx dX10_cuts_c1 13 rfl) 0 rfl ?_
    refine s_getr (b := 298) fX10_58 (dcx dX10_cuts_c1 14 rfl) F284_27 ?_
    refine r_bipush (v := 9) (dcx dX10_cuts_c1 15 rfl) rfl ?_
    refine r_iconst (v := 4) (dcx dX10_cuts_c1 16 rfl) rfl ?_
    refine r_aload_n (dcx dX10_cuts_c1 17 rfl) 0 rfl ?_
    refine s_geti fX10_245 (dcx dX10_cuts_c1 18 rfl) F284_18 ?_
    refine r_imul (dcx dX10_cuts_c1 19 rfl) ?_
    refine r_iload_n (dcx dX10_cuts_c1 20 rfl) 1 rfl ?_
    refine r_iadd (dcx dX10_cuts_c1 21 rfl) ?_
    refine r_imul (dcx dX10_cuts_c1 22 rfl) ?_
    refine r_iload (dcx dX10_cuts_c1 23 rfl) 6 rfl ?_
    refine r_iadd (dcx dX10_cuts_c1 24 rfl) ?_
    obtain ⟨hb_, hyp⟩ := hyp
    refine s_zald (dcx dX10_cuts_c1 25 rfl) A298 hb_ ?_
    refine r_if_eq (tgt := 146) (dcx dX10_cuts_c1 26 rfl) (by decide) (fun q_ => ?_) (fun q_ => ?_)
    · have hyp := hyp.1 q_
      refine r_iinc (lv1 := [(7, .int (x7 + 1)), (0, .ref 284), (2, .int x2), (3, .int x3), (4, .int x4), (5, .int x5), (6, .int x6)]) (dcx dX10_cuts_c2 6 rfl) 6 rfl (Nat.le_of_ble_eq_true rfl) rfl ?_
      refine r_goto (tgt := 87) (dcx dX10_cuts_c2 7 rfl) (by decide) ?_
      refine r_loc (lv1 := [(0, .ref 284), (2, .int x2), (3, .int x3), (4, .int x4), (5, .int x5), (6, .int x6), (7, .int (x7 + 1))]) [1, 2, 3, 4, 5, 6, 0] rfl ?_
      exact hyp
    · have hyp := hyp.2 q_
      refine r_aload_n (dcx dX10_cuts_c1 27 rfl) 0 rfl ?_
      refine s_getr (b := 322) fX10_131 (dcx dX10_cuts_c1 28 rfl) F284_55 ?_
      refine r_bipush (v := 8) (dcx dX10_cuts_c1 29 rfl) rfl ?_
      refine r_iload (dcx dX10_cuts_c1 30 rfl) 3 rfl ?_
      refine r_iload (dcx dX10_cuts_c1 31 rfl) 6 rfl ?_
      refine r_iconst (v := 3) (dcx dX10_cuts_c1 32 rfl) rfl ?_
      refine r_idiv (dcx dX10_cuts_c1 33 rfl) (by decide) ?_
      refine r_iadd (dcx dX10_cuts_c1 34 rfl) ?_
      refine r_imul (dcx dX10_cuts_c1 35 rfl) ?_
      refine r_iload_n (dcx dX10_cuts_c1 36 rfl) 2 rfl ?_
      refine r_iadd (dcx dX10_cuts_c1 37 rfl) ?_
      refine r_iload (dcx dX10_cuts_c1 38 rfl) 6 rfl ?_
      refine r_iconst (v := 3) (dcx dX10_cuts_c1 39 rfl) rfl ?_
      refine r_irem (dcx dX10_cuts_c2 0 rfl) (by decide) ?_
      refine r_iadd (dcx dX10_cuts_c2 1 rfl) ?_
      obtain ⟨hb_, hyp⟩ := hyp
      refine s_iald (dcx dX10_cuts_c2 2 rfl) A322 hb_ ?_
      refine r_iload (dcx dX10_cuts_c2 3 rfl) 4 rfl ?_
      refine r_icmp_le (tgt := 146) (dcx dX10_cuts_c2 4 rfl) (by decide) (fun q_ => ?_) (fun q_ => ?_)
      · have hyp := hyp.1 q_
        refine r_iinc (lv1 := [(7, .int (x7 + 1)), (0, .ref 284), (2, .int x2), (3, .int x3), (4, .int x4), (5, .int x5), (6, .int x6)]) (dcx dX10_cuts_c2 6 rfl) 6 rfl (Nat.le_of_ble_eq_true rfl) rfl ?_
        refine r_goto (tgt := 87) (dcx dX10_cuts_c2 7 rfl) (by decide) ?_
        refine r_loc (lv1 := [(0, .ref 284), (2, .int x2), (3, .int x3), (4, .int x4), (5, .int x5), (6, .int x6), (7, .int (x7 + 1))]) [1, 2, 3, 4, 5, 6, 0] rfl ?_
        exact hyp
      · have hyp := hyp.2 q_
        refine r_iinc (lv1 := [(6, .int (x6 + 1)), (0, .ref 284), (2, .int x2), (3, .int x3), (4, .int x4), (5, .int x5), (7, .int x7)]) (dcx dX10_cuts_c2 5 rfl) 5 rfl (Nat.le_of_ble_eq_true rfl) rfl ?_
        refine r_iinc (lv1 := [(7, .int (x7 + 1)), (6, .int (x6 + 1)), (0, .ref 284), (2, .int x2), (3, .int x3), (4, .int x4), (5, .int x5)]) (dcx dX10_cuts_c2 6 rfl) 6 rfl (Nat.le_of_ble_eq_true rfl) rfl ?_
        refine r_goto (tgt := 87) (dcx dX10_cuts_c2 7 rfl) (by decide) ?_
        refine r_loc (lv1 := [(0, .ref 284), (2, .int x2), (3, .int x3), (4, .int x4), (5, .int x5), (6, .int (x6 + 1)), (7, .int (x7 + 1))]) [2, 3, 4, 5, 6, 1, 0] rfl ?_
        exact hyp
