set_option maxHeartbeats 4000000 in
set_option maxRecDepth 20000 in
theorem tX1_setOwn {Γ : GE} {l : Launch} {a1 : Nat} {x2 : Int32} {x3 : Int32} {σ : SS} {K : Option Value → SS → Prop} (h1 : isL a1) (hyp : C2 Γ l mX9_indexOf [.int x2, .int x3] σ (Ri fun r2_ s1_ => (vp_in r2_ 80 ∧ (vp_in 0 9 ∧ (∀ s3_ : SS, s3_ = sI s1_ 47 (Int32.toNatClampNeg 0) (s1_.1 (a1 + 1) (Int32.toNatClampNeg r2_)) → (∃ b4_ : Nat, s3_.2.2 46 3 = b4_ ∧ isP b4_ ∧ (vp_in r2_ 80 ∧ (vp_in 1 9 ∧ (∀ s5_ : SS, s5_ = sI s3_ 47 (Int32.toNatClampNeg 1) (s3_.1 (b4_ + 1) (Int32.toNatClampNeg r2_)) → (vp_in 2 9 ∧ (∀ s6_ : SS, s6_ = sI s5_ 47 (Int32.toNatClampNeg 2) (s5_.1 a1 4) → (vp_in 3 9 ∧ (∀ s7_ : SS, s7_ = sI s6_ 47 (Int32.toNatClampNeg 3) 0 → (vp_in r2_ 80 ∧ (vp_in 4 9 ∧ (∀ s8_ : SS, s8_ = sI s7_ 47 (Int32.toNatClampNeg 4) (s7_.1 (a1 + 2) (Int32.toNatClampNeg r2_)) → (vp_in 5 9 ∧ (∀ s9_ : SS, s9_ = sI s8_ 47 (Int32.toNatClampNeg 5) x2 → (vp_in 6 9 ∧ (∀ s10_ : SS, s10_ = sI s9_ 47 (Int32.toNatClampNeg 6) x3 → (vp_in 7 9 ∧ (∀ s11_ : SS, s11_ = sI s10_ 47 (Int32.toNatClampNeg 7) 0 → (vp_in 8 9 ∧ (∀ s12_ : SS, s12_ = sI s11_ 47 (Int32.toNatClampNeg 8) 0 → (K none s12_))))))))))))))))))))))))) : C2 Γ l mX1_setOwn [.ref 46, .ref a1, .int x2, .int x3] σ K := by
  refine c2_of (lv := [(0, .ref 46), (1, .ref a1), (2, .int x2), (3, .int x3)]) (by decide) (Nat.le_of_ble_eq_true rfl) rfl ?_
  refine r_iload_n (dcx dX1_setOwn_c0 0 rfl) 2 rfl ?_
  refine r_iload_n (dcx dX1_setOwn_c0 1 rfl) 3 rfl ?_
  refine s_callSN (as := [.int x2, .int x3]) (st := []) zX9_indexOf kX1_setOwn_43 (dcx dX1_setOwn_c0 2 rfl) rfl rfl (Nat.le_of_ble_eq_true rfl) (C2.mono hyp ?_)
  rintro _ s1_ ⟨r2_, rfl, hyp⟩
  show G2 Γ l mX1_setOwn 5 [(0, .ref 46), (1, .ref a1), (2, .int x2), (3, .int x3)] [.int r2_] s1_ K
  refine r_istore (lv1 := [(4, .int r2_), (0, .ref 46), (1, .ref a1), (2, .int x2), (3, .int x3)]) (dcx dX1_setOwn_c0 3 rfl) (Nat.le_of_ble_eq_true rfl) rfl ?_
  refine r_aload_n (dcx dX1_setOwn_c0 4 rfl) 1 rfl ?_
  refine s_getr (b := 47) fX1_9 (dcx dX1_setOwn_c0 5 rfl) F46_0 ?_
  refine r_iconst (v := 0) (dcx dX1_setOwn_c0 6 rfl) rfl ?_
  refine r_aload_n (dcx dX1_setOwn_c0 7 rfl) 2 rfl ?_
  refine s_getr (b := a1 + 1) fX1_46 (dcx dX1_setOwn_c0 8 rfl) (FL_0 h1) ?_
  refine r_iload (dcx dX1_setOwn_c0 9 rfl) 0 rfl ?_
  obtain ⟨hb_, hyp⟩ := hyp
  refine s_iald (dcx dX1_setOwn_c0 10 rfl) (AL_0 h1) hb_ ?_
  obtain ⟨hb_, hyp⟩ := hyp
  refine s_iast (dcx dX1_setOwn_c0 11 rfl) A47 hb_ ?_
  obtain ⟨s3_, es3_⟩ : ∃ z : SS, z = sI s1_ 47 (Int32.toNatClampNeg 0) (s1_.1 (a1 + 1) (Int32.toNatClampNeg r2_)) := ⟨_, rfl⟩
  rw [← es3_]
  have hyp := hyp s3_ es3_
  refine r_aload_n (dcx dX1_setOwn_c0 12 rfl) 1 rfl ?_
  refine s_getr (b := 47) fX1_9 (dcx dX1_setOwn_c0 13 rfl) F46_0 ?_
  refine r_iconst (v := 1) (dcx dX1_setOwn_c0 14 rfl) rfl ?_
  refine r_aload_n (dcx dX1_setOwn_c0 15 rfl) 1 rfl ?_
  obtain ⟨b4_, eb4_, hb4_, hyp⟩ := hyp
  refine s_getmE fX1_21 (dcx dX1_setOwn_c0 16 rfl) F46_3 eb4_ (nzP hb4_) ?_
  refine s_getr (b := b4_ + 1) fX1_73 (dcx dX1_setOwn_c0 17 rfl) (FP_0 hb4_) ?_
  refine r_iload (dcx dX1_setOwn_c0 18 rfl) 0 rfl ?_
  obtain ⟨hb_, hyp⟩ := hyp
  refine s_iald (dcx dX1_setOwn_c0 19 rfl) (AP_0 hb4_) hb_ ?_
  obtain ⟨hb_, hyp⟩ := hyp
  refine s_iast (dcx dX1_setOwn_c0 20 rfl) A47 hb_ ?_
  obtain ⟨s5_, es5_⟩ : ∃ z : SS, z = sI s3_ 47 (Int32.toNatClampNeg 1) (s3_.1 (b4_ + 1) (Int32.toNatClampNeg r2_)) := ⟨_, rfl⟩
  rw [← es5_]
  have hyp := hyp s5_ es5_
  refine r_aload_n (dcx dX1_setOwn_c0 21 rfl) 1 rfl ?_
  refine s_getr (b := 47) fX1_9 (dcx dX1_setOwn_c0 22 rfl) F46_0 ?_
  refine r_iconst (v := 2) (dcx dX1_setOwn_c0 23 rfl) rfl ?_
  refine r_aload_n (dcx dX1_setOwn_c0 24 rfl) 2 rfl ?_
  refine s_geti fX1_76 (dcx dX1_setOwn_c0 25 rfl) (FL_4 h1) ?_
  obtain ⟨hb_, hyp⟩ := hyp
  refine s_iast (dcx dX1_setOwn_c0 26 rfl) A47 hb_ ?_
  obtain ⟨s6_, es6_⟩ : ∃ z : SS, z = sI s5_ 47 (Int32.toNatClampNeg 2) (s5_.1 a1 4) := ⟨_, rfl⟩
  rw [← es6_]
  have hyp := hyp s6_ es6_
  refine r_aload_n (dcx dX1_setOwn_c0 27 rfl) 1 rfl ?_
  refine s_getr (b := 47) fX1_9 (dcx dX1_setOwn_c0 28 rfl) F46_0 ?_
  refine r_iconst (v := 3) (dcx dX1_setOwn_c0 29 rfl) rfl ?_
  refine r_iconst (v := 0) (dcx dX1_setOwn_c0 30 rfl) rfl ?_
  obtain ⟨hb_, hyp⟩ := hyp
  refine s_iast (dcx dX1_setOwn_c0 31 rfl) A47 hb_ ?_
  obtain ⟨s7_, es7_⟩ : ∃ z : SS, z = sI s6_ 47 (Int32.toNatClampNeg 3) 0 := ⟨_, rfl⟩
  rw [← es7_]
  have hyp := hyp s7_ es7_
  refine r_aload_n (dcx dX1_setOwn_c0 32 rfl) 1 rfl ?_
  refine s_getr (b := 47) fX1_9 (dcx dX1_setOwn_c0 33 rfl) F46_0 ?_
  refine r_iconst (v := 4) (dcx dX1_setOwn_c0 34 rfl) rfl ?_
  refine r_aload_n (dcx dX1_setOwn_c0 35 rfl) 2 rfl ?_
  refine s_getr (b := a1 + 2) fX1_79 (dcx dX1_setOwn_c0 36 rfl) (FL_1 h1) ?_
  refine r_iload (dcx dX1_setOwn_c0 37 rfl) 0 rfl ?_
  obtain ⟨hb_, hyp⟩ := hyp
  refine s_iald (dcx dX1_setOwn_c0 38 rfl) (AL_1 h1) hb_ ?_
  obtain ⟨hb_, hyp⟩ := hyp
  refine s_iast (dcx dX1_setOwn_c0 39 rfl) A47 hb_ ?_
  obtain ⟨s8_, es8_⟩ : ∃ z : SS, z = sI s7_ 47 (Int32.toNatClampNeg 4) (s7_.1 (a1 + 2) (Int32.toNatClampNeg r2_)) := ⟨_, rfl⟩
  rw [← es8_]
  have hyp := hyp s8_ es8_
  refine r_aload_n (dcx dX1_setOwn_c1 0 rfl) 1 rfl ?_
  refine s_getr (b := 47) fX1_9 (dcx dX1_setOwn_c1 1 rfl) F46_0 ?_
  refine r_iconst (v := 5) (dcx dX1_setOwn_c1 2 rfl) rfl ?_
  refine r_iload_n (dcx dX1_setOwn_c1 3 rfl) 3 rfl ?_
  obtain ⟨hb_, hyp⟩ := hyp
  refine s_iast (dcx dX1_setOwn_c1 4 rfl) A47 hb_ ?_
  obtain ⟨s9_, es9_⟩ : ∃ z : SS, z = sI s8_ 47 (Int32.toNatClampNeg 5) x2 := ⟨_, rfl⟩
  rw [← es9_]
  have hyp := hyp s9_ es9_
  refine r_aload_n (dcx dX1_setOwn_c1 5 rfl) 1 rfl ?_
  refine s_getr (b := 47) fX1_9 (dcx dX1_setOwn_c1 6 rfl) F46_0 ?_
  refine r_bipush (v := 6) (dcx dX1_setOwn_c1 7 rfl) rfl ?_
  refine r_iload_n (dcx dX1_setOwn_c1 8 rfl) 4 rfl ?_
  obtain ⟨hb_, hyp⟩ := hyp
  refine s_iast (dcx dX1_setOwn_c1 9 rfl) A47 hb_ ?_
  obtain ⟨s10_, es10_⟩ : ∃ z : SS, z = sI s9_ 47 (Int32.toNatClampNeg 6) x3 := ⟨_, rfl⟩
  rw [← es10_]
  have hyp := hyp s10_ es10_
  refine r_aload_n (dcx dX1_setOwn_c1 10 rfl) 1 rfl ?_
  refine s_getr (b := 47) fX1_9 (dcx dX1_setOwn_c1 11 rfl) F46_0 ?_
  refine r_bipush (v := 7) (dcx dX1_setOwn_c1 12 rfl) rfl ?_
  refine r_iconst (v := 0) (dcx dX1_setOwn_c1 13 rfl) rfl ?_
  obtain ⟨hb_, hyp⟩ := hyp
  refine s_iast (dcx dX1_setOwn_c1 14 rfl) A47 hb_ ?_
  obtain ⟨s11_, es11_⟩ : ∃ z : SS, z = sI s10_ 47 (Int32.toNatClampNeg 7) 0 := ⟨_, rfl⟩
  rw [← es11_]
  have hyp := hyp s11_ es11_
  refine r_aload_n (dcx dX1_setOwn_c1 15 rfl) 1 rfl ?_
  refine s_getr (b := 47) fX1_9 (dcx dX1_setOwn_c1 16 rfl) F46_0 ?_
  refine r_bipush (v := 8) (dcx dX1_setOwn_c1 17 rfl) rfl ?_
  refine r_iconst (v := 0) (dcx dX1_setOwn_c1 18 rfl) rfl ?_
  obtain ⟨hb_, hyp⟩ := hyp
  refine s_iast (dcx dX1_setOwn_c1 19 rfl) A47 hb_ ?_
  obtain ⟨s12_, es12_⟩ : ∃ z : SS, z = sI s11_ 47 (Int32.toNatClampNeg 8) 0 := ⟨_, rfl⟩
  rw [← es12_]
  have hyp := hyp s12_ es12_
  exact s_vret rfl hyp (dcx dX1_setOwn_c1 20 rfl)
set_option maxHeartbeats 4000000 in
set_option maxRecDepth 20000 in
theorem tX1_giveFood {Γ : GE} {l : Launch} {a1 : Nat} {x2 : Int32} {x3 : Int32} {σ : SS} {K : Option Value → SS → Prop} (h1 : isL a1) (hyp : C2 Γ l mX1_setOwn [.ref 46, .ref a1, .int x2, .int x3] σ (Rv fun s1_ => (C2 Γ l mX9_indexOf [.int x2, .int x3] s1_ (Ri fun r4_ s3_ => (vp_in r4_ 80 ∧ (∃ b5_ : Nat, s3_.2.2 46 3 = b5_ ∧ isP b5_ ∧ (C2 Γ l mX2_worth [.ref (b5_ + 12), .ref 47] s3_ (Ri fun r7_ s6_ => (C2 Γ l mX9_held [.int r7_, .int 0, .int 9] s6_ (Ri fun r9_ s8_ => (vp_in r4_ 80 ∧ (∀ s10_ : SS, s10_ = sI s8_ (a1 + 2) (Int32.toNatClampNeg r4_) (imn (99 : Int32) ((s3_.1 (a1 + 2) (Int32.toNatClampNeg r4_)) + r9_)) → (K none s10_))))))))))))) : C2 Γ l mX1_giveFood [.ref 46, .ref a1, .int x2, .int x3] σ K := by
  refine c2_of (lv := [(0, .ref 46), (1, .ref a1), (2, .int x2), (3, .int x3)]) (by decide) (Nat.le_of_ble_eq_true rfl) rfl ?_
  refine r_aload_n (dcx dX1_giveFood_c0 0 rfl) 0 rfl ?_
  refine r_aload_n (dcx dX1_giveFood_c0 1 rfl) 1 rfl ?_
  refine r_iload_n (dcx dX1_giveFood_c0 2 rfl) 2 rfl ?_
  refine r_iload_n (dcx dX1_giveFood_c0 3 rfl) 3 rfl ?_
  refine s_callV (as := [.ref a1, .int x2, .int x3]) (st := []) zX1_setOwn kX1_giveFood_51 (dcx dX1_giveFood_c0 4 rfl) rfl rfl (Nat.le_of_ble_eq_true rfl) O46 rfl rfl (C2.mono hyp ?_)
  rintro _ s1_ ⟨rfl, hyp⟩
  show G2 Γ l mX1_giveFood 7 [(0, .ref 46), (1, .ref a1), (2, .int x2), (3, .int x3)] [] s1_ K
  refine r_iload_n (dcx dX1_giveFood_c0 5 rfl) 2 rfl ?_
  refine r_iload_n (dcx dX1_giveFood_c0 6 rfl) 3 rfl ?_
  refine s_callSN (as := [.int x2, .int x3]) (st := []) zX9_indexOf kX1_giveFood_43 (dcx dX1_giveFood_c0 7 rfl) rfl rfl (Nat.le_of_ble_eq_true rfl) (C2.mono hyp ?_)
  rintro _ s3_ ⟨r4_, rfl, hyp⟩
  show G2 Γ l mX1_giveFood 12 [(0, .ref 46), (1, .ref a1), (2, .int x2), (3, .int x3)] [.int r4_] s3_ K
  refine r_istore (lv1 := [(4, .int r4_), (0, .ref 46), (1, .ref a1), (2, .int x2), (3, .int x3)]) (dcx dX1_giveFood_c0 8 rfl) (Nat.le_of_ble_eq_true rfl) rfl ?_
  refine r_aload_n (dcx dX1_giveFood_c0 9 rfl) 2 rfl ?_
  refine s_getr (b := a1 + 2) fX1_79 (dcx dX1_giveFood_c0 10 rfl) (FL_1 h1) ?_
  refine r_iload (dcx dX1_giveFood_c0 11 rfl) 0 rfl ?_
  refine r_bipush (v := 99) (dcx dX1_giveFood_c0 12 rfl) rfl ?_
  refine r_aload_n (dcx dX1_giveFood_c0 13 rfl) 2 rfl ?_
  refine s_getr (b := a1 + 2) fX1_79 (dcx dX1_giveFood_c0 14 rfl) (FL_1 h1) ?_
  refine r_iload (dcx dX1_giveFood_c0 15 rfl) 0 rfl ?_
  obtain ⟨hb_, hyp⟩ := hyp
  refine s_iald (dcx dX1_giveFood_c0 16 rfl) (AL_1 h1) hb_ ?_
  refine r_aload_n (dcx dX1_giveFood_c0 17 rfl) 1 rfl ?_
  obtain ⟨b5_, eb5_, hb5_, hyp⟩ := hyp
  refine s_getmE fX1_21 (dcx dX1_giveFood_c0 18 rfl) F46_3 eb5_ (nzP hb5_) ?_
  refine s_getr (b := b5_ + 12) fX1_82 (dcx dX1_giveFood_c0 19 rfl) (FP_9 hb5_) ?_
  refine r_aload_n (dcx dX1_giveFood_c0 20 rfl) 1 rfl ?_
  refine s_getr (b := 47) fX1_9 (dcx dX1_giveFood_c0 21 rfl) F46_0 ?_
  refine s_callV (as := [.ref 47]) (st := [.int (s3_.1 (a1 + 2) (Int32.toNatClampNeg r4_)), .int 99, .int r4_, .ref (a1 + 2)]) zX2_worth kX1_giveFood_64 (dcx dX1_giveFood_c0 22 rfl) rfl rfl (Nat.le_of_ble_eq_true rfl) (OW (IP_9 hb5_)) rfl rfl (C2.mono hyp ?_)
  rintro _ s6_ ⟨r7_, rfl, hyp⟩
  show G2 Γ l mX1_giveFood 43 [(4, .int r4_), (0, .ref 46), (1, .ref a1), (2, .int x2), (3, .int x3)] [.int r7_, .int (s3_.1 (a1 + 2) (Int32.toNatClampNeg r4_)), .int 99, .int r4_, .ref (a1 + 2)] s6_ K
  refine r_iconst (v := 0) (dcx dX1_giveFood_c0 23 rfl) rfl ?_
  refine r_bipush (v := 9) (dcx dX1_giveFood_c0 24 rfl) rfl ?_
  refine s_callSN (as := [.int r7_, .int 0, .int 9]) (st := [.int (s3_.1 (a1 + 2) (Int32.toNatClampNeg r4_)), .int 99, .int r4_, .ref (a1 + 2)]) zX9_held kX1_giveFood_70 (dcx dX1_giveFood_c0 25 rfl) rfl rfl (Nat.le_of_ble_eq_true rfl) (C2.mono hyp ?_)
  rintro _ s8_ ⟨r9_, rfl, hyp⟩
  show G2 Γ l mX1_giveFood 49 [(4, .int r4_), (0, .ref 46), (1, .ref a1), (2, .int x2), (3, .int x3)] [.int r9_, .int (s3_.1 (a1 + 2) (Int32.toNatClampNeg r4_)), .int 99, .int r4_, .ref (a1 + 2)] s8_ K
  refine r_iadd (dcx dX1_giveFood_c0 26 rfl) ?_
  refine r_min q912 q611 q16 q612 (by decide) (Nat.le_of_ble_eq_true rfl) (Nat.zero_le _) (Nat.zero_le _) (dcx dX1_giveFood_c0 27 rfl) ?_
  obtain ⟨hb_, hyp⟩ := hyp
  refine s_iast (dcx dX1_giveFood_c0 28 rfl) (AL_1 h1) hb_ ?_
  obtain ⟨s10_, es10_⟩ : ∃ z : SS, z = sI s8_ (a1 + 2) (Int32.toNatClampNeg r4_) (imn (99 : Int32) ((s3_.1 (a1 + 2) (Int32.toNatClampNeg r4_)) + r9_)) := ⟨_, rfl⟩
  rw [← es10_]
  have hyp := hyp s10_ es10_
  exact s_vret rfl hyp (dcx dX1_giveFood_c0 29 rfl)
def wX1_fineFor_3 (Γ : GE) (l : Launch) (a1 : Nat) (x2 : Int32) (x3 : Int32) (x4 : Int32) (x5 : Int32) (σ : SS) (K : Option Value → SS → Prop) : Prop := G2 Γ l mX1_fineFor 3 [(0, .ref 46), (1, .ref a1), (2, .int x2), (3, .int x3), (4, .int x4), (5, .int x5)] [] σ K
set_option maxHeartbeats 4000000 in
set_option maxRecDepth 20000 in
theorem tX1_fineFor {Γ : GE} {l : Launch} {a1 : Nat} {x2 : Int32} {x3 : Int32} {x4 : Int32} {σ : SS} {K : Option Value → SS → Prop} (h1 : isL a1) (hyp : wX1_fineFor_3 Γ l a1 x2 x3 x4 0 σ K) : C2 Γ l mX1_fineFor [.ref 46, .ref a1, .int x2, .int x3, .int x4] σ K := by
  refine c2_of (lv := [(0, .ref 46), (1, .ref a1), (2, .int x2), (3, .int x3), (4, .int x4)]) (by decide) (Nat.le_of_ble_eq_true rfl) rfl ?_
  refine r_iconst (v := 0) (dcx dX1_fineFor_c0 0 rfl) rfl ?_
  refine r_istore (lv1 := [(5, .int 0), (0, .ref 46), (1, .ref a1), (2, .int x2), (3, .int x3), (4, .int x4)]) (dcx dX1_fineFor_c0 1 rfl) (Nat.le_of_ble_eq_true rfl) rfl ?_
  refine r_loc (lv1 := [(0, .ref 46), (1, .ref a1), (2, .int x2), (3, .int x3), (4, .int x4), (5, .int 0)]) [1, 2, 3, 4, 5, 0] rfl ?_
  exact hyp
set_option maxHeartbeats 4000000 in
set_option maxRecDepth 20000 in
theorem tX1_fineFor_3 {Γ : GE} {l : Launch} {a1 : Nat} {x2 : Int32} {x3 : Int32} {x4 : Int32} {x5 : Int32} {σ : SS} {K : Option Value → SS → Prop} (h1 : isL a1) (hyp : ((9 : Int32) ≤ x5 → (vp_in 2 9 ∧ (∀ s1_ : SS, s1_ = sI σ 47 (Int32.toNatClampNeg 2) (σ.1 a1 4) → (vp_in 5 9 ∧ (∀ s2_ : SS, s2_ = sI s1_ 47 (Int32.toNatClampNeg 5) x3 → (vp_in 6 9 ∧ (∀ s3_ : SS, s3_ = sI s2_ 47 (Int32.toNatClampNeg 6) x4 → (∃ b4_ : Nat, s3_.2.2 46 3 = b4_ ∧ isP b4_ ∧ (vp_in x2 4 ∧ (C2 Γ l mJ6_bitCount_0f7a4 [.int (s3_.1 (b4_ + 3) (Int32.toNatClampNeg x2))] s3_ (Ri fun r6_ s5_ => (vp_in 8 9 ∧ (∀ s7_ : SS, s7_ = sI s5_ 47 (Int32.toNatClampNeg 8) r6_ → (∃ b8_ : Nat, s7_.2.2 46 3 = b8_ ∧ isP b8_ ∧ (C2 Γ l mX2_worth [.ref (b8_ + 15), .ref 47] s7_ (Ri fun r10_ s9_ => (C2 Γ l mX9_held [.int r10_, .int 0, .int 99] s9_ (Ri fun r12_ s11_ => (K (some (.int r12_)) s11_))))))))))))))))))) ∧ (¬ ((9 : Int32) ≤ x5) → (vp_in x5 9 ∧ (∀ s13_ : SS, s13_ = sI σ 47 (Int32.toNatClampNeg x5) 0 → (wX1_fineFor_3 Γ l a1 x2 x3 x4 (x5 + 1) s13_ K))))) : wX1_fineFor_3 Γ l a1 x2 x3 x4 x5 σ K := by
  show G2 Γ l mX1_fineFor 3 [(0, .ref 46), (1, .ref a1), (2, .int x2), (3, .int x3), (4, .int x4), (5, .int x5)] [] σ K
  refine r_iload (dcx dX1_fineFor_c0 2 rfl) 5 rfl ?_
  refine r_bipush (v := 9) (dcx dX1_fineFor_c0 3 rfl) rfl ?_
  refine r_icmp_ge (tgt := 24) (dcx dX1_fineFor_c0 4 rfl) (by decide) (fun q_ => ?_) (fun q_ => ?_)
  · have hyp := hyp.1 q_
    refine r_aload_n (dcx dX1_fineFor_c0 12 rfl) 0 rfl ?_
    refine s_getr (b := 47) fX1_9 (dcx dX1_fineFor_c0 13 rfl) F46_0 ?_
    refine r_iconst (v := 2) (dcx dX1_fineFor_c0 14 rfl) rfl ?_
    refine r_aload_n (dcx dX1_fineFor_c0 15 rfl) 1 rfl ?_
    refine s_geti fX1_76 (dcx dX1_fineFor_c0 16 rfl) (FL_4 h1) ?_
    obtain ⟨hb_, hyp⟩ := hyp
    refine s_iast (dcx dX1_fineFor_c0 17 rfl) A47 hb_ ?_
    obtain ⟨s1_, es1_⟩ : ∃ z : SS, z = sI σ 47 (Int32.toNatClampNeg 2) (σ.1 a1 4) := ⟨_, rfl⟩
    rw [← es1_]
    have hyp := hyp s1_ es1_
    refine r_aload_n (dcx dX1_fineFor_c0 18 rfl) 0 rfl ?_
    refine s_getr (b := 47) fX1_9 (dcx dX1_fineFor_c0 19 rfl) F46_0 ?_
    refine r_iconst (v := 5) (dcx dX1_fineFor_c0 20 rfl) rfl ?_
    refine r_iload_n (dcx dX1_fineFor_c0 21 rfl) 3 rfl ?_
    obtain ⟨hb_, hyp⟩ := hyp
    refine s_iast (dcx dX1_fineFor_c0 22 rfl) A47 hb_ ?_
    obtain ⟨s2_, es2_⟩ : ∃ z : SS, z = sI s1_ 47 (Int32.toNatClampNeg 5) x3 := ⟨_, rfl⟩
    rw [← es2_]
    have hyp := hyp s2_ es2_
    refine r_aload_n (dcx dX1_fineFor_c0 23 rfl) 0 rfl ?_
    refine s_getr (b := 47) fX1_9 (dcx dX1_fineFor_c0 24 rfl) F46_0 ?_
    refine r_bipush (v := 6) (dcx dX1_fineFor_c0 25 rfl) rfl ?_
    refine r_iload (dcx dX1_fineFor_c0 26 rfl) 4 rfl ?_
    obtain ⟨hb_, hyp⟩ := hyp
    refine s_iast (dcx dX1_fineFor_c0 27 rfl) A47 hb_ ?_
    obtain ⟨s3_, es3_⟩ : ∃ z : SS, z = sI s2_ 47 (Int32.toNatClampNeg 6) x4 := ⟨_, rfl⟩
    rw [← es3_]
    have hyp := hyp s3_ es3_
    refine r_aload_n (dcx dX1_fineFor_c0 28 rfl) 0 rfl ?_
    refine s_getr (b := 47) fX1_9 (dcx dX1_fineFor_c0 29 rfl) F46_0 ?_
    refine r_bipush (v := 8) (dcx dX1_fineFor_c0 30 rfl) rfl ?_
    refine r_aload_n (dcx dX1_fineFor_c0 31 rfl) 0 rfl ?_
    obtain ⟨b4_, eb4_, hb4_, hyp⟩ := hyp
    refine s_getmE fX1_21 (dcx dX1_fineFor_c0 32 rfl) F46_3 eb4_ (nzP hb4_) ?_
    refine s_getr (b := b4_ + 3) fX1_88 (dcx dX1_fineFor_c0 33 rfl) (FP_2 hb4_) ?_
    refine r_iload_n (dcx dX1_fineFor_c0 34 rfl) 2 rfl ?_
    obtain ⟨hb_, hyp⟩ := hyp
    refine s_iald (dcx dX1_fineFor_c0 35 rfl) (AP_2 hb4_) hb_ ?_
    refine s_callS (as := [.int (s3_.1 (b4_ + 3) (Int32.toNatClampNeg x2))]) (st := [.int 8, .ref 47]) zJ6_bitCount_0f7a4 kX1_fineFor_91 (dcx dX1_fineFor_c0 36 rfl) rfl rfl (Nat.le_of_ble_eq_true rfl) (C2.mono hyp ?_)
    rintro _ s5_ ⟨r6_, rfl, hyp⟩
    show G2 Γ l mX1_fineFor 68 [(0, .ref 46), (1, .ref a1), (2, .int x2), (3, .int x3), (4, .int x4), (5, .int x5)] [.int r6_, .int 8, .ref 47] s5_ K
    obtain ⟨hb_, hyp⟩ := hyp
    refine s_iast (dcx dX1_fineFor_c0 37 rfl) A47 hb_ ?_
    obtain ⟨s7_, es7_⟩ : ∃ z : SS, z = sI s5_ 47 (Int32.toNatClampNeg 8) r6_ := ⟨_, rfl⟩
    rw [← es7_]
    have hyp := hyp s7_ es7_
    refine r_aload_n (dcx dX1_fineFor_c0 38 rfl) 0 rfl ?_
    obtain ⟨b8_, eb8_, hb8_, hyp⟩ := hyp
    refine s_getmE fX1_21 (dcx dX1_fineFor_c0 39 rfl) F46_3 eb8_ (nzP hb8_) ?_
    refine s_getr (b := b8_ + 15) fX1_97 (dcx dX1_fineFor_c1 0 rfl) (FP_10 hb8_) ?_
    refine r_aload_n (dcx dX1_fineFor_c1 1 rfl) 0 rfl ?_
    refine s_getr (b := 47) fX1_9 (dcx dX1_fineFor_c1 2 rfl) F46_0 ?_
    refine s_callV (as := [.ref 47]) (st := []) zX2_worth kX1_fineFor_64 (dcx dX1_fineFor_c1 3 rfl) rfl rfl (Nat.le_of_ble_eq_true rfl) (OW (IP_10 hb8_)) rfl rfl (C2.mono hyp ?_)
    rintro _ s9_ ⟨r10_, rfl, hyp⟩
    show G2 Γ l mX1_fineFor 83 [(0, .ref 46), (1, .ref a1), (2, .int x2), (3, .int x3), (4, .int x4), (5, .int x5)] [.int r10_] s9_ K
    refine r_iconst (v := 0) (dcx dX1_fineFor_c1 4 rfl) rfl ?_
    refine r_bipush (v := 99) (dcx dX1_fineFor_c1 5 rfl) rfl ?_
    refine s_callSN (as := [.int r10_, .int 0, .int 99]) (st := []) zX9_held kX1_fineFor_70 (dcx dX1_fineFor_c1 6 rfl) rfl rfl (Nat.le_of_ble_eq_true rfl) (C2.mono hyp ?_)
    rintro _ s11_ ⟨r12_, rfl, hyp⟩
    show G2 Γ l mX1_fineFor 89 [(0, .ref 46), (1, .ref a1), (2, .int x2), (3, .int x3), (4, .int x4), (5, .int x5)] [.int r12_] s11_ K
    exact s_ret rfl rfl rfl hyp (dcx dX1_fineFor_c1 7 rfl)
  · have hyp := hyp.2 q_
    refine r_aload_n (dcx dX1_fineFor_c0 5 rfl) 0 rfl ?_
    refine s_getr (b := 47) fX1_9 (dcx dX1_fineFor_c0 6 rfl) F46_0 ?_
    refine r_iload (dcx dX1_fineFor_c0 7 rfl) 5 rfl ?_
    refine r_iconst (v := 0) (dcx dX1_fineFor_c0 8 rfl) rfl ?_
    obtain ⟨hb_, hyp⟩ := hyp
    refine s_iast (dcx dX1_fineFor_c0 9 rfl) A47 hb_ ?_
    obtain ⟨s13_, es13_⟩ : ∃ z : SS, z = sI σ 47 (Int32.toNatClampNeg x5) 0 := ⟨_, rfl⟩
    rw [← es13_]
    have hyp := hyp s13_ es13_
    refine r_iinc (lv1 := [(5, .int (x5 + 1)), (0, .ref 46), (1, .ref a1), (2, .int x2), (3, .int x3), (4, .int x4)]) (dcx dX1_fineFor_c0 10 rfl) 5 rfl (Nat.le_of_ble_eq_true rfl) rfl ?_
    refine r_goto (tgt := 3) (dcx dX1_fineFor_c0 11 rfl) (by decide) ?_
    refine r_loc (lv1 := [(0, .ref 46), (1, .ref a1), (2, .int x2), (3, .int x3), (4, .int x4), (5, .int (x5 + 1))]) [1, 2, 3, 4, 5, 0] rfl ?_
    exact hyp
def wX1_cutOut_3 (Γ : GE) (l : Launch) (a1 : Nat) (x2 : Int32) (x3 : Int32) (x4 : Int32) (x5 : Int32) (σ : SS) (K : Option Value → SS → Prop) : Prop := G2 Γ l mX1_cutOut 3 [(0, .ref 46), (1, .ref a1), (2, .int x2), (3, .int x3), (4, .int x4), (5, .int x5)] [] σ K
set_option maxHeartbeats 4000000 in
set_option maxRecDepth 20000 in
theorem tX1_cutOut {Γ : GE} {l : Launch} {a1 : Nat} {x2 : Int32} {x3 : Int32} {x4 : Int32} {σ : SS} {K : Option Value → SS → Prop} (h1 : isL a1) (hyp : wX1_cutOut_3 Γ l a1 x2 x3 x4 0 σ K) : C2 Γ l mX1_cutOut [.ref 46, .ref a1, .int x2, .int x3, .int x4] σ K := by
  refine c2_of (lv := [(0, .ref 46), (1, .ref a1), (2, .int x2), (3, .int x3), (4, .int x4)]) (by decide) (Nat.le_of_ble_eq_true rfl) rfl ?_
  refine r_iconst (v := 0) (dcx dX1_cutOut_c0 0 rfl) rfl ?_
  refine r_istore (lv1 := [(5, .int 0), (0, .ref 46), (1, .ref a1), (2, .int x2), (3, .int x3), (4, .int x4)]) (dcx dX1_cutOut_c0 1 rfl) (Nat.le_of_ble_eq_true rfl) rfl ?_
  refine r_loc (lv1 := [(0, .ref 46), (1, .ref a1), (2, .int x2), (3, .int x3), (4, .int x4), (5, .int 0)]) [1, 2, 3, 4, 5, 0] rfl ?_
  exact hyp
set_option maxHeartbeats 4000000 in
set_option maxRecDepth 20000 in
theorem tX1_cutOut_3 {Γ : GE} {l : Launch} {a1 : Nat} {x2 : Int32} {x3 : Int32} {x4 : Int32} {x5 : Int32} {σ : SS} {K : Option Value → SS → Prop} (h1 : isL a1) (hyp : ((9 : Int32) ≤ x5 → (K none σ)) ∧ (¬ ((9 : Int32) ≤ x5) → (∃ b1_ : Nat, σ.2.2 46 3 = b1_ ∧ isP b1_ ∧ (C2 Γ l mX6_isCutAt [.ref b1_, .int x2, .int x5] σ (Ri fun r3_ s2_ => ((r3_ = 0 → (wX1_cutOut_3 Γ l a1 x2 x3 x4 (x5 + 1) s2_ K)) ∧ (¬ (r3_ = 0) → (C2 Γ l mX9_indexOf [.int (x3 + (x5 - x5 / 3 * 3)), .int (x4 + (x5 / 3))] s2_ (Ri fun r5_ s4_ => (vp_in r5_ 80 ∧ (∀ s6_ : SS, s6_ = sI s4_ (a1 + 1) (Int32.toNatClampNeg r5_) 0 → (wX1_cutOut_3 Γ l a1 x2 x3 x4 (x5 + 1) s6_ K)))))))))))) : wX1_cutOut_3 Γ l a1 x2 x3 x4 x5 σ K := by
  show G2 Γ l mX1_cutOut 3 [(0, .ref 46), (1, .ref a1), (2, .int x2), (3, .int x3), (4, .int x4), (5, .int x5)] [] σ K
  refine r_iload (dcx dX1_cutOut_c0 2 rfl) 5 rfl ?_
  refine r_bipush (v := 9) (dcx dX1_cutOut_c0 3 rfl) rfl ?_
  refine r_icmp_ge (tgt := 51) (dcx dX1_cutOut_c0 4 rfl) (by decide) (fun q_ => ?_) (fun q_ => ?_)
  · have hyp := hyp.1 q_
    exact s_vret rfl hyp (dcx dX1_cutOut_c0 28 rfl)
  · have hyp := hyp.2 q_
    refine r_aload_n (dcx dX1_cutOut_c0 5 rfl) 0 rfl ?_
    obtain ⟨b1_, eb1_, hb1_, hyp⟩ := hyp
    refine s_getmE fX1_21 (dcx dX1_cutOut_c0 6 rfl) F46_3 eb1_ (nzP hb1_) ?_
    refine r_iload_n (dcx dX1_cutOut_c0 7 rfl) 2 rfl ?_
    refine r_iload (dcx dX1_cutOut_c0 8 rfl) 5 rfl ?_
    refine s_callV (as := [.int x2, .int x5]) (st := []) zX6_isCutAt kX1_cutOut_100 (dcx dX1_cutOut_c0 9 rfl) rfl rfl (Nat.le_of_ble_eq_true rfl) (OP hb1_) rfl rfl (C2.mono hyp ?_)
    rintro _ s2_ ⟨r3_, rfl, hyp⟩
    show G2 Γ l mX1_cutOut 20 [(0, .ref 46), (1, .ref a1), (2, .int x2), (3, .int x3), (4, .int x4), (5, .int x5)] [.int r3_] s2_ K
    refine r_if_eq (tgt := 45) (dcx dX1_cutOut_c0 10 rfl) (by decide) (fun q_ => ?_) (fun q_ => ?_)
    · have hyp := hyp.1 q_
      refine r_iinc (lv1 := [(5, .int (x5 + 1)), (0, .ref 46), (1, .ref a1), (2, .int x2), (3, .int x3), (4, .int x4)]) (dcx dX1_cutOut_c0 26 rfl) 5 rfl (Nat.le_of_ble_eq_true rfl) rfl ?_
      refine r_goto (tgt := 3) (dcx dX1_cutOut_c0 27 rfl) (by decide) ?_
      refine r_loc (lv1 := [(0, .ref 46), (1, .ref a1), (2, .int x2), (3, .int x3), (4, .int x4), (5, .int (x5 + 1))]) [1, 2, 3, 4, 5, 0] rfl ?_
      exact hyp
    · have hyp := hyp.2 q_
      refine r_aload_n (dcx dX1_cutOut_c0 11 rfl) 1 rfl ?_
      refine s_getr (b := a1 + 1) fX1_46 (dcx dX1_cutOut_c0 12 rfl) (FL_0 h1) ?_
      refine r_iload_n (dcx dX1_cutOut_c0 13 rfl) 3 rfl ?_
      refine r_iload (dcx dX1_cutOut_c0 14 rfl) 5 rfl ?_
      refine r_iconst (v := 3) (dcx dX1_cutOut_c0 15 rfl) rfl ?_
      refine r_irem (dcx dX1_cutOut_c0 16 rfl) (by decide) ?_
      refine r_iadd (dcx dX1_cutOut_c0 17 rfl) ?_
      refine r_iload (dcx dX1_cutOut_c0 18 rfl) 4 rfl ?_
      refine r_iload (dcx dX1_cutOut_c0 19 rfl) 5 rfl ?_
      refine r_iconst (v := 3) (dcx dX1_cutOut_c0 20 rfl) rfl ?_
      refine r_idiv (dcx dX1_cutOut_c0 21 rfl) (by decide) ?_
      refine r_iadd (dcx dX1_cutOut_c0 22 rfl) ?_
      refine s_callSN (as := [.int (x3 + (x5 - x5 / 3 * 3)), .int (x4 + (x5 / 3))]) (st := [.ref (a1 + 1)]) zX9_indexOf kX1_cutOut_43 (dcx dX1_cutOut_c0 23 rfl) rfl rfl (Nat.le_of_ble_eq_true rfl) (C2.mono hyp ?_)
      rintro _ s4_ ⟨r5_, rfl, hyp⟩
      show G2 Γ l mX1_cutOut 43 [(0, .ref 46), (1, .ref a1), (2, .int x2), (3, .int x3), (4, .int x4), (5, .int x5)] [.int r5_, .ref (a1 + 1)] s4_ K
      refine r_iconst (v := 0) (dcx dX1_cutOut_c0 24 rfl) rfl ?_
      obtain ⟨hb_, hyp⟩ := hyp
      refine s_iast (dcx dX1_cutOut_c0 25 rfl) (AL_0 h1) hb_ ?_
      obtain ⟨s6_, es6_⟩ : ∃ z : SS, z = sI s4_ (a1 + 1) (Int32.toNatClampNeg r5_) 0 := ⟨_, rfl⟩
      rw [← es6_]
      have hyp := hyp s6_ es6_
      refine r_iinc (lv1 := [(5, .int (x5 + 1)), (0, .ref 46), (1, .ref a1), (2, .int x2), (3, .int x3), (4, .int x4)]) (dcx dX1_cutOut_c0 26 rfl) 5 rfl (Nat.le_of_ble_eq_true rfl) rfl ?_
      refine r_goto (tgt := 3) (dcx dX1_cutOut_c0 27 rfl) (by decide) ?_
      refine r_loc (lv1 := [(0, .ref 46), (1, .ref a1), (2, .int x2), (3, .int x3), (4, .int x4), (5, .int (x5 + 1))]) [1, 2, 3, 4, 5, 0] rfl ?_
      exact hyp
def wX1_mowTo_5 (Γ : GE) (l : Launch) (a1 : Nat) (x2 : Int32) (x3 : Int32) (x4 : Int32) (σ : SS) (K : Option Value → SS → Prop) : Prop := G2 Γ l mX1_mowTo 5 [(1, .ref a1), (2, .int x2), (3, .int x3), (4, .int x4)] [] σ K
set_option maxHeartbeats 4000000 in
set_option maxRecDepth 20000 in
theorem tX1_mowTo {Γ : GE} {l : Launch} {a1 : Nat} {x2 : Int32} {σ : SS} {K : Option Value → SS → Prop} (h1 : isL a1) (hyp : wX1_mowTo_5 Γ l a1 x2 0 0 σ K) : C2 Γ l mX1_mowTo [.ref 46, .ref a1, .int x2] σ K := by
  refine c2_of (lv := [(0, .ref 46), (1, .ref a1), (2, .int x2)]) (by decide) (Nat.le_of_ble_eq_true rfl) rfl ?_
  refine r_iconst (v := 0) (dcx dX1_mowTo_c0 0 rfl) rfl ?_
  refine r_istore_n (lv1 := [(3, .int 0), (0, .ref 46), (1, .ref a1), (2, .int x2)]) (dcx dX1_mowTo_c0 1 rfl) (Nat.le_of_ble_eq_true rfl) rfl ?_
  refine r_iconst (v := 0) (dcx dX1_mowTo_c0 2 rfl) rfl ?_
  refine r_istore (lv1 := [(4, .int 0), (3, .int 0), (0, .ref 46), (1, .ref a1), (2, .int x2)]) (dcx dX1_mowTo_c0 3 rfl) (Nat.le_of_ble_eq_true rfl) rfl ?_
  refine r_loc (lv1 := [(1, .ref a1), (2, .int x2), (3, .int 0), (4, .int 0)]) [3, 4, 1, 0] rfl ?_
  exact hyp
set_option maxHeartbeats 4000000 in
set_option maxRecDepth 20000 in
theorem tX1_mowTo_5 {Γ : GE} {l : Launch} {a1 : Nat} {x2 : Int32} {x3 : Int32} {x4 : Int32} {σ : SS} {K : Option Value → SS → Prop} (h1 : isL a1) (hyp : ((80 : Int32) ≤ x4 → (K (some (.int x3)) σ)) ∧ (¬ ((80 : Int32) ≤ x4) → (vp_in x4 80 ∧ (((σ.1 (a1 + 1) (Int32.toNatClampNeg x4)) ≤ x2 → (wX1_mowTo_5 Γ l a1 x2 x3 (x4 + 1) σ K)) ∧ (¬ ((σ.1 (a1 + 1) (Int32.toNatClampNeg x4)) ≤ x2) → (vp_in x4 80 ∧ (∀ s1_ : SS, s1_ = sI σ (a1 + 1) (Int32.toNatClampNeg x4) x2 → (wX1_mowTo_5 Γ l a1 x2 (x3 + 1) (x4 + 1) s1_ K)))))))) : wX1_mowTo_5 Γ l a1 x2 x3 x4 σ K := by
  show G2 Γ l mX1_mowTo 5 [(1, .ref a1), (2, .int x2), (3, .int x3), (4, .int x4)] [] σ K
  refine r_iload (dcx dX1_mowTo_c0 4 rfl) 3 rfl ?_
  refine r_bipush (v := 80) (dcx dX1_mowTo_c0 5 rfl) rfl ?_
  refine r_icmp_ge (tgt := 40) (dcx dX1_mowTo_c0 6 rfl) (by decide) (fun q_ => ?_) (fun q_ => ?_)
  · have hyp := hyp.1 q_
    refine r_iload_n (dcx dX1_mowTo_c0 21 rfl) 2 rfl ?_
    exact s_ret rfl rfl rfl hyp (dcx dX1_mowTo_c0 22 rfl)
  · have hyp := hyp.2 q_
    refine r_aload_n (dcx dX1_mowTo_c0 7 rfl) 0 rfl ?_
    refine s_getr (b := a1 + 1) fX1_46 (dcx dX1_mowTo_c0 8 rfl) (FL_0 h1) ?_
    refine r_iload (dcx dX1_mowTo_c0 9 rfl) 3 rfl ?_
    obtain ⟨hb_, hyp⟩ := hyp
    refine s_iald (dcx dX1_mowTo_c0 10 rfl) (AL_0 h1) hb_ ?_
    refine r_iload_n (dcx dX1_mowTo_c0 11 rfl) 1 rfl ?_
    refine r_icmp_le (tgt := 34) (dcx dX1_mowTo_c0 12 rfl) (by decide) (fun q_ => ?_) (fun q_ => ?_)
    · have hyp := hyp.1 q_
      refine r_iinc (lv1 := [(4, .int (x4 + 1)), (1, .ref a1), (2, .int x2), (3, .int x3)]) (dcx dX1_mowTo_c0 19 rfl) 3 rfl (Nat.le_of_ble_eq_true rfl) rfl ?_
      refine r_goto (tgt := 5) (dcx dX1_mowTo_c0 20 rfl) (by decide) ?_
      refine r_loc (lv1 := [(1, .ref a1), (2, .int x2), (3, .int x3), (4, .int (x4 + 1))]) [1, 2, 3, 0] rfl ?_
      exact hyp
    · have hyp := hyp.2 q_
      refine r_aload_n (dcx dX1_mowTo_c0 13 rfl) 0 rfl ?_
      refine s_getr (b := a1 + 1) fX1_46 (dcx dX1_mowTo_c0 14 rfl) (FL_0 h1) ?_
      refine r_iload (dcx dX1_mowTo_c0 15 rfl) 3 rfl ?_
      refine r_iload_n (dcx dX1_mowTo_c0 16 rfl) 1 rfl ?_
      obtain ⟨hb_, hyp⟩ := hyp
      refine s_iast (dcx dX1_mowTo_c0 17 rfl) (AL_0 h1) hb_ ?_
      obtain ⟨s1_, es1_⟩ : ∃ z : SS, z = sI σ (a1 + 1) (Int32.toNatClampNeg x4) x2 := ⟨_, rfl⟩
      rw [← es1_]
      have hyp := hyp s1_ es1_
      refine r_iinc (lv1 := [(3, .int (x3 + 1)), (1, .ref a1), (2, .int x2), (4, .int x4)]) (dcx dX1_mowTo_c0 18 rfl) 2 rfl (Nat.le_of_ble_eq_true rfl) rfl ?_
      refine r_iinc (lv1 := [(4, .int (x4 + 1)), (3, .int (x3 + 1)), (1, .ref a1), (2, .int x2)]) (dcx dX1_mowTo_c0 19 rfl) 3 rfl (Nat.le_of_ble_eq_true rfl) rfl ?_
      refine r_goto (tgt := 5) (dcx dX1_mowTo_c0 20 rfl) (by decide) ?_
      refine r_loc (lv1 := [(1, .ref a1), (2, .int x2), (3, .int (x3 + 1)), (4, .int (x4 + 1))]) [2, 3, 1, 0] rfl ?_
      exact hyp
def wX1_growWeeks_3 (Γ : GE) (l : Launch) (a1 : Nat) (x2 : Int32) (x3 : Int32) (x4 : Int32) (σ : SS) (K : Option Value → SS → Prop) : Prop := G2 Γ l mX1_growWeeks 3 [(0, .ref 46), (1, .ref a1), (2, .int x2), (3, .int x3), (4, .int x4)] [] σ K
set_option maxHeartbeats 4000000 in
set_option maxRecDepth 20000 in
theorem tX1_growWeeks {Γ : GE} {l : Launch} {a1 : Nat} {x2 : Int32} {x3 : Int32} {σ : SS} {K : Option Value → SS → Prop} (h1 : isL a1) (hyp : wX1_growWeeks_3 Γ l a1 x2 x3 0 σ K) : C2 Γ l mX1_growWeeks [.ref 46, .ref a1, .int x2, .int x3] σ K := by
  refine c2_of (lv := [(0, .ref 46), (1, .ref a1), (2, .int x2), (3, .int x3)]) (by decide) (Nat.le_of_ble_eq_true rfl) rfl ?_
  refine r_iconst (v := 0) (dcx dX1_growWeeks_c0 0 rfl) rfl ?_
  refine r_istore (lv1 := [(4, .int 0), (0, .ref 46), (1, .ref a1), (2, .int x2), (3, .int x3)]) (dcx dX1_growWeeks_c0 1 rfl) (Nat.le_of_ble_eq_true rfl) rfl ?_
  refine r_loc (lv1 := [(0, .ref 46), (1, .ref a1), (2, .int x2), (3, .int x3), (4, .int 0)]) [1, 2, 3, 4, 0] rfl ?_
  exact hyp
set_option maxHeartbeats 4000000 in
set_option maxRecDepth 20000 in
theorem tX1_growWeeks_3 {Γ : GE} {l : Launch} {a1 : Nat} {x2 : Int32} {x3 : Int32} {x4 : Int32} {σ : SS} {K : Option Value → SS → Prop} (h1 : isL a1) (hyp : (x2 ≤ x4 → (K none σ)) ∧ (¬ (x2 ≤ x4) → (C2 Γ l mX1_growWeek [.ref 46, .ref a1, .int x3] σ (Rv fun s1_ => (wX1_growWeeks_3 Γ l a1 x2 x3 (x4 + 1) s1_ K))))) : wX1_growWeeks_3 Γ l a1 x2 x3 x4 σ K := by
  show G2 Γ l mX1_growWeeks 3 [(0, .ref 46), (1, .ref a1), (2, .int x2), (3, .int x3), (4, .int x4)] [] σ K
  refine r_iload (dcx dX1_growWeeks_c0 2 rfl) 4 rfl ?_
  refine r_iload_n (dcx dX1_growWeeks_c0 3 rfl) 2 rfl ?_
  refine r_icmp_ge (tgt := 21) (dcx dX1_growWeeks_c0 4 rfl) (by decide) (fun q_ => ?_) (fun q_ => ?_)
  · have hyp := hyp.1 q_
    exact s_vret rfl hyp (dcx dX1_growWeeks_c0 11 rfl)
  · have hyp := hyp.2 q_
    refine r_aload_n (dcx dX1_growWeeks_c0 5 rfl) 0 rfl ?_
    refine r_aload_n (dcx dX1_growWeeks_c0 6 rfl) 1 rfl ?_
    refine r_iload_n (dcx dX1_growWeeks_c0 7 rfl) 3 rfl ?_
    refine s_callV (as := [.ref a1, .int x3]) (st := []) zX1_growWeek kX1_growWeeks_104 (dcx dX1_growWeeks_c0 8 rfl) rfl rfl (Nat.le_of_ble_eq_true rfl) O46 rfl rfl (C2.mono hyp ?_)
    rintro _ s1_ ⟨rfl, hyp⟩
    show G2 Γ l mX1_growWeeks 15 [(0, .ref 46), (1, .ref a1), (2, .int x2), (3, .int x3), (4, .int x4)] [] s1_ K
    refine r_iinc (lv1 := [(4, .int (x4 + 1)), (0, .ref 46), (1, .ref a1), (2, .int x2), (3, .int x3)]) (dcx dX1_growWeeks_c0 9 rfl) 4 rfl (Nat.le_of_ble_eq_true rfl) rfl ?_
    refine r_goto (tgt := 3) (dcx dX1_growWeeks_c0 10 rfl) (by decide) ?_
    refine r_loc (lv1 := [(0, .ref 46), (1, .ref a1), (2, .int x2), (3, .int x3), (4, .int (x4 + 1))]) [1, 2, 3, 4, 0] rfl ?_
    exact hyp
def wX1_growWeek_13 (Γ : GE) (l : Launch) (a1 : Nat) (x3 : Int32) (x4 : Int32) (σ : SS) (K : Option Value → SS → Prop) : Prop := G2 Γ l mX1_growWeek 13 [(0, .ref 46), (1, .ref a1), (3, .int x3), (4, .int x4)] [] σ K
def wX1_growWeek_112 (Γ : GE) (l : Launch) (a1 : Nat) (x4 : Int32) (σ : SS) (K : Option Value → SS → Prop) : Prop := G2 Γ l mX1_growWeek 112 [(0, .ref 46), (1, .ref a1), (4, .int x4)] [] σ K
def wX1_growWeek_28 (Γ : GE) (l : Launch) (a1 : Nat) (x3 : Int32) (x4 : Int32) (x5 : Int32) (σ : SS) (K : Option Value → SS → Prop) : Prop := G2 Γ l mX1_growWeek 28 [(0, .ref 46), (1, .ref a1), (3, .int x3), (4, .int x4), (5, .int x5)] [] σ K
def wX1_growWeek_127 (Γ : GE) (l : Launch) (a1 : Nat) (x4 : Int32) (x5 : Int32) (σ : SS) (K : Option Value → SS → Prop) : Prop := G2 Γ l mX1_growWeek 127 [(0, .ref 46), (1, .ref a1), (4, .int x4), (5, .int x5)] [] σ K
set_option maxHeartbeats 4000000 in
set_option maxRecDepth 20000 in
theorem tX1_growWeek {Γ : GE} {l : Launch} {a1 : Nat} {x2 : Int32} {σ : SS} {K : Option Value → SS → Prop} (h1 : isL a1) (hyp : C2 Γ l mX1_rainIn [.ref 46, .int (σ.1 a1 4), .int x2] σ (Ri fun r2_ s1_ => (wX1_growWeek_13 Γ l a1 r2_ 0 s1_ K))) : C2 Γ l mX1_growWeek [.ref 46, .ref a1, .int x2] σ K := by
  refine c2_of (lv := [(0, .ref 46), (1, .ref a1), (2, .int x2)]) (by decide) (Nat.le_of_ble_eq_true rfl) rfl ?_
  refine r_aload_n (dcx dX1_growWeek_c0 0 rfl) 0 rfl ?_
  refine r_aload_n (dcx dX1_growWeek_c0 1 rfl) 1 rfl ?_
  refine s_geti fX1_76 (dcx dX1_growWeek_c0 2 rfl) (FL_4 h1) ?_
  refine r_iload_n (dcx dX1_growWeek_c0 3 rfl) 2 rfl ?_
  refine s_callV (as := [.int (σ.1 a1 4), .int x2]) (st := []) zX1_rainIn kX1_growWeek_108 (dcx dX1_growWeek_c0 4 rfl) rfl rfl (Nat.le_of_ble_eq_true rfl) O46 rfl rfl (C2.mono hyp ?_)
  rintro _ s1_ ⟨r2_, rfl, hyp⟩
  show G2 Γ l mX1_growWeek 9 [(0, .ref 46), (1, .ref a1), (2, .int x2)] [.int r2_] s1_ K
  refine r_istore_n (lv1 := [(3, .int r2_), (0, .ref 46), (1, .ref a1), (2, .int x2)]) (dcx dX1_growWeek_c0 5 rfl) (Nat.le_of_ble_eq_true rfl) rfl ?_
  refine r_iconst (v := 0) (dcx dX1_growWeek_c0 6 rfl) rfl ?_
  refine r_istore (lv1 := [(4, .int 0), (3, .int r2_), (0, .ref 46), (1, .ref a1), (2, .int x2)]) (dcx dX1_growWeek_c0 7 rfl) (Nat.le_of_ble_eq_true rfl) rfl ?_
  refine r_loc (lv1 := [(0, .ref 46), (1, .ref a1), (3, .int r2_), (4, .int 0)]) [2, 3, 1, 0] rfl ?_
  exact hyp
set_option maxHeartbeats 4000000 in
set_option maxRecDepth 20000 in
theorem tX1_growWeek_13 {Γ : GE} {l : Launch} {a1 : Nat} {x3 : Int32} {x4 : Int32} {σ : SS} {K : Option Value → SS → Prop} (h1 : isL a1) (hyp : ∃ b1_ : Nat, σ.2.2 46 3 = b1_ ∧ isP b1_ ∧ (((σ.1 b1_ 12) ≤ x4 → (wX1_growWeek_112 Γ l a1 0 σ K)) ∧ (¬ ((σ.1 b1_ 12) ≤ x4) → (wX1_growWeek_28 Γ l a1 x3 x4 0 σ K)))) : wX1_growWeek_13 Γ l a1 x3 x4 σ K := by
  show G2 Γ l mX1_growWeek 13 [(0, .ref 46), (1, .ref a1), (3, .int x3), (4, .int x4)] [] σ K
  refine r_iload (dcx dX1_growWeek_c0 8 rfl) 3 rfl ?_
  refine r_aload_n (dcx dX1_growWeek_c0 9 rfl) 0 rfl ?_
  obtain ⟨b1_, eb1_, hb1_, hyp⟩ := hyp
  refine s_getmE fX1_21 (dcx dX1_growWeek_c0 10 rfl) F46_3 eb1_ (nzP hb1_) ?_
  refine s_geti fX1_111 (dcx dX1_growWeek_c0 11 rfl) (FP_12 hb1_) ?_
  refine r_icmp_ge (tgt := 109) (dcx dX1_growWeek_c0 12 rfl) (by decide) (fun q_ => ?_) (fun q_ => ?_)
  · have hyp := hyp.1 q_
    refine r_iconst (v := 0) (dcx dX1_growWeek_c1 14 rfl) rfl ?_
    refine r_istore (lv1 := [(4, .int 0), (0, .ref 46), (1, .ref a1), (3, .int x3)]) (dcx dX1_growWeek_c1 15 rfl) (Nat.le_of_ble_eq_true rfl) rfl ?_
    refine r_loc (lv1 := [(0, .ref 46), (1, .ref a1), (4, .int 0)]) [1, 2, 0] rfl ?_
    exact hyp
  · have hyp := hyp.2 q_
    refine r_iconst (v := 0) (dcx dX1_growWeek_c0 13 rfl) rfl ?_
    refine r_istore (lv1 := [(5, .int 0), (0, .ref 46), (1, .ref a1), (3, .int x3), (4, .int x4)]) (dcx dX1_growWeek_c0 14 rfl) (Nat.le_of_ble_eq_true rfl) rfl ?_
    refine r_loc (lv1 := [(0, .ref 46), (1, .ref a1), (3, .int x3), (4, .int x4), (5, .int 0)]) [1, 2, 3, 4, 0] rfl ?_
    exact hyp
set_option maxHeartbeats 4000000 in
set_option maxRecDepth 20000 in
theorem tX1_growWeek_112 {Γ : GE} {l : Launch} {a1 : Nat} {x4 : Int32} {σ : SS} {K : Option Value → SS → Prop} (h1 : isL a1) (hyp : ∃ b1_ : Nat, σ.2.2 46 3 = b1_ ∧ isP b1_ ∧ (((σ.1 b1_ 12) ≤ x4 → (∀ s2_ : SS, s2_ = sI σ a1 4 ((σ.1 a1 4) + 1) → (K none s2_))) ∧ (¬ ((σ.1 b1_ 12) ≤ x4) → (wX1_growWeek_127 Γ l a1 x4 0 σ K)))) : wX1_growWeek_112 Γ l a1 x4 σ K := by
  show G2 Γ l mX1_growWeek 112 [(0, .ref 46), (1, .ref a1), (4, .int x4)] [] σ K
  refine r_iload (dcx dX1_growWeek_c1 16 rfl) 2 rfl ?_
  refine r_aload_n (dcx dX1_growWeek_c1 17 rfl) 0 rfl ?_
  obtain ⟨b1_, eb1_, hb1_, hyp⟩ := hyp
  refine s_getmE fX1_21 (dcx dX1_growWeek_c1 18 rfl) F46_3 eb1_ (nzP hb1_) ?_
  refine s_geti fX1_111 (dcx dX1_growWeek_c1 19 rfl) (FP_12 hb1_) ?_
  refine r_icmp_ge (tgt := 194) (dcx dX1_growWeek_c1 20 rfl) (by decide) (fun q_ => ?_) (fun q_ => ?_)
  · have hyp := hyp.1 q_
    refine r_aload_n (dcx dX1_growWeek_c2 16 rfl) 1 rfl ?_
    refine r_dup (dcx dX1_growWeek_c2 17 rfl) rfl ?_
    refine s_geti fX1_76 (dcx dX1_growWeek_c2 18 rfl) (FL_4 h1) ?_
    refine r_iconst (v := 1) (dcx dX1_growWeek_c2 19 rfl) rfl ?_
    refine r_iadd (dcx dX1_growWeek_c2 20 rfl) ?_
    refine s_puti gX1_76 (dcx dX1_growWeek_c2 21 rfl) (FL_4 h1) ?_
    obtain ⟨s2_, es2_⟩ : ∃ z : SS, z = sI σ a1 4 ((σ.1 a1 4) + 1) := ⟨_, rfl⟩
    rw [← es2_]
    have hyp := hyp s2_ es2_
    exact s_vret rfl hyp (dcx dX1_growWeek_c2 22 rfl)
  · have hyp := hyp.2 q_
    refine r_iconst (v := 0) (dcx dX1_growWeek_c1 21 rfl) rfl ?_
    refine r_istore (lv1 := [(5, .int 0), (0, .ref 46), (1, .ref a1), (4, .int x4)]) (dcx dX1_growWeek_c1 22 rfl) (Nat.le_of_ble_eq_true rfl) rfl ?_
    refine r_loc (lv1 := [(0, .ref 46), (1, .ref a1), (4, .int x4), (5, .int 0)]) [1, 2, 3, 0] rfl ?_
    exact hyp
set_option maxHeartbeats 4000000 in
set_option maxRecDepth 20000 in
theorem tX1_growWeek_28 {Γ : GE} {l : Launch} {a1 : Nat} {x3 : Int32} {x4 : Int32} {x5 : Int32} {σ : SS} {K : Option Value → SS → Prop} (h1 : isL a1) (hyp : ∃ b1_ : Nat, σ.2.2 46 3 = b1_ ∧ isP b1_ ∧ (((σ.1 b1_ 11) ≤ x5 → (wX1_growWeek_13 Γ l a1 x3 (x4 + 1) σ K)) ∧ (¬ ((σ.1 b1_ 11) ≤ x5) → (C2 Γ l mX9_indexOf [.int x5, .int x4] σ (Ri fun r3_ s2_ => (∃ b4_ : Nat, s2_.2.2 46 3 = b4_ ∧ isP b4_ ∧ (vp_in r3_ 80 ∧ (((s2_.1 (b4_ + 1) (Int32.toNatClampNeg r3_)) < 0 → (vp_in r3_ 80 ∧ (∀ s5_ : SS, s5_ = sI s2_ 48 (Int32.toNatClampNeg r3_) 0 → (wX1_growWeek_28 Γ l a1 x3 x4 (x5 + 1) s5_ K)))) ∧ (¬ ((s2_.1 (b4_ + 1) (Int32.toNatClampNeg r3_)) < 0) → (vp_in r3_ 80 ∧ (C2 Γ l mX1_growth [.ref 46, .ref a1, .int x5, .int x4, .int x3] s2_ (Ri fun r7_ s6_ => (C2 Γ l mX9_held [.int ((s2_.1 (a1 + 1) (Int32.toNatClampNeg r3_)) + r7_), .int 0, .int 99] s6_ (Ri fun r9_ s8_ => (vp_in r3_ 80 ∧ (∀ s10_ : SS, s10_ = sI s8_ 48 (Int32.toNatClampNeg r3_) r9_ → (wX1_growWeek_28 Γ l a1 x3 x4 (x5 + 1) s10_ K))))))))))))))))) : wX1_growWeek_28 Γ l a1 x3 x4 x5 σ K := by
  show G2 Γ l mX1_growWeek 28 [(0, .ref 46), (1, .ref a1), (3, .int x3), (4, .int x4), (5, .int x5)] [] σ K
  refine r_iload (dcx dX1_growWeek_c0 15 rfl) 4 rfl ?_
  refine r_aload_n (dcx dX1_growWeek_c0 16 rfl) 0 rfl ?_
  obtain ⟨b1_, eb1_, hb1_, hyp⟩ := hyp
  refine s_getmE fX1_21 (dcx dX1_growWeek_c0 17 rfl) F46_3 eb1_ (nzP hb1_) ?_
  refine s_geti fX1_114 (dcx dX1_growWeek_c0 18 rfl) (FP_11 hb1_) ?_
  refine r_icmp_ge (tgt := 103) (dcx dX1_growWeek_c0 19 rfl) (by decide) (fun q_ => ?_) (fun q_ => ?_)
  · have hyp := hyp.1 q_
    refine r_iinc (lv1 := [(4, .int (x4 + 1)), (0, .ref 46), (1, .ref a1), (3, .int x3), (5, .int x5)]) (dcx dX1_growWeek_c1 12 rfl) 3 rfl (Nat.le_of_ble_eq_true rfl) rfl ?_
    refine r_goto (tgt := 13) (dcx dX1_growWeek_c1 13 rfl) (by decide) ?_
    refine r_loc (lv1 := [(0, .ref 46), (1, .ref a1), (3, .int x3), (4, .int (x4 + 1))]) [1, 2, 3, 0] rfl ?_
    exact hyp
  · have hyp := hyp.2 q_
    refine r_iload (dcx dX1_growWeek_c0 20 rfl) 4 rfl ?_
    refine r_iload (dcx dX1_growWeek_c0 21 rfl) 3 rfl ?_
    refine s_callSN (as := [.int x5, .int x4]) (st := []) zX9_indexOf kX1_growWeek_43 (dcx dX1_growWeek_c0 22 rfl) rfl rfl (Nat.le_of_ble_eq_true rfl) (C2.mono hyp ?_)
    rintro _ s2_ ⟨r3_, rfl, hyp⟩
    show G2 Γ l mX1_growWeek 47 [(0, .ref 46), (1, .ref a1), (3, .int x3), (4, .int x4), (5, .int x5)] [.int r3_] s2_ K
    refine r_istore (lv1 := [(6, .int r3_), (0, .ref 46), (1, .ref a1), (3, .int x3), (4, .int x4), (5, .int x5)]) (dcx dX1_growWeek_c0 23 rfl) (Nat.le_of_ble_eq_true rfl) rfl ?_
    refine r_aload_n (dcx dX1_growWeek_c0 24 rfl) 1 rfl ?_
    refine s_getr (b := 48) fX1_15 (dcx dX1_growWeek_c0 25 rfl) F46_1 ?_
    refine r_iload (dcx dX1_growWeek_c0 26 rfl) 0 rfl ?_
    refine r_aload_n (dcx dX1_growWeek_c0 27 rfl) 1 rfl ?_
    obtain ⟨b4_, eb4_, hb4_, hyp⟩ := hyp
    refine s_getmE fX1_21 (dcx dX1_growWeek_c0 28 rfl) F46_3 eb4_ (nzP hb4_) ?_
    refine s_getr (b := b4_ + 1) fX1_73 (dcx dX1_growWeek_c0 29 rfl) (FP_0 hb4_) ?_
    refine r_iload (dcx dX1_growWeek_c0 30 rfl) 0 rfl ?_
    obtain ⟨hb_, hyp⟩ := hyp
    refine s_iald (dcx dX1_growWeek_c0 31 rfl) (AP_0 hb4_) hb_ ?_
    refine r_if_lt (tgt := 95) (dcx dX1_growWeek_c0 32 rfl) (by decide) (fun q_ => ?_) (fun q_ => ?_)
    · have hyp := hyp.1 q_
      refine r_iconst (v := 0) (dcx dX1_growWeek_c1 8 rfl) rfl ?_
      obtain ⟨hb_, hyp⟩ := hyp
      refine s_iast (dcx dX1_growWeek_c1 9 rfl) A48 hb_ ?_
      obtain ⟨s5_, es5_⟩ : ∃ z : SS, z = sI s2_ 48 (Int32.toNatClampNeg r3_) 0 := ⟨_, rfl⟩
      rw [← es5_]
      have hyp := hyp s5_ es5_
      refine r_iinc (lv1 := [(5, .int (x5 + 1)), (6, .int r3_), (0, .ref 46), (1, .ref a1), (3, .int x3), (4, .int x4)]) (dcx dX1_growWeek_c1 10 rfl) 5 rfl (Nat.le_of_ble_eq_true rfl) rfl ?_
      refine r_goto (tgt := 28) (dcx dX1_growWeek_c1 11 rfl) (by decide) ?_
      refine r_loc (lv1 := [(0, .ref 46), (1, .ref a1), (3, .int x3), (4, .int x4), (5, .int (x5 + 1))]) [2, 3, 4, 5, 0] rfl ?_
      exact hyp
    · have hyp := hyp.2 q_
      refine r_aload_n (dcx dX1_growWeek_c0 33 rfl) 2 rfl ?_
      refine s_getr (b := a1 + 1) fX1_46 (dcx dX1_growWeek_c0 34 rfl) (FL_0 h1) ?_
      refine r_iload (dcx dX1_growWeek_c0 35 rfl) 0 rfl ?_
      obtain ⟨hb_, hyp⟩ := hyp
      refine s_iald (dcx dX1_growWeek_c0 36 rfl) (AL_0 h1) hb_ ?_
      refine r_aload_n (dcx dX1_growWeek_c0 37 rfl) 1 rfl ?_
      refine r_aload_n (dcx dX1_growWeek_c0 38 rfl) 2 rfl ?_
      refine r_iload (dcx dX1_growWeek_c0 39 rfl) 5 rfl ?_
      refine r_iload (dcx dX1_growWeek_c1 0 rfl) 4 rfl ?_
      refine r_iload_n (dcx dX1_growWeek_c1 1 rfl) 3 rfl ?_
      refine s_callV (as := [.ref a1, .int x5, .int x4, .int x3]) (st := [.int (s2_.1 (a1 + 1) (Int32.toNatClampNeg r3_)), .int r3_, .ref 48]) zX1_growth kX1_growWeek_117 (dcx dX1_growWeek_c1 2 rfl) rfl rfl (Nat.le_of_ble_eq_true rfl) O46 rfl rfl (C2.mono hyp ?_)
      rintro _ s6_ ⟨r7_, rfl, hyp⟩
      show G2 Γ l mX1_growWeek 85 [(6, .int r3_), (0, .ref 46), (1, .ref a1), (3, .int x3), (4, .int x4), (5, .int x5)] [.int r7_, .int (s2_.1 (a1 + 1) (Int32.toNatClampNeg r3_)), .int r3_, .ref 48] s6_ K
      refine r_iadd (dcx dX1_growWeek_c1 3 rfl) ?_
      refine r_iconst (v := 0) (dcx dX1_growWeek_c1 4 rfl) rfl ?_
      refine r_bipush (v := 99) (dcx dX1_growWeek_c1 5 rfl) rfl ?_
      refine s_callSN (as := [.int ((s2_.1 (a1 + 1) (Int32.toNatClampNeg r3_)) + r7_), .int 0, .int 99]) (st := [.int r3_, .ref 48]) zX9_held kX1_growWeek_70 (dcx dX1_growWeek_c1 6 rfl) rfl rfl (Nat.le_of_ble_eq_true rfl) (C2.mono hyp ?_)
      rintro _ s8_ ⟨r9_, rfl, hyp⟩
      show G2 Γ l mX1_growWeek 92 [(6, .int r3_), (0, .ref 46), (1, .ref a1), (3, .int x3), (4, .int x4), (5, .int x5)] [.int r9_, .int r3_, .ref 48] s8_ K
      refine r_goto (tgt := 96) (dcx dX1_growWeek_c1 7 rfl) (by decide) ?_
      obtain ⟨hb_, hyp⟩ := hyp
      refine s_iast (dcx dX1_growWeek_c1 9 rfl) A48 hb_ ?_
      obtain ⟨s10_, es10_⟩ : ∃ z : SS, z = sI s8_ 48 (Int32.toNatClampNeg r3_) r9_ := ⟨_, rfl⟩
      rw [← es10_]
      have hyp := hyp s10_ es10_
      refine r_iinc (lv1 := [(5, .int (x5 + 1)), (6, .int r3_), (0, .ref 46), (1, .ref a1), (3, .int x3), (4, .int x4)]) (dcx dX1_growWeek_c1 10 rfl) 5 rfl (Nat.le_of_ble_eq_true rfl) rfl ?_
      refine r_goto (tgt := 28) (dcx dX1_growWeek_c1 11 rfl) (by decide) ?_
      refine r_loc (lv1 := [(0, .ref 46), (1, .ref a1), (3, .int x3), (4, .int x4), (5, .int (x5 + 1))]) [2, 3, 4, 5, 0] rfl ?_
      exact hyp
set_option maxHeartbeats 4000000 in
set_option maxRecDepth 20000 in
theorem tX1_growWeek_127 {Γ : GE} {l : Launch} {a1 : Nat} {x4 : Int32} {x5 : Int32} {σ : SS} {K : Option Value → SS → Prop} (h1 : isL a1) (hyp : ∃ b1_ : Nat, σ.2.2 46 3 = b1_ ∧ isP b1_ ∧ (((σ.1 b1_ 11) ≤ x5 → (wX1_growWeek_112 Γ l a1 (x4 + 1) σ K)) ∧ (¬ ((σ.1 b1_ 11) ≤ x5) → (C2 Γ l mX9_indexOf [.int x5, .int x4] σ (Ri fun r3_ s2_ => (vp_in r3_ 80 ∧ (vp_in r3_ 80 ∧ (∀ s4_ : SS, s4_ = sI s2_ (a1 + 1) (Int32.toNatClampNeg r3_) (s2_.1 48 (Int32.toNatClampNeg r3_)) → (vp_in r3_ 80 ∧ (vp_in r3_ 80 ∧ (∀ s5_ : SS, s5_ = sI s4_ (a1 + 2) (Int32.toNatClampNeg r3_) (imx (0 : Int32) ((s4_.1 (a1 + 2) (Int32.toNatClampNeg r3_)) - 1)) → (wX1_growWeek_127 Γ l a1 x4 (x5 + 1) s5_ K)))))))))))) : wX1_growWeek_127 Γ l a1 x4 x5 σ K := by
  show G2 Γ l mX1_growWeek 127 [(0, .ref 46), (1, .ref a1), (4, .int x4), (5, .int x5)] [] σ K
  refine r_iload (dcx dX1_growWeek_c1 23 rfl) 3 rfl ?_
  refine r_aload_n (dcx dX1_growWeek_c1 24 rfl) 0 rfl ?_
  obtain ⟨b1_, eb1_, hb1_, hyp⟩ := hyp
  refine s_getmE fX1_21 (dcx dX1_growWeek_c1 25 rfl) F46_3 eb1_ (nzP hb1_) ?_
  refine s_geti fX1_114 (dcx dX1_growWeek_c1 26 rfl) (FP_11 hb1_) ?_
  refine r_icmp_ge (tgt := 188) (dcx dX1_growWeek_c1 27 rfl) (by decide) (fun q_ => ?_) (fun q_ => ?_)
  · have hyp := hyp.1 q_
    refine r_iinc (lv1 := [(4, .int (x4 + 1)), (0, .ref 46), (1, .ref a1), (5, .int x5)]) (dcx dX1_growWeek_c2 14 rfl) 2 rfl (Nat.le_of_ble_eq_true rfl) rfl ?_
    refine r_goto (tgt := 112) (dcx dX1_growWeek_c2 15 rfl) (by decide) ?_
    refine r_loc (lv1 := [(0, .ref 46), (1, .ref a1), (4, .int (x4 + 1))]) [1, 2, 0] rfl ?_
    exact hyp
  · have hyp := hyp.2 q_
    refine r_iload (dcx dX1_growWeek_c1 28 rfl) 3 rfl ?_
    refine r_iload (dcx dX1_growWeek_c1 29 rfl) 2 rfl ?_
    refine s_callSN (as := [.int x5, .int x4]) (st := []) zX9_indexOf kX1_growWeek_43 (dcx dX1_growWeek_c1 30 rfl) rfl rfl (Nat.le_of_ble_eq_true rfl) (C2.mono hyp ?_)
    rintro _ s2_ ⟨r3_, rfl, hyp⟩
    show G2 Γ l mX1_growWeek 146 [(0, .ref 46), (1, .ref a1), (4, .int x4), (5, .int x5)] [.int r3_] s2_ K
    refine r_istore (lv1 := [(6, .int r3_), (0, .ref 46), (1, .ref a1), (4, .int x4), (5, .int x5)]) (dcx dX1_growWeek_c1 31 rfl) (Nat.le_of_ble_eq_true rfl) rfl ?_
    refine r_aload_n (dcx dX1_growWeek_c1 32 rfl) 2 rfl ?_
    refine s_getr (b := a1 + 1) fX1_46 (dcx dX1_growWeek_c1 33 rfl) (FL_0 h1) ?_
    refine r_iload (dcx dX1_growWeek_c1 34 rfl) 0 rfl ?_
    refine r_aload_n (dcx dX1_growWeek_c1 35 rfl) 1 rfl ?_
    refine s_getr (b := 48) fX1_15 (dcx dX1_growWeek_c1 36 rfl) F46_1 ?_
    refine r_iload (dcx dX1_growWeek_c1 37 rfl) 0 rfl ?_
    obtain ⟨hb_, hyp⟩ := hyp
    refine s_iald (dcx dX1_growWeek_c1 38 rfl) A48 hb_ ?_
    obtain ⟨hb_, hyp⟩ := hyp
    refine s_iast (dcx dX1_growWeek_c1 39 rfl) (AL_0 h1) hb_ ?_
    obtain ⟨s4_, es4_⟩ : ∃ z : SS, z = sI s2_ (a1 + 1) (Int32.toNatClampNeg r3_) (s2_.1 48 (Int32.toNatClampNeg r3_)) := ⟨_, rfl⟩
    rw [← es4_]
    have hyp := hyp s4_ es4_
    refine r_aload_n (dcx dX1_growWeek_c2 0 rfl) 2 rfl ?_
    refine s_getr (b := a1 + 2) fX1_79 (dcx dX1_growWeek_c2 1 rfl) (FL_1 h1) ?_
    refine r_iload (dcx dX1_growWeek_c2 2 rfl) 0 rfl ?_
    refine r_iconst (v := 0) (dcx dX1_growWeek_c2 3 rfl) rfl ?_
    refine r_aload_n (dcx dX1_growWeek_c2 4 rfl) 2 rfl ?_
    refine s_getr (b := a1 + 2) fX1_79 (dcx dX1_growWeek_c2 5 rfl) (FL_1 h1) ?_
    refine r_iload (dcx dX1_growWeek_c2 6 rfl) 0 rfl ?_
    obtain ⟨hb_, hyp⟩ := hyp
    refine s_iald (dcx dX1_growWeek_c2 7 rfl) (AL_1 h1) hb_ ?_
    refine r_iconst (v := 1) (dcx dX1_growWeek_c2 8 rfl) rfl ?_
    refine r_isub (dcx dX1_growWeek_c2 9 rfl) ?_
    refine r_max q852 q608 q16 q609 (by decide) (Nat.le_of_ble_eq_true rfl) (Nat.zero_le _) (Nat.zero_le _) (dcx dX1_growWeek_c2 10 rfl) ?_
    obtain ⟨hb_, hyp⟩ := hyp
    refine s_iast (dcx dX1_growWeek_c2 11 rfl) (AL_1 h1) hb_ ?_
    obtain ⟨s5_, es5_⟩ : ∃ z : SS, z = sI s4_ (a1 + 2) (Int32.toNatClampNeg r3_) (imx (0 : Int32) ((s4_.1 (a1 + 2) (Int32.toNatClampNeg r3_)) - 1)) := ⟨_, rfl⟩
    rw [← es5_]
    have hyp := hyp s5_ es5_
    refine r_iinc (lv1 := [(5, .int (x5 + 1)), (6, .int r3_), (0, .ref 46), (1, .ref a1), (4, .int x4)]) (dcx dX1_growWeek_c2 12 rfl) 4 rfl (Nat.le_of_ble_eq_true rfl) rfl ?_
    refine r_goto (tgt := 127) (dcx dX1_growWeek_c2 13 rfl) (by decide) ?_
    refine r_loc (lv1 := [(0, .ref 46), (1, .ref a1), (4, .int x4), (5, .int (x5 + 1))]) [2, 3, 4, 0] rfl ?_
    exact hyp
def wX1_live_28 (Γ : GE) (l : Launch) (a1 : Nat) (x2 : Int32) (σ : SS) (K : Option Value → SS → Prop) : Prop := G2 Γ l mX1_live 28 [(0, .ref 46), (1, .ref a1), (2, .int x2)] [] σ K
def wX1_live_41 (Γ : GE) (l : Launch) (a1 : Nat) (x2 : Int32) (x3 : Int32) (σ : SS) (K : Option Value → SS → Prop) : Prop := G2 Γ l mX1_live 41 [(0, .ref 46), (1, .ref a1), (2, .int x2), (3, .int x3)] [] σ K
def wX1_live_87 (Γ : GE) (l : Launch) (a1 : Nat) (x2 : Int32) (x3 : Int32) (σ : SS) (K : Option Value → SS → Prop) : Prop := G2 Γ l mX1_live 87 [(0, .ref 46), (1, .ref a1), (2, .int x2), (3, .int x3)] [] σ K
set_option maxHeartbeats 4000000 in
set_option maxRecDepth 20000 in
theorem tX1_live {Γ : GE} {l : Launch} {a1 : Nat} {σ : SS} {K : Option Value → SS → Prop} (h1 : isL a1) (hyp : ∃ b1_ : Nat, σ.2.2 46 3 = b1_ ∧ isP b1_ ∧ (C2 Γ l mX1_growWeek [.ref 46, .ref a1, .int (σ.1 b1_ 19)] σ (Rv fun s2_ => (∀ s4_ : SS, s4_ = sA s2_ 49 (va_cpy (s2_.1 (a1 + 3)) (s2_.1 49) 0 0 4) → (wX1_live_28 Γ l a1 0 s4_ K))))) : C2 Γ l mX1_live [.ref 46, .ref a1] σ K := by
  refine c2_of (lv := [(0, .ref 46), (1, .ref a1)]) (by decide) (Nat.le_of_ble_eq_true rfl) rfl ?_
  refine r_aload_n (dcx dX1_live_c0 0 rfl) 0 rfl ?_
  refine r_aload_n (dcx dX1_live_c0 1 rfl) 1 rfl ?_
  refine r_aload_n (dcx dX1_live_c0 2 rfl) 0 rfl ?_
  obtain ⟨b1_, eb1_, hb1_, hyp⟩ := hyp
  refine s_getmE fX1_21 (dcx dX1_live_c0 3 rfl) F46_3 eb1_ (nzP hb1_) ?_
  refine s_geti fX1_121 (dcx dX1_live_c0 4 rfl) (FP_19 hb1_) ?_
  refine s_callV (as := [.ref a1, .int (σ.1 b1_ 19)]) (st := []) zX1_growWeek kX1_live_104 (dcx dX1_live_c0 5 rfl) rfl rfl (Nat.le_of_ble_eq_true rfl) O46 rfl rfl (C2.mono hyp ?_)
  rintro _ s2_ ⟨rfl, hyp⟩
  show G2 Γ l mX1_live 12 [(0, .ref 46), (1, .ref a1)] [] s2_ K
  refine r_aload_n (dcx dX1_live_c0 6 rfl) 1 rfl ?_
  refine s_getr (b := a1 + 3) fX1_124 (dcx dX1_live_c0 7 rfl) (FL_2 h1) ?_
  refine r_iconst (v := 0) (dcx dX1_live_c0 8 rfl) rfl ?_
  refine r_aload_n (dcx dX1_live_c0 9 rfl) 0 rfl ?_
  refine s_getr (b := 49) fX1_18 (dcx dX1_live_c0 10 rfl) F46_2 ?_
  refine r_iconst (v := 0) (dcx dX1_live_c0 11 rfl) rfl ?_
  refine r_iconst (v := 4) (dcx dX1_live_c0 12 rfl) rfl ?_
  refine s_copy q999 q822 q821 q18 (dcx dX1_live_c0 13 rfl) (AL_2 h1) A49 (by decide) (by decide) (by decide) (by decide) (by decide) (by decide) (Nat.le_of_ble_eq_true rfl) ?_
  have hyp := hyp _ rfl
  generalize hs_ : sA s2_ 49 (va_cpy (s2_.1 (a1 + 3)) (s2_.1 49) 0 0 4) = s4_ at hyp
  have hs_ := hs_.symm
  show G2 Γ l mX1_live 26 _ _ (sA s2_ 49 (va_cpy (s2_.1 (a1 + 3)) (s2_.1 49) 0 0 4)) K
  rw [← hs_]
  refine r_iconst (v := 0) (dcx dX1_live_c0 14 rfl) rfl ?_
  refine r_istore_n (lv1 := [(2, .int 0), (0, .ref 46), (1, .ref a1)]) (dcx dX1_live_c0 15 rfl) (Nat.le_of_ble_eq_true rfl) rfl ?_
  refine r_loc (lv1 := [(0, .ref 46), (1, .ref a1), (2, .int 0)]) [1, 2, 0] rfl ?_
  exact hyp
set_option maxHeartbeats 4000000 in
set_option maxRecDepth 20000 in
theorem tX1_live_28 {Γ : GE} {l : Launch} {a1 : Nat} {x2 : Int32} {σ : SS} {K : Option Value → SS → Prop} (h1 : isL a1) (hyp : ∃ b1_ : Nat, σ.2.2 46 3 = b1_ ∧ isP b1_ ∧ (((σ.1 b1_ 14) ≤ x2 → (K none σ)) ∧ (¬ ((σ.1 b1_ 14) ≤ x2) → (wX1_live_41 Γ l a1 x2 0 σ K)))) : wX1_live_28 Γ l a1 x2 σ K := by
  show G2 Γ l mX1_live 28 [(0, .ref 46), (1, .ref a1), (2, .int x2)] [] σ K
  refine r_iload_n (dcx dX1_live_c0 16 rfl) 2 rfl ?_
  refine r_aload_n (dcx dX1_live_c0 17 rfl) 0 rfl ?_
  obtain ⟨b1_, eb1_, hb1_, hyp⟩ := hyp
  refine s_getmE fX1_21 (dcx dX1_live_c0 18 rfl) F46_3 eb1_ (nzP hb1_) ?_
  refine s_geti fX1_133 (dcx dX1_live_c0 19 rfl) (FP_14 hb1_) ?_
  refine r_icmp_ge (tgt := 145) (dcx dX1_live_c0 20 rfl) (by decide) (fun q_ => ?_) (fun q_ => ?_)
  · have hyp := hyp.1 q_
    exact s_vret rfl hyp (dcx dX1_live_c2 3 rfl)
  · have hyp := hyp.2 q_
    refine r_iconst (v := 0) (dcx dX1_live_c0 21 rfl) rfl ?_
    refine r_istore_n (lv1 := [(3, .int 0), (0, .ref 46), (1, .ref a1), (2, .int x2)]) (dcx dX1_live_c0 22 rfl) (Nat.le_of_ble_eq_true rfl) rfl ?_
    refine r_loc (lv1 := [(0, .ref 46), (1, .ref a1), (2, .int x2), (3, .int 0)]) [1, 2, 3, 0] rfl ?_
    exact hyp
set_option maxHeartbeats 4000000 in
set_option maxRecDepth 20000 in
theorem tX1_live_41 {Γ : GE} {l : Launch} {a1 : Nat} {x2 : Int32} {x3 : Int32} {σ : SS} {K : Option Value → SS → Prop} (h1 : isL a1) (hyp : ∃ b1_ : Nat, σ.2.2 46 3 = b1_ ∧ isP b1_ ∧ (((σ.1 b1_ 14) ≤ x3 → (wX1_live_87 Γ l a1 x2 0 σ K)) ∧ (¬ ((σ.1 b1_ 14) ≤ x3) → (∃ b2_ : Nat, σ.2.2 46 3 = b2_ ∧ isP b2_ ∧ (C2 Γ l mX6_talk [.ref b2_, .int x2, .int x3] σ (Ri fun r4_ s3_ => ((r4_ = 0 → (wX1_live_41 Γ l a1 x2 (x3 + 1) s3_ K)) ∧ (¬ (r4_ = 0) → (vp_in x2 4 ∧ (vp_in x3 4 ∧ (vp_in x2 4 ∧ (∀ s5_ : SS, s5_ = sI s3_ (a1 + 3) (Int32.toNatClampNeg x2) ((s3_.1 (a1 + 3) (Int32.toNatClampNeg x2)) ||| (s3_.1 49 (Int32.toNatClampNeg x3))) → (wX1_live_41 Γ l a1 x2 (x3 + 1) s5_ K))))))))))))) : wX1_live_41 Γ l a1 x2 x3 σ K := by
  show G2 Γ l mX1_live 41 [(0, .ref 46), (1, .ref a1), (2, .int x2), (3, .int x3)] [] σ K
  refine r_iload_n (dcx dX1_live_c0 23 rfl) 3 rfl ?_
  refine r_aload_n (dcx dX1_live_c0 24 rfl) 0 rfl ?_
  obtain ⟨b1_, eb1_, hb1_, hyp⟩ := hyp
  refine s_getmE fX1_21 (dcx dX1_live_c0 25 rfl) F46_3 eb1_ (nzP hb1_) ?_
  refine s_geti fX1_133 (dcx dX1_live_c0 26 rfl) (FP_14 hb1_) ?_
  refine r_icmp_ge (tgt := 85) (dcx dX1_live_c0 27 rfl) (by decide) (fun q_ => ?_) (fun q_ => ?_)
  · have hyp := hyp.1 q_
    refine r_iconst (v := 0) (dcx dX1_live_c1 7 rfl) rfl ?_
    refine r_istore_n (lv1 := [(3, .int 0), (0, .ref 46), (1, .ref a1), (2, .int x2)]) (dcx dX1_live_c1 8 rfl) (Nat.le_of_ble_eq_true rfl) rfl ?_
    refine r_loc (lv1 := [(0, .ref 46), (1, .ref a1), (2, .int x2), (3, .int 0)]) [1, 2, 3, 0] rfl ?_
    exact hyp
  · have hyp := hyp.2 q_
    refine r_aload_n (dcx dX1_live_c0 28 rfl) 0 rfl ?_
    obtain ⟨b2_, eb2_, hb2_, hyp⟩ := hyp
    refine s_getmE fX1_21 (dcx dX1_live_c0 29 rfl) F46_3 eb2_ (nzP hb2_) ?_
    refine r_iload_n (dcx dX1_live_c0 30 rfl) 2 rfl ?_
    refine r_iload_n (dcx dX1_live_c0 31 rfl) 3 rfl ?_
    refine s_callV (as := [.int x2, .int x3]) (st := []) zX6_talk kX1_live_136 (dcx dX1_live_c0 32 rfl) rfl rfl (Nat.le_of_ble_eq_true rfl) (OP hb2_) rfl rfl (C2.mono hyp ?_)
    rintro _ s3_ ⟨r4_, rfl, hyp⟩
    show G2 Γ l mX1_live 61 [(0, .ref 46), (1, .ref a1), (2, .int x2), (3, .int x3)] [.int r4_] s3_ K
    refine r_if_eq (tgt := 79) (dcx dX1_live_c0 33 rfl) (by decide) (fun q_ => ?_) (fun q_ => ?_)
    · have hyp := hyp.1 q_
      refine r_iinc (lv1 := [(3, .int (x3 + 1)), (0, .ref 46), (1, .ref a1), (2, .int x2)]) (dcx dX1_live_c1 5 rfl) 3 rfl (Nat.le_of_ble_eq_true rfl) rfl ?_
      refine r_goto (tgt := 41) (dcx dX1_live_c1 6 rfl) (by decide) ?_
      refine r_loc (lv1 := [(0, .ref 46), (1, .ref a1), (2, .int x2), (3, .int (x3 + 1))]) [1, 2, 3, 0] rfl ?_
      exact hyp
    · have hyp := hyp.2 q_
      refine r_aload_n (dcx dX1_live_c0 34 rfl) 1 rfl ?_
      refine s_getr (b := a1 + 3) fX1_124 (dcx dX1_live_c0 35 rfl) (FL_2 h1) ?_
      refine r_iload_n (dcx dX1_live_c0 36 rfl) 2 rfl ?_
      refine r_dup2 (dcx dX1_live_c0 37 rfl) rfl rfl ?_
      obtain ⟨hb_, hyp⟩ := hyp
      refine s_iald (dcx dX1_live_c0 38 rfl) (AL_2 h1) hb_ ?_
      refine r_aload_n (dcx dX1_live_c0 39 rfl) 0 rfl ?_
      refine s_getr (b := 49) fX1_18 (dcx dX1_live_c1 0 rfl) F46_2 ?_
      refine r_iload_n (dcx dX1_live_c1 1 rfl) 3 rfl ?_
      obtain ⟨hb_, hyp⟩ := hyp
      refine s_iald (dcx dX1_live_c1 2 rfl) A49 hb_ ?_
      refine r_ior (dcx dX1_live_c1 3 rfl) ?_
      obtain ⟨hb_, hyp⟩ := hyp
      refine s_iast (dcx dX1_live_c1 4 rfl) (AL_2 h1) hb_ ?_
      obtain ⟨s5_, es5_⟩ : ∃ z : SS, z = sI s3_ (a1 + 3) (Int32.toNatClampNeg x2) ((s3_.1 (a1 + 3) (Int32.toNatClampNeg x2)) ||| (s3_.1 49 (Int32.toNatClampNeg x3))) := ⟨_, rfl⟩
      rw [← es5_]
      have hyp := hyp s5_ es5_
      refine r_iinc (lv1 := [(3, .int (x3 + 1)), (0, .ref 46), (1, .ref a1), (2, .int x2)]) (dcx dX1_live_c1 5 rfl) 3 rfl (Nat.le_of_ble_eq_true rfl) rfl ?_
      refine r_goto (tgt := 41) (dcx dX1_live_c1 6 rfl) (by decide) ?_
      refine r_loc (lv1 := [(0, .ref 46), (1, .ref a1), (2, .int x2), (3, .int (x3 + 1))]) [1, 2, 3, 0] rfl ?_
      exact hyp
set_option maxHeartbeats 4000000 in
set_option maxRecDepth 20000 in
theorem tX1_live_87 {Γ : GE} {l : Launch} {a1 : Nat} {x2 : Int32} {x3 : Int32} {σ : SS} {K : Option Value → SS → Prop} (h1 : isL a1) (hyp : ∃ b1_ : Nat, σ.2.2 46 3 = b1_ ∧ isP b1_ ∧ (((σ.1 b1_ 13) ≤ x3 → (wX1_live_28 Γ l a1 (x2 + 1) σ K)) ∧ (¬ ((σ.1 b1_ 13) ≤ x3) → (vp_in x2 4 ∧ ((¬ (((σ.1 (a1 + 3) (Int32.toNatClampNeg x2)) >>> (x3 &&& 31)) &&& 1) = 0 → (wX1_live_87 Γ l a1 x2 (x3 + 1) σ K)) ∧ ((((σ.1 (a1 + 3) (Int32.toNatClampNeg x2)) >>> (x3 &&& 31)) &&& 1) = 0 → (C2 Γ l mX1_readsAnywhere [.ref 46, .ref a1, .int x2, .int x3] σ (Ri fun r3_ s2_ => ((r3_ = 0 → (wX1_live_87 Γ l a1 x2 (x3 + 1) s2_ K)) ∧ (¬ (r3_ = 0) → (vp_in x2 4 ∧ (vp_in x2 4 ∧ (∀ s4_ : SS, s4_ = sI s2_ (a1 + 3) (Int32.toNatClampNeg x2) ((s2_.1 (a1 + 3) (Int32.toNatClampNeg x2)) ||| (1 <<< (x3 &&& 31))) → (wX1_live_87 Γ l a1 x2 (x3 + 1) s4_ K)))))))))))))) : wX1_live_87 Γ l a1 x2 x3 σ K := by
  show G2 Γ l mX1_live 87 [(0, .ref 46), (1, .ref a1), (2, .int x2), (3, .int x3)] [] σ K
  refine r_iload_n (dcx dX1_live_c1 9 rfl) 3 rfl ?_
  refine r_aload_n (dcx dX1_live_c1 10 rfl) 0 rfl ?_
  obtain ⟨b1_, eb1_, hb1_, hyp⟩ := hyp
  refine s_getmE fX1_21 (dcx dX1_live_c1 11 rfl) F46_3 eb1_ (nzP hb1_) ?_
  refine s_geti fX1_139 (dcx dX1_live_c1 12 rfl) (FP_13 hb1_) ?_
  refine r_icmp_ge (tgt := 139) (dcx dX1_live_c1 13 rfl) (by decide) (fun q_ => ?_) (fun q_ => ?_)
  · have hyp := hyp.1 q_
    refine r_iinc (lv1 := [(2, .int (x2 + 1)), (0, .ref 46), (1, .ref a1), (3, .int x3)]) (dcx dX1_live_c2 1 rfl) 2 rfl (Nat.le_of_ble_eq_true rfl) rfl ?_
    refine r_goto (tgt := 28) (dcx dX1_live_c2 2 rfl) (by decide) ?_
    refine r_loc (lv1 := [(0, .ref 46), (1, .ref a1), (2, .int (x2 + 1))]) [1, 2, 0] rfl ?_
    exact hyp
  · have hyp := hyp.2 q_
    refine r_aload_n (dcx dX1_live_c1 14 rfl) 1 rfl ?_
    refine s_getr (b := a1 + 3) fX1_124 (dcx dX1_live_c1 15 rfl) (FL_2 h1) ?_
    refine r_iload_n (dcx dX1_live_c1 16 rfl) 2 rfl ?_
    obtain ⟨hb_, hyp⟩ := hyp
    refine s_iald (dcx dX1_live_c1 17 rfl) (AL_2 h1) hb_ ?_
    refine r_iload_n (dcx dX1_live_c1 18 rfl) 3 rfl ?_
    refine r_ishr (dcx dX1_live_c1 19 rfl) ?_
    refine r_iconst (v := 1) (dcx dX1_live_c1 20 rfl) rfl ?_
    refine r_iand (dcx dX1_live_c1 21 rfl) ?_
    refine r_if_ne (tgt := 133) (dcx dX1_live_c1 22 rfl) (by decide) (fun q_ => ?_) (fun q_ => ?_)
    · have hyp := hyp.1 q_
      refine r_iinc (lv1 := [(3, .int (x3 + 1)), (0, .ref 46), (1, .ref a1), (2, .int x2)]) (dcx dX1_live_c1 39 rfl) 3 rfl (Nat.le_of_ble_eq_true rfl) rfl ?_
      refine r_goto (tgt := 87) (dcx dX1_live_c2 0 rfl) (by decide) ?_
      refine r_loc (lv1 := [(0, .ref 46), (1, .ref a1), (2, .int x2), (3, .int (x3 + 1))]) [1, 2, 3, 0] rfl ?_
      exact hyp
    · have hyp := hyp.2 q_
      refine r_aload_n (dcx dX1_live_c1 23 rfl) 0 rfl ?_
      refine r_aload_n (dcx dX1_live_c1 24 rfl) 1 rfl ?_
      refine r_iload_n (dcx dX1_live_c1 25 rfl) 2 rfl ?_
      refine r_iload_n (dcx dX1_live_c1 26 rfl) 3 rfl ?_
      refine s_callV (as := [.ref a1, .int x2, .int x3]) (st := []) zX1_readsAnywhere kX1_live_142 (dcx dX1_live_c1 27 rfl) rfl rfl (Nat.le_of_ble_eq_true rfl) O46 rfl rfl (C2.mono hyp ?_)
      rintro _ s2_ ⟨r3_, rfl, hyp⟩
      show G2 Γ l mX1_live 118 [(0, .ref 46), (1, .ref a1), (2, .int x2), (3, .int x3)] [.int r3_] s2_ K
      refine r_if_eq (tgt := 133) (dcx dX1_live_c1 28 rfl) (by decide) (fun q_ => ?_) (fun q_ => ?_)
      · have hyp := hyp.1 q_
        refine r_iinc (lv1 := [(3, .int (x3 + 1)), (0, .ref 46), (1, .ref a1), (2, .int x2)]) (dcx dX1_live_c1 39 rfl) 3 rfl (Nat.le_of_ble_eq_true rfl) rfl ?_
        refine r_goto (tgt := 87) (dcx dX1_live_c2 0 rfl) (by decide) ?_
        refine r_loc (lv1 := [(0, .ref 46), (1, .ref a1), (2, .int x2), (3, .int (x3 + 1))]) [1, 2, 3, 0] rfl ?_
        exact hyp
      · have hyp := hyp.2 q_
        refine r_aload_n (dcx dX1_live_c1 29 rfl) 1 rfl ?_
        refine s_getr (b := a1 + 3) fX1_124 (dcx dX1_live_c1 30 rfl) (FL_2 h1) ?_
        refine r_iload_n (dcx dX1_live_c1 31 rfl) 2 rfl ?_
        refine r_dup2 (dcx dX1_live_c1 32 rfl) rfl rfl ?_
        obtain ⟨hb_, hyp⟩ := hyp
        refine s_iald (dcx dX1_live_c1 33 rfl) (AL_2 h1) hb_ ?_
        refine r_iconst (v := 1) (dcx dX1_live_c1 34 rfl) rfl ?_
        refine r_iload_n (dcx dX1_live_c1 35 rfl) 3 rfl ?_
        refine r_ishl (dcx dX1_live_c1 36 rfl) ?_
        refine r_ior (dcx dX1_live_c1 37 rfl) ?_
        obtain ⟨hb_, hyp⟩ := hyp
        refine s_iast (dcx dX1_live_c1 38 rfl) (AL_2 h1) hb_ ?_
        obtain ⟨s4_, es4_⟩ : ∃ z : SS, z = sI s2_ (a1 + 3) (Int32.toNatClampNeg x2) ((s2_.1 (a1 + 3) (Int32.toNatClampNeg x2)) ||| (1 <<< (x3 &&& 31))) := ⟨_, rfl⟩
        rw [← es4_]
        have hyp := hyp s4_ es4_
        refine r_iinc (lv1 := [(3, .int (x3 + 1)), (0, .ref 46), (1, .ref a1), (2, .int x2)]) (dcx dX1_live_c1 39 rfl) 3 rfl (Nat.le_of_ble_eq_true rfl) rfl ?_
        refine r_goto (tgt := 87) (dcx dX1_live_c2 0 rfl) (by decide) ?_
        refine r_loc (lv1 := [(0, .ref 46), (1, .ref a1), (2, .int x2), (3, .int (x3 + 1))]) [1, 2, 3, 0] rfl ?_
        exact hyp
def wX1_standsOut_25 (Γ : GE) (l : Launch) (a1 : Nat) (x2 : Int32) (x3 : Int32) (x4 : Int32) (x5 : Int32) (x6 : Int32) (x7 : Int32) (σ : SS) (K : Option Value → SS → Prop) : Prop := G2 Γ l mX1_standsOut 25 [(0, .ref 46), (1, .ref a1), (2, .int x2), (3, .int x3), (4, .int x4), (5, .int x5), (6, .int x6), (7, .int x7)] [] σ K
set_option maxHeartbeats 4000000 in
set_option maxRecDepth 20000 in
theorem tX1_standsOut {Γ : GE} {l : Launch} {a1 : Nat} {x2 : Int32} {x3 : Int32} {x4 : Int32} {σ : SS} {K : Option Value → SS → Prop} (h1 : isL a1) (hyp : ∃ b1_ : Nat, σ.2.2 46 3 = b1_ ∧ isP b1_ ∧ (C2 Γ l mX6_isReadable [.ref b1_, .int x2] σ (Ri fun r3_ s2_ => ((¬ r3_ = 0 → (wX1_standsOut_25 Γ l a1 x2 x3 x4 99 0 0 s2_ K)) ∧ (r3_ = 0 → (K (some (.int ((-1000)))) s2_)))))) : C2 Γ l mX1_standsOut [.ref 46, .ref a1, .int x2, .int x3, .int x4] σ K := by
  refine c2_of (lv := [(0, .ref 46), (1, .ref a1), (2, .int x2), (3, .int x3), (4, .int x4)]) (by decide) (Nat.le_of_ble_eq_true rfl) rfl ?_
  refine r_aload_n (dcx dX1_standsOut_c0 0 rfl) 0 rfl ?_
  obtain ⟨b1_, eb1_, hb1_, hyp⟩ := hyp
  refine s_getmE fX1_21 (dcx dX1_standsOut_c0 1 rfl) F46_3 eb1_ (nzP hb1_) ?_
  refine r_iload_n (dcx dX1_standsOut_c0 2 rfl) 2 rfl ?_
  refine s_callV (as := [.int x2]) (st := []) zX6_isReadable kX1_standsOut_146 (dcx dX1_standsOut_c0 3 rfl) rfl rfl (Nat.le_of_ble_eq_true rfl) (OP hb1_) rfl rfl (C2.mono hyp ?_)
  rintro _ s2_ ⟨r3_, rfl, hyp⟩
  show G2 Γ l mX1_standsOut 8 [(0, .ref 46), (1, .ref a1), (2, .int x2), (3, .int x3), (4, .int x4)] [.int r3_] s2_ K
  refine r_if_ne (tgt := 15) (dcx dX1_standsOut_c0 4 rfl) (by decide) (fun q_ => ?_) (fun q_ => ?_)
  · have hyp := hyp.1 q_
    refine r_bipush (v := 99) (dcx dX1_standsOut_c0 7 rfl) rfl ?_
    refine r_istore (lv1 := [(5, .int 99), (0, .ref 46), (1, .ref a1), (2, .int x2), (3, .int x3), (4, .int x4)]) (dcx dX1_standsOut_c0 8 rfl) (Nat.le_of_ble_eq_true rfl) rfl ?_
    refine r_iconst (v := 0) (dcx dX1_standsOut_c0 9 rfl) rfl ?_
    refine r_istore (lv1 := [(6, .int 0), (5, .int 99), (0, .ref 46), (1, .ref a1), (2, .int x2), (3, .int x3), (4, .int x4)]) (dcx dX1_standsOut_c0 10 rfl) (Nat.le_of_ble_eq_true rfl) rfl ?_
    refine r_iconst (v := 0) (dcx dX1_standsOut_c0 11 rfl) rfl ?_
    refine r_istore (lv1 := [(7, .int 0), (6, .int 0), (5, .int 99), (0, .ref 46), (1, .ref a1), (2, .int x2), (3, .int x3), (4, .int x4)]) (dcx dX1_standsOut_c0 12 rfl) (Nat.le_of_ble_eq_true rfl) rfl ?_
    refine r_loc (lv1 := [(0, .ref 46), (1, .ref a1), (2, .int x2), (3, .int x3), (4, .int x4), (5, .int 99), (6, .int 0), (7, .int 0)]) [3, 4, 5, 6, 7, 2, 1, 0] rfl ?_
    exact hyp
  · have hyp := hyp.2 q_
    refine r_sipush (v := (-1000)) (dcx dX1_standsOut_c0 5 rfl) rfl ?_
    exact s_ret rfl rfl rfl hyp (dcx dX1_standsOut_c0 6 rfl)
set_option maxHeartbeats 4000000 in
set_option maxRecDepth 20000 in
theorem tX1_standsOut_25 {Γ : GE} {l : Launch} {a1 : Nat} {x2 : Int32} {x3 : Int32} {x4 : Int32} {x5 : Int32} {x6 : Int32} {x7 : Int32} {σ : SS} {K : Option Value → SS → Prop} (h1 : isL a1) (hyp : ((9 : Int32) ≤ x7 → (K (some (.int (x5 - x6))) σ)) ∧ (¬ ((9 : Int32) ≤ x7) → (C2 Γ l mX9_indexOf [.int (x3 + (x7 - x7 / 3 * 3)), .int (x4 + (x7 / 3))] σ (Ri fun r2_ s1_ => (vp_in r2_ 80 ∧ (∃ b3_ : Nat, s1_.2.2 46 3 = b3_ ∧ isP b3_ ∧ (C2 Γ l mX6_isCutAt [.ref b3_, .int x2, .int x7] s1_ (Ri fun r5_ s4_ => ((r5_ = 0 → (wX1_standsOut_25 Γ l a1 x2 x3 x4 (imn x5 (s1_.1 (a1 + 1) (Int32.toNatClampNeg r2_))) x6 (x7 + 1) s4_ K)) ∧ (¬ (r5_ = 0) → (wX1_standsOut_25 Γ l a1 x2 x3 x4 x5 (imx x6 (s1_.1 (a1 + 1) (Int32.toNatClampNeg r2_))) (x7 + 1) s4_ K))))))))))) : wX1_standsOut_25 Γ l a1 x2 x3 x4 x5 x6 x7 σ K := by
  show G2 Γ l mX1_standsOut 25 [(0, .ref 46), (1, .ref a1), (2, .int x2), (3, .int x3), (4, .int x4), (5, .int x5), (6, .int x6), (7, .int x7)] [] σ K
  refine r_iload (dcx dX1_standsOut_c0 13 rfl) 7 rfl ?_
  refine r_bipush (v := 9) (dcx dX1_standsOut_c0 14 rfl) rfl ?_
  refine r_icmp_ge (tgt := 95) (dcx dX1_standsOut_c0 15 rfl) (by decide) (fun q_ => ?_) (fun q_ => ?_)
  · have hyp := hyp.1 q_
    refine r_iload (dcx dX1_standsOut_c1 8 rfl) 5 rfl ?_
    refine r_iload (dcx dX1_standsOut_c1 9 rfl) 6 rfl ?_
    refine r_isub (dcx dX1_standsOut_c1 10 rfl) ?_
    exact s_ret rfl rfl rfl hyp (dcx dX1_standsOut_c1 11 rfl)
  · have hyp := hyp.2 q_
    refine r_aload_n (dcx dX1_standsOut_c0 16 rfl) 1 rfl ?_
    refine s_getr (b := a1 + 1) fX1_46 (dcx dX1_standsOut_c0 17 rfl) (FL_0 h1) ?_
    refine r_iload_n (dcx dX1_standsOut_c0 18 rfl) 3 rfl ?_
    refine r_iload (dcx dX1_standsOut_c0 19 rfl) 7 rfl ?_
    refine r_iconst (v := 3) (dcx dX1_standsOut_c0 20 rfl) rfl ?_
    refine r_irem (dcx dX1_standsOut_c0 21 rfl) (by decide) ?_
    refine r_iadd (dcx dX1_standsOut_c0 22 rfl) ?_
    refine r_iload (dcx dX1_standsOut_c0 23 rfl) 4 rfl ?_
    refine r_iload (dcx dX1_standsOut_c0 24 rfl) 7 rfl ?_
    refine r_iconst (v := 3) (dcx dX1_standsOut_c0 25 rfl) rfl ?_
    refine r_idiv (dcx dX1_standsOut_c0 26 rfl) (by decide) ?_
    refine r_iadd (dcx dX1_standsOut_c0 27 rfl) ?_
    refine s_callSN (as := [.int (x3 + (x7 - x7 / 3 * 3)), .int (x4 + (x7 / 3))]) (st := [.ref (a1 + 1)]) zX9_indexOf kX1_standsOut_43 (dcx dX1_standsOut_c0 28 rfl) rfl rfl (Nat.le_of_ble_eq_true rfl) (C2.mono hyp ?_)
    rintro _ s1_ ⟨r2_, rfl, hyp⟩
    show G2 Γ l mX1_standsOut 52 [(0, .ref 46), (1, .ref a1), (2, .int x2), (3, .int x3), (4, .int x4), (5, .int x5), (6, .int x6), (7, .int x7)] [.int r2_, .ref (a1 + 1)] s1_ K
    obtain ⟨hb_, hyp⟩ := hyp
    refine s_iald (dcx dX1_standsOut_c0 29 rfl) (AL_0 h1) hb_ ?_
    refine r_istore (lv1 := [(8, .int (s1_.1 (a1 + 1) (Int32.toNatClampNeg r2_))), (0, .ref 46), (1, .ref a1), (2, .int x2), (3, .int x3), (4, .int x4), (5, .int x5), (6, .int x6), (7, .int x7)]) (dcx dX1_standsOut_c0 30 rfl) (Nat.le_of_ble_eq_true rfl) rfl ?_
    refine r_aload_n (dcx dX1_standsOut_c0 31 rfl) 1 rfl ?_
    obtain ⟨b3_, eb3_, hb3_, hyp⟩ := hyp
    refine s_getmE fX1_21 (dcx dX1_standsOut_c0 32 rfl) F46_3 eb3_ (nzP hb3_) ?_
    refine r_iload_n (dcx dX1_standsOut_c0 33 rfl) 3 rfl ?_
    refine r_iload (dcx dX1_standsOut_c0 34 rfl) 8 rfl ?_
    refine s_callV (as := [.int x2, .int x7]) (st := []) zX6_isCutAt kX1_standsOut_100 (dcx dX1_standsOut_c0 35 rfl) rfl rfl (Nat.le_of_ble_eq_true rfl) (OP hb3_) rfl rfl (C2.mono hyp ?_)
    rintro _ s4_ ⟨r5_, rfl, hyp⟩
    show G2 Γ l mX1_standsOut 65 [(8, .int (s1_.1 (a1 + 1) (Int32.toNatClampNeg r2_))), (0, .ref 46), (1, .ref a1), (2, .int x2), (3, .int x3), (4, .int x4), (5, .int x5), (6, .int x6), (7, .int x7)] [.int r5_] s4_ K
    refine r_if_eq (tgt := 80) (dcx dX1_standsOut_c0 36 rfl) (by decide) (fun q_ => ?_) (fun q_ => ?_)
    · have hyp := hyp.1 q_
      refine r_iload (dcx dX1_standsOut_c1 2 rfl) 6 rfl ?_
      refine r_iload (dcx dX1_standsOut_c1 3 rfl) 0 rfl ?_
      refine r_min q912 q611 q16 q612 (by decide) (Nat.le_of_ble_eq_true rfl) (Nat.zero_le _) (Nat.zero_le _) (dcx dX1_standsOut_c1 4 rfl) ?_
      refine r_istore (lv1 := [(5, .int (imn x5 (s1_.1 (a1 + 1) (Int32.toNatClampNeg r2_)))), (8, .int (s1_.1 (a1 + 1) (Int32.toNatClampNeg r2_))), (0, .ref 46), (1, .ref a1), (2, .int x2), (3, .int x3), (4, .int x4), (6, .int x6), (7, .int x7)]) (dcx dX1_standsOut_c1 5 rfl) (Nat.le_of_ble_eq_true rfl) rfl ?_
      refine r_iinc (lv1 := [(7, .int (x7 + 1)), (5, .int (imn x5 (s1_.1 (a1 + 1) (Int32.toNatClampNeg r2_)))), (8, .int (s1_.1 (a1 + 1) (Int32.toNatClampNeg r2_))), (0, .ref 46), (1, .ref a1), (2, .int x2), (3, .int x3), (4, .int x4), (6, .int x6)]) (dcx dX1_standsOut_c1 6 rfl) 8 rfl (Nat.le_of_ble_eq_true rfl) rfl ?_
      refine r_goto (tgt := 25) (dcx dX1_standsOut_c1 7 rfl) (by decide) ?_
      refine r_loc (lv1 := [(0, .ref 46), (1, .ref a1), (2, .int x2), (3, .int x3), (4, .int x4), (5, .int (imn x5 (s1_.1 (a1 + 1) (Int32.toNatClampNeg r2_)))), (6, .int x6), (7, .int (x7 + 1))]) [3, 4, 5, 6, 7, 1, 8, 0] rfl ?_
      exact hyp
    · have hyp := hyp.2 q_
      refine r_iload (dcx dX1_standsOut_c0 37 rfl) 7 rfl ?_
      refine r_iload (dcx dX1_standsOut_c0 38 rfl) 0 rfl ?_
      refine r_max q852 q608 q16 q609 (by decide) (Nat.le_of_ble_eq_true rfl) (Nat.zero_le _) (Nat.zero_le _) (dcx dX1_standsOut_c0 39 rfl) ?_
      refine r_istore (lv1 := [(6, .int (imx x6 (s1_.1 (a1 + 1) (Int32.toNatClampNeg r2_)))), (8, .int (s1_.1 (a1 + 1) (Int32.toNatClampNeg r2_))), (0, .ref 46), (1, .ref a1), (2, .int x2), (3, .int x3), (4, .int x4), (5, .int x5), (7, .int x7)]) (dcx dX1_standsOut_c1 0 rfl) (Nat.le_of_ble_eq_true rfl) rfl ?_
      refine r_goto (tgt := 89) (dcx dX1_standsOut_c1 1 rfl) (by decide) ?_
      refine r_iinc (lv1 := [(7, .int (x7 + 1)), (6, .int (imx x6 (s1_.1 (a1 + 1) (Int32.toNatClampNeg r2_)))), (8, .int (s1_.1 (a1 + 1) (Int32.toNatClampNeg r2_))), (0, .ref 46), (1, .ref a1), (2, .int x2), (3, .int x3), (4, .int x4), (5, .int x5)]) (dcx dX1_standsOut_c1 6 rfl) 8 rfl (Nat.le_of_ble_eq_true rfl) rfl ?_
      refine r_goto (tgt := 25) (dcx dX1_standsOut_c1 7 rfl) (by decide) ?_
      refine r_loc (lv1 := [(0, .ref 46), (1, .ref a1), (2, .int x2), (3, .int x3), (4, .int x4), (5, .int x5), (6, .int (imx x6 (s1_.1 (a1 + 1) (Int32.toNatClampNeg r2_)))), (7, .int (x7 + 1))]) [3, 4, 5, 6, 7, 8, 1, 0] rfl ?_
      exact hyp
def wX1_leastLeft_7 (Γ : GE) (l : Launch) (a1 : Nat) (x2 : Int32) (x3 : Int32) (x4 : Int32) (x5 : Int32) (x6 : Int32) (σ : SS) (K : Option Value → SS → Prop) : Prop := G2 Γ l mX1_leastLeft 7 [(0, .ref 46), (1, .ref a1), (2, .int x2), (3, .int x3), (4, .int x4), (5, .int x5), (6, .int x6)] [] σ K
set_option maxHeartbeats 4000000 in
set_option maxRecDepth 20000 in
theorem tX1_leastLeft {Γ : GE} {l : Launch} {a1 : Nat} {x2 : Int32} {x3 : Int32} {x4 : Int32} {σ : SS} {K : Option Value → SS → Prop} (h1 : isL a1) (hyp : wX1_leastLeft_7 Γ l a1 x2 x3 x4 99 0 σ K) : C2 Γ l mX1_leastLeft [.ref 46, .ref a1, .int x2, .int x3, .int x4] σ K := by
  refine c2_of (lv := [(0, .ref 46), (1, .ref a1), (2, .int x2), (3, .int x3), (4, .int x4)]) (by decide) (Nat.le_of_ble_eq_true rfl) rfl ?_
  refine r_bipush (v := 99) (dcx dX1_leastLeft_c0 0 rfl) rfl ?_
  refine r_istore (lv1 := [(5, .int 99), (0, .ref 46), (1, .ref a1), (2, .int x2), (3, .int x3), (4, .int x4)]) (dcx dX1_leastLeft_c0 1 rfl) (Nat.le_of_ble_eq_true rfl) rfl ?_
  refine r_iconst (v := 0) (dcx dX1_leastLeft_c0 2 rfl) rfl ?_
  refine r_istore (lv1 := [(6, .int 0), (5, .int 99), (0, .ref 46), (1, .ref a1), (2, .int x2), (3, .int x3), (4, .int x4)]) (dcx dX1_leastLeft_c0 3 rfl) (Nat.le_of_ble_eq_true rfl) rfl ?_
  refine r_loc (lv1 := [(0, .ref 46), (1, .ref a1), (2, .int x2), (3, .int x3), (4, .int x4), (5, .int 99), (6, .int 0)]) [2, 3, 4, 5, 6, 1, 0] rfl ?_
  exact hyp
set_option maxHeartbeats 4000000 in
set_option maxRecDepth 20000 in
theorem tX1_leastLeft_7 {Γ : GE} {l : Launch} {a1 : Nat} {x2 : Int32} {x3 : Int32} {x4 : Int32} {x5 : Int32} {x6 : Int32} {σ : SS} {K : Option Value → SS → Prop} (h1 : isL a1) (hyp : ((9 : Int32) ≤ x6 → (K (some (.int x5)) σ)) ∧ (¬ ((9 : Int32) ≤ x6) → (∃ b1_ : Nat, σ.2.2 46 3 = b1_ ∧ isP b1_ ∧ (C2 Γ l mX6_isCutAt [.ref b1_, .int x2, .int x6] σ (Ri fun r3_ s2_ => ((¬ r3_ = 0 → (wX1_leastLeft_7 Γ l a1 x2 x3 x4 x5 (x6 + 1) s2_ K)) ∧ (r3_ = 0 → (C2 Γ l mX9_indexOf [.int (x3 + (x6 - x6 / 3 * 3)), .int (x4 + (x6 / 3))] s2_ (Ri fun r5_ s4_ => (vp_in r5_ 80 ∧ (wX1_leastLeft_7 Γ l a1 x2 x3 x4 (imn x5 (s4_.1 (a1 + 1) (Int32.toNatClampNeg r5_))) (x6 + 1) s4_ K))))))))))) : wX1_leastLeft_7 Γ l a1 x2 x3 x4 x5 x6 σ K := by
  show G2 Γ l mX1_leastLeft 7 [(0, .ref 46), (1, .ref a1), (2, .int x2), (3, .int x3), (4, .int x4), (5, .int x5), (6, .int x6)] [] σ K
  refine r_iload (dcx dX1_leastLeft_c0 4 rfl) 6 rfl ?_
  refine r_bipush (v := 9) (dcx dX1_leastLeft_c0 5 rfl) rfl ?_
  refine r_icmp_ge (tgt := 61) (dcx dX1_leastLeft_c0 6 rfl) (by decide) (fun q_ => ?_) (fun q_ => ?_)
  · have hyp := hyp.1 q_
    refine r_iload (dcx dX1_leastLeft_c0 32 rfl) 5 rfl ?_
    exact s_ret rfl rfl rfl hyp (dcx dX1_leastLeft_c0 33 rfl)
  · have hyp := hyp.2 q_
    refine r_aload_n (dcx dX1_leastLeft_c0 7 rfl) 0 rfl ?_
    obtain ⟨b1_, eb1_, hb1_, hyp⟩ := hyp
    refine s_getmE fX1_21 (dcx dX1_leastLeft_c0 8 rfl) F46_3 eb1_ (nzP hb1_) ?_
    refine r_iload_n (dcx dX1_leastLeft_c0 9 rfl) 2 rfl ?_
    refine r_iload (dcx dX1_leastLeft_c0 10 rfl) 6 rfl ?_
    refine s_callV (as := [.int x2, .int x6]) (st := []) zX6_isCutAt kX1_leastLeft_100 (dcx dX1_leastLeft_c0 11 rfl) rfl rfl (Nat.le_of_ble_eq_true rfl) (OP hb1_) rfl rfl (C2.mono hyp ?_)
    rintro _ s2_ ⟨r3_, rfl, hyp⟩
    show G2 Γ l mX1_leastLeft 24 [(0, .ref 46), (1, .ref a1), (2, .int x2), (3, .int x3), (4, .int x4), (5, .int x5), (6, .int x6)] [.int r3_] s2_ K
    refine r_if_ne (tgt := 55) (dcx dX1_leastLeft_c0 12 rfl) (by decide) (fun q_ => ?_) (fun q_ => ?_)
    · have hyp := hyp.1 q_
      refine r_iinc (lv1 := [(6, .int (x6 + 1)), (0, .ref 46), (1, .ref a1), (2, .int x2), (3, .int x3), (4, .int x4), (5, .int x5)]) (dcx dX1_leastLeft_c0 30 rfl) 6 rfl (Nat.le_of_ble_eq_true rfl) rfl ?_
      refine r_goto (tgt := 7) (dcx dX1_leastLeft_c0 31 rfl) (by decide) ?_
      refine r_loc (lv1 := [(0, .ref 46), (1, .ref a1), (2, .int x2), (3, .int x3), (4, .int x4), (5, .int x5), (6, .int (x6 + 1))]) [1, 2, 3, 4, 5, 6, 0] rfl ?_
      exact hyp
    · have hyp := hyp.2 q_
      refine r_iload (dcx dX1_leastLeft_c0 13 rfl) 5 rfl ?_
      refine r_aload_n (dcx dX1_leastLeft_c0 14 rfl) 1 rfl ?_
      refine s_getr (b := a1 + 1) fX1_46 (dcx dX1_leastLeft_c0 15 rfl) (FL_0 h1) ?_
      refine r_iload_n (dcx dX1_leastLeft_c0 16 rfl) 3 rfl ?_
      refine r_iload (dcx dX1_leastLeft_c0 17 rfl) 6 rfl ?_
      refine r_iconst (v := 3) (dcx dX1_leastLeft_c0 18 rfl) rfl ?_
      refine r_irem (dcx dX1_leastLeft_c0 19 rfl) (by decide) ?_
      refine r_iadd (dcx dX1_leastLeft_c0 20 rfl) ?_
      refine r_iload (dcx dX1_leastLeft_c0 21 rfl) 4 rfl ?_
      refine r_iload (dcx dX1_leastLeft_c0 22 rfl) 6 rfl ?_
      refine r_iconst (v := 3) (dcx dX1_leastLeft_c0 23 rfl) rfl ?_
      refine r_idiv (dcx dX1_leastLeft_c0 24 rfl) (by decide) ?_
      refine r_iadd (dcx dX1_leastLeft_c0 25 rfl) ?_
      refine s_callSN (as := [.int (x3 + (x6 - x6 / 3 * 3)), .int (x4 + (x6 / 3))]) (st := [.ref (a1 + 1), .int x5]) zX9_indexOf kX1_leastLeft_43 (dcx dX1_leastLeft_c0 26 rfl) rfl rfl (Nat.le_of_ble_eq_true rfl) (C2.mono hyp ?_)
      rintro _ s4_ ⟨r5_, rfl, hyp⟩
      show G2 Γ l mX1_leastLeft 49 [(0, .ref 46), (1, .ref a1), (2, .int x2), (3, .int x3), (4, .int x4), (5, .int x5), (6, .int x6)] [.int r5_, .ref (a1 + 1), .int x5] s4_ K
      obtain ⟨hb_, hyp⟩ := hyp
      refine s_iald (dcx dX1_leastLeft_c0 27 rfl) (AL_0 h1) hb_ ?_
      refine r_min q912 q611 q16 q612 (by decide) (Nat.le_of_ble_eq_true rfl) (Nat.zero_le _) (Nat.zero_le _) (dcx dX1_leastLeft_c0 28 rfl) ?_
      refine r_istore (lv1 := [(5, .int (imn x5 (s4_.1 (a1 + 1) (Int32.toNatClampNeg r5_)))), (0, .ref 46), (1, .ref a1), (2, .int x2), (3, .int x3), (4, .int x4), (6, .int x6)]) (dcx dX1_leastLeft_c0 29 rfl) (Nat.le_of_ble_eq_true rfl) rfl ?_
      refine r_iinc (lv1 := [(6, .int (x6 + 1)), (5, .int (imn x5 (s4_.1 (a1 + 1) (Int32.toNatClampNeg r5_)))), (0, .ref 46), (1, .ref a1), (2, .int x2), (3, .int x3), (4, .int x4)]) (dcx dX1_leastLeft_c0 30 rfl) 6 rfl (Nat.le_of_ble_eq_true rfl) rfl ?_
      refine r_goto (tgt := 7) (dcx dX1_leastLeft_c0 31 rfl) (by decide) ?_
      refine r_loc (lv1 := [(0, .ref 46), (1, .ref a1), (2, .int x2), (3, .int x3), (4, .int x4), (5, .int (imn x5 (s4_.1 (a1 + 1) (Int32.toNatClampNeg r5_)))), (6, .int (x6 + 1))]) [2, 3, 4, 5, 6, 1, 0] rfl ?_
      exact hyp
def wX1_tooTall_6 (Γ : GE) (l : Launch) (a1 : Nat) (x2 : Int32) (x3 : Int32) (x4 : Int32) (x5 : Int32) (x6 : Int32) (x7 : Int32) (σ : SS) (K : Option Value → SS → Prop) : Prop := G2 Γ l mX1_tooTall 6 [(0, .ref 46), (1, .ref a1), (2, .int x2), (3, .int x3), (4, .int x4), (5, .int x5), (6, .int x6), (7, .int x7)] [] σ K
set_option maxHeartbeats 4000000 in
set_option maxRecDepth 20000 in
theorem tX1_tooTall {Γ : GE} {l : Launch} {a1 : Nat} {x2 : Int32} {x3 : Int32} {x4 : Int32} {x5 : Int32} {σ : SS} {K : Option Value → SS → Prop} (h1 : isL a1) (hyp : wX1_tooTall_6 Γ l a1 x2 x3 x4 x5 0 0 σ K) : C2 Γ l mX1_tooTall [.ref 46, .ref a1, .int x2, .int x3, .int x4, .int x5] σ K := by
  refine c2_of (lv := [(0, .ref 46), (1, .ref a1), (2, .int x2), (3, .int x3), (4, .int x4), (5, .int x5)]) (by decide) (Nat.le_of_ble_eq_true rfl) rfl ?_
  refine r_iconst (v := 0) (dcx dX1_tooTall_c0 0 rfl) rfl ?_
  refine r_istore (lv1 := [(6, .int 0), (0, .ref 46), (1, .ref a1), (2, .int x2), (3, .int x3), (4, .int x4), (5, .int x5)]) (dcx dX1_tooTall_c0 1 rfl) (Nat.le_of_ble_eq_true rfl) rfl ?_
  refine r_iconst (v := 0) (dcx dX1_tooTall_c0 2 rfl) rfl ?_
  refine r_istore (lv1 := [(7, .int 0), (6, .int 0), (0, .ref 46), (1, .ref a1), (2, .int x2), (3, .int x3), (4, .int x4), (5, .int x5)]) (dcx dX1_tooTall_c0 3 rfl) (Nat.le_of_ble_eq_true rfl) rfl ?_
  refine r_loc (lv1 := [(0, .ref 46), (1, .ref a1), (2, .int x2), (3, .int x3), (4, .int x4), (5, .int x5), (6, .int 0), (7, .int 0)]) [2, 3, 4, 5, 6, 7, 1, 0] rfl ?_
  exact hyp
set_option maxHeartbeats 4000000 in
set_option maxRecDepth 20000 in
theorem tX1_tooTall_6 {Γ : GE} {l : Launch} {a1 : Nat} {x2 : Int32} {x3 : Int32} {x4 : Int32} {x5 : Int32} {x6 : Int32} {x7 : Int32} {σ : SS} {K : Option Value → SS → Prop} (h1 : isL a1) (hyp : ((9 : Int32) ≤ x7 → (K (some (.int x6)) σ)) ∧ (¬ ((9 : Int32) ≤ x7) → (∃ b1_ : Nat, σ.2.2 46 3 = b1_ ∧ isP b1_ ∧ (C2 Γ l mX6_isCutAt [.ref b1_, .int x2, .int x7] σ (Ri fun r3_ s2_ => ((r3_ = 0 → (wX1_tooTall_6 Γ l a1 x2 x3 x4 x5 x6 (x7 + 1) s2_ K)) ∧ (¬ (r3_ = 0) → (C2 Γ l mX9_indexOf [.int (x3 + (x7 - x7 / 3 * 3)), .int (x4 + (x7 / 3))] s2_ (Ri fun r5_ s4_ => (vp_in r5_ 80 ∧ (((s4_.1 (a1 + 1) (Int32.toNatClampNeg r5_)) ≤ x5 → (wX1_tooTall_6 Γ l a1 x2 x3 x4 x5 x6 (x7 + 1) s4_ K)) ∧ (¬ ((s4_.1 (a1 + 1) (Int32.toNatClampNeg r5_)) ≤ x5) → (wX1_tooTall_6 Γ l a1 x2 x3 x4 x5 (x6 + 1) (x7 + 1) s4_ K))))))))))))) : wX1_tooTall_6 Γ l a1 x2 x3 x4 x5 x6 x7 σ K := by
  show G2 Γ l mX1_tooTall 6 [(0, .ref 46), (1, .ref a1), (2, .int x2), (3, .int x3), (4, .int x4), (5, .int x5), (6, .int x6), (7, .int x7)] [] σ K
  refine r_iload (dcx dX1_tooTall_c0 4 rfl) 7 rfl ?_
  refine r_bipush (v := 9) (dcx dX1_tooTall_c0 5 rfl) rfl ?_
  refine r_icmp_ge (tgt := 61) (dcx dX1_tooTall_c0 6 rfl) (by decide) (fun q_ => ?_) (fun q_ => ?_)
  · have hyp := hyp.1 q_
    refine r_iload (dcx dX1_tooTall_c0 32 rfl) 6 rfl ?_
    exact s_ret rfl rfl rfl hyp (dcx dX1_tooTall_c0 33 rfl)
  · have hyp := hyp.2 q_
    refine r_aload_n (dcx dX1_tooTall_c0 7 rfl) 0 rfl ?_
    obtain ⟨b1_, eb1_, hb1_, hyp⟩ := hyp
    refine s_getmE fX1_21 (dcx dX1_tooTall_c0 8 rfl) F46_3 eb1_ (nzP hb1_) ?_
    refine r_iload_n (dcx dX1_tooTall_c0 9 rfl) 2 rfl ?_
    refine r_iload (dcx dX1_tooTall_c0 10 rfl) 7 rfl ?_
    refine s_callV (as := [.int x2, .int x7]) (st := []) zX6_isCutAt kX1_tooTall_100 (dcx dX1_tooTall_c0 11 rfl) rfl rfl (Nat.le_of_ble_eq_true rfl) (OP hb1_) rfl rfl (C2.mono hyp ?_)
    rintro _ s2_ ⟨r3_, rfl, hyp⟩
    show G2 Γ l mX1_tooTall 23 [(0, .ref 46), (1, .ref a1), (2, .int x2), (3, .int x3), (4, .int x4), (5, .int x5), (6, .int x6), (7, .int x7)] [.int r3_] s2_ K
    refine r_if_eq (tgt := 55) (dcx dX1_tooTall_c0 12 rfl) (by decide) (fun q_ => ?_) (fun q_ => ?_)
    · have hyp := hyp.1 q_
      refine r_iinc (lv1 := [(7, .int (x7 + 1)), (0, .ref 46), (1, .ref a1), (2, .int x2), (3, .int x3), (4, .int x4), (5, .int x5), (6, .int x6)]) (dcx dX1_tooTall_c0 30 rfl) 7 rfl (Nat.le_of_ble_eq_true rfl) rfl ?_
      refine r_goto (tgt := 6) (dcx dX1_tooTall_c0 31 rfl) (by decide) ?_
      refine r_loc (lv1 := [(0, .ref 46), (1, .ref a1), (2, .int x2), (3, .int x3), (4, .int x4), (5, .int x5), (6, .int x6), (7, .int (x7 + 1))]) [1, 2, 3, 4, 5, 6, 7, 0] rfl ?_
      exact hyp
    · have hyp := hyp.2 q_
      refine r_aload_n (dcx dX1_tooTall_c0 13 rfl) 1 rfl ?_
      refine s_getr (b := a1 + 1) fX1_46 (dcx dX1_tooTall_c0 14 rfl) (FL_0 h1) ?_
      refine r_iload_n (dcx dX1_tooTall_c0 15 rfl) 3 rfl ?_
      refine r_iload (dcx dX1_tooTall_c0 16 rfl) 7 rfl ?_
      refine r_iconst (v := 3) (dcx dX1_tooTall_c0 17 rfl) rfl ?_
      refine r_irem (dcx dX1_tooTall_c0 18 rfl) (by decide) ?_
      refine r_iadd (dcx dX1_tooTall_c0 19 rfl) ?_
      refine r_iload (dcx dX1_tooTall_c0 20 rfl) 4 rfl ?_
      refine r_iload (dcx dX1_tooTall_c0 21 rfl) 7 rfl ?_
      refine r_iconst (v := 3) (dcx dX1_tooTall_c0 22 rfl) rfl ?_
      refine r_idiv (dcx dX1_tooTall_c0 23 rfl) (by decide) ?_
      refine r_iadd (dcx dX1_tooTall_c0 24 rfl) ?_
      refine s_callSN (as := [.int (x3 + (x7 - x7 / 3 * 3)), .int (x4 + (x7 / 3))]) (st := [.ref (a1 + 1)]) zX9_indexOf kX1_tooTall_43 (dcx dX1_tooTall_c0 25 rfl) rfl rfl (Nat.le_of_ble_eq_true rfl) (C2.mono hyp ?_)
      rintro _ s4_ ⟨r5_, rfl, hyp⟩
      show G2 Γ l mX1_tooTall 46 [(0, .ref 46), (1, .ref a1), (2, .int x2), (3, .int x3), (4, .int x4), (5, .int x5), (6, .int x6), (7, .int x7)] [.int r5_, .ref (a1 + 1)] s4_ K
      obtain ⟨hb_, hyp⟩ := hyp
      refine s_iald (dcx dX1_tooTall_c0 26 rfl) (AL_0 h1) hb_ ?_
      refine r_iload (dcx dX1_tooTall_c0 27 rfl) 5 rfl ?_
      refine r_icmp_le (tgt := 55) (dcx dX1_tooTall_c0 28 rfl) (by decide) (fun q_ => ?_) (fun q_ => ?_)
      · have hyp := hyp.1 q_
        refine r_iinc (lv1 := [(7, .int (x7 + 1)), (0, .ref 46), (1, .ref a1), (2, .int x2), (3, .int x3), (4, .int x4), (5, .int x5), (6, .int x6)]) (dcx dX1_tooTall_c0 30 rfl) 7 rfl (Nat.le_of_ble_eq_true rfl) rfl ?_
        refine r_goto (tgt := 6) (dcx dX1_tooTall_c0 31 rfl) (by decide) ?_
        refine r_loc (lv1 := [(0, .ref 46), (1, .ref a1), (2, .int x2), (3, .int x3), (4, .int x4), (5, .int x5), (6, .int x6), (7, .int (x7 + 1))]) [1, 2, 3, 4, 5, 6, 7, 0] rfl ?_
        exact hyp
      · have hyp := hyp.2 q_
        refine r_iinc (lv1 := [(6, .int (x6 + 1)), (0, .ref 46), (1, .ref a1), (2, .int x2), (3, .int x3), (4, .int x4), (5, .int x5), (7, .int x7)]) (dcx dX1_tooTall_c0 29 rfl) 6 rfl (Nat.le_of_ble_eq_true rfl) rfl ?_
        refine r_iinc (lv1 := [(7, .int (x7 + 1)), (6, .int (x6 + 1)), (0, .ref 46), (1, .ref a1), (2, .int x2), (3, .int x3), (4, .int x4), (5, .int x5)]) (dcx dX1_tooTall_c0 30 rfl) 7 rfl (Nat.le_of_ble_eq_true rfl) rfl ?_
        refine r_goto (tgt := 6) (dcx dX1_tooTall_c0 31 rfl) (by decide) ?_
        refine r_loc (lv1 := [(0, .ref 46), (1, .ref a1), (2, .int x2), (3, .int x3), (4, .int x4), (5, .int x5), (6, .int (x6 + 1)), (7, .int (x7 + 1))]) [2, 3, 4, 5, 6, 7, 1, 0] rfl ?_
        exact hyp
set_option maxHeartbeats 4000000 in
set_option maxRecDepth 20000 in
theorem tX1_isRead {Γ : GE} {l : Launch} {a1 : Nat} {x2 : Int32} {x3 : Int32} {x4 : Int32} {x5 : Int32} {σ : SS} {K : Option Value → SS → Prop} (h1 : isL a1) (hyp : ∃ b1_ : Nat, σ.2.2 46 3 = b1_ ∧ isP b1_ ∧ (C2 Γ l mX6_sees [.ref b1_, .int x2, .int x4] σ (Ri fun r3_ s2_ => ((r3_ = 0 → (K (some (.int 0)) s2_)) ∧ (¬ (r3_ = 0) → (C2 Γ l mX1_standsOut [.ref 46, .ref a1, .int x3, .int x4, .int x5] s2_ (Ri fun r5_ s4_ => (∃ b6_ : Nat, s4_.2.2 46 3 = b6_ ∧ isP b6_ ∧ (vp_in x2 4 ∧ ((r5_ < (s4_.1 (b6_ + 7) (Int32.toNatClampNeg x2)) → (K (some (.int 0)) s4_)) ∧ (¬ (r5_ < (s4_.1 (b6_ + 7) (Int32.toNatClampNeg x2))) → (K (some (.int 1)) s4_)))))))))))) : C2 Γ l mX1_isRead [.ref 46, .ref a1, .int x2, .int x3, .int x4, .int x5] σ K := by
  refine c2_of (lv := [(0, .ref 46), (1, .ref a1), (2, .int x2), (3, .int x3), (4, .int x4), (5, .int x5)]) (by decide) (Nat.le_of_ble_eq_true rfl) rfl ?_
  refine r_aload_n (dcx dX1_isRead_c0 0 rfl) 0 rfl ?_
  obtain ⟨b1_, eb1_, hb1_, hyp⟩ := hyp
  refine s_getmE fX1_21 (dcx dX1_isRead_c0 1 rfl) F46_3 eb1_ (nzP hb1_) ?_
  refine r_iload_n (dcx dX1_isRead_c0 2 rfl) 2 rfl ?_
  refine r_iload (dcx dX1_isRead_c0 3 rfl) 4 rfl ?_
  refine s_callV (as := [.int x2, .int x4]) (st := []) zX6_sees kX1_isRead_150 (dcx dX1_isRead_c0 4 rfl) rfl rfl (Nat.le_of_ble_eq_true rfl) (OP hb1_) rfl rfl (C2.mono hyp ?_)
  rintro _ s2_ ⟨r3_, rfl, hyp⟩
  show G2 Γ l mX1_isRead 10 [(0, .ref 46), (1, .ref a1), (2, .int x2), (3, .int x3), (4, .int x4), (5, .int x5)] [.int r3_] s2_ K
  refine r_if_eq (tgt := 39) (dcx dX1_isRead_c0 5 rfl) (by decide) (fun q_ => ?_) (fun q_ => ?_)
  · have hyp := hyp.1 q_
    refine r_iconst (v := 0) (dcx dX1_isRead_c0 20 rfl) rfl ?_
    exact s_ret rfl rfl rfl hyp (dcx dX1_isRead_c0 21 rfl)
  · have hyp := hyp.2 q_
    refine r_aload_n (dcx dX1_isRead_c0 6 rfl) 0 rfl ?_
    refine r_aload_n (dcx dX1_isRead_c0 7 rfl) 1 rfl ?_
    refine r_iload_n (dcx dX1_isRead_c0 8 rfl) 3 rfl ?_
    refine r_iload (dcx dX1_isRead_c0 9 rfl) 4 rfl ?_
    refine r_iload (dcx dX1_isRead_c0 10 rfl) 5 rfl ?_
    refine s_callV (as := [.ref a1, .int x3, .int x4, .int x5]) (st := []) zX1_standsOut kX1_isRead_153 (dcx dX1_isRead_c0 11 rfl) rfl rfl (Nat.le_of_ble_eq_true rfl) O46 rfl rfl (C2.mono hyp ?_)
    rintro _ s4_ ⟨r5_, rfl, hyp⟩
    show G2 Γ l mX1_isRead 23 [(0, .ref 46), (1, .ref a1), (2, .int x2), (3, .int x3), (4, .int x4), (5, .int x5)] [.int r5_] s4_ K
    refine r_aload_n (dcx dX1_isRead_c0 12 rfl) 0 rfl ?_
    obtain ⟨b6_, eb6_, hb6_, hyp⟩ := hyp
    refine s_getmE fX1_21 (dcx dX1_isRead_c0 13 rfl) F46_3 eb6_ (nzP hb6_) ?_
    refine s_getr (b := b6_ + 7) fX1_156 (dcx dX1_isRead_c0 14 rfl) (FP_6 hb6_) ?_
    refine r_iload_n (dcx dX1_isRead_c0 15 rfl) 2 rfl ?_
    obtain ⟨hb_, hyp⟩ := hyp
    refine s_iald (dcx dX1_isRead_c0 16 rfl) (AP_6 hb6_) hb_ ?_
    refine r_icmp_lt (tgt := 39) (dcx dX1_isRead_c0 17 rfl) (by decide) (fun q_ => ?_) (fun q_ => ?_)
    · have hyp := hyp.1 q_
      refine r_iconst (v := 0) (dcx dX1_isRead_c0 20 rfl) rfl ?_
      exact s_ret rfl rfl rfl hyp (dcx dX1_isRead_c0 21 rfl)
    · have hyp := hyp.2 q_
      refine r_iconst (v := 1) (dcx dX1_isRead_c0 18 rfl) rfl ?_
      refine r_goto (tgt := 40) (dcx dX1_isRead_c0 19 rfl) (by decide) ?_
      exact s_ret rfl rfl rfl hyp (dcx dX1_isRead_c0 21 rfl)
