set_option maxHeartbeats 4000000 in
set_option maxRecDepth 20000 in
theorem tX10_appends {Γ : GE} {l : Launch} {x0 : Int64} {x2 : Int32} {σ : SS} {K : Option Value → SS → Prop}  (hyp : (¬ x2 = 0 → (K (some (.long ((27 * x0) + (Int32.toInt64 ((x2 - 97) + 1))))) σ)) ∧ (x2 = 0 → (K (some (.long x0)) σ))) : C2 Γ l mX10_appends [.long x0, .int x2] σ K := by
  refine c2_of (lv := [(0, .long x0), (2, .int x2)]) (by decide) (Nat.le_of_ble_eq_true rfl) rfl ?_
  refine r_iload_n (dcx dX10_appends_c0 0 rfl) 1 rfl ?_
  refine r_if_ne (tgt := 8) (dcx dX10_appends_c0 1 rfl) (by decide) (fun q_ => ?_) (fun q_ => ?_)
  · have hyp := hyp.1 q_
    refine r_ldc2_w (own := "MownLawnModel") (v := 27) rfl q1272 (dcx dX10_appends_c0 4 rfl) ?_
    refine r_lload_n (dcx dX10_appends_c0 5 rfl) 0 rfl ?_
    refine r_lmul (dcx dX10_appends_c0 6 rfl) ?_
    refine r_iload_n (dcx dX10_appends_c0 7 rfl) 1 rfl ?_
    refine r_bipush (v := 97) (dcx dX10_appends_c0 8 rfl) rfl ?_
    refine r_isub (dcx dX10_appends_c0 9 rfl) ?_
    refine r_iconst (v := 1) (dcx dX10_appends_c0 10 rfl) rfl ?_
    refine r_iadd (dcx dX10_appends_c0 11 rfl) ?_
    refine r_i2l (dcx dX10_appends_c0 12 rfl) ?_
    refine r_ladd (dcx dX10_appends_c0 13 rfl) ?_
    exact s_lret rfl hyp (dcx dX10_appends_c0 14 rfl)
  · have hyp := hyp.2 q_
    refine r_lload_n (dcx dX10_appends_c0 2 rfl) 0 rfl ?_
    refine r_goto (tgt := 21) (dcx dX10_appends_c0 3 rfl) (by decide) ?_
    exact s_lret rfl hyp (dcx dX10_appends_c0 14 rfl)
set_option maxHeartbeats 4000000 in
set_option maxRecDepth 20000 in
theorem tX10_word {Γ : GE} {l : Launch} {x0 : Int32} {x1 : Int32} {x2 : Int32} {x3 : Int32} {x4 : Int32} {x5 : Int32} {x6 : Int32} {σ : SS} {K : Option Value → SS → Prop}  (hyp : C2 Γ l mX10_appends [.long 0, .int x0] σ (Rl fun r2_ s1_ => (C2 Γ l mX10_appends [.long r2_, .int x1] s1_ (Rl fun r4_ s3_ => (C2 Γ l mX10_appends [.long r4_, .int x2] s3_ (Rl fun r6_ s5_ => (C2 Γ l mX10_appends [.long r6_, .int x3] s5_ (Rl fun r8_ s7_ => (C2 Γ l mX10_appends [.long r8_, .int x4] s7_ (Rl fun r10_ s9_ => (C2 Γ l mX10_appends [.long r10_, .int x5] s9_ (Rl fun r12_ s11_ => (C2 Γ l mX10_appends [.long r12_, .int x6] s11_ (Rl fun r14_ s13_ => (K (some (.long r14_)) s13_))))))))))))))) : C2 Γ l mX10_word [.int x0, .int x1, .int x2, .int x3, .int x4, .int x5, .int x6] σ K := by
  refine c2_of (lv := [(0, .int x0), (1, .int x1), (2, .int x2), (3, .int x3), (4, .int x4), (5, .int x5), (6, .int x6)]) (by decide) (Nat.le_of_ble_eq_true rfl) rfl ?_
  refine r_lconst (v := 0) (dcx dX10_word_c0 0 rfl) rfl ?_
  refine r_iload_n (dcx dX10_word_c0 1 rfl) 0 rfl ?_
  refine s_callS (as := [.long 0, .int x0]) (st := []) zX10_appends kX10_word_189 (dcx dX10_word_c0 2 rfl) rfl rfl (Nat.le_of_ble_eq_true rfl) (C2.mono hyp ?_)
  rintro _ s1_ ⟨r2_, rfl, hyp⟩
  show G2 Γ l mX10_word 5 [(0, .int x0), (1, .int x1), (2, .int x2), (3, .int x3), (4, .int x4), (5, .int x5), (6, .int x6)] [.long r2_] s1_ K
  refine r_iload_n (dcx dX10_word_c0 3 rfl) 1 rfl ?_
  refine s_callS (as := [.long r2_, .int x1]) (st := []) zX10_appends kX10_word_189 (dcx dX10_word_c0 4 rfl) rfl rfl (Nat.le_of_ble_eq_true rfl) (C2.mono hyp ?_)
  rintro _ s3_ ⟨r4_, rfl, hyp⟩
  show G2 Γ l mX10_word 9 [(0, .int x0), (1, .int x1), (2, .int x2), (3, .int x3), (4, .int x4), (5, .int x5), (6, .int x6)] [.long r4_] s3_ K
  refine r_iload_n (dcx dX10_word_c0 5 rfl) 2 rfl ?_
  refine s_callS (as := [.long r4_, .int x2]) (st := []) zX10_appends kX10_word_189 (dcx dX10_word_c0 6 rfl) rfl rfl (Nat.le_of_ble_eq_true rfl) (C2.mono hyp ?_)
  rintro _ s5_ ⟨r6_, rfl, hyp⟩
  show G2 Γ l mX10_word 13 [(0, .int x0), (1, .int x1), (2, .int x2), (3, .int x3), (4, .int x4), (5, .int x5), (6, .int x6)] [.long r6_] s5_ K
  refine r_iload_n (dcx dX10_word_c0 7 rfl) 3 rfl ?_
  refine s_callS (as := [.long r6_, .int x3]) (st := []) zX10_appends kX10_word_189 (dcx dX10_word_c0 8 rfl) rfl rfl (Nat.le_of_ble_eq_true rfl) (C2.mono hyp ?_)
  rintro _ s7_ ⟨r8_, rfl, hyp⟩
  show G2 Γ l mX10_word 17 [(0, .int x0), (1, .int x1), (2, .int x2), (3, .int x3), (4, .int x4), (5, .int x5), (6, .int x6)] [.long r8_] s7_ K
  refine r_iload (dcx dX10_word_c0 9 rfl) 4 rfl ?_
  refine s_callS (as := [.long r8_, .int x4]) (st := []) zX10_appends kX10_word_189 (dcx dX10_word_c0 10 rfl) rfl rfl (Nat.le_of_ble_eq_true rfl) (C2.mono hyp ?_)
  rintro _ s9_ ⟨r10_, rfl, hyp⟩
  show G2 Γ l mX10_word 22 [(0, .int x0), (1, .int x1), (2, .int x2), (3, .int x3), (4, .int x4), (5, .int x5), (6, .int x6)] [.long r10_] s9_ K
  refine r_iload (dcx dX10_word_c0 11 rfl) 5 rfl ?_
  refine s_callS (as := [.long r10_, .int x5]) (st := []) zX10_appends kX10_word_189 (dcx dX10_word_c0 12 rfl) rfl rfl (Nat.le_of_ble_eq_true rfl) (C2.mono hyp ?_)
  rintro _ s11_ ⟨r12_, rfl, hyp⟩
  show G2 Γ l mX10_word 27 [(0, .int x0), (1, .int x1), (2, .int x2), (3, .int x3), (4, .int x4), (5, .int x5), (6, .int x6)] [.long r12_] s11_ K
  refine r_iload (dcx dX10_word_c0 13 rfl) 6 rfl ?_
  refine s_callS (as := [.long r12_, .int x6]) (st := []) zX10_appends kX10_word_189 (dcx dX10_word_c0 14 rfl) rfl rfl (Nat.le_of_ble_eq_true rfl) (C2.mono hyp ?_)
  rintro _ s13_ ⟨r14_, rfl, hyp⟩
  show G2 Γ l mX10_word 32 [(0, .int x0), (1, .int x1), (2, .int x2), (3, .int x3), (4, .int x4), (5, .int x5), (6, .int x6)] [.long r14_] s13_ K
  exact s_lret rfl hyp (dcx dX10_word_c0 15 rfl)
set_option maxHeartbeats 4000000 in
set_option maxRecDepth 20000 in
theorem tX10_token {Γ : GE} {l : Launch} {x1 : Int32} {x2 : Int32} {x3 : Int32} {x4 : Int64} {σ : SS} {K : Option Value → SS → Prop}  (hyp : vp_in (σ.1 284 10) 403 ∧ (∀ s1_ : SS, s1_ = sI σ 287 (Int32.toNatClampNeg (σ.1 284 10)) x1 → (vp_in (s1_.1 284 10) 403 ∧ (∀ s2_ : SS, s2_ = sI s1_ 288 (Int32.toNatClampNeg (s1_.1 284 10)) x2 → (vp_in (s2_.1 284 10) 403 ∧ (∀ s3_ : SS, s3_ = sI s2_ 289 (Int32.toNatClampNeg (s2_.1 284 10)) x3 → (vp_in (s3_.1 284 10) 403 ∧ (∀ s4_ : SS, s4_ = sJ s3_ 290 (Int32.toNatClampNeg (s3_.1 284 10)) x4 → (∀ s5_ : SS, s5_ = sI s4_ 284 10 ((s4_.1 284 10) + 1) → (K none s5_)))))))))) : C2 Γ l mX10_token [.ref 284, .int x1, .int x2, .int x3, .long x4] σ K := by
  refine c2_of (lv := [(0, .ref 284), (1, .int x1), (2, .int x2), (3, .int x3), (4, .long x4)]) (by decide) (Nat.le_of_ble_eq_true rfl) rfl ?_
  refine r_aload_n (dcx dX10_token_c0 0 rfl) 0 rfl ?_
  refine s_getr (b := 287) fX10_20 (dcx dX10_token_c0 1 rfl) F284_5 ?_
  refine r_aload_n (dcx dX10_token_c0 2 rfl) 0 rfl ?_
  refine s_geti fX10_193 (dcx dX10_token_c0 3 rfl) F284_10 ?_
  refine r_iload_n (dcx dX10_token_c0 4 rfl) 1 rfl ?_
  obtain ⟨hb_, hyp⟩ := hyp
  refine s_iast (dcx dX10_token_c0 5 rfl) A287 hb_ ?_
  obtain ⟨s1_, es1_⟩ : ∃ z : SS, z = sI σ 287 (Int32.toNatClampNeg (σ.1 284 10)) x1 := ⟨_, rfl⟩
  rw [← es1_]
  have hyp := hyp s1_ es1_
  refine r_aload_n (dcx dX10_token_c0 6 rfl) 0 rfl ?_
  refine s_getr (b := 288) fX10_24 (dcx dX10_token_c0 7 rfl) F284_6 ?_
  refine r_aload_n (dcx dX10_token_c0 8 rfl) 0 rfl ?_
  refine s_geti fX10_193 (dcx dX10_token_c0 9 rfl) F284_10 ?_
  refine r_iload_n (dcx dX10_token_c0 10 rfl) 2 rfl ?_
  obtain ⟨hb_, hyp⟩ := hyp
  refine s_iast (dcx dX10_token_c0 11 rfl) A288 hb_ ?_
  obtain ⟨s2_, es2_⟩ : ∃ z : SS, z = sI s1_ 288 (Int32.toNatClampNeg (s1_.1 284 10)) x2 := ⟨_, rfl⟩
  rw [← es2_]
  have hyp := hyp s2_ es2_
  refine r_aload_n (dcx dX10_token_c0 12 rfl) 0 rfl ?_
  refine s_getr (b := 289) fX10_27 (dcx dX10_token_c0 13 rfl) F284_7 ?_
  refine r_aload_n (dcx dX10_token_c0 14 rfl) 0 rfl ?_
  refine s_geti fX10_193 (dcx dX10_token_c0 15 rfl) F284_10 ?_
  refine r_iload_n (dcx dX10_token_c0 16 rfl) 3 rfl ?_
  obtain ⟨hb_, hyp⟩ := hyp
  refine s_iast (dcx dX10_token_c0 17 rfl) A289 hb_ ?_
  obtain ⟨s3_, es3_⟩ : ∃ z : SS, z = sI s2_ 289 (Int32.toNatClampNeg (s2_.1 284 10)) x3 := ⟨_, rfl⟩
  rw [← es3_]
  have hyp := hyp s3_ es3_
  refine r_aload_n (dcx dX10_token_c0 18 rfl) 0 rfl ?_
  refine s_getr (b := 290) fX10_30 (dcx dX10_token_c0 19 rfl) F284_8 ?_
  refine r_aload_n (dcx dX10_token_c0 20 rfl) 0 rfl ?_
  refine s_geti fX10_193 (dcx dX10_token_c0 21 rfl) F284_10 ?_
  refine r_lload (dcx dX10_token_c0 22 rfl) 4 rfl ?_
  obtain ⟨hb_, hyp⟩ := hyp
  refine s_last (dcx dX10_token_c0 23 rfl) A290 hb_ ?_
  obtain ⟨s4_, es4_⟩ : ∃ z : SS, z = sJ s3_ 290 (Int32.toNatClampNeg (s3_.1 284 10)) x4 := ⟨_, rfl⟩
  rw [← es4_]
  have hyp := hyp s4_ es4_
  refine r_aload_n (dcx dX10_token_c0 24 rfl) 0 rfl ?_
  refine r_dup (dcx dX10_token_c0 25 rfl) rfl ?_
  refine s_geti fX10_193 (dcx dX10_token_c0 26 rfl) F284_10 ?_
  refine r_iconst (v := 1) (dcx dX10_token_c0 27 rfl) rfl ?_
  refine r_iadd (dcx dX10_token_c0 28 rfl) ?_
  refine s_puti gX10_193 (dcx dX10_token_c0 29 rfl) F284_10 ?_
  obtain ⟨s5_, es5_⟩ : ∃ z : SS, z = sI s4_ 284 10 ((s4_.1 284 10) + 1) := ⟨_, rfl⟩
  rw [← es5_]
  have hyp := hyp s5_ es5_
  exact s_vret rfl hyp (dcx dX10_token_c0 30 rfl)
def wX10_cutsUp_7 (Γ : GE) (l : Launch) (x1 : Int32) (σ : SS) (K : Option Value → SS → Prop) : Prop := G2 Γ l mX10_cutsUp 7 [(0, .ref 284), (1, .int x1)] [] σ K
def wX10_cutsUp_67 (Γ : GE) (l : Launch) (x1 : Int32) (σ : SS) (K : Option Value → SS → Prop) : Prop := G2 Γ l mX10_cutsUp 67 [(0, .ref 284), (1, .int x1)] [] σ K
def wX10_cutsUp_291 (Γ : GE) (l : Launch) (x1 : Int32) (σ : SS) (K : Option Value → SS → Prop) : Prop := G2 Γ l mX10_cutsUp 291 [(0, .ref 284), (1, .int x1)] [] σ K
def wX10_cutsUp_208 (Γ : GE) (l : Launch) (x1 : Int32) (x3 : Int32) (x4 : Int32) (σ : SS) (K : Option Value → SS → Prop) : Prop := G2 Γ l mX10_cutsUp 208 [(0, .ref 284), (1, .int x1), (3, .int x3), (4, .int x4)] [] σ K
def wX10_cutsUp_85 (Γ : GE) (l : Launch) (x1 : Int32) (x3 : Int32) (x4 : Int64) (σ : SS) (K : Option Value → SS → Prop) : Prop := G2 Γ l mX10_cutsUp 85 [(0, .ref 284), (1, .int x1), (3, .int x3), (4, .long x4)] [] σ K
def wX10_cutsUp_244 (Γ : GE) (l : Launch) (x1 : Int32) (x3 : Int32) (x4 : Int32) (σ : SS) (K : Option Value → SS → Prop) : Prop := G2 Γ l mX10_cutsUp 244 [(0, .ref 284), (1, .int x1), (3, .int x3), (4, .int x4)] [] σ K
def wX10_cutsUp_179 (Γ : GE) (l : Launch) (x1 : Int32) (x3 : Int32) (x4 : Int64) (x6 : Int32) (σ : SS) (K : Option Value → SS → Prop) : Prop := G2 Γ l mX10_cutsUp 179 [(0, .ref 284), (1, .int x1), (3, .int x3), (4, .long x4), (6, .int x6)] [] σ K
def wX10_cutsUp_146 (Γ : GE) (l : Launch) (x1 : Int32) (x3 : Int32) (x4 : Int64) (x6 : Int32) (x7 : Int32) (σ : SS) (K : Option Value → SS → Prop) : Prop := G2 Γ l mX10_cutsUp 146 [(0, .ref 284), (1, .int x1), (3, .int x3), (4, .long x4), (6, .int x6), (7, .int x7)] [] σ K
def wX10_cutsUp_118 (Γ : GE) (l : Launch) (x1 : Int32) (x3 : Int32) (x4 : Int64) (σ : SS) (K : Option Value → SS → Prop) : Prop := G2 Γ l mX10_cutsUp 118 [(0, .ref 284), (1, .int x1), (3, .int x3), (4, .long x4)] [] σ K
def wX10_cutsUp_173 (Γ : GE) (l : Launch) (x1 : Int32) (x3 : Int32) (x4 : Int64) (x6 : Int32) (x7 : Int32) (σ : SS) (K : Option Value → SS → Prop) : Prop := G2 Γ l mX10_cutsUp 173 [(0, .ref 284), (1, .int x1), (3, .int x3), (4, .long x4), (6, .int x6), (7, .int x7)] [] σ K
set_option maxHeartbeats 4000000 in
set_option maxRecDepth 20000 in
theorem tX10_cutsUp {Γ : GE} {l : Launch}  {σ : SS} {K : Option Value → SS → Prop}  (hyp : ∀ s1_ : SS, s1_ = sI σ 284 10 0 → (wX10_cutsUp_7 Γ l 0 s1_ K)) : C2 Γ l mX10_cutsUp [.ref 284] σ K := by
  refine c2_of (lv := [(0, .ref 284)]) (by decide) (Nat.le_of_ble_eq_true rfl) rfl ?_
  refine r_aload_n (dcx dX10_cutsUp_c0 0 rfl) 0 rfl ?_
  refine r_iconst (v := 0) (dcx dX10_cutsUp_c0 1 rfl) rfl ?_
  refine s_puti gX10_193 (dcx dX10_cutsUp_c0 2 rfl) F284_10 ?_
  obtain ⟨s1_, es1_⟩ : ∃ z : SS, z = sI σ 284 10 0 := ⟨_, rfl⟩
  rw [← es1_]
  have hyp := hyp s1_ es1_
  refine r_iconst (v := 0) (dcx dX10_cutsUp_c0 3 rfl) rfl ?_
  refine r_istore_n (lv1 := [(1, .int 0), (0, .ref 284)]) (dcx dX10_cutsUp_c0 4 rfl) (Nat.le_of_ble_eq_true rfl) rfl ?_
  refine r_loc (lv1 := [(0, .ref 284), (1, .int 0)]) [1, 0] rfl ?_
  exact hyp
set_option maxHeartbeats 4000000 in
set_option maxRecDepth 20000 in
theorem tX10_cutsUp_7 {Γ : GE} {l : Launch} {x1 : Int32} {σ : SS} {K : Option Value → SS → Prop}  (hyp : ((400 : Int32) < (σ.1 284 10) → (K none σ)) ∧ (¬ ((400 : Int32) < (σ.1 284 10)) → (C2 Γ l mX10_byteAt [.ref 284, .int x1] σ (Ri fun r2_ s1_ => ((x1 < (s1_.1 284 4) → ((r2_ = 9 → (wX10_cutsUp_67 Γ l x1 s1_ K)) ∧ (¬ (r2_ = 9) → ((r2_ = 10 → (wX10_cutsUp_67 Γ l x1 s1_ K)) ∧ (¬ (r2_ = 10) → ((r2_ = 13 → (wX10_cutsUp_67 Γ l x1 s1_ K)) ∧ (¬ (r2_ = 13) → ((¬ r2_ = 32 → (C2 Γ l mX10_isLetter [.int r2_] s1_ (Ri fun r4_ s3_ => ((r4_ = 0 → (C2 Γ l mX10_isDigit [.int r2_] s3_ (Ri fun r6_ s5_ => ((r6_ = 0 → (C2 Γ l mX10_byteAt [.ref 284, .int (x1 + 1)] s5_ (Ri fun r8_ s7_ => (C2 Γ l mX10_signAt [.ref 284, .int x1, .int r2_, .int r8_] s7_ (Ri fun r10_ s9_ => (wX10_cutsUp_291 Γ l (x1 + r10_) s9_ K)))))) ∧ (¬ (r6_ = 0) → (wX10_cutsUp_208 Γ l x1 0 0 s5_ K)))))) ∧ (¬ (r4_ = 0) → (wX10_cutsUp_85 Γ l x1 0 0 s3_ K)))))) ∧ (r2_ = 32 → (wX10_cutsUp_67 Γ l x1 s1_ K)))))))))) ∧ (¬ (x1 < (s1_.1 284 4)) → (C2 Γ l mX10_token [.ref 284, .int 0, .int (s1_.1 284 4), .int 0, .long 0] s1_ (Rv fun s11_ => (K none s11_))))))))) : wX10_cutsUp_7 Γ l x1 σ K := by
  show G2 Γ l mX10_cutsUp 7 [(0, .ref 284), (1, .int x1)] [] σ K
  refine r_aload_n (dcx dX10_cutsUp_c0 5 rfl) 0 rfl ?_
  refine s_geti fX10_193 (dcx dX10_cutsUp_c0 6 rfl) F284_10 ?_
  refine r_sipush (v := 400) (dcx dX10_cutsUp_c0 7 rfl) rfl ?_
  refine r_icmp_gt (tgt := 294) (dcx dX10_cutsUp_c0 8 rfl) (by decide) (fun q_ => ?_) (fun q_ => ?_)
  · have hyp := hyp.1 q_
    exact s_vret rfl hyp (dcx dX10_cutsUp_c4 5 rfl)
  · have hyp := hyp.2 q_
    refine r_aload_n (dcx dX10_cutsUp_c0 9 rfl) 0 rfl ?_
    refine r_iload_n (dcx dX10_cutsUp_c0 10 rfl) 1 rfl ?_
    refine s_callV (as := [.int x1]) (st := []) zX10_byteAt kX10_cutsUp_196 (dcx dX10_cutsUp_c0 11 rfl) rfl rfl (Nat.le_of_ble_eq_true rfl) O284 rfl rfl (C2.mono hyp ?_)
    rintro _ s1_ ⟨r2_, rfl, hyp⟩
    show G2 Γ l mX10_cutsUp 22 [(0, .ref 284), (1, .int x1)] [.int r2_] s1_ K
    refine r_istore_n (lv1 := [(2, .int r2_), (0, .ref 284), (1, .int x1)]) (dcx dX10_cutsUp_c0 12 rfl) (Nat.le_of_ble_eq_true rfl) rfl ?_
    refine r_iload_n (dcx dX10_cutsUp_c0 13 rfl) 2 rfl ?_
    refine r_aload_n (dcx dX10_cutsUp_c0 14 rfl) 1 rfl ?_
    refine s_geti fX10_184 (dcx dX10_cutsUp_c0 15 rfl) F284_4 ?_
    refine r_icmp_lt (tgt := 43) (dcx dX10_cutsUp_c0 16 rfl) (by decide) (fun q_ => ?_) (fun q_ => ?_)
    · have hyp := hyp.1 q_
      refine r_iload_n (dcx dX10_cutsUp_c0 25 rfl) 0 rfl ?_
      refine r_bipush (v := 9) (dcx dX10_cutsUp_c0 26 rfl) rfl ?_
      refine r_icmp_eq (tgt := 67) (dcx dX10_cutsUp_c0 27 rfl) (by decide) (fun q_ => ?_) (fun q_ => ?_)
      · have hyp := hyp.1 q_
        refine r_loc (lv1 := [(0, .ref 284), (1, .int x1)]) [1, 2] rfl ?_
        exact hyp
      · have hyp := hyp.2 q_
        refine r_iload_n (dcx dX10_cutsUp_c0 28 rfl) 0 rfl ?_
        refine r_bipush (v := 10) (dcx dX10_cutsUp_c0 29 rfl) rfl ?_
        refine r_icmp_eq (tgt := 67) (dcx dX10_cutsUp_c0 30 rfl) (by decide) (fun q_ => ?_) (fun q_ => ?_)
        · have hyp := hyp.1 q_
          refine r_loc (lv1 := [(0, .ref 284), (1, .int x1)]) [1, 2] rfl ?_
          exact hyp
        · have hyp := hyp.2 q_
          refine r_iload_n (dcx dX10_cutsUp_c0 31 rfl) 0 rfl ?_
          refine r_bipush (v := 13) (dcx dX10_cutsUp_c0 32 rfl) rfl ?_
          refine r_icmp_eq (tgt := 67) (dcx dX10_cutsUp_c0 33 rfl) (by decide) (fun q_ => ?_) (fun q_ => ?_)
          · have hyp := hyp.1 q_
            refine r_loc (lv1 := [(0, .ref 284), (1, .int x1)]) [1, 2] rfl ?_
            exact hyp
          · have hyp := hyp.2 q_
            refine r_iload_n (dcx dX10_cutsUp_c0 34 rfl) 0 rfl ?_
            refine r_bipush (v := 32) (dcx dX10_cutsUp_c0 35 rfl) rfl ?_
            refine r_icmp_ne (tgt := 73) (dcx dX10_cutsUp_c0 36 rfl) (by decide) (fun q_ => ?_) (fun q_ => ?_)
            · have hyp := hyp.1 q_
              refine r_iload_n (dcx dX10_cutsUp_c0 39 rfl) 0 rfl ?_
              refine s_callS (as := [.int r2_]) (st := []) zX10_isLetter kX10_cutsUp_204 (dcx dX10_cutsUp_c1 0 rfl) rfl rfl (Nat.le_of_ble_eq_true rfl) (C2.mono hyp ?_)
              rintro _ s3_ ⟨r4_, rfl, hyp⟩
              show G2 Γ l mX10_cutsUp 77 [(2, .int r2_), (0, .ref 284), (1, .int x1)] [.int r4_] s3_ K
              refine r_if_eq (tgt := 196) (dcx dX10_cutsUp_c1 1 rfl) (by decide) (fun q_ => ?_) (fun q_ => ?_)
              · have hyp := hyp.1 q_
                refine r_iload_n (dcx dX10_cutsUp_c2 25 rfl) 0 rfl ?_
                refine s_callS (as := [.int r2_]) (st := []) zX10_isDigit kX10_cutsUp_208 (dcx dX10_cutsUp_c2 26 rfl) rfl rfl (Nat.le_of_ble_eq_true rfl) (C2.mono hyp ?_)
                rintro _ s5_ ⟨r6_, rfl, hyp⟩
                show G2 Γ l mX10_cutsUp 200 [(2, .int r2_), (0, .ref 284), (1, .int x1)] [.int r6_] s5_ K
                refine r_if_eq (tgt := 275) (dcx dX10_cutsUp_c2 27 rfl) (by decide) (fun q_ => ?_) (fun q_ => ?_)
                · have hyp := hyp.1 q_
                  refine r_iload_n (dcx dX10_cutsUp_c3 32 rfl) 2 rfl ?_
                  refine r_aload_n (dcx dX10_cutsUp_c3 33 rfl) 1 rfl ?_
                  refine r_iload_n (dcx dX10_cutsUp_c3 34 rfl) 2 rfl ?_
                  refine r_iload_n (dcx dX10_cutsUp_c3 35 rfl) 0 rfl ?_
                  refine r_aload_n (dcx dX10_cutsUp_c3 36 rfl) 1 rfl ?_
                  refine r_iload_n (dcx dX10_cutsUp_c3 37 rfl) 2 rfl ?_
                  refine r_iconst (v := 1) (dcx dX10_cutsUp_c3 38 rfl) rfl ?_
                  refine r_iadd (dcx dX10_cutsUp_c3 39 rfl) ?_
                  refine s_callV (as := [.int (x1 + 1)]) (st := [.int r2_, .int x1, .ref 284, .int x1]) zX10_byteAt kX10_cutsUp_196 (dcx dX10_cutsUp_c4 0 rfl) rfl rfl (Nat.le_of_ble_eq_true rfl) O284 rfl rfl (C2.mono hyp ?_)
                  rintro _ s7_ ⟨r8_, rfl, hyp⟩
                  show G2 Γ l mX10_cutsUp 286 [(2, .int r2_), (0, .ref 284), (1, .int x1)] [.int r8_, .int r2_, .int x1, .ref 284, .int x1] s7_ K
                  refine s_callV (as := [.int x1, .int r2_, .int r8_]) (st := [.int x1]) zX10_signAt kX10_cutsUp_211 (dcx dX10_cutsUp_c4 1 rfl) rfl rfl (Nat.le_of_ble_eq_true rfl) O284 rfl rfl (C2.mono hyp ?_)
                  rintro _ s9_ ⟨r10_, rfl, hyp⟩
                  show G2 Γ l mX10_cutsUp 289 [(2, .int r2_), (0, .ref 284), (1, .int x1)] [.int r10_, .int x1] s9_ K
                  refine r_iadd (dcx dX10_cutsUp_c4 2 rfl) ?_
                  refine r_istore_n (lv1 := [(1, .int (x1 + r10_)), (2, .int r2_), (0, .ref 284)]) (dcx dX10_cutsUp_c4 3 rfl) (Nat.le_of_ble_eq_true rfl) rfl ?_
                  refine r_loc (lv1 := [(0, .ref 284), (1, .int (x1 + r10_))]) [2, 0] rfl ?_
                  exact hyp
                · have hyp := hyp.2 q_
                  refine r_iconst (v := 0) (dcx dX10_cutsUp_c2 28 rfl) rfl ?_
                  refine r_istore_n (lv1 := [(3, .int 0), (2, .int r2_), (0, .ref 284), (1, .int x1)]) (dcx dX10_cutsUp_c2 29 rfl) (Nat.le_of_ble_eq_true rfl) rfl ?_
                  refine r_iconst (v := 0) (dcx dX10_cutsUp_c2 30 rfl) rfl ?_
                  refine r_istore (lv1 := [(4, .int 0), (3, .int 0), (2, .int r2_), (0, .ref 284), (1, .int x1)]) (dcx dX10_cutsUp_c2 31 rfl) (Nat.le_of_ble_eq_true rfl) rfl ?_
                  refine r_loc (lv1 := [(0, .ref 284), (1, .int x1), (3, .int 0), (4, .int 0)]) [3, 4, 1, 0] rfl ?_
                  exact hyp
              · have hyp := hyp.2 q_
                refine r_iconst (v := 0) (dcx dX10_cutsUp_c1 2 rfl) rfl ?_
                refine r_istore_n (lv1 := [(3, .int 0), (2, .int r2_), (0, .ref 284), (1, .int x1)]) (dcx dX10_cutsUp_c1 3 rfl) (Nat.le_of_ble_eq_true rfl) rfl ?_
                refine r_lconst (v := 0) (dcx dX10_cutsUp_c1 4 rfl) rfl ?_
                refine r_lstore (lv1 := [(4, .long 0), (3, .int 0), (2, .int r2_), (0, .ref 284), (1, .int x1)]) (dcx dX10_cutsUp_c1 5 rfl) (Nat.le_of_ble_eq_true rfl) rfl ?_
                refine r_loc (lv1 := [(0, .ref 284), (1, .int x1), (3, .int 0), (4, .long 0)]) [3, 4, 1, 0] rfl ?_
                exact hyp
            · have hyp := hyp.2 q_
              refine r_loc (lv1 := [(0, .ref 284), (1, .int x1)]) [1, 2] rfl ?_
              exact hyp
    · have hyp := hyp.2 q_
      refine r_aload_n (dcx dX10_cutsUp_c0 17 rfl) 1 rfl ?_
      refine r_iconst (v := 0) (dcx dX10_cutsUp_c0 18 rfl) rfl ?_
      refine r_aload_n (dcx dX10_cutsUp_c0 19 rfl) 1 rfl ?_
      refine s_geti fX10_184 (dcx dX10_cutsUp_c0 20 rfl) F284_4 ?_
      refine r_iconst (v := 0) (dcx dX10_cutsUp_c0 21 rfl) rfl ?_
      refine r_lconst (v := 0) (dcx dX10_cutsUp_c0 22 rfl) rfl ?_
      refine s_callV (as := [.int 0, .int (s1_.1 284 4), .int 0, .long 0]) (st := []) zX10_token kX10_cutsUp_200 (dcx dX10_cutsUp_c0 23 rfl) rfl rfl (Nat.le_of_ble_eq_true rfl) O284 rfl rfl (C2.mono hyp ?_)
      rintro _ s11_ ⟨rfl, hyp⟩
      show G2 Γ l mX10_cutsUp 42 [(2, .int r2_), (0, .ref 284), (1, .int x1)] [] s11_ K
      exact s_vret rfl hyp (dcx dX10_cutsUp_c0 24 rfl)
set_option maxHeartbeats 4000000 in
set_option maxRecDepth 20000 in
theorem tX10_cutsUp_67 {Γ : GE} {l : Launch} {x1 : Int32} {σ : SS} {K : Option Value → SS → Prop}  (hyp : wX10_cutsUp_291 Γ l (x1 + 1) σ K) : wX10_cutsUp_67 Γ l x1 σ K := by
  show G2 Γ l mX10_cutsUp 67 [(0, .ref 284), (1, .int x1)] [] σ K
  refine r_iinc (lv1 := [(1, .int (x1 + 1)), (0, .ref 284)]) (dcx dX10_cutsUp_c0 37 rfl) 1 rfl (Nat.le_of_ble_eq_true rfl) rfl ?_
  refine r_goto (tgt := 291) (dcx dX10_cutsUp_c0 38 rfl) (by decide) ?_
  refine r_loc (lv1 := [(0, .ref 284), (1, .int (x1 + 1))]) [1, 0] rfl ?_
  exact hyp
set_option maxHeartbeats 4000000 in
set_option maxRecDepth 20000 in
theorem tX10_cutsUp_291 {Γ : GE} {l : Launch} {x1 : Int32} {σ : SS} {K : Option Value → SS → Prop}  (hyp : wX10_cutsUp_7 Γ l x1 σ K) : wX10_cutsUp_291 Γ l x1 σ K := by
  show G2 Γ l mX10_cutsUp 291 [(0, .ref 284), (1, .int x1)] [] σ K
  refine r_goto (tgt := 7) (dcx dX10_cutsUp_c4 4 rfl) (by decide) ?_
  refine r_loc (lv1 := [(0, .ref 284), (1, .int x1)]) [0, 1] rfl ?_
  exact hyp
set_option maxHeartbeats 4000000 in
set_option maxRecDepth 20000 in
theorem tX10_cutsUp_208 {Γ : GE} {l : Launch} {x1 : Int32} {x3 : Int32} {x4 : Int32} {σ : SS} {K : Option Value → SS → Prop}  (hyp : C2 Γ l mX10_byteAt [.ref 284, .int (x1 + x3)] σ (Ri fun r2_ s1_ => (C2 Γ l mX10_isDigit [.int r2_] s1_ (Ri fun r4_ s3_ => ((r4_ = 0 → ((x3 ≤ 4 → (C2 Γ l mX10_token [.ref 284, .int 2, .int x1, .int x4, .long 0] s3_ (Rv fun s5_ => (wX10_cutsUp_291 Γ l (x1 + x3) s5_ K)))) ∧ (¬ (x3 ≤ 4) → (C2 Γ l mX10_token [.ref 284, .int 3, .int x1, .int x4, .long 0] s3_ (Rv fun s7_ => (wX10_cutsUp_291 Γ l (x1 + x3) s7_ K)))))) ∧ (¬ (r4_ = 0) → (((4 : Int32) ≤ x3 → (wX10_cutsUp_244 Γ l x1 x3 x4 s3_ K)) ∧ (¬ ((4 : Int32) ≤ x3) → (C2 Γ l mX10_byteAt [.ref 284, .int (x1 + x3)] s3_ (Ri fun r10_ s9_ => (wX10_cutsUp_244 Γ l x1 x3 (((10 * x4) + r10_) - 48) s9_ K))))))))))) : wX10_cutsUp_208 Γ l x1 x3 x4 σ K := by
  show G2 Γ l mX10_cutsUp 208 [(0, .ref 284), (1, .int x1), (3, .int x3), (4, .int x4)] [] σ K
  refine r_aload_n (dcx dX10_cutsUp_c2 32 rfl) 0 rfl ?_
  refine r_iload_n (dcx dX10_cutsUp_c2 33 rfl) 1 rfl ?_
  refine r_iload_n (dcx dX10_cutsUp_c2 34 rfl) 2 rfl ?_
  refine r_iadd (dcx dX10_cutsUp_c2 35 rfl) ?_
  refine s_callV (as := [.int (x1 + x3)]) (st := []) zX10_byteAt kX10_cutsUp_196 (dcx dX10_cutsUp_c2 36 rfl) rfl rfl (Nat.le_of_ble_eq_true rfl) O284 rfl rfl (C2.mono hyp ?_)
  rintro _ s1_ ⟨r2_, rfl, hyp⟩
  show G2 Γ l mX10_cutsUp 215 [(0, .ref 284), (1, .int x1), (3, .int x3), (4, .int x4)] [.int r2_] s1_ K
  refine s_callS (as := [.int r2_]) (st := []) zX10_isDigit kX10_cutsUp_208 (dcx dX10_cutsUp_c2 37 rfl) rfl rfl (Nat.le_of_ble_eq_true rfl) (C2.mono hyp ?_)
  rintro _ s3_ ⟨r4_, rfl, hyp⟩
  show G2 Γ l mX10_cutsUp 218 [(0, .ref 284), (1, .int x1), (3, .int x3), (4, .int x4)] [.int r4_] s3_ K
  refine r_if_eq (tgt := 250) (dcx dX10_cutsUp_c2 38 rfl) (by decide) (fun q_ => ?_) (fun q_ => ?_)
  · have hyp := hyp.1 q_
    refine r_aload_n (dcx dX10_cutsUp_c3 16 rfl) 0 rfl ?_
    refine r_iload_n (dcx dX10_cutsUp_c3 17 rfl) 2 rfl ?_
    refine r_iconst (v := 4) (dcx dX10_cutsUp_c3 18 rfl) rfl ?_
    refine r_icmp_le (tgt := 260) (dcx dX10_cutsUp_c3 19 rfl) (by decide) (fun q_ => ?_) (fun q_ => ?_)
    · have hyp := hyp.1 q_
      refine r_iconst (v := 2) (dcx dX10_cutsUp_c3 22 rfl) rfl ?_
      refine r_iload_n (dcx dX10_cutsUp_c3 23 rfl) 1 rfl ?_
      refine r_iload (dcx dX10_cutsUp_c3 24 rfl) 3 rfl ?_
      refine r_lconst (v := 0) (dcx dX10_cutsUp_c3 25 rfl) rfl ?_
      refine s_callV (as := [.int 2, .int x1, .int x4, .long 0]) (st := []) zX10_token kX10_cutsUp_200 (dcx dX10_cutsUp_c3 26 rfl) rfl rfl (Nat.le_of_ble_eq_true rfl) O284 rfl rfl (C2.mono hyp ?_)
      rintro _ s5_ ⟨rfl, hyp⟩
      show G2 Γ l mX10_cutsUp 268 [(0, .ref 284), (1, .int x1), (3, .int x3), (4, .int x4)] [] s5_ K
      refine r_iload_n (dcx dX10_cutsUp_c3 27 rfl) 1 rfl ?_
      refine r_iload_n (dcx dX10_cutsUp_c3 28 rfl) 2 rfl ?_
      refine r_iadd (dcx dX10_cutsUp_c3 29 rfl) ?_
      refine r_istore_n (lv1 := [(1, .int (x1 + x3)), (0, .ref 284), (3, .int x3), (4, .int x4)]) (dcx dX10_cutsUp_c3 30 rfl) (Nat.le_of_ble_eq_true rfl) rfl ?_
      refine r_goto (tgt := 291) (dcx dX10_cutsUp_c3 31 rfl) (by decide) ?_
      refine r_loc (lv1 := [(0, .ref 284), (1, .int (x1 + x3))]) [1, 0] rfl ?_
      exact hyp
    · have hyp := hyp.2 q_
      refine r_iconst (v := 3) (dcx dX10_cutsUp_c3 20 rfl) rfl ?_
      refine r_goto (tgt := 261) (dcx dX10_cutsUp_c3 21 rfl) (by decide) ?_
      refine r_iload_n (dcx dX10_cutsUp_c3 23 rfl) 1 rfl ?_
      refine r_iload (dcx dX10_cutsUp_c3 24 rfl) 3 rfl ?_
      refine r_lconst (v := 0) (dcx dX10_cutsUp_c3 25 rfl) rfl ?_
      refine s_callV (as := [.int 3, .int x1, .int x4, .long 0]) (st := []) zX10_token kX10_cutsUp_200 (dcx dX10_cutsUp_c3 26 rfl) rfl rfl (Nat.le_of_ble_eq_true rfl) O284 rfl rfl (C2.mono hyp ?_)
      rintro _ s7_ ⟨rfl, hyp⟩
      show G2 Γ l mX10_cutsUp 268 [(0, .ref 284), (1, .int x1), (3, .int x3), (4, .int x4)] [] s7_ K
      refine r_iload_n (dcx dX10_cutsUp_c3 27 rfl) 1 rfl ?_
      refine r_iload_n (dcx dX10_cutsUp_c3 28 rfl) 2 rfl ?_
      refine r_iadd (dcx dX10_cutsUp_c3 29 rfl) ?_
      refine r_istore_n (lv1 := [(1, .int (x1 + x3)), (0, .ref 284), (3, .int x3), (4, .int x4)]) (dcx dX10_cutsUp_c3 30 rfl) (Nat.le_of_ble_eq_true rfl) rfl ?_
      refine r_goto (tgt := 291) (dcx dX10_cutsUp_c3 31 rfl) (by decide) ?_
      refine r_loc (lv1 := [(0, .ref 284), (1, .int (x1 + x3))]) [1, 0] rfl ?_
      exact hyp
  · have hyp := hyp.2 q_
    refine r_iload_n (dcx dX10_cutsUp_c2 39 rfl) 2 rfl ?_
    refine r_iconst (v := 4) (dcx dX10_cutsUp_c3 0 rfl) rfl ?_
    refine r_icmp_ge (tgt := 244) (dcx dX10_cutsUp_c3 1 rfl) (by decide) (fun q_ => ?_) (fun q_ => ?_)
    · have hyp := hyp.1 q_
      refine r_loc (lv1 := [(0, .ref 284), (1, .int x1), (3, .int x3), (4, .int x4)]) [0, 1, 2, 3] rfl ?_
      exact hyp
    · have hyp := hyp.2 q_
      refine r_bipush (v := 10) (dcx dX10_cutsUp_c3 2 rfl) rfl ?_
      refine r_iload (dcx dX10_cutsUp_c3 3 rfl) 3 rfl ?_
      refine r_imul (dcx dX10_cutsUp_c3 4 rfl) ?_
      refine r_aload_n (dcx dX10_cutsUp_c3 5 rfl) 0 rfl ?_
      refine r_iload_n (dcx dX10_cutsUp_c3 6 rfl) 1 rfl ?_
      refine r_iload_n (dcx dX10_cutsUp_c3 7 rfl) 2 rfl ?_
      refine r_iadd (dcx dX10_cutsUp_c3 8 rfl) ?_
      refine s_callV (as := [.int (x1 + x3)]) (st := [.int (10 * x4)]) zX10_byteAt kX10_cutsUp_196 (dcx dX10_cutsUp_c3 9 rfl) rfl rfl (Nat.le_of_ble_eq_true rfl) O284 rfl rfl (C2.mono hyp ?_)
      rintro _ s9_ ⟨r10_, rfl, hyp⟩
      show G2 Γ l mX10_cutsUp 238 [(0, .ref 284), (1, .int x1), (3, .int x3), (4, .int x4)] [.int r10_, .int (10 * x4)] s9_ K
      refine r_iadd (dcx dX10_cutsUp_c3 10 rfl) ?_
      refine r_bipush (v := 48) (dcx dX10_cutsUp_c3 11 rfl) rfl ?_
      refine r_isub (dcx dX10_cutsUp_c3 12 rfl) ?_
      refine r_istore (lv1 := [(4, .int (((10 * x4) + r10_) - 48)), (0, .ref 284), (1, .int x1), (3, .int x3)]) (dcx dX10_cutsUp_c3 13 rfl) (Nat.le_of_ble_eq_true rfl) rfl ?_
      refine r_loc (lv1 := [(0, .ref 284), (1, .int x1), (3, .int x3), (4, .int (((10 * x4) + r10_) - 48))]) [1, 2, 3, 0] rfl ?_
      exact hyp
set_option maxHeartbeats 4000000 in
set_option maxRecDepth 20000 in
theorem tX10_cutsUp_85 {Γ : GE} {l : Launch} {x1 : Int32} {x3 : Int32} {x4 : Int64} {σ : SS} {K : Option Value → SS → Prop}  (hyp : C2 Γ l mX10_byteAt [.ref 284, .int (x1 + x3)] σ (Ri fun r2_ s1_ => (C2 Γ l mX10_isLetter [.int r2_] s1_ (Ri fun r4_ s3_ => ((r4_ = 0 → ((x3 ≤ 8 → (((8 : Int32) < x3 → (wX10_cutsUp_179 Γ l x1 x3 x4 1 s3_ K)) ∧ (¬ ((8 : Int32) < x3) → (wX10_cutsUp_146 Γ l x1 x3 x4 1 0 s3_ K)))) ∧ (¬ (x3 ≤ 8) → (((8 : Int32) < x3 → (wX10_cutsUp_179 Γ l x1 x3 x4 3 s3_ K)) ∧ (¬ ((8 : Int32) < x3) → (wX10_cutsUp_146 Γ l x1 x3 x4 3 0 s3_ K)))))) ∧ (¬ (r4_ = 0) → (((8 : Int32) ≤ x3 → (wX10_cutsUp_118 Γ l x1 x3 x4 s3_ K)) ∧ (¬ ((8 : Int32) ≤ x3) → (C2 Γ l mX10_byteAt [.ref 284, .int (x1 + x3)] s3_ (Ri fun r6_ s5_ => (C2 Γ l mX10_appends [.long x4, .int r6_] s5_ (Rl fun r8_ s7_ => (wX10_cutsUp_118 Γ l x1 x3 r8_ s7_ K))))))))))))) : wX10_cutsUp_85 Γ l x1 x3 x4 σ K := by
  show G2 Γ l mX10_cutsUp 85 [(0, .ref 284), (1, .int x1), (3, .int x3), (4, .long x4)] [] σ K
  refine r_aload_n (dcx dX10_cutsUp_c1 6 rfl) 0 rfl ?_
  refine r_iload_n (dcx dX10_cutsUp_c1 7 rfl) 1 rfl ?_
  refine r_iload_n (dcx dX10_cutsUp_c1 8 rfl) 2 rfl ?_
  refine r_iadd (dcx dX10_cutsUp_c1 9 rfl) ?_
  refine s_callV (as := [.int (x1 + x3)]) (st := []) zX10_byteAt kX10_cutsUp_196 (dcx dX10_cutsUp_c1 10 rfl) rfl rfl (Nat.le_of_ble_eq_true rfl) O284 rfl rfl (C2.mono hyp ?_)
  rintro _ s1_ ⟨r2_, rfl, hyp⟩
  show G2 Γ l mX10_cutsUp 92 [(0, .ref 284), (1, .int x1), (3, .int x3), (4, .long x4)] [.int r2_] s1_ K
  refine s_callS (as := [.int r2_]) (st := []) zX10_isLetter kX10_cutsUp_204 (dcx dX10_cutsUp_c1 11 rfl) rfl rfl (Nat.le_of_ble_eq_true rfl) (C2.mono hyp ?_)
  rintro _ s3_ ⟨r4_, rfl, hyp⟩
  show G2 Γ l mX10_cutsUp 95 [(0, .ref 284), (1, .int x1), (3, .int x3), (4, .long x4)] [.int r4_] s3_ K
  refine r_if_eq (tgt := 124) (dcx dX10_cutsUp_c1 12 rfl) (by decide) (fun q_ => ?_) (fun q_ => ?_)
  · have hyp := hyp.1 q_
    refine r_iload_n (dcx dX10_cutsUp_c1 26 rfl) 2 rfl ?_
    refine r_bipush (v := 8) (dcx dX10_cutsUp_c1 27 rfl) rfl ?_
    refine r_icmp_le (tgt := 134) (dcx dX10_cutsUp_c1 28 rfl) (by decide) (fun q_ => ?_) (fun q_ => ?_)
    · have hyp := hyp.1 q_
      refine r_iconst (v := 1) (dcx dX10_cutsUp_c1 31 rfl) rfl ?_
      refine r_istore (lv1 := [(6, .int 1), (0, .ref 284), (1, .int x1), (3, .int x3), (4, .long x4)]) (dcx dX10_cutsUp_c1 32 rfl) (Nat.le_of_ble_eq_true rfl) rfl ?_
      refine r_iload_n (dcx dX10_cutsUp_c1 33 rfl) 3 rfl ?_
      refine r_bipush (v := 8) (dcx dX10_cutsUp_c1 34 rfl) rfl ?_
      refine r_icmp_gt (tgt := 179) (dcx dX10_cutsUp_c1 35 rfl) (by decide) (fun q_ => ?_) (fun q_ => ?_)
      · have hyp := hyp.1 q_
        refine r_loc (lv1 := [(0, .ref 284), (1, .int x1), (3, .int x3), (4, .long x4), (6, .int 1)]) [1, 2, 3, 4, 0] rfl ?_
        exact hyp
      · have hyp := hyp.2 q_
        refine r_iconst (v := 0) (dcx dX10_cutsUp_c1 36 rfl) rfl ?_
        refine r_istore (lv1 := [(7, .int 0), (6, .int 1), (0, .ref 284), (1, .int x1), (3, .int x3), (4, .long x4)]) (dcx dX10_cutsUp_c1 37 rfl) (Nat.le_of_ble_eq_true rfl) rfl ?_
        refine r_loc (lv1 := [(0, .ref 284), (1, .int x1), (3, .int x3), (4, .long x4), (6, .int 1), (7, .int 0)]) [2, 3, 4, 5, 1, 0] rfl ?_
        exact hyp
    · have hyp := hyp.2 q_
      refine r_iconst (v := 3) (dcx dX10_cutsUp_c1 29 rfl) rfl ?_
      refine r_goto (tgt := 135) (dcx dX10_cutsUp_c1 30 rfl) (by decide) ?_
      refine r_istore (lv1 := [(6, .int 3), (0, .ref 284), (1, .int x1), (3, .int x3), (4, .long x4)]) (dcx dX10_cutsUp_c1 32 rfl) (Nat.le_of_ble_eq_true rfl) rfl ?_
      refine r_iload_n (dcx dX10_cutsUp_c1 33 rfl) 3 rfl ?_
      refine r_bipush (v := 8) (dcx dX10_cutsUp_c1 34 rfl) rfl ?_
      refine r_icmp_gt (tgt := 179) (dcx dX10_cutsUp_c1 35 rfl) (by decide) (fun q_ => ?_) (fun q_ => ?_)
      · have hyp := hyp.1 q_
        refine r_loc (lv1 := [(0, .ref 284), (1, .int x1), (3, .int x3), (4, .long x4), (6, .int 3)]) [1, 2, 3, 4, 0] rfl ?_
        exact hyp
      · have hyp := hyp.2 q_
        refine r_iconst (v := 0) (dcx dX10_cutsUp_c1 36 rfl) rfl ?_
        refine r_istore (lv1 := [(7, .int 0), (6, .int 3), (0, .ref 284), (1, .int x1), (3, .int x3), (4, .long x4)]) (dcx dX10_cutsUp_c1 37 rfl) (Nat.le_of_ble_eq_true rfl) rfl ?_
        refine r_loc (lv1 := [(0, .ref 284), (1, .int x1), (3, .int x3), (4, .long x4), (6, .int 3), (7, .int 0)]) [2, 3, 4, 5, 1, 0] rfl ?_
        exact hyp
  · have hyp := hyp.2 q_
    refine r_iload_n (dcx dX10_cutsUp_c1 13 rfl) 2 rfl ?_
    refine r_bipush (v := 8) (dcx dX10_cutsUp_c1 14 rfl) rfl ?_
    refine r_icmp_ge (tgt := 118) (dcx dX10_cutsUp_c1 15 rfl) (by decide) (fun q_ => ?_) (fun q_ => ?_)
    · have hyp := hyp.1 q_
      refine r_loc (lv1 := [(0, .ref 284), (1, .int x1), (3, .int x3), (4, .long x4)]) [0, 1, 2, 3] rfl ?_
      exact hyp
    · have hyp := hyp.2 q_
      refine r_lload (dcx dX10_cutsUp_c1 16 rfl) 3 rfl ?_
      refine r_aload_n (dcx dX10_cutsUp_c1 17 rfl) 0 rfl ?_
      refine r_iload_n (dcx dX10_cutsUp_c1 18 rfl) 1 rfl ?_
      refine r_iload_n (dcx dX10_cutsUp_c1 19 rfl) 2 rfl ?_
      refine r_iadd (dcx dX10_cutsUp_c1 20 rfl) ?_
      refine s_callV (as := [.int (x1 + x3)]) (st := [.long x4]) zX10_byteAt kX10_cutsUp_196 (dcx dX10_cutsUp_c1 21 rfl) rfl rfl (Nat.le_of_ble_eq_true rfl) O284 rfl rfl (C2.mono hyp ?_)
      rintro _ s5_ ⟨r6_, rfl, hyp⟩
      show G2 Γ l mX10_cutsUp 113 [(0, .ref 284), (1, .int x1), (3, .int x3), (4, .long x4)] [.int r6_, .long x4] s5_ K
      refine s_callS (as := [.long x4, .int r6_]) (st := []) zX10_appends kX10_cutsUp_189 (dcx dX10_cutsUp_c1 22 rfl) rfl rfl (Nat.le_of_ble_eq_true rfl) (C2.mono hyp ?_)
      rintro _ s7_ ⟨r8_, rfl, hyp⟩
      show G2 Γ l mX10_cutsUp 116 [(0, .ref 284), (1, .int x1), (3, .int x3), (4, .long x4)] [.long r8_] s7_ K
      refine r_lstore (lv1 := [(4, .long r8_), (0, .ref 284), (1, .int x1), (3, .int x3)]) (dcx dX10_cutsUp_c1 23 rfl) (Nat.le_of_ble_eq_true rfl) rfl ?_
      refine r_loc (lv1 := [(0, .ref 284), (1, .int x1), (3, .int x3), (4, .long r8_)]) [1, 2, 3, 0] rfl ?_
      exact hyp
set_option maxHeartbeats 4000000 in
set_option maxRecDepth 20000 in
theorem tX10_cutsUp_244 {Γ : GE} {l : Launch} {x1 : Int32} {x3 : Int32} {x4 : Int32} {σ : SS} {K : Option Value → SS → Prop}  (hyp : wX10_cutsUp_208 Γ l x1 (x3 + 1) x4 σ K) : wX10_cutsUp_244 Γ l x1 x3 x4 σ K := by
  show G2 Γ l mX10_cutsUp 244 [(0, .ref 284), (1, .int x1), (3, .int x3), (4, .int x4)] [] σ K
  refine r_iinc (lv1 := [(3, .int (x3 + 1)), (0, .ref 284), (1, .int x1), (4, .int x4)]) (dcx dX10_cutsUp_c3 14 rfl) 2 rfl (Nat.le_of_ble_eq_true rfl) rfl ?_
  refine r_goto (tgt := 208) (dcx dX10_cutsUp_c3 15 rfl) (by decide) ?_
  refine r_loc (lv1 := [(0, .ref 284), (1, .int x1), (3, .int (x3 + 1)), (4, .int x4)]) [1, 2, 0, 3] rfl ?_
  exact hyp
set_option maxHeartbeats 4000000 in
set_option maxRecDepth 20000 in
theorem tX10_cutsUp_179 {Γ : GE} {l : Launch} {x1 : Int32} {x3 : Int32} {x4 : Int64} {x6 : Int32} {σ : SS} {K : Option Value → SS → Prop}  (hyp : C2 Γ l mX10_token [.ref 284, .int x6, .int x1, .int 0, .long x4] σ (Rv fun s1_ => (wX10_cutsUp_291 Γ l (x1 + x3) s1_ K))) : wX10_cutsUp_179 Γ l x1 x3 x4 x6 σ K := by
  show G2 Γ l mX10_cutsUp 179 [(0, .ref 284), (1, .int x1), (3, .int x3), (4, .long x4), (6, .int x6)] [] σ K
  refine r_aload_n (dcx dX10_cutsUp_c2 14 rfl) 0 rfl ?_
  refine r_iload (dcx dX10_cutsUp_c2 15 rfl) 4 rfl ?_
  refine r_iload_n (dcx dX10_cutsUp_c2 16 rfl) 1 rfl ?_
  refine r_iconst (v := 0) (dcx dX10_cutsUp_c2 17 rfl) rfl ?_
  refine r_lload (dcx dX10_cutsUp_c2 18 rfl) 3 rfl ?_
  refine s_callV (as := [.int x6, .int x1, .int 0, .long x4]) (st := []) zX10_token kX10_cutsUp_200 (dcx dX10_cutsUp_c2 19 rfl) rfl rfl (Nat.le_of_ble_eq_true rfl) O284 rfl rfl (C2.mono hyp ?_)
  rintro _ s1_ ⟨rfl, hyp⟩
  show G2 Γ l mX10_cutsUp 189 [(0, .ref 284), (1, .int x1), (3, .int x3), (4, .long x4), (6, .int x6)] [] s1_ K
  refine r_iload_n (dcx dX10_cutsUp_c2 20 rfl) 1 rfl ?_
  refine r_iload_n (dcx dX10_cutsUp_c2 21 rfl) 2 rfl ?_
  refine r_iadd (dcx dX10_cutsUp_c2 22 rfl) ?_
  refine r_istore_n (lv1 := [(1, .int (x1 + x3)), (0, .ref 284), (3, .int x3), (4, .long x4), (6, .int x6)]) (dcx dX10_cutsUp_c2 23 rfl) (Nat.le_of_ble_eq_true rfl) rfl ?_
  refine r_goto (tgt := 291) (dcx dX10_cutsUp_c2 24 rfl) (by decide) ?_
  refine r_loc (lv1 := [(0, .ref 284), (1, .int (x1 + x3))]) [1, 0] rfl ?_
  exact hyp
set_option maxHeartbeats 4000000 in
set_option maxRecDepth 20000 in
theorem tX10_cutsUp_146 {Γ : GE} {l : Launch} {x1 : Int32} {x3 : Int32} {x4 : Int64} {x6 : Int32} {x7 : Int32} {σ : SS} {K : Option Value → SS → Prop}  (hyp : ((22 : Int32) ≤ x7 → (wX10_cutsUp_179 Γ l x1 x3 x4 x6 σ K)) ∧ (¬ ((22 : Int32) ≤ x7) → (vp_in x7 22 ∧ ((¬ (lg_cmp (σ.2.1 291 (Int32.toNatClampNeg x7)) x4) = 0 → (wX10_cutsUp_173 Γ l x1 x3 x4 x6 x7 σ K)) ∧ ((lg_cmp (σ.2.1 291 (Int32.toNatClampNeg x7)) x4) = 0 → (wX10_cutsUp_173 Γ l x1 x3 x4 (20 + x7) x7 σ K)))))) : wX10_cutsUp_146 Γ l x1 x3 x4 x6 x7 σ K := by
  show G2 Γ l mX10_cutsUp 146 [(0, .ref 284), (1, .int x1), (3, .int x3), (4, .long x4), (6, .int x6), (7, .int x7)] [] σ K
  refine r_iload (dcx dX10_cutsUp_c1 38 rfl) 5 rfl ?_
  refine r_bipush (v := 22) (dcx dX10_cutsUp_c1 39 rfl) rfl ?_
  refine r_icmp_ge (tgt := 179) (dcx dX10_cutsUp_c2 0 rfl) (by decide) (fun q_ => ?_) (fun q_ => ?_)
  · have hyp := hyp.1 q_
    refine r_loc (lv1 := [(0, .ref 284), (1, .int x1), (3, .int x3), (4, .long x4), (6, .int x6)]) [0, 1, 2, 3, 4] rfl ?_
    exact hyp
  · have hyp := hyp.2 q_
    refine r_aload_n (dcx dX10_cutsUp_c2 1 rfl) 0 rfl ?_
    refine s_getr (b := 291) fX10_34 (dcx dX10_cutsUp_c2 2 rfl) F284_9 ?_
    refine r_iload (dcx dX10_cutsUp_c2 3 rfl) 5 rfl ?_
    obtain ⟨hb_, hyp⟩ := hyp
    refine s_lald (dcx dX10_cutsUp_c2 4 rfl) A291 hb_ ?_
    refine r_lload (dcx dX10_cutsUp_c2 5 rfl) 3 rfl ?_
    refine r_lcmp (dcx dX10_cutsUp_c2 6 rfl) ?_
    refine r_if_ne (tgt := 173) (dcx dX10_cutsUp_c2 7 rfl) (by decide) (fun q_ => ?_) (fun q_ => ?_)
    · have hyp := hyp.1 q_
      refine r_loc (lv1 := [(0, .ref 284), (1, .int x1), (3, .int x3), (4, .long x4), (6, .int x6), (7, .int x7)]) [0, 1, 2, 3, 4, 5] rfl ?_
      exact hyp
    · have hyp := hyp.2 q_
      refine r_bipush (v := 20) (dcx dX10_cutsUp_c2 8 rfl) rfl ?_
      refine r_iload (dcx dX10_cutsUp_c2 9 rfl) 5 rfl ?_
      refine r_iadd (dcx dX10_cutsUp_c2 10 rfl) ?_
      refine r_istore (lv1 := [(6, .int (20 + x7)), (0, .ref 284), (1, .int x1), (3, .int x3), (4, .long x4), (7, .int x7)]) (dcx dX10_cutsUp_c2 11 rfl) (Nat.le_of_ble_eq_true rfl) rfl ?_
      refine r_loc (lv1 := [(0, .ref 284), (1, .int x1), (3, .int x3), (4, .long x4), (6, .int (20 + x7)), (7, .int x7)]) [1, 2, 3, 4, 0, 5] rfl ?_
      exact hyp
set_option maxHeartbeats 4000000 in
set_option maxRecDepth 20000 in
theorem tX10_cutsUp_118 {Γ : GE} {l : Launch} {x1 : Int32} {x3 : Int32} {x4 : Int64} {σ : SS} {K : Option Value → SS → Prop}  (hyp : wX10_cutsUp_85 Γ l x1 (x3 + 1) x4 σ K) : wX10_cutsUp_118 Γ l x1 x3 x4 σ K := by
  show G2 Γ l mX10_cutsUp 118 [(0, .ref 284), (1, .int x1), (3, .int x3), (4, .long x4)] [] σ K
  refine r_iinc (lv1 := [(3, .int (x3 + 1)), (0, .ref 284), (1, .int x1), (4, .long x4)]) (dcx dX10_cutsUp_c1 24 rfl) 2 rfl (Nat.le_of_ble_eq_true rfl) rfl ?_
  refine r_goto (tgt := 85) (dcx dX10_cutsUp_c1 25 rfl) (by decide) ?_
  refine r_loc (lv1 := [(0, .ref 284), (1, .int x1), (3, .int (x3 + 1)), (4, .long x4)]) [1, 2, 0, 3] rfl ?_
  exact hyp
set_option maxHeartbeats 4000000 in
set_option maxRecDepth 20000 in
theorem tX10_cutsUp_173 {Γ : GE} {l : Launch} {x1 : Int32} {x3 : Int32} {x4 : Int64} {x6 : Int32} {x7 : Int32} {σ : SS} {K : Option Value → SS → Prop}  (hyp : wX10_cutsUp_146 Γ l x1 x3 x4 x6 (x7 + 1) σ K) : wX10_cutsUp_173 Γ l x1 x3 x4 x6 x7 σ K := by
  show G2 Γ l mX10_cutsUp 173 [(0, .ref 284), (1, .int x1), (3, .int x3), (4, .long x4), (6, .int x6), (7, .int x7)] [] σ K
  refine r_iinc (lv1 := [(7, .int (x7 + 1)), (0, .ref 284), (1, .int x1), (3, .int x3), (4, .long x4), (6, .int x6)]) (dcx dX10_cutsUp_c2 12 rfl) 5 rfl (Nat.le_of_ble_eq_true rfl) rfl ?_
  refine r_goto (tgt := 146) (dcx dX10_cutsUp_c2 13 rfl) (by decide) ?_
  refine r_loc (lv1 := [(0, .ref 284), (1, .int x1), (3, .int x3), (4, .long x4), (6, .int x6), (7, .int (x7 + 1))]) [1, 2, 3, 4, 5, 0] rfl ?_
  exact hyp
def wX10_signAt_55 (Γ : GE) (l : Launch) (x1 : Int32) (x2 : Int32) (x4 : Int32) (σ : SS) (K : Option Value → SS → Prop) : Prop := G2 Γ l mX10_signAt 55 [(0, .ref 284), (1, .int x1), (2, .int x2), (4, .int x4)] [] σ K
def wX10_signAt_65 (Γ : GE) (l : Launch) (x1 : Int32) (x2 : Int32) (x4 : Int32) (σ : SS) (K : Option Value → SS → Prop) : Prop := G2 Γ l mX10_signAt 65 [(0, .ref 284), (1, .int x1), (2, .int x2), (4, .int x4)] [] σ K
def wX10_signAt_75 (Γ : GE) (l : Launch) (x1 : Int32) (x2 : Int32) (x4 : Int32) (σ : SS) (K : Option Value → SS → Prop) : Prop := G2 Γ l mX10_signAt 75 [(0, .ref 284), (1, .int x1), (2, .int x2), (4, .int x4)] [] σ K
def wX10_signAt_85 (Γ : GE) (l : Launch) (x1 : Int32) (x2 : Int32) (x4 : Int32) (σ : SS) (K : Option Value → SS → Prop) : Prop := G2 Γ l mX10_signAt 85 [(0, .ref 284), (1, .int x1), (2, .int x2), (4, .int x4)] [] σ K
def wX10_signAt_95 (Γ : GE) (l : Launch) (x1 : Int32) (x4 : Int32) (σ : SS) (K : Option Value → SS → Prop) : Prop := G2 Γ l mX10_signAt 95 [(0, .ref 284), (1, .int x1), (4, .int x4)] [] σ K
set_option maxHeartbeats 4000000 in
set_option maxRecDepth 20000 in
theorem tX10_signAt {Γ : GE} {l : Launch} {x1 : Int32} {x2 : Int32} {x3 : Int32} {σ : SS} {K : Option Value → SS → Prop}  (hyp : (¬ x2 = 59 → ((¬ x2 = 61 → ((¬ x2 = 40 → ((¬ x2 = 41 → ((¬ x2 = 43 → (wX10_signAt_55 Γ l x1 x2 3 σ K)) ∧ (x2 = 43 → (wX10_signAt_55 Γ l x1 x2 8 σ K)))) ∧ (x2 = 41 → ((¬ x2 = 43 → (wX10_signAt_55 Γ l x1 x2 7 σ K)) ∧ (x2 = 43 → (wX10_signAt_55 Γ l x1 x2 8 σ K)))))) ∧ (x2 = 40 → ((¬ x2 = 43 → (wX10_signAt_55 Γ l x1 x2 6 σ K)) ∧ (x2 = 43 → (wX10_signAt_55 Γ l x1 x2 8 σ K)))))) ∧ (x2 = 61 → ((¬ x2 = 43 → (wX10_signAt_55 Γ l x1 x2 5 σ K)) ∧ (x2 = 43 → (wX10_signAt_55 Γ l x1 x2 8 σ K)))))) ∧ (x2 = 59 → ((¬ x2 = 43 → (wX10_signAt_55 Γ l x1 x2 4 σ K)) ∧ (x2 = 43 → (wX10_signAt_55 Γ l x1 x2 8 σ K))))) : C2 Γ l mX10_signAt [.ref 284, .int x1, .int x2, .int x3] σ K := by
  refine c2_of (lv := [(0, .ref 284), (1, .int x1), (2, .int x2), (3, .int x3)]) (by decide) (Nat.le_of_ble_eq_true rfl) rfl ?_
  refine r_iload_n (dcx dX10_signAt_c0 0 rfl) 2 rfl ?_
  refine r_bipush (v := 59) (dcx dX10_signAt_c0 1 rfl) rfl ?_
  refine r_icmp_ne (tgt := 10) (dcx dX10_signAt_c0 2 rfl) (by decide) (fun q_ => ?_) (fun q_ => ?_)
  · have hyp := hyp.1 q_
    refine r_iload_n (dcx dX10_signAt_c0 5 rfl) 2 rfl ?_
    refine r_bipush (v := 61) (dcx dX10_signAt_c0 6 rfl) rfl ?_
    refine r_icmp_ne (tgt := 20) (dcx dX10_signAt_c0 7 rfl) (by decide) (fun q_ => ?_) (fun q_ => ?_)
    · have hyp := hyp.1 q_
      refine r_iload_n (dcx dX10_signAt_c0 10 rfl) 2 rfl ?_
      refine r_bipush (v := 40) (dcx dX10_signAt_c0 11 rfl) rfl ?_
      refine r_icmp_ne (tgt := 31) (dcx dX10_signAt_c0 12 rfl) (by decide) (fun q_ => ?_) (fun q_ => ?_)
      · have hyp := hyp.1 q_
        refine r_iload_n (dcx dX10_signAt_c0 15 rfl) 2 rfl ?_
        refine r_bipush (v := 41) (dcx dX10_signAt_c0 16 rfl) rfl ?_
        refine r_icmp_ne (tgt := 42) (dcx dX10_signAt_c0 17 rfl) (by decide) (fun q_ => ?_) (fun q_ => ?_)
        · have hyp := hyp.1 q_
          refine r_iconst (v := 3) (dcx dX10_signAt_c0 20 rfl) rfl ?_
          refine r_istore (lv1 := [(4, .int 3), (0, .ref 284), (1, .int x1), (2, .int x2), (3, .int x3)]) (dcx dX10_signAt_c0 21 rfl) (Nat.le_of_ble_eq_true rfl) rfl ?_
          refine r_iload_n (dcx dX10_signAt_c0 22 rfl) 3 rfl ?_
          refine r_bipush (v := 43) (dcx dX10_signAt_c0 23 rfl) rfl ?_
          refine r_icmp_ne (tgt := 55) (dcx dX10_signAt_c0 24 rfl) (by decide) (fun q_ => ?_) (fun q_ => ?_)
          · have hyp := hyp.1 q_
            refine r_loc (lv1 := [(0, .ref 284), (1, .int x1), (2, .int x2), (4, .int 3)]) [1, 2, 3, 0] rfl ?_
            exact hyp
          · have hyp := hyp.2 q_
            refine r_bipush (v := 8) (dcx dX10_signAt_c0 25 rfl) rfl ?_
            refine r_istore (lv1 := [(4, .int 8), (0, .ref 284), (1, .int x1), (2, .int x2), (3, .int x3)]) (dcx dX10_signAt_c0 26 rfl) (Nat.le_of_ble_eq_true rfl) rfl ?_
            refine r_loc (lv1 := [(0, .ref 284), (1, .int x1), (2, .int x2), (4, .int 8)]) [1, 2, 3, 0] rfl ?_
            exact hyp
        · have hyp := hyp.2 q_
          refine r_bipush (v := 7) (dcx dX10_signAt_c0 18 rfl) rfl ?_
          refine r_goto (tgt := 43) (dcx dX10_signAt_c0 19 rfl) (by decide) ?_
          refine r_istore (lv1 := [(4, .int 7), (0, .ref 284), (1, .int x1), (2, .int x2), (3, .int x3)]) (dcx dX10_signAt_c0 21 rfl) (Nat.le_of_ble_eq_true rfl) rfl ?_
          refine r_iload_n (dcx dX10_signAt_c0 22 rfl) 3 rfl ?_
          refine r_bipush (v := 43) (dcx dX10_signAt_c0 23 rfl) rfl ?_
          refine r_icmp_ne (tgt := 55) (dcx dX10_signAt_c0 24 rfl) (by decide) (fun q_ => ?_) (fun q_ => ?_)
          · have hyp := hyp.1 q_
            refine r_loc (lv1 := [(0, .ref 284), (1, .int x1), (2, .int x2), (4, .int 7)]) [1, 2, 3, 0] rfl ?_
            exact hyp
          · have hyp := hyp.2 q_
            refine r_bipush (v := 8) (dcx dX10_signAt_c0 25 rfl) rfl ?_
            refine r_istore (lv1 := [(4, .int 8), (0, .ref 284), (1, .int x1), (2, .int x2), (3, .int x3)]) (dcx dX10_signAt_c0 26 rfl) (Nat.le_of_ble_eq_true rfl) rfl ?_
            refine r_loc (lv1 := [(0, .ref 284), (1, .int x1), (2, .int x2), (4, .int 8)]) [1, 2, 3, 0] rfl ?_
            exact hyp
      · have hyp := hyp.2 q_
        refine r_bipush (v := 6) (dcx dX10_signAt_c0 13 rfl) rfl ?_
        refine r_goto (tgt := 43) (dcx dX10_signAt_c0 14 rfl) (by decide) ?_
        refine r_istore (lv1 := [(4, .int 6), (0, .ref 284), (1, .int x1), (2, .int x2), (3, .int x3)]) (dcx dX10_signAt_c0 21 rfl) (Nat.le_of_ble_eq_true rfl) rfl ?_
        refine r_iload_n (dcx dX10_signAt_c0 22 rfl) 3 rfl ?_
        refine r_bipush (v := 43) (dcx dX10_signAt_c0 23 rfl) rfl ?_
        refine r_icmp_ne (tgt := 55) (dcx dX10_signAt_c0 24 rfl) (by decide) (fun q_ => ?_) (fun q_ => ?_)
        · have hyp := hyp.1 q_
          refine r_loc (lv1 := [(0, .ref 284), (1, .int x1), (2, .int x2), (4, .int 6)]) [1, 2, 3, 0] rfl ?_
          exact hyp
        · have hyp := hyp.2 q_
          refine r_bipush (v := 8) (dcx dX10_signAt_c0 25 rfl) rfl ?_
          refine r_istore (lv1 := [(4, .int 8), (0, .ref 284), (1, .int x1), (2, .int x2), (3, .int x3)]) (dcx dX10_signAt_c0 26 rfl) (Nat.le_of_ble_eq_true rfl) rfl ?_
          refine r_loc (lv1 := [(0, .ref 284), (1, .int x1), (2, .int x2), (4, .int 8)]) [1, 2, 3, 0] rfl ?_
          exact hyp
    · have hyp := hyp.2 q_
      refine r_iconst (v := 5) (dcx dX10_signAt_c0 8 rfl) rfl ?_
      refine r_goto (tgt := 43) (dcx dX10_signAt_c0 9 rfl) (by decide) ?_
      refine r_istore (lv1 := [(4, .int 5), (0, .ref 284), (1, .int x1), (2, .int x2), (3, .int x3)]) (dcx dX10_signAt_c0 21 rfl) (Nat.le_of_ble_eq_true rfl) rfl ?_
      refine r_iload_n (dcx dX10_signAt_c0 22 rfl) 3 rfl ?_
      refine r_bipush (v := 43) (dcx dX10_signAt_c0 23 rfl) rfl ?_
      refine r_icmp_ne (tgt := 55) (dcx dX10_signAt_c0 24 rfl) (by decide) (fun q_ => ?_) (fun q_ => ?_)
      · have hyp := hyp.1 q_
        refine r_loc (lv1 := [(0, .ref 284), (1, .int x1), (2, .int x2), (4, .int 5)]) [1, 2, 3, 0] rfl ?_
        exact hyp
      · have hyp := hyp.2 q_
        refine r_bipush (v := 8) (dcx dX10_signAt_c0 25 rfl) rfl ?_
        refine r_istore (lv1 := [(4, .int 8), (0, .ref 284), (1, .int x1), (2, .int x2), (3, .int x3)]) (dcx dX10_signAt_c0 26 rfl) (Nat.le_of_ble_eq_true rfl) rfl ?_
        refine r_loc (lv1 := [(0, .ref 284), (1, .int x1), (2, .int x2), (4, .int 8)]) [1, 2, 3, 0] rfl ?_
        exact hyp
  · have hyp := hyp.2 q_
    refine r_iconst (v := 4) (dcx dX10_signAt_c0 3 rfl) rfl ?_
    refine r_goto (tgt := 43) (dcx dX10_signAt_c0 4 rfl) (by decide) ?_
    refine r_istore (lv1 := [(4, .int 4), (0, .ref 284), (1, .int x1), (2, .int x2), (3, .int x3)]) (dcx dX10_signAt_c0 21 rfl) (Nat.le_of_ble_eq_true rfl) rfl ?_
    refine r_iload_n (dcx dX10_signAt_c0 22 rfl) 3 rfl ?_
    refine r_bipush (v := 43) (dcx dX10_signAt_c0 23 rfl) rfl ?_
    refine r_icmp_ne (tgt := 55) (dcx dX10_signAt_c0 24 rfl) (by decide) (fun q_ => ?_) (fun q_ => ?_)
    · have hyp := hyp.1 q_
      refine r_loc (lv1 := [(0, .ref 284), (1, .int x1), (2, .int x2), (4, .int 4)]) [1, 2, 3, 0] rfl ?_
      exact hyp
    · have hyp := hyp.2 q_
      refine r_bipush (v := 8) (dcx dX10_signAt_c0 25 rfl) rfl ?_
      refine r_istore (lv1 := [(4, .int 8), (0, .ref 284), (1, .int x1), (2, .int x2), (3, .int x3)]) (dcx dX10_signAt_c0 26 rfl) (Nat.le_of_ble_eq_true rfl) rfl ?_
      refine r_loc (lv1 := [(0, .ref 284), (1, .int x1), (2, .int x2), (4, .int 8)]) [1, 2, 3, 0] rfl ?_
      exact hyp
set_option maxHeartbeats 4000000 in
set_option maxRecDepth 20000 in
theorem tX10_signAt_55 {Γ : GE} {l : Launch} {x1 : Int32} {x2 : Int32} {x4 : Int32} {σ : SS} {K : Option Value → SS → Prop}  (hyp : (¬ x2 = 45 → (wX10_signAt_65 Γ l x1 x2 x4 σ K)) ∧ (x2 = 45 → (wX10_signAt_65 Γ l x1 x2 9 σ K))) : wX10_signAt_55 Γ l x1 x2 x4 σ K := by
  show G2 Γ l mX10_signAt 55 [(0, .ref 284), (1, .int x1), (2, .int x2), (4, .int x4)] [] σ K
  refine r_iload_n (dcx dX10_signAt_c0 27 rfl) 2 rfl ?_
  refine r_bipush (v := 45) (dcx dX10_signAt_c0 28 rfl) rfl ?_
  refine r_icmp_ne (tgt := 65) (dcx dX10_signAt_c0 29 rfl) (by decide) (fun q_ => ?_) (fun q_ => ?_)
  · have hyp := hyp.1 q_
    refine r_loc (lv1 := [(0, .ref 284), (1, .int x1), (2, .int x2), (4, .int x4)]) [0, 1, 2, 3] rfl ?_
    exact hyp
  · have hyp := hyp.2 q_
    refine r_bipush (v := 9) (dcx dX10_signAt_c0 30 rfl) rfl ?_
    refine r_istore (lv1 := [(4, .int 9), (0, .ref 284), (1, .int x1), (2, .int x2)]) (dcx dX10_signAt_c0 31 rfl) (Nat.le_of_ble_eq_true rfl) rfl ?_
    refine r_loc (lv1 := [(0, .ref 284), (1, .int x1), (2, .int x2), (4, .int 9)]) [1, 2, 3, 0] rfl ?_
    exact hyp
set_option maxHeartbeats 4000000 in
set_option maxRecDepth 20000 in
theorem tX10_signAt_65 {Γ : GE} {l : Launch} {x1 : Int32} {x2 : Int32} {x4 : Int32} {σ : SS} {K : Option Value → SS → Prop}  (hyp : (¬ x2 = 42 → (wX10_signAt_75 Γ l x1 x2 x4 σ K)) ∧ (x2 = 42 → (wX10_signAt_75 Γ l x1 x2 10 σ K))) : wX10_signAt_65 Γ l x1 x2 x4 σ K := by
  show G2 Γ l mX10_signAt 65 [(0, .ref 284), (1, .int x1), (2, .int x2), (4, .int x4)] [] σ K
  refine r_iload_n (dcx dX10_signAt_c0 32 rfl) 2 rfl ?_
  refine r_bipush (v := 42) (dcx dX10_signAt_c0 33 rfl) rfl ?_
  refine r_icmp_ne (tgt := 75) (dcx dX10_signAt_c0 34 rfl) (by decide) (fun q_ => ?_) (fun q_ => ?_)
  · have hyp := hyp.1 q_
    refine r_loc (lv1 := [(0, .ref 284), (1, .int x1), (2, .int x2), (4, .int x4)]) [0, 1, 2, 3] rfl ?_
    exact hyp
  · have hyp := hyp.2 q_
    refine r_bipush (v := 10) (dcx dX10_signAt_c0 35 rfl) rfl ?_
    refine r_istore (lv1 := [(4, .int 10), (0, .ref 284), (1, .int x1), (2, .int x2)]) (dcx dX10_signAt_c0 36 rfl) (Nat.le_of_ble_eq_true rfl) rfl ?_
    refine r_loc (lv1 := [(0, .ref 284), (1, .int x1), (2, .int x2), (4, .int 10)]) [1, 2, 3, 0] rfl ?_
    exact hyp
set_option maxHeartbeats 4000000 in
set_option maxRecDepth 20000 in
theorem tX10_signAt_75 {Γ : GE} {l : Launch} {x1 : Int32} {x2 : Int32} {x4 : Int32} {σ : SS} {K : Option Value → SS → Prop}  (hyp : (¬ x2 = 47 → (wX10_signAt_85 Γ l x1 x2 x4 σ K)) ∧ (x2 = 47 → (wX10_signAt_85 Γ l x1 x2 15 σ K))) : wX10_signAt_75 Γ l x1 x2 x4 σ K := by
  show G2 Γ l mX10_signAt 75 [(0, .ref 284), (1, .int x1), (2, .int x2), (4, .int x4)] [] σ K
  refine r_iload_n (dcx dX10_signAt_c0 37 rfl) 2 rfl ?_
  refine r_bipush (v := 47) (dcx dX10_signAt_c0 38 rfl) rfl ?_
  refine r_icmp_ne (tgt := 85) (dcx dX10_signAt_c0 39 rfl) (by decide) (fun q_ => ?_) (fun q_ => ?_)
  · have hyp := hyp.1 q_
    refine r_loc (lv1 := [(0, .ref 284), (1, .int x1), (2, .int x2), (4, .int x4)]) [0, 1, 2, 3] rfl ?_
    exact hyp
  · have hyp := hyp.2 q_
    refine r_bipush (v := 15) (dcx dX10_signAt_c1 0 rfl) rfl ?_
    refine r_istore (lv1 := [(4, .int 15), (0, .ref 284), (1, .int x1), (2, .int x2)]) (dcx dX10_signAt_c1 1 rfl) (Nat.le_of_ble_eq_true rfl) rfl ?_
    refine r_loc (lv1 := [(0, .ref 284), (1, .int x1), (2, .int x2), (4, .int 15)]) [1, 2, 3, 0] rfl ?_
    exact hyp
set_option maxHeartbeats 4000000 in
set_option maxRecDepth 20000 in
theorem tX10_signAt_85 {Γ : GE} {l : Launch} {x1 : Int32} {x2 : Int32} {x4 : Int32} {σ : SS} {K : Option Value → SS → Prop}  (hyp : (¬ x2 = 60 → (wX10_signAt_95 Γ l x1 x4 σ K)) ∧ (x2 = 60 → (wX10_signAt_95 Γ l x1 13 σ K))) : wX10_signAt_85 Γ l x1 x2 x4 σ K := by
  show G2 Γ l mX10_signAt 85 [(0, .ref 284), (1, .int x1), (2, .int x2), (4, .int x4)] [] σ K
  refine r_iload_n (dcx dX10_signAt_c1 2 rfl) 2 rfl ?_
  refine r_bipush (v := 60) (dcx dX10_signAt_c1 3 rfl) rfl ?_
  refine r_icmp_ne (tgt := 95) (dcx dX10_signAt_c1 4 rfl) (by decide) (fun q_ => ?_) (fun q_ => ?_)
  · have hyp := hyp.1 q_
    refine r_loc (lv1 := [(0, .ref 284), (1, .int x1), (4, .int x4)]) [0, 1, 3] rfl ?_
    exact hyp
  · have hyp := hyp.2 q_
    refine r_bipush (v := 13) (dcx dX10_signAt_c1 5 rfl) rfl ?_
    refine r_istore (lv1 := [(4, .int 13), (0, .ref 284), (1, .int x1), (2, .int x2)]) (dcx dX10_signAt_c1 6 rfl) (Nat.le_of_ble_eq_true rfl) rfl ?_
    refine r_loc (lv1 := [(0, .ref 284), (1, .int x1), (4, .int 13)]) [1, 2, 0] rfl ?_
    exact hyp
set_option maxHeartbeats 4000000 in
set_option maxRecDepth 20000 in
theorem tX10_signAt_95 {Γ : GE} {l : Launch} {x1 : Int32} {x4 : Int32} {σ : SS} {K : Option Value → SS → Prop}  (hyp : C2 Γ l mX10_token [.ref 284, .int x4, .int x1, .int 0, .long 0] σ (Rv fun s1_ => (K (some (.int 1)) s1_))) : wX10_signAt_95 Γ l x1 x4 σ K := by
  show G2 Γ l mX10_signAt 95 [(0, .ref 284), (1, .int x1), (4, .int x4)] [] σ K
  refine r_aload_n (dcx dX10_signAt_c1 7 rfl) 0 rfl ?_
  refine r_iload (dcx dX10_signAt_c1 8 rfl) 2 rfl ?_
  refine r_iload_n (dcx dX10_signAt_c1 9 rfl) 1 rfl ?_
  refine r_iconst (v := 0) (dcx dX10_signAt_c1 10 rfl) rfl ?_
  refine r_lconst (v := 0) (dcx dX10_signAt_c1 11 rfl) rfl ?_
  refine s_callV (as := [.int x4, .int x1, .int 0, .long 0]) (st := []) zX10_token kX10_signAt_200 (dcx dX10_signAt_c1 12 rfl) rfl rfl (Nat.le_of_ble_eq_true rfl) O284 rfl rfl (C2.mono hyp ?_)
  rintro _ s1_ ⟨rfl, hyp⟩
  show G2 Γ l mX10_signAt 104 [(0, .ref 284), (1, .int x1), (4, .int x4)] [] s1_ K
  refine r_iconst (v := 1) (dcx dX10_signAt_c1 13 rfl) rfl ?_
  exact s_ret rfl rfl rfl hyp (dcx dX10_signAt_c1 14 rfl)
set_option maxHeartbeats 4000000 in
set_option maxRecDepth 20000 in
theorem tX10_is {Γ : GE} {l : Launch} {x1 : Int32} {σ : SS} {K : Option Value → SS → Prop}  (hyp : (¬ (σ.1 284 13) = 0 → (K (some (.int 0)) σ)) ∧ ((σ.1 284 13) = 0 → (vp_in (σ.1 284 11) 403 ∧ ((¬ (σ.1 287 (Int32.toNatClampNeg (σ.1 284 11))) = x1 → (K (some (.int 0)) σ)) ∧ ((σ.1 287 (Int32.toNatClampNeg (σ.1 284 11))) = x1 → (K (some (.int 1)) σ)))))) : C2 Γ l mX10_is [.ref 284, .int x1] σ K := by
  refine c2_of (lv := [(0, .ref 284), (1, .int x1)]) (by decide) (Nat.le_of_ble_eq_true rfl) rfl ?_
  refine r_aload_n (dcx dX10_is_c0 0 rfl) 0 rfl ?_
  refine s_geti fX10_215 (dcx dX10_is_c0 1 rfl) F284_13 ?_
  refine r_if_ne (tgt := 24) (dcx dX10_is_c0 2 rfl) (by decide) (fun q_ => ?_) (fun q_ => ?_)
  · have hyp := hyp.1 q_
    refine r_iconst (v := 0) (dcx dX10_is_c0 12 rfl) rfl ?_
    exact s_ret rfl rfl rfl hyp (dcx dX10_is_c0 13 rfl)
  · have hyp := hyp.2 q_
    refine r_aload_n (dcx dX10_is_c0 3 rfl) 0 rfl ?_
    refine s_getr (b := 287) fX10_20 (dcx dX10_is_c0 4 rfl) F284_5 ?_
    refine r_aload_n (dcx dX10_is_c0 5 rfl) 0 rfl ?_
    refine s_geti fX10_218 (dcx dX10_is_c0 6 rfl) F284_11 ?_
    obtain ⟨hb_, hyp⟩ := hyp
    refine s_iald (dcx dX10_is_c0 7 rfl) A287 hb_ ?_
    refine r_iload_n (dcx dX10_is_c0 8 rfl) 1 rfl ?_
    refine r_icmp_ne (tgt := 24) (dcx dX10_is_c0 9 rfl) (by decide) (fun q_ => ?_) (fun q_ => ?_)
    · have hyp := hyp.1 q_
      refine r_iconst (v := 0) (dcx dX10_is_c0 12 rfl) rfl ?_
      exact s_ret rfl rfl rfl hyp (dcx dX10_is_c0 13 rfl)
    · have hyp := hyp.2 q_
      refine r_iconst (v := 1) (dcx dX10_is_c0 10 rfl) rfl ?_
      refine r_goto (tgt := 25) (dcx dX10_is_c0 11 rfl) (by decide) ?_
      exact s_ret rfl rfl rfl hyp (dcx dX10_is_c0 13 rfl)
set_option maxHeartbeats 4000000 in
set_option maxRecDepth 20000 in
theorem tX10_fail {Γ : GE} {l : Launch} {x1 : Int32} {σ : SS} {K : Option Value → SS → Prop}  (hyp : ((σ.1 284 13) ≤ 0 → (∀ s1_ : SS, s1_ = sI σ 284 13 x1 → (vp_in (s1_.1 284 11) 403 ∧ (∀ s2_ : SS, s2_ = sI s1_ 284 14 (s1_.1 288 (Int32.toNatClampNeg (s1_.1 284 11))) → (K none s2_))))) ∧ (¬ ((σ.1 284 13) ≤ 0) → (K none σ))) : C2 Γ l mX10_fail [.ref 284, .int x1] σ K := by
  refine c2_of (lv := [(0, .ref 284), (1, .int x1)]) (by decide) (Nat.le_of_ble_eq_true rfl) rfl ?_
  refine r_aload_n (dcx dX10_fail_c0 0 rfl) 0 rfl ?_
  refine s_geti fX10_215 (dcx dX10_fail_c0 1 rfl) F284_13 ?_
  refine r_if_le (tgt := 8) (dcx dX10_fail_c0 2 rfl) (by decide) (fun q_ => ?_) (fun q_ => ?_)
  · have hyp := hyp.1 q_
    refine r_aload_n (dcx dX10_fail_c0 4 rfl) 0 rfl ?_
    refine r_iload_n (dcx dX10_fail_c0 5 rfl) 1 rfl ?_
    refine s_puti gX10_215 (dcx dX10_fail_c0 6 rfl) F284_13 ?_
    obtain ⟨s1_, es1_⟩ : ∃ z : SS, z = sI σ 284 13 x1 := ⟨_, rfl⟩
    rw [← es1_]
    have hyp := hyp s1_ es1_
    refine r_aload_n (dcx dX10_fail_c0 7 rfl) 0 rfl ?_
    refine r_aload_n (dcx dX10_fail_c0 8 rfl) 0 rfl ?_
    refine s_getr (b := 288) fX10_24 (dcx dX10_fail_c0 9 rfl) F284_6 ?_
    refine r_aload_n (dcx dX10_fail_c0 10 rfl) 0 rfl ?_
    refine s_geti fX10_218 (dcx dX10_fail_c0 11 rfl) F284_11 ?_
    obtain ⟨hb_, hyp⟩ := hyp
    refine s_iald (dcx dX10_fail_c0 12 rfl) A288 hb_ ?_
    refine s_puti gX10_221 (dcx dX10_fail_c0 13 rfl) F284_14 ?_
    obtain ⟨s2_, es2_⟩ : ∃ z : SS, z = sI s1_ 284 14 (s1_.1 288 (Int32.toNatClampNeg (s1_.1 284 11))) := ⟨_, rfl⟩
    rw [← es2_]
    have hyp := hyp s2_ es2_
    exact s_vret rfl hyp (dcx dX10_fail_c0 14 rfl)
  · have hyp := hyp.2 q_
    exact s_vret rfl hyp (dcx dX10_fail_c0 3 rfl)
set_option maxHeartbeats 4000000 in
set_option maxRecDepth 20000 in
theorem tX10_wrong {Γ : GE} {l : Launch} {x1 : Int32} {x2 : Int32} {σ : SS} {K : Option Value → SS → Prop}  (hyp : vp_in x2 403 ∧ (((0 : Int32) < (σ.1 284 13) → (K none σ)) ∧ (¬ ((0 : Int32) < (σ.1 284 13)) → (((σ.1 284 15) = 0 → (∀ s1_ : SS, s1_ = sI σ 284 15 x1 → (∀ s2_ : SS, s2_ = sI s1_ 284 16 (σ.1 288 (Int32.toNatClampNeg x2)) → (K none s2_)))) ∧ (¬ ((σ.1 284 15) = 0) → (((σ.1 284 16) < (σ.1 288 (Int32.toNatClampNeg x2)) → (K none σ)) ∧ (¬ ((σ.1 284 16) < (σ.1 288 (Int32.toNatClampNeg x2))) → ((¬ (σ.1 288 (Int32.toNatClampNeg x2)) = (σ.1 284 16) → (∀ s3_ : SS, s3_ = sI σ 284 15 x1 → (∀ s4_ : SS, s4_ = sI s3_ 284 16 (σ.1 288 (Int32.toNatClampNeg x2)) → (K none s4_)))) ∧ ((σ.1 288 (Int32.toNatClampNeg x2)) = (σ.1 284 16) → ((x1 < (σ.1 284 15) → (∀ s5_ : SS, s5_ = sI σ 284 15 x1 → (∀ s6_ : SS, s6_ = sI s5_ 284 16 (σ.1 288 (Int32.toNatClampNeg x2)) → (K none s6_)))) ∧ (¬ (x1 < (σ.1 284 15)) → (K none σ)))))))))))) : C2 Γ l mX10_wrong [.ref 284, .int x1, .int x2] σ K := by
  refine c2_of (lv := [(0, .ref 284), (1, .int x1), (2, .int x2)]) (by decide) (Nat.le_of_ble_eq_true rfl) rfl ?_
  refine r_aload_n (dcx dX10_wrong_c0 0 rfl) 0 rfl ?_
  refine s_getr (b := 288) fX10_24 (dcx dX10_wrong_c0 1 rfl) F284_6 ?_
  refine r_iload_n (dcx dX10_wrong_c0 2 rfl) 2 rfl ?_
  obtain ⟨hb_, hyp⟩ := hyp
  refine s_iald (dcx dX10_wrong_c0 3 rfl) A288 hb_ ?_
  refine r_istore_n (lv1 := [(3, .int (σ.1 288 (Int32.toNatClampNeg x2))), (0, .ref 284), (1, .int x1), (2, .int x2)]) (dcx dX10_wrong_c0 4 rfl) (Nat.le_of_ble_eq_true rfl) rfl ?_
  refine r_aload_n (dcx dX10_wrong_c0 5 rfl) 1 rfl ?_
  refine s_geti fX10_215 (dcx dX10_wrong_c0 6 rfl) F284_13 ?_
  refine r_if_gt (tgt := 45) (dcx dX10_wrong_c0 7 rfl) (by decide) (fun q_ => ?_) (fun q_ => ?_)
  · have hyp := hyp.1 q_
    exact s_vret rfl hyp (dcx dX10_wrong_c0 23 rfl)
  · have hyp := hyp.2 q_
    refine r_aload_n (dcx dX10_wrong_c0 8 rfl) 1 rfl ?_
    refine s_geti fX10_224 (dcx dX10_wrong_c0 9 rfl) F284_15 ?_
    refine r_if_eq (tgt := 46) (dcx dX10_wrong_c0 10 rfl) (by decide) (fun q_ => ?_) (fun q_ => ?_)
    · have hyp := hyp.1 q_
      refine r_aload_n (dcx dX10_wrong_c0 24 rfl) 1 rfl ?_
      refine r_iload_n (dcx dX10_wrong_c0 25 rfl) 2 rfl ?_
      refine s_puti gX10_224 (dcx dX10_wrong_c0 26 rfl) F284_15 ?_
      obtain ⟨s1_, es1_⟩ : ∃ z : SS, z = sI σ 284 15 x1 := ⟨_, rfl⟩
      rw [← es1_]
      have hyp := hyp s1_ es1_
      refine r_aload_n (dcx dX10_wrong_c0 27 rfl) 1 rfl ?_
      refine r_iload_n (dcx dX10_wrong_c0 28 rfl) 0 rfl ?_
      refine s_puti gX10_227 (dcx dX10_wrong_c0 29 rfl) F284_16 ?_
      obtain ⟨s2_, es2_⟩ : ∃ z : SS, z = sI s1_ 284 16 (σ.1 288 (Int32.toNatClampNeg x2)) := ⟨_, rfl⟩
      rw [← es2_]
      have hyp := hyp s2_ es2_
      exact s_vret rfl hyp (dcx dX10_wrong_c0 30 rfl)
    · have hyp := hyp.2 q_
      refine r_iload_n (dcx dX10_wrong_c0 11 rfl) 0 rfl ?_
      refine r_aload_n (dcx dX10_wrong_c0 12 rfl) 1 rfl ?_
      refine s_geti fX10_227 (dcx dX10_wrong_c0 13 rfl) F284_16 ?_
      refine r_icmp_gt (tgt := 45) (dcx dX10_wrong_c0 14 rfl) (by decide) (fun q_ => ?_) (fun q_ => ?_)
      · have hyp := hyp.1 q_
        exact s_vret rfl hyp (dcx dX10_wrong_c0 23 rfl)
      · have hyp := hyp.2 q_
        refine r_iload_n (dcx dX10_wrong_c0 15 rfl) 0 rfl ?_
        refine r_aload_n (dcx dX10_wrong_c0 16 rfl) 1 rfl ?_
        refine s_geti fX10_227 (dcx dX10_wrong_c0 17 rfl) F284_16 ?_
        refine r_icmp_ne (tgt := 46) (dcx dX10_wrong_c0 18 rfl) (by decide) (fun q_ => ?_) (fun q_ => ?_)
        · have hyp := hyp.1 q_
          refine r_aload_n (dcx dX10_wrong_c0 24 rfl) 1 rfl ?_
          refine r_iload_n (dcx dX10_wrong_c0 25 rfl) 2 rfl ?_
          refine s_puti gX10_224 (dcx dX10_wrong_c0 26 rfl) F284_15 ?_
          obtain ⟨s3_, es3_⟩ : ∃ z : SS, z = sI σ 284 15 x1 := ⟨_, rfl⟩
          rw [← es3_]
          have hyp := hyp s3_ es3_
          refine r_aload_n (dcx dX10_wrong_c0 27 rfl) 1 rfl ?_
          refine r_iload_n (dcx dX10_wrong_c0 28 rfl) 0 rfl ?_
          refine s_puti gX10_227 (dcx dX10_wrong_c0 29 rfl) F284_16 ?_
          obtain ⟨s4_, es4_⟩ : ∃ z : SS, z = sI s3_ 284 16 (σ.1 288 (Int32.toNatClampNeg x2)) := ⟨_, rfl⟩
          rw [← es4_]
          have hyp := hyp s4_ es4_
          exact s_vret rfl hyp (dcx dX10_wrong_c0 30 rfl)
        · have hyp := hyp.2 q_
          refine r_iload_n (dcx dX10_wrong_c0 19 rfl) 2 rfl ?_
          refine r_aload_n (dcx dX10_wrong_c0 20 rfl) 1 rfl ?_
          refine s_geti fX10_224 (dcx dX10_wrong_c0 21 rfl) F284_15 ?_
          refine r_icmp_lt (tgt := 46) (dcx dX10_wrong_c0 22 rfl) (by decide) (fun q_ => ?_) (fun q_ => ?_)
          · have hyp := hyp.1 q_
            refine r_aload_n (dcx dX10_wrong_c0 24 rfl) 1 rfl ?_
            refine r_iload_n (dcx dX10_wrong_c0 25 rfl) 2 rfl ?_
            refine s_puti gX10_224 (dcx dX10_wrong_c0 26 rfl) F284_15 ?_
            obtain ⟨s5_, es5_⟩ : ∃ z : SS, z = sI σ 284 15 x1 := ⟨_, rfl⟩
            rw [← es5_]
            have hyp := hyp s5_ es5_
            refine r_aload_n (dcx dX10_wrong_c0 27 rfl) 1 rfl ?_
            refine r_iload_n (dcx dX10_wrong_c0 28 rfl) 0 rfl ?_
            refine s_puti gX10_227 (dcx dX10_wrong_c0 29 rfl) F284_16 ?_
            obtain ⟨s6_, es6_⟩ : ∃ z : SS, z = sI s5_ 284 16 (σ.1 288 (Int32.toNatClampNeg x2)) := ⟨_, rfl⟩
            rw [← es6_]
            have hyp := hyp s6_ es6_
            exact s_vret rfl hyp (dcx dX10_wrong_c0 30 rfl)
          · have hyp := hyp.2 q_
            exact s_vret rfl hyp (dcx dX10_wrong_c0 23 rfl)
set_option maxHeartbeats 4000000 in
set_option maxRecDepth 20000 in
theorem tX10_goesOn {Γ : GE} {l : Launch}  {σ : SS} {K : Option Value → SS → Prop}  (hyp : (¬ (σ.1 284 11) = 400 → (∀ s1_ : SS, s1_ = sI σ 284 11 ((σ.1 284 11) + 1) → (K none s1_))) ∧ ((σ.1 284 11) = 400 → (C2 Γ l mX10_fail [.ref 284, .int 2] σ (Rv fun s2_ => (K none s2_))))) : C2 Γ l mX10_goesOn [.ref 284] σ K := by
  refine c2_of (lv := [(0, .ref 284)]) (by decide) (Nat.le_of_ble_eq_true rfl) rfl ?_
  refine r_aload_n (dcx dX10_goesOn_c0 0 rfl) 0 rfl ?_
  refine s_geti fX10_218 (dcx dX10_goesOn_c0 1 rfl) F284_11 ?_
  refine r_sipush (v := 400) (dcx dX10_goesOn_c0 2 rfl) rfl ?_
  refine r_icmp_ne (tgt := 18) (dcx dX10_goesOn_c0 3 rfl) (by decide) (fun q_ => ?_) (fun q_ => ?_)
  · have hyp := hyp.1 q_
    refine r_aload_n (dcx dX10_goesOn_c0 8 rfl) 0 rfl ?_
    refine r_dup (dcx dX10_goesOn_c0 9 rfl) rfl ?_
    refine s_geti fX10_218 (dcx dX10_goesOn_c0 10 rfl) F284_11 ?_
    refine r_iconst (v := 1) (dcx dX10_goesOn_c0 11 rfl) rfl ?_
    refine r_iadd (dcx dX10_goesOn_c0 12 rfl) ?_
    refine s_puti gX10_218 (dcx dX10_goesOn_c0 13 rfl) F284_11 ?_
    obtain ⟨s1_, es1_⟩ : ∃ z : SS, z = sI σ 284 11 ((σ.1 284 11) + 1) := ⟨_, rfl⟩
    rw [← es1_]
    have hyp := hyp s1_ es1_
    exact s_vret rfl hyp (dcx dX10_goesOn_c0 14 rfl)
  · have hyp := hyp.2 q_
    refine r_aload_n (dcx dX10_goesOn_c0 4 rfl) 0 rfl ?_
    refine r_iconst (v := 2) (dcx dX10_goesOn_c0 5 rfl) rfl ?_
    refine s_callV (as := [.int 2]) (st := []) zX10_fail kX10_goesOn_230 (dcx dX10_goesOn_c0 6 rfl) rfl rfl (Nat.le_of_ble_eq_true rfl) O284 rfl rfl (C2.mono hyp ?_)
    rintro _ s2_ ⟨rfl, hyp⟩
    show G2 Γ l mX10_goesOn 15 [(0, .ref 284)] [] s2_ K
    refine r_goto (tgt := 28) (dcx dX10_goesOn_c0 7 rfl) (by decide) ?_
    exact s_vret rfl hyp (dcx dX10_goesOn_c0 14 rfl)
set_option maxHeartbeats 4000000 in
set_option maxRecDepth 20000 in
theorem tX10_must {Γ : GE} {l : Launch} {x1 : Int32} {σ : SS} {K : Option Value → SS → Prop}  (hyp : C2 Γ l mX10_is [.ref 284, .int x1] σ (Ri fun r2_ s1_ => ((r2_ = 0 → (C2 Γ l mX10_fail [.ref 284, .int 1] s1_ (Rv fun s3_ => (K none s3_)))) ∧ (¬ (r2_ = 0) → (C2 Γ l mX10_goesOn [.ref 284] s1_ (Rv fun s5_ => (K none s5_))))))) : C2 Γ l mX10_must [.ref 284, .int x1] σ K := by
  refine c2_of (lv := [(0, .ref 284), (1, .int x1)]) (by decide) (Nat.le_of_ble_eq_true rfl) rfl ?_
  refine r_aload_n (dcx dX10_must_c0 0 rfl) 0 rfl ?_
  refine r_iload_n (dcx dX10_must_c0 1 rfl) 1 rfl ?_
  refine s_callV (as := [.int x1]) (st := []) zX10_is kX10_must_233 (dcx dX10_must_c0 2 rfl) rfl rfl (Nat.le_of_ble_eq_true rfl) O284 rfl rfl (C2.mono hyp ?_)
  rintro _ s1_ ⟨r2_, rfl, hyp⟩
  show G2 Γ l mX10_must 5 [(0, .ref 284), (1, .int x1)] [.int r2_] s1_ K
  refine r_if_eq (tgt := 15) (dcx dX10_must_c0 3 rfl) (by decide) (fun q_ => ?_) (fun q_ => ?_)
  · have hyp := hyp.1 q_
    refine r_aload_n (dcx dX10_must_c0 7 rfl) 0 rfl ?_
    refine r_iconst (v := 1) (dcx dX10_must_c0 8 rfl) rfl ?_
    refine s_callV (as := [.int 1]) (st := []) zX10_fail kX10_must_230 (dcx dX10_must_c0 9 rfl) rfl rfl (Nat.le_of_ble_eq_true rfl) O284 rfl rfl (C2.mono hyp ?_)
    rintro _ s3_ ⟨rfl, hyp⟩
    show G2 Γ l mX10_must 20 [(0, .ref 284), (1, .int x1)] [] s3_ K
    exact s_vret rfl hyp (dcx dX10_must_c0 10 rfl)
  · have hyp := hyp.2 q_
    refine r_aload_n (dcx dX10_must_c0 4 rfl) 0 rfl ?_
    refine s_callV (as := []) (st := []) zX10_goesOn kX10_must_236 (dcx dX10_must_c0 5 rfl) rfl rfl (Nat.le_of_ble_eq_true rfl) O284 rfl rfl (C2.mono hyp ?_)
    rintro _ s5_ ⟨rfl, hyp⟩
    show G2 Γ l mX10_must 12 [(0, .ref 284), (1, .int x1)] [] s5_ K
    refine r_goto (tgt := 20) (dcx dX10_must_c0 6 rfl) (by decide) ?_
    exact s_vret rfl hyp (dcx dX10_must_c0 10 rfl)
def wX10_plain_66 (Γ : GE) (l : Launch) (x1 : Int32) (x2 : Int32) (σ : SS) (K : Option Value → SS → Prop) : Prop := G2 Γ l mX10_plain 66 [(0, .ref 284), (1, .int x1), (2, .int x2)] [] σ K
def wX10_plain_90 (Γ : GE) (l : Launch) (x1 : Int32) (x2 : Int32) (σ : SS) (K : Option Value → SS → Prop) : Prop := G2 Γ l mX10_plain 90 [(0, .ref 284), (1, .int x1), (2, .int x2)] [] σ K
set_option maxHeartbeats 4000000 in
set_option maxRecDepth 20000 in
theorem tX10_plain {Γ : GE} {l : Launch} {x1 : Int32} {σ : SS} {K : Option Value → SS → Prop}  (hyp : vp_in x1 2 ∧ (∀ s1_ : SS, s1_ = sI σ 294 (Int32.toNatClampNeg x1) 0 → (vp_in x1 2 ∧ (∀ s2_ : SS, s2_ = sI s1_ 295 (Int32.toNatClampNeg x1) 0 → (vp_in x1 2 ∧ (∀ s3_ : SS, s3_ = sI s2_ 297 (Int32.toNatClampNeg x1) 0 → (vp_in x1 2 ∧ (∀ s4_ : SS, s4_ = sI s3_ 299 (Int32.toNatClampNeg x1) 0 → (vp_in x1 2 ∧ (∀ s5_ : SS, s5_ = sI s4_ 304 (Int32.toNatClampNeg x1) 0 → (vp_in x1 2 ∧ (∀ s6_ : SS, s6_ = sI s5_ 305 (Int32.toNatClampNeg x1) 20 → (vp_in x1 2 ∧ (∀ s7_ : SS, s7_ = sI s6_ 306 (Int32.toNatClampNeg x1) 0 → (vp_in x1 2 ∧ (∀ s8_ : SS, s8_ = sI s7_ 307 (Int32.toNatClampNeg x1) 0 → (vp_in x1 2 ∧ (∀ s9_ : SS, s9_ = sI s8_ 308 (Int32.toNatClampNeg x1) 0 → (wX10_plain_66 Γ l x1 0 s9_ K))))))))))))))))))) : C2 Γ l mX10_plain [.ref 284, .int x1] σ K := by
  refine c2_of (lv := [(0, .ref 284), (1, .int x1)]) (by decide) (Nat.le_of_ble_eq_true rfl) rfl ?_
  refine r_aload_n (dcx dX10_plain_c0 0 rfl) 0 rfl ?_
  refine s_getr (b := 294) fX10_46 (dcx dX10_plain_c0 1 rfl) F284_23 ?_
  refine r_iload_n (dcx dX10_plain_c0 2 rfl) 1 rfl ?_
  refine r_iconst (v := 0) (dcx dX10_plain_c0 3 rfl) rfl ?_
  obtain ⟨hb_, hyp⟩ := hyp
  refine s_iast (dcx dX10_plain_c0 4 rfl) A294 hb_ ?_
  obtain ⟨s1_, es1_⟩ : ∃ z : SS, z = sI σ 294 (Int32.toNatClampNeg x1) 0 := ⟨_, rfl⟩
  rw [← es1_]
  have hyp := hyp s1_ es1_
  refine r_aload_n (dcx dX10_plain_c0 5 rfl) 0 rfl ?_
  refine s_getr (b := 295) fX10_49 (dcx dX10_plain_c0 6 rfl) F284_24 ?_
  refine r_iload_n (dcx dX10_plain_c0 7 rfl) 1 rfl ?_
  refine r_iconst (v := 0) (dcx dX10_plain_c0 8 rfl) rfl ?_
  obtain ⟨hb_, hyp⟩ := hyp
  refine s_iast (dcx dX10_plain_c0 9 rfl) A295 hb_ ?_
  obtain ⟨s2_, es2_⟩ : ∃ z : SS, z = sI s1_ 295 (Int32.toNatClampNeg x1) 0 := ⟨_, rfl⟩
  rw [← es2_]
  have hyp := hyp s2_ es2_
  refine r_aload_n (dcx dX10_plain_c0 10 rfl) 0 rfl ?_
  refine s_getr (b := 297) fX10_55 (dcx dX10_plain_c0 11 rfl) F284_26 ?_
  refine r_iload_n (dcx dX10_plain_c0 12 rfl) 1 rfl ?_
  refine r_iconst (v := 0) (dcx dX10_plain_c0 13 rfl) rfl ?_
  obtain ⟨hb_, hyp⟩ := hyp
  refine s_iast (dcx dX10_plain_c0 14 rfl) A297 hb_ ?_
  obtain ⟨s3_, es3_⟩ : ∃ z : SS, z = sI s2_ 297 (Int32.toNatClampNeg x1) 0 := ⟨_, rfl⟩
  rw [← es3_]
  have hyp := hyp s3_ es3_
  refine r_aload_n (dcx dX10_plain_c0 15 rfl) 0 rfl ?_
  refine s_getr (b := 299) fX10_62 (dcx dX10_plain_c0 16 rfl) F284_28 ?_
  refine r_iload_n (dcx dX10_plain_c0 17 rfl) 1 rfl ?_
  refine r_iconst (v := 0) (dcx dX10_plain_c0 18 rfl) rfl ?_
  obtain ⟨hb_, hyp⟩ := hyp
  refine s_iast (dcx dX10_plain_c0 19 rfl) A299 hb_ ?_
  obtain ⟨s4_, es4_⟩ : ∃ z : SS, z = sI s3_ 299 (Int32.toNatClampNeg x1) 0 := ⟨_, rfl⟩
  rw [← es4_]
  have hyp := hyp s4_ es4_
  refine r_aload_n (dcx dX10_plain_c0 20 rfl) 0 rfl ?_
  refine s_getr (b := 304) fX10_77 (dcx dX10_plain_c0 21 rfl) F284_33 ?_
  refine r_iload_n (dcx dX10_plain_c0 22 rfl) 1 rfl ?_
  refine r_iconst (v := 0) (dcx dX10_plain_c0 23 rfl) rfl ?_
  obtain ⟨hb_, hyp⟩ := hyp
  refine s_iast (dcx dX10_plain_c0 24 rfl) A304 hb_ ?_
  obtain ⟨s5_, es5_⟩ : ∃ z : SS, z = sI s4_ 304 (Int32.toNatClampNeg x1) 0 := ⟨_, rfl⟩
  rw [← es5_]
  have hyp := hyp s5_ es5_
  refine r_aload_n (dcx dX10_plain_c0 25 rfl) 0 rfl ?_
  refine s_getr (b := 305) fX10_80 (dcx dX10_plain_c0 26 rfl) F284_34 ?_
  refine r_iload_n (dcx dX10_plain_c0 27 rfl) 1 rfl ?_
  refine r_bipush (v := 20) (dcx dX10_plain_c0 28 rfl) rfl ?_
  obtain ⟨hb_, hyp⟩ := hyp
  refine s_iast (dcx dX10_plain_c0 29 rfl) A305 hb_ ?_
  obtain ⟨s6_, es6_⟩ : ∃ z : SS, z = sI s5_ 305 (Int32.toNatClampNeg x1) 20 := ⟨_, rfl⟩
  rw [← es6_]
  have hyp := hyp s6_ es6_
  refine r_aload_n (dcx dX10_plain_c0 30 rfl) 0 rfl ?_
  refine s_getr (b := 306) fX10_83 (dcx dX10_plain_c0 31 rfl) F284_35 ?_
  refine r_iload_n (dcx dX10_plain_c0 32 rfl) 1 rfl ?_
  refine r_iconst (v := 0) (dcx dX10_plain_c0 33 rfl) rfl ?_
  obtain ⟨hb_, hyp⟩ := hyp
  refine s_iast (dcx dX10_plain_c0 34 rfl) A306 hb_ ?_
  obtain ⟨s7_, es7_⟩ : ∃ z : SS, z = sI s6_ 306 (Int32.toNatClampNeg x1) 0 := ⟨_, rfl⟩
  rw [← es7_]
  have hyp := hyp s7_ es7_
  refine r_aload_n (dcx dX10_plain_c0 35 rfl) 0 rfl ?_
  refine s_getr (b := 307) fX10_86 (dcx dX10_plain_c0 36 rfl) F284_36 ?_
  refine r_iload_n (dcx dX10_plain_c0 37 rfl) 1 rfl ?_
  refine r_iconst (v := 0) (dcx dX10_plain_c0 38 rfl) rfl ?_
  obtain ⟨hb_, hyp⟩ := hyp
  refine s_iast (dcx dX10_plain_c0 39 rfl) A307 hb_ ?_
  obtain ⟨s8_, es8_⟩ : ∃ z : SS, z = sI s7_ 307 (Int32.toNatClampNeg x1) 0 := ⟨_, rfl⟩
  rw [← es8_]
  have hyp := hyp s8_ es8_
  refine r_aload_n (dcx dX10_plain_c1 0 rfl) 0 rfl ?_
  refine s_getr (b := 308) fX10_89 (dcx dX10_plain_c1 1 rfl) F284_37 ?_
  refine r_iload_n (dcx dX10_plain_c1 2 rfl) 1 rfl ?_
  refine r_iconst (v := 0) (dcx dX10_plain_c1 3 rfl) rfl ?_
  obtain ⟨hb_, hyp⟩ := hyp
  refine s_iast (dcx dX10_plain_c1 4 rfl) A308 hb_ ?_
  obtain ⟨s9_, es9_⟩ : ∃ z : SS, z = sI s8_ 308 (Int32.toNatClampNeg x1) 0 := ⟨_, rfl⟩
  rw [← es9_]
  have hyp := hyp s9_ es9_
  refine r_iconst (v := 0) (dcx dX10_plain_c1 5 rfl) rfl ?_
  refine r_istore_n (lv1 := [(2, .int 0), (0, .ref 284), (1, .int x1)]) (dcx dX10_plain_c1 6 rfl) (Nat.le_of_ble_eq_true rfl) rfl ?_
  refine r_loc (lv1 := [(0, .ref 284), (1, .int x1), (2, .int 0)]) [1, 2, 0] rfl ?_
  exact hyp
set_option maxHeartbeats 4000000 in
set_option maxRecDepth 20000 in
theorem tX10_plain_66 {Γ : GE} {l : Launch} {x1 : Int32} {x2 : Int32} {σ : SS} {K : Option Value → SS → Prop}  (hyp : ((4 : Int32) ≤ x2 → (wX10_plain_90 Γ l x1 0 σ K)) ∧ (¬ ((4 : Int32) ≤ x2) → (vp_in ((4 * x1) + x2) 8 ∧ (∀ s1_ : SS, s1_ = sI σ 303 (Int32.toNatClampNeg ((4 * x1) + x2)) 0 → (wX10_plain_66 Γ l x1 (x2 + 1) s1_ K))))) : wX10_plain_66 Γ l x1 x2 σ K := by
  show G2 Γ l mX10_plain 66 [(0, .ref 284), (1, .int x1), (2, .int x2)] [] σ K
  refine r_iload_n (dcx dX10_plain_c1 7 rfl) 2 rfl ?_
  refine r_iconst (v := 4) (dcx dX10_plain_c1 8 rfl) rfl ?_
  refine r_icmp_ge (tgt := 88) (dcx dX10_plain_c1 9 rfl) (by decide) (fun q_ => ?_) (fun q_ => ?_)
  · have hyp := hyp.1 q_
    refine r_iconst (v := 0) (dcx dX10_plain_c1 21 rfl) rfl ?_
    refine r_istore_n (lv1 := [(2, .int 0), (0, .ref 284), (1, .int x1)]) (dcx dX10_plain_c1 22 rfl) (Nat.le_of_ble_eq_true rfl) rfl ?_
    refine r_loc (lv1 := [(0, .ref 284), (1, .int x1), (2, .int 0)]) [1, 2, 0] rfl ?_
    exact hyp
  · have hyp := hyp.2 q_
    refine r_aload_n (dcx dX10_plain_c1 10 rfl) 0 rfl ?_
    refine s_getr (b := 303) fX10_74 (dcx dX10_plain_c1 11 rfl) F284_32 ?_
    refine r_iconst (v := 4) (dcx dX10_plain_c1 12 rfl) rfl ?_
    refine r_iload_n (dcx dX10_plain_c1 13 rfl) 1 rfl ?_
    refine r_imul (dcx dX10_plain_c1 14 rfl) ?_
    refine r_iload_n (dcx dX10_plain_c1 15 rfl) 2 rfl ?_
    refine r_iadd (dcx dX10_plain_c1 16 rfl) ?_
    refine r_iconst (v := 0) (dcx dX10_plain_c1 17 rfl) rfl ?_
    obtain ⟨hb_, hyp⟩ := hyp
    refine s_iast (dcx dX10_plain_c1 18 rfl) A303 hb_ ?_
    obtain ⟨s1_, es1_⟩ : ∃ z : SS, z = sI σ 303 (Int32.toNatClampNeg ((4 * x1) + x2)) 0 := ⟨_, rfl⟩
    rw [← es1_]
    have hyp := hyp s1_ es1_
    refine r_iinc (lv1 := [(2, .int (x2 + 1)), (0, .ref 284), (1, .int x1)]) (dcx dX10_plain_c1 19 rfl) 2 rfl (Nat.le_of_ble_eq_true rfl) rfl ?_
    refine r_goto (tgt := 66) (dcx dX10_plain_c1 20 rfl) (by decide) ?_
    refine r_loc (lv1 := [(0, .ref 284), (1, .int x1), (2, .int (x2 + 1))]) [1, 2, 0] rfl ?_
    exact hyp
set_option maxHeartbeats 4000000 in
set_option maxRecDepth 20000 in
theorem tX10_plain_90 {Γ : GE} {l : Launch} {x1 : Int32} {x2 : Int32} {σ : SS} {K : Option Value → SS → Prop}  (hyp : ((3 : Int32) ≤ x2 → (K none σ)) ∧ (¬ ((3 : Int32) ≤ x2) → (vp_in ((3 * x1) + x2) 6 ∧ (∀ s1_ : SS, s1_ = sI σ 309 (Int32.toNatClampNeg ((3 * x1) + x2)) 0 → (vp_in ((3 * x1) + x2) 6 ∧ (∀ s2_ : SS, s2_ = sI s1_ 310 (Int32.toNatClampNeg ((3 * x1) + x2)) 0 → (wX10_plain_90 Γ l x1 (x2 + 1) s2_ K))))))) : wX10_plain_90 Γ l x1 x2 σ K := by
  show G2 Γ l mX10_plain 90 [(0, .ref 284), (1, .int x1), (2, .int x2)] [] σ K
  refine r_iload_n (dcx dX10_plain_c1 23 rfl) 2 rfl ?_
  refine r_iconst (v := 3) (dcx dX10_plain_c1 24 rfl) rfl ?_
  refine r_icmp_ge (tgt := 123) (dcx dX10_plain_c1 25 rfl) (by decide) (fun q_ => ?_) (fun q_ => ?_)
  · have hyp := hyp.1 q_
    exact s_vret rfl hyp (dcx dX10_plain_c2 6 rfl)
  · have hyp := hyp.2 q_
    refine r_aload_n (dcx dX10_plain_c1 26 rfl) 0 rfl ?_
    refine s_getr (b := 309) fX10_92 (dcx dX10_plain_c1 27 rfl) F284_38 ?_
    refine r_iconst (v := 3) (dcx dX10_plain_c1 28 rfl) rfl ?_
    refine r_iload_n (dcx dX10_plain_c1 29 rfl) 1 rfl ?_
    refine r_imul (dcx dX10_plain_c1 30 rfl) ?_
    refine r_iload_n (dcx dX10_plain_c1 31 rfl) 2 rfl ?_
    refine r_iadd (dcx dX10_plain_c1 32 rfl) ?_
    refine r_iconst (v := 0) (dcx dX10_plain_c1 33 rfl) rfl ?_
    obtain ⟨hb_, hyp⟩ := hyp
    refine s_iast (dcx dX10_plain_c1 34 rfl) A309 hb_ ?_
    obtain ⟨s1_, es1_⟩ : ∃ z : SS, z = sI σ 309 (Int32.toNatClampNeg ((3 * x1) + x2)) 0 := ⟨_, rfl⟩
    rw [← es1_]
    have hyp := hyp s1_ es1_
    refine r_aload_n (dcx dX10_plain_c1 35 rfl) 0 rfl ?_
    refine s_getr (b := 310) fX10_95 (dcx dX10_plain_c1 36 rfl) F284_39 ?_
    refine r_iconst (v := 3) (dcx dX10_plain_c1 37 rfl) rfl ?_
    refine r_iload_n (dcx dX10_plain_c1 38 rfl) 1 rfl ?_
    refine r_imul (dcx dX10_plain_c1 39 rfl) ?_
    refine r_iload_n (dcx dX10_plain_c2 0 rfl) 2 rfl ?_
    refine r_iadd (dcx dX10_plain_c2 1 rfl) ?_
    refine r_iconst (v := 0) (dcx dX10_plain_c2 2 rfl) rfl ?_
    obtain ⟨hb_, hyp⟩ := hyp
    refine s_iast (dcx dX10_plain_c2 3 rfl) A310 hb_ ?_
    obtain ⟨s2_, es2_⟩ : ∃ z : SS, z = sI s1_ 310 (Int32.toNatClampNeg ((3 * x1) + x2)) 0 := ⟨_, rfl⟩
    rw [← es2_]
    have hyp := hyp s2_ es2_
    refine r_iinc (lv1 := [(2, .int (x2 + 1)), (0, .ref 284), (1, .int x1)]) (dcx dX10_plain_c2 4 rfl) 2 rfl (Nat.le_of_ble_eq_true rfl) rfl ?_
    refine r_goto (tgt := 90) (dcx dX10_plain_c2 5 rfl) (by decide) ?_
    refine r_loc (lv1 := [(0, .ref 284), (1, .int x1), (2, .int (x2 + 1))]) [1, 2, 0] rfl ?_
    exact hyp
