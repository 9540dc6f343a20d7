def wX10_keepsRow_2 (Γ : GE) (l : Launch) (x1 : Int32) (σ : SS) (K : Option Value → SS → Prop) : Prop := G2 Γ l mX10_keepsRow 2 [(0, .ref 284), (1, .int x1)] [] σ K
set_option maxHeartbeats 4000000 in
set_option maxRecDepth 20000 in
theorem tX10_keepsRow {Γ : GE} {l : Launch}  {σ : SS} {K : Option Value → SS → Prop}  (hyp : wX10_keepsRow_2 Γ l 0 σ K) : C2 Γ l mX10_keepsRow [.ref 284] σ K := by
  refine c2_of (lv := [(0, .ref 284)]) (by decide) (Nat.le_of_ble_eq_true rfl) rfl ?_
  refine r_iconst (v := 0) (dcx dX10_keepsRow_c0 0 rfl) rfl ?_
  refine r_istore_n (lv1 := [(1, .int 0), (0, .ref 284)]) (dcx dX10_keepsRow_c0 1 rfl) (Nat.le_of_ble_eq_true rfl) rfl ?_
  refine r_loc (lv1 := [(0, .ref 284), (1, .int 0)]) [1, 0] rfl ?_
  exact hyp
set_option maxHeartbeats 4000000 in
set_option maxRecDepth 20000 in
theorem tX10_keepsRow_2 {Γ : GE} {l : Launch} {x1 : Int32} {σ : SS} {K : Option Value → SS → Prop}  (hyp : ((106 : Int32) ≤ x1 → (K none σ)) ∧ (¬ ((106 : Int32) ≤ x1) → (vp_in x1 106 ∧ (vp_in x1 106 ∧ (∀ s1_ : SS, s1_ = sI σ 321 (Int32.toNatClampNeg x1) (σ.1 322 (Int32.toNatClampNeg x1)) → (wX10_keepsRow_2 Γ l (x1 + 1) s1_ K)))))) : wX10_keepsRow_2 Γ l x1 σ K := by
  show G2 Γ l mX10_keepsRow 2 [(0, .ref 284), (1, .int x1)] [] σ K
  refine r_iload_n (dcx dX10_keepsRow_c0 2 rfl) 1 rfl ?_
  refine r_bipush (v := 106) (dcx dX10_keepsRow_c0 3 rfl) rfl ?_
  refine r_icmp_ge (tgt := 26) (dcx dX10_keepsRow_c0 4 rfl) (by decide) (fun q_ => ?_) (fun q_ => ?_)
  · have hyp := hyp.1 q_
    exact s_vret rfl hyp (dcx dX10_keepsRow_c0 15 rfl)
  · have hyp := hyp.2 q_
    refine r_aload_n (dcx dX10_keepsRow_c0 5 rfl) 0 rfl ?_
    refine s_getr (b := 321) fX10_128 (dcx dX10_keepsRow_c0 6 rfl) F284_54 ?_
    refine r_iload_n (dcx dX10_keepsRow_c0 7 rfl) 1 rfl ?_
    refine r_aload_n (dcx dX10_keepsRow_c0 8 rfl) 0 rfl ?_
    refine s_getr (b := 322) fX10_131 (dcx dX10_keepsRow_c0 9 rfl) F284_55 ?_
    refine r_iload_n (dcx dX10_keepsRow_c0 10 rfl) 1 rfl ?_
    obtain ⟨hb_, hyp⟩ := hyp
    refine s_iald (dcx dX10_keepsRow_c0 11 rfl) A322 hb_ ?_
    obtain ⟨hb_, hyp⟩ := hyp
    refine s_iast (dcx dX10_keepsRow_c0 12 rfl) A321 hb_ ?_
    obtain ⟨s1_, es1_⟩ : ∃ z : SS, z = sI σ 321 (Int32.toNatClampNeg x1) (σ.1 322 (Int32.toNatClampNeg x1)) := ⟨_, rfl⟩
    rw [← es1_]
    have hyp := hyp s1_ es1_
    refine r_iinc (lv1 := [(1, .int (x1 + 1)), (0, .ref 284)]) (dcx dX10_keepsRow_c0 13 rfl) 1 rfl (Nat.le_of_ble_eq_true rfl) rfl ?_
    refine r_goto (tgt := 2) (dcx dX10_keepsRow_c0 14 rfl) (by decide) ?_
    refine r_loc (lv1 := [(0, .ref 284), (1, .int (x1 + 1))]) [1, 0] rfl ?_
    exact hyp
def wX10_copies_2 (Γ : GE) (l : Launch) (x1 : Int32) (σ : SS) (K : Option Value → SS → Prop) : Prop := G2 Γ l mX10_copies 2 [(0, .ref 284), (1, .int x1)] [] σ K
set_option maxHeartbeats 4000000 in
set_option maxRecDepth 20000 in
theorem tX10_copies {Γ : GE} {l : Launch}  {σ : SS} {K : Option Value → SS → Prop}  (hyp : wX10_copies_2 Γ l 0 σ K) : C2 Γ l mX10_copies [.ref 284] σ K := by
  refine c2_of (lv := [(0, .ref 284)]) (by decide) (Nat.le_of_ble_eq_true rfl) rfl ?_
  refine r_iconst (v := 0) (dcx dX10_copies_c0 0 rfl) rfl ?_
  refine r_istore_n (lv1 := [(1, .int 0), (0, .ref 284)]) (dcx dX10_copies_c0 1 rfl) (Nat.le_of_ble_eq_true rfl) rfl ?_
  refine r_loc (lv1 := [(0, .ref 284), (1, .int 0)]) [1, 0] rfl ?_
  exact hyp
set_option maxHeartbeats 4000000 in
set_option maxRecDepth 20000 in
theorem tX10_copies_2 {Γ : GE} {l : Launch} {x1 : Int32} {σ : SS} {K : Option Value → SS → Prop}  (hyp : ((106 : Int32) ≤ x1 → (vp_in (σ.1 284 18) 2 ∧ (∀ s1_ : SS, s1_ = sI σ 284 56 (σ.1 308 (Int32.toNatClampNeg (σ.1 284 18))) → (K none s1_)))) ∧ (¬ ((106 : Int32) ≤ x1) → (vp_in x1 106 ∧ (vp_in x1 106 ∧ (∀ s2_ : SS, s2_ = sI σ 322 (Int32.toNatClampNeg x1) (σ.1 321 (Int32.toNatClampNeg x1)) → (wX10_copies_2 Γ l (x1 + 1) s2_ K)))))) : wX10_copies_2 Γ l x1 σ K := by
  show G2 Γ l mX10_copies 2 [(0, .ref 284), (1, .int x1)] [] σ K
  refine r_iload_n (dcx dX10_copies_c0 2 rfl) 1 rfl ?_
  refine r_bipush (v := 106) (dcx dX10_copies_c0 3 rfl) rfl ?_
  refine r_icmp_ge (tgt := 26) (dcx dX10_copies_c0 4 rfl) (by decide) (fun q_ => ?_) (fun q_ => ?_)
  · have hyp := hyp.1 q_
    refine r_aload_n (dcx dX10_copies_c0 15 rfl) 0 rfl ?_
    refine r_aload_n (dcx dX10_copies_c0 16 rfl) 0 rfl ?_
    refine s_getr (b := 308) fX10_89 (dcx dX10_copies_c0 17 rfl) F284_37 ?_
    refine r_aload_n (dcx dX10_copies_c0 18 rfl) 0 rfl ?_
    refine s_geti fX10_245 (dcx dX10_copies_c0 19 rfl) F284_18 ?_
    obtain ⟨hb_, hyp⟩ := hyp
    refine s_iald (dcx dX10_copies_c0 20 rfl) A308 hb_ ?_
    refine s_puti gX10_350 (dcx dX10_copies_c0 21 rfl) F284_56 ?_
    obtain ⟨s1_, es1_⟩ : ∃ z : SS, z = sI σ 284 56 (σ.1 308 (Int32.toNatClampNeg (σ.1 284 18))) := ⟨_, rfl⟩
    rw [← es1_]
    have hyp := hyp s1_ es1_
    exact s_vret rfl hyp (dcx dX10_copies_c0 22 rfl)
  · have hyp := hyp.2 q_
    refine r_aload_n (dcx dX10_copies_c0 5 rfl) 0 rfl ?_
    refine s_getr (b := 322) fX10_131 (dcx dX10_copies_c0 6 rfl) F284_55 ?_
    refine r_iload_n (dcx dX10_copies_c0 7 rfl) 1 rfl ?_
    refine r_aload_n (dcx dX10_copies_c0 8 rfl) 0 rfl ?_
    refine s_getr (b := 321) fX10_128 (dcx dX10_copies_c0 9 rfl) F284_54 ?_
    refine r_iload_n (dcx dX10_copies_c0 10 rfl) 1 rfl ?_
    obtain ⟨hb_, hyp⟩ := hyp
    refine s_iald (dcx dX10_copies_c0 11 rfl) A321 hb_ ?_
    obtain ⟨hb_, hyp⟩ := hyp
    refine s_iast (dcx dX10_copies_c0 12 rfl) A322 hb_ ?_
    obtain ⟨s2_, es2_⟩ : ∃ z : SS, z = sI σ 322 (Int32.toNatClampNeg x1) (σ.1 321 (Int32.toNatClampNeg x1)) := ⟨_, rfl⟩
    rw [← es2_]
    have hyp := hyp s2_ es2_
    refine r_iinc (lv1 := [(1, .int (x1 + 1)), (0, .ref 284)]) (dcx dX10_copies_c0 13 rfl) 1 rfl (Nat.le_of_ble_eq_true rfl) rfl ?_
    refine r_goto (tgt := 2) (dcx dX10_copies_c0 14 rfl) (by decide) ?_
    refine r_loc (lv1 := [(0, .ref 284), (1, .int (x1 + 1))]) [1, 0] rfl ?_
    exact hyp
set_option maxHeartbeats 4000000 in
set_option maxRecDepth 20000 in
theorem tX10_mixed {Γ : GE} {l : Launch} {x0 : Int32} {x1 : Int32} {σ : SS} {K : Option Value → SS → Prop}  (hyp : K (some (.int ((((x0 ^^^ x1) * 1103515245) + 12345) ^^^ ((Int32.toUInt32 (((x0 ^^^ x1) * 1103515245) + 12345) >>> (Int32.toUInt32 15 &&& Int32.toUInt32 31)).toInt32)))) σ) : C2 Γ l mX10_mixed [.int x0, .int x1] σ K := by
  refine c2_of (lv := [(0, .int x0), (1, .int x1)]) (by decide) (Nat.le_of_ble_eq_true rfl) rfl ?_
  refine r_iload_n (dcx dX10_mixed_c0 0 rfl) 0 rfl ?_
  refine r_iload_n (dcx dX10_mixed_c0 1 rfl) 1 rfl ?_
  refine r_ixor (dcx dX10_mixed_c0 2 rfl) ?_
  refine r_ldc_w (own := "MownLawnModel") (v := 1103515245) rfl q1791 (dcx dX10_mixed_c0 3 rfl) ?_
  refine r_imul (dcx dX10_mixed_c0 4 rfl) ?_
  refine r_sipush (v := 12345) (dcx dX10_mixed_c0 5 rfl) rfl ?_
  refine r_iadd (dcx dX10_mixed_c0 6 rfl) ?_
  refine r_istore_n (lv1 := [(2, .int (((x0 ^^^ x1) * 1103515245) + 12345)), (0, .int x0), (1, .int x1)]) (dcx dX10_mixed_c0 7 rfl) (Nat.le_of_ble_eq_true rfl) rfl ?_
  refine r_iload_n (dcx dX10_mixed_c0 8 rfl) 0 rfl ?_
  refine r_iload_n (dcx dX10_mixed_c0 9 rfl) 0 rfl ?_
  refine r_bipush (v := 15) (dcx dX10_mixed_c0 10 rfl) rfl ?_
  refine r_iushr (dcx dX10_mixed_c0 11 rfl) ?_
  refine r_ixor (dcx dX10_mixed_c0 12 rfl) ?_
  exact s_ret rfl rfl rfl hyp (dcx dX10_mixed_c0 13 rfl)
set_option maxHeartbeats 4000000 in
set_option maxRecDepth 20000 in
theorem tX10_wetNow {Γ : GE} {l : Launch}  {σ : SS} {K : Option Value → SS → Prop}  (hyp : C2 Γ l mX10_mixed [.int (σ.1 284 56), .int 97] σ (Ri fun r2_ s1_ => (vp_in 104 106 ∧ (C2 Γ l mX10_mixed [.int r2_, .int (4 * (s1_.1 322 (Int32.toNatClampNeg 104)))] s1_ (Ri fun r4_ s3_ => (∀ v5_ : Int32, v5_ = ((Int32.toUInt32 r4_ >>> (Int32.toUInt32 1 &&& Int32.toUInt32 31)).toInt32) - ((Int32.toUInt32 r4_ >>> (Int32.toUInt32 1 &&& Int32.toUInt32 31)).toInt32) / 100 * 100 → (vp_in (s3_.1 284 18) 2 ∧ (((s3_.1 306 (Int32.toNatClampNeg (s3_.1 284 18))) ≤ v5_ → (K (some (.int 0)) s3_)) ∧ (¬ ((s3_.1 306 (Int32.toNatClampNeg (s3_.1 284 18))) ≤ v5_) → (vp_in (s3_.1 284 18) 2 ∧ (K (some (.int (s3_.1 307 (Int32.toNatClampNeg (s3_.1 284 18))))) s3_))))))))))) : C2 Γ l mX10_wetNow [.ref 284] σ K := by
  refine c2_of (lv := [(0, .ref 284)]) (by decide) (Nat.le_of_ble_eq_true rfl) rfl ?_
  refine r_aload_n (dcx dX10_wetNow_c0 0 rfl) 0 rfl ?_
  refine s_geti fX10_350 (dcx dX10_wetNow_c0 1 rfl) F284_56 ?_
  refine r_bipush (v := 97) (dcx dX10_wetNow_c0 2 rfl) rfl ?_
  refine s_callS (as := [.int (σ.1 284 56), .int 97]) (st := []) zX10_mixed kX10_wetNow_354 (dcx dX10_wetNow_c0 3 rfl) rfl rfl (Nat.le_of_ble_eq_true rfl) (C2.mono hyp ?_)
  rintro _ s1_ ⟨r2_, rfl, hyp⟩
  show G2 Γ l mX10_wetNow 9 [(0, .ref 284)] [.int r2_] s1_ K
  refine r_iconst (v := 4) (dcx dX10_wetNow_c0 4 rfl) rfl ?_
  refine r_aload_n (dcx dX10_wetNow_c0 5 rfl) 0 rfl ?_
  refine s_getr (b := 322) fX10_131 (dcx dX10_wetNow_c0 6 rfl) F284_55 ?_
  refine r_bipush (v := 104) (dcx dX10_wetNow_c0 7 rfl) rfl ?_
  obtain ⟨hb_, hyp⟩ := hyp
  refine s_iald (dcx dX10_wetNow_c0 8 rfl) A322 hb_ ?_
  refine r_imul (dcx dX10_wetNow_c0 9 rfl) ?_
  refine s_callS (as := [.int r2_, .int (4 * (s1_.1 322 (Int32.toNatClampNeg 104)))]) (st := []) zX10_mixed kX10_wetNow_354 (dcx dX10_wetNow_c0 10 rfl) rfl rfl (Nat.le_of_ble_eq_true rfl) (C2.mono hyp ?_)
  rintro _ s3_ ⟨r4_, rfl, hyp⟩
  show G2 Γ l mX10_wetNow 21 [(0, .ref 284)] [.int r4_] s3_ K
  refine r_iconst (v := 1) (dcx dX10_wetNow_c0 11 rfl) rfl ?_
  refine r_iushr (dcx dX10_wetNow_c0 12 rfl) ?_
  refine r_bipush (v := 100) (dcx dX10_wetNow_c0 13 rfl) rfl ?_
  refine r_irem (dcx dX10_wetNow_c0 14 rfl) (by decide) ?_
  obtain ⟨v5_, ev5_⟩ : ∃ z : Int32, z = ((Int32.toUInt32 r4_ >>> (Int32.toUInt32 1 &&& Int32.toUInt32 31)).toInt32) - ((Int32.toUInt32 r4_ >>> (Int32.toUInt32 1 &&& Int32.toUInt32 31)).toInt32) / 100 * 100 := ⟨_, rfl⟩
  rw [← ev5_]
  have hyp := hyp v5_ ev5_
  refine r_istore_n (lv1 := [(1, .int v5_), (0, .ref 284)]) (dcx dX10_wetNow_c0 15 rfl) (Nat.le_of_ble_eq_true rfl) rfl ?_
  refine r_iload_n (dcx dX10_wetNow_c0 16 rfl) 0 rfl ?_
  refine r_aload_n (dcx dX10_wetNow_c0 17 rfl) 1 rfl ?_
  refine s_getr (b := 306) fX10_83 (dcx dX10_wetNow_c0 18 rfl) F284_35 ?_
  refine r_aload_n (dcx dX10_wetNow_c0 19 rfl) 1 rfl ?_
  refine s_geti fX10_245 (dcx dX10_wetNow_c0 20 rfl) F284_18 ?_
  obtain ⟨hb_, hyp⟩ := hyp
  refine s_iald (dcx dX10_wetNow_c0 21 rfl) A306 hb_ ?_
  refine r_icmp_ge (tgt := 52) (dcx dX10_wetNow_c0 22 rfl) (by decide) (fun q_ => ?_) (fun q_ => ?_)
  · have hyp := hyp.1 q_
    refine r_iconst (v := 0) (dcx dX10_wetNow_c0 29 rfl) rfl ?_
    exact s_ret rfl rfl rfl hyp (dcx dX10_wetNow_c0 30 rfl)
  · have hyp := hyp.2 q_
    refine r_aload_n (dcx dX10_wetNow_c0 23 rfl) 1 rfl ?_
    refine s_getr (b := 307) fX10_86 (dcx dX10_wetNow_c0 24 rfl) F284_36 ?_
    refine r_aload_n (dcx dX10_wetNow_c0 25 rfl) 1 rfl ?_
    refine s_geti fX10_245 (dcx dX10_wetNow_c0 26 rfl) F284_18 ?_
    obtain ⟨hb_, hyp⟩ := hyp
    refine s_iald (dcx dX10_wetNow_c0 27 rfl) A307 hb_ ?_
    refine r_goto (tgt := 53) (dcx dX10_wetNow_c0 28 rfl) (by decide) ?_
    exact s_ret rfl rfl rfl hyp (dcx dX10_wetNow_c0 30 rfl)
def wX10_looks_2 (Γ : GE) (l : Launch) (x1 : Int32) (x2 : Int32) (x3 : Int32) (σ : SS) (K : Option Value → SS → Prop) : Prop := G2 Γ l mX10_looks 2 [(0, .ref 284), (1, .int x1), (2, .int x2), (3, .int x3)] [] σ K
set_option maxHeartbeats 4000000 in
set_option maxRecDepth 20000 in
theorem tX10_looks {Γ : GE} {l : Launch} {x1 : Int32} {x2 : Int32} {σ : SS} {K : Option Value → SS → Prop}  (hyp : wX10_looks_2 Γ l x1 x2 0 σ K) : C2 Γ l mX10_looks [.ref 284, .int x1, .int x2] σ K := by
  refine c2_of (lv := [(0, .ref 284), (1, .int x1), (2, .int x2)]) (by decide) (Nat.le_of_ble_eq_true rfl) rfl ?_
  refine r_iconst (v := 0) (dcx dX10_looks_c0 0 rfl) rfl ?_
  refine r_istore_n (lv1 := [(3, .int 0), (0, .ref 284), (1, .int x1), (2, .int x2)]) (dcx dX10_looks_c0 1 rfl) (Nat.le_of_ble_eq_true rfl) rfl ?_
  refine r_loc (lv1 := [(0, .ref 284), (1, .int x1), (2, .int x2), (3, .int 0)]) [1, 2, 3, 0] rfl ?_
  exact hyp
set_option maxHeartbeats 4000000 in
set_option maxRecDepth 20000 in
theorem tX10_looks_2 {Γ : GE} {l : Launch} {x1 : Int32} {x2 : Int32} {x3 : Int32} {σ : SS} {K : Option Value → SS → Prop}  (hyp : ((9 : Int32) ≤ x3 → (vp_in 104 106 ∧ (vp_in 2 9 ∧ (∀ s1_ : SS, s1_ = sI σ 319 (Int32.toNatClampNeg 2) (σ.1 322 (Int32.toNatClampNeg 104)) → (vp_in 5 9 ∧ (∀ s2_ : SS, s2_ = sI s1_ 319 (Int32.toNatClampNeg 5) x1 → (vp_in 6 9 ∧ (∀ s3_ : SS, s3_ = sI s2_ 319 (Int32.toNatClampNeg 6) x2 → (K none s3_))))))))) ∧ (¬ ((9 : Int32) ≤ x3) → (vp_in x3 9 ∧ (∀ s4_ : SS, s4_ = sI σ 319 (Int32.toNatClampNeg x3) 0 → (wX10_looks_2 Γ l x1 x2 (x3 + 1) s4_ K))))) : wX10_looks_2 Γ l x1 x2 x3 σ K := by
  show G2 Γ l mX10_looks 2 [(0, .ref 284), (1, .int x1), (2, .int x2), (3, .int x3)] [] σ K
  refine r_iload_n (dcx dX10_looks_c0 2 rfl) 3 rfl ?_
  refine r_bipush (v := 9) (dcx dX10_looks_c0 3 rfl) rfl ?_
  refine r_icmp_ge (tgt := 21) (dcx dX10_looks_c0 4 rfl) (by decide) (fun q_ => ?_) (fun q_ => ?_)
  · have hyp := hyp.1 q_
    refine r_aload_n (dcx dX10_looks_c0 12 rfl) 0 rfl ?_
    refine s_getr (b := 319) fX10_122 (dcx dX10_looks_c0 13 rfl) F284_51 ?_
    refine r_iconst (v := 2) (dcx dX10_looks_c0 14 rfl) rfl ?_
    refine r_aload_n (dcx dX10_looks_c0 15 rfl) 0 rfl ?_
    refine s_getr (b := 322) fX10_131 (dcx dX10_looks_c0 16 rfl) F284_55 ?_
    refine r_bipush (v := 104) (dcx dX10_looks_c0 17 rfl) rfl ?_
    obtain ⟨hb_, hyp⟩ := hyp
    refine s_iald (dcx dX10_looks_c0 18 rfl) A322 hb_ ?_
    obtain ⟨hb_, hyp⟩ := hyp
    refine s_iast (dcx dX10_looks_c0 19 rfl) A319 hb_ ?_
    obtain ⟨s1_, es1_⟩ : ∃ z : SS, z = sI σ 319 (Int32.toNatClampNeg 2) (σ.1 322 (Int32.toNatClampNeg 104)) := ⟨_, rfl⟩
    rw [← es1_]
    have hyp := hyp s1_ es1_
    refine r_aload_n (dcx dX10_looks_c0 20 rfl) 0 rfl ?_
    refine s_getr (b := 319) fX10_122 (dcx dX10_looks_c0 21 rfl) F284_51 ?_
    refine r_iconst (v := 5) (dcx dX10_looks_c0 22 rfl) rfl ?_
    refine r_iload_n (dcx dX10_looks_c0 23 rfl) 1 rfl ?_
    obtain ⟨hb_, hyp⟩ := hyp
    refine s_iast (dcx dX10_looks_c0 24 rfl) A319 hb_ ?_
    obtain ⟨s2_, es2_⟩ : ∃ z : SS, z = sI s1_ 319 (Int32.toNatClampNeg 5) x1 := ⟨_, rfl⟩
    rw [← es2_]
    have hyp := hyp s2_ es2_
    refine r_aload_n (dcx dX10_looks_c0 25 rfl) 0 rfl ?_
    refine s_getr (b := 319) fX10_122 (dcx dX10_looks_c0 26 rfl) F284_51 ?_
    refine r_bipush (v := 6) (dcx dX10_looks_c0 27 rfl) rfl ?_
    refine r_iload_n (dcx dX10_looks_c0 28 rfl) 2 rfl ?_
    obtain ⟨hb_, hyp⟩ := hyp
    refine s_iast (dcx dX10_looks_c0 29 rfl) A319 hb_ ?_
    obtain ⟨s3_, es3_⟩ : ∃ z : SS, z = sI s2_ 319 (Int32.toNatClampNeg 6) x2 := ⟨_, rfl⟩
    rw [← es3_]
    have hyp := hyp s3_ es3_
    exact s_vret rfl hyp (dcx dX10_looks_c0 30 rfl)
  · have hyp := hyp.2 q_
    refine r_aload_n (dcx dX10_looks_c0 5 rfl) 0 rfl ?_
    refine s_getr (b := 319) fX10_122 (dcx dX10_looks_c0 6 rfl) F284_51 ?_
    refine r_iload_n (dcx dX10_looks_c0 7 rfl) 3 rfl ?_
    refine r_iconst (v := 0) (dcx dX10_looks_c0 8 rfl) rfl ?_
    obtain ⟨hb_, hyp⟩ := hyp
    refine s_iast (dcx dX10_looks_c0 9 rfl) A319 hb_ ?_
    obtain ⟨s4_, es4_⟩ : ∃ z : SS, z = sI σ 319 (Int32.toNatClampNeg x3) 0 := ⟨_, rfl⟩
    rw [← es4_]
    have hyp := hyp s4_ es4_
    refine r_iinc (lv1 := [(3, .int (x3 + 1)), (0, .ref 284), (1, .int x1), (2, .int x2)]) (dcx dX10_looks_c0 10 rfl) 3 rfl (Nat.le_of_ble_eq_true rfl) rfl ?_
    refine r_goto (tgt := 2) (dcx dX10_looks_c0 11 rfl) (by decide) ?_
    refine r_loc (lv1 := [(0, .ref 284), (1, .int x1), (2, .int x2), (3, .int (x3 + 1))]) [1, 2, 3, 0] rfl ?_
    exact hyp
set_option maxHeartbeats 4000000 in
set_option maxRecDepth 20000 in
theorem tX10_looksAtCell {Γ : GE} {l : Launch} {x1 : Int32} {x2 : Int32} {σ : SS} {K : Option Value → SS → Prop}  (hyp : C2 Γ l mX10_looks [.ref 284, .int x1, .int x2] σ (Rv fun s1_ => (vp_in ((8 * x2) + x1) 106 ∧ (vp_in 0 9 ∧ (∀ s3_ : SS, s3_ = sI s1_ 319 (Int32.toNatClampNeg 0) (s1_.1 322 (Int32.toNatClampNeg ((8 * x2) + x1))) → (vp_in (((48 * (s3_.1 284 18)) + (8 * x2)) + x1) 96 ∧ (vp_in 1 9 ∧ (∀ s4_ : SS, s4_ = sI s3_ 319 (Int32.toNatClampNeg 1) (s3_.1 296 (Int32.toNatClampNeg (((48 * (s3_.1 284 18)) + (8 * x2)) + x1))) → (vp_in ((48 + (8 * x2)) + x1) 106 ∧ (vp_in 4 9 ∧ (∀ s5_ : SS, s5_ = sI s4_ 319 (Int32.toNatClampNeg 4) (s4_.1 322 (Int32.toNatClampNeg ((48 + (8 * x2)) + x1))) → (K none s5_)))))))))))) : C2 Γ l mX10_looksAtCell [.ref 284, .int x1, .int x2] σ K := by
  refine c2_of (lv := [(0, .ref 284), (1, .int x1), (2, .int x2)]) (by decide) (Nat.le_of_ble_eq_true rfl) rfl ?_
  refine r_aload_n (dcx dX10_looksAtCell_c0 0 rfl) 0 rfl ?_
  refine r_iload_n (dcx dX10_looksAtCell_c0 1 rfl) 1 rfl ?_
  refine r_iload_n (dcx dX10_looksAtCell_c0 2 rfl) 2 rfl ?_
  refine s_callV (as := [.int x1, .int x2]) (st := []) zX10_looks kX10_looksAtCell_357 (dcx dX10_looksAtCell_c0 3 rfl) rfl rfl (Nat.le_of_ble_eq_true rfl) O284 rfl rfl (C2.mono hyp ?_)
  rintro _ s1_ ⟨rfl, hyp⟩
  show G2 Γ l mX10_looksAtCell 6 [(0, .ref 284), (1, .int x1), (2, .int x2)] [] s1_ K
  refine r_aload_n (dcx dX10_looksAtCell_c0 4 rfl) 0 rfl ?_
  refine s_getr (b := 319) fX10_122 (dcx dX10_looksAtCell_c0 5 rfl) F284_51 ?_
  refine r_iconst (v := 0) (dcx dX10_looksAtCell_c0 6 rfl) rfl ?_
  refine r_aload_n (dcx dX10_looksAtCell_c0 7 rfl) 0 rfl ?_
  refine s_getr (b := 322) fX10_131 (dcx dX10_looksAtCell_c0 8 rfl) F284_55 ?_
  refine r_bipush (v := 8) (dcx dX10_looksAtCell_c0 9 rfl) rfl ?_
  refine r_iload_n (dcx dX10_looksAtCell_c0 10 rfl) 2 rfl ?_
  refine r_imul (dcx dX10_looksAtCell_c0 11 rfl) ?_
  refine r_iload_n (dcx dX10_looksAtCell_c0 12 rfl) 1 rfl ?_
  refine r_iadd (dcx dX10_looksAtCell_c0 13 rfl) ?_
  obtain ⟨hb_, hyp⟩ := hyp
  refine s_iald (dcx dX10_looksAtCell_c0 14 rfl) A322 hb_ ?_
  obtain ⟨hb_, hyp⟩ := hyp
  refine s_iast (dcx dX10_looksAtCell_c0 15 rfl) A319 hb_ ?_
  obtain ⟨s3_, es3_⟩ : ∃ z : SS, z = sI s1_ 319 (Int32.toNatClampNeg 0) (s1_.1 322 (Int32.toNatClampNeg ((8 * x2) + x1))) := ⟨_, rfl⟩
  rw [← es3_]
  have hyp := hyp s3_ es3_
  refine r_aload_n (dcx dX10_looksAtCell_c0 16 rfl) 0 rfl ?_
  refine s_getr (b := 319) fX10_122 (dcx dX10_looksAtCell_c0 17 rfl) F284_51 ?_
  refine r_iconst (v := 1) (dcx dX10_looksAtCell_c0 18 rfl) rfl ?_
  refine r_aload_n (dcx dX10_looksAtCell_c0 19 rfl) 0 rfl ?_
  refine s_getr (b := 296) fX10_52 (dcx dX10_looksAtCell_c0 20 rfl) F284_25 ?_
  refine r_bipush (v := 48) (dcx dX10_looksAtCell_c0 21 rfl) rfl ?_
  refine r_aload_n (dcx dX10_looksAtCell_c0 22 rfl) 0 rfl ?_
  refine s_geti fX10_245 (dcx dX10_looksAtCell_c0 23 rfl) F284_18 ?_
  refine r_imul (dcx dX10_looksAtCell_c0 24 rfl) ?_
  refine r_bipush (v := 8) (dcx dX10_looksAtCell_c0 25 rfl) rfl ?_
  refine r_iload_n (dcx dX10_looksAtCell_c0 26 rfl) 2 rfl ?_
  refine r_imul (dcx dX10_looksAtCell_c0 27 rfl) ?_
  refine r_iadd (dcx dX10_looksAtCell_c0 28 rfl) ?_
  refine r_iload_n (dcx dX10_looksAtCell_c0 29 rfl) 1 rfl ?_
  refine r_iadd (dcx dX10_looksAtCell_c0 30 rfl) ?_
  obtain ⟨hb_, hyp⟩ := hyp
  refine s_iald (dcx dX10_looksAtCell_c0 31 rfl) A296 hb_ ?_
  obtain ⟨hb_, hyp⟩ := hyp
  refine s_iast (dcx dX10_looksAtCell_c0 32 rfl) A319 hb_ ?_
  obtain ⟨s4_, es4_⟩ : ∃ z : SS, z = sI s3_ 319 (Int32.toNatClampNeg 1) (s3_.1 296 (Int32.toNatClampNeg (((48 * (s3_.1 284 18)) + (8 * x2)) + x1))) := ⟨_, rfl⟩
  rw [← es4_]
  have hyp := hyp s4_ es4_
  refine r_aload_n (dcx dX10_looksAtCell_c0 33 rfl) 0 rfl ?_
  refine s_getr (b := 319) fX10_122 (dcx dX10_looksAtCell_c0 34 rfl) F284_51 ?_
  refine r_iconst (v := 4) (dcx dX10_looksAtCell_c0 35 rfl) rfl ?_
  refine r_aload_n (dcx dX10_looksAtCell_c0 36 rfl) 0 rfl ?_
  refine s_getr (b := 322) fX10_131 (dcx dX10_looksAtCell_c0 37 rfl) F284_55 ?_
  refine r_bipush (v := 48) (dcx dX10_looksAtCell_c0 38 rfl) rfl ?_
  refine r_bipush (v := 8) (dcx dX10_looksAtCell_c0 39 rfl) rfl ?_
  refine r_iload_n (dcx dX10_looksAtCell_c1 0 rfl) 2 rfl ?_
  refine r_imul (dcx dX10_looksAtCell_c1 1 rfl) ?_
  refine r_iadd (dcx dX10_looksAtCell_c1 2 rfl) ?_
  refine r_iload_n (dcx dX10_looksAtCell_c1 3 rfl) 1 rfl ?_
  refine r_iadd (dcx dX10_looksAtCell_c1 4 rfl) ?_
  obtain ⟨hb_, hyp⟩ := hyp
  refine s_iald (dcx dX10_looksAtCell_c1 5 rfl) A322 hb_ ?_
  obtain ⟨hb_, hyp⟩ := hyp
  refine s_iast (dcx dX10_looksAtCell_c1 6 rfl) A319 hb_ ?_
  obtain ⟨s5_, es5_⟩ : ∃ z : SS, z = sI s4_ 319 (Int32.toNatClampNeg 4) (s4_.1 322 (Int32.toNatClampNeg ((48 + (8 * x2)) + x1))) := ⟨_, rfl⟩
  rw [← es5_]
  have hyp := hyp s5_ es5_
  exact s_vret rfl hyp (dcx dX10_looksAtCell_c1 7 rfl)
set_option maxHeartbeats 4000000 in
set_option maxRecDepth 20000 in
theorem tX10_tallAt {Γ : GE} {l : Launch} {x1 : Int32} {x2 : Int32} {σ : SS} {K : Option Value → SS → Prop}  (hyp : C2 Γ l mX10_isCell [.ref 284, .int x1, .int x2] σ (Ri fun r2_ s1_ => ((r2_ = 0 → (K (some (.int 0)) s1_)) ∧ (¬ (r2_ = 0) → (vp_in ((8 * x2) + x1) 106 ∧ (K (some (.int (s1_.1 322 (Int32.toNatClampNeg ((8 * x2) + x1))))) s1_)))))) : C2 Γ l mX10_tallAt [.ref 284, .int x1, .int x2] σ K := by
  refine c2_of (lv := [(0, .ref 284), (1, .int x1), (2, .int x2)]) (by decide) (Nat.le_of_ble_eq_true rfl) rfl ?_
  refine r_aload_n (dcx dX10_tallAt_c0 0 rfl) 0 rfl ?_
  refine r_iload_n (dcx dX10_tallAt_c0 1 rfl) 1 rfl ?_
  refine r_iload_n (dcx dX10_tallAt_c0 2 rfl) 2 rfl ?_
  refine s_callV (as := [.int x1, .int x2]) (st := []) zX10_isCell kX10_tallAt_343 (dcx dX10_tallAt_c0 3 rfl) rfl rfl (Nat.le_of_ble_eq_true rfl) O284 rfl rfl (C2.mono hyp ?_)
  rintro _ s1_ ⟨r2_, rfl, hyp⟩
  show G2 Γ l mX10_tallAt 6 [(0, .ref 284), (1, .int x1), (2, .int x2)] [.int r2_] s1_ K
  refine r_if_eq (tgt := 23) (dcx dX10_tallAt_c0 4 rfl) (by decide) (fun q_ => ?_) (fun q_ => ?_)
  · have hyp := hyp.1 q_
    refine r_iconst (v := 0) (dcx dX10_tallAt_c0 14 rfl) rfl ?_
    exact s_ret rfl rfl rfl hyp (dcx dX10_tallAt_c0 15 rfl)
  · have hyp := hyp.2 q_
    refine r_aload_n (dcx dX10_tallAt_c0 5 rfl) 0 rfl ?_
    refine s_getr (b := 322) fX10_131 (dcx dX10_tallAt_c0 6 rfl) F284_55 ?_
    refine r_bipush (v := 8) (dcx dX10_tallAt_c0 7 rfl) rfl ?_
    refine r_iload_n (dcx dX10_tallAt_c0 8 rfl) 2 rfl ?_
    refine r_imul (dcx dX10_tallAt_c0 9 rfl) ?_
    refine r_iload_n (dcx dX10_tallAt_c0 10 rfl) 1 rfl ?_
    refine r_iadd (dcx dX10_tallAt_c0 11 rfl) ?_
    obtain ⟨hb_, hyp⟩ := hyp
    refine s_iald (dcx dX10_tallAt_c0 12 rfl) A322 hb_ ?_
    refine r_goto (tgt := 24) (dcx dX10_tallAt_c0 13 rfl) (by decide) ?_
    exact s_ret rfl rfl rfl hyp (dcx dX10_tallAt_c0 15 rfl)
set_option maxHeartbeats 4000000 in
set_option maxRecDepth 20000 in
theorem tX10_most {Γ : GE} {l : Launch} {x0 : Int32} {x1 : Int32} {σ : SS} {K : Option Value → SS → Prop}  (hyp : (x0 ≤ x1 → (K (some (.int x1)) σ)) ∧ (¬ (x0 ≤ x1) → (K (some (.int x0)) σ))) : C2 Γ l mX10_most [.int x0, .int x1] σ K := by
  refine c2_of (lv := [(0, .int x0), (1, .int x1)]) (by decide) (Nat.le_of_ble_eq_true rfl) rfl ?_
  refine r_iload_n (dcx dX10_most_c0 0 rfl) 0 rfl ?_
  refine r_iload_n (dcx dX10_most_c0 1 rfl) 1 rfl ?_
  refine r_icmp_le (tgt := 9) (dcx dX10_most_c0 2 rfl) (by decide) (fun q_ => ?_) (fun q_ => ?_)
  · have hyp := hyp.1 q_
    refine r_iload_n (dcx dX10_most_c0 5 rfl) 1 rfl ?_
    exact s_ret rfl rfl rfl hyp (dcx dX10_most_c0 6 rfl)
  · have hyp := hyp.2 q_
    refine r_iload_n (dcx dX10_most_c0 3 rfl) 0 rfl ?_
    refine r_goto (tgt := 10) (dcx dX10_most_c0 4 rfl) (by decide) ?_
    exact s_ret rfl rfl rfl hyp (dcx dX10_most_c0 6 rfl)
def wX10_lawTells_39 (Γ : GE) (l : Launch) (x3 : Int32) (x4 : Int32) (σ : SS) (K : Option Value → SS → Prop) : Prop := G2 Γ l mX10_lawTells 39 [(0, .ref 284), (3, .int x3), (4, .int x4)] [] σ K
set_option maxHeartbeats 4000000 in
set_option maxRecDepth 20000 in
theorem tX10_lawTells {Γ : GE} {l : Launch} {x1 : Int32} {x2 : Int32} {σ : SS} {K : Option Value → SS → Prop}  (hyp : vp_in ((3 * (σ.1 284 18)) + x1) 6 ∧ (vp_in ((3 * (σ.1 284 18)) + x1) 6 ∧ ((¬ (σ.1 309 (Int32.toNatClampNeg ((3 * (σ.1 284 18)) + x1))) = (σ.1 310 (Int32.toNatClampNeg ((3 * (σ.1 284 18)) + x1))) → (∀ s1_ : SS, s1_ = sI σ 284 53 0 → (vp_in ((3 * (σ.1 284 18)) + x1) 6 ∧ (∀ v2_ : Int32, v2_ = s1_.1 309 (Int32.toNatClampNeg ((3 * (σ.1 284 18)) + x1)) → (wX10_lawTells_39 Γ l ((3 * (σ.1 284 18)) + x1) v2_ s1_ K))))) ∧ ((σ.1 309 (Int32.toNatClampNeg ((3 * (σ.1 284 18)) + x1))) = (σ.1 310 (Int32.toNatClampNeg ((3 * (σ.1 284 18)) + x1))) → (K (some (.int x2)) σ))))) : C2 Γ l mX10_lawTells [.ref 284, .int x1, .int x2] σ K := by
  refine c2_of (lv := [(0, .ref 284), (1, .int x1), (2, .int x2)]) (by decide) (Nat.le_of_ble_eq_true rfl) rfl ?_
  refine r_iconst (v := 3) (dcx dX10_lawTells_c0 0 rfl) rfl ?_
  refine r_aload_n (dcx dX10_lawTells_c0 1 rfl) 0 rfl ?_
  refine s_geti fX10_245 (dcx dX10_lawTells_c0 2 rfl) F284_18 ?_
  refine r_imul (dcx dX10_lawTells_c0 3 rfl) ?_
  refine r_iload_n (dcx dX10_lawTells_c0 4 rfl) 1 rfl ?_
  refine r_iadd (dcx dX10_lawTells_c0 5 rfl) ?_
  refine r_istore_n (lv1 := [(3, .int ((3 * (σ.1 284 18)) + x1)), (0, .ref 284), (1, .int x1), (2, .int x2)]) (dcx dX10_lawTells_c0 6 rfl) (Nat.le_of_ble_eq_true rfl) rfl ?_
  refine r_aload_n (dcx dX10_lawTells_c0 7 rfl) 1 rfl ?_
  refine s_getr (b := 309) fX10_92 (dcx dX10_lawTells_c0 8 rfl) F284_38 ?_
  refine r_iload_n (dcx dX10_lawTells_c0 9 rfl) 0 rfl ?_
  obtain ⟨hb_, hyp⟩ := hyp
  refine s_iald (dcx dX10_lawTells_c0 10 rfl) A309 hb_ ?_
  refine r_aload_n (dcx dX10_lawTells_c0 11 rfl) 1 rfl ?_
  refine s_getr (b := 310) fX10_95 (dcx dX10_lawTells_c0 12 rfl) F284_39 ?_
  refine r_iload_n (dcx dX10_lawTells_c0 13 rfl) 0 rfl ?_
  obtain ⟨hb_, hyp⟩ := hyp
  refine s_iald (dcx dX10_lawTells_c0 14 rfl) A310 hb_ ?_
  refine r_icmp_ne (tgt := 26) (dcx dX10_lawTells_c0 15 rfl) (by decide) (fun q_ => ?_) (fun q_ => ?_)
  · have hyp := hyp.1 q_
    refine r_aload_n (dcx dX10_lawTells_c0 18 rfl) 1 rfl ?_
    refine r_iconst (v := 0) (dcx dX10_lawTells_c0 19 rfl) rfl ?_
    refine s_putz gX10_335 (dcx dX10_lawTells_c0 20 rfl) F284_53 rfl rfl ?_
    obtain ⟨s1_, es1_⟩ : ∃ z : SS, z = sI σ 284 53 0 := ⟨_, rfl⟩
    rw [← es1_]
    have hyp := hyp s1_ es1_
    refine r_aload_n (dcx dX10_lawTells_c0 21 rfl) 1 rfl ?_
    refine s_getr (b := 309) fX10_92 (dcx dX10_lawTells_c0 22 rfl) F284_38 ?_
    refine r_iload_n (dcx dX10_lawTells_c0 23 rfl) 0 rfl ?_
    obtain ⟨hb_, hyp⟩ := hyp
    refine s_iald (dcx dX10_lawTells_c0 24 rfl) A309 hb_ ?_
    obtain ⟨v2_, ev2_⟩ : ∃ z : Int32, z = s1_.1 309 (Int32.toNatClampNeg ((3 * (σ.1 284 18)) + x1)) := ⟨_, rfl⟩
    rw [← ev2_]
    have hyp := hyp v2_ ev2_
    refine r_istore (lv1 := [(4, .int v2_), (3, .int ((3 * (σ.1 284 18)) + x1)), (0, .ref 284), (1, .int x1), (2, .int x2)]) (dcx dX10_lawTells_c0 25 rfl) (Nat.le_of_ble_eq_true rfl) rfl ?_
    refine r_loc (lv1 := [(0, .ref 284), (3, .int ((3 * (σ.1 284 18)) + x1)), (4, .int v2_)]) [2, 1, 0] rfl ?_
    exact hyp
  · have hyp := hyp.2 q_
    refine r_iload_n (dcx dX10_lawTells_c0 16 rfl) 3 rfl ?_
    exact s_ret rfl rfl rfl hyp (dcx dX10_lawTells_c0 17 rfl)
set_option maxHeartbeats 4000000 in
set_option maxRecDepth 20000 in
theorem tX10_lawTells_39 {Γ : GE} {l : Launch} {x3 : Int32} {x4 : Int32} {σ : SS} {K : Option Value → SS → Prop}  (hyp : vp_in x3 6 ∧ (((σ.1 310 (Int32.toNatClampNeg x3)) ≤ x4 → (K (some (.int 0)) σ)) ∧ (¬ ((σ.1 310 (Int32.toNatClampNeg x3)) ≤ x4) → (vp_in x4 260 ∧ (((σ.1 311 (Int32.toNatClampNeg x4)) = 0 → (vp_in x4 260 ∧ (vp_in x4 260 ∧ (C2 Γ l mX10_termOf [.ref 284, .int (σ.1 314 (Int32.toNatClampNeg x4)), .int (σ.1 315 (Int32.toNatClampNeg x4))] σ (Ri fun r2_ s1_ => (((s1_.1 284 53) = 0 → (K (some (.int r2_)) s1_)) ∧ (¬ ((s1_.1 284 53) = 0) → (K (some (.int 0)) s1_)))))))) ∧ (¬ ((σ.1 311 (Int32.toNatClampNeg x4)) = 0) → (vp_in x4 260 ∧ (vp_in x4 260 ∧ (C2 Γ l mX10_termOf [.ref 284, .int (σ.1 312 (Int32.toNatClampNeg x4)), .int (σ.1 313 (Int32.toNatClampNeg x4))] σ (Ri fun r4_ s3_ => (vp_in x4 260 ∧ (vp_in x4 260 ∧ (C2 Γ l mX10_termOf [.ref 284, .int (s3_.1 313 (Int32.toNatClampNeg x4)), .int (s3_.1 314 (Int32.toNatClampNeg x4))] s3_ (Ri fun r6_ s5_ => (((s5_.1 284 53) = 0 → ((r4_ < r6_ → (vp_in x4 260 ∧ (vp_in x4 260 ∧ (C2 Γ l mX10_termOf [.ref 284, .int (s5_.1 314 (Int32.toNatClampNeg x4)), .int (s5_.1 315 (Int32.toNatClampNeg x4))] s5_ (Ri fun r8_ s7_ => (((s7_.1 284 53) = 0 → (K (some (.int r8_)) s7_)) ∧ (¬ ((s7_.1 284 53) = 0) → (K (some (.int 0)) s7_)))))))) ∧ (¬ (r4_ < r6_) → (wX10_lawTells_39 Γ l x3 (x4 + 1) s5_ K)))) ∧ (¬ ((s5_.1 284 53) = 0) → (K (some (.int 0)) s5_))))))))))))))))) : wX10_lawTells_39 Γ l x3 x4 σ K := by
  show G2 Γ l mX10_lawTells 39 [(0, .ref 284), (3, .int x3), (4, .int x4)] [] σ K
  refine r_iload (dcx dX10_lawTells_c0 26 rfl) 2 rfl ?_
  refine r_aload_n (dcx dX10_lawTells_c0 27 rfl) 0 rfl ?_
  refine s_getr (b := 310) fX10_95 (dcx dX10_lawTells_c0 28 rfl) F284_39 ?_
  refine r_iload_n (dcx dX10_lawTells_c0 29 rfl) 1 rfl ?_
  obtain ⟨hb_, hyp⟩ := hyp
  refine s_iald (dcx dX10_lawTells_c0 30 rfl) A310 hb_ ?_
  refine r_icmp_ge (tgt := 159) (dcx dX10_lawTells_c0 31 rfl) (by decide) (fun q_ => ?_) (fun q_ => ?_)
  · have hyp := hyp.1 q_
    refine r_iconst (v := 0) (dcx dX10_lawTells_c2 8 rfl) rfl ?_
    exact s_ret rfl rfl rfl hyp (dcx dX10_lawTells_c2 9 rfl)
  · have hyp := hyp.2 q_
    refine r_aload_n (dcx dX10_lawTells_c0 32 rfl) 0 rfl ?_
    refine s_getr (b := 311) fX10_98 (dcx dX10_lawTells_c0 33 rfl) F284_41 ?_
    refine r_iload (dcx dX10_lawTells_c0 34 rfl) 2 rfl ?_
    obtain ⟨hb_, hyp⟩ := hyp
    refine s_zald (dcx dX10_lawTells_c0 35 rfl) A311 hb_ ?_
    refine r_if_eq (tgt := 119) (dcx dX10_lawTells_c0 36 rfl) (by decide) (fun q_ => ?_) (fun q_ => ?_)
    · have hyp := hyp.1 q_
      refine r_aload_n (dcx dX10_lawTells_c1 28 rfl) 0 rfl ?_
      refine r_aload_n (dcx dX10_lawTells_c1 29 rfl) 0 rfl ?_
      refine s_getr (b := 314) fX10_107 (dcx dX10_lawTells_c1 30 rfl) F284_44 ?_
      refine r_iload (dcx dX10_lawTells_c1 31 rfl) 2 rfl ?_
      obtain ⟨hb_, hyp⟩ := hyp
      refine s_iald (dcx dX10_lawTells_c1 32 rfl) A314 hb_ ?_
      refine r_aload_n (dcx dX10_lawTells_c1 33 rfl) 0 rfl ?_
      refine s_getr (b := 315) fX10_110 (dcx dX10_lawTells_c1 34 rfl) F284_45 ?_
      refine r_iload (dcx dX10_lawTells_c1 35 rfl) 2 rfl ?_
      obtain ⟨hb_, hyp⟩ := hyp
      refine s_iald (dcx dX10_lawTells_c1 36 rfl) A315 hb_ ?_
      refine s_callV (as := [.int (σ.1 314 (Int32.toNatClampNeg x4)), .int (σ.1 315 (Int32.toNatClampNeg x4))]) (st := []) zX10_termOf kX10_lawTells_360 (dcx dX10_lawTells_c1 37 rfl) rfl rfl (Nat.le_of_ble_eq_true rfl) O284 rfl rfl (C2.mono hyp ?_)
      rintro _ s1_ ⟨r2_, rfl, hyp⟩
      show G2 Γ l mX10_lawTells 137 [(0, .ref 284), (3, .int x3), (4, .int x4)] [.int r2_] s1_ K
      refine r_istore (lv1 := [(5, .int r2_), (0, .ref 284), (3, .int x3), (4, .int x4)]) (dcx dX10_lawTells_c1 38 rfl) (Nat.le_of_ble_eq_true rfl) rfl ?_
      refine r_aload_n (dcx dX10_lawTells_c1 39 rfl) 1 rfl ?_
      refine s_geti fX10_335 (dcx dX10_lawTells_c2 0 rfl) F284_53 ?_
      refine r_if_eq (tgt := 150) (dcx dX10_lawTells_c2 1 rfl) (by decide) (fun q_ => ?_) (fun q_ => ?_)
      · have hyp := hyp.1 q_
        refine r_iload (dcx dX10_lawTells_c2 4 rfl) 0 rfl ?_
        exact s_ret rfl rfl rfl hyp (dcx dX10_lawTells_c2 5 rfl)
      · have hyp := hyp.2 q_
        refine r_iconst (v := 0) (dcx dX10_lawTells_c2 2 rfl) rfl ?_
        refine r_goto (tgt := 152) (dcx dX10_lawTells_c2 3 rfl) (by decide) ?_
        exact s_ret rfl rfl rfl hyp (dcx dX10_lawTells_c2 5 rfl)
    · have hyp := hyp.2 q_
      refine r_aload_n (dcx dX10_lawTells_c0 37 rfl) 0 rfl ?_
      refine r_aload_n (dcx dX10_lawTells_c0 38 rfl) 0 rfl ?_
      refine s_getr (b := 312) fX10_101 (dcx dX10_lawTells_c0 39 rfl) F284_42 ?_
      refine r_iload (dcx dX10_lawTells_c1 0 rfl) 2 rfl ?_
      obtain ⟨hb_, hyp⟩ := hyp
      refine s_iald (dcx dX10_lawTells_c1 1 rfl) A312 hb_ ?_
      refine r_aload_n (dcx dX10_lawTells_c1 2 rfl) 0 rfl ?_
      refine s_getr (b := 313) fX10_104 (dcx dX10_lawTells_c1 3 rfl) F284_43 ?_
      refine r_iload (dcx dX10_lawTells_c1 4 rfl) 2 rfl ?_
      obtain ⟨hb_, hyp⟩ := hyp
      refine s_iald (dcx dX10_lawTells_c1 5 rfl) A313 hb_ ?_
      refine s_callV (as := [.int (σ.1 312 (Int32.toNatClampNeg x4)), .int (σ.1 313 (Int32.toNatClampNeg x4))]) (st := []) zX10_termOf kX10_lawTells_360 (dcx dX10_lawTells_c1 6 rfl) rfl rfl (Nat.le_of_ble_eq_true rfl) O284 rfl rfl (C2.mono hyp ?_)
      rintro _ s3_ ⟨r4_, rfl, hyp⟩
      show G2 Γ l mX10_lawTells 78 [(0, .ref 284), (3, .int x3), (4, .int x4)] [.int r4_] s3_ K
      refine r_istore (lv1 := [(5, .int r4_), (0, .ref 284), (3, .int x3), (4, .int x4)]) (dcx dX10_lawTells_c1 7 rfl) (Nat.le_of_ble_eq_true rfl) rfl ?_
      refine r_aload_n (dcx dX10_lawTells_c1 8 rfl) 1 rfl ?_
      refine r_aload_n (dcx dX10_lawTells_c1 9 rfl) 1 rfl ?_
      refine s_getr (b := 313) fX10_104 (dcx dX10_lawTells_c1 10 rfl) F284_43 ?_
      refine r_iload (dcx dX10_lawTells_c1 11 rfl) 3 rfl ?_
      obtain ⟨hb_, hyp⟩ := hyp
      refine s_iald (dcx dX10_lawTells_c1 12 rfl) A313 hb_ ?_
      refine r_aload_n (dcx dX10_lawTells_c1 13 rfl) 1 rfl ?_
      refine s_getr (b := 314) fX10_107 (dcx dX10_lawTells_c1 14 rfl) F284_44 ?_
      refine r_iload (dcx dX10_lawTells_c1 15 rfl) 3 rfl ?_
      obtain ⟨hb_, hyp⟩ := hyp
      refine s_iald (dcx dX10_lawTells_c1 16 rfl) A314 hb_ ?_
      refine s_callV (as := [.int (s3_.1 313 (Int32.toNatClampNeg x4)), .int (s3_.1 314 (Int32.toNatClampNeg x4))]) (st := []) zX10_termOf kX10_lawTells_360 (dcx dX10_lawTells_c1 17 rfl) rfl rfl (Nat.le_of_ble_eq_true rfl) O284 rfl rfl (C2.mono hyp ?_)
      rintro _ s5_ ⟨r6_, rfl, hyp⟩
      show G2 Γ l mX10_lawTells 98 [(5, .int r4_), (0, .ref 284), (3, .int x3), (4, .int x4)] [.int r6_] s5_ K
      refine r_istore (lv1 := [(6, .int r6_), (5, .int r4_), (0, .ref 284), (3, .int x3), (4, .int x4)]) (dcx dX10_lawTells_c1 18 rfl) (Nat.le_of_ble_eq_true rfl) rfl ?_
      refine r_aload_n (dcx dX10_lawTells_c1 19 rfl) 2 rfl ?_
      refine s_geti fX10_335 (dcx dX10_lawTells_c1 20 rfl) F284_53 ?_
      refine r_if_eq (tgt := 109) (dcx dX10_lawTells_c1 21 rfl) (by decide) (fun q_ => ?_) (fun q_ => ?_)
      · have hyp := hyp.1 q_
        refine r_iload (dcx dX10_lawTells_c1 24 rfl) 1 rfl ?_
        refine r_iload (dcx dX10_lawTells_c1 25 rfl) 0 rfl ?_
        refine r_icmp_lt (tgt := 119) (dcx dX10_lawTells_c1 26 rfl) (by decide) (fun q_ => ?_) (fun q_ => ?_)
        · have hyp := hyp.1 q_
          refine r_aload_n (dcx dX10_lawTells_c1 28 rfl) 2 rfl ?_
          refine r_aload_n (dcx dX10_lawTells_c1 29 rfl) 2 rfl ?_
          refine s_getr (b := 314) fX10_107 (dcx dX10_lawTells_c1 30 rfl) F284_44 ?_
          refine r_iload (dcx dX10_lawTells_c1 31 rfl) 4 rfl ?_
          obtain ⟨hb_, hyp⟩ := hyp
          refine s_iald (dcx dX10_lawTells_c1 32 rfl) A314 hb_ ?_
          refine r_aload_n (dcx dX10_lawTells_c1 33 rfl) 2 rfl ?_
          refine s_getr (b := 315) fX10_110 (dcx dX10_lawTells_c1 34 rfl) F284_45 ?_
          refine r_iload (dcx dX10_lawTells_c1 35 rfl) 4 rfl ?_
          obtain ⟨hb_, hyp⟩ := hyp
          refine s_iald (dcx dX10_lawTells_c1 36 rfl) A315 hb_ ?_
          refine s_callV (as := [.int (s5_.1 314 (Int32.toNatClampNeg x4)), .int (s5_.1 315 (Int32.toNatClampNeg x4))]) (st := []) zX10_termOf kX10_lawTells_360 (dcx dX10_lawTells_c1 37 rfl) rfl rfl (Nat.le_of_ble_eq_true rfl) O284 rfl rfl (C2.mono hyp ?_)
          rintro _ s7_ ⟨r8_, rfl, hyp⟩
          show G2 Γ l mX10_lawTells 137 [(6, .int r6_), (5, .int r4_), (0, .ref 284), (3, .int x3), (4, .int x4)] [.int r8_] s7_ K
          refine r_istore (lv1 := [(5, .int r8_), (6, .int r6_), (0, .ref 284), (3, .int x3), (4, .int x4)]) (dcx dX10_lawTells_c1 38 rfl) (Nat.le_of_ble_eq_true rfl) rfl ?_
          refine r_aload_n (dcx dX10_lawTells_c1 39 rfl) 2 rfl ?_
          refine s_geti fX10_335 (dcx dX10_lawTells_c2 0 rfl) F284_53 ?_
          refine r_if_eq (tgt := 150) (dcx dX10_lawTells_c2 1 rfl) (by decide) (fun q_ => ?_) (fun q_ => ?_)
          · have hyp := hyp.1 q_
            refine r_iload (dcx dX10_lawTells_c2 4 rfl) 0 rfl ?_
            exact s_ret rfl rfl rfl hyp (dcx dX10_lawTells_c2 5 rfl)
          · have hyp := hyp.2 q_
            refine r_iconst (v := 0) (dcx dX10_lawTells_c2 2 rfl) rfl ?_
            refine r_goto (tgt := 152) (dcx dX10_lawTells_c2 3 rfl) (by decide) ?_
            exact s_ret rfl rfl rfl hyp (dcx dX10_lawTells_c2 5 rfl)
        · have hyp := hyp.2 q_
          refine r_goto (tgt := 153) (dcx dX10_lawTells_c1 27 rfl) (by decide) ?_
          refine r_iinc (lv1 := [(4, .int (x4 + 1)), (6, .int r6_), (5, .int r4_), (0, .ref 284), (3, .int x3)]) (dcx dX10_lawTells_c2 6 rfl) 4 rfl (Nat.le_of_ble_eq_true rfl) rfl ?_
          refine r_goto (tgt := 39) (dcx dX10_lawTells_c2 7 rfl) (by decide) ?_
          refine r_loc (lv1 := [(0, .ref 284), (3, .int x3), (4, .int (x4 + 1))]) [3, 4, 0] rfl ?_
          exact hyp
      · have hyp := hyp.2 q_
        refine r_iconst (v := 0) (dcx dX10_lawTells_c1 22 rfl) rfl ?_
        exact s_ret rfl rfl rfl hyp (dcx dX10_lawTells_c1 23 rfl)
set_option maxHeartbeats 4000000 in
set_option maxRecDepth 20000 in
theorem tX10_growsBy {Γ : GE} {l : Launch} {x1 : Int32} {x2 : Int32} {x3 : Int32} {σ : SS} {K : Option Value → SS → Prop}  (hyp : C2 Γ l mX10_looksAtCell [.ref 284, .int x1, .int x2] σ (Rv fun s1_ => (vp_in 3 9 ∧ (∀ s3_ : SS, s3_ = sI s1_ 319 (Int32.toNatClampNeg 3) x3 → (C2 Γ l mX10_tallAt [.ref 284, .int (x1 - 1), .int x2] s3_ (Ri fun r5_ s4_ => (C2 Γ l mX10_tallAt [.ref 284, .int (x1 + 1), .int x2] s4_ (Ri fun r7_ s6_ => (C2 Γ l mX10_most [.int r5_, .int r7_] s6_ (Ri fun r9_ s8_ => (C2 Γ l mX10_tallAt [.ref 284, .int x1, .int (x2 - 1)] s8_ (Ri fun r11_ s10_ => (C2 Γ l mX10_tallAt [.ref 284, .int x1, .int (x2 + 1)] s10_ (Ri fun r13_ s12_ => (C2 Γ l mX10_most [.int r11_, .int r13_] s12_ (Ri fun r15_ s14_ => (C2 Γ l mX10_most [.int r9_, .int r15_] s14_ (Ri fun r17_ s16_ => (vp_in 7 9 ∧ (∀ s18_ : SS, s18_ = sI s16_ 319 (Int32.toNatClampNeg 7) r17_ → (vp_in 1 9 ∧ (C2 Γ l mX10_lawTells [.ref 284, .int 0, .int (s18_.1 319 (Int32.toNatClampNeg 1))] s18_ (Ri fun r20_ s19_ => (C2 Γ l mX10_held [.int r20_, .int ((-9)), .int 9] s19_ (Ri fun r22_ s21_ => (K (some (.int r22_)) s21_)))))))))))))))))))))))))) : C2 Γ l mX10_growsBy [.ref 284, .int x1, .int x2, .int x3] σ K := by
  refine c2_of (lv := [(0, .ref 284), (1, .int x1), (2, .int x2), (3, .int x3)]) (by decide) (Nat.le_of_ble_eq_true rfl) rfl ?_
  refine r_aload_n (dcx dX10_growsBy_c0 0 rfl) 0 rfl ?_
  refine r_iload_n (dcx dX10_growsBy_c0 1 rfl) 1 rfl ?_
  refine r_iload_n (dcx dX10_growsBy_c0 2 rfl) 2 rfl ?_
  refine s_callV (as := [.int x1, .int x2]) (st := []) zX10_looksAtCell kX10_growsBy_363 (dcx dX10_growsBy_c0 3 rfl) rfl rfl (Nat.le_of_ble_eq_true rfl) O284 rfl rfl (C2.mono hyp ?_)
  rintro _ s1_ ⟨rfl, hyp⟩
  show G2 Γ l mX10_growsBy 6 [(0, .ref 284), (1, .int x1), (2, .int x2), (3, .int x3)] [] s1_ K
  refine r_aload_n (dcx dX10_growsBy_c0 4 rfl) 0 rfl ?_
  refine s_getr (b := 319) fX10_122 (dcx dX10_growsBy_c0 5 rfl) F284_51 ?_
  refine r_iconst (v := 3) (dcx dX10_growsBy_c0 6 rfl) rfl ?_
  refine r_iload_n (dcx dX10_growsBy_c0 7 rfl) 3 rfl ?_
  obtain ⟨hb_, hyp⟩ := hyp
  refine s_iast (dcx dX10_growsBy_c0 8 rfl) A319 hb_ ?_
  obtain ⟨s3_, es3_⟩ : ∃ z : SS, z = sI s1_ 319 (Int32.toNatClampNeg 3) x3 := ⟨_, rfl⟩
  rw [← es3_]
  have hyp := hyp s3_ es3_
  refine r_aload_n (dcx dX10_growsBy_c0 9 rfl) 0 rfl ?_
  refine s_getr (b := 319) fX10_122 (dcx dX10_growsBy_c0 10 rfl) F284_51 ?_
  refine r_bipush (v := 7) (dcx dX10_growsBy_c0 11 rfl) rfl ?_
  refine r_aload_n (dcx dX10_growsBy_c0 12 rfl) 0 rfl ?_
  refine r_iload_n (dcx dX10_growsBy_c0 13 rfl) 1 rfl ?_
  refine r_iconst (v := 1) (dcx dX10_growsBy_c0 14 rfl) rfl ?_
  refine r_isub (dcx dX10_growsBy_c0 15 rfl) ?_
  refine r_iload_n (dcx dX10_growsBy_c0 16 rfl) 2 rfl ?_
  refine s_callV (as := [.int (x1 - 1), .int x2]) (st := [.int 7, .ref 319]) zX10_tallAt kX10_growsBy_366 (dcx dX10_growsBy_c0 17 rfl) rfl rfl (Nat.le_of_ble_eq_true rfl) O284 rfl rfl (C2.mono hyp ?_)
  rintro _ s4_ ⟨r5_, rfl, hyp⟩
  show G2 Γ l mX10_growsBy 27 [(0, .ref 284), (1, .int x1), (2, .int x2), (3, .int x3)] [.int r5_, .int 7, .ref 319] s4_ K
  refine r_aload_n (dcx dX10_growsBy_c0 18 rfl) 0 rfl ?_
  refine r_iload_n (dcx dX10_growsBy_c0 19 rfl) 1 rfl ?_
  refine r_iconst (v := 1) (dcx dX10_growsBy_c0 20 rfl) rfl ?_
  refine r_iadd (dcx dX10_growsBy_c0 21 rfl) ?_
  refine r_iload_n (dcx dX10_growsBy_c0 22 rfl) 2 rfl ?_
  refine s_callV (as := [.int (x1 + 1), .int x2]) (st := [.int r5_, .int 7, .ref 319]) zX10_tallAt kX10_growsBy_366 (dcx dX10_growsBy_c0 23 rfl) rfl rfl (Nat.le_of_ble_eq_true rfl) O284 rfl rfl (C2.mono hyp ?_)
  rintro _ s6_ ⟨r7_, rfl, hyp⟩
  show G2 Γ l mX10_growsBy 35 [(0, .ref 284), (1, .int x1), (2, .int x2), (3, .int x3)] [.int r7_, .int r5_, .int 7, .ref 319] s6_ K
  refine s_callS (as := [.int r5_, .int r7_]) (st := [.int 7, .ref 319]) zX10_most kX10_growsBy_369 (dcx dX10_growsBy_c0 24 rfl) rfl rfl (Nat.le_of_ble_eq_true rfl) (C2.mono hyp ?_)
  rintro _ s8_ ⟨r9_, rfl, hyp⟩
  show G2 Γ l mX10_growsBy 38 [(0, .ref 284), (1, .int x1), (2, .int x2), (3, .int x3)] [.int r9_, .int 7, .ref 319] s8_ K
  refine r_aload_n (dcx dX10_growsBy_c0 25 rfl) 0 rfl ?_
  refine r_iload_n (dcx dX10_growsBy_c0 26 rfl) 1 rfl ?_
  refine r_iload_n (dcx dX10_growsBy_c0 27 rfl) 2 rfl ?_
  refine r_iconst (v := 1) (dcx dX10_growsBy_c0 28 rfl) rfl ?_
  refine r_isub (dcx dX10_growsBy_c0 29 rfl) ?_
  refine s_callV (as := [.int x1, .int (x2 - 1)]) (st := [.int r9_, .int 7, .ref 319]) zX10_tallAt kX10_growsBy_366 (dcx dX10_growsBy_c0 30 rfl) rfl rfl (Nat.le_of_ble_eq_true rfl) O284 rfl rfl (C2.mono hyp ?_)
  rintro _ s10_ ⟨r11_, rfl, hyp⟩
  show G2 Γ l mX10_growsBy 46 [(0, .ref 284), (1, .int x1), (2, .int x2), (3, .int x3)] [.int r11_, .int r9_, .int 7, .ref 319] s10_ K
  refine r_aload_n (dcx dX10_growsBy_c0 31 rfl) 0 rfl ?_
  refine r_iload_n (dcx dX10_growsBy_c0 32 rfl) 1 rfl ?_
  refine r_iload_n (dcx dX10_growsBy_c0 33 rfl) 2 rfl ?_
  refine r_iconst (v := 1) (dcx dX10_growsBy_c0 34 rfl) rfl ?_
  refine r_iadd (dcx dX10_growsBy_c0 35 rfl) ?_
  refine s_callV (as := [.int x1, .int (x2 + 1)]) (st := [.int r11_, .int r9_, .int 7, .ref 319]) zX10_tallAt kX10_growsBy_366 (dcx dX10_growsBy_c0 36 rfl) rfl rfl (Nat.le_of_ble_eq_true rfl) O284 rfl rfl (C2.mono hyp ?_)
  rintro _ s12_ ⟨r13_, rfl, hyp⟩
  show G2 Γ l mX10_growsBy 54 [(0, .ref 284), (1, .int x1), (2, .int x2), (3, .int x3)] [.int r13_, .int r11_, .int r9_, .int 7, .ref 319] s12_ K
  refine s_callS (as := [.int r11_, .int r13_]) (st := [.int r9_, .int 7, .ref 319]) zX10_most kX10_growsBy_369 (dcx dX10_growsBy_c0 37 rfl) rfl rfl (Nat.le_of_ble_eq_true rfl) (C2.mono hyp ?_)
  rintro _ s14_ ⟨r15_, rfl, hyp⟩
  show G2 Γ l mX10_growsBy 57 [(0, .ref 284), (1, .int x1), (2, .int x2), (3, .int x3)] [.int r15_, .int r9_, .int 7, .ref 319] s14_ K
  refine s_callS (as := [.int r9_, .int r15_]) (st := [.int 7, .ref 319]) zX10_most kX10_growsBy_369 (dcx dX10_growsBy_c0 38 rfl) rfl rfl (Nat.le_of_ble_eq_true rfl) (C2.mono hyp ?_)
  rintro _ s16_ ⟨r17_, rfl, hyp⟩
  show G2 Γ l mX10_growsBy 60 [(0, .ref 284), (1, .int x1), (2, .int x2), (3, .int x3)] [.int r17_, .int 7, .ref 319] s16_ K
  obtain ⟨hb_, hyp⟩ := hyp
  refine s_iast (dcx dX10_growsBy_c0 39 rfl) A319 hb_ ?_
  obtain ⟨s18_, es18_⟩ : ∃ z : SS, z = sI s16_ 319 (Int32.toNatClampNeg 7) r17_ := ⟨_, rfl⟩
  rw [← es18_]
  have hyp := hyp s18_ es18_
  refine r_aload_n (dcx dX10_growsBy_c1 0 rfl) 0 rfl ?_
  refine r_iconst (v := 0) (dcx dX10_growsBy_c1 1 rfl) rfl ?_
  refine r_aload_n (dcx dX10_growsBy_c1 2 rfl) 0 rfl ?_
  refine s_getr (b := 319) fX10_122 (dcx dX10_growsBy_c1 3 rfl) F284_51 ?_
  refine r_iconst (v := 1) (dcx dX10_growsBy_c1 4 rfl) rfl ?_
  obtain ⟨hb_, hyp⟩ := hyp
  refine s_iald (dcx dX10_growsBy_c1 5 rfl) A319 hb_ ?_
  refine s_callV (as := [.int 0, .int (s18_.1 319 (Int32.toNatClampNeg 1))]) (st := []) zX10_lawTells kX10_growsBy_372 (dcx dX10_growsBy_c1 6 rfl) rfl rfl (Nat.le_of_ble_eq_true rfl) O284 rfl rfl (C2.mono hyp ?_)
  rintro _ s19_ ⟨r20_, rfl, hyp⟩
  show G2 Γ l mX10_growsBy 72 [(0, .ref 284), (1, .int x1), (2, .int x2), (3, .int x3)] [.int r20_] s19_ K
  refine r_bipush (v := (-9)) (dcx dX10_growsBy_c1 7 rfl) rfl ?_
  refine r_bipush (v := 9) (dcx dX10_growsBy_c1 8 rfl) rfl ?_
  refine s_callS (as := [.int r20_, .int ((-9)), .int 9]) (st := []) zX10_held kX10_growsBy_375 (dcx dX10_growsBy_c1 9 rfl) rfl rfl (Nat.le_of_ble_eq_true rfl) (C2.mono hyp ?_)
  rintro _ s21_ ⟨r22_, rfl, hyp⟩
  show G2 Γ l mX10_growsBy 79 [(0, .ref 284), (1, .int x1), (2, .int x2), (3, .int x3)] [.int r22_] s21_ K
  exact s_ret rfl rfl rfl hyp (dcx dX10_growsBy_c1 10 rfl)
set_option maxHeartbeats 4000000 in
set_option maxRecDepth 20000 in
theorem tX10_feedsBy {Γ : GE} {l : Launch} {x1 : Int32} {x2 : Int32} {σ : SS} {K : Option Value → SS → Prop}  (hyp : C2 Γ l mX10_looksAtCell [.ref 284, .int x1, .int x2] σ (Rv fun s1_ => (C2 Γ l mX10_lawTells [.ref 284, .int 1, .int 2] s1_ (Ri fun r4_ s3_ => (C2 Γ l mX10_held [.int r4_, .int 0, .int 9] s3_ (Ri fun r6_ s5_ => (K (some (.int r6_)) s5_))))))) : C2 Γ l mX10_feedsBy [.ref 284, .int x1, .int x2] σ K := by
  refine c2_of (lv := [(0, .ref 284), (1, .int x1), (2, .int x2)]) (by decide) (Nat.le_of_ble_eq_true rfl) rfl ?_
  refine r_aload_n (dcx dX10_feedsBy_c0 0 rfl) 0 rfl ?_
  refine r_iload_n (dcx dX10_feedsBy_c0 1 rfl) 1 rfl ?_
  refine r_iload_n (dcx dX10_feedsBy_c0 2 rfl) 2 rfl ?_
  refine s_callV (as := [.int x1, .int x2]) (st := []) zX10_looksAtCell kX10_feedsBy_363 (dcx dX10_feedsBy_c0 3 rfl) rfl rfl (Nat.le_of_ble_eq_true rfl) O284 rfl rfl (C2.mono hyp ?_)
  rintro _ s1_ ⟨rfl, hyp⟩
  show G2 Γ l mX10_feedsBy 6 [(0, .ref 284), (1, .int x1), (2, .int x2)] [] s1_ K
  refine r_aload_n (dcx dX10_feedsBy_c0 4 rfl) 0 rfl ?_
  refine r_iconst (v := 1) (dcx dX10_feedsBy_c0 5 rfl) rfl ?_
  refine r_iconst (v := 2) (dcx dX10_feedsBy_c0 6 rfl) rfl ?_
  refine s_callV (as := [.int 1, .int 2]) (st := []) zX10_lawTells kX10_feedsBy_372 (dcx dX10_feedsBy_c0 7 rfl) rfl rfl (Nat.le_of_ble_eq_true rfl) O284 rfl rfl (C2.mono hyp ?_)
  rintro _ s3_ ⟨r4_, rfl, hyp⟩
  show G2 Γ l mX10_feedsBy 12 [(0, .ref 284), (1, .int x1), (2, .int x2)] [.int r4_] s3_ K
  refine r_iconst (v := 0) (dcx dX10_feedsBy_c0 8 rfl) rfl ?_
  refine r_bipush (v := 9) (dcx dX10_feedsBy_c0 9 rfl) rfl ?_
  refine s_callS (as := [.int r4_, .int 0, .int 9]) (st := []) zX10_held kX10_feedsBy_375 (dcx dX10_feedsBy_c0 10 rfl) rfl rfl (Nat.le_of_ble_eq_true rfl) (C2.mono hyp ?_)
  rintro _ s5_ ⟨r6_, rfl, hyp⟩
  show G2 Γ l mX10_feedsBy 18 [(0, .ref 284), (1, .int x1), (2, .int x2)] [.int r6_] s5_ K
  exact s_ret rfl rfl rfl hyp (dcx dX10_feedsBy_c0 11 rfl)
def wX10_crosses_4 (Γ : GE) (l : Launch) (x1 : Int32) (x2 : Int32) (x3 : Int32) (σ : SS) (K : Option Value → SS → Prop) : Prop := G2 Γ l mX10_crosses 4 [(0, .ref 284), (1, .int x1), (2, .int x2), (3, .int x3)] [] σ K
set_option maxHeartbeats 4000000 in
set_option maxRecDepth 20000 in
theorem tX10_crosses {Γ : GE} {l : Launch} {x1 : Int32} {σ : SS} {K : Option Value → SS → Prop}  (hyp : wX10_crosses_4 Γ l x1 0 0 σ K) : C2 Γ l mX10_crosses [.ref 284, .int x1] σ K := by
  refine c2_of (lv := [(0, .ref 284), (1, .int x1)]) (by decide) (Nat.le_of_ble_eq_true rfl) rfl ?_
  refine r_iconst (v := 0) (dcx dX10_crosses_c0 0 rfl) rfl ?_
  refine r_istore_n (lv1 := [(2, .int 0), (0, .ref 284), (1, .int x1)]) (dcx dX10_crosses_c0 1 rfl) (Nat.le_of_ble_eq_true rfl) rfl ?_
  refine r_iconst (v := 0) (dcx dX10_crosses_c0 2 rfl) rfl ?_
  refine r_istore_n (lv1 := [(3, .int 0), (2, .int 0), (0, .ref 284), (1, .int x1)]) (dcx dX10_crosses_c0 3 rfl) (Nat.le_of_ble_eq_true rfl) rfl ?_
  refine r_loc (lv1 := [(0, .ref 284), (1, .int x1), (2, .int 0), (3, .int 0)]) [2, 3, 1, 0] rfl ?_
  exact hyp
set_option maxHeartbeats 4000000 in
set_option maxRecDepth 20000 in
theorem tX10_crosses_4 {Γ : GE} {l : Launch} {x1 : Int32} {x2 : Int32} {x3 : Int32} {σ : SS} {K : Option Value → SS → Prop}  (hyp : ((9 : Int32) ≤ x3 → (K (some (.int x2)) σ)) ∧ (¬ ((9 : Int32) ≤ x3) → (vp_in ((9 * ((4 * (σ.1 284 18)) + x1)) + x3) 72 ∧ (((σ.1 298 (Int32.toNatClampNeg ((9 * ((4 * (σ.1 284 18)) + x1)) + x3))) = 0 → (wX10_crosses_4 Γ l x1 x2 (x3 + 1) σ K)) ∧ (¬ ((σ.1 298 (Int32.toNatClampNeg ((9 * ((4 * (σ.1 284 18)) + x1)) + x3))) = 0) → (wX10_crosses_4 Γ l x1 (x2 + 1) (x3 + 1) σ K)))))) : wX10_crosses_4 Γ l x1 x2 x3 σ K := by
  show G2 Γ l mX10_crosses 4 [(0, .ref 284), (1, .int x1), (2, .int x2), (3, .int x3)] [] σ K
  refine r_iload_n (dcx dX10_crosses_c0 4 rfl) 3 rfl ?_
  refine r_bipush (v := 9) (dcx dX10_crosses_c0 5 rfl) rfl ?_
  refine r_icmp_ge (tgt := 40) (dcx dX10_crosses_c0 6 rfl) (by decide) (fun q_ => ?_) (fun q_ => ?_)
  · have hyp := hyp.1 q_
    refine r_iload_n (dcx dX10_crosses_c0 24 rfl) 2 rfl ?_
    exact s_ret rfl rfl rfl hyp (dcx dX10_crosses_c0 25 rfl)
  · have hyp := hyp.2 q_
    refine r_aload_n (dcx dX10_crosses_c0 7 rfl) 0 rfl ?_
    refine s_getr (b := 298) fX10_58 (dcx dX10_crosses_c0 8 rfl) F284_27 ?_
    refine r_bipush (v := 9) (dcx dX10_crosses_c0 9 rfl) rfl ?_
    refine r_iconst (v := 4) (dcx dX10_crosses_c0 10 rfl) rfl ?_
    refine r_aload_n (dcx dX10_crosses_c0 11 rfl) 0 rfl ?_
    refine s_geti fX10_245 (dcx dX10_crosses_c0 12 rfl) F284_18 ?_
    refine r_imul (dcx dX10_crosses_c0 13 rfl) ?_
    refine r_iload_n (dcx dX10_crosses_c0 14 rfl) 1 rfl ?_
    refine r_iadd (dcx dX10_crosses_c0 15 rfl) ?_
    refine r_imul (dcx dX10_crosses_c0 16 rfl) ?_
    refine r_iload_n (dcx dX10_crosses_c0 17 rfl) 3 rfl ?_
    refine r_iadd (dcx dX10_crosses_c0 18 rfl) ?_
    obtain ⟨hb_, hyp⟩ := hyp
    refine s_zald (dcx dX10_crosses_c0 19 rfl) A298 hb_ ?_
    refine r_if_eq (tgt := 34) (dcx dX10_crosses_c0 20 rfl) (by decide) (fun q_ => ?_) (fun q_ => ?_)
    · have hyp := hyp.1 q_
      refine r_iinc (lv1 := [(3, .int (x3 + 1)), (0, .ref 284), (1, .int x1), (2, .int x2)]) (dcx dX10_crosses_c0 22 rfl) 3 rfl (Nat.le_of_ble_eq_true rfl) rfl ?_
      refine r_goto (tgt := 4) (dcx dX10_crosses_c0 23 rfl) (by decide) ?_
      refine r_loc (lv1 := [(0, .ref 284), (1, .int x1), (2, .int x2), (3, .int (x3 + 1))]) [1, 2, 3, 0] rfl ?_
      exact hyp
    · have hyp := hyp.2 q_
      refine r_iinc (lv1 := [(2, .int (x2 + 1)), (0, .ref 284), (1, .int x1), (3, .int x3)]) (dcx dX10_crosses_c0 21 rfl) 2 rfl (Nat.le_of_ble_eq_true rfl) rfl ?_
      refine r_iinc (lv1 := [(3, .int (x3 + 1)), (2, .int (x2 + 1)), (0, .ref 284), (1, .int x1)]) (dcx dX10_crosses_c0 22 rfl) 3 rfl (Nat.le_of_ble_eq_true rfl) rfl ?_
      refine r_goto (tgt := 4) (dcx dX10_crosses_c0 23 rfl) (by decide) ?_
      refine r_loc (lv1 := [(0, .ref 284), (1, .int x1), (2, .int (x2 + 1)), (3, .int (x3 + 1))]) [2, 3, 1, 0] rfl ?_
      exact hyp
set_option maxHeartbeats 4000000 in
set_option maxRecDepth 20000 in
theorem tX10_finesBy {Γ : GE} {l : Launch} {x1 : Int32} {x2 : Int32} {x3 : Int32} {σ : SS} {K : Option Value → SS → Prop}  (hyp : C2 Γ l mX10_looks [.ref 284, .int x2, .int x3] σ (Rv fun s1_ => (C2 Γ l mX10_crosses [.ref 284, .int x1] s1_ (Ri fun r4_ s3_ => (vp_in 8 9 ∧ (∀ s5_ : SS, s5_ = sI s3_ 319 (Int32.toNatClampNeg 8) r4_ → (vp_in 8 9 ∧ (C2 Γ l mX10_lawTells [.ref 284, .int 2, .int (s5_.1 319 (Int32.toNatClampNeg 8))] s5_ (Ri fun r7_ s6_ => (C2 Γ l mX10_held [.int r7_, .int 0, .int 99] s6_ (Ri fun r9_ s8_ => (K (some (.int r9_)) s8_)))))))))))) : C2 Γ l mX10_finesBy [.ref 284, .int x1, .int x2, .int x3] σ K := by
  refine c2_of (lv := [(0, .ref 284), (1, .int x1), (2, .int x2), (3, .int x3)]) (by decide) (Nat.le_of_ble_eq_true rfl) rfl ?_
  refine r_aload_n (dcx dX10_finesBy_c0 0 rfl) 0 rfl ?_
  refine r_iload_n (dcx dX10_finesBy_c0 1 rfl) 2 rfl ?_
  refine r_iload_n (dcx dX10_finesBy_c0 2 rfl) 3 rfl ?_
  refine s_callV (as := [.int x2, .int x3]) (st := []) zX10_looks kX10_finesBy_357 (dcx dX10_finesBy_c0 3 rfl) rfl rfl (Nat.le_of_ble_eq_true rfl) O284 rfl rfl (C2.mono hyp ?_)
  rintro _ s1_ ⟨rfl, hyp⟩
  show G2 Γ l mX10_finesBy 6 [(0, .ref 284), (1, .int x1), (2, .int x2), (3, .int x3)] [] s1_ K
  refine r_aload_n (dcx dX10_finesBy_c0 4 rfl) 0 rfl ?_
  refine s_getr (b := 319) fX10_122 (dcx dX10_finesBy_c0 5 rfl) F284_51 ?_
  refine r_bipush (v := 8) (dcx dX10_finesBy_c0 6 rfl) rfl ?_
  refine r_aload_n (dcx dX10_finesBy_c0 7 rfl) 0 rfl ?_
  refine r_iload_n (dcx dX10_finesBy_c0 8 rfl) 1 rfl ?_
  refine s_callV (as := [.int x1]) (st := [.int 8, .ref 319]) zX10_crosses kX10_finesBy_378 (dcx dX10_finesBy_c0 9 rfl) rfl rfl (Nat.le_of_ble_eq_true rfl) O284 rfl rfl (C2.mono hyp ?_)
  rintro _ s3_ ⟨r4_, rfl, hyp⟩
  show G2 Γ l mX10_finesBy 17 [(0, .ref 284), (1, .int x1), (2, .int x2), (3, .int x3)] [.int r4_, .int 8, .ref 319] s3_ K
  obtain ⟨hb_, hyp⟩ := hyp
  refine s_iast (dcx dX10_finesBy_c0 10 rfl) A319 hb_ ?_
  obtain ⟨s5_, es5_⟩ : ∃ z : SS, z = sI s3_ 319 (Int32.toNatClampNeg 8) r4_ := ⟨_, rfl⟩
  rw [← es5_]
  have hyp := hyp s5_ es5_
  refine r_aload_n (dcx dX10_finesBy_c0 11 rfl) 0 rfl ?_
  refine r_iconst (v := 2) (dcx dX10_finesBy_c0 12 rfl) rfl ?_
  refine r_aload_n (dcx dX10_finesBy_c0 13 rfl) 0 rfl ?_
  refine s_getr (b := 319) fX10_122 (dcx dX10_finesBy_c0 14 rfl) F284_51 ?_
  refine r_bipush (v := 8) (dcx dX10_finesBy_c0 15 rfl) rfl ?_
  obtain ⟨hb_, hyp⟩ := hyp
  refine s_iald (dcx dX10_finesBy_c0 16 rfl) A319 hb_ ?_
  refine s_callV (as := [.int 2, .int (s5_.1 319 (Int32.toNatClampNeg 8))]) (st := []) zX10_lawTells kX10_finesBy_372 (dcx dX10_finesBy_c0 17 rfl) rfl rfl (Nat.le_of_ble_eq_true rfl) O284 rfl rfl (C2.mono hyp ?_)
  rintro _ s6_ ⟨r7_, rfl, hyp⟩
  show G2 Γ l mX10_finesBy 30 [(0, .ref 284), (1, .int x1), (2, .int x2), (3, .int x3)] [.int r7_] s6_ K
  refine r_iconst (v := 0) (dcx dX10_finesBy_c0 18 rfl) rfl ?_
  refine r_bipush (v := 99) (dcx dX10_finesBy_c0 19 rfl) rfl ?_
  refine s_callS (as := [.int r7_, .int 0, .int 99]) (st := []) zX10_held kX10_finesBy_375 (dcx dX10_finesBy_c0 20 rfl) rfl rfl (Nat.le_of_ble_eq_true rfl) (C2.mono hyp ?_)
  rintro _ s8_ ⟨r9_, rfl, hyp⟩
  show G2 Γ l mX10_finesBy 36 [(0, .ref 284), (1, .int x1), (2, .int x2), (3, .int x3)] [.int r9_] s8_ K
  exact s_ret rfl rfl rfl hyp (dcx dX10_finesBy_c0 21 rfl)
def wX10_leastLeft_8 (Γ : GE) (l : Launch) (x1 : Int32) (x2 : Int32) (x3 : Int32) (x4 : Int32) (x5 : Int32) (σ : SS) (K : Option Value → SS → Prop) : Prop := G2 Γ l mX10_leastLeft 8 [(0, .ref 284), (1, .int x1), (2, .int x2), (3, .int x3), (4, .int x4), (5, .int x5)] [] σ K
set_option maxHeartbeats 4000000 in
set_option maxRecDepth 20000 in
theorem tX10_leastLeft {Γ : GE} {l : Launch} {x1 : Int32} {x2 : Int32} {x3 : Int32} {σ : SS} {K : Option Value → SS → Prop}  (hyp : wX10_leastLeft_8 Γ l x1 x2 x3 999 0 σ K) : C2 Γ l mX10_leastLeft [.ref 284, .int x1, .int x2, .int x3] σ K := by
  refine c2_of (lv := [(0, .ref 284), (1, .int x1), (2, .int x2), (3, .int x3)]) (by decide) (Nat.le_of_ble_eq_true rfl) rfl ?_
  refine r_sipush (v := 999) (dcx dX10_leastLeft_c0 0 rfl) rfl ?_
  refine r_istore (lv1 := [(4, .int 999), (0, .ref 284), (1, .int x1), (2, .int x2), (3, .int x3)]) (dcx dX10_leastLeft_c0 1 rfl) (Nat.le_of_ble_eq_true rfl) rfl ?_
  refine r_iconst (v := 0) (dcx dX10_leastLeft_c0 2 rfl) rfl ?_
  refine r_istore (lv1 := [(5, .int 0), (4, .int 999), (0, .ref 284), (1, .int x1), (2, .int x2), (3, .int x3)]) (dcx dX10_leastLeft_c0 3 rfl) (Nat.le_of_ble_eq_true rfl) rfl ?_
  refine r_loc (lv1 := [(0, .ref 284), (1, .int x1), (2, .int x2), (3, .int x3), (4, .int 999), (5, .int 0)]) [2, 3, 4, 5, 1, 0] rfl ?_
  exact hyp
set_option maxHeartbeats 4000000 in
set_option maxRecDepth 20000 in
theorem tX10_leastLeft_8 {Γ : GE} {l : Launch} {x1 : Int32} {x2 : Int32} {x3 : Int32} {x4 : Int32} {x5 : Int32} {σ : SS} {K : Option Value → SS → Prop}  (hyp : ((9 : Int32) ≤ x5 → (K (some (.int x4)) σ)) ∧ (¬ ((9 : Int32) ≤ x5) → (vp_in ((9 * ((4 * (σ.1 284 18)) + x1)) + x5) 72 ∧ ((¬ (σ.1 298 (Int32.toNatClampNeg ((9 * ((4 * (σ.1 284 18)) + x1)) + x5))) = 0 → (wX10_leastLeft_8 Γ l x1 x2 x3 x4 (x5 + 1) σ K)) ∧ ((σ.1 298 (Int32.toNatClampNeg ((9 * ((4 * (σ.1 284 18)) + x1)) + x5))) = 0 → (vp_in (((8 * (x3 + (x5 / 3))) + x2) + (x5 - x5 / 3 * 3)) 106 ∧ ((x4 ≤ (σ.1 322 (Int32.toNatClampNeg (((8 * (x3 + (x5 / 3))) + x2) + (x5 - x5 / 3 * 3)))) → (wX10_leastLeft_8 Γ l x1 x2 x3 x4 (x5 + 1) σ K)) ∧ (¬ (x4 ≤ (σ.1 322 (Int32.toNatClampNeg (((8 * (x3 + (x5 / 3))) + x2) + (x5 - x5 / 3 * 3))))) → (vp_in (((8 * (x3 + (x5 / 3))) + x2) + (x5 - x5 / 3 * 3)) 106 ∧ (∀ v1_ : Int32, v1_ = σ.1 322 (Int32.toNatClampNeg (((8 * (x3 + (x5 / 3))) + x2) + (x5 - x5 / 3 * 3))) → (wX10_leastLeft_8 Γ l x1 x2 x3 v1_ (x5 + 1) σ K))))))))))) : wX10_leastLeft_8 Γ l x1 x2 x3 x4 x5 σ K := by
  show G2 Γ l mX10_leastLeft 8 [(0, .ref 284), (1, .int x1), (2, .int x2), (3, .int x3), (4, .int x4), (5, .int x5)] [] σ K
  refine r_iload (dcx dX10_leastLeft_c0 4 rfl) 5 rfl ?_
  refine r_bipush (v := 9) (dcx dX10_leastLeft_c0 5 rfl) rfl ?_
  refine r_icmp_ge (tgt := 92) (dcx dX10_leastLeft_c0 6 rfl) (by decide) (fun q_ => ?_) (fun q_ => ?_)
  · have hyp := hyp.1 q_
    refine r_iload (dcx dX10_leastLeft_c1 18 rfl) 4 rfl ?_
    exact s_ret rfl rfl rfl hyp (dcx dX10_leastLeft_c1 19 rfl)
  · have hyp := hyp.2 q_
    refine r_aload_n (dcx dX10_leastLeft_c0 7 rfl) 0 rfl ?_
    refine s_getr (b := 298) fX10_58 (dcx dX10_leastLeft_c0 8 rfl) F284_27 ?_
    refine r_bipush (v := 9) (dcx dX10_leastLeft_c0 9 rfl) rfl ?_
    refine r_iconst (v := 4) (dcx dX10_leastLeft_c0 10 rfl) rfl ?_
    refine r_aload_n (dcx dX10_leastLeft_c0 11 rfl) 0 rfl ?_
    refine s_geti fX10_245 (dcx dX10_leastLeft_c0 12 rfl) F284_18 ?_
    refine r_imul (dcx dX10_leastLeft_c0 13 rfl) ?_
    refine r_iload_n (dcx dX10_leastLeft_c0 14 rfl) 1 rfl ?_
    refine r_iadd (dcx dX10_leastLeft_c0 15 rfl) ?_
    refine r_imul (dcx dX10_leastLeft_c0 16 rfl) ?_
    refine r_iload (dcx dX10_leastLeft_c0 17 rfl) 5 rfl ?_
    refine r_iadd (dcx dX10_leastLeft_c0 18 rfl) ?_
    obtain ⟨hb_, hyp⟩ := hyp
    refine s_zald (dcx dX10_leastLeft_c0 19 rfl) A298 hb_ ?_
    refine r_if_ne (tgt := 86) (dcx dX10_leastLeft_c0 20 rfl) (by decide) (fun q_ => ?_) (fun q_ => ?_)
    · have hyp := hyp.1 q_
      refine r_iinc (lv1 := [(5, .int (x5 + 1)), (0, .ref 284), (1, .int x1), (2, .int x2), (3, .int x3), (4, .int x4)]) (dcx dX10_leastLeft_c1 16 rfl) 5 rfl (Nat.le_of_ble_eq_true rfl) rfl ?_
      refine r_goto (tgt := 8) (dcx dX10_leastLeft_c1 17 rfl) (by decide) ?_
      refine r_loc (lv1 := [(0, .ref 284), (1, .int x1), (2, .int x2), (3, .int x3), (4, .int x4), (5, .int (x5 + 1))]) [1, 2, 3, 4, 5, 0] rfl ?_
      exact hyp
    · have hyp := hyp.2 q_
      refine r_aload_n (dcx dX10_leastLeft_c0 21 rfl) 0 rfl ?_
      refine s_getr (b := 322) fX10_131 (dcx dX10_leastLeft_c0 22 rfl) F284_55 ?_
      refine r_bipush (v := 8) (dcx dX10_leastLeft_c0 23 rfl) rfl ?_
      refine r_iload_n (dcx dX10_leastLeft_c0 24 rfl) 3 rfl ?_
      refine r_iload (dcx dX10_leastLeft_c0 25 rfl) 5 rfl ?_
      refine r_iconst (v := 3) (dcx dX10_leastLeft_c0 26 rfl) rfl ?_
      refine r_idiv (dcx dX10_leastLeft_c0 27 rfl) (by decide) ?_
      refine r_iadd (dcx dX10_leastLeft_c0 28 rfl) ?_
      refine r_imul (dcx dX10_leastLeft_c0 29 rfl) ?_
      refine r_iload_n (dcx dX10_leastLeft_c0 30 rfl) 2 rfl ?_
      refine r_iadd (dcx dX10_leastLeft_c0 31 rfl) ?_
      refine r_iload (dcx dX10_leastLeft_c0 32 rfl) 5 rfl ?_
      refine r_iconst (v := 3) (dcx dX10_leastLeft_c0 33 rfl) rfl ?_
      refine r_irem (dcx dX10_leastLeft_c0 34 rfl) (by decide) ?_
      refine r_iadd (dcx dX10_leastLeft_c0 35 rfl) ?_
      obtain ⟨hb_, hyp⟩ := hyp
      refine s_iald (dcx dX10_leastLeft_c0 36 rfl) A322 hb_ ?_
      refine r_iload (dcx dX10_leastLeft_c0 37 rfl) 4 rfl ?_
      refine r_icmp_ge (tgt := 86) (dcx dX10_leastLeft_c0 38 rfl) (by decide) (fun q_ => ?_) (fun q_ => ?_)
      · have hyp := hyp.1 q_
        refine r_iinc (lv1 := [(5, .int (x5 + 1)), (0, .ref 284), (1, .int x1), (2, .int x2), (3, .int x3), (4, .int x4)]) (dcx dX10_leastLeft_c1 16 rfl) 5 rfl (Nat.le_of_ble_eq_true rfl) rfl ?_
        refine r_goto (tgt := 8) (dcx dX10_leastLeft_c1 17 rfl) (by decide) ?_
        refine r_loc (lv1 := [(0, .ref 284), (1, .int x1), (2, .int x2), (3, .int x3), (4, .int x4), (5, .int (x5 + 1))]) [1, 2, 3, 4, 5, 0] rfl ?_
        exact hyp
      · have hyp := hyp.2 q_
        refine r_aload_n (dcx dX10_leastLeft_c0 39 rfl) 0 rfl ?_
        refine s_getr (b := 322) fX10_131 (dcx dX10_leastLeft_c1 0 rfl) F284_55 ?_
        refine r_bipush (v := 8) (dcx dX10_leastLeft_c1 1 rfl) rfl ?_
        refine r_iload_n (dcx dX10_leastLeft_c1 2 rfl) 3 rfl ?_
        refine r_iload (dcx dX10_leastLeft_c1 3 rfl) 5 rfl ?_
        refine r_iconst (v := 3) (dcx dX10_leastLeft_c1 4 rfl) rfl ?_
        refine r_idiv (dcx dX10_leastLeft_c1 5 rfl) (by decide) ?_
        refine r_iadd (dcx dX10_leastLeft_c1 6 rfl) ?_
        refine r_imul (dcx dX10_leastLeft_c1 7 rfl) ?_
        refine r_iload_n (dcx dX10_leastLeft_c1 8 rfl) 2 rfl ?_
        refine r_iadd (dcx dX10_leastLeft_c1 9 rfl) ?_
        refine r_iload (dcx dX10_leastLeft_c1 10 rfl) 5 rfl ?_
        refine r_iconst (v := 3) (dcx dX10_leastLeft_c1 11 rfl) rfl ?_
        refine r_irem (dcx dX10_leastLeft_c1 12 rfl) (by decide) ?_
        refine r_iadd (dcx dX10_leastLeft_c1 13 rfl) ?_
        obtain ⟨hb_, hyp⟩ := hyp
        refine s_iald (dcx dX10_leastLeft_c1 14 rfl) A322 hb_ ?_
        obtain ⟨v1_, ev1_⟩ : ∃ z : Int32, z = σ.1 322 (Int32.toNatClampNeg (((8 * (x3 + (x5 / 3))) + x2) + (x5 - x5 / 3 * 3))) := ⟨_, rfl⟩
        rw [← ev1_]
        have hyp := hyp v1_ ev1_
        refine r_istore (lv1 := [(4, .int v1_), (0, .ref 284), (1, .int x1), (2, .int x2), (3, .int x3), (5, .int x5)]) (dcx dX10_leastLeft_c1 15 rfl) (Nat.le_of_ble_eq_true rfl) rfl ?_
        refine r_iinc (lv1 := [(5, .int (x5 + 1)), (4, .int v1_), (0, .ref 284), (1, .int x1), (2, .int x2), (3, .int x3)]) (dcx dX10_leastLeft_c1 16 rfl) 5 rfl (Nat.le_of_ble_eq_true rfl) rfl ?_
        refine r_goto (tgt := 8) (dcx dX10_leastLeft_c1 17 rfl) (by decide) ?_
        refine r_loc (lv1 := [(0, .ref 284), (1, .int x1), (2, .int x2), (3, .int x3), (4, .int v1_), (5, .int (x5 + 1))]) [2, 3, 4, 5, 1, 0] rfl ?_
        exact hyp
def wX10_mostCut_6 (Γ : GE) (l : Launch) (x1 : Int32) (x2 : Int32) (x3 : Int32) (x4 : Int32) (x5 : Int32) (σ : SS) (K : Option Value → SS → Prop) : Prop := G2 Γ l mX10_mostCut 6 [(0, .ref 284), (1, .int x1), (2, .int x2), (3, .int x3), (4, .int x4), (5, .int x5)] [] σ K
set_option maxHeartbeats 4000000 in
set_option maxRecDepth 20000 in
theorem tX10_mostCut {Γ : GE} {l : Launch} {x1 : Int32} {x2 : Int32} {x3 : Int32} {σ : SS} {K : Option Value → SS → Prop}  (hyp : wX10_mostCut_6 Γ l x1 x2 x3 0 0 σ K) : C2 Γ l mX10_mostCut [.ref 284, .int x1, .int x2, .int x3] σ K := by
  refine c2_of (lv := [(0, .ref 284), (1, .int x1), (2, .int x2), (3, .int x3)]) (by decide) (Nat.le_of_ble_eq_true rfl) rfl ?_
  refine r_iconst (v := 0) (dcx dX10_mostCut_c0 0 rfl) rfl ?_
  refine r_istore (lv1 := [(4, .int 0), (0, .ref 284), (1, .int x1), (2, .int x2), (3, .int x3)]) (dcx dX10_mostCut_c0 1 rfl) (Nat.le_of_ble_eq_true rfl) rfl ?_
  refine r_iconst (v := 0) (dcx dX10_mostCut_c0 2 rfl) rfl ?_
  refine r_istore (lv1 := [(5, .int 0), (4, .int 0), (0, .ref 284), (1, .int x1), (2, .int x2), (3, .int x3)]) (dcx dX10_mostCut_c0 3 rfl) (Nat.le_of_ble_eq_true rfl) rfl ?_
  refine r_loc (lv1 := [(0, .ref 284), (1, .int x1), (2, .int x2), (3, .int x3), (4, .int 0), (5, .int 0)]) [2, 3, 4, 5, 1, 0] rfl ?_
  exact hyp
set_option maxHeartbeats 4000000 in
set_option maxRecDepth 20000 in
theorem tX10_mostCut_6 {Γ : GE} {l : Launch} {x1 : Int32} {x2 : Int32} {x3 : Int32} {x4 : Int32} {x5 : Int32} {σ : SS} {K : Option Value → SS → Prop}  (hyp : ((9 : Int32) ≤ x5 → (K (some (.int x4)) σ)) ∧ (¬ ((9 : Int32) ≤ x5) → (vp_in ((9 * ((4 * (σ.1 284 18)) + x1)) + x5) 72 ∧ (((σ.1 298 (Int32.toNatClampNeg ((9 * ((4 * (σ.1 284 18)) + x1)) + x5))) = 0 → (wX10_mostCut_6 Γ l x1 x2 x3 x4 (x5 + 1) σ K)) ∧ (¬ ((σ.1 298 (Int32.toNatClampNeg ((9 * ((4 * (σ.1 284 18)) + x1)) + x5))) = 0) → (vp_in (((8 * (x3 + (x5 / 3))) + x2) + (x5 - x5 / 3 * 3)) 106 ∧ (C2 Γ l mX10_most [.int x4, .int (σ.1 322 (Int32.toNatClampNeg (((8 * (x3 + (x5 / 3))) + x2) + (x5 - x5 / 3 * 3))))] σ (Ri fun r2_ s1_ => (wX10_mostCut_6 Γ l x1 x2 x3 r2_ (x5 + 1) s1_ K))))))))) : wX10_mostCut_6 Γ l x1 x2 x3 x4 x5 σ K := by
  show G2 Γ l mX10_mostCut 6 [(0, .ref 284), (1, .int x1), (2, .int x2), (3, .int x3), (4, .int x4), (5, .int x5)] [] σ K
  refine r_iload (dcx dX10_mostCut_c0 4 rfl) 5 rfl ?_
  refine r_bipush (v := 9) (dcx dX10_mostCut_c0 5 rfl) rfl ?_
  refine r_icmp_ge (tgt := 69) (dcx dX10_mostCut_c0 6 rfl) (by decide) (fun q_ => ?_) (fun q_ => ?_)
  · have hyp := hyp.1 q_
    refine r_iload (dcx dX10_mostCut_c1 2 rfl) 4 rfl ?_
    exact s_ret rfl rfl rfl hyp (dcx dX10_mostCut_c1 3 rfl)
  · have hyp := hyp.2 q_
    refine r_aload_n (dcx dX10_mostCut_c0 7 rfl) 0 rfl ?_
    refine s_getr (b := 298) fX10_58 (dcx dX10_mostCut_c0 8 rfl) F284_27 ?_
    refine r_bipush (v := 9) (dcx dX10_mostCut_c0 9 rfl) rfl ?_
    refine r_iconst (v := 4) (dcx dX10_mostCut_c0 10 rfl) rfl ?_
    refine r_aload_n (dcx dX10_mostCut_c0 11 rfl) 0 rfl ?_
    refine s_geti fX10_245 (dcx dX10_mostCut_c0 12 rfl) F284_18 ?_
    refine r_imul (dcx dX10_mostCut_c0 13 rfl) ?_
    refine r_iload_n (dcx dX10_mostCut_c0 14 rfl) 1 rfl ?_
    refine r_iadd (dcx dX10_mostCut_c0 15 rfl) ?_
    refine r_imul (dcx dX10_mostCut_c0 16 rfl) ?_
    refine r_iload (dcx dX10_mostCut_c0 17 rfl) 5 rfl ?_
    refine r_iadd (dcx dX10_mostCut_c0 18 rfl) ?_
    obtain ⟨hb_, hyp⟩ := hyp
    refine s_zald (dcx dX10_mostCut_c0 19 rfl) A298 hb_ ?_
    refine r_if_eq (tgt := 63) (dcx dX10_mostCut_c0 20 rfl) (by decide) (fun q_ => ?_) (fun q_ => ?_)
    · have hyp := hyp.1 q_
      refine r_iinc (lv1 := [(5, .int (x5 + 1)), (0, .ref 284), (1, .int x1), (2, .int x2), (3, .int x3), (4, .int x4)]) (dcx dX10_mostCut_c1 0 rfl) 5 rfl (Nat.le_of_ble_eq_true rfl) rfl ?_
      refine r_goto (tgt := 6) (dcx dX10_mostCut_c1 1 rfl) (by decide) ?_
      refine r_loc (lv1 := [(0, .ref 284), (1, .int x1), (2, .int x2), (3, .int x3), (4, .int x4), (5, .int (x5 + 1))]) [1, 2, 3, 4, 5, 0] rfl ?_
      exact hyp
    · have hyp := hyp.2 q_
      refine r_iload (dcx dX10_mostCut_c0 21 rfl) 4 rfl ?_
      refine r_aload_n (dcx dX10_mostCut_c0 22 rfl) 0 rfl ?_
      refine s_getr (b := 322) fX10_131 (dcx dX10_mostCut_c0 23 rfl) F284_55 ?_
      refine r_bipush (v := 8) (dcx dX10_mostCut_c0 24 rfl) rfl ?_
      refine r_iload_n (dcx dX10_mostCut_c0 25 rfl) 3 rfl ?_
      refine r_iload (dcx dX10_mostCut_c0 26 rfl) 5 rfl ?_
      refine r_iconst (v := 3) (dcx dX10_mostCut_c0 27 rfl) rfl ?_
      refine r_idiv (dcx dX10_mostCut_c0 28 rfl) (by decide) ?_
      refine r_iadd (dcx dX10_mostCut_c0 29 rfl) ?_
      refine r_imul (dcx dX10_mostCut_c0 30 rfl) ?_
      refine r_iload_n (dcx dX10_mostCut_c0 31 rfl) 2 rfl ?_
      refine r_iadd (dcx dX10_mostCut_c0 32 rfl) ?_
      refine r_iload (dcx dX10_mostCut_c0 33 rfl) 5 rfl ?_
      refine r_iconst (v := 3) (dcx dX10_mostCut_c0 34 rfl) rfl ?_
      refine r_irem (dcx dX10_mostCut_c0 35 rfl) (by decide) ?_
      refine r_iadd (dcx dX10_mostCut_c0 36 rfl) ?_
      obtain ⟨hb_, hyp⟩ := hyp
      refine s_iald (dcx dX10_mostCut_c0 37 rfl) A322 hb_ ?_
      refine s_callS (as := [.int x4, .int (σ.1 322 (Int32.toNatClampNeg (((8 * (x3 + (x5 / 3))) + x2) + (x5 - x5 / 3 * 3))))]) (st := []) zX10_most kX10_mostCut_369 (dcx dX10_mostCut_c0 38 rfl) rfl rfl (Nat.le_of_ble_eq_true rfl) (C2.mono hyp ?_)
      rintro _ s1_ ⟨r2_, rfl, hyp⟩
      show G2 Γ l mX10_mostCut 61 [(0, .ref 284), (1, .int x1), (2, .int x2), (3, .int x3), (4, .int x4), (5, .int x5)] [.int r2_] s1_ K
      refine r_istore (lv1 := [(4, .int r2_), (0, .ref 284), (1, .int x1), (2, .int x2), (3, .int x3), (5, .int x5)]) (dcx dX10_mostCut_c0 39 rfl) (Nat.le_of_ble_eq_true rfl) rfl ?_
      refine r_iinc (lv1 := [(5, .int (x5 + 1)), (4, .int r2_), (0, .ref 284), (1, .int x1), (2, .int x2), (3, .int x3)]) (dcx dX10_mostCut_c1 0 rfl) 5 rfl (Nat.le_of_ble_eq_true rfl) rfl ?_
      refine r_goto (tgt := 6) (dcx dX10_mostCut_c1 1 rfl) (by decide) ?_
      refine r_loc (lv1 := [(0, .ref 284), (1, .int x1), (2, .int x2), (3, .int x3), (4, .int r2_), (5, .int (x5 + 1))]) [2, 3, 4, 5, 1, 0] rfl ?_
      exact hyp
set_option maxHeartbeats 4000000 in
set_option maxRecDepth 20000 in
theorem tX10_isPlain {Γ : GE} {l : Launch} {x1 : Int32} {σ : SS} {K : Option Value → SS → Prop}  (hyp : C2 Γ l mX10_crosses [.ref 284, .int x1] σ (Ri fun r2_ s1_ => ((r2_ = 0 → (K (some (.int 1)) s1_)) ∧ (¬ (r2_ = 0) → (C2 Γ l mX10_crosses [.ref 284, .int x1] s1_ (Ri fun r4_ s3_ => ((¬ r4_ = 9 → (K (some (.int 0)) s3_)) ∧ (r4_ = 9 → (K (some (.int 1)) s3_))))))))) : C2 Γ l mX10_isPlain [.ref 284, .int x1] σ K := by
  refine c2_of (lv := [(0, .ref 284), (1, .int x1)]) (by decide) (Nat.le_of_ble_eq_true rfl) rfl ?_
  refine r_aload_n (dcx dX10_isPlain_c0 0 rfl) 0 rfl ?_
  refine r_iload_n (dcx dX10_isPlain_c0 1 rfl) 1 rfl ?_
  refine s_callV (as := [.int x1]) (st := []) zX10_crosses kX10_isPlain_378 (dcx dX10_isPlain_c0 2 rfl) rfl rfl (Nat.le_of_ble_eq_true rfl) O284 rfl rfl (C2.mono hyp ?_)
  rintro _ s1_ ⟨r2_, rfl, hyp⟩
  show G2 Γ l mX10_isPlain 5 [(0, .ref 284), (1, .int x1)] [.int r2_] s1_ K
  refine r_if_eq (tgt := 18) (dcx dX10_isPlain_c0 3 rfl) (by decide) (fun q_ => ?_) (fun q_ => ?_)
  · have hyp := hyp.1 q_
    refine r_iconst (v := 1) (dcx dX10_isPlain_c0 9 rfl) rfl ?_
    refine r_goto (tgt := 23) (dcx dX10_isPlain_c0 10 rfl) (by decide) ?_
    exact s_ret rfl rfl rfl hyp (dcx dX10_isPlain_c0 12 rfl)
  · have hyp := hyp.2 q_
    refine r_aload_n (dcx dX10_isPlain_c0 4 rfl) 0 rfl ?_
    refine r_iload_n (dcx dX10_isPlain_c0 5 rfl) 1 rfl ?_
    refine s_callV (as := [.int x1]) (st := []) zX10_crosses kX10_isPlain_378 (dcx dX10_isPlain_c0 6 rfl) rfl rfl (Nat.le_of_ble_eq_true rfl) O284 rfl rfl (C2.mono hyp ?_)
    rintro _ s3_ ⟨r4_, rfl, hyp⟩
    show G2 Γ l mX10_isPlain 13 [(0, .ref 284), (1, .int x1)] [.int r4_] s3_ K
    refine r_bipush (v := 9) (dcx dX10_isPlain_c0 7 rfl) rfl ?_
    refine r_icmp_ne (tgt := 22) (dcx dX10_isPlain_c0 8 rfl) (by decide) (fun q_ => ?_) (fun q_ => ?_)
    · have hyp := hyp.1 q_
      refine r_iconst (v := 0) (dcx dX10_isPlain_c0 11 rfl) rfl ?_
      exact s_ret rfl rfl rfl hyp (dcx dX10_isPlain_c0 12 rfl)
    · have hyp := hyp.2 q_
      refine r_iconst (v := 1) (dcx dX10_isPlain_c0 9 rfl) rfl ?_
      refine r_goto (tgt := 23) (dcx dX10_isPlain_c0 10 rfl) (by decide) ?_
      exact s_ret rfl rfl rfl hyp (dcx dX10_isPlain_c0 12 rfl)
set_option maxHeartbeats 4000000 in
set_option maxRecDepth 20000 in
theorem tX10_standsOut {Γ : GE} {l : Launch} {x1 : Int32} {x2 : Int32} {x3 : Int32} {σ : SS} {K : Option Value → SS → Prop}  (hyp : C2 Γ l mX10_isPlain [.ref 284, .int x1] σ (Ri fun r2_ s1_ => ((r2_ = 0 → (C2 Γ l mX10_leastLeft [.ref 284, .int x1, .int x2, .int x3] s1_ (Ri fun r4_ s3_ => (C2 Γ l mX10_mostCut [.ref 284, .int x1, .int x2, .int x3] s3_ (Ri fun r6_ s5_ => (K (some (.int (r4_ - r6_))) s5_)))))) ∧ (¬ (r2_ = 0) → (K (some (.int ((-1000)))) s1_))))) : C2 Γ l mX10_standsOut [.ref 284, .int x1, .int x2, .int x3] σ K := by
  refine c2_of (lv := [(0, .ref 284), (1, .int x1), (2, .int x2), (3, .int x3)]) (by decide) (Nat.le_of_ble_eq_true rfl) rfl ?_
  refine r_aload_n (dcx dX10_standsOut_c0 0 rfl) 0 rfl ?_
  refine r_iload_n (dcx dX10_standsOut_c0 1 rfl) 1 rfl ?_
  refine s_callV (as := [.int x1]) (st := []) zX10_isPlain kX10_standsOut_381 (dcx dX10_standsOut_c0 2 rfl) rfl rfl (Nat.le_of_ble_eq_true rfl) O284 rfl rfl (C2.mono hyp ?_)
  rintro _ s1_ ⟨r2_, rfl, hyp⟩
  show G2 Γ l mX10_standsOut 5 [(0, .ref 284), (1, .int x1), (2, .int x2), (3, .int x3)] [.int r2_] s1_ K
  refine r_if_eq (tgt := 14) (dcx dX10_standsOut_c0 3 rfl) (by decide) (fun q_ => ?_) (fun q_ => ?_)
  · have hyp := hyp.1 q_
    refine r_aload_n (dcx dX10_standsOut_c0 6 rfl) 0 rfl ?_
    refine r_iload_n (dcx dX10_standsOut_c0 7 rfl) 1 rfl ?_
    refine r_iload_n (dcx dX10_standsOut_c0 8 rfl) 2 rfl ?_
    refine r_iload_n (dcx dX10_standsOut_c0 9 rfl) 3 rfl ?_
    refine s_callV (as := [.int x1, .int x2, .int x3]) (st := []) zX10_leastLeft kX10_standsOut_384 (dcx dX10_standsOut_c0 10 rfl) rfl rfl (Nat.le_of_ble_eq_true rfl) O284 rfl rfl (C2.mono hyp ?_)
    rintro _ s3_ ⟨r4_, rfl, hyp⟩
    show G2 Γ l mX10_standsOut 21 [(0, .ref 284), (1, .int x1), (2, .int x2), (3, .int x3)] [.int r4_] s3_ K
    refine r_aload_n (dcx dX10_standsOut_c0 11 rfl) 0 rfl ?_
    refine r_iload_n (dcx dX10_standsOut_c0 12 rfl) 1 rfl ?_
    refine r_iload_n (dcx dX10_standsOut_c0 13 rfl) 2 rfl ?_
    refine r_iload_n (dcx dX10_standsOut_c0 14 rfl) 3 rfl ?_
    refine s_callV (as := [.int x1, .int x2, .int x3]) (st := [.int r4_]) zX10_mostCut kX10_standsOut_387 (dcx dX10_standsOut_c0 15 rfl) rfl rfl (Nat.le_of_ble_eq_true rfl) O284 rfl rfl (C2.mono hyp ?_)
    rintro _ s5_ ⟨r6_, rfl, hyp⟩
    show G2 Γ l mX10_standsOut 28 [(0, .ref 284), (1, .int x1), (2, .int x2), (3, .int x3)] [.int r6_, .int r4_] s5_ K
    refine r_isub (dcx dX10_standsOut_c0 16 rfl) ?_
    exact s_ret rfl rfl rfl hyp (dcx dX10_standsOut_c0 17 rfl)
  · have hyp := hyp.2 q_
    refine r_sipush (v := (-1000)) (dcx dX10_standsOut_c0 4 rfl) rfl ?_
    refine r_goto (tgt := 29) (dcx dX10_standsOut_c0 5 rfl) (by decide) ?_
    exact s_ret rfl rfl rfl hyp (dcx dX10_standsOut_c0 17 rfl)
set_option maxHeartbeats 4000000 in
set_option maxRecDepth 20000 in
theorem tX10_sees {Γ : GE} {l : Launch} {x1 : Int32} {x2 : Int32} {σ : SS} {K : Option Value → SS → Prop}  (hyp : vp_in ((4 * (σ.1 284 18)) + x1) 8 ∧ ((x2 < (σ.1 300 (Int32.toNatClampNeg ((4 * (σ.1 284 18)) + x1))) → (K (some (.int 0)) σ)) ∧ (¬ (x2 < (σ.1 300 (Int32.toNatClampNeg ((4 * (σ.1 284 18)) + x1)))) → (vp_in ((4 * (σ.1 284 18)) + x1) 8 ∧ (((σ.1 301 (Int32.toNatClampNeg ((4 * (σ.1 284 18)) + x1))) < (x2 + 2) → (K (some (.int 0)) σ)) ∧ (¬ ((σ.1 301 (Int32.toNatClampNeg ((4 * (σ.1 284 18)) + x1))) < (x2 + 2)) → (K (some (.int 1)) σ))))))) : C2 Γ l mX10_sees [.ref 284, .int x1, .int x2] σ K := by
  refine c2_of (lv := [(0, .ref 284), (1, .int x1), (2, .int x2)]) (by decide) (Nat.le_of_ble_eq_true rfl) rfl ?_
  refine r_aload_n (dcx dX10_sees_c0 0 rfl) 0 rfl ?_
  refine s_getr (b := 300) fX10_65 (dcx dX10_sees_c0 1 rfl) F284_29 ?_
  refine r_iconst (v := 4) (dcx dX10_sees_c0 2 rfl) rfl ?_
  refine r_aload_n (dcx dX10_sees_c0 3 rfl) 0 rfl ?_
  refine s_geti fX10_245 (dcx dX10_sees_c0 4 rfl) F284_18 ?_
  refine r_imul (dcx dX10_sees_c0 5 rfl) ?_
  refine r_iload_n (dcx dX10_sees_c0 6 rfl) 1 rfl ?_
  refine r_iadd (dcx dX10_sees_c0 7 rfl) ?_
  obtain ⟨hb_, hyp⟩ := hyp
  refine s_iald (dcx dX10_sees_c0 8 rfl) A300 hb_ ?_
  refine r_iload_n (dcx dX10_sees_c0 9 rfl) 2 rfl ?_
  refine r_icmp_gt (tgt := 40) (dcx dX10_sees_c0 10 rfl) (by decide) (fun q_ => ?_) (fun q_ => ?_)
  · have hyp := hyp.1 q_
    refine r_iconst (v := 0) (dcx dX10_sees_c0 26 rfl) rfl ?_
    exact s_ret rfl rfl rfl hyp (dcx dX10_sees_c0 27 rfl)
  · have hyp := hyp.2 q_
    refine r_iload_n (dcx dX10_sees_c0 11 rfl) 2 rfl ?_
    refine r_iconst (v := 2) (dcx dX10_sees_c0 12 rfl) rfl ?_
    refine r_iadd (dcx dX10_sees_c0 13 rfl) ?_
    refine r_aload_n (dcx dX10_sees_c0 14 rfl) 0 rfl ?_
    refine s_getr (b := 301) fX10_68 (dcx dX10_sees_c0 15 rfl) F284_30 ?_
    refine r_iconst (v := 4) (dcx dX10_sees_c0 16 rfl) rfl ?_
    refine r_aload_n (dcx dX10_sees_c0 17 rfl) 0 rfl ?_
    refine s_geti fX10_245 (dcx dX10_sees_c0 18 rfl) F284_18 ?_
    refine r_imul (dcx dX10_sees_c0 19 rfl) ?_
    refine r_iload_n (dcx dX10_sees_c0 20 rfl) 1 rfl ?_
    refine r_iadd (dcx dX10_sees_c0 21 rfl) ?_
    obtain ⟨hb_, hyp⟩ := hyp
    refine s_iald (dcx dX10_sees_c0 22 rfl) A301 hb_ ?_
    refine r_icmp_gt (tgt := 40) (dcx dX10_sees_c0 23 rfl) (by decide) (fun q_ => ?_) (fun q_ => ?_)
    · have hyp := hyp.1 q_
      refine r_iconst (v := 0) (dcx dX10_sees_c0 26 rfl) rfl ?_
      exact s_ret rfl rfl rfl hyp (dcx dX10_sees_c0 27 rfl)
    · have hyp := hyp.2 q_
      refine r_iconst (v := 1) (dcx dX10_sees_c0 24 rfl) rfl ?_
      refine r_goto (tgt := 41) (dcx dX10_sees_c0 25 rfl) (by decide) ?_
      exact s_ret rfl rfl rfl hyp (dcx dX10_sees_c0 27 rfl)
set_option maxHeartbeats 4000000 in
set_option maxRecDepth 20000 in
theorem tX10_doesRead {Γ : GE} {l : Launch} {x1 : Int32} {x2 : Int32} {x3 : Int32} {x4 : Int32} {σ : SS} {K : Option Value → SS → Prop}  (hyp : C2 Γ l mX10_isPlain [.ref 284, .int x2] σ (Ri fun r2_ s1_ => ((¬ r2_ = 0 → (K (some (.int 0)) s1_)) ∧ (r2_ = 0 → (C2 Γ l mX10_sees [.ref 284, .int x1, .int x3] s1_ (Ri fun r4_ s3_ => ((r4_ = 0 → (K (some (.int 0)) s3_)) ∧ (¬ (r4_ = 0) → (C2 Γ l mX10_standsOut [.ref 284, .int x2, .int x3, .int x4] s3_ (Ri fun r6_ s5_ => (vp_in ((4 * (s5_.1 284 18)) + x1) 8 ∧ ((r6_ < (s5_.1 302 (Int32.toNatClampNeg ((4 * (s5_.1 284 18)) + x1))) → (K (some (.int 0)) s5_)) ∧ (¬ (r6_ < (s5_.1 302 (Int32.toNatClampNeg ((4 * (s5_.1 284 18)) + x1)))) → (K (some (.int 1)) s5_)))))))))))))) : C2 Γ l mX10_doesRead [.ref 284, .int x1, .int x2, .int x3, .int x4] σ K := by
  refine c2_of (lv := [(0, .ref 284), (1, .int x1), (2, .int x2), (3, .int x3), (4, .int x4)]) (by decide) (Nat.le_of_ble_eq_true rfl) rfl ?_
  refine r_aload_n (dcx dX10_doesRead_c0 0 rfl) 0 rfl ?_
  refine r_iload_n (dcx dX10_doesRead_c0 1 rfl) 2 rfl ?_
  refine s_callV (as := [.int x2]) (st := []) zX10_isPlain kX10_doesRead_381 (dcx dX10_doesRead_c0 2 rfl) rfl rfl (Nat.le_of_ble_eq_true rfl) O284 rfl rfl (C2.mono hyp ?_)
  rintro _ s1_ ⟨r2_, rfl, hyp⟩
  show G2 Γ l mX10_doesRead 5 [(0, .ref 284), (1, .int x1), (2, .int x2), (3, .int x3), (4, .int x4)] [.int r2_] s1_ K
  refine r_if_ne (tgt := 45) (dcx dX10_doesRead_c0 3 rfl) (by decide) (fun q_ => ?_) (fun q_ => ?_)
  · have hyp := hyp.1 q_
    refine r_iconst (v := 0) (dcx dX10_doesRead_c0 26 rfl) rfl ?_
    exact s_ret rfl rfl rfl hyp (dcx dX10_doesRead_c0 27 rfl)
  · have hyp := hyp.2 q_
    refine r_aload_n (dcx dX10_doesRead_c0 4 rfl) 0 rfl ?_
    refine r_iload_n (dcx dX10_doesRead_c0 5 rfl) 1 rfl ?_
    refine r_iload_n (dcx dX10_doesRead_c0 6 rfl) 3 rfl ?_
    refine s_callV (as := [.int x1, .int x3]) (st := []) zX10_sees kX10_doesRead_390 (dcx dX10_doesRead_c0 7 rfl) rfl rfl (Nat.le_of_ble_eq_true rfl) O284 rfl rfl (C2.mono hyp ?_)
    rintro _ s3_ ⟨r4_, rfl, hyp⟩
    show G2 Γ l mX10_doesRead 14 [(0, .ref 284), (1, .int x1), (2, .int x2), (3, .int x3), (4, .int x4)] [.int r4_] s3_ K
    refine r_if_eq (tgt := 45) (dcx dX10_doesRead_c0 8 rfl) (by decide) (fun q_ => ?_) (fun q_ => ?_)
    · have hyp := hyp.1 q_
      refine r_iconst (v := 0) (dcx dX10_doesRead_c0 26 rfl) rfl ?_
      exact s_ret rfl rfl rfl hyp (dcx dX10_doesRead_c0 27 rfl)
    · have hyp := hyp.2 q_
      refine r_aload_n (dcx dX10_doesRead_c0 9 rfl) 0 rfl ?_
      refine r_iload_n (dcx dX10_doesRead_c0 10 rfl) 2 rfl ?_
      refine r_iload_n (dcx dX10_doesRead_c0 11 rfl) 3 rfl ?_
      refine r_iload (dcx dX10_doesRead_c0 12 rfl) 4 rfl ?_
      refine s_callV (as := [.int x2, .int x3, .int x4]) (st := []) zX10_standsOut kX10_doesRead_393 (dcx dX10_doesRead_c0 13 rfl) rfl rfl (Nat.le_of_ble_eq_true rfl) O284 rfl rfl (C2.mono hyp ?_)
      rintro _ s5_ ⟨r6_, rfl, hyp⟩
      show G2 Γ l mX10_doesRead 25 [(0, .ref 284), (1, .int x1), (2, .int x2), (3, .int x3), (4, .int x4)] [.int r6_] s5_ K
      refine r_aload_n (dcx dX10_doesRead_c0 14 rfl) 0 rfl ?_
      refine s_getr (b := 302) fX10_71 (dcx dX10_doesRead_c0 15 rfl) F284_31 ?_
      refine r_iconst (v := 4) (dcx dX10_doesRead_c0 16 rfl) rfl ?_
      refine r_aload_n (dcx dX10_doesRead_c0 17 rfl) 0 rfl ?_
      refine s_geti fX10_245 (dcx dX10_doesRead_c0 18 rfl) F284_18 ?_
      refine r_imul (dcx dX10_doesRead_c0 19 rfl) ?_
      refine r_iload_n (dcx dX10_doesRead_c0 20 rfl) 1 rfl ?_
      refine r_iadd (dcx dX10_doesRead_c0 21 rfl) ?_
      obtain ⟨hb_, hyp⟩ := hyp
      refine s_iald (dcx dX10_doesRead_c0 22 rfl) A302 hb_ ?_
      refine r_icmp_lt (tgt := 45) (dcx dX10_doesRead_c0 23 rfl) (by decide) (fun q_ => ?_) (fun q_ => ?_)
      · have hyp := hyp.1 q_
        refine r_iconst (v := 0) (dcx dX10_doesRead_c0 26 rfl) rfl ?_
        exact s_ret rfl rfl rfl hyp (dcx dX10_doesRead_c0 27 rfl)
      · have hyp := hyp.2 q_
        refine r_iconst (v := 1) (dcx dX10_doesRead_c0 24 rfl) rfl ?_
        refine r_goto (tgt := 46) (dcx dX10_doesRead_c0 25 rfl) (by decide) ?_
        exact s_ret rfl rfl rfl hyp (dcx dX10_doesRead_c0 27 rfl)
def wX10_anyReads_3 (Γ : GE) (l : Launch) (x1 : Int32) (x2 : Int32) (x3 : Int32) (x4 : Int32) (σ : SS) (K : Option Value → SS → Prop) : Prop := G2 Γ l mX10_anyReads 3 [(0, .ref 284), (1, .int x1), (2, .int x2), (3, .int x3), (4, .int x4)] [] σ K
set_option maxHeartbeats 4000000 in
set_option maxRecDepth 20000 in
theorem tX10_anyReads {Γ : GE} {l : Launch} {x1 : Int32} {x2 : Int32} {x3 : Int32} {σ : SS} {K : Option Value → SS → Prop}  (hyp : wX10_anyReads_3 Γ l x1 x2 x3 0 σ K) : C2 Γ l mX10_anyReads [.ref 284, .int x1, .int x2, .int x3] σ K := by
  refine c2_of (lv := [(0, .ref 284), (1, .int x1), (2, .int x2), (3, .int x3)]) (by decide) (Nat.le_of_ble_eq_true rfl) rfl ?_
  refine r_iconst (v := 0) (dcx dX10_anyReads_c0 0 rfl) rfl ?_
  refine r_istore (lv1 := [(4, .int 0), (0, .ref 284), (1, .int x1), (2, .int x2), (3, .int x3)]) (dcx dX10_anyReads_c0 1 rfl) (Nat.le_of_ble_eq_true rfl) rfl ?_
  refine r_loc (lv1 := [(0, .ref 284), (1, .int x1), (2, .int x2), (3, .int x3), (4, .int 0)]) [1, 2, 3, 4, 0] rfl ?_
  exact hyp
set_option maxHeartbeats 4000000 in
set_option maxRecDepth 20000 in
theorem tX10_anyReads_3 {Γ : GE} {l : Launch} {x1 : Int32} {x2 : Int32} {x3 : Int32} {x4 : Int32} {σ : SS} {K : Option Value → SS → Prop}  (hyp : vp_in (σ.1 284 18) 2 ∧ (((σ.1 299 (Int32.toNatClampNeg (σ.1 284 18))) ≤ x4 → (K (some (.int 0)) σ)) ∧ (¬ ((σ.1 299 (Int32.toNatClampNeg (σ.1 284 18))) ≤ x4) → (C2 Γ l mX10_doesRead [.ref 284, .int x4, .int x1, .int x2, .int x3] σ (Ri fun r2_ s1_ => ((r2_ = 0 → (wX10_anyReads_3 Γ l x1 x2 x3 (x4 + 1) s1_ K)) ∧ (¬ (r2_ = 0) → (K (some (.int 1)) s1_)))))))) : wX10_anyReads_3 Γ l x1 x2 x3 x4 σ K := by
  show G2 Γ l mX10_anyReads 3 [(0, .ref 284), (1, .int x1), (2, .int x2), (3, .int x3), (4, .int x4)] [] σ K
  refine r_iload (dcx dX10_anyReads_c0 2 rfl) 4 rfl ?_
  refine r_aload_n (dcx dX10_anyReads_c0 3 rfl) 0 rfl ?_
  refine s_getr (b := 299) fX10_62 (dcx dX10_anyReads_c0 4 rfl) F284_28 ?_
  refine r_aload_n (dcx dX10_anyReads_c0 5 rfl) 0 rfl ?_
  refine s_geti fX10_245 (dcx dX10_anyReads_c0 6 rfl) F284_18 ?_
  obtain ⟨hb_, hyp⟩ := hyp
  refine s_iald (dcx dX10_anyReads_c0 7 rfl) A299 hb_ ?_
  refine r_icmp_ge (tgt := 37) (dcx dX10_anyReads_c0 8 rfl) (by decide) (fun q_ => ?_) (fun q_ => ?_)
  · have hyp := hyp.1 q_
    refine r_iconst (v := 0) (dcx dX10_anyReads_c0 20 rfl) rfl ?_
    exact s_ret rfl rfl rfl hyp (dcx dX10_anyReads_c0 21 rfl)
  · have hyp := hyp.2 q_
    refine r_aload_n (dcx dX10_anyReads_c0 9 rfl) 0 rfl ?_
    refine r_iload (dcx dX10_anyReads_c0 10 rfl) 4 rfl ?_
    refine r_iload_n (dcx dX10_anyReads_c0 11 rfl) 1 rfl ?_
    refine r_iload_n (dcx dX10_anyReads_c0 12 rfl) 2 rfl ?_
    refine r_iload_n (dcx dX10_anyReads_c0 13 rfl) 3 rfl ?_
    refine s_callV (as := [.int x4, .int x1, .int x2, .int x3]) (st := []) zX10_doesRead kX10_anyReads_396 (dcx dX10_anyReads_c0 14 rfl) rfl rfl (Nat.le_of_ble_eq_true rfl) O284 rfl rfl (C2.mono hyp ?_)
    rintro _ s1_ ⟨r2_, rfl, hyp⟩
    show G2 Γ l mX10_anyReads 26 [(0, .ref 284), (1, .int x1), (2, .int x2), (3, .int x3), (4, .int x4)] [.int r2_] s1_ K
    refine r_if_eq (tgt := 31) (dcx dX10_anyReads_c0 15 rfl) (by decide) (fun q_ => ?_) (fun q_ => ?_)
    · have hyp := hyp.1 q_
      refine r_iinc (lv1 := [(4, .int (x4 + 1)), (0, .ref 284), (1, .int x1), (2, .int x2), (3, .int x3)]) (dcx dX10_anyReads_c0 18 rfl) 4 rfl (Nat.le_of_ble_eq_true rfl) rfl ?_
      refine r_goto (tgt := 3) (dcx dX10_anyReads_c0 19 rfl) (by decide) ?_
      refine r_loc (lv1 := [(0, .ref 284), (1, .int x1), (2, .int x2), (3, .int x3), (4, .int (x4 + 1))]) [1, 2, 3, 4, 0] rfl ?_
      exact hyp
    · have hyp := hyp.2 q_
      refine r_iconst (v := 1) (dcx dX10_anyReads_c0 16 rfl) rfl ?_
      exact s_ret rfl rfl rfl hyp (dcx dX10_anyReads_c0 17 rfl)
