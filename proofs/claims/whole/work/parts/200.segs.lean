set_option maxHeartbeats 4000000 in
set_option maxRecDepth 20000 in
theorem tJ6_bitCount_0f7a4 {Γ : GE} {l : Launch} {x0 : Int32} {σ : SS} {K : Option Value → SS → Prop}  (hyp : ∀ v1_ : Int32, v1_ = x0 - (((Int32.toUInt32 x0 >>> (Int32.toUInt32 1 &&& Int32.toUInt32 31)).toInt32) &&& 1431655765) → (∀ v2_ : Int32, v2_ = (v1_ &&& 858993459) + (((Int32.toUInt32 v1_ >>> (Int32.toUInt32 2 &&& Int32.toUInt32 31)).toInt32) &&& 858993459) → (∀ v3_ : Int32, v3_ = (v2_ + ((Int32.toUInt32 v2_ >>> (Int32.toUInt32 4 &&& Int32.toUInt32 31)).toInt32)) &&& 252645135 → (∀ v4_ : Int32, v4_ = v3_ + ((Int32.toUInt32 v3_ >>> (Int32.toUInt32 8 &&& Int32.toUInt32 31)).toInt32) → (∀ v5_ : Int32, v5_ = v4_ + ((Int32.toUInt32 v4_ >>> (Int32.toUInt32 16 &&& Int32.toUInt32 31)).toInt32) → (K (some (.int (v5_ &&& 63))) σ)))))) : C2 Γ l mJ6_bitCount_0f7a4 [.int x0] σ K := by
  refine c2_of (lv := [(0, .int x0)]) (by decide) (Nat.le_of_ble_eq_true rfl) rfl ?_
  refine r_iload_n (dcx dJ6_bitCount_0f7a4_c0 0 rfl) 0 rfl ?_
  refine r_iload_n (dcx dJ6_bitCount_0f7a4_c0 1 rfl) 0 rfl ?_
  refine r_iconst (v := 1) (dcx dJ6_bitCount_0f7a4_c0 2 rfl) rfl ?_
  refine r_iushr (dcx dJ6_bitCount_0f7a4_c0 3 rfl) ?_
  refine r_ldc_w (own := "java/lang/Integer") (v := 1431655765) rfl q876 (dcx dJ6_bitCount_0f7a4_c0 4 rfl) ?_
  refine r_iand (dcx dJ6_bitCount_0f7a4_c0 5 rfl) ?_
  refine r_isub (dcx dJ6_bitCount_0f7a4_c0 6 rfl) ?_
  obtain ⟨v1_, ev1_⟩ : ∃ z : Int32, z = x0 - (((Int32.toUInt32 x0 >>> (Int32.toUInt32 1 &&& Int32.toUInt32 31)).toInt32) &&& 1431655765) := ⟨_, rfl⟩
  rw [← ev1_]
  have hyp := hyp v1_ ev1_
  refine r_istore_n (lv1 := [(0, .int v1_)]) (dcx dJ6_bitCount_0f7a4_c0 7 rfl) (Nat.le_of_ble_eq_true rfl) rfl ?_
  refine r_iload_n (dcx dJ6_bitCount_0f7a4_c0 8 rfl) 0 rfl ?_
  refine r_ldc_w (own := "java/lang/Integer") (v := 858993459) rfl q877 (dcx dJ6_bitCount_0f7a4_c0 9 rfl) ?_
  refine r_iand (dcx dJ6_bitCount_0f7a4_c0 10 rfl) ?_
  refine r_iload_n (dcx dJ6_bitCount_0f7a4_c0 11 rfl) 0 rfl ?_
  refine r_iconst (v := 2) (dcx dJ6_bitCount_0f7a4_c0 12 rfl) rfl ?_
  refine r_iushr (dcx dJ6_bitCount_0f7a4_c0 13 rfl) ?_
  refine r_ldc_w (own := "java/lang/Integer") (v := 858993459) rfl q877 (dcx dJ6_bitCount_0f7a4_c0 14 rfl) ?_
  refine r_iand (dcx dJ6_bitCount_0f7a4_c0 15 rfl) ?_
  refine r_iadd (dcx dJ6_bitCount_0f7a4_c0 16 rfl) ?_
  obtain ⟨v2_, ev2_⟩ : ∃ z : Int32, z = (v1_ &&& 858993459) + (((Int32.toUInt32 v1_ >>> (Int32.toUInt32 2 &&& Int32.toUInt32 31)).toInt32) &&& 858993459) := ⟨_, rfl⟩
  rw [← ev2_]
  have hyp := hyp v2_ ev2_
  refine r_istore_n (lv1 := [(0, .int v2_)]) (dcx dJ6_bitCount_0f7a4_c0 17 rfl) (Nat.le_of_ble_eq_true rfl) rfl ?_
  refine r_iload_n (dcx dJ6_bitCount_0f7a4_c0 18 rfl) 0 rfl ?_
  refine r_iload_n (dcx dJ6_bitCount_0f7a4_c0 19 rfl) 0 rfl ?_
  refine r_iconst (v := 4) (dcx dJ6_bitCount_0f7a4_c0 20 rfl) rfl ?_
  refine r_iushr (dcx dJ6_bitCount_0f7a4_c0 21 rfl) ?_
  refine r_iadd (dcx dJ6_bitCount_0f7a4_c0 22 rfl) ?_
  refine r_ldc_w (own := "java/lang/Integer") (v := 252645135) rfl q878 (dcx dJ6_bitCount_0f7a4_c0 23 rfl) ?_
  refine r_iand (dcx dJ6_bitCount_0f7a4_c0 24 rfl) ?_
  obtain ⟨v3_, ev3_⟩ : ∃ z : Int32, z = (v2_ + ((Int32.toUInt32 v2_ >>> (Int32.toUInt32 4 &&& Int32.toUInt32 31)).toInt32)) &&& 252645135 := ⟨_, rfl⟩
  rw [← ev3_]
  have hyp := hyp v3_ ev3_
  refine r_istore_n (lv1 := [(0, .int v3_)]) (dcx dJ6_bitCount_0f7a4_c0 25 rfl) (Nat.le_of_ble_eq_true rfl) rfl ?_
  refine r_iload_n (dcx dJ6_bitCount_0f7a4_c0 26 rfl) 0 rfl ?_
  refine r_iload_n (dcx dJ6_bitCount_0f7a4_c0 27 rfl) 0 rfl ?_
  refine r_bipush (v := 8) (dcx dJ6_bitCount_0f7a4_c0 28 rfl) rfl ?_
  refine r_iushr (dcx dJ6_bitCount_0f7a4_c0 29 rfl) ?_
  refine r_iadd (dcx dJ6_bitCount_0f7a4_c0 30 rfl) ?_
  obtain ⟨v4_, ev4_⟩ : ∃ z : Int32, z = v3_ + ((Int32.toUInt32 v3_ >>> (Int32.toUInt32 8 &&& Int32.toUInt32 31)).toInt32) := ⟨_, rfl⟩
  rw [← ev4_]
  have hyp := hyp v4_ ev4_
  refine r_istore_n (lv1 := [(0, .int v4_)]) (dcx dJ6_bitCount_0f7a4_c0 31 rfl) (Nat.le_of_ble_eq_true rfl) rfl ?_
  refine r_iload_n (dcx dJ6_bitCount_0f7a4_c0 32 rfl) 0 rfl ?_
  refine r_iload_n (dcx dJ6_bitCount_0f7a4_c0 33 rfl) 0 rfl ?_
  refine r_bipush (v := 16) (dcx dJ6_bitCount_0f7a4_c0 34 rfl) rfl ?_
  refine r_iushr (dcx dJ6_bitCount_0f7a4_c0 35 rfl) ?_
  refine r_iadd (dcx dJ6_bitCount_0f7a4_c0 36 rfl) ?_
  obtain ⟨v5_, ev5_⟩ : ∃ z : Int32, z = v4_ + ((Int32.toUInt32 v4_ >>> (Int32.toUInt32 16 &&& Int32.toUInt32 31)).toInt32) := ⟨_, rfl⟩
  rw [← ev5_]
  have hyp := hyp v5_ ev5_
  refine r_istore_n (lv1 := [(0, .int v5_)]) (dcx dJ6_bitCount_0f7a4_c0 37 rfl) (Nat.le_of_ble_eq_true rfl) rfl ?_
  refine r_iload_n (dcx dJ6_bitCount_0f7a4_c0 38 rfl) 0 rfl ?_
  refine r_bipush (v := 63) (dcx dJ6_bitCount_0f7a4_c0 39 rfl) rfl ?_
  refine r_iand (dcx dJ6_bitCount_0f7a4_c1 0 rfl) ?_
  exact s_ret rfl rfl rfl hyp (dcx dJ6_bitCount_0f7a4_c1 1 rfl)
set_option maxHeartbeats 4000000 in
set_option maxRecDepth 20000 in
theorem tJ0_charAt_5068e {Γ : GE} {l : Launch} {x1 : Int32} {σ : SS} {K : Option Value → SS → Prop}  (hyp : C2 Γ l mJ0_isLatin1_aae02 [.float 1] σ (Ri fun r2_ s1_ => ((r2_ = 0 → (False)) ∧ (¬ (r2_ = 0) → (C2 Γ l mJ1_charAt_3b067 [.float 3, .int x1] s1_ (Ri fun r4_ s3_ => (narrow .char (.int r4_) = .int r4_ ∧ K (some (.int r4_)) s3_))))))) : C2 Γ l mJ0_charAt_5068e [.float 1, .int x1] σ K := by
  refine c2_of (lv := [(0, .float 1), (1, .int x1)]) (by decide) (Nat.le_of_ble_eq_true rfl) rfl ?_
  refine r_aload_nS (dcx dJ0_charAt_5068e_c0 0 rfl) 0 rfl ?_
  refine s_callVS (x := 1) (as := []) (st := []) (by decide) zJ0_isLatin1_aae02 kJ0_charAt_5068e_492 rfl (dcx dJ0_charAt_5068e_c0 1 rfl) rfl rfl (Nat.le_of_ble_eq_true rfl) (C2.mono hyp ?_)
  rintro _ s1_ ⟨r2_, rfl, hyp⟩
  show G2 Γ l mJ0_charAt_5068e 4 [(0, .float 1), (1, .int x1)] [.int r2_] s1_ K
  refine r_if_eq (tgt := 16) (dcx dJ0_charAt_5068e_c0 2 rfl) (by decide) (fun q_ => ?_) (fun q_ => ?_)
  · have hyp := hyp.1 q_
    refine r_aload_nS (dcx dJ0_charAt_5068e_c0 8 rfl) 0 rfl ?_
    refine r_getSv (y := 3) (by decide) (by decide) rfl q1924 (dcx dJ0_charAt_5068e_c0 9 rfl) ?_
    refine r_iload_n (dcx dJ0_charAt_5068e_c0 10 rfl) 1 rfl ?_
    exact hyp.elim
  · have hyp := hyp.2 q_
    refine r_aload_nS (dcx dJ0_charAt_5068e_c0 3 rfl) 0 rfl ?_
    refine r_getSv (y := 3) (by decide) (by decide) rfl q1924 (dcx dJ0_charAt_5068e_c0 4 rfl) ?_
    refine r_iload_n (dcx dJ0_charAt_5068e_c0 5 rfl) 1 rfl ?_
    refine s_callS (as := [.float 3, .int x1]) (st := []) zJ1_charAt_3b067 kJ0_charAt_5068e_495 (dcx dJ0_charAt_5068e_c0 6 rfl) rfl rfl (Nat.le_of_ble_eq_true rfl) (C2.mono hyp ?_)
    rintro _ s3_ ⟨r4_, rfl, hyp⟩
    show G2 Γ l mJ0_charAt_5068e 15 [(0, .float 1), (1, .int x1)] [.int r4_] s3_ K
    exact s_ret rfl rfl hyp.1 hyp.2 (dcx dJ0_charAt_5068e_c0 7 rfl)
set_option maxHeartbeats 4000000 in
set_option maxRecDepth 20000 in
theorem tJ0_indexOf_0f7a4 {Γ : GE} {l : Launch} {x1 : Int32} {σ : SS} {K : Option Value → SS → Prop}  (hyp : C2 Γ l mJ0_indexOf_7cf53 [.float 0, .int x1, .int 0] σ (Ri fun r2_ s1_ => (K (some (.int r2_)) s1_))) : C2 Γ l mJ0_indexOf_0f7a4 [.float 0, .int x1] σ K := by
  refine c2_of (lv := [(0, .float 0), (1, .int x1)]) (by decide) (Nat.le_of_ble_eq_true rfl) rfl ?_
  refine r_aload_nS (dcx dJ0_indexOf_0f7a4_c0 0 rfl) 0 rfl ?_
  refine r_iload_n (dcx dJ0_indexOf_0f7a4_c0 1 rfl) 1 rfl ?_
  refine r_iconst (v := 0) (dcx dJ0_indexOf_0f7a4_c0 2 rfl) rfl ?_
  refine s_callVS (x := 0) (as := [.int x1, .int 0]) (st := []) (by decide) zJ0_indexOf_7cf53 kJ0_indexOf_0f7a4_633 rfl (dcx dJ0_indexOf_0f7a4_c0 3 rfl) rfl rfl (Nat.le_of_ble_eq_true rfl) (C2.mono hyp ?_)
  rintro _ s1_ ⟨r2_, rfl, hyp⟩
  show G2 Γ l mJ0_indexOf_0f7a4 6 [(0, .float 0), (1, .int x1)] [.int r2_] s1_ K
  exact s_ret rfl rfl rfl hyp (dcx dJ0_indexOf_0f7a4_c0 4 rfl)
set_option maxHeartbeats 4000000 in
set_option maxRecDepth 20000 in
theorem tJ0_indexOf_7cf53 {Γ : GE} {l : Launch} {x1 : Int32} {x2 : Int32} {σ : SS} {K : Option Value → SS → Prop}  (hyp : C2 Γ l mJ0_isLatin1_aae02 [.float 0] σ (Ri fun r2_ s1_ => ((r2_ = 0 → (C2 Γ l mJ0_length_8abf5 [.float 0] s1_ (Ri fun r4_ s3_ => (False)))) ∧ (¬ (r2_ = 0) → (C2 Γ l mJ0_length_8abf5 [.float 0] s1_ (Ri fun r6_ s5_ => (C2 Γ l mJ1_indexOf_4cfef [.float 2, .int x1, .int x2, .int r6_] s5_ (Ri fun r8_ s7_ => (K (some (.int r8_)) s7_))))))))) : C2 Γ l mJ0_indexOf_7cf53 [.float 0, .int x1, .int x2] σ K := by
  refine c2_of (lv := [(0, .float 0), (1, .int x1), (2, .int x2)]) (by decide) (Nat.le_of_ble_eq_true rfl) rfl ?_
  refine r_aload_nS (dcx dJ0_indexOf_7cf53_c0 0 rfl) 0 rfl ?_
  refine s_callVS (x := 0) (as := []) (st := []) (by decide) zJ0_isLatin1_aae02 kJ0_indexOf_7cf53_492 rfl (dcx dJ0_indexOf_7cf53_c0 1 rfl) rfl rfl (Nat.le_of_ble_eq_true rfl) (C2.mono hyp ?_)
  rintro _ s1_ ⟨r2_, rfl, hyp⟩
  show G2 Γ l mJ0_indexOf_7cf53 4 [(0, .float 0), (1, .int x1), (2, .int x2)] [.int r2_] s1_ K
  refine r_if_eq (tgt := 23) (dcx dJ0_indexOf_7cf53_c0 2 rfl) (by decide) (fun q_ => ?_) (fun q_ => ?_)
  · have hyp := hyp.1 q_
    refine r_aload_nS (dcx dJ0_indexOf_7cf53_c0 11 rfl) 0 rfl ?_
    refine r_getSv (y := 2) (by decide) (by decide) rfl q1924 (dcx dJ0_indexOf_7cf53_c0 12 rfl) ?_
    refine r_iload_n (dcx dJ0_indexOf_7cf53_c0 13 rfl) 1 rfl ?_
    refine r_iload_n (dcx dJ0_indexOf_7cf53_c0 14 rfl) 2 rfl ?_
    refine r_aload_nS (dcx dJ0_indexOf_7cf53_c0 15 rfl) 0 rfl ?_
    refine s_callVS (x := 0) (as := []) (st := [.int x2, .int x1, .float 2]) (by decide) zJ0_length_8abf5 kJ0_indexOf_7cf53_505 rfl (dcx dJ0_indexOf_7cf53_c0 16 rfl) rfl rfl (Nat.le_of_ble_eq_true rfl) (C2.mono hyp ?_)
    rintro _ s3_ ⟨r4_, rfl, hyp⟩
    show G2 Γ l mJ0_indexOf_7cf53 33 [(0, .float 0), (1, .int x1), (2, .int x2)] [.int r4_, .int x2, .int x1, .float 2] s3_ K
    exact hyp.elim
  · have hyp := hyp.2 q_
    refine r_aload_nS (dcx dJ0_indexOf_7cf53_c0 3 rfl) 0 rfl ?_
    refine r_getSv (y := 2) (by decide) (by decide) rfl q1924 (dcx dJ0_indexOf_7cf53_c0 4 rfl) ?_
    refine r_iload_n (dcx dJ0_indexOf_7cf53_c0 5 rfl) 1 rfl ?_
    refine r_iload_n (dcx dJ0_indexOf_7cf53_c0 6 rfl) 2 rfl ?_
    refine r_aload_nS (dcx dJ0_indexOf_7cf53_c0 7 rfl) 0 rfl ?_
    refine s_callVS (x := 0) (as := []) (st := [.int x2, .int x1, .float 2]) (by decide) zJ0_length_8abf5 kJ0_indexOf_7cf53_505 rfl (dcx dJ0_indexOf_7cf53_c0 8 rfl) rfl rfl (Nat.le_of_ble_eq_true rfl) (C2.mono hyp ?_)
    rintro _ s5_ ⟨r6_, rfl, hyp⟩
    show G2 Γ l mJ0_indexOf_7cf53 17 [(0, .float 0), (1, .int x1), (2, .int x2)] [.int r6_, .int x2, .int x1, .float 2] s5_ K
    refine s_callS (as := [.float 2, .int x1, .int x2, .int r6_]) (st := []) zJ1_indexOf_4cfef kJ0_indexOf_7cf53_637 (dcx dJ0_indexOf_7cf53_c0 9 rfl) rfl rfl (Nat.le_of_ble_eq_true rfl) (C2.mono hyp ?_)
    rintro _ s7_ ⟨r8_, rfl, hyp⟩
    show G2 Γ l mJ0_indexOf_7cf53 20 [(0, .float 0), (1, .int x1), (2, .int x2)] [.int r8_] s7_ K
    refine r_goto (tgt := 36) (dcx dJ0_indexOf_7cf53_c0 10 rfl) (by decide) ?_
    exact s_ret rfl rfl rfl hyp (dcx dJ0_indexOf_7cf53_c0 18 rfl)
set_option maxHeartbeats 4000000 in
set_option maxRecDepth 20000 in
theorem tJ0_length_8abf5 {Γ : GE} {l : Launch}  {σ : SS} {K : Option Value → SS → Prop}  (hyp : C2 Γ l mJ0_coder_7d493 [.float 0] σ (Ri fun r2_ s1_ => (K (some (.int (9 >>> (r2_ &&& 31)))) s1_))) : C2 Γ l mJ0_length_8abf5 [.float 0] σ K := by
  refine c2_of (lv := [(0, .float 0)]) (by decide) (Nat.le_of_ble_eq_true rfl) rfl ?_
  refine r_aload_nS (dcx dJ0_length_8abf5_c0 0 rfl) 0 rfl ?_
  refine r_getSv (y := 2) (by decide) (by decide) rfl q1924 (dcx dJ0_length_8abf5_c0 1 rfl) ?_
  refine r_alenS (x := 0) (y := 2) (by decide) (by decide) (dcx dJ0_length_8abf5_c0 2 rfl) ?_
  refine r_aload_nS (dcx dJ0_length_8abf5_c0 3 rfl) 0 rfl ?_
  refine s_callVS (x := 0) (as := []) (st := [.int 9]) (by decide) zJ0_coder_7d493 kJ0_length_8abf5_335 rfl (dcx dJ0_length_8abf5_c0 4 rfl) rfl rfl (Nat.le_of_ble_eq_true rfl) (C2.mono hyp ?_)
  rintro _ s1_ ⟨r2_, rfl, hyp⟩
  show G2 Γ l mJ0_length_8abf5 9 [(0, .float 0)] [.int r2_, .int 9] s1_ K
  refine r_ishr (dcx dJ0_length_8abf5_c0 5 rfl) ?_
  exact s_ret rfl rfl rfl hyp (dcx dJ0_length_8abf5_c0 6 rfl)
set_option maxHeartbeats 4000000 in
set_option maxRecDepth 20000 in
theorem tJ0_coder_7d493 {Γ : GE} {l : Launch} {z0 : UInt32} {σ : SS} {K : Option Value → SS → Prop} (hz : z0.toNat < 2) (hyp : narrow .byte (.int 0) = .int 0 ∧ K (some (.int 0)) σ) : C2 Γ l mJ0_coder_7d493 [.float z0] σ K := by
  refine c2_of (lv := [(0, .float z0)]) (by decide) (Nat.le_of_ble_eq_true rfl) rfl ?_
  refine r_getsC rfl q545 (dcx dJ0_coder_7d493_c0 0 rfl) ?_
  refine r_if_eq (tgt := 13) (dcx dJ0_coder_7d493_c0 1 rfl) (by decide) (fun q_ => absurd q_ (by decide)) (fun _ => ?_)
  refine r_aload_nS (dcx dJ0_coder_7d493_c0 2 rfl) 0 rfl ?_
  refine r_getSc hz rfl q1923 (dcx dJ0_coder_7d493_c0 3 rfl) ?_
  refine r_goto (tgt := 14) (dcx dJ0_coder_7d493_c0 4 rfl) (by decide) ?_
  exact s_ret rfl rfl hyp.1 hyp.2 (dcx dJ0_coder_7d493_c0 6 rfl)
set_option maxHeartbeats 4000000 in
set_option maxRecDepth 20000 in
theorem tJ0_isLatin1_aae02 {Γ : GE} {l : Launch} {z0 : UInt32} {σ : SS} {K : Option Value → SS → Prop} (hz : z0.toNat < 2) (hyp : K (some (.int 1)) σ) : C2 Γ l mJ0_isLatin1_aae02 [.float z0] σ K := by
  refine c2_of (lv := [(0, .float z0)]) (by decide) (Nat.le_of_ble_eq_true rfl) rfl ?_
  refine r_getsC rfl q545 (dcx dJ0_isLatin1_aae02_c0 0 rfl) ?_
  refine r_if_eq (tgt := 17) (dcx dJ0_isLatin1_aae02_c0 1 rfl) (by decide) (fun q_ => absurd q_ (by decide)) (fun _ => ?_)
  refine r_aload_nS (dcx dJ0_isLatin1_aae02_c0 2 rfl) 0 rfl ?_
  refine r_getSc hz rfl q1923 (dcx dJ0_isLatin1_aae02_c0 3 rfl) ?_
  refine r_if_ne (tgt := 17) (dcx dJ0_isLatin1_aae02_c0 4 rfl) (by decide) (fun q_ => absurd q_ (by decide)) (fun _ => ?_)
  refine r_iconst (v := 1) (dcx dJ0_isLatin1_aae02_c0 5 rfl) rfl ?_
  refine r_goto (tgt := 18) (dcx dJ0_isLatin1_aae02_c0 6 rfl) (by decide) ?_
  exact s_ret rfl rfl rfl hyp (dcx dJ0_isLatin1_aae02_c0 8 rfl)
set_option maxHeartbeats 4000000 in
set_option maxRecDepth 20000 in
theorem tJ0_checkIndex_df160 {Γ : GE} {l : Launch} {x0 : Int32} {x1 : Int32} {σ : SS} {K : Option Value → SS → Prop}  (hyp : (C2 Γ l mJ3_checkIndex_8e157 [.int x0, .int x1, .null] σ (Ri fun r2_ s1_ => (K none s1_))) ∧ (C2 Γ l mJ3_checkIndex_8e157 [.int x0, .int x1, .float 4] σ (Ri fun r4_ s3_ => (K none s3_)))) : C2 Γ l mJ0_checkIndex_df160 [.int x0, .int x1] σ K := by
  refine c2_of (lv := [(0, .int x0), (1, .int x1)]) (by decide) (Nat.le_of_ble_eq_true rfl) rfl ?_
  refine r_iload_n (dcx dJ0_checkIndex_df160_c0 0 rfl) 0 rfl ?_
  refine r_iload_n (dcx dJ0_checkIndex_df160_c0 1 rfl) 1 rfl ?_
  refine r_getsF rfl q553 (dcx dJ0_checkIndex_df160_c0 2 rfl) ?_ ?_
  · have hyp := hyp.1
    refine s_callS (as := [.int x0, .int x1, .null]) (st := []) zJ3_checkIndex_8e157 kJ0_checkIndex_df160_1059 (dcx dJ0_checkIndex_df160_c0 3 rfl) rfl rfl (Nat.le_of_ble_eq_true rfl) (C2.mono hyp ?_)
    rintro _ s1_ ⟨r2_, rfl, hyp⟩
    show G2 Γ l mJ0_checkIndex_df160 8 [(0, .int x0), (1, .int x1)] [.int r2_] s1_ K
    refine r_pop (dcx dJ0_checkIndex_df160_c0 4 rfl) rfl ?_
    exact s_vret rfl hyp (dcx dJ0_checkIndex_df160_c0 5 rfl)
  · have hyp := hyp.2
    refine s_callS (as := [.int x0, .int x1, .float 4]) (st := []) zJ3_checkIndex_8e157 kJ0_checkIndex_df160_1059 (dcx dJ0_checkIndex_df160_c0 3 rfl) rfl rfl (Nat.le_of_ble_eq_true rfl) (C2.mono hyp ?_)
    rintro _ s3_ ⟨r4_, rfl, hyp⟩
    show G2 Γ l mJ0_checkIndex_df160 8 [(0, .int x0), (1, .int x1)] [.int r4_] s3_ K
    refine r_pop (dcx dJ0_checkIndex_df160_c0 4 rfl) rfl ?_
    exact s_vret rfl hyp (dcx dJ0_checkIndex_df160_c0 5 rfl)
set_option maxHeartbeats 4000000 in
set_option maxRecDepth 20000 in
theorem tJ1_charAt_3b067 {Γ : GE} {l : Launch} {x1 : Int32} {σ : SS} {K : Option Value → SS → Prop}  (hyp : C2 Γ l mJ0_checkIndex_df160 [.int x1, .int 132] σ (Rv fun s1_ => (vp_in x1 132 ∧ (narrow .char (.int ((Int32.toUInt32 (((strB.getD 1 []).getD (Int32.toNatClampNeg x1) 0) &&& 255) % 65536).toInt32)) = .int ((Int32.toUInt32 (((strB.getD 1 []).getD (Int32.toNatClampNeg x1) 0) &&& 255) % 65536).toInt32) ∧ K (some (.int ((Int32.toUInt32 (((strB.getD 1 []).getD (Int32.toNatClampNeg x1) 0) &&& 255) % 65536).toInt32))) s1_)))) : C2 Γ l mJ1_charAt_3b067 [.float 3, .int x1] σ K := by
  refine c2_of (lv := [(0, .float 3), (1, .int x1)]) (by decide) (Nat.le_of_ble_eq_true rfl) rfl ?_
  refine r_iload_n (dcx dJ1_charAt_3b067_c0 0 rfl) 1 rfl ?_
  refine r_aload_nS (dcx dJ1_charAt_3b067_c0 1 rfl) 0 rfl ?_
  refine r_alenS (x := 1) (y := 3) (by decide) (by decide) (dcx dJ1_charAt_3b067_c0 2 rfl) ?_
  refine s_callS (as := [.int x1, .int 132]) (st := []) zJ0_checkIndex_df160 kJ1_charAt_3b067_9 (dcx dJ1_charAt_3b067_c0 3 rfl) rfl rfl (Nat.le_of_ble_eq_true rfl) (C2.mono hyp ?_)
  rintro _ s1_ ⟨rfl, hyp⟩
  show G2 Γ l mJ1_charAt_3b067 6 [(0, .float 3), (1, .int x1)] [] s1_ K
  refine r_aload_nS (dcx dJ1_charAt_3b067_c0 4 rfl) 0 rfl ?_
  refine r_iload_n (dcx dJ1_charAt_3b067_c0 5 rfl) 1 rfl ?_
  obtain ⟨hb_, hyp⟩ := hyp
  refine r_baldS (x := 1) (y := 3) (by decide) (by decide) (dcx dJ1_charAt_3b067_c0 6 rfl) hb_ ?_
  refine r_sipush (v := 255) (dcx dJ1_charAt_3b067_c0 7 rfl) rfl ?_
  refine r_iand (dcx dJ1_charAt_3b067_c0 8 rfl) ?_
  refine r_i2c (dcx dJ1_charAt_3b067_c0 9 rfl) ?_
  exact s_ret rfl rfl hyp.1 hyp.2 (dcx dJ1_charAt_3b067_c0 10 rfl)
set_option maxHeartbeats 4000000 in
set_option maxRecDepth 20000 in
theorem tJ1_canEncode_9a6ad {Γ : GE} {l : Launch} {x0 : Int32} {σ : SS} {K : Option Value → SS → Prop}  (hyp : (x0 < 0 → (K (some (.int 0)) σ)) ∧ (¬ (x0 < 0) → (((255 : Int32) < x0 → (K (some (.int 0)) σ)) ∧ (¬ ((255 : Int32) < x0) → (K (some (.int 1)) σ))))) : C2 Γ l mJ1_canEncode_9a6ad [.int x0] σ K := by
  refine c2_of (lv := [(0, .int x0)]) (by decide) (Nat.le_of_ble_eq_true rfl) rfl ?_
  refine r_iload_n (dcx dJ1_canEncode_9a6ad_c0 0 rfl) 0 rfl ?_
  refine r_if_lt (tgt := 15) (dcx dJ1_canEncode_9a6ad_c0 1 rfl) (by decide) (fun q_ => ?_) (fun q_ => ?_)
  · have hyp := hyp.1 q_
    refine r_iconst (v := 0) (dcx dJ1_canEncode_9a6ad_c0 7 rfl) rfl ?_
    exact s_ret rfl rfl rfl hyp (dcx dJ1_canEncode_9a6ad_c0 8 rfl)
  · have hyp := hyp.2 q_
    refine r_iload_n (dcx dJ1_canEncode_9a6ad_c0 2 rfl) 0 rfl ?_
    refine r_sipush (v := 255) (dcx dJ1_canEncode_9a6ad_c0 3 rfl) rfl ?_
    refine r_icmp_gt (tgt := 15) (dcx dJ1_canEncode_9a6ad_c0 4 rfl) (by decide) (fun q_ => ?_) (fun q_ => ?_)
    · have hyp := hyp.1 q_
      refine r_iconst (v := 0) (dcx dJ1_canEncode_9a6ad_c0 7 rfl) rfl ?_
      exact s_ret rfl rfl rfl hyp (dcx dJ1_canEncode_9a6ad_c0 8 rfl)
    · have hyp := hyp.2 q_
      refine r_iconst (v := 1) (dcx dJ1_canEncode_9a6ad_c0 5 rfl) rfl ?_
      refine r_goto (tgt := 16) (dcx dJ1_canEncode_9a6ad_c0 6 rfl) (by decide) ?_
      exact s_ret rfl rfl rfl hyp (dcx dJ1_canEncode_9a6ad_c0 8 rfl)
set_option maxHeartbeats 4000000 in
set_option maxRecDepth 20000 in
theorem tJ1_indexOf_4cfef {Γ : GE} {l : Launch} {x1 : Int32} {x2 : Int32} {x3 : Int32} {σ : SS} {K : Option Value → SS → Prop}  (hyp : C2 Γ l mJ1_canEncode_9a6ad [.int x1] σ (Ri fun r2_ s1_ => ((¬ r2_ = 0 → (((imx x2 0) < (imn x3 9) → (C2 Γ l mJ1_indexOfChar_4cfef [.float 2, .int x1, .int (imx x2 0), .int (imn x3 9)] s1_ (Ri fun r4_ s3_ => (K (some (.int r4_)) s3_)))) ∧ (¬ ((imx x2 0) < (imn x3 9)) → (K (some (.int ((-1)))) s1_)))) ∧ (r2_ = 0 → (K (some (.int ((-1)))) s1_))))) : C2 Γ l mJ1_indexOf_4cfef [.float 2, .int x1, .int x2, .int x3] σ K := by
  refine c2_of (lv := [(0, .float 2), (1, .int x1), (2, .int x2), (3, .int x3)]) (by decide) (Nat.le_of_ble_eq_true rfl) rfl ?_
  refine r_iload_n (dcx dJ1_indexOf_4cfef_c0 0 rfl) 1 rfl ?_
  refine s_callS (as := [.int x1]) (st := []) zJ1_canEncode_9a6ad kJ1_indexOf_4cfef_88 (dcx dJ1_indexOf_4cfef_c0 1 rfl) rfl rfl (Nat.le_of_ble_eq_true rfl) (C2.mono hyp ?_)
  rintro _ s1_ ⟨r2_, rfl, hyp⟩
  show G2 Γ l mJ1_indexOf_4cfef 4 [(0, .float 2), (1, .int x1), (2, .int x2), (3, .int x3)] [.int r2_] s1_ K
  refine r_if_ne (tgt := 9) (dcx dJ1_indexOf_4cfef_c0 2 rfl) (by decide) (fun q_ => ?_) (fun q_ => ?_)
  · have hyp := hyp.1 q_
    refine r_iload_n (dcx dJ1_indexOf_4cfef_c0 5 rfl) 2 rfl ?_
    refine r_iconst (v := 0) (dcx dJ1_indexOf_4cfef_c0 6 rfl) rfl ?_
    refine r_max q607 q608 q16 q609 (by decide) (Nat.le_of_ble_eq_true rfl) (Nat.zero_le _) (Nat.zero_le _) (dcx dJ1_indexOf_4cfef_c0 7 rfl) ?_
    refine r_istore_n (lv1 := [(2, .int (imx x2 0)), (0, .float 2), (1, .int x1), (3, .int x3)]) (dcx dJ1_indexOf_4cfef_c0 8 rfl) (Nat.le_of_ble_eq_true rfl) rfl ?_
    refine r_iload_n (dcx dJ1_indexOf_4cfef_c0 9 rfl) 3 rfl ?_
    refine r_aload_nS (dcx dJ1_indexOf_4cfef_c0 10 rfl) 1 rfl ?_
    refine r_alenS (x := 0) (y := 2) (by decide) (by decide) (dcx dJ1_indexOf_4cfef_c0 11 rfl) ?_
    refine r_min q610 q611 q16 q612 (by decide) (Nat.le_of_ble_eq_true rfl) (Nat.zero_le _) (Nat.zero_le _) (dcx dJ1_indexOf_4cfef_c0 12 rfl) ?_
    refine r_istore_n (lv1 := [(3, .int (imn x3 9)), (2, .int (imx x2 0)), (0, .float 2), (1, .int x1)]) (dcx dJ1_indexOf_4cfef_c0 13 rfl) (Nat.le_of_ble_eq_true rfl) rfl ?_
    refine r_iload_n (dcx dJ1_indexOf_4cfef_c0 14 rfl) 1 rfl ?_
    refine r_iload_n (dcx dJ1_indexOf_4cfef_c0 15 rfl) 0 rfl ?_
    refine r_icmp_lt (tgt := 29) (dcx dJ1_indexOf_4cfef_c0 16 rfl) (by decide) (fun q_ => ?_) (fun q_ => ?_)
    · have hyp := hyp.1 q_
      refine r_aload_nS (dcx dJ1_indexOf_4cfef_c0 19 rfl) 2 rfl ?_
      refine r_iload_n (dcx dJ1_indexOf_4cfef_c0 20 rfl) 3 rfl ?_
      refine r_iload_n (dcx dJ1_indexOf_4cfef_c0 21 rfl) 1 rfl ?_
      refine r_iload_n (dcx dJ1_indexOf_4cfef_c0 22 rfl) 0 rfl ?_
      refine s_callS (as := [.float 2, .int x1, .int (imx x2 0), .int (imn x3 9)]) (st := []) zJ1_indexOfChar_4cfef kJ1_indexOf_4cfef_95 (dcx dJ1_indexOf_4cfef_c0 23 rfl) rfl rfl (Nat.le_of_ble_eq_true rfl) (C2.mono hyp ?_)
      rintro _ s3_ ⟨r4_, rfl, hyp⟩
      show G2 Γ l mJ1_indexOf_4cfef 36 [(3, .int (imn x3 9)), (2, .int (imx x2 0)), (0, .float 2), (1, .int x1)] [.int r4_] s3_ K
      exact s_ret rfl rfl rfl hyp (dcx dJ1_indexOf_4cfef_c0 24 rfl)
    · have hyp := hyp.2 q_
      refine r_iconst (v := (-1)) (dcx dJ1_indexOf_4cfef_c0 17 rfl) rfl ?_
      exact s_ret rfl rfl rfl hyp (dcx dJ1_indexOf_4cfef_c0 18 rfl)
  · have hyp := hyp.2 q_
    refine r_iconst (v := (-1)) (dcx dJ1_indexOf_4cfef_c0 3 rfl) rfl ?_
    exact s_ret rfl rfl rfl hyp (dcx dJ1_indexOf_4cfef_c0 4 rfl)
def wJ1_indexOfChar_4cfef_7 (Γ : GE) (l : Launch) (x3 : Int32) (x4 : Int32) (x5 : Int32) (σ : SS) (K : Option Value → SS → Prop) : Prop := G2 Γ l mJ1_indexOfChar_4cfef 7 [(0, .float 2), (3, .int x3), (4, .int x4), (5, .int x5)] [] σ K
set_option maxHeartbeats 4000000 in
set_option maxRecDepth 20000 in
theorem tJ1_indexOfChar_4cfef {Γ : GE} {l : Launch} {x1 : Int32} {x2 : Int32} {x3 : Int32} {σ : SS} {K : Option Value → SS → Prop}  (hyp : wJ1_indexOfChar_4cfef_7 Γ l x3 ((Int32.toInt8 x1).toInt32) x2 σ K) : C2 Γ l mJ1_indexOfChar_4cfef [.float 2, .int x1, .int x2, .int x3] σ K := by
  refine c2_of (lv := [(0, .float 2), (1, .int x1), (2, .int x2), (3, .int x3)]) (by decide) (Nat.le_of_ble_eq_true rfl) rfl ?_
  refine r_iload_n (dcx dJ1_indexOfChar_4cfef_c0 0 rfl) 1 rfl ?_
  refine r_i2b (dcx dJ1_indexOfChar_4cfef_c0 1 rfl) ?_
  refine r_istore (lv1 := [(4, .int ((Int32.toInt8 x1).toInt32)), (0, .float 2), (1, .int x1), (2, .int x2), (3, .int x3)]) (dcx dJ1_indexOfChar_4cfef_c0 2 rfl) (Nat.le_of_ble_eq_true rfl) rfl ?_
  refine r_iload_n (dcx dJ1_indexOfChar_4cfef_c0 3 rfl) 3 rfl ?_
  refine r_istore (lv1 := [(5, .int x2), (4, .int ((Int32.toInt8 x1).toInt32)), (0, .float 2), (1, .int x1), (2, .int x2), (3, .int x3)]) (dcx dJ1_indexOfChar_4cfef_c0 4 rfl) (Nat.le_of_ble_eq_true rfl) rfl ?_
  refine r_loc (lv1 := [(0, .float 2), (3, .int x3), (4, .int ((Int32.toInt8 x1).toInt32)), (5, .int x2)]) [2, 5, 1, 0] rfl ?_
  exact hyp
set_option maxHeartbeats 4000000 in
set_option maxRecDepth 20000 in
theorem tJ1_indexOfChar_4cfef_7 {Γ : GE} {l : Launch} {x3 : Int32} {x4 : Int32} {x5 : Int32} {σ : SS} {K : Option Value → SS → Prop}  (hyp : (x3 ≤ x5 → (K (some (.int ((-1)))) σ)) ∧ (¬ (x3 ≤ x5) → (vp_in x5 9 ∧ ((¬ ((strB.getD 0 []).getD (Int32.toNatClampNeg x5) 0) = x4 → (wJ1_indexOfChar_4cfef_7 Γ l x3 x4 (x5 + 1) σ K)) ∧ (((strB.getD 0 []).getD (Int32.toNatClampNeg x5) 0) = x4 → (K (some (.int x5)) σ)))))) : wJ1_indexOfChar_4cfef_7 Γ l x3 x4 x5 σ K := by
  show G2 Γ l mJ1_indexOfChar_4cfef 7 [(0, .float 2), (3, .int x3), (4, .int x4), (5, .int x5)] [] σ K
  refine r_iload (dcx dJ1_indexOfChar_4cfef_c0 5 rfl) 3 rfl ?_
  refine r_iload_n (dcx dJ1_indexOfChar_4cfef_c0 6 rfl) 1 rfl ?_
  refine r_icmp_ge (tgt := 31) (dcx dJ1_indexOfChar_4cfef_c0 7 rfl) (by decide) (fun q_ => ?_) (fun q_ => ?_)
  · have hyp := hyp.1 q_
    refine r_iconst (v := (-1)) (dcx dJ1_indexOfChar_4cfef_c0 17 rfl) rfl ?_
    exact s_ret rfl rfl rfl hyp (dcx dJ1_indexOfChar_4cfef_c0 18 rfl)
  · have hyp := hyp.2 q_
    refine r_aload_nS (dcx dJ1_indexOfChar_4cfef_c0 8 rfl) 0 rfl ?_
    refine r_iload (dcx dJ1_indexOfChar_4cfef_c0 9 rfl) 3 rfl ?_
    obtain ⟨hb_, hyp⟩ := hyp
    refine r_baldS (x := 0) (y := 2) (by decide) (by decide) (dcx dJ1_indexOfChar_4cfef_c0 10 rfl) hb_ ?_
    refine r_iload (dcx dJ1_indexOfChar_4cfef_c0 11 rfl) 2 rfl ?_
    refine r_icmp_ne (tgt := 25) (dcx dJ1_indexOfChar_4cfef_c0 12 rfl) (by decide) (fun q_ => ?_) (fun q_ => ?_)
    · have hyp := hyp.1 q_
      refine r_iinc (lv1 := [(5, .int (x5 + 1)), (0, .float 2), (3, .int x3), (4, .int x4)]) (dcx dJ1_indexOfChar_4cfef_c0 15 rfl) 3 rfl (Nat.le_of_ble_eq_true rfl) rfl ?_
      refine r_goto (tgt := 7) (dcx dJ1_indexOfChar_4cfef_c0 16 rfl) (by decide) ?_
      refine r_loc (lv1 := [(0, .float 2), (3, .int x3), (4, .int x4), (5, .int (x5 + 1))]) [1, 2, 3, 0] rfl ?_
      exact hyp
    · have hyp := hyp.2 q_
      refine r_iload (dcx dJ1_indexOfChar_4cfef_c0 13 rfl) 3 rfl ?_
      exact s_ret rfl rfl rfl hyp (dcx dJ1_indexOfChar_4cfef_c0 14 rfl)
set_option maxHeartbeats 4000000 in
set_option maxRecDepth 20000 in
theorem tJ3_checkIndexN {Γ : GE} {l : Launch} {x0 : Int32} {x1 : Int32} {σ : SS} {K : Option Value → SS → Prop}  (hyp : (x0 < 0 → (False)) ∧ (¬ (x0 < 0) → ((x0 < x1 → (K (some (.int x0)) σ)) ∧ (¬ (x0 < x1) → (False))))) : C2 Γ l mJ3_checkIndex_8e157 [.int x0, .int x1, .null] σ K := by
  refine c2_of (lv := [(0, .int x0), (1, .int x1), (2, .null)]) (by decide) (Nat.le_of_ble_eq_true rfl) rfl ?_
  refine r_iload_n (dcx dJ3_checkIndex_8e157_c0 0 rfl) 0 rfl ?_
  refine r_if_lt (tgt := 9) (dcx dJ3_checkIndex_8e157_c0 1 rfl) (by decide) (fun q_ => ?_) (fun q_ => ?_)
  · have hyp := hyp.1 q_
    exact hyp.elim
  · have hyp := hyp.2 q_
    refine r_iload_n (dcx dJ3_checkIndex_8e157_c0 2 rfl) 0 rfl ?_
    refine r_iload_n (dcx dJ3_checkIndex_8e157_c0 3 rfl) 1 rfl ?_
    refine r_icmp_lt (tgt := 16) (dcx dJ3_checkIndex_8e157_c0 4 rfl) (by decide) (fun q_ => ?_) (fun q_ => ?_)
    · have hyp := hyp.1 q_
      refine r_iload_n (dcx dJ3_checkIndex_8e157_c0 10 rfl) 0 rfl ?_
      exact s_ret rfl rfl rfl hyp (dcx dJ3_checkIndex_8e157_c0 11 rfl)
    · have hyp := hyp.2 q_
      exact hyp.elim
set_option maxHeartbeats 4000000 in
set_option maxRecDepth 20000 in
theorem tJ3_checkIndexF {Γ : GE} {l : Launch} {x0 : Int32} {x1 : Int32} {σ : SS} {K : Option Value → SS → Prop}  (hyp : (x0 < 0 → (False)) ∧ (¬ (x0 < 0) → ((x0 < x1 → (K (some (.int x0)) σ)) ∧ (¬ (x0 < x1) → (False))))) : C2 Γ l mJ3_checkIndex_8e157 [.int x0, .int x1, .float 4] σ K := by
  refine c2_of (lv := [(0, .int x0), (1, .int x1), (2, .float 4)]) (by decide) (Nat.le_of_ble_eq_true rfl) rfl ?_
  refine r_iload_n (dcx dJ3_checkIndex_8e157_c0 0 rfl) 0 rfl ?_
  refine r_if_lt (tgt := 9) (dcx dJ3_checkIndex_8e157_c0 1 rfl) (by decide) (fun q_ => ?_) (fun q_ => ?_)
  · have hyp := hyp.1 q_
    refine r_aload_nS (dcx dJ3_checkIndex_8e157_c0 5 rfl) 2 rfl ?_
    refine r_iload_n (dcx dJ3_checkIndex_8e157_c0 6 rfl) 0 rfl ?_
    refine r_iload_n (dcx dJ3_checkIndex_8e157_c0 7 rfl) 1 rfl ?_
    exact hyp.elim
  · have hyp := hyp.2 q_
    refine r_iload_n (dcx dJ3_checkIndex_8e157_c0 2 rfl) 0 rfl ?_
    refine r_iload_n (dcx dJ3_checkIndex_8e157_c0 3 rfl) 1 rfl ?_
    refine r_icmp_lt (tgt := 16) (dcx dJ3_checkIndex_8e157_c0 4 rfl) (by decide) (fun q_ => ?_) (fun q_ => ?_)
    · have hyp := hyp.1 q_
      refine r_iload_n (dcx dJ3_checkIndex_8e157_c0 10 rfl) 0 rfl ?_
      exact s_ret rfl rfl rfl hyp (dcx dJ3_checkIndex_8e157_c0 11 rfl)
    · have hyp := hyp.2 q_
      refine r_aload_nS (dcx dJ3_checkIndex_8e157_c0 5 rfl) 2 rfl ?_
      refine r_iload_n (dcx dJ3_checkIndex_8e157_c0 6 rfl) 0 rfl ?_
      refine r_iload_n (dcx dJ3_checkIndex_8e157_c0 7 rfl) 1 rfl ?_
      exact hyp.elim
set_option maxHeartbeats 4000000 in
set_option maxRecDepth 20000 in
theorem tX0_clear {Γ : GE} {l : Launch}  {σ : SS} {K : Option Value → SS → Prop}  (hyp : ∀ s1_ : SS, s1_ = sI σ 219 4 0 → (∀ s2_ : SS, s2_ = sI s1_ 219 8 ((-1)) → (C2 Γ l mX0_beginBare [.ref 219] s2_ (Rv fun s3_ => (K none s3_))))) : C2 Γ l mX0_clear [.ref 219] σ K := by
  refine c2_of (lv := [(0, .ref 219)]) (by decide) (Nat.le_of_ble_eq_true rfl) rfl ?_
  refine r_aload_n (dcx dX0_clear_c0 0 rfl) 0 rfl ?_
  refine r_iconst (v := 0) (dcx dX0_clear_c0 1 rfl) rfl ?_
  refine s_puti gX0_58 (dcx dX0_clear_c0 2 rfl) F219_4 ?_
  obtain ⟨s1_, es1_⟩ : ∃ z : SS, z = sI σ 219 4 0 := ⟨_, rfl⟩
  rw [← es1_]
  have hyp := hyp s1_ es1_
  refine r_aload_n (dcx dX0_clear_c0 3 rfl) 0 rfl ?_
  refine r_iconst (v := (-1)) (dcx dX0_clear_c0 4 rfl) rfl ?_
  refine s_puti gX0_37 (dcx dX0_clear_c0 5 rfl) F219_8 ?_
  obtain ⟨s2_, es2_⟩ : ∃ z : SS, z = sI s1_ 219 8 ((-1)) := ⟨_, rfl⟩
  rw [← es2_]
  have hyp := hyp s2_ es2_
  refine r_aload_n (dcx dX0_clear_c0 6 rfl) 0 rfl ?_
  refine s_callV (as := []) (st := []) zX0_beginBare kX0_clear_61 (dcx dX0_clear_c0 7 rfl) rfl rfl (Nat.le_of_ble_eq_true rfl) O219 rfl rfl (C2.mono hyp ?_)
  rintro _ s3_ ⟨rfl, hyp⟩
  show G2 Γ l mX0_clear 14 [(0, .ref 219)] [] s3_ K
  exact s_vret rfl hyp (dcx dX0_clear_c0 8 rfl)
set_option maxHeartbeats 4000000 in
set_option maxRecDepth 20000 in
theorem tX0_add {Γ : GE} {l : Launch} {x1 : Int32} {x2 : Int32} {x3 : Int32} {σ : SS} {K : Option Value → SS → Prop}  (hyp : ((σ.1 219 4) < 20 → (vp_in (σ.1 219 4) 20 ∧ (∀ s1_ : SS, s1_ = sI σ 220 (Int32.toNatClampNeg (σ.1 219 4)) x1 → (vp_in (s1_.1 219 4) 20 ∧ (∀ s2_ : SS, s2_ = sI s1_ 221 (Int32.toNatClampNeg (s1_.1 219 4)) x2 → (vp_in (s2_.1 219 4) 20 ∧ (∀ s3_ : SS, s3_ = sI s2_ 222 (Int32.toNatClampNeg (s2_.1 219 4)) x3 → (∀ s4_ : SS, s4_ = sI s3_ 219 4 ((s3_.1 219 4) + 1) → (K (some (.int ((s4_.1 219 4) - 1))) s4_))))))))) ∧ (¬ ((σ.1 219 4) < 20) → (K (some (.int ((-1)))) σ))) : C2 Γ l mX0_add [.ref 219, .int x1, .int x2, .int x3] σ K := by
  refine c2_of (lv := [(0, .ref 219), (1, .int x1), (2, .int x2), (3, .int x3)]) (by decide) (Nat.le_of_ble_eq_true rfl) rfl ?_
  refine r_aload_n (dcx dX0_add_c0 0 rfl) 0 rfl ?_
  refine s_geti fX0_58 (dcx dX0_add_c0 1 rfl) F219_4 ?_
  refine r_bipush (v := 20) (dcx dX0_add_c0 2 rfl) rfl ?_
  refine r_icmp_lt (tgt := 11) (dcx dX0_add_c0 3 rfl) (by decide) (fun q_ => ?_) (fun q_ => ?_)
  · have hyp := hyp.1 q_
    refine r_aload_n (dcx dX0_add_c0 6 rfl) 0 rfl ?_
    refine s_getr (b := 220) fX0_11 (dcx dX0_add_c0 7 rfl) F219_1 ?_
    refine r_aload_n (dcx dX0_add_c0 8 rfl) 0 rfl ?_
    refine s_geti fX0_58 (dcx dX0_add_c0 9 rfl) F219_4 ?_
    refine r_iload_n (dcx dX0_add_c0 10 rfl) 1 rfl ?_
    obtain ⟨hb_, hyp⟩ := hyp
    refine s_iast (dcx dX0_add_c0 11 rfl) A220 hb_ ?_
    obtain ⟨s1_, es1_⟩ : ∃ z : SS, z = sI σ 220 (Int32.toNatClampNeg (σ.1 219 4)) x1 := ⟨_, rfl⟩
    rw [← es1_]
    have hyp := hyp s1_ es1_
    refine r_aload_n (dcx dX0_add_c0 12 rfl) 0 rfl ?_
    refine s_getr (b := 221) fX0_15 (dcx dX0_add_c0 13 rfl) F219_2 ?_
    refine r_aload_n (dcx dX0_add_c0 14 rfl) 0 rfl ?_
    refine s_geti fX0_58 (dcx dX0_add_c0 15 rfl) F219_4 ?_
    refine r_iload_n (dcx dX0_add_c0 16 rfl) 2 rfl ?_
    obtain ⟨hb_, hyp⟩ := hyp
    refine s_iast (dcx dX0_add_c0 17 rfl) A221 hb_ ?_
    obtain ⟨s2_, es2_⟩ : ∃ z : SS, z = sI s1_ 221 (Int32.toNatClampNeg (s1_.1 219 4)) x2 := ⟨_, rfl⟩
    rw [← es2_]
    have hyp := hyp s2_ es2_
    refine r_aload_n (dcx dX0_add_c0 18 rfl) 0 rfl ?_
    refine s_getr (b := 222) fX0_18 (dcx dX0_add_c0 19 rfl) F219_3 ?_
    refine r_aload_n (dcx dX0_add_c0 20 rfl) 0 rfl ?_
    refine s_geti fX0_58 (dcx dX0_add_c0 21 rfl) F219_4 ?_
    refine r_iload_n (dcx dX0_add_c0 22 rfl) 3 rfl ?_
    obtain ⟨hb_, hyp⟩ := hyp
    refine s_iast (dcx dX0_add_c0 23 rfl) A222 hb_ ?_
    obtain ⟨s3_, es3_⟩ : ∃ z : SS, z = sI s2_ 222 (Int32.toNatClampNeg (s2_.1 219 4)) x3 := ⟨_, rfl⟩
    rw [← es3_]
    have hyp := hyp s3_ es3_
    refine r_aload_n (dcx dX0_add_c0 24 rfl) 0 rfl ?_
    refine r_dup (dcx dX0_add_c0 25 rfl) rfl ?_
    refine s_geti fX0_58 (dcx dX0_add_c0 26 rfl) F219_4 ?_
    refine r_iconst (v := 1) (dcx dX0_add_c0 27 rfl) rfl ?_
    refine r_iadd (dcx dX0_add_c0 28 rfl) ?_
    refine s_puti gX0_58 (dcx dX0_add_c0 29 rfl) F219_4 ?_
    obtain ⟨s4_, es4_⟩ : ∃ z : SS, z = sI s3_ 219 4 ((s3_.1 219 4) + 1) := ⟨_, rfl⟩
    rw [← es4_]
    have hyp := hyp s4_ es4_
    refine r_aload_n (dcx dX0_add_c0 30 rfl) 0 rfl ?_
    refine s_geti fX0_58 (dcx dX0_add_c0 31 rfl) F219_4 ?_
    refine r_iconst (v := 1) (dcx dX0_add_c0 32 rfl) rfl ?_
    refine r_isub (dcx dX0_add_c0 33 rfl) ?_
    exact s_ret rfl rfl rfl hyp (dcx dX0_add_c0 34 rfl)
  · have hyp := hyp.2 q_
    refine r_iconst (v := (-1)) (dcx dX0_add_c0 4 rfl) rfl ?_
    exact s_ret rfl rfl rfl hyp (dcx dX0_add_c0 5 rfl)
set_option maxHeartbeats 4000000 in
set_option maxRecDepth 20000 in
theorem tX0_has {Γ : GE} {l : Launch} {x1 : Int32} {σ : SS} {K : Option Value → SS → Prop}  (hyp : (x1 < 0 → (K (some (.int 0)) σ)) ∧ (¬ (x1 < 0) → (((σ.1 219 4) < x1 → (K (some (.int 0)) σ)) ∧ (¬ ((σ.1 219 4) < x1) → (K (some (.int 1)) σ))))) : C2 Γ l mX0_has [.ref 219, .int x1] σ K := by
  refine c2_of (lv := [(0, .ref 219), (1, .int x1)]) (by decide) (Nat.le_of_ble_eq_true rfl) rfl ?_
  refine r_iload_n (dcx dX0_has_c0 0 rfl) 1 rfl ?_
  refine r_if_lt (tgt := 16) (dcx dX0_has_c0 1 rfl) (by decide) (fun q_ => ?_) (fun q_ => ?_)
  · have hyp := hyp.1 q_
    refine r_iconst (v := 0) (dcx dX0_has_c0 8 rfl) rfl ?_
    exact s_ret rfl rfl rfl hyp (dcx dX0_has_c0 9 rfl)
  · have hyp := hyp.2 q_
    refine r_iload_n (dcx dX0_has_c0 2 rfl) 1 rfl ?_
    refine r_aload_n (dcx dX0_has_c0 3 rfl) 0 rfl ?_
    refine s_geti fX0_58 (dcx dX0_has_c0 4 rfl) F219_4 ?_
    refine r_icmp_gt (tgt := 16) (dcx dX0_has_c0 5 rfl) (by decide) (fun q_ => ?_) (fun q_ => ?_)
    · have hyp := hyp.1 q_
      refine r_iconst (v := 0) (dcx dX0_has_c0 8 rfl) rfl ?_
      exact s_ret rfl rfl rfl hyp (dcx dX0_has_c0 9 rfl)
    · have hyp := hyp.2 q_
      refine r_iconst (v := 1) (dcx dX0_has_c0 6 rfl) rfl ?_
      refine r_goto (tgt := 17) (dcx dX0_has_c0 7 rfl) (by decide) ?_
      exact s_ret rfl rfl rfl hyp (dcx dX0_has_c0 9 rfl)
def wX0_sift_4 (Γ : GE) (l : Launch) (x1 : Int32) (x2 : Int32) (x3 : Int32) (σ : SS) (K : Option Value → SS → Prop) : Prop := G2 Γ l mX0_sift 4 [(0, .ref 219), (1, .int x1), (2, .int x2), (3, .int x3)] [] σ K
set_option maxHeartbeats 4000000 in
set_option maxRecDepth 20000 in
theorem tX0_sift {Γ : GE} {l : Launch} {x1 : Int32} {σ : SS} {K : Option Value → SS → Prop}  (hyp : wX0_sift_4 Γ l x1 0 0 σ K) : C2 Γ l mX0_sift [.ref 219, .int x1] σ K := by
  refine c2_of (lv := [(0, .ref 219), (1, .int x1)]) (by decide) (Nat.le_of_ble_eq_true rfl) rfl ?_
  refine r_iconst (v := 0) (dcx dX0_sift_c0 0 rfl) rfl ?_
  refine r_istore_n (lv1 := [(2, .int 0), (0, .ref 219), (1, .int x1)]) (dcx dX0_sift_c0 1 rfl) (Nat.le_of_ble_eq_true rfl) rfl ?_
  refine r_iconst (v := 0) (dcx dX0_sift_c0 2 rfl) rfl ?_
  refine r_istore_n (lv1 := [(3, .int 0), (2, .int 0), (0, .ref 219), (1, .int x1)]) (dcx dX0_sift_c0 3 rfl) (Nat.le_of_ble_eq_true rfl) rfl ?_
  refine r_loc (lv1 := [(0, .ref 219), (1, .int x1), (2, .int 0), (3, .int 0)]) [2, 3, 1, 0] rfl ?_
  exact hyp
set_option maxHeartbeats 4000000 in
set_option maxRecDepth 20000 in
theorem tX0_sift_4 {Γ : GE} {l : Launch} {x1 : Int32} {x2 : Int32} {x3 : Int32} {σ : SS} {K : Option Value → SS → Prop}  (hyp : ((2976 : Int32) ≤ x3 → (K (some (.int x2)) σ)) ∧ (¬ ((2976 : Int32) ≤ x3) → (C2 Γ l mX0_isGuess [.ref 219, .int x3, .int (σ.1 219 8)] σ (Ri fun r2_ s1_ => ((r2_ = 0 → (vp_in x3 2976 ∧ (∀ s3_ : SS, s3_ = sI s1_ 261 (Int32.toNatClampNeg x3) (vp_nar .boolean 0) → (vp_in x3 2976 ∧ (((s3_.1 261 (Int32.toNatClampNeg x3)) = 0 → (wX0_sift_4 Γ l x1 x2 (x3 + 1) s3_ K)) ∧ (¬ ((s3_.1 261 (Int32.toNatClampNeg x3)) = 0) → (wX0_sift_4 Γ l x1 (x2 + 1) (x3 + 1) s3_ K))))))) ∧ (¬ (r2_ = 0) → (C2 Γ l mX0_agrees [.ref 219, .int x3, .int x1] s1_ (Ri fun r5_ s4_ => ((r5_ = 0 → (vp_in x3 2976 ∧ (∀ s6_ : SS, s6_ = sI s4_ 261 (Int32.toNatClampNeg x3) (vp_nar .boolean 0) → (vp_in x3 2976 ∧ (((s6_.1 261 (Int32.toNatClampNeg x3)) = 0 → (wX0_sift_4 Γ l x1 x2 (x3 + 1) s6_ K)) ∧ (¬ ((s6_.1 261 (Int32.toNatClampNeg x3)) = 0) → (wX0_sift_4 Γ l x1 (x2 + 1) (x3 + 1) s6_ K))))))) ∧ (¬ (r5_ = 0) → (vp_in x3 2976 ∧ (∀ s7_ : SS, s7_ = sI s4_ 261 (Int32.toNatClampNeg x3) (vp_nar .boolean 1) → (vp_in x3 2976 ∧ (((s7_.1 261 (Int32.toNatClampNeg x3)) = 0 → (wX0_sift_4 Γ l x1 x2 (x3 + 1) s7_ K)) ∧ (¬ ((s7_.1 261 (Int32.toNatClampNeg x3)) = 0) → (wX0_sift_4 Γ l x1 (x2 + 1) (x3 + 1) s7_ K)))))))))))))))) : wX0_sift_4 Γ l x1 x2 x3 σ K := by
  show G2 Γ l mX0_sift 4 [(0, .ref 219), (1, .int x1), (2, .int x2), (3, .int x3)] [] σ K
  refine r_iload_n (dcx dX0_sift_c0 4 rfl) 3 rfl ?_
  refine r_sipush (v := 2976) (dcx dX0_sift_c0 5 rfl) rfl ?_
  refine r_icmp_ge (tgt := 61) (dcx dX0_sift_c0 6 rfl) (by decide) (fun q_ => ?_) (fun q_ => ?_)
  · have hyp := hyp.1 q_
    refine r_iload_n (dcx dX0_sift_c0 33 rfl) 2 rfl ?_
    exact s_ret rfl rfl rfl hyp (dcx dX0_sift_c0 34 rfl)
  · have hyp := hyp.2 q_
    refine r_aload_n (dcx dX0_sift_c0 7 rfl) 0 rfl ?_
    refine s_getr (b := 261) fX0_41 (dcx dX0_sift_c0 8 rfl) F219_9 ?_
    refine r_iload_n (dcx dX0_sift_c0 9 rfl) 3 rfl ?_
    refine r_aload_n (dcx dX0_sift_c0 10 rfl) 0 rfl ?_
    refine r_iload_n (dcx dX0_sift_c0 11 rfl) 3 rfl ?_
    refine r_aload_n (dcx dX0_sift_c0 12 rfl) 0 rfl ?_
    refine s_geti fX0_37 (dcx dX0_sift_c0 13 rfl) F219_8 ?_
    refine s_callV (as := [.int x3, .int (σ.1 219 8)]) (st := [.int x3, .ref 261]) zX0_isGuess kX0_sift_64 (dcx dX0_sift_c0 14 rfl) rfl rfl (Nat.le_of_ble_eq_true rfl) O219 rfl rfl (C2.mono hyp ?_)
    rintro _ s1_ ⟨r2_, rfl, hyp⟩
    show G2 Γ l mX0_sift 25 [(0, .ref 219), (1, .int x1), (2, .int x2), (3, .int x3)] [.int r2_, .int x3, .ref 261] s1_ K
    refine r_if_eq (tgt := 41) (dcx dX0_sift_c0 15 rfl) (by decide) (fun q_ => ?_) (fun q_ => ?_)
    · have hyp := hyp.1 q_
      refine r_iconst (v := 0) (dcx dX0_sift_c0 23 rfl) rfl ?_
      obtain ⟨hb_, hyp⟩ := hyp
      refine s_zast (dcx dX0_sift_c0 24 rfl) A261 hb_ ?_
      obtain ⟨s3_, es3_⟩ : ∃ z : SS, z = sI s1_ 261 (Int32.toNatClampNeg x3) (vp_nar .boolean 0) := ⟨_, rfl⟩
      rw [← es3_]
      have hyp := hyp s3_ es3_
      refine r_aload_n (dcx dX0_sift_c0 25 rfl) 0 rfl ?_
      refine s_getr (b := 261) fX0_41 (dcx dX0_sift_c0 26 rfl) F219_9 ?_
      refine r_iload_n (dcx dX0_sift_c0 27 rfl) 3 rfl ?_
      obtain ⟨hb_, hyp⟩ := hyp
      refine s_zald (dcx dX0_sift_c0 28 rfl) A261 hb_ ?_
      refine r_if_eq (tgt := 55) (dcx dX0_sift_c0 29 rfl) (by decide) (fun q_ => ?_) (fun q_ => ?_)
      · have hyp := hyp.1 q_
        refine r_iinc (lv1 := [(3, .int (x3 + 1)), (0, .ref 219), (1, .int x1), (2, .int x2)]) (dcx dX0_sift_c0 31 rfl) 3 rfl (Nat.le_of_ble_eq_true rfl) rfl ?_
        refine r_goto (tgt := 4) (dcx dX0_sift_c0 32 rfl) (by decide) ?_
        refine r_loc (lv1 := [(0, .ref 219), (1, .int x1), (2, .int x2), (3, .int (x3 + 1))]) [1, 2, 3, 0] rfl ?_
        exact hyp
      · have hyp := hyp.2 q_
        refine r_iinc (lv1 := [(2, .int (x2 + 1)), (0, .ref 219), (1, .int x1), (3, .int x3)]) (dcx dX0_sift_c0 30 rfl) 2 rfl (Nat.le_of_ble_eq_true rfl) rfl ?_
        refine r_iinc (lv1 := [(3, .int (x3 + 1)), (2, .int (x2 + 1)), (0, .ref 219), (1, .int x1)]) (dcx dX0_sift_c0 31 rfl) 3 rfl (Nat.le_of_ble_eq_true rfl) rfl ?_
        refine r_goto (tgt := 4) (dcx dX0_sift_c0 32 rfl) (by decide) ?_
        refine r_loc (lv1 := [(0, .ref 219), (1, .int x1), (2, .int (x2 + 1)), (3, .int (x3 + 1))]) [2, 3, 1, 0] rfl ?_
        exact hyp
    · have hyp := hyp.2 q_
      refine r_aload_n (dcx dX0_sift_c0 16 rfl) 0 rfl ?_
      refine r_iload_n (dcx dX0_sift_c0 17 rfl) 3 rfl ?_
      refine r_iload_n (dcx dX0_sift_c0 18 rfl) 1 rfl ?_
      refine s_callV (as := [.int x3, .int x1]) (st := [.int x3, .ref 261]) zX0_agrees kX0_sift_68 (dcx dX0_sift_c0 19 rfl) rfl rfl (Nat.le_of_ble_eq_true rfl) O219 rfl rfl (C2.mono hyp ?_)
      rintro _ s4_ ⟨r5_, rfl, hyp⟩
      show G2 Γ l mX0_sift 34 [(0, .ref 219), (1, .int x1), (2, .int x2), (3, .int x3)] [.int r5_, .int x3, .ref 261] s4_ K
      refine r_if_eq (tgt := 41) (dcx dX0_sift_c0 20 rfl) (by decide) (fun q_ => ?_) (fun q_ => ?_)
      · have hyp := hyp.1 q_
        refine r_iconst (v := 0) (dcx dX0_sift_c0 23 rfl) rfl ?_
        obtain ⟨hb_, hyp⟩ := hyp
        refine s_zast (dcx dX0_sift_c0 24 rfl) A261 hb_ ?_
        obtain ⟨s6_, es6_⟩ : ∃ z : SS, z = sI s4_ 261 (Int32.toNatClampNeg x3) (vp_nar .boolean 0) := ⟨_, rfl⟩
        rw [← es6_]
        have hyp := hyp s6_ es6_
        refine r_aload_n (dcx dX0_sift_c0 25 rfl) 0 rfl ?_
        refine s_getr (b := 261) fX0_41 (dcx dX0_sift_c0 26 rfl) F219_9 ?_
        refine r_iload_n (dcx dX0_sift_c0 27 rfl) 3 rfl ?_
        obtain ⟨hb_, hyp⟩ := hyp
        refine s_zald (dcx dX0_sift_c0 28 rfl) A261 hb_ ?_
        refine r_if_eq (tgt := 55) (dcx dX0_sift_c0 29 rfl) (by decide) (fun q_ => ?_) (fun q_ => ?_)
        · have hyp := hyp.1 q_
          refine r_iinc (lv1 := [(3, .int (x3 + 1)), (0, .ref 219), (1, .int x1), (2, .int x2)]) (dcx dX0_sift_c0 31 rfl) 3 rfl (Nat.le_of_ble_eq_true rfl) rfl ?_
          refine r_goto (tgt := 4) (dcx dX0_sift_c0 32 rfl) (by decide) ?_
          refine r_loc (lv1 := [(0, .ref 219), (1, .int x1), (2, .int x2), (3, .int (x3 + 1))]) [1, 2, 3, 0] rfl ?_
          exact hyp
        · have hyp := hyp.2 q_
          refine r_iinc (lv1 := [(2, .int (x2 + 1)), (0, .ref 219), (1, .int x1), (3, .int x3)]) (dcx dX0_sift_c0 30 rfl) 2 rfl (Nat.le_of_ble_eq_true rfl) rfl ?_
          refine r_iinc (lv1 := [(3, .int (x3 + 1)), (2, .int (x2 + 1)), (0, .ref 219), (1, .int x1)]) (dcx dX0_sift_c0 31 rfl) 3 rfl (Nat.le_of_ble_eq_true rfl) rfl ?_
          refine r_goto (tgt := 4) (dcx dX0_sift_c0 32 rfl) (by decide) ?_
          refine r_loc (lv1 := [(0, .ref 219), (1, .int x1), (2, .int (x2 + 1)), (3, .int (x3 + 1))]) [2, 3, 1, 0] rfl ?_
          exact hyp
      · have hyp := hyp.2 q_
        refine r_iconst (v := 1) (dcx dX0_sift_c0 21 rfl) rfl ?_
        refine r_goto (tgt := 42) (dcx dX0_sift_c0 22 rfl) (by decide) ?_
        obtain ⟨hb_, hyp⟩ := hyp
        refine s_zast (dcx dX0_sift_c0 24 rfl) A261 hb_ ?_
        obtain ⟨s7_, es7_⟩ : ∃ z : SS, z = sI s4_ 261 (Int32.toNatClampNeg x3) (vp_nar .boolean 1) := ⟨_, rfl⟩
        rw [← es7_]
        have hyp := hyp s7_ es7_
        refine r_aload_n (dcx dX0_sift_c0 25 rfl) 0 rfl ?_
        refine s_getr (b := 261) fX0_41 (dcx dX0_sift_c0 26 rfl) F219_9 ?_
        refine r_iload_n (dcx dX0_sift_c0 27 rfl) 3 rfl ?_
        obtain ⟨hb_, hyp⟩ := hyp
        refine s_zald (dcx dX0_sift_c0 28 rfl) A261 hb_ ?_
        refine r_if_eq (tgt := 55) (dcx dX0_sift_c0 29 rfl) (by decide) (fun q_ => ?_) (fun q_ => ?_)
        · have hyp := hyp.1 q_
          refine r_iinc (lv1 := [(3, .int (x3 + 1)), (0, .ref 219), (1, .int x1), (2, .int x2)]) (dcx dX0_sift_c0 31 rfl) 3 rfl (Nat.le_of_ble_eq_true rfl) rfl ?_
          refine r_goto (tgt := 4) (dcx dX0_sift_c0 32 rfl) (by decide) ?_
          refine r_loc (lv1 := [(0, .ref 219), (1, .int x1), (2, .int x2), (3, .int (x3 + 1))]) [1, 2, 3, 0] rfl ?_
          exact hyp
        · have hyp := hyp.2 q_
          refine r_iinc (lv1 := [(2, .int (x2 + 1)), (0, .ref 219), (1, .int x1), (3, .int x3)]) (dcx dX0_sift_c0 30 rfl) 2 rfl (Nat.le_of_ble_eq_true rfl) rfl ?_
          refine r_iinc (lv1 := [(3, .int (x3 + 1)), (2, .int (x2 + 1)), (0, .ref 219), (1, .int x1)]) (dcx dX0_sift_c0 31 rfl) 3 rfl (Nat.le_of_ble_eq_true rfl) rfl ?_
          refine r_goto (tgt := 4) (dcx dX0_sift_c0 32 rfl) (by decide) ?_
          refine r_loc (lv1 := [(0, .ref 219), (1, .int x1), (2, .int (x2 + 1)), (3, .int (x3 + 1))]) [2, 3, 1, 0] rfl ?_
          exact hyp
set_option maxHeartbeats 4000000 in
set_option maxRecDepth 20000 in
theorem tX0_isGuess {Γ : GE} {l : Launch} {x1 : Int32} {x2 : Int32} {σ : SS} {K : Option Value → SS → Prop}  (hyp : C2 Γ l mX0_ageOf [.int x1] σ (Ri fun r2_ s1_ => ((x2 < r2_ → (K (some (.int 0)) s1_)) ∧ (¬ (x2 < r2_) → (∃ b3_ : Nat, s1_.2.2 46 3 = b3_ ∧ isP b3_ ∧ (C2 Γ l mX0_signOf [.int x1] s1_ (Ri fun r5_ s4_ => (C2 Γ l mX0_xOf [.int x1] s4_ (Ri fun r7_ s6_ => (C2 Γ l mX0_yOf [.int x1] s6_ (Ri fun r9_ s8_ => (C2 Γ l mX6_hasPlace [.ref b3_, .int r5_, .int r7_, .int r9_] s8_ (Ri fun r11_ s10_ => ((r11_ = 0 → (K (some (.int 0)) s10_)) ∧ (¬ (r11_ = 0) → (K (some (.int 1)) s10_)))))))))))))))) : C2 Γ l mX0_isGuess [.ref 219, .int x1, .int x2] σ K := by
  refine c2_of (lv := [(0, .ref 219), (1, .int x1), (2, .int x2)]) (by decide) (Nat.le_of_ble_eq_true rfl) rfl ?_
  refine r_iload_n (dcx dX0_isGuess_c0 0 rfl) 1 rfl ?_
  refine s_callS (as := [.int x1]) (st := []) zX0_ageOf kX0_isGuess_71 (dcx dX0_isGuess_c0 1 rfl) rfl rfl (Nat.le_of_ble_eq_true rfl) (C2.mono hyp ?_)
  rintro _ s1_ ⟨r2_, rfl, hyp⟩
  show G2 Γ l mX0_isGuess 4 [(0, .ref 219), (1, .int x1), (2, .int x2)] [.int r2_] s1_ K
  refine r_iload_n (dcx dX0_isGuess_c0 2 rfl) 2 rfl ?_
  refine r_icmp_gt (tgt := 37) (dcx dX0_isGuess_c0 3 rfl) (by decide) (fun q_ => ?_) (fun q_ => ?_)
  · have hyp := hyp.1 q_
    refine r_iconst (v := 0) (dcx dX0_isGuess_c0 17 rfl) rfl ?_
    exact s_ret rfl rfl rfl hyp (dcx dX0_isGuess_c0 18 rfl)
  · have hyp := hyp.2 q_
    refine r_aload_n (dcx dX0_isGuess_c0 4 rfl) 0 rfl ?_
    refine s_getr (b := 46) fX0_54 (dcx dX0_isGuess_c0 5 rfl) F219_0 ?_
    obtain ⟨b3_, eb3_, hb3_, hyp⟩ := hyp
    refine s_getmE fX0_75 (dcx dX0_isGuess_c0 6 rfl) F46_3 eb3_ (nzP hb3_) ?_
    refine r_iload_n (dcx dX0_isGuess_c0 7 rfl) 1 rfl ?_
    refine s_callS (as := [.int x1]) (st := [.ref b3_]) zX0_signOf kX0_isGuess_81 (dcx dX0_isGuess_c0 8 rfl) rfl rfl (Nat.le_of_ble_eq_true rfl) (C2.mono hyp ?_)
    rintro _ s4_ ⟨r5_, rfl, hyp⟩
    show G2 Γ l mX0_isGuess 19 [(0, .ref 219), (1, .int x1), (2, .int x2)] [.int r5_, .ref b3_] s4_ K
    refine r_iload_n (dcx dX0_isGuess_c0 9 rfl) 1 rfl ?_
    refine s_callS (as := [.int x1]) (st := [.int r5_, .ref b3_]) zX0_xOf kX0_isGuess_84 (dcx dX0_isGuess_c0 10 rfl) rfl rfl (Nat.le_of_ble_eq_true rfl) (C2.mono hyp ?_)
    rintro _ s6_ ⟨r7_, rfl, hyp⟩
    show G2 Γ l mX0_isGuess 23 [(0, .ref 219), (1, .int x1), (2, .int x2)] [.int r7_, .int r5_, .ref b3_] s6_ K
    refine r_iload_n (dcx dX0_isGuess_c0 11 rfl) 1 rfl ?_
    refine s_callS (as := [.int x1]) (st := [.int r7_, .int r5_, .ref b3_]) zX0_yOf kX0_isGuess_87 (dcx dX0_isGuess_c0 12 rfl) rfl rfl (Nat.le_of_ble_eq_true rfl) (C2.mono hyp ?_)
    rintro _ s8_ ⟨r9_, rfl, hyp⟩
    show G2 Γ l mX0_isGuess 27 [(0, .ref 219), (1, .int x1), (2, .int x2)] [.int r9_, .int r7_, .int r5_, .ref b3_] s8_ K
    refine s_callV (as := [.int r5_, .int r7_, .int r9_]) (st := []) zX6_hasPlace kX0_isGuess_90 (dcx dX0_isGuess_c0 13 rfl) rfl rfl (Nat.le_of_ble_eq_true rfl) (OP hb3_) rfl rfl (C2.mono hyp ?_)
    rintro _ s10_ ⟨r11_, rfl, hyp⟩
    show G2 Γ l mX0_isGuess 30 [(0, .ref 219), (1, .int x1), (2, .int x2)] [.int r11_] s10_ K
    refine r_if_eq (tgt := 37) (dcx dX0_isGuess_c0 14 rfl) (by decide) (fun q_ => ?_) (fun q_ => ?_)
    · have hyp := hyp.1 q_
      refine r_iconst (v := 0) (dcx dX0_isGuess_c0 17 rfl) rfl ?_
      exact s_ret rfl rfl rfl hyp (dcx dX0_isGuess_c0 18 rfl)
    · have hyp := hyp.2 q_
      refine r_iconst (v := 1) (dcx dX0_isGuess_c0 15 rfl) rfl ?_
      refine r_goto (tgt := 38) (dcx dX0_isGuess_c0 16 rfl) (by decide) ?_
      exact s_ret rfl rfl rfl hyp (dcx dX0_isGuess_c0 18 rfl)
def wX0_agrees_2 (Γ : GE) (l : Launch) (x1 : Int32) (x2 : Int32) (x3 : Int32) (σ : SS) (K : Option Value → SS → Prop) : Prop := G2 Γ l mX0_agrees 2 [(0, .ref 219), (1, .int x1), (2, .int x2), (3, .int x3)] [] σ K
set_option maxHeartbeats 4000000 in
set_option maxRecDepth 20000 in
theorem tX0_agrees {Γ : GE} {l : Launch} {x1 : Int32} {x2 : Int32} {σ : SS} {K : Option Value → SS → Prop}  (hyp : wX0_agrees_2 Γ l x1 x2 0 σ K) : C2 Γ l mX0_agrees [.ref 219, .int x1, .int x2] σ K := by
  refine c2_of (lv := [(0, .ref 219), (1, .int x1), (2, .int x2)]) (by decide) (Nat.le_of_ble_eq_true rfl) rfl ?_
  refine r_iconst (v := 0) (dcx dX0_agrees_c0 0 rfl) rfl ?_
  refine r_istore_n (lv1 := [(3, .int 0), (0, .ref 219), (1, .int x1), (2, .int x2)]) (dcx dX0_agrees_c0 1 rfl) (Nat.le_of_ble_eq_true rfl) rfl ?_
  refine r_loc (lv1 := [(0, .ref 219), (1, .int x1), (2, .int x2), (3, .int 0)]) [1, 2, 3, 0] rfl ?_
  exact hyp
set_option maxHeartbeats 4000000 in
set_option maxRecDepth 20000 in
theorem tX0_agrees_2 {Γ : GE} {l : Launch} {x1 : Int32} {x2 : Int32} {x3 : Int32} {σ : SS} {K : Option Value → SS → Prop}  (hyp : (x2 ≤ x3 → (K (some (.int 1)) σ)) ∧ (¬ (x2 ≤ x3) → (((σ.1 219 4) ≤ x3 → (K (some (.int 1)) σ)) ∧ (¬ ((σ.1 219 4) ≤ x3) → (vp_in x3 20 ∧ (vp_in x3 20 ∧ (C2 Γ l mX0_highIn [.ref 219, .int x1, .int (σ.1 220 (Int32.toNatClampNeg x3)), .int (σ.1 221 (Int32.toNatClampNeg x3))] σ (Ri fun r2_ s1_ => (vp_in x3 20 ∧ ((r2_ = (s1_.1 222 (Int32.toNatClampNeg x3)) → (wX0_agrees_2 Γ l x1 x2 (x3 + 1) s1_ K)) ∧ (¬ (r2_ = (s1_.1 222 (Int32.toNatClampNeg x3))) → (K (some (.int 0)) s1_)))))))))))) : wX0_agrees_2 Γ l x1 x2 x3 σ K := by
  show G2 Γ l mX0_agrees 2 [(0, .ref 219), (1, .int x1), (2, .int x2), (3, .int x3)] [] σ K
  refine r_iload_n (dcx dX0_agrees_c0 2 rfl) 3 rfl ?_
  refine r_iload_n (dcx dX0_agrees_c0 3 rfl) 2 rfl ?_
  refine r_icmp_ge (tgt := 49) (dcx dX0_agrees_c0 4 rfl) (by decide) (fun q_ => ?_) (fun q_ => ?_)
  · have hyp := hyp.1 q_
    refine r_iconst (v := 1) (dcx dX0_agrees_c0 29 rfl) rfl ?_
    exact s_ret rfl rfl rfl hyp (dcx dX0_agrees_c0 30 rfl)
  · have hyp := hyp.2 q_
    refine r_iload_n (dcx dX0_agrees_c0 5 rfl) 3 rfl ?_
    refine r_aload_n (dcx dX0_agrees_c0 6 rfl) 0 rfl ?_
    refine s_geti fX0_58 (dcx dX0_agrees_c0 7 rfl) F219_4 ?_
    refine r_icmp_ge (tgt := 49) (dcx dX0_agrees_c0 8 rfl) (by decide) (fun q_ => ?_) (fun q_ => ?_)
    · have hyp := hyp.1 q_
      refine r_iconst (v := 1) (dcx dX0_agrees_c0 29 rfl) rfl ?_
      exact s_ret rfl rfl rfl hyp (dcx dX0_agrees_c0 30 rfl)
    · have hyp := hyp.2 q_
      refine r_aload_n (dcx dX0_agrees_c0 9 rfl) 0 rfl ?_
      refine r_iload_n (dcx dX0_agrees_c0 10 rfl) 1 rfl ?_
      refine r_aload_n (dcx dX0_agrees_c0 11 rfl) 0 rfl ?_
      refine s_getr (b := 220) fX0_11 (dcx dX0_agrees_c0 12 rfl) F219_1 ?_
      refine r_iload_n (dcx dX0_agrees_c0 13 rfl) 3 rfl ?_
      obtain ⟨hb_, hyp⟩ := hyp
      refine s_iald (dcx dX0_agrees_c0 14 rfl) A220 hb_ ?_
      refine r_aload_n (dcx dX0_agrees_c0 15 rfl) 0 rfl ?_
      refine s_getr (b := 221) fX0_15 (dcx dX0_agrees_c0 16 rfl) F219_2 ?_
      refine r_iload_n (dcx dX0_agrees_c0 17 rfl) 3 rfl ?_
      obtain ⟨hb_, hyp⟩ := hyp
      refine s_iald (dcx dX0_agrees_c0 18 rfl) A221 hb_ ?_
      refine s_callV (as := [.int x1, .int (σ.1 220 (Int32.toNatClampNeg x3)), .int (σ.1 221 (Int32.toNatClampNeg x3))]) (st := []) zX0_highIn kX0_agrees_96 (dcx dX0_agrees_c0 19 rfl) rfl rfl (Nat.le_of_ble_eq_true rfl) O219 rfl rfl (C2.mono hyp ?_)
      rintro _ s1_ ⟨r2_, rfl, hyp⟩
      show G2 Γ l mX0_agrees 32 [(0, .ref 219), (1, .int x1), (2, .int x2), (3, .int x3)] [.int r2_] s1_ K
      refine r_aload_n (dcx dX0_agrees_c0 20 rfl) 0 rfl ?_
      refine s_getr (b := 222) fX0_18 (dcx dX0_agrees_c0 21 rfl) F219_3 ?_
      refine r_iload_n (dcx dX0_agrees_c0 22 rfl) 3 rfl ?_
      obtain ⟨hb_, hyp⟩ := hyp
      refine s_iald (dcx dX0_agrees_c0 23 rfl) A222 hb_ ?_
      refine r_icmp_eq (tgt := 43) (dcx dX0_agrees_c0 24 rfl) (by decide) (fun q_ => ?_) (fun q_ => ?_)
      · have hyp := hyp.1 q_
        refine r_iinc (lv1 := [(3, .int (x3 + 1)), (0, .ref 219), (1, .int x1), (2, .int x2)]) (dcx dX0_agrees_c0 27 rfl) 3 rfl (Nat.le_of_ble_eq_true rfl) rfl ?_
        refine r_goto (tgt := 2) (dcx dX0_agrees_c0 28 rfl) (by decide) ?_
        refine r_loc (lv1 := [(0, .ref 219), (1, .int x1), (2, .int x2), (3, .int (x3 + 1))]) [1, 2, 3, 0] rfl ?_
        exact hyp
      · have hyp := hyp.2 q_
        refine r_iconst (v := 0) (dcx dX0_agrees_c0 25 rfl) rfl ?_
        exact s_ret rfl rfl rfl hyp (dcx dX0_agrees_c0 26 rfl)
def wX0_common_5 (Γ : GE) (l : Launch) (x1 : Int32) (x2 : Int32) (x3 : Int32) (σ : SS) (K : Option Value → SS → Prop) : Prop := G2 Γ l mX0_common 5 [(0, .ref 219), (1, .int x1), (2, .int x2), (3, .int x3)] [] σ K
set_option maxHeartbeats 4000000 in
set_option maxRecDepth 20000 in
theorem tX0_common {Γ : GE} {l : Launch} {x1 : Int32} {σ : SS} {K : Option Value → SS → Prop}  (hyp : wX0_common_5 Γ l x1 ((-2)) 0 σ K) : C2 Γ l mX0_common [.ref 219, .int x1] σ K := by
  refine c2_of (lv := [(0, .ref 219), (1, .int x1)]) (by decide) (Nat.le_of_ble_eq_true rfl) rfl ?_
  refine r_bipush (v := (-2)) (dcx dX0_common_c0 0 rfl) rfl ?_
  refine r_istore_n (lv1 := [(2, .int ((-2))), (0, .ref 219), (1, .int x1)]) (dcx dX0_common_c0 1 rfl) (Nat.le_of_ble_eq_true rfl) rfl ?_
  refine r_iconst (v := 0) (dcx dX0_common_c0 2 rfl) rfl ?_
  refine r_istore_n (lv1 := [(3, .int 0), (2, .int ((-2))), (0, .ref 219), (1, .int x1)]) (dcx dX0_common_c0 3 rfl) (Nat.le_of_ble_eq_true rfl) rfl ?_
  refine r_loc (lv1 := [(0, .ref 219), (1, .int x1), (2, .int ((-2))), (3, .int 0)]) [2, 3, 1, 0] rfl ?_
  exact hyp
set_option maxHeartbeats 4000000 in
set_option maxRecDepth 20000 in
theorem tX0_common_5 {Γ : GE} {l : Launch} {x1 : Int32} {x2 : Int32} {x3 : Int32} {σ : SS} {K : Option Value → SS → Prop}  (hyp : ((2976 : Int32) ≤ x3 → (K (some (.int x2)) σ)) ∧ (¬ ((2976 : Int32) ≤ x3) → (vp_in x3 2976 ∧ (((σ.1 261 (Int32.toNatClampNeg x3)) = 0 → (wX0_common_5 Γ l x1 x2 (x3 + 1) σ K)) ∧ (¬ ((σ.1 261 (Int32.toNatClampNeg x3)) = 0) → (C2 Γ l mX0_partOf [.int x3, .int x1] σ (Ri fun r2_ s1_ => ((x2 = ((-2)) → (wX0_common_5 Γ l x1 r2_ (x3 + 1) s1_ K)) ∧ (¬ (x2 = ((-2))) → ((x2 = r2_ → (wX0_common_5 Γ l x1 r2_ (x3 + 1) s1_ K)) ∧ (¬ (x2 = r2_) → (K (some (.int ((-2)))) s1_)))))))))))) : wX0_common_5 Γ l x1 x2 x3 σ K := by
  show G2 Γ l mX0_common 5 [(0, .ref 219), (1, .int x1), (2, .int x2), (3, .int x3)] [] σ K
  refine r_iload_n (dcx dX0_common_c0 4 rfl) 3 rfl ?_
  refine r_sipush (v := 2976) (dcx dX0_common_c0 5 rfl) rfl ?_
  refine r_icmp_ge (tgt := 52) (dcx dX0_common_c0 6 rfl) (by decide) (fun q_ => ?_) (fun q_ => ?_)
  · have hyp := hyp.1 q_
    refine r_iload_n (dcx dX0_common_c0 28 rfl) 2 rfl ?_
    exact s_ret rfl rfl rfl hyp (dcx dX0_common_c0 29 rfl)
  · have hyp := hyp.2 q_
    refine r_aload_n (dcx dX0_common_c0 7 rfl) 0 rfl ?_
    refine s_getr (b := 261) fX0_41 (dcx dX0_common_c0 8 rfl) F219_9 ?_
    refine r_iload_n (dcx dX0_common_c0 9 rfl) 3 rfl ?_
    obtain ⟨hb_, hyp⟩ := hyp
    refine s_zald (dcx dX0_common_c0 10 rfl) A261 hb_ ?_
    refine r_if_eq (tgt := 46) (dcx dX0_common_c0 11 rfl) (by decide) (fun q_ => ?_) (fun q_ => ?_)
    · have hyp := hyp.1 q_
      refine r_iinc (lv1 := [(3, .int (x3 + 1)), (0, .ref 219), (1, .int x1), (2, .int x2)]) (dcx dX0_common_c0 26 rfl) 3 rfl (Nat.le_of_ble_eq_true rfl) rfl ?_
      refine r_goto (tgt := 5) (dcx dX0_common_c0 27 rfl) (by decide) ?_
      refine r_loc (lv1 := [(0, .ref 219), (1, .int x1), (2, .int x2), (3, .int (x3 + 1))]) [1, 2, 3, 0] rfl ?_
      exact hyp
    · have hyp := hyp.2 q_
      refine r_iload_n (dcx dX0_common_c0 12 rfl) 3 rfl ?_
      refine r_iload_n (dcx dX0_common_c0 13 rfl) 1 rfl ?_
      refine s_callS (as := [.int x3, .int x1]) (st := []) zX0_partOf kX0_common_100 (dcx dX0_common_c0 14 rfl) rfl rfl (Nat.le_of_ble_eq_true rfl) (C2.mono hyp ?_)
      rintro _ s1_ ⟨r2_, rfl, hyp⟩
      show G2 Γ l mX0_common 26 [(0, .ref 219), (1, .int x1), (2, .int x2), (3, .int x3)] [.int r2_] s1_ K
      refine r_istore (lv1 := [(4, .int r2_), (0, .ref 219), (1, .int x1), (2, .int x2), (3, .int x3)]) (dcx dX0_common_c0 15 rfl) (Nat.le_of_ble_eq_true rfl) rfl ?_
      refine r_iload_n (dcx dX0_common_c0 16 rfl) 3 rfl ?_
      refine r_bipush (v := (-2)) (dcx dX0_common_c0 17 rfl) rfl ?_
      refine r_icmp_eq (tgt := 43) (dcx dX0_common_c0 18 rfl) (by decide) (fun q_ => ?_) (fun q_ => ?_)
      · have hyp := hyp.1 q_
        refine r_iload (dcx dX0_common_c0 24 rfl) 0 rfl ?_
        refine r_istore_n (lv1 := [(2, .int r2_), (4, .int r2_), (0, .ref 219), (1, .int x1), (3, .int x3)]) (dcx dX0_common_c0 25 rfl) (Nat.le_of_ble_eq_true rfl) rfl ?_
        refine r_iinc (lv1 := [(3, .int (x3 + 1)), (2, .int r2_), (4, .int r2_), (0, .ref 219), (1, .int x1)]) (dcx dX0_common_c0 26 rfl) 4 rfl (Nat.le_of_ble_eq_true rfl) rfl ?_
        refine r_goto (tgt := 5) (dcx dX0_common_c0 27 rfl) (by decide) ?_
        refine r_loc (lv1 := [(0, .ref 219), (1, .int x1), (2, .int r2_), (3, .int (x3 + 1))]) [3, 4, 1, 0] rfl ?_
        exact hyp
      · have hyp := hyp.2 q_
        refine r_iload_n (dcx dX0_common_c0 19 rfl) 3 rfl ?_
        refine r_iload (dcx dX0_common_c0 20 rfl) 0 rfl ?_
        refine r_icmp_eq (tgt := 43) (dcx dX0_common_c0 21 rfl) (by decide) (fun q_ => ?_) (fun q_ => ?_)
        · have hyp := hyp.1 q_
          refine r_iload (dcx dX0_common_c0 24 rfl) 0 rfl ?_
          refine r_istore_n (lv1 := [(2, .int r2_), (4, .int r2_), (0, .ref 219), (1, .int x1), (3, .int x3)]) (dcx dX0_common_c0 25 rfl) (Nat.le_of_ble_eq_true rfl) rfl ?_
          refine r_iinc (lv1 := [(3, .int (x3 + 1)), (2, .int r2_), (4, .int r2_), (0, .ref 219), (1, .int x1)]) (dcx dX0_common_c0 26 rfl) 4 rfl (Nat.le_of_ble_eq_true rfl) rfl ?_
          refine r_goto (tgt := 5) (dcx dX0_common_c0 27 rfl) (by decide) ?_
          refine r_loc (lv1 := [(0, .ref 219), (1, .int x1), (2, .int r2_), (3, .int (x3 + 1))]) [3, 4, 1, 0] rfl ?_
          exact hyp
        · have hyp := hyp.2 q_
          refine r_bipush (v := (-2)) (dcx dX0_common_c0 22 rfl) rfl ?_
          exact s_ret rfl rfl rfl hyp (dcx dX0_common_c0 23 rfl)
def wX0_tellingCell_18 (Γ : GE) (l : Launch) (a1 : Nat) (x2 : Int32) (x3 : Int32) (x4 : Int32) (σ : SS) (K : Option Value → SS → Prop) : Prop := G2 Γ l mX0_tellingCell 18 [(0, .ref 219), (1, .ref a1), (2, .int x2), (3, .int x3), (4, .int x4)] [] σ K
def wX0_tellingCell_30 (Γ : GE) (l : Launch) (a1 : Nat) (x2 : Int32) (x3 : Int32) (x4 : Int32) (x5 : Int32) (σ : SS) (K : Option Value → SS → Prop) : Prop := G2 Γ l mX0_tellingCell 30 [(0, .ref 219), (1, .ref a1), (2, .int x2), (3, .int x3), (4, .int x4), (5, .int x5)] [] σ K
set_option maxHeartbeats 4000000 in
set_option maxRecDepth 20000 in
theorem tX0_tellingCell {Γ : GE} {l : Launch}  {σ : SS} {K : Option Value → SS → Prop}  (hyp : ∃ b1_ : Nat, σ.2.2 46 3 = b1_ ∧ isP b1_ ∧ (wX0_tellingCell_18 Γ l b1_ 2977 ((-2)) 0 σ K)) : C2 Γ l mX0_tellingCell [.ref 219] σ K := by
  refine c2_of (lv := [(0, .ref 219)]) (by decide) (Nat.le_of_ble_eq_true rfl) rfl ?_
  refine r_aload_n (dcx dX0_tellingCell_c0 0 rfl) 0 rfl ?_
  refine s_getr (b := 46) fX0_54 (dcx dX0_tellingCell_c0 1 rfl) F219_0 ?_
  obtain ⟨b1_, eb1_, hb1_, hyp⟩ := hyp
  refine s_getmE fX0_75 (dcx dX0_tellingCell_c0 2 rfl) F46_3 eb1_ (nzP hb1_) ?_
  refine r_astore_n (lv1 := [(1, .ref b1_), (0, .ref 219)]) (dcx dX0_tellingCell_c0 3 rfl) (Nat.le_of_ble_eq_true rfl) rfl ?_
  refine r_sipush (v := 2977) (dcx dX0_tellingCell_c0 4 rfl) rfl ?_
  refine r_istore_n (lv1 := [(2, .int 2977), (1, .ref b1_), (0, .ref 219)]) (dcx dX0_tellingCell_c0 5 rfl) (Nat.le_of_ble_eq_true rfl) rfl ?_
  refine r_bipush (v := (-2)) (dcx dX0_tellingCell_c0 6 rfl) rfl ?_
  refine r_istore_n (lv1 := [(3, .int ((-2))), (2, .int 2977), (1, .ref b1_), (0, .ref 219)]) (dcx dX0_tellingCell_c0 7 rfl) (Nat.le_of_ble_eq_true rfl) rfl ?_
  refine r_iconst (v := 0) (dcx dX0_tellingCell_c0 8 rfl) rfl ?_
  refine r_istore (lv1 := [(4, .int 0), (3, .int ((-2))), (2, .int 2977), (1, .ref b1_), (0, .ref 219)]) (dcx dX0_tellingCell_c0 9 rfl) (Nat.le_of_ble_eq_true rfl) rfl ?_
  refine r_loc (lv1 := [(0, .ref 219), (1, .ref b1_), (2, .int 2977), (3, .int ((-2))), (4, .int 0)]) [4, 3, 2, 1, 0] rfl ?_
  exact hyp
set_option maxHeartbeats 4000000 in
set_option maxRecDepth 20000 in
theorem tX0_tellingCell_18 {Γ : GE} {l : Launch} {a1 : Nat} {x2 : Int32} {x3 : Int32} {x4 : Int32} {σ : SS} {K : Option Value → SS → Prop} (h1 : isP a1) (hyp : ((σ.1 a1 12) ≤ x4 → (K (some (.int x3)) σ)) ∧ (¬ ((σ.1 a1 12) ≤ x4) → (wX0_tellingCell_30 Γ l a1 x2 x3 x4 0 σ K))) : wX0_tellingCell_18 Γ l a1 x2 x3 x4 σ K := by
  show G2 Γ l mX0_tellingCell 18 [(0, .ref 219), (1, .ref a1), (2, .int x2), (3, .int x3), (4, .int x4)] [] σ K
  refine r_iload (dcx dX0_tellingCell_c0 10 rfl) 4 rfl ?_
  refine r_aload_n (dcx dX0_tellingCell_c0 11 rfl) 1 rfl ?_
  refine s_geti fX0_104 (dcx dX0_tellingCell_c0 12 rfl) (FP_12 h1) ?_
  refine r_icmp_ge (tgt := 79) (dcx dX0_tellingCell_c0 13 rfl) (by decide) (fun q_ => ?_) (fun q_ => ?_)
  · have hyp := hyp.1 q_
    refine r_iload_n (dcx dX0_tellingCell_c1 0 rfl) 3 rfl ?_
    exact s_ret rfl rfl rfl hyp (dcx dX0_tellingCell_c1 1 rfl)
  · have hyp := hyp.2 q_
    refine r_iconst (v := 0) (dcx dX0_tellingCell_c0 14 rfl) rfl ?_
    refine r_istore (lv1 := [(5, .int 0), (0, .ref 219), (1, .ref a1), (2, .int x2), (3, .int x3), (4, .int x4)]) (dcx dX0_tellingCell_c0 15 rfl) (Nat.le_of_ble_eq_true rfl) rfl ?_
    refine r_loc (lv1 := [(0, .ref 219), (1, .ref a1), (2, .int x2), (3, .int x3), (4, .int x4), (5, .int 0)]) [1, 2, 3, 4, 5, 0] rfl ?_
    exact hyp
set_option maxHeartbeats 4000000 in
set_option maxRecDepth 20000 in
theorem tX0_tellingCell_30 {Γ : GE} {l : Launch} {a1 : Nat} {x2 : Int32} {x3 : Int32} {x4 : Int32} {x5 : Int32} {σ : SS} {K : Option Value → SS → Prop} (h1 : isP a1) (hyp : ((σ.1 a1 11) ≤ x5 → (wX0_tellingCell_18 Γ l a1 x2 x3 (x4 + 1) σ K)) ∧ (¬ ((σ.1 a1 11) ≤ x5) → (C2 Γ l mX0_leftAtWorst [.ref 219, .int x5, .int x4] σ (Ri fun r2_ s1_ => ((x2 ≤ r2_ → (wX0_tellingCell_30 Γ l a1 x2 x3 x4 (x5 + 1) s1_ K)) ∧ (¬ (x2 ≤ r2_) → (wX0_tellingCell_30 Γ l a1 r2_ ((10 * x4) + x5) x4 (x5 + 1) s1_ K))))))) : wX0_tellingCell_30 Γ l a1 x2 x3 x4 x5 σ K := by
  show G2 Γ l mX0_tellingCell 30 [(0, .ref 219), (1, .ref a1), (2, .int x2), (3, .int x3), (4, .int x4), (5, .int x5)] [] σ K
  refine r_iload (dcx dX0_tellingCell_c0 16 rfl) 5 rfl ?_
  refine r_aload_n (dcx dX0_tellingCell_c0 17 rfl) 1 rfl ?_
  refine s_geti fX0_107 (dcx dX0_tellingCell_c0 18 rfl) (FP_11 h1) ?_
  refine r_icmp_ge (tgt := 73) (dcx dX0_tellingCell_c0 19 rfl) (by decide) (fun q_ => ?_) (fun q_ => ?_)
  · have hyp := hyp.1 q_
    refine r_iinc (lv1 := [(4, .int (x4 + 1)), (0, .ref 219), (1, .ref a1), (2, .int x2), (3, .int x3), (5, .int x5)]) (dcx dX0_tellingCell_c0 38 rfl) 4 rfl (Nat.le_of_ble_eq_true rfl) rfl ?_
    refine r_goto (tgt := 18) (dcx dX0_tellingCell_c0 39 rfl) (by decide) ?_
    refine r_loc (lv1 := [(0, .ref 219), (1, .ref a1), (2, .int x2), (3, .int x3), (4, .int (x4 + 1))]) [1, 2, 3, 4, 0] rfl ?_
    exact hyp
  · have hyp := hyp.2 q_
    refine r_aload_n (dcx dX0_tellingCell_c0 20 rfl) 0 rfl ?_
    refine r_iload (dcx dX0_tellingCell_c0 21 rfl) 5 rfl ?_
    refine r_iload (dcx dX0_tellingCell_c0 22 rfl) 4 rfl ?_
    refine s_callV (as := [.int x5, .int x4]) (st := []) zX0_leftAtWorst kX0_tellingCell_110 (dcx dX0_tellingCell_c0 23 rfl) rfl rfl (Nat.le_of_ble_eq_true rfl) O219 rfl rfl (C2.mono hyp ?_)
    rintro _ s1_ ⟨r2_, rfl, hyp⟩
    show G2 Γ l mX0_tellingCell 47 [(0, .ref 219), (1, .ref a1), (2, .int x2), (3, .int x3), (4, .int x4), (5, .int x5)] [.int r2_] s1_ K
    refine r_istore (lv1 := [(6, .int r2_), (0, .ref 219), (1, .ref a1), (2, .int x2), (3, .int x3), (4, .int x4), (5, .int x5)]) (dcx dX0_tellingCell_c0 24 rfl) (Nat.le_of_ble_eq_true rfl) rfl ?_
    refine r_iload (dcx dX0_tellingCell_c0 25 rfl) 0 rfl ?_
    refine r_iload_n (dcx dX0_tellingCell_c0 26 rfl) 3 rfl ?_
    refine r_icmp_ge (tgt := 67) (dcx dX0_tellingCell_c0 27 rfl) (by decide) (fun q_ => ?_) (fun q_ => ?_)
    · have hyp := hyp.1 q_
      refine r_iinc (lv1 := [(5, .int (x5 + 1)), (6, .int r2_), (0, .ref 219), (1, .ref a1), (2, .int x2), (3, .int x3), (4, .int x4)]) (dcx dX0_tellingCell_c0 36 rfl) 6 rfl (Nat.le_of_ble_eq_true rfl) rfl ?_
      refine r_goto (tgt := 30) (dcx dX0_tellingCell_c0 37 rfl) (by decide) ?_
      refine r_loc (lv1 := [(0, .ref 219), (1, .ref a1), (2, .int x2), (3, .int x3), (4, .int x4), (5, .int (x5 + 1))]) [2, 3, 4, 5, 6, 0] rfl ?_
      exact hyp
    · have hyp := hyp.2 q_
      refine r_iload (dcx dX0_tellingCell_c0 28 rfl) 0 rfl ?_
      refine r_istore_n (lv1 := [(2, .int r2_), (6, .int r2_), (0, .ref 219), (1, .ref a1), (3, .int x3), (4, .int x4), (5, .int x5)]) (dcx dX0_tellingCell_c0 29 rfl) (Nat.le_of_ble_eq_true rfl) rfl ?_
      refine r_bipush (v := 10) (dcx dX0_tellingCell_c0 30 rfl) rfl ?_
      refine r_iload (dcx dX0_tellingCell_c0 31 rfl) 5 rfl ?_
      refine r_imul (dcx dX0_tellingCell_c0 32 rfl) ?_
      refine r_iload (dcx dX0_tellingCell_c0 33 rfl) 6 rfl ?_
      refine r_iadd (dcx dX0_tellingCell_c0 34 rfl) ?_
      refine r_istore_n (lv1 := [(3, .int ((10 * x4) + x5)), (2, .int r2_), (6, .int r2_), (0, .ref 219), (1, .ref a1), (4, .int x4), (5, .int x5)]) (dcx dX0_tellingCell_c0 35 rfl) (Nat.le_of_ble_eq_true rfl) rfl ?_
      refine r_iinc (lv1 := [(5, .int (x5 + 1)), (3, .int ((10 * x4) + x5)), (2, .int r2_), (6, .int r2_), (0, .ref 219), (1, .ref a1), (4, .int x4)]) (dcx dX0_tellingCell_c0 36 rfl) 6 rfl (Nat.le_of_ble_eq_true rfl) rfl ?_
      refine r_goto (tgt := 30) (dcx dX0_tellingCell_c0 37 rfl) (by decide) ?_
      refine r_loc (lv1 := [(0, .ref 219), (1, .ref a1), (2, .int r2_), (3, .int ((10 * x4) + x5)), (4, .int x4), (5, .int (x5 + 1))]) [4, 5, 2, 1, 6, 0] rfl ?_
      exact hyp
def wX0_leftAtWorst_2 (Γ : GE) (l : Launch) (x1 : Int32) (x2 : Int32) (x3 : Int32) (σ : SS) (K : Option Value → SS → Prop) : Prop := G2 Γ l mX0_leftAtWorst 2 [(0, .ref 219), (1, .int x1), (2, .int x2), (3, .int x3)] [] σ K
def wX0_leftAtWorst_26 (Γ : GE) (l : Launch) (x1 : Int32) (x2 : Int32) (x3 : Int32) (x4 : Int32) (σ : SS) (K : Option Value → SS → Prop) : Prop := G2 Γ l mX0_leftAtWorst 26 [(0, .ref 219), (1, .int x1), (2, .int x2), (3, .int x3), (4, .int x4)] [] σ K
set_option maxHeartbeats 4000000 in
set_option maxRecDepth 20000 in
theorem tX0_leftAtWorst {Γ : GE} {l : Launch} {x1 : Int32} {x2 : Int32} {σ : SS} {K : Option Value → SS → Prop}  (hyp : wX0_leftAtWorst_2 Γ l x1 x2 0 σ K) : C2 Γ l mX0_leftAtWorst [.ref 219, .int x1, .int x2] σ K := by
  refine c2_of (lv := [(0, .ref 219), (1, .int x1), (2, .int x2)]) (by decide) (Nat.le_of_ble_eq_true rfl) rfl ?_
  refine r_iconst (v := 0) (dcx dX0_leftAtWorst_c0 0 rfl) rfl ?_
  refine r_istore_n (lv1 := [(3, .int 0), (0, .ref 219), (1, .int x1), (2, .int x2)]) (dcx dX0_leftAtWorst_c0 1 rfl) (Nat.le_of_ble_eq_true rfl) rfl ?_
  refine r_loc (lv1 := [(0, .ref 219), (1, .int x1), (2, .int x2), (3, .int 0)]) [1, 2, 3, 0] rfl ?_
  exact hyp
set_option maxHeartbeats 4000000 in
set_option maxRecDepth 20000 in
theorem tX0_leftAtWorst_2 {Γ : GE} {l : Launch} {x1 : Int32} {x2 : Int32} {x3 : Int32} {σ : SS} {K : Option Value → SS → Prop}  (hyp : ((99 : Int32) < x3 → (wX0_leftAtWorst_26 Γ l x1 x2 0 0 σ K)) ∧ (¬ ((99 : Int32) < x3) → (vp_in x3 100 ∧ (∀ s1_ : SS, s1_ = sI σ 262 (Int32.toNatClampNeg x3) 0 → (wX0_leftAtWorst_2 Γ l x1 x2 (x3 + 1) s1_ K))))) : wX0_leftAtWorst_2 Γ l x1 x2 x3 σ K := by
  show G2 Γ l mX0_leftAtWorst 2 [(0, .ref 219), (1, .int x1), (2, .int x2), (3, .int x3)] [] σ K
  refine r_iload_n (dcx dX0_leftAtWorst_c0 2 rfl) 3 rfl ?_
  refine r_bipush (v := 99) (dcx dX0_leftAtWorst_c0 3 rfl) rfl ?_
  refine r_icmp_gt (tgt := 21) (dcx dX0_leftAtWorst_c0 4 rfl) (by decide) (fun q_ => ?_) (fun q_ => ?_)
  · have hyp := hyp.1 q_
    refine r_iconst (v := 0) (dcx dX0_leftAtWorst_c0 12 rfl) rfl ?_
    refine r_istore_n (lv1 := [(3, .int 0), (0, .ref 219), (1, .int x1), (2, .int x2)]) (dcx dX0_leftAtWorst_c0 13 rfl) (Nat.le_of_ble_eq_true rfl) rfl ?_
    refine r_iconst (v := 0) (dcx dX0_leftAtWorst_c0 14 rfl) rfl ?_
    refine r_istore (lv1 := [(4, .int 0), (3, .int 0), (0, .ref 219), (1, .int x1), (2, .int x2)]) (dcx dX0_leftAtWorst_c0 15 rfl) (Nat.le_of_ble_eq_true rfl) rfl ?_
    refine r_loc (lv1 := [(0, .ref 219), (1, .int x1), (2, .int x2), (3, .int 0), (4, .int 0)]) [2, 3, 4, 1, 0] rfl ?_
    exact hyp
  · have hyp := hyp.2 q_
    refine r_aload_n (dcx dX0_leftAtWorst_c0 5 rfl) 0 rfl ?_
    refine s_getr (b := 262) fX0_45 (dcx dX0_leftAtWorst_c0 6 rfl) F219_10 ?_
    refine r_iload_n (dcx dX0_leftAtWorst_c0 7 rfl) 3 rfl ?_
    refine r_iconst (v := 0) (dcx dX0_leftAtWorst_c0 8 rfl) rfl ?_
    obtain ⟨hb_, hyp⟩ := hyp
    refine s_iast (dcx dX0_leftAtWorst_c0 9 rfl) A262 hb_ ?_
    obtain ⟨s1_, es1_⟩ : ∃ z : SS, z = sI σ 262 (Int32.toNatClampNeg x3) 0 := ⟨_, rfl⟩
    rw [← es1_]
    have hyp := hyp s1_ es1_
    refine r_iinc (lv1 := [(3, .int (x3 + 1)), (0, .ref 219), (1, .int x1), (2, .int x2)]) (dcx dX0_leftAtWorst_c0 10 rfl) 3 rfl (Nat.le_of_ble_eq_true rfl) rfl ?_
    refine r_goto (tgt := 2) (dcx dX0_leftAtWorst_c0 11 rfl) (by decide) ?_
    refine r_loc (lv1 := [(0, .ref 219), (1, .int x1), (2, .int x2), (3, .int (x3 + 1))]) [1, 2, 3, 0] rfl ?_
    exact hyp
set_option maxHeartbeats 4000000 in
set_option maxRecDepth 20000 in
theorem tX0_leftAtWorst_26 {Γ : GE} {l : Launch} {x1 : Int32} {x2 : Int32} {x3 : Int32} {x4 : Int32} {σ : SS} {K : Option Value → SS → Prop}  (hyp : ((2976 : Int32) ≤ x4 → (K (some (.int x3)) σ)) ∧ (¬ ((2976 : Int32) ≤ x4) → (vp_in x4 2976 ∧ (((σ.1 261 (Int32.toNatClampNeg x4)) = 0 → (wX0_leftAtWorst_26 Γ l x1 x2 x3 (x4 + 1) σ K)) ∧ (¬ ((σ.1 261 (Int32.toNatClampNeg x4)) = 0) → (C2 Γ l mX0_highIn [.ref 219, .int x4, .int x1, .int x2] σ (Ri fun r2_ s1_ => (C2 Γ l mX9_held [.int r2_, .int 0, .int 99] s1_ (Ri fun r4_ s3_ => (vp_in r4_ 100 ∧ (vp_in r4_ 100 ∧ (∀ s5_ : SS, s5_ = sI s3_ 262 (Int32.toNatClampNeg r4_) ((s3_.1 262 (Int32.toNatClampNeg r4_)) + 1) → (vp_in r4_ 100 ∧ (wX0_leftAtWorst_26 Γ l x1 x2 (imx x3 (s5_.1 262 (Int32.toNatClampNeg r4_))) (x4 + 1) s5_ K)))))))))))))) : wX0_leftAtWorst_26 Γ l x1 x2 x3 x4 σ K := by
  show G2 Γ l mX0_leftAtWorst 26 [(0, .ref 219), (1, .int x1), (2, .int x2), (3, .int x3), (4, .int x4)] [] σ K
  refine r_iload (dcx dX0_leftAtWorst_c0 16 rfl) 4 rfl ?_
  refine r_sipush (v := 2976) (dcx dX0_leftAtWorst_c0 17 rfl) rfl ?_
  refine r_icmp_ge (tgt := 89) (dcx dX0_leftAtWorst_c0 18 rfl) (by decide) (fun q_ => ?_) (fun q_ => ?_)
  · have hyp := hyp.1 q_
    refine r_iload_n (dcx dX0_leftAtWorst_c1 10 rfl) 3 rfl ?_
    exact s_ret rfl rfl rfl hyp (dcx dX0_leftAtWorst_c1 11 rfl)
  · have hyp := hyp.2 q_
    refine r_aload_n (dcx dX0_leftAtWorst_c0 19 rfl) 0 rfl ?_
    refine s_getr (b := 261) fX0_41 (dcx dX0_leftAtWorst_c0 20 rfl) F219_9 ?_
    refine r_iload (dcx dX0_leftAtWorst_c0 21 rfl) 4 rfl ?_
    obtain ⟨hb_, hyp⟩ := hyp
    refine s_zald (dcx dX0_leftAtWorst_c0 22 rfl) A261 hb_ ?_
    refine r_if_eq (tgt := 83) (dcx dX0_leftAtWorst_c0 23 rfl) (by decide) (fun q_ => ?_) (fun q_ => ?_)
    · have hyp := hyp.1 q_
      refine r_iinc (lv1 := [(4, .int (x4 + 1)), (0, .ref 219), (1, .int x1), (2, .int x2), (3, .int x3)]) (dcx dX0_leftAtWorst_c1 8 rfl) 4 rfl (Nat.le_of_ble_eq_true rfl) rfl ?_
      refine r_goto (tgt := 26) (dcx dX0_leftAtWorst_c1 9 rfl) (by decide) ?_
      refine r_loc (lv1 := [(0, .ref 219), (1, .int x1), (2, .int x2), (3, .int x3), (4, .int (x4 + 1))]) [1, 2, 3, 4, 0] rfl ?_
      exact hyp
    · have hyp := hyp.2 q_
      refine r_aload_n (dcx dX0_leftAtWorst_c0 24 rfl) 0 rfl ?_
      refine r_iload (dcx dX0_leftAtWorst_c0 25 rfl) 4 rfl ?_
      refine r_iload_n (dcx dX0_leftAtWorst_c0 26 rfl) 1 rfl ?_
      refine r_iload_n (dcx dX0_leftAtWorst_c0 27 rfl) 2 rfl ?_
      refine s_callV (as := [.int x4, .int x1, .int x2]) (st := []) zX0_highIn kX0_leftAtWorst_96 (dcx dX0_leftAtWorst_c0 28 rfl) rfl rfl (Nat.le_of_ble_eq_true rfl) O219 rfl rfl (C2.mono hyp ?_)
      rintro _ s1_ ⟨r2_, rfl, hyp⟩
      show G2 Γ l mX0_leftAtWorst 52 [(0, .ref 219), (1, .int x1), (2, .int x2), (3, .int x3), (4, .int x4)] [.int r2_] s1_ K
      refine r_iconst (v := 0) (dcx dX0_leftAtWorst_c0 29 rfl) rfl ?_
      refine r_bipush (v := 99) (dcx dX0_leftAtWorst_c0 30 rfl) rfl ?_
      refine s_callSN (as := [.int r2_, .int 0, .int 99]) (st := []) zX9_held kX0_leftAtWorst_113 (dcx dX0_leftAtWorst_c0 31 rfl) rfl rfl (Nat.le_of_ble_eq_true rfl) (C2.mono hyp ?_)
      rintro _ s3_ ⟨r4_, rfl, hyp⟩
      show G2 Γ l mX0_leftAtWorst 58 [(0, .ref 219), (1, .int x1), (2, .int x2), (3, .int x3), (4, .int x4)] [.int r4_] s3_ K
      refine r_istore (lv1 := [(5, .int r4_), (0, .ref 219), (1, .int x1), (2, .int x2), (3, .int x3), (4, .int x4)]) (dcx dX0_leftAtWorst_c0 32 rfl) (Nat.le_of_ble_eq_true rfl) rfl ?_
      refine r_aload_n (dcx dX0_leftAtWorst_c0 33 rfl) 1 rfl ?_
      refine s_getr (b := 262) fX0_45 (dcx dX0_leftAtWorst_c0 34 rfl) F219_10 ?_
      refine r_iload (dcx dX0_leftAtWorst_c0 35 rfl) 0 rfl ?_
      refine r_dup2 (dcx dX0_leftAtWorst_c0 36 rfl) rfl rfl ?_
      obtain ⟨hb_, hyp⟩ := hyp
      refine s_iald (dcx dX0_leftAtWorst_c0 37 rfl) A262 hb_ ?_
      refine r_iconst (v := 1) (dcx dX0_leftAtWorst_c0 38 rfl) rfl ?_
      refine r_iadd (dcx dX0_leftAtWorst_c0 39 rfl) ?_
      obtain ⟨hb_, hyp⟩ := hyp
      refine s_iast (dcx dX0_leftAtWorst_c1 0 rfl) A262 hb_ ?_
      obtain ⟨s5_, es5_⟩ : ∃ z : SS, z = sI s3_ 262 (Int32.toNatClampNeg r4_) ((s3_.1 262 (Int32.toNatClampNeg r4_)) + 1) := ⟨_, rfl⟩
      rw [← es5_]
      have hyp := hyp s5_ es5_
      refine r_iload_n (dcx dX0_leftAtWorst_c1 1 rfl) 4 rfl ?_
      refine r_aload_n (dcx dX0_leftAtWorst_c1 2 rfl) 1 rfl ?_
      refine s_getr (b := 262) fX0_45 (dcx dX0_leftAtWorst_c1 3 rfl) F219_10 ?_
      refine r_iload (dcx dX0_leftAtWorst_c1 4 rfl) 0 rfl ?_
      obtain ⟨hb_, hyp⟩ := hyp
      refine s_iald (dcx dX0_leftAtWorst_c1 5 rfl) A262 hb_ ?_
      refine r_max q1166 q608 q16 q609 (by decide) (Nat.le_of_ble_eq_true rfl) (Nat.zero_le _) (Nat.zero_le _) (dcx dX0_leftAtWorst_c1 6 rfl) ?_
      refine r_istore_n (lv1 := [(3, .int (imx x3 (s5_.1 262 (Int32.toNatClampNeg r4_)))), (5, .int r4_), (0, .ref 219), (1, .int x1), (2, .int x2), (4, .int x4)]) (dcx dX0_leftAtWorst_c1 7 rfl) (Nat.le_of_ble_eq_true rfl) rfl ?_
      refine r_iinc (lv1 := [(4, .int (x4 + 1)), (3, .int (imx x3 (s5_.1 262 (Int32.toNatClampNeg r4_)))), (5, .int r4_), (0, .ref 219), (1, .int x1), (2, .int x2)]) (dcx dX0_leftAtWorst_c1 8 rfl) 5 rfl (Nat.le_of_ble_eq_true rfl) rfl ?_
      refine r_goto (tgt := 26) (dcx dX0_leftAtWorst_c1 9 rfl) (by decide) ?_
      refine r_loc (lv1 := [(0, .ref 219), (1, .int x1), (2, .int x2), (3, .int (imx x3 (s5_.1 262 (Int32.toNatClampNeg r4_)))), (4, .int (x4 + 1))]) [3, 4, 5, 1, 0] rfl ?_
      exact hyp
def wX0_growAll_16 (Γ : GE) (l : Launch) (x1 : Int32) (x2 : Int32) (σ : SS) (K : Option Value → SS → Prop) : Prop := G2 Γ l mX0_growAll 16 [(0, .ref 219), (1, .int x1), (2, .int x2)] [] σ K
set_option maxHeartbeats 4000000 in
set_option maxRecDepth 20000 in
theorem tX0_growAll {Γ : GE} {l : Launch} {x1 : Int32} {σ : SS} {K : Option Value → SS → Prop}  (hyp : (¬ (σ.1 219 8) = x1 → (C2 Γ l mX0_growBare [.ref 219, .int x1] σ (Rv fun s1_ => (wX0_growAll_16 Γ l x1 0 s1_ K)))) ∧ ((σ.1 219 8) = x1 → (K none σ))) : C2 Γ l mX0_growAll [.ref 219, .int x1] σ K := by
  refine c2_of (lv := [(0, .ref 219), (1, .int x1)]) (by decide) (Nat.le_of_ble_eq_true rfl) rfl ?_
  refine r_aload_n (dcx dX0_growAll_c0 0 rfl) 0 rfl ?_
  refine s_geti fX0_37 (dcx dX0_growAll_c0 1 rfl) F219_8 ?_
  refine r_iload_n (dcx dX0_growAll_c0 2 rfl) 1 rfl ?_
  refine r_icmp_ne (tgt := 9) (dcx dX0_growAll_c0 3 rfl) (by decide) (fun q_ => ?_) (fun q_ => ?_)
  · have hyp := hyp.1 q_
    refine r_aload_n (dcx dX0_growAll_c0 5 rfl) 0 rfl ?_
    refine r_iload_n (dcx dX0_growAll_c0 6 rfl) 1 rfl ?_
    refine s_callV (as := [.int x1]) (st := []) zX0_growBare kX0_growAll_121 (dcx dX0_growAll_c0 7 rfl) rfl rfl (Nat.le_of_ble_eq_true rfl) O219 rfl rfl (C2.mono hyp ?_)
    rintro _ s1_ ⟨rfl, hyp⟩
    show G2 Γ l mX0_growAll 14 [(0, .ref 219), (1, .int x1)] [] s1_ K
    refine r_iconst (v := 0) (dcx dX0_growAll_c0 8 rfl) rfl ?_
    refine r_istore_n (lv1 := [(2, .int 0), (0, .ref 219), (1, .int x1)]) (dcx dX0_growAll_c0 9 rfl) (Nat.le_of_ble_eq_true rfl) rfl ?_
    refine r_loc (lv1 := [(0, .ref 219), (1, .int x1), (2, .int 0)]) [1, 2, 0] rfl ?_
    exact hyp
  · have hyp := hyp.2 q_
    exact s_vret rfl hyp (dcx dX0_growAll_c0 4 rfl)
set_option maxHeartbeats 4000000 in
set_option maxRecDepth 20000 in
theorem tX0_growAll_16 {Γ : GE} {l : Launch} {x1 : Int32} {x2 : Int32} {σ : SS} {K : Option Value → SS → Prop}  (hyp : ((2976 : Int32) ≤ x2 → (∀ s1_ : SS, s1_ = sI σ 219 8 x1 → (K none s1_))) ∧ (¬ ((2976 : Int32) ≤ x2) → (C2 Γ l mX0_isGuess [.ref 219, .int x2, .int x1] σ (Ri fun r3_ s2_ => ((r3_ = 0 → (wX0_growAll_16 Γ l x1 (x2 + 1) s2_ K)) ∧ (¬ (r3_ = 0) → (C2 Γ l mX0_ripen [.ref 219, .int x2, .int x1] s2_ (Rv fun s4_ => (C2 Γ l mX0_write [.ref 219, .int x2] s4_ (Rv fun s6_ => (wX0_growAll_16 Γ l x1 (x2 + 1) s6_ K))))))))))) : wX0_growAll_16 Γ l x1 x2 σ K := by
  show G2 Γ l mX0_growAll 16 [(0, .ref 219), (1, .int x1), (2, .int x2)] [] σ K
  refine r_iload_n (dcx dX0_growAll_c0 10 rfl) 2 rfl ?_
  refine r_sipush (v := 2976) (dcx dX0_growAll_c0 11 rfl) rfl ?_
  refine r_icmp_ge (tgt := 49) (dcx dX0_growAll_c0 12 rfl) (by decide) (fun q_ => ?_) (fun q_ => ?_)
  · have hyp := hyp.1 q_
    refine r_aload_n (dcx dX0_growAll_c0 27 rfl) 0 rfl ?_
    refine r_iload_n (dcx dX0_growAll_c0 28 rfl) 1 rfl ?_
    refine s_puti gX0_37 (dcx dX0_growAll_c0 29 rfl) F219_8 ?_
    obtain ⟨s1_, es1_⟩ : ∃ z : SS, z = sI σ 219 8 x1 := ⟨_, rfl⟩
    rw [← es1_]
    have hyp := hyp s1_ es1_
    exact s_vret rfl hyp (dcx dX0_growAll_c0 30 rfl)
  · have hyp := hyp.2 q_
    refine r_aload_n (dcx dX0_growAll_c0 13 rfl) 0 rfl ?_
    refine r_iload_n (dcx dX0_growAll_c0 14 rfl) 2 rfl ?_
    refine r_iload_n (dcx dX0_growAll_c0 15 rfl) 1 rfl ?_
    refine s_callV (as := [.int x2, .int x1]) (st := []) zX0_isGuess kX0_growAll_64 (dcx dX0_growAll_c0 16 rfl) rfl rfl (Nat.le_of_ble_eq_true rfl) O219 rfl rfl (C2.mono hyp ?_)
    rintro _ s2_ ⟨r3_, rfl, hyp⟩
    show G2 Γ l mX0_growAll 29 [(0, .ref 219), (1, .int x1), (2, .int x2)] [.int r3_] s2_ K
    refine r_if_eq (tgt := 43) (dcx dX0_growAll_c0 17 rfl) (by decide) (fun q_ => ?_) (fun q_ => ?_)
    · have hyp := hyp.1 q_
      refine r_iinc (lv1 := [(2, .int (x2 + 1)), (0, .ref 219), (1, .int x1)]) (dcx dX0_growAll_c0 25 rfl) 2 rfl (Nat.le_of_ble_eq_true rfl) rfl ?_
      refine r_goto (tgt := 16) (dcx dX0_growAll_c0 26 rfl) (by decide) ?_
      refine r_loc (lv1 := [(0, .ref 219), (1, .int x1), (2, .int (x2 + 1))]) [1, 2, 0] rfl ?_
      exact hyp
    · have hyp := hyp.2 q_
      refine r_aload_n (dcx dX0_growAll_c0 18 rfl) 0 rfl ?_
      refine r_iload_n (dcx dX0_growAll_c0 19 rfl) 2 rfl ?_
      refine r_iload_n (dcx dX0_growAll_c0 20 rfl) 1 rfl ?_
      refine s_callV (as := [.int x2, .int x1]) (st := []) zX0_ripen kX0_growAll_125 (dcx dX0_growAll_c0 21 rfl) rfl rfl (Nat.le_of_ble_eq_true rfl) O219 rfl rfl (C2.mono hyp ?_)
      rintro _ s4_ ⟨rfl, hyp⟩
      show G2 Γ l mX0_growAll 38 [(0, .ref 219), (1, .int x1), (2, .int x2)] [] s4_ K
      refine r_aload_n (dcx dX0_growAll_c0 22 rfl) 0 rfl ?_
      refine r_iload_n (dcx dX0_growAll_c0 23 rfl) 2 rfl ?_
      refine s_callV (as := [.int x2]) (st := []) zX0_write kX0_growAll_129 (dcx dX0_growAll_c0 24 rfl) rfl rfl (Nat.le_of_ble_eq_true rfl) O219 rfl rfl (C2.mono hyp ?_)
      rintro _ s6_ ⟨rfl, hyp⟩
      show G2 Γ l mX0_growAll 43 [(0, .ref 219), (1, .int x1), (2, .int x2)] [] s6_ K
      refine r_iinc (lv1 := [(2, .int (x2 + 1)), (0, .ref 219), (1, .int x1)]) (dcx dX0_growAll_c0 25 rfl) 2 rfl (Nat.le_of_ble_eq_true rfl) rfl ?_
      refine r_goto (tgt := 16) (dcx dX0_growAll_c0 26 rfl) (by decide) ?_
      refine r_loc (lv1 := [(0, .ref 219), (1, .int x1), (2, .int (x2 + 1))]) [1, 2, 0] rfl ?_
      exact hyp
set_option maxHeartbeats 4000000 in
set_option maxRecDepth 20000 in
theorem tX0_beginBare {Γ : GE} {l : Launch}  {σ : SS} {K : Option Value → SS → Prop}  (hyp : ∃ b1_ : Nat, σ.2.2 46 3 = b1_ ∧ isP b1_ ∧ (C2 Γ l mX4_begin [.ref 223, .ref b1_] σ (Rv fun s2_ => (vp_in 0 31 ∧ ∃ b4_ : Nat, s2_.2.2 228 (Int32.toNatClampNeg 0) = b4_ ∧ shA b4_ = some (.int, 80) ∧ (∀ s5_ : SS, s5_ = sA s2_ b4_ (va_cpy (s2_.1 (223 + 1)) (s2_.1 b4_) 0 0 80) → (K none s5_)))))) : C2 Γ l mX0_beginBare [.ref 219] σ K := by
  refine c2_of (lv := [(0, .ref 219)]) (by decide) (Nat.le_of_ble_eq_true rfl) rfl ?_
  refine r_aload_n (dcx dX0_beginBare_c0 0 rfl) 0 rfl ?_
  refine s_getr (b := 223) fX0_24 (dcx dX0_beginBare_c0 1 rfl) F219_5 ?_
  refine r_aload_n (dcx dX0_beginBare_c0 2 rfl) 0 rfl ?_
  refine s_getr (b := 46) fX0_54 (dcx dX0_beginBare_c0 3 rfl) F219_0 ?_
  obtain ⟨b1_, eb1_, hb1_, hyp⟩ := hyp
  refine s_getmE fX0_75 (dcx dX0_beginBare_c0 4 rfl) F46_3 eb1_ (nzP hb1_) ?_
  refine s_callV (as := [.ref b1_]) (st := []) zX4_begin kX0_beginBare_132 (dcx dX0_beginBare_c0 5 rfl) rfl rfl (Nat.le_of_ble_eq_true rfl) (OL isL223) rfl rfl (C2.mono hyp ?_)
  rintro _ s2_ ⟨rfl, hyp⟩
  show G2 Γ l mX0_beginBare 14 [(0, .ref 219)] [] s2_ K
  refine r_aload_n (dcx dX0_beginBare_c0 6 rfl) 0 rfl ?_
  refine s_getr (b := 223) fX0_24 (dcx dX0_beginBare_c0 7 rfl) F219_5 ?_
  refine s_getr (b := 223 + 1) fX0_136 (dcx dX0_beginBare_c0 8 rfl) (FL_0 isL223) ?_
  refine r_iconst (v := 0) (dcx dX0_beginBare_c0 9 rfl) rfl ?_
  refine r_aload_n (dcx dX0_beginBare_c0 10 rfl) 0 rfl ?_
  refine s_getr (b := 228) fX0_30 (dcx dX0_beginBare_c0 11 rfl) F219_6 ?_
  refine r_iconst (v := 0) (dcx dX0_beginBare_c0 12 rfl) rfl ?_
  obtain ⟨hb_, b4_, eb4_, hb4_, hyp⟩ := hyp
  refine s_aaldE (dcx dX0_beginBare_c0 13 rfl) A228 rfl hb_ eb4_ ?_
  refine r_iconst (v := 0) (dcx dX0_beginBare_c0 14 rfl) rfl ?_
  refine r_bipush (v := 80) (dcx dX0_beginBare_c0 15 rfl) rfl ?_
  refine s_copy q820 q822 q821 q18 (dcx dX0_beginBare_c0 16 rfl) (AL_0 isL223) hb4_ (by decide) (by decide) (by decide) (by decide) (by decide) (by decide) (Nat.le_of_ble_eq_true rfl) ?_
  have hyp := hyp _ rfl
  generalize hs_ : sA s2_ b4_ (va_cpy (s2_.1 (223 + 1)) (s2_.1 b4_) 0 0 80) = s5_ at hyp
  have hs_ := hs_.symm
  show G2 Γ l mX0_beginBare 34 _ _ (sA s2_ b4_ (va_cpy (s2_.1 (223 + 1)) (s2_.1 b4_) 0 0 80)) K
  rw [← hs_]
  exact s_vret rfl hyp (dcx dX0_beginBare_c0 17 rfl)
def wX0_growBare_23 (Γ : GE) (l : Launch) (x1 : Int32) (x2 : Int32) (σ : SS) (K : Option Value → SS → Prop) : Prop := G2 Γ l mX0_growBare 23 [(0, .ref 219), (1, .int x1), (2, .int x2)] [] σ K
set_option maxHeartbeats 4000000 in
set_option maxRecDepth 20000 in
theorem tX0_growBare {Γ : GE} {l : Launch} {x1 : Int32} {σ : SS} {K : Option Value → SS → Prop}  (hyp : ((σ.1 223 4) ≤ x1 → (wX0_growBare_23 Γ l x1 (σ.1 223 4) σ K)) ∧ (¬ ((σ.1 223 4) ≤ x1) → (C2 Γ l mX0_beginBare [.ref 219] σ (Rv fun s1_ => (wX0_growBare_23 Γ l x1 (s1_.1 223 4) s1_ K))))) : C2 Γ l mX0_growBare [.ref 219, .int x1] σ K := by
  refine c2_of (lv := [(0, .ref 219), (1, .int x1)]) (by decide) (Nat.le_of_ble_eq_true rfl) rfl ?_
  refine r_aload_n (dcx dX0_growBare_c0 0 rfl) 0 rfl ?_
  refine s_getr (b := 223) fX0_24 (dcx dX0_growBare_c0 1 rfl) F219_5 ?_
  refine s_geti fX0_145 (dcx dX0_growBare_c0 2 rfl) (FL_4 isL223) ?_
  refine r_iload_n (dcx dX0_growBare_c0 3 rfl) 1 rfl ?_
  refine r_icmp_le (tgt := 15) (dcx dX0_growBare_c0 4 rfl) (by decide) (fun q_ => ?_) (fun q_ => ?_)
  · have hyp := hyp.1 q_
    refine r_aload_n (dcx dX0_growBare_c0 7 rfl) 0 rfl ?_
    refine s_getr (b := 223) fX0_24 (dcx dX0_growBare_c0 8 rfl) F219_5 ?_
    refine s_geti fX0_145 (dcx dX0_growBare_c0 9 rfl) (FL_4 isL223) ?_
    refine r_istore_n (lv1 := [(2, .int (σ.1 223 4)), (0, .ref 219), (1, .int x1)]) (dcx dX0_growBare_c0 10 rfl) (Nat.le_of_ble_eq_true rfl) rfl ?_
    refine r_loc (lv1 := [(0, .ref 219), (1, .int x1), (2, .int (σ.1 223 4))]) [1, 2, 0] rfl ?_
    exact hyp
  · have hyp := hyp.2 q_
    refine r_aload_n (dcx dX0_growBare_c0 5 rfl) 0 rfl ?_
    refine s_callV (as := []) (st := []) zX0_beginBare kX0_growBare_61 (dcx dX0_growBare_c0 6 rfl) rfl rfl (Nat.le_of_ble_eq_true rfl) O219 rfl rfl (C2.mono hyp ?_)
    rintro _ s1_ ⟨rfl, hyp⟩
    show G2 Γ l mX0_growBare 15 [(0, .ref 219), (1, .int x1)] [] s1_ K
    refine r_aload_n (dcx dX0_growBare_c0 7 rfl) 0 rfl ?_
    refine s_getr (b := 223) fX0_24 (dcx dX0_growBare_c0 8 rfl) F219_5 ?_
    refine s_geti fX0_145 (dcx dX0_growBare_c0 9 rfl) (FL_4 isL223) ?_
    refine r_istore_n (lv1 := [(2, .int (s1_.1 223 4)), (0, .ref 219), (1, .int x1)]) (dcx dX0_growBare_c0 10 rfl) (Nat.le_of_ble_eq_true rfl) rfl ?_
    refine r_loc (lv1 := [(0, .ref 219), (1, .int x1), (2, .int (s1_.1 223 4))]) [1, 2, 0] rfl ?_
    exact hyp
set_option maxHeartbeats 4000000 in
set_option maxRecDepth 20000 in
theorem tX0_growBare_23 {Γ : GE} {l : Launch} {x1 : Int32} {x2 : Int32} {σ : SS} {K : Option Value → SS → Prop}  (hyp : (x1 ≤ x2 → (K none σ)) ∧ (¬ (x1 ≤ x2) → (∃ b1_ : Nat, σ.2.2 46 3 = b1_ ∧ isP b1_ ∧ (C2 Γ l mX1_growWeek [.ref 46, .ref 223, .int (σ.1 b1_ 19)] σ (Rv fun s2_ => (vp_in ((s2_.1 223 4) - (s2_.1 223 4) / 31 * 31) 31 ∧ ∃ b4_ : Nat, s2_.2.2 228 (Int32.toNatClampNeg ((s2_.1 223 4) - (s2_.1 223 4) / 31 * 31)) = b4_ ∧ shA b4_ = some (.int, 80) ∧ (∀ s5_ : SS, s5_ = sA s2_ b4_ (va_cpy (s2_.1 (223 + 1)) (s2_.1 b4_) 0 0 80) → (wX0_growBare_23 Γ l x1 (x2 + 1) s5_ K)))))))) : wX0_growBare_23 Γ l x1 x2 σ K := by
  show G2 Γ l mX0_growBare 23 [(0, .ref 219), (1, .int x1), (2, .int x2)] [] σ K
  refine r_iload_n (dcx dX0_growBare_c0 11 rfl) 2 rfl ?_
  refine r_iload_n (dcx dX0_growBare_c0 12 rfl) 1 rfl ?_
  refine r_icmp_ge (tgt := 84) (dcx dX0_growBare_c0 13 rfl) (by decide) (fun q_ => ?_) (fun q_ => ?_)
  · have hyp := hyp.1 q_
    exact s_vret rfl hyp (dcx dX0_growBare_c1 0 rfl)
  · have hyp := hyp.2 q_
    refine r_aload_n (dcx dX0_growBare_c0 14 rfl) 0 rfl ?_
    refine s_getr (b := 46) fX0_54 (dcx dX0_growBare_c0 15 rfl) F219_0 ?_
    refine r_aload_n (dcx dX0_growBare_c0 16 rfl) 0 rfl ?_
    refine s_getr (b := 223) fX0_24 (dcx dX0_growBare_c0 17 rfl) F219_5 ?_
    refine r_aload_n (dcx dX0_growBare_c0 18 rfl) 0 rfl ?_
    refine s_getr (b := 46) fX0_54 (dcx dX0_growBare_c0 19 rfl) F219_0 ?_
    obtain ⟨b1_, eb1_, hb1_, hyp⟩ := hyp
    refine s_getmE fX0_75 (dcx dX0_growBare_c0 20 rfl) F46_3 eb1_ (nzP hb1_) ?_
    refine s_geti fX0_148 (dcx dX0_growBare_c0 21 rfl) (FP_19 hb1_) ?_
    refine s_callV (as := [.ref 223, .int (σ.1 b1_ 19)]) (st := []) zX1_growWeek kX0_growBare_151 (dcx dX0_growBare_c0 22 rfl) rfl rfl (Nat.le_of_ble_eq_true rfl) O46 rfl rfl (C2.mono hyp ?_)
    rintro _ s2_ ⟨rfl, hyp⟩
    show G2 Γ l mX0_growBare 49 [(0, .ref 219), (1, .int x1), (2, .int x2)] [] s2_ K
    refine r_aload_n (dcx dX0_growBare_c0 23 rfl) 0 rfl ?_
    refine s_getr (b := 223) fX0_24 (dcx dX0_growBare_c0 24 rfl) F219_5 ?_
    refine s_getr (b := 223 + 1) fX0_136 (dcx dX0_growBare_c0 25 rfl) (FL_0 isL223) ?_
    refine r_iconst (v := 0) (dcx dX0_growBare_c0 26 rfl) rfl ?_
    refine r_aload_n (dcx dX0_growBare_c0 27 rfl) 0 rfl ?_
    refine s_getr (b := 228) fX0_30 (dcx dX0_growBare_c0 28 rfl) F219_6 ?_
    refine r_aload_n (dcx dX0_growBare_c0 29 rfl) 0 rfl ?_
    refine s_getr (b := 223) fX0_24 (dcx dX0_growBare_c0 30 rfl) F219_5 ?_
    refine s_geti fX0_145 (dcx dX0_growBare_c0 31 rfl) (FL_4 isL223) ?_
    refine r_bipush (v := 31) (dcx dX0_growBare_c0 32 rfl) rfl ?_
    refine r_irem (dcx dX0_growBare_c0 33 rfl) (by decide) ?_
    obtain ⟨hb_, b4_, eb4_, hb4_, hyp⟩ := hyp
    refine s_aaldE (dcx dX0_growBare_c0 34 rfl) A228 rfl hb_ eb4_ ?_
    refine r_iconst (v := 0) (dcx dX0_growBare_c0 35 rfl) rfl ?_
    refine r_bipush (v := 80) (dcx dX0_growBare_c0 36 rfl) rfl ?_
    refine s_copy q820 q822 q821 q18 (dcx dX0_growBare_c0 37 rfl) (AL_0 isL223) hb4_ (by decide) (by decide) (by decide) (by decide) (by decide) (by decide) (Nat.le_of_ble_eq_true rfl) ?_
    have hyp := hyp _ rfl
    generalize hs_ : sA s2_ b4_ (va_cpy (s2_.1 (223 + 1)) (s2_.1 b4_) 0 0 80) = s5_ at hyp
    have hs_ := hs_.symm
    show G2 Γ l mX0_growBare 78 _ _ (sA s2_ b4_ (va_cpy (s2_.1 (223 + 1)) (s2_.1 b4_) 0 0 80)) K
    rw [← hs_]
    refine r_iinc (lv1 := [(2, .int (x2 + 1)), (0, .ref 219), (1, .int x1)]) (dcx dX0_growBare_c0 38 rfl) 2 rfl (Nat.le_of_ble_eq_true rfl) rfl ?_
    refine r_goto (tgt := 23) (dcx dX0_growBare_c0 39 rfl) (by decide) ?_
    refine r_loc (lv1 := [(0, .ref 219), (1, .int x1), (2, .int (x2 + 1))]) [1, 2, 0] rfl ?_
    exact hyp
