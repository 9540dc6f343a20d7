def wX0_ripen_120 (Γ : GE) (l : Launch) (x1 : Int32) (x2 : Int32) (x3 : Int32) (x4 : Int32) (σ : SS) (K : Option Value → SS → Prop) : Prop := G2 Γ l mX0_ripen 120 [(0, .ref 219), (1, .int x1), (2, .int x2), (3, .int x3), (4, .int x4)] [] σ K
set_option maxHeartbeats 4000000 in
set_option maxRecDepth 20000 in
theorem tX0_ripen {Γ : GE} {l : Launch} {x1 : Int32} {x2 : Int32} {σ : SS} {K : Option Value → SS → Prop}  (hyp : ∃ b1_ : Nat, σ.2.2 46 3 = b1_ ∧ isP b1_ ∧ (C2 Γ l mX2_uses [.ref (b1_ + 9), .int 7] σ (Ri fun r3_ s2_ => (C2 Γ l mX0_ageOf [.int x1] s2_ (Ri fun r5_ s4_ => (∀ s6_ : SS, s6_ = sI s4_ 263 4 (x2 - r5_) → (vp_in ((s6_.1 263 4) - (s6_.1 263 4) / 31 * 31) 31 ∧ ∃ b7_ : Nat, s6_.2.2 228 (Int32.toNatClampNeg ((s6_.1 263 4) - (s6_.1 263 4) / 31 * 31)) = b7_ ∧ shA b7_ = some (.int, 80) ∧ (∀ s8_ : SS, s8_ = sA s6_ (263 + 1) (va_cpy (s6_.1 b7_) (s6_.1 (263 + 1)) 0 0 80) → (C2 Γ l mX0_signOf [.int x1] s8_ (Ri fun r10_ s9_ => (C2 Γ l mX0_xOf [.int x1] s9_ (Ri fun r12_ s11_ => (C2 Γ l mX0_yOf [.int x1] s11_ (Ri fun r14_ s13_ => (C2 Γ l mX1_cutOut [.ref 46, .ref 263, .int r10_, .int r12_, .int r14_] s13_ (Rv fun s15_ => (C2 Γ l mX0_xOf [.int x1] s15_ (Ri fun r18_ s17_ => (∀ s19_ : SS, s19_ = sI s17_ 219 13 r18_ → (∀ s20_ : SS, s20_ = sI s19_ 219 14 ((s19_.1 219 13) + 2) → (C2 Γ l mX0_yOf [.int x1] s20_ (Ri fun r22_ s21_ => (∀ s23_ : SS, s23_ = sI s21_ 219 15 r22_ → (∀ s24_ : SS, s24_ = sI s23_ 219 16 ((s23_.1 219 15) + 2) → (wX0_ripen_120 Γ l x1 x2 r3_ 0 s24_ K))))))))))))))))))))))))) : C2 Γ l mX0_ripen [.ref 219, .int x1, .int x2] σ K := by
  refine c2_of (lv := [(0, .ref 219), (1, .int x1), (2, .int x2)]) (by decide) (Nat.le_of_ble_eq_true rfl) rfl ?_
  refine r_aload_n (dcx dX0_ripen_c0 0 rfl) 0 rfl ?_
  refine s_getr (b := 46) fX0_54 (dcx dX0_ripen_c0 1 rfl) F219_0 ?_
  obtain ⟨b1_, eb1_, hb1_, hyp⟩ := hyp
  refine s_getmE fX0_75 (dcx dX0_ripen_c0 2 rfl) F46_3 eb1_ (nzP hb1_) ?_
  refine s_getr (b := b1_ + 9) fX0_155 (dcx dX0_ripen_c0 3 rfl) (FP_8 hb1_) ?_
  refine r_bipush (v := 7) (dcx dX0_ripen_c0 4 rfl) rfl ?_
  refine s_callV (as := [.int 7]) (st := []) zX2_uses kX0_ripen_159 (dcx dX0_ripen_c0 5 rfl) rfl rfl (Nat.le_of_ble_eq_true rfl) (OW (IP_8 hb1_)) rfl rfl (C2.mono hyp ?_)
  rintro _ s2_ ⟨r3_, rfl, hyp⟩
  show G2 Γ l mX0_ripen 15 [(0, .ref 219), (1, .int x1), (2, .int x2)] [.int r3_] s2_ K
  refine r_istore_n (lv1 := [(3, .int r3_), (0, .ref 219), (1, .int x1), (2, .int x2)]) (dcx dX0_ripen_c0 6 rfl) (Nat.le_of_ble_eq_true rfl) rfl ?_
  refine r_aload_n (dcx dX0_ripen_c0 7 rfl) 1 rfl ?_
  refine s_getr (b := 263) fX0_48 (dcx dX0_ripen_c0 8 rfl) F219_11 ?_
  refine r_iload_n (dcx dX0_ripen_c0 9 rfl) 3 rfl ?_
  refine r_iload_n (dcx dX0_ripen_c0 10 rfl) 2 rfl ?_
  refine s_callS (as := [.int x1]) (st := [.int x2, .ref 263]) zX0_ageOf kX0_ripen_71 (dcx dX0_ripen_c0 11 rfl) rfl rfl (Nat.le_of_ble_eq_true rfl) (C2.mono hyp ?_)
  rintro _ s4_ ⟨r5_, rfl, hyp⟩
  show G2 Γ l mX0_ripen 25 [(3, .int r3_), (0, .ref 219), (1, .int x1), (2, .int x2)] [.int r5_, .int x2, .ref 263] s4_ K
  refine r_isub (dcx dX0_ripen_c0 12 rfl) ?_
  refine s_puti gX0_145 (dcx dX0_ripen_c0 13 rfl) (FL_4 isL263) ?_
  obtain ⟨s6_, es6_⟩ : ∃ z : SS, z = sI s4_ 263 4 (x2 - r5_) := ⟨_, rfl⟩
  rw [← es6_]
  have hyp := hyp s6_ es6_
  refine r_aload_n (dcx dX0_ripen_c0 14 rfl) 1 rfl ?_
  refine s_getr (b := 228) fX0_30 (dcx dX0_ripen_c0 15 rfl) F219_6 ?_
  refine r_aload_n (dcx dX0_ripen_c0 16 rfl) 1 rfl ?_
  refine s_getr (b := 263) fX0_48 (dcx dX0_ripen_c0 17 rfl) F219_11 ?_
  refine s_geti fX0_145 (dcx dX0_ripen_c0 18 rfl) (FL_4 isL263) ?_
  refine r_bipush (v := 31) (dcx dX0_ripen_c0 19 rfl) rfl ?_
  refine r_irem (dcx dX0_ripen_c0 20 rfl) (by decide) ?_
  obtain ⟨hb_, b7_, eb7_, hb7_, hyp⟩ := hyp
  refine s_aaldE (dcx dX0_ripen_c0 21 rfl) A228 rfl hb_ eb7_ ?_
  refine r_iconst (v := 0) (dcx dX0_ripen_c0 22 rfl) rfl ?_
  refine r_aload_n (dcx dX0_ripen_c0 23 rfl) 1 rfl ?_
  refine s_getr (b := 263) fX0_48 (dcx dX0_ripen_c0 24 rfl) F219_11 ?_
  refine s_getr (b := 263 + 1) fX0_136 (dcx dX0_ripen_c0 25 rfl) (FL_0 isL263) ?_
  refine r_iconst (v := 0) (dcx dX0_ripen_c0 26 rfl) rfl ?_
  refine r_bipush (v := 80) (dcx dX0_ripen_c0 27 rfl) rfl ?_
  refine s_copy q820 q822 q821 q18 (dcx dX0_ripen_c0 28 rfl) hb7_ (AL_0 isL263) (by decide) (by decide) (by decide) (by decide) (by decide) (by decide) (Nat.le_of_ble_eq_true rfl) ?_
  have hyp := hyp _ rfl
  generalize hs_ : sA s6_ (263 + 1) (va_cpy (s6_.1 b7_) (s6_.1 (263 + 1)) 0 0 80) = s8_ at hyp
  have hs_ := hs_.symm
  show G2 Γ l mX0_ripen 58 _ _ (sA s6_ (263 + 1) (va_cpy (s6_.1 b7_) (s6_.1 (263 + 1)) 0 0 80)) K
  rw [← hs_]
  refine r_aload_n (dcx dX0_ripen_c0 29 rfl) 1 rfl ?_
  refine s_getr (b := 46) fX0_54 (dcx dX0_ripen_c0 30 rfl) F219_0 ?_
  refine r_aload_n (dcx dX0_ripen_c0 31 rfl) 1 rfl ?_
  refine s_getr (b := 263) fX0_48 (dcx dX0_ripen_c0 32 rfl) F219_11 ?_
  refine r_iload_n (dcx dX0_ripen_c0 33 rfl) 2 rfl ?_
  refine s_callS (as := [.int x1]) (st := [.ref 263, .ref 46]) zX0_signOf kX0_ripen_81 (dcx dX0_ripen_c0 34 rfl) rfl rfl (Nat.le_of_ble_eq_true rfl) (C2.mono hyp ?_)
  rintro _ s9_ ⟨r10_, rfl, hyp⟩
  show G2 Γ l mX0_ripen 70 [(3, .int r3_), (0, .ref 219), (1, .int x1), (2, .int x2)] [.int r10_, .ref 263, .ref 46] s9_ K
  refine r_iload_n (dcx dX0_ripen_c0 35 rfl) 2 rfl ?_
  refine s_callS (as := [.int x1]) (st := [.int r10_, .ref 263, .ref 46]) zX0_xOf kX0_ripen_84 (dcx dX0_ripen_c0 36 rfl) rfl rfl (Nat.le_of_ble_eq_true rfl) (C2.mono hyp ?_)
  rintro _ s11_ ⟨r12_, rfl, hyp⟩
  show G2 Γ l mX0_ripen 74 [(3, .int r3_), (0, .ref 219), (1, .int x1), (2, .int x2)] [.int r12_, .int r10_, .ref 263, .ref 46] s11_ K
  refine r_iload_n (dcx dX0_ripen_c0 37 rfl) 2 rfl ?_
  refine s_callS (as := [.int x1]) (st := [.int r12_, .int r10_, .ref 263, .ref 46]) zX0_yOf kX0_ripen_87 (dcx dX0_ripen_c0 38 rfl) rfl rfl (Nat.le_of_ble_eq_true rfl) (C2.mono hyp ?_)
  rintro _ s13_ ⟨r14_, rfl, hyp⟩
  show G2 Γ l mX0_ripen 78 [(3, .int r3_), (0, .ref 219), (1, .int x1), (2, .int x2)] [.int r14_, .int r12_, .int r10_, .ref 263, .ref 46] s13_ K
  refine s_callV (as := [.ref 263, .int r10_, .int r12_, .int r14_]) (st := []) zX1_cutOut kX0_ripen_165 (dcx dX0_ripen_c0 39 rfl) rfl rfl (Nat.le_of_ble_eq_true rfl) O46 rfl rfl (C2.mono hyp ?_)
  rintro _ s15_ ⟨rfl, hyp⟩
  show G2 Γ l mX0_ripen 81 [(3, .int r3_), (0, .ref 219), (1, .int x1), (2, .int x2)] [] s15_ K
  refine r_aload_n (dcx dX0_ripen_c1 0 rfl) 1 rfl ?_
  refine r_iload_n (dcx dX0_ripen_c1 1 rfl) 2 rfl ?_
  refine s_callS (as := [.int x1]) (st := [.ref 219]) zX0_xOf kX0_ripen_84 (dcx dX0_ripen_c1 2 rfl) rfl rfl (Nat.le_of_ble_eq_true rfl) (C2.mono hyp ?_)
  rintro _ s17_ ⟨r18_, rfl, hyp⟩
  show G2 Γ l mX0_ripen 86 [(3, .int r3_), (0, .ref 219), (1, .int x1), (2, .int x2)] [.int r18_, .ref 219] s17_ K
  refine s_puti gX0_169 (dcx dX0_ripen_c1 3 rfl) F219_13 ?_
  obtain ⟨s19_, es19_⟩ : ∃ z : SS, z = sI s17_ 219 13 r18_ := ⟨_, rfl⟩
  rw [← es19_]
  have hyp := hyp s19_ es19_
  refine r_aload_n (dcx dX0_ripen_c1 4 rfl) 1 rfl ?_
  refine r_aload_n (dcx dX0_ripen_c1 5 rfl) 1 rfl ?_
  refine s_geti fX0_169 (dcx dX0_ripen_c1 6 rfl) F219_13 ?_
  refine r_iconst (v := 2) (dcx dX0_ripen_c1 7 rfl) rfl ?_
  refine r_iadd (dcx dX0_ripen_c1 8 rfl) ?_
  refine s_puti gX0_172 (dcx dX0_ripen_c1 9 rfl) F219_14 ?_
  obtain ⟨s20_, es20_⟩ : ∃ z : SS, z = sI s19_ 219 14 ((s19_.1 219 13) + 2) := ⟨_, rfl⟩
  rw [← es20_]
  have hyp := hyp s20_ es20_
  refine r_aload_n (dcx dX0_ripen_c1 10 rfl) 1 rfl ?_
  refine r_iload_n (dcx dX0_ripen_c1 11 rfl) 2 rfl ?_
  refine s_callS (as := [.int x1]) (st := [.ref 219]) zX0_yOf kX0_ripen_87 (dcx dX0_ripen_c1 12 rfl) rfl rfl (Nat.le_of_ble_eq_true rfl) (C2.mono hyp ?_)
  rintro _ s21_ ⟨r22_, rfl, hyp⟩
  show G2 Γ l mX0_ripen 104 [(3, .int r3_), (0, .ref 219), (1, .int x1), (2, .int x2)] [.int r22_, .ref 219] s21_ K
  refine s_puti gX0_175 (dcx dX0_ripen_c1 13 rfl) F219_15 ?_
  obtain ⟨s23_, es23_⟩ : ∃ z : SS, z = sI s21_ 219 15 r22_ := ⟨_, rfl⟩
  rw [← es23_]
  have hyp := hyp s23_ es23_
  refine r_aload_n (dcx dX0_ripen_c1 14 rfl) 1 rfl ?_
  refine r_aload_n (dcx dX0_ripen_c1 15 rfl) 1 rfl ?_
  refine s_geti fX0_175 (dcx dX0_ripen_c1 16 rfl) F219_15 ?_
  refine r_iconst (v := 2) (dcx dX0_ripen_c1 17 rfl) rfl ?_
  refine r_iadd (dcx dX0_ripen_c1 18 rfl) ?_
  refine s_puti gX0_178 (dcx dX0_ripen_c1 19 rfl) F219_16 ?_
  obtain ⟨s24_, es24_⟩ : ∃ z : SS, z = sI s23_ 219 16 ((s23_.1 219 15) + 2) := ⟨_, rfl⟩
  rw [← es24_]
  have hyp := hyp s24_ es24_
  refine r_iconst (v := 0) (dcx dX0_ripen_c1 20 rfl) rfl ?_
  refine r_istore (lv1 := [(4, .int 0), (3, .int r3_), (0, .ref 219), (1, .int x1), (2, .int x2)]) (dcx dX0_ripen_c1 21 rfl) (Nat.le_of_ble_eq_true rfl) rfl ?_
  refine r_loc (lv1 := [(0, .ref 219), (1, .int x1), (2, .int x2), (3, .int r3_), (4, .int 0)]) [2, 3, 4, 1, 0] rfl ?_
  exact hyp
set_option maxHeartbeats 4000000 in
set_option maxRecDepth 20000 in
theorem tX0_ripen_120 {Γ : GE} {l : Launch} {x1 : Int32} {x2 : Int32} {x3 : Int32} {x4 : Int32} {σ : SS} {K : Option Value → SS → Prop}  (hyp : C2 Γ l mX0_ageOf [.int x1] σ (Ri fun r2_ s1_ => ((r2_ ≤ x4 → (((s1_.1 219 13) ≤ (s1_.1 219 14) → (K none s1_)) ∧ (¬ ((s1_.1 219 13) ≤ (s1_.1 219 14)) → (vp_in (x2 - x2 / 31 * 31) 31 ∧ ∃ b3_ : Nat, s1_.2.2 228 (Int32.toNatClampNeg (x2 - x2 / 31 * 31)) = b3_ ∧ shA b3_ = some (.int, 80) ∧ (∀ s4_ : SS, s4_ = sA s1_ (263 + 1) (va_cpy (s1_.1 b3_) (s1_.1 (263 + 1)) 0 0 80) → (K none s4_)))))) ∧ (¬ (r2_ ≤ x4) → (((s1_.1 219 14) < (s1_.1 219 13) → (((s1_.1 219 13) ≤ (s1_.1 219 14) → (K none s1_)) ∧ (¬ ((s1_.1 219 13) ≤ (s1_.1 219 14)) → (vp_in (x2 - x2 / 31 * 31) 31 ∧ ∃ b5_ : Nat, s1_.2.2 228 (Int32.toNatClampNeg (x2 - x2 / 31 * 31)) = b5_ ∧ shA b5_ = some (.int, 80) ∧ (∀ s6_ : SS, s6_ = sA s1_ (263 + 1) (va_cpy (s1_.1 b5_) (s1_.1 (263 + 1)) 0 0 80) → (K none s6_)))))) ∧ (¬ ((s1_.1 219 14) < (s1_.1 219 13)) → (C2 Γ l mX0_growGuess [.ref 219, .int x3] s1_ (Rv fun s7_ => (wX0_ripen_120 Γ l x1 x2 x3 (x4 + 1) s7_ K))))))))) : wX0_ripen_120 Γ l x1 x2 x3 x4 σ K := by
  show G2 Γ l mX0_ripen 120 [(0, .ref 219), (1, .int x1), (2, .int x2), (3, .int x3), (4, .int x4)] [] σ K
  refine r_iload (dcx dX0_ripen_c1 22 rfl) 4 rfl ?_
  refine r_iload_n (dcx dX0_ripen_c1 23 rfl) 1 rfl ?_
  refine s_callS (as := [.int x1]) (st := [.int x4]) zX0_ageOf kX0_ripen_71 (dcx dX0_ripen_c1 24 rfl) rfl rfl (Nat.le_of_ble_eq_true rfl) (C2.mono hyp ?_)
  rintro _ s1_ ⟨r2_, rfl, hyp⟩
  show G2 Γ l mX0_ripen 126 [(0, .ref 219), (1, .int x1), (2, .int x2), (3, .int x3), (4, .int x4)] [.int r2_, .int x4] s1_ K
  refine r_icmp_ge (tgt := 151) (dcx dX0_ripen_c1 25 rfl) (by decide) (fun q_ => ?_) (fun q_ => ?_)
  · have hyp := hyp.1 q_
    refine r_aload_n (dcx dX0_ripen_c1 36 rfl) 0 rfl ?_
    refine s_geti fX0_169 (dcx dX0_ripen_c1 37 rfl) F219_13 ?_
    refine r_aload_n (dcx dX0_ripen_c1 38 rfl) 0 rfl ?_
    refine s_geti fX0_172 (dcx dX0_ripen_c1 39 rfl) F219_14 ?_
    refine r_icmp_le (tgt := 185) (dcx dX0_ripen_c2 0 rfl) (by decide) (fun q_ => ?_) (fun q_ => ?_)
    · have hyp := hyp.1 q_
      exact s_vret rfl hyp (dcx dX0_ripen_c2 14 rfl)
    · have hyp := hyp.2 q_
      refine r_aload_n (dcx dX0_ripen_c2 1 rfl) 0 rfl ?_
      refine s_getr (b := 228) fX0_30 (dcx dX0_ripen_c2 2 rfl) F219_6 ?_
      refine r_iload_n (dcx dX0_ripen_c2 3 rfl) 2 rfl ?_
      refine r_bipush (v := 31) (dcx dX0_ripen_c2 4 rfl) rfl ?_
      refine r_irem (dcx dX0_ripen_c2 5 rfl) (by decide) ?_
      obtain ⟨hb_, b3_, eb3_, hb3_, hyp⟩ := hyp
      refine s_aaldE (dcx dX0_ripen_c2 6 rfl) A228 rfl hb_ eb3_ ?_
      refine r_iconst (v := 0) (dcx dX0_ripen_c2 7 rfl) rfl ?_
      refine r_aload_n (dcx dX0_ripen_c2 8 rfl) 0 rfl ?_
      refine s_getr (b := 263) fX0_48 (dcx dX0_ripen_c2 9 rfl) F219_11 ?_
      refine s_getr (b := 263 + 1) fX0_136 (dcx dX0_ripen_c2 10 rfl) (FL_0 isL263) ?_
      refine r_iconst (v := 0) (dcx dX0_ripen_c2 11 rfl) rfl ?_
      refine r_bipush (v := 80) (dcx dX0_ripen_c2 12 rfl) rfl ?_
      refine s_copy q820 q822 q821 q18 (dcx dX0_ripen_c2 13 rfl) hb3_ (AL_0 isL263) (by decide) (by decide) (by decide) (by decide) (by decide) (by decide) (Nat.le_of_ble_eq_true rfl) ?_
      have hyp := hyp _ rfl
      generalize hs_ : sA s1_ (263 + 1) (va_cpy (s1_.1 b3_) (s1_.1 (263 + 1)) 0 0 80) = s4_ at hyp
      have hs_ := hs_.symm
      show G2 Γ l mX0_ripen 185 _ _ (sA s1_ (263 + 1) (va_cpy (s1_.1 b3_) (s1_.1 (263 + 1)) 0 0 80)) K
      rw [← hs_]
      exact s_vret rfl hyp (dcx dX0_ripen_c2 14 rfl)
  · have hyp := hyp.2 q_
    refine r_aload_n (dcx dX0_ripen_c1 26 rfl) 0 rfl ?_
    refine s_geti fX0_169 (dcx dX0_ripen_c1 27 rfl) F219_13 ?_
    refine r_aload_n (dcx dX0_ripen_c1 28 rfl) 0 rfl ?_
    refine s_geti fX0_172 (dcx dX0_ripen_c1 29 rfl) F219_14 ?_
    refine r_icmp_gt (tgt := 151) (dcx dX0_ripen_c1 30 rfl) (by decide) (fun q_ => ?_) (fun q_ => ?_)
    · have hyp := hyp.1 q_
      refine r_aload_n (dcx dX0_ripen_c1 36 rfl) 0 rfl ?_
      refine s_geti fX0_169 (dcx dX0_ripen_c1 37 rfl) F219_13 ?_
      refine r_aload_n (dcx dX0_ripen_c1 38 rfl) 0 rfl ?_
      refine s_geti fX0_172 (dcx dX0_ripen_c1 39 rfl) F219_14 ?_
      refine r_icmp_le (tgt := 185) (dcx dX0_ripen_c2 0 rfl) (by decide) (fun q_ => ?_) (fun q_ => ?_)
      · have hyp := hyp.1 q_
        exact s_vret rfl hyp (dcx dX0_ripen_c2 14 rfl)
      · have hyp := hyp.2 q_
        refine r_aload_n (dcx dX0_ripen_c2 1 rfl) 0 rfl ?_
        refine s_getr (b := 228) fX0_30 (dcx dX0_ripen_c2 2 rfl) F219_6 ?_
        refine r_iload_n (dcx dX0_ripen_c2 3 rfl) 2 rfl ?_
        refine r_bipush (v := 31) (dcx dX0_ripen_c2 4 rfl) rfl ?_
        refine r_irem (dcx dX0_ripen_c2 5 rfl) (by decide) ?_
        obtain ⟨hb_, b5_, eb5_, hb5_, hyp⟩ := hyp
        refine s_aaldE (dcx dX0_ripen_c2 6 rfl) A228 rfl hb_ eb5_ ?_
        refine r_iconst (v := 0) (dcx dX0_ripen_c2 7 rfl) rfl ?_
        refine r_aload_n (dcx dX0_ripen_c2 8 rfl) 0 rfl ?_
        refine s_getr (b := 263) fX0_48 (dcx dX0_ripen_c2 9 rfl) F219_11 ?_
        refine s_getr (b := 263 + 1) fX0_136 (dcx dX0_ripen_c2 10 rfl) (FL_0 isL263) ?_
        refine r_iconst (v := 0) (dcx dX0_ripen_c2 11 rfl) rfl ?_
        refine r_bipush (v := 80) (dcx dX0_ripen_c2 12 rfl) rfl ?_
        refine s_copy q820 q822 q821 q18 (dcx dX0_ripen_c2 13 rfl) hb5_ (AL_0 isL263) (by decide) (by decide) (by decide) (by decide) (by decide) (by decide) (Nat.le_of_ble_eq_true rfl) ?_
        have hyp := hyp _ rfl
        generalize hs_ : sA s1_ (263 + 1) (va_cpy (s1_.1 b5_) (s1_.1 (263 + 1)) 0 0 80) = s6_ at hyp
        have hs_ := hs_.symm
        show G2 Γ l mX0_ripen 185 _ _ (sA s1_ (263 + 1) (va_cpy (s1_.1 b5_) (s1_.1 (263 + 1)) 0 0 80)) K
        rw [← hs_]
        exact s_vret rfl hyp (dcx dX0_ripen_c2 14 rfl)
    · have hyp := hyp.2 q_
      refine r_aload_n (dcx dX0_ripen_c1 31 rfl) 0 rfl ?_
      refine r_iload_n (dcx dX0_ripen_c1 32 rfl) 3 rfl ?_
      refine s_callV (as := [.int x3]) (st := []) zX0_growGuess kX0_ripen_181 (dcx dX0_ripen_c1 33 rfl) rfl rfl (Nat.le_of_ble_eq_true rfl) O219 rfl rfl (C2.mono hyp ?_)
      rintro _ s7_ ⟨rfl, hyp⟩
      show G2 Γ l mX0_ripen 145 [(0, .ref 219), (1, .int x1), (2, .int x2), (3, .int x3), (4, .int x4)] [] s7_ K
      refine r_iinc (lv1 := [(4, .int (x4 + 1)), (0, .ref 219), (1, .int x1), (2, .int x2), (3, .int x3)]) (dcx dX0_ripen_c1 34 rfl) 4 rfl (Nat.le_of_ble_eq_true rfl) rfl ?_
      refine r_goto (tgt := 120) (dcx dX0_ripen_c1 35 rfl) (by decide) ?_
      refine r_loc (lv1 := [(0, .ref 219), (1, .int x1), (2, .int x2), (3, .int x3), (4, .int (x4 + 1))]) [1, 2, 3, 4, 0] rfl ?_
      exact hyp
def wX0_growGuess_157 (Γ : GE) (l : Launch) (x1 : Int32) (a2 : Nat) (x3 : Int32) (a4 : Nat) (a5 : Nat) (x7 : Int32) (x8 : Int32) (x10 : Int32) (x11 : Int32) (σ : SS) (K : Option Value → SS → Prop) : Prop := G2 Γ l mX0_growGuess 157 [(0, .ref 219), (1, .int x1), (2, .ref a2), (3, .int x3), (4, .ref a4), (5, .ref a5), (7, .int x7), (8, .int x8), (10, .int x10), (11, .int x11)] [] σ K
def wX0_growGuess_168 (Γ : GE) (l : Launch) (x1 : Int32) (a2 : Nat) (x3 : Int32) (a4 : Nat) (a5 : Nat) (x7 : Int32) (x8 : Int32) (x10 : Int32) (x11 : Int32) (x12 : Int32) (σ : SS) (K : Option Value → SS → Prop) : Prop := G2 Γ l mX0_growGuess 168 [(0, .ref 219), (1, .int x1), (2, .ref a2), (3, .int x3), (4, .ref a4), (5, .ref a5), (7, .int x7), (8, .int x8), (10, .int x10), (11, .int x11), (12, .int x12)] [] σ K
def wX0_growGuess_269 (Γ : GE) (l : Launch) (x1 : Int32) (a2 : Nat) (x3 : Int32) (a4 : Nat) (a5 : Nat) (x7 : Int32) (x8 : Int32) (x10 : Int32) (x11 : Int32) (x12 : Int32) (σ : SS) (K : Option Value → SS → Prop) : Prop := G2 Γ l mX0_growGuess 269 [(0, .ref 219), (1, .int x1), (2, .ref a2), (3, .int x3), (4, .ref a4), (5, .ref a5), (7, .int x7), (8, .int x8), (10, .int x10), (11, .int x11), (12, .int x12)] [] σ K
set_option maxHeartbeats 4000000 in
set_option maxRecDepth 20000 in
theorem tX0_growGuess {Γ : GE} {l : Launch} {x1 : Int32} {σ : SS} {K : Option Value → SS → Prop}  (hyp : ∃ b1_ : Nat, σ.2.2 46 3 = b1_ ∧ isP b1_ ∧ (C2 Γ l mX1_rainIn [.ref 46, .int (σ.1 263 4), .int (σ.1 b1_ 19)] σ (Ri fun r3_ s2_ => (vp_in ((s2_.1 263 4) - (s2_.1 263 4) / 31 * 31) 31 ∧ ∃ b4_ : Nat, s2_.2.2 228 (Int32.toNatClampNeg ((s2_.1 263 4) - (s2_.1 263 4) / 31 * 31)) = b4_ ∧ shA b4_ = some (.int, 80) ∧ (vp_in (((s2_.1 263 4) + 1) - ((s2_.1 263 4) + 1) / 31 * 31) 31 ∧ ∃ b5_ : Nat, s2_.2.2 228 (Int32.toNatClampNeg (((s2_.1 263 4) + 1) - ((s2_.1 263 4) + 1) / 31 * 31)) = b5_ ∧ shA b5_ = some (.int, 80) ∧ (∀ s6_ : SS, s6_ = sA s2_ 268 (va_cpy (s2_.1 b5_) (s2_.1 268) 0 0 80) → ((x1 = 0 → (C2 Γ l mX0_closeBox [.ref 219] s6_ (Rv fun s7_ => (wX0_growGuess_157 Γ l x1 b1_ r3_ b4_ b5_ (imx (0 : Int32) ((s6_.1 219 13) - 0)) (imn ((s6_.1 b1_ 11) - 1) ((s6_.1 219 14) + 0)) (imn ((s6_.1 b1_ 12) - 1) ((s6_.1 219 16) + 0)) (imx (0 : Int32) ((s6_.1 219 15) - 0)) s7_ K)))) ∧ (¬ (x1 = 0) → (C2 Γ l mX0_closeBox [.ref 219] s6_ (Rv fun s9_ => (wX0_growGuess_157 Γ l x1 b1_ r3_ b4_ b5_ (imx (0 : Int32) ((s6_.1 219 13) - 1)) (imn ((s6_.1 b1_ 11) - 1) ((s6_.1 219 14) + 1)) (imn ((s6_.1 b1_ 12) - 1) ((s6_.1 219 16) + 1)) (imx (0 : Int32) ((s6_.1 219 15) - 1)) s9_ K))))))))))) : C2 Γ l mX0_growGuess [.ref 219, .int x1] σ K := by
  refine c2_of (lv := [(0, .ref 219), (1, .int x1)]) (by decide) (Nat.le_of_ble_eq_true rfl) rfl ?_
  refine r_aload_n (dcx dX0_growGuess_c0 0 rfl) 0 rfl ?_
  refine s_getr (b := 46) fX0_54 (dcx dX0_growGuess_c0 1 rfl) F219_0 ?_
  obtain ⟨b1_, eb1_, hb1_, hyp⟩ := hyp
  refine s_getmE fX0_75 (dcx dX0_growGuess_c0 2 rfl) F46_3 eb1_ (nzP hb1_) ?_
  refine r_astore_n (lv1 := [(2, .ref b1_), (0, .ref 219), (1, .int x1)]) (dcx dX0_growGuess_c0 3 rfl) (Nat.le_of_ble_eq_true rfl) rfl ?_
  refine r_aload_n (dcx dX0_growGuess_c0 4 rfl) 1 rfl ?_
  refine s_getr (b := 46) fX0_54 (dcx dX0_growGuess_c0 5 rfl) F219_0 ?_
  refine r_aload_n (dcx dX0_growGuess_c0 6 rfl) 1 rfl ?_
  refine s_getr (b := 263) fX0_48 (dcx dX0_growGuess_c0 7 rfl) F219_11 ?_
  refine s_geti fX0_145 (dcx dX0_growGuess_c0 8 rfl) (FL_4 isL263) ?_
  refine r_aload_n (dcx dX0_growGuess_c0 9 rfl) 0 rfl ?_
  refine s_geti fX0_148 (dcx dX0_growGuess_c0 10 rfl) (FP_19 hb1_) ?_
  refine s_callV (as := [.int (σ.1 263 4), .int (σ.1 b1_ 19)]) (st := []) zX1_rainIn kX0_growGuess_185 (dcx dX0_growGuess_c0 11 rfl) rfl rfl (Nat.le_of_ble_eq_true rfl) O46 rfl rfl (C2.mono hyp ?_)
  rintro _ s2_ ⟨r3_, rfl, hyp⟩
  show G2 Γ l mX0_growGuess 26 [(2, .ref b1_), (0, .ref 219), (1, .int x1)] [.int r3_] s2_ K
  refine r_istore_n (lv1 := [(3, .int r3_), (2, .ref b1_), (0, .ref 219), (1, .int x1)]) (dcx dX0_growGuess_c0 12 rfl) (Nat.le_of_ble_eq_true rfl) rfl ?_
  refine r_aload_n (dcx dX0_growGuess_c0 13 rfl) 2 rfl ?_
  refine s_getr (b := 228) fX0_30 (dcx dX0_growGuess_c0 14 rfl) F219_6 ?_
  refine r_aload_n (dcx dX0_growGuess_c0 15 rfl) 2 rfl ?_
  refine s_getr (b := 263) fX0_48 (dcx dX0_growGuess_c0 16 rfl) F219_11 ?_
  refine s_geti fX0_145 (dcx dX0_growGuess_c0 17 rfl) (FL_4 isL263) ?_
  refine r_bipush (v := 31) (dcx dX0_growGuess_c0 18 rfl) rfl ?_
  refine r_irem (dcx dX0_growGuess_c0 19 rfl) (by decide) ?_
  obtain ⟨hb_, b4_, eb4_, hb4_, hyp⟩ := hyp
  refine s_aaldE (dcx dX0_growGuess_c0 20 rfl) A228 rfl hb_ eb4_ ?_
  refine r_astore (lv1 := [(4, .ref b4_), (3, .int r3_), (2, .ref b1_), (0, .ref 219), (1, .int x1)]) (dcx dX0_growGuess_c0 21 rfl) (Nat.le_of_ble_eq_true rfl) rfl ?_
  refine r_aload_n (dcx dX0_growGuess_c0 22 rfl) 3 rfl ?_
  refine s_getr (b := 228) fX0_30 (dcx dX0_growGuess_c0 23 rfl) F219_6 ?_
  refine r_aload_n (dcx dX0_growGuess_c0 24 rfl) 3 rfl ?_
  refine s_getr (b := 263) fX0_48 (dcx dX0_growGuess_c0 25 rfl) F219_11 ?_
  refine s_geti fX0_145 (dcx dX0_growGuess_c0 26 rfl) (FL_4 isL263) ?_
  refine r_iconst (v := 1) (dcx dX0_growGuess_c0 27 rfl) rfl ?_
  refine r_iadd (dcx dX0_growGuess_c0 28 rfl) ?_
  refine r_bipush (v := 31) (dcx dX0_growGuess_c0 29 rfl) rfl ?_
  refine r_irem (dcx dX0_growGuess_c0 30 rfl) (by decide) ?_
  obtain ⟨hb_, b5_, eb5_, hb5_, hyp⟩ := hyp
  refine s_aaldE (dcx dX0_growGuess_c0 31 rfl) A228 rfl hb_ eb5_ ?_
  refine r_astore (lv1 := [(5, .ref b5_), (4, .ref b4_), (3, .int r3_), (2, .ref b1_), (0, .ref 219), (1, .int x1)]) (dcx dX0_growGuess_c0 32 rfl) (Nat.le_of_ble_eq_true rfl) rfl ?_
  refine r_aload (dcx dX0_growGuess_c0 33 rfl) 0 rfl ?_
  refine r_iconst (v := 0) (dcx dX0_growGuess_c0 34 rfl) rfl ?_
  refine r_aload_n (dcx dX0_growGuess_c0 35 rfl) 4 rfl ?_
  refine s_getr (b := 268) fX0_51 (dcx dX0_growGuess_c0 36 rfl) F219_12 ?_
  refine r_iconst (v := 0) (dcx dX0_growGuess_c0 37 rfl) rfl ?_
  refine r_bipush (v := 80) (dcx dX0_growGuess_c0 38 rfl) rfl ?_
  refine s_copy q820 q822 q821 q18 (dcx dX0_growGuess_c0 39 rfl) hb5_ A268 (by decide) (by decide) (by decide) (by decide) (by decide) (by decide) (Nat.le_of_ble_eq_true rfl) ?_
  have hyp := hyp _ rfl
  generalize hs_ : sA s2_ 268 (va_cpy (s2_.1 b5_) (s2_.1 268) 0 0 80) = s6_ at hyp
  have hs_ := hs_.symm
  show G2 Γ l mX0_growGuess 76 _ _ (sA s2_ 268 (va_cpy (s2_.1 b5_) (s2_.1 268) 0 0 80)) K
  rw [← hs_]
  refine r_iload_n (dcx dX0_growGuess_c1 0 rfl) 5 rfl ?_
  refine r_if_eq (tgt := 84) (dcx dX0_growGuess_c1 1 rfl) (by decide) (fun q_ => ?_) (fun q_ => ?_)
  · have hyp := hyp.1 q_
    refine r_iconst (v := 0) (dcx dX0_growGuess_c1 4 rfl) rfl ?_
    refine r_istore (lv1 := [(6, .int 0), (5, .ref b5_), (4, .ref b4_), (3, .int r3_), (2, .ref b1_), (0, .ref 219), (1, .int x1)]) (dcx dX0_growGuess_c1 5 rfl) (Nat.le_of_ble_eq_true rfl) rfl ?_
    refine r_iconst (v := 0) (dcx dX0_growGuess_c1 6 rfl) rfl ?_
    refine r_aload_n (dcx dX0_growGuess_c1 7 rfl) 5 rfl ?_
    refine s_geti fX0_169 (dcx dX0_growGuess_c1 8 rfl) F219_13 ?_
    refine r_iload (dcx dX0_growGuess_c1 9 rfl) 0 rfl ?_
    refine r_isub (dcx dX0_growGuess_c1 10 rfl) ?_
    refine r_max q1166 q608 q16 q609 (by decide) (Nat.le_of_ble_eq_true rfl) (Nat.zero_le _) (Nat.zero_le _) (dcx dX0_growGuess_c1 11 rfl) ?_
    refine r_istore (lv1 := [(7, .int (imx (0 : Int32) ((s6_.1 219 13) - 0))), (6, .int 0), (5, .ref b5_), (4, .ref b4_), (3, .int r3_), (2, .ref b1_), (0, .ref 219), (1, .int x1)]) (dcx dX0_growGuess_c1 12 rfl) (Nat.le_of_ble_eq_true rfl) rfl ?_
    refine r_aload_n (dcx dX0_growGuess_c1 13 rfl) 5 rfl ?_
    refine s_geti fX0_107 (dcx dX0_growGuess_c1 14 rfl) (FP_11 hb1_) ?_
    refine r_iconst (v := 1) (dcx dX0_growGuess_c1 15 rfl) rfl ?_
    refine r_isub (dcx dX0_growGuess_c1 16 rfl) ?_
    refine r_aload_n (dcx dX0_growGuess_c1 17 rfl) 6 rfl ?_
    refine s_geti fX0_172 (dcx dX0_growGuess_c1 18 rfl) F219_14 ?_
    refine r_iload (dcx dX0_growGuess_c1 19 rfl) 1 rfl ?_
    refine r_iadd (dcx dX0_growGuess_c1 20 rfl) ?_
    refine r_min q1167 q611 q16 q612 (by decide) (Nat.le_of_ble_eq_true rfl) (Nat.zero_le _) (Nat.zero_le _) (dcx dX0_growGuess_c1 21 rfl) ?_
    refine r_istore (lv1 := [(8, .int (imn ((s6_.1 b1_ 11) - 1) ((s6_.1 219 14) + 0))), (7, .int (imx (0 : Int32) ((s6_.1 219 13) - 0))), (6, .int 0), (5, .ref b5_), (4, .ref b4_), (3, .int r3_), (2, .ref b1_), (0, .ref 219), (1, .int x1)]) (dcx dX0_growGuess_c1 22 rfl) (Nat.le_of_ble_eq_true rfl) rfl ?_
    refine r_iconst (v := 0) (dcx dX0_growGuess_c1 23 rfl) rfl ?_
    refine r_aload_n (dcx dX0_growGuess_c1 24 rfl) 7 rfl ?_
    refine s_geti fX0_175 (dcx dX0_growGuess_c1 25 rfl) F219_15 ?_
    refine r_iload (dcx dX0_growGuess_c1 26 rfl) 2 rfl ?_
    refine r_isub (dcx dX0_growGuess_c1 27 rfl) ?_
    refine r_max q1166 q608 q16 q609 (by decide) (Nat.le_of_ble_eq_true rfl) (Nat.zero_le _) (Nat.zero_le _) (dcx dX0_growGuess_c1 28 rfl) ?_
    refine r_istore (lv1 := [(9, .int (imx (0 : Int32) ((s6_.1 219 15) - 0))), (8, .int (imn ((s6_.1 b1_ 11) - 1) ((s6_.1 219 14) + 0))), (7, .int (imx (0 : Int32) ((s6_.1 219 13) - 0))), (6, .int 0), (5, .ref b5_), (4, .ref b4_), (3, .int r3_), (2, .ref b1_), (0, .ref 219), (1, .int x1)]) (dcx dX0_growGuess_c1 29 rfl) (Nat.le_of_ble_eq_true rfl) rfl ?_
    refine r_aload_n (dcx dX0_growGuess_c1 30 rfl) 7 rfl ?_
    refine s_geti fX0_104 (dcx dX0_growGuess_c1 31 rfl) (FP_12 hb1_) ?_
    refine r_iconst (v := 1) (dcx dX0_growGuess_c1 32 rfl) rfl ?_
    refine r_isub (dcx dX0_growGuess_c1 33 rfl) ?_
    refine r_aload_n (dcx dX0_growGuess_c1 34 rfl) 8 rfl ?_
    refine s_geti fX0_178 (dcx dX0_growGuess_c1 35 rfl) F219_16 ?_
    refine r_iload (dcx dX0_growGuess_c1 36 rfl) 3 rfl ?_
    refine r_iadd (dcx dX0_growGuess_c1 37 rfl) ?_
    refine r_min q1167 q611 q16 q612 (by decide) (Nat.le_of_ble_eq_true rfl) (Nat.zero_le _) (Nat.zero_le _) (dcx dX0_growGuess_c1 38 rfl) ?_
    refine r_istore (lv1 := [(10, .int (imn ((s6_.1 b1_ 12) - 1) ((s6_.1 219 16) + 0))), (9, .int (imx (0 : Int32) ((s6_.1 219 15) - 0))), (8, .int (imn ((s6_.1 b1_ 11) - 1) ((s6_.1 219 14) + 0))), (7, .int (imx (0 : Int32) ((s6_.1 219 13) - 0))), (6, .int 0), (5, .ref b5_), (4, .ref b4_), (3, .int r3_), (2, .ref b1_), (0, .ref 219), (1, .int x1)]) (dcx dX0_growGuess_c1 39 rfl) (Nat.le_of_ble_eq_true rfl) rfl ?_
    refine r_aload_n (dcx dX0_growGuess_c2 0 rfl) 9 rfl ?_
    refine s_callV (as := []) (st := []) zX0_closeBox kX0_growGuess_191 (dcx dX0_growGuess_c2 1 rfl) rfl rfl (Nat.le_of_ble_eq_true rfl) O219 rfl rfl (C2.mono hyp ?_)
    rintro _ s7_ ⟨rfl, hyp⟩
    show G2 Γ l mX0_growGuess 153 [(10, .int (imn ((s6_.1 b1_ 12) - 1) ((s6_.1 219 16) + 0))), (9, .int (imx (0 : Int32) ((s6_.1 219 15) - 0))), (8, .int (imn ((s6_.1 b1_ 11) - 1) ((s6_.1 219 14) + 0))), (7, .int (imx (0 : Int32) ((s6_.1 219 13) - 0))), (6, .int 0), (5, .ref b5_), (4, .ref b4_), (3, .int r3_), (2, .ref b1_), (0, .ref 219), (1, .int x1)] [] s7_ K
    refine r_iload (dcx dX0_growGuess_c2 2 rfl) 1 rfl ?_
    refine r_istore (lv1 := [(11, .int (imx (0 : Int32) ((s6_.1 219 15) - 0))), (10, .int (imn ((s6_.1 b1_ 12) - 1) ((s6_.1 219 16) + 0))), (9, .int (imx (0 : Int32) ((s6_.1 219 15) - 0))), (8, .int (imn ((s6_.1 b1_ 11) - 1) ((s6_.1 219 14) + 0))), (7, .int (imx (0 : Int32) ((s6_.1 219 13) - 0))), (6, .int 0), (5, .ref b5_), (4, .ref b4_), (3, .int r3_), (2, .ref b1_), (0, .ref 219), (1, .int x1)]) (dcx dX0_growGuess_c2 3 rfl) (Nat.le_of_ble_eq_true rfl) rfl ?_
    refine r_loc (lv1 := [(0, .ref 219), (1, .int x1), (2, .ref b1_), (3, .int r3_), (4, .ref b4_), (5, .ref b5_), (7, .int (imx (0 : Int32) ((s6_.1 219 13) - 0))), (8, .int (imn ((s6_.1 b1_ 11) - 1) ((s6_.1 219 14) + 0))), (10, .int (imn ((s6_.1 b1_ 12) - 1) ((s6_.1 219 16) + 0))), (11, .int (imx (0 : Int32) ((s6_.1 219 15) - 0)))]) [10, 11, 9, 8, 7, 6, 4, 3, 1, 0] rfl ?_
    exact hyp
  · have hyp := hyp.2 q_
    refine r_iconst (v := 1) (dcx dX0_growGuess_c1 2 rfl) rfl ?_
    refine r_goto (tgt := 85) (dcx dX0_growGuess_c1 3 rfl) (by decide) ?_
    refine r_istore (lv1 := [(6, .int 1), (5, .ref b5_), (4, .ref b4_), (3, .int r3_), (2, .ref b1_), (0, .ref 219), (1, .int x1)]) (dcx dX0_growGuess_c1 5 rfl) (Nat.le_of_ble_eq_true rfl) rfl ?_
    refine r_iconst (v := 0) (dcx dX0_growGuess_c1 6 rfl) rfl ?_
    refine r_aload_n (dcx dX0_growGuess_c1 7 rfl) 5 rfl ?_
    refine s_geti fX0_169 (dcx dX0_growGuess_c1 8 rfl) F219_13 ?_
    refine r_iload (dcx dX0_growGuess_c1 9 rfl) 0 rfl ?_
    refine r_isub (dcx dX0_growGuess_c1 10 rfl) ?_
    refine r_max q1166 q608 q16 q609 (by decide) (Nat.le_of_ble_eq_true rfl) (Nat.zero_le _) (Nat.zero_le _) (dcx dX0_growGuess_c1 11 rfl) ?_
    refine r_istore (lv1 := [(7, .int (imx (0 : Int32) ((s6_.1 219 13) - 1))), (6, .int 1), (5, .ref b5_), (4, .ref b4_), (3, .int r3_), (2, .ref b1_), (0, .ref 219), (1, .int x1)]) (dcx dX0_growGuess_c1 12 rfl) (Nat.le_of_ble_eq_true rfl) rfl ?_
    refine r_aload_n (dcx dX0_growGuess_c1 13 rfl) 5 rfl ?_
    refine s_geti fX0_107 (dcx dX0_growGuess_c1 14 rfl) (FP_11 hb1_) ?_
    refine r_iconst (v := 1) (dcx dX0_growGuess_c1 15 rfl) rfl ?_
    refine r_isub (dcx dX0_growGuess_c1 16 rfl) ?_
    refine r_aload_n (dcx dX0_growGuess_c1 17 rfl) 6 rfl ?_
    refine s_geti fX0_172 (dcx dX0_growGuess_c1 18 rfl) F219_14 ?_
    refine r_iload (dcx dX0_growGuess_c1 19 rfl) 1 rfl ?_
    refine r_iadd (dcx dX0_growGuess_c1 20 rfl) ?_
    refine r_min q1167 q611 q16 q612 (by decide) (Nat.le_of_ble_eq_true rfl) (Nat.zero_le _) (Nat.zero_le _) (dcx dX0_growGuess_c1 21 rfl) ?_
    refine r_istore (lv1 := [(8, .int (imn ((s6_.1 b1_ 11) - 1) ((s6_.1 219 14) + 1))), (7, .int (imx (0 : Int32) ((s6_.1 219 13) - 1))), (6, .int 1), (5, .ref b5_), (4, .ref b4_), (3, .int r3_), (2, .ref b1_), (0, .ref 219), (1, .int x1)]) (dcx dX0_growGuess_c1 22 rfl) (Nat.le_of_ble_eq_true rfl) rfl ?_
    refine r_iconst (v := 0) (dcx dX0_growGuess_c1 23 rfl) rfl ?_
    refine r_aload_n (dcx dX0_growGuess_c1 24 rfl) 7 rfl ?_
    refine s_geti fX0_175 (dcx dX0_growGuess_c1 25 rfl) F219_15 ?_
    refine r_iload (dcx dX0_growGuess_c1 26 rfl) 2 rfl ?_
    refine r_isub (dcx dX0_growGuess_c1 27 rfl) ?_
    refine r_max q1166 q608 q16 q609 (by decide) (Nat.le_of_ble_eq_true rfl) (Nat.zero_le _) (Nat.zero_le _) (dcx dX0_growGuess_c1 28 rfl) ?_
    refine r_istore (lv1 := [(9, .int (imx (0 : Int32) ((s6_.1 219 15) - 1))), (8, .int (imn ((s6_.1 b1_ 11) - 1) ((s6_.1 219 14) + 1))), (7, .int (imx (0 : Int32) ((s6_.1 219 13) - 1))), (6, .int 1), (5, .ref b5_), (4, .ref b4_), (3, .int r3_), (2, .ref b1_), (0, .ref 219), (1, .int x1)]) (dcx dX0_growGuess_c1 29 rfl) (Nat.le_of_ble_eq_true rfl) rfl ?_
    refine r_aload_n (dcx dX0_growGuess_c1 30 rfl) 7 rfl ?_
    refine s_geti fX0_104 (dcx dX0_growGuess_c1 31 rfl) (FP_12 hb1_) ?_
    refine r_iconst (v := 1) (dcx dX0_growGuess_c1 32 rfl) rfl ?_
    refine r_isub (dcx dX0_growGuess_c1 33 rfl) ?_
    refine r_aload_n (dcx dX0_growGuess_c1 34 rfl) 8 rfl ?_
    refine s_geti fX0_178 (dcx dX0_growGuess_c1 35 rfl) F219_16 ?_
    refine r_iload (dcx dX0_growGuess_c1 36 rfl) 3 rfl ?_
    refine r_iadd (dcx dX0_growGuess_c1 37 rfl) ?_
    refine r_min q1167 q611 q16 q612 (by decide) (Nat.le_of_ble_eq_true rfl) (Nat.zero_le _) (Nat.zero_le _) (dcx dX0_growGuess_c1 38 rfl) ?_
    refine r_istore (lv1 := [(10, .int (imn ((s6_.1 b1_ 12) - 1) ((s6_.1 219 16) + 1))), (9, .int (imx (0 : Int32) ((s6_.1 219 15) - 1))), (8, .int (imn ((s6_.1 b1_ 11) - 1) ((s6_.1 219 14) + 1))), (7, .int (imx (0 : Int32) ((s6_.1 219 13) - 1))), (6, .int 1), (5, .ref b5_), (4, .ref b4_), (3, .int r3_), (2, .ref b1_), (0, .ref 219), (1, .int x1)]) (dcx dX0_growGuess_c1 39 rfl) (Nat.le_of_ble_eq_true rfl) rfl ?_
    refine r_aload_n (dcx dX0_growGuess_c2 0 rfl) 9 rfl ?_
    refine s_callV (as := []) (st := []) zX0_closeBox kX0_growGuess_191 (dcx dX0_growGuess_c2 1 rfl) rfl rfl (Nat.le_of_ble_eq_true rfl) O219 rfl rfl (C2.mono hyp ?_)
    rintro _ s9_ ⟨rfl, hyp⟩
    show G2 Γ l mX0_growGuess 153 [(10, .int (imn ((s6_.1 b1_ 12) - 1) ((s6_.1 219 16) + 1))), (9, .int (imx (0 : Int32) ((s6_.1 219 15) - 1))), (8, .int (imn ((s6_.1 b1_ 11) - 1) ((s6_.1 219 14) + 1))), (7, .int (imx (0 : Int32) ((s6_.1 219 13) - 1))), (6, .int 1), (5, .ref b5_), (4, .ref b4_), (3, .int r3_), (2, .ref b1_), (0, .ref 219), (1, .int x1)] [] s9_ K
    refine r_iload (dcx dX0_growGuess_c2 2 rfl) 1 rfl ?_
    refine r_istore (lv1 := [(11, .int (imx (0 : Int32) ((s6_.1 219 15) - 1))), (10, .int (imn ((s6_.1 b1_ 12) - 1) ((s6_.1 219 16) + 1))), (9, .int (imx (0 : Int32) ((s6_.1 219 15) - 1))), (8, .int (imn ((s6_.1 b1_ 11) - 1) ((s6_.1 219 14) + 1))), (7, .int (imx (0 : Int32) ((s6_.1 219 13) - 1))), (6, .int 1), (5, .ref b5_), (4, .ref b4_), (3, .int r3_), (2, .ref b1_), (0, .ref 219), (1, .int x1)]) (dcx dX0_growGuess_c2 3 rfl) (Nat.le_of_ble_eq_true rfl) rfl ?_
    refine r_loc (lv1 := [(0, .ref 219), (1, .int x1), (2, .ref b1_), (3, .int r3_), (4, .ref b4_), (5, .ref b5_), (7, .int (imx (0 : Int32) ((s6_.1 219 13) - 1))), (8, .int (imn ((s6_.1 b1_ 11) - 1) ((s6_.1 219 14) + 1))), (10, .int (imn ((s6_.1 b1_ 12) - 1) ((s6_.1 219 16) + 1))), (11, .int (imx (0 : Int32) ((s6_.1 219 15) - 1)))]) [10, 11, 9, 8, 7, 6, 4, 3, 1, 0] rfl ?_
    exact hyp
set_option maxHeartbeats 4000000 in
set_option maxRecDepth 20000 in
theorem tX0_growGuess_157 {Γ : GE} {l : Launch} {x1 : Int32} {a2 : Nat} {x3 : Int32} {a4 : Nat} {a5 : Nat} {x7 : Int32} {x8 : Int32} {x10 : Int32} {x11 : Int32} {σ : SS} {K : Option Value → SS → Prop} (h2 : isP a2) (h4 : shA a4 = some (.int, 80)) (h5 : shA a5 = some (.int, 80)) (hyp : (x10 < x11 → (∀ s1_ : SS, s1_ = sA σ (263 + 1) (va_cpy (σ.1 268) (σ.1 (263 + 1)) 0 0 80) → (∀ s2_ : SS, s2_ = sI s1_ 263 4 ((s1_.1 263 4) + 1) → (K none s2_)))) ∧ (¬ (x10 < x11) → (wX0_growGuess_168 Γ l x1 a2 x3 a4 a5 x7 x8 x10 x11 x7 σ K))) : wX0_growGuess_157 Γ l x1 a2 x3 a4 a5 x7 x8 x10 x11 σ K := by
  show G2 Γ l mX0_growGuess 157 [(0, .ref 219), (1, .int x1), (2, .ref a2), (3, .int x3), (4, .ref a4), (5, .ref a5), (7, .int x7), (8, .int x8), (10, .int x10), (11, .int x11)] [] σ K
  refine r_iload (dcx dX0_growGuess_c2 4 rfl) 9 rfl ?_
  refine r_iload (dcx dX0_growGuess_c2 5 rfl) 8 rfl ?_
  refine r_icmp_gt (tgt := 281) (dcx dX0_growGuess_c2 6 rfl) (by decide) (fun q_ => ?_) (fun q_ => ?_)
  · have hyp := hyp.1 q_
    refine r_aload_n (dcx dX0_growGuess_c3 24 rfl) 0 rfl ?_
    refine s_getr (b := 268) fX0_51 (dcx dX0_growGuess_c3 25 rfl) F219_12 ?_
    refine r_iconst (v := 0) (dcx dX0_growGuess_c3 26 rfl) rfl ?_
    refine r_aload_n (dcx dX0_growGuess_c3 27 rfl) 0 rfl ?_
    refine s_getr (b := 263) fX0_48 (dcx dX0_growGuess_c3 28 rfl) F219_11 ?_
    refine s_getr (b := 263 + 1) fX0_136 (dcx dX0_growGuess_c3 29 rfl) (FL_0 isL263) ?_
    refine r_iconst (v := 0) (dcx dX0_growGuess_c3 30 rfl) rfl ?_
    refine r_bipush (v := 80) (dcx dX0_growGuess_c3 31 rfl) rfl ?_
    refine s_copy q820 q822 q821 q18 (dcx dX0_growGuess_c3 32 rfl) A268 (AL_0 isL263) (by decide) (by decide) (by decide) (by decide) (by decide) (by decide) (Nat.le_of_ble_eq_true rfl) ?_
    have hyp := hyp _ rfl
    generalize hs_ : sA σ (263 + 1) (va_cpy (σ.1 268) (σ.1 (263 + 1)) 0 0 80) = s1_ at hyp
    have hs_ := hs_.symm
    show G2 Γ l mX0_growGuess 299 _ _ (sA σ (263 + 1) (va_cpy (σ.1 268) (σ.1 (263 + 1)) 0 0 80)) K
    rw [← hs_]
    refine r_aload_n (dcx dX0_growGuess_c3 33 rfl) 0 rfl ?_
    refine s_getr (b := 263) fX0_48 (dcx dX0_growGuess_c3 34 rfl) F219_11 ?_
    refine r_dup (dcx dX0_growGuess_c3 35 rfl) rfl ?_
    refine s_geti fX0_145 (dcx dX0_growGuess_c3 36 rfl) (FL_4 isL263) ?_
    refine r_iconst (v := 1) (dcx dX0_growGuess_c3 37 rfl) rfl ?_
    refine r_iadd (dcx dX0_growGuess_c3 38 rfl) ?_
    refine s_puti gX0_145 (dcx dX0_growGuess_c3 39 rfl) (FL_4 isL263) ?_
    obtain ⟨s2_, es2_⟩ : ∃ z : SS, z = sI s1_ 263 4 ((s1_.1 263 4) + 1) := ⟨_, rfl⟩
    rw [← es2_]
    have hyp := hyp s2_ es2_
    exact s_vret rfl hyp (dcx dX0_growGuess_c4 0 rfl)
  · have hyp := hyp.2 q_
    refine r_iload (dcx dX0_growGuess_c2 7 rfl) 6 rfl ?_
    refine r_istore (lv1 := [(12, .int x7), (0, .ref 219), (1, .int x1), (2, .ref a2), (3, .int x3), (4, .ref a4), (5, .ref a5), (7, .int x7), (8, .int x8), (10, .int x10), (11, .int x11)]) (dcx dX0_growGuess_c2 8 rfl) (Nat.le_of_ble_eq_true rfl) rfl ?_
    refine r_loc (lv1 := [(0, .ref 219), (1, .int x1), (2, .ref a2), (3, .int x3), (4, .ref a4), (5, .ref a5), (7, .int x7), (8, .int x8), (10, .int x10), (11, .int x11), (12, .int x7)]) [1, 2, 3, 4, 5, 6, 7, 8, 9, 10, 0] rfl ?_
    exact hyp
set_option maxHeartbeats 4000000 in
set_option maxRecDepth 20000 in
theorem tX0_growGuess_168 {Γ : GE} {l : Launch} {x1 : Int32} {a2 : Nat} {x3 : Int32} {a4 : Nat} {a5 : Nat} {x7 : Int32} {x8 : Int32} {x10 : Int32} {x11 : Int32} {x12 : Int32} {σ : SS} {K : Option Value → SS → Prop} (h2 : isP a2) (h4 : shA a4 = some (.int, 80)) (h5 : shA a5 = some (.int, 80)) (hyp : (x8 < x12 → (wX0_growGuess_157 Γ l x1 a2 x3 a4 a5 x7 x8 x10 (x11 + 1) σ K)) ∧ (¬ (x8 < x12) → (C2 Γ l mX9_indexOf [.int x12, .int x11] σ (Ri fun r2_ s1_ => (vp_in r2_ 80 ∧ (((s1_.1 (a2 + 1) (Int32.toNatClampNeg r2_)) < 0 → (wX0_growGuess_269 Γ l x1 a2 x3 a4 a5 x7 x8 x10 x11 x12 s1_ K)) ∧ (¬ ((s1_.1 (a2 + 1) (Int32.toNatClampNeg r2_)) < 0) → (C2 Γ l mX0_growsOtherwise [.ref 219, .int r2_, .ref a4, .int x1] s1_ (Ri fun r4_ s3_ => ((r4_ = 0 → (wX0_growGuess_269 Γ l x1 a2 x3 a4 a5 x7 x8 x10 x11 x12 s3_ K)) ∧ (¬ (r4_ = 0) → (vp_in r2_ 80 ∧ (C2 Γ l mX1_growth [.ref 46, .ref 263, .int x12, .int x11, .int x3] s3_ (Ri fun r6_ s5_ => (C2 Γ l mX9_held [.int ((s3_.1 (263 + 1) (Int32.toNatClampNeg r2_)) + r6_), .int 0, .int 99] s5_ (Ri fun r8_ s7_ => (vp_in r2_ 80 ∧ (∀ s9_ : SS, s9_ = sI s7_ 268 (Int32.toNatClampNeg r2_) r8_ → (vp_in r2_ 80 ∧ (vp_in r2_ 80 ∧ (((s9_.1 268 (Int32.toNatClampNeg r2_)) = (s9_.1 a5 (Int32.toNatClampNeg r2_)) → (wX0_growGuess_269 Γ l x1 a2 x3 a4 a5 x7 x8 x10 x11 x12 s9_ K)) ∧ (¬ ((s9_.1 268 (Int32.toNatClampNeg r2_)) = (s9_.1 a5 (Int32.toNatClampNeg r2_))) → (C2 Γ l mX0_widenBox [.ref 219, .int x12, .int x11] s9_ (Rv fun s10_ => (wX0_growGuess_269 Γ l x1 a2 x3 a4 a5 x7 x8 x10 x11 x12 s10_ K))))))))))))))))))))))))) : wX0_growGuess_168 Γ l x1 a2 x3 a4 a5 x7 x8 x10 x11 x12 σ K := by
  show G2 Γ l mX0_growGuess 168 [(0, .ref 219), (1, .int x1), (2, .ref a2), (3, .int x3), (4, .ref a4), (5, .ref a5), (7, .int x7), (8, .int x8), (10, .int x10), (11, .int x11), (12, .int x12)] [] σ K
  refine r_iload (dcx dX0_growGuess_c2 9 rfl) 10 rfl ?_
  refine r_iload (dcx dX0_growGuess_c2 10 rfl) 7 rfl ?_
  refine r_icmp_gt (tgt := 275) (dcx dX0_growGuess_c2 11 rfl) (by decide) (fun q_ => ?_) (fun q_ => ?_)
  · have hyp := hyp.1 q_
    refine r_iinc (lv1 := [(11, .int (x11 + 1)), (0, .ref 219), (1, .int x1), (2, .ref a2), (3, .int x3), (4, .ref a4), (5, .ref a5), (7, .int x7), (8, .int x8), (10, .int x10), (12, .int x12)]) (dcx dX0_growGuess_c3 22 rfl) 9 rfl (Nat.le_of_ble_eq_true rfl) rfl ?_
    refine r_goto (tgt := 157) (dcx dX0_growGuess_c3 23 rfl) (by decide) ?_
    refine r_loc (lv1 := [(0, .ref 219), (1, .int x1), (2, .ref a2), (3, .int x3), (4, .ref a4), (5, .ref a5), (7, .int x7), (8, .int x8), (10, .int x10), (11, .int (x11 + 1))]) [1, 2, 3, 4, 5, 6, 7, 8, 9, 0] rfl ?_
    exact hyp
  · have hyp := hyp.2 q_
    refine r_iload (dcx dX0_growGuess_c2 12 rfl) 10 rfl ?_
    refine r_iload (dcx dX0_growGuess_c2 13 rfl) 9 rfl ?_
    refine s_callSN (as := [.int x12, .int x11]) (st := []) zX9_indexOf kX0_growGuess_194 (dcx dX0_growGuess_c2 14 rfl) rfl rfl (Nat.le_of_ble_eq_true rfl) (C2.mono hyp ?_)
    rintro _ s1_ ⟨r2_, rfl, hyp⟩
    show G2 Γ l mX0_growGuess 182 [(0, .ref 219), (1, .int x1), (2, .ref a2), (3, .int x3), (4, .ref a4), (5, .ref a5), (7, .int x7), (8, .int x8), (10, .int x10), (11, .int x11), (12, .int x12)] [.int r2_] s1_ K
    refine r_istore (lv1 := [(13, .int r2_), (0, .ref 219), (1, .int x1), (2, .ref a2), (3, .int x3), (4, .ref a4), (5, .ref a5), (7, .int x7), (8, .int x8), (10, .int x10), (11, .int x11), (12, .int x12)]) (dcx dX0_growGuess_c2 15 rfl) (Nat.le_of_ble_eq_true rfl) rfl ?_
    refine r_aload_n (dcx dX0_growGuess_c2 16 rfl) 3 rfl ?_
    refine s_getr (b := a2 + 1) fX0_197 (dcx dX0_growGuess_c2 17 rfl) (FP_0 h2) ?_
    refine r_iload (dcx dX0_growGuess_c2 18 rfl) 0 rfl ?_
    obtain ⟨hb_, hyp⟩ := hyp
    refine s_iald (dcx dX0_growGuess_c2 19 rfl) (AP_0 h2) hb_ ?_
    refine r_if_lt (tgt := 269) (dcx dX0_growGuess_c2 20 rfl) (by decide) (fun q_ => ?_) (fun q_ => ?_)
    · have hyp := hyp.1 q_
      refine r_loc (lv1 := [(0, .ref 219), (1, .int x1), (2, .ref a2), (3, .int x3), (4, .ref a4), (5, .ref a5), (7, .int x7), (8, .int x8), (10, .int x10), (11, .int x11), (12, .int x12)]) [1, 2, 3, 4, 5, 6, 7, 8, 9, 10, 11] rfl ?_
      exact hyp
    · have hyp := hyp.2 q_
      refine r_aload_n (dcx dX0_growGuess_c2 21 rfl) 1 rfl ?_
      refine r_iload (dcx dX0_growGuess_c2 22 rfl) 0 rfl ?_
      refine r_aload (dcx dX0_growGuess_c2 23 rfl) 5 rfl ?_
      refine r_iload_n (dcx dX0_growGuess_c2 24 rfl) 2 rfl ?_
      refine s_callV (as := [.int r2_, .ref a4, .int x1]) (st := []) zX0_growsOtherwise kX0_growGuess_200 (dcx dX0_growGuess_c2 25 rfl) rfl rfl (Nat.le_of_ble_eq_true rfl) O219 rfl rfl (C2.mono hyp ?_)
      rintro _ s3_ ⟨r4_, rfl, hyp⟩
      show G2 Γ l mX0_growGuess 203 [(13, .int r2_), (0, .ref 219), (1, .int x1), (2, .ref a2), (3, .int x3), (4, .ref a4), (5, .ref a5), (7, .int x7), (8, .int x8), (10, .int x10), (11, .int x11), (12, .int x12)] [.int r4_] s3_ K
      refine r_if_eq (tgt := 269) (dcx dX0_growGuess_c2 26 rfl) (by decide) (fun q_ => ?_) (fun q_ => ?_)
      · have hyp := hyp.1 q_
        refine r_loc (lv1 := [(0, .ref 219), (1, .int x1), (2, .ref a2), (3, .int x3), (4, .ref a4), (5, .ref a5), (7, .int x7), (8, .int x8), (10, .int x10), (11, .int x11), (12, .int x12)]) [1, 2, 3, 4, 5, 6, 7, 8, 9, 10, 11] rfl ?_
        exact hyp
      · have hyp := hyp.2 q_
        refine r_aload_n (dcx dX0_growGuess_c2 27 rfl) 1 rfl ?_
        refine s_getr (b := 268) fX0_51 (dcx dX0_growGuess_c2 28 rfl) F219_12 ?_
        refine r_iload (dcx dX0_growGuess_c2 29 rfl) 0 rfl ?_
        refine r_aload_n (dcx dX0_growGuess_c2 30 rfl) 1 rfl ?_
        refine s_getr (b := 263) fX0_48 (dcx dX0_growGuess_c2 31 rfl) F219_11 ?_
        refine s_getr (b := 263 + 1) fX0_136 (dcx dX0_growGuess_c2 32 rfl) (FL_0 isL263) ?_
        refine r_iload (dcx dX0_growGuess_c2 33 rfl) 0 rfl ?_
        obtain ⟨hb_, hyp⟩ := hyp
        refine s_iald (dcx dX0_growGuess_c2 34 rfl) (AL_0 isL263) hb_ ?_
        refine r_aload_n (dcx dX0_growGuess_c2 35 rfl) 1 rfl ?_
        refine s_getr (b := 46) fX0_54 (dcx dX0_growGuess_c2 36 rfl) F219_0 ?_
        refine r_aload_n (dcx dX0_growGuess_c2 37 rfl) 1 rfl ?_
        refine s_getr (b := 263) fX0_48 (dcx dX0_growGuess_c2 38 rfl) F219_11 ?_
        refine r_iload (dcx dX0_growGuess_c2 39 rfl) 11 rfl ?_
        refine r_iload (dcx dX0_growGuess_c3 0 rfl) 10 rfl ?_
        refine r_iload_n (dcx dX0_growGuess_c3 1 rfl) 4 rfl ?_
        refine s_callV (as := [.ref 263, .int x12, .int x11, .int x3]) (st := [.int (s3_.1 (263 + 1) (Int32.toNatClampNeg r2_)), .int r2_, .ref 268]) zX1_growth kX0_growGuess_204 (dcx dX0_growGuess_c3 2 rfl) rfl rfl (Nat.le_of_ble_eq_true rfl) O46 rfl rfl (C2.mono hyp ?_)
        rintro _ s5_ ⟨r6_, rfl, hyp⟩
        show G2 Γ l mX0_growGuess 238 [(13, .int r2_), (0, .ref 219), (1, .int x1), (2, .ref a2), (3, .int x3), (4, .ref a4), (5, .ref a5), (7, .int x7), (8, .int x8), (10, .int x10), (11, .int x11), (12, .int x12)] [.int r6_, .int (s3_.1 (263 + 1) (Int32.toNatClampNeg r2_)), .int r2_, .ref 268] s5_ K
        refine r_iadd (dcx dX0_growGuess_c3 3 rfl) ?_
        refine r_iconst (v := 0) (dcx dX0_growGuess_c3 4 rfl) rfl ?_
        refine r_bipush (v := 99) (dcx dX0_growGuess_c3 5 rfl) rfl ?_
        refine s_callSN (as := [.int ((s3_.1 (263 + 1) (Int32.toNatClampNeg r2_)) + r6_), .int 0, .int 99]) (st := [.int r2_, .ref 268]) zX9_held kX0_growGuess_113 (dcx dX0_growGuess_c3 6 rfl) rfl rfl (Nat.le_of_ble_eq_true rfl) (C2.mono hyp ?_)
        rintro _ s7_ ⟨r8_, rfl, hyp⟩
        show G2 Γ l mX0_growGuess 245 [(13, .int r2_), (0, .ref 219), (1, .int x1), (2, .ref a2), (3, .int x3), (4, .ref a4), (5, .ref a5), (7, .int x7), (8, .int x8), (10, .int x10), (11, .int x11), (12, .int x12)] [.int r8_, .int r2_, .ref 268] s7_ K
        obtain ⟨hb_, hyp⟩ := hyp
        refine s_iast (dcx dX0_growGuess_c3 7 rfl) A268 hb_ ?_
        obtain ⟨s9_, es9_⟩ : ∃ z : SS, z = sI s7_ 268 (Int32.toNatClampNeg r2_) r8_ := ⟨_, rfl⟩
        rw [← es9_]
        have hyp := hyp s9_ es9_
        refine r_aload_n (dcx dX0_growGuess_c3 8 rfl) 1 rfl ?_
        refine s_getr (b := 268) fX0_51 (dcx dX0_growGuess_c3 9 rfl) F219_12 ?_
        refine r_iload (dcx dX0_growGuess_c3 10 rfl) 0 rfl ?_
        obtain ⟨hb_, hyp⟩ := hyp
        refine s_iald (dcx dX0_growGuess_c3 11 rfl) A268 hb_ ?_
        refine r_aload (dcx dX0_growGuess_c3 12 rfl) 6 rfl ?_
        refine r_iload (dcx dX0_growGuess_c3 13 rfl) 0 rfl ?_
        obtain ⟨hb_, hyp⟩ := hyp
        refine s_iald (dcx dX0_growGuess_c3 14 rfl) h5 hb_ ?_
        refine r_icmp_eq (tgt := 269) (dcx dX0_growGuess_c3 15 rfl) (by decide) (fun q_ => ?_) (fun q_ => ?_)
        · have hyp := hyp.1 q_
          refine r_loc (lv1 := [(0, .ref 219), (1, .int x1), (2, .ref a2), (3, .int x3), (4, .ref a4), (5, .ref a5), (7, .int x7), (8, .int x8), (10, .int x10), (11, .int x11), (12, .int x12)]) [1, 2, 3, 4, 5, 6, 7, 8, 9, 10, 11] rfl ?_
          exact hyp
        · have hyp := hyp.2 q_
          refine r_aload_n (dcx dX0_growGuess_c3 16 rfl) 1 rfl ?_
          refine r_iload (dcx dX0_growGuess_c3 17 rfl) 11 rfl ?_
          refine r_iload (dcx dX0_growGuess_c3 18 rfl) 10 rfl ?_
          refine s_callV (as := [.int x12, .int x11]) (st := []) zX0_widenBox kX0_growGuess_208 (dcx dX0_growGuess_c3 19 rfl) rfl rfl (Nat.le_of_ble_eq_true rfl) O219 rfl rfl (C2.mono hyp ?_)
          rintro _ s10_ ⟨rfl, hyp⟩
          show G2 Γ l mX0_growGuess 269 [(13, .int r2_), (0, .ref 219), (1, .int x1), (2, .ref a2), (3, .int x3), (4, .ref a4), (5, .ref a5), (7, .int x7), (8, .int x8), (10, .int x10), (11, .int x11), (12, .int x12)] [] s10_ K
          refine r_loc (lv1 := [(0, .ref 219), (1, .int x1), (2, .ref a2), (3, .int x3), (4, .ref a4), (5, .ref a5), (7, .int x7), (8, .int x8), (10, .int x10), (11, .int x11), (12, .int x12)]) [1, 2, 3, 4, 5, 6, 7, 8, 9, 10, 11] rfl ?_
          exact hyp
set_option maxHeartbeats 4000000 in
set_option maxRecDepth 20000 in
theorem tX0_growGuess_269 {Γ : GE} {l : Launch} {x1 : Int32} {a2 : Nat} {x3 : Int32} {a4 : Nat} {a5 : Nat} {x7 : Int32} {x8 : Int32} {x10 : Int32} {x11 : Int32} {x12 : Int32} {σ : SS} {K : Option Value → SS → Prop} (h2 : isP a2) (h4 : shA a4 = some (.int, 80)) (h5 : shA a5 = some (.int, 80)) (hyp : wX0_growGuess_168 Γ l x1 a2 x3 a4 a5 x7 x8 x10 x11 (x12 + 1) σ K) : wX0_growGuess_269 Γ l x1 a2 x3 a4 a5 x7 x8 x10 x11 x12 σ K := by
  show G2 Γ l mX0_growGuess 269 [(0, .ref 219), (1, .int x1), (2, .ref a2), (3, .int x3), (4, .ref a4), (5, .ref a5), (7, .int x7), (8, .int x8), (10, .int x10), (11, .int x11), (12, .int x12)] [] σ K
  refine r_iinc (lv1 := [(12, .int (x12 + 1)), (0, .ref 219), (1, .int x1), (2, .ref a2), (3, .int x3), (4, .ref a4), (5, .ref a5), (7, .int x7), (8, .int x8), (10, .int x10), (11, .int x11)]) (dcx dX0_growGuess_c3 20 rfl) 10 rfl (Nat.le_of_ble_eq_true rfl) rfl ?_
  refine r_goto (tgt := 168) (dcx dX0_growGuess_c3 21 rfl) (by decide) ?_
  refine r_loc (lv1 := [(0, .ref 219), (1, .int x1), (2, .ref a2), (3, .int x3), (4, .ref a4), (5, .ref a5), (7, .int x7), (8, .int x8), (10, .int x10), (11, .int x11), (12, .int (x12 + 1))]) [1, 2, 3, 4, 5, 6, 7, 8, 9, 10, 0] rfl ?_
  exact hyp
set_option maxHeartbeats 4000000 in
set_option maxRecDepth 20000 in
theorem tX0_growsOtherwise {Γ : GE} {l : Launch} {x1 : Int32} {a2 : Nat} {n2 : Nat} {x3 : Int32} {σ : SS} {K : Option Value → SS → Prop} (h2 : shA a2 = some (.int, n2)) (hyp : vp_in x1 80 ∧ (vp_in x1 n2 ∧ ((¬ (σ.1 (263 + 1) (Int32.toNatClampNeg x1)) = (σ.1 a2 (Int32.toNatClampNeg x1)) → (K (some (.int 1)) σ)) ∧ ((σ.1 (263 + 1) (Int32.toNatClampNeg x1)) = (σ.1 a2 (Int32.toNatClampNeg x1)) → ((x3 = 0 → (K (some (.int 0)) σ)) ∧ (¬ (x3 = 0) → (vp_in (x1 - 1) 80 ∧ (vp_in (x1 - 1) n2 ∧ ((¬ (σ.1 (263 + 1) (Int32.toNatClampNeg (x1 - 1))) = (σ.1 a2 (Int32.toNatClampNeg (x1 - 1))) → (K (some (.int 1)) σ)) ∧ ((σ.1 (263 + 1) (Int32.toNatClampNeg (x1 - 1))) = (σ.1 a2 (Int32.toNatClampNeg (x1 - 1))) → (vp_in (x1 + 1) 80 ∧ (vp_in (x1 + 1) n2 ∧ ((¬ (σ.1 (263 + 1) (Int32.toNatClampNeg (x1 + 1))) = (σ.1 a2 (Int32.toNatClampNeg (x1 + 1))) → (K (some (.int 1)) σ)) ∧ ((σ.1 (263 + 1) (Int32.toNatClampNeg (x1 + 1))) = (σ.1 a2 (Int32.toNatClampNeg (x1 + 1))) → (vp_in (x1 - 10) 80 ∧ (vp_in (x1 - 10) n2 ∧ ((¬ (σ.1 (263 + 1) (Int32.toNatClampNeg (x1 - 10))) = (σ.1 a2 (Int32.toNatClampNeg (x1 - 10))) → (K (some (.int 1)) σ)) ∧ ((σ.1 (263 + 1) (Int32.toNatClampNeg (x1 - 10))) = (σ.1 a2 (Int32.toNatClampNeg (x1 - 10))) → (vp_in (x1 + 10) 80 ∧ (vp_in (x1 + 10) n2 ∧ (((σ.1 (263 + 1) (Int32.toNatClampNeg (x1 + 10))) = (σ.1 a2 (Int32.toNatClampNeg (x1 + 10))) → (K (some (.int 0)) σ)) ∧ (¬ ((σ.1 (263 + 1) (Int32.toNatClampNeg (x1 + 10))) = (σ.1 a2 (Int32.toNatClampNeg (x1 + 10)))) → (K (some (.int 1)) σ))))))))))))))))))))))) : C2 Γ l mX0_growsOtherwise [.ref 219, .int x1, .ref a2, .int x3] σ K := by
  refine c2_of (lv := [(0, .ref 219), (1, .int x1), (2, .ref a2), (3, .int x3)]) (by decide) (Nat.le_of_ble_eq_true rfl) rfl ?_
  refine r_aload_n (dcx dX0_growsOtherwise_c0 0 rfl) 0 rfl ?_
  refine s_getr (b := 263) fX0_48 (dcx dX0_growsOtherwise_c0 1 rfl) F219_11 ?_
  refine s_getr (b := 263 + 1) fX0_136 (dcx dX0_growsOtherwise_c0 2 rfl) (FL_0 isL263) ?_
  refine r_astore (lv1 := [(4, .ref (263 + 1)), (0, .ref 219), (1, .int x1), (2, .ref a2), (3, .int x3)]) (dcx dX0_growsOtherwise_c0 3 rfl) (Nat.le_of_ble_eq_true rfl) rfl ?_
  refine r_aload (dcx dX0_growsOtherwise_c0 4 rfl) 0 rfl ?_
  refine r_iload_n (dcx dX0_growsOtherwise_c0 5 rfl) 2 rfl ?_
  obtain ⟨hb_, hyp⟩ := hyp
  refine s_iald (dcx dX0_growsOtherwise_c0 6 rfl) (AL_0 isL263) hb_ ?_
  refine r_aload_n (dcx dX0_growsOtherwise_c0 7 rfl) 3 rfl ?_
  refine r_iload_n (dcx dX0_growsOtherwise_c0 8 rfl) 2 rfl ?_
  obtain ⟨hb_, hyp⟩ := hyp
  refine s_iald (dcx dX0_growsOtherwise_c0 9 rfl) h2 hb_ ?_
  refine r_icmp_ne (tgt := 83) (dcx dX0_growsOtherwise_c0 10 rfl) (by decide) (fun q_ => ?_) (fun q_ => ?_)
  · have hyp := hyp.1 q_
    refine r_iconst (v := 1) (dcx dX0_growsOtherwise_c1 17 rfl) rfl ?_
    refine r_goto (tgt := 88) (dcx dX0_growsOtherwise_c1 18 rfl) (by decide) ?_
    exact s_ret rfl rfl rfl hyp (dcx dX0_growsOtherwise_c1 20 rfl)
  · have hyp := hyp.2 q_
    refine r_iload_n (dcx dX0_growsOtherwise_c0 11 rfl) 4 rfl ?_
    refine r_if_eq (tgt := 87) (dcx dX0_growsOtherwise_c0 12 rfl) (by decide) (fun q_ => ?_) (fun q_ => ?_)
    · have hyp := hyp.1 q_
      refine r_iconst (v := 0) (dcx dX0_growsOtherwise_c1 19 rfl) rfl ?_
      exact s_ret rfl rfl rfl hyp (dcx dX0_growsOtherwise_c1 20 rfl)
    · have hyp := hyp.2 q_
      refine r_aload (dcx dX0_growsOtherwise_c0 13 rfl) 0 rfl ?_
      refine r_iload_n (dcx dX0_growsOtherwise_c0 14 rfl) 2 rfl ?_
      refine r_iconst (v := 1) (dcx dX0_growsOtherwise_c0 15 rfl) rfl ?_
      refine r_isub (dcx dX0_growsOtherwise_c0 16 rfl) ?_
      obtain ⟨hb_, hyp⟩ := hyp
      refine s_iald (dcx dX0_growsOtherwise_c0 17 rfl) (AL_0 isL263) hb_ ?_
      refine r_aload_n (dcx dX0_growsOtherwise_c0 18 rfl) 3 rfl ?_
      refine r_iload_n (dcx dX0_growsOtherwise_c0 19 rfl) 2 rfl ?_
      refine r_iconst (v := 1) (dcx dX0_growsOtherwise_c0 20 rfl) rfl ?_
      refine r_isub (dcx dX0_growsOtherwise_c0 21 rfl) ?_
      obtain ⟨hb_, hyp⟩ := hyp
      refine s_iald (dcx dX0_growsOtherwise_c0 22 rfl) h2 hb_ ?_
      refine r_icmp_ne (tgt := 83) (dcx dX0_growsOtherwise_c0 23 rfl) (by decide) (fun q_ => ?_) (fun q_ => ?_)
      · have hyp := hyp.1 q_
        refine r_iconst (v := 1) (dcx dX0_growsOtherwise_c1 17 rfl) rfl ?_
        refine r_goto (tgt := 88) (dcx dX0_growsOtherwise_c1 18 rfl) (by decide) ?_
        exact s_ret rfl rfl rfl hyp (dcx dX0_growsOtherwise_c1 20 rfl)
      · have hyp := hyp.2 q_
        refine r_aload (dcx dX0_growsOtherwise_c0 24 rfl) 0 rfl ?_
        refine r_iload_n (dcx dX0_growsOtherwise_c0 25 rfl) 2 rfl ?_
        refine r_iconst (v := 1) (dcx dX0_growsOtherwise_c0 26 rfl) rfl ?_
        refine r_iadd (dcx dX0_growsOtherwise_c0 27 rfl) ?_
        obtain ⟨hb_, hyp⟩ := hyp
        refine s_iald (dcx dX0_growsOtherwise_c0 28 rfl) (AL_0 isL263) hb_ ?_
        refine r_aload_n (dcx dX0_growsOtherwise_c0 29 rfl) 3 rfl ?_
        refine r_iload_n (dcx dX0_growsOtherwise_c0 30 rfl) 2 rfl ?_
        refine r_iconst (v := 1) (dcx dX0_growsOtherwise_c0 31 rfl) rfl ?_
        refine r_iadd (dcx dX0_growsOtherwise_c0 32 rfl) ?_
        obtain ⟨hb_, hyp⟩ := hyp
        refine s_iald (dcx dX0_growsOtherwise_c0 33 rfl) h2 hb_ ?_
        refine r_icmp_ne (tgt := 83) (dcx dX0_growsOtherwise_c0 34 rfl) (by decide) (fun q_ => ?_) (fun q_ => ?_)
        · have hyp := hyp.1 q_
          refine r_iconst (v := 1) (dcx dX0_growsOtherwise_c1 17 rfl) rfl ?_
          refine r_goto (tgt := 88) (dcx dX0_growsOtherwise_c1 18 rfl) (by decide) ?_
          exact s_ret rfl rfl rfl hyp (dcx dX0_growsOtherwise_c1 20 rfl)
        · have hyp := hyp.2 q_
          refine r_aload (dcx dX0_growsOtherwise_c0 35 rfl) 0 rfl ?_
          refine r_iload_n (dcx dX0_growsOtherwise_c0 36 rfl) 2 rfl ?_
          refine r_bipush (v := 10) (dcx dX0_growsOtherwise_c0 37 rfl) rfl ?_
          refine r_isub (dcx dX0_growsOtherwise_c0 38 rfl) ?_
          obtain ⟨hb_, hyp⟩ := hyp
          refine s_iald (dcx dX0_growsOtherwise_c0 39 rfl) (AL_0 isL263) hb_ ?_
          refine r_aload_n (dcx dX0_growsOtherwise_c1 0 rfl) 3 rfl ?_
          refine r_iload_n (dcx dX0_growsOtherwise_c1 1 rfl) 2 rfl ?_
          refine r_bipush (v := 10) (dcx dX0_growsOtherwise_c1 2 rfl) rfl ?_
          refine r_isub (dcx dX0_growsOtherwise_c1 3 rfl) ?_
          obtain ⟨hb_, hyp⟩ := hyp
          refine s_iald (dcx dX0_growsOtherwise_c1 4 rfl) h2 hb_ ?_
          refine r_icmp_ne (tgt := 83) (dcx dX0_growsOtherwise_c1 5 rfl) (by decide) (fun q_ => ?_) (fun q_ => ?_)
          · have hyp := hyp.1 q_
            refine r_iconst (v := 1) (dcx dX0_growsOtherwise_c1 17 rfl) rfl ?_
            refine r_goto (tgt := 88) (dcx dX0_growsOtherwise_c1 18 rfl) (by decide) ?_
            exact s_ret rfl rfl rfl hyp (dcx dX0_growsOtherwise_c1 20 rfl)
          · have hyp := hyp.2 q_
            refine r_aload (dcx dX0_growsOtherwise_c1 6 rfl) 0 rfl ?_
            refine r_iload_n (dcx dX0_growsOtherwise_c1 7 rfl) 2 rfl ?_
            refine r_bipush (v := 10) (dcx dX0_growsOtherwise_c1 8 rfl) rfl ?_
            refine r_iadd (dcx dX0_growsOtherwise_c1 9 rfl) ?_
            obtain ⟨hb_, hyp⟩ := hyp
            refine s_iald (dcx dX0_growsOtherwise_c1 10 rfl) (AL_0 isL263) hb_ ?_
            refine r_aload_n (dcx dX0_growsOtherwise_c1 11 rfl) 3 rfl ?_
            refine r_iload_n (dcx dX0_growsOtherwise_c1 12 rfl) 2 rfl ?_
            refine r_bipush (v := 10) (dcx dX0_growsOtherwise_c1 13 rfl) rfl ?_
            refine r_iadd (dcx dX0_growsOtherwise_c1 14 rfl) ?_
            obtain ⟨hb_, hyp⟩ := hyp
            refine s_iald (dcx dX0_growsOtherwise_c1 15 rfl) h2 hb_ ?_
            refine r_icmp_eq (tgt := 87) (dcx dX0_growsOtherwise_c1 16 rfl) (by decide) (fun q_ => ?_) (fun q_ => ?_)
            · have hyp := hyp.1 q_
              refine r_iconst (v := 0) (dcx dX0_growsOtherwise_c1 19 rfl) rfl ?_
              exact s_ret rfl rfl rfl hyp (dcx dX0_growsOtherwise_c1 20 rfl)
            · have hyp := hyp.2 q_
              refine r_iconst (v := 1) (dcx dX0_growsOtherwise_c1 17 rfl) rfl ?_
              refine r_goto (tgt := 88) (dcx dX0_growsOtherwise_c1 18 rfl) (by decide) ?_
              exact s_ret rfl rfl rfl hyp (dcx dX0_growsOtherwise_c1 20 rfl)
set_option maxHeartbeats 4000000 in
set_option maxRecDepth 20000 in
theorem tX0_closeBox {Γ : GE} {l : Launch}  {σ : SS} {K : Option Value → SS → Prop}  (hyp : ∀ s1_ : SS, s1_ = sI σ 219 13 8 → (∀ s2_ : SS, s2_ = sI s1_ 219 14 ((-1)) → (∀ s3_ : SS, s3_ = sI s2_ 219 15 6 → (∀ s4_ : SS, s4_ = sI s3_ 219 16 ((-1)) → (K none s4_))))) : C2 Γ l mX0_closeBox [.ref 219] σ K := by
  refine c2_of (lv := [(0, .ref 219)]) (by decide) (Nat.le_of_ble_eq_true rfl) rfl ?_
  refine r_aload_n (dcx dX0_closeBox_c0 0 rfl) 0 rfl ?_
  refine r_bipush (v := 8) (dcx dX0_closeBox_c0 1 rfl) rfl ?_
  refine s_puti gX0_169 (dcx dX0_closeBox_c0 2 rfl) F219_13 ?_
  obtain ⟨s1_, es1_⟩ : ∃ z : SS, z = sI σ 219 13 8 := ⟨_, rfl⟩
  rw [← es1_]
  have hyp := hyp s1_ es1_
  refine r_aload_n (dcx dX0_closeBox_c0 3 rfl) 0 rfl ?_
  refine r_iconst (v := (-1)) (dcx dX0_closeBox_c0 4 rfl) rfl ?_
  refine s_puti gX0_172 (dcx dX0_closeBox_c0 5 rfl) F219_14 ?_
  obtain ⟨s2_, es2_⟩ : ∃ z : SS, z = sI s1_ 219 14 ((-1)) := ⟨_, rfl⟩
  rw [← es2_]
  have hyp := hyp s2_ es2_
  refine r_aload_n (dcx dX0_closeBox_c0 6 rfl) 0 rfl ?_
  refine r_bipush (v := 6) (dcx dX0_closeBox_c0 7 rfl) rfl ?_
  refine s_puti gX0_175 (dcx dX0_closeBox_c0 8 rfl) F219_15 ?_
  obtain ⟨s3_, es3_⟩ : ∃ z : SS, z = sI s2_ 219 15 6 := ⟨_, rfl⟩
  rw [← es3_]
  have hyp := hyp s3_ es3_
  refine r_aload_n (dcx dX0_closeBox_c0 9 rfl) 0 rfl ?_
  refine r_iconst (v := (-1)) (dcx dX0_closeBox_c0 10 rfl) rfl ?_
  refine s_puti gX0_178 (dcx dX0_closeBox_c0 11 rfl) F219_16 ?_
  obtain ⟨s4_, es4_⟩ : ∃ z : SS, z = sI s3_ 219 16 ((-1)) := ⟨_, rfl⟩
  rw [← es4_]
  have hyp := hyp s4_ es4_
  exact s_vret rfl hyp (dcx dX0_closeBox_c0 12 rfl)
set_option maxHeartbeats 4000000 in
set_option maxRecDepth 20000 in
theorem tX0_widenBox {Γ : GE} {l : Launch} {x1 : Int32} {x2 : Int32} {σ : SS} {K : Option Value → SS → Prop}  (hyp : ∀ s1_ : SS, s1_ = sI σ 219 13 (imn (σ.1 219 13) x1) → (∀ s2_ : SS, s2_ = sI s1_ 219 14 (imx (s1_.1 219 14) x1) → (∀ s3_ : SS, s3_ = sI s2_ 219 15 (imn (s2_.1 219 15) x2) → (∀ s4_ : SS, s4_ = sI s3_ 219 16 (imx (s3_.1 219 16) x2) → (K none s4_))))) : C2 Γ l mX0_widenBox [.ref 219, .int x1, .int x2] σ K := by
  refine c2_of (lv := [(0, .ref 219), (1, .int x1), (2, .int x2)]) (by decide) (Nat.le_of_ble_eq_true rfl) rfl ?_
  refine r_aload_n (dcx dX0_widenBox_c0 0 rfl) 0 rfl ?_
  refine r_aload_n (dcx dX0_widenBox_c0 1 rfl) 0 rfl ?_
  refine s_geti fX0_169 (dcx dX0_widenBox_c0 2 rfl) F219_13 ?_
  refine r_iload_n (dcx dX0_widenBox_c0 3 rfl) 1 rfl ?_
  refine r_min q1167 q611 q16 q612 (by decide) (Nat.le_of_ble_eq_true rfl) (Nat.zero_le _) (Nat.zero_le _) (dcx dX0_widenBox_c0 4 rfl) ?_
  refine s_puti gX0_169 (dcx dX0_widenBox_c0 5 rfl) F219_13 ?_
  obtain ⟨s1_, es1_⟩ : ∃ z : SS, z = sI σ 219 13 (imn (σ.1 219 13) x1) := ⟨_, rfl⟩
  rw [← es1_]
  have hyp := hyp s1_ es1_
  refine r_aload_n (dcx dX0_widenBox_c0 6 rfl) 0 rfl ?_
  refine r_aload_n (dcx dX0_widenBox_c0 7 rfl) 0 rfl ?_
  refine s_geti fX0_172 (dcx dX0_widenBox_c0 8 rfl) F219_14 ?_
  refine r_iload_n (dcx dX0_widenBox_c0 9 rfl) 1 rfl ?_
  refine r_max q1166 q608 q16 q609 (by decide) (Nat.le_of_ble_eq_true rfl) (Nat.zero_le _) (Nat.zero_le _) (dcx dX0_widenBox_c0 10 rfl) ?_
  refine s_puti gX0_172 (dcx dX0_widenBox_c0 11 rfl) F219_14 ?_
  obtain ⟨s2_, es2_⟩ : ∃ z : SS, z = sI s1_ 219 14 (imx (s1_.1 219 14) x1) := ⟨_, rfl⟩
  rw [← es2_]
  have hyp := hyp s2_ es2_
  refine r_aload_n (dcx dX0_widenBox_c0 12 rfl) 0 rfl ?_
  refine r_aload_n (dcx dX0_widenBox_c0 13 rfl) 0 rfl ?_
  refine s_geti fX0_175 (dcx dX0_widenBox_c0 14 rfl) F219_15 ?_
  refine r_iload_n (dcx dX0_widenBox_c0 15 rfl) 2 rfl ?_
  refine r_min q1167 q611 q16 q612 (by decide) (Nat.le_of_ble_eq_true rfl) (Nat.zero_le _) (Nat.zero_le _) (dcx dX0_widenBox_c0 16 rfl) ?_
  refine s_puti gX0_175 (dcx dX0_widenBox_c0 17 rfl) F219_15 ?_
  obtain ⟨s3_, es3_⟩ : ∃ z : SS, z = sI s2_ 219 15 (imn (s2_.1 219 15) x2) := ⟨_, rfl⟩
  rw [← es3_]
  have hyp := hyp s3_ es3_
  refine r_aload_n (dcx dX0_widenBox_c0 18 rfl) 0 rfl ?_
  refine r_aload_n (dcx dX0_widenBox_c0 19 rfl) 0 rfl ?_
  refine s_geti fX0_178 (dcx dX0_widenBox_c0 20 rfl) F219_16 ?_
  refine r_iload_n (dcx dX0_widenBox_c0 21 rfl) 2 rfl ?_
  refine r_max q1166 q608 q16 q609 (by decide) (Nat.le_of_ble_eq_true rfl) (Nat.zero_le _) (Nat.zero_le _) (dcx dX0_widenBox_c0 22 rfl) ?_
  refine s_puti gX0_178 (dcx dX0_widenBox_c0 23 rfl) F219_16 ?_
  obtain ⟨s4_, es4_⟩ : ∃ z : SS, z = sI s3_ 219 16 (imx (s3_.1 219 16) x2) := ⟨_, rfl⟩
  rw [← es4_]
  have hyp := hyp s4_ es4_
  exact s_vret rfl hyp (dcx dX0_widenBox_c0 24 rfl)
def wX0_write_10 (Γ : GE) (l : Launch) (x1 : Int32) (a2 : Nat) (x3 : Int32) (σ : SS) (K : Option Value → SS → Prop) : Prop := G2 Γ l mX0_write 10 [(0, .ref 219), (1, .int x1), (2, .ref a2), (3, .int x3)] [] σ K
def wX0_write_29 (Γ : GE) (l : Launch) (x1 : Int32) (a2 : Nat) (x3 : Int32) (x4 : Int64) (x6 : Int32) (σ : SS) (K : Option Value → SS → Prop) : Prop := G2 Γ l mX0_write 29 [(0, .ref 219), (1, .int x1), (2, .ref a2), (3, .int x3), (4, .long x4), (6, .int x6)] [] σ K
set_option maxHeartbeats 4000000 in
set_option maxRecDepth 20000 in
theorem tX0_write {Γ : GE} {l : Launch} {x1 : Int32} {σ : SS} {K : Option Value → SS → Prop}  (hyp : ∃ b1_ : Nat, σ.2.2 46 3 = b1_ ∧ isP b1_ ∧ (wX0_write_10 Γ l x1 b1_ 0 σ K)) : C2 Γ l mX0_write [.ref 219, .int x1] σ K := by
  refine c2_of (lv := [(0, .ref 219), (1, .int x1)]) (by decide) (Nat.le_of_ble_eq_true rfl) rfl ?_
  refine r_aload_n (dcx dX0_write_c0 0 rfl) 0 rfl ?_
  refine s_getr (b := 46) fX0_54 (dcx dX0_write_c0 1 rfl) F219_0 ?_
  obtain ⟨b1_, eb1_, hb1_, hyp⟩ := hyp
  refine s_getmE fX0_75 (dcx dX0_write_c0 2 rfl) F46_3 eb1_ (nzP hb1_) ?_
  refine r_astore_n (lv1 := [(2, .ref b1_), (0, .ref 219), (1, .int x1)]) (dcx dX0_write_c0 3 rfl) (Nat.le_of_ble_eq_true rfl) rfl ?_
  refine r_iconst (v := 0) (dcx dX0_write_c0 4 rfl) rfl ?_
  refine r_istore_n (lv1 := [(3, .int 0), (2, .ref b1_), (0, .ref 219), (1, .int x1)]) (dcx dX0_write_c0 5 rfl) (Nat.le_of_ble_eq_true rfl) rfl ?_
  refine r_loc (lv1 := [(0, .ref 219), (1, .int x1), (2, .ref b1_), (3, .int 0)]) [2, 3, 1, 0] rfl ?_
  exact hyp
set_option maxHeartbeats 4000000 in
set_option maxRecDepth 20000 in
theorem tX0_write_10 {Γ : GE} {l : Launch} {x1 : Int32} {a2 : Nat} {x3 : Int32} {σ : SS} {K : Option Value → SS → Prop} (h2 : isP a2) (hyp : ((σ.1 a2 12) ≤ x3 → (K none σ)) ∧ (¬ ((σ.1 a2 12) ≤ x3) → (wX0_write_29 Γ l x1 a2 x3 0 ((σ.1 a2 11) - 1) σ K))) : wX0_write_10 Γ l x1 a2 x3 σ K := by
  show G2 Γ l mX0_write 10 [(0, .ref 219), (1, .int x1), (2, .ref a2), (3, .int x3)] [] σ K
  refine r_iload_n (dcx dX0_write_c0 6 rfl) 3 rfl ?_
  refine r_aload_n (dcx dX0_write_c0 7 rfl) 2 rfl ?_
  refine s_geti fX0_104 (dcx dX0_write_c0 8 rfl) (FP_12 h2) ?_
  refine r_icmp_ge (tgt := 82) (dcx dX0_write_c0 9 rfl) (by decide) (fun q_ => ?_) (fun q_ => ?_)
  · have hyp := hyp.1 q_
    exact s_vret rfl hyp (dcx dX0_write_c1 5 rfl)
  · have hyp := hyp.2 q_
    refine r_lconst (v := 0) (dcx dX0_write_c0 10 rfl) rfl ?_
    refine r_lstore (lv1 := [(4, .long 0), (0, .ref 219), (1, .int x1), (2, .ref a2), (3, .int x3)]) (dcx dX0_write_c0 11 rfl) (Nat.le_of_ble_eq_true rfl) rfl ?_
    refine r_aload_n (dcx dX0_write_c0 12 rfl) 3 rfl ?_
    refine s_geti fX0_107 (dcx dX0_write_c0 13 rfl) (FP_11 h2) ?_
    refine r_iconst (v := 1) (dcx dX0_write_c0 14 rfl) rfl ?_
    refine r_isub (dcx dX0_write_c0 15 rfl) ?_
    refine r_istore (lv1 := [(6, .int ((σ.1 a2 11) - 1)), (4, .long 0), (0, .ref 219), (1, .int x1), (2, .ref a2), (3, .int x3)]) (dcx dX0_write_c0 16 rfl) (Nat.le_of_ble_eq_true rfl) rfl ?_
    refine r_loc (lv1 := [(0, .ref 219), (1, .int x1), (2, .ref a2), (3, .int x3), (4, .long 0), (6, .int ((σ.1 a2 11) - 1))]) [2, 3, 4, 5, 1, 0] rfl ?_
    exact hyp
set_option maxHeartbeats 4000000 in
set_option maxRecDepth 20000 in
theorem tX0_write_29 {Γ : GE} {l : Launch} {x1 : Int32} {a2 : Nat} {x3 : Int32} {x4 : Int64} {x6 : Int32} {σ : SS} {K : Option Value → SS → Prop} (h2 : isP a2) (hyp : (x6 < 0 → (vp_in ((x1 * 6) + x3) 17856 ∧ (∀ s1_ : SS, s1_ = sJ σ 260 (Int32.toNatClampNeg ((x1 * 6) + x3)) x4 → (wX0_write_10 Γ l x1 a2 (x3 + 1) s1_ K)))) ∧ (¬ (x6 < 0) → (C2 Γ l mX9_indexOf [.int x6, .int x3] σ (Ri fun r3_ s2_ => (vp_in r3_ 80 ∧ (∀ v4_ : Int64, v4_ = (x4 <<< (Int32.toInt64 (7 : Int32) &&& 63)) ||| (Int32.toInt64 (s2_.1 (263 + 1) (Int32.toNatClampNeg r3_))) → (wX0_write_29 Γ l x1 a2 x3 v4_ (x6 + (-1)) s2_ K))))))) : wX0_write_29 Γ l x1 a2 x3 x4 x6 σ K := by
  show G2 Γ l mX0_write 29 [(0, .ref 219), (1, .int x1), (2, .ref a2), (3, .int x3), (4, .long x4), (6, .int x6)] [] σ K
  refine r_iload (dcx dX0_write_c0 17 rfl) 5 rfl ?_
  refine r_if_lt (tgt := 63) (dcx dX0_write_c0 18 rfl) (by decide) (fun q_ => ?_) (fun q_ => ?_)
  · have hyp := hyp.1 q_
    refine r_aload_n (dcx dX0_write_c0 34 rfl) 0 rfl ?_
    refine s_getr (b := 260) fX0_33 (dcx dX0_write_c0 35 rfl) F219_7 ?_
    refine r_iload_n (dcx dX0_write_c0 36 rfl) 1 rfl ?_
    refine r_bipush (v := 6) (dcx dX0_write_c0 37 rfl) rfl ?_
    refine r_imul (dcx dX0_write_c0 38 rfl) ?_
    refine r_iload_n (dcx dX0_write_c0 39 rfl) 3 rfl ?_
    refine r_iadd (dcx dX0_write_c1 0 rfl) ?_
    refine r_lload (dcx dX0_write_c1 1 rfl) 4 rfl ?_
    obtain ⟨hb_, hyp⟩ := hyp
    refine s_last (dcx dX0_write_c1 2 rfl) A260 hb_ ?_
    obtain ⟨s1_, es1_⟩ : ∃ z : SS, z = sJ σ 260 (Int32.toNatClampNeg ((x1 * 6) + x3)) x4 := ⟨_, rfl⟩
    rw [← es1_]
    have hyp := hyp s1_ es1_
    refine r_iinc (lv1 := [(3, .int (x3 + 1)), (0, .ref 219), (1, .int x1), (2, .ref a2), (4, .long x4), (6, .int x6)]) (dcx dX0_write_c1 3 rfl) 3 rfl (Nat.le_of_ble_eq_true rfl) rfl ?_
    refine r_goto (tgt := 10) (dcx dX0_write_c1 4 rfl) (by decide) ?_
    refine r_loc (lv1 := [(0, .ref 219), (1, .int x1), (2, .ref a2), (3, .int (x3 + 1))]) [1, 2, 3, 0] rfl ?_
    exact hyp
  · have hyp := hyp.2 q_
    refine r_lload (dcx dX0_write_c0 19 rfl) 4 rfl ?_
    refine r_bipush (v := 7) (dcx dX0_write_c0 20 rfl) rfl ?_
    refine r_lshl (dcx dX0_write_c0 21 rfl) ?_
    refine r_aload_n (dcx dX0_write_c0 22 rfl) 0 rfl ?_
    refine s_getr (b := 263) fX0_48 (dcx dX0_write_c0 23 rfl) F219_11 ?_
    refine s_getr (b := 263 + 1) fX0_136 (dcx dX0_write_c0 24 rfl) (FL_0 isL263) ?_
    refine r_iload (dcx dX0_write_c0 25 rfl) 5 rfl ?_
    refine r_iload_n (dcx dX0_write_c0 26 rfl) 3 rfl ?_
    refine s_callSN (as := [.int x6, .int x3]) (st := [.ref (263 + 1), .long (x4 <<< (Int32.toInt64 (7 : Int32) &&& 63))]) zX9_indexOf kX0_write_194 (dcx dX0_write_c0 27 rfl) rfl rfl (Nat.le_of_ble_eq_true rfl) (C2.mono hyp ?_)
    rintro _ s2_ ⟨r3_, rfl, hyp⟩
    show G2 Γ l mX0_write 52 [(0, .ref 219), (1, .int x1), (2, .ref a2), (3, .int x3), (4, .long x4), (6, .int x6)] [.int r3_, .ref (263 + 1), .long (x4 <<< (Int32.toInt64 (7 : Int32) &&& 63))] s2_ K
    obtain ⟨hb_, hyp⟩ := hyp
    refine s_iald (dcx dX0_write_c0 28 rfl) (AL_0 isL263) hb_ ?_
    refine r_i2l (dcx dX0_write_c0 29 rfl) ?_
    refine r_lor (dcx dX0_write_c0 30 rfl) ?_
    obtain ⟨v4_, ev4_⟩ : ∃ z : Int64, z = (x4 <<< (Int32.toInt64 (7 : Int32) &&& 63)) ||| (Int32.toInt64 (s2_.1 (263 + 1) (Int32.toNatClampNeg r3_))) := ⟨_, rfl⟩
    rw [← ev4_]
    have hyp := hyp v4_ ev4_
    refine r_lstore (lv1 := [(4, .long v4_), (0, .ref 219), (1, .int x1), (2, .ref a2), (3, .int x3), (6, .int x6)]) (dcx dX0_write_c0 31 rfl) (Nat.le_of_ble_eq_true rfl) rfl ?_
    refine r_iinc (lv1 := [(6, .int (x6 + (-1))), (4, .long v4_), (0, .ref 219), (1, .int x1), (2, .ref a2), (3, .int x3)]) (dcx dX0_write_c0 32 rfl) 5 rfl (Nat.le_of_ble_eq_true rfl) rfl ?_
    refine r_goto (tgt := 29) (dcx dX0_write_c0 33 rfl) (by decide) ?_
    refine r_loc (lv1 := [(0, .ref 219), (1, .int x1), (2, .ref a2), (3, .int x3), (4, .long v4_), (6, .int (x6 + (-1)))]) [2, 3, 4, 5, 1, 0] rfl ?_
    exact hyp
set_option maxHeartbeats 4000000 in
set_option maxRecDepth 20000 in
theorem tX0_highIn {Γ : GE} {l : Launch} {x1 : Int32} {x2 : Int32} {x3 : Int32} {σ : SS} {K : Option Value → SS → Prop}  (hyp : vp_in ((x1 * 6) + x3) 17856 ∧ (K (some (.int (Int64.toInt32 (((σ.2.1 260 (Int32.toNatClampNeg ((x1 * 6) + x3))) >>> (Int32.toInt64 (7 * x2) &&& 63)) &&& 127)))) σ)) : C2 Γ l mX0_highIn [.ref 219, .int x1, .int x2, .int x3] σ K := by
  refine c2_of (lv := [(0, .ref 219), (1, .int x1), (2, .int x2), (3, .int x3)]) (by decide) (Nat.le_of_ble_eq_true rfl) rfl ?_
  refine r_aload_n (dcx dX0_highIn_c0 0 rfl) 0 rfl ?_
  refine s_getr (b := 260) fX0_33 (dcx dX0_highIn_c0 1 rfl) F219_7 ?_
  refine r_iload_n (dcx dX0_highIn_c0 2 rfl) 1 rfl ?_
  refine r_bipush (v := 6) (dcx dX0_highIn_c0 3 rfl) rfl ?_
  refine r_imul (dcx dX0_highIn_c0 4 rfl) ?_
  refine r_iload_n (dcx dX0_highIn_c0 5 rfl) 3 rfl ?_
  refine r_iadd (dcx dX0_highIn_c0 6 rfl) ?_
  obtain ⟨hb_, hyp⟩ := hyp
  refine s_lald (dcx dX0_highIn_c0 7 rfl) A260 hb_ ?_
  refine r_bipush (v := 7) (dcx dX0_highIn_c0 8 rfl) rfl ?_
  refine r_iload_n (dcx dX0_highIn_c0 9 rfl) 2 rfl ?_
  refine r_imul (dcx dX0_highIn_c0 10 rfl) ?_
  refine r_lshr (dcx dX0_highIn_c0 11 rfl) ?_
  refine r_ldc2_w (own := "MownLawn$Clues") (v := 127) rfl q1199 (dcx dX0_highIn_c0 12 rfl) ?_
  refine r_land (dcx dX0_highIn_c0 13 rfl) ?_
  refine r_l2i (dcx dX0_highIn_c0 14 rfl) ?_
  exact s_ret rfl rfl rfl hyp (dcx dX0_highIn_c0 15 rfl)
set_option maxHeartbeats 4000000 in
set_option maxRecDepth 20000 in
theorem tX0_ageOf {Γ : GE} {l : Launch} {x0 : Int32} {σ : SS} {K : Option Value → SS → Prop}  (hyp : K (some (.int (x0 - x0 / 31 * 31))) σ) : C2 Γ l mX0_ageOf [.int x0] σ K := by
  refine c2_of (lv := [(0, .int x0)]) (by decide) (Nat.le_of_ble_eq_true rfl) rfl ?_
  refine r_iload_n (dcx dX0_ageOf_c0 0 rfl) 0 rfl ?_
  refine r_bipush (v := 31) (dcx dX0_ageOf_c0 1 rfl) rfl ?_
  refine r_irem (dcx dX0_ageOf_c0 2 rfl) (by decide) ?_
  exact s_ret rfl rfl rfl hyp (dcx dX0_ageOf_c0 3 rfl)
set_option maxHeartbeats 4000000 in
set_option maxRecDepth 20000 in
theorem tX0_xOf {Γ : GE} {l : Launch} {x0 : Int32} {σ : SS} {K : Option Value → SS → Prop}  (hyp : K (some (.int (((x0 / 31) - (x0 / 31) / 24 * 24) - ((x0 / 31) - (x0 / 31) / 24 * 24) / 6 * 6))) σ) : C2 Γ l mX0_xOf [.int x0] σ K := by
  refine c2_of (lv := [(0, .int x0)]) (by decide) (Nat.le_of_ble_eq_true rfl) rfl ?_
  refine r_iload_n (dcx dX0_xOf_c0 0 rfl) 0 rfl ?_
  refine r_bipush (v := 31) (dcx dX0_xOf_c0 1 rfl) rfl ?_
  refine r_idiv (dcx dX0_xOf_c0 2 rfl) (by decide) ?_
  refine r_bipush (v := 24) (dcx dX0_xOf_c0 3 rfl) rfl ?_
  refine r_irem (dcx dX0_xOf_c0 4 rfl) (by decide) ?_
  refine r_bipush (v := 6) (dcx dX0_xOf_c0 5 rfl) rfl ?_
  refine r_irem (dcx dX0_xOf_c0 6 rfl) (by decide) ?_
  exact s_ret rfl rfl rfl hyp (dcx dX0_xOf_c0 7 rfl)
set_option maxHeartbeats 4000000 in
set_option maxRecDepth 20000 in
theorem tX0_yOf {Γ : GE} {l : Launch} {x0 : Int32} {σ : SS} {K : Option Value → SS → Prop}  (hyp : K (some (.int (((x0 / 31) - (x0 / 31) / 24 * 24) / 6))) σ) : C2 Γ l mX0_yOf [.int x0] σ K := by
  refine c2_of (lv := [(0, .int x0)]) (by decide) (Nat.le_of_ble_eq_true rfl) rfl ?_
  refine r_iload_n (dcx dX0_yOf_c0 0 rfl) 0 rfl ?_
  refine r_bipush (v := 31) (dcx dX0_yOf_c0 1 rfl) rfl ?_
  refine r_idiv (dcx dX0_yOf_c0 2 rfl) (by decide) ?_
  refine r_bipush (v := 24) (dcx dX0_yOf_c0 3 rfl) rfl ?_
  refine r_irem (dcx dX0_yOf_c0 4 rfl) (by decide) ?_
  refine r_bipush (v := 6) (dcx dX0_yOf_c0 5 rfl) rfl ?_
  refine r_idiv (dcx dX0_yOf_c0 6 rfl) (by decide) ?_
  exact s_ret rfl rfl rfl hyp (dcx dX0_yOf_c0 7 rfl)
set_option maxHeartbeats 4000000 in
set_option maxRecDepth 20000 in
theorem tX0_signOf {Γ : GE} {l : Launch} {x0 : Int32} {σ : SS} {K : Option Value → SS → Prop}  (hyp : K (some (.int ((x0 / 31) / 24))) σ) : C2 Γ l mX0_signOf [.int x0] σ K := by
  refine c2_of (lv := [(0, .int x0)]) (by decide) (Nat.le_of_ble_eq_true rfl) rfl ?_
  refine r_iload_n (dcx dX0_signOf_c0 0 rfl) 0 rfl ?_
  refine r_bipush (v := 31) (dcx dX0_signOf_c0 1 rfl) rfl ?_
  refine r_idiv (dcx dX0_signOf_c0 2 rfl) (by decide) ?_
  refine r_bipush (v := 24) (dcx dX0_signOf_c0 3 rfl) rfl ?_
  refine r_idiv (dcx dX0_signOf_c0 4 rfl) (by decide) ?_
  exact s_ret rfl rfl rfl hyp (dcx dX0_signOf_c0 5 rfl)
set_option maxHeartbeats 4000000 in
set_option maxRecDepth 20000 in
theorem tX0_partOf {Γ : GE} {l : Launch} {x0 : Int32} {x1 : Int32} {σ : SS} {K : Option Value → SS → Prop}  (hyp : (x1 = 0 → (C2 Γ l mX0_signOf [.int x0] σ (Ri fun r2_ s1_ => (K (some (.int r2_)) s1_)))) ∧ (x1 = 1 → (C2 Γ l mX0_xOf [.int x0] σ (Ri fun r4_ s3_ => (K (some (.int r4_)) s3_)))) ∧ (x1 = 2 → (C2 Γ l mX0_yOf [.int x0] σ (Ri fun r6_ s5_ => (K (some (.int r6_)) s5_)))) ∧ (¬ x1 = 0 → ¬ x1 = 1 → ¬ x1 = 2 → (C2 Γ l mX0_ageOf [.int x0] σ (Ri fun r8_ s7_ => (K (some (.int r8_)) s7_))))) : C2 Γ l mX0_partOf [.int x0, .int x1] σ K := by
  refine c2_of (lv := [(0, .int x0), (1, .int x1)]) (by decide) (Nat.le_of_ble_eq_true rfl) rfl ?_
  refine r_iload_n (dcx dX0_partOf_c0 0 rfl) 1 rfl ?_
  by_cases q0_ : x1 = 0
  · have hyp := hyp.1 q0_
    refine r_tableIn (off := 27) (tgt := 28) (dcx dX0_partOf_c0 1 rfl) (by rw [q0_]; decide) (by rw [q0_]; decide) (by rw [q0_]; decide) (by decide) ?_
    refine r_iload_n (dcx dX0_partOf_c0 2 rfl) 0 rfl ?_
    refine s_callS (as := [.int x0]) (st := []) zX0_signOf kX0_partOf_81 (dcx dX0_partOf_c0 3 rfl) rfl rfl (Nat.le_of_ble_eq_true rfl) (C2.mono hyp ?_)
    rintro _ s1_ ⟨r2_, rfl, hyp⟩
    show G2 Γ l mX0_partOf 32 [(0, .int x0), (1, .int x1)] [.int r2_] s1_ K
    exact s_ret rfl rfl rfl hyp (dcx dX0_partOf_c0 4 rfl)
  have hyp := hyp.2
  by_cases q1_ : x1 = 1
  · have hyp := hyp.1 q1_
    refine r_tableIn (off := 32) (tgt := 33) (dcx dX0_partOf_c0 1 rfl) (by rw [q1_]; decide) (by rw [q1_]; decide) (by rw [q1_]; decide) (by decide) ?_
    refine r_iload_n (dcx dX0_partOf_c0 5 rfl) 0 rfl ?_
    refine s_callS (as := [.int x0]) (st := []) zX0_xOf kX0_partOf_84 (dcx dX0_partOf_c0 6 rfl) rfl rfl (Nat.le_of_ble_eq_true rfl) (C2.mono hyp ?_)
    rintro _ s3_ ⟨r4_, rfl, hyp⟩
    show G2 Γ l mX0_partOf 37 [(0, .int x0), (1, .int x1)] [.int r4_] s3_ K
    exact s_ret rfl rfl rfl hyp (dcx dX0_partOf_c0 7 rfl)
  have hyp := hyp.2
  by_cases q2_ : x1 = 2
  · have hyp := hyp.1 q2_
    refine r_tableIn (off := 37) (tgt := 38) (dcx dX0_partOf_c0 1 rfl) (by rw [q2_]; decide) (by rw [q2_]; decide) (by rw [q2_]; decide) (by decide) ?_
    refine r_iload_n (dcx dX0_partOf_c0 8 rfl) 0 rfl ?_
    refine s_callS (as := [.int x0]) (st := []) zX0_yOf kX0_partOf_87 (dcx dX0_partOf_c0 9 rfl) rfl rfl (Nat.le_of_ble_eq_true rfl) (C2.mono hyp ?_)
    rintro _ s5_ ⟨r6_, rfl, hyp⟩
    show G2 Γ l mX0_partOf 42 [(0, .int x0), (1, .int x1)] [.int r6_] s5_ K
    exact s_ret rfl rfl rfl hyp (dcx dX0_partOf_c0 10 rfl)
  have hyp := hyp.2
  have hyp := hyp q0_ q1_ q2_
  refine r_tableOut (tgt := 43) (dcx dX0_partOf_c0 1 rfl) (by have t0_ := lv_neT (a := 0) q0_ (by decide); have t1_ := lv_neT (a := 1) q1_ (by decide); have t2_ := lv_neT (a := 2) q2_ (by decide); omega) (by decide) ?_
  refine r_iload_n (dcx dX0_partOf_c0 11 rfl) 0 rfl ?_
  refine s_callS (as := [.int x0]) (st := []) zX0_ageOf kX0_partOf_71 (dcx dX0_partOf_c0 12 rfl) rfl rfl (Nat.le_of_ble_eq_true rfl) (C2.mono hyp ?_)
  rintro _ s7_ ⟨r8_, rfl, hyp⟩
  show G2 Γ l mX0_partOf 47 [(0, .int x0), (1, .int x1)] [.int r8_] s7_ K
  exact s_ret rfl rfl rfl hyp (dcx dX0_partOf_c0 13 rfl)
set_option maxHeartbeats 4000000 in
set_option maxRecDepth 20000 in
theorem tX1_rainIn {Γ : GE} {l : Launch} {x1 : Int32} {x2 : Int32} {σ : SS} {K : Option Value → SS → Prop}  (hyp : C2 Γ l mX1_lot [.int 100, .int x2, .int (4 * x1)] σ (Ri fun r2_ s1_ => (∃ b3_ : Nat, s1_.2.2 46 3 = b3_ ∧ isP b3_ ∧ (((s1_.1 b3_ 17) ≤ r2_ → (K (some (.int 0)) s1_)) ∧ (¬ ((s1_.1 b3_ 17) ≤ r2_) → (∃ b4_ : Nat, s1_.2.2 46 3 = b4_ ∧ isP b4_ ∧ (K (some (.int (s1_.1 b4_ 18))) s1_))))))) : C2 Γ l mX1_rainIn [.ref 46, .int x1, .int x2] σ K := by
  refine c2_of (lv := [(0, .ref 46), (1, .int x1), (2, .int x2)]) (by decide) (Nat.le_of_ble_eq_true rfl) rfl ?_
  refine r_bipush (v := 100) (dcx dX1_rainIn_c0 0 rfl) rfl ?_
  refine r_iload_n (dcx dX1_rainIn_c0 1 rfl) 2 rfl ?_
  refine r_iconst (v := 4) (dcx dX1_rainIn_c0 2 rfl) rfl ?_
  refine r_iload_n (dcx dX1_rainIn_c0 3 rfl) 1 rfl ?_
  refine r_imul (dcx dX1_rainIn_c0 4 rfl) ?_
  refine s_callS (as := [.int 100, .int x2, .int (4 * x1)]) (st := []) zX1_lot kX1_rainIn_25 (dcx dX1_rainIn_c0 5 rfl) rfl rfl (Nat.le_of_ble_eq_true rfl) (C2.mono hyp ?_)
  rintro _ s1_ ⟨r2_, rfl, hyp⟩
  show G2 Γ l mX1_rainIn 9 [(0, .ref 46), (1, .int x1), (2, .int x2)] [.int r2_] s1_ K
  refine r_aload_n (dcx dX1_rainIn_c0 6 rfl) 0 rfl ?_
  obtain ⟨b3_, eb3_, hb3_, hyp⟩ := hyp
  refine s_getmE fX1_21 (dcx dX1_rainIn_c0 7 rfl) F46_3 eb3_ (nzP hb3_) ?_
  refine s_geti fX1_29 (dcx dX1_rainIn_c0 8 rfl) (FP_17 hb3_) ?_
  refine r_icmp_ge (tgt := 29) (dcx dX1_rainIn_c0 9 rfl) (by decide) (fun q_ => ?_) (fun q_ => ?_)
  · have hyp := hyp.1 q_
    refine r_iconst (v := 0) (dcx dX1_rainIn_c0 14 rfl) rfl ?_
    exact s_ret rfl rfl rfl hyp (dcx dX1_rainIn_c0 15 rfl)
  · have hyp := hyp.2 q_
    refine r_aload_n (dcx dX1_rainIn_c0 10 rfl) 0 rfl ?_
    obtain ⟨b4_, eb4_, hb4_, hyp⟩ := hyp
    refine s_getmE fX1_21 (dcx dX1_rainIn_c0 11 rfl) F46_3 eb4_ (nzP hb4_) ?_
    refine s_geti fX1_35 (dcx dX1_rainIn_c0 12 rfl) (FP_18 hb4_) ?_
    refine r_goto (tgt := 30) (dcx dX1_rainIn_c0 13 rfl) (by decide) ?_
    exact s_ret rfl rfl rfl hyp (dcx dX1_rainIn_c0 15 rfl)
set_option maxHeartbeats 4000000 in
set_option maxRecDepth 20000 in
theorem tX1_lot {Γ : GE} {l : Launch} {x0 : Int32} {x1 : Int32} {x2 : Int32} {σ : SS} {K : Option Value → SS → Prop}  (hyp : C2 Γ l mX1_mixed [.int x1, .int 97] σ (Ri fun r2_ s1_ => (C2 Γ l mX1_mixed [.int r2_, .int x2] s1_ (Ri fun r4_ s3_ => ((x0 ≤ 0 → (K (some (.int 0)) s3_)) ∧ (¬ (x0 ≤ 0) → (¬ x0 = 0 ∧ (K (some (.int (((Int32.toUInt32 r4_ >>> (Int32.toUInt32 1 &&& Int32.toUInt32 31)).toInt32) - ((Int32.toUInt32 r4_ >>> (Int32.toUInt32 1 &&& Int32.toUInt32 31)).toInt32) / x0 * x0))) s3_)))))))) : C2 Γ l mX1_lot [.int x0, .int x1, .int x2] σ K := by
  refine c2_of (lv := [(0, .int x0), (1, .int x1), (2, .int x2)]) (by decide) (Nat.le_of_ble_eq_true rfl) rfl ?_
  refine r_iload_n (dcx dX1_lot_c0 0 rfl) 1 rfl ?_
  refine r_bipush (v := 97) (dcx dX1_lot_c0 1 rfl) rfl ?_
  refine s_callS (as := [.int x1, .int 97]) (st := []) zX1_mixed kX1_lot_38 (dcx dX1_lot_c0 2 rfl) rfl rfl (Nat.le_of_ble_eq_true rfl) (C2.mono hyp ?_)
  rintro _ s1_ ⟨r2_, rfl, hyp⟩
  show G2 Γ l mX1_lot 6 [(0, .int x0), (1, .int x1), (2, .int x2)] [.int r2_] s1_ K
  refine r_iload_n (dcx dX1_lot_c0 3 rfl) 2 rfl ?_
  refine s_callS (as := [.int r2_, .int x2]) (st := []) zX1_mixed kX1_lot_38 (dcx dX1_lot_c0 4 rfl) rfl rfl (Nat.le_of_ble_eq_true rfl) (C2.mono hyp ?_)
  rintro _ s3_ ⟨r4_, rfl, hyp⟩
  show G2 Γ l mX1_lot 10 [(0, .int x0), (1, .int x1), (2, .int x2)] [.int r4_] s3_ K
  refine r_istore_n (lv1 := [(3, .int r4_), (0, .int x0), (1, .int x1), (2, .int x2)]) (dcx dX1_lot_c0 5 rfl) (Nat.le_of_ble_eq_true rfl) rfl ?_
  refine r_iload_n (dcx dX1_lot_c0 6 rfl) 1 rfl ?_
  refine r_if_le (tgt := 23) (dcx dX1_lot_c0 7 rfl) (by decide) (fun q_ => ?_) (fun q_ => ?_)
  · have hyp := hyp.1 q_
    refine r_iconst (v := 0) (dcx dX1_lot_c0 14 rfl) rfl ?_
    exact s_ret rfl rfl rfl hyp (dcx dX1_lot_c0 15 rfl)
  · have hyp := hyp.2 q_
    refine r_iload_n (dcx dX1_lot_c0 8 rfl) 0 rfl ?_
    refine r_iconst (v := 1) (dcx dX1_lot_c0 9 rfl) rfl ?_
    refine r_iushr (dcx dX1_lot_c0 10 rfl) ?_
    refine r_iload_n (dcx dX1_lot_c0 11 rfl) 1 rfl ?_
    obtain ⟨hz_, hyp⟩ := hyp
    refine r_irem (dcx dX1_lot_c0 12 rfl) hz_ ?_
    refine r_goto (tgt := 24) (dcx dX1_lot_c0 13 rfl) (by decide) ?_
    exact s_ret rfl rfl rfl hyp (dcx dX1_lot_c0 15 rfl)
set_option maxHeartbeats 4000000 in
set_option maxRecDepth 20000 in
theorem tX1_mixed {Γ : GE} {l : Launch} {x0 : Int32} {x1 : Int32} {σ : SS} {K : Option Value → SS → Prop}  (hyp : K (some (.int ((((x0 ^^^ x1) * 1103515245) + 12345) ^^^ ((Int32.toUInt32 (((x0 ^^^ x1) * 1103515245) + 12345) >>> (Int32.toUInt32 15 &&& Int32.toUInt32 31)).toInt32)))) σ) : C2 Γ l mX1_mixed [.int x0, .int x1] σ K := by
  refine c2_of (lv := [(0, .int x0), (1, .int x1)]) (by decide) (Nat.le_of_ble_eq_true rfl) rfl ?_
  refine r_iload_n (dcx dX1_mixed_c0 0 rfl) 0 rfl ?_
  refine r_iload_n (dcx dX1_mixed_c0 1 rfl) 1 rfl ?_
  refine r_ixor (dcx dX1_mixed_c0 2 rfl) ?_
  refine r_ldc (own := "MownLawn$Gardener") (v := 1103515245) rfl q997 (dcx dX1_mixed_c0 3 rfl) ?_
  refine r_imul (dcx dX1_mixed_c0 4 rfl) ?_
  refine r_sipush (v := 12345) (dcx dX1_mixed_c0 5 rfl) rfl ?_
  refine r_iadd (dcx dX1_mixed_c0 6 rfl) ?_
  refine r_istore_n (lv1 := [(2, .int (((x0 ^^^ x1) * 1103515245) + 12345)), (0, .int x0), (1, .int x1)]) (dcx dX1_mixed_c0 7 rfl) (Nat.le_of_ble_eq_true rfl) rfl ?_
  refine r_iload_n (dcx dX1_mixed_c0 8 rfl) 0 rfl ?_
  refine r_iload_n (dcx dX1_mixed_c0 9 rfl) 0 rfl ?_
  refine r_bipush (v := 15) (dcx dX1_mixed_c0 10 rfl) rfl ?_
  refine r_iushr (dcx dX1_mixed_c0 11 rfl) ?_
  refine r_ixor (dcx dX1_mixed_c0 12 rfl) ?_
  exact s_ret rfl rfl rfl hyp (dcx dX1_mixed_c0 13 rfl)
set_option maxHeartbeats 4000000 in
set_option maxRecDepth 20000 in
theorem tX1_growth {Γ : GE} {l : Launch} {a1 : Nat} {x2 : Int32} {x3 : Int32} {x4 : Int32} {σ : SS} {K : Option Value → SS → Prop} (h1 : isL a1) (hyp : C2 Γ l mX9_indexOf [.int x2, .int x3] σ (Ri fun r2_ s1_ => (C2 Γ l mX1_setOwn [.ref 46, .ref a1, .int x2, .int x3] s1_ (Rv fun s3_ => (vp_in 3 9 ∧ (∀ s5_ : SS, s5_ = sI s3_ 47 (Int32.toNatClampNeg 3) x4 → (vp_in (r2_ - 1) 80 ∧ (vp_in (r2_ + 1) 80 ∧ (vp_in (r2_ - 10) 80 ∧ (vp_in (r2_ + 10) 80 ∧ (vp_in 7 9 ∧ (∀ s6_ : SS, s6_ = sI s5_ 47 (Int32.toNatClampNeg 7) (imx (imx (s5_.1 (a1 + 1) (Int32.toNatClampNeg (r2_ - 1))) (s5_.1 (a1 + 1) (Int32.toNatClampNeg (r2_ + 1)))) (imx (s5_.1 (a1 + 1) (Int32.toNatClampNeg (r2_ - 10))) (s5_.1 (a1 + 1) (Int32.toNatClampNeg (r2_ + 10))))) → (∃ b7_ : Nat, s6_.2.2 46 3 = b7_ ∧ isP b7_ ∧ (C2 Γ l mX2_worth [.ref (b7_ + 9), .ref 47] s6_ (Ri fun r9_ s8_ => (C2 Γ l mX9_held [.int r9_, .int ((-9)), .int 9] s8_ (Ri fun r11_ s10_ => (K (some (.int r11_)) s10_)))))))))))))))))) : C2 Γ l mX1_growth [.ref 46, .ref a1, .int x2, .int x3, .int x4] σ K := by
  refine c2_of (lv := [(0, .ref 46), (1, .ref a1), (2, .int x2), (3, .int x3), (4, .int x4)]) (by decide) (Nat.le_of_ble_eq_true rfl) rfl ?_
  refine r_iload_n (dcx dX1_growth_c0 0 rfl) 2 rfl ?_
  refine r_iload_n (dcx dX1_growth_c0 1 rfl) 3 rfl ?_
  refine s_callSN (as := [.int x2, .int x3]) (st := []) zX9_indexOf kX1_growth_43 (dcx dX1_growth_c0 2 rfl) rfl rfl (Nat.le_of_ble_eq_true rfl) (C2.mono hyp ?_)
  rintro _ s1_ ⟨r2_, rfl, hyp⟩
  show G2 Γ l mX1_growth 5 [(0, .ref 46), (1, .ref a1), (2, .int x2), (3, .int x3), (4, .int x4)] [.int r2_] s1_ K
  refine r_istore (lv1 := [(5, .int r2_), (0, .ref 46), (1, .ref a1), (2, .int x2), (3, .int x3), (4, .int x4)]) (dcx dX1_growth_c0 3 rfl) (Nat.le_of_ble_eq_true rfl) rfl ?_
  refine r_aload_n (dcx dX1_growth_c0 4 rfl) 2 rfl ?_
  refine s_getr (b := a1 + 1) fX1_46 (dcx dX1_growth_c0 5 rfl) (FL_0 h1) ?_
  refine r_astore (lv1 := [(6, .ref (a1 + 1)), (5, .int r2_), (0, .ref 46), (1, .ref a1), (2, .int x2), (3, .int x3), (4, .int x4)]) (dcx dX1_growth_c0 6 rfl) (Nat.le_of_ble_eq_true rfl) rfl ?_
  refine r_aload_n (dcx dX1_growth_c0 7 rfl) 2 rfl ?_
  refine r_aload_n (dcx dX1_growth_c0 8 rfl) 3 rfl ?_
  refine r_iload_n (dcx dX1_growth_c0 9 rfl) 4 rfl ?_
  refine r_iload_n (dcx dX1_growth_c0 10 rfl) 5 rfl ?_
  refine s_callV (as := [.ref a1, .int x2, .int x3]) (st := []) zX1_setOwn kX1_growth_51 (dcx dX1_growth_c0 11 rfl) rfl rfl (Nat.le_of_ble_eq_true rfl) O46 rfl rfl (C2.mono hyp ?_)
  rintro _ s3_ ⟨rfl, hyp⟩
  show G2 Γ l mX1_growth 20 [(6, .ref (a1 + 1)), (5, .int r2_), (0, .ref 46), (1, .ref a1), (2, .int x2), (3, .int x3), (4, .int x4)] [] s3_ K
  refine r_aload_n (dcx dX1_growth_c0 12 rfl) 2 rfl ?_
  refine s_getr (b := 47) fX1_9 (dcx dX1_growth_c0 13 rfl) F46_0 ?_
  refine r_iconst (v := 3) (dcx dX1_growth_c0 14 rfl) rfl ?_
  refine r_iload (dcx dX1_growth_c0 15 rfl) 6 rfl ?_
  obtain ⟨hb_, hyp⟩ := hyp
  refine s_iast (dcx dX1_growth_c0 16 rfl) A47 hb_ ?_
  obtain ⟨s5_, es5_⟩ : ∃ z : SS, z = sI s3_ 47 (Int32.toNatClampNeg 3) x4 := ⟨_, rfl⟩
  rw [← es5_]
  have hyp := hyp s5_ es5_
  refine r_aload_n (dcx dX1_growth_c0 17 rfl) 2 rfl ?_
  refine s_getr (b := 47) fX1_9 (dcx dX1_growth_c0 18 rfl) F46_0 ?_
  refine r_bipush (v := 7) (dcx dX1_growth_c0 19 rfl) rfl ?_
  refine r_aload (dcx dX1_growth_c0 20 rfl) 0 rfl ?_
  refine r_iload (dcx dX1_growth_c0 21 rfl) 1 rfl ?_
  refine r_iconst (v := 1) (dcx dX1_growth_c0 22 rfl) rfl ?_
  refine r_isub (dcx dX1_growth_c0 23 rfl) ?_
  obtain ⟨hb_, hyp⟩ := hyp
  refine s_iald (dcx dX1_growth_c0 24 rfl) (AL_0 h1) hb_ ?_
  refine r_aload (dcx dX1_growth_c0 25 rfl) 0 rfl ?_
  refine r_iload (dcx dX1_growth_c0 26 rfl) 1 rfl ?_
  refine r_iconst (v := 1) (dcx dX1_growth_c0 27 rfl) rfl ?_
  refine r_iadd (dcx dX1_growth_c0 28 rfl) ?_
  obtain ⟨hb_, hyp⟩ := hyp
  refine s_iald (dcx dX1_growth_c0 29 rfl) (AL_0 h1) hb_ ?_
  refine r_max q852 q608 q16 q609 (by decide) (Nat.le_of_ble_eq_true rfl) (Nat.zero_le _) (Nat.zero_le _) (dcx dX1_growth_c0 30 rfl) ?_
  refine r_aload (dcx dX1_growth_c0 31 rfl) 0 rfl ?_
  refine r_iload (dcx dX1_growth_c0 32 rfl) 1 rfl ?_
  refine r_bipush (v := 10) (dcx dX1_growth_c0 33 rfl) rfl ?_
  refine r_isub (dcx dX1_growth_c0 34 rfl) ?_
  obtain ⟨hb_, hyp⟩ := hyp
  refine s_iald (dcx dX1_growth_c0 35 rfl) (AL_0 h1) hb_ ?_
  refine r_aload (dcx dX1_growth_c0 36 rfl) 0 rfl ?_
  refine r_iload (dcx dX1_growth_c0 37 rfl) 1 rfl ?_
  refine r_bipush (v := 10) (dcx dX1_growth_c0 38 rfl) rfl ?_
  refine r_iadd (dcx dX1_growth_c0 39 rfl) ?_
  obtain ⟨hb_, hyp⟩ := hyp
  refine s_iald (dcx dX1_growth_c1 0 rfl) (AL_0 h1) hb_ ?_
  refine r_max q852 q608 q16 q609 (by decide) (Nat.le_of_ble_eq_true rfl) (Nat.zero_le _) (Nat.zero_le _) (dcx dX1_growth_c1 1 rfl) ?_
  refine r_max q852 q608 q16 q609 (by decide) (Nat.le_of_ble_eq_true rfl) (Nat.zero_le _) (Nat.zero_le _) (dcx dX1_growth_c1 2 rfl) ?_
  obtain ⟨hb_, hyp⟩ := hyp
  refine s_iast (dcx dX1_growth_c1 3 rfl) A47 hb_ ?_
  obtain ⟨s6_, es6_⟩ : ∃ z : SS, z = sI s5_ 47 (Int32.toNatClampNeg 7) (imx (imx (s5_.1 (a1 + 1) (Int32.toNatClampNeg (r2_ - 1))) (s5_.1 (a1 + 1) (Int32.toNatClampNeg (r2_ + 1)))) (imx (s5_.1 (a1 + 1) (Int32.toNatClampNeg (r2_ - 10))) (s5_.1 (a1 + 1) (Int32.toNatClampNeg (r2_ + 10))))) := ⟨_, rfl⟩
  rw [← es6_]
  have hyp := hyp s6_ es6_
  refine r_aload_n (dcx dX1_growth_c1 4 rfl) 2 rfl ?_
  obtain ⟨b7_, eb7_, hb7_, hyp⟩ := hyp
  refine s_getmE fX1_21 (dcx dX1_growth_c1 5 rfl) F46_3 eb7_ (nzP hb7_) ?_
  refine s_getr (b := b7_ + 9) fX1_60 (dcx dX1_growth_c1 6 rfl) (FP_8 hb7_) ?_
  refine r_aload_n (dcx dX1_growth_c1 7 rfl) 2 rfl ?_
  refine s_getr (b := 47) fX1_9 (dcx dX1_growth_c1 8 rfl) F46_0 ?_
  refine s_callV (as := [.ref 47]) (st := []) zX2_worth kX1_growth_64 (dcx dX1_growth_c1 9 rfl) rfl rfl (Nat.le_of_ble_eq_true rfl) (OW (IP_8 hb7_)) rfl rfl (C2.mono hyp ?_)
  rintro _ s8_ ⟨r9_, rfl, hyp⟩
  show G2 Γ l mX1_growth 88 [(6, .ref (a1 + 1)), (5, .int r2_), (0, .ref 46), (1, .ref a1), (2, .int x2), (3, .int x3), (4, .int x4)] [.int r9_] s8_ K
  refine r_bipush (v := (-9)) (dcx dX1_growth_c1 10 rfl) rfl ?_
  refine r_bipush (v := 9) (dcx dX1_growth_c1 11 rfl) rfl ?_
  refine s_callSN (as := [.int r9_, .int ((-9)), .int 9]) (st := []) zX9_held kX1_growth_70 (dcx dX1_growth_c1 12 rfl) rfl rfl (Nat.le_of_ble_eq_true rfl) (C2.mono hyp ?_)
  rintro _ s10_ ⟨r11_, rfl, hyp⟩
  show G2 Γ l mX1_growth 95 [(6, .ref (a1 + 1)), (5, .int r2_), (0, .ref 46), (1, .ref a1), (2, .int x2), (3, .int x3), (4, .int x4)] [.int r11_] s10_ K
  exact s_ret rfl rfl rfl hyp (dcx dX1_growth_c1 13 rfl)
