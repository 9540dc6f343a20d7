def wX7_takeWindow_45 (Γ : GE) (l : Launch) (x1 : Int32) (σ : SS) (K : Option Value → SS → Prop) : Prop := G2 Γ l mX7_takeWindow 45 [(0, .ref 7), (1, .int x1)] [] σ K
set_option maxHeartbeats 4000000 in
set_option maxRecDepth 20000 in
theorem tX7_takeWindow {Γ : GE} {l : Launch}  {σ : SS} {K : Option Value → SS → Prop}  (hyp : ∃ b1_ : Nat, σ.2.2 7 2 = b1_ ∧ isP b1_ ∧ (C2 Γ l mX7_open [.ref 7, .int (σ.1 b1_ 14), .int 4] σ (Ri fun r3_ s2_ => ((r3_ = 0 → (K none s2_)) ∧ (¬ (r3_ = 0) → (C2 Γ l mX7_take [.ref 7, .int 2] s2_ (Ri fun r5_ s4_ => ((¬ r5_ = 0 → (∃ b6_ : Nat, s4_.2.2 7 2 = b6_ ∧ isP b6_ ∧ (C2 Γ l mX6_isNamed [.ref b6_, .long (s4_.2.1 7 10)] s4_ (Ri fun r8_ s7_ => ((r8_ = 0 → (wX7_takeWindow_45 Γ l (σ.1 b1_ 14) s7_ K)) ∧ (¬ (r8_ = 0) → (C2 Γ l mX7_blame [.ref 7, .int 3] s7_ (Rv fun s9_ => (wX7_takeWindow_45 Γ l (σ.1 b1_ 14) s9_ K))))))))) ∧ (r5_ = 0 → (K none s4_)))))))))) : C2 Γ l mX7_takeWindow [.ref 7] σ K := by
  refine c2_of (lv := [(0, .ref 7)]) (by decide) (Nat.le_of_ble_eq_true rfl) rfl ?_
  refine r_aload_n (dcx dX7_takeWindow_c0 0 rfl) 0 rfl ?_
  obtain ⟨b1_, eb1_, hb1_, hyp⟩ := hyp
  refine s_getmE fX7_22 (dcx dX7_takeWindow_c0 1 rfl) F7_2 eb1_ (nzP hb1_) ?_
  refine s_geti fX7_165 (dcx dX7_takeWindow_c0 2 rfl) (FP_14 hb1_) ?_
  refine r_istore_n (lv1 := [(1, .int (σ.1 b1_ 14)), (0, .ref 7)]) (dcx dX7_takeWindow_c0 3 rfl) (Nat.le_of_ble_eq_true rfl) rfl ?_
  refine r_aload_n (dcx dX7_takeWindow_c0 4 rfl) 1 rfl ?_
  refine r_iload_n (dcx dX7_takeWindow_c0 5 rfl) 0 rfl ?_
  refine r_iconst (v := 4) (dcx dX7_takeWindow_c0 6 rfl) rfl ?_
  refine s_callV (as := [.int (σ.1 b1_ 14), .int 4]) (st := []) zX7_open kX7_takeWindow_126 (dcx dX7_takeWindow_c0 7 rfl) rfl rfl (Nat.le_of_ble_eq_true rfl) O7 rfl rfl (C2.mono hyp ?_)
  rintro _ s2_ ⟨r3_, rfl, hyp⟩
  show G2 Γ l mX7_takeWindow 14 [(1, .int (σ.1 b1_ 14)), (0, .ref 7)] [.int r3_] s2_ K
  refine r_if_eq (tgt := 25) (dcx dX7_takeWindow_c0 8 rfl) (by decide) (fun q_ => ?_) (fun q_ => ?_)
  · have hyp := hyp.1 q_
    exact s_vret rfl hyp (dcx dX7_takeWindow_c0 13 rfl)
  · have hyp := hyp.2 q_
    refine r_aload_n (dcx dX7_takeWindow_c0 9 rfl) 1 rfl ?_
    refine r_iconst (v := 2) (dcx dX7_takeWindow_c0 10 rfl) rfl ?_
    refine s_callV (as := [.int 2]) (st := []) zX7_take kX7_takeWindow_116 (dcx dX7_takeWindow_c0 11 rfl) rfl rfl (Nat.le_of_ble_eq_true rfl) O7 rfl rfl (C2.mono hyp ?_)
    rintro _ s4_ ⟨r5_, rfl, hyp⟩
    show G2 Γ l mX7_takeWindow 22 [(1, .int (σ.1 b1_ 14)), (0, .ref 7)] [.int r5_] s4_ K
    refine r_if_ne (tgt := 26) (dcx dX7_takeWindow_c0 12 rfl) (by decide) (fun q_ => ?_) (fun q_ => ?_)
    · have hyp := hyp.1 q_
      refine r_aload_n (dcx dX7_takeWindow_c0 14 rfl) 1 rfl ?_
      obtain ⟨b6_, eb6_, hb6_, hyp⟩ := hyp
      refine s_getmE fX7_22 (dcx dX7_takeWindow_c0 15 rfl) F7_2 eb6_ (nzP hb6_) ?_
      refine r_aload_n (dcx dX7_takeWindow_c0 16 rfl) 1 rfl ?_
      refine s_getj fX7_112 (dcx dX7_takeWindow_c0 17 rfl) F7_10 ?_
      refine s_callV (as := [.long (s4_.2.1 7 10)]) (st := []) zX6_isNamed kX7_takeWindow_151 (dcx dX7_takeWindow_c0 18 rfl) rfl rfl (Nat.le_of_ble_eq_true rfl) (OP hb6_) rfl rfl (C2.mono hyp ?_)
      rintro _ s7_ ⟨r8_, rfl, hyp⟩
      show G2 Γ l mX7_takeWindow 37 [(1, .int (σ.1 b1_ 14)), (0, .ref 7)] [.int r8_] s7_ K
      refine r_if_eq (tgt := 45) (dcx dX7_takeWindow_c0 19 rfl) (by decide) (fun q_ => ?_) (fun q_ => ?_)
      · have hyp := hyp.1 q_
        refine r_loc (lv1 := [(0, .ref 7), (1, .int (σ.1 b1_ 14))]) [1, 0] rfl ?_
        exact hyp
      · have hyp := hyp.2 q_
        refine r_aload_n (dcx dX7_takeWindow_c0 20 rfl) 1 rfl ?_
        refine r_iconst (v := 3) (dcx dX7_takeWindow_c0 21 rfl) rfl ?_
        refine s_callV (as := [.int 3]) (st := []) zX7_blame kX7_takeWindow_120 (dcx dX7_takeWindow_c0 22 rfl) rfl rfl (Nat.le_of_ble_eq_true rfl) O7 rfl rfl (C2.mono hyp ?_)
        rintro _ s9_ ⟨rfl, hyp⟩
        show G2 Γ l mX7_takeWindow 45 [(1, .int (σ.1 b1_ 14)), (0, .ref 7)] [] s9_ K
        refine r_loc (lv1 := [(0, .ref 7), (1, .int (σ.1 b1_ 14))]) [1, 0] rfl ?_
        exact hyp
    · have hyp := hyp.2 q_
      exact s_vret rfl hyp (dcx dX7_takeWindow_c0 13 rfl)
set_option maxHeartbeats 4000000 in
set_option maxRecDepth 20000 in
theorem tX7_takeWindow_45 {Γ : GE} {l : Launch} {x1 : Int32} {σ : SS} {K : Option Value → SS → Prop}  (hyp : ∃ b1_ : Nat, σ.2.2 7 2 = b1_ ∧ isP b1_ ∧ (vp_in x1 4 ∧ (∀ s2_ : SS, s2_ = sJ σ (b1_ + 4) (Int32.toNatClampNeg x1) (σ.2.1 7 10) → (∃ b3_ : Nat, s2_.2.2 7 2 = b3_ ∧ isP b3_ ∧ (∀ s4_ : SS, s4_ = sI s2_ b3_ 14 ((s2_.1 b3_ 14) + 1) → (C2 Γ l mX7_takeInt [.ref 7, .int 0, .int 7] s4_ (Ri fun r6_ s5_ => ((¬ r6_ = 0 → (∃ b7_ : Nat, s5_.2.2 7 2 = b7_ ∧ isP b7_ ∧ (vp_in x1 4 ∧ (∀ s8_ : SS, s8_ = sI s5_ (b7_ + 5) (Int32.toNatClampNeg x1) (s5_.1 7 9) → (∃ b9_ : Nat, s8_.2.2 7 2 = b9_ ∧ isP b9_ ∧ (vp_in x1 4 ∧ (C2 Γ l mX7_takeInt [.ref 7, .int (s8_.1 (b9_ + 5) (Int32.toNatClampNeg x1)), .int 7] s8_ (Ri fun r11_ s10_ => ((¬ r11_ = 0 → (∃ b12_ : Nat, s10_.2.2 7 2 = b12_ ∧ isP b12_ ∧ (vp_in x1 4 ∧ (∀ s13_ : SS, s13_ = sI s10_ (b12_ + 6) (Int32.toNatClampNeg x1) (s10_.1 7 9) → (C2 Γ l mX7_takeInt [.ref 7, .int 0, .int 99] s13_ (Ri fun r15_ s14_ => ((r15_ = 0 → (K none s14_)) ∧ (¬ (r15_ = 0) → (∃ b16_ : Nat, s14_.2.2 7 2 = b16_ ∧ isP b16_ ∧ (vp_in x1 4 ∧ (∀ s17_ : SS, s17_ = sI s14_ (b16_ + 7) (Int32.toNatClampNeg x1) (s14_.1 7 9) → (C2 Γ l mX7_take [.ref 7, .int 59] s17_ (Ri fun r19_ s18_ => (K none s18_)))))))))))))) ∧ (r11_ = 0 → (K none s10_))))))))))) ∧ (r6_ = 0 → (K none s5_)))))))))) : wX7_takeWindow_45 Γ l x1 σ K := by
  show G2 Γ l mX7_takeWindow 45 [(0, .ref 7), (1, .int x1)] [] σ K
  refine r_aload_n (dcx dX7_takeWindow_c0 23 rfl) 0 rfl ?_
  obtain ⟨b1_, eb1_, hb1_, hyp⟩ := hyp
  refine s_getmE fX7_22 (dcx dX7_takeWindow_c0 24 rfl) F7_2 eb1_ (nzP hb1_) ?_
  refine s_getr (b := b1_ + 4) fX7_168 (dcx dX7_takeWindow_c0 25 rfl) (FP_3 hb1_) ?_
  refine r_iload_n (dcx dX7_takeWindow_c0 26 rfl) 1 rfl ?_
  refine r_aload_n (dcx dX7_takeWindow_c0 27 rfl) 0 rfl ?_
  refine s_getj fX7_112 (dcx dX7_takeWindow_c0 28 rfl) F7_10 ?_
  obtain ⟨hb_, hyp⟩ := hyp
  refine s_last (dcx dX7_takeWindow_c0 29 rfl) (AP_3 hb1_) hb_ ?_
  obtain ⟨s2_, es2_⟩ : ∃ z : SS, z = sJ σ (b1_ + 4) (Int32.toNatClampNeg x1) (σ.2.1 7 10) := ⟨_, rfl⟩
  rw [← es2_]
  have hyp := hyp s2_ es2_
  refine r_aload_n (dcx dX7_takeWindow_c0 30 rfl) 0 rfl ?_
  obtain ⟨b3_, eb3_, hb3_, hyp⟩ := hyp
  refine s_getmE fX7_22 (dcx dX7_takeWindow_c0 31 rfl) F7_2 eb3_ (nzP hb3_) ?_
  refine r_dup (dcx dX7_takeWindow_c0 32 rfl) rfl ?_
  refine s_geti fX7_165 (dcx dX7_takeWindow_c0 33 rfl) (FP_14 hb3_) ?_
  refine r_iconst (v := 1) (dcx dX7_takeWindow_c0 34 rfl) rfl ?_
  refine r_iadd (dcx dX7_takeWindow_c0 35 rfl) ?_
  refine s_puti gX7_165 (dcx dX7_takeWindow_c0 36 rfl) (FP_14 hb3_) ?_
  obtain ⟨s4_, es4_⟩ : ∃ z : SS, z = sI s2_ b3_ 14 ((s2_.1 b3_ 14) + 1) := ⟨_, rfl⟩
  rw [← es4_]
  have hyp := hyp s4_ es4_
  refine r_aload_n (dcx dX7_takeWindow_c0 37 rfl) 0 rfl ?_
  refine r_iconst (v := 0) (dcx dX7_takeWindow_c0 38 rfl) rfl ?_
  refine r_bipush (v := 7) (dcx dX7_takeWindow_c0 39 rfl) rfl ?_
  refine s_callV (as := [.int 0, .int 7]) (st := []) zX7_takeInt kX7_takeWindow_171 (dcx dX7_takeWindow_c1 0 rfl) rfl rfl (Nat.le_of_ble_eq_true rfl) O7 rfl rfl (C2.mono hyp ?_)
  rintro _ s5_ ⟨r6_, rfl, hyp⟩
  show G2 Γ l mX7_takeWindow 78 [(0, .ref 7), (1, .int x1)] [.int r6_] s5_ K
  refine r_if_ne (tgt := 82) (dcx dX7_takeWindow_c1 1 rfl) (by decide) (fun q_ => ?_) (fun q_ => ?_)
  · have hyp := hyp.1 q_
    refine r_aload_n (dcx dX7_takeWindow_c1 3 rfl) 0 rfl ?_
    obtain ⟨b7_, eb7_, hb7_, hyp⟩ := hyp
    refine s_getmE fX7_22 (dcx dX7_takeWindow_c1 4 rfl) F7_2 eb7_ (nzP hb7_) ?_
    refine s_getr (b := b7_ + 5) fX7_174 (dcx dX7_takeWindow_c1 5 rfl) (FP_4 hb7_) ?_
    refine r_iload_n (dcx dX7_takeWindow_c1 6 rfl) 1 rfl ?_
    refine r_aload_n (dcx dX7_takeWindow_c1 7 rfl) 0 rfl ?_
    refine s_geti fX7_105 (dcx dX7_takeWindow_c1 8 rfl) F7_9 ?_
    obtain ⟨hb_, hyp⟩ := hyp
    refine s_iast (dcx dX7_takeWindow_c1 9 rfl) (AP_4 hb7_) hb_ ?_
    obtain ⟨s8_, es8_⟩ : ∃ z : SS, z = sI s5_ (b7_ + 5) (Int32.toNatClampNeg x1) (s5_.1 7 9) := ⟨_, rfl⟩
    rw [← es8_]
    have hyp := hyp s8_ es8_
    refine r_aload_n (dcx dX7_takeWindow_c1 10 rfl) 0 rfl ?_
    refine r_aload_n (dcx dX7_takeWindow_c1 11 rfl) 0 rfl ?_
    obtain ⟨b9_, eb9_, hb9_, hyp⟩ := hyp
    refine s_getmE fX7_22 (dcx dX7_takeWindow_c1 12 rfl) F7_2 eb9_ (nzP hb9_) ?_
    refine s_getr (b := b9_ + 5) fX7_174 (dcx dX7_takeWindow_c1 13 rfl) (FP_4 hb9_) ?_
    refine r_iload_n (dcx dX7_takeWindow_c1 14 rfl) 1 rfl ?_
    obtain ⟨hb_, hyp⟩ := hyp
    refine s_iald (dcx dX7_takeWindow_c1 15 rfl) (AP_4 hb9_) hb_ ?_
    refine r_bipush (v := 7) (dcx dX7_takeWindow_c1 16 rfl) rfl ?_
    refine s_callV (as := [.int (s8_.1 (b9_ + 5) (Int32.toNatClampNeg x1)), .int 7]) (st := []) zX7_takeInt kX7_takeWindow_171 (dcx dX7_takeWindow_c1 17 rfl) rfl rfl (Nat.le_of_ble_eq_true rfl) O7 rfl rfl (C2.mono hyp ?_)
    rintro _ s10_ ⟨r11_, rfl, hyp⟩
    show G2 Γ l mX7_takeWindow 110 [(0, .ref 7), (1, .int x1)] [.int r11_] s10_ K
    refine r_if_ne (tgt := 114) (dcx dX7_takeWindow_c1 18 rfl) (by decide) (fun q_ => ?_) (fun q_ => ?_)
    · have hyp := hyp.1 q_
      refine r_aload_n (dcx dX7_takeWindow_c1 20 rfl) 0 rfl ?_
      obtain ⟨b12_, eb12_, hb12_, hyp⟩ := hyp
      refine s_getmE fX7_22 (dcx dX7_takeWindow_c1 21 rfl) F7_2 eb12_ (nzP hb12_) ?_
      refine s_getr (b := b12_ + 6) fX7_177 (dcx dX7_takeWindow_c1 22 rfl) (FP_5 hb12_) ?_
      refine r_iload_n (dcx dX7_takeWindow_c1 23 rfl) 1 rfl ?_
      refine r_aload_n (dcx dX7_takeWindow_c1 24 rfl) 0 rfl ?_
      refine s_geti fX7_105 (dcx dX7_takeWindow_c1 25 rfl) F7_9 ?_
      obtain ⟨hb_, hyp⟩ := hyp
      refine s_iast (dcx dX7_takeWindow_c1 26 rfl) (AP_5 hb12_) hb_ ?_
      obtain ⟨s13_, es13_⟩ : ∃ z : SS, z = sI s10_ (b12_ + 6) (Int32.toNatClampNeg x1) (s10_.1 7 9) := ⟨_, rfl⟩
      rw [← es13_]
      have hyp := hyp s13_ es13_
      refine r_aload_n (dcx dX7_takeWindow_c1 27 rfl) 0 rfl ?_
      refine r_iconst (v := 0) (dcx dX7_takeWindow_c1 28 rfl) rfl ?_
      refine r_bipush (v := 99) (dcx dX7_takeWindow_c1 29 rfl) rfl ?_
      refine s_callV (as := [.int 0, .int 99]) (st := []) zX7_takeInt kX7_takeWindow_171 (dcx dX7_takeWindow_c1 30 rfl) rfl rfl (Nat.le_of_ble_eq_true rfl) O7 rfl rfl (C2.mono hyp ?_)
      rintro _ s14_ ⟨r15_, rfl, hyp⟩
      show G2 Γ l mX7_takeWindow 134 [(0, .ref 7), (1, .int x1)] [.int r15_] s14_ K
      refine r_if_eq (tgt := 157) (dcx dX7_takeWindow_c1 31 rfl) (by decide) (fun q_ => ?_) (fun q_ => ?_)
      · have hyp := hyp.1 q_
        exact s_vret rfl hyp (dcx dX7_takeWindow_c2 3 rfl)
      · have hyp := hyp.2 q_
        refine r_aload_n (dcx dX7_takeWindow_c1 32 rfl) 0 rfl ?_
        obtain ⟨b16_, eb16_, hb16_, hyp⟩ := hyp
        refine s_getmE fX7_22 (dcx dX7_takeWindow_c1 33 rfl) F7_2 eb16_ (nzP hb16_) ?_
        refine s_getr (b := b16_ + 7) fX7_180 (dcx dX7_takeWindow_c1 34 rfl) (FP_6 hb16_) ?_
        refine r_iload_n (dcx dX7_takeWindow_c1 35 rfl) 1 rfl ?_
        refine r_aload_n (dcx dX7_takeWindow_c1 36 rfl) 0 rfl ?_
        refine s_geti fX7_105 (dcx dX7_takeWindow_c1 37 rfl) F7_9 ?_
        obtain ⟨hb_, hyp⟩ := hyp
        refine s_iast (dcx dX7_takeWindow_c1 38 rfl) (AP_6 hb16_) hb_ ?_
        obtain ⟨s17_, es17_⟩ : ∃ z : SS, z = sI s14_ (b16_ + 7) (Int32.toNatClampNeg x1) (s14_.1 7 9) := ⟨_, rfl⟩
        rw [← es17_]
        have hyp := hyp s17_ es17_
        refine r_aload_n (dcx dX7_takeWindow_c1 39 rfl) 0 rfl ?_
        refine r_bipush (v := 59) (dcx dX7_takeWindow_c2 0 rfl) rfl ?_
        refine s_callV (as := [.int 59]) (st := []) zX7_take kX7_takeWindow_116 (dcx dX7_takeWindow_c2 1 rfl) rfl rfl (Nat.le_of_ble_eq_true rfl) O7 rfl rfl (C2.mono hyp ?_)
        rintro _ s18_ ⟨r19_, rfl, hyp⟩
        show G2 Γ l mX7_takeWindow 156 [(0, .ref 7), (1, .int x1)] [.int r19_] s18_ K
        refine r_pop (dcx dX7_takeWindow_c2 2 rfl) rfl ?_
        exact s_vret rfl hyp (dcx dX7_takeWindow_c2 3 rfl)
    · have hyp := hyp.2 q_
      exact s_vret rfl hyp (dcx dX7_takeWindow_c1 19 rfl)
  · have hyp := hyp.2 q_
    exact s_vret rfl hyp (dcx dX7_takeWindow_c1 2 rfl)
def wX7_takeTalk_47 (Γ : GE) (l : Launch) (x1 : Int32) (σ : SS) (K : Option Value → SS → Prop) : Prop := G2 Γ l mX7_takeTalk 47 [(0, .ref 7), (1, .int x1)] [] σ K
def wX7_takeTalk_117 (Γ : GE) (l : Launch)  (σ : SS) (K : Option Value → SS → Prop) : Prop := G2 Γ l mX7_takeTalk 117 [(0, .ref 7)] [] σ K
def wX7_takeTalk_103 (Γ : GE) (l : Launch) (x1 : Int32) (x2 : Int32) (σ : SS) (K : Option Value → SS → Prop) : Prop := G2 Γ l mX7_takeTalk 103 [(0, .ref 7), (1, .int x1), (2, .int x2)] [] σ K
def wX7_takeTalk_108 (Γ : GE) (l : Launch) (x1 : Int32) (x2 : Int32) (σ : SS) (K : Option Value → SS → Prop) : Prop := G2 Γ l mX7_takeTalk 108 [(0, .ref 7), (1, .int x1), (2, .int x2)] [] σ K
set_option maxHeartbeats 4000000 in
set_option maxRecDepth 20000 in
theorem tX7_takeTalk {Γ : GE} {l : Launch}  {σ : SS} {K : Option Value → SS → Prop}  (hyp : ∃ b1_ : Nat, σ.2.2 7 2 = b1_ ∧ isP b1_ ∧ (C2 Γ l mX7_open [.ref 7, .int (σ.1 b1_ 15), .int 6] σ (Ri fun r3_ s2_ => ((r3_ = 0 → (K none s2_)) ∧ (¬ (r3_ = 0) → (C2 Γ l mX7_take [.ref 7, .int 2] s2_ (Ri fun r5_ s4_ => ((¬ r5_ = 0 → (∃ b6_ : Nat, s4_.2.2 7 2 = b6_ ∧ isP b6_ ∧ (C2 Γ l mX6_windowNamed [.ref b6_, .long (s4_.2.1 7 10)] s4_ (Ri fun r8_ s7_ => ((¬ r8_ = ((-1)) → (wX7_takeTalk_47 Γ l r8_ s7_ K)) ∧ (r8_ = ((-1)) → (C2 Γ l mX7_blame [.ref 7, .int 4] s7_ (Rv fun s9_ => (wX7_takeTalk_47 Γ l r8_ s9_ K))))))))) ∧ (r5_ = 0 → (K none s4_)))))))))) : C2 Γ l mX7_takeTalk [.ref 7] σ K := by
  refine c2_of (lv := [(0, .ref 7)]) (by decide) (Nat.le_of_ble_eq_true rfl) rfl ?_
  refine r_aload_n (dcx dX7_takeTalk_c0 0 rfl) 0 rfl ?_
  refine r_aload_n (dcx dX7_takeTalk_c0 1 rfl) 0 rfl ?_
  obtain ⟨b1_, eb1_, hb1_, hyp⟩ := hyp
  refine s_getmE fX7_22 (dcx dX7_takeTalk_c0 2 rfl) F7_2 eb1_ (nzP hb1_) ?_
  refine s_geti fX7_183 (dcx dX7_takeTalk_c0 3 rfl) (FP_15 hb1_) ?_
  refine r_bipush (v := 6) (dcx dX7_takeTalk_c0 4 rfl) rfl ?_
  refine s_callV (as := [.int (σ.1 b1_ 15), .int 6]) (st := []) zX7_open kX7_takeTalk_126 (dcx dX7_takeTalk_c0 5 rfl) rfl rfl (Nat.le_of_ble_eq_true rfl) O7 rfl rfl (C2.mono hyp ?_)
  rintro _ s2_ ⟨r3_, rfl, hyp⟩
  show G2 Γ l mX7_takeTalk 13 [(0, .ref 7)] [.int r3_] s2_ K
  refine r_if_eq (tgt := 24) (dcx dX7_takeTalk_c0 6 rfl) (by decide) (fun q_ => ?_) (fun q_ => ?_)
  · have hyp := hyp.1 q_
    exact s_vret rfl hyp (dcx dX7_takeTalk_c0 11 rfl)
  · have hyp := hyp.2 q_
    refine r_aload_n (dcx dX7_takeTalk_c0 7 rfl) 0 rfl ?_
    refine r_iconst (v := 2) (dcx dX7_takeTalk_c0 8 rfl) rfl ?_
    refine s_callV (as := [.int 2]) (st := []) zX7_take kX7_takeTalk_116 (dcx dX7_takeTalk_c0 9 rfl) rfl rfl (Nat.le_of_ble_eq_true rfl) O7 rfl rfl (C2.mono hyp ?_)
    rintro _ s4_ ⟨r5_, rfl, hyp⟩
    show G2 Γ l mX7_takeTalk 21 [(0, .ref 7)] [.int r5_] s4_ K
    refine r_if_ne (tgt := 25) (dcx dX7_takeTalk_c0 10 rfl) (by decide) (fun q_ => ?_) (fun q_ => ?_)
    · have hyp := hyp.1 q_
      refine r_aload_n (dcx dX7_takeTalk_c0 12 rfl) 0 rfl ?_
      obtain ⟨b6_, eb6_, hb6_, hyp⟩ := hyp
      refine s_getmE fX7_22 (dcx dX7_takeTalk_c0 13 rfl) F7_2 eb6_ (nzP hb6_) ?_
      refine r_aload_n (dcx dX7_takeTalk_c0 14 rfl) 0 rfl ?_
      refine s_getj fX7_112 (dcx dX7_takeTalk_c0 15 rfl) F7_10 ?_
      refine s_callV (as := [.long (s4_.2.1 7 10)]) (st := []) zX6_windowNamed kX7_takeTalk_186 (dcx dX7_takeTalk_c0 16 rfl) rfl rfl (Nat.le_of_ble_eq_true rfl) (OP hb6_) rfl rfl (C2.mono hyp ?_)
      rintro _ s7_ ⟨r8_, rfl, hyp⟩
      show G2 Γ l mX7_takeTalk 36 [(0, .ref 7)] [.int r8_] s7_ K
      refine r_istore_n (lv1 := [(1, .int r8_), (0, .ref 7)]) (dcx dX7_takeTalk_c0 17 rfl) (Nat.le_of_ble_eq_true rfl) rfl ?_
      refine r_iload_n (dcx dX7_takeTalk_c0 18 rfl) 0 rfl ?_
      refine r_iconst (v := (-1)) (dcx dX7_takeTalk_c0 19 rfl) rfl ?_
      refine r_icmp_ne (tgt := 47) (dcx dX7_takeTalk_c0 20 rfl) (by decide) (fun q_ => ?_) (fun q_ => ?_)
      · have hyp := hyp.1 q_
        refine r_loc (lv1 := [(0, .ref 7), (1, .int r8_)]) [1, 0] rfl ?_
        exact hyp
      · have hyp := hyp.2 q_
        refine r_aload_n (dcx dX7_takeTalk_c0 21 rfl) 1 rfl ?_
        refine r_iconst (v := 4) (dcx dX7_takeTalk_c0 22 rfl) rfl ?_
        refine s_callV (as := [.int 4]) (st := []) zX7_blame kX7_takeTalk_120 (dcx dX7_takeTalk_c0 23 rfl) rfl rfl (Nat.le_of_ble_eq_true rfl) O7 rfl rfl (C2.mono hyp ?_)
        rintro _ s9_ ⟨rfl, hyp⟩
        show G2 Γ l mX7_takeTalk 47 [(1, .int r8_), (0, .ref 7)] [] s9_ K
        refine r_loc (lv1 := [(0, .ref 7), (1, .int r8_)]) [1, 0] rfl ?_
        exact hyp
    · have hyp := hyp.2 q_
      exact s_vret rfl hyp (dcx dX7_takeTalk_c0 11 rfl)
set_option maxHeartbeats 4000000 in
set_option maxRecDepth 20000 in
theorem tX7_takeTalk_47 {Γ : GE} {l : Launch} {x1 : Int32} {σ : SS} {K : Option Value → SS → Prop}  (hyp : C2 Γ l mX7_take [.ref 7, .int 2] σ (Ri fun r2_ s1_ => ((¬ r2_ = 0 → (∃ b3_ : Nat, s1_.2.2 7 2 = b3_ ∧ isP b3_ ∧ (C2 Γ l mX6_windowNamed [.ref b3_, .long (s1_.2.1 7 10)] s1_ (Ri fun r5_ s4_ => ((¬ r5_ = ((-1)) → ((x1 = ((-1)) → (wX7_takeTalk_117 Γ l  s4_ K)) ∧ (¬ (x1 = ((-1))) → ((x1 = r5_ → (wX7_takeTalk_103 Γ l x1 r5_ s4_ K)) ∧ (¬ (x1 = r5_) → (∃ b6_ : Nat, s4_.2.2 7 2 = b6_ ∧ isP b6_ ∧ (C2 Γ l mX6_talk [.ref b6_, .int x1, .int r5_] s4_ (Ri fun r8_ s7_ => ((r8_ = 0 → (wX7_takeTalk_108 Γ l x1 r5_ s7_ K)) ∧ (¬ (r8_ = 0) → (wX7_takeTalk_103 Γ l x1 r5_ s7_ K))))))))))) ∧ (r5_ = ((-1)) → (C2 Γ l mX7_blame [.ref 7, .int 4] s4_ (Rv fun s9_ => (wX7_takeTalk_117 Γ l  s9_ K))))))))) ∧ (r2_ = 0 → (K none s1_))))) : wX7_takeTalk_47 Γ l x1 σ K := by
  show G2 Γ l mX7_takeTalk 47 [(0, .ref 7), (1, .int x1)] [] σ K
  refine r_aload_n (dcx dX7_takeTalk_c0 24 rfl) 0 rfl ?_
  refine r_iconst (v := 2) (dcx dX7_takeTalk_c0 25 rfl) rfl ?_
  refine s_callV (as := [.int 2]) (st := []) zX7_take kX7_takeTalk_116 (dcx dX7_takeTalk_c0 26 rfl) rfl rfl (Nat.le_of_ble_eq_true rfl) O7 rfl rfl (C2.mono hyp ?_)
  rintro _ s1_ ⟨r2_, rfl, hyp⟩
  show G2 Γ l mX7_takeTalk 52 [(0, .ref 7), (1, .int x1)] [.int r2_] s1_ K
  refine r_if_ne (tgt := 56) (dcx dX7_takeTalk_c0 27 rfl) (by decide) (fun q_ => ?_) (fun q_ => ?_)
  · have hyp := hyp.1 q_
    refine r_aload_n (dcx dX7_takeTalk_c0 29 rfl) 0 rfl ?_
    obtain ⟨b3_, eb3_, hb3_, hyp⟩ := hyp
    refine s_getmE fX7_22 (dcx dX7_takeTalk_c0 30 rfl) F7_2 eb3_ (nzP hb3_) ?_
    refine r_aload_n (dcx dX7_takeTalk_c0 31 rfl) 0 rfl ?_
    refine s_getj fX7_112 (dcx dX7_takeTalk_c0 32 rfl) F7_10 ?_
    refine s_callV (as := [.long (s1_.2.1 7 10)]) (st := []) zX6_windowNamed kX7_takeTalk_186 (dcx dX7_takeTalk_c0 33 rfl) rfl rfl (Nat.le_of_ble_eq_true rfl) (OP hb3_) rfl rfl (C2.mono hyp ?_)
    rintro _ s4_ ⟨r5_, rfl, hyp⟩
    show G2 Γ l mX7_takeTalk 67 [(0, .ref 7), (1, .int x1)] [.int r5_] s4_ K
    refine r_istore_n (lv1 := [(2, .int r5_), (0, .ref 7), (1, .int x1)]) (dcx dX7_takeTalk_c0 34 rfl) (Nat.le_of_ble_eq_true rfl) rfl ?_
    refine r_iload_n (dcx dX7_takeTalk_c0 35 rfl) 0 rfl ?_
    refine r_iconst (v := (-1)) (dcx dX7_takeTalk_c0 36 rfl) rfl ?_
    refine r_icmp_ne (tgt := 81) (dcx dX7_takeTalk_c0 37 rfl) (by decide) (fun q_ => ?_) (fun q_ => ?_)
    · have hyp := hyp.1 q_
      refine r_iload_n (dcx dX7_takeTalk_c1 2 rfl) 2 rfl ?_
      refine r_iconst (v := (-1)) (dcx dX7_takeTalk_c1 3 rfl) rfl ?_
      refine r_icmp_eq (tgt := 117) (dcx dX7_takeTalk_c1 4 rfl) (by decide) (fun q_ => ?_) (fun q_ => ?_)
      · have hyp := hyp.1 q_
        refine r_loc (lv1 := [(0, .ref 7)]) [1] rfl ?_
        exact hyp
      · have hyp := hyp.2 q_
        refine r_iload_n (dcx dX7_takeTalk_c1 5 rfl) 2 rfl ?_
        refine r_iload_n (dcx dX7_takeTalk_c1 6 rfl) 0 rfl ?_
        refine r_icmp_eq (tgt := 103) (dcx dX7_takeTalk_c1 7 rfl) (by decide) (fun q_ => ?_) (fun q_ => ?_)
        · have hyp := hyp.1 q_
          refine r_loc (lv1 := [(0, .ref 7), (1, .int x1), (2, .int r5_)]) [1, 2, 0] rfl ?_
          exact hyp
        · have hyp := hyp.2 q_
          refine r_aload_n (dcx dX7_takeTalk_c1 8 rfl) 1 rfl ?_
          obtain ⟨b6_, eb6_, hb6_, hyp⟩ := hyp
          refine s_getmE fX7_22 (dcx dX7_takeTalk_c1 9 rfl) F7_2 eb6_ (nzP hb6_) ?_
          refine r_iload_n (dcx dX7_takeTalk_c1 10 rfl) 2 rfl ?_
          refine r_iload_n (dcx dX7_takeTalk_c1 11 rfl) 0 rfl ?_
          refine s_callV (as := [.int x1, .int r5_]) (st := []) zX6_talk kX7_takeTalk_189 (dcx dX7_takeTalk_c1 12 rfl) rfl rfl (Nat.le_of_ble_eq_true rfl) (OP hb6_) rfl rfl (C2.mono hyp ?_)
          rintro _ s7_ ⟨r8_, rfl, hyp⟩
          show G2 Γ l mX7_takeTalk 100 [(2, .int r5_), (0, .ref 7), (1, .int x1)] [.int r8_] s7_ K
          refine r_if_eq (tgt := 108) (dcx dX7_takeTalk_c1 13 rfl) (by decide) (fun q_ => ?_) (fun q_ => ?_)
          · have hyp := hyp.1 q_
            refine r_loc (lv1 := [(0, .ref 7), (1, .int x1), (2, .int r5_)]) [1, 2, 0] rfl ?_
            exact hyp
          · have hyp := hyp.2 q_
            refine r_loc (lv1 := [(0, .ref 7), (1, .int x1), (2, .int r5_)]) [1, 2, 0] rfl ?_
            exact hyp
    · have hyp := hyp.2 q_
      refine r_aload_n (dcx dX7_takeTalk_c0 38 rfl) 1 rfl ?_
      refine r_iconst (v := 4) (dcx dX7_takeTalk_c0 39 rfl) rfl ?_
      refine s_callV (as := [.int 4]) (st := []) zX7_blame kX7_takeTalk_120 (dcx dX7_takeTalk_c1 0 rfl) rfl rfl (Nat.le_of_ble_eq_true rfl) O7 rfl rfl (C2.mono hyp ?_)
      rintro _ s9_ ⟨rfl, hyp⟩
      show G2 Γ l mX7_takeTalk 78 [(2, .int r5_), (0, .ref 7), (1, .int x1)] [] s9_ K
      refine r_goto (tgt := 117) (dcx dX7_takeTalk_c1 1 rfl) (by decide) ?_
      refine r_loc (lv1 := [(0, .ref 7)]) [1] rfl ?_
      exact hyp
  · have hyp := hyp.2 q_
    exact s_vret rfl hyp (dcx dX7_takeTalk_c0 28 rfl)
set_option maxHeartbeats 4000000 in
set_option maxRecDepth 20000 in
theorem tX7_takeTalk_117 {Γ : GE} {l : Launch}  {σ : SS} {K : Option Value → SS → Prop}  (hyp : ∃ b1_ : Nat, σ.2.2 7 2 = b1_ ∧ isP b1_ ∧ (∀ s2_ : SS, s2_ = sI σ b1_ 15 ((σ.1 b1_ 15) + 1) → (C2 Γ l mX7_take [.ref 7, .int 59] s2_ (Ri fun r4_ s3_ => (K none s3_))))) : wX7_takeTalk_117 Γ l  σ K := by
  show G2 Γ l mX7_takeTalk 117 [(0, .ref 7)] [] σ K
  refine r_aload_n (dcx dX7_takeTalk_c1 22 rfl) 0 rfl ?_
  obtain ⟨b1_, eb1_, hb1_, hyp⟩ := hyp
  refine s_getmE fX7_22 (dcx dX7_takeTalk_c1 23 rfl) F7_2 eb1_ (nzP hb1_) ?_
  refine r_dup (dcx dX7_takeTalk_c1 24 rfl) rfl ?_
  refine s_geti fX7_183 (dcx dX7_takeTalk_c1 25 rfl) (FP_15 hb1_) ?_
  refine r_iconst (v := 1) (dcx dX7_takeTalk_c1 26 rfl) rfl ?_
  refine r_iadd (dcx dX7_takeTalk_c1 27 rfl) ?_
  refine s_puti gX7_183 (dcx dX7_takeTalk_c1 28 rfl) (FP_15 hb1_) ?_
  obtain ⟨s2_, es2_⟩ : ∃ z : SS, z = sI σ b1_ 15 ((σ.1 b1_ 15) + 1) := ⟨_, rfl⟩
  rw [← es2_]
  have hyp := hyp s2_ es2_
  refine r_aload_n (dcx dX7_takeTalk_c1 29 rfl) 0 rfl ?_
  refine r_bipush (v := 59) (dcx dX7_takeTalk_c1 30 rfl) rfl ?_
  refine s_callV (as := [.int 59]) (st := []) zX7_take kX7_takeTalk_116 (dcx dX7_takeTalk_c1 31 rfl) rfl rfl (Nat.le_of_ble_eq_true rfl) O7 rfl rfl (C2.mono hyp ?_)
  rintro _ s3_ ⟨r4_, rfl, hyp⟩
  show G2 Γ l mX7_takeTalk 136 [(0, .ref 7)] [.int r4_] s3_ K
  refine r_pop (dcx dX7_takeTalk_c1 32 rfl) rfl ?_
  exact s_vret rfl hyp (dcx dX7_takeTalk_c1 33 rfl)
set_option maxHeartbeats 4000000 in
set_option maxRecDepth 20000 in
theorem tX7_takeTalk_103 {Γ : GE} {l : Launch} {x1 : Int32} {x2 : Int32} {σ : SS} {K : Option Value → SS → Prop}  (hyp : C2 Γ l mX7_blame [.ref 7, .int 3] σ (Rv fun s1_ => (wX7_takeTalk_108 Γ l x1 x2 s1_ K))) : wX7_takeTalk_103 Γ l x1 x2 σ K := by
  show G2 Γ l mX7_takeTalk 103 [(0, .ref 7), (1, .int x1), (2, .int x2)] [] σ K
  refine r_aload_n (dcx dX7_takeTalk_c1 14 rfl) 0 rfl ?_
  refine r_iconst (v := 3) (dcx dX7_takeTalk_c1 15 rfl) rfl ?_
  refine s_callV (as := [.int 3]) (st := []) zX7_blame kX7_takeTalk_120 (dcx dX7_takeTalk_c1 16 rfl) rfl rfl (Nat.le_of_ble_eq_true rfl) O7 rfl rfl (C2.mono hyp ?_)
  rintro _ s1_ ⟨rfl, hyp⟩
  show G2 Γ l mX7_takeTalk 108 [(0, .ref 7), (1, .int x1), (2, .int x2)] [] s1_ K
  refine r_loc (lv1 := [(0, .ref 7), (1, .int x1), (2, .int x2)]) [0, 1, 2] rfl ?_
  exact hyp
set_option maxHeartbeats 4000000 in
set_option maxRecDepth 20000 in
theorem tX7_takeTalk_108 {Γ : GE} {l : Launch} {x1 : Int32} {x2 : Int32} {σ : SS} {K : Option Value → SS → Prop}  (hyp : ∃ b1_ : Nat, σ.2.2 7 2 = b1_ ∧ isP b1_ ∧ (C2 Γ l mX6_addTalk [.ref b1_, .int x1, .int x2] σ (Rv fun s2_ => (wX7_takeTalk_117 Γ l  s2_ K)))) : wX7_takeTalk_108 Γ l x1 x2 σ K := by
  show G2 Γ l mX7_takeTalk 108 [(0, .ref 7), (1, .int x1), (2, .int x2)] [] σ K
  refine r_aload_n (dcx dX7_takeTalk_c1 17 rfl) 0 rfl ?_
  obtain ⟨b1_, eb1_, hb1_, hyp⟩ := hyp
  refine s_getmE fX7_22 (dcx dX7_takeTalk_c1 18 rfl) F7_2 eb1_ (nzP hb1_) ?_
  refine r_iload_n (dcx dX7_takeTalk_c1 19 rfl) 1 rfl ?_
  refine r_iload_n (dcx dX7_takeTalk_c1 20 rfl) 2 rfl ?_
  refine s_callV (as := [.int x1, .int x2]) (st := []) zX6_addTalk kX7_takeTalk_192 (dcx dX7_takeTalk_c1 21 rfl) rfl rfl (Nat.le_of_ble_eq_true rfl) (OP hb1_) rfl rfl (C2.mono hyp ?_)
  rintro _ s2_ ⟨rfl, hyp⟩
  show G2 Γ l mX7_takeTalk 117 [(0, .ref 7), (1, .int x1), (2, .int x2)] [] s2_ K
  refine r_loc (lv1 := [(0, .ref 7)]) [0] rfl ?_
  exact hyp
set_option maxHeartbeats 4000000 in
set_option maxRecDepth 20000 in
theorem tX7_takeHeight {Γ : GE} {l : Launch}  {σ : SS} {K : Option Value → SS → Prop}  (hyp : C2 Γ l mX7_pass [.ref 7] σ (Ri fun r2_ s1_ => ((r2_ = 0 → (K none s1_)) ∧ (¬ (r2_ = 0) → (C2 Γ l mX7_takeInt [.ref 7, .int 0, .int 99] s1_ (Ri fun r4_ s3_ => ((r4_ = 0 → (K none s3_)) ∧ (¬ (r4_ = 0) → (∃ b5_ : Nat, s3_.2.2 7 2 = b5_ ∧ isP b5_ ∧ (∀ s6_ : SS, s6_ = sI s3_ b5_ 16 (s3_.1 7 9) → (C2 Γ l mX7_take [.ref 7, .int 59] s6_ (Ri fun r8_ s7_ => (K none s7_))))))))))))) : C2 Γ l mX7_takeHeight [.ref 7] σ K := by
  refine c2_of (lv := [(0, .ref 7)]) (by decide) (Nat.le_of_ble_eq_true rfl) rfl ?_
  refine r_aload_n (dcx dX7_takeHeight_c0 0 rfl) 0 rfl ?_
  refine s_callV (as := []) (st := []) zX7_pass kX7_takeHeight_98 (dcx dX7_takeHeight_c0 1 rfl) rfl rfl (Nat.le_of_ble_eq_true rfl) O7 rfl rfl (C2.mono hyp ?_)
  rintro _ s1_ ⟨r2_, rfl, hyp⟩
  show G2 Γ l mX7_takeHeight 4 [(0, .ref 7)] [.int r2_] s1_ K
  refine r_if_eq (tgt := 35) (dcx dX7_takeHeight_c0 2 rfl) (by decide) (fun q_ => ?_) (fun q_ => ?_)
  · have hyp := hyp.1 q_
    exact s_vret rfl hyp (dcx dX7_takeHeight_c0 17 rfl)
  · have hyp := hyp.2 q_
    refine r_aload_n (dcx dX7_takeHeight_c0 3 rfl) 0 rfl ?_
    refine r_iconst (v := 0) (dcx dX7_takeHeight_c0 4 rfl) rfl ?_
    refine r_bipush (v := 99) (dcx dX7_takeHeight_c0 5 rfl) rfl ?_
    refine s_callV (as := [.int 0, .int 99]) (st := []) zX7_takeInt kX7_takeHeight_171 (dcx dX7_takeHeight_c0 6 rfl) rfl rfl (Nat.le_of_ble_eq_true rfl) O7 rfl rfl (C2.mono hyp ?_)
    rintro _ s3_ ⟨r4_, rfl, hyp⟩
    show G2 Γ l mX7_takeHeight 14 [(0, .ref 7)] [.int r4_] s3_ K
    refine r_if_eq (tgt := 35) (dcx dX7_takeHeight_c0 7 rfl) (by decide) (fun q_ => ?_) (fun q_ => ?_)
    · have hyp := hyp.1 q_
      exact s_vret rfl hyp (dcx dX7_takeHeight_c0 17 rfl)
    · have hyp := hyp.2 q_
      refine r_aload_n (dcx dX7_takeHeight_c0 8 rfl) 0 rfl ?_
      obtain ⟨b5_, eb5_, hb5_, hyp⟩ := hyp
      refine s_getmE fX7_22 (dcx dX7_takeHeight_c0 9 rfl) F7_2 eb5_ (nzP hb5_) ?_
      refine r_aload_n (dcx dX7_takeHeight_c0 10 rfl) 0 rfl ?_
      refine s_geti fX7_105 (dcx dX7_takeHeight_c0 11 rfl) F7_9 ?_
      refine s_puti gX7_196 (dcx dX7_takeHeight_c0 12 rfl) (FP_16 hb5_) ?_
      obtain ⟨s6_, es6_⟩ : ∃ z : SS, z = sI s3_ b5_ 16 (s3_.1 7 9) := ⟨_, rfl⟩
      rw [← es6_]
      have hyp := hyp s6_ es6_
      refine r_aload_n (dcx dX7_takeHeight_c0 13 rfl) 0 rfl ?_
      refine r_bipush (v := 59) (dcx dX7_takeHeight_c0 14 rfl) rfl ?_
      refine s_callV (as := [.int 59]) (st := []) zX7_take kX7_takeHeight_116 (dcx dX7_takeHeight_c0 15 rfl) rfl rfl (Nat.le_of_ble_eq_true rfl) O7 rfl rfl (C2.mono hyp ?_)
      rintro _ s7_ ⟨r8_, rfl, hyp⟩
      show G2 Γ l mX7_takeHeight 34 [(0, .ref 7)] [.int r8_] s7_ K
      refine r_pop (dcx dX7_takeHeight_c0 16 rfl) rfl ?_
      exact s_vret rfl hyp (dcx dX7_takeHeight_c0 17 rfl)
set_option maxHeartbeats 4000000 in
set_option maxRecDepth 20000 in
theorem tX7_takeRain {Γ : GE} {l : Launch}  {σ : SS} {K : Option Value → SS → Prop}  (hyp : C2 Γ l mX7_pass [.ref 7] σ (Ri fun r2_ s1_ => ((r2_ = 0 → (K none s1_)) ∧ (¬ (r2_ = 0) → (C2 Γ l mX7_takeInt [.ref 7, .int 0, .int 100] s1_ (Ri fun r4_ s3_ => ((¬ r4_ = 0 → (∃ b5_ : Nat, s3_.2.2 7 2 = b5_ ∧ isP b5_ ∧ (∀ s6_ : SS, s6_ = sI s3_ b5_ 17 (s3_.1 7 9) → (C2 Γ l mX7_takeInt [.ref 7, .int 0, .int 9] s6_ (Ri fun r8_ s7_ => ((r8_ = 0 → (K none s7_)) ∧ (¬ (r8_ = 0) → (∃ b9_ : Nat, s7_.2.2 7 2 = b9_ ∧ isP b9_ ∧ (∀ s10_ : SS, s10_ = sI s7_ b9_ 18 (s7_.1 7 9) → (C2 Γ l mX7_take [.ref 7, .int 59] s10_ (Ri fun r12_ s11_ => (K none s11_)))))))))))) ∧ (r4_ = 0 → (K none s3_))))))))) : C2 Γ l mX7_takeRain [.ref 7] σ K := by
  refine c2_of (lv := [(0, .ref 7)]) (by decide) (Nat.le_of_ble_eq_true rfl) rfl ?_
  refine r_aload_n (dcx dX7_takeRain_c0 0 rfl) 0 rfl ?_
  refine s_callV (as := []) (st := []) zX7_pass kX7_takeRain_98 (dcx dX7_takeRain_c0 1 rfl) rfl rfl (Nat.le_of_ble_eq_true rfl) O7 rfl rfl (C2.mono hyp ?_)
  rintro _ s1_ ⟨r2_, rfl, hyp⟩
  show G2 Γ l mX7_takeRain 4 [(0, .ref 7)] [.int r2_] s1_ K
  refine r_if_eq (tgt := 17) (dcx dX7_takeRain_c0 2 rfl) (by decide) (fun q_ => ?_) (fun q_ => ?_)
  · have hyp := hyp.1 q_
    exact s_vret rfl hyp (dcx dX7_takeRain_c0 8 rfl)
  · have hyp := hyp.2 q_
    refine r_aload_n (dcx dX7_takeRain_c0 3 rfl) 0 rfl ?_
    refine r_iconst (v := 0) (dcx dX7_takeRain_c0 4 rfl) rfl ?_
    refine r_bipush (v := 100) (dcx dX7_takeRain_c0 5 rfl) rfl ?_
    refine s_callV (as := [.int 0, .int 100]) (st := []) zX7_takeInt kX7_takeRain_171 (dcx dX7_takeRain_c0 6 rfl) rfl rfl (Nat.le_of_ble_eq_true rfl) O7 rfl rfl (C2.mono hyp ?_)
    rintro _ s3_ ⟨r4_, rfl, hyp⟩
    show G2 Γ l mX7_takeRain 14 [(0, .ref 7)] [.int r4_] s3_ K
    refine r_if_ne (tgt := 18) (dcx dX7_takeRain_c0 7 rfl) (by decide) (fun q_ => ?_) (fun q_ => ?_)
    · have hyp := hyp.1 q_
      refine r_aload_n (dcx dX7_takeRain_c0 9 rfl) 0 rfl ?_
      obtain ⟨b5_, eb5_, hb5_, hyp⟩ := hyp
      refine s_getmE fX7_22 (dcx dX7_takeRain_c0 10 rfl) F7_2 eb5_ (nzP hb5_) ?_
      refine r_aload_n (dcx dX7_takeRain_c0 11 rfl) 0 rfl ?_
      refine s_geti fX7_105 (dcx dX7_takeRain_c0 12 rfl) F7_9 ?_
      refine s_puti gX7_199 (dcx dX7_takeRain_c0 13 rfl) (FP_17 hb5_) ?_
      obtain ⟨s6_, es6_⟩ : ∃ z : SS, z = sI s3_ b5_ 17 (s3_.1 7 9) := ⟨_, rfl⟩
      rw [← es6_]
      have hyp := hyp s6_ es6_
      refine r_aload_n (dcx dX7_takeRain_c0 14 rfl) 0 rfl ?_
      refine r_iconst (v := 0) (dcx dX7_takeRain_c0 15 rfl) rfl ?_
      refine r_bipush (v := 9) (dcx dX7_takeRain_c0 16 rfl) rfl ?_
      refine s_callV (as := [.int 0, .int 9]) (st := []) zX7_takeInt kX7_takeRain_171 (dcx dX7_takeRain_c0 17 rfl) rfl rfl (Nat.le_of_ble_eq_true rfl) O7 rfl rfl (C2.mono hyp ?_)
      rintro _ s7_ ⟨r8_, rfl, hyp⟩
      show G2 Γ l mX7_takeRain 36 [(0, .ref 7)] [.int r8_] s7_ K
      refine r_if_eq (tgt := 57) (dcx dX7_takeRain_c0 18 rfl) (by decide) (fun q_ => ?_) (fun q_ => ?_)
      · have hyp := hyp.1 q_
        exact s_vret rfl hyp (dcx dX7_takeRain_c0 28 rfl)
      · have hyp := hyp.2 q_
        refine r_aload_n (dcx dX7_takeRain_c0 19 rfl) 0 rfl ?_
        obtain ⟨b9_, eb9_, hb9_, hyp⟩ := hyp
        refine s_getmE fX7_22 (dcx dX7_takeRain_c0 20 rfl) F7_2 eb9_ (nzP hb9_) ?_
        refine r_aload_n (dcx dX7_takeRain_c0 21 rfl) 0 rfl ?_
        refine s_geti fX7_105 (dcx dX7_takeRain_c0 22 rfl) F7_9 ?_
        refine s_puti gX7_202 (dcx dX7_takeRain_c0 23 rfl) (FP_18 hb9_) ?_
        obtain ⟨s10_, es10_⟩ : ∃ z : SS, z = sI s7_ b9_ 18 (s7_.1 7 9) := ⟨_, rfl⟩
        rw [← es10_]
        have hyp := hyp s10_ es10_
        refine r_aload_n (dcx dX7_takeRain_c0 24 rfl) 0 rfl ?_
        refine r_bipush (v := 59) (dcx dX7_takeRain_c0 25 rfl) rfl ?_
        refine s_callV (as := [.int 59]) (st := []) zX7_take kX7_takeRain_116 (dcx dX7_takeRain_c0 26 rfl) rfl rfl (Nat.le_of_ble_eq_true rfl) O7 rfl rfl (C2.mono hyp ?_)
        rintro _ s11_ ⟨r12_, rfl, hyp⟩
        show G2 Γ l mX7_takeRain 56 [(0, .ref 7)] [.int r12_] s11_ K
        refine r_pop (dcx dX7_takeRain_c0 27 rfl) rfl ?_
        exact s_vret rfl hyp (dcx dX7_takeRain_c0 28 rfl)
    · have hyp := hyp.2 q_
      exact s_vret rfl hyp (dcx dX7_takeRain_c0 8 rfl)
set_option maxHeartbeats 4000000 in
set_option maxRecDepth 20000 in
theorem tX7_takeSeed {Γ : GE} {l : Launch}  {σ : SS} {K : Option Value → SS → Prop}  (hyp : C2 Γ l mX7_pass [.ref 7] σ (Ri fun r2_ s1_ => ((r2_ = 0 → (K none s1_)) ∧ (¬ (r2_ = 0) → (C2 Γ l mX7_takeInt [.ref 7, .int 0, .int 9999] s1_ (Ri fun r4_ s3_ => ((r4_ = 0 → (K none s3_)) ∧ (¬ (r4_ = 0) → (∃ b5_ : Nat, s3_.2.2 7 2 = b5_ ∧ isP b5_ ∧ (∀ s6_ : SS, s6_ = sI s3_ b5_ 19 (s3_.1 7 9) → (C2 Γ l mX7_take [.ref 7, .int 59] s6_ (Ri fun r8_ s7_ => (K none s7_))))))))))))) : C2 Γ l mX7_takeSeed [.ref 7] σ K := by
  refine c2_of (lv := [(0, .ref 7)]) (by decide) (Nat.le_of_ble_eq_true rfl) rfl ?_
  refine r_aload_n (dcx dX7_takeSeed_c0 0 rfl) 0 rfl ?_
  refine s_callV (as := []) (st := []) zX7_pass kX7_takeSeed_98 (dcx dX7_takeSeed_c0 1 rfl) rfl rfl (Nat.le_of_ble_eq_true rfl) O7 rfl rfl (C2.mono hyp ?_)
  rintro _ s1_ ⟨r2_, rfl, hyp⟩
  show G2 Γ l mX7_takeSeed 4 [(0, .ref 7)] [.int r2_] s1_ K
  refine r_if_eq (tgt := 36) (dcx dX7_takeSeed_c0 2 rfl) (by decide) (fun q_ => ?_) (fun q_ => ?_)
  · have hyp := hyp.1 q_
    exact s_vret rfl hyp (dcx dX7_takeSeed_c0 17 rfl)
  · have hyp := hyp.2 q_
    refine r_aload_n (dcx dX7_takeSeed_c0 3 rfl) 0 rfl ?_
    refine r_iconst (v := 0) (dcx dX7_takeSeed_c0 4 rfl) rfl ?_
    refine r_sipush (v := 9999) (dcx dX7_takeSeed_c0 5 rfl) rfl ?_
    refine s_callV (as := [.int 0, .int 9999]) (st := []) zX7_takeInt kX7_takeSeed_171 (dcx dX7_takeSeed_c0 6 rfl) rfl rfl (Nat.le_of_ble_eq_true rfl) O7 rfl rfl (C2.mono hyp ?_)
    rintro _ s3_ ⟨r4_, rfl, hyp⟩
    show G2 Γ l mX7_takeSeed 15 [(0, .ref 7)] [.int r4_] s3_ K
    refine r_if_eq (tgt := 36) (dcx dX7_takeSeed_c0 7 rfl) (by decide) (fun q_ => ?_) (fun q_ => ?_)
    · have hyp := hyp.1 q_
      exact s_vret rfl hyp (dcx dX7_takeSeed_c0 17 rfl)
    · have hyp := hyp.2 q_
      refine r_aload_n (dcx dX7_takeSeed_c0 8 rfl) 0 rfl ?_
      obtain ⟨b5_, eb5_, hb5_, hyp⟩ := hyp
      refine s_getmE fX7_22 (dcx dX7_takeSeed_c0 9 rfl) F7_2 eb5_ (nzP hb5_) ?_
      refine r_aload_n (dcx dX7_takeSeed_c0 10 rfl) 0 rfl ?_
      refine s_geti fX7_105 (dcx dX7_takeSeed_c0 11 rfl) F7_9 ?_
      refine s_puti gX7_205 (dcx dX7_takeSeed_c0 12 rfl) (FP_19 hb5_) ?_
      obtain ⟨s6_, es6_⟩ : ∃ z : SS, z = sI s3_ b5_ 19 (s3_.1 7 9) := ⟨_, rfl⟩
      rw [← es6_]
      have hyp := hyp s6_ es6_
      refine r_aload_n (dcx dX7_takeSeed_c0 13 rfl) 0 rfl ?_
      refine r_bipush (v := 59) (dcx dX7_takeSeed_c0 14 rfl) rfl ?_
      refine s_callV (as := [.int 59]) (st := []) zX7_take kX7_takeSeed_116 (dcx dX7_takeSeed_c0 15 rfl) rfl rfl (Nat.le_of_ble_eq_true rfl) O7 rfl rfl (C2.mono hyp ?_)
      rintro _ s7_ ⟨r8_, rfl, hyp⟩
      show G2 Γ l mX7_takeSeed 35 [(0, .ref 7)] [.int r8_] s7_ K
      refine r_pop (dcx dX7_takeSeed_c0 16 rfl) rfl ?_
      exact s_vret rfl hyp (dcx dX7_takeSeed_c0 17 rfl)
def wX7_takeLaw_27 (Γ : GE) (l : Launch) (x2 : Int32) (σ : SS) (K : Option Value → SS → Prop) : Prop := G2 Γ l mX7_takeLaw 27 [(0, .ref 7), (2, .int x2)] [] σ K
set_option maxHeartbeats 4000000 in
set_option maxRecDepth 20000 in
theorem tX7_takeLaw {Γ : GE} {l : Launch} {a1 : Nat} {σ : SS} {K : Option Value → SS → Prop} (h1 : isW a1) (hyp : C2 Γ l mX7_pass [.ref 7] σ (Ri fun r2_ s1_ => ((r2_ = 0 → (K none s1_)) ∧ (¬ (r2_ = 0) → (C2 Γ l mX7_take [.ref 7, .int 61] s1_ (Ri fun r4_ s3_ => ((¬ r4_ = 0 → (C2 Γ l mX3_begin [.ref 8, .ref a1] s3_ (Rv fun s5_ => (wX7_takeLaw_27 Γ l 0 s5_ K)))) ∧ (r4_ = 0 → (K none s3_))))))))) : C2 Γ l mX7_takeLaw [.ref 7, .ref a1] σ K := by
  refine c2_of (lv := [(0, .ref 7), (1, .ref a1)]) (by decide) (Nat.le_of_ble_eq_true rfl) rfl ?_
  refine r_aload_n (dcx dX7_takeLaw_c0 0 rfl) 0 rfl ?_
  refine s_callV (as := []) (st := []) zX7_pass kX7_takeLaw_98 (dcx dX7_takeLaw_c0 1 rfl) rfl rfl (Nat.le_of_ble_eq_true rfl) O7 rfl rfl (C2.mono hyp ?_)
  rintro _ s1_ ⟨r2_, rfl, hyp⟩
  show G2 Γ l mX7_takeLaw 4 [(0, .ref 7), (1, .ref a1)] [.int r2_] s1_ K
  refine r_if_eq (tgt := 16) (dcx dX7_takeLaw_c0 2 rfl) (by decide) (fun q_ => ?_) (fun q_ => ?_)
  · have hyp := hyp.1 q_
    exact s_vret rfl hyp (dcx dX7_takeLaw_c0 7 rfl)
  · have hyp := hyp.2 q_
    refine r_aload_n (dcx dX7_takeLaw_c0 3 rfl) 0 rfl ?_
    refine r_bipush (v := 61) (dcx dX7_takeLaw_c0 4 rfl) rfl ?_
    refine s_callV (as := [.int 61]) (st := []) zX7_take kX7_takeLaw_116 (dcx dX7_takeLaw_c0 5 rfl) rfl rfl (Nat.le_of_ble_eq_true rfl) O7 rfl rfl (C2.mono hyp ?_)
    rintro _ s3_ ⟨r4_, rfl, hyp⟩
    show G2 Γ l mX7_takeLaw 13 [(0, .ref 7), (1, .ref a1)] [.int r4_] s3_ K
    refine r_if_ne (tgt := 17) (dcx dX7_takeLaw_c0 6 rfl) (by decide) (fun q_ => ?_) (fun q_ => ?_)
    · have hyp := hyp.1 q_
      refine r_aload_n (dcx dX7_takeLaw_c0 8 rfl) 0 rfl ?_
      refine s_getr (b := 8) fX7_12 (dcx dX7_takeLaw_c0 9 rfl) F7_1 ?_
      refine r_aload_n (dcx dX7_takeLaw_c0 10 rfl) 1 rfl ?_
      refine s_callV (as := [.ref a1]) (st := []) zX3_begin kX7_takeLaw_208 (dcx dX7_takeLaw_c0 11 rfl) rfl rfl (Nat.le_of_ble_eq_true rfl) O8 rfl rfl (C2.mono hyp ?_)
      rintro _ s5_ ⟨rfl, hyp⟩
      show G2 Γ l mX7_takeLaw 25 [(0, .ref 7), (1, .ref a1)] [] s5_ K
      refine r_iconst (v := 0) (dcx dX7_takeLaw_c0 12 rfl) rfl ?_
      refine r_istore_n (lv1 := [(2, .int 0), (0, .ref 7), (1, .ref a1)]) (dcx dX7_takeLaw_c0 13 rfl) (Nat.le_of_ble_eq_true rfl) rfl ?_
      refine r_loc (lv1 := [(0, .ref 7), (2, .int 0)]) [1, 0] rfl ?_
      exact hyp
    · have hyp := hyp.2 q_
      exact s_vret rfl hyp (dcx dX7_takeLaw_c0 7 rfl)
set_option maxHeartbeats 4000000 in
set_option maxRecDepth 20000 in
theorem tX7_takeLaw_27 {Γ : GE} {l : Launch} {x2 : Int32} {σ : SS} {K : Option Value → SS → Prop}  (hyp : ((400 : Int32) < x2 → (K none σ)) ∧ (¬ ((400 : Int32) < x2) → ((¬ (σ.1 7 4) = 0 → (K none σ)) ∧ ((σ.1 7 4) = 0 → ((¬ (σ.1 8 8) = 0 → (K none σ)) ∧ ((σ.1 8 8) = 0 → (vp_in (σ.1 7 3) 402 ∧ (((σ.1 8 7) = 0 → (C2 Γ l mX3_hearBehindUnit [.ref 8, .int (σ.1 3 (Int32.toNatClampNeg (σ.1 7 3)))] σ (Ri fun r2_ s1_ => ((¬ r2_ = 0 → (C2 Γ l mX7_refuse [.ref 7, .int r2_] s1_ (Rv fun s3_ => (wX7_takeLaw_27 Γ l (x2 + 1) s3_ K)))) ∧ (r2_ = 0 → (C2 Γ l mX7_pass [.ref 7] s1_ (Ri fun r6_ s5_ => (wX7_takeLaw_27 Γ l (x2 + 1) s5_ K)))))))) ∧ (¬ ((σ.1 8 7) = 0) → (vp_in (σ.1 7 3) 402 ∧ (C2 Γ l mX3_hearUnit [.ref 8, .int (σ.1 3 (Int32.toNatClampNeg (σ.1 7 3))), .int (σ.1 5 (Int32.toNatClampNeg (σ.1 7 3)))] σ (Ri fun r8_ s7_ => ((¬ r8_ = 0 → (C2 Γ l mX7_refuse [.ref 7, .int r8_] s7_ (Rv fun s9_ => (wX7_takeLaw_27 Γ l (x2 + 1) s9_ K)))) ∧ (r8_ = 0 → (C2 Γ l mX7_pass [.ref 7] s7_ (Ri fun r12_ s11_ => (wX7_takeLaw_27 Γ l (x2 + 1) s11_ K))))))))))))))))) : wX7_takeLaw_27 Γ l x2 σ K := by
  show G2 Γ l mX7_takeLaw 27 [(0, .ref 7), (2, .int x2)] [] σ K
  refine r_iload_n (dcx dX7_takeLaw_c0 14 rfl) 1 rfl ?_
  refine r_sipush (v := 400) (dcx dX7_takeLaw_c0 15 rfl) rfl ?_
  refine r_icmp_gt (tgt := 132) (dcx dX7_takeLaw_c0 16 rfl) (by decide) (fun q_ => ?_) (fun q_ => ?_)
  · have hyp := hyp.1 q_
    exact s_vret rfl hyp (dcx dX7_takeLaw_c1 22 rfl)
  · have hyp := hyp.2 q_
    refine r_aload_n (dcx dX7_takeLaw_c0 17 rfl) 0 rfl ?_
    refine s_geti fX7_31 (dcx dX7_takeLaw_c0 18 rfl) F7_4 ?_
    refine r_if_ne (tgt := 132) (dcx dX7_takeLaw_c0 19 rfl) (by decide) (fun q_ => ?_) (fun q_ => ?_)
    · have hyp := hyp.1 q_
      exact s_vret rfl hyp (dcx dX7_takeLaw_c1 22 rfl)
    · have hyp := hyp.2 q_
      refine r_aload_n (dcx dX7_takeLaw_c0 20 rfl) 0 rfl ?_
      refine s_getr (b := 8) fX7_12 (dcx dX7_takeLaw_c0 21 rfl) F7_1 ?_
      refine s_geti fX7_211 (dcx dX7_takeLaw_c0 22 rfl) F8_8 ?_
      refine r_if_ne (tgt := 132) (dcx dX7_takeLaw_c0 23 rfl) (by decide) (fun q_ => ?_) (fun q_ => ?_)
      · have hyp := hyp.1 q_
        exact s_vret rfl hyp (dcx dX7_takeLaw_c1 22 rfl)
      · have hyp := hyp.2 q_
        refine r_aload_n (dcx dX7_takeLaw_c0 24 rfl) 0 rfl ?_
        refine s_getr (b := 1) fX7_18 (dcx dX7_takeLaw_c0 25 rfl) F7_0 ?_
        refine s_getr (b := 3) fX7_47 (dcx dX7_takeLaw_c0 26 rfl) F1_2 ?_
        refine r_aload_n (dcx dX7_takeLaw_c0 27 rfl) 0 rfl ?_
        refine s_geti fX7_44 (dcx dX7_takeLaw_c0 28 rfl) F7_3 ?_
        obtain ⟨hb_, hyp⟩ := hyp
        refine s_iald (dcx dX7_takeLaw_c0 29 rfl) A3 hb_ ?_
        refine r_istore_n (lv1 := [(3, .int (σ.1 3 (Int32.toNatClampNeg (σ.1 7 3)))), (0, .ref 7), (2, .int x2)]) (dcx dX7_takeLaw_c0 30 rfl) (Nat.le_of_ble_eq_true rfl) rfl ?_
        refine r_aload_n (dcx dX7_takeLaw_c0 31 rfl) 1 rfl ?_
        refine s_getr (b := 8) fX7_12 (dcx dX7_takeLaw_c0 32 rfl) F7_1 ?_
        refine s_geti fX7_215 (dcx dX7_takeLaw_c0 33 rfl) F8_7 ?_
        refine r_if_eq (tgt := 97) (dcx dX7_takeLaw_c0 34 rfl) (by decide) (fun q_ => ?_) (fun q_ => ?_)
        · have hyp := hyp.1 q_
          refine r_aload_n (dcx dX7_takeLaw_c1 6 rfl) 1 rfl ?_
          refine s_getr (b := 8) fX7_12 (dcx dX7_takeLaw_c1 7 rfl) F7_1 ?_
          refine r_iload_n (dcx dX7_takeLaw_c1 8 rfl) 0 rfl ?_
          refine s_callV (as := [.int (σ.1 3 (Int32.toNatClampNeg (σ.1 7 3)))]) (st := []) zX3_hearBehindUnit kX7_takeLaw_221 (dcx dX7_takeLaw_c1 9 rfl) rfl rfl (Nat.le_of_ble_eq_true rfl) O8 rfl rfl (C2.mono hyp ?_)
          rintro _ s1_ ⟨r2_, rfl, hyp⟩
          show G2 Γ l mX7_takeLaw 105 [(3, .int (σ.1 3 (Int32.toNatClampNeg (σ.1 7 3)))), (0, .ref 7), (2, .int x2)] [.int r2_] s1_ K
          refine r_istore (lv1 := [(4, .int r2_), (3, .int (σ.1 3 (Int32.toNatClampNeg (σ.1 7 3)))), (0, .ref 7), (2, .int x2)]) (dcx dX7_takeLaw_c1 10 rfl) (Nat.le_of_ble_eq_true rfl) rfl ?_
          refine r_iload (dcx dX7_takeLaw_c1 11 rfl) 0 rfl ?_
          refine r_if_ne (tgt := 120) (dcx dX7_takeLaw_c1 12 rfl) (by decide) (fun q_ => ?_) (fun q_ => ?_)
          · have hyp := hyp.1 q_
            refine r_aload_n (dcx dX7_takeLaw_c1 17 rfl) 2 rfl ?_
            refine r_iload (dcx dX7_takeLaw_c1 18 rfl) 0 rfl ?_
            refine s_callV (as := [.int r2_]) (st := []) zX7_refuse kX7_takeLaw_88 (dcx dX7_takeLaw_c1 19 rfl) rfl rfl (Nat.le_of_ble_eq_true rfl) O7 rfl rfl (C2.mono hyp ?_)
            rintro _ s3_ ⟨rfl, hyp⟩
            show G2 Γ l mX7_takeLaw 126 [(4, .int r2_), (3, .int (σ.1 3 (Int32.toNatClampNeg (σ.1 7 3)))), (0, .ref 7), (2, .int x2)] [] s3_ K
            refine r_iinc (lv1 := [(2, .int (x2 + 1)), (4, .int r2_), (3, .int (σ.1 3 (Int32.toNatClampNeg (σ.1 7 3)))), (0, .ref 7)]) (dcx dX7_takeLaw_c1 20 rfl) 3 rfl (Nat.le_of_ble_eq_true rfl) rfl ?_
            refine r_goto (tgt := 27) (dcx dX7_takeLaw_c1 21 rfl) (by decide) ?_
            refine r_loc (lv1 := [(0, .ref 7), (2, .int (x2 + 1))]) [3, 0] rfl ?_
            exact hyp
          · have hyp := hyp.2 q_
            refine r_aload_n (dcx dX7_takeLaw_c1 13 rfl) 2 rfl ?_
            refine s_callV (as := []) (st := []) zX7_pass kX7_takeLaw_98 (dcx dX7_takeLaw_c1 14 rfl) rfl rfl (Nat.le_of_ble_eq_true rfl) O7 rfl rfl (C2.mono hyp ?_)
            rintro _ s5_ ⟨r6_, rfl, hyp⟩
            show G2 Γ l mX7_takeLaw 116 [(4, .int r2_), (3, .int (σ.1 3 (Int32.toNatClampNeg (σ.1 7 3)))), (0, .ref 7), (2, .int x2)] [.int r6_] s5_ K
            refine r_pop (dcx dX7_takeLaw_c1 15 rfl) rfl ?_
            refine r_goto (tgt := 126) (dcx dX7_takeLaw_c1 16 rfl) (by decide) ?_
            refine r_iinc (lv1 := [(2, .int (x2 + 1)), (4, .int r2_), (3, .int (σ.1 3 (Int32.toNatClampNeg (σ.1 7 3)))), (0, .ref 7)]) (dcx dX7_takeLaw_c1 20 rfl) 3 rfl (Nat.le_of_ble_eq_true rfl) rfl ?_
            refine r_goto (tgt := 27) (dcx dX7_takeLaw_c1 21 rfl) (by decide) ?_
            refine r_loc (lv1 := [(0, .ref 7), (2, .int (x2 + 1))]) [3, 0] rfl ?_
            exact hyp
        · have hyp := hyp.2 q_
          refine r_aload_n (dcx dX7_takeLaw_c0 35 rfl) 1 rfl ?_
          refine s_getr (b := 8) fX7_12 (dcx dX7_takeLaw_c0 36 rfl) F7_1 ?_
          refine r_iload_n (dcx dX7_takeLaw_c0 37 rfl) 0 rfl ?_
          refine r_aload_n (dcx dX7_takeLaw_c0 38 rfl) 1 rfl ?_
          refine s_getr (b := 1) fX7_18 (dcx dX7_takeLaw_c0 39 rfl) F7_0 ?_
          refine s_getr (b := 5) fX7_102 (dcx dX7_takeLaw_c1 0 rfl) F1_4 ?_
          refine r_aload_n (dcx dX7_takeLaw_c1 1 rfl) 1 rfl ?_
          refine s_geti fX7_44 (dcx dX7_takeLaw_c1 2 rfl) F7_3 ?_
          obtain ⟨hb_, hyp⟩ := hyp
          refine s_iald (dcx dX7_takeLaw_c1 3 rfl) A5 hb_ ?_
          refine s_callV (as := [.int (σ.1 3 (Int32.toNatClampNeg (σ.1 7 3))), .int (σ.1 5 (Int32.toNatClampNeg (σ.1 7 3)))]) (st := []) zX3_hearUnit kX7_takeLaw_218 (dcx dX7_takeLaw_c1 4 rfl) rfl rfl (Nat.le_of_ble_eq_true rfl) O8 rfl rfl (C2.mono hyp ?_)
          rintro _ s7_ ⟨r8_, rfl, hyp⟩
          show G2 Γ l mX7_takeLaw 94 [(3, .int (σ.1 3 (Int32.toNatClampNeg (σ.1 7 3)))), (0, .ref 7), (2, .int x2)] [.int r8_] s7_ K
          refine r_goto (tgt := 105) (dcx dX7_takeLaw_c1 5 rfl) (by decide) ?_
          refine r_istore (lv1 := [(4, .int r8_), (3, .int (σ.1 3 (Int32.toNatClampNeg (σ.1 7 3)))), (0, .ref 7), (2, .int x2)]) (dcx dX7_takeLaw_c1 10 rfl) (Nat.le_of_ble_eq_true rfl) rfl ?_
          refine r_iload (dcx dX7_takeLaw_c1 11 rfl) 0 rfl ?_
          refine r_if_ne (tgt := 120) (dcx dX7_takeLaw_c1 12 rfl) (by decide) (fun q_ => ?_) (fun q_ => ?_)
          · have hyp := hyp.1 q_
            refine r_aload_n (dcx dX7_takeLaw_c1 17 rfl) 2 rfl ?_
            refine r_iload (dcx dX7_takeLaw_c1 18 rfl) 0 rfl ?_
            refine s_callV (as := [.int r8_]) (st := []) zX7_refuse kX7_takeLaw_88 (dcx dX7_takeLaw_c1 19 rfl) rfl rfl (Nat.le_of_ble_eq_true rfl) O7 rfl rfl (C2.mono hyp ?_)
            rintro _ s9_ ⟨rfl, hyp⟩
            show G2 Γ l mX7_takeLaw 126 [(4, .int r8_), (3, .int (σ.1 3 (Int32.toNatClampNeg (σ.1 7 3)))), (0, .ref 7), (2, .int x2)] [] s9_ K
            refine r_iinc (lv1 := [(2, .int (x2 + 1)), (4, .int r8_), (3, .int (σ.1 3 (Int32.toNatClampNeg (σ.1 7 3)))), (0, .ref 7)]) (dcx dX7_takeLaw_c1 20 rfl) 3 rfl (Nat.le_of_ble_eq_true rfl) rfl ?_
            refine r_goto (tgt := 27) (dcx dX7_takeLaw_c1 21 rfl) (by decide) ?_
            refine r_loc (lv1 := [(0, .ref 7), (2, .int (x2 + 1))]) [3, 0] rfl ?_
            exact hyp
          · have hyp := hyp.2 q_
            refine r_aload_n (dcx dX7_takeLaw_c1 13 rfl) 2 rfl ?_
            refine s_callV (as := []) (st := []) zX7_pass kX7_takeLaw_98 (dcx dX7_takeLaw_c1 14 rfl) rfl rfl (Nat.le_of_ble_eq_true rfl) O7 rfl rfl (C2.mono hyp ?_)
            rintro _ s11_ ⟨r12_, rfl, hyp⟩
            show G2 Γ l mX7_takeLaw 116 [(4, .int r8_), (3, .int (σ.1 3 (Int32.toNatClampNeg (σ.1 7 3)))), (0, .ref 7), (2, .int x2)] [.int r12_] s11_ K
            refine r_pop (dcx dX7_takeLaw_c1 15 rfl) rfl ?_
            refine r_goto (tgt := 126) (dcx dX7_takeLaw_c1 16 rfl) (by decide) ?_
            refine r_iinc (lv1 := [(2, .int (x2 + 1)), (4, .int r8_), (3, .int (σ.1 3 (Int32.toNatClampNeg (σ.1 7 3)))), (0, .ref 7)]) (dcx dX7_takeLaw_c1 20 rfl) 3 rfl (Nat.le_of_ble_eq_true rfl) rfl ?_
            refine r_goto (tgt := 27) (dcx dX7_takeLaw_c1 21 rfl) (by decide) ?_
            refine r_loc (lv1 := [(0, .ref 7), (2, .int (x2 + 1))]) [3, 0] rfl ?_
            exact hyp
def wX8_addFour_3 (Γ : GE) (l : Launch) (x1 : Int32) (x2 : Int32) (σ : SS) (K : Option Value → SS → Prop) : Prop := G2 Γ l mX8_addFour 3 [(0, .ref 1), (1, .int x1), (2, .int x2)] [] σ K
set_option maxHeartbeats 4000000 in
set_option maxRecDepth 20000 in
theorem tX8_addFour {Γ : GE} {l : Launch} {x1 : Int32} {σ : SS} {K : Option Value → SS → Prop}  (hyp : wX8_addFour_3 Γ l x1 24 σ K) : C2 Γ l mX8_addFour [.ref 1, .int x1] σ K := by
  refine c2_of (lv := [(0, .ref 1), (1, .int x1)]) (by decide) (Nat.le_of_ble_eq_true rfl) rfl ?_
  refine r_bipush (v := 24) (dcx dX8_addFour_c0 0 rfl) rfl ?_
  refine r_istore_n (lv1 := [(2, .int 24), (0, .ref 1), (1, .int x1)]) (dcx dX8_addFour_c0 1 rfl) (Nat.le_of_ble_eq_true rfl) rfl ?_
  refine r_loc (lv1 := [(0, .ref 1), (1, .int x1), (2, .int 24)]) [1, 2, 0] rfl ?_
  exact hyp
set_option maxHeartbeats 4000000 in
set_option maxRecDepth 20000 in
theorem tX8_addFour_3 {Γ : GE} {l : Launch} {x1 : Int32} {x2 : Int32} {σ : SS} {K : Option Value → SS → Prop}  (hyp : (x2 < 0 → (K none σ)) ∧ (¬ (x2 < 0) → (((2000 : Int32) ≤ (σ.1 1 1) → (wX8_addFour_3 Γ l x1 (x2 + (-8)) σ K)) ∧ (¬ ((2000 : Int32) ≤ (σ.1 1 1)) → (vp_in (σ.1 1 1) 2000 ∧ (∀ s1_ : SS, s1_ = sI σ 2 (Int32.toNatClampNeg (σ.1 1 1)) (((Int32.toUInt32 x1 >>> (Int32.toUInt32 x2 &&& Int32.toUInt32 31)).toInt32) &&& 255) → (∀ s2_ : SS, s2_ = sI s1_ 1 1 ((s1_.1 1 1) + 1) → (wX8_addFour_3 Γ l x1 (x2 + (-8)) s2_ K)))))))) : wX8_addFour_3 Γ l x1 x2 σ K := by
  show G2 Γ l mX8_addFour 3 [(0, .ref 1), (1, .int x1), (2, .int x2)] [] σ K
  refine r_iload_n (dcx dX8_addFour_c0 2 rfl) 2 rfl ?_
  refine r_if_lt (tgt := 49) (dcx dX8_addFour_c0 3 rfl) (by decide) (fun q_ => ?_) (fun q_ => ?_)
  · have hyp := hyp.1 q_
    exact s_vret rfl hyp (dcx dX8_addFour_c0 26 rfl)
  · have hyp := hyp.2 q_
    refine r_aload_n (dcx dX8_addFour_c0 4 rfl) 0 rfl ?_
    refine s_geti fX8_28 (dcx dX8_addFour_c0 5 rfl) F1_1 ?_
    refine r_sipush (v := 2000) (dcx dX8_addFour_c0 6 rfl) rfl ?_
    refine r_icmp_ge (tgt := 43) (dcx dX8_addFour_c0 7 rfl) (by decide) (fun q_ => ?_) (fun q_ => ?_)
    · have hyp := hyp.1 q_
      refine r_iinc (lv1 := [(2, .int (x2 + (-8))), (0, .ref 1), (1, .int x1)]) (dcx dX8_addFour_c0 24 rfl) 2 rfl (Nat.le_of_ble_eq_true rfl) rfl ?_
      refine r_goto (tgt := 3) (dcx dX8_addFour_c0 25 rfl) (by decide) ?_
      refine r_loc (lv1 := [(0, .ref 1), (1, .int x1), (2, .int (x2 + (-8)))]) [1, 2, 0] rfl ?_
      exact hyp
    · have hyp := hyp.2 q_
      refine r_aload_n (dcx dX8_addFour_c0 8 rfl) 0 rfl ?_
      refine s_getr (b := 2) fX8_9 (dcx dX8_addFour_c0 9 rfl) F1_0 ?_
      refine r_aload_n (dcx dX8_addFour_c0 10 rfl) 0 rfl ?_
      refine s_geti fX8_28 (dcx dX8_addFour_c0 11 rfl) F1_1 ?_
      refine r_iload_n (dcx dX8_addFour_c0 12 rfl) 1 rfl ?_
      refine r_iload_n (dcx dX8_addFour_c0 13 rfl) 2 rfl ?_
      refine r_iushr (dcx dX8_addFour_c0 14 rfl) ?_
      refine r_sipush (v := 255) (dcx dX8_addFour_c0 15 rfl) rfl ?_
      refine r_iand (dcx dX8_addFour_c0 16 rfl) ?_
      obtain ⟨hb_, hyp⟩ := hyp
      refine s_iast (dcx dX8_addFour_c0 17 rfl) A2 hb_ ?_
      obtain ⟨s1_, es1_⟩ : ∃ z : SS, z = sI σ 2 (Int32.toNatClampNeg (σ.1 1 1)) (((Int32.toUInt32 x1 >>> (Int32.toUInt32 x2 &&& Int32.toUInt32 31)).toInt32) &&& 255) := ⟨_, rfl⟩
      rw [← es1_]
      have hyp := hyp s1_ es1_
      refine r_aload_n (dcx dX8_addFour_c0 18 rfl) 0 rfl ?_
      refine r_dup (dcx dX8_addFour_c0 19 rfl) rfl ?_
      refine s_geti fX8_28 (dcx dX8_addFour_c0 20 rfl) F1_1 ?_
      refine r_iconst (v := 1) (dcx dX8_addFour_c0 21 rfl) rfl ?_
      refine r_iadd (dcx dX8_addFour_c0 22 rfl) ?_
      refine s_puti gX8_28 (dcx dX8_addFour_c0 23 rfl) F1_1 ?_
      obtain ⟨s2_, es2_⟩ : ∃ z : SS, z = sI s1_ 1 1 ((s1_.1 1 1) + 1) := ⟨_, rfl⟩
      rw [← es2_]
      have hyp := hyp s2_ es2_
      refine r_iinc (lv1 := [(2, .int (x2 + (-8))), (0, .ref 1), (1, .int x1)]) (dcx dX8_addFour_c0 24 rfl) 2 rfl (Nat.le_of_ble_eq_true rfl) rfl ?_
      refine r_goto (tgt := 3) (dcx dX8_addFour_c0 25 rfl) (by decide) ?_
      refine r_loc (lv1 := [(0, .ref 1), (1, .int x1), (2, .int (x2 + (-8)))]) [1, 2, 0] rfl ?_
      exact hyp
def wX8_findAll_12 (Γ : GE) (l : Launch) (x1 : Int32) (σ : SS) (K : Option Value → SS → Prop) : Prop := G2 Γ l mX8_findAll 12 [(0, .ref 1), (1, .int x1)] [] σ K
set_option maxHeartbeats 4000000 in
set_option maxRecDepth 20000 in
theorem tX8_findAll {Γ : GE} {l : Launch}  {σ : SS} {K : Option Value → SS → Prop}  (hyp : ∀ s1_ : SS, s1_ = sI σ 1 6 0 → (∀ s2_ : SS, s2_ = sI s1_ 1 7 2 → (wX8_findAll_12 Γ l 0 s2_ K))) : C2 Γ l mX8_findAll [.ref 1] σ K := by
  refine c2_of (lv := [(0, .ref 1)]) (by decide) (Nat.le_of_ble_eq_true rfl) rfl ?_
  refine r_aload_n (dcx dX8_findAll_c0 0 rfl) 0 rfl ?_
  refine r_iconst (v := 0) (dcx dX8_findAll_c0 1 rfl) rfl ?_
  refine s_puti gX8_32 (dcx dX8_findAll_c0 2 rfl) F1_6 ?_
  obtain ⟨s1_, es1_⟩ : ∃ z : SS, z = sI σ 1 6 0 := ⟨_, rfl⟩
  rw [← es1_]
  have hyp := hyp s1_ es1_
  refine r_aload_n (dcx dX8_findAll_c0 3 rfl) 0 rfl ?_
  refine r_iconst (v := 2) (dcx dX8_findAll_c0 4 rfl) rfl ?_
  refine s_puti gX8_35 (dcx dX8_findAll_c0 5 rfl) F1_7 ?_
  obtain ⟨s2_, es2_⟩ : ∃ z : SS, z = sI s1_ 1 7 2 := ⟨_, rfl⟩
  rw [← es2_]
  have hyp := hyp s2_ es2_
  refine r_iconst (v := 0) (dcx dX8_findAll_c0 6 rfl) rfl ?_
  refine r_istore_n (lv1 := [(1, .int 0), (0, .ref 1)]) (dcx dX8_findAll_c0 7 rfl) (Nat.le_of_ble_eq_true rfl) rfl ?_
  refine r_loc (lv1 := [(0, .ref 1), (1, .int 0)]) [1, 0] rfl ?_
  exact hyp
set_option maxHeartbeats 4000000 in
set_option maxRecDepth 20000 in
theorem tX8_findAll_12 {Γ : GE} {l : Launch} {x1 : Int32} {σ : SS} {K : Option Value → SS → Prop}  (hyp : ((Int32.ofNat 402) ≤ x1 → (K none σ)) ∧ (¬ ((Int32.ofNat 402) ≤ x1) → (((σ.1 1 7) = 0 → (vp_in x1 402 ∧ (∀ s1_ : SS, s1_ = sI σ 3 (Int32.toNatClampNeg x1) (σ.1 1 7) → (vp_in x1 402 ∧ (∀ s2_ : SS, s2_ = sI s1_ 4 (Int32.toNatClampNeg x1) (s1_.1 1 8) → (vp_in x1 402 ∧ (∀ s3_ : SS, s3_ = sI s2_ 5 (Int32.toNatClampNeg x1) (s2_.1 1 9) → (vp_in x1 402 ∧ (∀ s4_ : SS, s4_ = sJ s3_ 6 (Int32.toNatClampNeg x1) (s3_.2.1 1 10) → (wX8_findAll_12 Γ l (x1 + 1) s4_ K)))))))))) ∧ (¬ ((σ.1 1 7) = 0) → (((σ.1 1 7) = 1 → (vp_in x1 402 ∧ (∀ s5_ : SS, s5_ = sI σ 3 (Int32.toNatClampNeg x1) (σ.1 1 7) → (vp_in x1 402 ∧ (∀ s6_ : SS, s6_ = sI s5_ 4 (Int32.toNatClampNeg x1) (s5_.1 1 8) → (vp_in x1 402 ∧ (∀ s7_ : SS, s7_ = sI s6_ 5 (Int32.toNatClampNeg x1) (s6_.1 1 9) → (vp_in x1 402 ∧ (∀ s8_ : SS, s8_ = sJ s7_ 6 (Int32.toNatClampNeg x1) (s7_.2.1 1 10) → (wX8_findAll_12 Γ l (x1 + 1) s8_ K)))))))))) ∧ (¬ ((σ.1 1 7) = 1) → (C2 Γ l mX8_findNext [.ref 1] σ (Rv fun s9_ => (vp_in x1 402 ∧ (∀ s11_ : SS, s11_ = sI s9_ 3 (Int32.toNatClampNeg x1) (s9_.1 1 7) → (vp_in x1 402 ∧ (∀ s12_ : SS, s12_ = sI s11_ 4 (Int32.toNatClampNeg x1) (s11_.1 1 8) → (vp_in x1 402 ∧ (∀ s13_ : SS, s13_ = sI s12_ 5 (Int32.toNatClampNeg x1) (s12_.1 1 9) → (vp_in x1 402 ∧ (∀ s14_ : SS, s14_ = sJ s13_ 6 (Int32.toNatClampNeg x1) (s13_.2.1 1 10) → (wX8_findAll_12 Γ l (x1 + 1) s14_ K))))))))))))))))) : wX8_findAll_12 Γ l x1 σ K := by
  show G2 Γ l mX8_findAll 12 [(0, .ref 1), (1, .int x1)] [] σ K
  refine r_iload_n (dcx dX8_findAll_c0 8 rfl) 1 rfl ?_
  refine r_aload_n (dcx dX8_findAll_c0 9 rfl) 0 rfl ?_
  refine s_getr (b := 3) fX8_15 (dcx dX8_findAll_c0 10 rfl) F1_2 ?_
  refine s_alen (dcx dX8_findAll_c0 11 rfl) A3 ?_
  refine r_icmp_ge (tgt := 86) (dcx dX8_findAll_c0 12 rfl) (by decide) (fun q_ => ?_) (fun q_ => ?_)
  · have hyp := hyp.1 q_
    exact s_vret rfl hyp (dcx dX8_findAll_c1 8 rfl)
  · have hyp := hyp.2 q_
    refine r_aload_n (dcx dX8_findAll_c0 13 rfl) 0 rfl ?_
    refine s_geti fX8_35 (dcx dX8_findAll_c0 14 rfl) F1_7 ?_
    refine r_if_eq (tgt := 40) (dcx dX8_findAll_c0 15 rfl) (by decide) (fun q_ => ?_) (fun q_ => ?_)
    · have hyp := hyp.1 q_
      refine r_aload_n (dcx dX8_findAll_c0 22 rfl) 0 rfl ?_
      refine s_getr (b := 3) fX8_15 (dcx dX8_findAll_c0 23 rfl) F1_2 ?_
      refine r_iload_n (dcx dX8_findAll_c0 24 rfl) 1 rfl ?_
      refine r_aload_n (dcx dX8_findAll_c0 25 rfl) 0 rfl ?_
      refine s_geti fX8_35 (dcx dX8_findAll_c0 26 rfl) F1_7 ?_
      obtain ⟨hb_, hyp⟩ := hyp
      refine s_iast (dcx dX8_findAll_c0 27 rfl) A3 hb_ ?_
      obtain ⟨s1_, es1_⟩ : ∃ z : SS, z = sI σ 3 (Int32.toNatClampNeg x1) (σ.1 1 7) := ⟨_, rfl⟩
      rw [← es1_]
      have hyp := hyp s1_ es1_
      refine r_aload_n (dcx dX8_findAll_c0 28 rfl) 0 rfl ?_
      refine s_getr (b := 4) fX8_18 (dcx dX8_findAll_c0 29 rfl) F1_3 ?_
      refine r_iload_n (dcx dX8_findAll_c0 30 rfl) 1 rfl ?_
      refine r_aload_n (dcx dX8_findAll_c0 31 rfl) 0 rfl ?_
      refine s_geti fX8_41 (dcx dX8_findAll_c0 32 rfl) F1_8 ?_
      obtain ⟨hb_, hyp⟩ := hyp
      refine s_iast (dcx dX8_findAll_c0 33 rfl) A4 hb_ ?_
      obtain ⟨s2_, es2_⟩ : ∃ z : SS, z = sI s1_ 4 (Int32.toNatClampNeg x1) (s1_.1 1 8) := ⟨_, rfl⟩
      rw [← es2_]
      have hyp := hyp s2_ es2_
      refine r_aload_n (dcx dX8_findAll_c0 34 rfl) 0 rfl ?_
      refine s_getr (b := 5) fX8_21 (dcx dX8_findAll_c0 35 rfl) F1_4 ?_
      refine r_iload_n (dcx dX8_findAll_c0 36 rfl) 1 rfl ?_
      refine r_aload_n (dcx dX8_findAll_c0 37 rfl) 0 rfl ?_
      refine s_geti fX8_44 (dcx dX8_findAll_c0 38 rfl) F1_9 ?_
      obtain ⟨hb_, hyp⟩ := hyp
      refine s_iast (dcx dX8_findAll_c0 39 rfl) A5 hb_ ?_
      obtain ⟨s3_, es3_⟩ : ∃ z : SS, z = sI s2_ 5 (Int32.toNatClampNeg x1) (s2_.1 1 9) := ⟨_, rfl⟩
      rw [← es3_]
      have hyp := hyp s3_ es3_
      refine r_aload_n (dcx dX8_findAll_c1 0 rfl) 0 rfl ?_
      refine s_getr (b := 6) fX8_24 (dcx dX8_findAll_c1 1 rfl) F1_5 ?_
      refine r_iload_n (dcx dX8_findAll_c1 2 rfl) 1 rfl ?_
      refine r_aload_n (dcx dX8_findAll_c1 3 rfl) 0 rfl ?_
      refine s_getj fX8_47 (dcx dX8_findAll_c1 4 rfl) F1_10 ?_
      obtain ⟨hb_, hyp⟩ := hyp
      refine s_last (dcx dX8_findAll_c1 5 rfl) A6 hb_ ?_
      obtain ⟨s4_, es4_⟩ : ∃ z : SS, z = sJ s3_ 6 (Int32.toNatClampNeg x1) (s3_.2.1 1 10) := ⟨_, rfl⟩
      rw [← es4_]
      have hyp := hyp s4_ es4_
      refine r_iinc (lv1 := [(1, .int (x1 + 1)), (0, .ref 1)]) (dcx dX8_findAll_c1 6 rfl) 1 rfl (Nat.le_of_ble_eq_true rfl) rfl ?_
      refine r_goto (tgt := 12) (dcx dX8_findAll_c1 7 rfl) (by decide) ?_
      refine r_loc (lv1 := [(0, .ref 1), (1, .int (x1 + 1))]) [1, 0] rfl ?_
      exact hyp
    · have hyp := hyp.2 q_
      refine r_aload_n (dcx dX8_findAll_c0 16 rfl) 0 rfl ?_
      refine s_geti fX8_35 (dcx dX8_findAll_c0 17 rfl) F1_7 ?_
      refine r_iconst (v := 1) (dcx dX8_findAll_c0 18 rfl) rfl ?_
      refine r_icmp_eq (tgt := 40) (dcx dX8_findAll_c0 19 rfl) (by decide) (fun q_ => ?_) (fun q_ => ?_)
      · have hyp := hyp.1 q_
        refine r_aload_n (dcx dX8_findAll_c0 22 rfl) 0 rfl ?_
        refine s_getr (b := 3) fX8_15 (dcx dX8_findAll_c0 23 rfl) F1_2 ?_
        refine r_iload_n (dcx dX8_findAll_c0 24 rfl) 1 rfl ?_
        refine r_aload_n (dcx dX8_findAll_c0 25 rfl) 0 rfl ?_
        refine s_geti fX8_35 (dcx dX8_findAll_c0 26 rfl) F1_7 ?_
        obtain ⟨hb_, hyp⟩ := hyp
        refine s_iast (dcx dX8_findAll_c0 27 rfl) A3 hb_ ?_
        obtain ⟨s5_, es5_⟩ : ∃ z : SS, z = sI σ 3 (Int32.toNatClampNeg x1) (σ.1 1 7) := ⟨_, rfl⟩
        rw [← es5_]
        have hyp := hyp s5_ es5_
        refine r_aload_n (dcx dX8_findAll_c0 28 rfl) 0 rfl ?_
        refine s_getr (b := 4) fX8_18 (dcx dX8_findAll_c0 29 rfl) F1_3 ?_
        refine r_iload_n (dcx dX8_findAll_c0 30 rfl) 1 rfl ?_
        refine r_aload_n (dcx dX8_findAll_c0 31 rfl) 0 rfl ?_
        refine s_geti fX8_41 (dcx dX8_findAll_c0 32 rfl) F1_8 ?_
        obtain ⟨hb_, hyp⟩ := hyp
        refine s_iast (dcx dX8_findAll_c0 33 rfl) A4 hb_ ?_
        obtain ⟨s6_, es6_⟩ : ∃ z : SS, z = sI s5_ 4 (Int32.toNatClampNeg x1) (s5_.1 1 8) := ⟨_, rfl⟩
        rw [← es6_]
        have hyp := hyp s6_ es6_
        refine r_aload_n (dcx dX8_findAll_c0 34 rfl) 0 rfl ?_
        refine s_getr (b := 5) fX8_21 (dcx dX8_findAll_c0 35 rfl) F1_4 ?_
        refine r_iload_n (dcx dX8_findAll_c0 36 rfl) 1 rfl ?_
        refine r_aload_n (dcx dX8_findAll_c0 37 rfl) 0 rfl ?_
        refine s_geti fX8_44 (dcx dX8_findAll_c0 38 rfl) F1_9 ?_
        obtain ⟨hb_, hyp⟩ := hyp
        refine s_iast (dcx dX8_findAll_c0 39 rfl) A5 hb_ ?_
        obtain ⟨s7_, es7_⟩ : ∃ z : SS, z = sI s6_ 5 (Int32.toNatClampNeg x1) (s6_.1 1 9) := ⟨_, rfl⟩
        rw [← es7_]
        have hyp := hyp s7_ es7_
        refine r_aload_n (dcx dX8_findAll_c1 0 rfl) 0 rfl ?_
        refine s_getr (b := 6) fX8_24 (dcx dX8_findAll_c1 1 rfl) F1_5 ?_
        refine r_iload_n (dcx dX8_findAll_c1 2 rfl) 1 rfl ?_
        refine r_aload_n (dcx dX8_findAll_c1 3 rfl) 0 rfl ?_
        refine s_getj fX8_47 (dcx dX8_findAll_c1 4 rfl) F1_10 ?_
        obtain ⟨hb_, hyp⟩ := hyp
        refine s_last (dcx dX8_findAll_c1 5 rfl) A6 hb_ ?_
        obtain ⟨s8_, es8_⟩ : ∃ z : SS, z = sJ s7_ 6 (Int32.toNatClampNeg x1) (s7_.2.1 1 10) := ⟨_, rfl⟩
        rw [← es8_]
        have hyp := hyp s8_ es8_
        refine r_iinc (lv1 := [(1, .int (x1 + 1)), (0, .ref 1)]) (dcx dX8_findAll_c1 6 rfl) 1 rfl (Nat.le_of_ble_eq_true rfl) rfl ?_
        refine r_goto (tgt := 12) (dcx dX8_findAll_c1 7 rfl) (by decide) ?_
        refine r_loc (lv1 := [(0, .ref 1), (1, .int (x1 + 1))]) [1, 0] rfl ?_
        exact hyp
      · have hyp := hyp.2 q_
        refine r_aload_n (dcx dX8_findAll_c0 20 rfl) 0 rfl ?_
        refine s_callV (as := []) (st := []) zX8_findNext kX8_findAll_38 (dcx dX8_findAll_c0 21 rfl) rfl rfl (Nat.le_of_ble_eq_true rfl) O1 rfl rfl (C2.mono hyp ?_)
        rintro _ s9_ ⟨rfl, hyp⟩
        show G2 Γ l mX8_findAll 40 [(0, .ref 1), (1, .int x1)] [] s9_ K
        refine r_aload_n (dcx dX8_findAll_c0 22 rfl) 0 rfl ?_
        refine s_getr (b := 3) fX8_15 (dcx dX8_findAll_c0 23 rfl) F1_2 ?_
        refine r_iload_n (dcx dX8_findAll_c0 24 rfl) 1 rfl ?_
        refine r_aload_n (dcx dX8_findAll_c0 25 rfl) 0 rfl ?_
        refine s_geti fX8_35 (dcx dX8_findAll_c0 26 rfl) F1_7 ?_
        obtain ⟨hb_, hyp⟩ := hyp
        refine s_iast (dcx dX8_findAll_c0 27 rfl) A3 hb_ ?_
        obtain ⟨s11_, es11_⟩ : ∃ z : SS, z = sI s9_ 3 (Int32.toNatClampNeg x1) (s9_.1 1 7) := ⟨_, rfl⟩
        rw [← es11_]
        have hyp := hyp s11_ es11_
        refine r_aload_n (dcx dX8_findAll_c0 28 rfl) 0 rfl ?_
        refine s_getr (b := 4) fX8_18 (dcx dX8_findAll_c0 29 rfl) F1_3 ?_
        refine r_iload_n (dcx dX8_findAll_c0 30 rfl) 1 rfl ?_
        refine r_aload_n (dcx dX8_findAll_c0 31 rfl) 0 rfl ?_
        refine s_geti fX8_41 (dcx dX8_findAll_c0 32 rfl) F1_8 ?_
        obtain ⟨hb_, hyp⟩ := hyp
        refine s_iast (dcx dX8_findAll_c0 33 rfl) A4 hb_ ?_
        obtain ⟨s12_, es12_⟩ : ∃ z : SS, z = sI s11_ 4 (Int32.toNatClampNeg x1) (s11_.1 1 8) := ⟨_, rfl⟩
        rw [← es12_]
        have hyp := hyp s12_ es12_
        refine r_aload_n (dcx dX8_findAll_c0 34 rfl) 0 rfl ?_
        refine s_getr (b := 5) fX8_21 (dcx dX8_findAll_c0 35 rfl) F1_4 ?_
        refine r_iload_n (dcx dX8_findAll_c0 36 rfl) 1 rfl ?_
        refine r_aload_n (dcx dX8_findAll_c0 37 rfl) 0 rfl ?_
        refine s_geti fX8_44 (dcx dX8_findAll_c0 38 rfl) F1_9 ?_
        obtain ⟨hb_, hyp⟩ := hyp
        refine s_iast (dcx dX8_findAll_c0 39 rfl) A5 hb_ ?_
        obtain ⟨s13_, es13_⟩ : ∃ z : SS, z = sI s12_ 5 (Int32.toNatClampNeg x1) (s12_.1 1 9) := ⟨_, rfl⟩
        rw [← es13_]
        have hyp := hyp s13_ es13_
        refine r_aload_n (dcx dX8_findAll_c1 0 rfl) 0 rfl ?_
        refine s_getr (b := 6) fX8_24 (dcx dX8_findAll_c1 1 rfl) F1_5 ?_
        refine r_iload_n (dcx dX8_findAll_c1 2 rfl) 1 rfl ?_
        refine r_aload_n (dcx dX8_findAll_c1 3 rfl) 0 rfl ?_
        refine s_getj fX8_47 (dcx dX8_findAll_c1 4 rfl) F1_10 ?_
        obtain ⟨hb_, hyp⟩ := hyp
        refine s_last (dcx dX8_findAll_c1 5 rfl) A6 hb_ ?_
        obtain ⟨s14_, es14_⟩ : ∃ z : SS, z = sJ s13_ 6 (Int32.toNatClampNeg x1) (s13_.2.1 1 10) := ⟨_, rfl⟩
        rw [← es14_]
        have hyp := hyp s14_ es14_
        refine r_iinc (lv1 := [(1, .int (x1 + 1)), (0, .ref 1)]) (dcx dX8_findAll_c1 6 rfl) 1 rfl (Nat.le_of_ble_eq_true rfl) rfl ?_
        refine r_goto (tgt := 12) (dcx dX8_findAll_c1 7 rfl) (by decide) ?_
        refine r_loc (lv1 := [(0, .ref 1), (1, .int (x1 + 1))]) [1, 0] rfl ?_
        exact hyp
def wX8_findNext_39 (Γ : GE) (l : Launch)  (σ : SS) (K : Option Value → SS → Prop) : Prop := G2 Γ l mX8_findNext 39 [(0, .ref 1)] [] σ K
def wX8_findNext_0 (Γ : GE) (l : Launch)  (σ : SS) (K : Option Value → SS → Prop) : Prop := G2 Γ l mX8_findNext 0 [(0, .ref 1)] [] σ K
set_option maxHeartbeats 4000000 in
set_option maxRecDepth 20000 in
theorem tX8_findNext {Γ : GE} {l : Launch}  {σ : SS} {K : Option Value → SS → Prop}  (hyp : ((σ.1 1 1) ≤ (σ.1 1 6) → (wX8_findNext_39 Γ l  σ K)) ∧ (¬ ((σ.1 1 1) ≤ (σ.1 1 6)) → (vp_in (σ.1 1 6) 2000 ∧ (C2 Γ l mX8_isBlank [.int (σ.1 2 (Int32.toNatClampNeg (σ.1 1 6)))] σ (Ri fun r2_ s1_ => ((r2_ = 0 → (wX8_findNext_39 Γ l  s1_ K)) ∧ (¬ (r2_ = 0) → (∀ s3_ : SS, s3_ = sI s1_ 1 6 ((s1_.1 1 6) + 1) → (wX8_findNext_0 Γ l  s3_ K))))))))) : C2 Γ l mX8_findNext [.ref 1] σ K := by
  refine c2_of (lv := [(0, .ref 1)]) (by decide) (Nat.le_of_ble_eq_true rfl) rfl ?_
  refine r_aload_n (dcx dX8_findNext_c0 0 rfl) 0 rfl ?_
  refine s_geti fX8_32 (dcx dX8_findNext_c0 1 rfl) F1_6 ?_
  refine r_aload_n (dcx dX8_findNext_c0 2 rfl) 0 rfl ?_
  refine s_geti fX8_28 (dcx dX8_findNext_c0 3 rfl) F1_1 ?_
  refine r_icmp_ge (tgt := 39) (dcx dX8_findNext_c0 4 rfl) (by decide) (fun q_ => ?_) (fun q_ => ?_)
  · have hyp := hyp.1 q_
    refine r_loc (lv1 := [(0, .ref 1)]) [0] rfl ?_
    exact hyp
  · have hyp := hyp.2 q_
    refine r_aload_n (dcx dX8_findNext_c0 5 rfl) 0 rfl ?_
    refine s_getr (b := 2) fX8_9 (dcx dX8_findNext_c0 6 rfl) F1_0 ?_
    refine r_aload_n (dcx dX8_findNext_c0 7 rfl) 0 rfl ?_
    refine s_geti fX8_32 (dcx dX8_findNext_c0 8 rfl) F1_6 ?_
    obtain ⟨hb_, hyp⟩ := hyp
    refine s_iald (dcx dX8_findNext_c0 9 rfl) A2 hb_ ?_
    refine s_callS (as := [.int (σ.1 2 (Int32.toNatClampNeg (σ.1 1 6)))]) (st := []) zX8_isBlank kX8_findNext_51 (dcx dX8_findNext_c0 10 rfl) rfl rfl (Nat.le_of_ble_eq_true rfl) (C2.mono hyp ?_)
    rintro _ s1_ ⟨r2_, rfl, hyp⟩
    show G2 Γ l mX8_findNext 23 [(0, .ref 1)] [.int r2_] s1_ K
    refine r_if_eq (tgt := 39) (dcx dX8_findNext_c0 11 rfl) (by decide) (fun q_ => ?_) (fun q_ => ?_)
    · have hyp := hyp.1 q_
      refine r_loc (lv1 := [(0, .ref 1)]) [0] rfl ?_
      exact hyp
    · have hyp := hyp.2 q_
      refine r_aload_n (dcx dX8_findNext_c0 12 rfl) 0 rfl ?_
      refine r_dup (dcx dX8_findNext_c0 13 rfl) rfl ?_
      refine s_geti fX8_32 (dcx dX8_findNext_c0 14 rfl) F1_6 ?_
      refine r_iconst (v := 1) (dcx dX8_findNext_c0 15 rfl) rfl ?_
      refine r_iadd (dcx dX8_findNext_c0 16 rfl) ?_
      refine s_puti gX8_32 (dcx dX8_findNext_c0 17 rfl) F1_6 ?_
      obtain ⟨s3_, es3_⟩ : ∃ z : SS, z = sI s1_ 1 6 ((s1_.1 1 6) + 1) := ⟨_, rfl⟩
      rw [← es3_]
      have hyp := hyp s3_ es3_
      refine r_goto (tgt := 0) (dcx dX8_findNext_c0 18 rfl) (by decide) ?_
      refine r_loc (lv1 := [(0, .ref 1)]) [0] rfl ?_
      exact hyp
set_option maxHeartbeats 4000000 in
set_option maxRecDepth 20000 in
theorem tX8_findNext_39 {Γ : GE} {l : Launch}  {σ : SS} {K : Option Value → SS → Prop}  (hyp : ∀ s1_ : SS, s1_ = sI σ 1 8 (σ.1 1 6) → (((s1_.1 1 6) < (s1_.1 1 1) → (vp_in (s1_.1 1 6) 2000 ∧ (C2 Γ l mX8_isLetter [.int (s1_.1 2 (Int32.toNatClampNeg (s1_.1 1 6)))] s1_ (Ri fun r3_ s2_ => ((r3_ = 0 → (C2 Γ l mX8_isDigit [.int (s1_.1 2 (Int32.toNatClampNeg (s1_.1 1 6)))] s2_ (Ri fun r5_ s4_ => ((r5_ = 0 → (C2 Γ l mJ0_indexOf_0f7a4 [.float 0, .int ((Int32.toUInt32 (s1_.1 2 (Int32.toNatClampNeg (s1_.1 1 6))) % 65536).toInt32)] s4_ (Ri fun r7_ s6_ => ((r7_ < 0 → (∀ s8_ : SS, s8_ = sI s6_ 1 7 1 → (∀ s9_ : SS, s9_ = sI s8_ 1 6 ((s8_.1 1 6) + 1) → (K none s9_)))) ∧ (¬ (r7_ < 0) → (∀ s10_ : SS, s10_ = sI s6_ 1 7 (s1_.1 2 (Int32.toNatClampNeg (s1_.1 1 6))) → (∀ s11_ : SS, s11_ = sI s10_ 1 6 ((s10_.1 1 6) + 1) → (K none s11_)))))))) ∧ (¬ (r5_ = 0) → (C2 Γ l mX8_takeDigits [.ref 1] s4_ (Rv fun s12_ => (K none s12_)))))))) ∧ (¬ (r3_ = 0) → (C2 Γ l mX8_takeLetters [.ref 1] s2_ (Rv fun s14_ => (K none s14_))))))))) ∧ (¬ ((s1_.1 1 6) < (s1_.1 1 1)) → (∀ s16_ : SS, s16_ = sI s1_ 1 7 0 → (K none s16_))))) : wX8_findNext_39 Γ l  σ K := by
  show G2 Γ l mX8_findNext 39 [(0, .ref 1)] [] σ K
  refine r_aload_n (dcx dX8_findNext_c0 19 rfl) 0 rfl ?_
  refine r_aload_n (dcx dX8_findNext_c0 20 rfl) 0 rfl ?_
  refine s_geti fX8_32 (dcx dX8_findNext_c0 21 rfl) F1_6 ?_
  refine s_puti gX8_41 (dcx dX8_findNext_c0 22 rfl) F1_8 ?_
  obtain ⟨s1_, es1_⟩ : ∃ z : SS, z = sI σ 1 8 (σ.1 1 6) := ⟨_, rfl⟩
  rw [← es1_]
  have hyp := hyp s1_ es1_
  refine r_aload_n (dcx dX8_findNext_c0 23 rfl) 0 rfl ?_
  refine s_geti fX8_32 (dcx dX8_findNext_c0 24 rfl) F1_6 ?_
  refine r_aload_n (dcx dX8_findNext_c0 25 rfl) 0 rfl ?_
  refine s_geti fX8_28 (dcx dX8_findNext_c0 26 rfl) F1_1 ?_
  refine r_icmp_lt (tgt := 64) (dcx dX8_findNext_c0 27 rfl) (by decide) (fun q_ => ?_) (fun q_ => ?_)
  · have hyp := hyp.1 q_
    refine r_aload_n (dcx dX8_findNext_c0 32 rfl) 0 rfl ?_
    refine s_getr (b := 2) fX8_9 (dcx dX8_findNext_c0 33 rfl) F1_0 ?_
    refine r_aload_n (dcx dX8_findNext_c0 34 rfl) 0 rfl ?_
    refine s_geti fX8_32 (dcx dX8_findNext_c0 35 rfl) F1_6 ?_
    obtain ⟨hb_, hyp⟩ := hyp
    refine s_iald (dcx dX8_findNext_c0 36 rfl) A2 hb_ ?_
    refine r_istore_n (lv1 := [(1, .int (s1_.1 2 (Int32.toNatClampNeg (s1_.1 1 6)))), (0, .ref 1)]) (dcx dX8_findNext_c0 37 rfl) (Nat.le_of_ble_eq_true rfl) rfl ?_
    refine r_iload_n (dcx dX8_findNext_c0 38 rfl) 0 rfl ?_
    refine s_callS (as := [.int (s1_.1 2 (Int32.toNatClampNeg (s1_.1 1 6)))]) (st := []) zX8_isLetter kX8_findNext_55 (dcx dX8_findNext_c0 39 rfl) rfl rfl (Nat.le_of_ble_eq_true rfl) (C2.mono hyp ?_)
    rintro _ s2_ ⟨r3_, rfl, hyp⟩
    show G2 Γ l mX8_findNext 78 [(1, .int (s1_.1 2 (Int32.toNatClampNeg (s1_.1 1 6)))), (0, .ref 1)] [.int r3_] s2_ K
    refine r_if_eq (tgt := 88) (dcx dX8_findNext_c1 0 rfl) (by decide) (fun q_ => ?_) (fun q_ => ?_)
    · have hyp := hyp.1 q_
      refine r_iload_n (dcx dX8_findNext_c1 4 rfl) 0 rfl ?_
      refine s_callS (as := [.int (s1_.1 2 (Int32.toNatClampNeg (s1_.1 1 6)))]) (st := []) zX8_isDigit kX8_findNext_61 (dcx dX8_findNext_c1 5 rfl) rfl rfl (Nat.le_of_ble_eq_true rfl) (C2.mono hyp ?_)
      rintro _ s4_ ⟨r5_, rfl, hyp⟩
      show G2 Γ l mX8_findNext 92 [(1, .int (s1_.1 2 (Int32.toNatClampNeg (s1_.1 1 6)))), (0, .ref 1)] [.int r5_] s4_ K
      refine r_if_eq (tgt := 102) (dcx dX8_findNext_c1 6 rfl) (by decide) (fun q_ => ?_) (fun q_ => ?_)
      · have hyp := hyp.1 q_
        refine r_aload_n (dcx dX8_findNext_c1 10 rfl) 1 rfl ?_
        refine r_ldcS0 rfl (dcx dX8_findNext_c1 11 rfl) ?_
        refine r_iload_n (dcx dX8_findNext_c1 12 rfl) 0 rfl ?_
        refine r_i2c (dcx dX8_findNext_c1 13 rfl) ?_
        refine s_callVS (x := 0) (as := [.int ((Int32.toUInt32 (s1_.1 2 (Int32.toNatClampNeg (s1_.1 1 6))) % 65536).toInt32)]) (st := [.ref 1]) (by decide) zJ0_indexOf_0f7a4 kX8_findNext_69 rfl (dcx dX8_findNext_c1 14 rfl) rfl rfl (Nat.le_of_ble_eq_true rfl) (C2.mono hyp ?_)
        rintro _ s6_ ⟨r7_, rfl, hyp⟩
        show G2 Γ l mX8_findNext 110 [(1, .int (s1_.1 2 (Int32.toNatClampNeg (s1_.1 1 6)))), (0, .ref 1)] [.int r7_, .ref 1] s6_ K
        refine r_if_lt (tgt := 117) (dcx dX8_findNext_c1 15 rfl) (by decide) (fun q_ => ?_) (fun q_ => ?_)
        · have hyp := hyp.1 q_
          refine r_iconst (v := 1) (dcx dX8_findNext_c1 18 rfl) rfl ?_
          refine s_puti gX8_35 (dcx dX8_findNext_c1 19 rfl) F1_7 ?_
          obtain ⟨s8_, es8_⟩ : ∃ z : SS, z = sI s6_ 1 7 1 := ⟨_, rfl⟩
          rw [← es8_]
          have hyp := hyp s8_ es8_
          refine r_aload_n (dcx dX8_findNext_c1 20 rfl) 1 rfl ?_
          refine r_dup (dcx dX8_findNext_c1 21 rfl) rfl ?_
          refine s_geti fX8_32 (dcx dX8_findNext_c1 22 rfl) F1_6 ?_
          refine r_iconst (v := 1) (dcx dX8_findNext_c1 23 rfl) rfl ?_
          refine r_iadd (dcx dX8_findNext_c1 24 rfl) ?_
          refine s_puti gX8_32 (dcx dX8_findNext_c1 25 rfl) F1_6 ?_
          obtain ⟨s9_, es9_⟩ : ∃ z : SS, z = sI s8_ 1 6 ((s8_.1 1 6) + 1) := ⟨_, rfl⟩
          rw [← es9_]
          have hyp := hyp s9_ es9_
          exact s_vret rfl hyp (dcx dX8_findNext_c1 26 rfl)
        · have hyp := hyp.2 q_
          refine r_iload_n (dcx dX8_findNext_c1 16 rfl) 0 rfl ?_
          refine r_goto (tgt := 118) (dcx dX8_findNext_c1 17 rfl) (by decide) ?_
          refine s_puti gX8_35 (dcx dX8_findNext_c1 19 rfl) F1_7 ?_
          obtain ⟨s10_, es10_⟩ : ∃ z : SS, z = sI s6_ 1 7 (s1_.1 2 (Int32.toNatClampNeg (s1_.1 1 6))) := ⟨_, rfl⟩
          rw [← es10_]
          have hyp := hyp s10_ es10_
          refine r_aload_n (dcx dX8_findNext_c1 20 rfl) 1 rfl ?_
          refine r_dup (dcx dX8_findNext_c1 21 rfl) rfl ?_
          refine s_geti fX8_32 (dcx dX8_findNext_c1 22 rfl) F1_6 ?_
          refine r_iconst (v := 1) (dcx dX8_findNext_c1 23 rfl) rfl ?_
          refine r_iadd (dcx dX8_findNext_c1 24 rfl) ?_
          refine s_puti gX8_32 (dcx dX8_findNext_c1 25 rfl) F1_6 ?_
          obtain ⟨s11_, es11_⟩ : ∃ z : SS, z = sI s10_ 1 6 ((s10_.1 1 6) + 1) := ⟨_, rfl⟩
          rw [← es11_]
          have hyp := hyp s11_ es11_
          exact s_vret rfl hyp (dcx dX8_findNext_c1 26 rfl)
      · have hyp := hyp.2 q_
        refine r_aload_n (dcx dX8_findNext_c1 7 rfl) 1 rfl ?_
        refine s_callV (as := []) (st := []) zX8_takeDigits kX8_findNext_64 (dcx dX8_findNext_c1 8 rfl) rfl rfl (Nat.le_of_ble_eq_true rfl) O1 rfl rfl (C2.mono hyp ?_)
        rintro _ s12_ ⟨rfl, hyp⟩
        show G2 Γ l mX8_findNext 99 [(1, .int (s1_.1 2 (Int32.toNatClampNeg (s1_.1 1 6)))), (0, .ref 1)] [] s12_ K
        refine r_goto (tgt := 131) (dcx dX8_findNext_c1 9 rfl) (by decide) ?_
        exact s_vret rfl hyp (dcx dX8_findNext_c1 26 rfl)
    · have hyp := hyp.2 q_
      refine r_aload_n (dcx dX8_findNext_c1 1 rfl) 1 rfl ?_
      refine s_callV (as := []) (st := []) zX8_takeLetters kX8_findNext_58 (dcx dX8_findNext_c1 2 rfl) rfl rfl (Nat.le_of_ble_eq_true rfl) O1 rfl rfl (C2.mono hyp ?_)
      rintro _ s14_ ⟨rfl, hyp⟩
      show G2 Γ l mX8_findNext 85 [(1, .int (s1_.1 2 (Int32.toNatClampNeg (s1_.1 1 6)))), (0, .ref 1)] [] s14_ K
      refine r_goto (tgt := 131) (dcx dX8_findNext_c1 3 rfl) (by decide) ?_
      exact s_vret rfl hyp (dcx dX8_findNext_c1 26 rfl)
  · have hyp := hyp.2 q_
    refine r_aload_n (dcx dX8_findNext_c0 28 rfl) 0 rfl ?_
    refine r_iconst (v := 0) (dcx dX8_findNext_c0 29 rfl) rfl ?_
    refine s_puti gX8_35 (dcx dX8_findNext_c0 30 rfl) F1_7 ?_
    obtain ⟨s16_, es16_⟩ : ∃ z : SS, z = sI s1_ 1 7 0 := ⟨_, rfl⟩
    rw [← es16_]
    have hyp := hyp s16_ es16_
    exact s_vret rfl hyp (dcx dX8_findNext_c0 31 rfl)
set_option maxHeartbeats 4000000 in
set_option maxRecDepth 20000 in
theorem tX8_findNext_0 {Γ : GE} {l : Launch}  {σ : SS} {K : Option Value → SS → Prop}  (hyp : ((σ.1 1 1) ≤ (σ.1 1 6) → (wX8_findNext_39 Γ l  σ K)) ∧ (¬ ((σ.1 1 1) ≤ (σ.1 1 6)) → (vp_in (σ.1 1 6) 2000 ∧ (C2 Γ l mX8_isBlank [.int (σ.1 2 (Int32.toNatClampNeg (σ.1 1 6)))] σ (Ri fun r2_ s1_ => ((r2_ = 0 → (wX8_findNext_39 Γ l  s1_ K)) ∧ (¬ (r2_ = 0) → (∀ s3_ : SS, s3_ = sI s1_ 1 6 ((s1_.1 1 6) + 1) → (wX8_findNext_0 Γ l  s3_ K))))))))) : wX8_findNext_0 Γ l  σ K := by
  show G2 Γ l mX8_findNext 0 [(0, .ref 1)] [] σ K
  refine r_aload_n (dcx dX8_findNext_c0 0 rfl) 0 rfl ?_
  refine s_geti fX8_32 (dcx dX8_findNext_c0 1 rfl) F1_6 ?_
  refine r_aload_n (dcx dX8_findNext_c0 2 rfl) 0 rfl ?_
  refine s_geti fX8_28 (dcx dX8_findNext_c0 3 rfl) F1_1 ?_
  refine r_icmp_ge (tgt := 39) (dcx dX8_findNext_c0 4 rfl) (by decide) (fun q_ => ?_) (fun q_ => ?_)
  · have hyp := hyp.1 q_
    refine r_loc (lv1 := [(0, .ref 1)]) [0] rfl ?_
    exact hyp
  · have hyp := hyp.2 q_
    refine r_aload_n (dcx dX8_findNext_c0 5 rfl) 0 rfl ?_
    refine s_getr (b := 2) fX8_9 (dcx dX8_findNext_c0 6 rfl) F1_0 ?_
    refine r_aload_n (dcx dX8_findNext_c0 7 rfl) 0 rfl ?_
    refine s_geti fX8_32 (dcx dX8_findNext_c0 8 rfl) F1_6 ?_
    obtain ⟨hb_, hyp⟩ := hyp
    refine s_iald (dcx dX8_findNext_c0 9 rfl) A2 hb_ ?_
    refine s_callS (as := [.int (σ.1 2 (Int32.toNatClampNeg (σ.1 1 6)))]) (st := []) zX8_isBlank kX8_findNext_51 (dcx dX8_findNext_c0 10 rfl) rfl rfl (Nat.le_of_ble_eq_true rfl) (C2.mono hyp ?_)
    rintro _ s1_ ⟨r2_, rfl, hyp⟩
    show G2 Γ l mX8_findNext 23 [(0, .ref 1)] [.int r2_] s1_ K
    refine r_if_eq (tgt := 39) (dcx dX8_findNext_c0 11 rfl) (by decide) (fun q_ => ?_) (fun q_ => ?_)
    · have hyp := hyp.1 q_
      refine r_loc (lv1 := [(0, .ref 1)]) [0] rfl ?_
      exact hyp
    · have hyp := hyp.2 q_
      refine r_aload_n (dcx dX8_findNext_c0 12 rfl) 0 rfl ?_
      refine r_dup (dcx dX8_findNext_c0 13 rfl) rfl ?_
      refine s_geti fX8_32 (dcx dX8_findNext_c0 14 rfl) F1_6 ?_
      refine r_iconst (v := 1) (dcx dX8_findNext_c0 15 rfl) rfl ?_
      refine r_iadd (dcx dX8_findNext_c0 16 rfl) ?_
      refine s_puti gX8_32 (dcx dX8_findNext_c0 17 rfl) F1_6 ?_
      obtain ⟨s3_, es3_⟩ : ∃ z : SS, z = sI s1_ 1 6 ((s1_.1 1 6) + 1) := ⟨_, rfl⟩
      rw [← es3_]
      have hyp := hyp s3_ es3_
      refine r_goto (tgt := 0) (dcx dX8_findNext_c0 18 rfl) (by decide) ?_
      refine r_loc (lv1 := [(0, .ref 1)]) [0] rfl ?_
      exact hyp
def wX8_takeLetters_7 (Γ : GE) (l : Launch) (x1 : Int32) (σ : SS) (K : Option Value → SS → Prop) : Prop := G2 Γ l mX8_takeLetters 7 [(0, .ref 1), (1, .int x1)] [] σ K
set_option maxHeartbeats 4000000 in
set_option maxRecDepth 20000 in
theorem tX8_takeLetters {Γ : GE} {l : Launch}  {σ : SS} {K : Option Value → SS → Prop}  (hyp : ∀ s1_ : SS, s1_ = sJ σ 1 10 0 → (wX8_takeLetters_7 Γ l 0 s1_ K)) : C2 Γ l mX8_takeLetters [.ref 1] σ K := by
  refine c2_of (lv := [(0, .ref 1)]) (by decide) (Nat.le_of_ble_eq_true rfl) rfl ?_
  refine r_iconst (v := 0) (dcx dX8_takeLetters_c0 0 rfl) rfl ?_
  refine r_istore_n (lv1 := [(1, .int 0), (0, .ref 1)]) (dcx dX8_takeLetters_c0 1 rfl) (Nat.le_of_ble_eq_true rfl) rfl ?_
  refine r_aload_n (dcx dX8_takeLetters_c0 2 rfl) 1 rfl ?_
  refine r_lconst (v := 0) (dcx dX8_takeLetters_c0 3 rfl) rfl ?_
  refine s_putj gX8_47 (dcx dX8_takeLetters_c0 4 rfl) F1_10 ?_
  obtain ⟨s1_, es1_⟩ : ∃ z : SS, z = sJ σ 1 10 0 := ⟨_, rfl⟩
  rw [← es1_]
  have hyp := hyp s1_ es1_
  refine r_loc (lv1 := [(0, .ref 1), (1, .int 0)]) [1, 0] rfl ?_
  exact hyp
set_option maxHeartbeats 4000000 in
set_option maxRecDepth 20000 in
theorem tX8_takeLetters_7 {Γ : GE} {l : Launch} {x1 : Int32} {σ : SS} {K : Option Value → SS → Prop}  (hyp : ((σ.1 1 1) ≤ (σ.1 1 6) → ((x1 ≤ 8 → (C2 Γ l mX8_kindOfWord [.ref 1, .int x1] σ (Ri fun r2_ s1_ => (∀ s3_ : SS, s3_ = sI s1_ 1 7 r2_ → (K none s3_))))) ∧ (¬ (x1 ≤ 8) → (∀ s4_ : SS, s4_ = sI σ 1 7 1 → (K none s4_))))) ∧ (¬ ((σ.1 1 1) ≤ (σ.1 1 6)) → (vp_in (σ.1 1 6) 2000 ∧ (C2 Γ l mX8_isLetter [.int (σ.1 2 (Int32.toNatClampNeg (σ.1 1 6)))] σ (Ri fun r6_ s5_ => ((r6_ = 0 → ((x1 ≤ 8 → (C2 Γ l mX8_kindOfWord [.ref 1, .int x1] s5_ (Ri fun r8_ s7_ => (∀ s9_ : SS, s9_ = sI s7_ 1 7 r8_ → (K none s9_))))) ∧ (¬ (x1 ≤ 8) → (∀ s10_ : SS, s10_ = sI s5_ 1 7 1 → (K none s10_))))) ∧ (¬ (r6_ = 0) → (((8 : Int32) ≤ x1 → (∀ s11_ : SS, s11_ = sI s5_ 1 6 ((s5_.1 1 6) + 1) → (wX8_takeLetters_7 Γ l (x1 + 1) s11_ K))) ∧ (¬ ((8 : Int32) ≤ x1) → (vp_in (s5_.1 1 6) 2000 ∧ (∀ s12_ : SS, s12_ = sJ s5_ 1 10 ((s5_.2.1 1 10) ||| ((Int32.toInt64 (((s5_.1 2 (Int32.toNatClampNeg (s5_.1 1 6))) - 97) + 1)) <<< (Int32.toInt64 (5 * x1) &&& 63))) → (∀ s13_ : SS, s13_ = sI s12_ 1 6 ((s12_.1 1 6) + 1) → (wX8_takeLetters_7 Γ l (x1 + 1) s13_ K))))))))))))) : wX8_takeLetters_7 Γ l x1 σ K := by
  show G2 Γ l mX8_takeLetters 7 [(0, .ref 1), (1, .int x1)] [] σ K
  refine r_aload_n (dcx dX8_takeLetters_c0 5 rfl) 0 rfl ?_
  refine s_geti fX8_32 (dcx dX8_takeLetters_c0 6 rfl) F1_6 ?_
  refine r_aload_n (dcx dX8_takeLetters_c0 7 rfl) 0 rfl ?_
  refine s_geti fX8_28 (dcx dX8_takeLetters_c0 8 rfl) F1_1 ?_
  refine r_icmp_ge (tgt := 83) (dcx dX8_takeLetters_c0 9 rfl) (by decide) (fun q_ => ?_) (fun q_ => ?_)
  · have hyp := hyp.1 q_
    refine r_aload_n (dcx dX8_takeLetters_c1 7 rfl) 0 rfl ?_
    refine r_iload_n (dcx dX8_takeLetters_c1 8 rfl) 1 rfl ?_
    refine r_bipush (v := 8) (dcx dX8_takeLetters_c1 9 rfl) rfl ?_
    refine r_icmp_le (tgt := 94) (dcx dX8_takeLetters_c1 10 rfl) (by decide) (fun q_ => ?_) (fun q_ => ?_)
    · have hyp := hyp.1 q_
      refine r_aload_n (dcx dX8_takeLetters_c1 13 rfl) 0 rfl ?_
      refine r_iload_n (dcx dX8_takeLetters_c1 14 rfl) 1 rfl ?_
      refine s_callV (as := [.int x1]) (st := [.ref 1]) zX8_kindOfWord kX8_takeLetters_75 (dcx dX8_takeLetters_c1 15 rfl) rfl rfl (Nat.le_of_ble_eq_true rfl) O1 rfl rfl (C2.mono hyp ?_)
      rintro _ s1_ ⟨r2_, rfl, hyp⟩
      show G2 Γ l mX8_takeLetters 99 [(0, .ref 1), (1, .int x1)] [.int r2_, .ref 1] s1_ K
      refine s_puti gX8_35 (dcx dX8_takeLetters_c1 16 rfl) F1_7 ?_
      obtain ⟨s3_, es3_⟩ : ∃ z : SS, z = sI s1_ 1 7 r2_ := ⟨_, rfl⟩
      rw [← es3_]
      have hyp := hyp s3_ es3_
      exact s_vret rfl hyp (dcx dX8_takeLetters_c1 17 rfl)
    · have hyp := hyp.2 q_
      refine r_iconst (v := 1) (dcx dX8_takeLetters_c1 11 rfl) rfl ?_
      refine r_goto (tgt := 99) (dcx dX8_takeLetters_c1 12 rfl) (by decide) ?_
      refine s_puti gX8_35 (dcx dX8_takeLetters_c1 16 rfl) F1_7 ?_
      obtain ⟨s4_, es4_⟩ : ∃ z : SS, z = sI σ 1 7 1 := ⟨_, rfl⟩
      rw [← es4_]
      have hyp := hyp s4_ es4_
      exact s_vret rfl hyp (dcx dX8_takeLetters_c1 17 rfl)
  · have hyp := hyp.2 q_
    refine r_aload_n (dcx dX8_takeLetters_c0 10 rfl) 0 rfl ?_
    refine s_getr (b := 2) fX8_9 (dcx dX8_takeLetters_c0 11 rfl) F1_0 ?_
    refine r_aload_n (dcx dX8_takeLetters_c0 12 rfl) 0 rfl ?_
    refine s_geti fX8_32 (dcx dX8_takeLetters_c0 13 rfl) F1_6 ?_
    obtain ⟨hb_, hyp⟩ := hyp
    refine s_iald (dcx dX8_takeLetters_c0 14 rfl) A2 hb_ ?_
    refine s_callS (as := [.int (σ.1 2 (Int32.toNatClampNeg (σ.1 1 6)))]) (st := []) zX8_isLetter kX8_takeLetters_55 (dcx dX8_takeLetters_c0 15 rfl) rfl rfl (Nat.le_of_ble_eq_true rfl) (C2.mono hyp ?_)
    rintro _ s5_ ⟨r6_, rfl, hyp⟩
    show G2 Γ l mX8_takeLetters 30 [(0, .ref 1), (1, .int x1)] [.int r6_] s5_ K
    refine r_if_eq (tgt := 83) (dcx dX8_takeLetters_c0 16 rfl) (by decide) (fun q_ => ?_) (fun q_ => ?_)
    · have hyp := hyp.1 q_
      refine r_aload_n (dcx dX8_takeLetters_c1 7 rfl) 0 rfl ?_
      refine r_iload_n (dcx dX8_takeLetters_c1 8 rfl) 1 rfl ?_
      refine r_bipush (v := 8) (dcx dX8_takeLetters_c1 9 rfl) rfl ?_
      refine r_icmp_le (tgt := 94) (dcx dX8_takeLetters_c1 10 rfl) (by decide) (fun q_ => ?_) (fun q_ => ?_)
      · have hyp := hyp.1 q_
        refine r_aload_n (dcx dX8_takeLetters_c1 13 rfl) 0 rfl ?_
        refine r_iload_n (dcx dX8_takeLetters_c1 14 rfl) 1 rfl ?_
        refine s_callV (as := [.int x1]) (st := [.ref 1]) zX8_kindOfWord kX8_takeLetters_75 (dcx dX8_takeLetters_c1 15 rfl) rfl rfl (Nat.le_of_ble_eq_true rfl) O1 rfl rfl (C2.mono hyp ?_)
        rintro _ s7_ ⟨r8_, rfl, hyp⟩
        show G2 Γ l mX8_takeLetters 99 [(0, .ref 1), (1, .int x1)] [.int r8_, .ref 1] s7_ K
        refine s_puti gX8_35 (dcx dX8_takeLetters_c1 16 rfl) F1_7 ?_
        obtain ⟨s9_, es9_⟩ : ∃ z : SS, z = sI s7_ 1 7 r8_ := ⟨_, rfl⟩
        rw [← es9_]
        have hyp := hyp s9_ es9_
        exact s_vret rfl hyp (dcx dX8_takeLetters_c1 17 rfl)
      · have hyp := hyp.2 q_
        refine r_iconst (v := 1) (dcx dX8_takeLetters_c1 11 rfl) rfl ?_
        refine r_goto (tgt := 99) (dcx dX8_takeLetters_c1 12 rfl) (by decide) ?_
        refine s_puti gX8_35 (dcx dX8_takeLetters_c1 16 rfl) F1_7 ?_
        obtain ⟨s10_, es10_⟩ : ∃ z : SS, z = sI s5_ 1 7 1 := ⟨_, rfl⟩
        rw [← es10_]
        have hyp := hyp s10_ es10_
        exact s_vret rfl hyp (dcx dX8_takeLetters_c1 17 rfl)
    · have hyp := hyp.2 q_
      refine r_iload_n (dcx dX8_takeLetters_c0 17 rfl) 1 rfl ?_
      refine r_bipush (v := 8) (dcx dX8_takeLetters_c0 18 rfl) rfl ?_
      refine r_icmp_ge (tgt := 67) (dcx dX8_takeLetters_c0 19 rfl) (by decide) (fun q_ => ?_) (fun q_ => ?_)
      · have hyp := hyp.1 q_
        refine r_iinc (lv1 := [(1, .int (x1 + 1)), (0, .ref 1)]) (dcx dX8_takeLetters_c0 39 rfl) 1 rfl (Nat.le_of_ble_eq_true rfl) rfl ?_
        refine r_aload_n (dcx dX8_takeLetters_c1 0 rfl) 1 rfl ?_
        refine r_dup (dcx dX8_takeLetters_c1 1 rfl) rfl ?_
        refine s_geti fX8_32 (dcx dX8_takeLetters_c1 2 rfl) F1_6 ?_
        refine r_iconst (v := 1) (dcx dX8_takeLetters_c1 3 rfl) rfl ?_
        refine r_iadd (dcx dX8_takeLetters_c1 4 rfl) ?_
        refine s_puti gX8_32 (dcx dX8_takeLetters_c1 5 rfl) F1_6 ?_
        obtain ⟨s11_, es11_⟩ : ∃ z : SS, z = sI s5_ 1 6 ((s5_.1 1 6) + 1) := ⟨_, rfl⟩
        rw [← es11_]
        have hyp := hyp s11_ es11_
        refine r_goto (tgt := 7) (dcx dX8_takeLetters_c1 6 rfl) (by decide) ?_
        refine r_loc (lv1 := [(0, .ref 1), (1, .int (x1 + 1))]) [1, 0] rfl ?_
        exact hyp
      · have hyp := hyp.2 q_
        refine r_aload_n (dcx dX8_takeLetters_c0 20 rfl) 0 rfl ?_
        refine r_dup (dcx dX8_takeLetters_c0 21 rfl) rfl ?_
        refine s_getj fX8_47 (dcx dX8_takeLetters_c0 22 rfl) F1_10 ?_
        refine r_aload_n (dcx dX8_takeLetters_c0 23 rfl) 0 rfl ?_
        refine s_getr (b := 2) fX8_9 (dcx dX8_takeLetters_c0 24 rfl) F1_0 ?_
        refine r_aload_n (dcx dX8_takeLetters_c0 25 rfl) 0 rfl ?_
        refine s_geti fX8_32 (dcx dX8_takeLetters_c0 26 rfl) F1_6 ?_
        obtain ⟨hb_, hyp⟩ := hyp
        refine s_iald (dcx dX8_takeLetters_c0 27 rfl) A2 hb_ ?_
        refine r_bipush (v := 97) (dcx dX8_takeLetters_c0 28 rfl) rfl ?_
        refine r_isub (dcx dX8_takeLetters_c0 29 rfl) ?_
        refine r_iconst (v := 1) (dcx dX8_takeLetters_c0 30 rfl) rfl ?_
        refine r_iadd (dcx dX8_takeLetters_c0 31 rfl) ?_
        refine r_i2l (dcx dX8_takeLetters_c0 32 rfl) ?_
        refine r_iconst (v := 5) (dcx dX8_takeLetters_c0 33 rfl) rfl ?_
        refine r_iload_n (dcx dX8_takeLetters_c0 34 rfl) 1 rfl ?_
        refine r_imul (dcx dX8_takeLetters_c0 35 rfl) ?_
        refine r_lshl (dcx dX8_takeLetters_c0 36 rfl) ?_
        refine r_lor (dcx dX8_takeLetters_c0 37 rfl) ?_
        refine s_putj gX8_47 (dcx dX8_takeLetters_c0 38 rfl) F1_10 ?_
        obtain ⟨s12_, es12_⟩ : ∃ z : SS, z = sJ s5_ 1 10 ((s5_.2.1 1 10) ||| ((Int32.toInt64 (((s5_.1 2 (Int32.toNatClampNeg (s5_.1 1 6))) - 97) + 1)) <<< (Int32.toInt64 (5 * x1) &&& 63))) := ⟨_, rfl⟩
        rw [← es12_]
        have hyp := hyp s12_ es12_
        refine r_iinc (lv1 := [(1, .int (x1 + 1)), (0, .ref 1)]) (dcx dX8_takeLetters_c0 39 rfl) 1 rfl (Nat.le_of_ble_eq_true rfl) rfl ?_
        refine r_aload_n (dcx dX8_takeLetters_c1 0 rfl) 1 rfl ?_
        refine r_dup (dcx dX8_takeLetters_c1 1 rfl) rfl ?_
        refine s_geti fX8_32 (dcx dX8_takeLetters_c1 2 rfl) F1_6 ?_
        refine r_iconst (v := 1) (dcx dX8_takeLetters_c1 3 rfl) rfl ?_
        refine r_iadd (dcx dX8_takeLetters_c1 4 rfl) ?_
        refine s_puti gX8_32 (dcx dX8_takeLetters_c1 5 rfl) F1_6 ?_
        obtain ⟨s13_, es13_⟩ : ∃ z : SS, z = sI s12_ 1 6 ((s12_.1 1 6) + 1) := ⟨_, rfl⟩
        rw [← es13_]
        have hyp := hyp s13_ es13_
        refine r_goto (tgt := 7) (dcx dX8_takeLetters_c1 6 rfl) (by decide) ?_
        refine r_loc (lv1 := [(0, .ref 1), (1, .int (x1 + 1))]) [1, 0] rfl ?_
        exact hyp
def wX8_kindOfWord_2 (Γ : GE) (l : Launch) (x1 : Int32) (x2 : Int32) (σ : SS) (K : Option Value → SS → Prop) : Prop := G2 Γ l mX8_kindOfWord 2 [(0, .ref 1), (1, .int x1), (2, .int x2)] [] σ K
set_option maxHeartbeats 4000000 in
set_option maxRecDepth 20000 in
theorem tX8_kindOfWord {Γ : GE} {l : Launch} {x1 : Int32} {σ : SS} {K : Option Value → SS → Prop}  (hyp : wX8_kindOfWord_2 Γ l x1 0 σ K) : C2 Γ l mX8_kindOfWord [.ref 1, .int x1] σ K := by
  refine c2_of (lv := [(0, .ref 1), (1, .int x1)]) (by decide) (Nat.le_of_ble_eq_true rfl) rfl ?_
  refine r_iconst (v := 0) (dcx dX8_kindOfWord_c0 0 rfl) rfl ?_
  refine r_istore_n (lv1 := [(2, .int 0), (0, .ref 1), (1, .int x1)]) (dcx dX8_kindOfWord_c0 1 rfl) (Nat.le_of_ble_eq_true rfl) rfl ?_
  refine r_loc (lv1 := [(0, .ref 1), (1, .int x1), (2, .int 0)]) [1, 2, 0] rfl ?_
  exact hyp
set_option maxHeartbeats 4000000 in
set_option maxRecDepth 20000 in
theorem tX8_kindOfWord_2 {Γ : GE} {l : Launch} {x1 : Int32} {x2 : Int32} {σ : SS} {K : Option Value → SS → Prop}  (hyp : ((22 : Int32) ≤ x2 → (K (some (.int 2)) σ)) ∧ (¬ ((22 : Int32) ≤ x2) → (C2 Γ l mX8_isWord [.ref 1, .int x2, .int x1] σ (Ri fun r2_ s1_ => ((r2_ = 0 → (wX8_kindOfWord_2 Γ l x1 (x2 + 1) s1_ K)) ∧ (¬ (r2_ = 0) → (K (some (.int (100 + x2))) s1_))))))) : wX8_kindOfWord_2 Γ l x1 x2 σ K := by
  show G2 Γ l mX8_kindOfWord 2 [(0, .ref 1), (1, .int x1), (2, .int x2)] [] σ K
  refine r_iload_n (dcx dX8_kindOfWord_c0 2 rfl) 2 rfl ?_
  refine r_bipush (v := 22) (dcx dX8_kindOfWord_c0 3 rfl) rfl ?_
  refine r_icmp_ge (tgt := 28) (dcx dX8_kindOfWord_c0 4 rfl) (by decide) (fun q_ => ?_) (fun q_ => ?_)
  · have hyp := hyp.1 q_
    refine r_iconst (v := 2) (dcx dX8_kindOfWord_c0 16 rfl) rfl ?_
    exact s_ret rfl rfl rfl hyp (dcx dX8_kindOfWord_c0 17 rfl)
  · have hyp := hyp.2 q_
    refine r_aload_n (dcx dX8_kindOfWord_c0 5 rfl) 0 rfl ?_
    refine r_iload_n (dcx dX8_kindOfWord_c0 6 rfl) 2 rfl ?_
    refine r_iload_n (dcx dX8_kindOfWord_c0 7 rfl) 1 rfl ?_
    refine s_callV (as := [.int x2, .int x1]) (st := []) zX8_isWord kX8_kindOfWord_78 (dcx dX8_kindOfWord_c0 8 rfl) rfl rfl (Nat.le_of_ble_eq_true rfl) O1 rfl rfl (C2.mono hyp ?_)
    rintro _ s1_ ⟨r2_, rfl, hyp⟩
    show G2 Γ l mX8_kindOfWord 14 [(0, .ref 1), (1, .int x1), (2, .int x2)] [.int r2_] s1_ K
    refine r_if_eq (tgt := 22) (dcx dX8_kindOfWord_c0 9 rfl) (by decide) (fun q_ => ?_) (fun q_ => ?_)
    · have hyp := hyp.1 q_
      refine r_iinc (lv1 := [(2, .int (x2 + 1)), (0, .ref 1), (1, .int x1)]) (dcx dX8_kindOfWord_c0 14 rfl) 2 rfl (Nat.le_of_ble_eq_true rfl) rfl ?_
      refine r_goto (tgt := 2) (dcx dX8_kindOfWord_c0 15 rfl) (by decide) ?_
      refine r_loc (lv1 := [(0, .ref 1), (1, .int x1), (2, .int (x2 + 1))]) [1, 2, 0] rfl ?_
      exact hyp
    · have hyp := hyp.2 q_
      refine r_bipush (v := 100) (dcx dX8_kindOfWord_c0 10 rfl) rfl ?_
      refine r_iload_n (dcx dX8_kindOfWord_c0 11 rfl) 2 rfl ?_
      refine r_iadd (dcx dX8_kindOfWord_c0 12 rfl) ?_
      exact s_ret rfl rfl rfl hyp (dcx dX8_kindOfWord_c0 13 rfl)
