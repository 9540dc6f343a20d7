def wX1_readsAnywhere_3 (Γ : GE) (l : Launch) (a1 : Nat) (x2 : Int32) (x3 : Int32) (x4 : Int32) (σ : SS) (K : Option Value → SS → Prop) : Prop := G2 Γ l mX1_readsAnywhere 3 [(0, .ref 46), (1, .ref a1), (2, .int x2), (3, .int x3), (4, .int x4)] [] σ K
def wX1_readsAnywhere_20 (Γ : GE) (l : Launch) (a1 : Nat) (x2 : Int32) (x3 : Int32) (x4 : Int32) (x5 : Int32) (σ : SS) (K : Option Value → SS → Prop) : Prop := G2 Γ l mX1_readsAnywhere 20 [(0, .ref 46), (1, .ref a1), (2, .int x2), (3, .int x3), (4, .int x4), (5, .int x5)] [] σ K
set_option maxHeartbeats 4000000 in
set_option maxRecDepth 20000 in
theorem tX1_readsAnywhere {Γ : GE} {l : Launch} {a1 : Nat} {x2 : Int32} {x3 : Int32} {σ : SS} {K : Option Value → SS → Prop} (h1 : isL a1) (hyp : wX1_readsAnywhere_3 Γ l a1 x2 x3 0 σ K) : C2 Γ l mX1_readsAnywhere [.ref 46, .ref a1, .int x2, .int x3] σ K := by
  refine c2_of (lv := [(0, .ref 46), (1, .ref a1), (2, .int x2), (3, .int x3)]) (by decide) (Nat.le_of_ble_eq_true rfl) rfl ?_
  refine r_iconst (v := 0) (dcx dX1_readsAnywhere_c0 0 rfl) rfl ?_
  refine r_istore (lv1 := [(4, .int 0), (0, .ref 46), (1, .ref a1), (2, .int x2), (3, .int x3)]) (dcx dX1_readsAnywhere_c0 1 rfl) (Nat.le_of_ble_eq_true rfl) rfl ?_
  refine r_loc (lv1 := [(0, .ref 46), (1, .ref a1), (2, .int x2), (3, .int x3), (4, .int 0)]) [1, 2, 3, 4, 0] rfl ?_
  exact hyp
set_option maxHeartbeats 4000000 in
set_option maxRecDepth 20000 in
theorem tX1_readsAnywhere_3 {Γ : GE} {l : Launch} {a1 : Nat} {x2 : Int32} {x3 : Int32} {x4 : Int32} {σ : SS} {K : Option Value → SS → Prop} (h1 : isL a1) (hyp : ∃ b1_ : Nat, σ.2.2 46 3 = b1_ ∧ isP b1_ ∧ (((σ.1 b1_ 12) ≤ (x4 + 2) → (K (some (.int 0)) σ)) ∧ (¬ ((σ.1 b1_ 12) ≤ (x4 + 2)) → (wX1_readsAnywhere_20 Γ l a1 x2 x3 x4 0 σ K)))) : wX1_readsAnywhere_3 Γ l a1 x2 x3 x4 σ K := by
  show G2 Γ l mX1_readsAnywhere 3 [(0, .ref 46), (1, .ref a1), (2, .int x2), (3, .int x3), (4, .int x4)] [] σ K
  refine r_iload (dcx dX1_readsAnywhere_c0 2 rfl) 4 rfl ?_
  refine r_iconst (v := 2) (dcx dX1_readsAnywhere_c0 3 rfl) rfl ?_
  refine r_iadd (dcx dX1_readsAnywhere_c0 4 rfl) ?_
  refine r_aload_n (dcx dX1_readsAnywhere_c0 5 rfl) 0 rfl ?_
  obtain ⟨b1_, eb1_, hb1_, hyp⟩ := hyp
  refine s_getmE fX1_21 (dcx dX1_readsAnywhere_c0 6 rfl) F46_3 eb1_ (nzP hb1_) ?_
  refine s_geti fX1_111 (dcx dX1_readsAnywhere_c0 7 rfl) (FP_12 hb1_) ?_
  refine r_icmp_ge (tgt := 62) (dcx dX1_readsAnywhere_c0 8 rfl) (by decide) (fun q_ => ?_) (fun q_ => ?_)
  · have hyp := hyp.1 q_
    refine r_iconst (v := 0) (dcx dX1_readsAnywhere_c0 32 rfl) rfl ?_
    exact s_ret rfl rfl rfl hyp (dcx dX1_readsAnywhere_c0 33 rfl)
  · have hyp := hyp.2 q_
    refine r_iconst (v := 0) (dcx dX1_readsAnywhere_c0 9 rfl) rfl ?_
    refine r_istore (lv1 := [(5, .int 0), (0, .ref 46), (1, .ref a1), (2, .int x2), (3, .int x3), (4, .int x4)]) (dcx dX1_readsAnywhere_c0 10 rfl) (Nat.le_of_ble_eq_true rfl) rfl ?_
    refine r_loc (lv1 := [(0, .ref 46), (1, .ref a1), (2, .int x2), (3, .int x3), (4, .int x4), (5, .int 0)]) [1, 2, 3, 4, 5, 0] rfl ?_
    exact hyp
set_option maxHeartbeats 4000000 in
set_option maxRecDepth 20000 in
theorem tX1_readsAnywhere_20 {Γ : GE} {l : Launch} {a1 : Nat} {x2 : Int32} {x3 : Int32} {x4 : Int32} {x5 : Int32} {σ : SS} {K : Option Value → SS → Prop} (h1 : isL a1) (hyp : ∃ b1_ : Nat, σ.2.2 46 3 = b1_ ∧ isP b1_ ∧ (((σ.1 b1_ 11) ≤ (x5 + 2) → (wX1_readsAnywhere_3 Γ l a1 x2 x3 (x4 + 1) σ K)) ∧ (¬ ((σ.1 b1_ 11) ≤ (x5 + 2)) → (C2 Γ l mX1_isRead [.ref 46, .ref a1, .int x2, .int x3, .int x5, .int x4] σ (Ri fun r3_ s2_ => ((r3_ = 0 → (wX1_readsAnywhere_20 Γ l a1 x2 x3 x4 (x5 + 1) s2_ K)) ∧ (¬ (r3_ = 0) → (K (some (.int 1)) s2_)))))))) : wX1_readsAnywhere_20 Γ l a1 x2 x3 x4 x5 σ K := by
  show G2 Γ l mX1_readsAnywhere 20 [(0, .ref 46), (1, .ref a1), (2, .int x2), (3, .int x3), (4, .int x4), (5, .int x5)] [] σ K
  refine r_iload (dcx dX1_readsAnywhere_c0 11 rfl) 5 rfl ?_
  refine r_iconst (v := 2) (dcx dX1_readsAnywhere_c0 12 rfl) rfl ?_
  refine r_iadd (dcx dX1_readsAnywhere_c0 13 rfl) ?_
  refine r_aload_n (dcx dX1_readsAnywhere_c0 14 rfl) 0 rfl ?_
  obtain ⟨b1_, eb1_, hb1_, hyp⟩ := hyp
  refine s_getmE fX1_21 (dcx dX1_readsAnywhere_c0 15 rfl) F46_3 eb1_ (nzP hb1_) ?_
  refine s_geti fX1_114 (dcx dX1_readsAnywhere_c0 16 rfl) (FP_11 hb1_) ?_
  refine r_icmp_ge (tgt := 56) (dcx dX1_readsAnywhere_c0 17 rfl) (by decide) (fun q_ => ?_) (fun q_ => ?_)
  · have hyp := hyp.1 q_
    refine r_iinc (lv1 := [(4, .int (x4 + 1)), (0, .ref 46), (1, .ref a1), (2, .int x2), (3, .int x3), (5, .int x5)]) (dcx dX1_readsAnywhere_c0 30 rfl) 4 rfl (Nat.le_of_ble_eq_true rfl) rfl ?_
    refine r_goto (tgt := 3) (dcx dX1_readsAnywhere_c0 31 rfl) (by decide) ?_
    refine r_loc (lv1 := [(0, .ref 46), (1, .ref a1), (2, .int x2), (3, .int x3), (4, .int (x4 + 1))]) [1, 2, 3, 4, 0] rfl ?_
    exact hyp
  · have hyp := hyp.2 q_
    refine r_aload_n (dcx dX1_readsAnywhere_c0 18 rfl) 0 rfl ?_
    refine r_aload_n (dcx dX1_readsAnywhere_c0 19 rfl) 1 rfl ?_
    refine r_iload_n (dcx dX1_readsAnywhere_c0 20 rfl) 2 rfl ?_
    refine r_iload_n (dcx dX1_readsAnywhere_c0 21 rfl) 3 rfl ?_
    refine r_iload (dcx dX1_readsAnywhere_c0 22 rfl) 5 rfl ?_
    refine r_iload (dcx dX1_readsAnywhere_c0 23 rfl) 4 rfl ?_
    refine s_callV (as := [.ref a1, .int x2, .int x3, .int x5, .int x4]) (st := []) zX1_isRead kX1_readsAnywhere_159 (dcx dX1_readsAnywhere_c0 24 rfl) rfl rfl (Nat.le_of_ble_eq_true rfl) O46 rfl rfl (C2.mono hyp ?_)
    rintro _ s2_ ⟨r3_, rfl, hyp⟩
    show G2 Γ l mX1_readsAnywhere 45 [(0, .ref 46), (1, .ref a1), (2, .int x2), (3, .int x3), (4, .int x4), (5, .int x5)] [.int r3_] s2_ K
    refine r_if_eq (tgt := 50) (dcx dX1_readsAnywhere_c0 25 rfl) (by decide) (fun q_ => ?_) (fun q_ => ?_)
    · have hyp := hyp.1 q_
      refine r_iinc (lv1 := [(5, .int (x5 + 1)), (0, .ref 46), (1, .ref a1), (2, .int x2), (3, .int x3), (4, .int x4)]) (dcx dX1_readsAnywhere_c0 28 rfl) 5 rfl (Nat.le_of_ble_eq_true rfl) rfl ?_
      refine r_goto (tgt := 20) (dcx dX1_readsAnywhere_c0 29 rfl) (by decide) ?_
      refine r_loc (lv1 := [(0, .ref 46), (1, .ref a1), (2, .int x2), (3, .int x3), (4, .int x4), (5, .int (x5 + 1))]) [1, 2, 3, 4, 5, 0] rfl ?_
      exact hyp
    · have hyp := hyp.2 q_
      refine r_iconst (v := 1) (dcx dX1_readsAnywhere_c0 26 rfl) rfl ?_
      exact s_ret rfl rfl rfl hyp (dcx dX1_readsAnywhere_c0 27 rfl)
def wX1_someoneReads_14 (Γ : GE) (l : Launch) (x3 : Int32) (x5 : Int32) (x6 : Int32) (σ : SS) (K : Option Value → SS → Prop) : Prop := G2 Γ l mX1_someoneReads 14 [(0, .ref 46), (3, .int x3), (5, .int x5), (6, .int x6)] [] σ K
set_option maxHeartbeats 4000000 in
set_option maxRecDepth 20000 in
theorem tX1_someoneReads {Γ : GE} {l : Launch} {a1 : Nat} {x2 : Int32} {x3 : Int32} {x4 : Int32} {σ : SS} {K : Option Value → SS → Prop} (h1 : isL a1) (hyp : C2 Γ l mX1_standsOut [.ref 46, .ref a1, .int x2, .int x3, .int x4] σ (Ri fun r2_ s1_ => (wX1_someoneReads_14 Γ l x3 r2_ 0 s1_ K))) : C2 Γ l mX1_someoneReads [.ref 46, .ref a1, .int x2, .int x3, .int x4] σ K := by
  refine c2_of (lv := [(0, .ref 46), (1, .ref a1), (2, .int x2), (3, .int x3), (4, .int x4)]) (by decide) (Nat.le_of_ble_eq_true rfl) rfl ?_
  refine r_aload_n (dcx dX1_someoneReads_c0 0 rfl) 0 rfl ?_
  refine r_aload_n (dcx dX1_someoneReads_c0 1 rfl) 1 rfl ?_
  refine r_iload_n (dcx dX1_someoneReads_c0 2 rfl) 2 rfl ?_
  refine r_iload_n (dcx dX1_someoneReads_c0 3 rfl) 3 rfl ?_
  refine r_iload (dcx dX1_someoneReads_c0 4 rfl) 4 rfl ?_
  refine s_callV (as := [.ref a1, .int x2, .int x3, .int x4]) (st := []) zX1_standsOut kX1_someoneReads_153 (dcx dX1_someoneReads_c0 5 rfl) rfl rfl (Nat.le_of_ble_eq_true rfl) O46 rfl rfl (C2.mono hyp ?_)
  rintro _ s1_ ⟨r2_, rfl, hyp⟩
  show G2 Γ l mX1_someoneReads 9 [(0, .ref 46), (1, .ref a1), (2, .int x2), (3, .int x3), (4, .int x4)] [.int r2_] s1_ K
  refine r_istore (lv1 := [(5, .int r2_), (0, .ref 46), (1, .ref a1), (2, .int x2), (3, .int x3), (4, .int x4)]) (dcx dX1_someoneReads_c0 6 rfl) (Nat.le_of_ble_eq_true rfl) rfl ?_
  refine r_iconst (v := 0) (dcx dX1_someoneReads_c0 7 rfl) rfl ?_
  refine r_istore (lv1 := [(6, .int 0), (5, .int r2_), (0, .ref 46), (1, .ref a1), (2, .int x2), (3, .int x3), (4, .int x4)]) (dcx dX1_someoneReads_c0 8 rfl) (Nat.le_of_ble_eq_true rfl) rfl ?_
  refine r_loc (lv1 := [(0, .ref 46), (3, .int x3), (5, .int r2_), (6, .int 0)]) [2, 5, 1, 0] rfl ?_
  exact hyp
set_option maxHeartbeats 4000000 in
set_option maxRecDepth 20000 in
theorem tX1_someoneReads_14 {Γ : GE} {l : Launch} {x3 : Int32} {x5 : Int32} {x6 : Int32} {σ : SS} {K : Option Value → SS → Prop}  (hyp : ∃ b1_ : Nat, σ.2.2 46 3 = b1_ ∧ isP b1_ ∧ (((σ.1 b1_ 14) ≤ x6 → (K (some (.int 0)) σ)) ∧ (¬ ((σ.1 b1_ 14) ≤ x6) → (∃ b2_ : Nat, σ.2.2 46 3 = b2_ ∧ isP b2_ ∧ (C2 Γ l mX6_sees [.ref b2_, .int x6, .int x3] σ (Ri fun r4_ s3_ => ((r4_ = 0 → (wX1_someoneReads_14 Γ l x3 x5 (x6 + 1) s3_ K)) ∧ (¬ (r4_ = 0) → (∃ b5_ : Nat, s3_.2.2 46 3 = b5_ ∧ isP b5_ ∧ (vp_in x6 4 ∧ ((x5 < (s3_.1 (b5_ + 7) (Int32.toNatClampNeg x6)) → (wX1_someoneReads_14 Γ l x3 x5 (x6 + 1) s3_ K)) ∧ (¬ (x5 < (s3_.1 (b5_ + 7) (Int32.toNatClampNeg x6))) → (K (some (.int 1)) s3_))))))))))))) : wX1_someoneReads_14 Γ l x3 x5 x6 σ K := by
  show G2 Γ l mX1_someoneReads 14 [(0, .ref 46), (3, .int x3), (5, .int x5), (6, .int x6)] [] σ K
  refine r_iload (dcx dX1_someoneReads_c0 9 rfl) 3 rfl ?_
  refine r_aload_n (dcx dX1_someoneReads_c0 10 rfl) 0 rfl ?_
  obtain ⟨b1_, eb1_, hb1_, hyp⟩ := hyp
  refine s_getmE fX1_21 (dcx dX1_someoneReads_c0 11 rfl) F46_3 eb1_ (nzP hb1_) ?_
  refine s_geti fX1_133 (dcx dX1_someoneReads_c0 12 rfl) (FP_14 hb1_) ?_
  refine r_icmp_ge (tgt := 62) (dcx dX1_someoneReads_c0 13 rfl) (by decide) (fun q_ => ?_) (fun q_ => ?_)
  · have hyp := hyp.1 q_
    refine r_iconst (v := 0) (dcx dX1_someoneReads_c0 31 rfl) rfl ?_
    exact s_ret rfl rfl rfl hyp (dcx dX1_someoneReads_c0 32 rfl)
  · have hyp := hyp.2 q_
    refine r_aload_n (dcx dX1_someoneReads_c0 14 rfl) 0 rfl ?_
    obtain ⟨b2_, eb2_, hb2_, hyp⟩ := hyp
    refine s_getmE fX1_21 (dcx dX1_someoneReads_c0 15 rfl) F46_3 eb2_ (nzP hb2_) ?_
    refine r_iload (dcx dX1_someoneReads_c0 16 rfl) 3 rfl ?_
    refine r_iload_n (dcx dX1_someoneReads_c0 17 rfl) 1 rfl ?_
    refine s_callV (as := [.int x6, .int x3]) (st := []) zX6_sees kX1_someoneReads_150 (dcx dX1_someoneReads_c0 18 rfl) rfl rfl (Nat.le_of_ble_eq_true rfl) (OP hb2_) rfl rfl (C2.mono hyp ?_)
    rintro _ s3_ ⟨r4_, rfl, hyp⟩
    show G2 Γ l mX1_someoneReads 36 [(0, .ref 46), (3, .int x3), (5, .int x5), (6, .int x6)] [.int r4_] s3_ K
    refine r_if_eq (tgt := 56) (dcx dX1_someoneReads_c0 19 rfl) (by decide) (fun q_ => ?_) (fun q_ => ?_)
    · have hyp := hyp.1 q_
      refine r_iinc (lv1 := [(6, .int (x6 + 1)), (0, .ref 46), (3, .int x3), (5, .int x5)]) (dcx dX1_someoneReads_c0 29 rfl) 3 rfl (Nat.le_of_ble_eq_true rfl) rfl ?_
      refine r_goto (tgt := 14) (dcx dX1_someoneReads_c0 30 rfl) (by decide) ?_
      refine r_loc (lv1 := [(0, .ref 46), (3, .int x3), (5, .int x5), (6, .int (x6 + 1))]) [1, 2, 3, 0] rfl ?_
      exact hyp
    · have hyp := hyp.2 q_
      refine r_iload (dcx dX1_someoneReads_c0 20 rfl) 2 rfl ?_
      refine r_aload_n (dcx dX1_someoneReads_c0 21 rfl) 0 rfl ?_
      obtain ⟨b5_, eb5_, hb5_, hyp⟩ := hyp
      refine s_getmE fX1_21 (dcx dX1_someoneReads_c0 22 rfl) F46_3 eb5_ (nzP hb5_) ?_
      refine s_getr (b := b5_ + 7) fX1_156 (dcx dX1_someoneReads_c0 23 rfl) (FP_6 hb5_) ?_
      refine r_iload (dcx dX1_someoneReads_c0 24 rfl) 3 rfl ?_
      obtain ⟨hb_, hyp⟩ := hyp
      refine s_iald (dcx dX1_someoneReads_c0 25 rfl) (AP_6 hb5_) hb_ ?_
      refine r_icmp_lt (tgt := 56) (dcx dX1_someoneReads_c0 26 rfl) (by decide) (fun q_ => ?_) (fun q_ => ?_)
      · have hyp := hyp.1 q_
        refine r_iinc (lv1 := [(6, .int (x6 + 1)), (0, .ref 46), (3, .int x3), (5, .int x5)]) (dcx dX1_someoneReads_c0 29 rfl) 3 rfl (Nat.le_of_ble_eq_true rfl) rfl ?_
        refine r_goto (tgt := 14) (dcx dX1_someoneReads_c0 30 rfl) (by decide) ?_
        refine r_loc (lv1 := [(0, .ref 46), (3, .int x3), (5, .int x5), (6, .int (x6 + 1))]) [1, 2, 3, 0] rfl ?_
        exact hyp
      · have hyp := hyp.2 q_
        refine r_iconst (v := 1) (dcx dX1_someoneReads_c0 27 rfl) rfl ?_
        exact s_ret rfl rfl rfl hyp (dcx dX1_someoneReads_c0 28 rfl)
def wX1_anythingIsRead_2 (Γ : GE) (l : Launch) (a1 : Nat) (x2 : Int32) (σ : SS) (K : Option Value → SS → Prop) : Prop := G2 Γ l mX1_anythingIsRead 2 [(0, .ref 46), (1, .ref a1), (2, .int x2)] [] σ K
def wX1_anythingIsRead_15 (Γ : GE) (l : Launch) (a1 : Nat) (x2 : Int32) (x3 : Int32) (σ : SS) (K : Option Value → SS → Prop) : Prop := G2 Γ l mX1_anythingIsRead 15 [(0, .ref 46), (1, .ref a1), (2, .int x2), (3, .int x3)] [] σ K
def wX1_anythingIsRead_31 (Γ : GE) (l : Launch) (a1 : Nat) (x2 : Int32) (x3 : Int32) (x4 : Int32) (σ : SS) (K : Option Value → SS → Prop) : Prop := G2 Γ l mX1_anythingIsRead 31 [(0, .ref 46), (1, .ref a1), (2, .int x2), (3, .int x3), (4, .int x4)] [] σ K
set_option maxHeartbeats 4000000 in
set_option maxRecDepth 20000 in
theorem tX1_anythingIsRead {Γ : GE} {l : Launch} {a1 : Nat} {σ : SS} {K : Option Value → SS → Prop} (h1 : isL a1) (hyp : wX1_anythingIsRead_2 Γ l a1 0 σ K) : C2 Γ l mX1_anythingIsRead [.ref 46, .ref a1] σ K := by
  refine c2_of (lv := [(0, .ref 46), (1, .ref a1)]) (by decide) (Nat.le_of_ble_eq_true rfl) rfl ?_
  refine r_iconst (v := 0) (dcx dX1_anythingIsRead_c0 0 rfl) rfl ?_
  refine r_istore_n (lv1 := [(2, .int 0), (0, .ref 46), (1, .ref a1)]) (dcx dX1_anythingIsRead_c0 1 rfl) (Nat.le_of_ble_eq_true rfl) rfl ?_
  refine r_loc (lv1 := [(0, .ref 46), (1, .ref a1), (2, .int 0)]) [1, 2, 0] rfl ?_
  exact hyp
set_option maxHeartbeats 4000000 in
set_option maxRecDepth 20000 in
theorem tX1_anythingIsRead_2 {Γ : GE} {l : Launch} {a1 : Nat} {x2 : Int32} {σ : SS} {K : Option Value → SS → Prop} (h1 : isL a1) (hyp : ∃ b1_ : Nat, σ.2.2 46 3 = b1_ ∧ isP b1_ ∧ (((σ.1 b1_ 13) ≤ x2 → (K (some (.int 0)) σ)) ∧ (¬ ((σ.1 b1_ 13) ≤ x2) → (wX1_anythingIsRead_15 Γ l a1 x2 0 σ K)))) : wX1_anythingIsRead_2 Γ l a1 x2 σ K := by
  show G2 Γ l mX1_anythingIsRead 2 [(0, .ref 46), (1, .ref a1), (2, .int x2)] [] σ K
  refine r_iload_n (dcx dX1_anythingIsRead_c0 2 rfl) 2 rfl ?_
  refine r_aload_n (dcx dX1_anythingIsRead_c0 3 rfl) 0 rfl ?_
  obtain ⟨b1_, eb1_, hb1_, hyp⟩ := hyp
  refine s_getmE fX1_21 (dcx dX1_anythingIsRead_c0 4 rfl) F46_3 eb1_ (nzP hb1_) ?_
  refine s_geti fX1_139 (dcx dX1_anythingIsRead_c0 5 rfl) (FP_13 hb1_) ?_
  refine r_icmp_ge (tgt := 77) (dcx dX1_anythingIsRead_c0 6 rfl) (by decide) (fun q_ => ?_) (fun q_ => ?_)
  · have hyp := hyp.1 q_
    refine r_iconst (v := 0) (dcx dX1_anythingIsRead_c1 0 rfl) rfl ?_
    exact s_ret rfl rfl rfl hyp (dcx dX1_anythingIsRead_c1 1 rfl)
  · have hyp := hyp.2 q_
    refine r_iconst (v := 0) (dcx dX1_anythingIsRead_c0 7 rfl) rfl ?_
    refine r_istore_n (lv1 := [(3, .int 0), (0, .ref 46), (1, .ref a1), (2, .int x2)]) (dcx dX1_anythingIsRead_c0 8 rfl) (Nat.le_of_ble_eq_true rfl) rfl ?_
    refine r_loc (lv1 := [(0, .ref 46), (1, .ref a1), (2, .int x2), (3, .int 0)]) [1, 2, 3, 0] rfl ?_
    exact hyp
set_option maxHeartbeats 4000000 in
set_option maxRecDepth 20000 in
theorem tX1_anythingIsRead_15 {Γ : GE} {l : Launch} {a1 : Nat} {x2 : Int32} {x3 : Int32} {σ : SS} {K : Option Value → SS → Prop} (h1 : isL a1) (hyp : ∃ b1_ : Nat, σ.2.2 46 3 = b1_ ∧ isP b1_ ∧ (((σ.1 b1_ 12) ≤ (x3 + 2) → (wX1_anythingIsRead_2 Γ l a1 (x2 + 1) σ K)) ∧ (¬ ((σ.1 b1_ 12) ≤ (x3 + 2)) → (wX1_anythingIsRead_31 Γ l a1 x2 x3 0 σ K)))) : wX1_anythingIsRead_15 Γ l a1 x2 x3 σ K := by
  show G2 Γ l mX1_anythingIsRead 15 [(0, .ref 46), (1, .ref a1), (2, .int x2), (3, .int x3)] [] σ K
  refine r_iload_n (dcx dX1_anythingIsRead_c0 9 rfl) 3 rfl ?_
  refine r_iconst (v := 2) (dcx dX1_anythingIsRead_c0 10 rfl) rfl ?_
  refine r_iadd (dcx dX1_anythingIsRead_c0 11 rfl) ?_
  refine r_aload_n (dcx dX1_anythingIsRead_c0 12 rfl) 0 rfl ?_
  obtain ⟨b1_, eb1_, hb1_, hyp⟩ := hyp
  refine s_getmE fX1_21 (dcx dX1_anythingIsRead_c0 13 rfl) F46_3 eb1_ (nzP hb1_) ?_
  refine s_geti fX1_111 (dcx dX1_anythingIsRead_c0 14 rfl) (FP_12 hb1_) ?_
  refine r_icmp_ge (tgt := 71) (dcx dX1_anythingIsRead_c0 15 rfl) (by decide) (fun q_ => ?_) (fun q_ => ?_)
  · have hyp := hyp.1 q_
    refine r_iinc (lv1 := [(2, .int (x2 + 1)), (0, .ref 46), (1, .ref a1), (3, .int x3)]) (dcx dX1_anythingIsRead_c0 38 rfl) 2 rfl (Nat.le_of_ble_eq_true rfl) rfl ?_
    refine r_goto (tgt := 2) (dcx dX1_anythingIsRead_c0 39 rfl) (by decide) ?_
    refine r_loc (lv1 := [(0, .ref 46), (1, .ref a1), (2, .int (x2 + 1))]) [1, 2, 0] rfl ?_
    exact hyp
  · have hyp := hyp.2 q_
    refine r_iconst (v := 0) (dcx dX1_anythingIsRead_c0 16 rfl) rfl ?_
    refine r_istore (lv1 := [(4, .int 0), (0, .ref 46), (1, .ref a1), (2, .int x2), (3, .int x3)]) (dcx dX1_anythingIsRead_c0 17 rfl) (Nat.le_of_ble_eq_true rfl) rfl ?_
    refine r_loc (lv1 := [(0, .ref 46), (1, .ref a1), (2, .int x2), (3, .int x3), (4, .int 0)]) [1, 2, 3, 4, 0] rfl ?_
    exact hyp
set_option maxHeartbeats 4000000 in
set_option maxRecDepth 20000 in
theorem tX1_anythingIsRead_31 {Γ : GE} {l : Launch} {a1 : Nat} {x2 : Int32} {x3 : Int32} {x4 : Int32} {σ : SS} {K : Option Value → SS → Prop} (h1 : isL a1) (hyp : ∃ b1_ : Nat, σ.2.2 46 3 = b1_ ∧ isP b1_ ∧ (((σ.1 b1_ 11) ≤ (x4 + 2) → (wX1_anythingIsRead_15 Γ l a1 x2 (x3 + 1) σ K)) ∧ (¬ ((σ.1 b1_ 11) ≤ (x4 + 2)) → (C2 Γ l mX1_someoneReads [.ref 46, .ref a1, .int x2, .int x4, .int x3] σ (Ri fun r3_ s2_ => ((r3_ = 0 → (wX1_anythingIsRead_31 Γ l a1 x2 x3 (x4 + 1) s2_ K)) ∧ (¬ (r3_ = 0) → (K (some (.int 1)) s2_)))))))) : wX1_anythingIsRead_31 Γ l a1 x2 x3 x4 σ K := by
  show G2 Γ l mX1_anythingIsRead 31 [(0, .ref 46), (1, .ref a1), (2, .int x2), (3, .int x3), (4, .int x4)] [] σ K
  refine r_iload (dcx dX1_anythingIsRead_c0 18 rfl) 4 rfl ?_
  refine r_iconst (v := 2) (dcx dX1_anythingIsRead_c0 19 rfl) rfl ?_
  refine r_iadd (dcx dX1_anythingIsRead_c0 20 rfl) ?_
  refine r_aload_n (dcx dX1_anythingIsRead_c0 21 rfl) 0 rfl ?_
  obtain ⟨b1_, eb1_, hb1_, hyp⟩ := hyp
  refine s_getmE fX1_21 (dcx dX1_anythingIsRead_c0 22 rfl) F46_3 eb1_ (nzP hb1_) ?_
  refine s_geti fX1_114 (dcx dX1_anythingIsRead_c0 23 rfl) (FP_11 hb1_) ?_
  refine r_icmp_ge (tgt := 65) (dcx dX1_anythingIsRead_c0 24 rfl) (by decide) (fun q_ => ?_) (fun q_ => ?_)
  · have hyp := hyp.1 q_
    refine r_iinc (lv1 := [(3, .int (x3 + 1)), (0, .ref 46), (1, .ref a1), (2, .int x2), (4, .int x4)]) (dcx dX1_anythingIsRead_c0 36 rfl) 3 rfl (Nat.le_of_ble_eq_true rfl) rfl ?_
    refine r_goto (tgt := 15) (dcx dX1_anythingIsRead_c0 37 rfl) (by decide) ?_
    refine r_loc (lv1 := [(0, .ref 46), (1, .ref a1), (2, .int x2), (3, .int (x3 + 1))]) [1, 2, 3, 0] rfl ?_
    exact hyp
  · have hyp := hyp.2 q_
    refine r_aload_n (dcx dX1_anythingIsRead_c0 25 rfl) 0 rfl ?_
    refine r_aload_n (dcx dX1_anythingIsRead_c0 26 rfl) 1 rfl ?_
    refine r_iload_n (dcx dX1_anythingIsRead_c0 27 rfl) 2 rfl ?_
    refine r_iload (dcx dX1_anythingIsRead_c0 28 rfl) 4 rfl ?_
    refine r_iload_n (dcx dX1_anythingIsRead_c0 29 rfl) 3 rfl ?_
    refine s_callV (as := [.ref a1, .int x2, .int x4, .int x3]) (st := []) zX1_someoneReads kX1_anythingIsRead_163 (dcx dX1_anythingIsRead_c0 30 rfl) rfl rfl (Nat.le_of_ble_eq_true rfl) O46 rfl rfl (C2.mono hyp ?_)
    rintro _ s2_ ⟨r3_, rfl, hyp⟩
    show G2 Γ l mX1_anythingIsRead 54 [(0, .ref 46), (1, .ref a1), (2, .int x2), (3, .int x3), (4, .int x4)] [.int r3_] s2_ K
    refine r_if_eq (tgt := 59) (dcx dX1_anythingIsRead_c0 31 rfl) (by decide) (fun q_ => ?_) (fun q_ => ?_)
    · have hyp := hyp.1 q_
      refine r_iinc (lv1 := [(4, .int (x4 + 1)), (0, .ref 46), (1, .ref a1), (2, .int x2), (3, .int x3)]) (dcx dX1_anythingIsRead_c0 34 rfl) 4 rfl (Nat.le_of_ble_eq_true rfl) rfl ?_
      refine r_goto (tgt := 31) (dcx dX1_anythingIsRead_c0 35 rfl) (by decide) ?_
      refine r_loc (lv1 := [(0, .ref 46), (1, .ref a1), (2, .int x2), (3, .int x3), (4, .int (x4 + 1))]) [1, 2, 3, 4, 0] rfl ?_
      exact hyp
    · have hyp := hyp.2 q_
      refine r_iconst (v := 1) (dcx dX1_anythingIsRead_c0 32 rfl) rfl ?_
      exact s_ret rfl rfl rfl hyp (dcx dX1_anythingIsRead_c0 33 rfl)
set_option maxHeartbeats 4000000 in
set_option maxRecDepth 20000 in
theorem tX2_codeOfVar {Γ : GE} {l : Launch} {x0 : Int32} {σ : SS} {K : Option Value → SS → Prop}  (hyp : K (some (.int (((-1)) - x0))) σ) : C2 Γ l mX2_codeOfVar [.int x0] σ K := by
  refine c2_of (lv := [(0, .int x0)]) (by decide) (Nat.le_of_ble_eq_true rfl) rfl ?_
  refine r_iconst (v := (-1)) (dcx dX2_codeOfVar_c0 0 rfl) rfl ?_
  refine r_iload_n (dcx dX2_codeOfVar_c0 1 rfl) 0 rfl ?_
  refine r_isub (dcx dX2_codeOfVar_c0 2 rfl) ?_
  exact s_ret rfl rfl rfl hyp (dcx dX2_codeOfVar_c0 3 rfl)
set_option maxHeartbeats 4000000 in
set_option maxRecDepth 20000 in
theorem tX2_clear {Γ : GE} {l : Launch} {a0 : Nat} {σ : SS} {K : Option Value → SS → Prop} (h0 : isW a0) (hyp : ∀ s1_ : SS, s1_ = sI σ a0 2 0 → (K none s1_)) : C2 Γ l mX2_clear [.ref a0] σ K := by
  refine c2_of (lv := [(0, .ref a0)]) (by decide) (Nat.le_of_ble_eq_true rfl) rfl ?_
  refine r_aload_n (dcx dX2_clear_c0 0 rfl) 0 rfl ?_
  refine r_iconst (v := 0) (dcx dX2_clear_c0 1 rfl) rfl ?_
  refine s_puti gX2_18 (dcx dX2_clear_c0 2 rfl) (FW_2 h0) ?_
  obtain ⟨s1_, es1_⟩ : ∃ z : SS, z = sI σ a0 2 0 := ⟨_, rfl⟩
  rw [← es1_]
  have hyp := hyp s1_ es1_
  exact s_vret rfl hyp (dcx dX2_clear_c0 3 rfl)
set_option maxHeartbeats 4000000 in
set_option maxRecDepth 20000 in
theorem tX2_beOnly {Γ : GE} {l : Launch} {a0 : Nat} {x1 : Int32} {σ : SS} {K : Option Value → SS → Prop} (h0 : isW a0) (hyp : C2 Γ l mX2_clear [.ref a0] σ (Rv fun s1_ => (C2 Γ l mX2_put [.ref a0, .int x1] s1_ (Rv fun s3_ => (C2 Γ l mX2_put [.ref a0, .int ((-100))] s3_ (Rv fun s5_ => (K none s5_))))))) : C2 Γ l mX2_beOnly [.ref a0, .int x1] σ K := by
  refine c2_of (lv := [(0, .ref a0), (1, .int x1)]) (by decide) (Nat.le_of_ble_eq_true rfl) rfl ?_
  refine r_aload_n (dcx dX2_beOnly_c0 0 rfl) 0 rfl ?_
  refine s_callV (as := []) (st := []) zX2_clear kX2_beOnly_22 (dcx dX2_beOnly_c0 1 rfl) rfl rfl (Nat.le_of_ble_eq_true rfl) (OW h0) rfl rfl (C2.mono hyp ?_)
  rintro _ s1_ ⟨rfl, hyp⟩
  show G2 Γ l mX2_beOnly 4 [(0, .ref a0), (1, .int x1)] [] s1_ K
  refine r_aload_n (dcx dX2_beOnly_c0 2 rfl) 0 rfl ?_
  refine r_iload_n (dcx dX2_beOnly_c0 3 rfl) 1 rfl ?_
  refine s_callV (as := [.int x1]) (st := []) zX2_put kX2_beOnly_25 (dcx dX2_beOnly_c0 4 rfl) rfl rfl (Nat.le_of_ble_eq_true rfl) (OW h0) rfl rfl (C2.mono hyp ?_)
  rintro _ s3_ ⟨rfl, hyp⟩
  show G2 Γ l mX2_beOnly 9 [(0, .ref a0), (1, .int x1)] [] s3_ K
  refine r_aload_n (dcx dX2_beOnly_c0 5 rfl) 0 rfl ?_
  refine r_bipush (v := (-100)) (dcx dX2_beOnly_c0 6 rfl) rfl ?_
  refine s_callV (as := [.int ((-100))]) (st := []) zX2_put kX2_beOnly_25 (dcx dX2_beOnly_c0 7 rfl) rfl rfl (Nat.le_of_ble_eq_true rfl) (OW h0) rfl rfl (C2.mono hyp ?_)
  rintro _ s5_ ⟨rfl, hyp⟩
  show G2 Γ l mX2_beOnly 15 [(0, .ref a0), (1, .int x1)] [] s5_ K
  exact s_vret rfl hyp (dcx dX2_beOnly_c0 8 rfl)
set_option maxHeartbeats 4000000 in
set_option maxRecDepth 20000 in
theorem tX2_put {Γ : GE} {l : Launch} {a0 : Nat} {x1 : Int32} {σ : SS} {K : Option Value → SS → Prop} (h0 : isW a0) (hyp : ((Int32.ofNat 401) ≤ (σ.1 a0 2) → (K none σ)) ∧ (¬ ((Int32.ofNat 401) ≤ (σ.1 a0 2)) → (vp_in (σ.1 a0 2) 401 ∧ (∀ s1_ : SS, s1_ = sI σ (a0 + 1) (Int32.toNatClampNeg (σ.1 a0 2)) x1 → (∀ s2_ : SS, s2_ = sI s1_ a0 2 ((s1_.1 a0 2) + 1) → (K none s2_)))))) : C2 Γ l mX2_put [.ref a0, .int x1] σ K := by
  refine c2_of (lv := [(0, .ref a0), (1, .int x1)]) (by decide) (Nat.le_of_ble_eq_true rfl) rfl ?_
  refine r_aload_n (dcx dX2_put_c0 0 rfl) 0 rfl ?_
  refine s_geti fX2_18 (dcx dX2_put_c0 1 rfl) (FW_2 h0) ?_
  refine r_aload_n (dcx dX2_put_c0 2 rfl) 0 rfl ?_
  refine s_getr (b := a0 + 1) fX2_9 (dcx dX2_put_c0 3 rfl) (FW_0 h0) ?_
  refine s_alen (dcx dX2_put_c0 4 rfl) (AW_0 h0) ?_
  refine r_icmp_ge (tgt := 32) (dcx dX2_put_c0 5 rfl) (by decide) (fun q_ => ?_) (fun q_ => ?_)
  · have hyp := hyp.1 q_
    exact s_vret rfl hyp (dcx dX2_put_c0 18 rfl)
  · have hyp := hyp.2 q_
    refine r_aload_n (dcx dX2_put_c0 6 rfl) 0 rfl ?_
    refine s_getr (b := a0 + 1) fX2_9 (dcx dX2_put_c0 7 rfl) (FW_0 h0) ?_
    refine r_aload_n (dcx dX2_put_c0 8 rfl) 0 rfl ?_
    refine s_geti fX2_18 (dcx dX2_put_c0 9 rfl) (FW_2 h0) ?_
    refine r_iload_n (dcx dX2_put_c0 10 rfl) 1 rfl ?_
    obtain ⟨hb_, hyp⟩ := hyp
    refine s_iast (dcx dX2_put_c0 11 rfl) (AW_0 h0) hb_ ?_
    obtain ⟨s1_, es1_⟩ : ∃ z : SS, z = sI σ (a0 + 1) (Int32.toNatClampNeg (σ.1 a0 2)) x1 := ⟨_, rfl⟩
    rw [← es1_]
    have hyp := hyp s1_ es1_
    refine r_aload_n (dcx dX2_put_c0 12 rfl) 0 rfl ?_
    refine r_dup (dcx dX2_put_c0 13 rfl) rfl ?_
    refine s_geti fX2_18 (dcx dX2_put_c0 14 rfl) (FW_2 h0) ?_
    refine r_iconst (v := 1) (dcx dX2_put_c0 15 rfl) rfl ?_
    refine r_iadd (dcx dX2_put_c0 16 rfl) ?_
    refine s_puti gX2_18 (dcx dX2_put_c0 17 rfl) (FW_2 h0) ?_
    obtain ⟨s2_, es2_⟩ : ∃ z : SS, z = sI s1_ a0 2 ((s1_.1 a0 2) + 1) := ⟨_, rfl⟩
    rw [← es2_]
    have hyp := hyp s2_ es2_
    exact s_vret rfl hyp (dcx dX2_put_c0 18 rfl)
set_option maxHeartbeats 4000000 in
set_option maxRecDepth 20000 in
theorem tX2_fill {Γ : GE} {l : Launch} {a0 : Nat} {x1 : Int32} {x2 : Int32} {σ : SS} {K : Option Value → SS → Prop} (h0 : isW a0) (hyp : (x1 < 0 → (K none σ)) ∧ (¬ (x1 < 0) → (((σ.1 a0 2) ≤ x1 → (K none σ)) ∧ (¬ ((σ.1 a0 2) ≤ x1) → (vp_in x1 401 ∧ (∀ s1_ : SS, s1_ = sI σ (a0 + 1) (Int32.toNatClampNeg x1) x2 → (K none s1_))))))) : C2 Γ l mX2_fill [.ref a0, .int x1, .int x2] σ K := by
  refine c2_of (lv := [(0, .ref a0), (1, .int x1), (2, .int x2)]) (by decide) (Nat.le_of_ble_eq_true rfl) rfl ?_
  refine r_iload_n (dcx dX2_fill_c0 0 rfl) 1 rfl ?_
  refine r_if_lt (tgt := 19) (dcx dX2_fill_c0 1 rfl) (by decide) (fun q_ => ?_) (fun q_ => ?_)
  · have hyp := hyp.1 q_
    exact s_vret rfl hyp (dcx dX2_fill_c0 11 rfl)
  · have hyp := hyp.2 q_
    refine r_iload_n (dcx dX2_fill_c0 2 rfl) 1 rfl ?_
    refine r_aload_n (dcx dX2_fill_c0 3 rfl) 0 rfl ?_
    refine s_geti fX2_18 (dcx dX2_fill_c0 4 rfl) (FW_2 h0) ?_
    refine r_icmp_ge (tgt := 19) (dcx dX2_fill_c0 5 rfl) (by decide) (fun q_ => ?_) (fun q_ => ?_)
    · have hyp := hyp.1 q_
      exact s_vret rfl hyp (dcx dX2_fill_c0 11 rfl)
    · have hyp := hyp.2 q_
      refine r_aload_n (dcx dX2_fill_c0 6 rfl) 0 rfl ?_
      refine s_getr (b := a0 + 1) fX2_9 (dcx dX2_fill_c0 7 rfl) (FW_0 h0) ?_
      refine r_iload_n (dcx dX2_fill_c0 8 rfl) 1 rfl ?_
      refine r_iload_n (dcx dX2_fill_c0 9 rfl) 2 rfl ?_
      obtain ⟨hb_, hyp⟩ := hyp
      refine s_iast (dcx dX2_fill_c0 10 rfl) (AW_0 h0) hb_ ?_
      obtain ⟨s1_, es1_⟩ : ∃ z : SS, z = sI σ (a0 + 1) (Int32.toNatClampNeg x1) x2 := ⟨_, rfl⟩
      rw [← es1_]
      have hyp := hyp s1_ es1_
      exact s_vret rfl hyp (dcx dX2_fill_c0 11 rfl)
def wX2_uses_2 (Γ : GE) (l : Launch) (a0 : Nat) (x1 : Int32) (x2 : Int32) (σ : SS) (K : Option Value → SS → Prop) : Prop := G2 Γ l mX2_uses 2 [(0, .ref a0), (1, .int x1), (2, .int x2)] [] σ K
set_option maxHeartbeats 4000000 in
set_option maxRecDepth 20000 in
theorem tX2_uses {Γ : GE} {l : Launch} {a0 : Nat} {x1 : Int32} {σ : SS} {K : Option Value → SS → Prop} (h0 : isW a0) (hyp : wX2_uses_2 Γ l a0 x1 0 σ K) : C2 Γ l mX2_uses [.ref a0, .int x1] σ K := by
  refine c2_of (lv := [(0, .ref a0), (1, .int x1)]) (by decide) (Nat.le_of_ble_eq_true rfl) rfl ?_
  refine r_iconst (v := 0) (dcx dX2_uses_c0 0 rfl) rfl ?_
  refine r_istore_n (lv1 := [(2, .int 0), (0, .ref a0), (1, .int x1)]) (dcx dX2_uses_c0 1 rfl) (Nat.le_of_ble_eq_true rfl) rfl ?_
  refine r_loc (lv1 := [(0, .ref a0), (1, .int x1), (2, .int 0)]) [1, 2, 0] rfl ?_
  exact hyp
set_option maxHeartbeats 4000000 in
set_option maxRecDepth 20000 in
theorem tX2_uses_2 {Γ : GE} {l : Launch} {a0 : Nat} {x1 : Int32} {x2 : Int32} {σ : SS} {K : Option Value → SS → Prop} (h0 : isW a0) (hyp : ((σ.1 a0 2) ≤ x2 → (K (some (.int 0)) σ)) ∧ (¬ ((σ.1 a0 2) ≤ x2) → (vp_in x2 401 ∧ (C2 Γ l mX2_codeOfVar [.int x1] σ (Ri fun r2_ s1_ => ((¬ (σ.1 (a0 + 1) (Int32.toNatClampNeg x2)) = r2_ → (wX2_uses_2 Γ l a0 x1 (x2 + 1) s1_ K)) ∧ ((σ.1 (a0 + 1) (Int32.toNatClampNeg x2)) = r2_ → (K (some (.int 1)) s1_)))))))) : wX2_uses_2 Γ l a0 x1 x2 σ K := by
  show G2 Γ l mX2_uses 2 [(0, .ref a0), (1, .int x1), (2, .int x2)] [] σ K
  refine r_iload_n (dcx dX2_uses_c0 2 rfl) 2 rfl ?_
  refine r_aload_n (dcx dX2_uses_c0 3 rfl) 0 rfl ?_
  refine s_geti fX2_18 (dcx dX2_uses_c0 4 rfl) (FW_2 h0) ?_
  refine r_icmp_ge (tgt := 31) (dcx dX2_uses_c0 5 rfl) (by decide) (fun q_ => ?_) (fun q_ => ?_)
  · have hyp := hyp.1 q_
    refine r_iconst (v := 0) (dcx dX2_uses_c0 17 rfl) rfl ?_
    exact s_ret rfl rfl rfl hyp (dcx dX2_uses_c0 18 rfl)
  · have hyp := hyp.2 q_
    refine r_aload_n (dcx dX2_uses_c0 6 rfl) 0 rfl ?_
    refine s_getr (b := a0 + 1) fX2_9 (dcx dX2_uses_c0 7 rfl) (FW_0 h0) ?_
    refine r_iload_n (dcx dX2_uses_c0 8 rfl) 2 rfl ?_
    obtain ⟨hb_, hyp⟩ := hyp
    refine s_iald (dcx dX2_uses_c0 9 rfl) (AW_0 h0) hb_ ?_
    refine r_iload_n (dcx dX2_uses_c0 10 rfl) 1 rfl ?_
    refine s_callS (as := [.int x1]) (st := [.int (σ.1 (a0 + 1) (Int32.toNatClampNeg x2))]) zX2_codeOfVar kX2_uses_29 (dcx dX2_uses_c0 11 rfl) rfl rfl (Nat.le_of_ble_eq_true rfl) (C2.mono hyp ?_)
    rintro _ s1_ ⟨r2_, rfl, hyp⟩
    show G2 Γ l mX2_uses 20 [(0, .ref a0), (1, .int x1), (2, .int x2)] [.int r2_, .int (σ.1 (a0 + 1) (Int32.toNatClampNeg x2))] s1_ K
    refine r_icmp_ne (tgt := 25) (dcx dX2_uses_c0 12 rfl) (by decide) (fun q_ => ?_) (fun q_ => ?_)
    · have hyp := hyp.1 q_
      refine r_iinc (lv1 := [(2, .int (x2 + 1)), (0, .ref a0), (1, .int x1)]) (dcx dX2_uses_c0 15 rfl) 2 rfl (Nat.le_of_ble_eq_true rfl) rfl ?_
      refine r_goto (tgt := 2) (dcx dX2_uses_c0 16 rfl) (by decide) ?_
      refine r_loc (lv1 := [(0, .ref a0), (1, .int x1), (2, .int (x2 + 1))]) [1, 2, 0] rfl ?_
      exact hyp
    · have hyp := hyp.2 q_
      refine r_iconst (v := 1) (dcx dX2_uses_c0 13 rfl) rfl ?_
      exact s_ret rfl rfl rfl hyp (dcx dX2_uses_c0 14 rfl)
def wX2_worth_4 (Γ : GE) (l : Launch) (a0 : Nat) (a1 : Nat) (n1 : Nat) (x2 : Int32) (x3 : Int32) (σ : SS) (K : Option Value → SS → Prop) : Prop := G2 Γ l mX2_worth 4 [(0, .ref a0), (1, .ref a1), (2, .int x2), (3, .int x3)] [] σ K
def wX2_worth_181 (Γ : GE) (l : Launch) (a0 : Nat) (a1 : Nat) (n1 : Nat) (x2 : Int32) (x3 : Int32) (x4 : Int32) (x5 : Int32) (x6 : Int32) (σ : SS) (K : Option Value → SS → Prop) : Prop := G2 Γ l mX2_worth 181 [(0, .ref a0), (1, .ref a1), (2, .int x2), (3, .int x3), (4, .int x4), (5, .int x5), (6, .int x6)] [] σ K
def wX2_worth_201 (Γ : GE) (l : Launch) (a0 : Nat) (a1 : Nat) (n1 : Nat) (x2 : Int32) (x3 : Int32) (σ : SS) (K : Option Value → SS → Prop) : Prop := G2 Γ l mX2_worth 201 [(0, .ref a0), (1, .ref a1), (2, .int x2), (3, .int x3)] [] σ K
set_option maxHeartbeats 4000000 in
set_option maxRecDepth 20000 in
theorem tX2_worth {Γ : GE} {l : Launch} {a0 : Nat} {a1 : Nat} {n1 : Nat} {σ : SS} {K : Option Value → SS → Prop} (h0 : isW a0) (h1 : shA a1 = some (.int, n1)) (hyp : wX2_worth_4 Γ l a0 a1 n1 0 0 σ K) : C2 Γ l mX2_worth [.ref a0, .ref a1] σ K := by
  refine c2_of (lv := [(0, .ref a0), (1, .ref a1)]) (by decide) (Nat.le_of_ble_eq_true rfl) rfl ?_
  refine r_iconst (v := 0) (dcx dX2_worth_c0 0 rfl) rfl ?_
  refine r_istore_n (lv1 := [(2, .int 0), (0, .ref a0), (1, .ref a1)]) (dcx dX2_worth_c0 1 rfl) (Nat.le_of_ble_eq_true rfl) rfl ?_
  refine r_iconst (v := 0) (dcx dX2_worth_c0 2 rfl) rfl ?_
  refine r_istore_n (lv1 := [(3, .int 0), (2, .int 0), (0, .ref a0), (1, .ref a1)]) (dcx dX2_worth_c0 3 rfl) (Nat.le_of_ble_eq_true rfl) rfl ?_
  refine r_loc (lv1 := [(0, .ref a0), (1, .ref a1), (2, .int 0), (3, .int 0)]) [2, 3, 1, 0] rfl ?_
  exact hyp
set_option maxHeartbeats 4000000 in
set_option maxRecDepth 20000 in
theorem tX2_worth_4 {Γ : GE} {l : Launch} {a0 : Nat} {a1 : Nat} {n1 : Nat} {x2 : Int32} {x3 : Int32} {σ : SS} {K : Option Value → SS → Prop} (h0 : isW a0) (h1 : shA a1 = some (.int, n1)) (hyp : ((σ.1 a0 2) ≤ x3 → (K (some (.int 0)) σ)) ∧ (¬ ((σ.1 a0 2) ≤ x3) → (vp_in x3 401 ∧ (((σ.1 (a0 + 1) (Int32.toNatClampNeg x3)) < ((-9)) → ((¬ (σ.1 (a0 + 1) (Int32.toNatClampNeg x3)) = ((-100)) → (((2 : Int32) ≤ x2 → (vp_in (x2 - 2) 20 ∧ (vp_in (x2 - 1) 20 ∧ ((¬ (σ.1 (a0 + 1) (Int32.toNatClampNeg x3)) = ((-101)) → ((¬ (σ.1 (a0 + 1) (Int32.toNatClampNeg x3)) = ((-47)) → (wX2_worth_181 Γ l a0 a1 n1 x2 x3 (σ.1 (a0 + 1) (Int32.toNatClampNeg x3)) (σ.1 (a0 + 2) (Int32.toNatClampNeg (x2 - 2))) (σ.1 (a0 + 2) (Int32.toNatClampNeg (x2 - 1))) σ K)) ∧ ((σ.1 (a0 + 1) (Int32.toNatClampNeg x3)) = ((-47)) → ((¬ (σ.1 (a0 + 2) (Int32.toNatClampNeg (x2 - 1))) = 0 → (wX2_worth_181 Γ l a0 a1 n1 x2 x3 (σ.1 (a0 + 1) (Int32.toNatClampNeg x3)) (σ.1 (a0 + 2) (Int32.toNatClampNeg (x2 - 2))) (σ.1 (a0 + 2) (Int32.toNatClampNeg (x2 - 1))) σ K)) ∧ ((σ.1 (a0 + 2) (Int32.toNatClampNeg (x2 - 1))) = 0 → (K (some (.int 0)) σ)))))) ∧ ((σ.1 (a0 + 1) (Int32.toNatClampNeg x3)) = ((-101)) → (((σ.1 (a0 + 2) (Int32.toNatClampNeg (x2 - 2))) < (σ.1 (a0 + 2) (Int32.toNatClampNeg (x2 - 1))) → (wX2_worth_201 Γ l a0 a1 n1 (x2 + (-2)) (x3 + 1) σ K)) ∧ (¬ ((σ.1 (a0 + 2) (Int32.toNatClampNeg (x2 - 2))) < (σ.1 (a0 + 2) (Int32.toNatClampNeg (x2 - 1)))) → (((σ.1 a0 2) ≤ (x3 + 1) → (wX2_worth_201 Γ l a0 a1 n1 (x2 + (-2)) (x3 + 1) σ K)) ∧ (¬ ((σ.1 a0 2) ≤ (x3 + 1)) → (vp_in (x3 + 1) 401 ∧ (((σ.1 (a0 + 1) (Int32.toNatClampNeg (x3 + 1))) ≤ (x3 + 1) → (wX2_worth_201 Γ l a0 a1 n1 (x2 + (-2)) (x3 + 1) σ K)) ∧ (¬ ((σ.1 (a0 + 1) (Int32.toNatClampNeg (x3 + 1))) ≤ (x3 + 1)) → (vp_in (x3 + 1) 401 ∧ (wX2_worth_201 Γ l a0 a1 n1 (x2 + (-2)) ((σ.1 (a0 + 1) (Int32.toNatClampNeg (x3 + 1))) - 1) σ K)))))))))))))) ∧ (¬ ((2 : Int32) ≤ x2) → (K (some (.int 0)) σ)))) ∧ ((σ.1 (a0 + 1) (Int32.toNatClampNeg x3)) = ((-100)) → ((x2 ≤ 0 → (K (some (.int 0)) σ)) ∧ (¬ (x2 ≤ 0) → (vp_in (x2 - 1) 20 ∧ (K (some (.int (σ.1 (a0 + 2) (Int32.toNatClampNeg (x2 - 1))))) σ))))))) ∧ (¬ ((σ.1 (a0 + 1) (Int32.toNatClampNeg x3)) < ((-9))) → ((x2 < (Int32.ofNat 20) → (((σ.1 (a0 + 1) (Int32.toNatClampNeg x3)) < 0 → (vp_in (((-1)) - (σ.1 (a0 + 1) (Int32.toNatClampNeg x3))) n1 ∧ (vp_in x2 20 ∧ (∀ s1_ : SS, s1_ = sI σ (a0 + 2) (Int32.toNatClampNeg x2) (σ.1 a1 (Int32.toNatClampNeg (((-1)) - (σ.1 (a0 + 1) (Int32.toNatClampNeg x3))))) → (wX2_worth_201 Γ l a0 a1 n1 (x2 + 1) x3 s1_ K))))) ∧ (¬ ((σ.1 (a0 + 1) (Int32.toNatClampNeg x3)) < 0) → (vp_in x2 20 ∧ (∀ s2_ : SS, s2_ = sI σ (a0 + 2) (Int32.toNatClampNeg x2) (σ.1 (a0 + 1) (Int32.toNatClampNeg x3)) → (wX2_worth_201 Γ l a0 a1 n1 (x2 + 1) x3 s2_ K)))))) ∧ (¬ (x2 < (Int32.ofNat 20)) → (K (some (.int 0)) σ)))))))) : wX2_worth_4 Γ l a0 a1 n1 x2 x3 σ K := by
  show G2 Γ l mX2_worth 4 [(0, .ref a0), (1, .ref a1), (2, .int x2), (3, .int x3)] [] σ K
  refine r_iload_n (dcx dX2_worth_c0 4 rfl) 3 rfl ?_
  refine r_aload_n (dcx dX2_worth_c0 5 rfl) 0 rfl ?_
  refine s_geti fX2_18 (dcx dX2_worth_c0 6 rfl) (FW_2 h0) ?_
  refine r_icmp_ge (tgt := 207) (dcx dX2_worth_c0 7 rfl) (by decide) (fun q_ => ?_) (fun q_ => ?_)
  · have hyp := hyp.1 q_
    refine r_iconst (v := 0) (dcx dX2_worth_c2 37 rfl) rfl ?_
    exact s_ret rfl rfl rfl hyp (dcx dX2_worth_c2 38 rfl)
  · have hyp := hyp.2 q_
    refine r_aload_n (dcx dX2_worth_c0 8 rfl) 0 rfl ?_
    refine s_getr (b := a0 + 1) fX2_9 (dcx dX2_worth_c0 9 rfl) (FW_0 h0) ?_
    refine r_iload_n (dcx dX2_worth_c0 10 rfl) 3 rfl ?_
    obtain ⟨hb_, hyp⟩ := hyp
    refine s_iald (dcx dX2_worth_c0 11 rfl) (AW_0 h0) hb_ ?_
    refine r_istore (lv1 := [(4, .int (σ.1 (a0 + 1) (Int32.toNatClampNeg x3))), (0, .ref a0), (1, .ref a1), (2, .int x2), (3, .int x3)]) (dcx dX2_worth_c0 12 rfl) (Nat.le_of_ble_eq_true rfl) rfl ?_
    refine r_iload (dcx dX2_worth_c0 13 rfl) 0 rfl ?_
    refine r_bipush (v := (-9)) (dcx dX2_worth_c0 14 rfl) rfl ?_
    refine r_icmp_lt (tgt := 66) (dcx dX2_worth_c0 15 rfl) (by decide) (fun q_ => ?_) (fun q_ => ?_)
    · have hyp := hyp.1 q_
      refine r_iload (dcx dX2_worth_c0 38 rfl) 0 rfl ?_
      refine r_bipush (v := (-100)) (dcx dX2_worth_c0 39 rfl) rfl ?_
      refine r_icmp_ne (tgt := 90) (dcx dX2_worth_c1 0 rfl) (by decide) (fun q_ => ?_) (fun q_ => ?_)
      · have hyp := hyp.1 q_
        refine r_iload_n (dcx dX2_worth_c1 12 rfl) 3 rfl ?_
        refine r_iconst (v := 2) (dcx dX2_worth_c1 13 rfl) rfl ?_
        refine r_icmp_ge (tgt := 97) (dcx dX2_worth_c1 14 rfl) (by decide) (fun q_ => ?_) (fun q_ => ?_)
        · have hyp := hyp.1 q_
          refine r_aload_n (dcx dX2_worth_c1 17 rfl) 1 rfl ?_
          refine s_getr (b := a0 + 2) fX2_15 (dcx dX2_worth_c1 18 rfl) (FW_1 h0) ?_
          refine r_iload_n (dcx dX2_worth_c1 19 rfl) 3 rfl ?_
          refine r_iconst (v := 2) (dcx dX2_worth_c1 20 rfl) rfl ?_
          refine r_isub (dcx dX2_worth_c1 21 rfl) ?_
          obtain ⟨hb_, hyp⟩ := hyp
          refine s_iald (dcx dX2_worth_c1 22 rfl) (AW_1 h0) hb_ ?_
          refine r_istore (lv1 := [(5, .int (σ.1 (a0 + 2) (Int32.toNatClampNeg (x2 - 2)))), (4, .int (σ.1 (a0 + 1) (Int32.toNatClampNeg x3))), (0, .ref a0), (1, .ref a1), (2, .int x2), (3, .int x3)]) (dcx dX2_worth_c1 23 rfl) (Nat.le_of_ble_eq_true rfl) rfl ?_
          refine r_aload_n (dcx dX2_worth_c1 24 rfl) 2 rfl ?_
          refine s_getr (b := a0 + 2) fX2_15 (dcx dX2_worth_c1 25 rfl) (FW_1 h0) ?_
          refine r_iload_n (dcx dX2_worth_c1 26 rfl) 4 rfl ?_
          refine r_iconst (v := 1) (dcx dX2_worth_c1 27 rfl) rfl ?_
          refine r_isub (dcx dX2_worth_c1 28 rfl) ?_
          obtain ⟨hb_, hyp⟩ := hyp
          refine s_iald (dcx dX2_worth_c1 29 rfl) (AW_1 h0) hb_ ?_
          refine r_istore (lv1 := [(6, .int (σ.1 (a0 + 2) (Int32.toNatClampNeg (x2 - 1)))), (5, .int (σ.1 (a0 + 2) (Int32.toNatClampNeg (x2 - 2)))), (4, .int (σ.1 (a0 + 1) (Int32.toNatClampNeg x3))), (0, .ref a0), (1, .ref a1), (2, .int x2), (3, .int x3)]) (dcx dX2_worth_c1 30 rfl) (Nat.le_of_ble_eq_true rfl) rfl ?_
          refine r_iload (dcx dX2_worth_c1 31 rfl) 2 rfl ?_
          refine r_bipush (v := (-101)) (dcx dX2_worth_c1 32 rfl) rfl ?_
          refine r_icmp_ne (tgt := 167) (dcx dX2_worth_c1 33 rfl) (by decide) (fun q_ => ?_) (fun q_ => ?_)
          · have hyp := hyp.1 q_
            refine r_iload (dcx dX2_worth_c2 17 rfl) 2 rfl ?_
            refine r_bipush (v := (-47)) (dcx dX2_worth_c2 18 rfl) rfl ?_
            refine r_icmp_ne (tgt := 181) (dcx dX2_worth_c2 19 rfl) (by decide) (fun q_ => ?_) (fun q_ => ?_)
            · have hyp := hyp.1 q_
              refine r_loc (lv1 := [(0, .ref a0), (1, .ref a1), (2, .int x2), (3, .int x3), (4, .int (σ.1 (a0 + 1) (Int32.toNatClampNeg x3))), (5, .int (σ.1 (a0 + 2) (Int32.toNatClampNeg (x2 - 2)))), (6, .int (σ.1 (a0 + 2) (Int32.toNatClampNeg (x2 - 1))))]) [3, 4, 5, 6, 2, 1, 0] rfl ?_
              exact hyp
            · have hyp := hyp.2 q_
              refine r_iload (dcx dX2_worth_c2 20 rfl) 0 rfl ?_
              refine r_if_ne (tgt := 181) (dcx dX2_worth_c2 21 rfl) (by decide) (fun q_ => ?_) (fun q_ => ?_)
              · have hyp := hyp.1 q_
                refine r_loc (lv1 := [(0, .ref a0), (1, .ref a1), (2, .int x2), (3, .int x3), (4, .int (σ.1 (a0 + 1) (Int32.toNatClampNeg x3))), (5, .int (σ.1 (a0 + 2) (Int32.toNatClampNeg (x2 - 2)))), (6, .int (σ.1 (a0 + 2) (Int32.toNatClampNeg (x2 - 1))))]) [3, 4, 5, 6, 2, 1, 0] rfl ?_
                exact hyp
              · have hyp := hyp.2 q_
                refine r_iconst (v := 0) (dcx dX2_worth_c2 22 rfl) rfl ?_
                exact s_ret rfl rfl rfl hyp (dcx dX2_worth_c2 23 rfl)
          · have hyp := hyp.2 q_
            refine r_iinc (lv1 := [(2, .int (x2 + (-2))), (6, .int (σ.1 (a0 + 2) (Int32.toNatClampNeg (x2 - 1)))), (5, .int (σ.1 (a0 + 2) (Int32.toNatClampNeg (x2 - 2)))), (4, .int (σ.1 (a0 + 1) (Int32.toNatClampNeg x3))), (0, .ref a0), (1, .ref a1), (3, .int x3)]) (dcx dX2_worth_c1 34 rfl) 5 rfl (Nat.le_of_ble_eq_true rfl) rfl ?_
            refine r_iinc (lv1 := [(3, .int (x3 + 1)), (2, .int (x2 + (-2))), (6, .int (σ.1 (a0 + 2) (Int32.toNatClampNeg (x2 - 1)))), (5, .int (σ.1 (a0 + 2) (Int32.toNatClampNeg (x2 - 2)))), (4, .int (σ.1 (a0 + 1) (Int32.toNatClampNeg x3))), (0, .ref a0), (1, .ref a1)]) (dcx dX2_worth_c1 35 rfl) 6 rfl (Nat.le_of_ble_eq_true rfl) rfl ?_
            refine r_iload (dcx dX2_worth_c1 36 rfl) 3 rfl ?_
            refine r_iload (dcx dX2_worth_c1 37 rfl) 2 rfl ?_
            refine r_icmp_lt (tgt := 201) (dcx dX2_worth_c1 38 rfl) (by decide) (fun q_ => ?_) (fun q_ => ?_)
            · have hyp := hyp.1 q_
              refine r_loc (lv1 := [(0, .ref a0), (1, .ref a1), (2, .int (x2 + (-2))), (3, .int (x3 + 1))]) [5, 6, 1, 0] rfl ?_
              exact hyp
            · have hyp := hyp.2 q_
              refine r_iload_n (dcx dX2_worth_c1 39 rfl) 0 rfl ?_
              refine r_aload_n (dcx dX2_worth_c2 0 rfl) 5 rfl ?_
              refine s_geti fX2_18 (dcx dX2_worth_c2 1 rfl) (FW_2 h0) ?_
              refine r_icmp_ge (tgt := 201) (dcx dX2_worth_c2 2 rfl) (by decide) (fun q_ => ?_) (fun q_ => ?_)
              · have hyp := hyp.1 q_
                refine r_loc (lv1 := [(0, .ref a0), (1, .ref a1), (2, .int (x2 + (-2))), (3, .int (x3 + 1))]) [5, 6, 1, 0] rfl ?_
                exact hyp
              · have hyp := hyp.2 q_
                refine r_aload_n (dcx dX2_worth_c2 3 rfl) 5 rfl ?_
                refine s_getr (b := a0 + 1) fX2_9 (dcx dX2_worth_c2 4 rfl) (FW_0 h0) ?_
                refine r_iload_n (dcx dX2_worth_c2 5 rfl) 0 rfl ?_
                obtain ⟨hb_, hyp⟩ := hyp
                refine s_iald (dcx dX2_worth_c2 6 rfl) (AW_0 h0) hb_ ?_
                refine r_iload_n (dcx dX2_worth_c2 7 rfl) 0 rfl ?_
                refine r_icmp_le (tgt := 201) (dcx dX2_worth_c2 8 rfl) (by decide) (fun q_ => ?_) (fun q_ => ?_)
                · have hyp := hyp.1 q_
                  refine r_loc (lv1 := [(0, .ref a0), (1, .ref a1), (2, .int (x2 + (-2))), (3, .int (x3 + 1))]) [5, 6, 1, 0] rfl ?_
                  exact hyp
                · have hyp := hyp.2 q_
                  refine r_aload_n (dcx dX2_worth_c2 9 rfl) 5 rfl ?_
                  refine s_getr (b := a0 + 1) fX2_9 (dcx dX2_worth_c2 10 rfl) (FW_0 h0) ?_
                  refine r_iload_n (dcx dX2_worth_c2 11 rfl) 0 rfl ?_
                  obtain ⟨hb_, hyp⟩ := hyp
                  refine s_iald (dcx dX2_worth_c2 12 rfl) (AW_0 h0) hb_ ?_
                  refine r_iconst (v := 1) (dcx dX2_worth_c2 13 rfl) rfl ?_
                  refine r_isub (dcx dX2_worth_c2 14 rfl) ?_
                  refine r_istore_n (lv1 := [(3, .int ((σ.1 (a0 + 1) (Int32.toNatClampNeg (x3 + 1))) - 1)), (2, .int (x2 + (-2))), (6, .int (σ.1 (a0 + 2) (Int32.toNatClampNeg (x2 - 1)))), (5, .int (σ.1 (a0 + 2) (Int32.toNatClampNeg (x2 - 2)))), (4, .int (σ.1 (a0 + 1) (Int32.toNatClampNeg x3))), (0, .ref a0), (1, .ref a1)]) (dcx dX2_worth_c2 15 rfl) (Nat.le_of_ble_eq_true rfl) rfl ?_
                  refine r_goto (tgt := 201) (dcx dX2_worth_c2 16 rfl) (by decide) ?_
                  refine r_loc (lv1 := [(0, .ref a0), (1, .ref a1), (2, .int (x2 + (-2))), (3, .int ((σ.1 (a0 + 1) (Int32.toNatClampNeg (x3 + 1))) - 1))]) [5, 6, 1, 0] rfl ?_
                  exact hyp
        · have hyp := hyp.2 q_
          refine r_iconst (v := 0) (dcx dX2_worth_c1 15 rfl) rfl ?_
          exact s_ret rfl rfl rfl hyp (dcx dX2_worth_c1 16 rfl)
      · have hyp := hyp.2 q_
        refine r_iload_n (dcx dX2_worth_c1 1 rfl) 3 rfl ?_
        refine r_if_le (tgt := 88) (dcx dX2_worth_c1 2 rfl) (by decide) (fun q_ => ?_) (fun q_ => ?_)
        · have hyp := hyp.1 q_
          refine r_iconst (v := 0) (dcx dX2_worth_c1 10 rfl) rfl ?_
          exact s_ret rfl rfl rfl hyp (dcx dX2_worth_c1 11 rfl)
        · have hyp := hyp.2 q_
          refine r_aload_n (dcx dX2_worth_c1 3 rfl) 1 rfl ?_
          refine s_getr (b := a0 + 2) fX2_15 (dcx dX2_worth_c1 4 rfl) (FW_1 h0) ?_
          refine r_iload_n (dcx dX2_worth_c1 5 rfl) 3 rfl ?_
          refine r_iconst (v := 1) (dcx dX2_worth_c1 6 rfl) rfl ?_
          refine r_isub (dcx dX2_worth_c1 7 rfl) ?_
          obtain ⟨hb_, hyp⟩ := hyp
          refine s_iald (dcx dX2_worth_c1 8 rfl) (AW_1 h0) hb_ ?_
          refine r_goto (tgt := 89) (dcx dX2_worth_c1 9 rfl) (by decide) ?_
          exact s_ret rfl rfl rfl hyp (dcx dX2_worth_c1 11 rfl)
    · have hyp := hyp.2 q_
      refine r_iload_n (dcx dX2_worth_c0 16 rfl) 3 rfl ?_
      refine r_aload_n (dcx dX2_worth_c0 17 rfl) 1 rfl ?_
      refine s_getr (b := a0 + 2) fX2_15 (dcx dX2_worth_c0 18 rfl) (FW_1 h0) ?_
      refine s_alen (dcx dX2_worth_c0 19 rfl) (AW_1 h0) ?_
      refine r_icmp_lt (tgt := 38) (dcx dX2_worth_c0 20 rfl) (by decide) (fun q_ => ?_) (fun q_ => ?_)
      · have hyp := hyp.1 q_
        refine r_aload_n (dcx dX2_worth_c0 23 rfl) 1 rfl ?_
        refine s_getr (b := a0 + 2) fX2_15 (dcx dX2_worth_c0 24 rfl) (FW_1 h0) ?_
        refine r_iload_n (dcx dX2_worth_c0 25 rfl) 3 rfl ?_
        refine r_iload (dcx dX2_worth_c0 26 rfl) 0 rfl ?_
        refine r_if_lt (tgt := 53) (dcx dX2_worth_c0 27 rfl) (by decide) (fun q_ => ?_) (fun q_ => ?_)
        · have hyp := hyp.1 q_
          refine r_aload_n (dcx dX2_worth_c0 30 rfl) 2 rfl ?_
          refine r_iconst (v := (-1)) (dcx dX2_worth_c0 31 rfl) rfl ?_
          refine r_iload (dcx dX2_worth_c0 32 rfl) 0 rfl ?_
          refine r_isub (dcx dX2_worth_c0 33 rfl) ?_
          obtain ⟨hb_, hyp⟩ := hyp
          refine s_iald (dcx dX2_worth_c0 34 rfl) h1 hb_ ?_
          obtain ⟨hb_, hyp⟩ := hyp
          refine s_iast (dcx dX2_worth_c0 35 rfl) (AW_1 h0) hb_ ?_
          obtain ⟨s1_, es1_⟩ : ∃ z : SS, z = sI σ (a0 + 2) (Int32.toNatClampNeg x2) (σ.1 a1 (Int32.toNatClampNeg (((-1)) - (σ.1 (a0 + 1) (Int32.toNatClampNeg x3))))) := ⟨_, rfl⟩
          rw [← es1_]
          have hyp := hyp s1_ es1_
          refine r_iinc (lv1 := [(2, .int (x2 + 1)), (4, .int (σ.1 (a0 + 1) (Int32.toNatClampNeg x3))), (0, .ref a0), (1, .ref a1), (3, .int x3)]) (dcx dX2_worth_c0 36 rfl) 3 rfl (Nat.le_of_ble_eq_true rfl) rfl ?_
          refine r_goto (tgt := 201) (dcx dX2_worth_c0 37 rfl) (by decide) ?_
          refine r_loc (lv1 := [(0, .ref a0), (1, .ref a1), (2, .int (x2 + 1)), (3, .int x3)]) [2, 3, 0, 4] rfl ?_
          exact hyp
        · have hyp := hyp.2 q_
          refine r_iload (dcx dX2_worth_c0 28 rfl) 0 rfl ?_
          refine r_goto (tgt := 59) (dcx dX2_worth_c0 29 rfl) (by decide) ?_
          obtain ⟨hb_, hyp⟩ := hyp
          refine s_iast (dcx dX2_worth_c0 35 rfl) (AW_1 h0) hb_ ?_
          obtain ⟨s2_, es2_⟩ : ∃ z : SS, z = sI σ (a0 + 2) (Int32.toNatClampNeg x2) (σ.1 (a0 + 1) (Int32.toNatClampNeg x3)) := ⟨_, rfl⟩
          rw [← es2_]
          have hyp := hyp s2_ es2_
          refine r_iinc (lv1 := [(2, .int (x2 + 1)), (4, .int (σ.1 (a0 + 1) (Int32.toNatClampNeg x3))), (0, .ref a0), (1, .ref a1), (3, .int x3)]) (dcx dX2_worth_c0 36 rfl) 3 rfl (Nat.le_of_ble_eq_true rfl) rfl ?_
          refine r_goto (tgt := 201) (dcx dX2_worth_c0 37 rfl) (by decide) ?_
          refine r_loc (lv1 := [(0, .ref a0), (1, .ref a1), (2, .int (x2 + 1)), (3, .int x3)]) [2, 3, 0, 4] rfl ?_
          exact hyp
      · have hyp := hyp.2 q_
        refine r_iconst (v := 0) (dcx dX2_worth_c0 21 rfl) rfl ?_
        exact s_ret rfl rfl rfl hyp (dcx dX2_worth_c0 22 rfl)
set_option maxHeartbeats 4000000 in
set_option maxRecDepth 20000 in
theorem tX2_worth_181 {Γ : GE} {l : Launch} {a0 : Nat} {a1 : Nat} {n1 : Nat} {x2 : Int32} {x3 : Int32} {x4 : Int32} {x5 : Int32} {x6 : Int32} {σ : SS} {K : Option Value → SS → Prop} (h0 : isW a0) (h1 : shA a1 = some (.int, n1)) (hyp : C2 Γ l mX2_joined [.int x4, .int x5, .int x6] σ (Ri fun r2_ s1_ => (vp_in ((x2 + (-1)) - 1) 20 ∧ (∀ s3_ : SS, s3_ = sI s1_ (a0 + 2) (Int32.toNatClampNeg ((x2 + (-1)) - 1)) r2_ → (wX2_worth_201 Γ l a0 a1 n1 (x2 + (-1)) x3 s3_ K))))) : wX2_worth_181 Γ l a0 a1 n1 x2 x3 x4 x5 x6 σ K := by
  show G2 Γ l mX2_worth 181 [(0, .ref a0), (1, .ref a1), (2, .int x2), (3, .int x3), (4, .int x4), (5, .int x5), (6, .int x6)] [] σ K
  refine r_iinc (lv1 := [(2, .int (x2 + (-1))), (0, .ref a0), (1, .ref a1), (3, .int x3), (4, .int x4), (5, .int x5), (6, .int x6)]) (dcx dX2_worth_c2 24 rfl) 2 rfl (Nat.le_of_ble_eq_true rfl) rfl ?_
  refine r_aload_n (dcx dX2_worth_c2 25 rfl) 1 rfl ?_
  refine s_getr (b := a0 + 2) fX2_15 (dcx dX2_worth_c2 26 rfl) (FW_1 h0) ?_
  refine r_iload_n (dcx dX2_worth_c2 27 rfl) 0 rfl ?_
  refine r_iconst (v := 1) (dcx dX2_worth_c2 28 rfl) rfl ?_
  refine r_isub (dcx dX2_worth_c2 29 rfl) ?_
  refine r_iload (dcx dX2_worth_c2 30 rfl) 4 rfl ?_
  refine r_iload (dcx dX2_worth_c2 31 rfl) 5 rfl ?_
  refine r_iload (dcx dX2_worth_c2 32 rfl) 6 rfl ?_
  refine s_callS (as := [.int x4, .int x5, .int x6]) (st := [.int ((x2 + (-1)) - 1), .ref (a0 + 2)]) zX2_joined kX2_worth_33 (dcx dX2_worth_c2 33 rfl) rfl rfl (Nat.le_of_ble_eq_true rfl) (C2.mono hyp ?_)
  rintro _ s1_ ⟨r2_, rfl, hyp⟩
  show G2 Γ l mX2_worth 200 [(2, .int (x2 + (-1))), (0, .ref a0), (1, .ref a1), (3, .int x3), (4, .int x4), (5, .int x5), (6, .int x6)] [.int r2_, .int ((x2 + (-1)) - 1), .ref (a0 + 2)] s1_ K
  obtain ⟨hb_, hyp⟩ := hyp
  refine s_iast (dcx dX2_worth_c2 34 rfl) (AW_1 h0) hb_ ?_
  obtain ⟨s3_, es3_⟩ : ∃ z : SS, z = sI s1_ (a0 + 2) (Int32.toNatClampNeg ((x2 + (-1)) - 1)) r2_ := ⟨_, rfl⟩
  rw [← es3_]
  have hyp := hyp s3_ es3_
  refine r_loc (lv1 := [(0, .ref a0), (1, .ref a1), (2, .int (x2 + (-1))), (3, .int x3)]) [1, 2, 0, 3] rfl ?_
  exact hyp
set_option maxHeartbeats 4000000 in
set_option maxRecDepth 20000 in
theorem tX2_worth_201 {Γ : GE} {l : Launch} {a0 : Nat} {a1 : Nat} {n1 : Nat} {x2 : Int32} {x3 : Int32} {σ : SS} {K : Option Value → SS → Prop} (h0 : isW a0) (h1 : shA a1 = some (.int, n1)) (hyp : wX2_worth_4 Γ l a0 a1 n1 x2 (x3 + 1) σ K) : wX2_worth_201 Γ l a0 a1 n1 x2 x3 σ K := by
  show G2 Γ l mX2_worth 201 [(0, .ref a0), (1, .ref a1), (2, .int x2), (3, .int x3)] [] σ K
  refine r_iinc (lv1 := [(3, .int (x3 + 1)), (0, .ref a0), (1, .ref a1), (2, .int x2)]) (dcx dX2_worth_c2 35 rfl) 3 rfl (Nat.le_of_ble_eq_true rfl) rfl ?_
  refine r_goto (tgt := 4) (dcx dX2_worth_c2 36 rfl) (by decide) ?_
  refine r_loc (lv1 := [(0, .ref a0), (1, .ref a1), (2, .int x2), (3, .int (x3 + 1))]) [1, 2, 3, 0] rfl ?_
  exact hyp
set_option maxHeartbeats 4000000 in
set_option maxRecDepth 20000 in
theorem tX2_joined {Γ : GE} {l : Launch} {x0 : Int32} {x1 : Int32} {x2 : Int32} {σ : SS} {K : Option Value → SS → Prop}  (hyp : ((-x0) = 42 → (K (some (.int (x1 * x2))) σ)) ∧ ((-x0) = 43 → (K (some (.int (x1 + x2))) σ)) ∧ ((-x0) = 45 → (K (some (.int (x1 - x2))) σ)) ∧ (¬ (-x0) = 42 → ¬ (-x0) = 43 → ¬ (-x0) = 45 → ((¬ x2 = 0 → (¬ x2 = 0 ∧ (K (some (.int (x1 / x2))) σ))) ∧ (x2 = 0 → (K (some (.int 0)) σ))))) : C2 Γ l mX2_joined [.int x0, .int x1, .int x2] σ K := by
  refine c2_of (lv := [(0, .int x0), (1, .int x1), (2, .int x2)]) (by decide) (Nat.le_of_ble_eq_true rfl) rfl ?_
  refine r_iload_n (dcx dX2_joined_c0 0 rfl) 0 rfl ?_
  refine r_ineg (dcx dX2_joined_c0 1 rfl) ?_
  by_cases q0_ : (-x0) = 42
  · have hyp := hyp.1 q0_
    refine r_tableIn (off := 38) (tgt := 40) (dcx dX2_joined_c0 2 rfl) (by rw [q0_]; decide) (by rw [q0_]; decide) (by rw [q0_]; decide) (by decide) ?_
    refine r_iload_n (dcx dX2_joined_c0 11 rfl) 1 rfl ?_
    refine r_iload_n (dcx dX2_joined_c0 12 rfl) 2 rfl ?_
    refine r_imul (dcx dX2_joined_c0 13 rfl) ?_
    exact s_ret rfl rfl rfl hyp (dcx dX2_joined_c0 14 rfl)
  have hyp := hyp.2
  by_cases q1_ : (-x0) = 43
  · have hyp := hyp.1 q1_
    refine r_tableIn (off := 30) (tgt := 32) (dcx dX2_joined_c0 2 rfl) (by rw [q1_]; decide) (by rw [q1_]; decide) (by rw [q1_]; decide) (by decide) ?_
    refine r_iload_n (dcx dX2_joined_c0 3 rfl) 1 rfl ?_
    refine r_iload_n (dcx dX2_joined_c0 4 rfl) 2 rfl ?_
    refine r_iadd (dcx dX2_joined_c0 5 rfl) ?_
    exact s_ret rfl rfl rfl hyp (dcx dX2_joined_c0 6 rfl)
  have hyp := hyp.2
  by_cases q3_ : (-x0) = 45
  · have hyp := hyp.1 q3_
    refine r_tableIn (off := 34) (tgt := 36) (dcx dX2_joined_c0 2 rfl) (by rw [q3_]; decide) (by rw [q3_]; decide) (by rw [q3_]; decide) (by decide) ?_
    refine r_iload_n (dcx dX2_joined_c0 7 rfl) 1 rfl ?_
    refine r_iload_n (dcx dX2_joined_c0 8 rfl) 2 rfl ?_
    refine r_isub (dcx dX2_joined_c0 9 rfl) ?_
    exact s_ret rfl rfl rfl hyp (dcx dX2_joined_c0 10 rfl)
  have hyp := hyp.2
  have hyp := hyp q0_ q1_ q3_
  by_cases q2_ : (-x0) = 44
  · refine r_tableIn (off := 42) (tgt := 44) (dcx dX2_joined_c0 2 rfl) (by rw [q2_]; decide) (by rw [q2_]; decide) (by rw [q2_]; decide) (by decide) ?_
    refine r_iload_n (dcx dX2_joined_c0 15 rfl) 2 rfl ?_
    refine r_if_ne (tgt := 52) (dcx dX2_joined_c0 16 rfl) (by decide) (fun q_ => ?_) (fun q_ => ?_)
    · have hyp := hyp.1 q_
      refine r_iload_n (dcx dX2_joined_c0 19 rfl) 1 rfl ?_
      refine r_iload_n (dcx dX2_joined_c0 20 rfl) 2 rfl ?_
      obtain ⟨hz_, hyp⟩ := hyp
      refine r_idiv (dcx dX2_joined_c0 21 rfl) hz_ ?_
      exact s_ret rfl rfl rfl hyp (dcx dX2_joined_c0 22 rfl)
    · have hyp := hyp.2 q_
      refine r_iconst (v := 0) (dcx dX2_joined_c0 17 rfl) rfl ?_
      refine r_goto (tgt := 55) (dcx dX2_joined_c0 18 rfl) (by decide) ?_
      exact s_ret rfl rfl rfl hyp (dcx dX2_joined_c0 22 rfl)
  refine r_tableOut (tgt := 44) (dcx dX2_joined_c0 2 rfl) (by have t0_ := lv_neT (a := 42) q0_ (by decide); have t1_ := lv_neT (a := 43) q1_ (by decide); have t3_ := lv_neT (a := 45) q3_ (by decide); have t2_ := lv_neT (a := 44) q2_ (by decide); omega) (by decide) ?_
  refine r_iload_n (dcx dX2_joined_c0 15 rfl) 2 rfl ?_
  refine r_if_ne (tgt := 52) (dcx dX2_joined_c0 16 rfl) (by decide) (fun q_ => ?_) (fun q_ => ?_)
  · have hyp := hyp.1 q_
    refine r_iload_n (dcx dX2_joined_c0 19 rfl) 1 rfl ?_
    refine r_iload_n (dcx dX2_joined_c0 20 rfl) 2 rfl ?_
    obtain ⟨hz_, hyp⟩ := hyp
    refine r_idiv (dcx dX2_joined_c0 21 rfl) hz_ ?_
    exact s_ret rfl rfl rfl hyp (dcx dX2_joined_c0 22 rfl)
  · have hyp := hyp.2 q_
    refine r_iconst (v := 0) (dcx dX2_joined_c0 17 rfl) rfl ?_
    refine r_goto (tgt := 55) (dcx dX2_joined_c0 18 rfl) (by decide) ?_
    exact s_ret rfl rfl rfl hyp (dcx dX2_joined_c0 22 rfl)
set_option maxHeartbeats 4000000 in
set_option maxRecDepth 20000 in
theorem tX3_begin {Γ : GE} {l : Launch} {a1 : Nat} {σ : SS} {K : Option Value → SS → Prop} (h1 : isW a1) (hyp : ∀ s1_ : SS, s1_ = sR σ 8 2 a1 → (∃ b2_ : Nat, s1_.2.2 8 2 = b2_ ∧ isW b2_ ∧ (C2 Γ l mX2_clear [.ref b2_] s1_ (Rv fun s3_ => (∀ s5_ : SS, s5_ = sI s3_ 8 1 0 → (∀ s6_ : SS, s6_ = sI s5_ 8 3 0 → (∀ s7_ : SS, s7_ = sI s6_ 8 4 0 → (∀ s8_ : SS, s8_ = sI s7_ 8 5 0 → (∀ s9_ : SS, s9_ = sI s8_ 8 6 0 → (∀ s10_ : SS, s10_ = sI s9_ 8 7 1 → (∀ s11_ : SS, s11_ = sI s10_ 8 8 0 → (K none s11_)))))))))))) : C2 Γ l mX3_begin [.ref 8, .ref a1] σ K := by
  refine c2_of (lv := [(0, .ref 8), (1, .ref a1)]) (by decide) (Nat.le_of_ble_eq_true rfl) rfl ?_
  refine r_aload_n (dcx dX3_begin_c0 0 rfl) 0 rfl ?_
  refine r_aload_n (dcx dX3_begin_c0 1 rfl) 1 rfl ?_
  refine s_putm gX3_15 (dcx dX3_begin_c0 2 rfl) F8_2 (nzW h1) ?_
  obtain ⟨s1_, es1_⟩ : ∃ z : SS, z = sR σ 8 2 a1 := ⟨_, rfl⟩
  rw [← es1_]
  have hyp := hyp s1_ es1_
  refine r_aload_n (dcx dX3_begin_c0 3 rfl) 0 rfl ?_
  obtain ⟨b2_, eb2_, hb2_, hyp⟩ := hyp
  refine s_getmE fX3_15 (dcx dX3_begin_c0 4 rfl) F8_2 eb2_ (nzW hb2_) ?_
  refine s_callV (as := []) (st := []) zX2_clear kX3_begin_19 (dcx dX3_begin_c0 5 rfl) rfl rfl (Nat.le_of_ble_eq_true rfl) (OW hb2_) rfl rfl (C2.mono hyp ?_)
  rintro _ s3_ ⟨rfl, hyp⟩
  show G2 Γ l mX3_begin 12 [(0, .ref 8), (1, .ref a1)] [] s3_ K
  refine r_aload_n (dcx dX3_begin_c0 6 rfl) 0 rfl ?_
  refine r_iconst (v := 0) (dcx dX3_begin_c0 7 rfl) rfl ?_
  refine s_puti gX3_24 (dcx dX3_begin_c0 8 rfl) F8_1 ?_
  obtain ⟨s5_, es5_⟩ : ∃ z : SS, z = sI s3_ 8 1 0 := ⟨_, rfl⟩
  rw [← es5_]
  have hyp := hyp s5_ es5_
  refine r_aload_n (dcx dX3_begin_c0 9 rfl) 0 rfl ?_
  refine r_iconst (v := 0) (dcx dX3_begin_c0 10 rfl) rfl ?_
  refine s_puti gX3_28 (dcx dX3_begin_c0 11 rfl) F8_3 ?_
  obtain ⟨s6_, es6_⟩ : ∃ z : SS, z = sI s5_ 8 3 0 := ⟨_, rfl⟩
  rw [← es6_]
  have hyp := hyp s6_ es6_
  refine r_aload_n (dcx dX3_begin_c0 12 rfl) 0 rfl ?_
  refine r_iconst (v := 0) (dcx dX3_begin_c0 13 rfl) rfl ?_
  refine s_puti gX3_31 (dcx dX3_begin_c0 14 rfl) F8_4 ?_
  obtain ⟨s7_, es7_⟩ : ∃ z : SS, z = sI s6_ 8 4 0 := ⟨_, rfl⟩
  rw [← es7_]
  have hyp := hyp s7_ es7_
  refine r_aload_n (dcx dX3_begin_c0 15 rfl) 0 rfl ?_
  refine r_iconst (v := 0) (dcx dX3_begin_c0 16 rfl) rfl ?_
  refine s_puti gX3_34 (dcx dX3_begin_c0 17 rfl) F8_5 ?_
  obtain ⟨s8_, es8_⟩ : ∃ z : SS, z = sI s7_ 8 5 0 := ⟨_, rfl⟩
  rw [← es8_]
  have hyp := hyp s8_ es8_
  refine r_aload_n (dcx dX3_begin_c0 18 rfl) 0 rfl ?_
  refine r_iconst (v := 0) (dcx dX3_begin_c0 19 rfl) rfl ?_
  refine s_puti gX3_37 (dcx dX3_begin_c0 20 rfl) F8_6 ?_
  obtain ⟨s9_, es9_⟩ : ∃ z : SS, z = sI s8_ 8 6 0 := ⟨_, rfl⟩
  rw [← es9_]
  have hyp := hyp s9_ es9_
  refine r_aload_n (dcx dX3_begin_c0 21 rfl) 0 rfl ?_
  refine r_iconst (v := 1) (dcx dX3_begin_c0 22 rfl) rfl ?_
  refine s_putz gX3_40 (dcx dX3_begin_c0 23 rfl) F8_7 rfl rfl ?_
  obtain ⟨s10_, es10_⟩ : ∃ z : SS, z = sI s9_ 8 7 1 := ⟨_, rfl⟩
  rw [← es10_]
  have hyp := hyp s10_ es10_
  refine r_aload_n (dcx dX3_begin_c0 24 rfl) 0 rfl ?_
  refine r_iconst (v := 0) (dcx dX3_begin_c0 25 rfl) rfl ?_
  refine s_putz gX3_44 (dcx dX3_begin_c0 26 rfl) F8_8 rfl rfl ?_
  obtain ⟨s11_, es11_⟩ : ∃ z : SS, z = sI s10_ 8 8 0 := ⟨_, rfl⟩
  rw [← es11_]
  have hyp := hyp s11_ es11_
  exact s_vret rfl hyp (dcx dX3_begin_c0 27 rfl)
set_option maxHeartbeats 4000000 in
set_option maxRecDepth 20000 in
theorem tX3_hearUnit {Γ : GE} {l : Launch} {x1 : Int32} {x2 : Int32} {σ : SS} {K : Option Value → SS → Prop}  (hyp : (¬ x1 = 110 → ((¬ x1 = 40 → ((¬ x1 = 3 → ((x1 < 113 → (K (some (.int 1)) σ)) ∧ (¬ (x1 < 113) → (((121 : Int32) < x1 → (K (some (.int 1)) σ)) ∧ (¬ ((121 : Int32) < x1) → (∃ b1_ : Nat, σ.2.2 8 2 = b1_ ∧ isW b1_ ∧ (C2 Γ l mX2_codeOfVar [.int (x1 - 113)] σ (Ri fun r3_ s2_ => (C2 Γ l mX2_put [.ref b1_, .int r3_] s2_ (Rv fun s4_ => (C2 Γ l mX3_leaveStart [.ref 8] s4_ (Rv fun s6_ => (∀ s8_ : SS, s8_ = sI s6_ 8 7 0 → (K (some (.int 0)) s8_)))))))))))))) ∧ (x1 = 3 → (∃ b9_ : Nat, σ.2.2 8 2 = b9_ ∧ isW b9_ ∧ (C2 Γ l mX2_put [.ref b9_, .int x2] σ (Rv fun s10_ => (C2 Γ l mX3_leaveStart [.ref 8] s10_ (Rv fun s12_ => (∀ s14_ : SS, s14_ = sI s12_ 8 7 0 → (K (some (.int 0)) s14_)))))))))) ∧ (x1 = 40 → (C2 Γ l mX3_hearBracket [.ref 8] σ (Ri fun r16_ s15_ => (K (some (.int r16_)) s15_)))))) ∧ (x1 = 110 → ((¬ (σ.1 8 3) = 0 → ((¬ x1 = 40 → ((¬ x1 = 3 → ((x1 < 113 → (K (some (.int 1)) σ)) ∧ (¬ (x1 < 113) → (((121 : Int32) < x1 → (K (some (.int 1)) σ)) ∧ (¬ ((121 : Int32) < x1) → (∃ b17_ : Nat, σ.2.2 8 2 = b17_ ∧ isW b17_ ∧ (C2 Γ l mX2_codeOfVar [.int (x1 - 113)] σ (Ri fun r19_ s18_ => (C2 Γ l mX2_put [.ref b17_, .int r19_] s18_ (Rv fun s20_ => (C2 Γ l mX3_leaveStart [.ref 8] s20_ (Rv fun s22_ => (∀ s24_ : SS, s24_ = sI s22_ 8 7 0 → (K (some (.int 0)) s24_)))))))))))))) ∧ (x1 = 3 → (∃ b25_ : Nat, σ.2.2 8 2 = b25_ ∧ isW b25_ ∧ (C2 Γ l mX2_put [.ref b25_, .int x2] σ (Rv fun s26_ => (C2 Γ l mX3_leaveStart [.ref 8] s26_ (Rv fun s28_ => (∀ s30_ : SS, s30_ = sI s28_ 8 7 0 → (K (some (.int 0)) s30_)))))))))) ∧ (x1 = 40 → (C2 Γ l mX3_hearBracket [.ref 8] σ (Ri fun r32_ s31_ => (K (some (.int r32_)) s31_)))))) ∧ ((σ.1 8 3) = 0 → (C2 Γ l mX3_hearIf [.ref 8] σ (Ri fun r34_ s33_ => (K (some (.int r34_)) s33_))))))) : C2 Γ l mX3_hearUnit [.ref 8, .int x1, .int x2] σ K := by
  refine c2_of (lv := [(0, .ref 8), (1, .int x1), (2, .int x2)]) (by decide) (Nat.le_of_ble_eq_true rfl) rfl ?_
  refine r_iload_n (dcx dX3_hearUnit_c0 0 rfl) 1 rfl ?_
  refine r_bipush (v := 110) (dcx dX3_hearUnit_c0 1 rfl) rfl ?_
  refine r_icmp_ne (tgt := 18) (dcx dX3_hearUnit_c0 2 rfl) (by decide) (fun q_ => ?_) (fun q_ => ?_)
  · have hyp := hyp.1 q_
    refine r_iload_n (dcx dX3_hearUnit_c0 9 rfl) 1 rfl ?_
    refine r_bipush (v := 40) (dcx dX3_hearUnit_c0 10 rfl) rfl ?_
    refine r_icmp_ne (tgt := 29) (dcx dX3_hearUnit_c0 11 rfl) (by decide) (fun q_ => ?_) (fun q_ => ?_)
    · have hyp := hyp.1 q_
      refine r_iload_n (dcx dX3_hearUnit_c0 15 rfl) 1 rfl ?_
      refine r_iconst (v := 3) (dcx dX3_hearUnit_c0 16 rfl) rfl ?_
      refine r_icmp_ne (tgt := 45) (dcx dX3_hearUnit_c0 17 rfl) (by decide) (fun q_ => ?_) (fun q_ => ?_)
      · have hyp := hyp.1 q_
        refine r_iload_n (dcx dX3_hearUnit_c0 23 rfl) 1 rfl ?_
        refine r_bipush (v := 113) (dcx dX3_hearUnit_c0 24 rfl) rfl ?_
        refine r_icmp_lt (tgt := 74) (dcx dX3_hearUnit_c0 25 rfl) (by decide) (fun q_ => ?_) (fun q_ => ?_)
        · have hyp := hyp.1 q_
          refine r_iconst (v := 1) (dcx dX3_hearUnit_c0 37 rfl) rfl ?_
          exact s_ret rfl rfl rfl hyp (dcx dX3_hearUnit_c0 38 rfl)
        · have hyp := hyp.2 q_
          refine r_iload_n (dcx dX3_hearUnit_c0 26 rfl) 1 rfl ?_
          refine r_bipush (v := 121) (dcx dX3_hearUnit_c0 27 rfl) rfl ?_
          refine r_icmp_gt (tgt := 74) (dcx dX3_hearUnit_c0 28 rfl) (by decide) (fun q_ => ?_) (fun q_ => ?_)
          · have hyp := hyp.1 q_
            refine r_iconst (v := 1) (dcx dX3_hearUnit_c0 37 rfl) rfl ?_
            exact s_ret rfl rfl rfl hyp (dcx dX3_hearUnit_c0 38 rfl)
          · have hyp := hyp.2 q_
            refine r_aload_n (dcx dX3_hearUnit_c0 29 rfl) 0 rfl ?_
            obtain ⟨b1_, eb1_, hb1_, hyp⟩ := hyp
            refine s_getmE fX3_15 (dcx dX3_hearUnit_c0 30 rfl) F8_2 eb1_ (nzW hb1_) ?_
            refine r_iload_n (dcx dX3_hearUnit_c0 31 rfl) 1 rfl ?_
            refine r_bipush (v := 113) (dcx dX3_hearUnit_c0 32 rfl) rfl ?_
            refine r_isub (dcx dX3_hearUnit_c0 33 rfl) ?_
            refine s_callS (as := [.int (x1 - 113)]) (st := [.ref b1_]) zX2_codeOfVar kX3_hearUnit_58 (dcx dX3_hearUnit_c0 34 rfl) rfl rfl (Nat.le_of_ble_eq_true rfl) (C2.mono hyp ?_)
            rintro _ s2_ ⟨r3_, rfl, hyp⟩
            show G2 Γ l mX3_hearUnit 68 [(0, .ref 8), (1, .int x1), (2, .int x2)] [.int r3_, .ref b1_] s2_ K
            refine s_callV (as := [.int r3_]) (st := []) zX2_put kX3_hearUnit_54 (dcx dX3_hearUnit_c0 35 rfl) rfl rfl (Nat.le_of_ble_eq_true rfl) (OW hb1_) rfl rfl (C2.mono hyp ?_)
            rintro _ s4_ ⟨rfl, hyp⟩
            show G2 Γ l mX3_hearUnit 71 [(0, .ref 8), (1, .int x1), (2, .int x2)] [] s4_ K
            refine r_goto (tgt := 76) (dcx dX3_hearUnit_c0 36 rfl) (by decide) ?_
            refine r_aload_n (dcx dX3_hearUnit_c0 39 rfl) 0 rfl ?_
            refine s_callV (as := []) (st := []) zX3_leaveStart kX3_hearUnit_62 (dcx dX3_hearUnit_c1 0 rfl) rfl rfl (Nat.le_of_ble_eq_true rfl) O8 rfl rfl (C2.mono hyp ?_)
            rintro _ s6_ ⟨rfl, hyp⟩
            show G2 Γ l mX3_hearUnit 80 [(0, .ref 8), (1, .int x1), (2, .int x2)] [] s6_ K
            refine r_aload_n (dcx dX3_hearUnit_c1 1 rfl) 0 rfl ?_
            refine r_iconst (v := 0) (dcx dX3_hearUnit_c1 2 rfl) rfl ?_
            refine s_putz gX3_40 (dcx dX3_hearUnit_c1 3 rfl) F8_7 rfl rfl ?_
            obtain ⟨s8_, es8_⟩ : ∃ z : SS, z = sI s6_ 8 7 0 := ⟨_, rfl⟩
            rw [← es8_]
            have hyp := hyp s8_ es8_
            refine r_iconst (v := 0) (dcx dX3_hearUnit_c1 4 rfl) rfl ?_
            exact s_ret rfl rfl rfl hyp (dcx dX3_hearUnit_c1 5 rfl)
      · have hyp := hyp.2 q_
        refine r_aload_n (dcx dX3_hearUnit_c0 18 rfl) 0 rfl ?_
        obtain ⟨b9_, eb9_, hb9_, hyp⟩ := hyp
        refine s_getmE fX3_15 (dcx dX3_hearUnit_c0 19 rfl) F8_2 eb9_ (nzW hb9_) ?_
        refine r_iload_n (dcx dX3_hearUnit_c0 20 rfl) 2 rfl ?_
        refine s_callV (as := [.int x2]) (st := []) zX2_put kX3_hearUnit_54 (dcx dX3_hearUnit_c0 21 rfl) rfl rfl (Nat.le_of_ble_eq_true rfl) (OW hb9_) rfl rfl (C2.mono hyp ?_)
        rintro _ s10_ ⟨rfl, hyp⟩
        show G2 Γ l mX3_hearUnit 42 [(0, .ref 8), (1, .int x1), (2, .int x2)] [] s10_ K
        refine r_goto (tgt := 76) (dcx dX3_hearUnit_c0 22 rfl) (by decide) ?_
        refine r_aload_n (dcx dX3_hearUnit_c0 39 rfl) 0 rfl ?_
        refine s_callV (as := []) (st := []) zX3_leaveStart kX3_hearUnit_62 (dcx dX3_hearUnit_c1 0 rfl) rfl rfl (Nat.le_of_ble_eq_true rfl) O8 rfl rfl (C2.mono hyp ?_)
        rintro _ s12_ ⟨rfl, hyp⟩
        show G2 Γ l mX3_hearUnit 80 [(0, .ref 8), (1, .int x1), (2, .int x2)] [] s12_ K
        refine r_aload_n (dcx dX3_hearUnit_c1 1 rfl) 0 rfl ?_
        refine r_iconst (v := 0) (dcx dX3_hearUnit_c1 2 rfl) rfl ?_
        refine s_putz gX3_40 (dcx dX3_hearUnit_c1 3 rfl) F8_7 rfl rfl ?_
        obtain ⟨s14_, es14_⟩ : ∃ z : SS, z = sI s12_ 8 7 0 := ⟨_, rfl⟩
        rw [← es14_]
        have hyp := hyp s14_ es14_
        refine r_iconst (v := 0) (dcx dX3_hearUnit_c1 4 rfl) rfl ?_
        exact s_ret rfl rfl rfl hyp (dcx dX3_hearUnit_c1 5 rfl)
    · have hyp := hyp.2 q_
      refine r_aload_n (dcx dX3_hearUnit_c0 12 rfl) 0 rfl ?_
      refine s_callV (as := []) (st := []) zX3_hearBracket kX3_hearUnit_51 (dcx dX3_hearUnit_c0 13 rfl) rfl rfl (Nat.le_of_ble_eq_true rfl) O8 rfl rfl (C2.mono hyp ?_)
      rintro _ s15_ ⟨r16_, rfl, hyp⟩
      show G2 Γ l mX3_hearUnit 28 [(0, .ref 8), (1, .int x1), (2, .int x2)] [.int r16_] s15_ K
      exact s_ret rfl rfl rfl hyp (dcx dX3_hearUnit_c0 14 rfl)
  · have hyp := hyp.2 q_
    refine r_aload_n (dcx dX3_hearUnit_c0 3 rfl) 0 rfl ?_
    refine s_geti fX3_28 (dcx dX3_hearUnit_c0 4 rfl) F8_3 ?_
    refine r_if_ne (tgt := 18) (dcx dX3_hearUnit_c0 5 rfl) (by decide) (fun q_ => ?_) (fun q_ => ?_)
    · have hyp := hyp.1 q_
      refine r_iload_n (dcx dX3_hearUnit_c0 9 rfl) 1 rfl ?_
      refine r_bipush (v := 40) (dcx dX3_hearUnit_c0 10 rfl) rfl ?_
      refine r_icmp_ne (tgt := 29) (dcx dX3_hearUnit_c0 11 rfl) (by decide) (fun q_ => ?_) (fun q_ => ?_)
      · have hyp := hyp.1 q_
        refine r_iload_n (dcx dX3_hearUnit_c0 15 rfl) 1 rfl ?_
        refine r_iconst (v := 3) (dcx dX3_hearUnit_c0 16 rfl) rfl ?_
        refine r_icmp_ne (tgt := 45) (dcx dX3_hearUnit_c0 17 rfl) (by decide) (fun q_ => ?_) (fun q_ => ?_)
        · have hyp := hyp.1 q_
          refine r_iload_n (dcx dX3_hearUnit_c0 23 rfl) 1 rfl ?_
          refine r_bipush (v := 113) (dcx dX3_hearUnit_c0 24 rfl) rfl ?_
          refine r_icmp_lt (tgt := 74) (dcx dX3_hearUnit_c0 25 rfl) (by decide) (fun q_ => ?_) (fun q_ => ?_)
          · have hyp := hyp.1 q_
            refine r_iconst (v := 1) (dcx dX3_hearUnit_c0 37 rfl) rfl ?_
            exact s_ret rfl rfl rfl hyp (dcx dX3_hearUnit_c0 38 rfl)
          · have hyp := hyp.2 q_
            refine r_iload_n (dcx dX3_hearUnit_c0 26 rfl) 1 rfl ?_
            refine r_bipush (v := 121) (dcx dX3_hearUnit_c0 27 rfl) rfl ?_
            refine r_icmp_gt (tgt := 74) (dcx dX3_hearUnit_c0 28 rfl) (by decide) (fun q_ => ?_) (fun q_ => ?_)
            · have hyp := hyp.1 q_
              refine r_iconst (v := 1) (dcx dX3_hearUnit_c0 37 rfl) rfl ?_
              exact s_ret rfl rfl rfl hyp (dcx dX3_hearUnit_c0 38 rfl)
            · have hyp := hyp.2 q_
              refine r_aload_n (dcx dX3_hearUnit_c0 29 rfl) 0 rfl ?_
              obtain ⟨b17_, eb17_, hb17_, hyp⟩ := hyp
              refine s_getmE fX3_15 (dcx dX3_hearUnit_c0 30 rfl) F8_2 eb17_ (nzW hb17_) ?_
              refine r_iload_n (dcx dX3_hearUnit_c0 31 rfl) 1 rfl ?_
              refine r_bipush (v := 113) (dcx dX3_hearUnit_c0 32 rfl) rfl ?_
              refine r_isub (dcx dX3_hearUnit_c0 33 rfl) ?_
              refine s_callS (as := [.int (x1 - 113)]) (st := [.ref b17_]) zX2_codeOfVar kX3_hearUnit_58 (dcx dX3_hearUnit_c0 34 rfl) rfl rfl (Nat.le_of_ble_eq_true rfl) (C2.mono hyp ?_)
              rintro _ s18_ ⟨r19_, rfl, hyp⟩
              show G2 Γ l mX3_hearUnit 68 [(0, .ref 8), (1, .int x1), (2, .int x2)] [.int r19_, .ref b17_] s18_ K
              refine s_callV (as := [.int r19_]) (st := []) zX2_put kX3_hearUnit_54 (dcx dX3_hearUnit_c0 35 rfl) rfl rfl (Nat.le_of_ble_eq_true rfl) (OW hb17_) rfl rfl (C2.mono hyp ?_)
              rintro _ s20_ ⟨rfl, hyp⟩
              show G2 Γ l mX3_hearUnit 71 [(0, .ref 8), (1, .int x1), (2, .int x2)] [] s20_ K
              refine r_goto (tgt := 76) (dcx dX3_hearUnit_c0 36 rfl) (by decide) ?_
              refine r_aload_n (dcx dX3_hearUnit_c0 39 rfl) 0 rfl ?_
              refine s_callV (as := []) (st := []) zX3_leaveStart kX3_hearUnit_62 (dcx dX3_hearUnit_c1 0 rfl) rfl rfl (Nat.le_of_ble_eq_true rfl) O8 rfl rfl (C2.mono hyp ?_)
              rintro _ s22_ ⟨rfl, hyp⟩
              show G2 Γ l mX3_hearUnit 80 [(0, .ref 8), (1, .int x1), (2, .int x2)] [] s22_ K
              refine r_aload_n (dcx dX3_hearUnit_c1 1 rfl) 0 rfl ?_
              refine r_iconst (v := 0) (dcx dX3_hearUnit_c1 2 rfl) rfl ?_
              refine s_putz gX3_40 (dcx dX3_hearUnit_c1 3 rfl) F8_7 rfl rfl ?_
              obtain ⟨s24_, es24_⟩ : ∃ z : SS, z = sI s22_ 8 7 0 := ⟨_, rfl⟩
              rw [← es24_]
              have hyp := hyp s24_ es24_
              refine r_iconst (v := 0) (dcx dX3_hearUnit_c1 4 rfl) rfl ?_
              exact s_ret rfl rfl rfl hyp (dcx dX3_hearUnit_c1 5 rfl)
        · have hyp := hyp.2 q_
          refine r_aload_n (dcx dX3_hearUnit_c0 18 rfl) 0 rfl ?_
          obtain ⟨b25_, eb25_, hb25_, hyp⟩ := hyp
          refine s_getmE fX3_15 (dcx dX3_hearUnit_c0 19 rfl) F8_2 eb25_ (nzW hb25_) ?_
          refine r_iload_n (dcx dX3_hearUnit_c0 20 rfl) 2 rfl ?_
          refine s_callV (as := [.int x2]) (st := []) zX2_put kX3_hearUnit_54 (dcx dX3_hearUnit_c0 21 rfl) rfl rfl (Nat.le_of_ble_eq_true rfl) (OW hb25_) rfl rfl (C2.mono hyp ?_)
          rintro _ s26_ ⟨rfl, hyp⟩
          show G2 Γ l mX3_hearUnit 42 [(0, .ref 8), (1, .int x1), (2, .int x2)] [] s26_ K
          refine r_goto (tgt := 76) (dcx dX3_hearUnit_c0 22 rfl) (by decide) ?_
          refine r_aload_n (dcx dX3_hearUnit_c0 39 rfl) 0 rfl ?_
          refine s_callV (as := []) (st := []) zX3_leaveStart kX3_hearUnit_62 (dcx dX3_hearUnit_c1 0 rfl) rfl rfl (Nat.le_of_ble_eq_true rfl) O8 rfl rfl (C2.mono hyp ?_)
          rintro _ s28_ ⟨rfl, hyp⟩
          show G2 Γ l mX3_hearUnit 80 [(0, .ref 8), (1, .int x1), (2, .int x2)] [] s28_ K
          refine r_aload_n (dcx dX3_hearUnit_c1 1 rfl) 0 rfl ?_
          refine r_iconst (v := 0) (dcx dX3_hearUnit_c1 2 rfl) rfl ?_
          refine s_putz gX3_40 (dcx dX3_hearUnit_c1 3 rfl) F8_7 rfl rfl ?_
          obtain ⟨s30_, es30_⟩ : ∃ z : SS, z = sI s28_ 8 7 0 := ⟨_, rfl⟩
          rw [← es30_]
          have hyp := hyp s30_ es30_
          refine r_iconst (v := 0) (dcx dX3_hearUnit_c1 4 rfl) rfl ?_
          exact s_ret rfl rfl rfl hyp (dcx dX3_hearUnit_c1 5 rfl)
      · have hyp := hyp.2 q_
        refine r_aload_n (dcx dX3_hearUnit_c0 12 rfl) 0 rfl ?_
        refine s_callV (as := []) (st := []) zX3_hearBracket kX3_hearUnit_51 (dcx dX3_hearUnit_c0 13 rfl) rfl rfl (Nat.le_of_ble_eq_true rfl) O8 rfl rfl (C2.mono hyp ?_)
        rintro _ s31_ ⟨r32_, rfl, hyp⟩
        show G2 Γ l mX3_hearUnit 28 [(0, .ref 8), (1, .int x1), (2, .int x2)] [.int r32_] s31_ K
        exact s_ret rfl rfl rfl hyp (dcx dX3_hearUnit_c0 14 rfl)
    · have hyp := hyp.2 q_
      refine r_aload_n (dcx dX3_hearUnit_c0 6 rfl) 0 rfl ?_
      refine s_callV (as := []) (st := []) zX3_hearIf kX3_hearUnit_47 (dcx dX3_hearUnit_c0 7 rfl) rfl rfl (Nat.le_of_ble_eq_true rfl) O8 rfl rfl (C2.mono hyp ?_)
      rintro _ s33_ ⟨r34_, rfl, hyp⟩
      show G2 Γ l mX3_hearUnit 17 [(0, .ref 8), (1, .int x1), (2, .int x2)] [.int r34_] s33_ K
      exact s_ret rfl rfl rfl hyp (dcx dX3_hearUnit_c0 8 rfl)
set_option maxHeartbeats 4000000 in
set_option maxRecDepth 20000 in
theorem tX3_hearIf {Γ : GE} {l : Launch}  {σ : SS} {K : Option Value → SS → Prop}  (hyp : (¬ (σ.1 8 5) = 4 → (∀ s1_ : SS, s1_ = sI σ 8 5 ((σ.1 8 5) + 1) → (∀ s2_ : SS, s2_ = sI s1_ 8 3 1 → (K (some (.int 0)) s2_)))) ∧ ((σ.1 8 5) = 4 → (K (some (.int 2)) σ))) : C2 Γ l mX3_hearIf [.ref 8] σ K := by
  refine c2_of (lv := [(0, .ref 8)]) (by decide) (Nat.le_of_ble_eq_true rfl) rfl ?_
  refine r_aload_n (dcx dX3_hearIf_c0 0 rfl) 0 rfl ?_
  refine s_geti fX3_34 (dcx dX3_hearIf_c0 1 rfl) F8_5 ?_
  refine r_iconst (v := 4) (dcx dX3_hearIf_c0 2 rfl) rfl ?_
  refine r_icmp_ne (tgt := 10) (dcx dX3_hearIf_c0 3 rfl) (by decide) (fun q_ => ?_) (fun q_ => ?_)
  · have hyp := hyp.1 q_
    refine r_aload_n (dcx dX3_hearIf_c0 6 rfl) 0 rfl ?_
    refine r_dup (dcx dX3_hearIf_c0 7 rfl) rfl ?_
    refine s_geti fX3_34 (dcx dX3_hearIf_c0 8 rfl) F8_5 ?_
    refine r_iconst (v := 1) (dcx dX3_hearIf_c0 9 rfl) rfl ?_
    refine r_iadd (dcx dX3_hearIf_c0 10 rfl) ?_
    refine s_puti gX3_34 (dcx dX3_hearIf_c0 11 rfl) F8_5 ?_
    obtain ⟨s1_, es1_⟩ : ∃ z : SS, z = sI σ 8 5 ((σ.1 8 5) + 1) := ⟨_, rfl⟩
    rw [← es1_]
    have hyp := hyp s1_ es1_
    refine r_aload_n (dcx dX3_hearIf_c0 12 rfl) 0 rfl ?_
    refine r_iconst (v := 1) (dcx dX3_hearIf_c0 13 rfl) rfl ?_
    refine s_puti gX3_28 (dcx dX3_hearIf_c0 14 rfl) F8_3 ?_
    obtain ⟨s2_, es2_⟩ : ∃ z : SS, z = sI s1_ 8 3 1 := ⟨_, rfl⟩
    rw [← es2_]
    have hyp := hyp s2_ es2_
    refine r_iconst (v := 0) (dcx dX3_hearIf_c0 15 rfl) rfl ?_
    exact s_ret rfl rfl rfl hyp (dcx dX3_hearIf_c0 16 rfl)
  · have hyp := hyp.2 q_
    refine r_iconst (v := 2) (dcx dX3_hearIf_c0 4 rfl) rfl ?_
    exact s_ret rfl rfl rfl hyp (dcx dX3_hearIf_c0 5 rfl)
set_option maxHeartbeats 4000000 in
set_option maxRecDepth 20000 in
theorem tX3_hearBracket {Γ : GE} {l : Launch}  {σ : SS} {K : Option Value → SS → Prop}  (hyp : (¬ (σ.1 8 4) = 6 → (∀ s1_ : SS, s1_ = sI σ 8 4 ((σ.1 8 4) + 1) → (C2 Γ l mX3_leaveStart [.ref 8] s1_ (Rv fun s2_ => (C2 Γ l mX3_pushWaiting [.ref 8, .int 40] s2_ (Rv fun s4_ => (K (some (.int 0)) s4_))))))) ∧ ((σ.1 8 4) = 6 → (K (some (.int 2)) σ))) : C2 Γ l mX3_hearBracket [.ref 8] σ K := by
  refine c2_of (lv := [(0, .ref 8)]) (by decide) (Nat.le_of_ble_eq_true rfl) rfl ?_
  refine r_aload_n (dcx dX3_hearBracket_c0 0 rfl) 0 rfl ?_
  refine s_geti fX3_31 (dcx dX3_hearBracket_c0 1 rfl) F8_4 ?_
  refine r_bipush (v := 6) (dcx dX3_hearBracket_c0 2 rfl) rfl ?_
  refine r_icmp_ne (tgt := 11) (dcx dX3_hearBracket_c0 3 rfl) (by decide) (fun q_ => ?_) (fun q_ => ?_)
  · have hyp := hyp.1 q_
    refine r_aload_n (dcx dX3_hearBracket_c0 6 rfl) 0 rfl ?_
    refine r_dup (dcx dX3_hearBracket_c0 7 rfl) rfl ?_
    refine s_geti fX3_31 (dcx dX3_hearBracket_c0 8 rfl) F8_4 ?_
    refine r_iconst (v := 1) (dcx dX3_hearBracket_c0 9 rfl) rfl ?_
    refine r_iadd (dcx dX3_hearBracket_c0 10 rfl) ?_
    refine s_puti gX3_31 (dcx dX3_hearBracket_c0 11 rfl) F8_4 ?_
    obtain ⟨s1_, es1_⟩ : ∃ z : SS, z = sI σ 8 4 ((σ.1 8 4) + 1) := ⟨_, rfl⟩
    rw [← es1_]
    have hyp := hyp s1_ es1_
    refine r_aload_n (dcx dX3_hearBracket_c0 12 rfl) 0 rfl ?_
    refine s_callV (as := []) (st := []) zX3_leaveStart kX3_hearBracket_62 (dcx dX3_hearBracket_c0 13 rfl) rfl rfl (Nat.le_of_ble_eq_true rfl) O8 rfl rfl (C2.mono hyp ?_)
    rintro _ s2_ ⟨rfl, hyp⟩
    show G2 Γ l mX3_hearBracket 25 [(0, .ref 8)] [] s2_ K
    refine r_aload_n (dcx dX3_hearBracket_c0 14 rfl) 0 rfl ?_
    refine r_bipush (v := 40) (dcx dX3_hearBracket_c0 15 rfl) rfl ?_
    refine s_callV (as := [.int 40]) (st := []) zX3_pushWaiting kX3_hearBracket_65 (dcx dX3_hearBracket_c0 16 rfl) rfl rfl (Nat.le_of_ble_eq_true rfl) O8 rfl rfl (C2.mono hyp ?_)
    rintro _ s4_ ⟨rfl, hyp⟩
    show G2 Γ l mX3_hearBracket 31 [(0, .ref 8)] [] s4_ K
    refine r_iconst (v := 0) (dcx dX3_hearBracket_c0 17 rfl) rfl ?_
    exact s_ret rfl rfl rfl hyp (dcx dX3_hearBracket_c0 18 rfl)
  · have hyp := hyp.2 q_
    refine r_iconst (v := 2) (dcx dX3_hearBracket_c0 4 rfl) rfl ?_
    exact s_ret rfl rfl rfl hyp (dcx dX3_hearBracket_c0 5 rfl)
set_option maxHeartbeats 4000000 in
set_option maxRecDepth 20000 in
theorem tX3_leaveStart {Γ : GE} {l : Launch}  {σ : SS} {K : Option Value → SS → Prop}  (hyp : (¬ (σ.1 8 3) = 0 → (K none σ)) ∧ ((σ.1 8 3) = 0 → (∀ s1_ : SS, s1_ = sI σ 8 3 4 → (K none s1_)))) : C2 Γ l mX3_leaveStart [.ref 8] σ K := by
  refine c2_of (lv := [(0, .ref 8)]) (by decide) (Nat.le_of_ble_eq_true rfl) rfl ?_
  refine r_aload_n (dcx dX3_leaveStart_c0 0 rfl) 0 rfl ?_
  refine s_geti fX3_28 (dcx dX3_leaveStart_c0 1 rfl) F8_3 ?_
  refine r_if_ne (tgt := 12) (dcx dX3_leaveStart_c0 2 rfl) (by decide) (fun q_ => ?_) (fun q_ => ?_)
  · have hyp := hyp.1 q_
    exact s_vret rfl hyp (dcx dX3_leaveStart_c0 6 rfl)
  · have hyp := hyp.2 q_
    refine r_aload_n (dcx dX3_leaveStart_c0 3 rfl) 0 rfl ?_
    refine r_iconst (v := 4) (dcx dX3_leaveStart_c0 4 rfl) rfl ?_
    refine s_puti gX3_28 (dcx dX3_leaveStart_c0 5 rfl) F8_3 ?_
    obtain ⟨s1_, es1_⟩ : ∃ z : SS, z = sI σ 8 3 4 := ⟨_, rfl⟩
    rw [← es1_]
    have hyp := hyp s1_ es1_
    exact s_vret rfl hyp (dcx dX3_leaveStart_c0 6 rfl)
set_option maxHeartbeats 4000000 in
set_option maxRecDepth 20000 in
theorem tX3_hearBehindUnit {Γ : GE} {l : Launch} {x1 : Int32} {σ : SS} {K : Option Value → SS → Prop}  (hyp : C2 Γ l mX3_bindingOf [.int x1] σ (Ri fun r2_ s1_ => ((r2_ ≤ 0 → ((¬ (s1_.1 8 4) = 0 → ((x1 = 41 → (C2 Γ l mX3_settle [.ref 8, .int 1] s1_ (Rv fun s3_ => (∀ s5_ : SS, s5_ = sI s3_ 8 1 (imx (0 : Int32) ((s3_.1 8 1) - 1)) → (∀ s6_ : SS, s6_ = sI s5_ 8 4 ((s5_.1 8 4) - 1) → (K (some (.int 0)) s6_)))))) ∧ (¬ (x1 = 41) → (K (some (.int 1)) s1_)))) ∧ ((s1_.1 8 4) = 0 → (C2 Γ l mX3_hearEndOfE [.ref 8, .int x1] s1_ (Ri fun r8_ s7_ => (K (some (.int r8_)) s7_)))))) ∧ (¬ (r2_ ≤ 0) → (C2 Γ l mX3_bindingOf [.int x1] s1_ (Ri fun r10_ s9_ => (C2 Γ l mX3_settle [.ref 8, .int r10_] s9_ (Rv fun s11_ => (C2 Γ l mX3_pushWaiting [.ref 8, .int x1] s11_ (Rv fun s13_ => (∀ s15_ : SS, s15_ = sI s13_ 8 7 1 → (K (some (.int 0)) s15_)))))))))))) : C2 Γ l mX3_hearBehindUnit [.ref 8, .int x1] σ K := by
  refine c2_of (lv := [(0, .ref 8), (1, .int x1)]) (by decide) (Nat.le_of_ble_eq_true rfl) rfl ?_
  refine r_iload_n (dcx dX3_hearBehindUnit_c0 0 rfl) 1 rfl ?_
  refine s_callS (as := [.int x1]) (st := []) zX3_bindingOf kX3_hearBehindUnit_68 (dcx dX3_hearBehindUnit_c0 1 rfl) rfl rfl (Nat.le_of_ble_eq_true rfl) (C2.mono hyp ?_)
  rintro _ s1_ ⟨r2_, rfl, hyp⟩
  show G2 Γ l mX3_hearBehindUnit 4 [(0, .ref 8), (1, .int x1)] [.int r2_] s1_ K
  refine r_if_le (tgt := 27) (dcx dX3_hearBehindUnit_c0 2 rfl) (by decide) (fun q_ => ?_) (fun q_ => ?_)
  · have hyp := hyp.1 q_
    refine r_aload_n (dcx dX3_hearBehindUnit_c0 15 rfl) 0 rfl ?_
    refine s_geti fX3_31 (dcx dX3_hearBehindUnit_c0 16 rfl) F8_4 ?_
    refine r_if_ne (tgt := 40) (dcx dX3_hearBehindUnit_c0 17 rfl) (by decide) (fun q_ => ?_) (fun q_ => ?_)
    · have hyp := hyp.1 q_
      refine r_iload_n (dcx dX3_hearBehindUnit_c0 22 rfl) 1 rfl ?_
      refine r_bipush (v := 41) (dcx dX3_hearBehindUnit_c0 23 rfl) rfl ?_
      refine r_icmp_eq (tgt := 48) (dcx dX3_hearBehindUnit_c0 24 rfl) (by decide) (fun q_ => ?_) (fun q_ => ?_)
      · have hyp := hyp.1 q_
        refine r_aload_n (dcx dX3_hearBehindUnit_c0 27 rfl) 0 rfl ?_
        refine r_iconst (v := 1) (dcx dX3_hearBehindUnit_c0 28 rfl) rfl ?_
        refine s_callV (as := [.int 1]) (st := []) zX3_settle kX3_hearBehindUnit_71 (dcx dX3_hearBehindUnit_c0 29 rfl) rfl rfl (Nat.le_of_ble_eq_true rfl) O8 rfl rfl (C2.mono hyp ?_)
        rintro _ s3_ ⟨rfl, hyp⟩
        show G2 Γ l mX3_hearBehindUnit 53 [(0, .ref 8), (1, .int x1)] [] s3_ K
        refine r_aload_n (dcx dX3_hearBehindUnit_c0 30 rfl) 0 rfl ?_
        refine r_iconst (v := 0) (dcx dX3_hearBehindUnit_c0 31 rfl) rfl ?_
        refine r_aload_n (dcx dX3_hearBehindUnit_c0 32 rfl) 0 rfl ?_
        refine s_geti fX3_24 (dcx dX3_hearBehindUnit_c0 33 rfl) F8_1 ?_
        refine r_iconst (v := 1) (dcx dX3_hearBehindUnit_c0 34 rfl) rfl ?_
        refine r_isub (dcx dX3_hearBehindUnit_c0 35 rfl) ?_
        refine r_max q782 q608 q16 q609 (by decide) (Nat.le_of_ble_eq_true rfl) (Nat.zero_le _) (Nat.zero_le _) (dcx dX3_hearBehindUnit_c0 36 rfl) ?_
        refine s_puti gX3_24 (dcx dX3_hearBehindUnit_c0 37 rfl) F8_1 ?_
        obtain ⟨s5_, es5_⟩ : ∃ z : SS, z = sI s3_ 8 1 (imx (0 : Int32) ((s3_.1 8 1) - 1)) := ⟨_, rfl⟩
        rw [← es5_]
        have hyp := hyp s5_ es5_
        refine r_aload_n (dcx dX3_hearBehindUnit_c0 38 rfl) 0 rfl ?_
        refine r_dup (dcx dX3_hearBehindUnit_c0 39 rfl) rfl ?_
        refine s_geti fX3_31 (dcx dX3_hearBehindUnit_c1 0 rfl) F8_4 ?_
        refine r_iconst (v := 1) (dcx dX3_hearBehindUnit_c1 1 rfl) rfl ?_
        refine r_isub (dcx dX3_hearBehindUnit_c1 2 rfl) ?_
        refine s_puti gX3_31 (dcx dX3_hearBehindUnit_c1 3 rfl) F8_4 ?_
        obtain ⟨s6_, es6_⟩ : ∃ z : SS, z = sI s5_ 8 4 ((s5_.1 8 4) - 1) := ⟨_, rfl⟩
        rw [← es6_]
        have hyp := hyp s6_ es6_
        refine r_iconst (v := 0) (dcx dX3_hearBehindUnit_c1 4 rfl) rfl ?_
        exact s_ret rfl rfl rfl hyp (dcx dX3_hearBehindUnit_c1 5 rfl)
      · have hyp := hyp.2 q_
        refine r_iconst (v := 1) (dcx dX3_hearBehindUnit_c0 25 rfl) rfl ?_
        exact s_ret rfl rfl rfl hyp (dcx dX3_hearBehindUnit_c0 26 rfl)
    · have hyp := hyp.2 q_
      refine r_aload_n (dcx dX3_hearBehindUnit_c0 18 rfl) 0 rfl ?_
      refine r_iload_n (dcx dX3_hearBehindUnit_c0 19 rfl) 1 rfl ?_
      refine s_callV (as := [.int x1]) (st := []) zX3_hearEndOfE kX3_hearBehindUnit_74 (dcx dX3_hearBehindUnit_c0 20 rfl) rfl rfl (Nat.le_of_ble_eq_true rfl) O8 rfl rfl (C2.mono hyp ?_)
      rintro _ s7_ ⟨r8_, rfl, hyp⟩
      show G2 Γ l mX3_hearBehindUnit 39 [(0, .ref 8), (1, .int x1)] [.int r8_] s7_ K
      exact s_ret rfl rfl rfl hyp (dcx dX3_hearBehindUnit_c0 21 rfl)
  · have hyp := hyp.2 q_
    refine r_aload_n (dcx dX3_hearBehindUnit_c0 3 rfl) 0 rfl ?_
    refine r_iload_n (dcx dX3_hearBehindUnit_c0 4 rfl) 1 rfl ?_
    refine s_callS (as := [.int x1]) (st := [.ref 8]) zX3_bindingOf kX3_hearBehindUnit_68 (dcx dX3_hearBehindUnit_c0 5 rfl) rfl rfl (Nat.le_of_ble_eq_true rfl) (C2.mono hyp ?_)
    rintro _ s9_ ⟨r10_, rfl, hyp⟩
    show G2 Γ l mX3_hearBehindUnit 12 [(0, .ref 8), (1, .int x1)] [.int r10_, .ref 8] s9_ K
    refine s_callV (as := [.int r10_]) (st := []) zX3_settle kX3_hearBehindUnit_71 (dcx dX3_hearBehindUnit_c0 6 rfl) rfl rfl (Nat.le_of_ble_eq_true rfl) O8 rfl rfl (C2.mono hyp ?_)
    rintro _ s11_ ⟨rfl, hyp⟩
    show G2 Γ l mX3_hearBehindUnit 15 [(0, .ref 8), (1, .int x1)] [] s11_ K
    refine r_aload_n (dcx dX3_hearBehindUnit_c0 7 rfl) 0 rfl ?_
    refine r_iload_n (dcx dX3_hearBehindUnit_c0 8 rfl) 1 rfl ?_
    refine s_callV (as := [.int x1]) (st := []) zX3_pushWaiting kX3_hearBehindUnit_65 (dcx dX3_hearBehindUnit_c0 9 rfl) rfl rfl (Nat.le_of_ble_eq_true rfl) O8 rfl rfl (C2.mono hyp ?_)
    rintro _ s13_ ⟨rfl, hyp⟩
    show G2 Γ l mX3_hearBehindUnit 20 [(0, .ref 8), (1, .int x1)] [] s13_ K
    refine r_aload_n (dcx dX3_hearBehindUnit_c0 10 rfl) 0 rfl ?_
    refine r_iconst (v := 1) (dcx dX3_hearBehindUnit_c0 11 rfl) rfl ?_
    refine s_putz gX3_40 (dcx dX3_hearBehindUnit_c0 12 rfl) F8_7 rfl rfl ?_
    obtain ⟨s15_, es15_⟩ : ∃ z : SS, z = sI s13_ 8 7 1 := ⟨_, rfl⟩
    rw [← es15_]
    have hyp := hyp s15_ es15_
    refine r_iconst (v := 0) (dcx dX3_hearBehindUnit_c0 13 rfl) rfl ?_
    exact s_ret rfl rfl rfl hyp (dcx dX3_hearBehindUnit_c0 14 rfl)
