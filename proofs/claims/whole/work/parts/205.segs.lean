def wX6_grassCells_4 (Γ : GE) (l : Launch) (a0 : Nat) (x1 : Int32) (x2 : Int32) (σ : SS) (K : Option Value → SS → Prop) : Prop := G2 Γ l mX6_grassCells 4 [(0, .ref a0), (1, .int x1), (2, .int x2)] [] σ K
set_option maxHeartbeats 4000000 in
set_option maxRecDepth 20000 in
theorem tX6_grassCells {Γ : GE} {l : Launch} {a0 : Nat} {σ : SS} {K : Option Value → SS → Prop} (h0 : isP a0) (hyp : wX6_grassCells_4 Γ l a0 0 0 σ K) : C2 Γ l mX6_grassCells [.ref a0] σ K := by
  refine c2_of (lv := [(0, .ref a0)]) (by decide) (Nat.le_of_ble_eq_true rfl) rfl ?_
  refine r_iconst (v := 0) (dcx dX6_grassCells_c0 0 rfl) rfl ?_
  refine r_istore_n (lv1 := [(1, .int 0), (0, .ref a0)]) (dcx dX6_grassCells_c0 1 rfl) (Nat.le_of_ble_eq_true rfl) rfl ?_
  refine r_iconst (v := 0) (dcx dX6_grassCells_c0 2 rfl) rfl ?_
  refine r_istore_n (lv1 := [(2, .int 0), (1, .int 0), (0, .ref a0)]) (dcx dX6_grassCells_c0 3 rfl) (Nat.le_of_ble_eq_true rfl) rfl ?_
  refine r_loc (lv1 := [(0, .ref a0), (1, .int 0), (2, .int 0)]) [2, 1, 0] rfl ?_
  exact hyp
set_option maxHeartbeats 4000000 in
set_option maxRecDepth 20000 in
theorem tX6_grassCells_4 {Γ : GE} {l : Launch} {a0 : Nat} {x1 : Int32} {x2 : Int32} {σ : SS} {K : Option Value → SS → Prop} (h0 : isP a0) (hyp : ((80 : Int32) ≤ x2 → (K (some (.int x1)) σ)) ∧ (¬ ((80 : Int32) ≤ x2) → (vp_in x2 80 ∧ (((σ.1 (a0 + 1) (Int32.toNatClampNeg x2)) < 0 → (wX6_grassCells_4 Γ l a0 x1 (x2 + 1) σ K)) ∧ (¬ ((σ.1 (a0 + 1) (Int32.toNatClampNeg x2)) < 0) → (wX6_grassCells_4 Γ l a0 (x1 + 1) (x2 + 1) σ K)))))) : wX6_grassCells_4 Γ l a0 x1 x2 σ K := by
  show G2 Γ l mX6_grassCells 4 [(0, .ref a0), (1, .int x1), (2, .int x2)] [] σ K
  refine r_iload_n (dcx dX6_grassCells_c0 4 rfl) 2 rfl ?_
  refine r_bipush (v := 80) (dcx dX6_grassCells_c0 5 rfl) rfl ?_
  refine r_icmp_ge (tgt := 28) (dcx dX6_grassCells_c0 6 rfl) (by decide) (fun q_ => ?_) (fun q_ => ?_)
  · have hyp := hyp.1 q_
    refine r_iload_n (dcx dX6_grassCells_c0 15 rfl) 1 rfl ?_
    exact s_ret rfl rfl rfl hyp (dcx dX6_grassCells_c0 16 rfl)
  · have hyp := hyp.2 q_
    refine r_aload_n (dcx dX6_grassCells_c0 7 rfl) 0 rfl ?_
    refine s_getr (b := a0 + 1) fX6_9 (dcx dX6_grassCells_c0 8 rfl) (FP_0 h0) ?_
    refine r_iload_n (dcx dX6_grassCells_c0 9 rfl) 2 rfl ?_
    obtain ⟨hb_, hyp⟩ := hyp
    refine s_iald (dcx dX6_grassCells_c0 10 rfl) (AP_0 h0) hb_ ?_
    refine r_if_lt (tgt := 22) (dcx dX6_grassCells_c0 11 rfl) (by decide) (fun q_ => ?_) (fun q_ => ?_)
    · have hyp := hyp.1 q_
      refine r_iinc (lv1 := [(2, .int (x2 + 1)), (0, .ref a0), (1, .int x1)]) (dcx dX6_grassCells_c0 13 rfl) 2 rfl (Nat.le_of_ble_eq_true rfl) rfl ?_
      refine r_goto (tgt := 4) (dcx dX6_grassCells_c0 14 rfl) (by decide) ?_
      refine r_loc (lv1 := [(0, .ref a0), (1, .int x1), (2, .int (x2 + 1))]) [1, 2, 0] rfl ?_
      exact hyp
    · have hyp := hyp.2 q_
      refine r_iinc (lv1 := [(1, .int (x1 + 1)), (0, .ref a0), (2, .int x2)]) (dcx dX6_grassCells_c0 12 rfl) 1 rfl (Nat.le_of_ble_eq_true rfl) rfl ?_
      refine r_iinc (lv1 := [(2, .int (x2 + 1)), (1, .int (x1 + 1)), (0, .ref a0)]) (dcx dX6_grassCells_c0 13 rfl) 2 rfl (Nat.le_of_ble_eq_true rfl) rfl ?_
      refine r_goto (tgt := 4) (dcx dX6_grassCells_c0 14 rfl) (by decide) ?_
      refine r_loc (lv1 := [(0, .ref a0), (1, .int (x1 + 1)), (2, .int (x2 + 1))]) [2, 1, 0] rfl ?_
      exact hyp
def wX6_isNamed_2 (Γ : GE) (l : Launch) (a0 : Nat) (x1 : Int64) (x3 : Int32) (σ : SS) (K : Option Value → SS → Prop) : Prop := G2 Γ l mX6_isNamed 2 [(0, .ref a0), (1, .long x1), (3, .int x3)] [] σ K
set_option maxHeartbeats 4000000 in
set_option maxRecDepth 20000 in
theorem tX6_isNamed {Γ : GE} {l : Launch} {a0 : Nat} {x1 : Int64} {σ : SS} {K : Option Value → SS → Prop} (h0 : isP a0) (hyp : wX6_isNamed_2 Γ l a0 x1 0 σ K) : C2 Γ l mX6_isNamed [.ref a0, .long x1] σ K := by
  refine c2_of (lv := [(0, .ref a0), (1, .long x1)]) (by decide) (Nat.le_of_ble_eq_true rfl) rfl ?_
  refine r_iconst (v := 0) (dcx dX6_isNamed_c0 0 rfl) rfl ?_
  refine r_istore_n (lv1 := [(3, .int 0), (0, .ref a0), (1, .long x1)]) (dcx dX6_isNamed_c0 1 rfl) (Nat.le_of_ble_eq_true rfl) rfl ?_
  refine r_loc (lv1 := [(0, .ref a0), (1, .long x1), (3, .int 0)]) [1, 2, 0] rfl ?_
  exact hyp
set_option maxHeartbeats 4000000 in
set_option maxRecDepth 20000 in
theorem tX6_isNamed_2 {Γ : GE} {l : Launch} {a0 : Nat} {x1 : Int64} {x3 : Int32} {σ : SS} {K : Option Value → SS → Prop} (h0 : isP a0) (hyp : ((σ.1 a0 13) ≤ x3 → (C2 Γ l mX6_windowNamed [.ref a0, .long x1] σ (Ri fun r2_ s1_ => ((r2_ = ((-1)) → (K (some (.int 0)) s1_)) ∧ (¬ (r2_ = ((-1))) → (K (some (.int 1)) s1_)))))) ∧ (¬ ((σ.1 a0 13) ≤ x3) → (vp_in x3 4 ∧ ((¬ (lg_cmp (σ.2.1 (a0 + 2) (Int32.toNatClampNeg x3)) x1) = 0 → (wX6_isNamed_2 Γ l a0 x1 (x3 + 1) σ K)) ∧ ((lg_cmp (σ.2.1 (a0 + 2) (Int32.toNatClampNeg x3)) x1) = 0 → (K (some (.int 1)) σ)))))) : wX6_isNamed_2 Γ l a0 x1 x3 σ K := by
  show G2 Γ l mX6_isNamed 2 [(0, .ref a0), (1, .long x1), (3, .int x3)] [] σ K
  refine r_iload_n (dcx dX6_isNamed_c0 2 rfl) 2 rfl ?_
  refine r_aload_n (dcx dX6_isNamed_c0 3 rfl) 0 rfl ?_
  refine s_geti fX6_60 (dcx dX6_isNamed_c0 4 rfl) (FP_13 h0) ?_
  refine r_icmp_ge (tgt := 29) (dcx dX6_isNamed_c0 5 rfl) (by decide) (fun q_ => ?_) (fun q_ => ?_)
  · have hyp := hyp.1 q_
    refine r_aload_n (dcx dX6_isNamed_c0 17 rfl) 0 rfl ?_
    refine r_lload_n (dcx dX6_isNamed_c0 18 rfl) 1 rfl ?_
    refine s_callV (as := [.long x1]) (st := []) zX6_windowNamed kX6_isNamed_101 (dcx dX6_isNamed_c0 19 rfl) rfl rfl (Nat.le_of_ble_eq_true rfl) (OP h0) rfl rfl (C2.mono hyp ?_)
    rintro _ s1_ ⟨r2_, rfl, hyp⟩
    show G2 Γ l mX6_isNamed 34 [(0, .ref a0), (1, .long x1), (3, .int x3)] [.int r2_] s1_ K
    refine r_iconst (v := (-1)) (dcx dX6_isNamed_c0 20 rfl) rfl ?_
    refine r_icmp_eq (tgt := 42) (dcx dX6_isNamed_c0 21 rfl) (by decide) (fun q_ => ?_) (fun q_ => ?_)
    · have hyp := hyp.1 q_
      refine r_iconst (v := 0) (dcx dX6_isNamed_c0 24 rfl) rfl ?_
      exact s_ret rfl rfl rfl hyp (dcx dX6_isNamed_c0 25 rfl)
    · have hyp := hyp.2 q_
      refine r_iconst (v := 1) (dcx dX6_isNamed_c0 22 rfl) rfl ?_
      refine r_goto (tgt := 43) (dcx dX6_isNamed_c0 23 rfl) (by decide) ?_
      exact s_ret rfl rfl rfl hyp (dcx dX6_isNamed_c0 25 rfl)
  · have hyp := hyp.2 q_
    refine r_aload_n (dcx dX6_isNamed_c0 6 rfl) 0 rfl ?_
    refine s_getr (b := a0 + 2) fX6_15 (dcx dX6_isNamed_c0 7 rfl) (FP_1 h0) ?_
    refine r_iload_n (dcx dX6_isNamed_c0 8 rfl) 2 rfl ?_
    obtain ⟨hb_, hyp⟩ := hyp
    refine s_lald (dcx dX6_isNamed_c0 9 rfl) (AP_1 h0) hb_ ?_
    refine r_lload_n (dcx dX6_isNamed_c0 10 rfl) 1 rfl ?_
    refine r_lcmp (dcx dX6_isNamed_c0 11 rfl) ?_
    refine r_if_ne (tgt := 23) (dcx dX6_isNamed_c0 12 rfl) (by decide) (fun q_ => ?_) (fun q_ => ?_)
    · have hyp := hyp.1 q_
      refine r_iinc (lv1 := [(3, .int (x3 + 1)), (0, .ref a0), (1, .long x1)]) (dcx dX6_isNamed_c0 15 rfl) 2 rfl (Nat.le_of_ble_eq_true rfl) rfl ?_
      refine r_goto (tgt := 2) (dcx dX6_isNamed_c0 16 rfl) (by decide) ?_
      refine r_loc (lv1 := [(0, .ref a0), (1, .long x1), (3, .int (x3 + 1))]) [1, 2, 0] rfl ?_
      exact hyp
    · have hyp := hyp.2 q_
      refine r_iconst (v := 1) (dcx dX6_isNamed_c0 13 rfl) rfl ?_
      exact s_ret rfl rfl rfl hyp (dcx dX6_isNamed_c0 14 rfl)
def wX6_windowNamed_2 (Γ : GE) (l : Launch) (a0 : Nat) (x1 : Int64) (x3 : Int32) (σ : SS) (K : Option Value → SS → Prop) : Prop := G2 Γ l mX6_windowNamed 2 [(0, .ref a0), (1, .long x1), (3, .int x3)] [] σ K
set_option maxHeartbeats 4000000 in
set_option maxRecDepth 20000 in
theorem tX6_windowNamed {Γ : GE} {l : Launch} {a0 : Nat} {x1 : Int64} {σ : SS} {K : Option Value → SS → Prop} (h0 : isP a0) (hyp : wX6_windowNamed_2 Γ l a0 x1 0 σ K) : C2 Γ l mX6_windowNamed [.ref a0, .long x1] σ K := by
  refine c2_of (lv := [(0, .ref a0), (1, .long x1)]) (by decide) (Nat.le_of_ble_eq_true rfl) rfl ?_
  refine r_iconst (v := 0) (dcx dX6_windowNamed_c0 0 rfl) rfl ?_
  refine r_istore_n (lv1 := [(3, .int 0), (0, .ref a0), (1, .long x1)]) (dcx dX6_windowNamed_c0 1 rfl) (Nat.le_of_ble_eq_true rfl) rfl ?_
  refine r_loc (lv1 := [(0, .ref a0), (1, .long x1), (3, .int 0)]) [1, 2, 0] rfl ?_
  exact hyp
set_option maxHeartbeats 4000000 in
set_option maxRecDepth 20000 in
theorem tX6_windowNamed_2 {Γ : GE} {l : Launch} {a0 : Nat} {x1 : Int64} {x3 : Int32} {σ : SS} {K : Option Value → SS → Prop} (h0 : isP a0) (hyp : ((σ.1 a0 14) ≤ x3 → (K (some (.int ((-1)))) σ)) ∧ (¬ ((σ.1 a0 14) ≤ x3) → (vp_in x3 4 ∧ ((¬ (lg_cmp (σ.2.1 (a0 + 4) (Int32.toNatClampNeg x3)) x1) = 0 → (wX6_windowNamed_2 Γ l a0 x1 (x3 + 1) σ K)) ∧ ((lg_cmp (σ.2.1 (a0 + 4) (Int32.toNatClampNeg x3)) x1) = 0 → (K (some (.int x3)) σ)))))) : wX6_windowNamed_2 Γ l a0 x1 x3 σ K := by
  show G2 Γ l mX6_windowNamed 2 [(0, .ref a0), (1, .long x1), (3, .int x3)] [] σ K
  refine r_iload_n (dcx dX6_windowNamed_c0 2 rfl) 2 rfl ?_
  refine r_aload_n (dcx dX6_windowNamed_c0 3 rfl) 0 rfl ?_
  refine s_geti fX6_63 (dcx dX6_windowNamed_c0 4 rfl) (FP_14 h0) ?_
  refine r_icmp_ge (tgt := 29) (dcx dX6_windowNamed_c0 5 rfl) (by decide) (fun q_ => ?_) (fun q_ => ?_)
  · have hyp := hyp.1 q_
    refine r_iconst (v := (-1)) (dcx dX6_windowNamed_c0 17 rfl) rfl ?_
    exact s_ret rfl rfl rfl hyp (dcx dX6_windowNamed_c0 18 rfl)
  · have hyp := hyp.2 q_
    refine r_aload_n (dcx dX6_windowNamed_c0 6 rfl) 0 rfl ?_
    refine s_getr (b := a0 + 4) fX6_22 (dcx dX6_windowNamed_c0 7 rfl) (FP_3 h0) ?_
    refine r_iload_n (dcx dX6_windowNamed_c0 8 rfl) 2 rfl ?_
    obtain ⟨hb_, hyp⟩ := hyp
    refine s_lald (dcx dX6_windowNamed_c0 9 rfl) (AP_3 h0) hb_ ?_
    refine r_lload_n (dcx dX6_windowNamed_c0 10 rfl) 1 rfl ?_
    refine r_lcmp (dcx dX6_windowNamed_c0 11 rfl) ?_
    refine r_if_ne (tgt := 23) (dcx dX6_windowNamed_c0 12 rfl) (by decide) (fun q_ => ?_) (fun q_ => ?_)
    · have hyp := hyp.1 q_
      refine r_iinc (lv1 := [(3, .int (x3 + 1)), (0, .ref a0), (1, .long x1)]) (dcx dX6_windowNamed_c0 15 rfl) 2 rfl (Nat.le_of_ble_eq_true rfl) rfl ?_
      refine r_goto (tgt := 2) (dcx dX6_windowNamed_c0 16 rfl) (by decide) ?_
      refine r_loc (lv1 := [(0, .ref a0), (1, .long x1), (3, .int (x3 + 1))]) [1, 2, 0] rfl ?_
      exact hyp
    · have hyp := hyp.2 q_
      refine r_iload_n (dcx dX6_windowNamed_c0 13 rfl) 2 rfl ?_
      exact s_ret rfl rfl rfl hyp (dcx dX6_windowNamed_c0 14 rfl)
set_option maxHeartbeats 4000000 in
set_option maxRecDepth 20000 in
theorem tX6_talk {Γ : GE} {l : Launch} {a0 : Nat} {x1 : Int32} {x2 : Int32} {σ : SS} {K : Option Value → SS → Prop} (h0 : isP a0) (hyp : vp_in x1 4 ∧ ((¬ (((σ.1 (a0 + 8) (Int32.toNatClampNeg x1)) >>> (x2 &&& 31)) &&& 1) = 1 → (K (some (.int 0)) σ)) ∧ ((((σ.1 (a0 + 8) (Int32.toNatClampNeg x1)) >>> (x2 &&& 31)) &&& 1) = 1 → (K (some (.int 1)) σ)))) : C2 Γ l mX6_talk [.ref a0, .int x1, .int x2] σ K := by
  refine c2_of (lv := [(0, .ref a0), (1, .int x1), (2, .int x2)]) (by decide) (Nat.le_of_ble_eq_true rfl) rfl ?_
  refine r_aload_n (dcx dX6_talk_c0 0 rfl) 0 rfl ?_
  refine s_getr (b := a0 + 8) fX6_34 (dcx dX6_talk_c0 1 rfl) (FP_7 h0) ?_
  refine r_iload_n (dcx dX6_talk_c0 2 rfl) 1 rfl ?_
  obtain ⟨hb_, hyp⟩ := hyp
  refine s_iald (dcx dX6_talk_c0 3 rfl) (AP_7 h0) hb_ ?_
  refine r_iload_n (dcx dX6_talk_c0 4 rfl) 2 rfl ?_
  refine r_ishr (dcx dX6_talk_c0 5 rfl) ?_
  refine r_iconst (v := 1) (dcx dX6_talk_c0 6 rfl) rfl ?_
  refine r_iand (dcx dX6_talk_c0 7 rfl) ?_
  refine r_iconst (v := 1) (dcx dX6_talk_c0 8 rfl) rfl ?_
  refine r_icmp_ne (tgt := 18) (dcx dX6_talk_c0 9 rfl) (by decide) (fun q_ => ?_) (fun q_ => ?_)
  · have hyp := hyp.1 q_
    refine r_iconst (v := 0) (dcx dX6_talk_c0 12 rfl) rfl ?_
    exact s_ret rfl rfl rfl hyp (dcx dX6_talk_c0 13 rfl)
  · have hyp := hyp.2 q_
    refine r_iconst (v := 1) (dcx dX6_talk_c0 10 rfl) rfl ?_
    refine r_goto (tgt := 19) (dcx dX6_talk_c0 11 rfl) (by decide) ?_
    exact s_ret rfl rfl rfl hyp (dcx dX6_talk_c0 13 rfl)
set_option maxHeartbeats 4000000 in
set_option maxRecDepth 20000 in
theorem tX6_addTalk {Γ : GE} {l : Launch} {a0 : Nat} {x1 : Int32} {x2 : Int32} {σ : SS} {K : Option Value → SS → Prop} (h0 : isP a0) (hyp : vp_in x1 4 ∧ (vp_in x1 4 ∧ (∀ s1_ : SS, s1_ = sI σ (a0 + 8) (Int32.toNatClampNeg x1) ((σ.1 (a0 + 8) (Int32.toNatClampNeg x1)) ||| (1 <<< (x2 &&& 31))) → (vp_in x2 4 ∧ (vp_in x2 4 ∧ (∀ s2_ : SS, s2_ = sI s1_ (a0 + 8) (Int32.toNatClampNeg x2) ((s1_.1 (a0 + 8) (Int32.toNatClampNeg x2)) ||| (1 <<< (x1 &&& 31))) → (K none s2_))))))) : C2 Γ l mX6_addTalk [.ref a0, .int x1, .int x2] σ K := by
  refine c2_of (lv := [(0, .ref a0), (1, .int x1), (2, .int x2)]) (by decide) (Nat.le_of_ble_eq_true rfl) rfl ?_
  refine r_aload_n (dcx dX6_addTalk_c0 0 rfl) 0 rfl ?_
  refine s_getr (b := a0 + 8) fX6_34 (dcx dX6_addTalk_c0 1 rfl) (FP_7 h0) ?_
  refine r_iload_n (dcx dX6_addTalk_c0 2 rfl) 1 rfl ?_
  refine r_dup2 (dcx dX6_addTalk_c0 3 rfl) rfl rfl ?_
  obtain ⟨hb_, hyp⟩ := hyp
  refine s_iald (dcx dX6_addTalk_c0 4 rfl) (AP_7 h0) hb_ ?_
  refine r_iconst (v := 1) (dcx dX6_addTalk_c0 5 rfl) rfl ?_
  refine r_iload_n (dcx dX6_addTalk_c0 6 rfl) 2 rfl ?_
  refine r_ishl (dcx dX6_addTalk_c0 7 rfl) ?_
  refine r_ior (dcx dX6_addTalk_c0 8 rfl) ?_
  obtain ⟨hb_, hyp⟩ := hyp
  refine s_iast (dcx dX6_addTalk_c0 9 rfl) (AP_7 h0) hb_ ?_
  obtain ⟨s1_, es1_⟩ : ∃ z : SS, z = sI σ (a0 + 8) (Int32.toNatClampNeg x1) ((σ.1 (a0 + 8) (Int32.toNatClampNeg x1)) ||| (1 <<< (x2 &&& 31))) := ⟨_, rfl⟩
  rw [← es1_]
  have hyp := hyp s1_ es1_
  refine r_aload_n (dcx dX6_addTalk_c0 10 rfl) 0 rfl ?_
  refine s_getr (b := a0 + 8) fX6_34 (dcx dX6_addTalk_c0 11 rfl) (FP_7 h0) ?_
  refine r_iload_n (dcx dX6_addTalk_c0 12 rfl) 2 rfl ?_
  refine r_dup2 (dcx dX6_addTalk_c0 13 rfl) rfl rfl ?_
  obtain ⟨hb_, hyp⟩ := hyp
  refine s_iald (dcx dX6_addTalk_c0 14 rfl) (AP_7 h0) hb_ ?_
  refine r_iconst (v := 1) (dcx dX6_addTalk_c0 15 rfl) rfl ?_
  refine r_iload_n (dcx dX6_addTalk_c0 16 rfl) 1 rfl ?_
  refine r_ishl (dcx dX6_addTalk_c0 17 rfl) ?_
  refine r_ior (dcx dX6_addTalk_c0 18 rfl) ?_
  obtain ⟨hb_, hyp⟩ := hyp
  refine s_iast (dcx dX6_addTalk_c0 19 rfl) (AP_7 h0) hb_ ?_
  obtain ⟨s2_, es2_⟩ : ∃ z : SS, z = sI s1_ (a0 + 8) (Int32.toNatClampNeg x2) ((s1_.1 (a0 + 8) (Int32.toNatClampNeg x2)) ||| (1 <<< (x1 &&& 31))) := ⟨_, rfl⟩
  rw [← es2_]
  have hyp := hyp s2_ es2_
  exact s_vret rfl hyp (dcx dX6_addTalk_c0 20 rfl)
set_option maxHeartbeats 4000000 in
set_option maxRecDepth 20000 in
theorem tX7_begin {Γ : GE} {l : Launch} {a1 : Nat} {σ : SS} {K : Option Value → SS → Prop} (h1 : isP a1) (hyp : ∀ s1_ : SS, s1_ = sR σ 7 2 a1 → (∃ b2_ : Nat, s1_.2.2 7 2 = b2_ ∧ isP b2_ ∧ (C2 Γ l mX6_clear [.ref b2_] s1_ (Rv fun s3_ => (∀ s5_ : SS, s5_ = sI s3_ 7 4 0 → (∀ s6_ : SS, s6_ = sI s5_ 7 5 ((-1)) → (∀ s7_ : SS, s7_ = sI s6_ 7 6 0 → (∀ s8_ : SS, s8_ = sI s7_ 7 7 ((-1)) → (∀ s9_ : SS, s9_ = sI s8_ 7 3 0 → (K none s9_)))))))))) : C2 Γ l mX7_begin [.ref 7, .ref a1] σ K := by
  refine c2_of (lv := [(0, .ref 7), (1, .ref a1)]) (by decide) (Nat.le_of_ble_eq_true rfl) rfl ?_
  refine r_aload_n (dcx dX7_begin_c0 0 rfl) 0 rfl ?_
  refine r_aload_n (dcx dX7_begin_c0 1 rfl) 1 rfl ?_
  refine s_putm gX7_22 (dcx dX7_begin_c0 2 rfl) F7_2 (nzP h1) ?_
  obtain ⟨s1_, es1_⟩ : ∃ z : SS, z = sR σ 7 2 a1 := ⟨_, rfl⟩
  rw [← es1_]
  have hyp := hyp s1_ es1_
  refine r_aload_n (dcx dX7_begin_c0 3 rfl) 0 rfl ?_
  obtain ⟨b2_, eb2_, hb2_, hyp⟩ := hyp
  refine s_getmE fX7_22 (dcx dX7_begin_c0 4 rfl) F7_2 eb2_ (nzP hb2_) ?_
  refine s_callV (as := []) (st := []) zX6_clear kX7_begin_26 (dcx dX7_begin_c0 5 rfl) rfl rfl (Nat.le_of_ble_eq_true rfl) (OP hb2_) rfl rfl (C2.mono hyp ?_)
  rintro _ s3_ ⟨rfl, hyp⟩
  show G2 Γ l mX7_begin 12 [(0, .ref 7), (1, .ref a1)] [] s3_ K
  refine r_aload_n (dcx dX7_begin_c0 6 rfl) 0 rfl ?_
  refine r_iconst (v := 0) (dcx dX7_begin_c0 7 rfl) rfl ?_
  refine s_puti gX7_31 (dcx dX7_begin_c0 8 rfl) F7_4 ?_
  obtain ⟨s5_, es5_⟩ : ∃ z : SS, z = sI s3_ 7 4 0 := ⟨_, rfl⟩
  rw [← es5_]
  have hyp := hyp s5_ es5_
  refine r_aload_n (dcx dX7_begin_c0 9 rfl) 0 rfl ?_
  refine r_iconst (v := (-1)) (dcx dX7_begin_c0 10 rfl) rfl ?_
  refine s_puti gX7_35 (dcx dX7_begin_c0 11 rfl) F7_5 ?_
  obtain ⟨s6_, es6_⟩ : ∃ z : SS, z = sI s5_ 7 5 ((-1)) := ⟨_, rfl⟩
  rw [← es6_]
  have hyp := hyp s6_ es6_
  refine r_aload_n (dcx dX7_begin_c0 12 rfl) 0 rfl ?_
  refine r_iconst (v := 0) (dcx dX7_begin_c0 13 rfl) rfl ?_
  refine s_puti gX7_38 (dcx dX7_begin_c0 14 rfl) F7_6 ?_
  obtain ⟨s7_, es7_⟩ : ∃ z : SS, z = sI s6_ 7 6 0 := ⟨_, rfl⟩
  rw [← es7_]
  have hyp := hyp s7_ es7_
  refine r_aload_n (dcx dX7_begin_c0 15 rfl) 0 rfl ?_
  refine r_iconst (v := (-1)) (dcx dX7_begin_c0 16 rfl) rfl ?_
  refine s_puti gX7_41 (dcx dX7_begin_c0 17 rfl) F7_7 ?_
  obtain ⟨s8_, es8_⟩ : ∃ z : SS, z = sI s7_ 7 7 ((-1)) := ⟨_, rfl⟩
  rw [← es8_]
  have hyp := hyp s8_ es8_
  refine r_aload_n (dcx dX7_begin_c0 18 rfl) 0 rfl ?_
  refine r_iconst (v := 0) (dcx dX7_begin_c0 19 rfl) rfl ?_
  refine s_puti gX7_44 (dcx dX7_begin_c0 20 rfl) F7_3 ?_
  obtain ⟨s9_, es9_⟩ : ∃ z : SS, z = sI s8_ 7 3 0 := ⟨_, rfl⟩
  rw [← es9_]
  have hyp := hyp s9_ es9_
  exact s_vret rfl hyp (dcx dX7_begin_c0 21 rfl)
set_option maxHeartbeats 4000000 in
set_option maxRecDepth 20000 in
theorem tX7_goesOn {Γ : GE} {l : Launch}  {σ : SS} {K : Option Value → SS → Prop}  (hyp : (¬ (σ.1 7 4) = 0 → (K (some (.int 0)) σ)) ∧ ((σ.1 7 4) = 0 → (vp_in (σ.1 7 3) 402 ∧ (((σ.1 3 (Int32.toNatClampNeg (σ.1 7 3))) = 0 → (K (some (.int 0)) σ)) ∧ (¬ ((σ.1 3 (Int32.toNatClampNeg (σ.1 7 3))) = 0) → (K (some (.int 1)) σ)))))) : C2 Γ l mX7_goesOn [.ref 7] σ K := by
  refine c2_of (lv := [(0, .ref 7)]) (by decide) (Nat.le_of_ble_eq_true rfl) rfl ?_
  refine r_aload_n (dcx dX7_goesOn_c0 0 rfl) 0 rfl ?_
  refine s_geti fX7_31 (dcx dX7_goesOn_c0 1 rfl) F7_4 ?_
  refine r_if_ne (tgt := 26) (dcx dX7_goesOn_c0 2 rfl) (by decide) (fun q_ => ?_) (fun q_ => ?_)
  · have hyp := hyp.1 q_
    refine r_iconst (v := 0) (dcx dX7_goesOn_c0 12 rfl) rfl ?_
    exact s_ret rfl rfl rfl hyp (dcx dX7_goesOn_c0 13 rfl)
  · have hyp := hyp.2 q_
    refine r_aload_n (dcx dX7_goesOn_c0 3 rfl) 0 rfl ?_
    refine s_getr (b := 1) fX7_18 (dcx dX7_goesOn_c0 4 rfl) F7_0 ?_
    refine s_getr (b := 3) fX7_47 (dcx dX7_goesOn_c0 5 rfl) F1_2 ?_
    refine r_aload_n (dcx dX7_goesOn_c0 6 rfl) 0 rfl ?_
    refine s_geti fX7_44 (dcx dX7_goesOn_c0 7 rfl) F7_3 ?_
    obtain ⟨hb_, hyp⟩ := hyp
    refine s_iald (dcx dX7_goesOn_c0 8 rfl) A3 hb_ ?_
    refine r_if_eq (tgt := 26) (dcx dX7_goesOn_c0 9 rfl) (by decide) (fun q_ => ?_) (fun q_ => ?_)
    · have hyp := hyp.1 q_
      refine r_iconst (v := 0) (dcx dX7_goesOn_c0 12 rfl) rfl ?_
      exact s_ret rfl rfl rfl hyp (dcx dX7_goesOn_c0 13 rfl)
    · have hyp := hyp.2 q_
      refine r_iconst (v := 1) (dcx dX7_goesOn_c0 10 rfl) rfl ?_
      refine r_goto (tgt := 27) (dcx dX7_goesOn_c0 11 rfl) (by decide) ?_
      exact s_ret rfl rfl rfl hyp (dcx dX7_goesOn_c0 13 rfl)
set_option maxHeartbeats 4000000 in
set_option maxRecDepth 20000 in
theorem tX7_end {Γ : GE} {l : Launch}  {σ : SS} {K : Option Value → SS → Prop}  (hyp : (¬ (σ.1 7 4) = 0 → (K none σ)) ∧ ((σ.1 7 4) = 0 → (∀ s1_ : SS, s1_ = sI σ 7 4 (σ.1 7 6) → (∀ s2_ : SS, s2_ = sI s1_ 7 5 (s1_.1 7 7) → (K none s2_))))) : C2 Γ l mX7_end [.ref 7] σ K := by
  refine c2_of (lv := [(0, .ref 7)]) (by decide) (Nat.le_of_ble_eq_true rfl) rfl ?_
  refine r_aload_n (dcx dX7_end_c0 0 rfl) 0 rfl ?_
  refine s_geti fX7_31 (dcx dX7_end_c0 1 rfl) F7_4 ?_
  refine r_if_ne (tgt := 23) (dcx dX7_end_c0 2 rfl) (by decide) (fun q_ => ?_) (fun q_ => ?_)
  · have hyp := hyp.1 q_
    exact s_vret rfl hyp (dcx dX7_end_c0 11 rfl)
  · have hyp := hyp.2 q_
    refine r_aload_n (dcx dX7_end_c0 3 rfl) 0 rfl ?_
    refine r_aload_n (dcx dX7_end_c0 4 rfl) 0 rfl ?_
    refine s_geti fX7_38 (dcx dX7_end_c0 5 rfl) F7_6 ?_
    refine s_puti gX7_31 (dcx dX7_end_c0 6 rfl) F7_4 ?_
    obtain ⟨s1_, es1_⟩ : ∃ z : SS, z = sI σ 7 4 (σ.1 7 6) := ⟨_, rfl⟩
    rw [← es1_]
    have hyp := hyp s1_ es1_
    refine r_aload_n (dcx dX7_end_c0 7 rfl) 0 rfl ?_
    refine r_aload_n (dcx dX7_end_c0 8 rfl) 0 rfl ?_
    refine s_geti fX7_41 (dcx dX7_end_c0 9 rfl) F7_7 ?_
    refine s_puti gX7_35 (dcx dX7_end_c0 10 rfl) F7_5 ?_
    obtain ⟨s2_, es2_⟩ : ∃ z : SS, z = sI s1_ 7 5 (s1_.1 7 7) := ⟨_, rfl⟩
    rw [← es2_]
    have hyp := hyp s2_ es2_
    exact s_vret rfl hyp (dcx dX7_end_c0 11 rfl)
set_option maxHeartbeats 4000000 in
set_option maxRecDepth 20000 in
theorem tX7_takeTell {Γ : GE} {l : Launch}  {σ : SS} {K : Option Value → SS → Prop}  (hyp : vp_in (σ.1 7 3) 402 ∧ (((σ.1 3 (Int32.toNatClampNeg (σ.1 7 3))) = 100 → (C2 Γ l mX7_takeRow [.ref 7] σ (Rv fun s1_ => (K none s1_)))) ∧ ((σ.1 3 (Int32.toNatClampNeg (σ.1 7 3))) = 101 → (C2 Γ l mX7_takeSign [.ref 7] σ (Rv fun s3_ => (K none s3_)))) ∧ ((σ.1 3 (Int32.toNatClampNeg (σ.1 7 3))) = 102 → (C2 Γ l mX7_takeWindow [.ref 7] σ (Rv fun s5_ => (K none s5_)))) ∧ ((σ.1 3 (Int32.toNatClampNeg (σ.1 7 3))) = 103 → (C2 Γ l mX7_takeTalk [.ref 7] σ (Rv fun s7_ => (K none s7_)))) ∧ ((σ.1 3 (Int32.toNatClampNeg (σ.1 7 3))) = 104 → (∃ b9_ : Nat, σ.2.2 7 2 = b9_ ∧ isP b9_ ∧ (C2 Γ l mX7_takeLaw [.ref 7, .ref (b9_ + 9)] σ (Rv fun s10_ => (K none s10_))))) ∧ ((σ.1 3 (Int32.toNatClampNeg (σ.1 7 3))) = 105 → (∃ b12_ : Nat, σ.2.2 7 2 = b12_ ∧ isP b12_ ∧ (C2 Γ l mX7_takeLaw [.ref 7, .ref (b12_ + 12)] σ (Rv fun s13_ => (K none s13_))))) ∧ ((σ.1 3 (Int32.toNatClampNeg (σ.1 7 3))) = 106 → (∃ b15_ : Nat, σ.2.2 7 2 = b15_ ∧ isP b15_ ∧ (C2 Γ l mX7_takeLaw [.ref 7, .ref (b15_ + 15)] σ (Rv fun s16_ => (K none s16_))))) ∧ ((σ.1 3 (Int32.toNatClampNeg (σ.1 7 3))) = 107 → (C2 Γ l mX7_takeHeight [.ref 7] σ (Rv fun s18_ => (K none s18_)))) ∧ ((σ.1 3 (Int32.toNatClampNeg (σ.1 7 3))) = 108 → (C2 Γ l mX7_takeRain [.ref 7] σ (Rv fun s20_ => (K none s20_)))) ∧ ((σ.1 3 (Int32.toNatClampNeg (σ.1 7 3))) = 109 → (C2 Γ l mX7_takeSeed [.ref 7] σ (Rv fun s22_ => (K none s22_)))) ∧ (¬ (σ.1 3 (Int32.toNatClampNeg (σ.1 7 3))) = 100 → ¬ (σ.1 3 (Int32.toNatClampNeg (σ.1 7 3))) = 101 → ¬ (σ.1 3 (Int32.toNatClampNeg (σ.1 7 3))) = 102 → ¬ (σ.1 3 (Int32.toNatClampNeg (σ.1 7 3))) = 103 → ¬ (σ.1 3 (Int32.toNatClampNeg (σ.1 7 3))) = 104 → ¬ (σ.1 3 (Int32.toNatClampNeg (σ.1 7 3))) = 105 → ¬ (σ.1 3 (Int32.toNatClampNeg (σ.1 7 3))) = 106 → ¬ (σ.1 3 (Int32.toNatClampNeg (σ.1 7 3))) = 107 → ¬ (σ.1 3 (Int32.toNatClampNeg (σ.1 7 3))) = 108 → ¬ (σ.1 3 (Int32.toNatClampNeg (σ.1 7 3))) = 109 → (C2 Γ l mX7_refuse [.ref 7, .int 1] σ (Rv fun s24_ => (K none s24_)))))) : C2 Γ l mX7_takeTell [.ref 7] σ K := by
  refine c2_of (lv := [(0, .ref 7)]) (by decide) (Nat.le_of_ble_eq_true rfl) rfl ?_
  refine r_aload_n (dcx dX7_takeTell_c0 0 rfl) 0 rfl ?_
  refine s_getr (b := 1) fX7_18 (dcx dX7_takeTell_c0 1 rfl) F7_0 ?_
  refine s_getr (b := 3) fX7_47 (dcx dX7_takeTell_c0 2 rfl) F1_2 ?_
  refine r_aload_n (dcx dX7_takeTell_c0 3 rfl) 0 rfl ?_
  refine s_geti fX7_44 (dcx dX7_takeTell_c0 4 rfl) F7_3 ?_
  obtain ⟨hb_, hyp⟩ := hyp
  refine s_iald (dcx dX7_takeTell_c0 5 rfl) A3 hb_ ?_
  by_cases q0_ : (σ.1 3 (Int32.toNatClampNeg (σ.1 7 3))) = 100
  · have hyp := hyp.1 q0_
    refine r_tableIn (off := 56) (tgt := 68) (dcx dX7_takeTell_c0 6 rfl) (by rw [q0_]; decide) (by rw [q0_]; decide) (by rw [q0_]; decide) (by decide) ?_
    refine r_aload_n (dcx dX7_takeTell_c0 7 rfl) 0 rfl ?_
    refine s_callV (as := []) (st := []) zX7_takeRow kX7_takeTell_53 (dcx dX7_takeTell_c0 8 rfl) rfl rfl (Nat.le_of_ble_eq_true rfl) O7 rfl rfl (C2.mono hyp ?_)
    rintro _ s1_ ⟨rfl, hyp⟩
    show G2 Γ l mX7_takeTell 72 [(0, .ref 7)] [] s1_ K
    refine r_goto (tgt := 164) (dcx dX7_takeTell_c0 9 rfl) (by decide) ?_
    exact s_vret rfl hyp (dcx dX7_takeTell_c1 9 rfl)
  have hyp := hyp.2
  by_cases q1_ : (σ.1 3 (Int32.toNatClampNeg (σ.1 7 3))) = 101
  · have hyp := hyp.1 q1_
    refine r_tableIn (off := 63) (tgt := 75) (dcx dX7_takeTell_c0 6 rfl) (by rw [q1_]; decide) (by rw [q1_]; decide) (by rw [q1_]; decide) (by decide) ?_
    refine r_aload_n (dcx dX7_takeTell_c0 10 rfl) 0 rfl ?_
    refine s_callV (as := []) (st := []) zX7_takeSign kX7_takeTell_56 (dcx dX7_takeTell_c0 11 rfl) rfl rfl (Nat.le_of_ble_eq_true rfl) O7 rfl rfl (C2.mono hyp ?_)
    rintro _ s3_ ⟨rfl, hyp⟩
    show G2 Γ l mX7_takeTell 79 [(0, .ref 7)] [] s3_ K
    refine r_goto (tgt := 164) (dcx dX7_takeTell_c0 12 rfl) (by decide) ?_
    exact s_vret rfl hyp (dcx dX7_takeTell_c1 9 rfl)
  have hyp := hyp.2
  by_cases q2_ : (σ.1 3 (Int32.toNatClampNeg (σ.1 7 3))) = 102
  · have hyp := hyp.1 q2_
    refine r_tableIn (off := 70) (tgt := 82) (dcx dX7_takeTell_c0 6 rfl) (by rw [q2_]; decide) (by rw [q2_]; decide) (by rw [q2_]; decide) (by decide) ?_
    refine r_aload_n (dcx dX7_takeTell_c0 13 rfl) 0 rfl ?_
    refine s_callV (as := []) (st := []) zX7_takeWindow kX7_takeTell_59 (dcx dX7_takeTell_c0 14 rfl) rfl rfl (Nat.le_of_ble_eq_true rfl) O7 rfl rfl (C2.mono hyp ?_)
    rintro _ s5_ ⟨rfl, hyp⟩
    show G2 Γ l mX7_takeTell 86 [(0, .ref 7)] [] s5_ K
    refine r_goto (tgt := 164) (dcx dX7_takeTell_c0 15 rfl) (by decide) ?_
    exact s_vret rfl hyp (dcx dX7_takeTell_c1 9 rfl)
  have hyp := hyp.2
  by_cases q3_ : (σ.1 3 (Int32.toNatClampNeg (σ.1 7 3))) = 103
  · have hyp := hyp.1 q3_
    refine r_tableIn (off := 77) (tgt := 89) (dcx dX7_takeTell_c0 6 rfl) (by rw [q3_]; decide) (by rw [q3_]; decide) (by rw [q3_]; decide) (by decide) ?_
    refine r_aload_n (dcx dX7_takeTell_c0 16 rfl) 0 rfl ?_
    refine s_callV (as := []) (st := []) zX7_takeTalk kX7_takeTell_62 (dcx dX7_takeTell_c0 17 rfl) rfl rfl (Nat.le_of_ble_eq_true rfl) O7 rfl rfl (C2.mono hyp ?_)
    rintro _ s7_ ⟨rfl, hyp⟩
    show G2 Γ l mX7_takeTell 93 [(0, .ref 7)] [] s7_ K
    refine r_goto (tgt := 164) (dcx dX7_takeTell_c0 18 rfl) (by decide) ?_
    exact s_vret rfl hyp (dcx dX7_takeTell_c1 9 rfl)
  have hyp := hyp.2
  by_cases q4_ : (σ.1 3 (Int32.toNatClampNeg (σ.1 7 3))) = 104
  · have hyp := hyp.1 q4_
    refine r_tableIn (off := 84) (tgt := 96) (dcx dX7_takeTell_c0 6 rfl) (by rw [q4_]; decide) (by rw [q4_]; decide) (by rw [q4_]; decide) (by decide) ?_
    refine r_aload_n (dcx dX7_takeTell_c0 19 rfl) 0 rfl ?_
    refine r_aload_n (dcx dX7_takeTell_c0 20 rfl) 0 rfl ?_
    obtain ⟨b9_, eb9_, hb9_, hyp⟩ := hyp
    refine s_getmE fX7_22 (dcx dX7_takeTell_c0 21 rfl) F7_2 eb9_ (nzP hb9_) ?_
    refine s_getr (b := b9_ + 9) fX7_65 (dcx dX7_takeTell_c0 22 rfl) (FP_8 hb9_) ?_
    refine s_callV (as := [.ref (b9_ + 9)]) (st := []) zX7_takeLaw kX7_takeTell_69 (dcx dX7_takeTell_c0 23 rfl) rfl rfl (Nat.le_of_ble_eq_true rfl) O7 rfl rfl (C2.mono hyp ?_)
    rintro _ s10_ ⟨rfl, hyp⟩
    show G2 Γ l mX7_takeTell 107 [(0, .ref 7)] [] s10_ K
    refine r_goto (tgt := 164) (dcx dX7_takeTell_c0 24 rfl) (by decide) ?_
    exact s_vret rfl hyp (dcx dX7_takeTell_c1 9 rfl)
  have hyp := hyp.2
  by_cases q5_ : (σ.1 3 (Int32.toNatClampNeg (σ.1 7 3))) = 105
  · have hyp := hyp.1 q5_
    refine r_tableIn (off := 98) (tgt := 110) (dcx dX7_takeTell_c0 6 rfl) (by rw [q5_]; decide) (by rw [q5_]; decide) (by rw [q5_]; decide) (by decide) ?_
    refine r_aload_n (dcx dX7_takeTell_c0 25 rfl) 0 rfl ?_
    refine r_aload_n (dcx dX7_takeTell_c0 26 rfl) 0 rfl ?_
    obtain ⟨b12_, eb12_, hb12_, hyp⟩ := hyp
    refine s_getmE fX7_22 (dcx dX7_takeTell_c0 27 rfl) F7_2 eb12_ (nzP hb12_) ?_
    refine s_getr (b := b12_ + 12) fX7_73 (dcx dX7_takeTell_c0 28 rfl) (FP_9 hb12_) ?_
    refine s_callV (as := [.ref (b12_ + 12)]) (st := []) zX7_takeLaw kX7_takeTell_69 (dcx dX7_takeTell_c0 29 rfl) rfl rfl (Nat.le_of_ble_eq_true rfl) O7 rfl rfl (C2.mono hyp ?_)
    rintro _ s13_ ⟨rfl, hyp⟩
    show G2 Γ l mX7_takeTell 121 [(0, .ref 7)] [] s13_ K
    refine r_goto (tgt := 164) (dcx dX7_takeTell_c0 30 rfl) (by decide) ?_
    exact s_vret rfl hyp (dcx dX7_takeTell_c1 9 rfl)
  have hyp := hyp.2
  by_cases q6_ : (σ.1 3 (Int32.toNatClampNeg (σ.1 7 3))) = 106
  · have hyp := hyp.1 q6_
    refine r_tableIn (off := 112) (tgt := 124) (dcx dX7_takeTell_c0 6 rfl) (by rw [q6_]; decide) (by rw [q6_]; decide) (by rw [q6_]; decide) (by decide) ?_
    refine r_aload_n (dcx dX7_takeTell_c0 31 rfl) 0 rfl ?_
    refine r_aload_n (dcx dX7_takeTell_c0 32 rfl) 0 rfl ?_
    obtain ⟨b15_, eb15_, hb15_, hyp⟩ := hyp
    refine s_getmE fX7_22 (dcx dX7_takeTell_c0 33 rfl) F7_2 eb15_ (nzP hb15_) ?_
    refine s_getr (b := b15_ + 15) fX7_76 (dcx dX7_takeTell_c0 34 rfl) (FP_10 hb15_) ?_
    refine s_callV (as := [.ref (b15_ + 15)]) (st := []) zX7_takeLaw kX7_takeTell_69 (dcx dX7_takeTell_c0 35 rfl) rfl rfl (Nat.le_of_ble_eq_true rfl) O7 rfl rfl (C2.mono hyp ?_)
    rintro _ s16_ ⟨rfl, hyp⟩
    show G2 Γ l mX7_takeTell 135 [(0, .ref 7)] [] s16_ K
    refine r_goto (tgt := 164) (dcx dX7_takeTell_c0 36 rfl) (by decide) ?_
    exact s_vret rfl hyp (dcx dX7_takeTell_c1 9 rfl)
  have hyp := hyp.2
  by_cases q7_ : (σ.1 3 (Int32.toNatClampNeg (σ.1 7 3))) = 107
  · have hyp := hyp.1 q7_
    refine r_tableIn (off := 126) (tgt := 138) (dcx dX7_takeTell_c0 6 rfl) (by rw [q7_]; decide) (by rw [q7_]; decide) (by rw [q7_]; decide) (by decide) ?_
    refine r_aload_n (dcx dX7_takeTell_c0 37 rfl) 0 rfl ?_
    refine s_callV (as := []) (st := []) zX7_takeHeight kX7_takeTell_79 (dcx dX7_takeTell_c0 38 rfl) rfl rfl (Nat.le_of_ble_eq_true rfl) O7 rfl rfl (C2.mono hyp ?_)
    rintro _ s18_ ⟨rfl, hyp⟩
    show G2 Γ l mX7_takeTell 142 [(0, .ref 7)] [] s18_ K
    refine r_goto (tgt := 164) (dcx dX7_takeTell_c0 39 rfl) (by decide) ?_
    exact s_vret rfl hyp (dcx dX7_takeTell_c1 9 rfl)
  have hyp := hyp.2
  by_cases q8_ : (σ.1 3 (Int32.toNatClampNeg (σ.1 7 3))) = 108
  · have hyp := hyp.1 q8_
    refine r_tableIn (off := 133) (tgt := 145) (dcx dX7_takeTell_c0 6 rfl) (by rw [q8_]; decide) (by rw [q8_]; decide) (by rw [q8_]; decide) (by decide) ?_
    refine r_aload_n (dcx dX7_takeTell_c1 0 rfl) 0 rfl ?_
    refine s_callV (as := []) (st := []) zX7_takeRain kX7_takeTell_82 (dcx dX7_takeTell_c1 1 rfl) rfl rfl (Nat.le_of_ble_eq_true rfl) O7 rfl rfl (C2.mono hyp ?_)
    rintro _ s20_ ⟨rfl, hyp⟩
    show G2 Γ l mX7_takeTell 149 [(0, .ref 7)] [] s20_ K
    refine r_goto (tgt := 164) (dcx dX7_takeTell_c1 2 rfl) (by decide) ?_
    exact s_vret rfl hyp (dcx dX7_takeTell_c1 9 rfl)
  have hyp := hyp.2
  by_cases q9_ : (σ.1 3 (Int32.toNatClampNeg (σ.1 7 3))) = 109
  · have hyp := hyp.1 q9_
    refine r_tableIn (off := 140) (tgt := 152) (dcx dX7_takeTell_c0 6 rfl) (by rw [q9_]; decide) (by rw [q9_]; decide) (by rw [q9_]; decide) (by decide) ?_
    refine r_aload_n (dcx dX7_takeTell_c1 3 rfl) 0 rfl ?_
    refine s_callV (as := []) (st := []) zX7_takeSeed kX7_takeTell_85 (dcx dX7_takeTell_c1 4 rfl) rfl rfl (Nat.le_of_ble_eq_true rfl) O7 rfl rfl (C2.mono hyp ?_)
    rintro _ s22_ ⟨rfl, hyp⟩
    show G2 Γ l mX7_takeTell 156 [(0, .ref 7)] [] s22_ K
    refine r_goto (tgt := 164) (dcx dX7_takeTell_c1 5 rfl) (by decide) ?_
    exact s_vret rfl hyp (dcx dX7_takeTell_c1 9 rfl)
  have hyp := hyp.2
  have hyp := hyp q0_ q1_ q2_ q3_ q4_ q5_ q6_ q7_ q8_ q9_
  refine r_tableOut (tgt := 159) (dcx dX7_takeTell_c0 6 rfl) (by have t0_ := lv_neT (a := 100) q0_ (by decide); have t1_ := lv_neT (a := 101) q1_ (by decide); have t2_ := lv_neT (a := 102) q2_ (by decide); have t3_ := lv_neT (a := 103) q3_ (by decide); have t4_ := lv_neT (a := 104) q4_ (by decide); have t5_ := lv_neT (a := 105) q5_ (by decide); have t6_ := lv_neT (a := 106) q6_ (by decide); have t7_ := lv_neT (a := 107) q7_ (by decide); have t8_ := lv_neT (a := 108) q8_ (by decide); have t9_ := lv_neT (a := 109) q9_ (by decide); omega) (by decide) ?_
  refine r_aload_n (dcx dX7_takeTell_c1 6 rfl) 0 rfl ?_
  refine r_iconst (v := 1) (dcx dX7_takeTell_c1 7 rfl) rfl ?_
  refine s_callV (as := [.int 1]) (st := []) zX7_refuse kX7_takeTell_88 (dcx dX7_takeTell_c1 8 rfl) rfl rfl (Nat.le_of_ble_eq_true rfl) O7 rfl rfl (C2.mono hyp ?_)
  rintro _ s24_ ⟨rfl, hyp⟩
  show G2 Γ l mX7_takeTell 164 [(0, .ref 7)] [] s24_ K
  exact s_vret rfl hyp (dcx dX7_takeTell_c1 9 rfl)
set_option maxHeartbeats 4000000 in
set_option maxRecDepth 20000 in
theorem tX7_refuse {Γ : GE} {l : Launch} {x1 : Int32} {σ : SS} {K : Option Value → SS → Prop}  (hyp : ∀ s1_ : SS, s1_ = sI σ 7 4 x1 → (vp_in (s1_.1 7 3) 402 ∧ (∀ s2_ : SS, s2_ = sI s1_ 7 5 (s1_.1 4 (Int32.toNatClampNeg (s1_.1 7 3))) → (K none s2_)))) : C2 Γ l mX7_refuse [.ref 7, .int x1] σ K := by
  refine c2_of (lv := [(0, .ref 7), (1, .int x1)]) (by decide) (Nat.le_of_ble_eq_true rfl) rfl ?_
  refine r_aload_n (dcx dX7_refuse_c0 0 rfl) 0 rfl ?_
  refine r_iload_n (dcx dX7_refuse_c0 1 rfl) 1 rfl ?_
  refine s_puti gX7_31 (dcx dX7_refuse_c0 2 rfl) F7_4 ?_
  obtain ⟨s1_, es1_⟩ : ∃ z : SS, z = sI σ 7 4 x1 := ⟨_, rfl⟩
  rw [← es1_]
  have hyp := hyp s1_ es1_
  refine r_aload_n (dcx dX7_refuse_c0 3 rfl) 0 rfl ?_
  refine r_aload_n (dcx dX7_refuse_c0 4 rfl) 0 rfl ?_
  refine s_getr (b := 1) fX7_18 (dcx dX7_refuse_c0 5 rfl) F7_0 ?_
  refine s_getr (b := 4) fX7_92 (dcx dX7_refuse_c0 6 rfl) F1_3 ?_
  refine r_aload_n (dcx dX7_refuse_c0 7 rfl) 0 rfl ?_
  refine s_geti fX7_44 (dcx dX7_refuse_c0 8 rfl) F7_3 ?_
  obtain ⟨hb_, hyp⟩ := hyp
  refine s_iald (dcx dX7_refuse_c0 9 rfl) A4 hb_ ?_
  refine s_puti gX7_35 (dcx dX7_refuse_c0 10 rfl) F7_5 ?_
  obtain ⟨s2_, es2_⟩ : ∃ z : SS, z = sI s1_ 7 5 (s1_.1 4 (Int32.toNatClampNeg (s1_.1 7 3))) := ⟨_, rfl⟩
  rw [← es2_]
  have hyp := hyp s2_ es2_
  exact s_vret rfl hyp (dcx dX7_refuse_c0 11 rfl)
set_option maxHeartbeats 4000000 in
set_option maxRecDepth 20000 in
theorem tX7_blame {Γ : GE} {l : Launch} {x1 : Int32} {σ : SS} {K : Option Value → SS → Prop}  (hyp : (¬ (σ.1 7 6) = 0 → (K none σ)) ∧ ((σ.1 7 6) = 0 → (∀ s1_ : SS, s1_ = sI σ 7 6 x1 → (∀ s2_ : SS, s2_ = sI s1_ 7 7 (s1_.1 7 8) → (K none s2_))))) : C2 Γ l mX7_blame [.ref 7, .int x1] σ K := by
  refine c2_of (lv := [(0, .ref 7), (1, .int x1)]) (by decide) (Nat.le_of_ble_eq_true rfl) rfl ?_
  refine r_aload_n (dcx dX7_blame_c0 0 rfl) 0 rfl ?_
  refine s_geti fX7_38 (dcx dX7_blame_c0 1 rfl) F7_6 ?_
  refine r_if_ne (tgt := 20) (dcx dX7_blame_c0 2 rfl) (by decide) (fun q_ => ?_) (fun q_ => ?_)
  · have hyp := hyp.1 q_
    exact s_vret rfl hyp (dcx dX7_blame_c0 10 rfl)
  · have hyp := hyp.2 q_
    refine r_aload_n (dcx dX7_blame_c0 3 rfl) 0 rfl ?_
    refine r_iload_n (dcx dX7_blame_c0 4 rfl) 1 rfl ?_
    refine s_puti gX7_38 (dcx dX7_blame_c0 5 rfl) F7_6 ?_
    obtain ⟨s1_, es1_⟩ : ∃ z : SS, z = sI σ 7 6 x1 := ⟨_, rfl⟩
    rw [← es1_]
    have hyp := hyp s1_ es1_
    refine r_aload_n (dcx dX7_blame_c0 6 rfl) 0 rfl ?_
    refine r_aload_n (dcx dX7_blame_c0 7 rfl) 0 rfl ?_
    refine s_geti fX7_95 (dcx dX7_blame_c0 8 rfl) F7_8 ?_
    refine s_puti gX7_41 (dcx dX7_blame_c0 9 rfl) F7_7 ?_
    obtain ⟨s2_, es2_⟩ : ∃ z : SS, z = sI s1_ 7 7 (s1_.1 7 8) := ⟨_, rfl⟩
    rw [← es2_]
    have hyp := hyp s2_ es2_
    exact s_vret rfl hyp (dcx dX7_blame_c0 10 rfl)
set_option maxHeartbeats 4000000 in
set_option maxRecDepth 20000 in
theorem tX7_take {Γ : GE} {l : Launch} {x1 : Int32} {σ : SS} {K : Option Value → SS → Prop}  (hyp : vp_in (σ.1 7 3) 402 ∧ (((σ.1 3 (Int32.toNatClampNeg (σ.1 7 3))) = x1 → (C2 Γ l mX7_pass [.ref 7] σ (Ri fun r2_ s1_ => (narrow .boolean (.int r2_) = .int r2_ ∧ K (some (.int r2_)) s1_)))) ∧ (¬ ((σ.1 3 (Int32.toNatClampNeg (σ.1 7 3))) = x1) → (C2 Γ l mX7_refuse [.ref 7, .int 1] σ (Rv fun s3_ => (K (some (.int 0)) s3_)))))) : C2 Γ l mX7_take [.ref 7, .int x1] σ K := by
  refine c2_of (lv := [(0, .ref 7), (1, .int x1)]) (by decide) (Nat.le_of_ble_eq_true rfl) rfl ?_
  refine r_aload_n (dcx dX7_take_c0 0 rfl) 0 rfl ?_
  refine s_getr (b := 1) fX7_18 (dcx dX7_take_c0 1 rfl) F7_0 ?_
  refine s_getr (b := 3) fX7_47 (dcx dX7_take_c0 2 rfl) F1_2 ?_
  refine r_aload_n (dcx dX7_take_c0 3 rfl) 0 rfl ?_
  refine s_geti fX7_44 (dcx dX7_take_c0 4 rfl) F7_3 ?_
  obtain ⟨hb_, hyp⟩ := hyp
  refine s_iald (dcx dX7_take_c0 5 rfl) A3 hb_ ?_
  refine r_iload_n (dcx dX7_take_c0 6 rfl) 1 rfl ?_
  refine r_icmp_eq (tgt := 23) (dcx dX7_take_c0 7 rfl) (by decide) (fun q_ => ?_) (fun q_ => ?_)
  · have hyp := hyp.1 q_
    refine r_aload_n (dcx dX7_take_c0 13 rfl) 0 rfl ?_
    refine s_callV (as := []) (st := []) zX7_pass kX7_take_98 (dcx dX7_take_c0 14 rfl) rfl rfl (Nat.le_of_ble_eq_true rfl) O7 rfl rfl (C2.mono hyp ?_)
    rintro _ s1_ ⟨r2_, rfl, hyp⟩
    show G2 Γ l mX7_take 27 [(0, .ref 7), (1, .int x1)] [.int r2_] s1_ K
    exact s_ret rfl rfl hyp.1 hyp.2 (dcx dX7_take_c0 15 rfl)
  · have hyp := hyp.2 q_
    refine r_aload_n (dcx dX7_take_c0 8 rfl) 0 rfl ?_
    refine r_iconst (v := 1) (dcx dX7_take_c0 9 rfl) rfl ?_
    refine s_callV (as := [.int 1]) (st := []) zX7_refuse kX7_take_88 (dcx dX7_take_c0 10 rfl) rfl rfl (Nat.le_of_ble_eq_true rfl) O7 rfl rfl (C2.mono hyp ?_)
    rintro _ s3_ ⟨rfl, hyp⟩
    show G2 Γ l mX7_take 21 [(0, .ref 7), (1, .int x1)] [] s3_ K
    refine r_iconst (v := 0) (dcx dX7_take_c0 11 rfl) rfl ?_
    exact s_ret rfl rfl rfl hyp (dcx dX7_take_c0 12 rfl)
set_option maxHeartbeats 4000000 in
set_option maxRecDepth 20000 in
theorem tX7_pass {Γ : GE} {l : Launch}  {σ : SS} {K : Option Value → SS → Prop}  (hyp : ((σ.1 7 3) < 400 → (vp_in (σ.1 7 3) 402 ∧ (∀ s1_ : SS, s1_ = sI σ 7 8 (σ.1 4 (Int32.toNatClampNeg (σ.1 7 3))) → (vp_in (s1_.1 7 3) 402 ∧ (∀ s2_ : SS, s2_ = sI s1_ 7 9 (s1_.1 5 (Int32.toNatClampNeg (s1_.1 7 3))) → (vp_in (s2_.1 7 3) 402 ∧ (∀ s3_ : SS, s3_ = sJ s2_ 7 10 (s2_.2.1 6 (Int32.toNatClampNeg (s2_.1 7 3))) → (∀ s4_ : SS, s4_ = sI s3_ 7 3 ((s3_.1 7 3) + 1) → (K (some (.int 1)) s4_))))))))) ∧ (¬ ((σ.1 7 3) < 400) → (C2 Γ l mX7_refuse [.ref 7, .int 2] σ (Rv fun s5_ => (K (some (.int 0)) s5_))))) : C2 Γ l mX7_pass [.ref 7] σ K := by
  refine c2_of (lv := [(0, .ref 7)]) (by decide) (Nat.le_of_ble_eq_true rfl) rfl ?_
  refine r_aload_n (dcx dX7_pass_c0 0 rfl) 0 rfl ?_
  refine s_geti fX7_44 (dcx dX7_pass_c0 1 rfl) F7_3 ?_
  refine r_sipush (v := 400) (dcx dX7_pass_c0 2 rfl) rfl ?_
  refine r_icmp_lt (tgt := 17) (dcx dX7_pass_c0 3 rfl) (by decide) (fun q_ => ?_) (fun q_ => ?_)
  · have hyp := hyp.1 q_
    refine r_aload_n (dcx dX7_pass_c0 9 rfl) 0 rfl ?_
    refine r_aload_n (dcx dX7_pass_c0 10 rfl) 0 rfl ?_
    refine s_getr (b := 1) fX7_18 (dcx dX7_pass_c0 11 rfl) F7_0 ?_
    refine s_getr (b := 4) fX7_92 (dcx dX7_pass_c0 12 rfl) F1_3 ?_
    refine r_aload_n (dcx dX7_pass_c0 13 rfl) 0 rfl ?_
    refine s_geti fX7_44 (dcx dX7_pass_c0 14 rfl) F7_3 ?_
    obtain ⟨hb_, hyp⟩ := hyp
    refine s_iald (dcx dX7_pass_c0 15 rfl) A4 hb_ ?_
    refine s_puti gX7_95 (dcx dX7_pass_c0 16 rfl) F7_8 ?_
    obtain ⟨s1_, es1_⟩ : ∃ z : SS, z = sI σ 7 8 (σ.1 4 (Int32.toNatClampNeg (σ.1 7 3))) := ⟨_, rfl⟩
    rw [← es1_]
    have hyp := hyp s1_ es1_
    refine r_aload_n (dcx dX7_pass_c0 17 rfl) 0 rfl ?_
    refine r_aload_n (dcx dX7_pass_c0 18 rfl) 0 rfl ?_
    refine s_getr (b := 1) fX7_18 (dcx dX7_pass_c0 19 rfl) F7_0 ?_
    refine s_getr (b := 5) fX7_102 (dcx dX7_pass_c0 20 rfl) F1_4 ?_
    refine r_aload_n (dcx dX7_pass_c0 21 rfl) 0 rfl ?_
    refine s_geti fX7_44 (dcx dX7_pass_c0 22 rfl) F7_3 ?_
    obtain ⟨hb_, hyp⟩ := hyp
    refine s_iald (dcx dX7_pass_c0 23 rfl) A5 hb_ ?_
    refine s_puti gX7_105 (dcx dX7_pass_c0 24 rfl) F7_9 ?_
    obtain ⟨s2_, es2_⟩ : ∃ z : SS, z = sI s1_ 7 9 (s1_.1 5 (Int32.toNatClampNeg (s1_.1 7 3))) := ⟨_, rfl⟩
    rw [← es2_]
    have hyp := hyp s2_ es2_
    refine r_aload_n (dcx dX7_pass_c0 25 rfl) 0 rfl ?_
    refine r_aload_n (dcx dX7_pass_c0 26 rfl) 0 rfl ?_
    refine s_getr (b := 1) fX7_18 (dcx dX7_pass_c0 27 rfl) F7_0 ?_
    refine s_getr (b := 6) fX7_108 (dcx dX7_pass_c0 28 rfl) F1_5 ?_
    refine r_aload_n (dcx dX7_pass_c0 29 rfl) 0 rfl ?_
    refine s_geti fX7_44 (dcx dX7_pass_c0 30 rfl) F7_3 ?_
    obtain ⟨hb_, hyp⟩ := hyp
    refine s_lald (dcx dX7_pass_c0 31 rfl) A6 hb_ ?_
    refine s_putj gX7_112 (dcx dX7_pass_c0 32 rfl) F7_10 ?_
    obtain ⟨s3_, es3_⟩ : ∃ z : SS, z = sJ s2_ 7 10 (s2_.2.1 6 (Int32.toNatClampNeg (s2_.1 7 3))) := ⟨_, rfl⟩
    rw [← es3_]
    have hyp := hyp s3_ es3_
    refine r_aload_n (dcx dX7_pass_c0 33 rfl) 0 rfl ?_
    refine r_dup (dcx dX7_pass_c0 34 rfl) rfl ?_
    refine s_geti fX7_44 (dcx dX7_pass_c0 35 rfl) F7_3 ?_
    refine r_iconst (v := 1) (dcx dX7_pass_c0 36 rfl) rfl ?_
    refine r_iadd (dcx dX7_pass_c0 37 rfl) ?_
    refine s_puti gX7_44 (dcx dX7_pass_c0 38 rfl) F7_3 ?_
    obtain ⟨s4_, es4_⟩ : ∃ z : SS, z = sI s3_ 7 3 ((s3_.1 7 3) + 1) := ⟨_, rfl⟩
    rw [← es4_]
    have hyp := hyp s4_ es4_
    refine r_iconst (v := 1) (dcx dX7_pass_c0 39 rfl) rfl ?_
    exact s_ret rfl rfl rfl hyp (dcx dX7_pass_c1 0 rfl)
  · have hyp := hyp.2 q_
    refine r_aload_n (dcx dX7_pass_c0 4 rfl) 0 rfl ?_
    refine r_iconst (v := 2) (dcx dX7_pass_c0 5 rfl) rfl ?_
    refine s_callV (as := [.int 2]) (st := []) zX7_refuse kX7_pass_88 (dcx dX7_pass_c0 6 rfl) rfl rfl (Nat.le_of_ble_eq_true rfl) O7 rfl rfl (C2.mono hyp ?_)
    rintro _ s5_ ⟨rfl, hyp⟩
    show G2 Γ l mX7_pass 15 [(0, .ref 7)] [] s5_ K
    refine r_iconst (v := 0) (dcx dX7_pass_c0 7 rfl) rfl ?_
    exact s_ret rfl rfl rfl hyp (dcx dX7_pass_c0 8 rfl)
set_option maxHeartbeats 4000000 in
set_option maxRecDepth 20000 in
theorem tX7_open {Γ : GE} {l : Launch} {x1 : Int32} {x2 : Int32} {σ : SS} {K : Option Value → SS → Prop}  (hyp : (x1 < x2 → (C2 Γ l mX7_pass [.ref 7] σ (Ri fun r2_ s1_ => (narrow .boolean (.int r2_) = .int r2_ ∧ K (some (.int r2_)) s1_)))) ∧ (¬ (x1 < x2) → (C2 Γ l mX7_refuse [.ref 7, .int 2] σ (Rv fun s3_ => (K (some (.int 0)) s3_))))) : C2 Γ l mX7_open [.ref 7, .int x1, .int x2] σ K := by
  refine c2_of (lv := [(0, .ref 7), (1, .int x1), (2, .int x2)]) (by decide) (Nat.le_of_ble_eq_true rfl) rfl ?_
  refine r_iload_n (dcx dX7_open_c0 0 rfl) 1 rfl ?_
  refine r_iload_n (dcx dX7_open_c0 1 rfl) 2 rfl ?_
  refine r_icmp_lt (tgt := 12) (dcx dX7_open_c0 2 rfl) (by decide) (fun q_ => ?_) (fun q_ => ?_)
  · have hyp := hyp.1 q_
    refine r_aload_n (dcx dX7_open_c0 8 rfl) 0 rfl ?_
    refine s_callV (as := []) (st := []) zX7_pass kX7_open_98 (dcx dX7_open_c0 9 rfl) rfl rfl (Nat.le_of_ble_eq_true rfl) O7 rfl rfl (C2.mono hyp ?_)
    rintro _ s1_ ⟨r2_, rfl, hyp⟩
    show G2 Γ l mX7_open 16 [(0, .ref 7), (1, .int x1), (2, .int x2)] [.int r2_] s1_ K
    exact s_ret rfl rfl hyp.1 hyp.2 (dcx dX7_open_c0 10 rfl)
  · have hyp := hyp.2 q_
    refine r_aload_n (dcx dX7_open_c0 3 rfl) 0 rfl ?_
    refine r_iconst (v := 2) (dcx dX7_open_c0 4 rfl) rfl ?_
    refine s_callV (as := [.int 2]) (st := []) zX7_refuse kX7_open_88 (dcx dX7_open_c0 5 rfl) rfl rfl (Nat.le_of_ble_eq_true rfl) O7 rfl rfl (C2.mono hyp ?_)
    rintro _ s3_ ⟨rfl, hyp⟩
    show G2 Γ l mX7_open 10 [(0, .ref 7), (1, .int x1), (2, .int x2)] [] s3_ K
    refine r_iconst (v := 0) (dcx dX7_open_c0 6 rfl) rfl ?_
    exact s_ret rfl rfl rfl hyp (dcx dX7_open_c0 7 rfl)
set_option maxHeartbeats 4000000 in
set_option maxRecDepth 20000 in
theorem tX7_takeInt {Γ : GE} {l : Launch} {x1 : Int32} {x2 : Int32} {σ : SS} {K : Option Value → SS → Prop}  (hyp : C2 Γ l mX7_take [.ref 7, .int 3] σ (Ri fun r2_ s1_ => ((¬ r2_ = 0 → (((s1_.1 7 9) < x1 → (C2 Γ l mX7_blame [.ref 7, .int 5] s1_ (Rv fun s3_ => (K (some (.int 1)) s3_)))) ∧ (¬ ((s1_.1 7 9) < x1) → (((s1_.1 7 9) ≤ x2 → (K (some (.int 1)) s1_)) ∧ (¬ ((s1_.1 7 9) ≤ x2) → (C2 Γ l mX7_blame [.ref 7, .int 5] s1_ (Rv fun s5_ => (K (some (.int 1)) s5_)))))))) ∧ (r2_ = 0 → (K (some (.int 0)) s1_))))) : C2 Γ l mX7_takeInt [.ref 7, .int x1, .int x2] σ K := by
  refine c2_of (lv := [(0, .ref 7), (1, .int x1), (2, .int x2)]) (by decide) (Nat.le_of_ble_eq_true rfl) rfl ?_
  refine r_aload_n (dcx dX7_takeInt_c0 0 rfl) 0 rfl ?_
  refine r_iconst (v := 3) (dcx dX7_takeInt_c0 1 rfl) rfl ?_
  refine s_callV (as := [.int 3]) (st := []) zX7_take kX7_takeInt_116 (dcx dX7_takeInt_c0 2 rfl) rfl rfl (Nat.le_of_ble_eq_true rfl) O7 rfl rfl (C2.mono hyp ?_)
  rintro _ s1_ ⟨r2_, rfl, hyp⟩
  show G2 Γ l mX7_takeInt 5 [(0, .ref 7), (1, .int x1), (2, .int x2)] [.int r2_] s1_ K
  refine r_if_ne (tgt := 10) (dcx dX7_takeInt_c0 3 rfl) (by decide) (fun q_ => ?_) (fun q_ => ?_)
  · have hyp := hyp.1 q_
    refine r_aload_n (dcx dX7_takeInt_c0 6 rfl) 0 rfl ?_
    refine s_geti fX7_105 (dcx dX7_takeInt_c0 7 rfl) F7_9 ?_
    refine r_iload_n (dcx dX7_takeInt_c0 8 rfl) 1 rfl ?_
    refine r_icmp_lt (tgt := 26) (dcx dX7_takeInt_c0 9 rfl) (by decide) (fun q_ => ?_) (fun q_ => ?_)
    · have hyp := hyp.1 q_
      refine r_aload_n (dcx dX7_takeInt_c0 14 rfl) 0 rfl ?_
      refine r_iconst (v := 5) (dcx dX7_takeInt_c0 15 rfl) rfl ?_
      refine s_callV (as := [.int 5]) (st := []) zX7_blame kX7_takeInt_120 (dcx dX7_takeInt_c0 16 rfl) rfl rfl (Nat.le_of_ble_eq_true rfl) O7 rfl rfl (C2.mono hyp ?_)
      rintro _ s3_ ⟨rfl, hyp⟩
      show G2 Γ l mX7_takeInt 31 [(0, .ref 7), (1, .int x1), (2, .int x2)] [] s3_ K
      refine r_iconst (v := 1) (dcx dX7_takeInt_c0 17 rfl) rfl ?_
      exact s_ret rfl rfl rfl hyp (dcx dX7_takeInt_c0 18 rfl)
    · have hyp := hyp.2 q_
      refine r_aload_n (dcx dX7_takeInt_c0 10 rfl) 0 rfl ?_
      refine s_geti fX7_105 (dcx dX7_takeInt_c0 11 rfl) F7_9 ?_
      refine r_iload_n (dcx dX7_takeInt_c0 12 rfl) 2 rfl ?_
      refine r_icmp_le (tgt := 31) (dcx dX7_takeInt_c0 13 rfl) (by decide) (fun q_ => ?_) (fun q_ => ?_)
      · have hyp := hyp.1 q_
        refine r_iconst (v := 1) (dcx dX7_takeInt_c0 17 rfl) rfl ?_
        exact s_ret rfl rfl rfl hyp (dcx dX7_takeInt_c0 18 rfl)
      · have hyp := hyp.2 q_
        refine r_aload_n (dcx dX7_takeInt_c0 14 rfl) 0 rfl ?_
        refine r_iconst (v := 5) (dcx dX7_takeInt_c0 15 rfl) rfl ?_
        refine s_callV (as := [.int 5]) (st := []) zX7_blame kX7_takeInt_120 (dcx dX7_takeInt_c0 16 rfl) rfl rfl (Nat.le_of_ble_eq_true rfl) O7 rfl rfl (C2.mono hyp ?_)
        rintro _ s5_ ⟨rfl, hyp⟩
        show G2 Γ l mX7_takeInt 31 [(0, .ref 7), (1, .int x1), (2, .int x2)] [] s5_ K
        refine r_iconst (v := 1) (dcx dX7_takeInt_c0 17 rfl) rfl ?_
        exact s_ret rfl rfl rfl hyp (dcx dX7_takeInt_c0 18 rfl)
  · have hyp := hyp.2 q_
    refine r_iconst (v := 0) (dcx dX7_takeInt_c0 4 rfl) rfl ?_
    exact s_ret rfl rfl rfl hyp (dcx dX7_takeInt_c0 5 rfl)
def wX7_takeRow_73 (Γ : GE) (l : Launch) (x1 : Int32) (x2 : Int32) (σ : SS) (K : Option Value → SS → Prop) : Prop := G2 Γ l mX7_takeRow 73 [(0, .ref 7), (1, .int x1), (2, .int x2)] [] σ K
set_option maxHeartbeats 4000000 in
set_option maxRecDepth 20000 in
theorem tX7_takeRow {Γ : GE} {l : Launch}  {σ : SS} {K : Option Value → SS → Prop}  (hyp : ∃ b1_ : Nat, σ.2.2 7 2 = b1_ ∧ isP b1_ ∧ (C2 Γ l mX7_open [.ref 7, .int (σ.1 b1_ 12), .int 6] σ (Ri fun r3_ s2_ => ((r3_ = 0 → (K none s2_)) ∧ (¬ (r3_ = 0) → (C2 Γ l mX7_take [.ref 7, .int 2] s2_ (Ri fun r5_ s4_ => ((¬ r5_ = 0 → (C2 Γ l mX8_letters [.long (s4_.2.1 7 10)] s4_ (Ri fun r7_ s6_ => (∃ b8_ : Nat, s6_.2.2 7 2 = b8_ ∧ isP b8_ ∧ ((¬ (s6_.1 b8_ 12) = 0 → (∃ b9_ : Nat, s6_.2.2 7 2 = b9_ ∧ isP b9_ ∧ ((r7_ = (s6_.1 b9_ 11) → (wX7_takeRow_73 Γ l r7_ 0 s6_ K)) ∧ (¬ (r7_ = (s6_.1 b9_ 11)) → (C2 Γ l mX7_blame [.ref 7, .int 6] s6_ (Rv fun s10_ => (wX7_takeRow_73 Γ l r7_ 0 s10_ K))))))) ∧ ((s6_.1 b8_ 12) = 0 → (∃ b12_ : Nat, s6_.2.2 7 2 = b12_ ∧ isP b12_ ∧ (∀ s13_ : SS, s13_ = sI s6_ b12_ 11 r7_ → (wX7_takeRow_73 Γ l r7_ 0 s13_ K))))))))) ∧ (r5_ = 0 → (K none s4_)))))))))) : C2 Γ l mX7_takeRow [.ref 7] σ K := by
  refine c2_of (lv := [(0, .ref 7)]) (by decide) (Nat.le_of_ble_eq_true rfl) rfl ?_
  refine r_aload_n (dcx dX7_takeRow_c0 0 rfl) 0 rfl ?_
  refine r_aload_n (dcx dX7_takeRow_c0 1 rfl) 0 rfl ?_
  obtain ⟨b1_, eb1_, hb1_, hyp⟩ := hyp
  refine s_getmE fX7_22 (dcx dX7_takeRow_c0 2 rfl) F7_2 eb1_ (nzP hb1_) ?_
  refine s_geti fX7_123 (dcx dX7_takeRow_c0 3 rfl) (FP_12 hb1_) ?_
  refine r_bipush (v := 6) (dcx dX7_takeRow_c0 4 rfl) rfl ?_
  refine s_callV (as := [.int (σ.1 b1_ 12), .int 6]) (st := []) zX7_open kX7_takeRow_126 (dcx dX7_takeRow_c0 5 rfl) rfl rfl (Nat.le_of_ble_eq_true rfl) O7 rfl rfl (C2.mono hyp ?_)
  rintro _ s2_ ⟨r3_, rfl, hyp⟩
  show G2 Γ l mX7_takeRow 13 [(0, .ref 7)] [.int r3_] s2_ K
  refine r_if_eq (tgt := 24) (dcx dX7_takeRow_c0 6 rfl) (by decide) (fun q_ => ?_) (fun q_ => ?_)
  · have hyp := hyp.1 q_
    exact s_vret rfl hyp (dcx dX7_takeRow_c0 11 rfl)
  · have hyp := hyp.2 q_
    refine r_aload_n (dcx dX7_takeRow_c0 7 rfl) 0 rfl ?_
    refine r_iconst (v := 2) (dcx dX7_takeRow_c0 8 rfl) rfl ?_
    refine s_callV (as := [.int 2]) (st := []) zX7_take kX7_takeRow_116 (dcx dX7_takeRow_c0 9 rfl) rfl rfl (Nat.le_of_ble_eq_true rfl) O7 rfl rfl (C2.mono hyp ?_)
    rintro _ s4_ ⟨r5_, rfl, hyp⟩
    show G2 Γ l mX7_takeRow 21 [(0, .ref 7)] [.int r5_] s4_ K
    refine r_if_ne (tgt := 25) (dcx dX7_takeRow_c0 10 rfl) (by decide) (fun q_ => ?_) (fun q_ => ?_)
    · have hyp := hyp.1 q_
      refine r_aload_n (dcx dX7_takeRow_c0 12 rfl) 0 rfl ?_
      refine s_getj fX7_112 (dcx dX7_takeRow_c0 13 rfl) F7_10 ?_
      refine s_callS (as := [.long (s4_.2.1 7 10)]) (st := []) zX8_letters kX7_takeRow_130 (dcx dX7_takeRow_c0 14 rfl) rfl rfl (Nat.le_of_ble_eq_true rfl) (C2.mono hyp ?_)
      rintro _ s6_ ⟨r7_, rfl, hyp⟩
      show G2 Γ l mX7_takeRow 32 [(0, .ref 7)] [.int r7_] s6_ K
      refine r_istore_n (lv1 := [(1, .int r7_), (0, .ref 7)]) (dcx dX7_takeRow_c0 15 rfl) (Nat.le_of_ble_eq_true rfl) rfl ?_
      refine r_aload_n (dcx dX7_takeRow_c0 16 rfl) 1 rfl ?_
      obtain ⟨b8_, eb8_, hb8_, hyp⟩ := hyp
      refine s_getmE fX7_22 (dcx dX7_takeRow_c0 17 rfl) F7_2 eb8_ (nzP hb8_) ?_
      refine s_geti fX7_123 (dcx dX7_takeRow_c0 18 rfl) (FP_12 hb8_) ?_
      refine r_if_ne (tgt := 54) (dcx dX7_takeRow_c0 19 rfl) (by decide) (fun q_ => ?_) (fun q_ => ?_)
      · have hyp := hyp.1 q_
        refine r_iload_n (dcx dX7_takeRow_c0 25 rfl) 0 rfl ?_
        refine r_aload_n (dcx dX7_takeRow_c0 26 rfl) 1 rfl ?_
        obtain ⟨b9_, eb9_, hb9_, hyp⟩ := hyp
        refine s_getmE fX7_22 (dcx dX7_takeRow_c0 27 rfl) F7_2 eb9_ (nzP hb9_) ?_
        refine s_geti fX7_134 (dcx dX7_takeRow_c0 28 rfl) (FP_11 hb9_) ?_
        refine r_icmp_eq (tgt := 71) (dcx dX7_takeRow_c0 29 rfl) (by decide) (fun q_ => ?_) (fun q_ => ?_)
        · have hyp := hyp.1 q_
          refine r_iconst (v := 0) (dcx dX7_takeRow_c0 33 rfl) rfl ?_
          refine r_istore_n (lv1 := [(2, .int 0), (1, .int r7_), (0, .ref 7)]) (dcx dX7_takeRow_c0 34 rfl) (Nat.le_of_ble_eq_true rfl) rfl ?_
          refine r_loc (lv1 := [(0, .ref 7), (1, .int r7_), (2, .int 0)]) [2, 1, 0] rfl ?_
          exact hyp
        · have hyp := hyp.2 q_
          refine r_aload_n (dcx dX7_takeRow_c0 30 rfl) 1 rfl ?_
          refine r_bipush (v := 6) (dcx dX7_takeRow_c0 31 rfl) rfl ?_
          refine s_callV (as := [.int 6]) (st := []) zX7_blame kX7_takeRow_120 (dcx dX7_takeRow_c0 32 rfl) rfl rfl (Nat.le_of_ble_eq_true rfl) O7 rfl rfl (C2.mono hyp ?_)
          rintro _ s10_ ⟨rfl, hyp⟩
          show G2 Γ l mX7_takeRow 71 [(1, .int r7_), (0, .ref 7)] [] s10_ K
          refine r_iconst (v := 0) (dcx dX7_takeRow_c0 33 rfl) rfl ?_
          refine r_istore_n (lv1 := [(2, .int 0), (1, .int r7_), (0, .ref 7)]) (dcx dX7_takeRow_c0 34 rfl) (Nat.le_of_ble_eq_true rfl) rfl ?_
          refine r_loc (lv1 := [(0, .ref 7), (1, .int r7_), (2, .int 0)]) [2, 1, 0] rfl ?_
          exact hyp
      · have hyp := hyp.2 q_
        refine r_aload_n (dcx dX7_takeRow_c0 20 rfl) 1 rfl ?_
        obtain ⟨b12_, eb12_, hb12_, hyp⟩ := hyp
        refine s_getmE fX7_22 (dcx dX7_takeRow_c0 21 rfl) F7_2 eb12_ (nzP hb12_) ?_
        refine r_iload_n (dcx dX7_takeRow_c0 22 rfl) 0 rfl ?_
        refine s_puti gX7_134 (dcx dX7_takeRow_c0 23 rfl) (FP_11 hb12_) ?_
        obtain ⟨s13_, es13_⟩ : ∃ z : SS, z = sI s6_ b12_ 11 r7_ := ⟨_, rfl⟩
        rw [← es13_]
        have hyp := hyp s13_ es13_
        refine r_goto (tgt := 71) (dcx dX7_takeRow_c0 24 rfl) (by decide) ?_
        refine r_iconst (v := 0) (dcx dX7_takeRow_c0 33 rfl) rfl ?_
        refine r_istore_n (lv1 := [(2, .int 0), (1, .int r7_), (0, .ref 7)]) (dcx dX7_takeRow_c0 34 rfl) (Nat.le_of_ble_eq_true rfl) rfl ?_
        refine r_loc (lv1 := [(0, .ref 7), (1, .int r7_), (2, .int 0)]) [2, 1, 0] rfl ?_
        exact hyp
    · have hyp := hyp.2 q_
      exact s_vret rfl hyp (dcx dX7_takeRow_c0 11 rfl)
set_option maxHeartbeats 4000000 in
set_option maxRecDepth 20000 in
theorem tX7_takeRow_73 {Γ : GE} {l : Launch} {x1 : Int32} {x2 : Int32} {σ : SS} {K : Option Value → SS → Prop}  (hyp : (x1 ≤ x2 → (∃ b1_ : Nat, σ.2.2 7 2 = b1_ ∧ isP b1_ ∧ (∀ s2_ : SS, s2_ = sI σ b1_ 12 ((σ.1 b1_ 12) + 1) → (C2 Γ l mX7_take [.ref 7, .int 59] s2_ (Ri fun r4_ s3_ => (K none s3_)))))) ∧ (¬ (x1 ≤ x2) → (C2 Γ l mX8_letter [.long (σ.2.1 7 10), .int x2] σ (Ri fun r6_ s5_ => (∃ b7_ : Nat, s5_.2.2 7 2 = b7_ ∧ isP b7_ ∧ (∃ b8_ : Nat, s5_.2.2 7 2 = b8_ ∧ isP b8_ ∧ (C2 Γ l mX9_indexOf [.int x2, .int (s5_.1 b8_ 12)] s5_ (Ri fun r10_ s9_ => ((¬ ((r6_ + 97) - 1) = 112 → (vp_in r10_ 80 ∧ (∀ s11_ : SS, s11_ = sI s9_ (b7_ + 1) (Int32.toNatClampNeg r10_) (((r6_ + 97) - 1) - 97) → (wX7_takeRow_73 Γ l x1 (x2 + 1) s11_ K)))) ∧ (((r6_ + 97) - 1) = 112 → (vp_in r10_ 80 ∧ (∀ s12_ : SS, s12_ = sI s9_ (b7_ + 1) (Int32.toNatClampNeg r10_) ((-2)) → (wX7_takeRow_73 Γ l x1 (x2 + 1) s12_ K))))))))))))) : wX7_takeRow_73 Γ l x1 x2 σ K := by
  show G2 Γ l mX7_takeRow 73 [(0, .ref 7), (1, .int x1), (2, .int x2)] [] σ K
  refine r_iload_n (dcx dX7_takeRow_c0 35 rfl) 2 rfl ?_
  refine r_iload_n (dcx dX7_takeRow_c0 36 rfl) 1 rfl ?_
  refine r_icmp_ge (tgt := 132) (dcx dX7_takeRow_c0 37 rfl) (by decide) (fun q_ => ?_) (fun q_ => ?_)
  · have hyp := hyp.1 q_
    refine r_aload_n (dcx dX7_takeRow_c1 26 rfl) 0 rfl ?_
    obtain ⟨b1_, eb1_, hb1_, hyp⟩ := hyp
    refine s_getmE fX7_22 (dcx dX7_takeRow_c1 27 rfl) F7_2 eb1_ (nzP hb1_) ?_
    refine r_dup (dcx dX7_takeRow_c1 28 rfl) rfl ?_
    refine s_geti fX7_123 (dcx dX7_takeRow_c1 29 rfl) (FP_12 hb1_) ?_
    refine r_iconst (v := 1) (dcx dX7_takeRow_c1 30 rfl) rfl ?_
    refine r_iadd (dcx dX7_takeRow_c1 31 rfl) ?_
    refine s_puti gX7_123 (dcx dX7_takeRow_c1 32 rfl) (FP_12 hb1_) ?_
    obtain ⟨s2_, es2_⟩ : ∃ z : SS, z = sI σ b1_ 12 ((σ.1 b1_ 12) + 1) := ⟨_, rfl⟩
    rw [← es2_]
    have hyp := hyp s2_ es2_
    refine r_aload_n (dcx dX7_takeRow_c1 33 rfl) 0 rfl ?_
    refine r_bipush (v := 59) (dcx dX7_takeRow_c1 34 rfl) rfl ?_
    refine s_callV (as := [.int 59]) (st := []) zX7_take kX7_takeRow_116 (dcx dX7_takeRow_c1 35 rfl) rfl rfl (Nat.le_of_ble_eq_true rfl) O7 rfl rfl (C2.mono hyp ?_)
    rintro _ s3_ ⟨r4_, rfl, hyp⟩
    show G2 Γ l mX7_takeRow 151 [(0, .ref 7), (1, .int x1), (2, .int x2)] [.int r4_] s3_ K
    refine r_pop (dcx dX7_takeRow_c1 36 rfl) rfl ?_
    exact s_vret rfl hyp (dcx dX7_takeRow_c1 37 rfl)
  · have hyp := hyp.2 q_
    refine r_aload_n (dcx dX7_takeRow_c0 38 rfl) 0 rfl ?_
    refine s_getj fX7_112 (dcx dX7_takeRow_c0 39 rfl) F7_10 ?_
    refine r_iload_n (dcx dX7_takeRow_c1 0 rfl) 2 rfl ?_
    refine s_callS (as := [.long (σ.2.1 7 10), .int x2]) (st := []) zX8_letter kX7_takeRow_137 (dcx dX7_takeRow_c1 1 rfl) rfl rfl (Nat.le_of_ble_eq_true rfl) (C2.mono hyp ?_)
    rintro _ s5_ ⟨r6_, rfl, hyp⟩
    show G2 Γ l mX7_takeRow 86 [(0, .ref 7), (1, .int x1), (2, .int x2)] [.int r6_] s5_ K
    refine r_bipush (v := 97) (dcx dX7_takeRow_c1 2 rfl) rfl ?_
    refine r_iadd (dcx dX7_takeRow_c1 3 rfl) ?_
    refine r_iconst (v := 1) (dcx dX7_takeRow_c1 4 rfl) rfl ?_
    refine r_isub (dcx dX7_takeRow_c1 5 rfl) ?_
    refine r_istore_n (lv1 := [(3, .int ((r6_ + 97) - 1)), (0, .ref 7), (1, .int x1), (2, .int x2)]) (dcx dX7_takeRow_c1 6 rfl) (Nat.le_of_ble_eq_true rfl) rfl ?_
    refine r_aload_n (dcx dX7_takeRow_c1 7 rfl) 1 rfl ?_
    obtain ⟨b7_, eb7_, hb7_, hyp⟩ := hyp
    refine s_getmE fX7_22 (dcx dX7_takeRow_c1 8 rfl) F7_2 eb7_ (nzP hb7_) ?_
    refine s_getr (b := b7_ + 1) fX7_141 (dcx dX7_takeRow_c1 9 rfl) (FP_0 hb7_) ?_
    refine r_iload_n (dcx dX7_takeRow_c1 10 rfl) 3 rfl ?_
    refine r_aload_n (dcx dX7_takeRow_c1 11 rfl) 1 rfl ?_
    obtain ⟨b8_, eb8_, hb8_, hyp⟩ := hyp
    refine s_getmE fX7_22 (dcx dX7_takeRow_c1 12 rfl) F7_2 eb8_ (nzP hb8_) ?_
    refine s_geti fX7_123 (dcx dX7_takeRow_c1 13 rfl) (FP_12 hb8_) ?_
    refine s_callSN (as := [.int x2, .int (s5_.1 b8_ 12)]) (st := [.ref (b7_ + 1)]) zX9_indexOf kX7_takeRow_144 (dcx dX7_takeRow_c1 14 rfl) rfl rfl (Nat.le_of_ble_eq_true rfl) (C2.mono hyp ?_)
    rintro _ s9_ ⟨r10_, rfl, hyp⟩
    show G2 Γ l mX7_takeRow 110 [(3, .int ((r6_ + 97) - 1)), (0, .ref 7), (1, .int x1), (2, .int x2)] [.int r10_, .ref (b7_ + 1)] s9_ K
    refine r_iload_n (dcx dX7_takeRow_c1 15 rfl) 0 rfl ?_
    refine r_bipush (v := 112) (dcx dX7_takeRow_c1 16 rfl) rfl ?_
    refine r_icmp_ne (tgt := 121) (dcx dX7_takeRow_c1 17 rfl) (by decide) (fun q_ => ?_) (fun q_ => ?_)
    · have hyp := hyp.1 q_
      refine r_iload_n (dcx dX7_takeRow_c1 20 rfl) 0 rfl ?_
      refine r_bipush (v := 97) (dcx dX7_takeRow_c1 21 rfl) rfl ?_
      refine r_isub (dcx dX7_takeRow_c1 22 rfl) ?_
      obtain ⟨hb_, hyp⟩ := hyp
      refine s_iast (dcx dX7_takeRow_c1 23 rfl) (AP_0 hb7_) hb_ ?_
      obtain ⟨s11_, es11_⟩ : ∃ z : SS, z = sI s9_ (b7_ + 1) (Int32.toNatClampNeg r10_) (((r6_ + 97) - 1) - 97) := ⟨_, rfl⟩
      rw [← es11_]
      have hyp := hyp s11_ es11_
      refine r_iinc (lv1 := [(2, .int (x2 + 1)), (3, .int ((r6_ + 97) - 1)), (0, .ref 7), (1, .int x1)]) (dcx dX7_takeRow_c1 24 rfl) 3 rfl (Nat.le_of_ble_eq_true rfl) rfl ?_
      refine r_goto (tgt := 73) (dcx dX7_takeRow_c1 25 rfl) (by decide) ?_
      refine r_loc (lv1 := [(0, .ref 7), (1, .int x1), (2, .int (x2 + 1))]) [2, 3, 0] rfl ?_
      exact hyp
    · have hyp := hyp.2 q_
      refine r_bipush (v := (-2)) (dcx dX7_takeRow_c1 18 rfl) rfl ?_
      refine r_goto (tgt := 125) (dcx dX7_takeRow_c1 19 rfl) (by decide) ?_
      obtain ⟨hb_, hyp⟩ := hyp
      refine s_iast (dcx dX7_takeRow_c1 23 rfl) (AP_0 hb7_) hb_ ?_
      obtain ⟨s12_, es12_⟩ : ∃ z : SS, z = sI s9_ (b7_ + 1) (Int32.toNatClampNeg r10_) ((-2)) := ⟨_, rfl⟩
      rw [← es12_]
      have hyp := hyp s12_ es12_
      refine r_iinc (lv1 := [(2, .int (x2 + 1)), (3, .int ((r6_ + 97) - 1)), (0, .ref 7), (1, .int x1)]) (dcx dX7_takeRow_c1 24 rfl) 3 rfl (Nat.le_of_ble_eq_true rfl) rfl ?_
      refine r_goto (tgt := 73) (dcx dX7_takeRow_c1 25 rfl) (by decide) ?_
      refine r_loc (lv1 := [(0, .ref 7), (1, .int x1), (2, .int (x2 + 1))]) [2, 3, 0] rfl ?_
      exact hyp
def wX7_takeSign_83 (Γ : GE) (l : Launch) (x1 : Int32) (x2 : Int32) (σ : SS) (K : Option Value → SS → Prop) : Prop := G2 Γ l mX7_takeSign 83 [(0, .ref 7), (1, .int x1), (2, .int x2)] [] σ K
set_option maxHeartbeats 4000000 in
set_option maxRecDepth 20000 in
theorem tX7_takeSign {Γ : GE} {l : Launch}  {σ : SS} {K : Option Value → SS → Prop}  (hyp : ∃ b1_ : Nat, σ.2.2 7 2 = b1_ ∧ isP b1_ ∧ (C2 Γ l mX7_open [.ref 7, .int (σ.1 b1_ 13), .int 4] σ (Ri fun r3_ s2_ => ((r3_ = 0 → (K none s2_)) ∧ (¬ (r3_ = 0) → (C2 Γ l mX7_take [.ref 7, .int 2] s2_ (Ri fun r5_ s4_ => ((¬ r5_ = 0 → (∃ b6_ : Nat, s4_.2.2 7 2 = b6_ ∧ isP b6_ ∧ (C2 Γ l mX6_isNamed [.ref b6_, .long (s4_.2.1 7 10)] s4_ (Ri fun r8_ s7_ => ((r8_ = 0 → (∃ b9_ : Nat, s7_.2.2 7 2 = b9_ ∧ isP b9_ ∧ (vp_in (σ.1 b1_ 13) 4 ∧ (∀ s10_ : SS, s10_ = sJ s7_ (b9_ + 2) (Int32.toNatClampNeg (σ.1 b1_ 13)) (s7_.2.1 7 10) → (∃ b11_ : Nat, s10_.2.2 7 2 = b11_ ∧ isP b11_ ∧ (vp_in (σ.1 b1_ 13) 4 ∧ (∀ s12_ : SS, s12_ = sI s10_ (b11_ + 3) (Int32.toNatClampNeg (σ.1 b1_ 13)) 0 → (∃ b13_ : Nat, s12_.2.2 7 2 = b13_ ∧ isP b13_ ∧ (∀ s14_ : SS, s14_ = sI s12_ b13_ 13 ((s12_.1 b13_ 13) + 1) → (wX7_takeSign_83 Γ l (σ.1 b1_ 13) 0 s14_ K)))))))))) ∧ (¬ (r8_ = 0) → (C2 Γ l mX7_blame [.ref 7, .int 3] s7_ (Rv fun s15_ => (∃ b17_ : Nat, s15_.2.2 7 2 = b17_ ∧ isP b17_ ∧ (vp_in (σ.1 b1_ 13) 4 ∧ (∀ s18_ : SS, s18_ = sJ s15_ (b17_ + 2) (Int32.toNatClampNeg (σ.1 b1_ 13)) (s15_.2.1 7 10) → (∃ b19_ : Nat, s18_.2.2 7 2 = b19_ ∧ isP b19_ ∧ (vp_in (σ.1 b1_ 13) 4 ∧ (∀ s20_ : SS, s20_ = sI s18_ (b19_ + 3) (Int32.toNatClampNeg (σ.1 b1_ 13)) 0 → (∃ b21_ : Nat, s20_.2.2 7 2 = b21_ ∧ isP b21_ ∧ (∀ s22_ : SS, s22_ = sI s20_ b21_ 13 ((s20_.1 b21_ 13) + 1) → (wX7_takeSign_83 Γ l (σ.1 b1_ 13) 0 s22_ K))))))))))))))))) ∧ (r5_ = 0 → (K none s4_)))))))))) : C2 Γ l mX7_takeSign [.ref 7] σ K := by
  refine c2_of (lv := [(0, .ref 7)]) (by decide) (Nat.le_of_ble_eq_true rfl) rfl ?_
  refine r_aload_n (dcx dX7_takeSign_c0 0 rfl) 0 rfl ?_
  obtain ⟨b1_, eb1_, hb1_, hyp⟩ := hyp
  refine s_getmE fX7_22 (dcx dX7_takeSign_c0 1 rfl) F7_2 eb1_ (nzP hb1_) ?_
  refine s_geti fX7_148 (dcx dX7_takeSign_c0 2 rfl) (FP_13 hb1_) ?_
  refine r_istore_n (lv1 := [(1, .int (σ.1 b1_ 13)), (0, .ref 7)]) (dcx dX7_takeSign_c0 3 rfl) (Nat.le_of_ble_eq_true rfl) rfl ?_
  refine r_aload_n (dcx dX7_takeSign_c0 4 rfl) 1 rfl ?_
  refine r_iload_n (dcx dX7_takeSign_c0 5 rfl) 0 rfl ?_
  refine r_iconst (v := 4) (dcx dX7_takeSign_c0 6 rfl) rfl ?_
  refine s_callV (as := [.int (σ.1 b1_ 13), .int 4]) (st := []) zX7_open kX7_takeSign_126 (dcx dX7_takeSign_c0 7 rfl) rfl rfl (Nat.le_of_ble_eq_true rfl) O7 rfl rfl (C2.mono hyp ?_)
  rintro _ s2_ ⟨r3_, rfl, hyp⟩
  show G2 Γ l mX7_takeSign 14 [(1, .int (σ.1 b1_ 13)), (0, .ref 7)] [.int r3_] s2_ K
  refine r_if_eq (tgt := 25) (dcx dX7_takeSign_c0 8 rfl) (by decide) (fun q_ => ?_) (fun q_ => ?_)
  · have hyp := hyp.1 q_
    exact s_vret rfl hyp (dcx dX7_takeSign_c0 13 rfl)
  · have hyp := hyp.2 q_
    refine r_aload_n (dcx dX7_takeSign_c0 9 rfl) 1 rfl ?_
    refine r_iconst (v := 2) (dcx dX7_takeSign_c0 10 rfl) rfl ?_
    refine s_callV (as := [.int 2]) (st := []) zX7_take kX7_takeSign_116 (dcx dX7_takeSign_c0 11 rfl) rfl rfl (Nat.le_of_ble_eq_true rfl) O7 rfl rfl (C2.mono hyp ?_)
    rintro _ s4_ ⟨r5_, rfl, hyp⟩
    show G2 Γ l mX7_takeSign 22 [(1, .int (σ.1 b1_ 13)), (0, .ref 7)] [.int r5_] s4_ K
    refine r_if_ne (tgt := 26) (dcx dX7_takeSign_c0 12 rfl) (by decide) (fun q_ => ?_) (fun q_ => ?_)
    · have hyp := hyp.1 q_
      refine r_aload_n (dcx dX7_takeSign_c0 14 rfl) 1 rfl ?_
      obtain ⟨b6_, eb6_, hb6_, hyp⟩ := hyp
      refine s_getmE fX7_22 (dcx dX7_takeSign_c0 15 rfl) F7_2 eb6_ (nzP hb6_) ?_
      refine r_aload_n (dcx dX7_takeSign_c0 16 rfl) 1 rfl ?_
      refine s_getj fX7_112 (dcx dX7_takeSign_c0 17 rfl) F7_10 ?_
      refine s_callV (as := [.long (s4_.2.1 7 10)]) (st := []) zX6_isNamed kX7_takeSign_151 (dcx dX7_takeSign_c0 18 rfl) rfl rfl (Nat.le_of_ble_eq_true rfl) (OP hb6_) rfl rfl (C2.mono hyp ?_)
      rintro _ s7_ ⟨r8_, rfl, hyp⟩
      show G2 Γ l mX7_takeSign 37 [(1, .int (σ.1 b1_ 13)), (0, .ref 7)] [.int r8_] s7_ K
      refine r_if_eq (tgt := 45) (dcx dX7_takeSign_c0 19 rfl) (by decide) (fun q_ => ?_) (fun q_ => ?_)
      · have hyp := hyp.1 q_
        refine r_aload_n (dcx dX7_takeSign_c0 23 rfl) 1 rfl ?_
        obtain ⟨b9_, eb9_, hb9_, hyp⟩ := hyp
        refine s_getmE fX7_22 (dcx dX7_takeSign_c0 24 rfl) F7_2 eb9_ (nzP hb9_) ?_
        refine s_getr (b := b9_ + 2) fX7_155 (dcx dX7_takeSign_c0 25 rfl) (FP_1 hb9_) ?_
        refine r_iload_n (dcx dX7_takeSign_c0 26 rfl) 0 rfl ?_
        refine r_aload_n (dcx dX7_takeSign_c0 27 rfl) 1 rfl ?_
        refine s_getj fX7_112 (dcx dX7_takeSign_c0 28 rfl) F7_10 ?_
        obtain ⟨hb_, hyp⟩ := hyp
        refine s_last (dcx dX7_takeSign_c0 29 rfl) (AP_1 hb9_) hb_ ?_
        obtain ⟨s10_, es10_⟩ : ∃ z : SS, z = sJ s7_ (b9_ + 2) (Int32.toNatClampNeg (σ.1 b1_ 13)) (s7_.2.1 7 10) := ⟨_, rfl⟩
        rw [← es10_]
        have hyp := hyp s10_ es10_
        refine r_aload_n (dcx dX7_takeSign_c0 30 rfl) 1 rfl ?_
        obtain ⟨b11_, eb11_, hb11_, hyp⟩ := hyp
        refine s_getmE fX7_22 (dcx dX7_takeSign_c0 31 rfl) F7_2 eb11_ (nzP hb11_) ?_
        refine s_getr (b := b11_ + 3) fX7_158 (dcx dX7_takeSign_c0 32 rfl) (FP_2 hb11_) ?_
        refine r_iload_n (dcx dX7_takeSign_c0 33 rfl) 0 rfl ?_
        refine r_iconst (v := 0) (dcx dX7_takeSign_c0 34 rfl) rfl ?_
        obtain ⟨hb_, hyp⟩ := hyp
        refine s_iast (dcx dX7_takeSign_c0 35 rfl) (AP_2 hb11_) hb_ ?_
        obtain ⟨s12_, es12_⟩ : ∃ z : SS, z = sI s10_ (b11_ + 3) (Int32.toNatClampNeg (σ.1 b1_ 13)) 0 := ⟨_, rfl⟩
        rw [← es12_]
        have hyp := hyp s12_ es12_
        refine r_aload_n (dcx dX7_takeSign_c0 36 rfl) 1 rfl ?_
        obtain ⟨b13_, eb13_, hb13_, hyp⟩ := hyp
        refine s_getmE fX7_22 (dcx dX7_takeSign_c0 37 rfl) F7_2 eb13_ (nzP hb13_) ?_
        refine r_dup (dcx dX7_takeSign_c0 38 rfl) rfl ?_
        refine s_geti fX7_148 (dcx dX7_takeSign_c0 39 rfl) (FP_13 hb13_) ?_
        refine r_iconst (v := 1) (dcx dX7_takeSign_c1 0 rfl) rfl ?_
        refine r_iadd (dcx dX7_takeSign_c1 1 rfl) ?_
        refine s_puti gX7_148 (dcx dX7_takeSign_c1 2 rfl) (FP_13 hb13_) ?_
        obtain ⟨s14_, es14_⟩ : ∃ z : SS, z = sI s12_ b13_ 13 ((s12_.1 b13_ 13) + 1) := ⟨_, rfl⟩
        rw [← es14_]
        have hyp := hyp s14_ es14_
        refine r_iconst (v := 0) (dcx dX7_takeSign_c1 3 rfl) rfl ?_
        refine r_istore_n (lv1 := [(2, .int 0), (1, .int (σ.1 b1_ 13)), (0, .ref 7)]) (dcx dX7_takeSign_c1 4 rfl) (Nat.le_of_ble_eq_true rfl) rfl ?_
        refine r_loc (lv1 := [(0, .ref 7), (1, .int (σ.1 b1_ 13)), (2, .int 0)]) [2, 1, 0] rfl ?_
        exact hyp
      · have hyp := hyp.2 q_
        refine r_aload_n (dcx dX7_takeSign_c0 20 rfl) 1 rfl ?_
        refine r_iconst (v := 3) (dcx dX7_takeSign_c0 21 rfl) rfl ?_
        refine s_callV (as := [.int 3]) (st := []) zX7_blame kX7_takeSign_120 (dcx dX7_takeSign_c0 22 rfl) rfl rfl (Nat.le_of_ble_eq_true rfl) O7 rfl rfl (C2.mono hyp ?_)
        rintro _ s15_ ⟨rfl, hyp⟩
        show G2 Γ l mX7_takeSign 45 [(1, .int (σ.1 b1_ 13)), (0, .ref 7)] [] s15_ K
        refine r_aload_n (dcx dX7_takeSign_c0 23 rfl) 1 rfl ?_
        obtain ⟨b17_, eb17_, hb17_, hyp⟩ := hyp
        refine s_getmE fX7_22 (dcx dX7_takeSign_c0 24 rfl) F7_2 eb17_ (nzP hb17_) ?_
        refine s_getr (b := b17_ + 2) fX7_155 (dcx dX7_takeSign_c0 25 rfl) (FP_1 hb17_) ?_
        refine r_iload_n (dcx dX7_takeSign_c0 26 rfl) 0 rfl ?_
        refine r_aload_n (dcx dX7_takeSign_c0 27 rfl) 1 rfl ?_
        refine s_getj fX7_112 (dcx dX7_takeSign_c0 28 rfl) F7_10 ?_
        obtain ⟨hb_, hyp⟩ := hyp
        refine s_last (dcx dX7_takeSign_c0 29 rfl) (AP_1 hb17_) hb_ ?_
        obtain ⟨s18_, es18_⟩ : ∃ z : SS, z = sJ s15_ (b17_ + 2) (Int32.toNatClampNeg (σ.1 b1_ 13)) (s15_.2.1 7 10) := ⟨_, rfl⟩
        rw [← es18_]
        have hyp := hyp s18_ es18_
        refine r_aload_n (dcx dX7_takeSign_c0 30 rfl) 1 rfl ?_
        obtain ⟨b19_, eb19_, hb19_, hyp⟩ := hyp
        refine s_getmE fX7_22 (dcx dX7_takeSign_c0 31 rfl) F7_2 eb19_ (nzP hb19_) ?_
        refine s_getr (b := b19_ + 3) fX7_158 (dcx dX7_takeSign_c0 32 rfl) (FP_2 hb19_) ?_
        refine r_iload_n (dcx dX7_takeSign_c0 33 rfl) 0 rfl ?_
        refine r_iconst (v := 0) (dcx dX7_takeSign_c0 34 rfl) rfl ?_
        obtain ⟨hb_, hyp⟩ := hyp
        refine s_iast (dcx dX7_takeSign_c0 35 rfl) (AP_2 hb19_) hb_ ?_
        obtain ⟨s20_, es20_⟩ : ∃ z : SS, z = sI s18_ (b19_ + 3) (Int32.toNatClampNeg (σ.1 b1_ 13)) 0 := ⟨_, rfl⟩
        rw [← es20_]
        have hyp := hyp s20_ es20_
        refine r_aload_n (dcx dX7_takeSign_c0 36 rfl) 1 rfl ?_
        obtain ⟨b21_, eb21_, hb21_, hyp⟩ := hyp
        refine s_getmE fX7_22 (dcx dX7_takeSign_c0 37 rfl) F7_2 eb21_ (nzP hb21_) ?_
        refine r_dup (dcx dX7_takeSign_c0 38 rfl) rfl ?_
        refine s_geti fX7_148 (dcx dX7_takeSign_c0 39 rfl) (FP_13 hb21_) ?_
        refine r_iconst (v := 1) (dcx dX7_takeSign_c1 0 rfl) rfl ?_
        refine r_iadd (dcx dX7_takeSign_c1 1 rfl) ?_
        refine s_puti gX7_148 (dcx dX7_takeSign_c1 2 rfl) (FP_13 hb21_) ?_
        obtain ⟨s22_, es22_⟩ : ∃ z : SS, z = sI s20_ b21_ 13 ((s20_.1 b21_ 13) + 1) := ⟨_, rfl⟩
        rw [← es22_]
        have hyp := hyp s22_ es22_
        refine r_iconst (v := 0) (dcx dX7_takeSign_c1 3 rfl) rfl ?_
        refine r_istore_n (lv1 := [(2, .int 0), (1, .int (σ.1 b1_ 13)), (0, .ref 7)]) (dcx dX7_takeSign_c1 4 rfl) (Nat.le_of_ble_eq_true rfl) rfl ?_
        refine r_loc (lv1 := [(0, .ref 7), (1, .int (σ.1 b1_ 13)), (2, .int 0)]) [2, 1, 0] rfl ?_
        exact hyp
    · have hyp := hyp.2 q_
      exact s_vret rfl hyp (dcx dX7_takeSign_c0 13 rfl)
set_option maxHeartbeats 4000000 in
set_option maxRecDepth 20000 in
theorem tX7_takeSign_83 {Γ : GE} {l : Launch} {x1 : Int32} {x2 : Int32} {σ : SS} {K : Option Value → SS → Prop}  (hyp : ((3 : Int32) ≤ x2 → (C2 Γ l mX7_take [.ref 7, .int 59] σ (Ri fun r2_ s1_ => (K none s1_)))) ∧ (¬ ((3 : Int32) ≤ x2) → (C2 Γ l mX7_take [.ref 7, .int 2] σ (Ri fun r4_ s3_ => ((¬ r4_ = 0 → (∃ b5_ : Nat, s3_.2.2 7 2 = b5_ ∧ isP b5_ ∧ (vp_in x1 4 ∧ (C2 Γ l mX7_shapeOfRow [.ref 7] s3_ (Ri fun r7_ s6_ => (vp_in x1 4 ∧ (∀ s8_ : SS, s8_ = sI s6_ (b5_ + 3) (Int32.toNatClampNeg x1) ((s3_.1 (b5_ + 3) (Int32.toNatClampNeg x1)) ||| (r7_ <<< ((3 * x2) &&& 31))) → (wX7_takeSign_83 Γ l x1 (x2 + 1) s8_ K)))))))) ∧ (r4_ = 0 → (K none s3_))))))) : wX7_takeSign_83 Γ l x1 x2 σ K := by
  show G2 Γ l mX7_takeSign 83 [(0, .ref 7), (1, .int x1), (2, .int x2)] [] σ K
  refine r_iload_n (dcx dX7_takeSign_c1 5 rfl) 2 rfl ?_
  refine r_iconst (v := 3) (dcx dX7_takeSign_c1 6 rfl) rfl ?_
  refine r_icmp_ge (tgt := 123) (dcx dX7_takeSign_c1 7 rfl) (by decide) (fun q_ => ?_) (fun q_ => ?_)
  · have hyp := hyp.1 q_
    refine r_aload_n (dcx dX7_takeSign_c1 29 rfl) 0 rfl ?_
    refine r_bipush (v := 59) (dcx dX7_takeSign_c1 30 rfl) rfl ?_
    refine s_callV (as := [.int 59]) (st := []) zX7_take kX7_takeSign_116 (dcx dX7_takeSign_c1 31 rfl) rfl rfl (Nat.le_of_ble_eq_true rfl) O7 rfl rfl (C2.mono hyp ?_)
    rintro _ s1_ ⟨r2_, rfl, hyp⟩
    show G2 Γ l mX7_takeSign 129 [(0, .ref 7), (1, .int x1), (2, .int x2)] [.int r2_] s1_ K
    refine r_pop (dcx dX7_takeSign_c1 32 rfl) rfl ?_
    exact s_vret rfl hyp (dcx dX7_takeSign_c1 33 rfl)
  · have hyp := hyp.2 q_
    refine r_aload_n (dcx dX7_takeSign_c1 8 rfl) 0 rfl ?_
    refine r_iconst (v := 2) (dcx dX7_takeSign_c1 9 rfl) rfl ?_
    refine s_callV (as := [.int 2]) (st := []) zX7_take kX7_takeSign_116 (dcx dX7_takeSign_c1 10 rfl) rfl rfl (Nat.le_of_ble_eq_true rfl) O7 rfl rfl (C2.mono hyp ?_)
    rintro _ s3_ ⟨r4_, rfl, hyp⟩
    show G2 Γ l mX7_takeSign 93 [(0, .ref 7), (1, .int x1), (2, .int x2)] [.int r4_] s3_ K
    refine r_if_ne (tgt := 97) (dcx dX7_takeSign_c1 11 rfl) (by decide) (fun q_ => ?_) (fun q_ => ?_)
    · have hyp := hyp.1 q_
      refine r_aload_n (dcx dX7_takeSign_c1 13 rfl) 0 rfl ?_
      obtain ⟨b5_, eb5_, hb5_, hyp⟩ := hyp
      refine s_getmE fX7_22 (dcx dX7_takeSign_c1 14 rfl) F7_2 eb5_ (nzP hb5_) ?_
      refine s_getr (b := b5_ + 3) fX7_158 (dcx dX7_takeSign_c1 15 rfl) (FP_2 hb5_) ?_
      refine r_iload_n (dcx dX7_takeSign_c1 16 rfl) 1 rfl ?_
      refine r_dup2 (dcx dX7_takeSign_c1 17 rfl) rfl rfl ?_
      obtain ⟨hb_, hyp⟩ := hyp
      refine s_iald (dcx dX7_takeSign_c1 18 rfl) (AP_2 hb5_) hb_ ?_
      refine r_aload_n (dcx dX7_takeSign_c1 19 rfl) 0 rfl ?_
      refine s_callV (as := []) (st := [.int (s3_.1 (b5_ + 3) (Int32.toNatClampNeg x1)), .int x1, .ref (b5_ + 3)]) zX7_shapeOfRow kX7_takeSign_161 (dcx dX7_takeSign_c1 20 rfl) rfl rfl (Nat.le_of_ble_eq_true rfl) O7 rfl rfl (C2.mono hyp ?_)
      rintro _ s6_ ⟨r7_, rfl, hyp⟩
      show G2 Γ l mX7_takeSign 111 [(0, .ref 7), (1, .int x1), (2, .int x2)] [.int r7_, .int (s3_.1 (b5_ + 3) (Int32.toNatClampNeg x1)), .int x1, .ref (b5_ + 3)] s6_ K
      refine r_iconst (v := 3) (dcx dX7_takeSign_c1 21 rfl) rfl ?_
      refine r_iload_n (dcx dX7_takeSign_c1 22 rfl) 2 rfl ?_
      refine r_imul (dcx dX7_takeSign_c1 23 rfl) ?_
      refine r_ishl (dcx dX7_takeSign_c1 24 rfl) ?_
      refine r_ior (dcx dX7_takeSign_c1 25 rfl) ?_
      obtain ⟨hb_, hyp⟩ := hyp
      refine s_iast (dcx dX7_takeSign_c1 26 rfl) (AP_2 hb5_) hb_ ?_
      obtain ⟨s8_, es8_⟩ : ∃ z : SS, z = sI s6_ (b5_ + 3) (Int32.toNatClampNeg x1) ((s3_.1 (b5_ + 3) (Int32.toNatClampNeg x1)) ||| (r7_ <<< ((3 * x2) &&& 31))) := ⟨_, rfl⟩
      rw [← es8_]
      have hyp := hyp s8_ es8_
      refine r_iinc (lv1 := [(2, .int (x2 + 1)), (0, .ref 7), (1, .int x1)]) (dcx dX7_takeSign_c1 27 rfl) 2 rfl (Nat.le_of_ble_eq_true rfl) rfl ?_
      refine r_goto (tgt := 83) (dcx dX7_takeSign_c1 28 rfl) (by decide) ?_
      refine r_loc (lv1 := [(0, .ref 7), (1, .int x1), (2, .int (x2 + 1))]) [1, 2, 0] rfl ?_
      exact hyp
    · have hyp := hyp.2 q_
      exact s_vret rfl hyp (dcx dX7_takeSign_c1 12 rfl)
def wX7_shapeOfRow_21 (Γ : GE) (l : Launch) (x1 : Int32) (x2 : Int32) (x3 : Int32) (σ : SS) (K : Option Value → SS → Prop) : Prop := G2 Γ l mX7_shapeOfRow 21 [(0, .ref 7), (1, .int x1), (2, .int x2), (3, .int x3)] [] σ K
set_option maxHeartbeats 4000000 in
set_option maxRecDepth 20000 in
theorem tX7_shapeOfRow {Γ : GE} {l : Launch}  {σ : SS} {K : Option Value → SS → Prop}  (hyp : C2 Γ l mX8_letters [.long (σ.2.1 7 10)] σ (Ri fun r2_ s1_ => ((¬ r2_ = 3 → (wX7_shapeOfRow_21 Γ l 0 0 0 s1_ K)) ∧ (r2_ = 3 → (wX7_shapeOfRow_21 Γ l 0 1 0 s1_ K))))) : C2 Γ l mX7_shapeOfRow [.ref 7] σ K := by
  refine c2_of (lv := [(0, .ref 7)]) (by decide) (Nat.le_of_ble_eq_true rfl) rfl ?_
  refine r_iconst (v := 0) (dcx dX7_shapeOfRow_c0 0 rfl) rfl ?_
  refine r_istore_n (lv1 := [(1, .int 0), (0, .ref 7)]) (dcx dX7_shapeOfRow_c0 1 rfl) (Nat.le_of_ble_eq_true rfl) rfl ?_
  refine r_aload_n (dcx dX7_shapeOfRow_c0 2 rfl) 1 rfl ?_
  refine s_getj fX7_112 (dcx dX7_shapeOfRow_c0 3 rfl) F7_10 ?_
  refine s_callS (as := [.long (σ.2.1 7 10)]) (st := []) zX8_letters kX7_shapeOfRow_130 (dcx dX7_shapeOfRow_c0 4 rfl) rfl rfl (Nat.le_of_ble_eq_true rfl) (C2.mono hyp ?_)
  rintro _ s1_ ⟨r2_, rfl, hyp⟩
  show G2 Γ l mX7_shapeOfRow 9 [(1, .int 0), (0, .ref 7)] [.int r2_] s1_ K
  refine r_iconst (v := 3) (dcx dX7_shapeOfRow_c0 5 rfl) rfl ?_
  refine r_icmp_ne (tgt := 17) (dcx dX7_shapeOfRow_c0 6 rfl) (by decide) (fun q_ => ?_) (fun q_ => ?_)
  · have hyp := hyp.1 q_
    refine r_iconst (v := 0) (dcx dX7_shapeOfRow_c0 9 rfl) rfl ?_
    refine r_istore_n (lv1 := [(2, .int 0), (1, .int 0), (0, .ref 7)]) (dcx dX7_shapeOfRow_c0 10 rfl) (Nat.le_of_ble_eq_true rfl) rfl ?_
    refine r_iconst (v := 0) (dcx dX7_shapeOfRow_c0 11 rfl) rfl ?_
    refine r_istore_n (lv1 := [(3, .int 0), (2, .int 0), (1, .int 0), (0, .ref 7)]) (dcx dX7_shapeOfRow_c0 12 rfl) (Nat.le_of_ble_eq_true rfl) rfl ?_
    refine r_loc (lv1 := [(0, .ref 7), (1, .int 0), (2, .int 0), (3, .int 0)]) [3, 2, 1, 0] rfl ?_
    exact hyp
  · have hyp := hyp.2 q_
    refine r_iconst (v := 1) (dcx dX7_shapeOfRow_c0 7 rfl) rfl ?_
    refine r_goto (tgt := 18) (dcx dX7_shapeOfRow_c0 8 rfl) (by decide) ?_
    refine r_istore_n (lv1 := [(2, .int 1), (1, .int 0), (0, .ref 7)]) (dcx dX7_shapeOfRow_c0 10 rfl) (Nat.le_of_ble_eq_true rfl) rfl ?_
    refine r_iconst (v := 0) (dcx dX7_shapeOfRow_c0 11 rfl) rfl ?_
    refine r_istore_n (lv1 := [(3, .int 0), (2, .int 1), (1, .int 0), (0, .ref 7)]) (dcx dX7_shapeOfRow_c0 12 rfl) (Nat.le_of_ble_eq_true rfl) rfl ?_
    refine r_loc (lv1 := [(0, .ref 7), (1, .int 0), (2, .int 1), (3, .int 0)]) [3, 2, 1, 0] rfl ?_
    exact hyp
set_option maxHeartbeats 4000000 in
set_option maxRecDepth 20000 in
theorem tX7_shapeOfRow_21 {Γ : GE} {l : Launch} {x1 : Int32} {x2 : Int32} {x3 : Int32} {σ : SS} {K : Option Value → SS → Prop}  (hyp : ((3 : Int32) ≤ x3 → ((¬ x2 = 0 → (K (some (.int x1)) σ)) ∧ (x2 = 0 → (C2 Γ l mX7_blame [.ref 7, .int 6] σ (Rv fun s1_ => (K (some (.int x1)) s1_)))))) ∧ (¬ ((3 : Int32) ≤ x3) → (C2 Γ l mX8_letter [.long (σ.2.1 7 10), .int x3] σ (Ri fun r4_ s3_ => ((x2 = 0 → ((¬ ((r4_ + 97) - 1) = 120 → (wX7_shapeOfRow_21 Γ l x1 0 (x3 + 1) s3_ K)) ∧ (((r4_ + 97) - 1) = 120 → (wX7_shapeOfRow_21 Γ l (x1 ||| (1 <<< (x3 &&& 31))) 0 (x3 + 1) s3_ K)))) ∧ (¬ (x2 = 0) → ((((r4_ + 97) - 1) = 120 → ((¬ ((r4_ + 97) - 1) = 120 → (wX7_shapeOfRow_21 Γ l x1 1 (x3 + 1) s3_ K)) ∧ (((r4_ + 97) - 1) = 120 → (wX7_shapeOfRow_21 Γ l (x1 ||| (1 <<< (x3 &&& 31))) 1 (x3 + 1) s3_ K)))) ∧ (¬ (((r4_ + 97) - 1) = 120) → ((¬ ((r4_ + 97) - 1) = 111 → ((¬ ((r4_ + 97) - 1) = 120 → (wX7_shapeOfRow_21 Γ l x1 0 (x3 + 1) s3_ K)) ∧ (((r4_ + 97) - 1) = 120 → (wX7_shapeOfRow_21 Γ l (x1 ||| (1 <<< (x3 &&& 31))) 0 (x3 + 1) s3_ K)))) ∧ (((r4_ + 97) - 1) = 111 → ((¬ ((r4_ + 97) - 1) = 120 → (wX7_shapeOfRow_21 Γ l x1 1 (x3 + 1) s3_ K)) ∧ (((r4_ + 97) - 1) = 120 → (wX7_shapeOfRow_21 Γ l (x1 ||| (1 <<< (x3 &&& 31))) 1 (x3 + 1) s3_ K))))))))))))) : wX7_shapeOfRow_21 Γ l x1 x2 x3 σ K := by
  show G2 Γ l mX7_shapeOfRow 21 [(0, .ref 7), (1, .int x1), (2, .int x2), (3, .int x3)] [] σ K
  refine r_iload_n (dcx dX7_shapeOfRow_c0 13 rfl) 3 rfl ?_
  refine r_iconst (v := 3) (dcx dX7_shapeOfRow_c0 14 rfl) rfl ?_
  refine r_icmp_ge (tgt := 84) (dcx dX7_shapeOfRow_c0 15 rfl) (by decide) (fun q_ => ?_) (fun q_ => ?_)
  · have hyp := hyp.1 q_
    refine r_iload_n (dcx dX7_shapeOfRow_c1 8 rfl) 2 rfl ?_
    refine r_if_ne (tgt := 94) (dcx dX7_shapeOfRow_c1 9 rfl) (by decide) (fun q_ => ?_) (fun q_ => ?_)
    · have hyp := hyp.1 q_
      refine r_iload_n (dcx dX7_shapeOfRow_c1 13 rfl) 1 rfl ?_
      exact s_ret rfl rfl rfl hyp (dcx dX7_shapeOfRow_c1 14 rfl)
    · have hyp := hyp.2 q_
      refine r_aload_n (dcx dX7_shapeOfRow_c1 10 rfl) 0 rfl ?_
      refine r_bipush (v := 6) (dcx dX7_shapeOfRow_c1 11 rfl) rfl ?_
      refine s_callV (as := [.int 6]) (st := []) zX7_blame kX7_shapeOfRow_120 (dcx dX7_shapeOfRow_c1 12 rfl) rfl rfl (Nat.le_of_ble_eq_true rfl) O7 rfl rfl (C2.mono hyp ?_)
      rintro _ s1_ ⟨rfl, hyp⟩
      show G2 Γ l mX7_shapeOfRow 94 [(0, .ref 7), (1, .int x1), (2, .int x2), (3, .int x3)] [] s1_ K
      refine r_iload_n (dcx dX7_shapeOfRow_c1 13 rfl) 1 rfl ?_
      exact s_ret rfl rfl rfl hyp (dcx dX7_shapeOfRow_c1 14 rfl)
  · have hyp := hyp.2 q_
    refine r_aload_n (dcx dX7_shapeOfRow_c0 16 rfl) 0 rfl ?_
    refine s_getj fX7_112 (dcx dX7_shapeOfRow_c0 17 rfl) F7_10 ?_
    refine r_iload_n (dcx dX7_shapeOfRow_c0 18 rfl) 3 rfl ?_
    refine s_callS (as := [.long (σ.2.1 7 10), .int x3]) (st := []) zX8_letter kX7_shapeOfRow_137 (dcx dX7_shapeOfRow_c0 19 rfl) rfl rfl (Nat.le_of_ble_eq_true rfl) (C2.mono hyp ?_)
    rintro _ s3_ ⟨r4_, rfl, hyp⟩
    show G2 Γ l mX7_shapeOfRow 34 [(0, .ref 7), (1, .int x1), (2, .int x2), (3, .int x3)] [.int r4_] s3_ K
    refine r_bipush (v := 97) (dcx dX7_shapeOfRow_c0 20 rfl) rfl ?_
    refine r_iadd (dcx dX7_shapeOfRow_c0 21 rfl) ?_
    refine r_iconst (v := 1) (dcx dX7_shapeOfRow_c0 22 rfl) rfl ?_
    refine r_isub (dcx dX7_shapeOfRow_c0 23 rfl) ?_
    refine r_istore (lv1 := [(4, .int ((r4_ + 97) - 1)), (0, .ref 7), (1, .int x1), (2, .int x2), (3, .int x3)]) (dcx dX7_shapeOfRow_c0 24 rfl) (Nat.le_of_ble_eq_true rfl) rfl ?_
    refine r_iload_n (dcx dX7_shapeOfRow_c0 25 rfl) 3 rfl ?_
    refine r_if_eq (tgt := 63) (dcx dX7_shapeOfRow_c0 26 rfl) (by decide) (fun q_ => ?_) (fun q_ => ?_)
    · have hyp := hyp.1 q_
      refine r_iconst (v := 0) (dcx dX7_shapeOfRow_c0 35 rfl) rfl ?_
      refine r_istore_n (lv1 := [(2, .int 0), (4, .int ((r4_ + 97) - 1)), (0, .ref 7), (1, .int x1), (3, .int x3)]) (dcx dX7_shapeOfRow_c0 36 rfl) (Nat.le_of_ble_eq_true rfl) rfl ?_
      refine r_iload (dcx dX7_shapeOfRow_c0 37 rfl) 1 rfl ?_
      refine r_bipush (v := 120) (dcx dX7_shapeOfRow_c0 38 rfl) rfl ?_
      refine r_icmp_ne (tgt := 78) (dcx dX7_shapeOfRow_c0 39 rfl) (by decide) (fun q_ => ?_) (fun q_ => ?_)
      · have hyp := hyp.1 q_
        refine r_iinc (lv1 := [(3, .int (x3 + 1)), (2, .int 0), (4, .int ((r4_ + 97) - 1)), (0, .ref 7), (1, .int x1)]) (dcx dX7_shapeOfRow_c1 6 rfl) 4 rfl (Nat.le_of_ble_eq_true rfl) rfl ?_
        refine r_goto (tgt := 21) (dcx dX7_shapeOfRow_c1 7 rfl) (by decide) ?_
        refine r_loc (lv1 := [(0, .ref 7), (1, .int x1), (2, .int 0), (3, .int (x3 + 1))]) [3, 4, 1, 0] rfl ?_
        exact hyp
      · have hyp := hyp.2 q_
        refine r_iload_n (dcx dX7_shapeOfRow_c1 0 rfl) 3 rfl ?_
        refine r_iconst (v := 1) (dcx dX7_shapeOfRow_c1 1 rfl) rfl ?_
        refine r_iload_n (dcx dX7_shapeOfRow_c1 2 rfl) 4 rfl ?_
        refine r_ishl (dcx dX7_shapeOfRow_c1 3 rfl) ?_
        refine r_ior (dcx dX7_shapeOfRow_c1 4 rfl) ?_
        refine r_istore_n (lv1 := [(1, .int (x1 ||| (1 <<< (x3 &&& 31)))), (2, .int 0), (4, .int ((r4_ + 97) - 1)), (0, .ref 7), (3, .int x3)]) (dcx dX7_shapeOfRow_c1 5 rfl) (Nat.le_of_ble_eq_true rfl) rfl ?_
        refine r_iinc (lv1 := [(3, .int (x3 + 1)), (1, .int (x1 ||| (1 <<< (x3 &&& 31)))), (2, .int 0), (4, .int ((r4_ + 97) - 1)), (0, .ref 7)]) (dcx dX7_shapeOfRow_c1 6 rfl) 4 rfl (Nat.le_of_ble_eq_true rfl) rfl ?_
        refine r_goto (tgt := 21) (dcx dX7_shapeOfRow_c1 7 rfl) (by decide) ?_
        refine r_loc (lv1 := [(0, .ref 7), (1, .int (x1 ||| (1 <<< (x3 &&& 31)))), (2, .int 0), (3, .int (x3 + 1))]) [4, 1, 2, 0] rfl ?_
        exact hyp
    · have hyp := hyp.2 q_
      refine r_iload (dcx dX7_shapeOfRow_c0 27 rfl) 0 rfl ?_
      refine r_bipush (v := 120) (dcx dX7_shapeOfRow_c0 28 rfl) rfl ?_
      refine r_icmp_eq (tgt := 59) (dcx dX7_shapeOfRow_c0 29 rfl) (by decide) (fun q_ => ?_) (fun q_ => ?_)
      · have hyp := hyp.1 q_
        refine r_iconst (v := 1) (dcx dX7_shapeOfRow_c0 33 rfl) rfl ?_
        refine r_goto (tgt := 64) (dcx dX7_shapeOfRow_c0 34 rfl) (by decide) ?_
        refine r_istore_n (lv1 := [(2, .int 1), (4, .int ((r4_ + 97) - 1)), (0, .ref 7), (1, .int x1), (3, .int x3)]) (dcx dX7_shapeOfRow_c0 36 rfl) (Nat.le_of_ble_eq_true rfl) rfl ?_
        refine r_iload (dcx dX7_shapeOfRow_c0 37 rfl) 1 rfl ?_
        refine r_bipush (v := 120) (dcx dX7_shapeOfRow_c0 38 rfl) rfl ?_
        refine r_icmp_ne (tgt := 78) (dcx dX7_shapeOfRow_c0 39 rfl) (by decide) (fun q_ => ?_) (fun q_ => ?_)
        · have hyp := hyp.1 q_
          refine r_iinc (lv1 := [(3, .int (x3 + 1)), (2, .int 1), (4, .int ((r4_ + 97) - 1)), (0, .ref 7), (1, .int x1)]) (dcx dX7_shapeOfRow_c1 6 rfl) 4 rfl (Nat.le_of_ble_eq_true rfl) rfl ?_
          refine r_goto (tgt := 21) (dcx dX7_shapeOfRow_c1 7 rfl) (by decide) ?_
          refine r_loc (lv1 := [(0, .ref 7), (1, .int x1), (2, .int 1), (3, .int (x3 + 1))]) [3, 4, 1, 0] rfl ?_
          exact hyp
        · have hyp := hyp.2 q_
          refine r_iload_n (dcx dX7_shapeOfRow_c1 0 rfl) 3 rfl ?_
          refine r_iconst (v := 1) (dcx dX7_shapeOfRow_c1 1 rfl) rfl ?_
          refine r_iload_n (dcx dX7_shapeOfRow_c1 2 rfl) 4 rfl ?_
          refine r_ishl (dcx dX7_shapeOfRow_c1 3 rfl) ?_
          refine r_ior (dcx dX7_shapeOfRow_c1 4 rfl) ?_
          refine r_istore_n (lv1 := [(1, .int (x1 ||| (1 <<< (x3 &&& 31)))), (2, .int 1), (4, .int ((r4_ + 97) - 1)), (0, .ref 7), (3, .int x3)]) (dcx dX7_shapeOfRow_c1 5 rfl) (Nat.le_of_ble_eq_true rfl) rfl ?_
          refine r_iinc (lv1 := [(3, .int (x3 + 1)), (1, .int (x1 ||| (1 <<< (x3 &&& 31)))), (2, .int 1), (4, .int ((r4_ + 97) - 1)), (0, .ref 7)]) (dcx dX7_shapeOfRow_c1 6 rfl) 4 rfl (Nat.le_of_ble_eq_true rfl) rfl ?_
          refine r_goto (tgt := 21) (dcx dX7_shapeOfRow_c1 7 rfl) (by decide) ?_
          refine r_loc (lv1 := [(0, .ref 7), (1, .int (x1 ||| (1 <<< (x3 &&& 31)))), (2, .int 1), (3, .int (x3 + 1))]) [4, 1, 2, 0] rfl ?_
          exact hyp
      · have hyp := hyp.2 q_
        refine r_iload (dcx dX7_shapeOfRow_c0 30 rfl) 0 rfl ?_
        refine r_bipush (v := 111) (dcx dX7_shapeOfRow_c0 31 rfl) rfl ?_
        refine r_icmp_ne (tgt := 63) (dcx dX7_shapeOfRow_c0 32 rfl) (by decide) (fun q_ => ?_) (fun q_ => ?_)
        · have hyp := hyp.1 q_
          refine r_iconst (v := 0) (dcx dX7_shapeOfRow_c0 35 rfl) rfl ?_
          refine r_istore_n (lv1 := [(2, .int 0), (4, .int ((r4_ + 97) - 1)), (0, .ref 7), (1, .int x1), (3, .int x3)]) (dcx dX7_shapeOfRow_c0 36 rfl) (Nat.le_of_ble_eq_true rfl) rfl ?_
          refine r_iload (dcx dX7_shapeOfRow_c0 37 rfl) 1 rfl ?_
          refine r_bipush (v := 120) (dcx dX7_shapeOfRow_c0 38 rfl) rfl ?_
          refine r_icmp_ne (tgt := 78) (dcx dX7_shapeOfRow_c0 39 rfl) (by decide) (fun q_ => ?_) (fun q_ => ?_)
          · have hyp := hyp.1 q_
            refine r_iinc (lv1 := [(3, .int (x3 + 1)), (2, .int 0), (4, .int ((r4_ + 97) - 1)), (0, .ref 7), (1, .int x1)]) (dcx dX7_shapeOfRow_c1 6 rfl) 4 rfl (Nat.le_of_ble_eq_true rfl) rfl ?_
            refine r_goto (tgt := 21) (dcx dX7_shapeOfRow_c1 7 rfl) (by decide) ?_
            refine r_loc (lv1 := [(0, .ref 7), (1, .int x1), (2, .int 0), (3, .int (x3 + 1))]) [3, 4, 1, 0] rfl ?_
            exact hyp
          · have hyp := hyp.2 q_
            refine r_iload_n (dcx dX7_shapeOfRow_c1 0 rfl) 3 rfl ?_
            refine r_iconst (v := 1) (dcx dX7_shapeOfRow_c1 1 rfl) rfl ?_
            refine r_iload_n (dcx dX7_shapeOfRow_c1 2 rfl) 4 rfl ?_
            refine r_ishl (dcx dX7_shapeOfRow_c1 3 rfl) ?_
            refine r_ior (dcx dX7_shapeOfRow_c1 4 rfl) ?_
            refine r_istore_n (lv1 := [(1, .int (x1 ||| (1 <<< (x3 &&& 31)))), (2, .int 0), (4, .int ((r4_ + 97) - 1)), (0, .ref 7), (3, .int x3)]) (dcx dX7_shapeOfRow_c1 5 rfl) (Nat.le_of_ble_eq_true rfl) rfl ?_
            refine r_iinc (lv1 := [(3, .int (x3 + 1)), (1, .int (x1 ||| (1 <<< (x3 &&& 31)))), (2, .int 0), (4, .int ((r4_ + 97) - 1)), (0, .ref 7)]) (dcx dX7_shapeOfRow_c1 6 rfl) 4 rfl (Nat.le_of_ble_eq_true rfl) rfl ?_
            refine r_goto (tgt := 21) (dcx dX7_shapeOfRow_c1 7 rfl) (by decide) ?_
            refine r_loc (lv1 := [(0, .ref 7), (1, .int (x1 ||| (1 <<< (x3 &&& 31)))), (2, .int 0), (3, .int (x3 + 1))]) [4, 1, 2, 0] rfl ?_
            exact hyp
        · have hyp := hyp.2 q_
          refine r_iconst (v := 1) (dcx dX7_shapeOfRow_c0 33 rfl) rfl ?_
          refine r_goto (tgt := 64) (dcx dX7_shapeOfRow_c0 34 rfl) (by decide) ?_
          refine r_istore_n (lv1 := [(2, .int 1), (4, .int ((r4_ + 97) - 1)), (0, .ref 7), (1, .int x1), (3, .int x3)]) (dcx dX7_shapeOfRow_c0 36 rfl) (Nat.le_of_ble_eq_true rfl) rfl ?_
          refine r_iload (dcx dX7_shapeOfRow_c0 37 rfl) 1 rfl ?_
          refine r_bipush (v := 120) (dcx dX7_shapeOfRow_c0 38 rfl) rfl ?_
          refine r_icmp_ne (tgt := 78) (dcx dX7_shapeOfRow_c0 39 rfl) (by decide) (fun q_ => ?_) (fun q_ => ?_)
          · have hyp := hyp.1 q_
            refine r_iinc (lv1 := [(3, .int (x3 + 1)), (2, .int 1), (4, .int ((r4_ + 97) - 1)), (0, .ref 7), (1, .int x1)]) (dcx dX7_shapeOfRow_c1 6 rfl) 4 rfl (Nat.le_of_ble_eq_true rfl) rfl ?_
            refine r_goto (tgt := 21) (dcx dX7_shapeOfRow_c1 7 rfl) (by decide) ?_
            refine r_loc (lv1 := [(0, .ref 7), (1, .int x1), (2, .int 1), (3, .int (x3 + 1))]) [3, 4, 1, 0] rfl ?_
            exact hyp
          · have hyp := hyp.2 q_
            refine r_iload_n (dcx dX7_shapeOfRow_c1 0 rfl) 3 rfl ?_
            refine r_iconst (v := 1) (dcx dX7_shapeOfRow_c1 1 rfl) rfl ?_
            refine r_iload_n (dcx dX7_shapeOfRow_c1 2 rfl) 4 rfl ?_
            refine r_ishl (dcx dX7_shapeOfRow_c1 3 rfl) ?_
            refine r_ior (dcx dX7_shapeOfRow_c1 4 rfl) ?_
            refine r_istore_n (lv1 := [(1, .int (x1 ||| (1 <<< (x3 &&& 31)))), (2, .int 1), (4, .int ((r4_ + 97) - 1)), (0, .ref 7), (3, .int x3)]) (dcx dX7_shapeOfRow_c1 5 rfl) (Nat.le_of_ble_eq_true rfl) rfl ?_
            refine r_iinc (lv1 := [(3, .int (x3 + 1)), (1, .int (x1 ||| (1 <<< (x3 &&& 31)))), (2, .int 1), (4, .int ((r4_ + 97) - 1)), (0, .ref 7)]) (dcx dX7_shapeOfRow_c1 6 rfl) 4 rfl (Nat.le_of_ble_eq_true rfl) rfl ?_
            refine r_goto (tgt := 21) (dcx dX7_shapeOfRow_c1 7 rfl) (by decide) ?_
            refine r_loc (lv1 := [(0, .ref 7), (1, .int (x1 ||| (1 <<< (x3 &&& 31)))), (2, .int 1), (3, .int (x3 + 1))]) [4, 1, 2, 0] rfl ?_
            exact hyp
