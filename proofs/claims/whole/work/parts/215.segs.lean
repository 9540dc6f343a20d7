def wX10_readsAnywhere_2 (Γ : GE) (l : Launch) (x1 : Int32) (x2 : Int32) (x3 : Int32) (σ : SS) (K : Option Value → SS → Prop) : Prop := G2 Γ l mX10_readsAnywhere 2 [(0, .ref 284), (1, .int x1), (2, .int x2), (3, .int x3)] [] σ K
def wX10_readsAnywhere_20 (Γ : GE) (l : Launch) (x1 : Int32) (x2 : Int32) (x3 : Int32) (x4 : Int32) (σ : SS) (K : Option Value → SS → Prop) : Prop := G2 Γ l mX10_readsAnywhere 20 [(0, .ref 284), (1, .int x1), (2, .int x2), (3, .int x3), (4, .int x4)] [] σ K
set_option maxHeartbeats 4000000 in
set_option maxRecDepth 20000 in
theorem tX10_readsAnywhere {Γ : GE} {l : Launch} {x1 : Int32} {x2 : Int32} {σ : SS} {K : Option Value → SS → Prop}  (hyp : wX10_readsAnywhere_2 Γ l x1 x2 0 σ K) : C2 Γ l mX10_readsAnywhere [.ref 284, .int x1, .int x2] σ K := by
  refine c2_of (lv := [(0, .ref 284), (1, .int x1), (2, .int x2)]) (by decide) (Nat.le_of_ble_eq_true rfl) rfl ?_
  refine r_iconst (v := 0) (dcx dX10_readsAnywhere_c0 0 rfl) rfl ?_
  refine r_istore_n (lv1 := [(3, .int 0), (0, .ref 284), (1, .int x1), (2, .int x2)]) (dcx dX10_readsAnywhere_c0 1 rfl) (Nat.le_of_ble_eq_true rfl) rfl ?_
  refine r_loc (lv1 := [(0, .ref 284), (1, .int x1), (2, .int x2), (3, .int 0)]) [1, 2, 3, 0] rfl ?_
  exact hyp
set_option maxHeartbeats 4000000 in
set_option maxRecDepth 20000 in
theorem tX10_readsAnywhere_2 {Γ : GE} {l : Launch} {x1 : Int32} {x2 : Int32} {x3 : Int32} {σ : SS} {K : Option Value → SS → Prop}  (hyp : vp_in (σ.1 284 18) 2 ∧ (((σ.1 295 (Int32.toNatClampNeg (σ.1 284 18))) ≤ (x3 + 2) → (K (some (.int 0)) σ)) ∧ (¬ ((σ.1 295 (Int32.toNatClampNeg (σ.1 284 18))) ≤ (x3 + 2)) → (wX10_readsAnywhere_20 Γ l x1 x2 x3 0 σ K)))) : wX10_readsAnywhere_2 Γ l x1 x2 x3 σ K := by
  show G2 Γ l mX10_readsAnywhere 2 [(0, .ref 284), (1, .int x1), (2, .int x2), (3, .int x3)] [] σ K
  refine r_iload_n (dcx dX10_readsAnywhere_c0 2 rfl) 3 rfl ?_
  refine r_iconst (v := 2) (dcx dX10_readsAnywhere_c0 3 rfl) rfl ?_
  refine r_iadd (dcx dX10_readsAnywhere_c0 4 rfl) ?_
  refine r_aload_n (dcx dX10_readsAnywhere_c0 5 rfl) 0 rfl ?_
  refine s_getr (b := 295) fX10_49 (dcx dX10_readsAnywhere_c0 6 rfl) F284_24 ?_
  refine r_aload_n (dcx dX10_readsAnywhere_c0 7 rfl) 0 rfl ?_
  refine s_geti fX10_245 (dcx dX10_readsAnywhere_c0 8 rfl) F284_18 ?_
  obtain ⟨hb_, hyp⟩ := hyp
  refine s_iald (dcx dX10_readsAnywhere_c0 9 rfl) A295 hb_ ?_
  refine r_icmp_ge (tgt := 62) (dcx dX10_readsAnywhere_c0 10 rfl) (by decide) (fun q_ => ?_) (fun q_ => ?_)
  · have hyp := hyp.1 q_
    refine r_iconst (v := 0) (dcx dX10_readsAnywhere_c0 35 rfl) rfl ?_
    exact s_ret rfl rfl rfl hyp (dcx dX10_readsAnywhere_c0 36 rfl)
  · have hyp := hyp.2 q_
    refine r_iconst (v := 0) (dcx dX10_readsAnywhere_c0 11 rfl) rfl ?_
    refine r_istore (lv1 := [(4, .int 0), (0, .ref 284), (1, .int x1), (2, .int x2), (3, .int x3)]) (dcx dX10_readsAnywhere_c0 12 rfl) (Nat.le_of_ble_eq_true rfl) rfl ?_
    refine r_loc (lv1 := [(0, .ref 284), (1, .int x1), (2, .int x2), (3, .int x3), (4, .int 0)]) [1, 2, 3, 4, 0] rfl ?_
    exact hyp
set_option maxHeartbeats 4000000 in
set_option maxRecDepth 20000 in
theorem tX10_readsAnywhere_20 {Γ : GE} {l : Launch} {x1 : Int32} {x2 : Int32} {x3 : Int32} {x4 : Int32} {σ : SS} {K : Option Value → SS → Prop}  (hyp : vp_in (σ.1 284 18) 2 ∧ (((σ.1 294 (Int32.toNatClampNeg (σ.1 284 18))) ≤ (x4 + 2) → (wX10_readsAnywhere_2 Γ l x1 x2 (x3 + 1) σ K)) ∧ (¬ ((σ.1 294 (Int32.toNatClampNeg (σ.1 284 18))) ≤ (x4 + 2)) → (C2 Γ l mX10_doesRead [.ref 284, .int x1, .int x2, .int x4, .int x3] σ (Ri fun r2_ s1_ => ((r2_ = 0 → (wX10_readsAnywhere_20 Γ l x1 x2 x3 (x4 + 1) s1_ K)) ∧ (¬ (r2_ = 0) → (K (some (.int 1)) s1_)))))))) : wX10_readsAnywhere_20 Γ l x1 x2 x3 x4 σ K := by
  show G2 Γ l mX10_readsAnywhere 20 [(0, .ref 284), (1, .int x1), (2, .int x2), (3, .int x3), (4, .int x4)] [] σ K
  refine r_iload (dcx dX10_readsAnywhere_c0 13 rfl) 4 rfl ?_
  refine r_iconst (v := 2) (dcx dX10_readsAnywhere_c0 14 rfl) rfl ?_
  refine r_iadd (dcx dX10_readsAnywhere_c0 15 rfl) ?_
  refine r_aload_n (dcx dX10_readsAnywhere_c0 16 rfl) 0 rfl ?_
  refine s_getr (b := 294) fX10_46 (dcx dX10_readsAnywhere_c0 17 rfl) F284_23 ?_
  refine r_aload_n (dcx dX10_readsAnywhere_c0 18 rfl) 0 rfl ?_
  refine s_geti fX10_245 (dcx dX10_readsAnywhere_c0 19 rfl) F284_18 ?_
  obtain ⟨hb_, hyp⟩ := hyp
  refine s_iald (dcx dX10_readsAnywhere_c0 20 rfl) A294 hb_ ?_
  refine r_icmp_ge (tgt := 56) (dcx dX10_readsAnywhere_c0 21 rfl) (by decide) (fun q_ => ?_) (fun q_ => ?_)
  · have hyp := hyp.1 q_
    refine r_iinc (lv1 := [(3, .int (x3 + 1)), (0, .ref 284), (1, .int x1), (2, .int x2), (4, .int x4)]) (dcx dX10_readsAnywhere_c0 33 rfl) 3 rfl (Nat.le_of_ble_eq_true rfl) rfl ?_
    refine r_goto (tgt := 2) (dcx dX10_readsAnywhere_c0 34 rfl) (by decide) ?_
    refine r_loc (lv1 := [(0, .ref 284), (1, .int x1), (2, .int x2), (3, .int (x3 + 1))]) [1, 2, 3, 0] rfl ?_
    exact hyp
  · have hyp := hyp.2 q_
    refine r_aload_n (dcx dX10_readsAnywhere_c0 22 rfl) 0 rfl ?_
    refine r_iload_n (dcx dX10_readsAnywhere_c0 23 rfl) 1 rfl ?_
    refine r_iload_n (dcx dX10_readsAnywhere_c0 24 rfl) 2 rfl ?_
    refine r_iload (dcx dX10_readsAnywhere_c0 25 rfl) 4 rfl ?_
    refine r_iload_n (dcx dX10_readsAnywhere_c0 26 rfl) 3 rfl ?_
    refine s_callV (as := [.int x1, .int x2, .int x4, .int x3]) (st := []) zX10_doesRead kX10_readsAnywhere_396 (dcx dX10_readsAnywhere_c0 27 rfl) rfl rfl (Nat.le_of_ble_eq_true rfl) O284 rfl rfl (C2.mono hyp ?_)
    rintro _ s1_ ⟨r2_, rfl, hyp⟩
    show G2 Γ l mX10_readsAnywhere 45 [(0, .ref 284), (1, .int x1), (2, .int x2), (3, .int x3), (4, .int x4)] [.int r2_] s1_ K
    refine r_if_eq (tgt := 50) (dcx dX10_readsAnywhere_c0 28 rfl) (by decide) (fun q_ => ?_) (fun q_ => ?_)
    · have hyp := hyp.1 q_
      refine r_iinc (lv1 := [(4, .int (x4 + 1)), (0, .ref 284), (1, .int x1), (2, .int x2), (3, .int x3)]) (dcx dX10_readsAnywhere_c0 31 rfl) 4 rfl (Nat.le_of_ble_eq_true rfl) rfl ?_
      refine r_goto (tgt := 20) (dcx dX10_readsAnywhere_c0 32 rfl) (by decide) ?_
      refine r_loc (lv1 := [(0, .ref 284), (1, .int x1), (2, .int x2), (3, .int x3), (4, .int (x4 + 1))]) [1, 2, 3, 4, 0] rfl ?_
      exact hyp
    · have hyp := hyp.2 q_
      refine r_iconst (v := 1) (dcx dX10_readsAnywhere_c0 29 rfl) rfl ?_
      exact s_ret rfl rfl rfl hyp (dcx dX10_readsAnywhere_c0 30 rfl)
def wX10_cuts9_3 (Γ : GE) (l : Launch) (x1 : Int32) (x2 : Int32) (x3 : Int32) (x4 : Int32) (σ : SS) (K : Option Value → SS → Prop) : Prop := G2 Γ l mX10_cuts9 3 [(0, .ref 284), (1, .int x1), (2, .int x2), (3, .int x3), (4, .int x4)] [] σ K
set_option maxHeartbeats 4000000 in
set_option maxRecDepth 20000 in
theorem tX10_cuts9 {Γ : GE} {l : Launch} {x1 : Int32} {x2 : Int32} {x3 : Int32} {σ : SS} {K : Option Value → SS → Prop}  (hyp : wX10_cuts9_3 Γ l x1 x2 x3 0 σ K) : C2 Γ l mX10_cuts9 [.ref 284, .int x1, .int x2, .int x3] σ K := by
  refine c2_of (lv := [(0, .ref 284), (1, .int x1), (2, .int x2), (3, .int x3)]) (by decide) (Nat.le_of_ble_eq_true rfl) rfl ?_
  refine r_iconst (v := 0) (dcx dX10_cuts9_c0 0 rfl) rfl ?_
  refine r_istore (lv1 := [(4, .int 0), (0, .ref 284), (1, .int x1), (2, .int x2), (3, .int x3)]) (dcx dX10_cuts9_c0 1 rfl) (Nat.le_of_ble_eq_true rfl) rfl ?_
  refine r_loc (lv1 := [(0, .ref 284), (1, .int x1), (2, .int x2), (3, .int x3), (4, .int 0)]) [1, 2, 3, 4, 0] rfl ?_
  exact hyp
set_option maxHeartbeats 4000000 in
set_option maxRecDepth 20000 in
theorem tX10_cuts9_3 {Γ : GE} {l : Launch} {x1 : Int32} {x2 : Int32} {x3 : Int32} {x4 : Int32} {σ : SS} {K : Option Value → SS → Prop}  (hyp : ((9 : Int32) ≤ x4 → (K none σ)) ∧ (¬ ((9 : Int32) ≤ x4) → (vp_in ((9 * ((4 * (σ.1 284 18)) + x1)) + x4) 72 ∧ (((σ.1 298 (Int32.toNatClampNeg ((9 * ((4 * (σ.1 284 18)) + x1)) + x4))) = 0 → (wX10_cuts9_3 Γ l x1 x2 x3 (x4 + 1) σ K)) ∧ (¬ ((σ.1 298 (Int32.toNatClampNeg ((9 * ((4 * (σ.1 284 18)) + x1)) + x4))) = 0) → (vp_in (((8 * (x3 + (x4 / 3))) + x2) + (x4 - x4 / 3 * 3)) 106 ∧ (∀ s1_ : SS, s1_ = sI σ 322 (Int32.toNatClampNeg (((8 * (x3 + (x4 / 3))) + x2) + (x4 - x4 / 3 * 3))) 0 → (wX10_cuts9_3 Γ l x1 x2 x3 (x4 + 1) s1_ K)))))))) : wX10_cuts9_3 Γ l x1 x2 x3 x4 σ K := by
  show G2 Γ l mX10_cuts9 3 [(0, .ref 284), (1, .int x1), (2, .int x2), (3, .int x3), (4, .int x4)] [] σ K
  refine r_iload (dcx dX10_cuts9_c0 2 rfl) 4 rfl ?_
  refine r_bipush (v := 9) (dcx dX10_cuts9_c0 3 rfl) rfl ?_
  refine r_icmp_ge (tgt := 60) (dcx dX10_cuts9_c0 4 rfl) (by decide) (fun q_ => ?_) (fun q_ => ?_)
  · have hyp := hyp.1 q_
    exact s_vret rfl hyp (dcx dX10_cuts9_c0 38 rfl)
  · have hyp := hyp.2 q_
    refine r_aload_n (dcx dX10_cuts9_c0 5 rfl) 0 rfl ?_
    refine s_getr (b := 298) fX10_58 (dcx dX10_cuts9_c0 6 rfl) F284_27 ?_
    refine r_bipush (v := 9) (dcx dX10_cuts9_c0 7 rfl) rfl ?_
    refine r_iconst (v := 4) (dcx dX10_cuts9_c0 8 rfl) rfl ?_
    refine r_aload_n (dcx dX10_cuts9_c0 9 rfl) 0 rfl ?_
    refine s_geti fX10_245 (dcx dX10_cuts9_c0 10 rfl) F284_18 ?_
    refine r_imul (dcx dX10_cuts9_c0 11 rfl) ?_
    refine r_iload_n (dcx dX10_cuts9_c0 12 rfl) 1 rfl ?_
    refine r_iadd (dcx dX10_cuts9_c0 13 rfl) ?_
    refine r_imul (dcx dX10_cuts9_c0 14 rfl) ?_
    refine r_iload (dcx dX10_cuts9_c0 15 rfl) 4 rfl ?_
    refine r_iadd (dcx dX10_cuts9_c0 16 rfl) ?_
    obtain ⟨hb_, hyp⟩ := hyp
    refine s_zald (dcx dX10_cuts9_c0 17 rfl) A298 hb_ ?_
    refine r_if_eq (tgt := 54) (dcx dX10_cuts9_c0 18 rfl) (by decide) (fun q_ => ?_) (fun q_ => ?_)
    · have hyp := hyp.1 q_
      refine r_iinc (lv1 := [(4, .int (x4 + 1)), (0, .ref 284), (1, .int x1), (2, .int x2), (3, .int x3)]) (dcx dX10_cuts9_c0 36 rfl) 4 rfl (Nat.le_of_ble_eq_true rfl) rfl ?_
      refine r_goto (tgt := 3) (dcx dX10_cuts9_c0 37 rfl) (by decide) ?_
      refine r_loc (lv1 := [(0, .ref 284), (1, .int x1), (2, .int x2), (3, .int x3), (4, .int (x4 + 1))]) [1, 2, 3, 4, 0] rfl ?_
      exact hyp
    · have hyp := hyp.2 q_
      refine r_aload_n (dcx dX10_cuts9_c0 19 rfl) 0 rfl ?_
      refine s_getr (b := 322) fX10_131 (dcx dX10_cuts9_c0 20 rfl) F284_55 ?_
      refine r_bipush (v := 8) (dcx dX10_cuts9_c0 21 rfl) rfl ?_
      refine r_iload_n (dcx dX10_cuts9_c0 22 rfl) 3 rfl ?_
      refine r_iload (dcx dX10_cuts9_c0 23 rfl) 4 rfl ?_
      refine r_iconst (v := 3) (dcx dX10_cuts9_c0 24 rfl) rfl ?_
      refine r_idiv (dcx dX10_cuts9_c0 25 rfl) (by decide) ?_
      refine r_iadd (dcx dX10_cuts9_c0 26 rfl) ?_
      refine r_imul (dcx dX10_cuts9_c0 27 rfl) ?_
      refine r_iload_n (dcx dX10_cuts9_c0 28 rfl) 2 rfl ?_
      refine r_iadd (dcx dX10_cuts9_c0 29 rfl) ?_
      refine r_iload (dcx dX10_cuts9_c0 30 rfl) 4 rfl ?_
      refine r_iconst (v := 3) (dcx dX10_cuts9_c0 31 rfl) rfl ?_
      refine r_irem (dcx dX10_cuts9_c0 32 rfl) (by decide) ?_
      refine r_iadd (dcx dX10_cuts9_c0 33 rfl) ?_
      refine r_iconst (v := 0) (dcx dX10_cuts9_c0 34 rfl) rfl ?_
      obtain ⟨hb_, hyp⟩ := hyp
      refine s_iast (dcx dX10_cuts9_c0 35 rfl) A322 hb_ ?_
      obtain ⟨s1_, es1_⟩ : ∃ z : SS, z = sI σ 322 (Int32.toNatClampNeg (((8 * (x3 + (x4 / 3))) + x2) + (x4 - x4 / 3 * 3))) 0 := ⟨_, rfl⟩
      rw [← es1_]
      have hyp := hyp s1_ es1_
      refine r_iinc (lv1 := [(4, .int (x4 + 1)), (0, .ref 284), (1, .int x1), (2, .int x2), (3, .int x3)]) (dcx dX10_cuts9_c0 36 rfl) 4 rfl (Nat.le_of_ble_eq_true rfl) rfl ?_
      refine r_goto (tgt := 3) (dcx dX10_cuts9_c0 37 rfl) (by decide) ?_
      refine r_loc (lv1 := [(0, .ref 284), (1, .int x1), (2, .int x2), (3, .int x3), (4, .int (x4 + 1))]) [1, 2, 3, 4, 0] rfl ?_
      exact hyp
def wX10_grassGrows_7 (Γ : GE) (l : Launch) (x1 : Int32) (x2 : Int32) (σ : SS) (K : Option Value → SS → Prop) : Prop := G2 Γ l mX10_grassGrows 7 [(0, .ref 284), (1, .int x1), (2, .int x2)] [] σ K
def wX10_grassGrows_98 (Γ : GE) (l : Launch) (x2 : Int32) (σ : SS) (K : Option Value → SS → Prop) : Prop := G2 Γ l mX10_grassGrows 98 [(0, .ref 284), (2, .int x2)] [] σ K
def wX10_grassGrows_22 (Γ : GE) (l : Launch) (x1 : Int32) (x2 : Int32) (x3 : Int32) (σ : SS) (K : Option Value → SS → Prop) : Prop := G2 Γ l mX10_grassGrows 22 [(0, .ref 284), (1, .int x1), (2, .int x2), (3, .int x3)] [] σ K
def wX10_grassGrows_113 (Γ : GE) (l : Launch) (x2 : Int32) (x3 : Int32) (σ : SS) (K : Option Value → SS → Prop) : Prop := G2 Γ l mX10_grassGrows 113 [(0, .ref 284), (2, .int x2), (3, .int x3)] [] σ K
set_option maxHeartbeats 4000000 in
set_option maxRecDepth 20000 in
theorem tX10_grassGrows {Γ : GE} {l : Launch}  {σ : SS} {K : Option Value → SS → Prop}  (hyp : C2 Γ l mX10_wetNow [.ref 284] σ (Ri fun r2_ s1_ => (wX10_grassGrows_7 Γ l r2_ 0 s1_ K))) : C2 Γ l mX10_grassGrows [.ref 284] σ K := by
  refine c2_of (lv := [(0, .ref 284)]) (by decide) (Nat.le_of_ble_eq_true rfl) rfl ?_
  refine r_aload_n (dcx dX10_grassGrows_c0 0 rfl) 0 rfl ?_
  refine s_callV (as := []) (st := []) zX10_wetNow kX10_grassGrows_400 (dcx dX10_grassGrows_c0 1 rfl) rfl rfl (Nat.le_of_ble_eq_true rfl) O284 rfl rfl (C2.mono hyp ?_)
  rintro _ s1_ ⟨r2_, rfl, hyp⟩
  show G2 Γ l mX10_grassGrows 4 [(0, .ref 284)] [.int r2_] s1_ K
  refine r_istore_n (lv1 := [(1, .int r2_), (0, .ref 284)]) (dcx dX10_grassGrows_c0 2 rfl) (Nat.le_of_ble_eq_true rfl) rfl ?_
  refine r_iconst (v := 0) (dcx dX10_grassGrows_c0 3 rfl) rfl ?_
  refine r_istore_n (lv1 := [(2, .int 0), (1, .int r2_), (0, .ref 284)]) (dcx dX10_grassGrows_c0 4 rfl) (Nat.le_of_ble_eq_true rfl) rfl ?_
  refine r_loc (lv1 := [(0, .ref 284), (1, .int r2_), (2, .int 0)]) [2, 1, 0] rfl ?_
  exact hyp
set_option maxHeartbeats 4000000 in
set_option maxRecDepth 20000 in
theorem tX10_grassGrows_7 {Γ : GE} {l : Launch} {x1 : Int32} {x2 : Int32} {σ : SS} {K : Option Value → SS → Prop}  (hyp : vp_in (σ.1 284 18) 2 ∧ (((σ.1 295 (Int32.toNatClampNeg (σ.1 284 18))) ≤ x2 → (wX10_grassGrows_98 Γ l 0 σ K)) ∧ (¬ ((σ.1 295 (Int32.toNatClampNeg (σ.1 284 18))) ≤ x2) → (wX10_grassGrows_22 Γ l x1 x2 0 σ K)))) : wX10_grassGrows_7 Γ l x1 x2 σ K := by
  show G2 Γ l mX10_grassGrows 7 [(0, .ref 284), (1, .int x1), (2, .int x2)] [] σ K
  refine r_iload_n (dcx dX10_grassGrows_c0 5 rfl) 2 rfl ?_
  refine r_aload_n (dcx dX10_grassGrows_c0 6 rfl) 0 rfl ?_
  refine s_getr (b := 295) fX10_49 (dcx dX10_grassGrows_c0 7 rfl) F284_24 ?_
  refine r_aload_n (dcx dX10_grassGrows_c0 8 rfl) 0 rfl ?_
  refine s_geti fX10_245 (dcx dX10_grassGrows_c0 9 rfl) F284_18 ?_
  obtain ⟨hb_, hyp⟩ := hyp
  refine s_iald (dcx dX10_grassGrows_c0 10 rfl) A295 hb_ ?_
  refine r_icmp_ge (tgt := 96) (dcx dX10_grassGrows_c0 11 rfl) (by decide) (fun q_ => ?_) (fun q_ => ?_)
  · have hyp := hyp.1 q_
    refine r_iconst (v := 0) (dcx dX10_grassGrows_c1 17 rfl) rfl ?_
    refine r_istore_n (lv1 := [(2, .int 0), (0, .ref 284), (1, .int x1)]) (dcx dX10_grassGrows_c1 18 rfl) (Nat.le_of_ble_eq_true rfl) rfl ?_
    refine r_loc (lv1 := [(0, .ref 284), (2, .int 0)]) [1, 0] rfl ?_
    exact hyp
  · have hyp := hyp.2 q_
    refine r_iconst (v := 0) (dcx dX10_grassGrows_c0 12 rfl) rfl ?_
    refine r_istore_n (lv1 := [(3, .int 0), (0, .ref 284), (1, .int x1), (2, .int x2)]) (dcx dX10_grassGrows_c0 13 rfl) (Nat.le_of_ble_eq_true rfl) rfl ?_
    refine r_loc (lv1 := [(0, .ref 284), (1, .int x1), (2, .int x2), (3, .int 0)]) [1, 2, 3, 0] rfl ?_
    exact hyp
set_option maxHeartbeats 4000000 in
set_option maxRecDepth 20000 in
theorem tX10_grassGrows_98 {Γ : GE} {l : Launch} {x2 : Int32} {σ : SS} {K : Option Value → SS → Prop}  (hyp : vp_in (σ.1 284 18) 2 ∧ (((σ.1 295 (Int32.toNatClampNeg (σ.1 284 18))) ≤ x2 → (vp_in 104 106 ∧ (vp_in 104 106 ∧ (∀ s1_ : SS, s1_ = sI σ 322 (Int32.toNatClampNeg 104) ((σ.1 322 (Int32.toNatClampNeg 104)) + 1) → (K none s1_))))) ∧ (¬ ((σ.1 295 (Int32.toNatClampNeg (σ.1 284 18))) ≤ x2) → (wX10_grassGrows_113 Γ l x2 0 σ K)))) : wX10_grassGrows_98 Γ l x2 σ K := by
  show G2 Γ l mX10_grassGrows 98 [(0, .ref 284), (2, .int x2)] [] σ K
  refine r_iload_n (dcx dX10_grassGrows_c1 19 rfl) 1 rfl ?_
  refine r_aload_n (dcx dX10_grassGrows_c1 20 rfl) 0 rfl ?_
  refine s_getr (b := 295) fX10_49 (dcx dX10_grassGrows_c1 21 rfl) F284_24 ?_
  refine r_aload_n (dcx dX10_grassGrows_c1 22 rfl) 0 rfl ?_
  refine s_geti fX10_245 (dcx dX10_grassGrows_c1 23 rfl) F284_18 ?_
  obtain ⟨hb_, hyp⟩ := hyp
  refine s_iald (dcx dX10_grassGrows_c1 24 rfl) A295 hb_ ?_
  refine r_icmp_ge (tgt := 195) (dcx dX10_grassGrows_c1 25 rfl) (by decide) (fun q_ => ?_) (fun q_ => ?_)
  · have hyp := hyp.1 q_
    refine r_aload_n (dcx dX10_grassGrows_c3 0 rfl) 0 rfl ?_
    refine s_getr (b := 322) fX10_131 (dcx dX10_grassGrows_c3 1 rfl) F284_55 ?_
    refine r_bipush (v := 104) (dcx dX10_grassGrows_c3 2 rfl) rfl ?_
    refine r_dup2 (dcx dX10_grassGrows_c3 3 rfl) rfl rfl ?_
    obtain ⟨hb_, hyp⟩ := hyp
    refine s_iald (dcx dX10_grassGrows_c3 4 rfl) A322 hb_ ?_
    refine r_iconst (v := 1) (dcx dX10_grassGrows_c3 5 rfl) rfl ?_
    refine r_iadd (dcx dX10_grassGrows_c3 6 rfl) ?_
    obtain ⟨hb_, hyp⟩ := hyp
    refine s_iast (dcx dX10_grassGrows_c3 7 rfl) A322 hb_ ?_
    obtain ⟨s1_, es1_⟩ : ∃ z : SS, z = sI σ 322 (Int32.toNatClampNeg 104) ((σ.1 322 (Int32.toNatClampNeg 104)) + 1) := ⟨_, rfl⟩
    rw [← es1_]
    have hyp := hyp s1_ es1_
    exact s_vret rfl hyp (dcx dX10_grassGrows_c3 8 rfl)
  · have hyp := hyp.2 q_
    refine r_iconst (v := 0) (dcx dX10_grassGrows_c1 26 rfl) rfl ?_
    refine r_istore_n (lv1 := [(3, .int 0), (0, .ref 284), (2, .int x2)]) (dcx dX10_grassGrows_c1 27 rfl) (Nat.le_of_ble_eq_true rfl) rfl ?_
    refine r_loc (lv1 := [(0, .ref 284), (2, .int x2), (3, .int 0)]) [1, 2, 0] rfl ?_
    exact hyp
set_option maxHeartbeats 4000000 in
set_option maxRecDepth 20000 in
theorem tX10_grassGrows_22 {Γ : GE} {l : Launch} {x1 : Int32} {x2 : Int32} {x3 : Int32} {σ : SS} {K : Option Value → SS → Prop}  (hyp : vp_in (σ.1 284 18) 2 ∧ (((σ.1 294 (Int32.toNatClampNeg (σ.1 284 18))) ≤ x3 → (wX10_grassGrows_7 Γ l x1 (x2 + 1) σ K)) ∧ (¬ ((σ.1 294 (Int32.toNatClampNeg (σ.1 284 18))) ≤ x3) → (C2 Γ l mX10_isGrass [.ref 284, .int x3, .int x2] σ (Ri fun r2_ s1_ => ((r2_ = 0 → (vp_in ((8 * x2) + x3) 48 ∧ (∀ s3_ : SS, s3_ = sI s1_ 323 (Int32.toNatClampNeg ((8 * x2) + x3)) 0 → (wX10_grassGrows_22 Γ l x1 x2 (x3 + 1) s3_ K)))) ∧ (¬ (r2_ = 0) → (vp_in ((8 * x2) + x3) 106 ∧ (C2 Γ l mX10_growsBy [.ref 284, .int x3, .int x2, .int x1] s1_ (Ri fun r5_ s4_ => (C2 Γ l mX10_held [.int ((s1_.1 322 (Int32.toNatClampNeg ((8 * x2) + x3))) + r5_), .int 0, .int 99] s4_ (Ri fun r7_ s6_ => (vp_in ((8 * x2) + x3) 48 ∧ (∀ s8_ : SS, s8_ = sI s6_ 323 (Int32.toNatClampNeg ((8 * x2) + x3)) r7_ → (wX10_grassGrows_22 Γ l x1 x2 (x3 + 1) s8_ K))))))))))))))) : wX10_grassGrows_22 Γ l x1 x2 x3 σ K := by
  show G2 Γ l mX10_grassGrows 22 [(0, .ref 284), (1, .int x1), (2, .int x2), (3, .int x3)] [] σ K
  refine r_iload_n (dcx dX10_grassGrows_c0 14 rfl) 3 rfl ?_
  refine r_aload_n (dcx dX10_grassGrows_c0 15 rfl) 0 rfl ?_
  refine s_getr (b := 294) fX10_46 (dcx dX10_grassGrows_c0 16 rfl) F284_23 ?_
  refine r_aload_n (dcx dX10_grassGrows_c0 17 rfl) 0 rfl ?_
  refine s_geti fX10_245 (dcx dX10_grassGrows_c0 18 rfl) F284_18 ?_
  obtain ⟨hb_, hyp⟩ := hyp
  refine s_iald (dcx dX10_grassGrows_c0 19 rfl) A294 hb_ ?_
  refine r_icmp_ge (tgt := 90) (dcx dX10_grassGrows_c0 20 rfl) (by decide) (fun q_ => ?_) (fun q_ => ?_)
  · have hyp := hyp.1 q_
    refine r_iinc (lv1 := [(2, .int (x2 + 1)), (0, .ref 284), (1, .int x1), (3, .int x3)]) (dcx dX10_grassGrows_c1 15 rfl) 2 rfl (Nat.le_of_ble_eq_true rfl) rfl ?_
    refine r_goto (tgt := 7) (dcx dX10_grassGrows_c1 16 rfl) (by decide) ?_
    refine r_loc (lv1 := [(0, .ref 284), (1, .int x1), (2, .int (x2 + 1))]) [1, 2, 0] rfl ?_
    exact hyp
  · have hyp := hyp.2 q_
    refine r_aload_n (dcx dX10_grassGrows_c0 21 rfl) 0 rfl ?_
    refine s_getr (b := 323) fX10_134 (dcx dX10_grassGrows_c0 22 rfl) F284_57 ?_
    refine r_bipush (v := 8) (dcx dX10_grassGrows_c0 23 rfl) rfl ?_
    refine r_iload_n (dcx dX10_grassGrows_c0 24 rfl) 2 rfl ?_
    refine r_imul (dcx dX10_grassGrows_c0 25 rfl) ?_
    refine r_iload_n (dcx dX10_grassGrows_c0 26 rfl) 3 rfl ?_
    refine r_iadd (dcx dX10_grassGrows_c0 27 rfl) ?_
    refine r_aload_n (dcx dX10_grassGrows_c0 28 rfl) 0 rfl ?_
    refine r_iload_n (dcx dX10_grassGrows_c0 29 rfl) 3 rfl ?_
    refine r_iload_n (dcx dX10_grassGrows_c0 30 rfl) 2 rfl ?_
    refine s_callV (as := [.int x3, .int x2]) (st := [.int ((8 * x2) + x3), .ref 323]) zX10_isGrass kX10_grassGrows_347 (dcx dX10_grassGrows_c0 31 rfl) rfl rfl (Nat.le_of_ble_eq_true rfl) O284 rfl rfl (C2.mono hyp ?_)
    rintro _ s1_ ⟨r2_, rfl, hyp⟩
    show G2 Γ l mX10_grassGrows 51 [(0, .ref 284), (1, .int x1), (2, .int x2), (3, .int x3)] [.int r2_, .int ((8 * x2) + x3), .ref 323] s1_ K
    refine r_if_eq (tgt := 82) (dcx dX10_grassGrows_c0 32 rfl) (by decide) (fun q_ => ?_) (fun q_ => ?_)
    · have hyp := hyp.1 q_
      refine r_iconst (v := 0) (dcx dX10_grassGrows_c1 11 rfl) rfl ?_
      obtain ⟨hb_, hyp⟩ := hyp
      refine s_iast (dcx dX10_grassGrows_c1 12 rfl) A323 hb_ ?_
      obtain ⟨s3_, es3_⟩ : ∃ z : SS, z = sI s1_ 323 (Int32.toNatClampNeg ((8 * x2) + x3)) 0 := ⟨_, rfl⟩
      rw [← es3_]
      have hyp := hyp s3_ es3_
      refine r_iinc (lv1 := [(3, .int (x3 + 1)), (0, .ref 284), (1, .int x1), (2, .int x2)]) (dcx dX10_grassGrows_c1 13 rfl) 3 rfl (Nat.le_of_ble_eq_true rfl) rfl ?_
      refine r_goto (tgt := 22) (dcx dX10_grassGrows_c1 14 rfl) (by decide) ?_
      refine r_loc (lv1 := [(0, .ref 284), (1, .int x1), (2, .int x2), (3, .int (x3 + 1))]) [1, 2, 3, 0] rfl ?_
      exact hyp
    · have hyp := hyp.2 q_
      refine r_aload_n (dcx dX10_grassGrows_c0 33 rfl) 0 rfl ?_
      refine s_getr (b := 322) fX10_131 (dcx dX10_grassGrows_c0 34 rfl) F284_55 ?_
      refine r_bipush (v := 8) (dcx dX10_grassGrows_c0 35 rfl) rfl ?_
      refine r_iload_n (dcx dX10_grassGrows_c0 36 rfl) 2 rfl ?_
      refine r_imul (dcx dX10_grassGrows_c0 37 rfl) ?_
      refine r_iload_n (dcx dX10_grassGrows_c0 38 rfl) 3 rfl ?_
      refine r_iadd (dcx dX10_grassGrows_c0 39 rfl) ?_
      obtain ⟨hb_, hyp⟩ := hyp
      refine s_iald (dcx dX10_grassGrows_c1 0 rfl) A322 hb_ ?_
      refine r_aload_n (dcx dX10_grassGrows_c1 1 rfl) 0 rfl ?_
      refine r_iload_n (dcx dX10_grassGrows_c1 2 rfl) 3 rfl ?_
      refine r_iload_n (dcx dX10_grassGrows_c1 3 rfl) 2 rfl ?_
      refine r_iload_n (dcx dX10_grassGrows_c1 4 rfl) 1 rfl ?_
      refine s_callV (as := [.int x3, .int x2, .int x1]) (st := [.int (s1_.1 322 (Int32.toNatClampNeg ((8 * x2) + x3))), .int ((8 * x2) + x3), .ref 323]) zX10_growsBy kX10_grassGrows_403 (dcx dX10_grassGrows_c1 5 rfl) rfl rfl (Nat.le_of_ble_eq_true rfl) O284 rfl rfl (C2.mono hyp ?_)
      rintro _ s4_ ⟨r5_, rfl, hyp⟩
      show G2 Γ l mX10_grassGrows 72 [(0, .ref 284), (1, .int x1), (2, .int x2), (3, .int x3)] [.int r5_, .int (s1_.1 322 (Int32.toNatClampNeg ((8 * x2) + x3))), .int ((8 * x2) + x3), .ref 323] s4_ K
      refine r_iadd (dcx dX10_grassGrows_c1 6 rfl) ?_
      refine r_iconst (v := 0) (dcx dX10_grassGrows_c1 7 rfl) rfl ?_
      refine r_bipush (v := 99) (dcx dX10_grassGrows_c1 8 rfl) rfl ?_
      refine s_callS (as := [.int ((s1_.1 322 (Int32.toNatClampNeg ((8 * x2) + x3))) + r5_), .int 0, .int 99]) (st := [.int ((8 * x2) + x3), .ref 323]) zX10_held kX10_grassGrows_375 (dcx dX10_grassGrows_c1 9 rfl) rfl rfl (Nat.le_of_ble_eq_true rfl) (C2.mono hyp ?_)
      rintro _ s6_ ⟨r7_, rfl, hyp⟩
      show G2 Γ l mX10_grassGrows 79 [(0, .ref 284), (1, .int x1), (2, .int x2), (3, .int x3)] [.int r7_, .int ((8 * x2) + x3), .ref 323] s6_ K
      refine r_goto (tgt := 83) (dcx dX10_grassGrows_c1 10 rfl) (by decide) ?_
      obtain ⟨hb_, hyp⟩ := hyp
      refine s_iast (dcx dX10_grassGrows_c1 12 rfl) A323 hb_ ?_
      obtain ⟨s8_, es8_⟩ : ∃ z : SS, z = sI s6_ 323 (Int32.toNatClampNeg ((8 * x2) + x3)) r7_ := ⟨_, rfl⟩
      rw [← es8_]
      have hyp := hyp s8_ es8_
      refine r_iinc (lv1 := [(3, .int (x3 + 1)), (0, .ref 284), (1, .int x1), (2, .int x2)]) (dcx dX10_grassGrows_c1 13 rfl) 3 rfl (Nat.le_of_ble_eq_true rfl) rfl ?_
      refine r_goto (tgt := 22) (dcx dX10_grassGrows_c1 14 rfl) (by decide) ?_
      refine r_loc (lv1 := [(0, .ref 284), (1, .int x1), (2, .int x2), (3, .int (x3 + 1))]) [1, 2, 3, 0] rfl ?_
      exact hyp
set_option maxHeartbeats 4000000 in
set_option maxRecDepth 20000 in
theorem tX10_grassGrows_113 {Γ : GE} {l : Launch} {x2 : Int32} {x3 : Int32} {σ : SS} {K : Option Value → SS → Prop}  (hyp : vp_in (σ.1 284 18) 2 ∧ (((σ.1 294 (Int32.toNatClampNeg (σ.1 284 18))) ≤ x3 → (wX10_grassGrows_98 Γ l (x2 + 1) σ K)) ∧ (¬ ((σ.1 294 (Int32.toNatClampNeg (σ.1 284 18))) ≤ x3) → (vp_in ((8 * x2) + x3) 48 ∧ (vp_in ((8 * x2) + x3) 106 ∧ (∀ s1_ : SS, s1_ = sI σ 322 (Int32.toNatClampNeg ((8 * x2) + x3)) (σ.1 323 (Int32.toNatClampNeg ((8 * x2) + x3))) → (vp_in ((48 + (8 * x2)) + x3) 106 ∧ (((s1_.1 322 (Int32.toNatClampNeg ((48 + (8 * x2)) + x3))) ≤ 0 → (wX10_grassGrows_113 Γ l x2 (x3 + 1) s1_ K)) ∧ (¬ ((s1_.1 322 (Int32.toNatClampNeg ((48 + (8 * x2)) + x3))) ≤ 0) → (vp_in ((48 + (8 * x2)) + x3) 106 ∧ (vp_in ((48 + (8 * x2)) + x3) 106 ∧ (∀ s2_ : SS, s2_ = sI s1_ 322 (Int32.toNatClampNeg ((48 + (8 * x2)) + x3)) ((s1_.1 322 (Int32.toNatClampNeg ((48 + (8 * x2)) + x3))) - 1) → (wX10_grassGrows_113 Γ l x2 (x3 + 1) s2_ K))))))))))))) : wX10_grassGrows_113 Γ l x2 x3 σ K := by
  show G2 Γ l mX10_grassGrows 113 [(0, .ref 284), (2, .int x2), (3, .int x3)] [] σ K
  refine r_iload_n (dcx dX10_grassGrows_c1 28 rfl) 2 rfl ?_
  refine r_aload_n (dcx dX10_grassGrows_c1 29 rfl) 0 rfl ?_
  refine s_getr (b := 294) fX10_46 (dcx dX10_grassGrows_c1 30 rfl) F284_23 ?_
  refine r_aload_n (dcx dX10_grassGrows_c1 31 rfl) 0 rfl ?_
  refine s_geti fX10_245 (dcx dX10_grassGrows_c1 32 rfl) F284_18 ?_
  obtain ⟨hb_, hyp⟩ := hyp
  refine s_iald (dcx dX10_grassGrows_c1 33 rfl) A294 hb_ ?_
  refine r_icmp_ge (tgt := 189) (dcx dX10_grassGrows_c1 34 rfl) (by decide) (fun q_ => ?_) (fun q_ => ?_)
  · have hyp := hyp.1 q_
    refine r_iinc (lv1 := [(2, .int (x2 + 1)), (0, .ref 284), (3, .int x3)]) (dcx dX10_grassGrows_c2 38 rfl) 1 rfl (Nat.le_of_ble_eq_true rfl) rfl ?_
    refine r_goto (tgt := 98) (dcx dX10_grassGrows_c2 39 rfl) (by decide) ?_
    refine r_loc (lv1 := [(0, .ref 284), (2, .int (x2 + 1))]) [1, 0] rfl ?_
    exact hyp
  · have hyp := hyp.2 q_
    refine r_aload_n (dcx dX10_grassGrows_c1 35 rfl) 0 rfl ?_
    refine s_getr (b := 322) fX10_131 (dcx dX10_grassGrows_c1 36 rfl) F284_55 ?_
    refine r_bipush (v := 8) (dcx dX10_grassGrows_c1 37 rfl) rfl ?_
    refine r_iload_n (dcx dX10_grassGrows_c1 38 rfl) 1 rfl ?_
    refine r_imul (dcx dX10_grassGrows_c1 39 rfl) ?_
    refine r_iload_n (dcx dX10_grassGrows_c2 0 rfl) 2 rfl ?_
    refine r_iadd (dcx dX10_grassGrows_c2 1 rfl) ?_
    refine r_aload_n (dcx dX10_grassGrows_c2 2 rfl) 0 rfl ?_
    refine s_getr (b := 323) fX10_134 (dcx dX10_grassGrows_c2 3 rfl) F284_57 ?_
    refine r_bipush (v := 8) (dcx dX10_grassGrows_c2 4 rfl) rfl ?_
    refine r_iload_n (dcx dX10_grassGrows_c2 5 rfl) 1 rfl ?_
    refine r_imul (dcx dX10_grassGrows_c2 6 rfl) ?_
    refine r_iload_n (dcx dX10_grassGrows_c2 7 rfl) 2 rfl ?_
    refine r_iadd (dcx dX10_grassGrows_c2 8 rfl) ?_
    obtain ⟨hb_, hyp⟩ := hyp
    refine s_iald (dcx dX10_grassGrows_c2 9 rfl) A323 hb_ ?_
    obtain ⟨hb_, hyp⟩ := hyp
    refine s_iast (dcx dX10_grassGrows_c2 10 rfl) A322 hb_ ?_
    obtain ⟨s1_, es1_⟩ : ∃ z : SS, z = sI σ 322 (Int32.toNatClampNeg ((8 * x2) + x3)) (σ.1 323 (Int32.toNatClampNeg ((8 * x2) + x3))) := ⟨_, rfl⟩
    rw [← es1_]
    have hyp := hyp s1_ es1_
    refine r_aload_n (dcx dX10_grassGrows_c2 11 rfl) 0 rfl ?_
    refine s_getr (b := 322) fX10_131 (dcx dX10_grassGrows_c2 12 rfl) F284_55 ?_
    refine r_bipush (v := 48) (dcx dX10_grassGrows_c2 13 rfl) rfl ?_
    refine r_bipush (v := 8) (dcx dX10_grassGrows_c2 14 rfl) rfl ?_
    refine r_iload_n (dcx dX10_grassGrows_c2 15 rfl) 1 rfl ?_
    refine r_imul (dcx dX10_grassGrows_c2 16 rfl) ?_
    refine r_iadd (dcx dX10_grassGrows_c2 17 rfl) ?_
    refine r_iload_n (dcx dX10_grassGrows_c2 18 rfl) 2 rfl ?_
    refine r_iadd (dcx dX10_grassGrows_c2 19 rfl) ?_
    obtain ⟨hb_, hyp⟩ := hyp
    refine s_iald (dcx dX10_grassGrows_c2 20 rfl) A322 hb_ ?_
    refine r_if_le (tgt := 183) (dcx dX10_grassGrows_c2 21 rfl) (by decide) (fun q_ => ?_) (fun q_ => ?_)
    · have hyp := hyp.1 q_
      refine r_iinc (lv1 := [(3, .int (x3 + 1)), (0, .ref 284), (2, .int x2)]) (dcx dX10_grassGrows_c2 36 rfl) 2 rfl (Nat.le_of_ble_eq_true rfl) rfl ?_
      refine r_goto (tgt := 113) (dcx dX10_grassGrows_c2 37 rfl) (by decide) ?_
      refine r_loc (lv1 := [(0, .ref 284), (2, .int x2), (3, .int (x3 + 1))]) [1, 2, 0] rfl ?_
      exact hyp
    · have hyp := hyp.2 q_
      refine r_aload_n (dcx dX10_grassGrows_c2 22 rfl) 0 rfl ?_
      refine s_getr (b := 322) fX10_131 (dcx dX10_grassGrows_c2 23 rfl) F284_55 ?_
      refine r_bipush (v := 48) (dcx dX10_grassGrows_c2 24 rfl) rfl ?_
      refine r_bipush (v := 8) (dcx dX10_grassGrows_c2 25 rfl) rfl ?_
      refine r_iload_n (dcx dX10_grassGrows_c2 26 rfl) 1 rfl ?_
      refine r_imul (dcx dX10_grassGrows_c2 27 rfl) ?_
      refine r_iadd (dcx dX10_grassGrows_c2 28 rfl) ?_
      refine r_iload_n (dcx dX10_grassGrows_c2 29 rfl) 2 rfl ?_
      refine r_iadd (dcx dX10_grassGrows_c2 30 rfl) ?_
      refine r_dup2 (dcx dX10_grassGrows_c2 31 rfl) rfl rfl ?_
      obtain ⟨hb_, hyp⟩ := hyp
      refine s_iald (dcx dX10_grassGrows_c2 32 rfl) A322 hb_ ?_
      refine r_iconst (v := 1) (dcx dX10_grassGrows_c2 33 rfl) rfl ?_
      refine r_isub (dcx dX10_grassGrows_c2 34 rfl) ?_
      obtain ⟨hb_, hyp⟩ := hyp
      refine s_iast (dcx dX10_grassGrows_c2 35 rfl) A322 hb_ ?_
      obtain ⟨s2_, es2_⟩ : ∃ z : SS, z = sI s1_ 322 (Int32.toNatClampNeg ((48 + (8 * x2)) + x3)) ((s1_.1 322 (Int32.toNatClampNeg ((48 + (8 * x2)) + x3))) - 1) := ⟨_, rfl⟩
      rw [← es2_]
      have hyp := hyp s2_ es2_
      refine r_iinc (lv1 := [(3, .int (x3 + 1)), (0, .ref 284), (2, .int x2)]) (dcx dX10_grassGrows_c2 36 rfl) 2 rfl (Nat.le_of_ble_eq_true rfl) rfl ?_
      refine r_goto (tgt := 113) (dcx dX10_grassGrows_c2 37 rfl) (by decide) ?_
      refine r_loc (lv1 := [(0, .ref 284), (2, .int x2), (3, .int (x3 + 1))]) [1, 2, 0] rfl ?_
      exact hyp
def wX10_weekGoes_6 (Γ : GE) (l : Launch) (x1 : Int32) (σ : SS) (K : Option Value → SS → Prop) : Prop := G2 Γ l mX10_weekGoes 6 [(0, .ref 284), (1, .int x1)] [] σ K
def wX10_weekGoes_34 (Γ : GE) (l : Launch) (x1 : Int32) (σ : SS) (K : Option Value → SS → Prop) : Prop := G2 Γ l mX10_weekGoes 34 [(0, .ref 284), (1, .int x1)] [] σ K
def wX10_weekGoes_49 (Γ : GE) (l : Launch) (x1 : Int32) (x2 : Int32) (σ : SS) (K : Option Value → SS → Prop) : Prop := G2 Γ l mX10_weekGoes 49 [(0, .ref 284), (1, .int x1), (2, .int x2)] [] σ K
def wX10_weekGoes_94 (Γ : GE) (l : Launch) (x1 : Int32) (x2 : Int32) (σ : SS) (K : Option Value → SS → Prop) : Prop := G2 Γ l mX10_weekGoes 94 [(0, .ref 284), (1, .int x1), (2, .int x2)] [] σ K
set_option maxHeartbeats 4000000 in
set_option maxRecDepth 20000 in
theorem tX10_weekGoes {Γ : GE} {l : Launch}  {σ : SS} {K : Option Value → SS → Prop}  (hyp : C2 Γ l mX10_grassGrows [.ref 284] σ (Rv fun s1_ => (wX10_weekGoes_6 Γ l 0 s1_ K))) : C2 Γ l mX10_weekGoes [.ref 284] σ K := by
  refine c2_of (lv := [(0, .ref 284)]) (by decide) (Nat.le_of_ble_eq_true rfl) rfl ?_
  refine r_aload_n (dcx dX10_weekGoes_c0 0 rfl) 0 rfl ?_
  refine s_callV (as := []) (st := []) zX10_grassGrows kX10_weekGoes_406 (dcx dX10_weekGoes_c0 1 rfl) rfl rfl (Nat.le_of_ble_eq_true rfl) O284 rfl rfl (C2.mono hyp ?_)
  rintro _ s1_ ⟨rfl, hyp⟩
  show G2 Γ l mX10_weekGoes 4 [(0, .ref 284)] [] s1_ K
  refine r_iconst (v := 0) (dcx dX10_weekGoes_c0 2 rfl) rfl ?_
  refine r_istore_n (lv1 := [(1, .int 0), (0, .ref 284)]) (dcx dX10_weekGoes_c0 3 rfl) (Nat.le_of_ble_eq_true rfl) rfl ?_
  refine r_loc (lv1 := [(0, .ref 284), (1, .int 0)]) [1, 0] rfl ?_
  exact hyp
set_option maxHeartbeats 4000000 in
set_option maxRecDepth 20000 in
theorem tX10_weekGoes_6 {Γ : GE} {l : Launch} {x1 : Int32} {σ : SS} {K : Option Value → SS → Prop}  (hyp : ((4 : Int32) ≤ x1 → (wX10_weekGoes_34 Γ l 0 σ K)) ∧ (¬ ((4 : Int32) ≤ x1) → (vp_in (100 + x1) 106 ∧ (vp_in x1 4 ∧ (∀ s1_ : SS, s1_ = sI σ 324 (Int32.toNatClampNeg x1) (σ.1 322 (Int32.toNatClampNeg (100 + x1))) → (wX10_weekGoes_6 Γ l (x1 + 1) s1_ K)))))) : wX10_weekGoes_6 Γ l x1 σ K := by
  show G2 Γ l mX10_weekGoes 6 [(0, .ref 284), (1, .int x1)] [] σ K
  refine r_iload_n (dcx dX10_weekGoes_c0 4 rfl) 1 rfl ?_
  refine r_iconst (v := 4) (dcx dX10_weekGoes_c0 5 rfl) rfl ?_
  refine r_icmp_ge (tgt := 32) (dcx dX10_weekGoes_c0 6 rfl) (by decide) (fun q_ => ?_) (fun q_ => ?_)
  · have hyp := hyp.1 q_
    refine r_iconst (v := 0) (dcx dX10_weekGoes_c0 19 rfl) rfl ?_
    refine r_istore_n (lv1 := [(1, .int 0), (0, .ref 284)]) (dcx dX10_weekGoes_c0 20 rfl) (Nat.le_of_ble_eq_true rfl) rfl ?_
    refine r_loc (lv1 := [(0, .ref 284), (1, .int 0)]) [1, 0] rfl ?_
    exact hyp
  · have hyp := hyp.2 q_
    refine r_aload_n (dcx dX10_weekGoes_c0 7 rfl) 0 rfl ?_
    refine s_getr (b := 324) fX10_137 (dcx dX10_weekGoes_c0 8 rfl) F284_58 ?_
    refine r_iload_n (dcx dX10_weekGoes_c0 9 rfl) 1 rfl ?_
    refine r_aload_n (dcx dX10_weekGoes_c0 10 rfl) 0 rfl ?_
    refine s_getr (b := 322) fX10_131 (dcx dX10_weekGoes_c0 11 rfl) F284_55 ?_
    refine r_bipush (v := 100) (dcx dX10_weekGoes_c0 12 rfl) rfl ?_
    refine r_iload_n (dcx dX10_weekGoes_c0 13 rfl) 1 rfl ?_
    refine r_iadd (dcx dX10_weekGoes_c0 14 rfl) ?_
    obtain ⟨hb_, hyp⟩ := hyp
    refine s_iald (dcx dX10_weekGoes_c0 15 rfl) A322 hb_ ?_
    obtain ⟨hb_, hyp⟩ := hyp
    refine s_iast (dcx dX10_weekGoes_c0 16 rfl) A324 hb_ ?_
    obtain ⟨s1_, es1_⟩ : ∃ z : SS, z = sI σ 324 (Int32.toNatClampNeg x1) (σ.1 322 (Int32.toNatClampNeg (100 + x1))) := ⟨_, rfl⟩
    rw [← es1_]
    have hyp := hyp s1_ es1_
    refine r_iinc (lv1 := [(1, .int (x1 + 1)), (0, .ref 284)]) (dcx dX10_weekGoes_c0 17 rfl) 1 rfl (Nat.le_of_ble_eq_true rfl) rfl ?_
    refine r_goto (tgt := 6) (dcx dX10_weekGoes_c0 18 rfl) (by decide) ?_
    refine r_loc (lv1 := [(0, .ref 284), (1, .int (x1 + 1))]) [1, 0] rfl ?_
    exact hyp
set_option maxHeartbeats 4000000 in
set_option maxRecDepth 20000 in
theorem tX10_weekGoes_34 {Γ : GE} {l : Launch} {x1 : Int32} {σ : SS} {K : Option Value → SS → Prop}  (hyp : vp_in (σ.1 284 18) 2 ∧ (((σ.1 299 (Int32.toNatClampNeg (σ.1 284 18))) ≤ x1 → (K none σ)) ∧ (¬ ((σ.1 299 (Int32.toNatClampNeg (σ.1 284 18))) ≤ x1) → (wX10_weekGoes_49 Γ l x1 0 σ K)))) : wX10_weekGoes_34 Γ l x1 σ K := by
  show G2 Γ l mX10_weekGoes 34 [(0, .ref 284), (1, .int x1)] [] σ K
  refine r_iload_n (dcx dX10_weekGoes_c0 21 rfl) 1 rfl ?_
  refine r_aload_n (dcx dX10_weekGoes_c0 22 rfl) 0 rfl ?_
  refine s_getr (b := 299) fX10_62 (dcx dX10_weekGoes_c0 23 rfl) F284_28 ?_
  refine r_aload_n (dcx dX10_weekGoes_c0 24 rfl) 0 rfl ?_
  refine s_geti fX10_245 (dcx dX10_weekGoes_c0 25 rfl) F284_18 ?_
  obtain ⟨hb_, hyp⟩ := hyp
  refine s_iald (dcx dX10_weekGoes_c0 26 rfl) A299 hb_ ?_
  refine r_icmp_ge (tgt := 158) (dcx dX10_weekGoes_c0 27 rfl) (by decide) (fun q_ => ?_) (fun q_ => ?_)
  · have hyp := hyp.1 q_
    exact s_vret rfl hyp (dcx dX10_weekGoes_c2 17 rfl)
  · have hyp := hyp.2 q_
    refine r_iconst (v := 0) (dcx dX10_weekGoes_c0 28 rfl) rfl ?_
    refine r_istore_n (lv1 := [(2, .int 0), (0, .ref 284), (1, .int x1)]) (dcx dX10_weekGoes_c0 29 rfl) (Nat.le_of_ble_eq_true rfl) rfl ?_
    refine r_loc (lv1 := [(0, .ref 284), (1, .int x1), (2, .int 0)]) [1, 2, 0] rfl ?_
    exact hyp
set_option maxHeartbeats 4000000 in
set_option maxRecDepth 20000 in
theorem tX10_weekGoes_49 {Γ : GE} {l : Launch} {x1 : Int32} {x2 : Int32} {σ : SS} {K : Option Value → SS → Prop}  (hyp : vp_in (σ.1 284 18) 2 ∧ (((σ.1 297 (Int32.toNatClampNeg (σ.1 284 18))) ≤ x2 → (wX10_weekGoes_94 Γ l x1 0 σ K)) ∧ (¬ ((σ.1 297 (Int32.toNatClampNeg (σ.1 284 18))) ≤ x2) → (C2 Γ l mX10_readsAnywhere [.ref 284, .int x1, .int x2] σ (Ri fun r2_ s1_ => ((r2_ = 0 → (wX10_weekGoes_49 Γ l x1 (x2 + 1) s1_ K)) ∧ (¬ (r2_ = 0) → (vp_in (100 + x1) 106 ∧ (vp_in (100 + x1) 106 ∧ (∀ s3_ : SS, s3_ = sI s1_ 322 (Int32.toNatClampNeg (100 + x1)) ((s1_.1 322 (Int32.toNatClampNeg (100 + x1))) ||| (1 <<< (x2 &&& 31))) → (wX10_weekGoes_49 Γ l x1 (x2 + 1) s3_ K))))))))))) : wX10_weekGoes_49 Γ l x1 x2 σ K := by
  show G2 Γ l mX10_weekGoes 49 [(0, .ref 284), (1, .int x1), (2, .int x2)] [] σ K
  refine r_iload_n (dcx dX10_weekGoes_c0 30 rfl) 2 rfl ?_
  refine r_aload_n (dcx dX10_weekGoes_c0 31 rfl) 0 rfl ?_
  refine s_getr (b := 297) fX10_55 (dcx dX10_weekGoes_c0 32 rfl) F284_26 ?_
  refine r_aload_n (dcx dX10_weekGoes_c0 33 rfl) 0 rfl ?_
  refine s_geti fX10_245 (dcx dX10_weekGoes_c0 34 rfl) F284_18 ?_
  obtain ⟨hb_, hyp⟩ := hyp
  refine s_iald (dcx dX10_weekGoes_c0 35 rfl) A297 hb_ ?_
  refine r_icmp_ge (tgt := 92) (dcx dX10_weekGoes_c0 36 rfl) (by decide) (fun q_ => ?_) (fun q_ => ?_)
  · have hyp := hyp.1 q_
    refine r_iconst (v := 0) (dcx dX10_weekGoes_c1 16 rfl) rfl ?_
    refine r_istore_n (lv1 := [(2, .int 0), (0, .ref 284), (1, .int x1)]) (dcx dX10_weekGoes_c1 17 rfl) (Nat.le_of_ble_eq_true rfl) rfl ?_
    refine r_loc (lv1 := [(0, .ref 284), (1, .int x1), (2, .int 0)]) [1, 2, 0] rfl ?_
    exact hyp
  · have hyp := hyp.2 q_
    refine r_aload_n (dcx dX10_weekGoes_c0 37 rfl) 0 rfl ?_
    refine r_iload_n (dcx dX10_weekGoes_c0 38 rfl) 1 rfl ?_
    refine r_iload_n (dcx dX10_weekGoes_c0 39 rfl) 2 rfl ?_
    refine s_callV (as := [.int x1, .int x2]) (st := []) zX10_readsAnywhere kX10_weekGoes_409 (dcx dX10_weekGoes_c1 0 rfl) rfl rfl (Nat.le_of_ble_eq_true rfl) O284 rfl rfl (C2.mono hyp ?_)
    rintro _ s1_ ⟨r2_, rfl, hyp⟩
    show G2 Γ l mX10_weekGoes 68 [(0, .ref 284), (1, .int x1), (2, .int x2)] [.int r2_] s1_ K
    refine r_if_eq (tgt := 86) (dcx dX10_weekGoes_c1 1 rfl) (by decide) (fun q_ => ?_) (fun q_ => ?_)
    · have hyp := hyp.1 q_
      refine r_iinc (lv1 := [(2, .int (x2 + 1)), (0, .ref 284), (1, .int x1)]) (dcx dX10_weekGoes_c1 14 rfl) 2 rfl (Nat.le_of_ble_eq_true rfl) rfl ?_
      refine r_goto (tgt := 49) (dcx dX10_weekGoes_c1 15 rfl) (by decide) ?_
      refine r_loc (lv1 := [(0, .ref 284), (1, .int x1), (2, .int (x2 + 1))]) [1, 2, 0] rfl ?_
      exact hyp
    · have hyp := hyp.2 q_
      refine r_aload_n (dcx dX10_weekGoes_c1 2 rfl) 0 rfl ?_
      refine s_getr (b := 322) fX10_131 (dcx dX10_weekGoes_c1 3 rfl) F284_55 ?_
      refine r_bipush (v := 100) (dcx dX10_weekGoes_c1 4 rfl) rfl ?_
      refine r_iload_n (dcx dX10_weekGoes_c1 5 rfl) 1 rfl ?_
      refine r_iadd (dcx dX10_weekGoes_c1 6 rfl) ?_
      refine r_dup2 (dcx dX10_weekGoes_c1 7 rfl) rfl rfl ?_
      obtain ⟨hb_, hyp⟩ := hyp
      refine s_iald (dcx dX10_weekGoes_c1 8 rfl) A322 hb_ ?_
      refine r_iconst (v := 1) (dcx dX10_weekGoes_c1 9 rfl) rfl ?_
      refine r_iload_n (dcx dX10_weekGoes_c1 10 rfl) 2 rfl ?_
      refine r_ishl (dcx dX10_weekGoes_c1 11 rfl) ?_
      refine r_ior (dcx dX10_weekGoes_c1 12 rfl) ?_
      obtain ⟨hb_, hyp⟩ := hyp
      refine s_iast (dcx dX10_weekGoes_c1 13 rfl) A322 hb_ ?_
      obtain ⟨s3_, es3_⟩ : ∃ z : SS, z = sI s1_ 322 (Int32.toNatClampNeg (100 + x1)) ((s1_.1 322 (Int32.toNatClampNeg (100 + x1))) ||| (1 <<< (x2 &&& 31))) := ⟨_, rfl⟩
      rw [← es3_]
      have hyp := hyp s3_ es3_
      refine r_iinc (lv1 := [(2, .int (x2 + 1)), (0, .ref 284), (1, .int x1)]) (dcx dX10_weekGoes_c1 14 rfl) 2 rfl (Nat.le_of_ble_eq_true rfl) rfl ?_
      refine r_goto (tgt := 49) (dcx dX10_weekGoes_c1 15 rfl) (by decide) ?_
      refine r_loc (lv1 := [(0, .ref 284), (1, .int x1), (2, .int (x2 + 1))]) [1, 2, 0] rfl ?_
      exact hyp
set_option maxHeartbeats 4000000 in
set_option maxRecDepth 20000 in
theorem tX10_weekGoes_94 {Γ : GE} {l : Launch} {x1 : Int32} {x2 : Int32} {σ : SS} {K : Option Value → SS → Prop}  (hyp : vp_in (σ.1 284 18) 2 ∧ (((σ.1 299 (Int32.toNatClampNeg (σ.1 284 18))) ≤ x2 → (wX10_weekGoes_34 Γ l (x1 + 1) σ K)) ∧ (¬ ((σ.1 299 (Int32.toNatClampNeg (σ.1 284 18))) ≤ x2) → (vp_in ((4 * (σ.1 284 18)) + x1) 8 ∧ ((¬ (((σ.1 303 (Int32.toNatClampNeg ((4 * (σ.1 284 18)) + x1))) >>> (x2 &&& 31)) &&& 1) = 1 → (wX10_weekGoes_94 Γ l x1 (x2 + 1) σ K)) ∧ ((((σ.1 303 (Int32.toNatClampNeg ((4 * (σ.1 284 18)) + x1))) >>> (x2 &&& 31)) &&& 1) = 1 → (vp_in (100 + x1) 106 ∧ (vp_in x2 4 ∧ (vp_in (100 + x1) 106 ∧ (∀ s1_ : SS, s1_ = sI σ 322 (Int32.toNatClampNeg (100 + x1)) ((σ.1 322 (Int32.toNatClampNeg (100 + x1))) ||| (σ.1 324 (Int32.toNatClampNeg x2))) → (wX10_weekGoes_94 Γ l x1 (x2 + 1) s1_ K))))))))))) : wX10_weekGoes_94 Γ l x1 x2 σ K := by
  show G2 Γ l mX10_weekGoes 94 [(0, .ref 284), (1, .int x1), (2, .int x2)] [] σ K
  refine r_iload_n (dcx dX10_weekGoes_c1 18 rfl) 2 rfl ?_
  refine r_aload_n (dcx dX10_weekGoes_c1 19 rfl) 0 rfl ?_
  refine s_getr (b := 299) fX10_62 (dcx dX10_weekGoes_c1 20 rfl) F284_28 ?_
  refine r_aload_n (dcx dX10_weekGoes_c1 21 rfl) 0 rfl ?_
  refine s_geti fX10_245 (dcx dX10_weekGoes_c1 22 rfl) F284_18 ?_
  obtain ⟨hb_, hyp⟩ := hyp
  refine s_iald (dcx dX10_weekGoes_c1 23 rfl) A299 hb_ ?_
  refine r_icmp_ge (tgt := 152) (dcx dX10_weekGoes_c1 24 rfl) (by decide) (fun q_ => ?_) (fun q_ => ?_)
  · have hyp := hyp.1 q_
    refine r_iinc (lv1 := [(1, .int (x1 + 1)), (0, .ref 284), (2, .int x2)]) (dcx dX10_weekGoes_c2 15 rfl) 1 rfl (Nat.le_of_ble_eq_true rfl) rfl ?_
    refine r_goto (tgt := 34) (dcx dX10_weekGoes_c2 16 rfl) (by decide) ?_
    refine r_loc (lv1 := [(0, .ref 284), (1, .int (x1 + 1))]) [1, 0] rfl ?_
    exact hyp
  · have hyp := hyp.2 q_
    refine r_aload_n (dcx dX10_weekGoes_c1 25 rfl) 0 rfl ?_
    refine s_getr (b := 303) fX10_74 (dcx dX10_weekGoes_c1 26 rfl) F284_32 ?_
    refine r_iconst (v := 4) (dcx dX10_weekGoes_c1 27 rfl) rfl ?_
    refine r_aload_n (dcx dX10_weekGoes_c1 28 rfl) 0 rfl ?_
    refine s_geti fX10_245 (dcx dX10_weekGoes_c1 29 rfl) F284_18 ?_
    refine r_imul (dcx dX10_weekGoes_c1 30 rfl) ?_
    refine r_iload_n (dcx dX10_weekGoes_c1 31 rfl) 1 rfl ?_
    refine r_iadd (dcx dX10_weekGoes_c1 32 rfl) ?_
    obtain ⟨hb_, hyp⟩ := hyp
    refine s_iald (dcx dX10_weekGoes_c1 33 rfl) A303 hb_ ?_
    refine r_iload_n (dcx dX10_weekGoes_c1 34 rfl) 2 rfl ?_
    refine r_ishr (dcx dX10_weekGoes_c1 35 rfl) ?_
    refine r_iconst (v := 1) (dcx dX10_weekGoes_c1 36 rfl) rfl ?_
    refine r_iand (dcx dX10_weekGoes_c1 37 rfl) ?_
    refine r_iconst (v := 1) (dcx dX10_weekGoes_c1 38 rfl) rfl ?_
    refine r_icmp_ne (tgt := 146) (dcx dX10_weekGoes_c1 39 rfl) (by decide) (fun q_ => ?_) (fun q_ => ?_)
    · have hyp := hyp.1 q_
      refine r_iinc (lv1 := [(2, .int (x2 + 1)), (0, .ref 284), (1, .int x1)]) (dcx dX10_weekGoes_c2 13 rfl) 2 rfl (Nat.le_of_ble_eq_true rfl) rfl ?_
      refine r_goto (tgt := 94) (dcx dX10_weekGoes_c2 14 rfl) (by decide) ?_
      refine r_loc (lv1 := [(0, .ref 284), (1, .int x1), (2, .int (x2 + 1))]) [1, 2, 0] rfl ?_
      exact hyp
    · have hyp := hyp.2 q_
      refine r_aload_n (dcx dX10_weekGoes_c2 0 rfl) 0 rfl ?_
      refine s_getr (b := 322) fX10_131 (dcx dX10_weekGoes_c2 1 rfl) F284_55 ?_
      refine r_bipush (v := 100) (dcx dX10_weekGoes_c2 2 rfl) rfl ?_
      refine r_iload_n (dcx dX10_weekGoes_c2 3 rfl) 1 rfl ?_
      refine r_iadd (dcx dX10_weekGoes_c2 4 rfl) ?_
      refine r_dup2 (dcx dX10_weekGoes_c2 5 rfl) rfl rfl ?_
      obtain ⟨hb_, hyp⟩ := hyp
      refine s_iald (dcx dX10_weekGoes_c2 6 rfl) A322 hb_ ?_
      refine r_aload_n (dcx dX10_weekGoes_c2 7 rfl) 0 rfl ?_
      refine s_getr (b := 324) fX10_137 (dcx dX10_weekGoes_c2 8 rfl) F284_58 ?_
      refine r_iload_n (dcx dX10_weekGoes_c2 9 rfl) 2 rfl ?_
      obtain ⟨hb_, hyp⟩ := hyp
      refine s_iald (dcx dX10_weekGoes_c2 10 rfl) A324 hb_ ?_
      refine r_ior (dcx dX10_weekGoes_c2 11 rfl) ?_
      obtain ⟨hb_, hyp⟩ := hyp
      refine s_iast (dcx dX10_weekGoes_c2 12 rfl) A322 hb_ ?_
      obtain ⟨s1_, es1_⟩ : ∃ z : SS, z = sI σ 322 (Int32.toNatClampNeg (100 + x1)) ((σ.1 322 (Int32.toNatClampNeg (100 + x1))) ||| (σ.1 324 (Int32.toNatClampNeg x2))) := ⟨_, rfl⟩
      rw [← es1_]
      have hyp := hyp s1_ es1_
      refine r_iinc (lv1 := [(2, .int (x2 + 1)), (0, .ref 284), (1, .int x1)]) (dcx dX10_weekGoes_c2 13 rfl) 2 rfl (Nat.le_of_ble_eq_true rfl) rfl ?_
      refine r_goto (tgt := 94) (dcx dX10_weekGoes_c2 14 rfl) (by decide) ?_
      refine r_loc (lv1 := [(0, .ref 284), (1, .int x1), (2, .int (x2 + 1))]) [1, 2, 0] rfl ?_
      exact hyp
def wX10_goes_2 (Γ : GE) (l : Launch) (x1 : Int32) (x2 : Int32) (σ : SS) (K : Option Value → SS → Prop) : Prop := G2 Γ l mX10_goes 2 [(0, .ref 284), (1, .int x1), (2, .int x2)] [] σ K
set_option maxHeartbeats 4000000 in
set_option maxRecDepth 20000 in
theorem tX10_goes {Γ : GE} {l : Launch} {x1 : Int32} {σ : SS} {K : Option Value → SS → Prop}  (hyp : wX10_goes_2 Γ l x1 0 σ K) : C2 Γ l mX10_goes [.ref 284, .int x1] σ K := by
  refine c2_of (lv := [(0, .ref 284), (1, .int x1)]) (by decide) (Nat.le_of_ble_eq_true rfl) rfl ?_
  refine r_iconst (v := 0) (dcx dX10_goes_c0 0 rfl) rfl ?_
  refine r_istore_n (lv1 := [(2, .int 0), (0, .ref 284), (1, .int x1)]) (dcx dX10_goes_c0 1 rfl) (Nat.le_of_ble_eq_true rfl) rfl ?_
  refine r_loc (lv1 := [(0, .ref 284), (1, .int x1), (2, .int 0)]) [1, 2, 0] rfl ?_
  exact hyp
set_option maxHeartbeats 4000000 in
set_option maxRecDepth 20000 in
theorem tX10_goes_2 {Γ : GE} {l : Launch} {x1 : Int32} {x2 : Int32} {σ : SS} {K : Option Value → SS → Prop}  (hyp : (x1 ≤ x2 → (K none σ)) ∧ (¬ (x1 ≤ x2) → (C2 Γ l mX10_weekGoes [.ref 284] σ (Rv fun s1_ => (wX10_goes_2 Γ l x1 (x2 + 1) s1_ K))))) : wX10_goes_2 Γ l x1 x2 σ K := by
  show G2 Γ l mX10_goes 2 [(0, .ref 284), (1, .int x1), (2, .int x2)] [] σ K
  refine r_iload_n (dcx dX10_goes_c0 2 rfl) 2 rfl ?_
  refine r_iload_n (dcx dX10_goes_c0 3 rfl) 1 rfl ?_
  refine r_icmp_ge (tgt := 17) (dcx dX10_goes_c0 4 rfl) (by decide) (fun q_ => ?_) (fun q_ => ?_)
  · have hyp := hyp.1 q_
    exact s_vret rfl hyp (dcx dX10_goes_c0 9 rfl)
  · have hyp := hyp.2 q_
    refine r_aload_n (dcx dX10_goes_c0 5 rfl) 0 rfl ?_
    refine s_callV (as := []) (st := []) zX10_weekGoes kX10_goes_412 (dcx dX10_goes_c0 6 rfl) rfl rfl (Nat.le_of_ble_eq_true rfl) O284 rfl rfl (C2.mono hyp ?_)
    rintro _ s1_ ⟨rfl, hyp⟩
    show G2 Γ l mX10_goes 11 [(0, .ref 284), (1, .int x1), (2, .int x2)] [] s1_ K
    refine r_iinc (lv1 := [(2, .int (x2 + 1)), (0, .ref 284), (1, .int x1)]) (dcx dX10_goes_c0 7 rfl) 2 rfl (Nat.le_of_ble_eq_true rfl) rfl ?_
    refine r_goto (tgt := 2) (dcx dX10_goes_c0 8 rfl) (by decide) ?_
    refine r_loc (lv1 := [(0, .ref 284), (1, .int x1), (2, .int (x2 + 1))]) [1, 2, 0] rfl ?_
    exact hyp
def wX10_grows_2 (Γ : GE) (l : Launch) (x1 : Int32) (x2 : Int32) (σ : SS) (K : Option Value → SS → Prop) : Prop := G2 Γ l mX10_grows 2 [(0, .ref 284), (1, .int x1), (2, .int x2)] [] σ K
set_option maxHeartbeats 4000000 in
set_option maxRecDepth 20000 in
theorem tX10_grows {Γ : GE} {l : Launch} {x1 : Int32} {σ : SS} {K : Option Value → SS → Prop}  (hyp : wX10_grows_2 Γ l x1 0 σ K) : C2 Γ l mX10_grows [.ref 284, .int x1] σ K := by
  refine c2_of (lv := [(0, .ref 284), (1, .int x1)]) (by decide) (Nat.le_of_ble_eq_true rfl) rfl ?_
  refine r_iconst (v := 0) (dcx dX10_grows_c0 0 rfl) rfl ?_
  refine r_istore_n (lv1 := [(2, .int 0), (0, .ref 284), (1, .int x1)]) (dcx dX10_grows_c0 1 rfl) (Nat.le_of_ble_eq_true rfl) rfl ?_
  refine r_loc (lv1 := [(0, .ref 284), (1, .int x1), (2, .int 0)]) [1, 2, 0] rfl ?_
  exact hyp
set_option maxHeartbeats 4000000 in
set_option maxRecDepth 20000 in
theorem tX10_grows_2 {Γ : GE} {l : Launch} {x1 : Int32} {x2 : Int32} {σ : SS} {K : Option Value → SS → Prop}  (hyp : (x1 ≤ x2 → (K none σ)) ∧ (¬ (x1 ≤ x2) → (C2 Γ l mX10_grassGrows [.ref 284] σ (Rv fun s1_ => (wX10_grows_2 Γ l x1 (x2 + 1) s1_ K))))) : wX10_grows_2 Γ l x1 x2 σ K := by
  show G2 Γ l mX10_grows 2 [(0, .ref 284), (1, .int x1), (2, .int x2)] [] σ K
  refine r_iload_n (dcx dX10_grows_c0 2 rfl) 2 rfl ?_
  refine r_iload_n (dcx dX10_grows_c0 3 rfl) 1 rfl ?_
  refine r_icmp_ge (tgt := 17) (dcx dX10_grows_c0 4 rfl) (by decide) (fun q_ => ?_) (fun q_ => ?_)
  · have hyp := hyp.1 q_
    exact s_vret rfl hyp (dcx dX10_grows_c0 9 rfl)
  · have hyp := hyp.2 q_
    refine r_aload_n (dcx dX10_grows_c0 5 rfl) 0 rfl ?_
    refine s_callV (as := []) (st := []) zX10_grassGrows kX10_grows_406 (dcx dX10_grows_c0 6 rfl) rfl rfl (Nat.le_of_ble_eq_true rfl) O284 rfl rfl (C2.mono hyp ?_)
    rintro _ s1_ ⟨rfl, hyp⟩
    show G2 Γ l mX10_grows 11 [(0, .ref 284), (1, .int x1), (2, .int x2)] [] s1_ K
    refine r_iinc (lv1 := [(2, .int (x2 + 1)), (0, .ref 284), (1, .int x1)]) (dcx dX10_grows_c0 7 rfl) 2 rfl (Nat.le_of_ble_eq_true rfl) rfl ?_
    refine r_goto (tgt := 2) (dcx dX10_grows_c0 8 rfl) (by decide) ?_
    refine r_loc (lv1 := [(0, .ref 284), (1, .int x1), (2, .int (x2 + 1))]) [1, 2, 0] rfl ?_
    exact hyp
set_option maxHeartbeats 4000000 in
set_option maxRecDepth 20000 in
theorem tX10_cell {Γ : GE} {l : Launch} {x1 : Int32} {x2 : Int32} {x3 : Int32} {σ : SS} {K : Option Value → SS → Prop}  (hyp : C2 Γ l mX10_isCell [.ref 284, .int x1, .int x2] σ (Ri fun r2_ s1_ => ((¬ r2_ = 0 → (C2 Γ l mX10_copies [.ref 284] s1_ (Rv fun s3_ => ((x3 = 0 → (vp_in ((8 * x2) + x1) 106 ∧ (K (some (.int (s3_.1 322 (Int32.toNatClampNeg ((8 * x2) + x1))))) s3_))) ∧ (x3 = 1 → (vp_in (((48 * (s3_.1 284 18)) + (8 * x2)) + x1) 96 ∧ (K (some (.int (s3_.1 296 (Int32.toNatClampNeg (((48 * (s3_.1 284 18)) + (8 * x2)) + x1))))) s3_))) ∧ (x3 = 2 → (vp_in ((48 + (8 * x2)) + x1) 106 ∧ (K (some (.int (s3_.1 322 (Int32.toNatClampNeg ((48 + (8 * x2)) + x1))))) s3_))) ∧ (x3 = 3 → (C2 Γ l mX10_isGrass [.ref 284, .int x1, .int x2] s3_ (Ri fun r6_ s5_ => ((r6_ = 0 → (K (some (.int 0)) s5_)) ∧ (¬ (r6_ = 0) → (C2 Γ l mX10_growsBy [.ref 284, .int x1, .int x2, .int 0] s5_ (Ri fun r8_ s7_ => (K (some (.int r8_)) s7_)))))))) ∧ (¬ x3 = 0 → ¬ x3 = 1 → ¬ x3 = 2 → ¬ x3 = 3 → (K (some (.int ((-100)))) s3_)))))) ∧ (r2_ = 0 → (K (some (.int ((-100)))) s1_))))) : C2 Γ l mX10_cell [.ref 284, .int x1, .int x2, .int x3] σ K := by
  refine c2_of (lv := [(0, .ref 284), (1, .int x1), (2, .int x2), (3, .int x3)]) (by decide) (Nat.le_of_ble_eq_true rfl) rfl ?_
  refine r_aload_n (dcx dX10_cell_c0 0 rfl) 0 rfl ?_
  refine r_iload_n (dcx dX10_cell_c0 1 rfl) 1 rfl ?_
  refine r_iload_n (dcx dX10_cell_c0 2 rfl) 2 rfl ?_
  refine s_callV (as := [.int x1, .int x2]) (st := []) zX10_isCell kX10_cell_343 (dcx dX10_cell_c0 3 rfl) rfl rfl (Nat.le_of_ble_eq_true rfl) O284 rfl rfl (C2.mono hyp ?_)
  rintro _ s1_ ⟨r2_, rfl, hyp⟩
  show G2 Γ l mX10_cell 6 [(0, .ref 284), (1, .int x1), (2, .int x2), (3, .int x3)] [.int r2_] s1_ K
  refine r_if_ne (tgt := 12) (dcx dX10_cell_c0 4 rfl) (by decide) (fun q_ => ?_) (fun q_ => ?_)
  · have hyp := hyp.1 q_
    refine r_aload_n (dcx dX10_cell_c0 7 rfl) 0 rfl ?_
    refine s_callV (as := []) (st := []) zX10_copies kX10_cell_415 (dcx dX10_cell_c0 8 rfl) rfl rfl (Nat.le_of_ble_eq_true rfl) O284 rfl rfl (C2.mono hyp ?_)
    rintro _ s3_ ⟨rfl, hyp⟩
    show G2 Γ l mX10_cell 16 [(0, .ref 284), (1, .int x1), (2, .int x2), (3, .int x3)] [] s3_ K
    refine r_iload_n (dcx dX10_cell_c0 9 rfl) 3 rfl ?_
    by_cases q0_ : x3 = 0
    · have hyp := hyp.1 q0_
      refine r_tableIn (off := 31) (tgt := 48) (dcx dX10_cell_c0 10 rfl) (by rw [q0_]; decide) (by rw [q0_]; decide) (by rw [q0_]; decide) (by decide) ?_
      refine r_aload_n (dcx dX10_cell_c0 11 rfl) 0 rfl ?_
      refine s_getr (b := 322) fX10_131 (dcx dX10_cell_c0 12 rfl) F284_55 ?_
      refine r_bipush (v := 8) (dcx dX10_cell_c0 13 rfl) rfl ?_
      refine r_iload_n (dcx dX10_cell_c0 14 rfl) 2 rfl ?_
      refine r_imul (dcx dX10_cell_c0 15 rfl) ?_
      refine r_iload_n (dcx dX10_cell_c0 16 rfl) 1 rfl ?_
      refine r_iadd (dcx dX10_cell_c0 17 rfl) ?_
      obtain ⟨hb_, hyp⟩ := hyp
      refine s_iald (dcx dX10_cell_c0 18 rfl) A322 hb_ ?_
      exact s_ret rfl rfl rfl hyp (dcx dX10_cell_c0 19 rfl)
    have hyp := hyp.2
    by_cases q1_ : x3 = 1
    · have hyp := hyp.1 q1_
      refine r_tableIn (off := 43) (tgt := 60) (dcx dX10_cell_c0 10 rfl) (by rw [q1_]; decide) (by rw [q1_]; decide) (by rw [q1_]; decide) (by decide) ?_
      refine r_aload_n (dcx dX10_cell_c0 20 rfl) 0 rfl ?_
      refine s_getr (b := 296) fX10_52 (dcx dX10_cell_c0 21 rfl) F284_25 ?_
      refine r_bipush (v := 48) (dcx dX10_cell_c0 22 rfl) rfl ?_
      refine r_aload_n (dcx dX10_cell_c0 23 rfl) 0 rfl ?_
      refine s_geti fX10_245 (dcx dX10_cell_c0 24 rfl) F284_18 ?_
      refine r_imul (dcx dX10_cell_c0 25 rfl) ?_
      refine r_bipush (v := 8) (dcx dX10_cell_c0 26 rfl) rfl ?_
      refine r_iload_n (dcx dX10_cell_c0 27 rfl) 2 rfl ?_
      refine r_imul (dcx dX10_cell_c0 28 rfl) ?_
      refine r_iadd (dcx dX10_cell_c0 29 rfl) ?_
      refine r_iload_n (dcx dX10_cell_c0 30 rfl) 1 rfl ?_
      refine r_iadd (dcx dX10_cell_c0 31 rfl) ?_
      obtain ⟨hb_, hyp⟩ := hyp
      refine s_iald (dcx dX10_cell_c0 32 rfl) A296 hb_ ?_
      exact s_ret rfl rfl rfl hyp (dcx dX10_cell_c0 33 rfl)
    have hyp := hyp.2
    by_cases q2_ : x3 = 2
    · have hyp := hyp.1 q2_
      refine r_tableIn (off := 63) (tgt := 80) (dcx dX10_cell_c0 10 rfl) (by rw [q2_]; decide) (by rw [q2_]; decide) (by rw [q2_]; decide) (by decide) ?_
      refine r_aload_n (dcx dX10_cell_c0 34 rfl) 0 rfl ?_
      refine s_getr (b := 322) fX10_131 (dcx dX10_cell_c0 35 rfl) F284_55 ?_
      refine r_bipush (v := 48) (dcx dX10_cell_c0 36 rfl) rfl ?_
      refine r_bipush (v := 8) (dcx dX10_cell_c0 37 rfl) rfl ?_
      refine r_iload_n (dcx dX10_cell_c0 38 rfl) 2 rfl ?_
      refine r_imul (dcx dX10_cell_c0 39 rfl) ?_
      refine r_iadd (dcx dX10_cell_c1 0 rfl) ?_
      refine r_iload_n (dcx dX10_cell_c1 1 rfl) 1 rfl ?_
      refine r_iadd (dcx dX10_cell_c1 2 rfl) ?_
      obtain ⟨hb_, hyp⟩ := hyp
      refine s_iald (dcx dX10_cell_c1 3 rfl) A322 hb_ ?_
      exact s_ret rfl rfl rfl hyp (dcx dX10_cell_c1 4 rfl)
    have hyp := hyp.2
    by_cases q3_ : x3 = 3
    · have hyp := hyp.1 q3_
      refine r_tableIn (off := 78) (tgt := 95) (dcx dX10_cell_c0 10 rfl) (by rw [q3_]; decide) (by rw [q3_]; decide) (by rw [q3_]; decide) (by decide) ?_
      refine r_aload_n (dcx dX10_cell_c1 5 rfl) 0 rfl ?_
      refine r_iload_n (dcx dX10_cell_c1 6 rfl) 1 rfl ?_
      refine r_iload_n (dcx dX10_cell_c1 7 rfl) 2 rfl ?_
      refine s_callV (as := [.int x1, .int x2]) (st := []) zX10_isGrass kX10_cell_347 (dcx dX10_cell_c1 8 rfl) rfl rfl (Nat.le_of_ble_eq_true rfl) O284 rfl rfl (C2.mono hyp ?_)
      rintro _ s5_ ⟨r6_, rfl, hyp⟩
      show G2 Γ l mX10_cell 101 [(0, .ref 284), (1, .int x1), (2, .int x2), (3, .int x3)] [.int r6_] s5_ K
      refine r_if_eq (tgt := 114) (dcx dX10_cell_c1 9 rfl) (by decide) (fun q_ => ?_) (fun q_ => ?_)
      · have hyp := hyp.1 q_
        refine r_iconst (v := 0) (dcx dX10_cell_c1 16 rfl) rfl ?_
        exact s_ret rfl rfl rfl hyp (dcx dX10_cell_c1 17 rfl)
      · have hyp := hyp.2 q_
        refine r_aload_n (dcx dX10_cell_c1 10 rfl) 0 rfl ?_
        refine r_iload_n (dcx dX10_cell_c1 11 rfl) 1 rfl ?_
        refine r_iload_n (dcx dX10_cell_c1 12 rfl) 2 rfl ?_
        refine r_iconst (v := 0) (dcx dX10_cell_c1 13 rfl) rfl ?_
        refine s_callV (as := [.int x1, .int x2, .int 0]) (st := []) zX10_growsBy kX10_cell_403 (dcx dX10_cell_c1 14 rfl) rfl rfl (Nat.le_of_ble_eq_true rfl) O284 rfl rfl (C2.mono hyp ?_)
        rintro _ s7_ ⟨r8_, rfl, hyp⟩
        show G2 Γ l mX10_cell 111 [(0, .ref 284), (1, .int x1), (2, .int x2), (3, .int x3)] [.int r8_] s7_ K
        refine r_goto (tgt := 115) (dcx dX10_cell_c1 15 rfl) (by decide) ?_
        exact s_ret rfl rfl rfl hyp (dcx dX10_cell_c1 17 rfl)
    have hyp := hyp.2
    have hyp := hyp q0_ q1_ q2_ q3_
    refine r_tableOut (tgt := 116) (dcx dX10_cell_c0 10 rfl) (by have t0_ := lv_neT (a := 0) q0_ (by decide); have t1_ := lv_neT (a := 1) q1_ (by decide); have t2_ := lv_neT (a := 2) q2_ (by decide); have t3_ := lv_neT (a := 3) q3_ (by decide); omega) (by decide) ?_
    refine r_bipush (v := (-100)) (dcx dX10_cell_c1 18 rfl) rfl ?_
    exact s_ret rfl rfl rfl hyp (dcx dX10_cell_c1 19 rfl)
  · have hyp := hyp.2 q_
    refine r_bipush (v := (-100)) (dcx dX10_cell_c0 5 rfl) rfl ?_
    exact s_ret rfl rfl rfl hyp (dcx dX10_cell_c0 6 rfl)
def wX10_sign_47 (Γ : GE) (l : Launch) (x1 : Int32) (x3 : Int32) (x4 : Int32) (σ : SS) (K : Option Value → SS → Prop) : Prop := G2 Γ l mX10_sign 47 [(0, .ref 284), (1, .int x1), (3, .int x3), (4, .int x4)] [] σ K
set_option maxHeartbeats 4000000 in
set_option maxRecDepth 20000 in
theorem tX10_sign {Γ : GE} {l : Launch} {x1 : Int32} {x2 : Int32} {σ : SS} {K : Option Value → SS → Prop}  (hyp : C2 Γ l mX10_isSign [.ref 284, .int x1] σ (Ri fun r2_ s1_ => ((¬ r2_ = 0 → ((x2 = 0 → (C2 Γ l mX10_crosses [.ref 284, .int x1] s1_ (Ri fun r4_ s3_ => (K (some (.int r4_)) s3_)))) ∧ (x2 = 1 → (wX10_sign_47 Γ l x1 0 0 s1_ K)) ∧ (x2 = 2 → (vp_in (96 + x1) 106 ∧ (K (some (.int (s1_.1 321 (Int32.toNatClampNeg (96 + x1))))) s1_))) ∧ (¬ x2 = 0 → ¬ x2 = 1 → ¬ x2 = 2 → (K (some (.int ((-1)))) s1_)))) ∧ (r2_ = 0 → (K (some (.int ((-1)))) s1_))))) : C2 Γ l mX10_sign [.ref 284, .int x1, .int x2] σ K := by
  refine c2_of (lv := [(0, .ref 284), (1, .int x1), (2, .int x2)]) (by decide) (Nat.le_of_ble_eq_true rfl) rfl ?_
  refine r_aload_n (dcx dX10_sign_c0 0 rfl) 0 rfl ?_
  refine r_iload_n (dcx dX10_sign_c0 1 rfl) 1 rfl ?_
  refine s_callV (as := [.int x1]) (st := []) zX10_isSign kX10_sign_418 (dcx dX10_sign_c0 2 rfl) rfl rfl (Nat.le_of_ble_eq_true rfl) O284 rfl rfl (C2.mono hyp ?_)
  rintro _ s1_ ⟨r2_, rfl, hyp⟩
  show G2 Γ l mX10_sign 5 [(0, .ref 284), (1, .int x1), (2, .int x2)] [.int r2_] s1_ K
  refine r_if_ne (tgt := 10) (dcx dX10_sign_c0 3 rfl) (by decide) (fun q_ => ?_) (fun q_ => ?_)
  · have hyp := hyp.1 q_
    refine r_iload_n (dcx dX10_sign_c0 6 rfl) 2 rfl ?_
    by_cases q0_ : x2 = 0
    · have hyp := hyp.1 q0_
      refine r_tableIn (off := 25) (tgt := 36) (dcx dX10_sign_c0 7 rfl) (by rw [q0_]; decide) (by rw [q0_]; decide) (by rw [q0_]; decide) (by decide) ?_
      refine r_aload_n (dcx dX10_sign_c0 8 rfl) 0 rfl ?_
      refine r_iload_n (dcx dX10_sign_c0 9 rfl) 1 rfl ?_
      refine s_callV (as := [.int x1]) (st := []) zX10_crosses kX10_sign_378 (dcx dX10_sign_c0 10 rfl) rfl rfl (Nat.le_of_ble_eq_true rfl) O284 rfl rfl (C2.mono hyp ?_)
      rintro _ s3_ ⟨r4_, rfl, hyp⟩
      show G2 Γ l mX10_sign 41 [(0, .ref 284), (1, .int x1), (2, .int x2)] [.int r4_] s3_ K
      exact s_ret rfl rfl rfl hyp (dcx dX10_sign_c0 11 rfl)
    have hyp := hyp.2
    by_cases q1_ : x2 = 1
    · have hyp := hyp.1 q1_
      refine r_tableIn (off := 31) (tgt := 42) (dcx dX10_sign_c0 7 rfl) (by rw [q1_]; decide) (by rw [q1_]; decide) (by rw [q1_]; decide) (by decide) ?_
      refine r_iconst (v := 0) (dcx dX10_sign_c0 12 rfl) rfl ?_
      refine r_istore_n (lv1 := [(3, .int 0), (0, .ref 284), (1, .int x1), (2, .int x2)]) (dcx dX10_sign_c0 13 rfl) (Nat.le_of_ble_eq_true rfl) rfl ?_
      refine r_iconst (v := 0) (dcx dX10_sign_c0 14 rfl) rfl ?_
      refine r_istore (lv1 := [(4, .int 0), (3, .int 0), (0, .ref 284), (1, .int x1), (2, .int x2)]) (dcx dX10_sign_c0 15 rfl) (Nat.le_of_ble_eq_true rfl) rfl ?_
      refine r_loc (lv1 := [(0, .ref 284), (1, .int x1), (3, .int 0), (4, .int 0)]) [2, 3, 1, 0] rfl ?_
      exact hyp
    have hyp := hyp.2
    by_cases q2_ : x2 = 2
    · have hyp := hyp.1 q2_
      refine r_tableIn (off := 83) (tgt := 94) (dcx dX10_sign_c0 7 rfl) (by rw [q2_]; decide) (by rw [q2_]; decide) (by rw [q2_]; decide) (by decide) ?_
      refine r_aload_n (dcx dX10_sign_c1 5 rfl) 0 rfl ?_
      refine s_getr (b := 321) fX10_128 (dcx dX10_sign_c1 6 rfl) F284_54 ?_
      refine r_bipush (v := 96) (dcx dX10_sign_c1 7 rfl) rfl ?_
      refine r_iload_n (dcx dX10_sign_c1 8 rfl) 1 rfl ?_
      refine r_iadd (dcx dX10_sign_c1 9 rfl) ?_
      obtain ⟨hb_, hyp⟩ := hyp
      refine s_iald (dcx dX10_sign_c1 10 rfl) A321 hb_ ?_
      exact s_ret rfl rfl rfl hyp (dcx dX10_sign_c1 11 rfl)
    have hyp := hyp.2
    have hyp := hyp q0_ q1_ q2_
    refine r_tableOut (tgt := 104) (dcx dX10_sign_c0 7 rfl) (by have t0_ := lv_neT (a := 0) q0_ (by decide); have t1_ := lv_neT (a := 1) q1_ (by decide); have t2_ := lv_neT (a := 2) q2_ (by decide); omega) (by decide) ?_
    refine r_iconst (v := (-1)) (dcx dX10_sign_c1 12 rfl) rfl ?_
    exact s_ret rfl rfl rfl hyp (dcx dX10_sign_c1 13 rfl)
  · have hyp := hyp.2 q_
    refine r_iconst (v := (-1)) (dcx dX10_sign_c0 4 rfl) rfl ?_
    exact s_ret rfl rfl rfl hyp (dcx dX10_sign_c0 5 rfl)
set_option maxHeartbeats 4000000 in
set_option maxRecDepth 20000 in
theorem tX10_sign_47 {Γ : GE} {l : Launch} {x1 : Int32} {x3 : Int32} {x4 : Int32} {σ : SS} {K : Option Value → SS → Prop}  (hyp : vp_in (σ.1 284 18) 2 ∧ (((σ.1 299 (Int32.toNatClampNeg (σ.1 284 18))) ≤ x4 → (K (some (.int x3)) σ)) ∧ (¬ ((σ.1 299 (Int32.toNatClampNeg (σ.1 284 18))) ≤ x4) → (vp_in (100 + x4) 106 ∧ ((¬ (((σ.1 321 (Int32.toNatClampNeg (100 + x4))) >>> (x1 &&& 31)) &&& 1) = 1 → (wX10_sign_47 Γ l x1 x3 (x4 + 1) σ K)) ∧ ((((σ.1 321 (Int32.toNatClampNeg (100 + x4))) >>> (x1 &&& 31)) &&& 1) = 1 → (wX10_sign_47 Γ l x1 (x3 ||| (1 <<< (x4 &&& 31))) (x4 + 1) σ K))))))) : wX10_sign_47 Γ l x1 x3 x4 σ K := by
  show G2 Γ l mX10_sign 47 [(0, .ref 284), (1, .int x1), (3, .int x3), (4, .int x4)] [] σ K
  refine r_iload (dcx dX10_sign_c0 16 rfl) 3 rfl ?_
  refine r_aload_n (dcx dX10_sign_c0 17 rfl) 0 rfl ?_
  refine s_getr (b := 299) fX10_62 (dcx dX10_sign_c0 18 rfl) F284_28 ?_
  refine r_aload_n (dcx dX10_sign_c0 19 rfl) 0 rfl ?_
  refine s_geti fX10_245 (dcx dX10_sign_c0 20 rfl) F284_18 ?_
  obtain ⟨hb_, hyp⟩ := hyp
  refine s_iald (dcx dX10_sign_c0 21 rfl) A299 hb_ ?_
  refine r_icmp_ge (tgt := 92) (dcx dX10_sign_c0 22 rfl) (by decide) (fun q_ => ?_) (fun q_ => ?_)
  · have hyp := hyp.1 q_
    refine r_iload_n (dcx dX10_sign_c1 3 rfl) 2 rfl ?_
    exact s_ret rfl rfl rfl hyp (dcx dX10_sign_c1 4 rfl)
  · have hyp := hyp.2 q_
    refine r_aload_n (dcx dX10_sign_c0 23 rfl) 0 rfl ?_
    refine s_getr (b := 321) fX10_128 (dcx dX10_sign_c0 24 rfl) F284_54 ?_
    refine r_bipush (v := 100) (dcx dX10_sign_c0 25 rfl) rfl ?_
    refine r_iload (dcx dX10_sign_c0 26 rfl) 3 rfl ?_
    refine r_iadd (dcx dX10_sign_c0 27 rfl) ?_
    obtain ⟨hb_, hyp⟩ := hyp
    refine s_iald (dcx dX10_sign_c0 28 rfl) A321 hb_ ?_
    refine r_iload_n (dcx dX10_sign_c0 29 rfl) 1 rfl ?_
    refine r_ishr (dcx dX10_sign_c0 30 rfl) ?_
    refine r_iconst (v := 1) (dcx dX10_sign_c0 31 rfl) rfl ?_
    refine r_iand (dcx dX10_sign_c0 32 rfl) ?_
    refine r_iconst (v := 1) (dcx dX10_sign_c0 33 rfl) rfl ?_
    refine r_icmp_ne (tgt := 86) (dcx dX10_sign_c0 34 rfl) (by decide) (fun q_ => ?_) (fun q_ => ?_)
    · have hyp := hyp.1 q_
      refine r_iinc (lv1 := [(4, .int (x4 + 1)), (0, .ref 284), (1, .int x1), (3, .int x3)]) (dcx dX10_sign_c1 1 rfl) 3 rfl (Nat.le_of_ble_eq_true rfl) rfl ?_
      refine r_goto (tgt := 47) (dcx dX10_sign_c1 2 rfl) (by decide) ?_
      refine r_loc (lv1 := [(0, .ref 284), (1, .int x1), (3, .int x3), (4, .int (x4 + 1))]) [1, 2, 3, 0] rfl ?_
      exact hyp
    · have hyp := hyp.2 q_
      refine r_iload_n (dcx dX10_sign_c0 35 rfl) 2 rfl ?_
      refine r_iconst (v := 1) (dcx dX10_sign_c0 36 rfl) rfl ?_
      refine r_iload (dcx dX10_sign_c0 37 rfl) 3 rfl ?_
      refine r_ishl (dcx dX10_sign_c0 38 rfl) ?_
      refine r_ior (dcx dX10_sign_c0 39 rfl) ?_
      refine r_istore_n (lv1 := [(3, .int (x3 ||| (1 <<< (x4 &&& 31)))), (0, .ref 284), (1, .int x1), (4, .int x4)]) (dcx dX10_sign_c1 0 rfl) (Nat.le_of_ble_eq_true rfl) rfl ?_
      refine r_iinc (lv1 := [(4, .int (x4 + 1)), (3, .int (x3 ||| (1 <<< (x4 &&& 31)))), (0, .ref 284), (1, .int x1)]) (dcx dX10_sign_c1 1 rfl) 3 rfl (Nat.le_of_ble_eq_true rfl) rfl ?_
      refine r_goto (tgt := 47) (dcx dX10_sign_c1 2 rfl) (by decide) ?_
      refine r_loc (lv1 := [(0, .ref 284), (1, .int x1), (3, .int (x3 ||| (1 <<< (x4 &&& 31)))), (4, .int (x4 + 1))]) [2, 3, 1, 0] rfl ?_
      exact hyp
set_option maxHeartbeats 4000000 in
set_option maxRecDepth 20000 in
theorem tX10_window {Γ : GE} {l : Launch} {x1 : Int32} {x2 : Int32} {σ : SS} {K : Option Value → SS → Prop}  (hyp : C2 Γ l mX10_isWindow [.ref 284, .int x1] σ (Ri fun r2_ s1_ => ((¬ r2_ = 0 → ((x2 = 0 → (vp_in ((4 * (s1_.1 284 18)) + x1) 8 ∧ (K (some (.int (s1_.1 300 (Int32.toNatClampNeg ((4 * (s1_.1 284 18)) + x1))))) s1_))) ∧ (x2 = 1 → (vp_in ((4 * (s1_.1 284 18)) + x1) 8 ∧ (K (some (.int (s1_.1 301 (Int32.toNatClampNeg ((4 * (s1_.1 284 18)) + x1))))) s1_))) ∧ (x2 = 2 → (vp_in ((4 * (s1_.1 284 18)) + x1) 8 ∧ (K (some (.int (s1_.1 302 (Int32.toNatClampNeg ((4 * (s1_.1 284 18)) + x1))))) s1_))) ∧ (x2 = 3 → (vp_in (100 + x1) 106 ∧ (K (some (.int (s1_.1 321 (Int32.toNatClampNeg (100 + x1))))) s1_))) ∧ (x2 = 4 → (vp_in ((4 * (s1_.1 284 18)) + x1) 8 ∧ (K (some (.int (s1_.1 303 (Int32.toNatClampNeg ((4 * (s1_.1 284 18)) + x1))))) s1_))) ∧ (¬ x2 = 0 → ¬ x2 = 1 → ¬ x2 = 2 → ¬ x2 = 3 → ¬ x2 = 4 → (K (some (.int ((-1)))) s1_)))) ∧ (r2_ = 0 → (K (some (.int ((-1)))) s1_))))) : C2 Γ l mX10_window [.ref 284, .int x1, .int x2] σ K := by
  refine c2_of (lv := [(0, .ref 284), (1, .int x1), (2, .int x2)]) (by decide) (Nat.le_of_ble_eq_true rfl) rfl ?_
  refine r_aload_n (dcx dX10_window_c0 0 rfl) 0 rfl ?_
  refine r_iload_n (dcx dX10_window_c0 1 rfl) 1 rfl ?_
  refine s_callV (as := [.int x1]) (st := []) zX10_isWindow kX10_window_421 (dcx dX10_window_c0 2 rfl) rfl rfl (Nat.le_of_ble_eq_true rfl) O284 rfl rfl (C2.mono hyp ?_)
  rintro _ s1_ ⟨r2_, rfl, hyp⟩
  show G2 Γ l mX10_window 5 [(0, .ref 284), (1, .int x1), (2, .int x2)] [.int r2_] s1_ K
  refine r_if_ne (tgt := 10) (dcx dX10_window_c0 3 rfl) (by decide) (fun q_ => ?_) (fun q_ => ?_)
  · have hyp := hyp.1 q_
    refine r_iload_n (dcx dX10_window_c0 6 rfl) 2 rfl ?_
    by_cases q0_ : x2 = 0
    · have hyp := hyp.1 q0_
      refine r_tableIn (off := 33) (tgt := 44) (dcx dX10_window_c0 7 rfl) (by rw [q0_]; decide) (by rw [q0_]; decide) (by rw [q0_]; decide) (by decide) ?_
      refine r_aload_n (dcx dX10_window_c0 8 rfl) 0 rfl ?_
      refine s_getr (b := 300) fX10_65 (dcx dX10_window_c0 9 rfl) F284_29 ?_
      refine r_iconst (v := 4) (dcx dX10_window_c0 10 rfl) rfl ?_
      refine r_aload_n (dcx dX10_window_c0 11 rfl) 0 rfl ?_
      refine s_geti fX10_245 (dcx dX10_window_c0 12 rfl) F284_18 ?_
      refine r_imul (dcx dX10_window_c0 13 rfl) ?_
      refine r_iload_n (dcx dX10_window_c0 14 rfl) 1 rfl ?_
      refine r_iadd (dcx dX10_window_c0 15 rfl) ?_
      obtain ⟨hb_, hyp⟩ := hyp
      refine s_iald (dcx dX10_window_c0 16 rfl) A300 hb_ ?_
      exact s_ret rfl rfl rfl hyp (dcx dX10_window_c0 17 rfl)
    have hyp := hyp.2
    by_cases q1_ : x2 = 1
    · have hyp := hyp.1 q1_
      refine r_tableIn (off := 47) (tgt := 58) (dcx dX10_window_c0 7 rfl) (by rw [q1_]; decide) (by rw [q1_]; decide) (by rw [q1_]; decide) (by decide) ?_
      refine r_aload_n (dcx dX10_window_c0 18 rfl) 0 rfl ?_
      refine s_getr (b := 301) fX10_68 (dcx dX10_window_c0 19 rfl) F284_30 ?_
      refine r_iconst (v := 4) (dcx dX10_window_c0 20 rfl) rfl ?_
      refine r_aload_n (dcx dX10_window_c0 21 rfl) 0 rfl ?_
      refine s_geti fX10_245 (dcx dX10_window_c0 22 rfl) F284_18 ?_
      refine r_imul (dcx dX10_window_c0 23 rfl) ?_
      refine r_iload_n (dcx dX10_window_c0 24 rfl) 1 rfl ?_
      refine r_iadd (dcx dX10_window_c0 25 rfl) ?_
      obtain ⟨hb_, hyp⟩ := hyp
      refine s_iald (dcx dX10_window_c0 26 rfl) A301 hb_ ?_
      exact s_ret rfl rfl rfl hyp (dcx dX10_window_c0 27 rfl)
    have hyp := hyp.2
    by_cases q2_ : x2 = 2
    · have hyp := hyp.1 q2_
      refine r_tableIn (off := 61) (tgt := 72) (dcx dX10_window_c0 7 rfl) (by rw [q2_]; decide) (by rw [q2_]; decide) (by rw [q2_]; decide) (by decide) ?_
      refine r_aload_n (dcx dX10_window_c0 28 rfl) 0 rfl ?_
      refine s_getr (b := 302) fX10_71 (dcx dX10_window_c0 29 rfl) F284_31 ?_
      refine r_iconst (v := 4) (dcx dX10_window_c0 30 rfl) rfl ?_
      refine r_aload_n (dcx dX10_window_c0 31 rfl) 0 rfl ?_
      refine s_geti fX10_245 (dcx dX10_window_c0 32 rfl) F284_18 ?_
      refine r_imul (dcx dX10_window_c0 33 rfl) ?_
      refine r_iload_n (dcx dX10_window_c0 34 rfl) 1 rfl ?_
      refine r_iadd (dcx dX10_window_c0 35 rfl) ?_
      obtain ⟨hb_, hyp⟩ := hyp
      refine s_iald (dcx dX10_window_c0 36 rfl) A302 hb_ ?_
      exact s_ret rfl rfl rfl hyp (dcx dX10_window_c0 37 rfl)
    have hyp := hyp.2
    by_cases q3_ : x2 = 3
    · have hyp := hyp.1 q3_
      refine r_tableIn (off := 75) (tgt := 86) (dcx dX10_window_c0 7 rfl) (by rw [q3_]; decide) (by rw [q3_]; decide) (by rw [q3_]; decide) (by decide) ?_
      refine r_aload_n (dcx dX10_window_c0 38 rfl) 0 rfl ?_
      refine s_getr (b := 321) fX10_128 (dcx dX10_window_c0 39 rfl) F284_54 ?_
      refine r_bipush (v := 100) (dcx dX10_window_c1 0 rfl) rfl ?_
      refine r_iload_n (dcx dX10_window_c1 1 rfl) 1 rfl ?_
      refine r_iadd (dcx dX10_window_c1 2 rfl) ?_
      obtain ⟨hb_, hyp⟩ := hyp
      refine s_iald (dcx dX10_window_c1 3 rfl) A321 hb_ ?_
      exact s_ret rfl rfl rfl hyp (dcx dX10_window_c1 4 rfl)
    have hyp := hyp.2
    by_cases q4_ : x2 = 4
    · have hyp := hyp.1 q4_
      refine r_tableIn (off := 85) (tgt := 96) (dcx dX10_window_c0 7 rfl) (by rw [q4_]; decide) (by rw [q4_]; decide) (by rw [q4_]; decide) (by decide) ?_
      refine r_aload_n (dcx dX10_window_c1 5 rfl) 0 rfl ?_
      refine s_getr (b := 303) fX10_74 (dcx dX10_window_c1 6 rfl) F284_32 ?_
      refine r_iconst (v := 4) (dcx dX10_window_c1 7 rfl) rfl ?_
      refine r_aload_n (dcx dX10_window_c1 8 rfl) 0 rfl ?_
      refine s_geti fX10_245 (dcx dX10_window_c1 9 rfl) F284_18 ?_
      refine r_imul (dcx dX10_window_c1 10 rfl) ?_
      refine r_iload_n (dcx dX10_window_c1 11 rfl) 1 rfl ?_
      refine r_iadd (dcx dX10_window_c1 12 rfl) ?_
      obtain ⟨hb_, hyp⟩ := hyp
      refine s_iald (dcx dX10_window_c1 13 rfl) A303 hb_ ?_
      exact s_ret rfl rfl rfl hyp (dcx dX10_window_c1 14 rfl)
    have hyp := hyp.2
    have hyp := hyp q0_ q1_ q2_ q3_ q4_
    refine r_tableOut (tgt := 110) (dcx dX10_window_c0 7 rfl) (by have t0_ := lv_neT (a := 0) q0_ (by decide); have t1_ := lv_neT (a := 1) q1_ (by decide); have t2_ := lv_neT (a := 2) q2_ (by decide); have t3_ := lv_neT (a := 3) q3_ (by decide); have t4_ := lv_neT (a := 4) q4_ (by decide); omega) (by decide) ?_
    refine r_iconst (v := (-1)) (dcx dX10_window_c1 15 rfl) rfl ?_
    exact s_ret rfl rfl rfl hyp (dcx dX10_window_c1 16 rfl)
  · have hyp := hyp.2 q_
    refine r_iconst (v := (-1)) (dcx dX10_window_c0 4 rfl) rfl ?_
    exact s_ret rfl rfl rfl hyp (dcx dX10_window_c0 5 rfl)
set_option maxHeartbeats 4000000 in
set_option maxRecDepth 20000 in
theorem tX10_contrast {Γ : GE} {l : Launch} {x1 : Int32} {x2 : Int32} {x3 : Int32} {σ : SS} {K : Option Value → SS → Prop}  (hyp : C2 Γ l mX10_isSign [.ref 284, .int x1] σ (Ri fun r2_ s1_ => ((r2_ = 0 → (K (some (.int ((-2000)))) s1_)) ∧ (¬ (r2_ = 0) → (C2 Γ l mX10_isPlace [.ref 284, .int x2, .int x3] s1_ (Ri fun r4_ s3_ => ((¬ r4_ = 0 → (C2 Γ l mX10_copies [.ref 284] s3_ (Rv fun s5_ => (C2 Γ l mX10_standsOut [.ref 284, .int x1, .int x2, .int x3] s5_ (Ri fun r8_ s7_ => (K (some (.int r8_)) s7_)))))) ∧ (r4_ = 0 → (K (some (.int ((-2000)))) s3_))))))))) : C2 Γ l mX10_contrast [.ref 284, .int x1, .int x2, .int x3] σ K := by
  refine c2_of (lv := [(0, .ref 284), (1, .int x1), (2, .int x2), (3, .int x3)]) (by decide) (Nat.le_of_ble_eq_true rfl) rfl ?_
  refine r_aload_n (dcx dX10_contrast_c0 0 rfl) 0 rfl ?_
  refine r_iload_n (dcx dX10_contrast_c0 1 rfl) 1 rfl ?_
  refine s_callV (as := [.int x1]) (st := []) zX10_isSign kX10_contrast_418 (dcx dX10_contrast_c0 2 rfl) rfl rfl (Nat.le_of_ble_eq_true rfl) O284 rfl rfl (C2.mono hyp ?_)
  rintro _ s1_ ⟨r2_, rfl, hyp⟩
  show G2 Γ l mX10_contrast 5 [(0, .ref 284), (1, .int x1), (2, .int x2), (3, .int x3)] [.int r2_] s1_ K
  refine r_if_eq (tgt := 17) (dcx dX10_contrast_c0 3 rfl) (by decide) (fun q_ => ?_) (fun q_ => ?_)
  · have hyp := hyp.1 q_
    refine r_sipush (v := (-2000)) (dcx dX10_contrast_c0 9 rfl) rfl ?_
    exact s_ret rfl rfl rfl hyp (dcx dX10_contrast_c0 10 rfl)
  · have hyp := hyp.2 q_
    refine r_aload_n (dcx dX10_contrast_c0 4 rfl) 0 rfl ?_
    refine r_iload_n (dcx dX10_contrast_c0 5 rfl) 2 rfl ?_
    refine r_iload_n (dcx dX10_contrast_c0 6 rfl) 3 rfl ?_
    refine s_callV (as := [.int x2, .int x3]) (st := []) zX10_isPlace kX10_contrast_424 (dcx dX10_contrast_c0 7 rfl) rfl rfl (Nat.le_of_ble_eq_true rfl) O284 rfl rfl (C2.mono hyp ?_)
    rintro _ s3_ ⟨r4_, rfl, hyp⟩
    show G2 Γ l mX10_contrast 14 [(0, .ref 284), (1, .int x1), (2, .int x2), (3, .int x3)] [.int r4_] s3_ K
    refine r_if_ne (tgt := 21) (dcx dX10_contrast_c0 8 rfl) (by decide) (fun q_ => ?_) (fun q_ => ?_)
    · have hyp := hyp.1 q_
      refine r_aload_n (dcx dX10_contrast_c0 11 rfl) 0 rfl ?_
      refine s_callV (as := []) (st := []) zX10_copies kX10_contrast_415 (dcx dX10_contrast_c0 12 rfl) rfl rfl (Nat.le_of_ble_eq_true rfl) O284 rfl rfl (C2.mono hyp ?_)
      rintro _ s5_ ⟨rfl, hyp⟩
      show G2 Γ l mX10_contrast 25 [(0, .ref 284), (1, .int x1), (2, .int x2), (3, .int x3)] [] s5_ K
      refine r_aload_n (dcx dX10_contrast_c0 13 rfl) 0 rfl ?_
      refine r_iload_n (dcx dX10_contrast_c0 14 rfl) 1 rfl ?_
      refine r_iload_n (dcx dX10_contrast_c0 15 rfl) 2 rfl ?_
      refine r_iload_n (dcx dX10_contrast_c0 16 rfl) 3 rfl ?_
      refine s_callV (as := [.int x1, .int x2, .int x3]) (st := []) zX10_standsOut kX10_contrast_393 (dcx dX10_contrast_c0 17 rfl) rfl rfl (Nat.le_of_ble_eq_true rfl) O284 rfl rfl (C2.mono hyp ?_)
      rintro _ s7_ ⟨r8_, rfl, hyp⟩
      show G2 Γ l mX10_contrast 32 [(0, .ref 284), (1, .int x1), (2, .int x2), (3, .int x3)] [.int r8_] s7_ K
      exact s_ret rfl rfl rfl hyp (dcx dX10_contrast_c0 18 rfl)
    · have hyp := hyp.2 q_
      refine r_sipush (v := (-2000)) (dcx dX10_contrast_c0 9 rfl) rfl ?_
      exact s_ret rfl rfl rfl hyp (dcx dX10_contrast_c0 10 rfl)
def wX10_reads_33 (Γ : GE) (l : Launch) (x1 : Int32) (x2 : Int32) (x3 : Int32) (x4 : Int32) (x5 : Int32) (σ : SS) (K : Option Value → SS → Prop) : Prop := G2 Γ l mX10_reads 33 [(0, .ref 284), (1, .int x1), (2, .int x2), (3, .int x3), (4, .int x4), (5, .int x5)] [] σ K
def wX10_reads_52 (Γ : GE) (l : Launch) (x1 : Int32) (x2 : Int32) (x3 : Int32) (x4 : Int32) (x5 : Int32) (x6 : Int32) (σ : SS) (K : Option Value → SS → Prop) : Prop := G2 Γ l mX10_reads 52 [(0, .ref 284), (1, .int x1), (2, .int x2), (3, .int x3), (4, .int x4), (5, .int x5), (6, .int x6)] [] σ K
set_option maxHeartbeats 4000000 in
set_option maxRecDepth 20000 in
theorem tX10_reads {Γ : GE} {l : Launch} {x1 : Int32} {x2 : Int32} {x3 : Int32} {σ : SS} {K : Option Value → SS → Prop}  (hyp : C2 Γ l mX10_isWindow [.ref 284, .int x1] σ (Ri fun r2_ s1_ => ((r2_ = 0 → (K (some (.int ((-1)))) s1_)) ∧ (¬ (r2_ = 0) → (C2 Γ l mX10_isSign [.ref 284, .int x2] s1_ (Ri fun r4_ s3_ => ((r4_ = 0 → (K (some (.int ((-1)))) s3_)) ∧ (¬ (r4_ = 0) → ((((-1) : Int32) ≤ x3 → (C2 Γ l mX10_copies [.ref 284] s3_ (Rv fun s5_ => (wX10_reads_33 Γ l x1 x2 x3 0 0 s5_ K)))) ∧ (¬ (((-1) : Int32) ≤ x3) → (K (some (.int ((-1)))) s3_))))))))))) : C2 Γ l mX10_reads [.ref 284, .int x1, .int x2, .int x3] σ K := by
  refine c2_of (lv := [(0, .ref 284), (1, .int x1), (2, .int x2), (3, .int x3)]) (by decide) (Nat.le_of_ble_eq_true rfl) rfl ?_
  refine r_aload_n (dcx dX10_reads_c0 0 rfl) 0 rfl ?_
  refine r_iload_n (dcx dX10_reads_c0 1 rfl) 1 rfl ?_
  refine s_callV (as := [.int x1]) (st := []) zX10_isWindow kX10_reads_421 (dcx dX10_reads_c0 2 rfl) rfl rfl (Nat.le_of_ble_eq_true rfl) O284 rfl rfl (C2.mono hyp ?_)
  rintro _ s1_ ⟨r2_, rfl, hyp⟩
  show G2 Γ l mX10_reads 5 [(0, .ref 284), (1, .int x1), (2, .int x2), (3, .int x3)] [.int r2_] s1_ K
  refine r_if_eq (tgt := 21) (dcx dX10_reads_c0 3 rfl) (by decide) (fun q_ => ?_) (fun q_ => ?_)
  · have hyp := hyp.1 q_
    refine r_iconst (v := (-1)) (dcx dX10_reads_c0 11 rfl) rfl ?_
    exact s_ret rfl rfl rfl hyp (dcx dX10_reads_c0 12 rfl)
  · have hyp := hyp.2 q_
    refine r_aload_n (dcx dX10_reads_c0 4 rfl) 0 rfl ?_
    refine r_iload_n (dcx dX10_reads_c0 5 rfl) 2 rfl ?_
    refine s_callV (as := [.int x2]) (st := []) zX10_isSign kX10_reads_418 (dcx dX10_reads_c0 6 rfl) rfl rfl (Nat.le_of_ble_eq_true rfl) O284 rfl rfl (C2.mono hyp ?_)
    rintro _ s3_ ⟨r4_, rfl, hyp⟩
    show G2 Γ l mX10_reads 13 [(0, .ref 284), (1, .int x1), (2, .int x2), (3, .int x3)] [.int r4_] s3_ K
    refine r_if_eq (tgt := 21) (dcx dX10_reads_c0 7 rfl) (by decide) (fun q_ => ?_) (fun q_ => ?_)
    · have hyp := hyp.1 q_
      refine r_iconst (v := (-1)) (dcx dX10_reads_c0 11 rfl) rfl ?_
      exact s_ret rfl rfl rfl hyp (dcx dX10_reads_c0 12 rfl)
    · have hyp := hyp.2 q_
      refine r_iload_n (dcx dX10_reads_c0 8 rfl) 3 rfl ?_
      refine r_iconst (v := (-1)) (dcx dX10_reads_c0 9 rfl) rfl ?_
      refine r_icmp_ge (tgt := 23) (dcx dX10_reads_c0 10 rfl) (by decide) (fun q_ => ?_) (fun q_ => ?_)
      · have hyp := hyp.1 q_
        refine r_aload_n (dcx dX10_reads_c0 13 rfl) 0 rfl ?_
        refine s_callV (as := []) (st := []) zX10_copies kX10_reads_415 (dcx dX10_reads_c0 14 rfl) rfl rfl (Nat.le_of_ble_eq_true rfl) O284 rfl rfl (C2.mono hyp ?_)
        rintro _ s5_ ⟨rfl, hyp⟩
        show G2 Γ l mX10_reads 27 [(0, .ref 284), (1, .int x1), (2, .int x2), (3, .int x3)] [] s5_ K
        refine r_iconst (v := 0) (dcx dX10_reads_c0 15 rfl) rfl ?_
        refine r_istore (lv1 := [(4, .int 0), (0, .ref 284), (1, .int x1), (2, .int x2), (3, .int x3)]) (dcx dX10_reads_c0 16 rfl) (Nat.le_of_ble_eq_true rfl) rfl ?_
        refine r_iconst (v := 0) (dcx dX10_reads_c0 17 rfl) rfl ?_
        refine r_istore (lv1 := [(5, .int 0), (4, .int 0), (0, .ref 284), (1, .int x1), (2, .int x2), (3, .int x3)]) (dcx dX10_reads_c0 18 rfl) (Nat.le_of_ble_eq_true rfl) rfl ?_
        refine r_loc (lv1 := [(0, .ref 284), (1, .int x1), (2, .int x2), (3, .int x3), (4, .int 0), (5, .int 0)]) [2, 3, 4, 5, 1, 0] rfl ?_
        exact hyp
      · have hyp := hyp.2 q_
        refine r_iconst (v := (-1)) (dcx dX10_reads_c0 11 rfl) rfl ?_
        exact s_ret rfl rfl rfl hyp (dcx dX10_reads_c0 12 rfl)
set_option maxHeartbeats 4000000 in
set_option maxRecDepth 20000 in
theorem tX10_reads_33 {Γ : GE} {l : Launch} {x1 : Int32} {x2 : Int32} {x3 : Int32} {x4 : Int32} {x5 : Int32} {σ : SS} {K : Option Value → SS → Prop}  (hyp : vp_in (σ.1 284 18) 2 ∧ (((σ.1 295 (Int32.toNatClampNeg (σ.1 284 18))) ≤ (x5 + 2) → ((¬ x3 = ((-1)) → (K (some (.int ((-1)))) σ)) ∧ (x3 = ((-1)) → (K (some (.int x4)) σ)))) ∧ (¬ ((σ.1 295 (Int32.toNatClampNeg (σ.1 284 18))) ≤ (x5 + 2)) → (wX10_reads_52 Γ l x1 x2 x3 x4 x5 0 σ K)))) : wX10_reads_33 Γ l x1 x2 x3 x4 x5 σ K := by
  show G2 Γ l mX10_reads 33 [(0, .ref 284), (1, .int x1), (2, .int x2), (3, .int x3), (4, .int x4), (5, .int x5)] [] σ K
  refine r_iload (dcx dX10_reads_c0 19 rfl) 5 rfl ?_
  refine r_iconst (v := 2) (dcx dX10_reads_c0 20 rfl) rfl ?_
  refine r_iadd (dcx dX10_reads_c0 21 rfl) ?_
  refine r_aload_n (dcx dX10_reads_c0 22 rfl) 0 rfl ?_
  refine s_getr (b := 295) fX10_49 (dcx dX10_reads_c0 23 rfl) F284_24 ?_
  refine r_aload_n (dcx dX10_reads_c0 24 rfl) 0 rfl ?_
  refine s_geti fX10_245 (dcx dX10_reads_c0 25 rfl) F284_18 ?_
  obtain ⟨hb_, hyp⟩ := hyp
  refine s_iald (dcx dX10_reads_c0 26 rfl) A295 hb_ ?_
  refine r_icmp_ge (tgt := 114) (dcx dX10_reads_c0 27 rfl) (by decide) (fun q_ => ?_) (fun q_ => ?_)
  · have hyp := hyp.1 q_
    refine r_iload_n (dcx dX10_reads_c1 21 rfl) 3 rfl ?_
    refine r_iconst (v := (-1)) (dcx dX10_reads_c1 22 rfl) rfl ?_
    refine r_icmp_ne (tgt := 124) (dcx dX10_reads_c1 23 rfl) (by decide) (fun q_ => ?_) (fun q_ => ?_)
    · have hyp := hyp.1 q_
      refine r_iconst (v := (-1)) (dcx dX10_reads_c1 26 rfl) rfl ?_
      exact s_ret rfl rfl rfl hyp (dcx dX10_reads_c1 27 rfl)
    · have hyp := hyp.2 q_
      refine r_iload (dcx dX10_reads_c1 24 rfl) 4 rfl ?_
      refine r_goto (tgt := 125) (dcx dX10_reads_c1 25 rfl) (by decide) ?_
      exact s_ret rfl rfl rfl hyp (dcx dX10_reads_c1 27 rfl)
  · have hyp := hyp.2 q_
    refine r_iconst (v := 0) (dcx dX10_reads_c0 28 rfl) rfl ?_
    refine r_istore (lv1 := [(6, .int 0), (0, .ref 284), (1, .int x1), (2, .int x2), (3, .int x3), (4, .int x4), (5, .int x5)]) (dcx dX10_reads_c0 29 rfl) (Nat.le_of_ble_eq_true rfl) rfl ?_
    refine r_loc (lv1 := [(0, .ref 284), (1, .int x1), (2, .int x2), (3, .int x3), (4, .int x4), (5, .int x5), (6, .int 0)]) [1, 2, 3, 4, 5, 6, 0] rfl ?_
    exact hyp
set_option maxHeartbeats 4000000 in
set_option maxRecDepth 20000 in
theorem tX10_reads_52 {Γ : GE} {l : Launch} {x1 : Int32} {x2 : Int32} {x3 : Int32} {x4 : Int32} {x5 : Int32} {x6 : Int32} {σ : SS} {K : Option Value → SS → Prop}  (hyp : vp_in (σ.1 284 18) 2 ∧ (((σ.1 294 (Int32.toNatClampNeg (σ.1 284 18))) ≤ (x6 + 2) → (wX10_reads_33 Γ l x1 x2 x3 x4 (x5 + 1) σ K)) ∧ (¬ ((σ.1 294 (Int32.toNatClampNeg (σ.1 284 18))) ≤ (x6 + 2)) → (C2 Γ l mX10_doesRead [.ref 284, .int x1, .int x2, .int x6, .int x5] σ (Ri fun r2_ s1_ => ((¬ r2_ = 0 → ((¬ x4 = x3 → (wX10_reads_52 Γ l x1 x2 x3 (x4 + 1) x5 (x6 + 1) s1_ K)) ∧ (x4 = x3 → (K (some (.int ((10 * x5) + x6))) s1_)))) ∧ (r2_ = 0 → (wX10_reads_52 Γ l x1 x2 x3 x4 x5 (x6 + 1) s1_ K)))))))) : wX10_reads_52 Γ l x1 x2 x3 x4 x5 x6 σ K := by
  show G2 Γ l mX10_reads 52 [(0, .ref 284), (1, .int x1), (2, .int x2), (3, .int x3), (4, .int x4), (5, .int x5), (6, .int x6)] [] σ K
  refine r_iload (dcx dX10_reads_c0 30 rfl) 6 rfl ?_
  refine r_iconst (v := 2) (dcx dX10_reads_c0 31 rfl) rfl ?_
  refine r_iadd (dcx dX10_reads_c0 32 rfl) ?_
  refine r_aload_n (dcx dX10_reads_c0 33 rfl) 0 rfl ?_
  refine s_getr (b := 294) fX10_46 (dcx dX10_reads_c0 34 rfl) F284_23 ?_
  refine r_aload_n (dcx dX10_reads_c0 35 rfl) 0 rfl ?_
  refine s_geti fX10_245 (dcx dX10_reads_c0 36 rfl) F284_18 ?_
  obtain ⟨hb_, hyp⟩ := hyp
  refine s_iald (dcx dX10_reads_c0 37 rfl) A294 hb_ ?_
  refine r_icmp_ge (tgt := 108) (dcx dX10_reads_c0 38 rfl) (by decide) (fun q_ => ?_) (fun q_ => ?_)
  · have hyp := hyp.1 q_
    refine r_iinc (lv1 := [(5, .int (x5 + 1)), (0, .ref 284), (1, .int x1), (2, .int x2), (3, .int x3), (4, .int x4), (6, .int x6)]) (dcx dX10_reads_c1 19 rfl) 5 rfl (Nat.le_of_ble_eq_true rfl) rfl ?_
    refine r_goto (tgt := 33) (dcx dX10_reads_c1 20 rfl) (by decide) ?_
    refine r_loc (lv1 := [(0, .ref 284), (1, .int x1), (2, .int x2), (3, .int x3), (4, .int x4), (5, .int (x5 + 1))]) [1, 2, 3, 4, 5, 0] rfl ?_
    exact hyp
  · have hyp := hyp.2 q_
    refine r_aload_n (dcx dX10_reads_c0 39 rfl) 0 rfl ?_
    refine r_iload_n (dcx dX10_reads_c1 0 rfl) 1 rfl ?_
    refine r_iload_n (dcx dX10_reads_c1 1 rfl) 2 rfl ?_
    refine r_iload (dcx dX10_reads_c1 2 rfl) 6 rfl ?_
    refine r_iload (dcx dX10_reads_c1 3 rfl) 5 rfl ?_
    refine s_callV (as := [.int x1, .int x2, .int x6, .int x5]) (st := []) zX10_doesRead kX10_reads_396 (dcx dX10_reads_c1 4 rfl) rfl rfl (Nat.le_of_ble_eq_true rfl) O284 rfl rfl (C2.mono hyp ?_)
    rintro _ s1_ ⟨r2_, rfl, hyp⟩
    show G2 Γ l mX10_reads 78 [(0, .ref 284), (1, .int x1), (2, .int x2), (3, .int x3), (4, .int x4), (5, .int x5), (6, .int x6)] [.int r2_] s1_ K
    refine r_if_ne (tgt := 84) (dcx dX10_reads_c1 5 rfl) (by decide) (fun q_ => ?_) (fun q_ => ?_)
    · have hyp := hyp.1 q_
      refine r_iload (dcx dX10_reads_c1 7 rfl) 4 rfl ?_
      refine r_iload_n (dcx dX10_reads_c1 8 rfl) 3 rfl ?_
      refine r_icmp_ne (tgt := 99) (dcx dX10_reads_c1 9 rfl) (by decide) (fun q_ => ?_) (fun q_ => ?_)
      · have hyp := hyp.1 q_
        refine r_iinc (lv1 := [(4, .int (x4 + 1)), (0, .ref 284), (1, .int x1), (2, .int x2), (3, .int x3), (5, .int x5), (6, .int x6)]) (dcx dX10_reads_c1 16 rfl) 4 rfl (Nat.le_of_ble_eq_true rfl) rfl ?_
        refine r_iinc (lv1 := [(6, .int (x6 + 1)), (4, .int (x4 + 1)), (0, .ref 284), (1, .int x1), (2, .int x2), (3, .int x3), (5, .int x5)]) (dcx dX10_reads_c1 17 rfl) 6 rfl (Nat.le_of_ble_eq_true rfl) rfl ?_
        refine r_goto (tgt := 52) (dcx dX10_reads_c1 18 rfl) (by decide) ?_
        refine r_loc (lv1 := [(0, .ref 284), (1, .int x1), (2, .int x2), (3, .int x3), (4, .int (x4 + 1)), (5, .int x5), (6, .int (x6 + 1))]) [2, 3, 4, 5, 1, 6, 0] rfl ?_
        exact hyp
      · have hyp := hyp.2 q_
        refine r_bipush (v := 10) (dcx dX10_reads_c1 10 rfl) rfl ?_
        refine r_iload (dcx dX10_reads_c1 11 rfl) 5 rfl ?_
        refine r_imul (dcx dX10_reads_c1 12 rfl) ?_
        refine r_iload (dcx dX10_reads_c1 13 rfl) 6 rfl ?_
        refine r_iadd (dcx dX10_reads_c1 14 rfl) ?_
        exact s_ret rfl rfl rfl hyp (dcx dX10_reads_c1 15 rfl)
    · have hyp := hyp.2 q_
      refine r_goto (tgt := 102) (dcx dX10_reads_c1 6 rfl) (by decide) ?_
      refine r_iinc (lv1 := [(6, .int (x6 + 1)), (0, .ref 284), (1, .int x1), (2, .int x2), (3, .int x3), (4, .int x4), (5, .int x5)]) (dcx dX10_reads_c1 17 rfl) 6 rfl (Nat.le_of_ble_eq_true rfl) rfl ?_
      refine r_goto (tgt := 52) (dcx dX10_reads_c1 18 rfl) (by decide) ?_
      refine r_loc (lv1 := [(0, .ref 284), (1, .int x1), (2, .int x2), (3, .int x3), (4, .int x4), (5, .int x5), (6, .int (x6 + 1))]) [1, 2, 3, 4, 5, 6, 0] rfl ?_
      exact hyp
