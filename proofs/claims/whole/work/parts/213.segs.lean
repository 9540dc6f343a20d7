def wX10_comesOut_42 (Γ : GE) (l : Launch) (x1 : Int32) (x2 : Int32) (σ : SS) (K : Option Value → SS → Prop) : Prop := G2 Γ l mX10_comesOut 42 [(0, .ref 284), (1, .int x1), (2, .int x2)] [] σ K
def wX10_comesOut_0 (Γ : GE) (l : Launch) (x1 : Int32) (σ : SS) (K : Option Value → SS → Prop) : Prop := G2 Γ l mX10_comesOut 0 [(0, .ref 284), (1, .int x1)] [] σ K
set_option maxHeartbeats 4000000 in
set_option maxRecDepth 20000 in
theorem tX10_comesOut {Γ : GE} {l : Launch} {x1 : Int32} {σ : SS} {K : Option Value → SS → Prop}  (hyp : ((σ.1 284 50) ≤ 0 → (K none σ)) ∧ (¬ ((σ.1 284 50) ≤ 0) → (vp_in ((σ.1 284 50) - 1) 64 ∧ (((σ.1 318 (Int32.toNatClampNeg ((σ.1 284 50) - 1))) = 6 → (K none σ)) ∧ (¬ ((σ.1 318 (Int32.toNatClampNeg ((σ.1 284 50) - 1))) = 6) → ((x1 = 0 → (wX10_comesOut_42 Γ l x1 (σ.1 318 (Int32.toNatClampNeg ((σ.1 284 50) - 1))) σ K)) ∧ (¬ (x1 = 0) → (((σ.1 318 (Int32.toNatClampNeg ((σ.1 284 50) - 1))) = 8 → (K none σ)) ∧ (¬ ((σ.1 318 (Int32.toNatClampNeg ((σ.1 284 50) - 1))) = 8) → ((¬ (σ.1 318 (Int32.toNatClampNeg ((σ.1 284 50) - 1))) = 9 → (wX10_comesOut_42 Γ l x1 (σ.1 318 (Int32.toNatClampNeg ((σ.1 284 50) - 1))) σ K)) ∧ ((σ.1 318 (Int32.toNatClampNeg ((σ.1 284 50) - 1))) = 9 → (K none σ)))))))))))) : C2 Γ l mX10_comesOut [.ref 284, .int x1] σ K := by
  refine c2_of (lv := [(0, .ref 284), (1, .int x1)]) (by decide) (Nat.le_of_ble_eq_true rfl) rfl ?_
  refine r_aload_n (dcx dX10_comesOut_c0 0 rfl) 0 rfl ?_
  refine s_geti fX10_322 (dcx dX10_comesOut_c0 1 rfl) F284_50 ?_
  refine r_if_le (tgt := 91) (dcx dX10_comesOut_c0 2 rfl) (by decide) (fun q_ => ?_) (fun q_ => ?_)
  · have hyp := hyp.1 q_
    exact s_vret rfl hyp (dcx dX10_comesOut_c1 9 rfl)
  · have hyp := hyp.2 q_
    refine r_aload_n (dcx dX10_comesOut_c0 3 rfl) 0 rfl ?_
    refine s_getr (b := 318) fX10_119 (dcx dX10_comesOut_c0 4 rfl) F284_49 ?_
    refine r_aload_n (dcx dX10_comesOut_c0 5 rfl) 0 rfl ?_
    refine s_geti fX10_322 (dcx dX10_comesOut_c0 6 rfl) F284_50 ?_
    refine r_iconst (v := 1) (dcx dX10_comesOut_c0 7 rfl) rfl ?_
    refine r_isub (dcx dX10_comesOut_c0 8 rfl) ?_
    obtain ⟨hb_, hyp⟩ := hyp
    refine s_iald (dcx dX10_comesOut_c0 9 rfl) A318 hb_ ?_
    refine r_istore_n (lv1 := [(2, .int (σ.1 318 (Int32.toNatClampNeg ((σ.1 284 50) - 1)))), (0, .ref 284), (1, .int x1)]) (dcx dX10_comesOut_c0 10 rfl) (Nat.le_of_ble_eq_true rfl) rfl ?_
    refine r_iload_n (dcx dX10_comesOut_c0 11 rfl) 0 rfl ?_
    refine r_bipush (v := 6) (dcx dX10_comesOut_c0 12 rfl) rfl ?_
    refine r_icmp_eq (tgt := 41) (dcx dX10_comesOut_c0 13 rfl) (by decide) (fun q_ => ?_) (fun q_ => ?_)
    · have hyp := hyp.1 q_
      exact s_vret rfl hyp (dcx dX10_comesOut_c0 22 rfl)
    · have hyp := hyp.2 q_
      refine r_iload_n (dcx dX10_comesOut_c0 14 rfl) 2 rfl ?_
      refine r_if_eq (tgt := 42) (dcx dX10_comesOut_c0 15 rfl) (by decide) (fun q_ => ?_) (fun q_ => ?_)
      · have hyp := hyp.1 q_
        refine r_loc (lv1 := [(0, .ref 284), (1, .int x1), (2, .int (σ.1 318 (Int32.toNatClampNeg ((σ.1 284 50) - 1))))]) [1, 2, 0] rfl ?_
        exact hyp
      · have hyp := hyp.2 q_
        refine r_iload_n (dcx dX10_comesOut_c0 16 rfl) 0 rfl ?_
        refine r_bipush (v := 8) (dcx dX10_comesOut_c0 17 rfl) rfl ?_
        refine r_icmp_eq (tgt := 41) (dcx dX10_comesOut_c0 18 rfl) (by decide) (fun q_ => ?_) (fun q_ => ?_)
        · have hyp := hyp.1 q_
          exact s_vret rfl hyp (dcx dX10_comesOut_c0 22 rfl)
        · have hyp := hyp.2 q_
          refine r_iload_n (dcx dX10_comesOut_c0 19 rfl) 0 rfl ?_
          refine r_bipush (v := 9) (dcx dX10_comesOut_c0 20 rfl) rfl ?_
          refine r_icmp_ne (tgt := 42) (dcx dX10_comesOut_c0 21 rfl) (by decide) (fun q_ => ?_) (fun q_ => ?_)
          · have hyp := hyp.1 q_
            refine r_loc (lv1 := [(0, .ref 284), (1, .int x1), (2, .int (σ.1 318 (Int32.toNatClampNeg ((σ.1 284 50) - 1))))]) [1, 2, 0] rfl ?_
            exact hyp
          · have hyp := hyp.2 q_
            exact s_vret rfl hyp (dcx dX10_comesOut_c0 22 rfl)
set_option maxHeartbeats 4000000 in
set_option maxRecDepth 20000 in
theorem tX10_comesOut_42 {Γ : GE} {l : Launch} {x1 : Int32} {x2 : Int32} {σ : SS} {K : Option Value → SS → Prop}  (hyp : ∀ s1_ : SS, s1_ = sI σ 284 50 ((σ.1 284 50) - 1) → ((¬ x2 = 8 → ((¬ x2 = 9 → ((¬ x2 = 10 → (C2 Γ l mX10_emit [.ref 284, .int 5, .int 0] s1_ (Rv fun s2_ => (wX10_comesOut_0 Γ l x1 s2_ K)))) ∧ (x2 = 10 → (C2 Γ l mX10_emit [.ref 284, .int 4, .int 0] s1_ (Rv fun s4_ => (wX10_comesOut_0 Γ l x1 s4_ K)))))) ∧ (x2 = 9 → (C2 Γ l mX10_emit [.ref 284, .int 3, .int 0] s1_ (Rv fun s6_ => (wX10_comesOut_0 Γ l x1 s6_ K)))))) ∧ (x2 = 8 → (C2 Γ l mX10_emit [.ref 284, .int 2, .int 0] s1_ (Rv fun s8_ => (wX10_comesOut_0 Γ l x1 s8_ K)))))) : wX10_comesOut_42 Γ l x1 x2 σ K := by
  show G2 Γ l mX10_comesOut 42 [(0, .ref 284), (1, .int x1), (2, .int x2)] [] σ K
  refine r_aload_n (dcx dX10_comesOut_c0 23 rfl) 0 rfl ?_
  refine r_dup (dcx dX10_comesOut_c0 24 rfl) rfl ?_
  refine s_geti fX10_322 (dcx dX10_comesOut_c0 25 rfl) F284_50 ?_
  refine r_iconst (v := 1) (dcx dX10_comesOut_c0 26 rfl) rfl ?_
  refine r_isub (dcx dX10_comesOut_c0 27 rfl) ?_
  refine s_puti gX10_322 (dcx dX10_comesOut_c0 28 rfl) F284_50 ?_
  obtain ⟨s1_, es1_⟩ : ∃ z : SS, z = sI σ 284 50 ((σ.1 284 50) - 1) := ⟨_, rfl⟩
  rw [← es1_]
  have hyp := hyp s1_ es1_
  refine r_aload_n (dcx dX10_comesOut_c0 29 rfl) 0 rfl ?_
  refine r_iload_n (dcx dX10_comesOut_c0 30 rfl) 2 rfl ?_
  refine r_bipush (v := 8) (dcx dX10_comesOut_c0 31 rfl) rfl ?_
  refine r_icmp_ne (tgt := 63) (dcx dX10_comesOut_c0 32 rfl) (by decide) (fun q_ => ?_) (fun q_ => ?_)
  · have hyp := hyp.1 q_
    refine r_iload_n (dcx dX10_comesOut_c0 35 rfl) 2 rfl ?_
    refine r_bipush (v := 9) (dcx dX10_comesOut_c0 36 rfl) rfl ?_
    refine r_icmp_ne (tgt := 73) (dcx dX10_comesOut_c0 37 rfl) (by decide) (fun q_ => ?_) (fun q_ => ?_)
    · have hyp := hyp.1 q_
      refine r_iload_n (dcx dX10_comesOut_c1 0 rfl) 2 rfl ?_
      refine r_bipush (v := 10) (dcx dX10_comesOut_c1 1 rfl) rfl ?_
      refine r_icmp_ne (tgt := 83) (dcx dX10_comesOut_c1 2 rfl) (by decide) (fun q_ => ?_) (fun q_ => ?_)
      · have hyp := hyp.1 q_
        refine r_iconst (v := 5) (dcx dX10_comesOut_c1 5 rfl) rfl ?_
        refine r_iconst (v := 0) (dcx dX10_comesOut_c1 6 rfl) rfl ?_
        refine s_callV (as := [.int 5, .int 0]) (st := []) zX10_emit kX10_comesOut_325 (dcx dX10_comesOut_c1 7 rfl) rfl rfl (Nat.le_of_ble_eq_true rfl) O284 rfl rfl (C2.mono hyp ?_)
        rintro _ s2_ ⟨rfl, hyp⟩
        show G2 Γ l mX10_comesOut 88 [(0, .ref 284), (1, .int x1), (2, .int x2)] [] s2_ K
        refine r_goto (tgt := 0) (dcx dX10_comesOut_c1 8 rfl) (by decide) ?_
        refine r_loc (lv1 := [(0, .ref 284), (1, .int x1)]) [0, 1] rfl ?_
        exact hyp
      · have hyp := hyp.2 q_
        refine r_iconst (v := 4) (dcx dX10_comesOut_c1 3 rfl) rfl ?_
        refine r_goto (tgt := 84) (dcx dX10_comesOut_c1 4 rfl) (by decide) ?_
        refine r_iconst (v := 0) (dcx dX10_comesOut_c1 6 rfl) rfl ?_
        refine s_callV (as := [.int 4, .int 0]) (st := []) zX10_emit kX10_comesOut_325 (dcx dX10_comesOut_c1 7 rfl) rfl rfl (Nat.le_of_ble_eq_true rfl) O284 rfl rfl (C2.mono hyp ?_)
        rintro _ s4_ ⟨rfl, hyp⟩
        show G2 Γ l mX10_comesOut 88 [(0, .ref 284), (1, .int x1), (2, .int x2)] [] s4_ K
        refine r_goto (tgt := 0) (dcx dX10_comesOut_c1 8 rfl) (by decide) ?_
        refine r_loc (lv1 := [(0, .ref 284), (1, .int x1)]) [0, 1] rfl ?_
        exact hyp
    · have hyp := hyp.2 q_
      refine r_iconst (v := 3) (dcx dX10_comesOut_c0 38 rfl) rfl ?_
      refine r_goto (tgt := 84) (dcx dX10_comesOut_c0 39 rfl) (by decide) ?_
      refine r_iconst (v := 0) (dcx dX10_comesOut_c1 6 rfl) rfl ?_
      refine s_callV (as := [.int 3, .int 0]) (st := []) zX10_emit kX10_comesOut_325 (dcx dX10_comesOut_c1 7 rfl) rfl rfl (Nat.le_of_ble_eq_true rfl) O284 rfl rfl (C2.mono hyp ?_)
      rintro _ s6_ ⟨rfl, hyp⟩
      show G2 Γ l mX10_comesOut 88 [(0, .ref 284), (1, .int x1), (2, .int x2)] [] s6_ K
      refine r_goto (tgt := 0) (dcx dX10_comesOut_c1 8 rfl) (by decide) ?_
      refine r_loc (lv1 := [(0, .ref 284), (1, .int x1)]) [0, 1] rfl ?_
      exact hyp
  · have hyp := hyp.2 q_
    refine r_iconst (v := 2) (dcx dX10_comesOut_c0 33 rfl) rfl ?_
    refine r_goto (tgt := 84) (dcx dX10_comesOut_c0 34 rfl) (by decide) ?_
    refine r_iconst (v := 0) (dcx dX10_comesOut_c1 6 rfl) rfl ?_
    refine s_callV (as := [.int 2, .int 0]) (st := []) zX10_emit kX10_comesOut_325 (dcx dX10_comesOut_c1 7 rfl) rfl rfl (Nat.le_of_ble_eq_true rfl) O284 rfl rfl (C2.mono hyp ?_)
    rintro _ s8_ ⟨rfl, hyp⟩
    show G2 Γ l mX10_comesOut 88 [(0, .ref 284), (1, .int x1), (2, .int x2)] [] s8_ K
    refine r_goto (tgt := 0) (dcx dX10_comesOut_c1 8 rfl) (by decide) ?_
    refine r_loc (lv1 := [(0, .ref 284), (1, .int x1)]) [0, 1] rfl ?_
    exact hyp
set_option maxHeartbeats 4000000 in
set_option maxRecDepth 20000 in
theorem tX10_comesOut_0 {Γ : GE} {l : Launch} {x1 : Int32} {σ : SS} {K : Option Value → SS → Prop}  (hyp : ((σ.1 284 50) ≤ 0 → (K none σ)) ∧ (¬ ((σ.1 284 50) ≤ 0) → (vp_in ((σ.1 284 50) - 1) 64 ∧ (((σ.1 318 (Int32.toNatClampNeg ((σ.1 284 50) - 1))) = 6 → (K none σ)) ∧ (¬ ((σ.1 318 (Int32.toNatClampNeg ((σ.1 284 50) - 1))) = 6) → ((x1 = 0 → (wX10_comesOut_42 Γ l x1 (σ.1 318 (Int32.toNatClampNeg ((σ.1 284 50) - 1))) σ K)) ∧ (¬ (x1 = 0) → (((σ.1 318 (Int32.toNatClampNeg ((σ.1 284 50) - 1))) = 8 → (K none σ)) ∧ (¬ ((σ.1 318 (Int32.toNatClampNeg ((σ.1 284 50) - 1))) = 8) → ((¬ (σ.1 318 (Int32.toNatClampNeg ((σ.1 284 50) - 1))) = 9 → (wX10_comesOut_42 Γ l x1 (σ.1 318 (Int32.toNatClampNeg ((σ.1 284 50) - 1))) σ K)) ∧ ((σ.1 318 (Int32.toNatClampNeg ((σ.1 284 50) - 1))) = 9 → (K none σ)))))))))))) : wX10_comesOut_0 Γ l x1 σ K := by
  show G2 Γ l mX10_comesOut 0 [(0, .ref 284), (1, .int x1)] [] σ K
  refine r_aload_n (dcx dX10_comesOut_c0 0 rfl) 0 rfl ?_
  refine s_geti fX10_322 (dcx dX10_comesOut_c0 1 rfl) F284_50 ?_
  refine r_if_le (tgt := 91) (dcx dX10_comesOut_c0 2 rfl) (by decide) (fun q_ => ?_) (fun q_ => ?_)
  · have hyp := hyp.1 q_
    exact s_vret rfl hyp (dcx dX10_comesOut_c1 9 rfl)
  · have hyp := hyp.2 q_
    refine r_aload_n (dcx dX10_comesOut_c0 3 rfl) 0 rfl ?_
    refine s_getr (b := 318) fX10_119 (dcx dX10_comesOut_c0 4 rfl) F284_49 ?_
    refine r_aload_n (dcx dX10_comesOut_c0 5 rfl) 0 rfl ?_
    refine s_geti fX10_322 (dcx dX10_comesOut_c0 6 rfl) F284_50 ?_
    refine r_iconst (v := 1) (dcx dX10_comesOut_c0 7 rfl) rfl ?_
    refine r_isub (dcx dX10_comesOut_c0 8 rfl) ?_
    obtain ⟨hb_, hyp⟩ := hyp
    refine s_iald (dcx dX10_comesOut_c0 9 rfl) A318 hb_ ?_
    refine r_istore_n (lv1 := [(2, .int (σ.1 318 (Int32.toNatClampNeg ((σ.1 284 50) - 1)))), (0, .ref 284), (1, .int x1)]) (dcx dX10_comesOut_c0 10 rfl) (Nat.le_of_ble_eq_true rfl) rfl ?_
    refine r_iload_n (dcx dX10_comesOut_c0 11 rfl) 0 rfl ?_
    refine r_bipush (v := 6) (dcx dX10_comesOut_c0 12 rfl) rfl ?_
    refine r_icmp_eq (tgt := 41) (dcx dX10_comesOut_c0 13 rfl) (by decide) (fun q_ => ?_) (fun q_ => ?_)
    · have hyp := hyp.1 q_
      exact s_vret rfl hyp (dcx dX10_comesOut_c0 22 rfl)
    · have hyp := hyp.2 q_
      refine r_iload_n (dcx dX10_comesOut_c0 14 rfl) 2 rfl ?_
      refine r_if_eq (tgt := 42) (dcx dX10_comesOut_c0 15 rfl) (by decide) (fun q_ => ?_) (fun q_ => ?_)
      · have hyp := hyp.1 q_
        refine r_loc (lv1 := [(0, .ref 284), (1, .int x1), (2, .int (σ.1 318 (Int32.toNatClampNeg ((σ.1 284 50) - 1))))]) [1, 2, 0] rfl ?_
        exact hyp
      · have hyp := hyp.2 q_
        refine r_iload_n (dcx dX10_comesOut_c0 16 rfl) 0 rfl ?_
        refine r_bipush (v := 8) (dcx dX10_comesOut_c0 17 rfl) rfl ?_
        refine r_icmp_eq (tgt := 41) (dcx dX10_comesOut_c0 18 rfl) (by decide) (fun q_ => ?_) (fun q_ => ?_)
        · have hyp := hyp.1 q_
          exact s_vret rfl hyp (dcx dX10_comesOut_c0 22 rfl)
        · have hyp := hyp.2 q_
          refine r_iload_n (dcx dX10_comesOut_c0 19 rfl) 0 rfl ?_
          refine r_bipush (v := 9) (dcx dX10_comesOut_c0 20 rfl) rfl ?_
          refine r_icmp_ne (tgt := 42) (dcx dX10_comesOut_c0 21 rfl) (by decide) (fun q_ => ?_) (fun q_ => ?_)
          · have hyp := hyp.1 q_
            refine r_loc (lv1 := [(0, .ref 284), (1, .int x1), (2, .int (σ.1 318 (Int32.toNatClampNeg ((σ.1 284 50) - 1))))]) [1, 2, 0] rfl ?_
            exact hyp
          · have hyp := hyp.2 q_
            exact s_vret rfl hyp (dcx dX10_comesOut_c0 22 rfl)
def wX10_expression_12 (Γ : GE) (l : Launch) (x1 : Int32) (x2 : Int32) (σ : SS) (K : Option Value → SS → Prop) : Prop := G2 Γ l mX10_expression 12 [(0, .ref 284), (1, .int x1), (2, .int x2)] [] σ K
def wX10_expression_23 (Γ : GE) (l : Launch) (x1 : Int32) (σ : SS) (K : Option Value → SS → Prop) : Prop := G2 Γ l mX10_expression 23 [(0, .ref 284), (1, .int x1)] [] σ K
def wX10_expression_96 (Γ : GE) (l : Launch) (x1 : Int32) (σ : SS) (K : Option Value → SS → Prop) : Prop := G2 Γ l mX10_expression 96 [(0, .ref 284), (1, .int x1)] [] σ K
def wX10_expression_46 (Γ : GE) (l : Launch) (x1 : Int32) (σ : SS) (K : Option Value → SS → Prop) : Prop := G2 Γ l mX10_expression 46 [(0, .ref 284), (1, .int x1)] [] σ K
def wX10_expression_145 (Γ : GE) (l : Launch) (x1 : Int32) (σ : SS) (K : Option Value → SS → Prop) : Prop := G2 Γ l mX10_expression 145 [(0, .ref 284), (1, .int x1)] [] σ K
def wX10_expression_181 (Γ : GE) (l : Launch) (x1 : Int32) (σ : SS) (K : Option Value → SS → Prop) : Prop := G2 Γ l mX10_expression 181 [(0, .ref 284), (1, .int x1)] [] σ K
def wX10_expression_204 (Γ : GE) (l : Launch)  (σ : SS) (K : Option Value → SS → Prop) : Prop := G2 Γ l mX10_expression 204 [(0, .ref 284)] [] σ K
set_option maxHeartbeats 4000000 in
set_option maxRecDepth 20000 in
theorem tX10_expression {Γ : GE} {l : Launch}  {σ : SS} {K : Option Value → SS → Prop}  (hyp : ∀ s1_ : SS, s1_ = sI σ 284 50 0 → (wX10_expression_12 Γ l (s1_.1 284 12) 1 s1_ K)) : C2 Γ l mX10_expression [.ref 284] σ K := by
  refine c2_of (lv := [(0, .ref 284)]) (by decide) (Nat.le_of_ble_eq_true rfl) rfl ?_
  refine r_aload_n (dcx dX10_expression_c0 0 rfl) 0 rfl ?_
  refine r_iconst (v := 0) (dcx dX10_expression_c0 1 rfl) rfl ?_
  refine s_puti gX10_322 (dcx dX10_expression_c0 2 rfl) F284_50 ?_
  obtain ⟨s1_, es1_⟩ : ∃ z : SS, z = sI σ 284 50 0 := ⟨_, rfl⟩
  rw [← es1_]
  have hyp := hyp s1_ es1_
  refine r_aload_n (dcx dX10_expression_c0 3 rfl) 0 rfl ?_
  refine s_geti fX10_242 (dcx dX10_expression_c0 4 rfl) F284_12 ?_
  refine r_istore_n (lv1 := [(1, .int (s1_.1 284 12)), (0, .ref 284)]) (dcx dX10_expression_c0 5 rfl) (Nat.le_of_ble_eq_true rfl) rfl ?_
  refine r_iconst (v := 1) (dcx dX10_expression_c0 6 rfl) rfl ?_
  refine r_istore_n (lv1 := [(2, .int 1), (1, .int (s1_.1 284 12)), (0, .ref 284)]) (dcx dX10_expression_c0 7 rfl) (Nat.le_of_ble_eq_true rfl) rfl ?_
  refine r_loc (lv1 := [(0, .ref 284), (1, .int (s1_.1 284 12)), (2, .int 1)]) [2, 1, 0] rfl ?_
  exact hyp
set_option maxHeartbeats 4000000 in
set_option maxRecDepth 20000 in
theorem tX10_expression_12 {Γ : GE} {l : Launch} {x1 : Int32} {x2 : Int32} {σ : SS} {K : Option Value → SS → Prop}  (hyp : (x2 = 0 → (K none σ)) ∧ (¬ (x2 = 0) → ((¬ (σ.1 284 13) = 0 → (K none σ)) ∧ ((σ.1 284 13) = 0 → (wX10_expression_23 Γ l x1 σ K))))) : wX10_expression_12 Γ l x1 x2 σ K := by
  show G2 Γ l mX10_expression 12 [(0, .ref 284), (1, .int x1), (2, .int x2)] [] σ K
  refine r_iload_n (dcx dX10_expression_c0 8 rfl) 2 rfl ?_
  refine r_if_eq (tgt := 272) (dcx dX10_expression_c0 9 rfl) (by decide) (fun q_ => ?_) (fun q_ => ?_)
  · have hyp := hyp.1 q_
    exact s_vret rfl hyp (dcx dX10_expression_c3 22 rfl)
  · have hyp := hyp.2 q_
    refine r_aload_n (dcx dX10_expression_c0 10 rfl) 0 rfl ?_
    refine s_geti fX10_215 (dcx dX10_expression_c0 11 rfl) F284_13 ?_
    refine r_if_ne (tgt := 272) (dcx dX10_expression_c0 12 rfl) (by decide) (fun q_ => ?_) (fun q_ => ?_)
    · have hyp := hyp.1 q_
      exact s_vret rfl hyp (dcx dX10_expression_c3 22 rfl)
    · have hyp := hyp.2 q_
      refine r_loc (lv1 := [(0, .ref 284), (1, .int x1)]) [0, 1] rfl ?_
      exact hyp
set_option maxHeartbeats 4000000 in
set_option maxRecDepth 20000 in
theorem tX10_expression_23 {Γ : GE} {l : Launch} {x1 : Int32} {σ : SS} {K : Option Value → SS → Prop}  (hyp : C2 Γ l mX10_is [.ref 284, .int 6] σ (Ri fun r2_ s1_ => ((r2_ = 0 → (C2 Γ l mX10_unit [.ref 284] s1_ (Rv fun s3_ => (((s3_.1 284 13) ≤ 0 → (wX10_expression_96 Γ l x1 s3_ K)) ∧ (¬ ((s3_.1 284 13) ≤ 0) → (K none s3_)))))) ∧ (¬ (r2_ = 0) → ((¬ (s1_.1 284 12) = 6 → (wX10_expression_46 Γ l x1 s1_ K)) ∧ ((s1_.1 284 12) = 6 → (C2 Γ l mX10_fail [.ref 284, .int 2] s1_ (Rv fun s5_ => (wX10_expression_46 Γ l x1 s5_ K))))))))) : wX10_expression_23 Γ l x1 σ K := by
  show G2 Γ l mX10_expression 23 [(0, .ref 284), (1, .int x1)] [] σ K
  refine r_aload_n (dcx dX10_expression_c0 13 rfl) 0 rfl ?_
  refine r_bipush (v := 6) (dcx dX10_expression_c0 14 rfl) rfl ?_
  refine s_callV (as := [.int 6]) (st := []) zX10_is kX10_expression_233 (dcx dX10_expression_c0 15 rfl) rfl rfl (Nat.le_of_ble_eq_true rfl) O284 rfl rfl (C2.mono hyp ?_)
  rintro _ s1_ ⟨r2_, rfl, hyp⟩
  show G2 Γ l mX10_expression 29 [(0, .ref 284), (1, .int x1)] [.int r2_] s1_ K
  refine r_if_eq (tgt := 84) (dcx dX10_expression_c0 16 rfl) (by decide) (fun q_ => ?_) (fun q_ => ?_)
  · have hyp := hyp.1 q_
    refine r_aload_n (dcx dX10_expression_c1 5 rfl) 0 rfl ?_
    refine s_callV (as := []) (st := []) zX10_unit kX10_expression_328 (dcx dX10_expression_c1 6 rfl) rfl rfl (Nat.le_of_ble_eq_true rfl) O284 rfl rfl (C2.mono hyp ?_)
    rintro _ s3_ ⟨rfl, hyp⟩
    show G2 Γ l mX10_expression 88 [(0, .ref 284), (1, .int x1)] [] s3_ K
    refine r_aload_n (dcx dX10_expression_c1 7 rfl) 0 rfl ?_
    refine s_geti fX10_215 (dcx dX10_expression_c1 8 rfl) F284_13 ?_
    refine r_if_le (tgt := 96) (dcx dX10_expression_c1 9 rfl) (by decide) (fun q_ => ?_) (fun q_ => ?_)
    · have hyp := hyp.1 q_
      refine r_loc (lv1 := [(0, .ref 284), (1, .int x1)]) [0, 1] rfl ?_
      exact hyp
    · have hyp := hyp.2 q_
      exact s_vret rfl hyp (dcx dX10_expression_c1 10 rfl)
  · have hyp := hyp.2 q_
    refine r_aload_n (dcx dX10_expression_c0 17 rfl) 0 rfl ?_
    refine s_geti fX10_242 (dcx dX10_expression_c0 18 rfl) F284_12 ?_
    refine r_bipush (v := 6) (dcx dX10_expression_c0 19 rfl) rfl ?_
    refine r_icmp_ne (tgt := 46) (dcx dX10_expression_c0 20 rfl) (by decide) (fun q_ => ?_) (fun q_ => ?_)
    · have hyp := hyp.1 q_
      refine r_loc (lv1 := [(0, .ref 284), (1, .int x1)]) [0, 1] rfl ?_
      exact hyp
    · have hyp := hyp.2 q_
      refine r_aload_n (dcx dX10_expression_c0 21 rfl) 0 rfl ?_
      refine r_iconst (v := 2) (dcx dX10_expression_c0 22 rfl) rfl ?_
      refine s_callV (as := [.int 2]) (st := []) zX10_fail kX10_expression_230 (dcx dX10_expression_c0 23 rfl) rfl rfl (Nat.le_of_ble_eq_true rfl) O284 rfl rfl (C2.mono hyp ?_)
      rintro _ s5_ ⟨rfl, hyp⟩
      show G2 Γ l mX10_expression 46 [(0, .ref 284), (1, .int x1)] [] s5_ K
      refine r_loc (lv1 := [(0, .ref 284), (1, .int x1)]) [0, 1] rfl ?_
      exact hyp
set_option maxHeartbeats 4000000 in
set_option maxRecDepth 20000 in
theorem tX10_expression_96 {Γ : GE} {l : Launch} {x1 : Int32} {σ : SS} {K : Option Value → SS → Prop}  (hyp : C2 Γ l mX10_is [.ref 284, .int 7] σ (Ri fun r2_ s1_ => ((r2_ = 0 → (wX10_expression_145 Γ l x1 s1_ K)) ∧ (¬ (r2_ = 0) → (((s1_.1 284 12) ≤ x1 → (wX10_expression_145 Γ l x1 s1_ K)) ∧ (¬ ((s1_.1 284 12) ≤ x1) → (C2 Γ l mX10_comesOut [.ref 284, .int 0] s1_ (Rv fun s3_ => (∀ s5_ : SS, s5_ = sI s3_ 284 50 ((s3_.1 284 50) - 1) → (∀ s6_ : SS, s6_ = sI s5_ 284 12 ((s5_.1 284 12) - 1) → (C2 Γ l mX10_goesOn [.ref 284] s6_ (Rv fun s7_ => (wX10_expression_96 Γ l x1 s7_ K))))))))))))) : wX10_expression_96 Γ l x1 σ K := by
  show G2 Γ l mX10_expression 96 [(0, .ref 284), (1, .int x1)] [] σ K
  refine r_aload_n (dcx dX10_expression_c1 11 rfl) 0 rfl ?_
  refine r_bipush (v := 7) (dcx dX10_expression_c1 12 rfl) rfl ?_
  refine s_callV (as := [.int 7]) (st := []) zX10_is kX10_expression_233 (dcx dX10_expression_c1 13 rfl) rfl rfl (Nat.le_of_ble_eq_true rfl) O284 rfl rfl (C2.mono hyp ?_)
  rintro _ s1_ ⟨r2_, rfl, hyp⟩
  show G2 Γ l mX10_expression 102 [(0, .ref 284), (1, .int x1)] [.int r2_] s1_ K
  refine r_if_eq (tgt := 145) (dcx dX10_expression_c1 14 rfl) (by decide) (fun q_ => ?_) (fun q_ => ?_)
  · have hyp := hyp.1 q_
    refine r_loc (lv1 := [(0, .ref 284), (1, .int x1)]) [0, 1] rfl ?_
    exact hyp
  · have hyp := hyp.2 q_
    refine r_aload_n (dcx dX10_expression_c1 15 rfl) 0 rfl ?_
    refine s_geti fX10_242 (dcx dX10_expression_c1 16 rfl) F284_12 ?_
    refine r_iload_n (dcx dX10_expression_c1 17 rfl) 1 rfl ?_
    refine r_icmp_le (tgt := 145) (dcx dX10_expression_c1 18 rfl) (by decide) (fun q_ => ?_) (fun q_ => ?_)
    · have hyp := hyp.1 q_
      refine r_loc (lv1 := [(0, .ref 284), (1, .int x1)]) [0, 1] rfl ?_
      exact hyp
    · have hyp := hyp.2 q_
      refine r_aload_n (dcx dX10_expression_c1 19 rfl) 0 rfl ?_
      refine r_iconst (v := 0) (dcx dX10_expression_c1 20 rfl) rfl ?_
      refine s_callV (as := [.int 0]) (st := []) zX10_comesOut kX10_expression_331 (dcx dX10_expression_c1 21 rfl) rfl rfl (Nat.le_of_ble_eq_true rfl) O284 rfl rfl (C2.mono hyp ?_)
      rintro _ s3_ ⟨rfl, hyp⟩
      show G2 Γ l mX10_expression 118 [(0, .ref 284), (1, .int x1)] [] s3_ K
      refine r_aload_n (dcx dX10_expression_c1 22 rfl) 0 rfl ?_
      refine r_dup (dcx dX10_expression_c1 23 rfl) rfl ?_
      refine s_geti fX10_322 (dcx dX10_expression_c1 24 rfl) F284_50 ?_
      refine r_iconst (v := 1) (dcx dX10_expression_c1 25 rfl) rfl ?_
      refine r_isub (dcx dX10_expression_c1 26 rfl) ?_
      refine s_puti gX10_322 (dcx dX10_expression_c1 27 rfl) F284_50 ?_
      obtain ⟨s5_, es5_⟩ : ∃ z : SS, z = sI s3_ 284 50 ((s3_.1 284 50) - 1) := ⟨_, rfl⟩
      rw [← es5_]
      have hyp := hyp s5_ es5_
      refine r_aload_n (dcx dX10_expression_c1 28 rfl) 0 rfl ?_
      refine r_dup (dcx dX10_expression_c1 29 rfl) rfl ?_
      refine s_geti fX10_242 (dcx dX10_expression_c1 30 rfl) F284_12 ?_
      refine r_iconst (v := 1) (dcx dX10_expression_c1 31 rfl) rfl ?_
      refine r_isub (dcx dX10_expression_c1 32 rfl) ?_
      refine s_puti gX10_242 (dcx dX10_expression_c1 33 rfl) F284_12 ?_
      obtain ⟨s6_, es6_⟩ : ∃ z : SS, z = sI s5_ 284 12 ((s5_.1 284 12) - 1) := ⟨_, rfl⟩
      rw [← es6_]
      have hyp := hyp s6_ es6_
      refine r_aload_n (dcx dX10_expression_c1 34 rfl) 0 rfl ?_
      refine s_callV (as := []) (st := []) zX10_goesOn kX10_expression_236 (dcx dX10_expression_c1 35 rfl) rfl rfl (Nat.le_of_ble_eq_true rfl) O284 rfl rfl (C2.mono hyp ?_)
      rintro _ s7_ ⟨rfl, hyp⟩
      show G2 Γ l mX10_expression 142 [(0, .ref 284), (1, .int x1)] [] s7_ K
      refine r_goto (tgt := 96) (dcx dX10_expression_c1 36 rfl) (by decide) ?_
      refine r_loc (lv1 := [(0, .ref 284), (1, .int x1)]) [0, 1] rfl ?_
      exact hyp
set_option maxHeartbeats 4000000 in
set_option maxRecDepth 20000 in
theorem tX10_expression_46 {Γ : GE} {l : Launch} {x1 : Int32} {σ : SS} {K : Option Value → SS → Prop}  (hyp : ∀ s1_ : SS, s1_ = sI σ 284 12 ((σ.1 284 12) + 1) → (C2 Γ l mX10_goesOn [.ref 284] s1_ (Rv fun s2_ => (vp_in (s2_.1 284 50) 64 ∧ (∀ s4_ : SS, s4_ = sI s2_ 318 (Int32.toNatClampNeg (s2_.1 284 50)) 6 → (∀ s5_ : SS, s5_ = sI s4_ 284 50 ((s4_.1 284 50) + 1) → (wX10_expression_23 Γ l x1 s5_ K))))))) : wX10_expression_46 Γ l x1 σ K := by
  show G2 Γ l mX10_expression 46 [(0, .ref 284), (1, .int x1)] [] σ K
  refine r_aload_n (dcx dX10_expression_c0 24 rfl) 0 rfl ?_
  refine r_dup (dcx dX10_expression_c0 25 rfl) rfl ?_
  refine s_geti fX10_242 (dcx dX10_expression_c0 26 rfl) F284_12 ?_
  refine r_iconst (v := 1) (dcx dX10_expression_c0 27 rfl) rfl ?_
  refine r_iadd (dcx dX10_expression_c0 28 rfl) ?_
  refine s_puti gX10_242 (dcx dX10_expression_c0 29 rfl) F284_12 ?_
  obtain ⟨s1_, es1_⟩ : ∃ z : SS, z = sI σ 284 12 ((σ.1 284 12) + 1) := ⟨_, rfl⟩
  rw [← es1_]
  have hyp := hyp s1_ es1_
  refine r_aload_n (dcx dX10_expression_c0 30 rfl) 0 rfl ?_
  refine s_callV (as := []) (st := []) zX10_goesOn kX10_expression_236 (dcx dX10_expression_c0 31 rfl) rfl rfl (Nat.le_of_ble_eq_true rfl) O284 rfl rfl (C2.mono hyp ?_)
  rintro _ s2_ ⟨rfl, hyp⟩
  show G2 Γ l mX10_expression 60 [(0, .ref 284), (1, .int x1)] [] s2_ K
  refine r_aload_n (dcx dX10_expression_c0 32 rfl) 0 rfl ?_
  refine s_getr (b := 318) fX10_119 (dcx dX10_expression_c0 33 rfl) F284_49 ?_
  refine r_aload_n (dcx dX10_expression_c0 34 rfl) 0 rfl ?_
  refine s_geti fX10_322 (dcx dX10_expression_c0 35 rfl) F284_50 ?_
  refine r_bipush (v := 6) (dcx dX10_expression_c0 36 rfl) rfl ?_
  obtain ⟨hb_, hyp⟩ := hyp
  refine s_iast (dcx dX10_expression_c0 37 rfl) A318 hb_ ?_
  obtain ⟨s4_, es4_⟩ : ∃ z : SS, z = sI s2_ 318 (Int32.toNatClampNeg (s2_.1 284 50)) 6 := ⟨_, rfl⟩
  rw [← es4_]
  have hyp := hyp s4_ es4_
  refine r_aload_n (dcx dX10_expression_c0 38 rfl) 0 rfl ?_
  refine r_dup (dcx dX10_expression_c0 39 rfl) rfl ?_
  refine s_geti fX10_322 (dcx dX10_expression_c1 0 rfl) F284_50 ?_
  refine r_iconst (v := 1) (dcx dX10_expression_c1 1 rfl) rfl ?_
  refine r_iadd (dcx dX10_expression_c1 2 rfl) ?_
  refine s_puti gX10_322 (dcx dX10_expression_c1 3 rfl) F284_50 ?_
  obtain ⟨s5_, es5_⟩ : ∃ z : SS, z = sI s4_ 284 50 ((s4_.1 284 50) + 1) := ⟨_, rfl⟩
  rw [← es5_]
  have hyp := hyp s5_ es5_
  refine r_goto (tgt := 23) (dcx dX10_expression_c1 4 rfl) (by decide) ?_
  refine r_loc (lv1 := [(0, .ref 284), (1, .int x1)]) [0, 1] rfl ?_
  exact hyp
set_option maxHeartbeats 4000000 in
set_option maxRecDepth 20000 in
theorem tX10_expression_145 {Γ : GE} {l : Launch} {x1 : Int32} {σ : SS} {K : Option Value → SS → Prop}  (hyp : C2 Γ l mX10_is [.ref 284, .int 8] σ (Ri fun r2_ s1_ => ((¬ r2_ = 0 → (wX10_expression_181 Γ l x1 s1_ K)) ∧ (r2_ = 0 → (C2 Γ l mX10_is [.ref 284, .int 9] s1_ (Ri fun r4_ s3_ => ((¬ r4_ = 0 → (wX10_expression_181 Γ l x1 s3_ K)) ∧ (r4_ = 0 → (C2 Γ l mX10_is [.ref 284, .int 10] s3_ (Ri fun r6_ s5_ => ((¬ r6_ = 0 → (wX10_expression_181 Γ l x1 s5_ K)) ∧ (r6_ = 0 → (C2 Γ l mX10_is [.ref 284, .int 15] s5_ (Ri fun r8_ s7_ => ((r8_ = 0 → (((s7_.1 284 12) ≤ x1 → (wX10_expression_204 Γ l  s7_ K)) ∧ (¬ ((s7_.1 284 12) ≤ x1) → (C2 Γ l mX10_fail [.ref 284, .int 1] s7_ (Rv fun s9_ => (wX10_expression_204 Γ l  s9_ K)))))) ∧ (¬ (r8_ = 0) → (wX10_expression_181 Γ l x1 s7_ K))))))))))))))))) : wX10_expression_145 Γ l x1 σ K := by
  show G2 Γ l mX10_expression 145 [(0, .ref 284), (1, .int x1)] [] σ K
  refine r_aload_n (dcx dX10_expression_c1 37 rfl) 0 rfl ?_
  refine r_bipush (v := 8) (dcx dX10_expression_c1 38 rfl) rfl ?_
  refine s_callV (as := [.int 8]) (st := []) zX10_is kX10_expression_233 (dcx dX10_expression_c1 39 rfl) rfl rfl (Nat.le_of_ble_eq_true rfl) O284 rfl rfl (C2.mono hyp ?_)
  rintro _ s1_ ⟨r2_, rfl, hyp⟩
  show G2 Γ l mX10_expression 151 [(0, .ref 284), (1, .int x1)] [.int r2_] s1_ K
  refine r_if_ne (tgt := 181) (dcx dX10_expression_c2 0 rfl) (by decide) (fun q_ => ?_) (fun q_ => ?_)
  · have hyp := hyp.1 q_
    refine r_loc (lv1 := [(0, .ref 284), (1, .int x1)]) [0, 1] rfl ?_
    exact hyp
  · have hyp := hyp.2 q_
    refine r_aload_n (dcx dX10_expression_c2 1 rfl) 0 rfl ?_
    refine r_bipush (v := 9) (dcx dX10_expression_c2 2 rfl) rfl ?_
    refine s_callV (as := [.int 9]) (st := []) zX10_is kX10_expression_233 (dcx dX10_expression_c2 3 rfl) rfl rfl (Nat.le_of_ble_eq_true rfl) O284 rfl rfl (C2.mono hyp ?_)
    rintro _ s3_ ⟨r4_, rfl, hyp⟩
    show G2 Γ l mX10_expression 160 [(0, .ref 284), (1, .int x1)] [.int r4_] s3_ K
    refine r_if_ne (tgt := 181) (dcx dX10_expression_c2 4 rfl) (by decide) (fun q_ => ?_) (fun q_ => ?_)
    · have hyp := hyp.1 q_
      refine r_loc (lv1 := [(0, .ref 284), (1, .int x1)]) [0, 1] rfl ?_
      exact hyp
    · have hyp := hyp.2 q_
      refine r_aload_n (dcx dX10_expression_c2 5 rfl) 0 rfl ?_
      refine r_bipush (v := 10) (dcx dX10_expression_c2 6 rfl) rfl ?_
      refine s_callV (as := [.int 10]) (st := []) zX10_is kX10_expression_233 (dcx dX10_expression_c2 7 rfl) rfl rfl (Nat.le_of_ble_eq_true rfl) O284 rfl rfl (C2.mono hyp ?_)
      rintro _ s5_ ⟨r6_, rfl, hyp⟩
      show G2 Γ l mX10_expression 169 [(0, .ref 284), (1, .int x1)] [.int r6_] s5_ K
      refine r_if_ne (tgt := 181) (dcx dX10_expression_c2 8 rfl) (by decide) (fun q_ => ?_) (fun q_ => ?_)
      · have hyp := hyp.1 q_
        refine r_loc (lv1 := [(0, .ref 284), (1, .int x1)]) [0, 1] rfl ?_
        exact hyp
      · have hyp := hyp.2 q_
        refine r_aload_n (dcx dX10_expression_c2 9 rfl) 0 rfl ?_
        refine r_bipush (v := 15) (dcx dX10_expression_c2 10 rfl) rfl ?_
        refine s_callV (as := [.int 15]) (st := []) zX10_is kX10_expression_233 (dcx dX10_expression_c2 11 rfl) rfl rfl (Nat.le_of_ble_eq_true rfl) O284 rfl rfl (C2.mono hyp ?_)
        rintro _ s7_ ⟨r8_, rfl, hyp⟩
        show G2 Γ l mX10_expression 178 [(0, .ref 284), (1, .int x1)] [.int r8_] s7_ K
        refine r_if_eq (tgt := 185) (dcx dX10_expression_c2 12 rfl) (by decide) (fun q_ => ?_) (fun q_ => ?_)
        · have hyp := hyp.1 q_
          refine r_iconst (v := 0) (dcx dX10_expression_c2 15 rfl) rfl ?_
          refine r_istore_n (lv1 := [(2, .int 0), (0, .ref 284), (1, .int x1)]) (dcx dX10_expression_c2 16 rfl) (Nat.le_of_ble_eq_true rfl) rfl ?_
          refine r_iload_n (dcx dX10_expression_c2 17 rfl) 0 rfl ?_
          refine r_if_ne (tgt := 210) (dcx dX10_expression_c2 18 rfl) (by decide) (fun q_ => absurd q_ (by decide)) (fun _ => ?_)
          refine r_aload_n (dcx dX10_expression_c2 19 rfl) 1 rfl ?_
          refine s_geti fX10_242 (dcx dX10_expression_c2 20 rfl) F284_12 ?_
          refine r_iload_n (dcx dX10_expression_c2 21 rfl) 2 rfl ?_
          refine r_icmp_le (tgt := 204) (dcx dX10_expression_c2 22 rfl) (by decide) (fun q_ => ?_) (fun q_ => ?_)
          · have hyp := hyp.1 q_
            refine r_loc (lv1 := [(0, .ref 284)]) [1] rfl ?_
            exact hyp
          · have hyp := hyp.2 q_
            refine r_aload_n (dcx dX10_expression_c2 23 rfl) 1 rfl ?_
            refine r_iconst (v := 1) (dcx dX10_expression_c2 24 rfl) rfl ?_
            refine s_callV (as := [.int 1]) (st := []) zX10_fail kX10_expression_230 (dcx dX10_expression_c2 25 rfl) rfl rfl (Nat.le_of_ble_eq_true rfl) O284 rfl rfl (C2.mono hyp ?_)
            rintro _ s9_ ⟨rfl, hyp⟩
            show G2 Γ l mX10_expression 204 [(2, .int 0), (0, .ref 284), (1, .int x1)] [] s9_ K
            refine r_loc (lv1 := [(0, .ref 284)]) [1] rfl ?_
            exact hyp
        · have hyp := hyp.2 q_
          refine r_loc (lv1 := [(0, .ref 284), (1, .int x1)]) [0, 1] rfl ?_
          exact hyp
set_option maxHeartbeats 4000000 in
set_option maxRecDepth 20000 in
theorem tX10_expression_181 {Γ : GE} {l : Launch} {x1 : Int32} {σ : SS} {K : Option Value → SS → Prop}  (hyp : C2 Γ l mX10_is [.ref 284, .int 10] σ (Ri fun r2_ s1_ => ((¬ r2_ = 0 → (C2 Γ l mX10_comesOut [.ref 284, .int 1] s1_ (Rv fun s3_ => (vp_in (s3_.1 284 11) 403 ∧ (vp_in (s3_.1 284 50) 64 ∧ (∀ s5_ : SS, s5_ = sI s3_ 318 (Int32.toNatClampNeg (s3_.1 284 50)) (s3_.1 287 (Int32.toNatClampNeg (s3_.1 284 11))) → (∀ s6_ : SS, s6_ = sI s5_ 284 50 ((s5_.1 284 50) + 1) → (C2 Γ l mX10_goesOn [.ref 284] s6_ (Rv fun s7_ => (wX10_expression_12 Γ l x1 1 s7_ K)))))))))) ∧ (r2_ = 0 → (C2 Γ l mX10_is [.ref 284, .int 15] s1_ (Ri fun r10_ s9_ => ((r10_ = 0 → (C2 Γ l mX10_comesOut [.ref 284, .int 0] s9_ (Rv fun s11_ => (vp_in (s11_.1 284 11) 403 ∧ (vp_in (s11_.1 284 50) 64 ∧ (∀ s13_ : SS, s13_ = sI s11_ 318 (Int32.toNatClampNeg (s11_.1 284 50)) (s11_.1 287 (Int32.toNatClampNeg (s11_.1 284 11))) → (∀ s14_ : SS, s14_ = sI s13_ 284 50 ((s13_.1 284 50) + 1) → (C2 Γ l mX10_goesOn [.ref 284] s14_ (Rv fun s15_ => (wX10_expression_12 Γ l x1 1 s15_ K)))))))))) ∧ (¬ (r10_ = 0) → (C2 Γ l mX10_comesOut [.ref 284, .int 1] s9_ (Rv fun s17_ => (vp_in (s17_.1 284 11) 403 ∧ (vp_in (s17_.1 284 50) 64 ∧ (∀ s19_ : SS, s19_ = sI s17_ 318 (Int32.toNatClampNeg (s17_.1 284 50)) (s17_.1 287 (Int32.toNatClampNeg (s17_.1 284 11))) → (∀ s20_ : SS, s20_ = sI s19_ 284 50 ((s19_.1 284 50) + 1) → (C2 Γ l mX10_goesOn [.ref 284] s20_ (Rv fun s21_ => (wX10_expression_12 Γ l x1 1 s21_ K))))))))))))))))) : wX10_expression_181 Γ l x1 σ K := by
  show G2 Γ l mX10_expression 181 [(0, .ref 284), (1, .int x1)] [] σ K
  refine r_iconst (v := 1) (dcx dX10_expression_c2 13 rfl) rfl ?_
  refine r_goto (tgt := 186) (dcx dX10_expression_c2 14 rfl) (by decide) ?_
  refine r_istore_n (lv1 := [(2, .int 1), (0, .ref 284), (1, .int x1)]) (dcx dX10_expression_c2 16 rfl) (Nat.le_of_ble_eq_true rfl) rfl ?_
  refine r_iload_n (dcx dX10_expression_c2 17 rfl) 0 rfl ?_
  refine r_if_ne (tgt := 210) (dcx dX10_expression_c2 18 rfl) (by decide) (fun _ => ?_) (fun q_ => absurd q_ (by decide))
  refine r_aload_n (dcx dX10_expression_c2 30 rfl) 1 rfl ?_
  refine r_aload_n (dcx dX10_expression_c2 31 rfl) 1 rfl ?_
  refine r_bipush (v := 10) (dcx dX10_expression_c2 32 rfl) rfl ?_
  refine s_callV (as := [.int 10]) (st := [.ref 284]) zX10_is kX10_expression_233 (dcx dX10_expression_c2 33 rfl) rfl rfl (Nat.le_of_ble_eq_true rfl) O284 rfl rfl (C2.mono hyp ?_)
  rintro _ s1_ ⟨r2_, rfl, hyp⟩
  show G2 Γ l mX10_expression 217 [(2, .int 1), (0, .ref 284), (1, .int x1)] [.int r2_, .ref 284] s1_ K
  refine r_if_ne (tgt := 229) (dcx dX10_expression_c2 34 rfl) (by decide) (fun q_ => ?_) (fun q_ => ?_)
  · have hyp := hyp.1 q_
    refine r_iconst (v := 1) (dcx dX10_expression_c2 39 rfl) rfl ?_
    refine r_goto (tgt := 234) (dcx dX10_expression_c3 0 rfl) (by decide) ?_
    refine s_callV (as := [.int 1]) (st := []) zX10_comesOut kX10_expression_331 (dcx dX10_expression_c3 2 rfl) rfl rfl (Nat.le_of_ble_eq_true rfl) O284 rfl rfl (C2.mono hyp ?_)
    rintro _ s3_ ⟨rfl, hyp⟩
    show G2 Γ l mX10_expression 237 [(2, .int 1), (0, .ref 284), (1, .int x1)] [] s3_ K
    refine r_aload_n (dcx dX10_expression_c3 3 rfl) 1 rfl ?_
    refine s_getr (b := 318) fX10_119 (dcx dX10_expression_c3 4 rfl) F284_49 ?_
    refine r_aload_n (dcx dX10_expression_c3 5 rfl) 1 rfl ?_
    refine s_geti fX10_322 (dcx dX10_expression_c3 6 rfl) F284_50 ?_
    refine r_aload_n (dcx dX10_expression_c3 7 rfl) 1 rfl ?_
    refine s_getr (b := 287) fX10_20 (dcx dX10_expression_c3 8 rfl) F284_5 ?_
    refine r_aload_n (dcx dX10_expression_c3 9 rfl) 1 rfl ?_
    refine s_geti fX10_218 (dcx dX10_expression_c3 10 rfl) F284_11 ?_
    obtain ⟨hb_, hyp⟩ := hyp
    refine s_iald (dcx dX10_expression_c3 11 rfl) A287 hb_ ?_
    obtain ⟨hb_, hyp⟩ := hyp
    refine s_iast (dcx dX10_expression_c3 12 rfl) A318 hb_ ?_
    obtain ⟨s5_, es5_⟩ : ∃ z : SS, z = sI s3_ 318 (Int32.toNatClampNeg (s3_.1 284 50)) (s3_.1 287 (Int32.toNatClampNeg (s3_.1 284 11))) := ⟨_, rfl⟩
    rw [← es5_]
    have hyp := hyp s5_ es5_
    refine r_aload_n (dcx dX10_expression_c3 13 rfl) 1 rfl ?_
    refine r_dup (dcx dX10_expression_c3 14 rfl) rfl ?_
    refine s_geti fX10_322 (dcx dX10_expression_c3 15 rfl) F284_50 ?_
    refine r_iconst (v := 1) (dcx dX10_expression_c3 16 rfl) rfl ?_
    refine r_iadd (dcx dX10_expression_c3 17 rfl) ?_
    refine s_puti gX10_322 (dcx dX10_expression_c3 18 rfl) F284_50 ?_
    obtain ⟨s6_, es6_⟩ : ∃ z : SS, z = sI s5_ 284 50 ((s5_.1 284 50) + 1) := ⟨_, rfl⟩
    rw [← es6_]
    have hyp := hyp s6_ es6_
    refine r_aload_n (dcx dX10_expression_c3 19 rfl) 1 rfl ?_
    refine s_callV (as := []) (st := []) zX10_goesOn kX10_expression_236 (dcx dX10_expression_c3 20 rfl) rfl rfl (Nat.le_of_ble_eq_true rfl) O284 rfl rfl (C2.mono hyp ?_)
    rintro _ s7_ ⟨rfl, hyp⟩
    show G2 Γ l mX10_expression 269 [(2, .int 1), (0, .ref 284), (1, .int x1)] [] s7_ K
    refine r_goto (tgt := 12) (dcx dX10_expression_c3 21 rfl) (by decide) ?_
    refine r_loc (lv1 := [(0, .ref 284), (1, .int x1), (2, .int 1)]) [1, 2, 0] rfl ?_
    exact hyp
  · have hyp := hyp.2 q_
    refine r_aload_n (dcx dX10_expression_c2 35 rfl) 1 rfl ?_
    refine r_bipush (v := 15) (dcx dX10_expression_c2 36 rfl) rfl ?_
    refine s_callV (as := [.int 15]) (st := [.ref 284]) zX10_is kX10_expression_233 (dcx dX10_expression_c2 37 rfl) rfl rfl (Nat.le_of_ble_eq_true rfl) O284 rfl rfl (C2.mono hyp ?_)
    rintro _ s9_ ⟨r10_, rfl, hyp⟩
    show G2 Γ l mX10_expression 226 [(2, .int 1), (0, .ref 284), (1, .int x1)] [.int r10_, .ref 284] s9_ K
    refine r_if_eq (tgt := 233) (dcx dX10_expression_c2 38 rfl) (by decide) (fun q_ => ?_) (fun q_ => ?_)
    · have hyp := hyp.1 q_
      refine r_iconst (v := 0) (dcx dX10_expression_c3 1 rfl) rfl ?_
      refine s_callV (as := [.int 0]) (st := []) zX10_comesOut kX10_expression_331 (dcx dX10_expression_c3 2 rfl) rfl rfl (Nat.le_of_ble_eq_true rfl) O284 rfl rfl (C2.mono hyp ?_)
      rintro _ s11_ ⟨rfl, hyp⟩
      show G2 Γ l mX10_expression 237 [(2, .int 1), (0, .ref 284), (1, .int x1)] [] s11_ K
      refine r_aload_n (dcx dX10_expression_c3 3 rfl) 1 rfl ?_
      refine s_getr (b := 318) fX10_119 (dcx dX10_expression_c3 4 rfl) F284_49 ?_
      refine r_aload_n (dcx dX10_expression_c3 5 rfl) 1 rfl ?_
      refine s_geti fX10_322 (dcx dX10_expression_c3 6 rfl) F284_50 ?_
      refine r_aload_n (dcx dX10_expression_c3 7 rfl) 1 rfl ?_
      refine s_getr (b := 287) fX10_20 (dcx dX10_expression_c3 8 rfl) F284_5 ?_
      refine r_aload_n (dcx dX10_expression_c3 9 rfl) 1 rfl ?_
      refine s_geti fX10_218 (dcx dX10_expression_c3 10 rfl) F284_11 ?_
      obtain ⟨hb_, hyp⟩ := hyp
      refine s_iald (dcx dX10_expression_c3 11 rfl) A287 hb_ ?_
      obtain ⟨hb_, hyp⟩ := hyp
      refine s_iast (dcx dX10_expression_c3 12 rfl) A318 hb_ ?_
      obtain ⟨s13_, es13_⟩ : ∃ z : SS, z = sI s11_ 318 (Int32.toNatClampNeg (s11_.1 284 50)) (s11_.1 287 (Int32.toNatClampNeg (s11_.1 284 11))) := ⟨_, rfl⟩
      rw [← es13_]
      have hyp := hyp s13_ es13_
      refine r_aload_n (dcx dX10_expression_c3 13 rfl) 1 rfl ?_
      refine r_dup (dcx dX10_expression_c3 14 rfl) rfl ?_
      refine s_geti fX10_322 (dcx dX10_expression_c3 15 rfl) F284_50 ?_
      refine r_iconst (v := 1) (dcx dX10_expression_c3 16 rfl) rfl ?_
      refine r_iadd (dcx dX10_expression_c3 17 rfl) ?_
      refine s_puti gX10_322 (dcx dX10_expression_c3 18 rfl) F284_50 ?_
      obtain ⟨s14_, es14_⟩ : ∃ z : SS, z = sI s13_ 284 50 ((s13_.1 284 50) + 1) := ⟨_, rfl⟩
      rw [← es14_]
      have hyp := hyp s14_ es14_
      refine r_aload_n (dcx dX10_expression_c3 19 rfl) 1 rfl ?_
      refine s_callV (as := []) (st := []) zX10_goesOn kX10_expression_236 (dcx dX10_expression_c3 20 rfl) rfl rfl (Nat.le_of_ble_eq_true rfl) O284 rfl rfl (C2.mono hyp ?_)
      rintro _ s15_ ⟨rfl, hyp⟩
      show G2 Γ l mX10_expression 269 [(2, .int 1), (0, .ref 284), (1, .int x1)] [] s15_ K
      refine r_goto (tgt := 12) (dcx dX10_expression_c3 21 rfl) (by decide) ?_
      refine r_loc (lv1 := [(0, .ref 284), (1, .int x1), (2, .int 1)]) [1, 2, 0] rfl ?_
      exact hyp
    · have hyp := hyp.2 q_
      refine r_iconst (v := 1) (dcx dX10_expression_c2 39 rfl) rfl ?_
      refine r_goto (tgt := 234) (dcx dX10_expression_c3 0 rfl) (by decide) ?_
      refine s_callV (as := [.int 1]) (st := []) zX10_comesOut kX10_expression_331 (dcx dX10_expression_c3 2 rfl) rfl rfl (Nat.le_of_ble_eq_true rfl) O284 rfl rfl (C2.mono hyp ?_)
      rintro _ s17_ ⟨rfl, hyp⟩
      show G2 Γ l mX10_expression 237 [(2, .int 1), (0, .ref 284), (1, .int x1)] [] s17_ K
      refine r_aload_n (dcx dX10_expression_c3 3 rfl) 1 rfl ?_
      refine s_getr (b := 318) fX10_119 (dcx dX10_expression_c3 4 rfl) F284_49 ?_
      refine r_aload_n (dcx dX10_expression_c3 5 rfl) 1 rfl ?_
      refine s_geti fX10_322 (dcx dX10_expression_c3 6 rfl) F284_50 ?_
      refine r_aload_n (dcx dX10_expression_c3 7 rfl) 1 rfl ?_
      refine s_getr (b := 287) fX10_20 (dcx dX10_expression_c3 8 rfl) F284_5 ?_
      refine r_aload_n (dcx dX10_expression_c3 9 rfl) 1 rfl ?_
      refine s_geti fX10_218 (dcx dX10_expression_c3 10 rfl) F284_11 ?_
      obtain ⟨hb_, hyp⟩ := hyp
      refine s_iald (dcx dX10_expression_c3 11 rfl) A287 hb_ ?_
      obtain ⟨hb_, hyp⟩ := hyp
      refine s_iast (dcx dX10_expression_c3 12 rfl) A318 hb_ ?_
      obtain ⟨s19_, es19_⟩ : ∃ z : SS, z = sI s17_ 318 (Int32.toNatClampNeg (s17_.1 284 50)) (s17_.1 287 (Int32.toNatClampNeg (s17_.1 284 11))) := ⟨_, rfl⟩
      rw [← es19_]
      have hyp := hyp s19_ es19_
      refine r_aload_n (dcx dX10_expression_c3 13 rfl) 1 rfl ?_
      refine r_dup (dcx dX10_expression_c3 14 rfl) rfl ?_
      refine s_geti fX10_322 (dcx dX10_expression_c3 15 rfl) F284_50 ?_
      refine r_iconst (v := 1) (dcx dX10_expression_c3 16 rfl) rfl ?_
      refine r_iadd (dcx dX10_expression_c3 17 rfl) ?_
      refine s_puti gX10_322 (dcx dX10_expression_c3 18 rfl) F284_50 ?_
      obtain ⟨s20_, es20_⟩ : ∃ z : SS, z = sI s19_ 284 50 ((s19_.1 284 50) + 1) := ⟨_, rfl⟩
      rw [← es20_]
      have hyp := hyp s20_ es20_
      refine r_aload_n (dcx dX10_expression_c3 19 rfl) 1 rfl ?_
      refine s_callV (as := []) (st := []) zX10_goesOn kX10_expression_236 (dcx dX10_expression_c3 20 rfl) rfl rfl (Nat.le_of_ble_eq_true rfl) O284 rfl rfl (C2.mono hyp ?_)
      rintro _ s21_ ⟨rfl, hyp⟩
      show G2 Γ l mX10_expression 269 [(2, .int 1), (0, .ref 284), (1, .int x1)] [] s21_ K
      refine r_goto (tgt := 12) (dcx dX10_expression_c3 21 rfl) (by decide) ?_
      refine r_loc (lv1 := [(0, .ref 284), (1, .int x1), (2, .int 1)]) [1, 2, 0] rfl ?_
      exact hyp
set_option maxHeartbeats 4000000 in
set_option maxRecDepth 20000 in
theorem tX10_expression_204 {Γ : GE} {l : Launch}  {σ : SS} {K : Option Value → SS → Prop}  (hyp : C2 Γ l mX10_comesOut [.ref 284, .int 0] σ (Rv fun s1_ => (K none s1_))) : wX10_expression_204 Γ l  σ K := by
  show G2 Γ l mX10_expression 204 [(0, .ref 284)] [] σ K
  refine r_aload_n (dcx dX10_expression_c2 26 rfl) 0 rfl ?_
  refine r_iconst (v := 0) (dcx dX10_expression_c2 27 rfl) rfl ?_
  refine s_callV (as := [.int 0]) (st := []) zX10_comesOut kX10_expression_331 (dcx dX10_expression_c2 28 rfl) rfl rfl (Nat.le_of_ble_eq_true rfl) O284 rfl rfl (C2.mono hyp ?_)
  rintro _ s1_ ⟨rfl, hyp⟩
  show G2 Γ l mX10_expression 209 [(0, .ref 284)] [] s1_ K
  exact s_vret rfl hyp (dcx dX10_expression_c2 29 rfl)
set_option maxHeartbeats 4000000 in
set_option maxRecDepth 20000 in
theorem tX10_unit {Γ : GE} {l : Launch}  {σ : SS} {K : Option Value → SS → Prop}  (hyp : C2 Γ l mX10_is [.ref 284, .int 2] σ (Ri fun r2_ s1_ => ((r2_ = 0 → ((¬ (s1_.1 284 13) = 0 → (C2 Γ l mX10_fail [.ref 284, .int 1] s1_ (Rv fun s3_ => (K none s3_)))) ∧ ((s1_.1 284 13) = 0 → (vp_in (s1_.1 284 11) 403 ∧ (((s1_.1 287 (Int32.toNatClampNeg (s1_.1 284 11))) < 33 → (C2 Γ l mX10_fail [.ref 284, .int 1] s1_ (Rv fun s5_ => (K none s5_)))) ∧ (¬ ((s1_.1 287 (Int32.toNatClampNeg (s1_.1 284 11))) < 33) → (vp_in (s1_.1 284 11) 403 ∧ (((41 : Int32) < (s1_.1 287 (Int32.toNatClampNeg (s1_.1 284 11))) → (C2 Γ l mX10_fail [.ref 284, .int 1] s1_ (Rv fun s7_ => (K none s7_)))) ∧ (¬ ((41 : Int32) < (s1_.1 287 (Int32.toNatClampNeg (s1_.1 284 11)))) → (vp_in (s1_.1 284 11) 403 ∧ (C2 Γ l mX10_emit [.ref 284, .int 1, .int ((s1_.1 287 (Int32.toNatClampNeg (s1_.1 284 11))) - 33)] s1_ (Rv fun s9_ => (C2 Γ l mX10_goesOn [.ref 284] s9_ (Rv fun s11_ => (K none s11_))))))))))))))) ∧ (¬ (r2_ = 0) → (vp_in (s1_.1 284 11) 403 ∧ (C2 Γ l mX10_emit [.ref 284, .int 0, .int (s1_.1 289 (Int32.toNatClampNeg (s1_.1 284 11)))] s1_ (Rv fun s13_ => (C2 Γ l mX10_goesOn [.ref 284] s13_ (Rv fun s15_ => (K none s15_)))))))))) : C2 Γ l mX10_unit [.ref 284] σ K := by
  refine c2_of (lv := [(0, .ref 284)]) (by decide) (Nat.le_of_ble_eq_true rfl) rfl ?_
  refine r_aload_n (dcx dX10_unit_c0 0 rfl) 0 rfl ?_
  refine r_iconst (v := 2) (dcx dX10_unit_c0 1 rfl) rfl ?_
  refine s_callV (as := [.int 2]) (st := []) zX10_is kX10_unit_233 (dcx dX10_unit_c0 2 rfl) rfl rfl (Nat.le_of_ble_eq_true rfl) O284 rfl rfl (C2.mono hyp ?_)
  rintro _ s1_ ⟨r2_, rfl, hyp⟩
  show G2 Γ l mX10_unit 5 [(0, .ref 284)] [.int r2_] s1_ K
  refine r_if_eq (tgt := 29) (dcx dX10_unit_c0 3 rfl) (by decide) (fun q_ => ?_) (fun q_ => ?_)
  · have hyp := hyp.1 q_
    refine r_aload_n (dcx dX10_unit_c0 15 rfl) 0 rfl ?_
    refine s_geti fX10_215 (dcx dX10_unit_c0 16 rfl) F284_13 ?_
    refine r_if_ne (tgt := 88) (dcx dX10_unit_c0 17 rfl) (by decide) (fun q_ => ?_) (fun q_ => ?_)
    · have hyp := hyp.1 q_
      refine r_aload_n (dcx dX10_unit_c1 5 rfl) 0 rfl ?_
      refine r_iconst (v := 1) (dcx dX10_unit_c1 6 rfl) rfl ?_
      refine s_callV (as := [.int 1]) (st := []) zX10_fail kX10_unit_230 (dcx dX10_unit_c1 7 rfl) rfl rfl (Nat.le_of_ble_eq_true rfl) O284 rfl rfl (C2.mono hyp ?_)
      rintro _ s3_ ⟨rfl, hyp⟩
      show G2 Γ l mX10_unit 93 [(0, .ref 284)] [] s3_ K
      exact s_vret rfl hyp (dcx dX10_unit_c1 8 rfl)
    · have hyp := hyp.2 q_
      refine r_aload_n (dcx dX10_unit_c0 18 rfl) 0 rfl ?_
      refine s_getr (b := 287) fX10_20 (dcx dX10_unit_c0 19 rfl) F284_5 ?_
      refine r_aload_n (dcx dX10_unit_c0 20 rfl) 0 rfl ?_
      refine s_geti fX10_218 (dcx dX10_unit_c0 21 rfl) F284_11 ?_
      obtain ⟨hb_, hyp⟩ := hyp
      refine s_iald (dcx dX10_unit_c0 22 rfl) A287 hb_ ?_
      refine r_bipush (v := 33) (dcx dX10_unit_c0 23 rfl) rfl ?_
      refine r_icmp_lt (tgt := 88) (dcx dX10_unit_c0 24 rfl) (by decide) (fun q_ => ?_) (fun q_ => ?_)
      · have hyp := hyp.1 q_
        refine r_aload_n (dcx dX10_unit_c1 5 rfl) 0 rfl ?_
        refine r_iconst (v := 1) (dcx dX10_unit_c1 6 rfl) rfl ?_
        refine s_callV (as := [.int 1]) (st := []) zX10_fail kX10_unit_230 (dcx dX10_unit_c1 7 rfl) rfl rfl (Nat.le_of_ble_eq_true rfl) O284 rfl rfl (C2.mono hyp ?_)
        rintro _ s5_ ⟨rfl, hyp⟩
        show G2 Γ l mX10_unit 93 [(0, .ref 284)] [] s5_ K
        exact s_vret rfl hyp (dcx dX10_unit_c1 8 rfl)
      · have hyp := hyp.2 q_
        refine r_aload_n (dcx dX10_unit_c0 25 rfl) 0 rfl ?_
        refine s_getr (b := 287) fX10_20 (dcx dX10_unit_c0 26 rfl) F284_5 ?_
        refine r_aload_n (dcx dX10_unit_c0 27 rfl) 0 rfl ?_
        refine s_geti fX10_218 (dcx dX10_unit_c0 28 rfl) F284_11 ?_
        obtain ⟨hb_, hyp⟩ := hyp
        refine s_iald (dcx dX10_unit_c0 29 rfl) A287 hb_ ?_
        refine r_bipush (v := 41) (dcx dX10_unit_c0 30 rfl) rfl ?_
        refine r_icmp_gt (tgt := 88) (dcx dX10_unit_c0 31 rfl) (by decide) (fun q_ => ?_) (fun q_ => ?_)
        · have hyp := hyp.1 q_
          refine r_aload_n (dcx dX10_unit_c1 5 rfl) 0 rfl ?_
          refine r_iconst (v := 1) (dcx dX10_unit_c1 6 rfl) rfl ?_
          refine s_callV (as := [.int 1]) (st := []) zX10_fail kX10_unit_230 (dcx dX10_unit_c1 7 rfl) rfl rfl (Nat.le_of_ble_eq_true rfl) O284 rfl rfl (C2.mono hyp ?_)
          rintro _ s7_ ⟨rfl, hyp⟩
          show G2 Γ l mX10_unit 93 [(0, .ref 284)] [] s7_ K
          exact s_vret rfl hyp (dcx dX10_unit_c1 8 rfl)
        · have hyp := hyp.2 q_
          refine r_aload_n (dcx dX10_unit_c0 32 rfl) 0 rfl ?_
          refine r_iconst (v := 1) (dcx dX10_unit_c0 33 rfl) rfl ?_
          refine r_aload_n (dcx dX10_unit_c0 34 rfl) 0 rfl ?_
          refine s_getr (b := 287) fX10_20 (dcx dX10_unit_c0 35 rfl) F284_5 ?_
          refine r_aload_n (dcx dX10_unit_c0 36 rfl) 0 rfl ?_
          refine s_geti fX10_218 (dcx dX10_unit_c0 37 rfl) F284_11 ?_
          obtain ⟨hb_, hyp⟩ := hyp
          refine s_iald (dcx dX10_unit_c0 38 rfl) A287 hb_ ?_
          refine r_bipush (v := 33) (dcx dX10_unit_c0 39 rfl) rfl ?_
          refine r_isub (dcx dX10_unit_c1 0 rfl) ?_
          refine s_callV (as := [.int 1, .int ((s1_.1 287 (Int32.toNatClampNeg (s1_.1 284 11))) - 33)]) (st := []) zX10_emit kX10_unit_325 (dcx dX10_unit_c1 1 rfl) rfl rfl (Nat.le_of_ble_eq_true rfl) O284 rfl rfl (C2.mono hyp ?_)
          rintro _ s9_ ⟨rfl, hyp⟩
          show G2 Γ l mX10_unit 81 [(0, .ref 284)] [] s9_ K
          refine r_aload_n (dcx dX10_unit_c1 2 rfl) 0 rfl ?_
          refine s_callV (as := []) (st := []) zX10_goesOn kX10_unit_236 (dcx dX10_unit_c1 3 rfl) rfl rfl (Nat.le_of_ble_eq_true rfl) O284 rfl rfl (C2.mono hyp ?_)
          rintro _ s11_ ⟨rfl, hyp⟩
          show G2 Γ l mX10_unit 85 [(0, .ref 284)] [] s11_ K
          refine r_goto (tgt := 93) (dcx dX10_unit_c1 4 rfl) (by decide) ?_
          exact s_vret rfl hyp (dcx dX10_unit_c1 8 rfl)
  · have hyp := hyp.2 q_
    refine r_aload_n (dcx dX10_unit_c0 4 rfl) 0 rfl ?_
    refine r_iconst (v := 0) (dcx dX10_unit_c0 5 rfl) rfl ?_
    refine r_aload_n (dcx dX10_unit_c0 6 rfl) 0 rfl ?_
    refine s_getr (b := 289) fX10_27 (dcx dX10_unit_c0 7 rfl) F284_7 ?_
    refine r_aload_n (dcx dX10_unit_c0 8 rfl) 0 rfl ?_
    refine s_geti fX10_218 (dcx dX10_unit_c0 9 rfl) F284_11 ?_
    obtain ⟨hb_, hyp⟩ := hyp
    refine s_iald (dcx dX10_unit_c0 10 rfl) A289 hb_ ?_
    refine s_callV (as := [.int 0, .int (s1_.1 289 (Int32.toNatClampNeg (s1_.1 284 11)))]) (st := []) zX10_emit kX10_unit_325 (dcx dX10_unit_c0 11 rfl) rfl rfl (Nat.le_of_ble_eq_true rfl) O284 rfl rfl (C2.mono hyp ?_)
    rintro _ s13_ ⟨rfl, hyp⟩
    show G2 Γ l mX10_unit 22 [(0, .ref 284)] [] s13_ K
    refine r_aload_n (dcx dX10_unit_c0 12 rfl) 0 rfl ?_
    refine s_callV (as := []) (st := []) zX10_goesOn kX10_unit_236 (dcx dX10_unit_c0 13 rfl) rfl rfl (Nat.le_of_ble_eq_true rfl) O284 rfl rfl (C2.mono hyp ?_)
    rintro _ s15_ ⟨rfl, hyp⟩
    show G2 Γ l mX10_unit 26 [(0, .ref 284)] [] s15_ K
    refine r_goto (tgt := 93) (dcx dX10_unit_c0 14 rfl) (by decide) ?_
    exact s_vret rfl hyp (dcx dX10_unit_c1 8 rfl)
def wX10_termOf_5 (Γ : GE) (l : Launch) (x2 : Int32) (x3 : Int32) (x4 : Int32) (σ : SS) (K : Option Value → SS → Prop) : Prop := G2 Γ l mX10_termOf 5 [(0, .ref 284), (2, .int x2), (3, .int x3), (4, .int x4)] [] σ K
def wX10_termOf_104 (Γ : GE) (l : Launch) (x2 : Int32) (x3 : Int32) (x4 : Int32) (x5 : Int32) (x6 : Int32) (x7 : Int32) (σ : SS) (K : Option Value → SS → Prop) : Prop := G2 Γ l mX10_termOf 104 [(0, .ref 284), (2, .int x2), (3, .int x3), (4, .int x4), (5, .int x5), (6, .int x6), (7, .int x7)] [] σ K
def wX10_termOf_159 (Γ : GE) (l : Launch) (x2 : Int32) (x3 : Int32) (x4 : Int32) (σ : SS) (K : Option Value → SS → Prop) : Prop := G2 Γ l mX10_termOf 159 [(0, .ref 284), (2, .int x2), (3, .int x3), (4, .int x4)] [] σ K
set_option maxHeartbeats 4000000 in
set_option maxRecDepth 20000 in
theorem tX10_termOf {Γ : GE} {l : Launch} {x1 : Int32} {x2 : Int32} {σ : SS} {K : Option Value → SS → Prop}  (hyp : wX10_termOf_5 Γ l x2 0 x1 σ K) : C2 Γ l mX10_termOf [.ref 284, .int x1, .int x2] σ K := by
  refine c2_of (lv := [(0, .ref 284), (1, .int x1), (2, .int x2)]) (by decide) (Nat.le_of_ble_eq_true rfl) rfl ?_
  refine r_iconst (v := 0) (dcx dX10_termOf_c0 0 rfl) rfl ?_
  refine r_istore_n (lv1 := [(3, .int 0), (0, .ref 284), (1, .int x1), (2, .int x2)]) (dcx dX10_termOf_c0 1 rfl) (Nat.le_of_ble_eq_true rfl) rfl ?_
  refine r_iload_n (dcx dX10_termOf_c0 2 rfl) 2 rfl ?_
  refine r_istore (lv1 := [(4, .int x1), (3, .int 0), (0, .ref 284), (1, .int x1), (2, .int x2)]) (dcx dX10_termOf_c0 3 rfl) (Nat.le_of_ble_eq_true rfl) rfl ?_
  refine r_loc (lv1 := [(0, .ref 284), (2, .int x2), (3, .int 0), (4, .int x1)]) [2, 4, 1, 0] rfl ?_
  exact hyp
set_option maxHeartbeats 4000000 in
set_option maxRecDepth 20000 in
theorem tX10_termOf_5 {Γ : GE} {l : Launch} {x2 : Int32} {x3 : Int32} {x4 : Int32} {σ : SS} {K : Option Value → SS → Prop}  (hyp : (x2 ≤ x4 → (vp_in 0 400 ∧ (K (some (.int (σ.1 320 (Int32.toNatClampNeg 0)))) σ))) ∧ (¬ (x2 ≤ x4) → (vp_in x4 840 ∧ (((2 : Int32) ≤ (σ.1 316 (Int32.toNatClampNeg x4)) → (vp_in ((x3 + (-1)) - 1) 400 ∧ (vp_in (x3 + (-1)) 400 ∧ ((¬ (σ.1 316 (Int32.toNatClampNeg x4)) = 5 → (wX10_termOf_104 Γ l x2 (x3 + (-1)) x4 (σ.1 316 (Int32.toNatClampNeg x4)) (σ.1 320 (Int32.toNatClampNeg ((x3 + (-1)) - 1))) (σ.1 320 (Int32.toNatClampNeg (x3 + (-1)))) σ K)) ∧ ((σ.1 316 (Int32.toNatClampNeg x4)) = 5 → ((¬ (σ.1 320 (Int32.toNatClampNeg (x3 + (-1)))) = 0 → (wX10_termOf_104 Γ l x2 (x3 + (-1)) x4 (σ.1 316 (Int32.toNatClampNeg x4)) (σ.1 320 (Int32.toNatClampNeg ((x3 + (-1)) - 1))) (σ.1 320 (Int32.toNatClampNeg (x3 + (-1)))) σ K)) ∧ ((σ.1 320 (Int32.toNatClampNeg (x3 + (-1)))) = 0 → (∀ s1_ : SS, s1_ = sI σ 284 53 1 → (K (some (.int 0)) s1_))))))))) ∧ (¬ ((2 : Int32) ≤ (σ.1 316 (Int32.toNatClampNeg x4))) → ((¬ (σ.1 316 (Int32.toNatClampNeg x4)) = 0 → (vp_in x4 840 ∧ (vp_in (σ.1 317 (Int32.toNatClampNeg x4)) 9 ∧ (vp_in x3 400 ∧ (∀ s2_ : SS, s2_ = sI σ 320 (Int32.toNatClampNeg x3) (σ.1 319 (Int32.toNatClampNeg (σ.1 317 (Int32.toNatClampNeg x4)))) → (wX10_termOf_159 Γ l x2 (x3 + 1) x4 s2_ K)))))) ∧ ((σ.1 316 (Int32.toNatClampNeg x4)) = 0 → (vp_in x4 840 ∧ (vp_in x3 400 ∧ (∀ s3_ : SS, s3_ = sI σ 320 (Int32.toNatClampNeg x3) (σ.1 317 (Int32.toNatClampNeg x4)) → (wX10_termOf_159 Γ l x2 (x3 + 1) x4 s3_ K))))))))))) : wX10_termOf_5 Γ l x2 x3 x4 σ K := by
  show G2 Γ l mX10_termOf 5 [(0, .ref 284), (2, .int x2), (3, .int x3), (4, .int x4)] [] σ K
  refine r_iload (dcx dX10_termOf_c0 4 rfl) 3 rfl ?_
  refine r_iload_n (dcx dX10_termOf_c0 5 rfl) 1 rfl ?_
  refine r_icmp_ge (tgt := 165) (dcx dX10_termOf_c0 6 rfl) (by decide) (fun q_ => ?_) (fun q_ => ?_)
  · have hyp := hyp.1 q_
    refine r_aload_n (dcx dX10_termOf_c2 10 rfl) 0 rfl ?_
    refine s_getr (b := 320) fX10_125 (dcx dX10_termOf_c2 11 rfl) F284_52 ?_
    refine r_iconst (v := 0) (dcx dX10_termOf_c2 12 rfl) rfl ?_
    obtain ⟨hb_, hyp⟩ := hyp
    refine s_iald (dcx dX10_termOf_c2 13 rfl) A320 hb_ ?_
    exact s_ret rfl rfl rfl hyp (dcx dX10_termOf_c2 14 rfl)
  · have hyp := hyp.2 q_
    refine r_aload_n (dcx dX10_termOf_c0 7 rfl) 0 rfl ?_
    refine s_getr (b := 316) fX10_113 (dcx dX10_termOf_c0 8 rfl) F284_47 ?_
    refine r_iload (dcx dX10_termOf_c0 9 rfl) 3 rfl ?_
    obtain ⟨hb_, hyp⟩ := hyp
    refine s_iald (dcx dX10_termOf_c0 10 rfl) A316 hb_ ?_
    refine r_istore (lv1 := [(5, .int (σ.1 316 (Int32.toNatClampNeg x4))), (0, .ref 284), (2, .int x2), (3, .int x3), (4, .int x4)]) (dcx dX10_termOf_c0 11 rfl) (Nat.le_of_ble_eq_true rfl) rfl ?_
    refine r_iload (dcx dX10_termOf_c0 12 rfl) 0 rfl ?_
    refine r_iconst (v := 2) (dcx dX10_termOf_c0 13 rfl) rfl ?_
    refine r_icmp_ge (tgt := 65) (dcx dX10_termOf_c0 14 rfl) (by decide) (fun q_ => ?_) (fun q_ => ?_)
    · have hyp := hyp.1 q_
      refine r_iinc (lv1 := [(3, .int (x3 + (-1))), (5, .int (σ.1 316 (Int32.toNatClampNeg x4))), (0, .ref 284), (2, .int x2), (4, .int x4)]) (dcx dX10_termOf_c0 35 rfl) 3 rfl (Nat.le_of_ble_eq_true rfl) rfl ?_
      refine r_aload_n (dcx dX10_termOf_c0 36 rfl) 2 rfl ?_
      refine s_getr (b := 320) fX10_125 (dcx dX10_termOf_c0 37 rfl) F284_52 ?_
      refine r_iload_n (dcx dX10_termOf_c0 38 rfl) 0 rfl ?_
      refine r_iconst (v := 1) (dcx dX10_termOf_c0 39 rfl) rfl ?_
      refine r_isub (dcx dX10_termOf_c1 0 rfl) ?_
      obtain ⟨hb_, hyp⟩ := hyp
      refine s_iald (dcx dX10_termOf_c1 1 rfl) A320 hb_ ?_
      refine r_istore (lv1 := [(6, .int (σ.1 320 (Int32.toNatClampNeg ((x3 + (-1)) - 1)))), (3, .int (x3 + (-1))), (5, .int (σ.1 316 (Int32.toNatClampNeg x4))), (0, .ref 284), (2, .int x2), (4, .int x4)]) (dcx dX10_termOf_c1 2 rfl) (Nat.le_of_ble_eq_true rfl) rfl ?_
      refine r_aload_n (dcx dX10_termOf_c1 3 rfl) 3 rfl ?_
      refine s_getr (b := 320) fX10_125 (dcx dX10_termOf_c1 4 rfl) F284_52 ?_
      refine r_iload_n (dcx dX10_termOf_c1 5 rfl) 1 rfl ?_
      obtain ⟨hb_, hyp⟩ := hyp
      refine s_iald (dcx dX10_termOf_c1 6 rfl) A320 hb_ ?_
      refine r_istore (lv1 := [(7, .int (σ.1 320 (Int32.toNatClampNeg (x3 + (-1))))), (6, .int (σ.1 320 (Int32.toNatClampNeg ((x3 + (-1)) - 1)))), (3, .int (x3 + (-1))), (5, .int (σ.1 316 (Int32.toNatClampNeg x4))), (0, .ref 284), (2, .int x2), (4, .int x4)]) (dcx dX10_termOf_c1 7 rfl) (Nat.le_of_ble_eq_true rfl) rfl ?_
      refine r_iload (dcx dX10_termOf_c1 8 rfl) 3 rfl ?_
      refine r_iconst (v := 5) (dcx dX10_termOf_c1 9 rfl) rfl ?_
      refine r_icmp_ne (tgt := 104) (dcx dX10_termOf_c1 10 rfl) (by decide) (fun q_ => ?_) (fun q_ => ?_)
      · have hyp := hyp.1 q_
        refine r_loc (lv1 := [(0, .ref 284), (2, .int x2), (3, .int (x3 + (-1))), (4, .int x4), (5, .int (σ.1 316 (Int32.toNatClampNeg x4))), (6, .int (σ.1 320 (Int32.toNatClampNeg ((x3 + (-1)) - 1)))), (7, .int (σ.1 320 (Int32.toNatClampNeg (x3 + (-1)))))]) [4, 5, 2, 6, 3, 1, 0] rfl ?_
        exact hyp
      · have hyp := hyp.2 q_
        refine r_iload (dcx dX10_termOf_c1 11 rfl) 0 rfl ?_
        refine r_if_ne (tgt := 104) (dcx dX10_termOf_c1 12 rfl) (by decide) (fun q_ => ?_) (fun q_ => ?_)
        · have hyp := hyp.1 q_
          refine r_loc (lv1 := [(0, .ref 284), (2, .int x2), (3, .int (x3 + (-1))), (4, .int x4), (5, .int (σ.1 316 (Int32.toNatClampNeg x4))), (6, .int (σ.1 320 (Int32.toNatClampNeg ((x3 + (-1)) - 1)))), (7, .int (σ.1 320 (Int32.toNatClampNeg (x3 + (-1)))))]) [4, 5, 2, 6, 3, 1, 0] rfl ?_
          exact hyp
        · have hyp := hyp.2 q_
          refine r_aload_n (dcx dX10_termOf_c1 13 rfl) 4 rfl ?_
          refine r_iconst (v := 1) (dcx dX10_termOf_c1 14 rfl) rfl ?_
          refine s_putz gX10_335 (dcx dX10_termOf_c1 15 rfl) F284_53 rfl rfl ?_
          obtain ⟨s1_, es1_⟩ : ∃ z : SS, z = sI σ 284 53 1 := ⟨_, rfl⟩
          rw [← es1_]
          have hyp := hyp s1_ es1_
          refine r_iconst (v := 0) (dcx dX10_termOf_c1 16 rfl) rfl ?_
          exact s_ret rfl rfl rfl hyp (dcx dX10_termOf_c1 17 rfl)
    · have hyp := hyp.2 q_
      refine r_aload_n (dcx dX10_termOf_c0 15 rfl) 1 rfl ?_
      refine s_getr (b := 320) fX10_125 (dcx dX10_termOf_c0 16 rfl) F284_52 ?_
      refine r_iload_n (dcx dX10_termOf_c0 17 rfl) 3 rfl ?_
      refine r_iload (dcx dX10_termOf_c0 18 rfl) 0 rfl ?_
      refine r_if_ne (tgt := 46) (dcx dX10_termOf_c0 19 rfl) (by decide) (fun q_ => ?_) (fun q_ => ?_)
      · have hyp := hyp.1 q_
        refine r_aload_n (dcx dX10_termOf_c0 25 rfl) 1 rfl ?_
        refine s_getr (b := 319) fX10_122 (dcx dX10_termOf_c0 26 rfl) F284_51 ?_
        refine r_aload_n (dcx dX10_termOf_c0 27 rfl) 1 rfl ?_
        refine s_getr (b := 317) fX10_116 (dcx dX10_termOf_c0 28 rfl) F284_48 ?_
        refine r_iload (dcx dX10_termOf_c0 29 rfl) 4 rfl ?_
        obtain ⟨hb_, hyp⟩ := hyp
        refine s_iald (dcx dX10_termOf_c0 30 rfl) A317 hb_ ?_
        obtain ⟨hb_, hyp⟩ := hyp
        refine s_iald (dcx dX10_termOf_c0 31 rfl) A319 hb_ ?_
        obtain ⟨hb_, hyp⟩ := hyp
        refine s_iast (dcx dX10_termOf_c0 32 rfl) A320 hb_ ?_
        obtain ⟨s2_, es2_⟩ : ∃ z : SS, z = sI σ 320 (Int32.toNatClampNeg x3) (σ.1 319 (Int32.toNatClampNeg (σ.1 317 (Int32.toNatClampNeg x4)))) := ⟨_, rfl⟩
        rw [← es2_]
        have hyp := hyp s2_ es2_
        refine r_iinc (lv1 := [(3, .int (x3 + 1)), (5, .int (σ.1 316 (Int32.toNatClampNeg x4))), (0, .ref 284), (2, .int x2), (4, .int x4)]) (dcx dX10_termOf_c0 33 rfl) 3 rfl (Nat.le_of_ble_eq_true rfl) rfl ?_
        refine r_goto (tgt := 159) (dcx dX10_termOf_c0 34 rfl) (by decide) ?_
        refine r_loc (lv1 := [(0, .ref 284), (2, .int x2), (3, .int (x3 + 1)), (4, .int x4)]) [2, 3, 0, 4] rfl ?_
        exact hyp
      · have hyp := hyp.2 q_
        refine r_aload_n (dcx dX10_termOf_c0 20 rfl) 1 rfl ?_
        refine s_getr (b := 317) fX10_116 (dcx dX10_termOf_c0 21 rfl) F284_48 ?_
        refine r_iload (dcx dX10_termOf_c0 22 rfl) 4 rfl ?_
        obtain ⟨hb_, hyp⟩ := hyp
        refine s_iald (dcx dX10_termOf_c0 23 rfl) A317 hb_ ?_
        refine r_goto (tgt := 58) (dcx dX10_termOf_c0 24 rfl) (by decide) ?_
        obtain ⟨hb_, hyp⟩ := hyp
        refine s_iast (dcx dX10_termOf_c0 32 rfl) A320 hb_ ?_
        obtain ⟨s3_, es3_⟩ : ∃ z : SS, z = sI σ 320 (Int32.toNatClampNeg x3) (σ.1 317 (Int32.toNatClampNeg x4)) := ⟨_, rfl⟩
        rw [← es3_]
        have hyp := hyp s3_ es3_
        refine r_iinc (lv1 := [(3, .int (x3 + 1)), (5, .int (σ.1 316 (Int32.toNatClampNeg x4))), (0, .ref 284), (2, .int x2), (4, .int x4)]) (dcx dX10_termOf_c0 33 rfl) 3 rfl (Nat.le_of_ble_eq_true rfl) rfl ?_
        refine r_goto (tgt := 159) (dcx dX10_termOf_c0 34 rfl) (by decide) ?_
        refine r_loc (lv1 := [(0, .ref 284), (2, .int x2), (3, .int (x3 + 1)), (4, .int x4)]) [2, 3, 0, 4] rfl ?_
        exact hyp
set_option maxHeartbeats 4000000 in
set_option maxRecDepth 20000 in
theorem tX10_termOf_104 {Γ : GE} {l : Launch} {x2 : Int32} {x3 : Int32} {x4 : Int32} {x5 : Int32} {x6 : Int32} {x7 : Int32} {σ : SS} {K : Option Value → SS → Prop}  (hyp : (¬ x5 = 2 → ((¬ x5 = 3 → ((¬ x5 = 4 → (¬ x7 = 0 ∧ (vp_in (x3 - 1) 400 ∧ (∀ s1_ : SS, s1_ = sI σ 320 (Int32.toNatClampNeg (x3 - 1)) (x6 / x7) → (wX10_termOf_159 Γ l x2 x3 x4 s1_ K))))) ∧ (x5 = 4 → (vp_in (x3 - 1) 400 ∧ (∀ s2_ : SS, s2_ = sI σ 320 (Int32.toNatClampNeg (x3 - 1)) (x6 * x7) → (wX10_termOf_159 Γ l x2 x3 x4 s2_ K)))))) ∧ (x5 = 3 → (vp_in (x3 - 1) 400 ∧ (∀ s3_ : SS, s3_ = sI σ 320 (Int32.toNatClampNeg (x3 - 1)) (x6 - x7) → (wX10_termOf_159 Γ l x2 x3 x4 s3_ K)))))) ∧ (x5 = 2 → (vp_in (x3 - 1) 400 ∧ (∀ s4_ : SS, s4_ = sI σ 320 (Int32.toNatClampNeg (x3 - 1)) (x6 + x7) → (wX10_termOf_159 Γ l x2 x3 x4 s4_ K))))) : wX10_termOf_104 Γ l x2 x3 x4 x5 x6 x7 σ K := by
  show G2 Γ l mX10_termOf 104 [(0, .ref 284), (2, .int x2), (3, .int x3), (4, .int x4), (5, .int x5), (6, .int x6), (7, .int x7)] [] σ K
  refine r_aload_n (dcx dX10_termOf_c1 18 rfl) 0 rfl ?_
  refine s_getr (b := 320) fX10_125 (dcx dX10_termOf_c1 19 rfl) F284_52 ?_
  refine r_iload_n (dcx dX10_termOf_c1 20 rfl) 2 rfl ?_
  refine r_iconst (v := 1) (dcx dX10_termOf_c1 21 rfl) rfl ?_
  refine r_isub (dcx dX10_termOf_c1 22 rfl) ?_
  refine r_iload (dcx dX10_termOf_c1 23 rfl) 4 rfl ?_
  refine r_iconst (v := 2) (dcx dX10_termOf_c1 24 rfl) rfl ?_
  refine r_icmp_ne (tgt := 125) (dcx dX10_termOf_c1 25 rfl) (by decide) (fun q_ => ?_) (fun q_ => ?_)
  · have hyp := hyp.1 q_
    refine r_iload (dcx dX10_termOf_c1 30 rfl) 4 rfl ?_
    refine r_iconst (v := 3) (dcx dX10_termOf_c1 31 rfl) rfl ?_
    refine r_icmp_ne (tgt := 139) (dcx dX10_termOf_c1 32 rfl) (by decide) (fun q_ => ?_) (fun q_ => ?_)
    · have hyp := hyp.1 q_
      refine r_iload (dcx dX10_termOf_c1 37 rfl) 4 rfl ?_
      refine r_iconst (v := 4) (dcx dX10_termOf_c1 38 rfl) rfl ?_
      refine r_icmp_ne (tgt := 153) (dcx dX10_termOf_c1 39 rfl) (by decide) (fun q_ => ?_) (fun q_ => ?_)
      · have hyp := hyp.1 q_
        refine r_iload (dcx dX10_termOf_c2 4 rfl) 5 rfl ?_
        refine r_iload (dcx dX10_termOf_c2 5 rfl) 6 rfl ?_
        obtain ⟨hz_, hyp⟩ := hyp
        refine r_idiv (dcx dX10_termOf_c2 6 rfl) hz_ ?_
        obtain ⟨hb_, hyp⟩ := hyp
        refine s_iast (dcx dX10_termOf_c2 7 rfl) A320 hb_ ?_
        obtain ⟨s1_, es1_⟩ : ∃ z : SS, z = sI σ 320 (Int32.toNatClampNeg (x3 - 1)) (x6 / x7) := ⟨_, rfl⟩
        rw [← es1_]
        have hyp := hyp s1_ es1_
        refine r_loc (lv1 := [(0, .ref 284), (2, .int x2), (3, .int x3), (4, .int x4)]) [0, 1, 2, 3] rfl ?_
        exact hyp
      · have hyp := hyp.2 q_
        refine r_iload (dcx dX10_termOf_c2 0 rfl) 5 rfl ?_
        refine r_iload (dcx dX10_termOf_c2 1 rfl) 6 rfl ?_
        refine r_imul (dcx dX10_termOf_c2 2 rfl) ?_
        refine r_goto (tgt := 158) (dcx dX10_termOf_c2 3 rfl) (by decide) ?_
        obtain ⟨hb_, hyp⟩ := hyp
        refine s_iast (dcx dX10_termOf_c2 7 rfl) A320 hb_ ?_
        obtain ⟨s2_, es2_⟩ : ∃ z : SS, z = sI σ 320 (Int32.toNatClampNeg (x3 - 1)) (x6 * x7) := ⟨_, rfl⟩
        rw [← es2_]
        have hyp := hyp s2_ es2_
        refine r_loc (lv1 := [(0, .ref 284), (2, .int x2), (3, .int x3), (4, .int x4)]) [0, 1, 2, 3] rfl ?_
        exact hyp
    · have hyp := hyp.2 q_
      refine r_iload (dcx dX10_termOf_c1 33 rfl) 5 rfl ?_
      refine r_iload (dcx dX10_termOf_c1 34 rfl) 6 rfl ?_
      refine r_isub (dcx dX10_termOf_c1 35 rfl) ?_
      refine r_goto (tgt := 158) (dcx dX10_termOf_c1 36 rfl) (by decide) ?_
      obtain ⟨hb_, hyp⟩ := hyp
      refine s_iast (dcx dX10_termOf_c2 7 rfl) A320 hb_ ?_
      obtain ⟨s3_, es3_⟩ : ∃ z : SS, z = sI σ 320 (Int32.toNatClampNeg (x3 - 1)) (x6 - x7) := ⟨_, rfl⟩
      rw [← es3_]
      have hyp := hyp s3_ es3_
      refine r_loc (lv1 := [(0, .ref 284), (2, .int x2), (3, .int x3), (4, .int x4)]) [0, 1, 2, 3] rfl ?_
      exact hyp
  · have hyp := hyp.2 q_
    refine r_iload (dcx dX10_termOf_c1 26 rfl) 5 rfl ?_
    refine r_iload (dcx dX10_termOf_c1 27 rfl) 6 rfl ?_
    refine r_iadd (dcx dX10_termOf_c1 28 rfl) ?_
    refine r_goto (tgt := 158) (dcx dX10_termOf_c1 29 rfl) (by decide) ?_
    obtain ⟨hb_, hyp⟩ := hyp
    refine s_iast (dcx dX10_termOf_c2 7 rfl) A320 hb_ ?_
    obtain ⟨s4_, es4_⟩ : ∃ z : SS, z = sI σ 320 (Int32.toNatClampNeg (x3 - 1)) (x6 + x7) := ⟨_, rfl⟩
    rw [← es4_]
    have hyp := hyp s4_ es4_
    refine r_loc (lv1 := [(0, .ref 284), (2, .int x2), (3, .int x3), (4, .int x4)]) [0, 1, 2, 3] rfl ?_
    exact hyp
set_option maxHeartbeats 4000000 in
set_option maxRecDepth 20000 in
theorem tX10_termOf_159 {Γ : GE} {l : Launch} {x2 : Int32} {x3 : Int32} {x4 : Int32} {σ : SS} {K : Option Value → SS → Prop}  (hyp : wX10_termOf_5 Γ l x2 x3 (x4 + 1) σ K) : wX10_termOf_159 Γ l x2 x3 x4 σ K := by
  show G2 Γ l mX10_termOf 159 [(0, .ref 284), (2, .int x2), (3, .int x3), (4, .int x4)] [] σ K
  refine r_iinc (lv1 := [(4, .int (x4 + 1)), (0, .ref 284), (2, .int x2), (3, .int x3)]) (dcx dX10_termOf_c2 8 rfl) 3 rfl (Nat.le_of_ble_eq_true rfl) rfl ?_
  refine r_goto (tgt := 5) (dcx dX10_termOf_c2 9 rfl) (by decide) ?_
  refine r_loc (lv1 := [(0, .ref 284), (2, .int x2), (3, .int x3), (4, .int (x4 + 1))]) [1, 2, 3, 0] rfl ?_
  exact hyp
set_option maxHeartbeats 4000000 in
set_option maxRecDepth 20000 in
theorem tX10_in {Γ : GE} {l : Launch} {x0 : Int32} {x1 : Int32} {x2 : Int32} {σ : SS} {K : Option Value → SS → Prop}  (hyp : (x0 < x1 → (K (some (.int 0)) σ)) ∧ (¬ (x0 < x1) → ((x2 < x0 → (K (some (.int 0)) σ)) ∧ (¬ (x2 < x0) → (K (some (.int 1)) σ))))) : C2 Γ l mX10_in [.int x0, .int x1, .int x2] σ K := by
  refine c2_of (lv := [(0, .int x0), (1, .int x1), (2, .int x2)]) (by decide) (Nat.le_of_ble_eq_true rfl) rfl ?_
  refine r_iload_n (dcx dX10_in_c0 0 rfl) 0 rfl ?_
  refine r_iload_n (dcx dX10_in_c0 1 rfl) 1 rfl ?_
  refine r_icmp_lt (tgt := 14) (dcx dX10_in_c0 2 rfl) (by decide) (fun q_ => ?_) (fun q_ => ?_)
  · have hyp := hyp.1 q_
    refine r_iconst (v := 0) (dcx dX10_in_c0 8 rfl) rfl ?_
    exact s_ret rfl rfl rfl hyp (dcx dX10_in_c0 9 rfl)
  · have hyp := hyp.2 q_
    refine r_iload_n (dcx dX10_in_c0 3 rfl) 0 rfl ?_
    refine r_iload_n (dcx dX10_in_c0 4 rfl) 2 rfl ?_
    refine r_icmp_gt (tgt := 14) (dcx dX10_in_c0 5 rfl) (by decide) (fun q_ => ?_) (fun q_ => ?_)
    · have hyp := hyp.1 q_
      refine r_iconst (v := 0) (dcx dX10_in_c0 8 rfl) rfl ?_
      exact s_ret rfl rfl rfl hyp (dcx dX10_in_c0 9 rfl)
    · have hyp := hyp.2 q_
      refine r_iconst (v := 1) (dcx dX10_in_c0 6 rfl) rfl ?_
      refine r_goto (tgt := 15) (dcx dX10_in_c0 7 rfl) (by decide) ?_
      exact s_ret rfl rfl rfl hyp (dcx dX10_in_c0 9 rfl)
set_option maxHeartbeats 4000000 in
set_option maxRecDepth 20000 in
theorem tX10_held {Γ : GE} {l : Launch} {x0 : Int32} {x1 : Int32} {x2 : Int32} {σ : SS} {K : Option Value → SS → Prop}  (hyp : (x1 ≤ x0 → ((x0 ≤ x2 → (K (some (.int x0)) σ)) ∧ (¬ (x0 ≤ x2) → (K (some (.int x2)) σ)))) ∧ (¬ (x1 ≤ x0) → (K (some (.int x1)) σ))) : C2 Γ l mX10_held [.int x0, .int x1, .int x2] σ K := by
  refine c2_of (lv := [(0, .int x0), (1, .int x1), (2, .int x2)]) (by decide) (Nat.le_of_ble_eq_true rfl) rfl ?_
  refine r_iload_n (dcx dX10_held_c0 0 rfl) 0 rfl ?_
  refine r_iload_n (dcx dX10_held_c0 1 rfl) 1 rfl ?_
  refine r_icmp_ge (tgt := 9) (dcx dX10_held_c0 2 rfl) (by decide) (fun q_ => ?_) (fun q_ => ?_)
  · have hyp := hyp.1 q_
    refine r_iload_n (dcx dX10_held_c0 5 rfl) 0 rfl ?_
    refine r_iload_n (dcx dX10_held_c0 6 rfl) 2 rfl ?_
    refine r_icmp_le (tgt := 18) (dcx dX10_held_c0 7 rfl) (by decide) (fun q_ => ?_) (fun q_ => ?_)
    · have hyp := hyp.1 q_
      refine r_iload_n (dcx dX10_held_c0 10 rfl) 0 rfl ?_
      exact s_ret rfl rfl rfl hyp (dcx dX10_held_c0 11 rfl)
    · have hyp := hyp.2 q_
      refine r_iload_n (dcx dX10_held_c0 8 rfl) 2 rfl ?_
      refine r_goto (tgt := 19) (dcx dX10_held_c0 9 rfl) (by decide) ?_
      exact s_ret rfl rfl rfl hyp (dcx dX10_held_c0 11 rfl)
  · have hyp := hyp.2 q_
    refine r_iload_n (dcx dX10_held_c0 3 rfl) 1 rfl ?_
    refine r_goto (tgt := 19) (dcx dX10_held_c0 4 rfl) (by decide) ?_
    exact s_ret rfl rfl rfl hyp (dcx dX10_held_c0 11 rfl)
set_option maxHeartbeats 4000000 in
set_option maxRecDepth 20000 in
theorem tX10_isCell {Γ : GE} {l : Launch} {x1 : Int32} {x2 : Int32} {σ : SS} {K : Option Value → SS → Prop}  (hyp : vp_in (σ.1 284 18) 2 ∧ (C2 Γ l mX10_in [.int x1, .int 0, .int ((σ.1 294 (Int32.toNatClampNeg (σ.1 284 18))) - 1)] σ (Ri fun r2_ s1_ => ((r2_ = 0 → (K (some (.int 0)) s1_)) ∧ (¬ (r2_ = 0) → (vp_in (s1_.1 284 18) 2 ∧ (C2 Γ l mX10_in [.int x2, .int 0, .int ((s1_.1 295 (Int32.toNatClampNeg (s1_.1 284 18))) - 1)] s1_ (Ri fun r4_ s3_ => ((r4_ = 0 → (K (some (.int 0)) s3_)) ∧ (¬ (r4_ = 0) → (K (some (.int 1)) s3_))))))))))) : C2 Γ l mX10_isCell [.ref 284, .int x1, .int x2] σ K := by
  refine c2_of (lv := [(0, .ref 284), (1, .int x1), (2, .int x2)]) (by decide) (Nat.le_of_ble_eq_true rfl) rfl ?_
  refine r_iload_n (dcx dX10_isCell_c0 0 rfl) 1 rfl ?_
  refine r_iconst (v := 0) (dcx dX10_isCell_c0 1 rfl) rfl ?_
  refine r_aload_n (dcx dX10_isCell_c0 2 rfl) 0 rfl ?_
  refine s_getr (b := 294) fX10_46 (dcx dX10_isCell_c0 3 rfl) F284_23 ?_
  refine r_aload_n (dcx dX10_isCell_c0 4 rfl) 0 rfl ?_
  refine s_geti fX10_245 (dcx dX10_isCell_c0 5 rfl) F284_18 ?_
  obtain ⟨hb_, hyp⟩ := hyp
  refine s_iald (dcx dX10_isCell_c0 6 rfl) A294 hb_ ?_
  refine r_iconst (v := 1) (dcx dX10_isCell_c0 7 rfl) rfl ?_
  refine r_isub (dcx dX10_isCell_c0 8 rfl) ?_
  refine s_callS (as := [.int x1, .int 0, .int ((σ.1 294 (Int32.toNatClampNeg (σ.1 284 18))) - 1)]) (st := []) zX10_in kX10_isCell_339 (dcx dX10_isCell_c0 9 rfl) rfl rfl (Nat.le_of_ble_eq_true rfl) (C2.mono hyp ?_)
  rintro _ s1_ ⟨r2_, rfl, hyp⟩
  show G2 Γ l mX10_isCell 16 [(0, .ref 284), (1, .int x1), (2, .int x2)] [.int r2_] s1_ K
  refine r_if_eq (tgt := 42) (dcx dX10_isCell_c0 10 rfl) (by decide) (fun q_ => ?_) (fun q_ => ?_)
  · have hyp := hyp.1 q_
    refine r_iconst (v := 0) (dcx dX10_isCell_c0 24 rfl) rfl ?_
    exact s_ret rfl rfl rfl hyp (dcx dX10_isCell_c0 25 rfl)
  · have hyp := hyp.2 q_
    refine r_iload_n (dcx dX10_isCell_c0 11 rfl) 2 rfl ?_
    refine r_iconst (v := 0) (dcx dX10_isCell_c0 12 rfl) rfl ?_
    refine r_aload_n (dcx dX10_isCell_c0 13 rfl) 0 rfl ?_
    refine s_getr (b := 295) fX10_49 (dcx dX10_isCell_c0 14 rfl) F284_24 ?_
    refine r_aload_n (dcx dX10_isCell_c0 15 rfl) 0 rfl ?_
    refine s_geti fX10_245 (dcx dX10_isCell_c0 16 rfl) F284_18 ?_
    obtain ⟨hb_, hyp⟩ := hyp
    refine s_iald (dcx dX10_isCell_c0 17 rfl) A295 hb_ ?_
    refine r_iconst (v := 1) (dcx dX10_isCell_c0 18 rfl) rfl ?_
    refine r_isub (dcx dX10_isCell_c0 19 rfl) ?_
    refine s_callS (as := [.int x2, .int 0, .int ((s1_.1 295 (Int32.toNatClampNeg (s1_.1 284 18))) - 1)]) (st := []) zX10_in kX10_isCell_339 (dcx dX10_isCell_c0 20 rfl) rfl rfl (Nat.le_of_ble_eq_true rfl) (C2.mono hyp ?_)
    rintro _ s3_ ⟨r4_, rfl, hyp⟩
    show G2 Γ l mX10_isCell 35 [(0, .ref 284), (1, .int x1), (2, .int x2)] [.int r4_] s3_ K
    refine r_if_eq (tgt := 42) (dcx dX10_isCell_c0 21 rfl) (by decide) (fun q_ => ?_) (fun q_ => ?_)
    · have hyp := hyp.1 q_
      refine r_iconst (v := 0) (dcx dX10_isCell_c0 24 rfl) rfl ?_
      exact s_ret rfl rfl rfl hyp (dcx dX10_isCell_c0 25 rfl)
    · have hyp := hyp.2 q_
      refine r_iconst (v := 1) (dcx dX10_isCell_c0 22 rfl) rfl ?_
      refine r_goto (tgt := 43) (dcx dX10_isCell_c0 23 rfl) (by decide) ?_
      exact s_ret rfl rfl rfl hyp (dcx dX10_isCell_c0 25 rfl)
set_option maxHeartbeats 4000000 in
set_option maxRecDepth 20000 in
theorem tX10_isSign {Γ : GE} {l : Launch} {x1 : Int32} {σ : SS} {K : Option Value → SS → Prop}  (hyp : vp_in (σ.1 284 18) 2 ∧ (C2 Γ l mX10_in [.int x1, .int 0, .int ((σ.1 297 (Int32.toNatClampNeg (σ.1 284 18))) - 1)] σ (Ri fun r2_ s1_ => (narrow .boolean (.int r2_) = .int r2_ ∧ K (some (.int r2_)) s1_)))) : C2 Γ l mX10_isSign [.ref 284, .int x1] σ K := by
  refine c2_of (lv := [(0, .ref 284), (1, .int x1)]) (by decide) (Nat.le_of_ble_eq_true rfl) rfl ?_
  refine r_iload_n (dcx dX10_isSign_c0 0 rfl) 1 rfl ?_
  refine r_iconst (v := 0) (dcx dX10_isSign_c0 1 rfl) rfl ?_
  refine r_aload_n (dcx dX10_isSign_c0 2 rfl) 0 rfl ?_
  refine s_getr (b := 297) fX10_55 (dcx dX10_isSign_c0 3 rfl) F284_26 ?_
  refine r_aload_n (dcx dX10_isSign_c0 4 rfl) 0 rfl ?_
  refine s_geti fX10_245 (dcx dX10_isSign_c0 5 rfl) F284_18 ?_
  obtain ⟨hb_, hyp⟩ := hyp
  refine s_iald (dcx dX10_isSign_c0 6 rfl) A297 hb_ ?_
  refine r_iconst (v := 1) (dcx dX10_isSign_c0 7 rfl) rfl ?_
  refine r_isub (dcx dX10_isSign_c0 8 rfl) ?_
  refine s_callS (as := [.int x1, .int 0, .int ((σ.1 297 (Int32.toNatClampNeg (σ.1 284 18))) - 1)]) (st := []) zX10_in kX10_isSign_339 (dcx dX10_isSign_c0 9 rfl) rfl rfl (Nat.le_of_ble_eq_true rfl) (C2.mono hyp ?_)
  rintro _ s1_ ⟨r2_, rfl, hyp⟩
  show G2 Γ l mX10_isSign 16 [(0, .ref 284), (1, .int x1)] [.int r2_] s1_ K
  exact s_ret rfl rfl hyp.1 hyp.2 (dcx dX10_isSign_c0 10 rfl)
set_option maxHeartbeats 4000000 in
set_option maxRecDepth 20000 in
theorem tX10_isWindow {Γ : GE} {l : Launch} {x1 : Int32} {σ : SS} {K : Option Value → SS → Prop}  (hyp : vp_in (σ.1 284 18) 2 ∧ (C2 Γ l mX10_in [.int x1, .int 0, .int ((σ.1 299 (Int32.toNatClampNeg (σ.1 284 18))) - 1)] σ (Ri fun r2_ s1_ => (narrow .boolean (.int r2_) = .int r2_ ∧ K (some (.int r2_)) s1_)))) : C2 Γ l mX10_isWindow [.ref 284, .int x1] σ K := by
  refine c2_of (lv := [(0, .ref 284), (1, .int x1)]) (by decide) (Nat.le_of_ble_eq_true rfl) rfl ?_
  refine r_iload_n (dcx dX10_isWindow_c0 0 rfl) 1 rfl ?_
  refine r_iconst (v := 0) (dcx dX10_isWindow_c0 1 rfl) rfl ?_
  refine r_aload_n (dcx dX10_isWindow_c0 2 rfl) 0 rfl ?_
  refine s_getr (b := 299) fX10_62 (dcx dX10_isWindow_c0 3 rfl) F284_28 ?_
  refine r_aload_n (dcx dX10_isWindow_c0 4 rfl) 0 rfl ?_
  refine s_geti fX10_245 (dcx dX10_isWindow_c0 5 rfl) F284_18 ?_
  obtain ⟨hb_, hyp⟩ := hyp
  refine s_iald (dcx dX10_isWindow_c0 6 rfl) A299 hb_ ?_
  refine r_iconst (v := 1) (dcx dX10_isWindow_c0 7 rfl) rfl ?_
  refine r_isub (dcx dX10_isWindow_c0 8 rfl) ?_
  refine s_callS (as := [.int x1, .int 0, .int ((σ.1 299 (Int32.toNatClampNeg (σ.1 284 18))) - 1)]) (st := []) zX10_in kX10_isWindow_339 (dcx dX10_isWindow_c0 9 rfl) rfl rfl (Nat.le_of_ble_eq_true rfl) (C2.mono hyp ?_)
  rintro _ s1_ ⟨r2_, rfl, hyp⟩
  show G2 Γ l mX10_isWindow 16 [(0, .ref 284), (1, .int x1)] [.int r2_] s1_ K
  exact s_ret rfl rfl hyp.1 hyp.2 (dcx dX10_isWindow_c0 10 rfl)
set_option maxHeartbeats 4000000 in
set_option maxRecDepth 20000 in
theorem tX10_isPlace {Γ : GE} {l : Launch} {x1 : Int32} {x2 : Int32} {σ : SS} {K : Option Value → SS → Prop}  (hyp : C2 Γ l mX10_isCell [.ref 284, .int x1, .int x2] σ (Ri fun r2_ s1_ => ((r2_ = 0 → (K (some (.int 0)) s1_)) ∧ (¬ (r2_ = 0) → (C2 Γ l mX10_isCell [.ref 284, .int (x1 + 2), .int (x2 + 2)] s1_ (Ri fun r4_ s3_ => ((r4_ = 0 → (K (some (.int 0)) s3_)) ∧ (¬ (r4_ = 0) → (K (some (.int 1)) s3_))))))))) : C2 Γ l mX10_isPlace [.ref 284, .int x1, .int x2] σ K := by
  refine c2_of (lv := [(0, .ref 284), (1, .int x1), (2, .int x2)]) (by decide) (Nat.le_of_ble_eq_true rfl) rfl ?_
  refine r_aload_n (dcx dX10_isPlace_c0 0 rfl) 0 rfl ?_
  refine r_iload_n (dcx dX10_isPlace_c0 1 rfl) 1 rfl ?_
  refine r_iload_n (dcx dX10_isPlace_c0 2 rfl) 2 rfl ?_
  refine s_callV (as := [.int x1, .int x2]) (st := []) zX10_isCell kX10_isPlace_343 (dcx dX10_isPlace_c0 3 rfl) rfl rfl (Nat.le_of_ble_eq_true rfl) O284 rfl rfl (C2.mono hyp ?_)
  rintro _ s1_ ⟨r2_, rfl, hyp⟩
  show G2 Γ l mX10_isPlace 6 [(0, .ref 284), (1, .int x1), (2, .int x2)] [.int r2_] s1_ K
  refine r_if_eq (tgt := 26) (dcx dX10_isPlace_c0 4 rfl) (by decide) (fun q_ => ?_) (fun q_ => ?_)
  · have hyp := hyp.1 q_
    refine r_iconst (v := 0) (dcx dX10_isPlace_c0 16 rfl) rfl ?_
    exact s_ret rfl rfl rfl hyp (dcx dX10_isPlace_c0 17 rfl)
  · have hyp := hyp.2 q_
    refine r_aload_n (dcx dX10_isPlace_c0 5 rfl) 0 rfl ?_
    refine r_iload_n (dcx dX10_isPlace_c0 6 rfl) 1 rfl ?_
    refine r_iconst (v := 2) (dcx dX10_isPlace_c0 7 rfl) rfl ?_
    refine r_iadd (dcx dX10_isPlace_c0 8 rfl) ?_
    refine r_iload_n (dcx dX10_isPlace_c0 9 rfl) 2 rfl ?_
    refine r_iconst (v := 2) (dcx dX10_isPlace_c0 10 rfl) rfl ?_
    refine r_iadd (dcx dX10_isPlace_c0 11 rfl) ?_
    refine s_callV (as := [.int (x1 + 2), .int (x2 + 2)]) (st := []) zX10_isCell kX10_isPlace_343 (dcx dX10_isPlace_c0 12 rfl) rfl rfl (Nat.le_of_ble_eq_true rfl) O284 rfl rfl (C2.mono hyp ?_)
    rintro _ s3_ ⟨r4_, rfl, hyp⟩
    show G2 Γ l mX10_isPlace 19 [(0, .ref 284), (1, .int x1), (2, .int x2)] [.int r4_] s3_ K
    refine r_if_eq (tgt := 26) (dcx dX10_isPlace_c0 13 rfl) (by decide) (fun q_ => ?_) (fun q_ => ?_)
    · have hyp := hyp.1 q_
      refine r_iconst (v := 0) (dcx dX10_isPlace_c0 16 rfl) rfl ?_
      exact s_ret rfl rfl rfl hyp (dcx dX10_isPlace_c0 17 rfl)
    · have hyp := hyp.2 q_
      refine r_iconst (v := 1) (dcx dX10_isPlace_c0 14 rfl) rfl ?_
      refine r_goto (tgt := 27) (dcx dX10_isPlace_c0 15 rfl) (by decide) ?_
      exact s_ret rfl rfl rfl hyp (dcx dX10_isPlace_c0 17 rfl)
set_option maxHeartbeats 4000000 in
set_option maxRecDepth 20000 in
theorem tX10_isGrass {Γ : GE} {l : Launch} {x1 : Int32} {x2 : Int32} {σ : SS} {K : Option Value → SS → Prop}  (hyp : vp_in (((48 * (σ.1 284 18)) + (8 * x2)) + x1) 96 ∧ (((σ.1 296 (Int32.toNatClampNeg (((48 * (σ.1 284 18)) + (8 * x2)) + x1))) < 0 → (K (some (.int 0)) σ)) ∧ (¬ ((σ.1 296 (Int32.toNatClampNeg (((48 * (σ.1 284 18)) + (8 * x2)) + x1))) < 0) → (K (some (.int 1)) σ)))) : C2 Γ l mX10_isGrass [.ref 284, .int x1, .int x2] σ K := by
  refine c2_of (lv := [(0, .ref 284), (1, .int x1), (2, .int x2)]) (by decide) (Nat.le_of_ble_eq_true rfl) rfl ?_
  refine r_aload_n (dcx dX10_isGrass_c0 0 rfl) 0 rfl ?_
  refine s_getr (b := 296) fX10_52 (dcx dX10_isGrass_c0 1 rfl) F284_25 ?_
  refine r_bipush (v := 48) (dcx dX10_isGrass_c0 2 rfl) rfl ?_
  refine r_aload_n (dcx dX10_isGrass_c0 3 rfl) 0 rfl ?_
  refine s_geti fX10_245 (dcx dX10_isGrass_c0 4 rfl) F284_18 ?_
  refine r_imul (dcx dX10_isGrass_c0 5 rfl) ?_
  refine r_bipush (v := 8) (dcx dX10_isGrass_c0 6 rfl) rfl ?_
  refine r_iload_n (dcx dX10_isGrass_c0 7 rfl) 2 rfl ?_
  refine r_imul (dcx dX10_isGrass_c0 8 rfl) ?_
  refine r_iadd (dcx dX10_isGrass_c0 9 rfl) ?_
  refine r_iload_n (dcx dX10_isGrass_c0 10 rfl) 1 rfl ?_
  refine r_iadd (dcx dX10_isGrass_c0 11 rfl) ?_
  obtain ⟨hb_, hyp⟩ := hyp
  refine s_iald (dcx dX10_isGrass_c0 12 rfl) A296 hb_ ?_
  refine r_if_lt (tgt := 26) (dcx dX10_isGrass_c0 13 rfl) (by decide) (fun q_ => ?_) (fun q_ => ?_)
  · have hyp := hyp.1 q_
    refine r_iconst (v := 0) (dcx dX10_isGrass_c0 16 rfl) rfl ?_
    exact s_ret rfl rfl rfl hyp (dcx dX10_isGrass_c0 17 rfl)
  · have hyp := hyp.2 q_
    refine r_iconst (v := 1) (dcx dX10_isGrass_c0 14 rfl) rfl ?_
    refine r_goto (tgt := 27) (dcx dX10_isGrass_c0 15 rfl) (by decide) ?_
    exact s_ret rfl rfl rfl hyp (dcx dX10_isGrass_c0 17 rfl)
def wX10_begins_2 (Γ : GE) (l : Launch) (x1 : Int32) (σ : SS) (K : Option Value → SS → Prop) : Prop := G2 Γ l mX10_begins 2 [(0, .ref 284), (1, .int x1)] [] σ K
def wX10_begins_23 (Γ : GE) (l : Launch) (x1 : Int32) (σ : SS) (K : Option Value → SS → Prop) : Prop := G2 Γ l mX10_begins 23 [(0, .ref 284), (1, .int x1)] [] σ K
def wX10_begins_38 (Γ : GE) (l : Launch) (x1 : Int32) (x2 : Int32) (σ : SS) (K : Option Value → SS → Prop) : Prop := G2 Γ l mX10_begins 38 [(0, .ref 284), (1, .int x1), (2, .int x2)] [] σ K
set_option maxHeartbeats 4000000 in
set_option maxRecDepth 20000 in
theorem tX10_begins {Γ : GE} {l : Launch}  {σ : SS} {K : Option Value → SS → Prop}  (hyp : wX10_begins_2 Γ l 0 σ K) : C2 Γ l mX10_begins [.ref 284] σ K := by
  refine c2_of (lv := [(0, .ref 284)]) (by decide) (Nat.le_of_ble_eq_true rfl) rfl ?_
  refine r_iconst (v := 0) (dcx dX10_begins_c0 0 rfl) rfl ?_
  refine r_istore_n (lv1 := [(1, .int 0), (0, .ref 284)]) (dcx dX10_begins_c0 1 rfl) (Nat.le_of_ble_eq_true rfl) rfl ?_
  refine r_loc (lv1 := [(0, .ref 284), (1, .int 0)]) [1, 0] rfl ?_
  exact hyp
set_option maxHeartbeats 4000000 in
set_option maxRecDepth 20000 in
theorem tX10_begins_2 {Γ : GE} {l : Launch} {x1 : Int32} {σ : SS} {K : Option Value → SS → Prop}  (hyp : ((106 : Int32) ≤ x1 → (wX10_begins_23 Γ l 0 σ K)) ∧ (¬ ((106 : Int32) ≤ x1) → (vp_in x1 106 ∧ (∀ s1_ : SS, s1_ = sI σ 322 (Int32.toNatClampNeg x1) 0 → (wX10_begins_2 Γ l (x1 + 1) s1_ K))))) : wX10_begins_2 Γ l x1 σ K := by
  show G2 Γ l mX10_begins 2 [(0, .ref 284), (1, .int x1)] [] σ K
  refine r_iload_n (dcx dX10_begins_c0 2 rfl) 1 rfl ?_
  refine r_bipush (v := 106) (dcx dX10_begins_c0 3 rfl) rfl ?_
  refine r_icmp_ge (tgt := 21) (dcx dX10_begins_c0 4 rfl) (by decide) (fun q_ => ?_) (fun q_ => ?_)
  · have hyp := hyp.1 q_
    refine r_iconst (v := 0) (dcx dX10_begins_c0 12 rfl) rfl ?_
    refine r_istore_n (lv1 := [(1, .int 0), (0, .ref 284)]) (dcx dX10_begins_c0 13 rfl) (Nat.le_of_ble_eq_true rfl) rfl ?_
    refine r_loc (lv1 := [(0, .ref 284), (1, .int 0)]) [1, 0] rfl ?_
    exact hyp
  · have hyp := hyp.2 q_
    refine r_aload_n (dcx dX10_begins_c0 5 rfl) 0 rfl ?_
    refine s_getr (b := 322) fX10_131 (dcx dX10_begins_c0 6 rfl) F284_55 ?_
    refine r_iload_n (dcx dX10_begins_c0 7 rfl) 1 rfl ?_
    refine r_iconst (v := 0) (dcx dX10_begins_c0 8 rfl) rfl ?_
    obtain ⟨hb_, hyp⟩ := hyp
    refine s_iast (dcx dX10_begins_c0 9 rfl) A322 hb_ ?_
    obtain ⟨s1_, es1_⟩ : ∃ z : SS, z = sI σ 322 (Int32.toNatClampNeg x1) 0 := ⟨_, rfl⟩
    rw [← es1_]
    have hyp := hyp s1_ es1_
    refine r_iinc (lv1 := [(1, .int (x1 + 1)), (0, .ref 284)]) (dcx dX10_begins_c0 10 rfl) 1 rfl (Nat.le_of_ble_eq_true rfl) rfl ?_
    refine r_goto (tgt := 2) (dcx dX10_begins_c0 11 rfl) (by decide) ?_
    refine r_loc (lv1 := [(0, .ref 284), (1, .int (x1 + 1))]) [1, 0] rfl ?_
    exact hyp
set_option maxHeartbeats 4000000 in
set_option maxRecDepth 20000 in
theorem tX10_begins_23 {Γ : GE} {l : Launch} {x1 : Int32} {σ : SS} {K : Option Value → SS → Prop}  (hyp : vp_in (σ.1 284 18) 2 ∧ (((σ.1 295 (Int32.toNatClampNeg (σ.1 284 18))) ≤ x1 → (vp_in (σ.1 284 18) 2 ∧ (∀ s1_ : SS, s1_ = sI σ 284 56 (σ.1 308 (Int32.toNatClampNeg (σ.1 284 18))) → (K none s1_)))) ∧ (¬ ((σ.1 295 (Int32.toNatClampNeg (σ.1 284 18))) ≤ x1) → (wX10_begins_38 Γ l x1 0 σ K)))) : wX10_begins_23 Γ l x1 σ K := by
  show G2 Γ l mX10_begins 23 [(0, .ref 284), (1, .int x1)] [] σ K
  refine r_iload_n (dcx dX10_begins_c0 14 rfl) 1 rfl ?_
  refine r_aload_n (dcx dX10_begins_c0 15 rfl) 0 rfl ?_
  refine s_getr (b := 295) fX10_49 (dcx dX10_begins_c0 16 rfl) F284_24 ?_
  refine r_aload_n (dcx dX10_begins_c0 17 rfl) 0 rfl ?_
  refine s_geti fX10_245 (dcx dX10_begins_c0 18 rfl) F284_18 ?_
  obtain ⟨hb_, hyp⟩ := hyp
  refine s_iald (dcx dX10_begins_c0 19 rfl) A295 hb_ ?_
  refine r_icmp_ge (tgt := 92) (dcx dX10_begins_c0 20 rfl) (by decide) (fun q_ => ?_) (fun q_ => ?_)
  · have hyp := hyp.1 q_
    refine r_aload_n (dcx dX10_begins_c1 12 rfl) 0 rfl ?_
    refine r_aload_n (dcx dX10_begins_c1 13 rfl) 0 rfl ?_
    refine s_getr (b := 308) fX10_89 (dcx dX10_begins_c1 14 rfl) F284_37 ?_
    refine r_aload_n (dcx dX10_begins_c1 15 rfl) 0 rfl ?_
    refine s_geti fX10_245 (dcx dX10_begins_c1 16 rfl) F284_18 ?_
    obtain ⟨hb_, hyp⟩ := hyp
    refine s_iald (dcx dX10_begins_c1 17 rfl) A308 hb_ ?_
    refine s_puti gX10_350 (dcx dX10_begins_c1 18 rfl) F284_56 ?_
    obtain ⟨s1_, es1_⟩ : ∃ z : SS, z = sI σ 284 56 (σ.1 308 (Int32.toNatClampNeg (σ.1 284 18))) := ⟨_, rfl⟩
    rw [← es1_]
    have hyp := hyp s1_ es1_
    exact s_vret rfl hyp (dcx dX10_begins_c1 19 rfl)
  · have hyp := hyp.2 q_
    refine r_iconst (v := 0) (dcx dX10_begins_c0 21 rfl) rfl ?_
    refine r_istore_n (lv1 := [(2, .int 0), (0, .ref 284), (1, .int x1)]) (dcx dX10_begins_c0 22 rfl) (Nat.le_of_ble_eq_true rfl) rfl ?_
    refine r_loc (lv1 := [(0, .ref 284), (1, .int x1), (2, .int 0)]) [1, 2, 0] rfl ?_
    exact hyp
set_option maxHeartbeats 4000000 in
set_option maxRecDepth 20000 in
theorem tX10_begins_38 {Γ : GE} {l : Launch} {x1 : Int32} {x2 : Int32} {σ : SS} {K : Option Value → SS → Prop}  (hyp : vp_in (σ.1 284 18) 2 ∧ (((σ.1 294 (Int32.toNatClampNeg (σ.1 284 18))) ≤ x2 → (wX10_begins_23 Γ l (x1 + 1) σ K)) ∧ (¬ ((σ.1 294 (Int32.toNatClampNeg (σ.1 284 18))) ≤ x2) → (C2 Γ l mX10_isGrass [.ref 284, .int x2, .int x1] σ (Ri fun r2_ s1_ => ((r2_ = 0 → (wX10_begins_38 Γ l x1 (x2 + 1) s1_ K)) ∧ (¬ (r2_ = 0) → (vp_in (s1_.1 284 18) 2 ∧ (vp_in ((8 * x1) + x2) 106 ∧ (∀ s3_ : SS, s3_ = sI s1_ 322 (Int32.toNatClampNeg ((8 * x1) + x2)) (s1_.1 305 (Int32.toNatClampNeg (s1_.1 284 18))) → (wX10_begins_38 Γ l x1 (x2 + 1) s3_ K))))))))))) : wX10_begins_38 Γ l x1 x2 σ K := by
  show G2 Γ l mX10_begins 38 [(0, .ref 284), (1, .int x1), (2, .int x2)] [] σ K
  refine r_iload_n (dcx dX10_begins_c0 23 rfl) 2 rfl ?_
  refine r_aload_n (dcx dX10_begins_c0 24 rfl) 0 rfl ?_
  refine s_getr (b := 294) fX10_46 (dcx dX10_begins_c0 25 rfl) F284_23 ?_
  refine r_aload_n (dcx dX10_begins_c0 26 rfl) 0 rfl ?_
  refine s_geti fX10_245 (dcx dX10_begins_c0 27 rfl) F284_18 ?_
  obtain ⟨hb_, hyp⟩ := hyp
  refine s_iald (dcx dX10_begins_c0 28 rfl) A294 hb_ ?_
  refine r_icmp_ge (tgt := 86) (dcx dX10_begins_c0 29 rfl) (by decide) (fun q_ => ?_) (fun q_ => ?_)
  · have hyp := hyp.1 q_
    refine r_iinc (lv1 := [(1, .int (x1 + 1)), (0, .ref 284), (2, .int x2)]) (dcx dX10_begins_c1 10 rfl) 1 rfl (Nat.le_of_ble_eq_true rfl) rfl ?_
    refine r_goto (tgt := 23) (dcx dX10_begins_c1 11 rfl) (by decide) ?_
    refine r_loc (lv1 := [(0, .ref 284), (1, .int (x1 + 1))]) [1, 0] rfl ?_
    exact hyp
  · have hyp := hyp.2 q_
    refine r_aload_n (dcx dX10_begins_c0 30 rfl) 0 rfl ?_
    refine r_iload_n (dcx dX10_begins_c0 31 rfl) 2 rfl ?_
    refine r_iload_n (dcx dX10_begins_c0 32 rfl) 1 rfl ?_
    refine s_callV (as := [.int x2, .int x1]) (st := []) zX10_isGrass kX10_begins_347 (dcx dX10_begins_c0 33 rfl) rfl rfl (Nat.le_of_ble_eq_true rfl) O284 rfl rfl (C2.mono hyp ?_)
    rintro _ s1_ ⟨r2_, rfl, hyp⟩
    show G2 Γ l mX10_begins 57 [(0, .ref 284), (1, .int x1), (2, .int x2)] [.int r2_] s1_ K
    refine r_if_eq (tgt := 80) (dcx dX10_begins_c0 34 rfl) (by decide) (fun q_ => ?_) (fun q_ => ?_)
    · have hyp := hyp.1 q_
      refine r_iinc (lv1 := [(2, .int (x2 + 1)), (0, .ref 284), (1, .int x1)]) (dcx dX10_begins_c1 8 rfl) 2 rfl (Nat.le_of_ble_eq_true rfl) rfl ?_
      refine r_goto (tgt := 38) (dcx dX10_begins_c1 9 rfl) (by decide) ?_
      refine r_loc (lv1 := [(0, .ref 284), (1, .int x1), (2, .int (x2 + 1))]) [1, 2, 0] rfl ?_
      exact hyp
    · have hyp := hyp.2 q_
      refine r_aload_n (dcx dX10_begins_c0 35 rfl) 0 rfl ?_
      refine s_getr (b := 322) fX10_131 (dcx dX10_begins_c0 36 rfl) F284_55 ?_
      refine r_bipush (v := 8) (dcx dX10_begins_c0 37 rfl) rfl ?_
      refine r_iload_n (dcx dX10_begins_c0 38 rfl) 1 rfl ?_
      refine r_imul (dcx dX10_begins_c0 39 rfl) ?_
      refine r_iload_n (dcx dX10_begins_c1 0 rfl) 2 rfl ?_
      refine r_iadd (dcx dX10_begins_c1 1 rfl) ?_
      refine r_aload_n (dcx dX10_begins_c1 2 rfl) 0 rfl ?_
      refine s_getr (b := 305) fX10_80 (dcx dX10_begins_c1 3 rfl) F284_34 ?_
      refine r_aload_n (dcx dX10_begins_c1 4 rfl) 0 rfl ?_
      refine s_geti fX10_245 (dcx dX10_begins_c1 5 rfl) F284_18 ?_
      obtain ⟨hb_, hyp⟩ := hyp
      refine s_iald (dcx dX10_begins_c1 6 rfl) A305 hb_ ?_
      obtain ⟨hb_, hyp⟩ := hyp
      refine s_iast (dcx dX10_begins_c1 7 rfl) A322 hb_ ?_
      obtain ⟨s3_, es3_⟩ : ∃ z : SS, z = sI s1_ 322 (Int32.toNatClampNeg ((8 * x1) + x2)) (s1_.1 305 (Int32.toNatClampNeg (s1_.1 284 18))) := ⟨_, rfl⟩
      rw [← es3_]
      have hyp := hyp s3_ es3_
      refine r_iinc (lv1 := [(2, .int (x2 + 1)), (0, .ref 284), (1, .int x1)]) (dcx dX10_begins_c1 8 rfl) 2 rfl (Nat.le_of_ble_eq_true rfl) rfl ?_
      refine r_goto (tgt := 38) (dcx dX10_begins_c1 9 rfl) (by decide) ?_
      refine r_loc (lv1 := [(0, .ref 284), (1, .int x1), (2, .int (x2 + 1))]) [1, 2, 0] rfl ?_
      exact hyp
