def wX10_tellSign_7 (Γ : GE) (l : Launch) (x1 : Int32) (x2 : Int32) (σ : SS) (K : Option Value → SS → Prop) : Prop := G2 Γ l mX10_tellSign 7 [(0, .ref 284), (1, .int x1), (2, .int x2)] [] σ K
def wX10_tellSign_163 (Γ : GE) (l : Launch) (x1 : Int32) (σ : SS) (K : Option Value → SS → Prop) : Prop := G2 Γ l mX10_tellSign 163 [(0, .ref 284), (1, .int x1)] [] σ K
def wX10_tellSign_60 (Γ : GE) (l : Launch) (x1 : Int32) (x2 : Int32) (x3 : Int32) (x4 : Int32) (x5 : Int32) (σ : SS) (K : Option Value → SS → Prop) : Prop := G2 Γ l mX10_tellSign 60 [(0, .ref 284), (1, .int x1), (2, .int x2), (3, .int x3), (4, .int x4), (5, .int x5)] [] σ K
def wX10_tellSign_157 (Γ : GE) (l : Launch) (x1 : Int32) (x2 : Int32) (σ : SS) (K : Option Value → SS → Prop) : Prop := G2 Γ l mX10_tellSign 157 [(0, .ref 284), (1, .int x1), (2, .int x2)] [] σ K
def wX10_tellSign_96 (Γ : GE) (l : Launch) (x1 : Int32) (x2 : Int32) (x3 : Int32) (x4 : Int32) (x5 : Int32) (x6 : Int32) (σ : SS) (K : Option Value → SS → Prop) : Prop := G2 Γ l mX10_tellSign 96 [(0, .ref 284), (1, .int x1), (2, .int x2), (3, .int x3), (4, .int x4), (5, .int x5), (6, .int x6)] [] σ K
set_option maxHeartbeats 4000000 in
set_option maxRecDepth 20000 in
theorem tX10_tellSign {Γ : GE} {l : Launch}  {σ : SS} {K : Option Value → SS → Prop}  (hyp : C2 Γ l mX10_named [.ref 284] σ (Ri fun r2_ s1_ => (wX10_tellSign_7 Γ l r2_ 0 s1_ K))) : C2 Γ l mX10_tellSign [.ref 284] σ K := by
  refine c2_of (lv := [(0, .ref 284)]) (by decide) (Nat.le_of_ble_eq_true rfl) rfl ?_
  refine r_aload_n (dcx dX10_tellSign_c0 0 rfl) 0 rfl ?_
  refine s_callV (as := []) (st := []) zX10_named kX10_tellSign_306 (dcx dX10_tellSign_c0 1 rfl) rfl rfl (Nat.le_of_ble_eq_true rfl) O284 rfl rfl (C2.mono hyp ?_)
  rintro _ s1_ ⟨r2_, rfl, hyp⟩
  show G2 Γ l mX10_tellSign 4 [(0, .ref 284)] [.int r2_] s1_ K
  refine r_istore_n (lv1 := [(1, .int r2_), (0, .ref 284)]) (dcx dX10_tellSign_c0 2 rfl) (Nat.le_of_ble_eq_true rfl) rfl ?_
  refine r_iconst (v := 0) (dcx dX10_tellSign_c0 3 rfl) rfl ?_
  refine r_istore_n (lv1 := [(2, .int 0), (1, .int r2_), (0, .ref 284)]) (dcx dX10_tellSign_c0 4 rfl) (Nat.le_of_ble_eq_true rfl) rfl ?_
  refine r_loc (lv1 := [(0, .ref 284), (1, .int r2_), (2, .int 0)]) [2, 1, 0] rfl ?_
  exact hyp
set_option maxHeartbeats 4000000 in
set_option maxRecDepth 20000 in
theorem tX10_tellSign_7 {Γ : GE} {l : Launch} {x1 : Int32} {x2 : Int32} {σ : SS} {K : Option Value → SS → Prop}  (hyp : ((3 : Int32) ≤ x2 → (wX10_tellSign_163 Γ l x1 σ K)) ∧ (¬ ((3 : Int32) ≤ x2) → ((¬ (σ.1 284 13) = 0 → (wX10_tellSign_163 Γ l x1 σ K)) ∧ ((σ.1 284 13) = 0 → (C2 Γ l mX10_must [.ref 284, .int 1] σ (Rv fun s1_ => (((s1_.1 284 13) ≤ 0 → (vp_in (σ.1 284 11) 403 ∧ (C2 Γ l mX10_lettersIn [.long (s1_.2.1 290 (Int32.toNatClampNeg (σ.1 284 11)))] s1_ (Ri fun r4_ s3_ => ((¬ r4_ = 3 → (wX10_tellSign_60 Γ l x1 x2 (σ.1 284 11) 0 0 s3_ K)) ∧ (r4_ = 3 → (wX10_tellSign_60 Γ l x1 x2 (σ.1 284 11) 1 0 s3_ K))))))) ∧ (¬ ((s1_.1 284 13) ≤ 0) → (K none s1_))))))))) : wX10_tellSign_7 Γ l x1 x2 σ K := by
  show G2 Γ l mX10_tellSign 7 [(0, .ref 284), (1, .int x1), (2, .int x2)] [] σ K
  refine r_iload_n (dcx dX10_tellSign_c0 5 rfl) 2 rfl ?_
  refine r_iconst (v := 3) (dcx dX10_tellSign_c0 6 rfl) rfl ?_
  refine r_icmp_ge (tgt := 163) (dcx dX10_tellSign_c0 7 rfl) (by decide) (fun q_ => ?_) (fun q_ => ?_)
  · have hyp := hyp.1 q_
    refine r_loc (lv1 := [(0, .ref 284), (1, .int x1)]) [0, 1] rfl ?_
    exact hyp
  · have hyp := hyp.2 q_
    refine r_aload_n (dcx dX10_tellSign_c0 8 rfl) 0 rfl ?_
    refine s_geti fX10_215 (dcx dX10_tellSign_c0 9 rfl) F284_13 ?_
    refine r_if_ne (tgt := 163) (dcx dX10_tellSign_c0 10 rfl) (by decide) (fun q_ => ?_) (fun q_ => ?_)
    · have hyp := hyp.1 q_
      refine r_loc (lv1 := [(0, .ref 284), (1, .int x1)]) [0, 1] rfl ?_
      exact hyp
    · have hyp := hyp.2 q_
      refine r_aload_n (dcx dX10_tellSign_c0 11 rfl) 0 rfl ?_
      refine s_geti fX10_218 (dcx dX10_tellSign_c0 12 rfl) F284_11 ?_
      refine r_istore_n (lv1 := [(3, .int (σ.1 284 11)), (0, .ref 284), (1, .int x1), (2, .int x2)]) (dcx dX10_tellSign_c0 13 rfl) (Nat.le_of_ble_eq_true rfl) rfl ?_
      refine r_aload_n (dcx dX10_tellSign_c0 14 rfl) 1 rfl ?_
      refine r_iconst (v := 1) (dcx dX10_tellSign_c0 15 rfl) rfl ?_
      refine s_callV (as := [.int 1]) (st := []) zX10_must kX10_tellSign_289 (dcx dX10_tellSign_c0 16 rfl) rfl rfl (Nat.le_of_ble_eq_true rfl) O284 rfl rfl (C2.mono hyp ?_)
      rintro _ s1_ ⟨rfl, hyp⟩
      show G2 Γ l mX10_tellSign 29 [(3, .int (σ.1 284 11)), (0, .ref 284), (1, .int x1), (2, .int x2)] [] s1_ K
      refine r_aload_n (dcx dX10_tellSign_c0 17 rfl) 1 rfl ?_
      refine s_geti fX10_215 (dcx dX10_tellSign_c0 18 rfl) F284_13 ?_
      refine r_if_le (tgt := 37) (dcx dX10_tellSign_c0 19 rfl) (by decide) (fun q_ => ?_) (fun q_ => ?_)
      · have hyp := hyp.1 q_
        refine r_aload_n (dcx dX10_tellSign_c0 21 rfl) 1 rfl ?_
        refine s_getr (b := 290) fX10_30 (dcx dX10_tellSign_c0 22 rfl) F284_8 ?_
        refine r_iload_n (dcx dX10_tellSign_c0 23 rfl) 0 rfl ?_
        obtain ⟨hb_, hyp⟩ := hyp
        refine s_lald (dcx dX10_tellSign_c0 24 rfl) A290 hb_ ?_
        refine s_callS (as := [.long (s1_.2.1 290 (Int32.toNatClampNeg (σ.1 284 11)))]) (st := []) zX10_lettersIn kX10_tellSign_295 (dcx dX10_tellSign_c0 25 rfl) rfl rfl (Nat.le_of_ble_eq_true rfl) (C2.mono hyp ?_)
        rintro _ s3_ ⟨r4_, rfl, hyp⟩
        show G2 Γ l mX10_tellSign 46 [(3, .int (σ.1 284 11)), (0, .ref 284), (1, .int x1), (2, .int x2)] [.int r4_] s3_ K
        refine r_iconst (v := 3) (dcx dX10_tellSign_c0 26 rfl) rfl ?_
        refine r_icmp_ne (tgt := 54) (dcx dX10_tellSign_c0 27 rfl) (by decide) (fun q_ => ?_) (fun q_ => ?_)
        · have hyp := hyp.1 q_
          refine r_iconst (v := 0) (dcx dX10_tellSign_c0 30 rfl) rfl ?_
          refine r_istore (lv1 := [(4, .int 0), (3, .int (σ.1 284 11)), (0, .ref 284), (1, .int x1), (2, .int x2)]) (dcx dX10_tellSign_c0 31 rfl) (Nat.le_of_ble_eq_true rfl) rfl ?_
          refine r_iconst (v := 0) (dcx dX10_tellSign_c0 32 rfl) rfl ?_
          refine r_istore (lv1 := [(5, .int 0), (4, .int 0), (3, .int (σ.1 284 11)), (0, .ref 284), (1, .int x1), (2, .int x2)]) (dcx dX10_tellSign_c0 33 rfl) (Nat.le_of_ble_eq_true rfl) rfl ?_
          refine r_loc (lv1 := [(0, .ref 284), (1, .int x1), (2, .int x2), (3, .int (σ.1 284 11)), (4, .int 0), (5, .int 0)]) [3, 4, 5, 2, 1, 0] rfl ?_
          exact hyp
        · have hyp := hyp.2 q_
          refine r_iconst (v := 1) (dcx dX10_tellSign_c0 28 rfl) rfl ?_
          refine r_goto (tgt := 55) (dcx dX10_tellSign_c0 29 rfl) (by decide) ?_
          refine r_istore (lv1 := [(4, .int 1), (3, .int (σ.1 284 11)), (0, .ref 284), (1, .int x1), (2, .int x2)]) (dcx dX10_tellSign_c0 31 rfl) (Nat.le_of_ble_eq_true rfl) rfl ?_
          refine r_iconst (v := 0) (dcx dX10_tellSign_c0 32 rfl) rfl ?_
          refine r_istore (lv1 := [(5, .int 0), (4, .int 1), (3, .int (σ.1 284 11)), (0, .ref 284), (1, .int x1), (2, .int x2)]) (dcx dX10_tellSign_c0 33 rfl) (Nat.le_of_ble_eq_true rfl) rfl ?_
          refine r_loc (lv1 := [(0, .ref 284), (1, .int x1), (2, .int x2), (3, .int (σ.1 284 11)), (4, .int 1), (5, .int 0)]) [3, 4, 5, 2, 1, 0] rfl ?_
          exact hyp
      · have hyp := hyp.2 q_
        exact s_vret rfl hyp (dcx dX10_tellSign_c0 20 rfl)
set_option maxHeartbeats 4000000 in
set_option maxRecDepth 20000 in
theorem tX10_tellSign_163 {Γ : GE} {l : Launch} {x1 : Int32} {σ : SS} {K : Option Value → SS → Prop}  (hyp : C2 Γ l mX10_ends [.ref 284, .int x1, .int ((-1))] σ (Rv fun s1_ => ((¬ (s1_.1 284 13) = 0 → (K none s1_)) ∧ ((s1_.1 284 13) = 0 → (vp_in (s1_.1 284 19) 2 ∧ (vp_in (s1_.1 284 19) 2 ∧ (∀ s3_ : SS, s3_ = sI s1_ 297 (Int32.toNatClampNeg (s1_.1 284 19)) ((s1_.1 297 (Int32.toNatClampNeg (s1_.1 284 19))) + 1) → (K none s3_)))))))) : wX10_tellSign_163 Γ l x1 σ K := by
  show G2 Γ l mX10_tellSign 163 [(0, .ref 284), (1, .int x1)] [] σ K
  refine r_aload_n (dcx dX10_tellSign_c2 9 rfl) 0 rfl ?_
  refine r_iload_n (dcx dX10_tellSign_c2 10 rfl) 1 rfl ?_
  refine r_iconst (v := (-1)) (dcx dX10_tellSign_c2 11 rfl) rfl ?_
  refine s_callV (as := [.int x1, .int ((-1))]) (st := []) zX10_ends kX10_tellSign_310 (dcx dX10_tellSign_c2 12 rfl) rfl rfl (Nat.le_of_ble_eq_true rfl) O284 rfl rfl (C2.mono hyp ?_)
  rintro _ s1_ ⟨rfl, hyp⟩
  show G2 Γ l mX10_tellSign 169 [(0, .ref 284), (1, .int x1)] [] s1_ K
  refine r_aload_n (dcx dX10_tellSign_c2 13 rfl) 0 rfl ?_
  refine s_geti fX10_215 (dcx dX10_tellSign_c2 14 rfl) F284_13 ?_
  refine r_if_ne (tgt := 189) (dcx dX10_tellSign_c2 15 rfl) (by decide) (fun q_ => ?_) (fun q_ => ?_)
  · have hyp := hyp.1 q_
    exact s_vret rfl hyp (dcx dX10_tellSign_c2 25 rfl)
  · have hyp := hyp.2 q_
    refine r_aload_n (dcx dX10_tellSign_c2 16 rfl) 0 rfl ?_
    refine s_getr (b := 297) fX10_55 (dcx dX10_tellSign_c2 17 rfl) F284_26 ?_
    refine r_aload_n (dcx dX10_tellSign_c2 18 rfl) 0 rfl ?_
    refine s_geti fX10_248 (dcx dX10_tellSign_c2 19 rfl) F284_19 ?_
    refine r_dup2 (dcx dX10_tellSign_c2 20 rfl) rfl rfl ?_
    obtain ⟨hb_, hyp⟩ := hyp
    refine s_iald (dcx dX10_tellSign_c2 21 rfl) A297 hb_ ?_
    refine r_iconst (v := 1) (dcx dX10_tellSign_c2 22 rfl) rfl ?_
    refine r_iadd (dcx dX10_tellSign_c2 23 rfl) ?_
    obtain ⟨hb_, hyp⟩ := hyp
    refine s_iast (dcx dX10_tellSign_c2 24 rfl) A297 hb_ ?_
    obtain ⟨s3_, es3_⟩ : ∃ z : SS, z = sI s1_ 297 (Int32.toNatClampNeg (s1_.1 284 19)) ((s1_.1 297 (Int32.toNatClampNeg (s1_.1 284 19))) + 1) := ⟨_, rfl⟩
    rw [← es3_]
    have hyp := hyp s3_ es3_
    exact s_vret rfl hyp (dcx dX10_tellSign_c2 25 rfl)
set_option maxHeartbeats 4000000 in
set_option maxRecDepth 20000 in
theorem tX10_tellSign_60 {Γ : GE} {l : Launch} {x1 : Int32} {x2 : Int32} {x3 : Int32} {x4 : Int32} {x5 : Int32} {σ : SS} {K : Option Value → SS → Prop}  (hyp : ((3 : Int32) ≤ x5 → ((¬ x4 = 0 → (wX10_tellSign_157 Γ l x1 x2 σ K)) ∧ (x4 = 0 → (C2 Γ l mX10_wrong [.ref 284, .int 6, .int x3] σ (Rv fun s1_ => (wX10_tellSign_157 Γ l x1 x2 s1_ K)))))) ∧ (¬ ((3 : Int32) ≤ x5) → (vp_in x3 403 ∧ (C2 Γ l mX10_letterIn [.long (σ.2.1 290 (Int32.toNatClampNeg x3)), .int x5] σ (Ri fun r4_ s3_ => ((r4_ = 24 → (wX10_tellSign_96 Γ l x1 x2 x3 x4 x5 r4_ s3_ K)) ∧ (¬ (r4_ = 24) → ((r4_ = 15 → (wX10_tellSign_96 Γ l x1 x2 x3 x4 x5 r4_ s3_ K)) ∧ (¬ (r4_ = 15) → (wX10_tellSign_96 Γ l x1 x2 x3 0 x5 r4_ s3_ K)))))))))) : wX10_tellSign_60 Γ l x1 x2 x3 x4 x5 σ K := by
  show G2 Γ l mX10_tellSign 60 [(0, .ref 284), (1, .int x1), (2, .int x2), (3, .int x3), (4, .int x4), (5, .int x5)] [] σ K
  refine r_iload (dcx dX10_tellSign_c0 34 rfl) 5 rfl ?_
  refine r_iconst (v := 3) (dcx dX10_tellSign_c0 35 rfl) rfl ?_
  refine r_icmp_ge (tgt := 145) (dcx dX10_tellSign_c0 36 rfl) (by decide) (fun q_ => ?_) (fun q_ => ?_)
  · have hyp := hyp.1 q_
    refine r_iload (dcx dX10_tellSign_c2 1 rfl) 4 rfl ?_
    refine r_if_ne (tgt := 157) (dcx dX10_tellSign_c2 2 rfl) (by decide) (fun q_ => ?_) (fun q_ => ?_)
    · have hyp := hyp.1 q_
      refine r_loc (lv1 := [(0, .ref 284), (1, .int x1), (2, .int x2)]) [0, 1, 2] rfl ?_
      exact hyp
    · have hyp := hyp.2 q_
      refine r_aload_n (dcx dX10_tellSign_c2 3 rfl) 0 rfl ?_
      refine r_bipush (v := 6) (dcx dX10_tellSign_c2 4 rfl) rfl ?_
      refine r_iload_n (dcx dX10_tellSign_c2 5 rfl) 3 rfl ?_
      refine s_callV (as := [.int 6, .int x3]) (st := []) zX10_wrong kX10_tellSign_299 (dcx dX10_tellSign_c2 6 rfl) rfl rfl (Nat.le_of_ble_eq_true rfl) O284 rfl rfl (C2.mono hyp ?_)
      rintro _ s1_ ⟨rfl, hyp⟩
      show G2 Γ l mX10_tellSign 157 [(0, .ref 284), (1, .int x1), (2, .int x2), (3, .int x3), (4, .int x4), (5, .int x5)] [] s1_ K
      refine r_loc (lv1 := [(0, .ref 284), (1, .int x1), (2, .int x2)]) [0, 1, 2] rfl ?_
      exact hyp
  · have hyp := hyp.2 q_
    refine r_aload_n (dcx dX10_tellSign_c0 37 rfl) 0 rfl ?_
    refine s_getr (b := 290) fX10_30 (dcx dX10_tellSign_c0 38 rfl) F284_8 ?_
    refine r_iload_n (dcx dX10_tellSign_c0 39 rfl) 3 rfl ?_
    obtain ⟨hb_, hyp⟩ := hyp
    refine s_lald (dcx dX10_tellSign_c1 0 rfl) A290 hb_ ?_
    refine r_iload (dcx dX10_tellSign_c1 1 rfl) 5 rfl ?_
    refine s_callS (as := [.long (σ.2.1 290 (Int32.toNatClampNeg x3)), .int x5]) (st := []) zX10_letterIn kX10_tellSign_302 (dcx dX10_tellSign_c1 2 rfl) rfl rfl (Nat.le_of_ble_eq_true rfl) (C2.mono hyp ?_)
    rintro _ s3_ ⟨r4_, rfl, hyp⟩
    show G2 Γ l mX10_tellSign 77 [(0, .ref 284), (1, .int x1), (2, .int x2), (3, .int x3), (4, .int x4), (5, .int x5)] [.int r4_] s3_ K
    refine r_istore (lv1 := [(6, .int r4_), (0, .ref 284), (1, .int x1), (2, .int x2), (3, .int x3), (4, .int x4), (5, .int x5)]) (dcx dX10_tellSign_c1 3 rfl) (Nat.le_of_ble_eq_true rfl) rfl ?_
    refine r_iload (dcx dX10_tellSign_c1 4 rfl) 0 rfl ?_
    refine r_bipush (v := 24) (dcx dX10_tellSign_c1 5 rfl) rfl ?_
    refine r_icmp_eq (tgt := 96) (dcx dX10_tellSign_c1 6 rfl) (by decide) (fun q_ => ?_) (fun q_ => ?_)
    · have hyp := hyp.1 q_
      refine r_loc (lv1 := [(0, .ref 284), (1, .int x1), (2, .int x2), (3, .int x3), (4, .int x4), (5, .int x5), (6, .int r4_)]) [1, 2, 3, 4, 5, 6, 0] rfl ?_
      exact hyp
    · have hyp := hyp.2 q_
      refine r_iload (dcx dX10_tellSign_c1 7 rfl) 0 rfl ?_
      refine r_bipush (v := 15) (dcx dX10_tellSign_c1 8 rfl) rfl ?_
      refine r_icmp_eq (tgt := 96) (dcx dX10_tellSign_c1 9 rfl) (by decide) (fun q_ => ?_) (fun q_ => ?_)
      · have hyp := hyp.1 q_
        refine r_loc (lv1 := [(0, .ref 284), (1, .int x1), (2, .int x2), (3, .int x3), (4, .int x4), (5, .int x5), (6, .int r4_)]) [1, 2, 3, 4, 5, 6, 0] rfl ?_
        exact hyp
      · have hyp := hyp.2 q_
        refine r_iconst (v := 0) (dcx dX10_tellSign_c1 10 rfl) rfl ?_
        refine r_istore (lv1 := [(4, .int 0), (6, .int r4_), (0, .ref 284), (1, .int x1), (2, .int x2), (3, .int x3), (5, .int x5)]) (dcx dX10_tellSign_c1 11 rfl) (Nat.le_of_ble_eq_true rfl) rfl ?_
        refine r_loc (lv1 := [(0, .ref 284), (1, .int x1), (2, .int x2), (3, .int x3), (4, .int 0), (5, .int x5), (6, .int r4_)]) [2, 3, 4, 5, 0, 6, 1] rfl ?_
        exact hyp
set_option maxHeartbeats 4000000 in
set_option maxRecDepth 20000 in
theorem tX10_tellSign_157 {Γ : GE} {l : Launch} {x1 : Int32} {x2 : Int32} {σ : SS} {K : Option Value → SS → Prop}  (hyp : wX10_tellSign_7 Γ l x1 (x2 + 1) σ K) : wX10_tellSign_157 Γ l x1 x2 σ K := by
  show G2 Γ l mX10_tellSign 157 [(0, .ref 284), (1, .int x1), (2, .int x2)] [] σ K
  refine r_iinc (lv1 := [(2, .int (x2 + 1)), (0, .ref 284), (1, .int x1)]) (dcx dX10_tellSign_c2 7 rfl) 2 rfl (Nat.le_of_ble_eq_true rfl) rfl ?_
  refine r_goto (tgt := 7) (dcx dX10_tellSign_c2 8 rfl) (by decide) ?_
  refine r_loc (lv1 := [(0, .ref 284), (1, .int x1), (2, .int (x2 + 1))]) [1, 2, 0] rfl ?_
  exact hyp
set_option maxHeartbeats 4000000 in
set_option maxRecDepth 20000 in
theorem tX10_tellSign_96 {Γ : GE} {l : Launch} {x1 : Int32} {x2 : Int32} {x3 : Int32} {x4 : Int32} {x5 : Int32} {x6 : Int32} {σ : SS} {K : Option Value → SS → Prop}  (hyp : vp_in (σ.1 284 19) 2 ∧ ((¬ x6 = 24 → (vp_in (((9 * ((4 * (σ.1 284 19)) + (σ.1 297 (Int32.toNatClampNeg (σ.1 284 19))))) + (3 * x2)) + x5) 72 ∧ (∀ s1_ : SS, s1_ = sI σ 298 (Int32.toNatClampNeg (((9 * ((4 * (σ.1 284 19)) + (σ.1 297 (Int32.toNatClampNeg (σ.1 284 19))))) + (3 * x2)) + x5)) (vp_nar .boolean 0) → (wX10_tellSign_60 Γ l x1 x2 x3 x4 (x5 + 1) s1_ K)))) ∧ (x6 = 24 → (vp_in (((9 * ((4 * (σ.1 284 19)) + (σ.1 297 (Int32.toNatClampNeg (σ.1 284 19))))) + (3 * x2)) + x5) 72 ∧ (∀ s2_ : SS, s2_ = sI σ 298 (Int32.toNatClampNeg (((9 * ((4 * (σ.1 284 19)) + (σ.1 297 (Int32.toNatClampNeg (σ.1 284 19))))) + (3 * x2)) + x5)) (vp_nar .boolean 1) → (wX10_tellSign_60 Γ l x1 x2 x3 x4 (x5 + 1) s2_ K)))))) : wX10_tellSign_96 Γ l x1 x2 x3 x4 x5 x6 σ K := by
  show G2 Γ l mX10_tellSign 96 [(0, .ref 284), (1, .int x1), (2, .int x2), (3, .int x3), (4, .int x4), (5, .int x5), (6, .int x6)] [] σ K
  refine r_aload_n (dcx dX10_tellSign_c1 12 rfl) 0 rfl ?_
  refine s_getr (b := 298) fX10_58 (dcx dX10_tellSign_c1 13 rfl) F284_27 ?_
  refine r_bipush (v := 9) (dcx dX10_tellSign_c1 14 rfl) rfl ?_
  refine r_iconst (v := 4) (dcx dX10_tellSign_c1 15 rfl) rfl ?_
  refine r_aload_n (dcx dX10_tellSign_c1 16 rfl) 0 rfl ?_
  refine s_geti fX10_248 (dcx dX10_tellSign_c1 17 rfl) F284_19 ?_
  refine r_imul (dcx dX10_tellSign_c1 18 rfl) ?_
  refine r_aload_n (dcx dX10_tellSign_c1 19 rfl) 0 rfl ?_
  refine s_getr (b := 297) fX10_55 (dcx dX10_tellSign_c1 20 rfl) F284_26 ?_
  refine r_aload_n (dcx dX10_tellSign_c1 21 rfl) 0 rfl ?_
  refine s_geti fX10_248 (dcx dX10_tellSign_c1 22 rfl) F284_19 ?_
  obtain ⟨hb_, hyp⟩ := hyp
  refine s_iald (dcx dX10_tellSign_c1 23 rfl) A297 hb_ ?_
  refine r_iadd (dcx dX10_tellSign_c1 24 rfl) ?_
  refine r_imul (dcx dX10_tellSign_c1 25 rfl) ?_
  refine r_iconst (v := 3) (dcx dX10_tellSign_c1 26 rfl) rfl ?_
  refine r_iload_n (dcx dX10_tellSign_c1 27 rfl) 2 rfl ?_
  refine r_imul (dcx dX10_tellSign_c1 28 rfl) ?_
  refine r_iadd (dcx dX10_tellSign_c1 29 rfl) ?_
  refine r_iload (dcx dX10_tellSign_c1 30 rfl) 5 rfl ?_
  refine r_iadd (dcx dX10_tellSign_c1 31 rfl) ?_
  refine r_iload (dcx dX10_tellSign_c1 32 rfl) 6 rfl ?_
  refine r_bipush (v := 24) (dcx dX10_tellSign_c1 33 rfl) rfl ?_
  refine r_icmp_ne (tgt := 137) (dcx dX10_tellSign_c1 34 rfl) (by decide) (fun q_ => ?_) (fun q_ => ?_)
  · have hyp := hyp.1 q_
    refine r_iconst (v := 0) (dcx dX10_tellSign_c1 37 rfl) rfl ?_
    obtain ⟨hb_, hyp⟩ := hyp
    refine s_zast (dcx dX10_tellSign_c1 38 rfl) A298 hb_ ?_
    obtain ⟨s1_, es1_⟩ : ∃ z : SS, z = sI σ 298 (Int32.toNatClampNeg (((9 * ((4 * (σ.1 284 19)) + (σ.1 297 (Int32.toNatClampNeg (σ.1 284 19))))) + (3 * x2)) + x5)) (vp_nar .boolean 0) := ⟨_, rfl⟩
    rw [← es1_]
    have hyp := hyp s1_ es1_
    refine r_iinc (lv1 := [(5, .int (x5 + 1)), (0, .ref 284), (1, .int x1), (2, .int x2), (3, .int x3), (4, .int x4), (6, .int x6)]) (dcx dX10_tellSign_c1 39 rfl) 5 rfl (Nat.le_of_ble_eq_true rfl) rfl ?_
    refine r_goto (tgt := 60) (dcx dX10_tellSign_c2 0 rfl) (by decide) ?_
    refine r_loc (lv1 := [(0, .ref 284), (1, .int x1), (2, .int x2), (3, .int x3), (4, .int x4), (5, .int (x5 + 1))]) [1, 2, 3, 4, 5, 0] rfl ?_
    exact hyp
  · have hyp := hyp.2 q_
    refine r_iconst (v := 1) (dcx dX10_tellSign_c1 35 rfl) rfl ?_
    refine r_goto (tgt := 138) (dcx dX10_tellSign_c1 36 rfl) (by decide) ?_
    obtain ⟨hb_, hyp⟩ := hyp
    refine s_zast (dcx dX10_tellSign_c1 38 rfl) A298 hb_ ?_
    obtain ⟨s2_, es2_⟩ : ∃ z : SS, z = sI σ 298 (Int32.toNatClampNeg (((9 * ((4 * (σ.1 284 19)) + (σ.1 297 (Int32.toNatClampNeg (σ.1 284 19))))) + (3 * x2)) + x5)) (vp_nar .boolean 1) := ⟨_, rfl⟩
    rw [← es2_]
    have hyp := hyp s2_ es2_
    refine r_iinc (lv1 := [(5, .int (x5 + 1)), (0, .ref 284), (1, .int x1), (2, .int x2), (3, .int x3), (4, .int x4), (6, .int x6)]) (dcx dX10_tellSign_c1 39 rfl) 5 rfl (Nat.le_of_ble_eq_true rfl) rfl ?_
    refine r_goto (tgt := 60) (dcx dX10_tellSign_c2 0 rfl) (by decide) ?_
    refine r_loc (lv1 := [(0, .ref 284), (1, .int x1), (2, .int x2), (3, .int x3), (4, .int x4), (5, .int (x5 + 1))]) [1, 2, 3, 4, 5, 0] rfl ?_
    exact hyp
set_option maxHeartbeats 4000000 in
set_option maxRecDepth 20000 in
theorem tX10_tellWindow {Γ : GE} {l : Launch}  {σ : SS} {K : Option Value → SS → Prop}  (hyp : vp_in (σ.1 284 19) 2 ∧ (∀ v1_ : Int32, v1_ = (4 * (σ.1 284 19)) + (σ.1 299 (Int32.toNatClampNeg (σ.1 284 19))) → (C2 Γ l mX10_named [.ref 284] σ (Ri fun r3_ s2_ => (C2 Γ l mX10_bounded [.ref 284, .int 0, .int 7] s2_ (Ri fun r5_ s4_ => (vp_in v1_ 8 ∧ (∀ s6_ : SS, s6_ = sI s4_ 300 (Int32.toNatClampNeg v1_) r5_ → (C2 Γ l mX10_bounded [.ref 284, .int 0, .int 7] s6_ (Ri fun r8_ s7_ => (vp_in v1_ 8 ∧ (∀ s9_ : SS, s9_ = sI s7_ 301 (Int32.toNatClampNeg v1_) r8_ → ((¬ (s9_.1 284 13) = 0 → (C2 Γ l mX10_bounded [.ref 284, .int 0, .int 99] s9_ (Ri fun r11_ s10_ => (vp_in v1_ 8 ∧ (∀ s12_ : SS, s12_ = sI s10_ 302 (Int32.toNatClampNeg v1_) r11_ → (vp_in (s12_.1 284 19) 2 ∧ (C2 Γ l mX10_ends [.ref 284, .int r3_, .int (s12_.1 299 (Int32.toNatClampNeg (s12_.1 284 19)))] s12_ (Rv fun s13_ => ((¬ (s13_.1 284 13) = 0 → (K none s13_)) ∧ ((s13_.1 284 13) = 0 → (vp_in (s13_.1 284 19) 2 ∧ (vp_in (s13_.1 284 19) 2 ∧ (∀ s15_ : SS, s15_ = sI s13_ 299 (Int32.toNatClampNeg (s13_.1 284 19)) ((s13_.1 299 (Int32.toNatClampNeg (s13_.1 284 19))) + 1) → (K none s15_)))))))))))))) ∧ ((s9_.1 284 13) = 0 → (vp_in v1_ 8 ∧ (vp_in v1_ 8 ∧ (((s9_.1 300 (Int32.toNatClampNeg v1_)) ≤ (s9_.1 301 (Int32.toNatClampNeg v1_)) → (C2 Γ l mX10_bounded [.ref 284, .int 0, .int 99] s9_ (Ri fun r17_ s16_ => (vp_in v1_ 8 ∧ (∀ s18_ : SS, s18_ = sI s16_ 302 (Int32.toNatClampNeg v1_) r17_ → (vp_in (s18_.1 284 19) 2 ∧ (C2 Γ l mX10_ends [.ref 284, .int r3_, .int (s18_.1 299 (Int32.toNatClampNeg (s18_.1 284 19)))] s18_ (Rv fun s19_ => ((¬ (s19_.1 284 13) = 0 → (K none s19_)) ∧ ((s19_.1 284 13) = 0 → (vp_in (s19_.1 284 19) 2 ∧ (vp_in (s19_.1 284 19) 2 ∧ (∀ s21_ : SS, s21_ = sI s19_ 299 (Int32.toNatClampNeg (s19_.1 284 19)) ((s19_.1 299 (Int32.toNatClampNeg (s19_.1 284 19))) + 1) → (K none s21_)))))))))))))) ∧ (¬ ((s9_.1 300 (Int32.toNatClampNeg v1_)) ≤ (s9_.1 301 (Int32.toNatClampNeg v1_))) → (C2 Γ l mX10_wrong [.ref 284, .int 5, .int (s6_.1 284 11)] s9_ (Rv fun s22_ => (C2 Γ l mX10_bounded [.ref 284, .int 0, .int 99] s22_ (Ri fun r25_ s24_ => (vp_in v1_ 8 ∧ (∀ s26_ : SS, s26_ = sI s24_ 302 (Int32.toNatClampNeg v1_) r25_ → (vp_in (s26_.1 284 19) 2 ∧ (C2 Γ l mX10_ends [.ref 284, .int r3_, .int (s26_.1 299 (Int32.toNatClampNeg (s26_.1 284 19)))] s26_ (Rv fun s27_ => ((¬ (s27_.1 284 13) = 0 → (K none s27_)) ∧ ((s27_.1 284 13) = 0 → (vp_in (s27_.1 284 19) 2 ∧ (vp_in (s27_.1 284 19) 2 ∧ (∀ s29_ : SS, s29_ = sI s27_ 299 (Int32.toNatClampNeg (s27_.1 284 19)) ((s27_.1 299 (Int32.toNatClampNeg (s27_.1 284 19))) + 1) → (K none s29_))))))))))))))))))))))))))))))))) : C2 Γ l mX10_tellWindow [.ref 284] σ K := by
  refine c2_of (lv := [(0, .ref 284)]) (by decide) (Nat.le_of_ble_eq_true rfl) rfl ?_
  refine r_iconst (v := 4) (dcx dX10_tellWindow_c0 0 rfl) rfl ?_
  refine r_aload_n (dcx dX10_tellWindow_c0 1 rfl) 0 rfl ?_
  refine s_geti fX10_248 (dcx dX10_tellWindow_c0 2 rfl) F284_19 ?_
  refine r_imul (dcx dX10_tellWindow_c0 3 rfl) ?_
  refine r_aload_n (dcx dX10_tellWindow_c0 4 rfl) 0 rfl ?_
  refine s_getr (b := 299) fX10_62 (dcx dX10_tellWindow_c0 5 rfl) F284_28 ?_
  refine r_aload_n (dcx dX10_tellWindow_c0 6 rfl) 0 rfl ?_
  refine s_geti fX10_248 (dcx dX10_tellWindow_c0 7 rfl) F284_19 ?_
  obtain ⟨hb_, hyp⟩ := hyp
  refine s_iald (dcx dX10_tellWindow_c0 8 rfl) A299 hb_ ?_
  refine r_iadd (dcx dX10_tellWindow_c0 9 rfl) ?_
  obtain ⟨v1_, ev1_⟩ : ∃ z : Int32, z = (4 * (σ.1 284 19)) + (σ.1 299 (Int32.toNatClampNeg (σ.1 284 19))) := ⟨_, rfl⟩
  rw [← ev1_]
  have hyp := hyp v1_ ev1_
  refine r_istore_n (lv1 := [(1, .int v1_), (0, .ref 284)]) (dcx dX10_tellWindow_c0 10 rfl) (Nat.le_of_ble_eq_true rfl) rfl ?_
  refine r_aload_n (dcx dX10_tellWindow_c0 11 rfl) 1 rfl ?_
  refine s_callV (as := []) (st := []) zX10_named kX10_tellWindow_306 (dcx dX10_tellWindow_c0 12 rfl) rfl rfl (Nat.le_of_ble_eq_true rfl) O284 rfl rfl (C2.mono hyp ?_)
  rintro _ s2_ ⟨r3_, rfl, hyp⟩
  show G2 Γ l mX10_tellWindow 21 [(1, .int v1_), (0, .ref 284)] [.int r3_] s2_ K
  refine r_istore_n (lv1 := [(2, .int r3_), (1, .int v1_), (0, .ref 284)]) (dcx dX10_tellWindow_c0 13 rfl) (Nat.le_of_ble_eq_true rfl) rfl ?_
  refine r_aload_n (dcx dX10_tellWindow_c0 14 rfl) 2 rfl ?_
  refine s_getr (b := 300) fX10_65 (dcx dX10_tellWindow_c0 15 rfl) F284_29 ?_
  refine r_iload_n (dcx dX10_tellWindow_c0 16 rfl) 1 rfl ?_
  refine r_aload_n (dcx dX10_tellWindow_c0 17 rfl) 2 rfl ?_
  refine r_iconst (v := 0) (dcx dX10_tellWindow_c0 18 rfl) rfl ?_
  refine r_bipush (v := 7) (dcx dX10_tellWindow_c0 19 rfl) rfl ?_
  refine s_callV (as := [.int 0, .int 7]) (st := [.int v1_, .ref 300]) zX10_bounded kX10_tellWindow_285 (dcx dX10_tellWindow_c0 20 rfl) rfl rfl (Nat.le_of_ble_eq_true rfl) O284 rfl rfl (C2.mono hyp ?_)
  rintro _ s4_ ⟨r5_, rfl, hyp⟩
  show G2 Γ l mX10_tellWindow 34 [(2, .int r3_), (1, .int v1_), (0, .ref 284)] [.int r5_, .int v1_, .ref 300] s4_ K
  obtain ⟨hb_, hyp⟩ := hyp
  refine s_iast (dcx dX10_tellWindow_c0 21 rfl) A300 hb_ ?_
  obtain ⟨s6_, es6_⟩ : ∃ z : SS, z = sI s4_ 300 (Int32.toNatClampNeg v1_) r5_ := ⟨_, rfl⟩
  rw [← es6_]
  have hyp := hyp s6_ es6_
  refine r_aload_n (dcx dX10_tellWindow_c0 22 rfl) 2 rfl ?_
  refine s_geti fX10_218 (dcx dX10_tellWindow_c0 23 rfl) F284_11 ?_
  refine r_istore_n (lv1 := [(3, .int (s6_.1 284 11)), (2, .int r3_), (1, .int v1_), (0, .ref 284)]) (dcx dX10_tellWindow_c0 24 rfl) (Nat.le_of_ble_eq_true rfl) rfl ?_
  refine r_aload_n (dcx dX10_tellWindow_c0 25 rfl) 3 rfl ?_
  refine s_getr (b := 301) fX10_68 (dcx dX10_tellWindow_c0 26 rfl) F284_30 ?_
  refine r_iload_n (dcx dX10_tellWindow_c0 27 rfl) 2 rfl ?_
  refine r_aload_n (dcx dX10_tellWindow_c0 28 rfl) 3 rfl ?_
  refine r_iconst (v := 0) (dcx dX10_tellWindow_c0 29 rfl) rfl ?_
  refine r_bipush (v := 7) (dcx dX10_tellWindow_c0 30 rfl) rfl ?_
  refine s_callV (as := [.int 0, .int 7]) (st := [.int v1_, .ref 301]) zX10_bounded kX10_tellWindow_285 (dcx dX10_tellWindow_c0 31 rfl) rfl rfl (Nat.le_of_ble_eq_true rfl) O284 rfl rfl (C2.mono hyp ?_)
  rintro _ s7_ ⟨r8_, rfl, hyp⟩
  show G2 Γ l mX10_tellWindow 52 [(3, .int (s6_.1 284 11)), (2, .int r3_), (1, .int v1_), (0, .ref 284)] [.int r8_, .int v1_, .ref 301] s7_ K
  obtain ⟨hb_, hyp⟩ := hyp
  refine s_iast (dcx dX10_tellWindow_c0 32 rfl) A301 hb_ ?_
  obtain ⟨s9_, es9_⟩ : ∃ z : SS, z = sI s7_ 301 (Int32.toNatClampNeg v1_) r8_ := ⟨_, rfl⟩
  rw [← es9_]
  have hyp := hyp s9_ es9_
  refine r_aload_n (dcx dX10_tellWindow_c0 33 rfl) 3 rfl ?_
  refine s_geti fX10_215 (dcx dX10_tellWindow_c0 34 rfl) F284_13 ?_
  refine r_if_ne (tgt := 81) (dcx dX10_tellWindow_c0 35 rfl) (by decide) (fun q_ => ?_) (fun q_ => ?_)
  · have hyp := hyp.1 q_
    refine r_aload_n (dcx dX10_tellWindow_c1 9 rfl) 3 rfl ?_
    refine s_getr (b := 302) fX10_71 (dcx dX10_tellWindow_c1 10 rfl) F284_31 ?_
    refine r_iload_n (dcx dX10_tellWindow_c1 11 rfl) 2 rfl ?_
    refine r_aload_n (dcx dX10_tellWindow_c1 12 rfl) 3 rfl ?_
    refine r_iconst (v := 0) (dcx dX10_tellWindow_c1 13 rfl) rfl ?_
    refine r_bipush (v := 99) (dcx dX10_tellWindow_c1 14 rfl) rfl ?_
    refine s_callV (as := [.int 0, .int 99]) (st := [.int v1_, .ref 302]) zX10_bounded kX10_tellWindow_285 (dcx dX10_tellWindow_c1 15 rfl) rfl rfl (Nat.le_of_ble_eq_true rfl) O284 rfl rfl (C2.mono hyp ?_)
    rintro _ s10_ ⟨r11_, rfl, hyp⟩
    show G2 Γ l mX10_tellWindow 93 [(3, .int (s6_.1 284 11)), (2, .int r3_), (1, .int v1_), (0, .ref 284)] [.int r11_, .int v1_, .ref 302] s10_ K
    obtain ⟨hb_, hyp⟩ := hyp
    refine s_iast (dcx dX10_tellWindow_c1 16 rfl) A302 hb_ ?_
    obtain ⟨s12_, es12_⟩ : ∃ z : SS, z = sI s10_ 302 (Int32.toNatClampNeg v1_) r11_ := ⟨_, rfl⟩
    rw [← es12_]
    have hyp := hyp s12_ es12_
    refine r_aload_n (dcx dX10_tellWindow_c1 17 rfl) 3 rfl ?_
    refine r_iload_n (dcx dX10_tellWindow_c1 18 rfl) 1 rfl ?_
    refine r_aload_n (dcx dX10_tellWindow_c1 19 rfl) 3 rfl ?_
    refine s_getr (b := 299) fX10_62 (dcx dX10_tellWindow_c1 20 rfl) F284_28 ?_
    refine r_aload_n (dcx dX10_tellWindow_c1 21 rfl) 3 rfl ?_
    refine s_geti fX10_248 (dcx dX10_tellWindow_c1 22 rfl) F284_19 ?_
    obtain ⟨hb_, hyp⟩ := hyp
    refine s_iald (dcx dX10_tellWindow_c1 23 rfl) A299 hb_ ?_
    refine s_callV (as := [.int r3_, .int (s12_.1 299 (Int32.toNatClampNeg (s12_.1 284 19)))]) (st := []) zX10_ends kX10_tellWindow_310 (dcx dX10_tellWindow_c1 24 rfl) rfl rfl (Nat.le_of_ble_eq_true rfl) O284 rfl rfl (C2.mono hyp ?_)
    rintro _ s13_ ⟨rfl, hyp⟩
    show G2 Γ l mX10_tellWindow 108 [(3, .int (s6_.1 284 11)), (2, .int r3_), (1, .int v1_), (0, .ref 284)] [] s13_ K
    refine r_aload_n (dcx dX10_tellWindow_c1 25 rfl) 3 rfl ?_
    refine s_geti fX10_215 (dcx dX10_tellWindow_c1 26 rfl) F284_13 ?_
    refine r_if_ne (tgt := 128) (dcx dX10_tellWindow_c1 27 rfl) (by decide) (fun q_ => ?_) (fun q_ => ?_)
    · have hyp := hyp.1 q_
      exact s_vret rfl hyp (dcx dX10_tellWindow_c1 37 rfl)
    · have hyp := hyp.2 q_
      refine r_aload_n (dcx dX10_tellWindow_c1 28 rfl) 3 rfl ?_
      refine s_getr (b := 299) fX10_62 (dcx dX10_tellWindow_c1 29 rfl) F284_28 ?_
      refine r_aload_n (dcx dX10_tellWindow_c1 30 rfl) 3 rfl ?_
      refine s_geti fX10_248 (dcx dX10_tellWindow_c1 31 rfl) F284_19 ?_
      refine r_dup2 (dcx dX10_tellWindow_c1 32 rfl) rfl rfl ?_
      obtain ⟨hb_, hyp⟩ := hyp
      refine s_iald (dcx dX10_tellWindow_c1 33 rfl) A299 hb_ ?_
      refine r_iconst (v := 1) (dcx dX10_tellWindow_c1 34 rfl) rfl ?_
      refine r_iadd (dcx dX10_tellWindow_c1 35 rfl) ?_
      obtain ⟨hb_, hyp⟩ := hyp
      refine s_iast (dcx dX10_tellWindow_c1 36 rfl) A299 hb_ ?_
      obtain ⟨s15_, es15_⟩ : ∃ z : SS, z = sI s13_ 299 (Int32.toNatClampNeg (s13_.1 284 19)) ((s13_.1 299 (Int32.toNatClampNeg (s13_.1 284 19))) + 1) := ⟨_, rfl⟩
      rw [← es15_]
      have hyp := hyp s15_ es15_
      exact s_vret rfl hyp (dcx dX10_tellWindow_c1 37 rfl)
  · have hyp := hyp.2 q_
    refine r_aload_n (dcx dX10_tellWindow_c0 36 rfl) 3 rfl ?_
    refine s_getr (b := 301) fX10_68 (dcx dX10_tellWindow_c0 37 rfl) F284_30 ?_
    refine r_iload_n (dcx dX10_tellWindow_c0 38 rfl) 2 rfl ?_
    obtain ⟨hb_, hyp⟩ := hyp
    refine s_iald (dcx dX10_tellWindow_c0 39 rfl) A301 hb_ ?_
    refine r_aload_n (dcx dX10_tellWindow_c1 0 rfl) 3 rfl ?_
    refine s_getr (b := 300) fX10_65 (dcx dX10_tellWindow_c1 1 rfl) F284_29 ?_
    refine r_iload_n (dcx dX10_tellWindow_c1 2 rfl) 2 rfl ?_
    obtain ⟨hb_, hyp⟩ := hyp
    refine s_iald (dcx dX10_tellWindow_c1 3 rfl) A300 hb_ ?_
    refine r_icmp_ge (tgt := 81) (dcx dX10_tellWindow_c1 4 rfl) (by decide) (fun q_ => ?_) (fun q_ => ?_)
    · have hyp := hyp.1 q_
      refine r_aload_n (dcx dX10_tellWindow_c1 9 rfl) 3 rfl ?_
      refine s_getr (b := 302) fX10_71 (dcx dX10_tellWindow_c1 10 rfl) F284_31 ?_
      refine r_iload_n (dcx dX10_tellWindow_c1 11 rfl) 2 rfl ?_
      refine r_aload_n (dcx dX10_tellWindow_c1 12 rfl) 3 rfl ?_
      refine r_iconst (v := 0) (dcx dX10_tellWindow_c1 13 rfl) rfl ?_
      refine r_bipush (v := 99) (dcx dX10_tellWindow_c1 14 rfl) rfl ?_
      refine s_callV (as := [.int 0, .int 99]) (st := [.int v1_, .ref 302]) zX10_bounded kX10_tellWindow_285 (dcx dX10_tellWindow_c1 15 rfl) rfl rfl (Nat.le_of_ble_eq_true rfl) O284 rfl rfl (C2.mono hyp ?_)
      rintro _ s16_ ⟨r17_, rfl, hyp⟩
      show G2 Γ l mX10_tellWindow 93 [(3, .int (s6_.1 284 11)), (2, .int r3_), (1, .int v1_), (0, .ref 284)] [.int r17_, .int v1_, .ref 302] s16_ K
      obtain ⟨hb_, hyp⟩ := hyp
      refine s_iast (dcx dX10_tellWindow_c1 16 rfl) A302 hb_ ?_
      obtain ⟨s18_, es18_⟩ : ∃ z : SS, z = sI s16_ 302 (Int32.toNatClampNeg v1_) r17_ := ⟨_, rfl⟩
      rw [← es18_]
      have hyp := hyp s18_ es18_
      refine r_aload_n (dcx dX10_tellWindow_c1 17 rfl) 3 rfl ?_
      refine r_iload_n (dcx dX10_tellWindow_c1 18 rfl) 1 rfl ?_
      refine r_aload_n (dcx dX10_tellWindow_c1 19 rfl) 3 rfl ?_
      refine s_getr (b := 299) fX10_62 (dcx dX10_tellWindow_c1 20 rfl) F284_28 ?_
      refine r_aload_n (dcx dX10_tellWindow_c1 21 rfl) 3 rfl ?_
      refine s_geti fX10_248 (dcx dX10_tellWindow_c1 22 rfl) F284_19 ?_
      obtain ⟨hb_, hyp⟩ := hyp
      refine s_iald (dcx dX10_tellWindow_c1 23 rfl) A299 hb_ ?_
      refine s_callV (as := [.int r3_, .int (s18_.1 299 (Int32.toNatClampNeg (s18_.1 284 19)))]) (st := []) zX10_ends kX10_tellWindow_310 (dcx dX10_tellWindow_c1 24 rfl) rfl rfl (Nat.le_of_ble_eq_true rfl) O284 rfl rfl (C2.mono hyp ?_)
      rintro _ s19_ ⟨rfl, hyp⟩
      show G2 Γ l mX10_tellWindow 108 [(3, .int (s6_.1 284 11)), (2, .int r3_), (1, .int v1_), (0, .ref 284)] [] s19_ K
      refine r_aload_n (dcx dX10_tellWindow_c1 25 rfl) 3 rfl ?_
      refine s_geti fX10_215 (dcx dX10_tellWindow_c1 26 rfl) F284_13 ?_
      refine r_if_ne (tgt := 128) (dcx dX10_tellWindow_c1 27 rfl) (by decide) (fun q_ => ?_) (fun q_ => ?_)
      · have hyp := hyp.1 q_
        exact s_vret rfl hyp (dcx dX10_tellWindow_c1 37 rfl)
      · have hyp := hyp.2 q_
        refine r_aload_n (dcx dX10_tellWindow_c1 28 rfl) 3 rfl ?_
        refine s_getr (b := 299) fX10_62 (dcx dX10_tellWindow_c1 29 rfl) F284_28 ?_
        refine r_aload_n (dcx dX10_tellWindow_c1 30 rfl) 3 rfl ?_
        refine s_geti fX10_248 (dcx dX10_tellWindow_c1 31 rfl) F284_19 ?_
        refine r_dup2 (dcx dX10_tellWindow_c1 32 rfl) rfl rfl ?_
        obtain ⟨hb_, hyp⟩ := hyp
        refine s_iald (dcx dX10_tellWindow_c1 33 rfl) A299 hb_ ?_
        refine r_iconst (v := 1) (dcx dX10_tellWindow_c1 34 rfl) rfl ?_
        refine r_iadd (dcx dX10_tellWindow_c1 35 rfl) ?_
        obtain ⟨hb_, hyp⟩ := hyp
        refine s_iast (dcx dX10_tellWindow_c1 36 rfl) A299 hb_ ?_
        obtain ⟨s21_, es21_⟩ : ∃ z : SS, z = sI s19_ 299 (Int32.toNatClampNeg (s19_.1 284 19)) ((s19_.1 299 (Int32.toNatClampNeg (s19_.1 284 19))) + 1) := ⟨_, rfl⟩
        rw [← es21_]
        have hyp := hyp s21_ es21_
        exact s_vret rfl hyp (dcx dX10_tellWindow_c1 37 rfl)
    · have hyp := hyp.2 q_
      refine r_aload_n (dcx dX10_tellWindow_c1 5 rfl) 3 rfl ?_
      refine r_iconst (v := 5) (dcx dX10_tellWindow_c1 6 rfl) rfl ?_
      refine r_iload_n (dcx dX10_tellWindow_c1 7 rfl) 0 rfl ?_
      refine s_callV (as := [.int 5, .int (s6_.1 284 11)]) (st := []) zX10_wrong kX10_tellWindow_299 (dcx dX10_tellWindow_c1 8 rfl) rfl rfl (Nat.le_of_ble_eq_true rfl) O284 rfl rfl (C2.mono hyp ?_)
      rintro _ s22_ ⟨rfl, hyp⟩
      show G2 Γ l mX10_tellWindow 81 [(3, .int (s6_.1 284 11)), (2, .int r3_), (1, .int v1_), (0, .ref 284)] [] s22_ K
      refine r_aload_n (dcx dX10_tellWindow_c1 9 rfl) 3 rfl ?_
      refine s_getr (b := 302) fX10_71 (dcx dX10_tellWindow_c1 10 rfl) F284_31 ?_
      refine r_iload_n (dcx dX10_tellWindow_c1 11 rfl) 2 rfl ?_
      refine r_aload_n (dcx dX10_tellWindow_c1 12 rfl) 3 rfl ?_
      refine r_iconst (v := 0) (dcx dX10_tellWindow_c1 13 rfl) rfl ?_
      refine r_bipush (v := 99) (dcx dX10_tellWindow_c1 14 rfl) rfl ?_
      refine s_callV (as := [.int 0, .int 99]) (st := [.int v1_, .ref 302]) zX10_bounded kX10_tellWindow_285 (dcx dX10_tellWindow_c1 15 rfl) rfl rfl (Nat.le_of_ble_eq_true rfl) O284 rfl rfl (C2.mono hyp ?_)
      rintro _ s24_ ⟨r25_, rfl, hyp⟩
      show G2 Γ l mX10_tellWindow 93 [(3, .int (s6_.1 284 11)), (2, .int r3_), (1, .int v1_), (0, .ref 284)] [.int r25_, .int v1_, .ref 302] s24_ K
      obtain ⟨hb_, hyp⟩ := hyp
      refine s_iast (dcx dX10_tellWindow_c1 16 rfl) A302 hb_ ?_
      obtain ⟨s26_, es26_⟩ : ∃ z : SS, z = sI s24_ 302 (Int32.toNatClampNeg v1_) r25_ := ⟨_, rfl⟩
      rw [← es26_]
      have hyp := hyp s26_ es26_
      refine r_aload_n (dcx dX10_tellWindow_c1 17 rfl) 3 rfl ?_
      refine r_iload_n (dcx dX10_tellWindow_c1 18 rfl) 1 rfl ?_
      refine r_aload_n (dcx dX10_tellWindow_c1 19 rfl) 3 rfl ?_
      refine s_getr (b := 299) fX10_62 (dcx dX10_tellWindow_c1 20 rfl) F284_28 ?_
      refine r_aload_n (dcx dX10_tellWindow_c1 21 rfl) 3 rfl ?_
      refine s_geti fX10_248 (dcx dX10_tellWindow_c1 22 rfl) F284_19 ?_
      obtain ⟨hb_, hyp⟩ := hyp
      refine s_iald (dcx dX10_tellWindow_c1 23 rfl) A299 hb_ ?_
      refine s_callV (as := [.int r3_, .int (s26_.1 299 (Int32.toNatClampNeg (s26_.1 284 19)))]) (st := []) zX10_ends kX10_tellWindow_310 (dcx dX10_tellWindow_c1 24 rfl) rfl rfl (Nat.le_of_ble_eq_true rfl) O284 rfl rfl (C2.mono hyp ?_)
      rintro _ s27_ ⟨rfl, hyp⟩
      show G2 Γ l mX10_tellWindow 108 [(3, .int (s6_.1 284 11)), (2, .int r3_), (1, .int v1_), (0, .ref 284)] [] s27_ K
      refine r_aload_n (dcx dX10_tellWindow_c1 25 rfl) 3 rfl ?_
      refine s_geti fX10_215 (dcx dX10_tellWindow_c1 26 rfl) F284_13 ?_
      refine r_if_ne (tgt := 128) (dcx dX10_tellWindow_c1 27 rfl) (by decide) (fun q_ => ?_) (fun q_ => ?_)
      · have hyp := hyp.1 q_
        exact s_vret rfl hyp (dcx dX10_tellWindow_c1 37 rfl)
      · have hyp := hyp.2 q_
        refine r_aload_n (dcx dX10_tellWindow_c1 28 rfl) 3 rfl ?_
        refine s_getr (b := 299) fX10_62 (dcx dX10_tellWindow_c1 29 rfl) F284_28 ?_
        refine r_aload_n (dcx dX10_tellWindow_c1 30 rfl) 3 rfl ?_
        refine s_geti fX10_248 (dcx dX10_tellWindow_c1 31 rfl) F284_19 ?_
        refine r_dup2 (dcx dX10_tellWindow_c1 32 rfl) rfl rfl ?_
        obtain ⟨hb_, hyp⟩ := hyp
        refine s_iald (dcx dX10_tellWindow_c1 33 rfl) A299 hb_ ?_
        refine r_iconst (v := 1) (dcx dX10_tellWindow_c1 34 rfl) rfl ?_
        refine r_iadd (dcx dX10_tellWindow_c1 35 rfl) ?_
        obtain ⟨hb_, hyp⟩ := hyp
        refine s_iast (dcx dX10_tellWindow_c1 36 rfl) A299 hb_ ?_
        obtain ⟨s29_, es29_⟩ : ∃ z : SS, z = sI s27_ 299 (Int32.toNatClampNeg (s27_.1 284 19)) ((s27_.1 299 (Int32.toNatClampNeg (s27_.1 284 19))) + 1) := ⟨_, rfl⟩
        rw [← es29_]
        have hyp := hyp s29_ es29_
        exact s_vret rfl hyp (dcx dX10_tellWindow_c1 37 rfl)
def wX10_knownWindow_21 (Γ : GE) (l : Launch) (x1 : Int32) (x2 : Int32) (σ : SS) (K : Option Value → SS → Prop) : Prop := G2 Γ l mX10_knownWindow 21 [(0, .ref 284), (1, .int x1), (2, .int x2)] [] σ K
set_option maxHeartbeats 4000000 in
set_option maxRecDepth 20000 in
theorem tX10_knownWindow {Γ : GE} {l : Launch}  {σ : SS} {K : Option Value → SS → Prop}  (hyp : C2 Γ l mX10_must [.ref 284, .int 1] σ (Rv fun s1_ => (((s1_.1 284 13) ≤ 0 → (wX10_knownWindow_21 Γ l (σ.1 284 11) 0 s1_ K)) ∧ (¬ ((s1_.1 284 13) ≤ 0) → (K (some (.int ((-1)))) s1_))))) : C2 Γ l mX10_knownWindow [.ref 284] σ K := by
  refine c2_of (lv := [(0, .ref 284)]) (by decide) (Nat.le_of_ble_eq_true rfl) rfl ?_
  refine r_aload_n (dcx dX10_knownWindow_c0 0 rfl) 0 rfl ?_
  refine s_geti fX10_218 (dcx dX10_knownWindow_c0 1 rfl) F284_11 ?_
  refine r_istore_n (lv1 := [(1, .int (σ.1 284 11)), (0, .ref 284)]) (dcx dX10_knownWindow_c0 2 rfl) (Nat.le_of_ble_eq_true rfl) rfl ?_
  refine r_aload_n (dcx dX10_knownWindow_c0 3 rfl) 1 rfl ?_
  refine r_iconst (v := 1) (dcx dX10_knownWindow_c0 4 rfl) rfl ?_
  refine s_callV (as := [.int 1]) (st := []) zX10_must kX10_knownWindow_289 (dcx dX10_knownWindow_c0 5 rfl) rfl rfl (Nat.le_of_ble_eq_true rfl) O284 rfl rfl (C2.mono hyp ?_)
  rintro _ s1_ ⟨rfl, hyp⟩
  show G2 Γ l mX10_knownWindow 10 [(1, .int (σ.1 284 11)), (0, .ref 284)] [] s1_ K
  refine r_aload_n (dcx dX10_knownWindow_c0 6 rfl) 1 rfl ?_
  refine s_geti fX10_215 (dcx dX10_knownWindow_c0 7 rfl) F284_13 ?_
  refine r_if_le (tgt := 19) (dcx dX10_knownWindow_c0 8 rfl) (by decide) (fun q_ => ?_) (fun q_ => ?_)
  · have hyp := hyp.1 q_
    refine r_iconst (v := 0) (dcx dX10_knownWindow_c0 11 rfl) rfl ?_
    refine r_istore_n (lv1 := [(2, .int 0), (1, .int (σ.1 284 11)), (0, .ref 284)]) (dcx dX10_knownWindow_c0 12 rfl) (Nat.le_of_ble_eq_true rfl) rfl ?_
    refine r_loc (lv1 := [(0, .ref 284), (1, .int (σ.1 284 11)), (2, .int 0)]) [2, 1, 0] rfl ?_
    exact hyp
  · have hyp := hyp.2 q_
    refine r_iconst (v := (-1)) (dcx dX10_knownWindow_c0 9 rfl) rfl ?_
    exact s_ret rfl rfl rfl hyp (dcx dX10_knownWindow_c0 10 rfl)
set_option maxHeartbeats 4000000 in
set_option maxRecDepth 20000 in
theorem tX10_knownWindow_21 {Γ : GE} {l : Launch} {x1 : Int32} {x2 : Int32} {σ : SS} {K : Option Value → SS → Prop}  (hyp : ((σ.1 284 20) ≤ x2 → (C2 Γ l mX10_wrong [.ref 284, .int 4, .int x1] σ (Rv fun s1_ => (K (some (.int ((-1)))) s1_)))) ∧ (¬ ((σ.1 284 20) ≤ x2) → (vp_in x2 8 ∧ (vp_in x1 403 ∧ ((¬ (lg_cmp (σ.2.1 292 (Int32.toNatClampNeg x2)) (σ.2.1 290 (Int32.toNatClampNeg x1))) = 0 → (wX10_knownWindow_21 Γ l x1 (x2 + 1) σ K)) ∧ ((lg_cmp (σ.2.1 292 (Int32.toNatClampNeg x2)) (σ.2.1 290 (Int32.toNatClampNeg x1))) = 0 → (vp_in x2 8 ∧ (((σ.1 293 (Int32.toNatClampNeg x2)) < 0 → (wX10_knownWindow_21 Γ l x1 (x2 + 1) σ K)) ∧ (¬ ((σ.1 293 (Int32.toNatClampNeg x2)) < 0) → (vp_in x2 8 ∧ (K (some (.int (σ.1 293 (Int32.toNatClampNeg x2)))) σ))))))))))) : wX10_knownWindow_21 Γ l x1 x2 σ K := by
  show G2 Γ l mX10_knownWindow 21 [(0, .ref 284), (1, .int x1), (2, .int x2)] [] σ K
  refine r_iload_n (dcx dX10_knownWindow_c0 13 rfl) 2 rfl ?_
  refine r_aload_n (dcx dX10_knownWindow_c0 14 rfl) 0 rfl ?_
  refine s_geti fX10_251 (dcx dX10_knownWindow_c0 15 rfl) F284_20 ?_
  refine r_icmp_ge (tgt := 67) (dcx dX10_knownWindow_c0 16 rfl) (by decide) (fun q_ => ?_) (fun q_ => ?_)
  · have hyp := hyp.1 q_
    refine r_aload_n (dcx dX10_knownWindow_c0 39 rfl) 0 rfl ?_
    refine r_iconst (v := 4) (dcx dX10_knownWindow_c1 0 rfl) rfl ?_
    refine r_iload_n (dcx dX10_knownWindow_c1 1 rfl) 1 rfl ?_
    refine s_callV (as := [.int 4, .int x1]) (st := []) zX10_wrong kX10_knownWindow_299 (dcx dX10_knownWindow_c1 2 rfl) rfl rfl (Nat.le_of_ble_eq_true rfl) O284 rfl rfl (C2.mono hyp ?_)
    rintro _ s1_ ⟨rfl, hyp⟩
    show G2 Γ l mX10_knownWindow 73 [(0, .ref 284), (1, .int x1), (2, .int x2)] [] s1_ K
    refine r_iconst (v := (-1)) (dcx dX10_knownWindow_c1 3 rfl) rfl ?_
    exact s_ret rfl rfl rfl hyp (dcx dX10_knownWindow_c1 4 rfl)
  · have hyp := hyp.2 q_
    refine r_aload_n (dcx dX10_knownWindow_c0 17 rfl) 0 rfl ?_
    refine s_getr (b := 292) fX10_40 (dcx dX10_knownWindow_c0 18 rfl) F284_21 ?_
    refine r_iload_n (dcx dX10_knownWindow_c0 19 rfl) 2 rfl ?_
    obtain ⟨hb_, hyp⟩ := hyp
    refine s_lald (dcx dX10_knownWindow_c0 20 rfl) A292 hb_ ?_
    refine r_aload_n (dcx dX10_knownWindow_c0 21 rfl) 0 rfl ?_
    refine s_getr (b := 290) fX10_30 (dcx dX10_knownWindow_c0 22 rfl) F284_8 ?_
    refine r_iload_n (dcx dX10_knownWindow_c0 23 rfl) 1 rfl ?_
    obtain ⟨hb_, hyp⟩ := hyp
    refine s_lald (dcx dX10_knownWindow_c0 24 rfl) A290 hb_ ?_
    refine r_lcmp (dcx dX10_knownWindow_c0 25 rfl) ?_
    refine r_if_ne (tgt := 61) (dcx dX10_knownWindow_c0 26 rfl) (by decide) (fun q_ => ?_) (fun q_ => ?_)
    · have hyp := hyp.1 q_
      refine r_iinc (lv1 := [(2, .int (x2 + 1)), (0, .ref 284), (1, .int x1)]) (dcx dX10_knownWindow_c0 37 rfl) 2 rfl (Nat.le_of_ble_eq_true rfl) rfl ?_
      refine r_goto (tgt := 21) (dcx dX10_knownWindow_c0 38 rfl) (by decide) ?_
      refine r_loc (lv1 := [(0, .ref 284), (1, .int x1), (2, .int (x2 + 1))]) [1, 2, 0] rfl ?_
      exact hyp
    · have hyp := hyp.2 q_
      refine r_aload_n (dcx dX10_knownWindow_c0 27 rfl) 0 rfl ?_
      refine s_getr (b := 293) fX10_43 (dcx dX10_knownWindow_c0 28 rfl) F284_22 ?_
      refine r_iload_n (dcx dX10_knownWindow_c0 29 rfl) 2 rfl ?_
      obtain ⟨hb_, hyp⟩ := hyp
      refine s_iald (dcx dX10_knownWindow_c0 30 rfl) A293 hb_ ?_
      refine r_if_lt (tgt := 61) (dcx dX10_knownWindow_c0 31 rfl) (by decide) (fun q_ => ?_) (fun q_ => ?_)
      · have hyp := hyp.1 q_
        refine r_iinc (lv1 := [(2, .int (x2 + 1)), (0, .ref 284), (1, .int x1)]) (dcx dX10_knownWindow_c0 37 rfl) 2 rfl (Nat.le_of_ble_eq_true rfl) rfl ?_
        refine r_goto (tgt := 21) (dcx dX10_knownWindow_c0 38 rfl) (by decide) ?_
        refine r_loc (lv1 := [(0, .ref 284), (1, .int x1), (2, .int (x2 + 1))]) [1, 2, 0] rfl ?_
        exact hyp
      · have hyp := hyp.2 q_
        refine r_aload_n (dcx dX10_knownWindow_c0 32 rfl) 0 rfl ?_
        refine s_getr (b := 293) fX10_43 (dcx dX10_knownWindow_c0 33 rfl) F284_22 ?_
        refine r_iload_n (dcx dX10_knownWindow_c0 34 rfl) 2 rfl ?_
        obtain ⟨hb_, hyp⟩ := hyp
        refine s_iald (dcx dX10_knownWindow_c0 35 rfl) A293 hb_ ?_
        exact s_ret rfl rfl rfl hyp (dcx dX10_knownWindow_c0 36 rfl)
set_option maxHeartbeats 4000000 in
set_option maxRecDepth 20000 in
theorem tX10_bounded {Γ : GE} {l : Launch} {x1 : Int32} {x2 : Int32} {σ : SS} {K : Option Value → SS → Prop}  (hyp : ((0 : Int32) < (σ.1 284 13) → (C2 Γ l mX10_fail [.ref 284, .int 1] σ (Rv fun s1_ => (K (some (.int x1)) s1_)))) ∧ (¬ ((0 : Int32) < (σ.1 284 13)) → (C2 Γ l mX10_is [.ref 284, .int 2] σ (Ri fun r4_ s3_ => ((¬ r4_ = 0 → (vp_in (s3_.1 284 11) 403 ∧ (((s3_.1 289 (Int32.toNatClampNeg (s3_.1 284 11))) < x1 → (C2 Γ l mX10_wrong [.ref 284, .int 5, .int (s3_.1 284 11)] s3_ (Rv fun s5_ => (C2 Γ l mX10_goesOn [.ref 284] s5_ (Rv fun s7_ => (K (some (.int (s3_.1 289 (Int32.toNatClampNeg (s3_.1 284 11))))) s7_)))))) ∧ (¬ ((s3_.1 289 (Int32.toNatClampNeg (s3_.1 284 11))) < x1) → (((s3_.1 289 (Int32.toNatClampNeg (s3_.1 284 11))) ≤ x2 → (C2 Γ l mX10_goesOn [.ref 284] s3_ (Rv fun s9_ => (K (some (.int (s3_.1 289 (Int32.toNatClampNeg (s3_.1 284 11))))) s9_)))) ∧ (¬ ((s3_.1 289 (Int32.toNatClampNeg (s3_.1 284 11))) ≤ x2) → (C2 Γ l mX10_wrong [.ref 284, .int 5, .int (s3_.1 284 11)] s3_ (Rv fun s11_ => (C2 Γ l mX10_goesOn [.ref 284] s11_ (Rv fun s13_ => (K (some (.int (s3_.1 289 (Int32.toNatClampNeg (s3_.1 284 11))))) s13_))))))))))) ∧ (r4_ = 0 → (C2 Γ l mX10_fail [.ref 284, .int 1] s3_ (Rv fun s15_ => (K (some (.int x1)) s15_))))))))) : C2 Γ l mX10_bounded [.ref 284, .int x1, .int x2] σ K := by
  refine c2_of (lv := [(0, .ref 284), (1, .int x1), (2, .int x2)]) (by decide) (Nat.le_of_ble_eq_true rfl) rfl ?_
  refine r_aload_n (dcx dX10_bounded_c0 0 rfl) 0 rfl ?_
  refine s_geti fX10_215 (dcx dX10_bounded_c0 1 rfl) F284_13 ?_
  refine r_if_gt (tgt := 15) (dcx dX10_bounded_c0 2 rfl) (by decide) (fun q_ => ?_) (fun q_ => ?_)
  · have hyp := hyp.1 q_
    refine r_aload_n (dcx dX10_bounded_c0 7 rfl) 0 rfl ?_
    refine r_iconst (v := 1) (dcx dX10_bounded_c0 8 rfl) rfl ?_
    refine s_callV (as := [.int 1]) (st := []) zX10_fail kX10_bounded_230 (dcx dX10_bounded_c0 9 rfl) rfl rfl (Nat.le_of_ble_eq_true rfl) O284 rfl rfl (C2.mono hyp ?_)
    rintro _ s1_ ⟨rfl, hyp⟩
    show G2 Γ l mX10_bounded 20 [(0, .ref 284), (1, .int x1), (2, .int x2)] [] s1_ K
    refine r_iload_n (dcx dX10_bounded_c0 10 rfl) 1 rfl ?_
    exact s_ret rfl rfl rfl hyp (dcx dX10_bounded_c0 11 rfl)
  · have hyp := hyp.2 q_
    refine r_aload_n (dcx dX10_bounded_c0 3 rfl) 0 rfl ?_
    refine r_iconst (v := 2) (dcx dX10_bounded_c0 4 rfl) rfl ?_
    refine s_callV (as := [.int 2]) (st := []) zX10_is kX10_bounded_233 (dcx dX10_bounded_c0 5 rfl) rfl rfl (Nat.le_of_ble_eq_true rfl) O284 rfl rfl (C2.mono hyp ?_)
    rintro _ s3_ ⟨r4_, rfl, hyp⟩
    show G2 Γ l mX10_bounded 12 [(0, .ref 284), (1, .int x1), (2, .int x2)] [.int r4_] s3_ K
    refine r_if_ne (tgt := 22) (dcx dX10_bounded_c0 6 rfl) (by decide) (fun q_ => ?_) (fun q_ => ?_)
    · have hyp := hyp.1 q_
      refine r_aload_n (dcx dX10_bounded_c0 12 rfl) 0 rfl ?_
      refine s_getr (b := 289) fX10_27 (dcx dX10_bounded_c0 13 rfl) F284_7 ?_
      refine r_aload_n (dcx dX10_bounded_c0 14 rfl) 0 rfl ?_
      refine s_geti fX10_218 (dcx dX10_bounded_c0 15 rfl) F284_11 ?_
      obtain ⟨hb_, hyp⟩ := hyp
      refine s_iald (dcx dX10_bounded_c0 16 rfl) A289 hb_ ?_
      refine r_istore_n (lv1 := [(3, .int (s3_.1 289 (Int32.toNatClampNeg (s3_.1 284 11)))), (0, .ref 284), (1, .int x1), (2, .int x2)]) (dcx dX10_bounded_c0 17 rfl) (Nat.le_of_ble_eq_true rfl) rfl ?_
      refine r_iload_n (dcx dX10_bounded_c0 18 rfl) 0 rfl ?_
      refine r_iload_n (dcx dX10_bounded_c0 19 rfl) 2 rfl ?_
      refine r_icmp_lt (tgt := 42) (dcx dX10_bounded_c0 20 rfl) (by decide) (fun q_ => ?_) (fun q_ => ?_)
      · have hyp := hyp.1 q_
        refine r_aload_n (dcx dX10_bounded_c0 24 rfl) 1 rfl ?_
        refine r_iconst (v := 5) (dcx dX10_bounded_c0 25 rfl) rfl ?_
        refine r_aload_n (dcx dX10_bounded_c0 26 rfl) 1 rfl ?_
        refine s_geti fX10_218 (dcx dX10_bounded_c0 27 rfl) F284_11 ?_
        refine s_callV (as := [.int 5, .int (s3_.1 284 11)]) (st := []) zX10_wrong kX10_bounded_299 (dcx dX10_bounded_c0 28 rfl) rfl rfl (Nat.le_of_ble_eq_true rfl) O284 rfl rfl (C2.mono hyp ?_)
        rintro _ s5_ ⟨rfl, hyp⟩
        show G2 Γ l mX10_bounded 51 [(3, .int (s3_.1 289 (Int32.toNatClampNeg (s3_.1 284 11)))), (0, .ref 284), (1, .int x1), (2, .int x2)] [] s5_ K
        refine r_aload_n (dcx dX10_bounded_c0 29 rfl) 1 rfl ?_
        refine s_callV (as := []) (st := []) zX10_goesOn kX10_bounded_236 (dcx dX10_bounded_c0 30 rfl) rfl rfl (Nat.le_of_ble_eq_true rfl) O284 rfl rfl (C2.mono hyp ?_)
        rintro _ s7_ ⟨rfl, hyp⟩
        show G2 Γ l mX10_bounded 55 [(3, .int (s3_.1 289 (Int32.toNatClampNeg (s3_.1 284 11)))), (0, .ref 284), (1, .int x1), (2, .int x2)] [] s7_ K
        refine r_iload_n (dcx dX10_bounded_c0 31 rfl) 0 rfl ?_
        exact s_ret rfl rfl rfl hyp (dcx dX10_bounded_c0 32 rfl)
      · have hyp := hyp.2 q_
        refine r_iload_n (dcx dX10_bounded_c0 21 rfl) 0 rfl ?_
        refine r_iload_n (dcx dX10_bounded_c0 22 rfl) 3 rfl ?_
        refine r_icmp_le (tgt := 51) (dcx dX10_bounded_c0 23 rfl) (by decide) (fun q_ => ?_) (fun q_ => ?_)
        · have hyp := hyp.1 q_
          refine r_aload_n (dcx dX10_bounded_c0 29 rfl) 1 rfl ?_
          refine s_callV (as := []) (st := []) zX10_goesOn kX10_bounded_236 (dcx dX10_bounded_c0 30 rfl) rfl rfl (Nat.le_of_ble_eq_true rfl) O284 rfl rfl (C2.mono hyp ?_)
          rintro _ s9_ ⟨rfl, hyp⟩
          show G2 Γ l mX10_bounded 55 [(3, .int (s3_.1 289 (Int32.toNatClampNeg (s3_.1 284 11)))), (0, .ref 284), (1, .int x1), (2, .int x2)] [] s9_ K
          refine r_iload_n (dcx dX10_bounded_c0 31 rfl) 0 rfl ?_
          exact s_ret rfl rfl rfl hyp (dcx dX10_bounded_c0 32 rfl)
        · have hyp := hyp.2 q_
          refine r_aload_n (dcx dX10_bounded_c0 24 rfl) 1 rfl ?_
          refine r_iconst (v := 5) (dcx dX10_bounded_c0 25 rfl) rfl ?_
          refine r_aload_n (dcx dX10_bounded_c0 26 rfl) 1 rfl ?_
          refine s_geti fX10_218 (dcx dX10_bounded_c0 27 rfl) F284_11 ?_
          refine s_callV (as := [.int 5, .int (s3_.1 284 11)]) (st := []) zX10_wrong kX10_bounded_299 (dcx dX10_bounded_c0 28 rfl) rfl rfl (Nat.le_of_ble_eq_true rfl) O284 rfl rfl (C2.mono hyp ?_)
          rintro _ s11_ ⟨rfl, hyp⟩
          show G2 Γ l mX10_bounded 51 [(3, .int (s3_.1 289 (Int32.toNatClampNeg (s3_.1 284 11)))), (0, .ref 284), (1, .int x1), (2, .int x2)] [] s11_ K
          refine r_aload_n (dcx dX10_bounded_c0 29 rfl) 1 rfl ?_
          refine s_callV (as := []) (st := []) zX10_goesOn kX10_bounded_236 (dcx dX10_bounded_c0 30 rfl) rfl rfl (Nat.le_of_ble_eq_true rfl) O284 rfl rfl (C2.mono hyp ?_)
          rintro _ s13_ ⟨rfl, hyp⟩
          show G2 Γ l mX10_bounded 55 [(3, .int (s3_.1 289 (Int32.toNatClampNeg (s3_.1 284 11)))), (0, .ref 284), (1, .int x1), (2, .int x2)] [] s13_ K
          refine r_iload_n (dcx dX10_bounded_c0 31 rfl) 0 rfl ?_
          exact s_ret rfl rfl rfl hyp (dcx dX10_bounded_c0 32 rfl)
    · have hyp := hyp.2 q_
      refine r_aload_n (dcx dX10_bounded_c0 7 rfl) 0 rfl ?_
      refine r_iconst (v := 1) (dcx dX10_bounded_c0 8 rfl) rfl ?_
      refine s_callV (as := [.int 1]) (st := []) zX10_fail kX10_bounded_230 (dcx dX10_bounded_c0 9 rfl) rfl rfl (Nat.le_of_ble_eq_true rfl) O284 rfl rfl (C2.mono hyp ?_)
      rintro _ s15_ ⟨rfl, hyp⟩
      show G2 Γ l mX10_bounded 20 [(0, .ref 284), (1, .int x1), (2, .int x2)] [] s15_ K
      refine r_iload_n (dcx dX10_bounded_c0 10 rfl) 1 rfl ?_
      exact s_ret rfl rfl rfl hyp (dcx dX10_bounded_c0 11 rfl)
def wX10_tellTalk_34 (Γ : GE) (l : Launch) (x1 : Int32) (x2 : Int32) (x3 : Int32) (σ : SS) (K : Option Value → SS → Prop) : Prop := G2 Γ l mX10_tellTalk 34 [(0, .ref 284), (1, .int x1), (2, .int x2), (3, .int x3)] [] σ K
def wX10_tellTalk_68 (Γ : GE) (l : Launch) (x1 : Int32) (x2 : Int32) (x3 : Int32) (x4 : Int32) (σ : SS) (K : Option Value → SS → Prop) : Prop := G2 Γ l mX10_tellTalk 68 [(0, .ref 284), (1, .int x1), (2, .int x2), (3, .int x3), (4, .int x4)] [] σ K
def wX10_tellTalk_74 (Γ : GE) (l : Launch) (x1 : Int32) (x3 : Int32) (x4 : Int32) (σ : SS) (K : Option Value → SS → Prop) : Prop := G2 Γ l mX10_tellTalk 74 [(0, .ref 284), (1, .int x1), (3, .int x3), (4, .int x4)] [] σ K
set_option maxHeartbeats 4000000 in
set_option maxRecDepth 20000 in
theorem tX10_tellTalk {Γ : GE} {l : Launch}  {σ : SS} {K : Option Value → SS → Prop}  (hyp : C2 Γ l mX10_knownWindow [.ref 284] σ (Ri fun r2_ s1_ => (C2 Γ l mX10_knownWindow [.ref 284] s1_ (Ri fun r4_ s3_ => ((¬ (s3_.1 284 13) = 0 → (wX10_tellTalk_34 Γ l r2_ (s1_.1 284 11) r4_ s3_ K)) ∧ ((s3_.1 284 13) = 0 → ((r2_ < 0 → (wX10_tellTalk_34 Γ l r2_ (s1_.1 284 11) r4_ s3_ K)) ∧ (¬ (r2_ < 0) → ((r4_ < 0 → (wX10_tellTalk_34 Γ l r2_ (s1_.1 284 11) r4_ s3_ K)) ∧ (¬ (r4_ < 0) → ((r2_ = r4_ → (wX10_tellTalk_68 Γ l r2_ (s1_.1 284 11) r4_ 1 s3_ K)) ∧ (¬ (r2_ = r4_) → (vp_in ((4 * (s3_.1 284 19)) + r2_) 8 ∧ ((¬ (((s3_.1 303 (Int32.toNatClampNeg ((4 * (s3_.1 284 19)) + r2_))) >>> (r4_ &&& 31)) &&& 1) = 1 → (wX10_tellTalk_74 Γ l r2_ r4_ 1 s3_ K)) ∧ ((((s3_.1 303 (Int32.toNatClampNeg ((4 * (s3_.1 284 19)) + r2_))) >>> (r4_ &&& 31)) &&& 1) = 1 → (wX10_tellTalk_68 Γ l r2_ (s1_.1 284 11) r4_ 1 s3_ K)))))))))))))))) : C2 Γ l mX10_tellTalk [.ref 284] σ K := by
  refine c2_of (lv := [(0, .ref 284)]) (by decide) (Nat.le_of_ble_eq_true rfl) rfl ?_
  refine r_aload_n (dcx dX10_tellTalk_c0 0 rfl) 0 rfl ?_
  refine s_callV (as := []) (st := []) zX10_knownWindow kX10_tellTalk_313 (dcx dX10_tellTalk_c0 1 rfl) rfl rfl (Nat.le_of_ble_eq_true rfl) O284 rfl rfl (C2.mono hyp ?_)
  rintro _ s1_ ⟨r2_, rfl, hyp⟩
  show G2 Γ l mX10_tellTalk 4 [(0, .ref 284)] [.int r2_] s1_ K
  refine r_istore_n (lv1 := [(1, .int r2_), (0, .ref 284)]) (dcx dX10_tellTalk_c0 2 rfl) (Nat.le_of_ble_eq_true rfl) rfl ?_
  refine r_aload_n (dcx dX10_tellTalk_c0 3 rfl) 1 rfl ?_
  refine s_geti fX10_218 (dcx dX10_tellTalk_c0 4 rfl) F284_11 ?_
  refine r_istore_n (lv1 := [(2, .int (s1_.1 284 11)), (1, .int r2_), (0, .ref 284)]) (dcx dX10_tellTalk_c0 5 rfl) (Nat.le_of_ble_eq_true rfl) rfl ?_
  refine r_aload_n (dcx dX10_tellTalk_c0 6 rfl) 2 rfl ?_
  refine s_callV (as := []) (st := []) zX10_knownWindow kX10_tellTalk_313 (dcx dX10_tellTalk_c0 7 rfl) rfl rfl (Nat.le_of_ble_eq_true rfl) O284 rfl rfl (C2.mono hyp ?_)
  rintro _ s3_ ⟨r4_, rfl, hyp⟩
  show G2 Γ l mX10_tellTalk 14 [(2, .int (s1_.1 284 11)), (1, .int r2_), (0, .ref 284)] [.int r4_] s3_ K
  refine r_istore_n (lv1 := [(3, .int r4_), (2, .int (s1_.1 284 11)), (1, .int r2_), (0, .ref 284)]) (dcx dX10_tellTalk_c0 8 rfl) (Nat.le_of_ble_eq_true rfl) rfl ?_
  refine r_aload_n (dcx dX10_tellTalk_c0 9 rfl) 3 rfl ?_
  refine s_geti fX10_215 (dcx dX10_tellTalk_c0 10 rfl) F284_13 ?_
  refine r_if_ne (tgt := 34) (dcx dX10_tellTalk_c0 11 rfl) (by decide) (fun q_ => ?_) (fun q_ => ?_)
  · have hyp := hyp.1 q_
    refine r_loc (lv1 := [(0, .ref 284), (1, .int r2_), (2, .int (s1_.1 284 11)), (3, .int r4_)]) [3, 2, 1, 0] rfl ?_
    exact hyp
  · have hyp := hyp.2 q_
    refine r_iload_n (dcx dX10_tellTalk_c0 12 rfl) 2 rfl ?_
    refine r_if_lt (tgt := 34) (dcx dX10_tellTalk_c0 13 rfl) (by decide) (fun q_ => ?_) (fun q_ => ?_)
    · have hyp := hyp.1 q_
      refine r_loc (lv1 := [(0, .ref 284), (1, .int r2_), (2, .int (s1_.1 284 11)), (3, .int r4_)]) [3, 2, 1, 0] rfl ?_
      exact hyp
    · have hyp := hyp.2 q_
      refine r_iload_n (dcx dX10_tellTalk_c0 14 rfl) 0 rfl ?_
      refine r_if_lt (tgt := 34) (dcx dX10_tellTalk_c0 15 rfl) (by decide) (fun q_ => ?_) (fun q_ => ?_)
      · have hyp := hyp.1 q_
        refine r_loc (lv1 := [(0, .ref 284), (1, .int r2_), (2, .int (s1_.1 284 11)), (3, .int r4_)]) [3, 2, 1, 0] rfl ?_
        exact hyp
      · have hyp := hyp.2 q_
        refine r_iconst (v := 1) (dcx dX10_tellTalk_c0 16 rfl) rfl ?_
        refine r_goto (tgt := 35) (dcx dX10_tellTalk_c0 17 rfl) (by decide) ?_
        refine r_istore (lv1 := [(4, .int 1), (3, .int r4_), (2, .int (s1_.1 284 11)), (1, .int r2_), (0, .ref 284)]) (dcx dX10_tellTalk_c0 19 rfl) (Nat.le_of_ble_eq_true rfl) rfl ?_
        refine r_iload (dcx dX10_tellTalk_c0 20 rfl) 0 rfl ?_
        refine r_if_eq (tgt := 74) (dcx dX10_tellTalk_c0 21 rfl) (by decide) (fun q_ => absurd q_ (by decide)) (fun _ => ?_)
        refine r_iload_n (dcx dX10_tellTalk_c0 22 rfl) 3 rfl ?_
        refine r_iload_n (dcx dX10_tellTalk_c0 23 rfl) 1 rfl ?_
        refine r_icmp_eq (tgt := 68) (dcx dX10_tellTalk_c0 24 rfl) (by decide) (fun q_ => ?_) (fun q_ => ?_)
        · have hyp := hyp.1 q_
          refine r_loc (lv1 := [(0, .ref 284), (1, .int r2_), (2, .int (s1_.1 284 11)), (3, .int r4_), (4, .int 1)]) [4, 3, 2, 1, 0] rfl ?_
          exact hyp
        · have hyp := hyp.2 q_
          refine r_aload_n (dcx dX10_tellTalk_c0 25 rfl) 4 rfl ?_
          refine s_getr (b := 303) fX10_74 (dcx dX10_tellTalk_c0 26 rfl) F284_32 ?_
          refine r_iconst (v := 4) (dcx dX10_tellTalk_c0 27 rfl) rfl ?_
          refine r_aload_n (dcx dX10_tellTalk_c0 28 rfl) 4 rfl ?_
          refine s_geti fX10_248 (dcx dX10_tellTalk_c0 29 rfl) F284_19 ?_
          refine r_imul (dcx dX10_tellTalk_c0 30 rfl) ?_
          refine r_iload_n (dcx dX10_tellTalk_c0 31 rfl) 3 rfl ?_
          refine r_iadd (dcx dX10_tellTalk_c0 32 rfl) ?_
          obtain ⟨hb_, hyp⟩ := hyp
          refine s_iald (dcx dX10_tellTalk_c0 33 rfl) A303 hb_ ?_
          refine r_iload_n (dcx dX10_tellTalk_c0 34 rfl) 1 rfl ?_
          refine r_ishr (dcx dX10_tellTalk_c0 35 rfl) ?_
          refine r_iconst (v := 1) (dcx dX10_tellTalk_c0 36 rfl) rfl ?_
          refine r_iand (dcx dX10_tellTalk_c0 37 rfl) ?_
          refine r_iconst (v := 1) (dcx dX10_tellTalk_c0 38 rfl) rfl ?_
          refine r_icmp_ne (tgt := 74) (dcx dX10_tellTalk_c0 39 rfl) (by decide) (fun q_ => ?_) (fun q_ => ?_)
          · have hyp := hyp.1 q_
            refine r_loc (lv1 := [(0, .ref 284), (1, .int r2_), (3, .int r4_), (4, .int 1)]) [4, 3, 1, 0] rfl ?_
            exact hyp
          · have hyp := hyp.2 q_
            refine r_loc (lv1 := [(0, .ref 284), (1, .int r2_), (2, .int (s1_.1 284 11)), (3, .int r4_), (4, .int 1)]) [4, 3, 2, 1, 0] rfl ?_
            exact hyp
set_option maxHeartbeats 4000000 in
set_option maxRecDepth 20000 in
theorem tX10_tellTalk_34 {Γ : GE} {l : Launch} {x1 : Int32} {x2 : Int32} {x3 : Int32} {σ : SS} {K : Option Value → SS → Prop}  (hyp : wX10_tellTalk_74 Γ l x1 x3 0 σ K) : wX10_tellTalk_34 Γ l x1 x2 x3 σ K := by
  show G2 Γ l mX10_tellTalk 34 [(0, .ref 284), (1, .int x1), (2, .int x2), (3, .int x3)] [] σ K
  refine r_iconst (v := 0) (dcx dX10_tellTalk_c0 18 rfl) rfl ?_
  refine r_istore (lv1 := [(4, .int 0), (0, .ref 284), (1, .int x1), (2, .int x2), (3, .int x3)]) (dcx dX10_tellTalk_c0 19 rfl) (Nat.le_of_ble_eq_true rfl) rfl ?_
  refine r_iload (dcx dX10_tellTalk_c0 20 rfl) 0 rfl ?_
  refine r_if_eq (tgt := 74) (dcx dX10_tellTalk_c0 21 rfl) (by decide) (fun _ => ?_) (fun q_ => absurd q_ (by decide))
  refine r_loc (lv1 := [(0, .ref 284), (1, .int x1), (3, .int x3), (4, .int 0)]) [1, 2, 4, 0] rfl ?_
  exact hyp
set_option maxHeartbeats 4000000 in
set_option maxRecDepth 20000 in
theorem tX10_tellTalk_68 {Γ : GE} {l : Launch} {x1 : Int32} {x2 : Int32} {x3 : Int32} {x4 : Int32} {σ : SS} {K : Option Value → SS → Prop}  (hyp : C2 Γ l mX10_wrong [.ref 284, .int 3, .int x2] σ (Rv fun s1_ => (wX10_tellTalk_74 Γ l x1 x3 x4 s1_ K))) : wX10_tellTalk_68 Γ l x1 x2 x3 x4 σ K := by
  show G2 Γ l mX10_tellTalk 68 [(0, .ref 284), (1, .int x1), (2, .int x2), (3, .int x3), (4, .int x4)] [] σ K
  refine r_aload_n (dcx dX10_tellTalk_c1 0 rfl) 0 rfl ?_
  refine r_iconst (v := 3) (dcx dX10_tellTalk_c1 1 rfl) rfl ?_
  refine r_iload_n (dcx dX10_tellTalk_c1 2 rfl) 2 rfl ?_
  refine s_callV (as := [.int 3, .int x2]) (st := []) zX10_wrong kX10_tellTalk_299 (dcx dX10_tellTalk_c1 3 rfl) rfl rfl (Nat.le_of_ble_eq_true rfl) O284 rfl rfl (C2.mono hyp ?_)
  rintro _ s1_ ⟨rfl, hyp⟩
  show G2 Γ l mX10_tellTalk 74 [(0, .ref 284), (1, .int x1), (2, .int x2), (3, .int x3), (4, .int x4)] [] s1_ K
  refine r_loc (lv1 := [(0, .ref 284), (1, .int x1), (3, .int x3), (4, .int x4)]) [0, 1, 3, 4] rfl ?_
  exact hyp
set_option maxHeartbeats 4000000 in
set_option maxRecDepth 20000 in
theorem tX10_tellTalk_74 {Γ : GE} {l : Launch} {x1 : Int32} {x3 : Int32} {x4 : Int32} {σ : SS} {K : Option Value → SS → Prop}  (hyp : C2 Γ l mX10_must [.ref 284, .int 4] σ (Rv fun s1_ => (((s1_.1 284 13) ≤ 0 → (vp_in (s1_.1 284 19) 2 ∧ (vp_in (s1_.1 284 19) 2 ∧ (∀ s3_ : SS, s3_ = sI s1_ 304 (Int32.toNatClampNeg (s1_.1 284 19)) ((s1_.1 304 (Int32.toNatClampNeg (s1_.1 284 19))) + 1) → ((¬ x4 = 0 → (vp_in ((4 * (s3_.1 284 19)) + x1) 8 ∧ (vp_in ((4 * (s3_.1 284 19)) + x1) 8 ∧ (∀ s4_ : SS, s4_ = sI s3_ 303 (Int32.toNatClampNeg ((4 * (s3_.1 284 19)) + x1)) ((s3_.1 303 (Int32.toNatClampNeg ((4 * (s3_.1 284 19)) + x1))) ||| (1 <<< (x3 &&& 31))) → (vp_in ((4 * (s4_.1 284 19)) + x3) 8 ∧ (vp_in ((4 * (s4_.1 284 19)) + x3) 8 ∧ (∀ s5_ : SS, s5_ = sI s4_ 303 (Int32.toNatClampNeg ((4 * (s4_.1 284 19)) + x3)) ((s4_.1 303 (Int32.toNatClampNeg ((4 * (s4_.1 284 19)) + x3))) ||| (1 <<< (x1 &&& 31))) → (K none s5_)))))))) ∧ (x4 = 0 → (K none s3_))))))) ∧ (¬ ((s1_.1 284 13) ≤ 0) → (K none s1_))))) : wX10_tellTalk_74 Γ l x1 x3 x4 σ K := by
  show G2 Γ l mX10_tellTalk 74 [(0, .ref 284), (1, .int x1), (3, .int x3), (4, .int x4)] [] σ K
  refine r_aload_n (dcx dX10_tellTalk_c1 4 rfl) 0 rfl ?_
  refine r_iconst (v := 4) (dcx dX10_tellTalk_c1 5 rfl) rfl ?_
  refine s_callV (as := [.int 4]) (st := []) zX10_must kX10_tellTalk_289 (dcx dX10_tellTalk_c1 6 rfl) rfl rfl (Nat.le_of_ble_eq_true rfl) O284 rfl rfl (C2.mono hyp ?_)
  rintro _ s1_ ⟨rfl, hyp⟩
  show G2 Γ l mX10_tellTalk 79 [(0, .ref 284), (1, .int x1), (3, .int x3), (4, .int x4)] [] s1_ K
  refine r_aload_n (dcx dX10_tellTalk_c1 7 rfl) 0 rfl ?_
  refine s_geti fX10_215 (dcx dX10_tellTalk_c1 8 rfl) F284_13 ?_
  refine r_if_le (tgt := 87) (dcx dX10_tellTalk_c1 9 rfl) (by decide) (fun q_ => ?_) (fun q_ => ?_)
  · have hyp := hyp.1 q_
    refine r_aload_n (dcx dX10_tellTalk_c1 11 rfl) 0 rfl ?_
    refine s_getr (b := 304) fX10_77 (dcx dX10_tellTalk_c1 12 rfl) F284_33 ?_
    refine r_aload_n (dcx dX10_tellTalk_c1 13 rfl) 0 rfl ?_
    refine s_geti fX10_248 (dcx dX10_tellTalk_c1 14 rfl) F284_19 ?_
    refine r_dup2 (dcx dX10_tellTalk_c1 15 rfl) rfl rfl ?_
    obtain ⟨hb_, hyp⟩ := hyp
    refine s_iald (dcx dX10_tellTalk_c1 16 rfl) A304 hb_ ?_
    refine r_iconst (v := 1) (dcx dX10_tellTalk_c1 17 rfl) rfl ?_
    refine r_iadd (dcx dX10_tellTalk_c1 18 rfl) ?_
    obtain ⟨hb_, hyp⟩ := hyp
    refine s_iast (dcx dX10_tellTalk_c1 19 rfl) A304 hb_ ?_
    obtain ⟨s3_, es3_⟩ : ∃ z : SS, z = sI s1_ 304 (Int32.toNatClampNeg (s1_.1 284 19)) ((s1_.1 304 (Int32.toNatClampNeg (s1_.1 284 19))) + 1) := ⟨_, rfl⟩
    rw [← es3_]
    have hyp := hyp s3_ es3_
    refine r_iload (dcx dX10_tellTalk_c1 20 rfl) 3 rfl ?_
    refine r_if_ne (tgt := 106) (dcx dX10_tellTalk_c1 21 rfl) (by decide) (fun q_ => ?_) (fun q_ => ?_)
    · have hyp := hyp.1 q_
      refine r_aload_n (dcx dX10_tellTalk_c1 23 rfl) 0 rfl ?_
      refine s_getr (b := 303) fX10_74 (dcx dX10_tellTalk_c1 24 rfl) F284_32 ?_
      refine r_iconst (v := 4) (dcx dX10_tellTalk_c1 25 rfl) rfl ?_
      refine r_aload_n (dcx dX10_tellTalk_c1 26 rfl) 0 rfl ?_
      refine s_geti fX10_248 (dcx dX10_tellTalk_c1 27 rfl) F284_19 ?_
      refine r_imul (dcx dX10_tellTalk_c1 28 rfl) ?_
      refine r_iload_n (dcx dX10_tellTalk_c1 29 rfl) 1 rfl ?_
      refine r_iadd (dcx dX10_tellTalk_c1 30 rfl) ?_
      refine r_dup2 (dcx dX10_tellTalk_c1 31 rfl) rfl rfl ?_
      obtain ⟨hb_, hyp⟩ := hyp
      refine s_iald (dcx dX10_tellTalk_c1 32 rfl) A303 hb_ ?_
      refine r_iconst (v := 1) (dcx dX10_tellTalk_c1 33 rfl) rfl ?_
      refine r_iload_n (dcx dX10_tellTalk_c1 34 rfl) 2 rfl ?_
      refine r_ishl (dcx dX10_tellTalk_c1 35 rfl) ?_
      refine r_ior (dcx dX10_tellTalk_c1 36 rfl) ?_
      obtain ⟨hb_, hyp⟩ := hyp
      refine s_iast (dcx dX10_tellTalk_c1 37 rfl) A303 hb_ ?_
      obtain ⟨s4_, es4_⟩ : ∃ z : SS, z = sI s3_ 303 (Int32.toNatClampNeg ((4 * (s3_.1 284 19)) + x1)) ((s3_.1 303 (Int32.toNatClampNeg ((4 * (s3_.1 284 19)) + x1))) ||| (1 <<< (x3 &&& 31))) := ⟨_, rfl⟩
      rw [← es4_]
      have hyp := hyp s4_ es4_
      refine r_aload_n (dcx dX10_tellTalk_c1 38 rfl) 0 rfl ?_
      refine s_getr (b := 303) fX10_74 (dcx dX10_tellTalk_c1 39 rfl) F284_32 ?_
      refine r_iconst (v := 4) (dcx dX10_tellTalk_c2 0 rfl) rfl ?_
      refine r_aload_n (dcx dX10_tellTalk_c2 1 rfl) 0 rfl ?_
      refine s_geti fX10_248 (dcx dX10_tellTalk_c2 2 rfl) F284_19 ?_
      refine r_imul (dcx dX10_tellTalk_c2 3 rfl) ?_
      refine r_iload_n (dcx dX10_tellTalk_c2 4 rfl) 2 rfl ?_
      refine r_iadd (dcx dX10_tellTalk_c2 5 rfl) ?_
      refine r_dup2 (dcx dX10_tellTalk_c2 6 rfl) rfl rfl ?_
      obtain ⟨hb_, hyp⟩ := hyp
      refine s_iald (dcx dX10_tellTalk_c2 7 rfl) A303 hb_ ?_
      refine r_iconst (v := 1) (dcx dX10_tellTalk_c2 8 rfl) rfl ?_
      refine r_iload_n (dcx dX10_tellTalk_c2 9 rfl) 1 rfl ?_
      refine r_ishl (dcx dX10_tellTalk_c2 10 rfl) ?_
      refine r_ior (dcx dX10_tellTalk_c2 11 rfl) ?_
      obtain ⟨hb_, hyp⟩ := hyp
      refine s_iast (dcx dX10_tellTalk_c2 12 rfl) A303 hb_ ?_
      obtain ⟨s5_, es5_⟩ : ∃ z : SS, z = sI s4_ 303 (Int32.toNatClampNeg ((4 * (s4_.1 284 19)) + x3)) ((s4_.1 303 (Int32.toNatClampNeg ((4 * (s4_.1 284 19)) + x3))) ||| (1 <<< (x1 &&& 31))) := ⟨_, rfl⟩
      rw [← es5_]
      have hyp := hyp s5_ es5_
      exact s_vret rfl hyp (dcx dX10_tellTalk_c2 13 rfl)
    · have hyp := hyp.2 q_
      exact s_vret rfl hyp (dcx dX10_tellTalk_c1 22 rfl)
  · have hyp := hyp.2 q_
    exact s_vret rfl hyp (dcx dX10_tellTalk_c1 10 rfl)
def wX10_tellLaw_12 (Γ : GE) (l : Launch) (x1 : Int32) (x2 : Int32) (x3 : Int32) (σ : SS) (K : Option Value → SS → Prop) : Prop := G2 Γ l mX10_tellLaw 12 [(0, .ref 284), (1, .int x1), (2, .int x2), (3, .int x3)] [] σ K
def wX10_tellLaw_129 (Γ : GE) (l : Launch) (x1 : Int32) (x2 : Int32) (σ : SS) (K : Option Value → SS → Prop) : Prop := G2 Γ l mX10_tellLaw 129 [(0, .ref 284), (1, .int x1), (2, .int x2)] [] σ K
def wX10_tellLaw_38 (Γ : GE) (l : Launch) (x1 : Int32) (x2 : Int32) (x3 : Int32) (σ : SS) (K : Option Value → SS → Prop) : Prop := G2 Γ l mX10_tellLaw 38 [(0, .ref 284), (1, .int x1), (2, .int x2), (3, .int x3)] [] σ K
def wX10_tellLaw_110 (Γ : GE) (l : Launch) (x1 : Int32) (x2 : Int32) (x3 : Int32) (σ : SS) (K : Option Value → SS → Prop) : Prop := G2 Γ l mX10_tellLaw 110 [(0, .ref 284), (1, .int x1), (2, .int x2), (3, .int x3)] [] σ K
set_option maxHeartbeats 4000000 in
set_option maxRecDepth 20000 in
theorem tX10_tellLaw {Γ : GE} {l : Launch} {x1 : Int32} {σ : SS} {K : Option Value → SS → Prop}  (hyp : C2 Γ l mX10_must [.ref 284, .int 5] σ (Rv fun s1_ => (wX10_tellLaw_12 Γ l x1 (s1_.1 284 40) 0 s1_ K))) : C2 Γ l mX10_tellLaw [.ref 284, .int x1] σ K := by
  refine c2_of (lv := [(0, .ref 284), (1, .int x1)]) (by decide) (Nat.le_of_ble_eq_true rfl) rfl ?_
  refine r_aload_n (dcx dX10_tellLaw_c0 0 rfl) 0 rfl ?_
  refine r_iconst (v := 5) (dcx dX10_tellLaw_c0 1 rfl) rfl ?_
  refine s_callV (as := [.int 5]) (st := []) zX10_must kX10_tellLaw_289 (dcx dX10_tellLaw_c0 2 rfl) rfl rfl (Nat.le_of_ble_eq_true rfl) O284 rfl rfl (C2.mono hyp ?_)
  rintro _ s1_ ⟨rfl, hyp⟩
  show G2 Γ l mX10_tellLaw 5 [(0, .ref 284), (1, .int x1)] [] s1_ K
  refine r_aload_n (dcx dX10_tellLaw_c0 3 rfl) 0 rfl ?_
  refine s_geti fX10_254 (dcx dX10_tellLaw_c0 4 rfl) F284_40 ?_
  refine r_istore_n (lv1 := [(2, .int (s1_.1 284 40)), (0, .ref 284), (1, .int x1)]) (dcx dX10_tellLaw_c0 5 rfl) (Nat.le_of_ble_eq_true rfl) rfl ?_
  refine r_iconst (v := 0) (dcx dX10_tellLaw_c0 6 rfl) rfl ?_
  refine r_istore_n (lv1 := [(3, .int 0), (2, .int (s1_.1 284 40)), (0, .ref 284), (1, .int x1)]) (dcx dX10_tellLaw_c0 7 rfl) (Nat.le_of_ble_eq_true rfl) rfl ?_
  refine r_loc (lv1 := [(0, .ref 284), (1, .int x1), (2, .int (s1_.1 284 40)), (3, .int 0)]) [2, 3, 1, 0] rfl ?_
  exact hyp
set_option maxHeartbeats 4000000 in
set_option maxRecDepth 20000 in
theorem tX10_tellLaw_12 {Γ : GE} {l : Launch} {x1 : Int32} {x2 : Int32} {x3 : Int32} {σ : SS} {K : Option Value → SS → Prop}  (hyp : (¬ (σ.1 284 13) = 0 → (wX10_tellLaw_129 Γ l x1 x2 σ K)) ∧ ((σ.1 284 13) = 0 → (C2 Γ l mX10_is [.ref 284, .int 30] σ (Ri fun r2_ s1_ => ((r2_ = 0 → (wX10_tellLaw_129 Γ l x1 x2 s1_ K)) ∧ (¬ (r2_ = 0) → ((¬ x3 = 4 → (wX10_tellLaw_38 Γ l x1 x2 x3 s1_ K)) ∧ (x3 = 4 → (C2 Γ l mX10_fail [.ref 284, .int 2] s1_ (Rv fun s3_ => (wX10_tellLaw_38 Γ l x1 x2 x3 s3_ K))))))))))) : wX10_tellLaw_12 Γ l x1 x2 x3 σ K := by
  show G2 Γ l mX10_tellLaw 12 [(0, .ref 284), (1, .int x1), (2, .int x2), (3, .int x3)] [] σ K
  refine r_aload_n (dcx dX10_tellLaw_c0 8 rfl) 0 rfl ?_
  refine s_geti fX10_215 (dcx dX10_tellLaw_c0 9 rfl) F284_13 ?_
  refine r_if_ne (tgt := 129) (dcx dX10_tellLaw_c0 10 rfl) (by decide) (fun q_ => ?_) (fun q_ => ?_)
  · have hyp := hyp.1 q_
    refine r_loc (lv1 := [(0, .ref 284), (1, .int x1), (2, .int x2)]) [0, 1, 2] rfl ?_
    exact hyp
  · have hyp := hyp.2 q_
    refine r_aload_n (dcx dX10_tellLaw_c0 11 rfl) 0 rfl ?_
    refine r_bipush (v := 30) (dcx dX10_tellLaw_c0 12 rfl) rfl ?_
    refine s_callV (as := [.int 30]) (st := []) zX10_is kX10_tellLaw_233 (dcx dX10_tellLaw_c0 13 rfl) rfl rfl (Nat.le_of_ble_eq_true rfl) O284 rfl rfl (C2.mono hyp ?_)
    rintro _ s1_ ⟨r2_, rfl, hyp⟩
    show G2 Γ l mX10_tellLaw 25 [(0, .ref 284), (1, .int x1), (2, .int x2), (3, .int x3)] [.int r2_] s1_ K
    refine r_if_eq (tgt := 129) (dcx dX10_tellLaw_c0 14 rfl) (by decide) (fun q_ => ?_) (fun q_ => ?_)
    · have hyp := hyp.1 q_
      refine r_loc (lv1 := [(0, .ref 284), (1, .int x1), (2, .int x2)]) [0, 1, 2] rfl ?_
      exact hyp
    · have hyp := hyp.2 q_
      refine r_iload_n (dcx dX10_tellLaw_c0 15 rfl) 3 rfl ?_
      refine r_iconst (v := 4) (dcx dX10_tellLaw_c0 16 rfl) rfl ?_
      refine r_icmp_ne (tgt := 38) (dcx dX10_tellLaw_c0 17 rfl) (by decide) (fun q_ => ?_) (fun q_ => ?_)
      · have hyp := hyp.1 q_
        refine r_loc (lv1 := [(0, .ref 284), (1, .int x1), (2, .int x2), (3, .int x3)]) [0, 1, 2, 3] rfl ?_
        exact hyp
      · have hyp := hyp.2 q_
        refine r_aload_n (dcx dX10_tellLaw_c0 18 rfl) 0 rfl ?_
        refine r_iconst (v := 2) (dcx dX10_tellLaw_c0 19 rfl) rfl ?_
        refine s_callV (as := [.int 2]) (st := []) zX10_fail kX10_tellLaw_230 (dcx dX10_tellLaw_c0 20 rfl) rfl rfl (Nat.le_of_ble_eq_true rfl) O284 rfl rfl (C2.mono hyp ?_)
        rintro _ s3_ ⟨rfl, hyp⟩
        show G2 Γ l mX10_tellLaw 38 [(0, .ref 284), (1, .int x1), (2, .int x2), (3, .int x3)] [] s3_ K
        refine r_loc (lv1 := [(0, .ref 284), (1, .int x1), (2, .int x2), (3, .int x3)]) [0, 1, 2, 3] rfl ?_
        exact hyp
set_option maxHeartbeats 4000000 in
set_option maxRecDepth 20000 in
theorem tX10_tellLaw_129 {Γ : GE} {l : Launch} {x1 : Int32} {x2 : Int32} {σ : SS} {K : Option Value → SS → Prop}  (hyp : vp_in (σ.1 284 40) 260 ∧ (∀ s1_ : SS, s1_ = sI σ 311 (Int32.toNatClampNeg (σ.1 284 40)) (vp_nar .boolean 0) → (C2 Γ l mX10_term [.ref 284] s1_ (Rv fun s2_ => (C2 Γ l mX10_must [.ref 284, .int 4] s2_ (Rv fun s4_ => (((s4_.1 284 13) ≤ 0 → (vp_in ((3 * (s4_.1 284 19)) + x1) 6 ∧ (∀ s6_ : SS, s6_ = sI s4_ 309 (Int32.toNatClampNeg ((3 * (s4_.1 284 19)) + x1)) x2 → (vp_in ((3 * (s6_.1 284 19)) + x1) 6 ∧ (∀ s7_ : SS, s7_ = sI s6_ 310 (Int32.toNatClampNeg ((3 * (s6_.1 284 19)) + x1)) (s6_.1 284 40) → (K none s7_)))))) ∧ (¬ ((s4_.1 284 13) ≤ 0) → (K none s4_))))))))) : wX10_tellLaw_129 Γ l x1 x2 σ K := by
  show G2 Γ l mX10_tellLaw 129 [(0, .ref 284), (1, .int x1), (2, .int x2)] [] σ K
  refine r_aload_n (dcx dX10_tellLaw_c1 27 rfl) 0 rfl ?_
  refine s_getr (b := 311) fX10_98 (dcx dX10_tellLaw_c1 28 rfl) F284_41 ?_
  refine r_aload_n (dcx dX10_tellLaw_c1 29 rfl) 0 rfl ?_
  refine s_geti fX10_254 (dcx dX10_tellLaw_c1 30 rfl) F284_40 ?_
  refine r_iconst (v := 0) (dcx dX10_tellLaw_c1 31 rfl) rfl ?_
  obtain ⟨hb_, hyp⟩ := hyp
  refine s_zast (dcx dX10_tellLaw_c1 32 rfl) A311 hb_ ?_
  obtain ⟨s1_, es1_⟩ : ∃ z : SS, z = sI σ 311 (Int32.toNatClampNeg (σ.1 284 40)) (vp_nar .boolean 0) := ⟨_, rfl⟩
  rw [← es1_]
  have hyp := hyp s1_ es1_
  refine r_aload_n (dcx dX10_tellLaw_c1 33 rfl) 0 rfl ?_
  refine s_callV (as := []) (st := []) zX10_term kX10_tellLaw_319 (dcx dX10_tellLaw_c1 34 rfl) rfl rfl (Nat.le_of_ble_eq_true rfl) O284 rfl rfl (C2.mono hyp ?_)
  rintro _ s2_ ⟨rfl, hyp⟩
  show G2 Γ l mX10_tellLaw 143 [(0, .ref 284), (1, .int x1), (2, .int x2)] [] s2_ K
  refine r_aload_n (dcx dX10_tellLaw_c1 35 rfl) 0 rfl ?_
  refine r_iconst (v := 4) (dcx dX10_tellLaw_c1 36 rfl) rfl ?_
  refine s_callV (as := [.int 4]) (st := []) zX10_must kX10_tellLaw_289 (dcx dX10_tellLaw_c1 37 rfl) rfl rfl (Nat.le_of_ble_eq_true rfl) O284 rfl rfl (C2.mono hyp ?_)
  rintro _ s4_ ⟨rfl, hyp⟩
  show G2 Γ l mX10_tellLaw 148 [(0, .ref 284), (1, .int x1), (2, .int x2)] [] s4_ K
  refine r_aload_n (dcx dX10_tellLaw_c1 38 rfl) 0 rfl ?_
  refine s_geti fX10_215 (dcx dX10_tellLaw_c1 39 rfl) F284_13 ?_
  refine r_if_le (tgt := 156) (dcx dX10_tellLaw_c2 0 rfl) (by decide) (fun q_ => ?_) (fun q_ => ?_)
  · have hyp := hyp.1 q_
    refine r_aload_n (dcx dX10_tellLaw_c2 2 rfl) 0 rfl ?_
    refine s_getr (b := 309) fX10_92 (dcx dX10_tellLaw_c2 3 rfl) F284_38 ?_
    refine r_iconst (v := 3) (dcx dX10_tellLaw_c2 4 rfl) rfl ?_
    refine r_aload_n (dcx dX10_tellLaw_c2 5 rfl) 0 rfl ?_
    refine s_geti fX10_248 (dcx dX10_tellLaw_c2 6 rfl) F284_19 ?_
    refine r_imul (dcx dX10_tellLaw_c2 7 rfl) ?_
    refine r_iload_n (dcx dX10_tellLaw_c2 8 rfl) 1 rfl ?_
    refine r_iadd (dcx dX10_tellLaw_c2 9 rfl) ?_
    refine r_iload_n (dcx dX10_tellLaw_c2 10 rfl) 2 rfl ?_
    obtain ⟨hb_, hyp⟩ := hyp
    refine s_iast (dcx dX10_tellLaw_c2 11 rfl) A309 hb_ ?_
    obtain ⟨s6_, es6_⟩ : ∃ z : SS, z = sI s4_ 309 (Int32.toNatClampNeg ((3 * (s4_.1 284 19)) + x1)) x2 := ⟨_, rfl⟩
    rw [← es6_]
    have hyp := hyp s6_ es6_
    refine r_aload_n (dcx dX10_tellLaw_c2 12 rfl) 0 rfl ?_
    refine s_getr (b := 310) fX10_95 (dcx dX10_tellLaw_c2 13 rfl) F284_39 ?_
    refine r_iconst (v := 3) (dcx dX10_tellLaw_c2 14 rfl) rfl ?_
    refine r_aload_n (dcx dX10_tellLaw_c2 15 rfl) 0 rfl ?_
    refine s_geti fX10_248 (dcx dX10_tellLaw_c2 16 rfl) F284_19 ?_
    refine r_imul (dcx dX10_tellLaw_c2 17 rfl) ?_
    refine r_iload_n (dcx dX10_tellLaw_c2 18 rfl) 1 rfl ?_
    refine r_iadd (dcx dX10_tellLaw_c2 19 rfl) ?_
    refine r_aload_n (dcx dX10_tellLaw_c2 20 rfl) 0 rfl ?_
    refine s_geti fX10_254 (dcx dX10_tellLaw_c2 21 rfl) F284_40 ?_
    obtain ⟨hb_, hyp⟩ := hyp
    refine s_iast (dcx dX10_tellLaw_c2 22 rfl) A310 hb_ ?_
    obtain ⟨s7_, es7_⟩ : ∃ z : SS, z = sI s6_ 310 (Int32.toNatClampNeg ((3 * (s6_.1 284 19)) + x1)) (s6_.1 284 40) := ⟨_, rfl⟩
    rw [← es7_]
    have hyp := hyp s7_ es7_
    exact s_vret rfl hyp (dcx dX10_tellLaw_c2 23 rfl)
  · have hyp := hyp.2 q_
    exact s_vret rfl hyp (dcx dX10_tellLaw_c2 1 rfl)
set_option maxHeartbeats 4000000 in
set_option maxRecDepth 20000 in
theorem tX10_tellLaw_38 {Γ : GE} {l : Launch} {x1 : Int32} {x2 : Int32} {x3 : Int32} {σ : SS} {K : Option Value → SS → Prop}  (hyp : ((σ.1 284 13) ≤ 0 → (C2 Γ l mX10_goesOn [.ref 284] σ (Rv fun s1_ => (vp_in (s1_.1 284 40) 260 ∧ (∀ s3_ : SS, s3_ = sI s1_ 311 (Int32.toNatClampNeg (s1_.1 284 40)) (vp_nar .boolean 1) → (vp_in (s3_.1 284 40) 260 ∧ (∀ s4_ : SS, s4_ = sI s3_ 312 (Int32.toNatClampNeg (s3_.1 284 40)) (s3_.1 284 46) → (C2 Γ l mX10_expression [.ref 284] s4_ (Rv fun s5_ => (C2 Γ l mX10_must [.ref 284, .int 13] s5_ (Rv fun s7_ => (vp_in (s7_.1 284 40) 260 ∧ (∀ s9_ : SS, s9_ = sI s7_ 313 (Int32.toNatClampNeg (s7_.1 284 40)) (s7_.1 284 46) → ((¬ (s9_.1 284 13) = 0 → (wX10_tellLaw_110 Γ l x1 x2 (x3 + 1) s9_ K)) ∧ ((s9_.1 284 13) = 0 → (C2 Γ l mX10_expression [.ref 284] s9_ (Rv fun s10_ => (wX10_tellLaw_110 Γ l x1 x2 (x3 + 1) s10_ K)))))))))))))))))) ∧ (¬ ((σ.1 284 13) ≤ 0) → (K none σ))) : wX10_tellLaw_38 Γ l x1 x2 x3 σ K := by
  show G2 Γ l mX10_tellLaw 38 [(0, .ref 284), (1, .int x1), (2, .int x2), (3, .int x3)] [] σ K
  refine r_aload_n (dcx dX10_tellLaw_c0 21 rfl) 0 rfl ?_
  refine s_geti fX10_215 (dcx dX10_tellLaw_c0 22 rfl) F284_13 ?_
  refine r_if_le (tgt := 46) (dcx dX10_tellLaw_c0 23 rfl) (by decide) (fun q_ => ?_) (fun q_ => ?_)
  · have hyp := hyp.1 q_
    refine r_iinc (lv1 := [(3, .int (x3 + 1)), (0, .ref 284), (1, .int x1), (2, .int x2)]) (dcx dX10_tellLaw_c0 25 rfl) 3 rfl (Nat.le_of_ble_eq_true rfl) rfl ?_
    refine r_aload_n (dcx dX10_tellLaw_c0 26 rfl) 1 rfl ?_
    refine s_callV (as := []) (st := []) zX10_goesOn kX10_tellLaw_236 (dcx dX10_tellLaw_c0 27 rfl) rfl rfl (Nat.le_of_ble_eq_true rfl) O284 rfl rfl (C2.mono hyp ?_)
    rintro _ s1_ ⟨rfl, hyp⟩
    show G2 Γ l mX10_tellLaw 53 [(3, .int (x3 + 1)), (0, .ref 284), (1, .int x1), (2, .int x2)] [] s1_ K
    refine r_aload_n (dcx dX10_tellLaw_c0 28 rfl) 1 rfl ?_
    refine s_getr (b := 311) fX10_98 (dcx dX10_tellLaw_c0 29 rfl) F284_41 ?_
    refine r_aload_n (dcx dX10_tellLaw_c0 30 rfl) 1 rfl ?_
    refine s_geti fX10_254 (dcx dX10_tellLaw_c0 31 rfl) F284_40 ?_
    refine r_iconst (v := 1) (dcx dX10_tellLaw_c0 32 rfl) rfl ?_
    obtain ⟨hb_, hyp⟩ := hyp
    refine s_zast (dcx dX10_tellLaw_c0 33 rfl) A311 hb_ ?_
    obtain ⟨s3_, es3_⟩ : ∃ z : SS, z = sI s1_ 311 (Int32.toNatClampNeg (s1_.1 284 40)) (vp_nar .boolean 1) := ⟨_, rfl⟩
    rw [← es3_]
    have hyp := hyp s3_ es3_
    refine r_aload_n (dcx dX10_tellLaw_c0 34 rfl) 1 rfl ?_
    refine s_getr (b := 312) fX10_101 (dcx dX10_tellLaw_c0 35 rfl) F284_42 ?_
    refine r_aload_n (dcx dX10_tellLaw_c0 36 rfl) 1 rfl ?_
    refine s_geti fX10_254 (dcx dX10_tellLaw_c0 37 rfl) F284_40 ?_
    refine r_aload_n (dcx dX10_tellLaw_c0 38 rfl) 1 rfl ?_
    refine s_geti fX10_257 (dcx dX10_tellLaw_c0 39 rfl) F284_46 ?_
    obtain ⟨hb_, hyp⟩ := hyp
    refine s_iast (dcx dX10_tellLaw_c1 0 rfl) A312 hb_ ?_
    obtain ⟨s4_, es4_⟩ : ∃ z : SS, z = sI s3_ 312 (Int32.toNatClampNeg (s3_.1 284 40)) (s3_.1 284 46) := ⟨_, rfl⟩
    rw [← es4_]
    have hyp := hyp s4_ es4_
    refine r_aload_n (dcx dX10_tellLaw_c1 1 rfl) 1 rfl ?_
    refine s_callV (as := []) (st := []) zX10_expression kX10_tellLaw_316 (dcx dX10_tellLaw_c1 2 rfl) rfl rfl (Nat.le_of_ble_eq_true rfl) O284 rfl rfl (C2.mono hyp ?_)
    rintro _ s5_ ⟨rfl, hyp⟩
    show G2 Γ l mX10_tellLaw 80 [(3, .int (x3 + 1)), (0, .ref 284), (1, .int x1), (2, .int x2)] [] s5_ K
    refine r_aload_n (dcx dX10_tellLaw_c1 3 rfl) 1 rfl ?_
    refine r_bipush (v := 13) (dcx dX10_tellLaw_c1 4 rfl) rfl ?_
    refine s_callV (as := [.int 13]) (st := []) zX10_must kX10_tellLaw_289 (dcx dX10_tellLaw_c1 5 rfl) rfl rfl (Nat.le_of_ble_eq_true rfl) O284 rfl rfl (C2.mono hyp ?_)
    rintro _ s7_ ⟨rfl, hyp⟩
    show G2 Γ l mX10_tellLaw 86 [(3, .int (x3 + 1)), (0, .ref 284), (1, .int x1), (2, .int x2)] [] s7_ K
    refine r_aload_n (dcx dX10_tellLaw_c1 6 rfl) 1 rfl ?_
    refine s_getr (b := 313) fX10_104 (dcx dX10_tellLaw_c1 7 rfl) F284_43 ?_
    refine r_aload_n (dcx dX10_tellLaw_c1 8 rfl) 1 rfl ?_
    refine s_geti fX10_254 (dcx dX10_tellLaw_c1 9 rfl) F284_40 ?_
    refine r_aload_n (dcx dX10_tellLaw_c1 10 rfl) 1 rfl ?_
    refine s_geti fX10_257 (dcx dX10_tellLaw_c1 11 rfl) F284_46 ?_
    obtain ⟨hb_, hyp⟩ := hyp
    refine s_iast (dcx dX10_tellLaw_c1 12 rfl) A313 hb_ ?_
    obtain ⟨s9_, es9_⟩ : ∃ z : SS, z = sI s7_ 313 (Int32.toNatClampNeg (s7_.1 284 40)) (s7_.1 284 46) := ⟨_, rfl⟩
    rw [← es9_]
    have hyp := hyp s9_ es9_
    refine r_aload_n (dcx dX10_tellLaw_c1 13 rfl) 1 rfl ?_
    refine s_geti fX10_215 (dcx dX10_tellLaw_c1 14 rfl) F284_13 ?_
    refine r_if_ne (tgt := 110) (dcx dX10_tellLaw_c1 15 rfl) (by decide) (fun q_ => ?_) (fun q_ => ?_)
    · have hyp := hyp.1 q_
      refine r_loc (lv1 := [(0, .ref 284), (1, .int x1), (2, .int x2), (3, .int (x3 + 1))]) [1, 2, 3, 0] rfl ?_
      exact hyp
    · have hyp := hyp.2 q_
      refine r_aload_n (dcx dX10_tellLaw_c1 16 rfl) 1 rfl ?_
      refine s_callV (as := []) (st := []) zX10_expression kX10_tellLaw_316 (dcx dX10_tellLaw_c1 17 rfl) rfl rfl (Nat.le_of_ble_eq_true rfl) O284 rfl rfl (C2.mono hyp ?_)
      rintro _ s10_ ⟨rfl, hyp⟩
      show G2 Γ l mX10_tellLaw 110 [(3, .int (x3 + 1)), (0, .ref 284), (1, .int x1), (2, .int x2)] [] s10_ K
      refine r_loc (lv1 := [(0, .ref 284), (1, .int x1), (2, .int x2), (3, .int (x3 + 1))]) [1, 2, 3, 0] rfl ?_
      exact hyp
  · have hyp := hyp.2 q_
    exact s_vret rfl hyp (dcx dX10_tellLaw_c0 24 rfl)
set_option maxHeartbeats 4000000 in
set_option maxRecDepth 20000 in
theorem tX10_tellLaw_110 {Γ : GE} {l : Launch} {x1 : Int32} {x2 : Int32} {x3 : Int32} {σ : SS} {K : Option Value → SS → Prop}  (hyp : C2 Γ l mX10_must [.ref 284, .int 31] σ (Rv fun s1_ => (C2 Γ l mX10_term [.ref 284] s1_ (Rv fun s3_ => (C2 Γ l mX10_must [.ref 284, .int 32] s3_ (Rv fun s5_ => (wX10_tellLaw_12 Γ l x1 x2 x3 s5_ K))))))) : wX10_tellLaw_110 Γ l x1 x2 x3 σ K := by
  show G2 Γ l mX10_tellLaw 110 [(0, .ref 284), (1, .int x1), (2, .int x2), (3, .int x3)] [] σ K
  refine r_aload_n (dcx dX10_tellLaw_c1 18 rfl) 0 rfl ?_
  refine r_bipush (v := 31) (dcx dX10_tellLaw_c1 19 rfl) rfl ?_
  refine s_callV (as := [.int 31]) (st := []) zX10_must kX10_tellLaw_289 (dcx dX10_tellLaw_c1 20 rfl) rfl rfl (Nat.le_of_ble_eq_true rfl) O284 rfl rfl (C2.mono hyp ?_)
  rintro _ s1_ ⟨rfl, hyp⟩
  show G2 Γ l mX10_tellLaw 116 [(0, .ref 284), (1, .int x1), (2, .int x2), (3, .int x3)] [] s1_ K
  refine r_aload_n (dcx dX10_tellLaw_c1 21 rfl) 0 rfl ?_
  refine s_callV (as := []) (st := []) zX10_term kX10_tellLaw_319 (dcx dX10_tellLaw_c1 22 rfl) rfl rfl (Nat.le_of_ble_eq_true rfl) O284 rfl rfl (C2.mono hyp ?_)
  rintro _ s3_ ⟨rfl, hyp⟩
  show G2 Γ l mX10_tellLaw 120 [(0, .ref 284), (1, .int x1), (2, .int x2), (3, .int x3)] [] s3_ K
  refine r_aload_n (dcx dX10_tellLaw_c1 23 rfl) 0 rfl ?_
  refine r_bipush (v := 32) (dcx dX10_tellLaw_c1 24 rfl) rfl ?_
  refine s_callV (as := [.int 32]) (st := []) zX10_must kX10_tellLaw_289 (dcx dX10_tellLaw_c1 25 rfl) rfl rfl (Nat.le_of_ble_eq_true rfl) O284 rfl rfl (C2.mono hyp ?_)
  rintro _ s5_ ⟨rfl, hyp⟩
  show G2 Γ l mX10_tellLaw 126 [(0, .ref 284), (1, .int x1), (2, .int x2), (3, .int x3)] [] s5_ K
  refine r_goto (tgt := 12) (dcx dX10_tellLaw_c1 26 rfl) (by decide) ?_
  refine r_loc (lv1 := [(0, .ref 284), (1, .int x1), (2, .int x2), (3, .int x3)]) [0, 1, 2, 3] rfl ?_
  exact hyp
set_option maxHeartbeats 4000000 in
set_option maxRecDepth 20000 in
theorem tX10_term {Γ : GE} {l : Launch}  {σ : SS} {K : Option Value → SS → Prop}  (hyp : vp_in (σ.1 284 40) 260 ∧ (∀ s1_ : SS, s1_ = sI σ 314 (Int32.toNatClampNeg (σ.1 284 40)) (σ.1 284 46) → ((¬ (s1_.1 284 13) = 0 → (vp_in (s1_.1 284 40) 260 ∧ (∀ s2_ : SS, s2_ = sI s1_ 315 (Int32.toNatClampNeg (s1_.1 284 40)) (s1_.1 284 46) → (∀ s3_ : SS, s3_ = sI s2_ 284 40 ((s2_.1 284 40) + 1) → (K none s3_))))) ∧ ((s1_.1 284 13) = 0 → (C2 Γ l mX10_expression [.ref 284] s1_ (Rv fun s4_ => (vp_in (s4_.1 284 40) 260 ∧ (∀ s6_ : SS, s6_ = sI s4_ 315 (Int32.toNatClampNeg (s4_.1 284 40)) (s4_.1 284 46) → (∀ s7_ : SS, s7_ = sI s6_ 284 40 ((s6_.1 284 40) + 1) → (K none s7_)))))))))) : C2 Γ l mX10_term [.ref 284] σ K := by
  refine c2_of (lv := [(0, .ref 284)]) (by decide) (Nat.le_of_ble_eq_true rfl) rfl ?_
  refine r_aload_n (dcx dX10_term_c0 0 rfl) 0 rfl ?_
  refine s_getr (b := 314) fX10_107 (dcx dX10_term_c0 1 rfl) F284_44 ?_
  refine r_aload_n (dcx dX10_term_c0 2 rfl) 0 rfl ?_
  refine s_geti fX10_254 (dcx dX10_term_c0 3 rfl) F284_40 ?_
  refine r_aload_n (dcx dX10_term_c0 4 rfl) 0 rfl ?_
  refine s_geti fX10_257 (dcx dX10_term_c0 5 rfl) F284_46 ?_
  obtain ⟨hb_, hyp⟩ := hyp
  refine s_iast (dcx dX10_term_c0 6 rfl) A314 hb_ ?_
  obtain ⟨s1_, es1_⟩ : ∃ z : SS, z = sI σ 314 (Int32.toNatClampNeg (σ.1 284 40)) (σ.1 284 46) := ⟨_, rfl⟩
  rw [← es1_]
  have hyp := hyp s1_ es1_
  refine r_aload_n (dcx dX10_term_c0 7 rfl) 0 rfl ?_
  refine s_geti fX10_215 (dcx dX10_term_c0 8 rfl) F284_13 ?_
  refine r_if_ne (tgt := 24) (dcx dX10_term_c0 9 rfl) (by decide) (fun q_ => ?_) (fun q_ => ?_)
  · have hyp := hyp.1 q_
    refine r_aload_n (dcx dX10_term_c0 12 rfl) 0 rfl ?_
    refine s_getr (b := 315) fX10_110 (dcx dX10_term_c0 13 rfl) F284_45 ?_
    refine r_aload_n (dcx dX10_term_c0 14 rfl) 0 rfl ?_
    refine s_geti fX10_254 (dcx dX10_term_c0 15 rfl) F284_40 ?_
    refine r_aload_n (dcx dX10_term_c0 16 rfl) 0 rfl ?_
    refine s_geti fX10_257 (dcx dX10_term_c0 17 rfl) F284_46 ?_
    obtain ⟨hb_, hyp⟩ := hyp
    refine s_iast (dcx dX10_term_c0 18 rfl) A315 hb_ ?_
    obtain ⟨s2_, es2_⟩ : ∃ z : SS, z = sI s1_ 315 (Int32.toNatClampNeg (s1_.1 284 40)) (s1_.1 284 46) := ⟨_, rfl⟩
    rw [← es2_]
    have hyp := hyp s2_ es2_
    refine r_aload_n (dcx dX10_term_c0 19 rfl) 0 rfl ?_
    refine r_dup (dcx dX10_term_c0 20 rfl) rfl ?_
    refine s_geti fX10_254 (dcx dX10_term_c0 21 rfl) F284_40 ?_
    refine r_iconst (v := 1) (dcx dX10_term_c0 22 rfl) rfl ?_
    refine r_iadd (dcx dX10_term_c0 23 rfl) ?_
    refine s_puti gX10_254 (dcx dX10_term_c0 24 rfl) F284_40 ?_
    obtain ⟨s3_, es3_⟩ : ∃ z : SS, z = sI s2_ 284 40 ((s2_.1 284 40) + 1) := ⟨_, rfl⟩
    rw [← es3_]
    have hyp := hyp s3_ es3_
    exact s_vret rfl hyp (dcx dX10_term_c0 25 rfl)
  · have hyp := hyp.2 q_
    refine r_aload_n (dcx dX10_term_c0 10 rfl) 0 rfl ?_
    refine s_callV (as := []) (st := []) zX10_expression kX10_term_316 (dcx dX10_term_c0 11 rfl) rfl rfl (Nat.le_of_ble_eq_true rfl) O284 rfl rfl (C2.mono hyp ?_)
    rintro _ s4_ ⟨rfl, hyp⟩
    show G2 Γ l mX10_term 24 [(0, .ref 284)] [] s4_ K
    refine r_aload_n (dcx dX10_term_c0 12 rfl) 0 rfl ?_
    refine s_getr (b := 315) fX10_110 (dcx dX10_term_c0 13 rfl) F284_45 ?_
    refine r_aload_n (dcx dX10_term_c0 14 rfl) 0 rfl ?_
    refine s_geti fX10_254 (dcx dX10_term_c0 15 rfl) F284_40 ?_
    refine r_aload_n (dcx dX10_term_c0 16 rfl) 0 rfl ?_
    refine s_geti fX10_257 (dcx dX10_term_c0 17 rfl) F284_46 ?_
    obtain ⟨hb_, hyp⟩ := hyp
    refine s_iast (dcx dX10_term_c0 18 rfl) A315 hb_ ?_
    obtain ⟨s6_, es6_⟩ : ∃ z : SS, z = sI s4_ 315 (Int32.toNatClampNeg (s4_.1 284 40)) (s4_.1 284 46) := ⟨_, rfl⟩
    rw [← es6_]
    have hyp := hyp s6_ es6_
    refine r_aload_n (dcx dX10_term_c0 19 rfl) 0 rfl ?_
    refine r_dup (dcx dX10_term_c0 20 rfl) rfl ?_
    refine s_geti fX10_254 (dcx dX10_term_c0 21 rfl) F284_40 ?_
    refine r_iconst (v := 1) (dcx dX10_term_c0 22 rfl) rfl ?_
    refine r_iadd (dcx dX10_term_c0 23 rfl) ?_
    refine s_puti gX10_254 (dcx dX10_term_c0 24 rfl) F284_40 ?_
    obtain ⟨s7_, es7_⟩ : ∃ z : SS, z = sI s6_ 284 40 ((s6_.1 284 40) + 1) := ⟨_, rfl⟩
    rw [← es7_]
    have hyp := hyp s7_ es7_
    exact s_vret rfl hyp (dcx dX10_term_c0 25 rfl)
set_option maxHeartbeats 4000000 in
set_option maxRecDepth 20000 in
theorem tX10_emit {Γ : GE} {l : Launch} {x1 : Int32} {x2 : Int32} {σ : SS} {K : Option Value → SS → Prop}  (hyp : vp_in (σ.1 284 46) 840 ∧ (∀ s1_ : SS, s1_ = sI σ 316 (Int32.toNatClampNeg (σ.1 284 46)) x1 → (vp_in (s1_.1 284 46) 840 ∧ (∀ s2_ : SS, s2_ = sI s1_ 317 (Int32.toNatClampNeg (s1_.1 284 46)) x2 → (∀ s3_ : SS, s3_ = sI s2_ 284 46 ((s2_.1 284 46) + 1) → (K none s3_)))))) : C2 Γ l mX10_emit [.ref 284, .int x1, .int x2] σ K := by
  refine c2_of (lv := [(0, .ref 284), (1, .int x1), (2, .int x2)]) (by decide) (Nat.le_of_ble_eq_true rfl) rfl ?_
  refine r_aload_n (dcx dX10_emit_c0 0 rfl) 0 rfl ?_
  refine s_getr (b := 316) fX10_113 (dcx dX10_emit_c0 1 rfl) F284_47 ?_
  refine r_aload_n (dcx dX10_emit_c0 2 rfl) 0 rfl ?_
  refine s_geti fX10_257 (dcx dX10_emit_c0 3 rfl) F284_46 ?_
  refine r_iload_n (dcx dX10_emit_c0 4 rfl) 1 rfl ?_
  obtain ⟨hb_, hyp⟩ := hyp
  refine s_iast (dcx dX10_emit_c0 5 rfl) A316 hb_ ?_
  obtain ⟨s1_, es1_⟩ : ∃ z : SS, z = sI σ 316 (Int32.toNatClampNeg (σ.1 284 46)) x1 := ⟨_, rfl⟩
  rw [← es1_]
  have hyp := hyp s1_ es1_
  refine r_aload_n (dcx dX10_emit_c0 6 rfl) 0 rfl ?_
  refine s_getr (b := 317) fX10_116 (dcx dX10_emit_c0 7 rfl) F284_48 ?_
  refine r_aload_n (dcx dX10_emit_c0 8 rfl) 0 rfl ?_
  refine s_geti fX10_257 (dcx dX10_emit_c0 9 rfl) F284_46 ?_
  refine r_iload_n (dcx dX10_emit_c0 10 rfl) 2 rfl ?_
  obtain ⟨hb_, hyp⟩ := hyp
  refine s_iast (dcx dX10_emit_c0 11 rfl) A317 hb_ ?_
  obtain ⟨s2_, es2_⟩ : ∃ z : SS, z = sI s1_ 317 (Int32.toNatClampNeg (s1_.1 284 46)) x2 := ⟨_, rfl⟩
  rw [← es2_]
  have hyp := hyp s2_ es2_
  refine r_aload_n (dcx dX10_emit_c0 12 rfl) 0 rfl ?_
  refine r_dup (dcx dX10_emit_c0 13 rfl) rfl ?_
  refine s_geti fX10_257 (dcx dX10_emit_c0 14 rfl) F284_46 ?_
  refine r_iconst (v := 1) (dcx dX10_emit_c0 15 rfl) rfl ?_
  refine r_iadd (dcx dX10_emit_c0 16 rfl) ?_
  refine s_puti gX10_257 (dcx dX10_emit_c0 17 rfl) F284_46 ?_
  obtain ⟨s3_, es3_⟩ : ∃ z : SS, z = sI s2_ 284 46 ((s2_.1 284 46) + 1) := ⟨_, rfl⟩
  rw [← es3_]
  have hyp := hyp s3_ es3_
  exact s_vret rfl hyp (dcx dX10_emit_c0 18 rfl)
