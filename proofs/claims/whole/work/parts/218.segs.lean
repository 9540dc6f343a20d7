def wX10_isBlade_24 (Γ : GE) (l : Launch) (x1 : Int32) (x2 : Int32) (x3 : Int32) (x4 : Int32) (x5 : Int32) (x6 : Int32) (σ : SS) (K : Option Value → SS → Prop) : Prop := G2 Γ l mX10_isBlade 24 [(0, .ref 284), (1, .int x1), (2, .int x2), (3, .int x3), (4, .int x4), (5, .int x5), (6, .int x6)] [] σ K
def wX10_isBlade_73 (Γ : GE) (l : Launch) (x5 : Int32) (x6 : Int32) (σ : SS) (K : Option Value → SS → Prop) : Prop := G2 Γ l mX10_isBlade 73 [(0, .ref 284), (5, .int x5), (6, .int x6)] [] σ K
set_option maxHeartbeats 4000000 in
set_option maxRecDepth 20000 in
theorem tX10_isBlade {Γ : GE} {l : Launch} {x1 : Int32} {x2 : Int32} {x3 : Int32} {x4 : Int32} {x5 : Int32} {σ : SS} {K : Option Value → SS → Prop}  (hyp : C2 Γ l mX10_begins [.ref 284] σ (Rv fun s1_ => (vp_in 104 106 ∧ (vp_in 104 106 ∧ (∀ s3_ : SS, s3_ = sI s1_ 322 (Int32.toNatClampNeg 104) ((s1_.1 321 (Int32.toNatClampNeg 104)) - x4) → (wX10_isBlade_24 Γ l x1 x2 x3 x4 x5 0 s3_ K)))))) : C2 Γ l mX10_isBlade [.ref 284, .int x1, .int x2, .int x3, .int x4, .int x5] σ K := by
  refine c2_of (lv := [(0, .ref 284), (1, .int x1), (2, .int x2), (3, .int x3), (4, .int x4), (5, .int x5)]) (by decide) (Nat.le_of_ble_eq_true rfl) rfl ?_
  refine r_aload_n (dcx dX10_isBlade_c0 0 rfl) 0 rfl ?_
  refine s_callV (as := []) (st := []) zX10_begins kX10_isBlade_172 (dcx dX10_isBlade_c0 1 rfl) rfl rfl (Nat.le_of_ble_eq_true rfl) O284 rfl rfl (C2.mono hyp ?_)
  rintro _ s1_ ⟨rfl, hyp⟩
  show G2 Γ l mX10_isBlade 4 [(0, .ref 284), (1, .int x1), (2, .int x2), (3, .int x3), (4, .int x4), (5, .int x5)] [] s1_ K
  refine r_aload_n (dcx dX10_isBlade_c0 2 rfl) 0 rfl ?_
  refine s_getr (b := 322) fX10_131 (dcx dX10_isBlade_c0 3 rfl) F284_55 ?_
  refine r_bipush (v := 104) (dcx dX10_isBlade_c0 4 rfl) rfl ?_
  refine r_aload_n (dcx dX10_isBlade_c0 5 rfl) 0 rfl ?_
  refine s_getr (b := 321) fX10_128 (dcx dX10_isBlade_c0 6 rfl) F284_54 ?_
  refine r_bipush (v := 104) (dcx dX10_isBlade_c0 7 rfl) rfl ?_
  obtain ⟨hb_, hyp⟩ := hyp
  refine s_iald (dcx dX10_isBlade_c0 8 rfl) A321 hb_ ?_
  refine r_iload (dcx dX10_isBlade_c0 9 rfl) 4 rfl ?_
  refine r_isub (dcx dX10_isBlade_c0 10 rfl) ?_
  obtain ⟨hb_, hyp⟩ := hyp
  refine s_iast (dcx dX10_isBlade_c0 11 rfl) A322 hb_ ?_
  obtain ⟨s3_, es3_⟩ : ∃ z : SS, z = sI s1_ 322 (Int32.toNatClampNeg 104) ((s1_.1 321 (Int32.toNatClampNeg 104)) - x4) := ⟨_, rfl⟩
  rw [← es3_]
  have hyp := hyp s3_ es3_
  refine r_iconst (v := 0) (dcx dX10_isBlade_c0 12 rfl) rfl ?_
  refine r_istore (lv1 := [(6, .int 0), (0, .ref 284), (1, .int x1), (2, .int x2), (3, .int x3), (4, .int x4), (5, .int x5)]) (dcx dX10_isBlade_c0 13 rfl) (Nat.le_of_ble_eq_true rfl) rfl ?_
  refine r_loc (lv1 := [(0, .ref 284), (1, .int x1), (2, .int x2), (3, .int x3), (4, .int x4), (5, .int x5), (6, .int 0)]) [1, 2, 3, 4, 5, 6, 0] rfl ?_
  exact hyp
set_option maxHeartbeats 4000000 in
set_option maxRecDepth 20000 in
theorem tX10_isBlade_24 {Γ : GE} {l : Launch} {x1 : Int32} {x2 : Int32} {x3 : Int32} {x4 : Int32} {x5 : Int32} {x6 : Int32} {σ : SS} {K : Option Value → SS → Prop}  (hyp : ((48 : Int32) ≤ x6 → (C2 Γ l mX10_cuts9 [.ref 284, .int x1, .int x2, .int x3] σ (Rv fun s1_ => (C2 Γ l mX10_grows [.ref 284, .int x4] s1_ (Rv fun s3_ => (wX10_isBlade_73 Γ l x5 0 s3_ K)))))) ∧ (¬ ((48 : Int32) ≤ x6) → (vp_in ((48 * x4) + x6) 1488 ∧ (vp_in x6 106 ∧ (∀ s5_ : SS, s5_ = sI σ 322 (Int32.toNatClampNeg x6) (σ.1 328 (Int32.toNatClampNeg ((48 * x4) + x6))) → (wX10_isBlade_24 Γ l x1 x2 x3 x4 x5 (x6 + 1) s5_ K)))))) : wX10_isBlade_24 Γ l x1 x2 x3 x4 x5 x6 σ K := by
  show G2 Γ l mX10_isBlade 24 [(0, .ref 284), (1, .int x1), (2, .int x2), (3, .int x3), (4, .int x4), (5, .int x5), (6, .int x6)] [] σ K
  refine r_iload (dcx dX10_isBlade_c0 14 rfl) 6 rfl ?_
  refine r_bipush (v := 48) (dcx dX10_isBlade_c0 15 rfl) rfl ?_
  refine r_icmp_ge (tgt := 57) (dcx dX10_isBlade_c0 16 rfl) (by decide) (fun q_ => ?_) (fun q_ => ?_)
  · have hyp := hyp.1 q_
    refine r_aload_n (dcx dX10_isBlade_c0 31 rfl) 0 rfl ?_
    refine r_iload_n (dcx dX10_isBlade_c0 32 rfl) 1 rfl ?_
    refine r_iload_n (dcx dX10_isBlade_c0 33 rfl) 2 rfl ?_
    refine r_iload_n (dcx dX10_isBlade_c0 34 rfl) 3 rfl ?_
    refine s_callV (as := [.int x1, .int x2, .int x3]) (st := []) zX10_cuts9 kX10_isBlade_430 (dcx dX10_isBlade_c0 35 rfl) rfl rfl (Nat.le_of_ble_eq_true rfl) O284 rfl rfl (C2.mono hyp ?_)
    rintro _ s1_ ⟨rfl, hyp⟩
    show G2 Γ l mX10_isBlade 64 [(0, .ref 284), (1, .int x1), (2, .int x2), (3, .int x3), (4, .int x4), (5, .int x5), (6, .int x6)] [] s1_ K
    refine r_aload_n (dcx dX10_isBlade_c0 36 rfl) 0 rfl ?_
    refine r_iload (dcx dX10_isBlade_c0 37 rfl) 4 rfl ?_
    refine s_callV (as := [.int x4]) (st := []) zX10_grows kX10_isBlade_455 (dcx dX10_isBlade_c0 38 rfl) rfl rfl (Nat.le_of_ble_eq_true rfl) O284 rfl rfl (C2.mono hyp ?_)
    rintro _ s3_ ⟨rfl, hyp⟩
    show G2 Γ l mX10_isBlade 70 [(0, .ref 284), (1, .int x1), (2, .int x2), (3, .int x3), (4, .int x4), (5, .int x5), (6, .int x6)] [] s3_ K
    refine r_iconst (v := 0) (dcx dX10_isBlade_c0 39 rfl) rfl ?_
    refine r_istore (lv1 := [(6, .int 0), (0, .ref 284), (1, .int x1), (2, .int x2), (3, .int x3), (4, .int x4), (5, .int x5)]) (dcx dX10_isBlade_c1 0 rfl) (Nat.le_of_ble_eq_true rfl) rfl ?_
    refine r_loc (lv1 := [(0, .ref 284), (5, .int x5), (6, .int 0)]) [1, 6, 0] rfl ?_
    exact hyp
  · have hyp := hyp.2 q_
    refine r_aload_n (dcx dX10_isBlade_c0 17 rfl) 0 rfl ?_
    refine s_getr (b := 322) fX10_131 (dcx dX10_isBlade_c0 18 rfl) F284_55 ?_
    refine r_iload (dcx dX10_isBlade_c0 19 rfl) 6 rfl ?_
    refine r_aload_n (dcx dX10_isBlade_c0 20 rfl) 0 rfl ?_
    refine s_getr (b := 328) fX10_149 (dcx dX10_isBlade_c0 21 rfl) F284_64 ?_
    refine r_bipush (v := 48) (dcx dX10_isBlade_c0 22 rfl) rfl ?_
    refine r_iload (dcx dX10_isBlade_c0 23 rfl) 4 rfl ?_
    refine r_imul (dcx dX10_isBlade_c0 24 rfl) ?_
    refine r_iload (dcx dX10_isBlade_c0 25 rfl) 6 rfl ?_
    refine r_iadd (dcx dX10_isBlade_c0 26 rfl) ?_
    obtain ⟨hb_, hyp⟩ := hyp
    refine s_iald (dcx dX10_isBlade_c0 27 rfl) A328 hb_ ?_
    obtain ⟨hb_, hyp⟩ := hyp
    refine s_iast (dcx dX10_isBlade_c0 28 rfl) A322 hb_ ?_
    obtain ⟨s5_, es5_⟩ : ∃ z : SS, z = sI σ 322 (Int32.toNatClampNeg x6) (σ.1 328 (Int32.toNatClampNeg ((48 * x4) + x6))) := ⟨_, rfl⟩
    rw [← es5_]
    have hyp := hyp s5_ es5_
    refine r_iinc (lv1 := [(6, .int (x6 + 1)), (0, .ref 284), (1, .int x1), (2, .int x2), (3, .int x3), (4, .int x4), (5, .int x5)]) (dcx dX10_isBlade_c0 29 rfl) 6 rfl (Nat.le_of_ble_eq_true rfl) rfl ?_
    refine r_goto (tgt := 24) (dcx dX10_isBlade_c0 30 rfl) (by decide) ?_
    refine r_loc (lv1 := [(0, .ref 284), (1, .int x1), (2, .int x2), (3, .int x3), (4, .int x4), (5, .int x5), (6, .int (x6 + 1))]) [1, 2, 3, 4, 5, 6, 0] rfl ?_
    exact hyp
set_option maxHeartbeats 4000000 in
set_option maxRecDepth 20000 in
theorem tX10_isBlade_73 {Γ : GE} {l : Launch} {x5 : Int32} {x6 : Int32} {σ : SS} {K : Option Value → SS → Prop}  (hyp : (x5 ≤ x6 → (K (some (.int 1)) σ)) ∧ (¬ (x5 ≤ x6) → (vp_in x6 20 ∧ (vp_in (σ.1 326 (Int32.toNatClampNeg x6)) 106 ∧ (vp_in x6 20 ∧ (((σ.1 322 (Int32.toNatClampNeg (σ.1 326 (Int32.toNatClampNeg x6)))) = (σ.1 327 (Int32.toNatClampNeg x6)) → (wX10_isBlade_73 Γ l x5 (x6 + 1) σ K)) ∧ (¬ ((σ.1 322 (Int32.toNatClampNeg (σ.1 326 (Int32.toNatClampNeg x6)))) = (σ.1 327 (Int32.toNatClampNeg x6))) → (K (some (.int 0)) σ)))))))) : wX10_isBlade_73 Γ l x5 x6 σ K := by
  show G2 Γ l mX10_isBlade 73 [(0, .ref 284), (5, .int x5), (6, .int x6)] [] σ K
  refine r_iload (dcx dX10_isBlade_c1 1 rfl) 2 rfl ?_
  refine r_iload (dcx dX10_isBlade_c1 2 rfl) 1 rfl ?_
  refine r_icmp_ge (tgt := 110) (dcx dX10_isBlade_c1 3 rfl) (by decide) (fun q_ => ?_) (fun q_ => ?_)
  · have hyp := hyp.1 q_
    refine r_iconst (v := 1) (dcx dX10_isBlade_c1 20 rfl) rfl ?_
    exact s_ret rfl rfl rfl hyp (dcx dX10_isBlade_c1 21 rfl)
  · have hyp := hyp.2 q_
    refine r_aload_n (dcx dX10_isBlade_c1 4 rfl) 0 rfl ?_
    refine s_getr (b := 322) fX10_131 (dcx dX10_isBlade_c1 5 rfl) F284_55 ?_
    refine r_aload_n (dcx dX10_isBlade_c1 6 rfl) 0 rfl ?_
    refine s_getr (b := 326) fX10_143 (dcx dX10_isBlade_c1 7 rfl) F284_62 ?_
    refine r_iload (dcx dX10_isBlade_c1 8 rfl) 2 rfl ?_
    obtain ⟨hb_, hyp⟩ := hyp
    refine s_iald (dcx dX10_isBlade_c1 9 rfl) A326 hb_ ?_
    obtain ⟨hb_, hyp⟩ := hyp
    refine s_iald (dcx dX10_isBlade_c1 10 rfl) A322 hb_ ?_
    refine r_aload_n (dcx dX10_isBlade_c1 11 rfl) 0 rfl ?_
    refine s_getr (b := 327) fX10_146 (dcx dX10_isBlade_c1 12 rfl) F284_63 ?_
    refine r_iload (dcx dX10_isBlade_c1 13 rfl) 2 rfl ?_
    obtain ⟨hb_, hyp⟩ := hyp
    refine s_iald (dcx dX10_isBlade_c1 14 rfl) A327 hb_ ?_
    refine r_icmp_eq (tgt := 104) (dcx dX10_isBlade_c1 15 rfl) (by decide) (fun q_ => ?_) (fun q_ => ?_)
    · have hyp := hyp.1 q_
      refine r_iinc (lv1 := [(6, .int (x6 + 1)), (0, .ref 284), (5, .int x5)]) (dcx dX10_isBlade_c1 18 rfl) 2 rfl (Nat.le_of_ble_eq_true rfl) rfl ?_
      refine r_goto (tgt := 73) (dcx dX10_isBlade_c1 19 rfl) (by decide) ?_
      refine r_loc (lv1 := [(0, .ref 284), (5, .int x5), (6, .int (x6 + 1))]) [1, 2, 0] rfl ?_
      exact hyp
    · have hyp := hyp.2 q_
      refine r_iconst (v := 0) (dcx dX10_isBlade_c1 16 rfl) rfl ?_
      exact s_ret rfl rfl rfl hyp (dcx dX10_isBlade_c1 17 rfl)
set_option maxHeartbeats 4000000 in
set_option maxRecDepth 20000 in
theorem tX10_notes {Γ : GE} {l : Launch} {x1 : Int32} {x2 : Int32} {σ : SS} {K : Option Value → SS → Prop}  (hyp : ((σ.1 284 65) = 0 → (vp_in x1 4 ∧ (∀ s1_ : SS, s1_ = sI σ 329 (Int32.toNatClampNeg x1) x2 → (K none s1_)))) ∧ (¬ ((σ.1 284 65) = 0) → (vp_in x1 4 ∧ ((¬ (σ.1 329 (Int32.toNatClampNeg x1)) = x2 → (vp_in x1 4 ∧ (∀ s2_ : SS, s2_ = sI σ 329 (Int32.toNatClampNeg x1) ((-2)) → (K none s2_)))) ∧ ((σ.1 329 (Int32.toNatClampNeg x1)) = x2 → (vp_in x1 4 ∧ (∀ s3_ : SS, s3_ = sI σ 329 (Int32.toNatClampNeg x1) x2 → (K none s3_)))))))) : C2 Γ l mX10_notes [.ref 284, .int x1, .int x2] σ K := by
  refine c2_of (lv := [(0, .ref 284), (1, .int x1), (2, .int x2)]) (by decide) (Nat.le_of_ble_eq_true rfl) rfl ?_
  refine r_aload_n (dcx dX10_notes_c0 0 rfl) 0 rfl ?_
  refine s_getr (b := 329) fX10_152 (dcx dX10_notes_c0 1 rfl) F284_66 ?_
  refine r_iload_n (dcx dX10_notes_c0 2 rfl) 1 rfl ?_
  refine r_aload_n (dcx dX10_notes_c0 3 rfl) 0 rfl ?_
  refine s_geti fX10_469 (dcx dX10_notes_c0 4 rfl) F284_65 ?_
  refine r_if_eq (tgt := 22) (dcx dX10_notes_c0 5 rfl) (by decide) (fun q_ => ?_) (fun q_ => ?_)
  · have hyp := hyp.1 q_
    refine r_iload_n (dcx dX10_notes_c0 12 rfl) 2 rfl ?_
    refine r_goto (tgt := 28) (dcx dX10_notes_c0 13 rfl) (by decide) ?_
    obtain ⟨hb_, hyp⟩ := hyp
    refine s_iast (dcx dX10_notes_c0 15 rfl) A329 hb_ ?_
    obtain ⟨s1_, es1_⟩ : ∃ z : SS, z = sI σ 329 (Int32.toNatClampNeg x1) x2 := ⟨_, rfl⟩
    rw [← es1_]
    have hyp := hyp s1_ es1_
    exact s_vret rfl hyp (dcx dX10_notes_c0 16 rfl)
  · have hyp := hyp.2 q_
    refine r_aload_n (dcx dX10_notes_c0 6 rfl) 0 rfl ?_
    refine s_getr (b := 329) fX10_152 (dcx dX10_notes_c0 7 rfl) F284_66 ?_
    refine r_iload_n (dcx dX10_notes_c0 8 rfl) 1 rfl ?_
    obtain ⟨hb_, hyp⟩ := hyp
    refine s_iald (dcx dX10_notes_c0 9 rfl) A329 hb_ ?_
    refine r_iload_n (dcx dX10_notes_c0 10 rfl) 2 rfl ?_
    refine r_icmp_ne (tgt := 26) (dcx dX10_notes_c0 11 rfl) (by decide) (fun q_ => ?_) (fun q_ => ?_)
    · have hyp := hyp.1 q_
      refine r_bipush (v := (-2)) (dcx dX10_notes_c0 14 rfl) rfl ?_
      obtain ⟨hb_, hyp⟩ := hyp
      refine s_iast (dcx dX10_notes_c0 15 rfl) A329 hb_ ?_
      obtain ⟨s2_, es2_⟩ : ∃ z : SS, z = sI σ 329 (Int32.toNatClampNeg x1) ((-2)) := ⟨_, rfl⟩
      rw [← es2_]
      have hyp := hyp s2_ es2_
      exact s_vret rfl hyp (dcx dX10_notes_c0 16 rfl)
    · have hyp := hyp.2 q_
      refine r_iload_n (dcx dX10_notes_c0 12 rfl) 2 rfl ?_
      refine r_goto (tgt := 28) (dcx dX10_notes_c0 13 rfl) (by decide) ?_
      obtain ⟨hb_, hyp⟩ := hyp
      refine s_iast (dcx dX10_notes_c0 15 rfl) A329 hb_ ?_
      obtain ⟨s3_, es3_⟩ : ∃ z : SS, z = sI σ 329 (Int32.toNatClampNeg x1) x2 := ⟨_, rfl⟩
      rw [← es3_]
      have hyp := hyp s3_ es3_
      exact s_vret rfl hyp (dcx dX10_notes_c0 16 rfl)
def wX10_fillsBlades_11 (Γ : GE) (l : Launch) (x1 : Int32) (x2 : Int32) (σ : SS) (K : Option Value → SS → Prop) : Prop := G2 Γ l mX10_fillsBlades 11 [(0, .ref 284), (1, .int x1), (2, .int x2)] [] σ K
def wX10_fillsBlades_33 (Γ : GE) (l : Launch) (x1 : Int32) (x2 : Int32) (σ : SS) (K : Option Value → SS → Prop) : Prop := G2 Γ l mX10_fillsBlades 33 [(0, .ref 284), (1, .int x1), (2, .int x2)] [] σ K
def wX10_fillsBlades_48 (Γ : GE) (l : Launch) (x1 : Int32) (x2 : Int32) (x3 : Int32) (σ : SS) (K : Option Value → SS → Prop) : Prop := G2 Γ l mX10_fillsBlades 48 [(0, .ref 284), (1, .int x1), (2, .int x2), (3, .int x3)] [] σ K
def wX10_fillsBlades_66 (Γ : GE) (l : Launch) (x1 : Int32) (x2 : Int32) (x3 : Int32) (x4 : Int32) (σ : SS) (K : Option Value → SS → Prop) : Prop := G2 Γ l mX10_fillsBlades 66 [(0, .ref 284), (1, .int x1), (2, .int x2), (3, .int x3), (4, .int x4)] [] σ K
def wX10_fillsBlades_85 (Γ : GE) (l : Launch) (x1 : Int32) (x2 : Int32) (x3 : Int32) (x4 : Int32) (x5 : Int32) (σ : SS) (K : Option Value → SS → Prop) : Prop := G2 Γ l mX10_fillsBlades 85 [(0, .ref 284), (1, .int x1), (2, .int x2), (3, .int x3), (4, .int x4), (5, .int x5)] [] σ K
def wX10_fillsBlades_150 (Γ : GE) (l : Launch) (x1 : Int32) (x2 : Int32) (x3 : Int32) (x4 : Int32) (x5 : Int32) (x6 : Int32) (σ : SS) (K : Option Value → SS → Prop) : Prop := G2 Γ l mX10_fillsBlades 150 [(0, .ref 284), (1, .int x1), (2, .int x2), (3, .int x3), (4, .int x4), (5, .int x5), (6, .int x6)] [] σ K
set_option maxHeartbeats 4000000 in
set_option maxRecDepth 20000 in
theorem tX10_fillsBlades {Γ : GE} {l : Launch} {x1 : Int32} {σ : SS} {K : Option Value → SS → Prop}  (hyp : C2 Γ l mX10_fillsWas [.ref 284] σ (Rv fun s1_ => (∀ s3_ : SS, s3_ = sI s1_ 284 65 0 → (wX10_fillsBlades_11 Γ l x1 0 s3_ K)))) : C2 Γ l mX10_fillsBlades [.ref 284, .int x1] σ K := by
  refine c2_of (lv := [(0, .ref 284), (1, .int x1)]) (by decide) (Nat.le_of_ble_eq_true rfl) rfl ?_
  refine r_aload_n (dcx dX10_fillsBlades_c0 0 rfl) 0 rfl ?_
  refine s_callV (as := []) (st := []) zX10_fillsWas kX10_fillsBlades_472 (dcx dX10_fillsBlades_c0 1 rfl) rfl rfl (Nat.le_of_ble_eq_true rfl) O284 rfl rfl (C2.mono hyp ?_)
  rintro _ s1_ ⟨rfl, hyp⟩
  show G2 Γ l mX10_fillsBlades 4 [(0, .ref 284), (1, .int x1)] [] s1_ K
  refine r_aload_n (dcx dX10_fillsBlades_c0 2 rfl) 0 rfl ?_
  refine r_iconst (v := 0) (dcx dX10_fillsBlades_c0 3 rfl) rfl ?_
  refine s_puti gX10_469 (dcx dX10_fillsBlades_c0 4 rfl) F284_65 ?_
  obtain ⟨s3_, es3_⟩ : ∃ z : SS, z = sI s1_ 284 65 0 := ⟨_, rfl⟩
  rw [← es3_]
  have hyp := hyp s3_ es3_
  refine r_iconst (v := 0) (dcx dX10_fillsBlades_c0 5 rfl) rfl ?_
  refine r_istore_n (lv1 := [(2, .int 0), (0, .ref 284), (1, .int x1)]) (dcx dX10_fillsBlades_c0 6 rfl) (Nat.le_of_ble_eq_true rfl) rfl ?_
  refine r_loc (lv1 := [(0, .ref 284), (1, .int x1), (2, .int 0)]) [1, 2, 0] rfl ?_
  exact hyp
set_option maxHeartbeats 4000000 in
set_option maxRecDepth 20000 in
theorem tX10_fillsBlades_11 {Γ : GE} {l : Launch} {x1 : Int32} {x2 : Int32} {σ : SS} {K : Option Value → SS → Prop}  (hyp : ((4800 : Int32) ≤ x2 → (wX10_fillsBlades_33 Γ l x1 0 σ K)) ∧ (¬ ((4800 : Int32) ≤ x2) → (vp_in x2 4800 ∧ (∀ s1_ : SS, s1_ = sI σ 330 (Int32.toNatClampNeg x2) 0 → (wX10_fillsBlades_11 Γ l x1 (x2 + 1) s1_ K))))) : wX10_fillsBlades_11 Γ l x1 x2 σ K := by
  show G2 Γ l mX10_fillsBlades 11 [(0, .ref 284), (1, .int x1), (2, .int x2)] [] σ K
  refine r_iload_n (dcx dX10_fillsBlades_c0 7 rfl) 2 rfl ?_
  refine r_sipush (v := 4800) (dcx dX10_fillsBlades_c0 8 rfl) rfl ?_
  refine r_icmp_ge (tgt := 31) (dcx dX10_fillsBlades_c0 9 rfl) (by decide) (fun q_ => ?_) (fun q_ => ?_)
  · have hyp := hyp.1 q_
    refine r_iconst (v := 0) (dcx dX10_fillsBlades_c0 17 rfl) rfl ?_
    refine r_istore_n (lv1 := [(2, .int 0), (0, .ref 284), (1, .int x1)]) (dcx dX10_fillsBlades_c0 18 rfl) (Nat.le_of_ble_eq_true rfl) rfl ?_
    refine r_loc (lv1 := [(0, .ref 284), (1, .int x1), (2, .int 0)]) [1, 2, 0] rfl ?_
    exact hyp
  · have hyp := hyp.2 q_
    refine r_aload_n (dcx dX10_fillsBlades_c0 10 rfl) 0 rfl ?_
    refine s_getr (b := 330) fX10_155 (dcx dX10_fillsBlades_c0 11 rfl) F284_67 ?_
    refine r_iload_n (dcx dX10_fillsBlades_c0 12 rfl) 2 rfl ?_
    refine r_iconst (v := 0) (dcx dX10_fillsBlades_c0 13 rfl) rfl ?_
    obtain ⟨hb_, hyp⟩ := hyp
    refine s_iast (dcx dX10_fillsBlades_c0 14 rfl) A330 hb_ ?_
    obtain ⟨s1_, es1_⟩ : ∃ z : SS, z = sI σ 330 (Int32.toNatClampNeg x2) 0 := ⟨_, rfl⟩
    rw [← es1_]
    have hyp := hyp s1_ es1_
    refine r_iinc (lv1 := [(2, .int (x2 + 1)), (0, .ref 284), (1, .int x1)]) (dcx dX10_fillsBlades_c0 15 rfl) 2 rfl (Nat.le_of_ble_eq_true rfl) rfl ?_
    refine r_goto (tgt := 11) (dcx dX10_fillsBlades_c0 16 rfl) (by decide) ?_
    refine r_loc (lv1 := [(0, .ref 284), (1, .int x1), (2, .int (x2 + 1))]) [1, 2, 0] rfl ?_
    exact hyp
set_option maxHeartbeats 4000000 in
set_option maxRecDepth 20000 in
theorem tX10_fillsBlades_33 {Γ : GE} {l : Launch} {x1 : Int32} {x2 : Int32} {σ : SS} {K : Option Value → SS → Prop}  (hyp : vp_in (σ.1 284 18) 2 ∧ (((σ.1 297 (Int32.toNatClampNeg (σ.1 284 18))) ≤ x2 → (K none σ)) ∧ (¬ ((σ.1 297 (Int32.toNatClampNeg (σ.1 284 18))) ≤ x2) → (wX10_fillsBlades_48 Γ l x1 x2 0 σ K)))) : wX10_fillsBlades_33 Γ l x1 x2 σ K := by
  show G2 Γ l mX10_fillsBlades 33 [(0, .ref 284), (1, .int x1), (2, .int x2)] [] σ K
  refine r_iload_n (dcx dX10_fillsBlades_c0 19 rfl) 2 rfl ?_
  refine r_aload_n (dcx dX10_fillsBlades_c0 20 rfl) 0 rfl ?_
  refine s_getr (b := 297) fX10_55 (dcx dX10_fillsBlades_c0 21 rfl) F284_26 ?_
  refine r_aload_n (dcx dX10_fillsBlades_c0 22 rfl) 0 rfl ?_
  refine s_geti fX10_245 (dcx dX10_fillsBlades_c0 23 rfl) F284_18 ?_
  obtain ⟨hb_, hyp⟩ := hyp
  refine s_iald (dcx dX10_fillsBlades_c0 24 rfl) A297 hb_ ?_
  refine r_icmp_ge (tgt := 209) (dcx dX10_fillsBlades_c0 25 rfl) (by decide) (fun q_ => ?_) (fun q_ => ?_)
  · have hyp := hyp.1 q_
    exact s_vret rfl hyp (dcx dX10_fillsBlades_c2 35 rfl)
  · have hyp := hyp.2 q_
    refine r_iconst (v := 0) (dcx dX10_fillsBlades_c0 26 rfl) rfl ?_
    refine r_istore_n (lv1 := [(3, .int 0), (0, .ref 284), (1, .int x1), (2, .int x2)]) (dcx dX10_fillsBlades_c0 27 rfl) (Nat.le_of_ble_eq_true rfl) rfl ?_
    refine r_loc (lv1 := [(0, .ref 284), (1, .int x1), (2, .int x2), (3, .int 0)]) [1, 2, 3, 0] rfl ?_
    exact hyp
set_option maxHeartbeats 4000000 in
set_option maxRecDepth 20000 in
theorem tX10_fillsBlades_48 {Γ : GE} {l : Launch} {x1 : Int32} {x2 : Int32} {x3 : Int32} {σ : SS} {K : Option Value → SS → Prop}  (hyp : vp_in (σ.1 284 18) 2 ∧ (((σ.1 295 (Int32.toNatClampNeg (σ.1 284 18))) ≤ (x3 + 2) → (wX10_fillsBlades_33 Γ l x1 (x2 + 1) σ K)) ∧ (¬ ((σ.1 295 (Int32.toNatClampNeg (σ.1 284 18))) ≤ (x3 + 2)) → (wX10_fillsBlades_66 Γ l x1 x2 x3 0 σ K)))) : wX10_fillsBlades_48 Γ l x1 x2 x3 σ K := by
  show G2 Γ l mX10_fillsBlades 48 [(0, .ref 284), (1, .int x1), (2, .int x2), (3, .int x3)] [] σ K
  refine r_iload_n (dcx dX10_fillsBlades_c0 28 rfl) 3 rfl ?_
  refine r_iconst (v := 2) (dcx dX10_fillsBlades_c0 29 rfl) rfl ?_
  refine r_iadd (dcx dX10_fillsBlades_c0 30 rfl) ?_
  refine r_aload_n (dcx dX10_fillsBlades_c0 31 rfl) 0 rfl ?_
  refine s_getr (b := 295) fX10_49 (dcx dX10_fillsBlades_c0 32 rfl) F284_24 ?_
  refine r_aload_n (dcx dX10_fillsBlades_c0 33 rfl) 0 rfl ?_
  refine s_geti fX10_245 (dcx dX10_fillsBlades_c0 34 rfl) F284_18 ?_
  obtain ⟨hb_, hyp⟩ := hyp
  refine s_iald (dcx dX10_fillsBlades_c0 35 rfl) A295 hb_ ?_
  refine r_icmp_ge (tgt := 203) (dcx dX10_fillsBlades_c0 36 rfl) (by decide) (fun q_ => ?_) (fun q_ => ?_)
  · have hyp := hyp.1 q_
    refine r_iinc (lv1 := [(2, .int (x2 + 1)), (0, .ref 284), (1, .int x1), (3, .int x3)]) (dcx dX10_fillsBlades_c2 33 rfl) 2 rfl (Nat.le_of_ble_eq_true rfl) rfl ?_
    refine r_goto (tgt := 33) (dcx dX10_fillsBlades_c2 34 rfl) (by decide) ?_
    refine r_loc (lv1 := [(0, .ref 284), (1, .int x1), (2, .int (x2 + 1))]) [1, 2, 0] rfl ?_
    exact hyp
  · have hyp := hyp.2 q_
    refine r_iconst (v := 0) (dcx dX10_fillsBlades_c0 37 rfl) rfl ?_
    refine r_istore (lv1 := [(4, .int 0), (0, .ref 284), (1, .int x1), (2, .int x2), (3, .int x3)]) (dcx dX10_fillsBlades_c0 38 rfl) (Nat.le_of_ble_eq_true rfl) rfl ?_
    refine r_loc (lv1 := [(0, .ref 284), (1, .int x1), (2, .int x2), (3, .int x3), (4, .int 0)]) [1, 2, 3, 4, 0] rfl ?_
    exact hyp
set_option maxHeartbeats 4000000 in
set_option maxRecDepth 20000 in
theorem tX10_fillsBlades_66 {Γ : GE} {l : Launch} {x1 : Int32} {x2 : Int32} {x3 : Int32} {x4 : Int32} {σ : SS} {K : Option Value → SS → Prop}  (hyp : vp_in (σ.1 284 18) 2 ∧ (((σ.1 294 (Int32.toNatClampNeg (σ.1 284 18))) ≤ (x4 + 2) → (wX10_fillsBlades_48 Γ l x1 x2 (x3 + 1) σ K)) ∧ (¬ ((σ.1 294 (Int32.toNatClampNeg (σ.1 284 18))) ≤ (x4 + 2)) → (wX10_fillsBlades_85 Γ l x1 x2 x3 x4 0 σ K)))) : wX10_fillsBlades_66 Γ l x1 x2 x3 x4 σ K := by
  show G2 Γ l mX10_fillsBlades 66 [(0, .ref 284), (1, .int x1), (2, .int x2), (3, .int x3), (4, .int x4)] [] σ K
  refine r_iload (dcx dX10_fillsBlades_c0 39 rfl) 4 rfl ?_
  refine r_iconst (v := 2) (dcx dX10_fillsBlades_c1 0 rfl) rfl ?_
  refine r_iadd (dcx dX10_fillsBlades_c1 1 rfl) ?_
  refine r_aload_n (dcx dX10_fillsBlades_c1 2 rfl) 0 rfl ?_
  refine s_getr (b := 294) fX10_46 (dcx dX10_fillsBlades_c1 3 rfl) F284_23 ?_
  refine r_aload_n (dcx dX10_fillsBlades_c1 4 rfl) 0 rfl ?_
  refine s_geti fX10_245 (dcx dX10_fillsBlades_c1 5 rfl) F284_18 ?_
  obtain ⟨hb_, hyp⟩ := hyp
  refine s_iald (dcx dX10_fillsBlades_c1 6 rfl) A294 hb_ ?_
  refine r_icmp_ge (tgt := 197) (dcx dX10_fillsBlades_c1 7 rfl) (by decide) (fun q_ => ?_) (fun q_ => ?_)
  · have hyp := hyp.1 q_
    refine r_iinc (lv1 := [(3, .int (x3 + 1)), (0, .ref 284), (1, .int x1), (2, .int x2), (4, .int x4)]) (dcx dX10_fillsBlades_c2 31 rfl) 3 rfl (Nat.le_of_ble_eq_true rfl) rfl ?_
    refine r_goto (tgt := 48) (dcx dX10_fillsBlades_c2 32 rfl) (by decide) ?_
    refine r_loc (lv1 := [(0, .ref 284), (1, .int x1), (2, .int x2), (3, .int (x3 + 1))]) [1, 2, 3, 0] rfl ?_
    exact hyp
  · have hyp := hyp.2 q_
    refine r_iconst (v := 0) (dcx dX10_fillsBlades_c1 8 rfl) rfl ?_
    refine r_istore (lv1 := [(5, .int 0), (0, .ref 284), (1, .int x1), (2, .int x2), (3, .int x3), (4, .int x4)]) (dcx dX10_fillsBlades_c1 9 rfl) (Nat.le_of_ble_eq_true rfl) rfl ?_
    refine r_loc (lv1 := [(0, .ref 284), (1, .int x1), (2, .int x2), (3, .int x3), (4, .int x4), (5, .int 0)]) [1, 2, 3, 4, 5, 0] rfl ?_
    exact hyp
set_option maxHeartbeats 4000000 in
set_option maxRecDepth 20000 in
theorem tX10_fillsBlades_85 {Γ : GE} {l : Launch} {x1 : Int32} {x2 : Int32} {x3 : Int32} {x4 : Int32} {x5 : Int32} {σ : SS} {K : Option Value → SS → Prop}  (hyp : C2 Γ l mX10_agoMost [.ref 284] σ (Ri fun r2_ s1_ => ((r2_ < x5 → (wX10_fillsBlades_66 Γ l x1 x2 x3 (x4 + 1) s1_ K)) ∧ (¬ (r2_ < x5) → (C2 Γ l mX10_isBlade [.ref 284, .int x2, .int x4, .int x3, .int x5, .int x1] s1_ (Ri fun r4_ s3_ => ((¬ r4_ = 0 → (C2 Γ l mX10_notes [.ref 284, .int 0, .int x2] s3_ (Rv fun s5_ => (C2 Γ l mX10_notes [.ref 284, .int 1, .int x4] s5_ (Rv fun s7_ => (C2 Γ l mX10_notes [.ref 284, .int 2, .int x3] s7_ (Rv fun s9_ => (C2 Γ l mX10_notes [.ref 284, .int 3, .int x5] s9_ (Rv fun s11_ => (∀ s13_ : SS, s13_ = sI s11_ 284 65 ((s11_.1 284 65) + 1) → (wX10_fillsBlades_150 Γ l x1 x2 x3 x4 x5 0 s13_ K))))))))))) ∧ (r4_ = 0 → (wX10_fillsBlades_85 Γ l x1 x2 x3 x4 (x5 + 1) s3_ K))))))))) : wX10_fillsBlades_85 Γ l x1 x2 x3 x4 x5 σ K := by
  show G2 Γ l mX10_fillsBlades 85 [(0, .ref 284), (1, .int x1), (2, .int x2), (3, .int x3), (4, .int x4), (5, .int x5)] [] σ K
  refine r_iload (dcx dX10_fillsBlades_c1 10 rfl) 5 rfl ?_
  refine r_aload_n (dcx dX10_fillsBlades_c1 11 rfl) 0 rfl ?_
  refine s_callV (as := []) (st := [.int x5]) zX10_agoMost kX10_fillsBlades_475 (dcx dX10_fillsBlades_c1 12 rfl) rfl rfl (Nat.le_of_ble_eq_true rfl) O284 rfl rfl (C2.mono hyp ?_)
  rintro _ s1_ ⟨r2_, rfl, hyp⟩
  show G2 Γ l mX10_fillsBlades 91 [(0, .ref 284), (1, .int x1), (2, .int x2), (3, .int x3), (4, .int x4), (5, .int x5)] [.int r2_, .int x5] s1_ K
  refine r_icmp_gt (tgt := 191) (dcx dX10_fillsBlades_c1 13 rfl) (by decide) (fun q_ => ?_) (fun q_ => ?_)
  · have hyp := hyp.1 q_
    refine r_iinc (lv1 := [(4, .int (x4 + 1)), (0, .ref 284), (1, .int x1), (2, .int x2), (3, .int x3), (5, .int x5)]) (dcx dX10_fillsBlades_c2 29 rfl) 4 rfl (Nat.le_of_ble_eq_true rfl) rfl ?_
    refine r_goto (tgt := 66) (dcx dX10_fillsBlades_c2 30 rfl) (by decide) ?_
    refine r_loc (lv1 := [(0, .ref 284), (1, .int x1), (2, .int x2), (3, .int x3), (4, .int (x4 + 1))]) [1, 2, 3, 4, 0] rfl ?_
    exact hyp
  · have hyp := hyp.2 q_
    refine r_aload_n (dcx dX10_fillsBlades_c1 14 rfl) 0 rfl ?_
    refine r_iload_n (dcx dX10_fillsBlades_c1 15 rfl) 2 rfl ?_
    refine r_iload (dcx dX10_fillsBlades_c1 16 rfl) 4 rfl ?_
    refine r_iload_n (dcx dX10_fillsBlades_c1 17 rfl) 3 rfl ?_
    refine r_iload (dcx dX10_fillsBlades_c1 18 rfl) 5 rfl ?_
    refine r_iload_n (dcx dX10_fillsBlades_c1 19 rfl) 1 rfl ?_
    refine s_callV (as := [.int x2, .int x4, .int x3, .int x5, .int x1]) (st := []) zX10_isBlade kX10_fillsBlades_478 (dcx dX10_fillsBlades_c1 20 rfl) rfl rfl (Nat.le_of_ble_eq_true rfl) O284 rfl rfl (C2.mono hyp ?_)
    rintro _ s3_ ⟨r4_, rfl, hyp⟩
    show G2 Γ l mX10_fillsBlades 105 [(0, .ref 284), (1, .int x1), (2, .int x2), (3, .int x3), (4, .int x4), (5, .int x5)] [.int r4_] s3_ K
    refine r_if_ne (tgt := 111) (dcx dX10_fillsBlades_c1 21 rfl) (by decide) (fun q_ => ?_) (fun q_ => ?_)
    · have hyp := hyp.1 q_
      refine r_aload_n (dcx dX10_fillsBlades_c1 23 rfl) 0 rfl ?_
      refine r_iconst (v := 0) (dcx dX10_fillsBlades_c1 24 rfl) rfl ?_
      refine r_iload_n (dcx dX10_fillsBlades_c1 25 rfl) 2 rfl ?_
      refine s_callV (as := [.int 0, .int x2]) (st := []) zX10_notes kX10_fillsBlades_482 (dcx dX10_fillsBlades_c1 26 rfl) rfl rfl (Nat.le_of_ble_eq_true rfl) O284 rfl rfl (C2.mono hyp ?_)
      rintro _ s5_ ⟨rfl, hyp⟩
      show G2 Γ l mX10_fillsBlades 117 [(0, .ref 284), (1, .int x1), (2, .int x2), (3, .int x3), (4, .int x4), (5, .int x5)] [] s5_ K
      refine r_aload_n (dcx dX10_fillsBlades_c1 27 rfl) 0 rfl ?_
      refine r_iconst (v := 1) (dcx dX10_fillsBlades_c1 28 rfl) rfl ?_
      refine r_iload (dcx dX10_fillsBlades_c1 29 rfl) 4 rfl ?_
      refine s_callV (as := [.int 1, .int x4]) (st := []) zX10_notes kX10_fillsBlades_482 (dcx dX10_fillsBlades_c1 30 rfl) rfl rfl (Nat.le_of_ble_eq_true rfl) O284 rfl rfl (C2.mono hyp ?_)
      rintro _ s7_ ⟨rfl, hyp⟩
      show G2 Γ l mX10_fillsBlades 124 [(0, .ref 284), (1, .int x1), (2, .int x2), (3, .int x3), (4, .int x4), (5, .int x5)] [] s7_ K
      refine r_aload_n (dcx dX10_fillsBlades_c1 31 rfl) 0 rfl ?_
      refine r_iconst (v := 2) (dcx dX10_fillsBlades_c1 32 rfl) rfl ?_
      refine r_iload_n (dcx dX10_fillsBlades_c1 33 rfl) 3 rfl ?_
      refine s_callV (as := [.int 2, .int x3]) (st := []) zX10_notes kX10_fillsBlades_482 (dcx dX10_fillsBlades_c1 34 rfl) rfl rfl (Nat.le_of_ble_eq_true rfl) O284 rfl rfl (C2.mono hyp ?_)
      rintro _ s9_ ⟨rfl, hyp⟩
      show G2 Γ l mX10_fillsBlades 130 [(0, .ref 284), (1, .int x1), (2, .int x2), (3, .int x3), (4, .int x4), (5, .int x5)] [] s9_ K
      refine r_aload_n (dcx dX10_fillsBlades_c1 35 rfl) 0 rfl ?_
      refine r_iconst (v := 3) (dcx dX10_fillsBlades_c1 36 rfl) rfl ?_
      refine r_iload (dcx dX10_fillsBlades_c1 37 rfl) 5 rfl ?_
      refine s_callV (as := [.int 3, .int x5]) (st := []) zX10_notes kX10_fillsBlades_482 (dcx dX10_fillsBlades_c1 38 rfl) rfl rfl (Nat.le_of_ble_eq_true rfl) O284 rfl rfl (C2.mono hyp ?_)
      rintro _ s11_ ⟨rfl, hyp⟩
      show G2 Γ l mX10_fillsBlades 137 [(0, .ref 284), (1, .int x1), (2, .int x2), (3, .int x3), (4, .int x4), (5, .int x5)] [] s11_ K
      refine r_aload_n (dcx dX10_fillsBlades_c1 39 rfl) 0 rfl ?_
      refine r_dup (dcx dX10_fillsBlades_c2 0 rfl) rfl ?_
      refine s_geti fX10_469 (dcx dX10_fillsBlades_c2 1 rfl) F284_65 ?_
      refine r_iconst (v := 1) (dcx dX10_fillsBlades_c2 2 rfl) rfl ?_
      refine r_iadd (dcx dX10_fillsBlades_c2 3 rfl) ?_
      refine s_puti gX10_469 (dcx dX10_fillsBlades_c2 4 rfl) F284_65 ?_
      obtain ⟨s13_, es13_⟩ : ∃ z : SS, z = sI s11_ 284 65 ((s11_.1 284 65) + 1) := ⟨_, rfl⟩
      rw [← es13_]
      have hyp := hyp s13_ es13_
      refine r_iconst (v := 0) (dcx dX10_fillsBlades_c2 5 rfl) rfl ?_
      refine r_istore (lv1 := [(6, .int 0), (0, .ref 284), (1, .int x1), (2, .int x2), (3, .int x3), (4, .int x4), (5, .int x5)]) (dcx dX10_fillsBlades_c2 6 rfl) (Nat.le_of_ble_eq_true rfl) rfl ?_
      refine r_loc (lv1 := [(0, .ref 284), (1, .int x1), (2, .int x2), (3, .int x3), (4, .int x4), (5, .int x5), (6, .int 0)]) [1, 2, 3, 4, 5, 6, 0] rfl ?_
      exact hyp
    · have hyp := hyp.2 q_
      refine r_goto (tgt := 185) (dcx dX10_fillsBlades_c1 22 rfl) (by decide) ?_
      refine r_iinc (lv1 := [(5, .int (x5 + 1)), (0, .ref 284), (1, .int x1), (2, .int x2), (3, .int x3), (4, .int x4)]) (dcx dX10_fillsBlades_c2 27 rfl) 5 rfl (Nat.le_of_ble_eq_true rfl) rfl ?_
      refine r_goto (tgt := 85) (dcx dX10_fillsBlades_c2 28 rfl) (by decide) ?_
      refine r_loc (lv1 := [(0, .ref 284), (1, .int x1), (2, .int x2), (3, .int x3), (4, .int x4), (5, .int (x5 + 1))]) [1, 2, 3, 4, 5, 0] rfl ?_
      exact hyp
set_option maxHeartbeats 4000000 in
set_option maxRecDepth 20000 in
theorem tX10_fillsBlades_150 {Γ : GE} {l : Launch} {x1 : Int32} {x2 : Int32} {x3 : Int32} {x4 : Int32} {x5 : Int32} {x6 : Int32} {σ : SS} {K : Option Value → SS → Prop}  (hyp : ((48 : Int32) ≤ x6 → (wX10_fillsBlades_85 Γ l x1 x2 x3 x4 (x5 + 1) σ K)) ∧ (¬ ((48 : Int32) ≤ x6) → (vp_in x6 106 ∧ (vp_in ((100 * x6) + (σ.1 322 (Int32.toNatClampNeg x6))) 4800 ∧ (vp_in ((100 * x6) + (σ.1 322 (Int32.toNatClampNeg x6))) 4800 ∧ (∀ s1_ : SS, s1_ = sI σ 330 (Int32.toNatClampNeg ((100 * x6) + (σ.1 322 (Int32.toNatClampNeg x6)))) ((σ.1 330 (Int32.toNatClampNeg ((100 * x6) + (σ.1 322 (Int32.toNatClampNeg x6))))) + 1) → (wX10_fillsBlades_150 Γ l x1 x2 x3 x4 x5 (x6 + 1) s1_ K))))))) : wX10_fillsBlades_150 Γ l x1 x2 x3 x4 x5 x6 σ K := by
  show G2 Γ l mX10_fillsBlades 150 [(0, .ref 284), (1, .int x1), (2, .int x2), (3, .int x3), (4, .int x4), (5, .int x5), (6, .int x6)] [] σ K
  refine r_iload (dcx dX10_fillsBlades_c2 7 rfl) 6 rfl ?_
  refine r_bipush (v := 48) (dcx dX10_fillsBlades_c2 8 rfl) rfl ?_
  refine r_icmp_ge (tgt := 185) (dcx dX10_fillsBlades_c2 9 rfl) (by decide) (fun q_ => ?_) (fun q_ => ?_)
  · have hyp := hyp.1 q_
    refine r_iinc (lv1 := [(5, .int (x5 + 1)), (0, .ref 284), (1, .int x1), (2, .int x2), (3, .int x3), (4, .int x4), (6, .int x6)]) (dcx dX10_fillsBlades_c2 27 rfl) 5 rfl (Nat.le_of_ble_eq_true rfl) rfl ?_
    refine r_goto (tgt := 85) (dcx dX10_fillsBlades_c2 28 rfl) (by decide) ?_
    refine r_loc (lv1 := [(0, .ref 284), (1, .int x1), (2, .int x2), (3, .int x3), (4, .int x4), (5, .int (x5 + 1))]) [1, 2, 3, 4, 5, 0] rfl ?_
    exact hyp
  · have hyp := hyp.2 q_
    refine r_aload_n (dcx dX10_fillsBlades_c2 10 rfl) 0 rfl ?_
    refine s_getr (b := 330) fX10_155 (dcx dX10_fillsBlades_c2 11 rfl) F284_67 ?_
    refine r_bipush (v := 100) (dcx dX10_fillsBlades_c2 12 rfl) rfl ?_
    refine r_iload (dcx dX10_fillsBlades_c2 13 rfl) 6 rfl ?_
    refine r_imul (dcx dX10_fillsBlades_c2 14 rfl) ?_
    refine r_aload_n (dcx dX10_fillsBlades_c2 15 rfl) 0 rfl ?_
    refine s_getr (b := 322) fX10_131 (dcx dX10_fillsBlades_c2 16 rfl) F284_55 ?_
    refine r_iload (dcx dX10_fillsBlades_c2 17 rfl) 6 rfl ?_
    obtain ⟨hb_, hyp⟩ := hyp
    refine s_iald (dcx dX10_fillsBlades_c2 18 rfl) A322 hb_ ?_
    refine r_iadd (dcx dX10_fillsBlades_c2 19 rfl) ?_
    refine r_dup2 (dcx dX10_fillsBlades_c2 20 rfl) rfl rfl ?_
    obtain ⟨hb_, hyp⟩ := hyp
    refine s_iald (dcx dX10_fillsBlades_c2 21 rfl) A330 hb_ ?_
    refine r_iconst (v := 1) (dcx dX10_fillsBlades_c2 22 rfl) rfl ?_
    refine r_iadd (dcx dX10_fillsBlades_c2 23 rfl) ?_
    obtain ⟨hb_, hyp⟩ := hyp
    refine s_iast (dcx dX10_fillsBlades_c2 24 rfl) A330 hb_ ?_
    obtain ⟨s1_, es1_⟩ : ∃ z : SS, z = sI σ 330 (Int32.toNatClampNeg ((100 * x6) + (σ.1 322 (Int32.toNatClampNeg x6)))) ((σ.1 330 (Int32.toNatClampNeg ((100 * x6) + (σ.1 322 (Int32.toNatClampNeg x6))))) + 1) := ⟨_, rfl⟩
    rw [← es1_]
    have hyp := hyp s1_ es1_
    refine r_iinc (lv1 := [(6, .int (x6 + 1)), (0, .ref 284), (1, .int x1), (2, .int x2), (3, .int x3), (4, .int x4), (5, .int x5)]) (dcx dX10_fillsBlades_c2 25 rfl) 6 rfl (Nat.le_of_ble_eq_true rfl) rfl ?_
    refine r_goto (tgt := 150) (dcx dX10_fillsBlades_c2 26 rfl) (by decide) ?_
    refine r_loc (lv1 := [(0, .ref 284), (1, .int x1), (2, .int x2), (3, .int x3), (4, .int x4), (5, .int x5), (6, .int (x6 + 1))]) [1, 2, 3, 4, 5, 6, 0] rfl ?_
    exact hyp
set_option maxHeartbeats 4000000 in
set_option maxRecDepth 20000 in
theorem tX10_isKnown {Γ : GE} {l : Launch} {x1 : Int32} {σ : SS} {K : Option Value → SS → Prop}  (hyp : C2 Γ l mX10_in [.int x1, .int 0, .int (σ.1 284 61)] σ (Ri fun r2_ s1_ => (narrow .boolean (.int r2_) = .int r2_ ∧ K (some (.int r2_)) s1_))) : C2 Γ l mX10_isKnown [.ref 284, .int x1] σ K := by
  refine c2_of (lv := [(0, .ref 284), (1, .int x1)]) (by decide) (Nat.le_of_ble_eq_true rfl) rfl ?_
  refine r_iload_n (dcx dX10_isKnown_c0 0 rfl) 1 rfl ?_
  refine r_iconst (v := 0) (dcx dX10_isKnown_c0 1 rfl) rfl ?_
  refine r_aload_n (dcx dX10_isKnown_c0 2 rfl) 0 rfl ?_
  refine s_geti fX10_266 (dcx dX10_isKnown_c0 3 rfl) F284_61 ?_
  refine s_callS (as := [.int x1, .int 0, .int (σ.1 284 61)]) (st := []) zX10_in kX10_isKnown_339 (dcx dX10_isKnown_c0 4 rfl) rfl rfl (Nat.le_of_ble_eq_true rfl) (C2.mono hyp ?_)
  rintro _ s1_ ⟨r2_, rfl, hyp⟩
  show G2 Γ l mX10_isKnown 9 [(0, .ref 284), (1, .int x1)] [.int r2_] s1_ K
  exact s_ret rfl rfl hyp.1 hyp.2 (dcx dX10_isKnown_c0 5 rfl)
set_option maxHeartbeats 4000000 in
set_option maxRecDepth 20000 in
theorem tX10_blades {Γ : GE} {l : Launch} {x1 : Int32} {σ : SS} {K : Option Value → SS → Prop}  (hyp : C2 Γ l mX10_isKnown [.ref 284, .int x1] σ (Ri fun r2_ s1_ => ((¬ r2_ = 0 → (C2 Γ l mX10_fillsBlades [.ref 284, .int x1] s1_ (Rv fun s3_ => (K (some (.int (s3_.1 284 65))) s3_)))) ∧ (r2_ = 0 → (K (some (.int ((-1)))) s1_))))) : C2 Γ l mX10_blades [.ref 284, .int x1] σ K := by
  refine c2_of (lv := [(0, .ref 284), (1, .int x1)]) (by decide) (Nat.le_of_ble_eq_true rfl) rfl ?_
  refine r_aload_n (dcx dX10_blades_c0 0 rfl) 0 rfl ?_
  refine r_iload_n (dcx dX10_blades_c0 1 rfl) 1 rfl ?_
  refine s_callV (as := [.int x1]) (st := []) zX10_isKnown kX10_blades_485 (dcx dX10_blades_c0 2 rfl) rfl rfl (Nat.le_of_ble_eq_true rfl) O284 rfl rfl (C2.mono hyp ?_)
  rintro _ s1_ ⟨r2_, rfl, hyp⟩
  show G2 Γ l mX10_blades 5 [(0, .ref 284), (1, .int x1)] [.int r2_] s1_ K
  refine r_if_ne (tgt := 10) (dcx dX10_blades_c0 3 rfl) (by decide) (fun q_ => ?_) (fun q_ => ?_)
  · have hyp := hyp.1 q_
    refine r_aload_n (dcx dX10_blades_c0 6 rfl) 0 rfl ?_
    refine r_iload_n (dcx dX10_blades_c0 7 rfl) 1 rfl ?_
    refine s_callV (as := [.int x1]) (st := []) zX10_fillsBlades kX10_blades_488 (dcx dX10_blades_c0 8 rfl) rfl rfl (Nat.le_of_ble_eq_true rfl) O284 rfl rfl (C2.mono hyp ?_)
    rintro _ s3_ ⟨rfl, hyp⟩
    show G2 Γ l mX10_blades 15 [(0, .ref 284), (1, .int x1)] [] s3_ K
    refine r_aload_n (dcx dX10_blades_c0 9 rfl) 0 rfl ?_
    refine s_geti fX10_469 (dcx dX10_blades_c0 10 rfl) F284_65 ?_
    exact s_ret rfl rfl rfl hyp (dcx dX10_blades_c0 11 rfl)
  · have hyp := hyp.2 q_
    refine r_iconst (v := (-1)) (dcx dX10_blades_c0 4 rfl) rfl ?_
    exact s_ret rfl rfl rfl hyp (dcx dX10_blades_c0 5 rfl)
set_option maxHeartbeats 4000000 in
set_option maxRecDepth 20000 in
theorem tX10_sure {Γ : GE} {l : Launch} {x1 : Int32} {x2 : Int32} {σ : SS} {K : Option Value → SS → Prop}  (hyp : C2 Γ l mX10_isKnown [.ref 284, .int x1] σ (Ri fun r2_ s1_ => ((r2_ = 0 → (K (some (.int ((-1)))) s1_)) ∧ (¬ (r2_ = 0) → (C2 Γ l mX10_in [.int x2, .int 0, .int 3] s1_ (Ri fun r4_ s3_ => ((¬ r4_ = 0 → (C2 Γ l mX10_fillsBlades [.ref 284, .int x1] s3_ (Rv fun s5_ => ((¬ (s5_.1 284 65) = 0 → (vp_in x2 4 ∧ (K (some (.int (s5_.1 329 (Int32.toNatClampNeg x2)))) s5_))) ∧ ((s5_.1 284 65) = 0 → (K (some (.int ((-2)))) s5_)))))) ∧ (r4_ = 0 → (K (some (.int ((-1)))) s3_))))))))) : C2 Γ l mX10_sure [.ref 284, .int x1, .int x2] σ K := by
  refine c2_of (lv := [(0, .ref 284), (1, .int x1), (2, .int x2)]) (by decide) (Nat.le_of_ble_eq_true rfl) rfl ?_
  refine r_aload_n (dcx dX10_sure_c0 0 rfl) 0 rfl ?_
  refine r_iload_n (dcx dX10_sure_c0 1 rfl) 1 rfl ?_
  refine s_callV (as := [.int x1]) (st := []) zX10_isKnown kX10_sure_485 (dcx dX10_sure_c0 2 rfl) rfl rfl (Nat.le_of_ble_eq_true rfl) O284 rfl rfl (C2.mono hyp ?_)
  rintro _ s1_ ⟨r2_, rfl, hyp⟩
  show G2 Γ l mX10_sure 5 [(0, .ref 284), (1, .int x1), (2, .int x2)] [.int r2_] s1_ K
  refine r_if_eq (tgt := 17) (dcx dX10_sure_c0 3 rfl) (by decide) (fun q_ => ?_) (fun q_ => ?_)
  · have hyp := hyp.1 q_
    refine r_iconst (v := (-1)) (dcx dX10_sure_c0 9 rfl) rfl ?_
    exact s_ret rfl rfl rfl hyp (dcx dX10_sure_c0 10 rfl)
  · have hyp := hyp.2 q_
    refine r_iload_n (dcx dX10_sure_c0 4 rfl) 2 rfl ?_
    refine r_iconst (v := 0) (dcx dX10_sure_c0 5 rfl) rfl ?_
    refine r_iconst (v := 3) (dcx dX10_sure_c0 6 rfl) rfl ?_
    refine s_callS (as := [.int x2, .int 0, .int 3]) (st := []) zX10_in kX10_sure_339 (dcx dX10_sure_c0 7 rfl) rfl rfl (Nat.le_of_ble_eq_true rfl) (C2.mono hyp ?_)
    rintro _ s3_ ⟨r4_, rfl, hyp⟩
    show G2 Γ l mX10_sure 14 [(0, .ref 284), (1, .int x1), (2, .int x2)] [.int r4_] s3_ K
    refine r_if_ne (tgt := 19) (dcx dX10_sure_c0 8 rfl) (by decide) (fun q_ => ?_) (fun q_ => ?_)
    · have hyp := hyp.1 q_
      refine r_aload_n (dcx dX10_sure_c0 11 rfl) 0 rfl ?_
      refine r_iload_n (dcx dX10_sure_c0 12 rfl) 1 rfl ?_
      refine s_callV (as := [.int x1]) (st := []) zX10_fillsBlades kX10_sure_488 (dcx dX10_sure_c0 13 rfl) rfl rfl (Nat.le_of_ble_eq_true rfl) O284 rfl rfl (C2.mono hyp ?_)
      rintro _ s5_ ⟨rfl, hyp⟩
      show G2 Γ l mX10_sure 24 [(0, .ref 284), (1, .int x1), (2, .int x2)] [] s5_ K
      refine r_aload_n (dcx dX10_sure_c0 14 rfl) 0 rfl ?_
      refine s_geti fX10_469 (dcx dX10_sure_c0 15 rfl) F284_65 ?_
      refine r_if_ne (tgt := 36) (dcx dX10_sure_c0 16 rfl) (by decide) (fun q_ => ?_) (fun q_ => ?_)
      · have hyp := hyp.1 q_
        refine r_aload_n (dcx dX10_sure_c0 19 rfl) 0 rfl ?_
        refine s_getr (b := 329) fX10_152 (dcx dX10_sure_c0 20 rfl) F284_66 ?_
        refine r_iload_n (dcx dX10_sure_c0 21 rfl) 2 rfl ?_
        obtain ⟨hb_, hyp⟩ := hyp
        refine s_iald (dcx dX10_sure_c0 22 rfl) A329 hb_ ?_
        exact s_ret rfl rfl rfl hyp (dcx dX10_sure_c0 23 rfl)
      · have hyp := hyp.2 q_
        refine r_bipush (v := (-2)) (dcx dX10_sure_c0 17 rfl) rfl ?_
        refine r_goto (tgt := 42) (dcx dX10_sure_c0 18 rfl) (by decide) ?_
        exact s_ret rfl rfl rfl hyp (dcx dX10_sure_c0 23 rfl)
    · have hyp := hyp.2 q_
      refine r_iconst (v := (-1)) (dcx dX10_sure_c0 9 rfl) rfl ?_
      exact s_ret rfl rfl rfl hyp (dcx dX10_sure_c0 10 rfl)
def wX10_ask_23 (Γ : GE) (l : Launch) (x2 : Int32) (x3 : Int32) (x4 : Int32) (σ : SS) (K : Option Value → SS → Prop) : Prop := G2 Γ l mX10_ask 23 [(0, .ref 284), (2, .int x2), (3, .int x3), (4, .int x4)] [] σ K
def wX10_ask_47 (Γ : GE) (l : Launch) (x2 : Int32) (x3 : Int32) (x4 : Int32) (x5 : Int32) (σ : SS) (K : Option Value → SS → Prop) : Prop := G2 Γ l mX10_ask 47 [(0, .ref 284), (2, .int x2), (3, .int x3), (4, .int x4), (5, .int x5)] [] σ K
def wX10_ask_67 (Γ : GE) (l : Launch) (x2 : Int32) (x3 : Int32) (x4 : Int32) (x5 : Int32) (x6 : Int32) (x7 : Int32) (σ : SS) (K : Option Value → SS → Prop) : Prop := G2 Γ l mX10_ask 67 [(0, .ref 284), (2, .int x2), (3, .int x3), (4, .int x4), (5, .int x5), (6, .int x6), (7, .int x7)] [] σ K
set_option maxHeartbeats 4000000 in
set_option maxRecDepth 20000 in
theorem tX10_ask {Γ : GE} {l : Launch} {x1 : Int32} {σ : SS} {K : Option Value → SS → Prop}  (hyp : C2 Γ l mX10_isKnown [.ref 284, .int x1] σ (Ri fun r2_ s1_ => ((¬ r2_ = 0 → (C2 Γ l mX10_fillsBlades [.ref 284, .int x1] s1_ (Rv fun s3_ => (wX10_ask_23 Γ l ((-2)) 0 0 s3_ K)))) ∧ (r2_ = 0 → (K (some (.int ((-1)))) s1_))))) : C2 Γ l mX10_ask [.ref 284, .int x1] σ K := by
  refine c2_of (lv := [(0, .ref 284), (1, .int x1)]) (by decide) (Nat.le_of_ble_eq_true rfl) rfl ?_
  refine r_aload_n (dcx dX10_ask_c0 0 rfl) 0 rfl ?_
  refine r_iload_n (dcx dX10_ask_c0 1 rfl) 1 rfl ?_
  refine s_callV (as := [.int x1]) (st := []) zX10_isKnown kX10_ask_485 (dcx dX10_ask_c0 2 rfl) rfl rfl (Nat.le_of_ble_eq_true rfl) O284 rfl rfl (C2.mono hyp ?_)
  rintro _ s1_ ⟨r2_, rfl, hyp⟩
  show G2 Γ l mX10_ask 5 [(0, .ref 284), (1, .int x1)] [.int r2_] s1_ K
  refine r_if_ne (tgt := 10) (dcx dX10_ask_c0 3 rfl) (by decide) (fun q_ => ?_) (fun q_ => ?_)
  · have hyp := hyp.1 q_
    refine r_aload_n (dcx dX10_ask_c0 6 rfl) 0 rfl ?_
    refine r_iload_n (dcx dX10_ask_c0 7 rfl) 1 rfl ?_
    refine s_callV (as := [.int x1]) (st := []) zX10_fillsBlades kX10_ask_488 (dcx dX10_ask_c0 8 rfl) rfl rfl (Nat.le_of_ble_eq_true rfl) O284 rfl rfl (C2.mono hyp ?_)
    rintro _ s3_ ⟨rfl, hyp⟩
    show G2 Γ l mX10_ask 15 [(0, .ref 284), (1, .int x1)] [] s3_ K
    refine r_bipush (v := (-2)) (dcx dX10_ask_c0 9 rfl) rfl ?_
    refine r_istore_n (lv1 := [(2, .int ((-2))), (0, .ref 284), (1, .int x1)]) (dcx dX10_ask_c0 10 rfl) (Nat.le_of_ble_eq_true rfl) rfl ?_
    refine r_iconst (v := 0) (dcx dX10_ask_c0 11 rfl) rfl ?_
    refine r_istore_n (lv1 := [(3, .int 0), (2, .int ((-2))), (0, .ref 284), (1, .int x1)]) (dcx dX10_ask_c0 12 rfl) (Nat.le_of_ble_eq_true rfl) rfl ?_
    refine r_iconst (v := 0) (dcx dX10_ask_c0 13 rfl) rfl ?_
    refine r_istore (lv1 := [(4, .int 0), (3, .int 0), (2, .int ((-2))), (0, .ref 284), (1, .int x1)]) (dcx dX10_ask_c0 14 rfl) (Nat.le_of_ble_eq_true rfl) rfl ?_
    refine r_loc (lv1 := [(0, .ref 284), (2, .int ((-2))), (3, .int 0), (4, .int 0)]) [3, 2, 1, 0] rfl ?_
    exact hyp
  · have hyp := hyp.2 q_
    refine r_iconst (v := (-1)) (dcx dX10_ask_c0 4 rfl) rfl ?_
    exact s_ret rfl rfl rfl hyp (dcx dX10_ask_c0 5 rfl)
set_option maxHeartbeats 4000000 in
set_option maxRecDepth 20000 in
theorem tX10_ask_23 {Γ : GE} {l : Launch} {x2 : Int32} {x3 : Int32} {x4 : Int32} {σ : SS} {K : Option Value → SS → Prop}  (hyp : vp_in (σ.1 284 18) 2 ∧ (((σ.1 295 (Int32.toNatClampNeg (σ.1 284 18))) ≤ x4 → (K (some (.int x2)) σ)) ∧ (¬ ((σ.1 295 (Int32.toNatClampNeg (σ.1 284 18))) ≤ x4) → (((σ.1 284 65) ≤ 0 → (K (some (.int x2)) σ)) ∧ (¬ ((σ.1 284 65) ≤ 0) → (wX10_ask_47 Γ l x2 x3 x4 0 σ K)))))) : wX10_ask_23 Γ l x2 x3 x4 σ K := by
  show G2 Γ l mX10_ask 23 [(0, .ref 284), (2, .int x2), (3, .int x3), (4, .int x4)] [] σ K
  refine r_iload (dcx dX10_ask_c0 15 rfl) 3 rfl ?_
  refine r_aload_n (dcx dX10_ask_c0 16 rfl) 0 rfl ?_
  refine s_getr (b := 295) fX10_49 (dcx dX10_ask_c0 17 rfl) F284_24 ?_
  refine r_aload_n (dcx dX10_ask_c0 18 rfl) 0 rfl ?_
  refine s_geti fX10_245 (dcx dX10_ask_c0 19 rfl) F284_18 ?_
  obtain ⟨hb_, hyp⟩ := hyp
  refine s_iald (dcx dX10_ask_c0 20 rfl) A295 hb_ ?_
  refine r_icmp_ge (tgt := 143) (dcx dX10_ask_c0 21 rfl) (by decide) (fun q_ => ?_) (fun q_ => ?_)
  · have hyp := hyp.1 q_
    refine r_iload_n (dcx dX10_ask_c1 36 rfl) 1 rfl ?_
    exact s_ret rfl rfl rfl hyp (dcx dX10_ask_c1 37 rfl)
  · have hyp := hyp.2 q_
    refine r_aload_n (dcx dX10_ask_c0 22 rfl) 0 rfl ?_
    refine s_geti fX10_469 (dcx dX10_ask_c0 23 rfl) F284_65 ?_
    refine r_if_le (tgt := 143) (dcx dX10_ask_c0 24 rfl) (by decide) (fun q_ => ?_) (fun q_ => ?_)
    · have hyp := hyp.1 q_
      refine r_iload_n (dcx dX10_ask_c1 36 rfl) 1 rfl ?_
      exact s_ret rfl rfl rfl hyp (dcx dX10_ask_c1 37 rfl)
    · have hyp := hyp.2 q_
      refine r_iconst (v := 0) (dcx dX10_ask_c0 25 rfl) rfl ?_
      refine r_istore (lv1 := [(5, .int 0), (0, .ref 284), (2, .int x2), (3, .int x3), (4, .int x4)]) (dcx dX10_ask_c0 26 rfl) (Nat.le_of_ble_eq_true rfl) rfl ?_
      refine r_loc (lv1 := [(0, .ref 284), (2, .int x2), (3, .int x3), (4, .int x4), (5, .int 0)]) [1, 2, 3, 4, 0] rfl ?_
      exact hyp
set_option maxHeartbeats 4000000 in
set_option maxRecDepth 20000 in
theorem tX10_ask_47 {Γ : GE} {l : Launch} {x2 : Int32} {x3 : Int32} {x4 : Int32} {x5 : Int32} {σ : SS} {K : Option Value → SS → Prop}  (hyp : vp_in (σ.1 284 18) 2 ∧ (((σ.1 294 (Int32.toNatClampNeg (σ.1 284 18))) ≤ x5 → (wX10_ask_23 Γ l x2 x3 (x4 + 1) σ K)) ∧ (¬ ((σ.1 294 (Int32.toNatClampNeg (σ.1 284 18))) ≤ x5) → (wX10_ask_67 Γ l x2 x3 x4 x5 0 0 σ K)))) : wX10_ask_47 Γ l x2 x3 x4 x5 σ K := by
  show G2 Γ l mX10_ask 47 [(0, .ref 284), (2, .int x2), (3, .int x3), (4, .int x4), (5, .int x5)] [] σ K
  refine r_iload (dcx dX10_ask_c0 27 rfl) 4 rfl ?_
  refine r_aload_n (dcx dX10_ask_c0 28 rfl) 0 rfl ?_
  refine s_getr (b := 294) fX10_46 (dcx dX10_ask_c0 29 rfl) F284_23 ?_
  refine r_aload_n (dcx dX10_ask_c0 30 rfl) 0 rfl ?_
  refine s_geti fX10_245 (dcx dX10_ask_c0 31 rfl) F284_18 ?_
  obtain ⟨hb_, hyp⟩ := hyp
  refine s_iald (dcx dX10_ask_c0 32 rfl) A294 hb_ ?_
  refine r_icmp_ge (tgt := 137) (dcx dX10_ask_c0 33 rfl) (by decide) (fun q_ => ?_) (fun q_ => ?_)
  · have hyp := hyp.1 q_
    refine r_iinc (lv1 := [(4, .int (x4 + 1)), (0, .ref 284), (2, .int x2), (3, .int x3), (5, .int x5)]) (dcx dX10_ask_c1 34 rfl) 3 rfl (Nat.le_of_ble_eq_true rfl) rfl ?_
    refine r_goto (tgt := 23) (dcx dX10_ask_c1 35 rfl) (by decide) ?_
    refine r_loc (lv1 := [(0, .ref 284), (2, .int x2), (3, .int x3), (4, .int (x4 + 1))]) [1, 2, 3, 0] rfl ?_
    exact hyp
  · have hyp := hyp.2 q_
    refine r_iconst (v := 0) (dcx dX10_ask_c0 34 rfl) rfl ?_
    refine r_istore (lv1 := [(6, .int 0), (0, .ref 284), (2, .int x2), (3, .int x3), (4, .int x4), (5, .int x5)]) (dcx dX10_ask_c0 35 rfl) (Nat.le_of_ble_eq_true rfl) rfl ?_
    refine r_iconst (v := 0) (dcx dX10_ask_c0 36 rfl) rfl ?_
    refine r_istore (lv1 := [(7, .int 0), (6, .int 0), (0, .ref 284), (2, .int x2), (3, .int x3), (4, .int x4), (5, .int x5)]) (dcx dX10_ask_c0 37 rfl) (Nat.le_of_ble_eq_true rfl) rfl ?_
    refine r_loc (lv1 := [(0, .ref 284), (2, .int x2), (3, .int x3), (4, .int x4), (5, .int x5), (6, .int 0), (7, .int 0)]) [2, 3, 4, 5, 6, 1, 0] rfl ?_
    exact hyp
set_option maxHeartbeats 4000000 in
set_option maxRecDepth 20000 in
theorem tX10_ask_67 {Γ : GE} {l : Launch} {x2 : Int32} {x3 : Int32} {x4 : Int32} {x5 : Int32} {x6 : Int32} {x7 : Int32} {σ : SS} {K : Option Value → SS → Prop}  (hyp : ((100 : Int32) ≤ x7 → ((x2 < 0 → (wX10_ask_47 Γ l ((10 * x4) + x5) x6 x4 (x5 + 1) σ K)) ∧ (¬ (x2 < 0) → ((x6 < x3 → (wX10_ask_47 Γ l ((10 * x4) + x5) x6 x4 (x5 + 1) σ K)) ∧ (¬ (x6 < x3) → (wX10_ask_47 Γ l x2 x3 x4 (x5 + 1) σ K)))))) ∧ (¬ ((100 : Int32) ≤ x7) → (vp_in ((100 * ((8 * x4) + x5)) + x7) 4800 ∧ (C2 Γ l mX10_most [.int x6, .int (σ.1 330 (Int32.toNatClampNeg ((100 * ((8 * x4) + x5)) + x7)))] σ (Ri fun r2_ s1_ => (wX10_ask_67 Γ l x2 x3 x4 x5 r2_ (x7 + 1) s1_ K)))))) : wX10_ask_67 Γ l x2 x3 x4 x5 x6 x7 σ K := by
  show G2 Γ l mX10_ask 67 [(0, .ref 284), (2, .int x2), (3, .int x3), (4, .int x4), (5, .int x5), (6, .int x6), (7, .int x7)] [] σ K
  refine r_iload (dcx dX10_ask_c0 38 rfl) 6 rfl ?_
  refine r_bipush (v := 100) (dcx dX10_ask_c0 39 rfl) rfl ?_
  refine r_icmp_ge (tgt := 106) (dcx dX10_ask_c1 0 rfl) (by decide) (fun q_ => ?_) (fun q_ => ?_)
  · have hyp := hyp.1 q_
    refine r_iload_n (dcx dX10_ask_c1 18 rfl) 1 rfl ?_
    refine r_if_lt (tgt := 119) (dcx dX10_ask_c1 19 rfl) (by decide) (fun q_ => ?_) (fun q_ => ?_)
    · have hyp := hyp.1 q_
      refine r_bipush (v := 10) (dcx dX10_ask_c1 24 rfl) rfl ?_
      refine r_iload (dcx dX10_ask_c1 25 rfl) 3 rfl ?_
      refine r_imul (dcx dX10_ask_c1 26 rfl) ?_
      refine r_iload (dcx dX10_ask_c1 27 rfl) 4 rfl ?_
      refine r_iadd (dcx dX10_ask_c1 28 rfl) ?_
      refine r_istore_n (lv1 := [(2, .int ((10 * x4) + x5)), (0, .ref 284), (3, .int x3), (4, .int x4), (5, .int x5), (6, .int x6), (7, .int x7)]) (dcx dX10_ask_c1 29 rfl) (Nat.le_of_ble_eq_true rfl) rfl ?_
      refine r_iload (dcx dX10_ask_c1 30 rfl) 5 rfl ?_
      refine r_istore_n (lv1 := [(3, .int x6), (2, .int ((10 * x4) + x5)), (0, .ref 284), (4, .int x4), (5, .int x5), (6, .int x6), (7, .int x7)]) (dcx dX10_ask_c1 31 rfl) (Nat.le_of_ble_eq_true rfl) rfl ?_
      refine r_iinc (lv1 := [(5, .int (x5 + 1)), (3, .int x6), (2, .int ((10 * x4) + x5)), (0, .ref 284), (4, .int x4), (6, .int x6), (7, .int x7)]) (dcx dX10_ask_c1 32 rfl) 4 rfl (Nat.le_of_ble_eq_true rfl) rfl ?_
      refine r_goto (tgt := 47) (dcx dX10_ask_c1 33 rfl) (by decide) ?_
      refine r_loc (lv1 := [(0, .ref 284), (2, .int ((10 * x4) + x5)), (3, .int x6), (4, .int x4), (5, .int (x5 + 1))]) [3, 2, 1, 4, 0] rfl ?_
      exact hyp
    · have hyp := hyp.2 q_
      refine r_iload (dcx dX10_ask_c1 20 rfl) 5 rfl ?_
      refine r_iload_n (dcx dX10_ask_c1 21 rfl) 2 rfl ?_
      refine r_icmp_lt (tgt := 119) (dcx dX10_ask_c1 22 rfl) (by decide) (fun q_ => ?_) (fun q_ => ?_)
      · have hyp := hyp.1 q_
        refine r_bipush (v := 10) (dcx dX10_ask_c1 24 rfl) rfl ?_
        refine r_iload (dcx dX10_ask_c1 25 rfl) 3 rfl ?_
        refine r_imul (dcx dX10_ask_c1 26 rfl) ?_
        refine r_iload (dcx dX10_ask_c1 27 rfl) 4 rfl ?_
        refine r_iadd (dcx dX10_ask_c1 28 rfl) ?_
        refine r_istore_n (lv1 := [(2, .int ((10 * x4) + x5)), (0, .ref 284), (3, .int x3), (4, .int x4), (5, .int x5), (6, .int x6), (7, .int x7)]) (dcx dX10_ask_c1 29 rfl) (Nat.le_of_ble_eq_true rfl) rfl ?_
        refine r_iload (dcx dX10_ask_c1 30 rfl) 5 rfl ?_
        refine r_istore_n (lv1 := [(3, .int x6), (2, .int ((10 * x4) + x5)), (0, .ref 284), (4, .int x4), (5, .int x5), (6, .int x6), (7, .int x7)]) (dcx dX10_ask_c1 31 rfl) (Nat.le_of_ble_eq_true rfl) rfl ?_
        refine r_iinc (lv1 := [(5, .int (x5 + 1)), (3, .int x6), (2, .int ((10 * x4) + x5)), (0, .ref 284), (4, .int x4), (6, .int x6), (7, .int x7)]) (dcx dX10_ask_c1 32 rfl) 4 rfl (Nat.le_of_ble_eq_true rfl) rfl ?_
        refine r_goto (tgt := 47) (dcx dX10_ask_c1 33 rfl) (by decide) ?_
        refine r_loc (lv1 := [(0, .ref 284), (2, .int ((10 * x4) + x5)), (3, .int x6), (4, .int x4), (5, .int (x5 + 1))]) [3, 2, 1, 4, 0] rfl ?_
        exact hyp
      · have hyp := hyp.2 q_
        refine r_goto (tgt := 131) (dcx dX10_ask_c1 23 rfl) (by decide) ?_
        refine r_iinc (lv1 := [(5, .int (x5 + 1)), (0, .ref 284), (2, .int x2), (3, .int x3), (4, .int x4), (6, .int x6), (7, .int x7)]) (dcx dX10_ask_c1 32 rfl) 4 rfl (Nat.le_of_ble_eq_true rfl) rfl ?_
        refine r_goto (tgt := 47) (dcx dX10_ask_c1 33 rfl) (by decide) ?_
        refine r_loc (lv1 := [(0, .ref 284), (2, .int x2), (3, .int x3), (4, .int x4), (5, .int (x5 + 1))]) [1, 2, 3, 4, 0] rfl ?_
        exact hyp
  · have hyp := hyp.2 q_
    refine r_iload (dcx dX10_ask_c1 1 rfl) 5 rfl ?_
    refine r_aload_n (dcx dX10_ask_c1 2 rfl) 0 rfl ?_
    refine s_getr (b := 330) fX10_155 (dcx dX10_ask_c1 3 rfl) F284_67 ?_
    refine r_bipush (v := 100) (dcx dX10_ask_c1 4 rfl) rfl ?_
    refine r_bipush (v := 8) (dcx dX10_ask_c1 5 rfl) rfl ?_
    refine r_iload (dcx dX10_ask_c1 6 rfl) 3 rfl ?_
    refine r_imul (dcx dX10_ask_c1 7 rfl) ?_
    refine r_iload (dcx dX10_ask_c1 8 rfl) 4 rfl ?_
    refine r_iadd (dcx dX10_ask_c1 9 rfl) ?_
    refine r_imul (dcx dX10_ask_c1 10 rfl) ?_
    refine r_iload (dcx dX10_ask_c1 11 rfl) 6 rfl ?_
    refine r_iadd (dcx dX10_ask_c1 12 rfl) ?_
    obtain ⟨hb_, hyp⟩ := hyp
    refine s_iald (dcx dX10_ask_c1 13 rfl) A330 hb_ ?_
    refine s_callS (as := [.int x6, .int (σ.1 330 (Int32.toNatClampNeg ((100 * ((8 * x4) + x5)) + x7)))]) (st := []) zX10_most kX10_ask_369 (dcx dX10_ask_c1 14 rfl) rfl rfl (Nat.le_of_ble_eq_true rfl) (C2.mono hyp ?_)
    rintro _ s1_ ⟨r2_, rfl, hyp⟩
    show G2 Γ l mX10_ask 98 [(0, .ref 284), (2, .int x2), (3, .int x3), (4, .int x4), (5, .int x5), (6, .int x6), (7, .int x7)] [.int r2_] s1_ K
    refine r_istore (lv1 := [(6, .int r2_), (0, .ref 284), (2, .int x2), (3, .int x3), (4, .int x4), (5, .int x5), (7, .int x7)]) (dcx dX10_ask_c1 15 rfl) (Nat.le_of_ble_eq_true rfl) rfl ?_
    refine r_iinc (lv1 := [(7, .int (x7 + 1)), (6, .int r2_), (0, .ref 284), (2, .int x2), (3, .int x3), (4, .int x4), (5, .int x5)]) (dcx dX10_ask_c1 16 rfl) 6 rfl (Nat.le_of_ble_eq_true rfl) rfl ?_
    refine r_goto (tgt := 67) (dcx dX10_ask_c1 17 rfl) (by decide) ?_
    refine r_loc (lv1 := [(0, .ref 284), (2, .int x2), (3, .int x3), (4, .int x4), (5, .int x5), (6, .int r2_), (7, .int (x7 + 1))]) [2, 3, 4, 5, 6, 1, 0] rfl ?_
    exact hyp
def wX10_hold_20 (Γ : GE) (l : Launch) (x1 : Int32) (x2 : Int32) (σ : SS) (K : Option Value → SS → Prop) : Prop := G2 Γ l mX10_hold 20 [(0, .ref 284), (1, .int x1), (2, .int x2)] [] σ K
set_option maxHeartbeats 4000000 in
set_option maxRecDepth 20000 in
theorem tX10_hold {Γ : GE} {l : Launch} {x1 : Int32} {σ : SS} {K : Option Value → SS → Prop}  (hyp : C2 Γ l mX10_in [.int x1, .int 0, .int 2] σ (Ri fun r2_ s1_ => ((¬ r2_ = 0 → (vp_in x1 3 ∧ (∀ s3_ : SS, s3_ = sI s1_ 331 (Int32.toNatClampNeg x1) (vp_nar .boolean 1) → (wX10_hold_20 Γ l x1 0 s3_ K)))) ∧ (r2_ = 0 → (K (some (.int 0)) s1_))))) : C2 Γ l mX10_hold [.ref 284, .int x1] σ K := by
  refine c2_of (lv := [(0, .ref 284), (1, .int x1)]) (by decide) (Nat.le_of_ble_eq_true rfl) rfl ?_
  refine r_iload_n (dcx dX10_hold_c0 0 rfl) 1 rfl ?_
  refine r_iconst (v := 0) (dcx dX10_hold_c0 1 rfl) rfl ?_
  refine r_iconst (v := 2) (dcx dX10_hold_c0 2 rfl) rfl ?_
  refine s_callS (as := [.int x1, .int 0, .int 2]) (st := []) zX10_in kX10_hold_339 (dcx dX10_hold_c0 3 rfl) rfl rfl (Nat.le_of_ble_eq_true rfl) (C2.mono hyp ?_)
  rintro _ s1_ ⟨r2_, rfl, hyp⟩
  show G2 Γ l mX10_hold 6 [(0, .ref 284), (1, .int x1)] [.int r2_] s1_ K
  refine r_if_ne (tgt := 11) (dcx dX10_hold_c0 4 rfl) (by decide) (fun q_ => ?_) (fun q_ => ?_)
  · have hyp := hyp.1 q_
    refine r_aload_n (dcx dX10_hold_c0 7 rfl) 0 rfl ?_
    refine s_getr (b := 331) fX10_158 (dcx dX10_hold_c0 8 rfl) F284_68 ?_
    refine r_iload_n (dcx dX10_hold_c0 9 rfl) 1 rfl ?_
    refine r_iconst (v := 1) (dcx dX10_hold_c0 10 rfl) rfl ?_
    obtain ⟨hb_, hyp⟩ := hyp
    refine s_zast (dcx dX10_hold_c0 11 rfl) A331 hb_ ?_
    obtain ⟨s3_, es3_⟩ : ∃ z : SS, z = sI s1_ 331 (Int32.toNatClampNeg x1) (vp_nar .boolean 1) := ⟨_, rfl⟩
    rw [← es3_]
    have hyp := hyp s3_ es3_
    refine r_iconst (v := 0) (dcx dX10_hold_c0 12 rfl) rfl ?_
    refine r_istore_n (lv1 := [(2, .int 0), (0, .ref 284), (1, .int x1)]) (dcx dX10_hold_c0 13 rfl) (Nat.le_of_ble_eq_true rfl) rfl ?_
    refine r_loc (lv1 := [(0, .ref 284), (1, .int x1), (2, .int 0)]) [1, 2, 0] rfl ?_
    exact hyp
  · have hyp := hyp.2 q_
    refine r_iconst (v := 0) (dcx dX10_hold_c0 5 rfl) rfl ?_
    exact s_ret rfl rfl rfl hyp (dcx dX10_hold_c0 6 rfl)
set_option maxHeartbeats 4000000 in
set_option maxRecDepth 20000 in
theorem tX10_hold_20 {Γ : GE} {l : Launch} {x1 : Int32} {x2 : Int32} {σ : SS} {K : Option Value → SS → Prop}  (hyp : ((106 : Int32) ≤ x2 → (K (some (.int 1)) σ)) ∧ (¬ ((106 : Int32) ≤ x2) → (vp_in x2 106 ∧ (vp_in ((106 * x1) + x2) 318 ∧ (∀ s1_ : SS, s1_ = sI σ 332 (Int32.toNatClampNeg ((106 * x1) + x2)) (σ.1 321 (Int32.toNatClampNeg x2)) → (wX10_hold_20 Γ l x1 (x2 + 1) s1_ K)))))) : wX10_hold_20 Γ l x1 x2 σ K := by
  show G2 Γ l mX10_hold 20 [(0, .ref 284), (1, .int x1), (2, .int x2)] [] σ K
  refine r_iload_n (dcx dX10_hold_c0 14 rfl) 2 rfl ?_
  refine r_bipush (v := 106) (dcx dX10_hold_c0 15 rfl) rfl ?_
  refine r_icmp_ge (tgt := 49) (dcx dX10_hold_c0 16 rfl) (by decide) (fun q_ => ?_) (fun q_ => ?_)
  · have hyp := hyp.1 q_
    refine r_iconst (v := 1) (dcx dX10_hold_c0 31 rfl) rfl ?_
    exact s_ret rfl rfl rfl hyp (dcx dX10_hold_c0 32 rfl)
  · have hyp := hyp.2 q_
    refine r_aload_n (dcx dX10_hold_c0 17 rfl) 0 rfl ?_
    refine s_getr (b := 332) fX10_161 (dcx dX10_hold_c0 18 rfl) F284_69 ?_
    refine r_bipush (v := 106) (dcx dX10_hold_c0 19 rfl) rfl ?_
    refine r_iload_n (dcx dX10_hold_c0 20 rfl) 1 rfl ?_
    refine r_imul (dcx dX10_hold_c0 21 rfl) ?_
    refine r_iload_n (dcx dX10_hold_c0 22 rfl) 2 rfl ?_
    refine r_iadd (dcx dX10_hold_c0 23 rfl) ?_
    refine r_aload_n (dcx dX10_hold_c0 24 rfl) 0 rfl ?_
    refine s_getr (b := 321) fX10_128 (dcx dX10_hold_c0 25 rfl) F284_54 ?_
    refine r_iload_n (dcx dX10_hold_c0 26 rfl) 2 rfl ?_
    obtain ⟨hb_, hyp⟩ := hyp
    refine s_iald (dcx dX10_hold_c0 27 rfl) A321 hb_ ?_
    obtain ⟨hb_, hyp⟩ := hyp
    refine s_iast (dcx dX10_hold_c0 28 rfl) A332 hb_ ?_
    obtain ⟨s1_, es1_⟩ : ∃ z : SS, z = sI σ 332 (Int32.toNatClampNeg ((106 * x1) + x2)) (σ.1 321 (Int32.toNatClampNeg x2)) := ⟨_, rfl⟩
    rw [← es1_]
    have hyp := hyp s1_ es1_
    refine r_iinc (lv1 := [(2, .int (x2 + 1)), (0, .ref 284), (1, .int x1)]) (dcx dX10_hold_c0 29 rfl) 2 rfl (Nat.le_of_ble_eq_true rfl) rfl ?_
    refine r_goto (tgt := 20) (dcx dX10_hold_c0 30 rfl) (by decide) ?_
    refine r_loc (lv1 := [(0, .ref 284), (1, .int x1), (2, .int (x2 + 1))]) [1, 2, 0] rfl ?_
    exact hyp
def wX10_restore_22 (Γ : GE) (l : Launch) (x1 : Int32) (x2 : Int32) (σ : SS) (K : Option Value → SS → Prop) : Prop := G2 Γ l mX10_restore 22 [(0, .ref 284), (1, .int x1), (2, .int x2)] [] σ K
set_option maxHeartbeats 4000000 in
set_option maxRecDepth 20000 in
theorem tX10_restore {Γ : GE} {l : Launch} {x1 : Int32} {σ : SS} {K : Option Value → SS → Prop}  (hyp : C2 Γ l mX10_in [.int x1, .int 0, .int 2] σ (Ri fun r2_ s1_ => ((r2_ = 0 → (K (some (.int 0)) s1_)) ∧ (¬ (r2_ = 0) → (vp_in x1 3 ∧ ((¬ (s1_.1 331 (Int32.toNatClampNeg x1)) = 0 → (wX10_restore_22 Γ l x1 0 s1_ K)) ∧ ((s1_.1 331 (Int32.toNatClampNeg x1)) = 0 → (K (some (.int 0)) s1_)))))))) : C2 Γ l mX10_restore [.ref 284, .int x1] σ K := by
  refine c2_of (lv := [(0, .ref 284), (1, .int x1)]) (by decide) (Nat.le_of_ble_eq_true rfl) rfl ?_
  refine r_iload_n (dcx dX10_restore_c0 0 rfl) 1 rfl ?_
  refine r_iconst (v := 0) (dcx dX10_restore_c0 1 rfl) rfl ?_
  refine r_iconst (v := 2) (dcx dX10_restore_c0 2 rfl) rfl ?_
  refine s_callS (as := [.int x1, .int 0, .int 2]) (st := []) zX10_in kX10_restore_339 (dcx dX10_restore_c0 3 rfl) rfl rfl (Nat.le_of_ble_eq_true rfl) (C2.mono hyp ?_)
  rintro _ s1_ ⟨r2_, rfl, hyp⟩
  show G2 Γ l mX10_restore 6 [(0, .ref 284), (1, .int x1)] [.int r2_] s1_ K
  refine r_if_eq (tgt := 18) (dcx dX10_restore_c0 4 rfl) (by decide) (fun q_ => ?_) (fun q_ => ?_)
  · have hyp := hyp.1 q_
    refine r_iconst (v := 0) (dcx dX10_restore_c0 10 rfl) rfl ?_
    exact s_ret rfl rfl rfl hyp (dcx dX10_restore_c0 11 rfl)
  · have hyp := hyp.2 q_
    refine r_aload_n (dcx dX10_restore_c0 5 rfl) 0 rfl ?_
    refine s_getr (b := 331) fX10_158 (dcx dX10_restore_c0 6 rfl) F284_68 ?_
    refine r_iload_n (dcx dX10_restore_c0 7 rfl) 1 rfl ?_
    obtain ⟨hb_, hyp⟩ := hyp
    refine s_zald (dcx dX10_restore_c0 8 rfl) A331 hb_ ?_
    refine r_if_ne (tgt := 20) (dcx dX10_restore_c0 9 rfl) (by decide) (fun q_ => ?_) (fun q_ => ?_)
    · have hyp := hyp.1 q_
      refine r_iconst (v := 0) (dcx dX10_restore_c0 12 rfl) rfl ?_
      refine r_istore_n (lv1 := [(2, .int 0), (0, .ref 284), (1, .int x1)]) (dcx dX10_restore_c0 13 rfl) (Nat.le_of_ble_eq_true rfl) rfl ?_
      refine r_loc (lv1 := [(0, .ref 284), (1, .int x1), (2, .int 0)]) [1, 2, 0] rfl ?_
      exact hyp
    · have hyp := hyp.2 q_
      refine r_iconst (v := 0) (dcx dX10_restore_c0 10 rfl) rfl ?_
      exact s_ret rfl rfl rfl hyp (dcx dX10_restore_c0 11 rfl)
set_option maxHeartbeats 4000000 in
set_option maxRecDepth 20000 in
theorem tX10_restore_22 {Γ : GE} {l : Launch} {x1 : Int32} {x2 : Int32} {σ : SS} {K : Option Value → SS → Prop}  (hyp : ((106 : Int32) ≤ x2 → (∀ s1_ : SS, s1_ = sI σ 284 59 0 → (K (some (.int 1)) s1_))) ∧ (¬ ((106 : Int32) ≤ x2) → (vp_in ((106 * x1) + x2) 318 ∧ (vp_in x2 106 ∧ (∀ s2_ : SS, s2_ = sI σ 321 (Int32.toNatClampNeg x2) (σ.1 332 (Int32.toNatClampNeg ((106 * x1) + x2))) → (wX10_restore_22 Γ l x1 (x2 + 1) s2_ K)))))) : wX10_restore_22 Γ l x1 x2 σ K := by
  show G2 Γ l mX10_restore 22 [(0, .ref 284), (1, .int x1), (2, .int x2)] [] σ K
  refine r_iload_n (dcx dX10_restore_c0 14 rfl) 2 rfl ?_
  refine r_bipush (v := 106) (dcx dX10_restore_c0 15 rfl) rfl ?_
  refine r_icmp_ge (tgt := 51) (dcx dX10_restore_c0 16 rfl) (by decide) (fun q_ => ?_) (fun q_ => ?_)
  · have hyp := hyp.1 q_
    refine r_aload_n (dcx dX10_restore_c0 31 rfl) 0 rfl ?_
    refine r_iconst (v := 0) (dcx dX10_restore_c0 32 rfl) rfl ?_
    refine s_puti gX10_263 (dcx dX10_restore_c0 33 rfl) F284_59 ?_
    obtain ⟨s1_, es1_⟩ : ∃ z : SS, z = sI σ 284 59 0 := ⟨_, rfl⟩
    rw [← es1_]
    have hyp := hyp s1_ es1_
    refine r_iconst (v := 1) (dcx dX10_restore_c0 34 rfl) rfl ?_
    exact s_ret rfl rfl rfl hyp (dcx dX10_restore_c0 35 rfl)
  · have hyp := hyp.2 q_
    refine r_aload_n (dcx dX10_restore_c0 17 rfl) 0 rfl ?_
    refine s_getr (b := 321) fX10_128 (dcx dX10_restore_c0 18 rfl) F284_54 ?_
    refine r_iload_n (dcx dX10_restore_c0 19 rfl) 2 rfl ?_
    refine r_aload_n (dcx dX10_restore_c0 20 rfl) 0 rfl ?_
    refine s_getr (b := 332) fX10_161 (dcx dX10_restore_c0 21 rfl) F284_69 ?_
    refine r_bipush (v := 106) (dcx dX10_restore_c0 22 rfl) rfl ?_
    refine r_iload_n (dcx dX10_restore_c0 23 rfl) 1 rfl ?_
    refine r_imul (dcx dX10_restore_c0 24 rfl) ?_
    refine r_iload_n (dcx dX10_restore_c0 25 rfl) 2 rfl ?_
    refine r_iadd (dcx dX10_restore_c0 26 rfl) ?_
    obtain ⟨hb_, hyp⟩ := hyp
    refine s_iald (dcx dX10_restore_c0 27 rfl) A332 hb_ ?_
    obtain ⟨hb_, hyp⟩ := hyp
    refine s_iast (dcx dX10_restore_c0 28 rfl) A321 hb_ ?_
    obtain ⟨s2_, es2_⟩ : ∃ z : SS, z = sI σ 321 (Int32.toNatClampNeg x2) (σ.1 332 (Int32.toNatClampNeg ((106 * x1) + x2))) := ⟨_, rfl⟩
    rw [← es2_]
    have hyp := hyp s2_ es2_
    refine r_iinc (lv1 := [(2, .int (x2 + 1)), (0, .ref 284), (1, .int x1)]) (dcx dX10_restore_c0 29 rfl) 2 rfl (Nat.le_of_ble_eq_true rfl) rfl ?_
    refine r_goto (tgt := 22) (dcx dX10_restore_c0 30 rfl) (by decide) ?_
    refine r_loc (lv1 := [(0, .ref 284), (1, .int x1), (2, .int (x2 + 1))]) [1, 2, 0] rfl ?_
    exact hyp
def wX10_count_128 (Γ : GE) (l : Launch) (x2 : Int32) (x3 : Int32) (σ : SS) (K : Option Value → SS → Prop) : Prop := G2 Γ l mX10_count 128 [(0, .ref 284), (2, .int x2), (3, .int x3)] [] σ K
def wX10_count_220 (Γ : GE) (l : Launch) (x2 : Int32) (x3 : Int32) (σ : SS) (K : Option Value → SS → Prop) : Prop := G2 Γ l mX10_count 220 [(0, .ref 284), (2, .int x2), (3, .int x3)] [] σ K
def wX10_count_236 (Γ : GE) (l : Launch) (x2 : Int32) (x3 : Int32) (x4 : Int32) (σ : SS) (K : Option Value → SS → Prop) : Prop := G2 Γ l mX10_count 236 [(0, .ref 284), (2, .int x2), (3, .int x3), (4, .int x4)] [] σ K
def wX10_count_263 (Γ : GE) (l : Launch) (x2 : Int32) (x3 : Int32) (x4 : Int32) (σ : SS) (K : Option Value → SS → Prop) : Prop := G2 Γ l mX10_count 263 [(0, .ref 284), (2, .int x2), (3, .int x3), (4, .int x4)] [] σ K
set_option maxHeartbeats 4000000 in
set_option maxRecDepth 20000 in
theorem tX10_count {Γ : GE} {l : Launch} {x1 : Int32} {σ : SS} {K : Option Value → SS → Prop}  (hyp : C2 Γ l mX10_copies [.ref 284] σ (Rv fun s1_ => ((x1 = 0 → (vp_in (s1_.1 284 18) 2 ∧ (K (some (.int (s1_.1 294 (Int32.toNatClampNeg (s1_.1 284 18))))) s1_))) ∧ (x1 = 1 → (vp_in (s1_.1 284 18) 2 ∧ (K (some (.int (s1_.1 295 (Int32.toNatClampNeg (s1_.1 284 18))))) s1_))) ∧ (x1 = 2 → (vp_in (s1_.1 284 18) 2 ∧ (K (some (.int (s1_.1 297 (Int32.toNatClampNeg (s1_.1 284 18))))) s1_))) ∧ (x1 = 3 → (vp_in (s1_.1 284 18) 2 ∧ (K (some (.int (s1_.1 299 (Int32.toNatClampNeg (s1_.1 284 18))))) s1_))) ∧ (x1 = 4 → (vp_in (100 + x1) 106 ∧ (K (some (.int (s1_.1 322 (Int32.toNatClampNeg (100 + x1))))) s1_))) ∧ (x1 = 5 → (vp_in (100 + x1) 106 ∧ (K (some (.int (s1_.1 322 (Int32.toNatClampNeg (100 + x1))))) s1_))) ∧ (x1 = 6 → (wX10_count_128 Γ l 0 0 s1_ K)) ∧ (x1 = 7 → (C2 Γ l mX10_wetNow [.ref 284] s1_ (Ri fun r4_ s3_ => (K (some (.int r4_)) s3_)))) ∧ (x1 = 8 → (K (some (.int (s1_.1 284 2))) s1_)) ∧ (x1 = 9 → (K (some (.int (s1_.1 284 59))) s1_)) ∧ (x1 = 10 → (K (some (.int (s1_.1 284 61))) s1_)) ∧ (x1 = 11 → (vp_in 0 3 ∧ (((s1_.1 331 (Int32.toNatClampNeg 0)) = 0 → (vp_in 1 3 ∧ (((s1_.1 331 (Int32.toNatClampNeg 1)) = 0 → (vp_in 2 3 ∧ (((s1_.1 331 (Int32.toNatClampNeg 2)) = 0 → (K (some (.int ((0 + 0) + 0))) s1_)) ∧ (¬ ((s1_.1 331 (Int32.toNatClampNeg 2)) = 0) → (K (some (.int ((0 + 0) + 1))) s1_))))) ∧ (¬ ((s1_.1 331 (Int32.toNatClampNeg 1)) = 0) → (vp_in 2 3 ∧ (((s1_.1 331 (Int32.toNatClampNeg 2)) = 0 → (K (some (.int ((0 + 1) + 0))) s1_)) ∧ (¬ ((s1_.1 331 (Int32.toNatClampNeg 2)) = 0) → (K (some (.int ((0 + 1) + 1))) s1_)))))))) ∧ (¬ ((s1_.1 331 (Int32.toNatClampNeg 0)) = 0) → (vp_in 1 3 ∧ (((s1_.1 331 (Int32.toNatClampNeg 1)) = 0 → (vp_in 2 3 ∧ (((s1_.1 331 (Int32.toNatClampNeg 2)) = 0 → (K (some (.int ((1 + 0) + 0))) s1_)) ∧ (¬ ((s1_.1 331 (Int32.toNatClampNeg 2)) = 0) → (K (some (.int ((1 + 0) + 1))) s1_))))) ∧ (¬ ((s1_.1 331 (Int32.toNatClampNeg 1)) = 0) → (vp_in 2 3 ∧ (((s1_.1 331 (Int32.toNatClampNeg 2)) = 0 → (K (some (.int ((1 + 1) + 0))) s1_)) ∧ (¬ ((s1_.1 331 (Int32.toNatClampNeg 2)) = 0) → (K (some (.int ((1 + 1) + 1))) s1_))))))))))) ∧ (x1 = 12 → (wX10_count_220 Γ l 0 0 s1_ K)) ∧ (x1 = 13 → (vp_in (s1_.1 284 18) 2 ∧ (K (some (.int (s1_.1 304 (Int32.toNatClampNeg (s1_.1 284 18))))) s1_))) ∧ (¬ x1 = 0 → ¬ x1 = 1 → ¬ x1 = 2 → ¬ x1 = 3 → ¬ x1 = 4 → ¬ x1 = 5 → ¬ x1 = 6 → ¬ x1 = 7 → ¬ x1 = 8 → ¬ x1 = 9 → ¬ x1 = 10 → ¬ x1 = 11 → ¬ x1 = 12 → ¬ x1 = 13 → (K (some (.int ((-1)))) s1_))))) : C2 Γ l mX10_count [.ref 284, .int x1] σ K := by
  refine c2_of (lv := [(0, .ref 284), (1, .int x1)]) (by decide) (Nat.le_of_ble_eq_true rfl) rfl ?_
  refine r_aload_n (dcx dX10_count_c0 0 rfl) 0 rfl ?_
  refine s_callV (as := []) (st := []) zX10_copies kX10_count_415 (dcx dX10_count_c0 1 rfl) rfl rfl (Nat.le_of_ble_eq_true rfl) O284 rfl rfl (C2.mono hyp ?_)
  rintro _ s1_ ⟨rfl, hyp⟩
  show G2 Γ l mX10_count 4 [(0, .ref 284), (1, .int x1)] [] s1_ K
  refine r_iconst (v := 0) (dcx dX10_count_c0 2 rfl) rfl ?_
  refine r_istore_n (lv1 := [(2, .int 0), (0, .ref 284), (1, .int x1)]) (dcx dX10_count_c0 3 rfl) (Nat.le_of_ble_eq_true rfl) rfl ?_
  refine r_iload_n (dcx dX10_count_c0 4 rfl) 2 rfl ?_
  by_cases q0_ : x1 = 0
  · have hyp := hyp.1 q0_
    refine r_tableIn (off := 69) (tgt := 76) (dcx dX10_count_c0 5 rfl) (by rw [q0_]; decide) (by rw [q0_]; decide) (by rw [q0_]; decide) (by decide) ?_
    refine r_aload_n (dcx dX10_count_c0 6 rfl) 1 rfl ?_
    refine s_getr (b := 294) fX10_46 (dcx dX10_count_c0 7 rfl) F284_23 ?_
    refine r_aload_n (dcx dX10_count_c0 8 rfl) 1 rfl ?_
    refine s_geti fX10_245 (dcx dX10_count_c0 9 rfl) F284_18 ?_
    obtain ⟨hb_, hyp⟩ := hyp
    refine s_iald (dcx dX10_count_c0 10 rfl) A294 hb_ ?_
    exact s_ret rfl rfl rfl hyp (dcx dX10_count_c0 11 rfl)
  have hyp := hyp.2
  by_cases q1_ : x1 = 1
  · have hyp := hyp.1 q1_
    refine r_tableIn (off := 79) (tgt := 86) (dcx dX10_count_c0 5 rfl) (by rw [q1_]; decide) (by rw [q1_]; decide) (by rw [q1_]; decide) (by decide) ?_
    refine r_aload_n (dcx dX10_count_c0 12 rfl) 1 rfl ?_
    refine s_getr (b := 295) fX10_49 (dcx dX10_count_c0 13 rfl) F284_24 ?_
    refine r_aload_n (dcx dX10_count_c0 14 rfl) 1 rfl ?_
    refine s_geti fX10_245 (dcx dX10_count_c0 15 rfl) F284_18 ?_
    obtain ⟨hb_, hyp⟩ := hyp
    refine s_iald (dcx dX10_count_c0 16 rfl) A295 hb_ ?_
    exact s_ret rfl rfl rfl hyp (dcx dX10_count_c0 17 rfl)
  have hyp := hyp.2
  by_cases q2_ : x1 = 2
  · have hyp := hyp.1 q2_
    refine r_tableIn (off := 89) (tgt := 96) (dcx dX10_count_c0 5 rfl) (by rw [q2_]; decide) (by rw [q2_]; decide) (by rw [q2_]; decide) (by decide) ?_
    refine r_aload_n (dcx dX10_count_c0 18 rfl) 1 rfl ?_
    refine s_getr (b := 297) fX10_55 (dcx dX10_count_c0 19 rfl) F284_26 ?_
    refine r_aload_n (dcx dX10_count_c0 20 rfl) 1 rfl ?_
    refine s_geti fX10_245 (dcx dX10_count_c0 21 rfl) F284_18 ?_
    obtain ⟨hb_, hyp⟩ := hyp
    refine s_iald (dcx dX10_count_c0 22 rfl) A297 hb_ ?_
    exact s_ret rfl rfl rfl hyp (dcx dX10_count_c0 23 rfl)
  have hyp := hyp.2
  by_cases q3_ : x1 = 3
  · have hyp := hyp.1 q3_
    refine r_tableIn (off := 99) (tgt := 106) (dcx dX10_count_c0 5 rfl) (by rw [q3_]; decide) (by rw [q3_]; decide) (by rw [q3_]; decide) (by decide) ?_
    refine r_aload_n (dcx dX10_count_c0 24 rfl) 1 rfl ?_
    refine s_getr (b := 299) fX10_62 (dcx dX10_count_c0 25 rfl) F284_28 ?_
    refine r_aload_n (dcx dX10_count_c0 26 rfl) 1 rfl ?_
    refine s_geti fX10_245 (dcx dX10_count_c0 27 rfl) F284_18 ?_
    obtain ⟨hb_, hyp⟩ := hyp
    refine s_iald (dcx dX10_count_c0 28 rfl) A299 hb_ ?_
    exact s_ret rfl rfl rfl hyp (dcx dX10_count_c0 29 rfl)
  have hyp := hyp.2
  by_cases q4_ : x1 = 4
  · have hyp := hyp.1 q4_
    refine r_tableIn (off := 109) (tgt := 116) (dcx dX10_count_c0 5 rfl) (by rw [q4_]; decide) (by rw [q4_]; decide) (by rw [q4_]; decide) (by decide) ?_
    refine r_aload_n (dcx dX10_count_c0 30 rfl) 1 rfl ?_
    refine s_getr (b := 322) fX10_131 (dcx dX10_count_c0 31 rfl) F284_55 ?_
    refine r_bipush (v := 100) (dcx dX10_count_c0 32 rfl) rfl ?_
    refine r_iload_n (dcx dX10_count_c0 33 rfl) 2 rfl ?_
    refine r_iadd (dcx dX10_count_c0 34 rfl) ?_
    obtain ⟨hb_, hyp⟩ := hyp
    refine s_iald (dcx dX10_count_c0 35 rfl) A322 hb_ ?_
    exact s_ret rfl rfl rfl hyp (dcx dX10_count_c0 36 rfl)
  have hyp := hyp.2
  by_cases q5_ : x1 = 5
  · have hyp := hyp.1 q5_
    refine r_tableIn (off := 109) (tgt := 116) (dcx dX10_count_c0 5 rfl) (by rw [q5_]; decide) (by rw [q5_]; decide) (by rw [q5_]; decide) (by decide) ?_
    refine r_aload_n (dcx dX10_count_c0 30 rfl) 1 rfl ?_
    refine s_getr (b := 322) fX10_131 (dcx dX10_count_c0 31 rfl) F284_55 ?_
    refine r_bipush (v := 100) (dcx dX10_count_c0 32 rfl) rfl ?_
    refine r_iload_n (dcx dX10_count_c0 33 rfl) 2 rfl ?_
    refine r_iadd (dcx dX10_count_c0 34 rfl) ?_
    obtain ⟨hb_, hyp⟩ := hyp
    refine s_iald (dcx dX10_count_c0 35 rfl) A322 hb_ ?_
    exact s_ret rfl rfl rfl hyp (dcx dX10_count_c0 36 rfl)
  have hyp := hyp.2
  by_cases q6_ : x1 = 6
  · have hyp := hyp.1 q6_
    refine r_tableIn (off := 119) (tgt := 126) (dcx dX10_count_c0 5 rfl) (by rw [q6_]; decide) (by rw [q6_]; decide) (by rw [q6_]; decide) (by decide) ?_
    refine r_iconst (v := 0) (dcx dX10_count_c0 37 rfl) rfl ?_
    refine r_istore_n (lv1 := [(3, .int 0), (2, .int 0), (0, .ref 284), (1, .int x1)]) (dcx dX10_count_c0 38 rfl) (Nat.le_of_ble_eq_true rfl) rfl ?_
    refine r_loc (lv1 := [(0, .ref 284), (2, .int 0), (3, .int 0)]) [2, 1, 0] rfl ?_
    exact hyp
  have hyp := hyp.2
  by_cases q7_ : x1 = 7
  · have hyp := hyp.1 q7_
    refine r_tableIn (off := 146) (tgt := 153) (dcx dX10_count_c0 5 rfl) (by rw [q7_]; decide) (by rw [q7_]; decide) (by rw [q7_]; decide) (by decide) ?_
    refine r_aload_n (dcx dX10_count_c1 15 rfl) 1 rfl ?_
    refine s_callV (as := []) (st := []) zX10_wetNow kX10_count_400 (dcx dX10_count_c1 16 rfl) rfl rfl (Nat.le_of_ble_eq_true rfl) O284 rfl rfl (C2.mono hyp ?_)
    rintro _ s3_ ⟨r4_, rfl, hyp⟩
    show G2 Γ l mX10_count 157 [(2, .int 0), (0, .ref 284), (1, .int x1)] [.int r4_] s3_ K
    exact s_ret rfl rfl rfl hyp (dcx dX10_count_c1 17 rfl)
  have hyp := hyp.2
  by_cases q8_ : x1 = 8
  · have hyp := hyp.1 q8_
    refine r_tableIn (off := 151) (tgt := 158) (dcx dX10_count_c0 5 rfl) (by rw [q8_]; decide) (by rw [q8_]; decide) (by rw [q8_]; decide) (by decide) ?_
    refine r_aload_n (dcx dX10_count_c1 18 rfl) 1 rfl ?_
    refine s_geti fX10_178 (dcx dX10_count_c1 19 rfl) F284_2 ?_
    exact s_ret rfl rfl rfl hyp (dcx dX10_count_c1 20 rfl)
  have hyp := hyp.2
  by_cases q9_ : x1 = 9
  · have hyp := hyp.1 q9_
    refine r_tableIn (off := 156) (tgt := 163) (dcx dX10_count_c0 5 rfl) (by rw [q9_]; decide) (by rw [q9_]; decide) (by rw [q9_]; decide) (by decide) ?_
    refine r_aload_n (dcx dX10_count_c1 21 rfl) 1 rfl ?_
    refine s_geti fX10_263 (dcx dX10_count_c1 22 rfl) F284_59 ?_
    exact s_ret rfl rfl rfl hyp (dcx dX10_count_c1 23 rfl)
  have hyp := hyp.2
  by_cases q10_ : x1 = 10
  · have hyp := hyp.1 q10_
    refine r_tableIn (off := 161) (tgt := 168) (dcx dX10_count_c0 5 rfl) (by rw [q10_]; decide) (by rw [q10_]; decide) (by rw [q10_]; decide) (by decide) ?_
    refine r_aload_n (dcx dX10_count_c1 24 rfl) 1 rfl ?_
    refine s_geti fX10_266 (dcx dX10_count_c1 25 rfl) F284_61 ?_
    exact s_ret rfl rfl rfl hyp (dcx dX10_count_c1 26 rfl)
  have hyp := hyp.2
  by_cases q11_ : x1 = 11
  · have hyp := hyp.1 q11_
    refine r_tableIn (off := 166) (tgt := 173) (dcx dX10_count_c0 5 rfl) (by rw [q11_]; decide) (by rw [q11_]; decide) (by rw [q11_]; decide) (by decide) ?_
    refine r_aload_n (dcx dX10_count_c1 27 rfl) 1 rfl ?_
    refine s_getr (b := 331) fX10_158 (dcx dX10_count_c1 28 rfl) F284_68 ?_
    refine r_iconst (v := 0) (dcx dX10_count_c1 29 rfl) rfl ?_
    obtain ⟨hb_, hyp⟩ := hyp
    refine s_zald (dcx dX10_count_c1 30 rfl) A331 hb_ ?_
    refine r_if_eq (tgt := 186) (dcx dX10_count_c1 31 rfl) (by decide) (fun q_ => ?_) (fun q_ => ?_)
    · have hyp := hyp.1 q_
      refine r_iconst (v := 0) (dcx dX10_count_c1 34 rfl) rfl ?_
      refine r_aload_n (dcx dX10_count_c1 35 rfl) 1 rfl ?_
      refine s_getr (b := 331) fX10_158 (dcx dX10_count_c1 36 rfl) F284_68 ?_
      refine r_iconst (v := 1) (dcx dX10_count_c1 37 rfl) rfl ?_
      obtain ⟨hb_, hyp⟩ := hyp
      refine s_zald (dcx dX10_count_c1 38 rfl) A331 hb_ ?_
      refine r_if_eq (tgt := 200) (dcx dX10_count_c1 39 rfl) (by decide) (fun q_ => ?_) (fun q_ => ?_)
      · have hyp := hyp.1 q_
        refine r_iconst (v := 0) (dcx dX10_count_c2 2 rfl) rfl ?_
        refine r_iadd (dcx dX10_count_c2 3 rfl) ?_
        refine r_aload_n (dcx dX10_count_c2 4 rfl) 1 rfl ?_
        refine s_getr (b := 331) fX10_158 (dcx dX10_count_c2 5 rfl) F284_68 ?_
        refine r_iconst (v := 2) (dcx dX10_count_c2 6 rfl) rfl ?_
        obtain ⟨hb_, hyp⟩ := hyp
        refine s_zald (dcx dX10_count_c2 7 rfl) A331 hb_ ?_
        refine r_if_eq (tgt := 215) (dcx dX10_count_c2 8 rfl) (by decide) (fun q_ => ?_) (fun q_ => ?_)
        · have hyp := hyp.1 q_
          refine r_iconst (v := 0) (dcx dX10_count_c2 11 rfl) rfl ?_
          refine r_iadd (dcx dX10_count_c2 12 rfl) ?_
          exact s_ret rfl rfl rfl hyp (dcx dX10_count_c2 13 rfl)
        · have hyp := hyp.2 q_
          refine r_iconst (v := 1) (dcx dX10_count_c2 9 rfl) rfl ?_
          refine r_goto (tgt := 216) (dcx dX10_count_c2 10 rfl) (by decide) ?_
          refine r_iadd (dcx dX10_count_c2 12 rfl) ?_
          exact s_ret rfl rfl rfl hyp (dcx dX10_count_c2 13 rfl)
      · have hyp := hyp.2 q_
        refine r_iconst (v := 1) (dcx dX10_count_c2 0 rfl) rfl ?_
        refine r_goto (tgt := 201) (dcx dX10_count_c2 1 rfl) (by decide) ?_
        refine r_iadd (dcx dX10_count_c2 3 rfl) ?_
        refine r_aload_n (dcx dX10_count_c2 4 rfl) 1 rfl ?_
        refine s_getr (b := 331) fX10_158 (dcx dX10_count_c2 5 rfl) F284_68 ?_
        refine r_iconst (v := 2) (dcx dX10_count_c2 6 rfl) rfl ?_
        obtain ⟨hb_, hyp⟩ := hyp
        refine s_zald (dcx dX10_count_c2 7 rfl) A331 hb_ ?_
        refine r_if_eq (tgt := 215) (dcx dX10_count_c2 8 rfl) (by decide) (fun q_ => ?_) (fun q_ => ?_)
        · have hyp := hyp.1 q_
          refine r_iconst (v := 0) (dcx dX10_count_c2 11 rfl) rfl ?_
          refine r_iadd (dcx dX10_count_c2 12 rfl) ?_
          exact s_ret rfl rfl rfl hyp (dcx dX10_count_c2 13 rfl)
        · have hyp := hyp.2 q_
          refine r_iconst (v := 1) (dcx dX10_count_c2 9 rfl) rfl ?_
          refine r_goto (tgt := 216) (dcx dX10_count_c2 10 rfl) (by decide) ?_
          refine r_iadd (dcx dX10_count_c2 12 rfl) ?_
          exact s_ret rfl rfl rfl hyp (dcx dX10_count_c2 13 rfl)
    · have hyp := hyp.2 q_
      refine r_iconst (v := 1) (dcx dX10_count_c1 32 rfl) rfl ?_
      refine r_goto (tgt := 187) (dcx dX10_count_c1 33 rfl) (by decide) ?_
      refine r_aload_n (dcx dX10_count_c1 35 rfl) 1 rfl ?_
      refine s_getr (b := 331) fX10_158 (dcx dX10_count_c1 36 rfl) F284_68 ?_
      refine r_iconst (v := 1) (dcx dX10_count_c1 37 rfl) rfl ?_
      obtain ⟨hb_, hyp⟩ := hyp
      refine s_zald (dcx dX10_count_c1 38 rfl) A331 hb_ ?_
      refine r_if_eq (tgt := 200) (dcx dX10_count_c1 39 rfl) (by decide) (fun q_ => ?_) (fun q_ => ?_)
      · have hyp := hyp.1 q_
        refine r_iconst (v := 0) (dcx dX10_count_c2 2 rfl) rfl ?_
        refine r_iadd (dcx dX10_count_c2 3 rfl) ?_
        refine r_aload_n (dcx dX10_count_c2 4 rfl) 1 rfl ?_
        refine s_getr (b := 331) fX10_158 (dcx dX10_count_c2 5 rfl) F284_68 ?_
        refine r_iconst (v := 2) (dcx dX10_count_c2 6 rfl) rfl ?_
        obtain ⟨hb_, hyp⟩ := hyp
        refine s_zald (dcx dX10_count_c2 7 rfl) A331 hb_ ?_
        refine r_if_eq (tgt := 215) (dcx dX10_count_c2 8 rfl) (by decide) (fun q_ => ?_) (fun q_ => ?_)
        · have hyp := hyp.1 q_
          refine r_iconst (v := 0) (dcx dX10_count_c2 11 rfl) rfl ?_
          refine r_iadd (dcx dX10_count_c2 12 rfl) ?_
          exact s_ret rfl rfl rfl hyp (dcx dX10_count_c2 13 rfl)
        · have hyp := hyp.2 q_
          refine r_iconst (v := 1) (dcx dX10_count_c2 9 rfl) rfl ?_
          refine r_goto (tgt := 216) (dcx dX10_count_c2 10 rfl) (by decide) ?_
          refine r_iadd (dcx dX10_count_c2 12 rfl) ?_
          exact s_ret rfl rfl rfl hyp (dcx dX10_count_c2 13 rfl)
      · have hyp := hyp.2 q_
        refine r_iconst (v := 1) (dcx dX10_count_c2 0 rfl) rfl ?_
        refine r_goto (tgt := 201) (dcx dX10_count_c2 1 rfl) (by decide) ?_
        refine r_iadd (dcx dX10_count_c2 3 rfl) ?_
        refine r_aload_n (dcx dX10_count_c2 4 rfl) 1 rfl ?_
        refine s_getr (b := 331) fX10_158 (dcx dX10_count_c2 5 rfl) F284_68 ?_
        refine r_iconst (v := 2) (dcx dX10_count_c2 6 rfl) rfl ?_
        obtain ⟨hb_, hyp⟩ := hyp
        refine s_zald (dcx dX10_count_c2 7 rfl) A331 hb_ ?_
        refine r_if_eq (tgt := 215) (dcx dX10_count_c2 8 rfl) (by decide) (fun q_ => ?_) (fun q_ => ?_)
        · have hyp := hyp.1 q_
          refine r_iconst (v := 0) (dcx dX10_count_c2 11 rfl) rfl ?_
          refine r_iadd (dcx dX10_count_c2 12 rfl) ?_
          exact s_ret rfl rfl rfl hyp (dcx dX10_count_c2 13 rfl)
        · have hyp := hyp.2 q_
          refine r_iconst (v := 1) (dcx dX10_count_c2 9 rfl) rfl ?_
          refine r_goto (tgt := 216) (dcx dX10_count_c2 10 rfl) (by decide) ?_
          refine r_iadd (dcx dX10_count_c2 12 rfl) ?_
          exact s_ret rfl rfl rfl hyp (dcx dX10_count_c2 13 rfl)
  have hyp := hyp.2
  by_cases q12_ : x1 = 12
  · have hyp := hyp.1 q12_
    refine r_tableIn (off := 211) (tgt := 218) (dcx dX10_count_c0 5 rfl) (by rw [q12_]; decide) (by rw [q12_]; decide) (by rw [q12_]; decide) (by decide) ?_
    refine r_iconst (v := 0) (dcx dX10_count_c2 14 rfl) rfl ?_
    refine r_istore_n (lv1 := [(3, .int 0), (2, .int 0), (0, .ref 284), (1, .int x1)]) (dcx dX10_count_c2 15 rfl) (Nat.le_of_ble_eq_true rfl) rfl ?_
    refine r_loc (lv1 := [(0, .ref 284), (2, .int 0), (3, .int 0)]) [2, 1, 0] rfl ?_
    exact hyp
  have hyp := hyp.2
  by_cases q13_ : x1 = 13
  · have hyp := hyp.1 q13_
    refine r_tableIn (off := 270) (tgt := 277) (dcx dX10_count_c0 5 rfl) (by rw [q13_]; decide) (by rw [q13_]; decide) (by rw [q13_]; decide) (by decide) ?_
    refine r_aload_n (dcx dX10_count_c3 4 rfl) 1 rfl ?_
    refine s_getr (b := 304) fX10_77 (dcx dX10_count_c3 5 rfl) F284_33 ?_
    refine r_aload_n (dcx dX10_count_c3 6 rfl) 1 rfl ?_
    refine s_geti fX10_245 (dcx dX10_count_c3 7 rfl) F284_18 ?_
    obtain ⟨hb_, hyp⟩ := hyp
    refine s_iald (dcx dX10_count_c3 8 rfl) A304 hb_ ?_
    exact s_ret rfl rfl rfl hyp (dcx dX10_count_c3 9 rfl)
  have hyp := hyp.2
  have hyp := hyp q0_ q1_ q2_ q3_ q4_ q5_ q6_ q7_ q8_ q9_ q10_ q11_ q12_ q13_
  refine r_tableOut (tgt := 287) (dcx dX10_count_c0 5 rfl) (by have t0_ := lv_neT (a := 0) q0_ (by decide); have t1_ := lv_neT (a := 1) q1_ (by decide); have t2_ := lv_neT (a := 2) q2_ (by decide); have t3_ := lv_neT (a := 3) q3_ (by decide); have t4_ := lv_neT (a := 4) q4_ (by decide); have t5_ := lv_neT (a := 5) q5_ (by decide); have t6_ := lv_neT (a := 6) q6_ (by decide); have t7_ := lv_neT (a := 7) q7_ (by decide); have t8_ := lv_neT (a := 8) q8_ (by decide); have t9_ := lv_neT (a := 9) q9_ (by decide); have t10_ := lv_neT (a := 10) q10_ (by decide); have t11_ := lv_neT (a := 11) q11_ (by decide); have t12_ := lv_neT (a := 12) q12_ (by decide); have t13_ := lv_neT (a := 13) q13_ (by decide); omega) (by decide) ?_
  refine r_iconst (v := (-1)) (dcx dX10_count_c3 10 rfl) rfl ?_
  exact s_ret rfl rfl rfl hyp (dcx dX10_count_c3 11 rfl)
set_option maxHeartbeats 4000000 in
set_option maxRecDepth 20000 in
theorem tX10_count_128 {Γ : GE} {l : Launch} {x2 : Int32} {x3 : Int32} {σ : SS} {K : Option Value → SS → Prop}  (hyp : ((4 : Int32) ≤ x3 → (K (some (.int x2)) σ)) ∧ (¬ ((4 : Int32) ≤ x3) → (vp_in (96 + x3) 106 ∧ (wX10_count_128 Γ l (x2 + (σ.1 322 (Int32.toNatClampNeg (96 + x3)))) (x3 + 1) σ K)))) : wX10_count_128 Γ l x2 x3 σ K := by
  show G2 Γ l mX10_count 128 [(0, .ref 284), (2, .int x2), (3, .int x3)] [] σ K
  refine r_iload_n (dcx dX10_count_c0 39 rfl) 2 rfl ?_
  refine r_iconst (v := 4) (dcx dX10_count_c1 0 rfl) rfl ?_
  refine r_icmp_ge (tgt := 151) (dcx dX10_count_c1 1 rfl) (by decide) (fun q_ => ?_) (fun q_ => ?_)
  · have hyp := hyp.1 q_
    refine r_iload_n (dcx dX10_count_c1 13 rfl) 1 rfl ?_
    exact s_ret rfl rfl rfl hyp (dcx dX10_count_c1 14 rfl)
  · have hyp := hyp.2 q_
    refine r_iload_n (dcx dX10_count_c1 2 rfl) 1 rfl ?_
    refine r_aload_n (dcx dX10_count_c1 3 rfl) 0 rfl ?_
    refine s_getr (b := 322) fX10_131 (dcx dX10_count_c1 4 rfl) F284_55 ?_
    refine r_bipush (v := 96) (dcx dX10_count_c1 5 rfl) rfl ?_
    refine r_iload_n (dcx dX10_count_c1 6 rfl) 2 rfl ?_
    refine r_iadd (dcx dX10_count_c1 7 rfl) ?_
    obtain ⟨hb_, hyp⟩ := hyp
    refine s_iald (dcx dX10_count_c1 8 rfl) A322 hb_ ?_
    refine r_iadd (dcx dX10_count_c1 9 rfl) ?_
    refine r_istore_n (lv1 := [(2, .int (x2 + (σ.1 322 (Int32.toNatClampNeg (96 + x3))))), (0, .ref 284), (3, .int x3)]) (dcx dX10_count_c1 10 rfl) (Nat.le_of_ble_eq_true rfl) rfl ?_
    refine r_iinc (lv1 := [(3, .int (x3 + 1)), (2, .int (x2 + (σ.1 322 (Int32.toNatClampNeg (96 + x3))))), (0, .ref 284)]) (dcx dX10_count_c1 11 rfl) 2 rfl (Nat.le_of_ble_eq_true rfl) rfl ?_
    refine r_goto (tgt := 128) (dcx dX10_count_c1 12 rfl) (by decide) ?_
    refine r_loc (lv1 := [(0, .ref 284), (2, .int (x2 + (σ.1 322 (Int32.toNatClampNeg (96 + x3))))), (3, .int (x3 + 1))]) [2, 1, 0] rfl ?_
    exact hyp
set_option maxHeartbeats 4000000 in
set_option maxRecDepth 20000 in
theorem tX10_count_220 {Γ : GE} {l : Launch} {x2 : Int32} {x3 : Int32} {σ : SS} {K : Option Value → SS → Prop}  (hyp : vp_in (σ.1 284 18) 2 ∧ (((σ.1 295 (Int32.toNatClampNeg (σ.1 284 18))) ≤ x3 → (K (some (.int x2)) σ)) ∧ (¬ ((σ.1 295 (Int32.toNatClampNeg (σ.1 284 18))) ≤ x3) → (wX10_count_236 Γ l x2 x3 0 σ K)))) : wX10_count_220 Γ l x2 x3 σ K := by
  show G2 Γ l mX10_count 220 [(0, .ref 284), (2, .int x2), (3, .int x3)] [] σ K
  refine r_iload_n (dcx dX10_count_c2 16 rfl) 2 rfl ?_
  refine r_aload_n (dcx dX10_count_c2 17 rfl) 0 rfl ?_
  refine s_getr (b := 295) fX10_49 (dcx dX10_count_c2 18 rfl) F284_24 ?_
  refine r_aload_n (dcx dX10_count_c2 19 rfl) 0 rfl ?_
  refine s_geti fX10_245 (dcx dX10_count_c2 20 rfl) F284_18 ?_
  obtain ⟨hb_, hyp⟩ := hyp
  refine s_iald (dcx dX10_count_c2 21 rfl) A295 hb_ ?_
  refine r_icmp_ge (tgt := 275) (dcx dX10_count_c2 22 rfl) (by decide) (fun q_ => ?_) (fun q_ => ?_)
  · have hyp := hyp.1 q_
    refine r_iload_n (dcx dX10_count_c3 2 rfl) 1 rfl ?_
    exact s_ret rfl rfl rfl hyp (dcx dX10_count_c3 3 rfl)
  · have hyp := hyp.2 q_
    refine r_iconst (v := 0) (dcx dX10_count_c2 23 rfl) rfl ?_
    refine r_istore (lv1 := [(4, .int 0), (0, .ref 284), (2, .int x2), (3, .int x3)]) (dcx dX10_count_c2 24 rfl) (Nat.le_of_ble_eq_true rfl) rfl ?_
    refine r_loc (lv1 := [(0, .ref 284), (2, .int x2), (3, .int x3), (4, .int 0)]) [1, 2, 3, 0] rfl ?_
    exact hyp
set_option maxHeartbeats 4000000 in
set_option maxRecDepth 20000 in
theorem tX10_count_236 {Γ : GE} {l : Launch} {x2 : Int32} {x3 : Int32} {x4 : Int32} {σ : SS} {K : Option Value → SS → Prop}  (hyp : vp_in (σ.1 284 18) 2 ∧ (((σ.1 294 (Int32.toNatClampNeg (σ.1 284 18))) ≤ x4 → (wX10_count_220 Γ l x2 (x3 + 1) σ K)) ∧ (¬ ((σ.1 294 (Int32.toNatClampNeg (σ.1 284 18))) ≤ x4) → (C2 Γ l mX10_isGrass [.ref 284, .int x4, .int x3] σ (Ri fun r2_ s1_ => ((r2_ = 0 → (wX10_count_263 Γ l x2 x3 x4 s1_ K)) ∧ (¬ (r2_ = 0) → (wX10_count_263 Γ l (x2 + 1) x3 x4 s1_ K)))))))) : wX10_count_236 Γ l x2 x3 x4 σ K := by
  show G2 Γ l mX10_count 236 [(0, .ref 284), (2, .int x2), (3, .int x3), (4, .int x4)] [] σ K
  refine r_iload (dcx dX10_count_c2 25 rfl) 3 rfl ?_
  refine r_aload_n (dcx dX10_count_c2 26 rfl) 0 rfl ?_
  refine s_getr (b := 294) fX10_46 (dcx dX10_count_c2 27 rfl) F284_23 ?_
  refine r_aload_n (dcx dX10_count_c2 28 rfl) 0 rfl ?_
  refine s_geti fX10_245 (dcx dX10_count_c2 29 rfl) F284_18 ?_
  obtain ⟨hb_, hyp⟩ := hyp
  refine s_iald (dcx dX10_count_c2 30 rfl) A294 hb_ ?_
  refine r_icmp_ge (tgt := 269) (dcx dX10_count_c2 31 rfl) (by decide) (fun q_ => ?_) (fun q_ => ?_)
  · have hyp := hyp.1 q_
    refine r_iinc (lv1 := [(3, .int (x3 + 1)), (0, .ref 284), (2, .int x2), (4, .int x4)]) (dcx dX10_count_c3 0 rfl) 2 rfl (Nat.le_of_ble_eq_true rfl) rfl ?_
    refine r_goto (tgt := 220) (dcx dX10_count_c3 1 rfl) (by decide) ?_
    refine r_loc (lv1 := [(0, .ref 284), (2, .int x2), (3, .int (x3 + 1))]) [1, 2, 0] rfl ?_
    exact hyp
  · have hyp := hyp.2 q_
    refine r_aload_n (dcx dX10_count_c2 32 rfl) 0 rfl ?_
    refine r_iload (dcx dX10_count_c2 33 rfl) 3 rfl ?_
    refine r_iload_n (dcx dX10_count_c2 34 rfl) 2 rfl ?_
    refine s_callV (as := [.int x4, .int x3]) (st := []) zX10_isGrass kX10_count_347 (dcx dX10_count_c2 35 rfl) rfl rfl (Nat.le_of_ble_eq_true rfl) O284 rfl rfl (C2.mono hyp ?_)
    rintro _ s1_ ⟨r2_, rfl, hyp⟩
    show G2 Γ l mX10_count 257 [(0, .ref 284), (2, .int x2), (3, .int x3), (4, .int x4)] [.int r2_] s1_ K
    refine r_if_eq (tgt := 263) (dcx dX10_count_c2 36 rfl) (by decide) (fun q_ => ?_) (fun q_ => ?_)
    · have hyp := hyp.1 q_
      refine r_loc (lv1 := [(0, .ref 284), (2, .int x2), (3, .int x3), (4, .int x4)]) [0, 1, 2, 3] rfl ?_
      exact hyp
    · have hyp := hyp.2 q_
      refine r_iinc (lv1 := [(2, .int (x2 + 1)), (0, .ref 284), (3, .int x3), (4, .int x4)]) (dcx dX10_count_c2 37 rfl) 1 rfl (Nat.le_of_ble_eq_true rfl) rfl ?_
      refine r_loc (lv1 := [(0, .ref 284), (2, .int (x2 + 1)), (3, .int x3), (4, .int x4)]) [1, 0, 2, 3] rfl ?_
      exact hyp
set_option maxHeartbeats 4000000 in
set_option maxRecDepth 20000 in
theorem tX10_count_263 {Γ : GE} {l : Launch} {x2 : Int32} {x3 : Int32} {x4 : Int32} {σ : SS} {K : Option Value → SS → Prop}  (hyp : wX10_count_236 Γ l x2 x3 (x4 + 1) σ K) : wX10_count_263 Γ l x2 x3 x4 σ K := by
  show G2 Γ l mX10_count 263 [(0, .ref 284), (2, .int x2), (3, .int x3), (4, .int x4)] [] σ K
  refine r_iinc (lv1 := [(4, .int (x4 + 1)), (0, .ref 284), (2, .int x2), (3, .int x3)]) (dcx dX10_count_c2 38 rfl) 3 rfl (Nat.le_of_ble_eq_true rfl) rfl ?_
  refine r_goto (tgt := 236) (dcx dX10_count_c2 39 rfl) (by decide) ?_
  refine r_loc (lv1 := [(0, .ref 284), (2, .int x2), (3, .int x3), (4, .int (x4 + 1))]) [1, 2, 3, 0] rfl ?_
  exact hyp
