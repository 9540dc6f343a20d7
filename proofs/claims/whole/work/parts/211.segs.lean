def wX10_read_10 (Γ : GE) (l : Launch) (x1 : Int32) (σ : SS) (K : Option Value → SS → Prop) : Prop := G2 Γ l mX10_read 10 [(0, .ref 284), (1, .int x1)] [] σ K
def wX10_read_112 (Γ : GE) (l : Launch)  (σ : SS) (K : Option Value → SS → Prop) : Prop := G2 Γ l mX10_read 112 [(0, .ref 284)] [] σ K
def wX10_read_134 (Γ : GE) (l : Launch)  (σ : SS) (K : Option Value → SS → Prop) : Prop := G2 Γ l mX10_read 134 [(0, .ref 284)] [] σ K
def wX10_read_219 (Γ : GE) (l : Launch) (x1 : Int32) (σ : SS) (K : Option Value → SS → Prop) : Prop := G2 Γ l mX10_read 219 [(0, .ref 284), (1, .int x1)] [] σ K
set_option maxHeartbeats 4000000 in
set_option maxRecDepth 20000 in
theorem tX10_read {Γ : GE} {l : Launch}  {σ : SS} {K : Option Value → SS → Prop}  (hyp : ∀ s1_ : SS, s1_ = sI σ 284 4 (σ.1 284 2) → (wX10_read_10 Γ l 0 s1_ K)) : C2 Γ l mX10_read [.ref 284] σ K := by
  refine c2_of (lv := [(0, .ref 284)]) (by decide) (Nat.le_of_ble_eq_true rfl) rfl ?_
  refine r_aload_n (dcx dX10_read_c0 0 rfl) 0 rfl ?_
  refine r_aload_n (dcx dX10_read_c0 1 rfl) 0 rfl ?_
  refine s_geti fX10_178 (dcx dX10_read_c0 2 rfl) F284_2 ?_
  refine s_puti gX10_184 (dcx dX10_read_c0 3 rfl) F284_4 ?_
  obtain ⟨s1_, es1_⟩ : ∃ z : SS, z = sI σ 284 4 (σ.1 284 2) := ⟨_, rfl⟩
  rw [← es1_]
  have hyp := hyp s1_ es1_
  refine r_iconst (v := 0) (dcx dX10_read_c0 4 rfl) rfl ?_
  refine r_istore_n (lv1 := [(1, .int 0), (0, .ref 284)]) (dcx dX10_read_c0 5 rfl) (Nat.le_of_ble_eq_true rfl) rfl ?_
  refine r_loc (lv1 := [(0, .ref 284), (1, .int 0)]) [1, 0] rfl ?_
  exact hyp
set_option maxHeartbeats 4000000 in
set_option maxRecDepth 20000 in
theorem tX10_read_10 {Γ : GE} {l : Launch} {x1 : Int32} {σ : SS} {K : Option Value → SS → Prop}  (hyp : ((σ.1 284 4) ≤ x1 → (∀ s1_ : SS, s1_ = sI σ 284 2 0 → (C2 Γ l mX10_cutsUp [.ref 284] s1_ (Rv fun s2_ => (∀ s4_ : SS, s4_ = sI s2_ 284 11 0 → (∀ s5_ : SS, s5_ = sI s4_ 284 12 0 → (∀ s6_ : SS, s6_ = sI s5_ 284 13 0 → (∀ s7_ : SS, s7_ = sI s6_ 284 15 0 → (∀ s8_ : SS, s8_ = sI s7_ 284 19 (1 - (s7_.1 284 18)) → (∀ s9_ : SS, s9_ = sI s8_ 284 20 0 → (C2 Γ l mX10_plain [.ref 284, .int (s9_.1 284 19)] s9_ (Rv fun s10_ => (∀ s12_ : SS, s12_ = sI s10_ 284 40 (130 * (s10_.1 284 19)) → (∀ s13_ : SS, s13_ = sI s12_ 284 46 (420 * (s12_.1 284 19)) → (wX10_read_112 Γ l  s13_ K))))))))))))))) ∧ (¬ ((σ.1 284 4) ≤ x1) → (vp_in x1 2000 ∧ (vp_in x1 2000 ∧ (∀ s14_ : SS, s14_ = sI σ 286 (Int32.toNatClampNeg x1) (vp_nar .byte (σ.1 285 (Int32.toNatClampNeg x1))) → (wX10_read_10 Γ l (x1 + 1) s14_ K)))))) : wX10_read_10 Γ l x1 σ K := by
  show G2 Γ l mX10_read 10 [(0, .ref 284), (1, .int x1)] [] σ K
  refine r_iload_n (dcx dX10_read_c0 6 rfl) 1 rfl ?_
  refine r_aload_n (dcx dX10_read_c0 7 rfl) 0 rfl ?_
  refine s_geti fX10_184 (dcx dX10_read_c0 8 rfl) F284_4 ?_
  refine r_icmp_ge (tgt := 36) (dcx dX10_read_c0 9 rfl) (by decide) (fun q_ => ?_) (fun q_ => ?_)
  · have hyp := hyp.1 q_
    refine r_aload_n (dcx dX10_read_c0 20 rfl) 0 rfl ?_
    refine r_iconst (v := 0) (dcx dX10_read_c0 21 rfl) rfl ?_
    refine s_puti gX10_178 (dcx dX10_read_c0 22 rfl) F284_2 ?_
    obtain ⟨s1_, es1_⟩ : ∃ z : SS, z = sI σ 284 2 0 := ⟨_, rfl⟩
    rw [← es1_]
    have hyp := hyp s1_ es1_
    refine r_aload_n (dcx dX10_read_c0 23 rfl) 0 rfl ?_
    refine s_callV (as := []) (st := []) zX10_cutsUp kX10_read_239 (dcx dX10_read_c0 24 rfl) rfl rfl (Nat.le_of_ble_eq_true rfl) O284 rfl rfl (C2.mono hyp ?_)
    rintro _ s2_ ⟨rfl, hyp⟩
    show G2 Γ l mX10_read 45 [(0, .ref 284), (1, .int x1)] [] s2_ K
    refine r_aload_n (dcx dX10_read_c0 25 rfl) 0 rfl ?_
    refine r_iconst (v := 0) (dcx dX10_read_c0 26 rfl) rfl ?_
    refine s_puti gX10_218 (dcx dX10_read_c0 27 rfl) F284_11 ?_
    obtain ⟨s4_, es4_⟩ : ∃ z : SS, z = sI s2_ 284 11 0 := ⟨_, rfl⟩
    rw [← es4_]
    have hyp := hyp s4_ es4_
    refine r_aload_n (dcx dX10_read_c0 28 rfl) 0 rfl ?_
    refine r_iconst (v := 0) (dcx dX10_read_c0 29 rfl) rfl ?_
    refine s_puti gX10_242 (dcx dX10_read_c0 30 rfl) F284_12 ?_
    obtain ⟨s5_, es5_⟩ : ∃ z : SS, z = sI s4_ 284 12 0 := ⟨_, rfl⟩
    rw [← es5_]
    have hyp := hyp s5_ es5_
    refine r_aload_n (dcx dX10_read_c0 31 rfl) 0 rfl ?_
    refine r_iconst (v := 0) (dcx dX10_read_c0 32 rfl) rfl ?_
    refine s_puti gX10_215 (dcx dX10_read_c0 33 rfl) F284_13 ?_
    obtain ⟨s6_, es6_⟩ : ∃ z : SS, z = sI s5_ 284 13 0 := ⟨_, rfl⟩
    rw [← es6_]
    have hyp := hyp s6_ es6_
    refine r_aload_n (dcx dX10_read_c0 34 rfl) 0 rfl ?_
    refine r_iconst (v := 0) (dcx dX10_read_c0 35 rfl) rfl ?_
    refine s_puti gX10_224 (dcx dX10_read_c0 36 rfl) F284_15 ?_
    obtain ⟨s7_, es7_⟩ : ∃ z : SS, z = sI s6_ 284 15 0 := ⟨_, rfl⟩
    rw [← es7_]
    have hyp := hyp s7_ es7_
    refine r_aload_n (dcx dX10_read_c0 37 rfl) 0 rfl ?_
    refine r_iconst (v := 1) (dcx dX10_read_c0 38 rfl) rfl ?_
    refine r_aload_n (dcx dX10_read_c0 39 rfl) 0 rfl ?_
    refine s_geti fX10_245 (dcx dX10_read_c1 0 rfl) F284_18 ?_
    refine r_isub (dcx dX10_read_c1 1 rfl) ?_
    refine s_puti gX10_248 (dcx dX10_read_c1 2 rfl) F284_19 ?_
    obtain ⟨s8_, es8_⟩ : ∃ z : SS, z = sI s7_ 284 19 (1 - (s7_.1 284 18)) := ⟨_, rfl⟩
    rw [← es8_]
    have hyp := hyp s8_ es8_
    refine r_aload_n (dcx dX10_read_c1 3 rfl) 0 rfl ?_
    refine r_iconst (v := 0) (dcx dX10_read_c1 4 rfl) rfl ?_
    refine s_puti gX10_251 (dcx dX10_read_c1 5 rfl) F284_20 ?_
    obtain ⟨s9_, es9_⟩ : ∃ z : SS, z = sI s8_ 284 20 0 := ⟨_, rfl⟩
    rw [← es9_]
    have hyp := hyp s9_ es9_
    refine r_aload_n (dcx dX10_read_c1 6 rfl) 0 rfl ?_
    refine r_aload_n (dcx dX10_read_c1 7 rfl) 0 rfl ?_
    refine s_geti fX10_248 (dcx dX10_read_c1 8 rfl) F284_19 ?_
    refine s_callV (as := [.int (s9_.1 284 19)]) (st := []) zX10_plain kX10_read_164 (dcx dX10_read_c1 9 rfl) rfl rfl (Nat.le_of_ble_eq_true rfl) O284 rfl rfl (C2.mono hyp ?_)
    rintro _ s10_ ⟨rfl, hyp⟩
    show G2 Γ l mX10_read 88 [(0, .ref 284), (1, .int x1)] [] s10_ K
    refine r_aload_n (dcx dX10_read_c1 10 rfl) 0 rfl ?_
    refine r_sipush (v := 130) (dcx dX10_read_c1 11 rfl) rfl ?_
    refine r_aload_n (dcx dX10_read_c1 12 rfl) 0 rfl ?_
    refine s_geti fX10_248 (dcx dX10_read_c1 13 rfl) F284_19 ?_
    refine r_imul (dcx dX10_read_c1 14 rfl) ?_
    refine s_puti gX10_254 (dcx dX10_read_c1 15 rfl) F284_40 ?_
    obtain ⟨s12_, es12_⟩ : ∃ z : SS, z = sI s10_ 284 40 (130 * (s10_.1 284 19)) := ⟨_, rfl⟩
    rw [← es12_]
    have hyp := hyp s12_ es12_
    refine r_aload_n (dcx dX10_read_c1 16 rfl) 0 rfl ?_
    refine r_sipush (v := 420) (dcx dX10_read_c1 17 rfl) rfl ?_
    refine r_aload_n (dcx dX10_read_c1 18 rfl) 0 rfl ?_
    refine s_geti fX10_248 (dcx dX10_read_c1 19 rfl) F284_19 ?_
    refine r_imul (dcx dX10_read_c1 20 rfl) ?_
    refine s_puti gX10_257 (dcx dX10_read_c1 21 rfl) F284_46 ?_
    obtain ⟨s13_, es13_⟩ : ∃ z : SS, z = sI s12_ 284 46 (420 * (s12_.1 284 19)) := ⟨_, rfl⟩
    rw [← es13_]
    have hyp := hyp s13_ es13_
    refine r_loc (lv1 := [(0, .ref 284)]) [0] rfl ?_
    exact hyp
  · have hyp := hyp.2 q_
    refine r_aload_n (dcx dX10_read_c0 10 rfl) 0 rfl ?_
    refine s_getr (b := 286) fX10_17 (dcx dX10_read_c0 11 rfl) F284_3 ?_
    refine r_iload_n (dcx dX10_read_c0 12 rfl) 1 rfl ?_
    refine r_aload_n (dcx dX10_read_c0 13 rfl) 0 rfl ?_
    refine s_getr (b := 285) fX10_13 (dcx dX10_read_c0 14 rfl) F284_1 ?_
    refine r_iload_n (dcx dX10_read_c0 15 rfl) 1 rfl ?_
    obtain ⟨hb_, hyp⟩ := hyp
    refine s_bald (dcx dX10_read_c0 16 rfl) A285 hb_ ?_
    obtain ⟨hb_, hyp⟩ := hyp
    refine s_bast (dcx dX10_read_c0 17 rfl) A286 hb_ ?_
    obtain ⟨s14_, es14_⟩ : ∃ z : SS, z = sI σ 286 (Int32.toNatClampNeg x1) (vp_nar .byte (σ.1 285 (Int32.toNatClampNeg x1))) := ⟨_, rfl⟩
    rw [← es14_]
    have hyp := hyp s14_ es14_
    refine r_iinc (lv1 := [(1, .int (x1 + 1)), (0, .ref 284)]) (dcx dX10_read_c0 18 rfl) 1 rfl (Nat.le_of_ble_eq_true rfl) rfl ?_
    refine r_goto (tgt := 10) (dcx dX10_read_c0 19 rfl) (by decide) ?_
    refine r_loc (lv1 := [(0, .ref 284), (1, .int (x1 + 1))]) [1, 0] rfl ?_
    exact hyp
set_option maxHeartbeats 4000000 in
set_option maxRecDepth 20000 in
theorem tX10_read_112 {Γ : GE} {l : Launch}  {σ : SS} {K : Option Value → SS → Prop}  (hyp : (¬ (σ.1 284 13) = 0 → (wX10_read_134 Γ l  σ K)) ∧ ((σ.1 284 13) = 0 → (C2 Γ l mX10_is [.ref 284, .int 0] σ (Ri fun r2_ s1_ => ((¬ r2_ = 0 → (wX10_read_134 Γ l  s1_ K)) ∧ (r2_ = 0 → (C2 Γ l mX10_tellOne [.ref 284] s1_ (Rv fun s3_ => (wX10_read_112 Γ l  s3_ K))))))))) : wX10_read_112 Γ l  σ K := by
  show G2 Γ l mX10_read 112 [(0, .ref 284)] [] σ K
  refine r_aload_n (dcx dX10_read_c1 22 rfl) 0 rfl ?_
  refine s_geti fX10_215 (dcx dX10_read_c1 23 rfl) F284_13 ?_
  refine r_if_ne (tgt := 134) (dcx dX10_read_c1 24 rfl) (by decide) (fun q_ => ?_) (fun q_ => ?_)
  · have hyp := hyp.1 q_
    refine r_loc (lv1 := [(0, .ref 284)]) [0] rfl ?_
    exact hyp
  · have hyp := hyp.2 q_
    refine r_aload_n (dcx dX10_read_c1 25 rfl) 0 rfl ?_
    refine r_iconst (v := 0) (dcx dX10_read_c1 26 rfl) rfl ?_
    refine s_callV (as := [.int 0]) (st := []) zX10_is kX10_read_233 (dcx dX10_read_c1 27 rfl) rfl rfl (Nat.le_of_ble_eq_true rfl) O284 rfl rfl (C2.mono hyp ?_)
    rintro _ s1_ ⟨r2_, rfl, hyp⟩
    show G2 Γ l mX10_read 124 [(0, .ref 284)] [.int r2_] s1_ K
    refine r_if_ne (tgt := 134) (dcx dX10_read_c1 28 rfl) (by decide) (fun q_ => ?_) (fun q_ => ?_)
    · have hyp := hyp.1 q_
      refine r_loc (lv1 := [(0, .ref 284)]) [0] rfl ?_
      exact hyp
    · have hyp := hyp.2 q_
      refine r_aload_n (dcx dX10_read_c1 29 rfl) 0 rfl ?_
      refine s_callV (as := []) (st := []) zX10_tellOne kX10_read_260 (dcx dX10_read_c1 30 rfl) rfl rfl (Nat.le_of_ble_eq_true rfl) O284 rfl rfl (C2.mono hyp ?_)
      rintro _ s3_ ⟨rfl, hyp⟩
      show G2 Γ l mX10_read 131 [(0, .ref 284)] [] s3_ K
      refine r_goto (tgt := 112) (dcx dX10_read_c1 31 rfl) (by decide) ?_
      refine r_loc (lv1 := [(0, .ref 284)]) [0] rfl ?_
      exact hyp
set_option maxHeartbeats 4000000 in
set_option maxRecDepth 20000 in
theorem tX10_read_134 {Γ : GE} {l : Launch}  {σ : SS} {K : Option Value → SS → Prop}  (hyp : ((σ.1 284 13) ≤ 0 → (((σ.1 284 15) ≤ 0 → (∀ s1_ : SS, s1_ = sI σ 284 17 ((-1)) → (((s1_.1 284 13) ≤ 0 → (((s1_.1 284 15) ≤ 0 → (∀ s2_ : SS, s2_ = sI s1_ 284 18 (s1_.1 284 19) → (C2 Γ l mX10_begins [.ref 284] s2_ (Rv fun s3_ => (C2 Γ l mX10_keepsRow [.ref 284] s3_ (Rv fun s5_ => (∀ s7_ : SS, s7_ = sI s5_ 284 59 0 → (∀ s8_ : SS, s8_ = sI s7_ 284 61 0 → (wX10_read_219 Γ l 0 s8_ K))))))))) ∧ (¬ ((s1_.1 284 15) ≤ 0) → (K (some (.int (s1_.1 284 15))) s1_)))) ∧ (¬ ((s1_.1 284 13) ≤ 0) → (K (some (.int (s1_.1 284 13))) s1_))))) ∧ (¬ ((σ.1 284 15) ≤ 0) → (∀ s9_ : SS, s9_ = sI σ 284 17 (σ.1 284 16) → (((s9_.1 284 13) ≤ 0 → (((s9_.1 284 15) ≤ 0 → (∀ s10_ : SS, s10_ = sI s9_ 284 18 (s9_.1 284 19) → (C2 Γ l mX10_begins [.ref 284] s10_ (Rv fun s11_ => (C2 Γ l mX10_keepsRow [.ref 284] s11_ (Rv fun s13_ => (∀ s15_ : SS, s15_ = sI s13_ 284 59 0 → (∀ s16_ : SS, s16_ = sI s15_ 284 61 0 → (wX10_read_219 Γ l 0 s16_ K))))))))) ∧ (¬ ((s9_.1 284 15) ≤ 0) → (K (some (.int (s9_.1 284 15))) s9_)))) ∧ (¬ ((s9_.1 284 13) ≤ 0) → (K (some (.int (s9_.1 284 13))) s9_))))))) ∧ (¬ ((σ.1 284 13) ≤ 0) → (∀ s17_ : SS, s17_ = sI σ 284 17 (σ.1 284 14) → (((s17_.1 284 13) ≤ 0 → (((s17_.1 284 15) ≤ 0 → (∀ s18_ : SS, s18_ = sI s17_ 284 18 (s17_.1 284 19) → (C2 Γ l mX10_begins [.ref 284] s18_ (Rv fun s19_ => (C2 Γ l mX10_keepsRow [.ref 284] s19_ (Rv fun s21_ => (∀ s23_ : SS, s23_ = sI s21_ 284 59 0 → (∀ s24_ : SS, s24_ = sI s23_ 284 61 0 → (wX10_read_219 Γ l 0 s24_ K))))))))) ∧ (¬ ((s17_.1 284 15) ≤ 0) → (K (some (.int (s17_.1 284 15))) s17_)))) ∧ (¬ ((s17_.1 284 13) ≤ 0) → (K (some (.int (s17_.1 284 13))) s17_)))))) : wX10_read_134 Γ l  σ K := by
  show G2 Γ l mX10_read 134 [(0, .ref 284)] [] σ K
  refine r_aload_n (dcx dX10_read_c1 32 rfl) 0 rfl ?_
  refine r_aload_n (dcx dX10_read_c1 33 rfl) 0 rfl ?_
  refine s_geti fX10_215 (dcx dX10_read_c1 34 rfl) F284_13 ?_
  refine r_if_le (tgt := 149) (dcx dX10_read_c1 35 rfl) (by decide) (fun q_ => ?_) (fun q_ => ?_)
  · have hyp := hyp.1 q_
    refine r_aload_n (dcx dX10_read_c1 39 rfl) 0 rfl ?_
    refine s_geti fX10_224 (dcx dX10_read_c2 0 rfl) F284_15 ?_
    refine r_if_le (tgt := 163) (dcx dX10_read_c2 1 rfl) (by decide) (fun q_ => ?_) (fun q_ => ?_)
    · have hyp := hyp.1 q_
      refine r_iconst (v := (-1)) (dcx dX10_read_c2 5 rfl) rfl ?_
      refine s_puti gX10_37 (dcx dX10_read_c2 6 rfl) F284_17 ?_
      obtain ⟨s1_, es1_⟩ : ∃ z : SS, z = sI σ 284 17 ((-1)) := ⟨_, rfl⟩
      rw [← es1_]
      have hyp := hyp s1_ es1_
      refine r_aload_n (dcx dX10_read_c2 7 rfl) 0 rfl ?_
      refine s_geti fX10_215 (dcx dX10_read_c2 8 rfl) F284_13 ?_
      refine r_if_le (tgt := 179) (dcx dX10_read_c2 9 rfl) (by decide) (fun q_ => ?_) (fun q_ => ?_)
      · have hyp := hyp.1 q_
        refine r_aload_n (dcx dX10_read_c2 13 rfl) 0 rfl ?_
        refine s_geti fX10_224 (dcx dX10_read_c2 14 rfl) F284_15 ?_
        refine r_if_le (tgt := 191) (dcx dX10_read_c2 15 rfl) (by decide) (fun q_ => ?_) (fun q_ => ?_)
        · have hyp := hyp.1 q_
          refine r_aload_n (dcx dX10_read_c2 19 rfl) 0 rfl ?_
          refine r_aload_n (dcx dX10_read_c2 20 rfl) 0 rfl ?_
          refine s_geti fX10_248 (dcx dX10_read_c2 21 rfl) F284_19 ?_
          refine s_puti gX10_245 (dcx dX10_read_c2 22 rfl) F284_18 ?_
          obtain ⟨s2_, es2_⟩ : ∃ z : SS, z = sI s1_ 284 18 (s1_.1 284 19) := ⟨_, rfl⟩
          rw [← es2_]
          have hyp := hyp s2_ es2_
          refine r_aload_n (dcx dX10_read_c2 23 rfl) 0 rfl ?_
          refine s_callV (as := []) (st := []) zX10_begins kX10_read_172 (dcx dX10_read_c2 24 rfl) rfl rfl (Nat.le_of_ble_eq_true rfl) O284 rfl rfl (C2.mono hyp ?_)
          rintro _ s3_ ⟨rfl, hyp⟩
          show G2 Γ l mX10_read 203 [(0, .ref 284)] [] s3_ K
          refine r_aload_n (dcx dX10_read_c2 25 rfl) 0 rfl ?_
          refine s_callV (as := []) (st := []) zX10_keepsRow kX10_read_175 (dcx dX10_read_c2 26 rfl) rfl rfl (Nat.le_of_ble_eq_true rfl) O284 rfl rfl (C2.mono hyp ?_)
          rintro _ s5_ ⟨rfl, hyp⟩
          show G2 Γ l mX10_read 207 [(0, .ref 284)] [] s5_ K
          refine r_aload_n (dcx dX10_read_c2 27 rfl) 0 rfl ?_
          refine r_iconst (v := 0) (dcx dX10_read_c2 28 rfl) rfl ?_
          refine s_puti gX10_263 (dcx dX10_read_c2 29 rfl) F284_59 ?_
          obtain ⟨s7_, es7_⟩ : ∃ z : SS, z = sI s5_ 284 59 0 := ⟨_, rfl⟩
          rw [← es7_]
          have hyp := hyp s7_ es7_
          refine r_aload_n (dcx dX10_read_c2 30 rfl) 0 rfl ?_
          refine r_iconst (v := 0) (dcx dX10_read_c2 31 rfl) rfl ?_
          refine s_puti gX10_266 (dcx dX10_read_c2 32 rfl) F284_61 ?_
          obtain ⟨s8_, es8_⟩ : ∃ z : SS, z = sI s7_ 284 61 0 := ⟨_, rfl⟩
          rw [← es8_]
          have hyp := hyp s8_ es8_
          refine r_iconst (v := 0) (dcx dX10_read_c2 33 rfl) rfl ?_
          refine r_istore_n (lv1 := [(1, .int 0), (0, .ref 284)]) (dcx dX10_read_c2 34 rfl) (Nat.le_of_ble_eq_true rfl) rfl ?_
          refine r_loc (lv1 := [(0, .ref 284), (1, .int 0)]) [1, 0] rfl ?_
          exact hyp
        · have hyp := hyp.2 q_
          refine r_aload_n (dcx dX10_read_c2 16 rfl) 0 rfl ?_
          refine s_geti fX10_224 (dcx dX10_read_c2 17 rfl) F284_15 ?_
          exact s_ret rfl rfl rfl hyp (dcx dX10_read_c2 18 rfl)
      · have hyp := hyp.2 q_
        refine r_aload_n (dcx dX10_read_c2 10 rfl) 0 rfl ?_
        refine s_geti fX10_215 (dcx dX10_read_c2 11 rfl) F284_13 ?_
        exact s_ret rfl rfl rfl hyp (dcx dX10_read_c2 12 rfl)
    · have hyp := hyp.2 q_
      refine r_aload_n (dcx dX10_read_c2 2 rfl) 0 rfl ?_
      refine s_geti fX10_227 (dcx dX10_read_c2 3 rfl) F284_16 ?_
      refine r_goto (tgt := 164) (dcx dX10_read_c2 4 rfl) (by decide) ?_
      refine s_puti gX10_37 (dcx dX10_read_c2 6 rfl) F284_17 ?_
      obtain ⟨s9_, es9_⟩ : ∃ z : SS, z = sI σ 284 17 (σ.1 284 16) := ⟨_, rfl⟩
      rw [← es9_]
      have hyp := hyp s9_ es9_
      refine r_aload_n (dcx dX10_read_c2 7 rfl) 0 rfl ?_
      refine s_geti fX10_215 (dcx dX10_read_c2 8 rfl) F284_13 ?_
      refine r_if_le (tgt := 179) (dcx dX10_read_c2 9 rfl) (by decide) (fun q_ => ?_) (fun q_ => ?_)
      · have hyp := hyp.1 q_
        refine r_aload_n (dcx dX10_read_c2 13 rfl) 0 rfl ?_
        refine s_geti fX10_224 (dcx dX10_read_c2 14 rfl) F284_15 ?_
        refine r_if_le (tgt := 191) (dcx dX10_read_c2 15 rfl) (by decide) (fun q_ => ?_) (fun q_ => ?_)
        · have hyp := hyp.1 q_
          refine r_aload_n (dcx dX10_read_c2 19 rfl) 0 rfl ?_
          refine r_aload_n (dcx dX10_read_c2 20 rfl) 0 rfl ?_
          refine s_geti fX10_248 (dcx dX10_read_c2 21 rfl) F284_19 ?_
          refine s_puti gX10_245 (dcx dX10_read_c2 22 rfl) F284_18 ?_
          obtain ⟨s10_, es10_⟩ : ∃ z : SS, z = sI s9_ 284 18 (s9_.1 284 19) := ⟨_, rfl⟩
          rw [← es10_]
          have hyp := hyp s10_ es10_
          refine r_aload_n (dcx dX10_read_c2 23 rfl) 0 rfl ?_
          refine s_callV (as := []) (st := []) zX10_begins kX10_read_172 (dcx dX10_read_c2 24 rfl) rfl rfl (Nat.le_of_ble_eq_true rfl) O284 rfl rfl (C2.mono hyp ?_)
          rintro _ s11_ ⟨rfl, hyp⟩
          show G2 Γ l mX10_read 203 [(0, .ref 284)] [] s11_ K
          refine r_aload_n (dcx dX10_read_c2 25 rfl) 0 rfl ?_
          refine s_callV (as := []) (st := []) zX10_keepsRow kX10_read_175 (dcx dX10_read_c2 26 rfl) rfl rfl (Nat.le_of_ble_eq_true rfl) O284 rfl rfl (C2.mono hyp ?_)
          rintro _ s13_ ⟨rfl, hyp⟩
          show G2 Γ l mX10_read 207 [(0, .ref 284)] [] s13_ K
          refine r_aload_n (dcx dX10_read_c2 27 rfl) 0 rfl ?_
          refine r_iconst (v := 0) (dcx dX10_read_c2 28 rfl) rfl ?_
          refine s_puti gX10_263 (dcx dX10_read_c2 29 rfl) F284_59 ?_
          obtain ⟨s15_, es15_⟩ : ∃ z : SS, z = sI s13_ 284 59 0 := ⟨_, rfl⟩
          rw [← es15_]
          have hyp := hyp s15_ es15_
          refine r_aload_n (dcx dX10_read_c2 30 rfl) 0 rfl ?_
          refine r_iconst (v := 0) (dcx dX10_read_c2 31 rfl) rfl ?_
          refine s_puti gX10_266 (dcx dX10_read_c2 32 rfl) F284_61 ?_
          obtain ⟨s16_, es16_⟩ : ∃ z : SS, z = sI s15_ 284 61 0 := ⟨_, rfl⟩
          rw [← es16_]
          have hyp := hyp s16_ es16_
          refine r_iconst (v := 0) (dcx dX10_read_c2 33 rfl) rfl ?_
          refine r_istore_n (lv1 := [(1, .int 0), (0, .ref 284)]) (dcx dX10_read_c2 34 rfl) (Nat.le_of_ble_eq_true rfl) rfl ?_
          refine r_loc (lv1 := [(0, .ref 284), (1, .int 0)]) [1, 0] rfl ?_
          exact hyp
        · have hyp := hyp.2 q_
          refine r_aload_n (dcx dX10_read_c2 16 rfl) 0 rfl ?_
          refine s_geti fX10_224 (dcx dX10_read_c2 17 rfl) F284_15 ?_
          exact s_ret rfl rfl rfl hyp (dcx dX10_read_c2 18 rfl)
      · have hyp := hyp.2 q_
        refine r_aload_n (dcx dX10_read_c2 10 rfl) 0 rfl ?_
        refine s_geti fX10_215 (dcx dX10_read_c2 11 rfl) F284_13 ?_
        exact s_ret rfl rfl rfl hyp (dcx dX10_read_c2 12 rfl)
  · have hyp := hyp.2 q_
    refine r_aload_n (dcx dX10_read_c1 36 rfl) 0 rfl ?_
    refine s_geti fX10_221 (dcx dX10_read_c1 37 rfl) F284_14 ?_
    refine r_goto (tgt := 164) (dcx dX10_read_c1 38 rfl) (by decide) ?_
    refine s_puti gX10_37 (dcx dX10_read_c2 6 rfl) F284_17 ?_
    obtain ⟨s17_, es17_⟩ : ∃ z : SS, z = sI σ 284 17 (σ.1 284 14) := ⟨_, rfl⟩
    rw [← es17_]
    have hyp := hyp s17_ es17_
    refine r_aload_n (dcx dX10_read_c2 7 rfl) 0 rfl ?_
    refine s_geti fX10_215 (dcx dX10_read_c2 8 rfl) F284_13 ?_
    refine r_if_le (tgt := 179) (dcx dX10_read_c2 9 rfl) (by decide) (fun q_ => ?_) (fun q_ => ?_)
    · have hyp := hyp.1 q_
      refine r_aload_n (dcx dX10_read_c2 13 rfl) 0 rfl ?_
      refine s_geti fX10_224 (dcx dX10_read_c2 14 rfl) F284_15 ?_
      refine r_if_le (tgt := 191) (dcx dX10_read_c2 15 rfl) (by decide) (fun q_ => ?_) (fun q_ => ?_)
      · have hyp := hyp.1 q_
        refine r_aload_n (dcx dX10_read_c2 19 rfl) 0 rfl ?_
        refine r_aload_n (dcx dX10_read_c2 20 rfl) 0 rfl ?_
        refine s_geti fX10_248 (dcx dX10_read_c2 21 rfl) F284_19 ?_
        refine s_puti gX10_245 (dcx dX10_read_c2 22 rfl) F284_18 ?_
        obtain ⟨s18_, es18_⟩ : ∃ z : SS, z = sI s17_ 284 18 (s17_.1 284 19) := ⟨_, rfl⟩
        rw [← es18_]
        have hyp := hyp s18_ es18_
        refine r_aload_n (dcx dX10_read_c2 23 rfl) 0 rfl ?_
        refine s_callV (as := []) (st := []) zX10_begins kX10_read_172 (dcx dX10_read_c2 24 rfl) rfl rfl (Nat.le_of_ble_eq_true rfl) O284 rfl rfl (C2.mono hyp ?_)
        rintro _ s19_ ⟨rfl, hyp⟩
        show G2 Γ l mX10_read 203 [(0, .ref 284)] [] s19_ K
        refine r_aload_n (dcx dX10_read_c2 25 rfl) 0 rfl ?_
        refine s_callV (as := []) (st := []) zX10_keepsRow kX10_read_175 (dcx dX10_read_c2 26 rfl) rfl rfl (Nat.le_of_ble_eq_true rfl) O284 rfl rfl (C2.mono hyp ?_)
        rintro _ s21_ ⟨rfl, hyp⟩
        show G2 Γ l mX10_read 207 [(0, .ref 284)] [] s21_ K
        refine r_aload_n (dcx dX10_read_c2 27 rfl) 0 rfl ?_
        refine r_iconst (v := 0) (dcx dX10_read_c2 28 rfl) rfl ?_
        refine s_puti gX10_263 (dcx dX10_read_c2 29 rfl) F284_59 ?_
        obtain ⟨s23_, es23_⟩ : ∃ z : SS, z = sI s21_ 284 59 0 := ⟨_, rfl⟩
        rw [← es23_]
        have hyp := hyp s23_ es23_
        refine r_aload_n (dcx dX10_read_c2 30 rfl) 0 rfl ?_
        refine r_iconst (v := 0) (dcx dX10_read_c2 31 rfl) rfl ?_
        refine s_puti gX10_266 (dcx dX10_read_c2 32 rfl) F284_61 ?_
        obtain ⟨s24_, es24_⟩ : ∃ z : SS, z = sI s23_ 284 61 0 := ⟨_, rfl⟩
        rw [← es24_]
        have hyp := hyp s24_ es24_
        refine r_iconst (v := 0) (dcx dX10_read_c2 33 rfl) rfl ?_
        refine r_istore_n (lv1 := [(1, .int 0), (0, .ref 284)]) (dcx dX10_read_c2 34 rfl) (Nat.le_of_ble_eq_true rfl) rfl ?_
        refine r_loc (lv1 := [(0, .ref 284), (1, .int 0)]) [1, 0] rfl ?_
        exact hyp
      · have hyp := hyp.2 q_
        refine r_aload_n (dcx dX10_read_c2 16 rfl) 0 rfl ?_
        refine s_geti fX10_224 (dcx dX10_read_c2 17 rfl) F284_15 ?_
        exact s_ret rfl rfl rfl hyp (dcx dX10_read_c2 18 rfl)
    · have hyp := hyp.2 q_
      refine r_aload_n (dcx dX10_read_c2 10 rfl) 0 rfl ?_
      refine s_geti fX10_215 (dcx dX10_read_c2 11 rfl) F284_13 ?_
      exact s_ret rfl rfl rfl hyp (dcx dX10_read_c2 12 rfl)
set_option maxHeartbeats 4000000 in
set_option maxRecDepth 20000 in
theorem tX10_read_219 {Γ : GE} {l : Launch} {x1 : Int32} {σ : SS} {K : Option Value → SS → Prop}  (hyp : ((3 : Int32) ≤ x1 → (K (some (.int 0)) σ)) ∧ (¬ ((3 : Int32) ≤ x1) → (vp_in x1 3 ∧ (∀ s1_ : SS, s1_ = sI σ 331 (Int32.toNatClampNeg x1) (vp_nar .boolean 0) → (wX10_read_219 Γ l (x1 + 1) s1_ K))))) : wX10_read_219 Γ l x1 σ K := by
  show G2 Γ l mX10_read 219 [(0, .ref 284), (1, .int x1)] [] σ K
  refine r_iload_n (dcx dX10_read_c2 35 rfl) 1 rfl ?_
  refine r_iconst (v := 3) (dcx dX10_read_c2 36 rfl) rfl ?_
  refine r_icmp_ge (tgt := 237) (dcx dX10_read_c2 37 rfl) (by decide) (fun q_ => ?_) (fun q_ => ?_)
  · have hyp := hyp.1 q_
    refine r_iconst (v := 0) (dcx dX10_read_c3 5 rfl) rfl ?_
    exact s_ret rfl rfl rfl hyp (dcx dX10_read_c3 6 rfl)
  · have hyp := hyp.2 q_
    refine r_aload_n (dcx dX10_read_c2 38 rfl) 0 rfl ?_
    refine s_getr (b := 331) fX10_158 (dcx dX10_read_c2 39 rfl) F284_68 ?_
    refine r_iload_n (dcx dX10_read_c3 0 rfl) 1 rfl ?_
    refine r_iconst (v := 0) (dcx dX10_read_c3 1 rfl) rfl ?_
    obtain ⟨hb_, hyp⟩ := hyp
    refine s_zast (dcx dX10_read_c3 2 rfl) A331 hb_ ?_
    obtain ⟨s1_, es1_⟩ : ∃ z : SS, z = sI σ 331 (Int32.toNatClampNeg x1) (vp_nar .boolean 0) := ⟨_, rfl⟩
    rw [← es1_]
    have hyp := hyp s1_ es1_
    refine r_iinc (lv1 := [(1, .int (x1 + 1)), (0, .ref 284)]) (dcx dX10_read_c3 3 rfl) 1 rfl (Nat.le_of_ble_eq_true rfl) rfl ?_
    refine r_goto (tgt := 219) (dcx dX10_read_c3 4 rfl) (by decide) ?_
    refine r_loc (lv1 := [(0, .ref 284), (1, .int (x1 + 1))]) [1, 0] rfl ?_
    exact hyp
set_option maxHeartbeats 4000000 in
set_option maxRecDepth 20000 in
theorem tX10_place {Γ : GE} {l : Launch}  {σ : SS} {K : Option Value → SS → Prop}  (hyp : K (some (.int (σ.1 284 17))) σ) : C2 Γ l mX10_place [.ref 284] σ K := by
  refine c2_of (lv := [(0, .ref 284)]) (by decide) (Nat.le_of_ble_eq_true rfl) rfl ?_
  refine r_aload_n (dcx dX10_place_c0 0 rfl) 0 rfl ?_
  refine s_geti fX10_37 (dcx dX10_place_c0 1 rfl) F284_17 ?_
  exact s_ret rfl rfl rfl hyp (dcx dX10_place_c0 2 rfl)
set_option maxHeartbeats 4000000 in
set_option maxRecDepth 20000 in
theorem tX10_roomFor {Γ : GE} {l : Launch} {x1 : Int32} {x2 : Int32} {σ : SS} {K : Option Value → SS → Prop}  (hyp : (¬ x1 = x2 → ((¬ (σ.1 284 13) = 0 → (K none σ)) ∧ ((σ.1 284 13) = 0 → (C2 Γ l mX10_goesOn [.ref 284] σ (Rv fun s1_ => (K none s1_)))))) ∧ (x1 = x2 → (C2 Γ l mX10_fail [.ref 284, .int 2] σ (Rv fun s3_ => ((¬ (s3_.1 284 13) = 0 → (K none s3_)) ∧ ((s3_.1 284 13) = 0 → (C2 Γ l mX10_goesOn [.ref 284] s3_ (Rv fun s5_ => (K none s5_))))))))) : C2 Γ l mX10_roomFor [.ref 284, .int x1, .int x2] σ K := by
  refine c2_of (lv := [(0, .ref 284), (1, .int x1), (2, .int x2)]) (by decide) (Nat.le_of_ble_eq_true rfl) rfl ?_
  refine r_iload_n (dcx dX10_roomFor_c0 0 rfl) 1 rfl ?_
  refine r_iload_n (dcx dX10_roomFor_c0 1 rfl) 2 rfl ?_
  refine r_icmp_ne (tgt := 10) (dcx dX10_roomFor_c0 2 rfl) (by decide) (fun q_ => ?_) (fun q_ => ?_)
  · have hyp := hyp.1 q_
    refine r_aload_n (dcx dX10_roomFor_c0 6 rfl) 0 rfl ?_
    refine s_geti fX10_215 (dcx dX10_roomFor_c0 7 rfl) F284_13 ?_
    refine r_if_ne (tgt := 21) (dcx dX10_roomFor_c0 8 rfl) (by decide) (fun q_ => ?_) (fun q_ => ?_)
    · have hyp := hyp.1 q_
      exact s_vret rfl hyp (dcx dX10_roomFor_c0 11 rfl)
    · have hyp := hyp.2 q_
      refine r_aload_n (dcx dX10_roomFor_c0 9 rfl) 0 rfl ?_
      refine s_callV (as := []) (st := []) zX10_goesOn kX10_roomFor_236 (dcx dX10_roomFor_c0 10 rfl) rfl rfl (Nat.le_of_ble_eq_true rfl) O284 rfl rfl (C2.mono hyp ?_)
      rintro _ s1_ ⟨rfl, hyp⟩
      show G2 Γ l mX10_roomFor 21 [(0, .ref 284), (1, .int x1), (2, .int x2)] [] s1_ K
      exact s_vret rfl hyp (dcx dX10_roomFor_c0 11 rfl)
  · have hyp := hyp.2 q_
    refine r_aload_n (dcx dX10_roomFor_c0 3 rfl) 0 rfl ?_
    refine r_iconst (v := 2) (dcx dX10_roomFor_c0 4 rfl) rfl ?_
    refine s_callV (as := [.int 2]) (st := []) zX10_fail kX10_roomFor_230 (dcx dX10_roomFor_c0 5 rfl) rfl rfl (Nat.le_of_ble_eq_true rfl) O284 rfl rfl (C2.mono hyp ?_)
    rintro _ s3_ ⟨rfl, hyp⟩
    show G2 Γ l mX10_roomFor 10 [(0, .ref 284), (1, .int x1), (2, .int x2)] [] s3_ K
    refine r_aload_n (dcx dX10_roomFor_c0 6 rfl) 0 rfl ?_
    refine s_geti fX10_215 (dcx dX10_roomFor_c0 7 rfl) F284_13 ?_
    refine r_if_ne (tgt := 21) (dcx dX10_roomFor_c0 8 rfl) (by decide) (fun q_ => ?_) (fun q_ => ?_)
    · have hyp := hyp.1 q_
      exact s_vret rfl hyp (dcx dX10_roomFor_c0 11 rfl)
    · have hyp := hyp.2 q_
      refine r_aload_n (dcx dX10_roomFor_c0 9 rfl) 0 rfl ?_
      refine s_callV (as := []) (st := []) zX10_goesOn kX10_roomFor_236 (dcx dX10_roomFor_c0 10 rfl) rfl rfl (Nat.le_of_ble_eq_true rfl) O284 rfl rfl (C2.mono hyp ?_)
      rintro _ s5_ ⟨rfl, hyp⟩
      show G2 Γ l mX10_roomFor 21 [(0, .ref 284), (1, .int x1), (2, .int x2)] [] s5_ K
      exact s_vret rfl hyp (dcx dX10_roomFor_c0 11 rfl)
def wX10_tellOne_310 (Γ : GE) (l : Launch) (x1 : Int32) (σ : SS) (K : Option Value → SS → Prop) : Prop := G2 Γ l mX10_tellOne 310 [(0, .ref 284), (1, .int x1)] [] σ K
def wX10_tellOne_315 (Γ : GE) (l : Launch) (x1 : Int32) (σ : SS) (K : Option Value → SS → Prop) : Prop := G2 Γ l mX10_tellOne 315 [(0, .ref 284), (1, .int x1)] [] σ K
set_option maxHeartbeats 4000000 in
set_option maxRecDepth 20000 in
theorem tX10_tellOne {Γ : GE} {l : Launch}  {σ : SS} {K : Option Value → SS → Prop}  (hyp : vp_in (σ.1 284 11) 403 ∧ (((σ.1 287 (Int32.toNatClampNeg (σ.1 284 11))) = 20 → (vp_in (σ.1 284 19) 2 ∧ (C2 Γ l mX10_roomFor [.ref 284, .int (σ.1 295 (Int32.toNatClampNeg (σ.1 284 19))), .int 6] σ (Rv fun s1_ => ((¬ (s1_.1 284 13) = 0 → (K none s1_)) ∧ ((s1_.1 284 13) = 0 → (C2 Γ l mX10_tellRow [.ref 284] s1_ (Rv fun s3_ => (K none s3_))))))))) ∧ ((σ.1 287 (Int32.toNatClampNeg (σ.1 284 11))) = 21 → (vp_in (σ.1 284 19) 2 ∧ (C2 Γ l mX10_roomFor [.ref 284, .int (σ.1 297 (Int32.toNatClampNeg (σ.1 284 19))), .int 4] σ (Rv fun s5_ => ((¬ (s5_.1 284 13) = 0 → (K none s5_)) ∧ ((s5_.1 284 13) = 0 → (C2 Γ l mX10_tellSign [.ref 284] s5_ (Rv fun s7_ => (K none s7_))))))))) ∧ ((σ.1 287 (Int32.toNatClampNeg (σ.1 284 11))) = 22 → (vp_in (σ.1 284 19) 2 ∧ (C2 Γ l mX10_roomFor [.ref 284, .int (σ.1 299 (Int32.toNatClampNeg (σ.1 284 19))), .int 4] σ (Rv fun s9_ => ((¬ (s9_.1 284 13) = 0 → (K none s9_)) ∧ ((s9_.1 284 13) = 0 → (C2 Γ l mX10_tellWindow [.ref 284] s9_ (Rv fun s11_ => (K none s11_))))))))) ∧ ((σ.1 287 (Int32.toNatClampNeg (σ.1 284 11))) = 23 → (vp_in (σ.1 284 19) 2 ∧ (C2 Γ l mX10_roomFor [.ref 284, .int (σ.1 304 (Int32.toNatClampNeg (σ.1 284 19))), .int 6] σ (Rv fun s13_ => ((¬ (s13_.1 284 13) = 0 → (K none s13_)) ∧ ((s13_.1 284 13) = 0 → (C2 Γ l mX10_tellTalk [.ref 284] s13_ (Rv fun s15_ => (K none s15_))))))))) ∧ ((σ.1 287 (Int32.toNatClampNeg (σ.1 284 11))) = 27 → (C2 Γ l mX10_goesOn [.ref 284] σ (Rv fun s17_ => (C2 Γ l mX10_bounded [.ref 284, .int 0, .int 99] s17_ (Ri fun r20_ s19_ => (vp_in (s17_.1 284 19) 2 ∧ (∀ s21_ : SS, s21_ = sI s19_ 305 (Int32.toNatClampNeg (s17_.1 284 19)) r20_ → (C2 Γ l mX10_must [.ref 284, .int 4] s21_ (Rv fun s22_ => (K none s22_)))))))))) ∧ ((σ.1 287 (Int32.toNatClampNeg (σ.1 284 11))) = 28 → (C2 Γ l mX10_goesOn [.ref 284] σ (Rv fun s24_ => (C2 Γ l mX10_bounded [.ref 284, .int 0, .int 100] s24_ (Ri fun r27_ s26_ => (vp_in (s24_.1 284 19) 2 ∧ (∀ s28_ : SS, s28_ = sI s26_ 306 (Int32.toNatClampNeg (s24_.1 284 19)) r27_ → (C2 Γ l mX10_bounded [.ref 284, .int 0, .int 9] s28_ (Ri fun r30_ s29_ => (vp_in (s28_.1 284 19) 2 ∧ (∀ s31_ : SS, s31_ = sI s29_ 307 (Int32.toNatClampNeg (s28_.1 284 19)) r30_ → (C2 Γ l mX10_must [.ref 284, .int 4] s31_ (Rv fun s32_ => (K none s32_)))))))))))))) ∧ ((σ.1 287 (Int32.toNatClampNeg (σ.1 284 11))) = 29 → (C2 Γ l mX10_goesOn [.ref 284] σ (Rv fun s34_ => (C2 Γ l mX10_bounded [.ref 284, .int 0, .int 9999] s34_ (Ri fun r37_ s36_ => (vp_in (s34_.1 284 19) 2 ∧ (∀ s38_ : SS, s38_ = sI s36_ 308 (Int32.toNatClampNeg (s34_.1 284 19)) r37_ → (C2 Γ l mX10_must [.ref 284, .int 4] s38_ (Rv fun s39_ => (K none s39_)))))))))) ∧ (¬ (σ.1 287 (Int32.toNatClampNeg (σ.1 284 11))) = 20 → ¬ (σ.1 287 (Int32.toNatClampNeg (σ.1 284 11))) = 21 → ¬ (σ.1 287 (Int32.toNatClampNeg (σ.1 284 11))) = 22 → ¬ (σ.1 287 (Int32.toNatClampNeg (σ.1 284 11))) = 23 → ¬ (σ.1 287 (Int32.toNatClampNeg (σ.1 284 11))) = 27 → ¬ (σ.1 287 (Int32.toNatClampNeg (σ.1 284 11))) = 28 → ¬ (σ.1 287 (Int32.toNatClampNeg (σ.1 284 11))) = 29 → (vp_in (σ.1 284 11) 403 ∧ ((((σ.1 287 (Int32.toNatClampNeg (σ.1 284 11))) - 24) < 0 → (wX10_tellOne_310 Γ l ((σ.1 287 (Int32.toNatClampNeg (σ.1 284 11))) - 24) σ K)) ∧ (¬ (((σ.1 287 (Int32.toNatClampNeg (σ.1 284 11))) - 24) < 0) → (vp_in (σ.1 284 11) 403 ∧ (((σ.1 287 (Int32.toNatClampNeg (σ.1 284 11))) ≤ 26 → (wX10_tellOne_315 Γ l ((σ.1 287 (Int32.toNatClampNeg (σ.1 284 11))) - 24) σ K)) ∧ (¬ ((σ.1 287 (Int32.toNatClampNeg (σ.1 284 11))) ≤ 26) → (wX10_tellOne_310 Γ l ((σ.1 287 (Int32.toNatClampNeg (σ.1 284 11))) - 24) σ K)))))))))) : C2 Γ l mX10_tellOne [.ref 284] σ K := by
  refine c2_of (lv := [(0, .ref 284)]) (by decide) (Nat.le_of_ble_eq_true rfl) rfl ?_
  refine r_aload_n (dcx dX10_tellOne_c0 0 rfl) 0 rfl ?_
  refine s_getr (b := 287) fX10_20 (dcx dX10_tellOne_c0 1 rfl) F284_5 ?_
  refine r_aload_n (dcx dX10_tellOne_c0 2 rfl) 0 rfl ?_
  refine s_geti fX10_218 (dcx dX10_tellOne_c0 3 rfl) F284_11 ?_
  obtain ⟨hb_, hyp⟩ := hyp
  refine s_iald (dcx dX10_tellOne_c0 4 rfl) A287 hb_ ?_
  by_cases q0_ : (σ.1 287 (Int32.toNatClampNeg (σ.1 284 11))) = 20
  · have hyp := hyp.1 q0_
    refine r_tableIn (off := 55) (tgt := 64) (dcx dX10_tellOne_c0 5 rfl) (by rw [q0_]; decide) (by rw [q0_]; decide) (by rw [q0_]; decide) (by decide) ?_
    refine r_aload_n (dcx dX10_tellOne_c0 6 rfl) 0 rfl ?_
    refine r_aload_n (dcx dX10_tellOne_c0 7 rfl) 0 rfl ?_
    refine s_getr (b := 295) fX10_49 (dcx dX10_tellOne_c0 8 rfl) F284_24 ?_
    refine r_aload_n (dcx dX10_tellOne_c0 9 rfl) 0 rfl ?_
    refine s_geti fX10_248 (dcx dX10_tellOne_c0 10 rfl) F284_19 ?_
    obtain ⟨hb_, hyp⟩ := hyp
    refine s_iald (dcx dX10_tellOne_c0 11 rfl) A295 hb_ ?_
    refine r_bipush (v := 6) (dcx dX10_tellOne_c0 12 rfl) rfl ?_
    refine s_callV (as := [.int (σ.1 295 (Int32.toNatClampNeg (σ.1 284 19))), .int 6]) (st := []) zX10_roomFor kX10_tellOne_269 (dcx dX10_tellOne_c0 13 rfl) rfl rfl (Nat.le_of_ble_eq_true rfl) O284 rfl rfl (C2.mono hyp ?_)
    rintro _ s1_ ⟨rfl, hyp⟩
    show G2 Γ l mX10_tellOne 79 [(0, .ref 284)] [] s1_ K
    refine r_aload_n (dcx dX10_tellOne_c0 14 rfl) 0 rfl ?_
    refine s_geti fX10_215 (dcx dX10_tellOne_c0 15 rfl) F284_13 ?_
    refine r_if_ne (tgt := 332) (dcx dX10_tellOne_c0 16 rfl) (by decide) (fun q_ => ?_) (fun q_ => ?_)
    · have hyp := hyp.1 q_
      exact s_vret rfl hyp (dcx dX10_tellOne_c3 25 rfl)
    · have hyp := hyp.2 q_
      refine r_aload_n (dcx dX10_tellOne_c0 17 rfl) 0 rfl ?_
      refine s_callV (as := []) (st := []) zX10_tellRow kX10_tellOne_273 (dcx dX10_tellOne_c0 18 rfl) rfl rfl (Nat.le_of_ble_eq_true rfl) O284 rfl rfl (C2.mono hyp ?_)
      rintro _ s3_ ⟨rfl, hyp⟩
      show G2 Γ l mX10_tellOne 90 [(0, .ref 284)] [] s3_ K
      refine r_goto (tgt := 332) (dcx dX10_tellOne_c0 19 rfl) (by decide) ?_
      exact s_vret rfl hyp (dcx dX10_tellOne_c3 25 rfl)
  have hyp := hyp.2
  by_cases q1_ : (σ.1 287 (Int32.toNatClampNeg (σ.1 284 11))) = 21
  · have hyp := hyp.1 q1_
    refine r_tableIn (off := 84) (tgt := 93) (dcx dX10_tellOne_c0 5 rfl) (by rw [q1_]; decide) (by rw [q1_]; decide) (by rw [q1_]; decide) (by decide) ?_
    refine r_aload_n (dcx dX10_tellOne_c0 20 rfl) 0 rfl ?_
    refine r_aload_n (dcx dX10_tellOne_c0 21 rfl) 0 rfl ?_
    refine s_getr (b := 297) fX10_55 (dcx dX10_tellOne_c0 22 rfl) F284_26 ?_
    refine r_aload_n (dcx dX10_tellOne_c0 23 rfl) 0 rfl ?_
    refine s_geti fX10_248 (dcx dX10_tellOne_c0 24 rfl) F284_19 ?_
    obtain ⟨hb_, hyp⟩ := hyp
    refine s_iald (dcx dX10_tellOne_c0 25 rfl) A297 hb_ ?_
    refine r_iconst (v := 4) (dcx dX10_tellOne_c0 26 rfl) rfl ?_
    refine s_callV (as := [.int (σ.1 297 (Int32.toNatClampNeg (σ.1 284 19))), .int 4]) (st := []) zX10_roomFor kX10_tellOne_269 (dcx dX10_tellOne_c0 27 rfl) rfl rfl (Nat.le_of_ble_eq_true rfl) O284 rfl rfl (C2.mono hyp ?_)
    rintro _ s5_ ⟨rfl, hyp⟩
    show G2 Γ l mX10_tellOne 107 [(0, .ref 284)] [] s5_ K
    refine r_aload_n (dcx dX10_tellOne_c0 28 rfl) 0 rfl ?_
    refine s_geti fX10_215 (dcx dX10_tellOne_c0 29 rfl) F284_13 ?_
    refine r_if_ne (tgt := 332) (dcx dX10_tellOne_c0 30 rfl) (by decide) (fun q_ => ?_) (fun q_ => ?_)
    · have hyp := hyp.1 q_
      exact s_vret rfl hyp (dcx dX10_tellOne_c3 25 rfl)
    · have hyp := hyp.2 q_
      refine r_aload_n (dcx dX10_tellOne_c0 31 rfl) 0 rfl ?_
      refine s_callV (as := []) (st := []) zX10_tellSign kX10_tellOne_276 (dcx dX10_tellOne_c0 32 rfl) rfl rfl (Nat.le_of_ble_eq_true rfl) O284 rfl rfl (C2.mono hyp ?_)
      rintro _ s7_ ⟨rfl, hyp⟩
      show G2 Γ l mX10_tellOne 118 [(0, .ref 284)] [] s7_ K
      refine r_goto (tgt := 332) (dcx dX10_tellOne_c0 33 rfl) (by decide) ?_
      exact s_vret rfl hyp (dcx dX10_tellOne_c3 25 rfl)
  have hyp := hyp.2
  by_cases q2_ : (σ.1 287 (Int32.toNatClampNeg (σ.1 284 11))) = 22
  · have hyp := hyp.1 q2_
    refine r_tableIn (off := 112) (tgt := 121) (dcx dX10_tellOne_c0 5 rfl) (by rw [q2_]; decide) (by rw [q2_]; decide) (by rw [q2_]; decide) (by decide) ?_
    refine r_aload_n (dcx dX10_tellOne_c0 34 rfl) 0 rfl ?_
    refine r_aload_n (dcx dX10_tellOne_c0 35 rfl) 0 rfl ?_
    refine s_getr (b := 299) fX10_62 (dcx dX10_tellOne_c0 36 rfl) F284_28 ?_
    refine r_aload_n (dcx dX10_tellOne_c0 37 rfl) 0 rfl ?_
    refine s_geti fX10_248 (dcx dX10_tellOne_c0 38 rfl) F284_19 ?_
    obtain ⟨hb_, hyp⟩ := hyp
    refine s_iald (dcx dX10_tellOne_c0 39 rfl) A299 hb_ ?_
    refine r_iconst (v := 4) (dcx dX10_tellOne_c1 0 rfl) rfl ?_
    refine s_callV (as := [.int (σ.1 299 (Int32.toNatClampNeg (σ.1 284 19))), .int 4]) (st := []) zX10_roomFor kX10_tellOne_269 (dcx dX10_tellOne_c1 1 rfl) rfl rfl (Nat.le_of_ble_eq_true rfl) O284 rfl rfl (C2.mono hyp ?_)
    rintro _ s9_ ⟨rfl, hyp⟩
    show G2 Γ l mX10_tellOne 135 [(0, .ref 284)] [] s9_ K
    refine r_aload_n (dcx dX10_tellOne_c1 2 rfl) 0 rfl ?_
    refine s_geti fX10_215 (dcx dX10_tellOne_c1 3 rfl) F284_13 ?_
    refine r_if_ne (tgt := 332) (dcx dX10_tellOne_c1 4 rfl) (by decide) (fun q_ => ?_) (fun q_ => ?_)
    · have hyp := hyp.1 q_
      exact s_vret rfl hyp (dcx dX10_tellOne_c3 25 rfl)
    · have hyp := hyp.2 q_
      refine r_aload_n (dcx dX10_tellOne_c1 5 rfl) 0 rfl ?_
      refine s_callV (as := []) (st := []) zX10_tellWindow kX10_tellOne_279 (dcx dX10_tellOne_c1 6 rfl) rfl rfl (Nat.le_of_ble_eq_true rfl) O284 rfl rfl (C2.mono hyp ?_)
      rintro _ s11_ ⟨rfl, hyp⟩
      show G2 Γ l mX10_tellOne 146 [(0, .ref 284)] [] s11_ K
      refine r_goto (tgt := 332) (dcx dX10_tellOne_c1 7 rfl) (by decide) ?_
      exact s_vret rfl hyp (dcx dX10_tellOne_c3 25 rfl)
  have hyp := hyp.2
  by_cases q3_ : (σ.1 287 (Int32.toNatClampNeg (σ.1 284 11))) = 23
  · have hyp := hyp.1 q3_
    refine r_tableIn (off := 140) (tgt := 149) (dcx dX10_tellOne_c0 5 rfl) (by rw [q3_]; decide) (by rw [q3_]; decide) (by rw [q3_]; decide) (by decide) ?_
    refine r_aload_n (dcx dX10_tellOne_c1 8 rfl) 0 rfl ?_
    refine r_aload_n (dcx dX10_tellOne_c1 9 rfl) 0 rfl ?_
    refine s_getr (b := 304) fX10_77 (dcx dX10_tellOne_c1 10 rfl) F284_33 ?_
    refine r_aload_n (dcx dX10_tellOne_c1 11 rfl) 0 rfl ?_
    refine s_geti fX10_248 (dcx dX10_tellOne_c1 12 rfl) F284_19 ?_
    obtain ⟨hb_, hyp⟩ := hyp
    refine s_iald (dcx dX10_tellOne_c1 13 rfl) A304 hb_ ?_
    refine r_bipush (v := 6) (dcx dX10_tellOne_c1 14 rfl) rfl ?_
    refine s_callV (as := [.int (σ.1 304 (Int32.toNatClampNeg (σ.1 284 19))), .int 6]) (st := []) zX10_roomFor kX10_tellOne_269 (dcx dX10_tellOne_c1 15 rfl) rfl rfl (Nat.le_of_ble_eq_true rfl) O284 rfl rfl (C2.mono hyp ?_)
    rintro _ s13_ ⟨rfl, hyp⟩
    show G2 Γ l mX10_tellOne 164 [(0, .ref 284)] [] s13_ K
    refine r_aload_n (dcx dX10_tellOne_c1 16 rfl) 0 rfl ?_
    refine s_geti fX10_215 (dcx dX10_tellOne_c1 17 rfl) F284_13 ?_
    refine r_if_ne (tgt := 332) (dcx dX10_tellOne_c1 18 rfl) (by decide) (fun q_ => ?_) (fun q_ => ?_)
    · have hyp := hyp.1 q_
      exact s_vret rfl hyp (dcx dX10_tellOne_c3 25 rfl)
    · have hyp := hyp.2 q_
      refine r_aload_n (dcx dX10_tellOne_c1 19 rfl) 0 rfl ?_
      refine s_callV (as := []) (st := []) zX10_tellTalk kX10_tellOne_282 (dcx dX10_tellOne_c1 20 rfl) rfl rfl (Nat.le_of_ble_eq_true rfl) O284 rfl rfl (C2.mono hyp ?_)
      rintro _ s15_ ⟨rfl, hyp⟩
      show G2 Γ l mX10_tellOne 175 [(0, .ref 284)] [] s15_ K
      refine r_goto (tgt := 332) (dcx dX10_tellOne_c1 21 rfl) (by decide) ?_
      exact s_vret rfl hyp (dcx dX10_tellOne_c3 25 rfl)
  have hyp := hyp.2
  by_cases q7_ : (σ.1 287 (Int32.toNatClampNeg (σ.1 284 11))) = 27
  · have hyp := hyp.1 q7_
    refine r_tableIn (off := 169) (tgt := 178) (dcx dX10_tellOne_c0 5 rfl) (by rw [q7_]; decide) (by rw [q7_]; decide) (by rw [q7_]; decide) (by decide) ?_
    refine r_aload_n (dcx dX10_tellOne_c1 22 rfl) 0 rfl ?_
    refine s_callV (as := []) (st := []) zX10_goesOn kX10_tellOne_236 (dcx dX10_tellOne_c1 23 rfl) rfl rfl (Nat.le_of_ble_eq_true rfl) O284 rfl rfl (C2.mono hyp ?_)
    rintro _ s17_ ⟨rfl, hyp⟩
    show G2 Γ l mX10_tellOne 182 [(0, .ref 284)] [] s17_ K
    refine r_aload_n (dcx dX10_tellOne_c1 24 rfl) 0 rfl ?_
    refine s_getr (b := 305) fX10_80 (dcx dX10_tellOne_c1 25 rfl) F284_34 ?_
    refine r_aload_n (dcx dX10_tellOne_c1 26 rfl) 0 rfl ?_
    refine s_geti fX10_248 (dcx dX10_tellOne_c1 27 rfl) F284_19 ?_
    refine r_aload_n (dcx dX10_tellOne_c1 28 rfl) 0 rfl ?_
    refine r_iconst (v := 0) (dcx dX10_tellOne_c1 29 rfl) rfl ?_
    refine r_bipush (v := 99) (dcx dX10_tellOne_c1 30 rfl) rfl ?_
    refine s_callV (as := [.int 0, .int 99]) (st := [.int (s17_.1 284 19), .ref 305]) zX10_bounded kX10_tellOne_285 (dcx dX10_tellOne_c1 31 rfl) rfl rfl (Nat.le_of_ble_eq_true rfl) O284 rfl rfl (C2.mono hyp ?_)
    rintro _ s19_ ⟨r20_, rfl, hyp⟩
    show G2 Γ l mX10_tellOne 197 [(0, .ref 284)] [.int r20_, .int (s17_.1 284 19), .ref 305] s19_ K
    obtain ⟨hb_, hyp⟩ := hyp
    refine s_iast (dcx dX10_tellOne_c1 32 rfl) A305 hb_ ?_
    obtain ⟨s21_, es21_⟩ : ∃ z : SS, z = sI s19_ 305 (Int32.toNatClampNeg (s17_.1 284 19)) r20_ := ⟨_, rfl⟩
    rw [← es21_]
    have hyp := hyp s21_ es21_
    refine r_aload_n (dcx dX10_tellOne_c1 33 rfl) 0 rfl ?_
    refine r_iconst (v := 4) (dcx dX10_tellOne_c1 34 rfl) rfl ?_
    refine s_callV (as := [.int 4]) (st := []) zX10_must kX10_tellOne_289 (dcx dX10_tellOne_c1 35 rfl) rfl rfl (Nat.le_of_ble_eq_true rfl) O284 rfl rfl (C2.mono hyp ?_)
    rintro _ s22_ ⟨rfl, hyp⟩
    show G2 Γ l mX10_tellOne 203 [(0, .ref 284)] [] s22_ K
    refine r_goto (tgt := 332) (dcx dX10_tellOne_c1 36 rfl) (by decide) ?_
    exact s_vret rfl hyp (dcx dX10_tellOne_c3 25 rfl)
  have hyp := hyp.2
  by_cases q8_ : (σ.1 287 (Int32.toNatClampNeg (σ.1 284 11))) = 28
  · have hyp := hyp.1 q8_
    refine r_tableIn (off := 197) (tgt := 206) (dcx dX10_tellOne_c0 5 rfl) (by rw [q8_]; decide) (by rw [q8_]; decide) (by rw [q8_]; decide) (by decide) ?_
    refine r_aload_n (dcx dX10_tellOne_c1 37 rfl) 0 rfl ?_
    refine s_callV (as := []) (st := []) zX10_goesOn kX10_tellOne_236 (dcx dX10_tellOne_c1 38 rfl) rfl rfl (Nat.le_of_ble_eq_true rfl) O284 rfl rfl (C2.mono hyp ?_)
    rintro _ s24_ ⟨rfl, hyp⟩
    show G2 Γ l mX10_tellOne 210 [(0, .ref 284)] [] s24_ K
    refine r_aload_n (dcx dX10_tellOne_c1 39 rfl) 0 rfl ?_
    refine s_getr (b := 306) fX10_83 (dcx dX10_tellOne_c2 0 rfl) F284_35 ?_
    refine r_aload_n (dcx dX10_tellOne_c2 1 rfl) 0 rfl ?_
    refine s_geti fX10_248 (dcx dX10_tellOne_c2 2 rfl) F284_19 ?_
    refine r_aload_n (dcx dX10_tellOne_c2 3 rfl) 0 rfl ?_
    refine r_iconst (v := 0) (dcx dX10_tellOne_c2 4 rfl) rfl ?_
    refine r_bipush (v := 100) (dcx dX10_tellOne_c2 5 rfl) rfl ?_
    refine s_callV (as := [.int 0, .int 100]) (st := [.int (s24_.1 284 19), .ref 306]) zX10_bounded kX10_tellOne_285 (dcx dX10_tellOne_c2 6 rfl) rfl rfl (Nat.le_of_ble_eq_true rfl) O284 rfl rfl (C2.mono hyp ?_)
    rintro _ s26_ ⟨r27_, rfl, hyp⟩
    show G2 Γ l mX10_tellOne 225 [(0, .ref 284)] [.int r27_, .int (s24_.1 284 19), .ref 306] s26_ K
    obtain ⟨hb_, hyp⟩ := hyp
    refine s_iast (dcx dX10_tellOne_c2 7 rfl) A306 hb_ ?_
    obtain ⟨s28_, es28_⟩ : ∃ z : SS, z = sI s26_ 306 (Int32.toNatClampNeg (s24_.1 284 19)) r27_ := ⟨_, rfl⟩
    rw [← es28_]
    have hyp := hyp s28_ es28_
    refine r_aload_n (dcx dX10_tellOne_c2 8 rfl) 0 rfl ?_
    refine s_getr (b := 307) fX10_86 (dcx dX10_tellOne_c2 9 rfl) F284_36 ?_
    refine r_aload_n (dcx dX10_tellOne_c2 10 rfl) 0 rfl ?_
    refine s_geti fX10_248 (dcx dX10_tellOne_c2 11 rfl) F284_19 ?_
    refine r_aload_n (dcx dX10_tellOne_c2 12 rfl) 0 rfl ?_
    refine r_iconst (v := 0) (dcx dX10_tellOne_c2 13 rfl) rfl ?_
    refine r_bipush (v := 9) (dcx dX10_tellOne_c2 14 rfl) rfl ?_
    refine s_callV (as := [.int 0, .int 9]) (st := [.int (s28_.1 284 19), .ref 307]) zX10_bounded kX10_tellOne_285 (dcx dX10_tellOne_c2 15 rfl) rfl rfl (Nat.le_of_ble_eq_true rfl) O284 rfl rfl (C2.mono hyp ?_)
    rintro _ s29_ ⟨r30_, rfl, hyp⟩
    show G2 Γ l mX10_tellOne 241 [(0, .ref 284)] [.int r30_, .int (s28_.1 284 19), .ref 307] s29_ K
    obtain ⟨hb_, hyp⟩ := hyp
    refine s_iast (dcx dX10_tellOne_c2 16 rfl) A307 hb_ ?_
    obtain ⟨s31_, es31_⟩ : ∃ z : SS, z = sI s29_ 307 (Int32.toNatClampNeg (s28_.1 284 19)) r30_ := ⟨_, rfl⟩
    rw [← es31_]
    have hyp := hyp s31_ es31_
    refine r_aload_n (dcx dX10_tellOne_c2 17 rfl) 0 rfl ?_
    refine r_iconst (v := 4) (dcx dX10_tellOne_c2 18 rfl) rfl ?_
    refine s_callV (as := [.int 4]) (st := []) zX10_must kX10_tellOne_289 (dcx dX10_tellOne_c2 19 rfl) rfl rfl (Nat.le_of_ble_eq_true rfl) O284 rfl rfl (C2.mono hyp ?_)
    rintro _ s32_ ⟨rfl, hyp⟩
    show G2 Γ l mX10_tellOne 247 [(0, .ref 284)] [] s32_ K
    refine r_goto (tgt := 332) (dcx dX10_tellOne_c2 20 rfl) (by decide) ?_
    exact s_vret rfl hyp (dcx dX10_tellOne_c3 25 rfl)
  have hyp := hyp.2
  by_cases q9_ : (σ.1 287 (Int32.toNatClampNeg (σ.1 284 11))) = 29
  · have hyp := hyp.1 q9_
    refine r_tableIn (off := 241) (tgt := 250) (dcx dX10_tellOne_c0 5 rfl) (by rw [q9_]; decide) (by rw [q9_]; decide) (by rw [q9_]; decide) (by decide) ?_
    refine r_aload_n (dcx dX10_tellOne_c2 21 rfl) 0 rfl ?_
    refine s_callV (as := []) (st := []) zX10_goesOn kX10_tellOne_236 (dcx dX10_tellOne_c2 22 rfl) rfl rfl (Nat.le_of_ble_eq_true rfl) O284 rfl rfl (C2.mono hyp ?_)
    rintro _ s34_ ⟨rfl, hyp⟩
    show G2 Γ l mX10_tellOne 254 [(0, .ref 284)] [] s34_ K
    refine r_aload_n (dcx dX10_tellOne_c2 23 rfl) 0 rfl ?_
    refine s_getr (b := 308) fX10_89 (dcx dX10_tellOne_c2 24 rfl) F284_37 ?_
    refine r_aload_n (dcx dX10_tellOne_c2 25 rfl) 0 rfl ?_
    refine s_geti fX10_248 (dcx dX10_tellOne_c2 26 rfl) F284_19 ?_
    refine r_aload_n (dcx dX10_tellOne_c2 27 rfl) 0 rfl ?_
    refine r_iconst (v := 0) (dcx dX10_tellOne_c2 28 rfl) rfl ?_
    refine r_sipush (v := 9999) (dcx dX10_tellOne_c2 29 rfl) rfl ?_
    refine s_callV (as := [.int 0, .int 9999]) (st := [.int (s34_.1 284 19), .ref 308]) zX10_bounded kX10_tellOne_285 (dcx dX10_tellOne_c2 30 rfl) rfl rfl (Nat.le_of_ble_eq_true rfl) O284 rfl rfl (C2.mono hyp ?_)
    rintro _ s36_ ⟨r37_, rfl, hyp⟩
    show G2 Γ l mX10_tellOne 270 [(0, .ref 284)] [.int r37_, .int (s34_.1 284 19), .ref 308] s36_ K
    obtain ⟨hb_, hyp⟩ := hyp
    refine s_iast (dcx dX10_tellOne_c2 31 rfl) A308 hb_ ?_
    obtain ⟨s38_, es38_⟩ : ∃ z : SS, z = sI s36_ 308 (Int32.toNatClampNeg (s34_.1 284 19)) r37_ := ⟨_, rfl⟩
    rw [← es38_]
    have hyp := hyp s38_ es38_
    refine r_aload_n (dcx dX10_tellOne_c2 32 rfl) 0 rfl ?_
    refine r_iconst (v := 4) (dcx dX10_tellOne_c2 33 rfl) rfl ?_
    refine s_callV (as := [.int 4]) (st := []) zX10_must kX10_tellOne_289 (dcx dX10_tellOne_c2 34 rfl) rfl rfl (Nat.le_of_ble_eq_true rfl) O284 rfl rfl (C2.mono hyp ?_)
    rintro _ s39_ ⟨rfl, hyp⟩
    show G2 Γ l mX10_tellOne 276 [(0, .ref 284)] [] s39_ K
    refine r_goto (tgt := 332) (dcx dX10_tellOne_c2 35 rfl) (by decide) ?_
    exact s_vret rfl hyp (dcx dX10_tellOne_c3 25 rfl)
  have hyp := hyp.2
  have hyp := hyp q0_ q1_ q2_ q3_ q7_ q8_ q9_
  by_cases q4_ : (σ.1 287 (Int32.toNatClampNeg (σ.1 284 11))) = 24
  · refine r_tableIn (off := 270) (tgt := 279) (dcx dX10_tellOne_c0 5 rfl) (by rw [q4_]; decide) (by rw [q4_]; decide) (by rw [q4_]; decide) (by decide) ?_
    refine r_aload_n (dcx dX10_tellOne_c2 36 rfl) 0 rfl ?_
    refine s_getr (b := 287) fX10_20 (dcx dX10_tellOne_c2 37 rfl) F284_5 ?_
    refine r_aload_n (dcx dX10_tellOne_c2 38 rfl) 0 rfl ?_
    refine s_geti fX10_218 (dcx dX10_tellOne_c2 39 rfl) F284_11 ?_
    obtain ⟨hb_, hyp⟩ := hyp
    refine s_iald (dcx dX10_tellOne_c3 0 rfl) A287 hb_ ?_
    refine r_bipush (v := 24) (dcx dX10_tellOne_c3 1 rfl) rfl ?_
    refine r_isub (dcx dX10_tellOne_c3 2 rfl) ?_
    refine r_istore_n (lv1 := [(1, .int ((σ.1 287 (Int32.toNatClampNeg (σ.1 284 11))) - 24)), (0, .ref 284)]) (dcx dX10_tellOne_c3 3 rfl) (Nat.le_of_ble_eq_true rfl) rfl ?_
    refine r_iload_n (dcx dX10_tellOne_c3 4 rfl) 0 rfl ?_
    refine r_if_lt (tgt := 310) (dcx dX10_tellOne_c3 5 rfl) (by decide) (fun q_ => ?_) (fun q_ => ?_)
    · have hyp := hyp.1 q_
      refine r_loc (lv1 := [(0, .ref 284), (1, .int ((σ.1 287 (Int32.toNatClampNeg (σ.1 284 11))) - 24))]) [1, 0] rfl ?_
      exact hyp
    · have hyp := hyp.2 q_
      refine r_aload_n (dcx dX10_tellOne_c3 6 rfl) 1 rfl ?_
      refine s_getr (b := 287) fX10_20 (dcx dX10_tellOne_c3 7 rfl) F284_5 ?_
      refine r_aload_n (dcx dX10_tellOne_c3 8 rfl) 1 rfl ?_
      refine s_geti fX10_218 (dcx dX10_tellOne_c3 9 rfl) F284_11 ?_
      obtain ⟨hb_, hyp⟩ := hyp
      refine s_iald (dcx dX10_tellOne_c3 10 rfl) A287 hb_ ?_
      refine r_bipush (v := 26) (dcx dX10_tellOne_c3 11 rfl) rfl ?_
      refine r_icmp_le (tgt := 315) (dcx dX10_tellOne_c3 12 rfl) (by decide) (fun q_ => ?_) (fun q_ => ?_)
      · have hyp := hyp.1 q_
        refine r_loc (lv1 := [(0, .ref 284), (1, .int ((σ.1 287 (Int32.toNatClampNeg (σ.1 284 11))) - 24))]) [1, 0] rfl ?_
        exact hyp
      · have hyp := hyp.2 q_
        refine r_loc (lv1 := [(0, .ref 284), (1, .int ((σ.1 287 (Int32.toNatClampNeg (σ.1 284 11))) - 24))]) [1, 0] rfl ?_
        exact hyp
  by_cases q5_ : (σ.1 287 (Int32.toNatClampNeg (σ.1 284 11))) = 25
  · refine r_tableIn (off := 270) (tgt := 279) (dcx dX10_tellOne_c0 5 rfl) (by rw [q5_]; decide) (by rw [q5_]; decide) (by rw [q5_]; decide) (by decide) ?_
    refine r_aload_n (dcx dX10_tellOne_c2 36 rfl) 0 rfl ?_
    refine s_getr (b := 287) fX10_20 (dcx dX10_tellOne_c2 37 rfl) F284_5 ?_
    refine r_aload_n (dcx dX10_tellOne_c2 38 rfl) 0 rfl ?_
    refine s_geti fX10_218 (dcx dX10_tellOne_c2 39 rfl) F284_11 ?_
    obtain ⟨hb_, hyp⟩ := hyp
    refine s_iald (dcx dX10_tellOne_c3 0 rfl) A287 hb_ ?_
    refine r_bipush (v := 24) (dcx dX10_tellOne_c3 1 rfl) rfl ?_
    refine r_isub (dcx dX10_tellOne_c3 2 rfl) ?_
    refine r_istore_n (lv1 := [(1, .int ((σ.1 287 (Int32.toNatClampNeg (σ.1 284 11))) - 24)), (0, .ref 284)]) (dcx dX10_tellOne_c3 3 rfl) (Nat.le_of_ble_eq_true rfl) rfl ?_
    refine r_iload_n (dcx dX10_tellOne_c3 4 rfl) 0 rfl ?_
    refine r_if_lt (tgt := 310) (dcx dX10_tellOne_c3 5 rfl) (by decide) (fun q_ => ?_) (fun q_ => ?_)
    · have hyp := hyp.1 q_
      refine r_loc (lv1 := [(0, .ref 284), (1, .int ((σ.1 287 (Int32.toNatClampNeg (σ.1 284 11))) - 24))]) [1, 0] rfl ?_
      exact hyp
    · have hyp := hyp.2 q_
      refine r_aload_n (dcx dX10_tellOne_c3 6 rfl) 1 rfl ?_
      refine s_getr (b := 287) fX10_20 (dcx dX10_tellOne_c3 7 rfl) F284_5 ?_
      refine r_aload_n (dcx dX10_tellOne_c3 8 rfl) 1 rfl ?_
      refine s_geti fX10_218 (dcx dX10_tellOne_c3 9 rfl) F284_11 ?_
      obtain ⟨hb_, hyp⟩ := hyp
      refine s_iald (dcx dX10_tellOne_c3 10 rfl) A287 hb_ ?_
      refine r_bipush (v := 26) (dcx dX10_tellOne_c3 11 rfl) rfl ?_
      refine r_icmp_le (tgt := 315) (dcx dX10_tellOne_c3 12 rfl) (by decide) (fun q_ => ?_) (fun q_ => ?_)
      · have hyp := hyp.1 q_
        refine r_loc (lv1 := [(0, .ref 284), (1, .int ((σ.1 287 (Int32.toNatClampNeg (σ.1 284 11))) - 24))]) [1, 0] rfl ?_
        exact hyp
      · have hyp := hyp.2 q_
        refine r_loc (lv1 := [(0, .ref 284), (1, .int ((σ.1 287 (Int32.toNatClampNeg (σ.1 284 11))) - 24))]) [1, 0] rfl ?_
        exact hyp
  by_cases q6_ : (σ.1 287 (Int32.toNatClampNeg (σ.1 284 11))) = 26
  · refine r_tableIn (off := 270) (tgt := 279) (dcx dX10_tellOne_c0 5 rfl) (by rw [q6_]; decide) (by rw [q6_]; decide) (by rw [q6_]; decide) (by decide) ?_
    refine r_aload_n (dcx dX10_tellOne_c2 36 rfl) 0 rfl ?_
    refine s_getr (b := 287) fX10_20 (dcx dX10_tellOne_c2 37 rfl) F284_5 ?_
    refine r_aload_n (dcx dX10_tellOne_c2 38 rfl) 0 rfl ?_
    refine s_geti fX10_218 (dcx dX10_tellOne_c2 39 rfl) F284_11 ?_
    obtain ⟨hb_, hyp⟩ := hyp
    refine s_iald (dcx dX10_tellOne_c3 0 rfl) A287 hb_ ?_
    refine r_bipush (v := 24) (dcx dX10_tellOne_c3 1 rfl) rfl ?_
    refine r_isub (dcx dX10_tellOne_c3 2 rfl) ?_
    refine r_istore_n (lv1 := [(1, .int ((σ.1 287 (Int32.toNatClampNeg (σ.1 284 11))) - 24)), (0, .ref 284)]) (dcx dX10_tellOne_c3 3 rfl) (Nat.le_of_ble_eq_true rfl) rfl ?_
    refine r_iload_n (dcx dX10_tellOne_c3 4 rfl) 0 rfl ?_
    refine r_if_lt (tgt := 310) (dcx dX10_tellOne_c3 5 rfl) (by decide) (fun q_ => ?_) (fun q_ => ?_)
    · have hyp := hyp.1 q_
      refine r_loc (lv1 := [(0, .ref 284), (1, .int ((σ.1 287 (Int32.toNatClampNeg (σ.1 284 11))) - 24))]) [1, 0] rfl ?_
      exact hyp
    · have hyp := hyp.2 q_
      refine r_aload_n (dcx dX10_tellOne_c3 6 rfl) 1 rfl ?_
      refine s_getr (b := 287) fX10_20 (dcx dX10_tellOne_c3 7 rfl) F284_5 ?_
      refine r_aload_n (dcx dX10_tellOne_c3 8 rfl) 1 rfl ?_
      refine s_geti fX10_218 (dcx dX10_tellOne_c3 9 rfl) F284_11 ?_
      obtain ⟨hb_, hyp⟩ := hyp
      refine s_iald (dcx dX10_tellOne_c3 10 rfl) A287 hb_ ?_
      refine r_bipush (v := 26) (dcx dX10_tellOne_c3 11 rfl) rfl ?_
      refine r_icmp_le (tgt := 315) (dcx dX10_tellOne_c3 12 rfl) (by decide) (fun q_ => ?_) (fun q_ => ?_)
      · have hyp := hyp.1 q_
        refine r_loc (lv1 := [(0, .ref 284), (1, .int ((σ.1 287 (Int32.toNatClampNeg (σ.1 284 11))) - 24))]) [1, 0] rfl ?_
        exact hyp
      · have hyp := hyp.2 q_
        refine r_loc (lv1 := [(0, .ref 284), (1, .int ((σ.1 287 (Int32.toNatClampNeg (σ.1 284 11))) - 24))]) [1, 0] rfl ?_
        exact hyp
  refine r_tableOut (tgt := 279) (dcx dX10_tellOne_c0 5 rfl) (by have t0_ := lv_neT (a := 20) q0_ (by decide); have t1_ := lv_neT (a := 21) q1_ (by decide); have t2_ := lv_neT (a := 22) q2_ (by decide); have t3_ := lv_neT (a := 23) q3_ (by decide); have t7_ := lv_neT (a := 27) q7_ (by decide); have t8_ := lv_neT (a := 28) q8_ (by decide); have t9_ := lv_neT (a := 29) q9_ (by decide); have t4_ := lv_neT (a := 24) q4_ (by decide); have t5_ := lv_neT (a := 25) q5_ (by decide); have t6_ := lv_neT (a := 26) q6_ (by decide); omega) (by decide) ?_
  refine r_aload_n (dcx dX10_tellOne_c2 36 rfl) 0 rfl ?_
  refine s_getr (b := 287) fX10_20 (dcx dX10_tellOne_c2 37 rfl) F284_5 ?_
  refine r_aload_n (dcx dX10_tellOne_c2 38 rfl) 0 rfl ?_
  refine s_geti fX10_218 (dcx dX10_tellOne_c2 39 rfl) F284_11 ?_
  obtain ⟨hb_, hyp⟩ := hyp
  refine s_iald (dcx dX10_tellOne_c3 0 rfl) A287 hb_ ?_
  refine r_bipush (v := 24) (dcx dX10_tellOne_c3 1 rfl) rfl ?_
  refine r_isub (dcx dX10_tellOne_c3 2 rfl) ?_
  refine r_istore_n (lv1 := [(1, .int ((σ.1 287 (Int32.toNatClampNeg (σ.1 284 11))) - 24)), (0, .ref 284)]) (dcx dX10_tellOne_c3 3 rfl) (Nat.le_of_ble_eq_true rfl) rfl ?_
  refine r_iload_n (dcx dX10_tellOne_c3 4 rfl) 0 rfl ?_
  refine r_if_lt (tgt := 310) (dcx dX10_tellOne_c3 5 rfl) (by decide) (fun q_ => ?_) (fun q_ => ?_)
  · have hyp := hyp.1 q_
    refine r_loc (lv1 := [(0, .ref 284), (1, .int ((σ.1 287 (Int32.toNatClampNeg (σ.1 284 11))) - 24))]) [1, 0] rfl ?_
    exact hyp
  · have hyp := hyp.2 q_
    refine r_aload_n (dcx dX10_tellOne_c3 6 rfl) 1 rfl ?_
    refine s_getr (b := 287) fX10_20 (dcx dX10_tellOne_c3 7 rfl) F284_5 ?_
    refine r_aload_n (dcx dX10_tellOne_c3 8 rfl) 1 rfl ?_
    refine s_geti fX10_218 (dcx dX10_tellOne_c3 9 rfl) F284_11 ?_
    obtain ⟨hb_, hyp⟩ := hyp
    refine s_iald (dcx dX10_tellOne_c3 10 rfl) A287 hb_ ?_
    refine r_bipush (v := 26) (dcx dX10_tellOne_c3 11 rfl) rfl ?_
    refine r_icmp_le (tgt := 315) (dcx dX10_tellOne_c3 12 rfl) (by decide) (fun q_ => ?_) (fun q_ => ?_)
    · have hyp := hyp.1 q_
      refine r_loc (lv1 := [(0, .ref 284), (1, .int ((σ.1 287 (Int32.toNatClampNeg (σ.1 284 11))) - 24))]) [1, 0] rfl ?_
      exact hyp
    · have hyp := hyp.2 q_
      refine r_loc (lv1 := [(0, .ref 284), (1, .int ((σ.1 287 (Int32.toNatClampNeg (σ.1 284 11))) - 24))]) [1, 0] rfl ?_
      exact hyp
set_option maxHeartbeats 4000000 in
set_option maxRecDepth 20000 in
theorem tX10_tellOne_310 {Γ : GE} {l : Launch} {x1 : Int32} {σ : SS} {K : Option Value → SS → Prop}  (hyp : C2 Γ l mX10_fail [.ref 284, .int 1] σ (Rv fun s1_ => (wX10_tellOne_315 Γ l x1 s1_ K))) : wX10_tellOne_310 Γ l x1 σ K := by
  show G2 Γ l mX10_tellOne 310 [(0, .ref 284), (1, .int x1)] [] σ K
  refine r_aload_n (dcx dX10_tellOne_c3 13 rfl) 0 rfl ?_
  refine r_iconst (v := 1) (dcx dX10_tellOne_c3 14 rfl) rfl ?_
  refine s_callV (as := [.int 1]) (st := []) zX10_fail kX10_tellOne_230 (dcx dX10_tellOne_c3 15 rfl) rfl rfl (Nat.le_of_ble_eq_true rfl) O284 rfl rfl (C2.mono hyp ?_)
  rintro _ s1_ ⟨rfl, hyp⟩
  show G2 Γ l mX10_tellOne 315 [(0, .ref 284), (1, .int x1)] [] s1_ K
  refine r_loc (lv1 := [(0, .ref 284), (1, .int x1)]) [0, 1] rfl ?_
  exact hyp
set_option maxHeartbeats 4000000 in
set_option maxRecDepth 20000 in
theorem tX10_tellOne_315 {Γ : GE} {l : Launch} {x1 : Int32} {σ : SS} {K : Option Value → SS → Prop}  (hyp : ((σ.1 284 13) ≤ 0 → (C2 Γ l mX10_goesOn [.ref 284] σ (Rv fun s1_ => (C2 Γ l mX10_tellLaw [.ref 284, .int x1] s1_ (Rv fun s3_ => (K none s3_)))))) ∧ (¬ ((σ.1 284 13) ≤ 0) → (K none σ))) : wX10_tellOne_315 Γ l x1 σ K := by
  show G2 Γ l mX10_tellOne 315 [(0, .ref 284), (1, .int x1)] [] σ K
  refine r_aload_n (dcx dX10_tellOne_c3 16 rfl) 0 rfl ?_
  refine s_geti fX10_215 (dcx dX10_tellOne_c3 17 rfl) F284_13 ?_
  refine r_if_le (tgt := 323) (dcx dX10_tellOne_c3 18 rfl) (by decide) (fun q_ => ?_) (fun q_ => ?_)
  · have hyp := hyp.1 q_
    refine r_aload_n (dcx dX10_tellOne_c3 20 rfl) 0 rfl ?_
    refine s_callV (as := []) (st := []) zX10_goesOn kX10_tellOne_236 (dcx dX10_tellOne_c3 21 rfl) rfl rfl (Nat.le_of_ble_eq_true rfl) O284 rfl rfl (C2.mono hyp ?_)
    rintro _ s1_ ⟨rfl, hyp⟩
    show G2 Γ l mX10_tellOne 327 [(0, .ref 284), (1, .int x1)] [] s1_ K
    refine r_aload_n (dcx dX10_tellOne_c3 22 rfl) 0 rfl ?_
    refine r_iload_n (dcx dX10_tellOne_c3 23 rfl) 1 rfl ?_
    refine s_callV (as := [.int x1]) (st := []) zX10_tellLaw kX10_tellOne_292 (dcx dX10_tellOne_c3 24 rfl) rfl rfl (Nat.le_of_ble_eq_true rfl) O284 rfl rfl (C2.mono hyp ?_)
    rintro _ s3_ ⟨rfl, hyp⟩
    show G2 Γ l mX10_tellOne 332 [(0, .ref 284), (1, .int x1)] [] s3_ K
    exact s_vret rfl hyp (dcx dX10_tellOne_c3 25 rfl)
  · have hyp := hyp.2 q_
    exact s_vret rfl hyp (dcx dX10_tellOne_c3 19 rfl)
def wX10_lettersIn_4 (Γ : GE) (l : Launch) (x2 : Int32) (x3 : Int64) (σ : SS) (K : Option Value → SS → Prop) : Prop := G2 Γ l mX10_lettersIn 4 [(2, .int x2), (3, .long x3)] [] σ K
set_option maxHeartbeats 4000000 in
set_option maxRecDepth 20000 in
theorem tX10_lettersIn {Γ : GE} {l : Launch} {x0 : Int64} {σ : SS} {K : Option Value → SS → Prop}  (hyp : wX10_lettersIn_4 Γ l 0 x0 σ K) : C2 Γ l mX10_lettersIn [.long x0] σ K := by
  refine c2_of (lv := [(0, .long x0)]) (by decide) (Nat.le_of_ble_eq_true rfl) rfl ?_
  refine r_iconst (v := 0) (dcx dX10_lettersIn_c0 0 rfl) rfl ?_
  refine r_istore_n (lv1 := [(2, .int 0), (0, .long x0)]) (dcx dX10_lettersIn_c0 1 rfl) (Nat.le_of_ble_eq_true rfl) rfl ?_
  refine r_lload_n (dcx dX10_lettersIn_c0 2 rfl) 1 rfl ?_
  refine r_lstore_n (lv1 := [(3, .long x0), (2, .int 0), (0, .long x0)]) (dcx dX10_lettersIn_c0 3 rfl) (Nat.le_of_ble_eq_true rfl) rfl ?_
  refine r_loc (lv1 := [(2, .int 0), (3, .long x0)]) [1, 0] rfl ?_
  exact hyp
set_option maxHeartbeats 4000000 in
set_option maxRecDepth 20000 in
theorem tX10_lettersIn_4 {Γ : GE} {l : Launch} {x2 : Int32} {x3 : Int64} {σ : SS} {K : Option Value → SS → Prop}  (hyp : ((lg_cmp x3 0) ≤ 0 → (K (some (.int x2)) σ)) ∧ (¬ ((lg_cmp x3 0) ≤ 0) → (wX10_lettersIn_4 Γ l (x2 + 1) (x3 / 27) σ K))) : wX10_lettersIn_4 Γ l x2 x3 σ K := by
  show G2 Γ l mX10_lettersIn 4 [(2, .int x2), (3, .long x3)] [] σ K
  refine r_lload_n (dcx dX10_lettersIn_c0 4 rfl) 1 rfl ?_
  refine r_lconst (v := 0) (dcx dX10_lettersIn_c0 5 rfl) rfl ?_
  refine r_lcmp (dcx dX10_lettersIn_c0 6 rfl) ?_
  refine r_if_le (tgt := 22) (dcx dX10_lettersIn_c0 7 rfl) (by decide) (fun q_ => ?_) (fun q_ => ?_)
  · have hyp := hyp.1 q_
    refine r_iload_n (dcx dX10_lettersIn_c0 14 rfl) 0 rfl ?_
    exact s_ret rfl rfl rfl hyp (dcx dX10_lettersIn_c0 15 rfl)
  · have hyp := hyp.2 q_
    refine r_iinc (lv1 := [(2, .int (x2 + 1)), (3, .long x3)]) (dcx dX10_lettersIn_c0 8 rfl) 0 rfl (Nat.le_of_ble_eq_true rfl) rfl ?_
    refine r_lload_n (dcx dX10_lettersIn_c0 9 rfl) 1 rfl ?_
    refine r_ldc2_w (own := "MownLawnModel") (v := 27) rfl q1272 (dcx dX10_lettersIn_c0 10 rfl) ?_
    refine r_ldiv (dcx dX10_lettersIn_c0 11 rfl) (by decide) ?_
    refine r_lstore_n (lv1 := [(3, .long (x3 / 27)), (2, .int (x2 + 1))]) (dcx dX10_lettersIn_c0 12 rfl) (Nat.le_of_ble_eq_true rfl) rfl ?_
    refine r_goto (tgt := 4) (dcx dX10_lettersIn_c0 13 rfl) (by decide) ?_
    refine r_loc (lv1 := [(2, .int (x2 + 1)), (3, .long (x3 / 27))]) [1, 0] rfl ?_
    exact hyp
def wX10_letterIn_10 (Γ : GE) (l : Launch) (x2 : Int32) (x3 : Int64) (x5 : Int32) (σ : SS) (K : Option Value → SS → Prop) : Prop := G2 Γ l mX10_letterIn 10 [(2, .int x2), (3, .long x3), (5, .int x5)] [] σ K
set_option maxHeartbeats 4000000 in
set_option maxRecDepth 20000 in
theorem tX10_letterIn {Γ : GE} {l : Launch} {x0 : Int64} {x2 : Int32} {σ : SS} {K : Option Value → SS → Prop}  (hyp : C2 Γ l mX10_lettersIn [.long x0] σ (Ri fun r2_ s1_ => (wX10_letterIn_10 Γ l x2 x0 (r2_ - 1) s1_ K))) : C2 Γ l mX10_letterIn [.long x0, .int x2] σ K := by
  refine c2_of (lv := [(0, .long x0), (2, .int x2)]) (by decide) (Nat.le_of_ble_eq_true rfl) rfl ?_
  refine r_lload_n (dcx dX10_letterIn_c0 0 rfl) 0 rfl ?_
  refine r_lstore_n (lv1 := [(3, .long x0), (0, .long x0), (2, .int x2)]) (dcx dX10_letterIn_c0 1 rfl) (Nat.le_of_ble_eq_true rfl) rfl ?_
  refine r_lload_n (dcx dX10_letterIn_c0 2 rfl) 1 rfl ?_
  refine s_callS (as := [.long x0]) (st := []) zX10_lettersIn kX10_letterIn_295 (dcx dX10_letterIn_c0 3 rfl) rfl rfl (Nat.le_of_ble_eq_true rfl) (C2.mono hyp ?_)
  rintro _ s1_ ⟨r2_, rfl, hyp⟩
  show G2 Γ l mX10_letterIn 6 [(3, .long x0), (0, .long x0), (2, .int x2)] [.int r2_] s1_ K
  refine r_iconst (v := 1) (dcx dX10_letterIn_c0 4 rfl) rfl ?_
  refine r_isub (dcx dX10_letterIn_c0 5 rfl) ?_
  refine r_istore (lv1 := [(5, .int (r2_ - 1)), (3, .long x0), (0, .long x0), (2, .int x2)]) (dcx dX10_letterIn_c0 6 rfl) (Nat.le_of_ble_eq_true rfl) rfl ?_
  refine r_loc (lv1 := [(2, .int x2), (3, .long x0), (5, .int (r2_ - 1))]) [3, 1, 0] rfl ?_
  exact hyp
set_option maxHeartbeats 4000000 in
set_option maxRecDepth 20000 in
theorem tX10_letterIn_10 {Γ : GE} {l : Launch} {x2 : Int32} {x3 : Int64} {x5 : Int32} {σ : SS} {K : Option Value → SS → Prop}  (hyp : (x5 ≤ x2 → (K (some (.int (Int64.toInt32 (x3 - x3 / 27 * 27)))) σ)) ∧ (¬ (x5 ≤ x2) → (wX10_letterIn_10 Γ l x2 (x3 / 27) (x5 + (-1)) σ K))) : wX10_letterIn_10 Γ l x2 x3 x5 σ K := by
  show G2 Γ l mX10_letterIn 10 [(2, .int x2), (3, .long x3), (5, .int x5)] [] σ K
  refine r_iload (dcx dX10_letterIn_c0 7 rfl) 2 rfl ?_
  refine r_iload_n (dcx dX10_letterIn_c0 8 rfl) 0 rfl ?_
  refine r_icmp_le (tgt := 28) (dcx dX10_letterIn_c0 9 rfl) (by decide) (fun q_ => ?_) (fun q_ => ?_)
  · have hyp := hyp.1 q_
    refine r_lload_n (dcx dX10_letterIn_c0 16 rfl) 1 rfl ?_
    refine r_ldc2_w (own := "MownLawnModel") (v := 27) rfl q1272 (dcx dX10_letterIn_c0 17 rfl) ?_
    refine r_lrem (dcx dX10_letterIn_c0 18 rfl) (by decide) ?_
    refine r_l2i (dcx dX10_letterIn_c0 19 rfl) ?_
    exact s_ret rfl rfl rfl hyp (dcx dX10_letterIn_c0 20 rfl)
  · have hyp := hyp.2 q_
    refine r_lload_n (dcx dX10_letterIn_c0 10 rfl) 1 rfl ?_
    refine r_ldc2_w (own := "MownLawnModel") (v := 27) rfl q1272 (dcx dX10_letterIn_c0 11 rfl) ?_
    refine r_ldiv (dcx dX10_letterIn_c0 12 rfl) (by decide) ?_
    refine r_lstore_n (lv1 := [(3, .long (x3 / 27)), (2, .int x2), (5, .int x5)]) (dcx dX10_letterIn_c0 13 rfl) (Nat.le_of_ble_eq_true rfl) rfl ?_
    refine r_iinc (lv1 := [(5, .int (x5 + (-1))), (3, .long (x3 / 27)), (2, .int x2)]) (dcx dX10_letterIn_c0 14 rfl) 2 rfl (Nat.le_of_ble_eq_true rfl) rfl ?_
    refine r_goto (tgt := 10) (dcx dX10_letterIn_c0 15 rfl) (by decide) ?_
    refine r_loc (lv1 := [(2, .int x2), (3, .long (x3 / 27)), (5, .int (x5 + (-1)))]) [2, 1, 0] rfl ?_
    exact hyp
def wX10_tellRow_72 (Γ : GE) (l : Launch) (x1 : Int32) (x2 : Int32) (x3 : Int32) (σ : SS) (K : Option Value → SS → Prop) : Prop := G2 Γ l mX10_tellRow 72 [(0, .ref 284), (1, .int x1), (2, .int x2), (3, .int x3)] [] σ K
set_option maxHeartbeats 4000000 in
set_option maxRecDepth 20000 in
theorem tX10_tellRow {Γ : GE} {l : Launch}  {σ : SS} {K : Option Value → SS → Prop}  (hyp : C2 Γ l mX10_must [.ref 284, .int 1] σ (Rv fun s1_ => (((s1_.1 284 13) ≤ 0 → (vp_in (σ.1 284 11) 403 ∧ (C2 Γ l mX10_lettersIn [.long (s1_.2.1 290 (Int32.toNatClampNeg (σ.1 284 11)))] s1_ (Ri fun r4_ s3_ => (vp_in (s3_.1 284 19) 2 ∧ ((¬ (s3_.1 295 (Int32.toNatClampNeg (s3_.1 284 19))) = 0 → (vp_in (s3_.1 284 19) 2 ∧ ((r4_ = (s3_.1 294 (Int32.toNatClampNeg (s3_.1 284 19))) → (wX10_tellRow_72 Γ l (σ.1 284 11) r4_ 0 s3_ K)) ∧ (¬ (r4_ = (s3_.1 294 (Int32.toNatClampNeg (s3_.1 284 19)))) → (C2 Γ l mX10_wrong [.ref 284, .int 6, .int (σ.1 284 11)] s3_ (Rv fun s5_ => (wX10_tellRow_72 Γ l (σ.1 284 11) r4_ 0 s5_ K))))))) ∧ ((s3_.1 295 (Int32.toNatClampNeg (s3_.1 284 19))) = 0 → (vp_in (s3_.1 284 19) 2 ∧ (∀ s7_ : SS, s7_ = sI s3_ 294 (Int32.toNatClampNeg (s3_.1 284 19)) r4_ → (vp_in (s7_.1 284 19) 2 ∧ ((r4_ = (s7_.1 294 (Int32.toNatClampNeg (s7_.1 284 19))) → (wX10_tellRow_72 Γ l (σ.1 284 11) r4_ 0 s7_ K)) ∧ (¬ (r4_ = (s7_.1 294 (Int32.toNatClampNeg (s7_.1 284 19)))) → (C2 Γ l mX10_wrong [.ref 284, .int 6, .int (σ.1 284 11)] s7_ (Rv fun s8_ => (wX10_tellRow_72 Γ l (σ.1 284 11) r4_ 0 s8_ K))))))))))))))) ∧ (¬ ((s1_.1 284 13) ≤ 0) → (K none s1_))))) : C2 Γ l mX10_tellRow [.ref 284] σ K := by
  refine c2_of (lv := [(0, .ref 284)]) (by decide) (Nat.le_of_ble_eq_true rfl) rfl ?_
  refine r_aload_n (dcx dX10_tellRow_c0 0 rfl) 0 rfl ?_
  refine s_geti fX10_218 (dcx dX10_tellRow_c0 1 rfl) F284_11 ?_
  refine r_istore_n (lv1 := [(1, .int (σ.1 284 11)), (0, .ref 284)]) (dcx dX10_tellRow_c0 2 rfl) (Nat.le_of_ble_eq_true rfl) rfl ?_
  refine r_aload_n (dcx dX10_tellRow_c0 3 rfl) 1 rfl ?_
  refine r_iconst (v := 1) (dcx dX10_tellRow_c0 4 rfl) rfl ?_
  refine s_callV (as := [.int 1]) (st := []) zX10_must kX10_tellRow_289 (dcx dX10_tellRow_c0 5 rfl) rfl rfl (Nat.le_of_ble_eq_true rfl) O284 rfl rfl (C2.mono hyp ?_)
  rintro _ s1_ ⟨rfl, hyp⟩
  show G2 Γ l mX10_tellRow 10 [(1, .int (σ.1 284 11)), (0, .ref 284)] [] s1_ K
  refine r_aload_n (dcx dX10_tellRow_c0 6 rfl) 1 rfl ?_
  refine s_geti fX10_215 (dcx dX10_tellRow_c0 7 rfl) F284_13 ?_
  refine r_if_le (tgt := 18) (dcx dX10_tellRow_c0 8 rfl) (by decide) (fun q_ => ?_) (fun q_ => ?_)
  · have hyp := hyp.1 q_
    refine r_aload_n (dcx dX10_tellRow_c0 10 rfl) 1 rfl ?_
    refine s_getr (b := 290) fX10_30 (dcx dX10_tellRow_c0 11 rfl) F284_8 ?_
    refine r_iload_n (dcx dX10_tellRow_c0 12 rfl) 0 rfl ?_
    obtain ⟨hb_, hyp⟩ := hyp
    refine s_lald (dcx dX10_tellRow_c0 13 rfl) A290 hb_ ?_
    refine s_callS (as := [.long (s1_.2.1 290 (Int32.toNatClampNeg (σ.1 284 11)))]) (st := []) zX10_lettersIn kX10_tellRow_295 (dcx dX10_tellRow_c0 14 rfl) rfl rfl (Nat.le_of_ble_eq_true rfl) (C2.mono hyp ?_)
    rintro _ s3_ ⟨r4_, rfl, hyp⟩
    show G2 Γ l mX10_tellRow 27 [(1, .int (σ.1 284 11)), (0, .ref 284)] [.int r4_] s3_ K
    refine r_istore_n (lv1 := [(2, .int r4_), (1, .int (σ.1 284 11)), (0, .ref 284)]) (dcx dX10_tellRow_c0 15 rfl) (Nat.le_of_ble_eq_true rfl) rfl ?_
    refine r_aload_n (dcx dX10_tellRow_c0 16 rfl) 2 rfl ?_
    refine s_getr (b := 295) fX10_49 (dcx dX10_tellRow_c0 17 rfl) F284_24 ?_
    refine r_aload_n (dcx dX10_tellRow_c0 18 rfl) 2 rfl ?_
    refine s_geti fX10_248 (dcx dX10_tellRow_c0 19 rfl) F284_19 ?_
    obtain ⟨hb_, hyp⟩ := hyp
    refine s_iald (dcx dX10_tellRow_c0 20 rfl) A295 hb_ ?_
    refine r_if_ne (tgt := 50) (dcx dX10_tellRow_c0 21 rfl) (by decide) (fun q_ => ?_) (fun q_ => ?_)
    · have hyp := hyp.1 q_
      refine r_iload_n (dcx dX10_tellRow_c0 28 rfl) 0 rfl ?_
      refine r_aload_n (dcx dX10_tellRow_c0 29 rfl) 2 rfl ?_
      refine s_getr (b := 294) fX10_46 (dcx dX10_tellRow_c0 30 rfl) F284_23 ?_
      refine r_aload_n (dcx dX10_tellRow_c0 31 rfl) 2 rfl ?_
      refine s_geti fX10_248 (dcx dX10_tellRow_c0 32 rfl) F284_19 ?_
      obtain ⟨hb_, hyp⟩ := hyp
      refine s_iald (dcx dX10_tellRow_c0 33 rfl) A294 hb_ ?_
      refine r_icmp_eq (tgt := 70) (dcx dX10_tellRow_c0 34 rfl) (by decide) (fun q_ => ?_) (fun q_ => ?_)
      · have hyp := hyp.1 q_
        refine r_iconst (v := 0) (dcx dX10_tellRow_c0 39 rfl) rfl ?_
        refine r_istore_n (lv1 := [(3, .int 0), (2, .int r4_), (1, .int (σ.1 284 11)), (0, .ref 284)]) (dcx dX10_tellRow_c1 0 rfl) (Nat.le_of_ble_eq_true rfl) rfl ?_
        refine r_loc (lv1 := [(0, .ref 284), (1, .int (σ.1 284 11)), (2, .int r4_), (3, .int 0)]) [3, 2, 1, 0] rfl ?_
        exact hyp
      · have hyp := hyp.2 q_
        refine r_aload_n (dcx dX10_tellRow_c0 35 rfl) 2 rfl ?_
        refine r_bipush (v := 6) (dcx dX10_tellRow_c0 36 rfl) rfl ?_
        refine r_iload_n (dcx dX10_tellRow_c0 37 rfl) 1 rfl ?_
        refine s_callV (as := [.int 6, .int (σ.1 284 11)]) (st := []) zX10_wrong kX10_tellRow_299 (dcx dX10_tellRow_c0 38 rfl) rfl rfl (Nat.le_of_ble_eq_true rfl) O284 rfl rfl (C2.mono hyp ?_)
        rintro _ s5_ ⟨rfl, hyp⟩
        show G2 Γ l mX10_tellRow 70 [(2, .int r4_), (1, .int (σ.1 284 11)), (0, .ref 284)] [] s5_ K
        refine r_iconst (v := 0) (dcx dX10_tellRow_c0 39 rfl) rfl ?_
        refine r_istore_n (lv1 := [(3, .int 0), (2, .int r4_), (1, .int (σ.1 284 11)), (0, .ref 284)]) (dcx dX10_tellRow_c1 0 rfl) (Nat.le_of_ble_eq_true rfl) rfl ?_
        refine r_loc (lv1 := [(0, .ref 284), (1, .int (σ.1 284 11)), (2, .int r4_), (3, .int 0)]) [3, 2, 1, 0] rfl ?_
        exact hyp
    · have hyp := hyp.2 q_
      refine r_aload_n (dcx dX10_tellRow_c0 22 rfl) 2 rfl ?_
      refine s_getr (b := 294) fX10_46 (dcx dX10_tellRow_c0 23 rfl) F284_23 ?_
      refine r_aload_n (dcx dX10_tellRow_c0 24 rfl) 2 rfl ?_
      refine s_geti fX10_248 (dcx dX10_tellRow_c0 25 rfl) F284_19 ?_
      refine r_iload_n (dcx dX10_tellRow_c0 26 rfl) 0 rfl ?_
      obtain ⟨hb_, hyp⟩ := hyp
      refine s_iast (dcx dX10_tellRow_c0 27 rfl) A294 hb_ ?_
      obtain ⟨s7_, es7_⟩ : ∃ z : SS, z = sI s3_ 294 (Int32.toNatClampNeg (s3_.1 284 19)) r4_ := ⟨_, rfl⟩
      rw [← es7_]
      have hyp := hyp s7_ es7_
      refine r_iload_n (dcx dX10_tellRow_c0 28 rfl) 0 rfl ?_
      refine r_aload_n (dcx dX10_tellRow_c0 29 rfl) 2 rfl ?_
      refine s_getr (b := 294) fX10_46 (dcx dX10_tellRow_c0 30 rfl) F284_23 ?_
      refine r_aload_n (dcx dX10_tellRow_c0 31 rfl) 2 rfl ?_
      refine s_geti fX10_248 (dcx dX10_tellRow_c0 32 rfl) F284_19 ?_
      obtain ⟨hb_, hyp⟩ := hyp
      refine s_iald (dcx dX10_tellRow_c0 33 rfl) A294 hb_ ?_
      refine r_icmp_eq (tgt := 70) (dcx dX10_tellRow_c0 34 rfl) (by decide) (fun q_ => ?_) (fun q_ => ?_)
      · have hyp := hyp.1 q_
        refine r_iconst (v := 0) (dcx dX10_tellRow_c0 39 rfl) rfl ?_
        refine r_istore_n (lv1 := [(3, .int 0), (2, .int r4_), (1, .int (σ.1 284 11)), (0, .ref 284)]) (dcx dX10_tellRow_c1 0 rfl) (Nat.le_of_ble_eq_true rfl) rfl ?_
        refine r_loc (lv1 := [(0, .ref 284), (1, .int (σ.1 284 11)), (2, .int r4_), (3, .int 0)]) [3, 2, 1, 0] rfl ?_
        exact hyp
      · have hyp := hyp.2 q_
        refine r_aload_n (dcx dX10_tellRow_c0 35 rfl) 2 rfl ?_
        refine r_bipush (v := 6) (dcx dX10_tellRow_c0 36 rfl) rfl ?_
        refine r_iload_n (dcx dX10_tellRow_c0 37 rfl) 1 rfl ?_
        refine s_callV (as := [.int 6, .int (σ.1 284 11)]) (st := []) zX10_wrong kX10_tellRow_299 (dcx dX10_tellRow_c0 38 rfl) rfl rfl (Nat.le_of_ble_eq_true rfl) O284 rfl rfl (C2.mono hyp ?_)
        rintro _ s8_ ⟨rfl, hyp⟩
        show G2 Γ l mX10_tellRow 70 [(2, .int r4_), (1, .int (σ.1 284 11)), (0, .ref 284)] [] s8_ K
        refine r_iconst (v := 0) (dcx dX10_tellRow_c0 39 rfl) rfl ?_
        refine r_istore_n (lv1 := [(3, .int 0), (2, .int r4_), (1, .int (σ.1 284 11)), (0, .ref 284)]) (dcx dX10_tellRow_c1 0 rfl) (Nat.le_of_ble_eq_true rfl) rfl ?_
        refine r_loc (lv1 := [(0, .ref 284), (1, .int (σ.1 284 11)), (2, .int r4_), (3, .int 0)]) [3, 2, 1, 0] rfl ?_
        exact hyp
  · have hyp := hyp.2 q_
    exact s_vret rfl hyp (dcx dX10_tellRow_c0 9 rfl)
set_option maxHeartbeats 4000000 in
set_option maxRecDepth 20000 in
theorem tX10_tellRow_72 {Γ : GE} {l : Launch} {x1 : Int32} {x2 : Int32} {x3 : Int32} {σ : SS} {K : Option Value → SS → Prop}  (hyp : (x2 ≤ x3 → (C2 Γ l mX10_must [.ref 284, .int 4] σ (Rv fun s1_ => ((¬ (s1_.1 284 13) = 0 → (K none s1_)) ∧ ((s1_.1 284 13) = 0 → (vp_in (s1_.1 284 19) 2 ∧ (vp_in (s1_.1 284 19) 2 ∧ (∀ s3_ : SS, s3_ = sI s1_ 295 (Int32.toNatClampNeg (s1_.1 284 19)) ((s1_.1 295 (Int32.toNatClampNeg (s1_.1 284 19))) + 1) → (K none s3_))))))))) ∧ (¬ (x2 ≤ x3) → (vp_in x1 403 ∧ (C2 Γ l mX10_letterIn [.long (σ.2.1 290 (Int32.toNatClampNeg x1)), .int x3] σ (Ri fun r5_ s4_ => (vp_in (s4_.1 284 19) 2 ∧ ((¬ r5_ = 16 → (vp_in (((48 * (s4_.1 284 19)) + (8 * (s4_.1 295 (Int32.toNatClampNeg (s4_.1 284 19))))) + x3) 96 ∧ (∀ s6_ : SS, s6_ = sI s4_ 296 (Int32.toNatClampNeg (((48 * (s4_.1 284 19)) + (8 * (s4_.1 295 (Int32.toNatClampNeg (s4_.1 284 19))))) + x3)) (r5_ - 1) → (wX10_tellRow_72 Γ l x1 x2 (x3 + 1) s6_ K)))) ∧ (r5_ = 16 → (vp_in (((48 * (s4_.1 284 19)) + (8 * (s4_.1 295 (Int32.toNatClampNeg (s4_.1 284 19))))) + x3) 96 ∧ (∀ s7_ : SS, s7_ = sI s4_ 296 (Int32.toNatClampNeg (((48 * (s4_.1 284 19)) + (8 * (s4_.1 295 (Int32.toNatClampNeg (s4_.1 284 19))))) + x3)) ((-2)) → (wX10_tellRow_72 Γ l x1 x2 (x3 + 1) s7_ K))))))))))) : wX10_tellRow_72 Γ l x1 x2 x3 σ K := by
  show G2 Γ l mX10_tellRow 72 [(0, .ref 284), (1, .int x1), (2, .int x2), (3, .int x3)] [] σ K
  refine r_iload_n (dcx dX10_tellRow_c1 1 rfl) 3 rfl ?_
  refine r_iload_n (dcx dX10_tellRow_c1 2 rfl) 2 rfl ?_
  refine r_icmp_ge (tgt := 138) (dcx dX10_tellRow_c1 3 rfl) (by decide) (fun q_ => ?_) (fun q_ => ?_)
  · have hyp := hyp.1 q_
    refine r_aload_n (dcx dX10_tellRow_c1 38 rfl) 0 rfl ?_
    refine r_iconst (v := 4) (dcx dX10_tellRow_c1 39 rfl) rfl ?_
    refine s_callV (as := [.int 4]) (st := []) zX10_must kX10_tellRow_289 (dcx dX10_tellRow_c2 0 rfl) rfl rfl (Nat.le_of_ble_eq_true rfl) O284 rfl rfl (C2.mono hyp ?_)
    rintro _ s1_ ⟨rfl, hyp⟩
    show G2 Γ l mX10_tellRow 143 [(0, .ref 284), (1, .int x1), (2, .int x2), (3, .int x3)] [] s1_ K
    refine r_aload_n (dcx dX10_tellRow_c2 1 rfl) 0 rfl ?_
    refine s_geti fX10_215 (dcx dX10_tellRow_c2 2 rfl) F284_13 ?_
    refine r_if_ne (tgt := 163) (dcx dX10_tellRow_c2 3 rfl) (by decide) (fun q_ => ?_) (fun q_ => ?_)
    · have hyp := hyp.1 q_
      exact s_vret rfl hyp (dcx dX10_tellRow_c2 13 rfl)
    · have hyp := hyp.2 q_
      refine r_aload_n (dcx dX10_tellRow_c2 4 rfl) 0 rfl ?_
      refine s_getr (b := 295) fX10_49 (dcx dX10_tellRow_c2 5 rfl) F284_24 ?_
      refine r_aload_n (dcx dX10_tellRow_c2 6 rfl) 0 rfl ?_
      refine s_geti fX10_248 (dcx dX10_tellRow_c2 7 rfl) F284_19 ?_
      refine r_dup2 (dcx dX10_tellRow_c2 8 rfl) rfl rfl ?_
      obtain ⟨hb_, hyp⟩ := hyp
      refine s_iald (dcx dX10_tellRow_c2 9 rfl) A295 hb_ ?_
      refine r_iconst (v := 1) (dcx dX10_tellRow_c2 10 rfl) rfl ?_
      refine r_iadd (dcx dX10_tellRow_c2 11 rfl) ?_
      obtain ⟨hb_, hyp⟩ := hyp
      refine s_iast (dcx dX10_tellRow_c2 12 rfl) A295 hb_ ?_
      obtain ⟨s3_, es3_⟩ : ∃ z : SS, z = sI s1_ 295 (Int32.toNatClampNeg (s1_.1 284 19)) ((s1_.1 295 (Int32.toNatClampNeg (s1_.1 284 19))) + 1) := ⟨_, rfl⟩
      rw [← es3_]
      have hyp := hyp s3_ es3_
      exact s_vret rfl hyp (dcx dX10_tellRow_c2 13 rfl)
  · have hyp := hyp.2 q_
    refine r_aload_n (dcx dX10_tellRow_c1 4 rfl) 0 rfl ?_
    refine s_getr (b := 290) fX10_30 (dcx dX10_tellRow_c1 5 rfl) F284_8 ?_
    refine r_iload_n (dcx dX10_tellRow_c1 6 rfl) 1 rfl ?_
    obtain ⟨hb_, hyp⟩ := hyp
    refine s_lald (dcx dX10_tellRow_c1 7 rfl) A290 hb_ ?_
    refine r_iload_n (dcx dX10_tellRow_c1 8 rfl) 3 rfl ?_
    refine s_callS (as := [.long (σ.2.1 290 (Int32.toNatClampNeg x1)), .int x3]) (st := []) zX10_letterIn kX10_tellRow_302 (dcx dX10_tellRow_c1 9 rfl) rfl rfl (Nat.le_of_ble_eq_true rfl) (C2.mono hyp ?_)
    rintro _ s4_ ⟨r5_, rfl, hyp⟩
    show G2 Γ l mX10_tellRow 87 [(0, .ref 284), (1, .int x1), (2, .int x2), (3, .int x3)] [.int r5_] s4_ K
    refine r_istore (lv1 := [(4, .int r5_), (0, .ref 284), (1, .int x1), (2, .int x2), (3, .int x3)]) (dcx dX10_tellRow_c1 10 rfl) (Nat.le_of_ble_eq_true rfl) rfl ?_
    refine r_aload_n (dcx dX10_tellRow_c1 11 rfl) 1 rfl ?_
    refine s_getr (b := 296) fX10_52 (dcx dX10_tellRow_c1 12 rfl) F284_25 ?_
    refine r_bipush (v := 48) (dcx dX10_tellRow_c1 13 rfl) rfl ?_
    refine r_aload_n (dcx dX10_tellRow_c1 14 rfl) 1 rfl ?_
    refine s_geti fX10_248 (dcx dX10_tellRow_c1 15 rfl) F284_19 ?_
    refine r_imul (dcx dX10_tellRow_c1 16 rfl) ?_
    refine r_bipush (v := 8) (dcx dX10_tellRow_c1 17 rfl) rfl ?_
    refine r_aload_n (dcx dX10_tellRow_c1 18 rfl) 1 rfl ?_
    refine s_getr (b := 295) fX10_49 (dcx dX10_tellRow_c1 19 rfl) F284_24 ?_
    refine r_aload_n (dcx dX10_tellRow_c1 20 rfl) 1 rfl ?_
    refine s_geti fX10_248 (dcx dX10_tellRow_c1 21 rfl) F284_19 ?_
    obtain ⟨hb_, hyp⟩ := hyp
    refine s_iald (dcx dX10_tellRow_c1 22 rfl) A295 hb_ ?_
    refine r_imul (dcx dX10_tellRow_c1 23 rfl) ?_
    refine r_iadd (dcx dX10_tellRow_c1 24 rfl) ?_
    refine r_iload_n (dcx dX10_tellRow_c1 25 rfl) 4 rfl ?_
    refine r_iadd (dcx dX10_tellRow_c1 26 rfl) ?_
    refine r_iload (dcx dX10_tellRow_c1 27 rfl) 0 rfl ?_
    refine r_bipush (v := 16) (dcx dX10_tellRow_c1 28 rfl) rfl ?_
    refine r_icmp_ne (tgt := 127) (dcx dX10_tellRow_c1 29 rfl) (by decide) (fun q_ => ?_) (fun q_ => ?_)
    · have hyp := hyp.1 q_
      refine r_iload (dcx dX10_tellRow_c1 32 rfl) 0 rfl ?_
      refine r_iconst (v := 1) (dcx dX10_tellRow_c1 33 rfl) rfl ?_
      refine r_isub (dcx dX10_tellRow_c1 34 rfl) ?_
      obtain ⟨hb_, hyp⟩ := hyp
      refine s_iast (dcx dX10_tellRow_c1 35 rfl) A296 hb_ ?_
      obtain ⟨s6_, es6_⟩ : ∃ z : SS, z = sI s4_ 296 (Int32.toNatClampNeg (((48 * (s4_.1 284 19)) + (8 * (s4_.1 295 (Int32.toNatClampNeg (s4_.1 284 19))))) + x3)) (r5_ - 1) := ⟨_, rfl⟩
      rw [← es6_]
      have hyp := hyp s6_ es6_
      refine r_iinc (lv1 := [(3, .int (x3 + 1)), (4, .int r5_), (0, .ref 284), (1, .int x1), (2, .int x2)]) (dcx dX10_tellRow_c1 36 rfl) 4 rfl (Nat.le_of_ble_eq_true rfl) rfl ?_
      refine r_goto (tgt := 72) (dcx dX10_tellRow_c1 37 rfl) (by decide) ?_
      refine r_loc (lv1 := [(0, .ref 284), (1, .int x1), (2, .int x2), (3, .int (x3 + 1))]) [2, 3, 4, 0] rfl ?_
      exact hyp
    · have hyp := hyp.2 q_
      refine r_bipush (v := (-2)) (dcx dX10_tellRow_c1 30 rfl) rfl ?_
      refine r_goto (tgt := 131) (dcx dX10_tellRow_c1 31 rfl) (by decide) ?_
      obtain ⟨hb_, hyp⟩ := hyp
      refine s_iast (dcx dX10_tellRow_c1 35 rfl) A296 hb_ ?_
      obtain ⟨s7_, es7_⟩ : ∃ z : SS, z = sI s4_ 296 (Int32.toNatClampNeg (((48 * (s4_.1 284 19)) + (8 * (s4_.1 295 (Int32.toNatClampNeg (s4_.1 284 19))))) + x3)) ((-2)) := ⟨_, rfl⟩
      rw [← es7_]
      have hyp := hyp s7_ es7_
      refine r_iinc (lv1 := [(3, .int (x3 + 1)), (4, .int r5_), (0, .ref 284), (1, .int x1), (2, .int x2)]) (dcx dX10_tellRow_c1 36 rfl) 4 rfl (Nat.le_of_ble_eq_true rfl) rfl ?_
      refine r_goto (tgt := 72) (dcx dX10_tellRow_c1 37 rfl) (by decide) ?_
      refine r_loc (lv1 := [(0, .ref 284), (1, .int x1), (2, .int x2), (3, .int (x3 + 1))]) [2, 3, 4, 0] rfl ?_
      exact hyp
def wX10_named_12 (Γ : GE) (l : Launch) (x1 : Int32) (x2 : Int32) (σ : SS) (K : Option Value → SS → Prop) : Prop := G2 Γ l mX10_named 12 [(0, .ref 284), (1, .int x1), (2, .int x2)] [] σ K
set_option maxHeartbeats 4000000 in
set_option maxRecDepth 20000 in
theorem tX10_named {Γ : GE} {l : Launch}  {σ : SS} {K : Option Value → SS → Prop}  (hyp : C2 Γ l mX10_must [.ref 284, .int 1] σ (Rv fun s1_ => (wX10_named_12 Γ l (σ.1 284 11) 0 s1_ K))) : C2 Γ l mX10_named [.ref 284] σ K := by
  refine c2_of (lv := [(0, .ref 284)]) (by decide) (Nat.le_of_ble_eq_true rfl) rfl ?_
  refine r_aload_n (dcx dX10_named_c0 0 rfl) 0 rfl ?_
  refine s_geti fX10_218 (dcx dX10_named_c0 1 rfl) F284_11 ?_
  refine r_istore_n (lv1 := [(1, .int (σ.1 284 11)), (0, .ref 284)]) (dcx dX10_named_c0 2 rfl) (Nat.le_of_ble_eq_true rfl) rfl ?_
  refine r_aload_n (dcx dX10_named_c0 3 rfl) 1 rfl ?_
  refine r_iconst (v := 1) (dcx dX10_named_c0 4 rfl) rfl ?_
  refine s_callV (as := [.int 1]) (st := []) zX10_must kX10_named_289 (dcx dX10_named_c0 5 rfl) rfl rfl (Nat.le_of_ble_eq_true rfl) O284 rfl rfl (C2.mono hyp ?_)
  rintro _ s1_ ⟨rfl, hyp⟩
  show G2 Γ l mX10_named 10 [(1, .int (σ.1 284 11)), (0, .ref 284)] [] s1_ K
  refine r_iconst (v := 0) (dcx dX10_named_c0 6 rfl) rfl ?_
  refine r_istore_n (lv1 := [(2, .int 0), (1, .int (σ.1 284 11)), (0, .ref 284)]) (dcx dX10_named_c0 7 rfl) (Nat.le_of_ble_eq_true rfl) rfl ?_
  refine r_loc (lv1 := [(0, .ref 284), (1, .int (σ.1 284 11)), (2, .int 0)]) [2, 1, 0] rfl ?_
  exact hyp
set_option maxHeartbeats 4000000 in
set_option maxRecDepth 20000 in
theorem tX10_named_12 {Γ : GE} {l : Launch} {x1 : Int32} {x2 : Int32} {σ : SS} {K : Option Value → SS → Prop}  (hyp : ((σ.1 284 20) ≤ x2 → (K (some (.int x1)) σ)) ∧ (¬ ((σ.1 284 20) ≤ x2) → ((¬ (σ.1 284 13) = 0 → (K (some (.int x1)) σ)) ∧ ((σ.1 284 13) = 0 → (vp_in x2 8 ∧ (vp_in x1 403 ∧ ((¬ (lg_cmp (σ.2.1 292 (Int32.toNatClampNeg x2)) (σ.2.1 290 (Int32.toNatClampNeg x1))) = 0 → (wX10_named_12 Γ l x1 (x2 + 1) σ K)) ∧ ((lg_cmp (σ.2.1 292 (Int32.toNatClampNeg x2)) (σ.2.1 290 (Int32.toNatClampNeg x1))) = 0 → (C2 Γ l mX10_wrong [.ref 284, .int 3, .int x1] σ (Rv fun s1_ => (wX10_named_12 Γ l x1 (x2 + 1) s1_ K))))))))))) : wX10_named_12 Γ l x1 x2 σ K := by
  show G2 Γ l mX10_named 12 [(0, .ref 284), (1, .int x1), (2, .int x2)] [] σ K
  refine r_iload_n (dcx dX10_named_c0 8 rfl) 2 rfl ?_
  refine r_aload_n (dcx dX10_named_c0 9 rfl) 0 rfl ?_
  refine s_geti fX10_251 (dcx dX10_named_c0 10 rfl) F284_20 ?_
  refine r_icmp_ge (tgt := 55) (dcx dX10_named_c0 11 rfl) (by decide) (fun q_ => ?_) (fun q_ => ?_)
  · have hyp := hyp.1 q_
    refine r_iload_n (dcx dX10_named_c0 31 rfl) 1 rfl ?_
    exact s_ret rfl rfl rfl hyp (dcx dX10_named_c0 32 rfl)
  · have hyp := hyp.2 q_
    refine r_aload_n (dcx dX10_named_c0 12 rfl) 0 rfl ?_
    refine s_geti fX10_215 (dcx dX10_named_c0 13 rfl) F284_13 ?_
    refine r_if_ne (tgt := 55) (dcx dX10_named_c0 14 rfl) (by decide) (fun q_ => ?_) (fun q_ => ?_)
    · have hyp := hyp.1 q_
      refine r_iload_n (dcx dX10_named_c0 31 rfl) 1 rfl ?_
      exact s_ret rfl rfl rfl hyp (dcx dX10_named_c0 32 rfl)
    · have hyp := hyp.2 q_
      refine r_aload_n (dcx dX10_named_c0 15 rfl) 0 rfl ?_
      refine s_getr (b := 292) fX10_40 (dcx dX10_named_c0 16 rfl) F284_21 ?_
      refine r_iload_n (dcx dX10_named_c0 17 rfl) 2 rfl ?_
      obtain ⟨hb_, hyp⟩ := hyp
      refine s_lald (dcx dX10_named_c0 18 rfl) A292 hb_ ?_
      refine r_aload_n (dcx dX10_named_c0 19 rfl) 0 rfl ?_
      refine s_getr (b := 290) fX10_30 (dcx dX10_named_c0 20 rfl) F284_8 ?_
      refine r_iload_n (dcx dX10_named_c0 21 rfl) 1 rfl ?_
      obtain ⟨hb_, hyp⟩ := hyp
      refine s_lald (dcx dX10_named_c0 22 rfl) A290 hb_ ?_
      refine r_lcmp (dcx dX10_named_c0 23 rfl) ?_
      refine r_if_ne (tgt := 49) (dcx dX10_named_c0 24 rfl) (by decide) (fun q_ => ?_) (fun q_ => ?_)
      · have hyp := hyp.1 q_
        refine r_iinc (lv1 := [(2, .int (x2 + 1)), (0, .ref 284), (1, .int x1)]) (dcx dX10_named_c0 29 rfl) 2 rfl (Nat.le_of_ble_eq_true rfl) rfl ?_
        refine r_goto (tgt := 12) (dcx dX10_named_c0 30 rfl) (by decide) ?_
        refine r_loc (lv1 := [(0, .ref 284), (1, .int x1), (2, .int (x2 + 1))]) [1, 2, 0] rfl ?_
        exact hyp
      · have hyp := hyp.2 q_
        refine r_aload_n (dcx dX10_named_c0 25 rfl) 0 rfl ?_
        refine r_iconst (v := 3) (dcx dX10_named_c0 26 rfl) rfl ?_
        refine r_iload_n (dcx dX10_named_c0 27 rfl) 1 rfl ?_
        refine s_callV (as := [.int 3, .int x1]) (st := []) zX10_wrong kX10_named_299 (dcx dX10_named_c0 28 rfl) rfl rfl (Nat.le_of_ble_eq_true rfl) O284 rfl rfl (C2.mono hyp ?_)
        rintro _ s1_ ⟨rfl, hyp⟩
        show G2 Γ l mX10_named 49 [(0, .ref 284), (1, .int x1), (2, .int x2)] [] s1_ K
        refine r_iinc (lv1 := [(2, .int (x2 + 1)), (0, .ref 284), (1, .int x1)]) (dcx dX10_named_c0 29 rfl) 2 rfl (Nat.le_of_ble_eq_true rfl) rfl ?_
        refine r_goto (tgt := 12) (dcx dX10_named_c0 30 rfl) (by decide) ?_
        refine r_loc (lv1 := [(0, .ref 284), (1, .int x1), (2, .int (x2 + 1))]) [1, 2, 0] rfl ?_
        exact hyp
set_option maxHeartbeats 4000000 in
set_option maxRecDepth 20000 in
theorem tX10_ends {Γ : GE} {l : Launch} {x1 : Int32} {x2 : Int32} {σ : SS} {K : Option Value → SS → Prop}  (hyp : C2 Γ l mX10_must [.ref 284, .int 4] σ (Rv fun s1_ => (((s1_.1 284 13) ≤ 0 → (vp_in x1 403 ∧ (vp_in (s1_.1 284 20) 8 ∧ (∀ s3_ : SS, s3_ = sJ s1_ 292 (Int32.toNatClampNeg (s1_.1 284 20)) (s1_.2.1 290 (Int32.toNatClampNeg x1)) → (vp_in (s3_.1 284 20) 8 ∧ (∀ s4_ : SS, s4_ = sI s3_ 293 (Int32.toNatClampNeg (s3_.1 284 20)) x2 → (∀ s5_ : SS, s5_ = sI s4_ 284 20 ((s4_.1 284 20) + 1) → (K none s5_)))))))) ∧ (¬ ((s1_.1 284 13) ≤ 0) → (K none s1_))))) : C2 Γ l mX10_ends [.ref 284, .int x1, .int x2] σ K := by
  refine c2_of (lv := [(0, .ref 284), (1, .int x1), (2, .int x2)]) (by decide) (Nat.le_of_ble_eq_true rfl) rfl ?_
  refine r_aload_n (dcx dX10_ends_c0 0 rfl) 0 rfl ?_
  refine r_iconst (v := 4) (dcx dX10_ends_c0 1 rfl) rfl ?_
  refine s_callV (as := [.int 4]) (st := []) zX10_must kX10_ends_289 (dcx dX10_ends_c0 2 rfl) rfl rfl (Nat.le_of_ble_eq_true rfl) O284 rfl rfl (C2.mono hyp ?_)
  rintro _ s1_ ⟨rfl, hyp⟩
  show G2 Γ l mX10_ends 5 [(0, .ref 284), (1, .int x1), (2, .int x2)] [] s1_ K
  refine r_aload_n (dcx dX10_ends_c0 3 rfl) 0 rfl ?_
  refine s_geti fX10_215 (dcx dX10_ends_c0 4 rfl) F284_13 ?_
  refine r_if_le (tgt := 13) (dcx dX10_ends_c0 5 rfl) (by decide) (fun q_ => ?_) (fun q_ => ?_)
  · have hyp := hyp.1 q_
    refine r_aload_n (dcx dX10_ends_c0 7 rfl) 0 rfl ?_
    refine s_getr (b := 292) fX10_40 (dcx dX10_ends_c0 8 rfl) F284_21 ?_
    refine r_aload_n (dcx dX10_ends_c0 9 rfl) 0 rfl ?_
    refine s_geti fX10_251 (dcx dX10_ends_c0 10 rfl) F284_20 ?_
    refine r_aload_n (dcx dX10_ends_c0 11 rfl) 0 rfl ?_
    refine s_getr (b := 290) fX10_30 (dcx dX10_ends_c0 12 rfl) F284_8 ?_
    refine r_iload_n (dcx dX10_ends_c0 13 rfl) 1 rfl ?_
    obtain ⟨hb_, hyp⟩ := hyp
    refine s_lald (dcx dX10_ends_c0 14 rfl) A290 hb_ ?_
    obtain ⟨hb_, hyp⟩ := hyp
    refine s_last (dcx dX10_ends_c0 15 rfl) A292 hb_ ?_
    obtain ⟨s3_, es3_⟩ : ∃ z : SS, z = sJ s1_ 292 (Int32.toNatClampNeg (s1_.1 284 20)) (s1_.2.1 290 (Int32.toNatClampNeg x1)) := ⟨_, rfl⟩
    rw [← es3_]
    have hyp := hyp s3_ es3_
    refine r_aload_n (dcx dX10_ends_c0 16 rfl) 0 rfl ?_
    refine s_getr (b := 293) fX10_43 (dcx dX10_ends_c0 17 rfl) F284_22 ?_
    refine r_aload_n (dcx dX10_ends_c0 18 rfl) 0 rfl ?_
    refine s_geti fX10_251 (dcx dX10_ends_c0 19 rfl) F284_20 ?_
    refine r_iload_n (dcx dX10_ends_c0 20 rfl) 2 rfl ?_
    obtain ⟨hb_, hyp⟩ := hyp
    refine s_iast (dcx dX10_ends_c0 21 rfl) A293 hb_ ?_
    obtain ⟨s4_, es4_⟩ : ∃ z : SS, z = sI s3_ 293 (Int32.toNatClampNeg (s3_.1 284 20)) x2 := ⟨_, rfl⟩
    rw [← es4_]
    have hyp := hyp s4_ es4_
    refine r_aload_n (dcx dX10_ends_c0 22 rfl) 0 rfl ?_
    refine r_dup (dcx dX10_ends_c0 23 rfl) rfl ?_
    refine s_geti fX10_251 (dcx dX10_ends_c0 24 rfl) F284_20 ?_
    refine r_iconst (v := 1) (dcx dX10_ends_c0 25 rfl) rfl ?_
    refine r_iadd (dcx dX10_ends_c0 26 rfl) ?_
    refine s_puti gX10_251 (dcx dX10_ends_c0 27 rfl) F284_20 ?_
    obtain ⟨s5_, es5_⟩ : ∃ z : SS, z = sI s4_ 284 20 ((s4_.1 284 20) + 1) := ⟨_, rfl⟩
    rw [← es5_]
    have hyp := hyp s5_ es5_
    exact s_vret rfl hyp (dcx dX10_ends_c0 28 rfl)
  · have hyp := hyp.2 q_
    exact s_vret rfl hyp (dcx dX10_ends_c0 6 rfl)
