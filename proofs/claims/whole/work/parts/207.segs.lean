def wX8_isWord_10 (Γ : GE) (l : Launch) (x1 : Int32) (x2 : Int32) (x3 : Int32) (σ : SS) (K : Option Value → SS → Prop) : Prop := G2 Γ l mX8_isWord 10 [(0, .ref 1), (1, .int x1), (2, .int x2), (3, .int x3)] [] σ K
set_option maxHeartbeats 4000000 in
set_option maxRecDepth 20000 in
theorem tX8_isWord {Γ : GE} {l : Launch} {x1 : Int32} {x2 : Int32} {σ : SS} {K : Option Value → SS → Prop}  (hyp : (x2 ≤ 6 → (wX8_isWord_10 Γ l x1 x2 0 σ K)) ∧ (¬ (x2 ≤ 6) → (K (some (.int 0)) σ))) : C2 Γ l mX8_isWord [.ref 1, .int x1, .int x2] σ K := by
  refine c2_of (lv := [(0, .ref 1), (1, .int x1), (2, .int x2)]) (by decide) (Nat.le_of_ble_eq_true rfl) rfl ?_
  refine r_iload_n (dcx dX8_isWord_c0 0 rfl) 2 rfl ?_
  refine r_bipush (v := 6) (dcx dX8_isWord_c0 1 rfl) rfl ?_
  refine r_icmp_le (tgt := 8) (dcx dX8_isWord_c0 2 rfl) (by decide) (fun q_ => ?_) (fun q_ => ?_)
  · have hyp := hyp.1 q_
    refine r_iconst (v := 0) (dcx dX8_isWord_c0 5 rfl) rfl ?_
    refine r_istore_n (lv1 := [(3, .int 0), (0, .ref 1), (1, .int x1), (2, .int x2)]) (dcx dX8_isWord_c0 6 rfl) (Nat.le_of_ble_eq_true rfl) rfl ?_
    refine r_loc (lv1 := [(0, .ref 1), (1, .int x1), (2, .int x2), (3, .int 0)]) [1, 2, 3, 0] rfl ?_
    exact hyp
  · have hyp := hyp.2 q_
    refine r_iconst (v := 0) (dcx dX8_isWord_c0 3 rfl) rfl ?_
    exact s_ret rfl rfl rfl hyp (dcx dX8_isWord_c0 4 rfl)
set_option maxHeartbeats 4000000 in
set_option maxRecDepth 20000 in
theorem tX8_isWord_10 {Γ : GE} {l : Launch} {x1 : Int32} {x2 : Int32} {x3 : Int32} {σ : SS} {K : Option Value → SS → Prop}  (hyp : ((6 : Int32) ≤ x3 → (K (some (.int 1)) σ)) ∧ (¬ ((6 : Int32) ≤ x3) → ((x2 ≤ x3 → (C2 Γ l mJ0_charAt_5068e [.float 1, .int ((x1 * 6) + x3)] σ (Ri fun r2_ s1_ => ((r2_ = 32 → (wX8_isWord_10 Γ l x1 x2 (x3 + 1) s1_ K)) ∧ (¬ (r2_ = 32) → (K (some (.int 0)) s1_)))))) ∧ (¬ (x2 ≤ x3) → (C2 Γ l mX8_letter [.long (σ.2.1 1 10), .int x3] σ (Ri fun r4_ s3_ => (C2 Γ l mJ0_charAt_5068e [.float 1, .int ((x1 * 6) + x3)] s3_ (Ri fun r6_ s5_ => ((r6_ = ((r4_ + 97) - 1) → (wX8_isWord_10 Γ l x1 x2 (x3 + 1) s5_ K)) ∧ (¬ (r6_ = ((r4_ + 97) - 1)) → (K (some (.int 0)) s5_))))))))))) : wX8_isWord_10 Γ l x1 x2 x3 σ K := by
  show G2 Γ l mX8_isWord 10 [(0, .ref 1), (1, .int x1), (2, .int x2), (3, .int x3)] [] σ K
  refine r_iload_n (dcx dX8_isWord_c0 7 rfl) 3 rfl ?_
  refine r_bipush (v := 6) (dcx dX8_isWord_c0 8 rfl) rfl ?_
  refine r_icmp_ge (tgt := 65) (dcx dX8_isWord_c0 9 rfl) (by decide) (fun q_ => ?_) (fun q_ => ?_)
  · have hyp := hyp.1 q_
    refine r_iconst (v := 1) (dcx dX8_isWord_c0 37 rfl) rfl ?_
    exact s_ret rfl rfl rfl hyp (dcx dX8_isWord_c0 38 rfl)
  · have hyp := hyp.2 q_
    refine r_iload_n (dcx dX8_isWord_c0 10 rfl) 3 rfl ?_
    refine r_iload_n (dcx dX8_isWord_c0 11 rfl) 2 rfl ?_
    refine r_icmp_ge (tgt := 37) (dcx dX8_isWord_c0 12 rfl) (by decide) (fun q_ => ?_) (fun q_ => ?_)
    · have hyp := hyp.1 q_
      refine r_bipush (v := 32) (dcx dX8_isWord_c0 22 rfl) rfl ?_
      refine r_istore (lv1 := [(4, .int 32), (0, .ref 1), (1, .int x1), (2, .int x2), (3, .int x3)]) (dcx dX8_isWord_c0 23 rfl) (Nat.le_of_ble_eq_true rfl) rfl ?_
      refine r_ldcS1 rfl (dcx dX8_isWord_c0 24 rfl) ?_
      refine r_iload_n (dcx dX8_isWord_c0 25 rfl) 2 rfl ?_
      refine r_bipush (v := 6) (dcx dX8_isWord_c0 26 rfl) rfl ?_
      refine r_imul (dcx dX8_isWord_c0 27 rfl) ?_
      refine r_iload_n (dcx dX8_isWord_c0 28 rfl) 4 rfl ?_
      refine r_iadd (dcx dX8_isWord_c0 29 rfl) ?_
      refine s_callVS (x := 1) (as := [.int ((x1 * 6) + x3)]) (st := []) (by decide) zJ0_charAt_5068e kX8_isWord_88 rfl (dcx dX8_isWord_c0 30 rfl) rfl rfl (Nat.le_of_ble_eq_true rfl) (C2.mono hyp ?_)
      rintro _ s1_ ⟨r2_, rfl, hyp⟩
      show G2 Γ l mX8_isWord 52 [(4, .int 32), (0, .ref 1), (1, .int x1), (2, .int x2), (3, .int x3)] [.int r2_] s1_ K
      refine r_iload (dcx dX8_isWord_c0 31 rfl) 0 rfl ?_
      refine r_icmp_eq (tgt := 59) (dcx dX8_isWord_c0 32 rfl) (by decide) (fun q_ => ?_) (fun q_ => ?_)
      · have hyp := hyp.1 q_
        refine r_iinc (lv1 := [(3, .int (x3 + 1)), (4, .int 32), (0, .ref 1), (1, .int x1), (2, .int x2)]) (dcx dX8_isWord_c0 35 rfl) 4 rfl (Nat.le_of_ble_eq_true rfl) rfl ?_
        refine r_goto (tgt := 10) (dcx dX8_isWord_c0 36 rfl) (by decide) ?_
        refine r_loc (lv1 := [(0, .ref 1), (1, .int x1), (2, .int x2), (3, .int (x3 + 1))]) [2, 3, 4, 0] rfl ?_
        exact hyp
      · have hyp := hyp.2 q_
        refine r_iconst (v := 0) (dcx dX8_isWord_c0 33 rfl) rfl ?_
        exact s_ret rfl rfl rfl hyp (dcx dX8_isWord_c0 34 rfl)
    · have hyp := hyp.2 q_
      refine r_aload_n (dcx dX8_isWord_c0 13 rfl) 0 rfl ?_
      refine s_getj fX8_47 (dcx dX8_isWord_c0 14 rfl) F1_10 ?_
      refine r_iload_n (dcx dX8_isWord_c0 15 rfl) 3 rfl ?_
      refine s_callS (as := [.long (σ.2.1 1 10), .int x3]) (st := []) zX8_letter kX8_isWord_82 (dcx dX8_isWord_c0 16 rfl) rfl rfl (Nat.le_of_ble_eq_true rfl) (C2.mono hyp ?_)
      rintro _ s3_ ⟨r4_, rfl, hyp⟩
      show G2 Γ l mX8_isWord 29 [(0, .ref 1), (1, .int x1), (2, .int x2), (3, .int x3)] [.int r4_] s3_ K
      refine r_bipush (v := 97) (dcx dX8_isWord_c0 17 rfl) rfl ?_
      refine r_iadd (dcx dX8_isWord_c0 18 rfl) ?_
      refine r_iconst (v := 1) (dcx dX8_isWord_c0 19 rfl) rfl ?_
      refine r_isub (dcx dX8_isWord_c0 20 rfl) ?_
      refine r_goto (tgt := 39) (dcx dX8_isWord_c0 21 rfl) (by decide) ?_
      refine r_istore (lv1 := [(4, .int ((r4_ + 97) - 1)), (0, .ref 1), (1, .int x1), (2, .int x2), (3, .int x3)]) (dcx dX8_isWord_c0 23 rfl) (Nat.le_of_ble_eq_true rfl) rfl ?_
      refine r_ldcS1 rfl (dcx dX8_isWord_c0 24 rfl) ?_
      refine r_iload_n (dcx dX8_isWord_c0 25 rfl) 2 rfl ?_
      refine r_bipush (v := 6) (dcx dX8_isWord_c0 26 rfl) rfl ?_
      refine r_imul (dcx dX8_isWord_c0 27 rfl) ?_
      refine r_iload_n (dcx dX8_isWord_c0 28 rfl) 4 rfl ?_
      refine r_iadd (dcx dX8_isWord_c0 29 rfl) ?_
      refine s_callVS (x := 1) (as := [.int ((x1 * 6) + x3)]) (st := []) (by decide) zJ0_charAt_5068e kX8_isWord_88 rfl (dcx dX8_isWord_c0 30 rfl) rfl rfl (Nat.le_of_ble_eq_true rfl) (C2.mono hyp ?_)
      rintro _ s5_ ⟨r6_, rfl, hyp⟩
      show G2 Γ l mX8_isWord 52 [(4, .int ((r4_ + 97) - 1)), (0, .ref 1), (1, .int x1), (2, .int x2), (3, .int x3)] [.int r6_] s5_ K
      refine r_iload (dcx dX8_isWord_c0 31 rfl) 0 rfl ?_
      refine r_icmp_eq (tgt := 59) (dcx dX8_isWord_c0 32 rfl) (by decide) (fun q_ => ?_) (fun q_ => ?_)
      · have hyp := hyp.1 q_
        refine r_iinc (lv1 := [(3, .int (x3 + 1)), (4, .int ((r4_ + 97) - 1)), (0, .ref 1), (1, .int x1), (2, .int x2)]) (dcx dX8_isWord_c0 35 rfl) 4 rfl (Nat.le_of_ble_eq_true rfl) rfl ?_
        refine r_goto (tgt := 10) (dcx dX8_isWord_c0 36 rfl) (by decide) ?_
        refine r_loc (lv1 := [(0, .ref 1), (1, .int x1), (2, .int x2), (3, .int (x3 + 1))]) [2, 3, 4, 0] rfl ?_
        exact hyp
      · have hyp := hyp.2 q_
        refine r_iconst (v := 0) (dcx dX8_isWord_c0 33 rfl) rfl ?_
        exact s_ret rfl rfl rfl hyp (dcx dX8_isWord_c0 34 rfl)
def wX8_takeDigits_7 (Γ : GE) (l : Launch) (x1 : Int32) (σ : SS) (K : Option Value → SS → Prop) : Prop := G2 Γ l mX8_takeDigits 7 [(0, .ref 1), (1, .int x1)] [] σ K
set_option maxHeartbeats 4000000 in
set_option maxRecDepth 20000 in
theorem tX8_takeDigits {Γ : GE} {l : Launch}  {σ : SS} {K : Option Value → SS → Prop}  (hyp : ∀ s1_ : SS, s1_ = sI σ 1 9 0 → (wX8_takeDigits_7 Γ l 0 s1_ K)) : C2 Γ l mX8_takeDigits [.ref 1] σ K := by
  refine c2_of (lv := [(0, .ref 1)]) (by decide) (Nat.le_of_ble_eq_true rfl) rfl ?_
  refine r_iconst (v := 0) (dcx dX8_takeDigits_c0 0 rfl) rfl ?_
  refine r_istore_n (lv1 := [(1, .int 0), (0, .ref 1)]) (dcx dX8_takeDigits_c0 1 rfl) (Nat.le_of_ble_eq_true rfl) rfl ?_
  refine r_aload_n (dcx dX8_takeDigits_c0 2 rfl) 1 rfl ?_
  refine r_iconst (v := 0) (dcx dX8_takeDigits_c0 3 rfl) rfl ?_
  refine s_puti gX8_44 (dcx dX8_takeDigits_c0 4 rfl) F1_9 ?_
  obtain ⟨s1_, es1_⟩ : ∃ z : SS, z = sI σ 1 9 0 := ⟨_, rfl⟩
  rw [← es1_]
  have hyp := hyp s1_ es1_
  refine r_loc (lv1 := [(0, .ref 1), (1, .int 0)]) [1, 0] rfl ?_
  exact hyp
set_option maxHeartbeats 4000000 in
set_option maxRecDepth 20000 in
theorem tX8_takeDigits_7 {Γ : GE} {l : Launch} {x1 : Int32} {σ : SS} {K : Option Value → SS → Prop}  (hyp : ((σ.1 1 1) ≤ (σ.1 1 6) → ((x1 ≤ 4 → (∀ s1_ : SS, s1_ = sI σ 1 7 3 → (K none s1_))) ∧ (¬ (x1 ≤ 4) → (∀ s2_ : SS, s2_ = sI σ 1 7 1 → (K none s2_))))) ∧ (¬ ((σ.1 1 1) ≤ (σ.1 1 6)) → (vp_in (σ.1 1 6) 2000 ∧ (C2 Γ l mX8_isDigit [.int (σ.1 2 (Int32.toNatClampNeg (σ.1 1 6)))] σ (Ri fun r4_ s3_ => ((r4_ = 0 → ((x1 ≤ 4 → (∀ s5_ : SS, s5_ = sI s3_ 1 7 3 → (K none s5_))) ∧ (¬ (x1 ≤ 4) → (∀ s6_ : SS, s6_ = sI s3_ 1 7 1 → (K none s6_))))) ∧ (¬ (r4_ = 0) → (((4 : Int32) ≤ x1 → (∀ s7_ : SS, s7_ = sI s3_ 1 6 ((s3_.1 1 6) + 1) → (wX8_takeDigits_7 Γ l (x1 + 1) s7_ K))) ∧ (¬ ((4 : Int32) ≤ x1) → (vp_in (s3_.1 1 6) 2000 ∧ (∀ s8_ : SS, s8_ = sI s3_ 1 9 (((10 * (s3_.1 1 9)) + (s3_.1 2 (Int32.toNatClampNeg (s3_.1 1 6)))) - 48) → (∀ s9_ : SS, s9_ = sI s8_ 1 6 ((s8_.1 1 6) + 1) → (wX8_takeDigits_7 Γ l (x1 + 1) s9_ K))))))))))))) : wX8_takeDigits_7 Γ l x1 σ K := by
  show G2 Γ l mX8_takeDigits 7 [(0, .ref 1), (1, .int x1)] [] σ K
  refine r_aload_n (dcx dX8_takeDigits_c0 5 rfl) 0 rfl ?_
  refine s_geti fX8_32 (dcx dX8_takeDigits_c0 6 rfl) F1_6 ?_
  refine r_aload_n (dcx dX8_takeDigits_c0 7 rfl) 0 rfl ?_
  refine s_geti fX8_28 (dcx dX8_takeDigits_c0 8 rfl) F1_1 ?_
  refine r_icmp_ge (tgt := 78) (dcx dX8_takeDigits_c0 9 rfl) (by decide) (fun q_ => ?_) (fun q_ => ?_)
  · have hyp := hyp.1 q_
    refine r_aload_n (dcx dX8_takeDigits_c1 2 rfl) 0 rfl ?_
    refine r_iload_n (dcx dX8_takeDigits_c1 3 rfl) 1 rfl ?_
    refine r_iconst (v := 4) (dcx dX8_takeDigits_c1 4 rfl) rfl ?_
    refine r_icmp_le (tgt := 88) (dcx dX8_takeDigits_c1 5 rfl) (by decide) (fun q_ => ?_) (fun q_ => ?_)
    · have hyp := hyp.1 q_
      refine r_iconst (v := 3) (dcx dX8_takeDigits_c1 8 rfl) rfl ?_
      refine s_puti gX8_35 (dcx dX8_takeDigits_c1 9 rfl) F1_7 ?_
      obtain ⟨s1_, es1_⟩ : ∃ z : SS, z = sI σ 1 7 3 := ⟨_, rfl⟩
      rw [← es1_]
      have hyp := hyp s1_ es1_
      exact s_vret rfl hyp (dcx dX8_takeDigits_c1 10 rfl)
    · have hyp := hyp.2 q_
      refine r_iconst (v := 1) (dcx dX8_takeDigits_c1 6 rfl) rfl ?_
      refine r_goto (tgt := 89) (dcx dX8_takeDigits_c1 7 rfl) (by decide) ?_
      refine s_puti gX8_35 (dcx dX8_takeDigits_c1 9 rfl) F1_7 ?_
      obtain ⟨s2_, es2_⟩ : ∃ z : SS, z = sI σ 1 7 1 := ⟨_, rfl⟩
      rw [← es2_]
      have hyp := hyp s2_ es2_
      exact s_vret rfl hyp (dcx dX8_takeDigits_c1 10 rfl)
  · have hyp := hyp.2 q_
    refine r_aload_n (dcx dX8_takeDigits_c0 10 rfl) 0 rfl ?_
    refine s_getr (b := 2) fX8_9 (dcx dX8_takeDigits_c0 11 rfl) F1_0 ?_
    refine r_aload_n (dcx dX8_takeDigits_c0 12 rfl) 0 rfl ?_
    refine s_geti fX8_32 (dcx dX8_takeDigits_c0 13 rfl) F1_6 ?_
    obtain ⟨hb_, hyp⟩ := hyp
    refine s_iald (dcx dX8_takeDigits_c0 14 rfl) A2 hb_ ?_
    refine s_callS (as := [.int (σ.1 2 (Int32.toNatClampNeg (σ.1 1 6)))]) (st := []) zX8_isDigit kX8_takeDigits_61 (dcx dX8_takeDigits_c0 15 rfl) rfl rfl (Nat.le_of_ble_eq_true rfl) (C2.mono hyp ?_)
    rintro _ s3_ ⟨r4_, rfl, hyp⟩
    show G2 Γ l mX8_takeDigits 30 [(0, .ref 1), (1, .int x1)] [.int r4_] s3_ K
    refine r_if_eq (tgt := 78) (dcx dX8_takeDigits_c0 16 rfl) (by decide) (fun q_ => ?_) (fun q_ => ?_)
    · have hyp := hyp.1 q_
      refine r_aload_n (dcx dX8_takeDigits_c1 2 rfl) 0 rfl ?_
      refine r_iload_n (dcx dX8_takeDigits_c1 3 rfl) 1 rfl ?_
      refine r_iconst (v := 4) (dcx dX8_takeDigits_c1 4 rfl) rfl ?_
      refine r_icmp_le (tgt := 88) (dcx dX8_takeDigits_c1 5 rfl) (by decide) (fun q_ => ?_) (fun q_ => ?_)
      · have hyp := hyp.1 q_
        refine r_iconst (v := 3) (dcx dX8_takeDigits_c1 8 rfl) rfl ?_
        refine s_puti gX8_35 (dcx dX8_takeDigits_c1 9 rfl) F1_7 ?_
        obtain ⟨s5_, es5_⟩ : ∃ z : SS, z = sI s3_ 1 7 3 := ⟨_, rfl⟩
        rw [← es5_]
        have hyp := hyp s5_ es5_
        exact s_vret rfl hyp (dcx dX8_takeDigits_c1 10 rfl)
      · have hyp := hyp.2 q_
        refine r_iconst (v := 1) (dcx dX8_takeDigits_c1 6 rfl) rfl ?_
        refine r_goto (tgt := 89) (dcx dX8_takeDigits_c1 7 rfl) (by decide) ?_
        refine s_puti gX8_35 (dcx dX8_takeDigits_c1 9 rfl) F1_7 ?_
        obtain ⟨s6_, es6_⟩ : ∃ z : SS, z = sI s3_ 1 7 1 := ⟨_, rfl⟩
        rw [← es6_]
        have hyp := hyp s6_ es6_
        exact s_vret rfl hyp (dcx dX8_takeDigits_c1 10 rfl)
    · have hyp := hyp.2 q_
      refine r_iload_n (dcx dX8_takeDigits_c0 17 rfl) 1 rfl ?_
      refine r_iconst (v := 4) (dcx dX8_takeDigits_c0 18 rfl) rfl ?_
      refine r_icmp_ge (tgt := 62) (dcx dX8_takeDigits_c0 19 rfl) (by decide) (fun q_ => ?_) (fun q_ => ?_)
      · have hyp := hyp.1 q_
        refine r_iinc (lv1 := [(1, .int (x1 + 1)), (0, .ref 1)]) (dcx dX8_takeDigits_c0 34 rfl) 1 rfl (Nat.le_of_ble_eq_true rfl) rfl ?_
        refine r_aload_n (dcx dX8_takeDigits_c0 35 rfl) 1 rfl ?_
        refine r_dup (dcx dX8_takeDigits_c0 36 rfl) rfl ?_
        refine s_geti fX8_32 (dcx dX8_takeDigits_c0 37 rfl) F1_6 ?_
        refine r_iconst (v := 1) (dcx dX8_takeDigits_c0 38 rfl) rfl ?_
        refine r_iadd (dcx dX8_takeDigits_c0 39 rfl) ?_
        refine s_puti gX8_32 (dcx dX8_takeDigits_c1 0 rfl) F1_6 ?_
        obtain ⟨s7_, es7_⟩ : ∃ z : SS, z = sI s3_ 1 6 ((s3_.1 1 6) + 1) := ⟨_, rfl⟩
        rw [← es7_]
        have hyp := hyp s7_ es7_
        refine r_goto (tgt := 7) (dcx dX8_takeDigits_c1 1 rfl) (by decide) ?_
        refine r_loc (lv1 := [(0, .ref 1), (1, .int (x1 + 1))]) [1, 0] rfl ?_
        exact hyp
      · have hyp := hyp.2 q_
        refine r_aload_n (dcx dX8_takeDigits_c0 20 rfl) 0 rfl ?_
        refine r_bipush (v := 10) (dcx dX8_takeDigits_c0 21 rfl) rfl ?_
        refine r_aload_n (dcx dX8_takeDigits_c0 22 rfl) 0 rfl ?_
        refine s_geti fX8_44 (dcx dX8_takeDigits_c0 23 rfl) F1_9 ?_
        refine r_imul (dcx dX8_takeDigits_c0 24 rfl) ?_
        refine r_aload_n (dcx dX8_takeDigits_c0 25 rfl) 0 rfl ?_
        refine s_getr (b := 2) fX8_9 (dcx dX8_takeDigits_c0 26 rfl) F1_0 ?_
        refine r_aload_n (dcx dX8_takeDigits_c0 27 rfl) 0 rfl ?_
        refine s_geti fX8_32 (dcx dX8_takeDigits_c0 28 rfl) F1_6 ?_
        obtain ⟨hb_, hyp⟩ := hyp
        refine s_iald (dcx dX8_takeDigits_c0 29 rfl) A2 hb_ ?_
        refine r_iadd (dcx dX8_takeDigits_c0 30 rfl) ?_
        refine r_bipush (v := 48) (dcx dX8_takeDigits_c0 31 rfl) rfl ?_
        refine r_isub (dcx dX8_takeDigits_c0 32 rfl) ?_
        refine s_puti gX8_44 (dcx dX8_takeDigits_c0 33 rfl) F1_9 ?_
        obtain ⟨s8_, es8_⟩ : ∃ z : SS, z = sI s3_ 1 9 (((10 * (s3_.1 1 9)) + (s3_.1 2 (Int32.toNatClampNeg (s3_.1 1 6)))) - 48) := ⟨_, rfl⟩
        rw [← es8_]
        have hyp := hyp s8_ es8_
        refine r_iinc (lv1 := [(1, .int (x1 + 1)), (0, .ref 1)]) (dcx dX8_takeDigits_c0 34 rfl) 1 rfl (Nat.le_of_ble_eq_true rfl) rfl ?_
        refine r_aload_n (dcx dX8_takeDigits_c0 35 rfl) 1 rfl ?_
        refine r_dup (dcx dX8_takeDigits_c0 36 rfl) rfl ?_
        refine s_geti fX8_32 (dcx dX8_takeDigits_c0 37 rfl) F1_6 ?_
        refine r_iconst (v := 1) (dcx dX8_takeDigits_c0 38 rfl) rfl ?_
        refine r_iadd (dcx dX8_takeDigits_c0 39 rfl) ?_
        refine s_puti gX8_32 (dcx dX8_takeDigits_c1 0 rfl) F1_6 ?_
        obtain ⟨s9_, es9_⟩ : ∃ z : SS, z = sI s8_ 1 6 ((s8_.1 1 6) + 1) := ⟨_, rfl⟩
        rw [← es9_]
        have hyp := hyp s9_ es9_
        refine r_goto (tgt := 7) (dcx dX8_takeDigits_c1 1 rfl) (by decide) ?_
        refine r_loc (lv1 := [(0, .ref 1), (1, .int (x1 + 1))]) [1, 0] rfl ?_
        exact hyp
set_option maxHeartbeats 4000000 in
set_option maxRecDepth 20000 in
theorem tX8_isBlank {Γ : GE} {l : Launch} {x0 : Int32} {σ : SS} {K : Option Value → SS → Prop}  (hyp : (x0 = 9 → (K (some (.int 1)) σ)) ∧ (¬ (x0 = 9) → ((x0 = 10 → (K (some (.int 1)) σ)) ∧ (¬ (x0 = 10) → ((x0 = 13 → (K (some (.int 1)) σ)) ∧ (¬ (x0 = 13) → ((¬ x0 = 32 → (K (some (.int 0)) σ)) ∧ (x0 = 32 → (K (some (.int 1)) σ))))))))) : C2 Γ l mX8_isBlank [.int x0] σ K := by
  refine c2_of (lv := [(0, .int x0)]) (by decide) (Nat.le_of_ble_eq_true rfl) rfl ?_
  refine r_iload_n (dcx dX8_isBlank_c0 0 rfl) 0 rfl ?_
  refine r_bipush (v := 9) (dcx dX8_isBlank_c0 1 rfl) rfl ?_
  refine r_icmp_eq (tgt := 24) (dcx dX8_isBlank_c0 2 rfl) (by decide) (fun q_ => ?_) (fun q_ => ?_)
  · have hyp := hyp.1 q_
    refine r_iconst (v := 1) (dcx dX8_isBlank_c0 12 rfl) rfl ?_
    refine r_goto (tgt := 29) (dcx dX8_isBlank_c0 13 rfl) (by decide) ?_
    exact s_ret rfl rfl rfl hyp (dcx dX8_isBlank_c0 15 rfl)
  · have hyp := hyp.2 q_
    refine r_iload_n (dcx dX8_isBlank_c0 3 rfl) 0 rfl ?_
    refine r_bipush (v := 10) (dcx dX8_isBlank_c0 4 rfl) rfl ?_
    refine r_icmp_eq (tgt := 24) (dcx dX8_isBlank_c0 5 rfl) (by decide) (fun q_ => ?_) (fun q_ => ?_)
    · have hyp := hyp.1 q_
      refine r_iconst (v := 1) (dcx dX8_isBlank_c0 12 rfl) rfl ?_
      refine r_goto (tgt := 29) (dcx dX8_isBlank_c0 13 rfl) (by decide) ?_
      exact s_ret rfl rfl rfl hyp (dcx dX8_isBlank_c0 15 rfl)
    · have hyp := hyp.2 q_
      refine r_iload_n (dcx dX8_isBlank_c0 6 rfl) 0 rfl ?_
      refine r_bipush (v := 13) (dcx dX8_isBlank_c0 7 rfl) rfl ?_
      refine r_icmp_eq (tgt := 24) (dcx dX8_isBlank_c0 8 rfl) (by decide) (fun q_ => ?_) (fun q_ => ?_)
      · have hyp := hyp.1 q_
        refine r_iconst (v := 1) (dcx dX8_isBlank_c0 12 rfl) rfl ?_
        refine r_goto (tgt := 29) (dcx dX8_isBlank_c0 13 rfl) (by decide) ?_
        exact s_ret rfl rfl rfl hyp (dcx dX8_isBlank_c0 15 rfl)
      · have hyp := hyp.2 q_
        refine r_iload_n (dcx dX8_isBlank_c0 9 rfl) 0 rfl ?_
        refine r_bipush (v := 32) (dcx dX8_isBlank_c0 10 rfl) rfl ?_
        refine r_icmp_ne (tgt := 28) (dcx dX8_isBlank_c0 11 rfl) (by decide) (fun q_ => ?_) (fun q_ => ?_)
        · have hyp := hyp.1 q_
          refine r_iconst (v := 0) (dcx dX8_isBlank_c0 14 rfl) rfl ?_
          exact s_ret rfl rfl rfl hyp (dcx dX8_isBlank_c0 15 rfl)
        · have hyp := hyp.2 q_
          refine r_iconst (v := 1) (dcx dX8_isBlank_c0 12 rfl) rfl ?_
          refine r_goto (tgt := 29) (dcx dX8_isBlank_c0 13 rfl) (by decide) ?_
          exact s_ret rfl rfl rfl hyp (dcx dX8_isBlank_c0 15 rfl)
set_option maxHeartbeats 4000000 in
set_option maxRecDepth 20000 in
theorem tX8_isLetter {Γ : GE} {l : Launch} {x0 : Int32} {σ : SS} {K : Option Value → SS → Prop}  (hyp : (x0 < 97 → (K (some (.int 0)) σ)) ∧ (¬ (x0 < 97) → (((122 : Int32) < x0 → (K (some (.int 0)) σ)) ∧ (¬ ((122 : Int32) < x0) → (K (some (.int 1)) σ))))) : C2 Γ l mX8_isLetter [.int x0] σ K := by
  refine c2_of (lv := [(0, .int x0)]) (by decide) (Nat.le_of_ble_eq_true rfl) rfl ?_
  refine r_iload_n (dcx dX8_isLetter_c0 0 rfl) 0 rfl ?_
  refine r_bipush (v := 97) (dcx dX8_isLetter_c0 1 rfl) rfl ?_
  refine r_icmp_lt (tgt := 16) (dcx dX8_isLetter_c0 2 rfl) (by decide) (fun q_ => ?_) (fun q_ => ?_)
  · have hyp := hyp.1 q_
    refine r_iconst (v := 0) (dcx dX8_isLetter_c0 8 rfl) rfl ?_
    exact s_ret rfl rfl rfl hyp (dcx dX8_isLetter_c0 9 rfl)
  · have hyp := hyp.2 q_
    refine r_iload_n (dcx dX8_isLetter_c0 3 rfl) 0 rfl ?_
    refine r_bipush (v := 122) (dcx dX8_isLetter_c0 4 rfl) rfl ?_
    refine r_icmp_gt (tgt := 16) (dcx dX8_isLetter_c0 5 rfl) (by decide) (fun q_ => ?_) (fun q_ => ?_)
    · have hyp := hyp.1 q_
      refine r_iconst (v := 0) (dcx dX8_isLetter_c0 8 rfl) rfl ?_
      exact s_ret rfl rfl rfl hyp (dcx dX8_isLetter_c0 9 rfl)
    · have hyp := hyp.2 q_
      refine r_iconst (v := 1) (dcx dX8_isLetter_c0 6 rfl) rfl ?_
      refine r_goto (tgt := 17) (dcx dX8_isLetter_c0 7 rfl) (by decide) ?_
      exact s_ret rfl rfl rfl hyp (dcx dX8_isLetter_c0 9 rfl)
set_option maxHeartbeats 4000000 in
set_option maxRecDepth 20000 in
theorem tX8_isDigit {Γ : GE} {l : Launch} {x0 : Int32} {σ : SS} {K : Option Value → SS → Prop}  (hyp : (x0 < 48 → (K (some (.int 0)) σ)) ∧ (¬ (x0 < 48) → (((57 : Int32) < x0 → (K (some (.int 0)) σ)) ∧ (¬ ((57 : Int32) < x0) → (K (some (.int 1)) σ))))) : C2 Γ l mX8_isDigit [.int x0] σ K := by
  refine c2_of (lv := [(0, .int x0)]) (by decide) (Nat.le_of_ble_eq_true rfl) rfl ?_
  refine r_iload_n (dcx dX8_isDigit_c0 0 rfl) 0 rfl ?_
  refine r_bipush (v := 48) (dcx dX8_isDigit_c0 1 rfl) rfl ?_
  refine r_icmp_lt (tgt := 16) (dcx dX8_isDigit_c0 2 rfl) (by decide) (fun q_ => ?_) (fun q_ => ?_)
  · have hyp := hyp.1 q_
    refine r_iconst (v := 0) (dcx dX8_isDigit_c0 8 rfl) rfl ?_
    exact s_ret rfl rfl rfl hyp (dcx dX8_isDigit_c0 9 rfl)
  · have hyp := hyp.2 q_
    refine r_iload_n (dcx dX8_isDigit_c0 3 rfl) 0 rfl ?_
    refine r_bipush (v := 57) (dcx dX8_isDigit_c0 4 rfl) rfl ?_
    refine r_icmp_gt (tgt := 16) (dcx dX8_isDigit_c0 5 rfl) (by decide) (fun q_ => ?_) (fun q_ => ?_)
    · have hyp := hyp.1 q_
      refine r_iconst (v := 0) (dcx dX8_isDigit_c0 8 rfl) rfl ?_
      exact s_ret rfl rfl rfl hyp (dcx dX8_isDigit_c0 9 rfl)
    · have hyp := hyp.2 q_
      refine r_iconst (v := 1) (dcx dX8_isDigit_c0 6 rfl) rfl ?_
      refine r_goto (tgt := 17) (dcx dX8_isDigit_c0 7 rfl) (by decide) ?_
      exact s_ret rfl rfl rfl hyp (dcx dX8_isDigit_c0 9 rfl)
set_option maxHeartbeats 4000000 in
set_option maxRecDepth 20000 in
theorem tX8_letter {Γ : GE} {l : Launch} {x0 : Int64} {x2 : Int32} {σ : SS} {K : Option Value → SS → Prop}  (hyp : K (some (.int (Int64.toInt32 ((x0 >>> (Int32.toInt64 (5 * x2) &&& 63)) &&& 31)))) σ) : C2 Γ l mX8_letter [.long x0, .int x2] σ K := by
  refine c2_of (lv := [(0, .long x0), (2, .int x2)]) (by decide) (Nat.le_of_ble_eq_true rfl) rfl ?_
  refine r_lload_n (dcx dX8_letter_c0 0 rfl) 0 rfl ?_
  refine r_iconst (v := 5) (dcx dX8_letter_c0 1 rfl) rfl ?_
  refine r_iload_n (dcx dX8_letter_c0 2 rfl) 1 rfl ?_
  refine r_imul (dcx dX8_letter_c0 3 rfl) ?_
  refine r_lshr (dcx dX8_letter_c0 4 rfl) ?_
  refine r_ldc2_w (own := "MownLawn$Tokens") (v := 31) rfl q535 (dcx dX8_letter_c0 5 rfl) ?_
  refine r_land (dcx dX8_letter_c0 6 rfl) ?_
  refine r_l2i (dcx dX8_letter_c0 7 rfl) ?_
  exact s_ret rfl rfl rfl hyp (dcx dX8_letter_c0 8 rfl)
def wX8_letters_2 (Γ : GE) (l : Launch) (x0 : Int64) (x2 : Int32) (σ : SS) (K : Option Value → SS → Prop) : Prop := G2 Γ l mX8_letters 2 [(0, .long x0), (2, .int x2)] [] σ K
set_option maxHeartbeats 4000000 in
set_option maxRecDepth 20000 in
theorem tX8_letters {Γ : GE} {l : Launch} {x0 : Int64} {σ : SS} {K : Option Value → SS → Prop}  (hyp : wX8_letters_2 Γ l x0 0 σ K) : C2 Γ l mX8_letters [.long x0] σ K := by
  refine c2_of (lv := [(0, .long x0)]) (by decide) (Nat.le_of_ble_eq_true rfl) rfl ?_
  refine r_iconst (v := 0) (dcx dX8_letters_c0 0 rfl) rfl ?_
  refine r_istore_n (lv1 := [(2, .int 0), (0, .long x0)]) (dcx dX8_letters_c0 1 rfl) (Nat.le_of_ble_eq_true rfl) rfl ?_
  refine r_loc (lv1 := [(0, .long x0), (2, .int 0)]) [1, 0] rfl ?_
  exact hyp
set_option maxHeartbeats 4000000 in
set_option maxRecDepth 20000 in
theorem tX8_letters_2 {Γ : GE} {l : Launch} {x0 : Int64} {x2 : Int32} {σ : SS} {K : Option Value → SS → Prop}  (hyp : ((8 : Int32) ≤ x2 → (K (some (.int x2)) σ)) ∧ (¬ ((8 : Int32) ≤ x2) → (C2 Γ l mX8_letter [.long x0, .int x2] σ (Ri fun r2_ s1_ => ((r2_ = 0 → (K (some (.int x2)) s1_)) ∧ (¬ (r2_ = 0) → (wX8_letters_2 Γ l x0 (x2 + 1) s1_ K))))))) : wX8_letters_2 Γ l x0 x2 σ K := by
  show G2 Γ l mX8_letters 2 [(0, .long x0), (2, .int x2)] [] σ K
  refine r_iload_n (dcx dX8_letters_c0 2 rfl) 1 rfl ?_
  refine r_bipush (v := 8) (dcx dX8_letters_c0 3 rfl) rfl ?_
  refine r_icmp_ge (tgt := 22) (dcx dX8_letters_c0 4 rfl) (by decide) (fun q_ => ?_) (fun q_ => ?_)
  · have hyp := hyp.1 q_
    refine r_iload_n (dcx dX8_letters_c0 11 rfl) 1 rfl ?_
    exact s_ret rfl rfl rfl hyp (dcx dX8_letters_c0 12 rfl)
  · have hyp := hyp.2 q_
    refine r_lload_n (dcx dX8_letters_c0 5 rfl) 0 rfl ?_
    refine r_iload_n (dcx dX8_letters_c0 6 rfl) 1 rfl ?_
    refine s_callS (as := [.long x0, .int x2]) (st := []) zX8_letter kX8_letters_82 (dcx dX8_letters_c0 7 rfl) rfl rfl (Nat.le_of_ble_eq_true rfl) (C2.mono hyp ?_)
    rintro _ s1_ ⟨r2_, rfl, hyp⟩
    show G2 Γ l mX8_letters 13 [(0, .long x0), (2, .int x2)] [.int r2_] s1_ K
    refine r_if_eq (tgt := 22) (dcx dX8_letters_c0 8 rfl) (by decide) (fun q_ => ?_) (fun q_ => ?_)
    · have hyp := hyp.1 q_
      refine r_iload_n (dcx dX8_letters_c0 11 rfl) 1 rfl ?_
      exact s_ret rfl rfl rfl hyp (dcx dX8_letters_c0 12 rfl)
    · have hyp := hyp.2 q_
      refine r_iinc (lv1 := [(2, .int (x2 + 1)), (0, .long x0)]) (dcx dX8_letters_c0 9 rfl) 1 rfl (Nat.le_of_ble_eq_true rfl) rfl ?_
      refine r_goto (tgt := 2) (dcx dX8_letters_c0 10 rfl) (by decide) ?_
      refine r_loc (lv1 := [(0, .long x0), (2, .int (x2 + 1))]) [1, 0] rfl ?_
      exact hyp
set_option maxHeartbeats 4000000 in
set_option maxRecDepth 20000 in
theorem tX9_feed {Γ : GE} {l : Launch} {x1 : Int32} {x2 : Int32} {x3 : Int32} {x4 : Int32} {x5 : Int32} {σ : SS} {K : Option Value → SS → Prop}  (hyp : (((σ.1 1 1) + 20) ≤ 2000 → (C2 Γ l mX8_addFour [.ref 1, .int x1] σ (Rv fun s1_ => (C2 Γ l mX8_addFour [.ref 1, .int x2] s1_ (Rv fun s3_ => (C2 Γ l mX8_addFour [.ref 1, .int x3] s3_ (Rv fun s5_ => (C2 Γ l mX8_addFour [.ref 1, .int x4] s5_ (Rv fun s7_ => (C2 Γ l mX8_addFour [.ref 1, .int x5] s7_ (Rv fun s9_ => (K (some (.int (s9_.1 1 1))) s9_)))))))))))) ∧ (¬ (((σ.1 1 1) + 20) ≤ 2000) → (K (some (.int ((-1)))) σ))) : C2 Γ l mX9_feed [.ref 0, .int x1, .int x2, .int x3, .int x4, .int x5] σ K := by
  refine c2_of (lv := [(0, .ref 0), (1, .int x1), (2, .int x2), (3, .int x3), (4, .int x4), (5, .int x5)]) (by decide) (Nat.le_of_ble_eq_true rfl) rfl ?_
  refine r_aload_n (dcx dX9_feed_c0 0 rfl) 0 rfl ?_
  refine s_getr (b := 1) fX9_10 (dcx dX9_feed_c0 1 rfl) F0_0 ?_
  refine s_geti fX9_77 (dcx dX9_feed_c0 2 rfl) F1_1 ?_
  refine r_bipush (v := 20) (dcx dX9_feed_c0 3 rfl) rfl ?_
  refine r_iadd (dcx dX9_feed_c0 4 rfl) ?_
  refine r_sipush (v := 2000) (dcx dX9_feed_c0 5 rfl) rfl ?_
  refine r_icmp_le (tgt := 18) (dcx dX9_feed_c0 6 rfl) (by decide) (fun q_ => ?_) (fun q_ => ?_)
  · have hyp := hyp.1 q_
    refine r_aload_n (dcx dX9_feed_c0 9 rfl) 0 rfl ?_
    refine s_getr (b := 1) fX9_10 (dcx dX9_feed_c0 10 rfl) F0_0 ?_
    refine r_iload_n (dcx dX9_feed_c0 11 rfl) 1 rfl ?_
    refine s_callV (as := [.int x1]) (st := []) zX8_addFour kX9_feed_80 (dcx dX9_feed_c0 12 rfl) rfl rfl (Nat.le_of_ble_eq_true rfl) O1 rfl rfl (C2.mono hyp ?_)
    rintro _ s1_ ⟨rfl, hyp⟩
    show G2 Γ l mX9_feed 26 [(0, .ref 0), (1, .int x1), (2, .int x2), (3, .int x3), (4, .int x4), (5, .int x5)] [] s1_ K
    refine r_aload_n (dcx dX9_feed_c0 13 rfl) 0 rfl ?_
    refine s_getr (b := 1) fX9_10 (dcx dX9_feed_c0 14 rfl) F0_0 ?_
    refine r_iload_n (dcx dX9_feed_c0 15 rfl) 2 rfl ?_
    refine s_callV (as := [.int x2]) (st := []) zX8_addFour kX9_feed_80 (dcx dX9_feed_c0 16 rfl) rfl rfl (Nat.le_of_ble_eq_true rfl) O1 rfl rfl (C2.mono hyp ?_)
    rintro _ s3_ ⟨rfl, hyp⟩
    show G2 Γ l mX9_feed 34 [(0, .ref 0), (1, .int x1), (2, .int x2), (3, .int x3), (4, .int x4), (5, .int x5)] [] s3_ K
    refine r_aload_n (dcx dX9_feed_c0 17 rfl) 0 rfl ?_
    refine s_getr (b := 1) fX9_10 (dcx dX9_feed_c0 18 rfl) F0_0 ?_
    refine r_iload_n (dcx dX9_feed_c0 19 rfl) 3 rfl ?_
    refine s_callV (as := [.int x3]) (st := []) zX8_addFour kX9_feed_80 (dcx dX9_feed_c0 20 rfl) rfl rfl (Nat.le_of_ble_eq_true rfl) O1 rfl rfl (C2.mono hyp ?_)
    rintro _ s5_ ⟨rfl, hyp⟩
    show G2 Γ l mX9_feed 42 [(0, .ref 0), (1, .int x1), (2, .int x2), (3, .int x3), (4, .int x4), (5, .int x5)] [] s5_ K
    refine r_aload_n (dcx dX9_feed_c0 21 rfl) 0 rfl ?_
    refine s_getr (b := 1) fX9_10 (dcx dX9_feed_c0 22 rfl) F0_0 ?_
    refine r_iload (dcx dX9_feed_c0 23 rfl) 4 rfl ?_
    refine s_callV (as := [.int x4]) (st := []) zX8_addFour kX9_feed_80 (dcx dX9_feed_c0 24 rfl) rfl rfl (Nat.le_of_ble_eq_true rfl) O1 rfl rfl (C2.mono hyp ?_)
    rintro _ s7_ ⟨rfl, hyp⟩
    show G2 Γ l mX9_feed 51 [(0, .ref 0), (1, .int x1), (2, .int x2), (3, .int x3), (4, .int x4), (5, .int x5)] [] s7_ K
    refine r_aload_n (dcx dX9_feed_c0 25 rfl) 0 rfl ?_
    refine s_getr (b := 1) fX9_10 (dcx dX9_feed_c0 26 rfl) F0_0 ?_
    refine r_iload (dcx dX9_feed_c0 27 rfl) 5 rfl ?_
    refine s_callV (as := [.int x5]) (st := []) zX8_addFour kX9_feed_80 (dcx dX9_feed_c0 28 rfl) rfl rfl (Nat.le_of_ble_eq_true rfl) O1 rfl rfl (C2.mono hyp ?_)
    rintro _ s9_ ⟨rfl, hyp⟩
    show G2 Γ l mX9_feed 60 [(0, .ref 0), (1, .int x1), (2, .int x2), (3, .int x3), (4, .int x4), (5, .int x5)] [] s9_ K
    refine r_aload_n (dcx dX9_feed_c0 29 rfl) 0 rfl ?_
    refine s_getr (b := 1) fX9_10 (dcx dX9_feed_c0 30 rfl) F0_0 ?_
    refine s_geti fX9_77 (dcx dX9_feed_c0 31 rfl) F1_1 ?_
    exact s_ret rfl rfl rfl hyp (dcx dX9_feed_c0 32 rfl)
  · have hyp := hyp.2 q_
    refine r_iconst (v := (-1)) (dcx dX9_feed_c0 7 rfl) rfl ?_
    exact s_ret rfl rfl rfl hyp (dcx dX9_feed_c0 8 rfl)
set_option maxHeartbeats 4000000 in
set_option maxRecDepth 20000 in
theorem tX9_back {Γ : GE} {l : Launch} {x1 : Int32} {σ : SS} {K : Option Value → SS → Prop}  (hyp : (x1 < 0 → (K (some (.int ((-1)))) σ)) ∧ (¬ (x1 < 0) → ((x1 ≤ (σ.1 1 1) → (∀ s1_ : SS, s1_ = sI σ 1 1 ((σ.1 1 1) - x1) → (K (some (.int (s1_.1 1 1))) s1_))) ∧ (¬ (x1 ≤ (σ.1 1 1)) → (K (some (.int ((-1)))) σ))))) : C2 Γ l mX9_back [.ref 0, .int x1] σ K := by
  refine c2_of (lv := [(0, .ref 0), (1, .int x1)]) (by decide) (Nat.le_of_ble_eq_true rfl) rfl ?_
  refine r_iload_n (dcx dX9_back_c0 0 rfl) 1 rfl ?_
  refine r_if_lt (tgt := 15) (dcx dX9_back_c0 1 rfl) (by decide) (fun q_ => ?_) (fun q_ => ?_)
  · have hyp := hyp.1 q_
    refine r_iconst (v := (-1)) (dcx dX9_back_c0 7 rfl) rfl ?_
    exact s_ret rfl rfl rfl hyp (dcx dX9_back_c0 8 rfl)
  · have hyp := hyp.2 q_
    refine r_iload_n (dcx dX9_back_c0 2 rfl) 1 rfl ?_
    refine r_aload_n (dcx dX9_back_c0 3 rfl) 0 rfl ?_
    refine s_getr (b := 1) fX9_10 (dcx dX9_back_c0 4 rfl) F0_0 ?_
    refine s_geti fX9_77 (dcx dX9_back_c0 5 rfl) F1_1 ?_
    refine r_icmp_le (tgt := 17) (dcx dX9_back_c0 6 rfl) (by decide) (fun q_ => ?_) (fun q_ => ?_)
    · have hyp := hyp.1 q_
      refine r_aload_n (dcx dX9_back_c0 9 rfl) 0 rfl ?_
      refine s_getr (b := 1) fX9_10 (dcx dX9_back_c0 10 rfl) F0_0 ?_
      refine r_dup (dcx dX9_back_c0 11 rfl) rfl ?_
      refine s_geti fX9_77 (dcx dX9_back_c0 12 rfl) F1_1 ?_
      refine r_iload_n (dcx dX9_back_c0 13 rfl) 1 rfl ?_
      refine r_isub (dcx dX9_back_c0 14 rfl) ?_
      refine s_puti gX9_77 (dcx dX9_back_c0 15 rfl) F1_1 ?_
      obtain ⟨s1_, es1_⟩ : ∃ z : SS, z = sI σ 1 1 ((σ.1 1 1) - x1) := ⟨_, rfl⟩
      rw [← es1_]
      have hyp := hyp s1_ es1_
      refine r_aload_n (dcx dX9_back_c0 16 rfl) 0 rfl ?_
      refine s_getr (b := 1) fX9_10 (dcx dX9_back_c0 17 rfl) F0_0 ?_
      refine s_geti fX9_77 (dcx dX9_back_c0 18 rfl) F1_1 ?_
      exact s_ret rfl rfl rfl hyp (dcx dX9_back_c0 19 rfl)
    · have hyp := hyp.2 q_
      refine r_iconst (v := (-1)) (dcx dX9_back_c0 7 rfl) rfl ?_
      exact s_ret rfl rfl rfl hyp (dcx dX9_back_c0 8 rfl)
def wX9_read_20 (Γ : GE) (l : Launch) (x1 : Int32) (σ : SS) (K : Option Value → SS → Prop) : Prop := G2 Γ l mX9_read 20 [(0, .ref 0), (1, .int x1)] [] σ K
set_option maxHeartbeats 4000000 in
set_option maxRecDepth 20000 in
theorem tX9_read {Γ : GE} {l : Launch}  {σ : SS} {K : Option Value → SS → Prop}  (hyp : C2 Γ l mX8_findAll [.ref 1] σ (Rv fun s1_ => (∃ b3_ : Nat, s1_.2.2 0 9 = b3_ ∧ isP b3_ ∧ (C2 Γ l mX7_begin [.ref 7, .ref b3_] s1_ (Rv fun s4_ => (wX9_read_20 Γ l 0 s4_ K)))))) : C2 Γ l mX9_read [.ref 0] σ K := by
  refine c2_of (lv := [(0, .ref 0)]) (by decide) (Nat.le_of_ble_eq_true rfl) rfl ?_
  refine r_aload_n (dcx dX9_read_c0 0 rfl) 0 rfl ?_
  refine s_getr (b := 1) fX9_10 (dcx dX9_read_c0 1 rfl) F0_0 ?_
  refine s_callV (as := []) (st := []) zX8_findAll kX9_read_84 (dcx dX9_read_c0 2 rfl) rfl rfl (Nat.le_of_ble_eq_true rfl) O1 rfl rfl (C2.mono hyp ?_)
  rintro _ s1_ ⟨rfl, hyp⟩
  show G2 Γ l mX9_read 7 [(0, .ref 0)] [] s1_ K
  refine r_aload_n (dcx dX9_read_c0 3 rfl) 0 rfl ?_
  refine s_getr (b := 7) fX9_21 (dcx dX9_read_c0 4 rfl) F0_1 ?_
  refine r_aload_n (dcx dX9_read_c0 5 rfl) 0 rfl ?_
  obtain ⟨b3_, eb3_, hb3_, hyp⟩ := hyp
  refine s_getmE fX9_32 (dcx dX9_read_c0 6 rfl) F0_9 eb3_ (nzP hb3_) ?_
  refine s_callV (as := [.ref b3_]) (st := []) zX7_begin kX9_read_87 (dcx dX9_read_c0 7 rfl) rfl rfl (Nat.le_of_ble_eq_true rfl) O7 rfl rfl (C2.mono hyp ?_)
  rintro _ s4_ ⟨rfl, hyp⟩
  show G2 Γ l mX9_read 18 [(0, .ref 0)] [] s4_ K
  refine r_iconst (v := 0) (dcx dX9_read_c0 8 rfl) rfl ?_
  refine r_istore_n (lv1 := [(1, .int 0), (0, .ref 0)]) (dcx dX9_read_c0 9 rfl) (Nat.le_of_ble_eq_true rfl) rfl ?_
  refine r_loc (lv1 := [(0, .ref 0), (1, .int 0)]) [1, 0] rfl ?_
  exact hyp
set_option maxHeartbeats 4000000 in
set_option maxRecDepth 20000 in
theorem tX9_read_20 {Γ : GE} {l : Launch} {x1 : Int32} {σ : SS} {K : Option Value → SS → Prop}  (hyp : ((400 : Int32) < x1 → (C2 Γ l mX7_end [.ref 7] σ (Rv fun s1_ => (∀ s3_ : SS, s3_ = sI s1_ 0 10 (s1_.1 7 5) → (∀ s4_ : SS, s4_ = sI s3_ 1 1 0 → ((¬ (s4_.1 7 4) = 0 → (K (some (.int (s4_.1 7 4))) s4_)) ∧ ((s4_.1 7 4) = 0 → (C2 Γ l mX9_beginAnew [.ref 0] s4_ (Rv fun s5_ => (K (some (.int (s5_.1 7 4))) s5_)))))))))) ∧ (¬ ((400 : Int32) < x1) → (C2 Γ l mX7_goesOn [.ref 7] σ (Ri fun r8_ s7_ => ((r8_ = 0 → (C2 Γ l mX7_end [.ref 7] s7_ (Rv fun s9_ => (∀ s11_ : SS, s11_ = sI s9_ 0 10 (s9_.1 7 5) → (∀ s12_ : SS, s12_ = sI s11_ 1 1 0 → ((¬ (s12_.1 7 4) = 0 → (K (some (.int (s12_.1 7 4))) s12_)) ∧ ((s12_.1 7 4) = 0 → (C2 Γ l mX9_beginAnew [.ref 0] s12_ (Rv fun s13_ => (K (some (.int (s13_.1 7 4))) s13_)))))))))) ∧ (¬ (r8_ = 0) → (C2 Γ l mX7_takeTell [.ref 7] s7_ (Rv fun s15_ => (wX9_read_20 Γ l (x1 + 1) s15_ K))))))))) : wX9_read_20 Γ l x1 σ K := by
  show G2 Γ l mX9_read 20 [(0, .ref 0), (1, .int x1)] [] σ K
  refine r_iload_n (dcx dX9_read_c0 10 rfl) 1 rfl ?_
  refine r_sipush (v := 400) (dcx dX9_read_c0 11 rfl) rfl ?_
  refine r_icmp_gt (tgt := 50) (dcx dX9_read_c0 12 rfl) (by decide) (fun q_ => ?_) (fun q_ => ?_)
  · have hyp := hyp.1 q_
    refine r_aload_n (dcx dX9_read_c0 22 rfl) 0 rfl ?_
    refine s_getr (b := 7) fX9_21 (dcx dX9_read_c0 23 rfl) F0_1 ?_
    refine s_callV (as := []) (st := []) zX7_end kX9_read_97 (dcx dX9_read_c0 24 rfl) rfl rfl (Nat.le_of_ble_eq_true rfl) O7 rfl rfl (C2.mono hyp ?_)
    rintro _ s1_ ⟨rfl, hyp⟩
    show G2 Γ l mX9_read 57 [(0, .ref 0), (1, .int x1)] [] s1_ K
    refine r_aload_n (dcx dX9_read_c0 25 rfl) 0 rfl ?_
    refine r_aload_n (dcx dX9_read_c0 26 rfl) 0 rfl ?_
    refine s_getr (b := 7) fX9_21 (dcx dX9_read_c0 27 rfl) F0_1 ?_
    refine s_geti fX9_100 (dcx dX9_read_c0 28 rfl) F7_5 ?_
    refine s_puti gX9_73 (dcx dX9_read_c0 29 rfl) F0_10 ?_
    obtain ⟨s3_, es3_⟩ : ∃ z : SS, z = sI s1_ 0 10 (s1_.1 7 5) := ⟨_, rfl⟩
    rw [← es3_]
    have hyp := hyp s3_ es3_
    refine r_aload_n (dcx dX9_read_c0 30 rfl) 0 rfl ?_
    refine s_getr (b := 1) fX9_10 (dcx dX9_read_c0 31 rfl) F0_0 ?_
    refine r_iconst (v := 0) (dcx dX9_read_c0 32 rfl) rfl ?_
    refine s_puti gX9_77 (dcx dX9_read_c0 33 rfl) F1_1 ?_
    obtain ⟨s4_, es4_⟩ : ∃ z : SS, z = sI s3_ 1 1 0 := ⟨_, rfl⟩
    rw [← es4_]
    have hyp := hyp s4_ es4_
    refine r_aload_n (dcx dX9_read_c0 34 rfl) 0 rfl ?_
    refine s_getr (b := 7) fX9_21 (dcx dX9_read_c0 35 rfl) F0_1 ?_
    refine s_geti fX9_101 (dcx dX9_read_c0 36 rfl) F7_4 ?_
    refine r_if_ne (tgt := 90) (dcx dX9_read_c0 37 rfl) (by decide) (fun q_ => ?_) (fun q_ => ?_)
    · have hyp := hyp.1 q_
      refine r_aload_n (dcx dX9_read_c1 0 rfl) 0 rfl ?_
      refine s_getr (b := 7) fX9_21 (dcx dX9_read_c1 1 rfl) F0_1 ?_
      refine s_geti fX9_101 (dcx dX9_read_c1 2 rfl) F7_4 ?_
      exact s_ret rfl rfl rfl hyp (dcx dX9_read_c1 3 rfl)
    · have hyp := hyp.2 q_
      refine r_aload_n (dcx dX9_read_c0 38 rfl) 0 rfl ?_
      refine s_callV (as := []) (st := []) zX9_beginAnew kX9_read_104 (dcx dX9_read_c0 39 rfl) rfl rfl (Nat.le_of_ble_eq_true rfl) O0 rfl rfl (C2.mono hyp ?_)
      rintro _ s5_ ⟨rfl, hyp⟩
      show G2 Γ l mX9_read 90 [(0, .ref 0), (1, .int x1)] [] s5_ K
      refine r_aload_n (dcx dX9_read_c1 0 rfl) 0 rfl ?_
      refine s_getr (b := 7) fX9_21 (dcx dX9_read_c1 1 rfl) F0_1 ?_
      refine s_geti fX9_101 (dcx dX9_read_c1 2 rfl) F7_4 ?_
      exact s_ret rfl rfl rfl hyp (dcx dX9_read_c1 3 rfl)
  · have hyp := hyp.2 q_
    refine r_aload_n (dcx dX9_read_c0 13 rfl) 0 rfl ?_
    refine s_getr (b := 7) fX9_21 (dcx dX9_read_c0 14 rfl) F0_1 ?_
    refine s_callV (as := []) (st := []) zX7_goesOn kX9_read_90 (dcx dX9_read_c0 15 rfl) rfl rfl (Nat.le_of_ble_eq_true rfl) O7 rfl rfl (C2.mono hyp ?_)
    rintro _ s7_ ⟨r8_, rfl, hyp⟩
    show G2 Γ l mX9_read 34 [(0, .ref 0), (1, .int x1)] [.int r8_] s7_ K
    refine r_if_eq (tgt := 50) (dcx dX9_read_c0 16 rfl) (by decide) (fun q_ => ?_) (fun q_ => ?_)
    · have hyp := hyp.1 q_
      refine r_aload_n (dcx dX9_read_c0 22 rfl) 0 rfl ?_
      refine s_getr (b := 7) fX9_21 (dcx dX9_read_c0 23 rfl) F0_1 ?_
      refine s_callV (as := []) (st := []) zX7_end kX9_read_97 (dcx dX9_read_c0 24 rfl) rfl rfl (Nat.le_of_ble_eq_true rfl) O7 rfl rfl (C2.mono hyp ?_)
      rintro _ s9_ ⟨rfl, hyp⟩
      show G2 Γ l mX9_read 57 [(0, .ref 0), (1, .int x1)] [] s9_ K
      refine r_aload_n (dcx dX9_read_c0 25 rfl) 0 rfl ?_
      refine r_aload_n (dcx dX9_read_c0 26 rfl) 0 rfl ?_
      refine s_getr (b := 7) fX9_21 (dcx dX9_read_c0 27 rfl) F0_1 ?_
      refine s_geti fX9_100 (dcx dX9_read_c0 28 rfl) F7_5 ?_
      refine s_puti gX9_73 (dcx dX9_read_c0 29 rfl) F0_10 ?_
      obtain ⟨s11_, es11_⟩ : ∃ z : SS, z = sI s9_ 0 10 (s9_.1 7 5) := ⟨_, rfl⟩
      rw [← es11_]
      have hyp := hyp s11_ es11_
      refine r_aload_n (dcx dX9_read_c0 30 rfl) 0 rfl ?_
      refine s_getr (b := 1) fX9_10 (dcx dX9_read_c0 31 rfl) F0_0 ?_
      refine r_iconst (v := 0) (dcx dX9_read_c0 32 rfl) rfl ?_
      refine s_puti gX9_77 (dcx dX9_read_c0 33 rfl) F1_1 ?_
      obtain ⟨s12_, es12_⟩ : ∃ z : SS, z = sI s11_ 1 1 0 := ⟨_, rfl⟩
      rw [← es12_]
      have hyp := hyp s12_ es12_
      refine r_aload_n (dcx dX9_read_c0 34 rfl) 0 rfl ?_
      refine s_getr (b := 7) fX9_21 (dcx dX9_read_c0 35 rfl) F0_1 ?_
      refine s_geti fX9_101 (dcx dX9_read_c0 36 rfl) F7_4 ?_
      refine r_if_ne (tgt := 90) (dcx dX9_read_c0 37 rfl) (by decide) (fun q_ => ?_) (fun q_ => ?_)
      · have hyp := hyp.1 q_
        refine r_aload_n (dcx dX9_read_c1 0 rfl) 0 rfl ?_
        refine s_getr (b := 7) fX9_21 (dcx dX9_read_c1 1 rfl) F0_1 ?_
        refine s_geti fX9_101 (dcx dX9_read_c1 2 rfl) F7_4 ?_
        exact s_ret rfl rfl rfl hyp (dcx dX9_read_c1 3 rfl)
      · have hyp := hyp.2 q_
        refine r_aload_n (dcx dX9_read_c0 38 rfl) 0 rfl ?_
        refine s_callV (as := []) (st := []) zX9_beginAnew kX9_read_104 (dcx dX9_read_c0 39 rfl) rfl rfl (Nat.le_of_ble_eq_true rfl) O0 rfl rfl (C2.mono hyp ?_)
        rintro _ s13_ ⟨rfl, hyp⟩
        show G2 Γ l mX9_read 90 [(0, .ref 0), (1, .int x1)] [] s13_ K
        refine r_aload_n (dcx dX9_read_c1 0 rfl) 0 rfl ?_
        refine s_getr (b := 7) fX9_21 (dcx dX9_read_c1 1 rfl) F0_1 ?_
        refine s_geti fX9_101 (dcx dX9_read_c1 2 rfl) F7_4 ?_
        exact s_ret rfl rfl rfl hyp (dcx dX9_read_c1 3 rfl)
    · have hyp := hyp.2 q_
      refine r_aload_n (dcx dX9_read_c0 17 rfl) 0 rfl ?_
      refine s_getr (b := 7) fX9_21 (dcx dX9_read_c0 18 rfl) F0_1 ?_
      refine s_callV (as := []) (st := []) zX7_takeTell kX9_read_94 (dcx dX9_read_c0 19 rfl) rfl rfl (Nat.le_of_ble_eq_true rfl) O7 rfl rfl (C2.mono hyp ?_)
      rintro _ s15_ ⟨rfl, hyp⟩
      show G2 Γ l mX9_read 44 [(0, .ref 0), (1, .int x1)] [] s15_ K
      refine r_iinc (lv1 := [(1, .int (x1 + 1)), (0, .ref 0)]) (dcx dX9_read_c0 20 rfl) 1 rfl (Nat.le_of_ble_eq_true rfl) rfl ?_
      refine r_goto (tgt := 20) (dcx dX9_read_c0 21 rfl) (by decide) ?_
      refine r_loc (lv1 := [(0, .ref 0), (1, .int (x1 + 1))]) [1, 0] rfl ?_
      exact hyp
set_option maxHeartbeats 4000000 in
set_option maxRecDepth 20000 in
theorem tX9_beginAnew {Γ : GE} {l : Launch}  {σ : SS} {K : Option Value → SS → Prop}  (hyp : ∃ b1_ : Nat, σ.2.2 0 8 = b1_ ∧ isP b1_ ∧ (∃ b2_ : Nat, σ.2.2 0 9 = b2_ ∧ isP b2_ ∧ (∀ s3_ : SS, s3_ = sR σ 0 8 b2_ → (∀ s4_ : SS, s4_ = sR s3_ 0 9 b1_ → (∃ b5_ : Nat, s4_.2.2 0 8 = b5_ ∧ isP b5_ ∧ (∀ s6_ : SS, s6_ = sR s4_ 46 3 b5_ → (∃ b7_ : Nat, s6_.2.2 0 8 = b7_ ∧ isP b7_ ∧ (C2 Γ l mX4_begin [.ref 269, .ref b7_] s6_ (Rv fun s8_ => (C2 Γ l mX5_clear [.ref 50] s8_ (Rv fun s10_ => (C2 Γ l mX0_clear [.ref 219] s10_ (Rv fun s12_ => (K none s12_)))))))))))))) : C2 Γ l mX9_beginAnew [.ref 0] σ K := by
  refine c2_of (lv := [(0, .ref 0)]) (by decide) (Nat.le_of_ble_eq_true rfl) rfl ?_
  refine r_aload_n (dcx dX9_beginAnew_c0 0 rfl) 0 rfl ?_
  obtain ⟨b1_, eb1_, hb1_, hyp⟩ := hyp
  refine s_getmE fX9_28 (dcx dX9_beginAnew_c0 1 rfl) F0_8 eb1_ (nzP hb1_) ?_
  refine r_astore_n (lv1 := [(1, .ref b1_), (0, .ref 0)]) (dcx dX9_beginAnew_c0 2 rfl) (Nat.le_of_ble_eq_true rfl) rfl ?_
  refine r_aload_n (dcx dX9_beginAnew_c0 3 rfl) 1 rfl ?_
  refine r_aload_n (dcx dX9_beginAnew_c0 4 rfl) 1 rfl ?_
  obtain ⟨b2_, eb2_, hb2_, hyp⟩ := hyp
  refine s_getmE fX9_32 (dcx dX9_beginAnew_c0 5 rfl) F0_9 eb2_ (nzP hb2_) ?_
  refine s_putm gX9_28 (dcx dX9_beginAnew_c0 6 rfl) F0_8 (nzP hb2_) ?_
  obtain ⟨s3_, es3_⟩ : ∃ z : SS, z = sR σ 0 8 b2_ := ⟨_, rfl⟩
  rw [← es3_]
  have hyp := hyp s3_ es3_
  refine r_aload_n (dcx dX9_beginAnew_c0 7 rfl) 1 rfl ?_
  refine r_aload_n (dcx dX9_beginAnew_c0 8 rfl) 0 rfl ?_
  refine s_putm gX9_32 (dcx dX9_beginAnew_c0 9 rfl) F0_9 (nzP hb1_) ?_
  obtain ⟨s4_, es4_⟩ : ∃ z : SS, z = sR s3_ 0 9 b1_ := ⟨_, rfl⟩
  rw [← es4_]
  have hyp := hyp s4_ es4_
  refine r_aload_n (dcx dX9_beginAnew_c0 10 rfl) 1 rfl ?_
  refine s_getr (b := 46) fX9_40 (dcx dX9_beginAnew_c0 11 rfl) F0_2 ?_
  refine r_aload_n (dcx dX9_beginAnew_c0 12 rfl) 1 rfl ?_
  obtain ⟨b5_, eb5_, hb5_, hyp⟩ := hyp
  refine s_getmE fX9_28 (dcx dX9_beginAnew_c0 13 rfl) F0_8 eb5_ (nzP hb5_) ?_
  refine s_putm gX9_107 (dcx dX9_beginAnew_c0 14 rfl) F46_3 (nzP hb5_) ?_
  obtain ⟨s6_, es6_⟩ : ∃ z : SS, z = sR s4_ 46 3 b5_ := ⟨_, rfl⟩
  rw [← es6_]
  have hyp := hyp s6_ es6_
  refine r_aload_n (dcx dX9_beginAnew_c0 15 rfl) 1 rfl ?_
  refine s_getr (b := 269) fX9_63 (dcx dX9_beginAnew_c0 16 rfl) F0_5 ?_
  refine r_aload_n (dcx dX9_beginAnew_c0 17 rfl) 1 rfl ?_
  obtain ⟨b7_, eb7_, hb7_, hyp⟩ := hyp
  refine s_getmE fX9_28 (dcx dX9_beginAnew_c0 18 rfl) F0_8 eb7_ (nzP hb7_) ?_
  refine s_callV (as := [.ref b7_]) (st := []) zX4_begin kX9_beginAnew_108 (dcx dX9_beginAnew_c0 19 rfl) rfl rfl (Nat.le_of_ble_eq_true rfl) (OL isL269) rfl rfl (C2.mono hyp ?_)
  rintro _ s8_ ⟨rfl, hyp⟩
  show G2 Γ l mX9_beginAnew 40 [(1, .ref b1_), (0, .ref 0)] [] s8_ K
  refine r_aload_n (dcx dX9_beginAnew_c0 20 rfl) 1 rfl ?_
  refine s_getr (b := 50) fX9_47 (dcx dX9_beginAnew_c0 21 rfl) F0_3 ?_
  refine s_callV (as := []) (st := []) zX5_clear kX9_beginAnew_109 (dcx dX9_beginAnew_c0 22 rfl) rfl rfl (Nat.le_of_ble_eq_true rfl) O50 rfl rfl (C2.mono hyp ?_)
  rintro _ s10_ ⟨rfl, hyp⟩
  show G2 Γ l mX9_beginAnew 47 [(1, .ref b1_), (0, .ref 0)] [] s10_ K
  refine r_aload_n (dcx dX9_beginAnew_c0 23 rfl) 1 rfl ?_
  refine s_getr (b := 219) fX9_56 (dcx dX9_beginAnew_c0 24 rfl) F0_4 ?_
  refine s_callV (as := []) (st := []) zX0_clear kX9_beginAnew_112 (dcx dX9_beginAnew_c0 25 rfl) rfl rfl (Nat.le_of_ble_eq_true rfl) O219 rfl rfl (C2.mono hyp ?_)
  rintro _ s12_ ⟨rfl, hyp⟩
  show G2 Γ l mX9_beginAnew 54 [(1, .ref b1_), (0, .ref 0)] [] s12_ K
  exact s_vret rfl hyp (dcx dX9_beginAnew_c0 26 rfl)
set_option maxHeartbeats 4000000 in
set_option maxRecDepth 20000 in
theorem tX9_place {Γ : GE} {l : Launch}  {σ : SS} {K : Option Value → SS → Prop}  (hyp : K (some (.int (σ.1 0 10))) σ) : C2 Γ l mX9_place [.ref 0] σ K := by
  refine c2_of (lv := [(0, .ref 0)]) (by decide) (Nat.le_of_ble_eq_true rfl) rfl ?_
  refine r_aload_n (dcx dX9_place_c0 0 rfl) 0 rfl ?_
  refine s_geti fX9_73 (dcx dX9_place_c0 1 rfl) F0_10 ?_
  exact s_ret rfl rfl rfl hyp (dcx dX9_place_c0 2 rfl)
set_option maxHeartbeats 4000000 in
set_option maxRecDepth 20000 in
theorem tX9_cell {Γ : GE} {l : Launch} {x1 : Int32} {x2 : Int32} {x3 : Int32} {σ : SS} {K : Option Value → SS → Prop}  (hyp : ∃ b1_ : Nat, σ.2.2 0 8 = b1_ ∧ isP b1_ ∧ (C2 Γ l mX6_hasCell [.ref b1_, .int x1, .int x2] σ (Ri fun r3_ s2_ => ((¬ r3_ = 0 → (C2 Γ l mX9_indexOf [.int x1, .int x2] s2_ (Ri fun r5_ s4_ => ((x3 = 0 → (vp_in r5_ 80 ∧ (K (some (.int (s4_.1 (269 + 1) (Int32.toNatClampNeg r5_)))) s4_))) ∧ (x3 = 1 → (∃ b6_ : Nat, s4_.2.2 0 8 = b6_ ∧ isP b6_ ∧ (vp_in r5_ 80 ∧ (K (some (.int (s4_.1 (b6_ + 1) (Int32.toNatClampNeg r5_)))) s4_)))) ∧ (x3 = 2 → (vp_in r5_ 80 ∧ (K (some (.int (s4_.1 (269 + 2) (Int32.toNatClampNeg r5_)))) s4_))) ∧ (x3 = 3 → (∃ b7_ : Nat, s4_.2.2 0 8 = b7_ ∧ isP b7_ ∧ (C2 Γ l mX6_isGrass [.ref b7_, .int x1, .int x2] s4_ (Ri fun r9_ s8_ => ((r9_ = 0 → (K (some (.int 0)) s8_)) ∧ (¬ (r9_ = 0) → (C2 Γ l mX1_growth [.ref 46, .ref 269, .int x1, .int x2, .int 0] s8_ (Ri fun r11_ s10_ => (K (some (.int r11_)) s10_))))))))) ∧ (¬ x3 = 0 → ¬ x3 = 1 → ¬ x3 = 2 → ¬ x3 = 3 → (K (some (.int ((-100)))) s4_)))))) ∧ (r3_ = 0 → (K (some (.int ((-100)))) s2_)))))) : C2 Γ l mX9_cell [.ref 0, .int x1, .int x2, .int x3] σ K := by
  refine c2_of (lv := [(0, .ref 0), (1, .int x1), (2, .int x2), (3, .int x3)]) (by decide) (Nat.le_of_ble_eq_true rfl) rfl ?_
  refine r_aload_n (dcx dX9_cell_c0 0 rfl) 0 rfl ?_
  obtain ⟨b1_, eb1_, hb1_, hyp⟩ := hyp
  refine s_getmE fX9_28 (dcx dX9_cell_c0 1 rfl) F0_8 eb1_ (nzP hb1_) ?_
  refine r_iload_n (dcx dX9_cell_c0 2 rfl) 1 rfl ?_
  refine r_iload_n (dcx dX9_cell_c0 3 rfl) 2 rfl ?_
  refine s_callV (as := [.int x1, .int x2]) (st := []) zX6_hasCell kX9_cell_113 (dcx dX9_cell_c0 4 rfl) rfl rfl (Nat.le_of_ble_eq_true rfl) (OP hb1_) rfl rfl (C2.mono hyp ?_)
  rintro _ s2_ ⟨r3_, rfl, hyp⟩
  show G2 Γ l mX9_cell 9 [(0, .ref 0), (1, .int x1), (2, .int x2), (3, .int x3)] [.int r3_] s2_ K
  refine r_if_ne (tgt := 15) (dcx dX9_cell_c0 5 rfl) (by decide) (fun q_ => ?_) (fun q_ => ?_)
  · have hyp := hyp.1 q_
    refine r_iload_n (dcx dX9_cell_c0 8 rfl) 1 rfl ?_
    refine r_iload_n (dcx dX9_cell_c0 9 rfl) 2 rfl ?_
    refine s_callS (as := [.int x1, .int x2]) (st := []) zX9_indexOf kX9_cell_117 (dcx dX9_cell_c0 10 rfl) rfl rfl (Nat.le_of_ble_eq_true rfl) (C2.mono hyp ?_)
    rintro _ s4_ ⟨r5_, rfl, hyp⟩
    show G2 Γ l mX9_cell 20 [(0, .ref 0), (1, .int x1), (2, .int x2), (3, .int x3)] [.int r5_] s4_ K
    refine r_istore (lv1 := [(4, .int r5_), (0, .ref 0), (1, .int x1), (2, .int x2), (3, .int x3)]) (dcx dX9_cell_c0 11 rfl) (Nat.le_of_ble_eq_true rfl) rfl ?_
    refine r_iload_n (dcx dX9_cell_c0 12 rfl) 4 rfl ?_
    by_cases q0_ : x3 = 0
    · have hyp := hyp.1 q0_
      refine r_tableIn (off := 29) (tgt := 52) (dcx dX9_cell_c0 13 rfl) (by rw [q0_]; decide) (by rw [q0_]; decide) (by rw [q0_]; decide) (by decide) ?_
      refine r_aload_n (dcx dX9_cell_c0 14 rfl) 1 rfl ?_
      refine s_getr (b := 269) fX9_63 (dcx dX9_cell_c0 15 rfl) F0_5 ?_
      refine s_getr (b := 269 + 1) fX9_121 (dcx dX9_cell_c0 16 rfl) (FL_0 isL269) ?_
      refine r_iload (dcx dX9_cell_c0 17 rfl) 0 rfl ?_
      obtain ⟨hb_, hyp⟩ := hyp
      refine s_iald (dcx dX9_cell_c0 18 rfl) (AL_0 isL269) hb_ ?_
      exact s_ret rfl rfl rfl hyp (dcx dX9_cell_c0 19 rfl)
    have hyp := hyp.2
    by_cases q1_ : x3 = 1
    · have hyp := hyp.1 q1_
      refine r_tableIn (off := 40) (tgt := 63) (dcx dX9_cell_c0 13 rfl) (by rw [q1_]; decide) (by rw [q1_]; decide) (by rw [q1_]; decide) (by decide) ?_
      refine r_aload_n (dcx dX9_cell_c0 20 rfl) 1 rfl ?_
      obtain ⟨b6_, eb6_, hb6_, hyp⟩ := hyp
      refine s_getmE fX9_28 (dcx dX9_cell_c0 21 rfl) F0_8 eb6_ (nzP hb6_) ?_
      refine s_getr (b := b6_ + 1) fX9_125 (dcx dX9_cell_c0 22 rfl) (FP_0 hb6_) ?_
      refine r_iload (dcx dX9_cell_c0 23 rfl) 0 rfl ?_
      obtain ⟨hb_, hyp⟩ := hyp
      refine s_iald (dcx dX9_cell_c0 24 rfl) (AP_0 hb6_) hb_ ?_
      exact s_ret rfl rfl rfl hyp (dcx dX9_cell_c0 25 rfl)
    have hyp := hyp.2
    by_cases q2_ : x3 = 2
    · have hyp := hyp.1 q2_
      refine r_tableIn (off := 51) (tgt := 74) (dcx dX9_cell_c0 13 rfl) (by rw [q2_]; decide) (by rw [q2_]; decide) (by rw [q2_]; decide) (by decide) ?_
      refine r_aload_n (dcx dX9_cell_c0 26 rfl) 1 rfl ?_
      refine s_getr (b := 269) fX9_63 (dcx dX9_cell_c0 27 rfl) F0_5 ?_
      refine s_getr (b := 269 + 2) fX9_128 (dcx dX9_cell_c0 28 rfl) (FL_1 isL269) ?_
      refine r_iload (dcx dX9_cell_c0 29 rfl) 0 rfl ?_
      obtain ⟨hb_, hyp⟩ := hyp
      refine s_iald (dcx dX9_cell_c0 30 rfl) (AL_1 isL269) hb_ ?_
      exact s_ret rfl rfl rfl hyp (dcx dX9_cell_c0 31 rfl)
    have hyp := hyp.2
    by_cases q3_ : x3 = 3
    · have hyp := hyp.1 q3_
      refine r_tableIn (off := 62) (tgt := 85) (dcx dX9_cell_c0 13 rfl) (by rw [q3_]; decide) (by rw [q3_]; decide) (by rw [q3_]; decide) (by decide) ?_
      refine r_aload_n (dcx dX9_cell_c0 32 rfl) 1 rfl ?_
      obtain ⟨b7_, eb7_, hb7_, hyp⟩ := hyp
      refine s_getmE fX9_28 (dcx dX9_cell_c0 33 rfl) F0_8 eb7_ (nzP hb7_) ?_
      refine r_iload_n (dcx dX9_cell_c0 34 rfl) 2 rfl ?_
      refine r_iload_n (dcx dX9_cell_c0 35 rfl) 3 rfl ?_
      refine s_callV (as := [.int x1, .int x2]) (st := []) zX6_isGrass kX9_cell_131 (dcx dX9_cell_c0 36 rfl) rfl rfl (Nat.le_of_ble_eq_true rfl) (OP hb7_) rfl rfl (C2.mono hyp ?_)
      rintro _ s8_ ⟨r9_, rfl, hyp⟩
      show G2 Γ l mX9_cell 94 [(4, .int r5_), (0, .ref 0), (1, .int x1), (2, .int x2), (3, .int x3)] [.int r9_] s8_ K
      refine r_if_eq (tgt := 114) (dcx dX9_cell_c0 37 rfl) (by decide) (fun q_ => ?_) (fun q_ => ?_)
      · have hyp := hyp.1 q_
        refine r_iconst (v := 0) (dcx dX9_cell_c1 7 rfl) rfl ?_
        exact s_ret rfl rfl rfl hyp (dcx dX9_cell_c1 8 rfl)
      · have hyp := hyp.2 q_
        refine r_aload_n (dcx dX9_cell_c0 38 rfl) 1 rfl ?_
        refine s_getr (b := 46) fX9_40 (dcx dX9_cell_c0 39 rfl) F0_2 ?_
        refine r_aload_n (dcx dX9_cell_c1 0 rfl) 1 rfl ?_
        refine s_getr (b := 269) fX9_63 (dcx dX9_cell_c1 1 rfl) F0_5 ?_
        refine r_iload_n (dcx dX9_cell_c1 2 rfl) 2 rfl ?_
        refine r_iload_n (dcx dX9_cell_c1 3 rfl) 3 rfl ?_
        refine r_iconst (v := 0) (dcx dX9_cell_c1 4 rfl) rfl ?_
        refine s_callV (as := [.ref 269, .int x1, .int x2, .int 0]) (st := []) zX1_growth kX9_cell_134 (dcx dX9_cell_c1 5 rfl) rfl rfl (Nat.le_of_ble_eq_true rfl) O46 rfl rfl (C2.mono hyp ?_)
        rintro _ s10_ ⟨r11_, rfl, hyp⟩
        show G2 Γ l mX9_cell 111 [(4, .int r5_), (0, .ref 0), (1, .int x1), (2, .int x2), (3, .int x3)] [.int r11_] s10_ K
        refine r_goto (tgt := 115) (dcx dX9_cell_c1 6 rfl) (by decide) ?_
        exact s_ret rfl rfl rfl hyp (dcx dX9_cell_c1 8 rfl)
    have hyp := hyp.2
    have hyp := hyp q0_ q1_ q2_ q3_
    refine r_tableOut (tgt := 116) (dcx dX9_cell_c0 13 rfl) (by have t0_ := lv_neT (a := 0) q0_ (by decide); have t1_ := lv_neT (a := 1) q1_ (by decide); have t2_ := lv_neT (a := 2) q2_ (by decide); have t3_ := lv_neT (a := 3) q3_ (by decide); omega) (by decide) ?_
    refine r_bipush (v := (-100)) (dcx dX9_cell_c1 9 rfl) rfl ?_
    exact s_ret rfl rfl rfl hyp (dcx dX9_cell_c1 10 rfl)
  · have hyp := hyp.2 q_
    refine r_bipush (v := (-100)) (dcx dX9_cell_c0 6 rfl) rfl ?_
    exact s_ret rfl rfl rfl hyp (dcx dX9_cell_c0 7 rfl)
set_option maxHeartbeats 4000000 in
set_option maxRecDepth 20000 in
theorem tX9_sign {Γ : GE} {l : Launch} {x1 : Int32} {x2 : Int32} {σ : SS} {K : Option Value → SS → Prop}  (hyp : ∃ b1_ : Nat, σ.2.2 0 8 = b1_ ∧ isP b1_ ∧ (C2 Γ l mX6_hasSign [.ref b1_, .int x1] σ (Ri fun r3_ s2_ => ((¬ r3_ = 0 → ((x2 = 0 → (∃ b4_ : Nat, s2_.2.2 0 8 = b4_ ∧ isP b4_ ∧ (vp_in x1 4 ∧ (C2 Γ l mJ6_bitCount_0f7a4 [.int (s2_.1 (b4_ + 3) (Int32.toNatClampNeg x1))] s2_ (Ri fun r6_ s5_ => (K (some (.int r6_)) s5_)))))) ∧ (x2 = 1 → (C2 Γ l mX9_knowers [.ref 0, .int x1] s2_ (Ri fun r8_ s7_ => (K (some (.int r8_)) s7_)))) ∧ (x2 = 2 → (vp_in x1 4 ∧ (K (some (.int (s2_.1 (269 + 4) (Int32.toNatClampNeg x1)))) s2_))) ∧ (¬ x2 = 0 → ¬ x2 = 1 → ¬ x2 = 2 → (K (some (.int ((-1)))) s2_)))) ∧ (r3_ = 0 → (K (some (.int ((-1)))) s2_)))))) : C2 Γ l mX9_sign [.ref 0, .int x1, .int x2] σ K := by
  refine c2_of (lv := [(0, .ref 0), (1, .int x1), (2, .int x2)]) (by decide) (Nat.le_of_ble_eq_true rfl) rfl ?_
  refine r_aload_n (dcx dX9_sign_c0 0 rfl) 0 rfl ?_
  obtain ⟨b1_, eb1_, hb1_, hyp⟩ := hyp
  refine s_getmE fX9_28 (dcx dX9_sign_c0 1 rfl) F0_8 eb1_ (nzP hb1_) ?_
  refine r_iload_n (dcx dX9_sign_c0 2 rfl) 1 rfl ?_
  refine s_callV (as := [.int x1]) (st := []) zX6_hasSign kX9_sign_138 (dcx dX9_sign_c0 3 rfl) rfl rfl (Nat.le_of_ble_eq_true rfl) (OP hb1_) rfl rfl (C2.mono hyp ?_)
  rintro _ s2_ ⟨r3_, rfl, hyp⟩
  show G2 Γ l mX9_sign 8 [(0, .ref 0), (1, .int x1), (2, .int x2)] [.int r3_] s2_ K
  refine r_if_ne (tgt := 13) (dcx dX9_sign_c0 4 rfl) (by decide) (fun q_ => ?_) (fun q_ => ?_)
  · have hyp := hyp.1 q_
    refine r_iload_n (dcx dX9_sign_c0 7 rfl) 2 rfl ?_
    by_cases q0_ : x2 = 0
    · have hyp := hyp.1 q0_
      refine r_tableIn (off := 26) (tgt := 40) (dcx dX9_sign_c0 8 rfl) (by rw [q0_]; decide) (by rw [q0_]; decide) (by rw [q0_]; decide) (by decide) ?_
      refine r_aload_n (dcx dX9_sign_c0 9 rfl) 0 rfl ?_
      obtain ⟨b4_, eb4_, hb4_, hyp⟩ := hyp
      refine s_getmE fX9_28 (dcx dX9_sign_c0 10 rfl) F0_8 eb4_ (nzP hb4_) ?_
      refine s_getr (b := b4_ + 3) fX9_142 (dcx dX9_sign_c0 11 rfl) (FP_2 hb4_) ?_
      refine r_iload_n (dcx dX9_sign_c0 12 rfl) 1 rfl ?_
      obtain ⟨hb_, hyp⟩ := hyp
      refine s_iald (dcx dX9_sign_c0 13 rfl) (AP_2 hb4_) hb_ ?_
      refine s_callS (as := [.int (s2_.1 (b4_ + 3) (Int32.toNatClampNeg x1))]) (st := []) zJ6_bitCount_0f7a4 kX9_sign_145 (dcx dX9_sign_c0 14 rfl) rfl rfl (Nat.le_of_ble_eq_true rfl) (C2.mono hyp ?_)
      rintro _ s5_ ⟨r6_, rfl, hyp⟩
      show G2 Γ l mX9_sign 52 [(0, .ref 0), (1, .int x1), (2, .int x2)] [.int r6_] s5_ K
      exact s_ret rfl rfl rfl hyp (dcx dX9_sign_c0 15 rfl)
    have hyp := hyp.2
    by_cases q1_ : x2 = 1
    · have hyp := hyp.1 q1_
      refine r_tableIn (off := 39) (tgt := 53) (dcx dX9_sign_c0 8 rfl) (by rw [q1_]; decide) (by rw [q1_]; decide) (by rw [q1_]; decide) (by decide) ?_
      refine r_aload_n (dcx dX9_sign_c0 16 rfl) 0 rfl ?_
      refine r_iload_n (dcx dX9_sign_c0 17 rfl) 1 rfl ?_
      refine s_callV (as := [.int x1]) (st := []) zX9_knowers kX9_sign_151 (dcx dX9_sign_c0 18 rfl) rfl rfl (Nat.le_of_ble_eq_true rfl) O0 rfl rfl (C2.mono hyp ?_)
      rintro _ s7_ ⟨r8_, rfl, hyp⟩
      show G2 Γ l mX9_sign 58 [(0, .ref 0), (1, .int x1), (2, .int x2)] [.int r8_] s7_ K
      exact s_ret rfl rfl rfl hyp (dcx dX9_sign_c0 19 rfl)
    have hyp := hyp.2
    by_cases q2_ : x2 = 2
    · have hyp := hyp.1 q2_
      refine r_tableIn (off := 45) (tgt := 59) (dcx dX9_sign_c0 8 rfl) (by rw [q2_]; decide) (by rw [q2_]; decide) (by rw [q2_]; decide) (by decide) ?_
      refine r_aload_n (dcx dX9_sign_c0 20 rfl) 0 rfl ?_
      refine s_getr (b := 269) fX9_63 (dcx dX9_sign_c0 21 rfl) F0_5 ?_
      refine s_getr (b := 269 + 4) fX9_154 (dcx dX9_sign_c0 22 rfl) (FL_3 isL269) ?_
      refine r_iload_n (dcx dX9_sign_c0 23 rfl) 1 rfl ?_
      obtain ⟨hb_, hyp⟩ := hyp
      refine s_iald (dcx dX9_sign_c0 24 rfl) (AL_3 isL269) hb_ ?_
      exact s_ret rfl rfl rfl hyp (dcx dX9_sign_c0 25 rfl)
    have hyp := hyp.2
    have hyp := hyp q0_ q1_ q2_
    refine r_tableOut (tgt := 69) (dcx dX9_sign_c0 8 rfl) (by have t0_ := lv_neT (a := 0) q0_ (by decide); have t1_ := lv_neT (a := 1) q1_ (by decide); have t2_ := lv_neT (a := 2) q2_ (by decide); omega) (by decide) ?_
    refine r_iconst (v := (-1)) (dcx dX9_sign_c0 26 rfl) rfl ?_
    exact s_ret rfl rfl rfl hyp (dcx dX9_sign_c0 27 rfl)
  · have hyp := hyp.2 q_
    refine r_iconst (v := (-1)) (dcx dX9_sign_c0 5 rfl) rfl ?_
    exact s_ret rfl rfl rfl hyp (dcx dX9_sign_c0 6 rfl)
def wX9_knowers_4 (Γ : GE) (l : Launch) (x1 : Int32) (x2 : Int32) (x3 : Int32) (σ : SS) (K : Option Value → SS → Prop) : Prop := G2 Γ l mX9_knowers 4 [(0, .ref 0), (1, .int x1), (2, .int x2), (3, .int x3)] [] σ K
set_option maxHeartbeats 4000000 in
set_option maxRecDepth 20000 in
theorem tX9_knowers {Γ : GE} {l : Launch} {x1 : Int32} {σ : SS} {K : Option Value → SS → Prop}  (hyp : wX9_knowers_4 Γ l x1 0 0 σ K) : C2 Γ l mX9_knowers [.ref 0, .int x1] σ K := by
  refine c2_of (lv := [(0, .ref 0), (1, .int x1)]) (by decide) (Nat.le_of_ble_eq_true rfl) rfl ?_
  refine r_iconst (v := 0) (dcx dX9_knowers_c0 0 rfl) rfl ?_
  refine r_istore_n (lv1 := [(2, .int 0), (0, .ref 0), (1, .int x1)]) (dcx dX9_knowers_c0 1 rfl) (Nat.le_of_ble_eq_true rfl) rfl ?_
  refine r_iconst (v := 0) (dcx dX9_knowers_c0 2 rfl) rfl ?_
  refine r_istore_n (lv1 := [(3, .int 0), (2, .int 0), (0, .ref 0), (1, .int x1)]) (dcx dX9_knowers_c0 3 rfl) (Nat.le_of_ble_eq_true rfl) rfl ?_
  refine r_loc (lv1 := [(0, .ref 0), (1, .int x1), (2, .int 0), (3, .int 0)]) [2, 3, 1, 0] rfl ?_
  exact hyp
set_option maxHeartbeats 4000000 in
set_option maxRecDepth 20000 in
theorem tX9_knowers_4 {Γ : GE} {l : Launch} {x1 : Int32} {x2 : Int32} {x3 : Int32} {σ : SS} {K : Option Value → SS → Prop}  (hyp : ∃ b1_ : Nat, σ.2.2 0 8 = b1_ ∧ isP b1_ ∧ (((σ.1 b1_ 14) ≤ x3 → (K (some (.int x2)) σ)) ∧ (¬ ((σ.1 b1_ 14) ≤ x3) → (vp_in x3 4 ∧ (∀ v2_ : Int32, v2_ = x2 ||| ((((σ.1 (269 + 3) (Int32.toNatClampNeg x3)) >>> (x1 &&& 31)) &&& 1) <<< (x3 &&& 31)) → (wX9_knowers_4 Γ l x1 v2_ (x3 + 1) σ K)))))) : wX9_knowers_4 Γ l x1 x2 x3 σ K := by
  show G2 Γ l mX9_knowers 4 [(0, .ref 0), (1, .int x1), (2, .int x2), (3, .int x3)] [] σ K
  refine r_iload_n (dcx dX9_knowers_c0 4 rfl) 3 rfl ?_
  refine r_aload_n (dcx dX9_knowers_c0 5 rfl) 0 rfl ?_
  obtain ⟨b1_, eb1_, hb1_, hyp⟩ := hyp
  refine s_getmE fX9_28 (dcx dX9_knowers_c0 6 rfl) F0_8 eb1_ (nzP hb1_) ?_
  refine s_geti fX9_157 (dcx dX9_knowers_c0 7 rfl) (FP_14 hb1_) ?_
  refine r_icmp_ge (tgt := 39) (dcx dX9_knowers_c0 8 rfl) (by decide) (fun q_ => ?_) (fun q_ => ?_)
  · have hyp := hyp.1 q_
    refine r_iload_n (dcx dX9_knowers_c0 25 rfl) 2 rfl ?_
    exact s_ret rfl rfl rfl hyp (dcx dX9_knowers_c0 26 rfl)
  · have hyp := hyp.2 q_
    refine r_iload_n (dcx dX9_knowers_c0 9 rfl) 2 rfl ?_
    refine r_aload_n (dcx dX9_knowers_c0 10 rfl) 0 rfl ?_
    refine s_getr (b := 269) fX9_63 (dcx dX9_knowers_c0 11 rfl) F0_5 ?_
    refine s_getr (b := 269 + 3) fX9_160 (dcx dX9_knowers_c0 12 rfl) (FL_2 isL269) ?_
    refine r_iload_n (dcx dX9_knowers_c0 13 rfl) 3 rfl ?_
    obtain ⟨hb_, hyp⟩ := hyp
    refine s_iald (dcx dX9_knowers_c0 14 rfl) (AL_2 isL269) hb_ ?_
    refine r_iload_n (dcx dX9_knowers_c0 15 rfl) 1 rfl ?_
    refine r_ishr (dcx dX9_knowers_c0 16 rfl) ?_
    refine r_iconst (v := 1) (dcx dX9_knowers_c0 17 rfl) rfl ?_
    refine r_iand (dcx dX9_knowers_c0 18 rfl) ?_
    refine r_iload_n (dcx dX9_knowers_c0 19 rfl) 3 rfl ?_
    refine r_ishl (dcx dX9_knowers_c0 20 rfl) ?_
    refine r_ior (dcx dX9_knowers_c0 21 rfl) ?_
    obtain ⟨v2_, ev2_⟩ : ∃ z : Int32, z = x2 ||| ((((σ.1 (269 + 3) (Int32.toNatClampNeg x3)) >>> (x1 &&& 31)) &&& 1) <<< (x3 &&& 31)) := ⟨_, rfl⟩
    rw [← ev2_]
    have hyp := hyp v2_ ev2_
    refine r_istore_n (lv1 := [(2, .int v2_), (0, .ref 0), (1, .int x1), (3, .int x3)]) (dcx dX9_knowers_c0 22 rfl) (Nat.le_of_ble_eq_true rfl) rfl ?_
    refine r_iinc (lv1 := [(3, .int (x3 + 1)), (2, .int v2_), (0, .ref 0), (1, .int x1)]) (dcx dX9_knowers_c0 23 rfl) 3 rfl (Nat.le_of_ble_eq_true rfl) rfl ?_
    refine r_goto (tgt := 4) (dcx dX9_knowers_c0 24 rfl) (by decide) ?_
    refine r_loc (lv1 := [(0, .ref 0), (1, .int x1), (2, .int v2_), (3, .int (x3 + 1))]) [2, 3, 1, 0] rfl ?_
    exact hyp
set_option maxHeartbeats 4000000 in
set_option maxRecDepth 20000 in
theorem tX9_window {Γ : GE} {l : Launch} {x1 : Int32} {x2 : Int32} {σ : SS} {K : Option Value → SS → Prop}  (hyp : ∃ b1_ : Nat, σ.2.2 0 8 = b1_ ∧ isP b1_ ∧ (C2 Γ l mX6_hasWindow [.ref b1_, .int x1] σ (Ri fun r3_ s2_ => ((¬ r3_ = 0 → ((x2 = 0 → (∃ b4_ : Nat, s2_.2.2 0 8 = b4_ ∧ isP b4_ ∧ (vp_in x1 4 ∧ (K (some (.int (s2_.1 (b4_ + 5) (Int32.toNatClampNeg x1)))) s2_)))) ∧ (x2 = 1 → (∃ b5_ : Nat, s2_.2.2 0 8 = b5_ ∧ isP b5_ ∧ (vp_in x1 4 ∧ (K (some (.int (s2_.1 (b5_ + 6) (Int32.toNatClampNeg x1)))) s2_)))) ∧ (x2 = 2 → (∃ b6_ : Nat, s2_.2.2 0 8 = b6_ ∧ isP b6_ ∧ (vp_in x1 4 ∧ (K (some (.int (s2_.1 (b6_ + 7) (Int32.toNatClampNeg x1)))) s2_)))) ∧ (x2 = 3 → (vp_in x1 4 ∧ (K (some (.int (s2_.1 (269 + 3) (Int32.toNatClampNeg x1)))) s2_))) ∧ (x2 = 4 → (∃ b7_ : Nat, s2_.2.2 0 8 = b7_ ∧ isP b7_ ∧ (vp_in x1 4 ∧ (K (some (.int (s2_.1 (b7_ + 8) (Int32.toNatClampNeg x1)))) s2_)))) ∧ (¬ x2 = 0 → ¬ x2 = 1 → ¬ x2 = 2 → ¬ x2 = 3 → ¬ x2 = 4 → (K (some (.int ((-1)))) s2_)))) ∧ (r3_ = 0 → (K (some (.int ((-1)))) s2_)))))) : C2 Γ l mX9_window [.ref 0, .int x1, .int x2] σ K := by
  refine c2_of (lv := [(0, .ref 0), (1, .int x1), (2, .int x2)]) (by decide) (Nat.le_of_ble_eq_true rfl) rfl ?_
  refine r_aload_n (dcx dX9_window_c0 0 rfl) 0 rfl ?_
  obtain ⟨b1_, eb1_, hb1_, hyp⟩ := hyp
  refine s_getmE fX9_28 (dcx dX9_window_c0 1 rfl) F0_8 eb1_ (nzP hb1_) ?_
  refine r_iload_n (dcx dX9_window_c0 2 rfl) 1 rfl ?_
  refine s_callV (as := [.int x1]) (st := []) zX6_hasWindow kX9_window_163 (dcx dX9_window_c0 3 rfl) rfl rfl (Nat.le_of_ble_eq_true rfl) (OP hb1_) rfl rfl (C2.mono hyp ?_)
  rintro _ s2_ ⟨r3_, rfl, hyp⟩
  show G2 Γ l mX9_window 8 [(0, .ref 0), (1, .int x1), (2, .int x2)] [.int r3_] s2_ K
  refine r_if_ne (tgt := 13) (dcx dX9_window_c0 4 rfl) (by decide) (fun q_ => ?_) (fun q_ => ?_)
  · have hyp := hyp.1 q_
    refine r_iload_n (dcx dX9_window_c0 7 rfl) 2 rfl ?_
    by_cases q0_ : x2 = 0
    · have hyp := hyp.1 q0_
      refine r_tableIn (off := 34) (tgt := 48) (dcx dX9_window_c0 8 rfl) (by rw [q0_]; decide) (by rw [q0_]; decide) (by rw [q0_]; decide) (by decide) ?_
      refine r_aload_n (dcx dX9_window_c0 9 rfl) 0 rfl ?_
      obtain ⟨b4_, eb4_, hb4_, hyp⟩ := hyp
      refine s_getmE fX9_28 (dcx dX9_window_c0 10 rfl) F0_8 eb4_ (nzP hb4_) ?_
      refine s_getr (b := b4_ + 5) fX9_166 (dcx dX9_window_c0 11 rfl) (FP_4 hb4_) ?_
      refine r_iload_n (dcx dX9_window_c0 12 rfl) 1 rfl ?_
      obtain ⟨hb_, hyp⟩ := hyp
      refine s_iald (dcx dX9_window_c0 13 rfl) (AP_4 hb4_) hb_ ?_
      exact s_ret rfl rfl rfl hyp (dcx dX9_window_c0 14 rfl)
    have hyp := hyp.2
    by_cases q1_ : x2 = 1
    · have hyp := hyp.1 q1_
      refine r_tableIn (off := 44) (tgt := 58) (dcx dX9_window_c0 8 rfl) (by rw [q1_]; decide) (by rw [q1_]; decide) (by rw [q1_]; decide) (by decide) ?_
      refine r_aload_n (dcx dX9_window_c0 15 rfl) 0 rfl ?_
      obtain ⟨b5_, eb5_, hb5_, hyp⟩ := hyp
      refine s_getmE fX9_28 (dcx dX9_window_c0 16 rfl) F0_8 eb5_ (nzP hb5_) ?_
      refine s_getr (b := b5_ + 6) fX9_169 (dcx dX9_window_c0 17 rfl) (FP_5 hb5_) ?_
      refine r_iload_n (dcx dX9_window_c0 18 rfl) 1 rfl ?_
      obtain ⟨hb_, hyp⟩ := hyp
      refine s_iald (dcx dX9_window_c0 19 rfl) (AP_5 hb5_) hb_ ?_
      exact s_ret rfl rfl rfl hyp (dcx dX9_window_c0 20 rfl)
    have hyp := hyp.2
    by_cases q2_ : x2 = 2
    · have hyp := hyp.1 q2_
      refine r_tableIn (off := 54) (tgt := 68) (dcx dX9_window_c0 8 rfl) (by rw [q2_]; decide) (by rw [q2_]; decide) (by rw [q2_]; decide) (by decide) ?_
      refine r_aload_n (dcx dX9_window_c0 21 rfl) 0 rfl ?_
      obtain ⟨b6_, eb6_, hb6_, hyp⟩ := hyp
      refine s_getmE fX9_28 (dcx dX9_window_c0 22 rfl) F0_8 eb6_ (nzP hb6_) ?_
      refine s_getr (b := b6_ + 7) fX9_172 (dcx dX9_window_c0 23 rfl) (FP_6 hb6_) ?_
      refine r_iload_n (dcx dX9_window_c0 24 rfl) 1 rfl ?_
      obtain ⟨hb_, hyp⟩ := hyp
      refine s_iald (dcx dX9_window_c0 25 rfl) (AP_6 hb6_) hb_ ?_
      exact s_ret rfl rfl rfl hyp (dcx dX9_window_c0 26 rfl)
    have hyp := hyp.2
    by_cases q3_ : x2 = 3
    · have hyp := hyp.1 q3_
      refine r_tableIn (off := 64) (tgt := 78) (dcx dX9_window_c0 8 rfl) (by rw [q3_]; decide) (by rw [q3_]; decide) (by rw [q3_]; decide) (by decide) ?_
      refine r_aload_n (dcx dX9_window_c0 27 rfl) 0 rfl ?_
      refine s_getr (b := 269) fX9_63 (dcx dX9_window_c0 28 rfl) F0_5 ?_
      refine s_getr (b := 269 + 3) fX9_160 (dcx dX9_window_c0 29 rfl) (FL_2 isL269) ?_
      refine r_iload_n (dcx dX9_window_c0 30 rfl) 1 rfl ?_
      obtain ⟨hb_, hyp⟩ := hyp
      refine s_iald (dcx dX9_window_c0 31 rfl) (AL_2 isL269) hb_ ?_
      exact s_ret rfl rfl rfl hyp (dcx dX9_window_c0 32 rfl)
    have hyp := hyp.2
    by_cases q4_ : x2 = 4
    · have hyp := hyp.1 q4_
      refine r_tableIn (off := 74) (tgt := 88) (dcx dX9_window_c0 8 rfl) (by rw [q4_]; decide) (by rw [q4_]; decide) (by rw [q4_]; decide) (by decide) ?_
      refine r_aload_n (dcx dX9_window_c0 33 rfl) 0 rfl ?_
      obtain ⟨b7_, eb7_, hb7_, hyp⟩ := hyp
      refine s_getmE fX9_28 (dcx dX9_window_c0 34 rfl) F0_8 eb7_ (nzP hb7_) ?_
      refine s_getr (b := b7_ + 8) fX9_175 (dcx dX9_window_c0 35 rfl) (FP_7 hb7_) ?_
      refine r_iload_n (dcx dX9_window_c0 36 rfl) 1 rfl ?_
      obtain ⟨hb_, hyp⟩ := hyp
      refine s_iald (dcx dX9_window_c0 37 rfl) (AP_7 hb7_) hb_ ?_
      exact s_ret rfl rfl rfl hyp (dcx dX9_window_c0 38 rfl)
    have hyp := hyp.2
    have hyp := hyp q0_ q1_ q2_ q3_ q4_
    refine r_tableOut (tgt := 98) (dcx dX9_window_c0 8 rfl) (by have t0_ := lv_neT (a := 0) q0_ (by decide); have t1_ := lv_neT (a := 1) q1_ (by decide); have t2_ := lv_neT (a := 2) q2_ (by decide); have t3_ := lv_neT (a := 3) q3_ (by decide); have t4_ := lv_neT (a := 4) q4_ (by decide); omega) (by decide) ?_
    refine r_iconst (v := (-1)) (dcx dX9_window_c0 39 rfl) rfl ?_
    exact s_ret rfl rfl rfl hyp (dcx dX9_window_c1 0 rfl)
  · have hyp := hyp.2 q_
    refine r_iconst (v := (-1)) (dcx dX9_window_c0 5 rfl) rfl ?_
    exact s_ret rfl rfl rfl hyp (dcx dX9_window_c0 6 rfl)
set_option maxHeartbeats 4000000 in
set_option maxRecDepth 20000 in
theorem tX9_contrast {Γ : GE} {l : Launch} {x1 : Int32} {x2 : Int32} {x3 : Int32} {σ : SS} {K : Option Value → SS → Prop}  (hyp : ∃ b1_ : Nat, σ.2.2 0 8 = b1_ ∧ isP b1_ ∧ (C2 Γ l mX6_hasPlace [.ref b1_, .int x1, .int x2, .int x3] σ (Ri fun r3_ s2_ => ((r3_ = 0 → (K (some (.int ((-2000)))) s2_)) ∧ (¬ (r3_ = 0) → (C2 Γ l mX1_standsOut [.ref 46, .ref 269, .int x1, .int x2, .int x3] s2_ (Ri fun r5_ s4_ => (K (some (.int r5_)) s4_)))))))) : C2 Γ l mX9_contrast [.ref 0, .int x1, .int x2, .int x3] σ K := by
  refine c2_of (lv := [(0, .ref 0), (1, .int x1), (2, .int x2), (3, .int x3)]) (by decide) (Nat.le_of_ble_eq_true rfl) rfl ?_
  refine r_aload_n (dcx dX9_contrast_c0 0 rfl) 0 rfl ?_
  obtain ⟨b1_, eb1_, hb1_, hyp⟩ := hyp
  refine s_getmE fX9_28 (dcx dX9_contrast_c0 1 rfl) F0_8 eb1_ (nzP hb1_) ?_
  refine r_iload_n (dcx dX9_contrast_c0 2 rfl) 1 rfl ?_
  refine r_iload_n (dcx dX9_contrast_c0 3 rfl) 2 rfl ?_
  refine r_iload_n (dcx dX9_contrast_c0 4 rfl) 3 rfl ?_
  refine s_callV (as := [.int x1, .int x2, .int x3]) (st := []) zX6_hasPlace kX9_contrast_178 (dcx dX9_contrast_c0 5 rfl) rfl rfl (Nat.le_of_ble_eq_true rfl) (OP hb1_) rfl rfl (C2.mono hyp ?_)
  rintro _ s2_ ⟨r3_, rfl, hyp⟩
  show G2 Γ l mX9_contrast 10 [(0, .ref 0), (1, .int x1), (2, .int x2), (3, .int x3)] [.int r3_] s2_ K
  refine r_if_eq (tgt := 30) (dcx dX9_contrast_c0 6 rfl) (by decide) (fun q_ => ?_) (fun q_ => ?_)
  · have hyp := hyp.1 q_
    refine r_sipush (v := (-2000)) (dcx dX9_contrast_c0 16 rfl) rfl ?_
    exact s_ret rfl rfl rfl hyp (dcx dX9_contrast_c0 17 rfl)
  · have hyp := hyp.2 q_
    refine r_aload_n (dcx dX9_contrast_c0 7 rfl) 0 rfl ?_
    refine s_getr (b := 46) fX9_40 (dcx dX9_contrast_c0 8 rfl) F0_2 ?_
    refine r_aload_n (dcx dX9_contrast_c0 9 rfl) 0 rfl ?_
    refine s_getr (b := 269) fX9_63 (dcx dX9_contrast_c0 10 rfl) F0_5 ?_
    refine r_iload_n (dcx dX9_contrast_c0 11 rfl) 1 rfl ?_
    refine r_iload_n (dcx dX9_contrast_c0 12 rfl) 2 rfl ?_
    refine r_iload_n (dcx dX9_contrast_c0 13 rfl) 3 rfl ?_
    refine s_callV (as := [.ref 269, .int x1, .int x2, .int x3]) (st := []) zX1_standsOut kX9_contrast_182 (dcx dX9_contrast_c0 14 rfl) rfl rfl (Nat.le_of_ble_eq_true rfl) O46 rfl rfl (C2.mono hyp ?_)
    rintro _ s4_ ⟨r5_, rfl, hyp⟩
    show G2 Γ l mX9_contrast 27 [(0, .ref 0), (1, .int x1), (2, .int x2), (3, .int x3)] [.int r5_] s4_ K
    refine r_goto (tgt := 33) (dcx dX9_contrast_c0 15 rfl) (by decide) ?_
    exact s_ret rfl rfl rfl hyp (dcx dX9_contrast_c0 17 rfl)
def wX9_reads_35 (Γ : GE) (l : Launch) (x1 : Int32) (x2 : Int32) (x3 : Int32) (x4 : Int32) (x5 : Int32) (σ : SS) (K : Option Value → SS → Prop) : Prop := G2 Γ l mX9_reads 35 [(0, .ref 0), (1, .int x1), (2, .int x2), (3, .int x3), (4, .int x4), (5, .int x5)] [] σ K
def wX9_reads_52 (Γ : GE) (l : Launch) (x1 : Int32) (x2 : Int32) (x3 : Int32) (x4 : Int32) (x5 : Int32) (x6 : Int32) (σ : SS) (K : Option Value → SS → Prop) : Prop := G2 Γ l mX9_reads 52 [(0, .ref 0), (1, .int x1), (2, .int x2), (3, .int x3), (4, .int x4), (5, .int x5), (6, .int x6)] [] σ K
set_option maxHeartbeats 4000000 in
set_option maxRecDepth 20000 in
theorem tX9_reads {Γ : GE} {l : Launch} {x1 : Int32} {x2 : Int32} {x3 : Int32} {σ : SS} {K : Option Value → SS → Prop}  (hyp : ∃ b1_ : Nat, σ.2.2 0 8 = b1_ ∧ isP b1_ ∧ (C2 Γ l mX6_hasWindow [.ref b1_, .int x1] σ (Ri fun r3_ s2_ => ((r3_ = 0 → (K (some (.int ((-1)))) s2_)) ∧ (¬ (r3_ = 0) → (∃ b4_ : Nat, s2_.2.2 0 8 = b4_ ∧ isP b4_ ∧ (C2 Γ l mX6_hasSign [.ref b4_, .int x2] s2_ (Ri fun r6_ s5_ => ((r6_ = 0 → (K (some (.int ((-1)))) s5_)) ∧ (¬ (r6_ = 0) → ((((-1) : Int32) ≤ x3 → (wX9_reads_35 Γ l x1 x2 x3 0 0 s5_ K)) ∧ (¬ (((-1) : Int32) ≤ x3) → (K (some (.int ((-1)))) s5_))))))))))))) : C2 Γ l mX9_reads [.ref 0, .int x1, .int x2, .int x3] σ K := by
  refine c2_of (lv := [(0, .ref 0), (1, .int x1), (2, .int x2), (3, .int x3)]) (by decide) (Nat.le_of_ble_eq_true rfl) rfl ?_
  refine r_aload_n (dcx dX9_reads_c0 0 rfl) 0 rfl ?_
  obtain ⟨b1_, eb1_, hb1_, hyp⟩ := hyp
  refine s_getmE fX9_28 (dcx dX9_reads_c0 1 rfl) F0_8 eb1_ (nzP hb1_) ?_
  refine r_iload_n (dcx dX9_reads_c0 2 rfl) 1 rfl ?_
  refine s_callV (as := [.int x1]) (st := []) zX6_hasWindow kX9_reads_163 (dcx dX9_reads_c0 3 rfl) rfl rfl (Nat.le_of_ble_eq_true rfl) (OP hb1_) rfl rfl (C2.mono hyp ?_)
  rintro _ s2_ ⟨r3_, rfl, hyp⟩
  show G2 Γ l mX9_reads 8 [(0, .ref 0), (1, .int x1), (2, .int x2), (3, .int x3)] [.int r3_] s2_ K
  refine r_if_eq (tgt := 27) (dcx dX9_reads_c0 4 rfl) (by decide) (fun q_ => ?_) (fun q_ => ?_)
  · have hyp := hyp.1 q_
    refine r_iconst (v := (-1)) (dcx dX9_reads_c0 13 rfl) rfl ?_
    exact s_ret rfl rfl rfl hyp (dcx dX9_reads_c0 14 rfl)
  · have hyp := hyp.2 q_
    refine r_aload_n (dcx dX9_reads_c0 5 rfl) 0 rfl ?_
    obtain ⟨b4_, eb4_, hb4_, hyp⟩ := hyp
    refine s_getmE fX9_28 (dcx dX9_reads_c0 6 rfl) F0_8 eb4_ (nzP hb4_) ?_
    refine r_iload_n (dcx dX9_reads_c0 7 rfl) 2 rfl ?_
    refine s_callV (as := [.int x2]) (st := []) zX6_hasSign kX9_reads_138 (dcx dX9_reads_c0 8 rfl) rfl rfl (Nat.le_of_ble_eq_true rfl) (OP hb4_) rfl rfl (C2.mono hyp ?_)
    rintro _ s5_ ⟨r6_, rfl, hyp⟩
    show G2 Γ l mX9_reads 19 [(0, .ref 0), (1, .int x1), (2, .int x2), (3, .int x3)] [.int r6_] s5_ K
    refine r_if_eq (tgt := 27) (dcx dX9_reads_c0 9 rfl) (by decide) (fun q_ => ?_) (fun q_ => ?_)
    · have hyp := hyp.1 q_
      refine r_iconst (v := (-1)) (dcx dX9_reads_c0 13 rfl) rfl ?_
      exact s_ret rfl rfl rfl hyp (dcx dX9_reads_c0 14 rfl)
    · have hyp := hyp.2 q_
      refine r_iload_n (dcx dX9_reads_c0 10 rfl) 3 rfl ?_
      refine r_iconst (v := (-1)) (dcx dX9_reads_c0 11 rfl) rfl ?_
      refine r_icmp_ge (tgt := 29) (dcx dX9_reads_c0 12 rfl) (by decide) (fun q_ => ?_) (fun q_ => ?_)
      · have hyp := hyp.1 q_
        refine r_iconst (v := 0) (dcx dX9_reads_c0 15 rfl) rfl ?_
        refine r_istore (lv1 := [(4, .int 0), (0, .ref 0), (1, .int x1), (2, .int x2), (3, .int x3)]) (dcx dX9_reads_c0 16 rfl) (Nat.le_of_ble_eq_true rfl) rfl ?_
        refine r_iconst (v := 0) (dcx dX9_reads_c0 17 rfl) rfl ?_
        refine r_istore (lv1 := [(5, .int 0), (4, .int 0), (0, .ref 0), (1, .int x1), (2, .int x2), (3, .int x3)]) (dcx dX9_reads_c0 18 rfl) (Nat.le_of_ble_eq_true rfl) rfl ?_
        refine r_loc (lv1 := [(0, .ref 0), (1, .int x1), (2, .int x2), (3, .int x3), (4, .int 0), (5, .int 0)]) [2, 3, 4, 5, 1, 0] rfl ?_
        exact hyp
      · have hyp := hyp.2 q_
        refine r_iconst (v := (-1)) (dcx dX9_reads_c0 13 rfl) rfl ?_
        exact s_ret rfl rfl rfl hyp (dcx dX9_reads_c0 14 rfl)
set_option maxHeartbeats 4000000 in
set_option maxRecDepth 20000 in
theorem tX9_reads_35 {Γ : GE} {l : Launch} {x1 : Int32} {x2 : Int32} {x3 : Int32} {x4 : Int32} {x5 : Int32} {σ : SS} {K : Option Value → SS → Prop}  (hyp : ∃ b1_ : Nat, σ.2.2 0 8 = b1_ ∧ isP b1_ ∧ (((σ.1 b1_ 12) ≤ (x5 + 2) → ((¬ x3 = ((-1)) → (K (some (.int ((-1)))) σ)) ∧ (x3 = ((-1)) → (K (some (.int x4)) σ)))) ∧ (¬ ((σ.1 b1_ 12) ≤ (x5 + 2)) → (wX9_reads_52 Γ l x1 x2 x3 x4 x5 0 σ K)))) : wX9_reads_35 Γ l x1 x2 x3 x4 x5 σ K := by
  show G2 Γ l mX9_reads 35 [(0, .ref 0), (1, .int x1), (2, .int x2), (3, .int x3), (4, .int x4), (5, .int x5)] [] σ K
  refine r_iload (dcx dX9_reads_c0 19 rfl) 5 rfl ?_
  refine r_iconst (v := 2) (dcx dX9_reads_c0 20 rfl) rfl ?_
  refine r_iadd (dcx dX9_reads_c0 21 rfl) ?_
  refine r_aload_n (dcx dX9_reads_c0 22 rfl) 0 rfl ?_
  obtain ⟨b1_, eb1_, hb1_, hyp⟩ := hyp
  refine s_getmE fX9_28 (dcx dX9_reads_c0 23 rfl) F0_8 eb1_ (nzP hb1_) ?_
  refine s_geti fX9_185 (dcx dX9_reads_c0 24 rfl) (FP_12 hb1_) ?_
  refine r_icmp_ge (tgt := 116) (dcx dX9_reads_c0 25 rfl) (by decide) (fun q_ => ?_) (fun q_ => ?_)
  · have hyp := hyp.1 q_
    refine r_iload_n (dcx dX9_reads_c1 19 rfl) 3 rfl ?_
    refine r_iconst (v := (-1)) (dcx dX9_reads_c1 20 rfl) rfl ?_
    refine r_icmp_ne (tgt := 126) (dcx dX9_reads_c1 21 rfl) (by decide) (fun q_ => ?_) (fun q_ => ?_)
    · have hyp := hyp.1 q_
      refine r_iconst (v := (-1)) (dcx dX9_reads_c1 24 rfl) rfl ?_
      exact s_ret rfl rfl rfl hyp (dcx dX9_reads_c1 25 rfl)
    · have hyp := hyp.2 q_
      refine r_iload (dcx dX9_reads_c1 22 rfl) 4 rfl ?_
      refine r_goto (tgt := 127) (dcx dX9_reads_c1 23 rfl) (by decide) ?_
      exact s_ret rfl rfl rfl hyp (dcx dX9_reads_c1 25 rfl)
  · have hyp := hyp.2 q_
    refine r_iconst (v := 0) (dcx dX9_reads_c0 26 rfl) rfl ?_
    refine r_istore (lv1 := [(6, .int 0), (0, .ref 0), (1, .int x1), (2, .int x2), (3, .int x3), (4, .int x4), (5, .int x5)]) (dcx dX9_reads_c0 27 rfl) (Nat.le_of_ble_eq_true rfl) rfl ?_
    refine r_loc (lv1 := [(0, .ref 0), (1, .int x1), (2, .int x2), (3, .int x3), (4, .int x4), (5, .int x5), (6, .int 0)]) [1, 2, 3, 4, 5, 6, 0] rfl ?_
    exact hyp
set_option maxHeartbeats 4000000 in
set_option maxRecDepth 20000 in
theorem tX9_reads_52 {Γ : GE} {l : Launch} {x1 : Int32} {x2 : Int32} {x3 : Int32} {x4 : Int32} {x5 : Int32} {x6 : Int32} {σ : SS} {K : Option Value → SS → Prop}  (hyp : ∃ b1_ : Nat, σ.2.2 0 8 = b1_ ∧ isP b1_ ∧ (((σ.1 b1_ 11) ≤ (x6 + 2) → (wX9_reads_35 Γ l x1 x2 x3 x4 (x5 + 1) σ K)) ∧ (¬ ((σ.1 b1_ 11) ≤ (x6 + 2)) → (C2 Γ l mX1_isRead [.ref 46, .ref 269, .int x1, .int x2, .int x6, .int x5] σ (Ri fun r3_ s2_ => ((r3_ = 0 → (wX9_reads_52 Γ l x1 x2 x3 x4 x5 (x6 + 1) s2_ K)) ∧ (¬ (r3_ = 0) → ((¬ x4 = x3 → (wX9_reads_52 Γ l x1 x2 x3 (x4 + 1) x5 (x6 + 1) s2_ K)) ∧ (x4 = x3 → (K (some (.int ((10 * x5) + x6))) s2_)))))))))) : wX9_reads_52 Γ l x1 x2 x3 x4 x5 x6 σ K := by
  show G2 Γ l mX9_reads 52 [(0, .ref 0), (1, .int x1), (2, .int x2), (3, .int x3), (4, .int x4), (5, .int x5), (6, .int x6)] [] σ K
  refine r_iload (dcx dX9_reads_c0 28 rfl) 6 rfl ?_
  refine r_iconst (v := 2) (dcx dX9_reads_c0 29 rfl) rfl ?_
  refine r_iadd (dcx dX9_reads_c0 30 rfl) ?_
  refine r_aload_n (dcx dX9_reads_c0 31 rfl) 0 rfl ?_
  obtain ⟨b1_, eb1_, hb1_, hyp⟩ := hyp
  refine s_getmE fX9_28 (dcx dX9_reads_c0 32 rfl) F0_8 eb1_ (nzP hb1_) ?_
  refine s_geti fX9_188 (dcx dX9_reads_c0 33 rfl) (FP_11 hb1_) ?_
  refine r_icmp_ge (tgt := 110) (dcx dX9_reads_c0 34 rfl) (by decide) (fun q_ => ?_) (fun q_ => ?_)
  · have hyp := hyp.1 q_
    refine r_iinc (lv1 := [(5, .int (x5 + 1)), (0, .ref 0), (1, .int x1), (2, .int x2), (3, .int x3), (4, .int x4), (6, .int x6)]) (dcx dX9_reads_c1 17 rfl) 5 rfl (Nat.le_of_ble_eq_true rfl) rfl ?_
    refine r_goto (tgt := 35) (dcx dX9_reads_c1 18 rfl) (by decide) ?_
    refine r_loc (lv1 := [(0, .ref 0), (1, .int x1), (2, .int x2), (3, .int x3), (4, .int x4), (5, .int (x5 + 1))]) [1, 2, 3, 4, 5, 0] rfl ?_
    exact hyp
  · have hyp := hyp.2 q_
    refine r_aload_n (dcx dX9_reads_c0 35 rfl) 0 rfl ?_
    refine s_getr (b := 46) fX9_40 (dcx dX9_reads_c0 36 rfl) F0_2 ?_
    refine r_aload_n (dcx dX9_reads_c0 37 rfl) 0 rfl ?_
    refine s_getr (b := 269) fX9_63 (dcx dX9_reads_c0 38 rfl) F0_5 ?_
    refine r_iload_n (dcx dX9_reads_c0 39 rfl) 1 rfl ?_
    refine r_iload_n (dcx dX9_reads_c1 0 rfl) 2 rfl ?_
    refine r_iload (dcx dX9_reads_c1 1 rfl) 6 rfl ?_
    refine r_iload (dcx dX9_reads_c1 2 rfl) 5 rfl ?_
    refine s_callV (as := [.ref 269, .int x1, .int x2, .int x6, .int x5]) (st := []) zX1_isRead kX9_reads_191 (dcx dX9_reads_c1 3 rfl) rfl rfl (Nat.le_of_ble_eq_true rfl) O46 rfl rfl (C2.mono hyp ?_)
    rintro _ s2_ ⟨r3_, rfl, hyp⟩
    show G2 Γ l mX9_reads 83 [(0, .ref 0), (1, .int x1), (2, .int x2), (3, .int x3), (4, .int x4), (5, .int x5), (6, .int x6)] [.int r3_] s2_ K
    refine r_if_eq (tgt := 104) (dcx dX9_reads_c1 4 rfl) (by decide) (fun q_ => ?_) (fun q_ => ?_)
    · have hyp := hyp.1 q_
      refine r_iinc (lv1 := [(6, .int (x6 + 1)), (0, .ref 0), (1, .int x1), (2, .int x2), (3, .int x3), (4, .int x4), (5, .int x5)]) (dcx dX9_reads_c1 15 rfl) 6 rfl (Nat.le_of_ble_eq_true rfl) rfl ?_
      refine r_goto (tgt := 52) (dcx dX9_reads_c1 16 rfl) (by decide) ?_
      refine r_loc (lv1 := [(0, .ref 0), (1, .int x1), (2, .int x2), (3, .int x3), (4, .int x4), (5, .int x5), (6, .int (x6 + 1))]) [1, 2, 3, 4, 5, 6, 0] rfl ?_
      exact hyp
    · have hyp := hyp.2 q_
      refine r_iload (dcx dX9_reads_c1 5 rfl) 4 rfl ?_
      refine r_iload_n (dcx dX9_reads_c1 6 rfl) 3 rfl ?_
      refine r_icmp_ne (tgt := 101) (dcx dX9_reads_c1 7 rfl) (by decide) (fun q_ => ?_) (fun q_ => ?_)
      · have hyp := hyp.1 q_
        refine r_iinc (lv1 := [(4, .int (x4 + 1)), (0, .ref 0), (1, .int x1), (2, .int x2), (3, .int x3), (5, .int x5), (6, .int x6)]) (dcx dX9_reads_c1 14 rfl) 4 rfl (Nat.le_of_ble_eq_true rfl) rfl ?_
        refine r_iinc (lv1 := [(6, .int (x6 + 1)), (4, .int (x4 + 1)), (0, .ref 0), (1, .int x1), (2, .int x2), (3, .int x3), (5, .int x5)]) (dcx dX9_reads_c1 15 rfl) 6 rfl (Nat.le_of_ble_eq_true rfl) rfl ?_
        refine r_goto (tgt := 52) (dcx dX9_reads_c1 16 rfl) (by decide) ?_
        refine r_loc (lv1 := [(0, .ref 0), (1, .int x1), (2, .int x2), (3, .int x3), (4, .int (x4 + 1)), (5, .int x5), (6, .int (x6 + 1))]) [2, 3, 4, 5, 1, 6, 0] rfl ?_
        exact hyp
      · have hyp := hyp.2 q_
        refine r_bipush (v := 10) (dcx dX9_reads_c1 8 rfl) rfl ?_
        refine r_iload (dcx dX9_reads_c1 9 rfl) 5 rfl ?_
        refine r_imul (dcx dX9_reads_c1 10 rfl) ?_
        refine r_iload (dcx dX9_reads_c1 11 rfl) 6 rfl ?_
        refine r_iadd (dcx dX9_reads_c1 12 rfl) ?_
        exact s_ret rfl rfl rfl hyp (dcx dX9_reads_c1 13 rfl)
set_option maxHeartbeats 4000000 in
set_option maxRecDepth 20000 in
theorem tX9_cut {Γ : GE} {l : Launch} {x1 : Int32} {x2 : Int32} {x3 : Int32} {σ : SS} {K : Option Value → SS → Prop}  (hyp : ∃ b1_ : Nat, σ.2.2 0 8 = b1_ ∧ isP b1_ ∧ (C2 Γ l mX6_hasPlace [.ref b1_, .int x1, .int x2, .int x3] σ (Ri fun r3_ s2_ => ((¬ r3_ = 0 → (C2 Γ l mX5_keep [.ref 50, .ref 269] s2_ (Rv fun s4_ => (C2 Γ l mX1_fineFor [.ref 46, .ref 269, .int x1, .int x2, .int x3] s4_ (Ri fun r7_ s6_ => (C2 Γ l mX1_cutOut [.ref 46, .ref 269, .int x1, .int x2, .int x3] s6_ (Rv fun s8_ => (vp_in x1 4 ∧ (vp_in x1 4 ∧ (∀ s10_ : SS, s10_ = sI s8_ (269 + 4) (Int32.toNatClampNeg x1) ((s8_.1 (269 + 4) (Int32.toNatClampNeg x1)) + 1) → (∀ s11_ : SS, s11_ = sI s10_ 269 5 ((s10_.1 269 5) + r7_) → (K (some (.int r7_)) s11_)))))))))))) ∧ (r3_ = 0 → (K (some (.int ((-1)))) s2_)))))) : C2 Γ l mX9_cut [.ref 0, .int x1, .int x2, .int x3] σ K := by
  refine c2_of (lv := [(0, .ref 0), (1, .int x1), (2, .int x2), (3, .int x3)]) (by decide) (Nat.le_of_ble_eq_true rfl) rfl ?_
  refine r_aload_n (dcx dX9_cut_c0 0 rfl) 0 rfl ?_
  obtain ⟨b1_, eb1_, hb1_, hyp⟩ := hyp
  refine s_getmE fX9_28 (dcx dX9_cut_c0 1 rfl) F0_8 eb1_ (nzP hb1_) ?_
  refine r_iload_n (dcx dX9_cut_c0 2 rfl) 1 rfl ?_
  refine r_iload_n (dcx dX9_cut_c0 3 rfl) 2 rfl ?_
  refine r_iload_n (dcx dX9_cut_c0 4 rfl) 3 rfl ?_
  refine s_callV (as := [.int x1, .int x2, .int x3]) (st := []) zX6_hasPlace kX9_cut_178 (dcx dX9_cut_c0 5 rfl) rfl rfl (Nat.le_of_ble_eq_true rfl) (OP hb1_) rfl rfl (C2.mono hyp ?_)
  rintro _ s2_ ⟨r3_, rfl, hyp⟩
  show G2 Γ l mX9_cut 10 [(0, .ref 0), (1, .int x1), (2, .int x2), (3, .int x3)] [.int r3_] s2_ K
  refine r_if_ne (tgt := 15) (dcx dX9_cut_c0 6 rfl) (by decide) (fun q_ => ?_) (fun q_ => ?_)
  · have hyp := hyp.1 q_
    refine r_aload_n (dcx dX9_cut_c0 9 rfl) 0 rfl ?_
    refine s_getr (b := 50) fX9_47 (dcx dX9_cut_c0 10 rfl) F0_3 ?_
    refine r_aload_n (dcx dX9_cut_c0 11 rfl) 0 rfl ?_
    refine s_getr (b := 269) fX9_63 (dcx dX9_cut_c0 12 rfl) F0_5 ?_
    refine s_callV (as := [.ref 269]) (st := []) zX5_keep kX9_cut_195 (dcx dX9_cut_c0 13 rfl) rfl rfl (Nat.le_of_ble_eq_true rfl) O50 rfl rfl (C2.mono hyp ?_)
    rintro _ s4_ ⟨rfl, hyp⟩
    show G2 Γ l mX9_cut 26 [(0, .ref 0), (1, .int x1), (2, .int x2), (3, .int x3)] [] s4_ K
    refine r_aload_n (dcx dX9_cut_c0 14 rfl) 0 rfl ?_
    refine s_getr (b := 46) fX9_40 (dcx dX9_cut_c0 15 rfl) F0_2 ?_
    refine r_aload_n (dcx dX9_cut_c0 16 rfl) 0 rfl ?_
    refine s_getr (b := 269) fX9_63 (dcx dX9_cut_c0 17 rfl) F0_5 ?_
    refine r_iload_n (dcx dX9_cut_c0 18 rfl) 1 rfl ?_
    refine r_iload_n (dcx dX9_cut_c0 19 rfl) 2 rfl ?_
    refine r_iload_n (dcx dX9_cut_c0 20 rfl) 3 rfl ?_
    refine s_callV (as := [.ref 269, .int x1, .int x2, .int x3]) (st := []) zX1_fineFor kX9_cut_199 (dcx dX9_cut_c0 21 rfl) rfl rfl (Nat.le_of_ble_eq_true rfl) O46 rfl rfl (C2.mono hyp ?_)
    rintro _ s6_ ⟨r7_, rfl, hyp⟩
    show G2 Γ l mX9_cut 40 [(0, .ref 0), (1, .int x1), (2, .int x2), (3, .int x3)] [.int r7_] s6_ K
    refine r_istore (lv1 := [(4, .int r7_), (0, .ref 0), (1, .int x1), (2, .int x2), (3, .int x3)]) (dcx dX9_cut_c0 22 rfl) (Nat.le_of_ble_eq_true rfl) rfl ?_
    refine r_aload_n (dcx dX9_cut_c0 23 rfl) 1 rfl ?_
    refine s_getr (b := 46) fX9_40 (dcx dX9_cut_c0 24 rfl) F0_2 ?_
    refine r_aload_n (dcx dX9_cut_c0 25 rfl) 1 rfl ?_
    refine s_getr (b := 269) fX9_63 (dcx dX9_cut_c0 26 rfl) F0_5 ?_
    refine r_iload_n (dcx dX9_cut_c0 27 rfl) 2 rfl ?_
    refine r_iload_n (dcx dX9_cut_c0 28 rfl) 3 rfl ?_
    refine r_iload_n (dcx dX9_cut_c0 29 rfl) 4 rfl ?_
    refine s_callV (as := [.ref 269, .int x1, .int x2, .int x3]) (st := []) zX1_cutOut kX9_cut_202 (dcx dX9_cut_c0 30 rfl) rfl rfl (Nat.le_of_ble_eq_true rfl) O46 rfl rfl (C2.mono hyp ?_)
    rintro _ s8_ ⟨rfl, hyp⟩
    show G2 Γ l mX9_cut 56 [(4, .int r7_), (0, .ref 0), (1, .int x1), (2, .int x2), (3, .int x3)] [] s8_ K
    refine r_aload_n (dcx dX9_cut_c0 31 rfl) 1 rfl ?_
    refine s_getr (b := 269) fX9_63 (dcx dX9_cut_c0 32 rfl) F0_5 ?_
    refine s_getr (b := 269 + 4) fX9_154 (dcx dX9_cut_c0 33 rfl) (FL_3 isL269) ?_
    refine r_iload_n (dcx dX9_cut_c0 34 rfl) 2 rfl ?_
    refine r_dup2 (dcx dX9_cut_c0 35 rfl) rfl rfl ?_
    obtain ⟨hb_, hyp⟩ := hyp
    refine s_iald (dcx dX9_cut_c0 36 rfl) (AL_3 isL269) hb_ ?_
    refine r_iconst (v := 1) (dcx dX9_cut_c0 37 rfl) rfl ?_
    refine r_iadd (dcx dX9_cut_c0 38 rfl) ?_
    obtain ⟨hb_, hyp⟩ := hyp
    refine s_iast (dcx dX9_cut_c0 39 rfl) (AL_3 isL269) hb_ ?_
    obtain ⟨s10_, es10_⟩ : ∃ z : SS, z = sI s8_ (269 + 4) (Int32.toNatClampNeg x1) ((s8_.1 (269 + 4) (Int32.toNatClampNeg x1)) + 1) := ⟨_, rfl⟩
    rw [← es10_]
    have hyp := hyp s10_ es10_
    refine r_aload_n (dcx dX9_cut_c1 0 rfl) 1 rfl ?_
    refine s_getr (b := 269) fX9_63 (dcx dX9_cut_c1 1 rfl) F0_5 ?_
    refine r_dup (dcx dX9_cut_c1 2 rfl) rfl ?_
    refine s_geti fX9_206 (dcx dX9_cut_c1 3 rfl) (FL_5 isL269) ?_
    refine r_iload (dcx dX9_cut_c1 4 rfl) 0 rfl ?_
    refine r_iadd (dcx dX9_cut_c1 5 rfl) ?_
    refine s_puti gX9_206 (dcx dX9_cut_c1 6 rfl) (FL_5 isL269) ?_
    obtain ⟨s11_, es11_⟩ : ∃ z : SS, z = sI s10_ 269 5 ((s10_.1 269 5) + r7_) := ⟨_, rfl⟩
    rw [← es11_]
    have hyp := hyp s11_ es11_
    refine r_iload (dcx dX9_cut_c1 7 rfl) 0 rfl ?_
    exact s_ret rfl rfl rfl hyp (dcx dX9_cut_c1 8 rfl)
  · have hyp := hyp.2 q_
    refine r_iconst (v := (-1)) (dcx dX9_cut_c0 7 rfl) rfl ?_
    exact s_ret rfl rfl rfl hyp (dcx dX9_cut_c0 8 rfl)
set_option maxHeartbeats 4000000 in
set_option maxRecDepth 20000 in
theorem tX9_graze {Γ : GE} {l : Launch} {x1 : Int32} {x2 : Int32} {σ : SS} {K : Option Value → SS → Prop}  (hyp : ∃ b1_ : Nat, σ.2.2 0 8 = b1_ ∧ isP b1_ ∧ (C2 Γ l mX6_hasCell [.ref b1_, .int x1, .int x2] σ (Ri fun r3_ s2_ => ((¬ r3_ = 0 → (∃ b4_ : Nat, s2_.2.2 0 8 = b4_ ∧ isP b4_ ∧ (C2 Γ l mX6_isGrass [.ref b4_, .int x1, .int x2] s2_ (Ri fun r6_ s5_ => ((¬ r6_ = 0 → (C2 Γ l mX5_keep [.ref 50, .ref 269] s5_ (Rv fun s7_ => (C2 Γ l mX9_indexOf [.int x1, .int x2] s7_ (Ri fun r10_ s9_ => (vp_in r10_ 80 ∧ (vp_in r10_ 80 ∧ (∀ s11_ : SS, s11_ = sI s9_ (269 + 1) (Int32.toNatClampNeg r10_) 0 → (K (some (.int (s9_.1 (269 + 1) (Int32.toNatClampNeg r10_)))) s11_))))))))) ∧ (r6_ = 0 → (K (some (.int ((-2)))) s5_))))))) ∧ (r3_ = 0 → (K (some (.int ((-1)))) s2_)))))) : C2 Γ l mX9_graze [.ref 0, .int x1, .int x2] σ K := by
  refine c2_of (lv := [(0, .ref 0), (1, .int x1), (2, .int x2)]) (by decide) (Nat.le_of_ble_eq_true rfl) rfl ?_
  refine r_aload_n (dcx dX9_graze_c0 0 rfl) 0 rfl ?_
  obtain ⟨b1_, eb1_, hb1_, hyp⟩ := hyp
  refine s_getmE fX9_28 (dcx dX9_graze_c0 1 rfl) F0_8 eb1_ (nzP hb1_) ?_
  refine r_iload_n (dcx dX9_graze_c0 2 rfl) 1 rfl ?_
  refine r_iload_n (dcx dX9_graze_c0 3 rfl) 2 rfl ?_
  refine s_callV (as := [.int x1, .int x2]) (st := []) zX6_hasCell kX9_graze_113 (dcx dX9_graze_c0 4 rfl) rfl rfl (Nat.le_of_ble_eq_true rfl) (OP hb1_) rfl rfl (C2.mono hyp ?_)
  rintro _ s2_ ⟨r3_, rfl, hyp⟩
  show G2 Γ l mX9_graze 9 [(0, .ref 0), (1, .int x1), (2, .int x2)] [.int r3_] s2_ K
  refine r_if_ne (tgt := 14) (dcx dX9_graze_c0 5 rfl) (by decide) (fun q_ => ?_) (fun q_ => ?_)
  · have hyp := hyp.1 q_
    refine r_aload_n (dcx dX9_graze_c0 8 rfl) 0 rfl ?_
    obtain ⟨b4_, eb4_, hb4_, hyp⟩ := hyp
    refine s_getmE fX9_28 (dcx dX9_graze_c0 9 rfl) F0_8 eb4_ (nzP hb4_) ?_
    refine r_iload_n (dcx dX9_graze_c0 10 rfl) 1 rfl ?_
    refine r_iload_n (dcx dX9_graze_c0 11 rfl) 2 rfl ?_
    refine s_callV (as := [.int x1, .int x2]) (st := []) zX6_isGrass kX9_graze_131 (dcx dX9_graze_c0 12 rfl) rfl rfl (Nat.le_of_ble_eq_true rfl) (OP hb4_) rfl rfl (C2.mono hyp ?_)
    rintro _ s5_ ⟨r6_, rfl, hyp⟩
    show G2 Γ l mX9_graze 23 [(0, .ref 0), (1, .int x1), (2, .int x2)] [.int r6_] s5_ K
    refine r_if_ne (tgt := 29) (dcx dX9_graze_c0 13 rfl) (by decide) (fun q_ => ?_) (fun q_ => ?_)
    · have hyp := hyp.1 q_
      refine r_aload_n (dcx dX9_graze_c0 16 rfl) 0 rfl ?_
      refine s_getr (b := 50) fX9_47 (dcx dX9_graze_c0 17 rfl) F0_3 ?_
      refine r_aload_n (dcx dX9_graze_c0 18 rfl) 0 rfl ?_
      refine s_getr (b := 269) fX9_63 (dcx dX9_graze_c0 19 rfl) F0_5 ?_
      refine s_callV (as := [.ref 269]) (st := []) zX5_keep kX9_graze_195 (dcx dX9_graze_c0 20 rfl) rfl rfl (Nat.le_of_ble_eq_true rfl) O50 rfl rfl (C2.mono hyp ?_)
      rintro _ s7_ ⟨rfl, hyp⟩
      show G2 Γ l mX9_graze 40 [(0, .ref 0), (1, .int x1), (2, .int x2)] [] s7_ K
      refine r_iload_n (dcx dX9_graze_c0 21 rfl) 1 rfl ?_
      refine r_iload_n (dcx dX9_graze_c0 22 rfl) 2 rfl ?_
      refine s_callS (as := [.int x1, .int x2]) (st := []) zX9_indexOf kX9_graze_117 (dcx dX9_graze_c0 23 rfl) rfl rfl (Nat.le_of_ble_eq_true rfl) (C2.mono hyp ?_)
      rintro _ s9_ ⟨r10_, rfl, hyp⟩
      show G2 Γ l mX9_graze 45 [(0, .ref 0), (1, .int x1), (2, .int x2)] [.int r10_] s9_ K
      refine r_istore_n (lv1 := [(3, .int r10_), (0, .ref 0), (1, .int x1), (2, .int x2)]) (dcx dX9_graze_c0 24 rfl) (Nat.le_of_ble_eq_true rfl) rfl ?_
      refine r_aload_n (dcx dX9_graze_c0 25 rfl) 1 rfl ?_
      refine s_getr (b := 269) fX9_63 (dcx dX9_graze_c0 26 rfl) F0_5 ?_
      refine s_getr (b := 269 + 1) fX9_121 (dcx dX9_graze_c0 27 rfl) (FL_0 isL269) ?_
      refine r_iload_n (dcx dX9_graze_c0 28 rfl) 0 rfl ?_
      obtain ⟨hb_, hyp⟩ := hyp
      refine s_iald (dcx dX9_graze_c0 29 rfl) (AL_0 isL269) hb_ ?_
      refine r_istore (lv1 := [(4, .int (s9_.1 (269 + 1) (Int32.toNatClampNeg r10_))), (3, .int r10_), (0, .ref 0), (1, .int x1), (2, .int x2)]) (dcx dX9_graze_c0 30 rfl) (Nat.le_of_ble_eq_true rfl) rfl ?_
      refine r_aload_n (dcx dX9_graze_c0 31 rfl) 2 rfl ?_
      refine s_getr (b := 269) fX9_63 (dcx dX9_graze_c0 32 rfl) F0_5 ?_
      refine s_getr (b := 269 + 1) fX9_121 (dcx dX9_graze_c0 33 rfl) (FL_0 isL269) ?_
      refine r_iload_n (dcx dX9_graze_c0 34 rfl) 1 rfl ?_
      refine r_iconst (v := 0) (dcx dX9_graze_c0 35 rfl) rfl ?_
      obtain ⟨hb_, hyp⟩ := hyp
      refine s_iast (dcx dX9_graze_c0 36 rfl) (AL_0 isL269) hb_ ?_
      obtain ⟨s11_, es11_⟩ : ∃ z : SS, z = sI s9_ (269 + 1) (Int32.toNatClampNeg r10_) 0 := ⟨_, rfl⟩
      rw [← es11_]
      have hyp := hyp s11_ es11_
      refine r_iload (dcx dX9_graze_c0 37 rfl) 0 rfl ?_
      exact s_ret rfl rfl rfl hyp (dcx dX9_graze_c0 38 rfl)
    · have hyp := hyp.2 q_
      refine r_bipush (v := (-2)) (dcx dX9_graze_c0 14 rfl) rfl ?_
      exact s_ret rfl rfl rfl hyp (dcx dX9_graze_c0 15 rfl)
  · have hyp := hyp.2 q_
    refine r_iconst (v := (-1)) (dcx dX9_graze_c0 6 rfl) rfl ?_
    exact s_ret rfl rfl rfl hyp (dcx dX9_graze_c0 7 rfl)
