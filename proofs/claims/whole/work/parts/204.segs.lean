def wX3_hearEndOfE_27 (Γ : GE) (l : Launch) (x1 : Int32) (σ : SS) (K : Option Value → SS → Prop) : Prop := G2 Γ l mX3_hearEndOfE 27 [(0, .ref 8), (1, .int x1)] [] σ K
def wX3_hearEndOfE_174 (Γ : GE) (l : Launch)  (σ : SS) (K : Option Value → SS → Prop) : Prop := G2 Γ l mX3_hearEndOfE 174 [(0, .ref 8)] [] σ K
def wX3_hearEndOfE_82 (Γ : GE) (l : Launch) (x1 : Int32) (σ : SS) (K : Option Value → SS → Prop) : Prop := G2 Γ l mX3_hearEndOfE 82 [(0, .ref 8), (1, .int x1)] [] σ K
def wX3_hearEndOfE_136 (Γ : GE) (l : Launch) (x1 : Int32) (σ : SS) (K : Option Value → SS → Prop) : Prop := G2 Γ l mX3_hearEndOfE 136 [(0, .ref 8), (1, .int x1)] [] σ K
def wX3_hearEndOfE_172 (Γ : GE) (l : Launch)  (σ : SS) (K : Option Value → SS → Prop) : Prop := G2 Γ l mX3_hearEndOfE 172 [] [] σ K
set_option maxHeartbeats 4000000 in
set_option maxRecDepth 20000 in
theorem tX3_hearEndOfE {Γ : GE} {l : Launch} {x1 : Int32} {σ : SS} {K : Option Value → SS → Prop}  (hyp : (¬ x1 = 60 → (wX3_hearEndOfE_27 Γ l x1 σ K)) ∧ (x1 = 60 → ((¬ (σ.1 8 3) = 1 → (wX3_hearEndOfE_27 Γ l x1 σ K)) ∧ ((σ.1 8 3) = 1 → (C2 Γ l mX3_settle [.ref 8, .int 1] σ (Rv fun s1_ => (∀ s3_ : SS, s3_ = sI s1_ 8 3 2 → (wX3_hearEndOfE_174 Γ l  s3_ K)))))))) : C2 Γ l mX3_hearEndOfE [.ref 8, .int x1] σ K := by
  refine c2_of (lv := [(0, .ref 8), (1, .int x1)]) (by decide) (Nat.le_of_ble_eq_true rfl) rfl ?_
  refine r_iload_n (dcx dX3_hearEndOfE_c0 0 rfl) 1 rfl ?_
  refine r_bipush (v := 60) (dcx dX3_hearEndOfE_c0 1 rfl) rfl ?_
  refine r_icmp_ne (tgt := 27) (dcx dX3_hearEndOfE_c0 2 rfl) (by decide) (fun q_ => ?_) (fun q_ => ?_)
  · have hyp := hyp.1 q_
    refine r_loc (lv1 := [(0, .ref 8), (1, .int x1)]) [0, 1] rfl ?_
    exact hyp
  · have hyp := hyp.2 q_
    refine r_aload_n (dcx dX3_hearEndOfE_c0 3 rfl) 0 rfl ?_
    refine s_geti fX3_28 (dcx dX3_hearEndOfE_c0 4 rfl) F8_3 ?_
    refine r_iconst (v := 1) (dcx dX3_hearEndOfE_c0 5 rfl) rfl ?_
    refine r_icmp_ne (tgt := 27) (dcx dX3_hearEndOfE_c0 6 rfl) (by decide) (fun q_ => ?_) (fun q_ => ?_)
    · have hyp := hyp.1 q_
      refine r_loc (lv1 := [(0, .ref 8), (1, .int x1)]) [0, 1] rfl ?_
      exact hyp
    · have hyp := hyp.2 q_
      refine r_aload_n (dcx dX3_hearEndOfE_c0 7 rfl) 0 rfl ?_
      refine r_iconst (v := 1) (dcx dX3_hearEndOfE_c0 8 rfl) rfl ?_
      refine s_callV (as := [.int 1]) (st := []) zX3_settle kX3_hearEndOfE_71 (dcx dX3_hearEndOfE_c0 9 rfl) rfl rfl (Nat.le_of_ble_eq_true rfl) O8 rfl rfl (C2.mono hyp ?_)
      rintro _ s1_ ⟨rfl, hyp⟩
      show G2 Γ l mX3_hearEndOfE 19 [(0, .ref 8), (1, .int x1)] [] s1_ K
      refine r_aload_n (dcx dX3_hearEndOfE_c0 10 rfl) 0 rfl ?_
      refine r_iconst (v := 2) (dcx dX3_hearEndOfE_c0 11 rfl) rfl ?_
      refine s_puti gX3_28 (dcx dX3_hearEndOfE_c0 12 rfl) F8_3 ?_
      obtain ⟨s3_, es3_⟩ : ∃ z : SS, z = sI s1_ 8 3 2 := ⟨_, rfl⟩
      rw [← es3_]
      have hyp := hyp s3_ es3_
      refine r_goto (tgt := 174) (dcx dX3_hearEndOfE_c0 13 rfl) (by decide) ?_
      refine r_loc (lv1 := [(0, .ref 8)]) [0] rfl ?_
      exact hyp
set_option maxHeartbeats 4000000 in
set_option maxRecDepth 20000 in
theorem tX3_hearEndOfE_27 {Γ : GE} {l : Launch} {x1 : Int32} {σ : SS} {K : Option Value → SS → Prop}  (hyp : (¬ x1 = 111 → (wX3_hearEndOfE_82 Γ l x1 σ K)) ∧ (x1 = 111 → ((¬ (σ.1 8 3) = 2 → (wX3_hearEndOfE_82 Γ l x1 σ K)) ∧ ((σ.1 8 3) = 2 → (C2 Γ l mX3_settle [.ref 8, .int 1] σ (Rv fun s1_ => (∃ b3_ : Nat, s1_.2.2 8 2 = b3_ ∧ isW b3_ ∧ (C2 Γ l mX2_put [.ref b3_, .int ((-101))] s1_ (Rv fun s4_ => (∃ b6_ : Nat, s4_.2.2 8 2 = b6_ ∧ isW b6_ ∧ (∀ s7_ : SS, s7_ = sI s4_ 8 6 (s4_.1 b6_ 2) → (∃ b8_ : Nat, s7_.2.2 8 2 = b8_ ∧ isW b8_ ∧ (C2 Γ l mX2_put [.ref b8_, .int 0] s7_ (Rv fun s9_ => (∀ s11_ : SS, s11_ = sI s9_ 8 3 3 → (wX3_hearEndOfE_174 Γ l  s11_ K)))))))))))))))) : wX3_hearEndOfE_27 Γ l x1 σ K := by
  show G2 Γ l mX3_hearEndOfE 27 [(0, .ref 8), (1, .int x1)] [] σ K
  refine r_iload_n (dcx dX3_hearEndOfE_c0 14 rfl) 1 rfl ?_
  refine r_bipush (v := 111) (dcx dX3_hearEndOfE_c0 15 rfl) rfl ?_
  refine r_icmp_ne (tgt := 82) (dcx dX3_hearEndOfE_c0 16 rfl) (by decide) (fun q_ => ?_) (fun q_ => ?_)
  · have hyp := hyp.1 q_
    refine r_loc (lv1 := [(0, .ref 8), (1, .int x1)]) [0, 1] rfl ?_
    exact hyp
  · have hyp := hyp.2 q_
    refine r_aload_n (dcx dX3_hearEndOfE_c0 17 rfl) 0 rfl ?_
    refine s_geti fX3_28 (dcx dX3_hearEndOfE_c0 18 rfl) F8_3 ?_
    refine r_iconst (v := 2) (dcx dX3_hearEndOfE_c0 19 rfl) rfl ?_
    refine r_icmp_ne (tgt := 82) (dcx dX3_hearEndOfE_c0 20 rfl) (by decide) (fun q_ => ?_) (fun q_ => ?_)
    · have hyp := hyp.1 q_
      refine r_loc (lv1 := [(0, .ref 8), (1, .int x1)]) [0, 1] rfl ?_
      exact hyp
    · have hyp := hyp.2 q_
      refine r_aload_n (dcx dX3_hearEndOfE_c0 21 rfl) 0 rfl ?_
      refine r_iconst (v := 1) (dcx dX3_hearEndOfE_c0 22 rfl) rfl ?_
      refine s_callV (as := [.int 1]) (st := []) zX3_settle kX3_hearEndOfE_71 (dcx dX3_hearEndOfE_c0 23 rfl) rfl rfl (Nat.le_of_ble_eq_true rfl) O8 rfl rfl (C2.mono hyp ?_)
      rintro _ s1_ ⟨rfl, hyp⟩
      show G2 Γ l mX3_hearEndOfE 46 [(0, .ref 8), (1, .int x1)] [] s1_ K
      refine r_aload_n (dcx dX3_hearEndOfE_c0 24 rfl) 0 rfl ?_
      obtain ⟨b3_, eb3_, hb3_, hyp⟩ := hyp
      refine s_getmE fX3_15 (dcx dX3_hearEndOfE_c0 25 rfl) F8_2 eb3_ (nzW hb3_) ?_
      refine r_bipush (v := (-101)) (dcx dX3_hearEndOfE_c0 26 rfl) rfl ?_
      refine s_callV (as := [.int ((-101))]) (st := []) zX2_put kX3_hearEndOfE_54 (dcx dX3_hearEndOfE_c0 27 rfl) rfl rfl (Nat.le_of_ble_eq_true rfl) (OW hb3_) rfl rfl (C2.mono hyp ?_)
      rintro _ s4_ ⟨rfl, hyp⟩
      show G2 Γ l mX3_hearEndOfE 55 [(0, .ref 8), (1, .int x1)] [] s4_ K
      refine r_aload_n (dcx dX3_hearEndOfE_c0 28 rfl) 0 rfl ?_
      refine r_aload_n (dcx dX3_hearEndOfE_c0 29 rfl) 0 rfl ?_
      obtain ⟨b6_, eb6_, hb6_, hyp⟩ := hyp
      refine s_getmE fX3_15 (dcx dX3_hearEndOfE_c0 30 rfl) F8_2 eb6_ (nzW hb6_) ?_
      refine s_geti fX3_83 (dcx dX3_hearEndOfE_c0 31 rfl) (FW_2 hb6_) ?_
      refine s_puti gX3_37 (dcx dX3_hearEndOfE_c0 32 rfl) F8_6 ?_
      obtain ⟨s7_, es7_⟩ : ∃ z : SS, z = sI s4_ 8 6 (s4_.1 b6_ 2) := ⟨_, rfl⟩
      rw [← es7_]
      have hyp := hyp s7_ es7_
      refine r_aload_n (dcx dX3_hearEndOfE_c0 33 rfl) 0 rfl ?_
      obtain ⟨b8_, eb8_, hb8_, hyp⟩ := hyp
      refine s_getmE fX3_15 (dcx dX3_hearEndOfE_c0 34 rfl) F8_2 eb8_ (nzW hb8_) ?_
      refine r_iconst (v := 0) (dcx dX3_hearEndOfE_c0 35 rfl) rfl ?_
      refine s_callV (as := [.int 0]) (st := []) zX2_put kX3_hearEndOfE_54 (dcx dX3_hearEndOfE_c0 36 rfl) rfl rfl (Nat.le_of_ble_eq_true rfl) (OW hb8_) rfl rfl (C2.mono hyp ?_)
      rintro _ s9_ ⟨rfl, hyp⟩
      show G2 Γ l mX3_hearEndOfE 74 [(0, .ref 8), (1, .int x1)] [] s9_ K
      refine r_aload_n (dcx dX3_hearEndOfE_c0 37 rfl) 0 rfl ?_
      refine r_iconst (v := 3) (dcx dX3_hearEndOfE_c0 38 rfl) rfl ?_
      refine s_puti gX3_28 (dcx dX3_hearEndOfE_c0 39 rfl) F8_3 ?_
      obtain ⟨s11_, es11_⟩ : ∃ z : SS, z = sI s9_ 8 3 3 := ⟨_, rfl⟩
      rw [← es11_]
      have hyp := hyp s11_ es11_
      refine r_goto (tgt := 174) (dcx dX3_hearEndOfE_c1 0 rfl) (by decide) ?_
      refine r_loc (lv1 := [(0, .ref 8)]) [0] rfl ?_
      exact hyp
set_option maxHeartbeats 4000000 in
set_option maxRecDepth 20000 in
theorem tX3_hearEndOfE_174 {Γ : GE} {l : Launch}  {σ : SS} {K : Option Value → SS → Prop}  (hyp : ∀ s1_ : SS, s1_ = sI σ 8 7 1 → (K (some (.int 0)) s1_)) : wX3_hearEndOfE_174 Γ l  σ K := by
  show G2 Γ l mX3_hearEndOfE 174 [(0, .ref 8)] [] σ K
  refine r_aload_n (dcx dX3_hearEndOfE_c2 7 rfl) 0 rfl ?_
  refine r_iconst (v := 1) (dcx dX3_hearEndOfE_c2 8 rfl) rfl ?_
  refine s_putz gX3_40 (dcx dX3_hearEndOfE_c2 9 rfl) F8_7 rfl rfl ?_
  obtain ⟨s1_, es1_⟩ : ∃ z : SS, z = sI σ 8 7 1 := ⟨_, rfl⟩
  rw [← es1_]
  have hyp := hyp s1_ es1_
  refine r_iconst (v := 0) (dcx dX3_hearEndOfE_c2 10 rfl) rfl ?_
  exact s_ret rfl rfl rfl hyp (dcx dX3_hearEndOfE_c2 11 rfl)
set_option maxHeartbeats 4000000 in
set_option maxRecDepth 20000 in
theorem tX3_hearEndOfE_82 {Γ : GE} {l : Launch} {x1 : Int32} {σ : SS} {K : Option Value → SS → Prop}  (hyp : (¬ x1 = 112 → (wX3_hearEndOfE_136 Γ l x1 σ K)) ∧ (x1 = 112 → ((¬ (σ.1 8 3) = 3 → (wX3_hearEndOfE_136 Γ l x1 σ K)) ∧ ((σ.1 8 3) = 3 → (C2 Γ l mX3_settle [.ref 8, .int 1] σ (Rv fun s1_ => (∃ b3_ : Nat, s1_.2.2 8 2 = b3_ ∧ isW b3_ ∧ (C2 Γ l mX2_put [.ref b3_, .int ((-100))] s1_ (Rv fun s4_ => (∃ b6_ : Nat, s4_.2.2 8 2 = b6_ ∧ isW b6_ ∧ (∃ b7_ : Nat, s4_.2.2 8 2 = b7_ ∧ isW b7_ ∧ (C2 Γ l mX2_fill [.ref b6_, .int (s4_.1 8 6), .int (s4_.1 b7_ 2)] s4_ (Rv fun s8_ => (∀ s10_ : SS, s10_ = sI s8_ 8 3 0 → (wX3_hearEndOfE_174 Γ l  s10_ K))))))))))))))) : wX3_hearEndOfE_82 Γ l x1 σ K := by
  show G2 Γ l mX3_hearEndOfE 82 [(0, .ref 8), (1, .int x1)] [] σ K
  refine r_iload_n (dcx dX3_hearEndOfE_c1 1 rfl) 1 rfl ?_
  refine r_bipush (v := 112) (dcx dX3_hearEndOfE_c1 2 rfl) rfl ?_
  refine r_icmp_ne (tgt := 136) (dcx dX3_hearEndOfE_c1 3 rfl) (by decide) (fun q_ => ?_) (fun q_ => ?_)
  · have hyp := hyp.1 q_
    refine r_loc (lv1 := [(0, .ref 8), (1, .int x1)]) [0, 1] rfl ?_
    exact hyp
  · have hyp := hyp.2 q_
    refine r_aload_n (dcx dX3_hearEndOfE_c1 4 rfl) 0 rfl ?_
    refine s_geti fX3_28 (dcx dX3_hearEndOfE_c1 5 rfl) F8_3 ?_
    refine r_iconst (v := 3) (dcx dX3_hearEndOfE_c1 6 rfl) rfl ?_
    refine r_icmp_ne (tgt := 136) (dcx dX3_hearEndOfE_c1 7 rfl) (by decide) (fun q_ => ?_) (fun q_ => ?_)
    · have hyp := hyp.1 q_
      refine r_loc (lv1 := [(0, .ref 8), (1, .int x1)]) [0, 1] rfl ?_
      exact hyp
    · have hyp := hyp.2 q_
      refine r_aload_n (dcx dX3_hearEndOfE_c1 8 rfl) 0 rfl ?_
      refine r_iconst (v := 1) (dcx dX3_hearEndOfE_c1 9 rfl) rfl ?_
      refine s_callV (as := [.int 1]) (st := []) zX3_settle kX3_hearEndOfE_71 (dcx dX3_hearEndOfE_c1 10 rfl) rfl rfl (Nat.le_of_ble_eq_true rfl) O8 rfl rfl (C2.mono hyp ?_)
      rintro _ s1_ ⟨rfl, hyp⟩
      show G2 Γ l mX3_hearEndOfE 101 [(0, .ref 8), (1, .int x1)] [] s1_ K
      refine r_aload_n (dcx dX3_hearEndOfE_c1 11 rfl) 0 rfl ?_
      obtain ⟨b3_, eb3_, hb3_, hyp⟩ := hyp
      refine s_getmE fX3_15 (dcx dX3_hearEndOfE_c1 12 rfl) F8_2 eb3_ (nzW hb3_) ?_
      refine r_bipush (v := (-100)) (dcx dX3_hearEndOfE_c1 13 rfl) rfl ?_
      refine s_callV (as := [.int ((-100))]) (st := []) zX2_put kX3_hearEndOfE_54 (dcx dX3_hearEndOfE_c1 14 rfl) rfl rfl (Nat.le_of_ble_eq_true rfl) (OW hb3_) rfl rfl (C2.mono hyp ?_)
      rintro _ s4_ ⟨rfl, hyp⟩
      show G2 Γ l mX3_hearEndOfE 110 [(0, .ref 8), (1, .int x1)] [] s4_ K
      refine r_aload_n (dcx dX3_hearEndOfE_c1 15 rfl) 0 rfl ?_
      obtain ⟨b6_, eb6_, hb6_, hyp⟩ := hyp
      refine s_getmE fX3_15 (dcx dX3_hearEndOfE_c1 16 rfl) F8_2 eb6_ (nzW hb6_) ?_
      refine r_aload_n (dcx dX3_hearEndOfE_c1 17 rfl) 0 rfl ?_
      refine s_geti fX3_37 (dcx dX3_hearEndOfE_c1 18 rfl) F8_6 ?_
      refine r_aload_n (dcx dX3_hearEndOfE_c1 19 rfl) 0 rfl ?_
      obtain ⟨b7_, eb7_, hb7_, hyp⟩ := hyp
      refine s_getmE fX3_15 (dcx dX3_hearEndOfE_c1 20 rfl) F8_2 eb7_ (nzW hb7_) ?_
      refine s_geti fX3_83 (dcx dX3_hearEndOfE_c1 21 rfl) (FW_2 hb7_) ?_
      refine s_callV (as := [.int (s4_.1 8 6), .int (s4_.1 b7_ 2)]) (st := []) zX2_fill kX3_hearEndOfE_86 (dcx dX3_hearEndOfE_c1 22 rfl) rfl rfl (Nat.le_of_ble_eq_true rfl) (OW hb6_) rfl rfl (C2.mono hyp ?_)
      rintro _ s8_ ⟨rfl, hyp⟩
      show G2 Γ l mX3_hearEndOfE 128 [(0, .ref 8), (1, .int x1)] [] s8_ K
      refine r_aload_n (dcx dX3_hearEndOfE_c1 23 rfl) 0 rfl ?_
      refine r_iconst (v := 0) (dcx dX3_hearEndOfE_c1 24 rfl) rfl ?_
      refine s_puti gX3_28 (dcx dX3_hearEndOfE_c1 25 rfl) F8_3 ?_
      obtain ⟨s10_, es10_⟩ : ∃ z : SS, z = sI s8_ 8 3 0 := ⟨_, rfl⟩
      rw [← es10_]
      have hyp := hyp s10_ es10_
      refine r_goto (tgt := 174) (dcx dX3_hearEndOfE_c1 26 rfl) (by decide) ?_
      refine r_loc (lv1 := [(0, .ref 8)]) [0] rfl ?_
      exact hyp
set_option maxHeartbeats 4000000 in
set_option maxRecDepth 20000 in
theorem tX3_hearEndOfE_136 {Γ : GE} {l : Launch} {x1 : Int32} {σ : SS} {K : Option Value → SS → Prop}  (hyp : (¬ x1 = 59 → (wX3_hearEndOfE_172 Γ l  σ K)) ∧ (x1 = 59 → ((¬ (σ.1 8 3) = 4 → (wX3_hearEndOfE_172 Γ l  σ K)) ∧ ((σ.1 8 3) = 4 → (C2 Γ l mX3_settle [.ref 8, .int 1] σ (Rv fun s1_ => (∃ b3_ : Nat, s1_.2.2 8 2 = b3_ ∧ isW b3_ ∧ (C2 Γ l mX2_put [.ref b3_, .int ((-100))] s1_ (Rv fun s4_ => (∀ s6_ : SS, s6_ = sI s4_ 8 8 1 → (wX3_hearEndOfE_174 Γ l  s6_ K))))))))))) : wX3_hearEndOfE_136 Γ l x1 σ K := by
  show G2 Γ l mX3_hearEndOfE 136 [(0, .ref 8), (1, .int x1)] [] σ K
  refine r_iload_n (dcx dX3_hearEndOfE_c1 27 rfl) 1 rfl ?_
  refine r_bipush (v := 59) (dcx dX3_hearEndOfE_c1 28 rfl) rfl ?_
  refine r_icmp_ne (tgt := 172) (dcx dX3_hearEndOfE_c1 29 rfl) (by decide) (fun q_ => ?_) (fun q_ => ?_)
  · have hyp := hyp.1 q_
    refine r_loc (lv1 := []) [] rfl ?_
    exact hyp
  · have hyp := hyp.2 q_
    refine r_aload_n (dcx dX3_hearEndOfE_c1 30 rfl) 0 rfl ?_
    refine s_geti fX3_28 (dcx dX3_hearEndOfE_c1 31 rfl) F8_3 ?_
    refine r_iconst (v := 4) (dcx dX3_hearEndOfE_c1 32 rfl) rfl ?_
    refine r_icmp_ne (tgt := 172) (dcx dX3_hearEndOfE_c1 33 rfl) (by decide) (fun q_ => ?_) (fun q_ => ?_)
    · have hyp := hyp.1 q_
      refine r_loc (lv1 := []) [] rfl ?_
      exact hyp
    · have hyp := hyp.2 q_
      refine r_aload_n (dcx dX3_hearEndOfE_c1 34 rfl) 0 rfl ?_
      refine r_iconst (v := 1) (dcx dX3_hearEndOfE_c1 35 rfl) rfl ?_
      refine s_callV (as := [.int 1]) (st := []) zX3_settle kX3_hearEndOfE_71 (dcx dX3_hearEndOfE_c1 36 rfl) rfl rfl (Nat.le_of_ble_eq_true rfl) O8 rfl rfl (C2.mono hyp ?_)
      rintro _ s1_ ⟨rfl, hyp⟩
      show G2 Γ l mX3_hearEndOfE 155 [(0, .ref 8), (1, .int x1)] [] s1_ K
      refine r_aload_n (dcx dX3_hearEndOfE_c1 37 rfl) 0 rfl ?_
      obtain ⟨b3_, eb3_, hb3_, hyp⟩ := hyp
      refine s_getmE fX3_15 (dcx dX3_hearEndOfE_c1 38 rfl) F8_2 eb3_ (nzW hb3_) ?_
      refine r_bipush (v := (-100)) (dcx dX3_hearEndOfE_c1 39 rfl) rfl ?_
      refine s_callV (as := [.int ((-100))]) (st := []) zX2_put kX3_hearEndOfE_54 (dcx dX3_hearEndOfE_c2 0 rfl) rfl rfl (Nat.le_of_ble_eq_true rfl) (OW hb3_) rfl rfl (C2.mono hyp ?_)
      rintro _ s4_ ⟨rfl, hyp⟩
      show G2 Γ l mX3_hearEndOfE 164 [(0, .ref 8), (1, .int x1)] [] s4_ K
      refine r_aload_n (dcx dX3_hearEndOfE_c2 1 rfl) 0 rfl ?_
      refine r_iconst (v := 1) (dcx dX3_hearEndOfE_c2 2 rfl) rfl ?_
      refine s_putz gX3_44 (dcx dX3_hearEndOfE_c2 3 rfl) F8_8 rfl rfl ?_
      obtain ⟨s6_, es6_⟩ : ∃ z : SS, z = sI s4_ 8 8 1 := ⟨_, rfl⟩
      rw [← es6_]
      have hyp := hyp s6_ es6_
      refine r_goto (tgt := 174) (dcx dX3_hearEndOfE_c2 4 rfl) (by decide) ?_
      refine r_loc (lv1 := [(0, .ref 8)]) [0] rfl ?_
      exact hyp
set_option maxHeartbeats 4000000 in
set_option maxRecDepth 20000 in
theorem tX3_hearEndOfE_172 {Γ : GE} {l : Launch}  {σ : SS} {K : Option Value → SS → Prop}  (hyp : K (some (.int 1)) σ) : wX3_hearEndOfE_172 Γ l  σ K := by
  show G2 Γ l mX3_hearEndOfE 172 [] [] σ K
  refine r_iconst (v := 1) (dcx dX3_hearEndOfE_c2 5 rfl) rfl ?_
  exact s_ret rfl rfl rfl hyp (dcx dX3_hearEndOfE_c2 6 rfl)
set_option maxHeartbeats 4000000 in
set_option maxRecDepth 20000 in
theorem tX3_pushWaiting {Γ : GE} {l : Launch} {x1 : Int32} {σ : SS} {K : Option Value → SS → Prop}  (hyp : ((Int32.ofNat 24) ≤ (σ.1 8 1) → (K none σ)) ∧ (¬ ((Int32.ofNat 24) ≤ (σ.1 8 1)) → (vp_in (σ.1 8 1) 24 ∧ (∀ s1_ : SS, s1_ = sI σ 9 (Int32.toNatClampNeg (σ.1 8 1)) x1 → (∀ s2_ : SS, s2_ = sI s1_ 8 1 ((s1_.1 8 1) + 1) → (K none s2_)))))) : C2 Γ l mX3_pushWaiting [.ref 8, .int x1] σ K := by
  refine c2_of (lv := [(0, .ref 8), (1, .int x1)]) (by decide) (Nat.le_of_ble_eq_true rfl) rfl ?_
  refine r_aload_n (dcx dX3_pushWaiting_c0 0 rfl) 0 rfl ?_
  refine s_geti fX3_24 (dcx dX3_pushWaiting_c0 1 rfl) F8_1 ?_
  refine r_aload_n (dcx dX3_pushWaiting_c0 2 rfl) 0 rfl ?_
  refine s_getr (b := 9) fX3_9 (dcx dX3_pushWaiting_c0 3 rfl) F8_0 ?_
  refine s_alen (dcx dX3_pushWaiting_c0 4 rfl) A9 ?_
  refine r_icmp_ge (tgt := 32) (dcx dX3_pushWaiting_c0 5 rfl) (by decide) (fun q_ => ?_) (fun q_ => ?_)
  · have hyp := hyp.1 q_
    exact s_vret rfl hyp (dcx dX3_pushWaiting_c0 18 rfl)
  · have hyp := hyp.2 q_
    refine r_aload_n (dcx dX3_pushWaiting_c0 6 rfl) 0 rfl ?_
    refine s_getr (b := 9) fX3_9 (dcx dX3_pushWaiting_c0 7 rfl) F8_0 ?_
    refine r_aload_n (dcx dX3_pushWaiting_c0 8 rfl) 0 rfl ?_
    refine s_geti fX3_24 (dcx dX3_pushWaiting_c0 9 rfl) F8_1 ?_
    refine r_iload_n (dcx dX3_pushWaiting_c0 10 rfl) 1 rfl ?_
    obtain ⟨hb_, hyp⟩ := hyp
    refine s_iast (dcx dX3_pushWaiting_c0 11 rfl) A9 hb_ ?_
    obtain ⟨s1_, es1_⟩ : ∃ z : SS, z = sI σ 9 (Int32.toNatClampNeg (σ.1 8 1)) x1 := ⟨_, rfl⟩
    rw [← es1_]
    have hyp := hyp s1_ es1_
    refine r_aload_n (dcx dX3_pushWaiting_c0 12 rfl) 0 rfl ?_
    refine r_dup (dcx dX3_pushWaiting_c0 13 rfl) rfl ?_
    refine s_geti fX3_24 (dcx dX3_pushWaiting_c0 14 rfl) F8_1 ?_
    refine r_iconst (v := 1) (dcx dX3_pushWaiting_c0 15 rfl) rfl ?_
    refine r_iadd (dcx dX3_pushWaiting_c0 16 rfl) ?_
    refine s_puti gX3_24 (dcx dX3_pushWaiting_c0 17 rfl) F8_1 ?_
    obtain ⟨s2_, es2_⟩ : ∃ z : SS, z = sI s1_ 8 1 ((s1_.1 8 1) + 1) := ⟨_, rfl⟩
    rw [← es2_]
    have hyp := hyp s2_ es2_
    exact s_vret rfl hyp (dcx dX3_pushWaiting_c0 18 rfl)
def wX3_settle_0 (Γ : GE) (l : Launch) (x1 : Int32) (σ : SS) (K : Option Value → SS → Prop) : Prop := G2 Γ l mX3_settle 0 [(0, .ref 8), (1, .int x1)] [] σ K
set_option maxHeartbeats 4000000 in
set_option maxRecDepth 20000 in
theorem tX3_settle {Γ : GE} {l : Launch} {x1 : Int32} {σ : SS} {K : Option Value → SS → Prop}  (hyp : ((σ.1 8 1) ≤ 0 → (K none σ)) ∧ (¬ ((σ.1 8 1) ≤ 0) → (vp_in ((σ.1 8 1) - 1) 24 ∧ (C2 Γ l mX3_bindingOf [.int (σ.1 9 (Int32.toNatClampNeg ((σ.1 8 1) - 1)))] σ (Ri fun r2_ s1_ => ((r2_ < x1 → (K none s1_)) ∧ (¬ (r2_ < x1) → (∀ s3_ : SS, s3_ = sI s1_ 8 1 ((s1_.1 8 1) - 1) → (∃ b4_ : Nat, s3_.2.2 8 2 = b4_ ∧ isW b4_ ∧ (vp_in (s3_.1 8 1) 24 ∧ (C2 Γ l mX2_put [.ref b4_, .int (-(s3_.1 9 (Int32.toNatClampNeg (s3_.1 8 1))))] s3_ (Rv fun s5_ => (wX3_settle_0 Γ l x1 s5_ K))))))))))))) : C2 Γ l mX3_settle [.ref 8, .int x1] σ K := by
  refine c2_of (lv := [(0, .ref 8), (1, .int x1)]) (by decide) (Nat.le_of_ble_eq_true rfl) rfl ?_
  refine r_aload_n (dcx dX3_settle_c0 0 rfl) 0 rfl ?_
  refine s_geti fX3_24 (dcx dX3_settle_c0 1 rfl) F8_1 ?_
  refine r_if_le (tgt := 55) (dcx dX3_settle_c0 2 rfl) (by decide) (fun q_ => ?_) (fun q_ => ?_)
  · have hyp := hyp.1 q_
    exact s_vret rfl hyp (dcx dX3_settle_c0 29 rfl)
  · have hyp := hyp.2 q_
    refine r_aload_n (dcx dX3_settle_c0 3 rfl) 0 rfl ?_
    refine s_getr (b := 9) fX3_9 (dcx dX3_settle_c0 4 rfl) F8_0 ?_
    refine r_aload_n (dcx dX3_settle_c0 5 rfl) 0 rfl ?_
    refine s_geti fX3_24 (dcx dX3_settle_c0 6 rfl) F8_1 ?_
    refine r_iconst (v := 1) (dcx dX3_settle_c0 7 rfl) rfl ?_
    refine r_isub (dcx dX3_settle_c0 8 rfl) ?_
    obtain ⟨hb_, hyp⟩ := hyp
    refine s_iald (dcx dX3_settle_c0 9 rfl) A9 hb_ ?_
    refine s_callS (as := [.int (σ.1 9 (Int32.toNatClampNeg ((σ.1 8 1) - 1)))]) (st := []) zX3_bindingOf kX3_settle_68 (dcx dX3_settle_c0 10 rfl) rfl rfl (Nat.le_of_ble_eq_true rfl) (C2.mono hyp ?_)
    rintro _ s1_ ⟨r2_, rfl, hyp⟩
    show G2 Γ l mX3_settle 21 [(0, .ref 8), (1, .int x1)] [.int r2_] s1_ K
    refine r_iload_n (dcx dX3_settle_c0 11 rfl) 1 rfl ?_
    refine r_icmp_lt (tgt := 55) (dcx dX3_settle_c0 12 rfl) (by decide) (fun q_ => ?_) (fun q_ => ?_)
    · have hyp := hyp.1 q_
      exact s_vret rfl hyp (dcx dX3_settle_c0 29 rfl)
    · have hyp := hyp.2 q_
      refine r_aload_n (dcx dX3_settle_c0 13 rfl) 0 rfl ?_
      refine r_dup (dcx dX3_settle_c0 14 rfl) rfl ?_
      refine s_geti fX3_24 (dcx dX3_settle_c0 15 rfl) F8_1 ?_
      refine r_iconst (v := 1) (dcx dX3_settle_c0 16 rfl) rfl ?_
      refine r_isub (dcx dX3_settle_c0 17 rfl) ?_
      refine s_puti gX3_24 (dcx dX3_settle_c0 18 rfl) F8_1 ?_
      obtain ⟨s3_, es3_⟩ : ∃ z : SS, z = sI s1_ 8 1 ((s1_.1 8 1) - 1) := ⟨_, rfl⟩
      rw [← es3_]
      have hyp := hyp s3_ es3_
      refine r_aload_n (dcx dX3_settle_c0 19 rfl) 0 rfl ?_
      obtain ⟨b4_, eb4_, hb4_, hyp⟩ := hyp
      refine s_getmE fX3_15 (dcx dX3_settle_c0 20 rfl) F8_2 eb4_ (nzW hb4_) ?_
      refine r_aload_n (dcx dX3_settle_c0 21 rfl) 0 rfl ?_
      refine s_getr (b := 9) fX3_9 (dcx dX3_settle_c0 22 rfl) F8_0 ?_
      refine r_aload_n (dcx dX3_settle_c0 23 rfl) 0 rfl ?_
      refine s_geti fX3_24 (dcx dX3_settle_c0 24 rfl) F8_1 ?_
      obtain ⟨hb_, hyp⟩ := hyp
      refine s_iald (dcx dX3_settle_c0 25 rfl) A9 hb_ ?_
      refine r_ineg (dcx dX3_settle_c0 26 rfl) ?_
      refine s_callV (as := [.int (-(s3_.1 9 (Int32.toNatClampNeg (s3_.1 8 1))))]) (st := []) zX2_put kX3_settle_54 (dcx dX3_settle_c0 27 rfl) rfl rfl (Nat.le_of_ble_eq_true rfl) (OW hb4_) rfl rfl (C2.mono hyp ?_)
      rintro _ s5_ ⟨rfl, hyp⟩
      show G2 Γ l mX3_settle 52 [(0, .ref 8), (1, .int x1)] [] s5_ K
      refine r_goto (tgt := 0) (dcx dX3_settle_c0 28 rfl) (by decide) ?_
      refine r_loc (lv1 := [(0, .ref 8), (1, .int x1)]) [0, 1] rfl ?_
      exact hyp
set_option maxHeartbeats 4000000 in
set_option maxRecDepth 20000 in
theorem tX3_settle_0 {Γ : GE} {l : Launch} {x1 : Int32} {σ : SS} {K : Option Value → SS → Prop}  (hyp : ((σ.1 8 1) ≤ 0 → (K none σ)) ∧ (¬ ((σ.1 8 1) ≤ 0) → (vp_in ((σ.1 8 1) - 1) 24 ∧ (C2 Γ l mX3_bindingOf [.int (σ.1 9 (Int32.toNatClampNeg ((σ.1 8 1) - 1)))] σ (Ri fun r2_ s1_ => ((r2_ < x1 → (K none s1_)) ∧ (¬ (r2_ < x1) → (∀ s3_ : SS, s3_ = sI s1_ 8 1 ((s1_.1 8 1) - 1) → (∃ b4_ : Nat, s3_.2.2 8 2 = b4_ ∧ isW b4_ ∧ (vp_in (s3_.1 8 1) 24 ∧ (C2 Γ l mX2_put [.ref b4_, .int (-(s3_.1 9 (Int32.toNatClampNeg (s3_.1 8 1))))] s3_ (Rv fun s5_ => (wX3_settle_0 Γ l x1 s5_ K))))))))))))) : wX3_settle_0 Γ l x1 σ K := by
  show G2 Γ l mX3_settle 0 [(0, .ref 8), (1, .int x1)] [] σ K
  refine r_aload_n (dcx dX3_settle_c0 0 rfl) 0 rfl ?_
  refine s_geti fX3_24 (dcx dX3_settle_c0 1 rfl) F8_1 ?_
  refine r_if_le (tgt := 55) (dcx dX3_settle_c0 2 rfl) (by decide) (fun q_ => ?_) (fun q_ => ?_)
  · have hyp := hyp.1 q_
    exact s_vret rfl hyp (dcx dX3_settle_c0 29 rfl)
  · have hyp := hyp.2 q_
    refine r_aload_n (dcx dX3_settle_c0 3 rfl) 0 rfl ?_
    refine s_getr (b := 9) fX3_9 (dcx dX3_settle_c0 4 rfl) F8_0 ?_
    refine r_aload_n (dcx dX3_settle_c0 5 rfl) 0 rfl ?_
    refine s_geti fX3_24 (dcx dX3_settle_c0 6 rfl) F8_1 ?_
    refine r_iconst (v := 1) (dcx dX3_settle_c0 7 rfl) rfl ?_
    refine r_isub (dcx dX3_settle_c0 8 rfl) ?_
    obtain ⟨hb_, hyp⟩ := hyp
    refine s_iald (dcx dX3_settle_c0 9 rfl) A9 hb_ ?_
    refine s_callS (as := [.int (σ.1 9 (Int32.toNatClampNeg ((σ.1 8 1) - 1)))]) (st := []) zX3_bindingOf kX3_settle_68 (dcx dX3_settle_c0 10 rfl) rfl rfl (Nat.le_of_ble_eq_true rfl) (C2.mono hyp ?_)
    rintro _ s1_ ⟨r2_, rfl, hyp⟩
    show G2 Γ l mX3_settle 21 [(0, .ref 8), (1, .int x1)] [.int r2_] s1_ K
    refine r_iload_n (dcx dX3_settle_c0 11 rfl) 1 rfl ?_
    refine r_icmp_lt (tgt := 55) (dcx dX3_settle_c0 12 rfl) (by decide) (fun q_ => ?_) (fun q_ => ?_)
    · have hyp := hyp.1 q_
      exact s_vret rfl hyp (dcx dX3_settle_c0 29 rfl)
    · have hyp := hyp.2 q_
      refine r_aload_n (dcx dX3_settle_c0 13 rfl) 0 rfl ?_
      refine r_dup (dcx dX3_settle_c0 14 rfl) rfl ?_
      refine s_geti fX3_24 (dcx dX3_settle_c0 15 rfl) F8_1 ?_
      refine r_iconst (v := 1) (dcx dX3_settle_c0 16 rfl) rfl ?_
      refine r_isub (dcx dX3_settle_c0 17 rfl) ?_
      refine s_puti gX3_24 (dcx dX3_settle_c0 18 rfl) F8_1 ?_
      obtain ⟨s3_, es3_⟩ : ∃ z : SS, z = sI s1_ 8 1 ((s1_.1 8 1) - 1) := ⟨_, rfl⟩
      rw [← es3_]
      have hyp := hyp s3_ es3_
      refine r_aload_n (dcx dX3_settle_c0 19 rfl) 0 rfl ?_
      obtain ⟨b4_, eb4_, hb4_, hyp⟩ := hyp
      refine s_getmE fX3_15 (dcx dX3_settle_c0 20 rfl) F8_2 eb4_ (nzW hb4_) ?_
      refine r_aload_n (dcx dX3_settle_c0 21 rfl) 0 rfl ?_
      refine s_getr (b := 9) fX3_9 (dcx dX3_settle_c0 22 rfl) F8_0 ?_
      refine r_aload_n (dcx dX3_settle_c0 23 rfl) 0 rfl ?_
      refine s_geti fX3_24 (dcx dX3_settle_c0 24 rfl) F8_1 ?_
      obtain ⟨hb_, hyp⟩ := hyp
      refine s_iald (dcx dX3_settle_c0 25 rfl) A9 hb_ ?_
      refine r_ineg (dcx dX3_settle_c0 26 rfl) ?_
      refine s_callV (as := [.int (-(s3_.1 9 (Int32.toNatClampNeg (s3_.1 8 1))))]) (st := []) zX2_put kX3_settle_54 (dcx dX3_settle_c0 27 rfl) rfl rfl (Nat.le_of_ble_eq_true rfl) (OW hb4_) rfl rfl (C2.mono hyp ?_)
      rintro _ s5_ ⟨rfl, hyp⟩
      show G2 Γ l mX3_settle 52 [(0, .ref 8), (1, .int x1)] [] s5_ K
      refine r_goto (tgt := 0) (dcx dX3_settle_c0 28 rfl) (by decide) ?_
      refine r_loc (lv1 := [(0, .ref 8), (1, .int x1)]) [0, 1] rfl ?_
      exact hyp
set_option maxHeartbeats 4000000 in
set_option maxRecDepth 20000 in
theorem tX3_bindingOf {Γ : GE} {l : Launch} {x0 : Int32} {σ : SS} {K : Option Value → SS → Prop}  (hyp : (x0 = 42 → (K (some (.int 2)) σ)) ∧ (¬ (x0 = 42) → ((¬ x0 = 47 → ((x0 = 43 → (K (some (.int 1)) σ)) ∧ (¬ (x0 = 43) → ((¬ x0 = 45 → (K (some (.int 0)) σ)) ∧ (x0 = 45 → (K (some (.int 1)) σ)))))) ∧ (x0 = 47 → (K (some (.int 2)) σ))))) : C2 Γ l mX3_bindingOf [.int x0] σ K := by
  refine c2_of (lv := [(0, .int x0)]) (by decide) (Nat.le_of_ble_eq_true rfl) rfl ?_
  refine r_iload_n (dcx dX3_bindingOf_c0 0 rfl) 0 rfl ?_
  refine r_bipush (v := 42) (dcx dX3_bindingOf_c0 1 rfl) rfl ?_
  refine r_icmp_eq (tgt := 12) (dcx dX3_bindingOf_c0 2 rfl) (by decide) (fun q_ => ?_) (fun q_ => ?_)
  · have hyp := hyp.1 q_
    refine r_iconst (v := 2) (dcx dX3_bindingOf_c0 6 rfl) rfl ?_
    exact s_ret rfl rfl rfl hyp (dcx dX3_bindingOf_c0 7 rfl)
  · have hyp := hyp.2 q_
    refine r_iload_n (dcx dX3_bindingOf_c0 3 rfl) 0 rfl ?_
    refine r_bipush (v := 47) (dcx dX3_bindingOf_c0 4 rfl) rfl ?_
    refine r_icmp_ne (tgt := 14) (dcx dX3_bindingOf_c0 5 rfl) (by decide) (fun q_ => ?_) (fun q_ => ?_)
    · have hyp := hyp.1 q_
      refine r_iload_n (dcx dX3_bindingOf_c0 8 rfl) 0 rfl ?_
      refine r_bipush (v := 43) (dcx dX3_bindingOf_c0 9 rfl) rfl ?_
      refine r_icmp_eq (tgt := 26) (dcx dX3_bindingOf_c0 10 rfl) (by decide) (fun q_ => ?_) (fun q_ => ?_)
      · have hyp := hyp.1 q_
        refine r_iconst (v := 1) (dcx dX3_bindingOf_c0 14 rfl) rfl ?_
        refine r_goto (tgt := 31) (dcx dX3_bindingOf_c0 15 rfl) (by decide) ?_
        exact s_ret rfl rfl rfl hyp (dcx dX3_bindingOf_c0 17 rfl)
      · have hyp := hyp.2 q_
        refine r_iload_n (dcx dX3_bindingOf_c0 11 rfl) 0 rfl ?_
        refine r_bipush (v := 45) (dcx dX3_bindingOf_c0 12 rfl) rfl ?_
        refine r_icmp_ne (tgt := 30) (dcx dX3_bindingOf_c0 13 rfl) (by decide) (fun q_ => ?_) (fun q_ => ?_)
        · have hyp := hyp.1 q_
          refine r_iconst (v := 0) (dcx dX3_bindingOf_c0 16 rfl) rfl ?_
          exact s_ret rfl rfl rfl hyp (dcx dX3_bindingOf_c0 17 rfl)
        · have hyp := hyp.2 q_
          refine r_iconst (v := 1) (dcx dX3_bindingOf_c0 14 rfl) rfl ?_
          refine r_goto (tgt := 31) (dcx dX3_bindingOf_c0 15 rfl) (by decide) ?_
          exact s_ret rfl rfl rfl hyp (dcx dX3_bindingOf_c0 17 rfl)
    · have hyp := hyp.2 q_
      refine r_iconst (v := 2) (dcx dX3_bindingOf_c0 6 rfl) rfl ?_
      exact s_ret rfl rfl rfl hyp (dcx dX3_bindingOf_c0 7 rfl)
def wX4_begin_2 (Γ : GE) (l : Launch) (a0 : Nat) (a1 : Nat) (x2 : Int32) (σ : SS) (K : Option Value → SS → Prop) : Prop := G2 Γ l mX4_begin 2 [(0, .ref a0), (1, .ref a1), (2, .int x2)] [] σ K
def wX4_begin_46 (Γ : GE) (l : Launch) (a0 : Nat) (x2 : Int32) (σ : SS) (K : Option Value → SS → Prop) : Prop := G2 Γ l mX4_begin 46 [(0, .ref a0), (2, .int x2)] [] σ K
def wX4_begin_66 (Γ : GE) (l : Launch) (a0 : Nat) (x2 : Int32) (σ : SS) (K : Option Value → SS → Prop) : Prop := G2 Γ l mX4_begin 66 [(0, .ref a0), (2, .int x2)] [] σ K
set_option maxHeartbeats 4000000 in
set_option maxRecDepth 20000 in
theorem tX4_begin {Γ : GE} {l : Launch} {a0 : Nat} {a1 : Nat} {σ : SS} {K : Option Value → SS → Prop} (h0 : isL a0) (h1 : isP a1) (hyp : wX4_begin_2 Γ l a0 a1 0 σ K) : C2 Γ l mX4_begin [.ref a0, .ref a1] σ K := by
  refine c2_of (lv := [(0, .ref a0), (1, .ref a1)]) (by decide) (Nat.le_of_ble_eq_true rfl) rfl ?_
  refine r_iconst (v := 0) (dcx dX4_begin_c0 0 rfl) rfl ?_
  refine r_istore_n (lv1 := [(2, .int 0), (0, .ref a0), (1, .ref a1)]) (dcx dX4_begin_c0 1 rfl) (Nat.le_of_ble_eq_true rfl) rfl ?_
  refine r_loc (lv1 := [(0, .ref a0), (1, .ref a1), (2, .int 0)]) [1, 2, 0] rfl ?_
  exact hyp
set_option maxHeartbeats 4000000 in
set_option maxRecDepth 20000 in
theorem tX4_begin_2 {Γ : GE} {l : Launch} {a0 : Nat} {a1 : Nat} {x2 : Int32} {σ : SS} {K : Option Value → SS → Prop} (h0 : isL a0) (h1 : isP a1) (hyp : ((80 : Int32) ≤ x2 → (wX4_begin_46 Γ l a0 0 σ K)) ∧ (¬ ((80 : Int32) ≤ x2) → (vp_in x2 80 ∧ (((σ.1 (a1 + 1) (Int32.toNatClampNeg x2)) < 0 → (vp_in x2 80 ∧ (∀ s1_ : SS, s1_ = sI σ (a0 + 1) (Int32.toNatClampNeg x2) 0 → (vp_in x2 80 ∧ (∀ s2_ : SS, s2_ = sI s1_ (a0 + 2) (Int32.toNatClampNeg x2) 0 → (wX4_begin_2 Γ l a0 a1 (x2 + 1) s2_ K)))))) ∧ (¬ ((σ.1 (a1 + 1) (Int32.toNatClampNeg x2)) < 0) → (vp_in x2 80 ∧ (∀ s3_ : SS, s3_ = sI σ (a0 + 1) (Int32.toNatClampNeg x2) (σ.1 a1 16) → (vp_in x2 80 ∧ (∀ s4_ : SS, s4_ = sI s3_ (a0 + 2) (Int32.toNatClampNeg x2) 0 → (wX4_begin_2 Γ l a0 a1 (x2 + 1) s4_ K)))))))))) : wX4_begin_2 Γ l a0 a1 x2 σ K := by
  show G2 Γ l mX4_begin 2 [(0, .ref a0), (1, .ref a1), (2, .int x2)] [] σ K
  refine r_iload_n (dcx dX4_begin_c0 2 rfl) 2 rfl ?_
  refine r_bipush (v := 80) (dcx dX4_begin_c0 3 rfl) rfl ?_
  refine r_icmp_ge (tgt := 44) (dcx dX4_begin_c0 4 rfl) (by decide) (fun q_ => ?_) (fun q_ => ?_)
  · have hyp := hyp.1 q_
    refine r_iconst (v := 0) (dcx dX4_begin_c0 25 rfl) rfl ?_
    refine r_istore_n (lv1 := [(2, .int 0), (0, .ref a0), (1, .ref a1)]) (dcx dX4_begin_c0 26 rfl) (Nat.le_of_ble_eq_true rfl) rfl ?_
    refine r_loc (lv1 := [(0, .ref a0), (2, .int 0)]) [1, 0] rfl ?_
    exact hyp
  · have hyp := hyp.2 q_
    refine r_aload_n (dcx dX4_begin_c0 5 rfl) 0 rfl ?_
    refine s_getr (b := a0 + 1) fX4_9 (dcx dX4_begin_c0 6 rfl) (FL_0 h0) ?_
    refine r_iload_n (dcx dX4_begin_c0 7 rfl) 2 rfl ?_
    refine r_aload_n (dcx dX4_begin_c0 8 rfl) 1 rfl ?_
    refine s_getr (b := a1 + 1) fX4_24 (dcx dX4_begin_c0 9 rfl) (FP_0 h1) ?_
    refine r_iload_n (dcx dX4_begin_c0 10 rfl) 2 rfl ?_
    obtain ⟨hb_, hyp⟩ := hyp
    refine s_iald (dcx dX4_begin_c0 11 rfl) (AP_0 h1) hb_ ?_
    refine r_if_lt (tgt := 29) (dcx dX4_begin_c0 12 rfl) (by decide) (fun q_ => ?_) (fun q_ => ?_)
    · have hyp := hyp.1 q_
      refine r_iconst (v := 0) (dcx dX4_begin_c0 16 rfl) rfl ?_
      obtain ⟨hb_, hyp⟩ := hyp
      refine s_iast (dcx dX4_begin_c0 17 rfl) (AL_0 h0) hb_ ?_
      obtain ⟨s1_, es1_⟩ : ∃ z : SS, z = sI σ (a0 + 1) (Int32.toNatClampNeg x2) 0 := ⟨_, rfl⟩
      rw [← es1_]
      have hyp := hyp s1_ es1_
      refine r_aload_n (dcx dX4_begin_c0 18 rfl) 0 rfl ?_
      refine s_getr (b := a0 + 2) fX4_15 (dcx dX4_begin_c0 19 rfl) (FL_1 h0) ?_
      refine r_iload_n (dcx dX4_begin_c0 20 rfl) 2 rfl ?_
      refine r_iconst (v := 0) (dcx dX4_begin_c0 21 rfl) rfl ?_
      obtain ⟨hb_, hyp⟩ := hyp
      refine s_iast (dcx dX4_begin_c0 22 rfl) (AL_1 h0) hb_ ?_
      obtain ⟨s2_, es2_⟩ : ∃ z : SS, z = sI s1_ (a0 + 2) (Int32.toNatClampNeg x2) 0 := ⟨_, rfl⟩
      rw [← es2_]
      have hyp := hyp s2_ es2_
      refine r_iinc (lv1 := [(2, .int (x2 + 1)), (0, .ref a0), (1, .ref a1)]) (dcx dX4_begin_c0 23 rfl) 2 rfl (Nat.le_of_ble_eq_true rfl) rfl ?_
      refine r_goto (tgt := 2) (dcx dX4_begin_c0 24 rfl) (by decide) ?_
      refine r_loc (lv1 := [(0, .ref a0), (1, .ref a1), (2, .int (x2 + 1))]) [1, 2, 0] rfl ?_
      exact hyp
    · have hyp := hyp.2 q_
      refine r_aload_n (dcx dX4_begin_c0 13 rfl) 1 rfl ?_
      refine s_geti fX4_29 (dcx dX4_begin_c0 14 rfl) (FP_16 h1) ?_
      refine r_goto (tgt := 30) (dcx dX4_begin_c0 15 rfl) (by decide) ?_
      obtain ⟨hb_, hyp⟩ := hyp
      refine s_iast (dcx dX4_begin_c0 17 rfl) (AL_0 h0) hb_ ?_
      obtain ⟨s3_, es3_⟩ : ∃ z : SS, z = sI σ (a0 + 1) (Int32.toNatClampNeg x2) (σ.1 a1 16) := ⟨_, rfl⟩
      rw [← es3_]
      have hyp := hyp s3_ es3_
      refine r_aload_n (dcx dX4_begin_c0 18 rfl) 0 rfl ?_
      refine s_getr (b := a0 + 2) fX4_15 (dcx dX4_begin_c0 19 rfl) (FL_1 h0) ?_
      refine r_iload_n (dcx dX4_begin_c0 20 rfl) 2 rfl ?_
      refine r_iconst (v := 0) (dcx dX4_begin_c0 21 rfl) rfl ?_
      obtain ⟨hb_, hyp⟩ := hyp
      refine s_iast (dcx dX4_begin_c0 22 rfl) (AL_1 h0) hb_ ?_
      obtain ⟨s4_, es4_⟩ : ∃ z : SS, z = sI s3_ (a0 + 2) (Int32.toNatClampNeg x2) 0 := ⟨_, rfl⟩
      rw [← es4_]
      have hyp := hyp s4_ es4_
      refine r_iinc (lv1 := [(2, .int (x2 + 1)), (0, .ref a0), (1, .ref a1)]) (dcx dX4_begin_c0 23 rfl) 2 rfl (Nat.le_of_ble_eq_true rfl) rfl ?_
      refine r_goto (tgt := 2) (dcx dX4_begin_c0 24 rfl) (by decide) ?_
      refine r_loc (lv1 := [(0, .ref a0), (1, .ref a1), (2, .int (x2 + 1))]) [1, 2, 0] rfl ?_
      exact hyp
set_option maxHeartbeats 4000000 in
set_option maxRecDepth 20000 in
theorem tX4_begin_46 {Γ : GE} {l : Launch} {a0 : Nat} {x2 : Int32} {σ : SS} {K : Option Value → SS → Prop} (h0 : isL a0) (hyp : ((4 : Int32) ≤ x2 → (wX4_begin_66 Γ l a0 0 σ K)) ∧ (¬ ((4 : Int32) ≤ x2) → (vp_in x2 4 ∧ (∀ s1_ : SS, s1_ = sI σ (a0 + 3) (Int32.toNatClampNeg x2) 0 → (wX4_begin_46 Γ l a0 (x2 + 1) s1_ K))))) : wX4_begin_46 Γ l a0 x2 σ K := by
  show G2 Γ l mX4_begin 46 [(0, .ref a0), (2, .int x2)] [] σ K
  refine r_iload_n (dcx dX4_begin_c0 27 rfl) 1 rfl ?_
  refine r_iconst (v := 4) (dcx dX4_begin_c0 28 rfl) rfl ?_
  refine r_icmp_ge (tgt := 64) (dcx dX4_begin_c0 29 rfl) (by decide) (fun q_ => ?_) (fun q_ => ?_)
  · have hyp := hyp.1 q_
    refine r_iconst (v := 0) (dcx dX4_begin_c0 37 rfl) rfl ?_
    refine r_istore_n (lv1 := [(2, .int 0), (0, .ref a0)]) (dcx dX4_begin_c0 38 rfl) (Nat.le_of_ble_eq_true rfl) rfl ?_
    refine r_loc (lv1 := [(0, .ref a0), (2, .int 0)]) [1, 0] rfl ?_
    exact hyp
  · have hyp := hyp.2 q_
    refine r_aload_n (dcx dX4_begin_c0 30 rfl) 0 rfl ?_
    refine s_getr (b := a0 + 3) fX4_18 (dcx dX4_begin_c0 31 rfl) (FL_2 h0) ?_
    refine r_iload_n (dcx dX4_begin_c0 32 rfl) 1 rfl ?_
    refine r_iconst (v := 0) (dcx dX4_begin_c0 33 rfl) rfl ?_
    obtain ⟨hb_, hyp⟩ := hyp
    refine s_iast (dcx dX4_begin_c0 34 rfl) (AL_2 h0) hb_ ?_
    obtain ⟨s1_, es1_⟩ : ∃ z : SS, z = sI σ (a0 + 3) (Int32.toNatClampNeg x2) 0 := ⟨_, rfl⟩
    rw [← es1_]
    have hyp := hyp s1_ es1_
    refine r_iinc (lv1 := [(2, .int (x2 + 1)), (0, .ref a0)]) (dcx dX4_begin_c0 35 rfl) 1 rfl (Nat.le_of_ble_eq_true rfl) rfl ?_
    refine r_goto (tgt := 46) (dcx dX4_begin_c0 36 rfl) (by decide) ?_
    refine r_loc (lv1 := [(0, .ref a0), (2, .int (x2 + 1))]) [1, 0] rfl ?_
    exact hyp
set_option maxHeartbeats 4000000 in
set_option maxRecDepth 20000 in
theorem tX4_begin_66 {Γ : GE} {l : Launch} {a0 : Nat} {x2 : Int32} {σ : SS} {K : Option Value → SS → Prop} (h0 : isL a0) (hyp : ((4 : Int32) ≤ x2 → (∀ s1_ : SS, s1_ = sI σ a0 4 0 → (∀ s2_ : SS, s2_ = sI s1_ a0 5 0 → (K none s2_)))) ∧ (¬ ((4 : Int32) ≤ x2) → (vp_in x2 4 ∧ (∀ s3_ : SS, s3_ = sI σ (a0 + 4) (Int32.toNatClampNeg x2) 0 → (wX4_begin_66 Γ l a0 (x2 + 1) s3_ K))))) : wX4_begin_66 Γ l a0 x2 σ K := by
  show G2 Γ l mX4_begin 66 [(0, .ref a0), (2, .int x2)] [] σ K
  refine r_iload_n (dcx dX4_begin_c0 39 rfl) 1 rfl ?_
  refine r_iconst (v := 4) (dcx dX4_begin_c1 0 rfl) rfl ?_
  refine r_icmp_ge (tgt := 84) (dcx dX4_begin_c1 1 rfl) (by decide) (fun q_ => ?_) (fun q_ => ?_)
  · have hyp := hyp.1 q_
    refine r_aload_n (dcx dX4_begin_c1 9 rfl) 0 rfl ?_
    refine r_iconst (v := 0) (dcx dX4_begin_c1 10 rfl) rfl ?_
    refine s_puti gX4_33 (dcx dX4_begin_c1 11 rfl) (FL_4 h0) ?_
    obtain ⟨s1_, es1_⟩ : ∃ z : SS, z = sI σ a0 4 0 := ⟨_, rfl⟩
    rw [← es1_]
    have hyp := hyp s1_ es1_
    refine r_aload_n (dcx dX4_begin_c1 12 rfl) 0 rfl ?_
    refine r_iconst (v := 0) (dcx dX4_begin_c1 13 rfl) rfl ?_
    refine s_puti gX4_36 (dcx dX4_begin_c1 14 rfl) (FL_5 h0) ?_
    obtain ⟨s2_, es2_⟩ : ∃ z : SS, z = sI s1_ a0 5 0 := ⟨_, rfl⟩
    rw [← es2_]
    have hyp := hyp s2_ es2_
    exact s_vret rfl hyp (dcx dX4_begin_c1 15 rfl)
  · have hyp := hyp.2 q_
    refine r_aload_n (dcx dX4_begin_c1 2 rfl) 0 rfl ?_
    refine s_getr (b := a0 + 4) fX4_21 (dcx dX4_begin_c1 3 rfl) (FL_3 h0) ?_
    refine r_iload_n (dcx dX4_begin_c1 4 rfl) 1 rfl ?_
    refine r_iconst (v := 0) (dcx dX4_begin_c1 5 rfl) rfl ?_
    obtain ⟨hb_, hyp⟩ := hyp
    refine s_iast (dcx dX4_begin_c1 6 rfl) (AL_3 h0) hb_ ?_
    obtain ⟨s3_, es3_⟩ : ∃ z : SS, z = sI σ (a0 + 4) (Int32.toNatClampNeg x2) 0 := ⟨_, rfl⟩
    rw [← es3_]
    have hyp := hyp s3_ es3_
    refine r_iinc (lv1 := [(2, .int (x2 + 1)), (0, .ref a0)]) (dcx dX4_begin_c1 7 rfl) 1 rfl (Nat.le_of_ble_eq_true rfl) rfl ?_
    refine r_goto (tgt := 66) (dcx dX4_begin_c1 8 rfl) (by decide) ?_
    refine r_loc (lv1 := [(0, .ref a0), (2, .int (x2 + 1))]) [1, 0] rfl ?_
    exact hyp
set_option maxHeartbeats 4000000 in
set_option maxRecDepth 20000 in
theorem tX4_become {Γ : GE} {l : Launch} {a0 : Nat} {a1 : Nat} {σ : SS} {K : Option Value → SS → Prop} (h0 : isL a0) (h1 : isL a1) (hyp : ∀ s1_ : SS, s1_ = sA σ (a0 + 1) (va_cpy (σ.1 (a1 + 1)) (σ.1 (a0 + 1)) 0 0 80) → (∀ s2_ : SS, s2_ = sA s1_ (a0 + 2) (va_cpy (s1_.1 (a1 + 2)) (s1_.1 (a0 + 2)) 0 0 80) → (∀ s3_ : SS, s3_ = sA s2_ (a0 + 3) (va_cpy (s2_.1 (a1 + 3)) (s2_.1 (a0 + 3)) 0 0 4) → (∀ s4_ : SS, s4_ = sA s3_ (a0 + 4) (va_cpy (s3_.1 (a1 + 4)) (s3_.1 (a0 + 4)) 0 0 4) → (∀ s5_ : SS, s5_ = sI s4_ a0 4 (s4_.1 a1 4) → (∀ s6_ : SS, s6_ = sI s5_ a0 5 (s5_.1 a1 5) → (K none s6_))))))) : C2 Γ l mX4_become [.ref a0, .ref a1] σ K := by
  refine c2_of (lv := [(0, .ref a0), (1, .ref a1)]) (by decide) (Nat.le_of_ble_eq_true rfl) rfl ?_
  refine r_aload_n (dcx dX4_become_c0 0 rfl) 1 rfl ?_
  refine s_getr (b := a1 + 1) fX4_9 (dcx dX4_become_c0 1 rfl) (FL_0 h1) ?_
  refine r_iconst (v := 0) (dcx dX4_become_c0 2 rfl) rfl ?_
  refine r_aload_n (dcx dX4_become_c0 3 rfl) 0 rfl ?_
  refine s_getr (b := a0 + 1) fX4_9 (dcx dX4_become_c0 4 rfl) (FL_0 h0) ?_
  refine r_iconst (v := 0) (dcx dX4_become_c0 5 rfl) rfl ?_
  refine r_bipush (v := 80) (dcx dX4_become_c0 6 rfl) rfl ?_
  refine s_copy q938 q822 q821 q18 (dcx dX4_become_c0 7 rfl) (AL_0 h1) (AL_0 h0) (by decide) (by decide) (by decide) (by decide) (by decide) (by decide) (Nat.le_of_ble_eq_true rfl) ?_
  have hyp := hyp _ rfl
  generalize hs_ : sA σ (a0 + 1) (va_cpy (σ.1 (a1 + 1)) (σ.1 (a0 + 1)) 0 0 80) = s1_ at hyp
  have hs_ := hs_.symm
  show G2 Γ l mX4_become 15 _ _ (sA σ (a0 + 1) (va_cpy (σ.1 (a1 + 1)) (σ.1 (a0 + 1)) 0 0 80)) K
  rw [← hs_]
  refine r_aload_n (dcx dX4_become_c0 8 rfl) 1 rfl ?_
  refine s_getr (b := a1 + 2) fX4_15 (dcx dX4_become_c0 9 rfl) (FL_1 h1) ?_
  refine r_iconst (v := 0) (dcx dX4_become_c0 10 rfl) rfl ?_
  refine r_aload_n (dcx dX4_become_c0 11 rfl) 0 rfl ?_
  refine s_getr (b := a0 + 2) fX4_15 (dcx dX4_become_c0 12 rfl) (FL_1 h0) ?_
  refine r_iconst (v := 0) (dcx dX4_become_c0 13 rfl) rfl ?_
  refine r_bipush (v := 80) (dcx dX4_become_c0 14 rfl) rfl ?_
  refine s_copy q938 q822 q821 q18 (dcx dX4_become_c0 15 rfl) (AL_1 h1) (AL_1 h0) (by decide) (by decide) (by decide) (by decide) (by decide) (by decide) (Nat.le_of_ble_eq_true rfl) ?_
  have hyp := hyp _ rfl
  generalize hs_ : sA s1_ (a0 + 2) (va_cpy (s1_.1 (a1 + 2)) (s1_.1 (a0 + 2)) 0 0 80) = s2_ at hyp
  have hs_ := hs_.symm
  show G2 Γ l mX4_become 30 _ _ (sA s1_ (a0 + 2) (va_cpy (s1_.1 (a1 + 2)) (s1_.1 (a0 + 2)) 0 0 80)) K
  rw [← hs_]
  refine r_aload_n (dcx dX4_become_c0 16 rfl) 1 rfl ?_
  refine s_getr (b := a1 + 3) fX4_18 (dcx dX4_become_c0 17 rfl) (FL_2 h1) ?_
  refine r_iconst (v := 0) (dcx dX4_become_c0 18 rfl) rfl ?_
  refine r_aload_n (dcx dX4_become_c0 19 rfl) 0 rfl ?_
  refine s_getr (b := a0 + 3) fX4_18 (dcx dX4_become_c0 20 rfl) (FL_2 h0) ?_
  refine r_iconst (v := 0) (dcx dX4_become_c0 21 rfl) rfl ?_
  refine r_iconst (v := 4) (dcx dX4_become_c0 22 rfl) rfl ?_
  refine s_copy q938 q822 q821 q18 (dcx dX4_become_c0 23 rfl) (AL_2 h1) (AL_2 h0) (by decide) (by decide) (by decide) (by decide) (by decide) (by decide) (Nat.le_of_ble_eq_true rfl) ?_
  have hyp := hyp _ rfl
  generalize hs_ : sA s2_ (a0 + 3) (va_cpy (s2_.1 (a1 + 3)) (s2_.1 (a0 + 3)) 0 0 4) = s3_ at hyp
  have hs_ := hs_.symm
  show G2 Γ l mX4_become 44 _ _ (sA s2_ (a0 + 3) (va_cpy (s2_.1 (a1 + 3)) (s2_.1 (a0 + 3)) 0 0 4)) K
  rw [← hs_]
  refine r_aload_n (dcx dX4_become_c0 24 rfl) 1 rfl ?_
  refine s_getr (b := a1 + 4) fX4_21 (dcx dX4_become_c0 25 rfl) (FL_3 h1) ?_
  refine r_iconst (v := 0) (dcx dX4_become_c0 26 rfl) rfl ?_
  refine r_aload_n (dcx dX4_become_c0 27 rfl) 0 rfl ?_
  refine s_getr (b := a0 + 4) fX4_21 (dcx dX4_become_c0 28 rfl) (FL_3 h0) ?_
  refine r_iconst (v := 0) (dcx dX4_become_c0 29 rfl) rfl ?_
  refine r_iconst (v := 4) (dcx dX4_become_c0 30 rfl) rfl ?_
  refine s_copy q938 q822 q821 q18 (dcx dX4_become_c0 31 rfl) (AL_3 h1) (AL_3 h0) (by decide) (by decide) (by decide) (by decide) (by decide) (by decide) (Nat.le_of_ble_eq_true rfl) ?_
  have hyp := hyp _ rfl
  generalize hs_ : sA s3_ (a0 + 4) (va_cpy (s3_.1 (a1 + 4)) (s3_.1 (a0 + 4)) 0 0 4) = s4_ at hyp
  have hs_ := hs_.symm
  show G2 Γ l mX4_become 58 _ _ (sA s3_ (a0 + 4) (va_cpy (s3_.1 (a1 + 4)) (s3_.1 (a0 + 4)) 0 0 4)) K
  rw [← hs_]
  refine r_aload_n (dcx dX4_become_c0 32 rfl) 0 rfl ?_
  refine r_aload_n (dcx dX4_become_c0 33 rfl) 1 rfl ?_
  refine s_geti fX4_33 (dcx dX4_become_c0 34 rfl) (FL_4 h1) ?_
  refine s_puti gX4_33 (dcx dX4_become_c0 35 rfl) (FL_4 h0) ?_
  obtain ⟨s5_, es5_⟩ : ∃ z : SS, z = sI s4_ a0 4 (s4_.1 a1 4) := ⟨_, rfl⟩
  rw [← es5_]
  have hyp := hyp s5_ es5_
  refine r_aload_n (dcx dX4_become_c0 36 rfl) 0 rfl ?_
  refine r_aload_n (dcx dX4_become_c0 37 rfl) 1 rfl ?_
  refine s_geti fX4_36 (dcx dX4_become_c0 38 rfl) (FL_5 h1) ?_
  refine s_puti gX4_36 (dcx dX4_become_c0 39 rfl) (FL_5 h0) ?_
  obtain ⟨s6_, es6_⟩ : ∃ z : SS, z = sI s5_ a0 5 (s5_.1 a1 5) := ⟨_, rfl⟩
  rw [← es6_]
  have hyp := hyp s6_ es6_
  exact s_vret rfl hyp (dcx dX4_become_c1 0 rfl)
def wX4_allCuts_4 (Γ : GE) (l : Launch) (a0 : Nat) (x1 : Int32) (x2 : Int32) (σ : SS) (K : Option Value → SS → Prop) : Prop := G2 Γ l mX4_allCuts 4 [(0, .ref a0), (1, .int x1), (2, .int x2)] [] σ K
set_option maxHeartbeats 4000000 in
set_option maxRecDepth 20000 in
theorem tX4_allCuts {Γ : GE} {l : Launch} {a0 : Nat} {σ : SS} {K : Option Value → SS → Prop} (h0 : isL a0) (hyp : wX4_allCuts_4 Γ l a0 0 0 σ K) : C2 Γ l mX4_allCuts [.ref a0] σ K := by
  refine c2_of (lv := [(0, .ref a0)]) (by decide) (Nat.le_of_ble_eq_true rfl) rfl ?_
  refine r_iconst (v := 0) (dcx dX4_allCuts_c0 0 rfl) rfl ?_
  refine r_istore_n (lv1 := [(1, .int 0), (0, .ref a0)]) (dcx dX4_allCuts_c0 1 rfl) (Nat.le_of_ble_eq_true rfl) rfl ?_
  refine r_iconst (v := 0) (dcx dX4_allCuts_c0 2 rfl) rfl ?_
  refine r_istore_n (lv1 := [(2, .int 0), (1, .int 0), (0, .ref a0)]) (dcx dX4_allCuts_c0 3 rfl) (Nat.le_of_ble_eq_true rfl) rfl ?_
  refine r_loc (lv1 := [(0, .ref a0), (1, .int 0), (2, .int 0)]) [2, 1, 0] rfl ?_
  exact hyp
set_option maxHeartbeats 4000000 in
set_option maxRecDepth 20000 in
theorem tX4_allCuts_4 {Γ : GE} {l : Launch} {a0 : Nat} {x1 : Int32} {x2 : Int32} {σ : SS} {K : Option Value → SS → Prop} (h0 : isL a0) (hyp : ((4 : Int32) ≤ x2 → (K (some (.int x1)) σ)) ∧ (¬ ((4 : Int32) ≤ x2) → (vp_in x2 4 ∧ (wX4_allCuts_4 Γ l a0 (x1 + (σ.1 (a0 + 4) (Int32.toNatClampNeg x2))) (x2 + 1) σ K)))) : wX4_allCuts_4 Γ l a0 x1 x2 σ K := by
  show G2 Γ l mX4_allCuts 4 [(0, .ref a0), (1, .int x1), (2, .int x2)] [] σ K
  refine r_iload_n (dcx dX4_allCuts_c0 4 rfl) 2 rfl ?_
  refine r_iconst (v := 4) (dcx dX4_allCuts_c0 5 rfl) rfl ?_
  refine r_icmp_ge (tgt := 24) (dcx dX4_allCuts_c0 6 rfl) (by decide) (fun q_ => ?_) (fun q_ => ?_)
  · have hyp := hyp.1 q_
    refine r_iload_n (dcx dX4_allCuts_c0 16 rfl) 1 rfl ?_
    exact s_ret rfl rfl rfl hyp (dcx dX4_allCuts_c0 17 rfl)
  · have hyp := hyp.2 q_
    refine r_iload_n (dcx dX4_allCuts_c0 7 rfl) 1 rfl ?_
    refine r_aload_n (dcx dX4_allCuts_c0 8 rfl) 0 rfl ?_
    refine s_getr (b := a0 + 4) fX4_21 (dcx dX4_allCuts_c0 9 rfl) (FL_3 h0) ?_
    refine r_iload_n (dcx dX4_allCuts_c0 10 rfl) 2 rfl ?_
    obtain ⟨hb_, hyp⟩ := hyp
    refine s_iald (dcx dX4_allCuts_c0 11 rfl) (AL_3 h0) hb_ ?_
    refine r_iadd (dcx dX4_allCuts_c0 12 rfl) ?_
    refine r_istore_n (lv1 := [(1, .int (x1 + (σ.1 (a0 + 4) (Int32.toNatClampNeg x2)))), (0, .ref a0), (2, .int x2)]) (dcx dX4_allCuts_c0 13 rfl) (Nat.le_of_ble_eq_true rfl) rfl ?_
    refine r_iinc (lv1 := [(2, .int (x2 + 1)), (1, .int (x1 + (σ.1 (a0 + 4) (Int32.toNatClampNeg x2)))), (0, .ref a0)]) (dcx dX4_allCuts_c0 14 rfl) 2 rfl (Nat.le_of_ble_eq_true rfl) rfl ?_
    refine r_goto (tgt := 4) (dcx dX4_allCuts_c0 15 rfl) (by decide) ?_
    refine r_loc (lv1 := [(0, .ref a0), (1, .int (x1 + (σ.1 (a0 + 4) (Int32.toNatClampNeg x2)))), (2, .int (x2 + 1))]) [2, 1, 0] rfl ?_
    exact hyp
def wX5_clear_7 (Γ : GE) (l : Launch) (x1 : Int32) (σ : SS) (K : Option Value → SS → Prop) : Prop := G2 Γ l mX5_clear 7 [(0, .ref 50), (1, .int x1)] [] σ K
set_option maxHeartbeats 4000000 in
set_option maxRecDepth 20000 in
theorem tX5_clear {Γ : GE} {l : Launch}  {σ : SS} {K : Option Value → SS → Prop}  (hyp : ∀ s1_ : SS, s1_ = sI σ 50 4 0 → (wX5_clear_7 Γ l 0 s1_ K)) : C2 Γ l mX5_clear [.ref 50] σ K := by
  refine c2_of (lv := [(0, .ref 50)]) (by decide) (Nat.le_of_ble_eq_true rfl) rfl ?_
  refine r_aload_n (dcx dX5_clear_c0 0 rfl) 0 rfl ?_
  refine r_iconst (v := 0) (dcx dX5_clear_c0 1 rfl) rfl ?_
  refine s_puti gX5_25 (dcx dX5_clear_c0 2 rfl) F50_4 ?_
  obtain ⟨s1_, es1_⟩ : ∃ z : SS, z = sI σ 50 4 0 := ⟨_, rfl⟩
  rw [← es1_]
  have hyp := hyp s1_ es1_
  refine r_iconst (v := 0) (dcx dX5_clear_c0 3 rfl) rfl ?_
  refine r_istore_n (lv1 := [(1, .int 0), (0, .ref 50)]) (dcx dX5_clear_c0 4 rfl) (Nat.le_of_ble_eq_true rfl) rfl ?_
  refine r_loc (lv1 := [(0, .ref 50), (1, .int 0)]) [1, 0] rfl ?_
  exact hyp
set_option maxHeartbeats 4000000 in
set_option maxRecDepth 20000 in
theorem tX5_clear_7 {Γ : GE} {l : Launch} {x1 : Int32} {σ : SS} {K : Option Value → SS → Prop}  (hyp : ((3 : Int32) ≤ x1 → (K none σ)) ∧ (¬ ((3 : Int32) ≤ x1) → (vp_in x1 3 ∧ (∀ s1_ : SS, s1_ = sI σ 53 (Int32.toNatClampNeg x1) (vp_nar .boolean 0) → (wX5_clear_7 Γ l (x1 + 1) s1_ K))))) : wX5_clear_7 Γ l x1 σ K := by
  show G2 Γ l mX5_clear 7 [(0, .ref 50), (1, .int x1)] [] σ K
  refine r_iload_n (dcx dX5_clear_c0 5 rfl) 1 rfl ?_
  refine r_iconst (v := 3) (dcx dX5_clear_c0 6 rfl) rfl ?_
  refine r_icmp_ge (tgt := 25) (dcx dX5_clear_c0 7 rfl) (by decide) (fun q_ => ?_) (fun q_ => ?_)
  · have hyp := hyp.1 q_
    exact s_vret rfl hyp (dcx dX5_clear_c0 15 rfl)
  · have hyp := hyp.2 q_
    refine r_aload_n (dcx dX5_clear_c0 8 rfl) 0 rfl ?_
    refine s_getr (b := 53) fX5_20 (dcx dX5_clear_c0 9 rfl) F50_2 ?_
    refine r_iload_n (dcx dX5_clear_c0 10 rfl) 1 rfl ?_
    refine r_iconst (v := 0) (dcx dX5_clear_c0 11 rfl) rfl ?_
    obtain ⟨hb_, hyp⟩ := hyp
    refine s_zast (dcx dX5_clear_c0 12 rfl) A53 hb_ ?_
    obtain ⟨s1_, es1_⟩ : ∃ z : SS, z = sI σ 53 (Int32.toNatClampNeg x1) (vp_nar .boolean 0) := ⟨_, rfl⟩
    rw [← es1_]
    have hyp := hyp s1_ es1_
    refine r_iinc (lv1 := [(1, .int (x1 + 1)), (0, .ref 50)]) (dcx dX5_clear_c0 13 rfl) 1 rfl (Nat.le_of_ble_eq_true rfl) rfl ?_
    refine r_goto (tgt := 7) (dcx dX5_clear_c0 14 rfl) (by decide) ?_
    refine r_loc (lv1 := [(0, .ref 50), (1, .int (x1 + 1))]) [1, 0] rfl ?_
    exact hyp
set_option maxHeartbeats 4000000 in
set_option maxRecDepth 20000 in
theorem tX5_keep {Γ : GE} {l : Launch} {a1 : Nat} {σ : SS} {K : Option Value → SS → Prop} (h1 : isL a1) (hyp : vp_in (σ.1 50 3) 30 ∧ ∃ b1_ : Nat, σ.2.2 51 (Int32.toNatClampNeg (σ.1 50 3)) = b1_ ∧ isL b1_ ∧ (C2 Γ l mX4_become [.ref b1_, .ref a1] σ (Rv fun s2_ => (∀ s4_ : SS, s4_ = sI s2_ 50 3 (((s2_.1 50 3) + 1) - ((s2_.1 50 3) + 1) / 30 * 30) → (∀ s5_ : SS, s5_ = sI s4_ 50 4 (imn (30 : Int32) ((s4_.1 50 4) + 1)) → (K none s5_)))))) : C2 Γ l mX5_keep [.ref 50, .ref a1] σ K := by
  refine c2_of (lv := [(0, .ref 50), (1, .ref a1)]) (by decide) (Nat.le_of_ble_eq_true rfl) rfl ?_
  refine r_aload_n (dcx dX5_keep_c0 0 rfl) 0 rfl ?_
  refine s_getr (b := 51) fX5_11 (dcx dX5_keep_c0 1 rfl) F50_0 ?_
  refine r_aload_n (dcx dX5_keep_c0 2 rfl) 0 rfl ?_
  refine s_geti fX5_29 (dcx dX5_keep_c0 3 rfl) F50_3 ?_
  obtain ⟨hb_, b1_, eb1_, hb1_, hyp⟩ := hyp
  refine s_aaldE (dcx dX5_keep_c0 4 rfl) A51 rfl hb_ eb1_ ?_
  refine r_aload_n (dcx dX5_keep_c0 5 rfl) 1 rfl ?_
  refine s_callV (as := [.ref a1]) (st := []) zX4_become kX5_keep_32 (dcx dX5_keep_c0 6 rfl) rfl rfl (Nat.le_of_ble_eq_true rfl) (OL hb1_) rfl rfl (C2.mono hyp ?_)
  rintro _ s2_ ⟨rfl, hyp⟩
  show G2 Γ l mX5_keep 13 [(0, .ref 50), (1, .ref a1)] [] s2_ K
  refine r_aload_n (dcx dX5_keep_c0 7 rfl) 0 rfl ?_
  refine r_aload_n (dcx dX5_keep_c0 8 rfl) 0 rfl ?_
  refine s_geti fX5_29 (dcx dX5_keep_c0 9 rfl) F50_3 ?_
  refine r_iconst (v := 1) (dcx dX5_keep_c0 10 rfl) rfl ?_
  refine r_iadd (dcx dX5_keep_c0 11 rfl) ?_
  refine r_bipush (v := 30) (dcx dX5_keep_c0 12 rfl) rfl ?_
  refine r_irem (dcx dX5_keep_c0 13 rfl) (by decide) ?_
  refine s_puti gX5_29 (dcx dX5_keep_c0 14 rfl) F50_3 ?_
  obtain ⟨s4_, es4_⟩ : ∃ z : SS, z = sI s2_ 50 3 (((s2_.1 50 3) + 1) - ((s2_.1 50 3) + 1) / 30 * 30) := ⟨_, rfl⟩
  rw [← es4_]
  have hyp := hyp s4_ es4_
  refine r_aload_n (dcx dX5_keep_c0 15 rfl) 0 rfl ?_
  refine r_bipush (v := 30) (dcx dX5_keep_c0 16 rfl) rfl ?_
  refine r_aload_n (dcx dX5_keep_c0 17 rfl) 0 rfl ?_
  refine s_geti fX5_25 (dcx dX5_keep_c0 18 rfl) F50_4 ?_
  refine r_iconst (v := 1) (dcx dX5_keep_c0 19 rfl) rfl ?_
  refine r_iadd (dcx dX5_keep_c0 20 rfl) ?_
  refine r_min q939 q611 q16 q612 (by decide) (Nat.le_of_ble_eq_true rfl) (Nat.zero_le _) (Nat.zero_le _) (dcx dX5_keep_c0 21 rfl) ?_
  refine s_puti gX5_25 (dcx dX5_keep_c0 22 rfl) F50_4 ?_
  obtain ⟨s5_, es5_⟩ : ∃ z : SS, z = sI s4_ 50 4 (imn (30 : Int32) ((s4_.1 50 4) + 1)) := ⟨_, rfl⟩
  rw [← es5_]
  have hyp := hyp s5_ es5_
  exact s_vret rfl hyp (dcx dX5_keep_c0 23 rfl)
set_option maxHeartbeats 4000000 in
set_option maxRecDepth 20000 in
theorem tX5_takeBack {Γ : GE} {l : Launch} {a1 : Nat} {σ : SS} {K : Option Value → SS → Prop} (h1 : isL a1) (hyp : (¬ (σ.1 50 4) = 0 → (∀ s1_ : SS, s1_ = sI σ 50 4 ((σ.1 50 4) - 1) → (∀ s2_ : SS, s2_ = sI s1_ 50 3 ((((s1_.1 50 3) + 30) - 1) - (((s1_.1 50 3) + 30) - 1) / 30 * 30) → (vp_in (s2_.1 50 3) 30 ∧ ∃ b3_ : Nat, s2_.2.2 51 (Int32.toNatClampNeg (s2_.1 50 3)) = b3_ ∧ isL b3_ ∧ (C2 Γ l mX4_become [.ref a1, .ref b3_] s2_ (Rv fun s4_ => (K (some (.int 1)) s4_))))))) ∧ ((σ.1 50 4) = 0 → (K (some (.int 0)) σ))) : C2 Γ l mX5_takeBack [.ref 50, .ref a1] σ K := by
  refine c2_of (lv := [(0, .ref 50), (1, .ref a1)]) (by decide) (Nat.le_of_ble_eq_true rfl) rfl ?_
  refine r_aload_n (dcx dX5_takeBack_c0 0 rfl) 0 rfl ?_
  refine s_geti fX5_25 (dcx dX5_takeBack_c0 1 rfl) F50_4 ?_
  refine r_if_ne (tgt := 9) (dcx dX5_takeBack_c0 2 rfl) (by decide) (fun q_ => ?_) (fun q_ => ?_)
  · have hyp := hyp.1 q_
    refine r_aload_n (dcx dX5_takeBack_c0 5 rfl) 0 rfl ?_
    refine r_dup (dcx dX5_takeBack_c0 6 rfl) rfl ?_
    refine s_geti fX5_25 (dcx dX5_takeBack_c0 7 rfl) F50_4 ?_
    refine r_iconst (v := 1) (dcx dX5_takeBack_c0 8 rfl) rfl ?_
    refine r_isub (dcx dX5_takeBack_c0 9 rfl) ?_
    refine s_puti gX5_25 (dcx dX5_takeBack_c0 10 rfl) F50_4 ?_
    obtain ⟨s1_, es1_⟩ : ∃ z : SS, z = sI σ 50 4 ((σ.1 50 4) - 1) := ⟨_, rfl⟩
    rw [← es1_]
    have hyp := hyp s1_ es1_
    refine r_aload_n (dcx dX5_takeBack_c0 11 rfl) 0 rfl ?_
    refine r_aload_n (dcx dX5_takeBack_c0 12 rfl) 0 rfl ?_
    refine s_geti fX5_29 (dcx dX5_takeBack_c0 13 rfl) F50_3 ?_
    refine r_bipush (v := 30) (dcx dX5_takeBack_c0 14 rfl) rfl ?_
    refine r_iadd (dcx dX5_takeBack_c0 15 rfl) ?_
    refine r_iconst (v := 1) (dcx dX5_takeBack_c0 16 rfl) rfl ?_
    refine r_isub (dcx dX5_takeBack_c0 17 rfl) ?_
    refine r_bipush (v := 30) (dcx dX5_takeBack_c0 18 rfl) rfl ?_
    refine r_irem (dcx dX5_takeBack_c0 19 rfl) (by decide) ?_
    refine s_puti gX5_29 (dcx dX5_takeBack_c0 20 rfl) F50_3 ?_
    obtain ⟨s2_, es2_⟩ : ∃ z : SS, z = sI s1_ 50 3 ((((s1_.1 50 3) + 30) - 1) - (((s1_.1 50 3) + 30) - 1) / 30 * 30) := ⟨_, rfl⟩
    rw [← es2_]
    have hyp := hyp s2_ es2_
    refine r_aload_n (dcx dX5_takeBack_c0 21 rfl) 1 rfl ?_
    refine r_aload_n (dcx dX5_takeBack_c0 22 rfl) 0 rfl ?_
    refine s_getr (b := 51) fX5_11 (dcx dX5_takeBack_c0 23 rfl) F50_0 ?_
    refine r_aload_n (dcx dX5_takeBack_c0 24 rfl) 0 rfl ?_
    refine s_geti fX5_29 (dcx dX5_takeBack_c0 25 rfl) F50_3 ?_
    obtain ⟨hb_, b3_, eb3_, hb3_, hyp⟩ := hyp
    refine s_aaldE (dcx dX5_takeBack_c0 26 rfl) A51 rfl hb_ eb3_ ?_
    refine s_callV (as := [.ref b3_]) (st := []) zX4_become kX5_takeBack_32 (dcx dX5_takeBack_c0 27 rfl) rfl rfl (Nat.le_of_ble_eq_true rfl) (OL h1) rfl rfl (C2.mono hyp ?_)
    rintro _ s4_ ⟨rfl, hyp⟩
    show G2 Γ l mX5_takeBack 48 [(0, .ref 50), (1, .ref a1)] [] s4_ K
    refine r_iconst (v := 1) (dcx dX5_takeBack_c0 28 rfl) rfl ?_
    exact s_ret rfl rfl rfl hyp (dcx dX5_takeBack_c0 29 rfl)
  · have hyp := hyp.2 q_
    refine r_iconst (v := 0) (dcx dX5_takeBack_c0 3 rfl) rfl ?_
    exact s_ret rfl rfl rfl hyp (dcx dX5_takeBack_c0 4 rfl)
set_option maxHeartbeats 4000000 in
set_option maxRecDepth 20000 in
theorem tX5_put {Γ : GE} {l : Launch} {x1 : Int32} {a2 : Nat} {σ : SS} {K : Option Value → SS → Prop} (h2 : isL a2) (hyp : (x1 < 0 → (K (some (.int 0)) σ)) ∧ (¬ (x1 < 0) → ((x1 < 3 → (vp_in x1 3 ∧ ∃ b1_ : Nat, σ.2.2 52 (Int32.toNatClampNeg x1) = b1_ ∧ isL b1_ ∧ (C2 Γ l mX4_become [.ref b1_, .ref a2] σ (Rv fun s2_ => (vp_in x1 3 ∧ (∀ s4_ : SS, s4_ = sI s2_ 53 (Int32.toNatClampNeg x1) (vp_nar .boolean 1) → (K (some (.int 1)) s4_))))))) ∧ (¬ (x1 < 3) → (K (some (.int 0)) σ))))) : C2 Γ l mX5_put [.ref 50, .int x1, .ref a2] σ K := by
  refine c2_of (lv := [(0, .ref 50), (1, .int x1), (2, .ref a2)]) (by decide) (Nat.le_of_ble_eq_true rfl) rfl ?_
  refine r_iload_n (dcx dX5_put_c0 0 rfl) 1 rfl ?_
  refine r_if_lt (tgt := 9) (dcx dX5_put_c0 1 rfl) (by decide) (fun q_ => ?_) (fun q_ => ?_)
  · have hyp := hyp.1 q_
    refine r_iconst (v := 0) (dcx dX5_put_c0 5 rfl) rfl ?_
    exact s_ret rfl rfl rfl hyp (dcx dX5_put_c0 6 rfl)
  · have hyp := hyp.2 q_
    refine r_iload_n (dcx dX5_put_c0 2 rfl) 1 rfl ?_
    refine r_iconst (v := 3) (dcx dX5_put_c0 3 rfl) rfl ?_
    refine r_icmp_lt (tgt := 11) (dcx dX5_put_c0 4 rfl) (by decide) (fun q_ => ?_) (fun q_ => ?_)
    · have hyp := hyp.1 q_
      refine r_aload_n (dcx dX5_put_c0 7 rfl) 0 rfl ?_
      refine s_getr (b := 52) fX5_17 (dcx dX5_put_c0 8 rfl) F50_1 ?_
      refine r_iload_n (dcx dX5_put_c0 9 rfl) 1 rfl ?_
      obtain ⟨hb_, b1_, eb1_, hb1_, hyp⟩ := hyp
      refine s_aaldE (dcx dX5_put_c0 10 rfl) A52 rfl hb_ eb1_ ?_
      refine r_aload_n (dcx dX5_put_c0 11 rfl) 2 rfl ?_
      refine s_callV (as := [.ref a2]) (st := []) zX4_become kX5_put_32 (dcx dX5_put_c0 12 rfl) rfl rfl (Nat.le_of_ble_eq_true rfl) (OL hb1_) rfl rfl (C2.mono hyp ?_)
      rintro _ s2_ ⟨rfl, hyp⟩
      show G2 Γ l mX5_put 21 [(0, .ref 50), (1, .int x1), (2, .ref a2)] [] s2_ K
      refine r_aload_n (dcx dX5_put_c0 13 rfl) 0 rfl ?_
      refine s_getr (b := 53) fX5_20 (dcx dX5_put_c0 14 rfl) F50_2 ?_
      refine r_iload_n (dcx dX5_put_c0 15 rfl) 1 rfl ?_
      refine r_iconst (v := 1) (dcx dX5_put_c0 16 rfl) rfl ?_
      obtain ⟨hb_, hyp⟩ := hyp
      refine s_zast (dcx dX5_put_c0 17 rfl) A53 hb_ ?_
      obtain ⟨s4_, es4_⟩ : ∃ z : SS, z = sI s2_ 53 (Int32.toNatClampNeg x1) (vp_nar .boolean 1) := ⟨_, rfl⟩
      rw [← es4_]
      have hyp := hyp s4_ es4_
      refine r_iconst (v := 1) (dcx dX5_put_c0 18 rfl) rfl ?_
      exact s_ret rfl rfl rfl hyp (dcx dX5_put_c0 19 rfl)
    · have hyp := hyp.2 q_
      refine r_iconst (v := 0) (dcx dX5_put_c0 5 rfl) rfl ?_
      exact s_ret rfl rfl rfl hyp (dcx dX5_put_c0 6 rfl)
set_option maxHeartbeats 4000000 in
set_option maxRecDepth 20000 in
theorem tX5_goOnFrom {Γ : GE} {l : Launch} {x1 : Int32} {a2 : Nat} {σ : SS} {K : Option Value → SS → Prop} (h2 : isL a2) (hyp : (x1 < 0 → (K (some (.int 0)) σ)) ∧ (¬ (x1 < 0) → (((3 : Int32) ≤ x1 → (K (some (.int 0)) σ)) ∧ (¬ ((3 : Int32) ≤ x1) → (vp_in x1 3 ∧ ((¬ (σ.1 53 (Int32.toNatClampNeg x1)) = 0 → (vp_in x1 3 ∧ ∃ b1_ : Nat, σ.2.2 52 (Int32.toNatClampNeg x1) = b1_ ∧ isL b1_ ∧ (C2 Γ l mX4_become [.ref a2, .ref b1_] σ (Rv fun s2_ => (∀ s4_ : SS, s4_ = sI s2_ 50 4 0 → (K (some (.int 1)) s4_)))))) ∧ ((σ.1 53 (Int32.toNatClampNeg x1)) = 0 → (K (some (.int 0)) σ)))))))) : C2 Γ l mX5_goOnFrom [.ref 50, .int x1, .ref a2] σ K := by
  refine c2_of (lv := [(0, .ref 50), (1, .int x1), (2, .ref a2)]) (by decide) (Nat.le_of_ble_eq_true rfl) rfl ?_
  refine r_iload_n (dcx dX5_goOnFrom_c0 0 rfl) 1 rfl ?_
  refine r_if_lt (tgt := 18) (dcx dX5_goOnFrom_c0 1 rfl) (by decide) (fun q_ => ?_) (fun q_ => ?_)
  · have hyp := hyp.1 q_
    refine r_iconst (v := 0) (dcx dX5_goOnFrom_c0 10 rfl) rfl ?_
    exact s_ret rfl rfl rfl hyp (dcx dX5_goOnFrom_c0 11 rfl)
  · have hyp := hyp.2 q_
    refine r_iload_n (dcx dX5_goOnFrom_c0 2 rfl) 1 rfl ?_
    refine r_iconst (v := 3) (dcx dX5_goOnFrom_c0 3 rfl) rfl ?_
    refine r_icmp_ge (tgt := 18) (dcx dX5_goOnFrom_c0 4 rfl) (by decide) (fun q_ => ?_) (fun q_ => ?_)
    · have hyp := hyp.1 q_
      refine r_iconst (v := 0) (dcx dX5_goOnFrom_c0 10 rfl) rfl ?_
      exact s_ret rfl rfl rfl hyp (dcx dX5_goOnFrom_c0 11 rfl)
    · have hyp := hyp.2 q_
      refine r_aload_n (dcx dX5_goOnFrom_c0 5 rfl) 0 rfl ?_
      refine s_getr (b := 53) fX5_20 (dcx dX5_goOnFrom_c0 6 rfl) F50_2 ?_
      refine r_iload_n (dcx dX5_goOnFrom_c0 7 rfl) 1 rfl ?_
      obtain ⟨hb_, hyp⟩ := hyp
      refine s_zald (dcx dX5_goOnFrom_c0 8 rfl) A53 hb_ ?_
      refine r_if_ne (tgt := 20) (dcx dX5_goOnFrom_c0 9 rfl) (by decide) (fun q_ => ?_) (fun q_ => ?_)
      · have hyp := hyp.1 q_
        refine r_aload_n (dcx dX5_goOnFrom_c0 12 rfl) 2 rfl ?_
        refine r_aload_n (dcx dX5_goOnFrom_c0 13 rfl) 0 rfl ?_
        refine s_getr (b := 52) fX5_17 (dcx dX5_goOnFrom_c0 14 rfl) F50_1 ?_
        refine r_iload_n (dcx dX5_goOnFrom_c0 15 rfl) 1 rfl ?_
        obtain ⟨hb_, b1_, eb1_, hb1_, hyp⟩ := hyp
        refine s_aaldE (dcx dX5_goOnFrom_c0 16 rfl) A52 rfl hb_ eb1_ ?_
        refine s_callV (as := [.ref b1_]) (st := []) zX4_become kX5_goOnFrom_32 (dcx dX5_goOnFrom_c0 17 rfl) rfl rfl (Nat.le_of_ble_eq_true rfl) (OL h2) rfl rfl (C2.mono hyp ?_)
        rintro _ s2_ ⟨rfl, hyp⟩
        show G2 Γ l mX5_goOnFrom 30 [(0, .ref 50), (1, .int x1), (2, .ref a2)] [] s2_ K
        refine r_aload_n (dcx dX5_goOnFrom_c0 18 rfl) 0 rfl ?_
        refine r_iconst (v := 0) (dcx dX5_goOnFrom_c0 19 rfl) rfl ?_
        refine s_puti gX5_25 (dcx dX5_goOnFrom_c0 20 rfl) F50_4 ?_
        obtain ⟨s4_, es4_⟩ : ∃ z : SS, z = sI s2_ 50 4 0 := ⟨_, rfl⟩
        rw [← es4_]
        have hyp := hyp s4_ es4_
        refine r_iconst (v := 1) (dcx dX5_goOnFrom_c0 21 rfl) rfl ?_
        exact s_ret rfl rfl rfl hyp (dcx dX5_goOnFrom_c0 22 rfl)
      · have hyp := hyp.2 q_
        refine r_iconst (v := 0) (dcx dX5_goOnFrom_c0 10 rfl) rfl ?_
        exact s_ret rfl rfl rfl hyp (dcx dX5_goOnFrom_c0 11 rfl)
def wX5_slotsHeld_4 (Γ : GE) (l : Launch) (x1 : Int32) (x2 : Int32) (σ : SS) (K : Option Value → SS → Prop) : Prop := G2 Γ l mX5_slotsHeld 4 [(0, .ref 50), (1, .int x1), (2, .int x2)] [] σ K
set_option maxHeartbeats 4000000 in
set_option maxRecDepth 20000 in
theorem tX5_slotsHeld {Γ : GE} {l : Launch}  {σ : SS} {K : Option Value → SS → Prop}  (hyp : wX5_slotsHeld_4 Γ l 0 0 σ K) : C2 Γ l mX5_slotsHeld [.ref 50] σ K := by
  refine c2_of (lv := [(0, .ref 50)]) (by decide) (Nat.le_of_ble_eq_true rfl) rfl ?_
  refine r_iconst (v := 0) (dcx dX5_slotsHeld_c0 0 rfl) rfl ?_
  refine r_istore_n (lv1 := [(1, .int 0), (0, .ref 50)]) (dcx dX5_slotsHeld_c0 1 rfl) (Nat.le_of_ble_eq_true rfl) rfl ?_
  refine r_iconst (v := 0) (dcx dX5_slotsHeld_c0 2 rfl) rfl ?_
  refine r_istore_n (lv1 := [(2, .int 0), (1, .int 0), (0, .ref 50)]) (dcx dX5_slotsHeld_c0 3 rfl) (Nat.le_of_ble_eq_true rfl) rfl ?_
  refine r_loc (lv1 := [(0, .ref 50), (1, .int 0), (2, .int 0)]) [2, 1, 0] rfl ?_
  exact hyp
set_option maxHeartbeats 4000000 in
set_option maxRecDepth 20000 in
theorem tX5_slotsHeld_4 {Γ : GE} {l : Launch} {x1 : Int32} {x2 : Int32} {σ : SS} {K : Option Value → SS → Prop}  (hyp : ((3 : Int32) ≤ x2 → (K (some (.int x1)) σ)) ∧ (¬ ((3 : Int32) ≤ x2) → (vp_in x2 3 ∧ (((σ.1 53 (Int32.toNatClampNeg x2)) = 0 → (wX5_slotsHeld_4 Γ l x1 (x2 + 1) σ K)) ∧ (¬ ((σ.1 53 (Int32.toNatClampNeg x2)) = 0) → (wX5_slotsHeld_4 Γ l (x1 + 1) (x2 + 1) σ K)))))) : wX5_slotsHeld_4 Γ l x1 x2 σ K := by
  show G2 Γ l mX5_slotsHeld 4 [(0, .ref 50), (1, .int x1), (2, .int x2)] [] σ K
  refine r_iload_n (dcx dX5_slotsHeld_c0 4 rfl) 2 rfl ?_
  refine r_iconst (v := 3) (dcx dX5_slotsHeld_c0 5 rfl) rfl ?_
  refine r_icmp_ge (tgt := 27) (dcx dX5_slotsHeld_c0 6 rfl) (by decide) (fun q_ => ?_) (fun q_ => ?_)
  · have hyp := hyp.1 q_
    refine r_iload_n (dcx dX5_slotsHeld_c0 15 rfl) 1 rfl ?_
    exact s_ret rfl rfl rfl hyp (dcx dX5_slotsHeld_c0 16 rfl)
  · have hyp := hyp.2 q_
    refine r_aload_n (dcx dX5_slotsHeld_c0 7 rfl) 0 rfl ?_
    refine s_getr (b := 53) fX5_20 (dcx dX5_slotsHeld_c0 8 rfl) F50_2 ?_
    refine r_iload_n (dcx dX5_slotsHeld_c0 9 rfl) 2 rfl ?_
    obtain ⟨hb_, hyp⟩ := hyp
    refine s_zald (dcx dX5_slotsHeld_c0 10 rfl) A53 hb_ ?_
    refine r_if_eq (tgt := 21) (dcx dX5_slotsHeld_c0 11 rfl) (by decide) (fun q_ => ?_) (fun q_ => ?_)
    · have hyp := hyp.1 q_
      refine r_iinc (lv1 := [(2, .int (x2 + 1)), (0, .ref 50), (1, .int x1)]) (dcx dX5_slotsHeld_c0 13 rfl) 2 rfl (Nat.le_of_ble_eq_true rfl) rfl ?_
      refine r_goto (tgt := 4) (dcx dX5_slotsHeld_c0 14 rfl) (by decide) ?_
      refine r_loc (lv1 := [(0, .ref 50), (1, .int x1), (2, .int (x2 + 1))]) [1, 2, 0] rfl ?_
      exact hyp
    · have hyp := hyp.2 q_
      refine r_iinc (lv1 := [(1, .int (x1 + 1)), (0, .ref 50), (2, .int x2)]) (dcx dX5_slotsHeld_c0 12 rfl) 1 rfl (Nat.le_of_ble_eq_true rfl) rfl ?_
      refine r_iinc (lv1 := [(2, .int (x2 + 1)), (1, .int (x1 + 1)), (0, .ref 50)]) (dcx dX5_slotsHeld_c0 13 rfl) 2 rfl (Nat.le_of_ble_eq_true rfl) rfl ?_
      refine r_goto (tgt := 4) (dcx dX5_slotsHeld_c0 14 rfl) (by decide) ?_
      refine r_loc (lv1 := [(0, .ref 50), (1, .int (x1 + 1)), (2, .int (x2 + 1))]) [2, 1, 0] rfl ?_
      exact hyp
def wX6_clear_2 (Γ : GE) (l : Launch) (a0 : Nat) (x1 : Int32) (σ : SS) (K : Option Value → SS → Prop) : Prop := G2 Γ l mX6_clear 2 [(0, .ref a0), (1, .int x1)] [] σ K
def wX6_clear_24 (Γ : GE) (l : Launch) (a0 : Nat) (x1 : Int32) (σ : SS) (K : Option Value → SS → Prop) : Prop := G2 Γ l mX6_clear 24 [(0, .ref a0), (1, .int x1)] [] σ K
set_option maxHeartbeats 4000000 in
set_option maxRecDepth 20000 in
theorem tX6_clear {Γ : GE} {l : Launch} {a0 : Nat} {σ : SS} {K : Option Value → SS → Prop} (h0 : isP a0) (hyp : wX6_clear_2 Γ l a0 0 σ K) : C2 Γ l mX6_clear [.ref a0] σ K := by
  refine c2_of (lv := [(0, .ref a0)]) (by decide) (Nat.le_of_ble_eq_true rfl) rfl ?_
  refine r_iconst (v := 0) (dcx dX6_clear_c0 0 rfl) rfl ?_
  refine r_istore_n (lv1 := [(1, .int 0), (0, .ref a0)]) (dcx dX6_clear_c0 1 rfl) (Nat.le_of_ble_eq_true rfl) rfl ?_
  refine r_loc (lv1 := [(0, .ref a0), (1, .int 0)]) [1, 0] rfl ?_
  exact hyp
set_option maxHeartbeats 4000000 in
set_option maxRecDepth 20000 in
theorem tX6_clear_2 {Γ : GE} {l : Launch} {a0 : Nat} {x1 : Int32} {σ : SS} {K : Option Value → SS → Prop} (h0 : isP a0) (hyp : ((80 : Int32) ≤ x1 → (wX6_clear_24 Γ l a0 0 σ K)) ∧ (¬ ((80 : Int32) ≤ x1) → (vp_in x1 80 ∧ (∀ s1_ : SS, s1_ = sI σ (a0 + 1) (Int32.toNatClampNeg x1) ((-2)) → (wX6_clear_2 Γ l a0 (x1 + 1) s1_ K))))) : wX6_clear_2 Γ l a0 x1 σ K := by
  show G2 Γ l mX6_clear 2 [(0, .ref a0), (1, .int x1)] [] σ K
  refine r_iload_n (dcx dX6_clear_c0 2 rfl) 1 rfl ?_
  refine r_bipush (v := 80) (dcx dX6_clear_c0 3 rfl) rfl ?_
  refine r_icmp_ge (tgt := 22) (dcx dX6_clear_c0 4 rfl) (by decide) (fun q_ => ?_) (fun q_ => ?_)
  · have hyp := hyp.1 q_
    refine r_iconst (v := 0) (dcx dX6_clear_c0 12 rfl) rfl ?_
    refine r_istore_n (lv1 := [(1, .int 0), (0, .ref a0)]) (dcx dX6_clear_c0 13 rfl) (Nat.le_of_ble_eq_true rfl) rfl ?_
    refine r_loc (lv1 := [(0, .ref a0), (1, .int 0)]) [1, 0] rfl ?_
    exact hyp
  · have hyp := hyp.2 q_
    refine r_aload_n (dcx dX6_clear_c0 5 rfl) 0 rfl ?_
    refine s_getr (b := a0 + 1) fX6_9 (dcx dX6_clear_c0 6 rfl) (FP_0 h0) ?_
    refine r_iload_n (dcx dX6_clear_c0 7 rfl) 1 rfl ?_
    refine r_bipush (v := (-2)) (dcx dX6_clear_c0 8 rfl) rfl ?_
    obtain ⟨hb_, hyp⟩ := hyp
    refine s_iast (dcx dX6_clear_c0 9 rfl) (AP_0 h0) hb_ ?_
    obtain ⟨s1_, es1_⟩ : ∃ z : SS, z = sI σ (a0 + 1) (Int32.toNatClampNeg x1) ((-2)) := ⟨_, rfl⟩
    rw [← es1_]
    have hyp := hyp s1_ es1_
    refine r_iinc (lv1 := [(1, .int (x1 + 1)), (0, .ref a0)]) (dcx dX6_clear_c0 10 rfl) 1 rfl (Nat.le_of_ble_eq_true rfl) rfl ?_
    refine r_goto (tgt := 2) (dcx dX6_clear_c0 11 rfl) (by decide) ?_
    refine r_loc (lv1 := [(0, .ref a0), (1, .int (x1 + 1))]) [1, 0] rfl ?_
    exact hyp
set_option maxHeartbeats 4000000 in
set_option maxRecDepth 20000 in
theorem tX6_clear_24 {Γ : GE} {l : Launch} {a0 : Nat} {x1 : Int32} {σ : SS} {K : Option Value → SS → Prop} (h0 : isP a0) (hyp : ((4 : Int32) ≤ x1 → (∀ s1_ : SS, s1_ = sI σ a0 11 0 → (∀ s2_ : SS, s2_ = sI s1_ a0 12 0 → (∀ s3_ : SS, s3_ = sI s2_ a0 13 0 → (∀ s4_ : SS, s4_ = sI s3_ a0 14 0 → (∀ s5_ : SS, s5_ = sI s4_ a0 15 0 → (∀ s6_ : SS, s6_ = sI s5_ a0 16 20 → (∀ s7_ : SS, s7_ = sI s6_ a0 17 0 → (∀ s8_ : SS, s8_ = sI s7_ a0 18 0 → (∀ s9_ : SS, s9_ = sI s8_ a0 19 0 → (C2 Γ l mX2_codeOfVar [.int 1] s9_ (Ri fun r11_ s10_ => (C2 Γ l mX2_beOnly [.ref (a0 + 9), .int r11_] s10_ (Rv fun s12_ => (C2 Γ l mX2_beOnly [.ref (a0 + 12), .int 2] s12_ (Rv fun s14_ => (C2 Γ l mX2_codeOfVar [.int 8] s14_ (Ri fun r17_ s16_ => (C2 Γ l mX2_beOnly [.ref (a0 + 15), .int r17_] s16_ (Rv fun s18_ => (K none s18_))))))))))))))))))))) ∧ (¬ ((4 : Int32) ≤ x1) → (vp_in x1 4 ∧ (∀ s20_ : SS, s20_ = sI σ (a0 + 8) (Int32.toNatClampNeg x1) 0 → (wX6_clear_24 Γ l a0 (x1 + 1) s20_ K))))) : wX6_clear_24 Γ l a0 x1 σ K := by
  show G2 Γ l mX6_clear 24 [(0, .ref a0), (1, .int x1)] [] σ K
  refine r_iload_n (dcx dX6_clear_c0 14 rfl) 1 rfl ?_
  refine r_iconst (v := 4) (dcx dX6_clear_c0 15 rfl) rfl ?_
  refine r_icmp_ge (tgt := 42) (dcx dX6_clear_c0 16 rfl) (by decide) (fun q_ => ?_) (fun q_ => ?_)
  · have hyp := hyp.1 q_
    refine r_aload_n (dcx dX6_clear_c0 24 rfl) 0 rfl ?_
    refine r_iconst (v := 0) (dcx dX6_clear_c0 25 rfl) rfl ?_
    refine s_puti gX6_53 (dcx dX6_clear_c0 26 rfl) (FP_11 h0) ?_
    obtain ⟨s1_, es1_⟩ : ∃ z : SS, z = sI σ a0 11 0 := ⟨_, rfl⟩
    rw [← es1_]
    have hyp := hyp s1_ es1_
    refine r_aload_n (dcx dX6_clear_c0 27 rfl) 0 rfl ?_
    refine r_iconst (v := 0) (dcx dX6_clear_c0 28 rfl) rfl ?_
    refine s_puti gX6_57 (dcx dX6_clear_c0 29 rfl) (FP_12 h0) ?_
    obtain ⟨s2_, es2_⟩ : ∃ z : SS, z = sI s1_ a0 12 0 := ⟨_, rfl⟩
    rw [← es2_]
    have hyp := hyp s2_ es2_
    refine r_aload_n (dcx dX6_clear_c0 30 rfl) 0 rfl ?_
    refine r_iconst (v := 0) (dcx dX6_clear_c0 31 rfl) rfl ?_
    refine s_puti gX6_60 (dcx dX6_clear_c0 32 rfl) (FP_13 h0) ?_
    obtain ⟨s3_, es3_⟩ : ∃ z : SS, z = sI s2_ a0 13 0 := ⟨_, rfl⟩
    rw [← es3_]
    have hyp := hyp s3_ es3_
    refine r_aload_n (dcx dX6_clear_c0 33 rfl) 0 rfl ?_
    refine r_iconst (v := 0) (dcx dX6_clear_c0 34 rfl) rfl ?_
    refine s_puti gX6_63 (dcx dX6_clear_c0 35 rfl) (FP_14 h0) ?_
    obtain ⟨s4_, es4_⟩ : ∃ z : SS, z = sI s3_ a0 14 0 := ⟨_, rfl⟩
    rw [← es4_]
    have hyp := hyp s4_ es4_
    refine r_aload_n (dcx dX6_clear_c0 36 rfl) 0 rfl ?_
    refine r_iconst (v := 0) (dcx dX6_clear_c0 37 rfl) rfl ?_
    refine s_puti gX6_66 (dcx dX6_clear_c0 38 rfl) (FP_15 h0) ?_
    obtain ⟨s5_, es5_⟩ : ∃ z : SS, z = sI s4_ a0 15 0 := ⟨_, rfl⟩
    rw [← es5_]
    have hyp := hyp s5_ es5_
    refine r_aload_n (dcx dX6_clear_c0 39 rfl) 0 rfl ?_
    refine r_bipush (v := 20) (dcx dX6_clear_c1 0 rfl) rfl ?_
    refine s_puti gX6_69 (dcx dX6_clear_c1 1 rfl) (FP_16 h0) ?_
    obtain ⟨s6_, es6_⟩ : ∃ z : SS, z = sI s5_ a0 16 20 := ⟨_, rfl⟩
    rw [← es6_]
    have hyp := hyp s6_ es6_
    refine r_aload_n (dcx dX6_clear_c1 2 rfl) 0 rfl ?_
    refine r_iconst (v := 0) (dcx dX6_clear_c1 3 rfl) rfl ?_
    refine s_puti gX6_72 (dcx dX6_clear_c1 4 rfl) (FP_17 h0) ?_
    obtain ⟨s7_, es7_⟩ : ∃ z : SS, z = sI s6_ a0 17 0 := ⟨_, rfl⟩
    rw [← es7_]
    have hyp := hyp s7_ es7_
    refine r_aload_n (dcx dX6_clear_c1 5 rfl) 0 rfl ?_
    refine r_iconst (v := 0) (dcx dX6_clear_c1 6 rfl) rfl ?_
    refine s_puti gX6_75 (dcx dX6_clear_c1 7 rfl) (FP_18 h0) ?_
    obtain ⟨s8_, es8_⟩ : ∃ z : SS, z = sI s7_ a0 18 0 := ⟨_, rfl⟩
    rw [← es8_]
    have hyp := hyp s8_ es8_
    refine r_aload_n (dcx dX6_clear_c1 8 rfl) 0 rfl ?_
    refine r_iconst (v := 0) (dcx dX6_clear_c1 9 rfl) rfl ?_
    refine s_puti gX6_78 (dcx dX6_clear_c1 10 rfl) (FP_19 h0) ?_
    obtain ⟨s9_, es9_⟩ : ∃ z : SS, z = sI s8_ a0 19 0 := ⟨_, rfl⟩
    rw [← es9_]
    have hyp := hyp s9_ es9_
    refine r_aload_n (dcx dX6_clear_c1 11 rfl) 0 rfl ?_
    refine s_getr (b := a0 + 9) fX6_40 (dcx dX6_clear_c1 12 rfl) (FP_8 h0) ?_
    refine r_iconst (v := 1) (dcx dX6_clear_c1 13 rfl) rfl ?_
    refine s_callS (as := [.int 1]) (st := [.ref (a0 + 9)]) zX2_codeOfVar kX6_clear_81 (dcx dX6_clear_c1 14 rfl) rfl rfl (Nat.le_of_ble_eq_true rfl) (C2.mono hyp ?_)
    rintro _ s10_ ⟨r11_, rfl, hyp⟩
    show G2 Γ l mX6_clear 96 [(0, .ref a0), (1, .int x1)] [.int r11_, .ref (a0 + 9)] s10_ K
    refine s_callV (as := [.int r11_]) (st := []) zX2_beOnly kX6_clear_85 (dcx dX6_clear_c1 15 rfl) rfl rfl (Nat.le_of_ble_eq_true rfl) (OW (IP_8 h0)) rfl rfl (C2.mono hyp ?_)
    rintro _ s12_ ⟨rfl, hyp⟩
    show G2 Γ l mX6_clear 99 [(0, .ref a0), (1, .int x1)] [] s12_ K
    refine r_aload_n (dcx dX6_clear_c1 16 rfl) 0 rfl ?_
    refine s_getr (b := a0 + 12) fX6_44 (dcx dX6_clear_c1 17 rfl) (FP_9 h0) ?_
    refine r_iconst (v := 2) (dcx dX6_clear_c1 18 rfl) rfl ?_
    refine s_callV (as := [.int 2]) (st := []) zX2_beOnly kX6_clear_85 (dcx dX6_clear_c1 19 rfl) rfl rfl (Nat.le_of_ble_eq_true rfl) (OW (IP_9 h0)) rfl rfl (C2.mono hyp ?_)
    rintro _ s14_ ⟨rfl, hyp⟩
    show G2 Γ l mX6_clear 107 [(0, .ref a0), (1, .int x1)] [] s14_ K
    refine r_aload_n (dcx dX6_clear_c1 20 rfl) 0 rfl ?_
    refine s_getr (b := a0 + 15) fX6_47 (dcx dX6_clear_c1 21 rfl) (FP_10 h0) ?_
    refine r_bipush (v := 8) (dcx dX6_clear_c1 22 rfl) rfl ?_
    refine s_callS (as := [.int 8]) (st := [.ref (a0 + 15)]) zX2_codeOfVar kX6_clear_81 (dcx dX6_clear_c1 23 rfl) rfl rfl (Nat.le_of_ble_eq_true rfl) (C2.mono hyp ?_)
    rintro _ s16_ ⟨r17_, rfl, hyp⟩
    show G2 Γ l mX6_clear 116 [(0, .ref a0), (1, .int x1)] [.int r17_, .ref (a0 + 15)] s16_ K
    refine s_callV (as := [.int r17_]) (st := []) zX2_beOnly kX6_clear_85 (dcx dX6_clear_c1 24 rfl) rfl rfl (Nat.le_of_ble_eq_true rfl) (OW (IP_10 h0)) rfl rfl (C2.mono hyp ?_)
    rintro _ s18_ ⟨rfl, hyp⟩
    show G2 Γ l mX6_clear 119 [(0, .ref a0), (1, .int x1)] [] s18_ K
    exact s_vret rfl hyp (dcx dX6_clear_c1 25 rfl)
  · have hyp := hyp.2 q_
    refine r_aload_n (dcx dX6_clear_c0 17 rfl) 0 rfl ?_
    refine s_getr (b := a0 + 8) fX6_34 (dcx dX6_clear_c0 18 rfl) (FP_7 h0) ?_
    refine r_iload_n (dcx dX6_clear_c0 19 rfl) 1 rfl ?_
    refine r_iconst (v := 0) (dcx dX6_clear_c0 20 rfl) rfl ?_
    obtain ⟨hb_, hyp⟩ := hyp
    refine s_iast (dcx dX6_clear_c0 21 rfl) (AP_7 h0) hb_ ?_
    obtain ⟨s20_, es20_⟩ : ∃ z : SS, z = sI σ (a0 + 8) (Int32.toNatClampNeg x1) 0 := ⟨_, rfl⟩
    rw [← es20_]
    have hyp := hyp s20_ es20_
    refine r_iinc (lv1 := [(1, .int (x1 + 1)), (0, .ref a0)]) (dcx dX6_clear_c0 22 rfl) 1 rfl (Nat.le_of_ble_eq_true rfl) rfl ?_
    refine r_goto (tgt := 24) (dcx dX6_clear_c0 23 rfl) (by decide) ?_
    refine r_loc (lv1 := [(0, .ref a0), (1, .int (x1 + 1))]) [1, 0] rfl ?_
    exact hyp
set_option maxHeartbeats 4000000 in
set_option maxRecDepth 20000 in
theorem tX6_hasCell {Γ : GE} {l : Launch} {a0 : Nat} {x1 : Int32} {x2 : Int32} {σ : SS} {K : Option Value → SS → Prop} (h0 : isP a0) (hyp : (x1 < 0 → (K (some (.int 0)) σ)) ∧ (¬ (x1 < 0) → (((σ.1 a0 11) ≤ x1 → (K (some (.int 0)) σ)) ∧ (¬ ((σ.1 a0 11) ≤ x1) → ((x2 < 0 → (K (some (.int 0)) σ)) ∧ (¬ (x2 < 0) → (((σ.1 a0 12) ≤ x2 → (K (some (.int 0)) σ)) ∧ (¬ ((σ.1 a0 12) ≤ x2) → (K (some (.int 1)) σ))))))))) : C2 Γ l mX6_hasCell [.ref a0, .int x1, .int x2] σ K := by
  refine c2_of (lv := [(0, .ref a0), (1, .int x1), (2, .int x2)]) (by decide) (Nat.le_of_ble_eq_true rfl) rfl ?_
  refine r_iload_n (dcx dX6_hasCell_c0 0 rfl) 1 rfl ?_
  refine r_if_lt (tgt := 28) (dcx dX6_hasCell_c0 1 rfl) (by decide) (fun q_ => ?_) (fun q_ => ?_)
  · have hyp := hyp.1 q_
    refine r_iconst (v := 0) (dcx dX6_hasCell_c0 14 rfl) rfl ?_
    exact s_ret rfl rfl rfl hyp (dcx dX6_hasCell_c0 15 rfl)
  · have hyp := hyp.2 q_
    refine r_iload_n (dcx dX6_hasCell_c0 2 rfl) 1 rfl ?_
    refine r_aload_n (dcx dX6_hasCell_c0 3 rfl) 0 rfl ?_
    refine s_geti fX6_53 (dcx dX6_hasCell_c0 4 rfl) (FP_11 h0) ?_
    refine r_icmp_ge (tgt := 28) (dcx dX6_hasCell_c0 5 rfl) (by decide) (fun q_ => ?_) (fun q_ => ?_)
    · have hyp := hyp.1 q_
      refine r_iconst (v := 0) (dcx dX6_hasCell_c0 14 rfl) rfl ?_
      exact s_ret rfl rfl rfl hyp (dcx dX6_hasCell_c0 15 rfl)
    · have hyp := hyp.2 q_
      refine r_iload_n (dcx dX6_hasCell_c0 6 rfl) 2 rfl ?_
      refine r_if_lt (tgt := 28) (dcx dX6_hasCell_c0 7 rfl) (by decide) (fun q_ => ?_) (fun q_ => ?_)
      · have hyp := hyp.1 q_
        refine r_iconst (v := 0) (dcx dX6_hasCell_c0 14 rfl) rfl ?_
        exact s_ret rfl rfl rfl hyp (dcx dX6_hasCell_c0 15 rfl)
      · have hyp := hyp.2 q_
        refine r_iload_n (dcx dX6_hasCell_c0 8 rfl) 2 rfl ?_
        refine r_aload_n (dcx dX6_hasCell_c0 9 rfl) 0 rfl ?_
        refine s_geti fX6_57 (dcx dX6_hasCell_c0 10 rfl) (FP_12 h0) ?_
        refine r_icmp_ge (tgt := 28) (dcx dX6_hasCell_c0 11 rfl) (by decide) (fun q_ => ?_) (fun q_ => ?_)
        · have hyp := hyp.1 q_
          refine r_iconst (v := 0) (dcx dX6_hasCell_c0 14 rfl) rfl ?_
          exact s_ret rfl rfl rfl hyp (dcx dX6_hasCell_c0 15 rfl)
        · have hyp := hyp.2 q_
          refine r_iconst (v := 1) (dcx dX6_hasCell_c0 12 rfl) rfl ?_
          refine r_goto (tgt := 29) (dcx dX6_hasCell_c0 13 rfl) (by decide) ?_
          exact s_ret rfl rfl rfl hyp (dcx dX6_hasCell_c0 15 rfl)
set_option maxHeartbeats 4000000 in
set_option maxRecDepth 20000 in
theorem tX6_isGrass {Γ : GE} {l : Launch} {a0 : Nat} {x1 : Int32} {x2 : Int32} {σ : SS} {K : Option Value → SS → Prop} (h0 : isP a0) (hyp : C2 Γ l mX6_hasCell [.ref a0, .int x1, .int x2] σ (Ri fun r2_ s1_ => ((r2_ = 0 → (K (some (.int 0)) s1_)) ∧ (¬ (r2_ = 0) → (C2 Γ l mX9_indexOf [.int x1, .int x2] s1_ (Ri fun r4_ s3_ => (vp_in r4_ 80 ∧ (((s3_.1 (a0 + 1) (Int32.toNatClampNeg r4_)) < 0 → (K (some (.int 0)) s3_)) ∧ (¬ ((s3_.1 (a0 + 1) (Int32.toNatClampNeg r4_)) < 0) → (K (some (.int 1)) s3_)))))))))) : C2 Γ l mX6_isGrass [.ref a0, .int x1, .int x2] σ K := by
  refine c2_of (lv := [(0, .ref a0), (1, .int x1), (2, .int x2)]) (by decide) (Nat.le_of_ble_eq_true rfl) rfl ?_
  refine r_aload_n (dcx dX6_isGrass_c0 0 rfl) 0 rfl ?_
  refine r_iload_n (dcx dX6_isGrass_c0 1 rfl) 1 rfl ?_
  refine r_iload_n (dcx dX6_isGrass_c0 2 rfl) 2 rfl ?_
  refine s_callV (as := [.int x1, .int x2]) (st := []) zX6_hasCell kX6_isGrass_89 (dcx dX6_isGrass_c0 3 rfl) rfl rfl (Nat.le_of_ble_eq_true rfl) (OP h0) rfl rfl (C2.mono hyp ?_)
  rintro _ s1_ ⟨r2_, rfl, hyp⟩
  show G2 Γ l mX6_isGrass 6 [(0, .ref a0), (1, .int x1), (2, .int x2)] [.int r2_] s1_ K
  refine r_if_eq (tgt := 26) (dcx dX6_isGrass_c0 4 rfl) (by decide) (fun q_ => ?_) (fun q_ => ?_)
  · have hyp := hyp.1 q_
    refine r_iconst (v := 0) (dcx dX6_isGrass_c0 14 rfl) rfl ?_
    exact s_ret rfl rfl rfl hyp (dcx dX6_isGrass_c0 15 rfl)
  · have hyp := hyp.2 q_
    refine r_aload_n (dcx dX6_isGrass_c0 5 rfl) 0 rfl ?_
    refine s_getr (b := a0 + 1) fX6_9 (dcx dX6_isGrass_c0 6 rfl) (FP_0 h0) ?_
    refine r_iload_n (dcx dX6_isGrass_c0 7 rfl) 1 rfl ?_
    refine r_iload_n (dcx dX6_isGrass_c0 8 rfl) 2 rfl ?_
    refine s_callSN (as := [.int x1, .int x2]) (st := [.ref (a0 + 1)]) zX9_indexOf kX6_isGrass_93 (dcx dX6_isGrass_c0 9 rfl) rfl rfl (Nat.le_of_ble_eq_true rfl) (C2.mono hyp ?_)
    rintro _ s3_ ⟨r4_, rfl, hyp⟩
    show G2 Γ l mX6_isGrass 18 [(0, .ref a0), (1, .int x1), (2, .int x2)] [.int r4_, .ref (a0 + 1)] s3_ K
    obtain ⟨hb_, hyp⟩ := hyp
    refine s_iald (dcx dX6_isGrass_c0 10 rfl) (AP_0 h0) hb_ ?_
    refine r_if_lt (tgt := 26) (dcx dX6_isGrass_c0 11 rfl) (by decide) (fun q_ => ?_) (fun q_ => ?_)
    · have hyp := hyp.1 q_
      refine r_iconst (v := 0) (dcx dX6_isGrass_c0 14 rfl) rfl ?_
      exact s_ret rfl rfl rfl hyp (dcx dX6_isGrass_c0 15 rfl)
    · have hyp := hyp.2 q_
      refine r_iconst (v := 1) (dcx dX6_isGrass_c0 12 rfl) rfl ?_
      refine r_goto (tgt := 27) (dcx dX6_isGrass_c0 13 rfl) (by decide) ?_
      exact s_ret rfl rfl rfl hyp (dcx dX6_isGrass_c0 15 rfl)
set_option maxHeartbeats 4000000 in
set_option maxRecDepth 20000 in
theorem tX6_hasSign {Γ : GE} {l : Launch} {a0 : Nat} {x1 : Int32} {σ : SS} {K : Option Value → SS → Prop} (h0 : isP a0) (hyp : (x1 < 0 → (K (some (.int 0)) σ)) ∧ (¬ (x1 < 0) → (((σ.1 a0 13) ≤ x1 → (K (some (.int 0)) σ)) ∧ (¬ ((σ.1 a0 13) ≤ x1) → (K (some (.int 1)) σ))))) : C2 Γ l mX6_hasSign [.ref a0, .int x1] σ K := by
  refine c2_of (lv := [(0, .ref a0), (1, .int x1)]) (by decide) (Nat.le_of_ble_eq_true rfl) rfl ?_
  refine r_iload_n (dcx dX6_hasSign_c0 0 rfl) 1 rfl ?_
  refine r_if_lt (tgt := 16) (dcx dX6_hasSign_c0 1 rfl) (by decide) (fun q_ => ?_) (fun q_ => ?_)
  · have hyp := hyp.1 q_
    refine r_iconst (v := 0) (dcx dX6_hasSign_c0 8 rfl) rfl ?_
    exact s_ret rfl rfl rfl hyp (dcx dX6_hasSign_c0 9 rfl)
  · have hyp := hyp.2 q_
    refine r_iload_n (dcx dX6_hasSign_c0 2 rfl) 1 rfl ?_
    refine r_aload_n (dcx dX6_hasSign_c0 3 rfl) 0 rfl ?_
    refine s_geti fX6_60 (dcx dX6_hasSign_c0 4 rfl) (FP_13 h0) ?_
    refine r_icmp_ge (tgt := 16) (dcx dX6_hasSign_c0 5 rfl) (by decide) (fun q_ => ?_) (fun q_ => ?_)
    · have hyp := hyp.1 q_
      refine r_iconst (v := 0) (dcx dX6_hasSign_c0 8 rfl) rfl ?_
      exact s_ret rfl rfl rfl hyp (dcx dX6_hasSign_c0 9 rfl)
    · have hyp := hyp.2 q_
      refine r_iconst (v := 1) (dcx dX6_hasSign_c0 6 rfl) rfl ?_
      refine r_goto (tgt := 17) (dcx dX6_hasSign_c0 7 rfl) (by decide) ?_
      exact s_ret rfl rfl rfl hyp (dcx dX6_hasSign_c0 9 rfl)
set_option maxHeartbeats 4000000 in
set_option maxRecDepth 20000 in
theorem tX6_hasWindow {Γ : GE} {l : Launch} {a0 : Nat} {x1 : Int32} {σ : SS} {K : Option Value → SS → Prop} (h0 : isP a0) (hyp : (x1 < 0 → (K (some (.int 0)) σ)) ∧ (¬ (x1 < 0) → (((σ.1 a0 14) ≤ x1 → (K (some (.int 0)) σ)) ∧ (¬ ((σ.1 a0 14) ≤ x1) → (K (some (.int 1)) σ))))) : C2 Γ l mX6_hasWindow [.ref a0, .int x1] σ K := by
  refine c2_of (lv := [(0, .ref a0), (1, .int x1)]) (by decide) (Nat.le_of_ble_eq_true rfl) rfl ?_
  refine r_iload_n (dcx dX6_hasWindow_c0 0 rfl) 1 rfl ?_
  refine r_if_lt (tgt := 16) (dcx dX6_hasWindow_c0 1 rfl) (by decide) (fun q_ => ?_) (fun q_ => ?_)
  · have hyp := hyp.1 q_
    refine r_iconst (v := 0) (dcx dX6_hasWindow_c0 8 rfl) rfl ?_
    exact s_ret rfl rfl rfl hyp (dcx dX6_hasWindow_c0 9 rfl)
  · have hyp := hyp.2 q_
    refine r_iload_n (dcx dX6_hasWindow_c0 2 rfl) 1 rfl ?_
    refine r_aload_n (dcx dX6_hasWindow_c0 3 rfl) 0 rfl ?_
    refine s_geti fX6_63 (dcx dX6_hasWindow_c0 4 rfl) (FP_14 h0) ?_
    refine r_icmp_ge (tgt := 16) (dcx dX6_hasWindow_c0 5 rfl) (by decide) (fun q_ => ?_) (fun q_ => ?_)
    · have hyp := hyp.1 q_
      refine r_iconst (v := 0) (dcx dX6_hasWindow_c0 8 rfl) rfl ?_
      exact s_ret rfl rfl rfl hyp (dcx dX6_hasWindow_c0 9 rfl)
    · have hyp := hyp.2 q_
      refine r_iconst (v := 1) (dcx dX6_hasWindow_c0 6 rfl) rfl ?_
      refine r_goto (tgt := 17) (dcx dX6_hasWindow_c0 7 rfl) (by decide) ?_
      exact s_ret rfl rfl rfl hyp (dcx dX6_hasWindow_c0 9 rfl)
set_option maxHeartbeats 4000000 in
set_option maxRecDepth 20000 in
theorem tX6_hasPlace {Γ : GE} {l : Launch} {a0 : Nat} {x1 : Int32} {x2 : Int32} {x3 : Int32} {σ : SS} {K : Option Value → SS → Prop} (h0 : isP a0) (hyp : C2 Γ l mX6_hasSign [.ref a0, .int x1] σ (Ri fun r2_ s1_ => ((r2_ = 0 → (K (some (.int 0)) s1_)) ∧ (¬ (r2_ = 0) → ((x2 < 0 → (K (some (.int 0)) s1_)) ∧ (¬ (x2 < 0) → ((((s1_.1 a0 11) - 2) ≤ x2 → (K (some (.int 0)) s1_)) ∧ (¬ (((s1_.1 a0 11) - 2) ≤ x2) → ((x3 < 0 → (K (some (.int 0)) s1_)) ∧ (¬ (x3 < 0) → ((((s1_.1 a0 12) - 2) ≤ x3 → (K (some (.int 0)) s1_)) ∧ (¬ (((s1_.1 a0 12) - 2) ≤ x3) → (K (some (.int 1)) s1_))))))))))))) : C2 Γ l mX6_hasPlace [.ref a0, .int x1, .int x2, .int x3] σ K := by
  refine c2_of (lv := [(0, .ref a0), (1, .int x1), (2, .int x2), (3, .int x3)]) (by decide) (Nat.le_of_ble_eq_true rfl) rfl ?_
  refine r_aload_n (dcx dX6_hasPlace_c0 0 rfl) 0 rfl ?_
  refine r_iload_n (dcx dX6_hasPlace_c0 1 rfl) 1 rfl ?_
  refine s_callV (as := [.int x1]) (st := []) zX6_hasSign kX6_hasPlace_97 (dcx dX6_hasPlace_c0 2 rfl) rfl rfl (Nat.le_of_ble_eq_true rfl) (OP h0) rfl rfl (C2.mono hyp ?_)
  rintro _ s1_ ⟨r2_, rfl, hyp⟩
  show G2 Γ l mX6_hasPlace 5 [(0, .ref a0), (1, .int x1), (2, .int x2), (3, .int x3)] [.int r2_] s1_ K
  refine r_if_eq (tgt := 40) (dcx dX6_hasPlace_c0 3 rfl) (by decide) (fun q_ => ?_) (fun q_ => ?_)
  · have hyp := hyp.1 q_
    refine r_iconst (v := 0) (dcx dX6_hasPlace_c0 22 rfl) rfl ?_
    exact s_ret rfl rfl rfl hyp (dcx dX6_hasPlace_c0 23 rfl)
  · have hyp := hyp.2 q_
    refine r_iload_n (dcx dX6_hasPlace_c0 4 rfl) 2 rfl ?_
    refine r_if_lt (tgt := 40) (dcx dX6_hasPlace_c0 5 rfl) (by decide) (fun q_ => ?_) (fun q_ => ?_)
    · have hyp := hyp.1 q_
      refine r_iconst (v := 0) (dcx dX6_hasPlace_c0 22 rfl) rfl ?_
      exact s_ret rfl rfl rfl hyp (dcx dX6_hasPlace_c0 23 rfl)
    · have hyp := hyp.2 q_
      refine r_iload_n (dcx dX6_hasPlace_c0 6 rfl) 2 rfl ?_
      refine r_aload_n (dcx dX6_hasPlace_c0 7 rfl) 0 rfl ?_
      refine s_geti fX6_53 (dcx dX6_hasPlace_c0 8 rfl) (FP_11 h0) ?_
      refine r_iconst (v := 2) (dcx dX6_hasPlace_c0 9 rfl) rfl ?_
      refine r_isub (dcx dX6_hasPlace_c0 10 rfl) ?_
      refine r_icmp_ge (tgt := 40) (dcx dX6_hasPlace_c0 11 rfl) (by decide) (fun q_ => ?_) (fun q_ => ?_)
      · have hyp := hyp.1 q_
        refine r_iconst (v := 0) (dcx dX6_hasPlace_c0 22 rfl) rfl ?_
        exact s_ret rfl rfl rfl hyp (dcx dX6_hasPlace_c0 23 rfl)
      · have hyp := hyp.2 q_
        refine r_iload_n (dcx dX6_hasPlace_c0 12 rfl) 3 rfl ?_
        refine r_if_lt (tgt := 40) (dcx dX6_hasPlace_c0 13 rfl) (by decide) (fun q_ => ?_) (fun q_ => ?_)
        · have hyp := hyp.1 q_
          refine r_iconst (v := 0) (dcx dX6_hasPlace_c0 22 rfl) rfl ?_
          exact s_ret rfl rfl rfl hyp (dcx dX6_hasPlace_c0 23 rfl)
        · have hyp := hyp.2 q_
          refine r_iload_n (dcx dX6_hasPlace_c0 14 rfl) 3 rfl ?_
          refine r_aload_n (dcx dX6_hasPlace_c0 15 rfl) 0 rfl ?_
          refine s_geti fX6_57 (dcx dX6_hasPlace_c0 16 rfl) (FP_12 h0) ?_
          refine r_iconst (v := 2) (dcx dX6_hasPlace_c0 17 rfl) rfl ?_
          refine r_isub (dcx dX6_hasPlace_c0 18 rfl) ?_
          refine r_icmp_ge (tgt := 40) (dcx dX6_hasPlace_c0 19 rfl) (by decide) (fun q_ => ?_) (fun q_ => ?_)
          · have hyp := hyp.1 q_
            refine r_iconst (v := 0) (dcx dX6_hasPlace_c0 22 rfl) rfl ?_
            exact s_ret rfl rfl rfl hyp (dcx dX6_hasPlace_c0 23 rfl)
          · have hyp := hyp.2 q_
            refine r_iconst (v := 1) (dcx dX6_hasPlace_c0 20 rfl) rfl ?_
            refine r_goto (tgt := 41) (dcx dX6_hasPlace_c0 21 rfl) (by decide) ?_
            exact s_ret rfl rfl rfl hyp (dcx dX6_hasPlace_c0 23 rfl)
set_option maxHeartbeats 4000000 in
set_option maxRecDepth 20000 in
theorem tX6_isCutAt {Γ : GE} {l : Launch} {a0 : Nat} {x1 : Int32} {x2 : Int32} {σ : SS} {K : Option Value → SS → Prop} (h0 : isP a0) (hyp : vp_in x1 4 ∧ ((¬ (((σ.1 (a0 + 3) (Int32.toNatClampNeg x1)) >>> (x2 &&& 31)) &&& 1) = 1 → (K (some (.int 0)) σ)) ∧ ((((σ.1 (a0 + 3) (Int32.toNatClampNeg x1)) >>> (x2 &&& 31)) &&& 1) = 1 → (K (some (.int 1)) σ)))) : C2 Γ l mX6_isCutAt [.ref a0, .int x1, .int x2] σ K := by
  refine c2_of (lv := [(0, .ref a0), (1, .int x1), (2, .int x2)]) (by decide) (Nat.le_of_ble_eq_true rfl) rfl ?_
  refine r_aload_n (dcx dX6_isCutAt_c0 0 rfl) 0 rfl ?_
  refine s_getr (b := a0 + 3) fX6_19 (dcx dX6_isCutAt_c0 1 rfl) (FP_2 h0) ?_
  refine r_iload_n (dcx dX6_isCutAt_c0 2 rfl) 1 rfl ?_
  obtain ⟨hb_, hyp⟩ := hyp
  refine s_iald (dcx dX6_isCutAt_c0 3 rfl) (AP_2 h0) hb_ ?_
  refine r_iload_n (dcx dX6_isCutAt_c0 4 rfl) 2 rfl ?_
  refine r_ishr (dcx dX6_isCutAt_c0 5 rfl) ?_
  refine r_iconst (v := 1) (dcx dX6_isCutAt_c0 6 rfl) rfl ?_
  refine r_iand (dcx dX6_isCutAt_c0 7 rfl) ?_
  refine r_iconst (v := 1) (dcx dX6_isCutAt_c0 8 rfl) rfl ?_
  refine r_icmp_ne (tgt := 18) (dcx dX6_isCutAt_c0 9 rfl) (by decide) (fun q_ => ?_) (fun q_ => ?_)
  · have hyp := hyp.1 q_
    refine r_iconst (v := 0) (dcx dX6_isCutAt_c0 12 rfl) rfl ?_
    exact s_ret rfl rfl rfl hyp (dcx dX6_isCutAt_c0 13 rfl)
  · have hyp := hyp.2 q_
    refine r_iconst (v := 1) (dcx dX6_isCutAt_c0 10 rfl) rfl ?_
    refine r_goto (tgt := 19) (dcx dX6_isCutAt_c0 11 rfl) (by decide) ?_
    exact s_ret rfl rfl rfl hyp (dcx dX6_isCutAt_c0 13 rfl)
set_option maxHeartbeats 4000000 in
set_option maxRecDepth 20000 in
theorem tX6_isReadable {Γ : GE} {l : Launch} {a0 : Nat} {x1 : Int32} {σ : SS} {K : Option Value → SS → Prop} (h0 : isP a0) (hyp : vp_in x1 4 ∧ (((σ.1 (a0 + 3) (Int32.toNatClampNeg x1)) = 0 → (K (some (.int 0)) σ)) ∧ (¬ ((σ.1 (a0 + 3) (Int32.toNatClampNeg x1)) = 0) → (vp_in x1 4 ∧ (((σ.1 (a0 + 3) (Int32.toNatClampNeg x1)) = 511 → (K (some (.int 0)) σ)) ∧ (¬ ((σ.1 (a0 + 3) (Int32.toNatClampNeg x1)) = 511) → (K (some (.int 1)) σ))))))) : C2 Γ l mX6_isReadable [.ref a0, .int x1] σ K := by
  refine c2_of (lv := [(0, .ref a0), (1, .int x1)]) (by decide) (Nat.le_of_ble_eq_true rfl) rfl ?_
  refine r_aload_n (dcx dX6_isReadable_c0 0 rfl) 0 rfl ?_
  refine s_getr (b := a0 + 3) fX6_19 (dcx dX6_isReadable_c0 1 rfl) (FP_2 h0) ?_
  refine r_iload_n (dcx dX6_isReadable_c0 2 rfl) 1 rfl ?_
  obtain ⟨hb_, hyp⟩ := hyp
  refine s_iald (dcx dX6_isReadable_c0 3 rfl) (AP_2 h0) hb_ ?_
  refine r_if_eq (tgt := 25) (dcx dX6_isReadable_c0 4 rfl) (by decide) (fun q_ => ?_) (fun q_ => ?_)
  · have hyp := hyp.1 q_
    refine r_iconst (v := 0) (dcx dX6_isReadable_c0 13 rfl) rfl ?_
    exact s_ret rfl rfl rfl hyp (dcx dX6_isReadable_c0 14 rfl)
  · have hyp := hyp.2 q_
    refine r_aload_n (dcx dX6_isReadable_c0 5 rfl) 0 rfl ?_
    refine s_getr (b := a0 + 3) fX6_19 (dcx dX6_isReadable_c0 6 rfl) (FP_2 h0) ?_
    refine r_iload_n (dcx dX6_isReadable_c0 7 rfl) 1 rfl ?_
    obtain ⟨hb_, hyp⟩ := hyp
    refine s_iald (dcx dX6_isReadable_c0 8 rfl) (AP_2 h0) hb_ ?_
    refine r_sipush (v := 511) (dcx dX6_isReadable_c0 9 rfl) rfl ?_
    refine r_icmp_eq (tgt := 25) (dcx dX6_isReadable_c0 10 rfl) (by decide) (fun q_ => ?_) (fun q_ => ?_)
    · have hyp := hyp.1 q_
      refine r_iconst (v := 0) (dcx dX6_isReadable_c0 13 rfl) rfl ?_
      exact s_ret rfl rfl rfl hyp (dcx dX6_isReadable_c0 14 rfl)
    · have hyp := hyp.2 q_
      refine r_iconst (v := 1) (dcx dX6_isReadable_c0 11 rfl) rfl ?_
      refine r_goto (tgt := 26) (dcx dX6_isReadable_c0 12 rfl) (by decide) ?_
      exact s_ret rfl rfl rfl hyp (dcx dX6_isReadable_c0 14 rfl)
set_option maxHeartbeats 4000000 in
set_option maxRecDepth 20000 in
theorem tX6_sees {Γ : GE} {l : Launch} {a0 : Nat} {x1 : Int32} {x2 : Int32} {σ : SS} {K : Option Value → SS → Prop} (h0 : isP a0) (hyp : vp_in x1 4 ∧ ((x2 < (σ.1 (a0 + 5) (Int32.toNatClampNeg x1)) → (K (some (.int 0)) σ)) ∧ (¬ (x2 < (σ.1 (a0 + 5) (Int32.toNatClampNeg x1))) → (vp_in x1 4 ∧ (((σ.1 (a0 + 6) (Int32.toNatClampNeg x1)) < (x2 + 2) → (K (some (.int 0)) σ)) ∧ (¬ ((σ.1 (a0 + 6) (Int32.toNatClampNeg x1)) < (x2 + 2)) → (K (some (.int 1)) σ))))))) : C2 Γ l mX6_sees [.ref a0, .int x1, .int x2] σ K := by
  refine c2_of (lv := [(0, .ref a0), (1, .int x1), (2, .int x2)]) (by decide) (Nat.le_of_ble_eq_true rfl) rfl ?_
  refine r_iload_n (dcx dX6_sees_c0 0 rfl) 2 rfl ?_
  refine r_aload_n (dcx dX6_sees_c0 1 rfl) 0 rfl ?_
  refine s_getr (b := a0 + 5) fX6_25 (dcx dX6_sees_c0 2 rfl) (FP_4 h0) ?_
  refine r_iload_n (dcx dX6_sees_c0 3 rfl) 1 rfl ?_
  obtain ⟨hb_, hyp⟩ := hyp
  refine s_iald (dcx dX6_sees_c0 4 rfl) (AP_4 h0) hb_ ?_
  refine r_icmp_lt (tgt := 26) (dcx dX6_sees_c0 5 rfl) (by decide) (fun q_ => ?_) (fun q_ => ?_)
  · have hyp := hyp.1 q_
    refine r_iconst (v := 0) (dcx dX6_sees_c0 16 rfl) rfl ?_
    exact s_ret rfl rfl rfl hyp (dcx dX6_sees_c0 17 rfl)
  · have hyp := hyp.2 q_
    refine r_iload_n (dcx dX6_sees_c0 6 rfl) 2 rfl ?_
    refine r_iconst (v := 2) (dcx dX6_sees_c0 7 rfl) rfl ?_
    refine r_iadd (dcx dX6_sees_c0 8 rfl) ?_
    refine r_aload_n (dcx dX6_sees_c0 9 rfl) 0 rfl ?_
    refine s_getr (b := a0 + 6) fX6_28 (dcx dX6_sees_c0 10 rfl) (FP_5 h0) ?_
    refine r_iload_n (dcx dX6_sees_c0 11 rfl) 1 rfl ?_
    obtain ⟨hb_, hyp⟩ := hyp
    refine s_iald (dcx dX6_sees_c0 12 rfl) (AP_5 h0) hb_ ?_
    refine r_icmp_gt (tgt := 26) (dcx dX6_sees_c0 13 rfl) (by decide) (fun q_ => ?_) (fun q_ => ?_)
    · have hyp := hyp.1 q_
      refine r_iconst (v := 0) (dcx dX6_sees_c0 16 rfl) rfl ?_
      exact s_ret rfl rfl rfl hyp (dcx dX6_sees_c0 17 rfl)
    · have hyp := hyp.2 q_
      refine r_iconst (v := 1) (dcx dX6_sees_c0 14 rfl) rfl ?_
      refine r_goto (tgt := 27) (dcx dX6_sees_c0 15 rfl) (by decide) ?_
      exact s_ret rfl rfl rfl hyp (dcx dX6_sees_c0 17 rfl)
