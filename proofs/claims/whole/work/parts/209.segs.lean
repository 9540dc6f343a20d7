set_option maxHeartbeats 4000000 in
set_option maxRecDepth 20000 in
theorem tX9_then {Γ : GE} {l : Launch} {x1 : Int32} {x2 : Int32} {x3 : Int32} {σ : SS} {K : Option Value → SS → Prop}  (hyp : ∃ b1_ : Nat, σ.2.2 0 8 = b1_ ∧ isP b1_ ∧ (C2 Γ l mX6_hasCell [.ref b1_, .int x1, .int x2] σ (Ri fun r3_ s2_ => ((r3_ = 0 → (K (some (.int ((-1)))) s2_)) ∧ (¬ (r3_ = 0) → (C2 Γ l mX9_isWait [.int x3] s2_ (Ri fun r5_ s4_ => ((¬ r5_ = 0 → (C2 Γ l mX4_become [.ref 274, .ref 269] s4_ (Rv fun s6_ => (∃ b8_ : Nat, s6_.2.2 0 8 = b8_ ∧ isP b8_ ∧ (C2 Γ l mX1_growWeeks [.ref 46, .ref 274, .int x3, .int (s6_.1 b8_ 19)] s6_ (Rv fun s9_ => (C2 Γ l mX9_indexOf [.int x1, .int x2] s9_ (Ri fun r12_ s11_ => (vp_in r12_ 80 ∧ (K (some (.int (s11_.1 (274 + 1) (Int32.toNatClampNeg r12_)))) s11_)))))))))) ∧ (r5_ = 0 → (K (some (.int ((-1)))) s4_)))))))))) : C2 Γ l mX9_then [.ref 0, .int x1, .int x2, .int x3] σ K := by
  refine c2_of (lv := [(0, .ref 0), (1, .int x1), (2, .int x2), (3, .int x3)]) (by decide) (Nat.le_of_ble_eq_true rfl) rfl ?_
  refine r_aload_n (dcx dX9_then_c0 0 rfl) 0 rfl ?_
  obtain ⟨b1_, eb1_, hb1_, hyp⟩ := hyp
  refine s_getmE fX9_28 (dcx dX9_then_c0 1 rfl) F0_8 eb1_ (nzP hb1_) ?_
  refine r_iload_n (dcx dX9_then_c0 2 rfl) 1 rfl ?_
  refine r_iload_n (dcx dX9_then_c0 3 rfl) 2 rfl ?_
  refine s_callV (as := [.int x1, .int x2]) (st := []) zX6_hasCell kX9_then_113 (dcx dX9_then_c0 4 rfl) rfl rfl (Nat.le_of_ble_eq_true rfl) (OP hb1_) rfl rfl (C2.mono hyp ?_)
  rintro _ s2_ ⟨r3_, rfl, hyp⟩
  show G2 Γ l mX9_then 9 [(0, .ref 0), (1, .int x1), (2, .int x2), (3, .int x3)] [.int r3_] s2_ K
  refine r_if_eq (tgt := 19) (dcx dX9_then_c0 5 rfl) (by decide) (fun q_ => ?_) (fun q_ => ?_)
  · have hyp := hyp.1 q_
    refine r_iconst (v := (-1)) (dcx dX9_then_c0 9 rfl) rfl ?_
    exact s_ret rfl rfl rfl hyp (dcx dX9_then_c0 10 rfl)
  · have hyp := hyp.2 q_
    refine r_iload_n (dcx dX9_then_c0 6 rfl) 3 rfl ?_
    refine s_callS (as := [.int x3]) (st := []) zX9_isWait kX9_then_220 (dcx dX9_then_c0 7 rfl) rfl rfl (Nat.le_of_ble_eq_true rfl) (C2.mono hyp ?_)
    rintro _ s4_ ⟨r5_, rfl, hyp⟩
    show G2 Γ l mX9_then 16 [(0, .ref 0), (1, .int x1), (2, .int x2), (3, .int x3)] [.int r5_] s4_ K
    refine r_if_ne (tgt := 21) (dcx dX9_then_c0 8 rfl) (by decide) (fun q_ => ?_) (fun q_ => ?_)
    · have hyp := hyp.1 q_
      refine r_aload_n (dcx dX9_then_c0 11 rfl) 0 rfl ?_
      refine s_getr (b := 274) fX9_67 (dcx dX9_then_c0 12 rfl) F0_6 ?_
      refine r_aload_n (dcx dX9_then_c0 13 rfl) 0 rfl ?_
      refine s_getr (b := 269) fX9_63 (dcx dX9_then_c0 14 rfl) F0_5 ?_
      refine s_callV (as := [.ref 269]) (st := []) zX4_become kX9_then_233 (dcx dX9_then_c0 15 rfl) rfl rfl (Nat.le_of_ble_eq_true rfl) (OL isL274) rfl rfl (C2.mono hyp ?_)
      rintro _ s6_ ⟨rfl, hyp⟩
      show G2 Γ l mX9_then 32 [(0, .ref 0), (1, .int x1), (2, .int x2), (3, .int x3)] [] s6_ K
      refine r_aload_n (dcx dX9_then_c0 16 rfl) 0 rfl ?_
      refine s_getr (b := 46) fX9_40 (dcx dX9_then_c0 17 rfl) F0_2 ?_
      refine r_aload_n (dcx dX9_then_c0 18 rfl) 0 rfl ?_
      refine s_getr (b := 274) fX9_67 (dcx dX9_then_c0 19 rfl) F0_6 ?_
      refine r_iload_n (dcx dX9_then_c0 20 rfl) 3 rfl ?_
      refine r_aload_n (dcx dX9_then_c0 21 rfl) 0 rfl ?_
      obtain ⟨b8_, eb8_, hb8_, hyp⟩ := hyp
      refine s_getmE fX9_28 (dcx dX9_then_c0 22 rfl) F0_8 eb8_ (nzP hb8_) ?_
      refine s_geti fX9_244 (dcx dX9_then_c0 23 rfl) (FP_19 hb8_) ?_
      refine s_callV (as := [.ref 274, .int x3, .int (s6_.1 b8_ 19)]) (st := []) zX1_growWeeks kX9_then_255 (dcx dX9_then_c0 24 rfl) rfl rfl (Nat.le_of_ble_eq_true rfl) O46 rfl rfl (C2.mono hyp ?_)
      rintro _ s9_ ⟨rfl, hyp⟩
      show G2 Γ l mX9_then 51 [(0, .ref 0), (1, .int x1), (2, .int x2), (3, .int x3)] [] s9_ K
      refine r_aload_n (dcx dX9_then_c0 25 rfl) 0 rfl ?_
      refine s_getr (b := 274) fX9_67 (dcx dX9_then_c0 26 rfl) F0_6 ?_
      refine s_getr (b := 274 + 1) fX9_121 (dcx dX9_then_c0 27 rfl) (FL_0 isL274) ?_
      refine r_iload_n (dcx dX9_then_c0 28 rfl) 1 rfl ?_
      refine r_iload_n (dcx dX9_then_c0 29 rfl) 2 rfl ?_
      refine s_callS (as := [.int x1, .int x2]) (st := [.ref (274 + 1)]) zX9_indexOf kX9_then_117 (dcx dX9_then_c0 30 rfl) rfl rfl (Nat.le_of_ble_eq_true rfl) (C2.mono hyp ?_)
      rintro _ s11_ ⟨r12_, rfl, hyp⟩
      show G2 Γ l mX9_then 63 [(0, .ref 0), (1, .int x1), (2, .int x2), (3, .int x3)] [.int r12_, .ref (274 + 1)] s11_ K
      obtain ⟨hb_, hyp⟩ := hyp
      refine s_iald (dcx dX9_then_c0 31 rfl) (AL_0 isL274) hb_ ?_
      exact s_ret rfl rfl rfl hyp (dcx dX9_then_c0 32 rfl)
    · have hyp := hyp.2 q_
      refine r_iconst (v := (-1)) (dcx dX9_then_c0 9 rfl) rfl ?_
      exact s_ret rfl rfl rfl hyp (dcx dX9_then_c0 10 rfl)
set_option maxHeartbeats 4000000 in
set_option maxRecDepth 20000 in
theorem tX9_all {Γ : GE} {l : Launch} {x1 : Int32} {x2 : Int32} {x3 : Int32} {σ : SS} {K : Option Value → SS → Prop}  (hyp : C2 Γ l mX9_isWait [.int x1] σ (Ri fun r2_ s1_ => ((r2_ = 0 → (K (some (.int ((-1)))) s1_)) ∧ (¬ (r2_ = 0) → ((x2 < 0 → (K (some (.int ((-1)))) s1_)) ∧ (¬ (x2 < 0) → (((3 : Int32) < x2 → (K (some (.int ((-1)))) s1_)) ∧ (¬ ((3 : Int32) < x2) → ((¬ x2 = 3 → (C2 Γ l mX4_become [.ref 274, .ref 269] s1_ (Rv fun s3_ => (∃ b5_ : Nat, s3_.2.2 0 8 = b5_ ∧ isP b5_ ∧ (C2 Γ l mX1_growWeeks [.ref 46, .ref 274, .int x1, .int (s3_.1 b5_ 19)] s3_ (Rv fun s6_ => ((x2 = 2 → (C2 Γ l mX9_allHeights [.ref 0] s6_ (Ri fun r9_ s8_ => (K (some (.int r9_)) s8_)))) ∧ (x2 = 3 → (C2 Γ l mX9_soHigh [.ref 0, .int x3] s6_ (Ri fun r11_ s10_ => (K (some (.int r11_)) s10_)))) ∧ (¬ x2 = 2 → ¬ x2 = 3 → ((¬ x2 = 1 → (C2 Γ l mX9_tallest [.ref 0, .int 0] s6_ (Ri fun r13_ s12_ => (K (some (.int r13_)) s12_)))) ∧ (x2 = 1 → (C2 Γ l mX9_tallest [.ref 0, .int 1] s6_ (Ri fun r15_ s14_ => (K (some (.int r15_)) s14_))))))))))))) ∧ (x2 = 3 → (C2 Γ l mX9_isHeight [.int x3] s1_ (Ri fun r17_ s16_ => ((¬ r17_ = 0 → (C2 Γ l mX4_become [.ref 274, .ref 269] s16_ (Rv fun s18_ => (∃ b20_ : Nat, s18_.2.2 0 8 = b20_ ∧ isP b20_ ∧ (C2 Γ l mX1_growWeeks [.ref 46, .ref 274, .int x1, .int (s18_.1 b20_ 19)] s18_ (Rv fun s21_ => ((x2 = 2 → (C2 Γ l mX9_allHeights [.ref 0] s21_ (Ri fun r24_ s23_ => (K (some (.int r24_)) s23_)))) ∧ (x2 = 3 → (C2 Γ l mX9_soHigh [.ref 0, .int x3] s21_ (Ri fun r26_ s25_ => (K (some (.int r26_)) s25_)))) ∧ (¬ x2 = 2 → ¬ x2 = 3 → ((¬ x2 = 1 → (C2 Γ l mX9_tallest [.ref 0, .int 0] s21_ (Ri fun r28_ s27_ => (K (some (.int r28_)) s27_)))) ∧ (x2 = 1 → (C2 Γ l mX9_tallest [.ref 0, .int 1] s21_ (Ri fun r30_ s29_ => (K (some (.int r30_)) s29_))))))))))))) ∧ (r17_ = 0 → (K (some (.int ((-1)))) s16_))))))))))))))) : C2 Γ l mX9_all [.ref 0, .int x1, .int x2, .int x3] σ K := by
  refine c2_of (lv := [(0, .ref 0), (1, .int x1), (2, .int x2), (3, .int x3)]) (by decide) (Nat.le_of_ble_eq_true rfl) rfl ?_
  refine r_iload_n (dcx dX9_all_c0 0 rfl) 1 rfl ?_
  refine s_callS (as := [.int x1]) (st := []) zX9_isWait kX9_all_220 (dcx dX9_all_c0 1 rfl) rfl rfl (Nat.le_of_ble_eq_true rfl) (C2.mono hyp ?_)
  rintro _ s1_ ⟨r2_, rfl, hyp⟩
  show G2 Γ l mX9_all 4 [(0, .ref 0), (1, .int x1), (2, .int x2), (3, .int x3)] [.int r2_] s1_ K
  refine r_if_eq (tgt := 28) (dcx dX9_all_c0 2 rfl) (by decide) (fun q_ => ?_) (fun q_ => ?_)
  · have hyp := hyp.1 q_
    refine r_iconst (v := (-1)) (dcx dX9_all_c0 14 rfl) rfl ?_
    exact s_ret rfl rfl rfl hyp (dcx dX9_all_c0 15 rfl)
  · have hyp := hyp.2 q_
    refine r_iload_n (dcx dX9_all_c0 3 rfl) 2 rfl ?_
    refine r_if_lt (tgt := 28) (dcx dX9_all_c0 4 rfl) (by decide) (fun q_ => ?_) (fun q_ => ?_)
    · have hyp := hyp.1 q_
      refine r_iconst (v := (-1)) (dcx dX9_all_c0 14 rfl) rfl ?_
      exact s_ret rfl rfl rfl hyp (dcx dX9_all_c0 15 rfl)
    · have hyp := hyp.2 q_
      refine r_iload_n (dcx dX9_all_c0 5 rfl) 2 rfl ?_
      refine r_iconst (v := 3) (dcx dX9_all_c0 6 rfl) rfl ?_
      refine r_icmp_gt (tgt := 28) (dcx dX9_all_c0 7 rfl) (by decide) (fun q_ => ?_) (fun q_ => ?_)
      · have hyp := hyp.1 q_
        refine r_iconst (v := (-1)) (dcx dX9_all_c0 14 rfl) rfl ?_
        exact s_ret rfl rfl rfl hyp (dcx dX9_all_c0 15 rfl)
      · have hyp := hyp.2 q_
        refine r_iload_n (dcx dX9_all_c0 8 rfl) 2 rfl ?_
        refine r_iconst (v := 3) (dcx dX9_all_c0 9 rfl) rfl ?_
        refine r_icmp_ne (tgt := 30) (dcx dX9_all_c0 10 rfl) (by decide) (fun q_ => ?_) (fun q_ => ?_)
        · have hyp := hyp.1 q_
          refine r_aload_n (dcx dX9_all_c0 16 rfl) 0 rfl ?_
          refine s_getr (b := 274) fX9_67 (dcx dX9_all_c0 17 rfl) F0_6 ?_
          refine r_aload_n (dcx dX9_all_c0 18 rfl) 0 rfl ?_
          refine s_getr (b := 269) fX9_63 (dcx dX9_all_c0 19 rfl) F0_5 ?_
          refine s_callV (as := [.ref 269]) (st := []) zX4_become kX9_all_233 (dcx dX9_all_c0 20 rfl) rfl rfl (Nat.le_of_ble_eq_true rfl) (OL isL274) rfl rfl (C2.mono hyp ?_)
          rintro _ s3_ ⟨rfl, hyp⟩
          show G2 Γ l mX9_all 41 [(0, .ref 0), (1, .int x1), (2, .int x2), (3, .int x3)] [] s3_ K
          refine r_aload_n (dcx dX9_all_c0 21 rfl) 0 rfl ?_
          refine s_getr (b := 46) fX9_40 (dcx dX9_all_c0 22 rfl) F0_2 ?_
          refine r_aload_n (dcx dX9_all_c0 23 rfl) 0 rfl ?_
          refine s_getr (b := 274) fX9_67 (dcx dX9_all_c0 24 rfl) F0_6 ?_
          refine r_iload_n (dcx dX9_all_c0 25 rfl) 1 rfl ?_
          refine r_aload_n (dcx dX9_all_c0 26 rfl) 0 rfl ?_
          obtain ⟨b5_, eb5_, hb5_, hyp⟩ := hyp
          refine s_getmE fX9_28 (dcx dX9_all_c0 27 rfl) F0_8 eb5_ (nzP hb5_) ?_
          refine s_geti fX9_244 (dcx dX9_all_c0 28 rfl) (FP_19 hb5_) ?_
          refine s_callV (as := [.ref 274, .int x1, .int (s3_.1 b5_ 19)]) (st := []) zX1_growWeeks kX9_all_255 (dcx dX9_all_c0 29 rfl) rfl rfl (Nat.le_of_ble_eq_true rfl) O46 rfl rfl (C2.mono hyp ?_)
          rintro _ s6_ ⟨rfl, hyp⟩
          show G2 Γ l mX9_all 60 [(0, .ref 0), (1, .int x1), (2, .int x2), (3, .int x3)] [] s6_ K
          refine r_iload_n (dcx dX9_all_c0 30 rfl) 2 rfl ?_
          by_cases q0_ : x2 = 2
          · have hyp := hyp.1 q0_
            refine r_lookup (off := 27) (tgt := 88) (dcx dX9_all_c0 31 rfl) (by decide) (by rw [q0_]; decide) (by decide) ?_
            refine r_aload_n (dcx dX9_all_c0 32 rfl) 0 rfl ?_
            refine s_callV (as := []) (st := []) zX9_allHeights kX9_all_283 (dcx dX9_all_c0 33 rfl) rfl rfl (Nat.le_of_ble_eq_true rfl) O0 rfl rfl (C2.mono hyp ?_)
            rintro _ s8_ ⟨r9_, rfl, hyp⟩
            show G2 Γ l mX9_all 92 [(0, .ref 0), (1, .int x1), (2, .int x2), (3, .int x3)] [.int r9_] s8_ K
            exact s_ret rfl rfl rfl hyp (dcx dX9_all_c0 34 rfl)
          have hyp := hyp.2
          by_cases q1_ : x2 = 3
          · have hyp := hyp.1 q1_
            refine r_lookup (off := 32) (tgt := 93) (dcx dX9_all_c0 31 rfl) (by decide) (by rw [q1_]; decide) (by decide) ?_
            refine r_aload_n (dcx dX9_all_c0 35 rfl) 0 rfl ?_
            refine r_iload_n (dcx dX9_all_c0 36 rfl) 3 rfl ?_
            refine s_callV (as := [.int x3]) (st := []) zX9_soHigh kX9_all_287 (dcx dX9_all_c0 37 rfl) rfl rfl (Nat.le_of_ble_eq_true rfl) O0 rfl rfl (C2.mono hyp ?_)
            rintro _ s10_ ⟨r11_, rfl, hyp⟩
            show G2 Γ l mX9_all 98 [(0, .ref 0), (1, .int x1), (2, .int x2), (3, .int x3)] [.int r11_] s10_ K
            exact s_ret rfl rfl rfl hyp (dcx dX9_all_c0 38 rfl)
          have hyp := hyp.2
          have hyp := hyp q0_ q1_
          refine r_lookup (off := 38) (tgt := 99) (dcx dX9_all_c0 31 rfl) (by decide) (by simp only [lv_osw q0_ (by decide : (2 : Int32).toInt = 2), lv_osw q1_ (by decide : (3 : Int32).toInt = 3)]; rfl) (by decide) ?_
          refine r_aload_n (dcx dX9_all_c0 39 rfl) 0 rfl ?_
          refine r_iload_n (dcx dX9_all_c1 0 rfl) 2 rfl ?_
          refine r_iconst (v := 1) (dcx dX9_all_c1 1 rfl) rfl ?_
          refine r_icmp_ne (tgt := 109) (dcx dX9_all_c1 2 rfl) (by decide) (fun q_ => ?_) (fun q_ => ?_)
          · have hyp := hyp.1 q_
            refine r_iconst (v := 0) (dcx dX9_all_c1 5 rfl) rfl ?_
            refine s_callV (as := [.int 0]) (st := []) zX9_tallest kX9_all_290 (dcx dX9_all_c1 6 rfl) rfl rfl (Nat.le_of_ble_eq_true rfl) O0 rfl rfl (C2.mono hyp ?_)
            rintro _ s12_ ⟨r13_, rfl, hyp⟩
            show G2 Γ l mX9_all 113 [(0, .ref 0), (1, .int x1), (2, .int x2), (3, .int x3)] [.int r13_] s12_ K
            exact s_ret rfl rfl rfl hyp (dcx dX9_all_c1 7 rfl)
          · have hyp := hyp.2 q_
            refine r_iconst (v := 1) (dcx dX9_all_c1 3 rfl) rfl ?_
            refine r_goto (tgt := 110) (dcx dX9_all_c1 4 rfl) (by decide) ?_
            refine s_callV (as := [.int 1]) (st := []) zX9_tallest kX9_all_290 (dcx dX9_all_c1 6 rfl) rfl rfl (Nat.le_of_ble_eq_true rfl) O0 rfl rfl (C2.mono hyp ?_)
            rintro _ s14_ ⟨r15_, rfl, hyp⟩
            show G2 Γ l mX9_all 113 [(0, .ref 0), (1, .int x1), (2, .int x2), (3, .int x3)] [.int r15_] s14_ K
            exact s_ret rfl rfl rfl hyp (dcx dX9_all_c1 7 rfl)
        · have hyp := hyp.2 q_
          refine r_iload_n (dcx dX9_all_c0 11 rfl) 3 rfl ?_
          refine s_callS (as := [.int x3]) (st := []) zX9_isHeight kX9_all_213 (dcx dX9_all_c0 12 rfl) rfl rfl (Nat.le_of_ble_eq_true rfl) (C2.mono hyp ?_)
          rintro _ s16_ ⟨r17_, rfl, hyp⟩
          show G2 Γ l mX9_all 25 [(0, .ref 0), (1, .int x1), (2, .int x2), (3, .int x3)] [.int r17_] s16_ K
          refine r_if_ne (tgt := 30) (dcx dX9_all_c0 13 rfl) (by decide) (fun q_ => ?_) (fun q_ => ?_)
          · have hyp := hyp.1 q_
            refine r_aload_n (dcx dX9_all_c0 16 rfl) 0 rfl ?_
            refine s_getr (b := 274) fX9_67 (dcx dX9_all_c0 17 rfl) F0_6 ?_
            refine r_aload_n (dcx dX9_all_c0 18 rfl) 0 rfl ?_
            refine s_getr (b := 269) fX9_63 (dcx dX9_all_c0 19 rfl) F0_5 ?_
            refine s_callV (as := [.ref 269]) (st := []) zX4_become kX9_all_233 (dcx dX9_all_c0 20 rfl) rfl rfl (Nat.le_of_ble_eq_true rfl) (OL isL274) rfl rfl (C2.mono hyp ?_)
            rintro _ s18_ ⟨rfl, hyp⟩
            show G2 Γ l mX9_all 41 [(0, .ref 0), (1, .int x1), (2, .int x2), (3, .int x3)] [] s18_ K
            refine r_aload_n (dcx dX9_all_c0 21 rfl) 0 rfl ?_
            refine s_getr (b := 46) fX9_40 (dcx dX9_all_c0 22 rfl) F0_2 ?_
            refine r_aload_n (dcx dX9_all_c0 23 rfl) 0 rfl ?_
            refine s_getr (b := 274) fX9_67 (dcx dX9_all_c0 24 rfl) F0_6 ?_
            refine r_iload_n (dcx dX9_all_c0 25 rfl) 1 rfl ?_
            refine r_aload_n (dcx dX9_all_c0 26 rfl) 0 rfl ?_
            obtain ⟨b20_, eb20_, hb20_, hyp⟩ := hyp
            refine s_getmE fX9_28 (dcx dX9_all_c0 27 rfl) F0_8 eb20_ (nzP hb20_) ?_
            refine s_geti fX9_244 (dcx dX9_all_c0 28 rfl) (FP_19 hb20_) ?_
            refine s_callV (as := [.ref 274, .int x1, .int (s18_.1 b20_ 19)]) (st := []) zX1_growWeeks kX9_all_255 (dcx dX9_all_c0 29 rfl) rfl rfl (Nat.le_of_ble_eq_true rfl) O46 rfl rfl (C2.mono hyp ?_)
            rintro _ s21_ ⟨rfl, hyp⟩
            show G2 Γ l mX9_all 60 [(0, .ref 0), (1, .int x1), (2, .int x2), (3, .int x3)] [] s21_ K
            refine r_iload_n (dcx dX9_all_c0 30 rfl) 2 rfl ?_
            by_cases q0_ : x2 = 2
            · have hyp := hyp.1 q0_
              refine r_lookup (off := 27) (tgt := 88) (dcx dX9_all_c0 31 rfl) (by decide) (by rw [q0_]; decide) (by decide) ?_
              refine r_aload_n (dcx dX9_all_c0 32 rfl) 0 rfl ?_
              refine s_callV (as := []) (st := []) zX9_allHeights kX9_all_283 (dcx dX9_all_c0 33 rfl) rfl rfl (Nat.le_of_ble_eq_true rfl) O0 rfl rfl (C2.mono hyp ?_)
              rintro _ s23_ ⟨r24_, rfl, hyp⟩
              show G2 Γ l mX9_all 92 [(0, .ref 0), (1, .int x1), (2, .int x2), (3, .int x3)] [.int r24_] s23_ K
              exact s_ret rfl rfl rfl hyp (dcx dX9_all_c0 34 rfl)
            have hyp := hyp.2
            by_cases q1_ : x2 = 3
            · have hyp := hyp.1 q1_
              refine r_lookup (off := 32) (tgt := 93) (dcx dX9_all_c0 31 rfl) (by decide) (by rw [q1_]; decide) (by decide) ?_
              refine r_aload_n (dcx dX9_all_c0 35 rfl) 0 rfl ?_
              refine r_iload_n (dcx dX9_all_c0 36 rfl) 3 rfl ?_
              refine s_callV (as := [.int x3]) (st := []) zX9_soHigh kX9_all_287 (dcx dX9_all_c0 37 rfl) rfl rfl (Nat.le_of_ble_eq_true rfl) O0 rfl rfl (C2.mono hyp ?_)
              rintro _ s25_ ⟨r26_, rfl, hyp⟩
              show G2 Γ l mX9_all 98 [(0, .ref 0), (1, .int x1), (2, .int x2), (3, .int x3)] [.int r26_] s25_ K
              exact s_ret rfl rfl rfl hyp (dcx dX9_all_c0 38 rfl)
            have hyp := hyp.2
            have hyp := hyp q0_ q1_
            refine r_lookup (off := 38) (tgt := 99) (dcx dX9_all_c0 31 rfl) (by decide) (by simp only [lv_osw q0_ (by decide : (2 : Int32).toInt = 2), lv_osw q1_ (by decide : (3 : Int32).toInt = 3)]; rfl) (by decide) ?_
            refine r_aload_n (dcx dX9_all_c0 39 rfl) 0 rfl ?_
            refine r_iload_n (dcx dX9_all_c1 0 rfl) 2 rfl ?_
            refine r_iconst (v := 1) (dcx dX9_all_c1 1 rfl) rfl ?_
            refine r_icmp_ne (tgt := 109) (dcx dX9_all_c1 2 rfl) (by decide) (fun q_ => ?_) (fun q_ => ?_)
            · have hyp := hyp.1 q_
              refine r_iconst (v := 0) (dcx dX9_all_c1 5 rfl) rfl ?_
              refine s_callV (as := [.int 0]) (st := []) zX9_tallest kX9_all_290 (dcx dX9_all_c1 6 rfl) rfl rfl (Nat.le_of_ble_eq_true rfl) O0 rfl rfl (C2.mono hyp ?_)
              rintro _ s27_ ⟨r28_, rfl, hyp⟩
              show G2 Γ l mX9_all 113 [(0, .ref 0), (1, .int x1), (2, .int x2), (3, .int x3)] [.int r28_] s27_ K
              exact s_ret rfl rfl rfl hyp (dcx dX9_all_c1 7 rfl)
            · have hyp := hyp.2 q_
              refine r_iconst (v := 1) (dcx dX9_all_c1 3 rfl) rfl ?_
              refine r_goto (tgt := 110) (dcx dX9_all_c1 4 rfl) (by decide) ?_
              refine s_callV (as := [.int 1]) (st := []) zX9_tallest kX9_all_290 (dcx dX9_all_c1 6 rfl) rfl rfl (Nat.le_of_ble_eq_true rfl) O0 rfl rfl (C2.mono hyp ?_)
              rintro _ s29_ ⟨r30_, rfl, hyp⟩
              show G2 Γ l mX9_all 113 [(0, .ref 0), (1, .int x1), (2, .int x2), (3, .int x3)] [.int r30_] s29_ K
              exact s_ret rfl rfl rfl hyp (dcx dX9_all_c1 7 rfl)
          · have hyp := hyp.2 q_
            refine r_iconst (v := (-1)) (dcx dX9_all_c0 14 rfl) rfl ?_
            exact s_ret rfl rfl rfl hyp (dcx dX9_all_c0 15 rfl)
def wX9_tallest_9 (Γ : GE) (l : Launch) (x1 : Int32) (x2 : Int32) (x3 : Int32) (x4 : Int32) (σ : SS) (K : Option Value → SS → Prop) : Prop := G2 Γ l mX9_tallest 9 [(0, .ref 0), (1, .int x1), (2, .int x2), (3, .int x3), (4, .int x4)] [] σ K
def wX9_tallest_24 (Γ : GE) (l : Launch) (x1 : Int32) (x2 : Int32) (x3 : Int32) (x4 : Int32) (x5 : Int32) (σ : SS) (K : Option Value → SS → Prop) : Prop := G2 Γ l mX9_tallest 24 [(0, .ref 0), (1, .int x1), (2, .int x2), (3, .int x3), (4, .int x4), (5, .int x5)] [] σ K
set_option maxHeartbeats 4000000 in
set_option maxRecDepth 20000 in
theorem tX9_tallest {Γ : GE} {l : Launch} {x1 : Int32} {σ : SS} {K : Option Value → SS → Prop}  (hyp : wX9_tallest_9 Γ l x1 ((-2)) ((-2)) 0 σ K) : C2 Γ l mX9_tallest [.ref 0, .int x1] σ K := by
  refine c2_of (lv := [(0, .ref 0), (1, .int x1)]) (by decide) (Nat.le_of_ble_eq_true rfl) rfl ?_
  refine r_bipush (v := (-2)) (dcx dX9_tallest_c0 0 rfl) rfl ?_
  refine r_istore_n (lv1 := [(2, .int ((-2))), (0, .ref 0), (1, .int x1)]) (dcx dX9_tallest_c0 1 rfl) (Nat.le_of_ble_eq_true rfl) rfl ?_
  refine r_bipush (v := (-2)) (dcx dX9_tallest_c0 2 rfl) rfl ?_
  refine r_istore_n (lv1 := [(3, .int ((-2))), (2, .int ((-2))), (0, .ref 0), (1, .int x1)]) (dcx dX9_tallest_c0 3 rfl) (Nat.le_of_ble_eq_true rfl) rfl ?_
  refine r_iconst (v := 0) (dcx dX9_tallest_c0 4 rfl) rfl ?_
  refine r_istore (lv1 := [(4, .int 0), (3, .int ((-2))), (2, .int ((-2))), (0, .ref 0), (1, .int x1)]) (dcx dX9_tallest_c0 5 rfl) (Nat.le_of_ble_eq_true rfl) rfl ?_
  refine r_loc (lv1 := [(0, .ref 0), (1, .int x1), (2, .int ((-2))), (3, .int ((-2))), (4, .int 0)]) [3, 4, 2, 1, 0] rfl ?_
  exact hyp
set_option maxHeartbeats 4000000 in
set_option maxRecDepth 20000 in
theorem tX9_tallest_9 {Γ : GE} {l : Launch} {x1 : Int32} {x2 : Int32} {x3 : Int32} {x4 : Int32} {σ : SS} {K : Option Value → SS → Prop}  (hyp : ∃ b1_ : Nat, σ.2.2 0 8 = b1_ ∧ isP b1_ ∧ (((σ.1 b1_ 12) ≤ x4 → ((x1 = 0 → (K (some (.int x2)) σ)) ∧ (¬ (x1 = 0) → (K (some (.int x3)) σ)))) ∧ (¬ ((σ.1 b1_ 12) ≤ x4) → (wX9_tallest_24 Γ l x1 x2 x3 x4 0 σ K)))) : wX9_tallest_9 Γ l x1 x2 x3 x4 σ K := by
  show G2 Γ l mX9_tallest 9 [(0, .ref 0), (1, .int x1), (2, .int x2), (3, .int x3), (4, .int x4)] [] σ K
  refine r_iload (dcx dX9_tallest_c0 6 rfl) 4 rfl ?_
  refine r_aload_n (dcx dX9_tallest_c0 7 rfl) 0 rfl ?_
  obtain ⟨b1_, eb1_, hb1_, hyp⟩ := hyp
  refine s_getmE fX9_28 (dcx dX9_tallest_c0 8 rfl) F0_8 eb1_ (nzP hb1_) ?_
  refine s_geti fX9_185 (dcx dX9_tallest_c0 9 rfl) (FP_12 hb1_) ?_
  refine r_icmp_ge (tgt := 83) (dcx dX9_tallest_c0 10 rfl) (by decide) (fun q_ => ?_) (fun q_ => ?_)
  · have hyp := hyp.1 q_
    refine r_iload_n (dcx dX9_tallest_c1 1 rfl) 1 rfl ?_
    refine r_if_eq (tgt := 91) (dcx dX9_tallest_c1 2 rfl) (by decide) (fun q_ => ?_) (fun q_ => ?_)
    · have hyp := hyp.1 q_
      refine r_iload_n (dcx dX9_tallest_c1 5 rfl) 2 rfl ?_
      exact s_ret rfl rfl rfl hyp (dcx dX9_tallest_c1 6 rfl)
    · have hyp := hyp.2 q_
      refine r_iload_n (dcx dX9_tallest_c1 3 rfl) 3 rfl ?_
      refine r_goto (tgt := 92) (dcx dX9_tallest_c1 4 rfl) (by decide) ?_
      exact s_ret rfl rfl rfl hyp (dcx dX9_tallest_c1 6 rfl)
  · have hyp := hyp.2 q_
    refine r_iconst (v := 0) (dcx dX9_tallest_c0 11 rfl) rfl ?_
    refine r_istore (lv1 := [(5, .int 0), (0, .ref 0), (1, .int x1), (2, .int x2), (3, .int x3), (4, .int x4)]) (dcx dX9_tallest_c0 12 rfl) (Nat.le_of_ble_eq_true rfl) rfl ?_
    refine r_loc (lv1 := [(0, .ref 0), (1, .int x1), (2, .int x2), (3, .int x3), (4, .int x4), (5, .int 0)]) [1, 2, 3, 4, 5, 0] rfl ?_
    exact hyp
set_option maxHeartbeats 4000000 in
set_option maxRecDepth 20000 in
theorem tX9_tallest_24 {Γ : GE} {l : Launch} {x1 : Int32} {x2 : Int32} {x3 : Int32} {x4 : Int32} {x5 : Int32} {σ : SS} {K : Option Value → SS → Prop}  (hyp : ∃ b1_ : Nat, σ.2.2 0 8 = b1_ ∧ isP b1_ ∧ (((σ.1 b1_ 11) ≤ x5 → (wX9_tallest_9 Γ l x1 x2 x3 (x4 + 1) σ K)) ∧ (¬ ((σ.1 b1_ 11) ≤ x5) → (C2 Γ l mX9_indexOf [.int x5, .int x4] σ (Ri fun r3_ s2_ => (vp_in r3_ 80 ∧ (((s2_.1 (274 + 1) (Int32.toNatClampNeg r3_)) ≤ x2 → (wX9_tallest_24 Γ l x1 x2 x3 x4 (x5 + 1) s2_ K)) ∧ (¬ ((s2_.1 (274 + 1) (Int32.toNatClampNeg r3_)) ≤ x2) → (wX9_tallest_24 Γ l x1 (s2_.1 (274 + 1) (Int32.toNatClampNeg r3_)) ((10 * x4) + x5) x4 (x5 + 1) s2_ K))))))))) : wX9_tallest_24 Γ l x1 x2 x3 x4 x5 σ K := by
  show G2 Γ l mX9_tallest 24 [(0, .ref 0), (1, .int x1), (2, .int x2), (3, .int x3), (4, .int x4), (5, .int x5)] [] σ K
  refine r_iload (dcx dX9_tallest_c0 13 rfl) 5 rfl ?_
  refine r_aload_n (dcx dX9_tallest_c0 14 rfl) 0 rfl ?_
  obtain ⟨b1_, eb1_, hb1_, hyp⟩ := hyp
  refine s_getmE fX9_28 (dcx dX9_tallest_c0 15 rfl) F0_8 eb1_ (nzP hb1_) ?_
  refine s_geti fX9_188 (dcx dX9_tallest_c0 16 rfl) (FP_11 hb1_) ?_
  refine r_icmp_ge (tgt := 77) (dcx dX9_tallest_c0 17 rfl) (by decide) (fun q_ => ?_) (fun q_ => ?_)
  · have hyp := hyp.1 q_
    refine r_iinc (lv1 := [(4, .int (x4 + 1)), (0, .ref 0), (1, .int x1), (2, .int x2), (3, .int x3), (5, .int x5)]) (dcx dX9_tallest_c0 39 rfl) 4 rfl (Nat.le_of_ble_eq_true rfl) rfl ?_
    refine r_goto (tgt := 9) (dcx dX9_tallest_c1 0 rfl) (by decide) ?_
    refine r_loc (lv1 := [(0, .ref 0), (1, .int x1), (2, .int x2), (3, .int x3), (4, .int (x4 + 1))]) [1, 2, 3, 4, 0] rfl ?_
    exact hyp
  · have hyp := hyp.2 q_
    refine r_aload_n (dcx dX9_tallest_c0 18 rfl) 0 rfl ?_
    refine s_getr (b := 274) fX9_67 (dcx dX9_tallest_c0 19 rfl) F0_6 ?_
    refine s_getr (b := 274 + 1) fX9_121 (dcx dX9_tallest_c0 20 rfl) (FL_0 isL274) ?_
    refine r_iload (dcx dX9_tallest_c0 21 rfl) 5 rfl ?_
    refine r_iload (dcx dX9_tallest_c0 22 rfl) 4 rfl ?_
    refine s_callS (as := [.int x5, .int x4]) (st := [.ref (274 + 1)]) zX9_indexOf kX9_tallest_117 (dcx dX9_tallest_c0 23 rfl) rfl rfl (Nat.le_of_ble_eq_true rfl) (C2.mono hyp ?_)
    rintro _ s2_ ⟨r3_, rfl, hyp⟩
    show G2 Γ l mX9_tallest 50 [(0, .ref 0), (1, .int x1), (2, .int x2), (3, .int x3), (4, .int x4), (5, .int x5)] [.int r3_, .ref (274 + 1)] s2_ K
    obtain ⟨hb_, hyp⟩ := hyp
    refine s_iald (dcx dX9_tallest_c0 24 rfl) (AL_0 isL274) hb_ ?_
    refine r_istore (lv1 := [(6, .int (s2_.1 (274 + 1) (Int32.toNatClampNeg r3_))), (0, .ref 0), (1, .int x1), (2, .int x2), (3, .int x3), (4, .int x4), (5, .int x5)]) (dcx dX9_tallest_c0 25 rfl) (Nat.le_of_ble_eq_true rfl) rfl ?_
    refine r_iload (dcx dX9_tallest_c0 26 rfl) 0 rfl ?_
    refine r_iload_n (dcx dX9_tallest_c0 27 rfl) 3 rfl ?_
    refine r_icmp_le (tgt := 71) (dcx dX9_tallest_c0 28 rfl) (by decide) (fun q_ => ?_) (fun q_ => ?_)
    · have hyp := hyp.1 q_
      refine r_iinc (lv1 := [(5, .int (x5 + 1)), (6, .int (s2_.1 (274 + 1) (Int32.toNatClampNeg r3_))), (0, .ref 0), (1, .int x1), (2, .int x2), (3, .int x3), (4, .int x4)]) (dcx dX9_tallest_c0 37 rfl) 6 rfl (Nat.le_of_ble_eq_true rfl) rfl ?_
      refine r_goto (tgt := 24) (dcx dX9_tallest_c0 38 rfl) (by decide) ?_
      refine r_loc (lv1 := [(0, .ref 0), (1, .int x1), (2, .int x2), (3, .int x3), (4, .int x4), (5, .int (x5 + 1))]) [2, 3, 4, 5, 6, 0] rfl ?_
      exact hyp
    · have hyp := hyp.2 q_
      refine r_iload (dcx dX9_tallest_c0 29 rfl) 0 rfl ?_
      refine r_istore_n (lv1 := [(2, .int (s2_.1 (274 + 1) (Int32.toNatClampNeg r3_))), (6, .int (s2_.1 (274 + 1) (Int32.toNatClampNeg r3_))), (0, .ref 0), (1, .int x1), (3, .int x3), (4, .int x4), (5, .int x5)]) (dcx dX9_tallest_c0 30 rfl) (Nat.le_of_ble_eq_true rfl) rfl ?_
      refine r_bipush (v := 10) (dcx dX9_tallest_c0 31 rfl) rfl ?_
      refine r_iload (dcx dX9_tallest_c0 32 rfl) 5 rfl ?_
      refine r_imul (dcx dX9_tallest_c0 33 rfl) ?_
      refine r_iload (dcx dX9_tallest_c0 34 rfl) 6 rfl ?_
      refine r_iadd (dcx dX9_tallest_c0 35 rfl) ?_
      refine r_istore_n (lv1 := [(3, .int ((10 * x4) + x5)), (2, .int (s2_.1 (274 + 1) (Int32.toNatClampNeg r3_))), (6, .int (s2_.1 (274 + 1) (Int32.toNatClampNeg r3_))), (0, .ref 0), (1, .int x1), (4, .int x4), (5, .int x5)]) (dcx dX9_tallest_c0 36 rfl) (Nat.le_of_ble_eq_true rfl) rfl ?_
      refine r_iinc (lv1 := [(5, .int (x5 + 1)), (3, .int ((10 * x4) + x5)), (2, .int (s2_.1 (274 + 1) (Int32.toNatClampNeg r3_))), (6, .int (s2_.1 (274 + 1) (Int32.toNatClampNeg r3_))), (0, .ref 0), (1, .int x1), (4, .int x4)]) (dcx dX9_tallest_c0 37 rfl) 6 rfl (Nat.le_of_ble_eq_true rfl) rfl ?_
      refine r_goto (tgt := 24) (dcx dX9_tallest_c0 38 rfl) (by decide) ?_
      refine r_loc (lv1 := [(0, .ref 0), (1, .int x1), (2, .int (s2_.1 (274 + 1) (Int32.toNatClampNeg r3_))), (3, .int ((10 * x4) + x5)), (4, .int x4), (5, .int (x5 + 1))]) [4, 5, 2, 1, 6, 0] rfl ?_
      exact hyp
def wX9_allHeights_4 (Γ : GE) (l : Launch) (x1 : Int32) (x2 : Int32) (σ : SS) (K : Option Value → SS → Prop) : Prop := G2 Γ l mX9_allHeights 4 [(0, .ref 0), (1, .int x1), (2, .int x2)] [] σ K
set_option maxHeartbeats 4000000 in
set_option maxRecDepth 20000 in
theorem tX9_allHeights {Γ : GE} {l : Launch}  {σ : SS} {K : Option Value → SS → Prop}  (hyp : wX9_allHeights_4 Γ l 0 0 σ K) : C2 Γ l mX9_allHeights [.ref 0] σ K := by
  refine c2_of (lv := [(0, .ref 0)]) (by decide) (Nat.le_of_ble_eq_true rfl) rfl ?_
  refine r_iconst (v := 0) (dcx dX9_allHeights_c0 0 rfl) rfl ?_
  refine r_istore_n (lv1 := [(1, .int 0), (0, .ref 0)]) (dcx dX9_allHeights_c0 1 rfl) (Nat.le_of_ble_eq_true rfl) rfl ?_
  refine r_iconst (v := 0) (dcx dX9_allHeights_c0 2 rfl) rfl ?_
  refine r_istore_n (lv1 := [(2, .int 0), (1, .int 0), (0, .ref 0)]) (dcx dX9_allHeights_c0 3 rfl) (Nat.le_of_ble_eq_true rfl) rfl ?_
  refine r_loc (lv1 := [(0, .ref 0), (1, .int 0), (2, .int 0)]) [2, 1, 0] rfl ?_
  exact hyp
set_option maxHeartbeats 4000000 in
set_option maxRecDepth 20000 in
theorem tX9_allHeights_4 {Γ : GE} {l : Launch} {x1 : Int32} {x2 : Int32} {σ : SS} {K : Option Value → SS → Prop}  (hyp : ((80 : Int32) ≤ x2 → (K (some (.int x1)) σ)) ∧ (¬ ((80 : Int32) ≤ x2) → (vp_in x2 80 ∧ (wX9_allHeights_4 Γ l (x1 + (σ.1 (274 + 1) (Int32.toNatClampNeg x2))) (x2 + 1) σ K)))) : wX9_allHeights_4 Γ l x1 x2 σ K := by
  show G2 Γ l mX9_allHeights 4 [(0, .ref 0), (1, .int x1), (2, .int x2)] [] σ K
  refine r_iload_n (dcx dX9_allHeights_c0 4 rfl) 2 rfl ?_
  refine r_bipush (v := 80) (dcx dX9_allHeights_c0 5 rfl) rfl ?_
  refine r_icmp_ge (tgt := 28) (dcx dX9_allHeights_c0 6 rfl) (by decide) (fun q_ => ?_) (fun q_ => ?_)
  · have hyp := hyp.1 q_
    refine r_iload_n (dcx dX9_allHeights_c0 17 rfl) 1 rfl ?_
    exact s_ret rfl rfl rfl hyp (dcx dX9_allHeights_c0 18 rfl)
  · have hyp := hyp.2 q_
    refine r_iload_n (dcx dX9_allHeights_c0 7 rfl) 1 rfl ?_
    refine r_aload_n (dcx dX9_allHeights_c0 8 rfl) 0 rfl ?_
    refine s_getr (b := 274) fX9_67 (dcx dX9_allHeights_c0 9 rfl) F0_6 ?_
    refine s_getr (b := 274 + 1) fX9_121 (dcx dX9_allHeights_c0 10 rfl) (FL_0 isL274) ?_
    refine r_iload_n (dcx dX9_allHeights_c0 11 rfl) 2 rfl ?_
    obtain ⟨hb_, hyp⟩ := hyp
    refine s_iald (dcx dX9_allHeights_c0 12 rfl) (AL_0 isL274) hb_ ?_
    refine r_iadd (dcx dX9_allHeights_c0 13 rfl) ?_
    refine r_istore_n (lv1 := [(1, .int (x1 + (σ.1 (274 + 1) (Int32.toNatClampNeg x2)))), (0, .ref 0), (2, .int x2)]) (dcx dX9_allHeights_c0 14 rfl) (Nat.le_of_ble_eq_true rfl) rfl ?_
    refine r_iinc (lv1 := [(2, .int (x2 + 1)), (1, .int (x1 + (σ.1 (274 + 1) (Int32.toNatClampNeg x2)))), (0, .ref 0)]) (dcx dX9_allHeights_c0 15 rfl) 2 rfl (Nat.le_of_ble_eq_true rfl) rfl ?_
    refine r_goto (tgt := 4) (dcx dX9_allHeights_c0 16 rfl) (by decide) ?_
    refine r_loc (lv1 := [(0, .ref 0), (1, .int (x1 + (σ.1 (274 + 1) (Int32.toNatClampNeg x2)))), (2, .int (x2 + 1))]) [2, 1, 0] rfl ?_
    exact hyp
def wX9_soHigh_4 (Γ : GE) (l : Launch) (x1 : Int32) (x2 : Int32) (x3 : Int32) (σ : SS) (K : Option Value → SS → Prop) : Prop := G2 Γ l mX9_soHigh 4 [(0, .ref 0), (1, .int x1), (2, .int x2), (3, .int x3)] [] σ K
set_option maxHeartbeats 4000000 in
set_option maxRecDepth 20000 in
theorem tX9_soHigh {Γ : GE} {l : Launch} {x1 : Int32} {σ : SS} {K : Option Value → SS → Prop}  (hyp : wX9_soHigh_4 Γ l x1 0 0 σ K) : C2 Γ l mX9_soHigh [.ref 0, .int x1] σ K := by
  refine c2_of (lv := [(0, .ref 0), (1, .int x1)]) (by decide) (Nat.le_of_ble_eq_true rfl) rfl ?_
  refine r_iconst (v := 0) (dcx dX9_soHigh_c0 0 rfl) rfl ?_
  refine r_istore_n (lv1 := [(2, .int 0), (0, .ref 0), (1, .int x1)]) (dcx dX9_soHigh_c0 1 rfl) (Nat.le_of_ble_eq_true rfl) rfl ?_
  refine r_iconst (v := 0) (dcx dX9_soHigh_c0 2 rfl) rfl ?_
  refine r_istore_n (lv1 := [(3, .int 0), (2, .int 0), (0, .ref 0), (1, .int x1)]) (dcx dX9_soHigh_c0 3 rfl) (Nat.le_of_ble_eq_true rfl) rfl ?_
  refine r_loc (lv1 := [(0, .ref 0), (1, .int x1), (2, .int 0), (3, .int 0)]) [2, 3, 1, 0] rfl ?_
  exact hyp
set_option maxHeartbeats 4000000 in
set_option maxRecDepth 20000 in
theorem tX9_soHigh_4 {Γ : GE} {l : Launch} {x1 : Int32} {x2 : Int32} {x3 : Int32} {σ : SS} {K : Option Value → SS → Prop}  (hyp : ((80 : Int32) ≤ x3 → (K (some (.int x2)) σ)) ∧ (¬ ((80 : Int32) ≤ x3) → (∃ b1_ : Nat, σ.2.2 0 8 = b1_ ∧ isP b1_ ∧ (vp_in x3 80 ∧ (((σ.1 (b1_ + 1) (Int32.toNatClampNeg x3)) < 0 → (wX9_soHigh_4 Γ l x1 x2 (x3 + 1) σ K)) ∧ (¬ ((σ.1 (b1_ + 1) (Int32.toNatClampNeg x3)) < 0) → (vp_in x3 80 ∧ (((σ.1 (274 + 1) (Int32.toNatClampNeg x3)) < x1 → (wX9_soHigh_4 Γ l x1 x2 (x3 + 1) σ K)) ∧ (¬ ((σ.1 (274 + 1) (Int32.toNatClampNeg x3)) < x1) → (wX9_soHigh_4 Γ l x1 (x2 + 1) (x3 + 1) σ K)))))))))) : wX9_soHigh_4 Γ l x1 x2 x3 σ K := by
  show G2 Γ l mX9_soHigh 4 [(0, .ref 0), (1, .int x1), (2, .int x2), (3, .int x3)] [] σ K
  refine r_iload_n (dcx dX9_soHigh_c0 4 rfl) 3 rfl ?_
  refine r_bipush (v := 80) (dcx dX9_soHigh_c0 5 rfl) rfl ?_
  refine r_icmp_ge (tgt := 44) (dcx dX9_soHigh_c0 6 rfl) (by decide) (fun q_ => ?_) (fun q_ => ?_)
  · have hyp := hyp.1 q_
    refine r_iload_n (dcx dX9_soHigh_c0 23 rfl) 2 rfl ?_
    exact s_ret rfl rfl rfl hyp (dcx dX9_soHigh_c0 24 rfl)
  · have hyp := hyp.2 q_
    refine r_aload_n (dcx dX9_soHigh_c0 7 rfl) 0 rfl ?_
    obtain ⟨b1_, eb1_, hb1_, hyp⟩ := hyp
    refine s_getmE fX9_28 (dcx dX9_soHigh_c0 8 rfl) F0_8 eb1_ (nzP hb1_) ?_
    refine s_getr (b := b1_ + 1) fX9_125 (dcx dX9_soHigh_c0 9 rfl) (FP_0 hb1_) ?_
    refine r_iload_n (dcx dX9_soHigh_c0 10 rfl) 3 rfl ?_
    obtain ⟨hb_, hyp⟩ := hyp
    refine s_iald (dcx dX9_soHigh_c0 11 rfl) (AP_0 hb1_) hb_ ?_
    refine r_if_lt (tgt := 38) (dcx dX9_soHigh_c0 12 rfl) (by decide) (fun q_ => ?_) (fun q_ => ?_)
    · have hyp := hyp.1 q_
      refine r_iinc (lv1 := [(3, .int (x3 + 1)), (0, .ref 0), (1, .int x1), (2, .int x2)]) (dcx dX9_soHigh_c0 21 rfl) 3 rfl (Nat.le_of_ble_eq_true rfl) rfl ?_
      refine r_goto (tgt := 4) (dcx dX9_soHigh_c0 22 rfl) (by decide) ?_
      refine r_loc (lv1 := [(0, .ref 0), (1, .int x1), (2, .int x2), (3, .int (x3 + 1))]) [1, 2, 3, 0] rfl ?_
      exact hyp
    · have hyp := hyp.2 q_
      refine r_aload_n (dcx dX9_soHigh_c0 13 rfl) 0 rfl ?_
      refine s_getr (b := 274) fX9_67 (dcx dX9_soHigh_c0 14 rfl) F0_6 ?_
      refine s_getr (b := 274 + 1) fX9_121 (dcx dX9_soHigh_c0 15 rfl) (FL_0 isL274) ?_
      refine r_iload_n (dcx dX9_soHigh_c0 16 rfl) 3 rfl ?_
      obtain ⟨hb_, hyp⟩ := hyp
      refine s_iald (dcx dX9_soHigh_c0 17 rfl) (AL_0 isL274) hb_ ?_
      refine r_iload_n (dcx dX9_soHigh_c0 18 rfl) 1 rfl ?_
      refine r_icmp_lt (tgt := 38) (dcx dX9_soHigh_c0 19 rfl) (by decide) (fun q_ => ?_) (fun q_ => ?_)
      · have hyp := hyp.1 q_
        refine r_iinc (lv1 := [(3, .int (x3 + 1)), (0, .ref 0), (1, .int x1), (2, .int x2)]) (dcx dX9_soHigh_c0 21 rfl) 3 rfl (Nat.le_of_ble_eq_true rfl) rfl ?_
        refine r_goto (tgt := 4) (dcx dX9_soHigh_c0 22 rfl) (by decide) ?_
        refine r_loc (lv1 := [(0, .ref 0), (1, .int x1), (2, .int x2), (3, .int (x3 + 1))]) [1, 2, 3, 0] rfl ?_
        exact hyp
      · have hyp := hyp.2 q_
        refine r_iinc (lv1 := [(2, .int (x2 + 1)), (0, .ref 0), (1, .int x1), (3, .int x3)]) (dcx dX9_soHigh_c0 20 rfl) 2 rfl (Nat.le_of_ble_eq_true rfl) rfl ?_
        refine r_iinc (lv1 := [(3, .int (x3 + 1)), (2, .int (x2 + 1)), (0, .ref 0), (1, .int x1)]) (dcx dX9_soHigh_c0 21 rfl) 3 rfl (Nat.le_of_ble_eq_true rfl) rfl ?_
        refine r_goto (tgt := 4) (dcx dX9_soHigh_c0 22 rfl) (by decide) ?_
        refine r_loc (lv1 := [(0, .ref 0), (1, .int x1), (2, .int (x2 + 1)), (3, .int (x3 + 1))]) [2, 3, 1, 0] rfl ?_
        exact hyp
def wX9_year_50 (Γ : GE) (l : Launch) (x1 : Int32) (x2 : Int32) (x3 : Int32) (x4 : Int32) (x5 : Int32) (x6 : Int32) (σ : SS) (K : Option Value → SS → Prop) : Prop := G2 Γ l mX9_year 50 [(0, .ref 0), (1, .int x1), (2, .int x2), (3, .int x3), (4, .int x4), (5, .int x5), (6, .int x6)] [] σ K
set_option maxHeartbeats 4000000 in
set_option maxRecDepth 20000 in
theorem tX9_year {Γ : GE} {l : Launch} {x1 : Int32} {x2 : Int32} {x3 : Int32} {x4 : Int32} {σ : SS} {K : Option Value → SS → Prop}  (hyp : ∃ b1_ : Nat, σ.2.2 0 8 = b1_ ∧ isP b1_ ∧ (C2 Γ l mX6_hasWindow [.ref b1_, .int x1] σ (Ri fun r3_ s2_ => ((r3_ = 0 → (K (some (.int ((-1)))) s2_)) ∧ (¬ (r3_ = 0) → (∃ b4_ : Nat, s2_.2.2 0 8 = b4_ ∧ isP b4_ ∧ (C2 Γ l mX6_hasSign [.ref b4_, .int x2] s2_ (Ri fun r6_ s5_ => ((r6_ = 0 → (K (some (.int ((-1)))) s5_)) ∧ (¬ (r6_ = 0) → (C2 Γ l mX9_isWait [.int x3] s5_ (Ri fun r8_ s7_ => ((r8_ = 0 → (K (some (.int ((-1)))) s7_)) ∧ (¬ (r8_ = 0) → ((x4 < 1 → (K (some (.int ((-1)))) s7_)) ∧ (¬ (x4 < 1) → ((x4 ≤ 20 → (wX9_year_50 Γ l x1 x2 x3 x4 0 0 s7_ K)) ∧ (¬ (x4 ≤ 20) → (K (some (.int ((-1)))) s7_))))))))))))))))))) : C2 Γ l mX9_year [.ref 0, .int x1, .int x2, .int x3, .int x4] σ K := by
  refine c2_of (lv := [(0, .ref 0), (1, .int x1), (2, .int x2), (3, .int x3), (4, .int x4)]) (by decide) (Nat.le_of_ble_eq_true rfl) rfl ?_
  refine r_aload_n (dcx dX9_year_c0 0 rfl) 0 rfl ?_
  obtain ⟨b1_, eb1_, hb1_, hyp⟩ := hyp
  refine s_getmE fX9_28 (dcx dX9_year_c0 1 rfl) F0_8 eb1_ (nzP hb1_) ?_
  refine r_iload_n (dcx dX9_year_c0 2 rfl) 1 rfl ?_
  refine s_callV (as := [.int x1]) (st := []) zX6_hasWindow kX9_year_163 (dcx dX9_year_c0 3 rfl) rfl rfl (Nat.le_of_ble_eq_true rfl) (OP hb1_) rfl rfl (C2.mono hyp ?_)
  rintro _ s2_ ⟨r3_, rfl, hyp⟩
  show G2 Γ l mX9_year 8 [(0, .ref 0), (1, .int x1), (2, .int x2), (3, .int x3), (4, .int x4)] [.int r3_] s2_ K
  refine r_if_eq (tgt := 42) (dcx dX9_year_c0 4 rfl) (by decide) (fun q_ => ?_) (fun q_ => ?_)
  · have hyp := hyp.1 q_
    refine r_iconst (v := (-1)) (dcx dX9_year_c0 19 rfl) rfl ?_
    exact s_ret rfl rfl rfl hyp (dcx dX9_year_c0 20 rfl)
  · have hyp := hyp.2 q_
    refine r_aload_n (dcx dX9_year_c0 5 rfl) 0 rfl ?_
    obtain ⟨b4_, eb4_, hb4_, hyp⟩ := hyp
    refine s_getmE fX9_28 (dcx dX9_year_c0 6 rfl) F0_8 eb4_ (nzP hb4_) ?_
    refine r_iload_n (dcx dX9_year_c0 7 rfl) 2 rfl ?_
    refine s_callV (as := [.int x2]) (st := []) zX6_hasSign kX9_year_138 (dcx dX9_year_c0 8 rfl) rfl rfl (Nat.le_of_ble_eq_true rfl) (OP hb4_) rfl rfl (C2.mono hyp ?_)
    rintro _ s5_ ⟨r6_, rfl, hyp⟩
    show G2 Γ l mX9_year 19 [(0, .ref 0), (1, .int x1), (2, .int x2), (3, .int x3), (4, .int x4)] [.int r6_] s5_ K
    refine r_if_eq (tgt := 42) (dcx dX9_year_c0 9 rfl) (by decide) (fun q_ => ?_) (fun q_ => ?_)
    · have hyp := hyp.1 q_
      refine r_iconst (v := (-1)) (dcx dX9_year_c0 19 rfl) rfl ?_
      exact s_ret rfl rfl rfl hyp (dcx dX9_year_c0 20 rfl)
    · have hyp := hyp.2 q_
      refine r_iload_n (dcx dX9_year_c0 10 rfl) 3 rfl ?_
      refine s_callS (as := [.int x3]) (st := []) zX9_isWait kX9_year_220 (dcx dX9_year_c0 11 rfl) rfl rfl (Nat.le_of_ble_eq_true rfl) (C2.mono hyp ?_)
      rintro _ s7_ ⟨r8_, rfl, hyp⟩
      show G2 Γ l mX9_year 26 [(0, .ref 0), (1, .int x1), (2, .int x2), (3, .int x3), (4, .int x4)] [.int r8_] s7_ K
      refine r_if_eq (tgt := 42) (dcx dX9_year_c0 12 rfl) (by decide) (fun q_ => ?_) (fun q_ => ?_)
      · have hyp := hyp.1 q_
        refine r_iconst (v := (-1)) (dcx dX9_year_c0 19 rfl) rfl ?_
        exact s_ret rfl rfl rfl hyp (dcx dX9_year_c0 20 rfl)
      · have hyp := hyp.2 q_
        refine r_iload (dcx dX9_year_c0 13 rfl) 4 rfl ?_
        refine r_iconst (v := 1) (dcx dX9_year_c0 14 rfl) rfl ?_
        refine r_icmp_lt (tgt := 42) (dcx dX9_year_c0 15 rfl) (by decide) (fun q_ => ?_) (fun q_ => ?_)
        · have hyp := hyp.1 q_
          refine r_iconst (v := (-1)) (dcx dX9_year_c0 19 rfl) rfl ?_
          exact s_ret rfl rfl rfl hyp (dcx dX9_year_c0 20 rfl)
        · have hyp := hyp.2 q_
          refine r_iload (dcx dX9_year_c0 16 rfl) 4 rfl ?_
          refine r_bipush (v := 20) (dcx dX9_year_c0 17 rfl) rfl ?_
          refine r_icmp_le (tgt := 44) (dcx dX9_year_c0 18 rfl) (by decide) (fun q_ => ?_) (fun q_ => ?_)
          · have hyp := hyp.1 q_
            refine r_iconst (v := 0) (dcx dX9_year_c0 21 rfl) rfl ?_
            refine r_istore (lv1 := [(5, .int 0), (0, .ref 0), (1, .int x1), (2, .int x2), (3, .int x3), (4, .int x4)]) (dcx dX9_year_c0 22 rfl) (Nat.le_of_ble_eq_true rfl) rfl ?_
            refine r_iconst (v := 0) (dcx dX9_year_c0 23 rfl) rfl ?_
            refine r_istore (lv1 := [(6, .int 0), (5, .int 0), (0, .ref 0), (1, .int x1), (2, .int x2), (3, .int x3), (4, .int x4)]) (dcx dX9_year_c0 24 rfl) (Nat.le_of_ble_eq_true rfl) rfl ?_
            refine r_loc (lv1 := [(0, .ref 0), (1, .int x1), (2, .int x2), (3, .int x3), (4, .int x4), (5, .int 0), (6, .int 0)]) [2, 3, 4, 5, 6, 1, 0] rfl ?_
            exact hyp
          · have hyp := hyp.2 q_
            refine r_iconst (v := (-1)) (dcx dX9_year_c0 19 rfl) rfl ?_
            exact s_ret rfl rfl rfl hyp (dcx dX9_year_c0 20 rfl)
set_option maxHeartbeats 4000000 in
set_option maxRecDepth 20000 in
theorem tX9_year_50 {Γ : GE} {l : Launch} {x1 : Int32} {x2 : Int32} {x3 : Int32} {x4 : Int32} {x5 : Int32} {x6 : Int32} {σ : SS} {K : Option Value → SS → Prop}  (hyp : (x4 ≤ x6 → (K (some (.int x5)) σ)) ∧ (¬ (x4 ≤ x6) → (C2 Γ l mX4_become [.ref 274, .ref 269] σ (Rv fun s1_ => (∃ b3_ : Nat, s1_.2.2 0 8 = b3_ ∧ isP b3_ ∧ (C2 Γ l mX1_growWeeks [.ref 46, .ref 274, .int x3, .int ((s1_.1 b3_ 19) + x6)] s1_ (Rv fun s4_ => (C2 Γ l mX1_readsAnywhere [.ref 46, .ref 274, .int x1, .int x2] s4_ (Ri fun r7_ s6_ => ((r7_ = 0 → (wX9_year_50 Γ l x1 x2 x3 x4 x5 (x6 + 1) s6_ K)) ∧ (¬ (r7_ = 0) → (wX9_year_50 Γ l x1 x2 x3 x4 (x5 + 1) (x6 + 1) s6_ K)))))))))))) : wX9_year_50 Γ l x1 x2 x3 x4 x5 x6 σ K := by
  show G2 Γ l mX9_year 50 [(0, .ref 0), (1, .int x1), (2, .int x2), (3, .int x3), (4, .int x4), (5, .int x5), (6, .int x6)] [] σ K
  refine r_iload (dcx dX9_year_c0 25 rfl) 6 rfl ?_
  refine r_iload (dcx dX9_year_c0 26 rfl) 4 rfl ?_
  refine r_icmp_ge (tgt := 115) (dcx dX9_year_c0 27 rfl) (by decide) (fun q_ => ?_) (fun q_ => ?_)
  · have hyp := hyp.1 q_
    refine r_iload (dcx dX9_year_c1 15 rfl) 5 rfl ?_
    exact s_ret rfl rfl rfl hyp (dcx dX9_year_c1 16 rfl)
  · have hyp := hyp.2 q_
    refine r_aload_n (dcx dX9_year_c0 28 rfl) 0 rfl ?_
    refine s_getr (b := 274) fX9_67 (dcx dX9_year_c0 29 rfl) F0_6 ?_
    refine r_aload_n (dcx dX9_year_c0 30 rfl) 0 rfl ?_
    refine s_getr (b := 269) fX9_63 (dcx dX9_year_c0 31 rfl) F0_5 ?_
    refine s_callV (as := [.ref 269]) (st := []) zX4_become kX9_year_233 (dcx dX9_year_c0 32 rfl) rfl rfl (Nat.le_of_ble_eq_true rfl) (OL isL274) rfl rfl (C2.mono hyp ?_)
    rintro _ s1_ ⟨rfl, hyp⟩
    show G2 Γ l mX9_year 68 [(0, .ref 0), (1, .int x1), (2, .int x2), (3, .int x3), (4, .int x4), (5, .int x5), (6, .int x6)] [] s1_ K
    refine r_aload_n (dcx dX9_year_c0 33 rfl) 0 rfl ?_
    refine s_getr (b := 46) fX9_40 (dcx dX9_year_c0 34 rfl) F0_2 ?_
    refine r_aload_n (dcx dX9_year_c0 35 rfl) 0 rfl ?_
    refine s_getr (b := 274) fX9_67 (dcx dX9_year_c0 36 rfl) F0_6 ?_
    refine r_iload_n (dcx dX9_year_c0 37 rfl) 3 rfl ?_
    refine r_aload_n (dcx dX9_year_c0 38 rfl) 0 rfl ?_
    obtain ⟨b3_, eb3_, hb3_, hyp⟩ := hyp
    refine s_getmE fX9_28 (dcx dX9_year_c0 39 rfl) F0_8 eb3_ (nzP hb3_) ?_
    refine s_geti fX9_244 (dcx dX9_year_c1 0 rfl) (FP_19 hb3_) ?_
    refine r_iload (dcx dX9_year_c1 1 rfl) 6 rfl ?_
    refine r_iadd (dcx dX9_year_c1 2 rfl) ?_
    refine s_callV (as := [.ref 274, .int x3, .int ((s1_.1 b3_ 19) + x6)]) (st := []) zX1_growWeeks kX9_year_255 (dcx dX9_year_c1 3 rfl) rfl rfl (Nat.le_of_ble_eq_true rfl) O46 rfl rfl (C2.mono hyp ?_)
    rintro _ s4_ ⟨rfl, hyp⟩
    show G2 Γ l mX9_year 90 [(0, .ref 0), (1, .int x1), (2, .int x2), (3, .int x3), (4, .int x4), (5, .int x5), (6, .int x6)] [] s4_ K
    refine r_aload_n (dcx dX9_year_c1 4 rfl) 0 rfl ?_
    refine s_getr (b := 46) fX9_40 (dcx dX9_year_c1 5 rfl) F0_2 ?_
    refine r_aload_n (dcx dX9_year_c1 6 rfl) 0 rfl ?_
    refine s_getr (b := 274) fX9_67 (dcx dX9_year_c1 7 rfl) F0_6 ?_
    refine r_iload_n (dcx dX9_year_c1 8 rfl) 1 rfl ?_
    refine r_iload_n (dcx dX9_year_c1 9 rfl) 2 rfl ?_
    refine s_callV (as := [.ref 274, .int x1, .int x2]) (st := []) zX1_readsAnywhere kX9_year_294 (dcx dX9_year_c1 10 rfl) rfl rfl (Nat.le_of_ble_eq_true rfl) O46 rfl rfl (C2.mono hyp ?_)
    rintro _ s6_ ⟨r7_, rfl, hyp⟩
    show G2 Γ l mX9_year 103 [(0, .ref 0), (1, .int x1), (2, .int x2), (3, .int x3), (4, .int x4), (5, .int x5), (6, .int x6)] [.int r7_] s6_ K
    refine r_if_eq (tgt := 109) (dcx dX9_year_c1 11 rfl) (by decide) (fun q_ => ?_) (fun q_ => ?_)
    · have hyp := hyp.1 q_
      refine r_iinc (lv1 := [(6, .int (x6 + 1)), (0, .ref 0), (1, .int x1), (2, .int x2), (3, .int x3), (4, .int x4), (5, .int x5)]) (dcx dX9_year_c1 13 rfl) 6 rfl (Nat.le_of_ble_eq_true rfl) rfl ?_
      refine r_goto (tgt := 50) (dcx dX9_year_c1 14 rfl) (by decide) ?_
      refine r_loc (lv1 := [(0, .ref 0), (1, .int x1), (2, .int x2), (3, .int x3), (4, .int x4), (5, .int x5), (6, .int (x6 + 1))]) [1, 2, 3, 4, 5, 6, 0] rfl ?_
      exact hyp
    · have hyp := hyp.2 q_
      refine r_iinc (lv1 := [(5, .int (x5 + 1)), (0, .ref 0), (1, .int x1), (2, .int x2), (3, .int x3), (4, .int x4), (6, .int x6)]) (dcx dX9_year_c1 12 rfl) 5 rfl (Nat.le_of_ble_eq_true rfl) rfl ?_
      refine r_iinc (lv1 := [(6, .int (x6 + 1)), (5, .int (x5 + 1)), (0, .ref 0), (1, .int x1), (2, .int x2), (3, .int x3), (4, .int x4)]) (dcx dX9_year_c1 13 rfl) 6 rfl (Nat.le_of_ble_eq_true rfl) rfl ?_
      refine r_goto (tgt := 50) (dcx dX9_year_c1 14 rfl) (by decide) ?_
      refine r_loc (lv1 := [(0, .ref 0), (1, .int x1), (2, .int x2), (3, .int x3), (4, .int x4), (5, .int (x5 + 1)), (6, .int (x6 + 1))]) [2, 3, 4, 5, 6, 1, 0] rfl ?_
      exact hyp
set_option maxHeartbeats 4000000 in
set_option maxRecDepth 20000 in
theorem tX9_tell {Γ : GE} {l : Launch} {x1 : Int32} {x2 : Int32} {x3 : Int32} {σ : SS} {K : Option Value → SS → Prop}  (hyp : ∃ b1_ : Nat, σ.2.2 0 8 = b1_ ∧ isP b1_ ∧ (C2 Γ l mX6_hasCell [.ref b1_, .int x1, .int x2] σ (Ri fun r3_ s2_ => ((r3_ = 0 → (K (some (.int ((-1)))) s2_)) ∧ (¬ (r3_ = 0) → (C2 Γ l mX9_isHeight [.int x3] s2_ (Ri fun r5_ s4_ => ((r5_ = 0 → (K (some (.int ((-1)))) s4_)) ∧ (¬ (r5_ = 0) → (C2 Γ l mX0_add [.ref 219, .int x1, .int x2, .int x3] s4_ (Ri fun r7_ s6_ => (K (some (.int r7_)) s6_)))))))))))) : C2 Γ l mX9_tell [.ref 0, .int x1, .int x2, .int x3] σ K := by
  refine c2_of (lv := [(0, .ref 0), (1, .int x1), (2, .int x2), (3, .int x3)]) (by decide) (Nat.le_of_ble_eq_true rfl) rfl ?_
  refine r_aload_n (dcx dX9_tell_c0 0 rfl) 0 rfl ?_
  obtain ⟨b1_, eb1_, hb1_, hyp⟩ := hyp
  refine s_getmE fX9_28 (dcx dX9_tell_c0 1 rfl) F0_8 eb1_ (nzP hb1_) ?_
  refine r_iload_n (dcx dX9_tell_c0 2 rfl) 1 rfl ?_
  refine r_iload_n (dcx dX9_tell_c0 3 rfl) 2 rfl ?_
  refine s_callV (as := [.int x1, .int x2]) (st := []) zX6_hasCell kX9_tell_113 (dcx dX9_tell_c0 4 rfl) rfl rfl (Nat.le_of_ble_eq_true rfl) (OP hb1_) rfl rfl (C2.mono hyp ?_)
  rintro _ s2_ ⟨r3_, rfl, hyp⟩
  show G2 Γ l mX9_tell 9 [(0, .ref 0), (1, .int x1), (2, .int x2), (3, .int x3)] [.int r3_] s2_ K
  refine r_if_eq (tgt := 32) (dcx dX9_tell_c0 5 rfl) (by decide) (fun q_ => ?_) (fun q_ => ?_)
  · have hyp := hyp.1 q_
    refine r_iconst (v := (-1)) (dcx dX9_tell_c0 16 rfl) rfl ?_
    exact s_ret rfl rfl rfl hyp (dcx dX9_tell_c0 17 rfl)
  · have hyp := hyp.2 q_
    refine r_iload_n (dcx dX9_tell_c0 6 rfl) 3 rfl ?_
    refine s_callS (as := [.int x3]) (st := []) zX9_isHeight kX9_tell_213 (dcx dX9_tell_c0 7 rfl) rfl rfl (Nat.le_of_ble_eq_true rfl) (C2.mono hyp ?_)
    rintro _ s4_ ⟨r5_, rfl, hyp⟩
    show G2 Γ l mX9_tell 16 [(0, .ref 0), (1, .int x1), (2, .int x2), (3, .int x3)] [.int r5_] s4_ K
    refine r_if_eq (tgt := 32) (dcx dX9_tell_c0 8 rfl) (by decide) (fun q_ => ?_) (fun q_ => ?_)
    · have hyp := hyp.1 q_
      refine r_iconst (v := (-1)) (dcx dX9_tell_c0 16 rfl) rfl ?_
      exact s_ret rfl rfl rfl hyp (dcx dX9_tell_c0 17 rfl)
    · have hyp := hyp.2 q_
      refine r_aload_n (dcx dX9_tell_c0 9 rfl) 0 rfl ?_
      refine s_getr (b := 219) fX9_56 (dcx dX9_tell_c0 10 rfl) F0_4 ?_
      refine r_iload_n (dcx dX9_tell_c0 11 rfl) 1 rfl ?_
      refine r_iload_n (dcx dX9_tell_c0 12 rfl) 2 rfl ?_
      refine r_iload_n (dcx dX9_tell_c0 13 rfl) 3 rfl ?_
      refine s_callV (as := [.int x1, .int x2, .int x3]) (st := []) zX0_add kX9_tell_298 (dcx dX9_tell_c0 14 rfl) rfl rfl (Nat.le_of_ble_eq_true rfl) O219 rfl rfl (C2.mono hyp ?_)
      rintro _ s6_ ⟨r7_, rfl, hyp⟩
      show G2 Γ l mX9_tell 29 [(0, .ref 0), (1, .int x1), (2, .int x2), (3, .int x3)] [.int r7_] s6_ K
      refine r_goto (tgt := 33) (dcx dX9_tell_c0 15 rfl) (by decide) ?_
      exact s_ret rfl rfl rfl hyp (dcx dX9_tell_c0 17 rfl)
set_option maxHeartbeats 4000000 in
set_option maxRecDepth 20000 in
theorem tX9_forget {Γ : GE} {l : Launch}  {σ : SS} {K : Option Value → SS → Prop}  (hyp : ∀ s1_ : SS, s1_ = sI σ 219 4 0 → (K (some (.int (σ.1 219 4))) s1_)) : C2 Γ l mX9_forget [.ref 0] σ K := by
  refine c2_of (lv := [(0, .ref 0)]) (by decide) (Nat.le_of_ble_eq_true rfl) rfl ?_
  refine r_aload_n (dcx dX9_forget_c0 0 rfl) 0 rfl ?_
  refine s_getr (b := 219) fX9_56 (dcx dX9_forget_c0 1 rfl) F0_4 ?_
  refine s_geti fX9_301 (dcx dX9_forget_c0 2 rfl) F219_4 ?_
  refine r_istore_n (lv1 := [(1, .int (σ.1 219 4)), (0, .ref 0)]) (dcx dX9_forget_c0 3 rfl) (Nat.le_of_ble_eq_true rfl) rfl ?_
  refine r_aload_n (dcx dX9_forget_c0 4 rfl) 1 rfl ?_
  refine s_getr (b := 219) fX9_56 (dcx dX9_forget_c0 5 rfl) F0_4 ?_
  refine r_iconst (v := 0) (dcx dX9_forget_c0 6 rfl) rfl ?_
  refine s_puti gX9_301 (dcx dX9_forget_c0 7 rfl) F219_4 ?_
  obtain ⟨s1_, es1_⟩ : ∃ z : SS, z = sI σ 219 4 0 := ⟨_, rfl⟩
  rw [← es1_]
  have hyp := hyp s1_ es1_
  refine r_iload_n (dcx dX9_forget_c0 8 rfl) 0 rfl ?_
  exact s_ret rfl rfl rfl hyp (dcx dX9_forget_c0 9 rfl)
set_option maxHeartbeats 4000000 in
set_option maxRecDepth 20000 in
theorem tX9_blades {Γ : GE} {l : Launch} {x1 : Int32} {σ : SS} {K : Option Value → SS → Prop}  (hyp : C2 Γ l mX0_has [.ref 219, .int x1] σ (Ri fun r2_ s1_ => ((¬ r2_ = 0 → (C2 Γ l mX0_growAll [.ref 219, .int (s1_.1 269 4)] s1_ (Rv fun s3_ => (C2 Γ l mX0_sift [.ref 219, .int x1] s3_ (Ri fun r6_ s5_ => (K (some (.int r6_)) s5_)))))) ∧ (r2_ = 0 → (K (some (.int ((-1)))) s1_))))) : C2 Γ l mX9_blades [.ref 0, .int x1] σ K := by
  refine c2_of (lv := [(0, .ref 0), (1, .int x1)]) (by decide) (Nat.le_of_ble_eq_true rfl) rfl ?_
  refine r_aload_n (dcx dX9_blades_c0 0 rfl) 0 rfl ?_
  refine s_getr (b := 219) fX9_56 (dcx dX9_blades_c0 1 rfl) F0_4 ?_
  refine r_iload_n (dcx dX9_blades_c0 2 rfl) 1 rfl ?_
  refine s_callV (as := [.int x1]) (st := []) zX0_has kX9_blades_304 (dcx dX9_blades_c0 3 rfl) rfl rfl (Nat.le_of_ble_eq_true rfl) O219 rfl rfl (C2.mono hyp ?_)
  rintro _ s1_ ⟨r2_, rfl, hyp⟩
  show G2 Γ l mX9_blades 8 [(0, .ref 0), (1, .int x1)] [.int r2_] s1_ K
  refine r_if_ne (tgt := 13) (dcx dX9_blades_c0 4 rfl) (by decide) (fun q_ => ?_) (fun q_ => ?_)
  · have hyp := hyp.1 q_
    refine r_aload_n (dcx dX9_blades_c0 7 rfl) 0 rfl ?_
    refine s_getr (b := 219) fX9_56 (dcx dX9_blades_c0 8 rfl) F0_4 ?_
    refine r_aload_n (dcx dX9_blades_c0 9 rfl) 0 rfl ?_
    refine s_getr (b := 269) fX9_63 (dcx dX9_blades_c0 10 rfl) F0_5 ?_
    refine s_geti fX9_226 (dcx dX9_blades_c0 11 rfl) (FL_4 isL269) ?_
    refine s_callV (as := [.int (s1_.1 269 4)]) (st := []) zX0_growAll kX9_blades_307 (dcx dX9_blades_c0 12 rfl) rfl rfl (Nat.le_of_ble_eq_true rfl) O219 rfl rfl (C2.mono hyp ?_)
    rintro _ s3_ ⟨rfl, hyp⟩
    show G2 Γ l mX9_blades 27 [(0, .ref 0), (1, .int x1)] [] s3_ K
    refine r_aload_n (dcx dX9_blades_c0 13 rfl) 0 rfl ?_
    refine s_getr (b := 219) fX9_56 (dcx dX9_blades_c0 14 rfl) F0_4 ?_
    refine r_iload_n (dcx dX9_blades_c0 15 rfl) 1 rfl ?_
    refine s_callV (as := [.int x1]) (st := []) zX0_sift kX9_blades_310 (dcx dX9_blades_c0 16 rfl) rfl rfl (Nat.le_of_ble_eq_true rfl) O219 rfl rfl (C2.mono hyp ?_)
    rintro _ s5_ ⟨r6_, rfl, hyp⟩
    show G2 Γ l mX9_blades 35 [(0, .ref 0), (1, .int x1)] [.int r6_] s5_ K
    exact s_ret rfl rfl rfl hyp (dcx dX9_blades_c0 17 rfl)
  · have hyp := hyp.2 q_
    refine r_iconst (v := (-1)) (dcx dX9_blades_c0 5 rfl) rfl ?_
    exact s_ret rfl rfl rfl hyp (dcx dX9_blades_c0 6 rfl)
set_option maxHeartbeats 4000000 in
set_option maxRecDepth 20000 in
theorem tX9_sure {Γ : GE} {l : Launch} {x1 : Int32} {x2 : Int32} {σ : SS} {K : Option Value → SS → Prop}  (hyp : C2 Γ l mX0_has [.ref 219, .int x1] σ (Ri fun r2_ s1_ => ((r2_ = 0 → (K (some (.int ((-1)))) s1_)) ∧ (¬ (r2_ = 0) → ((x2 < 0 → (K (some (.int ((-1)))) s1_)) ∧ (¬ (x2 < 0) → ((x2 ≤ 3 → (C2 Γ l mX0_growAll [.ref 219, .int (s1_.1 269 4)] s1_ (Rv fun s3_ => (C2 Γ l mX0_sift [.ref 219, .int x1] s3_ (Ri fun r6_ s5_ => ((¬ r6_ = 0 → (C2 Γ l mX0_common [.ref 219, .int x2] s5_ (Ri fun r8_ s7_ => (K (some (.int r8_)) s7_)))) ∧ (r6_ = 0 → (K (some (.int ((-2)))) s5_)))))))) ∧ (¬ (x2 ≤ 3) → (K (some (.int ((-1)))) s1_))))))))) : C2 Γ l mX9_sure [.ref 0, .int x1, .int x2] σ K := by
  refine c2_of (lv := [(0, .ref 0), (1, .int x1), (2, .int x2)]) (by decide) (Nat.le_of_ble_eq_true rfl) rfl ?_
  refine r_aload_n (dcx dX9_sure_c0 0 rfl) 0 rfl ?_
  refine s_getr (b := 219) fX9_56 (dcx dX9_sure_c0 1 rfl) F0_4 ?_
  refine r_iload_n (dcx dX9_sure_c0 2 rfl) 1 rfl ?_
  refine s_callV (as := [.int x1]) (st := []) zX0_has kX9_sure_304 (dcx dX9_sure_c0 3 rfl) rfl rfl (Nat.le_of_ble_eq_true rfl) O219 rfl rfl (C2.mono hyp ?_)
  rintro _ s1_ ⟨r2_, rfl, hyp⟩
  show G2 Γ l mX9_sure 8 [(0, .ref 0), (1, .int x1), (2, .int x2)] [.int r2_] s1_ K
  refine r_if_eq (tgt := 20) (dcx dX9_sure_c0 4 rfl) (by decide) (fun q_ => ?_) (fun q_ => ?_)
  · have hyp := hyp.1 q_
    refine r_iconst (v := (-1)) (dcx dX9_sure_c0 10 rfl) rfl ?_
    exact s_ret rfl rfl rfl hyp (dcx dX9_sure_c0 11 rfl)
  · have hyp := hyp.2 q_
    refine r_iload_n (dcx dX9_sure_c0 5 rfl) 2 rfl ?_
    refine r_if_lt (tgt := 20) (dcx dX9_sure_c0 6 rfl) (by decide) (fun q_ => ?_) (fun q_ => ?_)
    · have hyp := hyp.1 q_
      refine r_iconst (v := (-1)) (dcx dX9_sure_c0 10 rfl) rfl ?_
      exact s_ret rfl rfl rfl hyp (dcx dX9_sure_c0 11 rfl)
    · have hyp := hyp.2 q_
      refine r_iload_n (dcx dX9_sure_c0 7 rfl) 2 rfl ?_
      refine r_iconst (v := 3) (dcx dX9_sure_c0 8 rfl) rfl ?_
      refine r_icmp_le (tgt := 22) (dcx dX9_sure_c0 9 rfl) (by decide) (fun q_ => ?_) (fun q_ => ?_)
      · have hyp := hyp.1 q_
        refine r_aload_n (dcx dX9_sure_c0 12 rfl) 0 rfl ?_
        refine s_getr (b := 219) fX9_56 (dcx dX9_sure_c0 13 rfl) F0_4 ?_
        refine r_aload_n (dcx dX9_sure_c0 14 rfl) 0 rfl ?_
        refine s_getr (b := 269) fX9_63 (dcx dX9_sure_c0 15 rfl) F0_5 ?_
        refine s_geti fX9_226 (dcx dX9_sure_c0 16 rfl) (FL_4 isL269) ?_
        refine s_callV (as := [.int (s1_.1 269 4)]) (st := []) zX0_growAll kX9_sure_307 (dcx dX9_sure_c0 17 rfl) rfl rfl (Nat.le_of_ble_eq_true rfl) O219 rfl rfl (C2.mono hyp ?_)
        rintro _ s3_ ⟨rfl, hyp⟩
        show G2 Γ l mX9_sure 36 [(0, .ref 0), (1, .int x1), (2, .int x2)] [] s3_ K
        refine r_aload_n (dcx dX9_sure_c0 18 rfl) 0 rfl ?_
        refine s_getr (b := 219) fX9_56 (dcx dX9_sure_c0 19 rfl) F0_4 ?_
        refine r_iload_n (dcx dX9_sure_c0 20 rfl) 1 rfl ?_
        refine s_callV (as := [.int x1]) (st := []) zX0_sift kX9_sure_310 (dcx dX9_sure_c0 21 rfl) rfl rfl (Nat.le_of_ble_eq_true rfl) O219 rfl rfl (C2.mono hyp ?_)
        rintro _ s5_ ⟨r6_, rfl, hyp⟩
        show G2 Γ l mX9_sure 44 [(0, .ref 0), (1, .int x1), (2, .int x2)] [.int r6_] s5_ K
        refine r_if_ne (tgt := 52) (dcx dX9_sure_c0 22 rfl) (by decide) (fun q_ => ?_) (fun q_ => ?_)
        · have hyp := hyp.1 q_
          refine r_aload_n (dcx dX9_sure_c0 25 rfl) 0 rfl ?_
          refine s_getr (b := 219) fX9_56 (dcx dX9_sure_c0 26 rfl) F0_4 ?_
          refine r_iload_n (dcx dX9_sure_c0 27 rfl) 2 rfl ?_
          refine s_callV (as := [.int x2]) (st := []) zX0_common kX9_sure_313 (dcx dX9_sure_c0 28 rfl) rfl rfl (Nat.le_of_ble_eq_true rfl) O219 rfl rfl (C2.mono hyp ?_)
          rintro _ s7_ ⟨r8_, rfl, hyp⟩
          show G2 Γ l mX9_sure 60 [(0, .ref 0), (1, .int x1), (2, .int x2)] [.int r8_] s7_ K
          exact s_ret rfl rfl rfl hyp (dcx dX9_sure_c0 29 rfl)
        · have hyp := hyp.2 q_
          refine r_bipush (v := (-2)) (dcx dX9_sure_c0 23 rfl) rfl ?_
          refine r_goto (tgt := 60) (dcx dX9_sure_c0 24 rfl) (by decide) ?_
          exact s_ret rfl rfl rfl hyp (dcx dX9_sure_c0 29 rfl)
      · have hyp := hyp.2 q_
        refine r_iconst (v := (-1)) (dcx dX9_sure_c0 10 rfl) rfl ?_
        exact s_ret rfl rfl rfl hyp (dcx dX9_sure_c0 11 rfl)
set_option maxHeartbeats 4000000 in
set_option maxRecDepth 20000 in
theorem tX9_ask {Γ : GE} {l : Launch} {x1 : Int32} {σ : SS} {K : Option Value → SS → Prop}  (hyp : C2 Γ l mX0_has [.ref 219, .int x1] σ (Ri fun r2_ s1_ => ((¬ r2_ = 0 → (C2 Γ l mX0_growAll [.ref 219, .int (s1_.1 269 4)] s1_ (Rv fun s3_ => (C2 Γ l mX0_sift [.ref 219, .int x1] s3_ (Ri fun r6_ s5_ => ((¬ r6_ = 0 → (C2 Γ l mX0_tellingCell [.ref 219] s5_ (Ri fun r8_ s7_ => (K (some (.int r8_)) s7_)))) ∧ (r6_ = 0 → (K (some (.int ((-2)))) s5_)))))))) ∧ (r2_ = 0 → (K (some (.int ((-1)))) s1_))))) : C2 Γ l mX9_ask [.ref 0, .int x1] σ K := by
  refine c2_of (lv := [(0, .ref 0), (1, .int x1)]) (by decide) (Nat.le_of_ble_eq_true rfl) rfl ?_
  refine r_aload_n (dcx dX9_ask_c0 0 rfl) 0 rfl ?_
  refine s_getr (b := 219) fX9_56 (dcx dX9_ask_c0 1 rfl) F0_4 ?_
  refine r_iload_n (dcx dX9_ask_c0 2 rfl) 1 rfl ?_
  refine s_callV (as := [.int x1]) (st := []) zX0_has kX9_ask_304 (dcx dX9_ask_c0 3 rfl) rfl rfl (Nat.le_of_ble_eq_true rfl) O219 rfl rfl (C2.mono hyp ?_)
  rintro _ s1_ ⟨r2_, rfl, hyp⟩
  show G2 Γ l mX9_ask 8 [(0, .ref 0), (1, .int x1)] [.int r2_] s1_ K
  refine r_if_ne (tgt := 13) (dcx dX9_ask_c0 4 rfl) (by decide) (fun q_ => ?_) (fun q_ => ?_)
  · have hyp := hyp.1 q_
    refine r_aload_n (dcx dX9_ask_c0 7 rfl) 0 rfl ?_
    refine s_getr (b := 219) fX9_56 (dcx dX9_ask_c0 8 rfl) F0_4 ?_
    refine r_aload_n (dcx dX9_ask_c0 9 rfl) 0 rfl ?_
    refine s_getr (b := 269) fX9_63 (dcx dX9_ask_c0 10 rfl) F0_5 ?_
    refine s_geti fX9_226 (dcx dX9_ask_c0 11 rfl) (FL_4 isL269) ?_
    refine s_callV (as := [.int (s1_.1 269 4)]) (st := []) zX0_growAll kX9_ask_307 (dcx dX9_ask_c0 12 rfl) rfl rfl (Nat.le_of_ble_eq_true rfl) O219 rfl rfl (C2.mono hyp ?_)
    rintro _ s3_ ⟨rfl, hyp⟩
    show G2 Γ l mX9_ask 27 [(0, .ref 0), (1, .int x1)] [] s3_ K
    refine r_aload_n (dcx dX9_ask_c0 13 rfl) 0 rfl ?_
    refine s_getr (b := 219) fX9_56 (dcx dX9_ask_c0 14 rfl) F0_4 ?_
    refine r_iload_n (dcx dX9_ask_c0 15 rfl) 1 rfl ?_
    refine s_callV (as := [.int x1]) (st := []) zX0_sift kX9_ask_310 (dcx dX9_ask_c0 16 rfl) rfl rfl (Nat.le_of_ble_eq_true rfl) O219 rfl rfl (C2.mono hyp ?_)
    rintro _ s5_ ⟨r6_, rfl, hyp⟩
    show G2 Γ l mX9_ask 35 [(0, .ref 0), (1, .int x1)] [.int r6_] s5_ K
    refine r_if_ne (tgt := 43) (dcx dX9_ask_c0 17 rfl) (by decide) (fun q_ => ?_) (fun q_ => ?_)
    · have hyp := hyp.1 q_
      refine r_aload_n (dcx dX9_ask_c0 20 rfl) 0 rfl ?_
      refine s_getr (b := 219) fX9_56 (dcx dX9_ask_c0 21 rfl) F0_4 ?_
      refine s_callV (as := []) (st := []) zX0_tellingCell kX9_ask_316 (dcx dX9_ask_c0 22 rfl) rfl rfl (Nat.le_of_ble_eq_true rfl) O219 rfl rfl (C2.mono hyp ?_)
      rintro _ s7_ ⟨r8_, rfl, hyp⟩
      show G2 Γ l mX9_ask 50 [(0, .ref 0), (1, .int x1)] [.int r8_] s7_ K
      exact s_ret rfl rfl rfl hyp (dcx dX9_ask_c0 23 rfl)
    · have hyp := hyp.2 q_
      refine r_bipush (v := (-2)) (dcx dX9_ask_c0 18 rfl) rfl ?_
      refine r_goto (tgt := 50) (dcx dX9_ask_c0 19 rfl) (by decide) ?_
      exact s_ret rfl rfl rfl hyp (dcx dX9_ask_c0 23 rfl)
  · have hyp := hyp.2 q_
    refine r_iconst (v := (-1)) (dcx dX9_ask_c0 5 rfl) rfl ?_
    exact s_ret rfl rfl rfl hyp (dcx dX9_ask_c0 6 rfl)
set_option maxHeartbeats 4000000 in
set_option maxRecDepth 20000 in
theorem tX9_hold {Γ : GE} {l : Launch} {x1 : Int32} {σ : SS} {K : Option Value → SS → Prop}  (hyp : C2 Γ l mX5_put [.ref 50, .int x1, .ref 269] σ (Ri fun r2_ s1_ => (narrow .boolean (.int r2_) = .int r2_ ∧ K (some (.int r2_)) s1_))) : C2 Γ l mX9_hold [.ref 0, .int x1] σ K := by
  refine c2_of (lv := [(0, .ref 0), (1, .int x1)]) (by decide) (Nat.le_of_ble_eq_true rfl) rfl ?_
  refine r_aload_n (dcx dX9_hold_c0 0 rfl) 0 rfl ?_
  refine s_getr (b := 50) fX9_47 (dcx dX9_hold_c0 1 rfl) F0_3 ?_
  refine r_iload_n (dcx dX9_hold_c0 2 rfl) 1 rfl ?_
  refine r_aload_n (dcx dX9_hold_c0 3 rfl) 0 rfl ?_
  refine s_getr (b := 269) fX9_63 (dcx dX9_hold_c0 4 rfl) F0_5 ?_
  refine s_callV (as := [.int x1, .ref 269]) (st := []) zX5_put kX9_hold_319 (dcx dX9_hold_c0 5 rfl) rfl rfl (Nat.le_of_ble_eq_true rfl) O50 rfl rfl (C2.mono hyp ?_)
  rintro _ s1_ ⟨r2_, rfl, hyp⟩
  show G2 Γ l mX9_hold 12 [(0, .ref 0), (1, .int x1)] [.int r2_] s1_ K
  exact s_ret rfl rfl hyp.1 hyp.2 (dcx dX9_hold_c0 6 rfl)
set_option maxHeartbeats 4000000 in
set_option maxRecDepth 20000 in
theorem tX9_restore {Γ : GE} {l : Launch} {x1 : Int32} {σ : SS} {K : Option Value → SS → Prop}  (hyp : C2 Γ l mX5_goOnFrom [.ref 50, .int x1, .ref 269] σ (Ri fun r2_ s1_ => (narrow .boolean (.int r2_) = .int r2_ ∧ K (some (.int r2_)) s1_))) : C2 Γ l mX9_restore [.ref 0, .int x1] σ K := by
  refine c2_of (lv := [(0, .ref 0), (1, .int x1)]) (by decide) (Nat.le_of_ble_eq_true rfl) rfl ?_
  refine r_aload_n (dcx dX9_restore_c0 0 rfl) 0 rfl ?_
  refine s_getr (b := 50) fX9_47 (dcx dX9_restore_c0 1 rfl) F0_3 ?_
  refine r_iload_n (dcx dX9_restore_c0 2 rfl) 1 rfl ?_
  refine r_aload_n (dcx dX9_restore_c0 3 rfl) 0 rfl ?_
  refine s_getr (b := 269) fX9_63 (dcx dX9_restore_c0 4 rfl) F0_5 ?_
  refine s_callV (as := [.int x1, .ref 269]) (st := []) zX5_goOnFrom kX9_restore_323 (dcx dX9_restore_c0 5 rfl) rfl rfl (Nat.le_of_ble_eq_true rfl) O50 rfl rfl (C2.mono hyp ?_)
  rintro _ s1_ ⟨r2_, rfl, hyp⟩
  show G2 Γ l mX9_restore 12 [(0, .ref 0), (1, .int x1)] [.int r2_] s1_ K
  exact s_ret rfl rfl hyp.1 hyp.2 (dcx dX9_restore_c0 6 rfl)
set_option maxHeartbeats 4000000 in
set_option maxRecDepth 20000 in
theorem tX9_count {Γ : GE} {l : Launch} {x1 : Int32} {σ : SS} {K : Option Value → SS → Prop}  (hyp : (x1 = 0 → (∃ b1_ : Nat, σ.2.2 0 8 = b1_ ∧ isP b1_ ∧ (K (some (.int (σ.1 b1_ 11))) σ))) ∧ (x1 = 1 → (∃ b2_ : Nat, σ.2.2 0 8 = b2_ ∧ isP b2_ ∧ (K (some (.int (σ.1 b2_ 12))) σ))) ∧ (x1 = 2 → (∃ b3_ : Nat, σ.2.2 0 8 = b3_ ∧ isP b3_ ∧ (K (some (.int (σ.1 b3_ 13))) σ))) ∧ (x1 = 3 → (∃ b4_ : Nat, σ.2.2 0 8 = b4_ ∧ isP b4_ ∧ (K (some (.int (σ.1 b4_ 14))) σ))) ∧ (x1 = 4 → (K (some (.int (σ.1 269 4))) σ)) ∧ (x1 = 5 → (K (some (.int (σ.1 269 5))) σ)) ∧ (x1 = 6 → (C2 Γ l mX4_allCuts [.ref 269] σ (Ri fun r6_ s5_ => (K (some (.int r6_)) s5_)))) ∧ (x1 = 7 → (∃ b7_ : Nat, σ.2.2 0 8 = b7_ ∧ isP b7_ ∧ (C2 Γ l mX1_rainIn [.ref 46, .int (σ.1 269 4), .int (σ.1 b7_ 19)] σ (Ri fun r9_ s8_ => (K (some (.int r9_)) s8_))))) ∧ (x1 = 8 → (K (some (.int (σ.1 1 1))) σ)) ∧ (x1 = 9 → (K (some (.int (σ.1 50 4))) σ)) ∧ (x1 = 10 → (K (some (.int (σ.1 219 4))) σ)) ∧ (x1 = 11 → (C2 Γ l mX5_slotsHeld [.ref 50] σ (Ri fun r11_ s10_ => (K (some (.int r11_)) s10_)))) ∧ (x1 = 12 → (∃ b12_ : Nat, σ.2.2 0 8 = b12_ ∧ isP b12_ ∧ (C2 Γ l mX6_grassCells [.ref b12_] σ (Ri fun r14_ s13_ => (K (some (.int r14_)) s13_))))) ∧ (x1 = 13 → (∃ b15_ : Nat, σ.2.2 0 8 = b15_ ∧ isP b15_ ∧ (K (some (.int (σ.1 b15_ 15))) σ))) ∧ (¬ x1 = 0 → ¬ x1 = 1 → ¬ x1 = 2 → ¬ x1 = 3 → ¬ x1 = 4 → ¬ x1 = 5 → ¬ x1 = 6 → ¬ x1 = 7 → ¬ x1 = 8 → ¬ x1 = 9 → ¬ x1 = 10 → ¬ x1 = 11 → ¬ x1 = 12 → ¬ x1 = 13 → (K (some (.int ((-1)))) σ))) : C2 Γ l mX9_count [.ref 0, .int x1] σ K := by
  refine c2_of (lv := [(0, .ref 0), (1, .int x1)]) (by decide) (Nat.le_of_ble_eq_true rfl) rfl ?_
  refine r_iload_n (dcx dX9_count_c0 0 rfl) 1 rfl ?_
  by_cases q0_ : x1 = 0
  · have hyp := hyp.1 q0_
    refine r_tableIn (off := 71) (tgt := 72) (dcx dX9_count_c0 1 rfl) (by rw [q0_]; decide) (by rw [q0_]; decide) (by rw [q0_]; decide) (by decide) ?_
    refine r_aload_n (dcx dX9_count_c0 2 rfl) 0 rfl ?_
    obtain ⟨b1_, eb1_, hb1_, hyp⟩ := hyp
    refine s_getmE fX9_28 (dcx dX9_count_c0 3 rfl) F0_8 eb1_ (nzP hb1_) ?_
    refine s_geti fX9_188 (dcx dX9_count_c0 4 rfl) (FP_11 hb1_) ?_
    exact s_ret rfl rfl rfl hyp (dcx dX9_count_c0 5 rfl)
  have hyp := hyp.2
  by_cases q1_ : x1 = 1
  · have hyp := hyp.1 q1_
    refine r_tableIn (off := 79) (tgt := 80) (dcx dX9_count_c0 1 rfl) (by rw [q1_]; decide) (by rw [q1_]; decide) (by rw [q1_]; decide) (by decide) ?_
    refine r_aload_n (dcx dX9_count_c0 6 rfl) 0 rfl ?_
    obtain ⟨b2_, eb2_, hb2_, hyp⟩ := hyp
    refine s_getmE fX9_28 (dcx dX9_count_c0 7 rfl) F0_8 eb2_ (nzP hb2_) ?_
    refine s_geti fX9_185 (dcx dX9_count_c0 8 rfl) (FP_12 hb2_) ?_
    exact s_ret rfl rfl rfl hyp (dcx dX9_count_c0 9 rfl)
  have hyp := hyp.2
  by_cases q2_ : x1 = 2
  · have hyp := hyp.1 q2_
    refine r_tableIn (off := 87) (tgt := 88) (dcx dX9_count_c0 1 rfl) (by rw [q2_]; decide) (by rw [q2_]; decide) (by rw [q2_]; decide) (by decide) ?_
    refine r_aload_n (dcx dX9_count_c0 10 rfl) 0 rfl ?_
    obtain ⟨b3_, eb3_, hb3_, hyp⟩ := hyp
    refine s_getmE fX9_28 (dcx dX9_count_c0 11 rfl) F0_8 eb3_ (nzP hb3_) ?_
    refine s_geti fX9_326 (dcx dX9_count_c0 12 rfl) (FP_13 hb3_) ?_
    exact s_ret rfl rfl rfl hyp (dcx dX9_count_c0 13 rfl)
  have hyp := hyp.2
  by_cases q3_ : x1 = 3
  · have hyp := hyp.1 q3_
    refine r_tableIn (off := 95) (tgt := 96) (dcx dX9_count_c0 1 rfl) (by rw [q3_]; decide) (by rw [q3_]; decide) (by rw [q3_]; decide) (by decide) ?_
    refine r_aload_n (dcx dX9_count_c0 14 rfl) 0 rfl ?_
    obtain ⟨b4_, eb4_, hb4_, hyp⟩ := hyp
    refine s_getmE fX9_28 (dcx dX9_count_c0 15 rfl) F0_8 eb4_ (nzP hb4_) ?_
    refine s_geti fX9_157 (dcx dX9_count_c0 16 rfl) (FP_14 hb4_) ?_
    exact s_ret rfl rfl rfl hyp (dcx dX9_count_c0 17 rfl)
  have hyp := hyp.2
  by_cases q4_ : x1 = 4
  · have hyp := hyp.1 q4_
    refine r_tableIn (off := 103) (tgt := 104) (dcx dX9_count_c0 1 rfl) (by rw [q4_]; decide) (by rw [q4_]; decide) (by rw [q4_]; decide) (by decide) ?_
    refine r_aload_n (dcx dX9_count_c0 18 rfl) 0 rfl ?_
    refine s_getr (b := 269) fX9_63 (dcx dX9_count_c0 19 rfl) F0_5 ?_
    refine s_geti fX9_226 (dcx dX9_count_c0 20 rfl) (FL_4 isL269) ?_
    exact s_ret rfl rfl rfl hyp (dcx dX9_count_c0 21 rfl)
  have hyp := hyp.2
  by_cases q5_ : x1 = 5
  · have hyp := hyp.1 q5_
    refine r_tableIn (off := 111) (tgt := 112) (dcx dX9_count_c0 1 rfl) (by rw [q5_]; decide) (by rw [q5_]; decide) (by rw [q5_]; decide) (by decide) ?_
    refine r_aload_n (dcx dX9_count_c0 22 rfl) 0 rfl ?_
    refine s_getr (b := 269) fX9_63 (dcx dX9_count_c0 23 rfl) F0_5 ?_
    refine s_geti fX9_206 (dcx dX9_count_c0 24 rfl) (FL_5 isL269) ?_
    exact s_ret rfl rfl rfl hyp (dcx dX9_count_c0 25 rfl)
  have hyp := hyp.2
  by_cases q6_ : x1 = 6
  · have hyp := hyp.1 q6_
    refine r_tableIn (off := 119) (tgt := 120) (dcx dX9_count_c0 1 rfl) (by rw [q6_]; decide) (by rw [q6_]; decide) (by rw [q6_]; decide) (by decide) ?_
    refine r_aload_n (dcx dX9_count_c0 26 rfl) 0 rfl ?_
    refine s_getr (b := 269) fX9_63 (dcx dX9_count_c0 27 rfl) F0_5 ?_
    refine s_callV (as := []) (st := []) zX4_allCuts kX9_count_329 (dcx dX9_count_c0 28 rfl) rfl rfl (Nat.le_of_ble_eq_true rfl) (OL isL269) rfl rfl (C2.mono hyp ?_)
    rintro _ s5_ ⟨r6_, rfl, hyp⟩
    show G2 Γ l mX9_count 127 [(0, .ref 0), (1, .int x1)] [.int r6_] s5_ K
    exact s_ret rfl rfl rfl hyp (dcx dX9_count_c0 29 rfl)
  have hyp := hyp.2
  by_cases q7_ : x1 = 7
  · have hyp := hyp.1 q7_
    refine r_tableIn (off := 127) (tgt := 128) (dcx dX9_count_c0 1 rfl) (by rw [q7_]; decide) (by rw [q7_]; decide) (by rw [q7_]; decide) (by decide) ?_
    refine r_aload_n (dcx dX9_count_c0 30 rfl) 0 rfl ?_
    refine s_getr (b := 46) fX9_40 (dcx dX9_count_c0 31 rfl) F0_2 ?_
    refine r_aload_n (dcx dX9_count_c0 32 rfl) 0 rfl ?_
    refine s_getr (b := 269) fX9_63 (dcx dX9_count_c0 33 rfl) F0_5 ?_
    refine s_geti fX9_226 (dcx dX9_count_c0 34 rfl) (FL_4 isL269) ?_
    refine r_aload_n (dcx dX9_count_c0 35 rfl) 0 rfl ?_
    obtain ⟨b7_, eb7_, hb7_, hyp⟩ := hyp
    refine s_getmE fX9_28 (dcx dX9_count_c0 36 rfl) F0_8 eb7_ (nzP hb7_) ?_
    refine s_geti fX9_244 (dcx dX9_count_c0 37 rfl) (FP_19 hb7_) ?_
    refine s_callV (as := [.int (σ.1 269 4), .int (σ.1 b7_ 19)]) (st := []) zX1_rainIn kX9_count_332 (dcx dX9_count_c0 38 rfl) rfl rfl (Nat.le_of_ble_eq_true rfl) O46 rfl rfl (C2.mono hyp ?_)
    rintro _ s8_ ⟨r9_, rfl, hyp⟩
    show G2 Γ l mX9_count 149 [(0, .ref 0), (1, .int x1)] [.int r9_] s8_ K
    exact s_ret rfl rfl rfl hyp (dcx dX9_count_c0 39 rfl)
  have hyp := hyp.2
  by_cases q8_ : x1 = 8
  · have hyp := hyp.1 q8_
    refine r_tableIn (off := 149) (tgt := 150) (dcx dX9_count_c0 1 rfl) (by rw [q8_]; decide) (by rw [q8_]; decide) (by rw [q8_]; decide) (by decide) ?_
    refine r_aload_n (dcx dX9_count_c1 0 rfl) 0 rfl ?_
    refine s_getr (b := 1) fX9_10 (dcx dX9_count_c1 1 rfl) F0_0 ?_
    refine s_geti fX9_77 (dcx dX9_count_c1 2 rfl) F1_1 ?_
    exact s_ret rfl rfl rfl hyp (dcx dX9_count_c1 3 rfl)
  have hyp := hyp.2
  by_cases q9_ : x1 = 9
  · have hyp := hyp.1 q9_
    refine r_tableIn (off := 157) (tgt := 158) (dcx dX9_count_c0 1 rfl) (by rw [q9_]; decide) (by rw [q9_]; decide) (by rw [q9_]; decide) (by decide) ?_
    refine r_aload_n (dcx dX9_count_c1 4 rfl) 0 rfl ?_
    refine s_getr (b := 50) fX9_47 (dcx dX9_count_c1 5 rfl) F0_3 ?_
    refine s_geti fX9_335 (dcx dX9_count_c1 6 rfl) F50_4 ?_
    exact s_ret rfl rfl rfl hyp (dcx dX9_count_c1 7 rfl)
  have hyp := hyp.2
  by_cases q10_ : x1 = 10
  · have hyp := hyp.1 q10_
    refine r_tableIn (off := 165) (tgt := 166) (dcx dX9_count_c0 1 rfl) (by rw [q10_]; decide) (by rw [q10_]; decide) (by rw [q10_]; decide) (by decide) ?_
    refine r_aload_n (dcx dX9_count_c1 8 rfl) 0 rfl ?_
    refine s_getr (b := 219) fX9_56 (dcx dX9_count_c1 9 rfl) F0_4 ?_
    refine s_geti fX9_301 (dcx dX9_count_c1 10 rfl) F219_4 ?_
    exact s_ret rfl rfl rfl hyp (dcx dX9_count_c1 11 rfl)
  have hyp := hyp.2
  by_cases q11_ : x1 = 11
  · have hyp := hyp.1 q11_
    refine r_tableIn (off := 173) (tgt := 174) (dcx dX9_count_c0 1 rfl) (by rw [q11_]; decide) (by rw [q11_]; decide) (by rw [q11_]; decide) (by decide) ?_
    refine r_aload_n (dcx dX9_count_c1 12 rfl) 0 rfl ?_
    refine s_getr (b := 50) fX9_47 (dcx dX9_count_c1 13 rfl) F0_3 ?_
    refine s_callV (as := []) (st := []) zX5_slotsHeld kX9_count_338 (dcx dX9_count_c1 14 rfl) rfl rfl (Nat.le_of_ble_eq_true rfl) O50 rfl rfl (C2.mono hyp ?_)
    rintro _ s10_ ⟨r11_, rfl, hyp⟩
    show G2 Γ l mX9_count 181 [(0, .ref 0), (1, .int x1)] [.int r11_] s10_ K
    exact s_ret rfl rfl rfl hyp (dcx dX9_count_c1 15 rfl)
  have hyp := hyp.2
  by_cases q12_ : x1 = 12
  · have hyp := hyp.1 q12_
    refine r_tableIn (off := 181) (tgt := 182) (dcx dX9_count_c0 1 rfl) (by rw [q12_]; decide) (by rw [q12_]; decide) (by rw [q12_]; decide) (by decide) ?_
    refine r_aload_n (dcx dX9_count_c1 16 rfl) 0 rfl ?_
    obtain ⟨b12_, eb12_, hb12_, hyp⟩ := hyp
    refine s_getmE fX9_28 (dcx dX9_count_c1 17 rfl) F0_8 eb12_ (nzP hb12_) ?_
    refine s_callV (as := []) (st := []) zX6_grassCells kX9_count_341 (dcx dX9_count_c1 18 rfl) rfl rfl (Nat.le_of_ble_eq_true rfl) (OP hb12_) rfl rfl (C2.mono hyp ?_)
    rintro _ s13_ ⟨r14_, rfl, hyp⟩
    show G2 Γ l mX9_count 189 [(0, .ref 0), (1, .int x1)] [.int r14_] s13_ K
    exact s_ret rfl rfl rfl hyp (dcx dX9_count_c1 19 rfl)
  have hyp := hyp.2
  by_cases q13_ : x1 = 13
  · have hyp := hyp.1 q13_
    refine r_tableIn (off := 189) (tgt := 190) (dcx dX9_count_c0 1 rfl) (by rw [q13_]; decide) (by rw [q13_]; decide) (by rw [q13_]; decide) (by decide) ?_
    refine r_aload_n (dcx dX9_count_c1 20 rfl) 0 rfl ?_
    obtain ⟨b15_, eb15_, hb15_, hyp⟩ := hyp
    refine s_getmE fX9_28 (dcx dX9_count_c1 21 rfl) F0_8 eb15_ (nzP hb15_) ?_
    refine s_geti fX9_344 (dcx dX9_count_c1 22 rfl) (FP_15 hb15_) ?_
    exact s_ret rfl rfl rfl hyp (dcx dX9_count_c1 23 rfl)
  have hyp := hyp.2
  have hyp := hyp q0_ q1_ q2_ q3_ q4_ q5_ q6_ q7_ q8_ q9_ q10_ q11_ q12_ q13_
  refine r_tableOut (tgt := 198) (dcx dX9_count_c0 1 rfl) (by have t0_ := lv_neT (a := 0) q0_ (by decide); have t1_ := lv_neT (a := 1) q1_ (by decide); have t2_ := lv_neT (a := 2) q2_ (by decide); have t3_ := lv_neT (a := 3) q3_ (by decide); have t4_ := lv_neT (a := 4) q4_ (by decide); have t5_ := lv_neT (a := 5) q5_ (by decide); have t6_ := lv_neT (a := 6) q6_ (by decide); have t7_ := lv_neT (a := 7) q7_ (by decide); have t8_ := lv_neT (a := 8) q8_ (by decide); have t9_ := lv_neT (a := 9) q9_ (by decide); have t10_ := lv_neT (a := 10) q10_ (by decide); have t11_ := lv_neT (a := 11) q11_ (by decide); have t12_ := lv_neT (a := 12) q12_ (by decide); have t13_ := lv_neT (a := 13) q13_ (by decide); omega) (by decide) ?_
  refine r_iconst (v := (-1)) (dcx dX9_count_c1 24 rfl) rfl ?_
  exact s_ret rfl rfl rfl hyp (dcx dX9_count_c1 25 rfl)
set_option maxHeartbeats 4000000 in
set_option maxRecDepth 20000 in
theorem tX9_isHeight {Γ : GE} {l : Launch} {x0 : Int32} {σ : SS} {K : Option Value → SS → Prop}  (hyp : (x0 < 0 → (K (some (.int 0)) σ)) ∧ (¬ (x0 < 0) → (((99 : Int32) < x0 → (K (some (.int 0)) σ)) ∧ (¬ ((99 : Int32) < x0) → (K (some (.int 1)) σ))))) : C2 Γ l mX9_isHeight [.int x0] σ K := by
  refine c2_of (lv := [(0, .int x0)]) (by decide) (Nat.le_of_ble_eq_true rfl) rfl ?_
  refine r_iload_n (dcx dX9_isHeight_c0 0 rfl) 0 rfl ?_
  refine r_if_lt (tgt := 14) (dcx dX9_isHeight_c0 1 rfl) (by decide) (fun q_ => ?_) (fun q_ => ?_)
  · have hyp := hyp.1 q_
    refine r_iconst (v := 0) (dcx dX9_isHeight_c0 7 rfl) rfl ?_
    exact s_ret rfl rfl rfl hyp (dcx dX9_isHeight_c0 8 rfl)
  · have hyp := hyp.2 q_
    refine r_iload_n (dcx dX9_isHeight_c0 2 rfl) 0 rfl ?_
    refine r_bipush (v := 99) (dcx dX9_isHeight_c0 3 rfl) rfl ?_
    refine r_icmp_gt (tgt := 14) (dcx dX9_isHeight_c0 4 rfl) (by decide) (fun q_ => ?_) (fun q_ => ?_)
    · have hyp := hyp.1 q_
      refine r_iconst (v := 0) (dcx dX9_isHeight_c0 7 rfl) rfl ?_
      exact s_ret rfl rfl rfl hyp (dcx dX9_isHeight_c0 8 rfl)
    · have hyp := hyp.2 q_
      refine r_iconst (v := 1) (dcx dX9_isHeight_c0 5 rfl) rfl ?_
      refine r_goto (tgt := 15) (dcx dX9_isHeight_c0 6 rfl) (by decide) ?_
      exact s_ret rfl rfl rfl hyp (dcx dX9_isHeight_c0 8 rfl)
set_option maxHeartbeats 4000000 in
set_option maxRecDepth 20000 in
theorem tX9_isWait {Γ : GE} {l : Launch} {x0 : Int32} {σ : SS} {K : Option Value → SS → Prop}  (hyp : (x0 < 0 → (K (some (.int 0)) σ)) ∧ (¬ (x0 < 0) → (((60 : Int32) < x0 → (K (some (.int 0)) σ)) ∧ (¬ ((60 : Int32) < x0) → (K (some (.int 1)) σ))))) : C2 Γ l mX9_isWait [.int x0] σ K := by
  refine c2_of (lv := [(0, .int x0)]) (by decide) (Nat.le_of_ble_eq_true rfl) rfl ?_
  refine r_iload_n (dcx dX9_isWait_c0 0 rfl) 0 rfl ?_
  refine r_if_lt (tgt := 14) (dcx dX9_isWait_c0 1 rfl) (by decide) (fun q_ => ?_) (fun q_ => ?_)
  · have hyp := hyp.1 q_
    refine r_iconst (v := 0) (dcx dX9_isWait_c0 7 rfl) rfl ?_
    exact s_ret rfl rfl rfl hyp (dcx dX9_isWait_c0 8 rfl)
  · have hyp := hyp.2 q_
    refine r_iload_n (dcx dX9_isWait_c0 2 rfl) 0 rfl ?_
    refine r_bipush (v := 60) (dcx dX9_isWait_c0 3 rfl) rfl ?_
    refine r_icmp_gt (tgt := 14) (dcx dX9_isWait_c0 4 rfl) (by decide) (fun q_ => ?_) (fun q_ => ?_)
    · have hyp := hyp.1 q_
      refine r_iconst (v := 0) (dcx dX9_isWait_c0 7 rfl) rfl ?_
      exact s_ret rfl rfl rfl hyp (dcx dX9_isWait_c0 8 rfl)
    · have hyp := hyp.2 q_
      refine r_iconst (v := 1) (dcx dX9_isWait_c0 5 rfl) rfl ?_
      refine r_goto (tgt := 15) (dcx dX9_isWait_c0 6 rfl) (by decide) ?_
      exact s_ret rfl rfl rfl hyp (dcx dX9_isWait_c0 8 rfl)
set_option maxHeartbeats 4000000 in
set_option maxRecDepth 20000 in
theorem tX9_indexOf {Γ : GE} {l : Launch} {x0 : Int32} {x1 : Int32} {σ : SS} {K : Option Value → SS → Prop}  (hyp : K (some (.int ((((x1 + 1) * 10) + x0) + 1))) σ) : C2 Γ l mX9_indexOf [.int x0, .int x1] σ K := by
  refine c2_of (lv := [(0, .int x0), (1, .int x1)]) (by decide) (Nat.le_of_ble_eq_true rfl) rfl ?_
  refine r_iload_n (dcx dX9_indexOf_c0 0 rfl) 1 rfl ?_
  refine r_iconst (v := 1) (dcx dX9_indexOf_c0 1 rfl) rfl ?_
  refine r_iadd (dcx dX9_indexOf_c0 2 rfl) ?_
  refine r_bipush (v := 10) (dcx dX9_indexOf_c0 3 rfl) rfl ?_
  refine r_imul (dcx dX9_indexOf_c0 4 rfl) ?_
  refine r_iload_n (dcx dX9_indexOf_c0 5 rfl) 0 rfl ?_
  refine r_iadd (dcx dX9_indexOf_c0 6 rfl) ?_
  refine r_iconst (v := 1) (dcx dX9_indexOf_c0 7 rfl) rfl ?_
  refine r_iadd (dcx dX9_indexOf_c0 8 rfl) ?_
  exact s_ret rfl rfl rfl hyp (dcx dX9_indexOf_c0 9 rfl)
set_option maxHeartbeats 4000000 in
set_option maxRecDepth 20000 in
theorem tX9_held {Γ : GE} {l : Launch} {x0 : Int32} {x1 : Int32} {x2 : Int32} {σ : SS} {K : Option Value → SS → Prop}  (hyp : K (some (.int (imx x1 (imn x2 x0)))) σ) : C2 Γ l mX9_held [.int x0, .int x1, .int x2] σ K := by
  refine c2_of (lv := [(0, .int x0), (1, .int x1), (2, .int x2)]) (by decide) (Nat.le_of_ble_eq_true rfl) rfl ?_
  refine r_iload_n (dcx dX9_held_c0 0 rfl) 1 rfl ?_
  refine r_iload_n (dcx dX9_held_c0 1 rfl) 2 rfl ?_
  refine r_iload_n (dcx dX9_held_c0 2 rfl) 0 rfl ?_
  refine r_min q863 q611 q16 q612 (by decide) (Nat.le_of_ble_eq_true rfl) (Nat.zero_le _) (Nat.zero_le _) (dcx dX9_held_c0 3 rfl) ?_
  refine r_max q864 q608 q16 q609 (by decide) (Nat.le_of_ble_eq_true rfl) (Nat.zero_le _) (Nat.zero_le _) (dcx dX9_held_c0 4 rfl) ?_
  exact s_ret rfl rfl rfl hyp (dcx dX9_held_c0 5 rfl)
set_option maxHeartbeats 4000000 in
set_option maxRecDepth 20000 in
theorem tX10_feed {Γ : GE} {l : Launch} {x1 : Int32} {x2 : Int32} {x3 : Int32} {x4 : Int32} {x5 : Int32} {σ : SS} {K : Option Value → SS → Prop}  (hyp : (((σ.1 284 2) + 20) ≤ 2000 → (C2 Γ l mX10_put [.ref 284, .int x1] σ (Rv fun s1_ => (C2 Γ l mX10_put [.ref 284, .int x2] s1_ (Rv fun s3_ => (C2 Γ l mX10_put [.ref 284, .int x3] s3_ (Rv fun s5_ => (C2 Γ l mX10_put [.ref 284, .int x4] s5_ (Rv fun s7_ => (C2 Γ l mX10_put [.ref 284, .int x5] s7_ (Rv fun s9_ => (K (some (.int (s9_.1 284 2))) s9_)))))))))))) ∧ (¬ (((σ.1 284 2) + 20) ≤ 2000) → (K (some (.int ((-1)))) σ))) : C2 Γ l mX10_feed [.ref 284, .int x1, .int x2, .int x3, .int x4, .int x5] σ K := by
  refine c2_of (lv := [(0, .ref 284), (1, .int x1), (2, .int x2), (3, .int x3), (4, .int x4), (5, .int x5)]) (by decide) (Nat.le_of_ble_eq_true rfl) rfl ?_
  refine r_aload_n (dcx dX10_feed_c0 0 rfl) 0 rfl ?_
  refine s_geti fX10_178 (dcx dX10_feed_c0 1 rfl) F284_2 ?_
  refine r_bipush (v := 20) (dcx dX10_feed_c0 2 rfl) rfl ?_
  refine r_iadd (dcx dX10_feed_c0 3 rfl) ?_
  refine r_sipush (v := 2000) (dcx dX10_feed_c0 4 rfl) rfl ?_
  refine r_icmp_le (tgt := 15) (dcx dX10_feed_c0 5 rfl) (by decide) (fun q_ => ?_) (fun q_ => ?_)
  · have hyp := hyp.1 q_
    refine r_aload_n (dcx dX10_feed_c0 8 rfl) 0 rfl ?_
    refine r_iload_n (dcx dX10_feed_c0 9 rfl) 1 rfl ?_
    refine s_callV (as := [.int x1]) (st := []) zX10_put kX10_feed_181 (dcx dX10_feed_c0 10 rfl) rfl rfl (Nat.le_of_ble_eq_true rfl) O284 rfl rfl (C2.mono hyp ?_)
    rintro _ s1_ ⟨rfl, hyp⟩
    show G2 Γ l mX10_feed 20 [(0, .ref 284), (1, .int x1), (2, .int x2), (3, .int x3), (4, .int x4), (5, .int x5)] [] s1_ K
    refine r_aload_n (dcx dX10_feed_c0 11 rfl) 0 rfl ?_
    refine r_iload_n (dcx dX10_feed_c0 12 rfl) 2 rfl ?_
    refine s_callV (as := [.int x2]) (st := []) zX10_put kX10_feed_181 (dcx dX10_feed_c0 13 rfl) rfl rfl (Nat.le_of_ble_eq_true rfl) O284 rfl rfl (C2.mono hyp ?_)
    rintro _ s3_ ⟨rfl, hyp⟩
    show G2 Γ l mX10_feed 25 [(0, .ref 284), (1, .int x1), (2, .int x2), (3, .int x3), (4, .int x4), (5, .int x5)] [] s3_ K
    refine r_aload_n (dcx dX10_feed_c0 14 rfl) 0 rfl ?_
    refine r_iload_n (dcx dX10_feed_c0 15 rfl) 3 rfl ?_
    refine s_callV (as := [.int x3]) (st := []) zX10_put kX10_feed_181 (dcx dX10_feed_c0 16 rfl) rfl rfl (Nat.le_of_ble_eq_true rfl) O284 rfl rfl (C2.mono hyp ?_)
    rintro _ s5_ ⟨rfl, hyp⟩
    show G2 Γ l mX10_feed 30 [(0, .ref 284), (1, .int x1), (2, .int x2), (3, .int x3), (4, .int x4), (5, .int x5)] [] s5_ K
    refine r_aload_n (dcx dX10_feed_c0 17 rfl) 0 rfl ?_
    refine r_iload (dcx dX10_feed_c0 18 rfl) 4 rfl ?_
    refine s_callV (as := [.int x4]) (st := []) zX10_put kX10_feed_181 (dcx dX10_feed_c0 19 rfl) rfl rfl (Nat.le_of_ble_eq_true rfl) O284 rfl rfl (C2.mono hyp ?_)
    rintro _ s7_ ⟨rfl, hyp⟩
    show G2 Γ l mX10_feed 36 [(0, .ref 284), (1, .int x1), (2, .int x2), (3, .int x3), (4, .int x4), (5, .int x5)] [] s7_ K
    refine r_aload_n (dcx dX10_feed_c0 20 rfl) 0 rfl ?_
    refine r_iload (dcx dX10_feed_c0 21 rfl) 5 rfl ?_
    refine s_callV (as := [.int x5]) (st := []) zX10_put kX10_feed_181 (dcx dX10_feed_c0 22 rfl) rfl rfl (Nat.le_of_ble_eq_true rfl) O284 rfl rfl (C2.mono hyp ?_)
    rintro _ s9_ ⟨rfl, hyp⟩
    show G2 Γ l mX10_feed 42 [(0, .ref 284), (1, .int x1), (2, .int x2), (3, .int x3), (4, .int x4), (5, .int x5)] [] s9_ K
    refine r_aload_n (dcx dX10_feed_c0 23 rfl) 0 rfl ?_
    refine s_geti fX10_178 (dcx dX10_feed_c0 24 rfl) F284_2 ?_
    exact s_ret rfl rfl rfl hyp (dcx dX10_feed_c0 25 rfl)
  · have hyp := hyp.2 q_
    refine r_iconst (v := (-1)) (dcx dX10_feed_c0 6 rfl) rfl ?_
    exact s_ret rfl rfl rfl hyp (dcx dX10_feed_c0 7 rfl)
def wX10_put_3 (Γ : GE) (l : Launch) (x1 : Int32) (x2 : Int32) (σ : SS) (K : Option Value → SS → Prop) : Prop := G2 Γ l mX10_put 3 [(0, .ref 284), (1, .int x1), (2, .int x2)] [] σ K
set_option maxHeartbeats 4000000 in
set_option maxRecDepth 20000 in
theorem tX10_put {Γ : GE} {l : Launch} {x1 : Int32} {σ : SS} {K : Option Value → SS → Prop}  (hyp : wX10_put_3 Γ l x1 24 σ K) : C2 Γ l mX10_put [.ref 284, .int x1] σ K := by
  refine c2_of (lv := [(0, .ref 284), (1, .int x1)]) (by decide) (Nat.le_of_ble_eq_true rfl) rfl ?_
  refine r_bipush (v := 24) (dcx dX10_put_c0 0 rfl) rfl ?_
  refine r_istore_n (lv1 := [(2, .int 24), (0, .ref 284), (1, .int x1)]) (dcx dX10_put_c0 1 rfl) (Nat.le_of_ble_eq_true rfl) rfl ?_
  refine r_loc (lv1 := [(0, .ref 284), (1, .int x1), (2, .int 24)]) [1, 2, 0] rfl ?_
  exact hyp
set_option maxHeartbeats 4000000 in
set_option maxRecDepth 20000 in
theorem tX10_put_3 {Γ : GE} {l : Launch} {x1 : Int32} {x2 : Int32} {σ : SS} {K : Option Value → SS → Prop}  (hyp : (x2 < 0 → (K none σ)) ∧ (¬ (x2 < 0) → (vp_in (σ.1 284 2) 2000 ∧ (∀ s1_ : SS, s1_ = sI σ 285 (Int32.toNatClampNeg (σ.1 284 2)) (vp_nar .byte ((Int32.toInt8 (x1 >>> (x2 &&& 31))).toInt32)) → (∀ s2_ : SS, s2_ = sI s1_ 284 2 ((s1_.1 284 2) + 1) → (wX10_put_3 Γ l x1 (x2 + (-8)) s2_ K)))))) : wX10_put_3 Γ l x1 x2 σ K := by
  show G2 Γ l mX10_put 3 [(0, .ref 284), (1, .int x1), (2, .int x2)] [] σ K
  refine r_iload_n (dcx dX10_put_c0 2 rfl) 2 rfl ?_
  refine r_if_lt (tgt := 36) (dcx dX10_put_c0 3 rfl) (by decide) (fun q_ => ?_) (fun q_ => ?_)
  · have hyp := hyp.1 q_
    exact s_vret rfl hyp (dcx dX10_put_c0 21 rfl)
  · have hyp := hyp.2 q_
    refine r_aload_n (dcx dX10_put_c0 4 rfl) 0 rfl ?_
    refine s_getr (b := 285) fX10_13 (dcx dX10_put_c0 5 rfl) F284_1 ?_
    refine r_aload_n (dcx dX10_put_c0 6 rfl) 0 rfl ?_
    refine s_geti fX10_178 (dcx dX10_put_c0 7 rfl) F284_2 ?_
    refine r_iload_n (dcx dX10_put_c0 8 rfl) 1 rfl ?_
    refine r_iload_n (dcx dX10_put_c0 9 rfl) 2 rfl ?_
    refine r_ishr (dcx dX10_put_c0 10 rfl) ?_
    refine r_i2b (dcx dX10_put_c0 11 rfl) ?_
    obtain ⟨hb_, hyp⟩ := hyp
    refine s_bast (dcx dX10_put_c0 12 rfl) A285 hb_ ?_
    obtain ⟨s1_, es1_⟩ : ∃ z : SS, z = sI σ 285 (Int32.toNatClampNeg (σ.1 284 2)) (vp_nar .byte ((Int32.toInt8 (x1 >>> (x2 &&& 31))).toInt32)) := ⟨_, rfl⟩
    rw [← es1_]
    have hyp := hyp s1_ es1_
    refine r_aload_n (dcx dX10_put_c0 13 rfl) 0 rfl ?_
    refine r_dup (dcx dX10_put_c0 14 rfl) rfl ?_
    refine s_geti fX10_178 (dcx dX10_put_c0 15 rfl) F284_2 ?_
    refine r_iconst (v := 1) (dcx dX10_put_c0 16 rfl) rfl ?_
    refine r_iadd (dcx dX10_put_c0 17 rfl) ?_
    refine s_puti gX10_178 (dcx dX10_put_c0 18 rfl) F284_2 ?_
    obtain ⟨s2_, es2_⟩ : ∃ z : SS, z = sI s1_ 284 2 ((s1_.1 284 2) + 1) := ⟨_, rfl⟩
    rw [← es2_]
    have hyp := hyp s2_ es2_
    refine r_iinc (lv1 := [(2, .int (x2 + (-8))), (0, .ref 284), (1, .int x1)]) (dcx dX10_put_c0 19 rfl) 2 rfl (Nat.le_of_ble_eq_true rfl) rfl ?_
    refine r_goto (tgt := 3) (dcx dX10_put_c0 20 rfl) (by decide) ?_
    refine r_loc (lv1 := [(0, .ref 284), (1, .int x1), (2, .int (x2 + (-8)))]) [1, 2, 0] rfl ?_
    exact hyp
set_option maxHeartbeats 4000000 in
set_option maxRecDepth 20000 in
theorem tX10_back {Γ : GE} {l : Launch} {x1 : Int32} {σ : SS} {K : Option Value → SS → Prop}  (hyp : (x1 < 0 → (K (some (.int ((-1)))) σ)) ∧ (¬ (x1 < 0) → ((x1 ≤ (σ.1 284 2) → (∀ s1_ : SS, s1_ = sI σ 284 2 ((σ.1 284 2) - x1) → (K (some (.int (s1_.1 284 2))) s1_))) ∧ (¬ (x1 ≤ (σ.1 284 2)) → (K (some (.int ((-1)))) σ))))) : C2 Γ l mX10_back [.ref 284, .int x1] σ K := by
  refine c2_of (lv := [(0, .ref 284), (1, .int x1)]) (by decide) (Nat.le_of_ble_eq_true rfl) rfl ?_
  refine r_iload_n (dcx dX10_back_c0 0 rfl) 1 rfl ?_
  refine r_if_lt (tgt := 12) (dcx dX10_back_c0 1 rfl) (by decide) (fun q_ => ?_) (fun q_ => ?_)
  · have hyp := hyp.1 q_
    refine r_iconst (v := (-1)) (dcx dX10_back_c0 6 rfl) rfl ?_
    exact s_ret rfl rfl rfl hyp (dcx dX10_back_c0 7 rfl)
  · have hyp := hyp.2 q_
    refine r_iload_n (dcx dX10_back_c0 2 rfl) 1 rfl ?_
    refine r_aload_n (dcx dX10_back_c0 3 rfl) 0 rfl ?_
    refine s_geti fX10_178 (dcx dX10_back_c0 4 rfl) F284_2 ?_
    refine r_icmp_le (tgt := 14) (dcx dX10_back_c0 5 rfl) (by decide) (fun q_ => ?_) (fun q_ => ?_)
    · have hyp := hyp.1 q_
      refine r_aload_n (dcx dX10_back_c0 8 rfl) 0 rfl ?_
      refine r_dup (dcx dX10_back_c0 9 rfl) rfl ?_
      refine s_geti fX10_178 (dcx dX10_back_c0 10 rfl) F284_2 ?_
      refine r_iload_n (dcx dX10_back_c0 11 rfl) 1 rfl ?_
      refine r_isub (dcx dX10_back_c0 12 rfl) ?_
      refine s_puti gX10_178 (dcx dX10_back_c0 13 rfl) F284_2 ?_
      obtain ⟨s1_, es1_⟩ : ∃ z : SS, z = sI σ 284 2 ((σ.1 284 2) - x1) := ⟨_, rfl⟩
      rw [← es1_]
      have hyp := hyp s1_ es1_
      refine r_aload_n (dcx dX10_back_c0 14 rfl) 0 rfl ?_
      refine s_geti fX10_178 (dcx dX10_back_c0 15 rfl) F284_2 ?_
      exact s_ret rfl rfl rfl hyp (dcx dX10_back_c0 16 rfl)
    · have hyp := hyp.2 q_
      refine r_iconst (v := (-1)) (dcx dX10_back_c0 6 rfl) rfl ?_
      exact s_ret rfl rfl rfl hyp (dcx dX10_back_c0 7 rfl)
set_option maxHeartbeats 4000000 in
set_option maxRecDepth 20000 in
theorem tX10_byteAt {Γ : GE} {l : Launch} {x1 : Int32} {σ : SS} {K : Option Value → SS → Prop}  (hyp : ((σ.1 284 4) ≤ x1 → (K (some (.int 0)) σ)) ∧ (¬ ((σ.1 284 4) ≤ x1) → (vp_in x1 2000 ∧ (K (some (.int ((σ.1 286 (Int32.toNatClampNeg x1)) &&& 255))) σ)))) : C2 Γ l mX10_byteAt [.ref 284, .int x1] σ K := by
  refine c2_of (lv := [(0, .ref 284), (1, .int x1)]) (by decide) (Nat.le_of_ble_eq_true rfl) rfl ?_
  refine r_iload_n (dcx dX10_byteAt_c0 0 rfl) 1 rfl ?_
  refine r_aload_n (dcx dX10_byteAt_c0 1 rfl) 0 rfl ?_
  refine s_geti fX10_184 (dcx dX10_byteAt_c0 2 rfl) F284_4 ?_
  refine r_icmp_ge (tgt := 21) (dcx dX10_byteAt_c0 3 rfl) (by decide) (fun q_ => ?_) (fun q_ => ?_)
  · have hyp := hyp.1 q_
    refine r_iconst (v := 0) (dcx dX10_byteAt_c0 11 rfl) rfl ?_
    exact s_ret rfl rfl rfl hyp (dcx dX10_byteAt_c0 12 rfl)
  · have hyp := hyp.2 q_
    refine r_aload_n (dcx dX10_byteAt_c0 4 rfl) 0 rfl ?_
    refine s_getr (b := 286) fX10_17 (dcx dX10_byteAt_c0 5 rfl) F284_3 ?_
    refine r_iload_n (dcx dX10_byteAt_c0 6 rfl) 1 rfl ?_
    obtain ⟨hb_, hyp⟩ := hyp
    refine s_bald (dcx dX10_byteAt_c0 7 rfl) A286 hb_ ?_
    refine r_sipush (v := 255) (dcx dX10_byteAt_c0 8 rfl) rfl ?_
    refine r_iand (dcx dX10_byteAt_c0 9 rfl) ?_
    refine r_goto (tgt := 22) (dcx dX10_byteAt_c0 10 rfl) (by decide) ?_
    exact s_ret rfl rfl rfl hyp (dcx dX10_byteAt_c0 12 rfl)
set_option maxHeartbeats 4000000 in
set_option maxRecDepth 20000 in
theorem tX10_isDigit {Γ : GE} {l : Launch} {x0 : Int32} {σ : SS} {K : Option Value → SS → Prop}  (hyp : (x0 < 48 → (K (some (.int 0)) σ)) ∧ (¬ (x0 < 48) → (((57 : Int32) < x0 → (K (some (.int 0)) σ)) ∧ (¬ ((57 : Int32) < x0) → (K (some (.int 1)) σ))))) : C2 Γ l mX10_isDigit [.int x0] σ K := by
  refine c2_of (lv := [(0, .int x0)]) (by decide) (Nat.le_of_ble_eq_true rfl) rfl ?_
  refine r_iload_n (dcx dX10_isDigit_c0 0 rfl) 0 rfl ?_
  refine r_bipush (v := 48) (dcx dX10_isDigit_c0 1 rfl) rfl ?_
  refine r_icmp_lt (tgt := 16) (dcx dX10_isDigit_c0 2 rfl) (by decide) (fun q_ => ?_) (fun q_ => ?_)
  · have hyp := hyp.1 q_
    refine r_iconst (v := 0) (dcx dX10_isDigit_c0 8 rfl) rfl ?_
    exact s_ret rfl rfl rfl hyp (dcx dX10_isDigit_c0 9 rfl)
  · have hyp := hyp.2 q_
    refine r_iload_n (dcx dX10_isDigit_c0 3 rfl) 0 rfl ?_
    refine r_bipush (v := 57) (dcx dX10_isDigit_c0 4 rfl) rfl ?_
    refine r_icmp_gt (tgt := 16) (dcx dX10_isDigit_c0 5 rfl) (by decide) (fun q_ => ?_) (fun q_ => ?_)
    · have hyp := hyp.1 q_
      refine r_iconst (v := 0) (dcx dX10_isDigit_c0 8 rfl) rfl ?_
      exact s_ret rfl rfl rfl hyp (dcx dX10_isDigit_c0 9 rfl)
    · have hyp := hyp.2 q_
      refine r_iconst (v := 1) (dcx dX10_isDigit_c0 6 rfl) rfl ?_
      refine r_goto (tgt := 17) (dcx dX10_isDigit_c0 7 rfl) (by decide) ?_
      exact s_ret rfl rfl rfl hyp (dcx dX10_isDigit_c0 9 rfl)
set_option maxHeartbeats 4000000 in
set_option maxRecDepth 20000 in
theorem tX10_isLetter {Γ : GE} {l : Launch} {x0 : Int32} {σ : SS} {K : Option Value → SS → Prop}  (hyp : (x0 < 97 → (K (some (.int 0)) σ)) ∧ (¬ (x0 < 97) → (((122 : Int32) < x0 → (K (some (.int 0)) σ)) ∧ (¬ ((122 : Int32) < x0) → (K (some (.int 1)) σ))))) : C2 Γ l mX10_isLetter [.int x0] σ K := by
  refine c2_of (lv := [(0, .int x0)]) (by decide) (Nat.le_of_ble_eq_true rfl) rfl ?_
  refine r_iload_n (dcx dX10_isLetter_c0 0 rfl) 0 rfl ?_
  refine r_bipush (v := 97) (dcx dX10_isLetter_c0 1 rfl) rfl ?_
  refine r_icmp_lt (tgt := 16) (dcx dX10_isLetter_c0 2 rfl) (by decide) (fun q_ => ?_) (fun q_ => ?_)
  · have hyp := hyp.1 q_
    refine r_iconst (v := 0) (dcx dX10_isLetter_c0 8 rfl) rfl ?_
    exact s_ret rfl rfl rfl hyp (dcx dX10_isLetter_c0 9 rfl)
  · have hyp := hyp.2 q_
    refine r_iload_n (dcx dX10_isLetter_c0 3 rfl) 0 rfl ?_
    refine r_bipush (v := 122) (dcx dX10_isLetter_c0 4 rfl) rfl ?_
    refine r_icmp_gt (tgt := 16) (dcx dX10_isLetter_c0 5 rfl) (by decide) (fun q_ => ?_) (fun q_ => ?_)
    · have hyp := hyp.1 q_
      refine r_iconst (v := 0) (dcx dX10_isLetter_c0 8 rfl) rfl ?_
      exact s_ret rfl rfl rfl hyp (dcx dX10_isLetter_c0 9 rfl)
    · have hyp := hyp.2 q_
      refine r_iconst (v := 1) (dcx dX10_isLetter_c0 6 rfl) rfl ?_
      refine r_goto (tgt := 17) (dcx dX10_isLetter_c0 7 rfl) (by decide) ?_
      exact s_ret rfl rfl rfl hyp (dcx dX10_isLetter_c0 9 rfl)
