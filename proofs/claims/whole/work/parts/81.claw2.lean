/-! the class: a law is read, behind a unit; the loop -/
theorem ck_h : ∀ c, c < 42 → (nI (ckK c) = 41 ↔ c = 7) ∧ (nI (ckK c) = 60 ↔ c = 13) ∧ (nI (ckK c) = 111 ↔ c = 31) ∧ (nI (ckK c) = 112 ↔ c = 32) ∧ (nI (ckK c) = 59 ↔ c = 4) := by decide +kernel
section P3
variable {Γ : GE} {l : Launch} {σ τ : SS} {K : Option Value → SS → Prop} {T : List Nat} {w : Nat}
theorem LC.cong {ws : List Int32} (h : LC σ w ws) (h1 : τ.1 w = σ.1 w) (h2 : τ.1 (w + 1) = σ.1 (w + 1)) : LC τ w ws := by
  unfold LC
  rw [h1, h2]
  exact h
theorem c_hearBehind {ρ : Type} {kk : Nat → LawV → Rs ρ} {R : Rs ρ} {n a m ph op ifs : Nat} {ws : List Nat} {cur e1 e2 : Ex} {br : LawV} (hw : isW w) (h : LMs σ w ph false op ifs ws cur e1 e2 br) (hi : LAi m ph false op ifs ws cur e1 e2 br) (hm : m ≤ 398)
    (hR : pAut T kk (n + 1) a ph false op ifs ws cur e1 e2 br = R)
    (herr : ∀ s, s = 1 ∨ s = 2 → R = .error (s, tkP T a) → ∀ τ, FL w σ τ → K (some (.int (nI s))) τ)
    (hok : ∀ τ, FL w σ τ → NXT T kk n a m w R τ → tkK T a ≠ 0 → tkK T a ≠ 3 → K (some (.int 0)) τ) : C2 Γ l mX3_hearBehindUnit [.ref 8, .int (nI (ckK (tkK T a)))] σ K := by
  obtain ⟨w8, w8', w9, w9', -, -, -⟩ := isW_n hw
  have k42 := (tk_kind T a).2.2
  obtain ⟨u1, u2, u3, u4, u5⟩ := ck_h _ k42
  obtain ⟨l1, l2, l3, l4, l5, l6, l7⟩ := id h
  obtain ⟨i1, i2, i3, i4, i5, i6, i7, i8, i9, i10, i11⟩ := id hi
  obtain ⟨wl1, wl2, wl3, wl4⟩ := ws_len ws i4
  have bl : (encB 0 br ++ phW ph e1 e2).length = brN br + phN ph e1 e2 := by
    rw [List.length_append, encB_len br 0 i10, phW_len]
  have b4 := ws_42 ws i4
  have hn : ((encB 0 br ++ phW ph e1 e2) ++ cur.map encO).length + nop ws ≤ 400 := by
    rw [LMw_len (ws := ws), bl]
    omega
  have bb : bnd (tkK T a) = 0 ∨ bnd (tkK T a) = 1 ∨ bnd (tkK T a) = 2 := by
    unfold bnd
    split
    · omega
    · split <;> omega
  rw [pAut] at hR
  refine tX3_hearBehindUnit (c_bind k42 (ri ?_))
  rw [show (0 : Int32) = nI 0 from rfl, nI_leI (by omega) (by omega)]
  refine ⟨fun q => ?_, fun q => ?_⟩
  · rw [if_neg (by omega)] at hR
    rw [l3, nI_eq (b := 0) (by omega) (by omega), u1]
    refine ⟨fun o => ⟨fun c => ?_, fun c => ?_⟩, fun o => ?_⟩
    · rw [if_neg o, if_pos c] at hR
      obtain ⟨⟨r, hr⟩, hi2⟩ := LAi_close hi o
      refine c_settle (b := 1) hw (Or.inl rfl) i4 b4 l1 (by omega) hn (fun s3 f3 m3 => rv (fun s5 e5 s6 e6 => ?_))
      obtain ⟨m1, m2, m3', m4⟩ := id m3
      rw [hr, List.length_cons] at m2
      have rl : r.length < 100 := by
        have z1 := (ws_len _ (stW_ok (b := 1) ws i4).1).1
        have z2 := (stW_ok (b := 1) ws i4).2.2 (by omega)
        have z3 := (ws_len _ (stW_ok (b := 1) ws i4).1).2.2.1
        rw [hr, List.length_cons] at z1
        rw [hr] at z2 z3
        omega
      rw [m2, nI_pred, imx_n (by omega) (by omega), Nat.max_eq_right (Nat.zero_le _)] at e5
      have g4 : s5.1 8 4 = nI op := by
        rw [e5, sI_at, if_neg (by omega), f3.2.1 4 (by omega)]
        exact l3
      have eop : nI op - 1 = nI (op - 1) := by
        have := nI_pred (op - 1)
        rw [show op - 1 + 1 = op by omega] at this
        exact this
      rw [g4, eop] at e6
      have i8' : ∀ j, j ≠ 1 → j ≠ 4 → s6.1 8 j = σ.1 8 j := fun j j1 j4 => by rw [e6, sI_at, if_neg (fun z => j4 z.2), e5, sI_at, if_neg (fun z => j1 z.2), f3.2.1 j j1]
      have ro : ∀ b, b ≠ 8 → s6.1 b = s3.1 b := fun b hb => by rw [e6, sI_row, sA_off2 _ _ hb, e5, sI_row, sA_off2 _ _ hb]
      have rr : s6.2 = s3.2 := by rw [e6, e5]; rfl
      rw [hr] at m3' hi2
      refine hok s6 (by rw [e6, e5]; exact f3.fl.w8.w8) (Or.inl ⟨ph, false, op - 1, ifs, (stW 1 ws).tail, stE 1 ws cur, e1, e2, br, hR, ⟨⟨by rw [rr]; exact m1, ?_, ?_, m4.cong (ro w w8.symm) (ro (w + 1) w8'.symm)⟩, by rw [i8' 3 (by omega) (by omega)]; exact l2, by rw [e6, sI_at, if_pos ⟨rfl, rfl⟩], by rw [i8' 5 (by omega) (by omega)]; exact l4, by rw [i8' 7 (by omega) (by omega)]; exact l5, by rw [i8' 8 (by omega) (by omega)]; exact l6, fun z => by rw [i8' 6 (by omega) (by omega)]; exact l7 z⟩, by rw [hr]; exact hi2⟩) (by omega) (by omega)
      · rw [e6, sI_at, if_neg (by omega), e5, sI_at, if_pos ⟨rfl, rfl⟩, hr]
        rfl
      · rw [ro 9 (by omega), hr]
        exact m3'.2
    · rw [if_neg o, if_neg c] at hR
      exact herr 1 (Or.inl rfl) hR.symm σ FL.rf
    · rw [if_pos o] at hR
      subst o
      obtain ⟨x1, x2, x3⟩ := LAi_end hi
      have err1 : R = .error (1, tkP T a) → K (some (.int 1)) σ := fun e => herr 1 (Or.inl rfl) e σ FL.rf
      -- what waits comes out
      have settle : ∀ {K2 : Option Value → SS → Prop}, (∀ τ, FS w σ τ → τ.2.2 8 2 = w → τ.1 8 1 = 0 → LC τ w ((encB 0 br ++ phW ph e1 e2) ++ (stE 1 ws cur).map encO) → K2 none τ) → C2 Γ l mX3_settle [.ref 8, .int 1] σ K2 := fun hk => c_settle (b := 1) hw (Or.inl rfl) i4 b4 l1 (by omega) hn (fun τ f mw => hk τ f mw.1 (by rw [mw.2.1, x1]; rfl) mw.2.2.2)
      have ln : ((encB 0 br ++ phW ph e1 e2) ++ (stE 1 ws cur).map encO).length = brN br + phN ph e1 e2 + (cur.length + nop ws) := by
        rw [LMw_len (ws := ws), bl, x3]
      have p172 : R = .error (1, tkP T a) → wX3_hearEndOfE_172 Γ l σ (Ri fun r8_ s7_ => K (some (.int r8_)) s7_) := fun e => tX3_hearEndOfE_172 (ri (err1 e))
      have p136 : ¬ (tkK T a = 13 ∧ ph = 1) → ¬ (tkK T a = 31 ∧ ph = 2) → ¬ (tkK T a = 32 ∧ ph = 3) → wX3_hearEndOfE_136 Γ l (nI (ckK (tkK T a))) σ (Ri fun r8_ s7_ => K (some (.int r8_)) s7_) := by
        intro n1 n2 n3
        rw [if_neg n1, if_neg n2, if_neg n3] at hR
        refine tX3_hearEndOfE_136 ?_
        rw [u5, l2, show (4 : Int32) = nI 4 from rfl, nI_eq (by omega) (by omega)]
        refine ⟨fun z => p172 (by rw [if_neg (fun y => z y.1)] at hR; exact hR.symm), fun z => ⟨fun y => p172 (by rw [if_neg (fun t => y t.2)] at hR; exact hR.symm), fun y => settle (fun s1 f1 r1 _ lc => rv ⟨w, r1, hw, c_put hw lc (by omega) (fun s4 f4 r4 l4' => rv (fun s6 e6 => tX3_hearEndOfE_174 (fun s7 e7 => ri ?_)))⟩)⟩⟩
        rw [if_pos ⟨z, y⟩] at hR
        subst y
        have fl4 : FL w σ s4 := f1.fl.tr ⟨fun c _ _ c3 c4 => f4 c c3 c4, r4⟩
        refine hok s7 (by rw [e7, e6]; exact fl4.w8.w8) (Or.inr ⟨br, stE 1 ws cur, hR, ?_, okL_of br _ i10 x2, ?_, i10, x2, ?_⟩) (by omega) (by omega)
        · rw [encL_app br 0 _ i10]
          have e0 : phW 4 e1 e2 = [] := rfl
          rw [e0, List.append_nil, List.append_assoc] at l4'
          refine l4'.cong ?_ ?_
          · rw [e7, sI_row, sA_off2 _ _ w8.symm, e6, sI_row, sA_off2 _ _ w8.symm]
          · rw [e7, sI_row, sA_off2 _ _ w8'.symm, e6, sI_row, sA_off2 _ _ w8'.symm]
        · rw [e7, sI_at, if_neg (by omega), e6, sI_at, if_pos ⟨rfl, rfl⟩]
        · have p0 : phN 4 e1 e2 = 0 := rfl
          omega
      have p82 : ¬ (tkK T a = 13 ∧ ph = 1) → ¬ (tkK T a = 31 ∧ ph = 2) → wX3_hearEndOfE_82 Γ l (nI (ckK (tkK T a))) σ (Ri fun r8_ s7_ => K (some (.int r8_)) s7_) := by
        intro n1 n2
        refine tX3_hearEndOfE_82 ?_
        rw [u4, l2, show (3 : Int32) = nI 3 from rfl, nI_eq (by omega) (by omega)]
        refine ⟨fun z => p136 n1 n2 (fun y => z y.1), fun z => ⟨fun y => p136 n1 n2 (fun t => y t.2), fun y => settle (fun s1 f1 r1 g1 lc => rv ⟨w, r1, hw, c_put hw lc (by omega) (fun s4 f4 r4 l4' => rv ?_)⟩)⟩⟩
        rw [if_neg n1, if_neg n2, if_pos ⟨z, y⟩] at hR
        subst y
        have r42 : s4.2.2 8 2 = w := by rw [r4]; exact r1
        refine ⟨w, r42, hw, w, r42, hw, ?_⟩
        have h6 : s4.1 8 6 = nI (brN br + (e1.length + e2.length + 1)) := by
          rw [f4 8 w8 w8', f1.2.1 6 (by omega)]
          exact l7 rfl
        have p0 : phN 3 e1 e2 = e1.length + e2.length + 2 := rfl
        have l4n := l4'.2.1
        rw [List.length_append, List.length_singleton, ln] at l4n
        rw [h6, l4n]
        refine tX2_fill hw ⟨fun t => absurd t (nI_pos (by omega)), fun _ => ?_⟩
        rw [l4n, nI_leI (by omega) (by omega)]
        refine ⟨fun t => absurd t (by omega), fun _ => ⟨vp_in_nI (by omega) (by omega), fun s8 e8 => rv (fun s10 e10 => tX3_hearEndOfE_174 (fun s11 e11 => ri ?_))⟩⟩
        rw [nI_clamp (by omega)] at e8
        have fl4 : FL w σ s4 := f1.fl.tr ⟨fun c _ _ c3 c4 => f4 c c3 c4, r4⟩
        have fl8 : FL w σ s8 := by
          rw [e8]
          exact ⟨fun c c1 c2 c3 c4 => by rw [sI_row, sA_off2 _ _ c4]; exact fl4.1 c c1 c2 c3 c4, fl4.2⟩
        have r8 : ∀ j, j ≠ 3 → j ≠ 7 → s11.1 8 j = s4.1 8 j := fun j j3 j7 => by rw [e11, sI_at, if_neg (fun t => j7 t.2), e10, sI_at, if_neg (fun t => j3 t.2), e8, sI_row, sA_off2 _ _ w8']
        have rw_ : s11.1 w = s4.1 w := by rw [e11, sI_row, sA_off2 _ _ w8.symm, e10, sI_row, sA_off2 _ _ w8.symm, e8, sI_row, sA_off2 _ _ (by omega)]
        have rw1 : s11.1 (w + 1) = upd (s4.1 (w + 1)) (brN br + (e1.length + e2.length + 1)) (nI (brN br + (e1.length + e2.length + 2) + (cur.length + nop ws) + 1)) := by
          rw [e11, sI_row, sA_off2 _ _ w8'.symm, e10, sI_row, sA_off2 _ _ w8'.symm, e8, sI_row, sA_row, p0]
        have hi2 := LAi_else hi
        have lcf : LC s11 w (encB 0 (br ++ [(some (e1, e2), stE 1 ws cur)]) ++ phW 0 ([] : Ex) ([] : Ex) ++ ([] : Ex).map encO) := by
          have eW : phW 3 e1 e2 = e1.map encO ++ (e2.map encO ++ [-101, 0]) := rfl
          have e0 : phW 0 ([] : Ex) ([] : Ex) = [] := rfl
          rw [eW] at l4'
          rw [e0, encB_app br 0 _ i10, Nat.zero_add]
          have eB : encB (brN br) [(some (e1, e2), stE 1 ws cur)] = e1.map encO ++ (e2.map encO ++ ([-101, nI (brN br + (e1.length + e2.length + (stE 1 ws cur).length + 3))] ++ ((stE 1 ws cur).map encO ++ ([-100] ++ [])))) := rfl
          rw [eB]
          obtain ⟨q1, q2, q3⟩ := l4'
          have lenE : (encB 0 br ++ (e1.map encO ++ (e2.map encO ++ ([-101, nI (brN br + (e1.length + e2.length + (stE 1 ws cur).length + 3))] ++ ((stE 1 ws cur).map encO ++ ([-100] ++ [])))))).length = (encB 0 br ++ (e1.map encO ++ (e2.map encO ++ [-101, 0])) ++ (stE 1 ws cur).map encO ++ [-100]).length := by
            simp only [List.length_append, List.length_map, List.length_cons, List.length_nil]
            omega
          refine ⟨?_, ?_, ?_⟩
          · simp only [List.append_nil, List.map_nil]
            rw [← List.append_nil [(-100 : Int32)], lenE]
            exact q1
          · simp only [List.append_nil, List.map_nil]
            rw [← List.append_nil [(-100 : Int32)], lenE, rw_]
            exact q2
          · simp only [List.append_nil, List.map_nil]
            have lB := encB_len br 0 i10
            have a1 : At (s4.1 (w + 1)) 0 (encB 0 br) := q3.left.left.left
            have a2 := q3.left.left.right
            rw [Nat.zero_add, lB] at a2
            have a3 : At (s4.1 (w + 1)) (brN br) (e1.map encO) := a2.left
            have a4 := a2.right
            rw [List.length_map] at a4
            have a5 : At (s4.1 (w + 1)) (brN br + e1.length) (e2.map encO) := a4.left
            have a6 := a4.right
            rw [List.length_map] at a6
            have a7 : s4.1 (w + 1) (brN br + e1.length + e2.length) = -101 := a6.head
            have a8 := q3.left.right
            simp only [List.length_append, List.length_map, List.length_cons, List.length_nil, lB, Nat.zero_add] at a8
            have a9 := q3.right
            simp only [List.length_append, List.length_map, List.length_cons, List.length_nil, lB, Nat.zero_add] at a9
            rw [rw1]
            refine At_app (At_upd a1 (Or.inr (by rw [lB]; omega))) ?_
            rw [Nat.zero_add, lB]
            refine At_app (At_upd a3 (Or.inr (by rw [List.length_map]; omega))) ?_
            rw [List.length_map]
            refine At_app (At_upd a5 (Or.inr (by rw [List.length_map]; omega))) ?_
            rw [List.length_map]
            refine At_app (a := [-101, nI (brN br + (e1.length + e2.length + (stE 1 ws cur).length + 3))]) (fun j hj => ?_) ?_
            · match j, hj with
              | 0, _ =>
                rw [pk_un (by omega), Nat.add_zero]
                exact a7
              | 1, _ =>
                show upd _ _ _ (brN br + e1.length + e2.length + 1) = nI _
                rw [show brN br + e1.length + e2.length + 1 = brN br + (e1.length + e2.length + 1) by omega, pk_us]
                congr 1
                omega
              | j + 2, hj => exact absurd hj (by simp)
            · show At _ (brN br + e1.length + e2.length + 2) _
              refine At_app (At_upd (by rw [show brN br + e1.length + e2.length + 2 = brN br + (e1.length + (e2.length + (0 + 1 + 1))) by omega]; exact a8) (Or.inl (by omega))) ?_
              refine At_upd ?_ (Or.inl (by omega))
              rw [List.length_map]
              rw [show brN br + e1.length + e2.length + 2 + (stE 1 ws cur).length = brN br + (e1.length + (e2.length + (0 + 1 + 1))) + (stE 1 ws cur).length by omega]
              exact a9
        refine hok s11 (by rw [e11, e10]; exact fl8.w8.w8) (Or.inl ⟨0, true, 0, ifs, [], [], [], [], br ++ [(some (e1, e2), stE 1 ws cur)], hR, ⟨⟨by rw [e11, e10, e8]; exact r42, ?_, trivial, lcf⟩, ?_, ?_, ?_, ?_, ?_, fun t => absurd t (by decide)⟩, hi2⟩) (by omega) (by omega)
        · rw [r8 1 (by omega) (by omega), f4 8 w8 w8', g1]
          rfl
        · rw [e11, sI_at, if_neg (by omega), e10, sI_at, if_pos ⟨rfl, rfl⟩]
          rfl
        · rw [r8 4 (by omega) (by omega), f4 8 w8 w8', f1.2.1 4 (by omega)]
          exact l3
        · rw [r8 5 (by omega) (by omega), f4 8 w8 w8', f1.2.1 5 (by omega)]
          exact l4
        · rw [e11, sI_at, if_pos ⟨rfl, rfl⟩]
          rfl
        · rw [r8 8 (by omega) (by omega), f4 8 w8 w8', f1.2.1 8 (by omega)]
          exact l6
      have p27 : ¬ (tkK T a = 13 ∧ ph = 1) → wX3_hearEndOfE_27 Γ l (nI (ckK (tkK T a))) σ (Ri fun r8_ s7_ => K (some (.int r8_)) s7_) := by
        intro n1
        refine tX3_hearEndOfE_27 ?_
        rw [u3, l2, show (2 : Int32) = nI 2 from rfl, nI_eq (by omega) (by omega)]
        refine ⟨fun z => p82 n1 (fun y => z y.1), fun z => ⟨fun y => p82 n1 (fun t => y t.2), fun y => settle (fun s1 f1 r1 g1 lc => rv ⟨w, r1, hw, c_put hw lc (by omega) (fun s4 f4 r4 l4' => rv ?_)⟩)⟩⟩
        rw [if_neg n1, if_pos ⟨z, y⟩] at hR
        subst y
        have r42 : s4.2.2 8 2 = w := by rw [r4]; exact r1
        have p0 : phN 2 e1 e2 = e1.length := rfl
        have l4n := l4'.2.1
        rw [List.length_append, List.length_singleton, ln] at l4n
        refine ⟨w, r42, hw, fun s7 e7 => ?_⟩
        rw [l4n] at e7
        have l7' : LC s7 w (encB 0 br ++ phW 2 e1 e2 ++ (stE 1 ws cur).map encO ++ [-101]) := l4'.cong (by rw [e7, sI_row, sA_off2 _ _ w8.symm]) (by rw [e7, sI_row, sA_off2 _ _ w8'.symm])
        refine ⟨w, by rw [e7]; exact r42, hw, c_put hw l7' (by rw [List.length_append, List.length_singleton, ln]; omega) (fun s9 f9 r9 l9 => rv (fun s11 e11 => tX3_hearEndOfE_174 (fun s12 e12 => ri ?_)))⟩
        have fl7 : FL w σ s7 := by
          rw [e7]
          exact (f1.fl.tr ⟨fun c _ _ c3 c4 => f4 c c3 c4, r4⟩).w8
        have fl9 : FL w σ s9 := fl7.tr ⟨fun c _ _ c3 c4 => f9 c c3 c4, r9⟩
        have r8 : ∀ j, j ≠ 3 → j ≠ 7 → j ≠ 6 → s12.1 8 j = s1.1 8 j := fun j j3 j7 j6 => by rw [e12, sI_at, if_neg (fun t => j7 t.2), e11, sI_at, if_neg (fun t => j3 t.2), f9 8 w8 w8', e7, sI_at, if_neg (fun t => j6 t.2), f4 8 w8 w8']
        have lcf : LC s12 w (encB 0 br ++ phW 3 e1 (stE 1 ws cur) ++ ([] : Ex).map encO) := by
          have eW : phW 2 e1 e2 = e1.map encO := rfl
          have eW3 : phW 3 e1 (stE 1 ws cur) = e1.map encO ++ ((stE 1 ws cur).map encO ++ [-101, 0]) := rfl
          rw [eW] at l9
          rw [eW3, List.map_nil, List.append_nil]
          rw [show (encB 0 br ++ e1.map encO ++ (stE 1 ws cur).map encO ++ [-101] ++ [0] : List Int32) = encB 0 br ++ (e1.map encO ++ ((stE 1 ws cur).map encO ++ [-101, 0])) by simp only [List.append_assoc, List.cons_append, List.nil_append]] at l9
          exact l9.cong (by rw [e12, sI_row, sA_off2 _ _ w8.symm, e11, sI_row, sA_off2 _ _ w8.symm]) (by rw [e12, sI_row, sA_off2 _ _ w8'.symm, e11, sI_row, sA_off2 _ _ w8'.symm])
        refine hok s12 (by rw [e12, e11]; exact fl9.w8.w8) (Or.inl ⟨3, true, 0, ifs, [], [], e1, stE 1 ws cur, br, hR, ⟨⟨by rw [e12, e11]; show s9.2.2 8 2 = w; rw [r9, e7]; exact r42, ?_, trivial, lcf⟩, ?_, ?_, ?_, ?_, ?_, fun _ => ?_⟩, LAi_then hi⟩) (by omega) (by omega)
        · rw [r8 1 (by omega) (by omega) (by omega), g1]
          rfl
        · rw [e12, sI_at, if_neg (by omega), e11, sI_at, if_pos ⟨rfl, rfl⟩]
          rfl
        · rw [r8 4 (by omega) (by omega) (by omega), f1.2.1 4 (by omega)]
          exact l3
        · rw [r8 5 (by omega) (by omega) (by omega), f1.2.1 5 (by omega)]
          exact l4
        · rw [e12, sI_at, if_pos ⟨rfl, rfl⟩]
          rfl
        · rw [r8 8 (by omega) (by omega) (by omega), f1.2.1 8 (by omega)]
          exact l6
        · rw [e12, sI_at, if_neg (by omega), e11, sI_at, if_neg (by omega), f9 8 w8 w8', e7, sI_at, if_pos ⟨rfl, rfl⟩]
          congr 1
          omega
      refine tX3_hearEndOfE ?_
      rw [u2, l2, show (1 : Int32) = nI 1 from rfl, nI_eq (by omega) (by omega)]
      refine ⟨fun z => p27 (fun y => z y.1), fun z => ⟨fun y => p27 (fun t => y t.2), fun y => settle (fun s1 f1 r1 g1 lc => rv (fun s3 e3 => tX3_hearEndOfE_174 (fun s4 e4 => ri ?_)))⟩⟩
      rw [if_pos ⟨z, y⟩] at hR
      subst y
      have r8 : ∀ j, j ≠ 3 → j ≠ 7 → s4.1 8 j = s1.1 8 j := fun j j3 j7 => by rw [e4, sI_at, if_neg (fun t => j7 t.2), e3, sI_at, if_neg (fun t => j3 t.2)]
      have lcf : LC s4 w (encB 0 br ++ phW 2 (stE 1 ws cur) [] ++ ([] : Ex).map encO) := by
        have eW : phW 1 e1 e2 = [] := rfl
        have eW2 : phW 2 (stE 1 ws cur) [] = (stE 1 ws cur).map encO := rfl
        rw [eW, List.append_nil] at lc
        rw [eW2, List.map_nil, List.append_nil]
        exact lc.cong (by rw [e4, sI_row, sA_off2 _ _ w8.symm, e3, sI_row, sA_off2 _ _ w8.symm]) (by rw [e4, sI_row, sA_off2 _ _ w8'.symm, e3, sI_row, sA_off2 _ _ w8'.symm])
      refine hok s4 (by rw [e4, e3]; exact f1.fl.w8.w8) (Or.inl ⟨2, true, 0, ifs, [], [], stE 1 ws cur, [], br, hR, ⟨⟨by rw [e4, e3]; exact r1, ?_, trivial, lcf⟩, ?_, ?_, ?_, ?_, ?_, fun t => absurd t (by decide)⟩, LAi_less hi⟩) (by omega) (by omega)
      · rw [r8 1 (by omega) (by omega), g1]
        rfl
      · rw [e4, sI_at, if_neg (by omega), e3, sI_at, if_pos ⟨rfl, rfl⟩]
        rfl
      · rw [r8 4 (by omega) (by omega), f1.2.1 4 (by omega)]
        exact l3
      · rw [r8 5 (by omega) (by omega), f1.2.1 5 (by omega)]
        exact l4
      · rw [e4, sI_at, if_pos ⟨rfl, rfl⟩]
        rfl
      · rw [r8 8 (by omega) (by omega), f1.2.1 8 (by omega)]
        exact l6
  · rw [if_pos (by omega)] at hR
    have hop : tkK T a ≠ 0 ∧ tkK T a ≠ 3 := by
      constructor <;> intro z <;> rw [z] at q <;> exact q (by decide)
    refine c_bind k42 (ri (c_settle (b := bnd (tkK T a)) hw (by omega) i4 b4 l1 (by omega) hn (fun s11 f11 m11 => rv ?_)))
    have wl := ws_len _ (stW_ok (b := bnd (tkK T a)) ws i4).1
    have wc := (stW_ok (b := bnd (tkK T a)) ws i4).2.2 (by omega)
    refine c_push hw m11 (by omega) (fun s13 f13 m13 => rv (fun s15 e15 => ?_))
    have r8 : ∀ j, j ≠ 1 → j ≠ 7 → s15.1 8 j = σ.1 8 j := fun j j1 j7 => by rw [e15, sI_at, if_neg (fun t => j7 t.2), f13.2.1 j j1, f11.2.1 j j1]
    refine hok s15 (by rw [e15]; exact (f11.fl.tr f13.fl).w8) (Or.inl ⟨ph, true, op, ifs, tkK T a :: stW (bnd (tkK T a)) ws, stE (bnd (tkK T a)) ws cur, e1, e2, br, hR, ⟨by rw [e15]; exact m13.w8 hw (by omega), by rw [r8 3 (by omega) (by omega)]; exact l2, by rw [r8 4 (by omega) (by omega)]; exact l3, by rw [r8 5 (by omega) (by omega)]; exact l4, by rw [e15, sI_at, if_pos ⟨rfl, rfl⟩]; rfl, by rw [r8 8 (by omega) (by omega)]; exact l6, fun z => by rw [r8 6 (by omega) (by omega)]; exact l7 z⟩, LAi_bin hi (by omega)⟩) hop.1 hop.2
end P3
