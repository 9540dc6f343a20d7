/-! the model's constructor, its second half -/
section GM
variable {Γ : GE} {l : Launch} {M N : MM} {pc ix n : Nat} {lv : List (Nat × Value)} {st as : List Value} {σ : SS} {cu su : Nat} {K : Option Value → PH → Prop}
theorem g_getr {ci k a b : Nat} (f : fOK M.1.cls ix ci k) (hd : decode M.2.1 pc = .ok (.getfield ix, 3)) (hs : shF a ci k = some (b + 3)) (kk : Gd Γ l M (pc + 3) lv (.ref b :: st) (mk σ) cu su K) : Gd Γ l M pc lv (.ref a :: st) (mk σ) cu su K := by
  obtain ⟨fs, h1, h2⟩ := mk_f (σ := σ) hs
  exact r_getfield f hd h1 h2 kk
theorem g_last {a n q : Nat} {i : Int32} {x : Int64} (hd : decode M.2.1 pc = .ok (.lastore, 1)) (hs : shA a = some (.long, n)) (hi : vp_in i n) (hq : i.toNatClampNeg = q) (kk : ∀ τ, τ = sJ σ a q x → Gd Γ l M (pc + 1) lv st (mk τ) cu su K) : Gd Γ l M pc lv (.long x :: .int i :: .ref a :: st) (mk σ) cu su K := by
  refine r_lastore hd (mk_a hs) hi ?_
  rw [mk_set (σ' := sJ σ a i.toNatClampNeg x) (shA_at hs) (by show Sum.inl (FieldType.long, n, Sum.inr (Sum.inl _)) = _; simp [sJ, u2L]) (fun b d' hb => sJ_off d' hb)]
  rw [hq]
  exact kk _ rfl
theorem g_call {b : Nat} (hz : noNew N) : (fun (v : Option Value) (h' : PH) => Gd Γ l M b lv (v.toList ++ st) h' (cu + N.2.2.2.2.cells) (su + N.2.2.2.2.slots) K) = (fun (v : Option Value) (h' : PH) => Gd Γ l M b lv (v.toList ++ st) h' cu su K) := by
  rw [hz.1, hz.2]
  rfl
theorem g_callV {a ci : Nat} {C : String} {T : u_T} {NN : Nat} {sk : List Value} (hz : noNew N) (hcs : cu ≤ M.2.2.2.2.cells ∧ su ≤ M.2.2.2.2.slots) (cw : cV M N ix n) (hd : decode M.2.1 pc = .ok (.invokevirtual ix, 3)) (hsk : sk = as.reverse ++ .ref a :: st) (hn : as.length = n) (hw : (st.map fun v => v.category).sum ≤ 8) (ha : shO a = some ci) (hc : vwCl[ci]? = some (C, T, NN)) (hC : N.1.cls = C)
    (kk : C2 Γ l N (.ref a :: as) σ (fun v σ' => Gd Γ l M (pc + 3) lv (v.toList ++ st) (mk σ') cu su K)) : Gd Γ l M pc lv sk (mk σ) cu su K := by
  obtain ⟨fs, h1⟩ := shO_at (σ := σ) ha
  refine r_callV cw hd hsk hn hw h1 hc hC (by rw [hz.1, hz.2]; exact hcs) ?_
  rw [g_call hz]
  exact Cd.mono kk (fun v h ⟨σ', e1, e2⟩ => by rw [e1]; exact e2)
theorem g_callS {sk : List Value} (hz : noNew N) (hcs : cu ≤ M.2.2.2.2.cells ∧ su ≤ M.2.2.2.2.slots) (cw : cS M N ix n) (hd : decode M.2.1 pc = .ok (.invokestatic ix, 3)) (hsk : sk = as.reverse ++ st) (hn : as.length = n) (hw : (st.map fun v => v.category).sum ≤ 8)
    (kk : C2 Γ l N as σ (fun v σ' => Gd Γ l M (pc + 3) lv (v.toList ++ st) (mk σ') cu su K)) : Gd Γ l M pc lv sk (mk σ) cu su K := by
  refine r_callS cw hd hsk hn hw (by rw [hz.1, hz.2]; exact hcs) ?_
  rw [g_call hz]
  exact Cd.mono kk (fun v h ⟨σ', e1, e2⟩ => by rw [e1]; exact e2)
end GM
def apW (n : Int64) (c : Int32) : Int64 := if c = 0 then n else 27 * n + Int32.toInt64 (c - 97 + 1)
section MW
variable {Γ : GE} {l : Launch} {σ : SS} {K : Option Value → SS → Prop}
theorem m_appends {n : Int64} {c : Int32} (hK : K (some (.long (apW n c))) σ) : C2 Γ l mX10_appends [.long n, .int c] σ K := by
  unfold apW at hK
  refine tX10_appends ⟨fun h => ?_, fun h => ?_⟩
  · rw [if_neg h] at hK
    exact hK
  · rw [if_pos h] at hK
    exact hK
theorem m_word {x0 x1 x2 x3 x4 x5 x6 : Int32} (hK : K (some (.long (apW (apW (apW (apW (apW (apW (apW 0 x0) x1) x2) x3) x4) x5) x6))) σ) : C2 Γ l mX10_word [.int x0, .int x1, .int x2, .int x3, .int x4, .int x5, .int x6] σ K := by
  refine tX10_word ?_
  refine m_appends (rl ?_)
  refine m_appends (rl ?_)
  refine m_appends (rl ?_)
  refine m_appends (rl ?_)
  refine m_appends (rl ?_)
  refine m_appends (rl ?_)
  exact m_appends (rl hK)
end MW
def kwG (k : Nat) : Int64 := kwV (kwL[k]?.getD [])
theorem kq0 : (apW (apW (apW (apW (apW (apW (apW 0 114) 111) 119) 0) 0) 0) 0) = kwG 0 := by decide +kernel
theorem kq1 : (apW (apW (apW (apW (apW (apW (apW 0 115) 105) 103) 110) 0) 0) 0) = kwG 1 := by decide +kernel
theorem kq2 : (apW (apW (apW (apW (apW (apW (apW 0 119) 105) 110) 100) 111) 119) 0) = kwG 2 := by decide +kernel
theorem kq3 : (apW (apW (apW (apW (apW (apW (apW 0 116) 97) 108) 107) 0) 0) 0) = kwG 3 := by decide +kernel
theorem kq4 : (apW (apW (apW (apW (apW (apW (apW 0 103) 114) 111) 119) 115) 0) 0) = kwG 4 := by decide +kernel
theorem kq5 : (apW (apW (apW (apW (apW (apW (apW 0 102) 101) 101) 100) 115) 0) 0) = kwG 5 := by decide +kernel
theorem kq6 : (apW (apW (apW (apW (apW (apW (apW 0 102) 105) 110) 101) 115) 0) 0) = kwG 6 := by decide +kernel
theorem kq7 : (apW (apW (apW (apW (apW (apW (apW 0 104) 101) 105) 103) 104) 116) 0) = kwG 7 := by decide +kernel
theorem kq8 : (apW (apW (apW (apW (apW (apW (apW 0 114) 97) 105) 110) 0) 0) 0) = kwG 8 := by decide +kernel
theorem kq9 : (apW (apW (apW (apW (apW (apW (apW 0 115) 101) 101) 100) 0) 0) 0) = kwG 9 := by decide +kernel
theorem kq10 : (apW (apW (apW (apW (apW (apW (apW 0 105) 102) 0) 0) 0) 0) 0) = kwG 10 := by decide +kernel
theorem kq11 : (apW (apW (apW (apW (apW (apW (apW 0 116) 104) 101) 110) 0) 0) 0) = kwG 11 := by decide +kernel
theorem kq12 : (apW (apW (apW (apW (apW (apW (apW 0 101) 108) 115) 101) 0) 0) 0) = kwG 12 := by decide +kernel
theorem kq13 : (apW (apW (apW (apW (apW (apW (apW 0 116) 97) 108) 108) 0) 0) 0) = kwG 13 := by decide +kernel
theorem kq14 : (apW (apW (apW (apW (apW (apW (apW 0 115) 117) 110) 0) 0) 0) 0) = kwG 14 := by decide +kernel
theorem kq15 : (apW (apW (apW (apW (apW (apW (apW 0 119) 101) 101) 107) 0) 0) 0) = kwG 15 := by decide +kernel
theorem kq16 : (apW (apW (apW (apW (apW (apW (apW 0 119) 101) 116) 0) 0) 0) 0) = kwG 16 := by decide +kernel
theorem kq17 : (apW (apW (apW (apW (apW (apW (apW 0 102) 111) 111) 100) 0) 0) 0) = kwG 17 := by decide +kernel
theorem kq18 : (apW (apW (apW (apW (apW (apW (apW 0 97) 99) 114) 111) 115) 115) 0) = kwG 18 := by decide +kernel
theorem kq19 : (apW (apW (apW (apW (apW (apW (apW 0 100) 111) 119) 110) 0) 0) 0) = kwG 19 := by decide +kernel
theorem kq20 : (apW (apW (apW (apW (apW (apW (apW 0 98) 101) 115) 105) 100) 101) 0) = kwG 20 := by decide +kernel
theorem kq21 : (apW (apW (apW (apW (apW (apW (apW 0 115) 105) 122) 101) 0) 0) 0) = kwG 21 := by decide +kernel
theorem sJ_k {σ : SS} {k : Nat} {v : Int64} (b j : Nat) : (sJ σ 291 k v).2.1 b j = if b = 291 ∧ j = k then v else σ.2.1 b j := by
  show (if b = 291 then vp_updL (σ.2.1 291) k v else σ.2.1 b) j = _
  by_cases h : b = 291
  · subst h
    rw [if_pos rfl]
    show (if j = k then v else _) = _
    by_cases h2 : j = k
    · rw [if_pos h2, if_pos ⟨rfl, h2⟩]
    · rw [if_neg h2, if_neg (fun z => h2 z.2)]
  · rw [if_neg h, if_neg (fun z => h z.1)]
/-- the first keys are set -/
def KI (k : Nat) (σ0 σ : SS) : Prop := σ.1 = σ0.1 ∧ (∀ b, b ≠ 291 → σ.2.1 b = σ0.2.1 b) ∧ σ.2.2 = σ0.2.2 ∧ ∀ j, j < k → σ.2.1 291 j = kwG j
theorem KI.up {k : Nat} {σ0 σ τ : SS} (h : KI k σ0 σ) (e : τ = sJ σ 291 k (kwG k)) : KI (k + 1) σ0 τ := by
  subst e
  refine ⟨h.1, fun b hb => ?_, h.2.2.1, fun j hj => ?_⟩
  · funext j
    rw [sJ_k, if_neg (fun z => hb z.1), h.2.1 b hb]
  · rw [sJ_k]
    by_cases hk : j = k
    · rw [if_pos ⟨rfl, hk⟩, hk]
    · rw [if_neg (fun z => hk z.2)]
      exact h.2.2.2 j (by omega)
theorem kwG_of (k : Nat) (h : k < kwL.length) : kwG k = kwV kwL[k] := by
  unfold kwG
  rw [List.getElem?_eq_getElem h]
  rfl
section MI
variable {Γ : GE} {l : Launch} {K : Option Value → PH → Prop}
set_option maxRecDepth 20000 in
set_option maxHeartbeats 8000000 in
theorem iX10k {σ0 : SS} (hK : ∀ τ : SS, τ.1 = σ0.1 → (∀ b, b ≠ 291 → τ.2.1 b = σ0.2.1 b) → τ.2.2 = σ0.2.2 → MK τ → Gd Γ l mX10_init 866 [(0, .ref 284)] [] (mk τ) 48 19430 K) : Gd Γ l mX10_init 404 [(0, .ref 284)] [] (mk σ0) 48 19430 K := by
  refine r_aload_n (dcx dX10_init_c5 0 rfl) 0 rfl ?_
  refine g_getr (b := 291) fX10_34 (dcx dX10_init_c5 1 rfl) (by decide +kernel) ?_
  refine r_iconst (v := 0) (dcx dX10_init_c5 2 rfl) rfl ?_
  refine r_bipush (v := 114) (dcx dX10_init_c5 3 rfl) rfl ?_
  refine r_bipush (v := 111) (dcx dX10_init_c5 4 rfl) rfl ?_
  refine r_bipush (v := 119) (dcx dX10_init_c5 5 rfl) rfl ?_
  refine r_iconst (v := 0) (dcx dX10_init_c5 6 rfl) rfl ?_
  refine r_iconst (v := 0) (dcx dX10_init_c5 7 rfl) rfl ?_
  refine r_iconst (v := 0) (dcx dX10_init_c5 8 rfl) rfl ?_
  refine r_iconst (v := 0) (dcx dX10_init_c5 9 rfl) rfl ?_
  refine g_callS (as := [.int 114, .int 111, .int 119, .int 0, .int 0, .int 0, .int 0]) (st := [.int 0, .ref 291]) zX10_word ⟨Nat.le_of_ble_eq_true rfl, Nat.le_of_ble_eq_true rfl⟩ kX10_init_168 (dcx dX10_init_c5 10 rfl) rfl rfl (Nat.le_of_ble_eq_true rfl) (m_word ?_)
  rw [kq0]
  refine g_last (q := 0) (n := 22) (dcx dX10_init_c5 11 rfl) (by decide +kernel) (show vp_in (nI 0) 22 from vp_in_nI (by decide) (by decide)) (by decide) (fun σ1 e1 => ?_)
  refine r_aload_n (dcx dX10_init_c5 12 rfl) 0 rfl ?_
  refine g_getr (b := 291) fX10_34 (dcx dX10_init_c5 13 rfl) (by decide +kernel) ?_
  refine r_iconst (v := 1) (dcx dX10_init_c5 14 rfl) rfl ?_
  refine r_bipush (v := 115) (dcx dX10_init_c5 15 rfl) rfl ?_
  refine r_bipush (v := 105) (dcx dX10_init_c5 16 rfl) rfl ?_
  refine r_bipush (v := 103) (dcx dX10_init_c5 17 rfl) rfl ?_
  refine r_bipush (v := 110) (dcx dX10_init_c5 18 rfl) rfl ?_
  refine r_iconst (v := 0) (dcx dX10_init_c5 19 rfl) rfl ?_
  refine r_iconst (v := 0) (dcx dX10_init_c5 20 rfl) rfl ?_
  refine r_iconst (v := 0) (dcx dX10_init_c5 21 rfl) rfl ?_
  refine g_callS (as := [.int 115, .int 105, .int 103, .int 110, .int 0, .int 0, .int 0]) (st := [.int 1, .ref 291]) zX10_word ⟨Nat.le_of_ble_eq_true rfl, Nat.le_of_ble_eq_true rfl⟩ kX10_init_168 (dcx dX10_init_c5 22 rfl) rfl rfl (Nat.le_of_ble_eq_true rfl) (m_word ?_)
  rw [kq1]
  refine g_last (q := 1) (n := 22) (dcx dX10_init_c5 23 rfl) (by decide +kernel) (show vp_in (nI 1) 22 from vp_in_nI (by decide) (by decide)) (by decide) (fun σ2 e2 => ?_)
  refine r_aload_n (dcx dX10_init_c5 24 rfl) 0 rfl ?_
  refine g_getr (b := 291) fX10_34 (dcx dX10_init_c5 25 rfl) (by decide +kernel) ?_
  refine r_iconst (v := 2) (dcx dX10_init_c5 26 rfl) rfl ?_
  refine r_bipush (v := 119) (dcx dX10_init_c5 27 rfl) rfl ?_
  refine r_bipush (v := 105) (dcx dX10_init_c5 28 rfl) rfl ?_
  refine r_bipush (v := 110) (dcx dX10_init_c5 29 rfl) rfl ?_
  refine r_bipush (v := 100) (dcx dX10_init_c5 30 rfl) rfl ?_
  refine r_bipush (v := 111) (dcx dX10_init_c5 31 rfl) rfl ?_
  refine r_bipush (v := 119) (dcx dX10_init_c5 32 rfl) rfl ?_
  refine r_iconst (v := 0) (dcx dX10_init_c5 33 rfl) rfl ?_
  refine g_callS (as := [.int 119, .int 105, .int 110, .int 100, .int 111, .int 119, .int 0]) (st := [.int 2, .ref 291]) zX10_word ⟨Nat.le_of_ble_eq_true rfl, Nat.le_of_ble_eq_true rfl⟩ kX10_init_168 (dcx dX10_init_c5 34 rfl) rfl rfl (Nat.le_of_ble_eq_true rfl) (m_word ?_)
  rw [kq2]
  refine g_last (q := 2) (n := 22) (dcx dX10_init_c5 35 rfl) (by decide +kernel) (show vp_in (nI 2) 22 from vp_in_nI (by decide) (by decide)) (by decide) (fun σ3 e3 => ?_)
  refine r_aload_n (dcx dX10_init_c5 36 rfl) 0 rfl ?_
  refine g_getr (b := 291) fX10_34 (dcx dX10_init_c5 37 rfl) (by decide +kernel) ?_
  refine r_iconst (v := 3) (dcx dX10_init_c5 38 rfl) rfl ?_
  refine r_bipush (v := 116) (dcx dX10_init_c5 39 rfl) rfl ?_
  refine r_bipush (v := 97) (dcx dX10_init_c6 0 rfl) rfl ?_
  refine r_bipush (v := 108) (dcx dX10_init_c6 1 rfl) rfl ?_
  refine r_bipush (v := 107) (dcx dX10_init_c6 2 rfl) rfl ?_
  refine r_iconst (v := 0) (dcx dX10_init_c6 3 rfl) rfl ?_
  refine r_iconst (v := 0) (dcx dX10_init_c6 4 rfl) rfl ?_
  refine r_iconst (v := 0) (dcx dX10_init_c6 5 rfl) rfl ?_
  refine g_callS (as := [.int 116, .int 97, .int 108, .int 107, .int 0, .int 0, .int 0]) (st := [.int 3, .ref 291]) zX10_word ⟨Nat.le_of_ble_eq_true rfl, Nat.le_of_ble_eq_true rfl⟩ kX10_init_168 (dcx dX10_init_c6 6 rfl) rfl rfl (Nat.le_of_ble_eq_true rfl) (m_word ?_)
  rw [kq3]
  refine g_last (q := 3) (n := 22) (dcx dX10_init_c6 7 rfl) (by decide +kernel) (show vp_in (nI 3) 22 from vp_in_nI (by decide) (by decide)) (by decide) (fun σ4 e4 => ?_)
  refine r_aload_n (dcx dX10_init_c6 8 rfl) 0 rfl ?_
  refine g_getr (b := 291) fX10_34 (dcx dX10_init_c6 9 rfl) (by decide +kernel) ?_
  refine r_iconst (v := 4) (dcx dX10_init_c6 10 rfl) rfl ?_
  refine r_bipush (v := 103) (dcx dX10_init_c6 11 rfl) rfl ?_
  refine r_bipush (v := 114) (dcx dX10_init_c6 12 rfl) rfl ?_
  refine r_bipush (v := 111) (dcx dX10_init_c6 13 rfl) rfl ?_
  refine r_bipush (v := 119) (dcx dX10_init_c6 14 rfl) rfl ?_
  refine r_bipush (v := 115) (dcx dX10_init_c6 15 rfl) rfl ?_
  refine r_iconst (v := 0) (dcx dX10_init_c6 16 rfl) rfl ?_
  refine r_iconst (v := 0) (dcx dX10_init_c6 17 rfl) rfl ?_
  refine g_callS (as := [.int 103, .int 114, .int 111, .int 119, .int 115, .int 0, .int 0]) (st := [.int 4, .ref 291]) zX10_word ⟨Nat.le_of_ble_eq_true rfl, Nat.le_of_ble_eq_true rfl⟩ kX10_init_168 (dcx dX10_init_c6 18 rfl) rfl rfl (Nat.le_of_ble_eq_true rfl) (m_word ?_)
  rw [kq4]
  refine g_last (q := 4) (n := 22) (dcx dX10_init_c6 19 rfl) (by decide +kernel) (show vp_in (nI 4) 22 from vp_in_nI (by decide) (by decide)) (by decide) (fun σ5 e5 => ?_)
  refine r_aload_n (dcx dX10_init_c6 20 rfl) 0 rfl ?_
  refine g_getr (b := 291) fX10_34 (dcx dX10_init_c6 21 rfl) (by decide +kernel) ?_
  refine r_iconst (v := 5) (dcx dX10_init_c6 22 rfl) rfl ?_
  refine r_bipush (v := 102) (dcx dX10_init_c6 23 rfl) rfl ?_
  refine r_bipush (v := 101) (dcx dX10_init_c6 24 rfl) rfl ?_
  refine r_bipush (v := 101) (dcx dX10_init_c6 25 rfl) rfl ?_
  refine r_bipush (v := 100) (dcx dX10_init_c6 26 rfl) rfl ?_
  refine r_bipush (v := 115) (dcx dX10_init_c6 27 rfl) rfl ?_
  refine r_iconst (v := 0) (dcx dX10_init_c6 28 rfl) rfl ?_
  refine r_iconst (v := 0) (dcx dX10_init_c6 29 rfl) rfl ?_
  refine g_callS (as := [.int 102, .int 101, .int 101, .int 100, .int 115, .int 0, .int 0]) (st := [.int 5, .ref 291]) zX10_word ⟨Nat.le_of_ble_eq_true rfl, Nat.le_of_ble_eq_true rfl⟩ kX10_init_168 (dcx dX10_init_c6 30 rfl) rfl rfl (Nat.le_of_ble_eq_true rfl) (m_word ?_)
  rw [kq5]
  refine g_last (q := 5) (n := 22) (dcx dX10_init_c6 31 rfl) (by decide +kernel) (show vp_in (nI 5) 22 from vp_in_nI (by decide) (by decide)) (by decide) (fun σ6 e6 => ?_)
  refine r_aload_n (dcx dX10_init_c6 32 rfl) 0 rfl ?_
  refine g_getr (b := 291) fX10_34 (dcx dX10_init_c6 33 rfl) (by decide +kernel) ?_
  refine r_bipush (v := 6) (dcx dX10_init_c6 34 rfl) rfl ?_
  refine r_bipush (v := 102) (dcx dX10_init_c6 35 rfl) rfl ?_
  refine r_bipush (v := 105) (dcx dX10_init_c6 36 rfl) rfl ?_
  refine r_bipush (v := 110) (dcx dX10_init_c6 37 rfl) rfl ?_
  refine r_bipush (v := 101) (dcx dX10_init_c6 38 rfl) rfl ?_
  refine r_bipush (v := 115) (dcx dX10_init_c6 39 rfl) rfl ?_
  refine r_iconst (v := 0) (dcx dX10_init_c7 0 rfl) rfl ?_
  refine r_iconst (v := 0) (dcx dX10_init_c7 1 rfl) rfl ?_
  refine g_callS (as := [.int 102, .int 105, .int 110, .int 101, .int 115, .int 0, .int 0]) (st := [.int 6, .ref 291]) zX10_word ⟨Nat.le_of_ble_eq_true rfl, Nat.le_of_ble_eq_true rfl⟩ kX10_init_168 (dcx dX10_init_c7 2 rfl) rfl rfl (Nat.le_of_ble_eq_true rfl) (m_word ?_)
  rw [kq6]
  refine g_last (q := 6) (n := 22) (dcx dX10_init_c7 3 rfl) (by decide +kernel) (show vp_in (nI 6) 22 from vp_in_nI (by decide) (by decide)) (by decide) (fun σ7 e7 => ?_)
  refine r_aload_n (dcx dX10_init_c7 4 rfl) 0 rfl ?_
  refine g_getr (b := 291) fX10_34 (dcx dX10_init_c7 5 rfl) (by decide +kernel) ?_
  refine r_bipush (v := 7) (dcx dX10_init_c7 6 rfl) rfl ?_
  refine r_bipush (v := 104) (dcx dX10_init_c7 7 rfl) rfl ?_
  refine r_bipush (v := 101) (dcx dX10_init_c7 8 rfl) rfl ?_
  refine r_bipush (v := 105) (dcx dX10_init_c7 9 rfl) rfl ?_
  refine r_bipush (v := 103) (dcx dX10_init_c7 10 rfl) rfl ?_
  refine r_bipush (v := 104) (dcx dX10_init_c7 11 rfl) rfl ?_
  refine r_bipush (v := 116) (dcx dX10_init_c7 12 rfl) rfl ?_
  refine r_iconst (v := 0) (dcx dX10_init_c7 13 rfl) rfl ?_
  refine g_callS (as := [.int 104, .int 101, .int 105, .int 103, .int 104, .int 116, .int 0]) (st := [.int 7, .ref 291]) zX10_word ⟨Nat.le_of_ble_eq_true rfl, Nat.le_of_ble_eq_true rfl⟩ kX10_init_168 (dcx dX10_init_c7 14 rfl) rfl rfl (Nat.le_of_ble_eq_true rfl) (m_word ?_)
  rw [kq7]
  refine g_last (q := 7) (n := 22) (dcx dX10_init_c7 15 rfl) (by decide +kernel) (show vp_in (nI 7) 22 from vp_in_nI (by decide) (by decide)) (by decide) (fun σ8 e8 => ?_)
  refine r_aload_n (dcx dX10_init_c7 16 rfl) 0 rfl ?_
  refine g_getr (b := 291) fX10_34 (dcx dX10_init_c7 17 rfl) (by decide +kernel) ?_
  refine r_bipush (v := 8) (dcx dX10_init_c7 18 rfl) rfl ?_
  refine r_bipush (v := 114) (dcx dX10_init_c7 19 rfl) rfl ?_
  refine r_bipush (v := 97) (dcx dX10_init_c7 20 rfl) rfl ?_
  refine r_bipush (v := 105) (dcx dX10_init_c7 21 rfl) rfl ?_
  refine r_bipush (v := 110) (dcx dX10_init_c7 22 rfl) rfl ?_
  refine r_iconst (v := 0) (dcx dX10_init_c7 23 rfl) rfl ?_
  refine r_iconst (v := 0) (dcx dX10_init_c7 24 rfl) rfl ?_
  refine r_iconst (v := 0) (dcx dX10_init_c7 25 rfl) rfl ?_
  refine g_callS (as := [.int 114, .int 97, .int 105, .int 110, .int 0, .int 0, .int 0]) (st := [.int 8, .ref 291]) zX10_word ⟨Nat.le_of_ble_eq_true rfl, Nat.le_of_ble_eq_true rfl⟩ kX10_init_168 (dcx dX10_init_c7 26 rfl) rfl rfl (Nat.le_of_ble_eq_true rfl) (m_word ?_)
  rw [kq8]
  refine g_last (q := 8) (n := 22) (dcx dX10_init_c7 27 rfl) (by decide +kernel) (show vp_in (nI 8) 22 from vp_in_nI (by decide) (by decide)) (by decide) (fun σ9 e9 => ?_)
  refine r_aload_n (dcx dX10_init_c7 28 rfl) 0 rfl ?_
  refine g_getr (b := 291) fX10_34 (dcx dX10_init_c7 29 rfl) (by decide +kernel) ?_
  refine r_bipush (v := 9) (dcx dX10_init_c7 30 rfl) rfl ?_
  refine r_bipush (v := 115) (dcx dX10_init_c7 31 rfl) rfl ?_
  refine r_bipush (v := 101) (dcx dX10_init_c7 32 rfl) rfl ?_
  refine r_bipush (v := 101) (dcx dX10_init_c7 33 rfl) rfl ?_
  refine r_bipush (v := 100) (dcx dX10_init_c7 34 rfl) rfl ?_
  refine r_iconst (v := 0) (dcx dX10_init_c7 35 rfl) rfl ?_
  refine r_iconst (v := 0) (dcx dX10_init_c7 36 rfl) rfl ?_
  refine r_iconst (v := 0) (dcx dX10_init_c7 37 rfl) rfl ?_
  refine g_callS (as := [.int 115, .int 101, .int 101, .int 100, .int 0, .int 0, .int 0]) (st := [.int 9, .ref 291]) zX10_word ⟨Nat.le_of_ble_eq_true rfl, Nat.le_of_ble_eq_true rfl⟩ kX10_init_168 (dcx dX10_init_c7 38 rfl) rfl rfl (Nat.le_of_ble_eq_true rfl) (m_word ?_)
  rw [kq9]
  refine g_last (q := 9) (n := 22) (dcx dX10_init_c7 39 rfl) (by decide +kernel) (show vp_in (nI 9) 22 from vp_in_nI (by decide) (by decide)) (by decide) (fun σ10 e10 => ?_)
  refine r_aload_n (dcx dX10_init_c8 0 rfl) 0 rfl ?_
  refine g_getr (b := 291) fX10_34 (dcx dX10_init_c8 1 rfl) (by decide +kernel) ?_
  refine r_bipush (v := 10) (dcx dX10_init_c8 2 rfl) rfl ?_
  refine r_bipush (v := 105) (dcx dX10_init_c8 3 rfl) rfl ?_
  refine r_bipush (v := 102) (dcx dX10_init_c8 4 rfl) rfl ?_
  refine r_iconst (v := 0) (dcx dX10_init_c8 5 rfl) rfl ?_
  refine r_iconst (v := 0) (dcx dX10_init_c8 6 rfl) rfl ?_
  refine r_iconst (v := 0) (dcx dX10_init_c8 7 rfl) rfl ?_
  refine r_iconst (v := 0) (dcx dX10_init_c8 8 rfl) rfl ?_
  refine r_iconst (v := 0) (dcx dX10_init_c8 9 rfl) rfl ?_
  refine g_callS (as := [.int 105, .int 102, .int 0, .int 0, .int 0, .int 0, .int 0]) (st := [.int 10, .ref 291]) zX10_word ⟨Nat.le_of_ble_eq_true rfl, Nat.le_of_ble_eq_true rfl⟩ kX10_init_168 (dcx dX10_init_c8 10 rfl) rfl rfl (Nat.le_of_ble_eq_true rfl) (m_word ?_)
  rw [kq10]
  refine g_last (q := 10) (n := 22) (dcx dX10_init_c8 11 rfl) (by decide +kernel) (show vp_in (nI 10) 22 from vp_in_nI (by decide) (by decide)) (by decide) (fun σ11 e11 => ?_)
  refine r_aload_n (dcx dX10_init_c8 12 rfl) 0 rfl ?_
  refine g_getr (b := 291) fX10_34 (dcx dX10_init_c8 13 rfl) (by decide +kernel) ?_
  refine r_bipush (v := 11) (dcx dX10_init_c8 14 rfl) rfl ?_
  refine r_bipush (v := 116) (dcx dX10_init_c8 15 rfl) rfl ?_
  refine r_bipush (v := 104) (dcx dX10_init_c8 16 rfl) rfl ?_
  refine r_bipush (v := 101) (dcx dX10_init_c8 17 rfl) rfl ?_
  refine r_bipush (v := 110) (dcx dX10_init_c8 18 rfl) rfl ?_
  refine r_iconst (v := 0) (dcx dX10_init_c8 19 rfl) rfl ?_
  refine r_iconst (v := 0) (dcx dX10_init_c8 20 rfl) rfl ?_
  refine r_iconst (v := 0) (dcx dX10_init_c8 21 rfl) rfl ?_
  refine g_callS (as := [.int 116, .int 104, .int 101, .int 110, .int 0, .int 0, .int 0]) (st := [.int 11, .ref 291]) zX10_word ⟨Nat.le_of_ble_eq_true rfl, Nat.le_of_ble_eq_true rfl⟩ kX10_init_168 (dcx dX10_init_c8 22 rfl) rfl rfl (Nat.le_of_ble_eq_true rfl) (m_word ?_)
  rw [kq11]
  refine g_last (q := 11) (n := 22) (dcx dX10_init_c8 23 rfl) (by decide +kernel) (show vp_in (nI 11) 22 from vp_in_nI (by decide) (by decide)) (by decide) (fun σ12 e12 => ?_)
  refine r_aload_n (dcx dX10_init_c8 24 rfl) 0 rfl ?_
  refine g_getr (b := 291) fX10_34 (dcx dX10_init_c8 25 rfl) (by decide +kernel) ?_
  refine r_bipush (v := 12) (dcx dX10_init_c8 26 rfl) rfl ?_
  refine r_bipush (v := 101) (dcx dX10_init_c8 27 rfl) rfl ?_
  refine r_bipush (v := 108) (dcx dX10_init_c8 28 rfl) rfl ?_
  refine r_bipush (v := 115) (dcx dX10_init_c8 29 rfl) rfl ?_
  refine r_bipush (v := 101) (dcx dX10_init_c8 30 rfl) rfl ?_
  refine r_iconst (v := 0) (dcx dX10_init_c8 31 rfl) rfl ?_
  refine r_iconst (v := 0) (dcx dX10_init_c8 32 rfl) rfl ?_
  refine r_iconst (v := 0) (dcx dX10_init_c8 33 rfl) rfl ?_
  refine g_callS (as := [.int 101, .int 108, .int 115, .int 101, .int 0, .int 0, .int 0]) (st := [.int 12, .ref 291]) zX10_word ⟨Nat.le_of_ble_eq_true rfl, Nat.le_of_ble_eq_true rfl⟩ kX10_init_168 (dcx dX10_init_c8 34 rfl) rfl rfl (Nat.le_of_ble_eq_true rfl) (m_word ?_)
  rw [kq12]
  refine g_last (q := 12) (n := 22) (dcx dX10_init_c8 35 rfl) (by decide +kernel) (show vp_in (nI 12) 22 from vp_in_nI (by decide) (by decide)) (by decide) (fun σ13 e13 => ?_)
  refine r_aload_n (dcx dX10_init_c8 36 rfl) 0 rfl ?_
  refine g_getr (b := 291) fX10_34 (dcx dX10_init_c8 37 rfl) (by decide +kernel) ?_
  refine r_bipush (v := 13) (dcx dX10_init_c8 38 rfl) rfl ?_
  refine r_bipush (v := 116) (dcx dX10_init_c8 39 rfl) rfl ?_
  refine r_bipush (v := 97) (dcx dX10_init_c9 0 rfl) rfl ?_
  refine r_bipush (v := 108) (dcx dX10_init_c9 1 rfl) rfl ?_
  refine r_bipush (v := 108) (dcx dX10_init_c9 2 rfl) rfl ?_
  refine r_iconst (v := 0) (dcx dX10_init_c9 3 rfl) rfl ?_
  refine r_iconst (v := 0) (dcx dX10_init_c9 4 rfl) rfl ?_
  refine r_iconst (v := 0) (dcx dX10_init_c9 5 rfl) rfl ?_
  refine g_callS (as := [.int 116, .int 97, .int 108, .int 108, .int 0, .int 0, .int 0]) (st := [.int 13, .ref 291]) zX10_word ⟨Nat.le_of_ble_eq_true rfl, Nat.le_of_ble_eq_true rfl⟩ kX10_init_168 (dcx dX10_init_c9 6 rfl) rfl rfl (Nat.le_of_ble_eq_true rfl) (m_word ?_)
  rw [kq13]
  refine g_last (q := 13) (n := 22) (dcx dX10_init_c9 7 rfl) (by decide +kernel) (show vp_in (nI 13) 22 from vp_in_nI (by decide) (by decide)) (by decide) (fun σ14 e14 => ?_)
  refine r_aload_n (dcx dX10_init_c9 8 rfl) 0 rfl ?_
  refine g_getr (b := 291) fX10_34 (dcx dX10_init_c9 9 rfl) (by decide +kernel) ?_
  refine r_bipush (v := 14) (dcx dX10_init_c9 10 rfl) rfl ?_
  refine r_bipush (v := 115) (dcx dX10_init_c9 11 rfl) rfl ?_
  refine r_bipush (v := 117) (dcx dX10_init_c9 12 rfl) rfl ?_
  refine r_bipush (v := 110) (dcx dX10_init_c9 13 rfl) rfl ?_
  refine r_iconst (v := 0) (dcx dX10_init_c9 14 rfl) rfl ?_
  refine r_iconst (v := 0) (dcx dX10_init_c9 15 rfl) rfl ?_
  refine r_iconst (v := 0) (dcx dX10_init_c9 16 rfl) rfl ?_
  refine r_iconst (v := 0) (dcx dX10_init_c9 17 rfl) rfl ?_
  refine g_callS (as := [.int 115, .int 117, .int 110, .int 0, .int 0, .int 0, .int 0]) (st := [.int 14, .ref 291]) zX10_word ⟨Nat.le_of_ble_eq_true rfl, Nat.le_of_ble_eq_true rfl⟩ kX10_init_168 (dcx dX10_init_c9 18 rfl) rfl rfl (Nat.le_of_ble_eq_true rfl) (m_word ?_)
  rw [kq14]
  refine g_last (q := 14) (n := 22) (dcx dX10_init_c9 19 rfl) (by decide +kernel) (show vp_in (nI 14) 22 from vp_in_nI (by decide) (by decide)) (by decide) (fun σ15 e15 => ?_)
  refine r_aload_n (dcx dX10_init_c9 20 rfl) 0 rfl ?_
  refine g_getr (b := 291) fX10_34 (dcx dX10_init_c9 21 rfl) (by decide +kernel) ?_
  refine r_bipush (v := 15) (dcx dX10_init_c9 22 rfl) rfl ?_
  refine r_bipush (v := 119) (dcx dX10_init_c9 23 rfl) rfl ?_
  refine r_bipush (v := 101) (dcx dX10_init_c9 24 rfl) rfl ?_
  refine r_bipush (v := 101) (dcx dX10_init_c9 25 rfl) rfl ?_
  refine r_bipush (v := 107) (dcx dX10_init_c9 26 rfl) rfl ?_
  refine r_iconst (v := 0) (dcx dX10_init_c9 27 rfl) rfl ?_
  refine r_iconst (v := 0) (dcx dX10_init_c9 28 rfl) rfl ?_
  refine r_iconst (v := 0) (dcx dX10_init_c9 29 rfl) rfl ?_
  refine g_callS (as := [.int 119, .int 101, .int 101, .int 107, .int 0, .int 0, .int 0]) (st := [.int 15, .ref 291]) zX10_word ⟨Nat.le_of_ble_eq_true rfl, Nat.le_of_ble_eq_true rfl⟩ kX10_init_168 (dcx dX10_init_c9 30 rfl) rfl rfl (Nat.le_of_ble_eq_true rfl) (m_word ?_)
  rw [kq15]
  refine g_last (q := 15) (n := 22) (dcx dX10_init_c9 31 rfl) (by decide +kernel) (show vp_in (nI 15) 22 from vp_in_nI (by decide) (by decide)) (by decide) (fun σ16 e16 => ?_)
  refine r_aload_n (dcx dX10_init_c9 32 rfl) 0 rfl ?_
  refine g_getr (b := 291) fX10_34 (dcx dX10_init_c9 33 rfl) (by decide +kernel) ?_
  refine r_bipush (v := 16) (dcx dX10_init_c9 34 rfl) rfl ?_
  refine r_bipush (v := 119) (dcx dX10_init_c9 35 rfl) rfl ?_
  refine r_bipush (v := 101) (dcx dX10_init_c9 36 rfl) rfl ?_
  refine r_bipush (v := 116) (dcx dX10_init_c9 37 rfl) rfl ?_
  refine r_iconst (v := 0) (dcx dX10_init_c9 38 rfl) rfl ?_
  refine r_iconst (v := 0) (dcx dX10_init_c9 39 rfl) rfl ?_
  refine r_iconst (v := 0) (dcx dX10_init_c10 0 rfl) rfl ?_
  refine r_iconst (v := 0) (dcx dX10_init_c10 1 rfl) rfl ?_
  refine g_callS (as := [.int 119, .int 101, .int 116, .int 0, .int 0, .int 0, .int 0]) (st := [.int 16, .ref 291]) zX10_word ⟨Nat.le_of_ble_eq_true rfl, Nat.le_of_ble_eq_true rfl⟩ kX10_init_168 (dcx dX10_init_c10 2 rfl) rfl rfl (Nat.le_of_ble_eq_true rfl) (m_word ?_)
  rw [kq16]
  refine g_last (q := 16) (n := 22) (dcx dX10_init_c10 3 rfl) (by decide +kernel) (show vp_in (nI 16) 22 from vp_in_nI (by decide) (by decide)) (by decide) (fun σ17 e17 => ?_)
  refine r_aload_n (dcx dX10_init_c10 4 rfl) 0 rfl ?_
  refine g_getr (b := 291) fX10_34 (dcx dX10_init_c10 5 rfl) (by decide +kernel) ?_
  refine r_bipush (v := 17) (dcx dX10_init_c10 6 rfl) rfl ?_
  refine r_bipush (v := 102) (dcx dX10_init_c10 7 rfl) rfl ?_
  refine r_bipush (v := 111) (dcx dX10_init_c10 8 rfl) rfl ?_
  refine r_bipush (v := 111) (dcx dX10_init_c10 9 rfl) rfl ?_
  refine r_bipush (v := 100) (dcx dX10_init_c10 10 rfl) rfl ?_
  refine r_iconst (v := 0) (dcx dX10_init_c10 11 rfl) rfl ?_
  refine r_iconst (v := 0) (dcx dX10_init_c10 12 rfl) rfl ?_
  refine r_iconst (v := 0) (dcx dX10_init_c10 13 rfl) rfl ?_
  refine g_callS (as := [.int 102, .int 111, .int 111, .int 100, .int 0, .int 0, .int 0]) (st := [.int 17, .ref 291]) zX10_word ⟨Nat.le_of_ble_eq_true rfl, Nat.le_of_ble_eq_true rfl⟩ kX10_init_168 (dcx dX10_init_c10 14 rfl) rfl rfl (Nat.le_of_ble_eq_true rfl) (m_word ?_)
  rw [kq17]
  refine g_last (q := 17) (n := 22) (dcx dX10_init_c10 15 rfl) (by decide +kernel) (show vp_in (nI 17) 22 from vp_in_nI (by decide) (by decide)) (by decide) (fun σ18 e18 => ?_)
  refine r_aload_n (dcx dX10_init_c10 16 rfl) 0 rfl ?_
  refine g_getr (b := 291) fX10_34 (dcx dX10_init_c10 17 rfl) (by decide +kernel) ?_
  refine r_bipush (v := 18) (dcx dX10_init_c10 18 rfl) rfl ?_
  refine r_bipush (v := 97) (dcx dX10_init_c10 19 rfl) rfl ?_
  refine r_bipush (v := 99) (dcx dX10_init_c10 20 rfl) rfl ?_
  refine r_bipush (v := 114) (dcx dX10_init_c10 21 rfl) rfl ?_
  refine r_bipush (v := 111) (dcx dX10_init_c10 22 rfl) rfl ?_
  refine r_bipush (v := 115) (dcx dX10_init_c10 23 rfl) rfl ?_
  refine r_bipush (v := 115) (dcx dX10_init_c10 24 rfl) rfl ?_
  refine r_iconst (v := 0) (dcx dX10_init_c10 25 rfl) rfl ?_
  refine g_callS (as := [.int 97, .int 99, .int 114, .int 111, .int 115, .int 115, .int 0]) (st := [.int 18, .ref 291]) zX10_word ⟨Nat.le_of_ble_eq_true rfl, Nat.le_of_ble_eq_true rfl⟩ kX10_init_168 (dcx dX10_init_c10 26 rfl) rfl rfl (Nat.le_of_ble_eq_true rfl) (m_word ?_)
  rw [kq18]
  refine g_last (q := 18) (n := 22) (dcx dX10_init_c10 27 rfl) (by decide +kernel) (show vp_in (nI 18) 22 from vp_in_nI (by decide) (by decide)) (by decide) (fun σ19 e19 => ?_)
  refine r_aload_n (dcx dX10_init_c10 28 rfl) 0 rfl ?_
  refine g_getr (b := 291) fX10_34 (dcx dX10_init_c10 29 rfl) (by decide +kernel) ?_
  refine r_bipush (v := 19) (dcx dX10_init_c10 30 rfl) rfl ?_
  refine r_bipush (v := 100) (dcx dX10_init_c10 31 rfl) rfl ?_
  refine r_bipush (v := 111) (dcx dX10_init_c10 32 rfl) rfl ?_
  refine r_bipush (v := 119) (dcx dX10_init_c10 33 rfl) rfl ?_
  refine r_bipush (v := 110) (dcx dX10_init_c10 34 rfl) rfl ?_
  refine r_iconst (v := 0) (dcx dX10_init_c10 35 rfl) rfl ?_
  refine r_iconst (v := 0) (dcx dX10_init_c10 36 rfl) rfl ?_
  refine r_iconst (v := 0) (dcx dX10_init_c10 37 rfl) rfl ?_
  refine g_callS (as := [.int 100, .int 111, .int 119, .int 110, .int 0, .int 0, .int 0]) (st := [.int 19, .ref 291]) zX10_word ⟨Nat.le_of_ble_eq_true rfl, Nat.le_of_ble_eq_true rfl⟩ kX10_init_168 (dcx dX10_init_c10 38 rfl) rfl rfl (Nat.le_of_ble_eq_true rfl) (m_word ?_)
  rw [kq19]
  refine g_last (q := 19) (n := 22) (dcx dX10_init_c10 39 rfl) (by decide +kernel) (show vp_in (nI 19) 22 from vp_in_nI (by decide) (by decide)) (by decide) (fun σ20 e20 => ?_)
  refine r_aload_n (dcx dX10_init_c11 0 rfl) 0 rfl ?_
  refine g_getr (b := 291) fX10_34 (dcx dX10_init_c11 1 rfl) (by decide +kernel) ?_
  refine r_bipush (v := 20) (dcx dX10_init_c11 2 rfl) rfl ?_
  refine r_bipush (v := 98) (dcx dX10_init_c11 3 rfl) rfl ?_
  refine r_bipush (v := 101) (dcx dX10_init_c11 4 rfl) rfl ?_
  refine r_bipush (v := 115) (dcx dX10_init_c11 5 rfl) rfl ?_
  refine r_bipush (v := 105) (dcx dX10_init_c11 6 rfl) rfl ?_
  refine r_bipush (v := 100) (dcx dX10_init_c11 7 rfl) rfl ?_
  refine r_bipush (v := 101) (dcx dX10_init_c11 8 rfl) rfl ?_
  refine r_iconst (v := 0) (dcx dX10_init_c11 9 rfl) rfl ?_
  refine g_callS (as := [.int 98, .int 101, .int 115, .int 105, .int 100, .int 101, .int 0]) (st := [.int 20, .ref 291]) zX10_word ⟨Nat.le_of_ble_eq_true rfl, Nat.le_of_ble_eq_true rfl⟩ kX10_init_168 (dcx dX10_init_c11 10 rfl) rfl rfl (Nat.le_of_ble_eq_true rfl) (m_word ?_)
  rw [kq20]
  refine g_last (q := 20) (n := 22) (dcx dX10_init_c11 11 rfl) (by decide +kernel) (show vp_in (nI 20) 22 from vp_in_nI (by decide) (by decide)) (by decide) (fun σ21 e21 => ?_)
  refine r_aload_n (dcx dX10_init_c11 12 rfl) 0 rfl ?_
  refine g_getr (b := 291) fX10_34 (dcx dX10_init_c11 13 rfl) (by decide +kernel) ?_
  refine r_bipush (v := 21) (dcx dX10_init_c11 14 rfl) rfl ?_
  refine r_bipush (v := 115) (dcx dX10_init_c11 15 rfl) rfl ?_
  refine r_bipush (v := 105) (dcx dX10_init_c11 16 rfl) rfl ?_
  refine r_bipush (v := 122) (dcx dX10_init_c11 17 rfl) rfl ?_
  refine r_bipush (v := 101) (dcx dX10_init_c11 18 rfl) rfl ?_
  refine r_iconst (v := 0) (dcx dX10_init_c11 19 rfl) rfl ?_
  refine r_iconst (v := 0) (dcx dX10_init_c11 20 rfl) rfl ?_
  refine r_iconst (v := 0) (dcx dX10_init_c11 21 rfl) rfl ?_
  refine g_callS (as := [.int 115, .int 105, .int 122, .int 101, .int 0, .int 0, .int 0]) (st := [.int 21, .ref 291]) zX10_word ⟨Nat.le_of_ble_eq_true rfl, Nat.le_of_ble_eq_true rfl⟩ kX10_init_168 (dcx dX10_init_c11 22 rfl) rfl rfl (Nat.le_of_ble_eq_true rfl) (m_word ?_)
  rw [kq21]
  refine g_last (q := 21) (n := 22) (dcx dX10_init_c11 23 rfl) (by decide +kernel) (show vp_in (nI 21) 22 from vp_in_nI (by decide) (by decide)) (by decide) (fun σ22 e22 => ?_)
  have k0 : KI 0 σ0 σ0 := ⟨rfl, fun _ _ => rfl, rfl, fun j h => absurd h (Nat.not_lt_zero _)⟩
  have k1 := k0.up e1
  have k2 := k1.up e2
  have k3 := k2.up e3
  have k4 := k3.up e4
  have k5 := k4.up e5
  have k6 := k5.up e6
  have k7 := k6.up e7
  have k8 := k7.up e8
  have k9 := k8.up e9
  have k10 := k9.up e10
  have k11 := k10.up e11
  have k12 := k11.up e12
  have k13 := k12.up e13
  have k14 := k13.up e14
  have k15 := k14.up e15
  have k16 := k15.up e16
  have k17 := k16.up e17
  have k18 := k17.up e18
  have k19 := k18.up e19
  have k20 := k19.up e20
  have k21 := k20.up e21
  have k22 := k21.up e22
  exact hK σ22 k22.1 k22.2.1 k22.2.2.1 (fun k h => (k22.2.2.2 k h).trans (kwG_of k h))
end MI
