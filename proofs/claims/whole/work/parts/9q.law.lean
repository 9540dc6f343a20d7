/-! the law, its walk -/
section LR
variable {Γ : GE} {l : Launch} {M : MM} {pc : Nat} {lv : List (Nat × Value)} {st : List Value} {h : PH} {cu su : Nat} {K : Option Value → PH → Prop}
/-- the script: as long as Ls, its words xs -/
def SCR (Γ : GE) (Ls : Nat) (xs : Nat → Int32) : Prop := Γ.2.2.1 5 < Γ.2.1 ∧ ∃ scr : Cell, Γ.2.2.2[Γ.2.2.1 5]? = some scr ∧ scr.slots.size = Ls ∧ ∀ j, j < Ls → scr.slots[j]? = some (.int (xs j))
theorem r_slen {Ls : Nat} {xs : Nat → Int32} (hS : SCR Γ Ls xs) (hd : decode M.2.1 pc = .ok (.arraylength, 1)) (kk : Gd Γ l M (pc + 1) lv (.int (Int32.ofNat Ls) :: st) h cu su K) : Gd Γ l M pc lv (.float 5 :: st) h cu su K := by
  intro p e s m args below meth c H locs ls cx hR hL hl
  obtain ⟨hx, hb, hr, hml, hown, hts, hlk, hnm, hK⟩ := id cx
  obtain ⟨hB, scr, h1, h2, h3⟩ := hS
  obtain ⟨scr', s1, s2, s3⟩ := hK.2.2.2.2.2.2
  have e1 : scr' = scr := Option.some.inj (s1.symm.trans h1)
  subst e1
  exact W.alen (n := Int32.ofNat Ls) hx hb (a := Γ.2.2.1 5) (by rw [hR.2.2 _ hB]; exact h1) s2 (by rw [h2]) rfl rfl hd (kk p e s m args below meth c H locs ls cx hR hL hl)
theorem r_sload {Ls : Nat} {xs : Nat → Int32} {i : Int32} (hS : SCR Γ Ls xs) (hd : decode M.2.1 pc = .ok (.iaload, 1)) (hi : vp_in i Ls) (kk : Gd Γ l M (pc + 1) lv (.int (xs i.toNatClampNeg) :: st) h cu su K) : Gd Γ l M pc lv (.int i :: .float 5 :: st) h cu su K := by
  intro p e s m args below meth c H locs ls cx hR hL hl
  obtain ⟨hx, hb, hr, hml, hown, hts, hlk, hnm, hK⟩ := id cx
  obtain ⟨hB, scr, h1, h2, h3⟩ := hS
  obtain ⟨scr', s1, s2, s3⟩ := hK.2.2.2.2.2.2
  have e1 : scr' = scr := Option.some.inj (s1.symm.trans h1)
  subst e1
  exact W.iald (v := .int (xs i.toNatClampNeg)) hx hb (a := Γ.2.2.1 5) (by rw [hR.2.2 _ hB]; exact h1) s2 s3 (by rw [h2]; exact hi) (h3 _ (pN hi)) rfl rfl hd (kk p e s m args below meth c H locs ls cx hR hL hl)
end LR
theorem JS.up {σ : SS} {W W' : Nat} (h : JS σ W) (h1 : W ≤ W') (h2 : W' ≤ 40000) : JS σ W' := by
  obtain ⟨T, f, P, L, H, O, D, a, b, c⟩ := h
  exact ⟨T, f, P, L, H, O, D, a, b, c.mo h1 h2⟩
section LW
variable {Γ : GE} {l : Launch} {K : Option Value → PH → Prop} {Ls W : Nat} {xs : Nat → Int32} {i : Int32} {σ : SS}
/-- where a call of both comes back to -/
def LK (Γ : GE) (l : Launch) (i : Int32) (W : Nat) (K : Option Value → PH → Prop) : Prop := ∀ σ2, JS σ2 W → Gd Γ l mL_law 1296 [(3, .int i), (2, .ref 284), (1, .ref 0), (0, .float 5)] [] (mk σ2) 333 56324 K
theorem lc_eq {a b : Int32} {pc : Nat} {off : Int} {σ2 : SS} (hd : decode code pc = .ok (.if_icmp .eq off, 3)) (ht : (pc : Int) + off = ((1296 : Nat) : Int)) (e : a = b) (hj : JS σ2 W) (kk : LK Γ l i W K) : Gd Γ l mL_law pc [(3, .int i), (2, .ref 284), (1, .ref 0), (0, .float 5)] [.int b, .int a] (mk σ2) 333 56324 K :=
  r_icmp_eq (tgt := 1296) hd ht (fun _ => kk σ2 hj) (fun q => absurd e q)
set_option maxRecDepth 20000 in
theorem lc_feed (hS : SCR Γ Ls xs) (hv : ∀ j : Nat, j ≤ 5 → vp_in (i + nI j) Ls) (hj0 : JS σ W) (hW : W + 60 ≤ 40000) (kk : LK Γ l i (W + 60) K) : Gd Γ l mL_law 184 [(3, .int i), (2, .ref 284), (1, .ref 0), (0, .float 5)] [] (mk σ) 333 56324 K := by
  obtain ⟨T, f, P, L, H, O, D, hb⟩ := hj0
  refine r_aload_n (dcx dL_law_c0 22 rfl) 2 rfl ?_
  refine r_aload_nS (dcx dL_law_c0 23 rfl) 3 rfl ?_
  refine r_iload_n (dcx dL_law_c0 24 rfl) 0 rfl ?_
  refine r_iconst (v := 1) (dcx dL_law_c0 25 rfl) rfl ?_
  refine r_iadd (dcx dL_law_c0 26 rfl) ?_
  refine r_sload hS (dcx dL_law_c0 27 rfl) (hv 1 (by decide)) ?_
  refine r_aload_nS (dcx dL_law_c0 28 rfl) 3 rfl ?_
  refine r_iload_n (dcx dL_law_c0 29 rfl) 0 rfl ?_
  refine r_iconst (v := 2) (dcx dL_law_c0 30 rfl) rfl ?_
  refine r_iadd (dcx dL_law_c0 31 rfl) ?_
  refine r_sload hS (dcx dL_law_c0 32 rfl) (hv 2 (by decide)) ?_
  refine r_aload_nS (dcx dL_law_c0 33 rfl) 3 rfl ?_
  refine r_iload_n (dcx dL_law_c0 34 rfl) 0 rfl ?_
  refine r_iconst (v := 3) (dcx dL_law_c0 35 rfl) rfl ?_
  refine r_iadd (dcx dL_law_c0 36 rfl) ?_
  refine r_sload hS (dcx dL_law_c0 37 rfl) (hv 3 (by decide)) ?_
  refine r_aload_nS (dcx dL_law_c0 38 rfl) 3 rfl ?_
  refine r_iload_n (dcx dL_law_c0 39 rfl) 0 rfl ?_
  refine r_iconst (v := 4) (dcx dL_law_c1 0 rfl) rfl ?_
  refine r_iadd (dcx dL_law_c1 1 rfl) ?_
  refine r_sload hS (dcx dL_law_c1 2 rfl) (hv 4 (by decide)) ?_
  refine r_aload_nS (dcx dL_law_c1 3 rfl) 3 rfl ?_
  refine r_iload_n (dcx dL_law_c1 4 rfl) 0 rfl ?_
  refine r_iconst (v := 5) (dcx dL_law_c1 5 rfl) rfl ?_
  refine r_iadd (dcx dL_law_c1 6 rfl) ?_
  refine r_sload hS (dcx dL_law_c1 7 rfl) (hv 5 (by decide)) ?_
  refine g_callV (ci := 9) (as := [.int (xs (Int32.toNatClampNeg (i + 1))), .int (xs (Int32.toNatClampNeg (i + 2))), .int (xs (Int32.toNatClampNeg (i + 3))), .int (xs (Int32.toNatClampNeg (i + 4))), .int (xs (Int32.toNatClampNeg (i + 5)))]) (st := []) zX9_feed ⟨Nat.le_of_ble_eq_true rfl, Nat.le_of_ble_eq_true rfl⟩ kL_law_13 (dcx dL_law_c1 8 rfl) rfl rfl (Nat.le_of_ble_eq_true rfl) (by decide +kernel) rfl rfl (C2.mono (pr_feed hb hW) (fun v σ1 hv1 => ?_))
  obtain ⟨y, rfl, h2⟩ := hv1
  show Gd Γ l mL_law 213 [(3, .int i), (2, .ref 284), (1, .ref 0), (0, .float 5)] [.int y] (mk σ1) 333 56324 K
  refine r_aload_n (dcx dL_law_c1 9 rfl) 1 rfl ?_
  refine r_aload_nS (dcx dL_law_c1 10 rfl) 3 rfl ?_
  refine r_iload_n (dcx dL_law_c1 11 rfl) 0 rfl ?_
  refine r_iconst (v := 1) (dcx dL_law_c1 12 rfl) rfl ?_
  refine r_iadd (dcx dL_law_c1 13 rfl) ?_
  refine r_sload hS (dcx dL_law_c1 14 rfl) (hv 1 (by decide)) ?_
  refine r_aload_nS (dcx dL_law_c1 15 rfl) 3 rfl ?_
  refine r_iload_n (dcx dL_law_c1 16 rfl) 0 rfl ?_
  refine r_iconst (v := 2) (dcx dL_law_c1 17 rfl) rfl ?_
  refine r_iadd (dcx dL_law_c1 18 rfl) ?_
  refine r_sload hS (dcx dL_law_c1 19 rfl) (hv 2 (by decide)) ?_
  refine r_aload_nS (dcx dL_law_c1 20 rfl) 3 rfl ?_
  refine r_iload_n (dcx dL_law_c1 21 rfl) 0 rfl ?_
  refine r_iconst (v := 3) (dcx dL_law_c1 22 rfl) rfl ?_
  refine r_iadd (dcx dL_law_c1 23 rfl) ?_
  refine r_sload hS (dcx dL_law_c1 24 rfl) (hv 3 (by decide)) ?_
  refine r_aload_nS (dcx dL_law_c1 25 rfl) 3 rfl ?_
  refine r_iload_n (dcx dL_law_c1 26 rfl) 0 rfl ?_
  refine r_iconst (v := 4) (dcx dL_law_c1 27 rfl) rfl ?_
  refine r_iadd (dcx dL_law_c1 28 rfl) ?_
  refine r_sload hS (dcx dL_law_c1 29 rfl) (hv 4 (by decide)) ?_
  refine r_aload_nS (dcx dL_law_c1 30 rfl) 3 rfl ?_
  refine r_iload_n (dcx dL_law_c1 31 rfl) 0 rfl ?_
  refine r_iconst (v := 5) (dcx dL_law_c1 32 rfl) rfl ?_
  refine r_iadd (dcx dL_law_c1 33 rfl) ?_
  refine r_sload hS (dcx dL_law_c1 34 rfl) (hv 5 (by decide)) ?_
  refine g_callV (ci := 10) (as := [.int (xs (Int32.toNatClampNeg (i + 1))), .int (xs (Int32.toNatClampNeg (i + 2))), .int (xs (Int32.toNatClampNeg (i + 3))), .int (xs (Int32.toNatClampNeg (i + 4))), .int (xs (Int32.toNatClampNeg (i + 5)))]) (st := [.int y]) zX10_feed ⟨Nat.le_of_ble_eq_true rfl, Nat.le_of_ble_eq_true rfl⟩ kL_law_17 (dcx dL_law_c1 35 rfl) rfl rfl (Nat.le_of_ble_eq_true rfl) (by decide +kernel) rfl rfl (C2.mono h2 (fun v σ2 hv2 => ?_))
  obtain ⟨w, rfl, e, hj⟩ := hv2
  show Gd Γ l mL_law 242 [(3, .int i), (2, .ref 284), (1, .ref 0), (0, .float 5)] [.int w, .int y] (mk σ2) 333 56324 K
  exact lc_eq (dcx dL_law_c1 36 rfl) (by decide) e hj kk
set_option maxRecDepth 20000 in
theorem lc_back (hS : SCR Γ Ls xs) (hv : ∀ j : Nat, j ≤ 5 → vp_in (i + nI j) Ls) (hj0 : JS σ W) (hW : W + 60 ≤ 40000) (kk : LK Γ l i (W + 60) K) : Gd Γ l mL_law 247 [(3, .int i), (2, .ref 284), (1, .ref 0), (0, .float 5)] [] (mk σ) 333 56324 K := by
  obtain ⟨T, f, P, L, H, O, D, hb⟩ := hj0
  refine r_aload_n (dcx dL_law_c1 39 rfl) 2 rfl ?_
  refine r_aload_nS (dcx dL_law_c2 0 rfl) 3 rfl ?_
  refine r_iload_n (dcx dL_law_c2 1 rfl) 0 rfl ?_
  refine r_iconst (v := 1) (dcx dL_law_c2 2 rfl) rfl ?_
  refine r_iadd (dcx dL_law_c2 3 rfl) ?_
  refine r_sload hS (dcx dL_law_c2 4 rfl) (hv 1 (by decide)) ?_
  refine g_callV (ci := 9) (as := [.int (xs (Int32.toNatClampNeg (i + 1)))]) (st := []) zX9_back ⟨Nat.le_of_ble_eq_true rfl, Nat.le_of_ble_eq_true rfl⟩ kL_law_18 (dcx dL_law_c2 5 rfl) rfl rfl (Nat.le_of_ble_eq_true rfl) (by decide +kernel) rfl rfl (C2.mono (pr_back hb hW) (fun v σ1 hv1 => ?_))
  obtain ⟨y, rfl, h2⟩ := hv1
  show Gd Γ l mL_law 256 [(3, .int i), (2, .ref 284), (1, .ref 0), (0, .float 5)] [.int y] (mk σ1) 333 56324 K
  refine r_aload_n (dcx dL_law_c2 6 rfl) 1 rfl ?_
  refine r_aload_nS (dcx dL_law_c2 7 rfl) 3 rfl ?_
  refine r_iload_n (dcx dL_law_c2 8 rfl) 0 rfl ?_
  refine r_iconst (v := 1) (dcx dL_law_c2 9 rfl) rfl ?_
  refine r_iadd (dcx dL_law_c2 10 rfl) ?_
  refine r_sload hS (dcx dL_law_c2 11 rfl) (hv 1 (by decide)) ?_
  refine g_callV (ci := 10) (as := [.int (xs (Int32.toNatClampNeg (i + 1)))]) (st := [.int y]) zX10_back ⟨Nat.le_of_ble_eq_true rfl, Nat.le_of_ble_eq_true rfl⟩ kL_law_22 (dcx dL_law_c2 12 rfl) rfl rfl (Nat.le_of_ble_eq_true rfl) (by decide +kernel) rfl rfl (C2.mono h2 (fun v σ2 hv2 => ?_))
  obtain ⟨w, rfl, e, hj⟩ := hv2
  show Gd Γ l mL_law 265 [(3, .int i), (2, .ref 284), (1, .ref 0), (0, .float 5)] [.int w, .int y] (mk σ2) 333 56324 K
  exact lc_eq (dcx dL_law_c2 13 rfl) (by decide) e hj kk
set_option maxRecDepth 20000 in
theorem lc_read (hS : SCR Γ Ls xs) (hv : ∀ j : Nat, j ≤ 5 → vp_in (i + nI j) Ls) (hj0 : JS σ W) (hW : W + 60 ≤ 40000) (kk : LK Γ l i (W + 60) K) : Gd Γ l mL_law 270 [(3, .int i), (2, .ref 284), (1, .ref 0), (0, .float 5)] [] (mk σ) 333 56324 K := by
  obtain ⟨T, f, P, L, H, O, D, hb⟩ := hj0
  refine r_aload_n (dcx dL_law_c2 16 rfl) 2 rfl ?_
  refine g_callV (ci := 9) (as := []) (st := []) zX9_read ⟨Nat.le_of_ble_eq_true rfl, Nat.le_of_ble_eq_true rfl⟩ kL_law_23 (dcx dL_law_c2 17 rfl) rfl rfl (Nat.le_of_ble_eq_true rfl) (by decide +kernel) rfl rfl (C2.mono (pr_read hb hW) (fun v σ1 hv1 => ?_))
  obtain ⟨y, rfl, h2⟩ := hv1
  show Gd Γ l mL_law 274 [(3, .int i), (2, .ref 284), (1, .ref 0), (0, .float 5)] [.int y] (mk σ1) 333 56324 K
  refine r_aload_n (dcx dL_law_c2 18 rfl) 1 rfl ?_
  refine g_callV (ci := 10) (as := []) (st := [.int y]) zX10_read ⟨Nat.le_of_ble_eq_true rfl, Nat.le_of_ble_eq_true rfl⟩ kL_law_27 (dcx dL_law_c2 19 rfl) rfl rfl (Nat.le_of_ble_eq_true rfl) (by decide +kernel) rfl rfl (C2.mono h2 (fun v σ2 hv2 => ?_))
  obtain ⟨w, rfl, e, hj⟩ := hv2
  show Gd Γ l mL_law 278 [(3, .int i), (2, .ref 284), (1, .ref 0), (0, .float 5)] [.int w, .int y] (mk σ2) 333 56324 K
  exact lc_eq (dcx dL_law_c2 20 rfl) (by decide) e hj kk
set_option maxRecDepth 20000 in
theorem lc_place (hS : SCR Γ Ls xs) (hv : ∀ j : Nat, j ≤ 5 → vp_in (i + nI j) Ls) (hj0 : JS σ W) (hW : W + 60 ≤ 40000) (kk : LK Γ l i (W + 60) K) : Gd Γ l mL_law 283 [(3, .int i), (2, .ref 284), (1, .ref 0), (0, .float 5)] [] (mk σ) 333 56324 K := by
  obtain ⟨T, f, P, L, H, O, D, hb⟩ := hj0
  refine r_aload_n (dcx dL_law_c2 23 rfl) 2 rfl ?_
  refine g_callV (ci := 9) (as := []) (st := []) zX9_place ⟨Nat.le_of_ble_eq_true rfl, Nat.le_of_ble_eq_true rfl⟩ kL_law_28 (dcx dL_law_c2 24 rfl) rfl rfl (Nat.le_of_ble_eq_true rfl) (by decide +kernel) rfl rfl (C2.mono (pr_place hb hW) (fun v σ1 hv1 => ?_))
  obtain ⟨y, rfl, h2⟩ := hv1
  show Gd Γ l mL_law 287 [(3, .int i), (2, .ref 284), (1, .ref 0), (0, .float 5)] [.int y] (mk σ1) 333 56324 K
  refine r_aload_n (dcx dL_law_c2 25 rfl) 1 rfl ?_
  refine g_callV (ci := 10) (as := []) (st := [.int y]) zX10_place ⟨Nat.le_of_ble_eq_true rfl, Nat.le_of_ble_eq_true rfl⟩ kL_law_31 (dcx dL_law_c2 26 rfl) rfl rfl (Nat.le_of_ble_eq_true rfl) (by decide +kernel) rfl rfl (C2.mono h2 (fun v σ2 hv2 => ?_))
  obtain ⟨w, rfl, e, hj⟩ := hv2
  show Gd Γ l mL_law 291 [(3, .int i), (2, .ref 284), (1, .ref 0), (0, .float 5)] [.int w, .int y] (mk σ2) 333 56324 K
  exact lc_eq (dcx dL_law_c2 27 rfl) (by decide) e hj kk
set_option maxRecDepth 20000 in
theorem lc_cell (hS : SCR Γ Ls xs) (hv : ∀ j : Nat, j ≤ 5 → vp_in (i + nI j) Ls) (hj0 : JS σ W) (hW : W + 60 ≤ 40000) (kk : LK Γ l i (W + 60) K) : Gd Γ l mL_law 296 [(3, .int i), (2, .ref 284), (1, .ref 0), (0, .float 5)] [] (mk σ) 333 56324 K := by
  obtain ⟨T, f, P, L, H, O, D, hb⟩ := hj0
  refine r_aload_n (dcx dL_law_c2 30 rfl) 2 rfl ?_
  refine r_aload_nS (dcx dL_law_c2 31 rfl) 3 rfl ?_
  refine r_iload_n (dcx dL_law_c2 32 rfl) 0 rfl ?_
  refine r_iconst (v := 1) (dcx dL_law_c2 33 rfl) rfl ?_
  refine r_iadd (dcx dL_law_c2 34 rfl) ?_
  refine r_sload hS (dcx dL_law_c2 35 rfl) (hv 1 (by decide)) ?_
  refine r_aload_nS (dcx dL_law_c2 36 rfl) 3 rfl ?_
  refine r_iload_n (dcx dL_law_c2 37 rfl) 0 rfl ?_
  refine r_iconst (v := 2) (dcx dL_law_c2 38 rfl) rfl ?_
  refine r_iadd (dcx dL_law_c2 39 rfl) ?_
  refine r_sload hS (dcx dL_law_c3 0 rfl) (hv 2 (by decide)) ?_
  refine r_aload_nS (dcx dL_law_c3 1 rfl) 3 rfl ?_
  refine r_iload_n (dcx dL_law_c3 2 rfl) 0 rfl ?_
  refine r_iconst (v := 3) (dcx dL_law_c3 3 rfl) rfl ?_
  refine r_iadd (dcx dL_law_c3 4 rfl) ?_
  refine r_sload hS (dcx dL_law_c3 5 rfl) (hv 3 (by decide)) ?_
  refine g_callV (ci := 9) (as := [.int (xs (Int32.toNatClampNeg (i + 1))), .int (xs (Int32.toNatClampNeg (i + 2))), .int (xs (Int32.toNatClampNeg (i + 3)))]) (st := []) zX9_cell ⟨Nat.le_of_ble_eq_true rfl, Nat.le_of_ble_eq_true rfl⟩ kL_law_32 (dcx dL_law_c3 6 rfl) rfl rfl (Nat.le_of_ble_eq_true rfl) (by decide +kernel) rfl rfl (C2.mono (pr_cell hb hW) (fun v σ1 hv1 => ?_))
  obtain ⟨y, rfl, h2⟩ := hv1
  show Gd Γ l mL_law 315 [(3, .int i), (2, .ref 284), (1, .ref 0), (0, .float 5)] [.int y] (mk σ1) 333 56324 K
  refine r_aload_n (dcx dL_law_c3 7 rfl) 1 rfl ?_
  refine r_aload_nS (dcx dL_law_c3 8 rfl) 3 rfl ?_
  refine r_iload_n (dcx dL_law_c3 9 rfl) 0 rfl ?_
  refine r_iconst (v := 1) (dcx dL_law_c3 10 rfl) rfl ?_
  refine r_iadd (dcx dL_law_c3 11 rfl) ?_
  refine r_sload hS (dcx dL_law_c3 12 rfl) (hv 1 (by decide)) ?_
  refine r_aload_nS (dcx dL_law_c3 13 rfl) 3 rfl ?_
  refine r_iload_n (dcx dL_law_c3 14 rfl) 0 rfl ?_
  refine r_iconst (v := 2) (dcx dL_law_c3 15 rfl) rfl ?_
  refine r_iadd (dcx dL_law_c3 16 rfl) ?_
  refine r_sload hS (dcx dL_law_c3 17 rfl) (hv 2 (by decide)) ?_
  refine r_aload_nS (dcx dL_law_c3 18 rfl) 3 rfl ?_
  refine r_iload_n (dcx dL_law_c3 19 rfl) 0 rfl ?_
  refine r_iconst (v := 3) (dcx dL_law_c3 20 rfl) rfl ?_
  refine r_iadd (dcx dL_law_c3 21 rfl) ?_
  refine r_sload hS (dcx dL_law_c3 22 rfl) (hv 3 (by decide)) ?_
  refine g_callV (ci := 10) (as := [.int (xs (Int32.toNatClampNeg (i + 1))), .int (xs (Int32.toNatClampNeg (i + 2))), .int (xs (Int32.toNatClampNeg (i + 3)))]) (st := [.int y]) zX10_cell ⟨Nat.le_of_ble_eq_true rfl, Nat.le_of_ble_eq_true rfl⟩ kL_law_36 (dcx dL_law_c3 23 rfl) rfl rfl (Nat.le_of_ble_eq_true rfl) (by decide +kernel) rfl rfl (C2.mono h2 (fun v σ2 hv2 => ?_))
  obtain ⟨w, rfl, e, hj⟩ := hv2
  show Gd Γ l mL_law 334 [(3, .int i), (2, .ref 284), (1, .ref 0), (0, .float 5)] [.int w, .int y] (mk σ2) 333 56324 K
  exact lc_eq (dcx dL_law_c3 24 rfl) (by decide) e hj kk
set_option maxRecDepth 20000 in
theorem lc_sign (hS : SCR Γ Ls xs) (hv : ∀ j : Nat, j ≤ 5 → vp_in (i + nI j) Ls) (hj0 : JS σ W) (hW : W + 60 ≤ 40000) (kk : LK Γ l i (W + 60) K) : Gd Γ l mL_law 339 [(3, .int i), (2, .ref 284), (1, .ref 0), (0, .float 5)] [] (mk σ) 333 56324 K := by
  obtain ⟨T, f, P, L, H, O, D, hb⟩ := hj0
  refine r_aload_n (dcx dL_law_c3 27 rfl) 2 rfl ?_
  refine r_aload_nS (dcx dL_law_c3 28 rfl) 3 rfl ?_
  refine r_iload_n (dcx dL_law_c3 29 rfl) 0 rfl ?_
  refine r_iconst (v := 1) (dcx dL_law_c3 30 rfl) rfl ?_
  refine r_iadd (dcx dL_law_c3 31 rfl) ?_
  refine r_sload hS (dcx dL_law_c3 32 rfl) (hv 1 (by decide)) ?_
  refine r_aload_nS (dcx dL_law_c3 33 rfl) 3 rfl ?_
  refine r_iload_n (dcx dL_law_c3 34 rfl) 0 rfl ?_
  refine r_iconst (v := 2) (dcx dL_law_c3 35 rfl) rfl ?_
  refine r_iadd (dcx dL_law_c3 36 rfl) ?_
  refine r_sload hS (dcx dL_law_c3 37 rfl) (hv 2 (by decide)) ?_
  refine g_callV (ci := 9) (as := [.int (xs (Int32.toNatClampNeg (i + 1))), .int (xs (Int32.toNatClampNeg (i + 2)))]) (st := []) zX9_sign ⟨Nat.le_of_ble_eq_true rfl, Nat.le_of_ble_eq_true rfl⟩ kL_law_37 (dcx dL_law_c3 38 rfl) rfl rfl (Nat.le_of_ble_eq_true rfl) (by decide +kernel) rfl rfl (C2.mono (pr_sign hb hW) (fun v σ1 hv1 => ?_))
  obtain ⟨y, rfl, h2⟩ := hv1
  show Gd Γ l mL_law 353 [(3, .int i), (2, .ref 284), (1, .ref 0), (0, .float 5)] [.int y] (mk σ1) 333 56324 K
  refine r_aload_n (dcx dL_law_c3 39 rfl) 1 rfl ?_
  refine r_aload_nS (dcx dL_law_c4 0 rfl) 3 rfl ?_
  refine r_iload_n (dcx dL_law_c4 1 rfl) 0 rfl ?_
  refine r_iconst (v := 1) (dcx dL_law_c4 2 rfl) rfl ?_
  refine r_iadd (dcx dL_law_c4 3 rfl) ?_
  refine r_sload hS (dcx dL_law_c4 4 rfl) (hv 1 (by decide)) ?_
  refine r_aload_nS (dcx dL_law_c4 5 rfl) 3 rfl ?_
  refine r_iload_n (dcx dL_law_c4 6 rfl) 0 rfl ?_
  refine r_iconst (v := 2) (dcx dL_law_c4 7 rfl) rfl ?_
  refine r_iadd (dcx dL_law_c4 8 rfl) ?_
  refine r_sload hS (dcx dL_law_c4 9 rfl) (hv 2 (by decide)) ?_
  refine g_callV (ci := 10) (as := [.int (xs (Int32.toNatClampNeg (i + 1))), .int (xs (Int32.toNatClampNeg (i + 2)))]) (st := [.int y]) zX10_sign ⟨Nat.le_of_ble_eq_true rfl, Nat.le_of_ble_eq_true rfl⟩ kL_law_41 (dcx dL_law_c4 10 rfl) rfl rfl (Nat.le_of_ble_eq_true rfl) (by decide +kernel) rfl rfl (C2.mono h2 (fun v σ2 hv2 => ?_))
  obtain ⟨w, rfl, e, hj⟩ := hv2
  show Gd Γ l mL_law 367 [(3, .int i), (2, .ref 284), (1, .ref 0), (0, .float 5)] [.int w, .int y] (mk σ2) 333 56324 K
  exact lc_eq (dcx dL_law_c4 11 rfl) (by decide) e hj kk
set_option maxRecDepth 20000 in
theorem lc_window (hS : SCR Γ Ls xs) (hv : ∀ j : Nat, j ≤ 5 → vp_in (i + nI j) Ls) (hj0 : JS σ W) (hW : W + 60 ≤ 40000) (kk : LK Γ l i (W + 60) K) : Gd Γ l mL_law 372 [(3, .int i), (2, .ref 284), (1, .ref 0), (0, .float 5)] [] (mk σ) 333 56324 K := by
  obtain ⟨T, f, P, L, H, O, D, hb⟩ := hj0
  refine r_aload_n (dcx dL_law_c4 14 rfl) 2 rfl ?_
  refine r_aload_nS (dcx dL_law_c4 15 rfl) 3 rfl ?_
  refine r_iload_n (dcx dL_law_c4 16 rfl) 0 rfl ?_
  refine r_iconst (v := 1) (dcx dL_law_c4 17 rfl) rfl ?_
  refine r_iadd (dcx dL_law_c4 18 rfl) ?_
  refine r_sload hS (dcx dL_law_c4 19 rfl) (hv 1 (by decide)) ?_
  refine r_aload_nS (dcx dL_law_c4 20 rfl) 3 rfl ?_
  refine r_iload_n (dcx dL_law_c4 21 rfl) 0 rfl ?_
  refine r_iconst (v := 2) (dcx dL_law_c4 22 rfl) rfl ?_
  refine r_iadd (dcx dL_law_c4 23 rfl) ?_
  refine r_sload hS (dcx dL_law_c4 24 rfl) (hv 2 (by decide)) ?_
  refine g_callV (ci := 9) (as := [.int (xs (Int32.toNatClampNeg (i + 1))), .int (xs (Int32.toNatClampNeg (i + 2)))]) (st := []) zX9_window ⟨Nat.le_of_ble_eq_true rfl, Nat.le_of_ble_eq_true rfl⟩ kL_law_42 (dcx dL_law_c4 25 rfl) rfl rfl (Nat.le_of_ble_eq_true rfl) (by decide +kernel) rfl rfl (C2.mono (pr_window hb hW) (fun v σ1 hv1 => ?_))
  obtain ⟨y, rfl, h2⟩ := hv1
  show Gd Γ l mL_law 386 [(3, .int i), (2, .ref 284), (1, .ref 0), (0, .float 5)] [.int y] (mk σ1) 333 56324 K
  refine r_aload_n (dcx dL_law_c4 26 rfl) 1 rfl ?_
  refine r_aload_nS (dcx dL_law_c4 27 rfl) 3 rfl ?_
  refine r_iload_n (dcx dL_law_c4 28 rfl) 0 rfl ?_
  refine r_iconst (v := 1) (dcx dL_law_c4 29 rfl) rfl ?_
  refine r_iadd (dcx dL_law_c4 30 rfl) ?_
  refine r_sload hS (dcx dL_law_c4 31 rfl) (hv 1 (by decide)) ?_
  refine r_aload_nS (dcx dL_law_c4 32 rfl) 3 rfl ?_
  refine r_iload_n (dcx dL_law_c4 33 rfl) 0 rfl ?_
  refine r_iconst (v := 2) (dcx dL_law_c4 34 rfl) rfl ?_
  refine r_iadd (dcx dL_law_c4 35 rfl) ?_
  refine r_sload hS (dcx dL_law_c4 36 rfl) (hv 2 (by decide)) ?_
  refine g_callV (ci := 10) (as := [.int (xs (Int32.toNatClampNeg (i + 1))), .int (xs (Int32.toNatClampNeg (i + 2)))]) (st := [.int y]) zX10_window ⟨Nat.le_of_ble_eq_true rfl, Nat.le_of_ble_eq_true rfl⟩ kL_law_45 (dcx dL_law_c4 37 rfl) rfl rfl (Nat.le_of_ble_eq_true rfl) (by decide +kernel) rfl rfl (C2.mono h2 (fun v σ2 hv2 => ?_))
  obtain ⟨w, rfl, e, hj⟩ := hv2
  show Gd Γ l mL_law 400 [(3, .int i), (2, .ref 284), (1, .ref 0), (0, .float 5)] [.int w, .int y] (mk σ2) 333 56324 K
  exact lc_eq (dcx dL_law_c4 38 rfl) (by decide) e hj kk
set_option maxRecDepth 20000 in
theorem lc_contrast (hS : SCR Γ Ls xs) (hv : ∀ j : Nat, j ≤ 5 → vp_in (i + nI j) Ls) (hj0 : JS σ W) (hW : W + 60 ≤ 40000) (kk : LK Γ l i (W + 60) K) : Gd Γ l mL_law 405 [(3, .int i), (2, .ref 284), (1, .ref 0), (0, .float 5)] [] (mk σ) 333 56324 K := by
  obtain ⟨T, f, P, L, H, O, D, hb⟩ := hj0
  refine r_aload_n (dcx dL_law_c5 1 rfl) 2 rfl ?_
  refine r_aload_nS (dcx dL_law_c5 2 rfl) 3 rfl ?_
  refine r_iload_n (dcx dL_law_c5 3 rfl) 0 rfl ?_
  refine r_iconst (v := 1) (dcx dL_law_c5 4 rfl) rfl ?_
  refine r_iadd (dcx dL_law_c5 5 rfl) ?_
  refine r_sload hS (dcx dL_law_c5 6 rfl) (hv 1 (by decide)) ?_
  refine r_aload_nS (dcx dL_law_c5 7 rfl) 3 rfl ?_
  refine r_iload_n (dcx dL_law_c5 8 rfl) 0 rfl ?_
  refine r_iconst (v := 2) (dcx dL_law_c5 9 rfl) rfl ?_
  refine r_iadd (dcx dL_law_c5 10 rfl) ?_
  refine r_sload hS (dcx dL_law_c5 11 rfl) (hv 2 (by decide)) ?_
  refine r_aload_nS (dcx dL_law_c5 12 rfl) 3 rfl ?_
  refine r_iload_n (dcx dL_law_c5 13 rfl) 0 rfl ?_
  refine r_iconst (v := 3) (dcx dL_law_c5 14 rfl) rfl ?_
  refine r_iadd (dcx dL_law_c5 15 rfl) ?_
  refine r_sload hS (dcx dL_law_c5 16 rfl) (hv 3 (by decide)) ?_
  refine g_callV (ci := 9) (as := [.int (xs (Int32.toNatClampNeg (i + 1))), .int (xs (Int32.toNatClampNeg (i + 2))), .int (xs (Int32.toNatClampNeg (i + 3)))]) (st := []) zX9_contrast ⟨Nat.le_of_ble_eq_true rfl, Nat.le_of_ble_eq_true rfl⟩ kL_law_46 (dcx dL_law_c5 17 rfl) rfl rfl (Nat.le_of_ble_eq_true rfl) (by decide +kernel) rfl rfl (C2.mono (pr_contrast hb hW) (fun v σ1 hv1 => ?_))
  obtain ⟨y, rfl, h2⟩ := hv1
  show Gd Γ l mL_law 424 [(3, .int i), (2, .ref 284), (1, .ref 0), (0, .float 5)] [.int y] (mk σ1) 333 56324 K
  refine r_aload_n (dcx dL_law_c5 18 rfl) 1 rfl ?_
  refine r_aload_nS (dcx dL_law_c5 19 rfl) 3 rfl ?_
  refine r_iload_n (dcx dL_law_c5 20 rfl) 0 rfl ?_
  refine r_iconst (v := 1) (dcx dL_law_c5 21 rfl) rfl ?_
  refine r_iadd (dcx dL_law_c5 22 rfl) ?_
  refine r_sload hS (dcx dL_law_c5 23 rfl) (hv 1 (by decide)) ?_
  refine r_aload_nS (dcx dL_law_c5 24 rfl) 3 rfl ?_
  refine r_iload_n (dcx dL_law_c5 25 rfl) 0 rfl ?_
  refine r_iconst (v := 2) (dcx dL_law_c5 26 rfl) rfl ?_
  refine r_iadd (dcx dL_law_c5 27 rfl) ?_
  refine r_sload hS (dcx dL_law_c5 28 rfl) (hv 2 (by decide)) ?_
  refine r_aload_nS (dcx dL_law_c5 29 rfl) 3 rfl ?_
  refine r_iload_n (dcx dL_law_c5 30 rfl) 0 rfl ?_
  refine r_iconst (v := 3) (dcx dL_law_c5 31 rfl) rfl ?_
  refine r_iadd (dcx dL_law_c5 32 rfl) ?_
  refine r_sload hS (dcx dL_law_c5 33 rfl) (hv 3 (by decide)) ?_
  refine g_callV (ci := 10) (as := [.int (xs (Int32.toNatClampNeg (i + 1))), .int (xs (Int32.toNatClampNeg (i + 2))), .int (xs (Int32.toNatClampNeg (i + 3)))]) (st := [.int y]) zX10_contrast ⟨Nat.le_of_ble_eq_true rfl, Nat.le_of_ble_eq_true rfl⟩ kL_law_49 (dcx dL_law_c5 34 rfl) rfl rfl (Nat.le_of_ble_eq_true rfl) (by decide +kernel) rfl rfl (C2.mono h2 (fun v σ2 hv2 => ?_))
  obtain ⟨w, rfl, e, hj⟩ := hv2
  show Gd Γ l mL_law 443 [(3, .int i), (2, .ref 284), (1, .ref 0), (0, .float 5)] [.int w, .int y] (mk σ2) 333 56324 K
  exact lc_eq (dcx dL_law_c5 35 rfl) (by decide) e hj kk
set_option maxRecDepth 20000 in
theorem lc_reads (hS : SCR Γ Ls xs) (hv : ∀ j : Nat, j ≤ 5 → vp_in (i + nI j) Ls) (hj0 : JS σ W) (hW : W + 60 ≤ 40000) (kk : LK Γ l i (W + 60) K) : Gd Γ l mL_law 448 [(3, .int i), (2, .ref 284), (1, .ref 0), (0, .float 5)] [] (mk σ) 333 56324 K := by
  obtain ⟨T, f, P, L, H, O, D, hb⟩ := hj0
  refine r_aload_n (dcx dL_law_c5 38 rfl) 2 rfl ?_
  refine r_aload_nS (dcx dL_law_c5 39 rfl) 3 rfl ?_
  refine r_iload_n (dcx dL_law_c6 0 rfl) 0 rfl ?_
  refine r_iconst (v := 1) (dcx dL_law_c6 1 rfl) rfl ?_
  refine r_iadd (dcx dL_law_c6 2 rfl) ?_
  refine r_sload hS (dcx dL_law_c6 3 rfl) (hv 1 (by decide)) ?_
  refine r_aload_nS (dcx dL_law_c6 4 rfl) 3 rfl ?_
  refine r_iload_n (dcx dL_law_c6 5 rfl) 0 rfl ?_
  refine r_iconst (v := 2) (dcx dL_law_c6 6 rfl) rfl ?_
  refine r_iadd (dcx dL_law_c6 7 rfl) ?_
  refine r_sload hS (dcx dL_law_c6 8 rfl) (hv 2 (by decide)) ?_
  refine r_aload_nS (dcx dL_law_c6 9 rfl) 3 rfl ?_
  refine r_iload_n (dcx dL_law_c6 10 rfl) 0 rfl ?_
  refine r_iconst (v := 3) (dcx dL_law_c6 11 rfl) rfl ?_
  refine r_iadd (dcx dL_law_c6 12 rfl) ?_
  refine r_sload hS (dcx dL_law_c6 13 rfl) (hv 3 (by decide)) ?_
  refine g_callV (ci := 9) (as := [.int (xs (Int32.toNatClampNeg (i + 1))), .int (xs (Int32.toNatClampNeg (i + 2))), .int (xs (Int32.toNatClampNeg (i + 3)))]) (st := []) zX9_reads ⟨Nat.le_of_ble_eq_true rfl, Nat.le_of_ble_eq_true rfl⟩ kL_law_50 (dcx dL_law_c6 14 rfl) rfl rfl (Nat.le_of_ble_eq_true rfl) (by decide +kernel) rfl rfl (C2.mono (pr_reads hb hW) (fun v σ1 hv1 => ?_))
  obtain ⟨y, rfl, h2⟩ := hv1
  show Gd Γ l mL_law 467 [(3, .int i), (2, .ref 284), (1, .ref 0), (0, .float 5)] [.int y] (mk σ1) 333 56324 K
  refine r_aload_n (dcx dL_law_c6 15 rfl) 1 rfl ?_
  refine r_aload_nS (dcx dL_law_c6 16 rfl) 3 rfl ?_
  refine r_iload_n (dcx dL_law_c6 17 rfl) 0 rfl ?_
  refine r_iconst (v := 1) (dcx dL_law_c6 18 rfl) rfl ?_
  refine r_iadd (dcx dL_law_c6 19 rfl) ?_
  refine r_sload hS (dcx dL_law_c6 20 rfl) (hv 1 (by decide)) ?_
  refine r_aload_nS (dcx dL_law_c6 21 rfl) 3 rfl ?_
  refine r_iload_n (dcx dL_law_c6 22 rfl) 0 rfl ?_
  refine r_iconst (v := 2) (dcx dL_law_c6 23 rfl) rfl ?_
  refine r_iadd (dcx dL_law_c6 24 rfl) ?_
  refine r_sload hS (dcx dL_law_c6 25 rfl) (hv 2 (by decide)) ?_
  refine r_aload_nS (dcx dL_law_c6 26 rfl) 3 rfl ?_
  refine r_iload_n (dcx dL_law_c6 27 rfl) 0 rfl ?_
  refine r_iconst (v := 3) (dcx dL_law_c6 28 rfl) rfl ?_
  refine r_iadd (dcx dL_law_c6 29 rfl) ?_
  refine r_sload hS (dcx dL_law_c6 30 rfl) (hv 3 (by decide)) ?_
  refine g_callV (ci := 10) (as := [.int (xs (Int32.toNatClampNeg (i + 1))), .int (xs (Int32.toNatClampNeg (i + 2))), .int (xs (Int32.toNatClampNeg (i + 3)))]) (st := [.int y]) zX10_reads ⟨Nat.le_of_ble_eq_true rfl, Nat.le_of_ble_eq_true rfl⟩ kL_law_53 (dcx dL_law_c6 31 rfl) rfl rfl (Nat.le_of_ble_eq_true rfl) (by decide +kernel) rfl rfl (C2.mono h2 (fun v σ2 hv2 => ?_))
  obtain ⟨w, rfl, e, hj⟩ := hv2
  show Gd Γ l mL_law 486 [(3, .int i), (2, .ref 284), (1, .ref 0), (0, .float 5)] [.int w, .int y] (mk σ2) 333 56324 K
  exact lc_eq (dcx dL_law_c6 32 rfl) (by decide) e hj kk
set_option maxRecDepth 20000 in
theorem lc_cut (hS : SCR Γ Ls xs) (hv : ∀ j : Nat, j ≤ 5 → vp_in (i + nI j) Ls) (hj0 : JS σ W) (hW : W + 60 ≤ 40000) (kk : LK Γ l i (W + 60) K) : Gd Γ l mL_law 491 [(3, .int i), (2, .ref 284), (1, .ref 0), (0, .float 5)] [] (mk σ) 333 56324 K := by
  obtain ⟨T, f, P, L, H, O, D, hb⟩ := hj0
  refine r_aload_n (dcx dL_law_c6 35 rfl) 2 rfl ?_
  refine r_aload_nS (dcx dL_law_c6 36 rfl) 3 rfl ?_
  refine r_iload_n (dcx dL_law_c6 37 rfl) 0 rfl ?_
  refine r_iconst (v := 1) (dcx dL_law_c6 38 rfl) rfl ?_
  refine r_iadd (dcx dL_law_c6 39 rfl) ?_
  refine r_sload hS (dcx dL_law_c7 0 rfl) (hv 1 (by decide)) ?_
  refine r_aload_nS (dcx dL_law_c7 1 rfl) 3 rfl ?_
  refine r_iload_n (dcx dL_law_c7 2 rfl) 0 rfl ?_
  refine r_iconst (v := 2) (dcx dL_law_c7 3 rfl) rfl ?_
  refine r_iadd (dcx dL_law_c7 4 rfl) ?_
  refine r_sload hS (dcx dL_law_c7 5 rfl) (hv 2 (by decide)) ?_
  refine r_aload_nS (dcx dL_law_c7 6 rfl) 3 rfl ?_
  refine r_iload_n (dcx dL_law_c7 7 rfl) 0 rfl ?_
  refine r_iconst (v := 3) (dcx dL_law_c7 8 rfl) rfl ?_
  refine r_iadd (dcx dL_law_c7 9 rfl) ?_
  refine r_sload hS (dcx dL_law_c7 10 rfl) (hv 3 (by decide)) ?_
  refine g_callV (ci := 9) (as := [.int (xs (Int32.toNatClampNeg (i + 1))), .int (xs (Int32.toNatClampNeg (i + 2))), .int (xs (Int32.toNatClampNeg (i + 3)))]) (st := []) zX9_cut ⟨Nat.le_of_ble_eq_true rfl, Nat.le_of_ble_eq_true rfl⟩ kL_law_54 (dcx dL_law_c7 11 rfl) rfl rfl (Nat.le_of_ble_eq_true rfl) (by decide +kernel) rfl rfl (C2.mono (pr_cut hb hW) (fun v σ1 hv1 => ?_))
  obtain ⟨y, rfl, h2⟩ := hv1
  show Gd Γ l mL_law 510 [(3, .int i), (2, .ref 284), (1, .ref 0), (0, .float 5)] [.int y] (mk σ1) 333 56324 K
  refine r_aload_n (dcx dL_law_c7 12 rfl) 1 rfl ?_
  refine r_aload_nS (dcx dL_law_c7 13 rfl) 3 rfl ?_
  refine r_iload_n (dcx dL_law_c7 14 rfl) 0 rfl ?_
  refine r_iconst (v := 1) (dcx dL_law_c7 15 rfl) rfl ?_
  refine r_iadd (dcx dL_law_c7 16 rfl) ?_
  refine r_sload hS (dcx dL_law_c7 17 rfl) (hv 1 (by decide)) ?_
  refine r_aload_nS (dcx dL_law_c7 18 rfl) 3 rfl ?_
  refine r_iload_n (dcx dL_law_c7 19 rfl) 0 rfl ?_
  refine r_iconst (v := 2) (dcx dL_law_c7 20 rfl) rfl ?_
  refine r_iadd (dcx dL_law_c7 21 rfl) ?_
  refine r_sload hS (dcx dL_law_c7 22 rfl) (hv 2 (by decide)) ?_
  refine r_aload_nS (dcx dL_law_c7 23 rfl) 3 rfl ?_
  refine r_iload_n (dcx dL_law_c7 24 rfl) 0 rfl ?_
  refine r_iconst (v := 3) (dcx dL_law_c7 25 rfl) rfl ?_
  refine r_iadd (dcx dL_law_c7 26 rfl) ?_
  refine r_sload hS (dcx dL_law_c7 27 rfl) (hv 3 (by decide)) ?_
  refine g_callV (ci := 10) (as := [.int (xs (Int32.toNatClampNeg (i + 1))), .int (xs (Int32.toNatClampNeg (i + 2))), .int (xs (Int32.toNatClampNeg (i + 3)))]) (st := [.int y]) zX10_cut ⟨Nat.le_of_ble_eq_true rfl, Nat.le_of_ble_eq_true rfl⟩ kL_law_57 (dcx dL_law_c7 28 rfl) rfl rfl (Nat.le_of_ble_eq_true rfl) (by decide +kernel) rfl rfl (C2.mono h2 (fun v σ2 hv2 => ?_))
  obtain ⟨w, rfl, e, hj⟩ := hv2
  show Gd Γ l mL_law 529 [(3, .int i), (2, .ref 284), (1, .ref 0), (0, .float 5)] [.int w, .int y] (mk σ2) 333 56324 K
  exact lc_eq (dcx dL_law_c7 29 rfl) (by decide) e hj kk
set_option maxRecDepth 20000 in
theorem lc_graze (hS : SCR Γ Ls xs) (hv : ∀ j : Nat, j ≤ 5 → vp_in (i + nI j) Ls) (hj0 : JS σ W) (hW : W + 60 ≤ 40000) (kk : LK Γ l i (W + 60) K) : Gd Γ l mL_law 534 [(3, .int i), (2, .ref 284), (1, .ref 0), (0, .float 5)] [] (mk σ) 333 56324 K := by
  obtain ⟨T, f, P, L, H, O, D, hb⟩ := hj0
  refine r_aload_n (dcx dL_law_c7 32 rfl) 2 rfl ?_
  refine r_aload_nS (dcx dL_law_c7 33 rfl) 3 rfl ?_
  refine r_iload_n (dcx dL_law_c7 34 rfl) 0 rfl ?_
  refine r_iconst (v := 1) (dcx dL_law_c7 35 rfl) rfl ?_
  refine r_iadd (dcx dL_law_c7 36 rfl) ?_
  refine r_sload hS (dcx dL_law_c7 37 rfl) (hv 1 (by decide)) ?_
  refine r_aload_nS (dcx dL_law_c7 38 rfl) 3 rfl ?_
  refine r_iload_n (dcx dL_law_c7 39 rfl) 0 rfl ?_
  refine r_iconst (v := 2) (dcx dL_law_c8 0 rfl) rfl ?_
  refine r_iadd (dcx dL_law_c8 1 rfl) ?_
  refine r_sload hS (dcx dL_law_c8 2 rfl) (hv 2 (by decide)) ?_
  refine g_callV (ci := 9) (as := [.int (xs (Int32.toNatClampNeg (i + 1))), .int (xs (Int32.toNatClampNeg (i + 2)))]) (st := []) zX9_graze ⟨Nat.le_of_ble_eq_true rfl, Nat.le_of_ble_eq_true rfl⟩ kL_law_58 (dcx dL_law_c8 3 rfl) rfl rfl (Nat.le_of_ble_eq_true rfl) (by decide +kernel) rfl rfl (C2.mono (pr_graze hb hW) (fun v σ1 hv1 => ?_))
  obtain ⟨y, rfl, h2⟩ := hv1
  show Gd Γ l mL_law 548 [(3, .int i), (2, .ref 284), (1, .ref 0), (0, .float 5)] [.int y] (mk σ1) 333 56324 K
  refine r_aload_n (dcx dL_law_c8 4 rfl) 1 rfl ?_
  refine r_aload_nS (dcx dL_law_c8 5 rfl) 3 rfl ?_
  refine r_iload_n (dcx dL_law_c8 6 rfl) 0 rfl ?_
  refine r_iconst (v := 1) (dcx dL_law_c8 7 rfl) rfl ?_
  refine r_iadd (dcx dL_law_c8 8 rfl) ?_
  refine r_sload hS (dcx dL_law_c8 9 rfl) (hv 1 (by decide)) ?_
  refine r_aload_nS (dcx dL_law_c8 10 rfl) 3 rfl ?_
  refine r_iload_n (dcx dL_law_c8 11 rfl) 0 rfl ?_
  refine r_iconst (v := 2) (dcx dL_law_c8 12 rfl) rfl ?_
  refine r_iadd (dcx dL_law_c8 13 rfl) ?_
  refine r_sload hS (dcx dL_law_c8 14 rfl) (hv 2 (by decide)) ?_
  refine g_callV (ci := 10) (as := [.int (xs (Int32.toNatClampNeg (i + 1))), .int (xs (Int32.toNatClampNeg (i + 2)))]) (st := [.int y]) zX10_graze ⟨Nat.le_of_ble_eq_true rfl, Nat.le_of_ble_eq_true rfl⟩ kL_law_61 (dcx dL_law_c8 15 rfl) rfl rfl (Nat.le_of_ble_eq_true rfl) (by decide +kernel) rfl rfl (C2.mono h2 (fun v σ2 hv2 => ?_))
  obtain ⟨w, rfl, e, hj⟩ := hv2
  show Gd Γ l mL_law 562 [(3, .int i), (2, .ref 284), (1, .ref 0), (0, .float 5)] [.int w, .int y] (mk σ2) 333 56324 K
  exact lc_eq (dcx dL_law_c8 16 rfl) (by decide) e hj kk
set_option maxRecDepth 20000 in
theorem lc_nourish (hS : SCR Γ Ls xs) (hv : ∀ j : Nat, j ≤ 5 → vp_in (i + nI j) Ls) (hj0 : JS σ W) (hW : W + 60 ≤ 40000) (kk : LK Γ l i (W + 60) K) : Gd Γ l mL_law 567 [(3, .int i), (2, .ref 284), (1, .ref 0), (0, .float 5)] [] (mk σ) 333 56324 K := by
  obtain ⟨T, f, P, L, H, O, D, hb⟩ := hj0
  refine r_aload_n (dcx dL_law_c8 19 rfl) 2 rfl ?_
  refine r_aload_nS (dcx dL_law_c8 20 rfl) 3 rfl ?_
  refine r_iload_n (dcx dL_law_c8 21 rfl) 0 rfl ?_
  refine r_iconst (v := 1) (dcx dL_law_c8 22 rfl) rfl ?_
  refine r_iadd (dcx dL_law_c8 23 rfl) ?_
  refine r_sload hS (dcx dL_law_c8 24 rfl) (hv 1 (by decide)) ?_
  refine r_aload_nS (dcx dL_law_c8 25 rfl) 3 rfl ?_
  refine r_iload_n (dcx dL_law_c8 26 rfl) 0 rfl ?_
  refine r_iconst (v := 2) (dcx dL_law_c8 27 rfl) rfl ?_
  refine r_iadd (dcx dL_law_c8 28 rfl) ?_
  refine r_sload hS (dcx dL_law_c8 29 rfl) (hv 2 (by decide)) ?_
  refine g_callV (ci := 9) (as := [.int (xs (Int32.toNatClampNeg (i + 1))), .int (xs (Int32.toNatClampNeg (i + 2)))]) (st := []) zX9_nourish ⟨Nat.le_of_ble_eq_true rfl, Nat.le_of_ble_eq_true rfl⟩ kL_law_62 (dcx dL_law_c8 30 rfl) rfl rfl (Nat.le_of_ble_eq_true rfl) (by decide +kernel) rfl rfl (C2.mono (pr_nourish hb hW) (fun v σ1 hv1 => ?_))
  obtain ⟨y, rfl, h2⟩ := hv1
  show Gd Γ l mL_law 581 [(3, .int i), (2, .ref 284), (1, .ref 0), (0, .float 5)] [.int y] (mk σ1) 333 56324 K
  refine r_aload_n (dcx dL_law_c8 31 rfl) 1 rfl ?_
  refine r_aload_nS (dcx dL_law_c8 32 rfl) 3 rfl ?_
  refine r_iload_n (dcx dL_law_c8 33 rfl) 0 rfl ?_
  refine r_iconst (v := 1) (dcx dL_law_c8 34 rfl) rfl ?_
  refine r_iadd (dcx dL_law_c8 35 rfl) ?_
  refine r_sload hS (dcx dL_law_c8 36 rfl) (hv 1 (by decide)) ?_
  refine r_aload_nS (dcx dL_law_c8 37 rfl) 3 rfl ?_
  refine r_iload_n (dcx dL_law_c8 38 rfl) 0 rfl ?_
  refine r_iconst (v := 2) (dcx dL_law_c8 39 rfl) rfl ?_
  refine r_iadd (dcx dL_law_c9 0 rfl) ?_
  refine r_sload hS (dcx dL_law_c9 1 rfl) (hv 2 (by decide)) ?_
  refine g_callV (ci := 10) (as := [.int (xs (Int32.toNatClampNeg (i + 1))), .int (xs (Int32.toNatClampNeg (i + 2)))]) (st := [.int y]) zX10_nourish ⟨Nat.le_of_ble_eq_true rfl, Nat.le_of_ble_eq_true rfl⟩ kL_law_65 (dcx dL_law_c9 2 rfl) rfl rfl (Nat.le_of_ble_eq_true rfl) (by decide +kernel) rfl rfl (C2.mono h2 (fun v σ2 hv2 => ?_))
  obtain ⟨w, rfl, e, hj⟩ := hv2
  show Gd Γ l mL_law 595 [(3, .int i), (2, .ref 284), (1, .ref 0), (0, .float 5)] [.int w, .int y] (mk σ2) 333 56324 K
  exact lc_eq (dcx dL_law_c9 3 rfl) (by decide) e hj kk
set_option maxRecDepth 20000 in
theorem lc_mow (hS : SCR Γ Ls xs) (hv : ∀ j : Nat, j ≤ 5 → vp_in (i + nI j) Ls) (hj0 : JS σ W) (hW : W + 60 ≤ 40000) (kk : LK Γ l i (W + 60) K) : Gd Γ l mL_law 600 [(3, .int i), (2, .ref 284), (1, .ref 0), (0, .float 5)] [] (mk σ) 333 56324 K := by
  obtain ⟨T, f, P, L, H, O, D, hb⟩ := hj0
  refine r_aload_n (dcx dL_law_c9 6 rfl) 2 rfl ?_
  refine r_aload_nS (dcx dL_law_c9 7 rfl) 3 rfl ?_
  refine r_iload_n (dcx dL_law_c9 8 rfl) 0 rfl ?_
  refine r_iconst (v := 1) (dcx dL_law_c9 9 rfl) rfl ?_
  refine r_iadd (dcx dL_law_c9 10 rfl) ?_
  refine r_sload hS (dcx dL_law_c9 11 rfl) (hv 1 (by decide)) ?_
  refine g_callV (ci := 9) (as := [.int (xs (Int32.toNatClampNeg (i + 1)))]) (st := []) zX9_mow ⟨Nat.le_of_ble_eq_true rfl, Nat.le_of_ble_eq_true rfl⟩ kL_law_66 (dcx dL_law_c9 12 rfl) rfl rfl (Nat.le_of_ble_eq_true rfl) (by decide +kernel) rfl rfl (C2.mono (pr_mow hb hW) (fun v σ1 hv1 => ?_))
  obtain ⟨y, rfl, h2⟩ := hv1
  show Gd Γ l mL_law 609 [(3, .int i), (2, .ref 284), (1, .ref 0), (0, .float 5)] [.int y] (mk σ1) 333 56324 K
  refine r_aload_n (dcx dL_law_c9 13 rfl) 1 rfl ?_
  refine r_aload_nS (dcx dL_law_c9 14 rfl) 3 rfl ?_
  refine r_iload_n (dcx dL_law_c9 15 rfl) 0 rfl ?_
  refine r_iconst (v := 1) (dcx dL_law_c9 16 rfl) rfl ?_
  refine r_iadd (dcx dL_law_c9 17 rfl) ?_
  refine r_sload hS (dcx dL_law_c9 18 rfl) (hv 1 (by decide)) ?_
  refine g_callV (ci := 10) (as := [.int (xs (Int32.toNatClampNeg (i + 1)))]) (st := [.int y]) zX10_mow ⟨Nat.le_of_ble_eq_true rfl, Nat.le_of_ble_eq_true rfl⟩ kL_law_69 (dcx dL_law_c9 19 rfl) rfl rfl (Nat.le_of_ble_eq_true rfl) (by decide +kernel) rfl rfl (C2.mono h2 (fun v σ2 hv2 => ?_))
  obtain ⟨w, rfl, e, hj⟩ := hv2
  show Gd Γ l mL_law 618 [(3, .int i), (2, .ref 284), (1, .ref 0), (0, .float 5)] [.int w, .int y] (mk σ2) 333 56324 K
  exact lc_eq (dcx dL_law_c9 20 rfl) (by decide) e hj kk
set_option maxRecDepth 20000 in
theorem lc_weeks (hS : SCR Γ Ls xs) (hv : ∀ j : Nat, j ≤ 5 → vp_in (i + nI j) Ls) (hj0 : JS σ W) (hW : W + 60 ≤ 40000) (kk : LK Γ l i (W + 60) K) : Gd Γ l mL_law 623 [(3, .int i), (2, .ref 284), (1, .ref 0), (0, .float 5)] [] (mk σ) 333 56324 K := by
  obtain ⟨T, f, P, L, H, O, D, hb⟩ := hj0
  refine r_aload_n (dcx dL_law_c9 23 rfl) 2 rfl ?_
  refine r_aload_nS (dcx dL_law_c9 24 rfl) 3 rfl ?_
  refine r_iload_n (dcx dL_law_c9 25 rfl) 0 rfl ?_
  refine r_iconst (v := 1) (dcx dL_law_c9 26 rfl) rfl ?_
  refine r_iadd (dcx dL_law_c9 27 rfl) ?_
  refine r_sload hS (dcx dL_law_c9 28 rfl) (hv 1 (by decide)) ?_
  refine g_callV (ci := 9) (as := [.int (xs (Int32.toNatClampNeg (i + 1)))]) (st := []) zX9_weeks ⟨Nat.le_of_ble_eq_true rfl, Nat.le_of_ble_eq_true rfl⟩ kL_law_70 (dcx dL_law_c9 29 rfl) rfl rfl (Nat.le_of_ble_eq_true rfl) (by decide +kernel) rfl rfl (C2.mono (pr_weeks hb hW) (fun v σ1 hv1 => ?_))
  obtain ⟨y, rfl, h2⟩ := hv1
  show Gd Γ l mL_law 632 [(3, .int i), (2, .ref 284), (1, .ref 0), (0, .float 5)] [.int y] (mk σ1) 333 56324 K
  refine r_aload_n (dcx dL_law_c9 30 rfl) 1 rfl ?_
  refine r_aload_nS (dcx dL_law_c9 31 rfl) 3 rfl ?_
  refine r_iload_n (dcx dL_law_c9 32 rfl) 0 rfl ?_
  refine r_iconst (v := 1) (dcx dL_law_c9 33 rfl) rfl ?_
  refine r_iadd (dcx dL_law_c9 34 rfl) ?_
  refine r_sload hS (dcx dL_law_c9 35 rfl) (hv 1 (by decide)) ?_
  refine g_callV (ci := 10) (as := [.int (xs (Int32.toNatClampNeg (i + 1)))]) (st := [.int y]) zX10_weeks ⟨Nat.le_of_ble_eq_true rfl, Nat.le_of_ble_eq_true rfl⟩ kL_law_73 (dcx dL_law_c9 36 rfl) rfl rfl (Nat.le_of_ble_eq_true rfl) (by decide +kernel) rfl rfl (C2.mono h2 (fun v σ2 hv2 => ?_))
  obtain ⟨w, rfl, e, hj⟩ := hv2
  show Gd Γ l mL_law 641 [(3, .int i), (2, .ref 284), (1, .ref 0), (0, .float 5)] [.int w, .int y] (mk σ2) 333 56324 K
  exact lc_eq (dcx dL_law_c9 37 rfl) (by decide) e hj kk
set_option maxRecDepth 20000 in
theorem lc_undo (hS : SCR Γ Ls xs) (hv : ∀ j : Nat, j ≤ 5 → vp_in (i + nI j) Ls) (hj0 : JS σ W) (hW : W + 60 ≤ 40000) (kk : LK Γ l i (W + 60) K) : Gd Γ l mL_law 646 [(3, .int i), (2, .ref 284), (1, .ref 0), (0, .float 5)] [] (mk σ) 333 56324 K := by
  obtain ⟨T, f, P, L, H, O, D, hb⟩ := hj0
  refine r_aload_n (dcx dL_law_c10 0 rfl) 2 rfl ?_
  refine g_callV (ci := 9) (as := []) (st := []) zX9_undo ⟨Nat.le_of_ble_eq_true rfl, Nat.le_of_ble_eq_true rfl⟩ kL_law_74 (dcx dL_law_c10 1 rfl) rfl rfl (Nat.le_of_ble_eq_true rfl) (by decide +kernel) rfl rfl (C2.mono (pr_undo hb hW) (fun v σ1 hv1 => ?_))
  obtain ⟨y, rfl, h2⟩ := hv1
  show Gd Γ l mL_law 650 [(3, .int i), (2, .ref 284), (1, .ref 0), (0, .float 5)] [.int y] (mk σ1) 333 56324 K
  refine r_aload_n (dcx dL_law_c10 2 rfl) 1 rfl ?_
  refine g_callV (ci := 10) (as := []) (st := [.int y]) zX10_undo ⟨Nat.le_of_ble_eq_true rfl, Nat.le_of_ble_eq_true rfl⟩ kL_law_78 (dcx dL_law_c10 3 rfl) rfl rfl (Nat.le_of_ble_eq_true rfl) (by decide +kernel) rfl rfl (C2.mono h2 (fun v σ2 hv2 => ?_))
  obtain ⟨w, rfl, e, hj⟩ := hv2
  show Gd Γ l mL_law 654 [(3, .int i), (2, .ref 284), (1, .ref 0), (0, .float 5)] [.int w, .int y] (mk σ2) 333 56324 K
  exact lc_eq (dcx dL_law_c10 4 rfl) (by decide) e hj kk
set_option maxRecDepth 20000 in
theorem lc_best (hS : SCR Γ Ls xs) (hv : ∀ j : Nat, j ≤ 5 → vp_in (i + nI j) Ls) (hj0 : JS σ W) (hW : W + 60 ≤ 40000) (kk : LK Γ l i (W + 60) K) : Gd Γ l mL_law 659 [(3, .int i), (2, .ref 284), (1, .ref 0), (0, .float 5)] [] (mk σ) 333 56324 K := by
  obtain ⟨T, f, P, L, H, O, D, hb⟩ := hj0
  refine r_aload_n (dcx dL_law_c10 7 rfl) 2 rfl ?_
  refine r_aload_nS (dcx dL_law_c10 8 rfl) 3 rfl ?_
  refine r_iload_n (dcx dL_law_c10 9 rfl) 0 rfl ?_
  refine r_iconst (v := 1) (dcx dL_law_c10 10 rfl) rfl ?_
  refine r_iadd (dcx dL_law_c10 11 rfl) ?_
  refine r_sload hS (dcx dL_law_c10 12 rfl) (hv 1 (by decide)) ?_
  refine r_aload_nS (dcx dL_law_c10 13 rfl) 3 rfl ?_
  refine r_iload_n (dcx dL_law_c10 14 rfl) 0 rfl ?_
  refine r_iconst (v := 2) (dcx dL_law_c10 15 rfl) rfl ?_
  refine r_iadd (dcx dL_law_c10 16 rfl) ?_
  refine r_sload hS (dcx dL_law_c10 17 rfl) (hv 2 (by decide)) ?_
  refine g_callV (ci := 9) (as := [.int (xs (Int32.toNatClampNeg (i + 1))), .int (xs (Int32.toNatClampNeg (i + 2)))]) (st := []) zX9_best ⟨Nat.le_of_ble_eq_true rfl, Nat.le_of_ble_eq_true rfl⟩ kL_law_79 (dcx dL_law_c10 18 rfl) rfl rfl (Nat.le_of_ble_eq_true rfl) (by decide +kernel) rfl rfl (C2.mono (pr_best hb hW) (fun v σ1 hv1 => ?_))
  obtain ⟨y, rfl, h2⟩ := hv1
  show Gd Γ l mL_law 673 [(3, .int i), (2, .ref 284), (1, .ref 0), (0, .float 5)] [.int y] (mk σ1) 333 56324 K
  refine r_aload_n (dcx dL_law_c10 19 rfl) 1 rfl ?_
  refine r_aload_nS (dcx dL_law_c10 20 rfl) 3 rfl ?_
  refine r_iload_n (dcx dL_law_c10 21 rfl) 0 rfl ?_
  refine r_iconst (v := 1) (dcx dL_law_c10 22 rfl) rfl ?_
  refine r_iadd (dcx dL_law_c10 23 rfl) ?_
  refine r_sload hS (dcx dL_law_c10 24 rfl) (hv 1 (by decide)) ?_
  refine r_aload_nS (dcx dL_law_c10 25 rfl) 3 rfl ?_
  refine r_iload_n (dcx dL_law_c10 26 rfl) 0 rfl ?_
  refine r_iconst (v := 2) (dcx dL_law_c10 27 rfl) rfl ?_
  refine r_iadd (dcx dL_law_c10 28 rfl) ?_
  refine r_sload hS (dcx dL_law_c10 29 rfl) (hv 2 (by decide)) ?_
  refine g_callV (ci := 10) (as := [.int (xs (Int32.toNatClampNeg (i + 1))), .int (xs (Int32.toNatClampNeg (i + 2)))]) (st := [.int y]) zX10_best ⟨Nat.le_of_ble_eq_true rfl, Nat.le_of_ble_eq_true rfl⟩ kL_law_82 (dcx dL_law_c10 30 rfl) rfl rfl (Nat.le_of_ble_eq_true rfl) (by decide +kernel) rfl rfl (C2.mono h2 (fun v σ2 hv2 => ?_))
  obtain ⟨w, rfl, e, hj⟩ := hv2
  show Gd Γ l mL_law 687 [(3, .int i), (2, .ref 284), (1, .ref 0), (0, .float 5)] [.int w, .int y] (mk σ2) 333 56324 K
  exact lc_eq (dcx dL_law_c10 31 rfl) (by decide) e hj kk
set_option maxRecDepth 20000 in
theorem lc_gone (hS : SCR Γ Ls xs) (hv : ∀ j : Nat, j ≤ 5 → vp_in (i + nI j) Ls) (hj0 : JS σ W) (hW : W + 60 ≤ 40000) (kk : LK Γ l i (W + 60) K) : Gd Γ l mL_law 692 [(3, .int i), (2, .ref 284), (1, .ref 0), (0, .float 5)] [] (mk σ) 333 56324 K := by
  obtain ⟨T, f, P, L, H, O, D, hb⟩ := hj0
  refine r_aload_n (dcx dL_law_c10 34 rfl) 2 rfl ?_
  refine r_aload_nS (dcx dL_law_c10 35 rfl) 3 rfl ?_
  refine r_iload_n (dcx dL_law_c10 36 rfl) 0 rfl ?_
  refine r_iconst (v := 1) (dcx dL_law_c10 37 rfl) rfl ?_
  refine r_iadd (dcx dL_law_c10 38 rfl) ?_
  refine r_sload hS (dcx dL_law_c10 39 rfl) (hv 1 (by decide)) ?_
  refine r_aload_nS (dcx dL_law_c11 0 rfl) 3 rfl ?_
  refine r_iload_n (dcx dL_law_c11 1 rfl) 0 rfl ?_
  refine r_iconst (v := 2) (dcx dL_law_c11 2 rfl) rfl ?_
  refine r_iadd (dcx dL_law_c11 3 rfl) ?_
  refine r_sload hS (dcx dL_law_c11 4 rfl) (hv 2 (by decide)) ?_
  refine r_aload_nS (dcx dL_law_c11 5 rfl) 3 rfl ?_
  refine r_iload_n (dcx dL_law_c11 6 rfl) 0 rfl ?_
  refine r_iconst (v := 3) (dcx dL_law_c11 7 rfl) rfl ?_
  refine r_iadd (dcx dL_law_c11 8 rfl) ?_
  refine r_sload hS (dcx dL_law_c11 9 rfl) (hv 3 (by decide)) ?_
  refine g_callV (ci := 9) (as := [.int (xs (Int32.toNatClampNeg (i + 1))), .int (xs (Int32.toNatClampNeg (i + 2))), .int (xs (Int32.toNatClampNeg (i + 3)))]) (st := []) zX9_gone ⟨Nat.le_of_ble_eq_true rfl, Nat.le_of_ble_eq_true rfl⟩ kL_law_83 (dcx dL_law_c11 10 rfl) rfl rfl (Nat.le_of_ble_eq_true rfl) (by decide +kernel) rfl rfl (C2.mono (pr_gone hb hW) (fun v σ1 hv1 => ?_))
  obtain ⟨y, rfl, h2⟩ := hv1
  show Gd Γ l mL_law 711 [(3, .int i), (2, .ref 284), (1, .ref 0), (0, .float 5)] [.int y] (mk σ1) 333 56324 K
  refine r_aload_n (dcx dL_law_c11 11 rfl) 1 rfl ?_
  refine r_aload_nS (dcx dL_law_c11 12 rfl) 3 rfl ?_
  refine r_iload_n (dcx dL_law_c11 13 rfl) 0 rfl ?_
  refine r_iconst (v := 1) (dcx dL_law_c11 14 rfl) rfl ?_
  refine r_iadd (dcx dL_law_c11 15 rfl) ?_
  refine r_sload hS (dcx dL_law_c11 16 rfl) (hv 1 (by decide)) ?_
  refine r_aload_nS (dcx dL_law_c11 17 rfl) 3 rfl ?_
  refine r_iload_n (dcx dL_law_c11 18 rfl) 0 rfl ?_
  refine r_iconst (v := 2) (dcx dL_law_c11 19 rfl) rfl ?_
  refine r_iadd (dcx dL_law_c11 20 rfl) ?_
  refine r_sload hS (dcx dL_law_c11 21 rfl) (hv 2 (by decide)) ?_
  refine r_aload_nS (dcx dL_law_c11 22 rfl) 3 rfl ?_
  refine r_iload_n (dcx dL_law_c11 23 rfl) 0 rfl ?_
  refine r_iconst (v := 3) (dcx dL_law_c11 24 rfl) rfl ?_
  refine r_iadd (dcx dL_law_c11 25 rfl) ?_
  refine r_sload hS (dcx dL_law_c11 26 rfl) (hv 3 (by decide)) ?_
  refine g_callV (ci := 10) (as := [.int (xs (Int32.toNatClampNeg (i + 1))), .int (xs (Int32.toNatClampNeg (i + 2))), .int (xs (Int32.toNatClampNeg (i + 3)))]) (st := [.int y]) zX10_gone ⟨Nat.le_of_ble_eq_true rfl, Nat.le_of_ble_eq_true rfl⟩ kL_law_86 (dcx dL_law_c11 27 rfl) rfl rfl (Nat.le_of_ble_eq_true rfl) (by decide +kernel) rfl rfl (C2.mono h2 (fun v σ2 hv2 => ?_))
  obtain ⟨w, rfl, e, hj⟩ := hv2
  show Gd Γ l mL_law 730 [(3, .int i), (2, .ref 284), (1, .ref 0), (0, .float 5)] [.int w, .int y] (mk σ2) 333 56324 K
  exact lc_eq (dcx dL_law_c11 28 rfl) (by decide) e hj kk
set_option maxRecDepth 20000 in
theorem lc_when (hS : SCR Γ Ls xs) (hv : ∀ j : Nat, j ≤ 5 → vp_in (i + nI j) Ls) (hj0 : JS σ W) (hW : W + 60 ≤ 40000) (kk : LK Γ l i (W + 60) K) : Gd Γ l mL_law 735 [(3, .int i), (2, .ref 284), (1, .ref 0), (0, .float 5)] [] (mk σ) 333 56324 K := by
  obtain ⟨T, f, P, L, H, O, D, hb⟩ := hj0
  refine r_aload_n (dcx dL_law_c11 31 rfl) 2 rfl ?_
  refine r_aload_nS (dcx dL_law_c11 32 rfl) 3 rfl ?_
  refine r_iload_n (dcx dL_law_c11 33 rfl) 0 rfl ?_
  refine r_iconst (v := 1) (dcx dL_law_c11 34 rfl) rfl ?_
  refine r_iadd (dcx dL_law_c11 35 rfl) ?_
  refine r_sload hS (dcx dL_law_c11 36 rfl) (hv 1 (by decide)) ?_
  refine r_aload_nS (dcx dL_law_c11 37 rfl) 3 rfl ?_
  refine r_iload_n (dcx dL_law_c11 38 rfl) 0 rfl ?_
  refine r_iconst (v := 2) (dcx dL_law_c11 39 rfl) rfl ?_
  refine r_iadd (dcx dL_law_c12 0 rfl) ?_
  refine r_sload hS (dcx dL_law_c12 1 rfl) (hv 2 (by decide)) ?_
  refine r_aload_nS (dcx dL_law_c12 2 rfl) 3 rfl ?_
  refine r_iload_n (dcx dL_law_c12 3 rfl) 0 rfl ?_
  refine r_iconst (v := 3) (dcx dL_law_c12 4 rfl) rfl ?_
  refine r_iadd (dcx dL_law_c12 5 rfl) ?_
  refine r_sload hS (dcx dL_law_c12 6 rfl) (hv 3 (by decide)) ?_
  refine r_aload_nS (dcx dL_law_c12 7 rfl) 3 rfl ?_
  refine r_iload_n (dcx dL_law_c12 8 rfl) 0 rfl ?_
  refine r_iconst (v := 4) (dcx dL_law_c12 9 rfl) rfl ?_
  refine r_iadd (dcx dL_law_c12 10 rfl) ?_
  refine r_sload hS (dcx dL_law_c12 11 rfl) (hv 4 (by decide)) ?_
  refine r_aload_nS (dcx dL_law_c12 12 rfl) 3 rfl ?_
  refine r_iload_n (dcx dL_law_c12 13 rfl) 0 rfl ?_
  refine r_iconst (v := 5) (dcx dL_law_c12 14 rfl) rfl ?_
  refine r_iadd (dcx dL_law_c12 15 rfl) ?_
  refine r_sload hS (dcx dL_law_c12 16 rfl) (hv 5 (by decide)) ?_
  refine g_callV (ci := 9) (as := [.int (xs (Int32.toNatClampNeg (i + 1))), .int (xs (Int32.toNatClampNeg (i + 2))), .int (xs (Int32.toNatClampNeg (i + 3))), .int (xs (Int32.toNatClampNeg (i + 4))), .int (xs (Int32.toNatClampNeg (i + 5)))]) (st := []) zX9_when ⟨Nat.le_of_ble_eq_true rfl, Nat.le_of_ble_eq_true rfl⟩ kL_law_87 (dcx dL_law_c12 17 rfl) rfl rfl (Nat.le_of_ble_eq_true rfl) (by decide +kernel) rfl rfl (C2.mono (pr_when hb hW) (fun v σ1 hv1 => ?_))
  obtain ⟨y, rfl, h2⟩ := hv1
  show Gd Γ l mL_law 764 [(3, .int i), (2, .ref 284), (1, .ref 0), (0, .float 5)] [.int y] (mk σ1) 333 56324 K
  refine r_aload_n (dcx dL_law_c12 18 rfl) 1 rfl ?_
  refine r_aload_nS (dcx dL_law_c12 19 rfl) 3 rfl ?_
  refine r_iload_n (dcx dL_law_c12 20 rfl) 0 rfl ?_
  refine r_iconst (v := 1) (dcx dL_law_c12 21 rfl) rfl ?_
  refine r_iadd (dcx dL_law_c12 22 rfl) ?_
  refine r_sload hS (dcx dL_law_c12 23 rfl) (hv 1 (by decide)) ?_
  refine r_aload_nS (dcx dL_law_c12 24 rfl) 3 rfl ?_
  refine r_iload_n (dcx dL_law_c12 25 rfl) 0 rfl ?_
  refine r_iconst (v := 2) (dcx dL_law_c12 26 rfl) rfl ?_
  refine r_iadd (dcx dL_law_c12 27 rfl) ?_
  refine r_sload hS (dcx dL_law_c12 28 rfl) (hv 2 (by decide)) ?_
  refine r_aload_nS (dcx dL_law_c12 29 rfl) 3 rfl ?_
  refine r_iload_n (dcx dL_law_c12 30 rfl) 0 rfl ?_
  refine r_iconst (v := 3) (dcx dL_law_c12 31 rfl) rfl ?_
  refine r_iadd (dcx dL_law_c12 32 rfl) ?_
  refine r_sload hS (dcx dL_law_c12 33 rfl) (hv 3 (by decide)) ?_
  refine r_aload_nS (dcx dL_law_c12 34 rfl) 3 rfl ?_
  refine r_iload_n (dcx dL_law_c12 35 rfl) 0 rfl ?_
  refine r_iconst (v := 4) (dcx dL_law_c12 36 rfl) rfl ?_
  refine r_iadd (dcx dL_law_c12 37 rfl) ?_
  refine r_sload hS (dcx dL_law_c12 38 rfl) (hv 4 (by decide)) ?_
  refine r_aload_nS (dcx dL_law_c12 39 rfl) 3 rfl ?_
  refine r_iload_n (dcx dL_law_c13 0 rfl) 0 rfl ?_
  refine r_iconst (v := 5) (dcx dL_law_c13 1 rfl) rfl ?_
  refine r_iadd (dcx dL_law_c13 2 rfl) ?_
  refine r_sload hS (dcx dL_law_c13 3 rfl) (hv 5 (by decide)) ?_
  refine g_callV (ci := 10) (as := [.int (xs (Int32.toNatClampNeg (i + 1))), .int (xs (Int32.toNatClampNeg (i + 2))), .int (xs (Int32.toNatClampNeg (i + 3))), .int (xs (Int32.toNatClampNeg (i + 4))), .int (xs (Int32.toNatClampNeg (i + 5)))]) (st := [.int y]) zX10_when ⟨Nat.le_of_ble_eq_true rfl, Nat.le_of_ble_eq_true rfl⟩ kL_law_90 (dcx dL_law_c13 4 rfl) rfl rfl (Nat.le_of_ble_eq_true rfl) (by decide +kernel) rfl rfl (C2.mono h2 (fun v σ2 hv2 => ?_))
  obtain ⟨w, rfl, e, hj⟩ := hv2
  show Gd Γ l mL_law 793 [(3, .int i), (2, .ref 284), (1, .ref 0), (0, .float 5)] [.int w, .int y] (mk σ2) 333 56324 K
  exact lc_eq (dcx dL_law_c13 5 rfl) (by decide) e hj kk
set_option maxRecDepth 20000 in
theorem lc_cuts (hS : SCR Γ Ls xs) (hv : ∀ j : Nat, j ≤ 5 → vp_in (i + nI j) Ls) (hj0 : JS σ W) (hW : W + 60 ≤ 40000) (kk : LK Γ l i (W + 60) K) : Gd Γ l mL_law 798 [(3, .int i), (2, .ref 284), (1, .ref 0), (0, .float 5)] [] (mk σ) 333 56324 K := by
  obtain ⟨T, f, P, L, H, O, D, hb⟩ := hj0
  refine r_aload_n (dcx dL_law_c13 8 rfl) 2 rfl ?_
  refine r_aload_nS (dcx dL_law_c13 9 rfl) 3 rfl ?_
  refine r_iload_n (dcx dL_law_c13 10 rfl) 0 rfl ?_
  refine r_iconst (v := 1) (dcx dL_law_c13 11 rfl) rfl ?_
  refine r_iadd (dcx dL_law_c13 12 rfl) ?_
  refine r_sload hS (dcx dL_law_c13 13 rfl) (hv 1 (by decide)) ?_
  refine r_aload_nS (dcx dL_law_c13 14 rfl) 3 rfl ?_
  refine r_iload_n (dcx dL_law_c13 15 rfl) 0 rfl ?_
  refine r_iconst (v := 2) (dcx dL_law_c13 16 rfl) rfl ?_
  refine r_iadd (dcx dL_law_c13 17 rfl) ?_
  refine r_sload hS (dcx dL_law_c13 18 rfl) (hv 2 (by decide)) ?_
  refine r_aload_nS (dcx dL_law_c13 19 rfl) 3 rfl ?_
  refine r_iload_n (dcx dL_law_c13 20 rfl) 0 rfl ?_
  refine r_iconst (v := 3) (dcx dL_law_c13 21 rfl) rfl ?_
  refine r_iadd (dcx dL_law_c13 22 rfl) ?_
  refine r_sload hS (dcx dL_law_c13 23 rfl) (hv 3 (by decide)) ?_
  refine r_aload_nS (dcx dL_law_c13 24 rfl) 3 rfl ?_
  refine r_iload_n (dcx dL_law_c13 25 rfl) 0 rfl ?_
  refine r_iconst (v := 4) (dcx dL_law_c13 26 rfl) rfl ?_
  refine r_iadd (dcx dL_law_c13 27 rfl) ?_
  refine r_sload hS (dcx dL_law_c13 28 rfl) (hv 4 (by decide)) ?_
  refine g_callV (ci := 9) (as := [.int (xs (Int32.toNatClampNeg (i + 1))), .int (xs (Int32.toNatClampNeg (i + 2))), .int (xs (Int32.toNatClampNeg (i + 3))), .int (xs (Int32.toNatClampNeg (i + 4)))]) (st := []) zX9_cuts ⟨Nat.le_of_ble_eq_true rfl, Nat.le_of_ble_eq_true rfl⟩ kL_law_91 (dcx dL_law_c13 29 rfl) rfl rfl (Nat.le_of_ble_eq_true rfl) (by decide +kernel) rfl rfl (C2.mono (pr_cuts hb hW) (fun v σ1 hv1 => ?_))
  obtain ⟨y, rfl, h2⟩ := hv1
  show Gd Γ l mL_law 822 [(3, .int i), (2, .ref 284), (1, .ref 0), (0, .float 5)] [.int y] (mk σ1) 333 56324 K
  refine r_aload_n (dcx dL_law_c13 30 rfl) 1 rfl ?_
  refine r_aload_nS (dcx dL_law_c13 31 rfl) 3 rfl ?_
  refine r_iload_n (dcx dL_law_c13 32 rfl) 0 rfl ?_
  refine r_iconst (v := 1) (dcx dL_law_c13 33 rfl) rfl ?_
  refine r_iadd (dcx dL_law_c13 34 rfl) ?_
  refine r_sload hS (dcx dL_law_c13 35 rfl) (hv 1 (by decide)) ?_
  refine r_aload_nS (dcx dL_law_c13 36 rfl) 3 rfl ?_
  refine r_iload_n (dcx dL_law_c13 37 rfl) 0 rfl ?_
  refine r_iconst (v := 2) (dcx dL_law_c13 38 rfl) rfl ?_
  refine r_iadd (dcx dL_law_c13 39 rfl) ?_
  refine r_sload hS (dcx dL_law_c14 0 rfl) (hv 2 (by decide)) ?_
  refine r_aload_nS (dcx dL_law_c14 1 rfl) 3 rfl ?_
  refine r_iload_n (dcx dL_law_c14 2 rfl) 0 rfl ?_
  refine r_iconst (v := 3) (dcx dL_law_c14 3 rfl) rfl ?_
  refine r_iadd (dcx dL_law_c14 4 rfl) ?_
  refine r_sload hS (dcx dL_law_c14 5 rfl) (hv 3 (by decide)) ?_
  refine r_aload_nS (dcx dL_law_c14 6 rfl) 3 rfl ?_
  refine r_iload_n (dcx dL_law_c14 7 rfl) 0 rfl ?_
  refine r_iconst (v := 4) (dcx dL_law_c14 8 rfl) rfl ?_
  refine r_iadd (dcx dL_law_c14 9 rfl) ?_
  refine r_sload hS (dcx dL_law_c14 10 rfl) (hv 4 (by decide)) ?_
  refine g_callV (ci := 10) (as := [.int (xs (Int32.toNatClampNeg (i + 1))), .int (xs (Int32.toNatClampNeg (i + 2))), .int (xs (Int32.toNatClampNeg (i + 3))), .int (xs (Int32.toNatClampNeg (i + 4)))]) (st := [.int y]) zX10_cuts ⟨Nat.le_of_ble_eq_true rfl, Nat.le_of_ble_eq_true rfl⟩ kL_law_95 (dcx dL_law_c14 11 rfl) rfl rfl (Nat.le_of_ble_eq_true rfl) (by decide +kernel) rfl rfl (C2.mono h2 (fun v σ2 hv2 => ?_))
  obtain ⟨w, rfl, e, hj⟩ := hv2
  show Gd Γ l mL_law 846 [(3, .int i), (2, .ref 284), (1, .ref 0), (0, .float 5)] [.int w, .int y] (mk σ2) 333 56324 K
  exact lc_eq (dcx dL_law_c14 12 rfl) (by decide) e hj kk
set_option maxRecDepth 20000 in
theorem lc_care (hS : SCR Γ Ls xs) (hv : ∀ j : Nat, j ≤ 5 → vp_in (i + nI j) Ls) (hj0 : JS σ W) (hW : W + 60 ≤ 40000) (kk : LK Γ l i (W + 60) K) : Gd Γ l mL_law 851 [(3, .int i), (2, .ref 284), (1, .ref 0), (0, .float 5)] [] (mk σ) 333 56324 K := by
  obtain ⟨T, f, P, L, H, O, D, hb⟩ := hj0
  refine r_aload_n (dcx dL_law_c14 15 rfl) 2 rfl ?_
  refine r_aload_nS (dcx dL_law_c14 16 rfl) 3 rfl ?_
  refine r_iload_n (dcx dL_law_c14 17 rfl) 0 rfl ?_
  refine r_iconst (v := 1) (dcx dL_law_c14 18 rfl) rfl ?_
  refine r_iadd (dcx dL_law_c14 19 rfl) ?_
  refine r_sload hS (dcx dL_law_c14 20 rfl) (hv 1 (by decide)) ?_
  refine r_aload_nS (dcx dL_law_c14 21 rfl) 3 rfl ?_
  refine r_iload_n (dcx dL_law_c14 22 rfl) 0 rfl ?_
  refine r_iconst (v := 2) (dcx dL_law_c14 23 rfl) rfl ?_
  refine r_iadd (dcx dL_law_c14 24 rfl) ?_
  refine r_sload hS (dcx dL_law_c14 25 rfl) (hv 2 (by decide)) ?_
  refine r_aload_nS (dcx dL_law_c14 26 rfl) 3 rfl ?_
  refine r_iload_n (dcx dL_law_c14 27 rfl) 0 rfl ?_
  refine r_iconst (v := 3) (dcx dL_law_c14 28 rfl) rfl ?_
  refine r_iadd (dcx dL_law_c14 29 rfl) ?_
  refine r_sload hS (dcx dL_law_c14 30 rfl) (hv 3 (by decide)) ?_
  refine g_callV (ci := 9) (as := [.int (xs (Int32.toNatClampNeg (i + 1))), .int (xs (Int32.toNatClampNeg (i + 2))), .int (xs (Int32.toNatClampNeg (i + 3)))]) (st := []) zX9_care ⟨Nat.le_of_ble_eq_true rfl, Nat.le_of_ble_eq_true rfl⟩ kL_law_96 (dcx dL_law_c14 31 rfl) rfl rfl (Nat.le_of_ble_eq_true rfl) (by decide +kernel) rfl rfl (C2.mono (pr_care hb hW) (fun v σ1 hv1 => ?_))
  obtain ⟨y, rfl, h2⟩ := hv1
  show Gd Γ l mL_law 870 [(3, .int i), (2, .ref 284), (1, .ref 0), (0, .float 5)] [.int y] (mk σ1) 333 56324 K
  refine r_aload_n (dcx dL_law_c14 32 rfl) 1 rfl ?_
  refine r_aload_nS (dcx dL_law_c14 33 rfl) 3 rfl ?_
  refine r_iload_n (dcx dL_law_c14 34 rfl) 0 rfl ?_
  refine r_iconst (v := 1) (dcx dL_law_c14 35 rfl) rfl ?_
  refine r_iadd (dcx dL_law_c14 36 rfl) ?_
  refine r_sload hS (dcx dL_law_c14 37 rfl) (hv 1 (by decide)) ?_
  refine r_aload_nS (dcx dL_law_c14 38 rfl) 3 rfl ?_
  refine r_iload_n (dcx dL_law_c14 39 rfl) 0 rfl ?_
  refine r_iconst (v := 2) (dcx dL_law_c15 0 rfl) rfl ?_
  refine r_iadd (dcx dL_law_c15 1 rfl) ?_
  refine r_sload hS (dcx dL_law_c15 2 rfl) (hv 2 (by decide)) ?_
  refine r_aload_nS (dcx dL_law_c15 3 rfl) 3 rfl ?_
  refine r_iload_n (dcx dL_law_c15 4 rfl) 0 rfl ?_
  refine r_iconst (v := 3) (dcx dL_law_c15 5 rfl) rfl ?_
  refine r_iadd (dcx dL_law_c15 6 rfl) ?_
  refine r_sload hS (dcx dL_law_c15 7 rfl) (hv 3 (by decide)) ?_
  refine g_callV (ci := 10) (as := [.int (xs (Int32.toNatClampNeg (i + 1))), .int (xs (Int32.toNatClampNeg (i + 2))), .int (xs (Int32.toNatClampNeg (i + 3)))]) (st := [.int y]) zX10_care ⟨Nat.le_of_ble_eq_true rfl, Nat.le_of_ble_eq_true rfl⟩ kL_law_99 (dcx dL_law_c15 8 rfl) rfl rfl (Nat.le_of_ble_eq_true rfl) (by decide +kernel) rfl rfl (C2.mono h2 (fun v σ2 hv2 => ?_))
  obtain ⟨w, rfl, e, hj⟩ := hv2
  show Gd Γ l mL_law 889 [(3, .int i), (2, .ref 284), (1, .ref 0), (0, .float 5)] [.int w, .int y] (mk σ2) 333 56324 K
  exact lc_eq (dcx dL_law_c15 9 rfl) (by decide) e hj kk
set_option maxRecDepth 20000 in
theorem lc_level (hS : SCR Γ Ls xs) (hv : ∀ j : Nat, j ≤ 5 → vp_in (i + nI j) Ls) (hj0 : JS σ W) (hW : W + 60 ≤ 40000) (kk : LK Γ l i (W + 60) K) : Gd Γ l mL_law 894 [(3, .int i), (2, .ref 284), (1, .ref 0), (0, .float 5)] [] (mk σ) 333 56324 K := by
  obtain ⟨T, f, P, L, H, O, D, hb⟩ := hj0
  refine r_aload_n (dcx dL_law_c15 12 rfl) 2 rfl ?_
  refine g_callV (ci := 9) (as := []) (st := []) zX9_level ⟨Nat.le_of_ble_eq_true rfl, Nat.le_of_ble_eq_true rfl⟩ kL_law_100 (dcx dL_law_c15 13 rfl) rfl rfl (Nat.le_of_ble_eq_true rfl) (by decide +kernel) rfl rfl (C2.mono (pr_level hb hW) (fun v σ1 hv1 => ?_))
  obtain ⟨y, rfl, h2⟩ := hv1
  show Gd Γ l mL_law 898 [(3, .int i), (2, .ref 284), (1, .ref 0), (0, .float 5)] [.int y] (mk σ1) 333 56324 K
  refine r_aload_n (dcx dL_law_c15 14 rfl) 1 rfl ?_
  refine g_callV (ci := 10) (as := []) (st := [.int y]) zX10_level ⟨Nat.le_of_ble_eq_true rfl, Nat.le_of_ble_eq_true rfl⟩ kL_law_103 (dcx dL_law_c15 15 rfl) rfl rfl (Nat.le_of_ble_eq_true rfl) (by decide +kernel) rfl rfl (C2.mono h2 (fun v σ2 hv2 => ?_))
  obtain ⟨w, rfl, e, hj⟩ := hv2
  show Gd Γ l mL_law 902 [(3, .int i), (2, .ref 284), (1, .ref 0), (0, .float 5)] [.int w, .int y] (mk σ2) 333 56324 K
  exact lc_eq (dcx dL_law_c15 16 rfl) (by decide) e hj kk
set_option maxRecDepth 20000 in
theorem lc_quiet (hS : SCR Γ Ls xs) (hv : ∀ j : Nat, j ≤ 5 → vp_in (i + nI j) Ls) (hj0 : JS σ W) (hW : W + 60 ≤ 40000) (kk : LK Γ l i (W + 60) K) : Gd Γ l mL_law 907 [(3, .int i), (2, .ref 284), (1, .ref 0), (0, .float 5)] [] (mk σ) 333 56324 K := by
  obtain ⟨T, f, P, L, H, O, D, hb⟩ := hj0
  refine r_aload_n (dcx dL_law_c15 19 rfl) 2 rfl ?_
  refine g_callV (ci := 9) (as := []) (st := []) zX9_quiet ⟨Nat.le_of_ble_eq_true rfl, Nat.le_of_ble_eq_true rfl⟩ kL_law_104 (dcx dL_law_c15 20 rfl) rfl rfl (Nat.le_of_ble_eq_true rfl) (by decide +kernel) rfl rfl (C2.mono (pr_quiet hb hW) (fun v σ1 hv1 => ?_))
  obtain ⟨y, rfl, h2⟩ := hv1
  show Gd Γ l mL_law 911 [(3, .int i), (2, .ref 284), (1, .ref 0), (0, .float 5)] [.int y] (mk σ1) 333 56324 K
  refine r_aload_n (dcx dL_law_c15 21 rfl) 1 rfl ?_
  refine g_callV (ci := 10) (as := []) (st := [.int y]) zX10_quiet ⟨Nat.le_of_ble_eq_true rfl, Nat.le_of_ble_eq_true rfl⟩ kL_law_107 (dcx dL_law_c15 22 rfl) rfl rfl (Nat.le_of_ble_eq_true rfl) (by decide +kernel) rfl rfl (C2.mono h2 (fun v σ2 hv2 => ?_))
  obtain ⟨w, rfl, e, hj⟩ := hv2
  show Gd Γ l mL_law 915 [(3, .int i), (2, .ref 284), (1, .ref 0), (0, .float 5)] [.int w, .int y] (mk σ2) 333 56324 K
  exact lc_eq (dcx dL_law_c15 23 rfl) (by decide) e hj kk
set_option maxRecDepth 20000 in
theorem lc_knows (hS : SCR Γ Ls xs) (hv : ∀ j : Nat, j ≤ 5 → vp_in (i + nI j) Ls) (hj0 : JS σ W) (hW : W + 60 ≤ 40000) (kk : LK Γ l i (W + 60) K) : Gd Γ l mL_law 920 [(3, .int i), (2, .ref 284), (1, .ref 0), (0, .float 5)] [] (mk σ) 333 56324 K := by
  obtain ⟨T, f, P, L, H, O, D, hb⟩ := hj0
  refine r_aload_n (dcx dL_law_c15 26 rfl) 2 rfl ?_
  refine r_aload_nS (dcx dL_law_c15 27 rfl) 3 rfl ?_
  refine r_iload_n (dcx dL_law_c15 28 rfl) 0 rfl ?_
  refine r_iconst (v := 1) (dcx dL_law_c15 29 rfl) rfl ?_
  refine r_iadd (dcx dL_law_c15 30 rfl) ?_
  refine r_sload hS (dcx dL_law_c15 31 rfl) (hv 1 (by decide)) ?_
  refine r_aload_nS (dcx dL_law_c15 32 rfl) 3 rfl ?_
  refine r_iload_n (dcx dL_law_c15 33 rfl) 0 rfl ?_
  refine r_iconst (v := 2) (dcx dL_law_c15 34 rfl) rfl ?_
  refine r_iadd (dcx dL_law_c15 35 rfl) ?_
  refine r_sload hS (dcx dL_law_c15 36 rfl) (hv 2 (by decide)) ?_
  refine g_callV (ci := 9) (as := [.int (xs (Int32.toNatClampNeg (i + 1))), .int (xs (Int32.toNatClampNeg (i + 2)))]) (st := []) zX9_knows ⟨Nat.le_of_ble_eq_true rfl, Nat.le_of_ble_eq_true rfl⟩ kL_law_108 (dcx dL_law_c15 37 rfl) rfl rfl (Nat.le_of_ble_eq_true rfl) (by decide +kernel) rfl rfl (C2.mono (pr_knows hb hW) (fun v σ1 hv1 => ?_))
  obtain ⟨y, rfl, h2⟩ := hv1
  show Gd Γ l mL_law 934 [(3, .int i), (2, .ref 284), (1, .ref 0), (0, .float 5)] [.int y] (mk σ1) 333 56324 K
  refine r_aload_n (dcx dL_law_c15 38 rfl) 1 rfl ?_
  refine r_aload_nS (dcx dL_law_c15 39 rfl) 3 rfl ?_
  refine r_iload_n (dcx dL_law_c16 0 rfl) 0 rfl ?_
  refine r_iconst (v := 1) (dcx dL_law_c16 1 rfl) rfl ?_
  refine r_iadd (dcx dL_law_c16 2 rfl) ?_
  refine r_sload hS (dcx dL_law_c16 3 rfl) (hv 1 (by decide)) ?_
  refine r_aload_nS (dcx dL_law_c16 4 rfl) 3 rfl ?_
  refine r_iload_n (dcx dL_law_c16 5 rfl) 0 rfl ?_
  refine r_iconst (v := 2) (dcx dL_law_c16 6 rfl) rfl ?_
  refine r_iadd (dcx dL_law_c16 7 rfl) ?_
  refine r_sload hS (dcx dL_law_c16 8 rfl) (hv 2 (by decide)) ?_
  refine g_callV (ci := 10) (as := [.int (xs (Int32.toNatClampNeg (i + 1))), .int (xs (Int32.toNatClampNeg (i + 2)))]) (st := [.int y]) zX10_knows ⟨Nat.le_of_ble_eq_true rfl, Nat.le_of_ble_eq_true rfl⟩ kL_law_111 (dcx dL_law_c16 9 rfl) rfl rfl (Nat.le_of_ble_eq_true rfl) (by decide +kernel) rfl rfl (C2.mono h2 (fun v σ2 hv2 => ?_))
  obtain ⟨w, rfl, e, hj⟩ := hv2
  show Gd Γ l mL_law 948 [(3, .int i), (2, .ref 284), (1, .ref 0), (0, .float 5)] [.int w, .int y] (mk σ2) 333 56324 K
  exact lc_eq (dcx dL_law_c16 10 rfl) (by decide) e hj kk
set_option maxRecDepth 20000 in
theorem lc_then (hS : SCR Γ Ls xs) (hv : ∀ j : Nat, j ≤ 5 → vp_in (i + nI j) Ls) (hj0 : JS σ W) (hW : W + 60 ≤ 40000) (kk : LK Γ l i (W + 60) K) : Gd Γ l mL_law 953 [(3, .int i), (2, .ref 284), (1, .ref 0), (0, .float 5)] [] (mk σ) 333 56324 K := by
  obtain ⟨T, f, P, L, H, O, D, hb⟩ := hj0
  refine r_aload_n (dcx dL_law_c16 13 rfl) 2 rfl ?_
  refine r_aload_nS (dcx dL_law_c16 14 rfl) 3 rfl ?_
  refine r_iload_n (dcx dL_law_c16 15 rfl) 0 rfl ?_
  refine r_iconst (v := 1) (dcx dL_law_c16 16 rfl) rfl ?_
  refine r_iadd (dcx dL_law_c16 17 rfl) ?_
  refine r_sload hS (dcx dL_law_c16 18 rfl) (hv 1 (by decide)) ?_
  refine r_aload_nS (dcx dL_law_c16 19 rfl) 3 rfl ?_
  refine r_iload_n (dcx dL_law_c16 20 rfl) 0 rfl ?_
  refine r_iconst (v := 2) (dcx dL_law_c16 21 rfl) rfl ?_
  refine r_iadd (dcx dL_law_c16 22 rfl) ?_
  refine r_sload hS (dcx dL_law_c16 23 rfl) (hv 2 (by decide)) ?_
  refine r_aload_nS (dcx dL_law_c16 24 rfl) 3 rfl ?_
  refine r_iload_n (dcx dL_law_c16 25 rfl) 0 rfl ?_
  refine r_iconst (v := 3) (dcx dL_law_c16 26 rfl) rfl ?_
  refine r_iadd (dcx dL_law_c16 27 rfl) ?_
  refine r_sload hS (dcx dL_law_c16 28 rfl) (hv 3 (by decide)) ?_
  refine g_callV (ci := 9) (as := [.int (xs (Int32.toNatClampNeg (i + 1))), .int (xs (Int32.toNatClampNeg (i + 2))), .int (xs (Int32.toNatClampNeg (i + 3)))]) (st := []) zX9_then ⟨Nat.le_of_ble_eq_true rfl, Nat.le_of_ble_eq_true rfl⟩ kL_law_112 (dcx dL_law_c16 29 rfl) rfl rfl (Nat.le_of_ble_eq_true rfl) (by decide +kernel) rfl rfl (C2.mono (pr_then hb hW) (fun v σ1 hv1 => ?_))
  obtain ⟨y, rfl, h2⟩ := hv1
  show Gd Γ l mL_law 972 [(3, .int i), (2, .ref 284), (1, .ref 0), (0, .float 5)] [.int y] (mk σ1) 333 56324 K
  refine r_aload_n (dcx dL_law_c16 30 rfl) 1 rfl ?_
  refine r_aload_nS (dcx dL_law_c16 31 rfl) 3 rfl ?_
  refine r_iload_n (dcx dL_law_c16 32 rfl) 0 rfl ?_
  refine r_iconst (v := 1) (dcx dL_law_c16 33 rfl) rfl ?_
  refine r_iadd (dcx dL_law_c16 34 rfl) ?_
  refine r_sload hS (dcx dL_law_c16 35 rfl) (hv 1 (by decide)) ?_
  refine r_aload_nS (dcx dL_law_c16 36 rfl) 3 rfl ?_
  refine r_iload_n (dcx dL_law_c16 37 rfl) 0 rfl ?_
  refine r_iconst (v := 2) (dcx dL_law_c16 38 rfl) rfl ?_
  refine r_iadd (dcx dL_law_c16 39 rfl) ?_
  refine r_sload hS (dcx dL_law_c17 0 rfl) (hv 2 (by decide)) ?_
  refine r_aload_nS (dcx dL_law_c17 1 rfl) 3 rfl ?_
  refine r_iload_n (dcx dL_law_c17 2 rfl) 0 rfl ?_
  refine r_iconst (v := 3) (dcx dL_law_c17 3 rfl) rfl ?_
  refine r_iadd (dcx dL_law_c17 4 rfl) ?_
  refine r_sload hS (dcx dL_law_c17 5 rfl) (hv 3 (by decide)) ?_
  refine g_callV (ci := 10) (as := [.int (xs (Int32.toNatClampNeg (i + 1))), .int (xs (Int32.toNatClampNeg (i + 2))), .int (xs (Int32.toNatClampNeg (i + 3)))]) (st := [.int y]) zX10_then ⟨Nat.le_of_ble_eq_true rfl, Nat.le_of_ble_eq_true rfl⟩ kL_law_115 (dcx dL_law_c17 6 rfl) rfl rfl (Nat.le_of_ble_eq_true rfl) (by decide +kernel) rfl rfl (C2.mono h2 (fun v σ2 hv2 => ?_))
  obtain ⟨w, rfl, e, hj⟩ := hv2
  show Gd Γ l mL_law 991 [(3, .int i), (2, .ref 284), (1, .ref 0), (0, .float 5)] [.int w, .int y] (mk σ2) 333 56324 K
  exact lc_eq (dcx dL_law_c17 7 rfl) (by decide) e hj kk
set_option maxRecDepth 20000 in
theorem lc_all (hS : SCR Γ Ls xs) (hv : ∀ j : Nat, j ≤ 5 → vp_in (i + nI j) Ls) (hj0 : JS σ W) (hW : W + 60 ≤ 40000) (kk : LK Γ l i (W + 60) K) : Gd Γ l mL_law 996 [(3, .int i), (2, .ref 284), (1, .ref 0), (0, .float 5)] [] (mk σ) 333 56324 K := by
  obtain ⟨T, f, P, L, H, O, D, hb⟩ := hj0
  refine r_aload_n (dcx dL_law_c17 10 rfl) 2 rfl ?_
  refine r_aload_nS (dcx dL_law_c17 11 rfl) 3 rfl ?_
  refine r_iload_n (dcx dL_law_c17 12 rfl) 0 rfl ?_
  refine r_iconst (v := 1) (dcx dL_law_c17 13 rfl) rfl ?_
  refine r_iadd (dcx dL_law_c17 14 rfl) ?_
  refine r_sload hS (dcx dL_law_c17 15 rfl) (hv 1 (by decide)) ?_
  refine r_aload_nS (dcx dL_law_c17 16 rfl) 3 rfl ?_
  refine r_iload_n (dcx dL_law_c17 17 rfl) 0 rfl ?_
  refine r_iconst (v := 2) (dcx dL_law_c17 18 rfl) rfl ?_
  refine r_iadd (dcx dL_law_c17 19 rfl) ?_
  refine r_sload hS (dcx dL_law_c17 20 rfl) (hv 2 (by decide)) ?_
  refine r_aload_nS (dcx dL_law_c17 21 rfl) 3 rfl ?_
  refine r_iload_n (dcx dL_law_c17 22 rfl) 0 rfl ?_
  refine r_iconst (v := 3) (dcx dL_law_c17 23 rfl) rfl ?_
  refine r_iadd (dcx dL_law_c17 24 rfl) ?_
  refine r_sload hS (dcx dL_law_c17 25 rfl) (hv 3 (by decide)) ?_
  refine g_callV (ci := 9) (as := [.int (xs (Int32.toNatClampNeg (i + 1))), .int (xs (Int32.toNatClampNeg (i + 2))), .int (xs (Int32.toNatClampNeg (i + 3)))]) (st := []) zX9_all ⟨Nat.le_of_ble_eq_true rfl, Nat.le_of_ble_eq_true rfl⟩ kL_law_116 (dcx dL_law_c17 26 rfl) rfl rfl (Nat.le_of_ble_eq_true rfl) (by decide +kernel) rfl rfl (C2.mono (pr_all hb hW) (fun v σ1 hv1 => ?_))
  obtain ⟨y, rfl, h2⟩ := hv1
  show Gd Γ l mL_law 1015 [(3, .int i), (2, .ref 284), (1, .ref 0), (0, .float 5)] [.int y] (mk σ1) 333 56324 K
  refine r_aload_n (dcx dL_law_c17 27 rfl) 1 rfl ?_
  refine r_aload_nS (dcx dL_law_c17 28 rfl) 3 rfl ?_
  refine r_iload_n (dcx dL_law_c17 29 rfl) 0 rfl ?_
  refine r_iconst (v := 1) (dcx dL_law_c17 30 rfl) rfl ?_
  refine r_iadd (dcx dL_law_c17 31 rfl) ?_
  refine r_sload hS (dcx dL_law_c17 32 rfl) (hv 1 (by decide)) ?_
  refine r_aload_nS (dcx dL_law_c17 33 rfl) 3 rfl ?_
  refine r_iload_n (dcx dL_law_c17 34 rfl) 0 rfl ?_
  refine r_iconst (v := 2) (dcx dL_law_c17 35 rfl) rfl ?_
  refine r_iadd (dcx dL_law_c17 36 rfl) ?_
  refine r_sload hS (dcx dL_law_c17 37 rfl) (hv 2 (by decide)) ?_
  refine r_aload_nS (dcx dL_law_c17 38 rfl) 3 rfl ?_
  refine r_iload_n (dcx dL_law_c17 39 rfl) 0 rfl ?_
  refine r_iconst (v := 3) (dcx dL_law_c18 0 rfl) rfl ?_
  refine r_iadd (dcx dL_law_c18 1 rfl) ?_
  refine r_sload hS (dcx dL_law_c18 2 rfl) (hv 3 (by decide)) ?_
  refine g_callV (ci := 10) (as := [.int (xs (Int32.toNatClampNeg (i + 1))), .int (xs (Int32.toNatClampNeg (i + 2))), .int (xs (Int32.toNatClampNeg (i + 3)))]) (st := [.int y]) zX10_all ⟨Nat.le_of_ble_eq_true rfl, Nat.le_of_ble_eq_true rfl⟩ kL_law_119 (dcx dL_law_c18 3 rfl) rfl rfl (Nat.le_of_ble_eq_true rfl) (by decide +kernel) rfl rfl (C2.mono h2 (fun v σ2 hv2 => ?_))
  obtain ⟨w, rfl, e, hj⟩ := hv2
  show Gd Γ l mL_law 1034 [(3, .int i), (2, .ref 284), (1, .ref 0), (0, .float 5)] [.int w, .int y] (mk σ2) 333 56324 K
  exact lc_eq (dcx dL_law_c18 4 rfl) (by decide) e hj kk
set_option maxRecDepth 20000 in
theorem lc_year (hS : SCR Γ Ls xs) (hv : ∀ j : Nat, j ≤ 5 → vp_in (i + nI j) Ls) (hj0 : JS σ W) (hW : W + 60 ≤ 40000) (kk : LK Γ l i (W + 60) K) : Gd Γ l mL_law 1039 [(3, .int i), (2, .ref 284), (1, .ref 0), (0, .float 5)] [] (mk σ) 333 56324 K := by
  obtain ⟨T, f, P, L, H, O, D, hb⟩ := hj0
  refine r_aload_n (dcx dL_law_c18 7 rfl) 2 rfl ?_
  refine r_aload_nS (dcx dL_law_c18 8 rfl) 3 rfl ?_
  refine r_iload_n (dcx dL_law_c18 9 rfl) 0 rfl ?_
  refine r_iconst (v := 1) (dcx dL_law_c18 10 rfl) rfl ?_
  refine r_iadd (dcx dL_law_c18 11 rfl) ?_
  refine r_sload hS (dcx dL_law_c18 12 rfl) (hv 1 (by decide)) ?_
  refine r_aload_nS (dcx dL_law_c18 13 rfl) 3 rfl ?_
  refine r_iload_n (dcx dL_law_c18 14 rfl) 0 rfl ?_
  refine r_iconst (v := 2) (dcx dL_law_c18 15 rfl) rfl ?_
  refine r_iadd (dcx dL_law_c18 16 rfl) ?_
  refine r_sload hS (dcx dL_law_c18 17 rfl) (hv 2 (by decide)) ?_
  refine r_aload_nS (dcx dL_law_c18 18 rfl) 3 rfl ?_
  refine r_iload_n (dcx dL_law_c18 19 rfl) 0 rfl ?_
  refine r_iconst (v := 3) (dcx dL_law_c18 20 rfl) rfl ?_
  refine r_iadd (dcx dL_law_c18 21 rfl) ?_
  refine r_sload hS (dcx dL_law_c18 22 rfl) (hv 3 (by decide)) ?_
  refine r_aload_nS (dcx dL_law_c18 23 rfl) 3 rfl ?_
  refine r_iload_n (dcx dL_law_c18 24 rfl) 0 rfl ?_
  refine r_iconst (v := 4) (dcx dL_law_c18 25 rfl) rfl ?_
  refine r_iadd (dcx dL_law_c18 26 rfl) ?_
  refine r_sload hS (dcx dL_law_c18 27 rfl) (hv 4 (by decide)) ?_
  refine g_callV (ci := 9) (as := [.int (xs (Int32.toNatClampNeg (i + 1))), .int (xs (Int32.toNatClampNeg (i + 2))), .int (xs (Int32.toNatClampNeg (i + 3))), .int (xs (Int32.toNatClampNeg (i + 4)))]) (st := []) zX9_year ⟨Nat.le_of_ble_eq_true rfl, Nat.le_of_ble_eq_true rfl⟩ kL_law_120 (dcx dL_law_c18 28 rfl) rfl rfl (Nat.le_of_ble_eq_true rfl) (by decide +kernel) rfl rfl (C2.mono (pr_year hb hW) (fun v σ1 hv1 => ?_))
  obtain ⟨y, rfl, h2⟩ := hv1
  show Gd Γ l mL_law 1063 [(3, .int i), (2, .ref 284), (1, .ref 0), (0, .float 5)] [.int y] (mk σ1) 333 56324 K
  refine r_aload_n (dcx dL_law_c18 29 rfl) 1 rfl ?_
  refine r_aload_nS (dcx dL_law_c18 30 rfl) 3 rfl ?_
  refine r_iload_n (dcx dL_law_c18 31 rfl) 0 rfl ?_
  refine r_iconst (v := 1) (dcx dL_law_c18 32 rfl) rfl ?_
  refine r_iadd (dcx dL_law_c18 33 rfl) ?_
  refine r_sload hS (dcx dL_law_c18 34 rfl) (hv 1 (by decide)) ?_
  refine r_aload_nS (dcx dL_law_c18 35 rfl) 3 rfl ?_
  refine r_iload_n (dcx dL_law_c18 36 rfl) 0 rfl ?_
  refine r_iconst (v := 2) (dcx dL_law_c18 37 rfl) rfl ?_
  refine r_iadd (dcx dL_law_c18 38 rfl) ?_
  refine r_sload hS (dcx dL_law_c18 39 rfl) (hv 2 (by decide)) ?_
  refine r_aload_nS (dcx dL_law_c19 0 rfl) 3 rfl ?_
  refine r_iload_n (dcx dL_law_c19 1 rfl) 0 rfl ?_
  refine r_iconst (v := 3) (dcx dL_law_c19 2 rfl) rfl ?_
  refine r_iadd (dcx dL_law_c19 3 rfl) ?_
  refine r_sload hS (dcx dL_law_c19 4 rfl) (hv 3 (by decide)) ?_
  refine r_aload_nS (dcx dL_law_c19 5 rfl) 3 rfl ?_
  refine r_iload_n (dcx dL_law_c19 6 rfl) 0 rfl ?_
  refine r_iconst (v := 4) (dcx dL_law_c19 7 rfl) rfl ?_
  refine r_iadd (dcx dL_law_c19 8 rfl) ?_
  refine r_sload hS (dcx dL_law_c19 9 rfl) (hv 4 (by decide)) ?_
  refine g_callV (ci := 10) (as := [.int (xs (Int32.toNatClampNeg (i + 1))), .int (xs (Int32.toNatClampNeg (i + 2))), .int (xs (Int32.toNatClampNeg (i + 3))), .int (xs (Int32.toNatClampNeg (i + 4)))]) (st := [.int y]) zX10_year ⟨Nat.le_of_ble_eq_true rfl, Nat.le_of_ble_eq_true rfl⟩ kL_law_123 (dcx dL_law_c19 10 rfl) rfl rfl (Nat.le_of_ble_eq_true rfl) (by decide +kernel) rfl rfl (C2.mono h2 (fun v σ2 hv2 => ?_))
  obtain ⟨w, rfl, e, hj⟩ := hv2
  show Gd Γ l mL_law 1087 [(3, .int i), (2, .ref 284), (1, .ref 0), (0, .float 5)] [.int w, .int y] (mk σ2) 333 56324 K
  exact lc_eq (dcx dL_law_c19 11 rfl) (by decide) e hj kk
set_option maxRecDepth 20000 in
theorem lc_tell (hS : SCR Γ Ls xs) (hv : ∀ j : Nat, j ≤ 5 → vp_in (i + nI j) Ls) (hj0 : JS σ W) (hW : W + 60 ≤ 40000) (kk : LK Γ l i (W + 60) K) : Gd Γ l mL_law 1092 [(3, .int i), (2, .ref 284), (1, .ref 0), (0, .float 5)] [] (mk σ) 333 56324 K := by
  obtain ⟨T, f, P, L, H, O, D, hb⟩ := hj0
  refine r_aload_n (dcx dL_law_c19 14 rfl) 2 rfl ?_
  refine r_aload_nS (dcx dL_law_c19 15 rfl) 3 rfl ?_
  refine r_iload_n (dcx dL_law_c19 16 rfl) 0 rfl ?_
  refine r_iconst (v := 1) (dcx dL_law_c19 17 rfl) rfl ?_
  refine r_iadd (dcx dL_law_c19 18 rfl) ?_
  refine r_sload hS (dcx dL_law_c19 19 rfl) (hv 1 (by decide)) ?_
  refine r_aload_nS (dcx dL_law_c19 20 rfl) 3 rfl ?_
  refine r_iload_n (dcx dL_law_c19 21 rfl) 0 rfl ?_
  refine r_iconst (v := 2) (dcx dL_law_c19 22 rfl) rfl ?_
  refine r_iadd (dcx dL_law_c19 23 rfl) ?_
  refine r_sload hS (dcx dL_law_c19 24 rfl) (hv 2 (by decide)) ?_
  refine r_aload_nS (dcx dL_law_c19 25 rfl) 3 rfl ?_
  refine r_iload_n (dcx dL_law_c19 26 rfl) 0 rfl ?_
  refine r_iconst (v := 3) (dcx dL_law_c19 27 rfl) rfl ?_
  refine r_iadd (dcx dL_law_c19 28 rfl) ?_
  refine r_sload hS (dcx dL_law_c19 29 rfl) (hv 3 (by decide)) ?_
  refine g_callV (ci := 9) (as := [.int (xs (Int32.toNatClampNeg (i + 1))), .int (xs (Int32.toNatClampNeg (i + 2))), .int (xs (Int32.toNatClampNeg (i + 3)))]) (st := []) zX9_tell ⟨Nat.le_of_ble_eq_true rfl, Nat.le_of_ble_eq_true rfl⟩ kL_law_124 (dcx dL_law_c19 30 rfl) rfl rfl (Nat.le_of_ble_eq_true rfl) (by decide +kernel) rfl rfl (C2.mono (pr_tell hb hW) (fun v σ1 hv1 => ?_))
  obtain ⟨y, rfl, h2⟩ := hv1
  show Gd Γ l mL_law 1111 [(3, .int i), (2, .ref 284), (1, .ref 0), (0, .float 5)] [.int y] (mk σ1) 333 56324 K
  refine r_aload_n (dcx dL_law_c19 31 rfl) 1 rfl ?_
  refine r_aload_nS (dcx dL_law_c19 32 rfl) 3 rfl ?_
  refine r_iload_n (dcx dL_law_c19 33 rfl) 0 rfl ?_
  refine r_iconst (v := 1) (dcx dL_law_c19 34 rfl) rfl ?_
  refine r_iadd (dcx dL_law_c19 35 rfl) ?_
  refine r_sload hS (dcx dL_law_c19 36 rfl) (hv 1 (by decide)) ?_
  refine r_aload_nS (dcx dL_law_c19 37 rfl) 3 rfl ?_
  refine r_iload_n (dcx dL_law_c19 38 rfl) 0 rfl ?_
  refine r_iconst (v := 2) (dcx dL_law_c19 39 rfl) rfl ?_
  refine r_iadd (dcx dL_law_c20 0 rfl) ?_
  refine r_sload hS (dcx dL_law_c20 1 rfl) (hv 2 (by decide)) ?_
  refine r_aload_nS (dcx dL_law_c20 2 rfl) 3 rfl ?_
  refine r_iload_n (dcx dL_law_c20 3 rfl) 0 rfl ?_
  refine r_iconst (v := 3) (dcx dL_law_c20 4 rfl) rfl ?_
  refine r_iadd (dcx dL_law_c20 5 rfl) ?_
  refine r_sload hS (dcx dL_law_c20 6 rfl) (hv 3 (by decide)) ?_
  refine g_callV (ci := 10) (as := [.int (xs (Int32.toNatClampNeg (i + 1))), .int (xs (Int32.toNatClampNeg (i + 2))), .int (xs (Int32.toNatClampNeg (i + 3)))]) (st := [.int y]) zX10_tell ⟨Nat.le_of_ble_eq_true rfl, Nat.le_of_ble_eq_true rfl⟩ kL_law_127 (dcx dL_law_c20 7 rfl) rfl rfl (Nat.le_of_ble_eq_true rfl) (by decide +kernel) rfl rfl (C2.mono h2 (fun v σ2 hv2 => ?_))
  obtain ⟨w, rfl, e, hj⟩ := hv2
  show Gd Γ l mL_law 1130 [(3, .int i), (2, .ref 284), (1, .ref 0), (0, .float 5)] [.int w, .int y] (mk σ2) 333 56324 K
  exact lc_eq (dcx dL_law_c20 8 rfl) (by decide) e hj kk
set_option maxRecDepth 20000 in
theorem lc_forget (hS : SCR Γ Ls xs) (hv : ∀ j : Nat, j ≤ 5 → vp_in (i + nI j) Ls) (hj0 : JS σ W) (hW : W + 60 ≤ 40000) (kk : LK Γ l i (W + 60) K) : Gd Γ l mL_law 1135 [(3, .int i), (2, .ref 284), (1, .ref 0), (0, .float 5)] [] (mk σ) 333 56324 K := by
  obtain ⟨T, f, P, L, H, O, D, hb⟩ := hj0
  refine r_aload_n (dcx dL_law_c20 11 rfl) 2 rfl ?_
  refine g_callV (ci := 9) (as := []) (st := []) zX9_forget ⟨Nat.le_of_ble_eq_true rfl, Nat.le_of_ble_eq_true rfl⟩ kL_law_128 (dcx dL_law_c20 12 rfl) rfl rfl (Nat.le_of_ble_eq_true rfl) (by decide +kernel) rfl rfl (C2.mono (pr_forget hb hW) (fun v σ1 hv1 => ?_))
  obtain ⟨y, rfl, h2⟩ := hv1
  show Gd Γ l mL_law 1139 [(3, .int i), (2, .ref 284), (1, .ref 0), (0, .float 5)] [.int y] (mk σ1) 333 56324 K
  refine r_aload_n (dcx dL_law_c20 13 rfl) 1 rfl ?_
  refine g_callV (ci := 10) (as := []) (st := [.int y]) zX10_forget ⟨Nat.le_of_ble_eq_true rfl, Nat.le_of_ble_eq_true rfl⟩ kL_law_131 (dcx dL_law_c20 14 rfl) rfl rfl (Nat.le_of_ble_eq_true rfl) (by decide +kernel) rfl rfl (C2.mono h2 (fun v σ2 hv2 => ?_))
  obtain ⟨w, rfl, e, hj⟩ := hv2
  show Gd Γ l mL_law 1143 [(3, .int i), (2, .ref 284), (1, .ref 0), (0, .float 5)] [.int w, .int y] (mk σ2) 333 56324 K
  exact lc_eq (dcx dL_law_c20 15 rfl) (by decide) e hj kk
set_option maxRecDepth 20000 in
theorem lc_blades (hS : SCR Γ Ls xs) (hv : ∀ j : Nat, j ≤ 5 → vp_in (i + nI j) Ls) (hj0 : JS σ W) (hW : W + 60 ≤ 40000) (kk : LK Γ l i (W + 60) K) : Gd Γ l mL_law 1148 [(3, .int i), (2, .ref 284), (1, .ref 0), (0, .float 5)] [] (mk σ) 333 56324 K := by
  obtain ⟨T, f, P, L, H, O, D, hb⟩ := hj0
  refine r_aload_n (dcx dL_law_c20 18 rfl) 2 rfl ?_
  refine r_aload_nS (dcx dL_law_c20 19 rfl) 3 rfl ?_
  refine r_iload_n (dcx dL_law_c20 20 rfl) 0 rfl ?_
  refine r_iconst (v := 1) (dcx dL_law_c20 21 rfl) rfl ?_
  refine r_iadd (dcx dL_law_c20 22 rfl) ?_
  refine r_sload hS (dcx dL_law_c20 23 rfl) (hv 1 (by decide)) ?_
  refine g_callV (ci := 9) (as := [.int (xs (Int32.toNatClampNeg (i + 1)))]) (st := []) zX9_blades ⟨Nat.le_of_ble_eq_true rfl, Nat.le_of_ble_eq_true rfl⟩ kL_law_132 (dcx dL_law_c20 24 rfl) rfl rfl (Nat.le_of_ble_eq_true rfl) (by decide +kernel) rfl rfl (C2.mono (pr_blades hb hW) (fun v σ1 hv1 => ?_))
  obtain ⟨y, rfl, h2⟩ := hv1
  show Gd Γ l mL_law 1157 [(3, .int i), (2, .ref 284), (1, .ref 0), (0, .float 5)] [.int y] (mk σ1) 333 56324 K
  refine r_aload_n (dcx dL_law_c20 25 rfl) 1 rfl ?_
  refine r_aload_nS (dcx dL_law_c20 26 rfl) 3 rfl ?_
  refine r_iload_n (dcx dL_law_c20 27 rfl) 0 rfl ?_
  refine r_iconst (v := 1) (dcx dL_law_c20 28 rfl) rfl ?_
  refine r_iadd (dcx dL_law_c20 29 rfl) ?_
  refine r_sload hS (dcx dL_law_c20 30 rfl) (hv 1 (by decide)) ?_
  refine g_callV (ci := 10) (as := [.int (xs (Int32.toNatClampNeg (i + 1)))]) (st := [.int y]) zX10_blades ⟨Nat.le_of_ble_eq_true rfl, Nat.le_of_ble_eq_true rfl⟩ kL_law_135 (dcx dL_law_c20 31 rfl) rfl rfl (Nat.le_of_ble_eq_true rfl) (by decide +kernel) rfl rfl (C2.mono h2 (fun v σ2 hv2 => ?_))
  obtain ⟨w, rfl, e, hj⟩ := hv2
  show Gd Γ l mL_law 1166 [(3, .int i), (2, .ref 284), (1, .ref 0), (0, .float 5)] [.int w, .int y] (mk σ2) 333 56324 K
  exact lc_eq (dcx dL_law_c20 32 rfl) (by decide) e hj kk
set_option maxRecDepth 20000 in
theorem lc_sure (hS : SCR Γ Ls xs) (hv : ∀ j : Nat, j ≤ 5 → vp_in (i + nI j) Ls) (hj0 : JS σ W) (hW : W + 60 ≤ 40000) (kk : LK Γ l i (W + 60) K) : Gd Γ l mL_law 1171 [(3, .int i), (2, .ref 284), (1, .ref 0), (0, .float 5)] [] (mk σ) 333 56324 K := by
  obtain ⟨T, f, P, L, H, O, D, hb⟩ := hj0
  refine r_aload_n (dcx dL_law_c20 35 rfl) 2 rfl ?_
  refine r_aload_nS (dcx dL_law_c20 36 rfl) 3 rfl ?_
  refine r_iload_n (dcx dL_law_c20 37 rfl) 0 rfl ?_
  refine r_iconst (v := 1) (dcx dL_law_c20 38 rfl) rfl ?_
  refine r_iadd (dcx dL_law_c20 39 rfl) ?_
  refine r_sload hS (dcx dL_law_c21 0 rfl) (hv 1 (by decide)) ?_
  refine r_aload_nS (dcx dL_law_c21 1 rfl) 3 rfl ?_
  refine r_iload_n (dcx dL_law_c21 2 rfl) 0 rfl ?_
  refine r_iconst (v := 2) (dcx dL_law_c21 3 rfl) rfl ?_
  refine r_iadd (dcx dL_law_c21 4 rfl) ?_
  refine r_sload hS (dcx dL_law_c21 5 rfl) (hv 2 (by decide)) ?_
  refine g_callV (ci := 9) (as := [.int (xs (Int32.toNatClampNeg (i + 1))), .int (xs (Int32.toNatClampNeg (i + 2)))]) (st := []) zX9_sure ⟨Nat.le_of_ble_eq_true rfl, Nat.le_of_ble_eq_true rfl⟩ kL_law_136 (dcx dL_law_c21 6 rfl) rfl rfl (Nat.le_of_ble_eq_true rfl) (by decide +kernel) rfl rfl (C2.mono (pr_sure hb hW) (fun v σ1 hv1 => ?_))
  obtain ⟨y, rfl, h2⟩ := hv1
  show Gd Γ l mL_law 1185 [(3, .int i), (2, .ref 284), (1, .ref 0), (0, .float 5)] [.int y] (mk σ1) 333 56324 K
  refine r_aload_n (dcx dL_law_c21 7 rfl) 1 rfl ?_
  refine r_aload_nS (dcx dL_law_c21 8 rfl) 3 rfl ?_
  refine r_iload_n (dcx dL_law_c21 9 rfl) 0 rfl ?_
  refine r_iconst (v := 1) (dcx dL_law_c21 10 rfl) rfl ?_
  refine r_iadd (dcx dL_law_c21 11 rfl) ?_
  refine r_sload hS (dcx dL_law_c21 12 rfl) (hv 1 (by decide)) ?_
  refine r_aload_nS (dcx dL_law_c21 13 rfl) 3 rfl ?_
  refine r_iload_n (dcx dL_law_c21 14 rfl) 0 rfl ?_
  refine r_iconst (v := 2) (dcx dL_law_c21 15 rfl) rfl ?_
  refine r_iadd (dcx dL_law_c21 16 rfl) ?_
  refine r_sload hS (dcx dL_law_c21 17 rfl) (hv 2 (by decide)) ?_
  refine g_callV (ci := 10) (as := [.int (xs (Int32.toNatClampNeg (i + 1))), .int (xs (Int32.toNatClampNeg (i + 2)))]) (st := [.int y]) zX10_sure ⟨Nat.le_of_ble_eq_true rfl, Nat.le_of_ble_eq_true rfl⟩ kL_law_139 (dcx dL_law_c21 18 rfl) rfl rfl (Nat.le_of_ble_eq_true rfl) (by decide +kernel) rfl rfl (C2.mono h2 (fun v σ2 hv2 => ?_))
  obtain ⟨w, rfl, e, hj⟩ := hv2
  show Gd Γ l mL_law 1199 [(3, .int i), (2, .ref 284), (1, .ref 0), (0, .float 5)] [.int w, .int y] (mk σ2) 333 56324 K
  exact lc_eq (dcx dL_law_c21 19 rfl) (by decide) e hj kk
set_option maxRecDepth 20000 in
theorem lc_ask (hS : SCR Γ Ls xs) (hv : ∀ j : Nat, j ≤ 5 → vp_in (i + nI j) Ls) (hj0 : JS σ W) (hW : W + 60 ≤ 40000) (kk : LK Γ l i (W + 60) K) : Gd Γ l mL_law 1204 [(3, .int i), (2, .ref 284), (1, .ref 0), (0, .float 5)] [] (mk σ) 333 56324 K := by
  obtain ⟨T, f, P, L, H, O, D, hb⟩ := hj0
  refine r_aload_n (dcx dL_law_c21 22 rfl) 2 rfl ?_
  refine r_aload_nS (dcx dL_law_c21 23 rfl) 3 rfl ?_
  refine r_iload_n (dcx dL_law_c21 24 rfl) 0 rfl ?_
  refine r_iconst (v := 1) (dcx dL_law_c21 25 rfl) rfl ?_
  refine r_iadd (dcx dL_law_c21 26 rfl) ?_
  refine r_sload hS (dcx dL_law_c21 27 rfl) (hv 1 (by decide)) ?_
  refine g_callV (ci := 9) (as := [.int (xs (Int32.toNatClampNeg (i + 1)))]) (st := []) zX9_ask ⟨Nat.le_of_ble_eq_true rfl, Nat.le_of_ble_eq_true rfl⟩ kL_law_140 (dcx dL_law_c21 28 rfl) rfl rfl (Nat.le_of_ble_eq_true rfl) (by decide +kernel) rfl rfl (C2.mono (pr_ask hb hW) (fun v σ1 hv1 => ?_))
  obtain ⟨y, rfl, h2⟩ := hv1
  show Gd Γ l mL_law 1213 [(3, .int i), (2, .ref 284), (1, .ref 0), (0, .float 5)] [.int y] (mk σ1) 333 56324 K
  refine r_aload_n (dcx dL_law_c21 29 rfl) 1 rfl ?_
  refine r_aload_nS (dcx dL_law_c21 30 rfl) 3 rfl ?_
  refine r_iload_n (dcx dL_law_c21 31 rfl) 0 rfl ?_
  refine r_iconst (v := 1) (dcx dL_law_c21 32 rfl) rfl ?_
  refine r_iadd (dcx dL_law_c21 33 rfl) ?_
  refine r_sload hS (dcx dL_law_c21 34 rfl) (hv 1 (by decide)) ?_
  refine g_callV (ci := 10) (as := [.int (xs (Int32.toNatClampNeg (i + 1)))]) (st := [.int y]) zX10_ask ⟨Nat.le_of_ble_eq_true rfl, Nat.le_of_ble_eq_true rfl⟩ kL_law_143 (dcx dL_law_c21 35 rfl) rfl rfl (Nat.le_of_ble_eq_true rfl) (by decide +kernel) rfl rfl (C2.mono h2 (fun v σ2 hv2 => ?_))
  obtain ⟨w, rfl, e, hj⟩ := hv2
  show Gd Γ l mL_law 1222 [(3, .int i), (2, .ref 284), (1, .ref 0), (0, .float 5)] [.int w, .int y] (mk σ2) 333 56324 K
  exact lc_eq (dcx dL_law_c21 36 rfl) (by decide) e hj kk
set_option maxRecDepth 20000 in
theorem lc_hold (hS : SCR Γ Ls xs) (hv : ∀ j : Nat, j ≤ 5 → vp_in (i + nI j) Ls) (hj0 : JS σ W) (hW : W + 60 ≤ 40000) (kk : LK Γ l i (W + 60) K) : Gd Γ l mL_law 1227 [(3, .int i), (2, .ref 284), (1, .ref 0), (0, .float 5)] [] (mk σ) 333 56324 K := by
  obtain ⟨T, f, P, L, H, O, D, hb⟩ := hj0
  refine r_aload_n (dcx dL_law_c21 39 rfl) 2 rfl ?_
  refine r_aload_nS (dcx dL_law_c22 0 rfl) 3 rfl ?_
  refine r_iload_n (dcx dL_law_c22 1 rfl) 0 rfl ?_
  refine r_iconst (v := 1) (dcx dL_law_c22 2 rfl) rfl ?_
  refine r_iadd (dcx dL_law_c22 3 rfl) ?_
  refine r_sload hS (dcx dL_law_c22 4 rfl) (hv 1 (by decide)) ?_
  refine g_callV (ci := 9) (as := [.int (xs (Int32.toNatClampNeg (i + 1)))]) (st := []) zX9_hold ⟨Nat.le_of_ble_eq_true rfl, Nat.le_of_ble_eq_true rfl⟩ kL_law_144 (dcx dL_law_c22 5 rfl) rfl rfl (Nat.le_of_ble_eq_true rfl) (by decide +kernel) rfl rfl (C2.mono (pr_hold hb hW) (fun v σ1 hv1 => ?_))
  obtain ⟨y, rfl, h2⟩ := hv1
  show Gd Γ l mL_law 1236 [(3, .int i), (2, .ref 284), (1, .ref 0), (0, .float 5)] [.int y] (mk σ1) 333 56324 K
  refine r_aload_n (dcx dL_law_c22 6 rfl) 1 rfl ?_
  refine r_aload_nS (dcx dL_law_c22 7 rfl) 3 rfl ?_
  refine r_iload_n (dcx dL_law_c22 8 rfl) 0 rfl ?_
  refine r_iconst (v := 1) (dcx dL_law_c22 9 rfl) rfl ?_
  refine r_iadd (dcx dL_law_c22 10 rfl) ?_
  refine r_sload hS (dcx dL_law_c22 11 rfl) (hv 1 (by decide)) ?_
  refine g_callV (ci := 10) (as := [.int (xs (Int32.toNatClampNeg (i + 1)))]) (st := [.int y]) zX10_hold ⟨Nat.le_of_ble_eq_true rfl, Nat.le_of_ble_eq_true rfl⟩ kL_law_148 (dcx dL_law_c22 12 rfl) rfl rfl (Nat.le_of_ble_eq_true rfl) (by decide +kernel) rfl rfl (C2.mono h2 (fun v σ2 hv2 => ?_))
  obtain ⟨w, rfl, e, hj⟩ := hv2
  show Gd Γ l mL_law 1245 [(3, .int i), (2, .ref 284), (1, .ref 0), (0, .float 5)] [.int w, .int y] (mk σ2) 333 56324 K
  exact lc_eq (dcx dL_law_c22 13 rfl) (by decide) e hj kk
set_option maxRecDepth 20000 in
theorem lc_restore (hS : SCR Γ Ls xs) (hv : ∀ j : Nat, j ≤ 5 → vp_in (i + nI j) Ls) (hj0 : JS σ W) (hW : W + 60 ≤ 40000) (kk : LK Γ l i (W + 60) K) : Gd Γ l mL_law 1250 [(3, .int i), (2, .ref 284), (1, .ref 0), (0, .float 5)] [] (mk σ) 333 56324 K := by
  obtain ⟨T, f, P, L, H, O, D, hb⟩ := hj0
  refine r_aload_n (dcx dL_law_c22 16 rfl) 2 rfl ?_
  refine r_aload_nS (dcx dL_law_c22 17 rfl) 3 rfl ?_
  refine r_iload_n (dcx dL_law_c22 18 rfl) 0 rfl ?_
  refine r_iconst (v := 1) (dcx dL_law_c22 19 rfl) rfl ?_
  refine r_iadd (dcx dL_law_c22 20 rfl) ?_
  refine r_sload hS (dcx dL_law_c22 21 rfl) (hv 1 (by decide)) ?_
  refine g_callV (ci := 9) (as := [.int (xs (Int32.toNatClampNeg (i + 1)))]) (st := []) zX9_restore ⟨Nat.le_of_ble_eq_true rfl, Nat.le_of_ble_eq_true rfl⟩ kL_law_149 (dcx dL_law_c22 22 rfl) rfl rfl (Nat.le_of_ble_eq_true rfl) (by decide +kernel) rfl rfl (C2.mono (pr_restore hb hW) (fun v σ1 hv1 => ?_))
  obtain ⟨y, rfl, h2⟩ := hv1
  show Gd Γ l mL_law 1259 [(3, .int i), (2, .ref 284), (1, .ref 0), (0, .float 5)] [.int y] (mk σ1) 333 56324 K
  refine r_aload_n (dcx dL_law_c22 23 rfl) 1 rfl ?_
  refine r_aload_nS (dcx dL_law_c22 24 rfl) 3 rfl ?_
  refine r_iload_n (dcx dL_law_c22 25 rfl) 0 rfl ?_
  refine r_iconst (v := 1) (dcx dL_law_c22 26 rfl) rfl ?_
  refine r_iadd (dcx dL_law_c22 27 rfl) ?_
  refine r_sload hS (dcx dL_law_c22 28 rfl) (hv 1 (by decide)) ?_
  refine g_callV (ci := 10) (as := [.int (xs (Int32.toNatClampNeg (i + 1)))]) (st := [.int y]) zX10_restore ⟨Nat.le_of_ble_eq_true rfl, Nat.le_of_ble_eq_true rfl⟩ kL_law_152 (dcx dL_law_c22 29 rfl) rfl rfl (Nat.le_of_ble_eq_true rfl) (by decide +kernel) rfl rfl (C2.mono h2 (fun v σ2 hv2 => ?_))
  obtain ⟨w, rfl, e, hj⟩ := hv2
  show Gd Γ l mL_law 1268 [(3, .int i), (2, .ref 284), (1, .ref 0), (0, .float 5)] [.int w, .int y] (mk σ2) 333 56324 K
  exact lc_eq (dcx dL_law_c22 30 rfl) (by decide) e hj kk
set_option maxRecDepth 20000 in
theorem lc_count (hS : SCR Γ Ls xs) (hv : ∀ j : Nat, j ≤ 5 → vp_in (i + nI j) Ls) (hj0 : JS σ W) (hW : W + 60 ≤ 40000) (kk : LK Γ l i (W + 60) K) : Gd Γ l mL_law 1273 [(3, .int i), (2, .ref 284), (1, .ref 0), (0, .float 5)] [] (mk σ) 333 56324 K := by
  obtain ⟨T, f, P, L, H, O, D, hb⟩ := hj0
  refine r_aload_n (dcx dL_law_c22 33 rfl) 2 rfl ?_
  refine r_aload_nS (dcx dL_law_c22 34 rfl) 3 rfl ?_
  refine r_iload_n (dcx dL_law_c22 35 rfl) 0 rfl ?_
  refine r_iconst (v := 1) (dcx dL_law_c22 36 rfl) rfl ?_
  refine r_iadd (dcx dL_law_c22 37 rfl) ?_
  refine r_sload hS (dcx dL_law_c22 38 rfl) (hv 1 (by decide)) ?_
  refine g_callV (ci := 9) (as := [.int (xs (Int32.toNatClampNeg (i + 1)))]) (st := []) zX9_count ⟨Nat.le_of_ble_eq_true rfl, Nat.le_of_ble_eq_true rfl⟩ kL_law_153 (dcx dL_law_c22 39 rfl) rfl rfl (Nat.le_of_ble_eq_true rfl) (by decide +kernel) rfl rfl (C2.mono (pr_count hb hW) (fun v σ1 hv1 => ?_))
  obtain ⟨y, rfl, h2⟩ := hv1
  show Gd Γ l mL_law 1282 [(3, .int i), (2, .ref 284), (1, .ref 0), (0, .float 5)] [.int y] (mk σ1) 333 56324 K
  refine r_aload_n (dcx dL_law_c23 0 rfl) 1 rfl ?_
  refine r_aload_nS (dcx dL_law_c23 1 rfl) 3 rfl ?_
  refine r_iload_n (dcx dL_law_c23 2 rfl) 0 rfl ?_
  refine r_iconst (v := 1) (dcx dL_law_c23 3 rfl) rfl ?_
  refine r_iadd (dcx dL_law_c23 4 rfl) ?_
  refine r_sload hS (dcx dL_law_c23 5 rfl) (hv 1 (by decide)) ?_
  refine g_callV (ci := 10) (as := [.int (xs (Int32.toNatClampNeg (i + 1)))]) (st := [.int y]) zX10_count ⟨Nat.le_of_ble_eq_true rfl, Nat.le_of_ble_eq_true rfl⟩ kL_law_156 (dcx dL_law_c23 6 rfl) rfl rfl (Nat.le_of_ble_eq_true rfl) (by decide +kernel) rfl rfl (C2.mono h2 (fun v σ2 hv2 => ?_))
  obtain ⟨w, rfl, e, hj⟩ := hv2
  show Gd Γ l mL_law 1291 [(3, .int i), (2, .ref 284), (1, .ref 0), (0, .float 5)] [.int w, .int y] (mk σ2) 333 56324 K
  exact lc_eq (dcx dL_law_c23 7 rfl) (by decide) e hj kk
theorem and63 (x : Int32) : ∃ n, n < 64 ∧ x &&& 63 = nI n := by
  refine ⟨(x &&& 63).toBitVec.toNat, ?_, ?_⟩
  · rw [Int32.toBitVec_and, BitVec.toNat_and]
    exact Nat.lt_of_le_of_lt Nat.and_le_right (by decide)
  · apply Int32.toBitVec_inj.mp
    show _ = BitVec.ofNat 32 _
    rw [BitVec.ofNat_toNat, BitVec.setWidth_eq]
theorem Lsub {Ls k : Nat} (h : Ls ≤ 3072) (hk : k ≤ 3072) : Int32.ofNat Ls - 6 < nI k ↔ Ls < k + 6 := by
  show nI Ls - nI 6 < nI k ↔ _
  by_cases h6 : 6 ≤ Ls
  · rw [pk_sub h6, nI_ltI (by omega) (by omega)]
    omega
  · have e : Ls = 0 ∨ Ls = 1 ∨ Ls = 2 ∨ Ls = 3 ∨ Ls = 4 ∨ Ls = 5 := by omega
    refine ⟨fun _ => by omega, fun _ => ?_⟩
    have h0 : nI Ls - nI 6 < 0 := by rcases e with e | e | e | e | e | e <;> subst e <;> decide
    exact Int32.lt_of_lt_of_le h0 (nI_pos' (by omega))
set_option maxRecDepth 20000 in
theorem lc_sw {n : Nat} (hn : n < 64) (hS : SCR Γ Ls xs) (hv : ∀ j : Nat, j ≤ 5 → vp_in (i + nI j) Ls) (hj0 : JS σ W) (hW : W + 60 ≤ 40000) (hJ : JS σ (W + 60)) (kk : LK Γ l i (W + 60) K) : Gd Γ l mL_law 33 [(3, .int i), (2, .ref 284), (1, .ref 0), (0, .float 5)] [.int (nI n)] (mk σ) 333 56324 K := by
  by_cases h : n < 34
  · match n, h with
    | 0, _ => exact r_tableIn (off := 151) (tgt := 184) (dcx dL_law_c0 21 rfl) (by decide) (by decide) (by decide +kernel) (by decide) (lc_feed hS hv hj0 hW kk)
    | 1, _ => exact r_tableIn (off := 214) (tgt := 247) (dcx dL_law_c0 21 rfl) (by decide) (by decide) (by decide +kernel) (by decide) (lc_back hS hv hj0 hW kk)
    | 2, _ => exact r_tableIn (off := 237) (tgt := 270) (dcx dL_law_c0 21 rfl) (by decide) (by decide) (by decide +kernel) (by decide) (lc_read hS hv hj0 hW kk)
    | 3, _ => exact r_tableIn (off := 250) (tgt := 283) (dcx dL_law_c0 21 rfl) (by decide) (by decide) (by decide +kernel) (by decide) (lc_place hS hv hj0 hW kk)
    | 4, _ => exact r_tableIn (off := 263) (tgt := 296) (dcx dL_law_c0 21 rfl) (by decide) (by decide) (by decide +kernel) (by decide) (lc_cell hS hv hj0 hW kk)
    | 5, _ => exact r_tableIn (off := 306) (tgt := 339) (dcx dL_law_c0 21 rfl) (by decide) (by decide) (by decide +kernel) (by decide) (lc_sign hS hv hj0 hW kk)
    | 6, _ => exact r_tableIn (off := 339) (tgt := 372) (dcx dL_law_c0 21 rfl) (by decide) (by decide) (by decide +kernel) (by decide) (lc_window hS hv hj0 hW kk)
    | 7, _ => exact r_tableIn (off := 372) (tgt := 405) (dcx dL_law_c0 21 rfl) (by decide) (by decide) (by decide +kernel) (by decide) (lc_contrast hS hv hj0 hW kk)
    | 8, _ => exact r_tableIn (off := 415) (tgt := 448) (dcx dL_law_c0 21 rfl) (by decide) (by decide) (by decide +kernel) (by decide) (lc_reads hS hv hj0 hW kk)
    | 9, _ => exact r_tableIn (off := 458) (tgt := 491) (dcx dL_law_c0 21 rfl) (by decide) (by decide) (by decide +kernel) (by decide) (lc_cut hS hv hj0 hW kk)
    | 10, _ => exact r_tableIn (off := 501) (tgt := 534) (dcx dL_law_c0 21 rfl) (by decide) (by decide) (by decide +kernel) (by decide) (lc_graze hS hv hj0 hW kk)
    | 11, _ => exact r_tableIn (off := 534) (tgt := 567) (dcx dL_law_c0 21 rfl) (by decide) (by decide) (by decide +kernel) (by decide) (lc_nourish hS hv hj0 hW kk)
    | 12, _ => exact r_tableIn (off := 567) (tgt := 600) (dcx dL_law_c0 21 rfl) (by decide) (by decide) (by decide +kernel) (by decide) (lc_mow hS hv hj0 hW kk)
    | 13, _ => exact r_tableIn (off := 590) (tgt := 623) (dcx dL_law_c0 21 rfl) (by decide) (by decide) (by decide +kernel) (by decide) (lc_weeks hS hv hj0 hW kk)
    | 14, _ => exact r_tableIn (off := 613) (tgt := 646) (dcx dL_law_c0 21 rfl) (by decide) (by decide) (by decide +kernel) (by decide) (lc_undo hS hv hj0 hW kk)
    | 15, _ => exact r_tableIn (off := 626) (tgt := 659) (dcx dL_law_c0 21 rfl) (by decide) (by decide) (by decide +kernel) (by decide) (lc_best hS hv hj0 hW kk)
    | 16, _ => exact r_tableIn (off := 659) (tgt := 692) (dcx dL_law_c0 21 rfl) (by decide) (by decide) (by decide +kernel) (by decide) (lc_gone hS hv hj0 hW kk)
    | 17, _ => exact r_tableIn (off := 702) (tgt := 735) (dcx dL_law_c0 21 rfl) (by decide) (by decide) (by decide +kernel) (by decide) (lc_when hS hv hj0 hW kk)
    | 18, _ => exact r_tableIn (off := 765) (tgt := 798) (dcx dL_law_c0 21 rfl) (by decide) (by decide) (by decide +kernel) (by decide) (lc_cuts hS hv hj0 hW kk)
    | 19, _ => exact r_tableIn (off := 818) (tgt := 851) (dcx dL_law_c0 21 rfl) (by decide) (by decide) (by decide +kernel) (by decide) (lc_care hS hv hj0 hW kk)
    | 20, _ => exact r_tableIn (off := 861) (tgt := 894) (dcx dL_law_c0 21 rfl) (by decide) (by decide) (by decide +kernel) (by decide) (lc_level hS hv hj0 hW kk)
    | 21, _ => exact r_tableIn (off := 874) (tgt := 907) (dcx dL_law_c0 21 rfl) (by decide) (by decide) (by decide +kernel) (by decide) (lc_quiet hS hv hj0 hW kk)
    | 22, _ => exact r_tableIn (off := 887) (tgt := 920) (dcx dL_law_c0 21 rfl) (by decide) (by decide) (by decide +kernel) (by decide) (lc_knows hS hv hj0 hW kk)
    | 23, _ => exact r_tableIn (off := 920) (tgt := 953) (dcx dL_law_c0 21 rfl) (by decide) (by decide) (by decide +kernel) (by decide) (lc_then hS hv hj0 hW kk)
    | 24, _ => exact r_tableIn (off := 963) (tgt := 996) (dcx dL_law_c0 21 rfl) (by decide) (by decide) (by decide +kernel) (by decide) (lc_all hS hv hj0 hW kk)
    | 25, _ => exact r_tableIn (off := 1006) (tgt := 1039) (dcx dL_law_c0 21 rfl) (by decide) (by decide) (by decide +kernel) (by decide) (lc_year hS hv hj0 hW kk)
    | 26, _ => exact r_tableIn (off := 1059) (tgt := 1092) (dcx dL_law_c0 21 rfl) (by decide) (by decide) (by decide +kernel) (by decide) (lc_tell hS hv hj0 hW kk)
    | 27, _ => exact r_tableIn (off := 1102) (tgt := 1135) (dcx dL_law_c0 21 rfl) (by decide) (by decide) (by decide +kernel) (by decide) (lc_forget hS hv hj0 hW kk)
    | 28, _ => exact r_tableIn (off := 1115) (tgt := 1148) (dcx dL_law_c0 21 rfl) (by decide) (by decide) (by decide +kernel) (by decide) (lc_blades hS hv hj0 hW kk)
    | 29, _ => exact r_tableIn (off := 1138) (tgt := 1171) (dcx dL_law_c0 21 rfl) (by decide) (by decide) (by decide +kernel) (by decide) (lc_sure hS hv hj0 hW kk)
    | 30, _ => exact r_tableIn (off := 1171) (tgt := 1204) (dcx dL_law_c0 21 rfl) (by decide) (by decide) (by decide +kernel) (by decide) (lc_ask hS hv hj0 hW kk)
    | 31, _ => exact r_tableIn (off := 1194) (tgt := 1227) (dcx dL_law_c0 21 rfl) (by decide) (by decide) (by decide +kernel) (by decide) (lc_hold hS hv hj0 hW kk)
    | 32, _ => exact r_tableIn (off := 1217) (tgt := 1250) (dcx dL_law_c0 21 rfl) (by decide) (by decide) (by decide +kernel) (by decide) (lc_restore hS hv hj0 hW kk)
    | 33, _ => exact r_tableIn (off := 1240) (tgt := 1273) (dcx dL_law_c0 21 rfl) (by decide) (by decide) (by decide +kernel) (by decide) (lc_count hS hv hj0 hW kk)
    | q + 34, h => exact absurd h (by omega)
  · refine r_tableOut (tgt := 1296) (dcx dL_law_c0 21 rfl) (Or.inr ?_) (by decide) (kk σ hJ)
    have e : ∀ m, m < 64 → ¬ m < 34 → (33 : Int) < (nI m).toInt := by decide +kernel
    exact e n hn h
set_option maxRecDepth 20000 in
theorem law_loop (hL : Ls ≤ 3072) (hS : SCR Γ Ls xs) (hK : ∀ h, K (some (.int 1)) h) : ∀ (n k : Nat) (σ : SS), k + n = 513 → 6 * k ≤ Ls + 5 → JS σ (60 * k) → Gd Γ l mL_law 18 [(3, .int (nI (6 * k))), (2, .ref 284), (1, .ref 0), (0, .float 5)] [] (mk σ) 333 56324 K := by
  intro n
  induction n with
  | zero => intro k σ h1 h2 _; omega
  | succ n ih =>
    intro k σ h1 h2 hJ
    refine r_iload_n (dcx dL_law_c0 10 rfl) 0 rfl ?_
    refine r_aload_nS (dcx dL_law_c0 11 rfl) 3 rfl ?_
    refine r_slen hS (dcx dL_law_c0 12 rfl) ?_
    refine r_bipush (v := 6) (dcx dL_law_c0 13 rfl) rfl ?_
    refine r_isub (dcx dL_law_c0 14 rfl) ?_
    refine r_icmp_gt (tgt := 1302) (dcx dL_law_c0 15 rfl) (by decide) (fun q => ?_) (fun q => ?_)
    · refine r_iconst (v := 1) (dcx dL_law_c23 12 rfl) rfl ?_
      exact r_zret (ty := .boolean) rfl rfl (hK _) (Nat.le_of_ble_eq_true rfl) (Nat.le_of_ble_eq_true rfl) (dcx dL_law_c23 13 rfl)
    · have hk : 6 * k + 6 ≤ Ls := by
        rcases Nat.lt_or_ge Ls (6 * k + 6) with h | h
        · exact absurd ((Lsub hL (by omega)).mpr h) q
        · exact h
      have hv : ∀ j : Nat, j ≤ 5 → vp_in (nI (6 * k) + nI j) Ls := fun j hj => by
        rw [nI_add]
        exact vp_in_nI (by omega) (by omega)
      refine r_aload_nS (dcx dL_law_c0 16 rfl) 3 rfl ?_
      refine r_iload_n (dcx dL_law_c0 17 rfl) 0 rfl ?_
      refine r_sload hS (dcx dL_law_c0 18 rfl) (vp_in_nI (by omega) (by omega)) ?_
      refine r_bipush (v := 63) (dcx dL_law_c0 19 rfl) rfl ?_
      refine r_iand (dcx dL_law_c0 20 rfl) ?_
      obtain ⟨z, hz, ez⟩ := and63 (xs (nI (6 * k)).toNatClampNeg)
      rw [ez]
      refine lc_sw hz hS hv hJ (by omega) (hJ.up (by omega) (by omega)) (fun σ2 hJ2 => ?_)
      refine r_iinc (dcx dL_law_c23 10 rfl) 0 rfl (by decide) (lv1 := [(3, .int (nI (6 * k) + Int32.ofInt 6)), (2, .ref 284), (1, .ref 0), (0, .float 5)]) rfl ?_
      refine r_goto (tgt := 18) (dcx dL_law_c23 11 rfl) (by decide) ?_
      rw [show nI (6 * k) + Int32.ofInt 6 = nI (6 * (k + 1)) from (nI_add (6 * k) 6).trans (congrArg nI (by omega))]
      exact ih (k + 1) σ2 (by omega) (by omega) (by rw [show 60 * (k + 1) = 60 * k + 60 by omega]; exact hJ2)
end LW
