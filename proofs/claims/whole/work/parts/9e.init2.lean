/-! a plan as it is made: its clear over fresh cells -/
section IP
variable {Γ : GE} {l : Launch} {F : HF} {a c d m : Nat} {K : Option Value → PH → Prop}
theorem vX2_clear {n : Int32} (ham : a < m) (hF : F a = .inr (2, [.ref c, .ref d, .int n])) (hK : ∀ G : HF, G = uF F a (.inr (2, [.ref c, .ref d, .int 0])) → K none (mkF m G)) : Cd Γ l mX2_clear [.ref a] (mkF m F) K := by
  refine cd_of (lv := [(0, .ref a)]) (by decide) (Nat.le_of_ble_eq_true rfl) rfl ?_
  refine r_aload_n (dcx dX2_clear_c0 0 rfl) 0 rfl ?_
  refine r_iconst (v := 0) (dcx dX2_clear_c0 1 rfl) rfl ?_
  refine f_put gX2_18 (dcx dX2_clear_c0 2 rfl) ham hF rfl rfl (Nat.le_of_ble_eq_true rfl) (fs' := [.ref c, .ref d, .int 0]) rfl (fun G h => ?_)
  exact r_vret rfl (hK G h) (by decide) (by decide) (dcx dX2_clear_c0 3 rfl)
theorem vX2_put {n : Nat} {f : Nat → Int32} {x : Int32} (ham : a < m) (hcm : c < m) (hne : a ≠ c) (hn : n < 401) (hF : F a = .inr (2, [.ref c, .ref d, .int (nI n)])) (hc : F c = .inl (.int, 401, .inl f)) (hK : ∀ G : HF, (∀ b, b ≠ a → b ≠ c → G b = F b) → G a = .inr (2, [.ref c, .ref d, .int (nI (n + 1))]) → G c = .inl (.int, 401, .inl (upd f n x)) → K none (mkF m G)) : Cd Γ l mX2_put [.ref a, .int x] (mkF m F) K := by
  refine cd_of (lv := [(0, .ref a), (1, .int x)]) (by decide) (Nat.le_of_ble_eq_true rfl) rfl ?_
  refine r_aload_n (dcx dX2_put_c0 0 rfl) 0 rfl ?_
  refine f_get fX2_18 (dcx dX2_put_c0 1 rfl) ham hF rfl ?_
  refine r_aload_n (dcx dX2_put_c0 2 rfl) 0 rfl ?_
  refine f_get fX2_9 (dcx dX2_put_c0 3 rfl) ham hF rfl ?_
  refine r_alen (dcx dX2_put_c0 4 rfl) (by rw [mkF_at hcm, hc]) ?_
  refine r_icmp_ge (tgt := 32) (dcx dX2_put_c0 5 rfl) (by decide) (fun q_ => absurd ((nI_leI (by decide) (by omega)).mp q_) (by omega)) (fun q_ => ?_)
  refine r_aload_n (dcx dX2_put_c0 6 rfl) 0 rfl ?_
  refine f_get fX2_9 (dcx dX2_put_c0 7 rfl) ham hF rfl ?_
  refine r_aload_n (dcx dX2_put_c0 8 rfl) 0 rfl ?_
  refine f_get fX2_18 (dcx dX2_put_c0 9 rfl) ham hF rfl ?_
  refine r_iload_n (dcx dX2_put_c0 10 rfl) 1 rfl ?_
  refine f_iast (dcx dX2_put_c0 11 rfl) hcm hc (vp_in_nI hn (by decide)) (fun G1 h1 => ?_)
  have hF1 : G1 a = .inr (2, [.ref c, .ref d, .int (nI n)]) := by rw [h1, uF_n hne, hF]
  refine r_aload_n (dcx dX2_put_c0 12 rfl) 0 rfl ?_
  refine r_dup (dcx dX2_put_c0 13 rfl) rfl ?_
  refine f_get fX2_18 (dcx dX2_put_c0 14 rfl) ham hF1 rfl ?_
  refine r_iconst (v := 1) (dcx dX2_put_c0 15 rfl) rfl ?_
  refine r_iadd (dcx dX2_put_c0 16 rfl) ?_
  refine f_put gX2_18 (dcx dX2_put_c0 17 rfl) ham hF1 rfl rfl (Nat.le_of_ble_eq_true rfl) (fs' := [.ref c, .ref d, .int (nI n + 1)]) rfl (fun G2 h2 => ?_)
  refine r_vret rfl (hK G2 (fun b h3 h4 => by rw [h2, uF_n h3, h1, uF_n h4]) ?_ ?_) (by decide) (by decide) (dcx dX2_put_c0 18 rfl)
  · rw [h2, uF_s, ← nI_succ]
  · rw [h2, uF_n (Ne.symm hne), h1, uF_s, nI_clamp (by omega)]
theorem vX2_beOnly {n : Int32} {f : Nat → Int32} {x : Int32} (ham : a < m) (hcm : c < m) (hne : a ≠ c) (hF : F a = .inr (2, [.ref c, .ref d, .int n])) (hc : F c = .inl (.int, 401, .inl f)) (hK : ∀ G : HF, (∀ b, b ≠ a → b ≠ c → G b = F b) → G a = .inr (2, [.ref c, .ref d, .int 2]) → G c = .inl (.int, 401, .inl (upd (upd f 0 x) 1 (-100))) → K none (mkF m G)) : Cd Γ l mX2_beOnly [.ref a, .int x] (mkF m F) K := by
  refine cd_of (lv := [(0, .ref a), (1, .int x)]) (by decide) (Nat.le_of_ble_eq_true rfl) rfl ?_
  refine r_aload_n (dcx dX2_beOnly_c0 0 rfl) 0 rfl ?_
  refine r_callV (as := []) (st := []) kX2_beOnly_22 (dcx dX2_beOnly_c0 1 rfl) rfl rfl (Nat.le_of_ble_eq_true rfl) (by rw [mkF_at ham, hF]) rfl rfl (by decide) (vX2_clear ham hF (fun G1 h1 => ?_))
  refine r_aload_n (dcx dX2_beOnly_c0 2 rfl) 0 rfl ?_
  refine r_iload_n (dcx dX2_beOnly_c0 3 rfl) 1 rfl ?_
  have e1 : G1 a = .inr (2, [.ref c, .ref d, .int (nI 0)]) := by rw [h1, uF_s]; rfl
  refine r_callV (as := [.int x]) (st := []) kX2_beOnly_25 (dcx dX2_beOnly_c0 4 rfl) rfl rfl (Nat.le_of_ble_eq_true rfl) (by rw [mkF_at ham, e1]) rfl rfl (by decide) (vX2_put ham hcm hne (by decide) e1 (by rw [h1, uF_n (Ne.symm hne), hc]) (fun G2 h2 h3 h4 => ?_))
  refine r_aload_n (dcx dX2_beOnly_c0 5 rfl) 0 rfl ?_
  refine r_bipush (v := -100) (dcx dX2_beOnly_c0 6 rfl) rfl ?_
  refine r_callV (as := [.int (-100)]) (st := []) kX2_beOnly_25 (dcx dX2_beOnly_c0 7 rfl) rfl rfl (Nat.le_of_ble_eq_true rfl) (by rw [mkF_at ham, h3]) rfl rfl (by decide) (vX2_put ham hcm hne (by decide) h3 h4 (fun G3 h5 h6 h7 => ?_))
  exact r_vret rfl (hK G3 (fun b z1 z2 => by rw [h5 b z1 z2, h2 b z1 z2, h1, uF_n z1]) (by rw [h6]; rfl) h7) (by decide) (by decide) (dcx dX2_beOnly_c0 8 rfl)
theorem vX2_codeOfVar {x : Int32} {h : PH} (hK : K (some (.int ((-1) - x))) h) : Cd Γ l mX2_codeOfVar [.int x] h K := by
  refine cd_of (lv := [(0, .int x)]) (by decide) (Nat.le_of_ble_eq_true rfl) rfl ?_
  refine r_iconst (v := (-1)) (dcx dX2_codeOfVar_c0 0 rfl) rfl ?_
  refine r_iload_n (dcx dX2_codeOfVar_c0 1 rfl) 0 rfl ?_
  refine r_isub (dcx dX2_codeOfVar_c0 2 rfl) ?_
  exact r_iret rfl hK (by decide) (by decide) (dcx dX2_codeOfVar_c0 3 rfl)
/-- a row whose first entries are set -/
def rowT (N : Nat) (v : Int32) (i : Nat) : PC := .inl (.int, N, .inl (fun k => if k < i then v else 0))
theorem rowT_0 (N : Nat) (v : Int32) : aIz N = rowT N v 0 := by
  unfold aIz rowT
  congr 3
theorem upd_row (v : Int32) (i : Nat) : upd (fun k => if k < i then v else (0 : Int32)) i v = fun k => if k < i + 1 then v else 0 := by
  funext k
  unfold upd
  by_cases h : k = i
  · subst h; simp
  · by_cases h2 : k < i
    · show (if k = i then v else if k < i then v else 0) = _
      rw [if_neg h, if_pos h2, if_pos (by omega)]
    · show (if k = i then v else if k < i then v else 0) = _
      rw [if_neg h, if_neg h2, if_neg (by omega)]
theorem vX6_row1 {fs : List Value} (ham : a < m) (hcm : c < m) (hne : a ≠ c) (h0 : fs[0]? = some (.ref c)) : ∀ (n i : Nat) (F : HF), i + n = 80 → F a = .inr (6, fs) → F c = rowT 80 (-2) i →
    (∀ G : HF, (∀ b, b ≠ c → G b = F b) → G c = rowT 80 (-2) 80 → Gd Γ l mX6_clear 22 [(1, .int (nI 80)), (0, .ref a)] [] (mkF m G) 0 0 K) → Gd Γ l mX6_clear 2 [(1, .int (nI i)), (0, .ref a)] [] (mkF m F) 0 0 K := by
  intro n
  induction n with
  | zero =>
    intro i F hi hF hc kk
    refine r_iload_n (dcx dX6_clear_c0 2 rfl) 0 rfl ?_
    refine r_bipush (v := 80) (dcx dX6_clear_c0 3 rfl) rfl ?_
    have e : i = 80 := by omega
    subst e
    refine r_icmp_ge (tgt := 22) (dcx dX6_clear_c0 4 rfl) (by decide) (fun q_ => ?_) (fun q_ => absurd ((nI_leI (a := 80) (b := 80) (by decide) (by decide)).mpr (Nat.le_refl _)) q_)
    exact kk F (fun _ _ => rfl) hc
  | succ n ih =>
    intro i F hi hF hc kk
    refine r_iload_n (dcx dX6_clear_c0 2 rfl) 0 rfl ?_
    refine r_bipush (v := 80) (dcx dX6_clear_c0 3 rfl) rfl ?_
    refine r_icmp_ge (tgt := 22) (dcx dX6_clear_c0 4 rfl) (by decide) (fun q_ => absurd ((nI_leI (a := 80) (b := i) (by decide) (by omega)).mp q_) (by omega)) (fun q_ => ?_)
    refine r_aload_n (dcx dX6_clear_c0 5 rfl) 1 rfl ?_
    refine f_get fX6_9 (dcx dX6_clear_c0 6 rfl) ham hF h0 ?_
    refine r_iload_n (dcx dX6_clear_c0 7 rfl) 0 rfl ?_
    refine r_bipush (v := -2) (dcx dX6_clear_c0 8 rfl) rfl ?_
    refine f_iast (dcx dX6_clear_c0 9 rfl) hcm hc (vp_in_nI (by omega) (by decide)) (fun G1 h1 => ?_)
    refine r_iinc (dcx dX6_clear_c0 10 rfl) 0 rfl (by decide) (lv1 := [(1, .int (nI i + Int32.ofInt 1)), (0, .ref a)]) rfl ?_
    refine r_goto (tgt := 2) (dcx dX6_clear_c0 11 rfl) (by decide) ?_
    rw [show nI i + Int32.ofInt 1 = nI (i + 1) from (nI_succ i).symm]
    refine ih (i + 1) G1 (by omega) (by rw [h1, uF_n hne, hF]) (by rw [h1, uF_s, nI_clamp (by omega), upd_row]; rfl) (fun G h2 h3 => kk G (fun b hb => by rw [h2 b hb, h1, uF_n hb]) h3)
theorem vX6_row2 {fs : List Value} (ham : a < m) (hcm : c < m) (hne : a ≠ c) (h0 : fs[7]? = some (.ref c)) : ∀ (n i : Nat) (F : HF), i + n = 4 → F a = .inr (6, fs) → F c = rowT 4 0 i →
    (∀ G : HF, (∀ b, b ≠ c → G b = F b) → G c = rowT 4 0 4 → Gd Γ l mX6_clear 42 [(1, .int (nI 4)), (0, .ref a)] [] (mkF m G) 0 0 K) → Gd Γ l mX6_clear 24 [(1, .int (nI i)), (0, .ref a)] [] (mkF m F) 0 0 K := by
  intro n
  induction n with
  | zero =>
    intro i F hi hF hc kk
    refine r_iload_n (dcx dX6_clear_c0 14 rfl) 0 rfl ?_
    refine r_iconst (v := 4) (dcx dX6_clear_c0 15 rfl) rfl ?_
    have e : i = 4 := by omega
    subst e
    refine r_icmp_ge (tgt := 42) (dcx dX6_clear_c0 16 rfl) (by decide) (fun q_ => ?_) (fun q_ => absurd ((nI_leI (a := 4) (b := 4) (by decide) (by decide)).mpr (Nat.le_refl _)) q_)
    exact kk F (fun _ _ => rfl) hc
  | succ n ih =>
    intro i F hi hF hc kk
    refine r_iload_n (dcx dX6_clear_c0 14 rfl) 0 rfl ?_
    refine r_iconst (v := 4) (dcx dX6_clear_c0 15 rfl) rfl ?_
    refine r_icmp_ge (tgt := 42) (dcx dX6_clear_c0 16 rfl) (by decide) (fun q_ => absurd ((nI_leI (a := 4) (b := i) (by decide) (by omega)).mp q_) (by omega)) (fun q_ => ?_)
    refine r_aload_n (dcx dX6_clear_c0 17 rfl) 1 rfl ?_
    refine f_get fX6_34 (dcx dX6_clear_c0 18 rfl) ham hF h0 ?_
    refine r_iload_n (dcx dX6_clear_c0 19 rfl) 0 rfl ?_
    refine r_iconst (v := 0) (dcx dX6_clear_c0 20 rfl) rfl ?_
    refine f_iast (dcx dX6_clear_c0 21 rfl) hcm hc (vp_in_nI (by omega) (by decide)) (fun G1 h1 => ?_)
    refine r_iinc (dcx dX6_clear_c0 22 rfl) 0 rfl (by decide) (lv1 := [(1, .int (nI i + Int32.ofInt 1)), (0, .ref a)]) rfl ?_
    refine r_goto (tgt := 24) (dcx dX6_clear_c0 23 rfl) (by decide) ?_
    rw [show nI i + Int32.ofInt 1 = nI (i + 1) from (nI_succ i).symm]
    refine ih (i + 1) G1 (by omega) (by rw [h1, uF_n hne, hF]) (by rw [h1, uF_s, nI_clamp (by omega), upd_row]; rfl) (fun G h2 h3 => kk G (fun b hb => by rw [h2 b hb, h1, uF_n hb]) h3)
end IP
