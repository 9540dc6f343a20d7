/-! the class: what is done -/
theorem XL_sett {σ : SS} {a s v : Nat} {L : LV} (hl : XL σ a L) (hs4 : s < 4) : XL (sI σ (a + 4) s (nI v)) a (upL L (96 + s) v) := by
  refine ⟨hl.1, fun i hi => ?_, fun i hi => ?_, fun j hj => ?_, fun t ht => ?_, ?_, ?_⟩
  · rw [sI_row, sA_off2 _ _ (by omega), hl.2.1 i hi]
    congr 1
    unfold cH
    by_cases hb : inb i = true
    · simp only [hb, if_true, upL]
      simp only [inb, decide_eq_true_eq] at hb
      rw [if_neg (by unfold kOf; omega)]
    · simp [hb]
  · rw [sI_row, sA_off2 _ _ (by omega), hl.2.2.1 i hi]
    congr 1
    unfold cF
    by_cases hb : inb i = true
    · simp only [hb, if_true, upL]
      simp only [inb, decide_eq_true_eq] at hb
      rw [if_neg (by unfold kOf; omega)]
    · simp [hb]
  · rw [sI_row, sA_off2 _ _ (by omega), hl.2.2.2.1 j hj]
    unfold upL
    rw [if_neg (by omega)]
  · rw [sI_at]
    unfold upL
    by_cases he : t = s
    · rw [if_pos ⟨rfl, he⟩, if_pos (by omega)]
    · rw [if_neg (fun z => he z.2), if_neg (by omega)]
      exact hl.2.2.2.2.1 t ht
  · rw [sI_row, sA_off2 _ _ (by omega), hl.2.2.2.2.2.1]
    unfold upL
    rw [if_neg (by omega)]
  · rw [sI_row, sA_off2 _ _ (by omega), hl.2.2.2.2.2.2]
    unfold upL
    rw [if_neg (by omega)]
theorem XL_setp {σ : SS} {a v : Nat} {L : LV} (hl : XL σ a L) : XL (sI σ a 5 (nI v)) a (upL L 105 v) := by
  refine ⟨hl.1, fun i hi => ?_, fun i hi => ?_, fun j hj => ?_, fun t ht => ?_, ?_, ?_⟩
  · rw [sI_row, sA_off2 _ _ (by omega), hl.2.1 i hi]
    congr 1
    unfold cH
    by_cases hb : inb i = true
    · simp only [hb, if_true, upL]
      simp only [inb, decide_eq_true_eq] at hb
      rw [if_neg (by unfold kOf; omega)]
    · simp [hb]
  · rw [sI_row, sA_off2 _ _ (by omega), hl.2.2.1 i hi]
    congr 1
    unfold cF
    by_cases hb : inb i = true
    · simp only [hb, if_true, upL]
      simp only [inb, decide_eq_true_eq] at hb
      rw [if_neg (by unfold kOf; omega)]
    · simp [hb]
  · rw [sI_row, sA_off2 _ _ (by omega), hl.2.2.2.1 j hj]
    unfold upL
    rw [if_neg (by omega)]
  · rw [sI_row, sA_off2 _ _ (by omega), hl.2.2.2.2.1 t ht]
    unfold upL
    rw [if_neg (by omega)]
  · rw [sI_at, if_neg (by omega), hl.2.2.2.2.2.1]
    unfold upL
    rw [if_neg (by omega)]
  · rw [sI_at, if_pos ⟨rfl, rfl⟩]
    rfl
def fnN (P : PV) (L : LV) (s x y : Nat) : Nat := (fnS P L s x y).toNatClampNeg
theorem fnN_eq (P : PV) (L : LV) (s x y : Nat) : fnS P L s x y = nI (fnN P L s x y) ∧ fnN P L s x y ≤ 99 := by
  obtain ⟨h1, h2⟩ := hld99_n (evL (fnV L x y (szS P s)) (plw P 2))
  exact ⟨h1.symm, h2⟩
/-- a sign is cut, and its fine is paid -/
def cutL (P : PV) (L : LV) (s x y : Nat) : LV := upL (upL (ct9 P s x y L 9) (96 + s) (L (96 + s) + 1)) 105 (L 105 + fnN P L s x y)
theorem up_ok {P : PV} {L : LV} {c v : Nat} (ok : LVok P L) (h1 : 96 ≤ c) (h2 : c < 100 ∨ c = 105) : LVok P (upL L c v) ∧ upL L c v 104 = L 104 := by
  refine ⟨⟨fun k hk => ⟨?_, ?_⟩, fun x' y' hx' hy' hgr => ⟨?_, ?_⟩, fun w hw => ?_, ?_⟩, ?_⟩
  · unfold upL; rw [if_neg (by omega)]; exact (ok.1 k hk).1
  · unfold upL; rw [if_neg (by omega)]; exact (ok.1 k hk).2
  · unfold upL; rw [if_neg (by omega)]; exact (ok.2.1 x' y' hx' hy' hgr).1
  · unfold upL; rw [if_neg (by omega)]; exact (ok.2.1 x' y' hx' hy' hgr).2
  · unfold upL; rw [if_neg (by omega)]; exact ok.2.2.1 w hw
  · unfold upL; rw [if_neg (by omega)]; exact ok.2.2.2
  · unfold upL; rw [if_neg (by omega)]
theorem cutL_ok {P : PV} {L : LV} {s x y : Nat} (ok : LVok P L) (hs : s < 4) (hx : x + 2 < 8) (hy : y + 2 < 6) : LVok P (cutL P L s x y) ∧ cutL P L s x y 104 = L 104 := by
  obtain ⟨k1, e1⟩ := ct9_ok (s := s) ok hx hy 9 (by omega)
  obtain ⟨k2, e2⟩ := up_ok (c := 96 + s) (v := L (96 + s) + 1) k1 (by omega) (by omega)
  obtain ⟨k3, e3⟩ := up_ok (c := 105) (v := L 105 + fnN P L s x y) k2 (by omega) (by omega)
  refine ⟨k3, ?_⟩
  unfold cutL
  rw [e3, e2, e1 104 (by omega)]
def lvN (P : PV) : Nat → LV → LV
  | 0, L => L
  | n + 1, L => lvN P n (lvL P L)
section Q7
variable {Γ : GE} {l : Launch} {σ : SS} {K : Option Value → SS → Prop} {T : List Nat} {f : Int32} {P : PV} {L : LV} {H : List LV} {O : Nat → Option LV} {D : List (Nat × Nat × Nat)} {W : Nat} {p a : Nat}
theorem scn_g {p : Nat} (hp : isP p) {k : Nat} (hk : k = 11 ∨ k = 14 ∨ k = 17) : scn [47, p + k] := fun b hb => by
  have := isP_or hp
  simp at hb
  omega
theorem q_cut {s x y : Int32} (h : XS σ T f P L H O D) (ok : OKS T P L H O D W)
    (hK : ∀ τ, Cl σ τ → XS τ T f P (if vSg P s && vPl P x y then cutL P L s.toNatClampNeg x.toNatClampNeg y.toNatClampNeg else L) (if vSg P s && vPl P x y then kp L H else H) O D → K (some (.int (if vSg P s && vPl P x y then nI (fnN P L s.toNatClampNeg x.toNatClampNeg y.toNatClampNeg) else -1))) τ) : C2 Γ l mX9_cut [.ref 0, .int s, .int x, .int y] σ K := by
  have h0 := h
  obtain ⟨p, ⟨h1, -⟩, h2, h3, h4, h5, h6, h7, h8⟩ := h
  have pk := h2.1.2.2
  have w8 := pk.1
  have r6 := pk.2.1
  have s4 := pk.2.2.1
  have hp := h2.1.2.1.1
  refine tX9_cut ⟨p, h1, hp, c_hasPlace h2.1.2.1 (ri ?_)⟩
  rw [bI_0, vP_eq pk]
  refine ⟨fun q => ?_, fun q => ?_⟩
  · simp only [Bool.not_eq_false] at q
    rw [q] at hK
    simp only [Bool.and_eq_true] at q
    obtain ⟨S, rfl, hS⟩ := vSg_nat q.1
    obtain ⟨X, Y, rfl, rfl, hX, hY⟩ := vPl_nat q.2
    rw [nI_clamp (by omega), nI_clamp (by omega), nI_clamp (by omega)] at hK
    simp only [if_true] at hK
    refine q_keep h0 (fun υ c1 hu => rv ?_)
    have hu0 := hu
    obtain ⟨p', -, u2, u3, -⟩ := hu
    have hp' := u2.1.2.1.1
    have hpp := isP_or hp'
    have v4 : vp_in (nI S) 4 := vp_in_nI (by omega) (by omega)
    refine c_fineFor u2 u3 hS (by omega) (by omega) (fun τ1 d1 => ri ?_)
    have sc1 := scn_g hp' (k := 17) (by omega)
    have l1 : XL τ1 269 L := u3.df d1 (by simp; omega) (by simp; omega) (by simp; omega) (by simp; omega) (by simp; omega)
    have hs1 := hu0.nw d1 sc1 l1
    refine c_cutOut (u2.df d1 sc1.off) l1 hS (by omega) (by omega) (fun τ2 d2 l2 => rv ⟨v4, v4, fun τ3 e3 τ4 e4 => ?_⟩)
    have hs2 := hs1.nw d2 (fun b hb => by simp at hb; omega) l2
    have wk := (ct9_ok (s := S) ok.2.1.1 (x := X) (y := Y) (by omega) (by omega) 9 (by omega)).2
    rw [nI_clamp (by omega), l2.2.2.2.2.1 S (by omega), wk _ (by omega), nI_1] at e3
    have l3 := XL_sett (v := L (96 + S) + 1) l2 (s := S) (by omega)
    rw [← e3] at l3
    have d3 : Df [273] τ2 τ3 := by rw [e3]; exact Df.rf.wI (by simp)
    have hs3 := hs2.nw d3 (fun b hb => by simp at hb; omega) l3
    have e105 : τ3.1 269 5 = nI (L 105) := by
      rw [l3.2.2.2.2.2.2]
      unfold upL
      rw [if_neg (by omega), wk _ (by omega)]
    rw [e105, (fnN_eq P L S X Y).1, nI_add] at e4
    have l4 := XL_setp (v := L 105 + fnN P L S X Y) l3
    rw [← e4] at l4
    have d4 : Df [269] τ3 τ4 := by rw [e4]; exact Df.rf.wI (by simp)
    have hs4 := hs3.nw d4 (fun b hb => by simp at hb; omega) l4
    rw [(fnN_eq P L S X Y).1]
    refine hK τ4 ((((c1.tr (d1.cl sc1.cl)).tr (d2.cl (fun b hb => by simp at hb; omega))).tr (d3.cl (fun b hb => by simp at hb; omega))).tr (d4.cl (fun b hb => by simp at hb; omega))) hs4
  · have k := hK σ Cl.rf
    rw [q] at k
    exact k h0
/-- a cell of grass is meant -/
def vGr (P : PV) (x y : Int32) : Bool := vC P x y && grass P x.toNatClampNeg y.toNatClampNeg
theorem q_graze {x y : Int32} (h : XS σ T f P L H O D)
    (hK : ∀ τ, Cl σ τ → XS τ T f P (if vGr P x y then upL L (8 * y.toNatClampNeg + x.toNatClampNeg) 0 else L) (if vGr P x y then kp L H else H) O D → K (some (.int (if vC P x y then (if grass P x.toNatClampNeg y.toNatClampNeg then nI (L (8 * y.toNatClampNeg + x.toNatClampNeg)) else -2) else -1))) τ) : C2 Γ l mX9_graze [.ref 0, .int x, .int y] σ K := by
  have h0 := h
  obtain ⟨p, ⟨h1, -⟩, h2, h3, h4, h5, h6, h7, h8⟩ := h
  have pk := h2.1.2.2
  have w8 := pk.1
  have r6 := pk.2.1
  have hp := h2.1.2.1.1
  refine tX9_graze ⟨p, h1, hp, c_hasCell h2.1.2.1 (ri ?_)⟩
  rw [bI_0, vC_eq pk]
  refine ⟨fun q => ?_, fun q => ?_⟩
  · simp only [Bool.not_eq_false] at q
    simp only [vGr, q, Bool.true_and, if_true] at hK
    obtain ⟨X, Y, rfl, rfl, hX, hY⟩ := vC_nat q
    rw [nI_clamp (by omega), nI_clamp (by omega)] at hK
    refine ⟨p, h1, hp, c_isGrass h2.1.2.1 pk (by omega) (by omega) (ri ?_)⟩
    rw [bI_0]
    refine ⟨fun e => ?_, fun e => ?_⟩
    · simp only [Bool.not_eq_false] at e
      rw [e] at hK
      simp only [if_true] at hK
      refine q_keep h0 (fun υ c1 hu => rv (c_indexOf (ri ⟨vp_in_nI (by omega) (by omega), vp_in_nI (by omega) (by omega), fun τ e2 => ?_⟩)))
      have hu0 := hu
      obtain ⟨p', -, u2, u3, -⟩ := hu
      rw [nI_clamp (by omega)] at e2
      rw [nI_clamp (by omega), XL_hi u3 (by omega) (by omega)]
      have l2 := XL_seth (v := 0) u3 (x := X) (y := Y) (by omega) (by omega)
      have e2' : τ = sI υ (269 + 1) ((Y + 1) * 10 + X + 1) (nI 0) := e2
      rw [← e2'] at l2
      have d2 : Df [270] υ τ := by rw [e2']; exact Df.rf.wI (by simp)
      exact hK τ (c1.tr (d2.cl (fun b hb => by simp at hb; omega))) (hu0.nw d2 (fun b hb => by simp at hb; omega) l2)
    · have k := hK σ Cl.rf
      rw [e] at k
      exact k h0
  · have k := hK σ Cl.rf
    simp only [vGr, q, Bool.false_and] at k
    exact k h0
theorem q_nourish {x y : Int32} (h : XS σ T f P L H O D) (ok : OKS T P L H O D W)
    (hK : ∀ τ, Cl σ τ → XS τ T f P (if vGr P x y then fdL P L x.toNatClampNeg y.toNatClampNeg else L) (if vGr P x y then kp L H else H) O D → K (some (.int (if vC P x y then (if grass P x.toNatClampNeg y.toNatClampNeg then nI (fdL P L x.toNatClampNeg y.toNatClampNeg (48 + (8 * y.toNatClampNeg + x.toNatClampNeg))) else -2) else -1))) τ) : C2 Γ l mX9_nourish [.ref 0, .int x, .int y] σ K := by
  have h0 := h
  obtain ⟨p, ⟨h1, -⟩, h2, h3, h4, h5, h6, h7, h8⟩ := h
  have pk := h2.1.2.2
  have w8 := pk.1
  have r6 := pk.2.1
  have hp := h2.1.2.1.1
  refine tX9_nourish ⟨p, h1, hp, c_hasCell h2.1.2.1 (ri ?_)⟩
  rw [bI_0, vC_eq pk]
  refine ⟨fun q => ?_, fun q => ?_⟩
  · simp only [Bool.not_eq_false] at q
    simp only [vGr, q, Bool.true_and, if_true] at hK
    obtain ⟨X, Y, rfl, rfl, hX, hY⟩ := vC_nat q
    rw [nI_clamp (by omega), nI_clamp (by omega)] at hK
    refine ⟨p, h1, hp, c_isGrass h2.1.2.1 pk (by omega) (by omega) (ri ?_)⟩
    rw [bI_0]
    refine ⟨fun e => ?_, fun e => ?_⟩
    · simp only [Bool.not_eq_false] at e
      rw [e] at hK
      simp only [if_true] at hK
      refine q_keep h0 (fun υ c1 hu => rv ?_)
      have hu0 := hu
      obtain ⟨p', -, u2, u3, -⟩ := hu
      have hpp := isP_or u2.1.2.1.1
      refine c_food u2 u3 ok.2.1.1 hX hY (fun τ d2 l2 => rv (c_indexOf (ri ⟨vp_in_nI (by omega) (by omega), ?_⟩)))
      rw [nI_clamp (by omega), XL_fo l2 (by omega) (by omega)]
      have sc2 : scn [47, p' + 14, 269 + 2] := fun b hb => by simp at hb; omega
      exact hK τ (c1.tr (d2.cl sc2.cl)) (hu0.nw d2 sc2 l2)
    · have k := hK σ Cl.rf
      rw [e] at k
      exact k h0
  · have k := hK σ Cl.rf
    simp only [vGr, q, Bool.false_and] at k
    exact k h0
theorem q_mow {t : Int32} (h : XS σ T f P L H O D) (ok : OKS T P L H O D W)
    (hK : ∀ τ, Cl σ τ → XS τ T f P (if vIn t 99 then mwL L t.toNatClampNeg else L) (if vIn t 99 then kp L H else H) O D → K (some (.int (if vIn t 99 then nI (cn (fun k => decide (t.toNatClampNeg < L k)) 48) else -1))) τ) : C2 Γ l mX9_mow [.ref 0, .int t] σ K := by
  have h0 := h
  refine tX9_mow (c_isHeight (ri ?_))
  rw [bI_0]
  refine ⟨fun q => ?_, fun q => ?_⟩
  · simp only [Bool.not_eq_false] at q
    rw [q] at hK
    obtain ⟨X, rfl, hX⟩ := vIn_nat q
    rw [nI_clamp (by omega)] at hK
    refine q_keep h0 (fun υ c1 hu => rv ?_)
    have hu0 := hu
    obtain ⟨p', -, u2, u3, -⟩ := hu
    refine c_mowTo u3 ok.2.1.1 (by omega) (fun τ d2 l2 => ri ?_)
    exact hK τ (c1.tr (d2.cl (fun b hb => by simp at hb; omega))) (hu0.nw d2 (fun b hb => by simp at hb; omega) l2)
  · have k := hK σ Cl.rf
    rw [q] at k
    exact k h0
theorem q_weeks_k {N : Nat} (hN : N ≤ 60) : ∀ m k L σ, m + k = N → XS σ T f P L H O D → LVok P L → L 104 + m < 900000 → (∀ τ, Cl σ τ → XS τ T f P (lvN P m L) H O D → K (some (.int (nI (lvN P m L 104)))) τ) → wX9_weeks_26 Γ l (nI N) (nI k) σ K := by
  intro m
  induction m with
  | zero =>
    intro k L σ g1 h ok gb hK
    refine tX9_weeks_26 ⟨fun _ => ?_, fun q => absurd (by simp (disch := omega) only [nL, nI_add, pk_mul, pk_sub, nI_clamp, nI_leI, nI_ltI, nI_eq]; omega) q⟩
    have h0 := h
    obtain ⟨p, h1, h2, h3, -⟩ := h
    rw [h3.2.2.2.2.2.1]
    exact hK σ Cl.rf h0
  | succ m ih =>
    intro k L σ g1 h ok gb hK
    refine tX9_weeks_26 ⟨fun q => absurd q (by simp (disch := omega) only [nL, nI_add, pk_mul, pk_sub, nI_clamp, nI_leI, nI_ltI, nI_eq]; omega), fun _ => ?_⟩
    have h0 := h
    obtain ⟨p, h1, h2, h3, -⟩ := h
    have pk := h2.1.2.2
    have s4 := pk.2.2.1
    have n4 := pk.2.2.2.1
    have hpp := isP_or h2.1.2.1.1
    rw [nI_1]
    refine c_live h2 h3 ok (by omega) (fun υ d l2 => rv ?_)
    have sc2 : scn (lvS p 269) := fun b hb => by simp [lvS] at hb; omega
    refine ih (k + 1) _ υ (by omega) (h0.nw d sc2 l2) (lvL_ok ok (by omega) n4 s4) (by rw [lvL_wk n4]; omega) (fun τ c hx => ?_)
    exact hK τ ((d.cl sc2.cl).tr c) hx
theorem q_weeks {n : Int32} (h : XS σ T f P L H O D) (ok : OKS T P L H O D W)
    (hK : ∀ τ, Cl σ τ → XS τ T f P (if vIn n 60 then lvN P n.toNatClampNeg L else L) (if vIn n 60 && decide (0 < n.toNatClampNeg) then kp L H else H) O D → K (some (.int (if vIn n 60 then nI (lvN P n.toNatClampNeg L 104) else -1))) τ) : C2 Γ l mX9_weeks [.ref 0, .int n] σ K := by
  have h0 := h
  have o1 := ok.1
  have o2 := ok.2.1.2
  refine tX9_weeks (c_isWait (ri ?_))
  rw [bI_0]
  refine ⟨fun q => ?_, fun q => ?_⟩
  · simp only [Bool.not_eq_false] at q
    rw [q] at hK
    obtain ⟨X, rfl, hX⟩ := vIn_nat q
    rw [nI_clamp (by omega)] at hK
    simp only [if_true, Bool.true_and] at hK
    rw [show (0 : Int32) = nI 0 from rfl, nI_leI (by omega) (by omega)]
    refine ⟨fun e => ?_, fun e => ?_⟩
    · rw [decide_eq_false (by omega)] at hK
      exact q_weeks_k hX X 0 L σ (by omega) h0 ok.2.1.1 (by omega) hK
    · rw [decide_eq_true (by omega)] at hK
      refine q_keep h0 (fun υ c1 hu => rv ?_)
      exact q_weeks_k hX X 0 L υ (by omega) hu ok.2.1.1 (by omega) (fun τ c hx => hK τ (c1.tr c) hx)
  · have k := hK σ Cl.rf
    rw [q] at k
    exact k h0
end Q7
