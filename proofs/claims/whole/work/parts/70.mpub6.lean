/-! the model: cut, graze, nourish, mow, weeks, undo, hold, restore, tell, forget, back, feed, count -/
section MB
variable {Γ : GE} {l : Launch} {σ τ : SS} {K : Option Value → SS → Prop} {v : Nat} {T : List Nat} {f : Int32} {P : PV} {L : LV} {H : List LV} {O : Nat → Option LV} {D : List (Nat × Nat × Nat)} {W : Nat}
theorem r_cut {s x y : Int32} (h : MS σ T f P L H O D) (ok : OKS T P L H O D W)
    (hK : ∀ τ, Cm σ τ → MS τ T f P (if vSg P s && vPl P x y then cutL P L s.toNatClampNeg x.toNatClampNeg y.toNatClampNeg else L) (if vSg P s && vPl P x y then kp L H else H) O D → K (some (.int (if vSg P s && vPl P x y then nI (fnN P L s.toNatClampNeg x.toNatClampNeg y.toNatClampNeg) else -1))) τ) : C2 Γ l mX10_cut [.ref 284, .int s, .int x, .int y] σ K := by
  have h0 := h
  obtain ⟨v, h⟩ := h
  have g := h.1.1
  have pk := g.pk
  have w8 := pk.1
  have r6 := pk.2.1
  have s4 := pk.2.2.1
  have kf : (vSg P s && vPl P x y) = false → K (some (.int (-1))) σ := fun e => by
    have k := hK σ Cm.rf
    rw [e] at k
    exact k h0
  refine tX10_cut (m_isSign g (ri ?_))
  rw [bI_0]
  refine ⟨fun q => kf (by rw [q, Bool.false_and]), fun q => m_isPlace g (ri ?_)⟩
  rw [bI_0]
  simp only [Bool.not_eq_false] at q
  refine ⟨fun q2 => ?_, fun q2 => kf (by rw [q2, Bool.and_false])⟩
  simp only [Bool.not_eq_false] at q2
  rw [q, q2, Bool.and_self] at hK
  obtain ⟨S, rfl, hS⟩ := vSg_nat q
  obtain ⟨X, Y, rfl, rfl, hX, hY⟩ := vPl_nat q2
  rw [nI_clamp (by omega), nI_clamp (by omega), nI_clamp (by omega)] at hK
  simp only [if_true] at hK
  refine m_cop h (fun τ1 d1 g1 r1 e1 _ => rv (m_finesBy g1 r1 hS (fun τ2 d2 => ri ?_)))
  have g2 := g1.dm d2 (fun b hb => by simp at hb; omega) (by simp)
  have r2 := r1.dm d2 (by simp) (by omega)
  refine m_cuts9 g2.1 r2 hS (by omega) (by omega) (fun τ3 d3 r3 => rv ?_)
  rw [show (96 : Int32) + nI S = nI (96 + S) by simp (disch := omega) only [nL, nI_add, pk_mul, pk_sub, nI_clamp, nI_leI, nI_ltI, nI_eq], nI_clamp (n := 96 + S) (by omega)]
  have v6 : vp_in (nI (96 + S)) 106 := vp_in_nI (by omega) (by omega)
  have v7 : vp_in (105 : Int32) 106 := vp_in_nI (n := 105) (by omega) (by omega)
  have wk := (ct9_ok (s := S) ok.2.1.1 (x := X) (y := Y) (by omega) (by omega) 9 (by omega)).2
  refine ⟨v6, v6, fun s4' e4 => ⟨v7, v7, fun s5 e5 => ?_⟩⟩
  rw [r3 _ (by omega), wk _ (by omega), nI_1] at e4
  have r4 : MR s4' 322 (upL (ct9 P S X Y L 9) (96 + S) (L (96 + S) + 1)) := by
    rw [e4]
    exact r3.set
  rw [show Int32.toNatClampNeg 105 = 105 from rfl, r4 _ (by omega), show upL (ct9 P S X Y L 9) (96 + S) (L (96 + S) + 1) 105 = L 105 from by
    unfold upL
    rw [if_neg (by omega), wk _ (by omega)], (fnN_eq P L S X Y).1, nI_add] at e5
  have r5 : MR s5 322 (cutL P L S X Y) := by
    rw [e5]
    exact r4.set
  have dd : DM scR scF σ s5 := by
    rw [e5, e4]
    exact (((d1.sk d2 (by simp [scR]) (by simp [scF])).sk d3 (by simp [scR]) (by simp)).wI (by simp [scR]) (by omega)).wI (by simp [scR]) (by omega)
  refine m_keeps (h.sc dd) r5 (fun τ6 c6 h6 => rv ?_)
  rw [(fnN_eq P L S X Y).1]
  exact hK τ6 (dd.scm.tr c6) ⟨v, h6⟩
theorem r_graze {x y : Int32} (h : MS σ T f P L H O D)
    (hK : ∀ τ, Cm σ τ → MS τ T f P (if vGr P x y then upL L (8 * y.toNatClampNeg + x.toNatClampNeg) 0 else L) (if vGr P x y then kp L H else H) O D → K (some (.int (if vC P x y then (if grass P x.toNatClampNeg y.toNatClampNeg then nI (L (8 * y.toNatClampNeg + x.toNatClampNeg)) else -2) else -1))) τ) : C2 Γ l mX10_graze [.ref 284, .int x, .int y] σ K := by
  have h0 := h
  obtain ⟨v, h⟩ := h
  have g := h.1.1
  have pk := g.pk
  have w8 := pk.1
  have r6 := pk.2.1
  refine tX10_graze (m_isCell g (ri ?_))
  rw [bI_0]
  refine ⟨fun q => ?_, fun q => ?_⟩
  · simp only [Bool.not_eq_false] at q
    obtain ⟨X, Y, rfl, rfl, hX, hY⟩ := vC_nat q
    have hq := q
    rw [vGr, q, Bool.true_and, nI_clamp (by omega), nI_clamp (by omega)] at hK
    refine m_isGrass g hX hY (ri ?_)
    rw [bI_0]
    refine ⟨fun z => ?_, fun z => ?_⟩
    · simp only [Bool.not_eq_false] at z
      rw [z] at hK
      simp only [if_true] at hK
      have v6 : vp_in (nI (8 * Y + X)) 106 := vp_in_nI (by omega) (by omega)
      refine m_cop h (fun τ1 d1 g1 r1 e1 _ => rv ?_)
      rw [m_ix8, nI_clamp (by omega), r1 _ (by omega)]
      refine ⟨v6, v6, fun s7 e7 => ?_⟩
      have r7 : MR s7 322 (upL L (8 * Y + X) 0) := by
        rw [e7]
        exact r1.set
      have dd : DM scR scF σ s7 := by
        rw [e7]
        exact d1.wI (by simp [scR]) (by omega)
      exact m_keeps (h.sc dd) r7 (fun τ6 c6 h6 => rv (hK τ6 (dd.scm.tr c6) ⟨v, h6⟩))
    · have k := hK σ Cm.rf
      rw [z] at k
      exact k h0
  · have k := hK σ Cm.rf
    rw [vGr, q, Bool.false_and] at k
    exact k h0
theorem r_nourish {x y : Int32} (h : MS σ T f P L H O D) (ok : OKS T P L H O D W)
    (hK : ∀ τ, Cm σ τ → MS τ T f P (if vGr P x y then fdL P L x.toNatClampNeg y.toNatClampNeg else L) (if vGr P x y then kp L H else H) O D → K (some (.int (if vC P x y then (if grass P x.toNatClampNeg y.toNatClampNeg then nI (fdL P L x.toNatClampNeg y.toNatClampNeg (48 + (8 * y.toNatClampNeg + x.toNatClampNeg))) else -2) else -1))) τ) : C2 Γ l mX10_nourish [.ref 284, .int x, .int y] σ K := by
  have h0 := h
  obtain ⟨v, h⟩ := h
  have g := h.1.1
  have pk := g.pk
  have w8 := pk.1
  have r6 := pk.2.1
  refine tX10_nourish (m_isCell g (ri ?_))
  rw [bI_0]
  refine ⟨fun q => ?_, fun q => ?_⟩
  · simp only [Bool.not_eq_false] at q
    obtain ⟨X, Y, rfl, rfl, hX, hY⟩ := vC_nat q
    rw [vGr, q, Bool.true_and, nI_clamp (by omega), nI_clamp (by omega)] at hK
    refine m_isGrass g hX hY (ri ?_)
    rw [bI_0]
    refine ⟨fun z => ?_, fun z => ?_⟩
    · simp only [Bool.not_eq_false] at z
      rw [z] at hK
      simp only [if_true] at hK
      refine m_cop h (fun τ1 d1 g1 r1 e1 _ => rv (m_feedsCell g1 r1 ok.2.1.1 hX hY (fun τ2 d2 r2 => rv ?_)))
      have dd : DM scR scF σ τ2 := d1.sk d2 (by simp [scR]) (by simp [scF])
      refine m_keeps (h.sc dd) r2 (fun τ6 c6 h6 => rv ?_)
      rw [m_ix56, nI_clamp (by omega), h6.2.1 _ (by omega)]
      exact ⟨vp_in_nI (by omega) (by omega), hK τ6 (dd.scm.tr c6) ⟨v, h6⟩⟩
    · have k := hK σ Cm.rf
      rw [z] at k
      exact k h0
  · have k := hK σ Cm.rf
    rw [vGr, q, Bool.false_and] at k
    exact k h0
theorem r_mow {t : Int32} (h : MS σ T f P L H O D) (ok : OKS T P L H O D W)
    (hK : ∀ τ, Cm σ τ → MS τ T f P (if vIn t 99 then mwL L t.toNatClampNeg else L) (if vIn t 99 then kp L H else H) O D → K (some (.int (if vIn t 99 then nI (cn (fun k => decide (t.toNatClampNeg < L k)) 48) else -1))) τ) : C2 Γ l mX10_mow [.ref 284, .int t] σ K := by
  have h0 := h
  obtain ⟨v, h⟩ := h
  refine tX10_mow (m_in (n := 99) (by omega) (ri ?_))
  rw [bI_0]
  refine ⟨fun q => ?_, fun q => ?_⟩
  · simp only [Bool.not_eq_false] at q
    rw [q] at hK
    obtain ⟨X, rfl, hX⟩ := vIn_nat q
    rw [nI_clamp (by omega)] at hK
    refine m_cop h (fun τ1 d1 g1 r1 e1 _ => rv (m_mowsTo r1 ok.2.1.1 (by omega) (fun τ2 d2 r2 => ri ?_)))
    have dd : DM scR scF σ τ2 := d1.sk d2 (by simp [scR]) (by simp)
    exact m_keeps (h.sc dd) r2 (fun τ6 c6 h6 => rv (hK τ6 (dd.scm.tr c6) ⟨v, h6⟩))
  · have k := hK σ Cm.rf
    rw [q] at k
    exact k h0
theorem r_weeks {n : Int32} (h : MS σ T f P L H O D) (ok : OKS T P L H O D W)
    (hK : ∀ τ, Cm σ τ → MS τ T f P (if vIn n 60 then lvN P n.toNatClampNeg L else L) (if vIn n 60 && decide (0 < n.toNatClampNeg) then kp L H else H) O D → K (some (.int (if vIn n 60 then nI (lvN P n.toNatClampNeg L 104) else -1))) τ) : C2 Γ l mX10_weeks [.ref 284, .int n] σ K := by
  have h0 := h
  obtain ⟨v, h⟩ := h
  have o1 := ok.1
  have o2 := ok.2.1.2
  have v6 : vp_in (104 : Int32) 106 := vp_in_nI (n := 104) (by omega) (by omega)
  refine tX10_weeks (m_in (n := 60) (by omega) (ri ?_))
  rw [bI_0]
  refine ⟨fun q => ?_, fun q => ?_⟩
  · simp only [Bool.not_eq_false] at q
    rw [q] at hK
    obtain ⟨X, rfl, hX⟩ := vIn_nat q
    rw [nI_clamp (by omega)] at hK
    simp only [if_true, Bool.true_and] at hK
    rw [show (0 : Int32) = nI 0 from rfl, nI_eq (by omega) (by omega)]
    refine ⟨fun e => ?_, fun e => ⟨v6, ?_⟩⟩
    · rw [decide_eq_true (by omega)] at hK
      refine m_cop h (fun τ1 d1 g1 r1 e1 _ => rv (m_goes g1 r1 ok.2.1.1 e1 (by omega) (fun τ2 d2 r2 => rv ?_)))
      have dd := d1.sk d2 wg_R f53
      refine m_keeps (h.sc dd) r2 (fun τ6 c6 h6 => rv ⟨v6, ?_⟩)
      rw [show Int32.toNatClampNeg 104 = 104 from rfl, h6.2.1 _ (by omega)]
      exact hK τ6 (dd.scm.tr c6) ⟨v, h6⟩
    · rw [decide_eq_false (by omega)] at hK
      subst e
      rw [show Int32.toNatClampNeg 104 = 104 from rfl, h.2.1 _ (by omega)]
      exact hK σ Cm.rf h0
  · have k := hK σ Cm.rf
    rw [q] at k
    exact k h0
theorem r_undo (h : MS σ T f P L H O D) (hK : ∀ τ, Cm σ τ → MS τ T f P (H.headD L) H.tail O D → K (some (.int (bI (decide (H ≠ []))))) τ) : C2 Γ l mX10_undo [.ref 284] σ K := by
  have h0 := h
  obtain ⟨v, h⟩ := h
  have hh := h.2.2.2.1
  match H, h0, h, hK, hh with
  | [], h0, h, hK, hh =>
    refine tX10_undo ⟨fun q => absurd hh.2.1 q, fun _ => hK σ Cm.rf h0⟩
  | M :: H, h0, h, hK, hh =>
    have hl := hh.1
    rw [List.length_cons] at hl
    have e59 := hh.2.1
    rw [List.length_cons] at e59
    refine tX10_undo ⟨fun _ s1 e1 => ?_, fun q => absurd q ?_⟩
    · rw [e59, nI_pred] at e1
      have d1 : DM [321] [59] σ s1 := by
        rw [e1]
        exact DM.rf.wF (by simp)
      have e59' : s1.1 284 59 = nI H.length := by rw [e1, sI_at, if_pos ⟨rfl, rfl⟩]
      have key : ∀ n k τ, n + k = 106 → DM [321] [] s1 τ → (∀ j, j < k → τ.1 321 j = nI (M j)) → wX10_undo_21 Γ l (nI k) τ K := by
        intro n
        induction n with
        | zero =>
          intro k τ h1 d a
          have : k = 106 := by omega
          subst this
          refine tX10_undo_21 ⟨fun _ => ?_, fun q => absurd (by decide) q⟩
          have dd : DM [321] [59] σ τ := d1.tr d (by simp) (by simp)
          refine hK τ (dd.cm (fun b hb => by simp at hb; omega)) ⟨v, h.up dd (fun b hb => by simp at hb; omega) (by simp) (by simp) a (h.2.2.1.dm dd (by simp) (by simp)) ⟨by show H.length ≤ 30; omega, (d.2.1 59 (by simp)).trans e59', fun j hj k hk => ?_⟩ (h.2.2.2.2.1.dm dd (by simp) (by simp)) (h.2.2.2.2.2.1.dm dd (by simp) (by simp) (by simp))⟩
          rw [dd.r 325 (by simp) (by omega)]
          have hj' : j < H.length := hj
          have := hh.2.2 (j + 1) (by rw [List.length_cons]; omega) k hk
          rw [show (M :: H).length - 1 - (j + 1) = H.length - 1 - j by rw [List.length_cons]; omega] at this
          exact this
        | succ n ih =>
          intro k τ h1 d a
          refine tX10_undo_21 ⟨fun q => absurd q (by simp (disch := omega) only [nL, nI_add, pk_mul, pk_sub, nI_clamp, nI_leI, nI_ltI, nI_eq]; omega), fun _ => ?_⟩
          rw [(d.2.1 59 (by simp)).trans e59', show (106 : Int32) * nI H.length + nI k = nI (106 * H.length + k) by simp (disch := omega) only [nL, nI_add, pk_mul, pk_sub, nI_clamp, nI_leI, nI_ltI, nI_eq], nI_clamp (n := 106 * H.length + k) (by omega), nI_clamp (n := k) (by omega), nI_1]
          have e25 : τ.1 325 (106 * H.length + k) = nI (M k) := by
            rw [d.r 325 (by simp) (by omega), d1.r 325 (by simp) (by omega)]
            have := hh.2.2 0 (by rw [List.length_cons]; omega) k (by omega)
            rw [show (M :: H).length - 1 - 0 = H.length by rw [List.length_cons]; omega] at this
            exact this
          rw [e25]
          refine ⟨vp_in_nI (by omega) (by omega), vp_in_nI (by omega) (by omega), fun s4 e4 => ?_⟩
          rw [e4]
          refine ih (k + 1) _ (by omega) (d.wI (by simp) (by omega)) (fun j hj => ?_)
          rw [sI_at]
          by_cases e : j = k
          · rw [if_pos ⟨rfl, e⟩, e]
          · rw [if_neg (fun z => e z.2)]
            exact a j (by omega)
      exact key 106 0 s1 rfl DM.rf (fun j hj => absurd hj (by omega))
    · rw [e59, show (0 : Int32) = nI 0 from rfl, nI_eq (by omega) (by omega)]
      omega
theorem r_hold {s : Int32} (h : MS σ T f P L H O D) (hK : ∀ τ, Cm σ τ → MS τ T f P L H (if vIn s 2 then putO O s.toNatClampNeg L else O) D → K (some (.int (bI (vIn s 2)))) τ) : C2 Γ l mX10_hold [.ref 284, .int s] σ K := by
  have h0 := h
  obtain ⟨v, h⟩ := h
  refine tX10_hold (m_in (n := 2) (by omega) (ri ?_))
  rw [bI_0]
  refine ⟨fun q => ?_, fun q => ?_⟩
  · simp only [Bool.not_eq_false] at q
    rw [q] at hK
    obtain ⟨X, rfl, hX⟩ := vIn_nat q
    rw [nI_clamp (by omega)] at hK
    refine ⟨vp_in_nI (by omega) (by omega), fun s3 e3 => ?_⟩
    rw [nI_clamp (by omega), nar_b1] at e3
    have key : ∀ n k τ, n + k = 106 → DM [332] [] s3 τ → (∀ i, i < 318 → τ.1 332 i = if 106 * X ≤ i ∧ i < 106 * X + k then nI (L (i - 106 * X)) else σ.1 332 i) → wX10_hold_20 Γ l (nI X) (nI k) τ K := by
      intro n
      induction n with
      | zero =>
        intro k τ h1 d a
        have : k = 106 := by omega
        subst this
        refine tX10_hold_20 ⟨fun _ => ?_, fun q => absurd (by decide) q⟩
        have dd : DM [331, 332] [] σ τ := (show DM [331, 332] [] σ s3 by rw [e3]; exact DM.rf.wI (by simp) (by omega)).tr d (by simp) (by simp)
        refine hK τ (dd.cm (fun b hb => by simp at hb; omega)) ⟨v, h.up dd (fun b hb => by simp at hb; omega) (by simp) (by simp) (h.2.1.dm dd (by simp) (by omega)) (h.2.2.1.dm dd (by simp) (by simp)) (h.2.2.2.1.dm dd (by simp) (by simp)) (fun t ht => ⟨?_, fun N hN k hk => ?_⟩) (h.2.2.2.2.2.1.dm dd (by simp) (by simp) (by simp))⟩
        · rw [d.r 331 (by simp) (by omega), e3, sI_at, if_pos (rfl : true = true), putO]
          by_cases e : t = X
          · rw [if_pos ⟨rfl, e⟩, if_pos e]
            rfl
          · rw [if_neg (fun z => e z.2), if_neg e]
            exact (h.2.2.2.2.1 t ht).1
        · simp only [if_true, putO] at hN
          rw [a _ (by omega)]
          by_cases e : t = X
          · rw [if_pos e] at hN
            rw [if_pos (by rw [e]; omega), e, show 106 * X + k - 106 * X = k by omega]
            injection hN with hN
            rw [hN]
          · rw [if_neg e] at hN
            rw [if_neg (by omega)]
            exact (h.2.2.2.2.1 t ht).2 N hN k hk
      | succ n ih =>
        intro k τ h1 d a
        refine tX10_hold_20 ⟨fun q => absurd q (by simp (disch := omega) only [nL, nI_add, pk_mul, pk_sub, nI_clamp, nI_leI, nI_ltI, nI_eq]; omega), fun _ => ?_⟩
        have e21 : τ.1 321 k = nI (L k) := by
          rw [d.r 321 (by simp) (by omega), e3, sI_row, sA_off2 _ _ (by omega)]
          exact h.2.1 k (by omega)
        rw [show (106 : Int32) * nI X + nI k = nI (106 * X + k) by simp (disch := omega) only [nL, nI_add, pk_mul, pk_sub, nI_clamp, nI_leI, nI_ltI, nI_eq], nI_clamp (n := 106 * X + k) (by omega), nI_clamp (n := k) (by omega), e21, nI_1]
        refine ⟨vp_in_nI (by omega) (by omega), vp_in_nI (by omega) (by omega), fun s4 e4 => ?_⟩
        rw [e4]
        refine ih (k + 1) _ (by omega) (d.wI (by simp) (by omega)) (fun i hi => ?_)
        rw [sI_at]
        by_cases e : i = 106 * X + k
        · rw [if_pos ⟨rfl, e⟩, if_pos (by omega), e, show 106 * X + k - 106 * X = k by omega]
        · rw [if_neg (fun z => e z.2), a i hi]
          by_cases e2 : 106 * X ≤ i ∧ i < 106 * X + k
          · rw [if_pos e2, if_pos (by omega)]
          · rw [if_neg e2, if_neg (by omega)]
    exact key 106 0 s3 rfl DM.rf (fun i hi => by
      rw [if_neg (by omega), e3, sI_row, sA_off2 _ _ (by omega)])
  · have k := hK σ Cm.rf
    rw [q] at k
    exact k h0
theorem r_restore {s : Int32} (h : MS σ T f P L H O D) (hK : ∀ τ, Cm σ τ → MS τ T f P (if canR O s then (O s.toNatClampNeg).getD L else L) (if canR O s then [] else H) O D → K (some (.int (bI (canR O s)))) τ) : C2 Γ l mX10_restore [.ref 284, .int s] σ K := by
  have h0 := h
  obtain ⟨v, h⟩ := h
  have kf : canR O s = false → K (some (.int 0)) σ := fun e => by
    have k := hK σ Cm.rf
    rw [e] at k
    exact k h0
  refine tX10_restore (m_in (n := 2) (by omega) (ri ?_))
  rw [bI_0]
  refine ⟨fun q => kf (by rw [canR, q, Bool.false_and]), fun q => ?_⟩
  simp only [Bool.not_eq_false] at q
  obtain ⟨X, rfl, hX⟩ := vIn_nat q
  have ho := h.2.2.2.2.1 X (by omega)
  have ec : canR O (nI X) = (O X).isSome := by rw [canR, q, Bool.true_and, nI_clamp (by omega)]
  rw [nI_clamp (by omega), ho.1, bI_0, ← ec]
  refine ⟨vp_in_nI (by omega) (by omega), fun z => ?_, fun z => kf z⟩
  simp only [Bool.not_eq_false] at z
  rw [z, nI_clamp (by omega)] at hK
  rw [ec] at z
  obtain ⟨M, hM⟩ := Option.isSome_iff_exists.mp z
  rw [hM] at hK
  simp only [if_true, Option.getD_some] at hK
  have key : ∀ n k τ, n + k = 106 → DM [321] [] σ τ → (∀ j, j < k → τ.1 321 j = nI (M j)) → wX10_restore_22 Γ l (nI X) (nI k) τ K := by
    intro n
    induction n with
    | zero =>
      intro k τ h1 d a
      have : k = 106 := by omega
      subst this
      refine tX10_restore_22 ⟨fun _ s1 e1 => ?_, fun q => absurd (by decide) q⟩
      have dd : DM [321] [59] σ s1 := by
        rw [e1]
        exact (d.mo (by simp) (by simp)).wF (by simp)
      refine hK s1 (dd.cm (fun b hb => by simp at hb; omega)) ⟨v, h.up dd (fun b hb => by simp at hb; omega) (by simp) (by simp) (fun j hj => ?_) (h.2.2.1.dm dd (by simp) (by simp)) ⟨by simp, ?_, fun j hj => absurd hj (by simp)⟩ (h.2.2.2.2.1.dm dd (by simp) (by simp)) (h.2.2.2.2.2.1.dm dd (by simp) (by simp) (by simp))⟩
      · rw [e1, sI_row, sA_off2 _ _ (by omega)]
        exact a j hj
      · rw [e1, sI_at, if_pos ⟨rfl, rfl⟩]
        rfl
    | succ n ih =>
      intro k τ h1 d a
      refine tX10_restore_22 ⟨fun q => absurd q (by simp (disch := omega) only [nL, nI_add, pk_mul, pk_sub, nI_clamp, nI_leI, nI_ltI, nI_eq]; omega), fun _ => ?_⟩
      rw [show (106 : Int32) * nI X + nI k = nI (106 * X + k) by simp (disch := omega) only [nL, nI_add, pk_mul, pk_sub, nI_clamp, nI_leI, nI_ltI, nI_eq], nI_clamp (n := 106 * X + k) (by omega), nI_clamp (n := k) (by omega), d.r 332 (by simp) (by omega), ho.2 M hM k (by omega), nI_1]
      refine ⟨vp_in_nI (by omega) (by omega), vp_in_nI (by omega) (by omega), fun s4 e4 => ?_⟩
      rw [e4]
      refine ih (k + 1) _ (by omega) (d.wI (by simp) (by omega)) (fun j hj => ?_)
      rw [sI_at]
      by_cases e : j = k
      · rw [if_pos ⟨rfl, e⟩, e]
      · rw [if_neg (fun z => e z.2)]
        exact a j (by omega)
  exact key 106 0 σ rfl DM.rf (fun j hj => absurd hj (by omega))
theorem r_tell {x y h : Int32} (hx : MS σ T f P L H O D)
    (hK : ∀ τ, Cm σ τ → MS τ T f P L H O (if vTl P D x y h then D ++ [(x.toNatClampNeg, y.toNatClampNeg, h.toNatClampNeg)] else D) → K (some (.int (if vTl P D x y h then nI D.length else -1))) τ) : C2 Γ l mX10_tell [.ref 284, .int x, .int y, .int h] σ K := by
  have h0 := hx
  obtain ⟨v, hx⟩ := hx
  have g := hx.1.1
  have pk := g.pk
  have w8 := pk.1
  have r6 := pk.2.1
  have kf : vTl P D x y h = false → K (some (.int (-1))) σ := fun e => by
    have k := hK σ Cm.rf
    rw [e] at k
    exact k h0
  obtain ⟨t1, t2, t3⟩ := hx.2.2.2.2.2.1
  have e20 : (σ.1 284 61 = 20) ↔ D.length = 20 := by
    rw [t2, show (20 : Int32) = nI 20 from rfl, nI_eq (by omega) (by omega)]
  refine tX10_tell ?_
  rw [e20]
  refine ⟨fun q => kf (by rw [vTl, decide_eq_false (by omega), Bool.and_false]), fun q => m_isCell g (ri ?_)⟩
  rw [bI_0]
  refine ⟨fun q2 => kf (by rw [vTl, q2, Bool.false_and, Bool.false_and]), fun q2 => m_in (n := 99) (by omega) (ri ?_)⟩
  rw [bI_0]
  refine ⟨fun q3 => ?_, fun q3 => kf (by rw [vTl, q3, Bool.and_false, Bool.false_and])⟩
  simp only [Bool.not_eq_false] at q2 q3
  have vt : vTl P D x y h = true := by
    rw [vTl, q2, q3, decide_eq_true (by omega)]
    rfl
  rw [vt] at hK
  simp only [if_true] at hK
  obtain ⟨X, Y, rfl, rfl, hX, hY⟩ := vC_nat q2
  obtain ⟨N, rfl, hN⟩ := vIn_nat q3
  rw [nI_clamp (by omega), nI_clamp (by omega), nI_clamp (by omega)] at hK
  rw [t2]
  refine ⟨vp_in_nI (by omega) (by omega), fun s5 e5 => ?_⟩
  rw [m_ix8, nI_clamp (by omega)] at e5
  have e61 : s5.1 284 61 = nI D.length := by
    rw [e5, sI_row, sA_off2 _ _ (by omega), t2]
  rw [e61]
  refine ⟨vp_in_nI (by omega) (by omega), fun s6 e6 s7 e7 => ?_⟩
  rw [nI_clamp (by omega)] at e6
  have e61' : s6.1 284 61 = nI D.length := by
    rw [e6, sI_row, sA_off2 _ _ (by omega), e61]
  rw [e61', nI_1] at e7
  have dd : DM [326, 327] [61] σ s7 := by
    rw [e7, e6, e5]
    exact ((DM.rf.wI (by simp) (by omega)).wI (by simp) (by omega)).wF (by simp)
  have e71 : s7.1 284 61 = nI (D.length + 1) := by rw [e7, sI_at, if_pos ⟨rfl, rfl⟩]
  rw [e71, nI_pred]
  refine hK s7 (dd.cm (fun b hb => by simp at hb; omega)) ⟨v, hx.up dd (fun b hb => by simp at hb; omega) (by simp) (by simp) (hx.2.1.dm dd (by simp) (by omega)) (hx.2.2.1.dm dd (by simp) (by simp)) (hx.2.2.2.1.dm dd (by simp) (by simp)) (hx.2.2.2.2.1.dm dd (by simp) (by simp)) ⟨by rw [List.length_append, List.length_singleton]; omega, by rw [e71, List.length_append, List.length_singleton], fun i hi => ?_⟩⟩
  rw [List.length_append, List.length_singleton] at hi
  have f6 : s7.1 326 i = if i = D.length then nI (8 * Y + X) else σ.1 326 i := by
    rw [e7, sI_row, sA_off2 _ _ (by omega), e6, sI_row, sA_off2 _ _ (by omega), e5, sI_at]
    by_cases e : i = D.length
    · rw [if_pos ⟨rfl, e⟩, if_pos e]
    · rw [if_neg (fun z => e z.2), if_neg e]
  have f7 : s7.1 327 i = if i = D.length then nI N else σ.1 327 i := by
    rw [e7, sI_row, sA_off2 _ _ (by omega), e6, sI_at]
    by_cases e : i = D.length
    · rw [if_pos ⟨rfl, e⟩, if_pos e]
    · rw [if_neg (fun z => e z.2), if_neg e, e5, sI_row, sA_off2 _ _ (by omega)]
  rw [f6, f7]
  by_cases e : i = D.length
  · subst e
    rw [if_pos rfl, if_pos rfl, List.getElem_append_right (by omega)]
    simp
  · rw [if_neg e, if_neg e, List.getElem_append_left (by omega)]
    exact t3 i (by omega)
theorem r_forget (h : MS σ T f P L H O D) (hK : ∀ τ, Cm σ τ → MS τ T f P L H O [] → K (some (.int (nI D.length))) τ) : C2 Γ l mX10_forget [.ref 284] σ K := by
  obtain ⟨v, h⟩ := h
  refine tX10_forget (fun s1 e1 => ?_)
  rw [h.2.2.2.2.2.1.2.1]
  have dd : DM [] [61] σ s1 := by
    rw [e1]
    exact DM.rf.wF (by simp)
  refine hK s1 (dd.cm (fun b hb => absurd hb (by simp))) ⟨v, h.up dd (fun b hb => absurd hb (by simp)) (by simp) (by simp) (h.2.1.dm dd (by simp) (by omega)) (h.2.2.1.dm dd (by simp) (by simp)) (h.2.2.2.1.dm dd (by simp) (by simp)) (h.2.2.2.2.1.dm dd (by simp) (by simp)) ⟨by simp, ?_, fun i hi => absurd hi (by simp)⟩⟩
  rw [e1, sI_at, if_pos ⟨rfl, rfl⟩]
  rfl
theorem MSv.tp {T' : List Nat} (h : MSv σ v T f P L H O D) (d : DM [285] [2] σ τ) (t : MT τ T') : MSv τ v T' f P L H O D :=
  h.up d (fun b hb => by simp at hb; omega) (by simp) (by simp) (h.2.1.dm d (by simp) (by omega)) t (h.2.2.2.1.dm d (by simp) (by simp)) (h.2.2.2.2.1.dm d (by simp) (by simp)) (h.2.2.2.2.2.1.dm d (by simp) (by simp) (by simp))
theorem r_back {n : Int32} (h : MS σ T f P L H O D) (hK : ∀ τ, Cm σ τ → MS τ (if vIn n T.length then T.take (T.length - n.toNatClampNeg) else T) f P L H O D → K (some (.int (if vIn n T.length then nI (T.length - n.toNatClampNeg) else -1))) τ) : C2 Γ l mX10_back [.ref 284, .int n] σ K := by
  have h0 := h
  obtain ⟨v, h⟩ := h
  obtain ⟨t1, t2, t3⟩ := h.2.2.1
  have kf : vIn n T.length = false → K (some (.int (-1))) σ := fun e => by
    have k := hK σ Cm.rf
    rw [e] at k
    exact k h0
  refine tX10_back ⟨fun q => kf (vIn_n q), fun q => ⟨fun r s1 e1 => ?_, fun r => kf ?_⟩⟩
  · rw [t2] at r
    have w := vIn_t q r (by omega)
    rw [w] at hK
    obtain ⟨N, rfl, hN⟩ := vIn_nat w
    rw [nI_clamp (by omega)] at hK
    simp only [if_true] at hK
    rw [t2, pk_sub hN] at e1
    have g1 : s1.1 284 2 = nI (T.length - N) := by rw [e1, sI_at, if_pos ⟨rfl, rfl⟩]
    rw [g1]
    have d : DM [285] [2] σ s1 := by rw [e1]; exact DM.rf.wF (by simp)
    refine hK s1 (d.cm (fun b hb => by simp at hb; omega)) ⟨v, h.tp d ⟨?_, ?_, fun i hi => ?_⟩⟩
    · simp
      omega
    · rw [g1]
      simp
    · simp at hi
      rw [e1, sI_row, sA_off2 _ _ (by omega), t3 i (by omega)]
      simp
  · rw [t2] at r
    exact vIn_f r (by omega)
theorem m_put {x : Int32} (h : MSv σ v T f P L H O D) (hT : T.length + 4 ≤ 2000) (hK : ∀ τ, Cm σ τ → MSv τ v (T ++ by4 x) f P L H O D → K none τ) : C2 Γ l mX10_put [.ref 284, .int x] σ K := by
  have st : ∀ (k : Nat) (c : Int32) (T : List Nat) (σ : SS) (K : Option Value → SS → Prop), c &&& 31 = Int32.ofNat k → k + 8 ≤ 32 → ¬ c < 0 → T.length < 2000 → MSv σ v T f P L H O D → (∀ τ, Cm σ τ → MSv τ v (T ++ [byt x k]) f P L H O D → wX10_put_3 Γ l x (c + (-8)) τ K) → wX10_put_3 Γ l x c σ K := by
    intro k c T σ K hc hk c0 hT h hK
    obtain ⟨t1, t2, t3⟩ := h.2.2.1
    refine tX10_put_3 ⟨fun q => absurd q c0, fun _ => ⟨?_, fun s1 e1 s2 e2 => ?_⟩⟩
    · rw [t2]
      exact vp_in_nI hT (by omega)
    · rw [t2, nI_clamp (by omega)] at e1
      have g1 : s1.1 284 2 = nI T.length := by rw [e1, sI_at, if_neg (by omega), t2]
      rw [g1, nI_1] at e2
      have d : DM [285] [2] σ s2 := by rw [e2, e1]; exact (DM.rf.wI (by simp) (by omega)).wF (by simp)
      refine hK s2 (d.cm (fun b hb => by simp at hb; omega)) (h.tp d ⟨?_, ?_, fun i hi => ?_⟩)
      · simp
        omega
      · rw [e2, sI_at, if_pos ⟨rfl, rfl⟩]
        simp
      · simp only [List.length_append, List.length_cons, List.length_nil] at hi
        rw [e2, sI_at, if_neg (by omega), e1, sI_at]
        by_cases hi2 : i = T.length
        · subst hi2
          rw [if_pos ⟨rfl, rfl⟩, List.getElem_append_right (by omega), byt_m x c k hc hk]
          simp
        · rw [if_neg (by omega), List.getElem_append_left (by omega)]
          exact t3 i (by omega)
  refine tX10_put (st 24 24 T σ K (by decide) (by omega) (by decide) (by omega) h (fun τ1 c1 h1 => ?_))
  refine st 16 (24 + (-8)) _ τ1 K (by decide) (by omega) (by decide) (by simp; omega) h1 (fun τ2 c2 h2 => ?_)
  refine st 8 (24 + (-8) + (-8)) _ τ2 K (by decide) (by omega) (by decide) (by simp; omega) h2 (fun τ3 c3 h3 => ?_)
  refine st 0 (24 + (-8) + (-8) + (-8)) _ τ3 K (by decide) (by omega) (by decide) (by simp; omega) h3 (fun τ4 c4 h4 => ?_)
  refine tX10_put_3 ⟨fun _ => hK τ4 (((c1.tr c2).tr c3).tr c4) ?_, fun q => absurd (by decide) q⟩
  simpa [by4] using h4
theorem r_feed {a b c d e : Int32} (h : MS σ T f P L H O D) (hK : ∀ τ, Cm σ τ → MS τ (if T.length + 20 ≤ 2000 then T ++ fed a b c d e else T) f P L H O D → K (some (.int (if T.length + 20 ≤ 2000 then nI (T.length + 20) else -1))) τ) : C2 Γ l mX10_feed [.ref 284, .int a, .int b, .int c, .int d, .int e] σ K := by
  have h0 := h
  obtain ⟨v, h⟩ := h
  obtain ⟨t1, t2, t3⟩ := h.2.2.1
  refine tX10_feed ?_
  rw [t2, show nI T.length + 20 = nI (T.length + 20) from nI_add _ 20, show (2000 : Int32) = nI 2000 from rfl, nI_leI (by omega) (by omega)]
  have l4 : ∀ x, (by4 x).length = 4 := fun x => rfl
  refine ⟨fun q => ?_, fun q => ?_⟩
  · rw [if_pos q, if_pos q] at hK
    refine m_put h (by omega) (fun τ1 c1 h1 => rv ?_)
    refine m_put h1 (by simp [l4]; omega) (fun τ2 c2 h2 => rv ?_)
    refine m_put h2 (by simp [l4]; omega) (fun τ3 c3 h3 => rv ?_)
    refine m_put h3 (by simp [l4]; omega) (fun τ4 c4 h4 => rv ?_)
    refine m_put h4 (by simp [l4]; omega) (fun τ5 c5 h5 => rv ?_)
    have k := hK τ5 ((((c1.tr c2).tr c3).tr c4).tr c5) ⟨v, by simpa [fed] using h5⟩
    rw [h5.2.2.1.2.1]
    simp only [List.length_append, l4]
    exact k
  · rw [if_neg q, if_neg q] at hK
    exact hK σ Cm.rf h0
end MB
