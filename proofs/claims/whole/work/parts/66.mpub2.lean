/-! the model: best, gone, when, cuts, level, quiet, knows, then, year -/
theorem std_lo : ∀ a : Fin 100, ∀ b : Fin 100, ¬ (nI a.val - nI b.val ≤ -2000) := by decide +kernel
theorem std_gt {P : PV} {L : LV} {s x y : Nat} (ok : LVok P L) (hx : x + 2 < 8) (hy : y + 2 < 6) : ¬ stdS P L s x y ≤ -2000 := by
  have b1 := lstS_le P L s x y 9
  have b2 := mstS_le P (fun k h => (ok.1 k h).1) (s := s) hx hy 9 (by omega)
  unfold stdS
  by_cases e : readable P s = true
  · rw [if_pos e]
    exact std_lo ⟨lstS P L s x y 9, by omega⟩ ⟨mstS P L s x y 9, by omega⟩
  · rw [if_neg e]
    decide
def bR (P : PV) (y x : Nat) (b : Int32 × Nat × Nat) (a : Int32) : Prop := (a = -1 ∧ b = (-2000, 0, 0) ∧ (¬ (2 < pw P ∧ 2 < pr P) ∨ (y = 0 ∧ x = 0))) ∨ (a = nI (10 * b.2.2 + b.2.1) ∧ b.2.1 < 8 ∧ b.2.2 < 6 ∧ 2 < pw P ∧ 2 < pr P)
def bstM (P : PV) (w : Int32) (b : Int32 × Nat × Nat) : Int32 := if 2 < pw P ∧ 2 < pr P then bstA w b else -2000
theorem qtM_eq (P : PV) (L : LV) : qtM P L = !rdE P L := by
  unfold qtM
  congr 1
  rw [Bool.eq_iff_iff]
  unfold rdE rdQ rdW rdA
  simp only [List.any_eq_true, List.mem_range'_1]
  constructor
  · rintro ⟨w, hw, s, hs, q, hq, h⟩
    exact ⟨s, hs, q, hq, w, hw, h⟩
  · rintro ⟨s, hs, q, hq, w, hw, h⟩
    exact ⟨w, hw, s, hs, q, hq, h⟩
section M7
variable {Γ : GE} {l : Launch} {σ τ : SS} {K : Option Value → SS → Prop} {v : Nat} {T : List Nat} {f : Int32} {P : PV} {L : LV} {H : List LV} {O : Nat → Option LV} {D : List (Nat × Nat × Nat)} {W : Nat}
theorem DM.sk {S F : List Nat} {υ : SS} (d : DM scR scF σ τ) (e : DM S F τ υ) (h : ∀ b, b ∈ S → b ∈ scR) (h2 : ∀ b, b ∈ F → b ∈ scF) : DM scR scF σ υ := d.tr e h h2
theorem wk_R : ∀ b, b ∈ wkR → b ∈ scR := by simp [wkR, scR]
theorem wg_R : ∀ b, b ∈ wgR → b ∈ scR := by simp [wgR, scR]
theorem f53 : ∀ b, b ∈ [53] → b ∈ scF := by simp [scF]
theorem r_best_x {s y : Nat} {w : Int32} (g : MP σ v P) (r : MR σ 322 L) (ok : LVok P L) (hs : s < pns P) (hy : y < pr P - 2)
    (kk : ∀ b a, bR P (y + 1) 0 b a → K (some (.int (bstM P w (bstF (fun q => stdS P L s q.1 q.2) (remL (pw P - 2) (pr P - 2) (y + 1)) b)))) σ → wX10_best_35 Γ l (nI s) w b.1 a (nI (y + 1)) σ K) :
    ∀ m x b a, m + x = pw P - 2 → bR P y x b a → K (some (.int (bstM P w (bstF (fun q => stdS P L s q.1 q.2) (rowL (pw P - 2) y x ++ remL (pw P - 2) (pr P - 2) (y + 1)) b)))) σ → wX10_best_54 Γ l (nI s) w b.1 a (nI y) (nI x) σ K := by
  have pk := g.pk
  have w8 := pk.1
  have r6 := pk.2.1
  intro m
  induction m with
  | zero =>
    intro x b a g1 hb g3
    rw [rowL_nil (by omega), List.nil_append] at g3
    refine tX10_best_54 ⟨g.vv, fun q => by
      rw [nI_1]
      refine kk b a ?_ g3
      rcases hb with ⟨h1, h2, h3⟩ | h
      · exact Or.inl ⟨h1, h2, Or.inl (by omega)⟩
      · exact Or.inr h, fun q => absurd ?_ q⟩
    rw [g.eW]
    simp (disch := omega) only [nL, nI_add, pk_mul, pk_sub, nI_clamp, nI_leI, nI_ltI, nI_eq]
    omega
  | succ m ih =>
    intro x b a g1 hb g3
    rw [rowL_cons (by omega), List.cons_append, bstF] at g3
    refine tX10_best_54 ⟨g.vv, fun q => absurd q ?_, fun _ => ?_⟩
    · rw [g.eW]
      simp (disch := omega) only [nL, nI_add, pk_mul, pk_sub, nI_clamp, nI_leI, nI_ltI, nI_eq]
      omega
    · refine m_standsOut g r ok hs (by omega) (by omega) (ri ?_)
      rw [nI_1, show (10 : Int32) * nI y + nI x = nI (10 * y + x) by simp (disch := omega) only [nL, nI_add, pk_mul, pk_sub, nI_clamp, nI_leI, nI_ltI, nI_eq]]
      refine ⟨fun q => ?_, fun q => ?_⟩
      · rw [if_neg (Int32.not_le.mpr q)] at g3
        exact ih (x + 1) (stdS P L s x y, x, y) (nI (10 * y + x)) (by omega) (Or.inr ⟨rfl, by show x < 8; omega, by show y < 6; omega, by omega, by omega⟩) g3
      · rw [if_pos (Int32.not_lt.mp q)] at g3
        refine ih (x + 1) b a (by omega) ?_ g3
        rcases hb with ⟨h1, h2, h3⟩ | h
        · exfalso
          rw [h2] at q
          exact std_gt ok (show x + 2 < 8 by omega) (show y + 2 < 6 by omega) (Int32.not_lt.mp q)
        · exact Or.inr h
theorem r_best_y {s : Nat} {w : Int32} (g : MP σ v P) (r : MR σ 322 L) (ok : LVok P L) (hs : s < pns P) :
    ∀ m y b a, m + y = pr P - 2 → bR P y 0 b a → K (some (.int (bstM P w (bstF (fun q => stdS P L s q.1 q.2) (remL (pw P - 2) (pr P - 2) y) b)))) σ → wX10_best_35 Γ l (nI s) w b.1 a (nI y) σ K := by
  have pk := g.pk
  have w8 := pk.1
  have r6 := pk.2.1
  intro m
  induction m with
  | zero =>
    intro y b a g1 hb g3
    rw [remL_nil (by omega), bstF] at g3
    refine tX10_best_35 ⟨g.vv, fun q => ?_, fun q => absurd ?_ q⟩
    · rcases hb with ⟨h1, h2, h3⟩ | ⟨h1, h2, h3, h4, h5⟩
      · rw [h1, h2]
        rw [bstM, if_neg (by omega)] at g3
        exact ⟨fun _ => g3, fun z => absurd (by decide) z⟩
      · rw [bstM, if_pos ⟨h4, h5⟩] at g3
        have e1 : a / 10 = nI b.2.2 := by
          rw [h1, show (nI (10 * b.2.2 + b.2.1)) / 10 = nI ((10 * b.2.2 + b.2.1) / 10) from pk_div (d := 10) (by omega) (by decide) (by decide), show (10 * b.2.2 + b.2.1) / 10 = b.2.2 by omega]
        have e2 : a - a / 10 * 10 = nI b.2.1 := by
          rw [h1, show nI (10 * b.2.2 + b.2.1) - nI (10 * b.2.2 + b.2.1) / 10 * 10 = nI ((10 * b.2.2 + b.2.1) % 10) from pk_rem (d := 10) (by omega) (by decide) (by decide), show (10 * b.2.2 + b.2.1) % 10 = b.2.1 by omega]
        rw [e2, e1]
        refine ⟨fun z => absurd z ?_, fun _ => ⟨fun z => ⟨fun t => ?_, fun t => ?_⟩, fun z => ?_⟩⟩
        · rw [h1]
          exact nI_pos (by omega)
        · rw [bstA, if_neg z, if_neg t] at g3
          exact g3
        · rw [bstA, if_neg z, if_pos t] at g3
          exact g3
        · rw [bstA, if_pos z] at g3
          exact g3
    · rw [g.eR]
      simp (disch := omega) only [nL, nI_add, pk_mul, pk_sub, nI_clamp, nI_leI, nI_ltI, nI_eq]
      omega
  | succ m ih =>
    intro y b a g1 hb g3
    rw [remL_cons (by omega)] at g3
    refine tX10_best_35 ⟨g.vv, fun q => absurd q ?_, fun _ => ?_⟩
    · rw [g.eR]
      simp (disch := omega) only [nL, nI_add, pk_mul, pk_sub, nI_clamp, nI_leI, nI_ltI, nI_eq]
      omega
    · exact r_best_x g r ok hs (by omega) (fun b' a' hb' z => ih (y + 1) b' a' (by omega) hb' z) (pw P - 2) 0 b a (by omega) hb g3
theorem r_best {s w : Int32} (h : MS σ T f P L H O D) (ok : OKS T P L H O D W) (hK : ∀ τ, DM scR scF σ τ → K (some (.int (aBest P L s w))) τ) : C2 Γ l mX10_best [.ref 284, .int s, .int w] σ K := by
  obtain ⟨v, h⟩ := h
  have g := h.1.1
  have pk := g.pk
  have s4 := pk.2.2.1
  have k0 := hK σ DM.rf
  refine tX10_best (m_isSign g (ri ?_))
  rw [bI_0]
  refine ⟨fun q => ?_, fun q => m_in (n := 2) (by omega) (ri ?_)⟩
  · rw [aBest, q, Bool.false_and, Bool.false_and] at k0
    exact k0
  · rw [bI_0]
    simp only [Bool.not_eq_false] at q
    refine ⟨fun q2 => ?_, fun q2 => ?_⟩
    · simp only [Bool.not_eq_false] at q2
      refine m_cop h (fun τ d gt r _ _ => rv ?_)
      have k1 := hK τ d
      rw [aBest, q, q2, Bool.true_and, Bool.and_true] at k1
      obtain ⟨S, rfl, hS⟩ := vSg_nat q
      rw [nI_clamp (by omega)] at k1
      refine r_best_y gt.1 r ok.2.1.1 hS (pr P - 2) 0 (-2000, 0, 0) (-1) (by omega) (Or.inl ⟨rfl, rfl, Or.inr ⟨rfl, rfl⟩⟩) ?_
      unfold bstM
      by_cases e : 2 < pw P ∧ 2 < pr P
      · rw [if_pos e]
        rw [decide_eq_true e, if_pos rfl] at k1
        exact k1
      · rw [if_neg e]
        rw [decide_eq_false e, if_neg (by decide)] at k1
        exact k1
    · rw [aBest, q2, Bool.and_false] at k0
      exact k0
theorem m_goneIn {s x y : Nat} (hg : MG σ v P) (hr : MR σ 322 L) (hs5 : σ.1 284 56 = nI (psd P)) (ok : LVok P L) (hs : s < pns P) (hx : x + 2 < pw P) (hy : y + 2 < pr P) (hw : L 104 + 100 < 1000000) (hK : ∀ τ, DM wkR [53] σ τ → K (some (.int (nI (tgS P s x y 99 L)))) τ) : C2 Γ l mX10_goneIn [.ref 284, .int (nI s), .int (nI x), .int (nI y)] σ K := by
  have pk := hg.1.pk
  have w8 := pk.1
  have r6 := pk.2.1
  have key : ∀ m n M τ, m + n = 99 → DM wkR [53] σ τ → MR τ 322 M → LVok P M → M 104 + m + 1 < 1000000 → n + tgS P s x y m M = tgS P s x y 99 L → wX10_goneIn_3 Γ l (nI s) (nI x) (nI y) (nI n) τ K := by
    intro m
    induction m with
    | zero =>
      intro n M τ h1 d r okM hm e
      have gt := hg.dm d wkR_off (by simp)
      refine tX10_goneIn_3 ⟨fun q => absurd q (by simp (disch := omega) only [nL, nI_add, pk_mul, pk_sub, nI_clamp, nI_leI, nI_ltI, nI_eq]; omega), fun _ => m_anyReads gt.1 r okM hs (by omega) (by omega) (ri ?_)⟩
      rw [bI_0]
      refine ⟨fun q => ?_, fun q => ?_⟩
      · simp only [Bool.not_eq_false] at q
        rw [tgS, q, if_pos rfl] at e
        refine m_grassGrows gt r okM ((d.2.1 56 (by simp)).trans hs5) (fun τ2 d2 r2 => rv ?_)
        rw [nI_1]
        refine tX10_goneIn_3 ⟨fun _ => ?_, fun q => absurd (by simp (disch := omega) only [nL, nI_add, pk_mul, pk_sub, nI_clamp, nI_leI, nI_ltI, nI_eq]; omega) q⟩
        have := hK τ2 (d.tr d2 (fun _ z => z) (fun _ z => z))
        rw [← e, show n + 1 = 100 by omega] at this
        exact this
      · rw [tgS, q, if_neg (by decide)] at e
        have := hK τ d
        rw [← e] at this
        exact this
    | succ m ih =>
      intro n M τ h1 d r okM hm e
      have gt := hg.dm d wkR_off (by simp)
      refine tX10_goneIn_3 ⟨fun q => absurd q (by simp (disch := omega) only [nL, nI_add, pk_mul, pk_sub, nI_clamp, nI_leI, nI_ltI, nI_eq]; omega), fun _ => m_anyReads gt.1 r okM hs (by omega) (by omega) (ri ?_)⟩
      rw [bI_0]
      refine ⟨fun q => ?_, fun q => ?_⟩
      · simp only [Bool.not_eq_false] at q
        rw [tgS, q, if_pos rfl] at e
        refine m_grassGrows gt r okM ((d.2.1 56 (by simp)).trans hs5) (fun τ2 d2 r2 => rv ?_)
        rw [nI_1]
        exact ih (n + 1) _ τ2 (by omega) (d.tr d2 (fun _ z => z) (fun _ z => z)) r2 (gwL_ok okM (by omega)) (by have e4 := gwL_wk P M (wetS P (nI (psd P)) (nI (M 104))); omega) (by omega)
      · rw [tgS, q, if_neg (by decide)] at e
        have := hK τ d
        rw [← e] at this
        exact this
  exact tX10_goneIn (key 99 0 L σ rfl DM.rf hr ok (by omega) (by omega))
theorem r_gone {s x y : Int32} (h : MS σ T f P L H O D) (ok : OKS T P L H O D W) (hK : ∀ τ, DM scR scF σ τ → K (some (.int (aGone P L s x y))) τ) : C2 Γ l mX10_gone [.ref 284, .int s, .int x, .int y] σ K := by
  obtain ⟨v, h⟩ := h
  have g := h.1.1
  have pk := g.pk
  have w8 := pk.1
  have r6 := pk.2.1
  have s4 := pk.2.2.1
  have k0 := hK σ DM.rf
  have o1 := ok.1
  have o2 := ok.2.1.2
  refine tX10_gone (m_isSign g (ri ?_))
  rw [bI_0]
  refine ⟨fun q => ?_, fun q => m_isPlace g (ri ?_)⟩
  · rw [aGone, q, Bool.false_and] at k0
    exact k0
  · rw [bI_0]
    simp only [Bool.not_eq_false] at q
    refine ⟨fun q2 => ?_, fun q2 => ?_⟩
    · simp only [Bool.not_eq_false] at q2
      refine m_cop h (fun τ d gt r e56 _ => rv ?_)
      obtain ⟨S, rfl, hS⟩ := vSg_nat q
      obtain ⟨X, Y, rfl, rfl, hX, hY⟩ := vPl_nat q2
      refine m_goneIn gt r e56 ok.2.1.1 hS hX hY (by omega) (fun τ2 d2 => ri ?_)
      have k1 := hK τ2 (d.sk d2 wk_R f53)
      rw [aGone, q, q2, Bool.and_self, if_pos rfl, nI_clamp (by omega), nI_clamp (by omega), nI_clamp (by omega)] at k1
      have b := tgS_le P S X Y 99 L
      have e1 : nI (tgS P S X Y 99 L) = 100 ↔ tgS P S X Y 99 L = 100 := by
        rw [show (100 : Int32) = nI 100 from rfl, nI_eq (by omega) (by omega)]
      rw [e1]
      refine ⟨fun z => ?_, fun z => ?_⟩
      · rw [if_pos (by omega)] at k1
        exact k1
      · rw [if_neg (by omega)] at k1
        exact k1
    · rw [aGone, q2, Bool.and_false] at k0
      exact k0
theorem m_isThen {s x y w d e : Nat} (h : MSv σ v T f P L H O D) (ok : OKS T P L H O D W) (hs : s < pns P) (hx : x + 2 < pw P) (hy : y + 2 < pr P) (hw : w ≤ d) (hd : d < e) (he : e ≤ 60) (hK : ∀ τ, DM scR scF σ τ → K (some (.int (bI (rtgS P s x y (d - w) (e - d) (ct9 P s x y (gwN P (nI (psd P)) w L) 9))))) τ) : C2 Γ l mX10_isThen [.ref 284, .int (nI s), .int (nI x), .int (nI y), .int (nI w), .int (nI d), .int (nI e)] σ K := by
  have pk := h.1.1.pk
  have w8 := pk.1
  have r6 := pk.2.1
  have o1 := ok.1
  have o2 := ok.2.1.2
  have okL := ok.2.1.1
  have c1 := gwN_wk P (nI (psd P)) w L
  refine tX10_isThen (m_cop h (fun τ1 d1 g1 r1 e1 _ => rv (m_grows g1 r1 okL e1 (by omega) (fun τ2 d2 r2 => rv ?_))))
  have ok2 := gwN_ok' okL (seed := nI (psd P)) w L okL (by omega)
  have g2 := g1.dm d2 wkR_off (by simp)
  have e2 : τ2.1 284 56 = nI (psd P) := (d2.2.1 56 (by simp)).trans e1
  refine m_cuts9 g2.1 r2 hs (by omega) (by omega) (fun τ3 d3 r3 => rv ?_)
  have g3 := g2.dm d3 (fun b hb => by simp at hb; omega) (by simp)
  have e3 : τ3.1 284 56 = nI (psd P) := (d3.2.1 56 (by simp)).trans e2
  have c9 := ct9_ok (P := P) (s := s) (x := x) (y := y) ok2 (by omega) (by omega) 9 (by omega)
  have ok3 := c9.1
  have c3 := c9.2 104 (by omega)
  rw [show nI d - nI w = nI (d - w) from pk_sub hw, show nI e - nI d = nI (e - d) from pk_sub (by omega)]
  refine m_grows g3 r3 ok3 e3 (by omega) (fun τ4 d4 r4 => rv ?_)
  have g4 := g3.dm d4 wkR_off (by simp)
  have e4 : τ4.1 284 56 = nI (psd P) := (d4.2.1 56 (by simp)).trans e3
  have ok4 := gwN_ok' ok3 (seed := nI (psd P)) (d - w) _ ok3 (by omega)
  have c4 := gwN_wk P (nI (psd P)) (d - w) (ct9 P s x y (gwN P (nI (psd P)) w L) 9)
  have dd : DM scR scF σ τ4 := ((d1.sk d2 wk_R f53).sk d3 (by simp [scR]) (by simp)).sk d4 wk_R f53
  refine m_anyReads g4.1 r4 ok4 hs (by omega) (by omega) (ri ?_)
  rw [bI_0]
  refine ⟨fun q => ?_, fun q => ?_⟩
  · simp only [Bool.not_eq_false] at q
    refine m_grows g4 r4 ok4 e4 (by omega) (fun τ5 d5 r5 => rv ?_)
    have g5 := g4.dm d5 wkR_off (by simp)
    have ok5 := gwN_ok' ok4 (seed := nI (psd P)) (e - d) _ ok4 (by omega)
    have dd5 := dd.sk d5 wk_R f53
    refine m_anyReads g5.1 r5 ok5 hs (by omega) (by omega) (ri ?_)
    rw [bI_0]
    have k := hK τ5 dd5
    rw [rtgS, q, Bool.true_and] at k
    refine ⟨fun z => ?_, fun z => ?_⟩
    · simp only [Bool.not_eq_false] at z
      rw [z] at k
      exact k
    · rw [z] at k
      exact k
  · have k := hK τ4 dd
    rw [rtgS, q, Bool.false_and] at k
    exact k
theorem r_when {s x y d e : Int32} (h : MS σ T f P L H O D) (ok : OKS T P L H O D W) (hK : ∀ τ, DM scR scF σ τ → K (some (.int (aWhen P L s x y d e))) τ) : C2 Γ l mX10_when [.ref 284, .int s, .int x, .int y, .int d, .int e] σ K := by
  obtain ⟨v, h⟩ := h
  have g := h.1.1
  have pk := g.pk
  have w8 := pk.1
  have r6 := pk.2.1
  have s4 := pk.2.2.1
  have k0 := hK σ DM.rf
  refine tX10_when (m_isSign g (ri ?_))
  rw [bI_0]
  refine ⟨fun q => ?_, fun q => m_isPlace g (ri ?_)⟩
  · rw [aWhen, q, Bool.false_and, Bool.false_and, Bool.false_and] at k0
    exact k0
  rw [bI_0]
  simp only [Bool.not_eq_false] at q
  refine ⟨fun q2 => ?_, fun q2 => ⟨fun q3 => ?_, fun q3 => ⟨fun q4 => ?_, fun q4 => ⟨fun q5 => ?_, fun q5 => ?_⟩⟩⟩⟩
  · rw [aWhen, q, q2, Bool.and_false, Bool.false_and, Bool.false_and] at k0
    exact k0
  · rw [aWhen, decide_eq_false (fun z => z.1 q3), Bool.and_false, Bool.false_and] at k0
    exact k0
  · rw [aWhen, decide_eq_false (fun z => absurd (Int32.lt_of_lt_of_le z.2 q4) Int32.lt_irrefl), Bool.and_false, Bool.false_and] at k0
    exact k0
  · simp only [Bool.not_eq_false] at q2
    have q4' : d < e := Int32.not_le.mp q4
    have ne : ¬ e < 0 := fun z => q3 (Int32.lt_trans q4' z)
    have hE := vIn_t (n := 60) ne q5 (by omega)
    have hh : ∀ τ, DM scR scF σ τ → K (some (.int (whF P s.toNatClampNeg x.toNatClampNeg y.toNatClampNeg (e.toNatClampNeg - d.toNatClampNeg) (d.toNatClampNeg + 1) 0 L))) τ := fun τ dt => by
      have k1 := hK τ dt
      rw [aWhen, q, q2, decide_eq_true ⟨q3, q4'⟩, hE] at k1
      exact k1
    obtain ⟨S, rfl, hS⟩ := vSg_nat q
    obtain ⟨X, Y, rfl, rfl, hX, hY⟩ := vPl_nat q2
    obtain ⟨E, rfl, hE60⟩ := vIn_nat hE
    obtain ⟨d1, d2⟩ := nx q3
    generalize d.toNatClampNeg = N at d1 d2 hh
    subst d1
    rw [nI_ltI (by omega) (by omega)] at q4'
    rw [nI_clamp (by omega), nI_clamp (by omega), nI_clamp (by omega), nI_clamp (by omega)] at hh
    have key : ∀ m w τ, m + w = N + 1 → DM scR scF σ τ → (∀ υ, DM scR scF σ υ → K (some (.int (whF P S X Y (E - N) m w (gwN P (nI (psd P)) w L)))) υ) → wX10_when_41 Γ l (nI S) (nI X) (nI Y) (nI N) (nI E) (nI w) τ K := by
      intro m
      induction m with
      | zero =>
        intro w τ h1 dt hk
        exact tX10_when_41 ⟨fun _ => hk τ dt, fun q => absurd (by simp (disch := omega) only [nL, nI_add, pk_mul, pk_sub, nI_clamp, nI_leI, nI_ltI, nI_eq]; omega) q⟩
      | succ m ih =>
        intro w τ h1 dt hk
        refine tX10_when_41 ⟨fun q => absurd q (by simp (disch := omega) only [nL, nI_add, pk_mul, pk_sub, nI_clamp, nI_leI, nI_ltI, nI_eq]; omega), fun _ => m_isThen (h.sc dt) ok hS hX hY (by omega) q4' hE60 (fun τ2 d2 => ri ?_)⟩
        have dd := dt.tr d2 (fun _ z => z) (fun _ z => z)
        rw [bI_0, show N - w = m by omega, nI_1]
        refine ⟨fun z => ih (w + 1) τ2 (by omega) dd (fun υ du => ?_), fun z => ?_⟩
        · have k := hk υ du
          rw [whF, z, if_neg (by decide)] at k
          rw [gwN_out]
          exact k
        · simp only [Bool.not_eq_false] at z
          have k := hk τ2 dd
          rw [whF, z, if_pos rfl] at k
          exact k
    exact key (N + 1) 0 σ (by omega) DM.rf hh
  · have : vIn e 60 = false := vIn_f (n := 60) q5 (by omega)
    rw [aWhen, this, Bool.and_false] at k0
    exact k0
end M7
