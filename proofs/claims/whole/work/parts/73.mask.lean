/-! the model: blades, sure, ask -/
section ME
variable {Γ : GE} {l : Launch} {σ τ : SS} {K : Option Value → SS → Prop} {v : Nat} {T : List Nat} {f : Int32} {P : PV} {L : LV} {H : List LV} {O : Nat → Option LV} {D : List (Nat × Nat × Nat)} {W : Nat}
theorem m_fb_66 {s y k : Nat} (h : MSv σ v T f P L H O D) (ok : OKS T P L H O D W) (hs : s < pns P) (hy : y + 2 < pr P) (hk : k ≤ D.length)
    (kk : ∀ τ, DM fbR [53, 56, 65] σ τ → WasI τ P (L 104) → BI P (L 104) (fitS P (L 104) D k) ((s * 24 + (y + 1) * 6) * 31) τ → wX10_fillsBlades_48 Γ l (nI k) (nI s) (nI (y + 1)) τ K) :
    ∀ m x τ, m + x = pw P - 2 → DM fbR [53, 56, 65] σ τ → WasI τ P (L 104) → BI P (L 104) (fitS P (L 104) D k) ((s * 24 + y * 6 + x) * 31) τ → wX10_fillsBlades_66 Γ l (nI k) (nI s) (nI y) (nI x) τ K := by
  have pk := h.1.1.pk
  have w8 := pk.1
  have r6 := pk.2.1
  have s4 := pk.2.2.1
  have hsc : ∀ {τ : SS}, DM fbR [53, 56, 65] σ τ → DM scR scF σ τ := fun d => d.mo (by simp [fbR, scR]) (by simp [scF])
  intro m
  induction m with
  | zero =>
    intro x τ h1 d hw b
    have gt := (h.sc (hsc d)).1.1
    refine tX10_fillsBlades_66 ⟨gt.vv, fun _ => ?_, fun q => absurd ?_ q⟩
    · rw [nI_1]
      refine kk τ d hw (b.skip (by omega) (fun g g1 g2 => fit_no ?_))
      unfold gX
      omega
    · rw [gt.eW]
      simp (disch := omega) only [nL, nI_add, pk_mul, pk_sub, nI_clamp, nI_leI, nI_ltI, nI_eq]
      omega
  | succ m ih =>
    intro x τ h1 d hw b
    have gt := (h.sc (hsc d)).1.1
    refine tX10_fillsBlades_66 ⟨gt.vv, fun q => absurd q ?_, fun _ => ?_⟩
    · rw [gt.eW]
      simp (disch := omega) only [nL, nI_add, pk_mul, pk_sub, nI_clamp, nI_leI, nI_ltI, nI_eq]
      omega
    · exact m_fb_85 h ok hs (by omega) hy hk (fun τ2 d2 hw2 b2 => ih (x + 1) τ2 (by omega) d2 hw2 b2) 31 0 τ rfl d hw b
theorem m_fb_48 {s k : Nat} (h : MSv σ v T f P L H O D) (ok : OKS T P L H O D W) (hs : s < pns P) (hk : k ≤ D.length)
    (kk : ∀ τ, DM fbR [53, 56, 65] σ τ → WasI τ P (L 104) → BI P (L 104) (fitS P (L 104) D k) ((s + 1) * 744) τ → wX10_fillsBlades_33 Γ l (nI k) (nI (s + 1)) τ K) :
    ∀ m y τ, m + y = pr P - 2 → DM fbR [53, 56, 65] σ τ → WasI τ P (L 104) → BI P (L 104) (fitS P (L 104) D k) ((s * 24 + y * 6) * 31) τ → wX10_fillsBlades_48 Γ l (nI k) (nI s) (nI y) τ K := by
  have pk := h.1.1.pk
  have w8 := pk.1
  have r6 := pk.2.1
  have s4 := pk.2.2.1
  have hsc : ∀ {τ : SS}, DM fbR [53, 56, 65] σ τ → DM scR scF σ τ := fun d => d.mo (by simp [fbR, scR]) (by simp [scF])
  intro m
  induction m with
  | zero =>
    intro y τ h1 d hw b
    have gt := (h.sc (hsc d)).1.1
    refine tX10_fillsBlades_48 ⟨gt.vv, fun _ => ?_, fun q => absurd ?_ q⟩
    · rw [nI_1]
      refine kk τ d hw (b.skip (by omega) (fun g g1 g2 => fit_no ?_))
      unfold gY
      omega
    · rw [gt.eR]
      simp (disch := omega) only [nL, nI_add, pk_mul, pk_sub, nI_clamp, nI_leI, nI_ltI, nI_eq]
      omega
  | succ m ih =>
    intro y τ h1 d hw b
    have gt := (h.sc (hsc d)).1.1
    refine tX10_fillsBlades_48 ⟨gt.vv, fun q => absurd q ?_, fun _ => ?_⟩
    · rw [gt.eR]
      simp (disch := omega) only [nL, nI_add, pk_mul, pk_sub, nI_clamp, nI_leI, nI_ltI, nI_eq]
      omega
    · exact m_fb_66 h ok hs (by omega) hk (fun τ2 d2 hw2 b2 => ih (y + 1) τ2 (by omega) d2 hw2 b2) (pw P - 2) 0 τ (by omega) d hw b
theorem m_fillsBlades {k : Nat} (h : MSv σ v T f P L H O D) (ok : OKS T P L H O D W) (hk : k ≤ D.length) (hK : ∀ τ, DM scR scF σ τ → BI P (L 104) (fitS P (L 104) D k) 2976 τ → K none τ) : C2 Γ l mX10_fillsBlades [.ref 284, .int (nI k)] σ K := by
  have pk := h.1.1.pk
  have s4 := pk.2.2.1
  refine tX10_fillsBlades (m_fillsWas h ok (fun τ0 d0 hw0 => rv (fun s3 e3 => ?_)))
  have d3 : DM scR scF σ s3 := by
    rw [e3]
    exact (d0.mo (by simp [scR]) (by simp [scF])).wF (by simp [scF])
  have h3 := h.sc d3
  have hw3 : WasI s3 P (L 104) := by
    unfold WasI
    rw [e3, sI_row, sA_off2 _ _ (by omega)]
    exact hw0
  have ks : ∀ m s τ, m + s = pns P → DM fbR [53, 56, 65] s3 τ → WasI τ P (L 104) → BI P (L 104) (fitS P (L 104) D k) (s * 744) τ → wX10_fillsBlades_33 Γ l (nI k) (nI s) τ K := by
    intro m
    induction m with
    | zero =>
      intro s τ h1 d hw b
      have dd : DM scR scF s3 τ := d.mo (by simp [fbR, scR]) (by simp [scF])
      have gt := (h3.sc dd).1.1
      refine tX10_fillsBlades_33 ⟨gt.vv, fun _ => hK τ (d3.tr dd (fun _ z => z) (fun _ z => z)) (b.skip (by omega) (fun g g1 g2 => fit_no ?_)), fun q => absurd ?_ q⟩
      · unfold gS_
        omega
      · rw [gt.eS]
        simp (disch := omega) only [nL, nI_add, pk_mul, pk_sub, nI_clamp, nI_leI, nI_ltI, nI_eq]
        omega
    | succ m ih =>
      intro s τ h1 d hw b
      have dd : DM scR scF s3 τ := d.mo (by simp [fbR, scR]) (by simp [scF])
      have gt := (h3.sc dd).1.1
      refine tX10_fillsBlades_33 ⟨gt.vv, fun q => absurd q ?_, fun _ => ?_⟩
      · rw [gt.eS]
        simp (disch := omega) only [nL, nI_add, pk_mul, pk_sub, nI_clamp, nI_leI, nI_ltI, nI_eq]
        omega
      · refine m_fb_48 h3 ok (by omega) hk (fun τ2 d2 hw2 b2 => ih (s + 1) τ2 (by omega) d2 hw2 b2) (pr P - 2) 0 τ (by omega) d hw ?_
        rw [show (s * 24 + 0 * 6) * 31 = s * 744 by omega]
        exact b
  have kz : ∀ m j τ, m + j = 4800 → DM [330] [] s3 τ → (∀ i, i < j → τ.1 330 i = 0) → wX10_fillsBlades_11 Γ l (nI k) (nI j) τ K := by
    intro m
    induction m with
    | zero =>
      intro j τ h1 d a
      have : j = 4800 := by omega
      subst this
      refine tX10_fillsBlades_11 ⟨fun _ => ks (pns P) 0 τ (by omega) (d.mo (by simp [fbR]) (by simp)) ?_ ⟨?_, fun j _ hc => absurd ?_ hc, fun j h hj hh => ?_⟩, fun q => absurd (by decide) q⟩
      · unfold WasI
        rw [d.r 328 (by simp) (by omega)]
        exact hw3
      · rw [d.2.1 65 (by simp), e3, sI_at, if_pos ⟨rfl, rfl⟩, Nat.zero_mul]
        rfl
      · rw [Nat.zero_mul]
        rfl
      · rw [a _ (by omega), Nat.zero_mul]
        rfl
    | succ m ih =>
      intro j τ h1 d a
      refine tX10_fillsBlades_11 ⟨fun q => absurd q (by simp (disch := omega) only [nL, nI_add, pk_mul, pk_sub, nI_clamp, nI_leI, nI_ltI, nI_eq]; omega), fun _ => ⟨vp_in_nI (by omega) (by omega), fun s1 e1 => ?_⟩⟩
      rw [nI_clamp (by omega)] at e1
      rw [e1, nI_1]
      refine ih (j + 1) _ (by omega) (d.wI (by simp) (by omega)) (fun i hi => ?_)
      rw [sI_at]
      by_cases e : i = j
      · rw [if_pos ⟨rfl, e⟩]
      · rw [if_neg (fun z => e z.2)]
        exact a i (by omega)
  exact kz 4800 0 s3 rfl DM.rf (fun j hj => absurd hj (by omega))
theorem m_isKnown {k : Int32} (h : MSv σ v T f P L H O D) (hK : K (some (.int (bI (vIn k D.length)))) σ) : C2 Γ l mX10_isKnown [.ref 284, .int k] σ K := by
  have := h.2.2.2.2.2.1.1
  refine tX10_isKnown ?_
  rw [h.2.2.2.2.2.1.2.1]
  exact m_in (by omega) (ri ⟨bI_n _, hK⟩)
theorem r_blades {k : Int32} (h : MS σ T f P L H O D) (ok : OKS T P L H O D W) (hK : ∀ τ, DM scR scF σ τ → K (some (.int (aBlades P L D k))) τ) : C2 Γ l mX10_blades [.ref 284, .int k] σ K := by
  obtain ⟨v, h⟩ := h
  have l20 := h.2.2.2.2.2.1.1
  refine tX10_blades (m_isKnown h (ri ?_))
  rw [bI_0]
  refine ⟨fun q => ?_, fun q => ?_⟩
  · simp only [Bool.not_eq_false] at q
    obtain ⟨N, rfl, hN⟩ := vIn_nat q
    refine m_fillsBlades h ok hN (fun τ d b => rv ?_)
    have kk := hK τ d
    rw [aBlades, q, if_pos rfl, nI_clamp (by omega)] at kk
    rw [b.1]
    exact kk
  · have kk := hK σ DM.rf
    rw [aBlades, q] at kk
    exact kk
theorem r_sure {k w : Int32} (h : MS σ T f P L H O D) (ok : OKS T P L H O D W) (hK : ∀ τ, DM scR scF σ τ → K (some (.int (aSure P L D k w))) τ) : C2 Γ l mX10_sure [.ref 284, .int k, .int w] σ K := by
  obtain ⟨v, h⟩ := h
  have l20 := h.2.2.2.2.2.1.1
  have k0 := hK σ DM.rf
  refine tX10_sure (m_isKnown h (ri ?_))
  rw [bI_0]
  refine ⟨fun q => ?_, fun q => m_in (n := 3) (by omega) (ri ?_)⟩
  · rw [aSure, q, Bool.false_and] at k0
    exact k0
  rw [bI_0]
  simp only [Bool.not_eq_false] at q
  refine ⟨fun q2 => ?_, fun q2 => ?_⟩
  · simp only [Bool.not_eq_false] at q2
    obtain ⟨N, rfl, hN⟩ := vIn_nat q
    refine m_fillsBlades h ok hN (fun τ d b => rv ?_)
    have kk := hK τ d
    rw [aSure, q, q2, Bool.and_self, if_pos rfl, nI_clamp (by omega)] at kk
    obtain ⟨X, rfl, hX⟩ := vIn_nat q2
    have bc := cn_le (fitS P (L 104) D N) 2976
    have e0 : (τ.1 284 65 = 0) ↔ cn (fitS P (L 104) D N) 2976 = 0 := by
      rw [b.1, show (0 : Int32) = nI 0 from rfl, nI_eq (by omega) (by omega)]
    rw [e0, nI_clamp (by omega)]
    refine ⟨fun z => ⟨vp_in_nI (by omega) (by omega), ?_⟩, fun z => ?_⟩
    · rw [b.2.1 X (by omega) z]
      exact kk
    · rw [cm_z _ z] at kk
      exact kk
  · rw [aSure, q2, Bool.and_false] at k0
    exact k0
theorem m_ask_67 {F : Nat → Bool} {x y : Nat} {x2 x3 : Int32} (hb : BI P (L 104) F 2976 σ) (hx : x < 8) (hy : y < 6)
    (kk : (x2 < 0 ∨ nI (wrS F (fun g => bldC P (L 104) g (8 * y + x))) < x3 → wX10_ask_47 Γ l (nI (10 * y + x)) (nI (wrS F (fun g => bldC P (L 104) g (8 * y + x)))) (nI y) (nI (x + 1)) σ K) ∧ (¬ x2 < 0 → ¬ nI (wrS F (fun g => bldC P (L 104) g (8 * y + x))) < x3 → wX10_ask_47 Γ l x2 x3 (nI y) (nI (x + 1)) σ K)) : wX10_ask_67 Γ l x2 x3 (nI y) (nI x) 0 0 σ K := by
  have key : ∀ m h, m + h = 100 → wX10_ask_67 Γ l x2 x3 (nI y) (nI x) (nI (mxH (fun h => tlN F (fun g => bldC P (L 104) g (8 * y + x)) h 2976) h)) (nI h) σ K := by
    intro m
    induction m with
    | zero =>
      intro h h1
      have : h = 100 := by omega
      subst this
      refine tX10_ask_67 ⟨fun _ => ?_, fun q => absurd (by decide) q⟩
      rw [nI_1, show (10 : Int32) * nI y + nI x = nI (10 * y + x) by simp (disch := omega) only [nL, nI_add, pk_mul, pk_sub, nI_clamp, nI_leI, nI_ltI, nI_eq]]
      exact ⟨fun z => kk.1 (Or.inl z), fun z => ⟨fun u => kk.1 (Or.inr u), fun u => kk.2 z u⟩⟩
    | succ m ih =>
      intro h h1
      refine tX10_ask_67 ⟨fun q => absurd q (by simp (disch := omega) only [nL, nI_add, pk_mul, pk_sub, nI_clamp, nI_leI, nI_ltI, nI_eq]; omega), fun _ => ?_⟩
      rw [m_ix8, show (100 : Int32) * nI (8 * y + x) + nI h = nI (100 * (8 * y + x) + h) by simp (disch := omega) only [nL, nI_add, pk_mul, pk_sub, nI_clamp, nI_leI, nI_ltI, nI_eq], nI_clamp (by omega), hb.2.2 (8 * y + x) h (by omega) (by omega), nI_1]
      have bm : ∀ n, n ≤ 100 → mxH (fun h => tlN F (fun g => bldC P (L 104) g (8 * y + x)) h 2976) n ≤ 2976 := by
        intro n
        induction n with
        | zero => intro _; exact Nat.zero_le _
        | succ n ihn =>
          intro hn
          rw [mxH]
          exact Nat.max_le.mpr ⟨ihn (by omega), cn_le _ _⟩
      have b1 := bm h (by omega)
      have b2 : tlN F (fun g => bldC P (L 104) g (8 * y + x)) h 2976 ≤ 2976 := cn_le _ _
      exact ⟨vp_in_nI (by omega) (by omega), m_most (by omega) (by omega) (ri (ih (h + 1) (by omega)))⟩
  exact key 100 0 rfl
def aR (x2 x3 : Int32) (lt : Nat) (b : Int32) : Prop := (x2 = -2 ∧ lt = 2977 ∧ b = -2) ∨ (∃ n, n < 1000 ∧ x2 = nI n ∧ b = nI n ∧ x3 = nI lt ∧ lt ≤ 2976)
theorem r_ask {k : Int32} (h : MS σ T f P L H O D) (ok : OKS T P L H O D W) (hK : ∀ τ, DM scR scF σ τ → K (some (.int (aAsk P L D k))) τ) : C2 Γ l mX10_ask [.ref 284, .int k] σ K := by
  obtain ⟨v, h⟩ := h
  have l20 := h.2.2.2.2.2.1.1
  have pk := h.1.1.pk
  have w8 := pk.1
  have r6 := pk.2.1
  refine tX10_ask (m_isKnown h (ri ?_))
  rw [bI_0]
  refine ⟨fun q => ?_, fun q => ?_⟩
  · simp only [Bool.not_eq_false] at q
    obtain ⟨N, rfl, hN⟩ := vIn_nat q
    refine m_fillsBlades h ok hN (fun τ d b => rv ?_)
    have kk := hK τ d
    rw [aAsk, q, if_pos rfl, nI_clamp (by omega)] at kk
    have bc := cn_le (fitS P (L 104) D N) 2976
    have gt := (h.sc d).1.1
    have e0 : (τ.1 284 65 ≤ 0) ↔ cn (fitS P (L 104) D N) 2976 = 0 := by
      rw [b.1, show (0 : Int32) = nI 0 from rfl, nI_leI (by omega) (by omega)]
      omega
    by_cases z : cn (fitS P (L 104) D N) 2976 = 0
    · rw [if_pos z] at kk
      exact tX10_ask_23 ⟨gt.vv, fun _ => kk, fun _ => ⟨fun _ => kk, fun u => absurd (e0.mpr z) u⟩⟩
    · rw [if_neg z, askS] at kk
      generalize hwr : (fun q : Nat × Nat => wrS (fitS P (L 104) D N) (fun g => bldC P (L 104) g (8 * q.2 + q.1))) = wr at kk
      have hwr' : ∀ x y, wrS (fitS P (L 104) D N) (fun g => bldC P (L 104) g (8 * y + x)) = wr (x, y) := fun x y => by rw [← hwr]
      have wl : ∀ q, wr q ≤ 2976 := fun q => by rw [← hwr]; exact wrS_le
      have kx : ∀ y, y < pr P → (∀ x2 x3 lt b, aR x2 x3 lt b → K (some (.int (akF wr (remL (pw P) (pr P) (y + 1)) lt b))) τ → wX10_ask_23 Γ l x2 x3 (nI (y + 1)) τ K) → ∀ m x x2 x3 lt b, m + x = pw P → aR x2 x3 lt b → K (some (.int (akF wr (rowL (pw P) y x ++ remL (pw P) (pr P) (y + 1)) lt b))) τ → wX10_ask_47 Γ l x2 x3 (nI y) (nI x) τ K := by
        intro y hy ky m
        induction m with
        | zero =>
          intro x x2 x3 lt b' h1 ha hk
          rw [rowL_nil (by omega), List.nil_append] at hk
          refine tX10_ask_47 ⟨gt.vv, fun _ => by rw [nI_1]; exact ky x2 x3 lt b' ha hk, fun q => absurd ?_ q⟩
          rw [gt.eW]
          simp (disch := omega) only [nL, nI_add, pk_mul, pk_sub, nI_clamp, nI_leI, nI_ltI, nI_eq]
          omega
        | succ m ih =>
          intro x x2 x3 lt b' h1 ha hk
          rw [rowL_cons (by omega), List.cons_append, akF] at hk
          refine tX10_ask_47 ⟨gt.vv, fun q => absurd q ?_, fun _ => m_ask_67 b (by omega) (by omega) ?_⟩
          · rw [gt.eW]
            simp (disch := omega) only [nL, nI_add, pk_mul, pk_sub, nI_clamp, nI_leI, nI_ltI, nI_eq]
            omega
          · rw [hwr' x y]
            have wlx := wl (x, y)
            refine ⟨fun c => ih (x + 1) _ _ (wr (x, y)) (nI (10 * y + x)) (by omega) (Or.inr ⟨10 * y + x, by omega, rfl, rfl, rfl, wlx⟩) ?_, fun c1 c2 => ih (x + 1) x2 x3 lt b' (by omega) ha ?_⟩
            · have : wr (x, y) < lt := by
                rcases ha with ⟨a1, a2, a3⟩ | ⟨n, n1, a1, a2, a3, a4⟩
                · omega
                · rcases c with c | c
                  · rw [a1] at c
                    exact absurd c (nI_pos (by omega))
                  · rw [a3, nI_ltI (by omega) (by omega)] at c
                    exact c
              rw [if_pos this] at hk
              exact hk
            · have : ¬ wr (x, y) < lt := by
                rcases ha with ⟨a1, a2, a3⟩ | ⟨n, n1, a1, a2, a3, a4⟩
                · rw [a1] at c1
                  exact absurd (by decide) c1
                · rw [a3, nI_ltI (by omega) (by omega)] at c2
                  exact c2
              rw [if_neg this] at hk
              exact hk
      have ky : ∀ m y x2 x3 lt b, m + y = pr P → aR x2 x3 lt b → K (some (.int (akF wr (remL (pw P) (pr P) y) lt b))) τ → wX10_ask_23 Γ l x2 x3 (nI y) τ K := by
        intro m
        induction m with
        | zero =>
          intro y x2 x3 lt b' h1 ha hk
          rw [remL_nil (by omega), akF] at hk
          have : x2 = b' := by
            rcases ha with ⟨a1, a2, a3⟩ | ⟨n, n1, a1, a2, a3, a4⟩
            · rw [a1, a3]
            · rw [a1, a2]
          rw [this]
          refine tX10_ask_23 ⟨gt.vv, fun _ => hk, fun q => absurd ?_ q⟩
          rw [gt.eR]
          simp (disch := omega) only [nL, nI_add, pk_mul, pk_sub, nI_clamp, nI_leI, nI_ltI, nI_eq]
          omega
        | succ m ih =>
          intro y x2 x3 lt b' h1 ha hk
          rw [remL_cons (by omega)] at hk
          refine tX10_ask_23 ⟨gt.vv, fun q => absurd q ?_, fun _ => ⟨fun u => absurd (e0.mp u) z, fun _ => ?_⟩⟩
          · rw [gt.eR]
            simp (disch := omega) only [nL, nI_add, pk_mul, pk_sub, nI_clamp, nI_leI, nI_ltI, nI_eq]
            omega
          · exact kx y (by omega) (fun x2 x3 lt b ha hk => ih (y + 1) x2 x3 lt b (by omega) ha hk) (pw P) 0 x2 x3 lt b' (by omega) ha hk
      exact ky (pr P) 0 (-2) 0 2977 (-2) (by omega) (Or.inl ⟨rfl, rfl, rfl⟩) kk
  · have kk := hK σ DM.rf
    rw [aAsk, q] at kk
    exact kk
end ME
