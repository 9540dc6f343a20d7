/-! the model: cuts, level, quiet, knows, then, year -/
theorem bI_n0 (b : Bool) : ¬ (¬ bI b = 0) ↔ b = false := by
  rw [Decidable.not_not, bI_0]
def mwK (L : LV) (t k : Nat) : LV := fun j => if j < k then min (L j) t else L j
section M8
variable {Γ : GE} {l : Launch} {σ τ : SS} {K : Option Value → SS → Prop} {v : Nat} {T : List Nat} {f : Int32} {P : PV} {L : LV} {H : List LV} {O : Nat → Option LV} {D : List (Nat × Nat × Nat)} {W : Nat}
theorem m_isLong {x : Int32} (hK : K (some (.int (bI (vIn x 60)))) σ) : C2 Γ l mX10_isLong [.int x] σ K :=
  tX10_isLong (m_in (n := 60) (by omega) (ri ⟨bI_n _, hK⟩))
theorem m_cuts_k {s x y t : Nat} (g : MP σ v P) (r : MR σ 322 L) (ok : LVok P L) (hs : s < pns P) (hx : x + 2 < 8) (hy : y + 2 < 6) (ht : t < 1000) (hK : K (some (.int (nI (ttS P L s x y t 9)))) σ) :
    ∀ n k, n + k = 9 → wX10_cuts_87 Γ l (nI s) (nI x) (nI y) (nI t) (nI (ttS P L s x y t k)) (nI k) σ K := by
  have pk := g.pk
  have s4 := pk.2.2.1
  have v1 := g.1
  intro n
  induction n with
  | zero =>
    intro k h1
    have : k = 9 := by omega
    subst this
    exact tX10_cuts_87 ⟨fun _ => hK, fun q => absurd (by decide) q⟩
  | succ n ih =>
    intro k h1
    refine tX10_cuts_87 ⟨fun q => absurd q (by simp (disch := omega) only [nL, nI_add, pk_mul, pk_sub, nI_clamp, nI_leI, nI_ltI, nI_eq]; omega), fun _ => ?_⟩
    have hc : c9 x y k < 48 := by unfold c9; omega
    have b := (ok.1 _ hc).1
    rw [m_ix9 g, nI_clamp (n := 9 * (4 * v + s) + k) (by omega), g.2.2.2.2.2.2.2.2.2.2.2.2.1 s k hs (by omega), bI_0, m_c9 (by omega), nI_1, nI_1, nI_clamp (n := c9 x y k) (by omega), r _ (by omega), nI_leI (by omega) (by omega)]
    have ih := ih (k + 1) (by omega)
    unfold ttS at ih
    rw [cn] at ih
    refine ⟨vp_in_nI (by omega) (by omega), fun q => ?_, fun q => ⟨vp_in_nI (by omega) (by omega), fun z => ?_, fun z => ?_⟩⟩
    · rw [q, Bool.false_and, if_neg (by decide)] at ih
      exact ih
    · rw [decide_eq_false (by omega), Bool.and_false, if_neg (by decide)] at ih
      exact ih
    · simp only [Bool.not_eq_false] at q
      rw [q, decide_eq_true (by omega), Bool.and_true, if_pos rfl] at ih
      exact ih
theorem r_cuts {w s x y : Int32} (h : MS σ T f P L H O D) (ok : OKS T P L H O D W) (hK : ∀ τ, DM scR scF σ τ → K (some (.int (aCuts P L w s x y))) τ) : C2 Γ l mX10_cuts [.ref 284, .int w, .int s, .int x, .int y] σ K := by
  obtain ⟨v, h⟩ := h
  have g := h.1.1
  have pk := g.pk
  have w8 := pk.1
  have r6 := pk.2.1
  have s4 := pk.2.2.1
  have n4 := pk.2.2.2.1
  have v1 := g.1
  have k0 := hK σ DM.rf
  refine tX10_cuts (m_isWindow g (ri ?_))
  rw [bI_0]
  refine ⟨fun q => ?_, fun q => m_isSign g (ri ?_)⟩
  · rw [aCuts, q, Bool.false_and] at k0
    exact k0
  rw [bI_0]
  simp only [Bool.not_eq_false] at q
  refine ⟨fun q2 => ?_, fun q2 => m_isPlace g (ri ?_)⟩
  · rw [aCuts, q2, Bool.false_and, Bool.and_false] at k0
    exact k0
  rw [bI_0]
  simp only [Bool.not_eq_false] at q2
  refine ⟨fun q3 => ?_, fun q3 => ?_⟩
  · simp only [Bool.not_eq_false] at q3
    refine m_cop h (fun τ d gt r _ _ => rv ?_)
    have k1 := hK τ d
    rw [aCuts, q, q2, q3, Bool.and_self, Bool.and_self, if_pos rfl] at k1
    obtain ⟨X', rfl, hW⟩ := vWi_nat q
    obtain ⟨S, rfl, hS⟩ := vSg_nat q2
    obtain ⟨X, Y, rfl, rfl, hX, hY⟩ := vPl_nat q3
    rw [nI_clamp (by omega), nI_clamp (by omega), nI_clamp (by omega), nI_clamp (by omega)] at k1
    have h5 := pk.2.2.2.2.2.2.2.2.2.2.2 S hS
    obtain ⟨p1, p2, p3⟩ := pk.2.2.2.2.2.2.2.2.2.1 X' hW
    have okL := ok.2.1.1
    refine m_leastLeft gt.1 r okL hS (by omega) (by omega) (ri ?_)
    rw [m_ix4 gt.1, nI_clamp (by omega), (gt.1.2.2.2.2.2.2.2.2.2.2.2.2.2.1 X' hW).2.2]
    refine ⟨vp_in_nI (by omega) (by omega), fun v11 e11 => m_isPlain gt.1 hS (ri ?_)⟩
    rw [bI_0]
    refine ⟨fun z => ?_, fun z => m_sees gt.1 hW (by omega) (ri ?_)⟩
    · have z2 : readable P S = false := by simpa using z
      rw [z2, Bool.and_false, Bool.false_and, if_neg (by decide)] at k1
      exact k1
    · have z2 : readable P S = true := by simpa using z
      have b := lstM_eq (P := P) (s := S) (L := L) (x := X) (y := Y) (fun k hk => (okL.1 k hk).1) (by omega) (by omega) 9 (by omega)
      have hne : ¬ ∀ j, j < 9 → pcut P S j = true := by
        intro u
        unfold readable at z2
        simp only [decide_eq_true_eq] at z2
        exact z2.2 ((szS_9 h5).mp (cn_f 9 u))
      have b9 : lstM P L S X Y 9 ≤ 99 := by
        rcases b.2.2 with u | u
        · exact absurd u hne
        · exact u
      have eb : lstS P L S X Y 9 = lstM P L S X Y 9 := by rw [b.1, Nat.min_eq_right b9]
      rw [eb, z2, Bool.and_true] at k1
      rw [bI_0]
      refine ⟨fun u => ?_, fun u => ?_⟩
      · rw [u, Bool.false_and, if_neg (by decide)] at k1
        exact k1
      · simp only [Bool.not_eq_false] at u
        rw [u, Bool.true_and] at k1
        by_cases hle : psh P X' ≤ lstM P L S X Y 9
        · rw [decide_eq_true hle, if_pos rfl] at k1
          rw [e11, show nI (lstM P L S X Y 9) - nI (psh P X') = nI (lstM P L S X Y 9 - psh P X') from pk_sub hle]
          refine ⟨fun _ => m_cuts_k gt.1 r okL hS (by omega) (by omega) (by omega) k1 9 0 rfl, fun t => absurd (Int32.not_lt.mp (nI_pos (by omega))) t⟩
        · rw [decide_eq_false hle, if_neg (by decide)] at k1
          refine ⟨fun t => absurd t ?_, fun _ => k1⟩
          rw [e11]
          have : ∀ a : Fin 100, ∀ b : Fin 100, a.val < b.val → ¬ (0 : Int32) ≤ nI a.val - nI b.val := by decide +kernel
          exact this ⟨lstM P L S X Y 9, by omega⟩ ⟨psh P X', by omega⟩ (by show lstM P L S X Y 9 < psh P X'; omega)
  · rw [aCuts, q3, Bool.and_false, Bool.and_false] at k0
    exact k0
theorem m_mowsTo {t : Nat} (hr : MR σ 322 L) (ok : LVok P L) (ht : t < 1000) (hK : ∀ τ, DM [322] [] σ τ → MR τ 322 (mwL L t) → K (some (.int (nI (cn (fun k => decide (t < L k)) 48)))) τ) : C2 Γ l mX10_mowsTo [.ref 284, .int (nI t)] σ K := by
  have key : ∀ n k τ, n + k = 48 → DM [322] [] σ τ → MR τ 322 (mwK L t k) → wX10_mowsTo_4 Γ l (nI t) (nI (cn (fun k => decide (t < L k)) k)) (nI k) τ K := by
    intro n
    induction n with
    | zero =>
      intro k τ h1 d r
      have : k = 48 := by omega
      subst this
      exact tX10_mowsTo_4 ⟨fun _ => hK τ d r, fun q => absurd (by decide) q⟩
    | succ n ih =>
      intro k τ h1 d r
      have b := (ok.1 k (by omega)).1
      have v6 : vp_in (nI k) 106 := vp_in_nI (by omega) (by omega)
      refine tX10_mowsTo_4 ⟨fun q => absurd q (by simp (disch := omega) only [nL, nI_add, pk_mul, pk_sub, nI_clamp, nI_leI, nI_ltI, nI_eq]; omega), fun _ => ⟨v6, ?_⟩⟩
      have rk : τ.1 322 k = nI (L k) := by
        rw [r k (by omega)]
        unfold mwK
        rw [if_neg (by omega)]
      rw [nI_clamp (by omega), rk, nI_ltI (by omega) (by omega), nI_1, nI_1]
      refine ⟨fun q => ⟨v6, fun s1 e1 => ?_⟩, fun q => ?_⟩
      · have ih := ih (k + 1) s1 (by omega) (by rw [e1]; exact d.wI (by simp) (by omega)) (fun j hj => by
          rw [e1, sI_at]
          by_cases e : j = k
          · unfold mwK
            rw [if_pos ⟨rfl, e⟩, if_pos (by omega), e, Nat.min_eq_right (by omega)]
          · rw [if_neg (fun z => e z.2), r j hj]
            unfold mwK
            by_cases e2 : j < k
            · rw [if_pos e2, if_pos (by omega)]
            · rw [if_neg e2, if_neg (by omega)])
        rw [cn, decide_eq_true q, if_pos rfl] at ih
        exact ih
      · have ih := ih (k + 1) τ (by omega) d (fun j hj => by
          rw [r j hj]
          unfold mwK
          by_cases e : j = k
          · rw [if_neg (by omega), if_pos (by omega), e, Nat.min_eq_left (by omega)]
          · by_cases e2 : j < k
            · rw [if_pos e2, if_pos (by omega)]
            · rw [if_neg e2, if_neg (by omega)])
        rw [cn, decide_eq_false q, if_neg (by decide)] at ih
        exact ih
  exact tX10_mowsTo (key 48 0 σ rfl DM.rf (fun j hj => by rw [hr j hj]; unfold mwK; rw [if_neg (by omega)]))
theorem r_level (h : MS σ T f P L H O D) (ok : OKS T P L H O D W) (hK : ∀ τ, DM scR scF σ τ → K (some (.int (lvF P L 100))) τ) : C2 Γ l mX10_level [.ref 284] σ K := by
  obtain ⟨v, h⟩ := h
  have okL := ok.2.1.1
  have key : ∀ m τ, m ≤ 100 → DM scR scF σ τ → (∀ υ, DM scR scF σ υ → K (some (.int (lvF P L m))) υ) → wX10_level_3 Γ l (nI m + (-1)) τ K := by
    intro m
    induction m with
    | zero =>
      intro τ _ d hK
      exact tX10_level_3 ⟨fun _ => hK τ d, fun q => absurd (by decide) q⟩
    | succ m ih =>
      intro τ hm d hK
      rw [nI_m1]
      refine tX10_level_3 ⟨fun q => absurd q (nI_pos (by omega)), fun _ => m_cop (h.sc d) (fun τ1 d1 g1 r1 _ _ => rv (m_mowsTo r1 okL (by omega) (fun τ2 d2 r2 => ri ?_)))⟩
      have g2 := g1.dm d2 (fun b hb => by simp at hb; omega) (by simp)
      have dd : DM scR scF σ τ2 := (d.tr d1 (fun _ z => z) (fun _ z => z)).sk d2 (by simp [scR]) (by simp)
      refine m_isQuiet g2.1 r2 (mwL_ok okL) (ri ?_)
      rw [bI_0, qtM_eq]
      refine ⟨fun q => ih τ2 (by omega) dd (fun υ du => ?_), fun q => ?_⟩
      · have k := hK υ du
        rw [lvF, if_pos (by simpa using q)] at k
        exact k
      · have k := hK τ2 dd
        rw [lvF, if_neg (by simpa using q)] at k
        exact k
  exact tX10_level (key 100 σ (by omega) DM.rf hK)
theorem r_quiet (h : MS σ T f P L H O D) (ok : OKS T P L H O D W) (hK : ∀ τ, DM scR scF σ τ → K (some (.int (aQuiet P L))) τ) : C2 Γ l mX10_quiet [.ref 284] σ K := by
  obtain ⟨v, h⟩ := h
  have okL := ok.2.1.1
  have o1 := ok.1
  have o2 := ok.2.1.2
  refine tX10_quiet (m_cop h (fun τ1 d1 g1 r1 e1 _ => rv ?_))
  have key : ∀ m n M τ, m + n = 201 → DM wkR [53] τ1 τ → MR τ 322 M → LVok P M → M 104 + m + 1 < 1000000 → (∀ υ, DM scR scF σ υ → K (some (.int (quF P m n M))) υ) → wX10_quiet_6 Γ l (nI n) τ K := by
    intro m
    induction m with
    | zero =>
      intro n M τ h1 d r okM hm hk
      exact tX10_quiet_6 ⟨fun _ => hk τ (d1.sk d wk_R f53), fun q => absurd (by simp (disch := omega) only [nL, nI_add, pk_mul, pk_sub, nI_clamp, nI_leI, nI_ltI, nI_eq]; omega) q⟩
    | succ m ih =>
      intro n M τ h1 d r okM hm hk
      have gt := g1.dm d wkR_off (by simp)
      refine tX10_quiet_6 ⟨fun q => absurd q (by simp (disch := omega) only [nL, nI_add, pk_mul, pk_sub, nI_clamp, nI_leI, nI_ltI, nI_eq]; omega), fun _ => m_isQuiet gt.1 r okM (ri ?_)⟩
      rw [bI_0, qtM_eq]
      refine ⟨fun q => ?_, fun q => ?_⟩
      · refine m_grassGrows gt r okM ((d.2.1 56 (by simp)).trans e1) (fun τ2 d2 r2 => rv ?_)
        rw [nI_1]
        refine ih (n + 1) _ τ2 (by omega) (d.tr d2 (fun _ z => z) (fun _ z => z)) r2 (gwL_ok okM (by omega)) (by have e4 := gwL_wk P M (wetS P (nI (psd P)) (nI (M 104))); omega) (fun υ du => ?_)
        have k := hk υ du
        rw [quF, if_pos (by simpa using q)] at k
        exact k
      · have k := hk τ (d1.sk d wk_R f53)
        rw [quF, if_neg (by simpa using q)] at k
        exact k
  exact key 201 0 L τ1 (by omega) DM.rf r1 okL (by omega) hK
theorem r_knows {w s : Int32} (h : MS σ T f P L H O D) (ok : OKS T P L H O D W) (hK : ∀ τ, DM scR scF σ τ → K (some (.int (aKnows P L w s))) τ) : C2 Γ l mX10_knows [.ref 284, .int w, .int s] σ K := by
  obtain ⟨v, h⟩ := h
  have g := h.1.1
  have pk := g.pk
  have s4 := pk.2.2.1
  have n4 := pk.2.2.2.1
  have k0 := hK σ DM.rf
  have okL := ok.2.1.1
  have o1 := ok.1
  have o2 := ok.2.1.2
  refine tX10_knows (m_isWindow g (ri ?_))
  rw [bI_0]
  refine ⟨fun q => ?_, fun q => m_isSign g (ri ?_)⟩
  · rw [aKnows, q, Bool.false_and] at k0
    exact k0
  rw [bI_0]
  simp only [Bool.not_eq_false] at q
  refine ⟨fun q2 => ?_, fun q2 => ?_⟩
  · simp only [Bool.not_eq_false] at q2
    have hh : ∀ τ, DM scR scF σ τ → K (some (.int (knF P w.toNatClampNeg s.toNatClampNeg 201 0 L))) τ := fun τ d => by
      have k1 := hK τ d
      rw [aKnows, q, q2] at k1
      exact k1
    obtain ⟨X, rfl, hX⟩ := vWi_nat q
    obtain ⟨S, rfl, hS⟩ := vSg_nat q2
    rw [nI_clamp (by omega), nI_clamp (by omega)] at hh
    refine m_cop h (fun τ1 d1 g1 r1 e1 _ => rv ?_)
    have key : ∀ m n M τ, m + n = 201 → DM wgR [53] τ1 τ → MR τ 322 M → LVok P M → M 104 + m + 1 < 1000000 → (∀ υ, DM scR scF σ υ → K (some (.int (knF P X S m n M))) υ) → wX10_knows_24 Γ l (nI X) (nI S) (nI n) τ K := by
      intro m
      induction m with
      | zero =>
        intro n M τ h1 d r okM hm hk
        exact tX10_knows_24 ⟨fun _ => hk τ (d1.sk d wg_R f53), fun q => absurd (by simp (disch := omega) only [nL, nI_add, pk_mul, pk_sub, nI_clamp, nI_leI, nI_ltI, nI_eq]; omega) q⟩
      | succ m ih =>
        intro n M τ h1 d r okM hm hk
        have gt := g1.dm d wgR_off (by simp)
        refine tX10_knows_24 ⟨fun q => absurd q (by simp (disch := omega) only [nL, nI_add, pk_mul, pk_sub, nI_clamp, nI_leI, nI_ltI, nI_eq]; omega), fun _ => ?_⟩
        rw [show (100 : Int32) + nI X = nI (100 + X) by simp (disch := omega) only [nL, nI_add, pk_mul, pk_sub, nI_clamp, nI_leI, nI_ltI, nI_eq], nI_clamp (n := 100 + X) (by omega), r _ (by omega), bit16 _ (okM.2.2.1 X (by omega)) S (by omega)]
        have e1' : nI (M (100 + X) / 2 ^ S % 2) = 1 ↔ M (100 + X) / 2 ^ S % 2 = 1 := by
          rw [show (1 : Int32) = nI 1 from rfl, nI_eq (by omega) (by omega)]
        rw [e1']
        refine ⟨vp_in_nI (by omega) (by omega), fun q => ?_, fun q => ?_⟩
        · refine m_weekGoes gt r okM (by omega) ((d.2.1 56 (by simp)).trans e1) (fun τ2 d2 r2 => rv ?_)
          rw [nI_1]
          refine ih (n + 1) _ τ2 (by omega) (d.tr d2 (fun _ z => z) (fun _ z => z)) r2 (lvL_ok okM (by omega) n4 s4) (by have e4 := lvL_wk (L := M) n4; omega) (fun υ du => ?_)
          have k := hk υ du
          rw [knF, if_neg q] at k
          exact k
        · have k := hk τ (d1.sk d wg_R f53)
          rw [knF, if_pos q] at k
          exact k
    exact key 201 0 L τ1 (by omega) DM.rf r1 okL (by omega) hh
  · rw [aKnows, q2, Bool.and_false] at k0
    exact k0
theorem r_then {x y n : Int32} (h : MS σ T f P L H O D) (ok : OKS T P L H O D W) (hK : ∀ τ, DM scR scF σ τ → K (some (.int (aThen P L x y n))) τ) : C2 Γ l mX10_then [.ref 284, .int x, .int y, .int n] σ K := by
  obtain ⟨v, h⟩ := h
  have g := h.1.1
  have pk := g.pk
  have w8 := pk.1
  have r6 := pk.2.1
  have k0 := hK σ DM.rf
  have o1 := ok.1
  have o2 := ok.2.1.2
  refine tX10_then (m_isCell g (ri ?_))
  rw [bI_0]
  refine ⟨fun q => ?_, fun q => m_isLong (ri ?_)⟩
  · rw [aThen, q, Bool.false_and] at k0
    exact k0
  rw [bI_0]
  simp only [Bool.not_eq_false] at q
  refine ⟨fun q2 => ?_, fun q2 => ?_⟩
  · simp only [Bool.not_eq_false] at q2
    have hh : ∀ τ, DM scR scF σ τ → K (some (.int (nI (gwN P (nI (psd P)) n.toNatClampNeg L (8 * y.toNatClampNeg + x.toNatClampNeg))))) τ := fun τ d => by
      have k1 := hK τ d
      rw [aThen, q, q2] at k1
      exact k1
    obtain ⟨X, Y, rfl, rfl, hX, hY⟩ := vC_nat q
    obtain ⟨N, rfl, hN⟩ := vIn_nat q2
    rw [nI_clamp (by omega), nI_clamp (by omega), nI_clamp (by omega)] at hh
    refine m_cop h (fun τ1 d1 g1 r1 e1 _ => rv (m_grows g1 r1 ok.2.1.1 e1 (by omega) (fun τ2 d2 r2 => rv ?_)))
    rw [m_ix8, nI_clamp (by omega), r2 _ (by omega)]
    exact ⟨vp_in_nI (by omega) (by omega), hh τ2 (d1.sk d2 wk_R f53)⟩
  · rw [aThen, q2, Bool.and_false] at k0
    exact k0
theorem m_in1 {x : Int32} {n : Nat} (hn : n < 2 ^ 30) (hK : K (some (.int (bI (decide (¬ x < 1) && vIn x n)))) σ) : C2 Γ l mX10_in [.int x, .int 1, .int (nI n)] σ K := by
  refine tX10_in ⟨fun q => ?_, fun q => ⟨fun r => ?_, fun r => ?_⟩⟩
  · rw [decide_eq_false (fun z => z q), Bool.false_and] at hK
    exact hK
  · rw [vIn_f (fun z => absurd (Int32.lt_of_lt_of_le r z) Int32.lt_irrefl) (by omega), Bool.and_false] at hK
    exact hK
  · have n0 : ¬ x < 0 := fun z => q (Int32.lt_trans z (by decide))
    rw [decide_eq_true q, vIn_t n0 (Int32.not_lt.mp r) (by omega)] at hK
    exact hK
theorem r_year {w s n k : Int32} (h : MS σ T f P L H O D) (ok : OKS T P L H O D W) (hK : ∀ τ, DM scR scF σ τ → K (some (.int (aYear P L w s n k))) τ) : C2 Γ l mX10_year [.ref 284, .int w, .int s, .int n, .int k] σ K := by
  obtain ⟨v, h⟩ := h
  have g := h.1.1
  have pk := g.pk
  have s4 := pk.2.2.1
  have n4 := pk.2.2.2.1
  have k0 := hK σ DM.rf
  have okL := ok.2.1.1
  have o1 := ok.1
  have o2 := ok.2.1.2
  refine tX10_year (m_isWindow g (ri ?_))
  rw [bI_0]
  refine ⟨fun q => ?_, fun q => m_isSign g (ri ?_)⟩
  · rw [aYear, q, Bool.false_and, Bool.false_and, Bool.false_and] at k0
    exact k0
  rw [bI_0]
  simp only [Bool.not_eq_false] at q
  refine ⟨fun q2 => ?_, fun q2 => m_isLong (ri ?_)⟩
  · rw [aYear, q, q2, Bool.and_false, Bool.false_and, Bool.false_and] at k0
    exact k0
  rw [bI_0]
  simp only [Bool.not_eq_false] at q2
  refine ⟨fun q3 => ?_, fun q3 => m_in1 (n := 20) (by omega) (ri ?_)⟩
  · rw [aYear, q3, Bool.and_false, Bool.false_and] at k0
    exact k0
  rw [bI_0]
  simp only [Bool.not_eq_false] at q3
  refine ⟨fun q4 => ?_, fun q4 => ?_⟩
  · simp only [Bool.not_eq_false] at q4
    have hh : ∀ τ, DM scR scF σ τ → K (some (.int (yrF P L w.toNatClampNeg s.toNatClampNeg n.toNatClampNeg k.toNatClampNeg 0 0))) τ := fun τ d => by
      have k1 := hK τ d
      rw [aYear, q, q2, q3, q4] at k1
      exact k1
    simp only [Bool.and_eq_true] at q4
    obtain ⟨X, rfl, hX⟩ := vWi_nat q
    obtain ⟨S, rfl, hS⟩ := vSg_nat q2
    obtain ⟨N, rfl, hN⟩ := vIn_nat q3
    obtain ⟨M, rfl, hM⟩ := vIn_nat q4.2
    rw [nI_clamp (by omega), nI_clamp (by omega), nI_clamp (by omega), nI_clamp (by omega)] at hh
    have key : ∀ m i c τ, m + i = M → DM scR scF σ τ → (∀ υ, DM scR scF σ υ → K (some (.int (yrF P L X S N m i c))) υ) → wX10_year_42 Γ l (nI X) (nI S) (nI N) (nI M) (nI c) (nI i) τ K := by
      intro m
      induction m with
      | zero =>
        intro i c τ h1 d hk
        exact tX10_year_42 ⟨fun _ => hk τ d, fun q => absurd (by simp (disch := omega) only [nL, nI_add, pk_mul, pk_sub, nI_clamp, nI_leI, nI_ltI, nI_eq]; omega) q⟩
      | succ m ih =>
        intro i c τ h1 d hk
        refine tX10_year_42 ⟨fun q => absurd q (by simp (disch := omega) only [nL, nI_add, pk_mul, pk_sub, nI_clamp, nI_leI, nI_ltI, nI_eq]; omega), fun _ => m_cop (h.sc d) (fun τ1 d1 g1 r1 e1 _ => rv (fun s3 e3 => ?_))⟩
        rw [e1] at e3
        have d3 : DM scR scF τ1 s3 := by
          rw [e3]
          exact DM.rf.wF (by simp [scF])
        have g3 := g1.dm d3 scR_off (by simp [scF])
        have r3 : MR s3 322 L := by
          rw [e3]
          intro j hj
          rw [sI_row, sA_off2 _ _ (by omega)]
          exact r1 j hj
        have es : s3.1 284 56 = nI (psd P) + nI i := by rw [e3, sI_at, if_pos ⟨rfl, rfl⟩]
        have dd3 : DM scR scF σ s3 := (d.tr d1 (fun _ z => z) (fun _ z => z)).tr d3 (fun _ z => z) (fun _ z => z)
        refine m_grows g3 r3 okL es (by omega) (fun τ4 d4 r4 => rv ?_)
        have g4 := g3.dm d4 wkR_off (by simp)
        have dd4 := dd3.sk d4 wk_R f53
        refine m_readsAnywhere g4.1 r4 (gwN_ok' okL N L okL (by omega)) hX hS (ri ?_)
        rw [bI_0, nI_1, nI_1]
        refine ⟨fun z => ih (i + 1) c τ4 (by omega) dd4 (fun υ du => ?_), fun z => ih (i + 1) (c + 1) τ4 (by omega) dd4 (fun υ du => ?_)⟩
        · have k := hk υ du
          rw [yrF, z, if_neg (by decide)] at k
          exact k
        · simp only [Bool.not_eq_false] at z
          have k := hk υ du
          rw [yrF, z, if_pos rfl] at k
          exact k
    exact key M 0 0 σ (by omega) DM.rf hh
  · rw [aYear, q4, Bool.and_false] at k0
    exact k0
end M8
