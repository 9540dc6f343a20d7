/-! the model: what is read -/
theorem cn_0 {f : Nat → Bool} : ∀ n, cn f n = 0 → ∀ j, j < n → f j = false
  | 0, _, _, hj => absurd hj (by omega)
  | n + 1, h, j, hj => by
    unfold cn at h
    by_cases e : j = n
    · subst e
      cases hf : f j with
      | false => rfl
      | true =>
        rw [hf, if_pos rfl] at h
        omega
    · exact cn_0 n (by omega) j (by omega)
theorem cn_a {f : Nat → Bool} : ∀ n, cn f n = n → ∀ j, j < n → f j = true
  | 0, _, _, hj => absurd hj (by omega)
  | n + 1, h, j, hj => by
    have b := cn_le f n
    unfold cn at h
    by_cases e : j = n
    · subst e
      cases hf : f j with
      | true => rfl
      | false =>
        rw [hf, if_neg (by decide)] at h
        omega
    · exact cn_a n (by split at h <;> omega) j (by omega)
theorem cn_z {f : Nat → Bool} : ∀ n, (∀ j, j < n → f j = false) → cn f n = 0
  | 0, _ => rfl
  | n + 1, h => by
    unfold cn
    rw [cn_z n (fun j hj => h j (by omega)), h n (by omega), if_neg (by decide)]
theorem cn_f {f : Nat → Bool} : ∀ n, (∀ j, j < n → f j = true) → cn f n = n
  | 0, _ => rfl
  | n + 1, h => by
    unfold cn
    rw [cn_f n (fun j hj => h j (by omega)), h n (by omega), if_pos rfl]
theorem sz_512 : ∀ n : Fin 512, (cn (fun k => decide (n.val / 2 ^ k % 2 = 1)) 9 = 0 ↔ n.val = 0) ∧ (cn (fun k => decide (n.val / 2 ^ k % 2 = 1)) 9 = 9 ↔ n.val = 511) := by decide +kernel
theorem szS_0 {P : PV} {s : Nat} (h : psg P s < 512) : szS P s = 0 ↔ psg P s = 0 := (sz_512 ⟨psg P s, h⟩).1
theorem szS_9 {P : PV} {s : Nat} (h : psg P s < 512) : szS P s = 9 ↔ psg P s = 511 := (sz_512 ⟨psg P s, h⟩).2
/-- the least that is left, from 999 on -/
def lstM (P : PV) (L : LV) (s x y : Nat) : Nat → Nat
  | 0 => 999
  | k + 1 => if pcut P s k then lstM P L s x y k else min (lstM P L s x y k) (L (c9 x y k))
theorem lstM_eq {P : PV} {L : LV} {s x y : Nat} (hL : ∀ k, k < 48 → L k ≤ 99) (hx : x + 2 < 8) (hy : y + 2 < 6) : ∀ k, k ≤ 9 → lstS P L s x y k = min 99 (lstM P L s x y k) ∧ lstM P L s x y k ≤ 999 ∧ ((∀ j, j < k → pcut P s j = true) ∨ lstM P L s x y k ≤ 99)
  | 0, _ => ⟨rfl, Nat.le_refl _, Or.inl (fun j hj => absurd hj (by omega))⟩
  | k + 1, hk => by
    obtain ⟨h1, h2, h3⟩ := lstM_eq (P := P) (s := s) hL hx hy k (by omega)
    have h4 := hL (c9 x y k) (by unfold c9; omega)
    unfold lstS lstM
    cases hc : pcut P s k with
    | true =>
      simp only [if_true]
      refine ⟨h1, h2, ?_⟩
      rcases h3 with h3 | h3
      · left
        intro j hj
        by_cases e : j = k
        · rw [e, hc]
        · exact h3 j (by omega)
      · exact Or.inr h3
    | false =>
      simp only [Bool.false_eq_true, if_false]
      refine ⟨?_, ?_, ?_⟩ <;> omega
section M4
variable {Γ : GE} {l : Launch} {σ : SS} {K : Option Value → SS → Prop} {v : Nat} {P : PV} {L : LV}
theorem m_c9 {x y k : Nat} (hk : k < 9) : ((8 * (nI y + (nI k / 3))) + nI x) + (nI k - nI k / 3 * 3) = nI (c9 x y k) := by
  rw [rem3 (by omega), div3 (by omega), show ((8 : Int32) * (nI y + nI (k / 3)) + nI x) + nI (k % 3) = nI (8 * (y + k / 3) + x + k % 3) by simp (disch := omega) only [nL, nI_add, pk_mul, pk_sub, nI_clamp, nI_leI, nI_ltI, nI_eq], show 8 * (y + k / 3) + x + k % 3 = c9 x y k by unfold c9; omega]
theorem m_leastLeft {s x y : Nat} (hg : MP σ v P) (hr : MR σ 322 L) (ok : LVok P L) (hs : s < pns P) (hx : x + 2 < 8) (hy : y + 2 < 6) (hK : K (some (.int (nI (lstM P L s x y 9)))) σ) : C2 Γ l mX10_leastLeft [.ref 284, .int (nI s), .int (nI x), .int (nI y)] σ K := by
  have pk := hg.2.2.2.2.2.2.2.2.2.2.2.2.2.2.2
  have s4 := pk.2.2.1
  have v1 := hg.1
  have key : ∀ n k, n + k = 9 → wX10_leastLeft_8 Γ l (nI s) (nI x) (nI y) (nI (lstM P L s x y k)) (nI k) σ K := by
    intro n
    induction n with
    | zero =>
      intro k h1
      have : k = 9 := by omega
      subst this
      exact tX10_leastLeft_8 ⟨fun _ => hK, fun q => absurd (by decide) q⟩
    | succ n ih =>
      intro k h1
      refine tX10_leastLeft_8 ⟨fun q => absurd q (by simp (disch := omega) only [nL, nI_add, pk_mul, pk_sub, nI_clamp, nI_leI, nI_ltI, nI_eq]; omega), fun _ => ?_⟩
      rw [m_ix9 hg, nI_clamp (n := 9 * (4 * v + s) + k) (by omega), hg.2.2.2.2.2.2.2.2.2.2.2.2.1 s k hs (by omega), bI_0, m_c9 (by omega), nI_1]
      have hc : c9 x y k < 48 := by unfold c9; omega
      rw [nI_clamp (n := c9 x y k) (by omega), hr _ (by omega)]
      have b1 := (lstM_eq (P := P) (s := s) (fun k hk => (ok.1 k hk).1) hx hy k (by omega)).2.1
      have b3 := (ok.1 (c9 x y k) hc).1
      have ih := ih (k + 1) (by omega)
      have v6 : vp_in (nI (c9 x y k)) 106 := vp_in_nI (by omega) (by omega)
      refine ⟨vp_in_nI (by omega) (by omega), fun q => ?_, fun q => ⟨v6, fun r => ?_, fun r => ⟨v6, fun v1 e1 => ?_⟩⟩⟩
      · simp only [Bool.not_eq_false] at q
        simp only [lstM, q, if_true] at ih
        exact ih
      · simp only [lstM, q, Bool.false_eq_true, if_false] at ih
        rw [nI_leI (by omega) (by omega)] at r
        rw [Nat.min_eq_left r] at ih
        exact ih
      · simp only [lstM, q, Bool.false_eq_true, if_false] at ih
        rw [nI_leI (by omega) (by omega)] at r
        rw [Nat.min_eq_right (by omega)] at ih
        rw [e1]
        exact ih
  exact tX10_leastLeft (key 9 0 rfl)
theorem m_mostCut {s x y : Nat} (hg : MP σ v P) (hr : MR σ 322 L) (ok : LVok P L) (hs : s < pns P) (hx : x + 2 < 8) (hy : y + 2 < 6) (hK : K (some (.int (nI (mstS P L s x y 9)))) σ) : C2 Γ l mX10_mostCut [.ref 284, .int (nI s), .int (nI x), .int (nI y)] σ K := by
  have pk := hg.2.2.2.2.2.2.2.2.2.2.2.2.2.2.2
  have s4 := pk.2.2.1
  have v1 := hg.1
  have key : ∀ n k, n + k = 9 → wX10_mostCut_6 Γ l (nI s) (nI x) (nI y) (nI (mstS P L s x y k)) (nI k) σ K := by
    intro n
    induction n with
    | zero =>
      intro k h1
      have : k = 9 := by omega
      subst this
      exact tX10_mostCut_6 ⟨fun _ => hK, fun q => absurd (by decide) q⟩
    | succ n ih =>
      intro k h1
      refine tX10_mostCut_6 ⟨fun q => absurd q (by simp (disch := omega) only [nL, nI_add, pk_mul, pk_sub, nI_clamp, nI_leI, nI_ltI, nI_eq]; omega), fun _ => ?_⟩
      rw [m_ix9 hg, nI_clamp (n := 9 * (4 * v + s) + k) (by omega), hg.2.2.2.2.2.2.2.2.2.2.2.2.1 s k hs (by omega), bI_0, m_c9 (by omega), nI_1]
      have hc : c9 x y k < 48 := by unfold c9; omega
      rw [nI_clamp (n := c9 x y k) (by omega), hr _ (by omega)]
      have b2 := mstS_le P (fun k h => (ok.1 k h).1) (s := s) hx hy k (by omega)
      have b3 := (ok.1 (c9 x y k) hc).1
      have ih := ih (k + 1) (by omega)
      refine ⟨vp_in_nI (by omega) (by omega), fun q => ?_, fun q => ⟨vp_in_nI (by omega) (by omega), m_most (by omega) (by omega) (ri ?_)⟩⟩
      · simp only [mstS, q, Bool.false_eq_true, if_false] at ih
        exact ih
      · simp only [Bool.not_eq_false] at q
        simp only [mstS, q, if_true] at ih
        exact ih
  exact tX10_mostCut (key 9 0 rfl)
theorem m_isPlain {s : Nat} (hg : MP σ v P) (hs : s < pns P) (hK : K (some (.int (bI (!readable P s)))) σ) : C2 Γ l mX10_isPlain [.ref 284, .int (nI s)] σ K := by
  have pk := hg.2.2.2.2.2.2.2.2.2.2.2.2.2.2.2
  have h5 := pk.2.2.2.2.2.2.2.2.2.2.2 s hs
  have b := cn_le (fun k => pcut P s k) 9
  have b' : szS P s ≤ 9 := b
  have z0 := szS_0 h5
  have z9 := szS_9 h5
  have e0 : (nI (szS P s) = 0) ↔ szS P s = 0 := by
    rw [show (0 : Int32) = nI 0 from rfl, nI_eq (by omega) (by omega)]
  have e9 : (nI (szS P s) = 9) ↔ szS P s = 9 := by
    rw [show (9 : Int32) = nI 9 from rfl, nI_eq (by omega) (by omega)]
  refine tX10_isPlain (m_crosses hg hs (ri ?_))
  rw [e0]
  refine ⟨fun q => ?_, fun q => m_crosses hg hs (ri ?_)⟩
  · have : readable P s = false := by
      unfold readable
      exact decide_eq_false (fun z => z.1 (z0.mp q))
    rw [this] at hK
    exact hK
  · rw [e9]
    refine ⟨fun r => ?_, fun r => ?_⟩
    · have : readable P s = true := by
        unfold readable
        exact decide_eq_true ⟨fun z => q (z0.mpr z), fun z => r (z9.mpr z)⟩
      rw [this] at hK
      exact hK
    · have : readable P s = false := by
        unfold readable
        exact decide_eq_false (fun z => z.2 (z9.mp r))
      rw [this] at hK
      exact hK
theorem m_standsOut {s x y : Nat} (hg : MP σ v P) (hr : MR σ 322 L) (ok : LVok P L) (hs : s < pns P) (hx : x + 2 < 8) (hy : y + 2 < 6) (hK : K (some (.int (stdS P L s x y))) σ) : C2 Γ l mX10_standsOut [.ref 284, .int (nI s), .int (nI x), .int (nI y)] σ K := by
  have pk := hg.2.2.2.2.2.2.2.2.2.2.2.2.2.2.2
  have h5 := pk.2.2.2.2.2.2.2.2.2.2.2 s hs
  refine tX10_standsOut (m_isPlain hg hs (ri ?_))
  rw [bI_0]
  unfold stdS at hK
  refine ⟨fun q => ?_, fun q => ?_⟩
  · have q2 : readable P s = true := by simpa using q
    rw [q2, if_pos rfl] at hK
    refine m_leastLeft hg hr ok hs hx hy (ri (m_mostCut hg hr ok hs hx hy (ri ?_)))
    have b := lstM_eq (P := P) (s := s) (fun k hk => (ok.1 k hk).1) hx hy 9 (by omega)
    have hne : ¬ ∀ j, j < 9 → pcut P s j = true := by
      intro z
      unfold readable at q2
      simp only [decide_eq_true_eq] at q2
      exact q2.2 ((szS_9 h5).mp (cn_f 9 z))
    have b9 : lstM P L s x y 9 ≤ 99 := by
      rcases b.2.2 with z | z
      · exact absurd z hne
      · exact z
    rw [b.1, Nat.min_eq_right b9] at hK
    exact hK
  · have q2 : readable P s = false := by simpa using q
    rw [q2, if_neg (by decide)] at hK
    exact hK
theorem m_ix4 {w : Nat} (h : MP σ v P) : (4 * σ.1 284 18) + nI w = nI (4 * v + w) := by
  rw [h.2.1]
  simp (disch := omega) only [nL, nI_add, pk_mul, pk_sub, nI_clamp, nI_leI, nI_ltI, nI_eq]
theorem m_sees {w x : Nat} (hg : MP σ v P) (hw : w < pnw P) (hx : x < 1000) (hK : K (some (.int (bI (seesS P w x)))) σ) : C2 Γ l mX10_sees [.ref 284, .int (nI w), .int (nI x)] σ K := by
  have pk := hg.2.2.2.2.2.2.2.2.2.2.2.2.2.2.2
  have w4 := pk.2.2.2.1
  have v1 := hg.1
  obtain ⟨g1, g2, g3⟩ := hg.2.2.2.2.2.2.2.2.2.2.2.2.2.1 w hw
  obtain ⟨p1, p2, p3⟩ := pk.2.2.2.2.2.2.2.2.2.1 w hw
  have v8 : vp_in (nI (4 * v + w)) 8 := vp_in_nI (by omega) (by omega)
  refine tX10_sees ?_
  rw [m_ix4 hg, nI_clamp (by omega), g1, g2, show nI x + 2 = nI (x + 2) from nI_add x 2, nI_ltI (by omega) (by omega), nI_ltI (by omega) (by omega)]
  unfold seesS at hK
  refine ⟨v8, fun q => ?_, fun q => ⟨v8, fun r => ?_, fun r => ?_⟩⟩
  · rw [decide_eq_false (by omega)] at hK
    exact hK
  · rw [decide_eq_false (by omega)] at hK
    exact hK
  · rw [decide_eq_true (by omega)] at hK
    exact hK
theorem m_doesRead {w s x y : Nat} (hg : MP σ v P) (hr : MR σ 322 L) (ok : LVok P L) (hw : w < pnw P) (hs : s < pns P) (hx : x + 2 < 8) (hy : y + 2 < 6) (hK : K (some (.int (bI (rdS P L w s x y)))) σ) : C2 Γ l mX10_doesRead [.ref 284, .int (nI w), .int (nI s), .int (nI x), .int (nI y)] σ K := by
  have pk := hg.2.2.2.2.2.2.2.2.2.2.2.2.2.2.2
  have w4 := pk.2.2.2.1
  have v1 := hg.1
  obtain ⟨g1, g2, g3⟩ := hg.2.2.2.2.2.2.2.2.2.2.2.2.2.1 w hw
  obtain ⟨p1, p2, p3⟩ := pk.2.2.2.2.2.2.2.2.2.1 w hw
  have v8 : vp_in (nI (4 * v + w)) 8 := vp_in_nI (by omega) (by omega)
  refine tX10_doesRead (m_isPlain hg hs (ri ?_))
  rw [bI_0]
  unfold rdS at hK
  refine ⟨fun q => ?_, fun q => m_sees hg hw (by omega) (ri ?_)⟩
  · have q2 : readable P s = false := by simpa using q
    have hl : stdS P L s x y < nI (psh P w) := by
      rw [stdS, q2, if_neg (by decide)]
      have := nI_pos (n := psh P w) (by omega)
      exact Int32.lt_of_lt_of_le (by decide) (Int32.not_lt.mp this)
    rw [decide_eq_false (fun z => z hl), Bool.and_false] at hK
    exact hK
  · rw [bI_0]
    refine ⟨fun r => ?_, fun r => m_standsOut hg hr ok hs hx hy (ri ?_)⟩
    · rw [r, Bool.false_and] at hK
      exact hK
    · simp only [Bool.not_eq_false] at r
      rw [m_ix4 hg, nI_clamp (by omega), g3]
      rw [r, Bool.true_and] at hK
      refine ⟨v8, fun z => ?_, fun z => ?_⟩
      · rw [decide_eq_false (fun u => u z)] at hK
        exact hK
      · rw [decide_eq_true z] at hK
        exact hK
theorem m_anyReads {s x y : Nat} (hg : MP σ v P) (hr : MR σ 322 L) (ok : LVok P L) (hs : s < pns P) (hx : x + 2 < 8) (hy : y + 2 < 6) (hK : K (some (.int (bI (rdW P L s x y)))) σ) : C2 Γ l mX10_anyReads [.ref 284, .int (nI s), .int (nI x), .int (nI y)] σ K := by
  have pk := hg.2.2.2.2.2.2.2.2.2.2.2.2.2.2.2
  have w4 := pk.2.2.2.1
  have v1 := hg.1
  have key : ∀ n w, n + w = pnw P → K (some (.int (bI ((List.range' w n).any (fun w => rdS P L w s x y))))) σ → wX10_anyReads_3 Γ l (nI s) (nI x) (nI y) (nI w) σ K := by
    intro n
    induction n with
    | zero =>
      intro w h1 h2
      refine tX10_anyReads_3 ⟨by rw [hg.2.1]; exact vp2 v1, fun q => h2, fun q => absurd ?_ q⟩
      rw [hg.2.1, nI_clamp (by omega), hg.2.2.2.2.2.1]
      simp (disch := omega) only [nL, nI_add, pk_mul, pk_sub, nI_clamp, nI_leI, nI_ltI, nI_eq]
      omega
    | succ n ih =>
      intro w h1 h2
      rw [List.range'_succ, List.any_cons] at h2
      refine tX10_anyReads_3 ⟨by rw [hg.2.1]; exact vp2 v1, fun q => absurd q ?_, fun _ => m_doesRead hg hr ok (by omega) hs hx hy (ri ?_)⟩
      · rw [hg.2.1, nI_clamp (by omega), hg.2.2.2.2.2.1]
        simp (disch := omega) only [nL, nI_add, pk_mul, pk_sub, nI_clamp, nI_leI, nI_ltI, nI_eq]
        omega
      · rw [bI_0, nI_1]
        refine ⟨fun q => ih (w + 1) (by omega) ?_, fun q => ?_⟩
        · simp only [q, Bool.false_or] at h2
          exact h2
        · simp only [Bool.not_eq_false] at q
          simp only [q, Bool.true_or] at h2
          exact h2
  exact tX10_anyReads (key (pnw P) 0 (by omega) hK)
theorem m_readsAnywhere_x {w s y : Nat} (hg : MP σ v P) (hr : MR σ 322 L) (ok : LVok P L) (hw : w < pnw P) (hs : s < pns P) (hy : y < pr P - 2)
    (kk : K (some (.int (bI ((remL (pw P - 2) (pr P - 2) (y + 1)).any (fun q => rdS P L w s q.1 q.2))))) σ → wX10_readsAnywhere_2 Γ l (nI w) (nI s) (nI (y + 1)) σ K) :
    ∀ n x, n + x = pw P - 2 → K (some (.int (bI ((rowL (pw P - 2) y x ++ remL (pw P - 2) (pr P - 2) (y + 1)).any (fun q => rdS P L w s q.1 q.2))))) σ → wX10_readsAnywhere_20 Γ l (nI w) (nI s) (nI y) (nI x) σ K := by
  have pk := hg.2.2.2.2.2.2.2.2.2.2.2.2.2.2.2
  have w8 := pk.1
  have r6 := pk.2.1
  have v1 := hg.1
  intro n
  induction n with
  | zero =>
    intro x h1 h3
    rw [rowL_nil (by omega), List.nil_append] at h3
    refine tX10_readsAnywhere_20 ⟨by rw [hg.2.1]; exact vp2 v1, fun q => by rw [nI_1]; exact kk h3, fun q => absurd ?_ q⟩
    rw [hg.2.1, nI_clamp (by omega), hg.2.2.1]
    simp (disch := omega) only [nL, nI_add, pk_mul, pk_sub, nI_clamp, nI_leI, nI_ltI, nI_eq]
    omega
  | succ n ih =>
    intro x h1 h3
    rw [rowL_cons (by omega), List.cons_append, List.any_cons] at h3
    refine tX10_readsAnywhere_20 ⟨by rw [hg.2.1]; exact vp2 v1, fun q => absurd q ?_, fun _ => ?_⟩
    · rw [hg.2.1, nI_clamp (by omega), hg.2.2.1]
      simp (disch := omega) only [nL, nI_add, pk_mul, pk_sub, nI_clamp, nI_leI, nI_ltI, nI_eq]
      omega
    · refine m_doesRead hg hr ok hw hs (by omega) (by omega) (ri ?_)
      rw [bI_0, nI_1]
      refine ⟨fun q => ih (x + 1) (by omega) ?_, fun q => ?_⟩
      · simp only [q, Bool.false_or] at h3
        exact h3
      · simp only [Bool.not_eq_false] at q
        simp only [q, Bool.true_or] at h3
        exact h3
theorem m_readsAnywhere {w s : Nat} (hg : MP σ v P) (hr : MR σ 322 L) (ok : LVok P L) (hw : w < pnw P) (hs : s < pns P) (hK : K (some (.int (bI (rdA P L w s)))) σ) : C2 Γ l mX10_readsAnywhere [.ref 284, .int (nI w), .int (nI s)] σ K := by
  have pk := hg.2.2.2.2.2.2.2.2.2.2.2.2.2.2.2
  have w8 := pk.1
  have r6 := pk.2.1
  have v1 := hg.1
  have key : ∀ n y, n + y = pr P - 2 → K (some (.int (bI ((remL (pw P - 2) (pr P - 2) y).any (fun q => rdS P L w s q.1 q.2))))) σ → wX10_readsAnywhere_2 Γ l (nI w) (nI s) (nI y) σ K := by
    intro n
    induction n with
    | zero =>
      intro y h1 h3
      rw [remL_nil (by omega)] at h3
      refine tX10_readsAnywhere_2 ⟨by rw [hg.2.1]; exact vp2 v1, fun q => h3, fun q => absurd ?_ q⟩
      rw [hg.2.1, nI_clamp (by omega), hg.2.2.2.1]
      simp (disch := omega) only [nL, nI_add, pk_mul, pk_sub, nI_clamp, nI_leI, nI_ltI, nI_eq]
      omega
    | succ n ih =>
      intro y h1 h3
      rw [remL_cons (by omega)] at h3
      refine tX10_readsAnywhere_2 ⟨by rw [hg.2.1]; exact vp2 v1, fun q => absurd q ?_, fun _ => ?_⟩
      · rw [hg.2.1, nI_clamp (by omega), hg.2.2.2.1]
        simp (disch := omega) only [nL, nI_add, pk_mul, pk_sub, nI_clamp, nI_leI, nI_ltI, nI_eq]
        omega
      · exact m_readsAnywhere_x hg hr ok hw hs (by omega) (fun z => ih (y + 1) (by omega) z) (pw P - 2) 0 (by omega) h3
  exact tX10_readsAnywhere (key (pr P - 2) 0 (by omega) hK)
/-- nothing is read by any window -/
def qtM (P : PV) (L : LV) : Bool := !((List.range' 0 (pnw P)).any (fun w => (List.range' 0 (pns P)).any (fun s => rdA P L w s)))
theorem m_isQuiet (hg : MP σ v P) (hr : MR σ 322 L) (ok : LVok P L) (hK : K (some (.int (bI (qtM P L)))) σ) : C2 Γ l mX10_isQuiet [.ref 284] σ K := by
  have pk := hg.2.2.2.2.2.2.2.2.2.2.2.2.2.2.2
  have s4 := pk.2.2.1
  have w4 := pk.2.2.2.1
  have v1 := hg.1
  have ks : ∀ w, w < pnw P → ∀ R : Bool, (K (some (.int (bI (!R)))) σ → wX10_isQuiet_2 Γ l (nI (w + 1)) σ K) → ∀ n s, n + s = pns P → K (some (.int (bI (!((List.range' s n).any (fun s => rdA P L w s) || R))))) σ → wX10_isQuiet_17 Γ l (nI w) (nI s) σ K := by
    intro w hw R kk n
    induction n with
    | zero =>
      intro s h1 h2
      refine tX10_isQuiet_17 ⟨by rw [hg.2.1]; exact vp2 v1, fun q => by rw [nI_1]; exact kk h2, fun q => absurd ?_ q⟩
      rw [hg.2.1, nI_clamp (by omega), hg.2.2.2.2.1]
      simp (disch := omega) only [nL, nI_add, pk_mul, pk_sub, nI_clamp, nI_leI, nI_ltI, nI_eq]
      omega
    | succ n ih =>
      intro s h1 h2
      rw [List.range'_succ, List.any_cons] at h2
      refine tX10_isQuiet_17 ⟨by rw [hg.2.1]; exact vp2 v1, fun q => absurd q ?_, fun _ => m_readsAnywhere hg hr ok hw (by omega) (ri ?_)⟩
      · rw [hg.2.1, nI_clamp (by omega), hg.2.2.2.2.1]
        simp (disch := omega) only [nL, nI_add, pk_mul, pk_sub, nI_clamp, nI_leI, nI_ltI, nI_eq]
        omega
      · rw [bI_0, nI_1]
        refine ⟨fun q => ih (s + 1) (by omega) ?_, fun q => ?_⟩
        · simp only [q, Bool.false_or] at h2
          exact h2
        · simp only [Bool.not_eq_false] at q
          simp only [q, Bool.true_or] at h2
          exact h2
  have kw : ∀ n w, n + w = pnw P → K (some (.int (bI (!((List.range' w n).any (fun w => (List.range' 0 (pns P)).any (fun s => rdA P L w s))))))) σ → wX10_isQuiet_2 Γ l (nI w) σ K := by
    intro n
    induction n with
    | zero =>
      intro w h1 h2
      refine tX10_isQuiet_2 ⟨by rw [hg.2.1]; exact vp2 v1, fun q => h2, fun q => absurd ?_ q⟩
      rw [hg.2.1, nI_clamp (by omega), hg.2.2.2.2.2.1]
      simp (disch := omega) only [nL, nI_add, pk_mul, pk_sub, nI_clamp, nI_leI, nI_ltI, nI_eq]
      omega
    | succ n ih =>
      intro w h1 h2
      rw [List.range'_succ, List.any_cons] at h2
      refine tX10_isQuiet_2 ⟨by rw [hg.2.1]; exact vp2 v1, fun q => absurd q ?_, fun _ => ?_⟩
      · rw [hg.2.1, nI_clamp (by omega), hg.2.2.2.2.2.1]
        simp (disch := omega) only [nL, nI_add, pk_mul, pk_sub, nI_clamp, nI_leI, nI_ltI, nI_eq]
        omega
      · exact ks w (by omega) _ (fun z => ih (w + 1) (by omega) z) (pns P) 0 (by omega) h2
  exact tX10_isQuiet (kw (pnw P) 0 (by omega) hK)
theorem m_cuts9 {s x y : Nat} (hg : MP σ v P) (hr : MR σ 322 L) (hs : s < pns P) (hx : x + 2 < 8) (hy : y + 2 < 6) (hK : ∀ τ, DM [322] [] σ τ → MR τ 322 (ct9 P s x y L 9) → K none τ) : C2 Γ l mX10_cuts9 [.ref 284, .int (nI s), .int (nI x), .int (nI y)] σ K := by
  have pk := hg.2.2.2.2.2.2.2.2.2.2.2.2.2.2.2
  have s4 := pk.2.2.1
  have v1 := hg.1
  have key : ∀ n k τ, n + k = 9 → DM [322] [] σ τ → MR τ 322 (ct9 P s x y L k) → wX10_cuts9_3 Γ l (nI s) (nI x) (nI y) (nI k) τ K := by
    intro n
    induction n with
    | zero =>
      intro k τ h1 d r
      have : k = 9 := by omega
      subst this
      exact tX10_cuts9_3 ⟨fun _ => hK τ d r, fun q => absurd (by decide) q⟩
    | succ n ih =>
      intro k τ h1 d r
      have gt := hg.dm d (fun b hb => by simp at hb; omega) (by simp)
      refine tX10_cuts9_3 ⟨fun q => absurd q (by simp (disch := omega) only [nL, nI_add, pk_mul, pk_sub, nI_clamp, nI_leI, nI_ltI, nI_eq]; omega), fun _ => ?_⟩
      rw [m_ix9 gt, nI_clamp (n := 9 * (4 * v + s) + k) (by omega), gt.2.2.2.2.2.2.2.2.2.2.2.2.1 s k hs (by omega), bI_0, m_c9 (by omega), nI_1]
      have hc : c9 x y k < 48 := by unfold c9; omega
      refine ⟨vp_in_nI (by omega) (by omega), fun q => ih (k + 1) τ (by omega) d ?_, fun q => ⟨vp_in_nI (by omega) (by omega), fun s1 e1 => ?_⟩⟩
      · unfold ct9
        rw [q, if_neg (by decide)]
        exact r
      · simp only [Bool.not_eq_false] at q
        rw [nI_clamp (by omega)] at e1
        rw [e1]
        refine ih (k + 1) _ (by omega) (d.wI (by simp) (by omega)) ?_
        unfold ct9
        rw [q, if_pos rfl]
        intro j hj
        rw [sI_at]
        unfold upL
        by_cases e : j = c9 x y k
        · rw [if_pos ⟨rfl, e⟩, if_pos e]
          rfl
        · rw [if_neg (fun z => e z.2), if_neg e]
          exact r j hj
  exact tX10_cuts9 (key 9 0 σ rfl DM.rf hr)
end M4
