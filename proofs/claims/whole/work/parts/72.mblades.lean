/-! the model: blades, sure, ask -/
theorem cn_skip {F : Nat → Bool} {G : Nat} : ∀ m, (∀ g, G ≤ g → g < G + m → F g = false) → cn F (G + m) = cn F G
  | 0, _ => rfl
  | m + 1, h => by
    show cn F (G + m + 1) = _
    unfold cn
    rw [cn_skip m (fun g h1 h2 => h g h1 (by omega)), h (G + m) (by omega) (by omega), if_neg (by decide)]
    cases G <;> rfl
theorem cm_skip {F : Nat → Bool} {v : Nat → Nat} {G : Nat} : ∀ m, (∀ g, G ≤ g → g < G + m → F g = false) → cm F v (G + m) = cm F v G
  | 0, _ => rfl
  | m + 1, h => by
    show cm F v (G + m + 1) = _
    rw [cm, h (G + m) (by omega) (by omega), if_neg (by decide), cm_skip m (fun g h1 h2 => h g h1 (by omega))]
def lkR : List Nat := [319, 320, 322, 323]
section MD1
variable {Γ : GE} {l : Launch} {σ τ : SS} {K : Option Value → SS → Prop} {v : Nat} {T : List Nat} {f : Int32} {P : PV} {L : LV} {H : List LV} {O : Nat → Option LV} {D : List (Nat × Nat × Nat)} {W : Nat}
/-- what the bare lawn was like -/
def WasI (σ : SS) (P : PV) (w : Nat) : Prop := ∀ ago, ago ≤ 30 → ago ≤ w → ∀ k, k < 48 → σ.1 328 (48 * ago + k) = nI (barL P (w - ago) k)
theorem m_fillsWas (h : MSv σ v T f P L H O D) (ok : OKS T P L H O D W) (hK : ∀ τ, DM [319, 320, 322, 323, 328] [53, 56] σ τ → WasI τ P (L 104) → K none τ) : C2 Γ l mX10_fillsWas [.ref 284] σ K := by
  have pk := h.1.1.pk
  have o1 := ok.1
  have o2 := ok.2.1.2
  have v4 : vp_in (104 : Int32) 106 := vp_in_nI (n := 104) (by omega) (by omega)
  have off : offM [319, 320, 322, 323, 328] := fun b hb => by
    simp at hb
    omega
  refine tX10_fillsWas (m_begins h.1.1 (fun τ0 d0 r0 e0 => rv ?_))
  have key : ∀ m wk τ, m + wk = L 104 + 1 → DM [319, 320, 322, 323, 328] [53, 56] σ τ → τ.1 284 56 = nI (psd P) → MR τ 322 (barL P wk) → (∀ ago, ago ≤ 30 → ago ≤ L 104 → L 104 < wk + ago → ∀ k, k < 48 → τ.1 328 (48 * ago + k) = nI (barL P (L 104 - ago) k)) → wX10_fillsWas_6 Γ l (nI wk) τ K := by
    intro m
    induction m with
    | zero =>
      intro wk τ h1 d e56 r a
      have e321 : τ.1 321 104 = nI (L 104) := by rw [d.r 321 (by simp) (by omega), h.2.1 _ (by omega)]
      refine tX10_fillsWas_6 ⟨v4, fun _ => hK τ d (fun ago g1 g2 k hk => a ago g1 g2 (by omega) k hk), fun q => absurd ?_ q⟩
      rw [show Int32.toNatClampNeg 104 = 104 from rfl, e321]
      simp (disch := omega) only [nL, nI_add, pk_mul, pk_sub, nI_clamp, nI_leI, nI_ltI, nI_eq]
      omega
    | succ m ih =>
      intro wk τ h1 d e56 r a
      have e321 : τ.1 321 104 = nI (L 104) := by rw [d.r 321 (by simp) (by omega), h.2.1 _ (by omega)]
      refine tX10_fillsWas_6 ⟨v4, fun q => absurd q ?_, fun _ => ⟨v4, ?_⟩⟩
      · rw [show Int32.toNatClampNeg 104 = 104 from rfl, e321]
        simp (disch := omega) only [nL, nI_add, pk_mul, pk_sub, nI_clamp, nI_leI, nI_ltI, nI_eq]
        omega
      · rw [show Int32.toNatClampNeg 104 = 104 from rfl, e321, show nI (L 104) - nI wk = nI (L 104 - wk) from pk_sub (by omega)]
        have bo := barL_ok pk (w := wk) (by omega)
        have next : ∀ τ, DM [319, 320, 322, 323, 328] [53, 56] σ τ → τ.1 284 56 = nI (psd P) → MR τ 322 (barL P wk) → (∀ ago, ago ≤ 30 → ago ≤ L 104 → L 104 < wk + 1 + ago → ∀ k, k < 48 → τ.1 328 (48 * ago + k) = nI (barL P (L 104 - ago) k)) → C2 Γ l mX10_grassGrows [.ref 284] τ (Rv fun s1_ => (wX10_fillsWas_6 Γ l (nI wk + 1) s1_ K)) := by
          intro τ d e56 r a
          have gt := h.1.dm d off (by simp)
          refine m_grassGrows gt r bo.1 e56 (fun τ2 d2 r2 => rv ?_)
          rw [nI_1]
          rw [bo.2, ← barL_s pk (by omega)] at r2
          refine ih (wk + 1) τ2 (by omega) (d.tr d2 (by simp [wkR]) (by simp)) ((d2.2.1 56 (by simp)).trans e56) r2 (fun ago g1 g2 g3 k hk => ?_)
          rw [d2.r 328 (by simp [wkR]) (by omega)]
          exact a ago g1 g2 (by omega) k hk
        have inner : ∀ n k τ, n + k = 48 → DM [319, 320, 322, 323, 328] [53, 56] σ τ → τ.1 284 56 = nI (psd P) → MR τ 322 (barL P wk) → (∀ ago, ago ≤ 30 → ago ≤ L 104 → L 104 < wk + ago → ∀ k, k < 48 → τ.1 328 (48 * ago + k) = nI (barL P (L 104 - ago) k)) → (∀ j, j < k → τ.1 328 (48 * (L 104 - wk) + j) = nI (barL P wk j)) → wX10_fillsWas_29 Γ l (nI wk) (nI (L 104 - wk)) (nI k) τ K := by
          intro n
          induction n with
          | zero =>
            intro k τ h2 d e56 r a b
            have : k = 48 := by omega
            subst this
            refine tX10_fillsWas_29 ⟨fun _ => next τ d e56 r (fun ago g1 g2 g3 k hk => ?_), fun q => absurd (by decide) q⟩
            by_cases e : L 104 < wk + ago
            · exact a ago g1 g2 e k hk
            · have : ago = L 104 - wk := by omega
              rw [this, b k hk, show L 104 - (L 104 - wk) = wk by omega]
          | succ n ihk =>
            intro k τ h2 d e56 r a b
            refine tX10_fillsWas_29 ⟨fun q => absurd q (by simp (disch := omega) only [nL, nI_add, pk_mul, pk_sub, nI_clamp, nI_leI, nI_ltI, nI_eq]; omega), fun _ => ⟨fun q => next τ d e56 r (fun ago g1 g2 g3 k hk => ?_), fun q => ?_⟩⟩
            · rw [show (30 : Int32) = nI 30 from rfl, nI_ltI (by omega) (by omega)] at q
              exact a ago g1 g2 (by omega) k hk
            · rw [show (30 : Int32) = nI 30 from rfl, nI_ltI (by omega) (by omega)] at q
              rw [show (48 : Int32) * nI (L 104 - wk) + nI k = nI (48 * (L 104 - wk) + k) by simp (disch := omega) only [nL, nI_add, pk_mul, pk_sub, nI_clamp, nI_leI, nI_ltI, nI_eq], nI_clamp (n := 48 * (L 104 - wk) + k) (by omega), nI_clamp (n := k) (by omega), r k (by omega), nI_1]
              refine ⟨vp_in_nI (by omega) (by omega), vp_in_nI (by omega) (by omega), fun s5 e5 => ?_⟩
              rw [e5]
              refine ihk (k + 1) _ (by omega) (d.wI (by simp) (by omega)) (by rw [sI_row, sA_off2 _ _ (by omega)]; exact e56) (fun j hj => ?_) (fun ago g1 g2 g3 j hj => ?_) (fun j hj => ?_)
              · rw [sI_row, sA_off2 _ _ (by omega)]
                exact r j hj
              · rw [sI_at, if_neg (fun z => by omega)]
                exact a ago g1 g2 g3 j hj
              · rw [sI_at]
                by_cases e : j = k
                · rw [if_pos ⟨rfl, by omega⟩, e]
                · rw [if_neg (fun z => e (by omega))]
                  exact b j (by omega)
        exact inner 48 0 τ rfl d e56 r a (fun j hj => absurd hj (by omega))
  refine key (L 104 + 1) 0 τ0 (by omega) (d0.mo (by simp) (by simp)) e0 r0 (fun ago g1 g2 g3 => absurd g3 (by omega))
def bbF : List Nat := [53, 56]
theorem m_isBlade {s x y ago k : Nat} (h : MSv σ v T f P L H O D) (ok : OKS T P L H O D W) (hw : WasI σ P (L 104)) (hs : s < pns P) (hx : x + 2 < pw P) (hy : y + 2 < pr P) (ha : ago ≤ 30) (ha2 : ago ≤ L 104) (hk : k ≤ D.length)
    (hK : ∀ τ, DM [319, 320, 322, 323] [53, 56] σ τ → MR τ 322 (bldL P (L 104) s x y ago) → K (some (.int (bI ((D.take k).all (fun d => decide (bldL P (L 104) s x y ago (8 * d.2.1 + d.1) = d.2.2)))))) τ) : C2 Γ l mX10_isBlade [.ref 284, .int (nI s), .int (nI x), .int (nI y), .int (nI ago), .int (nI k)] σ K := by
  have pk := h.1.1.pk
  have w8 := pk.1
  have r6 := pk.2.1
  have o1 := ok.1
  have o2 := ok.2.1.2
  have v4 : vp_in (104 : Int32) 106 := vp_in_nI (n := 104) (by omega) (by omega)
  have off : offM [319, 320, 322, 323] := fun b hb => by
    simp at hb
    omega
  have bo := barL_ok pk (w := L 104 - ago) (by omega)
  refine tX10_isBlade (m_begins h.1.1 (fun τ0 d0 r0 e0 => rv ⟨v4, v4, fun s3 e3 => ?_⟩))
  rw [show Int32.toNatClampNeg 104 = 104 from rfl, d0.r 321 (by simp) (by omega), h.2.1 _ (by omega), show nI (L 104) - nI ago = nI (L 104 - ago) from pk_sub ha2] at e3
  have d3 : DM [319, 320, 322, 323] [53, 56] σ s3 := by
    rw [e3]
    exact (d0.mo (by simp) (by simp)).wI (by simp) (by omega)
  have key : ∀ n j τ, n + j = 48 → DM [319, 320, 322, 323] [53, 56] σ τ → τ.1 284 56 = nI (psd P) → (∀ i, i < 106 → (i < j ∨ 48 ≤ i) → τ.1 322 i = nI (barL P (L 104 - ago) i)) → wX10_isBlade_24 Γ l (nI s) (nI x) (nI y) (nI ago) (nI k) (nI j) τ K := by
    intro n
    induction n with
    | zero =>
      intro j τ h1 d e56 a
      have : j = 48 := by omega
      subst this
      have gt := h.1.dm d off (by simp)
      have rt : MR τ 322 (barL P (L 104 - ago)) := fun i hi => a i hi (by omega)
      refine tX10_isBlade_24 ⟨fun _ => m_cuts9 gt.1 rt hs (by omega) (by omega) (fun τ1 d1 r1 => rv ?_), fun q => absurd (by decide) q⟩
      have g1 := gt.dm d1 (fun b hb => by simp at hb; omega) (by simp)
      have c9 := ct9_ok (P := P) (s := s) (x := x) (y := y) bo.1 (by omega) (by omega) 9 (by omega)
      have c4 := c9.2 104 (by omega)
      have e1 : τ1.1 284 56 = nI (psd P) := (d1.2.1 56 (by simp)).trans e56
      refine m_grows g1 r1 c9.1 e1 (by have := bo.2; omega) (fun τ2 d2 r2 => rv ?_)
      have dd : DM [319, 320, 322, 323] [53, 56] σ τ2 := (d.tr d1 (by simp) (by simp)).tr d2 (by simp [wkR]) (by simp)
      have r2' : MR τ2 322 (bldL P (L 104) s x y ago) := r2
      have okB := gwN_ok' c9.1 (seed := nI (psd P)) ago _ c9.1 (by have := bo.2; omega)
      have hD := h.2.2.2.2.2.1.dm dd (by simp) (by simp) (by simp)
      have cmp : ∀ n i, n + i = k → K (some (.int (bI (((D.drop i).take n).all (fun d => decide (bldL P (L 104) s x y ago (8 * d.2.1 + d.1) = d.2.2)))))) τ2 → wX10_isBlade_73 Γ l (nI k) (nI i) τ2 K := by
        intro n
        induction n with
        | zero =>
          intro i h2 hk2
          rw [List.take_zero, List.all_nil] at hk2
          have e : i = k := by omega
          subst e
          exact tX10_isBlade_73 ⟨fun _ => hk2, fun q => absurd (Int32.le_refl _) q⟩
        | succ n ihn =>
          intro i h2 hk2
          have hi : i < D.length := by omega
          have l20 := hD.1
          obtain ⟨f6, f7⟩ := hD.2.2 i hi
          have dm := ok.2.2.2.2.1 D[i] (List.getElem_mem hi)
          have bb := (okB.1 (8 * D[i].2.1 + D[i].1) (by omega)).1
          have bb' : bldL P (L 104) s x y ago (8 * D[i].2.1 + D[i].1) ≤ 99 := bb
          have v2 : vp_in (nI i) 20 := vp_in_nI (by omega) (by omega)
          refine tX10_isBlade_73 ⟨fun q => absurd q (by simp (disch := omega) only [nL, nI_add, pk_mul, pk_sub, nI_clamp, nI_leI, nI_ltI, nI_eq]; omega), fun _ => ⟨v2, ?_⟩⟩
          rw [nI_clamp (n := i) (by omega), f6, f7, nI_clamp (n := 8 * D[i].2.1 + D[i].1) (by omega), r2' _ (by omega), nI_eq (by omega) (by omega), nI_1]
          rw [List.drop_eq_getElem_cons hi, List.take_succ_cons, List.all_cons] at hk2
          refine ⟨vp_in_nI (by omega) (by omega), v2, fun q => ihn (i + 1) (by omega) ?_, fun q => ?_⟩
          · rw [decide_eq_true q, Bool.true_and] at hk2
            exact hk2
          · rw [decide_eq_false q, Bool.false_and] at hk2
            exact hk2
      refine cmp k 0 (by omega) ?_
      rw [List.drop_zero]
      exact hK τ2 dd r2'
    | succ n ih =>
      intro j τ h1 d e56 a
      refine tX10_isBlade_24 ⟨fun q => absurd q (by simp (disch := omega) only [nL, nI_add, pk_mul, pk_sub, nI_clamp, nI_leI, nI_ltI, nI_eq]; omega), fun _ => ?_⟩
      rw [show (48 : Int32) * nI ago + nI j = nI (48 * ago + j) by simp (disch := omega) only [nL, nI_add, pk_mul, pk_sub, nI_clamp, nI_leI, nI_ltI, nI_eq], nI_clamp (n := 48 * ago + j) (by omega), nI_clamp (n := j) (by omega), d.r 328 (by simp) (by omega), hw ago ha ha2 j (by omega), nI_1]
      refine ⟨vp_in_nI (by omega) (by omega), vp_in_nI (by omega) (by omega), fun s5 e5 => ?_⟩
      rw [e5]
      refine ih (j + 1) _ (by omega) (d.wI (by simp) (by omega)) (by rw [sI_row, sA_off2 _ _ (by omega)]; exact e56) (fun i hi g => ?_)
      rw [sI_at]
      by_cases e : i = j
      · rw [if_pos ⟨rfl, e⟩, e]
      · rw [if_neg (fun z => e z.2)]
        exact a i hi (by omega)
  refine key 48 0 s3 rfl d3 (by rw [e3, sI_row, sA_off2 _ _ (by omega)]; exact e0) (fun i hi g => ?_)
  rw [e3, sI_at]
  by_cases e : i = 104
  · rw [if_pos ⟨rfl, e⟩, e, bo.2]
  · rw [if_neg (fun z => e z.2), r0 i hi, barL_z i (by omega) e]
    unfold begL
    rw [if_neg (by omega)]
/-- what was noted of the guesses ahead of G -/
def BI (P : PV) (w : Nat) (F : Nat → Bool) (G : Nat) (τ : SS) : Prop := τ.1 284 65 = nI (cn F G) ∧ (∀ j, j < 4 → cn F G ≠ 0 → τ.1 329 j = cm F (prt (nI j)) G) ∧ ∀ j h, j < 48 → h < 100 → τ.1 330 (100 * j + h) = nI (tlN F (fun g => bldC P w g j) h G)
theorem BI.skip {w G G' : Nat} {F : Nat → Bool} (h : BI P w F G τ) (hG : G ≤ G') (hF : ∀ g, G ≤ g → g < G' → F g = false) : BI P w F G' τ := by
  obtain ⟨m, rfl⟩ := Nat.le.dest hG
  obtain ⟨h1, h2, h3⟩ := h
  refine ⟨?_, fun j hj hc => ?_, fun j h hj hh => ?_⟩
  · rw [cn_skip m hF]
    exact h1
  · rw [cn_skip m hF] at hc
    rw [cm_skip m hF]
    exact h2 j hj hc
  · unfold tlN
    rw [cn_skip m (fun g g1 g2 => by rw [hF g g1 g2, Bool.false_and])]
    exact h3 j h hj hh
theorem BI.dm {w G : Nat} {F : Nat → Bool} (h : BI P w F G σ) (d : DM [319, 320, 322, 323] [53, 56] σ τ) : BI P w F G τ := by
  unfold BI
  rw [d.2.1 65 (by simp), d.r 329 (by simp) (by omega), d.r 330 (by simp) (by omega)]
  exact h
theorem m_notes {j is : Nat} {F : Nat → Bool} {u : Nat → Nat} {G : Nat} (hj : j < 4) (h65 : σ.1 284 65 = nI (cn F G)) (hG : G < 2976) (hFG : F G = true) (hu : u G = is) (h9 : cn F G ≠ 0 → σ.1 329 j = cm F u G) (hK : ∀ τ, τ = sI σ 329 j (cm F u (G + 1)) → K none τ) : C2 Γ l mX10_notes [.ref 284, .int (nI j), .int (nI is)] σ K := by
  have b := cn_le F G
  have e0 : (σ.1 284 65 = 0) ↔ cn F G = 0 := by
    rw [h65, show (0 : Int32) = nI 0 from rfl, nI_eq (by omega) (by omega)]
  have v4 : vp_in (nI j) 4 := vp_in_nI hj (by omega)
  refine tX10_notes ?_
  rw [e0, nI_clamp (by omega)]
  rw [cm, hFG, if_pos rfl, hu] at hK
  refine ⟨fun q => ⟨v4, fun s1 e1 => ?_⟩, fun q => ⟨v4, ?_⟩⟩
  · rw [if_pos (Or.inl q)] at hK
    exact hK s1 e1
  · rw [h9 q]
    refine ⟨fun z => ⟨v4, fun s2 e2 => ?_⟩, fun z => ⟨v4, fun s3 e3 => ?_⟩⟩
    · rw [if_neg (fun t => t.elim q z)] at hK
      exact hK s2 e2
    · rw [if_pos (Or.inr z)] at hK
      exact hK s3 e3

def fbR : List Nat := [319, 320, 322, 323, 329, 330]
theorem fb_off : offM fbR := fun b hb => by
  simp [fbR] at hb
  omega
theorem gA_of {s y x ago : Nat} (hx : x < 6) (hy : y < 4) (ha : ago < 31) : gS_ ((s * 24 + y * 6 + x) * 31 + ago) = s ∧ gX ((s * 24 + y * 6 + x) * 31 + ago) = x ∧ gY ((s * 24 + y * 6 + x) * 31 + ago) = y ∧ gAge ((s * 24 + y * 6 + x) * 31 + ago) = ago := by
  have e1 : ((s * 24 + y * 6 + x) * 31 + ago) / 31 = s * 24 + y * 6 + x := by omega
  unfold gS_ gX gY gAge
  rw [e1]
  refine ⟨?_, ?_, ?_, ?_⟩ <;> omega
theorem fit_no {P : PV} {w : Nat} {D : List (Nat × Nat × Nat)} {k g : Nat} (h : ¬ (gAge g ≤ w ∧ gS_ g < pns P ∧ gX g + 2 < pw P ∧ gY g + 2 < pr P)) : fitS P w D k g = false := by
  unfold fitS gOk
  rw [decide_eq_false h, Bool.false_and]
theorem m_fb_150 {s x y ago k : Nat} {F : Nat → Bool} {G : Nat} (hG : G < 2976) (hFG : F G = true) {B : LV} (hB : ∀ j, j < 48 → B j = bldC P (L 104) G j ∧ B j ≤ 99)
    (hr : MR σ 322 B) (h65 : σ.1 284 65 = nI (cn F (G + 1))) (h9 : ∀ j, j < 4 → cn F (G + 1) ≠ 0 → σ.1 329 j = cm F (prt (nI j)) (G + 1)) (h0 : ∀ j h, j < 48 → h < 100 → σ.1 330 (100 * j + h) = nI (tlN F (fun g => bldC P (L 104) g j) h G))
    (kk : ∀ τ, DM fbR [53, 56, 65] σ τ → BI P (L 104) F (G + 1) τ → wX10_fillsBlades_85 Γ l (nI k) (nI s) (nI y) (nI x) (nI (ago + 1)) τ K) : wX10_fillsBlades_150 Γ l (nI k) (nI s) (nI y) (nI x) (nI ago) 0 σ K := by
  have key : ∀ n j τ, n + j = 48 → DM [330] [] σ τ → (∀ i h, i < 48 → h < 100 → τ.1 330 (100 * i + h) = nI (tlN F (fun g => bldC P (L 104) g i) h (if i < j then G + 1 else G))) → wX10_fillsBlades_150 Γ l (nI k) (nI s) (nI y) (nI x) (nI ago) (nI j) τ K := by
    intro n
    induction n with
    | zero =>
      intro j τ h1 d a
      have : j = 48 := by omega
      subst this
      refine tX10_fillsBlades_150 ⟨fun _ => ?_, fun q => absurd (by decide) q⟩
      rw [nI_1]
      refine kk τ (d.mo (by simp [fbR]) (by simp)) ⟨?_, fun j hj hc => ?_, fun i h hi hh => ?_⟩
      · rw [d.2.1 65 (by simp)]
        exact h65
      · rw [d.r 329 (by simp) (by omega)]
        exact h9 j hj hc
      · rw [a i h hi hh, if_pos hi]
    | succ n ih =>
      intro j τ h1 d a
      refine tX10_fillsBlades_150 ⟨fun q => absurd q (by simp (disch := omega) only [nL, nI_add, pk_mul, pk_sub, nI_clamp, nI_leI, nI_ltI, nI_eq]; omega), fun _ => ?_⟩
      obtain ⟨b1, b2⟩ := hB j (by omega)
      rw [nI_clamp (n := j) (by omega), d.r 322 (by simp) (by omega), hr j (by omega), show (100 : Int32) * nI j + nI (B j) = nI (100 * j + B j) by simp (disch := omega) only [nL, nI_add, pk_mul, pk_sub, nI_clamp, nI_leI, nI_ltI, nI_eq], nI_clamp (n := 100 * j + B j) (by omega), a j (B j) (by omega) (by omega), if_neg (by omega), nI_1, nI_1]
      have v8 : vp_in (nI (100 * j + B j)) 4800 := vp_in_nI (by omega) (by omega)
      refine ⟨vp_in_nI (by omega) (by omega), v8, v8, fun s1 e1 => ?_⟩
      rw [e1]
      refine ih (j + 1) _ (by omega) (d.wI (by simp) (by omega)) (fun i h hi hh => ?_)
      rw [sI_at]
      by_cases e : 100 * i + h = 100 * j + B j
      · have ei : i = j := by omega
        have eh : h = B j := by omega
        rw [if_pos ⟨rfl, e⟩, if_pos (by omega), ei, eh]
        congr 1
        unfold tlN
        rw [cn, hFG, b1, decide_eq_true (by rfl), Bool.and_self, if_pos rfl]
      · rw [if_neg (fun z => e z.2), a i h hi hh]
        by_cases ei : i = j
        · have eh : ¬ bldC P (L 104) G j = h := by
            rw [← b1]
            intro z
            exact e (by rw [ei, z])
          rw [if_neg (by omega), if_pos (by omega), ei]
          congr 1
          unfold tlN
          rw [cn, decide_eq_false eh, Bool.and_false, if_neg (by decide), Nat.add_zero]
        · by_cases e2 : i < j
          · rw [if_pos e2, if_pos (by omega)]
          · rw [if_neg e2, if_neg (by omega)]
  refine key 48 0 σ rfl DM.rf (fun i h hi hh => ?_)
  rw [if_neg (by omega)]
  exact h0 i h hi hh
theorem m_agoMost (h : MSv σ v T f P L H O D) (h4 : L 104 < 2 ^ 30) (hK : K (some (.int (nI (min 30 (L 104))))) σ) : C2 Γ l mX10_agoMost [.ref 284] σ K := by
  have v4 : vp_in (104 : Int32) 106 := vp_in_nI (n := 104) (by omega) (by omega)
  refine tX10_agoMost ⟨v4, ?_⟩
  rw [show Int32.toNatClampNeg 104 = 104 from rfl, h.2.1 _ (by omega), show (30 : Int32) ≤ nI (L 104) ↔ 30 ≤ L 104 from nI_leI (a := 30) (by omega) (by omega)]
  refine ⟨fun q => ?_, fun q => ⟨v4, ?_⟩⟩
  · rw [Nat.min_eq_left q] at hK
    exact hK
  · rw [Nat.min_eq_right (by omega)] at hK
    exact hK
theorem m_fb_85 {s x y k : Nat} (h : MSv σ v T f P L H O D) (ok : OKS T P L H O D W) (hs : s < pns P) (hx : x + 2 < pw P) (hy : y + 2 < pr P) (hk : k ≤ D.length)
    (kk : ∀ τ, DM fbR [53, 56, 65] σ τ → WasI τ P (L 104) → BI P (L 104) (fitS P (L 104) D k) ((s * 24 + y * 6 + (x + 1)) * 31) τ → wX10_fillsBlades_66 Γ l (nI k) (nI s) (nI y) (nI (x + 1)) τ K) :
    ∀ m ago τ, m + ago = 31 → DM fbR [53, 56, 65] σ τ → WasI τ P (L 104) → BI P (L 104) (fitS P (L 104) D k) ((s * 24 + y * 6 + x) * 31 + ago) τ → wX10_fillsBlades_85 Γ l (nI k) (nI s) (nI y) (nI x) (nI ago) τ K := by
  have pk := h.1.1.pk
  have w8 := pk.1
  have r6 := pk.2.1
  have s4 := pk.2.2.1
  have o1 := ok.1
  have o2 := ok.2.1.2
  have hsc : ∀ {τ : SS}, DM fbR [53, 56, 65] σ τ → DM scR scF σ τ := fun d => d.mo (by simp [fbR, scR]) (by simp [scF])
  intro m
  induction m with
  | zero =>
    intro ago τ h1 d hw b
    refine tX10_fillsBlades_85 (m_agoMost (h.sc (hsc d)) (by omega) (ri ?_))
    rw [nI_ltI (by omega) (by omega), nI_1]
    refine ⟨fun _ => kk τ d hw ?_, fun q => absurd (by omega) q⟩
    rw [show (s * 24 + y * 6 + (x + 1)) * 31 = (s * 24 + y * 6 + x) * 31 + ago by omega]
    exact b
  | succ m ih =>
    intro ago τ h1 d hw b
    have ht := h.sc (hsc d)
    refine tX10_fillsBlades_85 (m_agoMost ht (by omega) (ri ?_))
    rw [nI_ltI (by omega) (by omega), nI_1, nI_1]
    refine ⟨fun q => kk τ d hw (b.skip (by omega) (fun g g1 g2 => fit_no ?_)), fun q => ?_⟩
    · have : gAge g = g - (s * 24 + y * 6 + x) * 31 := by
        unfold gAge
        omega
      omega
    have hago : ago ≤ 30 ∧ ago ≤ L 104 := by omega
    obtain ⟨i1, i2, i3, i4⟩ := gA_of (s := s) (y := y) (x := x) (ago := ago) (by omega) (by omega) (by omega)
    have hG : (s * 24 + y * 6 + x) * 31 + ago < 2976 := by omega
    have hgo : gOk P (L 104) ((s * 24 + y * 6 + x) * 31 + ago) = true := by
      unfold gOk
      rw [i1, i2, i3, i4]
      exact decide_eq_true ⟨hago.2, hs, hx, hy⟩
    refine m_isBlade ht ok hw hs hx hy hago.1 hago.2 hk (fun τ1 d1 r1 => ri ?_)
    have dd1 : DM fbR [53, 56, 65] σ τ1 := d.tr d1 (by simp [fbR]) (by simp)
    have hw1 : WasI τ1 P (L 104) := by
      unfold WasI
      rw [d1.r 328 (by simp) (by omega)]
      exact hw
    have b1 := b.dm d1
    have hfit : fitS P (L 104) D k ((s * 24 + y * 6 + x) * 31 + ago) = (D.take k).all (fun d => decide (bldL P (L 104) s x y ago (8 * d.2.1 + d.1) = d.2.2)) := by
      unfold fitS agS
      rw [hgo, Bool.true_and, i1, i2, i3, i4]
    rw [← hfit, bI_0]
    refine ⟨fun z => ?_, fun z => ih (ago + 1) τ1 (by omega) dd1 hw1 ?_⟩
    · simp only [Bool.not_eq_false] at z
      have p0 : prt (nI 0) ((s * 24 + y * 6 + x) * 31 + ago) = s := by
        rw [prt, if_pos (by decide), i1]
      have p1 : prt (nI 1) ((s * 24 + y * 6 + x) * 31 + ago) = x := by
        rw [prt, if_neg (by decide), if_pos (by decide), i2]
      have p2 : prt (nI 2) ((s * 24 + y * 6 + x) * 31 + ago) = y := by
        rw [prt, if_neg (by decide), if_neg (by decide), if_pos (by decide), i3]
      have p3 : prt (nI 3) ((s * 24 + y * 6 + x) * 31 + ago) = ago := by
        rw [prt, if_neg (by decide), if_neg (by decide), if_neg (by decide), i4]
      refine m_notes (j := 0) (by omega) b1.1 hG z p0 (b1.2.1 0 (by omega)) (fun t0 f0 => rv ?_)
      have q0 : t0.1 284 65 = τ1.1 284 65 := by rw [f0, sI_row, sA_off2 _ _ (by omega)]
      have u0 : ∀ j, j ≠ 0 → t0.1 329 j = τ1.1 329 j := fun j hj => by rw [f0, sI_at, if_neg (fun z => hj z.2)]
      have w0 : ∀ b, b ≠ 329 → t0.1 b = τ1.1 b := fun b hb => by rw [f0, sI_row, sA_off2 _ _ hb]
      refine m_notes (j := 1) (F := fitS P (L 104) D k) (G := (s * 24 + y * 6 + x) * 31 + ago) (by omega) (q0.trans b1.1) hG z p1 (fun hc => by rw [u0 1 (by omega)]; exact b1.2.1 1 (by omega) hc) (fun t1 f1 => rv ?_)
      have q1 : t1.1 284 65 = τ1.1 284 65 := by rw [f1, sI_row, sA_off2 _ _ (by omega), q0]
      have u1 : ∀ j, j ≠ 1 → t1.1 329 j = t0.1 329 j := fun j hj => by rw [f1, sI_at, if_neg (fun z => hj z.2)]
      have w1 : ∀ b, b ≠ 329 → t1.1 b = τ1.1 b := fun b hb => by rw [f1, sI_row, sA_off2 _ _ hb, w0 b hb]
      refine m_notes (j := 2) (F := fitS P (L 104) D k) (G := (s * 24 + y * 6 + x) * 31 + ago) (by omega) (q1.trans b1.1) hG z p2 (fun hc => by rw [u1 2 (by omega), u0 2 (by omega)]; exact b1.2.1 2 (by omega) hc) (fun t2 f2 => rv ?_)
      have q2 : t2.1 284 65 = τ1.1 284 65 := by rw [f2, sI_row, sA_off2 _ _ (by omega), q1]
      have u2 : ∀ j, j ≠ 2 → t2.1 329 j = t1.1 329 j := fun j hj => by rw [f2, sI_at, if_neg (fun z => hj z.2)]
      have w2 : ∀ b, b ≠ 329 → t2.1 b = τ1.1 b := fun b hb => by rw [f2, sI_row, sA_off2 _ _ hb, w1 b hb]
      refine m_notes (j := 3) (F := fitS P (L 104) D k) (G := (s * 24 + y * 6 + x) * 31 + ago) (by omega) (q2.trans b1.1) hG z p3 (fun hc => by rw [u2 3 (by omega), u1 3 (by omega), u0 3 (by omega)]; exact b1.2.1 3 (by omega) hc) (fun t3 f3 => rv (fun s13 e13 => ?_))
      have q3 : t3.1 284 65 = τ1.1 284 65 := by rw [f3, sI_row, sA_off2 _ _ (by omega), q2]
      have u3 : ∀ j, j ≠ 3 → t3.1 329 j = t2.1 329 j := fun j hj => by rw [f3, sI_at, if_neg (fun z => hj z.2)]
      have w3 : ∀ b, b ≠ 329 → t3.1 b = τ1.1 b := fun b hb => by rw [f3, sI_row, sA_off2 _ _ hb, w2 b hb]
      rw [q3, b1.1, nI_1] at e13
      have x13 : ∀ b, b ≠ 284 → s13.1 b = t3.1 b := fun b hb => by rw [e13, sI_row, sA_off2 _ _ hb]
      have cn1 : cn (fitS P (L 104) D k) ((s * 24 + y * 6 + x) * 31 + ago + 1) = cn (fitS P (L 104) D k) ((s * 24 + y * 6 + x) * 31 + ago) + 1 := by
        rw [cn, z, if_pos rfl]
      have d13 : DM fbR [53, 56, 65] τ1 s13 := by
        rw [e13, f3, f2, f1, f0]
        exact ((((DM.rf.wI (by simp [fbR]) (by omega)).wI (by simp [fbR]) (by omega)).wI (by simp [fbR]) (by omega)).wI (by simp [fbR]) (by omega)).wF (by simp)
      have n9 : ∀ j, j < 4 → s13.1 329 j = cm (fitS P (L 104) D k) (prt (nI j)) ((s * 24 + y * 6 + x) * 31 + ago + 1) := fun j hj => by
        rw [x13 329 (by omega)]
        match j, hj with
        | 0, _ => rw [u3 0 (by omega), u2 0 (by omega), u1 0 (by omega), f0, sI_at, if_pos ⟨rfl, rfl⟩]
        | 1, _ => rw [u3 1 (by omega), u2 1 (by omega), f1, sI_at, if_pos ⟨rfl, rfl⟩]
        | 2, _ => rw [u3 2 (by omega), f2, sI_at, if_pos ⟨rfl, rfl⟩]
        | 3, _ => rw [f3, sI_at, if_pos ⟨rfl, rfl⟩]
        | j + 4, hj => omega
      have c9 := ct9_ok (P := P) (s := s) (x := x) (y := y) (barL_ok pk (w := L 104 - ago) (by omega)).1 (by omega) (by omega) 9 (by omega)
      have okB := gwN_ok' c9.1 (seed := nI (psd P)) ago _ c9.1 (by have := c9.2 104 (by omega); have := (barL_ok pk (w := L 104 - ago) (by omega)).2; omega)
      refine m_fb_150 (L := L) (F := fitS P (L 104) D k) (B := bldL P (L 104) s x y ago) hG z (fun j hj => ⟨by rw [bldC, i1, i2, i3, i4], (okB.1 j hj).1⟩) ?_ ?_ (fun j hj _ => n9 j hj) (fun j h hj hh => ?_) (fun τ2 d2 b2 => ?_)
      · intro i hi
        rw [x13 322 (by omega), w3 322 (by omega)]
        exact r1 i hi
      · rw [e13, sI_at, if_pos ⟨rfl, rfl⟩, cn1]
      · rw [x13 330 (by omega), w3 330 (by omega)]
        exact b1.2.2 j h hj hh
      · have dd2 := (dd1.tr d13 (fun _ z => z) (fun _ z => z)).tr d2 (fun _ z => z) (fun _ z => z)
        refine ih (ago + 1) τ2 (by omega) dd2 ?_ b2
        unfold WasI
        rw [d2.r 328 (by simp [fbR]) (by omega), d13.r 328 (by simp [fbR]) (by omega)]
        exact hw1
    · refine b1.skip (by omega) (fun g g1 g2 => ?_)
      rw [show g = (s * 24 + y * 6 + x) * 31 + ago by omega]
      exact z
end MD1
