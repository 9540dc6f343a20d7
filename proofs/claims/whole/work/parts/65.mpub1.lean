/-! the model: its whole state, and what it answers -/
def MT (σ : SS) (T : List Nat) : Prop := T.length ≤ 2000 ∧ σ.1 284 2 = nI T.length ∧ ∀ i (h : i < T.length), σ.1 285 i &&& 255 = nI T[i]
def MH (σ : SS) (H : List LV) : Prop := H.length ≤ 30 ∧ σ.1 284 59 = nI H.length ∧ ∀ j (h : j < H.length) k, k < 106 → σ.1 325 (106 * (H.length - 1 - j) + k) = nI (H[j] k)
def MO (σ : SS) (O : Nat → Option LV) : Prop := ∀ s, s < 3 → σ.1 331 s = bI (O s).isSome ∧ ∀ M, O s = some M → ∀ k, k < 106 → σ.1 332 (106 * s + k) = nI (M k)
def MD (σ : SS) (D : List (Nat × Nat × Nat)) : Prop := D.length ≤ 20 ∧ σ.1 284 61 = nI D.length ∧ ∀ i (h : i < D.length), σ.1 326 i = nI (8 * D[i].2.1 + D[i].1) ∧ σ.1 327 i = nI D[i].2.2
/-- a word as the model keeps it -/
def kwV (c : List Nat) : Int64 := c.foldl (fun n c => 27 * n + Int64.ofNat (c - 96)) 0
def kwL : List (List Nat) := [[114, 111, 119], [115, 105, 103, 110], [119, 105, 110, 100, 111, 119], [116, 97, 108, 107], [103, 114, 111, 119, 115], [102, 101, 101, 100, 115], [102, 105, 110, 101, 115], [104, 101, 105, 103, 104, 116], [114, 97, 105, 110], [115, 101, 101, 100], [105, 102], [116, 104, 101, 110], [101, 108, 115, 101], [116, 97, 108, 108], [115, 117, 110], [119, 101, 101, 107], [119, 101, 116], [102, 111, 111, 100], [97, 99, 114, 111, 115, 115], [100, 111, 119, 110], [98, 101, 115, 105, 100, 101], [115, 105, 122, 101]]
def MK (σ : SS) : Prop := ∀ k (h : k < kwL.length), σ.2.1 291 k = kwV kwL[k]
def MSv (σ : SS) (v : Nat) (T : List Nat) (f : Int32) (P : PV) (L : LV) (H : List LV) (O : Nat → Option LV) (D : List (Nat × Nat × Nat)) : Prop :=
  MG σ v P ∧ MR σ 321 L ∧ MT σ T ∧ MH σ H ∧ MO σ O ∧ MD σ D ∧ σ.1 284 17 = f ∧ MK σ
def MS (σ : SS) (T : List Nat) (f : Int32) (P : PV) (L : LV) (H : List LV) (O : Nat → Option LV) (D : List (Nat × Nat × Nat)) : Prop := ∃ v, MSv σ v T f P L H O D
/-- rows and fields that hold nothing between two calls -/
def scR : List Nat := [319, 320, 322, 323, 324, 328, 329, 330]
def scF : List Nat := [53, 56, 65]
theorem scR_off : offM scR := fun b hb => by
  simp [scR] at hb
  omega
/-- the class's rows are as they were -/
def Cm (σ τ : SS) : Prop := (∀ b, b < 284 → τ.1 b = σ.1 b) ∧ (∀ b, b < 284 → τ.2.1 b = σ.2.1 b) ∧ τ.2.2 = σ.2.2
theorem Cm.rf {σ : SS} : Cm σ σ := ⟨fun _ _ => rfl, fun _ _ => rfl, rfl⟩
theorem Cm.tr {σ τ υ : SS} (h : Cm σ τ) (g : Cm τ υ) : Cm σ υ := ⟨fun b q => (g.1 b q).trans (h.1 b q), fun b q => (g.2.1 b q).trans (h.2.1 b q), g.2.2.trans h.2.2⟩
theorem DM.cm {S F : List Nat} {σ τ : SS} (d : DM S F σ τ) (h : ∀ b, b ∈ S → 284 ≤ b) : Cm σ τ :=
  ⟨fun b q => d.1 b (fun z => by have := h b z; omega) (by omega), fun b _ => by rw [d.2.2], by rw [d.2.2]⟩
theorem DM.scm {σ τ : SS} (d : DM scR scF σ τ) : Cm σ τ := d.cm (fun b hb => by
  simp [scR] at hb
  omega)
section M6
variable {Γ : GE} {l : Launch} {σ τ : SS} {K : Option Value → SS → Prop} {v : Nat} {T : List Nat} {f : Int32} {P : PV} {L : LV} {H : List LV} {O : Nat → Option LV} {D : List (Nat × Nat × Nat)} {W : Nat} {S F : List Nat}
theorem MT.dm (h : MT σ T) (d : DM S F σ τ) (h1 : 285 ∉ S) (h2 : 2 ∉ F) : MT τ T := by
  unfold MT
  rw [d.2.1 2 h2, d.1 285 h1 (by omega)]
  exact h
theorem MH.dm (h : MH σ H) (d : DM S F σ τ) (h1 : 325 ∉ S) (h2 : 59 ∉ F) : MH τ H := by
  unfold MH
  rw [d.2.1 59 h2, d.1 325 h1 (by omega)]
  exact h
theorem MO.dm (h : MO σ O) (d : DM S F σ τ) (h1 : 331 ∉ S) (h2 : 332 ∉ S) : MO τ O := by
  unfold MO
  rw [d.1 331 h1 (by omega), d.1 332 h2 (by omega)]
  exact h
theorem MD.dm (h : MD σ D) (d : DM S F σ τ) (h1 : 326 ∉ S) (h2 : 327 ∉ S) (h3 : 61 ∉ F) : MD τ D := by
  unfold MD
  rw [d.2.1 61 h3, d.1 326 h1 (by omega), d.1 327 h2 (by omega)]
  exact h
theorem MK.dm (h : MK σ) (d : DM S F σ τ) : MK τ := by
  unfold MK
  rw [d.2.2]
  exact h
theorem MSv.sc (h : MSv σ v T f P L H O D) (d : DM scR scF σ τ) : MSv τ v T f P L H O D := by
  obtain ⟨h1, h2, h3, h4, h5, h6, h7, h8⟩ := h
  exact ⟨h1.dm d scR_off (by simp [scF]), h2.dm d (by simp [scR]) (by omega), h3.dm d (by simp [scR]) (by simp [scF]), h4.dm d (by simp [scR]) (by simp [scF]), h5.dm d (by simp [scR]) (by simp [scR]), h6.dm d (by simp [scR]) (by simp [scR]) (by simp [scF]), (d.2.1 17 (by simp [scF])).trans h7, h8.dm d⟩
theorem MS.sc (h : MS σ T f P L H O D) (d : DM scR scF σ τ) : MS τ T f P L H O D := by
  obtain ⟨v, h⟩ := h
  exact ⟨v, h.sc d⟩
theorem MP.pk (h : MP σ v P) : PVok P := h.2.2.2.2.2.2.2.2.2.2.2.2.2.2.2
theorem MP.vv (h : MP σ v P) : vp_in (σ.1 284 18) 2 := by
  rw [h.2.1]
  exact vp2 h.1
theorem MP.ev (h : MP σ v P) : Int32.toNatClampNeg (σ.1 284 18) = v := by
  have := h.1
  rw [h.2.1, nI_clamp (by omega)]
theorem MP.eW (h : MP σ v P) : σ.1 294 (Int32.toNatClampNeg (σ.1 284 18)) = nI (pw P) := by rw [h.ev, h.2.2.1]
theorem MP.eR (h : MP σ v P) : σ.1 295 (Int32.toNatClampNeg (σ.1 284 18)) = nI (pr P) := by rw [h.ev, h.2.2.2.1]
theorem MP.eS (h : MP σ v P) : σ.1 297 (Int32.toNatClampNeg (σ.1 284 18)) = nI (pns P) := by rw [h.ev, h.2.2.2.2.1]
theorem MP.eN (h : MP σ v P) : σ.1 299 (Int32.toNatClampNeg (σ.1 284 18)) = nI (pnw P) := by rw [h.ev, h.2.2.2.2.2.1]
theorem m_cop (h : MSv σ v T f P L H O D) (hK : ∀ τ, DM scR scF σ τ → MG τ v P → MR τ 322 L → τ.1 284 56 = nI (psd P) → MR τ 321 L → K none τ) : C2 Γ l mX10_copies [.ref 284] σ K := by
  refine m_copies h.1.1 h.2.1 (fun τ d r e => ?_)
  have d2 : DM scR scF σ τ := d.mo (by simp [scR]) (by simp [scF])
  exact hK τ d2 (h.sc d2).1 r e (h.sc d2).2.1
theorem r_place (h : MS σ T f P L H O D) (hK : K (some (.int f)) σ) : C2 Γ l mX10_place [.ref 284] σ K := by
  obtain ⟨v, h⟩ := h
  refine tX10_place ?_
  rw [h.2.2.2.2.2.2.1]
  exact hK
theorem r_cell {x y w : Int32} (h : MS σ T f P L H O D) (ok : OKS T P L H O D W) (hK : ∀ τ, DM scR scF σ τ → K (some (.int (aCell P L x y w))) τ) : C2 Γ l mX10_cell [.ref 284, .int x, .int y, .int w] σ K := by
  obtain ⟨v, h⟩ := h
  have pk := h.1.1.pk
  have w8 := pk.1
  have r6 := pk.2.1
  have v1 := h.1.1.1
  refine tX10_cell (m_isCell h.1.1 (ri ?_))
  rw [bI_0]
  refine ⟨fun q => ?_, fun q => ?_⟩
  · simp only [Bool.not_eq_false] at q
    obtain ⟨X, Y, rfl, rfl, hX, hY⟩ := vC_nat q
    refine m_cop h (fun τ d g r e56 _ => rv ?_)
    have k0 := hK τ d
    rw [aCell, q, if_pos rfl, nI_clamp (by omega), nI_clamp (by omega)] at k0
    rw [m_ix8, m_ix56, m_ix48 g.1]
    refine ⟨fun e => ⟨vp_in_nI (by omega) (by omega), ?_⟩, fun e => ⟨vp_in_nI (by omega) (by omega), ?_⟩, fun e => ⟨vp_in_nI (by omega) (by omega), ?_⟩, fun e => ?_, fun e0 e1 e2 e3 => ?_⟩
    · subst e
      rw [if_pos rfl] at k0
      rw [nI_clamp (by omega), r _ (by omega)]
      exact k0
    · subst e
      rw [if_neg (by decide), if_pos rfl] at k0
      rw [nI_clamp (by omega), g.1.2.2.2.2.2.2.2.2.2.2.2.1 X Y hX hY]
      exact k0
    · subst e
      rw [if_neg (by decide), if_neg (by decide), if_pos rfl] at k0
      rw [nI_clamp (by omega), r _ (by omega)]
      exact k0
    · subst e
      refine m_isGrass g.1 hX hY (ri ?_)
      rw [bI_0]
      rw [if_neg (by decide), if_neg (by decide), if_neg (by decide), if_pos rfl] at k0
      refine ⟨fun e => ?_, fun e => ?_⟩
      · rw [e] at k0
        exact k0
      · refine m_growsBy g r ok.2.1.1 hX hY (fun τ2 d2 => ri ?_)
        have k1 := hK τ2 (d.tr d2 (by simp [scR]) (by simp [scF]))
        simp only [Bool.not_eq_false] at e
        rw [aCell, q, if_pos rfl, nI_clamp (by omega), nI_clamp (by omega), if_neg (by decide), if_neg (by decide), if_neg (by decide), if_pos rfl, e] at k1
        exact k1
    · rw [if_neg e0, if_neg e1, if_neg e2, if_neg e3] at k0
      exact k0
  · have k0 := hK σ DM.rf
    rw [aCell, q] at k0
    exact k0
theorem r_sign_k {s : Nat} (h : MSv σ v T f P L H O D) (ok : OKS T P L H O D W) (hs : s < pns P) (hK : K (some (.int (nI (knwS P L s (pnw P))))) σ) :
    ∀ n w, n + w = pnw P → wX10_sign_47 Γ l (nI s) (nI (knwS P L s w)) (nI w) σ K := by
  have g := h.1.1
  have pk := g.pk
  have s4 := pk.2.2.1
  have n4 := pk.2.2.2.1
  intro n
  induction n with
  | zero =>
    intro w hw
    have : w = pnw P := by omega
    subst this
    refine tX10_sign_47 ⟨g.vv, fun _ => hK, fun q => absurd ?_ q⟩
    rw [g.eN]
    exact Int32.le_refl _
  | succ n ih =>
    intro w hw
    refine tX10_sign_47 ⟨g.vv, fun q => absurd q ?_, fun _ => ?_⟩
    · rw [g.eN]
      simp (disch := omega) only [nL, nI_add, pk_mul, pk_sub, nI_clamp, nI_leI, nI_ltI, nI_eq]
      omega
    · have b16 := ok.2.1.1.2.2.1 w (by omega)
      rw [show (100 : Int32) + nI w = nI (100 + w) by simp (disch := omega) only [nL, nI_add, pk_mul, pk_sub, nI_clamp, nI_leI, nI_ltI, nI_eq], nI_clamp (by omega), h.2.1 _ (by omega), bit16 _ b16 s (by omega), one_shl w (by omega), nI_or, nI_1]
      have e1 : nI (L (100 + w) / 2 ^ s % 2) = 1 ↔ L (100 + w) / 2 ^ s % 2 = 1 := by
        rw [show (1 : Int32) = nI 1 from rfl, nI_eq (by omega) (by omega)]
      rw [e1]
      have ih := ih (w + 1) (by omega)
      refine ⟨vp_in_nI (by omega) (by omega), fun q => ?_, fun q => ?_⟩
      · rw [knwS, show L (100 + w) / 2 ^ s % 2 = 0 by omega, Nat.zero_mul, Nat.or_zero] at ih
        exact ih
      · rw [knwS, q, Nat.one_mul] at ih
        exact ih
theorem r_sign {s w : Int32} (h : MS σ T f P L H O D) (ok : OKS T P L H O D W) (hK : K (some (.int (aSign P L s w))) σ) : C2 Γ l mX10_sign [.ref 284, .int s, .int w] σ K := by
  obtain ⟨v, h⟩ := h
  have g := h.1.1
  have pk := g.pk
  have s4 := pk.2.2.1
  refine tX10_sign (m_isSign g (ri ?_))
  rw [bI_0]
  refine ⟨fun q => ?_, fun q => ?_⟩
  · simp only [Bool.not_eq_false] at q
    obtain ⟨X, rfl, hX⟩ := vSg_nat q
    rw [aSign, q, if_pos rfl, nI_clamp (by omega)] at hK
    refine ⟨fun e => ?_, fun e => ?_, fun e => ?_, fun e0 e1 e2 => ?_⟩
    · subst e
      rw [if_pos rfl] at hK
      exact m_crosses g hX (ri hK)
    · subst e
      rw [if_neg (by decide), if_pos rfl] at hK
      exact r_sign_k h ok hX hK (pnw P) 0 rfl
    · subst e
      rw [if_neg (by decide), if_neg (by decide), if_pos rfl] at hK
      rw [show (96 : Int32) + nI X = nI (96 + X) by simp (disch := omega) only [nL, nI_add, pk_mul, pk_sub, nI_clamp, nI_leI, nI_ltI, nI_eq]]
      refine ⟨vp_in_nI (by omega) (by omega), ?_⟩
      rw [nI_clamp (by omega), h.2.1 _ (by omega)]
      exact hK
    · rw [if_neg e0, if_neg e1, if_neg e2] at hK
      exact hK
  · rw [aSign, q] at hK
    exact hK
theorem r_window {x w : Int32} (h : MS σ T f P L H O D) (hK : K (some (.int (aWin P L x w))) σ) : C2 Γ l mX10_window [.ref 284, .int x, .int w] σ K := by
  obtain ⟨v, h⟩ := h
  have g := h.1.1
  have pk := g.pk
  have n4 := pk.2.2.2.1
  have v1 := g.1
  refine tX10_window (m_isWindow g (ri ?_))
  rw [bI_0]
  refine ⟨fun q => ?_, fun q => ?_⟩
  · simp only [Bool.not_eq_false] at q
    obtain ⟨X, rfl, hX⟩ := vWi_nat q
    have v8 : vp_in (nI (4 * v + X)) 8 := vp_in_nI (by omega) (by omega)
    obtain ⟨g1, g2, g3⟩ := g.2.2.2.2.2.2.2.2.2.2.2.2.2.1 X hX
    have g4 := g.2.2.2.2.2.2.2.2.2.2.2.2.2.2.1 X (by omega)
    rw [aWin, q, if_pos rfl, nI_clamp (by omega)] at hK
    rw [m_ix4 g, show (100 : Int32) + nI X = nI (100 + X) by simp (disch := omega) only [nL, nI_add, pk_mul, pk_sub, nI_clamp, nI_leI, nI_ltI, nI_eq], nI_clamp (n := 4 * v + X) (by omega), nI_clamp (n := 100 + X) (by omega)]
    refine ⟨fun e => ⟨v8, ?_⟩, fun e => ⟨v8, ?_⟩, fun e => ⟨v8, ?_⟩, fun e => ⟨vp_in_nI (by omega) (by omega), ?_⟩, fun e => ⟨v8, ?_⟩, fun e0 e1 e2 e3 e4 => ?_⟩
    · subst e
      rw [g1]
      exact hK
    · subst e
      rw [g2]
      exact hK
    · subst e
      rw [g3]
      exact hK
    · subst e
      rw [h.2.1 _ (by omega)]
      exact hK
    · subst e
      rw [g4]
      exact hK
    · rw [if_neg e0, if_neg e1, if_neg e2, if_neg e3, if_neg e4] at hK
      exact hK
  · rw [aWin, q] at hK
    exact hK
theorem r_contrast {s x y : Int32} (h : MS σ T f P L H O D) (ok : OKS T P L H O D W) (hK : ∀ τ, DM scR scF σ τ → K (some (.int (aCon P L s x y))) τ) : C2 Γ l mX10_contrast [.ref 284, .int s, .int x, .int y] σ K := by
  obtain ⟨v, h⟩ := h
  have g := h.1.1
  have pk := g.pk
  have w8 := pk.1
  have r6 := pk.2.1
  have s4 := pk.2.2.1
  have k0 := hK σ DM.rf
  refine tX10_contrast (m_isSign g (ri ?_))
  rw [bI_0]
  refine ⟨fun q => ?_, fun q => m_isPlace g (ri ?_)⟩
  · rw [aCon, q, Bool.false_and] at k0
    exact k0
  · rw [bI_0]
    simp only [Bool.not_eq_false] at q
    refine ⟨fun q2 => ?_, fun q2 => ?_⟩
    · simp only [Bool.not_eq_false] at q2
      refine m_cop h (fun τ d gt r _ _ => rv ?_)
      have k1 := hK τ d
      rw [aCon, q, q2, Bool.and_self, if_pos rfl] at k1
      obtain ⟨S, rfl, hS⟩ := vSg_nat q
      obtain ⟨X, Y, rfl, rfl, hX, hY⟩ := vPl_nat q2
      rw [nI_clamp (by omega), nI_clamp (by omega), nI_clamp (by omega)] at k1
      exact m_standsOut gt.1 r ok.2.1.1 hS (by omega) (by omega) (ri k1)
    · rw [aCon, q2, Bool.and_false] at k0
      exact k0
theorem r_reads_x {w s y : Nat} {i : Int32} (g : MP σ v P) (r : MR σ 322 L) (ok : LVok P L) (hw : w < pnw P) (hs : s < pns P) (hy : y < pr P - 2)
    (kk : ∀ n, K (some (.int (rdF (fun q => rdS P L w s q.1 q.2) i (remL (pw P - 2) (pr P - 2) (y + 1)) n))) σ → wX10_reads_33 Γ l (nI w) (nI s) i (nI n) (nI (y + 1)) σ K) :
    ∀ m x n, m + x = pw P - 2 → K (some (.int (rdF (fun q => rdS P L w s q.1 q.2) i (rowL (pw P - 2) y x ++ remL (pw P - 2) (pr P - 2) (y + 1)) n))) σ → wX10_reads_52 Γ l (nI w) (nI s) i (nI n) (nI y) (nI x) σ K := by
  have pk := g.pk
  have w8 := pk.1
  have r6 := pk.2.1
  intro m
  induction m with
  | zero =>
    intro x n g1 g3
    rw [rowL_nil (by omega), List.nil_append] at g3
    refine tX10_reads_52 ⟨g.vv, fun q => by rw [nI_1]; exact kk n g3, fun q => absurd ?_ q⟩
    rw [g.eW]
    simp (disch := omega) only [nL, nI_add, pk_mul, pk_sub, nI_clamp, nI_leI, nI_ltI, nI_eq]
    omega
  | succ m ih =>
    intro x n g1 g3
    rw [rowL_cons (by omega), List.cons_append, rdF] at g3
    refine tX10_reads_52 ⟨g.vv, fun q => absurd q ?_, fun _ => ?_⟩
    · rw [g.eW]
      simp (disch := omega) only [nL, nI_add, pk_mul, pk_sub, nI_clamp, nI_leI, nI_ltI, nI_eq]
      omega
    · refine m_doesRead g r ok hw hs (by omega) (by omega) (ri ?_)
      rw [bI_0, nI_1, nI_1]
      refine ⟨fun q => ⟨fun r => ih (x + 1) (n + 1) (by omega) ?_, fun r => ?_⟩, fun q => ih (x + 1) n (by omega) ?_⟩
      · rw [if_pos (by simpa using q), if_neg r] at g3
        exact g3
      · rw [if_pos (by simpa using q), if_pos r] at g3
        rw [show (10 : Int32) * nI y + nI x = nI (10 * y + x) by simp (disch := omega) only [nL, nI_add, pk_mul, pk_sub, nI_clamp, nI_leI, nI_ltI, nI_eq]]
        exact g3
      · rw [if_neg (by simp [q])] at g3
        exact g3
theorem r_reads_y {w s : Nat} {i : Int32} (g : MP σ v P) (r : MR σ 322 L) (ok : LVok P L) (hw : w < pnw P) (hs : s < pns P) :
    ∀ m y n, m + y = pr P - 2 → K (some (.int (rdF (fun q => rdS P L w s q.1 q.2) i (remL (pw P - 2) (pr P - 2) y) n))) σ → wX10_reads_33 Γ l (nI w) (nI s) i (nI n) (nI y) σ K := by
  have pk := g.pk
  have w8 := pk.1
  have r6 := pk.2.1
  intro m
  induction m with
  | zero =>
    intro y n g1 g3
    rw [remL_nil (by omega), rdF] at g3
    refine tX10_reads_33 ⟨g.vv, fun q => ⟨fun r => ?_, fun r => ?_⟩, fun q => absurd ?_ q⟩
    · rw [if_neg r] at g3
      exact g3
    · rw [if_pos r] at g3
      exact g3
    · rw [g.eR]
      simp (disch := omega) only [nL, nI_add, pk_mul, pk_sub, nI_clamp, nI_leI, nI_ltI, nI_eq]
      omega
  | succ m ih =>
    intro y n g1 g3
    rw [remL_cons (by omega)] at g3
    refine tX10_reads_33 ⟨g.vv, fun q => absurd q ?_, fun _ => ?_⟩
    · rw [g.eR]
      simp (disch := omega) only [nL, nI_add, pk_mul, pk_sub, nI_clamp, nI_leI, nI_ltI, nI_eq]
      omega
    · exact r_reads_x g r ok hw hs (by omega) (fun n' z => ih (y + 1) n' (by omega) z) (pw P - 2) 0 n (by omega) g3
theorem r_reads {w s i : Int32} (h : MS σ T f P L H O D) (ok : OKS T P L H O D W) (hK : ∀ τ, DM scR scF σ τ → K (some (.int (aReads P L w s i))) τ) : C2 Γ l mX10_reads [.ref 284, .int w, .int s, .int i] σ K := by
  obtain ⟨v, h⟩ := h
  have g := h.1.1
  have pk := g.pk
  have s4 := pk.2.2.1
  have n4 := pk.2.2.2.1
  have k0 := hK σ DM.rf
  refine tX10_reads (m_isWindow g (ri ?_))
  rw [bI_0]
  refine ⟨fun q => ?_, fun q => m_isSign g (ri ?_)⟩
  · rw [aReads, q] at k0
    exact k0
  · rw [bI_0]
    simp only [Bool.not_eq_false] at q
    refine ⟨fun q2 => ?_, fun q2 => ⟨fun q3 => ?_, fun q3 => ?_⟩⟩
    · rw [aReads, q, q2] at k0
      exact k0
    · simp only [Bool.not_eq_false] at q2
      refine m_cop h (fun τ d gt r _ _ => rv ?_)
      have k1 := hK τ d
      rw [aReads, q, q2, decide_eq_true q3] at k1
      obtain ⟨X, rfl, hX⟩ := vWi_nat q
      obtain ⟨S, rfl, hS⟩ := vSg_nat q2
      rw [nI_clamp (by omega), nI_clamp (by omega)] at k1
      exact r_reads_y gt.1 r ok.2.1.1 hX hS (pr P - 2) 0 0 (by omega) k1
    · rw [aReads, decide_eq_false q3, Bool.and_false] at k0
      exact k0
end M6
