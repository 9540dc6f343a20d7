/-! the class: blades, sure, ask -/
def agS (P : PV) (w : Nat) (D : List (Nat × Nat × Nat)) (k g : Nat) : Bool := (D.take k).all (fun d => decide (bldL P w (gS_ g) (gX g) (gY g) (gAge g) (8 * d.2.1 + d.1) = d.2.2))
def fitS (P : PV) (w : Nat) (D : List (Nat × Nat × Nat)) (k g : Nat) : Bool := gOk P w g && agS P w D k g
def prt (w : Int32) (g : Nat) : Nat := if w = 0 then gS_ g else if w = 1 then gX g else if w = 2 then gY g else gAge g
theorem prt_lt (w : Int32) {g : Nat} (hg : g < 2976) : prt w g < 31 := by
  unfold prt
  split
  · unfold gS_; omega
  · split
    · unfold gX; omega
    · split
      · unfold gY; omega
      · unfold gAge; omega
/-- what all have in common -/
def cm (F : Nat → Bool) (v : Nat → Nat) : Nat → Int32
  | 0 => -2
  | n + 1 => if F n then (if cn F n = 0 ∨ cm F v n = nI (v n) then nI (v n) else -2) else cm F v n
theorem cm_z {F : Nat → Bool} {v : Nat → Nat} : ∀ n, cn F n = 0 → cm F v n = -2
  | 0, _ => rfl
  | n + 1, h => by
    unfold cn at h
    have h1 : ¬ F n = true := fun e => by rw [if_pos e] at h; omega
    rw [cm, if_neg h1]
    exact cm_z n (by omega)
theorem nI_n2 {v : Nat} (h : v < 100) : ¬ nI v = -2 := fun e => nI_pos (n := v) (by omega) (by rw [e]; decide)
theorem cm_stuck {F : Nat → Bool} {v : Nat → Nat} (hv : ∀ g, g < 2976 → v g < 100) : ∀ m n, n + m ≤ 2976 → 0 < cn F n → cm F v n = -2 → cm F v (n + m) = -2 ∧ 0 < cn F (n + m)
  | 0, n, _, h1, h2 => ⟨h2, h1⟩
  | m + 1, n, hm, h1, h2 => by
    obtain ⟨i1, i2⟩ := cm_stuck hv m n (by omega) h1 h2
    refine ⟨?_, ?_⟩
    · show cm F v (n + m + 1) = -2
      rw [cm]
      split
      · rw [if_neg]
        rintro (z | z)
        · omega
        · rw [i1] at z
          exact nI_n2 (hv _ (by omega)) z.symm
      · exact i1
    · show 0 < cn F (n + m + 1)
      rw [cn]
      omega
def tlN (F : Nat → Bool) (v : Nat → Nat) (h : Nat) : Nat → Nat := cn (fun g => F g && decide (v g = h))
def mxH (f : Nat → Nat) : Nat → Nat
  | 0 => 0
  | h + 1 => max (mxH f h) (f h)
theorem mxH_cong {f g : Nat → Nat} : ∀ n, (∀ h, h < n → f h = g h) → mxH f n = mxH g n
  | 0, _ => rfl
  | n + 1, h => by
    rw [mxH, mxH, mxH_cong n (fun k hk => h k (by omega)), h n (by omega)]
theorem mxH_up {f g : Nat → Nat} {h0 : Nat} : ∀ n, h0 < n → (∀ h, h < n → h ≠ h0 → g h = f h) → f h0 ≤ g h0 → mxH g n = max (mxH f n) (g h0)
  | 0, h, _, _ => absurd h (by omega)
  | n + 1, h, hne, hle => by
    rw [mxH, mxH]
    by_cases e : h0 = n
    · subst e
      rw [mxH_cong h0 (fun k hk => hne k (by omega) (by omega))]
      omega
    · rw [mxH_up n (by omega) (fun k k1 k2 => hne k (by omega) k2) hle, hne n (by omega) (fun z => e z.symm)]
      omega
theorem mxH_0 : ∀ n, mxH (fun _ => 0) n = 0
  | 0 => rfl
  | n + 1 => by rw [mxH, mxH_0 n]; rfl
/-- how many are left at worst, when the cell c is measured -/
def wrS (F : Nat → Bool) (v : Nat → Nat) : Nat := mxH (fun h => tlN F v h 2976) 100
def akF (wr : Nat × Nat → Nat) : List (Nat × Nat) → Nat → Int32 → Int32
  | [], _, b => b
  | q :: r, lt, b => if wr q < lt then akF wr r (wr q) (nI (10 * q.2 + q.1)) else akF wr r lt b
def bldC (P : PV) (w g c : Nat) : Nat := bldL P w (gS_ g) (gX g) (gY g) (gAge g) c
def askS (P : PV) (w : Nat) (F : Nat → Bool) : Int32 := akF (fun q => wrS F (fun g => bldC P w g (8 * q.2 + q.1))) (clls P) 2977 (-2)
def aBlades (P : PV) (L : LV) (D : List (Nat × Nat × Nat)) (k : Int32) : Int32 := if vIn k D.length then nI (cn (fitS P (L 104) D k.toNatClampNeg) 2976) else -1
def aSure (P : PV) (L : LV) (D : List (Nat × Nat × Nat)) (k w : Int32) : Int32 := if vIn k D.length && vIn w 3 then cm (fitS P (L 104) D k.toNatClampNeg) (prt w) 2976 else -1
def aAsk (P : PV) (L : LV) (D : List (Nat × Nat × Nat)) (k : Int32) : Int32 := if vIn k D.length then (if cn (fitS P (L 104) D k.toNatClampNeg) 2976 = 0 then -2 else askS P (L 104) (fitS P (L 104) D k.toNatClampNeg)) else -1
section C6
variable {Γ : GE} {l : Launch} {σ : SS} {K : Option Value → SS → Prop} {P : PV} {L M B : LV} {p a : Nat} {w wk : Nat} {D : List (Nat × Nat × Nat)}
theorem c_highIn {g x y : Nat} (pk : PVok P) (ho : XO σ P w) (hw : w < 800000) (hgg : g < 2976) (hok : gOk P w g = true) (hx : x < pw P) (hy : y < pr P) (hK : K (some (.int (nI (bldC P w g (8 * y + x))))) σ) : C2 Γ l mX0_highIn [.ref 219, .int (nI g), .int (nI x), .int (nI y)] σ K := by
  have w8 := pk.1
  have r6 := pk.2.1
  have hok' := hok
  simp only [gOk, decide_eq_true_eq] at hok'
  have hB := bldL_ok pk (s := gS_ g) hw hok'.1 (x := gX g) (y := gY g) (by omega) (by omega)
  have hi : ∀ k, k < 48 → bldL P w (gS_ g) (gX g) (gY g) (gAge g) k < 128 := fun k hk => by have := (hB.1 k hk).1; omega
  have hlt : pkR (bldL P w (gS_ g) (gX g) (gY g) (gAge g)) y (pw P) 0 < 128 ^ (pw P) := pkR_lt _ 0 (fun j j1 j2 => hi _ (by omega))
  have hp := pow128 (n := pw P) (by omega)
  have hdig := pkR_dig (L := bldL P w (gS_ g) (gX g) (gY g) (gAge g)) (y := y) (pw P) 0 (fun j j1 j2 => hi _ (by omega)) x hx
  refine tX0_highIn ?_
  rw [show nI g * 6 + nI y = nI (g * 6 + y) by simp (disch := omega) only [nL, nI_add, pk_mul, pk_sub, nI_clamp, nI_leI, nI_ltI, nI_eq], nI_clamp (by omega), ho g hgg hok y hy, show (7 : Int32) * nI x = nI (7 * x) from pk_mul 7 x, wb_c (7 * x) (by omega)]
  refine ⟨vp_in_nI (by omega) (by omega), ?_⟩
  have e1 : ((lN (7 * x)).toBitVec.smod 64).toNat = 7 * x := by
    rw [wb_tb, wb_sm _ (by omega), BitVec.toNat_ofNat]
    omega
  have e2 : Int64.ofNat (pkR (bldL P w (gS_ g) (gX g) (gY g) (gAge g)) y (pw P) 0) = lN (pkR (bldL P w (gS_ g) (gX g) (gY g) (gAge g)) y (pw P) 0) := rfl
  rw [e2, pf_shr e1 (by omega), show (127 : Int64) = lN (2 ^ 7 - 1) from rfl, wb_mask (k := 7) (Nat.lt_of_le_of_lt (Nat.div_le_self _ _) (by omega)) (by omega), lN_i, show (2 : Nat) ^ (7 * x) = 128 ^ x by rw [Nat.pow_mul], show (2 : Nat) ^ 7 = 128 from rfl, hdig, Nat.zero_add]
  exact hK
theorem c_agrees {g k : Nat} (pk : PVok P) (ho : XO σ P w) (ht : XTo σ D) (hw : w < 800000) (hgg : g < 2976) (hok : gOk P w g = true) (hk : k ≤ D.length) (hD : ∀ d, d ∈ D → d.1 < pw P ∧ d.2.1 < pr P ∧ d.2.2 ≤ 99) (hK : K (some (.int (bI (agS P w D k g)))) σ) : C2 Γ l mX0_agrees [.ref 219, .int (nI g), .int (nI k)] σ K := by
  have w8 := pk.1
  have r6 := pk.2.1
  obtain ⟨t1, t2, t3⟩ := ht
  have hok' := hok
  simp only [gOk, decide_eq_true_eq] at hok'
  have hB := bldL_ok pk (s := gS_ g) hw hok'.1 (x := gX g) (y := gY g) (by omega) (by omega)
  have key : ∀ m i, m + i = k → K (some (.int (bI (((D.take k).drop i).all (fun d => decide (bldL P w (gS_ g) (gX g) (gY g) (gAge g) (8 * d.2.1 + d.1) = d.2.2)))))) σ → wX0_agrees_2 Γ l (nI g) (nI k) (nI i) σ K := by
    intro m
    induction m with
    | zero =>
      intro i g1 h3
      rw [List.drop_of_length_le (by simp; omega)] at h3
      exact tX0_agrees_2 ⟨fun _ => h3, fun q => absurd (by simp (disch := omega) only [nL, nI_add, pk_mul, pk_sub, nI_clamp, nI_leI, nI_ltI, nI_eq]; omega) q⟩
    | succ m ih =>
      intro i g1 h3
      have hi : i < D.length := by omega
      have hit : i < (D.take k).length := by simp; omega
      obtain ⟨k1, k2, k3⟩ := t3 i hi
      obtain ⟨d1, d2, d3⟩ := hD D[i] (List.getElem_mem hi)
      have hb := (hB.1 (8 * D[i].2.1 + D[i].1) (by omega)).1
      rw [List.drop_eq_getElem_cons hit, List.all_cons] at h3
      have v20 : vp_in (nI i) 20 := vp_in_nI (by omega) (by omega)
      refine tX0_agrees_2 ⟨fun q => absurd q (by simp (disch := omega) only [nL, nI_add, pk_mul, pk_sub, nI_clamp, nI_leI, nI_ltI, nI_eq]; omega), fun _ => ⟨fun q => absurd q ?_, fun _ => ⟨v20, v20, ?_⟩⟩⟩
      · rw [t2]
        simp (disch := omega) only [nL, nI_add, pk_mul, pk_sub, nI_clamp, nI_leI, nI_ltI, nI_eq]
        omega
      · rw [nI_clamp (by omega), k1, k2]
        refine c_highIn pk ho hw hgg hok d1 d2 (ri ⟨v20, ?_⟩)
        have hb' : bldC P w g (8 * D[i].2.1 + D[i].1) ≤ 99 := hb
        rw [k3, nI_eq (by omega) (by omega), nI_1]
        have eg : (D.take k)[i] = D[i] := by simp
        rw [eg] at h3
        refine ⟨fun q => ih (i + 1) (by omega) ?_, fun q => ?_⟩
        · rw [decide_eq_true (show bldL P w (gS_ g) (gX g) (gY g) (gAge g) (8 * D[i].2.1 + D[i].1) = D[i].2.2 from q), Bool.true_and] at h3
          exact h3
        · rw [decide_eq_false (show ¬ bldL P w (gS_ g) (gX g) (gY g) (gAge g) (8 * D[i].2.1 + D[i].1) = D[i].2.2 from q), Bool.false_and] at h3
          exact h3
  refine tX0_agrees (key k 0 (by omega) ?_)
  rw [List.drop_zero]
  exact hK
/-- all that is needed to ask the guesses -/
def XA (σ : SS) (p : Nat) (P : PV) (w : Nat) (D : List (Nat × Nat × Nat)) : Prop := XGL σ p P ∧ XO σ P w ∧ σ.1 219 8 = nI w ∧ XTo σ D
theorem XA.df {S : List Nat} {τ : SS} (h : XA σ p P w D) (d : Df S σ τ) (hS : ∀ b, b ∈ S → b = 261 ∨ b = 262) : XA τ p P w D := by
  have no : ∀ b, b < 261 → b ∉ S := fun b hb hm => by have := hS b hm; omega
  refine ⟨h.1.df d (fun b hb => by have := hS b hb; omega), fun g g1 g2 y hy => by rw [d.2]; exact h.2.1 g g1 g2 y hy, by rw [d.1 219 (no _ (by omega))]; exact h.2.2.1, h.2.2.2.df d (no _ (by omega)) (no _ (by omega)) (no _ (by omega)) (no _ (by omega))⟩
theorem c_sift {k : Nat} (h : XA σ p P w D) (hw : w < 800000) (hk : k ≤ D.length) (hD : ∀ d, d ∈ D → d.1 < pw P ∧ d.2.1 < pr P ∧ d.2.2 ≤ 99) (hK : ∀ τ, Df [261] σ τ → (∀ g, g < 2976 → τ.1 261 g = bI (fitS P w D k g)) → K (some (.int (nI (cn (fitS P w D k) 2976)))) τ) : C2 Γ l mX0_sift [.ref 219, .int (nI k)] σ K := by
  have pk := h.1.1.2.2
  have key : ∀ m g τ, m + g = 2976 → Df [261] σ τ → (∀ g', g' < g → τ.1 261 g' = bI (fitS P w D k g')) → wX0_sift_4 Γ l (nI k) (nI (cn (fitS P w D k) g)) (nI g) τ K := by
    intro m
    induction m with
    | zero =>
      intro g τ g1 d f
      have : g = 2976 := by omega
      subst this
      exact tX0_sift_4 ⟨fun _ => hK τ d f, fun q => absurd (by decide) q⟩
    | succ m ih =>
      intro g τ g1 d f
      have ha := h.df d (fun b hb => by simp at hb; omega)
      have v : vp_in (nI g) 2976 := vp_in_nI (by omega) (by omega)
      have put : ∀ (b : Bool) (s : SS), fitS P w D k g = b → s = sI τ 261 g (bI b) → ((s.1 261 g = 0 → wX0_sift_4 Γ l (nI k) (nI (cn (fitS P w D k) g)) (nI (g + 1)) s K) ∧ (¬ s.1 261 g = 0 → wX0_sift_4 Γ l (nI k) (nI (cn (fitS P w D k) g + 1)) (nI (g + 1)) s K)) := fun b s hb e => by
        have es : s.1 261 g = bI b := by rw [e, sI_at, if_pos ⟨rfl, rfl⟩]
        have ih := ih (g + 1) s (by omega) (by rw [e]; exact d.wI (by simp)) (fun g' hg' => by
          by_cases e2 : g' = g
          · rw [e2, es, hb]
          · rw [e, sI_at, if_neg (fun z => e2 z.2)]
            exact f g' (by omega))
        rw [es, bI_0]
        rw [cn, hb] at ih
        refine ⟨fun z => ?_, fun z => ?_⟩
        · rw [z] at ih
          exact ih
        · simp only [Bool.not_eq_false] at z
          rw [z] at ih
          exact ih
      refine tX0_sift_4 ⟨fun q => absurd q (by simp (disch := omega) only [nL, nI_add, pk_mul, pk_sub, nI_clamp, nI_leI, nI_ltI, nI_eq]; omega), fun _ => ?_⟩
      rw [ha.2.2.1]
      refine c_isGuess ha.1 (by omega) (by omega) (ri ?_)
      rw [bI_0, nI_clamp (by omega), nI_1, nI_1]
      refine ⟨fun q => ⟨v, fun s e => ⟨v, put false s (by rw [fitS, q]; rfl) e⟩⟩, fun q => ?_⟩
      simp only [Bool.not_eq_false] at q
      refine c_agrees pk ha.2.1 ha.2.2.2 hw (by omega) q hk hD (ri ?_)
      rw [bI_0]
      refine ⟨fun r => ⟨v, fun s e => ⟨v, put false s (by rw [fitS, q, r]; rfl) e⟩⟩, fun r => ⟨v, fun s e => ⟨v, put true s ?_ e⟩⟩⟩
      simp only [Bool.not_eq_false] at r
      rw [fitS, q, r]
      rfl
  exact tX0_sift (key 2976 0 σ rfl Df.rf (fun g' hg' => absurd hg' (by omega)))
theorem c_partOf {g : Nat} {v : Int32} (hgg : g < 2976) (hK : K (some (.int (nI (prt v g)))) σ) : C2 Γ l mX0_partOf [.int (nI g), .int v] σ K := by
  have E0 : nI g - nI g / 31 * 31 = nI (gAge g) := pk_rem (d := 31) (by omega) (by decide) (by decide)
  have E1 : nI g / 31 = nI (g / 31) := pk_div (d := 31) (by omega) (by decide) (by decide)
  have E2 : nI (g / 31) / 24 = nI (g / 31 / 24) := pk_div (d := 24) (by omega) (by decide) (by decide)
  have E3 : nI (g / 31) - nI (g / 31) / 24 * 24 = nI (g / 31 % 24) := pk_rem (d := 24) (by omega) (by decide) (by decide)
  have E4 : nI (g / 31 % 24) / 6 = nI (g / 31 % 24 / 6) := pk_div (d := 6) (by omega) (by decide) (by decide)
  have E5 : nI (g / 31 % 24) - nI (g / 31 % 24) / 6 * 6 = nI (g / 31 % 24 % 6) := pk_rem (d := 6) (by omega) (by decide) (by decide)
  unfold prt at hK
  refine tX0_partOf ⟨fun e => tX0_signOf (ri ?_), fun e => tX0_xOf (ri ?_), fun e => tX0_yOf (ri ?_), fun e0 e1 e2 => tX0_ageOf (ri ?_)⟩
  · rw [if_pos e] at hK
    rw [E1, E2]
    exact hK
  · rw [e, if_neg (by decide), if_pos rfl] at hK
    rw [E1, E3, E5]
    exact hK
  · rw [e, if_neg (by decide), if_neg (by decide), if_pos rfl] at hK
    rw [E1, E3, E4]
    exact hK
  · rw [if_neg e0, if_neg e1, if_neg e2] at hK
    rw [E0]
    exact hK
theorem c_common {F : Nat → Bool} {v : Int32} (hf : ∀ g, g < 2976 → σ.1 261 g = bI (F g)) (hK : K (some (.int (cm F (prt v) 2976))) σ) : C2 Γ l mX0_common [.ref 219, .int v] σ K := by
  have hv : ∀ g, g < 2976 → prt v g < 100 := fun g hg => by have := prt_lt v hg; omega
  have key : ∀ m g, m + g = 2976 → (cn F g = 0 ∨ ¬ cm F (prt v) g = -2) → wX0_common_5 Γ l v (cm F (prt v) g) (nI g) σ K := by
    intro m
    induction m with
    | zero =>
      intro g g1 _
      have : g = 2976 := by omega
      subst this
      exact tX0_common_5 ⟨fun _ => hK, fun q => absurd (by decide) q⟩
    | succ m ih =>
      intro g g1 hc
      have ih := ih (g + 1) (by omega)
      refine tX0_common_5 ⟨fun q => absurd q (by simp (disch := omega) only [nL, nI_add, pk_mul, pk_sub, nI_clamp, nI_leI, nI_ltI, nI_eq]; omega), fun _ => ⟨vp_in_nI (by omega) (by omega), ?_⟩⟩
      rw [nI_clamp (by omega), hf g (by omega), bI_0, nI_1]
      refine ⟨fun q => ?_, fun q => c_partOf (by omega) (ri ⟨fun r => ?_, fun r => ⟨fun s => ?_, fun s => ?_⟩⟩)⟩
      · rw [cm, if_neg (by simp [q]), cn, if_neg (by simp [q])] at ih
        exact ih hc
      · have c0 : cn F g = 0 := hc.elim id (fun z => absurd r z)
        rw [cm, if_pos (by simpa using q), if_pos (Or.inl c0)] at ih
        exact ih (Or.inr (nI_n2 (hv g (by omega))))
      · rw [cm, if_pos (by simpa using q), if_pos (Or.inr s)] at ih
        exact ih (Or.inr (nI_n2 (hv g (by omega))))
      · have c0 : ¬ cn F g = 0 := fun z => r (cm_z g z)
        have e1 : cm F (prt v) (g + 1) = -2 := by
          rw [cm, if_pos (by simpa using q), if_neg (fun z => z.elim c0 s)]
        have := (cm_stuck hv m (g + 1) (by omega) (by rw [cn]; omega) e1).1
        rw [show g + 1 + m = 2976 by omega] at this
        rw [this] at hK
        exact hK
  exact tX0_common (key 2976 0 rfl (Or.inl rfl))
theorem hld_n {v : Nat} (h : v ≤ 99) : hldS (nI v) 0 99 = nI v := by
  unfold hldS
  rw [show (99 : Int32) = nI 99 from rfl, imn_n (by omega) (by omega), show (0 : Int32) = nI 0 from rfl, imx_n (by omega) (by omega)]
  congr 1
  omega
theorem c_left {F : Nat → Bool} {x y : Nat} (h : XA σ p P w D) (hw : w < 800000) (hx : x < pw P) (hy : y < pr P) (hF : ∀ g, g < 2976 → F g = true → gOk P w g = true) (hf : ∀ g, g < 2976 → σ.1 261 g = bI (F g)) (hK : ∀ τ, Df [262] σ τ → K (some (.int (nI (wrS F (fun g => bldC P w g (8 * y + x)))))) τ) : C2 Γ l mX0_leftAtWorst [.ref 219, .int (nI x), .int (nI y)] σ K := by
  have pk := h.1.1.2.2
  have w8 := pk.1
  have r6 := pk.2.1
  have k2 : ∀ m g τ, m + g = 2976 → Df [262] σ τ → (∀ j, j < 100 → τ.1 262 j = nI (tlN F (fun g => bldC P w g (8 * y + x)) j g)) → wX0_leftAtWorst_26 Γ l (nI x) (nI y) (nI (mxH (fun j => tlN F (fun g => bldC P w g (8 * y + x)) j g) 100)) (nI g) τ K := by
    intro m
    induction m with
    | zero =>
      intro g τ g1 d f
      have : g = 2976 := by omega
      subst this
      exact tX0_leftAtWorst_26 ⟨fun _ => hK τ d, fun q => absurd (by decide) q⟩
    | succ m ih =>
      intro g τ g1 d f
      have ha := h.df d (fun b hb => by simp at hb; omega)
      refine tX0_leftAtWorst_26 ⟨fun q => absurd q (by simp (disch := omega) only [nL, nI_add, pk_mul, pk_sub, nI_clamp, nI_leI, nI_ltI, nI_eq]; omega), fun _ => ⟨vp_in_nI (by omega) (by omega), ?_⟩⟩
      rw [nI_clamp (by omega), d.1 261 (by simp), hf g (by omega), bI_0, nI_1]
      refine ⟨fun q => ?_, fun q => ?_⟩
      · have e : ∀ j, tlN F (fun g => bldC P w g (8 * y + x)) j (g + 1) = tlN F (fun g => bldC P w g (8 * y + x)) j g := fun j => by
          show cn _ (g + 1) = _
          rw [cn, if_neg (by simp [q])]
          rfl
        have ih := ih (g + 1) τ (by omega) d (fun j hj => by rw [e j]; exact f j hj)
        simp only [e] at ih
        exact ih
      · simp only [Bool.not_eq_false] at q
        have hok := hF g (by omega) q
        have hok' := hok
        simp only [gOk, decide_eq_true_eq] at hok'
        have hb : bldC P w g (8 * y + x) ≤ 99 := ((bldL_ok pk (s := gS_ g) hw hok'.1 (x := gX g) (y := gY g) (by omega) (by omega)).1 (8 * y + x) (by omega)).1
        refine c_highIn pk ha.2.1 hw (by omega) hok hx hy (ri (c_held (ri ?_)))
        rw [hld_n hb, nI_clamp (by omega)]
        have v : vp_in (nI (bldC P w g (8 * y + x))) 100 := vp_in_nI (by omega) (by omega)
        refine ⟨v, v, fun s5 e5 => ⟨v, ?_⟩⟩
        rw [f _ (by omega), nI_1] at e5
        have e1 : ∀ j, j ≠ bldC P w g (8 * y + x) → tlN F (fun g => bldC P w g (8 * y + x)) j (g + 1) = tlN F (fun g => bldC P w g (8 * y + x)) j g := fun j hj => by
          show cn _ (g + 1) = _
          rw [cn, if_neg (by simp [q]; exact fun z => hj z.symm)]
          rfl
        have e2 : tlN F (fun g => bldC P w g (8 * y + x)) (bldC P w g (8 * y + x)) (g + 1) = tlN F (fun g => bldC P w g (8 * y + x)) (bldC P w g (8 * y + x)) g + 1 := by
          show cn _ (g + 1) = _
          rw [cn, if_pos (by simp [q])]
          rfl
        have hcn : tlN F (fun g => bldC P w g (8 * y + x)) (bldC P w g (8 * y + x)) (g + 1) ≤ g + 1 := cn_le _ _
        have hmx : ∀ N f (B : Nat), (∀ j, f j ≤ B) → mxH f N ≤ B := fun N f B hB => by
          induction N with
          | zero => exact Nat.zero_le _
          | succ N ih => rw [mxH]; exact Nat.max_le.mpr ⟨ih, hB N⟩
        have hmb := hmx 100 (fun j => tlN F (fun g => bldC P w g (8 * y + x)) j g) g (fun j => cn_le _ _)
        have ih := ih (g + 1) s5 (by omega) (by rw [e5]; exact d.wI (by simp)) (fun j hj => by
          rw [e5, sI_at]
          by_cases ej : j = bldC P w g (8 * y + x)
          · rw [if_pos ⟨rfl, ej⟩, ej, e2]
          · rw [if_neg (fun z => ej z.2), e1 j ej]
            exact f j hj)
        rw [mxH_up (f := fun j => tlN F (fun g => bldC P w g (8 * y + x)) j g) (h0 := bldC P w g (8 * y + x)) 100 (by omega) (fun j _ hj => e1 j hj) (by rw [e2]; omega)] at ih
        have es : s5.1 262 (bldC P w g (8 * y + x)) = nI (tlN F (fun g => bldC P w g (8 * y + x)) (bldC P w g (8 * y + x)) (g + 1)) := by rw [e5, sI_at, if_pos ⟨rfl, rfl⟩, e2]
        rw [es, imx_n (by omega) (by omega)]
        exact ih
  have k1 : ∀ m j τ, m + j = 100 → Df [262] σ τ → (∀ i, i < j → τ.1 262 i = 0) → wX0_leftAtWorst_2 Γ l (nI x) (nI y) (nI j) τ K := by
    intro m
    induction m with
    | zero =>
      intro j τ g1 d f
      refine tX0_leftAtWorst_2 ⟨fun _ => ?_, fun q => absurd (by simp (disch := omega) only [nL, nI_add, pk_mul, pk_sub, nI_clamp, nI_leI, nI_ltI, nI_eq]; omega) q⟩
      have := k2 2976 0 τ rfl d (fun i hi => by rw [f i (by omega)]; rfl)
      have e0 : mxH (fun j => tlN F (fun g => bldC P w g (8 * y + x)) j 0) 100 = 0 := mxH_0 100
      rw [e0] at this
      exact this
    | succ m ih =>
      intro j τ g1 d f
      refine tX0_leftAtWorst_2 ⟨fun q => absurd q (by simp (disch := omega) only [nL, nI_add, pk_mul, pk_sub, nI_clamp, nI_leI, nI_ltI, nI_eq]; omega), fun _ => ⟨vp_in_nI (by omega) (by omega), fun s1 e1 => ?_⟩⟩
      rw [nI_clamp (by omega)] at e1
      rw [nI_1]
      refine ih (j + 1) s1 (by omega) (by rw [e1]; exact d.wI (by simp)) (fun i hi => ?_)
      rw [e1, sI_at]
      by_cases e : i = j
      · rw [if_pos ⟨rfl, e⟩]
      · rw [if_neg (fun z => e z.2)]
        exact f i (by omega)
  exact tX0_leftAtWorst (k1 100 0 σ rfl Df.rf (fun i hi => absurd hi (by omega)))
theorem wrS_le {F : Nat → Bool} {v : Nat → Nat} : wrS F v ≤ 2976 := by
  have hmx : ∀ N f (B : Nat), (∀ j, f j ≤ B) → mxH f N ≤ B := fun N f B hB => by
    induction N with
    | zero => exact Nat.zero_le _
    | succ N ih => rw [mxH]; exact Nat.max_le.mpr ⟨ih, hB N⟩
  exact hmx 100 _ 2976 (fun j => cn_le _ _)
theorem c_tell_x {F : Nat → Bool} {y : Nat} (h : XA σ p P w D) (hw : w < 800000) (hF : ∀ g, g < 2976 → F g = true → gOk P w g = true) (hf : ∀ g, g < 2976 → σ.1 261 g = bI (F g)) (hy : y < pr P)
    (kk : ∀ τ lt b, lt ≤ 2977 → Df [262] σ τ → (∀ υ, Df [262] σ υ → K (some (.int (akF (fun q => wrS F (fun g => bldC P w g (8 * q.2 + q.1))) (remL (pw P) (pr P) (y + 1)) lt b))) υ) → wX0_tellingCell_18 Γ l p (nI lt) b (nI (y + 1)) τ K) :
    ∀ m x τ lt b, m + x = pw P → lt ≤ 2977 → Df [262] σ τ → (∀ υ, Df [262] σ υ → K (some (.int (akF (fun q => wrS F (fun g => bldC P w g (8 * q.2 + q.1))) (rowL (pw P) y x ++ remL (pw P) (pr P) (y + 1)) lt b))) υ) → wX0_tellingCell_30 Γ l p (nI lt) b (nI y) (nI x) τ K := by
  have pk := h.1.1.2.2
  have w8 := pk.1
  have r6 := pk.2.1
  have hpi := h.1.1.2.1.1
  intro m
  induction m with
  | zero =>
    intro x τ lt b g1 g2 d hK
    have ha := h.df d (fun b hb => by simp at hb; omega)
    rw [rowL_nil (by omega), List.nil_append] at hK
    refine tX0_tellingCell_30 hpi ⟨fun q => by rw [nI_1]; exact kk τ lt b g2 d hK, fun q => absurd ?_ q⟩
    rw [ha.1.1.2.1.2.1]
    simp (disch := omega) only [nL, nI_add, pk_mul, pk_sub, nI_clamp, nI_leI, nI_ltI, nI_eq]
    omega
  | succ m ih =>
    intro x τ lt b g1 g2 d hK
    have ha := h.df d (fun b hb => by simp at hb; omega)
    rw [rowL_cons (by omega), List.cons_append] at hK
    refine tX0_tellingCell_30 hpi ⟨fun q => absurd q ?_, fun _ => ?_⟩
    · rw [ha.1.1.2.1.2.1]
      simp (disch := omega) only [nL, nI_add, pk_mul, pk_sub, nI_clamp, nI_leI, nI_ltI, nI_eq]
      omega
    · refine c_left ha hw (by omega) hy hF (fun g hg => by rw [d.1 261 (by simp)]; exact hf g hg) (fun υ d2 => ri ?_)
      have hle := wrS_le (F := F) (v := fun g => bldC P w g (8 * y + x))
      have dd := d.tr d2 (fun b hb => hb)
      rw [nI_leI (by omega) (by omega), nI_1]
      refine ⟨fun q => ih (x + 1) υ lt b (by omega) g2 dd (fun ξ dξ => ?_), fun q => ?_⟩
      · have k := hK ξ dξ
        rw [akF, if_neg (by simp only; omega)] at k
        exact k
      · rw [show (10 : Int32) * nI y + nI x = nI (10 * y + x) by simp (disch := omega) only [nL, nI_add, pk_mul, pk_sub, nI_clamp, nI_leI, nI_ltI, nI_eq]]
        refine ih (x + 1) υ _ _ (by omega) (by omega) dd (fun ξ dξ => ?_)
        have k := hK ξ dξ
        rw [akF, if_pos (by simp only; omega)] at k
        exact k
theorem c_tell_y {F : Nat → Bool} (h : XA σ p P w D) (hw : w < 800000) (hF : ∀ g, g < 2976 → F g = true → gOk P w g = true) (hf : ∀ g, g < 2976 → σ.1 261 g = bI (F g)) :
    ∀ m y τ lt b, m + y = pr P → lt ≤ 2977 → Df [262] σ τ → (∀ υ, Df [262] σ υ → K (some (.int (akF (fun q => wrS F (fun g => bldC P w g (8 * q.2 + q.1))) (remL (pw P) (pr P) y) lt b))) υ) → wX0_tellingCell_18 Γ l p (nI lt) b (nI y) τ K := by
  have pk := h.1.1.2.2
  have w8 := pk.1
  have r6 := pk.2.1
  have hpi := h.1.1.2.1.1
  intro m
  induction m with
  | zero =>
    intro y τ lt b g1 g2 d hK
    have ha := h.df d (fun b hb => by simp at hb; omega)
    rw [remL_nil (by omega)] at hK
    refine tX0_tellingCell_18 hpi ⟨fun q => hK τ d, fun q => absurd ?_ q⟩
    rw [ha.1.1.2.1.2.2.1]
    simp (disch := omega) only [nL, nI_add, pk_mul, pk_sub, nI_clamp, nI_leI, nI_ltI, nI_eq]
    omega
  | succ m ih =>
    intro y τ lt b g1 g2 d hK
    have ha := h.df d (fun b hb => by simp at hb; omega)
    rw [remL_cons (by omega)] at hK
    refine tX0_tellingCell_18 hpi ⟨fun q => absurd q ?_, fun _ => ?_⟩
    · rw [ha.1.1.2.1.2.2.1]
      simp (disch := omega) only [nL, nI_add, pk_mul, pk_sub, nI_clamp, nI_leI, nI_ltI, nI_eq]
      omega
    · exact c_tell_x h hw hF hf (by omega) (fun υ lt' b' l1 dυ z => ih (y + 1) υ lt' b' (by omega) l1 dυ z) (pw P) 0 τ lt b (by omega) g2 d hK
theorem c_tellingCell {F : Nat → Bool} (h : XA σ p P w D) (hw : w < 800000) (hF : ∀ g, g < 2976 → F g = true → gOk P w g = true) (hf : ∀ g, g < 2976 → σ.1 261 g = bI (F g)) (hK : ∀ υ, Df [262] σ υ → K (some (.int (askS P w F))) υ) : C2 Γ l mX0_tellingCell [.ref 219] σ K :=
  tX0_tellingCell ⟨p, h.1.1.1, h.1.1.2.1.1, c_tell_y h hw hF hf (pr P) 0 σ 2977 (-2) (by omega) (by omega) Df.rf hK⟩
end C6
section C7
variable {Γ : GE} {l : Launch} {σ : SS} {K : Option Value → SS → Prop} {T : List Nat} {f : Int32} {P : PV} {L : LV} {H : List LV} {O : Nat → Option LV} {D : List (Nat × Nat × Nat)} {W : Nat}
theorem c_has {k : Int32} (ht : XTo σ D) (hK : K (some (.int (bI (vIn k D.length)))) σ) : C2 Γ l mX0_has [.ref 219, .int k] σ K := by
  obtain ⟨t1, t2, t3⟩ := ht
  refine tX0_has ⟨fun q => ?_, fun q => ⟨fun r => ?_, fun r => ?_⟩⟩
  · rw [vIn_n q] at hK
    exact hK
  · rw [t2] at r
    rw [vIn_f (fun z => absurd (Int32.lt_of_lt_of_le r z) Int32.lt_irrefl) (by omega)] at hK
    exact hK
  · rw [t2] at r
    rw [vIn_t q (Int32.not_lt.mp r) (by omega)] at hK
    exact hK
/-- the guesses are grown and sifted -/
theorem q_sifted {k : Nat} (h : XS σ T f P L H O D) (ok : OKS T P L H O D W) (hk : k ≤ D.length) (R : SS → SS → Prop)
    (hK : ∀ p τ, Cl σ τ → XS τ T f P L H O D → XA τ p P (L 104) D → (∀ g, g < 2976 → τ.1 261 g = bI (fitS P (L 104) D k g)) → K (some (.int (nI (cn (fitS P (L 104) D k) 2976)))) τ) :
    C2 Γ l mX0_growAll [.ref 219, .int (σ.1 269 4)] σ (Rv fun s3 => C2 Γ l mX0_sift [.ref 219, .int (nI k)] s3 K) := by
  have h0 := h
  obtain ⟨p, h1, h2, h3, h4, h5, h6, h7, ⟨⟨x1, x2, bw, x3, x4, x5⟩, ho⟩⟩ := h
  have o1 := ok.1
  have o2 := ok.2.1.2
  rw [h3.2.2.2.2.2.1]
  refine c_growAll h2 (by omega) (bw := bw) ⟨x1, x2, x3, x4, x5⟩ ho (fun τ bw' dc hb hxo h8 => rv ?_)
  have hc : XC τ P := ⟨⟨hb.1, hb.2.1, bw', hb.2.2.1, hb.2.2.2.1, hb.2.2.2.2⟩, Or.inr ⟨L 104, by omega, h8, hxo⟩⟩
  have hs := h0.dc dc hc
  have ht : XTo τ D := by
    obtain ⟨p', -, -, -, -, -, t, -⟩ := hs
    exact t
  have ha : XA τ p P (L 104) D := ⟨h2.dc dc, hxo, h8, ht⟩
  refine c_sift ha (by omega) hk ok.2.2.2.2.1 (fun υ d hf => ?_)
  have dc2 : DC τ υ := d.dc (fun b hb => by simp at hb; omega) (by rw [d.1 219 (by simp)])
  have ha2 := ha.df d (fun b hb => by simp at hb; omega)
  have hb2 : XBw υ P bw' := hb.df d (hb.2.1.df d (by simp) (by simp) (by simp) (by simp)) (fun b hb => by simp at hb; omega)
  refine hK p υ (dc.cl.tr dc2.cl) (hs.dc dc2 ⟨⟨hb2.1, hb2.2.1, bw', hb2.2.2.1, hb2.2.2.2.1, hb2.2.2.2.2⟩, Or.inr ⟨L 104, by omega, ha2.2.2.1, ha2.2.1⟩⟩) ha2 hf
theorem q_blades {k : Int32} (h : XS σ T f P L H O D) (ok : OKS T P L H O D W) (hK : ∀ τ, Cl σ τ → XS τ T f P L H O D → K (some (.int (aBlades P L D k))) τ) : C2 Γ l mX9_blades [.ref 0, .int k] σ K := by
  have h0 := h
  obtain ⟨p, h1, h2, h3, h4, h5, h6, h7, h8⟩ := h
  have t20 := h6.1
  refine tX9_blades (c_has h6 (ri ?_))
  rw [bI_0]
  refine ⟨fun q => ?_, fun q => ?_⟩
  · simp only [Bool.not_eq_false] at q
    rw [aBlades, q] at hK
    obtain ⟨N, rfl, hN⟩ := vIn_nat q
    rw [nI_clamp (by omega)] at hK
    exact q_sifted h0 ok hN (fun _ _ => True) (fun p' τ c hs _ _ => ri (hK τ c hs))
  · have k0 := hK σ Cl.rf h0
    rw [aBlades, q] at k0
    exact k0
theorem q_sure {k w : Int32} (h : XS σ T f P L H O D) (ok : OKS T P L H O D W) (hK : ∀ τ, Cl σ τ → XS τ T f P L H O D → K (some (.int (aSure P L D k w))) τ) : C2 Γ l mX9_sure [.ref 0, .int k, .int w] σ K := by
  have h0 := h
  obtain ⟨p, h1, h2, h3, h4, h5, h6, h7, h8⟩ := h
  have t20 := h6.1
  have k0 := hK σ Cl.rf h0
  refine tX9_sure (c_has h6 (ri ?_))
  rw [bI_0]
  refine ⟨fun q => ?_, fun q => ⟨fun r => ?_, fun r => ⟨fun t => ?_, fun t => ?_⟩⟩⟩
  · rw [aSure, q] at k0
    exact k0
  · rw [aSure, vIn_n r, Bool.and_false] at k0
    exact k0
  · simp only [Bool.not_eq_false] at q
    rw [aSure, q, vIn_t (n := 3) r t (by omega)] at hK
    obtain ⟨N, rfl, hN⟩ := vIn_nat q
    rw [nI_clamp (by omega)] at hK
    refine q_sifted h0 ok hN (fun _ _ => True) (fun p' τ c hs ha hf => ri ?_)
    have hle := cn_le (fitS P (L 104) D N) 2976
    rw [show (0 : Int32) = nI 0 from rfl, nI_eq (by omega) (by omega)]
    refine ⟨fun u => c_common hf (ri (hK τ c hs)), fun u => ?_⟩
    have := hK τ c hs
    simp only [Bool.true_and, if_true] at this
    rw [cm_z _ u] at this
    exact this
  · rw [aSure, vIn_f (n := 3) t (by omega), Bool.and_false] at k0
    exact k0
theorem q_ask {k : Int32} (h : XS σ T f P L H O D) (ok : OKS T P L H O D W) (hK : ∀ τ, Cl σ τ → XS τ T f P L H O D → K (some (.int (aAsk P L D k))) τ) : C2 Γ l mX9_ask [.ref 0, .int k] σ K := by
  have h0 := h
  obtain ⟨p, h1, h2, h3, h4, h5, h6, h7, h8⟩ := h
  have t20 := h6.1
  have o1 := ok.1
  have o2 := ok.2.1.2
  refine tX9_ask (c_has h6 (ri ?_))
  rw [bI_0]
  refine ⟨fun q => ?_, fun q => ?_⟩
  · simp only [Bool.not_eq_false] at q
    rw [aAsk, q] at hK
    obtain ⟨N, rfl, hN⟩ := vIn_nat q
    rw [nI_clamp (by omega)] at hK
    refine q_sifted h0 ok hN (fun _ _ => True) (fun p' τ c hs ha hf => ri ?_)
    have hle := cn_le (fitS P (L 104) D N) 2976
    rw [show (0 : Int32) = nI 0 from rfl, nI_eq (by omega) (by omega)]
    refine ⟨fun u => ?_, fun u => ?_⟩
    · refine c_tellingCell ha (by omega) (fun g _ hg => ?_) hf (fun υ d => ri ?_)
      · simp only [fitS, Bool.and_eq_true] at hg
        exact hg.1
      · have dc : DC τ υ := d.dc (fun b hb => by simp at hb; omega) (by rw [d.1 219 (by simp)])
        have hc : XC υ P := by
          obtain ⟨p'', -, -, -, -, -, -, -, ⟨⟨y1, y2, bw, y3, y4, y5⟩, ho⟩⟩ := hs
          have hb : XBw τ P bw := ⟨y1, y2, y3, y4, y5⟩
          have hb2 : XBw υ P bw := hb.df d (y2.df d (by simp) (by simp) (by simp) (by simp)) (fun b hb => by simp at hb; omega)
          refine ⟨⟨hb2.1, hb2.2.1, bw, hb2.2.2.1, hb2.2.2.2.1, hb2.2.2.2.2⟩, ?_⟩
          rw [d.1 219 (by simp)]
          rcases ho with z | ⟨v, v1, v2, v3⟩
          · exact Or.inl z
          · exact Or.inr ⟨v, v1, v2, fun g g1 g2 y hy => by rw [d.2]; exact v3 g g1 g2 y hy⟩
        have := hK υ (c.tr dc.cl) (hs.dc dc hc)
        rw [if_pos rfl, if_neg u] at this
        exact this
    · have := hK τ c hs
      rw [if_pos rfl, if_pos u] at this
      exact this
  · have k0 := hK σ Cl.rf h0
    rw [aAsk, q] at k0
    exact k0
end C7
