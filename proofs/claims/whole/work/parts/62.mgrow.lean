/-! the model: what it looks at, growth, food, fines -/
def lkV (wk x y : Int32) (k : Nat) : Int32 := match k with
  | 2 => wk
  | 5 => x
  | 6 => y
  | _ => 0
theorem DM.sA {S F : List Nat} {σ τ : SS} {b : Nat} {f : Nat → Int32} (h : DM S F σ τ) (hb : b ∈ S) (h4 : b ≠ 284) : DM S F σ (sA τ b f) :=
  ⟨fun c hc c4 => by
    have hcb : c ≠ b := fun e => hc (by rw [e]; exact hb)
    rw [sA_off2 τ _ hcb]
    exact h.1 c hc c4, fun j hj => by
    rw [sA_off2 τ _ (Ne.symm h4)]
    exact h.2.1 j hj, h.2.2⟩
def tlS (P : PV) (L : LV) (x y : Int32) : Nat := if vC P x y = true then L (8 * y.toNatClampNeg + x.toNatClampNeg) else 0
section M3
variable {Γ : GE} {l : Launch} {σ : SS} {K : Option Value → SS → Prop} {v : Nat} {P : PV} {L : LV}
theorem m_looks {x y : Int32} (hK : ∀ f, (∀ k, k < 9 → f k = lkV (σ.1 322 104) x y k) → K none (sA σ 319 f)) : C2 Γ l mX10_looks [.ref 284, .int x, .int y] σ K := by
  have key : ∀ n k f, n + k = 9 → (∀ j, j < k → f j = 0) → wX10_looks_2 Γ l x y (nI k) (sA σ 319 f) K := by
    intro n
    induction n with
    | zero =>
      intro k f h1 h2
      have : k = 9 := by omega
      subst this
      refine tX10_looks_2 ⟨fun _ => ⟨vp_in_nI (n := 104) (by omega) (by omega), vp9 2 (by decide), fun s1 e1 => ⟨vp9 5 (by decide), fun s2 e2 => ⟨vp9 6 (by decide), fun s3 e3 => ?_⟩⟩⟩, fun q => absurd (by decide) q⟩
      rw [show Int32.toNatClampNeg 2 = 2 from rfl, show Int32.toNatClampNeg 104 = 104 from rfl, sA_off2 _ _ (by omega), sI_sA] at e1
      rw [show Int32.toNatClampNeg 5 = 5 from rfl, e1, sI_sA] at e2
      rw [show Int32.toNatClampNeg 6 = 6 from rfl, e2, sI_sA] at e3
      rw [e3]
      refine hK _ (fun k hk => ?_)
      have h0 := h2 0 (by omega)
      have h1 := h2 1 (by omega)
      have h3 := h2 3 (by omega)
      have h4 := h2 4 (by omega)
      have h7 := h2 7 (by omega)
      have h8 := h2 8 (by omega)
      match k, hk with
      | 0, _ => exact h0
      | 1, _ => exact h1
      | 2, _ => rfl
      | 3, _ => exact h3
      | 4, _ => exact h4
      | 5, _ => rfl
      | 6, _ => rfl
      | 7, _ => exact h7
      | 8, _ => exact h8
      | k + 9, h => omega
    | succ n ih =>
      intro k f h1 h2
      refine tX10_looks_2 ⟨fun q => absurd q (by simp (disch := omega) only [nL, nI_add, pk_mul, pk_sub, nI_clamp, nI_leI, nI_ltI, nI_eq]; omega), fun _ => ⟨vp9 k (by omega), fun s4 e4 => ?_⟩⟩
      rw [nI_clamp (by omega), sI_sA] at e4
      rw [e4, nI_1]
      refine ih (k + 1) _ (by omega) (fun j hj => ?_)
      by_cases e : j = k
      · rw [e, pk_us]
      · rw [pk_un e]
        exact h2 j (by omega)
  have := key 9 0 (σ.1 319) rfl (fun j hj => absurd hj (by omega))
  rw [sA_self] at this
  exact tX10_looks this
theorem m_ix8 {x y : Nat} : (8 * nI y) + nI x = nI (8 * y + x) := by
  simp (disch := omega) only [nL, nI_add, pk_mul, pk_sub, nI_clamp, nI_leI, nI_ltI, nI_eq]
theorem m_ix56 {x y : Nat} : (48 + (8 * nI y)) + nI x = nI (48 + (8 * y + x)) := by
  rw [show (48 : Int32) + 8 * nI y + nI x = nI (48 + 8 * y + x) by simp (disch := omega) only [nL, nI_add, pk_mul, pk_sub, nI_clamp, nI_leI, nI_ltI, nI_eq], show 48 + 8 * y + x = 48 + (8 * y + x) by omega]
theorem m_looksAtCell {x y : Nat} (hg : MP σ v P) (hr : MR σ 322 L) (hx : x < pw P) (hy : y < pr P) (hK : ∀ f, (∀ k, k < 9 → f k = ownV P L x y k) → K none (sA σ 319 f)) : C2 Γ l mX10_looksAtCell [.ref 284, .int (nI x), .int (nI y)] σ K := by
  have pk := hg.2.2.2.2.2.2.2.2.2.2.2.2.2.2.2
  have w8 := pk.1
  have r6 := pk.2.1
  have v1 := hg.1
  refine tX10_looksAtCell (m_looks (fun f hf => rv ?_))
  rw [m_ix8, m_ix56]
  refine ⟨vp_in_nI (by omega) (by omega), vp9 0 (by decide), fun s3 e3 => ?_⟩
  rw [nI_clamp (by omega), sA_off2 _ _ (by omega), show Int32.toNatClampNeg 0 = 0 from rfl, hr _ (by omega), sI_sA] at e3
  have q3 : ∀ c, c ≠ 319 → s3.1 c = σ.1 c := fun c hc => by rw [e3, sA_off2 _ _ hc]
  rw [q3 284 (by omega), m_ix48 hg]
  refine ⟨vp_in_nI (by omega) (by omega), vp9 1 (by decide), fun s4 e4 => ⟨vp_in_nI (by omega) (by omega), vp9 4 (by decide), fun s5 e5 => ?_⟩⟩
  rw [nI_clamp (by omega), q3 296 (by omega), hg.2.2.2.2.2.2.2.2.2.2.2.1 x y hx hy, show Int32.toNatClampNeg 1 = 1 from rfl, e3, sI_sA] at e4
  rw [nI_clamp (by omega), show Int32.toNatClampNeg 4 = 4 from rfl, e4, sA_off2 _ _ (by omega), hr _ (by omega), sI_sA] at e5
  rw [e5]
  refine hK _ (fun k hk => ?_)
  have hf' := hf
  rw [hr 104 (by omega)] at hf'
  match k, hk with
  | 0, _ => rfl
  | 1, _ => rfl
  | 2, _ => exact hf' 2 (by omega)
  | 3, _ => exact hf' 3 (by omega)
  | 4, _ => rfl
  | 5, _ => exact hf' 5 (by omega)
  | 6, _ => exact hf' 6 (by omega)
  | 7, _ => exact hf' 7 (by omega)
  | 8, _ => exact hf' 8 (by omega)
  | k + 9, h => omega
theorem m_tallAt {x y : Int32} (hg : MP σ v P) (hr : MR σ 322 L) (hK : K (some (.int (nI (tlS P L x y)))) σ) : C2 Γ l mX10_tallAt [.ref 284, .int x, .int y] σ K := by
  have pk := hg.2.2.2.2.2.2.2.2.2.2.2.2.2.2.2
  have w8 := pk.1
  have r6 := pk.2.1
  refine tX10_tallAt (m_isCell hg (ri ?_))
  rw [bI_0]
  refine ⟨fun q => ?_, fun q => ?_⟩
  · rw [tlS, q] at hK
    exact hK
  · simp only [Bool.not_eq_false] at q
    obtain ⟨X, Y, rfl, rfl, hX, hY⟩ := vC_nat q
    rw [m_ix8]
    rw [tlS, q, if_pos rfl, nI_clamp (by omega), nI_clamp (by omega)] at hK
    refine ⟨vp_in_nI (by omega) (by omega), ?_⟩
    rw [nI_clamp (by omega), hr _ (by omega)]
    exact hK
theorem vC_at {x y : Nat} (hx : x < 2 ^ 30) (hy : y < 2 ^ 30) : vC P (nI x) (nI y) = decide (x < pw P ∧ y < pr P) := by
  unfold vC
  rw [nI_clamp (by omega), nI_clamp (by omega)]
  have n1 := nI_pos (n := x) (by omega)
  have n2 := nI_pos (n := y) (by omega)
  exact decide_eq_decide.mpr ⟨fun h => h.2.2, fun h => ⟨n1, n2, h⟩⟩
theorem tlS_at {x y : Nat} (ok : LVok P L) (pk : PVok P) (hx : x < 9) (hy : y < 7) : tlS P L (nI x) (nI y) = cH L ((y + 1) * 10 + x + 1) := by
  have w8 := pk.1
  have r6 := pk.2.1
  unfold tlS
  rw [vC_at (by omega) (by omega), nI_clamp (by omega), nI_clamp (by omega)]
  by_cases h : x < 8 ∧ y < 6
  · rw [cH_at L h.1 h.2]
    by_cases h2 : x < pw P ∧ y < pr P
    · rw [decide_eq_true h2, if_pos rfl]
    · rw [decide_eq_false h2, if_neg (by decide)]
      refine (ok.2.1 x y h.1 h.2 ?_).1.symm
      unfold grass
      exact decide_eq_false (fun z => h2 ⟨z.1, z.2.1⟩)
  · rw [decide_eq_false (by omega), if_neg (by decide)]
    unfold cH
    have : inb ((y + 1) * 10 + x + 1) = false := by
      simp only [inb, decide_eq_false_iff_not]
      omega
    rw [this]
    rfl
theorem tlS_l {x y : Nat} (ok : LVok P L) (pk : PVok P) (hx : x < 8) (hy : y < 6) : tlS P L (nI x - 1) (nI y) = cH L ((y + 1) * 10 + x) := by
  match x, hx with
  | 0, _ =>
    have h1 : vC P (nI 0 - 1) (nI y) = false := by
      unfold vC
      exact decide_eq_false (fun z => z.1 (by decide))
    unfold tlS
    rw [h1, if_neg (by decide)]
    unfold cH
    have : inb ((y + 1) * 10 + 0) = false := by
      simp only [inb, decide_eq_false_iff_not]
      omega
    rw [this]
    rfl
  | x + 1, hx =>
    rw [nI_pred, tlS_at ok pk (by omega) (by omega)]
    rfl
theorem tlS_u {x y : Nat} (ok : LVok P L) (pk : PVok P) (hx : x < 8) (hy : y < 6) : tlS P L (nI x) (nI y - 1) = cH L (y * 10 + x + 1) := by
  match y, hy with
  | 0, _ =>
    have h1 : vC P (nI x) (nI 0 - 1) = false := by
      unfold vC
      exact decide_eq_false (fun z => z.2.1 (by decide))
    unfold tlS
    rw [h1, if_neg (by decide)]
    unfold cH
    have : inb (0 * 10 + x + 1) = false := by
      simp only [inb, decide_eq_false_iff_not]
      omega
    rw [this]
    rfl
  | y + 1, hy =>
    rw [nI_pred, tlS_at ok pk (by omega) (by omega)]
theorem m_growsBy {x y : Nat} {wet : Int32} (hg : MG σ v P) (hr : MR σ 322 L) (ok : LVok P L) (hx : x < pw P) (hy : y < pr P) (hK : ∀ τ, DM [319, 320] [53] σ τ → K (some (.int (grS P L x y wet))) τ) : C2 Γ l mX10_growsBy [.ref 284, .int (nI x), .int (nI y), .int wet] σ K := by
  have pk := hg.1.2.2.2.2.2.2.2.2.2.2.2.2.2.2.2
  have w8 := pk.1
  have r6 := pk.2.1
  have v1 := hg.1.1
  refine tX10_growsBy (m_looksAtCell hg.1 hr hx hy (fun f hf => rv ⟨vp9 3 (by decide), fun s3 e3 => ?_⟩))
  rw [show Int32.toNatClampNeg 3 = 3 from rfl, sI_sA] at e3
  have d3 : DM [319, 320] [53] σ s3 := by
    rw [e3]
    exact DM.rf.sA (by simp) (by omega)
  have o3 : offM [319, 320] := fun b hb => by
    simp at hb
    omega
  have g3 := hg.dm d3 o3 (by simp)
  have r3 := hr.dm d3 (by simp) (by omega)
  have b1 := cH_le ok ((y + 1) * 10 + x) (by omega)
  have b2 := cH_le ok ((y + 1) * 10 + x + 2) (by omega)
  have b3 := cH_le ok (y * 10 + x + 1) (by omega)
  have b4 := cH_le ok ((y + 2) * 10 + x + 1) (by omega)
  refine m_tallAt g3.1 r3 (ri (m_tallAt g3.1 r3 (ri ?_)))
  rw [tlS_l ok pk (by omega) (by omega), nI_1, tlS_at ok pk (by omega) (by omega), show (y + 1) * 10 + (x + 1) + 1 = (y + 1) * 10 + x + 2 by omega]
  refine m_most (by omega) (by omega) (ri (m_tallAt g3.1 r3 (ri (m_tallAt g3.1 r3 (ri ?_)))))
  rw [tlS_u ok pk (by omega) (by omega), nI_1, tlS_at ok pk (by omega) (by omega), show (y + 1 + 1) * 10 + x + 1 = (y + 2) * 10 + x + 1 by omega]
  refine m_most (by omega) (by omega) (ri (m_most (by omega) (by omega) (ri ⟨vp9 7 (by decide), fun s18 e18 => ⟨vp9 1 (by decide), ?_⟩⟩)))
  rw [show Int32.toNatClampNeg 7 = 7 from rfl, e3, sI_sA] at e18
  have d18 : DM [319, 320] [53] σ s18 := by
    rw [e18]
    exact DM.rf.sA (by simp) (by omega)
  have g18 := hg.dm d18 o3 (by simp)
  have hrow : s18.1 319 = upd (upd f 3 wet) 7 (nI (nbS L x y)) := by rw [e18, sA_row]; rfl
  refine m_lawTells (k := 0) (by omega) g18.1.2.1 v1 g18.2.1 rfl (fun τ dτ => ri (m_held (by decide) (ri ?_)))
  have hev : evL (s18.1 319) (plw P 0) = evL (grV P L x y wet) (plw P 0) := by
    rw [hrow]
    refine evL_cong (fun k hk => ?_) _ hg.2.1.1
    unfold grV upd
    by_cases h7 : k = 7
    · simp [h7]
    · by_cases h3 : k = 3
      · simp [h3]
      · simp [h7, h3, hf k hk]
  rw [hev]
  exact hK τ (d18.tr dτ (by simp) (by simp))
theorem m_feedsBy {x y : Nat} (hg : MG σ v P) (hr : MR σ 322 L) (hx : x < pw P) (hy : y < pr P) (hK : ∀ τ, DM [319, 320] [53] σ τ → K (some (.int (fdS P L x y))) τ) : C2 Γ l mX10_feedsBy [.ref 284, .int (nI x), .int (nI y)] σ K := by
  have v1 := hg.1.1
  refine tX10_feedsBy (m_looksAtCell hg.1 hr hx hy (fun f hf => rv ?_))
  have d3 : DM [319, 320] [53] σ (sA σ 319 f) := DM.rf.sA (by simp) (by omega)
  have o3 : offM [319, 320] := fun b hb => by
    simp at hb
    omega
  have g3 := hg.dm d3 o3 (by simp)
  refine m_lawTells (k := 1) (by omega) g3.1.2.1 v1 g3.2.2.1 rfl (fun τ dτ => ri (m_held (by decide) (ri ?_)))
  rw [sA_row, evL_cong hf _ hg.2.2.1.1]
  exact hK τ (d3.tr dτ (by simp) (by simp))
theorem m_ix9 {s k : Nat} (h : MP σ v P) : (9 * ((4 * σ.1 284 18) + nI s)) + nI k = nI (9 * (4 * v + s) + k) := by
  rw [h.2.1]
  simp (disch := omega) only [nL, nI_add, pk_mul, pk_sub, nI_clamp, nI_leI, nI_ltI, nI_eq]
theorem m_crosses {s : Nat} (hg : MP σ v P) (hs : s < pns P) (hK : K (some (.int (nI (szS P s)))) σ) : C2 Γ l mX10_crosses [.ref 284, .int (nI s)] σ K := by
  have pk := hg.2.2.2.2.2.2.2.2.2.2.2.2.2.2.2
  have s4 := pk.2.2.1
  have v1 := hg.1
  have key : ∀ n k, n + k = 9 → wX10_crosses_4 Γ l (nI s) (nI (cn (fun k => pcut P s k) k)) (nI k) σ K := by
    intro n
    induction n with
    | zero =>
      intro k h1
      have : k = 9 := by omega
      subst this
      exact tX10_crosses_4 ⟨fun _ => hK, fun q => absurd (by decide) q⟩
    | succ n ih =>
      intro k h1
      refine tX10_crosses_4 ⟨fun q => absurd q (by simp (disch := omega) only [nL, nI_add, pk_mul, pk_sub, nI_clamp, nI_leI, nI_ltI, nI_eq]; omega), fun _ => ?_⟩
      rw [m_ix9 hg, nI_clamp (by omega), hg.2.2.2.2.2.2.2.2.2.2.2.2.1 s k hs (by omega), bI_0, nI_1, nI_1]
      have ih := ih (k + 1) (by omega)
      refine ⟨vp_in_nI (by omega) (by omega), fun q => ?_, fun q => ?_⟩
      · simp only [cn, q, Bool.false_eq_true, if_false] at ih
        exact ih
      · simp only [Bool.not_eq_false] at q
        simp only [cn, q, if_true] at ih
        exact ih
  exact tX10_crosses (key 9 0 rfl)
theorem m_finesBy {s x y : Nat} (hg : MG σ v P) (hr : MR σ 322 L) (hs : s < pns P) (hK : ∀ τ, DM [319, 320] [53] σ τ → K (some (.int (fnS P L s x y))) τ) : C2 Γ l mX10_finesBy [.ref 284, .int (nI s), .int (nI x), .int (nI y)] σ K := by
  have v1 := hg.1.1
  refine tX10_finesBy (m_looks (fun f hf => rv ?_))
  have d3 : DM [319, 320] [53] σ (sA σ 319 f) := DM.rf.sA (by simp) (by omega)
  have o3 : offM [319, 320] := fun b hb => by
    simp at hb
    omega
  have g3 := hg.dm d3 o3 (by simp)
  refine m_crosses g3.1 hs (ri ⟨vp9 8 (by decide), fun s5 e5 => ⟨vp9 8 (by decide), ?_⟩⟩)
  rw [show Int32.toNatClampNeg 8 = 8 from rfl, sI_sA] at e5
  have d5 : DM [319, 320] [53] σ s5 := by
    rw [e5]
    exact DM.rf.sA (by simp) (by omega)
  have g5 := hg.dm d5 o3 (by simp)
  have hrow : s5.1 319 = upd f 8 (nI (szS P s)) := by rw [e5, sA_row]
  refine m_lawTells (k := 2) (by omega) g5.1.2.1 v1 g5.2.2.2 rfl (fun τ dτ => ri (m_held (by decide) (ri ?_)))
  have hev : evL (s5.1 319) (plw P 2) = evL (fnV L x y (szS P s)) (plw P 2) := by
    rw [hrow]
    refine evL_cong (fun k hk => ?_) _ hg.2.2.2.1
    have hf' := hf
    rw [hr 104 (by omega)] at hf'
    match k, hk with
    | 0, _ => exact hf' 0 (by omega)
    | 1, _ => exact hf' 1 (by omega)
    | 2, _ => exact hf' 2 (by omega)
    | 3, _ => exact hf' 3 (by omega)
    | 4, _ => exact hf' 4 (by omega)
    | 5, _ => exact hf' 5 (by omega)
    | 6, _ => exact hf' 6 (by omega)
    | 7, _ => exact hf' 7 (by omega)
    | 8, _ => rfl
    | k + 9, h => omega
  rw [hev]
  exact hK τ (d5.tr dτ (by simp) (by simp))
end M3
