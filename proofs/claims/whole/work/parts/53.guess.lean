/-! the class: a guess grows only where it is other than the bare lawn -/
theorem bx0 : ∀ l, l < 9 → imx (0 : Int32) (nI l - 0) = nI (l - 0) ∧ imx (0 : Int32) (nI l - 1) = nI (l - 1) := by decide +kernel
theorem bx1 : ∀ w, w < 9 → ∀ r, r < 9 → imn (nI w - 1) ((nI r - 1) + 0) = nI (min w (r + 0)) - 1 ∧ imn (nI w - 1) ((nI r - 1) + 1) = nI (min w (r + 1)) - 1 := by decide +kernel
theorem bx2 : ∀ e, e < 10 → ∀ y, y < 12 → ((nI e - 1 < nI y) ↔ e ≤ y) := by decide +kernel
theorem bx3 : ∀ l, l < 10 → ∀ r, r < 10 → ((nI l ≤ nI r - 1) ↔ l < r) := by decide +kernel
theorem bx4 : ∀ r, r < 9 → ∀ x, x < 9 → imx (nI r - 1) (nI x) = nI (max r (x + 1)) - 1 := by decide +kernel
theorem inb_of {i : Nat} (hb : inb i = true) : ∃ x y, x < 8 ∧ y < 6 ∧ i = (y + 1) * 10 + x + 1 := by
  simp only [inb, decide_eq_true_eq] at hb
  exact ⟨i % 10 - 1, i / 10 - 1, by omega, by omega, by omega⟩
/-- a guess while it ripens: the lawn, the box -/
def GI (σ : SS) (P : PV) (w wk : Nat) (M : LV) (l r t b : Nat) : Prop :=
  XBw σ P w ∧ XL σ 263 M ∧ M 104 = wk ∧ LVok P M ∧ (∀ k, 48 ≤ k → k ≠ 104 → M k = 0) ∧ l ≤ 8 ∧ r ≤ 8 ∧ t ≤ 6 ∧ b ≤ 6 ∧ σ.1 219 13 = nI l ∧ σ.1 219 14 = nI r - 1 ∧ σ.1 219 15 = nI t ∧ σ.1 219 16 = nI b - 1 ∧ ∀ x y, x < 8 → y < 6 → ¬ (l ≤ x ∧ x < r ∧ t ≤ y ∧ y < b) → M (8 * y + x) = barL P wk (8 * y + x)
def gO (M B : LV) (sp : Bool) (i : Nat) : Bool := decide (cH M i ≠ cH B i ∨ (sp = true ∧ (cH M (i - 1) ≠ cH B (i - 1) ∨ cH M (i + 1) ≠ cH B (i + 1) ∨ cH M (i - 10) ≠ cH B (i - 10) ∨ cH M (i + 10) ≠ cH B (i + 10))))
def rS (p : Nat) : List Nat := [47, p + 11, 219, 263, 264, 268]
def qS (p : Nat) : List Nat := [47, p + 11, 219, 268]
theorem qS_off {p : Nat} (hp : isP p) : offP (qS p) := fun b hb => by
  have := isP_or hp
  simp [qS] at hb
  omega
theorem rS_off {p : Nat} (hp : isP p) : offP (rS p) := fun b hb => by
  have := isP_or hp
  simp [rS] at hb
  omega
section C2s
variable {Γ : GE} {l : Launch} {σ : SS} {K : Option Value → SS → Prop} {P : PV} {L M B : LV} {p a : Nat}
theorem c_growsOther {sp : Bool} {x y a4 : Nat} (hl : XL σ 263 M) (hM : LVok P M) (hB : LVok P B) (h4 : shA a4 = some (.int, 80)) (hr : ∀ i, i < 80 → σ.1 a4 i = nI (cH B i)) (hx : x < 8) (hy : y < 6) (hK : K (some (.int (bI (gO M B sp ((y + 1) * 10 + x + 1))))) σ) : C2 Γ l mX0_growsOtherwise [.ref 219, .int (nI ((y + 1) * 10 + x + 1)), .ref a4, .int (bI sp)] σ K := by
  have v : ∀ i, i < 80 → vp_in (nI i) 80 := fun i hi => vp_in_nI hi (by omega)
  have e1 : nI ((y + 1) * 10 + x + 1) - 1 = nI ((y + 1) * 10 + x + 1 - 1) := pk_sub (b := 1) (by omega)
  have e2 : nI ((y + 1) * 10 + x + 1) - 10 = nI ((y + 1) * 10 + x + 1 - 10) := pk_sub (b := 10) (by omega)
  have e3 : nI ((y + 1) * 10 + x + 1) + 1 = nI ((y + 1) * 10 + x + 1 + 1) := nI_1 _
  have e4 : nI ((y + 1) * 10 + x + 1) + 10 = nI ((y + 1) * 10 + x + 1 + 10) := nI_add _ 10
  have eq : ∀ i, i < 80 → (σ.1 (263 + 1) i = σ.1 a4 i ↔ cH M i = cH B i) := fun i hi => by
    rw [hl.2.1 i hi, hr i hi, nI_eq (by have := cH_le hM i hi; omega) (by have := cH_le hB i hi; omega)]
  refine tX0_growsOtherwise h4 ⟨v _ (by omega), v _ (by omega), ?_⟩
  rw [e1, e2, e3, e4, nI_clamp (by omega), nI_clamp (by omega), nI_clamp (by omega), nI_clamp (by omega), nI_clamp (by omega), eq _ (by omega), eq _ (by omega), eq _ (by omega), eq _ (by omega), eq _ (by omega), bI_0]
  refine ⟨fun q => ?_, fun q => ⟨fun s => ?_, fun s => ⟨v _ (by omega), v _ (by omega), fun q1 => ?_, fun q1 => ⟨v _ (by omega), v _ (by omega), fun q2 => ?_, fun q2 => ⟨v _ (by omega), v _ (by omega), fun q3 => ?_, fun q3 => ⟨v _ (by omega), v _ (by omega), fun q4 => ?_, fun q4 => ?_⟩⟩⟩⟩⟩⟩
  · rw [gO, decide_eq_true (Or.inl q)] at hK
    exact hK
  · rw [gO, decide_eq_false (fun z => z.elim (fun z => z q) (fun z => by rw [s] at z; exact absurd z.1 (by decide)))] at hK
    exact hK
  · simp only [Bool.not_eq_false] at s
    rw [gO, decide_eq_true (Or.inr ⟨s, Or.inl q1⟩)] at hK
    exact hK
  · simp only [Bool.not_eq_false] at s
    rw [gO, decide_eq_true (Or.inr ⟨s, Or.inr (Or.inl q2)⟩)] at hK
    exact hK
  · simp only [Bool.not_eq_false] at s
    rw [gO, decide_eq_true (Or.inr ⟨s, Or.inr (Or.inr (Or.inl q3))⟩)] at hK
    exact hK
  · rw [gO, decide_eq_false (fun z => z.elim (fun z => z q) (fun z => z.2.elim (fun z => z q1) (fun z => z.elim (fun z => z q2) (fun z => z.elim (fun z => z q3) (fun z => z q4)))))] at hK
    exact hK
  · simp only [Bool.not_eq_false] at s
    rw [gO, decide_eq_true (Or.inr ⟨s, Or.inr (Or.inr (Or.inr q4))⟩)] at hK
    exact hK
/-- where nothing is other, growth is the same -/
theorem gw_loc {wet : Int32} {sp : Bool} {x y : Nat} (hw : okL (plw P 0)) (hu : usS (plw P 0) 7 = sp) (hx : x < 8) (hy : y < 6) (h4 : M 104 = B 104) (hzM : ∀ k, 48 ≤ k → k ≠ 104 → M k = 0) (hzB : ∀ k, 48 ≤ k → k ≠ 104 → B k = 0) (h : gO M B sp ((y + 1) * 10 + x + 1) = false) : gwL P M wet (8 * y + x) = gwL P B wet (8 * y + x) := by
  simp only [gO, decide_eq_false_iff_not, not_or, not_and, Decidable.not_not] at h
  obtain ⟨h0, h1⟩ := h
  have h00 : M (8 * y + x) = B (8 * y + x) := by rw [← cH_at M hx hy, ← cH_at B hx hy]; exact h0
  rw [gwL_h P M wet hx hy, gwL_h P B wet hx hy, h00]
  have hown : ∀ i, i < 9 → i ≠ 3 → i ≠ 7 → ownV P M x y i = ownV P B x y i := fun i hi h3 h7 => by
    have h8 : i = 0 ∨ i = 1 ∨ i = 2 ∨ i = 4 ∨ i = 5 ∨ i = 6 ∨ i = 8 := by omega
    rcases h8 with rfl | rfl | rfl | rfl | rfl | rfl | rfl
    · simp only [ownV]
      rw [h00]
    · rfl
    · simp only [ownV]
      rw [h4]
    · simp only [ownV]
      rw [hzM _ (by omega) (by omega), hzB _ (by omega) (by omega)]
    · rfl
    · rfl
    · rfl
  have : grS P M x y wet = grS P B x y wet := by
    unfold grS
    congr 1
    by_cases hs : sp = true
    · obtain ⟨a1, a2, a3, a4⟩ := h1 hs
      refine evL_cong (fun i hi => ?_) (plw P 0) hw
      unfold grV
      by_cases h3 : i = 3
      · rw [if_pos h3, if_pos h3]
      · rw [if_neg h3, if_neg h3]
        by_cases h7 : i = 7
        · rw [if_pos h7, if_pos h7]
          unfold nbS
          rw [show (y + 1) * 10 + x = (y + 1) * 10 + x + 1 - 1 by omega, show (y + 1) * 10 + x + 1 - 1 + 2 = (y + 1) * 10 + x + 1 + 1 by omega, show y * 10 + x + 1 = (y + 1) * 10 + x + 1 - 10 by omega, show (y + 2) * 10 + x + 1 = (y + 1) * 10 + x + 1 + 10 by omega, a1, a2, a3, a4]
        · rw [if_neg h7, if_neg h7]
          exact hown i hi h3 h7
    · simp only [Bool.not_eq_true] at hs
      rw [hs] at hu
      refine evL_no (j := 7) (fun i hi hne => ?_) (plw P 0) 0 hw (usS_no hu)
      unfold grV
      by_cases h3 : i = 3
      · rw [if_pos h3, if_pos h3]
      · rw [if_neg h3, if_neg h3, if_neg hne, if_neg hne]
        exact hown i hi h3 hne
  rw [this]
/-- while one week of a guess is gone through -/
def EI (σ : SS) (p : Nat) (N B : LV) (fx ex fy ey y x : Nat) (l r t b : Nat) (τ : SS) : Prop :=
  Df (qS p) σ τ ∧ τ.1 219 4 = σ.1 219 4 ∧ τ.1 219 8 = σ.1 219 8 ∧ (∀ i, i < 80 → inb i = false → τ.1 268 i = 0) ∧
  (∀ cx cy, cx < 8 → cy < 6 → τ.1 268 ((cy + 1) * 10 + cx + 1) = nI (if fx ≤ cx ∧ cx < ex ∧ fy ≤ cy ∧ cy < ey ∧ (cy < y ∨ (cy = y ∧ cx < x)) then N (8 * cy + cx) else B (8 * cy + cx))) ∧
  l ≤ 8 ∧ r ≤ 8 ∧ t ≤ 6 ∧ b ≤ 6 ∧ τ.1 219 13 = nI l ∧ τ.1 219 14 = nI r - 1 ∧ τ.1 219 15 = nI t ∧ τ.1 219 16 = nI b - 1 ∧
  (∀ cx cy, fx ≤ cx → cx < ex → fy ≤ cy → cy < ey → (cy < y ∨ (cy = y ∧ cx < x)) → N (8 * cy + cx) ≠ B (8 * cy + cx) → l ≤ cx ∧ cx < r ∧ t ≤ cy ∧ cy < b)
section C3
variable {w wk : Nat} {sp : Bool} {fx ex fy ey : Nat}
theorem c_gg_x {y : Nat} (hg : XGL σ p P) (hu : usS (plw P 0) 7 = sp) (hb : XBw σ P w) (hl : XL σ 263 M) (h4 : M 104 = wk) (hM : LVok P M) (hz : ∀ k, 48 ≤ k → k ≠ 104 → M k = 0) (hwk : wk < w) (hww : w < wk + 31) (hfx : fx ≤ 8) (hex : ex ≤ pw P) (hey : ey ≤ pr P) (hfy : fy ≤ y) (hy : y < ey)
    (kk : ∀ τ l' r' t' b', EI σ p (gwL P M (wetS P (nI (psd P)) (nI wk))) (barL P (wk + 1)) fx ex fy ey (y + 1) fx l' r' t' b' τ → wX0_growGuess_157 Γ l (bI sp) p (wetS P (nI (psd P)) (nI wk)) (229 + wk % 31) (229 + (wk + 1) % 31) (nI fx) (nI ex - 1) (nI ey - 1) (nI (y + 1)) τ K) :
    ∀ m x τ l' r' t' b', (m + x = ex ∨ (m = 0 ∧ ex ≤ x)) → fx ≤ x → x ≤ 8 → EI σ p (gwL P M (wetS P (nI (psd P)) (nI wk))) (barL P (wk + 1)) fx ex fy ey y x l' r' t' b' τ → wX0_growGuess_168 Γ l (bI sp) p (wetS P (nI (psd P)) (nI wk)) (229 + wk % 31) (229 + (wk + 1) % 31) (nI fx) (nI ex - 1) (nI ey - 1) (nI y) (nI x) τ K := by
  have pk := hg.1.2.2
  have w8 := pk.1
  have r6 := pk.2.1
  have hpi := hg.1.2.1.1
  have hp := isP_or hpi
  obtain ⟨b1, b2, b3, b4, b5⟩ := hb
  have hBn := barL_ok pk (w := wk) (by omega)
  have hBs := barL_s pk (w := wk) (by omega)
  have a4 : shA (229 + wk % 31) = some (.int, 80) := AB229 _ (by omega)
  have a5 : shA (229 + (wk + 1) % 31) = some (.int, 80) := AB229 _ (by omega)
  intro m
  induction m with
  | zero =>
    intro x τ l' r' t' b' g1 g2 g3 hE
    refine tX0_growGuess_168 hpi a4 a5 ⟨fun _ => ?_, fun q => absurd ((bx2 ex (by omega) x (by omega)).mpr (by omega)) q⟩
    rw [nI_1]
    refine kk τ l' r' t' b' ?_
    obtain ⟨c1, c2, c3, c4, c5, c6, c7, c8, c9, c10, c11, c12, c13, c14⟩ := hE
    refine ⟨c1, c2, c3, c4, fun cx cy hcx hcy => ?_, c6, c7, c8, c9, c10, c11, c12, c13, fun cx cy i1 i2 i3 i4 i5 hne => c14 cx cy i1 i2 i3 i4 (by omega) hne⟩
    rw [c5 cx cy hcx hcy]
    congr 1
    by_cases hh : fx ≤ cx ∧ cx < ex ∧ fy ≤ cy ∧ cy < ey ∧ (cy < y ∨ (cy = y ∧ cx < x))
    · rw [if_pos hh, if_pos (by omega)]
    · rw [if_neg hh, if_neg (by omega)]
  | succ m ih =>
    intro x τ l' r' t' b' g1 g2 g3 hE
    have hx : x < ex := by omega
    have hE0 := hE
    obtain ⟨c1, c2, c3, c4, c5, c6, c7, c8, c9, c10, c11, c12, c13, c14⟩ := hE
    have hgt := hg.df c1 (qS_off hpi)
    have hlt : XL τ 263 M := hl.df c1 (by simp [qS]; omega) (by simp [qS]; omega) (by simp [qS]; omega) (by simp [qS]; omega) (by simp [qS]; omega)
    have v8 : vp_in (nI ((y + 1) * 10 + x + 1)) 80 := vp_in_nI (by omega) (by omega)
    refine tX0_growGuess_168 hpi a4 a5 ⟨fun q => absurd ((bx2 ex (by omega) x (by omega)).mp q) (by omega), fun _ => c_indexOf (ri ⟨v8, ?_⟩)⟩
    rw [nI_clamp (by omega), hgt.1.2.1.2.2.2.2.2.2.2.2.2.2.1 _ (by omega), cSu_at P (by omega) (by omega) pk]
    have cur : τ.1 268 ((y + 1) * 10 + x + 1) = nI (barL P (wk + 1) (8 * y + x)) := by
      rw [c5 x y (by omega) (by omega), if_neg (by omega)]
    -- the cell stays as it is on the bare lawn
    have stay : gwL P M (wetS P (nI (psd P)) (nI wk)) (8 * y + x) = barL P (wk + 1) (8 * y + x) → ∀ υ, Df [47, p + 11] τ υ → wX0_growGuess_269 Γ l (bI sp) p (wetS P (nI (psd P)) (nI wk)) (229 + wk % 31) (229 + (wk + 1) % 31) (nI fx) (nI ex - 1) (nI ey - 1) (nI y) (nI x) υ K := fun heq υ du => by
      refine tX0_growGuess_269 hpi a4 a5 ?_
      rw [nI_1]
      have d19 : υ.1 219 = τ.1 219 := du.1 219 (by simp; omega)
      have d68 : υ.1 268 = τ.1 268 := du.1 268 (by simp; omega)
      refine ih (x + 1) υ l' r' t' b' (by omega) (by omega) (by omega) ⟨c1.tr du (fun b hb => by simp at hb; simp [qS]; omega), by rw [d19]; exact c2, by rw [d19]; exact c3, fun i h1 h2 => by rw [d68]; exact c4 i h1 h2, fun cx cy hcx hcy => ?_, c6, c7, c8, c9, by rw [d19]; exact c10, by rw [d19]; exact c11, by rw [d19]; exact c12, by rw [d19]; exact c13, fun cx cy i1 i2 i3 i4 i5 hne => ?_⟩
      · rw [d68, c5 cx cy hcx hcy]
        congr 1
        by_cases e : cx = x ∧ cy = y
        · obtain ⟨rfl, rfl⟩ := e
          rw [if_neg (by omega), if_pos (by omega), heq]
        · by_cases hh : fx ≤ cx ∧ cx < ex ∧ fy ≤ cy ∧ cy < ey ∧ (cy < y ∨ (cy = y ∧ cx < x))
          · rw [if_pos hh, if_pos (by omega)]
          · rw [if_neg hh, if_neg (by omega)]
      · by_cases e : cx = x ∧ cy = y
        · obtain ⟨rfl, rfl⟩ := e
          exact absurd heq hne
        · exact c14 cx cy i1 i2 i3 i4 (by omega) hne
    have gr : grass P x y = true ↔ ¬ psun P x y < 0 := by
      simp only [grass, decide_eq_true_eq]
      constructor
      · exact fun z => z.2.2
      · exact fun z => ⟨by omega, by omega, z⟩
    refine ⟨fun q => stay ?_ τ Df.rf, fun q => ?_⟩
    · rw [hBs, gwL_h _ _ _ (by omega) (by omega), gwL_h _ _ _ (by omega) (by omega), if_neg (fun z => gr.mp z q), if_neg (fun z => gr.mp z q)]
    · refine c_growsOther (B := barL P wk) hlt hM hBn.1 a4 (fun i hi => ?_) (by omega) (by omega) (ri ?_)
      · rw [c1.1 _ (by simp [qS]; omega)]
        exact b5 wk (by omega) (by omega) i hi
      · rw [bI_0]
        refine ⟨fun z => stay ?_ τ Df.rf, fun z => ⟨v8, ?_⟩⟩
        · rw [hBs]
          exact gw_loc hg.2.1.2.1 hu (by omega) (by omega) (by rw [h4, hBn.2]) hz (fun k h1 h2 => barL_z k h1 h2) z
        · refine c_growth hgt hlt hM (by omega) (by omega) (fun υ du => ri (c_held (ri ⟨v8, fun s9 e9 => ?_⟩)))
          rw [XL_hi hlt (by omega) (by omega), ← (hld99_n _).1] at e9
          have eN : (hldS (nI (M (8 * y + x)) + grS P M x y (wetS P (nI (psd P)) (nI wk))) 0 99).toNatClampNeg = gwL P M (wetS P (nI (psd P)) (nI wk)) (8 * y + x) := by
            rw [gwL_h _ _ _ (by omega) (by omega), if_pos (gr.mpr q)]
          rw [eN] at e9
          have d9 : Df [268] υ s9 := by rw [e9]; exact Df.rf.wI (by simp)
          have dd9 : Df (qS p) σ s9 := (c1.tr du (fun b hb => by simp at hb; simp [qS]; omega)).tr d9 (fun b hb => by simp at hb; simp [qS]; omega)
          have nv : s9.1 268 ((y + 1) * 10 + x + 1) = nI (gwL P M (wetS P (nI (psd P)) (nI wk)) (8 * y + x)) := by rw [e9, sI_at, if_pos ⟨rfl, rfl⟩]
          have ov : ∀ i, i ≠ (y + 1) * 10 + x + 1 → s9.1 268 i = τ.1 268 i := fun i hi => by
            rw [e9, sI_at, if_neg (fun z => hi z.2), du.1 268 (by simp; omega)]
          have bn : s9.1 (229 + (wk + 1) % 31) ((y + 1) * 10 + x + 1) = nI (barL P (wk + 1) (8 * y + x)) := by
            rw [dd9.1 _ (by simp [qS]; omega), b5 (wk + 1) (by omega) (by omega) _ (by omega), cH_at _ (by omega) (by omega)]
          have s19 : s9.1 219 = τ.1 219 := by rw [d9.1 219 (by simp), du.1 219 (by simp; omega)]
          have hN := (gwL_ok (wet := wetS P (nI (psd P)) (nI wk)) hM (by rw [h4]; omega)).1 (8 * y + x) (by omega)
          have hBb := (barL_ok pk (w := wk + 1) (by omega)).1.1 (8 * y + x) (by omega)
          rw [nv, bn, nI_eq (by omega) (by omega)]
          have aft : ∀ cx cy, cx < 8 → cy < 6 → s9.1 268 ((cy + 1) * 10 + cx + 1) = nI (if fx ≤ cx ∧ cx < ex ∧ fy ≤ cy ∧ cy < ey ∧ (cy < y ∨ (cy = y ∧ cx < x + 1)) then gwL P M (wetS P (nI (psd P)) (nI wk)) (8 * cy + cx) else barL P (wk + 1) (8 * cy + cx)) := fun cx cy hcx hcy => by
            by_cases e : cx = x ∧ cy = y
            · obtain ⟨rfl, rfl⟩ := e
              rw [nv, if_pos (by omega)]
            · rw [ov _ (by omega), c5 cx cy hcx hcy]
              congr 1
              by_cases hh : fx ≤ cx ∧ cx < ex ∧ fy ≤ cy ∧ cy < ey ∧ (cy < y ∨ (cy = y ∧ cx < x))
              · rw [if_pos hh, if_pos (by omega)]
              · rw [if_neg hh, if_neg (by omega)]
          have brd : ∀ i, i < 80 → inb i = false → s9.1 268 i = 0 := fun i h1 h2 => by
            rw [ov i (fun e => by
              have : inb i = true := by simp only [inb, decide_eq_true_eq]; omega
              rw [this] at h2
              exact absurd h2 (by decide))]
            exact c4 i h1 h2
          refine ⟨v8, v8, fun heq => tX0_growGuess_269 hpi a4 a5 ?_, fun hne0 => ?_⟩
          · rw [nI_1]
            refine ih (x + 1) s9 l' r' t' b' (by omega) (by omega) (by omega) ⟨dd9, by rw [s19]; exact c2, by rw [s19]; exact c3, brd, aft, c6, c7, c8, c9, by rw [s19]; exact c10, by rw [s19]; exact c11, by rw [s19]; exact c12, by rw [s19]; exact c13, fun cx cy i1 i2 i3 i4 i5 hne => ?_⟩
            by_cases e : cx = x ∧ cy = y
            · obtain ⟨rfl, rfl⟩ := e
              exact absurd heq hne
            · exact c14 cx cy i1 i2 i3 i4 (by omega) hne
          · refine tX0_widenBox (fun u1 f1 u2 f2 u3 f3 u4 f4 => rv (tX0_growGuess_269 hpi a4 a5 ?_))
            rw [nI_1]
            have z1 : u1 = sI s9 219 13 (nI (min l' x)) := by rw [f1, s19, c10, imn_n (by omega) (by omega)]
            have z2 : u2 = sI u1 219 14 (nI (max r' (x + 1)) - 1) := by
              rw [f2, z1, sI_at, if_neg (by omega), s19, c11, bx4 r' (by omega) x (by omega)]
            have z3 : u3 = sI u2 219 15 (nI (min t' y)) := by
              rw [f3, z2, z1, sI_at, if_neg (by omega), sI_at, if_neg (by omega), s19, c12, imn_n (by omega) (by omega)]
            have z4 : u4 = sI u3 219 16 (nI (max b' (y + 1)) - 1) := by
              rw [f4, z3, z2, z1, sI_at, if_neg (by omega), sI_at, if_neg (by omega), sI_at, if_neg (by omega), s19, c13, bx4 b' (by omega) y (by omega)]
            have du4 : Df [219] s9 u4 := by rw [z4, z3, z2, z1]; exact (((Df.rf.wI (by simp)).wI (by simp)).wI (by simp)).wI (by simp)
            have k4 : ∀ j, j ≠ 13 → j ≠ 14 → j ≠ 15 → j ≠ 16 → u4.1 219 j = τ.1 219 j := fun j j1 j2 j3 j4 => by
              rw [z4, sI_at, if_neg (fun z => j4 z.2), z3, sI_at, if_neg (fun z => j3 z.2), z2, sI_at, if_neg (fun z => j2 z.2), z1, sI_at, if_neg (fun z => j1 z.2), s19]
            have u68 : u4.1 268 = s9.1 268 := du4.1 268 (by simp)
            refine ih (x + 1) u4 (min l' x) (max r' (x + 1)) (min t' y) (max b' (y + 1)) (by omega) (by omega) (by omega) ⟨dd9.tr du4 (fun b hb => by simp at hb; simp [qS]; omega), by rw [k4 4 (by omega) (by omega) (by omega) (by omega)]; exact c2, by rw [k4 8 (by omega) (by omega) (by omega) (by omega)]; exact c3, fun i h1 h2 => by rw [u68]; exact brd i h1 h2, fun cx cy h1 h2 => by rw [u68]; exact aft cx cy h1 h2, by omega, by omega, by omega, by omega, ?_, ?_, ?_, ?_, fun cx cy i1 i2 i3 i4 i5 hne => ?_⟩
            · rw [z4, sI_at, if_neg (by omega), z3, sI_at, if_neg (by omega), z2, sI_at, if_neg (by omega), z1, sI_at, if_pos ⟨rfl, rfl⟩]
            · rw [z4, sI_at, if_neg (by omega), z3, sI_at, if_neg (by omega), z2, sI_at, if_pos ⟨rfl, rfl⟩]
            · rw [z4, sI_at, if_neg (by omega), z3, sI_at, if_pos ⟨rfl, rfl⟩]
            · rw [z4, sI_at, if_pos ⟨rfl, rfl⟩]
            · by_cases e : cx = x ∧ cy = y
              · omega
              · have := c14 cx cy i1 i2 i3 i4 (by omega) hne
                omega
theorem c_gg_y (hg : XGL σ p P) (hu : usS (plw P 0) 7 = sp) (hb : XBw σ P w) (hl : XL σ 263 M) (h4 : M 104 = wk) (hM : LVok P M) (hz : ∀ k, 48 ≤ k → k ≠ 104 → M k = 0) (hwk : wk < w) (hww : w < wk + 31) (hfx : fx ≤ 8) (hex : ex ≤ pw P) (hey : ey ≤ pr P)
    (hK : ∀ τ l' r' t' b' s1 s2, EI σ p (gwL P M (wetS P (nI (psd P)) (nI wk))) (barL P (wk + 1)) fx ex fy ey ey fx l' r' t' b' τ → s1 = sA τ (263 + 1) (va_cpy (τ.1 268) (τ.1 (263 + 1)) 0 0 80) → s2 = sI s1 263 4 ((s1.1 263 4) + 1) → K none s2) :
    ∀ m y τ l' r' t' b', (m + y = ey ∨ (m = 0 ∧ ey ≤ y)) → fy ≤ y → y ≤ 6 → EI σ p (gwL P M (wetS P (nI (psd P)) (nI wk))) (barL P (wk + 1)) fx ex fy ey y fx l' r' t' b' τ → wX0_growGuess_157 Γ l (bI sp) p (wetS P (nI (psd P)) (nI wk)) (229 + wk % 31) (229 + (wk + 1) % 31) (nI fx) (nI ex - 1) (nI ey - 1) (nI y) τ K := by
  have pk := hg.1.2.2
  have w8 := pk.1
  have r6 := pk.2.1
  have hpi := hg.1.2.1.1
  have a4 : shA (229 + wk % 31) = some (.int, 80) := AB229 _ (by omega)
  have a5 : shA (229 + (wk + 1) % 31) = some (.int, 80) := AB229 _ (by omega)
  intro m
  induction m with
  | zero =>
    intro y τ l' r' t' b' g1 g2 g3 hE
    refine tX0_growGuess_157 hpi a4 a5 ⟨fun _ s1 e1 s2 e2 => hK τ l' r' t' b' s1 s2 ?_ e1 e2, fun q => absurd ((bx2 ey (by omega) y (by omega)).mpr (by omega)) q⟩
    obtain ⟨c1, c2, c3, c4, c5, c6, c7, c8, c9, c10, c11, c12, c13, c14⟩ := hE
    refine ⟨c1, c2, c3, c4, fun cx cy hcx hcy => ?_, c6, c7, c8, c9, c10, c11, c12, c13, fun cx cy i1 i2 i3 i4 i5 hne => c14 cx cy i1 i2 i3 i4 (by omega) hne⟩
    rw [c5 cx cy hcx hcy]
    congr 1
    by_cases hh : fx ≤ cx ∧ cx < ex ∧ fy ≤ cy ∧ cy < ey ∧ (cy < y ∨ (cy = y ∧ cx < fx))
    · rw [if_pos hh, if_pos (by omega)]
    · rw [if_neg hh, if_neg (by omega)]
  | succ m ih =>
    intro y τ l' r' t' b' g1 g2 g3 hE
    refine tX0_growGuess_157 hpi a4 a5 ⟨fun q => absurd ((bx2 ey (by omega) y (by omega)).mp q) (by omega), fun _ => ?_⟩
    exact c_gg_x hg hu hb hl h4 hM hz hwk hww hfx hex hey g2 (by omega) (fun τ2 l2 r2 t2 b2 h2 => ih (y + 1) τ2 l2 r2 t2 b2 (by omega) (by omega) (by omega) h2) (ex - fx) fx τ l' r' t' b' (by omega) (by omega) hfx hE
end C3
end C2s
