/-! the class: a guess ripens, and is written down -/
theorem ct9_out {P : PV} {L : LV} {s x y k : Nat} (h : ∀ i, i < 9 → k ≠ c9 x y i) : ∀ j, j ≤ 9 → ct9 P s x y L j k = L k
  | 0, _ => rfl
  | j + 1, hj => by
    have := ct9_out (P := P) (L := L) (s := s) h j (by omega)
    unfold ct9
    split
    · unfold upL
      rw [if_neg (h j (by omega))]
      exact this
    · exact this
theorem gwN_bar {P : PV} (pk : PVok P) : ∀ m w, w + m < 900000 → gwN P (nI (psd P)) m (barL P w) = barL P (w + m)
  | 0, w, _ => rfl
  | m + 1, w, h => by
    rw [show gwN P (nI (psd P)) (m + 1) (barL P w) = gwN P (nI (psd P)) m (gwL P (barL P w) (wetS P (nI (psd P)) (nI (barL P w 104)))) from rfl, (barL_ok pk (w := w) (by omega)).2, ← barL_s pk (w := w) (by omega), gwN_bar pk m (w + 1) (by omega)]
    congr 1
    omega
theorem XL_263 {σ : SS} {P : PV} {B : LV} {wk : Nat} (hz : XZ σ) (hB : ∀ k, 48 ≤ k → k ≠ 104 → B k = 0) (h4 : B 104 = wk) (hr : ∀ i, i < 80 → σ.1 264 i = nI (cH B i)) (hw : σ.1 263 4 = nI wk) : XL σ 263 B := by
  obtain ⟨z1, z2, z3, z4⟩ := hz
  refine ⟨isL_263, hr, fun i hi => ?_, fun w hw' => ?_, fun s hs => ?_, ?_, ?_⟩
  · rw [z1 i hi]
    have : cF B i = 0 := by
      unfold cF
      split
      · rename_i hb
        simp only [inb, decide_eq_true_eq] at hb
        exact hB _ (by omega) (by unfold kOf; omega)
      · rfl
    rw [this]
    rfl
  · rw [z2 w hw', hB _ (by omega) (by omega)]
    rfl
  · rw [z3 s hs, hB _ (by omega) (by omega)]
    rfl
  · rw [hw, h4]
  · rw [z4, hB 105 (by omega) (by omega)]
    rfl
section C4
variable {Γ : GE} {l : Launch} {σ : SS} {K : Option Value → SS → Prop} {P : PV} {L M B : LV} {p a : Nat} {w wk : Nat} {sp : Bool}
theorem XBw.df {S : List Nat} {τ : SS} (h : XBw σ P w) (d : Df S σ τ) (hz : XZ τ) (hS : ∀ b, b ∈ S → b < 223 ∨ 259 < b) : XBw τ P w := by
  obtain ⟨h1, h2, h3, h4, h5⟩ := h
  have no : ∀ b, 223 ≤ b → b ≤ 259 → b ∉ S := fun b b1 b2 hb => by have := hS b hb; omega
  refine ⟨fun i hi => by rw [d.2]; exact h1 i hi, hz, h3, h4.df d (no _ (by omega) (by omega)) (no _ (by omega) (by omega)) (no _ (by omega) (by omega)) (no _ (by omega) (by omega)) (no _ (by omega) (by omega)), fun v v1 v2 i hi => ?_⟩
  rw [d.1 _ (no _ (by omega) (by omega))]
  exact h5 v v1 v2 i hi
/-- cells that lie outside the box, and all around them -/
theorem cH_same {x0 x1 y0 y1 : Nat} (hM : ∀ x y, x < 8 → y < 6 → ¬ (x0 ≤ x ∧ x < x1 ∧ y0 ≤ y ∧ y < y1) → M (8 * y + x) = B (8 * y + x)) {i : Nat} (h : ∀ x y, x < 8 → y < 6 → i = (y + 1) * 10 + x + 1 → ¬ (x0 ≤ x ∧ x < x1 ∧ y0 ≤ y ∧ y < y1)) : cH M i = cH B i := by
  by_cases hb : inb i = true
  · obtain ⟨x, y, hx, hy, rfl⟩ := inb_of hb
    rw [cH_at M hx hy, cH_at B hx hy]
    exact hM x y hx hy (h x y hx hy rfl)
  · simp [cH, hb]
theorem c_growGuess {x0 x1 y0 y1 : Nat} (hg : XGL σ p P) (hu : usS (plw P 0) 7 = sp) (hI : GI σ P w wk M x0 x1 y0 y1) (hwk : wk < w) (hww : w < wk + 31)
    (hK : ∀ τ l' r' t' b', Df (rS p) σ τ → τ.1 219 4 = σ.1 219 4 → τ.1 219 8 = σ.1 219 8 → GI τ P w (wk + 1) (gwL P M (wetS P (nI (psd P)) (nI wk))) l' r' t' b' → K none τ) : C2 Γ l mX0_growGuess [.ref 219, .int (bI sp)] σ K := by
  have pk := hg.1.2.2
  have w8 := pk.1
  have r6 := pk.2.1
  have hpi := hg.1.2.1.1
  have hp := isP_or hpi
  obtain ⟨hb, hl, h4, hM, hz, q1, q2, q3, q4, q5, q6, q7, q8, q9⟩ := hI
  have hb0 := hb
  obtain ⟨b1, b2, b3, b4, b5⟩ := hb
  have wk4 : σ.1 263 4 = nI wk := by rw [hl.2.2.2.2.2.1, h4]
  have hBn := barL_ok pk (w := wk) (by omega)
  have hBs := barL_s pk (w := wk) (by omega)
  have rm0 : nI wk - nI wk / 31 * 31 = nI (wk % 31) := pk_rem (d := 31) (by omega) (by decide) (by decide)
  have rm1 : nI (wk + 1) - nI (wk + 1) / 31 * 31 = nI ((wk + 1) % 31) := pk_rem (d := 31) (by omega) (by decide) (by decide)
  refine tX0_growGuess ⟨p, hg.1.1, hpi, ?_⟩
  rw [wk4, hg.1.2.1.2.2.2.2.2.2.2.2.2.1]
  refine c_rainIn hg.1 (ri ?_)
  rw [wk4, nI_1, rm0, rm1, nI_clamp (by omega), nI_clamp (by omega)]
  refine ⟨vp_in_nI (by omega) (by omega), 229 + wk % 31, b1 _ (by omega), AB229 _ (by omega), vp_in_nI (by omega) (by omega), 229 + (wk + 1) % 31, b1 _ (by omega), AB229 _ (by omega), fun s6 e6 => ?_⟩
  have d6 : Df [268] σ s6 := by rw [e6]; exact Df.rf.wA (by simp)
  have r19 : s6.1 219 = σ.1 219 := d6.1 219 (by simp)
  have rp : s6.1 p = σ.1 p := d6.1 p (by simp; omega)
  rw [r19, rp, q5, q6, q7, q8, hg.1.2.1.2.1, hg.1.2.1.2.2.1]
  obtain ⟨z0, z1⟩ := bx0 x0 (by omega)
  obtain ⟨z2, z3⟩ := bx0 y0 (by omega)
  obtain ⟨z4, z5⟩ := bx1 (pw P) (by omega) x1 (by omega)
  obtain ⟨z6, z7⟩ := bx1 (pr P) (by omega) y1 (by omega)
  rw [z0, z1, z2, z3, z4, z5, z6, z7]
  have fin : ∀ (rc : Nat), (sp = true → 1 ≤ rc) → rc ≤ 1 → C2 Γ l mX0_closeBox [.ref 219] s6 (Rv fun s7 => wX0_growGuess_157 Γ l (bI sp) p (wetS P (nI (psd P)) (nI wk)) (229 + wk % 31) (229 + (wk + 1) % 31) (nI (x0 - rc)) (nI (min (pw P) (x1 + rc)) - 1) (nI (min (pr P) (y1 + rc)) - 1) (nI (y0 - rc)) s7 K) := by
    intro rc hrc hrc1
    refine tX0_closeBox (fun u1 f1 u2 f2 u3 f3 u4 f4 => rv ?_)
    have du : Df [219] s6 u4 := by rw [f4, f3, f2, f1]; exact (((Df.rf.wI (by simp)).wI (by simp)).wI (by simp)).wI (by simp)
    have k4 : ∀ j, j ≠ 13 → j ≠ 14 → j ≠ 15 → j ≠ 16 → u4.1 219 j = σ.1 219 j := fun j j1 j2 j3 j4 => by
      rw [f4, sI_at, if_neg (fun z => j4 z.2), f3, sI_at, if_neg (fun z => j3 z.2), f2, sI_at, if_neg (fun z => j2 z.2), f1, sI_at, if_neg (fun z => j1 z.2), r19]
    have v13 : u4.1 219 13 = nI 8 := by rw [f4, sI_at, if_neg (by omega), f3, sI_at, if_neg (by omega), f2, sI_at, if_neg (by omega), f1, sI_at, if_pos ⟨rfl, rfl⟩]; rfl
    have v14 : u4.1 219 14 = nI 0 - 1 := by rw [f4, sI_at, if_neg (by omega), f3, sI_at, if_neg (by omega), f2, sI_at, if_pos ⟨rfl, rfl⟩]; rfl
    have v15 : u4.1 219 15 = nI 6 := by rw [f4, sI_at, if_neg (by omega), f3, sI_at, if_pos ⟨rfl, rfl⟩]; rfl
    have v16 : u4.1 219 16 = nI 0 - 1 := by rw [f4, sI_at, if_pos ⟨rfl, rfl⟩]; rfl
    have du2 : Df (qS p) σ u4 := (d6.mo (fun b hb => by simp at hb; simp [qS]; omega)).tr du (fun b hb => by simp at hb; simp [qS]; omega)
    have r68 : ∀ i, i < 80 → u4.1 268 i = nI (cH (barL P (wk + 1)) i) := fun i hi => by
      rw [du.1 268 (by simp), e6, sA_row, pk_cpy_in (by omega) (by omega), Nat.zero_add, Nat.sub_zero]
      exact b5 (wk + 1) (by omega) (by omega) i hi
    refine c_gg_y (fx := x0 - rc) (ex := min (pw P) (x1 + rc)) (fy := y0 - rc) (ey := min (pr P) (y1 + rc)) hg hu hb0 hl h4 hM hz hwk hww (by omega) (Nat.min_le_left _ _) (Nat.min_le_left _ _) (fun τ l' r' t' b' s1 s2 hE e1 e2 => ?_) (min (pr P) (y1 + rc) - (y0 - rc)) (y0 - rc) u4 8 0 6 0 (by omega) (by omega) (by omega) ⟨du2, k4 4 (by omega) (by omega) (by omega) (by omega), k4 8 (by omega) (by omega) (by omega) (by omega), fun i i1 i2 => ?_, fun cx cy hcx hcy => ?_, by omega, by omega, by omega, by omega, v13, v14, v15, v16, fun cx cy i1 i2 i3 i4 i5 => absurd i5 (by omega)⟩
    · obtain ⟨c1, c2, c3, c4, c5, c6, c7, c8, c9, c10, c11, c12, c13, c14⟩ := hE
      -- every cell's new height
      have same : ∀ x y, x < 8 → y < 6 → ¬ (x0 - rc ≤ x ∧ x < min (pw P) (x1 + rc) ∧ y0 - rc ≤ y ∧ y < min (pr P) (y1 + rc)) → gwL P M (wetS P (nI (psd P)) (nI wk)) (8 * y + x) = barL P (wk + 1) (8 * y + x) := fun x y hx hy hout => by
        rw [hBs]
        by_cases hgr : grass P x y = true
        · have hin : x < pw P ∧ y < pr P := by simp only [grass, decide_eq_true_eq] at hgr; omega
          refine gw_loc hg.2.1.2.1 hu hx hy (by rw [h4, hBn.2]) hz (fun k k1 k2 => barL_z k k1 k2) ?_
          have far : ∀ x' y', x' < 8 → y' < 6 → (x ≤ x' + rc ∧ x' ≤ x + rc ∧ y ≤ y' + rc ∧ y' ≤ y + rc) → ¬ (x0 ≤ x' ∧ x' < x1 ∧ y0 ≤ y' ∧ y' < y1) := fun x' y' hx' hy' hn z => hout (by omega)
          simp only [gO, decide_eq_false_iff_not, not_or, not_and, Decidable.not_not]
          refine ⟨cH_same q9 (fun x' y' hx' hy' e => far x' y' hx' hy' (by omega)), fun hs => ⟨cH_same q9 (fun x' y' hx' hy' e => far x' y' hx' hy' ?_), cH_same q9 (fun x' y' hx' hy' e => far x' y' hx' hy' ?_), cH_same q9 (fun x' y' hx' hy' e => far x' y' hx' hy' ?_), cH_same q9 (fun x' y' hx' hy' e => far x' y' hx' hy' ?_)⟩⟩
          all_goals (have := hrc hs; omega)
        · rw [gwL_h _ _ _ hx hy, gwL_h _ _ _ hx hy, if_neg hgr, if_neg hgr]
      have d1 : Df [264] τ s1 := by rw [e1]; exact Df.rf.wA (by simp)
      have w1 : s1.1 263 4 = nI wk := by rw [d1.1 263 (by simp), c1.1 263 (by simp [qS]; omega), wk4]
      rw [w1, nI_1] at e2
      have d2 : Df [263, 264] τ s2 := by rw [e2, e1]; exact (Df.rf.wA (by simp)).wI (by simp)
      have dd : Df (rS p) σ s2 := (c1.mo (fun b hb => by simp [qS] at hb; simp [rS]; omega)).tr d2 (fun b hb => by simp at hb; simp [rS]; omega)
      have s19 : s2.1 219 = τ.1 219 := d2.1 219 (by simp)
      have hz2 : XZ s2 := by
        obtain ⟨zz1, zz2, zz3, zz4⟩ := b2
        refine ⟨?_, ?_, ?_, ?_⟩
        · rw [dd.1 265 (by simp [rS]; omega)]; exact zz1
        · rw [dd.1 266 (by simp [rS]; omega)]; exact zz2
        · rw [dd.1 267 (by simp [rS]; omega)]; exact zz3
        · rw [e2, sI_at, if_neg (by omega), d1.1 263 (by simp), c1.1 263 (by simp [qS]; omega)]; exact zz4
      have hNz : ∀ k, 48 ≤ k → k ≠ 104 → gwL P M (wetS P (nI (psd P)) (nI wk)) k = 0 := gwL_z hz
      have hN4 : gwL P M (wetS P (nI (psd P)) (nI wk)) 104 = wk + 1 := by rw [gwL_wk, h4]
      refine hK s2 l' r' t' b' dd (by rw [s19]; exact c2) (by rw [s19]; exact c3) ⟨hb0.df dd hz2 (fun b hb => by simp [rS] at hb; omega), XL_263 (P := P) hz2 hNz hN4 (fun i hi => ?_) ?_, hN4, gwL_ok hM (by rw [h4]; omega), hNz, c6, c7, c8, c9, by rw [s19]; exact c10, by rw [s19]; exact c11, by rw [s19]; exact c12, by rw [s19]; exact c13, fun x y hx hy hout => ?_⟩
      · rw [e2, sI_row, sA_off2 _ _ (by omega), e1, sA_row, pk_cpy_in (by omega) (by omega), Nat.zero_add, Nat.sub_zero]
        by_cases hb : inb i = true
        · obtain ⟨x, y, hx, hy, rfl⟩ := inb_of hb
          rw [c5 x y hx hy, cH_at _ hx hy]
          congr 1
          by_cases hh : x0 - rc ≤ x ∧ x < min (pw P) (x1 + rc) ∧ y0 - rc ≤ y ∧ y < min (pr P) (y1 + rc)
          · rw [if_pos (by omega)]
          · rw [if_neg (by omega), same x y hx hy hh]
        · simp only [Bool.not_eq_true] at hb
          rw [c4 i hi hb]
          simp only [cH, hb]
          rfl
      · rw [e2, sI_at, if_pos ⟨rfl, rfl⟩]
      · by_cases hh : x0 - rc ≤ x ∧ x < min (pw P) (x1 + rc) ∧ y0 - rc ≤ y ∧ y < min (pr P) (y1 + rc)
        · refine Decidable.byContradiction fun hne => hout (c14 x y hh.1 hh.2.1 hh.2.2.1 hh.2.2.2 (by omega) hne)
        · exact same x y hx hy hh
    · rw [r68 i i1]
      simp only [cH, i2]
      rfl
    · rw [r68 _ (by omega), cH_at _ hcx hcy, if_neg (by omega)]
  rw [bI_0]
  refine ⟨fun e => fin 0 (fun z => by rw [e] at z; exact absurd z (by decide)) (by omega), fun _ => fin 1 (fun _ => by omega) (by omega)⟩
theorem c_ripen_k {g : Nat} {F : LV} (hg0 : XGL σ p P) (hu : usS (plw P 0) 7 = sp) (hgg : g < 2976) (hw : w < 800000) (hga : gAge g ≤ w)
    (hK : ∀ τ, Df (rS p) σ τ → τ.1 219 4 = σ.1 219 4 → τ.1 219 8 = σ.1 219 8 → XBw τ P w → (∀ i, i < 80 → τ.1 264 i = nI (cH F i)) → K none τ) :
    ∀ m j τ M x0 x1 y0 y1, m + j = gAge g → Df (rS p) σ τ → τ.1 219 4 = σ.1 219 4 → τ.1 219 8 = σ.1 219 8 → GI τ P w (w - gAge g + j) M x0 x1 y0 y1 → gwN P (nI (psd P)) m M = F → wX0_ripen_120 Γ l (nI g) (nI w) (bI sp) (nI j) τ K := by
  have pk := hg0.1.2.2
  have hpi := hg0.1.2.1.1
  have hp := isP_or hpi
  have hag : gAge g < 31 := Nat.mod_lt _ (by omega)
  have rmw : nI w - nI w / 31 * 31 = nI (w % 31) := pk_rem (d := 31) (by omega) (by decide) (by decide)
  have age : ∀ {τ : SS} {K : Option Value → SS → Prop}, K (some (.int (nI (gAge g)))) τ → C2 Γ l mX0_ageOf [.int (nI g)] τ K := fun k => by
    refine tX0_ageOf ?_
    rw [show nI g - nI g / 31 * 31 = nI (g % 31) from pk_rem (d := 31) (by omega) (by decide) (by decide)]
    exact k
  -- an empty box: the bare lawn's heights are copied
  have empty : ∀ (m : Nat) (τ : SS) (M : LV) (x0 x1 y0 y1 j : Nat), m + j = gAge g → Df (rS p) σ τ → τ.1 219 4 = σ.1 219 4 → τ.1 219 8 = σ.1 219 8 → GI τ P w (w - gAge g + j) M x0 x1 y0 y1 → gwN P (nI (psd P)) m M = F → x1 ≤ x0 → (vp_in (nI (w % 31)) 31 ∧ ∃ b3 : Nat, τ.2.2 228 (nI (w % 31)).toNatClampNeg = b3 ∧ shA b3 = some (.int, 80) ∧ ∀ s4 : SS, s4 = sA τ (263 + 1) (va_cpy (τ.1 b3) (τ.1 (263 + 1)) 0 0 80) → K none s4) := by
    intro m τ M x0 x1 y0 y1 j g1 d d4 d8 hI hF hx
    obtain ⟨hb, hl, h4, hM, hz, q1, q2, q3, q4, q5, q6, q7, q8, q9⟩ := hI
    have eM : M = barL P (w - gAge g + j) := by
      funext k
      by_cases hk : k < 48
      · have := q9 (k % 8) (k / 8) (by omega) (by omega) (by omega)
        rw [show 8 * (k / 8) + k % 8 = k by omega] at this
        exact this
      · by_cases hk4 : k = 104
        · subst hk4
          rw [h4, (barL_ok pk (w := w - gAge g + j) (by omega)).2]
        · rw [hz k (by omega) hk4, barL_z k (by omega) hk4]
    have eF : F = barL P w := by
      rw [← hF, eM, gwN_bar pk _ _ (by omega)]
      congr 1
      omega
    obtain ⟨b1, b2, b3, b4, b5⟩ := hb
    have hb0 : XBw τ P w := ⟨b1, b2, b3, b4, b5⟩
    refine ⟨vp_in_nI (by omega) (by omega), 229 + w % 31, ?_, AB229 _ (by omega), fun s4 e4 => ?_⟩
    · rw [nI_clamp (by omega)]
      exact b1 _ (by omega)
    · have dd4 : Df [264] τ s4 := by rw [e4]; exact Df.rf.wA (by simp)
      have ddd : Df (rS p) σ s4 := d.tr dd4 (fun b hb => by simp at hb; simp [rS]; omega)
      have s19 : s4.1 219 = τ.1 219 := dd4.1 219 (by simp)
      have hz4 : XZ s4 := b2.df dd4 (by simp) (by simp) (by simp) (by simp)
      have hlb := (barL_ok pk (w := w) (by omega)).2
      refine hK s4 ddd (by rw [s19]; exact d4) (by rw [s19]; exact d8) (hb0.df dd4 hz4 (fun b hb => by simp at hb; omega)) (fun i hi => ?_)
      rw [eF, e4, sA_row, pk_cpy_in (by omega) (by omega), Nat.zero_add, Nat.sub_zero]
      exact b5 w (by omega) (by omega) i hi
  intro m
  induction m with
  | zero =>
    intro j τ M x0 x1 y0 y1 g1 d d4 d8 hI hF
    have hI0 := hI
    obtain ⟨hb, hl, h4, hM, hz, q1, q2, q3, q4, q5, q6, q7, q8, q9⟩ := hI
    refine tX0_ripen_120 (age (ri ?_))
    rw [q5, q6, bx3 x0 (by omega) x1 (by omega), rmw]
    refine ⟨fun _ => ⟨fun q => ?_, fun q => empty 0 τ M x0 x1 y0 y1 j g1 d d4 d8 hI0 hF (by omega)⟩, fun q => absurd (by simp (disch := omega) only [nL, nI_add, pk_mul, pk_sub, nI_clamp, nI_leI, nI_ltI, nI_eq]; omega) q⟩
    have : M = F := hF
    rw [this] at hl
    exact hK τ d d4 d8 hb hl.2.1
  | succ m ih =>
    intro j τ M x0 x1 y0 y1 g1 d d4 d8 hI hF
    have hI0 := hI
    obtain ⟨hb, hl, h4, hM, hz, q1, q2, q3, q4, q5, q6, q7, q8, q9⟩ := hI
    refine tX0_ripen_120 (age (ri ?_))
    rw [q5, q6, bx3 x0 (by omega) x1 (by omega), rmw, bx2 x1 (by omega) x0 (by omega)]
    refine ⟨fun q => absurd q (by simp (disch := omega) only [nL, nI_add, pk_mul, pk_sub, nI_clamp, nI_leI, nI_ltI, nI_eq]; omega), fun _ => ⟨fun q => ⟨fun q' => absurd q' (by omega), fun _ => empty (m + 1) τ M x0 x1 y0 y1 j g1 d d4 d8 hI0 hF q⟩, fun q => ?_⟩⟩
    refine c_growGuess (hg0.df d (rS_off hpi)) hu hI0 (by omega) (by omega) (fun υ l' r' t' b' du du4 du8 hI2 => rv ?_)
    rw [nI_1]
    refine ih (j + 1) υ _ l' r' t' b' (by omega) (d.tr du (fun b hb => hb)) (by rw [du4]; exact d4) (by rw [du8]; exact d8) (by rw [show w - gAge g + (j + 1) = w - gAge g + j + 1 by omega]; exact hI2) ?_
    rw [← hF, gwN, h4]
theorem c_ripen {g : Nat} (hg0 : XGL σ p P) (hb : XBw σ P w) (hgg : g < 2976) (hw : w < 800000) (hok : gOk P w g = true)
    (hK : ∀ τ, Df (rS p) σ τ → τ.1 219 4 = σ.1 219 4 → τ.1 219 8 = σ.1 219 8 → XBw τ P w → (∀ i, i < 80 → τ.1 264 i = nI (cH (bldL P w (gS_ g) (gX g) (gY g) (gAge g)) i)) → K none τ) : C2 Γ l mX0_ripen [.ref 219, .int (nI g), .int (nI w)] σ K := by
  have pk := hg0.1.2.2
  have w8 := pk.1
  have r6 := pk.2.1
  have hpi := hg0.1.2.1.1
  have hp := isP_or hpi
  simp only [gOk, decide_eq_true_eq] at hok
  obtain ⟨k1, k2, k3, k4⟩ := hok
  have hag : gAge g < 31 := Nat.mod_lt _ (by omega)
  have E0 : nI g - nI g / 31 * 31 = nI (gAge g) := pk_rem (d := 31) (by omega) (by decide) (by decide)
  have E1 : nI g / 31 = nI (g / 31) := pk_div (d := 31) (by omega) (by decide) (by decide)
  have E2 : nI (g / 31) / 24 = nI (g / 31 / 24) := pk_div (d := 24) (by omega) (by decide) (by decide)
  have E3 : nI (g / 31) - nI (g / 31) / 24 * 24 = nI (g / 31 % 24) := pk_rem (d := 24) (by omega) (by decide) (by decide)
  have E4 : nI (g / 31 % 24) / 6 = nI (g / 31 % 24 / 6) := pk_div (d := 6) (by omega) (by decide) (by decide)
  have E5 : nI (g / 31 % 24) - nI (g / 31 % 24) / 6 * 6 = nI (g / 31 % 24 % 6) := pk_rem (d := 6) (by omega) (by decide) (by decide)
  have cage : ∀ {τ : SS} {K : Option Value → SS → Prop}, K (some (.int (nI (gAge g)))) τ → C2 Γ l mX0_ageOf [.int (nI g)] τ K := fun k => by
    refine tX0_ageOf ?_
    rw [E0]
    exact k
  have csg : ∀ {τ : SS} {K : Option Value → SS → Prop}, K (some (.int (nI (gS_ g)))) τ → C2 Γ l mX0_signOf [.int (nI g)] τ K := fun k => by
    refine tX0_signOf ?_
    rw [E1, E2]
    exact k
  have cx : ∀ {τ : SS} {K : Option Value → SS → Prop}, K (some (.int (nI (gX g)))) τ → C2 Γ l mX0_xOf [.int (nI g)] τ K := fun k => by
    refine tX0_xOf ?_
    rw [E1, E3, E5]
    exact k
  have cy : ∀ {τ : SS} {K : Option Value → SS → Prop}, K (some (.int (nI (gY g)))) τ → C2 Γ l mX0_yOf [.int (nI g)] τ K := fun k => by
    refine tX0_yOf ?_
    rw [E1, E3, E4]
    exact k
  obtain ⟨b1, b2, b3, b4, b5⟩ := hb
  have hb0 : XBw σ P w := ⟨b1, b2, b3, b4, b5⟩
  have hBn := barL_ok pk (w := w - gAge g) (by omega)
  have rmw : nI (w - gAge g) - nI (w - gAge g) / 31 * 31 = nI ((w - gAge g) % 31) := pk_rem (d := 31) (by omega) (by decide) (by decide)
  refine tX0_ripen ⟨p, hg0.1.1, hpi, c_uses (j := 7) hg0.2.1 (ri (cage (ri (fun s6 e6 => ?_))))⟩
  rw [pk_sub k1] at e6
  have v6 : s6.1 263 4 = nI (w - gAge g) := by rw [e6, sI_at, if_pos ⟨rfl, rfl⟩]
  have d6 : Df [263] σ s6 := by rw [e6]; exact Df.rf.wI (by simp)
  rw [v6, rmw, nI_clamp (by omega)]
  refine ⟨vp_in_nI (by omega) (by omega), 229 + (w - gAge g) % 31, by rw [d6.2]; exact b1 _ (by omega), AB229 _ (by omega), fun s8 e8 => csg (ri (cx (ri (cy (ri ?_)))))⟩
  have d8 : Df [263, 264] σ s8 := by rw [e8]; exact (d6.mo (by simp)).wA (by simp)
  have hz8 : XZ s8 := by
    obtain ⟨z1, z2, z3, z4⟩ := b2
    refine ⟨?_, ?_, ?_, ?_⟩
    · rw [d8.1 265 (by simp)]; exact z1
    · rw [d8.1 266 (by simp)]; exact z2
    · rw [d8.1 267 (by simp)]; exact z3
    · rw [e8, sA_off2 _ _ (by omega), e6, sI_at, if_neg (by omega)]; exact z4
  have hl8 : XL s8 263 (barL P (w - gAge g)) := by
    refine XL_263 (P := P) hz8 (fun k h1 h2 => barL_z k h1 h2) hBn.2 (fun i hi => ?_) ?_
    · rw [e8, sA_row, pk_cpy_in (by omega) (by omega), Nat.zero_add, Nat.sub_zero, d6.1 _ (by simp; omega)]
      exact b5 _ (by omega) (by omega) i hi
    · rw [e8, sA_off2 _ _ (by omega)]
      exact v6
  have hg8 := hg0.df d8 (fun b hb => by simp at hb; omega)
  refine c_cutOut hg8 hl8 k2 (by omega) (by omega) (fun s15 d15 hl15 => rv (cx (ri (fun s19 e19 s20 e20 => cy (ri (fun s23 e23 s24 e24 => ?_))))))
  have f19 : s19.1 219 13 = nI (gX g) := by rw [e19, sI_at, if_pos ⟨rfl, rfl⟩]
  have e20' : s20 = sI s19 219 14 (nI (gX g + 3) - 1) := by
    rw [e20, f19, show nI (gX g) + 2 = nI (gX g + 2) from nI_add _ 2, ← nI_pred]
  have f23 : s23.1 219 15 = nI (gY g) := by rw [e23, sI_at, if_pos ⟨rfl, rfl⟩]
  have e24' : s24 = sI s23 219 16 (nI (gY g + 3) - 1) := by
    rw [e24, f23, show nI (gY g) + 2 = nI (gY g + 2) from nI_add _ 2, ← nI_pred]
  have du : Df [219] s15 s24 := by rw [e24', e23, e20', e19]; exact (((Df.rf.wI (by simp)).wI (by simp)).wI (by simp)).wI (by simp)
  have dd15 : Df [263, 264] σ s15 := d8.tr d15 (fun b hb => by simp at hb; simp; omega)
  have dd : Df (rS p) σ s24 := (dd15.mo (fun b hb => by simp at hb; simp [rS]; omega)).tr du (fun b hb => by simp at hb; simp [rS]; omega)
  have k4' : ∀ j, j ≠ 13 → j ≠ 14 → j ≠ 15 → j ≠ 16 → s24.1 219 j = σ.1 219 j := fun j j1 j2 j3 j4 => by
    rw [e24', sI_at, if_neg (fun z => j4 z.2), e23, sI_at, if_neg (fun z => j3 z.2), e20', sI_at, if_neg (fun z => j2 z.2), e19, sI_at, if_neg (fun z => j1 z.2), dd15.1 219 (by simp)]
  have hz15 : XZ s15 := hz8.df d15 (by simp) (by simp) (by simp) (by simp)
  have hz24 : XZ s24 := hz15.df du (by simp) (by simp) (by simp) (by simp)
  obtain ⟨ok9, hi9⟩ := ct9_ok (s := gS_ g) hBn.1 (x := gX g) (y := gY g) (by omega) (by omega) 9 (by omega)
  refine c_ripen_k (F := bldL P w (gS_ g) (gX g) (gY g) (gAge g)) hg0 rfl hgg hw k1 hK (gAge g) 0 s24 _ (gX g) (gX g + 3) (gY g) (gY g + 3) (by omega) dd (k4' 4 (by omega) (by omega) (by omega) (by omega)) (k4' 8 (by omega) (by omega) (by omega) (by omega)) ⟨hb0.df dd hz24 (fun b hb => by simp [rS] at hb; omega), hl15.df du (by simp) (by simp) (by simp) (by simp) (by simp), ?_, ok9, fun k h1 h2 => ?_, by omega, by omega, by omega, by omega, ?_, ?_, ?_, ?_, fun x y hx hy hout => ?_⟩ rfl
  · rw [hi9 104 (by omega), hBn.2]
    rfl
  · rw [hi9 k h1]
    exact barL_z k h1 h2
  · rw [e24', sI_at, if_neg (by omega), e23, sI_at, if_neg (by omega), e20', sI_at, if_neg (by omega)]
    exact f19
  · rw [e24', sI_at, if_neg (by omega), e23, sI_at, if_neg (by omega), e20', sI_at, if_pos ⟨rfl, rfl⟩]
  · rw [e24', sI_at, if_neg (by omega)]
    exact f23
  · rw [e24', sI_at, if_pos ⟨rfl, rfl⟩]
  · rw [ct9_out (fun i hi e => hout (by unfold c9 at e; omega)) 9 (by omega)]
    rfl
end C4
