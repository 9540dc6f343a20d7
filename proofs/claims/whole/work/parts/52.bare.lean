/-! the class: a lawn's begin, the bare lawn -/
theorem gwN_out (P : PV) (seed : Int32) : ∀ (n : Nat) (L : LV), gwN P seed (n + 1) L = gwL P (gwN P seed n L) (wetS P seed (nI (gwN P seed n L 104)))
  | 0, L => rfl
  | n + 1, L => by
    rw [show gwN P seed (n + 1 + 1) L = gwN P seed (n + 1) (gwL P L (wetS P seed (nI (L 104)))) from rfl, gwN_out P seed n]
    rfl
theorem begL_ok {P : PV} (pk : PVok P) : LVok P (begL P) ∧ begL P 104 = 0 := by
  have hh := pk.2.2.2.2.2.1
  refine ⟨⟨fun k hk => ⟨?_, ?_⟩, fun x y hx hy hg => ⟨?_, ?_⟩, fun w hw => ?_, ?_⟩, ?_⟩
  · unfold begL
    split <;> omega
  · unfold begL
    rw [if_neg (by omega)]
    omega
  · unfold begL
    rw [show (8 * y + x) % 8 = x by omega, show (8 * y + x) / 8 = y by omega, hg]
    simp
  · unfold begL
    rw [if_neg (by omega)]
  · unfold begL
    rw [if_neg (by omega)]
    omega
  · unfold begL
    rw [if_neg (by omega)]
    omega
  · unfold begL
    rw [if_neg (by omega)]
theorem barL_ok {P : PV} (pk : PVok P) {w : Nat} (hw : w < 900000) : LVok P (barL P w) ∧ barL P w 104 = w := by
  obtain ⟨k, e⟩ := begL_ok pk
  refine ⟨gwN_ok w _ k (by omega), ?_⟩
  unfold barL
  rw [gwN_wk, e]
  omega
theorem gwL_z {P : PV} {L : LV} {wet : Int32} (h : ∀ k, 48 ≤ k → k ≠ 104 → L k = 0) : ∀ k, 48 ≤ k → k ≠ 104 → gwL P L wet k = 0 := fun k h1 h2 => by
  unfold gwL
  rw [if_neg (by omega)]
  split
  · rw [h k h1 h2]
  · exact h k h1 h2
theorem gwN_z {P : PV} {seed : Int32} : ∀ (n : Nat) (L : LV), (∀ k, 48 ≤ k → k ≠ 104 → L k = 0) → ∀ k, 48 ≤ k → k ≠ 104 → gwN P seed n L k = 0
  | 0, _, h => h
  | n + 1, _, h => gwN_z n _ (gwL_z h)
theorem barL_z {P : PV} {w : Nat} : ∀ k, 48 ≤ k → k ≠ 104 → barL P w k = 0 := gwN_z w _ (fun k h1 h2 => by
  unfold begL
  rw [if_neg (by omega)])
theorem barL_s {P : PV} (pk : PVok P) {w : Nat} (hw : w < 900000) : barL P (w + 1) = gwL P (barL P w) (wetS P (nI (psd P)) (nI w)) := by
  have := gwN_out P (nI (psd P)) w (begL P)
  unfold barL
  rw [this]
  have e := (barL_ok pk hw).2
  unfold barL at e
  rw [e]
section C1
variable {Γ : GE} {l : Launch} {σ : SS} {K : Option Value → SS → Prop} {P : PV} {L : LV} {p a : Nat}
theorem cH_beg {P : PV} (pk : PVok P) {i : Nat} (hi : i < 80) : cH (begL P) i = if cSu P i < 0 then 0 else phe P := by
  have e := cSu_gr pk hi
  by_cases hb : inb i = true
  · rw [if_pos hb] at e
    simp only [cH, hb, if_true, begL]
    have : kOf i < 48 := by simp only [inb, decide_eq_true_eq] at hb; unfold kOf; omega
    by_cases hg : grass P (kOf i % 8) (kOf i / 8) = true
    · rw [if_pos ⟨this, hg⟩, if_neg (by rw [e]; exact not_not_intro hg)]
    · rw [if_neg (fun z => hg z.2), if_pos (by rw [e]; exact hg)]
  · rw [if_neg hb] at e
    unfold cH
    rw [if_neg hb]
    rw [if_pos (show cSu P i < 0 by rw [e]; simp)]
theorem c_begin (hg : XP σ p P) (pk : PVok P) (ha : isL a) (hK : ∀ τ, Df (lwS a) σ τ → XL τ a (begL P) → K none τ) : C2 Γ l mX4_begin [.ref a, .ref p] σ K := by
  have hge := isL_ge ha
  have hpp := isP_or hg.1
  have k3 : ∀ m i τ, m + i = 4 → Df (lwS a) σ τ → (∀ j, j < 80 → τ.1 (a + 1) j = nI (cH (begL P) j) ∧ τ.1 (a + 2) j = 0) → (∀ j, j < 4 → τ.1 (a + 3) j = 0) → (∀ j, j < i → τ.1 (a + 4) j = 0) → wX4_begin_66 Γ l a (nI i) τ K := by
    intro m
    induction m with
    | zero =>
      intro i τ g1 d f1 f2 f3
      have : i = 4 := by omega
      subst this
      refine tX4_begin_66 ha ⟨fun _ s1 e1 s2 e2 => ?_, fun q => absurd (by decide) q⟩
      have dd : Df (lwS a) σ s2 := by rw [e2, e1]; exact (d.wI (by simp [lwS])).wI (by simp [lwS])
      have r : ∀ b, b ≠ a → s2.1 b = τ.1 b := fun b hb => by rw [e2, e1, sI_row, sA_off2 _ _ hb, sI_row, sA_off2 _ _ hb]
      refine hK s2 dd ⟨ha, fun i hi => ?_, fun i hi => ?_, fun w hw => ?_, fun s hs => ?_, ?_, ?_⟩
      · rw [r _ (by omega)]; exact (f1 i hi).1
      · rw [r _ (by omega), (f1 i hi).2]
        have : cF (begL P) i = 0 := by unfold cF begL; split; rw [if_neg (by omega)]; rfl
        rw [this]
        rfl
      · rw [r _ (by omega), f2 w hw]
        unfold begL
        rw [if_neg (by omega)]
        rfl
      · rw [r _ (by omega), f3 s hs]
        unfold begL
        rw [if_neg (by omega)]
        rfl
      · rw [e2, sI_at, if_neg (by omega), e1, sI_at, if_pos ⟨rfl, rfl⟩]
        rfl
      · rw [e2, sI_at, if_pos ⟨rfl, rfl⟩]
        rfl
    | succ m ih =>
      intro i τ g1 d f1 f2 f3
      refine tX4_begin_66 ha ⟨fun q => absurd q (by simp (disch := omega) only [nL, nI_add, pk_mul, pk_sub, nI_clamp, nI_leI, nI_ltI, nI_eq]; omega), fun _ => ⟨vp_in_nI (by omega) (by omega), fun s1 e1 => ?_⟩⟩
      rw [nI_clamp (by omega)] at e1
      rw [nI_1]
      refine ih (i + 1) s1 (by omega) (by rw [e1]; exact d.wI (by simp [lwS])) (fun j hj => ?_) (fun j hj => ?_) (fun j hj => ?_)
      · rw [e1, sI_row, sA_off2 _ _ (by omega), sA_off2 _ _ (by omega)]; exact f1 j hj
      · rw [e1, sI_row, sA_off2 _ _ (by omega)]; exact f2 j hj
      · rw [e1, sI_at]
        by_cases e : j = i
        · rw [if_pos ⟨rfl, e⟩]
        · rw [if_neg (fun z => e z.2)]
          exact f3 j (by omega)
  have k2 : ∀ m i τ, m + i = 4 → Df (lwS a) σ τ → (∀ j, j < 80 → τ.1 (a + 1) j = nI (cH (begL P) j) ∧ τ.1 (a + 2) j = 0) → (∀ j, j < i → τ.1 (a + 3) j = 0) → wX4_begin_46 Γ l a (nI i) τ K := by
    intro m
    induction m with
    | zero =>
      intro i τ g1 d f1 f2
      have : i = 4 := by omega
      subst this
      exact tX4_begin_46 ha ⟨fun _ => k3 4 0 τ rfl d f1 f2 (fun j hj => absurd hj (by omega)), fun q => absurd (by decide) q⟩
    | succ m ih =>
      intro i τ g1 d f1 f2
      refine tX4_begin_46 ha ⟨fun q => absurd q (by simp (disch := omega) only [nL, nI_add, pk_mul, pk_sub, nI_clamp, nI_leI, nI_ltI, nI_eq]; omega), fun _ => ⟨vp_in_nI (by omega) (by omega), fun s1 e1 => ?_⟩⟩
      rw [nI_clamp (by omega)] at e1
      rw [nI_1]
      refine ih (i + 1) s1 (by omega) (by rw [e1]; exact d.wI (by simp [lwS])) (fun j hj => ?_) (fun j hj => ?_)
      · rw [e1, sI_row, sA_off2 _ _ (by omega), sA_off2 _ _ (by omega)]; exact f1 j hj
      · rw [e1, sI_at]
        by_cases e : j = i
        · rw [if_pos ⟨rfl, e⟩]
        · rw [if_neg (fun z => e z.2)]
          exact f2 j (by omega)
  have k1 : ∀ m i τ, m + i = 80 → Df (lwS a) σ τ → (∀ j, j < i → τ.1 (a + 1) j = nI (cH (begL P) j) ∧ τ.1 (a + 2) j = 0) → wX4_begin_2 Γ l a p (nI i) τ K := by
    intro m
    induction m with
    | zero =>
      intro i τ g1 d f1
      have : i = 80 := by omega
      subst this
      exact tX4_begin_2 ha hg.1 ⟨fun _ => k2 4 0 τ rfl d f1 (fun j hj => absurd hj (by omega)), fun q => absurd (by decide) q⟩
    | succ m ih =>
      intro i τ g1 d f1
      have hgt : XP τ p P := hg.df d (by simp [lwS]; omega) (by simp [lwS]; omega) (by simp [lwS]; omega) (by simp [lwS]; omega) (by simp [lwS]; omega) (by simp [lwS]; omega) (by simp [lwS]; omega)
      have v8 : vp_in (nI i) 80 := vp_in_nI (by omega) (by omega)
      have ce := cH_beg pk (i := i) (by omega)
      have go : ∀ v s1 s2, v = nI (cH (begL P) i) → s1 = sI τ (a + 1) i v → s2 = sI s1 (a + 2) i 0 → wX4_begin_2 Γ l a p (nI (i + 1)) s2 K := fun v s1 s2 ev e1 e2 => by
        refine ih (i + 1) s2 (by omega) (by rw [e2, e1]; exact (d.wI (by simp [lwS])).wI (by simp [lwS])) (fun j hj => ?_)
        by_cases e : j = i
        · subst e
          refine ⟨?_, ?_⟩
          · rw [e2, sI_at, if_neg (by omega), e1, sI_at, if_pos ⟨rfl, rfl⟩, ev]
          · rw [e2, sI_at, if_pos ⟨rfl, rfl⟩]
        · refine ⟨?_, ?_⟩
          · rw [e2, sI_at, if_neg (by omega), e1, sI_at, if_neg (fun z => e z.2)]
            exact (f1 j (by omega)).1
          · rw [e2, sI_at, if_neg (fun z => e z.2), e1, sI_at, if_neg (by omega)]
            exact (f1 j (by omega)).2
      refine tX4_begin_2 ha hg.1 ⟨fun q => absurd q (by simp (disch := omega) only [nL, nI_add, pk_mul, pk_sub, nI_clamp, nI_leI, nI_ltI, nI_eq]; omega), fun _ => ⟨v8, ?_⟩⟩
      rw [nI_clamp (by omega), hgt.2.2.2.2.2.2.2.2.2.2.1 i (by omega), hgt.2.2.2.2.2.2.1, nI_1]
      refine ⟨fun q => ⟨v8, fun s1 e1 => ⟨v8, fun s2 e2 => go _ s1 s2 ?_ e1 e2⟩⟩, fun q => ⟨v8, fun s1 e1 => ⟨v8, fun s2 e2 => go _ s1 s2 ?_ e1 e2⟩⟩⟩
      · rw [ce, if_pos q]
        rfl
      · rw [ce, if_neg q]
  exact tX4_begin ha hg.1 (k1 80 0 σ rfl Df.rf (fun j hj => absurd hj (by omega)))
/-- the bare lawn in week bw -/
def XBw (σ : SS) (P : PV) (bw : Nat) : Prop := (∀ i, i < 31 → σ.2.2 228 i = 229 + i) ∧ XZ σ ∧ bw < 900000 ∧ XL σ 223 (barL P bw) ∧ ∀ w, w ≤ bw → bw < w + 31 → ∀ i, i < 80 → σ.1 (229 + w % 31) i = nI (cH (barL P w) i)
/-- rows that the clues change -/
def brS (p : Nat) : List Nat := [47, 48, p + 11, 223, 224, 225, 226, 227] ++ List.range' 229 31
theorem mem_brS {p b : Nat} : b ∈ brS p ↔ b = 47 ∨ b = 48 ∨ b = p + 11 ∨ (223 ≤ b ∧ b ≤ 227) ∨ (229 ≤ b ∧ b ≤ 259) := by
  simp [brS, List.mem_range'_1]
  omega
theorem isL_223 : isL 223 := by unfold isL; decide
theorem isL_263 : isL 263 := by unfold isL; decide
theorem AB229 : ∀ i, i < 31 → shA (229 + i) = some (.int, 80) := by decide +kernel
theorem brS_off {p : Nat} (hp : isP p) : offP (brS p) := fun b hb => by
  have := isP_or hp
  rw [mem_brS] at hb
  omega
theorem c_beginBare {bw : Nat} (hg : XGL σ p P) (hb : (∀ i, i < 31 → σ.2.2 228 i = 229 + i) ∧ XZ σ) (hK : ∀ τ, Df (brS p) σ τ → XBw τ P 0 → K none τ) : C2 Γ l mX0_beginBare [.ref 219] σ K := by
  have pk := hg.1.2.2
  have hp := isP_or hg.1.2.1.1
  refine tX0_beginBare ⟨p, hg.1.1, hg.1.2.1.1, c_begin hg.1.2.1 pk isL_223 (fun υ d hl => rv ⟨by exact vp_in_nI (n := 0) (by omega) (by omega), 229, ?_, AB229 0 (by omega), fun s5 e5 => ?_⟩)⟩
  · rw [d.2]
    exact hb.1 0 (by omega)
  · have d1 : Df (brS p) σ υ := d.mo (fun b hb => by simp [lwS] at hb; rw [mem_brS]; omega)
    have d2 : Df [229] υ s5 := by rw [e5]; exact Df.rf.wA (by simp)
    have dd : Df (brS p) σ s5 := d1.tr d2 (fun b hb => by simp at hb; rw [mem_brS]; omega)
    refine hK s5 dd ⟨fun i hi => by rw [dd.2]; exact hb.1 i hi, hb.2.df dd (by rw [mem_brS]; omega) (by rw [mem_brS]; omega) (by rw [mem_brS]; omega) (by rw [mem_brS]; omega), by omega, hl.df d2 (by simp) (by simp) (by simp) (by simp) (by simp), fun w w1 w2 i hi => ?_⟩
    have : w = 0 := by omega
    subst this
    rw [show 229 + 0 % 31 = 229 from rfl, e5, sA_row, pk_cpy_in (by omega) (by omega)]
    have := hl.2.1 i hi
    simp only [Nat.zero_add, Nat.sub_zero]
    exact this
theorem c_growBare_k {W : Nat} (hW : W < 800000) (hg0 : XGL σ p P) :
    ∀ m bw τ, m + bw = W → Df (brS p) σ τ → XBw τ P bw → (∀ υ, Df (brS p) σ υ → XBw υ P W → K none υ) → wX0_growBare_23 Γ l (nI W) (nI bw) τ K := by
  have pk := hg0.1.2.2
  have hp := isP_or hg0.1.2.1.1
  intro m
  induction m with
  | zero =>
    intro bw τ g1 d hb hK
    have : bw = W := by omega
    subst this
    exact tX0_growBare_23 ⟨fun _ => hK τ d hb, fun q => absurd (Int32.le_refl _) q⟩
  | succ m ih =>
    intro bw τ g1 d hb hK
    have hg := hg0.df d (brS_off hg0.1.2.1.1)
    obtain ⟨b1, b2, b3, b4, b5⟩ := hb
    obtain ⟨k1, k2⟩ := barL_ok pk b3
    refine tX0_growBare_23 ⟨fun q => absurd q (by simp (disch := omega) only [nL, nI_add, pk_mul, pk_sub, nI_clamp, nI_leI, nI_ltI, nI_eq]; omega), fun _ => ⟨p, hg.1.1, hg.1.2.1.1, ?_⟩⟩
    rw [hg.1.2.1.2.2.2.2.2.2.2.2.2.1]
    refine c_growWeek hg b4 k1 (fun υ d2 hl2 => rv ?_)
    rw [k2, ← barL_s pk b3] at hl2
    have d2' : Df (brS p) τ υ := d2.mo (fun b hb => by simp [wkS] at hb; rw [mem_brS]; omega)
    have wk : υ.1 223 4 = nI (bw + 1) := by
      rw [hl2.2.2.2.2.2.1, (barL_ok pk (w := bw + 1) (by omega)).2]
    have rm : υ.1 223 4 - υ.1 223 4 / 31 * 31 = nI ((bw + 1) % 31) := by
      rw [wk]
      exact pk_rem (d := 31) (by omega) (by decide) (by decide)
    rw [rm, nI_clamp (by omega)]
    refine ⟨vp_in_nI (by omega) (by omega), 229 + (bw + 1) % 31, ?_, AB229 _ (by omega), fun s5 e5 => ?_⟩
    · rw [d2.2]
      exact b1 _ (by omega)
    · rw [nI_1]
      have d3 : Df [229 + (bw + 1) % 31] υ s5 := by rw [e5]; exact Df.rf.wA (by simp)
      have d23 : Df (brS p) τ s5 := d2'.tr d3 (fun b hb => by simp at hb; rw [mem_brS]; omega)
      refine ih (bw + 1) s5 (by omega) (d.tr d23 (fun b hb => hb)) ⟨fun i hi => by rw [d23.2]; exact b1 i hi, b2.df d23 (by rw [mem_brS]; omega) (by rw [mem_brS]; omega) (by rw [mem_brS]; omega) (by rw [mem_brS]; omega), by omega, hl2.df d3 (by simp; omega) (by simp; omega) (by simp; omega) (by simp; omega) (by simp; omega), fun w w1 w2 i hi => ?_⟩ hK
      by_cases e : w = bw + 1
      · subst e
        rw [e5, sA_row, pk_cpy_in (by omega) (by omega)]
        simpa using hl2.2.1 i hi
      · rw [d3.1 _ (by simp; omega), d2.1 _ (by simp [wkS]; omega)]
        exact b5 w (by omega) (by omega) i hi
theorem c_growBare {W bw : Nat} (hW : W < 800000) (hg : XGL σ p P) (hb : XBw σ P bw) (hK : ∀ υ, Df (brS p) σ υ → XBw υ P W → K none υ) : C2 Γ l mX0_growBare [.ref 219, .int (nI W)] σ K := by
  have pk := hg.1.2.2
  have b3 := hb.2.2.1
  have wk : σ.1 223 4 = nI bw := by rw [hb.2.2.2.1.2.2.2.2.2.1, (barL_ok pk b3).2]
  refine tX0_growBare ?_
  rw [wk, nI_leI (by omega) (by omega)]
  refine ⟨fun q => c_growBare_k hW hg (W - bw) bw σ (by omega) Df.rf hb hK, fun q => ?_⟩
  refine c_beginBare (bw := bw) hg ⟨hb.1, hb.2.1⟩ (fun τ d hb2 => rv ?_)
  have wk2 : τ.1 223 4 = nI 0 := by rw [hb2.2.2.2.1.2.2.2.2.2.1, (barL_ok pk (w := 0) (by omega)).2]
  rw [wk2]
  exact c_growBare_k hW hg W 0 τ (by omega) d hb2 hK
end C1
