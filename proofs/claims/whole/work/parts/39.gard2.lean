/-! the gardener: weeks, cutting, mowing; one lawn becomes another -/
/-- weeks of growth -/
def gwN (P : PV) (seed : Int32) : Nat → LV → LV
  | 0, L => L
  | n + 1, L => gwN P seed n (gwL P L (wetS P seed (nI (L 104))))
theorem gwL_wk (P : PV) (L : LV) (wet : Int32) : gwL P L wet 104 = L 104 + 1 := rfl
theorem gwN_wk (P : PV) (seed : Int32) : ∀ (n : Nat) (L : LV), gwN P seed n L 104 = L 104 + n
  | 0, L => rfl
  | n + 1, L => by
    unfold gwN
    rw [gwN_wk P seed n, gwL_wk]
    omega
theorem gwN_ok {P : PV} {seed : Int32} : ∀ (n : Nat) (L : LV), LVok P L → L 104 + n < 1000000 → LVok P (gwN P seed n L)
  | 0, L, ok, _ => ok
  | n + 1, L, ok, h => gwN_ok n _ (gwL_ok ok (by omega)) (by rw [gwL_wk]; omega)
def upL (L : LV) (c v : Nat) : LV := fun k => if k = c then v else L k
section G5
variable {Γ : GE} {l : Launch} {σ : SS} {K : Option Value → SS → Prop} {p a : Nat} {P : PV} {L : LV}
theorem c_growWeeks_k {seed : Int32} {N : Nat} (hg : XGL σ p P) (ha : isL a) (hN : N < 1000) :
    ∀ m k τ L', m + k = N → Df (wkS p a) σ τ → XL τ a L' → LVok P L' → L' 104 + m < 1000000 → (∀ υ, Df (wkS p a) σ υ → XL υ a (gwN P seed m L') → K none υ) → wX1_growWeeks_3 Γ l a (nI N) seed (nI k) τ K := by
  have hp := isP_or hg.1.2.1.1
  have hge := isL_ge ha
  have hoff : offP (wkS p a) := fun b hb => by simp [wkS] at hb; omega
  intro m
  induction m with
  | zero =>
    intro k τ L' h1 d hl ok hb hK
    have : k = N := by omega
    subst this
    exact tX1_growWeeks_3 ha ⟨fun _ => hK τ d hl, fun q => absurd (Int32.le_refl _) q⟩
  | succ m ih =>
    intro k τ L' h1 d hl ok hb hK
    refine tX1_growWeeks_3 ha ⟨fun q => absurd q ?_, fun _ => ?_⟩
    · simp (disch := omega) only [nL, nI_add, pk_mul, pk_sub, nI_clamp, nI_leI, nI_ltI, nI_eq]
      omega
    · rw [nI_1]
      refine c_growWeek (hg.df d hoff) hl ok (fun υ d2 hl2 => rv ?_)
      exact ih (k + 1) υ _ (by omega) (d.tr d2 (fun b h => h)) hl2 (gwL_ok ok (by omega)) (by rw [gwL_wk]; omega) hK
theorem c_growWeeks {seed : Int32} {N : Nat} (hg : XGL σ p P) (hl : XL σ a L) (ok : LVok P L) (hN : N < 1000) (hb : L 104 + N < 1000000) (hK : ∀ υ, Df (wkS p a) σ υ → XL υ a (gwN P seed N L) → K none υ) : C2 Γ l mX1_growWeeks [.ref 46, .ref a, .int (nI N), .int seed] σ K :=
  tX1_growWeeks hl.1 (c_growWeeks_k hg hl.1 hN N 0 σ L (by omega) Df.rf hl ok hb hK)
theorem XL_seth {x y v : Nat} (hl : XL σ a L) (hx : x < 8) (hy : y < 6) : XL (sI σ (a + 1) ((y + 1) * 10 + x + 1) (nI v)) a (upL L (8 * y + x) v) := by
  refine ⟨hl.1, fun i hi => ?_, fun i hi => ?_, fun w hw => ?_, fun s hs => ?_, ?_, ?_⟩
  · rw [sI_at]
    by_cases he : i = (y + 1) * 10 + x + 1
    · rw [if_pos ⟨rfl, he⟩, he, cH_at _ hx hy]
      simp [upL]
    · rw [if_neg (fun z => he z.2), hl.2.1 i hi]
      congr 1
      unfold cH
      by_cases hb : inb i = true
      · simp only [hb, if_true, upL]
        simp only [inb, decide_eq_true_eq] at hb
        rw [if_neg (by unfold kOf; omega)]
      · simp [hb]
  · rw [sI_row, sA_off2 _ _ (by omega), hl.2.2.1 i hi]
    congr 1
    unfold cF
    by_cases hb : inb i = true
    · simp only [hb, if_true, upL]
      rw [if_neg (by omega)]
    · simp [hb]
  · rw [sI_row, sA_off2 _ _ (by omega), hl.2.2.2.1 w hw]
    unfold upL
    rw [if_neg (by omega)]
  · rw [sI_row, sA_off2 _ _ (by omega), hl.2.2.2.2.1 s hs]
    unfold upL
    rw [if_neg (by omega)]
  · rw [sI_row, sA_off2 _ _ (by omega), hl.2.2.2.2.2.1]
    unfold upL
    rw [if_neg (by omega)]
  · rw [sI_row, sA_off2 _ _ (by omega), hl.2.2.2.2.2.2]
    unfold upL
    rw [if_neg (by omega)]
theorem XL_setf {x y v : Nat} (hl : XL σ a L) (hx : x < 8) (hy : y < 6) : XL (sI σ (a + 2) ((y + 1) * 10 + x + 1) (nI v)) a (upL L (48 + (8 * y + x)) v) := by
  refine ⟨hl.1, fun i hi => ?_, fun i hi => ?_, fun w hw => ?_, fun s hs => ?_, ?_, ?_⟩
  · rw [sI_row, sA_off2 _ _ (by omega), hl.2.1 i hi]
    congr 1
    unfold cH
    by_cases hb : inb i = true
    · simp only [hb, if_true, upL]
      simp only [inb, decide_eq_true_eq] at hb
      rw [if_neg (by unfold kOf; omega)]
    · simp [hb]
  · rw [sI_at]
    by_cases he : i = (y + 1) * 10 + x + 1
    · rw [if_pos ⟨rfl, he⟩, he, cF_at _ hx hy]
      simp [upL]
    · rw [if_neg (fun z => he z.2), hl.2.2.1 i hi]
      congr 1
      unfold cF
      by_cases hb : inb i = true
      · simp only [hb, if_true, upL]
        simp only [inb, decide_eq_true_eq] at hb
        rw [if_neg (by unfold kOf; omega)]
      · simp [hb]
  · rw [sI_row, sA_off2 _ _ (by omega), hl.2.2.2.1 w hw]
    unfold upL
    rw [if_neg (by omega)]
  · rw [sI_row, sA_off2 _ _ (by omega), hl.2.2.2.2.1 s hs]
    unfold upL
    rw [if_neg (by omega)]
  · rw [sI_row, sA_off2 _ _ (by omega), hl.2.2.2.2.2.1]
    unfold upL
    rw [if_neg (by omega)]
  · rw [sI_row, sA_off2 _ _ (by omega), hl.2.2.2.2.2.2]
    unfold upL
    rw [if_neg (by omega)]
/-- a sign is cut: the first j of its nine cells -/
def ct9 (P : PV) (s x y : Nat) (L : LV) : Nat → LV
  | 0 => L
  | j + 1 => if pcut P s j then upL (ct9 P s x y L j) (c9 x y j) 0 else ct9 P s x y L j
theorem ct9_ok {s x y : Nat} (ok : LVok P L) (hx : x + 2 < 8) (hy : y + 2 < 6) : ∀ j, j ≤ 9 → LVok P (ct9 P s x y L j) ∧ ∀ k, 48 ≤ k → ct9 P s x y L j k = L k
  | 0, _ => ⟨ok, fun _ _ => rfl⟩
  | j + 1, hj => by
    obtain ⟨g1, g2⟩ := ct9_ok (s := s) ok hx hy j (by omega)
    unfold ct9
    split
    · have hc : c9 x y j < 48 := by unfold c9; omega
      refine ⟨⟨fun k hk => ⟨?_, ?_⟩, fun x' y' hx' hy' hgr => ⟨?_, ?_⟩, fun w hw => ?_, ?_⟩, fun k hk => ?_⟩
      · unfold upL
        split
        · exact Nat.zero_le _
        · exact (g1.1 k hk).1
      · unfold upL
        rw [if_neg (by omega)]
        exact (g1.1 k hk).2
      · unfold upL
        split
        · rfl
        · exact (g1.2.1 x' y' hx' hy' hgr).1
      · unfold upL
        rw [if_neg (by omega)]
        exact (g1.2.1 x' y' hx' hy' hgr).2
      · unfold upL
        rw [if_neg (by omega)]
        exact g1.2.2.1 w hw
      · unfold upL
        rw [if_neg (by omega)]
        exact g1.2.2.2
      · unfold upL
        rw [if_neg (by omega)]
        exact g2 k hk
    · exact ⟨g1, g2⟩
theorem c_cutOut_k {s x y : Nat} (hg : XGL σ p P) (ha : isL a) (hs : s < pns P) (hx : x + 2 < 8) (hy : y + 2 < 6) (hK : ∀ υ, Df [a + 1] σ υ → XL υ a (ct9 P s x y L 9) → K none υ) :
    ∀ m k τ, m + k = 9 → Df [a + 1] σ τ → XL τ a (ct9 P s x y L k) → wX1_cutOut_3 Γ l a (nI s) (nI x) (nI y) (nI k) τ K := by
  have hge := isL_ge ha
  have hoff : offP [a + 1] := fun b hb => by simp at hb; omega
  intro m
  induction m with
  | zero =>
    intro k τ h1 d hl
    have : k = 9 := by omega
    subst this
    exact tX1_cutOut_3 ha ⟨fun _ => hK τ d hl, fun q => absurd (by decide) q⟩
  | succ m ih =>
    intro k τ h1 d hl
    have hgt := hg.df d hoff
    refine tX1_cutOut_3 ha ⟨fun q => absurd q ?_, fun _ => ⟨p, hgt.1.1, hgt.1.2.1.1, c_isCutAt hgt.1.2.1 hgt.1.2.2 hs (by omega) (ri ?_)⟩⟩
    · simp (disch := omega) only [nL, nI_add, pk_mul, pk_sub, nI_clamp, nI_leI, nI_ltI, nI_eq]
      omega
    · rw [bI_0, nI_1]
      refine ⟨fun q => ih (k + 1) τ (by omega) d ?_, fun q => ?_⟩
      · unfold ct9
        rw [q]
        exact hl
      · rw [rem3 (by omega), div3 (by omega), nI_add, nI_add]
        refine c_indexOf (ri ⟨vp_in_nI (by omega) (by omega), fun s6 e6 => ?_⟩)
        rw [nI_clamp (by omega)] at e6
        refine ih (k + 1) s6 (by omega) (by rw [e6]; exact d.wI (by simp)) ?_
        simp only [Bool.not_eq_false] at q
        unfold ct9
        rw [q, e6]
        exact XL_seth (v := 0) hl (by omega) (by omega)
theorem c_cutOut {s x y : Nat} (hg : XGL σ p P) (hl : XL σ a L) (hs : s < pns P) (hx : x + 2 < 8) (hy : y + 2 < 6) (hK : ∀ υ, Df [a + 1] σ υ → XL υ a (ct9 P s x y L 9) → K none υ) : C2 Γ l mX1_cutOut [.ref 46, .ref a, .int (nI s), .int (nI x), .int (nI y)] σ K :=
  tX1_cutOut hl.1 (c_cutOut_k hg hl.1 hs hx hy hK 9 0 σ (by omega) Df.rf hl)
/-- one lawn becomes another -/
def lwS (a : Nat) : List Nat := [a, a + 1, a + 2, a + 3, a + 4]
theorem c_become {b : Nat} (ha : isL a) (hl : XL σ b L) (hab : a ≠ b) (hK : ∀ υ, Df (lwS a) σ υ → XL υ a L → K none υ) : C2 Γ l mX4_become [.ref a, .ref b] σ K := by
  have hap := isL_ap ha hl.1 hab
  refine tX4_become ha hl.1 (fun s1 e1 s2 e2 s3 e3 s4 e4 s5 e5 s6 e6 => ?_)
  have d1 : Df (lwS a) σ s1 := by rw [e1]; exact Df.rf.wA (by simp [lwS])
  have d2 : Df (lwS a) σ s2 := by rw [e2]; exact d1.wA (by simp [lwS])
  have d3 : Df (lwS a) σ s3 := by rw [e3]; exact d2.wA (by simp [lwS])
  have d4 : Df (lwS a) σ s4 := by rw [e4]; exact d3.wA (by simp [lwS])
  have d5 : Df (lwS a) σ s5 := by rw [e5]; exact d4.wI (by simp [lwS])
  have d6 : Df (lwS a) σ s6 := by rw [e6]; exact d5.wI (by simp [lwS])
  have nb : ∀ k, k < 5 → b + k ∉ lwS a := fun k hk => by simp [lwS]; omega
  refine hK s6 d6 ⟨ha, fun i hi => ?_, fun i hi => ?_, fun w hw => ?_, fun s hs => ?_, ?_, ?_⟩
  · rw [e6, sI_row, sA_off2 _ _ (by omega), e5, sI_row, sA_off2 _ _ (by omega), e4, sA_off2 _ _ (by omega), e3, sA_off2 _ _ (by omega), e2, sA_off2 _ _ (by omega), e1, sA_row, pk_cpy_in (by omega) (by omega)]
    simpa using hl.2.1 i hi
  · rw [e6, sI_row, sA_off2 _ _ (by omega), e5, sI_row, sA_off2 _ _ (by omega), e4, sA_off2 _ _ (by omega), e3, sA_off2 _ _ (by omega), e2, sA_row, pk_cpy_in (by omega) (by omega), d1.1 _ (nb 2 (by omega))]
    simpa using hl.2.2.1 i hi
  · rw [e6, sI_row, sA_off2 _ _ (by omega), e5, sI_row, sA_off2 _ _ (by omega), e4, sA_off2 _ _ (by omega), e3, sA_row, pk_cpy_in (by omega) (by omega), d2.1 _ (nb 3 (by omega))]
    simpa using hl.2.2.2.1 w hw
  · rw [e6, sI_row, sA_off2 _ _ (by omega), e5, sI_row, sA_off2 _ _ (by omega), e4, sA_row, pk_cpy_in (by omega) (by omega), d3.1 _ (nb 4 (by omega))]
    simpa using hl.2.2.2.2.1 s hs
  · rw [e6, sI_at, if_neg (by omega), e5, sI_at, if_pos ⟨rfl, rfl⟩, d4.1 b (nb 0 (by omega))]
    exact hl.2.2.2.2.2.1
  · rw [e6, sI_at, if_pos ⟨rfl, rfl⟩, d5.1 b (nb 0 (by omega))]
    exact hl.2.2.2.2.2.2
end G5
