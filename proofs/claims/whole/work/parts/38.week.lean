/-! the gardener: a week -/
theorem hld99 (v : Int32) : ∃ n, n ≤ 99 ∧ hldS v 0 99 = nI n := by
  unfold hldS imx imn
  by_cases h1 : v < 99
  · rw [if_pos h1]
    by_cases h2 : (0 : Int32) < v
    · rw [if_pos h2]
      exact nI_of2 (M := 99) (n := 99) (by decide) (fun q => absurd (Int32.lt_trans h2 q) (by decide)) (Int32.le_of_lt h1)
    · rw [if_neg h2]
      exact ⟨0, by decide, rfl⟩
  · rw [if_neg h1]
    exact ⟨99, by decide, by decide⟩
theorem hld99_n (v : Int32) : nI (hldS v 0 99).toNatClampNeg = hldS v 0 99 ∧ (hldS v 0 99).toNatClampNeg ≤ 99 := by
  obtain ⟨n, h1, h2⟩ := hld99 v
  rw [h2, nI_clamp (by omega)]
  exact ⟨rfl, h1⟩
theorem imx0p {f : Nat} (h : f ≤ 99) : imx 0 (nI f - 1) = nI (f - 1) := by
  cases f with
  | zero => decide
  | succ n =>
    rw [nI_pred, show (0 : Int32) = nI 0 from rfl, imx_n (by omega) (by omega)]
    simp
/-- the lawn a week later, but for what the windows learn -/
def gwL (P : PV) (L : LV) (wet : Int32) : LV := fun k => if k < 48 then (if grass P (k % 8) (k / 8) then (hldS (nI (L k) + grS P L (k % 8) (k / 8) wet) 0 99).toNatClampNeg else 0) else if k < 96 then L k - 1 else if k = 104 then L 104 + 1 else L k
theorem gwL_h (P : PV) (L : LV) (wet : Int32) {x y : Nat} (hx : x < 8) (hy : y < 6) : gwL P L wet (8 * y + x) = if grass P x y then (hldS (nI (L (8 * y + x)) + grS P L x y wet) 0 99).toNatClampNeg else 0 := by
  unfold gwL
  rw [if_pos (by omega), show (8 * y + x) % 8 = x by omega, show (8 * y + x) / 8 = y by omega]
theorem gwL_f (P : PV) (L : LV) (wet : Int32) {k : Nat} (hk : k < 48) : gwL P L wet (48 + k) = L (48 + k) - 1 := by
  unfold gwL
  rw [if_neg (by omega), if_pos (by omega)]
theorem gwL_ok {P : PV} {L : LV} {wet : Int32} (ok : LVok P L) (h4 : L 104 + 1 < 1000000) : LVok P (gwL P L wet) := by
  refine ⟨fun k hk => ⟨?_, ?_⟩, fun x y hx hy hgr => ⟨?_, ?_⟩, fun w hw => ?_, ?_⟩
  · unfold gwL
    rw [if_pos hk]
    split
    · exact (hld99_n _).2
    · exact Nat.zero_le _
  · rw [gwL_f P L wet hk]
    have := (ok.1 k hk).2
    omega
  · rw [gwL_h P L wet hx hy, hgr]
    rfl
  · rw [gwL_f P L wet (by omega), (ok.2.1 x y hx hy hgr).2]
  · unfold gwL
    rw [if_neg (by omega), if_neg (by omega), if_neg (by omega)]
    exact ok.2.2.1 w hw
  · unfold gwL
    simp
    exact h4
/-- cells ahead of (x, y), by rows -/
def bef (P : PV) (y x y' x' : Nat) : Prop := x' < pw P ∧ y' < pr P ∧ (y' < y ∨ (y' = y ∧ x' < x))
section G4
variable {Γ : GE} {l : Launch} {σ : SS} {K : Option Value → SS → Prop} {p a : Nat} {P : PV} {L : LV} {wet : Int32}
def gS (p : Nat) : List Nat := [47, 48, p + 11]
theorem gSe (p : Nat) : gS p = [47, 48, p + 11] := rfl
theorem gS_off {p : Nat} (hp : isP p) : offP (gS p) := fun b hb => by
  have := isP_or hp
  simp [gS] at hb
  omega
/-- the first pass: the row 'grown' up to a cell -/
def I1 (σ : SS) (p : Nat) (P : PV) (L : LV) (wet : Int32) (y x : Nat) (τ : SS) : Prop := Df (gS p) σ τ ∧ ∀ y' x', bef P y x y' x' → τ.1 48 ((y' + 1) * 10 + x' + 1) = nI (gwL P L wet (8 * y' + x'))
theorem XL.gs {τ : SS} (hl : XL σ a L) (hp : isP p) (d : Df (gS p) σ τ) : XL τ a L := by
  have := isP_or hp
  have := isL_ge hl.1
  refine hl.df d ?_ ?_ ?_ ?_ ?_ <;> (simp [gSe]; omega)
theorem c_gw1_x {y : Nat} (hg : XGL σ p P) (hl : XL σ a L) (ok : LVok P L) (hy : y < pr P) (kk : ∀ τ, I1 σ p P L wet (y + 1) 0 τ → wX1_growWeek_13 Γ l a wet (nI (y + 1)) τ K) :
    ∀ n x τ, n + x = pw P → I1 σ p P L wet y x τ → wX1_growWeek_28 Γ l a wet (nI y) (nI x) τ K := by
  have w8 := hg.1.2.2.1
  have r6 := hg.1.2.2.2.1
  have hp := isP_or hg.1.2.1.1
  intro n
  induction n with
  | zero =>
    intro x τ h1 hI
    have hgt := hg.df hI.1 (gS_off hg.1.2.1.1)
    refine tX1_growWeek_28 hl.1 ⟨p, hgt.1.1, hgt.1.2.1.1, fun q => ?_, fun q => absurd ?_ q⟩
    · rw [nI_1]
      refine kk τ ⟨hI.1, fun y' x' hb => hI.2 y' x' ⟨hb.1, hb.2.1, ?_⟩⟩
      have := hb.1
      rcases hb.2.2 with z | z
      · omega
      · omega
    · rw [hgt.1.2.1.2.1]
      simp (disch := omega) only [nL, nI_add, pk_mul, pk_sub, nI_clamp, nI_leI, nI_ltI, nI_eq]
      omega
  | succ n ih =>
    intro x τ h1 hI
    have hgt := hg.df hI.1 (gS_off hg.1.2.1.1)
    have hlt := hl.gs hg.1.2.1.1 hI.1
    have v : vp_in (nI ((y + 1) * 10 + x + 1)) 80 := vp_in_nI (by omega) (by omega)
    have nxt : ∀ (τ2 : SS) (r : Int32), Df (gS p) σ τ2 → τ2.1 48 = τ.1 48 → r = nI (gwL P L wet (8 * y + x)) → I1 σ p P L wet y (x + 1) (sI τ2 48 ((y + 1) * 10 + x + 1) r) := by
      intro τ2 r d2 h48 hr
      refine ⟨d2.wI (by simp [gS]), fun y' x' hb => ?_⟩
      rw [sI_at]
      by_cases he : y' = y ∧ x' = x
      · rw [he.1, he.2, if_pos ⟨rfl, rfl⟩]
        exact hr
      · have hb1 := hb.1
        have hb2 := hb.2.1
        rw [if_neg (by rintro ⟨-, z⟩; exact he ⟨by omega, by omega⟩), h48]
        refine hI.2 y' x' ⟨hb.1, hb.2.1, ?_⟩
        rcases hb.2.2 with z | z
        · exact Or.inl z
        · refine Or.inr ⟨z.1, ?_⟩
          have : x' ≠ x := fun e => he ⟨z.1, e⟩
          omega
    refine tX1_growWeek_28 hl.1 ⟨p, hgt.1.1, hgt.1.2.1.1, fun q => absurd q ?_, fun _ => c_indexOf (ri ⟨p, hgt.1.1, hgt.1.2.1.1, v, ?_⟩)⟩
    · rw [hgt.1.2.1.2.1]
      simp (disch := omega) only [nL, nI_add, pk_mul, pk_sub, nI_clamp, nI_leI, nI_ltI, nI_eq]
      omega
    · rw [nI_clamp (by omega), hgt.1.2.1.2.2.2.2.2.2.2.2.2.2.1 _ (by omega), cSu_at P (by omega) hy hg.1.2.2, XL_hi hlt (by omega) (by omega), nI_1]
      refine ⟨fun q => ⟨v, fun s5 e5 => ?_⟩, fun q => ⟨v, c_growth hgt hlt ok (by omega) hy (fun τ2 d2 => ri (c_held (ri ⟨v, fun s10 e10 => ?_⟩)))⟩⟩
      · rw [e5]
        refine ih (x + 1) _ (by omega) (nxt τ 0 hI.1 rfl ?_)
        rw [gwL_h P L wet (by omega) (by omega), show grass P x y = false by simp [grass, q]]
        rfl
      · rw [e10]
        refine ih (x + 1) _ (by omega) (nxt τ2 _ (hI.1.tr d2 (by simp [gS])) (d2.1 48 (by simp; omega)) ?_)
        rw [gwL_h P L wet (by omega) (by omega), show grass P x y = true by simp [grass, q, hy]; omega, if_pos rfl, (hld99_n _).1]
theorem c_gw1_y (hg : XGL σ p P) (hl : XL σ a L) (ok : LVok P L) (kk : ∀ τ, I1 σ p P L wet (pr P) 0 τ → wX1_growWeek_112 Γ l a 0 τ K) :
    ∀ n y τ, n + y = pr P → I1 σ p P L wet y 0 τ → wX1_growWeek_13 Γ l a wet (nI y) τ K := by
  have w8 := hg.1.2.2.1
  have r6 := hg.1.2.2.2.1
  intro n
  induction n with
  | zero =>
    intro y τ h1 hI
    have hgt := hg.df hI.1 (gS_off hg.1.2.1.1)
    have : y = pr P := by omega
    subst this
    refine tX1_growWeek_13 hl.1 ⟨p, hgt.1.1, hgt.1.2.1.1, fun q => kk τ hI, fun q => absurd ?_ q⟩
    rw [hgt.1.2.1.2.2.1]
    simp (disch := omega) only [nL, nI_add, pk_mul, pk_sub, nI_clamp, nI_leI, nI_ltI, nI_eq]
    omega
  | succ n ih =>
    intro y τ h1 hI
    have hgt := hg.df hI.1 (gS_off hg.1.2.1.1)
    refine tX1_growWeek_13 hl.1 ⟨p, hgt.1.1, hgt.1.2.1.1, fun q => absurd q ?_, fun _ => ?_⟩
    · rw [hgt.1.2.1.2.2.1]
      simp (disch := omega) only [nL, nI_add, pk_mul, pk_sub, nI_clamp, nI_leI, nI_ltI, nI_eq]
      omega
    · exact c_gw1_x hg hl ok (by omega) (fun τ h => ih (y + 1) τ (by omega) h) (pw P) 0 τ (by omega) hI
def dn (P : PV) (y x i : Nat) : Bool := inb i && decide (i % 10 - 1 < pw P ∧ i / 10 - 1 < pr P ∧ (i / 10 - 1 < y ∨ (i / 10 - 1 = y ∧ i % 10 - 1 < x)))
def hS (p a : Nat) : List Nat := [47, 48, p + 11, a + 1, a + 2]
theorem hSe (p a : Nat) : hS p a = [47, 48, p + 11, a + 1, a + 2] := rfl
theorem hS_off {p a : Nat} (hp : isP p) (ha : isL a) : offP (hS p a) := fun b hb => by
  have := isP_or hp
  have := isL_ge ha
  simp [hS] at hb
  omega
/-- the second pass: heights and food up to a cell -/
def I2 (σ : SS) (p a : Nat) (P : PV) (L : LV) (wet : Int32) (y x : Nat) (τ : SS) : Prop := Df (hS p a) σ τ ∧ (∀ y' x', x' < pw P → y' < pr P → τ.1 48 ((y' + 1) * 10 + x' + 1) = nI (gwL P L wet (8 * y' + x'))) ∧ (∀ i, i < 80 → τ.1 (a + 1) i = nI (if dn P y x i then gwL P L wet (kOf i) else cH L i)) ∧ (∀ i, i < 80 → τ.1 (a + 2) i = nI (if dn P y x i then L (48 + kOf i) - 1 else cF L i))
theorem dn_row {y : Nat} (x : Nat) (hx : pw P ≤ x) (i : Nat) : dn P y x i = dn P (y + 1) 0 i := by
  unfold dn
  congr 1
  apply decide_eq_decide.mpr
  omega
theorem dn_step {y x : Nat} (hx : x < pw P) (hy : y < pr P) (w8 : pw P ≤ 8) (r6 : pr P ≤ 6) (i : Nat) (hi : i < 80) : dn P y (x + 1) i = if i = (y + 1) * 10 + x + 1 then true else dn P y x i := by
  by_cases he : i = (y + 1) * 10 + x + 1
  · rw [if_pos he, he]
    simp only [dn, inb, Bool.and_eq_true, decide_eq_true_eq]
    omega
  · rw [if_neg he]
    unfold dn
    by_cases hb : inb i = true
    · rw [hb]
      simp only [inb, decide_eq_true_eq] at hb
      simp only [Bool.true_and]
      apply decide_eq_decide.mpr
      omega
    · simp only [Bool.not_eq_true] at hb
      rw [hb]
      rfl
theorem dn_at {y x : Nat} (w8 : pw P ≤ 8) (r6 : pr P ≤ 6) (hx : x < pw P) (hy : y < pr P) : dn P y x ((y + 1) * 10 + x + 1) = false := by
  simp only [dn, Bool.and_eq_false_iff, decide_eq_false_iff_not]
  omega
theorem c_gw2_x {y : Nat} (hg : XGL σ p P) (hl : XL σ a L) (ok : LVok P L) (hy : y < pr P) (kk : ∀ τ, I2 σ p a P L wet (y + 1) 0 τ → wX1_growWeek_112 Γ l a (nI (y + 1)) τ K) :
    ∀ n x τ, n + x = pw P → I2 σ p a P L wet y x τ → wX1_growWeek_127 Γ l a (nI y) (nI x) τ K := by
  have w8 := hg.1.2.2.1
  have r6 := hg.1.2.2.2.1
  have hp := isP_or hg.1.2.1.1
  have ha := isL_ge hl.1
  intro n
  induction n with
  | zero =>
    intro x τ h1 hI
    have hgt := hg.df hI.1 (hS_off hg.1.2.1.1 hl.1)
    refine tX1_growWeek_127 hl.1 ⟨p, hgt.1.1, hgt.1.2.1.1, fun q => ?_, fun q => absurd ?_ q⟩
    · rw [nI_1]
      refine kk τ ⟨hI.1, hI.2.1, fun i hi => ?_, fun i hi => ?_⟩
      · rw [← dn_row x (by omega)]
        exact hI.2.2.1 i hi
      · rw [← dn_row x (by omega)]
        exact hI.2.2.2 i hi
    · rw [hgt.1.2.1.2.1]
      simp (disch := omega) only [nL, nI_add, pk_mul, pk_sub, nI_clamp, nI_leI, nI_ltI, nI_eq]
      omega
  | succ n ih =>
    intro x τ h1 hI
    have hgt := hg.df hI.1 (hS_off hg.1.2.1.1 hl.1)
    have v : vp_in (nI ((y + 1) * 10 + x + 1)) 80 := vp_in_nI (by omega) (by omega)
    have hfo := hI.2.2.2 ((y + 1) * 10 + x + 1) (by omega)
    rw [dn_at w8 r6 (by omega) hy, cF_at L (by omega) (by omega)] at hfo
    refine tX1_growWeek_127 hl.1 ⟨p, hgt.1.1, hgt.1.2.1.1, fun q => absurd q ?_, fun _ => c_indexOf (ri ⟨v, v, fun s4 e4 => ⟨v, v, fun s5 e5 => ?_⟩⟩)⟩
    · rw [hgt.1.2.1.2.1]
      simp (disch := omega) only [nL, nI_add, pk_mul, pk_sub, nI_clamp, nI_leI, nI_ltI, nI_eq]
      omega
    · rw [nI_clamp (by omega), hI.2.1 y x (by omega) hy] at e4
      have h2 : s4.1 (a + 2) = τ.1 (a + 2) := by rw [e4, sI_row, sA_off2 _ _ (by omega)]
      have hfo : τ.1 (a + 2) ((y + 1) * 10 + x + 1) = nI (L (48 + (8 * y + x))) := hfo
      rw [nI_clamp (by omega), h2, hfo, imx0p (ok.1 _ (by omega)).2] at e5
      rw [nI_1]
      refine ih (x + 1) s5 (by omega) ⟨?_, fun y' x' hx' hy' => ?_, fun i hi => ?_, fun i hi => ?_⟩
      · rw [e5, e4]
        exact (hI.1.wI (by simp [hS])).wI (by simp [hS])
      · rw [e5, sI_row, sA_off2 _ _ (by omega), e4, sI_row, sA_off2 _ _ (by omega)]
        exact hI.2.1 y' x' hx' hy'
      · rw [e5, sI_row, sA_off2 _ _ (by omega), e4, sI_at, dn_step (by omega) hy w8 r6 i hi]
        by_cases he : i = (y + 1) * 10 + x + 1
        · rw [if_pos ⟨rfl, he⟩, if_pos he, if_pos rfl, he, show kOf ((y + 1) * 10 + x + 1) = 8 * y + x by unfold kOf; omega]
        · rw [if_neg (fun z => he z.2), if_neg he]
          exact hI.2.2.1 i hi
      · rw [e5, sI_at, h2, dn_step (by omega) hy w8 r6 i hi]
        by_cases he : i = (y + 1) * 10 + x + 1
        · rw [if_pos ⟨rfl, he⟩, if_pos he, if_pos rfl, he, show kOf ((y + 1) * 10 + x + 1) = 8 * y + x by unfold kOf; omega]
        · rw [if_neg (fun z => he z.2), if_neg he]
          exact hI.2.2.2 i hi
theorem c_gw2_y (hg : XGL σ p P) (hl : XL σ a L) (ok : LVok P L) (kk : ∀ τ, I2 σ p a P L wet (pr P) 0 τ → K none (sI τ a 4 (nI (L 104 + 1)))) :
    ∀ n y τ, n + y = pr P → I2 σ p a P L wet y 0 τ → wX1_growWeek_112 Γ l a (nI y) τ K := by
  have w8 := hg.1.2.2.1
  have r6 := hg.1.2.2.2.1
  have hp := isP_or hg.1.2.1.1
  have ha := isL_ge hl.1
  intro n
  induction n with
  | zero =>
    intro y τ h1 hI
    have hgt := hg.df hI.1 (hS_off hg.1.2.1.1 hl.1)
    have : y = pr P := by omega
    subst this
    refine tX1_growWeek_112 hl.1 ⟨p, hgt.1.1, hgt.1.2.1.1, fun q s2 e2 => ?_, fun q => absurd ?_ q⟩
    · rw [hI.1.1 a (by simp [hS]; omega), hl.2.2.2.2.2.1, nI_1] at e2
      rw [e2]
      exact kk τ hI
    · rw [hgt.1.2.1.2.2.1]
      simp (disch := omega) only [nL, nI_add, pk_mul, pk_sub, nI_clamp, nI_leI, nI_ltI, nI_eq]
      omega
  | succ n ih =>
    intro y τ h1 hI
    have hgt := hg.df hI.1 (hS_off hg.1.2.1.1 hl.1)
    refine tX1_growWeek_112 hl.1 ⟨p, hgt.1.1, hgt.1.2.1.1, fun q => absurd q ?_, fun _ => ?_⟩
    · rw [hgt.1.2.1.2.2.1]
      simp (disch := omega) only [nL, nI_add, pk_mul, pk_sub, nI_clamp, nI_leI, nI_ltI, nI_eq]
      omega
    · exact c_gw2_x hg hl ok (by omega) (fun τ h => ih (y + 1) τ (by omega) h) (pw P) 0 τ (by omega) hI
/-- what a week without windows changes: the lawn's own five rows, and scratch -/
def wkS (p a : Nat) : List Nat := [47, 48, p + 11, a + 1, a + 2, a]
theorem c_growWeek {seed : Int32} (hg : XGL σ p P) (hl : XL σ a L) (ok : LVok P L) (hK : ∀ τ, Df (wkS p a) σ τ → XL τ a (gwL P L (wetS P seed (nI (L 104)))) → K none τ) : C2 Γ l mX1_growWeek [.ref 46, .ref a, .int seed] σ K := by
  have w8 := hg.1.2.2.1
  have r6 := hg.1.2.2.2.1
  have hp := isP_or hg.1.2.1.1
  have ha := isL_ge hl.1
  refine tX1_growWeek hl.1 ?_
  rw [hl.2.2.2.2.2.1]
  refine c_rainIn hg.1 (ri (c_gw1_y hg hl ok (fun τ1 h1 => ?_) (pr P) 0 σ (by omega) ⟨Df.rf, fun y' x' hb => absurd hb.2.2 (by omega)⟩))
  have hl1 := hl.gs hg.1.2.1.1 h1.1
  refine c_gw2_y (wet := wetS P seed (nI (L 104))) hg hl ok (fun τ hI => ?_) (pr P) 0 τ1 (by omega) ⟨h1.1.mo (by simp [gS, hS]), fun y' x' hx' hy' => h1.2 y' x' ⟨hx', hy', Or.inl hy'⟩, fun i hi => ?_, fun i hi => ?_⟩
  · refine hK _ ((hI.1.mo (by simp [hS, wkS])).wI (by simp [wkS])) ⟨hl.1, fun i hi => ?_, fun i hi => ?_, fun w hw => ?_, fun s hs => ?_, ?_, ?_⟩
    · rw [sI_row, sA_off2 _ _ (by omega), hI.2.2.1 i hi]
      congr 1
      by_cases hb : inb i = true
      · simp only [cH, hb, if_true]
        by_cases hd : dn P (pr P) 0 i = true
        · rw [if_pos hd]
        · rw [if_neg hd]
          simp only [dn, hb, Bool.true_and, decide_eq_true_eq] at hd
          simp only [inb, decide_eq_true_eq] at hb
          have e : kOf i = 8 * (i / 10 - 1) + (i % 10 - 1) := rfl
          have hgr : grass P (i % 10 - 1) (i / 10 - 1) = false := by simp only [grass, decide_eq_false_iff_not]; omega
          rw [e, gwL_h P L _ (by omega) (by omega), hgr, (ok.2.1 _ _ (by omega) (by omega) hgr).1]
          rfl
      · simp [cH, dn, hb]
    · rw [sI_row, sA_off2 _ _ (by omega), hI.2.2.2 i hi]
      congr 1
      by_cases hb : inb i = true
      · simp only [cF, hb, if_true]
        rw [gwL_f P L _ (by simp only [inb, decide_eq_true_eq] at hb; unfold kOf; omega)]
        by_cases hd : dn P (pr P) 0 i = true
        · rw [if_pos hd]
        · rw [if_neg hd]
          simp only [dn, hb, Bool.true_and, decide_eq_true_eq] at hd
          simp only [inb, decide_eq_true_eq] at hb
          have e : kOf i = 8 * (i / 10 - 1) + (i % 10 - 1) := rfl
          have hgr : grass P (i % 10 - 1) (i / 10 - 1) = false := by simp only [grass, decide_eq_false_iff_not]; omega
          rw [e, (ok.2.1 _ _ (by omega) (by omega) hgr).2]
      · simp [cF, dn, hb]
    · rw [sI_row, sA_off2 _ _ (by omega), hI.1.1 _ (by simp [hS]; omega), hl.2.2.2.1 w hw]
      congr 1
      unfold gwL
      rw [if_neg (by omega), if_neg (by omega), if_neg (by omega)]
    · rw [sI_row, sA_off2 _ _ (by omega), hI.1.1 _ (by simp [hS]; omega), hl.2.2.2.2.1 s hs]
      congr 1
      unfold gwL
      rw [if_neg (by omega), if_neg (by omega), if_neg (by omega)]
    · rw [sI_at, if_pos ⟨rfl, rfl⟩]
      rfl
    · rw [sI_at, if_neg (by omega), hI.1.1 _ (by simp [hS]; omega), hl.2.2.2.2.2.2]
      rfl
  · rw [hl1.2.1 i hi, if_neg (by simp [dn])]
  · rw [hl1.2.2.1 i hi, if_neg (by simp [dn])]
end G4
