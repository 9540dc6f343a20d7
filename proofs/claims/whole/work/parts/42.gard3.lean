/-! fines, and what is too tall; arguments -/
theorem nx {x : Int32} (h : ¬ x < 0) : x = nI x.toNatClampNeg ∧ x.toNatClampNeg < 2 ^ 31 := by
  obtain ⟨j, h1, h2⟩ := nI_of h
  rw [h2, nI_clamp h1]
  exact ⟨rfl, h1⟩
theorem lt_nx {x : Int32} {n : Nat} (h : ¬ x < 0) (hn : n < 2 ^ 31) : x < nI n ↔ x.toNatClampNeg < n := by
  obtain ⟨h1, h2⟩ := nx h
  rw [h1, nI_ltI h2 hn, nI_clamp h2]
theorem lt_nx2 {x : Int32} {w : Nat} (h : ¬ x < 0) (hw : w ≤ 8) : x < nI w - 2 ↔ x.toNatClampNeg + 2 < w := by
  by_cases h2 : 2 ≤ w
  · have e : nI w - 2 = nI (w - 2) := pk_sub h2
    rw [e, lt_nx h (by omega)]
    omega
  · have h3 : w = 0 ∨ w = 1 := by omega
    constructor
    · intro q
      exfalso
      rcases h3 with rfl | rfl
      · exact h (Int32.lt_trans q (by decide))
      · exact h (Int32.lt_trans q (by decide))
    · omega
def vC (P : PV) (x y : Int32) : Bool := decide (¬ x < 0 ∧ ¬ y < 0 ∧ x.toNatClampNeg < pw P ∧ y.toNatClampNeg < pr P)
def vSg (P : PV) (s : Int32) : Bool := decide (¬ s < 0 ∧ s.toNatClampNeg < pns P)
def vWi (P : PV) (w : Int32) : Bool := decide (¬ w < 0 ∧ w.toNatClampNeg < pnw P)
def vPl (P : PV) (x y : Int32) : Bool := decide (¬ x < 0 ∧ ¬ y < 0 ∧ x.toNatClampNeg + 2 < pw P ∧ y.toNatClampNeg + 2 < pr P)
theorem vC_eq {P : PV} (ok : PVok P) (x y : Int32) : decide (¬ x < 0 ∧ x < nI (pw P) ∧ ¬ y < 0 ∧ y < nI (pr P)) = vC P x y := by
  have w8 := ok.1
  have r6 := ok.2.1
  unfold vC
  apply decide_eq_decide.mpr
  constructor
  · rintro ⟨h1, h2, h3, h4⟩
    exact ⟨h1, h3, (lt_nx h1 (by omega)).mp h2, (lt_nx h3 (by omega)).mp h4⟩
  · rintro ⟨h1, h2, h3, h4⟩
    exact ⟨h1, (lt_nx h1 (by omega)).mpr h3, h2, (lt_nx h2 (by omega)).mpr h4⟩
theorem vS_eq {P : PV} (ok : PVok P) (s : Int32) : decide (¬ s < 0 ∧ s < nI (pns P)) = vSg P s := by
  have h4 := ok.2.2.1
  unfold vSg
  apply decide_eq_decide.mpr
  constructor
  · rintro ⟨h1, h2⟩
    exact ⟨h1, (lt_nx h1 (by omega)).mp h2⟩
  · rintro ⟨h1, h2⟩
    exact ⟨h1, (lt_nx h1 (by omega)).mpr h2⟩
theorem vW_eq {P : PV} (ok : PVok P) (s : Int32) : decide (¬ s < 0 ∧ s < nI (pnw P)) = vWi P s := by
  have h4 := ok.2.2.2.1
  unfold vWi
  apply decide_eq_decide.mpr
  constructor
  · rintro ⟨h1, h2⟩
    exact ⟨h1, (lt_nx h1 (by omega)).mp h2⟩
  · rintro ⟨h1, h2⟩
    exact ⟨h1, (lt_nx h1 (by omega)).mpr h2⟩
theorem vP_eq {P : PV} (ok : PVok P) (s x y : Int32) : decide ((¬ s < 0 ∧ s < nI (pns P)) ∧ ¬ x < 0 ∧ x < nI (pw P) - 2 ∧ ¬ y < 0 ∧ y < nI (pr P) - 2) = (vSg P s && vPl P x y) := by
  have w8 := ok.1
  have r6 := ok.2.1
  rw [← vS_eq ok]
  unfold vPl
  rw [← Bool.decide_and]
  apply decide_eq_decide.mpr
  constructor
  · rintro ⟨h0, h1, h2, h3, h4⟩
    exact ⟨h0, h1, h3, (lt_nx2 h1 w8).mp h2, (lt_nx2 h3 (by omega)).mp h4⟩
  · rintro ⟨h0, h1, h2, h3, h4⟩
    exact ⟨h0, h1, (lt_nx2 h1 w8).mpr h3, h2, (lt_nx2 h2 (by omega)).mpr h4⟩
/-- how many cells of a sign are cut -/
def szS (P : PV) (s : Nat) : Nat := cn (fun k => pcut P s k) 9
def bcnt (x0 : Int32) : Int32 :=
  let v1 := x0 - (((Int32.toUInt32 x0 >>> (Int32.toUInt32 1 &&& Int32.toUInt32 31)).toInt32) &&& 1431655765)
  let v2 := (v1 &&& 858993459) + (((Int32.toUInt32 v1 >>> (Int32.toUInt32 2 &&& Int32.toUInt32 31)).toInt32) &&& 858993459)
  let v3 := (v2 + ((Int32.toUInt32 v2 >>> (Int32.toUInt32 4 &&& Int32.toUInt32 31)).toInt32)) &&& 252645135
  let v4 := v3 + ((Int32.toUInt32 v3 >>> (Int32.toUInt32 8 &&& Int32.toUInt32 31)).toInt32)
  let v5 := v4 + ((Int32.toUInt32 v4 >>> (Int32.toUInt32 16 &&& Int32.toUInt32 31)).toInt32)
  v5 &&& 63
theorem bcnt_512 : ∀ n : Fin 512, bcnt (nI n.val) = nI (cn (fun k => decide (n.val / 2 ^ k % 2 = 1)) 9) := by decide +kernel
def fnV (L : LV) (x y : Nat) (sz : Nat) (k : Nat) : Int32 := match k with
  | 2 => nI (L 104)
  | 5 => nI x
  | 6 => nI y
  | 8 => nI sz
  | _ => 0
/-- the fine for a sign -/
def fnS (P : PV) (L : LV) (s x y : Nat) : Int32 := hldS (evL (fnV L x y (szS P s)) (plw P 2)) 0 99
section G8
variable {Γ : GE} {l : Launch} {σ : SS} {K : Option Value → SS → Prop} {p a : Nat} {P : PV} {L : LV}
theorem c_bitCount {s : Nat} (hs : psg P s < 512) (hK : K (some (.int (nI (szS P s)))) σ) : C2 Γ l mJ6_bitCount_0f7a4 [.int (nI (psg P s))] σ K := by
  refine tJ6_bitCount_0f7a4 (fun v1 e1 v2 e2 v3 e3 v4 e4 v5 e5 => ?_)
  have h := bcnt_512 ⟨psg P s, hs⟩
  have e : v5 &&& 63 = bcnt (nI (psg P s)) := by
    rw [e5, e4, e3, e2, e1]
    rfl
  rw [e, h]
  exact hK
theorem c_fineFor_k {s x y : Nat} (hg : XGL σ p P) (hl : XL σ a L) (hs : s < pns P) (hx : x < 8) (hy : y < 6) (hK : ∀ τ, Df [47, p + 17] σ τ → K (some (.int (fnS P L s x y))) τ) :
    ∀ n k f, n + k = 9 → (∀ j, j < k → f j = 0) → wX1_fineFor_3 Γ l a (nI s) (nI x) (nI y) (nI k) (sA σ 47 f) K := by
  have ha := isL_ge hl.1
  have hp := isP_or hg.1.2.1.1
  have h4 := hg.1.2.2.2.2.1
  intro n
  induction n with
  | zero =>
    intro k f h1 hf
    have : k = 9 := by omega
    subst this
    refine tX1_fineFor_3 hl.1 ⟨fun _ => ⟨vp9 2 (by decide), fun s1 e1 => ⟨vp9 5 (by decide), fun s2 e2 => ⟨vp9 6 (by decide), fun s3 e3 => ?_⟩⟩⟩, fun q => absurd (by decide) q⟩
    rw [show Int32.toNatClampNeg 2 = 2 from rfl, sA_off2 _ _ (by omega), hl.2.2.2.2.2.1, sI_sA] at e1
    rw [show Int32.toNatClampNeg 5 = 5 from rfl, e1, sI_sA] at e2
    rw [show Int32.toNatClampNeg 6 = 6 from rfl, e2, sI_sA] at e3
    have d3 : Df [47] σ s3 := by rw [e3]; exact Df.rf.wA (by simp)
    have o6 : offP [47] := fun b hb => by simp at hb; omega
    have hg3 := hg.df d3 o6
    refine ⟨p, hg3.1.1, hg3.1.2.1.1, vp_in_nI (by omega) (by omega), ?_⟩
    rw [nI_clamp (by omega), hg3.1.2.1.2.2.2.2.2.2.2.2.2.2.2.1 s hs]
    refine c_bitCount (hg.1.2.2.2.2.2.2.2.2.2.2.2.2.2 s hs) (ri ⟨vp9 8 (by decide), fun s7 e7 => ?_⟩)
    rw [show Int32.toNatClampNeg 8 = 8 from rfl, e3, sI_sA] at e7
    have d7 : Df [47] σ s7 := by rw [e7]; exact Df.rf.wA (by simp)
    have hg7 := hg.df d7 o6
    refine ⟨p, hg7.1.1, hg7.1.2.1.1, c_worth hg7.2.2.2 A47 (by decide) (by decide) (by omega) (fun f2 => ri (c_held (ri ?_)))⟩
    have hev : evL (s7.1 47) (plw P 2) = evL (fnV L x y (szS P s)) (plw P 2) := by
      refine evL_cong (fun k hk => ?_) _ hg.2.2.2.2.1
      rw [e7, sA_row]
      match k, hk with
      | 0, _ => exact hf 0 (by omega)
      | 1, _ => exact hf 1 (by omega)
      | 2, _ => rfl
      | 3, _ => exact hf 3 (by omega)
      | 4, _ => exact hf 4 (by omega)
      | 5, _ => rfl
      | 6, _ => rfl
      | 7, _ => exact hf 7 (by omega)
      | 8, _ => rfl
      | k + 9, h => omega
    rw [hev]
    exact hK _ ((d7.mo (by simp)).wA (by simp))
  | succ n ih =>
    intro k f h1 hf
    refine tX1_fineFor_3 hl.1 ⟨fun q => absurd q ?_, fun _ => ⟨vp_in_nI (by omega) (by omega), fun s13 e13 => ?_⟩⟩
    · simp (disch := omega) only [nL, nI_add, pk_mul, pk_sub, nI_clamp, nI_leI, nI_ltI, nI_eq]
      omega
    · rw [nI_clamp (by omega), sI_sA] at e13
      rw [nI_1, e13]
      refine ih (k + 1) _ (by omega) (fun j hj => ?_)
      by_cases he : j = k
      · rw [he]; exact pk_us
      · rw [pk_un he]; exact hf j (by omega)
theorem c_fineFor {s x y : Nat} (hg : XGL σ p P) (hl : XL σ a L) (hs : s < pns P) (hx : x < 8) (hy : y < 6) (hK : ∀ τ, Df [47, p + 17] σ τ → K (some (.int (fnS P L s x y))) τ) : C2 Γ l mX1_fineFor [.ref 46, .ref a, .int (nI s), .int (nI x), .int (nI y)] σ K := by
  refine tX1_fineFor hl.1 ?_
  have := c_fineFor_k (Γ := Γ) (l := l) (K := K) hg hl hs hx hy hK 9 0 (σ.1 47) (by omega) (fun j hj => absurd hj (by omega))
  rw [sA_self] at this
  exact this
theorem c_leastLeft_k {s x y : Nat} (hg : XG σ p P) (hl : XL σ a L) (ok : LVok P L) (hs : s < pns P) (hx : x + 2 < 8) (hy : y + 2 < 6) (hK : K (some (.int (nI (lstS P L s x y 9)))) σ) :
    ∀ n k, n + k = 9 → wX1_leastLeft_7 Γ l a (nI s) (nI x) (nI y) (nI (lstS P L s x y k)) (nI k) σ K := by
  intro n
  induction n with
  | zero =>
    intro k hk
    have : k = 9 := by omega
    subst this
    exact tX1_leastLeft_7 hl.1 ⟨fun _ => hK, fun q => absurd (by decide) q⟩
  | succ n ih =>
    intro k hk
    have ih := ih (k + 1) (by omega)
    refine tX1_leastLeft_7 hl.1 ⟨fun q => absurd q (by simp (disch := omega) only [nL, nI_add, pk_mul, pk_sub, nI_clamp, nI_leI, nI_ltI, nI_eq]; omega), fun _ => ⟨p, hg.1, hg.2.1.1, c_isCutAt hg.2.1 hg.2.2 hs (by omega) (ri ?_)⟩⟩
    rw [bI_0, nI_1]
    refine ⟨fun q => ?_, fun q => ?_⟩
    · simp only [Bool.not_eq_false] at q
      simp only [lstS, q, if_true] at ih
      exact ih
    · rw [rem3 (by omega), div3 (by omega), nI_add, nI_add]
      refine c_indexOf (ri ⟨vp_in_nI (by omega) (by omega), ?_⟩)
      have b1 := lstS_le P L s x y k
      have b3 := (ok.1 (c9 x y k) (by unfold c9; omega)).1
      rw [nI_clamp (by omega), XL_hi hl (by omega) (by omega), show 8 * (y + k / 3) + (x + k % 3) = c9 x y k from rfl, imn_n (by omega) (by omega)]
      simp only [lstS, q, Bool.false_eq_true, if_false] at ih
      exact ih
theorem c_leastLeft {s x y : Nat} (hg : XG σ p P) (hl : XL σ a L) (ok : LVok P L) (hs : s < pns P) (hx : x + 2 < 8) (hy : y + 2 < 6) (hK : K (some (.int (nI (lstS P L s x y 9)))) σ) : C2 Γ l mX1_leastLeft [.ref 46, .ref a, .int (nI s), .int (nI x), .int (nI y)] σ K :=
  tX1_leastLeft hl.1 (c_leastLeft_k hg hl ok hs hx hy hK 9 0 (by omega))
/-- how many of the cells that are cut stand higher than t -/
def ttS (P : PV) (L : LV) (s x y t : Nat) : Nat → Nat := cn (fun k => pcut P s k && decide (t < L (c9 x y k)))
theorem c_tooTall_k {s x y t : Nat} (hg : XG σ p P) (hl : XL σ a L) (ok : LVok P L) (hs : s < pns P) (hx : x + 2 < 8) (hy : y + 2 < 6) (ht : t < 1000) (hK : K (some (.int (nI (ttS P L s x y t 9)))) σ) :
    ∀ n k, n + k = 9 → wX1_tooTall_6 Γ l a (nI s) (nI x) (nI y) (nI t) (nI (ttS P L s x y t k)) (nI k) σ K := by
  intro n
  induction n with
  | zero =>
    intro k hk
    have : k = 9 := by omega
    subst this
    exact tX1_tooTall_6 hl.1 ⟨fun _ => hK, fun q => absurd (by decide) q⟩
  | succ n ih =>
    intro k hk
    have ih := ih (k + 1) (by omega)
    have e : ttS P L s x y t (k + 1) = ttS P L s x y t k + (if (pcut P s k && decide (t < L (c9 x y k))) then 1 else 0) := rfl
    rw [e] at ih
    refine tX1_tooTall_6 hl.1 ⟨fun q => absurd q (by simp (disch := omega) only [nL, nI_add, pk_mul, pk_sub, nI_clamp, nI_leI, nI_ltI, nI_eq]; omega), fun _ => ⟨p, hg.1, hg.2.1.1, c_isCutAt hg.2.1 hg.2.2 hs (by omega) (ri ?_)⟩⟩
    rw [bI_0, nI_1]
    refine ⟨fun q => ?_, fun q => ?_⟩
    · rw [q] at ih
      exact ih
    · simp only [Bool.not_eq_false] at q
      rw [rem3 (by omega), div3 (by omega), nI_add, nI_add]
      have b3 := (ok.1 (c9 x y k) (by unfold c9; omega)).1
      refine c_indexOf (ri ⟨vp_in_nI (by omega) (by omega), ?_⟩)
      rw [nI_clamp (by omega), XL_hi hl (by omega) (by omega), show 8 * (y + k / 3) + (x + k % 3) = c9 x y k from rfl, nI_leI (by omega) (by omega), nI_1]
      refine ⟨fun z => ?_, fun z => ?_⟩
      · rw [q, show decide (t < L (c9 x y k)) = false by simp; omega] at ih
        exact ih
      · rw [q, show decide (t < L (c9 x y k)) = true by simp; omega] at ih
        exact ih
theorem c_tooTall {s x y t : Nat} (hg : XG σ p P) (hl : XL σ a L) (ok : LVok P L) (hs : s < pns P) (hx : x + 2 < 8) (hy : y + 2 < 6) (ht : t < 1000) (hK : K (some (.int (nI (ttS P L s x y t 9)))) σ) : C2 Γ l mX1_tooTall [.ref 46, .ref a, .int (nI s), .int (nI x), .int (nI y), .int (nI t)] σ K :=
  tX1_tooTall hl.1 (c_tooTall_k hg hl ok hs hx hy ht hK 9 0 (by omega))
end G8
