/-! the class's whole state -/
def begL (P : PV) : LV := fun k => if k < 48 ∧ grass P (k % 8) (k / 8) = true then phe P else 0
/-- the lawn to which nothing was done -/
def barL (P : PV) (w : Nat) : LV := gwN P (nI (psd P)) w (begL P)
/-- a guess's lawn in week w -/
def bldL (P : PV) (w s x y age : Nat) : LV := gwN P (nI (psd P)) age (ct9 P s x y (barL P (w - age)) 9)
/-- heights of a row as one number, from x on -/
def pkR (L : LV) (y : Nat) : Nat → Nat → Nat
  | 0, _ => 0
  | n + 1, x => L (8 * y + x) + 128 * pkR L y n (x + 1)
def gAge (g : Nat) : Nat := g % 31
def gX (g : Nat) : Nat := g / 31 % 24 % 6
def gY (g : Nat) : Nat := g / 31 % 24 / 6
def gS_ (g : Nat) : Nat := g / 31 / 24
def gOk (P : PV) (w g : Nat) : Bool := decide (gAge g ≤ w ∧ gS_ g < pns P ∧ gX g + 2 < pw P ∧ gY g + 2 < pr P)
def XT (σ : SS) (T : List Nat) : Prop := T.length ≤ 2000 ∧ σ.1 1 1 = nI T.length ∧ ∀ i (h : i < T.length), σ.1 2 i = nI T[i]
def XPa (σ : SS) (H : List LV) (O : Nat → Option LV) : Prop := (∀ i, i < 30 → σ.2.2 51 i = 54 + 5 * i) ∧ (∀ i, i < 3 → σ.2.2 52 i = 204 + 5 * i) ∧ (∃ nx, nx < 30 ∧ σ.1 50 3 = nI nx ∧ H.length ≤ 30 ∧ σ.1 50 4 = nI H.length ∧ ∀ j (h : j < H.length), XL σ (54 + 5 * ((nx + 29 - j) % 30)) H[j]) ∧ ∀ s, s < 3 → σ.1 53 s = bI (O s).isSome ∧ ∀ M, O s = some M → XL σ (204 + 5 * s) M
def XTo (σ : SS) (D : List (Nat × Nat × Nat)) : Prop := D.length ≤ 20 ∧ σ.1 219 4 = nI D.length ∧ ∀ i (h : i < D.length), σ.1 220 i = nI D[i].1 ∧ σ.1 221 i = nI D[i].2.1 ∧ σ.1 222 i = nI D[i].2.2
/-- of the guess's lawn nothing but heights and week is ever set -/
def XZ (σ : SS) : Prop := (∀ i, i < 80 → σ.1 265 i = 0) ∧ (∀ i, i < 4 → σ.1 266 i = 0) ∧ (∀ i, i < 4 → σ.1 267 i = 0) ∧ σ.1 263 5 = 0
theorem XZ.df {S : List Nat} {σ τ : SS} (h : XZ σ) (d : Df S σ τ) (h1 : 263 ∉ S) (h2 : 265 ∉ S) (h3 : 266 ∉ S) (h4 : 267 ∉ S) : XZ τ := by
  unfold XZ
  rw [d.1 263 h1, d.1 265 h2, d.1 266 h3, d.1 267 h4]
  exact h
/-- the bare lawn, its last weeks -/
def XB (σ : SS) (P : PV) : Prop := (∀ i, i < 31 → σ.2.2 228 i = 229 + i) ∧ XZ σ ∧ ∃ bw, bw < 900000 ∧ XL σ 223 (barL P bw) ∧ ∀ w, w ≤ bw → bw < w + 31 → ∀ i, i < 80 → σ.1 (229 + w % 31) i = nI (cH (barL P w) i)
/-- what the guesses come to in week w -/
def XO (σ : SS) (P : PV) (w : Nat) : Prop := ∀ g, g < 2976 → gOk P w g = true → ∀ y, y < pr P → σ.2.1 260 (g * 6 + y) = Int64.ofNat (pkR (bldL P w (gS_ g) (gX g) (gY g) (gAge g)) y (pw P) 0)
def XC (σ : SS) (P : PV) : Prop := XB σ P ∧ (σ.1 219 8 = -1 ∨ ∃ w, w < 900000 ∧ σ.1 219 8 = nI w ∧ XO σ P w)
def XQ (σ : SS) (p : Nat) : Prop := σ.2.2 0 8 = p ∧ ∃ q, σ.2.2 0 9 = q ∧ isP q ∧ q ≠ p
def XS (σ : SS) (T : List Nat) (f : Int32) (P : PV) (L : LV) (H : List LV) (O : Nat → Option LV) (D : List (Nat × Nat × Nat)) : Prop :=
  ∃ p, XQ σ p ∧ XGL σ p P ∧ XL σ 269 L ∧ XT σ T ∧ XPa σ H O ∧ XTo σ D ∧ σ.1 0 10 = f ∧ XC σ P
/-- the model's rows are as they were -/
def Cl (σ τ : SS) : Prop := (∀ b, 284 ≤ b → τ.1 b = σ.1 b) ∧ (∀ b, 284 ≤ b → τ.2.1 b = σ.2.1 b) ∧ (∀ b, 284 ≤ b → τ.2.2 b = σ.2.2 b)
theorem Cl.rf {σ : SS} : Cl σ σ := ⟨fun _ _ => rfl, fun _ _ => rfl, fun _ _ => rfl⟩
theorem Cl.tr {σ τ υ : SS} (h : Cl σ τ) (g : Cl τ υ) : Cl σ υ := ⟨fun b q => (g.1 b q).trans (h.1 b q), fun b q => (g.2.1 b q).trans (h.2.1 b q), fun b q => (g.2.2 b q).trans (h.2.2 b q)⟩
theorem Df.cl {S : List Nat} {σ τ : SS} (d : Df S σ τ) (h : ∀ b, b ∈ S → b < 284) : Cl σ τ :=
  ⟨fun b q => d.1 b (fun z => by have := h b z; omega), fun b _ => by rw [d.2], fun b _ => by rw [d.2]⟩
/-- rows that hold nothing between two calls -/
def scr (S : List Nat) : Prop := ∀ b, b ∈ S → b = 21 ∨ b = 24 ∨ b = 27 ∨ b = 39 ∨ b = 42 ∨ b = 45 ∨ b = 47 ∨ b = 48 ∨ b = 49 ∨ (274 ≤ b ∧ b ≤ 283)
theorem scr.cl {S : List Nat} (h : scr S) : ∀ b, b ∈ S → b < 284 := fun b hb => by
  have := h b hb
  omega
theorem scr.off {S : List Nat} (h : scr S) : offP S := fun b hb => by
  have := h b hb
  omega
theorem scr.no {S : List Nat} (h : scr S) {b : Nat} (h1 : b < 274) (h2 : b ∉ [21, 24, 27, 39, 42, 45, 47, 48, 49]) : b ∉ S := fun hb => by
  have := h b hb
  simp at h2
  omega
theorem XL.sc {S : List Nat} {σ τ : SS} {a : Nat} {L : LV} (h : XL σ a L) (d : Df S σ τ) (hS : scr S) (ha : a + 5 ≤ 274) : XL τ a L := by
  have hg := isL_ge h.1
  exact h.df d (hS.no (by omega) (by simp; omega)) (hS.no (by omega) (by simp; omega)) (hS.no (by omega) (by simp; omega)) (hS.no (by omega) (by simp; omega)) (hS.no (by omega) (by simp; omega))
theorem XT.df {S : List Nat} {σ τ : SS} {T : List Nat} (h : XT σ T) (d : Df S σ τ) (h1 : 1 ∉ S) (h2 : 2 ∉ S) : XT τ T := by
  unfold XT
  rw [d.1 1 h1, d.1 2 h2]
  exact h
theorem XPa.sc {S : List Nat} {σ τ : SS} {H : List LV} {O : Nat → Option LV} (h : XPa σ H O) (d : Df S σ τ) (hS : scr S) : XPa τ H O := by
  obtain ⟨h1, h2, ⟨nx, n1, n2, n3, n4, n5⟩, h4⟩ := h
  refine ⟨fun i hi => by rw [d.2]; exact h1 i hi, fun i hi => by rw [d.2]; exact h2 i hi, ⟨nx, n1, ?_, n3, ?_, fun j hj => (n5 j hj).sc d hS (by omega)⟩, fun s hs => ⟨?_, fun M hM => ((h4 s hs).2 M hM).sc d hS (by omega)⟩⟩
  · rw [d.1 50 (hS.no (by omega) (by simp))]; exact n2
  · rw [d.1 50 (hS.no (by omega) (by simp))]; exact n4
  · rw [d.1 53 (hS.no (by omega) (by simp))]; exact (h4 s hs).1
theorem XTo.df {S : List Nat} {σ τ : SS} {D : List (Nat × Nat × Nat)} (h : XTo σ D) (d : Df S σ τ) (h1 : 219 ∉ S) (h2 : 220 ∉ S) (h3 : 221 ∉ S) (h4 : 222 ∉ S) : XTo τ D := by
  unfold XTo
  rw [d.1 219 h1, d.1 220 h2, d.1 221 h3, d.1 222 h4]
  exact h
theorem XB.sc {S : List Nat} {σ τ : SS} {P : PV} (h : XB σ P) (d : Df S σ τ) (hS : scr S) : XB τ P := by
  obtain ⟨h1, h2, bw, b1, b2, b3⟩ := h
  refine ⟨fun i hi => by rw [d.2]; exact h1 i hi, h2.df d (hS.no (by omega) (by simp)) (hS.no (by omega) (by simp)) (hS.no (by omega) (by simp)) (hS.no (by omega) (by simp)), bw, b1, b2.sc d hS (by omega), fun w w1 w2 i hi => ?_⟩
  rw [d.1 _ (hS.no (by omega) (by simp; omega))]
  exact b3 w w1 w2 i hi
theorem XC.sc {S : List Nat} {σ τ : SS} {P : PV} (h : XC σ P) (d : Df S σ τ) (hS : scr S) : XC τ P := by
  refine ⟨h.1.sc d hS, ?_⟩
  rw [d.1 219 (hS.no (by omega) (by simp))]
  rcases h.2 with q | ⟨w, w1, w2, w3⟩
  · exact Or.inl q
  · refine Or.inr ⟨w, w1, w2, fun g g1 g2 y hy => ?_⟩
    rw [d.2]
    exact w3 g g1 g2 y hy
theorem XS.sc {S : List Nat} {σ τ : SS} {T : List Nat} {f : Int32} {P : PV} {L : LV} {H : List LV} {O : Nat → Option LV} {D : List (Nat × Nat × Nat)} (h : XS σ T f P L H O D) (d : Df S σ τ) (hS : scr S) : XS τ T f P L H O D := by
  obtain ⟨p, h1, h2, h3, h4, h5, h6, h7, h8⟩ := h
  refine ⟨p, ?_, h2.df d hS.off, h3.sc d hS (by omega), h4.df d (hS.no (by omega) (by simp)) (hS.no (by omega) (by simp)), h5.sc d hS, h6.df d (hS.no (by omega) (by simp)) (hS.no (by omega) (by simp)) (hS.no (by omega) (by simp)) (hS.no (by omega) (by simp)), ?_, h8.sc d hS⟩
  · unfold XQ
    rw [d.2]
    exact h1
  · rw [d.1 0 (hS.no (by omega) (by simp))]
    exact h7
/-- what holds of the numbers themselves -/
def LW (P : PV) (W : Nat) (L : LV) : Prop := LVok P L ∧ L 104 ≤ W
def OKS (T : List Nat) (P : PV) (L : LV) (H : List LV) (O : Nat → Option LV) (D : List (Nat × Nat × Nat)) (W : Nat) : Prop :=
  W ≤ 40000 ∧ LW P W L ∧ (∀ M, M ∈ H → LW P W M) ∧ (∀ s M, O s = some M → LW P W M) ∧ (∀ d, d ∈ D → d.1 < pw P ∧ d.2.1 < pr P ∧ d.2.2 ≤ 99) ∧ ∀ b, b ∈ T → b < 256
/-- arguments -/
theorem vC_nat {P : PV} {x y : Int32} (h : vC P x y = true) : ∃ X Y, x = nI X ∧ y = nI Y ∧ X < pw P ∧ Y < pr P := by
  simp only [vC, decide_eq_true_eq] at h
  exact ⟨_, _, (nx h.1).1, (nx h.2.1).1, h.2.2.1, h.2.2.2⟩
theorem vSg_nat {P : PV} {s : Int32} (h : vSg P s = true) : ∃ X, s = nI X ∧ X < pns P := by
  simp only [vSg, decide_eq_true_eq] at h
  exact ⟨_, (nx h.1).1, h.2⟩
theorem vWi_nat {P : PV} {s : Int32} (h : vWi P s = true) : ∃ X, s = nI X ∧ X < pnw P := by
  simp only [vWi, decide_eq_true_eq] at h
  exact ⟨_, (nx h.1).1, h.2⟩
theorem vPl_nat {P : PV} {x y : Int32} (h : vPl P x y = true) : ∃ X Y, x = nI X ∧ y = nI Y ∧ X + 2 < pw P ∧ Y + 2 < pr P := by
  simp only [vPl, decide_eq_true_eq] at h
  exact ⟨_, _, (nx h.1).1, (nx h.2.1).1, h.2.2.1, h.2.2.2⟩
/-- a height, a wait -/
def vIn (x : Int32) (hi : Nat) : Bool := decide (¬ x < 0 ∧ x.toNatClampNeg ≤ hi)
theorem vIn_nat {x : Int32} {hi : Nat} (h : vIn x hi = true) : ∃ X, x = nI X ∧ X ≤ hi := by
  simp only [vIn, decide_eq_true_eq] at h
  exact ⟨_, (nx h.1).1, h.2⟩
theorem le_nx {x : Int32} {n : Nat} (h : ¬ x < 0) (hn : n < 2 ^ 31) : nI n < x ↔ n < x.toNatClampNeg := by
  obtain ⟨h1, h2⟩ := nx h
  rw [h1, nI_ltI hn h2, nI_clamp h2]
section S1
variable {Γ : GE} {l : Launch} {σ : SS} {K : Option Value → SS → Prop}
theorem c_isHeight {x : Int32} (hK : K (some (.int (bI (vIn x 99)))) σ) : C2 Γ l mX9_isHeight [.int x] σ K := by
  refine tX9_isHeight ⟨fun q => ?_, fun q => ⟨fun r => ?_, fun r => ?_⟩⟩
  · have : vIn x 99 = false := by simp [vIn, q]
    rw [this] at hK
    exact hK
  · have : vIn x 99 = false := by
      have := (le_nx q (n := 99) (by omega)).mp r
      simp only [vIn, decide_eq_false_iff_not]
      omega
    rw [this] at hK
    exact hK
  · have : vIn x 99 = true := by
      have : ¬ 99 < x.toNatClampNeg := fun z => r ((le_nx q (n := 99) (by omega)).mpr z)
      simp only [vIn, decide_eq_true_eq]
      exact ⟨q, by omega⟩
    rw [this] at hK
    exact hK
theorem c_isWait {x : Int32} (hK : K (some (.int (bI (vIn x 60)))) σ) : C2 Γ l mX9_isWait [.int x] σ K := by
  refine tX9_isWait ⟨fun q => ?_, fun q => ⟨fun r => ?_, fun r => ?_⟩⟩
  · have : vIn x 60 = false := by simp [vIn, q]
    rw [this] at hK
    exact hK
  · have : vIn x 60 = false := by
      have := (le_nx q (n := 60) (by omega)).mp r
      simp only [vIn, decide_eq_false_iff_not]
      omega
    rw [this] at hK
    exact hK
  · have : vIn x 60 = true := by
      have : ¬ 60 < x.toNatClampNeg := fun z => r ((le_nx q (n := 60) (by omega)).mpr z)
      simp only [vIn, decide_eq_true_eq]
      exact ⟨q, by omega⟩
    rw [this] at hK
    exact hK
end S1
