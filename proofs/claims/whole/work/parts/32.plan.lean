/-! the class's plan: what its methods answer -/
section P1
variable {Γ : GE} {l : Launch} {σ : SS} {K : Option Value → SS → Prop} {p : Nat} {P : PV}
theorem c_indexOf {x y : Nat} (hK : K (some (.int (nI ((y + 1) * 10 + x + 1)))) σ) : C2 Γ l mX9_indexOf [.int (nI x), .int (nI y)] σ K := by
  refine tX9_indexOf ?_
  simp (disch := omega) only [nL, nI_add, pk_mul, pk_sub, nI_clamp, nI_leI, nI_ltI, nI_eq]
  exact hK
theorem c_hasCell {x1 x2 : Int32} (h : XP σ p P) (hK : K (some (.int (bI (decide (¬ x1 < 0 ∧ x1 < nI (pw P) ∧ ¬ x2 < 0 ∧ x2 < nI (pr P)))))) σ) : C2 Γ l mX6_hasCell [.ref p, .int x1, .int x2] σ K := by
  refine tX6_hasCell h.1 ?_
  rw [h.2.1, h.2.2.1]
  grind [bI]
theorem c_hasSign {x1 : Int32} (h : XP σ p P) (hK : K (some (.int (bI (decide (¬ x1 < 0 ∧ x1 < nI (pns P)))))) σ) : C2 Γ l mX6_hasSign [.ref p, .int x1] σ K := by
  refine tX6_hasSign h.1 ?_
  rw [h.2.2.2.1]
  grind [bI]
theorem c_hasWindow {x1 : Int32} (h : XP σ p P) (hK : K (some (.int (bI (decide (¬ x1 < 0 ∧ x1 < nI (pnw P)))))) σ) : C2 Γ l mX6_hasWindow [.ref p, .int x1] σ K := by
  refine tX6_hasWindow h.1 ?_
  rw [h.2.2.2.2.1]
  grind [bI]
theorem c_hasPlace {x1 x2 x3 : Int32} (h : XP σ p P) (hK : K (some (.int (bI (decide ((¬ x1 < 0 ∧ x1 < nI (pns P)) ∧ ¬ x2 < 0 ∧ x2 < nI (pw P) - 2 ∧ ¬ x3 < 0 ∧ x3 < nI (pr P) - 2))))) σ) : C2 Γ l mX6_hasPlace [.ref p, .int x1, .int x2, .int x3] σ K := by
  refine tX6_hasPlace h.1 (c_hasSign h (ri ?_))
  rw [bI_0, h.2.1, h.2.2.1]
  grind [bI]
theorem c_isGrass {x y : Nat} (h : XP σ p P) (ok : PVok P) (hx : x < 8) (hy : y < 6) (hK : K (some (.int (bI (grass P x y)))) σ) : C2 Γ l mX6_isGrass [.ref p, .int (nI x), .int (nI y)] σ K := by
  have w8 := ok.1
  have r6 := ok.2.1
  refine tX6_isGrass h.1 (c_hasCell h (ri ?_))
  rw [bI_0]
  have e : decide (¬ nI x < 0 ∧ nI x < nI (pw P) ∧ ¬ nI y < 0 ∧ nI y < nI (pr P)) = decide (x < pw P ∧ y < pr P) := by
    simp (disch := omega) only [nL, nI_add, pk_mul, pk_sub, nI_clamp, nI_leI, nI_ltI, nI_eq]
    simp
  rw [e]
  refine ⟨fun q => ?_, fun q => ?_⟩
  · have : grass P x y = false := by simp only [grass]; simp at q ⊢; omega
    rw [this] at hK
    exact hK
  · simp at q
    refine c_indexOf (ri ⟨vp_in_nI (by omega) (by omega), ?_⟩)
    rw [nI_clamp (by omega), h.2.2.2.2.2.2.2.2.2.2.1 _ (by omega), cSu_at P q.1 q.2 ok]
    simp only [grass, q.1, q.2, true_and] at hK
    grind [bI]
theorem c_isCutAt {s k : Nat} (h : XP σ p P) (ok : PVok P) (hs : s < pns P) (hk : k < 9) (hK : K (some (.int (bI (pcut P s k)))) σ) : C2 Γ l mX6_isCutAt [.ref p, .int (nI s), .int (nI k)] σ K := by
  have h4 := ok.2.2.1
  have h5 := ok.2.2.2.2.2.2.2.2.2.2.2 s hs
  refine tX6_isCutAt h.1 ⟨vp_in_nI (by omega) (by omega), ?_⟩
  rw [nI_clamp (by omega), h.2.2.2.2.2.2.2.2.2.2.2.1 s hs, bit_at h5 hk]
  have e : nI (psg P s / 2 ^ k % 2) = 1 ↔ psg P s / 2 ^ k % 2 = 1 := by
    rw [show (1 : Int32) = nI 1 from rfl, nI_eq (by omega) (by omega)]
  rw [e]
  unfold pcut at hK
  grind [bI]
theorem c_isReadable {s : Nat} (h : XP σ p P) (ok : PVok P) (hs : s < pns P) (hK : K (some (.int (bI (decide (psg P s ≠ 0 ∧ psg P s ≠ 511))))) σ) : C2 Γ l mX6_isReadable [.ref p, .int (nI s)] σ K := by
  have h4 := ok.2.2.1
  have h5 := ok.2.2.2.2.2.2.2.2.2.2.2 s hs
  have v : vp_in (nI s) 4 := vp_in_nI (by omega) (by omega)
  refine tX6_isReadable h.1 ⟨v, ?_⟩
  rw [nI_clamp (by omega), h.2.2.2.2.2.2.2.2.2.2.2.1 s hs]
  have e0 : nI (psg P s) = 0 ↔ psg P s = 0 := by rw [show (0 : Int32) = nI 0 from rfl, nI_eq (by omega) (by omega)]
  have e1 : nI (psg P s) = 511 ↔ psg P s = 511 := by rw [show (511 : Int32) = nI 511 from rfl, nI_eq (by omega) (by omega)]
  rw [e0, e1]
  grind [bI]
def seesS (P : PV) (w x : Nat) : Bool := decide (pfr P w ≤ x ∧ x + 2 ≤ pto P w)
theorem c_sees {w x : Nat} (h : XP σ p P) (ok : PVok P) (hw : w < pnw P) (hx : x < 1000) (hK : K (some (.int (bI (seesS P w x)))) σ) : C2 Γ l mX6_sees [.ref p, .int (nI w), .int (nI x)] σ K := by
  have h4 := ok.2.2.2.1
  have v : vp_in (nI w) 4 := vp_in_nI (by omega) (by omega)
  obtain ⟨g1, g2, g3⟩ := h.2.2.2.2.2.2.2.2.2.2.2.2.1 w hw
  obtain ⟨b1, b2, b3⟩ := ok.2.2.2.2.2.2.2.2.2.1 w hw
  refine tX6_sees h.1 ⟨v, ?_⟩
  rw [nI_clamp (by omega), g1, g2]
  simp (disch := omega) only [nL, nI_add, pk_mul, pk_sub, nI_clamp, nI_leI, nI_ltI, nI_eq]
  unfold seesS at hK
  have z0_ : nI 0 = (0 : Int32) := rfl
  have z1_ : nI 1 = (1 : Int32) := rfl
  grind [bI]
end P1
