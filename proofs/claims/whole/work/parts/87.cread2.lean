/-! the class: read -/
theorem XL.rg {σ τ : SS} {a : Nat} {L : LV} (h : XL σ a L) (r : ∀ b, a ≤ b → b ≤ a + 4 → τ.1 b = σ.1 b) : XL τ a L := by
  unfold XL
  rw [r a (by omega) (by omega), r (a + 1) (by omega) (by omega), r (a + 2) (by omega) (by omega), r (a + 3) (by omega) (by omega), r (a + 4) (by omega) (by omega)]
  exact h
theorem XPa.rg {σ τ : SS} {H : List LV} {O : Nat → Option LV} (h : XPa σ H O) (r : ∀ b, 50 ≤ b → b ≤ 218 → τ.1 b = σ.1 b) (r3 : ∀ b, 50 ≤ b → b ≤ 218 → τ.2.2 b = σ.2.2 b) : XPa τ H O := by
  obtain ⟨h1, h2, ⟨nx, n1, n2, n3, n4, n5⟩, h4⟩ := h
  refine ⟨by rw [r3 51 (by omega) (by omega)]; exact h1, by rw [r3 52 (by omega) (by omega)]; exact h2, ⟨nx, n1, by rw [r 50 (by omega) (by omega)]; exact n2, n3, by rw [r 50 (by omega) (by omega)]; exact n4, fun j hj => (n5 j hj).rg (fun b b1 b2 => r b (by omega) (by omega))⟩, fun s hs => ⟨by rw [r 53 (by omega) (by omega)]; exact (h4 s hs).1, fun M hM => ((h4 s hs).2 M hM).rg (fun b b1 b2 => r b (by omega) (by omega))⟩⟩
theorem XC.rg {σ τ : SS} {P : PV} (h : XC σ P) (r : ∀ b, 219 ≤ b → b ≤ 268 → τ.1 b = σ.1 b) (r2 : τ.2.1 260 = σ.2.1 260) (r3 : τ.2.2 228 = σ.2.2 228) : XC τ P := by
  obtain ⟨⟨h1, h2, bw, b1, b2, b3⟩, h4⟩ := h
  refine ⟨⟨by rw [r3]; exact h1, ?_, bw, b1, b2.rg (fun b c1 c2 => r b (by omega) (by omega)), fun w w1 w2 i hi => by rw [r _ (by omega) (by omega)]; exact b3 w w1 w2 i hi⟩, ?_⟩
  · unfold XZ
    rw [r 265 (by omega) (by omega), r 266 (by omega) (by omega), r 267 (by omega) (by omega), r 263 (by omega) (by omega)]
    exact h2
  · rw [r 219 (by omega) (by omega)]
    unfold XO at h4 ⊢
    rw [r2]
    exact h4
theorem XGL.rg {σ τ : SS} {p : Nat} {P : PV} (h : XGL σ p P) (r : ∀ b, p ≤ b → b ≤ p + 17 → τ.1 b = σ.1 b) (r3 : τ.2.2 46 = σ.2.2 46) : XGL τ p P := by
  unfold XGL XG XP XW
  rw [r3, r p (by omega) (by omega), r (p + 1) (by omega) (by omega), r (p + 3) (by omega) (by omega), r (p + 5) (by omega) (by omega), r (p + 6) (by omega) (by omega), r (p + 7) (by omega) (by omega), r (p + 8) (by omega) (by omega), r (p + 9) (by omega) (by omega), r (p + 9 + 1) (by omega) (by omega), r (p + 12) (by omega) (by omega), r (p + 12 + 1) (by omega) (by omega), r (p + 15) (by omega) (by omega), r (p + 15 + 1) (by omega) (by omega)]
  exact h
/-- rows that reading into the plan at p may change, all of them -/
def FZ (p : Nat) (σ τ : SS) : Prop := (∀ b, 10 ≤ b → (b < p ∨ p + 17 < b) → τ.1 b = σ.1 b ∧ τ.2.1 b = σ.2.1 b) ∧ ∀ b, b ≠ 7 → b ≠ 8 → τ.2.2 b = σ.2.2 b
theorem FZ.tr {p : Nat} {σ τ υ : SS} (h : FZ p σ τ) (g : FZ p τ υ) : FZ p σ υ := ⟨fun b b1 b4 => ⟨(g.1 b b1 b4).1.trans (h.1 b b1 b4).1, (g.1 b b1 b4).2.trans (h.1 b b1 b4).2⟩, fun b b1 b2 => (g.2 b b1 b2).trans (h.2 b b1 b2)⟩
theorem FR.fz {p : Nat} {σ τ : SS} (h : FR p σ τ) : FZ p σ τ := ⟨fun b b1 b4 => h.1 b (by omega) (by omega) (by omega) b4, h.2⟩
theorem XS.fz {σ τ : SS} {T : List Nat} {f f' : Int32} {P : PV} {L : LV} {H : List LV} {O : Nat → Option LV} {D : List (Nat × Nat × Nat)} {p p0 : Nat} (h : XQ σ p0 ∧ XGL σ p0 P ∧ XL σ 269 L ∧ XT σ T ∧ XPa σ H O ∧ XTo σ D ∧ σ.1 0 10 = f ∧ XC σ P) (hp : isP p) (hne : p ≠ p0) (d : FZ p σ τ) (hf : τ.1 0 10 = f') (h1 : τ.1 1 1 = 0) : XS τ [] f' P L H O D := by
  obtain ⟨a1, a2, a3, a4, a5, a6, a7, a8⟩ := h
  have o1 := isP_or hp
  have o2 := isP_or a2.1.2.1.1
  have r : ∀ b, 46 ≤ b → τ.1 b = σ.1 b := fun b hb => (d.1 b (by omega) (by omega)).1
  refine ⟨p0, ?_, a2.rg (fun b b1 b2 => (d.1 b (by omega) (by omega)).1) (d.2 46 (by omega) (by omega)), a3.rg (fun b b1 b2 => r b (by omega)), ⟨by decide, h1, fun i hi => absurd hi (by show ¬ i < 0; omega)⟩, a5.rg (fun b b1 b2 => r b (by omega)) (fun b b1 b2 => d.2 b (by omega) (by omega)), ?_, hf, a8.rg (fun b b1 b2 => r b (by omega)) (d.1 260 (by omega) (by omega)).2 (d.2 228 (by omega) (by omega))⟩
  · unfold XQ
    rw [d.2 0 (by omega) (by omega)]
    exact a1
  · unfold XTo
    rw [r 219 (by omega), r 220 (by omega), r 221 (by omega), r 222 (by omega)]
    exact a6
theorem isL_269 : isL 269 := by unfold isL; decide
/-- a plan that was read is a plan -/
theorem XPb.xp {σ : SS} {p : Nat} {P : PV} {N : Nms} (h : XPb σ p P N) (hi : PI none P N) : XP σ p P := by
  obtain ⟨a1, a2, a3, a4, a5, a6, a7, a8, a9, a10, a11⟩ := h
  obtain ⟨pk, hs⟩ := hi.2.2.2.2.2.2.2.2.2.2 rfl
  refine ⟨a1, a2 0 (by omega), a2 1 (by omega), a2 2 (by omega), a2 3 (by omega), a2 4 (by omega), a2 5 (by omega), a2 6 (by omega), a2 7 (by omega), a2 8 (by omega), fun i hi => ?_, a4, a5, a6⟩
  rw [a3 i hi]
  unfold bSu cSu
  by_cases hb : inb i = true
  · rw [if_pos hb]
    by_cases c : i % 10 - 1 < pw P ∧ i / 10 - 1 < pr P
    · rw [if_pos ⟨hb, c.1, c.2⟩]
    · rw [if_neg (fun z => c z.2)]
      exact hs _ _ (by omega)
  · rw [if_neg hb, if_neg (fun z => hb z.1)]
section P8
variable {Γ : GE} {l : Launch} {σ τ : SS} {K : Option Value → SS → Prop} {T : List Nat} {p a : Nat} {late : LF} {P : PV} {N : Nms}
theorem c_beOnly {w : Nat} {x : Int32} (hw : isW w) (hK : ∀ τ, (∀ c, c ≠ w → c ≠ w + 1 → τ.1 c = σ.1 c) → τ.2 = σ.2 → LC τ w [x, -100] → K none τ) : C2 Γ l mX2_beOnly [.ref w, .int x] σ K := by
  refine tX2_beOnly hw (tX2_clear hw (fun s1 e1 => rv ?_))
  have l0 : LC s1 w [] := ⟨by decide, by rw [e1, sI_at, if_pos ⟨rfl, rfl⟩]; rfl, fun j hj => absurd hj (by show ¬ j < 0; omega)⟩
  refine c_put hw l0 (by decide) (fun s2 f2 r2 l2 => rv ?_)
  refine c_put hw l2 (by show (1 : Nat) < 401; decide) (fun s3 f3 r3 l3 => rv ?_)
  exact hK s3 (fun c c1 c2 => by rw [f3 c c1 c2, f2 c c1 c2, e1, sI_row, sA_off2 _ _ c1]) (by rw [r3, r2, e1]; rfl) l3
theorem dfl_enc : ∀ k, k < 3 → encL 0 (dfl k) = [(if k = 0 then -2 else if k = 1 then 2 else -9), -100] := by decide
theorem dfl_len : ∀ k, k < 3 → (encL 0 (dfl k)).length ≤ 401 := by decide
theorem c_pclear (hp : isP p) (hK : ∀ τ, FP p σ τ → XPb τ p plnP [] → K none τ) : C2 Γ l mX6_clear [.ref p] σ K := by
  have hpn := isP_n hp
  have hw0 : isW (p + 9) := IP_8 hp
  have hw1 : isW (p + 12) := IP_9 hp
  have hw2 : isW (p + 15) := IP_10 hp
  have k2 : ∀ m i τ, m + i = 4 → FP p σ τ → (∀ j, j < 80 → τ.1 (p + 1) j = -2) → (∀ j, j < i → τ.1 (p + 8) j = 0) → wX6_clear_24 Γ l p (nI i) τ K := by
    intro m
    induction m with
    | zero =>
      intro i τ g1 d f1 f2
      have : i = 4 := by omega
      subst this
      refine tX6_clear_24 hp ⟨fun _ s1 e1 s2 e2 s3 e3 s4 e4 s5 e5 s6 e6 s7 e7 s8 e8 s9 e9 => ?_, fun q => absurd (by decide) q⟩
      have r9 : ∀ b, b ≠ p → s9.1 b = τ.1 b := fun b hb => by
        rw [e9, sI_row, sA_off2 _ _ hb, e8, sI_row, sA_off2 _ _ hb, e7, sI_row, sA_off2 _ _ hb, e6, sI_row, sA_off2 _ _ hb, e5, sI_row, sA_off2 _ _ hb, e4, sI_row, sA_off2 _ _ hb, e3, sI_row, sA_off2 _ _ hb, e2, sI_row, sA_off2 _ _ hb, e1, sI_row, sA_off2 _ _ hb]
      have q9 : s9.2 = τ.2 := by rw [e9, e8, e7, e6, e5, e4, e3, e2, e1]; rfl
      have v9 : ∀ j, j < 9 → s9.1 p (11 + j) = nI (plnP.1 j 0) := by
        intro j hj
        have : j = 0 ∨ j = 1 ∨ j = 2 ∨ j = 3 ∨ j = 4 ∨ j = 5 ∨ j = 6 ∨ j = 7 ∨ j = 8 := by omega
        rw [e9, sI_at, e8, sI_at, e7, sI_at, e6, sI_at, e5, sI_at, e4, sI_at, e3, sI_at, e2, sI_at, e1, sI_at]
        rcases this with z | z | z | z | z | z | z | z | z <;> subst z <;> simp <;> rfl
      refine tX2_codeOfVar (ri (c_beOnly hw0 (fun s12 f12 r12 l12 => rv (c_beOnly hw1 (fun s14 f14 r14 l14 => rv (tX2_codeOfVar (ri (c_beOnly hw2 (fun s18 f18 r18 l18 => rv ?_)))))))))
      have r18' : ∀ b, b < p + 9 → b ≠ p → s18.1 b = τ.1 b := fun b hb hb2 => by
        rw [f18 b (by omega) (by omega), f14 b (by omega) (by omega), f12 b (by omega) (by omega), r9 b hb2]
      have ro : ∀ b, b < p ∨ p + 17 < b → s18.1 b = τ.1 b := fun b hb => by
        rw [f18 b (by omega) (by omega), f14 b (by omega) (by omega), f12 b (by omega) (by omega), r9 b (by omega)]
      have q18 : s18.2 = τ.2 := by rw [r18, r14, r12, q9]
      refine hK s18 (d.tr ⟨fun b hb => ⟨ro b hb, by rw [q18]⟩, by rw [q18]⟩) ⟨hp, fun j hj => ?_, fun j hj => ?_, fun s hs => absurd hs (by show ¬ s < 0; omega), fun s hs => absurd hs (by show ¬ s < 0; omega), fun w hw => ?_, fun s hs => absurd hs (by show ¬ s < 0; omega), fun s hs => absurd hs (by show ¬ s < 0; omega), ?_, ?_, ?_⟩
      · rw [f18 p (by omega) (by omega), f14 p (by omega) (by omega), f12 p (by omega) (by omega)]
        exact v9 j hj
      · rw [r18' _ (by omega) (by omega), f1 j hj]
        unfold bSu
        split <;> rfl
      · rw [r18' _ (by omega) (by omega), f2 w (by omega)]
        rfl
      · have l0 : LC s18 (p + 9) [-2, -100] := l12.cong (by rw [f18 _ (by omega) (by omega), f14 _ (by omega) (by omega)]) (by rw [f18 _ (by omega) (by omega), f14 _ (by omega) (by omega)])
        exact ⟨hw0, ⟨rfl, ⟨okO_1 (by omega), by decide, rfl⟩⟩, dfl_len 0 (by omega), l0.2.1, l0.2.2⟩
      · have l0 : LC s18 (p + 12) [2, -100] := l14.cong (by rw [f18 _ (by omega) (by omega)]) (by rw [f18 _ (by omega) (by omega)])
        exact ⟨hw1, ⟨rfl, ⟨okO_0 (v := 2) (by omega), by decide, rfl⟩⟩, dfl_len 1 (by omega), l0.2.1, l0.2.2⟩
      · exact ⟨hw2, ⟨rfl, ⟨okO_1 (by omega), by decide, rfl⟩⟩, dfl_len 2 (by omega), l18.2.1, l18.2.2⟩
    | succ m ih =>
      intro i τ g1 d f1 f2
      refine tX6_clear_24 hp ⟨fun q => absurd q (by simp (disch := omega) only [nL, nI_add, pk_mul, pk_sub, nI_clamp, nI_leI, nI_ltI, nI_eq]; omega), fun _ => ⟨vp_in_nI (by omega) (by omega), fun s1 e1 => ?_⟩⟩
      rw [nI_clamp (by omega)] at e1
      rw [nI_1]
      refine ih (i + 1) s1 (by omega) (by rw [e1]; exact d.wI ⟨by omega, by omega⟩) (fun j hj => by rw [e1, sI_row, sA_off2 _ _ (by omega)]; exact f1 j hj) (fun j hj => ?_)
      rw [e1, sI_at]
      by_cases e : j = i
      · rw [if_pos ⟨rfl, e⟩]
      · rw [if_neg (fun z => e z.2)]
        exact f2 j (by omega)
  have k1 : ∀ m i τ, m + i = 80 → FP p σ τ → (∀ j, j < i → τ.1 (p + 1) j = -2) → wX6_clear_2 Γ l p (nI i) τ K := by
    intro m
    induction m with
    | zero =>
      intro i τ g1 d f1
      have : i = 80 := by omega
      subst this
      exact tX6_clear_2 hp ⟨fun _ => k2 4 0 τ (by omega) d f1 (fun j hj => absurd hj (by omega)), fun q => absurd (by decide) q⟩
    | succ m ih =>
      intro i τ g1 d f1
      refine tX6_clear_2 hp ⟨fun q => absurd q (by simp (disch := omega) only [nL, nI_add, pk_mul, pk_sub, nI_clamp, nI_leI, nI_ltI, nI_eq]; omega), fun _ => ⟨vp_in_nI (by omega) (by omega), fun s1 e1 => ?_⟩⟩
      rw [nI_clamp (by omega)] at e1
      rw [nI_1]
      refine ih (i + 1) s1 (by omega) (by rw [e1]; exact d.wI ⟨by omega, by omega⟩) (fun j hj => ?_)
      rw [e1, sI_at]
      by_cases e : j = i
      · rw [if_pos ⟨rfl, e⟩]
      · rw [if_neg (fun z => e z.2)]
        exact f1 j (by omega)
  exact tX6_clear hp (k1 80 0 σ (by omega) FP.rf (fun j hj => absurd hj (by omega)))
theorem c_pastClear (hK : ∀ τ, Df [50, 53] σ τ → τ.1 50 4 = 0 → τ.1 50 3 = σ.1 50 3 → (∀ s, s < 3 → τ.1 53 s = 0) → K none τ) : C2 Γ l mX5_clear [.ref 50] σ K := by
  have k1 : ∀ m i τ, m + i = 3 → Df [50, 53] σ τ → τ.1 50 4 = 0 → τ.1 50 3 = σ.1 50 3 → (∀ s, s < i → τ.1 53 s = 0) → wX5_clear_7 Γ l (nI i) τ K := by
    intro m
    induction m with
    | zero =>
      intro i τ g1 d f1 f2 f3
      have : i = 3 := by omega
      subst this
      exact tX5_clear_7 ⟨fun _ => hK τ d f1 f2 f3, fun q => absurd (by decide) q⟩
    | succ m ih =>
      intro i τ g1 d f1 f2 f3
      refine tX5_clear_7 ⟨fun q => absurd q (by simp (disch := omega) only [nL, nI_add, pk_mul, pk_sub, nI_clamp, nI_leI, nI_ltI, nI_eq]; omega), fun _ => ⟨vp_in_nI (by omega) (by omega), fun s1 e1 => ?_⟩⟩
      rw [nI_clamp (by omega)] at e1
      rw [nI_1]
      refine ih (i + 1) s1 (by omega) (by rw [e1]; exact d.wI (by simp)) (by rw [e1, sI_at, if_neg (by omega)]; exact f1) (by rw [e1, sI_at, if_neg (by omega)]; exact f2) (fun j hj => ?_)
      rw [e1, sI_at]
      by_cases e : j = i
      · rw [if_pos ⟨rfl, e⟩]
        rfl
      · rw [if_neg (fun z => e z.2)]
        exact f3 j (by omega)
  refine tX5_clear (fun s1 e1 => k1 3 0 s1 (by omega) (by rw [e1]; exact Df.rf.wI (by simp)) (by rw [e1, sI_at, if_pos ⟨rfl, rfl⟩]) (by rw [e1, sI_at, if_neg (by omega)]) (fun j hj => absurd hj (by omega)))
end P8
