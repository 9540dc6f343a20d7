/-! which rows a method may have changed -/
def Df (S : List Nat) (σ τ : SS) : Prop := (∀ b, b ∉ S → τ.1 b = σ.1 b) ∧ τ.2 = σ.2
theorem Df.rf {S : List Nat} {σ : SS} : Df S σ σ := ⟨fun _ _ => rfl, rfl⟩
theorem Df.wA {S : List Nat} {σ τ : SS} {b : Nat} {f : Nat → Int32} (h : Df S σ τ) (hb : b ∈ S) : Df S σ (sA τ b f) :=
  ⟨fun c hc => by
    have hcb : c ≠ b := fun e => hc (by rw [e]; exact hb)
    rw [sA_off2 τ f hcb]
    exact h.1 c hc, h.2⟩
theorem sI_row (σ : SS) (b k : Nat) (v : Int32) : sI σ b k v = sA σ b (upd (σ.1 b) k v) := by
  unfold sI sA u2
  refine Prod.ext (funext fun c => ?_) rfl
  by_cases h : c = b <;> simp [h]
theorem Df.wI {S : List Nat} {σ τ : SS} {b k : Nat} {v : Int32} (h : Df S σ τ) (hb : b ∈ S) : Df S σ (sI τ b k v) := by
  rw [sI_row]
  exact h.wA hb
theorem Df.tr {S T : List Nat} {σ τ υ : SS} (h : Df S σ τ) (g : Df T τ υ) (hT : ∀ b, b ∈ T → b ∈ S) : Df S σ υ :=
  ⟨fun b hb => (g.1 b (fun z => hb (hT b z))).trans (h.1 b hb), g.2.trans h.2⟩
theorem Df.mo {S T : List Nat} {σ τ : SS} (h : Df S σ τ) (hT : ∀ b, b ∈ S → b ∈ T) : Df T σ τ := ⟨fun b hb => h.1 b (fun z => hb (hT b z)), h.2⟩
theorem isL_ge {a : Nat} (h : isL a) : 54 ≤ a ∧ a ≤ 279 ∧ ¬ (220 ≤ a ∧ a ≤ 222) := (by decide +kernel : ∀ a ∈ lawnL, 54 ≤ a ∧ a ≤ 279 ∧ ¬ (220 ≤ a ∧ a ≤ 222)) a h
theorem isP_or {a : Nat} (h : isP a) : a = 10 ∨ a = 28 := (by decide +kernel : ∀ a ∈ planL, a = 10 ∨ a = 28) a h
/-- two lawns lie apart -/
theorem isL_ap {a b : Nat} (ha : isL a) (hb : isL b) (h : a ≠ b) : a + 5 ≤ b ∨ b + 5 ≤ a := (by decide +kernel : ∀ a ∈ lawnL, ∀ b ∈ lawnL, a ≠ b → a + 5 ≤ b ∨ b + 5 ≤ a) a ha b hb h
theorem XL.df {S : List Nat} {σ τ : SS} {a : Nat} {L : LV} (h : XL σ a L) (d : Df S σ τ) (h0 : a ∉ S) (h1 : a + 1 ∉ S) (h2 : a + 2 ∉ S) (h3 : a + 3 ∉ S) (h4 : a + 4 ∉ S) : XL τ a L := by
  unfold XL
  rw [d.1 _ h0, d.1 _ h1, d.1 _ h2, d.1 _ h3, d.1 _ h4]
  exact h
theorem XP.df {S : List Nat} {σ τ : SS} {p : Nat} {P : PV} (h : XP σ p P) (d : Df S σ τ) (h0 : p ∉ S) (h1 : p + 1 ∉ S) (h3 : p + 3 ∉ S) (h5 : p + 5 ∉ S) (h6 : p + 6 ∉ S) (h7 : p + 7 ∉ S) (h8 : p + 8 ∉ S) : XP τ p P := by
  unfold XP
  rw [d.1 _ h0, d.1 _ h1, d.1 _ h3, d.1 _ h5, d.1 _ h6, d.1 _ h7, d.1 _ h8]
  exact h
theorem XW.df {S : List Nat} {σ τ : SS} {a : Nat} {V : LawV} (h : XW σ a V) (d : Df S σ τ) (h0 : a ∉ S) (h1 : a + 1 ∉ S) : XW τ a V := by
  unfold XW
  rw [d.1 _ h0, d.1 _ h1]
  exact h
/-- the gardener's plan, with its laws -/
def XGL (σ : SS) (p : Nat) (P : PV) : Prop := XG σ p P ∧ XW σ (p + 9) (plw P 0) ∧ XW σ (p + 12) (plw P 1) ∧ XW σ (p + 15) (plw P 2)
/-- rows that the plan doesn't need -/
def offP (S : List Nat) : Prop := ∀ b, b ∈ S → (46 ≤ b ∨ b = 21 ∨ b = 24 ∨ b = 27 ∨ b = 39 ∨ b = 42 ∨ b = 45)
theorem XGL.df {S : List Nat} {σ τ : SS} {p : Nat} {P : PV} (h : XGL σ p P) (d : Df S σ τ) (hS : offP S) : XGL τ p P := by
  have hp := isP_or h.1.2.1.1
  have g : ∀ b, ¬ (46 ≤ b ∨ b = 21 ∨ b = 24 ∨ b = 27 ∨ b = 39 ∨ b = 42 ∨ b = 45) → b ∉ S := fun b hb z => hb (hS b z)
  refine ⟨⟨by rw [d.2]; exact h.1.1, h.1.2.1.df d (g _ (by omega)) (g _ (by omega)) (g _ (by omega)) (g _ (by omega)) (g _ (by omega)) (g _ (by omega)) (g _ (by omega)), h.1.2.2⟩, h.2.1.df d (g _ (by omega)) (g _ (by omega)), h.2.2.1.df d (g _ (by omega)) (g _ (by omega)), h.2.2.2.df d (g _ (by omega)) (g _ (by omega))⟩
theorem evE_cong {f g : Nat → Int32} (h : ∀ k, k < 9 → f k = g k) : ∀ (e : Ex) (st : List Int32) (d r : Nat), okE e d r → evE f e st = evE g e st
  | [], st, d, r, _ => rfl
  | (k, v) :: es, st, d, r, hk => by
    obtain ⟨⟨o1, o2, o3⟩, ho⟩ := hk
    by_cases hk1 : k ≤ 1
    · rw [if_pos hk1] at ho
      have hk01 : k = 0 ∨ k = 1 := by omega
      rcases hk01 with rfl | rfl
      · simpa [evE] using evE_cong h es (v :: st) (d + 1) r ho.2
      · obtain ⟨j, hj, rfl⟩ := o3 rfl
        have := evE_cong h es (g (nI j).toNatClampNeg :: st) (d + 1) r ho.2
        rw [show evE f ((1, nI j) :: es) st = evE f es (f (nI j).toNatClampNeg :: st) by simp [evE], show evE g ((1, nI j) :: es) st = evE g es (g (nI j).toNatClampNeg :: st) by simp [evE], h _ (by rw [nI_clamp (by omega)]; exact hj)]
        exact this
    · rw [if_neg hk1] at ho
      have hk0 : ¬ k = 0 := by omega
      have hk2 : ¬ k = 1 := by omega
      match st with
      | [] => simp [evE, hk0, hk2]
      | [x] => simp [evE, hk0, hk2]
      | y :: x :: st =>
        have := evE_cong h es (opS k x y :: st) (d - 1) r ho.2
        simp only [evE, if_neg hk0, if_neg hk2, this]
theorem evT_cong {f g : Nat → Int32} (h : ∀ k, k < 9 → f k = g k) {t : Ex} {d r : Nat} (ok : okE t d r) : evT f t = evT g t := by
  unfold evT
  rw [evE_cong h t [] d r ok]
theorem evL_cong {f g : Nat → Int32} (h : ∀ k, k < 9 → f k = g k) : ∀ (V : LawV), okL V → evL f V = evL g V
  | [], _ => rfl
  | (none, t) :: bs, ok => evT_cong h ok.2
  | (some (e1, e2), t) :: bs, ok => by
    obtain ⟨ok1, ok2, ok3, ok4, ok5⟩ := ok
    unfold evL
    rw [evE_cong h e1 [] 0 1 ok1, evE_cong h e2 [] 0 1 ok2, evT_cong h ok4, evL_cong h bs ok5]
