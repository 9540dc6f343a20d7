/-! numbers and stores -/
theorem nL (n : Nat) : (OfNat.ofNat n : Int32) = nI n := rfl
theorem sI_at (σ : SS) (a k : Nat) (v : Int32) (b j : Nat) : (sI σ a k v).1 b j = if b = a ∧ j = k then v else σ.1 b j := by
  unfold sI u2 upd
  by_cases h : b = a
  · subst h
    by_cases h2 : j = k <;> simp [h2]
  · simp [h]
theorem sI_2 (σ : SS) (a k : Nat) (v : Int32) : (sI σ a k v).2 = σ.2 := rfl
theorem sA_at (σ : SS) (a : Nat) (f : Nat → Int32) (b j : Nat) : (sA σ a f).1 b j = if b = a then f j else σ.1 b j := by
  unfold sA
  by_cases h : b = a <;> simp [h]
theorem ri {P : Int32 → SS → Prop} {x : Int32} {σ : SS} (h : P x σ) : Ri P (some (.int x)) σ := ⟨x, rfl, h⟩
theorem rl {P : Int64 → SS → Prop} {x : Int64} {σ : SS} (h : P x σ) : Rl P (some (.long x)) σ := ⟨x, rfl, h⟩
theorem rv {P : SS → Prop} {σ : SS} (h : P σ) : Rv P none σ := ⟨rfl, h⟩
/-- a truth as the machine's int -/
def bI (b : Bool) : Int32 := if b then 1 else 0
theorem bI_t : bI true = 1 := rfl
theorem bI_f : bI false = 0 := rfl
theorem bI_0 (b : Bool) : bI b = 0 ↔ b = false := by cases b <;> decide
theorem bI_n (b : Bool) : narrow .boolean (.int (bI b)) = .int (bI b) := by cases b <;> rfl
