/-! what the two programs speak of: a plan, a lawn -/
/-- numbers and rows of numbers by their field, suns, laws; an expression is a list of (sort, value): 0 an int, 1 a variable, 2 + 3 - 4 * 5 / -/
abbrev Ex : Type := List (Nat × Int32)
abbrev LawV : Type := List (Option (Ex × Ex) × Ex)
abbrev PV : Type := (Nat → Nat → Nat) × (Nat → Nat → Int32) × (Nat → LawV)
/-- a lawn: 0 .. 47 heights, 48 .. 95 food, 96 .. 99 how often cut, 100 .. 103 what is known, 104 the week, 105 what was paid -/
abbrev LV : Type := Nat → Nat
def pw (P : PV) : Nat := P.1 0 0
def pr (P : PV) : Nat := P.1 1 0
def pns (P : PV) : Nat := P.1 2 0
def pnw (P : PV) : Nat := P.1 3 0
def pnt (P : PV) : Nat := P.1 4 0
def phe (P : PV) : Nat := P.1 5 0
def pro (P : PV) : Nat := P.1 6 0
def prm (P : PV) : Nat := P.1 7 0
def psd (P : PV) : Nat := P.1 8 0
def pfr (P : PV) (w : Nat) : Nat := P.1 9 w
def pto (P : PV) (w : Nat) : Nat := P.1 10 w
def psh (P : PV) (w : Nat) : Nat := P.1 11 w
def ptk (P : PV) (w : Nat) : Nat := P.1 12 w
def psg (P : PV) (s : Nat) : Nat := P.1 13 s
def psun (P : PV) (x y : Nat) : Int32 := P.2.1 x y
def plw (P : PV) (k : Nat) : LawV := P.2.2 k
def pcut (P : PV) (s k : Nat) : Bool := decide (psg P s / 2 ^ k % 2 = 1)
def grass (P : PV) (x y : Nat) : Bool := decide (x < pw P ∧ y < pr P ∧ ¬ psun P x y < 0)
def PVok (P : PV) : Prop := pw P ≤ 8 ∧ pr P ≤ 6 ∧ pns P ≤ 4 ∧ pnw P ≤ 4 ∧ pnt P ≤ 6 ∧ phe P ≤ 99 ∧ pro P ≤ 100 ∧ prm P ≤ 9 ∧ psd P ≤ 9999 ∧ (∀ w, w < pnw P → pfr P w ≤ 7 ∧ pto P w ≤ 7 ∧ psh P w ≤ 99) ∧ (∀ w, w < 4 → ptk P w < 16) ∧ (∀ s, s < pns P → psg P s < 512)
/-- the cell of the class's row that stands for a cell of the lawn -/
def inb (i : Nat) : Bool := decide (10 ≤ i ∧ i < 70 ∧ i % 10 ≠ 0 ∧ i % 10 ≠ 9)
def kOf (i : Nat) : Nat := 8 * (i / 10 - 1) + (i % 10 - 1)
def cH (L : LV) (i : Nat) : Nat := if inb i then L (kOf i) else 0
def cF (L : LV) (i : Nat) : Nat := if inb i then L (48 + kOf i) else 0
def cSu (P : PV) (i : Nat) : Int32 := if inb i ∧ i % 10 - 1 < pw P ∧ i / 10 - 1 < pr P then psun P (i % 10 - 1) (i / 10 - 1) else -2
def LVok (P : PV) (L : LV) : Prop := (∀ k, k < 48 → L k ≤ 99 ∧ L (48 + k) ≤ 99) ∧ (∀ x y, x < 8 → y < 6 → grass P x y = false → L (8 * y + x) = 0 ∧ L (48 + (8 * y + x)) = 0) ∧ (∀ w, w < 4 → L (100 + w) < 16) ∧ L 104 < 1000000
/-- a lawn of the class -/
def XL (σ : SS) (a : Nat) (L : LV) : Prop := isL a ∧ (∀ i, i < 80 → σ.1 (a + 1) i = nI (cH L i)) ∧ (∀ i, i < 80 → σ.1 (a + 2) i = nI (cF L i)) ∧ (∀ w, w < 4 → σ.1 (a + 3) w = nI (L (100 + w))) ∧ (∀ s, s < 4 → σ.1 (a + 4) s = nI (L (96 + s))) ∧ σ.1 a 4 = nI (L 104) ∧ σ.1 a 5 = nI (L 105)
/-- a plan of the class, but for its laws -/
def XP (σ : SS) (p : Nat) (P : PV) : Prop := isP p ∧ σ.1 p 11 = nI (pw P) ∧ σ.1 p 12 = nI (pr P) ∧ σ.1 p 13 = nI (pns P) ∧ σ.1 p 14 = nI (pnw P) ∧ σ.1 p 15 = nI (pnt P) ∧ σ.1 p 16 = nI (phe P) ∧ σ.1 p 17 = nI (pro P) ∧ σ.1 p 18 = nI (prm P) ∧ σ.1 p 19 = nI (psd P) ∧ (∀ i, i < 80 → σ.1 (p + 1) i = cSu P i) ∧ (∀ s, s < pns P → σ.1 (p + 3) s = nI (psg P s)) ∧ (∀ w, w < pnw P → σ.1 (p + 5) w = nI (pfr P w) ∧ σ.1 (p + 6) w = nI (pto P w) ∧ σ.1 (p + 7) w = nI (psh P w)) ∧ (∀ w, w < 4 → σ.1 (p + 8) w = nI (ptk P w))
/-- the gardener's plan -/
def XG (σ : SS) (p : Nat) (P : PV) : Prop := σ.2.2 46 3 = p ∧ XP σ p P ∧ PVok P
theorem cH_at (L : LV) {x y : Nat} (hx : x < 8) (hy : y < 6) : cH L ((y + 1) * 10 + x + 1) = L (8 * y + x) := by
  have h1 : inb ((y + 1) * 10 + x + 1) = true := by simp only [inb, decide_eq_true_eq]; omega
  have h2 : kOf ((y + 1) * 10 + x + 1) = 8 * y + x := by unfold kOf; omega
  simp only [cH, h1, h2, if_true]
theorem cF_at (L : LV) {x y : Nat} (hx : x < 8) (hy : y < 6) : cF L ((y + 1) * 10 + x + 1) = L (48 + (8 * y + x)) := by
  have h1 : inb ((y + 1) * 10 + x + 1) = true := by simp only [inb, decide_eq_true_eq]; omega
  have h2 : kOf ((y + 1) * 10 + x + 1) = 8 * y + x := by unfold kOf; omega
  simp only [cF, h1, h2, if_true]
theorem cSu_at (P : PV) {x y : Nat} (hx : x < pw P) (hy : y < pr P) (ok : PVok P) : cSu P ((y + 1) * 10 + x + 1) = psun P x y := by
  have w8 := ok.1
  have r6 := ok.2.1
  have h1 : inb ((y + 1) * 10 + x + 1) = true := by simp only [inb, decide_eq_true_eq]; omega
  have h2 : ((y + 1) * 10 + x + 1) % 10 - 1 = x := by omega
  have h3 : ((y + 1) * 10 + x + 1) / 10 - 1 = y := by omega
  simp only [cSu, h1, h2, h3, hx, hy, true_and, if_true]
theorem sh31 : ∀ k, k < 32 → ((nI k &&& 31).toBitVec.smod 32).toNat = k := by decide
theorem bit_at {n k : Nat} (hn : n < 512) (hk : k < 9) : (nI n >>> (nI k &&& 31)) &&& 1 = nI (n / 2 ^ k % 2) := by
  rw [pk_shrN (by omega) (nI k &&& 31) k (sh31 k (by omega))]
  exact pk_andN (Nat.lt_of_le_of_lt (Nat.div_le_self _ _) (by omega)) 1 (by decide)
theorem imn_n {a b : Nat} (ha : a < 2 ^ 31) (hb : b < 2 ^ 31) : imn (nI a) (nI b) = nI (min a b) := by
  unfold imn
  rw [Nat.min_def]
  by_cases h : nI b < nI a
  · rw [if_pos h, if_neg (by have := (nI_ltI hb ha).mp h; omega)]
  · rw [if_neg h, if_pos (by have : ¬ b < a := fun q => h ((nI_ltI hb ha).mpr q); omega)]
theorem imx_n {a b : Nat} (ha : a < 2 ^ 31) (hb : b < 2 ^ 31) : imx (nI a) (nI b) = nI (max a b) := by
  unfold imx
  rw [Nat.max_def]
  by_cases h : nI a < nI b
  · rw [if_pos h, if_pos (by have := (nI_ltI ha hb).mp h; omega)]
  · rw [if_neg h]
    by_cases h2 : a ≤ b
    · rw [if_pos h2]
      have h3 : ¬ a < b := fun q => h ((nI_ltI ha hb).mpr q)
      rw [show a = b by omega]
    · rw [if_neg h2]
theorem div3 {k : Nat} (h : k < 2 ^ 31) : nI k / 3 = nI (k / 3) := pk_div (d := 3) h (by decide) (by decide)
theorem rem3 {k : Nat} (h : k < 2 ^ 31) : nI k - nI k / 3 * 3 = nI (k % 3) := pk_rem (d := 3) h (by decide) (by decide)
/-- the cells (x, y) of rows y .. R - 1, each from 0 to W - 1; of a row from x on -/
def rowL (W y x : Nat) : List (Nat × Nat) := (List.range' x (W - x)).map (fun x => (x, y))
def remL (W R y : Nat) : List (Nat × Nat) := (List.range' y (R - y)).flatMap (fun y => rowL W y 0)
theorem rowL_nil {W y x : Nat} (h : W ≤ x) : rowL W y x = [] := by
  unfold rowL
  rw [show W - x = 0 by omega]
  rfl
theorem rowL_cons {W y x : Nat} (h : x < W) : rowL W y x = (x, y) :: rowL W y (x + 1) := by
  unfold rowL
  rw [show W - x = (W - (x + 1)) + 1 by omega, List.range'_succ]
  rfl
theorem remL_nil {W R y : Nat} (h : R ≤ y) : remL W R y = [] := by
  unfold remL
  rw [show R - y = 0 by omega]
  rfl
theorem remL_cons {W R y : Nat} (h : y < R) : remL W R y = rowL W y 0 ++ remL W R (y + 1) := by
  unfold remL
  rw [show R - y = (R - (y + 1)) + 1 by omega, List.range'_succ]
  rfl
/-- the places of signs, the cells, in their order -/
def plcs (P : PV) : List (Nat × Nat) := remL (pw P - 2) (pr P - 2) 0
def clls (P : PV) : List (Nat × Nat) := remL (pw P) (pr P) 0
