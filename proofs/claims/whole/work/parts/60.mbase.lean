/-! the model: its rows, its plan -/
/-- which rows, and which fields of the model, may have changed -/
def DM (S F : List Nat) (σ τ : SS) : Prop := (∀ b, b ∉ S → b ≠ 284 → τ.1 b = σ.1 b) ∧ (∀ k, k ∉ F → τ.1 284 k = σ.1 284 k) ∧ τ.2 = σ.2
theorem DM.rf {S F : List Nat} {σ : SS} : DM S F σ σ := ⟨fun _ _ _ => rfl, fun _ _ => rfl, rfl⟩
theorem DM.wI {S F : List Nat} {σ τ : SS} {b k : Nat} {v : Int32} (h : DM S F σ τ) (hb : b ∈ S) (h4 : b ≠ 284) : DM S F σ (sI τ b k v) :=
  ⟨fun c hc c4 => by
    have hcb : c ≠ b := fun e => hc (by rw [e]; exact hb)
    rw [sI_row, sA_off2 τ _ hcb]
    exact h.1 c hc c4, fun j hj => by
    rw [sI_row, sA_off2 τ _ (Ne.symm h4)]
    exact h.2.1 j hj, h.2.2⟩
theorem DM.wF {S F : List Nat} {σ τ : SS} {k : Nat} {v : Int32} (h : DM S F σ τ) (hk : k ∈ F) : DM S F σ (sI τ 284 k v) :=
  ⟨fun c hc c4 => by
    rw [sI_row, sA_off2 τ _ c4]
    exact h.1 c hc c4, fun j hj => by
    rw [sI_at, if_neg (fun z => hj (by rw [z.2]; exact hk))]
    exact h.2.1 j hj, h.2.2⟩
theorem DM.tr {S F S' F' : List Nat} {σ τ υ : SS} (h : DM S F σ τ) (g : DM S' F' τ υ) (hS : ∀ b, b ∈ S' → b ∈ S) (hF : ∀ b, b ∈ F' → b ∈ F) : DM S F σ υ :=
  ⟨fun b hb h4 => (g.1 b (fun z => hb (hS b z)) h4).trans (h.1 b hb h4), fun k hk => (g.2.1 k (fun z => hk (hF k z))).trans (h.2.1 k hk), g.2.2.trans h.2.2⟩
theorem DM.mo {S F S' F' : List Nat} {σ τ : SS} (h : DM S F σ τ) (hS : ∀ b, b ∈ S → b ∈ S') (hF : ∀ b, b ∈ F → b ∈ F') : DM S' F' σ τ :=
  ⟨fun b hb h4 => h.1 b (fun z => hb (hS b z)) h4, fun k hk => h.2.1 k (fun z => hk (hF k z)), h.2.2⟩
theorem DM.r {S F : List Nat} {σ τ : SS} (h : DM S F σ τ) (b : Nat) (hb : b ∉ S) (h4 : b ≠ 284) : τ.1 b = σ.1 b := h.1 b hb h4
/-- a law as the model keeps it -/
def MEx (σ : SS) (f : Nat) (e : Ex) : Prop := ∀ j (h : j < e.length), σ.1 316 (f + j) = nI e[j].1 ∧ σ.1 317 (f + j) = e[j].2
/-- branches from b on; c: where the codes of the next stand -/
def MBr (σ : SS) (b : Nat) : LawV → Prop
  | [] => True
  | (none, t) :: bs => bs = [] ∧ σ.1 311 b = 0 ∧ ∃ c, c + t.length ≤ 840 ∧ σ.1 314 b = nI c ∧ σ.1 315 b = nI (c + t.length) ∧ MEx σ c t
  | (some (e1, e2), t) :: bs => σ.1 311 b = 1 ∧ (∃ c, c + e1.length + e2.length + t.length ≤ 840 ∧ σ.1 312 b = nI c ∧ σ.1 313 b = nI (c + e1.length) ∧ σ.1 314 b = nI (c + e1.length + e2.length) ∧ σ.1 315 b = nI (c + e1.length + e2.length + t.length) ∧ MEx σ c e1 ∧ MEx σ (c + e1.length) e2 ∧ MEx σ (c + e1.length + e2.length) t) ∧ MBr σ (b + 1) bs
/-- what stands if no law was told -/
def dfl (k : Nat) : LawV := if k = 0 then [(none, [(1, nI 1)])] else if k = 1 then [(none, [(0, 2)])] else [(none, [(1, nI 8)])]
/-- side s of the branches and of the codes is as it was -/
def SdA (s : Nat) (σ τ : SS) : Prop := (∀ b j, 311 ≤ b → b ≤ 315 → 130 * s ≤ j → j < 130 * s + 130 → τ.1 b j = σ.1 b j) ∧ (∀ b j, 316 ≤ b → b ≤ 317 → 420 * s ≤ j → j < 420 * s + 420 → τ.1 b j = σ.1 b j)
theorem SdA.rf {s : Nat} {σ : SS} : SdA s σ σ := ⟨fun _ _ _ _ _ _ => rfl, fun _ _ _ _ _ _ => rfl⟩
def MLw (σ : SS) (i : Nat) (k : Nat) (V : LawV) : Prop := okL V ∧ ∃ f e, e ≤ 260 ∧ σ.1 309 i = nI f ∧ σ.1 310 i = nI e ∧ ((f = e ∧ V = dfl k) ∨ (e = f + V.length ∧ f < e ∧ ∀ τ, SdA (i / 3) σ τ → MBr τ f V))
def MP (σ : SS) (v : Nat) (P : PV) : Prop := v ≤ 1 ∧ σ.1 284 18 = nI v ∧ σ.1 294 v = nI (pw P) ∧ σ.1 295 v = nI (pr P) ∧ σ.1 297 v = nI (pns P) ∧ σ.1 299 v = nI (pnw P) ∧ σ.1 304 v = nI (pnt P) ∧ σ.1 305 v = nI (phe P) ∧ σ.1 306 v = nI (pro P) ∧ σ.1 307 v = nI (prm P) ∧ σ.1 308 v = nI (psd P) ∧ (∀ x y, x < pw P → y < pr P → σ.1 296 (48 * v + 8 * y + x) = psun P x y) ∧ (∀ s k, s < pns P → k < 9 → σ.1 298 (9 * (4 * v + s) + k) = bI (pcut P s k)) ∧ (∀ w, w < pnw P → σ.1 300 (4 * v + w) = nI (pfr P w) ∧ σ.1 301 (4 * v + w) = nI (pto P w) ∧ σ.1 302 (4 * v + w) = nI (psh P w)) ∧ (∀ w, w < 4 → σ.1 303 (4 * v + w) = nI (ptk P w)) ∧ PVok P
def MG (σ : SS) (v : Nat) (P : PV) : Prop := MP σ v P ∧ MLw σ (3 * v) 0 (plw P 0) ∧ MLw σ (3 * v + 1) 1 (plw P 1) ∧ MLw σ (3 * v + 2) 2 (plw P 2)
/-- a lawn in a row of the model -/
def MR (σ : SS) (a : Nat) (L : LV) : Prop := ∀ k, k < 106 → σ.1 a k = nI (L k)
/-- rows that do not belong to the plan -/
def offM (S : List Nat) : Prop := ∀ b, b ∈ S → b < 284 ∨ b = 285 ∨ b = 286 ∨ 318 ≤ b
theorem MP.dm {S F : List Nat} {σ τ : SS} {v : Nat} {P : PV} (h : MP σ v P) (d : DM S F σ τ) (hS : offM S) (hF : 18 ∉ F) : MP τ v P := by
  have r : ∀ b, 287 ≤ b → b ≤ 317 → τ.1 b = σ.1 b := fun b b1 b2 => d.1 b (fun z => by have := hS b z; omega) (by omega)
  unfold MP
  rw [d.2.1 18 hF, r 294 (by omega) (by omega), r 295 (by omega) (by omega), r 297 (by omega) (by omega), r 299 (by omega) (by omega), r 304 (by omega) (by omega), r 305 (by omega) (by omega), r 306 (by omega) (by omega), r 307 (by omega) (by omega), r 308 (by omega) (by omega), r 296 (by omega) (by omega), r 298 (by omega) (by omega), r 300 (by omega) (by omega), r 301 (by omega) (by omega), r 302 (by omega) (by omega), r 303 (by omega) (by omega)]
  exact h
theorem MBr.cong {σ τ : SS} (r : ∀ b, 311 ≤ b → b ≤ 317 → τ.1 b = σ.1 b) : ∀ (V : LawV) (b : Nat), MBr σ b V → MBr τ b V
  | [], _, _ => trivial
  | (none, t) :: bs, b, h => by
    unfold MBr MEx at h ⊢
    rw [r 311 (by omega) (by omega), r 314 (by omega) (by omega), r 315 (by omega) (by omega), r 316 (by omega) (by omega), r 317 (by omega) (by omega)]
    exact h
  | (some (e1, e2), t) :: bs, b, h => by
    have ih := MBr.cong r bs (b + 1) (by unfold MBr at h; exact h.2.2)
    unfold MBr MEx at h ⊢
    rw [r 311 (by omega) (by omega), r 312 (by omega) (by omega), r 313 (by omega) (by omega), r 314 (by omega) (by omega), r 315 (by omega) (by omega), r 316 (by omega) (by omega), r 317 (by omega) (by omega)]
    exact ⟨h.1, h.2.1, ih⟩
theorem MLw.cong {σ τ : SS} {i k : Nat} {V : LawV} (h : MLw σ i k V) (r : ∀ b, 309 ≤ b → b ≤ 317 → τ.1 b = σ.1 b) : MLw τ i k V := by
  obtain ⟨ok, f, e, h0, h1, h2, h3⟩ := h
  refine ⟨ok, f, e, h0, by rw [r 309 (by omega) (by omega)]; exact h1, by rw [r 310 (by omega) (by omega)]; exact h2, ?_⟩
  rcases h3 with h3 | ⟨h3, h4, h5⟩
  · exact Or.inl h3
  · exact Or.inr ⟨h3, h4, fun υ hu => h5 υ ⟨fun b j b1 b2 j1 j2 => by rw [← r b (by omega) (by omega)]; exact hu.1 b j b1 b2 j1 j2, fun b j b1 b2 j1 j2 => by rw [← r b (by omega) (by omega)]; exact hu.2 b j b1 b2 j1 j2⟩⟩
theorem MG.dm {S F : List Nat} {σ τ : SS} {v : Nat} {P : PV} (h : MG σ v P) (d : DM S F σ τ) (hS : offM S) (hF : 18 ∉ F) : MG τ v P := by
  have r : ∀ b, 309 ≤ b → b ≤ 317 → τ.1 b = σ.1 b := fun b b1 b2 => d.1 b (fun z => by have := hS b z; omega) (by omega)
  exact ⟨h.1.dm d hS hF, h.2.1.cong r, h.2.2.1.cong r, h.2.2.2.cong r⟩
theorem MR.dm {S F : List Nat} {σ τ : SS} {a : Nat} {L : LV} (h : MR σ a L) (d : DM S F σ τ) (ha : a ∉ S) (h4 : a ≠ 284) : MR τ a L := by
  unfold MR
  rw [d.1 a ha h4]
  exact h
section M1
variable {Γ : GE} {l : Launch} {σ : SS} {K : Option Value → SS → Prop} {v : Nat} {P : PV} {L : LV}
theorem m_in0 {x : Int32} {n : Nat} (hn : n < 2 ^ 30) (hK : K (some (.int (bI (decide (¬ x < 0 ∧ x.toNatClampNeg < n))))) σ) : C2 Γ l mX10_in [.int x, .int 0, .int (nI n - 1)] σ K := by
  have key : ¬ x < 0 → ((nI n - 1 < x) ↔ ¬ x.toNatClampNeg < n) := fun h => by
    match n, hn with
    | 0, _ =>
      constructor
      · intro _
        omega
      · intro _
        exact Int32.lt_of_lt_of_le (by decide) (Int32.not_lt.mp h)
    | n + 1, hn =>
      rw [nI_pred, le_nx h (by omega)]
      omega
  refine tX10_in ⟨fun q => ?_, fun q => ?_⟩
  · rw [decide_eq_false (fun z => z.1 q)] at hK
    exact hK
  · rw [key q]
    refine ⟨fun r => ?_, fun r => ?_⟩
    · rw [decide_eq_false (fun z => r z.2)] at hK
      exact hK
    · rw [decide_eq_true ⟨q, Decidable.not_not.mp r⟩] at hK
      exact hK
theorem m_in {x : Int32} {n : Nat} (hn : n < 2 ^ 30) (hK : K (some (.int (bI (vIn x n)))) σ) : C2 Γ l mX10_in [.int x, .int 0, .int (nI n)] σ K := by
  refine tX10_in ⟨fun q => ?_, fun q => ⟨fun r => ?_, fun r => ?_⟩⟩
  · rw [vIn_n q] at hK
    exact hK
  · rw [vIn_f (fun z => absurd (Int32.lt_of_lt_of_le r z) Int32.lt_irrefl) (by omega)] at hK
    exact hK
  · rw [vIn_t q (Int32.not_lt.mp r) (by omega)] at hK
    exact hK
theorem vp2 (hv : v ≤ 1) : vp_in (nI v) 2 := vp_in_nI (by omega) (by omega)
theorem m_isCell {x y : Int32} (h : MP σ v P) (hK : K (some (.int (bI (vC P x y)))) σ) : C2 Γ l mX10_isCell [.ref 284, .int x, .int y] σ K := by
  have pk := h.2.2.2.2.2.2.2.2.2.2.2.2.2.2.2
  obtain ⟨v1, e18, e1, e2, -⟩ := h
  have w8 := pk.1
  have r6 := pk.2.1
  refine tX10_isCell ?_
  rw [e18, nI_clamp (by omega), e1]
  refine ⟨vp2 v1, m_in0 (by omega) (ri ?_)⟩
  rw [bI_0]
  refine ⟨fun q => ?_, fun q => ?_⟩
  · have : vC P x y = false := by
      simp only [decide_eq_false_iff_not] at q
      simp only [vC, decide_eq_false_iff_not]
      exact fun z => q ⟨z.1, z.2.2.1⟩
    rw [this] at hK
    exact hK
  · rw [e18, nI_clamp (by omega), e2]
    refine ⟨vp2 v1, m_in0 (by omega) (ri ?_)⟩
    rw [bI_0]
    simp only [Bool.not_eq_false, decide_eq_true_eq] at q
    refine ⟨fun r => ?_, fun r => ?_⟩
    · have : vC P x y = false := by
        simp only [decide_eq_false_iff_not] at r
        simp only [vC, decide_eq_false_iff_not]
        exact fun z => r ⟨z.2.1, z.2.2.2⟩
      rw [this] at hK
      exact hK
    · have : vC P x y = true := by
        simp only [Bool.not_eq_false, decide_eq_true_eq] at r
        simp only [vC, decide_eq_true_eq]
        exact ⟨q.1, r.1, q.2, r.2⟩
      rw [this] at hK
      exact hK
theorem m_isSign {s : Int32} (h : MP σ v P) (hK : K (some (.int (bI (vSg P s)))) σ) : C2 Γ l mX10_isSign [.ref 284, .int s] σ K := by
  have pk := h.2.2.2.2.2.2.2.2.2.2.2.2.2.2.2
  obtain ⟨v1, e18, e1, e2, e3, e4, -⟩ := h
  have s4 := pk.2.2.1
  refine tX10_isSign ?_
  rw [e18, nI_clamp (by omega), e3]
  exact ⟨vp2 v1, m_in0 (by omega) (ri ⟨bI_n _, hK⟩)⟩
theorem m_isWindow {s : Int32} (h : MP σ v P) (hK : K (some (.int (bI (vWi P s)))) σ) : C2 Γ l mX10_isWindow [.ref 284, .int s] σ K := by
  have pk := h.2.2.2.2.2.2.2.2.2.2.2.2.2.2.2
  obtain ⟨v1, e18, e1, e2, e3, e4, -⟩ := h
  have s4 := pk.2.2.2.1
  refine tX10_isWindow ?_
  rw [e18, nI_clamp (by omega), e4]
  exact ⟨vp2 v1, m_in0 (by omega) (ri ⟨bI_n _, hK⟩)⟩
theorem m_isPlace {x y : Int32} (h : MP σ v P) (hK : K (some (.int (bI (vPl P x y)))) σ) : C2 Γ l mX10_isPlace [.ref 284, .int x, .int y] σ K := by
  have pk := h.2.2.2.2.2.2.2.2.2.2.2.2.2.2.2
  have w8 := pk.1
  have r6 := pk.2.1
  refine tX10_isPlace (m_isCell h (ri ?_))
  rw [bI_0]
  refine ⟨fun q => ?_, fun q => m_isCell h (ri ?_)⟩
  · have : vPl P x y = false := by
      simp only [vC, decide_eq_false_iff_not] at q
      simp only [vPl, decide_eq_false_iff_not]
      exact fun z => q ⟨z.1, z.2.1, by omega, by omega⟩
    rw [this] at hK
    exact hK
  · simp only [Bool.not_eq_false] at q
    obtain ⟨X, Y, rfl, rfl, hX, hY⟩ := vC_nat q
    have e : vC P (nI X + 2) (nI Y + 2) = vPl P (nI X) (nI Y) := by
      rw [show nI X + 2 = nI (X + 2) from nI_add X 2, show nI Y + 2 = nI (Y + 2) from nI_add Y 2, vC, vPl, nI_clamp (by omega), nI_clamp (by omega), nI_clamp (by omega), nI_clamp (by omega)]
      apply decide_eq_decide.mpr
      have n1 := nI_pos (n := X + 2) (by omega)
      have n2 := nI_pos (n := Y + 2) (by omega)
      have n3 := nI_pos (n := X) (by omega)
      have n4 := nI_pos (n := Y) (by omega)
      constructor
      · rintro ⟨-, -, a, b⟩
        exact ⟨n3, n4, a, b⟩
      · rintro ⟨-, -, a, b⟩
        exact ⟨n1, n2, a, b⟩
    rw [bI_0, e]
    refine ⟨fun r => ?_, fun r => ?_⟩
    · rw [r] at hK
      exact hK
    · simp only [Bool.not_eq_false] at r
      rw [r] at hK
      exact hK
theorem m_ix48 {x y : Nat} (h : MP σ v P) : ((48 * σ.1 284 18) + (8 * nI y)) + nI x = nI (48 * v + 8 * y + x) := by
  rw [h.2.1]
  simp (disch := omega) only [nL, nI_add, pk_mul, pk_sub, nI_clamp, nI_leI, nI_ltI, nI_eq]
theorem m_isGrass {x y : Nat} (h : MP σ v P) (hx : x < pw P) (hy : y < pr P) (hK : K (some (.int (bI (grass P x y)))) σ) : C2 Γ l mX10_isGrass [.ref 284, .int (nI x), .int (nI y)] σ K := by
  have pk := h.2.2.2.2.2.2.2.2.2.2.2.2.2.2.2
  have w8 := pk.1
  have r6 := pk.2.1
  have v1 := h.1
  refine tX10_isGrass ?_
  rw [m_ix48 h, nI_clamp (by omega), h.2.2.2.2.2.2.2.2.2.2.2.1 x y hx hy]
  refine ⟨vp_in_nI (by omega) (by omega), fun q => ?_, fun q => ?_⟩
  · rw [grass, decide_eq_false (fun z => z.2.2 q)] at hK
    exact hK
  · rw [grass, decide_eq_true ⟨hx, hy, q⟩] at hK
    exact hK
theorem m_held {x lo hi : Int32} (hlh : lo ≤ hi) (hK : K (some (.int (hldS x lo hi))) σ) : C2 Γ l mX10_held [.int x, .int lo, .int hi] σ K := by
  unfold hldS imx imn at hK
  refine tX10_held ⟨fun q => ⟨fun r => ?_, fun r => ?_⟩, fun q => ?_⟩
  · by_cases e : x < hi
    · rw [if_pos e] at hK
      by_cases e2 : lo < x
      · rw [if_pos e2] at hK
        exact hK
      · rw [if_neg e2, show lo = x from Int32.le_antisymm q (Int32.not_lt.mp e2)] at hK
        exact hK
    · rw [if_neg e] at hK
      have e3 : x = hi := Int32.le_antisymm r (Int32.not_lt.mp e)
      subst e3
      by_cases e2 : lo < x
      · rw [if_pos e2] at hK
        exact hK
      · rw [if_neg e2, show lo = x from Int32.le_antisymm q (Int32.not_lt.mp e2)] at hK
        exact hK
  · have e : ¬ x < hi := fun z => r (Int32.le_of_lt z)
    rw [if_neg e] at hK
    by_cases e2 : lo < hi
    · rw [if_pos e2] at hK
      exact hK
    · rw [if_neg e2, show lo = hi from Int32.le_antisymm hlh (Int32.not_lt.mp e2)] at hK
      exact hK
  · have q2 : x < lo := Int32.not_le.mp q
    by_cases e : x < hi
    · rw [if_pos e, if_neg (fun z => absurd (Int32.lt_trans q2 z) Int32.lt_irrefl)] at hK
      exact hK
    · exact absurd (Int32.lt_of_lt_of_le q2 hlh) e
theorem m_most {a b : Nat} (ha : a < 2 ^ 31) (hb : b < 2 ^ 31) (hK : K (some (.int (nI (max a b)))) σ) : C2 Γ l mX10_most [.int (nI a), .int (nI b)] σ K := by
  refine tX10_most ?_
  rw [nI_leI ha hb]
  refine ⟨fun q => ?_, fun q => ?_⟩
  · rw [Nat.max_eq_right q] at hK
    exact hK
  · rw [Nat.max_eq_left (by omega)] at hK
    exact hK
theorem m_copies (hg : MP σ v P) (hn : MR σ 321 L) (hK : ∀ τ, DM [322] [56] σ τ → MR τ 322 L → τ.1 284 56 = nI (psd P) → K none τ) : C2 Γ l mX10_copies [.ref 284] σ K := by
  have v1 := hg.1
  have key : ∀ m k τ, m + k = 106 → DM [322] [56] σ τ → (∀ j, j < k → τ.1 322 j = nI (L j)) → wX10_copies_2 Γ l (nI k) τ K := by
    intro m
    induction m with
    | zero =>
      intro k τ g1 d f
      have : k = 106 := by omega
      subst this
      have hgt := hg.dm d (fun b hb => by simp at hb; omega) (by simp)
      refine tX10_copies_2 ⟨fun _ => ?_, fun q => absurd (by decide) q⟩
      rw [hgt.2.1, nI_clamp (by omega), hgt.2.2.2.2.2.2.2.2.2.2.1]
      refine ⟨vp2 v1, fun s1 e1 => ?_⟩
      refine hK s1 (by rw [e1]; exact d.wF (by simp)) (fun j hj => ?_) ?_
      · rw [e1, sI_row, sA_off2 _ _ (by omega)]
        exact f j hj
      · rw [e1, sI_at, if_pos ⟨rfl, rfl⟩]
    | succ m ih =>
      intro k τ g1 d f
      have v6 : vp_in (nI k) 106 := vp_in_nI (by omega) (by omega)
      refine tX10_copies_2 ⟨fun q => absurd q (by simp (disch := omega) only [nL, nI_add, pk_mul, pk_sub, nI_clamp, nI_leI, nI_ltI, nI_eq]; omega), fun _ => ⟨v6, v6, fun s2 e2 => ?_⟩⟩
      rw [nI_clamp (by omega), d.r 321 (by simp) (by omega), hn k (by omega)] at e2
      rw [nI_1]
      refine ih (k + 1) s2 (by omega) (by rw [e2]; exact d.wI (by simp) (by omega)) (fun j hj => ?_)
      rw [e2, sI_at]
      by_cases e : j = k
      · rw [if_pos ⟨rfl, e⟩, e]
      · rw [if_neg (fun z => e z.2)]
        exact f j (by omega)
  exact tX10_copies (key 106 0 σ rfl DM.rf (fun j hj => absurd hj (by omega)))
theorem m_keepsRow (hn : MR σ 322 L) (hK : ∀ τ, DM [321] [] σ τ → MR τ 321 L → K none τ) : C2 Γ l mX10_keepsRow [.ref 284] σ K := by
  have key : ∀ m k τ, m + k = 106 → DM [321] [] σ τ → (∀ j, j < k → τ.1 321 j = nI (L j)) → wX10_keepsRow_2 Γ l (nI k) τ K := by
    intro m
    induction m with
    | zero =>
      intro k τ g1 d f
      have : k = 106 := by omega
      subst this
      exact tX10_keepsRow_2 ⟨fun _ => hK τ d f, fun q => absurd (by decide) q⟩
    | succ m ih =>
      intro k τ g1 d f
      have v6 : vp_in (nI k) 106 := vp_in_nI (by omega) (by omega)
      refine tX10_keepsRow_2 ⟨fun q => absurd q (by simp (disch := omega) only [nL, nI_add, pk_mul, pk_sub, nI_clamp, nI_leI, nI_ltI, nI_eq]; omega), fun _ => ⟨v6, v6, fun s2 e2 => ?_⟩⟩
      rw [nI_clamp (by omega), d.r 322 (by simp) (by omega), hn k (by omega)] at e2
      rw [nI_1]
      refine ih (k + 1) s2 (by omega) (by rw [e2]; exact d.wI (by simp) (by omega)) (fun j hj => ?_)
      rw [e2, sI_at]
      by_cases e : j = k
      · rw [if_pos ⟨rfl, e⟩, e]
      · rw [if_neg (fun z => e z.2)]
        exact f j (by omega)
  exact tX10_keepsRow (key 106 0 σ rfl DM.rf (fun j hj => absurd hj (by omega)))
theorem m_mixed {x y : Int32} (hK : K (some (.int (mixS x y))) σ) : C2 Γ l mX10_mixed [.int x, .int y] σ K := tX10_mixed hK
theorem m_wetNow {seed : Int32} (hg : MP σ v P) (hr : MR σ 322 L) (hs : σ.1 284 56 = seed) (hK : K (some (.int (wetS P seed (nI (L 104))))) σ) : C2 Γ l mX10_wetNow [.ref 284] σ K := by
  have v1 := hg.1
  unfold wetS hlfS at hK
  have e104 : Int32.toNatClampNeg 104 = 104 := rfl
  refine tX10_wetNow (m_mixed (ri ⟨by exact vp_in_nI (n := 104) (by omega) (by omega), ?_⟩))
  rw [e104, hr 104 (by omega), hs]
  refine m_mixed (ri (fun v5 e5 => ?_))
  subst e5
  rw [hg.2.1, nI_clamp (by omega), hg.2.2.2.2.2.2.2.2.1, hg.2.2.2.2.2.2.2.2.2.1]
  refine ⟨vp2 v1, fun q => ?_, fun q => ⟨vp2 v1, ?_⟩⟩
  · rw [if_pos q] at hK
    exact hK
  · rw [if_neg q] at hK
    exact hK
end M1
