/-! the class: all, count, tell, forget, feed, back -/
def sm (g : Nat → Nat) : Nat → Nat
  | 0 => 0
  | n + 1 => sm g n + g n
theorem sm_split (f : Nat → Nat) (m : Nat) : ∀ n, sm f (m + n) = sm f m + sm (fun k => f (m + k)) n
  | 0 => rfl
  | n + 1 => by
    have := sm_split f m n
    show sm f (m + n) + f (m + n) = sm f m + (sm (fun k => f (m + k)) n + f (m + n))
    rw [this]
    omega
theorem sm_zero {f : Nat → Nat} : ∀ n, (∀ k, k < n → f k = 0) → sm f n = 0
  | 0, _ => rfl
  | n + 1, h => by
    unfold sm
    rw [sm_zero n (fun k hk => h k (by omega)), h n (by omega)]
theorem sm_rows (F : Nat → Nat) (G : Nat → Nat) (hF : ∀ i, i < 80 → F i = if inb i then G (kOf i) else 0) : sm F 80 = sm G 48 := by
  have key : ∀ y, y ≤ 6 → sm F (10 * (y + 1)) = sm G (8 * y) := by
    intro y
    induction y with
    | zero =>
      intro _
      refine sm_zero 10 (fun k hk => ?_)
      rw [hF k (by omega), if_neg (by simp [inb]; omega)]
    | succ y ih =>
      intro hy
      rw [show 10 * (y + 1 + 1) = 10 * (y + 1) + 10 by omega, sm_split, ih (by omega), show 8 * (y + 1) = 8 * y + 8 by omega, sm_split]
      congr 1
      have e : ∀ x, x < 8 → F (10 * (y + 1) + (x + 1)) = G (8 * y + x) := fun x hx => by
        rw [hF _ (by omega), if_pos (by simp [inb]; omega), show kOf (10 * (y + 1) + (x + 1)) = 8 * y + x by unfold kOf; omega]
      have e0 : F (10 * (y + 1) + 0) = 0 := by rw [hF _ (by omega), if_neg (by simp [inb])]
      have e9 : F (10 * (y + 1) + 9) = 0 := by rw [hF _ (by omega), if_neg (by simp [inb])]
      simp only [sm, e0, e9, e 0 (by omega), e 1 (by omega), e 2 (by omega), e 3 (by omega), e 4 (by omega), e 5 (by omega), e 6 (by omega), e 7 (by omega)]
      simp
  rw [show 80 = 70 + 10 from rfl, sm_split, key 6 (by omega), sm_zero 10 (fun k hk => by rw [hF _ (by omega), if_neg (by simp [inb]; omega)])]
  rfl
def tlF (M : LV) : List (Nat × Nat) → Int32 × Int32 → Int32 × Int32
  | [], b => b
  | q :: r, b => if nI (M (8 * q.2 + q.1)) ≤ b.1 then tlF M r b else tlF M r (nI (M (8 * q.2 + q.1)), nI (10 * q.2 + q.1))
def allS (P : PV) (M : LV) (w h : Int32) : Int32 := if w = 2 then nI (sm M 48) else if w = 3 then nI (cn (fun k => grass P (k % 8) (k / 8) && decide (h.toNatClampNeg ≤ M k)) 48) else if w = 1 then (tlF M (clls P) (-2, -2)).2 else (tlF M (clls P) (-2, -2)).1
def aAll (P : PV) (L : LV) (n w h : Int32) : Int32 := if vIn n 60 && vIn w 3 && (decide (¬ w = 3) || vIn h 99) then allS P (gwN P (nI (psd P)) n.toNatClampNeg L) w h else -1
def slN (O : Nat → Option LV) : Nat → Nat := cn (fun s => (O s).isSome)
def aCount (T : List Nat) (P : PV) (L : LV) (H : List LV) (O : Nat → Option LV) (D : List (Nat × Nat × Nat)) (w : Int32) : Int32 :=
  if w = 0 then nI (pw P) else if w = 1 then nI (pr P) else if w = 2 then nI (pns P) else if w = 3 then nI (pnw P) else if w = 4 then nI (L 104) else if w = 5 then nI (L 105) else if w = 6 then nI (L 96 + L 97 + L 98 + L 99) else if w = 7 then wetS P (nI (psd P)) (nI (L 104)) else if w = 8 then nI T.length else if w = 9 then nI H.length else if w = 10 then nI D.length else if w = 11 then nI (slN O 3) else if w = 12 then nI (cn (fun k => grass P (k % 8) (k / 8)) 48) else if w = 13 then nI (pnt P) else -1
theorem cSu_gr {P : PV} (ok : PVok P) {i : Nat} (hi : i < 80) : (cSu P i < 0) = ¬ (if inb i then grass P (kOf i % 8) (kOf i / 8) else false) = true := by
  have w8 := ok.1
  have r6 := ok.2.1
  unfold cSu
  by_cases hb : inb i = true
  · simp only [inb, decide_eq_true_eq] at hb
    have e1 : kOf i % 8 = i % 10 - 1 := by unfold kOf; omega
    have e2 : kOf i / 8 = i / 10 - 1 := by unfold kOf; omega
    have hb' : inb i = true := by simp only [inb, decide_eq_true_eq]; omega
    simp only [hb', true_and, if_true, e1, e2, grass]
    by_cases hin : i % 10 - 1 < pw P ∧ i / 10 - 1 < pr P
    · rw [if_pos hin]
      simp [hin]
    · rw [if_neg hin]
      have : ¬ (i % 10 - 1 < pw P ∧ i / 10 - 1 < pr P ∧ ¬ psun P (i % 10 - 1) (i / 10 - 1) < 0) := fun z => hin ⟨z.1, z.2.1⟩
      simp only [this, decide_false, Bool.false_eq_true, not_false_eq_true, eq_iff_iff, iff_true]
      decide
  · simp [hb]
section Q5
variable {Γ : GE} {l : Launch} {σ : SS} {K : Option Value → SS → Prop} {T : List Nat} {f : Int32} {P : PV} {L : LV} {H : List LV} {O : Nat → Option LV} {D : List (Nat × Nat × Nat)} {W : Nat} {p a : Nat}
theorem c_grassCells_k (hg : XP σ p P) (pk : PVok P) (hK : K (some (.int (nI (cn (fun i => if inb i then grass P (kOf i % 8) (kOf i / 8) else false) 80)))) σ) :
    ∀ m i, m + i = 80 → wX6_grassCells_4 Γ l p (nI (cn (fun i => if inb i then grass P (kOf i % 8) (kOf i / 8) else false) i)) (nI i) σ K := by
  intro m
  induction m with
  | zero =>
    intro i g1
    have : i = 80 := by omega
    subst this
    exact tX6_grassCells_4 hg.1 ⟨fun _ => hK, fun q => absurd (by decide) q⟩
  | succ m ih =>
    intro i g1
    have ih := ih (i + 1) (by omega)
    refine tX6_grassCells_4 hg.1 ⟨fun q => absurd q (by simp (disch := omega) only [nL, nI_add, pk_mul, pk_sub, nI_clamp, nI_leI, nI_ltI, nI_eq]; omega), fun _ => ⟨vp_in_nI (by omega) (by omega), ?_⟩⟩
    rw [nI_clamp (by omega), hg.2.2.2.2.2.2.2.2.2.2.1 i (by omega), cSu_gr pk (by omega), nI_1, nI_1]
    refine ⟨fun q => ?_, fun q => ?_⟩
    · rw [cn, if_neg q] at ih
      exact ih
    · rw [cn, if_pos (Decidable.not_not.mp q)] at ih
      exact ih
theorem c_grassCells (hg : XP σ p P) (pk : PVok P) (hK : K (some (.int (nI (cn (fun k => grass P (k % 8) (k / 8)) 48)))) σ) : C2 Γ l mX6_grassCells [.ref p] σ K := by
  refine tX6_grassCells hg.1 (c_grassCells_k hg pk ?_ 80 0 rfl)
  rw [cn_rows _ (fun k => grass P (k % 8) (k / 8)) (fun i _ => rfl)]
  exact hK
theorem c_allCuts (hl : XL σ a L) (hK : K (some (.int (nI (L 96 + L 97 + L 98 + L 99)))) σ) : C2 Γ l mX4_allCuts [.ref a] σ K := by
  refine tX4_allCuts hl.1 (tX4_allCuts_4 hl.1 ⟨fun q => absurd q (by decide), fun _ => ⟨by exact vp_in_nI (n := 0) (by omega) (by omega), ?_⟩⟩)
  refine tX4_allCuts_4 hl.1 ⟨fun q => absurd q (by decide), fun _ => ⟨by exact vp_in_nI (n := 1) (by omega) (by omega), ?_⟩⟩
  refine tX4_allCuts_4 hl.1 ⟨fun q => absurd q (by decide), fun _ => ⟨by exact vp_in_nI (n := 2) (by omega) (by omega), ?_⟩⟩
  refine tX4_allCuts_4 hl.1 ⟨fun q => absurd q (by decide), fun _ => ⟨by exact vp_in_nI (n := 3) (by omega) (by omega), ?_⟩⟩
  refine tX4_allCuts_4 hl.1 ⟨fun q => ?_, fun q => absurd (by decide) q⟩
  have e0 : Int32.toNatClampNeg 0 = 0 := rfl
  have e1 : Int32.toNatClampNeg (0 + 1) = 1 := rfl
  have e2 : Int32.toNatClampNeg (0 + 1 + 1) = 2 := rfl
  have e3 : Int32.toNatClampNeg (0 + 1 + 1 + 1) = 3 := rfl
  rw [e0, e1, e2, e3, hl.2.2.2.2.1 0 (by omega), hl.2.2.2.2.1 1 (by omega), hl.2.2.2.2.1 2 (by omega), hl.2.2.2.2.1 3 (by omega), Int32.zero_add, nI_add, nI_add, nI_add]
  exact hK
theorem c_slotsHeld (h : XPa σ H O) (hK : K (some (.int (nI (slN O 3)))) σ) : C2 Γ l mX5_slotsHeld [.ref 50] σ K := by
  have key : ∀ m i, m + i = 3 → wX5_slotsHeld_4 Γ l (nI (slN O i)) (nI i) σ K := by
    intro m
    induction m with
    | zero =>
      intro i g1
      have : i = 3 := by omega
      subst this
      exact tX5_slotsHeld_4 ⟨fun _ => hK, fun q => absurd (by decide) q⟩
    | succ m ih =>
      intro i g1
      have ih := ih (i + 1) (by omega)
      refine tX5_slotsHeld_4 ⟨fun q => absurd q (by simp (disch := omega) only [nL, nI_add, pk_mul, pk_sub, nI_clamp, nI_leI, nI_ltI, nI_eq]; omega), fun _ => ⟨vp_in_nI (by omega) (by omega), ?_⟩⟩
      rw [nI_clamp (by omega), (h.2.2.2 i (by omega)).1, bI_0, nI_1, nI_1]
      refine ⟨fun q => ?_, fun q => ?_⟩
      · rw [slN, cn, if_neg (by simp [q])] at ih
        exact ih
      · rw [slN, cn, if_pos (by simp only [Bool.not_eq_false] at q; exact q)] at ih
        exact ih
  exact tX5_slotsHeld (key 3 0 rfl)
theorem q_count {w : Int32} (h : XS σ T f P L H O D) (hK : K (some (.int (aCount T P L H O D w))) σ) : C2 Γ l mX9_count [.ref 0, .int w] σ K := by
  obtain ⟨p, ⟨h1, -⟩, h2, h3, h4, h5, h6, h7, h8⟩ := h
  have pk := h2.1.2.2
  have hp := h2.1.2.1.1
  obtain ⟨x0, x1, x2, x3, x4, x5, x6, x7, x8, x9, -⟩ := h2.1.2.1
  have h5' := h5
  obtain ⟨-, -, ⟨nx, n1, n2, n3, n4, n5⟩, -⟩ := h5
  refine tX9_count ⟨fun e => ⟨p, h1, hp, ?_⟩, fun e => ⟨p, h1, hp, ?_⟩, fun e => ⟨p, h1, hp, ?_⟩, fun e => ⟨p, h1, hp, ?_⟩, fun e => ?_, fun e => ?_, fun e => ?_, fun e => ⟨p, h1, hp, ?_⟩, fun e => ?_, fun e => ?_, fun e => ?_, fun e => ?_, fun e => ⟨p, h1, hp, ?_⟩, fun e => ⟨p, h1, hp, ?_⟩, fun e0 e1 e2 e3 e4 e5 e6 e7 e8 e9 e10 e11 e12 e13 => ?_⟩
  · subst e; rw [aCount, if_pos rfl] at hK; rw [x1]; exact hK
  · subst e; rw [aCount, if_neg (by decide), if_pos rfl] at hK; rw [x2]; exact hK
  · subst e; rw [aCount, if_neg (by decide), if_neg (by decide), if_pos rfl] at hK; rw [x3]; exact hK
  · subst e; rw [aCount, if_neg (by decide), if_neg (by decide), if_neg (by decide), if_pos rfl] at hK; rw [x4]; exact hK
  · subst e; rw [aCount, if_neg (by decide), if_neg (by decide), if_neg (by decide), if_neg (by decide), if_pos rfl] at hK; rw [h3.2.2.2.2.2.1]; exact hK
  · subst e; rw [aCount, if_neg (by decide), if_neg (by decide), if_neg (by decide), if_neg (by decide), if_neg (by decide), if_pos rfl] at hK; rw [h3.2.2.2.2.2.2]; exact hK
  · subst e; rw [aCount, if_neg (by decide), if_neg (by decide), if_neg (by decide), if_neg (by decide), if_neg (by decide), if_neg (by decide), if_pos rfl] at hK; exact c_allCuts h3 (ri hK)
  · subst e; rw [aCount, if_neg (by decide), if_neg (by decide), if_neg (by decide), if_neg (by decide), if_neg (by decide), if_neg (by decide), if_neg (by decide), if_pos rfl] at hK; rw [h3.2.2.2.2.2.1, x9]; exact c_rainIn h2.1 (ri hK)
  · subst e; rw [aCount, if_neg (by decide), if_neg (by decide), if_neg (by decide), if_neg (by decide), if_neg (by decide), if_neg (by decide), if_neg (by decide), if_neg (by decide), if_pos rfl] at hK; rw [h4.2.1]; exact hK
  · subst e; rw [aCount, if_neg (by decide), if_neg (by decide), if_neg (by decide), if_neg (by decide), if_neg (by decide), if_neg (by decide), if_neg (by decide), if_neg (by decide), if_neg (by decide), if_pos rfl] at hK; rw [n4]; exact hK
  · subst e; rw [aCount, if_neg (by decide), if_neg (by decide), if_neg (by decide), if_neg (by decide), if_neg (by decide), if_neg (by decide), if_neg (by decide), if_neg (by decide), if_neg (by decide), if_neg (by decide), if_pos rfl] at hK; rw [h6.2.1]; exact hK
  · subst e; rw [aCount, if_neg (by decide), if_neg (by decide), if_neg (by decide), if_neg (by decide), if_neg (by decide), if_neg (by decide), if_neg (by decide), if_neg (by decide), if_neg (by decide), if_neg (by decide), if_neg (by decide), if_pos rfl] at hK; exact c_slotsHeld h5' (ri hK)
  · subst e; rw [aCount, if_neg (by decide), if_neg (by decide), if_neg (by decide), if_neg (by decide), if_neg (by decide), if_neg (by decide), if_neg (by decide), if_neg (by decide), if_neg (by decide), if_neg (by decide), if_neg (by decide), if_neg (by decide), if_pos rfl] at hK; exact c_grassCells h2.1.2.1 pk (ri hK)
  · subst e; rw [aCount, if_neg (by decide), if_neg (by decide), if_neg (by decide), if_neg (by decide), if_neg (by decide), if_neg (by decide), if_neg (by decide), if_neg (by decide), if_neg (by decide), if_neg (by decide), if_neg (by decide), if_neg (by decide), if_neg (by decide), if_pos rfl] at hK; rw [x5]; exact hK
  · unfold aCount at hK
    rw [if_neg e0, if_neg e1, if_neg e2, if_neg e3, if_neg e4, if_neg e5, if_neg e6, if_neg e7, if_neg e8, if_neg e9, if_neg e10, if_neg e11, if_neg e12, if_neg e13] at hK
    exact hK
theorem c_allHeights (hl : XL σ 274 L) (hK : K (some (.int (nI (sm L 48)))) σ) : C2 Γ l mX9_allHeights [.ref 0] σ K := by
  have key : ∀ m i, m + i = 80 → wX9_allHeights_4 Γ l (nI (sm (cH L) i)) (nI i) σ K := by
    intro m
    induction m with
    | zero =>
      intro i g1
      have : i = 80 := by omega
      subst this
      rw [sm_rows (cH L) L (fun i _ => rfl)]
      exact tX9_allHeights_4 ⟨fun _ => hK, fun q => absurd (by decide) q⟩
    | succ m ih =>
      intro i g1
      have ih := ih (i + 1) (by omega)
      refine tX9_allHeights_4 ⟨fun q => absurd q (by simp (disch := omega) only [nL, nI_add, pk_mul, pk_sub, nI_clamp, nI_leI, nI_ltI, nI_eq]; omega), fun _ => ⟨vp_in_nI (by omega) (by omega), ?_⟩⟩
      rw [nI_clamp (by omega), hl.2.1 i (by omega), nI_1, nI_add]
      exact ih
  exact tX9_allHeights (key 80 0 rfl)
theorem c_soHigh {h : Nat} (h1 : σ.2.2 0 8 = p) (hg : XP σ p P) (pk : PVok P) (hl : XL σ 274 L) (ok : LVok P L) (hh : h ≤ 99) (hK : K (some (.int (nI (cn (fun k => grass P (k % 8) (k / 8) && decide (h ≤ L k)) 48)))) σ) : C2 Γ l mX9_soHigh [.ref 0, .int (nI h)] σ K := by
  have key : ∀ m i, m + i = 80 → wX9_soHigh_4 Γ l (nI h) (nI (cn (fun i => if inb i then grass P (kOf i % 8) (kOf i / 8) && decide (h ≤ L (kOf i)) else false) i)) (nI i) σ K := by
    intro m
    induction m with
    | zero =>
      intro i g1
      have : i = 80 := by omega
      subst this
      rw [cn_rows _ (fun k => grass P (k % 8) (k / 8) && decide (h ≤ L k)) (fun i _ => rfl)]
      exact tX9_soHigh_4 ⟨fun _ => hK, fun q => absurd (by decide) q⟩
    | succ m ih =>
      intro i g1
      have ih := ih (i + 1) (by omega)
      have hc := cH_le ok i (by omega)
      refine tX9_soHigh_4 ⟨fun q => absurd q (by simp (disch := omega) only [nL, nI_add, pk_mul, pk_sub, nI_clamp, nI_leI, nI_ltI, nI_eq]; omega), fun _ => ⟨p, h1, hg.1, vp_in_nI (by omega) (by omega), ?_⟩⟩
      rw [nI_clamp (by omega), hg.2.2.2.2.2.2.2.2.2.2.1 i (by omega), cSu_gr pk (by omega), hl.2.1 i (by omega), nI_1, nI_1, nI_ltI (by omega) (by omega)]
      refine ⟨fun q => ?_, fun q => ⟨vp_in_nI (by omega) (by omega), fun r => ?_, fun r => ?_⟩⟩
      · rw [cn, if_neg (fun z => q (by by_cases hb : inb i = true <;> simp_all))] at ih
        exact ih
      · rw [cn, if_neg (fun z => by
          by_cases hb : inb i = true
          · simp only [hb, if_true, Bool.and_eq_true, decide_eq_true_eq] at z
            unfold cH at r
            rw [if_pos hb] at r
            omega
          · simp [hb] at z)] at ih
        exact ih
      · rw [cn, if_pos (by
          have q2 := Decidable.not_not.mp q
          by_cases hb : inb i = true
          · rw [if_pos hb] at q2
            unfold cH at r
            rw [if_pos hb] at r
            simp only [hb, if_true, q2, Bool.true_and, decide_eq_true_eq]
            omega
          · simp [hb] at q2)] at ih
        exact ih
  exact tX9_soHigh (key 80 0 rfl)
theorem c_tallest_x {y : Nat} {w : Bool} (h1 : σ.2.2 0 8 = p) (hg : XP σ p P) (pk : PVok P) (hl : XL σ 274 L) (hy : y < pr P)
    (kk : ∀ b : Int32 × Int32, K (some (.int (if w then (tlF L (remL (pw P) (pr P) (y + 1)) b).2 else (tlF L (remL (pw P) (pr P) (y + 1)) b).1))) σ → wX9_tallest_9 Γ l (bI w) b.1 b.2 (nI (y + 1)) σ K) :
    ∀ m x b, m + x = pw P → K (some (.int (if w then (tlF L (rowL (pw P) y x ++ remL (pw P) (pr P) (y + 1)) b).2 else (tlF L (rowL (pw P) y x ++ remL (pw P) (pr P) (y + 1)) b).1))) σ → wX9_tallest_24 Γ l (bI w) b.1 b.2 (nI y) (nI x) σ K := by
  have w8 := pk.1
  have r6 := pk.2.1
  intro m
  induction m with
  | zero =>
    intro x b g1 g3
    rw [rowL_nil (by omega), List.nil_append] at g3
    refine tX9_tallest_24 ⟨p, h1, hg.1, fun q => by rw [nI_1]; exact kk b g3, fun q => absurd ?_ q⟩
    rw [hg.2.1]
    simp (disch := omega) only [nL, nI_add, pk_mul, pk_sub, nI_clamp, nI_leI, nI_ltI, nI_eq]
    omega
  | succ m ih =>
    intro x b g1 g3
    rw [rowL_cons (by omega), List.cons_append, tlF] at g3
    refine tX9_tallest_24 ⟨p, h1, hg.1, fun q => absurd q ?_, fun _ => ?_⟩
    · rw [hg.2.1]
      simp (disch := omega) only [nL, nI_add, pk_mul, pk_sub, nI_clamp, nI_leI, nI_ltI, nI_eq]
      omega
    · refine c_indexOf (ri ⟨vp_in_nI (by omega) (by omega), ?_⟩)
      rw [nI_clamp (by omega), XL_hi hl (by omega) (by omega), nI_1]
      refine ⟨fun q => ih (x + 1) b (by omega) ?_, fun q => ?_⟩
      · rw [if_pos q] at g3
        exact g3
      · rw [if_neg q] at g3
        rw [show (10 : Int32) * nI y + nI x = nI (10 * y + x) by simp (disch := omega) only [nL, nI_add, pk_mul, pk_sub, nI_clamp, nI_leI, nI_ltI, nI_eq]]
        exact ih (x + 1) (nI (L (8 * y + x)), nI (10 * y + x)) (by omega) g3
theorem c_tallest_y {w : Bool} (h1 : σ.2.2 0 8 = p) (hg : XP σ p P) (pk : PVok P) (hl : XL σ 274 L) :
    ∀ m y b, m + y = pr P → K (some (.int (if w then (tlF L (remL (pw P) (pr P) y) b).2 else (tlF L (remL (pw P) (pr P) y) b).1))) σ → wX9_tallest_9 Γ l (bI w) b.1 b.2 (nI y) σ K := by
  have w8 := pk.1
  have r6 := pk.2.1
  intro m
  induction m with
  | zero =>
    intro y b g1 g3
    rw [remL_nil (by omega), tlF] at g3
    refine tX9_tallest_9 ⟨p, h1, hg.1, fun q => ⟨fun r => ?_, fun r => ?_⟩, fun q => absurd ?_ q⟩
    · rw [bI_0] at r
      rw [r] at g3
      exact g3
    · rw [bI_0] at r
      simp only [Bool.not_eq_false] at r
      rw [r] at g3
      exact g3
    · rw [hg.2.2.1]
      simp (disch := omega) only [nL, nI_add, pk_mul, pk_sub, nI_clamp, nI_leI, nI_ltI, nI_eq]
      omega
  | succ m ih =>
    intro y b g1 g3
    rw [remL_cons (by omega)] at g3
    refine tX9_tallest_9 ⟨p, h1, hg.1, fun q => absurd q ?_, fun _ => ?_⟩
    · rw [hg.2.2.1]
      simp (disch := omega) only [nL, nI_add, pk_mul, pk_sub, nI_clamp, nI_leI, nI_ltI, nI_eq]
      omega
    · exact c_tallest_x h1 hg pk hl (by omega) (fun b' z => ih (y + 1) b' (by omega) z) (pw P) 0 b (by omega) g3
theorem q_all {n w h : Int32} (hX : XS σ T f P L H O D) (ok : OKS T P L H O D W) (hK : ∀ τ, Df sc0 σ τ → K (some (.int (aAll P L n w h))) τ) : C2 Γ l mX9_all [.ref 0, .int n, .int w, .int h] σ K := by
  obtain ⟨p, ⟨h1, -⟩, h2, h3, h4, h5, h6, h7, h8⟩ := hX
  have pk := h2.1.2.2
  have hp := h2.1.2.1.1
  have w8 := pk.1
  have r6 := pk.2.1
  have o1 := ok.1
  have o2 := ok.2.1.2
  have k0 := hK σ Df.rf
  have go : ∀ (K' : Option Value → SS → Prop) (N : Nat), N ≤ 60 → (∀ ξ, Df sc0 σ ξ → ξ.2.2 0 8 = p → XGL ξ p P → XL ξ 274 (gwN P (nI (psd P)) N L) → LVok P (gwN P (nI (psd P)) N L) → K' none ξ) → C2 Γ l mX4_become [.ref 274, .ref 269] σ (Rv fun s => ∃ b : Nat, s.2.2 0 8 = b ∧ isP b ∧ C2 Γ l mX1_growWeeks [.ref 46, .ref 274, .int (nI N), .int (s.1 b 19)] s K') := by
    intro K' N hN hk
    refine c_become isL_t h3 (by decide) (fun υ d2 hl2 => rv ⟨p, by rw [d2.2]; exact h1, hp, ?_⟩)
    have dd2 := Df.rf.s0 d2 (scr_l (Or.inl rfl))
    have ht := h2.df dd2 sc0_scr.off
    rw [ht.1.2.1.2.2.2.2.2.2.2.2.2.1]
    refine c_growWeeks ht hl2 ok.2.1.1 (by omega) (by omega) (fun ξ d3 hl3 => ?_)
    have dd3 := dd2.s0 d3 (scr_w hp (Or.inl rfl))
    exact hk ξ dd3 (by rw [dd3.2]; exact h1) (h2.df dd3 sc0_scr.off) hl3 (gwN_ok _ _ ok.2.1.1 (by omega))
  refine tX9_all (c_isWait (ri ?_))
  rw [bI_0]
  refine ⟨fun q => ?_, fun q => ⟨fun r => ?_, fun r => ⟨fun t => ?_, fun t => ?_⟩⟩⟩
  · rw [aAll, q] at k0
    exact k0
  · rw [aAll, vIn_n r, Bool.and_false, Bool.false_and] at k0
    exact k0
  · rw [aAll, vIn_f (n := 3) (fun z => absurd (Int32.lt_of_lt_of_le t z) (Int32.lt_irrefl)) (by omega), Bool.and_false, Bool.false_and] at k0
    exact k0
  · simp only [Bool.not_eq_false] at q
    have v3 := vIn_t (n := 3) r (Int32.not_lt.mp t) (by omega)
    refine ⟨fun u => ?_, fun u => c_isHeight (ri ?_)⟩
    · rw [aAll, q, v3, decide_eq_true u] at hK
      obtain ⟨N, rfl, hN⟩ := vIn_nat q
      rw [nI_clamp (by omega)] at hK
      refine go _ N hN (fun ξ dξ h1ξ hgξ hlξ okξ => rv ?_)
      have k := hK ξ dξ
      simp only [Bool.true_and, Bool.true_or, if_true, allS] at k
      refine ⟨fun e => ?_, fun e => absurd e u, fun e2 e3 => ⟨fun e => ?_, fun e => ?_⟩⟩
      · rw [if_pos e] at k
        exact c_allHeights hlξ (ri k)
      · rw [if_neg e2, if_neg e3, if_neg e] at k
        exact tX9_tallest (c_tallest_y (w := false) h1ξ hgξ.1.2.1 pk hlξ (pr P) 0 (-2, -2) (by omega) (ri k))
      · rw [if_neg e2, if_neg e3, if_pos e] at k
        exact tX9_tallest (c_tallest_y (w := true) h1ξ hgξ.1.2.1 pk hlξ (pr P) 0 (-2, -2) (by omega) (ri k))
    · rw [bI_0]
      refine ⟨fun v => ?_, fun v => ?_⟩
      · simp only [Bool.not_eq_false] at v
        rw [aAll, q, v3, v] at hK
        obtain ⟨N, rfl, hN⟩ := vIn_nat q
        obtain ⟨Hh, rfl, hH⟩ := vIn_nat v
        rw [nI_clamp (by omega)] at hK
        refine go _ N hN (fun ξ dξ h1ξ hgξ hlξ okξ => rv ?_)
        have k := hK ξ dξ
        simp only [Bool.true_and, Bool.or_true, if_true, allS] at k
        refine ⟨fun e => ?_, fun e => ?_, fun e2 e3 => absurd u e3⟩
        · rw [u] at e
          exact absurd e (by decide)
        · rw [u, if_neg (by decide), if_pos rfl, nI_clamp (by omega)] at k
          exact c_soHigh h1ξ hgξ.1.2.1 pk hlξ okξ hH (ri k)
      · rw [aAll, v, decide_eq_false (not_not_intro u), Bool.or_false, Bool.and_false] at k0
        exact k0
end Q5
