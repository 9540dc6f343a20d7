/-! the gardener: what is seen -/
section G1
variable {Γ : GE} {l : Launch} {σ : SS} {K : Option Value → SS → Prop} {p a : Nat} {P : PV} {L : LV}
/-- the k-th of a sign's nine cells at a place -/
def c9 (x y k : Nat) : Nat := 8 * (y + k / 3) + (x + k % 3)
def lstS (P : PV) (L : LV) (s x y : Nat) : Nat → Nat
  | 0 => 99
  | k + 1 => if pcut P s k then lstS P L s x y k else min (lstS P L s x y k) (L (c9 x y k))
def mstS (P : PV) (L : LV) (s x y : Nat) : Nat → Nat
  | 0 => 0
  | k + 1 => if pcut P s k then max (mstS P L s x y k) (L (c9 x y k)) else mstS P L s x y k
def readable (P : PV) (s : Nat) : Bool := decide (psg P s ≠ 0 ∧ psg P s ≠ 511)
/-- by how much a sign stands out -/
def stdS (P : PV) (L : LV) (s x y : Nat) : Int32 := if readable P s then nI (lstS P L s x y 9) - nI (mstS P L s x y 9) else -1000
theorem lstS_le (P : PV) (L : LV) (s x y : Nat) : ∀ k, lstS P L s x y k ≤ 99
  | 0 => Nat.le_refl _
  | k + 1 => by
    have := lstS_le P L s x y k
    unfold lstS
    split
    · exact this
    · exact Nat.le_trans (Nat.min_le_left _ _) this
theorem mstS_le (P : PV) {L : LV} (hL : ∀ k, k < 48 → L k ≤ 99) {s x y : Nat} (hx : x + 2 < 8) (hy : y + 2 < 6) : ∀ k, k ≤ 9 → mstS P L s x y k ≤ 99
  | 0, _ => Nat.zero_le _
  | k + 1, hk => by
    have h1 := mstS_le P hL (s := s) hx hy k (by omega)
    have h2 := hL (c9 x y k) (by unfold c9; omega)
    unfold mstS
    split
    · exact Nat.max_le.mpr ⟨h1, h2⟩
    · exact h1
theorem XL_hi (h : XL σ a L) {x y : Nat} (hx : x < 8) (hy : y < 6) : σ.1 (a + 1) ((y + 1) * 10 + x + 1) = nI (L (8 * y + x)) := by
  rw [h.2.1 _ (by omega), cH_at L hx hy]
theorem XL_fo (h : XL σ a L) {x y : Nat} (hx : x < 8) (hy : y < 6) : σ.1 (a + 2) ((y + 1) * 10 + x + 1) = nI (L (48 + (8 * y + x))) := by
  rw [h.2.2.1 _ (by omega), cF_at L hx hy]
theorem c_standsOut_loop {s x y : Nat} (hg : XG σ p P) (hl : XL σ a L) (ok : LVok P L) (hs : s < pns P) (hx : x + 2 < 8) (hy : y + 2 < 6) (hK : K (some (.int (nI (lstS P L s x y 9) - nI (mstS P L s x y 9)))) σ) :
    ∀ n k, n + k = 9 → wX1_standsOut_25 Γ l a (nI s) (nI x) (nI y) (nI (lstS P L s x y k)) (nI (mstS P L s x y k)) (nI k) σ K := by
  intro n
  induction n with
  | zero =>
    intro k hk
    have : k = 9 := by omega
    subst this
    exact tX1_standsOut_25 hl.1 ⟨fun _ => hK, fun q => absurd (by decide) q⟩
  | succ n ih =>
    intro k hk
    refine tX1_standsOut_25 hl.1 ⟨fun q => absurd q (by simp (disch := omega) only [nL, nI_add, pk_mul, pk_sub, nI_clamp, nI_leI, nI_ltI, nI_eq]; omega), fun _ => ?_⟩
    rw [rem3 (by omega), div3 (by omega), nI_add, nI_add]
    refine c_indexOf (ri ⟨vp_in_nI (by omega) (by omega), p, hg.1, hg.2.1.1, c_isCutAt hg.2.1 hg.2.2 hs (by omega) (ri ?_)⟩)
    rw [bI_0, nI_clamp (by omega), XL_hi hl (by omega) (by omega)]
    have b1 := lstS_le P L s x y k
    have b2 := mstS_le P (fun k h => (ok.1 k h).1) (s := s) hx hy k (by omega)
    have b3 := (ok.1 (c9 x y k) (by unfold c9; omega)).1
    have ih := ih (k + 1) (by omega)
    refine ⟨fun q => ?_, fun q => ?_⟩
    · rw [show 8 * (y + k / 3) + (x + k % 3) = c9 x y k from rfl, imn_n (by omega) (by omega), nI_1]
      simp only [lstS, mstS, q, Bool.false_eq_true, if_false] at ih
      exact ih
    · rw [show 8 * (y + k / 3) + (x + k % 3) = c9 x y k from rfl, imx_n (by omega) (by omega), nI_1]
      simp only [Bool.not_eq_false] at q
      simp only [lstS, mstS, q, if_true] at ih
      exact ih
theorem c_standsOut {s x y : Nat} (hg : XG σ p P) (hl : XL σ a L) (ok : LVok P L) (hs : s < pns P) (hx : x + 2 < 8) (hy : y + 2 < 6) (hK : K (some (.int (stdS P L s x y))) σ) : C2 Γ l mX1_standsOut [.ref 46, .ref a, .int (nI s), .int (nI x), .int (nI y)] σ K := by
  refine tX1_standsOut hl.1 ⟨p, hg.1, hg.2.1.1, c_isReadable hg.2.1 hg.2.2 hs (ri ?_)⟩
  rw [bI_0]
  refine ⟨fun q => ?_, fun q => ?_⟩
  · refine c_standsOut_loop hg hl ok hs hx hy ?_ 9 0 rfl
    have : readable P s = true := by unfold readable; simpa using q
    rw [stdS, this] at hK
    exact hK
  · have : readable P s = false := q
    rw [stdS, this] at hK
    exact hK
/-- a window reads a sign at a place -/
def rdS (P : PV) (L : LV) (w s x y : Nat) : Bool := seesS P w x && decide (¬ stdS P L s x y < nI (psh P w))
theorem c_isRead {w s x y : Nat} (hg : XG σ p P) (hl : XL σ a L) (ok : LVok P L) (hw : w < pnw P) (hs : s < pns P) (hx : x + 2 < 8) (hy : y + 2 < 6) (hK : K (some (.int (bI (rdS P L w s x y)))) σ) : C2 Γ l mX1_isRead [.ref 46, .ref a, .int (nI w), .int (nI s), .int (nI x), .int (nI y)] σ K := by
  have h4 := hg.2.2.2.2.2.1
  have v : vp_in (nI w) 4 := vp_in_nI (by omega) (by omega)
  obtain ⟨g1, g2, g3⟩ := hg.2.1.2.2.2.2.2.2.2.2.2.2.2.2.1 w hw
  refine tX1_isRead hl.1 ⟨p, hg.1, hg.2.1.1, c_sees hg.2.1 hg.2.2 hw (by omega) (ri ?_)⟩
  rw [bI_0]
  refine ⟨fun q => ?_, fun q => ?_⟩
  · rw [rdS, q] at hK
    exact hK
  · refine c_standsOut hg hl ok hs hx hy (ri ⟨p, hg.1, hg.2.1.1, v, ?_⟩)
    rw [nI_clamp (by omega), g3]
    simp only [Bool.not_eq_false] at q
    rw [rdS, q] at hK
    grind [bI]
/-- a window reads a sign anywhere -/
def rdA (P : PV) (L : LV) (w s : Nat) : Bool := (plcs P).any (fun q => rdS P L w s q.1 q.2)
theorem c_readsAnywhere_x {w s y : Nat} (hg : XG σ p P) (hl : XL σ a L) (ok : LVok P L) (hw : w < pnw P) (hs : s < pns P) (hy : y < pr P - 2)
    (kk : K (some (.int (bI ((remL (pw P - 2) (pr P - 2) (y + 1)).any (fun q => rdS P L w s q.1 q.2))))) σ → wX1_readsAnywhere_3 Γ l a (nI w) (nI s) (nI (y + 1)) σ K) :
    ∀ n x, n + x = pw P - 2 → K (some (.int (bI ((rowL (pw P - 2) y x ++ remL (pw P - 2) (pr P - 2) (y + 1)).any (fun q => rdS P L w s q.1 q.2))))) σ → wX1_readsAnywhere_20 Γ l a (nI w) (nI s) (nI y) (nI x) σ K := by
  have w8 := hg.2.2.1
  have r6 := hg.2.2.2.1
  intro n
  induction n with
  | zero =>
    intro x h1 h3
    rw [rowL_nil (by omega), List.nil_append] at h3
    refine tX1_readsAnywhere_20 hl.1 ⟨p, hg.1, hg.2.1.1, fun q => by rw [nI_1]; exact kk h3, fun q => absurd ?_ q⟩
    rw [hg.2.1.2.1]
    simp (disch := omega) only [nL, nI_add, pk_mul, pk_sub, nI_clamp, nI_leI, nI_ltI, nI_eq]
    omega
  | succ n ih =>
    intro x h1 h3
    rw [rowL_cons (by omega), List.cons_append, List.any_cons] at h3
    refine tX1_readsAnywhere_20 hl.1 ⟨p, hg.1, hg.2.1.1, fun q => absurd q ?_, fun _ => ?_⟩
    · rw [hg.2.1.2.1]
      simp (disch := omega) only [nL, nI_add, pk_mul, pk_sub, nI_clamp, nI_leI, nI_ltI, nI_eq]
      omega
    · refine c_isRead hg hl ok hw hs (by omega) (by omega) (ri ?_)
      rw [bI_0, nI_1]
      refine ⟨fun q => ih (x + 1) (by omega) ?_, fun q => ?_⟩
      · simp only [q, Bool.false_or] at h3
        exact h3
      · simp only [Bool.not_eq_false] at q
        simp only [q, Bool.true_or] at h3
        exact h3
theorem c_readsAnywhere_y {w s : Nat} (hg : XG σ p P) (hl : XL σ a L) (ok : LVok P L) (hw : w < pnw P) (hs : s < pns P) :
    ∀ n y, n + y = pr P - 2 → K (some (.int (bI ((remL (pw P - 2) (pr P - 2) y).any (fun q => rdS P L w s q.1 q.2))))) σ → wX1_readsAnywhere_3 Γ l a (nI w) (nI s) (nI y) σ K := by
  have w8 := hg.2.2.1
  have r6 := hg.2.2.2.1
  intro n
  induction n with
  | zero =>
    intro y h1 h3
    rw [remL_nil (by omega)] at h3
    refine tX1_readsAnywhere_3 hl.1 ⟨p, hg.1, hg.2.1.1, fun q => h3, fun q => absurd ?_ q⟩
    rw [hg.2.1.2.2.1]
    simp (disch := omega) only [nL, nI_add, pk_mul, pk_sub, nI_clamp, nI_leI, nI_ltI, nI_eq]
    omega
  | succ n ih =>
    intro y h1 h3
    rw [remL_cons (by omega)] at h3
    refine tX1_readsAnywhere_3 hl.1 ⟨p, hg.1, hg.2.1.1, fun q => absurd q ?_, fun _ => ?_⟩
    · rw [hg.2.1.2.2.1]
      simp (disch := omega) only [nL, nI_add, pk_mul, pk_sub, nI_clamp, nI_leI, nI_ltI, nI_eq]
      omega
    · exact c_readsAnywhere_x hg hl ok hw hs (by omega) (fun z => ih (y + 1) (by omega) z) (pw P - 2) 0 (by omega) h3
theorem c_readsAnywhere {w s : Nat} (hg : XG σ p P) (hl : XL σ a L) (ok : LVok P L) (hw : w < pnw P) (hs : s < pns P) (hK : K (some (.int (bI (rdA P L w s)))) σ) : C2 Γ l mX1_readsAnywhere [.ref 46, .ref a, .int (nI w), .int (nI s)] σ K :=
  tX1_readsAnywhere hl.1 (c_readsAnywhere_y hg hl ok hw hs (pr P - 2) 0 (by omega) hK)
/-- some window reads a sign at a place -/
def rdW (P : PV) (L : LV) (s x y : Nat) : Bool := (List.range' 0 (pnw P)).any (fun w => rdS P L w s x y)
theorem c_someoneReads_w {s x y : Nat} (hg : XG σ p P) (hx : x + 2 < 8) :
    ∀ n w, n + w = pnw P → K (some (.int (bI ((List.range' w n).any (fun w => rdS P L w s x y))))) σ → wX1_someoneReads_14 Γ l (nI x) (stdS P L s x y) (nI w) σ K := by
  have h4 := hg.2.2.2.2.2.1
  intro n
  induction n with
  | zero =>
    intro w h1 h3
    refine tX1_someoneReads_14 ⟨p, hg.1, hg.2.1.1, fun q => h3, fun q => absurd ?_ q⟩
    rw [hg.2.1.2.2.2.2.1]
    simp (disch := omega) only [nL, nI_add, pk_mul, pk_sub, nI_clamp, nI_leI, nI_ltI, nI_eq]
    omega
  | succ n ih =>
    intro w h1 h3
    have hw : w < pnw P := by omega
    have v : vp_in (nI w) 4 := vp_in_nI (by omega) (by omega)
    obtain ⟨g1, g2, g3⟩ := hg.2.1.2.2.2.2.2.2.2.2.2.2.2.2.1 w hw
    rw [List.range'_succ, List.any_cons] at h3
    refine tX1_someoneReads_14 ⟨p, hg.1, hg.2.1.1, fun q => absurd q ?_, fun _ => ⟨p, hg.1, hg.2.1.1, c_sees hg.2.1 hg.2.2 hw (by omega) (ri ?_)⟩⟩
    · rw [hg.2.1.2.2.2.2.1]
      simp (disch := omega) only [nL, nI_add, pk_mul, pk_sub, nI_clamp, nI_leI, nI_ltI, nI_eq]
      omega
    · rw [bI_0, nI_1]
      refine ⟨fun q => ih (w + 1) (by omega) ?_, fun q => ⟨p, hg.1, hg.2.1.1, v, ?_⟩⟩
      · simp only [rdS, q, Bool.false_and, Bool.false_or] at h3
        exact h3
      · rw [nI_clamp (by omega), g3]
        simp only [Bool.not_eq_false] at q
        refine ⟨fun z => ih (w + 1) (by omega) ?_, fun z => ?_⟩
        · simp only [rdS, q, z, Bool.true_and, not_true, decide_false, Bool.false_or] at h3
          exact h3
        · simp only [rdS, q, z, Bool.true_and, not_false_iff, decide_true, Bool.true_or] at h3
          exact h3
theorem c_someoneReads {s x y : Nat} (hg : XG σ p P) (hl : XL σ a L) (ok : LVok P L) (hs : s < pns P) (hx : x + 2 < 8) (hy : y + 2 < 6) (hK : K (some (.int (bI (rdW P L s x y)))) σ) : C2 Γ l mX1_someoneReads [.ref 46, .ref a, .int (nI s), .int (nI x), .int (nI y)] σ K :=
  tX1_someoneReads hl.1 (c_standsOut hg hl ok hs hx hy (ri (c_someoneReads_w hg hx (pnw P) 0 (by omega) hK)))
/-- anything is read -/
def rdQ (P : PV) (L : LV) (s : Nat) : Bool := (plcs P).any (fun q => rdW P L s q.1 q.2)
def rdE (P : PV) (L : LV) : Bool := (List.range' 0 (pns P)).any (fun s => rdQ P L s)
theorem c_anything_x {s y : Nat} {R : Bool} (hg : XG σ p P) (hl : XL σ a L) (ok : LVok P L) (hs : s < pns P) (hy : y < pr P - 2)
    (kk : K (some (.int (bI ((remL (pw P - 2) (pr P - 2) (y + 1)).any (fun q => rdW P L s q.1 q.2) || R)))) σ → wX1_anythingIsRead_15 Γ l a (nI s) (nI (y + 1)) σ K) :
    ∀ n x, n + x = pw P - 2 → K (some (.int (bI ((rowL (pw P - 2) y x ++ remL (pw P - 2) (pr P - 2) (y + 1)).any (fun q => rdW P L s q.1 q.2) || R)))) σ → wX1_anythingIsRead_31 Γ l a (nI s) (nI y) (nI x) σ K := by
  have w8 := hg.2.2.1
  have r6 := hg.2.2.2.1
  intro n
  induction n with
  | zero =>
    intro x h1 h3
    rw [rowL_nil (by omega), List.nil_append] at h3
    refine tX1_anythingIsRead_31 hl.1 ⟨p, hg.1, hg.2.1.1, fun q => by rw [nI_1]; exact kk h3, fun q => absurd ?_ q⟩
    rw [hg.2.1.2.1]
    simp (disch := omega) only [nL, nI_add, pk_mul, pk_sub, nI_clamp, nI_leI, nI_ltI, nI_eq]
    omega
  | succ n ih =>
    intro x h1 h3
    rw [rowL_cons (by omega), List.cons_append, List.any_cons] at h3
    refine tX1_anythingIsRead_31 hl.1 ⟨p, hg.1, hg.2.1.1, fun q => absurd q ?_, fun _ => ?_⟩
    · rw [hg.2.1.2.1]
      simp (disch := omega) only [nL, nI_add, pk_mul, pk_sub, nI_clamp, nI_leI, nI_ltI, nI_eq]
      omega
    · refine c_someoneReads hg hl ok hs (by omega) (by omega) (ri ?_)
      rw [bI_0, nI_1]
      refine ⟨fun q => ih (x + 1) (by omega) ?_, fun q => ?_⟩
      · simp only [q, Bool.false_or] at h3
        exact h3
      · simp only [Bool.not_eq_false] at q
        simp only [q, Bool.true_or] at h3
        exact h3
theorem c_anything_y {s : Nat} {R : Bool} (hg : XG σ p P) (hl : XL σ a L) (ok : LVok P L) (hs : s < pns P) (kk : K (some (.int (bI R))) σ → wX1_anythingIsRead_2 Γ l a (nI (s + 1)) σ K) :
    ∀ n y, n + y = pr P - 2 → K (some (.int (bI ((remL (pw P - 2) (pr P - 2) y).any (fun q => rdW P L s q.1 q.2) || R)))) σ → wX1_anythingIsRead_15 Γ l a (nI s) (nI y) σ K := by
  have w8 := hg.2.2.1
  have r6 := hg.2.2.2.1
  intro n
  induction n with
  | zero =>
    intro y h1 h3
    rw [remL_nil (by omega)] at h3
    refine tX1_anythingIsRead_15 hl.1 ⟨p, hg.1, hg.2.1.1, fun q => by rw [nI_1]; exact kk h3, fun q => absurd ?_ q⟩
    rw [hg.2.1.2.2.1]
    simp (disch := omega) only [nL, nI_add, pk_mul, pk_sub, nI_clamp, nI_leI, nI_ltI, nI_eq]
    omega
  | succ n ih =>
    intro y h1 h3
    rw [remL_cons (by omega)] at h3
    refine tX1_anythingIsRead_15 hl.1 ⟨p, hg.1, hg.2.1.1, fun q => absurd q ?_, fun _ => ?_⟩
    · rw [hg.2.1.2.2.1]
      simp (disch := omega) only [nL, nI_add, pk_mul, pk_sub, nI_clamp, nI_leI, nI_ltI, nI_eq]
      omega
    · exact c_anything_x hg hl ok hs (by omega) (fun z => ih (y + 1) (by omega) z) (pw P - 2) 0 (by omega) h3
theorem c_anything_s (hg : XG σ p P) (hl : XL σ a L) (ok : LVok P L) :
    ∀ n s, n + s = pns P → K (some (.int (bI ((List.range' s n).any (fun s => rdQ P L s))))) σ → wX1_anythingIsRead_2 Γ l a (nI s) σ K := by
  have h4 := hg.2.2.2.2.1
  intro n
  induction n with
  | zero =>
    intro s h1 h3
    refine tX1_anythingIsRead_2 hl.1 ⟨p, hg.1, hg.2.1.1, fun q => h3, fun q => absurd ?_ q⟩
    rw [hg.2.1.2.2.2.1]
    simp (disch := omega) only [nL, nI_add, pk_mul, pk_sub, nI_clamp, nI_leI, nI_ltI, nI_eq]
    omega
  | succ n ih =>
    intro s h1 h3
    rw [List.range'_succ, List.any_cons] at h3
    refine tX1_anythingIsRead_2 hl.1 ⟨p, hg.1, hg.2.1.1, fun q => absurd q ?_, fun _ => ?_⟩
    · rw [hg.2.1.2.2.2.1]
      simp (disch := omega) only [nL, nI_add, pk_mul, pk_sub, nI_clamp, nI_leI, nI_ltI, nI_eq]
      omega
    · exact c_anything_y hg hl ok (by omega) (fun z => ih (s + 1) (by omega) z) (pr P - 2) 0 (by omega) h3
theorem c_anythingIsRead (hg : XG σ p P) (hl : XL σ a L) (ok : LVok P L) (hK : K (some (.int (bI (rdE P L)))) σ) : C2 Γ l mX1_anythingIsRead [.ref 46, .ref a] σ K :=
  tX1_anythingIsRead hl.1 (c_anything_s hg hl ok (pns P) 0 (by omega) hK)
end G1
