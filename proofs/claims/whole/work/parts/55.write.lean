/-! the class: what the guesses come to, week by week -/
/-- what the clues may change -/
def DC (σ τ : SS) : Prop := (∀ b, (b < 219 ∨ 268 < b) → b ≠ 21 → b ≠ 39 → b ≠ 47 → b ≠ 48 → τ.1 b = σ.1 b) ∧ τ.1 220 = σ.1 220 ∧ τ.1 221 = σ.1 221 ∧ τ.1 222 = σ.1 222 ∧ τ.1 219 4 = σ.1 219 4 ∧ (∀ b, b ≠ 260 → τ.2.1 b = σ.2.1 b) ∧ τ.2.2 = σ.2.2
theorem DC.rf {σ : SS} : DC σ σ := ⟨fun _ _ _ _ _ _ => rfl, rfl, rfl, rfl, rfl, fun _ _ => rfl, rfl⟩
theorem DC.tr {σ τ υ : SS} (h : DC σ τ) (g : DC τ υ) : DC σ υ :=
  ⟨fun b h1 h2 h3 h4 h5 => (g.1 b h1 h2 h3 h4 h5).trans (h.1 b h1 h2 h3 h4 h5), g.2.1.trans h.2.1, g.2.2.1.trans h.2.2.1, g.2.2.2.1.trans h.2.2.2.1, g.2.2.2.2.1.trans h.2.2.2.2.1, fun b hb => (g.2.2.2.2.2.1 b hb).trans (h.2.2.2.2.2.1 b hb), g.2.2.2.2.2.2.trans h.2.2.2.2.2.2⟩
theorem Df.dc {S : List Nat} {σ τ : SS} (d : Df S σ τ) (h : ∀ b, b ∈ S → b = 21 ∨ b = 39 ∨ b = 47 ∨ b = 48 ∨ b = 219 ∨ (223 ≤ b ∧ b ≤ 268)) (h4 : τ.1 219 4 = σ.1 219 4) : DC σ τ := by
  have no : ∀ b, b ≠ 21 → b ≠ 39 → b ≠ 47 → b ≠ 48 → b ≠ 219 → (b < 223 ∨ 268 < b) → b ∉ S := fun b b1 b2 b3 b4 b5 b6 hb => by have := h b hb; omega
  exact ⟨fun b h1 h2 h3 h4 h5 => d.1 b (no b h2 h3 h4 h5 (by omega) (by omega)), d.1 220 (no _ (by omega) (by omega) (by omega) (by omega) (by omega) (by omega)), d.1 221 (no _ (by omega) (by omega) (by omega) (by omega) (by omega) (by omega)), d.1 222 (no _ (by omega) (by omega) (by omega) (by omega) (by omega) (by omega)), h4, fun b _ => by rw [d.2], by rw [d.2]⟩
theorem DC.cl {σ τ : SS} (h : DC σ τ) : Cl σ τ := ⟨fun b hb => h.1 b (by omega) (by omega) (by omega) (by omega) (by omega), fun b hb => h.2.2.2.2.2.1 b (by omega), fun b _ => by rw [h.2.2.2.2.2.2]⟩
theorem XL.dc {σ τ : SS} {a : Nat} {L : LV} (h : XL σ a L) (d : DC σ τ) (ha : a < 215 ∨ 268 < a) : XL τ a L := by
  have hge := isL_ge h.1
  have e : ∀ k, k < 5 → τ.1 (a + k) = σ.1 (a + k) := fun k hk => d.1 _ (by omega) (by omega) (by omega) (by omega) (by omega)
  have e0 := e 0 (by omega)
  have e1 := e 1 (by omega)
  have e2 := e 2 (by omega)
  have e3 := e 3 (by omega)
  have e4 := e 4 (by omega)
  rw [Nat.add_zero] at e0
  unfold XL
  rw [e0, e1, e2, e3, e4]
  exact h
theorem XGL.dc {σ τ : SS} {p : Nat} {P : PV} (h : XGL σ p P) (d : DC σ τ) : XGL τ p P := by
  have hp := isP_or h.1.2.1.1
  have e : ∀ k, k < 18 → k ≠ 11 → τ.1 (p + k) = σ.1 (p + k) := fun k hk h1 => d.1 _ (by omega) (by omega) (by omega) (by omega) (by omega)
  have e0 : τ.1 p = σ.1 p := e 0 (by omega) (by omega)
  unfold XGL XG XP XW
  rw [e0, e 1 (by omega) (by omega), e 3 (by omega) (by omega), e 5 (by omega) (by omega), e 6 (by omega) (by omega), e 7 (by omega) (by omega), e 8 (by omega) (by omega), e 9 (by omega) (by omega), show p + 9 + 1 = p + 10 by omega, e 10 (by omega) (by omega), e 12 (by omega) (by omega), show p + 12 + 1 = p + 13 by omega, e 13 (by omega) (by omega), e 15 (by omega) (by omega), show p + 15 + 1 = p + 16 by omega, e 16 (by omega) (by omega), d.2.2.2.2.2.2]
  exact h
theorem XS.dc {σ τ : SS} {T : List Nat} {f : Int32} {P : PV} {L : LV} {H : List LV} {O : Nat → Option LV} {D : List (Nat × Nat × Nat)} (h : XS σ T f P L H O D) (d : DC σ τ) (hc : XC τ P) : XS τ T f P L H O D := by
  obtain ⟨p, a1, a2, a3, a4, ⟨b1, b2, ⟨nx, n1, n2, n3, n4, n5⟩, b4⟩, a6, a7, a8⟩ := h
  have r : ∀ b, (b < 219 ∨ 268 < b) → b ≠ 21 → b ≠ 39 → b ≠ 47 → b ≠ 48 → τ.1 b = σ.1 b := d.1
  refine ⟨p, ?_, a2.dc d, a3.dc d (by omega), ?_, ⟨fun i hi => by rw [d.2.2.2.2.2.2]; exact b1 i hi, fun i hi => by rw [d.2.2.2.2.2.2]; exact b2 i hi, ⟨nx, n1, ?_, n3, ?_, fun j hj => (n5 j hj).dc d (by omega)⟩, fun s hs => ⟨?_, fun M hM => ((b4 s hs).2 M hM).dc d (by omega)⟩⟩, ?_, ?_, hc⟩
  · unfold XQ
    rw [d.2.2.2.2.2.2]
    exact a1
  · unfold XT
    rw [r 1 (by omega) (by omega) (by omega) (by omega) (by omega), r 2 (by omega) (by omega) (by omega) (by omega) (by omega)]
    exact a4
  · rw [r 50 (by omega) (by omega) (by omega) (by omega) (by omega)]; exact n2
  · rw [r 50 (by omega) (by omega) (by omega) (by omega) (by omega)]; exact n4
  · rw [r 53 (by omega) (by omega) (by omega) (by omega) (by omega)]; exact (b4 s hs).1
  · unfold XTo
    rw [d.2.1, d.2.2.1, d.2.2.2.1, d.2.2.2.2.1]
    exact a6
  · rw [r 0 (by omega) (by omega) (by omega) (by omega) (by omega)]
    exact a7
theorem sJ_at (σ : SS) (a k : Nat) (v : Int64) (b j : Nat) : (sJ σ a k v).2.1 b j = if b = a ∧ j = k then v else σ.2.1 b j := by
  unfold sJ u2L
  by_cases h : b = a
  · subst h
    by_cases h2 : j = k <;> simp [h2, vp_updL]
  · simp [h]
theorem pkR_lt {L : LV} {y : Nat} : ∀ n x, (∀ k, x ≤ k → k < x + n → L (8 * y + k) < 128) → pkR L y n x < 128 ^ n
  | 0, _, _ => by simp [pkR]
  | n + 1, x, h => by
    have h1 := h x (by omega) (by omega)
    have h2 := pkR_lt n (x + 1) (fun k k1 k2 => h k (by omega) (by omega))
    rw [pkR, Nat.pow_succ]
    omega
theorem pkR_dig {L : LV} {y : Nat} : ∀ n x, (∀ k, x ≤ k → k < x + n → L (8 * y + k) < 128) → ∀ j, j < n → pkR L y n x / 128 ^ j % 128 = L (8 * y + (x + j))
  | 0, _, _, j, hj => absurd hj (by omega)
  | n + 1, x, h, 0, _ => by
    have h1 := h x (by omega) (by omega)
    rw [pkR, Nat.pow_zero, Nat.div_one, show x + 0 = x from rfl]
    omega
  | n + 1, x, h, j + 1, hj => by
    have h1 := h x (by omega) (by omega)
    have := pkR_dig n (x + 1) (fun k k1 k2 => h k (by omega) (by omega)) j (by omega)
    rw [pkR, Nat.pow_succ, Nat.mul_comm (128 ^ j) 128, ← Nat.div_div_eq_div_mul, show (L (8 * y + x) + 128 * pkR L y n (x + 1)) / 128 = pkR L y n (x + 1) by omega, this]
    congr 2
    omega
theorem pow128 {n : Nat} (h : n ≤ 8) : 128 ^ n ≤ 2 ^ 56 := Nat.le_trans (Nat.pow_le_pow_right (by omega) h) (by decide)
section C5
variable {Γ : GE} {l : Launch} {σ : SS} {K : Option Value → SS → Prop} {P : PV} {L M B : LV} {p a : Nat} {w wk : Nat}
theorem c_write_x {g y : Nat} (hg : XGL σ p P) (hM : LVok P M) (hr : ∀ i, i < 80 → σ.1 264 i = nI (cH M i)) (hgg : g < 2976) (hy : y < pr P)
    (kk : ∀ τ, τ = sJ σ 260 (g * 6 + y) (lN (pkR M y (pw P) 0)) → wX0_write_10 Γ l (nI g) p (nI (y + 1)) τ K) :
    ∀ k n, k + n = pw P → wX0_write_29 Γ l (nI g) p (nI y) (lN (pkR M y n k)) (nI k - 1) σ K := by
  have pk := hg.1.2.2
  have w8 := pk.1
  have r6 := pk.2.1
  have hpi := hg.1.2.1.1
  have hi : ∀ k, k < 48 → M k < 128 := fun k hk => by have := (hM.1 k hk).1; omega
  intro k
  induction k with
  | zero =>
    intro n hn
    have : n = pw P := by omega
    subst this
    refine tX0_write_29 hpi ⟨fun _ => ?_, fun q => absurd (by decide) q⟩
    rw [show nI g * 6 + nI y = nI (g * 6 + y) by simp (disch := omega) only [nL, nI_add, pk_mul, pk_sub, nI_clamp, nI_leI, nI_ltI, nI_eq], nI_clamp (by omega)]
    refine ⟨vp_in_nI (by omega) (by omega), fun s1 e1 => ?_⟩
    rw [nI_1]
    exact kk s1 e1
  | succ k ih =>
    intro n hn
    rw [nI_pred]
    refine tX0_write_29 hpi ⟨fun q => absurd q (by simp (disch := omega) only [nL, nI_add, pk_mul, pk_sub, nI_clamp, nI_leI, nI_ltI, nI_eq]; omega), fun _ => c_indexOf (ri ⟨vp_in_nI (by omega) (by omega), fun v hv => ?_⟩)⟩
    have hlt : pkR M y n (k + 1) < 128 ^ n := pkR_lt n (k + 1) (fun j j1 j2 => hi _ (by omega))
    have hp := pow128 (n := n) (by omega)
    have hb := hi (8 * y + k) (by omega)
    rw [nI_clamp (by omega), hr _ (by omega), cH_at M (by omega) (by omega), show (7 : Int32) = nI 7 from rfl, wb_shl _ (by omega), nI_l (by omega), show (2 : Nat) ^ 7 = 128 from rfl, g_or (k := 7) (p := 128) rfl hb (by omega), show pkR M y n (k + 1) * 128 + M (8 * y + k) = pkR M y (n + 1) k by rw [pkR]; omega] at hv
    rw [hv, show nI k + (-1) = nI k - 1 from (Int32.sub_eq_add_neg _ _).symm]
    exact ih (n + 1) (by omega)
theorem c_write {g : Nat} (hg : XGL σ p P) (hM : LVok P M) (hr : ∀ i, i < 80 → σ.1 264 i = nI (cH M i)) (hgg : g < 2976)
    (hK : ∀ τ, τ.1 = σ.1 → τ.2.2 = σ.2.2 → (∀ b, b ≠ 260 → τ.2.1 b = σ.2.1 b) → (∀ k, (k < g * 6 ∨ g * 6 + 6 ≤ k) → τ.2.1 260 k = σ.2.1 260 k) → (∀ y, y < pr P → τ.2.1 260 (g * 6 + y) = lN (pkR M y (pw P) 0)) → K none τ) : C2 Γ l mX0_write [.ref 219, .int (nI g)] σ K := by
  have pk := hg.1.2.2
  have w8 := pk.1
  have r6 := pk.2.1
  have hpi := hg.1.2.1.1
  have key : ∀ m y τ, m + y = pr P → τ.1 = σ.1 → τ.2.2 = σ.2.2 → (∀ b, b ≠ 260 → τ.2.1 b = σ.2.1 b) → (∀ k, (k < g * 6 ∨ g * 6 + 6 ≤ k) → τ.2.1 260 k = σ.2.1 260 k) → (∀ y', y' < y → τ.2.1 260 (g * 6 + y') = lN (pkR M y' (pw P) 0)) → wX0_write_10 Γ l (nI g) p (nI y) τ K := by
    intro m
    induction m with
    | zero =>
      intro y τ g1 f1 f2 f3 f4 f5
      refine tX0_write_10 hpi ⟨fun _ => hK τ f1 f2 f3 f4 (fun y' hy' => f5 y' (by omega)), fun q => absurd ?_ q⟩
      rw [f1, hg.1.2.1.2.2.1]
      simp (disch := omega) only [nL, nI_add, pk_mul, pk_sub, nI_clamp, nI_leI, nI_ltI, nI_eq]
      omega
    | succ m ih =>
      intro y τ g1 f1 f2 f3 f4 f5
      have hgt : XGL τ p P := by
        obtain ⟨t1, t2, t3⟩ := τ
        simp only at f1 f2
        subst f1; subst f2
        exact hg
      refine tX0_write_10 hpi ⟨fun q => absurd q ?_, fun _ => ?_⟩
      · rw [f1, hg.1.2.1.2.2.1]
        simp (disch := omega) only [nL, nI_add, pk_mul, pk_sub, nI_clamp, nI_leI, nI_ltI, nI_eq]
        omega
      · rw [f1, hg.1.2.1.2.1]
        refine c_write_x hgt hM (by rw [f1]; exact hr) hgg (by omega) (fun υ e => ih (y + 1) υ (by omega) ?_ ?_ (fun b hb => ?_) (fun k hk => ?_) (fun y' hy' => ?_)) (pw P) 0 (by omega)
        · rw [e]; exact f1
        · rw [e]; exact f2
        · rw [← f3 b hb, e]
          funext j
          rw [sJ_at, if_neg (fun z => hb z.1)]
        · rw [e, sJ_at, if_neg (by omega)]
          exact f4 k hk
        · rw [e, sJ_at]
          by_cases e2 : y' = y
          · rw [if_pos ⟨rfl, by omega⟩, e2]
          · rw [if_neg (by omega)]
            exact f5 y' (by omega)
  exact tX0_write ⟨p, hg.1.1, hpi, key (pr P) 0 σ (by omega) rfl rfl (fun _ _ => rfl) (fun _ _ => rfl) (fun y' hy' => absurd hy' (by omega))⟩
theorem c_isGuess {g : Nat} (hg : XGL σ p P) (hgg : g < 2976) (hw : w < 900000) (hK : K (some (.int (bI (gOk P w g)))) σ) : C2 Γ l mX0_isGuess [.ref 219, .int (nI g), .int (nI w)] σ K := by
  have pk := hg.1.2.2
  have w8 := pk.1
  have r6 := pk.2.1
  have s4 := pk.2.2.1
  have hpi := hg.1.2.1.1
  have E0 : nI g - nI g / 31 * 31 = nI (gAge g) := pk_rem (d := 31) (by omega) (by decide) (by decide)
  have E1 : nI g / 31 = nI (g / 31) := pk_div (d := 31) (by omega) (by decide) (by decide)
  have E2 : nI (g / 31) / 24 = nI (g / 31 / 24) := pk_div (d := 24) (by omega) (by decide) (by decide)
  have E3 : nI (g / 31) - nI (g / 31) / 24 * 24 = nI (g / 31 % 24) := pk_rem (d := 24) (by omega) (by decide) (by decide)
  have E4 : nI (g / 31 % 24) / 6 = nI (g / 31 % 24 / 6) := pk_div (d := 6) (by omega) (by decide) (by decide)
  have E5 : nI (g / 31 % 24) - nI (g / 31 % 24) / 6 * 6 = nI (g / 31 % 24 % 6) := pk_rem (d := 6) (by omega) (by decide) (by decide)
  have hag : gAge g < 31 := Nat.mod_lt _ (by omega)
  have hgx : gX g < 6 := Nat.mod_lt _ (by omega)
  have hgy : gY g < 4 := by unfold gY; omega
  have hgs : gS_ g < 4 := by unfold gS_; omega
  refine tX0_isGuess (tX0_ageOf (ri ?_))
  rw [E0, nI_ltI (by omega) (by omega)]
  refine ⟨fun q => ?_, fun q => ⟨p, hg.1.1, hpi, tX0_signOf (ri (tX0_xOf (ri (tX0_yOf (ri ?_)))))⟩⟩
  · rw [gOk, decide_eq_false (by omega)] at hK
    exact hK
  · rw [E1, E3, E5, E4, E2]
    refine c_hasPlace hg.1.2.1 (ri ?_)
    rw [bI_0, vP_eq pk]
    have e : (vSg P (nI (g / 31 / 24)) && vPl P (nI (g / 31 % 24 % 6)) (nI (g / 31 % 24 / 6))) = gOk P w g := by
      rw [vSg, vPl, gOk, ← Bool.decide_and, nI_clamp (by omega), nI_clamp (by omega), nI_clamp (by omega)]
      apply decide_eq_decide.mpr
      have n1 : ¬ nI (g / 31 / 24) < 0 := nI_pos (by omega)
      have n2 : ¬ nI (g / 31 % 24 % 6) < 0 := nI_pos (by omega)
      have n3 : ¬ nI (g / 31 % 24 / 6) < 0 := nI_pos (by omega)
      unfold gX gY gS_
      constructor
      · rintro ⟨⟨-, a1⟩, -, -, a2, a3⟩
        exact ⟨by omega, a1, a2, a3⟩
      · rintro ⟨-, a1, a2, a3⟩
        exact ⟨⟨n1, a1⟩, n2, n3, a2, a3⟩
    rw [e]
    refine ⟨fun z => ?_, fun z => ?_⟩
    · rw [z] at hK
      exact hK
    · simp only [Bool.not_eq_false] at z
      rw [z] at hK
      exact hK
theorem bldL_ok (pk : PVok P) {s x y age : Nat} (hw : w < 800000) (ha : age ≤ w) (hx : x + 2 < 8) (hy : y + 2 < 6) : LVok P (bldL P w s x y age) := by
  have hB := barL_ok pk (w := w - age) (by omega)
  obtain ⟨ok9, hi9⟩ := ct9_ok (s := s) hB.1 hx hy 9 (by omega)
  exact gwN_ok age _ ok9 (by rw [hi9 104 (by omega), hB.2]; omega)
theorem c_growAll_k (hg0 : XGL σ p P) (hw : w < 800000) (hK : ∀ τ, DC σ τ → XBw τ P w → XO τ P w → τ.1 219 8 = nI w → K none τ) :
    ∀ m g τ, m + g = 2976 → DC σ τ → XBw τ P w → (∀ g', g' < g → gOk P w g' = true → ∀ y, y < pr P → τ.2.1 260 (g' * 6 + y) = lN (pkR (bldL P w (gS_ g') (gX g') (gY g') (gAge g')) y (pw P) 0)) → wX0_growAll_16 Γ l (nI w) (nI g) τ K := by
  have pk := hg0.1.2.2
  have w8 := pk.1
  have r6 := pk.2.1
  have hp := isP_or hg0.1.2.1.1
  intro m
  induction m with
  | zero =>
    intro g τ g1 d hb f
    refine tX0_growAll_16 ⟨fun _ s1 e1 => ?_, fun q => absurd (by simp (disch := omega) only [nL, nI_add, pk_mul, pk_sub, nI_clamp, nI_leI, nI_ltI, nI_eq]; omega) q⟩
    have d1 : Df [219] τ s1 := by rw [e1]; exact Df.rf.wI (by simp)
    refine hK s1 (d.tr (d1.dc (fun b hb => by simp at hb; omega) (by rw [e1, sI_at, if_neg (by omega)]))) (hb.df d1 (hb.2.1.df d1 (by simp) (by simp) (by simp) (by simp)) (fun b hb => by simp at hb; omega)) (fun g' hg' hok y hy => ?_) (by rw [e1, sI_at, if_pos ⟨rfl, rfl⟩])
    rw [d1.2]
    exact f g' (by omega) hok y hy
  | succ m ih =>
    intro g τ g1 d hb f
    have hgt := hg0.dc d
    refine tX0_growAll_16 ⟨fun q => absurd q (by simp (disch := omega) only [nL, nI_add, pk_mul, pk_sub, nI_clamp, nI_leI, nI_ltI, nI_eq]; omega), fun _ => c_isGuess hgt (by omega) (by omega) (ri ?_)⟩
    rw [bI_0, nI_1]
    refine ⟨fun q => ih (g + 1) τ (by omega) d hb (fun g' hg' hok y hy => ?_), fun q => ?_⟩
    · by_cases e : g' = g
      · rw [e, q] at hok
        exact absurd hok (by decide)
      · exact f g' (by omega) hok y hy
    · simp only [Bool.not_eq_false] at q
      have q' := q
      simp only [gOk, decide_eq_true_eq] at q'
      refine c_ripen hgt hb (by omega) hw q (fun υ du du4 du8 hb2 hr => rv ?_)
      have dc : DC τ υ := du.dc (fun b hb => by simp [rS] at hb; omega) du4
      refine c_write (hg0.dc (d.tr dc)) (bldL_ok pk hw q'.1 (by omega) (by omega)) hr (by omega) (fun ξ e1 e2 e3 e4 e5 => rv ?_)
      have dc2 : DC υ ξ := ⟨fun b _ _ _ _ _ => by rw [e1], by rw [e1], by rw [e1], by rw [e1], by rw [e1], e3, e2⟩
      have hb3 : XBw ξ P w := by
        obtain ⟨t1, t2, t3⟩ := ξ
        simp only at e1 e2
        subst e1; subst e2
        exact hb2
      refine ih (g + 1) ξ (by omega) ((d.tr dc).tr dc2) hb3 (fun g' hg' hok y hy => ?_)
      by_cases e : g' = g
      · subst e
        exact e5 y hy
      · rw [e4 _ (by omega), du.2]
        exact f g' (by omega) hok y hy
theorem c_growAll {bw : Nat} (hg : XGL σ p P) (hw : w < 800000) (hb : XBw σ P bw) (ho : σ.1 219 8 = -1 ∨ ∃ w, w < 900000 ∧ σ.1 219 8 = nI w ∧ XO σ P w)
    (hK : ∀ τ bw, DC σ τ → XBw τ P bw → XO τ P w → τ.1 219 8 = nI w → K none τ) : C2 Γ l mX0_growAll [.ref 219, .int (nI w)] σ K := by
  have hp := isP_or hg.1.2.1.1
  refine tX0_growAll ⟨fun q => ?_, fun q => ?_⟩
  · refine c_growBare hw hg hb (fun υ d hb2 => rv ?_)
    have dc : DC σ υ := d.dc (fun b hb => by rw [mem_brS] at hb; omega) (by rw [d.1 219 (by rw [mem_brS]; omega)])
    exact c_growAll_k (hg.dc dc) hw (fun τ d2 h1 h2 h3 => hK τ w (dc.tr d2) h1 h2 h3) 2976 0 υ rfl DC.rf hb2 (fun g' hg' => absurd hg' (by omega))
  · rcases ho with z | ⟨v, v1, v2, v3⟩
    · rw [z] at q
      exact absurd q (by
        intro e
        have := nI_pos (n := w) (by omega)
        rw [← e] at this
        exact this (by decide))
    · rw [v2, nI_eq (by omega) (by omega)] at q
      subst q
      exact hK σ bw DC.rf hb v3 v2
end C5
