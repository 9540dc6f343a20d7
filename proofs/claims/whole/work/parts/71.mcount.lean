/-! the model: count; the bare lawn; a guess -/
def bgP (P : PV) (y x : Nat) : LV := fun k => if k < 48 ∧ bf P y x k = true ∧ grass P (k % 8) (k / 8) = true then phe P else 0
theorem bgP_0 {P : PV} : bgP P 0 0 = fun _ => 0 := by
  funext k
  unfold bgP
  rw [bf_0, if_neg (fun z => absurd z.2.1 (by decide))]
theorem bgP_r {P : PV} {y : Nat} : bgP P y (pw P) = bgP P (y + 1) 0 := by
  funext k
  unfold bgP
  rw [bf_r]
theorem bgP_s {P : PV} {x y : Nat} (hx : x < pw P) (hy : y < pr P) (h8 : x < 8) (h6 : y < 6) : bgP P y (x + 1) = if grass P x y then upL (bgP P y x) (8 * y + x) (phe P) else bgP P y x := by
  obtain ⟨t1, t2⟩ := bf_t hx hy h8
  by_cases hg : grass P x y = true
  · rw [if_pos hg]
    funext k
    unfold bgP upL
    by_cases e : k = 8 * y + x
    · rw [if_pos e, e, t1, show (8 * y + x) % 8 = x by omega, show (8 * y + x) / 8 = y by omega, if_pos ⟨by omega, rfl, hg⟩]
    · rw [if_neg e]
      show _ = if k < 48 ∧ bf P y x k = true ∧ grass P (k % 8) (k / 8) = true then phe P else 0
      by_cases h48 : k < 48
      · rw [bf_s (by omega)]
      · rw [if_neg (fun z => h48 z.1), if_neg (fun z => h48 z.1)]
  · rw [if_neg hg]
    funext k
    unfold bgP
    by_cases e : k = 8 * y + x
    · rw [e, show (8 * y + x) % 8 = x by omega, show (8 * y + x) / 8 = y by omega, if_neg (fun z => hg z.2.2), if_neg (fun z => hg z.2.2)]
    · by_cases h48 : k < 48
      · rw [bf_s (by omega)]
      · rw [if_neg (fun z => h48 z.1), if_neg (fun z => h48 z.1)]
theorem bgP_e {P : PV} : bgP P (pr P) 0 = begL P := by
  funext k
  unfold bgP begL
  by_cases hg : k < 48 ∧ grass P (k % 8) (k / 8) = true
  · rw [if_pos hg]
    have h2 := hg.2
    unfold grass at h2
    simp only [decide_eq_true_eq] at h2
    rw [if_pos ⟨hg.1, by unfold bf; exact decide_eq_true (by omega), hg.2⟩]
  · rw [if_neg hg, if_neg (fun z => hg ⟨z.1, z.2.2⟩)]
section MC
variable {Γ : GE} {l : Launch} {σ τ : SS} {K : Option Value → SS → Prop} {v : Nat} {T : List Nat} {f : Int32} {P : PV} {L : LV} {H : List LV} {O : Nat → Option LV} {D : List (Nat × Nat × Nat)} {W : Nat}
theorem r_count {w : Int32} (h : MS σ T f P L H O D) (hK : ∀ τ, DM scR scF σ τ → K (some (.int (aCount T P L H O D w))) τ) : C2 Γ l mX10_count [.ref 284, .int w] σ K := by
  obtain ⟨v, h⟩ := h
  refine tX10_count (m_cop h (fun τ d g r e56 _ => rv ?_))
  have ht := h.sc d
  have gp := g.1
  have pk := gp.pk
  have w8 := pk.1
  have r6 := pk.2.1
  have k := hK τ d
  unfold aCount at k
  refine ⟨fun e => ⟨gp.vv, ?_⟩, fun e => ⟨gp.vv, ?_⟩, fun e => ⟨gp.vv, ?_⟩, fun e => ⟨gp.vv, ?_⟩, fun e => ?_, fun e => ?_, fun e => ?_, fun e => ?_, fun e => ?_, fun e => ?_, fun e => ?_, fun e => ?_, fun e => ?_, fun e => ⟨gp.vv, ?_⟩, fun e0 e1 e2 e3 e4 e5 e6 e7 e8 e9 e10 e11 e12 e13 => ?_⟩
  · rw [if_pos e] at k
    rw [gp.eW]
    exact k
  · subst e
    rw [if_neg (by decide), if_pos rfl] at k
    rw [gp.eR]
    exact k
  · subst e
    rw [if_neg (by decide), if_neg (by decide), if_pos rfl] at k
    rw [gp.eS]
    exact k
  · subst e
    rw [if_neg (by decide), if_neg (by decide), if_neg (by decide), if_pos rfl] at k
    rw [gp.eN]
    exact k
  · subst e
    rw [if_neg (by decide), if_neg (by decide), if_neg (by decide), if_neg (by decide), if_pos rfl] at k
    refine ⟨by exact vp_in_nI (n := 104) (by omega) (by omega), ?_⟩
    rw [show Int32.toNatClampNeg (100 + 4) = 104 from rfl, r _ (by omega)]
    exact k
  · subst e
    rw [if_neg (by decide), if_neg (by decide), if_neg (by decide), if_neg (by decide), if_neg (by decide), if_pos rfl] at k
    refine ⟨by exact vp_in_nI (n := 105) (by omega) (by omega), ?_⟩
    rw [show Int32.toNatClampNeg (100 + 5) = 105 from rfl, r _ (by omega)]
    exact k
  · subst e
    rw [if_neg (by decide), if_neg (by decide), if_neg (by decide), if_neg (by decide), if_neg (by decide), if_neg (by decide), if_pos rfl] at k
    refine tX10_count_128 ⟨fun q => absurd q (by decide), fun _ => ⟨by exact vp_in_nI (n := 96) (by omega) (by omega), ?_⟩⟩
    refine tX10_count_128 ⟨fun q => absurd q (by decide), fun _ => ⟨by exact vp_in_nI (n := 97) (by omega) (by omega), ?_⟩⟩
    refine tX10_count_128 ⟨fun q => absurd q (by decide), fun _ => ⟨by exact vp_in_nI (n := 98) (by omega) (by omega), ?_⟩⟩
    refine tX10_count_128 ⟨fun q => absurd q (by decide), fun _ => ⟨by exact vp_in_nI (n := 99) (by omega) (by omega), ?_⟩⟩
    refine tX10_count_128 ⟨fun q => ?_, fun q => absurd (by decide) q⟩
    have e0 : Int32.toNatClampNeg (96 + 0) = 96 := rfl
    have e1 : Int32.toNatClampNeg (96 + (0 + 1)) = 97 := rfl
    have e2 : Int32.toNatClampNeg (96 + (0 + 1 + 1)) = 98 := rfl
    have e3 : Int32.toNatClampNeg (96 + (0 + 1 + 1 + 1)) = 99 := rfl
    rw [e0, e1, e2, e3, r 96 (by omega), r 97 (by omega), r 98 (by omega), r 99 (by omega), Int32.zero_add, nI_add, nI_add, nI_add]
    exact k
  · subst e
    rw [if_neg (by decide), if_neg (by decide), if_neg (by decide), if_neg (by decide), if_neg (by decide), if_neg (by decide), if_neg (by decide), if_pos rfl] at k
    exact m_wetNow gp r e56 (ri k)
  · subst e
    rw [if_neg (by decide), if_neg (by decide), if_neg (by decide), if_neg (by decide), if_neg (by decide), if_neg (by decide), if_neg (by decide), if_neg (by decide), if_pos rfl] at k
    rw [ht.2.2.1.2.1]
    exact k
  · subst e
    rw [if_neg (by decide), if_neg (by decide), if_neg (by decide), if_neg (by decide), if_neg (by decide), if_neg (by decide), if_neg (by decide), if_neg (by decide), if_neg (by decide), if_pos rfl] at k
    rw [ht.2.2.2.1.2.1]
    exact k
  · subst e
    rw [if_neg (by decide), if_neg (by decide), if_neg (by decide), if_neg (by decide), if_neg (by decide), if_neg (by decide), if_neg (by decide), if_neg (by decide), if_neg (by decide), if_neg (by decide), if_pos rfl] at k
    rw [ht.2.2.2.2.2.1.2.1]
    exact k
  · subst e
    rw [if_neg (by decide), if_neg (by decide), if_neg (by decide), if_neg (by decide), if_neg (by decide), if_neg (by decide), if_neg (by decide), if_neg (by decide), if_neg (by decide), if_neg (by decide), if_neg (by decide), if_pos rfl] at k
    have ho := ht.2.2.2.2.1
    have sl : ∀ a b c : Bool, (O 0).isSome = a → (O 1).isSome = b → (O 2).isSome = c → nI (slN O 3) = (bI a + bI b) + bI c := by
      intro a b c ha hb hc
      simp only [slN, cn, ha, hb, hc]
      cases a <;> cases b <;> cases c <;> rfl
    rw [show Int32.toNatClampNeg 0 = 0 from rfl, show Int32.toNatClampNeg 1 = 1 from rfl, show Int32.toNatClampNeg 2 = 2 from rfl, (ho 0 (by omega)).1, (ho 1 (by omega)).1, (ho 2 (by omega)).1]
    have v0 : vp_in (0 : Int32) 3 := vp_in_nI (n := 0) (by omega) (by omega)
    have v1 : vp_in (1 : Int32) 3 := vp_in_nI (n := 1) (by omega) (by omega)
    have v2 : vp_in (2 : Int32) 3 := vp_in_nI (n := 2) (by omega) (by omega)
    cases h0 : (O 0).isSome <;> cases h1 : (O 1).isSome <;> cases h2 : (O 2).isSome <;> rw [sl _ _ _ h0 h1 h2] at k
    · exact ⟨v0, fun _ => ⟨v1, fun _ => ⟨v2, fun _ => k, fun q => absurd rfl q⟩, fun q => absurd rfl q⟩, fun q => absurd rfl q⟩
    · exact ⟨v0, fun _ => ⟨v1, fun _ => ⟨v2, fun q => absurd q (by decide), fun _ => k⟩, fun q => absurd rfl q⟩, fun q => absurd rfl q⟩
    · exact ⟨v0, fun _ => ⟨v1, fun q => absurd q (by decide), fun _ => ⟨v2, fun _ => k, fun q => absurd rfl q⟩⟩, fun q => absurd rfl q⟩
    · exact ⟨v0, fun _ => ⟨v1, fun q => absurd q (by decide), fun _ => ⟨v2, fun q => absurd q (by decide), fun _ => k⟩⟩, fun q => absurd rfl q⟩
    · exact ⟨v0, fun q => absurd q (by decide), fun _ => ⟨v1, fun _ => ⟨v2, fun _ => k, fun q => absurd rfl q⟩, fun q => absurd rfl q⟩⟩
    · exact ⟨v0, fun q => absurd q (by decide), fun _ => ⟨v1, fun _ => ⟨v2, fun q => absurd q (by decide), fun _ => k⟩, fun q => absurd rfl q⟩⟩
    · exact ⟨v0, fun q => absurd q (by decide), fun _ => ⟨v1, fun q => absurd q (by decide), fun _ => ⟨v2, fun _ => k, fun q => absurd rfl q⟩⟩⟩
    · exact ⟨v0, fun q => absurd q (by decide), fun _ => ⟨v1, fun q => absurd q (by decide), fun _ => ⟨v2, fun q => absurd q (by decide), fun _ => k⟩⟩⟩
  · subst e
    rw [if_neg (by decide), if_neg (by decide), if_neg (by decide), if_neg (by decide), if_neg (by decide), if_neg (by decide), if_neg (by decide), if_neg (by decide), if_neg (by decide), if_neg (by decide), if_neg (by decide), if_neg (by decide), if_pos rfl, cn_sm, ← prs_e (P := P) (fun k hk hz => by
      have hgr : grass P (k % 8) (k / 8) = false := by
        unfold grass
        exact decide_eq_false (fun z => hz ⟨z.1, z.2.1⟩)
      rw [hgr, if_neg (by decide)])] at k
    have kx : ∀ y, y < pr P → (wX10_count_220 Γ l (nI (prs P (fun k => if grass P (k % 8) (k / 8) then 1 else 0) (y + 1) 0)) (nI (y + 1)) τ K) → ∀ m x, m + x = pw P → wX10_count_236 Γ l (nI (prs P (fun k => if grass P (k % 8) (k / 8) then 1 else 0) y x)) (nI y) (nI x) τ K := by
      intro y hy kk m
      induction m with
      | zero =>
        intro x h1
        have : x = pw P := by omega
        subst this
        refine tX10_count_236 ⟨gp.vv, fun _ => ?_, fun q => absurd ?_ q⟩
        · rw [nI_1, prs_r]
          exact kk
        · rw [gp.eW]
          exact Int32.le_refl _
      | succ m ih =>
        intro x h1
        have ih := ih (x + 1) (by omega)
        rw [prs_s (by omega) (by omega) (by omega) (by omega), show (8 * y + x) % 8 = x by omega, show (8 * y + x) / 8 = y by omega] at ih
        refine tX10_count_236 ⟨gp.vv, fun q => absurd q ?_, fun _ => m_isGrass gp (by omega) (by omega) (ri ?_)⟩
        · rw [gp.eW]
          simp (disch := omega) only [nL, nI_add, pk_mul, pk_sub, nI_clamp, nI_leI, nI_ltI, nI_eq]
          omega
        · rw [bI_0, nI_1]
          refine ⟨fun z => tX10_count_263 ?_, fun z => tX10_count_263 ?_⟩
          · rw [z, if_neg (by decide)] at ih
            rw [nI_1]
            exact ih
          · simp only [Bool.not_eq_false] at z
            rw [z, if_pos rfl] at ih
            rw [nI_1]
            exact ih
    have ky : ∀ m y, m + y = pr P → wX10_count_220 Γ l (nI (prs P (fun k => if grass P (k % 8) (k / 8) then 1 else 0) y 0)) (nI y) τ K := by
      intro m
      induction m with
      | zero =>
        intro y h1
        have : y = pr P := by omega
        subst this
        refine tX10_count_220 ⟨gp.vv, fun _ => k, fun q => absurd ?_ q⟩
        rw [gp.eR]
        exact Int32.le_refl _
      | succ m ih =>
        intro y h1
        refine tX10_count_220 ⟨gp.vv, fun q => absurd q ?_, fun _ => kx y (by omega) (ih (y + 1) (by omega)) (pw P) 0 (by omega)⟩
        rw [gp.eR]
        simp (disch := omega) only [nL, nI_add, pk_mul, pk_sub, nI_clamp, nI_leI, nI_ltI, nI_eq]
        omega
    have := ky (pr P) 0 (by omega)
    rw [prs_0] at this
    exact this
  · subst e
    rw [if_neg (by decide), if_neg (by decide), if_neg (by decide), if_neg (by decide), if_neg (by decide), if_neg (by decide), if_neg (by decide), if_neg (by decide), if_neg (by decide), if_neg (by decide), if_neg (by decide), if_neg (by decide), if_neg (by decide), if_pos rfl] at k
    rw [gp.ev, gp.2.2.2.2.2.2.1]
    exact k
  · rw [if_neg e0, if_neg e1, if_neg e2, if_neg e3, if_neg e4, if_neg e5, if_neg e6, if_neg e7, if_neg e8, if_neg e9, if_neg e10, if_neg e11, if_neg e12, if_neg e13] at k
    exact k
theorem m_begins (hg : MP σ v P) (hK : ∀ τ, DM [322] [56] σ τ → MR τ 322 (begL P) → τ.1 284 56 = nI (psd P) → K none τ) : C2 Γ l mX10_begins [.ref 284] σ K := by
  have pk := hg.pk
  have w8 := pk.1
  have r6 := pk.2.1
  have off : offM [322] := fun b hb => by
    simp at hb
    omega
  have ky : ∀ m y τ, m + y = pr P → DM [322] [56] σ τ → MR τ 322 (bgP P y 0) → wX10_begins_23 Γ l (nI y) τ K := by
    intro m
    induction m with
    | zero =>
      intro y τ h1 d r
      have : y = pr P := by omega
      subst this
      have gt := hg.dm d off (by simp)
      refine tX10_begins_23 ⟨gt.vv, fun _ => ⟨gt.vv, fun s1 e1 => ?_⟩, fun q => absurd ?_ q⟩
      · rw [gt.ev, gt.2.2.2.2.2.2.2.2.2.2.1] at e1
        refine hK s1 (by rw [e1]; exact d.wF (by simp)) (fun j hj => ?_) (by rw [e1, sI_at, if_pos ⟨rfl, rfl⟩])
        rw [e1, sI_row, sA_off2 _ _ (by omega), r j hj, bgP_e]
      · rw [gt.eR]
        exact Int32.le_refl _
    | succ m ih =>
      intro y τ h1 d r
      have gt := hg.dm d off (by simp)
      refine tX10_begins_23 ⟨gt.vv, fun q => absurd q ?_, fun _ => ?_⟩
      · rw [gt.eR]
        simp (disch := omega) only [nL, nI_add, pk_mul, pk_sub, nI_clamp, nI_leI, nI_ltI, nI_eq]
        omega
      have kx : ∀ m x τ, m + x = pw P → DM [322] [56] σ τ → MR τ 322 (bgP P y x) → wX10_begins_38 Γ l (nI y) (nI x) τ K := by
        intro m
        induction m with
        | zero =>
          intro x τ h1 d r
          have : x = pw P := by omega
          subst this
          have gt := hg.dm d off (by simp)
          refine tX10_begins_38 ⟨gt.vv, fun _ => ?_, fun q => absurd ?_ q⟩
          · rw [nI_1]
            exact ih (y + 1) τ (by omega) d (by rw [← bgP_r]; exact r)
          · rw [gt.eW]
            exact Int32.le_refl _
        | succ m ihx =>
          intro x τ h1 d r
          have gt := hg.dm d off (by simp)
          have st := bgP_s (P := P) (x := x) (y := y) (by omega) (by omega) (by omega) (by omega)
          refine tX10_begins_38 ⟨gt.vv, fun q => absurd q ?_, fun _ => m_isGrass gt (by omega) (by omega) (ri ?_)⟩
          · rw [gt.eW]
            simp (disch := omega) only [nL, nI_add, pk_mul, pk_sub, nI_clamp, nI_leI, nI_ltI, nI_eq]
            omega
          · rw [bI_0, nI_1, m_ix8, nI_clamp (n := 8 * y + x) (by omega)]
            refine ⟨fun z => ihx (x + 1) τ (by omega) d ?_, fun z => ⟨gt.vv, vp_in_nI (by omega) (by omega), fun s3 e3 => ?_⟩⟩
            · rw [st, z, if_neg (by decide)]
              exact r
            · simp only [Bool.not_eq_false] at z
              rw [gt.ev, gt.2.2.2.2.2.2.2.1] at e3
              rw [e3]
              refine ihx (x + 1) _ (by omega) (d.wI (by simp) (by omega)) ?_
              rw [st, z, if_pos rfl]
              exact r.set
      exact kx (pw P) 0 τ (by omega) d r
  have kz : ∀ m k τ, m + k = 106 → DM [322] [56] σ τ → (∀ j, j < k → τ.1 322 j = 0) → wX10_begins_2 Γ l (nI k) τ K := by
    intro m
    induction m with
    | zero =>
      intro k τ h1 d a
      have : k = 106 := by omega
      subst this
      refine tX10_begins_2 ⟨fun _ => ky (pr P) 0 τ (by omega) d (fun j hj => ?_), fun q => absurd (by decide) q⟩
      rw [a j hj, bgP_0]
      rfl
    | succ m ih =>
      intro k τ h1 d a
      refine tX10_begins_2 ⟨fun q => absurd q (by simp (disch := omega) only [nL, nI_add, pk_mul, pk_sub, nI_clamp, nI_leI, nI_ltI, nI_eq]; omega), fun _ => ⟨vp_in_nI (by omega) (by omega), fun s1 e1 => ?_⟩⟩
      rw [nI_clamp (by omega)] at e1
      rw [e1, nI_1]
      refine ih (k + 1) _ (by omega) (d.wI (by simp) (by omega)) (fun j hj => ?_)
      rw [sI_at]
      by_cases e : j = k
      · rw [if_pos ⟨rfl, e⟩]
      · rw [if_neg (fun z => e z.2)]
        exact a j (by omega)
  exact tX10_begins (kz 106 0 σ rfl DM.rf (fun j hj => absurd hj (by omega)))
end MC
