/-! the model: care, all, count -/
theorem sm_up {h h' : Nat → Nat} {k0 d : Nat} : ∀ n, k0 < n → (∀ k, k ≠ k0 → h k = h' k) → h k0 = h' k0 + d → sm h n = sm h' n + d
  | 0, h0, _, _ => absurd h0 (by omega)
  | n + 1, h0, h1, h2 => by
    unfold sm
    by_cases e : k0 = n
    · have ec : ∀ m, m ≤ n → sm h m = sm h' m := by
        intro m
        induction m with
        | zero => intro _; rfl
        | succ m ih =>
          intro hm
          unfold sm
          rw [ih (by omega), h1 m (by omega)]
      rw [ec n (Nat.le_refl _), ← e, h2]
      omega
    · rw [sm_up n (by omega) h1 h2, h1 n (Ne.symm e)]
      omega
theorem sm_cong {h h' : Nat → Nat} : ∀ n, (∀ k, k < n → h k = h' k) → sm h n = sm h' n
  | 0, _ => rfl
  | n + 1, e => by
    unfold sm
    rw [sm_cong n (fun k hk => e k (by omega)), e n (by omega)]
theorem cn_sm (g : Nat → Bool) : ∀ n, cn g n = sm (fun k => if g k then 1 else 0) n
  | 0 => rfl
  | n + 1 => by
    unfold cn sm
    rw [cn_sm g n]
/-- the sum over the cells ahead of (x, y) -/
def prs (P : PV) (g : Nat → Nat) (y x : Nat) : Nat := sm (fun k => if bf P y x k then g k else 0) 48
theorem prs_0 {P : PV} {g : Nat → Nat} : prs P g 0 0 = 0 := by
  unfold prs
  refine sm_zero 48 (fun k _ => ?_)
  rw [bf_0, if_neg (by decide)]
theorem prs_r {P : PV} {g : Nat → Nat} {y : Nat} : prs P g y (pw P) = prs P g (y + 1) 0 := by
  unfold prs
  refine sm_cong 48 (fun k _ => ?_)
  rw [bf_r]
theorem prs_s {P : PV} {g : Nat → Nat} {x y : Nat} (hx : x < pw P) (hy : y < pr P) (h8 : x < 8) (h6 : y < 6) : prs P g y (x + 1) = prs P g y x + g (8 * y + x) := by
  obtain ⟨t1, t2⟩ := bf_t hx hy h8
  unfold prs
  refine sm_up (k0 := 8 * y + x) 48 (by omega) (fun k hk => ?_) ?_
  · rw [bf_s (by omega)]
  · rw [t1, t2, if_pos rfl, if_neg (by decide), Nat.zero_add]
theorem prs_e {P : PV} {g : Nat → Nat} (h : ∀ k, k < 48 → ¬ (k % 8 < pw P ∧ k / 8 < pr P) → g k = 0) : prs P g (pr P) 0 = sm g 48 := by
  unfold prs
  refine sm_cong 48 (fun k hk => ?_)
  by_cases hb : bf P (pr P) 0 k = true
  · rw [if_pos hb]
  · rw [if_neg hb]
    unfold bf at hb
    simp only [decide_eq_true_eq] at hb
    exact (h k hk (by omega)).symm
def tR (M : LV) (b : Int32 × Int32) (a : Int32) : Prop := (a = -2 ∧ b = (-2, -2)) ∨ ∃ X Y, X < 8 ∧ Y < 6 ∧ a = nI (10 * Y + X) ∧ b = (nI (M (8 * Y + X)), nI (10 * Y + X))
def fin4 (w : Int32) (b : Int32 × Int32) (S C : Nat) : Int32 := if w = 2 then nI S else if w = 3 then nI C else if w = 1 then b.2 else b.1
def gmS (P : PV) (M : LV) (h : Int32) : Nat → Nat := fun k => if grass P (k % 8) (k / 8) && decide (h.toNatClampNeg ≤ M k) then 1 else 0
theorem at_d {X Y : Nat} (hX : X < 8) (hY : Y < 6) : (8 * (nI (10 * Y + X) / 10)) + (nI (10 * Y + X) - nI (10 * Y + X) / 10 * 10) = nI (8 * Y + X) := by
  rw [show nI (10 * Y + X) - nI (10 * Y + X) / 10 * 10 = nI ((10 * Y + X) % 10) from pk_rem (d := 10) (by omega) (by decide) (by decide), show (nI (10 * Y + X)) / 10 = nI ((10 * Y + X) / 10) from pk_div (d := 10) (by omega) (by decide) (by decide), show (10 * Y + X) / 10 = Y by omega, show (10 * Y + X) % 10 = X by omega]
  simp (disch := omega) only [nL, nI_add, pk_mul, pk_sub, nI_clamp, nI_leI, nI_ltI, nI_eq]
section M9
variable {Γ : GE} {l : Launch} {σ τ : SS} {K : Option Value → SS → Prop} {v : Nat} {T : List Nat} {f : Int32} {P : PV} {L : LV} {H : List LV} {O : Nat → Option LV} {D : List (Nat × Nat × Nat)} {W : Nat}
theorem m_feedsCell {x y : Nat} (hg : MG σ v P) (hr : MR σ 322 L) (ok : LVok P L) (hx : x < pw P) (hy : y < pr P) (hK : ∀ τ, DM [319, 320, 322] [53] σ τ → MR τ 322 (fdL P L x y) → K none τ) : C2 Γ l mX10_feedsCell [.ref 284, .int (nI x), .int (nI y)] σ K := by
  have pk := hg.1.pk
  have w8 := pk.1
  have r6 := pk.2.1
  have v6 : vp_in (nI (48 + (8 * y + x))) 106 := vp_in_nI (by omega) (by omega)
  have b := (ok.1 (8 * y + x) (by omega)).2
  refine tX10_feedsCell ?_
  rw [m_ix56, nI_clamp (n := 48 + (8 * y + x)) (by omega), hr _ (by omega)]
  refine ⟨v6, m_feedsBy hg hr hx hy (fun τ d => ri (m_held (by decide) (ri ⟨v6, fun s5 e5 => ?_⟩)))⟩
  obtain ⟨fe, fb⟩ := fdN_eq P L x y
  have hv : hldS (nI (L (48 + (8 * y + x))) + fdS P L x y) 0 99 = nI (min 99 (L (48 + (8 * y + x)) + fdN P L x y)) := by
    unfold hldS
    rw [fe, nI_add, show (99 : Int32) = nI 99 from rfl, imn_n (by omega) (by omega), show (0 : Int32) = nI 0 from rfl, imx_n (by omega) (by omega), Nat.max_eq_right (Nat.zero_le _)]
  rw [hv] at e5
  rw [e5]
  refine hK _ ((d.mo (by simp) (by simp)).wI (by simp) (by omega)) ?_
  have r2 := hr.dm d (by simp) (by omega)
  exact r2.set
theorem r_care {s x y : Int32} (h : MS σ T f P L H O D) (ok : OKS T P L H O D W) (hK : ∀ τ, DM scR scF σ τ → K (some (.int (aCare P L s x y))) τ) : C2 Γ l mX10_care [.ref 284, .int s, .int x, .int y] σ K := by
  obtain ⟨v, h⟩ := h
  have g := h.1.1
  have pk := g.pk
  have w8 := pk.1
  have r6 := pk.2.1
  have s4 := pk.2.2.1
  have k0 := hK σ DM.rf
  have okL := ok.2.1.1
  have o1 := ok.1
  have o2 := ok.2.1.2
  refine tX10_care (m_isSign g (ri ?_))
  rw [bI_0]
  refine ⟨fun q => ?_, fun q => m_isPlace g (ri ?_)⟩
  · rw [aCare, q, Bool.false_and] at k0
    exact k0
  rw [bI_0]
  simp only [Bool.not_eq_false] at q
  refine ⟨fun q2 => ?_, fun q2 => ?_⟩
  · simp only [Bool.not_eq_false] at q2
    have hh : ∀ τ, DM scR scF σ τ → K (some (.int (carS P L s.toNatClampNeg x.toNatClampNeg y.toNatClampNeg))) τ := fun τ d => by
      have k1 := hK τ d
      rw [aCare, q, q2] at k1
      exact k1
    obtain ⟨S, rfl, hS⟩ := vSg_nat q
    obtain ⟨X, Y, rfl, rfl, hX, hY⟩ := vPl_nat q2
    rw [nI_clamp (by omega), nI_clamp (by omega), nI_clamp (by omega)] at hh
    unfold carS at hh
    refine m_cop h (fun τ1 d1 g1 r1 e1 _ => rv (m_goneIn g1 r1 e1 okL hS hX hY (by omega) (fun τ2 d2 => ri ?_)))
    have kx : ∀ cy, cy < pr P → (∀ lt b τ, lt ≤ 100 → DM scR scF σ τ → (∀ υ, DM scR scF σ υ → K (some (.int (crF (fun q => grass P q.1 q.2) (fun q => tgS P S X Y 99 (fdL P L q.1 q.2)) (remL (pw P) (pr P) (cy + 1)) lt b))) υ) → wX10_care_39 Γ l (nI S) (nI X) (nI Y) (nI lt) b (nI (cy + 1)) τ K) →
        ∀ m cx lt b τ, m + cx = pw P → lt ≤ 100 → DM scR scF σ τ → (∀ υ, DM scR scF σ υ → K (some (.int (crF (fun q => grass P q.1 q.2) (fun q => tgS P S X Y 99 (fdL P L q.1 q.2)) (rowL (pw P) cy cx ++ remL (pw P) (pr P) (cy + 1)) lt b))) υ) → wX10_care_56 Γ l (nI S) (nI X) (nI Y) (nI lt) b (nI cy) (nI cx) τ K := by
      intro cy hcy kk m
      induction m with
      | zero =>
        intro cx lt b τ h1 hlt d hk
        have gt := (h.sc d).1
        rw [rowL_nil (by omega), List.nil_append] at hk
        refine tX10_care_56 ⟨gt.1.vv, fun _ => by rw [nI_1]; exact kk lt b τ hlt d hk, fun q => absurd ?_ q⟩
        rw [gt.1.eW]
        simp (disch := omega) only [nL, nI_add, pk_mul, pk_sub, nI_clamp, nI_leI, nI_ltI, nI_eq]
        omega
      | succ m ih =>
        intro cx lt b τ h1 hlt d hk
        have ht := h.sc d
        have gt := ht.1
        rw [rowL_cons (by omega), List.cons_append] at hk
        refine tX10_care_56 ⟨gt.1.vv, fun q => absurd q ?_, fun _ => m_isGrass gt.1 (by omega) (by omega) (ri ?_)⟩
        · rw [gt.1.eW]
          simp (disch := omega) only [nL, nI_add, pk_mul, pk_sub, nI_clamp, nI_leI, nI_ltI, nI_eq]
          omega
        · rw [bI_0, nI_1]
          refine ⟨fun z => ?_, fun z => ih (cx + 1) lt b τ (by omega) hlt d (fun υ du => ?_)⟩
          · simp only [Bool.not_eq_false] at z
            refine m_cop ht (fun τ3 d3 g3 r3 e3 _ => rv (m_feedsCell g3 r3 okL (by omega) (by omega) (fun τ4 d4 r4 => rv ?_)))
            have g4 := g3.dm d4 (fun b hb => by simp at hb; omega) (by simp)
            have e4 : τ4.1 284 56 = nI (psd P) := (d4.2.1 56 (by simp)).trans e3
            have okF := fdL_ok okL z (show cx < 8 by omega) (show cy < 6 by omega)
            have dd4 : DM scR scF σ τ4 := (d.tr d3 (fun _ z => z) (fun _ z => z)).sk d4 (by simp [scR]) (by simp [scF])
            refine m_goneIn g4 r4 e4 okF.1 hS hX hY (by have := okF.2; omega) (fun τ5 d5 => ri ?_)
            have dd5 := dd4.sk d5 wk_R f53
            have bt := tgS_le P S X Y 99 (fdL P L cx cy)
            rw [nI_ltI (by omega) (by omega), show (10 : Int32) * nI cy + nI cx = nI (10 * cy + cx) by simp (disch := omega) only [nL, nI_add, pk_mul, pk_sub, nI_clamp, nI_leI, nI_ltI, nI_eq]]
            refine ⟨fun u => ih (cx + 1) _ _ τ5 (by omega) (by omega) dd5 (fun υ du => ?_), fun u => ih (cx + 1) lt b τ5 (by omega) hlt dd5 (fun υ du => ?_)⟩
            · have k := hk υ du
              rw [crF, if_pos ⟨z, u⟩] at k
              exact k
            · have k := hk υ du
              rw [crF, if_neg (fun t => u t.2)] at k
              exact k
          · have k := hk υ du
            rw [crF, if_neg (fun t => by rw [z] at t; exact absurd t.1 (by decide))] at k
            exact k
    have ky : ∀ m cy lt b τ, m + cy = pr P → lt ≤ 100 → DM scR scF σ τ → (∀ υ, DM scR scF σ υ → K (some (.int (crF (fun q => grass P q.1 q.2) (fun q => tgS P S X Y 99 (fdL P L q.1 q.2)) (remL (pw P) (pr P) cy) lt b))) υ) → wX10_care_39 Γ l (nI S) (nI X) (nI Y) (nI lt) b (nI cy) τ K := by
      intro m
      induction m with
      | zero =>
        intro cy lt b τ h1 hlt d hk
        have gt := (h.sc d).1
        rw [remL_nil (by omega)] at hk
        refine tX10_care_39 ⟨gt.1.vv, fun _ => hk τ d, fun q => absurd ?_ q⟩
        rw [gt.1.eR]
        simp (disch := omega) only [nL, nI_add, pk_mul, pk_sub, nI_clamp, nI_leI, nI_ltI, nI_eq]
        omega
      | succ m ih =>
        intro cy lt b τ h1 hlt d hk
        have gt := (h.sc d).1
        rw [remL_cons (by omega)] at hk
        refine tX10_care_39 ⟨gt.1.vv, fun q => absurd q ?_, fun _ => ?_⟩
        · rw [gt.1.eR]
          simp (disch := omega) only [nL, nI_add, pk_mul, pk_sub, nI_clamp, nI_leI, nI_ltI, nI_eq]
          omega
        · exact kx cy (by omega) (fun lt b τ hlt d hk => ih (cy + 1) lt b τ (by omega) hlt d hk) (pw P) 0 lt b τ (by omega) hlt d hk
    exact ky (pr P) 0 _ (-2) τ2 (by omega) (tgS_le P S X Y 99 L) (d1.sk d2 wk_R f53) hh
  · rw [aCare, q2, Bool.and_false] at k0
    exact k0
theorem r_all_x {w h : Int32} {M : LV} {B : Int32 × Int32} {y : Nat} (g : MP σ v P) (r : MR σ 322 M) (ok : LVok P M) (hy : y < pr P) (hw3 : w = 3 → vIn h 99 = true)
    (kk : ∀ b a c, tR M b a → (w = 3 → c = nI (prs P (gmS P M h) (y + 1) 0)) → tlF M (remL (pw P) (pr P) (y + 1)) b = B → wX10_all_55 Γ l w h a (nI (prs P M (y + 1) 0)) c (nI (y + 1)) σ K) :
    ∀ m x b a c, m + x = pw P → tR M b a → (w = 3 → c = nI (prs P (gmS P M h) y x)) → tlF M (rowL (pw P) y x ++ remL (pw P) (pr P) (y + 1)) b = B → wX10_all_72 Γ l w h a (nI (prs P M y x)) c (nI y) (nI x) σ K := by
  have pk := g.pk
  have w8 := pk.1
  have r6 := pk.2.1
  intro m
  induction m with
  | zero =>
    intro x b a c h1 hR hc hB
    have : x = pw P := by omega
    subst this
    rw [rowL_nil (by omega), List.nil_append] at hB
    refine tX10_all_72 ⟨g.vv, fun _ => ?_, fun q => absurd ?_ q⟩
    · rw [nI_1, prs_r]
      exact kk b a c hR (fun e => by rw [← prs_r]; exact hc e) hB
    · rw [g.eW]
      simp (disch := omega) only [nL, nI_add, pk_mul, pk_sub, nI_clamp, nI_leI, nI_ltI, nI_eq]
      omega
  | succ m ih =>
    intro x b a c h1 hR hc hB
    rw [rowL_cons (by omega), List.cons_append, tlF] at hB
    have bM := (ok.1 (8 * y + x) (by omega)).1
    refine tX10_all_72 ⟨g.vv, fun q => absurd q ?_, fun _ => ?_⟩
    · rw [g.eW]
      simp (disch := omega) only [nL, nI_add, pk_mul, pk_sub, nI_clamp, nI_leI, nI_ltI, nI_eq]
      omega
    · rw [m_ix8, nI_clamp (n := 8 * y + x) (by omega), r _ (by omega)]
      refine ⟨vp_in_nI (by omega) (by omega), fun v1 e1 => m_isGrass g (by omega) (by omega) (ri ?_)⟩
      rw [nI_add, ← prs_s (by omega) (by omega) (by omega) (by omega)] at e1
      rw [e1]
      have gs := prs_s (P := P) (g := gmS P M h) (x := x) (y := y) (by omega) (by omega) (by omega) (by omega)
      have go : ∀ c', (w = 3 → c' = nI (prs P (gmS P M h) y (x + 1))) → wX10_all_128 Γ l w h a (nI (prs P M y (x + 1))) c' (nI y) (nI x) (nI (M (8 * y + x))) σ K := by
        intro c' hc'
        have take : (¬ nI (M (8 * y + x)) ≤ b.1) → wX10_all_157 Γ l w h (nI (prs P M y (x + 1))) c' (nI y) (nI x) σ K := by
          intro hz
          refine tX10_all_157 (tX10_all_167 ?_)
          rw [nI_1, show (10 : Int32) * nI y + nI x = nI (10 * y + x) by simp (disch := omega) only [nL, nI_add, pk_mul, pk_sub, nI_clamp, nI_leI, nI_ltI, nI_eq]]
          rw [if_neg hz] at hB
          exact ih (x + 1) _ _ c' (by omega) (Or.inr ⟨x, y, by omega, by omega, rfl, rfl⟩) hc' hB
        refine tX10_all_128 ?_
        rcases hR with ⟨ha, hb⟩ | ⟨X, Y, hX, hY, ha, hb⟩
        · rw [ha]
          refine ⟨fun _ => take ?_, fun q => absurd (by decide) q⟩
          rw [hb]
          intro z
          exact absurd (Int32.lt_of_le_of_lt z (by decide)) (nI_pos (by omega))
        · rw [ha, at_d hX hY, nI_clamp (n := 8 * Y + X) (by omega), r _ (by omega)]
          refine ⟨fun q => absurd q (nI_pos (by omega)), fun _ => ⟨vp_in_nI (by omega) (by omega), fun z => tX10_all_167 ?_, fun z => take (by rw [hb]; exact z)⟩⟩
          rw [nI_1]
          have z' : nI (M (8 * y + x)) ≤ b.1 := by rw [hb]; exact z
          rw [if_pos z'] at hB
          exact ih (x + 1) b _ c' (by omega) (Or.inr ⟨X, Y, hX, hY, rfl, hb⟩) hc' hB
      have gg : gmS P M h (8 * y + x) = if grass P x y && decide (h.toNatClampNeg ≤ M (8 * y + x)) then 1 else 0 := by
        unfold gmS
        rw [show (8 * y + x) % 8 = x by omega, show (8 * y + x) / 8 = y by omega]
      rw [bI_0]
      refine ⟨fun q => go c (fun e => ?_), fun q => ⟨fun z => go c (fun e => ?_), fun z => go (c + 1) (fun e => ?_)⟩⟩
      · rw [gs, gg, q, Bool.false_and, if_neg (by decide)]
        exact hc e
      · obtain ⟨N, hN, hN2⟩ := vIn_nat (hw3 e)
        rw [hN, nI_ltI (by omega) (by omega)] at z
        rw [gs, gg, hN, nI_clamp (by omega), decide_eq_false (by omega), Bool.and_false, if_neg (by decide), ← hN]
        exact hc e
      · simp only [Bool.not_eq_false] at q
        obtain ⟨N, hN, hN2⟩ := vIn_nat (hw3 e)
        rw [hN, nI_ltI (by omega) (by omega)] at z
        rw [gs, gg, q, hN, nI_clamp (by omega), decide_eq_true (by omega), Bool.and_true, if_pos rfl, hc e, nI_1, ← hN]
theorem r_all_y {w h : Int32} {M : LV} {B : Int32 × Int32} (g : MP σ v P) (r : MR σ 322 M) (ok : LVok P M) (hw : vIn w 3 = true) (hw3 : w = 3 → vIn h 99 = true)
    (hK : K (some (.int (fin4 w B (sm M 48) (cn (fun k => grass P (k % 8) (k / 8) && decide (h.toNatClampNeg ≤ M k)) 48)))) σ) :
    ∀ m y b a c, m + y = pr P → tR M b a → (w = 3 → c = nI (prs P (gmS P M h) y 0)) → tlF M (remL (pw P) (pr P) y) b = B → wX10_all_55 Γ l w h a (nI (prs P M y 0)) c (nI y) σ K := by
  have pk := g.pk
  have w8 := pk.1
  have r6 := pk.2.1
  intro m
  induction m with
  | zero =>
    intro y b a c h1 hR hc hB
    have : y = pr P := by omega
    subst this
    rw [remL_nil (by omega), tlF] at hB
    subst hB
    refine tX10_all_55 ⟨g.vv, fun _ => ⟨fun e => ?_, fun e => ?_, fun e => ?_, fun e0 e1 e2 => ?_⟩, fun q => absurd ?_ q⟩
    · subst e
      rw [fin4, if_neg (by decide), if_neg (by decide), if_neg (by decide)] at hK
      rcases hR with ⟨ha, hb⟩ | ⟨X, Y, hX, hY, ha, hb⟩
      · rw [ha]
        rw [hb] at hK
        exact ⟨fun q => absurd q (by decide), fun _ => hK⟩
      · rw [ha, at_d hX hY, nI_clamp (n := 8 * Y + X) (by omega), r _ (by omega)]
        rw [hb] at hK
        exact ⟨fun _ => ⟨vp_in_nI (by omega) (by omega), hK⟩, fun q => absurd (Int32.not_lt.mp (nI_pos (by omega))) q⟩
    · subst e
      rw [fin4, if_neg (by decide), if_neg (by decide), if_pos rfl] at hK
      rcases hR with ⟨ha, hb⟩ | ⟨X, Y, hX, hY, ha, hb⟩
      · rw [ha]
        rw [hb] at hK
        exact hK
      · rw [ha]
        rw [hb] at hK
        exact hK
    · subst e
      rw [fin4, if_pos rfl] at hK
      rw [prs_e (fun k hk hz => ?_)]
      · exact hK
      · have hgr : grass P (k % 8) (k / 8) = false := by
          unfold grass
          exact decide_eq_false (fun z => hz ⟨z.1, z.2.1⟩)
        have := (ok.2.1 (k % 8) (k / 8) (by omega) (by omega) hgr).1
        rw [show 8 * (k / 8) + k % 8 = k by omega] at this
        exact this
    · have e3 : w = 3 := by
        obtain ⟨N, hN, hN2⟩ := vIn_nat hw
        have : N = 0 ∨ N = 1 ∨ N = 2 ∨ N = 3 := by omega
        rcases this with rfl | rfl | rfl | rfl
        · exact absurd hN e0
        · exact absurd hN e1
        · exact absurd hN e2
        · exact hN
      rw [hc e3, prs_e (fun k hk hz => ?_)]
      · rw [fin4, if_neg e2, if_pos e3, cn_sm] at hK
        exact hK
      · unfold gmS
        have hgr : grass P (k % 8) (k / 8) = false := by
          unfold grass
          exact decide_eq_false (fun z => hz ⟨z.1, z.2.1⟩)
        rw [hgr, Bool.false_and, if_neg (by decide)]
    · rw [g.eR]
      simp (disch := omega) only [nL, nI_add, pk_mul, pk_sub, nI_clamp, nI_leI, nI_ltI, nI_eq]
      omega
  | succ m ih =>
    intro y b a c h1 hR hc hB
    rw [remL_cons (by omega)] at hB
    refine tX10_all_55 ⟨g.vv, fun q => absurd q ?_, fun _ => ?_⟩
    · rw [g.eR]
      simp (disch := omega) only [nL, nI_add, pk_mul, pk_sub, nI_clamp, nI_leI, nI_ltI, nI_eq]
      omega
    · exact r_all_x g r ok (by omega) hw3 (fun b a c hR hc hB => ih (y + 1) b a c (by omega) hR hc hB) (pw P) 0 b a c (by omega) hR hc hB
theorem r_all {n w h : Int32} (hX : MS σ T f P L H O D) (ok : OKS T P L H O D W) (hK : ∀ τ, DM scR scF σ τ → K (some (.int (aAll P L n w h))) τ) : C2 Γ l mX10_all [.ref 284, .int n, .int w, .int h] σ K := by
  obtain ⟨v, hX⟩ := hX
  have k0 := hK σ DM.rf
  have o1 := ok.1
  have o2 := ok.2.1.2
  have okL := ok.2.1.1
  refine tX10_all (m_isLong (ri ?_))
  rw [bI_0]
  refine ⟨fun q => tX10_all_31 ?_, fun q => m_in (n := 3) (by omega) (ri ?_)⟩
  · rw [aAll, q, Bool.false_and, Bool.false_and] at k0
    exact k0
  rw [bI_0]
  simp only [Bool.not_eq_false] at q
  refine ⟨fun q2 => tX10_all_31 ?_, fun q2 => ?_⟩
  · rw [aAll, q2, Bool.and_false, Bool.false_and] at k0
    exact k0
  simp only [Bool.not_eq_false] at q2
  have go : (w = 3 → vIn h 99 = true) → wX10_all_33 Γ l n w h σ K := by
    intro hw3
    have hh : ∀ τ, DM scR scF σ τ → K (some (.int (allS P (gwN P (nI (psd P)) n.toNatClampNeg L) w h))) τ := fun τ d => by
      have k1 := hK τ d
      have e3 : (decide (¬ w = 3) || vIn h 99) = true := by
        by_cases e : w = 3
        · rw [hw3 e, Bool.or_true]
        · rw [decide_eq_true e, Bool.true_or]
      rw [aAll, q, q2, e3] at k1
      exact k1
    obtain ⟨N, rfl, hN⟩ := vIn_nat q
    rw [nI_clamp (by omega)] at hh
    refine tX10_all_33 (m_cop hX (fun τ1 d1 g1 r1 e1 _ => rv (m_grows g1 r1 okL e1 (by omega) (fun τ2 d2 r2 => rv ?_))))
    have g2 := g1.dm d2 wkR_off (by simp)
    have ok2 := gwN_ok' okL (seed := nI (psd P)) N L okL (by omega)
    have k := hh τ2 (d1.sk d2 wk_R f53)
    have z := r_all_y (Γ := Γ) (l := l) (K := K) (w := w) (h := h) g2.1 r2 ok2 q2 hw3 (B := tlF (gwN P (nI (psd P)) N L) (clls P) (-2, -2)) k (pr P) 0 (-2, -2) (-2) 0 (by omega) (Or.inl ⟨rfl, rfl⟩) (fun _ => by rw [prs_0]; rfl) rfl
    rw [prs_0] at z
    exact z
  refine ⟨fun e => go (fun z => absurd z e), fun e => m_in (n := 99) (by omega) (ri ?_)⟩
  rw [bI_0]
  refine ⟨fun q3 => go (fun _ => by simpa using q3), fun q3 => tX10_all_31 ?_⟩
  rw [aAll, q3, decide_eq_false (fun z => z e), Bool.or_false, Bool.and_false] at k0
  exact k0
end M9
