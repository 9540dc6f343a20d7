/-! the model: a week -/
def bf (P : PV) (y x k : Nat) : Bool := decide (k % 8 < pw P ∧ k / 8 < pr P ∧ (k / 8 < y ∨ (k / 8 = y ∧ k % 8 < x)))
def gwP (P : PV) (L : LV) (wet : Int32) (y x : Nat) : LV := fun k => if k < 48 then (if bf P y x k then gwL P L wet k else L k) else if k < 96 then (if bf P y x (k - 48) then L k - 1 else L k) else L k
theorem bf_0 {P : PV} {k : Nat} : bf P 0 0 k = false := by
  unfold bf
  exact decide_eq_false (by omega)
theorem bf_r {P : PV} {y k : Nat} : bf P y (pw P) k = bf P (y + 1) 0 k := by
  unfold bf
  exact decide_eq_decide.mpr (by omega)
theorem bf_s {P : PV} {y x k : Nat} (h : ¬ (k / 8 = y ∧ k % 8 = x)) : bf P y (x + 1) k = bf P y x k := by
  unfold bf
  exact decide_eq_decide.mpr (by omega)
theorem bf_t {P : PV} {y x : Nat} (hx : x < pw P) (hy : y < pr P) (h8 : x < 8) : bf P y (x + 1) (8 * y + x) = true ∧ bf P y x (8 * y + x) = false := by
  unfold bf
  exact ⟨decide_eq_true (by omega), decide_eq_false (by omega)⟩
def wkR : List Nat := [319, 320, 322, 323]
theorem wkR_off : offM wkR := fun b hb => by
  simp [wkR] at hb
  omega
section M5
variable {Γ : GE} {l : Launch} {σ : SS} {K : Option Value → SS → Prop} {v : Nat} {P : PV} {L : LV}
theorem gwP_r {wet : Int32} {y : Nat} : gwP P L wet y (pw P) = gwP P L wet (y + 1) 0 := by
  funext k
  unfold gwP
  rw [bf_r, bf_r]
theorem gwP_0 {wet : Int32} : gwP P L wet 0 0 = L := by
  funext k
  unfold gwP
  rw [bf_0, bf_0]
  simp
theorem gwP_s {wet : Int32} {x y : Nat} (hx : x < pw P) (hy : y < pr P) (h8 : x < 8) (h6 : y < 6) : gwP P L wet y (x + 1) = upL (upL (gwP P L wet y x) (8 * y + x) (gwL P L wet (8 * y + x))) (48 + (8 * y + x)) (L (48 + (8 * y + x)) - 1) := by
  obtain ⟨t1, t2⟩ := bf_t hx hy h8
  funext k
  unfold upL
  by_cases e1 : k = 48 + (8 * y + x)
  · rw [if_pos e1, e1]
    unfold gwP
    rw [if_neg (by omega), if_pos (by omega), show 48 + (8 * y + x) - 48 = 8 * y + x by omega, t1, if_pos rfl]
  · rw [if_neg e1]
    by_cases e2 : k = 8 * y + x
    · rw [if_pos e2, e2]
      unfold gwP
      rw [if_pos (by omega), t1, if_pos rfl]
    · rw [if_neg e2]
      unfold gwP
      by_cases h1 : k < 48
      · rw [if_pos h1, if_pos h1, bf_s (by omega)]
      · rw [if_neg h1, if_neg h1]
        by_cases h2 : k < 96
        · rw [if_pos h2, if_pos h2, bf_s (by omega)]
        · rw [if_neg h2, if_neg h2]
theorem gwP_e {wet : Int32} (ok : LVok P L) (pk : PVok P) {k : Nat} (hk : k ≠ 104) : gwP P L wet (pr P) 0 k = gwL P L wet k := by
  have w8 := pk.1
  have r6 := pk.2.1
  unfold gwP
  by_cases h1 : k < 48
  · rw [if_pos h1]
    by_cases hb : bf P (pr P) 0 k = true
    · rw [if_pos hb]
    · rw [if_neg hb]
      have hgr : grass P (k % 8) (k / 8) = false := by
        unfold grass
        unfold bf at hb
        simp only [decide_eq_true_eq] at hb
        exact decide_eq_false (by omega)
      have z := (ok.2.1 (k % 8) (k / 8) (by omega) (by omega) hgr).1
      rw [show 8 * (k / 8) + k % 8 = k by omega] at z
      unfold gwL
      rw [if_pos h1, hgr, z]
      rfl
  · rw [if_neg h1]
    unfold gwL
    rw [if_neg h1]
    by_cases h2 : k < 96
    · rw [if_pos h2, if_pos h2]
      by_cases hb : bf P (pr P) 0 (k - 48) = true
      · rw [if_pos hb]
      · rw [if_neg hb]
        have hgr : grass P ((k - 48) % 8) ((k - 48) / 8) = false := by
          unfold grass
          unfold bf at hb
          simp only [decide_eq_true_eq] at hb
          exact decide_eq_false (by omega)
        have z := (ok.2.1 ((k - 48) % 8) ((k - 48) / 8) (by omega) (by omega) hgr).2
        rw [show 48 + (8 * ((k - 48) / 8) + (k - 48) % 8) = k by omega] at z
        rw [z]
    · rw [if_neg h2, if_neg h2, if_neg hk]
theorem MR.set {τ : SS} {a k x : Nat} (h : MR τ a L) : MR (sI τ a k (nI x)) a (upL L k x) := fun j hj => by
  rw [sI_at]
  unfold upL
  by_cases e : j = k
  · rw [if_pos ⟨rfl, e⟩, if_pos e]
  · rw [if_neg (fun z => e z.2), if_neg e]
    exact h j hj
theorem m_gg_q {wet : Int32} (hg : MG σ v P) (ok : LVok P L) (hK : ∀ τ, DM wkR [53] σ τ → MR τ 322 (gwL P L wet) → K none τ)
    (h48 : ∀ τ, DM wkR [53] σ τ → DM wkR [53] σ τ) :
    ∀ n y τ, n + y = pr P → DM wkR [53] σ τ → (∀ x y, x < pw P → y < pr P → τ.1 323 (8 * y + x) = nI (gwL P L wet (8 * y + x))) → MR τ 322 (gwP P L wet y 0) → wX10_grassGrows_98 Γ l (nI y) τ K := by
  have pk := hg.1.2.2.2.2.2.2.2.2.2.2.2.2.2.2.2
  have w8 := pk.1
  have r6 := pk.2.1
  have v1 := hg.1.1
  intro n
  induction n with
  | zero =>
    intro y τ h1 d f r
    have : y = pr P := by omega
    subst this
    have gt := hg.dm d wkR_off (by simp)
    have v6 : vp_in (104 : Int32) 106 := vp_in_nI (n := 104) (by omega) (by omega)
    refine tX10_grassGrows_98 ⟨by rw [gt.1.2.1]; exact vp2 v1, fun _ => ⟨v6, v6, fun s1 e1 => ?_⟩, fun q => absurd ?_ q⟩
    · rw [show Int32.toNatClampNeg 104 = 104 from rfl, r 104 (by omega), nI_1] at e1
      have e : gwP P L wet (pr P) 0 104 = L 104 := rfl
      rw [e] at e1
      refine hK s1 (by rw [e1]; exact d.wI (by simp [wkR]) (by omega)) ?_
      rw [e1]
      have := r.set (k := 104) (x := L 104 + 1)
      intro k hk
      rw [this k hk]
      unfold upL
      by_cases h4 : k = 104
      · rw [if_pos h4, h4, gwL_wk]
      · rw [if_neg h4, gwP_e ok pk h4]
    · rw [gt.1.2.1, nI_clamp (by omega), gt.1.2.2.2.1]
      simp (disch := omega) only [nL, nI_add, pk_mul, pk_sub, nI_clamp, nI_leI, nI_ltI, nI_eq]
      omega
  | succ n ih =>
    intro y τ h1 d f r
    have gt := hg.dm d wkR_off (by simp)
    refine tX10_grassGrows_98 ⟨by rw [gt.1.2.1]; exact vp2 v1, fun q => absurd q ?_, fun _ => ?_⟩
    · rw [gt.1.2.1, nI_clamp (by omega), gt.1.2.2.2.1]
      simp (disch := omega) only [nL, nI_add, pk_mul, pk_sub, nI_clamp, nI_leI, nI_ltI, nI_eq]
      omega
    · have inner : ∀ m x τ, m + x = pw P → DM wkR [53] σ τ → (∀ x y, x < pw P → y < pr P → τ.1 323 (8 * y + x) = nI (gwL P L wet (8 * y + x))) → MR τ 322 (gwP P L wet y x) → wX10_grassGrows_113 Γ l (nI y) (nI x) τ K := by
        intro m
        induction m with
        | zero =>
          intro x τ h1 d f r
          have : x = pw P := by omega
          subst this
          have gt := hg.dm d wkR_off (by simp)
          refine tX10_grassGrows_113 ⟨by rw [gt.1.2.1]; exact vp2 v1, fun _ => ?_, fun q => absurd ?_ q⟩
          · rw [nI_1]
            refine ih (y + 1) τ (by omega) d f ?_
            rw [← gwP_r]
            exact r
          · rw [gt.1.2.1, nI_clamp (by omega), gt.1.2.2.1]
            simp (disch := omega) only [nL, nI_add, pk_mul, pk_sub, nI_clamp, nI_leI, nI_ltI, nI_eq]
            omega
        | succ m ihx =>
          intro x τ h1 d f r
          have gt := hg.dm d wkR_off (by simp)
          refine tX10_grassGrows_113 ⟨by rw [gt.1.2.1]; exact vp2 v1, fun q => absurd q ?_, fun _ => ?_⟩
          · rw [gt.1.2.1, nI_clamp (by omega), gt.1.2.2.1]
            simp (disch := omega) only [nL, nI_add, pk_mul, pk_sub, nI_clamp, nI_leI, nI_ltI, nI_eq]
            omega
          · rw [m_ix8, m_ix56, nI_clamp (n := 8 * y + x) (by omega), nI_clamp (n := 48 + (8 * y + x)) (by omega), nI_1]
            have v6 : vp_in (nI (48 + (8 * y + x))) 106 := vp_in_nI (by omega) (by omega)
            refine ⟨vp_in_nI (by omega) (by omega), vp_in_nI (by omega) (by omega), fun s1 e1 => ⟨v6, ?_⟩⟩
            rw [f x y (by omega) (by omega)] at e1
            have r1 : MR s1 322 (upL (gwP P L wet y x) (8 * y + x) (gwL P L wet (8 * y + x))) := by
              rw [e1]
              exact r.set
            have d1 : DM wkR [53] σ s1 := by
              rw [e1]
              exact d.wI (by simp [wkR]) (by omega)
            have f1 : ∀ x y, x < pw P → y < pr P → s1.1 323 (8 * y + x) = nI (gwL P L wet (8 * y + x)) := fun x y hx hy => by
              rw [e1, sI_row, sA_off2 _ _ (by omega)]
              exact f x y hx hy
            have hval : s1.1 322 (48 + (8 * y + x)) = nI (L (48 + (8 * y + x))) := by
              rw [r1 _ (by omega)]
              unfold upL
              rw [if_neg (by omega)]
              unfold gwP
              rw [if_neg (by omega), if_pos (by omega), show 48 + (8 * y + x) - 48 = 8 * y + x by omega, (bf_t (P := P) (y := y) (x := x) (by omega) (by omega) (by omega)).2]
              rfl
            have b := (ok.1 (8 * y + x) (by omega)).2
            rw [hval, show (0 : Int32) = nI 0 from rfl, nI_leI (by omega) (by omega)]
            have st := gwP_s (P := P) (L := L) (wet := wet) (x := x) (y := y) (by omega) (by omega) (by omega) (by omega)
            refine ⟨fun q => ihx (x + 1) s1 (by omega) d1 f1 ?_, fun q => ⟨v6, v6, fun s2 e2 => ?_⟩⟩
            · rw [st]
              intro k hk
              rw [r1 k hk]
              by_cases e : k = 48 + (8 * y + x)
              · have hv := r1 k hk
                rw [e] at hv ⊢
                rw [← hv, hval]
                unfold upL
                rw [if_pos rfl, show L (48 + (8 * y + x)) = 0 by omega]
              · rw [show upL (upL (gwP P L wet y x) (8 * y + x) (gwL P L wet (8 * y + x))) (48 + (8 * y + x)) (L (48 + (8 * y + x)) - 1) k = upL (gwP P L wet y x) (8 * y + x) (gwL P L wet (8 * y + x)) k from if_neg e]
            · have e3 : nI (L (48 + (8 * y + x))) - 1 = nI (L (48 + (8 * y + x)) - 1) := by
                have := nI_pred (L (48 + (8 * y + x)) - 1)
                rw [show L (48 + (8 * y + x)) - 1 + 1 = L (48 + (8 * y + x)) by omega] at this
                exact this
              rw [e3] at e2
              rw [e2]
              refine ihx (x + 1) _ (by omega) (d1.wI (by simp [wkR]) (by omega)) (fun x y hx hy => ?_) ?_
              · rw [sI_row, sA_off2 _ _ (by omega)]
                exact f1 x y hx hy
              · rw [st]
                exact r1.set
      exact inner (pw P) 0 τ (by omega) d f r
theorem m_gg_p {wet : Int32} (hg : MG σ v P) (hr : MR σ 322 L) (ok : LVok P L) (kk : ∀ τ, DM wkR [53] σ τ → (∀ x y, x < pw P → y < pr P → τ.1 323 (8 * y + x) = nI (gwL P L wet (8 * y + x))) → MR τ 322 L → wX10_grassGrows_98 Γ l 0 τ K) :
    ∀ n y τ, n + y = pr P → DM [319, 320, 323] [53] σ τ → (∀ x' y', bef P y 0 y' x' → τ.1 323 (8 * y' + x') = nI (gwL P L wet (8 * y' + x'))) → wX10_grassGrows_7 Γ l wet (nI y) τ K := by
  have pk := hg.1.2.2.2.2.2.2.2.2.2.2.2.2.2.2.2
  have w8 := pk.1
  have r6 := pk.2.1
  have v1 := hg.1.1
  have off : offM [319, 320, 323] := fun b hb => by
    simp at hb
    omega
  intro n
  induction n with
  | zero =>
    intro y τ h1 d f
    have : y = pr P := by omega
    subst this
    have gt := hg.dm d off (by simp)
    refine tX10_grassGrows_7 ⟨by rw [gt.1.2.1]; exact vp2 v1, fun _ => kk τ (d.mo (by simp [wkR]) (by simp)) (fun x y hx hy => f x y ⟨hx, hy, Or.inl hy⟩) (hr.dm d (by simp) (by omega)), fun q => absurd ?_ q⟩
    rw [gt.1.2.1, nI_clamp (by omega), gt.1.2.2.2.1]
    simp (disch := omega) only [nL, nI_add, pk_mul, pk_sub, nI_clamp, nI_leI, nI_ltI, nI_eq]
    omega
  | succ n ih =>
    intro y τ h1 d f
    have gt := hg.dm d off (by simp)
    refine tX10_grassGrows_7 ⟨by rw [gt.1.2.1]; exact vp2 v1, fun q => absurd q ?_, fun _ => ?_⟩
    · rw [gt.1.2.1, nI_clamp (by omega), gt.1.2.2.2.1]
      simp (disch := omega) only [nL, nI_add, pk_mul, pk_sub, nI_clamp, nI_leI, nI_ltI, nI_eq]
      omega
    · have inner : ∀ m x τ, m + x = pw P → DM [319, 320, 323] [53] σ τ → (∀ x' y', bef P y x y' x' → τ.1 323 (8 * y' + x') = nI (gwL P L wet (8 * y' + x'))) → wX10_grassGrows_22 Γ l wet (nI y) (nI x) τ K := by
        intro m
        induction m with
        | zero =>
          intro x τ h1 d f
          have : x = pw P := by omega
          subst this
          have gt := hg.dm d off (by simp)
          refine tX10_grassGrows_22 ⟨by rw [gt.1.2.1]; exact vp2 v1, fun _ => ?_, fun q => absurd ?_ q⟩
          · rw [nI_1]
            refine ih (y + 1) τ (by omega) d (fun x' y' hb => f x' y' ?_)
            unfold bef at hb ⊢
            omega
          · rw [gt.1.2.1, nI_clamp (by omega), gt.1.2.2.1]
            simp (disch := omega) only [nL, nI_add, pk_mul, pk_sub, nI_clamp, nI_leI, nI_ltI, nI_eq]
            omega
        | succ m ihx =>
          intro x τ h1 d f
          have gt := hg.dm d off (by simp)
          have rt := hr.dm d (by simp) (by omega)
          have v48 : vp_in (nI (8 * y + x)) 48 := vp_in_nI (by omega) (by omega)
          have next : ∀ τ2 s3 val, DM [319, 320, 323] [53] σ τ2 → (∀ x' y', bef P y x y' x' → τ2.1 323 (8 * y' + x') = nI (gwL P L wet (8 * y' + x'))) → val = nI (gwL P L wet (8 * y + x)) → s3 = sI τ2 323 (8 * y + x) val → wX10_grassGrows_22 Γ l wet (nI y) (nI (x + 1)) s3 K := by
            intro τ2 s3 val d2 f2 ev e3
            rw [e3, ev]
            refine ihx (x + 1) _ (by omega) (d2.wI (by simp) (by omega)) (fun x' y' hb => ?_)
            rw [sI_at]
            by_cases e : 8 * y' + x' = 8 * y + x
            · rw [if_pos ⟨rfl, e⟩, e]
            · rw [if_neg (fun z => e z.2)]
              refine f2 x' y' ?_
              unfold bef at hb ⊢
              refine ⟨hb.1, hb.2.1, ?_⟩
              rcases hb.2.2 with h | ⟨h, h'⟩
              · exact Or.inl h
              · right
                refine ⟨h, ?_⟩
                have : x' ≠ x := fun z => e (by rw [h, z])
                omega
          refine tX10_grassGrows_22 ⟨by rw [gt.1.2.1]; exact vp2 v1, fun q => absurd q ?_, fun _ => m_isGrass gt.1 (by omega) (by omega) (ri ?_)⟩
          · rw [gt.1.2.1, nI_clamp (by omega), gt.1.2.2.1]
            simp (disch := omega) only [nL, nI_add, pk_mul, pk_sub, nI_clamp, nI_leI, nI_ltI, nI_eq]
            omega
          · rw [bI_0, m_ix8, nI_clamp (n := 8 * y + x) (by omega), nI_1]
            have gh := gwL_h P L wet (x := x) (y := y) (by omega) (by omega)
            refine ⟨fun q => ⟨v48, fun s3 e3 => next τ s3 0 d f (by rw [gh, q]; rfl) e3⟩, fun q => ⟨vp_in_nI (by omega) (by omega), m_growsBy gt rt ok (by omega) (by omega) (fun τ2 d2 => ri (m_held (by decide) (ri ⟨v48, fun s8 e8 => ?_⟩)))⟩⟩
            simp only [Bool.not_eq_false] at q
            rw [rt _ (by omega)] at e8
            refine next τ2 s8 _ (d.tr d2 (by simp) (by simp)) (fun x' y' hb => ?_) ?_ e8
            · rw [d2.r 323 (by simp) (by omega)]
              exact f x' y' hb
            · rw [gh, q, if_pos rfl, (hld99_n _).1]
      exact inner (pw P) 0 τ (by omega) d f
theorem m_grassGrows {seed : Int32} (hg : MG σ v P) (hr : MR σ 322 L) (ok : LVok P L) (hs : σ.1 284 56 = seed) (hK : ∀ τ, DM wkR [53] σ τ → MR τ 322 (gwL P L (wetS P seed (nI (L 104)))) → K none τ) : C2 Γ l mX10_grassGrows [.ref 284] σ K := by
  refine tX10_grassGrows (m_wetNow hg.1 hr hs (ri ?_))
  refine m_gg_p hg hr ok (fun τ d f r => ?_) (pr P) 0 σ (by omega) DM.rf (fun x' y' hb => ?_)
  · refine m_gg_q hg ok hK (fun _ d => d) (pr P) 0 τ (by omega) d f ?_
    rw [gwP_0]
    exact r
  · unfold bef at hb
    omega
theorem gwN_ok' (ok : LVok P L) {seed : Int32} : ∀ n (L : LV), LVok P L → L 104 + n < 1000000 → LVok P (gwN P seed n L)
  | 0, _, h, _ => h
  | n + 1, L, h, hn => gwN_ok' ok n _ (gwL_ok h (by omega)) (by have e4 := gwL_wk P L (wetS P seed (nI (L 104))); omega)
theorem m_grows {n : Nat} {seed : Int32} (hg : MG σ v P) (hr : MR σ 322 L) (ok : LVok P L) (hs : σ.1 284 56 = seed) (hn : L 104 + n < 1000000) (hK : ∀ τ, DM wkR [53] σ τ → MR τ 322 (gwN P seed n L) → K none τ) : C2 Γ l mX10_grows [.ref 284, .int (nI n)] σ K := by
  have key : ∀ m k M τ, m + k = n → DM wkR [53] σ τ → MR τ 322 M → LVok P M → M 104 + m < 1000000 → gwN P seed m M = gwN P seed n L → wX10_grows_2 Γ l (nI n) (nI k) τ K := by
    intro m
    induction m with
    | zero =>
      intro k M τ h1 d r okM hm e
      have : k = n := by omega
      subst this
      refine tX10_grows_2 ⟨fun _ => hK τ d (by rw [← e]; exact r), fun q => absurd (Int32.le_refl _) q⟩
    | succ m ih =>
      intro k M τ h1 d r okM hm e
      have gt := hg.dm d wkR_off (by simp)
      refine tX10_grows_2 ⟨fun q => absurd q (by simp (disch := omega) only [nL, nI_add, pk_mul, pk_sub, nI_clamp, nI_leI, nI_ltI, nI_eq]; omega), fun _ => m_grassGrows gt r okM ((d.2.1 56 (by simp)).trans hs) (fun τ2 d2 r2 => rv ?_)⟩
      rw [nI_1]
      exact ih (k + 1) _ τ2 (by omega) (d.tr d2 (fun _ z => z) (fun _ z => z)) r2 (gwL_ok okM (by omega)) (by have e4 := gwL_wk P M (wetS P seed (nI (M 104))); omega) e
  exact tX10_grows (key n 0 L σ (by omega) DM.rf hr ok hn rfl)
def wgR : List Nat := [319, 320, 322, 323, 324]
theorem wgR_off : offM wgR := fun b hb => by
  simp [wgR] at hb
  omega
theorem m_wg_o {w : Nat} (hg : MG σ v P) (ok : LVok P L) (hw : w < pnw P) (kk : ∀ τ, DM wgR [53] σ τ → (∀ j, j < 4 → τ.1 324 j = nI (L (100 + j))) → MR τ 322 (lvE P L (w + 1)) → wX10_weekGoes_34 Γ l (nI (w + 1)) τ K) :
    ∀ n o τ, n + o = pnw P → DM wgR [53] σ τ → (∀ j, j < 4 → τ.1 324 j = nI (L (100 + j))) → MR τ 322 (lvW P L w ((L (100 + w) ||| rdM P (gwL P L (wetS P (nI (psd P)) (nI (L 104)))) w (pns P)) ||| tkM P L w o)) → wX10_weekGoes_94 Γ l (nI w) (nI o) τ K := by
  have pk := hg.1.2.2.2.2.2.2.2.2.2.2.2.2.2.2.2
  have hn := pk.2.2.2.1
  have v1 := hg.1.1
  intro n
  induction n with
  | zero =>
    intro o τ h1 d h24 r
    have gt := hg.dm d wgR_off (by simp)
    have : o = pnw P := by omega
    subst this
    refine tX10_weekGoes_94 ⟨by rw [gt.1.2.1]; exact vp2 v1, fun _ => ?_, fun q => absurd ?_ q⟩
    · rw [nI_1]
      refine kk τ d h24 ?_
      rw [← lvE_1 hw, Nat.or_assoc, Nat.or_comm (tkM P L w (pnw P)), ← Nat.or_assoc]
      exact r
    · rw [gt.1.2.1, nI_clamp (by omega), gt.1.2.2.2.2.2.1]
      simp (disch := omega) only [nL, nI_add, pk_mul, pk_sub, nI_clamp, nI_leI, nI_ltI, nI_eq]
      omega
  | succ n ih =>
    intro o τ h1 d h24 r
    have gt := hg.dm d wgR_off (by simp)
    refine tX10_weekGoes_94 ⟨by rw [gt.1.2.1]; exact vp2 v1, fun q => absurd q ?_, fun _ => ?_⟩
    · rw [gt.1.2.1, nI_clamp (by omega), gt.1.2.2.2.2.2.1]
      simp (disch := omega) only [nL, nI_add, pk_mul, pk_sub, nI_clamp, nI_leI, nI_ltI, nI_eq]
      omega
    · rw [m_ix4 gt.1, nI_clamp (n := 4 * v + w) (by omega), gt.1.2.2.2.2.2.2.2.2.2.2.2.2.2.2.1 w (by omega), bit16 _ (pk.2.2.2.2.2.2.2.2.2.2.1 w (by omega)) o (by omega), show (100 : Int32) + nI w = nI (100 + w) by simp (disch := omega) only [nL, nI_add, pk_mul, pk_sub, nI_clamp, nI_leI, nI_ltI, nI_eq], nI_clamp (n := 100 + w) (by omega), nI_clamp (n := o) (by omega), h24 o (by omega), nI_1]
      have e1 : nI (ptk P w / 2 ^ o % 2) = 1 ↔ ptk P w / 2 ^ o % 2 = 1 := by
        rw [show (1 : Int32) = nI 1 from rfl, nI_eq (by omega) (by omega)]
      rw [e1]
      have v6 : vp_in (nI (100 + w)) 106 := vp_in_nI (by omega) (by omega)
      refine ⟨vp_in_nI (by omega) (by omega), fun z => ih (o + 1) τ (by omega) d h24 ?_, fun z => ⟨v6, vp_in_nI (by omega) (by omega), v6, fun s1 e1 => ?_⟩⟩
      · rw [tkM, show talkS P w o = false from decide_eq_false z]
        exact r
      · rw [r (100 + w) (by omega), show lvW P L w ((L (100 + w) ||| rdM P (gwL P L (wetS P (nI (psd P)) (nI (L 104)))) w (pns P)) ||| tkM P L w o) (100 + w) = ((L (100 + w) ||| rdM P (gwL P L (wetS P (nI (psd P)) (nI (L 104)))) w (pns P)) ||| tkM P L w o) from if_pos rfl, nI_or, Nat.or_assoc] at e1
        refine ih (o + 1) s1 (by omega) (by rw [e1]; exact d.wI (by simp [wgR]) (by omega)) (fun j hj => ?_) ?_
        · rw [e1, sI_row, sA_off2 _ _ (by omega)]
          exact h24 j hj
        · rw [tkM, show talkS P w o = true from decide_eq_true z, e1, if_pos rfl, ← lvW_up (v := (L (100 + w) ||| rdM P (gwL P L (wetS P (nI (psd P)) (nI (L 104)))) w (pns P)) ||| tkM P L w o)]
          exact r.set
theorem m_wg_s {w : Nat} (hg : MG σ v P) (ok : LVok P L) (h4 : L 104 + 1 < 1000000) (hw : w < pnw P) (kk : ∀ τ, DM wgR [53] σ τ → (∀ j, j < 4 → τ.1 324 j = nI (L (100 + j))) → MR τ 322 (lvE P L (w + 1)) → wX10_weekGoes_34 Γ l (nI (w + 1)) τ K) :
    ∀ n s τ, n + s = pns P → DM wgR [53] σ τ → (∀ j, j < 4 → τ.1 324 j = nI (L (100 + j))) → MR τ 322 (lvW P L w (L (100 + w) ||| rdM P (gwL P L (wetS P (nI (psd P)) (nI (L 104)))) w s)) → wX10_weekGoes_49 Γ l (nI w) (nI s) τ K := by
  have pk := hg.1.2.2.2.2.2.2.2.2.2.2.2.2.2.2.2
  have hs4 := pk.2.2.1
  have hn := pk.2.2.2.1
  have v1 := hg.1.1
  intro n
  induction n with
  | zero =>
    intro s τ h1 d h24 r
    have gt := hg.dm d wgR_off (by simp)
    have : s = pns P := by omega
    subst this
    refine tX10_weekGoes_49 ⟨by rw [gt.1.2.1]; exact vp2 v1, fun _ => ?_, fun q => absurd ?_ q⟩
    · refine m_wg_o hg ok hw kk (pnw P) 0 τ (by omega) d h24 ?_
      rw [tkM, Nat.or_zero]
      exact r
    · rw [gt.1.2.1, nI_clamp (by omega), gt.1.2.2.2.2.1]
      simp (disch := omega) only [nL, nI_add, pk_mul, pk_sub, nI_clamp, nI_leI, nI_ltI, nI_eq]
      omega
  | succ n ih =>
    intro s τ h1 d h24 r
    have gt := hg.dm d wgR_off (by simp)
    have hm : (L (100 + w) ||| rdM P (gwL P L (wetS P (nI (psd P)) (nI (L 104)))) w s) < 16 := or16 _ (ok.2.2.1 w (by omega)) _ (rdM_lt _ _ (by omega))
    have okw := lvW_ok (P := P) ok h4 (show w < 4 by omega) hn hs4 hm
    refine tX10_weekGoes_49 ⟨by rw [gt.1.2.1]; exact vp2 v1, fun q => absurd q ?_, fun _ => m_readsAnywhere gt.1 r okw hw (by omega) (ri ?_)⟩
    · rw [gt.1.2.1, nI_clamp (by omega), gt.1.2.2.2.2.1]
      simp (disch := omega) only [nL, nI_add, pk_mul, pk_sub, nI_clamp, nI_leI, nI_ltI, nI_eq]
      omega
    · have ec : rdA P (lvW P L w (L (100 + w) ||| rdM P (gwL P L (wetS P (nI (psd P)) (nI (L 104)))) w s)) w s = rdA P (gwL P L (wetS P (nI (psd P)) (nI (L 104)))) w s := rdA_cong pk (fun k hk => lvW_h hk)
      rw [bI_0, ec, show (100 : Int32) + nI w = nI (100 + w) by simp (disch := omega) only [nL, nI_add, pk_mul, pk_sub, nI_clamp, nI_leI, nI_ltI, nI_eq], nI_clamp (n := 100 + w) (by omega), nI_1, one_shl s (by omega)]
      have v6 : vp_in (nI (100 + w)) 106 := vp_in_nI (by omega) (by omega)
      refine ⟨fun z => ih (s + 1) τ (by omega) d h24 ?_, fun z => ⟨v6, v6, fun s3 e3 => ?_⟩⟩
      · rw [rdM, z]
        exact r
      · simp only [Bool.not_eq_false] at z
        rw [r (100 + w) (by omega), show lvW P L w (L (100 + w) ||| rdM P (gwL P L (wetS P (nI (psd P)) (nI (L 104)))) w s) (100 + w) = (L (100 + w) ||| rdM P (gwL P L (wetS P (nI (psd P)) (nI (L 104)))) w s) from if_pos rfl, nI_or, Nat.or_assoc] at e3
        refine ih (s + 1) s3 (by omega) (by rw [e3]; exact d.wI (by simp [wgR]) (by omega)) (fun j hj => ?_) ?_
        · rw [e3, sI_row, sA_off2 _ _ (by omega)]
          exact h24 j hj
        · rw [rdM, z, e3, if_pos rfl, ← lvW_up (v := L (100 + w) ||| rdM P (gwL P L (wetS P (nI (psd P)) (nI (L 104)))) w s)]
          exact r.set
theorem m_wg_w (hg : MG σ v P) (ok : LVok P L) (h4 : L 104 + 1 < 1000000) (hK : ∀ τ, DM wgR [53] σ τ → MR τ 322 (lvL P L) → K none τ) :
    ∀ n w τ, n + w = pnw P → DM wgR [53] σ τ → (∀ j, j < 4 → τ.1 324 j = nI (L (100 + j))) → MR τ 322 (lvE P L w) → wX10_weekGoes_34 Γ l (nI w) τ K := by
  have pk := hg.1.2.2.2.2.2.2.2.2.2.2.2.2.2.2.2
  have hn := pk.2.2.2.1
  have v1 := hg.1.1
  intro n
  induction n with
  | zero =>
    intro w τ h1 d h24 r
    have gt := hg.dm d wgR_off (by simp)
    have : w = pnw P := by omega
    subst this
    refine tX10_weekGoes_34 ⟨by rw [gt.1.2.1]; exact vp2 v1, fun _ => hK τ d (by rw [← lvE_2]; exact r), fun q => absurd ?_ q⟩
    rw [gt.1.2.1, nI_clamp (by omega), gt.1.2.2.2.2.2.1]
    simp (disch := omega) only [nL, nI_add, pk_mul, pk_sub, nI_clamp, nI_leI, nI_ltI, nI_eq]
    omega
  | succ n ih =>
    intro w τ h1 d h24 r
    have gt := hg.dm d wgR_off (by simp)
    refine tX10_weekGoes_34 ⟨by rw [gt.1.2.1]; exact vp2 v1, fun q => absurd q ?_, fun _ => ?_⟩
    · rw [gt.1.2.1, nI_clamp (by omega), gt.1.2.2.2.2.2.1]
      simp (disch := omega) only [nL, nI_add, pk_mul, pk_sub, nI_clamp, nI_leI, nI_ltI, nI_eq]
      omega
    · refine m_wg_s hg ok h4 (by omega) (fun τ2 d2 h2 r2 => ih (w + 1) τ2 (by omega) d2 h2 r2) (pns P) 0 τ (by omega) d h24 ?_
      rw [rdM, Nat.or_zero, ← lvE_0 (by omega)]
      exact r
theorem m_weekGoes (hg : MG σ v P) (hr : MR σ 322 L) (ok : LVok P L) (h4 : L 104 + 1 < 1000000) (hs : σ.1 284 56 = nI (psd P)) (hK : ∀ τ, DM wgR [53] σ τ → MR τ 322 (lvL P L) → K none τ) : C2 Γ l mX10_weekGoes [.ref 284] σ K := by
  refine tX10_weekGoes (m_grassGrows hg hr ok hs (fun τ0 d0 r0 => rv ?_))
  have key : ∀ n k τ, n + k = 4 → DM wgR [53] σ τ → (∀ j, j < k → τ.1 324 j = nI (L (100 + j))) → MR τ 322 (lvE P L 0) → wX10_weekGoes_6 Γ l (nI k) τ K := by
    intro n
    induction n with
    | zero =>
      intro k τ h1 d f r
      have : k = 4 := by omega
      subst this
      refine tX10_weekGoes_6 ⟨fun _ => m_wg_w hg ok h4 hK (pnw P) 0 τ (by omega) d f r, fun q => absurd (by decide) q⟩
    | succ n ih =>
      intro k τ h1 d f r
      refine tX10_weekGoes_6 ⟨fun q => absurd q (by simp (disch := omega) only [nL, nI_add, pk_mul, pk_sub, nI_clamp, nI_leI, nI_ltI, nI_eq]; omega), fun _ => ?_⟩
      rw [show (100 : Int32) + nI k = nI (100 + k) by simp (disch := omega) only [nL, nI_add, pk_mul, pk_sub, nI_clamp, nI_leI, nI_ltI, nI_eq], nI_clamp (n := 100 + k) (by omega), nI_clamp (n := k) (by omega), nI_1]
      refine ⟨vp_in_nI (by omega) (by omega), vp_in_nI (by omega) (by omega), fun s1 e1 => ?_⟩
      rw [r (100 + k) (by omega)] at e1
      have ek : lvE P L 0 (100 + k) = L (100 + k) := by
        unfold lvE
        rw [if_neg (by omega), gwL_k, if_neg (by omega)]
      rw [ek] at e1
      refine ih (k + 1) s1 (by omega) (by rw [e1]; exact d.wI (by simp [wgR]) (by omega)) (fun j hj => ?_) ?_
      · rw [e1, sI_at]
        by_cases e : j = k
        · rw [if_pos ⟨rfl, e⟩, e]
        · rw [if_neg (fun z => e z.2)]
          exact f j (by omega)
      · rw [e1]
        intro j hj
        rw [sI_row, sA_off2 _ _ (by omega)]
        exact r j hj
  refine key 4 0 τ0 rfl (d0.mo (by simp [wkR, wgR]) (by simp)) (fun j hj => absurd hj (by omega)) ?_
  have e0 : lvE P L 0 = gwL P L (wetS P (nI (psd P)) (nI (L 104))) := by
    funext k
    unfold lvE
    rw [if_neg (by omega)]
  rw [e0]
  exact r0
theorem m_goes {n : Nat} (hg : MG σ v P) (hr : MR σ 322 L) (ok : LVok P L) (hs : σ.1 284 56 = nI (psd P)) (hn : L 104 + n < 1000000) (hK : ∀ τ, DM wgR [53] σ τ → MR τ 322 (lvN P n L) → K none τ) : C2 Γ l mX10_goes [.ref 284, .int (nI n)] σ K := by
  have pk := hg.1.2.2.2.2.2.2.2.2.2.2.2.2.2.2.2
  have s4 := pk.2.2.1
  have w4 := pk.2.2.2.1
  have key : ∀ m k M τ, m + k = n → DM wgR [53] σ τ → MR τ 322 M → LVok P M → M 104 + m < 1000000 → lvN P m M = lvN P n L → wX10_goes_2 Γ l (nI n) (nI k) τ K := by
    intro m
    induction m with
    | zero =>
      intro k M τ h1 d r okM hm e
      have : k = n := by omega
      subst this
      refine tX10_goes_2 ⟨fun _ => hK τ d (by rw [← e]; exact r), fun q => absurd (Int32.le_refl _) q⟩
    | succ m ih =>
      intro k M τ h1 d r okM hm e
      have gt := hg.dm d wgR_off (by simp)
      refine tX10_goes_2 ⟨fun q => absurd q (by simp (disch := omega) only [nL, nI_add, pk_mul, pk_sub, nI_clamp, nI_leI, nI_ltI, nI_eq]; omega), fun _ => m_weekGoes gt r okM (by omega) (by rw [d.2.1 56 (by simp)]; exact hs) (fun τ2 d2 r2 => rv ?_)⟩
      rw [nI_1]
      exact ih (k + 1) _ τ2 (by omega) (d.tr d2 (fun _ z => z) (fun _ z => z)) r2 (lvL_ok okM (by omega) w4 s4) (by have e4 := lvL_wk (L := M) w4; omega) e
  exact tX10_goes (key n 0 L σ (by omega) DM.rf hr ok hn rfl)
end M5
