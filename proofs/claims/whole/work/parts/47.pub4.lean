/-! the class: care, all, count -/
theorem hld9_n (v : Int32) : ∃ n, n ≤ 9 ∧ hldS v 0 9 = nI n := by
  unfold hldS imx imn
  by_cases h1 : v < 9
  · rw [if_pos h1]
    by_cases h2 : 0 < v
    · rw [if_pos h2]
      obtain ⟨j, hj, rfl⟩ := nI_of (x := v) (fun z => absurd (Int32.lt_trans h2 z) (by decide))
      refine ⟨j, ?_, rfl⟩
      have := (nI_ltI hj (b := 9) (by omega)).mp h1
      omega
    · rw [if_neg h2]
      exact ⟨0, by omega, rfl⟩
  · rw [if_neg h1]
    exact ⟨9, by omega, rfl⟩
def fdN (P : PV) (L : LV) (x y : Nat) : Nat := (fdS P L x y).toNatClampNeg
theorem fdN_eq (P : PV) (L : LV) (x y : Nat) : fdS P L x y = nI (fdN P L x y) ∧ fdN P L x y ≤ 9 := by
  obtain ⟨n, h1, h2⟩ := hld9_n (evL (ownV P L x y) (plw P 1))
  unfold fdN fdS
  rw [h2, nI_clamp (by omega)]
  exact ⟨rfl, h1⟩
/-- a cell is fed -/
def fdL (P : PV) (L : LV) (x y : Nat) : LV := upL L (48 + (8 * y + x)) (min 99 (L (48 + (8 * y + x)) + fdN P L x y))
theorem fdL_ok {P : PV} {L : LV} {x y : Nat} (ok : LVok P L) (hg : grass P x y = true) (hx : x < 8) (hy : y < 6) : LVok P (fdL P L x y) ∧ fdL P L x y 104 = L 104 := by
  refine ⟨⟨fun k hk => ⟨?_, ?_⟩, fun x' y' hx' hy' hgr => ⟨?_, ?_⟩, fun w hw => ?_, ?_⟩, ?_⟩
  · unfold fdL upL
    rw [if_neg (by omega)]
    exact (ok.1 k hk).1
  · unfold fdL upL
    split
    · exact Nat.min_le_left _ _
    · exact (ok.1 k hk).2
  · unfold fdL upL
    rw [if_neg (by omega)]
    exact (ok.2.1 x' y' hx' hy' hgr).1
  · unfold fdL upL
    rw [if_neg (fun e => by
      have e1 : x' = x := by omega
      have e2 : y' = y := by omega
      subst e1; subst e2
      rw [hg] at hgr
      exact absurd hgr (by decide))]
    exact (ok.2.1 x' y' hx' hy' hgr).2
  · unfold fdL upL
    rw [if_neg (by omega)]
    exact ok.2.2.1 w hw
  · unfold fdL upL
    rw [if_neg (by omega)]
    exact ok.2.2.2
  · unfold fdL upL
    rw [if_neg (by omega)]
/-- where food keeps a sign longest: the first of the best -/
def crF (g : Nat × Nat → Bool) (n : Nat × Nat → Nat) : List (Nat × Nat) → Nat → Int32 → Int32
  | [], _, b => b
  | q :: r, lt, b => if g q = true ∧ lt < n q then crF g n r (n q) (nI (10 * q.2 + q.1)) else crF g n r lt b
def usS (V : LawV) (j : Nat) : Bool := (encL 0 V).any (fun w => decide (w = -1 - nI j))
def carS (P : PV) (L : LV) (s x y : Nat) : Int32 := crF (fun q => grass P q.1 q.2) (fun q => tgS P s x y 99 (fdL P L q.1 q.2)) (clls P) (tgS P s x y 99 L) (-2)
def aCare (P : PV) (L : LV) (s x y : Int32) : Int32 := if vSg P s && vPl P x y then carS P L s.toNatClampNeg x.toNatClampNeg y.toNatClampNeg else -1
/-- a law that does not speak of a variable -/
def noV (j : Nat) (e : Ex) : Prop := ∀ o, o ∈ e → o.1 = 1 → o.2 ≠ nI j
theorem evE_no {f g : Nat → Int32} {j : Nat} (h : ∀ k, k < 9 → k ≠ j → f k = g k) : ∀ (e : Ex) (st : List Int32) (d r : Nat), okE e d r → noV j e → evE f e st = evE g e st
  | [], st, d, r, _, _ => rfl
  | (k, v) :: es, st, d, r, hk, hn => by
    obtain ⟨⟨o1, o2, o3⟩, ho⟩ := hk
    have hn2 : noV j es := fun o ho h1 => hn o (List.mem_cons_of_mem _ ho) h1
    by_cases hk1 : k ≤ 1
    · rw [if_pos hk1] at ho
      have hk01 : k = 0 ∨ k = 1 := by omega
      rcases hk01 with rfl | rfl
      · simpa [evE] using evE_no h es (v :: st) (d + 1) r ho.2 hn2
      · obtain ⟨i, hj, rfl⟩ := o3 rfl
        have hne : i ≠ j := fun e => hn (1, nI i) (List.mem_cons_self ..) rfl (by rw [e])
        have := evE_no h es (g (nI i).toNatClampNeg :: st) (d + 1) r ho.2 hn2
        rw [show evE f ((1, nI i) :: es) st = evE f es (f (nI i).toNatClampNeg :: st) by simp [evE], show evE g ((1, nI i) :: es) st = evE g es (g (nI i).toNatClampNeg :: st) by simp [evE], h _ (by rw [nI_clamp (by omega)]; exact hj) (by rw [nI_clamp (by omega)]; exact hne)]
        exact this
    · rw [if_neg hk1] at ho
      have hk0 : ¬ k = 0 := by omega
      have hk2 : ¬ k = 1 := by omega
      match st with
      | [] => simp [evE, hk0, hk2]
      | [x] => simp [evE, hk0, hk2]
      | y :: x :: st =>
        have := evE_no h es (opS k x y :: st) (d - 1) r ho.2 hn2
        simp only [evE, if_neg hk0, if_neg hk2, this]
theorem noV_of {j : Nat} {e : Ex} {ws : List Int32} (h : ∀ w, w ∈ ws → w ≠ -1 - nI j) (hs : ∀ w, w ∈ e.map encO → w ∈ ws) : noV j e := fun o ho h1 h2 => by
  refine h _ (hs _ (List.mem_map_of_mem ho)) ?_
  obtain ⟨k, v⟩ := o
  simp only at h1 h2
  subst h1; subst h2
  rfl
theorem evL_no {f g : Nat → Int32} {j : Nat} (h : ∀ k, k < 9 → k ≠ j → f k = g k) : ∀ (V : LawV) (o : Nat), okL V → (∀ w, w ∈ encL o V → w ≠ -1 - nI j) → evL f V = evL g V
  | [], _, _, _ => rfl
  | (none, t) :: bs, o, ok, hn => by
    have := evE_no h t [] 0 1 ok.2 (noV_of hn (fun w hw => by unfold encL; exact List.mem_append_left _ hw))
    unfold evL evT
    rw [this]
  | (some (e1, e2), t) :: bs, o, ok, hn => by
    obtain ⟨ok1, ok2, ok3, ok4, ok5⟩ := ok
    unfold encL at hn
    have n1 := evE_no h e1 [] 0 1 ok1 (noV_of hn (fun w hw => by simp only [List.mem_append]; exact Or.inl hw))
    have n2 := evE_no h e2 [] 0 1 ok2 (noV_of hn (fun w hw => by simp only [List.mem_append]; exact Or.inr (Or.inl hw)))
    have n3 := evE_no h t [] 0 1 ok4 (noV_of hn (fun w hw => by simp only [List.mem_append]; exact Or.inr (Or.inr (Or.inr (Or.inl hw)))))
    have n4 := evL_no h bs _ ok5 (fun w hw => hn w (by simp only [List.mem_append]; exact Or.inr (Or.inr (Or.inr (Or.inr (Or.inr hw))))))
    unfold evL evT
    rw [n1, n2, n3, n4]
theorem usS_no {V : LawV} {j : Nat} (h : usS V j = false) : ∀ w, w ∈ encL 0 V → w ≠ -1 - nI j := fun w hw e => by
  unfold usS at h
  rw [List.any_eq_false] at h
  exact h w hw (by simp [e])
section Q4
variable {Γ : GE} {l : Launch} {σ : SS} {K : Option Value → SS → Prop} {T : List Nat} {f : Int32} {P : PV} {L : LV} {H : List LV} {O : Nat → Option LV} {D : List (Nat × Nat × Nat)} {W : Nat} {p a : Nat}
theorem c_food {x y : Nat} (hg : XGL σ p P) (hl : XL σ a L) (ok : LVok P L) (hx : x < pw P) (hy : y < pr P) (hK : ∀ τ, Df [47, p + 14, a + 2] σ τ → XL τ a (fdL P L x y) → K none τ) : C2 Γ l mX1_giveFood [.ref 46, .ref a, .int (nI x), .int (nI y)] σ K := by
  have w8 := hg.1.2.2.1
  have r6 := hg.1.2.2.2.1
  have hp := isP_or hg.1.2.1.1
  have hge := isL_ge hl.1
  refine c_giveFood hg hl hx hy (fun τ d => ?_)
  obtain ⟨e1, e2⟩ := fdN_eq P L x y
  have b := (ok.1 (8 * y + x) (by omega)).2
  rw [e1, nI_add, show (99 : Int32) = nI 99 from rfl, imn_n (by omega) (by omega)]
  refine hK _ ((d.mo (by simp +contextual)).wI (by simp)) ?_
  exact XL_setf (hl.df d (by simp; omega) (by simp; omega) (by simp; omega) (by simp; omega) (by simp; omega)) (by omega) (by omega)
theorem c_uses_k {V : LawV} {j : Nat} (hw : XW σ a V) (hK : K (some (.int (bI (usS V j)))) σ) :
    ∀ m i, m + i = (encL 0 V).length → (∀ w, w ∈ (encL 0 V).take i → w ≠ -1 - nI j) → wX2_uses_2 Γ l a (nI j) (nI i) σ K := by
  obtain ⟨w1, w2, w3, w4, w5⟩ := hw
  intro m
  induction m with
  | zero =>
    intro i g1 g2
    refine tX2_uses_2 w1 ⟨fun _ => ?_, fun q => absurd ?_ q⟩
    · have : usS V j = false := by
        unfold usS
        rw [List.any_eq_false]
        intro w hw
        rw [List.take_of_length_le (by omega)] at g2
        simpa using g2 w hw
      rw [this] at hK
      exact hK
    · rw [w4]
      simp (disch := omega) only [nL, nI_add, pk_mul, pk_sub, nI_clamp, nI_leI, nI_ltI, nI_eq]
      omega
  | succ m ih =>
    intro i g1 g2
    have hi : i < (encL 0 V).length := by omega
    refine tX2_uses_2 w1 ⟨fun q => absurd q ?_, fun _ => ⟨vp_in_nI (by omega) (by omega), tX2_codeOfVar (ri ⟨fun q => ?_, fun q => ?_⟩)⟩⟩
    · rw [w4]
      simp (disch := omega) only [nL, nI_add, pk_mul, pk_sub, nI_clamp, nI_leI, nI_ltI, nI_eq]
      omega
    · rw [nI_1]
      refine ih (i + 1) (by omega) (fun w hw => ?_)
      rw [List.take_succ_eq_append_getElem hi, List.mem_append] at hw
      rcases hw with hw | hw
      · exact g2 w hw
      · simp only [List.mem_singleton] at hw
        have := w5 i hi
        rw [Nat.zero_add] at this
        rw [nI_clamp (by omega), this] at q
        rw [hw]
        exact q
    · have : usS V j = true := by
        unfold usS
        rw [List.any_eq_true]
        refine ⟨_, List.getElem_mem hi, ?_⟩
        have := w5 i hi
        rw [Nat.zero_add] at this
        rw [nI_clamp (by omega), this] at q
        simpa using q
      rw [this] at hK
      exact hK
theorem c_uses {V : LawV} {j : Nat} (hw : XW σ a V) (hK : K (some (.int (bI (usS V j)))) σ) : C2 Γ l mX2_uses [.ref a, .int (nI j)] σ K :=
  tX2_uses hw.1 (c_uses_k hw hK (encL 0 V).length 0 rfl (by simp))
theorem q_care_x {s x y cy : Nat} (h : XS σ T f P L H O D) (ok : OKS T P L H O D W) (hs : s < pns P) (hx : x + 2 < pw P) (hy : y + 2 < pr P) (hc : cy < pr P)
    (kk : ∀ τ lt b, lt ≤ 100 → Df sc0 σ τ → (∀ υ, Df sc0 σ υ → K (some (.int (crF (fun q => grass P q.1 q.2) (fun q => tgS P s x y 99 (fdL P L q.1 q.2)) (remL (pw P) (pr P) (cy + 1)) lt b))) υ) → wX9_care_59 Γ l (nI s) (nI x) (nI y) (nI lt) b (nI (cy + 1)) τ K) :
    ∀ m cx τ lt b, m + cx = pw P → lt ≤ 100 → Df sc0 σ τ → (∀ υ, Df sc0 σ υ → K (some (.int (crF (fun q => grass P q.1 q.2) (fun q => tgS P s x y 99 (fdL P L q.1 q.2)) (rowL (pw P) cy cx ++ remL (pw P) (pr P) (cy + 1)) lt b))) υ) → wX9_care_74 Γ l (nI s) (nI x) (nI y) (nI lt) b (nI cy) (nI cx) τ K := by
  have h0 := h
  obtain ⟨p, ⟨h1, -⟩, h2, h3, h4, h5, h6, h7, h8⟩ := h
  have pk := h2.1.2.2
  have w8 := pk.1
  have r6 := pk.2.1
  have hp := h2.1.2.1.1
  have hpp := isP_or hp
  have o1 := ok.1
  have o2 := ok.2.1.2
  intro m
  induction m with
  | zero =>
    intro cx τ lt b g1 g2 d hK
    have ht := h2.df d sc0_scr.off
    rw [rowL_nil (by omega), List.nil_append] at hK
    refine tX9_care_74 ⟨p, by rw [d.2]; exact h1, hp, fun q => by rw [nI_1]; exact kk τ lt b g2 d hK, fun q => absurd ?_ q⟩
    rw [ht.1.2.1.2.1]
    simp (disch := omega) only [nL, nI_add, pk_mul, pk_sub, nI_clamp, nI_leI, nI_ltI, nI_eq]
    omega
  | succ m ih =>
    intro cx τ lt b g1 g2 d hK
    have ht := h2.df d sc0_scr.off
    rw [rowL_cons (by omega), List.cons_append] at hK
    refine tX9_care_74 ⟨p, by rw [d.2]; exact h1, hp, fun q => absurd q ?_, fun _ => ?_⟩
    · rw [ht.1.2.1.2.1]
      simp (disch := omega) only [nL, nI_add, pk_mul, pk_sub, nI_clamp, nI_leI, nI_ltI, nI_eq]
      omega
    · rw [nI_1]
      refine ⟨fun q => ih (cx + 1) τ lt b (by omega) g2 d (fun υ dυ => ?_), fun q => ⟨p, by rw [d.2]; exact h1, hp, c_isGrass ht.1.2.1 pk (by omega) (by omega) (ri ?_)⟩⟩
      · have k := hK υ dυ
        have q2 : 99 < lt := by revert q; simp (disch := omega) only [nL, nI_add, pk_mul, pk_sub, nI_clamp, nI_leI, nI_ltI, nI_eq]; exact id
        have := tgS_le P s x y 99 (fdL P L cx cy)
        rw [crF, if_neg (fun z => by have := z.2; simp only at this; omega)] at k
        exact k
      · rw [bI_0]
        refine ⟨fun q2 => ih (cx + 1) τ lt b (by omega) g2 d (fun υ dυ => ?_), fun q2 => ?_⟩
        · have k := hK υ dυ
          rw [crF, if_neg (by simp [q2])] at k
          exact k
        · simp only [Bool.not_eq_false] at q2
          refine c_become isL_t (h3.sc d sc0_scr (by omega)) (by decide) (fun υ d2 hl2 => rv ?_)
          have dd2 := d.s0 d2 (scr_l (Or.inl rfl))
          refine c_food (h2.df dd2 sc0_scr.off) hl2 ok.2.1.1 (by omega) (by omega) (fun ξ d3 hl3 => rv ?_)
          have dd3 := dd2.s0 d3 (fun b hb => by simp at hb; omega)
          obtain ⟨fk, fw⟩ := fdL_ok ok.2.1.1 q2 (by omega) (by omega)
          refine tX9_weeksTillGone (q_tg h0 hs hx hy 99 0 ξ _ rfl dd3 hl3 fk (by omega) (fun ζ d4 => ri ?_))
          have hle := tgS_le P s x y 99 (fdL P L cx cy)
          rw [Nat.zero_add]
          refine ⟨fun t => ih (cx + 1) ζ lt b (by omega) g2 d4 (fun ω dω => ?_), fun t => ?_⟩
          · have k := hK ω dω
            rw [nI_leI (by omega) (by omega)] at t
            rw [crF, if_neg (fun z => by have := z.2; simp only at this; omega)] at k
            exact k
          · rw [show (10 : Int32) * nI cy + nI cx = nI (10 * cy + cx) by simp (disch := omega) only [nL, nI_add, pk_mul, pk_sub, nI_clamp, nI_leI, nI_ltI, nI_eq]]
            refine ih (cx + 1) ζ _ _ (by omega) hle d4 (fun ω dω => ?_)
            have k := hK ω dω
            rw [nI_leI (by omega) (by omega)] at t
            rw [crF, if_pos ⟨q2, by simp only; omega⟩] at k
            exact k
theorem q_care_y {s x y : Nat} (h : XS σ T f P L H O D) (ok : OKS T P L H O D W) (hs : s < pns P) (hx : x + 2 < pw P) (hy : y + 2 < pr P) :
    ∀ m cy τ lt b, m + cy = pr P → lt ≤ 100 → Df sc0 σ τ → (∀ υ, Df sc0 σ υ → K (some (.int (crF (fun q => grass P q.1 q.2) (fun q => tgS P s x y 99 (fdL P L q.1 q.2)) (remL (pw P) (pr P) cy) lt b))) υ) → wX9_care_59 Γ l (nI s) (nI x) (nI y) (nI lt) b (nI cy) τ K := by
  have h0 := h
  obtain ⟨p, ⟨h1, -⟩, h2, h3, h4, h5, h6, h7, h8⟩ := h
  have pk := h2.1.2.2
  have w8 := pk.1
  have r6 := pk.2.1
  have hp := h2.1.2.1.1
  intro m
  induction m with
  | zero =>
    intro cy τ lt b g1 g2 d hK
    have ht := h2.df d sc0_scr.off
    rw [remL_nil (by omega)] at hK
    refine tX9_care_59 ⟨p, by rw [d.2]; exact h1, hp, fun q => hK τ d, fun q => absurd ?_ q⟩
    rw [ht.1.2.1.2.2.1]
    simp (disch := omega) only [nL, nI_add, pk_mul, pk_sub, nI_clamp, nI_leI, nI_ltI, nI_eq]
    omega
  | succ m ih =>
    intro cy τ lt b g1 g2 d hK
    have ht := h2.df d sc0_scr.off
    rw [remL_cons (by omega)] at hK
    refine tX9_care_59 ⟨p, by rw [d.2]; exact h1, hp, fun q => absurd q ?_, fun _ => ?_⟩
    · rw [ht.1.2.1.2.2.1]
      simp (disch := omega) only [nL, nI_add, pk_mul, pk_sub, nI_clamp, nI_leI, nI_ltI, nI_eq]
      omega
    · exact q_care_x h0 ok hs hx hy (by omega) (fun υ lt' b' h1' dυ z => ih (cy + 1) υ lt' b' (by omega) h1' dυ z) (pw P) 0 τ lt b (by omega) g2 d hK
/-- food does nothing where GROWS does not speak of it -/
def sameB (L M : LV) : Prop := (∀ k, k < 48 → L k = M k) ∧ L 104 = M 104
theorem gwL_same {L M : LV} {wet : Int32} (hw : okL (plw P 0)) (hu : usS (plw P 0) 4 = false) (h : sameB L M) : sameB (gwL P L wet) (gwL P M wet) := by
  refine ⟨fun k hk => ?_, by rw [gwL_wk, gwL_wk, h.2]⟩
  unfold gwL
  rw [if_pos hk, if_pos hk]
  by_cases hg : grass P (k % 8) (k / 8) = true
  · rw [if_pos hg, if_pos hg, h.1 k hk]
    have : grS P L (k % 8) (k / 8) wet = grS P M (k % 8) (k / 8) wet := by
      unfold grS
      congr 1
      refine evL_no (j := 4) (fun i hi hne => ?_) (plw P 0) 0 hw (usS_no hu)
      have hc : ∀ i, i < 80 → cH L i = cH M i := fun i hi => by
        unfold cH
        by_cases hb : inb i = true
        · rw [if_pos hb, if_pos hb]
          simp only [inb, decide_eq_true_eq] at hb
          exact h.1 _ (by unfold kOf; omega)
        · rw [if_neg hb, if_neg hb]
      unfold grV
      by_cases h3 : i = 3
      · rw [if_pos h3, if_pos h3]
      · rw [if_neg h3, if_neg h3]
        by_cases h7 : i = 7
        · rw [if_pos h7, if_pos h7]
          unfold nbS
          rw [hc _ (by omega), hc _ (by omega), hc _ (by omega), hc _ (by omega)]
        · rw [if_neg h7, if_neg h7]
          have h8 : i = 0 ∨ i = 1 ∨ i = 2 ∨ i = 5 ∨ i = 6 ∨ i = 8 := by omega
          rcases h8 with rfl | rfl | rfl | rfl | rfl | rfl
          · simp only [ownV]
            rw [h.1 _ (by omega)]
          · rfl
          · simp only [ownV]
            rw [h.2]
          · rfl
          · rfl
          · rfl
    rw [this]
  · rw [if_neg hg, if_neg hg]
theorem rdW_cong {L M : LV} {s x y : Nat} (hx : x + 2 < 8) (hy : y + 2 < 6) (h : ∀ k, k < 48 → L k = M k) : rdW P L s x y = rdW P M s x y := by
  unfold rdW
  refine any_cong _ (fun w _ => ?_)
  unfold rdS
  rw [stdS_cong P hx hy h]
theorem tgS_same {s x y : Nat} (hx : x + 2 < 8) (hy : y + 2 < 6) (hw : okL (plw P 0)) (hu : usS (plw P 0) 4 = false) : ∀ m L M, sameB L M → tgS P s x y m L = tgS P s x y m M
  | 0, L, M, h => by
    unfold tgS
    rw [rdW_cong hx hy h.1]
  | m + 1, L, M, h => by
    unfold tgS
    rw [rdW_cong hx hy h.1, h.2, tgS_same hx hy hw hu m _ _ (gwL_same hw hu h)]
theorem crF_none {g : Nat × Nat → Bool} {n : Nat × Nat → Nat} {lt : Nat} {b : Int32} : ∀ r : List (Nat × Nat), (∀ q, q ∈ r → n q ≤ lt) → crF g n r lt b = b
  | [], _ => rfl
  | q :: r, h => by
    have := h q (List.mem_cons_self ..)
    rw [crF, if_neg (by omega)]
    exact crF_none r (fun z hz => h z (List.mem_cons_of_mem _ hz))
theorem carS_no {s x y : Nat} (pk : PVok P) (hx : x + 2 < 8) (hy : y + 2 < 6) (hw : okL (plw P 0)) (hu : usS (plw P 0) 4 = false) : carS P L s x y = -2 := by
  unfold carS
  refine crF_none _ (fun q hq => ?_)
  have hq2 := clls_in hq
  have w8 := pk.1
  have r6 := pk.2.1
  refine Nat.le_of_eq (tgS_same hx hy hw hu 99 _ _ ⟨fun k hk => ?_, ?_⟩)
  · unfold fdL upL
    rw [if_neg (by omega)]
  · unfold fdL upL
    rw [if_neg (by omega)]
theorem q_care {s x y : Int32} (h : XS σ T f P L H O D) (ok : OKS T P L H O D W) (hK : ∀ τ, Df sc0 σ τ → K (some (.int (aCare P L s x y))) τ) : C2 Γ l mX9_care [.ref 0, .int s, .int x, .int y] σ K := by
  have h0 := h
  obtain ⟨p, ⟨h1, -⟩, h2, h3, h4, h5, h6, h7, h8⟩ := h
  have pk := h2.1.2.2
  have w8 := pk.1
  have r6 := pk.2.1
  have s4 := pk.2.2.1
  have hp := h2.1.2.1.1
  have o1 := ok.1
  have o2 := ok.2.1.2
  refine tX9_care ⟨p, h1, hp, c_hasPlace h2.1.2.1 (ri ?_)⟩
  rw [bI_0, vP_eq pk]
  refine ⟨fun q => ⟨p, h1, hp, c_uses (j := 4) h2.2.1 (ri ?_)⟩, fun q => ?_⟩
  · simp only [Bool.not_eq_false] at q
    rw [aCare, q] at hK
    simp only [Bool.and_eq_true] at q
    obtain ⟨S, rfl, hS⟩ := vSg_nat q.1
    obtain ⟨X, Y, rfl, rfl, hX, hY⟩ := vPl_nat q.2
    rw [nI_clamp (by omega), nI_clamp (by omega), nI_clamp (by omega)] at hK
    rw [bI_0]
    refine ⟨fun u => ?_, fun u => ?_⟩
    · refine c_become isL_t h3 (by decide) (fun υ d2 hl2 => rv ?_)
      refine tX9_weeksTillGone (q_tg h0 hS hX hY 99 0 υ L rfl (Df.rf.s0 d2 (scr_l (Or.inl rfl))) hl2 ok.2.1.1 (by omega) (fun ζ d4 => ri ?_))
      rw [Nat.zero_add]
      exact q_care_y h0 ok hS hX hY (pr P) 0 ζ _ (-2) (by omega) (tgS_le P S X Y 99 L) d4 hK
    · have k := hK σ Df.rf
      rw [if_pos rfl, carS_no pk (by omega) (by omega) h2.2.1.2.1 u] at k
      exact k
  · have k := hK σ Df.rf
    rw [aCare, q] at k
    exact k
end Q4
