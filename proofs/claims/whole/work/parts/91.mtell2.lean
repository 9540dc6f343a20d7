/-! the model: rows and signs are told -/
section M22
variable {Γ : GE} {l : Launch} {σ τ : SS} {K : Option Value → SS → Prop} {T : List Nat} {sd a : Nat} {late : LF} {P : PV} {N : Nms} {ρ : Type} {R : Rs ρ} {k : Kt3 ρ} {e : Nat × Nat}
theorem MQr.nm (h : MQr σ sd T a late P N) {i : Nat} (hi : i < a) (hk : tkK T i = 1) : σ.2.1 290 i = lN (nmM (tkN T i)) := by
  obtain ⟨h1, ⟨⟨a1, a2, a3, a4, a5, a6⟩, -⟩, -⟩ := h
  exact (a2 i (by omega) (by omega) (fun j hj => a3 j (by omega))).2.2.2 hk
theorem MQr.n (h : MQr σ sd T a late P N) {j : Nat} (hj : j < 9) : σ.1 (nR j) sd = nI (P.1 j 0) := h.2.2.2.2.1.1 j hj
theorem sun_m : ∀ c, c < 27 → 1 ≤ c → (nI c = 16 ↔ c = 16) ∧ (c ≠ 16 → nI c - 1 = sunV c) := by decide
theorem blm_wr {q : Nat} {c : Bool} {n : Nat} (h : ∀ m r, late = some (m, r) → r < q) : ∀ m r, blm late c n q = some (m, r) → r < q ∨ (r = q ∧ m ≤ n) := fun m r z => by
  unfold blm at z
  by_cases e : late = none ∧ c = true
  · rw [if_pos e] at z
    injection z with z
    injection z with z1 z2
    omega
  · rw [if_neg e] at z
    exact Or.inl (h m r z)
/-- a late fault at a token that was passed -/
theorem m_wrongQ {n j : Nat} (h : MQr σ sd T a late P N) (hj : j < a) (hn : 1 ≤ n ∧ n ≤ 6) (hw : ∀ m q, late = some (m, q) → q < tkP T j ∨ (q = tkP T j ∧ m ≤ n))
    (hK : ∀ τ, F4 σ τ → MQr τ sd T a (blm late true n (tkP T j)) P N → K none τ) : C2 Γ l mX10_wrong [.ref 284, .int (nI n), .int (nI j)] σ K := by
  have hl := h.2.1
  obtain ⟨⟨a1, a2, a3, a4, a5, a6⟩, b1⟩ := id hl
  refine m_wrong a2 (fun i hi => a3 i (by omega)) a6 b1 (by omega) a1 hn hw (fun τ d f1 f2 hm => hK τ d (h.f4 d ⟨⟨a1, a2.f4 d, a3, a4, by rw [f1]; exact a5, f2⟩, ?_⟩ (Nat.le_refl _) blm_n))
  rw [show max a (j + 1) = a by omega] at hm
  exact hm
theorem m_tellRow_72 {w : List Nat} {k1 : Nat → Rs ρ} {j : Nat} (hs : sd ≤ 1) (ok : lOk w) (l1 : 1 ≤ w.length) (l8 : w.length ≤ 8) (hr6 : pr P < 6) (h : MQr σ sd T a late (setP P 0 0 (if pr P = 0 then w.length else pw P)) N) (hj : j < a) (hjk : tkK T j = 1) (hw : tkN T j = w) (hlen : late = none → pr P = 0 ∨ w.length = pw P) (hsun : late = none → ∀ x y, x < pw P → y < pr P → σ.1 296 (48 * sd + 8 * y + x) = psun P x y) (hR : pTake T 4 a k1 = R)
    (herr : ∀ τ e, FQ sd σ τ → DEr τ e → R = .error e → K none τ) (hok : ∀ τ, FQ sd σ τ → MQr τ sd T (a + 1) late (rowP P w) N → k1 (a + 1) = R → K none τ) :
    ∀ m x τ, m + x = w.length → (∀ b, b ≠ 296 → τ.1 b = σ.1 b) → τ.2 = σ.2 → (∀ i, (i < 48 * sd + 8 * pr P ∨ 48 * sd + 8 * pr P + x ≤ i) → τ.1 296 i = σ.1 296 i) → (∀ u, u < x → τ.1 296 (48 * sd + 8 * pr P + u) = sunV (w.getD u 0)) → FQ sd σ τ → wX10_tellRow_72 Γ l (nI j) (nI w.length) (nI x) τ K := by
  have h5 : σ.1 295 sd = nI (pr P) := h.n (j := 1) (by omega)
  have ja := h.2.1.1.2.2.2.1
  intro m
  induction m with
  | zero =>
    intro x τ h1 f1 f2 f3 f4 fq
    have ex : x = w.length := by omega
    subst ex
    refine tX10_tellRow_72 ⟨fun _ => ?_, fun q => absurd (Int32.le_refl _) q⟩
    have lv : Lv1 τ T a late := h.2.1.cg (fun b b1 b2 => f1 b (by omega)) (by rw [f2]) (fun k hk => by rw [f1 284 (by omega)])
    refine m_must (c := 4) rfl (by omega) (by omega) lv hR (fun υ e d f z => rv ⟨fun _ => herr υ e (fq.tr d.fq) f z, fun y => absurd y f.n0⟩) (fun υ d hl _ ha z => rv ⟨fun y => absurd hl.1.2.2.2.2.2 y, fun _ => ?_⟩)
    have e19 : υ.1 284 19 = nI sd := by
      rw [d.2.1 19 (by omega) (by omega) (by omega) (by omega) (by omega), f1 284 (by omega)]
      exact h.2.2.1
    have e95 : υ.1 295 sd = nI (pr P) := by rw [d.1 295 (by omega), f1 295 (by omega)]; exact h5
    rw [e19, nI_clamp (by omega), e95, nI_1]
    refine ⟨vp_in_nI (by omega) (by omega), vp_in_nI (by omega) (by omega), fun s3 e3 => ?_⟩
    have ro : ∀ b, b ≠ 295 → b ≠ 284 → b ≠ 296 → s3.1 b = σ.1 b := fun b b1 b2 b3 => by rw [e3, sI_row, sA_off2 _ _ b1, d.1 b b2, f1 b b3]
    have r84 : s3.1 284 = υ.1 284 := by rw [e3, sI_row, sA_off2 _ _ (by omega)]
    have u84 : ∀ k, k ≠ 11 → k ≠ 13 → k ≠ 14 → k ≠ 15 → k ≠ 16 → s3.1 284 k = σ.1 284 k := fun k k1 k2 k3 k4 k5 => by rw [r84, d.2.1 k k1 k2 k3 k4 k5, f1 284 (by omega)]
    have r2 : s3.2 = σ.2 := by rw [e3]; show υ.2 = σ.2; rw [d.2.2, f2]
    have s96 : s3.1 296 = τ.1 296 := by rw [e3, sI_row, sA_off2 _ _ (by omega), d.1 296 (by omega)]
    obtain ⟨g1, g2, g3, g4, ⟨b1, b2, b3, b4, b5⟩, g6, g7⟩ := h
    refine hok s3 (by rw [e3]; exact MQr.fqn (j := 1) hs (by omega) (fq.tr d.fq)) ⟨hs, hl.cg (fun b c1 c2 => by rw [e3, sI_row, sA_off2 _ _ (by omega)]) (by rw [e3]; rfl) (fun k hk => by rw [r84]), by rw [u84 19 (by omega) (by omega) (by omega) (by omega) (by omega)]; exact g3, by rw [u84 12 (by omega) (by omega) (by omega) (by omega) (by omega)]; exact g4, ⟨fun i hi => ?_, fun z x y hx hy => ?_, fun z s k hs hk => ?_, ?_, ?_⟩, g6.cg (u84 20 (by omega) (by omega) (by omega) (by omega) (by omega)) (ro 293 (by omega) (by omega) (by omega)) (by rw [r2]), g7.cg (by omega) (u84 40 (by omega) (by omega) (by omega) (by omega) (by omega)) (u84 46 (by omega) (by omega) (by omega) (by omega) (by omega)) (fun b c1 c2 => ro b (by omega) (by omega) (by omega)) rfl⟩ z
    · by_cases e1 : i = 1
      · subst e1
        show s3.1 295 sd = nI (pr P + 1)
        rw [e3, sI_at, if_pos ⟨rfl, rfl⟩]
      · have hn : nR i ≠ 295 ∧ nR i ≠ 284 ∧ nR i ≠ 296 := (by decide : ∀ i, i < 9 → i ≠ 1 → nR i ≠ 295 ∧ nR i ≠ 284 ∧ nR i ≠ 296) i hi e1
        rw [ro _ hn.1 hn.2.1 hn.2.2, b1 i hi]
        congr 1
        show (if i = 0 ∧ 0 = 0 then (if pr P = 0 then w.length else pw P) else P.1 i 0) = if i = 0 ∧ 0 = 0 then (if pr P = 0 then w.length else pw P) else if i = 1 ∧ 0 = 0 then pr P + 1 else P.1 i 0
        by_cases e0 : i = 0 ∧ 0 = 0
        · rw [if_pos e0, if_pos e0]
        · rw [if_neg e0, if_neg e0, if_neg (by omega)]
    · have hx' : x < (if pr P = 0 then w.length else pw P) := hx
      have hy' : y < pr P + 1 := hy
      have hl2 := hlen z
      show _ = if y = pr P ∧ x < w.length then sunV (w.getD x 0) else psun P x y
      rw [s96]
      by_cases ey : y = pr P
      · have hxl : x < w.length := by
          split at hx' <;> omega
        rw [if_pos ⟨ey, hxl⟩, ey]
        exact f4 x hxl
      · rw [if_neg (fun q => ey q.1)]
        rw [if_neg (by omega)] at hx'
        rw [f3 _ (by omega)]
        exact hsun z x y hx' (by omega)
    · rw [ro 298 (by omega) (by omega) (by omega)]
      exact b3 z s k hs hk
    · rw [ro 300 (by omega) (by omega) (by omega), ro 301 (by omega) (by omega) (by omega), ro 302 (by omega) (by omega) (by omega)]
      exact b4
    · rw [ro 303 (by omega) (by omega) (by omega)]
      exact b5
  | succ m ih =>
    intro x τ h1 f1 f2 f3 f4 fq
    have gp := getD_pos ok (i := x) (by omega)
    obtain ⟨s1, s2⟩ := sun_m (w.getD x 0) (by omega) (by omega)
    have e19 : τ.1 284 19 = nI sd := by rw [f1 284 (by omega)]; exact h.2.2.1
    have e95 : τ.1 295 sd = nI (pr P) := by rw [f1 295 (by omega)]; exact h5
    have en : τ.2.1 290 j = lN (nmM w) := by rw [f2, ← hw]; exact h.nm hj hjk
    refine tX10_tellRow_72 ⟨fun q => absurd q (by simp (disch := omega) only [nL, nI_add, pk_mul, pk_sub, nI_clamp, nI_leI, nI_ltI, nI_eq]; omega), fun _ => ⟨vp_in_nI (by omega) (by omega), ?_⟩⟩
    rw [nI_clamp (by omega), en]
    refine m_letterIn ok l8 l1 (by omega) (fun r hr => ri ?_)
    rw [hr (by omega), e19, nI_clamp (n := sd) (by omega), e95]
    have ix : (48 * nI sd + 8 * nI (pr P)) + nI x = nI (48 * sd + 8 * pr P + x) := by simp (disch := omega) only [nL, nI_add, pk_mul, pk_sub, nI_clamp, nI_leI, nI_ltI, nI_eq]
    rw [ix, nI_clamp (by omega), s1, nI_1]
    have vi : vp_in (nI (48 * sd + 8 * pr P + x)) 96 := vp_in_nI (by omega) (by omega)
    have st : ∀ (s : SS) (v : Int32), v = sunV (w.getD x 0) → s = sI τ 296 (48 * sd + 8 * pr P + x) v → wX10_tellRow_72 Γ l (nI j) (nI w.length) (nI (x + 1)) s K := fun s v hv es => by
      refine ih (x + 1) s (by omega) (fun b hb => by rw [es, sI_row, sA_off2 _ _ hb]; exact f1 b hb) (by rw [es]; exact f2) (fun i hi => ?_) (fun u hu => ?_) (by rw [es]; exact fq.wr hs (by omega) (by omega) (by show 48 * sd ≤ _; omega) (by show _ < 48 * sd + 48; omega))
      · rw [es, sI_at, if_neg (by omega)]
        exact f3 i (by omega)
      · rw [es, sI_at]
        by_cases e : u = x
        · rw [if_pos ⟨rfl, by omega⟩, hv, e]
        · rw [if_neg (by omega)]
          exact f4 u (by omega)
    refine ⟨vp_in_nI (by omega) (by omega), fun q => ⟨vi, fun s6 e6 => st s6 _ (s2 q) e6⟩, fun q => ⟨vi, fun s7 e7 => st s7 _ ?_ e7⟩⟩
    unfold sunV
    rw [if_pos q]
theorem m_tellRow (h : MQr σ sd T a late P N) (hi : PI late P N) (hr6 : pr P < 6) {k1 : Nat → LF → PV → Nms → Rs ρ}
    (hR : pTake T 1 a (fun a2 => pTake T 4 a2 (fun a3 => k1 a3 (blm late (decide (pr P ≠ 0 ∧ (tkN T a).length ≠ pw P)) 6 (tkP T a)) (rowP P (tkN T a)) N)) = R)
    (herr : ∀ τ e, FQ sd σ τ → DEr τ e → R = .error e → K none τ)
    (hok : ∀ τ a' late' P' N', FQ sd σ τ → MQr τ sd T a' late' P' N' → PI late' P' N' → a < a' → k1 a' late' P' N' = R → K none τ) : C2 Γ l mX10_tellRow [.ref 284] σ K := by
  have hs := h.1
  have w8 := hi.1
  have h4 := h.2.1.1.2.2.2.1
  have hlt := h.2.1.2.lt h.2.1.1.2.2.1
  refine tX10_tellRow (m_must (c := 1) rfl (by omega) (by omega) h.2.1 hR (fun τ e d f z => rv ⟨fun y => absurd y f.nle, fun _ => herr τ e d.fq f z⟩) (fun τ d hl hk1 ha z => rv ⟨fun _ => ?_, fun y => absurd (by rw [hl.1.2.2.2.2.2]; decide) y⟩))
  have h1 := h.f4 d hl (by omega) (fun z => z)
  obtain ⟨ok, l1, l8⟩ := (tk_kind T a).1 hk1
  rw [h.2.1.1.2.2.2.2.1, nI_clamp (n := a) (by omega), h1.nm (i := a) (by omega) hk1]
  refine ⟨vp_in_nI (by omega) (by omega), m_lettersIn ok l8 (ri ?_)⟩
  have e95 : τ.1 295 sd = nI (pr P) := h1.n (j := 1) (by omega)
  have e94 : τ.1 294 sd = nI (pw P) := h1.n (j := 0) (by omega)
  rw [h1.2.2.1, nI_clamp (n := sd) (by omega), e95, e94, show (0 : Int32) = nI 0 from rfl, nI_eq (a := pr P) (by omega) (by omega), nI_eq (a := (tkN T a).length) (by omega) (by omega)]
  have v2 : vp_in (nI sd) 2 := vp_in_nI (by omega) (by omega)
  have fin : ∀ (υ : SS) (late' : LF), FQ sd σ υ → MQr υ sd T (a + 1) late' (setP P 0 0 (if pr P = 0 then (tkN T a).length else pw P)) N → blm late (decide (pr P ≠ 0 ∧ (tkN T a).length ≠ pw P)) 6 (tkP T a) = late' → υ.1 296 = τ.1 296 → wX10_tellRow_72 Γ l (nI a) (nI (tkN T a).length) (nI 0) υ K := fun υ late' fq hq hl' r96 => by
    have zz := z
    simp only [hl'] at zz
    refine m_tellRow_72 (σ := υ) (late := late') (w := tkN T a) hs ok l1 l8 hr6 hq (by omega) hk1 rfl (fun y => ?_) (fun y => ?_) zz (fun ξ e dx f t => herr ξ e (fq.tr dx) f t) (fun ξ dx hx t => hok ξ _ _ _ _ (fq.tr dx) hx ?_ (by omega) t) (tkN T a).length 0 υ (by omega) (fun _ _ => rfl) rfl (fun _ _ => rfl) (fun u hu => absurd hu (by omega)) FQ.rf
    · rw [← hl'] at y
      have := (blm_none y).2
      simp only [decide_eq_false_iff_not] at this
      omega
    · rw [r96]
      rw [← hl'] at y
      exact h1.2.2.2.2.1.2.1 (blm_none y).1
    · rw [← hl']
      exact PI_row hi (by omega) ⟨l1, l8⟩
  have q0 : ∀ (hz : pr P ≠ 0), setP P 0 0 (if pr P = 0 then (tkN T a).length else pw P) = P := fun hz => by
    refine Prod.ext ?_ rfl
    funext c b
    show (if c = 0 ∧ b = 0 then (if pr P = 0 then (tkN T a).length else pw P) else P.1 c b) = P.1 c b
    by_cases e : c = 0 ∧ b = 0
    · rw [if_pos e, if_neg hz, e.1, e.2]
      rfl
    · rw [if_neg e]
  refine ⟨v2, fun q => ⟨v2, fun e => ?_, fun e => ?_⟩, fun q => ⟨v2, fun s7 e7 => ?_⟩⟩
  · exact fin τ late d.fq (by rw [q0 q]; exact h1) (by rw [decide_eq_false (by omega), blm_f]) rfl
  · refine m_wrongQ (n := 6) h1 (by omega) (by omega) (fun m r y => Or.inl (hlt m r y)) (fun υ d2 h2 => rv ?_)
    exact fin υ _ (d.fq.tr d2.fq) (by rw [q0 q]; exact h2) (by rw [decide_eq_true ⟨q, e⟩]) (d2.1 296 (by omega))
  · have h2 := h1.num (j := 0) (v := (tkN T a).length) (by omega)
    have en : nR 0 = 294 := rfl
    rw [en, ← e7] at h2
    have r84 : s7.1 284 19 = nI sd := h2.2.2.1
    have g94 : s7.1 294 sd = nI (tkN T a).length := by rw [e7, sI_at, if_pos ⟨rfl, rfl⟩]
    rw [r84, nI_clamp (n := sd) (by omega), g94]
    refine ⟨v2, fun _ => ?_, fun y => absurd rfl y⟩
    refine fin s7 late (by rw [e7]; exact MQr.fqn (j := 0) hs (by omega) d.fq) (by rw [if_pos q]; exact h2) (by rw [decide_eq_false (by omega), blm_f]) (by rw [e7, sI_row, sA_off2 _ _ (by omega)])
/-! names -/
theorem len_N : ∀ N : Nms, N.length = (sN N).length + (wN N).length
  | [] => rfl
  | q :: N => by
    have := len_N N
    rw [List.length_cons, sN, wN]
    split
    · rw [List.length_cons]
      omega
    · rw [List.length_cons]
      omega
theorem PI.len (hi : PI late P N) : N.length = pns P + pnw P := by
  rw [len_N N, hi.2.2.2.2.2.1, hi.2.2.2.2.2.2.1]
theorem m_named {k1 : Nat → Rs ρ} (h : MQr σ sd T a late P N) (hi : PI late P N) (hR : pTake T 1 a k1 = R)
    (herr : ∀ τ e, F4 σ τ → DEr τ e → R = .error e → K (some (.int (nI a))) τ)
    (hok : ∀ τ, F4 σ τ → MQr τ sd T (a + 1) (blm late (isNm N (tkN T a)) 3 (tkP T a)) P N → tkK T a = 1 → k1 (a + 1) = R → K (some (.int (nI a))) τ) : C2 Γ l mX10_named [.ref 284] σ K := by
  have hlt := h.2.1.2.lt h.2.1.1.2.2.1
  have h4 := h.2.1.1.2.2.2.1
  have hN := hi.len
  have n4 := hi.2.2.1
  have w4 := hi.2.2.2.1
  have i9 := hi.2.2.2.2.2.2.2.2.1
  refine tX10_named ?_
  rw [h.2.1.1.2.2.2.2.1]
  refine m_must (c := 1) rfl (by omega) (by omega) h.2.1 hR (fun τ e d f z => rv (tX10_named_12 ⟨fun _ => herr τ e d f z, fun _ => ⟨fun _ => herr τ e d f z, fun y => absurd y f.n0⟩⟩)) (fun τ d hl hk1 ha z => rv ?_)
  obtain ⟨ok, l1, l8⟩ := (tk_kind T a).1 hk1
  have h1 := h.f4 d hl (by omega) (fun z => z)
  have loop : ∀ m i υ, m + i = N.length → F4 σ υ → MQr υ sd T (a + 1) (blm late (isNm (N.take i) (tkN T a)) 3 (tkP T a)) P N → wX10_named_12 Γ l (nI a) (nI i) υ K := by
    intro m
    induction m with
    | zero =>
      intro i υ e1 d2 h2
      rw [List.take_of_length_le (by omega)] at h2
      refine tX10_named_12 ⟨fun _ => hok υ d2 h2 hk1 z, fun q => absurd ?_ q⟩
      rw [h2.2.2.2.2.2.1.1, nI_leI (by omega) (by omega)]
      omega
    | succ m ih =>
      intro i υ e1 d2 h2
      have hl : i < N.length := by omega
      obtain ⟨n1, n2⟩ := h2.2.2.2.2.2.1.2 i hl
      obtain ⟨o1, o2⟩ := i9 N[i] (List.getElem_mem hl)
      have st : isNm (N.take (i + 1)) (tkN T a) = (isNm (N.take i) (tkN T a) || decide (N[i].1 = tkN T a)) := by
        unfold isNm
        rw [List.take_succ, List.getElem?_eq_getElem hl, List.any_append]
        simp
      refine tX10_named_12 ⟨fun q => absurd q ?_, fun _ => ⟨fun y => absurd h2.2.1.1.2.2.2.2.2 y, fun _ => ⟨vp_in_nI (by omega) (by omega), vp_in_nI (by omega) (by omega), ?_⟩⟩⟩
      · rw [h2.2.2.2.2.2.1.1, nI_leI (by omega) (by omega)]
        omega
      · rw [nI_clamp (n := i) (by omega), nI_clamp (n := a) (by omega), n1, h2.nm (i := a) (by omega) hk1, lgc_0, nmM_e o1 ok o2 l8, nI_1]
        refine ⟨fun q => ih (i + 1) υ (by omega) d2 ?_, fun q => m_wrongQ (n := 3) h2 (by omega) (by omega) (blm_wr hlt) (fun ξ d3 h3 => rv (ih (i + 1) ξ (by omega) (d2.tr d3) ?_))⟩
        · rw [st, decide_eq_false q, Bool.or_false]
          exact h2
        · rw [st, decide_eq_true q, Bool.or_true]
          have : blm (blm late (isNm (N.take i) (tkN T a)) 3 (tkP T a)) true 3 (tkP T a) = blm late true 3 (tkP T a) := by
            unfold blm
            cases late with
            | none => cases isNm (N.take i) (tkN T a) <;> rfl
            | some x => simp
          rw [this] at h3
          exact h3
  refine loop N.length 0 τ (by omega) d ?_
  have : isNm (N.take 0) (tkN T a) = false := rfl
  rw [this, blm_f]
  exact h1
theorem m_ends {k1 : Nat → Rs ρ} {j t : Nat} {x : Int32} (hx : x = tgI t) (h : MQr σ sd T a late P N) (hN : N.length < 8) (hj : j < a) (hjk : tkK T j = 1) (hR : pTake T 4 a k1 = R)
    (herr : ∀ τ e, F4 σ τ → DEr τ e → R = .error e → K none τ)
    (hok : ∀ τ, FQ sd σ τ → (∀ b, b ≠ 284 → b ≠ 293 → τ.1 b = σ.1 b) → MQr τ sd T (a + 1) late P (N ++ [(tkN T j, t)]) → k1 (a + 1) = R → K none τ) : C2 Γ l mX10_ends [.ref 284, .int (nI j), .int x] σ K := by
  have h4 := h.2.1.1.2.2.2.1
  refine tX10_ends (m_must (c := 4) rfl (by omega) (by omega) h.2.1 hR (fun τ e d f z => rv ⟨fun y => absurd y f.nle, fun _ => herr τ e d f z⟩) (fun τ d hl _ ha z => rv ⟨fun _ => ?_, fun y => absurd (by rw [hl.1.2.2.2.2.2]; decide) y⟩))
  have h1 := h.f4 d hl (by omega) (fun z => z)
  have e20 := h1.2.2.2.2.2.1.1
  rw [e20, nI_clamp (n := j) (by omega), h1.nm (i := j) (by omega) hjk, nI_clamp (n := N.length) (by omega)]
  refine ⟨vp_in_nI (by omega) (by omega), vp_in_nI (by omega) (by omega), fun s3 e3 => ?_⟩
  have g20 : s3.1 284 20 = nI N.length := by rw [e3]; exact e20
  rw [g20, nI_clamp (n := N.length) (by omega)]
  refine ⟨vp_in_nI (by omega) (by omega), fun s4 e4 s5 e5 => ?_⟩
  have k20 : s4.1 284 20 = nI N.length := by rw [e4, sI_row, sA_off2 _ _ (by omega)]; exact g20
  rw [k20, nI_1] at e5
  have ro : ∀ b, b ≠ 284 → b ≠ 293 → s5.1 b = τ.1 b := fun b b1 b2 => by
    rw [e5, sI_row, sA_off2 _ _ b1, e4, sI_row, sA_off2 _ _ b2, e3]
    rfl
  have r84 : ∀ k, k ≠ 20 → s5.1 284 k = τ.1 284 k := fun k hk => by
    rw [e5, sI_at, if_neg (fun z => hk z.2), e4, sI_row, sA_off2 _ _ (by omega), e3]
    rfl
  have rj : ∀ b, b ≠ 292 → s5.2.1 b = τ.2.1 b := fun b hb => by
    rw [e5, e4]
    show s3.2.1 b = _
    funext i
    rw [e3, sJ_at, if_neg (fun z => hb z.1)]
  obtain ⟨g1, g2, g3, g4, g5, g6, g7⟩ := h1
  refine hok s5 ?_ (fun b b1 b2 => by rw [ro b b1 b2, d.1 b b1]) ⟨g1, g2.cg (fun b b1 b2 => ro b (by omega) (by omega)) (rj 290 (by omega)) (fun k hk => r84 k (by omega)), by rw [r84 19 (by omega)]; exact g3, by rw [r84 12 (by omega)]; exact g4, g5.cg (fun b b1 b2 => ro b (by omega) (by omega)) (fun z => z), ⟨?_, fun i hi => ?_⟩, g7.cg (by omega) (r84 40 (by omega)) (r84 46 (by omega)) (fun b b1 b2 => ro b (by omega) (by omega)) rfl⟩ z
  · rw [e5, e4, e3]
    exact ((d.fq.wJ).w3 (by omega)).wf (by omega)
  · rw [e5, sI_at, if_pos ⟨rfl, rfl⟩, List.length_append]
    rfl
  · have hi' := hi
    rw [List.length_append, List.length_singleton] at hi'
    have e292 : s5.2.1 292 i = if i = N.length then lN (nmM (tkN T j)) else τ.2.1 292 i := by
      rw [e5, e4]
      show s3.2.1 292 i = _
      rw [e3, sJ_at]
      simp only [true_and]
    have e293 : s5.1 293 i = if i = N.length then x else τ.1 293 i := by
      rw [e5, sI_row, sA_off2 _ _ (by omega), e4, sI_at, e3]
      simp only [true_and]
      rfl
    rw [e292, e293]
    by_cases c : i < N.length
    · rw [List.getElem_append_left c, if_neg (by omega), if_neg (by omega)]
      exact g6.2 i c
    · have ei : i = N.length := by omega
      subst ei
      rw [List.getElem_append_right (by omega)]
      simp only [Nat.sub_self, List.getElem_cons_zero, if_true]
      exact ⟨trivial, hx⟩
end M22
