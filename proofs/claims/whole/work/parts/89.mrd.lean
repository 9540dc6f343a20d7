/-! the model: reading, its steps -/
def F4 (σ τ : SS) : Prop := (∀ b, b ≠ 284 → τ.1 b = σ.1 b) ∧ (∀ k, k ≠ 11 → k ≠ 13 → k ≠ 14 → k ≠ 15 → k ≠ 16 → τ.1 284 k = σ.1 284 k) ∧ τ.2 = σ.2
theorem F4.rf {σ : SS} : F4 σ σ := ⟨fun _ _ => rfl, fun _ _ _ _ _ _ => rfl, rfl⟩
theorem F4.tr {σ τ υ : SS} (h : F4 σ τ) (g : F4 τ υ) : F4 σ υ := ⟨fun b hb => (g.1 b hb).trans (h.1 b hb), fun k a b c d e => (g.2.1 k a b c d e).trans (h.2.1 k a b c d e), g.2.2.trans h.2.2⟩
theorem F4.w {σ τ : SS} {k : Nat} {v : Int32} (h : F4 σ τ) (hk : k = 11 ∨ k = 13 ∨ k = 14 ∨ k = 15 ∨ k = 16) : F4 σ (sI τ 284 k v) := ⟨fun b hb => by rw [sI_row, sA_off2 _ _ hb]; exact h.1 b hb, fun j a b c d e => by rw [sI_at, if_neg (by omega)]; exact h.2.1 j a b c d e, h.2.2⟩
/-- the model reads: no fault yet -/
def Lv0 (σ : SS) (T : List Nat) (a : Nat) : Prop := T.length ≤ 2000 ∧ MKt σ T 401 ∧ liv T a ∧ a ≤ 400 ∧ σ.1 284 11 = nI a ∧ σ.1 284 13 = 0
def DEr (σ : SS) (e : Nat × Nat) : Prop := (e.1 = 1 ∨ e.1 = 2) ∧ e.2 ≤ 2000 ∧ σ.1 284 13 = nI e.1 ∧ σ.1 284 14 = nI e.2
def MLT (σ : SS) (T : List Nat) (a : Nat) (late : LF) : Prop := match late with
  | none => σ.1 284 15 = 0
  | some (n, q) => 1 ≤ n ∧ n ≤ 6 ∧ q ≤ 2000 ∧ σ.1 284 15 = nI n ∧ σ.1 284 16 = nI q ∧ ∃ i, i < a ∧ q = tkP T i
def Lv1 (σ : SS) (T : List Nat) (a : Nat) (late : LF) : Prop := Lv0 σ T a ∧ MLT σ T a late
theorem MKt.f4 {σ τ : SS} {T : List Nat} {n : Nat} (h : MKt σ T n) (d : F4 σ τ) : MKt τ T n := by
  unfold MKt
  rw [d.1 287 (by omega), d.1 288 (by omega), d.1 289 (by omega), d.2.2]
  exact h
theorem MLT.mo {σ : SS} {T : List Nat} {a b : Nat} {late : LF} (h : MLT σ T a late) (hb : a ≤ b) : MLT σ T b late := by
  cases late with
  | none => exact h
  | some x =>
    obtain ⟨n, q⟩ := x
    obtain ⟨a1, a2, a3, a4, a5, i, a6, a7⟩ := h
    exact ⟨a1, a2, a3, a4, a5, i, by omega, a7⟩
theorem MLT.cg {σ τ : SS} {T : List Nat} {a : Nat} {late : LF} (h : MLT σ T a late) (h1 : τ.1 284 15 = σ.1 284 15) (h2 : τ.1 284 16 = σ.1 284 16) : MLT τ T a late := by
  cases late with
  | none =>
    show τ.1 284 15 = 0
    rw [h1]
    exact h
  | some x =>
    obtain ⟨n, q⟩ := x
    obtain ⟨a1, a2, a3, a4, a5, a6⟩ := h
    exact ⟨a1, a2, a3, by rw [h1]; exact a4, by rw [h2]; exact a5, a6⟩
theorem DEr.n0 {σ : SS} {e : Nat × Nat} (h : DEr σ e) : ¬ σ.1 284 13 = 0 := by
  rw [h.2.2.1]
  exact nI_ne0 (by rcases h.1 with z | z <;> omega) (by rcases h.1 with z | z <;> omega)
theorem DEr.nle {σ : SS} {e : Nat × Nat} (h : DEr σ e) : ¬ σ.1 284 13 ≤ 0 := by
  rw [h.2.2.1]
  exact nI_nle (by rcases h.1 with z | z <;> omega) (by rcases h.1 with z | z <;> omega)
theorem DEr.lt {σ : SS} {e : Nat × Nat} (h : DEr σ e) : (0 : Int32) < σ.1 284 13 := Int32.not_le.mp h.nle
theorem DEr.cg {σ τ : SS} {e : Nat × Nat} (h : DEr σ e) (h1 : τ.1 284 13 = σ.1 284 13) (h2 : τ.1 284 14 = σ.1 284 14) : DEr τ e := by
  unfold DEr
  rw [h1, h2]
  exact h
section M20
variable {Γ : GE} {l : Launch} {σ τ : SS} {K : Option Value → SS → Prop} {T : List Nat} {a : Nat} {late : LF} {ρ : Type} {R : Rs ρ} {e : Nat × Nat}
theorem Lv0.tk (h : Lv0 σ T a) : σ.1 287 a = nI (tkK T a) ∧ σ.1 288 a = nI (tkP T a) ∧ (tkK T a = 2 → σ.1 289 a = nI (tkV T a)) ∧ (tkK T a = 1 → σ.2.1 290 a = lN (nmM (tkN T a))) := by
  obtain ⟨h1, h2, h3, h4, h5, h6⟩ := h
  exact h2 a (by omega) h4 h3
theorem Lv0.v (h : Lv0 σ T a) : vp_in (σ.1 284 11) 403 := by
  obtain ⟨h1, h2, h3, h4, h5, h6⟩ := h
  rw [h5]
  exact vp_in_nI (by omega) (by omega)
theorem Lv0.cl (h : Lv0 σ T a) : Int32.toNatClampNeg (σ.1 284 11) = a := by
  obtain ⟨h1, h2, h3, h4, h5, h6⟩ := h
  rw [h5, nI_clamp (by omega)]
theorem m_fail {n : Nat} (h : Lv0 σ T a) (hn : n = 1 ∨ n = 2) (hK : ∀ τ, F4 σ τ → DEr τ (n, tkP T a) → τ.1 284 11 = nI a → K none τ) : C2 Γ l mX10_fail [.ref 284, .int (nI n)] σ K := by
  have h4 := h.2.2.2.1
  have t := h.tk
  refine tX10_fail ⟨fun _ s1 e1 => ?_, fun q => absurd ?_ q⟩
  · have g11 : s1.1 284 11 = nI a := by rw [e1, sI_at, if_neg (by omega)]; exact h.2.2.2.2.1
    rw [g11]
    refine ⟨vp_in_nI (by omega) (by omega), fun s2 e2 => ?_⟩
    have g88 : s1.1 288 a = nI (tkP T a) := by rw [e1, sI_row, sA_off2 _ _ (by omega)]; exact t.2.1
    rw [nI_clamp (by omega), g88] at e2
    refine hK s2 (by rw [e2, e1]; exact (F4.rf.w (by omega)).w (by omega)) ⟨hn, tkP_2000 h.1 a, ?_, ?_⟩ ?_
    · rw [e2, sI_at, if_neg (by omega), e1, sI_at, if_pos ⟨rfl, rfl⟩]
    · rw [e2, sI_at, if_pos ⟨rfl, rfl⟩]
    · rw [e2, sI_at, if_neg (by omega)]
      exact g11
  · rw [h.2.2.2.2.2]
    decide
theorem m_failD {x : Int32} (h : DEr σ e) (hK : K none σ) : C2 Γ l mX10_fail [.ref 284, .int x] σ K :=
  tX10_fail ⟨fun q => absurd q h.nle, fun _ => hK⟩
theorem m_is {c : Nat} (hc : c < 2 ^ 31) (h : Lv0 σ T a) (hK : K (some (.int (bI (decide (tkK T a = c))))) σ) : C2 Γ l mX10_is [.ref 284, .int (nI c)] σ K := by
  have k42 := (tk_kind T a).2.2
  refine tX10_is ⟨fun q => absurd h.2.2.2.2.2 q, fun _ => ⟨h.v, ?_⟩⟩
  rw [h.cl, h.tk.1, nI_eq (by omega) hc]
  refine ⟨fun q => ?_, fun q => ?_⟩
  · rw [decide_eq_false q] at hK
    exact hK
  · rw [decide_eq_true q] at hK
    exact hK
theorem m_isD {x : Int32} (h : DEr σ e) (hK : K (some (.int 0)) σ) : C2 Γ l mX10_is [.ref 284, .int x] σ K :=
  tX10_is ⟨fun _ => hK, fun q => absurd q h.n0⟩
theorem Lv0.nx (h : Lv0 σ T a) (hn0 : tkK T a ≠ 0) (hn3 : tkK T a ≠ 3) (d : F4 σ τ) (ha : a < 400) (h11 : τ.1 284 11 = nI (a + 1)) (h13 : τ.1 284 13 = 0) : Lv0 τ T (a + 1) := by
  obtain ⟨h1, h2, h3, h4, h5, h6⟩ := h
  refine ⟨h1, h2.f4 d, fun j hj => ?_, by omega, h11, h13⟩
  by_cases z : j = a
  · rw [z]
    exact ⟨hn0, hn3⟩
  · exact h3 j (by omega)
theorem m_goesOn {k : Nat → Rs ρ} (h : Lv1 σ T a late) (hn0 : tkK T a ≠ 0) (hn3 : tkK T a ≠ 3) (hR : pPass T a k = R)
    (herr : ∀ τ e, F4 σ τ → DEr τ e → R = .error e → K none τ)
    (hok : ∀ τ, F4 σ τ → Lv1 τ T (a + 1) late → a < 400 → k (a + 1) = R → K none τ) : C2 Γ l mX10_goesOn [.ref 284] σ K := by
  have h4 := h.1.2.2.2.1
  unfold pPass at hR
  refine tX10_goesOn ?_
  rw [h.1.2.2.2.2.1, show nI a = 400 ↔ a = 400 from nI_eq (b := 400) (by omega) (by omega)]
  refine ⟨fun q s1 e1 => ?_, fun q => m_fail (n := 2) h.1 (Or.inr rfl) (fun τ d f _ => rv ?_)⟩
  · rw [if_neg (by omega)] at hR
    rw [nI_1] at e1
    have d : F4 σ s1 := by rw [e1]; exact F4.rf.w (by omega)
    refine hok s1 d ⟨h.1.nx hn0 hn3 d (by omega) (by rw [e1, sI_at, if_pos ⟨rfl, rfl⟩]) (by rw [e1, sI_at, if_neg (by omega)]; exact h.1.2.2.2.2.2), (h.2.cg (by rw [e1, sI_at, if_neg (by omega)]) (by rw [e1, sI_at, if_neg (by omega)])).mo (by omega)⟩ (by omega) hR
  · rw [if_pos (by omega)] at hR
    exact herr τ _ d f hR.symm
theorem m_goesOnD (h : DEr σ e) (hK : ∀ τ, F4 σ τ → DEr τ e → K none τ) : C2 Γ l mX10_goesOn [.ref 284] σ K :=
  tX10_goesOn ⟨fun _ s1 e1 => hK s1 (by rw [e1]; exact F4.rf.w (by omega)) (h.cg (by rw [e1, sI_at, if_neg (by omega)]) (by rw [e1, sI_at, if_neg (by omega)])), fun _ => m_failD h (rv (hK σ F4.rf h))⟩
theorem m_must {c : Nat} {k : Nat → Rs ρ} {x : Int32} (hx : x = nI c) (hc : c < 42) (hc0 : c ≠ 0 ∧ c ≠ 3) (h : Lv1 σ T a late) (hR : pTake T c a k = R)
    (herr : ∀ τ e, F4 σ τ → DEr τ e → R = .error e → K none τ)
    (hok : ∀ τ, F4 σ τ → Lv1 τ T (a + 1) late → tkK T a = c → a < 400 → k (a + 1) = R → K none τ) : C2 Γ l mX10_must [.ref 284, .int x] σ K := by
  unfold pTake at hR
  subst hx
  refine tX10_must (m_is (by omega) h.1 (ri ?_))
  rw [bI_0]
  refine ⟨fun q => m_fail (n := 1) h.1 (Or.inl rfl) (fun τ d f _ => rv ?_), fun q => ?_⟩
  · simp only [decide_eq_false_iff_not] at q
    rw [if_neg q] at hR
    exact herr τ _ d f hR.symm
  · simp only [Bool.not_eq_false, decide_eq_true_eq] at q
    rw [if_pos q] at hR
    exact m_goesOn h (by rw [q]; exact hc0.1) (by rw [q]; exact hc0.2) hR (fun τ e d f z => rv (herr τ e d f z)) (fun τ d hl ha z => rv (hok τ d hl q ha z))
theorem m_mustD {x : Int32} (h : DEr σ e) (hK : K none σ) : C2 Γ l mX10_must [.ref 284, .int x] σ K :=
  tX10_must (m_isD h (ri ⟨fun _ => m_failD h (rv hK), fun q => absurd rfl q⟩))
theorem blm_some {n q m r : Nat} {c : Bool} : blm (some (m, r)) c n q = some (m, r) := by
  unfold blm
  rw [if_neg (fun z => absurd z.1 (by simp))]
/-- a late fault at the token j -/
theorem m_wrong {n j : Nat} (hk : MKt σ T 401) (hl : liv T j) (h13 : σ.1 284 13 = 0) (hm : MLT σ T a late) (hj : j ≤ 400) (h2 : T.length ≤ 2000) (hn : 1 ≤ n ∧ n ≤ 6) (hw : ∀ m q, late = some (m, q) → q < tkP T j ∨ (q = tkP T j ∧ m ≤ n))
    (hK : ∀ τ, F4 σ τ → τ.1 284 11 = σ.1 284 11 → τ.1 284 13 = 0 → MLT τ T (max a (j + 1)) (blm late true n (tkP T j)) → K none τ) : C2 Γ l mX10_wrong [.ref 284, .int (nI n), .int (nI j)] σ K := by
  obtain ⟨t1, t2, t3, t4⟩ := hk j (by omega) hj hl
  have p2 := tkP_2000 h2 j
  refine tX10_wrong ⟨vp_in_nI (by omega) (by omega), ?_⟩
  rw [h13, nI_clamp (by omega), t2]
  refine ⟨fun q => absurd q (by decide), fun _ => ?_⟩
  cases late with
  | none =>
    refine ⟨fun _ s1 e1 s2 e2 => ?_, fun q => absurd hm q⟩
    refine hK s2 (by rw [e2, e1]; exact (F4.rf.w (by omega)).w (by omega)) (by rw [e2, sI_at, if_neg (by omega), e1, sI_at, if_neg (by omega)]) (by rw [e2, sI_at, if_neg (by omega), e1, sI_at, if_neg (by omega)]; exact h13) ?_
    show MLT s2 T _ (if (none : LF) = none ∧ true = true then some (n, tkP T j) else none)
    rw [if_pos ⟨rfl, rfl⟩]
    exact ⟨hn.1, hn.2, p2, by rw [e2, sI_at, if_neg (by omega), e1, sI_at, if_pos ⟨rfl, rfl⟩], by rw [e2, sI_at, if_pos ⟨rfl, rfl⟩], j, by omega, rfl⟩
  | some x =>
    obtain ⟨m, r⟩ := x
    obtain ⟨b1, b2, b3, b4, b5, b6⟩ := id hm
    rw [b4, b5, nI_ltI (by omega) (by omega), nI_eq (by omega) (by omega), nI_ltI (by omega) (by omega)]
    refine ⟨fun q => absurd q (nI_ne0 (by omega) (by omega)), fun _ => ?_⟩
    rw [blm_some] at hK
    have fin : K none σ := hK σ F4.rf rfl h13 (hm.mo (by omega))
    have w := hw m r rfl
    exact ⟨fun _ => fin, fun q => ⟨fun q2 => absurd (show tkP T j = r by omega) q2, fun q2 => ⟨fun q3 => absurd q3 (by omega), fun _ => fin⟩⟩⟩
/-- places of late faults lie ahead -/
theorem MLT.lt (h : MLT σ T a late) (hl : liv T a) : ∀ m q, late = some (m, q) → q < tkP T a := fun m q z => by
  subst z
  obtain ⟨b1, b2, b3, b4, b5, i, b6, b7⟩ := h
  rw [b7]
  exact tkP_lt a b6 (fun j hj => (hl j hj).1)
theorem m_bounded {hi : Nat} {k : Nat → Rs ρ} {x : Int32} (hx : x = nI hi) (hhi : hi < 2 ^ 30) (h : Lv1 σ T a late) (hR : pTake T 2 a k = R)
    (herr : ∀ τ e r, F4 σ τ → DEr τ e → R = .error e → K (some (.int r)) τ)
    (hok : ∀ τ, F4 σ τ → Lv1 τ T (a + 1) (blm late (decide (hi < tkV T a)) 5 (tkP T a)) → tkV T a ≤ 9999 → a < 400 → k (a + 1) = R → K (some (.int (nI (tkV T a)))) τ) : C2 Γ l mX10_bounded [.ref 284, .int 0, .int x] σ K := by
  unfold pTake at hR
  subst hx
  have h4 := h.1.2.2.2.1
  refine tX10_bounded ⟨fun q => absurd q ?_, fun _ => m_is (c := 2) (by omega) h.1 (ri ?_)⟩
  · rw [h.1.2.2.2.2.2]
    decide
  rw [bI_0]
  refine ⟨fun q => ⟨h.1.v, ?_⟩, fun q => m_fail (n := 1) h.1 (Or.inl rfl) (fun τ d f _ => rv ?_)⟩
  · simp only [Bool.not_eq_false, decide_eq_true_eq] at q
    rw [if_pos q] at hR
    have hv := (tk_kind T a).2.1 q
    have n0 : tkK T a ≠ 0 := by omega
    have n3 : tkK T a ≠ 3 := by omega
    rw [h.1.cl, h.1.tk.2.2.1 q, nI_leI (by omega) (by omega)]
    refine ⟨fun z => absurd z ?_, fun _ => ⟨fun z => ?_, fun z => ?_⟩⟩
    · exact nI_pos (by omega)
    · refine m_goesOn h n0 n3 hR (fun τ e d f z => rv (herr τ e _ d f z)) (fun τ d hl ha y => rv (hok τ d ?_ hv ha y))
      rw [decide_eq_false (by omega), blm_f]
      exact hl
    · rw [h.1.2.2.2.2.1]
      refine m_wrong (n := 5) h.1.2.1 h.1.2.2.1 h.1.2.2.2.2.2 h.2 h4 h.1.1 (by omega) (fun m r y => Or.inl (h.2.lt h.1.2.2.1 m r y)) (fun υ d1 f1 f2 hm => rv ?_)
      -- behind it the token is passed
      have hl0 : Lv0 υ T a := ⟨h.1.1, h.1.2.1.f4 d1, h.1.2.2.1, h4, by rw [f1]; exact h.1.2.2.2.2.1, f2⟩
      unfold pPass at hR
      refine tX10_goesOn ?_
      rw [hl0.2.2.2.2.1, show nI a = 400 ↔ a = 400 from nI_eq (b := 400) (by omega) (by omega)]
      refine ⟨fun y s1 e1 => rv ?_, fun y => m_fail (n := 2) hl0 (Or.inr rfl) (fun τ d f _ => rv (rv ?_))⟩
      · rw [if_neg (by omega)] at hR
        rw [nI_1] at e1
        have d : F4 υ s1 := by rw [e1]; exact F4.rf.w (by omega)
        refine hok s1 (d1.tr d) ⟨hl0.nx n0 n3 d (by omega) (by rw [e1, sI_at, if_pos ⟨rfl, rfl⟩]) (by rw [e1, sI_at, if_neg (by omega)]; exact f2), ?_⟩ hv (by omega) hR
        rw [decide_eq_true (by omega)]
        rw [show max a (a + 1) = a + 1 by omega] at hm
        exact hm.cg (by rw [e1, sI_at, if_neg (by omega)]) (by rw [e1, sI_at, if_neg (by omega)])
      · rw [if_pos (by omega)] at hR
        exact herr τ _ _ (d1.tr d) f hR.symm
  · simp only [decide_eq_false_iff_not] at q
    rw [if_neg q] at hR
    exact herr τ _ _ d f hR.symm
theorem m_boundedD {x y : Int32} (h : DEr σ e) (hK : K (some (.int x)) σ) : C2 Γ l mX10_bounded [.ref 284, .int x, .int y] σ K :=
  tX10_bounded ⟨fun _ => m_failD h (rv hK), fun q => absurd h.lt q⟩
/-! letters of a name -/
theorem lN_div (n : Nat) (hn : n < 2 ^ 62) : lN n / 27 = lN (n / 27) := by
  apply Int64.toInt_inj.mp
  rw [Int64.toInt_div]
  have e1 : (lN n).toInt = n := by
    show (Int64.ofNat n).toInt = n
    rw [Int64.toInt_ofNat_of_lt (by omega)]
  have e2 : (lN (n / 27)).toInt = ((n / 27 : Nat) : Int) := by
    show (Int64.ofNat (n / 27)).toInt = _
    rw [Int64.toInt_ofNat_of_lt (by omega)]
  rw [e1, e2]
  show ((n : Int).tdiv 27).bmod (2 ^ 64) = _
  rw [Int.tdiv_eq_ediv_of_nonneg (by omega)]
  rw [show ((n / 27 : Nat) : Int) = (n : Int) / 27 by omega]
  exact Int.bmod_eq_of_le (by omega) (by omega)
theorem lgc_le (n : Nat) (hn : n < 2 ^ 62) : lg_cmp (lN n) 0 ≤ 0 ↔ n = 0 := by
  unfold lg_cmp
  have e1 : (lN n).toInt = n := by
    show (Int64.ofNat n).toInt = n
    rw [Int64.toInt_ofNat_of_lt (by omega)]
  by_cases h : n = 0
  · subst h
    exact ⟨fun _ => rfl, fun _ => by decide⟩
  · have : lN n > 0 := by
      show (0 : Int64) < lN n
      rw [Int64.lt_iff_toInt_lt, e1]
      show (0 : Int) < n
      omega
    rw [if_pos this]
    exact ⟨fun z => absurd z (by decide), fun z => absurd z h⟩
theorem lN_rem (n : Nat) (hn : n < 2 ^ 62) : Int64.toInt32 (lN n - lN n / 27 * 27) = nI (n % 27) := by
  rw [lN_div n hn]
  have e : lN n - lN (n / 27) * 27 = lN (n % 27) := by
    apply Int64.toBitVec_inj.1
    show BitVec.ofNat 64 n - BitVec.ofNat 64 (n / 27) * BitVec.ofNat 64 27 = BitVec.ofNat 64 (n % 27)
    apply BitVec.eq_of_toNat_eq
    rw [BitVec.toNat_sub, BitVec.toNat_mul, BitVec.toNat_ofNat, BitVec.toNat_ofNat, BitVec.toNat_ofNat, BitVec.toNat_ofNat]
    have h1 : n % 2 ^ 64 = n := Nat.mod_eq_of_lt (by omega)
    have h2 : n / 27 % 2 ^ 64 = n / 27 := Nat.mod_eq_of_lt (by omega)
    have h3 : 27 % 2 ^ 64 = 27 := by decide
    have h4 : n / 27 * 27 % 2 ^ 64 = n / 27 * 27 := Nat.mod_eq_of_lt (by omega)
    have h5 : n % 27 % 2 ^ 64 = n % 27 := Nat.mod_eq_of_lt (by omega)
    rw [h1, h2, h3, h4, h5]
    omega
  rw [e]
  have h5 : n % 27 < 27 := by omega
  exact (by decide +kernel : ∀ m, m < 27 → Int64.toInt32 (lN m) = nI m) _ h5
theorem nmM_div (w : List Nat) (c : Nat) (hc : c ≤ 26) : nmM (w ++ [c]) / 27 = nmM w ∧ nmM (w ++ [c]) % 27 = c := by
  rw [nmM_app]
  omega
theorem m_lettersIn {w : List Nat} (ok : lOk w) (l8 : w.length ≤ 8) (hK : K (some (.int (nI w.length))) σ) : C2 Γ l mX10_lettersIn [.long (lN (nmM w))] σ K := by
  have loop : ∀ n (w : List Nat) i, w.length = n → lOk w → n + i ≤ 8 → K (some (.int (nI (i + w.length)))) σ → wX10_lettersIn_4 Γ l (nI i) (lN (nmM w)) σ K := by
    intro n
    induction n with
    | zero =>
      intro w i h1 _ _ hk
      have : w = [] := List.eq_nil_of_length_eq_zero h1
      subst this
      exact tX10_lettersIn_4 ⟨fun _ => hk, fun q => absurd (by decide) q⟩
    | succ n ih =>
      intro w i h1 o h8 hk
      obtain ⟨v, c, rfl⟩ := snoc w (fun z => by rw [z] at h1; exact absurd h1 (by simp))
      have hb := nmM_8 o (by omega)
      have oc := o c (by simp)
      obtain ⟨d1, d2⟩ := nmM_div v c (by omega)
      rw [List.length_append, List.length_singleton] at h1 hk
      refine tX10_lettersIn_4 ?_
      rw [lgc_le _ (by omega), lN_div _ (by omega), d1, nI_1]
      refine ⟨fun q => ?_, fun _ => ih v (i + 1) (by omega) (fun x hx => o x (by simp [hx])) (by omega) (by rw [show i + 1 + v.length = i + (v.length + 1) by omega]; exact hk)⟩
      exfalso
      rw [q] at d2
      omega
  exact tX10_lettersIn (loop w.length w 0 rfl ok (by omega) (by rw [Nat.zero_add]; exact hK))
theorem take_snoc (w : List Nat) (k : Nat) (h : k < w.length) : w.take (k + 1) = w.take k ++ [w.getD k 0] := by
  rw [List.take_succ, List.getD_eq_getElem?_getD, List.getElem?_eq_getElem h]
  rfl
theorem m_letterIn {w : List Nat} {x : Nat} (ok : lOk w) (l8 : w.length ≤ 8) (l1 : 1 ≤ w.length) (hx : x < 100) (hK : ∀ r, (x < w.length → r = nI (w.getD x 0)) → K (some (.int r)) σ) : C2 Γ l mX10_letterIn [.long (lN (nmM w)), .int (nI x)] σ K := by
  have loop : ∀ m k, m + x = k → k < w.length → wX10_letterIn_10 Γ l (nI x) (lN (nmM (w.take (k + 1)))) (nI k) σ K := by
    intro m
    induction m with
    | zero =>
      intro k h1 h2
      have : k = x := by omega
      subst this
      have o' : lOk (w.take (k + 1)) := fun c hc => ok c (List.mem_of_mem_take hc)
      have hb := nmM_8 o' (by rw [List.length_take]; omega)
      have gp := getD_pos ok h2
      refine tX10_letterIn_10 ⟨fun _ => hK _ (fun _ => ?_), fun q => absurd (Int32.le_refl _) q⟩
      rw [lN_rem _ (by omega), take_snoc w k h2, (nmM_div _ _ (by omega)).2]
    | succ m ih =>
      intro k h1 h2
      have o' : lOk (w.take (k + 1)) := fun c hc => ok c (List.mem_of_mem_take hc)
      have hb := nmM_8 o' (by rw [List.length_take]; omega)
      have gp := getD_pos ok h2
      obtain ⟨j, hj⟩ : ∃ j, k = j + 1 := ⟨k - 1, by omega⟩
      refine tX10_letterIn_10 ⟨fun q => absurd q (by simp (disch := omega) only [nL, nI_add, pk_mul, pk_sub, nI_clamp, nI_leI, nI_ltI, nI_eq]; omega), fun _ => ?_⟩
      rw [lN_div _ (by omega), take_snoc w k h2, (nmM_div _ _ (by omega)).1]
      subst hj
      rw [nI_m1]
      exact ih j (by omega) (by omega)
  refine tX10_letterIn (m_lettersIn ok l8 (ri ?_))
  obtain ⟨j, hj⟩ : ∃ j, w.length = j + 1 := ⟨w.length - 1, by omega⟩
  rw [hj, nI_pred]
  by_cases c : x < w.length
  · have := loop (j - x) j (by omega) (by omega)
    rw [List.take_of_length_le (by omega)] at this
    exact this
  · exact tX10_letterIn_10 ⟨fun _ => hK _ (fun z => absurd z c), fun q => absurd (by simp (disch := omega) only [nL, nI_add, pk_mul, pk_sub, nI_clamp, nI_leI, nI_ltI, nI_eq]; omega) q⟩
end M20
