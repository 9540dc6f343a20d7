/-! the model: its tokens -/
theorem lgc_0 (x y : Int64) : lg_cmp x y = 0 ↔ x = y := by
  unfold lg_cmp
  by_cases h : x = y
  · subst h
    rw [if_neg (by show ¬ x < x; exact Int64.lt_irrefl), if_pos rfl]
    exact ⟨fun _ => rfl, fun _ => rfl⟩
  · by_cases h2 : x > y
    · rw [if_pos h2]
      exact ⟨fun z => absurd z (by decide), fun z => absurd z h⟩
    · rw [if_neg h2, if_neg h]
      exact ⟨fun z => absurd z (by decide), fun z => absurd z h⟩
theorem lN_inj {a b : Nat} (ha : a < 2 ^ 64) (hb : b < 2 ^ 64) : lN a = lN b ↔ a = b := by
  constructor
  · intro h
    have := congrArg (fun z : Int64 => z.toBitVec.toNat) h
    simp only [wb_tn ha, wb_tn hb] at this
    exact this
  · intro h
    rw [h]
theorem snoc : ∀ (l : List Nat), l ≠ [] → ∃ a c, l = a ++ [c]
  | [], h => absurd rfl h
  | [x], _ => ⟨[], x, rfl⟩
  | x :: y :: l, _ => by
    obtain ⟨a, c, h⟩ := snoc (y :: l) (by simp)
    exact ⟨x :: a, c, by rw [h]; rfl⟩
def nmM (l : List Nat) : Nat := l.foldl (fun n c => 27 * n + c) 0
theorem nmM_app (a : List Nat) (c : Nat) : nmM (a ++ [c]) = 27 * nmM a + c := by
  unfold nmM
  rw [List.foldl_append]
  rfl
theorem nmM_lt : ∀ n (l : List Nat), l.length = n → lOk l → nmM l < 27 ^ n
  | 0, l, h, _ => by
    rw [List.length_eq_zero_iff.mp h]
    decide
  | n + 1, l, h, ok => by
    obtain ⟨a, c, rfl⟩ : ∃ a c, l = a ++ [c] := snoc l (fun z => by rw [z] at h; simp at h)
    rw [List.length_append, List.length_singleton] at h
    have := nmM_lt n a (by omega) (fun x hx => ok x (List.mem_append_left _ hx))
    have := ok c (List.mem_append_right _ (List.mem_singleton.mpr rfl))
    rw [nmM_app, Nat.pow_succ]
    omega
theorem nmM_inj : ∀ n (a b : List Nat), a.length = n → lOk a → lOk b → nmM a = nmM b → a = b
  | 0, a, b, h, _, ob, e => by
    rw [List.length_eq_zero_iff.mp h] at e ⊢
    cases hb : b with
    | nil => rfl
    | cons d b' =>
      exfalso
      have hne : b ≠ [] := by rw [hb]; simp
      obtain ⟨a', c, rfl⟩ : ∃ a' c, b = a' ++ [c] := snoc b hne
      have := ob c (List.mem_append_right _ (List.mem_singleton.mpr rfl))
      rw [nmM_app] at e
      have e0 : nmM [] = 0 := rfl
      omega
  | n + 1, a, b, h, oa, ob, e => by
    have hna : a ≠ [] := fun z => by rw [z] at h; simp at h
    obtain ⟨a', c, rfl⟩ : ∃ a' c, a = a' ++ [c] := snoc a hna
    have hc := oa c (List.mem_append_right _ (List.mem_singleton.mpr rfl))
    rw [nmM_app] at e
    by_cases hb : b = []
    · rw [hb] at e
      have e0 : nmM [] = 0 := rfl
      omega
    · obtain ⟨b', d, rfl⟩ : ∃ b' d, b = b' ++ [d] := snoc b hb
      have hd := ob d (List.mem_append_right _ (List.mem_singleton.mpr rfl))
      rw [nmM_app] at e
      have e1 : c = d := by omega
      rw [List.length_append, List.length_singleton] at h
      have e2 := nmM_inj n a' b' (by omega) (fun x hx => oa x (List.mem_append_left _ hx)) (fun x hx => ob x (List.mem_append_left _ hx)) (by omega)
      rw [e1, e2]
theorem nmM_8 {l : List Nat} (ok : lOk l) (h : l.length ≤ 8) : nmM l < 2 ^ 40 := by
  have := nmM_lt l.length l rfl ok
  have h2 : (27 : Nat) ^ l.length ≤ 27 ^ 8 := Nat.pow_le_pow_right (by decide) h
  have h3 : (27 : Nat) ^ 8 < 2 ^ 40 := by decide
  omega
theorem nmC_8 {l : List Nat} (ok : lOk l) (h : l.length ≤ 8) : nmC l < 2 ^ 41 := by
  have := nmC_lt l ok
  have h2 : (32 : Nat) ^ l.length ≤ 32 ^ 8 := Nat.pow_le_pow_right (by decide) h
  have h3 : (32 : Nat) ^ 8 < 2 ^ 41 := by decide
  omega
theorem nmC_e {a b : List Nat} (oa : lOk a) (ob : lOk b) (la : a.length ≤ 8) (lb : b.length ≤ 8) : lN (nmC a) = lN (nmC b) ↔ a = b := by
  have := nmC_8 oa la
  have := nmC_8 ob lb
  rw [lN_inj (by omega) (by omega)]
  exact ⟨nmC_inj a b oa ob, fun z => by rw [z]⟩
theorem nmM_e {a b : List Nat} (oa : lOk a) (ob : lOk b) (la : a.length ≤ 8) (lb : b.length ≤ 8) : lN (nmM a) = lN (nmM b) ↔ a = b := by
  have := nmM_8 oa la
  have := nmM_8 ob lb
  rw [lN_inj (by omega) (by omega)]
  exact ⟨nmM_inj _ a b rfl oa ob, fun z => by rw [z]⟩
theorem kwV_e : ∀ k : Fin 22, (kwL[k.val]?).map kwV = some (lN (nmM (kw k.val))) := by decide +kernel
/-- of the model only its tokens have changed -/
def FM (σ τ : SS) : Prop := (∀ b, b ≠ 284 → b ≠ 287 → b ≠ 288 → b ≠ 289 → τ.1 b = σ.1 b) ∧ (∀ k, k ≠ 10 → τ.1 284 k = σ.1 284 k) ∧ (∀ b, b ≠ 290 → τ.2.1 b = σ.2.1 b) ∧ τ.2.2 = σ.2.2
theorem FM.rf {σ : SS} : FM σ σ := ⟨fun _ _ _ _ _ => rfl, fun _ _ => rfl, fun _ _ => rfl, rfl⟩
theorem FM.tr {σ τ υ : SS} (h : FM σ τ) (g : FM τ υ) : FM σ υ := ⟨fun b h1 h2 h3 h4 => (g.1 b h1 h2 h3 h4).trans (h.1 b h1 h2 h3 h4), fun k hk => (g.2.1 k hk).trans (h.2.1 k hk), fun b hb => (g.2.2.1 b hb).trans (h.2.2.1 b hb), g.2.2.2.trans h.2.2.2⟩
/-- the text as the model keeps it -/
def MX (σ : SS) (T : List Nat) : Prop := T.length ≤ 2000 ∧ σ.1 284 4 = nI T.length ∧ ∀ i (h : i < T.length), σ.1 286 i &&& 255 = nI T[i]
theorem MX.fm {σ τ : SS} {T : List Nat} (h : MX σ T) (d : FM σ τ) : MX τ T := by
  unfold MX
  rw [d.2.1 4 (by omega), d.1 286 (by omega) (by omega) (by omega) (by omega)]
  exact h
theorem MK.fm {σ τ : SS} (h : MK σ) (d : FM σ τ) : MK τ := by
  unfold MK
  rw [d.2.2.1 291 (by omega)]
  exact h
/-- the model's tokens -/
def MKt (σ : SS) (T : List Nat) (n : Nat) : Prop := ∀ i, i < n → i ≤ 400 → liv T i → σ.1 287 i = nI (tkK T i) ∧ σ.1 288 i = nI (tkP T i) ∧ (tkK T i = 2 → σ.1 289 i = nI (tkV T i)) ∧ (tkK T i = 1 → σ.2.1 290 i = lN (nmM (tkN T i)))
section O1
variable {Γ : GE} {l : Launch} {σ τ : SS} {K : Option Value → SS → Prop} {T : List Nat}
theorem m_byteAt {i : Nat} (h : MX σ T) (hi : i < 2 ^ 30) (hK : K (some (.int (nI (bt T i)))) σ) : C2 Γ l mX10_byteAt [.ref 284, .int (nI i)] σ K := by
  have := h.1
  refine tX10_byteAt ?_
  rw [h.2.1, nI_leI (by omega) (by omega)]
  refine ⟨fun q => ?_, fun q => ⟨vp_in_nI (by omega) (by omega), ?_⟩⟩
  · unfold bt at hK
    rw [List.getD_eq_getElem?_getD, List.getElem?_eq_none (by omega)] at hK
    exact hK
  · rw [nI_clamp (by omega), h.2.2 i (by omega), ← bt_eq]
    exact hK
theorem bt_lt' (tb : TB T) (i : Nat) : bt T i < 256 := by
  by_cases h : i < T.length
  · exact bt_lt tb h
  · unfold bt
    rw [List.getD_eq_getElem?_getD, List.getElem?_eq_none (by omega)]
    decide
theorem m_isLetter {c : Nat} (h : c < 256) (hK : K (some (.int (bI (isLt c)))) σ) : C2 Γ l mX10_isLetter [.int (nI c)] σ K := by
  obtain ⟨e1, e2⟩ := isLt_i h
  refine tX10_isLetter ?_
  rw [e1, e2]
  unfold isLt at hK
  refine ⟨fun q => ?_, fun q => ⟨fun q2 => ?_, fun q2 => ?_⟩⟩
  · rw [decide_eq_false (by omega)] at hK
    exact hK
  · rw [decide_eq_false (by omega)] at hK
    exact hK
  · rw [decide_eq_true (by omega)] at hK
    exact hK
theorem m_isDigit {c : Nat} (h : c < 256) (hK : K (some (.int (bI (isDg c)))) σ) : C2 Γ l mX10_isDigit [.int (nI c)] σ K := by
  obtain ⟨e1, e2⟩ := isDg_i h
  refine tX10_isDigit ?_
  rw [e1, e2]
  unfold isDg at hK
  refine ⟨fun q => ?_, fun q => ⟨fun q2 => ?_, fun q2 => ?_⟩⟩
  · rw [decide_eq_false (by omega)] at hK
    exact hK
  · rw [decide_eq_false (by omega)] at hK
    exact hK
  · rw [decide_eq_true (by omega)] at hK
    exact hK
theorem m_token {n : Nat} {x1 x2 x3 : Int32} {x4 : Int64} (h10 : σ.1 284 10 = nI n) (hn : n ≤ 402) (hK : ∀ τ, FM σ τ → τ.1 284 10 = nI (n + 1) → τ.1 287 n = x1 → τ.1 288 n = x2 → τ.1 289 n = x3 → τ.2.1 290 n = x4 → (∀ j, j ≠ n → τ.1 287 j = σ.1 287 j ∧ τ.1 288 j = σ.1 288 j ∧ τ.1 289 j = σ.1 289 j ∧ τ.2.1 290 j = σ.2.1 290 j) → K none τ) : C2 Γ l mX10_token [.ref 284, .int x1, .int x2, .int x3, .long x4] σ K := by
  have v : vp_in (nI n) 403 := vp_in_nI (by omega) (by omega)
  have c : Int32.toNatClampNeg (nI n) = n := nI_clamp (by omega)
  refine tX10_token ?_
  rw [h10, c]
  refine ⟨v, fun s1 e1 => ?_⟩
  have g1 : s1.1 284 10 = nI n := by rw [e1, sI_row, sA_off2 _ _ (by omega)]; exact h10
  rw [g1, c]
  refine ⟨v, fun s2 e2 => ?_⟩
  have g2 : s2.1 284 10 = nI n := by rw [e2, sI_row, sA_off2 _ _ (by omega)]; exact g1
  rw [g2, c]
  refine ⟨v, fun s3 e3 => ?_⟩
  have g3 : s3.1 284 10 = nI n := by rw [e3, sI_row, sA_off2 _ _ (by omega)]; exact g2
  rw [g3, c]
  refine ⟨v, fun s4 e4 s5 e5 => ?_⟩
  have g4 : s4.1 284 10 = nI n := by rw [e4]; exact g3
  rw [g4, nI_1] at e5
  have i5 : ∀ b j, b ≠ 284 → s5.1 b j = s4.1 b j := fun b j hb => by rw [e5, sI_row, sA_off2 _ _ hb]
  have i4 : s4.1 = s3.1 := by rw [e4, sJ_1]
  have j5 : s5.2.1 = s4.2.1 := by rw [e5]; rfl
  have j3 : s3.2.1 = σ.2.1 := by rw [e3, e2, e1]; rfl
  refine hK s5 ⟨fun b b1 b2 b3 b4 => ?_, fun k hk => ?_, fun b hb => ?_, ?_⟩ ?_ ?_ ?_ ?_ ?_ (fun j hj => ⟨?_, ?_, ?_, ?_⟩)
  · funext j
    rw [i5 b j b1, i4, e3, sI_row, sA_off2 _ _ b4, e2, sI_row, sA_off2 _ _ b3, e1, sI_row, sA_off2 _ _ b2]
  · rw [e5, sI_at, if_neg (fun z => hk z.2), i4, e3, sI_row, sA_off2 _ _ (by omega), e2, sI_row, sA_off2 _ _ (by omega), e1, sI_row, sA_off2 _ _ (by omega)]
  · funext j
    rw [j5, e4, sJ_at, if_neg (fun z => hb z.1), j3]
  · rw [e5, e4, e3, e2, e1]
    rfl
  · rw [e5, sI_at, if_pos ⟨rfl, rfl⟩]
  · rw [i5 _ _ (by omega), i4, e3, sI_at, if_neg (by omega), e2, sI_at, if_neg (by omega), e1, sI_at, if_pos ⟨rfl, rfl⟩]
  · rw [i5 _ _ (by omega), i4, e3, sI_at, if_neg (by omega), e2, sI_at, if_pos ⟨rfl, rfl⟩]
  · rw [i5 _ _ (by omega), i4, e3, sI_at, if_pos ⟨rfl, rfl⟩]
  · rw [j5, e4, sJ_at, if_pos ⟨rfl, rfl⟩]
  · rw [i5 _ _ (by omega), i4, e3, sI_at, if_neg (by omega), e2, sI_at, if_neg (by omega), e1, sI_at, if_neg (by omega)]
  · rw [i5 _ _ (by omega), i4, e3, sI_at, if_neg (by omega), e2, sI_at, if_neg (by omega), e1, sI_at, if_neg (by omega)]
  · rw [i5 _ _ (by omega), i4, e3, sI_at, if_neg (by omega), e2, sI_at, if_neg (by omega), e1, sI_at, if_neg (by omega)]
  · rw [j5, e4, sJ_at, if_neg (fun z => hj z.2), j3]
theorem sg_m : ∀ c : Fin 256, (nI c.val = 59 ↔ c.val = 59) ∧ (nI c.val = 61 ↔ c.val = 61) ∧ (nI c.val = 40 ↔ c.val = 40) ∧ (nI c.val = 41 ↔ c.val = 41) ∧ (nI c.val = 43 ↔ c.val = 43) ∧ (nI c.val = 45 ↔ c.val = 45) ∧ (nI c.val = 42 ↔ c.val = 42) ∧ (nI c.val = 47 ↔ c.val = 47) ∧ (nI c.val = 60 ↔ c.val = 60) := by decide +kernel
theorem m_signAt {c i : Nat} {y : Int32} (hc : c < 256) (hK : C2 Γ l mX10_token [.ref 284, .int (nI (sgK c)), .int (nI i), .int 0, .long 0] σ (Rv fun s1 => K (some (.int 1)) s1)) : C2 Γ l mX10_signAt [.ref 284, .int (nI i), .int (nI c), .int y] σ K := by
  obtain ⟨e1, e2, e3, e4, e5, e6, e7, e8, e9⟩ := sg_m ⟨c, hc⟩
  have e1 : nI c = 59 ↔ c = 59 := e1
  have e2 : nI c = 61 ↔ c = 61 := e2
  have e3 : nI c = 40 ↔ c = 40 := e3
  have e4 : nI c = 41 ↔ c = 41 := e4
  have e5 : nI c = 43 ↔ c = 43 := e5
  have e6 : nI c = 45 ↔ c = 45 := e6
  have e7 : nI c = 42 ↔ c = 42 := e7
  have e8 : nI c = 47 ↔ c = 47 := e8
  have e9 : nI c = 60 ↔ c = 60 := e9
  have fin : ∀ x4 : Int32, x4 = nI (sgK c) → wX10_signAt_95 Γ l (nI i) x4 σ K := fun x4 h => tX10_signAt_95 (by
    rw [h]
    exact hK)
  have f85 : ∀ x4 : Int32, (c ≠ 60 → x4 = nI (sgK c)) → wX10_signAt_85 Γ l (nI i) (nI c) x4 σ K := fun x4 h => tX10_signAt_85 (by
    rw [e9]
    exact ⟨fun q => fin _ (h q), fun q => fin _ (by rw [q]; decide)⟩)
  have f75 : ∀ x4 : Int32, (c ≠ 60 → c ≠ 47 → x4 = nI (sgK c)) → wX10_signAt_75 Γ l (nI i) (nI c) x4 σ K := fun x4 h => tX10_signAt_75 (by
    rw [e8]
    exact ⟨fun q => f85 _ (fun z => h z q), fun q => f85 _ (fun z => by rw [q]; decide)⟩)
  have f65 : ∀ x4 : Int32, (c ≠ 60 → c ≠ 47 → c ≠ 42 → x4 = nI (sgK c)) → wX10_signAt_65 Γ l (nI i) (nI c) x4 σ K := fun x4 h => tX10_signAt_65 (by
    rw [e7]
    exact ⟨fun q => f75 _ (fun z z2 => h z z2 q), fun q => f75 _ (fun z z2 => by rw [q]; decide)⟩)
  have f55 : ∀ x4 : Int32, (c ≠ 60 → c ≠ 47 → c ≠ 42 → c ≠ 45 → x4 = nI (sgK c)) → wX10_signAt_55 Γ l (nI i) (nI c) x4 σ K := fun x4 h => tX10_signAt_55 (by
    rw [e6]
    exact ⟨fun q => f65 _ (fun z z2 z3 => h z z2 z3 q), fun q => f65 _ (fun z z2 z3 => by rw [q]; decide)⟩)
  refine tX10_signAt ?_
  rw [e1, e2, e3, e4, e5]
  refine ⟨fun q1 => ⟨fun q2 => ⟨fun q3 => ⟨fun q4 => ⟨fun q5 => f55 _ (fun z1 z2 z3 z4 => ?_), fun q5 => f55 _ (fun _ _ _ _ => by rw [q5]; decide)⟩, fun q4 => ⟨fun q5 => f55 _ (fun _ _ _ _ => by rw [q4]; decide), fun q5 => absurd q5 (by omega)⟩⟩, fun q3 => ⟨fun q5 => f55 _ (fun _ _ _ _ => by rw [q3]; decide), fun q5 => absurd q5 (by omega)⟩⟩, fun q2 => ⟨fun q5 => f55 _ (fun _ _ _ _ => by rw [q2]; decide), fun q5 => absurd q5 (by omega)⟩⟩, fun q1 => ⟨fun q5 => f55 _ (fun _ _ _ _ => by rw [q1]; decide), fun q5 => absurd q5 (by omega)⟩⟩
  unfold sgK
  rw [if_neg q1, if_neg q2, if_neg q3, if_neg q4, if_neg q5, if_neg z4, if_neg z3, if_neg z2, if_neg z1]
  rfl
theorem MKt.st {n : Nat} (h : MKt σ T n) (d : ∀ j, j ≠ n → τ.1 287 j = σ.1 287 j ∧ τ.1 288 j = σ.1 288 j ∧ τ.1 289 j = σ.1 289 j ∧ τ.2.1 290 j = σ.2.1 290 j) (hn : liv T n → τ.1 287 n = nI (tkK T n) ∧ τ.1 288 n = nI (tkP T n) ∧ (tkK T n = 2 → τ.1 289 n = nI (tkV T n)) ∧ (tkK T n = 1 → τ.2.1 290 n = lN (nmM (tkN T n)))) : MKt τ T (n + 1) := fun i hi h4 hl => by
  by_cases e : i = n
  · subst e
    exact hn hl
  · obtain ⟨d1, d2, d3, d4⟩ := d i e
    rw [d1, d2, d3, d4]
    exact h i (by omega) h4 hl
theorem m_cutsUp (hx : MX σ T) (hk : MK σ) (tb : TB T) (hK : ∀ τ, FM σ τ → MKt τ T 401 → K none τ) : C2 Γ l mX10_cutsUp [.ref 284] σ K := by
  have l2 := hx.1
  have key : ∀ m p n τ, T.length - p = m → p ≤ T.length → n ≤ 401 → FM σ τ → τ.1 284 10 = nI n → MKt τ T n → scan T p = scan T (ps T n) → wX10_cutsUp_7 Γ l (nI p) τ K := by
    intro m
    induction m using Nat.strongRecOn with
    | ind m ih =>
    intro p n τ h1 h2 h3 d e10 hm hs
    have xt := hx.fm d
    have again : ∀ p' n' τ', p < p' → p' ≤ T.length → n' ≤ 401 → FM σ τ' → τ'.1 284 10 = nI n' → MKt τ' T n' → scan T p' = scan T (ps T n') → wX10_cutsUp_291 Γ l (nI p') τ' K := fun p' n' τ' g1 g2 g3 g4 g5 g6 g7 => tX10_cutsUp_291 (ih (T.length - p') (by omega) p' n' τ' rfl g2 g3 g4 g5 g6 g7)
    refine tX10_cutsUp_7 ?_
    rw [e10, show (400 : Int32) < nI n ↔ 400 < n from nI_ltI (a := 400) (by omega) (by omega)]
    refine ⟨fun q => hK τ d (by rw [show 401 = n by omega]; exact hm), fun q => m_byteAt xt (by omega) (ri ?_)⟩
    have bl := bt_lt' tb p
    rw [xt.2.1, nI_ltI (by omega) (by omega)]
    refine ⟨fun z => ?_, fun z => ?_⟩
    · obtain ⟨b1, b2, b3, b4⟩ := isBl_i bl
      rw [b1, b2, b3, b4]
      have blank : isBl (bt T p) = true → wX10_cutsUp_67 Γ l (nI p) τ K := fun y => by
        refine tX10_cutsUp_67 ?_
        rw [nI_1]
        exact again (p + 1) n τ (by omega) (by omega) h3 d e10 hm (by rw [← scan_bl z y]; exact hs)
      refine ⟨fun y => blank (by unfold isBl; exact decide_eq_true (by omega)), fun y => ⟨fun y2 => blank (by unfold isBl; exact decide_eq_true (by omega)), fun y2 => ⟨fun y3 => blank (by unfold isBl; exact decide_eq_true (by omega)), fun y3 => ⟨fun y4 => ?_, fun y4 => blank (by unfold isBl; exact decide_eq_true (by omega))⟩⟩⟩⟩
      have nb : isBl (bt T p) = false := by
        unfold isBl
        exact decide_eq_false (by omega)
      rw [scan_nb (fun u => by rw [nb] at u; exact absurd u.2 (by decide))] at hs
      have htk : tk T n = scan1 T p := hs.symm
      have hnx : ps T (n + 1) = (scan1 T p).2.2.2.2 := by
        show (scan T (ps T n)).2.2.2.2 = _
        rw [← hs]
      -- a token is added
      have tok : ∀ τ', FM σ τ' → τ'.1 284 10 = nI n → MKt τ' T n → ∀ (k v : Nat) (nm : Int64) (p' : Nat), (scan1 T p).1 = k → (k = 2 → (scan1 T p).2.2.1 = v) → (k = 1 → nm = lN (nmM (scan1 T p).2.2.2.1)) → (scan1 T p).2.2.2.2 = p' → C2 Γ l mX10_token [.ref 284, .int (nI k), .int (nI p), .int (nI v), .long nm] τ' (Rv fun s => wX10_cutsUp_291 Γ l (nI p') s K) := by
        intro τ' d' e10' hm' k v nm p' c1 c2 c3 c4
        have nx := scan1_nx (T := T) (q := p) h2
        have kn : k ≠ 0 := by
          rw [← c1]
          unfold scan1
          rw [if_neg (by omega)]
          split
          · show (if _ then _ else _) ≠ 0
            split
            · rcases wdK_r (lts T p (run T isLt p)) with h | h <;> omega
            · omega
          · split
            · show (if _ then _ else _) ≠ 0
              split <;> omega
            · have := sgK_r (bt T p)
              show sgK _ ≠ 0
              omega
        refine m_token e10' (by omega) (fun τ2 d2 f10 f87 f88 f89 f90 fo => rv ?_)
        have c4' := c4
        refine again p' (n + 1) τ2 (by have := nx.2.2.2 (by rw [c1]; exact kn); omega) (by have := nx.1; omega) (by omega) (d'.tr d2) f10 (hm'.st fo (fun _ => ?_)) (by rw [hnx, c4])
        have k1 : tkK T n = k := by
          unfold tkK
          rw [htk, c1]
        refine ⟨by rw [f87, k1], ?_, fun z => ?_, fun z => ?_⟩
        · rw [f88]
          unfold tkP
          rw [htk, nx.2.2.1]
        · rw [k1] at z
          rw [f89]
          unfold tkV
          rw [htk, c2 z]
        · rw [k1] at z
          rw [f90]
          unfold tkN
          rw [htk, c3 z]
      refine m_isLetter bl (ri ?_)
      rw [bI_0]
      refine ⟨fun u => m_isDigit bl (ri ?_), fun u => ?_⟩
      · rw [bI_0]
        refine ⟨fun w => ?_, fun w => ?_⟩
        · rw [nI_1]
          refine m_byteAt xt (by omega) (ri (m_signAt bl ?_))
          have sc : scan1 T p = (sgK (bt T p), p, 0, [], p + 1) := by
            unfold scan1
            rw [if_neg (by omega), u, if_neg (by decide), w, if_neg (by decide)]
          have t := tok τ d e10 hm (sgK (bt T p)) 0 0 (p + 1) (by rw [sc]) (fun z => by rw [sc]) (fun z => by have := sgK_r (bt T p); omega) (by rw [sc])
          exact C2.mono t (fun v τ hz => ⟨hz.1, ri (by rw [nI_1]; exact hz.2)⟩)
        · simp only [Bool.not_eq_false] at w
          have hd : ∀ m2 j v, m2 + j = run T isDg p → run T isDg (p + j) = m2 → p + j ≤ T.length → v = vl T p (min 4 j) → wX10_cutsUp_208 Γ l (nI p) (nI j) (nI v) τ K := by
            intro m2
            induction m2 with
            | zero =>
              intro j v g1 g2 g3 g4
              have ej : j = run T isDg p := by omega
              have hno : ¬ (p + j < T.length ∧ isDg (bt T (p + j)) = true) := fun z => by
                rw [run_s z.1 z.2] at g2
                omega
              have sc : scan1 T p = (if run T isDg p ≤ 4 then 2 else 3, p, vl T p (min 4 (run T isDg p)), [], p + run T isDg p) := by
                unfold scan1
                rw [if_neg (by omega), u, if_neg (by decide), w, if_pos rfl]
              refine tX10_cutsUp_208 ?_
              rw [nI_add]
              refine m_byteAt xt (by omega) (ri (m_isDigit (bt_lt' tb _) (ri ?_)))
              rw [bI_0, show (4 : Int32) = nI 4 from rfl, nI_leI (by omega) (by omega)]
              refine ⟨fun _ => ⟨fun y => ?_, fun y => ?_⟩, fun y => ?_⟩
              · exact tok τ d e10 hm 2 v 0 (p + j) (by rw [sc, ← ej]; show (if _ then _ else _) = 2; rw [if_pos y]) (fun _ => by rw [sc, ← ej, g4]) (fun z => absurd z (by decide)) (by rw [sc, ← ej])
              · exact tok τ d e10 hm 3 v 0 (p + j) (by rw [sc, ← ej]; show (if _ then _ else _) = 3; rw [if_neg y]) (fun z => absurd z (by decide)) (fun z => absurd z (by decide)) (by rw [sc, ← ej])
              · simp only [Bool.not_eq_false] at y
                by_cases lt : p + j < T.length
                · exact absurd ⟨lt, y⟩ hno
                · exfalso
                  unfold bt at y
                  rw [List.getD_eq_getElem?_getD, List.getElem?_eq_none (by omega)] at y
                  exact absurd y (by decide)
            | succ m2 ih2 =>
              intro j v g1 g2 g3 g4
              have hyes : p + j < T.length ∧ isDg (bt T (p + j)) = true := Decidable.byContradiction fun z => by
                rw [run_0 z] at g2
                omega
              have hs2 := run_s (f := isDg) hyes.1 hyes.2
              have hL := hyes.2
              unfold isDg at hL
              simp only [decide_eq_true_eq] at hL
              refine tX10_cutsUp_208 ?_
              rw [nI_add]
              refine m_byteAt xt (by omega) (ri (m_isDigit (bt_lt' tb _) (ri ?_)))
              rw [bI_0, show (4 : Int32) ≤ nI j ↔ 4 ≤ j from nI_leI (a := 4) (by omega) (by omega)]
              refine ⟨fun y => absurd hyes.2 (by rw [y]; decide), fun _ => ⟨fun y => tX10_cutsUp_244 ?_, fun y => m_byteAt xt (by omega) (ri (tX10_cutsUp_244 ?_))⟩⟩
              · rw [nI_1]
                exact ih2 (j + 1) v (by omega) (by rw [show p + (j + 1) = p + j + 1 by omega]; omega) (by omega) (by rw [g4, Nat.min_eq_left y, Nat.min_eq_left (by omega)])
              · rw [nI_1, g4, Nat.min_eq_right (by omega), show (10 : Int32) * nI (vl T p j) = nI (10 * vl T p j) by simp (disch := omega) only [nL, nI_add, pk_mul, pk_sub, nI_clamp, nI_leI, nI_ltI, nI_eq], nI_add, show (48 : Int32) = nI 48 from rfl, pk_sub (by omega), show 10 * vl T p j + bt T (p + j) - 48 = vl T p (j + 1) by rw [vl]; omega]
                exact ih2 (j + 1) _ (by omega) (by rw [show p + (j + 1) = p + j + 1 by omega]; omega) (by omega) (by rw [Nat.min_eq_right (by omega)])
          exact hd (run T isDg p) 0 0 (by omega) rfl (by omega) rfl
      · simp only [Bool.not_eq_false] at u
        have sc : scan1 T p = (if run T isLt p ≤ 8 then wdK (lts T p (run T isLt p)) else 3, p, 0, lts T p (min 8 (run T isLt p)), p + run T isLt p) := by
          unfold scan1
          rw [if_neg (by omega), u, if_pos rfl]
        have hl : ∀ m2 j, m2 + j = run T isLt p → run T isLt (p + j) = m2 → p + j ≤ T.length → wX10_cutsUp_85 Γ l (nI p) (nI j) (lN (nmM (lts T p (min 8 j)))) τ K := by
          intro m2
          induction m2 with
          | zero =>
            intro j g1 g2 g3
            have ej : j = run T isLt p := by omega
            have hno : ¬ (p + j < T.length ∧ isLt (bt T (p + j)) = true) := fun z => by
              rw [run_s z.1 z.2] at g2
              omega
            refine tX10_cutsUp_85 ?_
            rw [nI_add]
            refine m_byteAt xt (by omega) (ri (m_isLetter (bt_lt' tb _) (ri ?_)))
            rw [bI_0, show (8 : Int32) = nI 8 from rfl, nI_leI (by omega) (by omega), nI_ltI (by omega) (by omega)]
            refine ⟨fun _ => ⟨fun y => ⟨fun y2 => absurd y2 (by omega), fun _ => ?_⟩, fun y => ⟨fun _ => tX10_cutsUp_179 ?_, fun y2 => absurd (by omega) y2⟩⟩, fun y => ?_⟩
            · rw [Nat.min_eq_right y]
              have kwk : ∀ m3 k x6, m3 + k = 22 → (x6 = wdF kwI 20 (lts T p j) ∧ 20 ≤ x6 ∧ x6 < 20 + k ∨ x6 = 1 ∧ ∀ i, i < k → kw i ≠ lts T p j) → wX10_cutsUp_146 Γ l (nI p) (nI j) (lN (nmM (lts T p j))) (nI x6) (nI k) τ K := by
                have oj : lOk (lts T p j) := lts_ok j (by omega)
                have lj : (lts T p j).length ≤ 8 := by rw [lts_len]; exact y
                have wdf : ∀ k, k ≤ 22 → (∀ i, i < k → kw i ≠ lts T p j) → wdF kwI 20 (lts T p j) = wdF (kwI.drop k) (20 + k) (lts T p j) := by
                  intro k
                  induction k with
                  | zero => intro _ _; rfl
                  | succ k ihk =>
                    intro hk2 hn2
                    rw [ihk (by omega) (fun i hi => hn2 i (by omega)), kw_drop ⟨k, by omega⟩, wdF, if_neg (hn2 k (by omega))]
                    rfl
                intro m3
                induction m3 with
                | zero =>
                  intro k x6 g5 g6
                  have : k = 22 := by omega
                  subst this
                  refine tX10_cutsUp_146 ⟨fun _ => tX10_cutsUp_179 ?_, fun z => absurd (by decide) z⟩
                  have hw : x6 = wdK (lts T p j) := by
                    rcases g6 with ⟨a1, -, -⟩ | ⟨a1, a2⟩
                    · exact a1
                    · rw [a1]
                      unfold wdK
                      rw [wdf 22 (by omega) a2]
                      rfl
                  rw [nI_add, hw]
                  exact tok τ d e10 hm (wdK (lts T p j)) 0 (lN (nmM (lts T p j))) (p + j) (by rw [sc, ← ej]; show (if _ then _ else _) = _; rw [if_pos y]) (fun z => by rcases wdK_r (lts T p j) with h | h <;> omega) (fun _ => by rw [sc, ← ej]; show _ = lN (nmM (lts T p (min 8 j))); rw [Nat.min_eq_right y]) (by rw [sc, ← ej])
                | succ m3 ih3 =>
                  intro k x6 g5 g6
                  refine tX10_cutsUp_146 ⟨fun z => absurd z (by simp (disch := omega) only [nL, nI_add, pk_mul, pk_sub, nI_clamp, nI_leI, nI_ltI, nI_eq]; omega), fun _ => ⟨vp_in_nI (by omega) (by omega), ?_⟩⟩
                  have hkk := kwV_e ⟨k, by omega⟩
                  have hkw : τ.2.1 291 k = lN (nmM (kw k)) := by
                    rw [(hk.fm d) k (by show k < 22; omega)]
                    rw [List.getElem?_eq_getElem (show k < kwL.length by show k < 22; omega)] at hkk
                    exact Option.some.inj hkk
                  obtain ⟨k1, k2⟩ := kw_ok ⟨k, by omega⟩
                  have k1 : (kw k).length ≤ 6 := k1
                  rw [nI_clamp (by omega), hkw, lgc_0, nmM_e k2 oj (by omega) lj]
                  refine ⟨fun z => tX10_cutsUp_173 ?_, fun z => tX10_cutsUp_173 ?_⟩
                  · rw [nI_1]
                    refine ih3 (k + 1) x6 (by omega) ?_
                    rcases g6 with ⟨a1, a2, a3⟩ | ⟨a1, a2⟩
                    · exact Or.inl ⟨a1, a2, by omega⟩
                    · exact Or.inr ⟨a1, fun i hi => by
                        by_cases ei : i = k
                        · rw [ei]
                          exact z
                        · exact a2 i (by omega)⟩
                  · rw [nI_1, show (20 : Int32) + nI k = nI (20 + k) by simp (disch := omega) only [nL, nI_add, pk_mul, pk_sub, nI_clamp, nI_leI, nI_ltI, nI_eq]]
                    refine ih3 (k + 1) (20 + k) (by omega) (Or.inl ⟨?_, by omega, by omega⟩)
                    have hnone : ∀ i, i < k → kw i ≠ lts T p j := fun i hi e => by
                      have kwd : ∀ a b : Fin 22, kw a.val = kw b.val → a = b := by decide +kernel
                      have := kwd ⟨i, by omega⟩ ⟨k, by omega⟩ (e.trans z.symm)
                      have := congrArg Fin.val this
                      have : i = k := this
                      omega
                    rw [wdf k (by omega) hnone, kw_drop ⟨k, by omega⟩, wdF, if_pos z]
              exact kwk 22 0 1 rfl (Or.inr ⟨rfl, fun i hi => absurd hi (by omega)⟩)
            · rw [nI_add]
              exact tok τ d e10 hm 3 0 _ (p + j) (by rw [sc, ← ej]; show (if _ then _ else _) = 3; rw [if_neg y]) (fun z => absurd z (by decide)) (fun z => absurd z (by decide)) (by rw [sc, ← ej])
            · simp only [Bool.not_eq_false] at y
              by_cases lt : p + j < T.length
              · exact absurd ⟨lt, y⟩ hno
              · exfalso
                unfold bt at y
                rw [List.getD_eq_getElem?_getD, List.getElem?_eq_none (by omega)] at y
                exact absurd y (by decide)
          | succ m2 ih2 =>
            intro j g1 g2 g3
            have hyes : p + j < T.length ∧ isLt (bt T (p + j)) = true := Decidable.byContradiction fun z => by
              rw [run_0 z] at g2
              omega
            have hs2 := run_s (f := isLt) hyes.1 hyes.2
            have hL := hyes.2
            unfold isLt at hL
            simp only [decide_eq_true_eq] at hL
            refine tX10_cutsUp_85 ?_
            rw [nI_add]
            refine m_byteAt xt (by omega) (ri (m_isLetter (bt_lt' tb _) (ri ?_)))
            rw [bI_0, show (8 : Int32) ≤ nI j ↔ 8 ≤ j from nI_leI (a := 8) (by omega) (by omega)]
            refine ⟨fun y => absurd hyes.2 (by rw [y]; decide), fun _ => ⟨fun y => tX10_cutsUp_118 ?_, fun y => m_byteAt xt (by omega) (ri (tX10_appends ⟨fun _ => rl (tX10_cutsUp_118 ?_), fun y2 => ?_⟩))⟩⟩
            · rw [nI_1]
              have := ih2 (j + 1) (by omega) (by rw [show p + (j + 1) = p + j + 1 by omega]; omega) (by omega)
              rw [Nat.min_eq_left (by omega)] at this
              rw [Nat.min_eq_left y]
              exact this
            · have := ih2 (j + 1) (by omega) (by rw [show p + (j + 1) = p + j + 1 by omega]; omega) (by omega)
              rw [nI_1, Nat.min_eq_right (by omega), show nI (bt T (p + j)) - 97 + 1 = nI (bt T (p + j) - 96) by
                rw [show (97 : Int32) = nI 97 from rfl, pk_sub (by omega), nI_1, show bt T (p + j) - 97 + 1 = bt T (p + j) - 96 by omega], nI_l (by omega), show (27 : Int64) = lN 27 from rfl, lN_mul, lN_add]
              rw [Nat.min_eq_right (by omega), lts, nmM_app] at this
              exact this
            · exact absurd y2 (nI_ne0 (by omega) (by omega))
        exact hl (run T isLt p) 0 (by omega) rfl (by omega)
    · have el : p = T.length := by omega
      refine m_token e10 (by omega) (fun τ2 d2 f10 f87 f88 f89 f90 fo => rv (hK τ2 (d.tr d2) (fun i hi h4 hli => ?_)))
      have sc : scan T (ps T n) = (0, p, 0, [], p) := by
        rw [← hs, scan_nb (by omega)]
        unfold scan1
        rw [if_pos (by omega)]
      have kn : tkK T n = 0 := by
        unfold tkK tk
        rw [sc]
      have hm2 : MKt τ2 T (n + 1) := hm.st fo (fun _ => ⟨by rw [f87, kn]; rfl, by rw [f88]; unfold tkP tk; rw [sc, el], fun z => absurd z (by rw [kn]; decide), fun z => absurd z (by rw [kn]; decide)⟩)
      refine hm2 i ?_ h4 hli
      exact Decidable.byContradiction fun z => (hli n (by omega)).1 kn
  refine tX10_cutsUp (fun s1 e1 => key _ 0 0 s1 rfl (Nat.zero_le _) (by omega) ⟨fun b b1 _ _ _ => by rw [e1, sI_row, sA_off2 _ _ b1], fun k hk => by rw [e1, sI_at, if_neg (fun z => hk z.2)], fun b _ => by rw [e1]; rfl, by rw [e1]; rfl⟩ (by rw [e1, sI_at, if_pos ⟨rfl, rfl⟩]; rfl) (fun i hi => absurd hi (by omega)) rfl)
end O1
