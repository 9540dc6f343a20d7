/-! the class: all its tokens -/
theorem isLt_i {c : Nat} (h : c < 256) : (nI c < 97 ↔ c < 97) ∧ ((122 : Int32) < nI c ↔ 122 < c) := ⟨nI_ltI (b := 97) (by omega) (by omega), nI_ltI (a := 122) (by omega) (by omega)⟩
theorem isDg_i {c : Nat} (h : c < 256) : (nI c < 48 ↔ c < 48) ∧ ((57 : Int32) < nI c ↔ 57 < c) := ⟨nI_ltI (b := 48) (by omega) (by omega), nI_ltI (a := 57) (by omega) (by omega)⟩
theorem isBl_i {c : Nat} (h : c < 256) : (nI c = 9 ↔ c = 9) ∧ (nI c = 10 ↔ c = 10) ∧ (nI c = 13 ↔ c = 13) ∧ (nI c = 32 ↔ c = 32) := ⟨nI_eq (b := 9) (by omega) (by omega), nI_eq (b := 10) (by omega) (by omega), nI_eq (b := 13) (by omega) (by omega), nI_eq (b := 32) (by omega) (by omega)⟩
def TB (T : List Nat) : Prop := ∀ b, b ∈ T → b < 256
theorem bt_lt {T : List Nat} (h : TB T) {i : Nat} (hi : i < T.length) : bt T i < 256 := by
  unfold bt
  rw [List.getD_eq_getElem?_getD, List.getElem?_eq_getElem hi]
  exact h _ (List.getElem_mem hi)
theorem bt_eq {T : List Nat} {i : Nat} (hi : i < T.length) : bt T i = T[i] := by
  unfold bt
  rw [List.getD_eq_getElem?_getD, List.getElem?_eq_getElem hi]
  rfl
section N2
variable {Γ : GE} {l : Launch} {σ τ : SS} {K : Option Value → SS → Prop} {T : List Nat}
theorem c_isBlank {c : Nat} (h : c < 256) (hK : K (some (.int (bI (isBl c)))) σ) : C2 Γ l mX8_isBlank [.int (nI c)] σ K := by
  obtain ⟨e1, e2, e3, e4⟩ := isBl_i h
  refine tX8_isBlank ?_
  rw [e1, e2, e3, e4]
  unfold isBl at hK
  refine ⟨fun q => ?_, fun q => ⟨fun q2 => ?_, fun q2 => ⟨fun q3 => ?_, fun q3 => ⟨fun q4 => ?_, fun q4 => ?_⟩⟩⟩⟩
  · rw [decide_eq_true (by omega)] at hK
    exact hK
  · rw [decide_eq_true (by omega)] at hK
    exact hK
  · rw [decide_eq_true (by omega)] at hK
    exact hK
  · rw [decide_eq_false (by omega)] at hK
    exact hK
  · rw [decide_eq_true (by omega)] at hK
    exact hK
theorem c_isLetter {c : Nat} (h : c < 256) (hK : K (some (.int (bI (isLt c)))) σ) : C2 Γ l mX8_isLetter [.int (nI c)] σ K := by
  obtain ⟨e1, e2⟩ := isLt_i h
  refine tX8_isLetter ?_
  rw [e1, e2]
  unfold isLt at hK
  refine ⟨fun q => ?_, fun q => ⟨fun q2 => ?_, fun q2 => ?_⟩⟩
  · rw [decide_eq_false (by omega)] at hK
    exact hK
  · rw [decide_eq_false (by omega)] at hK
    exact hK
  · rw [decide_eq_true (by omega)] at hK
    exact hK
theorem c_isDigit {c : Nat} (h : c < 256) (hK : K (some (.int (bI (isDg c)))) σ) : C2 Γ l mX8_isDigit [.int (nI c)] σ K := by
  obtain ⟨e1, e2⟩ := isDg_i h
  refine tX8_isDigit ?_
  rw [e1, e2]
  unfold isDg at hK
  refine ⟨fun q => ?_, fun q => ⟨fun q2 => ?_, fun q2 => ?_⟩⟩
  · rw [decide_eq_false (by omega)] at hK
    exact hK
  · rw [decide_eq_false (by omega)] at hK
    exact hK
  · rw [decide_eq_true (by omega)] at hK
    exact hK
theorem lts_min {q n : Nat} (h : n < 8) : lts T q (min 8 (n + 1)) = lts T q n ++ [bt T (q + n) - 96] := by
  rw [Nat.min_eq_right (by omega)]
  rfl
theorem c_takeLetters {q : Nat} (ht : XT σ T) (tb : TB T) (h6 : σ.1 1 6 = nI q) (hq0 : q ≤ T.length) (hK : ∀ τ, FN σ τ → τ.1 1 8 = σ.1 1 8 → τ.1 1 6 = nI (q + run T isLt q) → τ.1 1 7 = nI (ckK (if run T isLt q ≤ 8 then wdK (lts T q (run T isLt q)) else 3)) → τ.2.1 1 10 = lN (nmC (lts T q (min 8 (run T isLt q)))) → K none τ) : C2 Γ l mX8_takeLetters [.ref 1] σ K := by
  have l2000 := ht.1
  have key : ∀ m n τ, m + n = run T isLt q → run T isLt (q + n) = m → FN σ τ → τ.1 1 8 = σ.1 1 8 → τ.1 1 6 = nI (q + n) → τ.2.1 1 10 = lN (nmC (lts T q (min 8 n))) → q + n ≤ T.length ∨ n = 0 → n ≤ 2000 → wX8_takeLetters_7 Γ l (nI n) τ K := by
    intro m
    induction m with
    | zero =>
      intro n τ h1 h2 d e8 e6 e10 hq hn
      have en : n = run T isLt q := by omega
      have t := ht.fn d
      have fin : (nI n ≤ 8 → C2 Γ l mX8_kindOfWord [.ref 1, .int (nI n)] τ (Ri fun r s => ∀ s3 : SS, s3 = sI s 1 7 r → K none s3)) ∧ (¬ nI n ≤ 8 → ∀ s4 : SS, s4 = sI τ 1 7 1 → K none s4) := by
        rw [show (8 : Int32) = nI 8 from rfl, nI_leI (by omega) (by omega)]
        refine ⟨fun z => ?_, fun z s4 e4 => ?_⟩
        · rw [Nat.min_eq_right z] at e10
          have c := c_kindOfWord (Γ := Γ) (l := l) (σ := τ) (a := lts T q n) (K := Ri fun r s => ∀ s3 : SS, s3 = sI s 1 7 r → K none s3) e10 (lts_ok n (by omega)) (by rw [lts_len]; exact z) (ri (fun s3 e3 => ?_))
          · rw [lts_len] at c
            exact c
          · rw [e3]
            refine hK _ (d.wI (by omega)) (by rw [sI_at, if_neg (by omega)]; exact e8) (by rw [sI_at, if_neg (by omega), e6, en]) (by rw [sI_at, if_pos ⟨rfl, rfl⟩, ← en, if_pos z]) ?_
            show τ.2.1 1 10 = _
            rw [e10, ← en, Nat.min_eq_right z]
        · rw [e4]
          refine hK _ (d.wI (by omega)) (by rw [sI_at, if_neg (by omega)]; exact e8) (by rw [sI_at, if_neg (by omega), e6, en]) (by rw [sI_at, if_pos ⟨rfl, rfl⟩, ← en, if_neg z]; rfl) ?_
          show τ.2.1 1 10 = _
          rw [e10, ← en]
      have hno : ¬ (q + n < T.length ∧ isLt (bt T (q + n)) = true) := fun z => by
        rw [run_s z.1 z.2] at h2
        omega
      refine tX8_takeLetters_7 ?_
      rw [t.2.1, e6, nI_leI (by omega) (by omega)]
      refine ⟨fun z => fin, fun z => ⟨vp_in_nI (by omega) (by omega), ?_⟩⟩
      rw [nI_clamp (by omega), t.2.2 _ (by omega), ← bt_eq]
      refine c_isLetter (bt_lt tb (by omega)) (ri ?_)
      rw [bI_0]
      refine ⟨fun _ => fin, fun u => absurd ⟨by omega, by simpa using u⟩ hno⟩
    | succ m ih =>
      intro n τ h1 h2 d e8 e6 e10 hq hn
      have t := ht.fn d
      have hyes : q + n < T.length ∧ isLt (bt T (q + n)) = true := Decidable.byContradiction fun z => by
        rw [run_0 z] at h2
        omega
      have hs := run_s (f := isLt) hyes.1 hyes.2
      have hL := hyes.2
      unfold isLt at hL
      simp only [decide_eq_true_eq] at hL
      refine tX8_takeLetters_7 ?_
      rw [t.2.1, e6, nI_leI (by omega) (by omega)]
      refine ⟨fun z => absurd z (by omega), fun _ => ⟨vp_in_nI (by omega) (by omega), ?_⟩⟩
      rw [nI_clamp (by omega), t.2.2 _ hyes.1, ← bt_eq]
      refine c_isLetter (bt_lt tb hyes.1) (ri ?_)
      rw [bI_0]
      refine ⟨fun u => absurd hyes.2 (by rw [u]; decide), fun _ => ?_⟩
      rw [show (8 : Int32) = nI 8 from rfl, nI_leI (by omega) (by omega), nI_1, e6, nI_1]
      refine ⟨fun z s11 e11 => ?_, fun z => ⟨vp_in_nI (by omega) (by omega), fun s12 e12 s13 e13 => ?_⟩⟩
      · rw [e11]
        refine ih (n + 1) _ (by omega) (by rw [show q + (n + 1) = q + n + 1 by omega]; omega) (d.wI (by omega)) (by rw [sI_at, if_neg (by omega)]; exact e8) (by rw [sI_at, if_pos ⟨rfl, rfl⟩]; rfl) ?_ (Or.inl (by omega)) (by omega)
        show τ.2.1 1 10 = _
        rw [e10, Nat.min_eq_left z, Nat.min_eq_left (by omega)]
      · rw [nI_clamp (by omega), t.2.2 _ hyes.1, ← bt_eq hyes.1, e10, Nat.min_eq_right (by omega)] at e12
        have hb : nmC (lts T q n) < 32 ^ n := by
          have := nmC_lt (lts T q n) (lts_ok n (by omega))
          rw [lts_len] at this
          exact this
        have p32 : (2 : Nat) ^ (5 * n) = 32 ^ n := by rw [Nat.pow_mul]
        have pl : (32 : Nat) ^ n ≤ 32 ^ 7 := Nat.pow_le_pow_right (by decide) (by omega)
        have p7 : (32 : Nat) ^ 7 = 34359738368 := by decide
        have ec : nI (bt T (q + n)) - 97 + 1 = nI (bt T (q + n) - 96) := by
          rw [show (97 : Int32) = nI 97 from rfl, pk_sub (by omega), nI_1, show bt T (q + n) - 97 + 1 = bt T (q + n) - 96 by omega]
        have hmul : (bt T (q + n) - 96) * 32 ^ n ≤ 26 * 32 ^ 7 := Nat.mul_le_mul (by omega) pl
        rw [ec, nI_l (by omega), show (5 : Int32) * nI n = nI (5 * n) by simp (disch := omega) only [nL, nI_add, pk_mul, pk_sub, nI_clamp, nI_leI, nI_ltI, nI_eq], wb_shl _ (by omega), p32, Int64.or_comm, g_or (k := 5 * n) (p := 32 ^ n) p32 hb (by omega), show (bt T (q + n) - 96) * 32 ^ n + nmC (lts T q n) = nmC (lts T q (n + 1)) by rw [lts, nmC_app, lts_len]; omega] at e12
        have e6' : s12.1 1 6 = nI (q + n) := by
          rw [e12]
          exact e6
        rw [e6', nI_1] at e13
        rw [e13]
        refine ih (n + 1) _ (by omega) (by rw [show q + (n + 1) = q + n + 1 by omega]; omega) (FN.wI (by rw [e12]; exact d.wJ) (by omega)) (by rw [sI_at, if_neg (by omega), e12]; exact e8) (by rw [sI_at, if_pos ⟨rfl, rfl⟩]; rfl) ?_ (Or.inl (by omega)) (by omega)
        show s12.2.1 1 10 = _
        rw [e12, sJ_at, if_pos ⟨rfl, rfl⟩, Nat.min_eq_right (by omega)]
  refine tX8_takeLetters (fun s1 e1 => ?_)
  refine key (run T isLt q) 0 s1 (by omega) rfl (by rw [e1]; exact FN.rf.wJ) (by rw [e1]; rfl) (by rw [e1]; exact h6) ?_ (Or.inr rfl) (by omega)
  rw [e1, sJ_at, if_pos ⟨rfl, rfl⟩]
  rfl
theorem c_takeDigits {q : Nat} (ht : XT σ T) (tb : TB T) (h6 : σ.1 1 6 = nI q) (hq0 : q ≤ T.length) (hK : ∀ τ, FN σ τ → τ.1 1 8 = σ.1 1 8 → τ.1 1 6 = nI (q + run T isDg q) → τ.1 1 7 = nI (ckK (if run T isDg q ≤ 4 then 2 else 3)) → τ.1 1 9 = nI (vl T q (min 4 (run T isDg q))) → K none τ) : C2 Γ l mX8_takeDigits [.ref 1] σ K := by
  have l2000 := ht.1
  have key : ∀ m n τ, m + n = run T isDg q → run T isDg (q + n) = m → FN σ τ → τ.1 1 8 = σ.1 1 8 → τ.1 1 6 = nI (q + n) → τ.1 1 9 = nI (vl T q (min 4 n)) → q + n ≤ T.length ∨ n = 0 → n ≤ 2000 → wX8_takeDigits_7 Γ l (nI n) τ K := by
    intro m
    induction m with
    | zero =>
      intro n τ h1 h2 d e8 e6 e10 hq hn
      have en : n = run T isDg q := by omega
      have t := ht.fn d
      have fin : (nI n ≤ 4 → ∀ s1 : SS, s1 = sI τ 1 7 3 → K none s1) ∧ (¬ nI n ≤ 4 → ∀ s4 : SS, s4 = sI τ 1 7 1 → K none s4) := by
        rw [show (4 : Int32) = nI 4 from rfl, nI_leI (by omega) (by omega)]
        refine ⟨fun z s4 e4 => ?_, fun z s4 e4 => ?_⟩
        · rw [e4]
          exact hK _ (d.wI (by omega)) (by rw [sI_at, if_neg (by omega)]; exact e8) (by rw [sI_at, if_neg (by omega), e6, en]) (by rw [sI_at, if_pos ⟨rfl, rfl⟩, ← en, if_pos z]; rfl) (by rw [sI_at, if_neg (by omega), e10, en])
        · rw [e4]
          exact hK _ (d.wI (by omega)) (by rw [sI_at, if_neg (by omega)]; exact e8) (by rw [sI_at, if_neg (by omega), e6, en]) (by rw [sI_at, if_pos ⟨rfl, rfl⟩, ← en, if_neg z]; rfl) (by rw [sI_at, if_neg (by omega), e10, en])
      have hno : ¬ (q + n < T.length ∧ isDg (bt T (q + n)) = true) := fun z => by
        rw [run_s z.1 z.2] at h2
        omega
      refine tX8_takeDigits_7 ?_
      rw [t.2.1, e6, nI_leI (by omega) (by omega)]
      refine ⟨fun z => fin, fun z => ⟨vp_in_nI (by omega) (by omega), ?_⟩⟩
      rw [nI_clamp (by omega), t.2.2 _ (by omega), ← bt_eq]
      refine c_isDigit (bt_lt tb (by omega)) (ri ?_)
      rw [bI_0]
      refine ⟨fun _ => fin, fun u => absurd ⟨by omega, by simpa using u⟩ hno⟩
    | succ m ih =>
      intro n τ h1 h2 d e8 e6 e10 hq hn
      have t := ht.fn d
      have hyes : q + n < T.length ∧ isDg (bt T (q + n)) = true := Decidable.byContradiction fun z => by
        rw [run_0 z] at h2
        omega
      have hs := run_s (f := isDg) hyes.1 hyes.2
      have hL := hyes.2
      unfold isDg at hL
      simp only [decide_eq_true_eq] at hL
      refine tX8_takeDigits_7 ?_
      rw [t.2.1, e6, nI_leI (by omega) (by omega)]
      refine ⟨fun z => absurd z (by omega), fun _ => ⟨vp_in_nI (by omega) (by omega), ?_⟩⟩
      rw [nI_clamp (by omega), t.2.2 _ hyes.1, ← bt_eq]
      refine c_isDigit (bt_lt tb hyes.1) (ri ?_)
      rw [bI_0]
      refine ⟨fun u => absurd hyes.2 (by rw [u]; decide), fun _ => ?_⟩
      rw [show (4 : Int32) = nI 4 from rfl, nI_leI (by omega) (by omega), nI_1, e6, nI_1]
      refine ⟨fun z s11 e11 => ?_, fun z => ⟨vp_in_nI (by omega) (by omega), fun s12 e12 s13 e13 => ?_⟩⟩
      · rw [e11]
        exact ih (n + 1) _ (by omega) (by rw [show q + (n + 1) = q + n + 1 by omega]; omega) (d.wI (by omega)) (by rw [sI_at, if_neg (by omega)]; exact e8) (by rw [sI_at, if_pos ⟨rfl, rfl⟩]; rfl) (by rw [sI_at, if_neg (by omega), e10, Nat.min_eq_left z, Nat.min_eq_left (by omega)]) (Or.inl (by omega)) (by omega)
      · rw [nI_clamp (by omega), t.2.2 _ hyes.1, ← bt_eq hyes.1, e10, Nat.min_eq_right (by omega)] at e12
        have ee : (10 * nI (vl T q n) + nI (bt T (q + n))) - 48 = nI (vl T q (n + 1)) := by
          rw [show (10 : Int32) * nI (vl T q n) = nI (10 * vl T q n) by simp (disch := omega) only [nL, nI_add, pk_mul, pk_sub, nI_clamp, nI_leI, nI_ltI, nI_eq], nI_add, show (48 : Int32) = nI 48 from rfl, pk_sub (by omega), show 10 * vl T q n + bt T (q + n) - 48 = vl T q (n + 1) by rw [vl]; omega]
        rw [ee] at e12
        have e6' : s12.1 1 6 = nI (q + n) := by
          rw [e12, sI_at, if_neg (by omega)]
          exact e6
        rw [e6', nI_1] at e13
        rw [e13]
        exact ih (n + 1) _ (by omega) (by rw [show q + (n + 1) = q + n + 1 by omega]; omega) (FN.wI (by rw [e12]; exact d.wI (by omega)) (by omega)) (by rw [sI_at, if_neg (by omega), e12, sI_at, if_neg (by omega)]; exact e8) (by rw [sI_at, if_pos ⟨rfl, rfl⟩]; rfl) (by rw [sI_at, if_neg (by omega), e12, sI_at, if_pos ⟨rfl, rfl⟩, Nat.min_eq_right (by omega)]) (Or.inl (by omega)) (by omega)
  refine tX8_takeDigits (fun s1 e1 => ?_)
  refine key (run T isDg q) 0 s1 (by omega) rfl (by rw [e1]; exact FN.rf.wI (by omega)) (by rw [e1, sI_at, if_neg (by omega)]) (by rw [e1, sI_at, if_neg (by omega)]; exact h6) ?_ (Or.inr rfl) (by omega)
  rw [e1, sI_at, if_pos ⟨rfl, rfl⟩]
  rfl
theorem c_findNext_39 {q : Nat} (ht : XT σ T) (tb : TB T) (h6 : σ.1 1 6 = nI q) (hq : q ≤ T.length) (hK : ∀ τ, FN σ τ → FT1 T τ (scan1 T q) → K none τ) : wX8_findNext_39 Γ l σ K := by
  have l2000 := ht.1
  refine tX8_findNext_39 (fun s1 e1 => ?_)
  rw [h6] at e1
  have d1 : FN σ s1 := by
    rw [e1]
    exact FN.rf.wI (by omega)
  have t1 := ht.fn d1
  have e6 : s1.1 1 6 = nI q := by rw [e1, sI_at, if_neg (by omega)]; exact h6
  have e8 : s1.1 1 8 = nI q := by rw [e1, sI_at, if_pos ⟨rfl, rfl⟩]
  rw [e6, t1.2.1, nI_ltI (by omega) (by omega)]
  unfold scan1 at hK
  refine ⟨fun z => ⟨vp_in_nI (by omega) (by omega), ?_⟩, fun z s16 e16 => ?_⟩
  · rw [if_neg (by omega)] at hK
    have bl := bt_lt tb z
    rw [nI_clamp (by omega), t1.2.2 _ z, ← bt_eq z]
    refine c_isLetter bl (ri ?_)
    rw [bI_0]
    refine ⟨fun u => ?_, fun u => ?_⟩
    · rw [u, if_neg (by decide)] at hK
      refine c_isDigit bl (ri ?_)
      rw [bI_0]
      refine ⟨fun w => ?_, fun w => ?_⟩
      · rw [w, if_neg (by decide)] at hK
        obtain ⟨k1, k2⟩ := sg_k ⟨bt T q, bl⟩
        refine c_signs bl (fun r hr => ri ?_)
        rw [hr]
        refine ⟨fun y s8 f8 s9 f9 => ?_, fun y s10 f10 s11 f11 => ?_⟩
        · have g6 : s8.1 1 6 = nI q := by rw [f8, sI_at, if_neg (by omega)]; exact e6
          rw [g6, nI_1] at f9
          rw [f9]
          refine hK _ (FN.wI (by rw [f8]; exact d1.wI (by omega)) (by omega)) ⟨by rw [sI_at, if_pos ⟨rfl, rfl⟩], ?_, ?_, fun e => absurd e ?_, fun e => absurd e ?_⟩
          · rw [sI_at, if_neg (by omega), f8, sI_at, if_pos ⟨rfl, rfl⟩]
            show 1 = nI (ckK (sgK (bt T q)))
            rw [y]
            rfl
          · rw [sI_at, if_neg (by omega), f8, sI_at, if_neg (by omega)]
            exact e8
          · show ¬ sgK (bt T q) = 2
            omega
          · show ¬ sgK (bt T q) = 1
            omega
        · have g6 : s10.1 1 6 = nI q := by rw [f10, sI_at, if_neg (by omega)]; exact e6
          rw [g6, nI_1] at f11
          rw [f11]
          have sr := sgK_r (bt T q)
          refine hK _ (FN.wI (by rw [f10]; exact d1.wI (by omega)) (by omega)) ⟨by rw [sI_at, if_pos ⟨rfl, rfl⟩], ?_, ?_, fun e => absurd e ?_, fun e => absurd e ?_⟩
          · rw [sI_at, if_neg (by omega), f10, sI_at, if_pos ⟨rfl, rfl⟩]
            show nI (bt T q) = nI (ckK (sgK (bt T q)))
            rw [k2 y]
          · rw [sI_at, if_neg (by omega), f10, sI_at, if_neg (by omega)]
            exact e8
          · show ¬ sgK (bt T q) = 2
            omega
          · show ¬ sgK (bt T q) = 1
            omega
      · simp only [Bool.not_eq_false] at w
        rw [w, if_pos rfl] at hK
        refine c_takeDigits t1 tb e6 hq (fun τ d g8 g6 g7 g9 => rv ?_)
        refine hK τ (d1.tr d) ⟨g6, g7, g8.trans e8, fun _ => g9, fun e => ?_⟩
        have : (if run T isDg q ≤ 4 then 2 else 3) = 1 := e
        split at this <;> omega
    · simp only [Bool.not_eq_false] at u
      rw [u, if_pos rfl] at hK
      refine c_takeLetters t1 tb e6 hq (fun τ d g8 g6 g7 g10 => rv ?_)
      refine hK τ (d1.tr d) ⟨g6, g7, g8.trans e8, fun e => ?_, fun _ => g10⟩
      have : (if run T isLt q ≤ 8 then wdK (lts T q (run T isLt q)) else 3) = 2 := e
      split at this
      · rcases wdK_r (lts T q (run T isLt q)) with h | h <;> omega
      · omega
  · rw [if_pos (by omega)] at hK
    rw [e16]
    refine hK _ (d1.wI (by omega)) ⟨by rw [sI_at, if_neg (by omega)]; exact e6, by rw [sI_at, if_pos ⟨rfl, rfl⟩]; rfl, by rw [sI_at, if_neg (by omega)]; exact e8, fun e => absurd e ?_, fun e => absurd e ?_⟩
    · show ¬ (0 : Nat) = 2
      decide
    · show ¬ (0 : Nat) = 1
      decide
theorem c_findNext {p : Nat} (ht : XT σ T) (tb : TB T) (h6 : σ.1 1 6 = nI p) (hp : p ≤ T.length) (hK : ∀ τ, FN σ τ → FT1 T τ (scan T p) → K none τ) : C2 Γ l mX8_findNext [.ref 1] σ K := by
  have l2000 := ht.1
  have key : ∀ m p τ, T.length - p = m → p ≤ T.length → FN σ τ → τ.1 1 6 = nI p → (∀ υ, FN σ υ → FT1 T υ (scan T p) → K none υ) → wX8_findNext_0 Γ l τ K ∧ (((τ.1 1 1) ≤ (τ.1 1 6) → (wX8_findNext_39 Γ l τ K)) ∧ (¬ ((τ.1 1 1) ≤ (τ.1 1 6)) → (vp_in (τ.1 1 6) 2000 ∧ (C2 Γ l mX8_isBlank [.int (τ.1 2 (Int32.toNatClampNeg (τ.1 1 6)))] τ (Ri fun r2_ s1_ => ((r2_ = 0 → (wX8_findNext_39 Γ l  s1_ K)) ∧ (¬ (r2_ = 0) → (∀ s3_ : SS, s3_ = sI s1_ 1 6 ((s1_.1 1 6) + 1) → (wX8_findNext_0 Γ l  s3_ K))))))))) := by
    intro m
    induction m with
    | zero =>
      intro p τ h1 h2 d e6 hk
      have t := ht.fn d
      rw [scan_nb (by omega)] at hk
      have w39 : wX8_findNext_39 Γ l τ K := c_findNext_39 t tb e6 h2 (fun υ du => hk υ (d.tr du))
      have body : (((τ.1 1 1) ≤ (τ.1 1 6) → (wX8_findNext_39 Γ l τ K)) ∧ (¬ ((τ.1 1 1) ≤ (τ.1 1 6)) → (vp_in (τ.1 1 6) 2000 ∧ (C2 Γ l mX8_isBlank [.int (τ.1 2 (Int32.toNatClampNeg (τ.1 1 6)))] τ (Ri fun r2_ s1_ => ((r2_ = 0 → (wX8_findNext_39 Γ l  s1_ K)) ∧ (¬ (r2_ = 0) → (∀ s3_ : SS, s3_ = sI s1_ 1 6 ((s1_.1 1 6) + 1) → (wX8_findNext_0 Γ l  s3_ K))))))))) := by
        rw [t.2.1, e6, nI_leI (by omega) (by omega)]
        exact ⟨fun _ => w39, fun z => absurd (by omega) z⟩
      exact ⟨tX8_findNext_0 body, body⟩
    | succ m ih =>
      intro p τ h1 h2 d e6 hk
      have t := ht.fn d
      have body : (((τ.1 1 1) ≤ (τ.1 1 6) → (wX8_findNext_39 Γ l τ K)) ∧ (¬ ((τ.1 1 1) ≤ (τ.1 1 6)) → (vp_in (τ.1 1 6) 2000 ∧ (C2 Γ l mX8_isBlank [.int (τ.1 2 (Int32.toNatClampNeg (τ.1 1 6)))] τ (Ri fun r2_ s1_ => ((r2_ = 0 → (wX8_findNext_39 Γ l  s1_ K)) ∧ (¬ (r2_ = 0) → (∀ s3_ : SS, s3_ = sI s1_ 1 6 ((s1_.1 1 6) + 1) → (wX8_findNext_0 Γ l  s3_ K))))))))) := by
        rw [t.2.1, e6, nI_leI (by omega) (by omega)]
        refine ⟨fun z => absurd z (by omega), fun _ => ⟨vp_in_nI (by omega) (by omega), ?_⟩⟩
        rw [nI_clamp (by omega), t.2.2 p (by omega), ← bt_eq]
        refine c_isBlank (bt_lt tb (by omega)) (ri ?_)
        rw [bI_0]
        refine ⟨fun z => ?_, fun z s3 e3 => ?_⟩
        · rw [scan_nb (fun u => by rw [z] at u; exact absurd u.2 (by decide))] at hk
          exact c_findNext_39 t tb e6 h2 (fun υ du => hk υ (d.tr du))
        · simp only [Bool.not_eq_false] at z
          rw [e6, nI_1] at e3
          rw [e3]
          rw [scan_bl (by omega) z] at hk
          exact (ih (p + 1) _ (by omega) (by omega) (d.wI (by omega)) (by rw [sI_at, if_pos ⟨rfl, rfl⟩]) hk).1
      exact ⟨tX8_findNext_0 body, body⟩
  exact tX8_findNext (key _ p σ rfl hp FN.rf h6 hK).2
/-- tokens ahead of which all are tokens -/
def liv (T : List Nat) (n : Nat) : Prop := ∀ j, j < n → tkK T j ≠ 0 ∧ tkK T j ≠ 3
/-- the class's tokens -/
def XK (σ : SS) (T : List Nat) : Prop := ∀ i, i < 402 → liv T i → σ.1 3 i = nI (ckK (tkK T i)) ∧ σ.1 4 i = nI (tkP T i) ∧ (tkK T i = 2 → σ.1 5 i = nI (tkV T i)) ∧ (tkK T i = 1 → σ.2.1 6 i = lN (nmC (tkN T i)))
def FA (σ τ : SS) : Prop := (∀ b, b ≠ 1 → b ≠ 3 → b ≠ 4 → b ≠ 5 → τ.1 b = σ.1 b) ∧ τ.1 1 1 = σ.1 1 1 ∧ (∀ b, b ≠ 1 → b ≠ 6 → τ.2.1 b = σ.2.1 b) ∧ τ.2.2 = σ.2.2
theorem ck_0 : ∀ k, k < 42 → (ckK k = 0 ↔ k = 0) ∧ (ckK k = 1 ↔ k = 3) := by decide
theorem c_findAll (ht : XT σ T) (tb : TB T) (hK : ∀ τ, FA σ τ → XK τ T → K none τ) : C2 Γ l mX8_findAll [.ref 1] σ K := by
  have key : ∀ m i τ, m + i = 402 → FA σ τ → (∀ j, j < i → liv T j → τ.1 3 j = nI (ckK (tkK T j)) ∧ τ.1 4 j = nI (tkP T j) ∧ (tkK T j = 2 → τ.1 5 j = nI (tkV T j)) ∧ (tkK T j = 1 → τ.2.1 6 j = lN (nmC (tkN T j)))) →
      ((liv T i ∧ τ.1 1 6 = nI (ps T i) ∧ ¬ τ.1 1 7 = 0 ∧ ¬ τ.1 1 7 = 1) ∨ (¬ liv T i ∧ (τ.1 1 7 = 0 ∨ τ.1 1 7 = 1))) → wX8_findAll_12 Γ l (nI i) τ K := by
    intro m
    induction m with
    | zero =>
      intro i τ h1 d a b
      have : i = 402 := by omega
      subst this
      exact tX8_findAll_12 ⟨fun _ => hK τ d (fun i hi hl => a i hi hl), fun q => absurd (Int32.le_refl _) q⟩
    | succ m ih =>
      intro i τ h1 d a b
      have vi : vp_in (nI i) 402 := vp_in_nI (by omega) (by omega)
      have ci : Int32.toNatClampNeg (nI i) = i := nI_clamp (by omega)
      have dead : ¬ liv T i → (τ.1 1 7 = 0 ∨ τ.1 1 7 = 1) → ∀ s4 : SS, s4 = sJ (sI (sI (sI τ 3 i (τ.1 1 7)) 4 i ((sI τ 3 i (τ.1 1 7)).1 1 8)) 5 i ((sI (sI τ 3 i (τ.1 1 7)) 4 i ((sI τ 3 i (τ.1 1 7)).1 1 8)).1 1 9)) 6 i ((sI (sI (sI τ 3 i (τ.1 1 7)) 4 i ((sI τ 3 i (τ.1 1 7)).1 1 8)) 5 i ((sI (sI τ 3 i (τ.1 1 7)) 4 i ((sI τ 3 i (τ.1 1 7)).1 1 8)).1 1 9)).2.1 1 10) → wX8_findAll_12 Γ l (nI (i + 1)) s4 K := by
        intro hl hk s4 e4
        have r1 : s4.1 1 = τ.1 1 := by
          rw [e4, sJ_1, sI_row, sA_off2 _ _ (by omega), sI_row, sA_off2 _ _ (by omega), sI_row, sA_off2 _ _ (by omega)]
        have rb : ∀ b j, (b ≠ 3 ∧ b ≠ 4 ∧ b ≠ 5) ∨ j ≠ i → s4.1 b j = τ.1 b j := fun b j hb => by
          rw [e4, sJ_1, sI_at, if_neg (by omega), sI_at, if_neg (by omega), sI_at, if_neg (by omega)]
        have rj : ∀ b j, b ≠ 6 ∨ j ≠ i → s4.2.1 b j = τ.2.1 b j := fun b j hb => by
          rw [e4, sJ_at, if_neg (by omega)]
          rfl
        have hl' : ¬ liv T (i + 1) := fun z => hl (fun j hj => z j (by omega))
        refine ih (i + 1) s4 (by omega) ⟨fun b b1 b3 b4 b5 => ?_, ?_, fun b b1 b6 => ?_, ?_⟩ (fun j hj hjl => ?_) (Or.inr ⟨hl', by rw [r1]; exact hk⟩)
        · funext j
          rw [rb b j (Or.inl ⟨b3, b4, b5⟩)]
          exact congrFun (d.1 b b1 b3 b4 b5) j
        · rw [r1]
          exact d.2.1
        · funext j
          rw [rj b j (Or.inl b6)]
          exact congrFun (d.2.2.1 b b1 b6) j
        · rw [e4, sJ_3]
          exact d.2.2.2
        · have hji : j ≠ i := fun z => hl (by rw [← z]; exact hjl)
          rw [rb 3 j (Or.inr hji), rb 4 j (Or.inr hji), rb 5 j (Or.inr hji), rj 6 j (Or.inr hji)]
          exact a j (by omega) hjl
      refine tX8_findAll_12 ⟨fun q => absurd q (by rw [show Int32.ofNat 402 = nI 402 from rfl]; simp (disch := omega) only [nL, nI_add, pk_mul, pk_sub, nI_clamp, nI_leI, nI_ltI, nI_eq]; omega), fun _ => ?_⟩
      rw [ci, nI_1]
      refine ⟨fun q => ?_, fun q => ⟨fun q2 => ?_, fun q2 => ?_⟩⟩
      · have hl : ¬ liv T i := by
          rcases b with ⟨b1, b2, b3, b4⟩ | ⟨b1, b2⟩
          · exact absurd q b3
          · exact b1
        exact ⟨vi, fun s1 e1 => ⟨vi, fun s2 e2 => ⟨vi, fun s3 e3 => ⟨vi, fun s4 e4 => dead hl (Or.inl q) s4 (by rw [e4, e3, e2, e1])⟩⟩⟩⟩
      · have hl : ¬ liv T i := by
          rcases b with ⟨b1, b2, b3, b4⟩ | ⟨b1, b2⟩
          · exact absurd q2 b4
          · exact b1
        exact ⟨vi, fun s1 e1 => ⟨vi, fun s2 e2 => ⟨vi, fun s3 e3 => ⟨vi, fun s4 e4 => dead hl (Or.inr q2) s4 (by rw [e4, e3, e2, e1])⟩⟩⟩⟩
      · have hl : liv T i ∧ τ.1 1 6 = nI (ps T i) := by
          rcases b with ⟨b1, b2, b3, b4⟩ | ⟨b1, b2⟩
          · exact ⟨b1, b2⟩
          · exact absurd b2 (fun z => z.elim q q2)
        have t : XT τ T := by
          unfold XT
          rw [d.2.1, d.1 2 (by omega) (by omega) (by omega) (by omega)]
          exact ht
        refine c_findNext t tb hl.2 (ps_le i) (fun υ du ⟨u6, u7, u8, u9, u10⟩ => rv ⟨vi, fun s11 e11 => ⟨vi, fun s12 e12 => ⟨vi, fun s13 e13 => ⟨vi, fun s14 e14 => ?_⟩⟩⟩⟩)
        have k42 := (tk_kind T i).2.2
        have r1 : s14.1 1 = υ.1 1 := by
          rw [e14, sJ_1, e13, sI_row, sA_off2 _ _ (by omega), e12, sI_row, sA_off2 _ _ (by omega), e11, sI_row, sA_off2 _ _ (by omega)]
        have f3 : s14.1 3 i = nI (ckK (tkK T i)) := by
          rw [e14, sJ_1, e13, sI_at, if_neg (by omega), e12, sI_at, if_neg (by omega), e11, sI_at, if_pos ⟨rfl, rfl⟩]
          exact u7
        have f4 : s14.1 4 i = nI (tkP T i) := by
          rw [e14, sJ_1, e13, sI_at, if_neg (by omega), e12, sI_at, if_pos ⟨rfl, rfl⟩, e11, sI_row, sA_off2 _ _ (by omega)]
          exact u8
        have f5 : tkK T i = 2 → s14.1 5 i = nI (tkV T i) := fun z => by
          rw [e14, sJ_1, e13, sI_at, if_pos ⟨rfl, rfl⟩, e12, sI_row, sA_off2 _ _ (by omega), e11, sI_row, sA_off2 _ _ (by omega)]
          exact u9 z
        have f6 : tkK T i = 1 → s14.2.1 6 i = lN (nmC (tkN T i)) := fun z => by
          rw [e14, sJ_at, if_pos ⟨rfl, rfl⟩, e13, e12, e11]
          exact u10 z
        have rb : ∀ b j, (b ≠ 3 ∧ b ≠ 4 ∧ b ≠ 5) ∨ j ≠ i → s14.1 b j = υ.1 b j := fun b j hb => by
          rw [e14, sJ_1, e13, sI_at, if_neg (by omega), e12, sI_at, if_neg (by omega), e11, sI_at, if_neg (by omega)]
        have rj : ∀ b j, b ≠ 6 ∨ j ≠ i → s14.2.1 b j = υ.2.1 b j := fun b j hb => by
          rw [e14, sJ_at, if_neg (by omega), e13, e12, e11]
          rfl
        refine ih (i + 1) s14 (by omega) ⟨fun b b1 b3 b4 b5 => ?_, ?_, fun b b1 b6 => ?_, ?_⟩ (fun j hj hjl => ?_) ?_
        · funext j
          rw [rb b j (Or.inl ⟨b3, b4, b5⟩), du.1 b b1]
          exact congrFun (d.1 b b1 b3 b4 b5) j
        · rw [r1, du.2.1]
          exact d.2.1
        · funext j
          rw [rj b j (Or.inl b6), du.2.2.1 b b1]
          exact congrFun (d.2.2.1 b b1 b6) j
        · rw [e14, sJ_3, e13, e12, e11]
          exact du.2.2.2.trans d.2.2.2
        · by_cases ej : j = i
          · subst ej
            exact ⟨f3, f4, f5, f6⟩
          · rw [rb 3 j (Or.inr ej), rb 4 j (Or.inr ej), rb 5 j (Or.inr ej), rj 6 j (Or.inr ej), du.1 3 (by omega), du.1 4 (by omega), du.1 5 (by omega), du.2.2.1 6 (by omega)]
            exact a j (by omega) hjl
        · obtain ⟨c0, c1⟩ := ck_0 (tkK T i) k42
          have ck := ckK_42 (tkK T i) k42
          rw [r1]
          have e0 : (υ.1 1 7 = 0) ↔ tkK T i = 0 := by
            rw [u7, show (0 : Int32) = nI 0 from rfl]
            exact (nI_eq (by have : ckK (scan T (ps T i)).1 < 122 := ck; omega) (by omega)).trans c0
          have e1 : (υ.1 1 7 = 1) ↔ tkK T i = 3 := by
            rw [u7, show (1 : Int32) = nI 1 from rfl]
            exact (nI_eq (by have : ckK (scan T (ps T i)).1 < 122 := ck; omega) (by omega)).trans c1
          by_cases z : tkK T i = 0 ∨ tkK T i = 3
          · right
            refine ⟨fun y => ?_, z.elim (fun y => Or.inl (e0.mpr y)) (fun y => Or.inr (e1.mpr y))⟩
            have := y i (by omega)
            exact z.elim this.1 this.2
          · left
            refine ⟨fun j hj => ?_, u6, fun y => z (Or.inl (e0.mp y)), fun y => z (Or.inr (e1.mp y))⟩
            by_cases ej : j = i
            · rw [ej]
              exact ⟨fun y => z (Or.inl y), fun y => z (Or.inr y)⟩
            · exact hl.1 j (by omega)
  refine tX8_findAll (fun s1 e1 s2 e2 => key 402 0 s2 rfl ⟨fun b b1 _ _ _ => ?_, ?_, fun b _ _ => ?_, ?_⟩ (fun j hj => absurd hj (by omega)) (Or.inl ⟨fun j hj => absurd hj (by omega), ?_, ?_, ?_⟩))
  · rw [e2, sI_row, sA_off2 _ _ b1, e1, sI_row, sA_off2 _ _ b1]
  · rw [e2, sI_at, if_neg (by omega), e1, sI_at, if_neg (by omega)]
  · rw [e2, e1]
    rfl
  · rw [e2, e1]
    rfl
  · rw [e2, sI_at, if_neg (by omega), e1, sI_at, if_pos ⟨rfl, rfl⟩]
    rfl
  · rw [e2, sI_at, if_pos ⟨rfl, rfl⟩]
    decide
  · rw [e2, sI_at, if_pos ⟨rfl, rfl⟩]
    decide
end N2
