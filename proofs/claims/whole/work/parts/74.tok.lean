/-! tokens: what both programs find in a text -/
def isBl (c : Nat) : Bool := decide (c = 9 ∨ c = 10 ∨ c = 13 ∨ c = 32)
def isLt (c : Nat) : Bool := decide (97 ≤ c ∧ c ≤ 122)
def isDg (c : Nat) : Bool := decide (48 ≤ c ∧ c ≤ 57)
def bt (T : List Nat) (i : Nat) : Nat := T.getD i 0
def rn (T : List Nat) (f : Nat → Bool) : Nat → Nat → Nat
  | 0, _ => 0
  | n + 1, p => if p < T.length ∧ f (bt T p) = true then rn T f n (p + 1) + 1 else 0
def run (T : List Nat) (f : Nat → Bool) (p : Nat) : Nat := rn T f (T.length - p) p
theorem run_s {T : List Nat} {f : Nat → Bool} {p : Nat} (h : p < T.length) (hf : f (bt T p) = true) : run T f p = run T f (p + 1) + 1 := by
  unfold run
  rw [show T.length - p = (T.length - (p + 1)) + 1 by omega, rn, if_pos ⟨h, hf⟩]
theorem run_0 {T : List Nat} {f : Nat → Bool} {p : Nat} (h : ¬ (p < T.length ∧ f (bt T p) = true)) : run T f p = 0 := by
  unfold run
  cases hn : T.length - p with
  | zero => rfl
  | succ n => rw [rn, if_neg h]
theorem run_le {T : List Nat} {f : Nat → Bool} : ∀ n p, T.length - p = n → p ≤ T.length → p + run T f p ≤ T.length
  | 0, p, hn, hp => by
    rw [run_0 (by omega)]
    omega
  | n + 1, p, hn, hp => by
    by_cases h : p < T.length ∧ f (bt T p) = true
    · rw [run_s h.1 h.2]
      have := run_le (T := T) (f := f) n (p + 1) (by omega) (by omega)
      omega
    · rw [run_0 h]
      omega
def lts (T : List Nat) (q : Nat) : Nat → List Nat
  | 0 => []
  | n + 1 => lts T q n ++ [bt T (q + n) - 96]
theorem lts_len {T : List Nat} {q : Nat} : ∀ n, (lts T q n).length = n
  | 0 => rfl
  | n + 1 => by rw [lts, List.length_append, lts_len n]; rfl
def vl (T : List Nat) (q : Nat) : Nat → Nat
  | 0 => 0
  | n + 1 => 10 * vl T q n + (bt T (q + n) - 48)
def sgK (c : Nat) : Nat := if c = 59 then 4 else if c = 61 then 5 else if c = 40 then 6 else if c = 41 then 7 else if c = 43 then 8 else if c = 45 then 9 else if c = 42 then 10 else if c = 47 then 15 else if c = 60 then 13 else 3
def kwI : List (List Nat) := kwL.map (fun w => w.map (fun c => c - 96))
def wdF : List (List Nat) → Nat → List Nat → Nat
  | [], _, _ => 1
  | w :: ws, k, l => if w = l then k else wdF ws (k + 1) l
def wdK (l : List Nat) : Nat := wdF kwI 20 l
/-- a token: kind, place, number, letters, where the next is looked for -/
abbrev Tok : Type := Nat × Nat × Nat × List Nat × Nat
def scan1 (T : List Nat) (q : Nat) : Tok :=
  if T.length ≤ q then (0, q, 0, [], q) else
  if isLt (bt T q) = true then (if run T isLt q ≤ 8 then wdK (lts T q (run T isLt q)) else 3, q, 0, lts T q (min 8 (run T isLt q)), q + run T isLt q) else
  if isDg (bt T q) = true then (if run T isDg q ≤ 4 then 2 else 3, q, vl T q (min 4 (run T isDg q)), [], q + run T isDg q) else
  (sgK (bt T q), q, 0, [], q + 1)
def scan (T : List Nat) (p : Nat) : Tok := scan1 T (p + run T isBl p)
theorem scan_bl {T : List Nat} {p : Nat} (h : p < T.length) (hb : isBl (bt T p) = true) : scan T p = scan T (p + 1) := by
  unfold scan
  rw [run_s h hb, show p + (run T isBl (p + 1) + 1) = p + 1 + run T isBl (p + 1) by omega]
theorem scan_nb {T : List Nat} {p : Nat} (h : ¬ (p < T.length ∧ isBl (bt T p) = true)) : scan T p = scan1 T p := by
  unfold scan
  rw [run_0 h, Nat.add_zero]
def ps (T : List Nat) : Nat → Nat
  | 0 => 0
  | n + 1 => (scan T (ps T n)).2.2.2.2
def tk (T : List Nat) (n : Nat) : Tok := scan T (ps T n)
def tkK (T : List Nat) (n : Nat) : Nat := (tk T n).1
def tkP (T : List Nat) (n : Nat) : Nat := (tk T n).2.1
def tkV (T : List Nat) (n : Nat) : Nat := (tk T n).2.2.1
def tkN (T : List Nat) (n : Nat) : List Nat := (tk T n).2.2.2.1
theorem scan1_nx {T : List Nat} {q : Nat} (h : q ≤ T.length) : (scan1 T q).2.2.2.2 ≤ T.length ∧ q ≤ (scan1 T q).2.2.2.2 ∧ (scan1 T q).2.1 = q ∧ ((scan1 T q).1 ≠ 0 → q < (scan1 T q).2.2.2.2) := by
  unfold scan1
  by_cases h1 : T.length ≤ q
  · rw [if_pos h1]
    exact ⟨h, Nat.le_refl _, rfl, fun z => absurd rfl z⟩
  · rw [if_neg h1]
    by_cases h2 : isLt (bt T q) = true
    · rw [if_pos h2]
      have a := run_le (T := T) (f := isLt) _ q rfl h
      have b := run_s (f := isLt) (show q < T.length by omega) h2
      exact ⟨a, by show q ≤ q + _; omega, rfl, fun _ => by show q < q + _; omega⟩
    · rw [if_neg h2]
      by_cases h3 : isDg (bt T q) = true
      · rw [if_pos h3]
        have a := run_le (T := T) (f := isDg) _ q rfl h
        have b := run_s (f := isDg) (show q < T.length by omega) h3
        exact ⟨a, by show q ≤ q + _; omega, rfl, fun _ => by show q < q + _; omega⟩
      · rw [if_neg h3]
        exact ⟨by show q + 1 ≤ _; omega, by show q ≤ q + 1; omega, rfl, fun _ => by show q < q + 1; omega⟩
theorem ps_le {T : List Nat} : ∀ n, ps T n ≤ T.length
  | 0 => Nat.zero_le _
  | n + 1 => (scan1_nx (run_le (f := isBl) _ (ps T n) rfl (ps_le n))).1
theorem tkP_le {T : List Nat} (n : Nat) : ps T n ≤ tkP T n ∧ tkP T n ≤ T.length ∧ tkP T n ≤ ps T (n + 1) ∧ (tkK T n ≠ 0 → tkP T n < ps T (n + 1)) := by
  have a := run_le (T := T) (f := isBl) _ (ps T n) rfl (ps_le n)
  have b := scan1_nx (T := T) (q := ps T n + run T isBl (ps T n)) a
  have e1 : tkP T n = ps T n + run T isBl (ps T n) := b.2.2.1
  have e2 : ps T (n + 1) = (scan1 T (ps T n + run T isBl (ps T n))).2.2.2.2 := rfl
  rw [e1, e2]
  exact ⟨by omega, a, b.2.1, b.2.2.2⟩
theorem tkP_lt {T : List Nat} {i : Nat} : ∀ j, i < j → (∀ m, m < j → tkK T m ≠ 0) → tkP T i < tkP T j
  | 0, h, _ => absurd h (by omega)
  | j + 1, h, hl => by
    have a := (tkP_le (T := T) j).2.2.2 (hl j (by omega))
    have b := (tkP_le (T := T) (j + 1)).1
    by_cases e : i = j
    · subst e
      omega
    · have := tkP_lt (T := T) (i := i) j (by omega) (fun m hm => hl m (by omega))
      have c := (tkP_le (T := T) j).1
      omega
/-- letters are 1 to 26 -/
theorem run_all {T : List Nat} {f : Nat → Bool} : ∀ n p, T.length - p = n → ∀ i, i < run T f p → f (bt T (p + i)) = true ∧ p + i < T.length
  | 0, p, hn, i, hi => by
    rw [run_0 (by omega)] at hi
    omega
  | n + 1, p, hn, i, hi => by
    by_cases h : p < T.length ∧ f (bt T p) = true
    · rw [run_s h.1 h.2] at hi
      cases i with
      | zero => exact ⟨h.2, h.1⟩
      | succ i =>
        have := run_all (T := T) (f := f) n (p + 1) (by omega) i (by omega)
        rw [show p + 1 + i = p + (i + 1) by omega] at this
        exact this
    · rw [run_0 h] at hi
      omega
def lOk (l : List Nat) : Prop := ∀ c, c ∈ l → 1 ≤ c ∧ c ≤ 26
theorem lts_ok {T : List Nat} {q : Nat} : ∀ n, n ≤ run T isLt q → lOk (lts T q n)
  | 0, _ => fun c hc => absurd hc (by simp [lts])
  | n + 1, h => fun c hc => by
    rw [lts, List.mem_append, List.mem_singleton] at hc
    rcases hc with hc | hc
    · exact lts_ok n (by omega) c hc
    · have := (run_all (T := T) (f := isLt) _ q rfl n (by omega)).1
      unfold isLt at this
      simp only [decide_eq_true_eq] at this
      omega
theorem vl_lt {T : List Nat} {q : Nat} : ∀ n, n ≤ run T isDg q → vl T q n < 10 ^ n
  | 0, _ => Nat.zero_lt_one
  | n + 1, h => by
    have a := vl_lt (T := T) (q := q) n (by omega)
    have := (run_all (T := T) (f := isDg) _ q rfl n (by omega)).1
    unfold isDg at this
    simp only [decide_eq_true_eq] at this
    rw [vl, Nat.pow_succ]
    omega
theorem wdF_ge {l : List Nat} : ∀ ws k, wdF ws k l = 1 ∨ (k ≤ wdF ws k l ∧ wdF ws k l < k + ws.length)
  | [], k => Or.inl rfl
  | w :: ws, k => by
    rw [wdF]
    by_cases e : w = l
    · rw [if_pos e]
      exact Or.inr ⟨Nat.le_refl _, by rw [List.length_cons]; omega⟩
    · rw [if_neg e, List.length_cons]
      rcases wdF_ge (l := l) ws (k + 1) with h | h
      · exact Or.inl h
      · exact Or.inr ⟨by omega, by omega⟩
theorem wdK_r (l : List Nat) : wdK l = 1 ∨ (20 ≤ wdK l ∧ wdK l < 42) := wdF_ge kwI 20
theorem sgK_r (c : Nat) : 3 ≤ sgK c ∧ sgK c ≤ 15 := by
  unfold sgK
  split
  · omega
  · split
    · omega
    · split
      · omega
      · split
        · omega
        · split
          · omega
          · split
            · omega
            · split
              · omega
              · split
                · omega
                · split <;> omega
/-- what is known of a token by its kind -/
theorem scan1_kind (T : List Nat) (q : Nat) : ((scan1 T q).1 = 1 → lOk (scan1 T q).2.2.2.1 ∧ 1 ≤ (scan1 T q).2.2.2.1.length ∧ (scan1 T q).2.2.2.1.length ≤ 8) ∧ ((scan1 T q).1 = 2 → (scan1 T q).2.2.1 ≤ 9999) ∧ (scan1 T q).1 < 42 := by
  unfold scan1
  by_cases h1 : T.length ≤ q
  · rw [if_pos h1]
    exact ⟨fun z => absurd z (show ¬ (0 : Nat) = 1 by decide), fun z => absurd z (show ¬ (0 : Nat) = 2 by decide), show (0 : Nat) < 42 by decide⟩
  · rw [if_neg h1]
    by_cases h2 : isLt (bt T q) = true
    · rw [if_pos h2]
      have b := run_s (f := isLt) (show q < T.length by omega) h2
      refine ⟨fun z => ⟨lts_ok _ (by omega), ?_, ?_⟩, fun z => ?_, ?_⟩
      · rw [lts_len]
        omega
      · rw [lts_len]
        omega
      · exact Nat.zero_le _
      · show (if _ then _ else _) < 42
        split
        · rcases wdK_r (lts T q (run T isLt q)) with h | h <;> omega
        · omega
    · rw [if_neg h2]
      by_cases h3 : isDg (bt T q) = true
      · rw [if_pos h3]
        refine ⟨fun z => ?_, fun z => ?_, ?_⟩
        · have : (if run T isDg q ≤ 4 then 2 else 3) = 1 := z
          split at this <;> omega
        · have a := vl_lt (T := T) (q := q) (min 4 (run T isDg q)) (by omega)
          have b : 10 ^ min 4 (run T isDg q) ≤ 10 ^ 4 := Nat.pow_le_pow_right (by decide) (by omega)
          show vl T q _ ≤ 9999
          omega
        · show (if _ then _ else _) < 42
          split <;> omega
      · rw [if_neg h3]
        have := sgK_r (bt T q)
        exact ⟨fun z => by have : sgK (bt T q) = 1 := z; omega, fun z => by have : sgK (bt T q) = 2 := z; omega, by show sgK (bt T q) < 42; omega⟩
theorem tk_kind (T : List Nat) (n : Nat) : (tkK T n = 1 → lOk (tkN T n) ∧ 1 ≤ (tkN T n).length ∧ (tkN T n).length ≤ 8) ∧ (tkK T n = 2 → tkV T n ≤ 9999) ∧ tkK T n < 42 := scan1_kind T _
/-- names as numbers: the class's, the model's -/
def nmC : List Nat → Nat
  | [] => 0
  | c :: l => c + 32 * nmC l
theorem nmC_lt : ∀ l, lOk l → nmC l < 32 ^ l.length
  | [], _ => by decide
  | c :: l, h => by
    have a := nmC_lt l (fun d hd => h d (List.mem_cons_of_mem _ hd))
    have b := h c List.mem_cons_self
    rw [nmC, List.length_cons, Nat.pow_succ]
    omega
theorem nmC_app (a : List Nat) (c : Nat) : nmC (a ++ [c]) = nmC a + c * 32 ^ a.length := by
  induction a with
  | nil => simp [nmC]
  | cons d a ih =>
    rw [List.cons_append, nmC, ih, nmC, List.length_cons, Nat.pow_succ, Nat.mul_add]
    have : 32 * (c * 32 ^ a.length) = c * (32 ^ a.length * 32) := by
      rw [Nat.mul_comm 32, Nat.mul_assoc]
    omega
theorem nmC_dig : ∀ l i, lOk l → nmC l / 32 ^ i % 32 = l.getD i 0
  | [], i, _ => by
    rw [nmC, Nat.zero_div]
    rfl
  | c :: l, 0, h => by
    have b := h c List.mem_cons_self
    rw [nmC, Nat.pow_zero, Nat.div_one]
    show _ = c
    omega
  | c :: l, i + 1, h => by
    have b := h c List.mem_cons_self
    rw [nmC, Nat.pow_succ, Nat.mul_comm (32 ^ i), ← Nat.div_div_eq_div_mul, show (c + 32 * nmC l) / 32 = nmC l by omega, nmC_dig l i (fun d hd => h d (List.mem_cons_of_mem _ hd))]
    rfl
theorem nmC_inj : ∀ a b, lOk a → lOk b → nmC a = nmC b → a = b
  | [], [], _, _, _ => rfl
  | [], c :: b, _, hb, e => by
    have := hb c List.mem_cons_self
    rw [nmC, nmC] at e
    omega
  | c :: a, [], ha, _, e => by
    have := ha c List.mem_cons_self
    rw [nmC, nmC] at e
    omega
  | c :: a, d :: b, ha, hb, e => by
    have h1 := ha c List.mem_cons_self
    have h2 := hb d List.mem_cons_self
    rw [nmC, nmC] at e
    have e1 : c = d := by omega
    have e2 := nmC_inj a b (fun x hx => ha x (List.mem_cons_of_mem _ hx)) (fun x hx => hb x (List.mem_cons_of_mem _ hx)) (by omega)
    rw [e1, e2]
/-- the kinds as the class numbers them -/
def ckK (k : Nat) : Nat := if k = 0 then 0 else if k = 1 then 2 else if k = 2 then 3 else if k = 3 then 1 else if k = 4 then 59 else if k = 5 then 61 else if k = 6 then 40 else if k = 7 then 41 else if k = 8 then 43 else if k = 9 then 45 else if k = 10 then 42 else if k = 13 then 60 else if k = 15 then 47 else k + 80
theorem ckK_42 : ∀ k, k < 42 → ckK k < 122 := by decide
