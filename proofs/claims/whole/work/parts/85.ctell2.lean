/-! the class: signs, windows, talks are told -/
theorem sN_mem {x : List Nat} : ∀ N, x ∈ sN N → ∃ q, q ∈ N ∧ q.1 = x
  | [], h => absurd h (by simp [sN])
  | q :: N, h => by
    rw [sN] at h
    by_cases e : q.2 = 0
    · rw [if_pos e] at h
      rcases List.mem_cons.mp h with z | z
      · exact ⟨q, List.mem_cons_self, z.symm⟩
      · obtain ⟨r, r1, r2⟩ := sN_mem N z
        exact ⟨r, List.mem_cons_of_mem _ r1, r2⟩
    · rw [if_neg e] at h
      obtain ⟨r, r1, r2⟩ := sN_mem N h
      exact ⟨r, List.mem_cons_of_mem _ r1, r2⟩
theorem wN_mem {x : List Nat} : ∀ N, x ∈ wN N → ∃ q, q ∈ N ∧ q.1 = x
  | [], h => absurd h (by simp [wN])
  | q :: N, h => by
    rw [wN] at h
    by_cases e : q.2 = 0
    · rw [if_pos e] at h
      obtain ⟨r, r1, r2⟩ := wN_mem N h
      exact ⟨r, List.mem_cons_of_mem _ r1, r2⟩
    · rw [if_neg e] at h
      rcases List.mem_cons.mp h with z | z
      · exact ⟨q, List.mem_cons_self, z.symm⟩
      · obtain ⟨r, r1, r2⟩ := wN_mem N z
        exact ⟨r, List.mem_cons_of_mem _ r1, r2⟩
def oI (o : Option Nat) : Int32 := match o with
  | some i => nI i
  | none => -1
theorem nI_nm1 {i : Nat} (h : i < 2 ^ 31) : ¬ nI i = -1 := fun z => by
  have := nI_pos h
  rw [z] at this
  exact this (by decide)
theorem oI_m1 {o : Option Nat} (h : ∀ i, o = some i → i < 4) : oI o = -1 ↔ o = none := by
  cases o with
  | none => exact ⟨fun _ => rfl, fun _ => rfl⟩
  | some i =>
    have := h i rfl
    exact ⟨fun z => absurd z (nI_nm1 (by omega)), fun z => absurd z (by simp)⟩
theorem nm_snoc {xs ys : List (List Nat)} {w : List Nat} {f f' : Nat → Int64} (e : ys = xs ++ [w]) (h : ∀ t (q : t < xs.length), f t = lN (nmC xs[t])) (h1 : ∀ t, t < xs.length → f' t = f t) (h2 : f' xs.length = lN (nmC w)) : ∀ t (q : t < ys.length), f' t = lN (nmC ys[t]) := by
  subst e
  intro t q
  have q' := q
  rw [List.length_append, List.length_singleton] at q'
  by_cases c : t < xs.length
  · rw [List.getElem_append_left c, h1 t c]
    exact h t c
  · have e : t = xs.length := by omega
    subst e
    rw [List.getElem_append_right (by omega)]
    simp only [Nat.sub_self, List.getElem_cons_zero]
    exact h2
theorem nm_same {xs ys : List (List Nat)} {f f' : Nat → Int64} (e : ys = xs) (h : ∀ t (q : t < xs.length), f t = lN (nmC xs[t])) (h1 : f' = f) : ∀ t (q : t < ys.length), f' t = lN (nmC ys[t]) := by
  subst e
  subst h1
  exact h
theorem XPb.up {σ τ : SS} {p : Nat} {P P' : PV} {N N' : Nms} (h : XPb σ p P N) (e2 : P'.2 = P.2) (hl : ∀ b, p + 9 ≤ b → b ≤ p + 17 → τ.1 b = σ.1 b) (h1 : τ.1 (p + 1) = σ.1 (p + 1)) (c2 : ∀ j, j < 9 → τ.1 p (11 + j) = nI (P'.1 j 0)) (c4 : ∀ s, s < pns P' → τ.1 (p + 3) s = nI (psg P' s)) (c5 : ∀ w, w < pnw P' → τ.1 (p + 5) w = nI (pfr P' w) ∧ τ.1 (p + 6) w = nI (pto P' w) ∧ τ.1 (p + 7) w = nI (psh P' w)) (c6 : ∀ w, w < 4 → τ.1 (p + 8) w = nI (ptk P' w)) (c7 : ∀ s (h : s < (sN N').length), τ.2.1 (p + 2) s = lN (nmC (sN N')[s])) (c8 : ∀ s (h : s < (wN N').length), τ.2.1 (p + 4) s = lN (nmC (wN N')[s])) : XPb τ p P' N' := by
  obtain ⟨a1, a2, a3, a4, a5, a6, a7, a8, a9, a10, a11⟩ := h
  have e3 : P'.2.1 = P.2.1 := by rw [e2]
  have e4 : P'.2.2 = P.2.2 := by rw [e2]
  refine ⟨a1, c2, fun i hi => ?_, c4, c5, c6, c7, c8, ?_, ?_, ?_⟩
  · rw [h1, a3 i hi]
    unfold bSu psun
    rw [e3]
  · unfold XW plw at a9 ⊢
    rw [hl _ (by omega) (by omega), hl _ (by omega) (by omega), e4]
    exact a9
  · unfold XW plw at a10 ⊢
    rw [hl _ (by omega) (by omega), hl _ (by omega) (by omega), e4]
    exact a10
  · unfold XW plw at a11 ⊢
    rw [hl _ (by omega) (by omega), hl _ (by omega) (by omega), e4]
    exact a11
section P6
variable {Γ : GE} {l : Launch} {σ τ : SS} {K : Option Value → SS → Prop} {T : List Nat} {p a : Nat} {late : LF} {P : PV} {N : Nms} {ρ : Type} {R : Rs ρ} {k : Kt3 ρ}
theorem c_windowNamed {w : List Nat} (ok : lOk w) (l8 : w.length ≤ 8) (h : XPb σ p P N) (hi : PI late P N) (hK : K (some (.int (oI (winN N w)))) σ) : C2 Γ l mX6_windowNamed [.ref p, .long (lN (nmC w))] σ K := by
  obtain ⟨i1, i2, i3, i4, i5, i6, i7, i8, i9, i10, i11⟩ := hi
  obtain ⟨a1, a2, a3, a4, a5, a6, a7, a8, a9, a10, a11⟩ := h
  rw [winN_e w N 0 i8] at hK
  have g14 : σ.1 p 14 = nI (pnw P) := a2 3 (by omega)
  have loop : ∀ m i, m + i = pnw P → fdx ((wN N).drop i) i w = fdx (wN N) 0 w → wX6_windowNamed_2 Γ l p (lN (nmC w)) (nI i) σ K := by
    intro m
    induction m with
    | zero =>
      intro i h1 h2
      refine tX6_windowNamed_2 a1 ⟨fun _ => ?_, fun q => absurd ?_ q⟩
      · rw [List.drop_of_length_le (by omega), fdx] at h2
        rw [← h2] at hK
        exact hK
      · rw [g14, nI_leI (by omega) (by omega)]
        omega
    | succ m ih =>
      intro i h1 h2
      have hl : i < (wN N).length := by omega
      obtain ⟨r, r1, r2⟩ := wN_mem N (List.getElem_mem hl)
      obtain ⟨o1, o2⟩ := i9 r r1
      rw [r2] at o1 o2
      rw [List.drop_eq_getElem_cons hl, fdx] at h2
      refine tX6_windowNamed_2 a1 ⟨fun q => absurd q ?_, fun _ => ⟨vp_in_nI (by omega) (by omega), ?_⟩⟩
      · rw [g14, nI_leI (by omega) (by omega)]
        omega
      · rw [nI_clamp (by omega), a8 i hl, lgc_0, nmC_e o1 ok o2 l8, nI_1]
        refine ⟨fun q => ih (i + 1) (by omega) ?_, fun q => ?_⟩
        · rw [if_neg q] at h2
          exact h2
        · rw [if_pos q] at h2
          rw [← h2] at hK
          exact hK
  exact tX6_windowNamed a1 (loop (pnw P) 0 (by omega) rfl)
theorem c_isNamed {w : List Nat} (ok : lOk w) (l8 : w.length ≤ 8) (h : XPb σ p P N) (hi : PI late P N) (hK : K (some (.int (bI (isNm N w)))) σ) : C2 Γ l mX6_isNamed [.ref p, .long (lN (nmC w))] σ K := by
  have hw := fun i (z : winN N w = some i) => (winN_lt hi z).2
  have hwin := fun (K : Option Value → SS → Prop) => c_windowNamed (Γ := Γ) (l := l) (K := K) ok l8 h hi
  obtain ⟨i1, i2, i3, i4, i5, i6, i7, i8, i9, i10, i11⟩ := hi
  obtain ⟨a1, a2, a3, a4, a5, a6, a7, a8, a9, a10, a11⟩ := h
  rw [isNm_e] at hK
  have g13 : σ.1 p 13 = nI (pns P) := a2 2 (by omega)
  have loop : ∀ m i, m + i = pns P → ((sN N).drop i).any (fun x => decide (x = w)) = (sN N).any (fun x => decide (x = w)) → wX6_isNamed_2 Γ l p (lN (nmC w)) (nI i) σ K := by
    intro m
    induction m with
    | zero =>
      intro i h1 h2
      rw [List.drop_of_length_le (by omega), List.any_nil] at h2
      rw [← h2, Bool.false_or, ← fdx_none (wN N) 0, ← winN_e w N 0 i8] at hK
      refine tX6_isNamed_2 a1 ⟨fun _ => hwin _ (ri ?_), fun q => absurd ?_ q⟩
      · rw [oI_m1 hw]
        cases hc : winN N w with
        | none =>
          rw [hc] at hK
          exact ⟨fun _ => hK, fun z => absurd rfl z⟩
        | some j =>
          rw [hc] at hK
          exact ⟨fun z => absurd z (by simp), fun _ => hK⟩
      · rw [g13, nI_leI (by omega) (by omega)]
        omega
    | succ m ih =>
      intro i h1 h2
      have hl : i < (sN N).length := by omega
      obtain ⟨r, r1, r2⟩ := sN_mem N (List.getElem_mem hl)
      obtain ⟨o1, o2⟩ := i9 r r1
      rw [r2] at o1 o2
      rw [List.drop_eq_getElem_cons hl, List.any_cons] at h2
      refine tX6_isNamed_2 a1 ⟨fun q => absurd q ?_, fun _ => ⟨vp_in_nI (by omega) (by omega), ?_⟩⟩
      · rw [g13, nI_leI (by omega) (by omega)]
        omega
      · rw [nI_clamp (by omega), a7 i hl, lgc_0, nmC_e o1 ok o2 l8, nI_1]
        refine ⟨fun q => ih (i + 1) (by omega) ?_, fun q => ?_⟩
        · rw [decide_eq_false q, Bool.false_or] at h2
          exact h2
        · rw [decide_eq_true q, Bool.true_or] at h2
          rw [← h2, Bool.true_or] at hK
          exact hK
  exact tX6_isNamed a1 (loop (pns P) 0 (by omega) rfl)
theorem shp_l : ∀ c, c < 27 → (nI c + 97 - 1 = 120 ↔ c = 24) ∧ (nI c + 97 - 1 = 111 ↔ c = 15) := by decide
theorem shp_o : ∀ i, i < 3 → ∀ b, b < 2 ^ i → nI b ||| (1 <<< (nI i &&& 31)) = nI (b + 2 ^ i) := by decide +kernel
def shU (w : List Nat) : Nat → Nat
  | 0 => 0
  | i + 1 => shU w i + (if w.getD i 0 = 24 then 2 ^ i else 0)
def shG (w : List Nat) : Nat → Bool
  | 0 => decide (w.length = 3)
  | i + 1 => shG w i && decide (w.getD i 0 = 24 ∨ w.getD i 0 = 15)
theorem shU_lt (w : List Nat) : ∀ i, shU w i < 2 ^ i
  | 0 => by show (0 : Nat) < 1; decide
  | i + 1 => by
    have := shU_lt w i
    rw [shU, Nat.pow_succ]
    split <;> omega
theorem shU_3 (w : List Nat) : shU w 3 = shp3 w := by
  unfold shp3
  rw [shU, shU, shU, shU, Nat.zero_add]
theorem shG_3 (w : List Nat) : shG w 3 = fits3 w := by
  unfold fits3
  rw [shG, shG, shG, shG, Bool.and_assoc, Bool.and_assoc]
theorem getD_27 {w : List Nat} (ok : lOk w) (i : Nat) : w.getD i 0 < 27 := by
  by_cases h : i < w.length
  · have := getD_pos ok h
    omega
  · rw [getD_out (by omega)]
    omega
theorem c_shapeOfRow {w : List Nat} {q : Nat} (ok : lOk w) (l8 : w.length ≤ 8) (h10 : σ.2.1 7 10 = lN (nmC w)) (h7 : R7 σ a late) (h8 : σ.1 7 8 = nI q) (hq : q ≤ 2000) (hK : ∀ τ, F7 σ τ → R7 τ a (blm late (!fits3 w) 6 q) → K (some (.int (nI (shp3 w)))) τ) : C2 Γ l mX7_shapeOfRow [.ref 7] σ K := by
  rw [← shG_3, ← shU_3] at hK
  have step : ∀ i, i < 3 → wX7_shapeOfRow_21 Γ l (nI (shU w (i + 1))) (bI (shG w (i + 1))) (nI (i + 1)) σ K → wX7_shapeOfRow_21 Γ l (nI (shU w i)) (bI (shG w i)) (nI i) σ K := fun i hi hn => by
    refine tX7_shapeOfRow_21 ⟨fun z => absurd z ?_, fun _ => ?_⟩
    · rw [show (3 : Int32) = nI 3 from rfl, nI_leI (by omega) (by omega)]
      omega
    · rw [h10]
      refine c_letter ok l8 (by omega) (ri ?_)
      obtain ⟨e1, e2⟩ := shp_l (w.getD i 0) (getD_27 ok i)
      rw [e1, e2, shp_o i hi _ (shU_lt w i), nI_1, bI_0]
      rw [shU, shG] at hn
      by_cases c1 : w.getD i 0 = 24
      · rw [if_pos c1, decide_eq_true (Or.inl c1), Bool.and_true] at hn
        refine ⟨fun z => ⟨fun y => absurd c1 y, fun _ => ?_⟩, fun z => ⟨fun _ => ⟨fun y => absurd c1 y, fun _ => ?_⟩, fun y => absurd c1 y⟩⟩
        · rw [z] at hn
          exact hn
        · simp only [Bool.not_eq_false] at z
          rw [z] at hn
          exact hn
      · rw [if_neg c1, Nat.add_zero] at hn
        refine ⟨fun z => ⟨fun _ => ?_, fun y => absurd y c1⟩, fun z => ⟨fun y => absurd y c1, fun _ => ⟨fun y => ⟨fun _ => ?_, fun t => absurd t c1⟩, fun y => ⟨fun _ => ?_, fun t => absurd t c1⟩⟩⟩⟩
        · rw [z, Bool.false_and] at hn
          exact hn
        · rw [decide_eq_false (by omega), Bool.and_false] at hn
          exact hn
        · simp only [Bool.not_eq_false] at z
          rw [z, decide_eq_true (Or.inr y), Bool.and_true] at hn
          exact hn
  have last : wX7_shapeOfRow_21 Γ l (nI (shU w 3)) (bI (shG w 3)) (nI 3) σ K := by
    refine tX7_shapeOfRow_21 ⟨fun _ => ?_, fun z => absurd (by decide) z⟩
    rw [bI_0]
    refine ⟨fun z => hK σ F7.rf ?_, fun z => c_blame (n := 6) h7 h8 (by decide) hq (fun τ d r7 _ _ _ => rv (hK τ d ?_))⟩
    · simp only [Bool.not_eq_false] at z
      rw [z, Bool.not_true, blm_f]
      exact h7
    · rw [z]
      exact r7
  have all := step 0 (by omega) (step 1 (by omega) (step 2 (by omega) last))
  refine tX7_shapeOfRow ?_
  rw [h10]
  refine c_letters ok l8 (ri ?_)
  rw [show (3 : Int32) = nI 3 from rfl, nI_eq (by omega) (by omega)]
  refine ⟨fun z => ?_, fun z => ?_⟩
  · have e : shG w 0 = false := decide_eq_false z
    rw [e] at all
    exact all
  · have e : shG w 0 = true := decide_eq_true z
    rw [e] at all
    exact all
/-- the sign that is being told -/
def sgP (P : PV) (v : Nat) : PV := setP (setP P 13 (pns P) v) 2 0 (pns P + 1)
theorem sgP_2 (P : PV) (v : Nat) : pns (sgP P v) = pns P + 1 := rfl
theorem sgP_sg (P : PV) (v s : Nat) : psg (sgP P v) s = if s = pns P then v else psg P s := by
  show (if (13 : Nat) = 2 ∧ s = 0 then pns P + 1 else if (13 : Nat) = 13 ∧ s = pns P then v else psg P s) = _
  rw [if_neg (fun y => absurd y.1 (by decide))]
  simp only [true_and]
theorem sgP_o (P : PV) (v a b : Nat) (h2 : a ≠ 2) (h13 : a ≠ 13) : (sgP P v).1 a b = P.1 a b := by
  show (if a = 2 ∧ b = 0 then pns P + 1 else if a = 13 ∧ b = pns P then v else P.1 a b) = _
  rw [if_neg (fun z => h2 z.1), if_neg (fun z => h13 z.1)]
theorem XPb.sg {v b : Nat} (h : XPb σ p (sgP P b) N) : XPb (sI σ (p + 3) (pns P) (nI v)) p (sgP P v) N := by
  obtain ⟨a1, a2, a3, a4, a5, a6, a7, a8, a9, a10, a11⟩ := id h
  have ro : ∀ b, b ≠ p + 3 → (sI σ (p + 3) (pns P) (nI v)).1 b = σ.1 b := fun b hb => by rw [sI_row, sA_off2 _ _ hb]
  refine h.up rfl (fun b b1 _ => ro b (by omega)) (ro _ (by omega)) (fun j hj => ?_) (fun s hs => ?_) (fun w hw => ?_) (fun w hw => ?_) a7 a8
  · rw [ro _ (by omega), a2 j hj]
    congr 1
    by_cases e : j = 2
    · subst e
      rfl
    · rw [sgP_o _ _ _ _ e (by omega), sgP_o _ _ _ _ e (by omega)]
  · rw [sI_at, sgP_sg]
    by_cases e : s = pns P
    · rw [if_pos ⟨rfl, e⟩, if_pos e]
    · rw [if_neg (fun z => e z.2), if_neg e]
      have := a4 s hs
      rw [sgP_sg, if_neg e] at this
      exact this
  · rw [ro _ (by omega), ro _ (by omega), ro _ (by omega)]
    exact a5 w hw
  · rw [ro _ (by omega)]
    exact a6 w hw
theorem XPb.sg0 {w : List Nat} (h : XPb σ p P N) (hl : (sN N).length = pns P) : XPb (sI (sI (sJ σ (p + 2) (pns P) (lN (nmC w))) (p + 3) (pns P) (nI 0)) p 13 (nI (pns P + 1))) p (sgP P 0) (N ++ [(w, 0)]) := by
  obtain ⟨a1, a2, a3, a4, a5, a6, a7, a8, a9, a10, a11⟩ := id h
  have ro : ∀ b, b ≠ p → b ≠ p + 3 → (sI (sI (sJ σ (p + 2) (pns P) (lN (nmC w))) (p + 3) (pns P) (nI 0)) p 13 (nI (pns P + 1))).1 b = σ.1 b := fun b h1 h2 => by
    rw [sI_row, sA_off2 _ _ h1, sI_row, sA_off2 _ _ h2]
    rfl
  refine h.up rfl (fun b b1 _ => ro b (by omega) (by omega)) (ro _ (by omega) (by omega)) (fun j hj => ?_) (fun s hs => ?_) (fun w hw => ?_) (fun w hw => ?_) (nm_snoc (f := σ.2.1 (p + 2)) (by rw [sN_app, if_pos rfl]) a7 (fun t ht => ?_) ?_) (nm_same (f := σ.2.1 (p + 4)) (by rw [wN_app, if_pos rfl, List.append_nil]) a8 ?_)
  · rw [sI_at]
    by_cases e : j = 2
    · subst e
      rw [if_pos ⟨rfl, rfl⟩]
      rfl
    · rw [if_neg (fun z => e (by omega)), sI_row, sA_off2 _ _ (by omega), sgP_o _ _ _ _ e (by omega)]
      exact a2 j hj
  · rw [sI_at, if_neg (by omega), sI_at, sgP_sg]
    by_cases e : s = pns P
    · rw [if_pos ⟨rfl, e⟩, if_pos e]
    · rw [if_neg (fun z => e z.2), if_neg e]
      exact a4 s (by rw [sgP_2] at hs; omega)
  · rw [ro _ (by omega) (by omega), ro _ (by omega) (by omega), ro _ (by omega) (by omega)]
    exact a5 w hw
  · rw [ro _ (by omega) (by omega)]
    exact a6 w hw
  · show (sJ σ (p + 2) (pns P) (lN (nmC _))).2.1 (p + 2) t = _
    rw [sJ_at, if_neg (by omega)]
  · show (sJ σ (p + 2) (pns P) (lN (nmC _))).2.1 (p + 2) _ = _
    rw [sJ_at, if_pos ⟨rfl, hl⟩]
  · funext j
    show (sJ σ (p + 2) (pns P) (lN (nmC _))).2.1 (p + 4) j = _
    rw [sJ_at, if_neg (by omega)]
theorem shl0 : ∀ b, b < 1 → ∀ s, s < 8 → nI b ||| (nI s <<< ((3 * nI 0) &&& 31)) = nI (b + 1 * s) := by decide +kernel
theorem shl1 : ∀ b, b < 8 → ∀ s, s < 8 → nI b ||| (nI s <<< ((3 * nI 1) &&& 31)) = nI (b + 8 * s) := by decide +kernel
theorem shl2 : ∀ b, b < 64 → ∀ s, s < 8 → nI b ||| (nI s <<< ((3 * nI 2) &&& 31)) = nI (b + 64 * s) := by decide +kernel
theorem c_sign_s {row b m : Nat} {k1 : Nat → Rs ρ} (hm : (row = 0 ∧ m = 1) ∨ (row = 1 ∧ m = 8) ∨ (row = 2 ∧ m = 64)) (hb : b < m) (hs : pns P < 4) (h : RD σ p T a late (sgP P b) N) (hR : pTake T 1 a k1 = R)
    (herr : ∀ τ e, FR p σ τ → FX τ e → R = .error e → K none τ)
    (hok : ∀ τ, FR p σ τ → RD τ p T (a + 1) (blm late (!fits3 (tkN T a)) 6 (tkP T a)) (sgP P (b + m * shp3 (tkN T a))) N → k1 (a + 1) = R → wX7_takeSign_83 Γ l (nI (pns P)) (nI (row + 1)) τ K) : wX7_takeSign_83 Γ l (nI (pns P)) (nI row) σ K := by
  have hp := isP_n h.2.2.2.1
  refine tX7_takeSign_83 ⟨fun z => absurd z ?_, fun _ => ?_⟩
  · rw [show (3 : Int32) = nI 3 from rfl, nI_leI (by omega) (by omega)]
    omega
  refine c_take (c := 1) (by decide) (by decide) (by decide) h.1 h.2.1 hR (fun υ e d2 f y => ri ⟨fun t => absurd rfl t, fun _ => herr υ e d2.fr f y⟩) (fun υ d2 rk2 r72 f8 _ f10 hk1 y => ri ⟨fun _ => ?_, fun t => absurd t (by decide)⟩)
  have h2 := h.f7 d2 rk2 r72
  obtain ⟨ok, l1, l8⟩ := (tk_kind T a).1 hk1
  have vi : vp_in (nI (pns P)) 4 := vp_in_nI (by omega) (by omega)
  have sb := shp3_lt (tkN T a)
  refine ⟨p, h2.2.2.1, h2.2.2.2.1, vi, c_shapeOfRow ok l8 (f10 rfl) r72 f8 (tkP_2000 h.1.1 a) (fun ξ d3 r73 => ri ⟨vi, fun s8 e8 => ?_⟩)⟩
  have h3 := h2.f7 d3 (rk2.f7 d3) r73
  have g3 : υ.1 (p + 3) (pns P) = nI b := by
    have := h2.2.2.2.2.2.2.1 (pns P) (by rw [sgP_2]; omega)
    rw [sgP_sg, if_pos rfl] at this
    exact this
  rw [nI_clamp (by omega), g3] at e8
  have eo : nI b ||| (nI (shp3 (tkN T a)) <<< ((3 * nI row) &&& 31)) = nI (b + m * shp3 (tkN T a)) := by
    rcases hm with ⟨m1, m2⟩ | ⟨m1, m2⟩ | ⟨m1, m2⟩
    · subst m1
      subst m2
      exact shl0 b hb _ sb
    · subst m1
      subst m2
      exact shl1 b hb _ sb
    · subst m1
      subst m2
      exact shl2 b hb _ sb
  rw [eo] at e8
  have d8 : FP p ξ s8 := by
    rw [e8]
    exact FP.rf.wI ⟨by omega, by omega⟩
  rw [nI_1]
  exact hok s8 (d2.fr.tr (d3.fr.tr d8.fr)) (h3.fp d8 (by rw [e8]; exact h3.2.2.2.sg)) y
theorem c_takeSign (h : RD σ p T a late P N) (hi : PI late P N) (hn0 : tkK T a ≠ 0) (hn3 : tkK T a ≠ 3) (hR : pSign T a late P N k = R)
    (herr : ∀ τ e, FR p σ τ → FX τ e → R = .error e → K none τ)
    (hok : ∀ τ a' late' P' N', FR p σ τ → RD τ p T a' late' P' N' → PI late' P' N' → a < a' → k a' late' P' N' = R → K none τ) : C2 Γ l mX7_takeSign [.ref 7] σ K := by
  have hp := isP_n h.2.2.2.1
  have g13 : σ.1 p 13 = nI (pns P) := h.2.2.2.2.1 2 (by omega)
  have r4 := hi.2.2.1
  refine tX7_takeSign ⟨p, h.2.2.1, h.2.2.2.1, ?_⟩
  rw [g13]
  refine c_open (y := 4) (by omega) (by omega) h.1 h.2.1 hn0 hn3 hR (fun τ e d f z => ri ⟨fun _ => herr τ e d.fr f z, fun y => absurd rfl y⟩) (fun τ d rk r7 hlt z => ri ⟨fun y => absurd y (by decide), fun _ => ?_⟩)
  have h1 := h.f7 d rk r7
  refine c_take (c := 1) (by decide) (by decide) (by decide) rk r7 z (fun υ e d2 f y => ri ⟨fun t => absurd rfl t, fun _ => herr υ e (d.fr.tr d2.fr) f y⟩) (fun υ d2 rk2 r72 f8 _ f10 hk1 y => ri ⟨fun _ => ?_, fun t => absurd t (by decide)⟩)
  have h2 := h1.f7 d2 rk2 r72
  obtain ⟨ok, l1, l8⟩ := (tk_kind T (a + 1)).1 hk1
  have e10 := f10 rfl
  have fr2 := d.fr (p := p).tr d2.fr
  have vi : vp_in (nI (pns P)) 4 := vp_in_nI (by omega) (by omega)
  have fin : ∀ (τ : SS) (late' : LF), FR p σ τ → RD τ p T (a + 1 + 1) late' P N → τ.2.1 7 10 = lN (nmC (tkN T (a + 1))) → blm late (isNm N (tkN T (a + 1))) 3 (tkP T (a + 1)) = late' →
      (∃ b9_ : Nat, τ.2.2 7 2 = b9_ ∧ isP b9_ ∧ (vp_in (nI (pns P)) 4 ∧ (∀ s10_ : SS, s10_ = sJ τ (b9_ + 2) (Int32.toNatClampNeg (nI (pns P))) (τ.2.1 7 10) → (∃ b11_ : Nat, s10_.2.2 7 2 = b11_ ∧ isP b11_ ∧ (vp_in (nI (pns P)) 4 ∧ (∀ s12_ : SS, s12_ = sI s10_ (b11_ + 3) (Int32.toNatClampNeg (nI (pns P))) 0 → (∃ b13_ : Nat, s12_.2.2 7 2 = b13_ ∧ isP b13_ ∧ (∀ s14_ : SS, s14_ = sI s12_ b13_ 13 ((s12_.1 b13_ 13) + 1) → (wX7_takeSign_83 Γ l (nI (pns P)) 0 s14_ K))))))))) := fun τ late' fr hd g10 hl => by
    rw [hl] at y
    refine ⟨p, hd.2.2.1, hd.2.2.2.1, vi, fun s10 e10 => ⟨p, by rw [e10]; exact hd.2.2.1, hd.2.2.2.1, vi, fun s12 e12 => ⟨p, by rw [e12, e10]; exact hd.2.2.1, hd.2.2.2.1, fun s14 e14 => ?_⟩⟩⟩
    rw [nI_clamp (by omega), g10] at e10
    rw [nI_clamp (by omega)] at e12
    have q13 : s12.1 p 13 = nI (pns P) := by
      rw [e12, sI_at, if_neg (by omega), e10]
      exact hd.2.2.2.2.1 2 (by omega)
    rw [q13, nI_1] at e14
    have d14 : FP p τ s14 := by
      rw [e14, e12, e10]
      exact ((FP.rf.wJ ⟨by omega, by omega⟩).wI ⟨by omega, by omega⟩).wI ⟨by omega, by omega⟩
    have hx : XPb s14 p (sgP P 0) (N ++ [(tkN T (a + 1), 0)]) := by
      rw [e14, e12, e10]
      exact hd.2.2.2.sg0 hi.2.2.2.2.2.1
    have hd14 := hd.fp d14 hx
    have fr14 := fr.tr d14.fr
    refine c_sign_s (row := 0) (m := 1) (by omega) (by omega) (by omega) hd14 y (fun ξ e dx f t => herr ξ e (fr14.tr dx) f t) (fun ξ dx hx1 y1 => ?_)
    have t1 := shp3_lt (tkN T (a + 1 + 1))
    refine c_sign_s (row := 1) (m := 8) (by omega) (by omega) (by omega) hx1 y1 (fun ζ e dy f t => herr ζ e (fr14.tr (dx.tr dy)) f t) (fun ζ dy hx2 y2 => ?_)
    have t2 := shp3_lt (tkN T (a + 1 + 1 + 1))
    refine c_sign_s (row := 2) (m := 64) (by omega) (by omega) (by omega) hx2 y2 (fun ω e dz f t => herr ω e (fr14.tr (dx.tr (dy.tr dz))) f t) (fun ω dz hx3 y3 => ?_)
    have t3 := shp3_lt (tkN T (a + 1 + 1 + 1 + 1))
    refine tX7_takeSign_83 ⟨fun _ => ?_, fun z => absurd (by decide) z⟩
    rw [show 0 + 1 * shp3 (tkN T (a + 1 + 1)) + 8 * shp3 (tkN T (a + 1 + 1 + 1)) + 64 * shp3 (tkN T (a + 1 + 1 + 1 + 1)) = shp3 (tkN T (a + 1 + 1)) + 8 * shp3 (tkN T (a + 1 + 1 + 1)) + 64 * shp3 (tkN T (a + 1 + 1 + 1 + 1)) by omega] at hx3
    have fr4 := fr14.tr (dx.tr (dy.tr dz))
    refine c_end hx3 y3 (fun η e du f t => herr η e (fr4.tr du) f t) (fun η du hu t => hok η _ _ _ _ (fr4.tr du) hu ?_ (by omega) t)
    refine PI_sign hi (fun z => ?_) (by omega) ⟨ok, l8⟩ (by omega)
    rw [← hl] at z
    exact (blm_none (blm_none (blm_none (blm_none z).1).1).1).1
  rw [e10]
  refine ⟨p, h2.2.2.1, h2.2.2.2.1, c_isNamed ok l8 h2.2.2.2 hi (ri ?_)⟩
  rw [bI_0]
  refine ⟨fun q => fin υ late fr2 h2 e10 (by rw [q, blm_f]), fun q => c_blame (n := 3) r72 f8 (by decide) (tkP_2000 h.1.1 _) (fun ξ d3 r73 _ _ g10 => rv ?_)⟩
  simp only [Bool.not_eq_false] at q
  exact fin ξ _ (fr2.tr d3.fr) (h2.f7 d3 (rk2.f7 d3) r73) (by rw [g10]; exact e10) (by rw [q])
end P6
