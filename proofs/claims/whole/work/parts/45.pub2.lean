/-! the class: what would be -/
/-- the best place: how much, where; the first of the best -/
def bstF (f : Nat × Nat → Int32) : List (Nat × Nat) → Int32 × Nat × Nat → Int32 × Nat × Nat
  | [], b => b
  | q :: r, b => if f q ≤ b.1 then bstF f r b else bstF f r (f q, q.1, q.2)
def bstA (w : Int32) (b : Int32 × Nat × Nat) : Int32 := if w = 0 then b.1 else if w = 1 then nI b.2.1 else nI b.2.2
def aBest (P : PV) (L : LV) (s w : Int32) : Int32 := if vSg P s && decide (2 < pw P ∧ 2 < pr P) && vIn w 2 then bstA w (bstF (fun q => stdS P L s.toNatClampNeg q.1 q.2) (plcs P) (-2000, 0, 0)) else -2000
/-- weeks until a sign is gone; m more weeks may be looked at -/
def tgS (P : PV) (s x y : Nat) : Nat → LV → Nat
  | 0, L => if rdW P L s x y then 1 else 0
  | m + 1, L => if rdW P L s x y then tgS P s x y m (gwL P L (wetS P (nI (psd P)) (nI (L 104)))) + 1 else 0
theorem tgS_le (P : PV) (s x y : Nat) : ∀ m L, tgS P s x y m L ≤ m + 1
  | 0, L => by unfold tgS; split <;> omega
  | m + 1, L => by
    have := tgS_le P s x y m (gwL P L (wetS P (nI (psd P)) (nI (L 104))))
    unfold tgS
    split <;> omega
def aGone (P : PV) (L : LV) (s x y : Int32) : Int32 := if vSg P s && vPl P x y then (if tgS P s.toNatClampNeg x.toNatClampNeg y.toNatClampNeg 99 L ≤ 99 then nI (tgS P s.toNatClampNeg x.toNatClampNeg y.toNatClampNeg 99 L) else -2) else -1
theorem scr_w {p a : Nat} (hp : isP p) (ha : a = 274 ∨ a = 279) : scr (wkS p a) := fun b hb => by
  have := isP_or hp
  simp [wkS] at hb
  omega
theorem scr_l {a : Nat} (ha : a = 274 ∨ a = 279) : scr (lwS a) := fun b hb => by
  simp [lwS] at hb
  omega
theorem scr_v {p a : Nat} (hp : isP p) (ha : a = 274 ∨ a = 279) : scr (lvS p a) := fun b hb => by
  have := isP_or hp
  simp [lvS] at hb
  omega
/-- all that scratch is -/
def sc0 : List Nat := [21, 24, 27, 39, 42, 45, 47, 48, 49, 274, 275, 276, 277, 278, 279, 280, 281, 282, 283]
theorem sc0_scr : scr sc0 := fun b hb => by
  simp [sc0] at hb
  omega
theorem scr.in0 {S : List Nat} (h : scr S) : ∀ b, b ∈ S → b ∈ sc0 := fun b hb => by
  have := h b hb
  simp [sc0]
  omega
theorem isL_t : isL 274 := by unfold isL; decide
theorem isL_u : isL 279 := by unfold isL; decide
/-- the class's state, and the trial lawn -/
theorem Df.s0 {S : List Nat} {σ τ υ : SS} (d : Df sc0 σ τ) (e : Df S τ υ) (h : scr S) : Df sc0 σ υ := d.tr e h.in0
section Q2
variable {Γ : GE} {l : Launch} {σ : SS} {K : Option Value → SS → Prop} {T : List Nat} {f : Int32} {P : PV} {L : LV} {H : List LV} {O : Nat → Option LV} {D : List (Nat × Nat × Nat)} {W : Nat}
theorem q_best_x {s y : Nat} {w : Int32} (h : XS σ T f P L H O D) (ok : OKS T P L H O D W) (hs : s < pns P) (hy : y < pr P - 2)
    (kk : ∀ b : Int32 × Nat × Nat, K (some (.int (bstA w (bstF (fun q => stdS P L s q.1 q.2) (remL (pw P - 2) (pr P - 2) (y + 1)) b)))) σ → wX9_best_39 Γ l (nI s) w b.1 (nI b.2.1) (nI b.2.2) (nI (y + 1)) σ K) :
    ∀ m x b, m + x = pw P - 2 → K (some (.int (bstA w (bstF (fun q => stdS P L s q.1 q.2) (rowL (pw P - 2) y x ++ remL (pw P - 2) (pr P - 2) (y + 1)) b)))) σ → wX9_best_56 Γ l (nI s) w b.1 (nI b.2.1) (nI b.2.2) (nI y) (nI x) σ K := by
  obtain ⟨p, ⟨h1, -⟩, h2, h3, h4, h5, h6, h7, h8⟩ := h
  have pk := h2.1.2.2
  have w8 := pk.1
  have r6 := pk.2.1
  have hp := h2.1.2.1.1
  intro m
  induction m with
  | zero =>
    intro x b g1 g3
    rw [rowL_nil (by omega), List.nil_append] at g3
    refine tX9_best_56 ⟨p, h1, hp, fun q => by rw [nI_1]; exact kk b g3, fun q => absurd ?_ q⟩
    rw [h2.1.2.1.2.1]
    simp (disch := omega) only [nL, nI_add, pk_mul, pk_sub, nI_clamp, nI_leI, nI_ltI, nI_eq]
    omega
  | succ m ih =>
    intro x b g1 g3
    rw [rowL_cons (by omega), List.cons_append, bstF] at g3
    refine tX9_best_56 ⟨p, h1, hp, fun q => absurd q ?_, fun _ => ?_⟩
    · rw [h2.1.2.1.2.1]
      simp (disch := omega) only [nL, nI_add, pk_mul, pk_sub, nI_clamp, nI_leI, nI_ltI, nI_eq]
      omega
    · refine c_standsOut h2.1 h3 ok.2.1.1 hs (by omega) (by omega) (ri ?_)
      rw [nI_1]
      refine ⟨fun q => ih (x + 1) b (by omega) ?_, fun q => ih (x + 1) (stdS P L s x y, x, y) (by omega) ?_⟩
      · rw [if_pos q] at g3
        exact g3
      · rw [if_neg q] at g3
        exact g3
theorem q_best_y {s : Nat} {w : Int32} (h : XS σ T f P L H O D) (ok : OKS T P L H O D W) (hs : s < pns P) :
    ∀ m y b, m + y = pr P - 2 → K (some (.int (bstA w (bstF (fun q => stdS P L s q.1 q.2) (remL (pw P - 2) (pr P - 2) y) b)))) σ → wX9_best_39 Γ l (nI s) w b.1 (nI b.2.1) (nI b.2.2) (nI y) σ K := by
  have h0 := h
  obtain ⟨p, ⟨h1, -⟩, h2, h3, h4, h5, h6, h7, h8⟩ := h
  have pk := h2.1.2.2
  have w8 := pk.1
  have r6 := pk.2.1
  have hp := h2.1.2.1.1
  intro m
  induction m with
  | zero =>
    intro y b g1 g3
    rw [remL_nil (by omega), bstF] at g3
    refine tX9_best_39 ⟨p, h1, hp, fun q => ⟨fun r => ⟨fun t => ?_, fun t => ?_⟩, fun r => ?_⟩, fun q => absurd ?_ q⟩
    · rw [bstA, if_neg r, if_neg t] at g3
      exact g3
    · rw [bstA, if_neg r, if_pos t] at g3
      exact g3
    · rw [bstA, if_pos r] at g3
      exact g3
    · rw [h2.1.2.1.2.2.1]
      simp (disch := omega) only [nL, nI_add, pk_mul, pk_sub, nI_clamp, nI_leI, nI_ltI, nI_eq]
      omega
  | succ m ih =>
    intro y b g1 g3
    rw [remL_cons (by omega)] at g3
    refine tX9_best_39 ⟨p, h1, hp, fun q => absurd q ?_, fun _ => ?_⟩
    · rw [h2.1.2.1.2.2.1]
      simp (disch := omega) only [nL, nI_add, pk_mul, pk_sub, nI_clamp, nI_leI, nI_ltI, nI_eq]
      omega
    · exact q_best_x h0 ok hs (by omega) (fun b' z => ih (y + 1) b' (by omega) z) (pw P - 2) 0 b (by omega) g3
theorem vPl_0 (P : PV) : vPl P 0 0 = decide (2 < pw P ∧ 2 < pr P) := by
  unfold vPl
  apply decide_eq_decide.mpr
  have e : Int32.toNatClampNeg 0 = 0 := rfl
  rw [e]
  constructor
  · rintro ⟨-, -, a, b⟩
    omega
  · rintro ⟨a, b⟩
    exact ⟨by decide, by decide, by omega, by omega⟩
theorem vIn_t {x : Int32} {n : Nat} (h1 : ¬ x < 0) (h2 : x ≤ nI n) (hn : n < 2 ^ 31) : vIn x n = true := by
  obtain ⟨e, b⟩ := nx h1
  rw [e, nI_leI b hn] at h2
  simp only [vIn, decide_eq_true_eq]
  exact ⟨h1, h2⟩
theorem vIn_f {x : Int32} {n : Nat} (h2 : ¬ x ≤ nI n) (hn : n < 2 ^ 31) : vIn x n = false := by
  simp only [vIn, decide_eq_false_iff_not]
  rintro ⟨h1, h3⟩
  obtain ⟨e, b⟩ := nx h1
  rw [e, nI_leI b hn] at h2
  exact h2 h3
theorem vIn_n {x : Int32} {n : Nat} (h1 : x < 0) : vIn x n = false := by
  simp only [vIn, decide_eq_false_iff_not]
  exact fun z => z.1 h1
theorem q_best {s w : Int32} (h : XS σ T f P L H O D) (ok : OKS T P L H O D W) (hK : K (some (.int (aBest P L s w))) σ) : C2 Γ l mX9_best [.ref 0, .int s, .int w] σ K := by
  have h0 := h
  obtain ⟨p, ⟨h1, -⟩, h2, h3, h4, h5, h6, h7, h8⟩ := h
  have pk := h2.1.2.2
  have s4 := pk.2.2.1
  have hp := h2.1.2.1.1
  refine tX9_best ⟨p, h1, hp, c_hasPlace h2.1.2.1 (ri ?_)⟩
  rw [bI_0, vP_eq pk, vPl_0]
  refine ⟨fun q => ?_, fun q => ⟨fun r => ?_, fun r => ⟨fun t => ?_, fun t => ?_⟩⟩⟩
  · rw [aBest, q] at hK
    exact hK
  · rw [aBest, vIn_n r, Bool.and_false] at hK
    exact hK
  · simp only [Bool.not_eq_false] at q
    rw [aBest, q, vIn_t (n := 2) r t (by omega)] at hK
    simp only [Bool.and_eq_true] at q
    obtain ⟨S, rfl, hS⟩ := vSg_nat q.1
    rw [nI_clamp (by omega)] at hK
    exact q_best_y h0 ok hS (pr P - 2) 0 (-2000, 0, 0) (by omega) hK
  · rw [aBest, vIn_f (n := 2) t (by omega), Bool.and_false] at hK
    exact hK
theorem q_tg {s x y : Nat} (h : XS σ T f P L H O D) (hs : s < pns P) (hx : x + 2 < pw P) (hy : y + 2 < pr P) :
    ∀ m w τ M, m + w = 99 → Df sc0 σ τ → XL τ 274 M → LVok P M → M 104 + m < 900000 → (∀ υ, Df sc0 σ υ → K (some (.int (nI (w + tgS P s x y m M)))) υ) → wX9_weeksTillGone_3 Γ l (nI s) (nI x) (nI y) (nI w) τ K := by
  obtain ⟨p, ⟨h1, -⟩, h2, h3, h4, h5, h6, h7, h8⟩ := h
  have pk := h2.1.2.2
  have w8 := pk.1
  have r6 := pk.2.1
  have hp := h2.1.2.1.1
  intro m
  induction m with
  | zero =>
    intro w τ M g1 d hl ok gb hK
    have ht := h2.df d sc0_scr.off
    have : w = 99 := by omega
    subst this
    refine tX9_weeksTillGone_3 ⟨fun _ => ?_, fun q => absurd (by decide) q⟩
    refine c_someoneReads ht.1 hl ok hs (by omega) (by omega) (ri ?_)
    rw [bI_0]
    have k := hK τ d
    refine ⟨fun q => ?_, fun q => ?_⟩
    · rw [tgS, q] at k
      exact k
    · rw [tgS, if_pos (by simpa using q)] at k
      exact k
  | succ m ih =>
    intro w τ M g1 d hl ok gb hK
    have ht := h2.df d sc0_scr.off
    refine tX9_weeksTillGone_3 ⟨fun q => absurd q ?_, fun _ => ?_⟩
    · simp (disch := omega) only [nL, nI_add, pk_mul, pk_sub, nI_clamp, nI_leI, nI_ltI, nI_eq]
      omega
    · refine c_someoneReads ht.1 hl ok hs (by omega) (by omega) (ri ?_)
      rw [bI_0, nI_1]
      refine ⟨fun q => ⟨p, ?_, hp, ?_⟩, fun q => ?_⟩
      · rw [d.2]
        exact h1
      · rw [ht.1.2.1.2.2.2.2.2.2.2.2.2.1]
        refine c_growWeek ht hl ok (fun υ d2 hl2 => rv ?_)
        refine ih (w + 1) υ _ (by omega) (d.s0 d2 (scr_w hp (Or.inl rfl))) hl2 (gwL_ok ok (by omega)) (by rw [gwL_wk]; omega) (fun ξ d3 => ?_)
        have k := hK ξ d3
        rw [tgS, if_pos (by simpa using q)] at k
        rw [show w + 1 + tgS P s x y m (gwL P M (wetS P (nI (psd P)) (nI (M 104)))) = w + (tgS P s x y m (gwL P M (wetS P (nI (psd P)) (nI (M 104)))) + 1) by omega]
        exact k
      · have k := hK τ d
        rw [tgS, if_neg (by simp [q])] at k
        exact k
theorem q_become {a b : Nat} (hb : a = 274 ∨ a = 279) {M : LV} {τ : SS} (d : Df sc0 σ τ) (hl : XL τ b M) (hab : a ≠ b) (hK : ∀ υ, Df sc0 σ υ → XL υ a M → K none υ) : C2 Γ l mX4_become [.ref a, .ref b] τ K :=
  c_become (by rcases hb with rfl | rfl; exact isL_t; exact isL_u) hl hab (fun υ d2 g => hK υ (d.s0 d2 (scr_l hb)) g)
theorem q_gone {s x y : Int32} (h : XS σ T f P L H O D) (ok : OKS T P L H O D W) (hK : ∀ τ, Df sc0 σ τ → K (some (.int (aGone P L s x y))) τ) : C2 Γ l mX9_gone [.ref 0, .int s, .int x, .int y] σ K := by
  have h0 := h
  obtain ⟨p, ⟨h1, -⟩, h2, h3, h4, h5, h6, h7, h8⟩ := h
  have pk := h2.1.2.2
  have w8 := pk.1
  have r6 := pk.2.1
  have s4 := pk.2.2.1
  have hp := h2.1.2.1.1
  have o1 := ok.1
  have o2 := ok.2.1.2
  refine tX9_gone ⟨p, h1, hp, c_hasPlace h2.1.2.1 (ri ?_)⟩
  rw [bI_0, vP_eq pk]
  refine ⟨fun q => ?_, fun q => ?_⟩
  · simp only [Bool.not_eq_false] at q
    have q0 := q
    simp only [Bool.and_eq_true] at q
    obtain ⟨S, rfl, hS⟩ := vSg_nat q.1
    obtain ⟨X, Y, rfl, rfl, hX, hY⟩ := vPl_nat q.2
    refine q_become (Or.inl rfl) Df.rf h3 (by decide) (fun υ d g => rv ?_)
    refine tX9_weeksTillGone (q_tg h0 hS hX hY 99 0 υ L rfl d g ok.2.1.1 (by omega) (fun ξ d2 => ri ?_))
    have k := hK ξ d2
    have hle := tgS_le P S X Y 99 L
    rw [aGone, q0, if_pos rfl, nI_clamp (by omega), nI_clamp (by omega), nI_clamp (by omega)] at k
    rw [Nat.zero_add]
    simp (disch := omega) only [nL, nI_add, pk_mul, pk_sub, nI_clamp, nI_leI, nI_ltI, nI_eq]
    refine ⟨fun e => ?_, fun e => ?_⟩
    · rw [if_pos e] at k
      exact k
    · rw [if_neg e] at k
      exact k
  · have k := hK σ Df.rf
    rw [aGone, q] at k
    exact k
/-- read on a day, gone on another -/
def rtgS (P : PV) (s x y d e : Nat) (M : LV) : Bool := rdW P (gwN P (nI (psd P)) d M) s x y && !(rdW P (gwN P (nI (psd P)) e (gwN P (nI (psd P)) d M)) s x y)
theorem q_rtg {s x y d e p : Nat} {M : LV} (h2 : XGL σ p P) (h1 : σ.2.2 0 8 = p) (hs : s < pns P) (hx : x + 2 < pw P) (hy : y + 2 < pr P) (hl : XL σ 274 M) (ok : LVok P M) (hd : d ≤ 60) (he : e ≤ 60) (hb : M 104 < 800000)
    (hK : ∀ υ, Df (wkS p 274) σ υ → K (some (.int (bI (rtgS P s x y d e M)))) υ) : C2 Γ l mX9_readThenGone [.ref 0, .int (nI s), .int (nI x), .int (nI y), .int (nI d), .int (nI e)] σ K := by
  have pk := h2.1.2.2
  have w8 := pk.1
  have r6 := pk.2.1
  have hp := h2.1.2.1.1
  have ho := (scr_w hp (a := 274) (Or.inl rfl)).off
  refine tX9_readThenGone ⟨p, h1, hp, ?_⟩
  rw [h2.1.2.1.2.2.2.2.2.2.2.2.2.1]
  refine c_growWeeks h2 hl ok (by omega) (by omega) (fun υ d2 hl2 => rv ?_)
  have ht2 := h2.df d2 ho
  have ok2 := gwN_ok (seed := nI (psd P)) d M ok (by omega)
  refine c_someoneReads ht2.1 hl2 ok2 hs (by omega) (by omega) (ri ?_)
  rw [bI_0]
  refine ⟨fun q => ⟨p, by rw [d2.2]; exact h1, hp, ?_⟩, fun q => ?_⟩
  · rw [ht2.1.2.1.2.2.2.2.2.2.2.2.2.1]
    refine c_growWeeks ht2 hl2 ok2 (by omega) (by rw [gwN_wk]; omega) (fun ξ d3 hl3 => rv ?_)
    have dd3 := d2.tr d3 (fun b hb => hb)
    have ht3 := h2.df dd3 ho
    have ok3 := gwN_ok (seed := nI (psd P)) e _ ok2 (by rw [gwN_wk]; omega)
    refine c_someoneReads ht3.1 hl3 ok3 hs (by omega) (by omega) (ri ?_)
    rw [bI_0]
    have k := hK ξ dd3
    simp only [Bool.not_eq_false] at q
    rw [rtgS, q] at k
    refine ⟨fun r => ?_, fun r => ?_⟩
    · simp only [Bool.not_eq_false] at r
      rw [r] at k
      exact k
    · rw [r] at k
      exact k
  · have k := hK υ d2
    rw [rtgS, q] at k
    exact k
/-- the first day to cut -/
def whF (P : PV) (s x y : Nat) (e : Nat) : Nat → Nat → LV → Int32
  | 0, _, _ => -2
  | m + 1, w, M => if rtgS P s x y m e (ct9 P s x y M 9) then nI w else whF P s x y e m (w + 1) (gwL P M (wetS P (nI (psd P)) (nI (M 104))))
def aWhen (P : PV) (L : LV) (s x y d e : Int32) : Int32 := if vSg P s && vPl P x y && decide (¬ d < 0 ∧ d < e) && vIn e 60 then whF P s.toNatClampNeg x.toNatClampNeg y.toNatClampNeg (e.toNatClampNeg - d.toNatClampNeg) (d.toNatClampNeg + 1) 0 L else -1
theorem q_when_k {s x y d e : Nat} (h : XS σ T f P L H O D) (hs : s < pns P) (hx : x + 2 < pw P) (hy : y + 2 < pr P) (hd : d < e) (he : e ≤ 60) :
    ∀ m w τ M, m + w = d + 1 → Df sc0 σ τ → XL τ 279 M → LVok P M → M 104 + m < 700000 → (∀ υ, Df sc0 σ υ → K (some (.int (whF P s x y (e - d) m w M))) υ) → wX9_when_48 Γ l (nI s) (nI x) (nI y) (nI d) (nI e) (nI w) τ K := by
  have h0 := h
  obtain ⟨p, ⟨h1, -⟩, h2, h3, h4, h5, h6, h7, h8⟩ := h
  have pk := h2.1.2.2
  have w8 := pk.1
  have r6 := pk.2.1
  have hp := h2.1.2.1.1
  have hpp := isP_or hp
  intro m
  induction m with
  | zero =>
    intro w τ M g1 dd hl ok gb hK
    exact tX9_when_48 ⟨fun q => hK τ dd, fun q => absurd (by simp (disch := omega) only [nL, nI_add, pk_mul, pk_sub, nI_clamp, nI_leI, nI_ltI, nI_eq]; omega) q⟩
  | succ m ih =>
    intro w τ M g1 dd hl ok gb hK
    refine tX9_when_48 ⟨fun q => absurd q (by simp (disch := omega) only [nL, nI_add, pk_mul, pk_sub, nI_clamp, nI_leI, nI_ltI, nI_eq]; omega), fun _ => ?_⟩
    refine c_become isL_t hl (by decide) (fun υ d2 hl2 => rv ?_)
    have dd2 := dd.s0 d2 (scr_l (Or.inl rfl))
    have hu2 : XL υ 279 M := hl.df d2 (by simp [lwS]) (by simp [lwS]) (by simp [lwS]) (by simp [lwS]) (by simp [lwS])
    refine c_cutOut (h2.df dd2 sc0_scr.off) hl2 hs (by omega) (by omega) (fun ξ d3 hl3 => rv ?_)
    have dd3 := dd2.s0 d3 (fun b hb => by simp at hb; omega)
    have hu3 : XL ξ 279 M := hu2.df d3 (by simp) (by simp) (by simp) (by simp) (by simp)
    obtain ⟨ok3, wk3⟩ := ct9_ok (s := s) ok (x := x) (y := y) (by omega) (by omega) 9 (by omega)
    rw [show nI d - nI w = nI (d - w) from pk_sub (by omega), show nI e - nI d = nI (e - d) from pk_sub (by omega)]
    have e0 : d - w = m := by omega
    rw [e0]
    refine q_rtg (h2.df dd3 sc0_scr.off) (by rw [dd3.2]; exact h1) hs hx hy hl3 ok3 (by omega) (by omega) (by rw [wk3 104 (by omega)]; omega) (fun ζ d4 => ri ?_)
    have dd4 := dd3.s0 d4 (scr_w hp (Or.inl rfl))
    have hu4 : XL ζ 279 M := hu3.df d4 (by simp [wkS]; omega) (by simp [wkS]; omega) (by simp [wkS]; omega) (by simp [wkS]; omega) (by simp [wkS]; omega)
    rw [bI_0, nI_1]
    refine ⟨fun q => ⟨p, by rw [dd4.2]; exact h1, hp, ?_⟩, fun q => ?_⟩
    · have ht4 := h2.df dd4 sc0_scr.off
      rw [ht4.1.2.1.2.2.2.2.2.2.2.2.2.1]
      refine c_growWeek ht4 hu4 ok (fun ω d5 hl5 => rv ?_)
      refine ih (w + 1) ω _ (by omega) (dd4.s0 d5 (scr_w hp (Or.inr rfl))) hl5 (gwL_ok ok (by omega)) (by rw [gwL_wk]; omega) (fun ω2 d6 => ?_)
      have k := hK ω2 d6
      rw [whF, if_neg (by simp [q])] at k
      exact k
    · have k := hK ζ dd4
      rw [whF, if_pos (by simpa using q)] at k
      exact k
theorem q_when {s x y d e : Int32} (h : XS σ T f P L H O D) (ok : OKS T P L H O D W) (hK : ∀ τ, Df sc0 σ τ → K (some (.int (aWhen P L s x y d e))) τ) : C2 Γ l mX9_when [.ref 0, .int s, .int x, .int y, .int d, .int e] σ K := by
  have h0 := h
  obtain ⟨p, ⟨h1, -⟩, h2, h3, h4, h5, h6, h7, h8⟩ := h
  have pk := h2.1.2.2
  have w8 := pk.1
  have r6 := pk.2.1
  have s4 := pk.2.2.1
  have hp := h2.1.2.1.1
  have o1 := ok.1
  have o2 := ok.2.1.2
  have k0 := hK σ Df.rf
  refine tX9_when ⟨p, h1, hp, c_hasPlace h2.1.2.1 (ri ?_)⟩
  rw [bI_0, vP_eq pk]
  refine ⟨fun q => ?_, fun q => ⟨fun r => ?_, fun r => ⟨fun t => ?_, fun t => ⟨fun u => ?_, fun u => ?_⟩⟩⟩⟩
  · rw [aWhen, q] at k0
    exact k0
  · rw [aWhen, decide_eq_false (fun z => z.1 r), Bool.and_false] at k0
    exact k0
  · rw [aWhen, decide_eq_false (fun z => absurd t (Int32.not_le.mpr z.2)), Bool.and_false] at k0
    exact k0
  · have t2 : d < e := Int32.not_le.mp t
    have e0 : ¬ e < 0 := fun z => r (Int32.lt_trans t2 z)
    have v := vIn_t (n := 60) e0 u (by omega)
    obtain ⟨E, rfl, hE⟩ := vIn_nat v
    obtain ⟨DD, hD, rfl⟩ := nI_of r
    have t3 := (nI_ltI hD (by omega)).mp t2
    simp only [Bool.not_eq_false] at q
    have hK2 : ∀ τ, Df sc0 σ τ → K (some (.int (whF P s.toNatClampNeg x.toNatClampNeg y.toNatClampNeg (E - DD) (DD + 1) 0 L))) τ := fun τ dτ => by
      have k := hK τ dτ
      rw [aWhen, q, decide_eq_true ⟨r, t2⟩, v, nI_clamp (by omega), nI_clamp hD] at k
      exact k
    simp only [Bool.and_eq_true] at q
    obtain ⟨S, rfl, hS⟩ := vSg_nat q.1
    obtain ⟨X, Y, rfl, rfl, hX, hY⟩ := vPl_nat q.2
    rw [nI_clamp (by omega), nI_clamp (by omega), nI_clamp (by omega)] at hK2
    refine c_become isL_u h3 (by decide) (fun υ d2 hl2 => rv ?_)
    exact q_when_k h0 hS hX hY t3 hE (DD + 1) 0 υ L (by omega) (Df.rf.s0 d2 (scr_l (Or.inr rfl))) hl2 ok.2.1.1 (by omega) hK2
  · rw [aWhen, vIn_f (n := 60) u (by omega), Bool.and_false] at k0
    exact k0
end Q2
