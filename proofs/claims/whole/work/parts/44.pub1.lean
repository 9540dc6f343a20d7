/-! the class: questions about what stands -/
def aCell (P : PV) (L : LV) (x y w : Int32) : Int32 := if vC P x y then (if w = 0 then nI (L (8 * y.toNatClampNeg + x.toNatClampNeg)) else if w = 1 then psun P x.toNatClampNeg y.toNatClampNeg else if w = 2 then nI (L (48 + (8 * y.toNatClampNeg + x.toNatClampNeg))) else if w = 3 then (if grass P x.toNatClampNeg y.toNatClampNeg then grS P L x.toNatClampNeg y.toNatClampNeg 0 else 0) else -100) else -100
def knwS (P : PV) (L : LV) (s : Nat) : Nat → Nat
  | 0 => 0
  | w + 1 => knwS P L s w ||| (L (100 + w) / 2 ^ s % 2) * 2 ^ w
def aSign (P : PV) (L : LV) (s w : Int32) : Int32 := if vSg P s then (if w = 0 then nI (szS P s.toNatClampNeg) else if w = 1 then nI (knwS P L s.toNatClampNeg (pnw P)) else if w = 2 then nI (L (96 + s.toNatClampNeg)) else -1) else -1
def aWin (P : PV) (L : LV) (v w : Int32) : Int32 := if vWi P v then (if w = 0 then nI (pfr P v.toNatClampNeg) else if w = 1 then nI (pto P v.toNatClampNeg) else if w = 2 then nI (psh P v.toNatClampNeg) else if w = 3 then nI (L (100 + v.toNatClampNeg)) else if w = 4 then nI (ptk P v.toNatClampNeg) else -1) else -1
def aCon (P : PV) (L : LV) (s x y : Int32) : Int32 := if vSg P s && vPl P x y then stdS P L s.toNatClampNeg x.toNatClampNeg y.toNatClampNeg else -2000
/-- the places behind n that were found, by i: a place, or how many -/
def rdF (f : Nat × Nat → Bool) (i : Int32) : List (Nat × Nat) → Nat → Int32
  | [], n => if i = -1 then nI n else -1
  | q :: r, n => if f q then (if nI n = i then nI (10 * q.2 + q.1) else rdF f i r (n + 1)) else rdF f i r n
def aReads (P : PV) (L : LV) (w s i : Int32) : Int32 := if vWi P w && vSg P s && decide (-1 ≤ i) then rdF (fun q => rdS P L w.toNatClampNeg s.toNatClampNeg q.1 q.2) i (plcs P) 0 else -1
section Q1
variable {Γ : GE} {l : Launch} {σ : SS} {K : Option Value → SS → Prop} {T : List Nat} {f : Int32} {P : PV} {L : LV} {H : List LV} {O : Nat → Option LV} {D : List (Nat × Nat × Nat)} {W : Nat}
theorem q_place (h : XS σ T f P L H O D) (hK : K (some (.int f)) σ) : C2 Γ l mX9_place [.ref 0] σ K := by
  obtain ⟨p, h1, h2, h3, h4, h5, h6, h7, h8⟩ := h
  refine tX9_place ?_
  rw [h7]
  exact hK
theorem q_cell {x y w : Int32} (h : XS σ T f P L H O D) (ok : OKS T P L H O D W) (hK : ∀ S τ, scr S → Df S σ τ → K (some (.int (aCell P L x y w))) τ) : C2 Γ l mX9_cell [.ref 0, .int x, .int y, .int w] σ K := by
  obtain ⟨p, ⟨h1, -⟩, h2, h3, h4, h5, h6, h7, h8⟩ := h
  have pk := h2.1.2.2
  have w8 := pk.1
  have r6 := pk.2.1
  have hp := h2.1.2.1.1
  have k0 : K (some (.int (aCell P L x y w))) σ := hK [] σ (fun _ z => absurd z (by simp)) Df.rf
  refine tX9_cell ⟨p, h1, hp, c_hasCell h2.1.2.1 (ri ?_)⟩
  rw [bI_0, vC_eq pk]
  refine ⟨fun q => ?_, fun q => ?_⟩
  · simp only [Bool.not_eq_false] at q
    obtain ⟨X, Y, rfl, rfl, hX, hY⟩ := vC_nat q
    rw [aCell, q, if_pos rfl, nI_clamp (by omega), nI_clamp (by omega)] at k0
    refine c_indexOf (ri ⟨fun e => ?_, fun e => ?_, fun e => ?_, fun e => ?_, fun e0 e1 e2 e3 => ?_⟩)
    · refine ⟨vp_in_nI (by omega) (by omega), ?_⟩
      subst e
      rw [if_pos rfl] at k0
      rw [nI_clamp (by omega), XL_hi h3 (by omega) (by omega)]
      exact k0
    · refine ⟨p, h1, hp, vp_in_nI (by omega) (by omega), ?_⟩
      subst e
      rw [if_neg (by decide), if_pos rfl] at k0
      rw [nI_clamp (by omega), h2.1.2.1.2.2.2.2.2.2.2.2.2.2.1 _ (by omega), cSu_at P hX hY pk]
      exact k0
    · refine ⟨vp_in_nI (by omega) (by omega), ?_⟩
      subst e
      rw [if_neg (by decide), if_neg (by decide), if_pos rfl] at k0
      rw [nI_clamp (by omega), XL_fo h3 (by omega) (by omega)]
      exact k0
    · subst e
      refine ⟨p, h1, hp, c_isGrass h2.1.2.1 pk (by omega) (by omega) (ri ?_)⟩
      rw [bI_0]
      refine ⟨fun e => ?_, fun e => ?_⟩
      · rw [if_neg (by decide), if_neg (by decide), if_neg (by decide), if_pos rfl, e] at k0
        exact k0
      · refine c_growth h2 h3 ok.2.1.1 hX hY (fun τ d => ri ?_)
        have k1 := hK _ τ (by intro b hb; rcases isP_or hp with rfl | rfl <;> simp at hb <;> omega) d
        simp only [Bool.not_eq_false] at e
        rw [aCell, q, if_pos rfl, nI_clamp (by omega), nI_clamp (by omega), if_neg (by decide), if_neg (by decide), if_neg (by decide), if_pos rfl, e] at k1
        exact k1
    · rw [if_neg e0, if_neg e1, if_neg e2, if_neg e3] at k0
      exact k0
  · rw [aCell, q] at k0
    exact k0
theorem knw_st : ∀ m, m < 16 → ∀ s, s < 4 → ∀ w, w < 4 → (((nI m >>> (nI s &&& 31)) &&& 1) <<< (nI w &&& 31)) = nI ((m / 2 ^ s % 2) * 2 ^ w) := by decide +kernel
theorem q_knowers_k {s : Nat} (h : XS σ T f P L H O D) (ok : OKS T P L H O D W) (hs : s < pns P) (hK : K (some (.int (nI (knwS P L s (pnw P))))) σ) :
    ∀ n w, n + w = pnw P → wX9_knowers_4 Γ l (nI s) (nI (knwS P L s w)) (nI w) σ K := by
  obtain ⟨p, ⟨h1, -⟩, h2, h3, h4, h5, h6, h7, h8⟩ := h
  have pk := h2.1.2.2
  have hp := h2.1.2.1.1
  have s4 := pk.2.2.1
  have n4 := pk.2.2.2.1
  intro n
  induction n with
  | zero =>
    intro w hw
    have : w = pnw P := by omega
    subst this
    refine tX9_knowers_4 ⟨p, h1, hp, fun _ => hK, fun q => absurd ?_ q⟩
    rw [h2.1.2.1.2.2.2.2.1]
    exact Int32.le_refl _
  | succ n ih =>
    intro w hw
    refine tX9_knowers_4 ⟨p, h1, hp, fun q => absurd q ?_, fun _ => ⟨vp_in_nI (by omega) (by omega), fun v hv => ?_⟩⟩
    · rw [h2.1.2.1.2.2.2.2.1]
      simp (disch := omega) only [nL, nI_add, pk_mul, pk_sub, nI_clamp, nI_leI, nI_ltI, nI_eq]
      omega
    · rw [nI_clamp (by omega), h3.2.2.2.1 w (by omega), knw_st _ (ok.2.1.1.2.2.1 w (by omega)) s (by omega) w (by omega), nI_or] at hv
      rw [hv, nI_1]
      exact ih (w + 1) (by omega)
theorem q_sign {s w : Int32} (h : XS σ T f P L H O D) (ok : OKS T P L H O D W) (hK : K (some (.int (aSign P L s w))) σ) : C2 Γ l mX9_sign [.ref 0, .int s, .int w] σ K := by
  have h0 := h
  obtain ⟨p, ⟨h1, -⟩, h2, h3, h4, h5, h6, h7, h8⟩ := h
  have pk := h2.1.2.2
  have hp := h2.1.2.1.1
  have s4 := pk.2.2.1
  refine tX9_sign ⟨p, h1, hp, c_hasSign h2.1.2.1 (ri ?_)⟩
  rw [bI_0, vS_eq pk]
  refine ⟨fun q => ?_, fun q => ?_⟩
  · simp only [Bool.not_eq_false] at q
    obtain ⟨X, rfl, hX⟩ := vSg_nat q
    have g5 := pk.2.2.2.2.2.2.2.2.2.2.2 X hX
    rw [aSign, q, if_pos rfl, nI_clamp (by omega)] at hK
    refine ⟨fun e => ?_, fun e => ?_, fun e => ?_, fun e0 e1 e2 => ?_⟩
    · subst e
      rw [if_pos rfl] at hK
      refine ⟨p, h1, hp, vp_in_nI (by omega) (by omega), ?_⟩
      rw [nI_clamp (by omega), h2.1.2.1.2.2.2.2.2.2.2.2.2.2.2.1 X hX]
      exact c_bitCount g5 (ri hK)
    · subst e
      rw [if_neg (by decide), if_pos rfl] at hK
      exact tX9_knowers (q_knowers_k h0 ok hX (ri hK) (pnw P) 0 rfl)
    · subst e
      rw [if_neg (by decide), if_neg (by decide), if_pos rfl] at hK
      refine ⟨vp_in_nI (by omega) (by omega), ?_⟩
      rw [nI_clamp (by omega), h3.2.2.2.2.1 X (by omega)]
      exact hK
    · rw [if_neg e0, if_neg e1, if_neg e2] at hK
      exact hK
  · rw [aSign, q] at hK
    exact hK
theorem q_window {v w : Int32} (h : XS σ T f P L H O D) (hK : K (some (.int (aWin P L v w))) σ) : C2 Γ l mX9_window [.ref 0, .int v, .int w] σ K := by
  obtain ⟨p, ⟨h1, -⟩, h2, h3, h4, h5, h6, h7, h8⟩ := h
  have pk := h2.1.2.2
  have hp := h2.1.2.1.1
  have n4 := pk.2.2.2.1
  refine tX9_window ⟨p, h1, hp, c_hasWindow h2.1.2.1 (ri ?_)⟩
  rw [bI_0, vW_eq pk]
  refine ⟨fun q => ?_, fun q => ?_⟩
  · simp only [Bool.not_eq_false] at q
    obtain ⟨X, rfl, hX⟩ := vWi_nat q
    have v4 : vp_in (nI X) 4 := vp_in_nI (by omega) (by omega)
    obtain ⟨g1, g2, g3⟩ := h2.1.2.1.2.2.2.2.2.2.2.2.2.2.2.2.1 X hX
    have g4 := h2.1.2.1.2.2.2.2.2.2.2.2.2.2.2.2.2 X (by omega)
    rw [aWin, q, if_pos rfl, nI_clamp (by omega)] at hK
    rw [nI_clamp (by omega)]
    refine ⟨fun e => ⟨p, h1, hp, v4, ?_⟩, fun e => ⟨p, h1, hp, v4, ?_⟩, fun e => ⟨p, h1, hp, v4, ?_⟩, fun e => ⟨v4, ?_⟩, fun e => ⟨p, h1, hp, v4, ?_⟩, fun e0 e1 e2 e3 e4 => ?_⟩
    · subst e
      rw [g1]
      exact hK
    · subst e
      rw [g2]
      exact hK
    · subst e
      rw [g3]
      exact hK
    · subst e
      rw [h3.2.2.2.1 X (by omega)]
      exact hK
    · subst e
      rw [g4]
      exact hK
    · rw [if_neg e0, if_neg e1, if_neg e2, if_neg e3, if_neg e4] at hK
      exact hK
  · rw [aWin, q] at hK
    exact hK
theorem q_contrast {s x y : Int32} (h : XS σ T f P L H O D) (ok : OKS T P L H O D W) (hK : K (some (.int (aCon P L s x y))) σ) : C2 Γ l mX9_contrast [.ref 0, .int s, .int x, .int y] σ K := by
  obtain ⟨p, ⟨h1, -⟩, h2, h3, h4, h5, h6, h7, h8⟩ := h
  have pk := h2.1.2.2
  have w8 := pk.1
  have r6 := pk.2.1
  have s4 := pk.2.2.1
  have hp := h2.1.2.1.1
  refine tX9_contrast ⟨p, h1, hp, c_hasPlace h2.1.2.1 (ri ?_)⟩
  rw [bI_0, vP_eq pk]
  refine ⟨fun q => ?_, fun q => ?_⟩
  · rw [aCon, q] at hK
    exact hK
  · simp only [Bool.not_eq_false] at q
    have q0 := q
    simp only [Bool.and_eq_true] at q
    obtain ⟨S, rfl, hS⟩ := vSg_nat q.1
    obtain ⟨X, Y, rfl, rfl, hX, hY⟩ := vPl_nat q.2
    rw [aCon, q0, if_pos rfl, nI_clamp (by omega), nI_clamp (by omega), nI_clamp (by omega)] at hK
    exact c_standsOut h2.1 h3 ok.2.1.1 hS (by omega) (by omega) (ri hK)
theorem q_reads_x {w s y : Nat} {i : Int32} (h : XS σ T f P L H O D) (ok : OKS T P L H O D W) (hw : w < pnw P) (hs : s < pns P) (hy : y < pr P - 2)
    (kk : ∀ n, K (some (.int (rdF (fun q => rdS P L w s q.1 q.2) i (remL (pw P - 2) (pr P - 2) (y + 1)) n))) σ → wX9_reads_35 Γ l (nI w) (nI s) i (nI n) (nI (y + 1)) σ K) :
    ∀ m x n, m + x = pw P - 2 → K (some (.int (rdF (fun q => rdS P L w s q.1 q.2) i (rowL (pw P - 2) y x ++ remL (pw P - 2) (pr P - 2) (y + 1)) n))) σ → wX9_reads_52 Γ l (nI w) (nI s) i (nI n) (nI y) (nI x) σ K := by
  obtain ⟨p, ⟨h1, -⟩, h2, h3, h4, h5, h6, h7, h8⟩ := h
  have pk := h2.1.2.2
  have w8 := pk.1
  have r6 := pk.2.1
  have hp := h2.1.2.1.1
  intro m
  induction m with
  | zero =>
    intro x n g1 g3
    rw [rowL_nil (by omega), List.nil_append] at g3
    refine tX9_reads_52 ⟨p, h1, hp, fun q => by rw [nI_1]; exact kk n g3, fun q => absurd ?_ q⟩
    rw [h2.1.2.1.2.1]
    simp (disch := omega) only [nL, nI_add, pk_mul, pk_sub, nI_clamp, nI_leI, nI_ltI, nI_eq]
    omega
  | succ m ih =>
    intro x n g1 g3
    rw [rowL_cons (by omega), List.cons_append, rdF] at g3
    refine tX9_reads_52 ⟨p, h1, hp, fun q => absurd q ?_, fun _ => ?_⟩
    · rw [h2.1.2.1.2.1]
      simp (disch := omega) only [nL, nI_add, pk_mul, pk_sub, nI_clamp, nI_leI, nI_ltI, nI_eq]
      omega
    · refine c_isRead h2.1 h3 ok.2.1.1 hw hs (by omega) (by omega) (ri ?_)
      rw [bI_0, nI_1, nI_1]
      refine ⟨fun q => ih (x + 1) n (by omega) ?_, fun q => ⟨fun r => ih (x + 1) (n + 1) (by omega) ?_, fun r => ?_⟩⟩
      · rw [if_neg (by simp [q])] at g3
        exact g3
      · rw [if_pos (by simpa using q), if_neg r] at g3
        exact g3
      · rw [if_pos (by simpa using q), if_pos r] at g3
        rw [show (10 : Int32) * nI y + nI x = nI (10 * y + x) by simp (disch := omega) only [nL, nI_add, pk_mul, pk_sub, nI_clamp, nI_leI, nI_ltI, nI_eq]]
        exact g3
theorem q_reads_y {w s : Nat} {i : Int32} (h : XS σ T f P L H O D) (ok : OKS T P L H O D W) (hw : w < pnw P) (hs : s < pns P) :
    ∀ m y n, m + y = pr P - 2 → K (some (.int (rdF (fun q => rdS P L w s q.1 q.2) i (remL (pw P - 2) (pr P - 2) y) n))) σ → wX9_reads_35 Γ l (nI w) (nI s) i (nI n) (nI y) σ K := by
  have h0 := h
  obtain ⟨p, ⟨h1, -⟩, h2, h3, h4, h5, h6, h7, h8⟩ := h
  have pk := h2.1.2.2
  have w8 := pk.1
  have r6 := pk.2.1
  have hp := h2.1.2.1.1
  intro m
  induction m with
  | zero =>
    intro y n g1 g3
    rw [remL_nil (by omega), rdF] at g3
    refine tX9_reads_35 ⟨p, h1, hp, fun q => ⟨fun r => ?_, fun r => ?_⟩, fun q => absurd ?_ q⟩
    · rw [if_neg r] at g3
      exact g3
    · rw [if_pos r] at g3
      exact g3
    · rw [h2.1.2.1.2.2.1]
      simp (disch := omega) only [nL, nI_add, pk_mul, pk_sub, nI_clamp, nI_leI, nI_ltI, nI_eq]
      omega
  | succ m ih =>
    intro y n g1 g3
    rw [remL_cons (by omega)] at g3
    refine tX9_reads_35 ⟨p, h1, hp, fun q => absurd q ?_, fun _ => ?_⟩
    · rw [h2.1.2.1.2.2.1]
      simp (disch := omega) only [nL, nI_add, pk_mul, pk_sub, nI_clamp, nI_leI, nI_ltI, nI_eq]
      omega
    · exact q_reads_x h0 ok hw hs (by omega) (fun n' z => ih (y + 1) n' (by omega) z) (pw P - 2) 0 n (by omega) g3
theorem q_reads {w s i : Int32} (h : XS σ T f P L H O D) (ok : OKS T P L H O D W) (hK : K (some (.int (aReads P L w s i))) σ) : C2 Γ l mX9_reads [.ref 0, .int w, .int s, .int i] σ K := by
  have h0 := h
  obtain ⟨p, ⟨h1, -⟩, h2, h3, h4, h5, h6, h7, h8⟩ := h
  have pk := h2.1.2.2
  have hp := h2.1.2.1.1
  have s4 := pk.2.2.1
  have n4 := pk.2.2.2.1
  refine tX9_reads ⟨p, h1, hp, c_hasWindow h2.1.2.1 (ri ?_)⟩
  rw [bI_0, vW_eq pk]
  refine ⟨fun q => ?_, fun q => ⟨p, h1, hp, c_hasSign h2.1.2.1 (ri ?_)⟩⟩
  · rw [aReads, q] at hK
    exact hK
  · rw [bI_0, vS_eq pk]
    simp only [Bool.not_eq_false] at q
    refine ⟨fun q2 => ?_, fun q2 => ⟨fun q3 => ?_, fun q3 => ?_⟩⟩
    · rw [aReads, q, q2] at hK
      exact hK
    · simp only [Bool.not_eq_false] at q2
      rw [aReads, q, q2, decide_eq_true q3] at hK
      obtain ⟨X, rfl, hX⟩ := vWi_nat q
      obtain ⟨S, rfl, hS⟩ := vSg_nat q2
      rw [nI_clamp (by omega), nI_clamp (by omega)] at hK
      exact q_reads_y h0 ok hX hS (pr P - 2) 0 0 (by omega) hK
    · rw [aReads, decide_eq_false q3, Bool.and_false] at hK
      exact hK
end Q1
