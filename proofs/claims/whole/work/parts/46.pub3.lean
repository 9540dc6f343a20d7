/-! the class: what would be (cuts, level, quiet, knows, then, year) -/
def aCuts (P : PV) (L : LV) (w s x y : Int32) : Int32 := if vWi P w && (vSg P s && vPl P x y) then (if seesS P w.toNatClampNeg x.toNatClampNeg && readable P s.toNatClampNeg && decide (psh P w.toNatClampNeg ≤ lstS P L s.toNatClampNeg x.toNatClampNeg y.toNatClampNeg 9) then nI (ttS P L s.toNatClampNeg x.toNatClampNeg y.toNatClampNeg (lstS P L s.toNatClampNeg x.toNatClampNeg y.toNatClampNeg 9 - psh P w.toNatClampNeg) 9) else -2) else -1
/-- weeks until nothing is read -/
def quF (P : PV) : Nat → Nat → LV → Int32
  | 0, _, _ => -2
  | m + 1, w, M => if rdE P M then quF P m (w + 1) (gwL P M (wetS P (nI (psd P)) (nI (M 104)))) else nI w
def aQuiet (P : PV) (L : LV) : Int32 := quF P 201 0 L
/-- the highest mowing at which nothing is read -/
def lvF (P : PV) (L : LV) : Nat → Int32
  | 0 => -2
  | m + 1 => if rdE P (mwL L m) then lvF P L m else nI m
def knF (P : PV) (w s : Nat) : Nat → Nat → LV → Int32
  | 0, _, _ => -2
  | m + 1, n, M => if M (100 + w) / 2 ^ s % 2 = 1 then nI n else knF P w s m (n + 1) (lvL P M)
def aKnows (P : PV) (L : LV) (w s : Int32) : Int32 := if vWi P w && vSg P s then knF P w.toNatClampNeg s.toNatClampNeg 201 0 L else -1
def aThen (P : PV) (L : LV) (x y n : Int32) : Int32 := if vC P x y && vIn n 60 then nI (gwN P (nI (psd P)) n.toNatClampNeg L (8 * y.toNatClampNeg + x.toNatClampNeg)) else -1
def yrF (P : PV) (L : LV) (w s n : Nat) : Nat → Nat → Nat → Int32
  | 0, _, c => nI c
  | m + 1, i, c => yrF P L w s n m (i + 1) (if rdA P (gwN P (nI (psd P) + nI i) n L) w s then c + 1 else c)
def aYear (P : PV) (L : LV) (w s n k : Int32) : Int32 := if vWi P w && vSg P s && vIn n 60 && (decide (¬ k < 1) && vIn k 20) then yrF P L w.toNatClampNeg s.toNatClampNeg n.toNatClampNeg k.toNatClampNeg 0 0 else -1
theorem mwL_mw (L : LV) {a b : Nat} (h : b ≤ a) : mwL (mwL L a) b = mwL L b := by
  funext k
  unfold mwL
  by_cases hk : k < 48
  · simp only [hk, if_true]
    omega
  · simp only [hk, if_false]
section Q3
variable {Γ : GE} {l : Launch} {σ : SS} {K : Option Value → SS → Prop} {T : List Nat} {f : Int32} {P : PV} {L : LV} {H : List LV} {O : Nat → Option LV} {D : List (Nat × Nat × Nat)} {W : Nat}
theorem q_cuts {w s x y : Int32} (h : XS σ T f P L H O D) (ok : OKS T P L H O D W) (hK : K (some (.int (aCuts P L w s x y))) σ) : C2 Γ l mX9_cuts [.ref 0, .int w, .int s, .int x, .int y] σ K := by
  obtain ⟨p, ⟨h1, -⟩, h2, h3, h4, h5, h6, h7, h8⟩ := h
  have pk := h2.1.2.2
  have w8 := pk.1
  have r6 := pk.2.1
  have s4 := pk.2.2.1
  have n4 := pk.2.2.2.1
  have hp := h2.1.2.1.1
  refine tX9_cuts ⟨p, h1, hp, c_hasWindow h2.1.2.1 (ri ?_)⟩
  rw [bI_0, vW_eq pk]
  refine ⟨fun q => ?_, fun q => ⟨p, h1, hp, c_hasPlace h2.1.2.1 (ri ?_)⟩⟩
  · rw [aCuts, q] at hK
    exact hK
  · rw [bI_0, vP_eq pk]
    simp only [Bool.not_eq_false] at q
    refine ⟨fun r => ?_, fun r => ?_⟩
    · simp only [Bool.not_eq_false] at r
      rw [aCuts, q, r] at hK
      simp only [Bool.and_eq_true] at r
      obtain ⟨V, rfl, hV⟩ := vWi_nat q
      obtain ⟨S, rfl, hS⟩ := vSg_nat r.1
      obtain ⟨X, Y, rfl, rfl, hX, hY⟩ := vPl_nat r.2
      rw [nI_clamp (by omega), nI_clamp (by omega), nI_clamp (by omega), nI_clamp (by omega)] at hK
      obtain ⟨g1, g2, g3⟩ := h2.1.2.1.2.2.2.2.2.2.2.2.2.2.2.2.1 V hV
      obtain ⟨b1, b2, b3⟩ := pk.2.2.2.2.2.2.2.2.2.1 V hV
      have b4 := lstS_le P L S X Y 9
      simp only [Bool.true_and, if_true] at hK
      refine ⟨p, h1, hp, c_sees h2.1.2.1 pk hV (by omega) (ri ?_)⟩
      rw [bI_0]
      refine ⟨fun e => ?_, fun e => ⟨p, h1, hp, c_isReadable h2.1.2.1 pk hS (ri ?_)⟩⟩
      · rw [e] at hK
        exact hK
      · rw [bI_0]
        simp only [Bool.not_eq_false] at e
        rw [e] at hK
        refine ⟨fun e2 => ?_, fun e2 => ?_⟩
        · have e3 : readable P S = true := by unfold readable; simpa using e2
          rw [e3] at hK
          refine c_leastLeft h2.1 h3 ok.2.1.1 hS (by omega) (by omega) (ri ⟨p, h1, hp, vp_in_nI (by omega) (by omega), fun v hv => ?_⟩)
          rw [nI_clamp (by omega), g3] at hv
          refine ⟨fun u => ?_, fun u => ?_⟩
          · by_cases hle : psh P V ≤ lstS P L S X Y 9
            · rw [hv, show nI (lstS P L S X Y 9) - nI (psh P V) = nI (lstS P L S X Y 9 - psh P V) from pk_sub hle]
              rw [decide_eq_true hle] at hK
              exact c_tooTall h2.1 h3 ok.2.1.1 hS (by omega) (by omega) (by omega) (ri hK)
            · exfalso
              rw [hv] at u
              revert u
              have : ∀ a, a < 100 → ∀ b, b < 100 → a < b → ¬ (0 : Int32) ≤ nI a - nI b := by decide +kernel
              exact this _ (by omega) _ (by omega) (by omega)
          · by_cases hle : psh P V ≤ lstS P L S X Y 9
            · exfalso
              rw [hv, show nI (lstS P L S X Y 9) - nI (psh P V) = nI (lstS P L S X Y 9 - psh P V) from pk_sub hle] at u
              apply u
              simp (disch := omega) only [nL, nI_add, pk_mul, pk_sub, nI_clamp, nI_leI, nI_ltI, nI_eq]
              omega
            · rw [decide_eq_false hle] at hK
              exact hK
        · have e3 : readable P S = false := e2
          rw [e3] at hK
          exact hK
    · rw [aCuts, q, r] at hK
      exact hK
theorem q_quiet_k (h : XS σ T f P L H O D) :
    ∀ m w τ M, m + w = 201 → Df sc0 σ τ → XL τ 274 M → LVok P M → M 104 + m < 900000 → (∀ υ, Df sc0 σ υ → K (some (.int (quF P m w M))) υ) → wX9_quiet_13 Γ l (nI w) τ K := by
  obtain ⟨p, ⟨h1, -⟩, h2, h3, h4, h5, h6, h7, h8⟩ := h
  have pk := h2.1.2.2
  have hp := h2.1.2.1.1
  intro m
  induction m with
  | zero =>
    intro w τ M g1 d hl ok gb hK
    exact tX9_quiet_13 ⟨fun _ => hK τ d, fun q => absurd (by simp (disch := omega) only [nL, nI_add, pk_mul, pk_sub, nI_clamp, nI_leI, nI_ltI, nI_eq]; omega) q⟩
  | succ m ih =>
    intro w τ M g1 d hl ok gb hK
    have ht := h2.df d sc0_scr.off
    refine tX9_quiet_13 ⟨fun q => absurd q (by simp (disch := omega) only [nL, nI_add, pk_mul, pk_sub, nI_clamp, nI_leI, nI_ltI, nI_eq]; omega), fun _ => ?_⟩
    refine c_anythingIsRead ht.1 hl ok (ri ?_)
    rw [bI_0, nI_1]
    refine ⟨fun q => ⟨p, by rw [d.2]; exact h1, hp, ?_⟩, fun q => ?_⟩
    · rw [ht.1.2.1.2.2.2.2.2.2.2.2.2.1]
      refine c_growWeek ht hl ok (fun υ d2 hl2 => rv ?_)
      refine ih (w + 1) υ _ (by omega) (d.s0 d2 (scr_w hp (Or.inl rfl))) hl2 (gwL_ok ok (by omega)) (by rw [gwL_wk]; omega) (fun ξ d3 => ?_)
      have k := hK ξ d3
      rw [quF, if_pos (by simpa using q)] at k
      exact k
    · have k := hK τ d
      rw [quF, if_neg (by simp [q])] at k
      exact k
theorem q_quiet (h : XS σ T f P L H O D) (ok : OKS T P L H O D W) (hK : ∀ τ, Df sc0 σ τ → K (some (.int (aQuiet P L))) τ) : C2 Γ l mX9_quiet [.ref 0] σ K := by
  have h0 := h
  obtain ⟨p, ⟨h1, -⟩, h2, h3, h4, h5, h6, h7, h8⟩ := h
  have o1 := ok.1
  have o2 := ok.2.1.2
  refine tX9_quiet (c_become isL_t h3 (by decide) (fun υ d2 hl2 => rv ?_))
  exact q_quiet_k h0 201 0 υ L (by omega) (Df.rf.s0 d2 (scr_l (Or.inl rfl))) hl2 ok.2.1.1 (by omega) hK
theorem nI_m1 (n : Nat) : nI (n + 1) + (-1) = nI n := by
  rw [← nI_1, Int32.add_assoc]
  exact Int32.add_zero _
theorem q_level_k (h : XS σ T f P L H O D) (ok : OKS T P L H O D W) :
    ∀ m τ t, m ≤ 100 → m ≤ t + 1 → Df sc0 σ τ → XL τ 274 (if m = 100 then L else mwL L t) → (∀ υ, Df sc0 σ υ → K (some (.int (lvF P L m))) υ) → wX9_level_14 Γ l (nI m + (-1)) τ K := by
  obtain ⟨p, ⟨h1, -⟩, h2, h3, h4, h5, h6, h7, h8⟩ := h
  have pk := h2.1.2.2
  have hp := h2.1.2.1.1
  intro m
  induction m with
  | zero =>
    intro τ t g1 g2 d hl hK
    exact tX9_level_14 ⟨fun _ => hK τ d, fun q => absurd (by decide) q⟩
  | succ m ih =>
    intro τ t g1 g2 d hl hK
    have ht := h2.df d sc0_scr.off
    rw [nI_m1]
    refine tX9_level_14 ⟨fun q => absurd q (by simp (disch := omega) only [nL, nI_add, pk_mul, pk_sub, nI_clamp, nI_leI, nI_ltI, nI_eq]; omega), fun _ => ?_⟩
    have hl' : ∃ M, XL τ 274 M ∧ LVok P M ∧ mwL M m = mwL L m := by
      by_cases e : m + 1 = 100
      · rw [if_pos e] at hl
        exact ⟨L, hl, ok.2.1.1, rfl⟩
      · rw [if_neg e] at hl
        exact ⟨_, hl, mwL_ok ok.2.1.1, mwL_mw L (by omega)⟩
    obtain ⟨M, hM, okM, eM⟩ := hl'
    refine c_mowTo hM okM (by omega) (fun υ d2 hl2 => ri ?_)
    have dd := d.s0 d2 (fun b hb => by simp at hb; omega)
    rw [eM] at hl2
    refine c_anythingIsRead (h2.df dd sc0_scr.off).1 hl2 (mwL_ok ok.2.1.1) (ri ?_)
    rw [bI_0]
    refine ⟨fun q => ih υ m (by omega) (by omega) dd (by rw [if_neg (by omega)]; exact hl2) (fun ξ d3 => ?_), fun q => ?_⟩
    · have k := hK ξ d3
      rw [lvF, if_pos (by simpa using q)] at k
      exact k
    · have k := hK υ dd
      rw [lvF, if_neg (by simp [q])] at k
      exact k
theorem q_level (h : XS σ T f P L H O D) (ok : OKS T P L H O D W) (hK : ∀ τ, Df sc0 σ τ → K (some (.int (lvF P L 100))) τ) : C2 Γ l mX9_level [.ref 0] σ K := by
  have h0 := h
  obtain ⟨p, ⟨h1, -⟩, h2, h3, h4, h5, h6, h7, h8⟩ := h
  refine tX9_level (c_become isL_t h3 (by decide) (fun υ d2 hl2 => rv ?_))
  exact q_level_k h0 ok 100 υ 99 (by omega) (by omega) (Df.rf.s0 d2 (scr_l (Or.inl rfl))) (by rw [if_pos rfl]; exact hl2) hK
theorem q_knows_k {w s : Nat} (h : XS σ T f P L H O D) (hw : w < pnw P) (hs : s < pns P) :
    ∀ m n τ M, m + n = 201 → Df sc0 σ τ → XL τ 274 M → LVok P M → M 104 + m < 900000 → (∀ υ, Df sc0 σ υ → K (some (.int (knF P w s m n M))) υ) → wX9_knows_37 Γ l (nI w) (nI s) (nI n) τ K := by
  obtain ⟨p, ⟨h1, -⟩, h2, h3, h4, h5, h6, h7, h8⟩ := h
  have pk := h2.1.2.2
  have hp := h2.1.2.1.1
  have s4 := pk.2.2.1
  have n4 := pk.2.2.2.1
  intro m
  induction m with
  | zero =>
    intro n τ M g1 d hl ok gb hK
    exact tX9_knows_37 ⟨fun _ => hK τ d, fun q => absurd (by simp (disch := omega) only [nL, nI_add, pk_mul, pk_sub, nI_clamp, nI_leI, nI_ltI, nI_eq]; omega) q⟩
  | succ m ih =>
    intro n τ M g1 d hl ok gb hK
    have ht := h2.df d sc0_scr.off
    refine tX9_knows_37 ⟨fun q => absurd q (by simp (disch := omega) only [nL, nI_add, pk_mul, pk_sub, nI_clamp, nI_leI, nI_ltI, nI_eq]; omega), fun _ => ⟨vp_in_nI (by omega) (by omega), ?_⟩⟩
    rw [nI_clamp (by omega), hl.2.2.2.1 w (by omega), bit16 _ (ok.2.2.1 w (by omega)) s (by omega), nI_1]
    have e1 : nI (M (100 + w) / 2 ^ s % 2) = 1 ↔ M (100 + w) / 2 ^ s % 2 = 1 := by
      rw [show (1 : Int32) = nI 1 from rfl, nI_eq (by omega) (by omega)]
    rw [e1]
    refine ⟨fun q => ?_, fun q => ?_⟩
    · refine c_live ht hl ok (by omega) (fun υ d2 hl2 => rv ?_)
      refine ih (n + 1) υ _ (by omega) (d.s0 d2 (scr_v hp (Or.inl rfl))) hl2 (lvL_ok ok (by omega) n4 s4) (by rw [lvL_wk n4]; omega) (fun ξ d3 => ?_)
      have k := hK ξ d3
      rw [knF, if_neg q] at k
      exact k
    · have k := hK τ d
      rw [knF, if_pos q] at k
      exact k
theorem q_knows {w s : Int32} (h : XS σ T f P L H O D) (ok : OKS T P L H O D W) (hK : ∀ τ, Df sc0 σ τ → K (some (.int (aKnows P L w s))) τ) : C2 Γ l mX9_knows [.ref 0, .int w, .int s] σ K := by
  have h0 := h
  obtain ⟨p, ⟨h1, -⟩, h2, h3, h4, h5, h6, h7, h8⟩ := h
  have pk := h2.1.2.2
  have hp := h2.1.2.1.1
  have s4 := pk.2.2.1
  have n4 := pk.2.2.2.1
  have o1 := ok.1
  have o2 := ok.2.1.2
  have k0 := hK σ Df.rf
  refine tX9_knows ⟨p, h1, hp, c_hasWindow h2.1.2.1 (ri ?_)⟩
  rw [bI_0, vW_eq pk]
  refine ⟨fun q => ?_, fun q => ⟨p, h1, hp, c_hasSign h2.1.2.1 (ri ?_)⟩⟩
  · rw [aKnows, q] at k0
    exact k0
  · rw [bI_0, vS_eq pk]
    simp only [Bool.not_eq_false] at q
    refine ⟨fun r => ?_, fun r => ?_⟩
    · simp only [Bool.not_eq_false] at r
      rw [aKnows, q, r] at hK
      obtain ⟨V, rfl, hV⟩ := vWi_nat q
      obtain ⟨S, rfl, hS⟩ := vSg_nat r
      rw [nI_clamp (by omega), nI_clamp (by omega)] at hK
      refine c_become isL_t h3 (by decide) (fun υ d2 hl2 => rv ?_)
      exact q_knows_k h0 hV hS 201 0 υ L (by omega) (Df.rf.s0 d2 (scr_l (Or.inl rfl))) hl2 ok.2.1.1 (by omega) hK
    · rw [aKnows, q, r] at k0
      exact k0
theorem q_then {x y n : Int32} (h : XS σ T f P L H O D) (ok : OKS T P L H O D W) (hK : ∀ τ, Df sc0 σ τ → K (some (.int (aThen P L x y n))) τ) : C2 Γ l mX9_then [.ref 0, .int x, .int y, .int n] σ K := by
  have h0 := h
  obtain ⟨p, ⟨h1, -⟩, h2, h3, h4, h5, h6, h7, h8⟩ := h
  have pk := h2.1.2.2
  have hp := h2.1.2.1.1
  have w8 := pk.1
  have r6 := pk.2.1
  have o1 := ok.1
  have o2 := ok.2.1.2
  have k0 := hK σ Df.rf
  refine tX9_then ⟨p, h1, hp, c_hasCell h2.1.2.1 (ri ?_)⟩
  rw [bI_0, vC_eq pk]
  refine ⟨fun q => ?_, fun q => c_isWait (ri ?_)⟩
  · rw [aThen, q] at k0
    exact k0
  · rw [bI_0]
    simp only [Bool.not_eq_false] at q
    refine ⟨fun r => ?_, fun r => ?_⟩
    · simp only [Bool.not_eq_false] at r
      rw [aThen, q, r] at hK
      obtain ⟨X, Y, rfl, rfl, hX, hY⟩ := vC_nat q
      obtain ⟨N, rfl, hN⟩ := vIn_nat r
      rw [nI_clamp (by omega), nI_clamp (by omega), nI_clamp (by omega)] at hK
      refine c_become isL_t h3 (by decide) (fun υ d2 hl2 => rv ⟨p, by rw [d2.2]; exact h1, hp, ?_⟩)
      have dd2 := Df.rf.s0 d2 (scr_l (Or.inl rfl))
      have ht := h2.df dd2 sc0_scr.off
      rw [ht.1.2.1.2.2.2.2.2.2.2.2.2.1]
      refine c_growWeeks ht hl2 ok.2.1.1 (by omega) (by omega) (fun ξ d3 hl3 => rv (c_indexOf (ri ⟨vp_in_nI (by omega) (by omega), ?_⟩)))
      rw [nI_clamp (by omega), XL_hi hl3 (by omega) (by omega)]
      exact hK ξ (dd2.s0 d3 (scr_w hp (Or.inl rfl)))
    · rw [aThen, q, r] at k0
      exact k0
theorem q_year_k {w s n k : Nat} (h : XS σ T f P L H O D) (ok : OKS T P L H O D W) (hw : w < pnw P) (hs : s < pns P) (hn : n ≤ 60) (hk : k ≤ 20) :
    ∀ m i c τ, m + i = k → Df sc0 σ τ → (∀ υ, Df sc0 σ υ → K (some (.int (yrF P L w s n m i c))) υ) → wX9_year_50 Γ l (nI w) (nI s) (nI n) (nI k) (nI c) (nI i) τ K := by
  obtain ⟨p, ⟨h1, -⟩, h2, h3, h4, h5, h6, h7, h8⟩ := h
  have pk := h2.1.2.2
  have hp := h2.1.2.1.1
  have o1 := ok.1
  have o2 := ok.2.1.2
  intro m
  induction m with
  | zero =>
    intro i c τ g1 d hK
    exact tX9_year_50 ⟨fun _ => hK τ d, fun q => absurd (by simp (disch := omega) only [nL, nI_add, pk_mul, pk_sub, nI_clamp, nI_leI, nI_ltI, nI_eq]; omega) q⟩
  | succ m ih =>
    intro i c τ g1 d hK
    refine tX9_year_50 ⟨fun q => absurd q (by simp (disch := omega) only [nL, nI_add, pk_mul, pk_sub, nI_clamp, nI_leI, nI_ltI, nI_eq]; omega), fun _ => ?_⟩
    refine c_become isL_t (h3.sc d sc0_scr (by omega)) (by decide) (fun υ d2 hl2 => rv ⟨p, by rw [d2.2, d.2]; exact h1, hp, ?_⟩)
    have dd2 := d.s0 d2 (scr_l (Or.inl rfl))
    have ht := h2.df dd2 sc0_scr.off
    rw [ht.1.2.1.2.2.2.2.2.2.2.2.2.1]
    refine c_growWeeks ht hl2 ok.2.1.1 (by omega) (by omega) (fun ξ d3 hl3 => rv ?_)
    have dd3 := dd2.s0 d3 (scr_w hp (Or.inl rfl))
    refine c_readsAnywhere (h2.df dd3 sc0_scr.off).1 hl3 (gwN_ok _ _ ok.2.1.1 (by omega)) hw hs (ri ?_)
    rw [bI_0, nI_1, nI_1]
    refine ⟨fun q => ih (i + 1) c ξ (by omega) dd3 (fun ζ d4 => ?_), fun q => ih (i + 1) (c + 1) ξ (by omega) dd3 (fun ζ d4 => ?_)⟩
    · have k := hK ζ d4
      rw [yrF, if_neg (by simp [q])] at k
      exact k
    · have k := hK ζ d4
      rw [yrF, if_pos (by simpa using q)] at k
      exact k
theorem q_year {w s n k : Int32} (h : XS σ T f P L H O D) (ok : OKS T P L H O D W) (hK : ∀ τ, Df sc0 σ τ → K (some (.int (aYear P L w s n k))) τ) : C2 Γ l mX9_year [.ref 0, .int w, .int s, .int n, .int k] σ K := by
  have h0 := h
  obtain ⟨p, ⟨h1, -⟩, h2, h3, h4, h5, h6, h7, h8⟩ := h
  have pk := h2.1.2.2
  have hp := h2.1.2.1.1
  have s4 := pk.2.2.1
  have n4 := pk.2.2.2.1
  have k0 := hK σ Df.rf
  refine tX9_year ⟨p, h1, hp, c_hasWindow h2.1.2.1 (ri ?_)⟩
  rw [bI_0, vW_eq pk]
  refine ⟨fun q => ?_, fun q => ⟨p, h1, hp, c_hasSign h2.1.2.1 (ri ?_)⟩⟩
  · rw [aYear, q] at k0
    exact k0
  · rw [bI_0, vS_eq pk]
    simp only [Bool.not_eq_false] at q
    refine ⟨fun r => ?_, fun r => c_isWait (ri ?_)⟩
    · rw [aYear, q, r] at k0
      exact k0
    · simp only [Bool.not_eq_false] at r
      rw [bI_0]
      refine ⟨fun t => ?_, fun t => ⟨fun u => ?_, fun u => ⟨fun v => ?_, fun v => ?_⟩⟩⟩
      · rw [aYear, q, r, t] at k0
        exact k0
      · rw [aYear, decide_eq_false (not_not_intro u), Bool.false_and, Bool.and_false] at k0
        exact k0
      · have u0 : ¬ k < 0 := fun z => u (Int32.lt_trans z (by decide))
        have vk := vIn_t (n := 20) u0 v (by omega)
        simp only [Bool.not_eq_false] at t
        rw [aYear, q, r, t, decide_eq_true u, vk] at hK
        obtain ⟨V, rfl, hV⟩ := vWi_nat q
        obtain ⟨S, rfl, hS⟩ := vSg_nat r
        obtain ⟨N, rfl, hN⟩ := vIn_nat t
        obtain ⟨J, rfl, hJ⟩ := vIn_nat vk
        rw [nI_clamp (by omega), nI_clamp (by omega), nI_clamp (by omega), nI_clamp (by omega)] at hK
        exact q_year_k h0 ok hV hS hN hJ J 0 0 σ (by omega) Df.rf hK
      · rw [aYear, vIn_f (n := 20) v (by omega), Bool.and_false, Bool.and_false] at k0
        exact k0
end Q3
