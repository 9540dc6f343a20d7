/-! the model: what changes its state -/
theorem nar_b1 : vp_nar .boolean 1 = 1 := rfl
theorem bv_low (x : BitVec 32) (k : Nat) (hk : k + 8 ≤ 32) : ((x.sshiftRight k).signExtend 8).signExtend 32 &&& 255#32 = BitVec.ofNat 32 (x.toNat / 2 ^ k % 256) := by
  apply BitVec.eq_of_getLsbD_eq
  intro i hi
  have e255 : (255#32).getLsbD i = decide (i < 8) := by
    have : ∀ j : Fin 32, (255#32).getLsbD j.val = decide (j.val < 8) := by decide
    exact this ⟨i, hi⟩
  rw [BitVec.getLsbD_and, e255, BitVec.getLsbD_ofNat, show (256 : Nat) = 2 ^ 8 from rfl, Nat.testBit_mod_two_pow, Nat.testBit_div_two_pow]
  by_cases h8 : i < 8
  · rw [BitVec.getLsbD_signExtend, BitVec.getLsbD_signExtend, BitVec.getLsbD_sshiftRight]
    simp only [h8, hi, decide_true, Bool.true_and, Bool.and_true, if_true]
    rw [if_pos (by omega), ← BitVec.testBit_toNat, Nat.add_comm]
    simp
    omega
  · simp [h8]
theorem byt_m (x c : Int32) (k : Nat) (hc : c &&& 31 = Int32.ofNat k) (hk : k + 8 ≤ 32) : (vp_nar .byte ((Int32.toInt8 (x >>> (c &&& 31))).toInt32)) &&& 255 = nI (byt x k) := by
  have e1 : x >>> (c &&& 31) = ⟨⟨x.toBitVec.sshiftRight k⟩⟩ := by
    apply Int32.toBitVec_inj.1
    rw [hc]
    show x.toBitVec.sshiftRight' ((Int32.ofNat k).toBitVec.smod 32) = _
    have : ((Int32.ofNat k).toBitVec.smod 32).toNat = k := by
      have : ∀ j : Fin 32, ((Int32.ofNat j.val).toBitVec.smod 32).toNat = j.val := by decide
      exact this ⟨k, by omega⟩
    rw [BitVec.sshiftRight', this]
    rfl
  rw [e1, show ∀ y, vp_nar .byte y = y.toInt8.toInt32 from fun _ => rfl, Int8.toInt8_toInt32]
  apply Int32.toBitVec_inj.1
  exact bv_low x.toBitVec k hk

section MA
variable {Γ : GE} {l : Launch} {σ τ : SS} {K : Option Value → SS → Prop} {v : Nat} {T T' : List Nat} {f : Int32} {P : PV} {L L' M : LV} {H H' : List LV} {O O' : Nat → Option LV} {D D' : List (Nat × Nat × Nat)} {W : Nat} {S F : List Nat}
theorem MSv.up (h : MSv σ v T f P L H O D) (d : DM S F σ τ) (hS : offM S) (h18 : 18 ∉ F) (h17 : 17 ∉ F) (a : MR τ 321 L') (b : MT τ T') (c : MH τ H') (e : MO τ O') (g : MD τ D') : MSv τ v T' f P L' H' O' D' :=
  ⟨h.1.dm d hS h18, a, b, c, e, g, (d.2.1 17 h17).trans h.2.2.2.2.2.2.1, h.2.2.2.2.2.2.2.dm d⟩
theorem m_keep51 (h : MSv σ v T f P L H O D) (hl : H.length ≤ 29) (hr : MR σ 322 M) (hK : ∀ τ, DM [321, 325] [59] σ τ → MR τ 321 M → MH τ (L :: H) → K none τ) : wX10_keeps_51 Γ l 0 σ K := by
  have hh := h.2.2.2.1
  have key : ∀ n k τ, n + k = 106 → DM [325] [] σ τ → (∀ j, j < k → τ.1 325 (106 * H.length + j) = nI (L j)) → (∀ i, i < 106 * H.length → τ.1 325 i = σ.1 325 i) → wX10_keeps_51 Γ l (nI k) τ K := by
    intro n
    induction n with
    | zero =>
      intro k τ h1 d a b
      have : k = 106 := by omega
      subst this
      refine tX10_keeps_51 ⟨fun _ s1 e1 => ?_, fun q => absurd (by decide) q⟩
      have e59 : τ.1 284 59 = nI H.length := (d.2.1 59 (by simp)).trans hh.2.1
      rw [e59, nI_1] at e1
      have d1 : DM [321, 325] [59] σ s1 := by
        rw [e1]
        exact (d.mo (by simp) (by simp)).wF (by simp)
      have r1 : MR s1 322 M := hr.dm d1 (by simp) (by omega)
      refine m_keepsRow r1 (fun τ2 d2 r2 => rv ?_)
      refine hK τ2 (d1.tr d2 (by simp) (by simp)) r2 ⟨by rw [List.length_cons]; omega, ?_, fun j hj k hk => ?_⟩
      · rw [d2.2.1 59 (by simp), e1, sI_at, if_pos ⟨rfl, rfl⟩, List.length_cons]
      · rw [List.length_cons] at hj
        rw [d2.r 325 (by simp) (by omega), e1, sI_row, sA_off2 _ _ (by omega)]
        simp only [List.length_cons]
        match j, hj with
        | 0, _ =>
          rw [show H.length + 1 - 1 - 0 = H.length by omega]
          exact a k hk
        | j + 1, hj =>
          rw [show H.length + 1 - 1 - (j + 1) = H.length - 1 - j by omega, b _ (by omega)]
          exact hh.2.2 j (by omega) k hk
    | succ n ih =>
      intro k τ h1 d a b
      have e59 : τ.1 284 59 = nI H.length := (d.2.1 59 (by simp)).trans hh.2.1
      refine tX10_keeps_51 ⟨fun q => absurd q (by simp (disch := omega) only [nL, nI_add, pk_mul, pk_sub, nI_clamp, nI_leI, nI_ltI, nI_eq]; omega), fun _ => ?_⟩
      rw [e59, show (106 : Int32) * nI H.length + nI k = nI (106 * H.length + k) by simp (disch := omega) only [nL, nI_add, pk_mul, pk_sub, nI_clamp, nI_leI, nI_ltI, nI_eq], nI_clamp (n := 106 * H.length + k) (by omega), nI_clamp (n := k) (by omega), d.r 321 (by simp) (by omega), h.2.1 k (by omega), nI_1]
      refine ⟨vp_in_nI (by omega) (by omega), vp_in_nI (by omega) (by omega), fun s4 e4 => ?_⟩
      rw [e4]
      refine ih (k + 1) _ (by omega) (d.wI (by simp) (by omega)) (fun j hj => ?_) (fun i hi => ?_)
      · rw [sI_at]
        by_cases e : j = k
        · rw [if_pos ⟨rfl, by omega⟩, e]
        · rw [if_neg (fun z => e (by omega))]
          exact a j (by omega)
      · rw [sI_at, if_neg (fun z => by omega)]
        exact b i hi
  exact key 106 0 σ rfl DM.rf (fun j hj => absurd hj (by omega)) (fun _ _ => rfl)
theorem m_keeps (h : MSv σ v T f P L H O D) (hr : MR σ 322 M) (hK : ∀ τ, Cm σ τ → MSv τ v T f P M (kp L H) O D → K none τ) : C2 Γ l mX10_keeps [.ref 284] σ K := by
  have hh := h.2.2.2.1
  have off5 : offM [321, 325] := fun b hb => by
    simp at hb
    omega
  have fin : ∀ {H' : List LV} {τ υ : SS}, MSv τ v T f P L H' O D → DM [321, 325] [59] τ υ → MR υ 321 M → MH υ (L :: H') → MSv υ v T f P M (L :: H') O D := fun {H' τ υ} ht d a c =>
    ht.up d off5 (by simp) (by simp) a (ht.2.2.1.dm d (by simp) (by simp)) c (ht.2.2.2.2.1.dm d (by simp) (by simp)) (ht.2.2.2.2.2.1.dm d (by simp) (by simp) (by simp))
  have h30 : (σ.1 284 59 = 30) ↔ H.length = 30 := by
    rw [hh.2.1, show (30 : Int32) = nI 30 from rfl, nI_eq (by have := hh.1; omega) (by omega)]
  refine tX10_keeps ?_
  rw [h30]
  refine ⟨fun q => m_keep51 h (by have := hh.1; omega) hr (fun τ d a c => ?_), fun q => ?_⟩
  · refine hK τ (d.cm (fun b hb => by simp at hb; omega)) ?_
    rw [kp, List.take_of_length_le (by rw [List.length_cons]; have := hh.1; omega)]
    exact fin h d a c
  · have key : ∀ n k τ, n + k = 3074 → DM [325] [] σ τ → (∀ i, i < 3180 → τ.1 325 i = if i < k then σ.1 325 (i + 106) else σ.1 325 i) → wX10_keeps_11 Γ l (nI k) τ K := by
      intro n
      induction n with
      | zero =>
        intro k τ h1 d a
        have : k = 3074 := by omega
        subst this
        refine tX10_keeps_11 ⟨fun _ s1 e1 => ?_, fun q => absurd (by decide) q⟩
        rw [(d.2.1 59 (by simp)).trans hh.2.1, q, show nI 30 - 1 = nI 29 from rfl] at e1
        have d1 : DM [325] [59] σ s1 := by
          rw [e1]
          exact (d.mo (by simp) (by simp)).wF (by simp)
        have l29 : (H.take 29).length = 29 := by
          rw [List.length_take]
          omega
        have hm : MH s1 (H.take 29) := by
          refine ⟨by omega, by rw [e1, sI_at, if_pos ⟨rfl, rfl⟩, l29], fun j hj k hk => ?_⟩
          rw [l29] at hj ⊢
          rw [e1, sI_row, sA_off2 _ _ (by omega), a _ (by omega), if_pos (by omega), List.getElem_take, ← hh.2.2 j (by omega) k hk, q, show 106 * (29 - 1 - j) + k + 106 = 106 * (30 - 1 - j) + k by omega]
        have o1 : offM [325] := fun b hb => by
          simp at hb
          omega
        have ht : MSv s1 v T f P L (H.take 29) O D := h.up d1 o1 (by simp) (by simp) (h.2.1.dm d1 (by simp) (by omega)) (h.2.2.1.dm d1 (by simp) (by simp)) hm (h.2.2.2.2.1.dm d1 (by simp) (by simp)) (h.2.2.2.2.2.1.dm d1 (by simp) (by simp) (by simp))
        refine m_keep51 ht (by omega) (hr.dm d1 (by simp) (by omega)) (fun τ2 d2 a2 c2 => ?_)
        refine hK τ2 ((d1.cm (fun b hb => by simp at hb; omega)).tr (d2.cm (fun b hb => by simp at hb; omega))) ?_
        rw [kp, List.take_succ_cons]
        exact fin ht d2 a2 c2
      | succ n ih =>
        intro k τ h1 d a
        refine tX10_keeps_11 ⟨fun q => absurd q (by simp (disch := omega) only [nL, nI_add, pk_mul, pk_sub, nI_clamp, nI_leI, nI_ltI, nI_eq]; omega), fun _ => ?_⟩
        rw [show nI k + 106 = nI (k + 106) from nI_add k 106, nI_clamp (n := k) (by omega), nI_clamp (n := k + 106) (by omega), nI_1]
        refine ⟨vp_in_nI (by omega) (by omega), vp_in_nI (by omega) (by omega), fun s2 e2 => ?_⟩
        rw [e2]
        refine ih (k + 1) _ (by omega) (d.wI (by simp) (by omega)) (fun i hi => ?_)
        rw [sI_at]
        by_cases e : i = k
        · rw [if_pos ⟨rfl, e⟩, if_pos (by omega), a _ (by omega), if_neg (by omega), e]
        · rw [if_neg (fun z => e z.2), a i hi]
          by_cases e2 : i < k
          · rw [if_pos e2, if_pos (by omega)]
          · rw [if_neg e2, if_neg (by omega)]
    exact key 3074 0 σ rfl DM.rf (fun i hi => by rw [if_neg (by omega)])
end MA
