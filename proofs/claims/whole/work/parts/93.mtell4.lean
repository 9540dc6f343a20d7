/-! the model: windows and talks are told -/
def wn3 (Γ : GE) (l : Launch) (K : Option Value → SS → Prop) (v1_ r3_ : Int32) (s9_ : SS) : Prop := (C2 Γ l mX10_bounded [.ref 284, .int 0, .int 99] s9_ (Ri fun r11_ s10_ => (vp_in v1_ 8 ∧ (∀ s12_ : SS, s12_ = sI s10_ 302 (Int32.toNatClampNeg v1_) r11_ → (vp_in (s12_.1 284 19) 2 ∧ (C2 Γ l mX10_ends [.ref 284, .int r3_, .int (s12_.1 299 (Int32.toNatClampNeg (s12_.1 284 19)))] s12_ (Rv fun s13_ => ((¬ (s13_.1 284 13) = 0 → (K none s13_)) ∧ ((s13_.1 284 13) = 0 → (vp_in (s13_.1 284 19) 2 ∧ (vp_in (s13_.1 284 19) 2 ∧ (∀ s15_ : SS, s15_ = sI s13_ 299 (Int32.toNatClampNeg (s13_.1 284 19)) ((s13_.1 299 (Int32.toNatClampNeg (s13_.1 284 19))) + 1) → (K none s15_)))))))))))))
def wn2 (Γ : GE) (l : Launch) (K : Option Value → SS → Prop) (v1_ r3_ : Int32) (s6_ : SS) : Prop := (C2 Γ l mX10_bounded [.ref 284, .int 0, .int 7] s6_ (Ri fun r8_ s7_ => (vp_in v1_ 8 ∧ (∀ s9_ : SS, s9_ = sI s7_ 301 (Int32.toNatClampNeg v1_) r8_ → ((¬ (s9_.1 284 13) = 0 → wn3 Γ l K v1_ r3_ s9_) ∧ ((s9_.1 284 13) = 0 → (vp_in v1_ 8 ∧ (vp_in v1_ 8 ∧ (((s9_.1 300 (Int32.toNatClampNeg v1_)) ≤ (s9_.1 301 (Int32.toNatClampNeg v1_)) → wn3 Γ l K v1_ r3_ s9_) ∧ (¬ ((s9_.1 300 (Int32.toNatClampNeg v1_)) ≤ (s9_.1 301 (Int32.toNatClampNeg v1_))) → (C2 Γ l mX10_wrong [.ref 284, .int 5, .int (s6_.1 284 11)] s9_ (Rv fun s22_ => wn3 Γ l K v1_ r3_ s22_))))))))))))
def wn1 (Γ : GE) (l : Launch) (K : Option Value → SS → Prop) (v1_ r3_ : Int32) (s2_ : SS) : Prop := (C2 Γ l mX10_bounded [.ref 284, .int 0, .int 7] s2_ (Ri fun r5_ s4_ => (vp_in v1_ 8 ∧ (∀ s6_ : SS, s6_ = sI s4_ 300 (Int32.toNatClampNeg v1_) r5_ → wn2 Γ l K v1_ r3_ s6_))))
section M24
variable {Γ : GE} {l : Launch} {σ τ : SS} {K : Option Value → SS → Prop} {T : List Nat} {sd a : Nat} {late : LF} {P : PV} {N : Nms} {ρ : Type} {R : Rs ρ} {k : Kt3 ρ} {e : Nat × Nat}
theorem MQr.wn {x y z : Nat} (h : MQr σ sd T a late P N) (h0 : σ.1 300 (4 * sd + pnw P) = nI x) (h1' : σ.1 301 (4 * sd + pnw P) = nI y) (h2' : σ.1 302 (4 * sd + pnw P) = nI z) : MQr (sI σ 299 sd (nI (pnw P + 1))) sd T a late (winP P x y z) N := by
  obtain ⟨h1, h2, h3, h4, ⟨b1, b2, b3, b4, b5⟩, h6, h7⟩ := h
  have ro : ∀ c, c ≠ 299 → (sI σ 299 sd (nI (pnw P + 1))).1 c = σ.1 c := fun c hc => by rw [sI_row, sA_off2 _ _ hc]
  refine ⟨h1, h2.cg (fun c c1 c2 => ro c (by omega)) rfl (fun k hk => by rw [ro 284 (by omega)]), by rw [ro 284 (by omega)]; exact h3, by rw [ro 284 (by omega)]; exact h4, ⟨fun i hi => ?_, fun z => by rw [ro 296 (by omega)]; exact b2 z, fun z => by rw [ro 298 (by omega)]; exact b3 z, fun w hw => ?_, by rw [ro 303 (by omega)]; exact b5⟩, h6.cg (by rw [ro 284 (by omega)]) (ro 293 (by omega)) rfl, h7.cg (Nat.le_refl _) (by rw [ro 284 (by omega)]) (by rw [ro 284 (by omega)]) (fun c c1 c2 => ro c (by omega)) rfl⟩
  · by_cases e : i = 3
    · subst e
      show (sI σ 299 sd (nI (pnw P + 1))).1 299 sd = nI (pnw P + 1)
      rw [sI_at, if_pos ⟨rfl, rfl⟩]
    · have hn : nR i ≠ 299 := (by decide : ∀ i, i < 9 → i ≠ 3 → nR i ≠ 299) i hi e
      rw [ro _ hn, wP_o _ _ _ _ _ _ e (by omega) (by omega) (by omega)]
      exact b1 i hi
  · rw [ro 300 (by omega), ro 301 (by omega), ro 302 (by omega), wP_9, wP_10, wP_11]
    rw [wP_3] at hw
    by_cases e : w = pnw P
    · rw [if_pos e, if_pos e, if_pos e, e]
      exact ⟨h0, h1', h2'⟩
    · rw [if_neg e, if_neg e, if_neg e]
      exact b4 w (by omega)
theorem m_tellWindow (h : MQr σ sd T a late P N) (hi : PI late P N) (hs4 : pnw P < 4) {k1 : Kt3 ρ}
    (hR : pTake T 1 a (fun a2 => pTake T 2 a2 (fun a3 => pTake T 2 a3 (fun a4 => pTake T 2 a4 (fun a5 => pTake T 4 a5 (fun a6 =>
      k1 a6 (blm (blm (blm (blm late (isNm N (tkN T a)) 3 (tkP T a)) (decide (7 < tkV T a2)) 5 (tkP T a2)) (decide (tkV T a3 < tkV T a2 ∨ 7 < tkV T a3)) 5 (tkP T a3)) (decide (99 < tkV T a4)) 5 (tkP T a4))
        (winP P (tkV T a2) (tkV T a3) (tkV T a4)) (N ++ [(tkN T a, pnw P + 1)])))))) = R)
    (herr : ∀ τ e, FQ sd σ τ → DEr τ e → R = .error e → K none τ)
    (hok : ∀ τ a' late' P' N', FQ sd σ τ → MQr τ sd T a' late' P' N' → PI late' P' N' → a < a' → k1 a' late' P' N' = R → K none τ) : C2 Γ l mX10_tellWindow [.ref 284] σ K := by
  have hs := h.1
  have n4 := hi.2.2.1
  have hN := hi.len
  have h4 := h.2.1.1.2.2.2.1
  have e99 : σ.1 299 sd = nI (pnw P) := h.n (j := 3) (by omega)
  refine tX10_tellWindow ⟨h.vs.1, fun v1 e1 => ?_⟩
  rw [h.2.2.1, nI_clamp (n := sd) (by omega), e99] at e1
  have e1' : v1 = nI (4 * sd + pnw P) := by rw [e1]; simp (disch := omega) only [nL, nI_add, pk_mul, pk_sub, nI_clamp, nI_leI, nI_ltI, nI_eq]
  subst e1'
  clear e1
  have vv : vp_in (nI (4 * sd + pnw P)) 8 := vp_in_nI (by omega) (by omega)
  have cv : Int32.toNatClampNeg (nI (4 * sd + pnw P)) = 4 * sd + pnw P := nI_clamp (by omega)
  have w84 : ∀ (s : SS) (b j : Nat) (v : Int32), b = 300 ∨ b = 301 ∨ b = 302 → (sI s b j v).1 284 = s.1 284 := fun s b j v hb => by rw [sI_row, sA_off2 _ _ (by omega)]
  have fw : ∀ (s : SS) (b : Nat) (v : Int32), b = 300 ∨ b = 301 ∨ b = 302 → FQ sd σ s → FQ sd σ (sI s b (4 * sd + pnw P) v) := fun s b v hb d => by
    rcases hb with q | q | q <;> subst q <;> exact d.wr hs (by omega) (by omega) (by show 4 * sd ≤ _; omega) (by show _ < 4 * sd + 4; omega)
  have dead3 : ∀ s e, FQ sd σ s → s.1 284 19 = nI sd → DEr s e → R = .error e → wn3 Γ l K (nI (4 * sd + pnw P)) (nI a) s := fun s e d g f z => by
    unfold wn3
    refine m_boundedD f (ri ⟨vv, fun s12 e12 => ?_⟩)
    rw [cv] at e12
    have r12 : s12.1 284 = s.1 284 := by rw [e12]; exact w84 _ _ _ _ (by omega)
    have f12 : DEr s12 e := f.cg (by rw [r12]) (by rw [r12])
    rw [r12, g]
    exact ⟨vp_in_nI (by omega) (by omega), m_endsD f12 (rv ⟨fun _ => herr s12 e (by rw [e12]; exact fw _ _ _ (by omega) d) f12 z, fun y => absurd y f12.n0⟩)⟩
  have dead2 : ∀ s e, FQ sd σ s → s.1 284 19 = nI sd → DEr s e → R = .error e → wn2 Γ l K (nI (4 * sd + pnw P)) (nI a) s := fun s e d g f z => by
    unfold wn2
    refine m_boundedD f (ri ⟨vv, fun s9 e9 => ?_⟩)
    rw [cv] at e9
    have r9 : s9.1 284 = s.1 284 := by rw [e9]; exact w84 _ _ _ _ (by omega)
    have f9 : DEr s9 e := f.cg (by rw [r9]) (by rw [r9])
    exact ⟨fun _ => dead3 s9 e (by rw [e9]; exact fw _ _ _ (by omega) d) (by rw [r9]; exact g) f9 z, fun y => absurd y f9.n0⟩
  have dead1 : ∀ s e, FQ sd σ s → s.1 284 19 = nI sd → DEr s e → R = .error e → wn1 Γ l K (nI (4 * sd + pnw P)) (nI a) s := fun s e d g f z => by
    unfold wn1
    refine m_boundedD f (ri ⟨vv, fun s6 e6 => ?_⟩)
    rw [cv] at e6
    have r6 : s6.1 284 = s.1 284 := by rw [e6]; exact w84 _ _ _ _ (by omega)
    exact dead2 s6 e (by rw [e6]; exact fw _ _ _ (by omega) d) (by rw [r6]; exact g) (f.cg (by rw [r6]) (by rw [r6])) z
  have f19 : ∀ s t, F4 s t → s.1 284 19 = nI sd → t.1 284 19 = nI sd := fun s t d g => by rw [d.2.1 19 (by omega) (by omega) (by omega) (by omega) (by omega)]; exact g
  refine m_named h hi hR (fun τ e d f z => ri (dead1 τ e d.fq (f19 _ _ d h.2.2.1) f z)) (fun τ d h1 hk1 z => ri ?_)
  obtain ⟨ok, l1, l8⟩ := (tk_kind T a).1 hk1
  have g1 : wn1 Γ l K (nI (4 * sd + pnw P)) (nI a) τ := by
    unfold wn1
    refine m_bounded (hi := 7) rfl (by omega) h1.2.1 z (fun υ e r d2 f y => ri ⟨vv, fun s6 e6 => ?_⟩) (fun s4 d4 hl4 hv4 ha4 z4 => ri ⟨vv, fun s6 e6 => ?_⟩)
    · rw [cv] at e6
      have r6 : s6.1 284 = υ.1 284 := by rw [e6]; exact w84 _ _ _ _ (by omega)
      exact dead2 s6 e (by rw [e6]; exact fw _ _ _ (by omega) (d.fq.tr d2.fq)) (by rw [r6]; exact f19 _ _ d2 h1.2.2.1) (f.cg (by rw [r6]) (by rw [r6])) y
    rw [cv] at e6
    have h2 := h1.f4 d4 hl4 (by omega) blm_n
    have hlt6 := hl4.2.lt hl4.1.2.2.1
    have h6 := h2.free (b := 300) (j := 4 * sd + pnw P) (v := nI (tkV T (a + 1))) (by omega)
    rw [← e6] at h6
    have fq6 : FQ sd σ s6 := by
      rw [e6]
      exact fw _ _ _ (by omega) (d.fq.tr d4.fq)
    have c6 : s6.1 300 (4 * sd + pnw P) = nI (tkV T (a + 1)) := by rw [e6, sI_at, if_pos ⟨rfl, rfl⟩]
    unfold wn2
    refine m_bounded (hi := 7) rfl (by omega) h6.2.1 z4 (fun υ e r d2 f y => ri ⟨vv, fun s9 e9 => ?_⟩) (fun s7 d7 hl7 hv7 ha7 z7 => ri ⟨vv, fun s9 e9 => ?_⟩)
    · rw [cv] at e9
      have r9 : s9.1 284 = υ.1 284 := by rw [e9]; exact w84 _ _ _ _ (by omega)
      have f9 : DEr s9 e := f.cg (by rw [r9]) (by rw [r9])
      exact ⟨fun _ => dead3 s9 e (by rw [e9]; exact fw _ _ _ (by omega) (fq6.tr d2.fq)) (by rw [r9]; exact f19 _ _ d2 h6.2.2.1) f9 y, fun t => absurd t f9.n0⟩
    rw [cv] at e9
    have h7 := h6.f4 d7 hl7 (by omega) blm_n
    have h9 := h7.free (b := 301) (j := 4 * sd + pnw P) (v := nI (tkV T (a + 1 + 1))) (by omega)
    rw [← e9] at h9
    have fq9 : FQ sd σ s9 := by
      rw [e9]
      exact fw _ _ _ (by omega) (fq6.tr d7.fq)
    have c9 : s9.1 301 (4 * sd + pnw P) = nI (tkV T (a + 1 + 1)) := by rw [e9, sI_at, if_pos ⟨rfl, rfl⟩]
    have c90 : s9.1 300 (4 * sd + pnw P) = nI (tkV T (a + 1)) := by rw [e9, sI_row, sA_off2 _ _ (by omega), d7.1 300 (by omega)]; exact c6
    -- what is left
    have fin : ∀ (s : SS) (late' : LF), FQ sd σ s → MQr s sd T (a + 1 + 1 + 1) late' P N → s.1 300 (4 * sd + pnw P) = nI (tkV T (a + 1)) → s.1 301 (4 * sd + pnw P) = nI (tkV T (a + 1 + 1)) → blm (blm (blm late (isNm N (tkN T a)) 3 (tkP T a)) (decide (7 < tkV T (a + 1))) 5 (tkP T (a + 1))) (decide (tkV T (a + 1 + 1) < tkV T (a + 1) ∨ 7 < tkV T (a + 1 + 1))) 5 (tkP T (a + 1 + 1)) = late' → wn3 Γ l K (nI (4 * sd + pnw P)) (nI a) s := fun s late' fq hq q0 q1 hl' => by
      have zz := z7
      simp only [hl'] at zz
      unfold wn3
      refine m_bounded (hi := 99) rfl (by omega) hq.2.1 zz (fun υ e r d2 f y => ri ⟨vv, fun s12 e12 => ?_⟩) (fun s10 d10 hl10 hv10 ha10 z10 => ri ⟨vv, fun s12 e12 => ?_⟩)
      · rw [cv] at e12
        have r12 : s12.1 284 = υ.1 284 := by rw [e12]; exact w84 _ _ _ _ (by omega)
        have f12 : DEr s12 e := f.cg (by rw [r12]) (by rw [r12])
        rw [r12, f19 _ _ d2 hq.2.2.1]
        exact ⟨vp_in_nI (by omega) (by omega), m_endsD f12 (rv ⟨fun _ => herr s12 e (by rw [e12]; exact fw _ _ _ (by omega) (fq.tr d2.fq)) f12 y, fun t => absurd t f12.n0⟩)⟩
      rw [cv] at e12
      have h10 := hq.f4 d10 hl10 (by omega) blm_n
      have h12 := h10.free (b := 302) (j := 4 * sd + pnw P) (v := nI (tkV T (a + 1 + 1 + 1))) (by omega)
      rw [← e12] at h12
      have fq12 : FQ sd σ s12 := by
        rw [e12]
        exact fw _ _ _ (by omega) (fq.tr d10.fq)
      have q99 : s12.1 299 sd = nI (pnw P) := h12.n (j := 3) (by omega)
      rw [h12.2.2.1, nI_clamp (n := sd) (by omega), q99]
      refine ⟨vp_in_nI (by omega) (by omega), m_ends (t := pnw P + 1) (j := a) ?_ h12 (by omega) (by omega) hk1 z10 (fun ξ e dx f t => rv ⟨fun _ => herr ξ e (fq12.tr dx.fq) f t, fun y => absurd y f.n0⟩) (fun s13 d13 r13 h13 z13 => rv ⟨fun y => absurd h13.2.1.1.2.2.2.2.2 y, fun _ => ?_⟩)⟩
      · unfold tgI
        rw [if_neg (by omega)]
        rfl
      have p99 : s13.1 299 sd = nI (pnw P) := h13.n (j := 3) (by omega)
      rw [h13.2.2.1, nI_clamp (n := sd) (by omega), p99, nI_1]
      refine ⟨vp_in_nI (by omega) (by omega), vp_in_nI (by omega) (by omega), fun s15 e15 => ?_⟩
      have k0 : s13.1 300 (4 * sd + pnw P) = nI (tkV T (a + 1)) := by rw [r13 300 (by omega) (by omega), e12, sI_row, sA_off2 _ _ (by omega), d10.1 300 (by omega)]; exact q0
      have k1' : s13.1 301 (4 * sd + pnw P) = nI (tkV T (a + 1 + 1)) := by rw [r13 301 (by omega) (by omega), e12, sI_row, sA_off2 _ _ (by omega), d10.1 301 (by omega)]; exact q1
      have k2' : s13.1 302 (4 * sd + pnw P) = nI (tkV T (a + 1 + 1 + 1)) := by rw [r13 302 (by omega) (by omega), e12, sI_at, if_pos ⟨rfl, rfl⟩]
      have h15 := h13.wn k0 k1' k2'
      rw [← e15] at h15
      refine hok s15 _ _ _ _ (by rw [e15]; exact MQr.fqn (j := 3) hs (by omega) (fq12.tr d13)) h15 (PI_win hi (fun y => ?_) (by omega) ⟨ok, l8⟩) (by omega) z13
      rw [← hl'] at y
      obtain ⟨z1, z2⟩ := blm_none y
      obtain ⟨z3, z4⟩ := blm_none z1
      obtain ⟨z5, z6⟩ := blm_none z3
      simp only [decide_eq_false_iff_not] at z2 z4 z6
      exact ⟨(blm_none z5).1, by omega, by omega, by omega⟩
    refine ⟨fun y => absurd h9.2.1.1.2.2.2.2.2 y, fun _ => ⟨vv, vv, ?_⟩⟩
    rw [cv, c90, c9, nI_leI (by omega) (by omega)]
    refine ⟨fun y => fin s9 _ fq9 h9 c90 c9 ?_, fun y => ?_⟩
    · rw [show decide (tkV T (a + 1 + 1) < tkV T (a + 1) ∨ 7 < tkV T (a + 1 + 1)) = decide (7 < tkV T (a + 1 + 1)) from decide_eq_decide.mpr (by omega)]
    · rw [h6.2.1.1.2.2.2.2.1]
      refine m_wrongQ (n := 5) (j := a + 1 + 1) h9 (by omega) (by omega) (blm_wr hlt6) (fun ξ dx hx => rv (fin ξ _ (fq9.tr dx.fq) hx (by rw [dx.1 300 (by omega)]; exact c90) (by rw [dx.1 301 (by omega)]; exact c9) ?_))
      rw [decide_eq_true (show tkV T (a + 1 + 1) < tkV T (a + 1) ∨ 7 < tkV T (a + 1 + 1) by omega)]
      generalize blm (blm late (isNm N (tkN T a)) 3 (tkP T a)) (decide (7 < tkV T (a + 1))) 5 (tkP T (a + 1)) = L
      cases L with
      | none => cases decide (7 < tkV T (a + 1 + 1)) <;> rfl
      | some x => rw [blm_some, blm_some, blm_some]
  exact g1
theorem m_known {k1 : Nat → Rs ρ} (h : MQr σ sd T a late P N) (hi : PI late P N) (hR : pTake T 1 a k1 = R)
    (herr : ∀ τ e, F4 σ τ → DEr τ e → R = .error e → K (some (.int (-1))) τ)
    (hok : ∀ τ, F4 σ τ → MQr τ sd T (a + 1) (blm late (winN N (tkN T a)).isNone 4 (tkP T a)) P N → tkK T a = 1 → k1 (a + 1) = R → K (some (.int (oI (winN N (tkN T a))))) τ) : C2 Γ l mX10_knownWindow [.ref 284] σ K := by
  have hlt := h.2.1.2.lt h.2.1.1.2.2.1
  have h4 := h.2.1.1.2.2.2.1
  have hN := hi.len
  have n4 := hi.2.2.1
  have w4 := hi.2.2.2.1
  have w7 := hi.2.2.2.2.2.2.1
  have i8 := hi.2.2.2.2.2.2.2.1
  have i9 := hi.2.2.2.2.2.2.2.2.1
  refine tX10_knownWindow (m_must (c := 1) rfl (by omega) (by omega) h.2.1 hR (fun τ e d f z => rv ⟨fun y => absurd y f.nle, fun _ => herr τ e d f z⟩) (fun τ d hl hk1 ha z => rv ⟨fun _ => ?_, fun y => absurd (by rw [hl.1.2.2.2.2.2]; decide) y⟩))
  rw [h.2.1.1.2.2.2.2.1]
  obtain ⟨ok, l1, l8⟩ := (tk_kind T a).1 hk1
  have h1 := h.f4 d hl (by omega) (fun z => z)
  have loop : ∀ m i, m + i = N.length → winN (N.drop i) (tkN T a) = winN N (tkN T a) → wX10_knownWindow_21 Γ l (nI a) (nI i) τ K := by
    intro m
    induction m with
    | zero =>
      intro i e1 e2
      rw [List.drop_of_length_le (by omega), winN] at e2
      refine tX10_knownWindow_21 ⟨fun _ => m_wrongQ (n := 4) h1 (by omega) (by omega) (fun m r y => Or.inl (hlt m r y)) (fun ξ dx hx => rv ?_), fun q => absurd ?_ q⟩
      · have := hok ξ (d.tr dx) (by rw [← e2]; exact hx) hk1 z
        rw [← e2] at this
        exact this
      · rw [h1.2.2.2.2.2.1.1, nI_leI (by omega) (by omega)]
        omega
    | succ m ih =>
      intro i e1 e2
      have hl : i < N.length := by omega
      obtain ⟨n1, n2⟩ := h1.2.2.2.2.2.1.2 i hl
      obtain ⟨o1, o2⟩ := i9 N[i] (List.getElem_mem hl)
      have tl := tg_le N 0 i8 (List.getElem_mem hl)
      rw [List.drop_eq_getElem_cons hl, winN] at e2
      refine tX10_knownWindow_21 ⟨fun q => absurd q ?_, fun _ => ⟨vp_in_nI (by omega) (by omega), vp_in_nI (by omega) (by omega), ?_⟩⟩
      · rw [h1.2.2.2.2.2.1.1, nI_leI (by omega) (by omega)]
        omega
      · rw [nI_clamp (n := i) (by omega), nI_clamp (n := a) (by omega), n1, n2, h1.nm (i := a) (by omega) hk1, lgc_0, nmM_e o1 ok o2 l8, nI_1]
        refine ⟨fun q => ih (i + 1) (by omega) ?_, fun q => ⟨vp_in_nI (by omega) (by omega), fun q2 => ih (i + 1) (by omega) ?_, fun q2 => ⟨vp_in_nI (by omega) (by omega), ?_⟩⟩⟩
        · rw [if_neg (fun y => q y.1)] at e2
          exact e2
        · have : N[i].2 = 0 := by
            refine Decidable.byContradiction (fun y => ?_)
            unfold tgI at q2
            rw [if_neg y] at q2
            exact absurd q2 (nI_pos (by omega))
          rw [if_neg (fun y => y.2 this)] at e2
          exact e2
        · have ne : N[i].2 ≠ 0 := fun y => by
            unfold tgI at q2
            rw [if_pos y] at q2
            exact q2 (by decide)
          rw [if_pos ⟨q, ne⟩] at e2
          have := hok τ d (by rw [← e2]; show MQr τ sd T (a + 1) (blm late false 4 _) P N; rw [blm_f]; exact h1) hk1 z
          rw [← e2] at this
          unfold tgI
          rw [if_neg ne]
          exact this
  exact loop N.length 0 (by omega) rfl
theorem MQr.tk {i j : Nat} (hi : i < 4) (hj : j < 4) (h : MQr σ sd T a late P N) : MQr (sI (sI σ 303 (4 * sd + i) (nI (ptk P i ||| 2 ^ j))) 303 (4 * sd + j) (nI ((if j = i then ptk P i ||| 2 ^ j else ptk P j) ||| 2 ^ i))) sd T a late (tkk P i j) N := by
  obtain ⟨h1, h2, h3, h4, ⟨b1, b2, b3, b4, b5⟩, h6, h7⟩ := h
  generalize hτ : sI (sI σ 303 (4 * sd + i) (nI (ptk P i ||| 2 ^ j))) 303 (4 * sd + j) (nI ((if j = i then ptk P i ||| 2 ^ j else ptk P j) ||| 2 ^ i)) = τ
  have ro : ∀ c, c ≠ 303 → τ.1 c = σ.1 c := fun c hc => by rw [← hτ, sI_row, sA_off2 _ _ hc, sI_row, sA_off2 _ _ hc]
  have rj : τ.2 = σ.2 := by rw [← hτ]; rfl
  have e : ∀ a b, a ≠ 12 → (tkk P i j).1 a b = P.1 a b := fun a b ha => tkk_o P i j a b ha
  refine ⟨h1, h2.cg (fun c c1 c2 => ro c (by omega)) (by rw [rj]) (fun k hk => by rw [ro 284 (by omega)]), by rw [ro 284 (by omega)]; exact h3, by rw [ro 284 (by omega)]; exact h4, ⟨fun i hi => ?_, fun z => ?_, fun z s k hs hk => ?_, fun w hw => ?_, fun w hw => ?_⟩, h6.cg (by rw [ro 284 (by omega)]) (ro 293 (by omega)) (by rw [rj]), h7.cg (Nat.le_refl _) (by rw [ro 284 (by omega)]) (by rw [ro 284 (by omega)]) (fun c c1 c2 => ro c (by omega)) rfl⟩
  · have hn : nR i ≠ 303 := (by decide : ∀ i, i < 9 → nR i ≠ 303) i hi
    rw [ro _ hn, e _ _ (by omega)]
    exact b1 i hi
  · rw [ro 296 (by omega)]
    exact b2 z
  · rw [ro 298 (by omega)]
    have : pcut (tkk P i j) s k = pcut P s k := by
      unfold pcut
      rw [show psg (tkk P i j) s = psg P s from e 13 s (by omega)]
    rw [this]
    exact b3 z s k hs hk
  · rw [ro 300 (by omega), ro 301 (by omega), ro 302 (by omega), show pfr (tkk P i j) w = pfr P w from e 9 w (by omega), show pto (tkk P i j) w = pto P w from e 10 w (by omega), show psh (tkk P i j) w = psh P w from e 11 w (by omega)]
    exact b4 w hw
  · show _ = nI (if (12 : Nat) = 12 ∧ w = j then ((if j = i then ptk P i ||| 2 ^ j else ptk P j) ||| 2 ^ i) else if (12 : Nat) = 12 ∧ w = i then ptk P i ||| 2 ^ j else ptk P w)
    rw [← hτ, sI_at]
    by_cases e : w = j
    · rw [if_pos (c := 303 = 303 ∧ 4 * sd + w = 4 * sd + j) ⟨rfl, by omega⟩, if_pos (c := (12 : Nat) = 12 ∧ w = j) ⟨rfl, e⟩]
    · rw [if_neg (c := 303 = 303 ∧ 4 * sd + w = 4 * sd + j) (fun z => e (by omega)), if_neg (c := (12 : Nat) = 12 ∧ w = j) (fun z => e z.2), sI_at]
      by_cases e2 : w = i
      · rw [if_pos (c := 303 = 303 ∧ 4 * sd + w = 4 * sd + i) ⟨rfl, by omega⟩, if_pos (c := (12 : Nat) = 12 ∧ w = i) ⟨rfl, e2⟩]
      · rw [if_neg (c := 303 = 303 ∧ 4 * sd + w = 4 * sd + i) (fun z => e2 (by omega)), if_neg (c := (12 : Nat) = 12 ∧ w = i) (fun z => e2 z.2)]
        exact b5 w hw
theorem tkk_t (P : PV) (i j : Nat) : tkk (setP P 4 0 (pnt P + 1)) i j = talkP P (some i) (some j) := rfl
theorem m_tellTalk (h : MQr σ sd T a late P N) (hi : PI late P N) (hs6 : pnt P < 6) {k1 : Kt3 ρ}
    (hR : pTake T 1 a (fun a2 => pTake T 1 a2 (fun a3 => pTake T 4 a3 (fun a4 =>
      k1 a4 (blm (blm (blm late (winN N (tkN T a)).isNone 4 (tkP T a)) (winN N (tkN T a2)).isNone 4 (tkP T a2)) (tlk2 P (winN N (tkN T a)) (winN N (tkN T a2))) 3 (tkP T a2))
        (talkP P (winN N (tkN T a)) (winN N (tkN T a2))) N))) = R)
    (herr : ∀ τ e, FQ sd σ τ → DEr τ e → R = .error e → K none τ)
    (hok : ∀ τ a' late' P' N', FQ sd σ τ → MQr τ sd T a' late' P' N' → PI late' P' N' → a < a' → k1 a' late' P' N' = R → K none τ) : C2 Γ l mX10_tellTalk [.ref 284] σ K := by
  have hs := h.1
  have h4 := h.2.1.1.2.2.2.1
  have b1 : ∀ i, winN N (tkN T a) = some i → i < 4 := fun i z => (winN_lt hi z).2
  have b2 : ∀ i, winN N (tkN T (a + 1)) = some i → i < 4 := fun i z => (winN_lt hi z).2
  have dead : ∀ s e x1 x2 x3, FQ sd σ s → DEr s e → R = .error e → wX10_tellTalk_34 Γ l x1 x2 x3 s K := fun s e x1 x2 x3 d f z => tX10_tellTalk_34 (tX10_tellTalk_74 (m_mustD f (rv ⟨fun y => absurd y f.nle, fun _ => herr s e d f z⟩)))
  refine tX10_tellTalk (m_known h hi hR (fun τ e d f z => ri (tX10_knownWindow (m_mustD f (rv ⟨fun y => absurd y f.nle, fun _ => ri ⟨fun _ => dead τ e _ _ _ d.fq f z, fun y => absurd y f.n0⟩⟩)))) (fun s1 d1 h1 hk1 z1 => ri ?_))
  have hlt := h1.2.1.2.lt h1.2.1.1.2.2.1
  have hi1 : PI (blm late (winN N (tkN T a)).isNone 4 (tkP T a)) P N := ⟨hi.1, hi.2.1, hi.2.2.1, hi.2.2.2.1, hi.2.2.2.2.1, hi.2.2.2.2.2.1, hi.2.2.2.2.2.2.1, hi.2.2.2.2.2.2.2.1, hi.2.2.2.2.2.2.2.2.1, hi.2.2.2.2.2.2.2.2.2.1, fun y => hi.2.2.2.2.2.2.2.2.2.2 (blm_none y).1⟩
  refine m_known h1 hi1 z1 (fun τ e d f z => ri ⟨fun _ => dead τ e _ _ _ (d1.fq.tr d.fq) f z, fun y => absurd y f.n0⟩) (fun s3 d3 h3 hk3 z3 => ri ⟨fun y => absurd h3.2.1.1.2.2.2.2.2 y, fun _ => ?_⟩)
  have fq3 := d1.fq (sd := sd).tr d3.fq
  rw [h1.2.1.1.2.2.2.2.1]
  have a4 := h3.2.1.1.2.2.2.1
  -- the end, without a talk and with one
  have f74 : ∀ (s : SS) (late' : LF) (x4 : Int32), FQ sd σ s → MQr s sd T (a + 1 + 1) late' P N → blm (blm (blm late (winN N (tkN T a)).isNone 4 (tkP T a)) (winN N (tkN T (a + 1))).isNone 4 (tkP T (a + 1))) (tlk2 P (winN N (tkN T a)) (winN N (tkN T (a + 1)))) 3 (tkP T (a + 1)) = late' → (x4 = 0 ∧ talkP P (winN N (tkN T a)) (winN N (tkN T (a + 1))) = setP P 4 0 (pnt P + 1) ∨ x4 = 1 ∧ ∃ i j, winN N (tkN T a) = some i ∧ winN N (tkN T (a + 1)) = some j) → wX10_tellTalk_74 Γ l (oI (winN N (tkN T a))) (oI (winN N (tkN T (a + 1)))) x4 s K := fun s late' x4 fq hq hl' hx => by
    have zz := z3
    simp only [hl'] at zz
    refine tX10_tellTalk_74 (m_must (c := 4) rfl (by omega) (by omega) hq.2.1 zz (fun τ e d f z => rv ⟨fun y => absurd y f.nle, fun _ => herr τ e (fq.tr d.fq) f z⟩) (fun τ d hl _ ha z => rv ⟨fun _ => ?_, fun y => absurd (by rw [hl.1.2.2.2.2.2]; decide) y⟩))
    have h5 := hq.f4 d hl (by omega) (fun z => z)
    have e4 : τ.1 304 sd = nI (pnt P) := h5.n (j := 4) (by omega)
    rw [h5.2.2.1, nI_clamp (n := sd) (by omega), e4, nI_1]
    refine ⟨vp_in_nI (by omega) (by omega), vp_in_nI (by omega) (by omega), fun t3 e3 => ?_⟩
    have h6 := h5.num (j := 4) (v := pnt P + 1) (by omega)
    have en : nR 4 = 304 := rfl
    rw [en, ← e3] at h6
    have fq6 : FQ sd σ t3 := by
      rw [e3]
      exact MQr.fqn (j := 4) hs (by omega) (fq.tr d.fq)
    have fin : ∀ τ, FQ sd σ τ → MQr τ sd T (a + 1 + 1 + 1) late' (talkP P (winN N (tkN T a)) (winN N (tkN T (a + 1)))) N → K none τ := fun τ dd hh => by
      refine hok τ _ _ _ _ dd hh (PI_talk hi (fun y => ?_) (by omega) b1 b2) (by omega) z
      rw [← hl'] at y
      exact (blm_none (blm_none (blm_none y).1).1).1
    rcases hx with ⟨x0, hp⟩ | ⟨x0, i, j, o1, o2⟩
    · subst x0
      refine ⟨fun y => absurd rfl y, fun _ => fin t3 fq6 (by rw [hp]; exact h6)⟩
    · subst x0
      have hi4 := b1 i o1
      have hj4 := b2 j o2
      rw [o1, o2] at fin
      rw [o1, o2]
      show (¬ (1 : Int32) = 0 → vp_in (4 * t3.1 284 19 + nI i) 8 ∧ _) ∧ _
      refine ⟨fun _ => ?_, fun y => absurd y (by decide)⟩
      have ix : ∀ x, x < 4 → (4 : Int32) * nI sd + nI x = nI (4 * sd + x) := fun x hx => by simp (disch := omega) only [nL, nI_add, pk_mul, pk_sub, nI_clamp, nI_leI, nI_ltI, nI_eq]
      have t5 := h6.2.2.2.2.1.2.2.2.2
      have p12 : ∀ w, ptk (setP P 4 0 (pnt P + 1)) w = ptk P w := fun w => rfl
      have vx : ∀ x, x < 4 → vp_in (nI (4 * sd + x)) 8 := fun x hx => vp_in_nI (by omega) (by omega)
      show vp_in (4 * t3.1 284 19 + nI i) 8 ∧ (vp_in (4 * t3.1 284 19 + nI i) 8 ∧ (∀ s4_ : SS, s4_ = sI t3 303 (Int32.toNatClampNeg (4 * t3.1 284 19 + nI i)) ((t3.1 303 (Int32.toNatClampNeg (4 * t3.1 284 19 + nI i))) ||| (1 <<< (nI j &&& 31))) → (vp_in ((4 * (s4_.1 284 19)) + nI j) 8 ∧ (vp_in ((4 * (s4_.1 284 19)) + nI j) 8 ∧ (∀ s5_ : SS, s5_ = sI s4_ 303 (Int32.toNatClampNeg ((4 * (s4_.1 284 19)) + nI j)) ((s4_.1 303 (Int32.toNatClampNeg ((4 * (s4_.1 284 19)) + nI j))) ||| (1 <<< (nI i &&& 31))) → (K none s5_))))))
      rw [h6.2.2.1, ix i hi4, nI_clamp (n := 4 * sd + i) (by omega), t5 i hi4, p12, one_shl j hj4, nI_or]
      refine ⟨vx i hi4, vx i hi4, fun s4 e4 => ?_⟩
      have k19 : s4.1 284 19 = nI sd := by rw [e4, sI_row, sA_off2 _ _ (by omega)]; exact h6.2.2.1
      have kj : s4.1 303 (4 * sd + j) = nI (if j = i then ptk P i ||| 2 ^ j else ptk P j) := by
        rw [e4, sI_at]
        by_cases e : j = i
        · rw [if_pos (c := 303 = 303 ∧ 4 * sd + j = 4 * sd + i) ⟨rfl, by omega⟩, if_pos e]
        · rw [if_neg (c := 303 = 303 ∧ 4 * sd + j = 4 * sd + i) (fun z => e (by omega)), if_neg e]
          exact t5 j hj4
      rw [k19, ix j hj4, nI_clamp (n := 4 * sd + j) (by omega), kj, one_shl i hi4, nI_or]
      refine ⟨vx j hj4, vx j hj4, fun s5 e5 => ?_⟩
      have h7 := h6.tk hi4 hj4
      rw [p12, p12, ← e4, ← e5] at h7
      refine fin s5 ?_ h7
      rw [e5, e4]
      exact (fq6.wr hs (by omega) (by omega) (by show 4 * sd ≤ _; omega) (by show _ < 4 * sd + 4; omega)).wr hs (by omega) (by omega) (by show 4 * sd ≤ _; omega) (by show _ < 4 * sd + 4; omega)
  have tl0 : ∀ o, tlk2 P o none = false := fun o => by cases o <;> rfl
  cases o1 : winN N (tkN T a) with
  | none =>
    have g := f74 s3 _ 0 fq3 h3 (by rw [o1]; show blm _ false 3 _ = _; exact blm_f) (Or.inl ⟨rfl, by rw [o1]; rfl⟩)
    rw [o1] at g
    exact ⟨fun _ => tX10_tellTalk_34 g, fun y => absurd (by decide) y⟩
  | some i =>
    have hi4 := b1 i o1
    refine ⟨fun y => absurd y (nI_pos (by omega)), fun _ => ?_⟩
    cases o2 : winN N (tkN T (a + 1)) with
    | none =>
      have g := f74 s3 _ 0 fq3 h3 (by rw [o2, tl0, blm_f]) (Or.inl ⟨rfl, by rw [o1, o2]; rfl⟩)
      rw [o1, o2] at g
      exact ⟨fun _ => tX10_tellTalk_34 g, fun y => absurd (by decide) y⟩
    | some j =>
      have hj4 := b2 j o2
      refine ⟨fun y => absurd y (nI_pos (by omega)), fun _ => ?_⟩
      have et : tlk2 P (some i) (some j) = (decide (i = j) || talkS P i j) := rfl
      have f68 : tlk2 P (some i) (some j) = true → wX10_tellTalk_68 Γ l (nI i) (nI (a + 1)) (nI j) 1 s3 K := fun ht => by
        refine tX10_tellTalk_68 (m_wrongQ (n := 3) h3 (by omega) (by omega) (fun m r y => ?_) (fun ξ dx hx => rv ?_))
        · refine Or.inl (hlt m r ?_)
          rw [o2] at y
          have : blm (blm late (winN N (tkN T a)).isNone 4 (tkP T a)) (some j : Option Nat).isNone 4 (tkP T (a + 1)) = blm late (winN N (tkN T a)).isNone 4 (tkP T a) := blm_f
          rw [this] at y
          exact y
        · have g := f74 ξ _ 1 (fq3.tr dx.fq) hx (by rw [o1, o2, ht]) (Or.inr ⟨rfl, i, j, o1, o2⟩)
          rw [o1, o2] at g
          exact g
      show (nI i = nI j → _) ∧ (¬ nI i = nI j → vp_in (4 * s3.1 284 19 + nI i) 8 ∧ ((¬ ((s3.1 303 (Int32.toNatClampNeg (4 * s3.1 284 19 + nI i)) >>> (nI j &&& 31)) &&& 1) = 1 → _) ∧ (((s3.1 303 (Int32.toNatClampNeg (4 * s3.1 284 19 + nI i)) >>> (nI j &&& 31)) &&& 1) = 1 → _)))
      rw [nI_eq (by omega) (by omega), h3.2.2.1, show (4 : Int32) * nI sd + nI i = nI (4 * sd + i) by simp (disch := omega) only [nL, nI_add, pk_mul, pk_sub, nI_clamp, nI_leI, nI_ltI, nI_eq], nI_clamp (n := 4 * sd + i) (by omega), h3.2.2.2.2.1.2.2.2.2 i hi4, bit16 _ (hi.2.2.2.2.2.2.2.2.2.1 i hi4) j hj4, show (1 : Int32) = nI 1 from rfl, nI_eq (a := ptk P i / 2 ^ j % 2) (by omega) (by omega)]
      refine ⟨fun q => f68 (by rw [et, decide_eq_true q, Bool.true_or]), fun q => ⟨vp_in_nI (by omega) (by omega), fun q2 => ?_, fun q2 => f68 ?_⟩⟩
      · have ef : tlk2 P (some i) (some j) = false := by
          rw [et, decide_eq_false q, Bool.false_or]
          exact decide_eq_false q2
        have g := f74 s3 _ 1 fq3 h3 (by rw [o1, o2, ef, blm_f]) (Or.inr ⟨rfl, i, j, o1, o2⟩)
        rw [o1, o2] at g
        exact g
      · rw [et, decide_eq_false q, Bool.false_or]
        exact decide_eq_true q2
end M24
