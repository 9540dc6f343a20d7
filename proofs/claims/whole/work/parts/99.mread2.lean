/-! the model: read, the whole -/
theorem nar_bv (x : BitVec 32) : ((x.signExtend 8).signExtend 32) &&& 255#32 = x &&& 255#32 := by
  apply BitVec.eq_of_getLsbD_eq
  intro i hi
  simp only [BitVec.getLsbD_and]
  by_cases h : i < 8
  · have : ((x.signExtend 8).signExtend 32).getLsbD i = x.getLsbD i := by
      rw [BitVec.getLsbD_signExtend, if_pos h, BitVec.getLsbD_signExtend, if_pos hi, decide_eq_true hi, decide_eq_true h, Bool.true_and, Bool.true_and]
    rw [this]
  · have : (255#32).getLsbD i = false := (by decide : ∀ j : Fin 32, ¬ j.val < 8 → (255#32).getLsbD j.val = false) ⟨i, hi⟩ h
    rw [this, Bool.and_false, Bool.and_false]
theorem nar_low (x : Int32) : (vp_nar .byte x) &&& 255 = x &&& 255 := by
  rw [show vp_nar .byte x = x.toInt8.toInt32 from rfl]
  apply Int32.toBitVec_inj.1
  exact nar_bv x.toBitVec
/-- what reading changes, but for the side v -/
def FM2 (v : Nat) (σ τ : SS) : Prop := (∀ b, (b < 284 ∨ b = 285 ∨ 318 < b) → τ.1 b = σ.1 b) ∧ (∀ b j, 294 ≤ b → b ≤ 317 → wdB b * v ≤ j → j < wdB b * v + wdB b → τ.1 b j = σ.1 b j) ∧ (∀ k, k = 18 ∨ k = 59 ∨ k = 61 → τ.1 284 k = σ.1 284 k) ∧ (∀ b, b ≠ 290 → b ≠ 292 → τ.2.1 b = σ.2.1 b) ∧ τ.2.2 = σ.2.2
theorem FM2.tr {v : Nat} {σ τ υ : SS} (h : FM2 v σ τ) (g : FM2 v τ υ) : FM2 v σ υ := ⟨fun b hb => (g.1 b hb).trans (h.1 b hb), fun b j b1 b2 j1 j2 => (g.2.1 b j b1 b2 j1 j2).trans (h.2.1 b j b1 b2 j1 j2), fun k hk => (g.2.2.1 k hk).trans (h.2.2.1 k hk), fun b b1 b2 => (g.2.2.2.1 b b1 b2).trans (h.2.2.2.1 b b1 b2), g.2.2.2.2.trans h.2.2.2.2⟩
theorem FQ.f2 {sd v : Nat} {σ τ : SS} (h : FQ sd σ τ) (hv : v = 1 - sd) : FM2 v σ τ := ⟨fun b hb => h.1 b (by omega) (by omega) (by omega), fun b j b1 b2 j1 j2 => h.2.2.1 b j b1 b2 (by rw [← hv]; exact j1) (by rw [← hv]; exact j2), fun k hk => h.2.1 k (by omega) (by omega) (by omega) (by omega) (by omega) (by omega) (by omega) (by omega) (by omega) (by omega), fun b _ b2 => h.2.2.2.1 b b2, h.2.2.2.2⟩
theorem FM.f2 {v : Nat} {σ τ : SS} (h : FM σ τ) : FM2 v σ τ := ⟨fun b hb => h.1 b (by omega) (by omega) (by omega) (by omega), fun b j b1 b2 _ _ => by rw [h.1 b (by omega) (by omega) (by omega) (by omega)], fun k hk => h.2.1 k (by omega), fun b b1 _ => h.2.2.1 b b1, h.2.2.2⟩
theorem FM2.cm {v : Nat} {σ τ : SS} (h : FM2 v σ τ) : Cm σ τ := ⟨fun b hb => h.1 b (by omega), fun b hb => h.2.2.2.1 b (by omega) (by omega), h.2.2.2.2⟩
/-- the side that is live stays as it was -/
theorem MG.f2 {σ τ : SS} {v : Nat} {P : PV} (h : MG σ v P) (d : FM2 v σ τ) : MG τ v P := by
  obtain ⟨⟨v1, e18, e1, e2, e3, e4, e5, e6, e7, e8, e9, e10, e11, e12, e13, pk⟩, l0, l1, l2⟩ := h
  have w8 := pk.1
  have r6 := pk.2.1
  have s4 := pk.2.2.1
  have x4 := pk.2.2.2.1
  have one : ∀ b, (b = 294 ∨ b = 295 ∨ b = 297 ∨ b = 299 ∨ b = 304 ∨ b = 305 ∨ b = 306 ∨ b = 307 ∨ b = 308) → τ.1 b v = σ.1 b v := fun b hb => by
    have w : wdB b = 1 := by
      rcases hb with z | z | z | z | z | z | z | z | z <;> subst z <;> rfl
    exact d.2.1 b v (by omega) (by omega) (by rw [w]; omega) (by rw [w]; omega)
  have law : ∀ k V, k < 3 → MLw σ (3 * v + k) k V → MLw τ (3 * v + k) k V := fun k V hk h => by
    obtain ⟨ok, f, e, h0, h1, h2, h3⟩ := h
    have q9 : τ.1 309 (3 * v + k) = σ.1 309 (3 * v + k) := d.2.1 309 _ (by omega) (by omega) (by show 3 * v ≤ _; omega) (by show _ < 3 * v + 3; omega)
    have q10 : τ.1 310 (3 * v + k) = σ.1 310 (3 * v + k) := d.2.1 310 _ (by omega) (by omega) (by show 3 * v ≤ _; omega) (by show _ < 3 * v + 3; omega)
    refine ⟨ok, f, e, h0, by rw [q9]; exact h1, by rw [q10]; exact h2, ?_⟩
    rcases h3 with h3 | ⟨h3, h4, h5⟩
    · exact Or.inl h3
    · refine Or.inr ⟨h3, h4, fun υ hu => h5 υ ?_⟩
      rw [show (3 * v + k) / 3 = v by omega] at hu ⊢
      refine ⟨fun b j b1 b2 j1 j2 => ?_, fun b j b1 b2 j1 j2 => ?_⟩
      · rw [hu.1 b j b1 b2 j1 j2]
        have w : wdB b = 130 := by
          unfold wdB
          rw [if_neg (by omega), if_neg (by omega), if_neg (by omega), if_neg (by omega), if_pos (by omega)]
        exact d.2.1 b j (by omega) (by omega) (by rw [w]; omega) (by rw [w]; omega)
      · rw [hu.2 b j b1 b2 j1 j2]
        have w : wdB b = 420 := by
          unfold wdB
          rw [if_neg (by omega), if_neg (by omega), if_neg (by omega), if_neg (by omega), if_neg (by omega), if_pos (by omega)]
        exact d.2.1 b j (by omega) (by omega) (by rw [w]; omega) (by rw [w]; omega)
  refine ⟨⟨v1, by rw [d.2.2.1 18 (by omega)]; exact e18, by rw [one 294 (by omega)]; exact e1, by rw [one 295 (by omega)]; exact e2, by rw [one 297 (by omega)]; exact e3, by rw [one 299 (by omega)]; exact e4, by rw [one 304 (by omega)]; exact e5, by rw [one 305 (by omega)]; exact e6, by rw [one 306 (by omega)]; exact e7, by rw [one 307 (by omega)]; exact e8, by rw [one 308 (by omega)]; exact e9, fun x y hx hy => ?_, fun s k hs hk => ?_, fun w hw => ?_, fun w hw => ?_, pk⟩, law 0 _ (by omega) l0, law 1 _ (by omega) l1, law 2 _ (by omega) l2⟩
  · rw [d.2.1 296 _ (by omega) (by omega) (by show 48 * v ≤ _; omega) (by show _ < 48 * v + 48; omega)]
    exact e10 x y hx hy
  · rw [d.2.1 298 _ (by omega) (by omega) (by show 36 * v ≤ _; omega) (by show _ < 36 * v + 36; omega)]
    exact e11 s k hs hk
  · rw [d.2.1 300 _ (by omega) (by omega) (by show 4 * v ≤ _; omega) (by show _ < 4 * v + 4; omega), d.2.1 301 _ (by omega) (by omega) (by show 4 * v ≤ _; omega) (by show _ < 4 * v + 4; omega), d.2.1 302 _ (by omega) (by omega) (by show 4 * v ≤ _; omega) (by show _ < 4 * v + 4; omega)]
    exact e12 w hw
  · rw [d.2.1 303 _ (by omega) (by omega) (by show 4 * v ≤ _; omega) (by show _ < 4 * v + 4; omega)]
    exact e13 w hw
section M30
variable {Γ : GE} {l : Launch} {σ τ : SS} {K : Option Value → SS → Prop} {T : List Nat} {sd a v : Nat} {late : LF} {P : PV} {N : Nms}
theorem m_plain (hs : sd ≤ 1) (hK : ∀ τ, FQ sd σ τ → τ.1 284 = σ.1 284 → (∀ b, b < 294 → τ.1 b = σ.1 b) → τ.2 = σ.2 → MPc τ sd none plnP → (∀ k, k < 3 → τ.1 309 (3 * sd + k) = 0 ∧ τ.1 310 (3 * sd + k) = 0) → K none τ) : C2 Γ l mX10_plain [.ref 284, .int (nI sd)] σ K := by
  have v2 : vp_in (nI sd) 2 := vp_in_nI (by omega) (by omega)
  have k3 : ∀ m i τ, m + i = 3 → FQ sd σ τ → (∀ b, b < 294 → τ.1 b = σ.1 b) → τ.2 = σ.2 → MPc τ sd none plnP → (∀ k, k < i → τ.1 309 (3 * sd + k) = 0 ∧ τ.1 310 (3 * sd + k) = 0) → wX10_plain_90 Γ l (nI sd) (nI i) τ K := by
    intro m
    induction m with
    | zero =>
      intro i τ e d r r2 p z
      have : i = 3 := by omega
      subst this
      exact tX10_plain_90 ⟨fun _ => hK τ d (r 284 (by omega)) r r2 p z, fun q => absurd (by decide) q⟩
    | succ m ih =>
      intro i τ e d r r2 p z
      have ix : (3 : Int32) * nI sd + nI i = nI (3 * sd + i) := by simp (disch := omega) only [nL, nI_add, pk_mul, pk_sub, nI_clamp, nI_leI, nI_ltI, nI_eq]
      refine tX10_plain_90 ⟨fun q => absurd q (by simp (disch := omega) only [nL, nI_add, pk_mul, pk_sub, nI_clamp, nI_leI, nI_ltI, nI_eq]; omega), fun _ => ?_⟩
      rw [ix, nI_clamp (by omega), nI_1]
      have v6 : vp_in (nI (3 * sd + i)) 6 := vp_in_nI (by omega) (by omega)
      refine ⟨v6, fun s1 e1 => ⟨v6, fun s2 e2 => ?_⟩⟩
      have ro : ∀ b, b ≠ 309 → b ≠ 310 → s2.1 b = τ.1 b := fun b b1 b2 => by rw [e2, sI_row, sA_off2 _ _ b2, e1, sI_row, sA_off2 _ _ b1]
      refine ih (i + 1) s2 (by omega) ?_ (fun b hb => by rw [ro b (by omega) (by omega)]; exact r b hb) (by rw [e2, e1]; exact r2) (p.cg (fun b b1 b2 => ro b (by omega) (by omega)) (fun z => z)) (fun k hk => ?_)
      · rw [e2, e1]
        exact (d.wr (b := 309) hs (by omega) (by omega) (by show 3 * sd ≤ _; omega) (by show _ < 3 * sd + 3; omega)).wr (b := 310) hs (by omega) (by omega) (by show 3 * sd ≤ _; omega) (by show _ < 3 * sd + 3; omega)
      · have e9 : s2.1 309 (3 * sd + k) = if k = i then 0 else τ.1 309 (3 * sd + k) := by
          rw [e2, sI_row, sA_off2 _ _ (by omega), e1, sI_at]
          by_cases c : k = i
          · rw [if_pos ⟨rfl, by omega⟩, if_pos c]
          · rw [if_neg (by omega), if_neg c]
        have e10 : s2.1 310 (3 * sd + k) = if k = i then 0 else τ.1 310 (3 * sd + k) := by
          rw [e2, sI_at, e1, sI_row, sA_off2 _ _ (by omega)]
          by_cases c : k = i
          · rw [if_pos ⟨rfl, by omega⟩, if_pos c]
          · rw [if_neg (by omega), if_neg c]
        rw [e9, e10]
        by_cases c : k = i
        · rw [if_pos c, if_pos c]
          exact ⟨rfl, rfl⟩
        · rw [if_neg c, if_neg c]
          exact z k (by omega)
  have k2 : ∀ m i τ, m + i = 4 → FQ sd σ τ → (∀ b, b < 294 → τ.1 b = σ.1 b) → τ.2 = σ.2 → (∀ j, j < 9 → τ.1 (nR j) sd = nI (plnP.1 j 0)) → (∀ w, w < i → τ.1 303 (4 * sd + w) = 0) → wX10_plain_66 Γ l (nI sd) (nI i) τ K := by
    intro m
    induction m with
    | zero =>
      intro i τ e d r r2 p z
      have : i = 4 := by omega
      subst this
      refine tX10_plain_66 ⟨fun _ => k3 3 0 τ (by omega) d r r2 ⟨p, fun _ x y hx => absurd hx (by show ¬ x < 0; omega), fun _ s k hs => absurd hs (by show ¬ s < 0; omega), fun w hw => absurd hw (by show ¬ w < 0; omega), fun w hw => ?_⟩ (fun k hk => absurd hk (by omega)), fun q => absurd (by decide) q⟩
      rw [z w hw]
      rfl
    | succ m ih =>
      intro i τ e d r r2 p z
      have ix : (4 : Int32) * nI sd + nI i = nI (4 * sd + i) := by simp (disch := omega) only [nL, nI_add, pk_mul, pk_sub, nI_clamp, nI_leI, nI_ltI, nI_eq]
      refine tX10_plain_66 ⟨fun q => absurd q (by simp (disch := omega) only [nL, nI_add, pk_mul, pk_sub, nI_clamp, nI_leI, nI_ltI, nI_eq]; omega), fun _ => ?_⟩
      rw [ix, nI_clamp (by omega), nI_1]
      refine ⟨vp_in_nI (by omega) (by omega), fun s1 e1 => ?_⟩
      have ro : ∀ b, b ≠ 303 → s1.1 b = τ.1 b := fun b b1 => by rw [e1, sI_row, sA_off2 _ _ b1]
      refine ih (i + 1) s1 (by omega) (by rw [e1]; exact d.wr hs (by omega) (by omega) (by show 4 * sd ≤ _; omega) (by show _ < 4 * sd + 4; omega)) (fun b hb => by rw [ro b (by omega)]; exact r b hb) (by rw [e1]; exact r2) (fun j hj => ?_) (fun w hw => ?_)
      · have hn : nR j ≠ 303 := (by decide : ∀ j, j < 9 → nR j ≠ 303) j hj
        rw [ro _ hn]
        exact p j hj
      · rw [e1, sI_at]
        by_cases c : w = i
        · rw [if_pos ⟨rfl, by omega⟩]
        · rw [if_neg (by omega)]
          exact z w (by omega)
  refine tX10_plain ?_
  rw [nI_clamp (by omega)]
  refine ⟨v2, fun s1 e1 => ⟨v2, fun s2 e2 => ⟨v2, fun s3 e3 => ⟨v2, fun s4 e4 => ⟨v2, fun s5 e5 => ⟨v2, fun s6 e6 => ⟨v2, fun s7 e7 => ⟨v2, fun s8 e8 => ⟨v2, fun s9 e9 => ?_⟩⟩⟩⟩⟩⟩⟩⟩⟩
  refine k2 4 0 s9 (by omega) ?_ (fun b hb => ?_) (by rw [e9, e8, e7, e6, e5, e4, e3, e2, e1]; rfl) (fun j hj => ?_) (fun w hw => absurd hw (by omega))
  · rw [e9, e8, e7, e6, e5, e4, e3, e2, e1]
    exact MQr.fqn (j := 8) hs (by omega) (MQr.fqn (j := 7) hs (by omega) (MQr.fqn (j := 6) hs (by omega) (MQr.fqn (j := 5) hs (by omega) (MQr.fqn (j := 4) hs (by omega) (MQr.fqn (j := 3) hs (by omega) (MQr.fqn (j := 2) hs (by omega) (MQr.fqn (j := 1) hs (by omega) (MQr.fqn (j := 0) hs (by omega) FQ.rf))))))))
  · rw [e9, sI_row, sA_off2 _ _ (by omega), e8, sI_row, sA_off2 _ _ (by omega), e7, sI_row, sA_off2 _ _ (by omega), e6, sI_row, sA_off2 _ _ (by omega), e5, sI_row, sA_off2 _ _ (by omega), e4, sI_row, sA_off2 _ _ (by omega), e3, sI_row, sA_off2 _ _ (by omega), e2, sI_row, sA_off2 _ _ (by omega), e1, sI_row, sA_off2 _ _ (by omega)]
  · have : j = 0 ∨ j = 1 ∨ j = 2 ∨ j = 3 ∨ j = 4 ∨ j = 5 ∨ j = 6 ∨ j = 7 ∨ j = 8 := by omega
    rw [e9, sI_at, e8, sI_at, e7, sI_at, e6, sI_at, e5, sI_at, e4, sI_at, e3, sI_at, e2, sI_at, e1, sI_at]
    rcases this with z | z | z | z | z | z | z | z | z <;> subst z <;> simp [nR] <;> rfl
/-- a plan that was read -/
theorem MQr.mg (h : MQr σ sd T a none P N) (hi : PI none P N) (d : ∀ b, 294 ≤ b → b ≤ 317 → τ.1 b = σ.1 b) (h18 : τ.1 284 18 = nI sd) : MG τ sd P := by
  obtain ⟨h1, h2, h3, h4, ⟨b1, b2, b3, b4, b5⟩, h6, nb, nc, n1, n2, n3, n4, n5⟩ := h
  have a4 := h2.1.2.2.2.1
  obtain ⟨pk, hsn⟩ := hi.2.2.2.2.2.2.2.2.2.2 rfl
  have law : ∀ k, k < 3 → MLw τ (3 * sd + k) k (plw P k) := fun k hk => by
    obtain ⟨ok, f, e, p0, p1, p2, p3⟩ := n5 k hk
    refine ⟨ok, f, e, p0, by rw [d 309 (by omega) (by omega)]; exact p1, by rw [d 310 (by omega) (by omega)]; exact p2, ?_⟩
    rcases p3 with p3 | ⟨p3, p4, p5⟩
    · exact Or.inl p3
    · refine Or.inr ⟨p3, p4, fun υ hu => p5 υ ?_⟩
      rw [show (3 * sd + k) / 3 = sd by omega] at hu
      exact ⟨fun b j c1 c2 j1 j2 => by rw [hu.1 b j c1 c2 j1 (by omega), d b (by omega) (by omega)], fun b j c1 c2 j1 j2 => by rw [hu.2 b j c1 c2 j1 (by omega), d b (by omega) (by omega)]⟩
  refine ⟨⟨h1, h18, ?_, ?_, ?_, ?_, ?_, ?_, ?_, ?_, ?_, ?_, ?_, ?_, ?_, pk⟩, law 0 (by omega), law 1 (by omega), law 2 (by omega)⟩
  · rw [d 294 (by omega) (by omega)]; exact b1 0 (by omega)
  · rw [d 295 (by omega) (by omega)]; exact b1 1 (by omega)
  · rw [d 297 (by omega) (by omega)]; exact b1 2 (by omega)
  · rw [d 299 (by omega) (by omega)]; exact b1 3 (by omega)
  · rw [d 304 (by omega) (by omega)]; exact b1 4 (by omega)
  · rw [d 305 (by omega) (by omega)]; exact b1 5 (by omega)
  · rw [d 306 (by omega) (by omega)]; exact b1 6 (by omega)
  · rw [d 307 (by omega) (by omega)]; exact b1 7 (by omega)
  · rw [d 308 (by omega) (by omega)]; exact b1 8 (by omega)
  · rw [d 296 (by omega) (by omega)]; exact b2 rfl
  · rw [d 298 (by omega) (by omega)]; exact b3 rfl
  · rw [d 300 (by omega) (by omega), d 301 (by omega) (by omega), d 302 (by omega) (by omega)]; exact b4
  · rw [d 303 (by omega) (by omega)]; exact b5
theorem m_readLoop {R : Rs (LF × PV)} : ∀ n a (σ : SS) late P N, 401 ≤ n + a → MQr σ sd T a late P N → PI late P N → pAll T n a late P N = R →
    (∀ τ e, FQ sd σ τ → DEr τ e → R = .error e → wX10_read_134 Γ l τ K) → (∀ τ a' late' P' N', FQ sd σ τ → MQr τ sd T a' late' P' N' → PI late' P' N' → R = .ok (late', P') → wX10_read_134 Γ l τ K) → wX10_read_112 Γ l σ K := by
  intro n
  induction n with
  | zero =>
    intro a σ late P N h1 h
    have := h.2.1.1.2.2.2.1
    omega
  | succ n ih =>
    intro a σ late P N h1 h hi hR herr hok
    rw [pAll] at hR
    refine tX10_read_112 ⟨fun q => absurd h.2.1.1.2.2.2.2.2 q, fun _ => m_is (c := 0) (by omega) h.2.1.1 (ri ?_)⟩
    rw [bI_0]
    refine ⟨fun q => ?_, fun q => ?_⟩
    · simp only [Bool.not_eq_false, decide_eq_true_eq] at q
      rw [if_pos q] at hR
      exact hok σ a late P N FQ.rf h hi hR.symm
    · simp only [decide_eq_false_iff_not] at q
      rw [if_neg q] at hR
      refine m_tellOne h hi q hR (fun τ e f g z => rv (tX10_read_112 ⟨fun _ => herr τ e f g z, fun y => absurd y g.n0⟩)) (fun τ a' late' P' N' f g i j z => rv ?_)
      exact ih a' τ late' P' N' (by omega) g i z (fun υ e d f2 z => herr υ e (f.tr d) f2 z) (fun υ a2 l2 P2 N2 d g2 i2 z => hok υ a2 l2 P2 N2 (f.tr d) g2 i2 z)
end M30
