/-! the model: what its laws tell -/
def TO (vs : Nat → Int32) (e : Ex) (b b' r : Int32) : Prop := (evE vs e [] = none ∧ b' = 1) ∨ (evE vs e [] = some [r] ∧ b' = b)
theorem vp4 {n : Nat} (h : n < 400) : vp_in (nI n) 400 := vp_in_nI h (by decide)
section M2
variable {Γ : GE} {l : Launch} {σ : SS} {K : Option Value → SS → Prop} {v : Nat} {P : PV} {L : LV}
theorem m_term_e {N : Nat} (hN : N ≤ 840) : ∀ (e : Ex) (i : Nat) (st : List Int32) (f : Nat → Int32), MEx σ i e → i + e.length = N → okE e st.length 1 → st.length ≤ 20 → Stk f st →
    (evE (σ.1 319) e st = none → ∀ f, K (some (.int 0)) (sI (sA σ 320 f) 284 53 1)) → (∀ w f', evE (σ.1 319) e st = some [w] → K (some (.int w)) (sA σ 320 f')) →
    wX10_termOf_5 Γ l (nI N) (nI st.length) (nI i) (sA σ 320 f) K := by
  intro e
  induction e with
  | nil =>
    intro i st f hx hi hok hl hs h0 h1
    have hi' : i = N := hi
    subst hi'
    have hst : st.length = 1 := hok
    match st, hst, hs, h1 with
    | [w], _, hs, h1 =>
      refine tX10_termOf_5 ⟨fun _ => ⟨vp4 (n := 0) (by omega), ?_⟩, fun q => absurd (Int32.le_refl _) q⟩
      have e0 : (sA σ 320 f).1 320 (Int32.toNatClampNeg 0) = w := by
        rw [sA_row]
        exact hs.1
      rw [e0]
      exact h1 w f rfl
  | cons q es ih =>
    intro i st f hx hi hok hl hs h0 h1
    obtain ⟨k, v⟩ := q
    obtain ⟨⟨o1, o2, o3⟩, ho⟩ := hok
    rw [List.length_cons] at hi
    have hc := hx 0 (by rw [List.length_cons]; omega)
    have hc1 : σ.1 316 i = nI k := hc.1
    have hc2 : σ.1 317 i = v := hc.2
    have hxs : MEx σ (i + 1) es := fun j hj => by
      have := hx (j + 1) (by rw [List.length_cons]; omega)
      rw [show i + 1 + j = i + (j + 1) by omega]
      exact this
    have r16 : (sA σ 320 f).1 316 (Int32.toNatClampNeg (nI i)) = nI k := by
      rw [nI_clamp (by omega), sA_off2 _ _ (by omega)]
      exact hc1
    have r17 : (sA σ 320 f).1 317 (Int32.toNatClampNeg (nI i)) = v := by
      rw [nI_clamp (by omega), sA_off2 _ _ (by omega)]
      exact hc2
    have r19 : (sA σ 320 f).1 319 = σ.1 319 := sA_off2 _ _ (by omega)
    have go : ∀ (st2 : List Int32) (f2 : Nat → Int32), okE es st2.length 1 → st2.length ≤ 20 → Stk f2 st2 → evE (σ.1 319) ((k, v) :: es) st = evE (σ.1 319) es st2 → wX10_termOf_159 Γ l (nI N) (nI st2.length) (nI i) (sA σ 320 f2) K := by
      intro st2 f2 g1 g2 g3 g4
      refine tX10_termOf_159 ?_
      rw [nI_1]
      exact ih (i + 1) st2 f2 hxs (by omega) g1 g2 g3 (fun z => h0 (g4.trans z)) (fun w f' z => h1 w f' (g4.trans z))
    have vi : vp_in (nI i) 840 := vp_in_nI (by omega) (by omega)
    refine tX10_termOf_5 ⟨fun q => absurd q (by simp (disch := omega) only [nL, nI_add, pk_mul, pk_sub, nI_clamp, nI_leI, nI_ltI, nI_eq]; omega), fun _ => ⟨vi, ?_⟩⟩
    rw [r16]
    by_cases hk1 : k ≤ 1
    · rw [if_pos hk1] at ho
      obtain ⟨hd, hoe⟩ := ho
      have vs := vp4 (n := st.length) (by omega)
      have hk01 : k = 0 ∨ k = 1 := by omega
      rcases hk01 with rfl | rfl
      · refine ⟨fun q => absurd q (by decide), fun _ => ⟨fun q => absurd rfl q, fun _ => ⟨vi, vs, fun s3 e3 => ?_⟩⟩⟩
        rw [e3, r17, nI_clamp (by omega), sI_sA, nI_1]
        exact go (v :: st) _ hoe (by rw [List.length_cons]; omega) ⟨pk_us, hs.upd (Nat.le_refl _)⟩ (by simp [evE])
      · obtain ⟨j, hj, rfl⟩ := o3 rfl
        rw [r17]
        refine ⟨fun q => absurd q (by decide), fun _ => ⟨fun _ => ⟨vi, vp_in_nI hj (by omega), vs, fun s3 e3 => ?_⟩, fun q => absurd q (by decide)⟩⟩
        rw [e3, r19, nI_clamp (n := st.length) (by omega), sI_sA, nI_1]
        exact go (σ.1 319 (Int32.toNatClampNeg (nI j)) :: st) _ hoe (by rw [List.length_cons]; omega) ⟨pk_us, hs.upd (Nat.le_refl _)⟩ (by simp [evE])
    · rw [if_neg hk1] at ho
      obtain ⟨hd, hoe⟩ := ho
      match st, hd, hs, hoe, hl, h0, h1, go with
      | b :: a :: st, _, hs, hoe, hl, h0, h1, go =>
        simp only [List.length_cons] at hoe hl ⊢
        rw [nI_m1, nI_pred]
        have f1 : (sA σ 320 f).1 320 (Int32.toNatClampNeg (nI st.length)) = a := by
          rw [nI_clamp (by omega), sA_row]
          exact hs.2.1
        have f2 : (sA σ 320 f).1 320 (Int32.toNatClampNeg (nI (st.length + 1))) = b := by
          rw [nI_clamp (by omega), sA_row]
          exact hs.1
        rw [f1, f2]
        have vs := vp4 (n := st.length) (by omega)
        have vs1 := vp4 (n := st.length + 1) (by omega)
        have hk5 : k = 2 ∨ k = 3 ∨ k = 4 ∨ k = 5 := by omega
        have hok2 : okE es (opS k a b :: st).length 1 := by
          rw [List.length_cons]
          exact hoe
        have gg : ∀ (hz : ¬ (k = 5 ∧ b = 0)) s1, s1 = sI (sA σ 320 f) 320 (Int32.toNatClampNeg (nI (st.length + 1) - 1)) (opS k a b) → wX10_termOf_159 Γ l (nI N) (nI (st.length + 1)) (nI i) s1 K := by
          intro hz s1 e1
          rw [e1, nI_pred, nI_clamp (by omega), sI_sA]
          refine go (opS k a b :: st) _ hok2 (by rw [List.length_cons]; omega) ⟨pk_us, hs.2.2.upd (Nat.le_refl _)⟩ ?_
          simp only [evE]
          rw [if_neg (by omega), if_neg (by omega), if_neg hz]
        have h104 : ¬ (k = 5 ∧ b = 0) → wX10_termOf_104 Γ l (nI N) (nI (st.length + 1)) (nI i) (nI k) a b (sA σ 320 f) K := by
          intro hz
          have vq : vp_in (nI (st.length + 1) - 1) 400 := by rw [nI_pred]; exact vs
          rcases hk5 with rfl | rfl | rfl | rfl
          · exact tX10_termOf_104 ⟨fun q => absurd rfl q, fun _ => ⟨vq, gg hz⟩⟩
          · exact tX10_termOf_104 ⟨fun _ => ⟨fun q => absurd rfl q, fun _ => ⟨vq, gg hz⟩⟩, fun q => absurd q (by decide)⟩
          · exact tX10_termOf_104 ⟨fun _ => ⟨fun _ => ⟨fun q => absurd rfl q, fun _ => ⟨vq, gg hz⟩⟩, fun q => absurd q (by decide)⟩, fun q => absurd q (by decide)⟩
          · exact tX10_termOf_104 ⟨fun _ => ⟨fun _ => ⟨fun _ => ⟨fun e => hz ⟨rfl, e⟩, vq, gg hz⟩, fun q => absurd q (by decide)⟩, fun q => absurd q (by decide)⟩, fun q => absurd q (by decide)⟩
        refine ⟨fun _ => ⟨vs, vs1, fun q => h104 (fun z => q (by rw [z.1]; rfl)), fun q => ⟨fun r => h104 (fun z => r z.2), fun r s1 e1 => ?_⟩⟩, fun q => absurd ?_ q⟩
        · rw [e1]
          have k5 : k = 5 := by
            rcases hk5 with rfl | rfl | rfl | rfl
            · exact absurd q (by decide)
            · exact absurd q (by decide)
            · exact absurd q (by decide)
            · rfl
          refine h0 ?_ f
          simp only [evE]
          rw [if_neg (by omega), if_neg (by omega), if_pos ⟨k5, r⟩]
        · rcases hk5 with rfl | rfl | rfl | rfl <;> decide
theorem m_termOf {e : Ex} {i : Nat} (hx : MEx σ i e) (hN : i + e.length ≤ 840) (ok : okE e 0 1) (hK : ∀ τ r, DM [320] [53] σ τ → TO (σ.1 319) e (σ.1 284 53) (τ.1 284 53) r → (evE (σ.1 319) e [] = none → r = 0) → K (some (.int r)) τ) : C2 Γ l mX10_termOf [.ref 284, .int (nI i), .int (nI (i + e.length))] σ K := by
  have dA : ∀ f, DM [320] [53] σ (sA σ 320 f) := fun f => ⟨fun b hb _ => sA_off2 _ _ (fun z => hb (by rw [z]; simp)), fun k _ => by rw [sA_off2 _ _ (by omega)], rfl⟩
  have h := m_term_e (Γ := Γ) (l := l) (σ := σ) (K := K) hN e i [] (σ.1 320) hx rfl ok (by simp) trivial (fun z f => hK _ 0 ((dA f).wF (by simp)) (Or.inl ⟨z, by rw [sI_at, if_pos ⟨rfl, rfl⟩]⟩) (fun _ => rfl)) (fun w f z => hK _ w (dA f) (Or.inr ⟨z, by rw [sA_off2 _ _ (by omega)]⟩) (fun q => by rw [z] at q; exact absurd q (by simp)))
  rw [sA_self] at h
  exact tX10_termOf h
theorem MEx.dm {τ : SS} {i : Nat} {e : Ex} (h : MEx σ i e) (d : DM [320] [53] σ τ) : MEx τ i e := by
  unfold MEx
  rw [d.r 316 (by simp) (by omega), d.r 317 (by simp) (by omega)]
  exact h
theorem evT_some {vs : Nat → Int32} {t : Ex} {r : Int32} (h : evE vs t [] = some [r]) : evT vs t = r := by
  unfold evT
  rw [h]
theorem evT_none {vs : Nat → Int32} {t : Ex} (h : evE vs t [] = none) : evT vs t = 0 := by
  unfold evT
  rw [h]
theorem m_tellT {t : Ex} {i : Nat} {x : Int32} (hx : MEx σ i t) (hN : i + t.length ≤ 840) (ok : okE t 0 1) (hb : σ.1 284 53 = 0) (hK : ∀ τ, DM [320] [53] σ τ → K (some (.int (evT (σ.1 319) t))) τ) : C2 Γ l mX10_termOf [.ref 284, .int (nI i), .int (nI (i + t.length))] σ (Ri fun r s => (s.1 284 53 = 0 → K (some (.int r)) s) ∧ (¬ s.1 284 53 = 0 → K (some (.int 0)) s)) := by
  refine m_termOf hx hN ok (fun τ r d h0 _ => ri ⟨fun q => ?_, fun q => ?_⟩)
  · rcases h0 with ⟨h0, h2⟩ | ⟨h0, h2⟩
    · rw [h2] at q
      exact absurd q (by decide)
    · have := hK τ d
      rw [evT_some h0] at this
      exact this
  · rcases h0 with ⟨h0, h2⟩ | ⟨h0, h2⟩
    · have := hK τ d
      rw [evT_none h0] at this
      exact this
    · exact absurd (h2.trans hb) q
theorem m_lawTells {k : Nat} {V : LawV} {x : Int32} (hk : k < 3) (h18 : σ.1 284 18 = nI v) (v1 : v ≤ 1) (hV : MLw σ (3 * v + k) k V) (hx : x = evL (σ.1 319) (dfl k)) (hK : ∀ τ, DM [320] [53] σ τ → K (some (.int (evL (σ.1 319) V))) τ) : C2 Γ l mX10_lawTells [.ref 284, .int (nI k), .int x] σ K := by
  obtain ⟨ok, f, e, he, hf1, hf2, hc⟩ := hV
  have v6 : vp_in (nI (3 * v + k)) 6 := vp_in_nI (by omega) (by omega)
  refine tX10_lawTells ?_
  rw [h18, show (3 : Int32) * nI v + nI k = nI (3 * v + k) by simp (disch := omega) only [nL, nI_add, pk_mul, pk_sub, nI_clamp, nI_leI, nI_ltI, nI_eq], nI_clamp (by omega), hf1, hf2]
  rcases hc with ⟨rfl, rfl⟩ | ⟨hlen, hlt, hbr'⟩
  · refine ⟨v6, v6, fun q => absurd rfl q, fun _ => ?_⟩
    rw [hx]
    exact hK σ DM.rf
  have hbr : MBr σ f V := hbr' σ SdA.rf
  have hne : ¬ nI f = nI e := by
    simp (disch := omega) only [nL, nI_add, pk_mul, pk_sub, nI_clamp, nI_leI, nI_ltI, nI_eq]
    omega
  refine ⟨v6, v6, fun _ s1 e1 => ⟨v6, fun v2 e2 => ?_⟩, fun q => absurd q hne⟩
  have key : ∀ (V : LawV) (b : Nat) (τ : SS), DM [320] [53] σ τ → τ.1 284 53 = 0 → MBr σ b V → b + V.length = e → okL V → (∀ τ, DM [320] [53] σ τ → K (some (.int (evL (σ.1 319) V))) τ) → wX10_lawTells_39 Γ l (nI (3 * v + k)) (nI b) τ K := by
    intro V
    induction V with
    | nil =>
      intro b τ d h0 hm hl hok hK
      exact absurd hok (by simp [okL])
    | cons br bs ih =>
      intro b τ d h0 hm hl hok hK
      rw [List.length_cons] at hl
      have d310 : τ.1 310 (Int32.toNatClampNeg (nI (3 * v + k))) = nI e := by
        rw [nI_clamp (by omega), d.r 310 (by simp) (by omega), hf2]
      have e19 : τ.1 319 = σ.1 319 := d.r 319 (by simp) (by omega)
      have vb : vp_in (nI b) 260 := vp_in_nI (by omega) (by omega)
      refine tX10_lawTells_39 ⟨v6, fun q => absurd q ?_, fun _ => ⟨vb, ?_⟩⟩
      · rw [d310]
        simp (disch := omega) only [nL, nI_add, pk_mul, pk_sub, nI_clamp, nI_leI, nI_ltI, nI_eq]
        omega
      · rw [nI_clamp (n := b) (by omega), d.r 311 (by simp) (by omega), d.r 312 (by simp) (by omega), d.r 313 (by simp) (by omega), d.r 314 (by simp) (by omega), d.r 315 (by simp) (by omega)]
        obtain ⟨c0, t⟩ := br
        cases c0 with
        | none =>
          unfold MBr at hm
          obtain ⟨hbs, h311, c, hc, h314, h315, hx⟩ := hm
          rw [h311, h314, h315]
          refine ⟨fun _ => ⟨vb, vb, m_tellT (x := x) (hx.dm d) hc hok.2 h0 (fun υ d2 => ?_)⟩, fun q => absurd rfl q⟩
          rw [e19]
          exact hK υ (d.tr d2 (fun _ z => z) (fun _ z => z))
        | some ee =>
          obtain ⟨a1, a2⟩ := ee
          unfold MBr at hm
          obtain ⟨h311, ⟨c, hc, h312, h313, h314, h315, x1, x2, x3⟩, hbs⟩ := hm
          obtain ⟨k1, k2, -, k3, k4⟩ := hok
          rw [h311, h312, h313]
          refine ⟨fun q => absurd q (by decide), fun _ => ⟨vb, vb, m_termOf (x1.dm d) (by omega) k1 (fun τ1 r1 d1 t1 z1 => ri ⟨vb, vb, ?_⟩)⟩⟩
          have dd1 := d.tr d1 (fun _ z => z) (fun _ z => z)
          rw [dd1.r 313 (by simp) (by omega), dd1.r 314 (by simp) (by omega), h313, h314]
          refine m_termOf (x2.dm dd1) (by omega) k2 (fun τ2 r2 d2 t2 z2 => ri ?_)
          have dd2 := dd1.tr d2 (fun _ z => z) (fun _ z => z)
          rw [dd1.r 319 (by simp) (by omega)] at t2
          rw [e19] at t1
          have go0 : (evE (σ.1 319) a1 [] = none ∨ evE (σ.1 319) a2 [] = none) → K (some (.int 0)) τ2 := fun z => by
            have := hK τ2 dd2
            rw [show evL (σ.1 319) ((some (a1, a2), t) :: bs) = 0 from by
              rcases z with z | z
              · simp only [evL, z]
              · simp only [evL, z]
                cases evE (σ.1 319) a1 [] with
                | none => rfl
                | some q => cases q <;> rfl] at this
            exact this
          rcases t1 with ⟨t1, b1⟩ | ⟨t1, b1⟩
          · refine ⟨fun q => absurd q ?_, fun _ => go0 (Or.inl t1)⟩
            rcases t2 with ⟨t2, b2⟩ | ⟨t2, b2⟩
            · rw [b2]; decide
            · rw [b2, b1]; decide
          · rcases t2 with ⟨t2, b2⟩ | ⟨t2, b2⟩
            · refine ⟨fun q => absurd q ?_, fun _ => go0 (Or.inr t2)⟩
              rw [b2]; decide
            · have b3 : τ2.1 284 53 = 0 := by rw [b2, b1, h0]
              refine ⟨fun _ => ⟨fun q => ⟨vb, vb, ?_⟩, fun q => ?_⟩, fun q => absurd b3 q⟩
              · rw [dd2.r 314 (by simp) (by omega), dd2.r 315 (by simp) (by omega), h314, h315]
                refine m_tellT (x := x) (x3.dm dd2) (by omega) k3 b3 (fun υ d3 => ?_)
                have := hK υ (dd2.tr d3 (fun _ z => z) (fun _ z => z))
                rw [show evL (σ.1 319) ((some (a1, a2), t) :: bs) = evT (σ.1 319) t from by simp only [evL, t1, t2, if_pos q]] at this
                rw [dd2.r 319 (by simp) (by omega)]
                exact this
              · rw [nI_1]
                refine ih (b + 1) τ2 dd2 b3 hbs (by omega) k4 (fun υ d3 => ?_)
                have := hK υ d3
                rw [show evL (σ.1 319) ((some (a1, a2), t) :: bs) = evL (σ.1 319) bs from by simp only [evL, t1, t2, if_neg q]] at this
                exact this
  have h9 : v2 = nI f := by
    rw [e2, e1, sI_row, sA_off2 _ _ (by omega), hf1]
  rw [h9]
  refine key V f s1 (by rw [e1]; exact DM.rf.wF (by simp)) (by rw [e1, sI_at, if_pos ⟨rfl, rfl⟩]) hbr hlen.symm ok hK
end M2
