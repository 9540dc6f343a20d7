/-! the model: a tell -/
theorem kd24 : ∀ k, k < 42 → (nI k - 24 < 0 ↔ k < 24) ∧ (¬ k < 24 → nI k - 24 = nI (k - 24)) ∧ (nI k ≤ 26 ↔ k ≤ 26) := by decide
theorem PrA.tr {sd nb nc : Nat} {σ τ υ : SS} (h : PrA sd nb nc σ τ) (g : PrA sd nb nc τ υ) : PrA sd nb nc σ υ := ⟨fun b j b1 b2 j1 j2 => (g.1 b j b1 b2 j1 j2).trans (h.1 b j b1 b2 j1 j2), fun b j b1 b2 j1 j2 => (g.2 b j b1 b2 j1 j2).trans (h.2 b j b1 b2 j1 j2)⟩
section M29
variable {Γ : GE} {l : Launch} {σ τ : SS} {K : Option Value → SS → Prop} {T : List Nat} {sd a : Nat} {late : LF} {P : PV} {N : Nms} {ρ : Type} {R : Rs ρ} {k : Kt3 ρ}
theorem m_tellLawQ {i : Nat} (hi3 : i < 3) (h : MQr σ sd T a late P N) (hi : PI late P N) (hn0 : tkK T a ≠ 0) (hn3 : tkK T a ≠ 3) (hR : pLaw T a i late P N k = R)
    (herr : ∀ τ e, FQ sd σ τ → DEr τ e → R = .error e → K none τ)
    (hok : ∀ τ a' late' P' N', FQ sd σ τ → MQr τ sd T a' late' P' N' → PI late' P' N' → a < a' → k a' late' P' N' = R → K none τ) :
    C2 Γ l mX10_goesOn [.ref 284] σ (Rv fun s1_ => (C2 Γ l mX10_tellLaw [.ref 284, .int (nI i)] s1_ (Rv fun s3_ => (K none s3_)))) := by
  have hs := h.1
  have h4 := h.2.1.1.2.2.2.1
  obtain ⟨nb, nc, n1, n2, n40, n46, nLw⟩ := h.2.2.2.2.2.2
  have k40 : ∀ s t, F4 s t → s.1 284 40 = nI (130 * sd + nb) → t.1 284 40 = nI (130 * sd + nb) := fun s t d g => by rw [d.2.1 40 (by omega) (by omega) (by omega) (by omega) (by omega)]; exact g
  have dead12 : ∀ s e x1 x2 x3, FQ sd σ s → s.1 284 40 = nI (130 * sd + nb) → DEr s e → R = .error e → wX10_tellLaw_12 Γ l x1 x2 x3 s (Rv fun s3_ => (K none s3_)) := fun s e x1 x2 x3 d g f z => tX10_tellLaw_12 ⟨fun _ => m_d129 (c0 := 0) hs f g (by omega) (by omega) (fun υ du fu => rv (herr υ e (d.tr du.1) fu z)), fun y => absurd y f.n0⟩
  refine m_goesOn h.2.1 hn0 hn3 hR (fun s e d f z => rv (tX10_tellLaw (m_mustD f (rv (dead12 s e _ _ _ d.fq (k40 _ _ d n40) f z))))) (fun s d hl ha z => rv (tX10_tellLaw ?_))
  have h1 := h.f4 d hl (by omega) (fun z => z)
  refine m_must (c := 5) rfl (by omega) (by omega) hl z (fun t e d2 f z => rv (dead12 t e _ _ _ (d.fq.tr d2.fq) (k40 _ _ d2 (k40 _ _ d n40)) f z)) (fun t d2 hl2 _ ha2 z2 => rv ?_)
  have h2 := h1.f4 d2 hl2 (by omega) (fun z => z)
  have g40 : t.1 284 40 = nI (130 * sd + nb) := k40 _ _ d2 (k40 _ _ d n40)
  have g46 : t.1 284 46 = nI (420 * sd + nc) := by rw [d2.2.1 46 (by omega) (by omega) (by omega) (by omega) (by omega), d.2.1 46 (by omega) (by omega) (by omega) (by omega) (by omega)]; exact n46
  have dt : F4 σ t := d.tr d2
  have e19 : ∀ υ, FLb sd (130 * sd + nb) (420 * sd + nc) t υ → υ.1 284 19 = nI sd := fun υ du => by
    rw [du.2.2.1 19 (by omega) (by omega) (by omega) (by omega) (by omega) (by omega) (by omega) (by omega) (by omega)]
    exact h2.2.2.1
  have ix : (3 : Int32) * nI sd + nI i = nI (3 * sd + i) := by simp (disch := omega) only [nL, nI_add, pk_mul, pk_sub, nI_clamp, nI_leI, nI_ltI, nI_eq]
  have v6 : vp_in (nI (3 * sd + i)) 6 := vp_in_nI (by omega) (by omega)
  rw [g40]
  refine m_lawLoop (σ0 := t) (a2 := a + 1 + 1) (nb := nb) (nc := nc) (late := late) hs (by omega) (by omega) (fun υ e du f z => rv (herr υ e (dt.fq.tr du.1) f z)) (fun τ a3 br w du hl3 q12 q40 q46 qm qb qw q4 qa z3 s6 es6 => ?_) (fun υ du => by rw [e19 υ du, ix]; exact v6) 4 (a + 1 + 1) 0 [] t rfl ⟨FLb.rf, hl2, Nat.le_refl _, h2.2.2.2.1, g40, g46, trivial, by rw [Nat.sub_self]; exact LAi_0, rfl⟩ z2
  rw [e19 τ du, ix, nI_clamp (by omega)] at es6
  have r84 : s6.1 284 = τ.1 284 := by rw [es6, sI_row, sA_off2 _ _ (by omega)]
  rw [r84, e19 τ du, ix, nI_clamp (by omega), q40]
  refine ⟨v6, fun s7 es7 => rv ?_⟩
  have ro : ∀ b, b ≠ 309 → b ≠ 310 → s7.1 b = τ.1 b := fun b b1 b2 => by rw [es7, sI_row, sA_off2 _ _ b2, es6, sI_row, sA_off2 _ _ b1]
  have rj : s7.2 = σ.2 := by
    have : s7.2 = τ.2 := by rw [es7, es6]; rfl
    rw [this, du.2.2.2.2.2, dt.2.2]
  have rs : ∀ b, b ≠ 284 → (b < 309 ∨ 318 < b) → s7.1 b = σ.1 b := fun b b1 b2 => by rw [ro b (by omega) (by omega), du.2.1 b b1 (by omega), dt.1 b b1]
  have u84 : ∀ k, k ≠ 11 → k ≠ 12 → k ≠ 13 → k ≠ 14 → k ≠ 15 → k ≠ 16 → k ≠ 40 → k ≠ 46 → k ≠ 50 → s7.1 284 k = σ.1 284 k := fun k k1 k2 k3 k4 k5 k6 k7 k8 k9 => by
    rw [ro 284 (by omega) (by omega), du.2.2.1 k k1 k2 k3 k4 k5 k6 k7 k8 k9, dt.2.1 k k1 k3 k4 k5 k6]
  have eL : (br ++ [((none : Option (Ex × Ex)), w)]).length = br.length + 1 := by rw [List.length_append]; rfl
  have eC : cL (br ++ [((none : Option (Ex × Ex)), w)]) = cL br + w.length := cL_app br _
  have cle := cL_le br
  have bge := brN_ge br qb
  have wge := okB_ne qw
  have a34 := hl3.1.2.2.2.1
  have fq7 : FQ sd σ s7 := by
    rw [es7, es6]
    exact ((dt.fq.tr du.1).wr (b := 309) hs (by omega) (by omega) (by show 3 * sd ≤ _; omega) (by show _ < 3 * sd + 3; omega)).wr (b := 310) hs (by omega) (by omega) (by show 3 * sd ≤ _; omega) (by show _ < 3 * sd + 3; omega)
  have g309 : ∀ j, s7.1 309 j = if j = 3 * sd + i then nI (130 * sd + nb) else σ.1 309 j := fun j => by
    rw [es7, sI_row, sA_off2 _ _ (by omega), es6, sI_at, du.2.1 309 (by omega) (by omega), dt.1 309 (by omega)]
    simp only [true_and]
  have g310 : ∀ j, s7.1 310 j = if j = 3 * sd + i then nI (130 * sd + nb + br.length + 1) else σ.1 310 j := fun j => by
    rw [es7, sI_at, es6, sI_row, sA_off2 _ _ (by omega), du.2.1 310 (by omega) (by omega), dt.1 310 (by omega)]
    simp only [true_and]
  refine hok s7 a3 late (setL P i (br ++ [(none, w)])) N fq7 ⟨hs, hl3.cg (fun b b1 b2 => ro b (by omega) (by omega)) (by rw [es7, es6]; rfl) (fun k hk => by rw [ro 284 (by omega) (by omega)]), ?_, ?_, ?_, ?_, ?_⟩ (PI_law hi) (by omega) z3
  · rw [u84 19 (by omega) (by omega) (by omega) (by omega) (by omega) (by omega) (by omega) (by omega) (by omega)]
    exact h.2.2.1
  · rw [ro 284 (by omega) (by omega)]
    exact q12
  · exact (h.2.2.2.2.1.cg (late' := late) (fun b b1 b2 => rs b (by omega) (by omega)) (fun z => z) : MPc s7 sd late P)
  · exact h.2.2.2.2.2.1.cg (u84 20 (by omega) (by omega) (by omega) (by omega) (by omega) (by omega) (by omega) (by omega) (by omega)) (rs 293 (by omega) (by omega)) (by rw [rj])
  · refine ⟨nb + br.length + 1, nc + cL br + w.length, by omega, by omega, ?_, ?_, fun k hk => ?_⟩
    · rw [ro 284 (by omega) (by omega), q40]
      congr 1
      omega
    · rw [ro 284 (by omega) (by omega), q46]
      congr 1
      omega
    · by_cases e : k = i
      · subst e
        show MLc s7 sd k (if k = k then br ++ [(none, w)] else plw P k) _ _
        rw [if_pos rfl]
        refine ⟨okL_of br w qb qw, 130 * sd + nb, 130 * sd + nb + br.length + 1, by omega, by rw [g309, if_pos rfl], by rw [g310, if_pos rfl], Or.inr ⟨by rw [eL]; omega, by omega, fun τ' hp => ?_⟩⟩
        refine MBs_br br (130 * sd + nb) (420 * sd + nc) qb (MBs.cg _ _ _ qm (fun d j d1 d2 j1 j2 => ?_) (fun j j1 j2 => ?_)) (by rw [eC]; omega)
        · rw [eL] at j2
          rw [hp.1 d j d1 d2 (by omega) (by omega), ro d (by omega) (by omega)]
        · rw [eC] at j2
          rw [hp.2 316 j (by omega) (by omega) (by omega) (by omega), hp.2 317 j (by omega) (by omega) (by omega) (by omega), ro 316 (by omega) (by omega), ro 317 (by omega) (by omega)]
          exact ⟨rfl, rfl⟩
      · show MLc s7 sd k (if k = i then br ++ [(none, w)] else plw P k) _ _
        rw [if_neg e]
        obtain ⟨ok, f, e', p0, p1, p2, p3⟩ := nLw k hk
        refine ⟨ok, f, e', p0, by rw [g309, if_neg (by omega)]; exact p1, by rw [g310, if_neg (by omega)]; exact p2, ?_⟩
        rcases p3 with p3 | ⟨p3, p4, p5⟩
        · exact Or.inl p3
        · refine Or.inr ⟨p3, p4, fun τ' hp => p5 τ' ⟨fun b j b1 b2 j1 j2 => ?_, fun b j b1 b2 j1 j2 => ?_⟩⟩
          · rw [hp.1 b j b1 b2 j1 (by omega), ro b (by omega) (by omega), du.2.2.2.1 b j b1 b2 j2, dt.1 b (by omega)]
          · have c2 := du.2.2.2.2.1 j j2
            have hb : b = 316 ∨ b = 317 := by omega
            rcases hb with y | y
            · subst y
              rw [hp.2 316 j (by omega) (by omega) j1 (by omega), ro 316 (by omega) (by omega), c2.1, dt.1 316 (by omega)]
            · subst y
              rw [hp.2 317 j (by omega) (by omega) j1 (by omega), ro 317 (by omega) (by omega), c2.2, dt.1 317 (by omega)]
theorem m_tellOne (h : MQr σ sd T a late P N) (hi : PI late P N) (hn0 : tkK T a ≠ 0) (hR : pTell T a late P N k = R)
    (herr : ∀ τ e, FQ sd σ τ → DEr τ e → R = .error e → K none τ)
    (hok : ∀ τ a' late' P' N', FQ sd σ τ → MQr τ sd T a' late' P' N' → PI late' P' N' → a < a' → k a' late' P' N' = R → K none τ) : C2 Γ l mX10_tellOne [.ref 284] σ K := by
  have hs := h.1
  have k42 := (tk_kind T a).2.2
  have r6 := hi.2.1
  have s4 := hi.2.2.1
  have w4 := hi.2.2.2.1
  have t6 := hi.2.2.2.2.1
  have n1 : σ.1 295 sd = nI (pr P) := h.n (j := 1) (by omega)
  have n2 : σ.1 297 sd = nI (pns P) := h.n (j := 2) (by omega)
  have n3 : σ.1 299 sd = nI (pnw P) := h.n (j := 3) (by omega)
  have n4 : σ.1 304 sd = nI (pnt P) := h.n (j := 4) (by omega)
  have he : ∀ τ e, FQ sd σ τ → DEr τ e → R = .error e → Rv (fun s => K none s) none τ := fun τ e f g z => rv (herr τ e f g z)
  have ho : ∀ τ a' late' P' N', FQ sd σ τ → MQr τ sd T a' late' P' N' → PI late' P' N' → a < a' → k a' late' P' N' = R → Rv (fun s => K none s) none τ := fun τ a' late' P' N' f g i j z => rv (hok τ a' late' P' N' f g i j z)
  have kk : ∀ c : Nat, c < 42 → ∀ x : Int32, x = nI c → (nI (tkK T a) = x ↔ tkK T a = c) := fun c hc x hx => by rw [hx, nI_eq (by omega) (by omega)]
  unfold pTell at hR
  refine tX10_tellOne ?_
  rw [h.2.1.1.cl, h.2.1.1.tk.1, h.2.2.1, nI_clamp (n := sd) (by omega), n1, n2, n3, n4, kk 20 (by omega) 20 rfl, kk 21 (by omega) 21 rfl, kk 22 (by omega) 22 rfl, kk 23 (by omega) 23 rfl, kk 27 (by omega) 27 rfl, kk 28 (by omega) 28 rfl, kk 29 (by omega) 29 rfl]
  have v2 : vp_in (nI sd) 2 := vp_in_nI (by omega) (by omega)
  refine ⟨h.2.1.1.v, fun q => ⟨v2, ?_⟩, fun q => ⟨v2, ?_⟩, fun q => ⟨v2, ?_⟩, fun q => ⟨v2, ?_⟩, fun q => ?_, fun q => ?_, fun q => ?_, fun q0 q1 q2 q3 q7 q8 q9 => ?_⟩
  · rw [if_pos q] at hR
    refine m_roomFor (y := 6) r6 (by omega) h.2.1 hn0 (by omega) hR (fun τ e d f z => rv ⟨fun _ => herr τ e d.fq f z, fun y => absurd y f.n0⟩) (fun τ d hl hlt ha z => rv ⟨fun y => absurd hl.1.2.2.2.2.2 y, fun _ => ?_⟩)
    exact m_tellRow (h.f4 d hl (by omega) (fun z => z)) hi hlt z (fun τ e f g z => rv (herr τ e (d.fq.tr f) g z)) (fun τ a' late' P' N' f g i j z => rv (hok τ a' late' P' N' (d.fq.tr f) g i (by omega) z))
  · rw [if_neg (by omega), if_pos q] at hR
    refine m_roomFor (y := 4) s4 (by omega) h.2.1 hn0 (by omega) hR (fun τ e d f z => rv ⟨fun _ => herr τ e d.fq f z, fun y => absurd y f.n0⟩) (fun τ d hl hlt ha z => rv ⟨fun y => absurd hl.1.2.2.2.2.2 y, fun _ => ?_⟩)
    exact m_tellSign (h.f4 d hl (by omega) (fun z => z)) hi hlt z (fun τ e f g z => rv (herr τ e (d.fq.tr f) g z)) (fun τ a' late' P' N' f g i j z => rv (hok τ a' late' P' N' (d.fq.tr f) g i (by omega) z))
  · rw [if_neg (by omega), if_neg (by omega), if_pos q] at hR
    refine m_roomFor (y := 4) w4 (by omega) h.2.1 hn0 (by omega) hR (fun τ e d f z => rv ⟨fun _ => herr τ e d.fq f z, fun y => absurd y f.n0⟩) (fun τ d hl hlt ha z => rv ⟨fun y => absurd hl.1.2.2.2.2.2 y, fun _ => ?_⟩)
    exact m_tellWindow (h.f4 d hl (by omega) (fun z => z)) hi hlt z (fun τ e f g z => rv (herr τ e (d.fq.tr f) g z)) (fun τ a' late' P' N' f g i j z => rv (hok τ a' late' P' N' (d.fq.tr f) g i (by omega) z))
  · rw [if_neg (by omega), if_neg (by omega), if_neg (by omega), if_pos q] at hR
    refine m_roomFor (y := 6) t6 (by omega) h.2.1 hn0 (by omega) hR (fun τ e d f z => rv ⟨fun _ => herr τ e d.fq f z, fun y => absurd y f.n0⟩) (fun τ d hl hlt ha z => rv ⟨fun y => absurd hl.1.2.2.2.2.2 y, fun _ => ?_⟩)
    exact m_tellTalk (h.f4 d hl (by omega) (fun z => z)) hi hlt z (fun τ e f g z => rv (herr τ e (d.fq.tr f) g z)) (fun τ a' late' P' N' f g i j z => rv (hok τ a' late' P' N' (d.fq.tr f) g i (by omega) z))
  · rw [if_neg (by omega), if_neg (by omega), if_neg (by omega), if_neg (by omega), if_neg (by omega), if_neg (by omega), if_neg (by omega), if_pos q] at hR
    exact m_num (i := 5) (m := 99) rfl (by omega) h hi hn0 (by omega) hR herr hok
  · rw [if_neg (by omega), if_neg (by omega), if_neg (by omega), if_neg (by omega), if_neg (by omega), if_neg (by omega), if_neg (by omega), if_neg (by omega), if_pos q] at hR
    exact m_rain h hi hn0 (by omega) hR herr hok
  · rw [if_neg (by omega), if_neg (by omega), if_neg (by omega), if_neg (by omega), if_neg (by omega), if_neg (by omega), if_neg (by omega), if_neg (by omega), if_neg (by omega), if_pos q] at hR
    exact m_num (i := 8) (m := 9999) rfl (by omega) h hi hn0 (by omega) hR herr hok
  · obtain ⟨d1, d2, d3⟩ := kd24 _ k42
    rw [d1, d3]
    have bad : ¬ (24 ≤ tkK T a ∧ tkK T a ≤ 26) → ∀ x, wX10_tellOne_310 Γ l x σ K := fun hb x => by
      rw [if_neg (by omega), if_neg (by omega), if_neg (by omega), if_neg (by omega), if_neg (by omega), if_neg (by omega), if_neg (by omega), if_neg (by omega), if_neg (by omega), if_neg (by omega)] at hR
      exact tX10_tellOne_310 (m_fail (n := 1) h.2.1.1 (Or.inl rfl) (fun τ d f _ => rv (tX10_tellOne_315 ⟨fun y => absurd y f.nle, fun _ => herr τ _ d.fq f hR.symm⟩)))
    refine ⟨h.2.1.1.v, fun y => bad (by omega) _, fun y => ⟨h.2.1.1.v, fun y2 => ?_, fun y2 => bad (by omega) _⟩⟩
    rw [d2 y]
    refine tX10_tellOne_315 ⟨fun _ => ?_, fun y => absurd (by rw [h.2.1.1.2.2.2.2.2]; decide) y⟩
    have hk : tkK T a = 24 ∨ tkK T a = 25 ∨ tkK T a = 26 := by omega
    rcases hk with z | z | z
    · rw [if_neg (by omega), if_neg (by omega), if_neg (by omega), if_neg (by omega), if_pos z] at hR
      rw [z]
      exact m_tellLawQ (i := 0) (by omega) h hi hn0 (by omega) hR herr hok
    · rw [if_neg (by omega), if_neg (by omega), if_neg (by omega), if_neg (by omega), if_neg (by omega), if_pos z] at hR
      rw [z]
      exact m_tellLawQ (i := 1) (by omega) h hi hn0 (by omega) hR herr hok
    · rw [if_neg (by omega), if_neg (by omega), if_neg (by omega), if_neg (by omega), if_neg (by omega), if_neg (by omega), if_pos z] at hR
      rw [z]
      exact m_tellLawQ (i := 2) (by omega) h hi hn0 (by omega) hR herr hok
end M29
