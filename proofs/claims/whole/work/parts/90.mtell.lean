/-! the model: what is told -/
def wdB (b : Nat) : Nat := if b = 296 then 48 else if b = 298 then 36 else if 300 ≤ b ∧ b ≤ 303 then 4 else if b = 309 ∨ b = 310 then 3 else if 311 ≤ b ∧ b ≤ 315 then 130 else if b = 316 ∨ b = 317 then 420 else 1
/-- what reading into side sd may change -/
def FQ (sd : Nat) (σ τ : SS) : Prop :=
  (∀ b, b ≠ 284 → b ≠ 293 → (b < 294 ∨ 318 < b) → τ.1 b = σ.1 b) ∧ (∀ k, k ≠ 11 → k ≠ 12 → k ≠ 13 → k ≠ 14 → k ≠ 15 → k ≠ 16 → k ≠ 20 → k ≠ 40 → k ≠ 46 → k ≠ 50 → τ.1 284 k = σ.1 284 k) ∧ (∀ b j, 294 ≤ b → b ≤ 317 → wdB b * (1 - sd) ≤ j → j < wdB b * (1 - sd) + wdB b → τ.1 b j = σ.1 b j) ∧ (∀ b, b ≠ 292 → τ.2.1 b = σ.2.1 b) ∧ τ.2.2 = σ.2.2
theorem FQ.rf {sd : Nat} {σ : SS} : FQ sd σ σ := ⟨fun _ _ _ _ => rfl, fun _ _ _ _ _ _ _ _ _ _ _ => rfl, fun _ _ _ _ _ _ => rfl, fun _ _ => rfl, rfl⟩
theorem FQ.tr {sd : Nat} {σ τ υ : SS} (h : FQ sd σ τ) (g : FQ sd τ υ) : FQ sd σ υ := ⟨fun b b1 b2 b3 => (g.1 b b1 b2 b3).trans (h.1 b b1 b2 b3), fun k a1 a2 a3 a4 a5 a6 a7 a8 a9 a10 => (g.2.1 k a1 a2 a3 a4 a5 a6 a7 a8 a9 a10).trans (h.2.1 k a1 a2 a3 a4 a5 a6 a7 a8 a9 a10), fun b j b1 b2 b3 b4 => (g.2.2.1 b j b1 b2 b3 b4).trans (h.2.2.1 b j b1 b2 b3 b4), fun b hb => (g.2.2.2.1 b hb).trans (h.2.2.2.1 b hb), g.2.2.2.2.trans h.2.2.2.2⟩
theorem F4.fq {sd : Nat} {σ τ : SS} (h : F4 σ τ) : FQ sd σ τ := ⟨fun b b1 _ _ => h.1 b b1, fun k a1 a2 a3 a4 a5 a6 a7 a8 a9 a10 => h.2.1 k a1 a3 a4 a5 a6, fun b j b1 b2 _ _ => by rw [h.1 b (by omega)], fun b _ => by rw [h.2.2], by rw [h.2.2]⟩
theorem FQ.wf {sd k : Nat} {v : Int32} {σ τ : SS} (h : FQ sd σ τ) (hk : k = 11 ∨ k = 12 ∨ k = 13 ∨ k = 14 ∨ k = 15 ∨ k = 16 ∨ k = 20 ∨ k = 40 ∨ k = 46 ∨ k = 50) : FQ sd σ (sI τ 284 k v) := ⟨fun b b1 b2 b3 => by rw [sI_row, sA_off2 _ _ b1]; exact h.1 b b1 b2 b3, fun j a1 a2 a3 a4 a5 a6 a7 a8 a9 a10 => by rw [sI_at, if_neg (by omega)]; exact h.2.1 j a1 a2 a3 a4 a5 a6 a7 a8 a9 a10, fun b j b1 b2 b3 b4 => by rw [sI_row, sA_off2 _ _ (by omega)]; exact h.2.2.1 b j b1 b2 b3 b4, h.2.2.2.1, h.2.2.2.2⟩
theorem FQ.w3 {sd k b : Nat} {v : Int32} {σ τ : SS} (h : FQ sd σ τ) (hb : b = 293 ∨ b = 318) : FQ sd σ (sI τ b k v) := ⟨fun c b1 b2 b3 => by rw [sI_row, sA_off2 _ _ (by omega)]; exact h.1 c b1 b2 b3, fun j a1 a2 a3 a4 a5 a6 a7 a8 a9 a10 => by rw [sI_at, if_neg (by omega)]; exact h.2.1 j a1 a2 a3 a4 a5 a6 a7 a8 a9 a10, fun c j b1 b2 b3 b4 => by rw [sI_row, sA_off2 _ _ (by omega)]; exact h.2.2.1 c j b1 b2 b3 b4, h.2.2.2.1, h.2.2.2.2⟩
theorem FQ.wJ {sd k : Nat} {v : Int64} {σ τ : SS} (h : FQ sd σ τ) : FQ sd σ (sJ τ 292 k v) := ⟨h.1, h.2.1, h.2.2.1, fun b hb => by
    have : (sJ τ 292 k v).2.1 b = τ.2.1 b := by
      funext j
      rw [sJ_at, if_neg (fun z => hb z.1)]
    rw [this]
    exact h.2.2.2.1 b hb, h.2.2.2.2⟩
theorem FQ.wr {sd b j : Nat} {v : Int32} {σ τ : SS} (h : FQ sd σ τ) (hs : sd ≤ 1) (h1 : 294 ≤ b) (h2 : b ≤ 317) (h3 : wdB b * sd ≤ j) (h4 : j < wdB b * sd + wdB b) : FQ sd σ (sI τ b j v) := ⟨fun c b1 b2 b3 => by rw [sI_row, sA_off2 _ _ (by omega)]; exact h.1 c b1 b2 b3, fun i a1 a2 a3 a4 a5 a6 a7 a8 a9 a10 => by rw [sI_at, if_neg (by omega)]; exact h.2.1 i a1 a2 a3 a4 a5 a6 a7 a8 a9 a10, fun c i b1 b2 b3 b4 => by
    rw [sI_at, if_neg ?_]
    · exact h.2.2.1 c i b1 b2 b3 b4
    · rintro ⟨z1, z2⟩
      subst z1
      subst z2
      have : sd = 0 ∨ sd = 1 := by omega
      generalize wdB c = w at *
      rcases this with z | z <;> subst z <;> simp at h3 h4 b3 b4 <;> omega, h.2.2.2.1, h.2.2.2.2⟩
/-- the row that holds a number of the plan -/
def nR (j : Nat) : Nat := if j = 0 then 294 else if j = 1 then 295 else if j = 2 then 297 else if j = 3 then 299 else 300 + j
def MPc (σ : SS) (sd : Nat) (late : LF) (P : PV) : Prop := (∀ j, j < 9 → σ.1 (nR j) sd = nI (P.1 j 0)) ∧ (late = none → ∀ x y, x < pw P → y < pr P → σ.1 296 (48 * sd + 8 * y + x) = psun P x y) ∧ (late = none → ∀ s k, s < pns P → k < 9 → σ.1 298 (9 * (4 * sd + s) + k) = bI (pcut P s k)) ∧ (∀ w, w < pnw P → σ.1 300 (4 * sd + w) = nI (pfr P w) ∧ σ.1 301 (4 * sd + w) = nI (pto P w) ∧ σ.1 302 (4 * sd + w) = nI (psh P w)) ∧ (∀ w, w < 4 → σ.1 303 (4 * sd + w) = nI (ptk P w))
def tgI (t : Nat) : Int32 := if t = 0 then -1 else nI (t - 1)
def MNm (σ : SS) (N : Nms) : Prop := σ.1 284 20 = nI N.length ∧ ∀ i (h : i < N.length), σ.2.1 292 i = lN (nmM N[i].1) ∧ σ.1 293 i = tgI N[i].2
/-- the first nb branches and nc codes of side sd are as they were -/
def PrA (sd nb nc : Nat) (σ τ : SS) : Prop := (∀ b j, 311 ≤ b → b ≤ 315 → 130 * sd ≤ j → j < 130 * sd + nb → τ.1 b j = σ.1 b j) ∧ (∀ b j, 316 ≤ b → b ≤ 317 → 420 * sd ≤ j → j < 420 * sd + nc → τ.1 b j = σ.1 b j)
def MLc (σ : SS) (sd k : Nat) (V : LawV) (nb nc : Nat) : Prop := okL V ∧ ∃ f e, e ≤ 260 ∧ σ.1 309 (3 * sd + k) = nI f ∧ σ.1 310 (3 * sd + k) = nI e ∧ ((f = e ∧ V = dfl k) ∨ (e = f + V.length ∧ f < e ∧ ∀ τ, PrA sd nb nc σ τ → MBr τ f V))
def MLz (σ : SS) (sd a : Nat) (P : PV) : Prop := ∃ nb nc, 4 * nb ≤ a ∧ nc ≤ a ∧ σ.1 284 40 = nI (130 * sd + nb) ∧ σ.1 284 46 = nI (420 * sd + nc) ∧ ∀ k, k < 3 → MLc σ sd k (plw P k) nb nc
def MQr (σ : SS) (sd : Nat) (T : List Nat) (a : Nat) (late : LF) (P : PV) (N : Nms) : Prop := sd ≤ 1 ∧ Lv1 σ T a late ∧ σ.1 284 19 = nI sd ∧ σ.1 284 12 = 0 ∧ MPc σ sd late P ∧ MNm σ N ∧ MLz σ sd a P
theorem MLc.cg {σ τ : SS} {sd k nb nc : Nat} {V : LawV} (h : MLc σ sd k V nb nc) (r : ∀ b, 309 ≤ b → b ≤ 317 → τ.1 b = σ.1 b) : MLc τ sd k V nb nc := by
  obtain ⟨ok, f, e, h0, h1, h2, h3⟩ := h
  refine ⟨ok, f, e, h0, by rw [r 309 (by omega) (by omega)]; exact h1, by rw [r 310 (by omega) (by omega)]; exact h2, ?_⟩
  rcases h3 with h3 | ⟨h3, h4, h5⟩
  · exact Or.inl h3
  · exact Or.inr ⟨h3, h4, fun υ hu => h5 υ ⟨fun b j b1 b2 j1 j2 => by rw [← r b (by omega) (by omega)]; exact hu.1 b j b1 b2 j1 j2, fun b j b1 b2 j1 j2 => by rw [← r b (by omega) (by omega)]; exact hu.2 b j b1 b2 j1 j2⟩⟩
theorem MLz.cg {σ τ : SS} {sd a b : Nat} {P P' : PV} (h : MLz σ sd a P) (hb : a ≤ b) (h40 : τ.1 284 40 = σ.1 284 40) (h46 : τ.1 284 46 = σ.1 284 46) (r : ∀ b, 309 ≤ b → b ≤ 317 → τ.1 b = σ.1 b) (e : P'.2.2 = P.2.2) : MLz τ sd b P' := by
  obtain ⟨nb, nc, h1, h2, h3, h4, h5⟩ := h
  refine ⟨nb, nc, by omega, by omega, by rw [h40]; exact h3, by rw [h46]; exact h4, fun k hk => ?_⟩
  unfold plw
  rw [e]
  exact (h5 k hk).cg r
theorem MPc.cg {σ τ : SS} {sd : Nat} {late late' : LF} {P : PV} (h : MPc σ sd late P) (r : ∀ b, 294 ≤ b → b ≤ 308 → τ.1 b = σ.1 b) (hl : late' = none → late = none) : MPc τ sd late' P := by
  obtain ⟨h1, h2, h3, h4, h5⟩ := h
  have hn : ∀ j, j < 9 → 294 ≤ nR j ∧ nR j ≤ 308 := by decide
  refine ⟨fun j hj => by rw [r _ (hn j hj).1 (hn j hj).2]; exact h1 j hj, fun z => by rw [r 296 (by omega) (by omega)]; exact h2 (hl z), fun z => by rw [r 298 (by omega) (by omega)]; exact h3 (hl z), ?_, ?_⟩
  · rw [r 300 (by omega) (by omega), r 301 (by omega) (by omega), r 302 (by omega) (by omega)]
    exact h4
  · rw [r 303 (by omega) (by omega)]
    exact h5
theorem MNm.cg {σ τ : SS} {N : Nms} (h : MNm σ N) (h1 : τ.1 284 20 = σ.1 284 20) (h2 : τ.1 293 = σ.1 293) (h3 : τ.2.1 292 = σ.2.1 292) : MNm τ N := by
  unfold MNm
  rw [h1, h2, h3]
  exact h
theorem MQr.f4 {σ τ : SS} {sd a a' : Nat} {T : List Nat} {late late' : LF} {P : PV} {N : Nms} (h : MQr σ sd T a late P N) (d : F4 σ τ) (hl : Lv1 τ T a' late') (ha : a ≤ a') (hn : late' = none → late = none) : MQr τ sd T a' late' P N := by
  obtain ⟨h1, h2, h3, h4, h5, h6, h7⟩ := h
  exact ⟨h1, hl, by rw [d.2.1 19 (by omega) (by omega) (by omega) (by omega) (by omega)]; exact h3, by rw [d.2.1 12 (by omega) (by omega) (by omega) (by omega) (by omega)]; exact h4, h5.cg (fun b b1 b2 => d.1 b (by omega)) hn, h6.cg (d.2.1 20 (by omega) (by omega) (by omega) (by omega) (by omega)) (d.1 293 (by omega)) (by rw [d.2.2]), h7.cg ha (d.2.1 40 (by omega) (by omega) (by omega) (by omega) (by omega)) (d.2.1 46 (by omega) (by omega) (by omega) (by omega) (by omega)) (fun b b1 b2 => d.1 b (by omega)) rfl⟩
theorem Lv0.cg {σ τ : SS} {T : List Nat} {a : Nat} (h : Lv0 σ T a) (r : ∀ b, 287 ≤ b → b ≤ 289 → τ.1 b = σ.1 b) (r2 : τ.2.1 290 = σ.2.1 290) (h1 : τ.1 284 11 = σ.1 284 11) (h2 : τ.1 284 13 = σ.1 284 13) : Lv0 τ T a := by
  unfold Lv0 MKt
  rw [h1, h2, r 287 (by omega) (by omega), r 288 (by omega) (by omega), r 289 (by omega) (by omega), r2]
  exact h
theorem Lv1.cg {σ τ : SS} {T : List Nat} {a : Nat} {late : LF} (h : Lv1 σ T a late) (r : ∀ b, 287 ≤ b → b ≤ 289 → τ.1 b = σ.1 b) (r2 : τ.2.1 290 = σ.2.1 290) (h1 : ∀ k, k = 11 ∨ k = 13 ∨ k = 15 ∨ k = 16 → τ.1 284 k = σ.1 284 k) : Lv1 τ T a late :=
  ⟨h.1.cg r r2 (h1 11 (by omega)) (h1 13 (by omega)), h.2.cg (h1 15 (by omega)) (h1 16 (by omega))⟩
section M21
variable {Γ : GE} {l : Launch} {σ τ : SS} {K : Option Value → SS → Prop} {T : List Nat} {sd a : Nat} {late : LF} {P : PV} {N : Nms} {ρ : Type} {R : Rs ρ} {k : Kt3 ρ} {e : Nat × Nat}
theorem MQr.vs (h : MQr σ sd T a late P N) : vp_in (σ.1 284 19) 2 ∧ Int32.toNatClampNeg (σ.1 284 19) = sd := by
  have := h.1
  rw [h.2.2.1]
  exact ⟨vp_in_nI (by omega) (by omega), nI_clamp (by omega)⟩
theorem m_roomFor {x y : Nat} {k : Nat → Rs ρ} (hxy : x ≤ y) (hy : y < 100) (h : Lv1 σ T a late) (hn0 : tkK T a ≠ 0) (hn3 : tkK T a ≠ 3) (hR : (if y ≤ x then .error (2, tkP T a) else pPass T a k) = R)
    (herr : ∀ τ e, F4 σ τ → DEr τ e → R = .error e → K none τ)
    (hok : ∀ τ, F4 σ τ → Lv1 τ T (a + 1) late → x < y → a < 400 → k (a + 1) = R → K none τ) : C2 Γ l mX10_roomFor [.ref 284, .int (nI x), .int (nI y)] σ K := by
  refine tX10_roomFor ?_
  rw [nI_eq (by omega) (by omega)]
  refine ⟨fun q => ⟨fun z => absurd h.1.2.2.2.2.2 z, fun _ => ?_⟩, fun q => m_fail (n := 2) h.1 (Or.inr rfl) (fun τ d f _ => rv ⟨fun _ => ?_, fun z => absurd z f.n0⟩)⟩
  · rw [if_neg (by omega)] at hR
    exact m_goesOn h hn0 hn3 hR (fun τ e d f z => rv (herr τ e d f z)) (fun τ d hl ha z => rv (hok τ d hl (by omega) ha z))
  · rw [if_pos (by omega)] at hR
    exact herr τ _ d f hR.symm
/-- a number of the plan is set -/
theorem MQr.num {j v : Nat} (h : MQr σ sd T a late P N) (hj : j = 0 ∧ pr P = 0 ∨ j = 4 ∨ j = 5 ∨ j = 6 ∨ j = 7 ∨ j = 8) : MQr (sI σ (nR j) sd (nI v)) sd T a late (setP P j 0 v) N := by
  obtain ⟨h1, h2, h3, h4, ⟨b1, b2, b3, b4, b5⟩, h6, h7⟩ := h
  have hn : nR j = 294 ∨ (304 ≤ nR j ∧ nR j ≤ 308) := by
    unfold nR
    repeat' split
    all_goals omega
  have ro : ∀ b, b ≠ nR j → (sI σ (nR j) sd (nI v)).1 b = σ.1 b := fun b hb => by rw [sI_row, sA_off2 _ _ hb]
  have e : ∀ a b, a ≠ j → (setP P j 0 v).1 a b = P.1 a b := fun a b ha => by
    show (if a = j ∧ b = 0 then v else P.1 a b) = _
    rw [if_neg (fun z => ha z.1)]
  refine ⟨h1, h2.cg (fun b b1 b2 => ro b (by omega)) rfl (fun k hk => by rw [ro 284 (by omega)]), by rw [ro 284 (by omega)]; exact h3, by rw [ro 284 (by omega)]; exact h4, ⟨fun i hi => ?_, fun z x y hx hy => ?_, fun z s k hs hk => ?_, fun w hw => ?_, fun w hw => ?_⟩, h6.cg (by rw [ro 284 (by omega)]) (ro 293 (by omega)) rfl, h7.cg (Nat.le_refl _) (by rw [ro 284 (by omega)]) (by rw [ro 284 (by omega)]) (fun b b1 b2 => ro b (by omega)) rfl⟩
  · rw [sI_at]
    show _ = nI (if i = j ∧ 0 = 0 then v else P.1 i 0)
    by_cases g : i = j
    · rw [if_pos ⟨by rw [g], rfl⟩, if_pos ⟨g, rfl⟩]
    · have : nR i ≠ nR j := fun z => g ((by decide : ∀ i, i < 9 → ∀ j, j < 9 → nR i = nR j → i = j) i hi j (by omega) z)
      rw [if_neg (fun z => this z.1), if_neg (fun z => g z.1)]
      exact b1 i hi
  · rw [ro 296 (by omega)]
    have e1 : pr (setP P j 0 v) = pr P := e 1 0 (by omega)
    rw [e1] at hy
    by_cases c : j = 0
    · omega
    · have e0 : pw (setP P j 0 v) = pw P := e 0 0 (by omega)
      rw [e0] at hx
      exact b2 z x y hx hy
  · rw [ro 298 (by omega)]
    have e2 : pns (setP P j 0 v) = pns P := e 2 0 (by omega)
    rw [e2] at hs
    have : pcut (setP P j 0 v) s k = pcut P s k := by
      unfold pcut
      rw [show psg (setP P j 0 v) s = psg P s from e 13 s (by omega)]
    rw [this]
    exact b3 z s k hs hk
  · rw [ro 300 (by omega), ro 301 (by omega), ro 302 (by omega), show pfr (setP P j 0 v) w = pfr P w from e 9 w (by omega), show pto (setP P j 0 v) w = pto P w from e 10 w (by omega), show psh (setP P j 0 v) w = psh P w from e 11 w (by omega)]
    exact b4 w (by rw [show pnw (setP P j 0 v) = pnw P from e 3 0 (by omega)] at hw; exact hw)
  · rw [ro 303 (by omega), show ptk (setP P j 0 v) w = ptk P w from e 12 w (by omega)]
    exact b5 w hw
theorem blm_n {n q : Nat} {c : Bool} (h : blm late c n q = none) : late = none := (blm_none h).1
theorem wd1 {j : Nat} (hj : j = 0 ∨ j = 1 ∨ j = 2 ∨ j = 3 ∨ j = 4 ∨ j = 5 ∨ j = 6 ∨ j = 7 ∨ j = 8) : wdB (nR j) = 1 ∧ 294 ≤ nR j ∧ nR j ≤ 317 := by
  rcases hj with z | z | z | z | z | z | z | z | z <;> subst z <;> decide
theorem MQr.fqn {j : Nat} {x : Int32} (hs : sd ≤ 1) (hj : j = 0 ∨ j = 1 ∨ j = 2 ∨ j = 3 ∨ j = 4 ∨ j = 5 ∨ j = 6 ∨ j = 7 ∨ j = 8) (d : FQ sd σ τ) : FQ sd σ (sI τ (nR j) sd x) := by
  obtain ⟨w1, w2, w3⟩ := wd1 hj
  exact d.wr hs w2 w3 (by rw [w1]; omega) (by rw [w1]; omega)
/-- the last token of a tell -/
theorem m_end {k1 : Nat → Rs ρ} (h : MQr σ sd T a late P N) (hR : pTake T 4 a k1 = R) (herr : ∀ τ e, FQ sd σ τ → DEr τ e → R = .error e → K none τ) (hok : ∀ τ, FQ sd σ τ → MQr τ sd T (a + 1) late P N → k1 (a + 1) = R → K none τ) : C2 Γ l mX10_must [.ref 284, .int 4] σ K :=
  m_must (c := 4) rfl (by omega) (by omega) h.2.1 hR (fun τ e d f z => herr τ e d.fq f z) (fun τ d hl _ ha z => hok τ d.fq (h.f4 d hl (by omega) (fun z => z)) z)
/-- height, seed -/
theorem m_num {m i : Nat} {x : Int32} (hx : x = nI m) (hi2 : (i = 5 ∧ m = 99) ∨ (i = 8 ∧ m = 9999)) (h : MQr σ sd T a late P N) (hi : PI late P N) (hn0 : tkK T a ≠ 0) (hn3 : tkK T a ≠ 3) (hR : pNum T a i m late P N k = R)
    (herr : ∀ τ e, FQ sd σ τ → DEr τ e → R = .error e → K none τ)
    (hok : ∀ τ a' late' P' N', FQ sd σ τ → MQr τ sd T a' late' P' N' → PI late' P' N' → a < a' → k a' late' P' N' = R → K none τ) :
    C2 Γ l mX10_goesOn [.ref 284] σ (Rv fun s17_ => (C2 Γ l mX10_bounded [.ref 284, .int 0, .int x] s17_ (Ri fun r20_ s19_ => (vp_in (s17_.1 284 19) 2 ∧ (∀ s21_ : SS, s21_ = sI s19_ (nR i) (Int32.toNatClampNeg (s17_.1 284 19)) r20_ → (C2 Γ l mX10_must [.ref 284, .int 4] s21_ (Rv fun s22_ => (K none s22_)))))))) := by
  have hs := h.1
  have dead : ∀ υ s e r, FQ sd σ υ → υ.1 284 19 = nI sd → DEr s e → F4 υ s → R = .error e → (vp_in (υ.1 284 19) 2 ∧ (∀ s21_ : SS, s21_ = sI s (nR i) (Int32.toNatClampNeg (υ.1 284 19)) r → (C2 Γ l mX10_must [.ref 284, .int 4] s21_ (Rv fun s22_ => (K none s22_))))) := fun υ s e r d g f d2 z => by
    rw [g, nI_clamp (by omega)]
    have hn : nR i ≠ 284 := by rcases hi2 with y | y <;> rw [y.1] <;> decide
    refine ⟨vp_in_nI (by omega) (by omega), fun s21 e21 => m_mustD (f.cg (by rw [e21, sI_row, sA_off2 _ _ (Ne.symm hn)]) (by rw [e21, sI_row, sA_off2 _ _ (Ne.symm hn)])) (rv (herr s21 e (by rw [e21]; exact MQr.fqn hs (by omega) (d.tr d2.fq)) (f.cg (by rw [e21, sI_row, sA_off2 _ _ (Ne.symm hn)]) (by rw [e21, sI_row, sA_off2 _ _ (Ne.symm hn)])) z))⟩
  refine m_goesOn h.2.1 hn0 hn3 hR (fun τ e d f z => rv (m_boundedD f (ri (dead τ τ e _ d.fq (by rw [d.2.1 19 (by omega) (by omega) (by omega) (by omega) (by omega)]; exact h.2.2.1) f F4.rf z)))) (fun τ d hl ha z => rv ?_)
  have h1 := h.f4 d hl (by omega) (fun z => z)
  refine m_bounded hx (by omega) hl z (fun υ e r d2 f y => ri (dead τ υ e r d.fq h1.2.2.1 f d2 y)) (fun υ d2 hl2 hv _ y => ri ?_)
  have h2 := h1.f4 d2 hl2 (by omega) blm_n
  rw [h1.2.2.1, nI_clamp (by omega)]
  refine ⟨vp_in_nI (by omega) (by omega), fun s21 e21 => ?_⟩
  have h3 := h2.num (j := i) (v := tkV T (a + 1)) (by omega)
  rw [← e21] at h3
  have fq : FQ sd σ s21 := by
    rw [e21]
    exact MQr.fqn hs (by omega) (d.fq.tr d2.fq)
  refine m_end h3 y (fun ξ e dx f t => rv (herr ξ e (fq.tr dx) f t)) (fun ξ dx hx t => rv (hok ξ _ _ _ _ (fq.tr dx) hx (PI_num (by omega) hi (fun w => ?_)) (by omega) t))
  obtain ⟨y1, y2⟩ := blm_none w
  simp only [decide_eq_false_iff_not] at y2
  refine ⟨y1, ?_⟩
  rcases hi2 with ⟨e1, e2⟩ | ⟨e1, e2⟩
  · subst e1
    subst e2
    rw [if_pos rfl]
    omega
  · subst e1
    subst e2
    rw [if_neg (by decide), if_neg (by decide), if_neg (by decide)]
    omega
theorem m_rain (h : MQr σ sd T a late P N) (hi : PI late P N) (hn0 : tkK T a ≠ 0) (hn3 : tkK T a ≠ 3) (hR : pRain T a late P N k = R)
    (herr : ∀ τ e, FQ sd σ τ → DEr τ e → R = .error e → K none τ)
    (hok : ∀ τ a' late' P' N', FQ sd σ τ → MQr τ sd T a' late' P' N' → PI late' P' N' → a < a' → k a' late' P' N' = R → K none τ) :
    C2 Γ l mX10_goesOn [.ref 284] σ (Rv fun s24_ => (C2 Γ l mX10_bounded [.ref 284, .int 0, .int 100] s24_ (Ri fun r27_ s26_ => (vp_in (s24_.1 284 19) 2 ∧ (∀ s28_ : SS, s28_ = sI s26_ 306 (Int32.toNatClampNeg (s24_.1 284 19)) r27_ → (C2 Γ l mX10_bounded [.ref 284, .int 0, .int 9] s28_ (Ri fun r30_ s29_ => (vp_in (s28_.1 284 19) 2 ∧ (∀ s31_ : SS, s31_ = sI s29_ 307 (Int32.toNatClampNeg (s28_.1 284 19)) r30_ → (C2 Γ l mX10_must [.ref 284, .int 4] s31_ (Rv fun s32_ => (K none s32_)))))))))))) := by
  have hs := h.1
  have dead2 : ∀ υ s e r, FQ sd σ υ → υ.1 284 19 = nI sd → DEr s e → F4 υ s → R = .error e → (vp_in (υ.1 284 19) 2 ∧ (∀ s21_ : SS, s21_ = sI s 307 (Int32.toNatClampNeg (υ.1 284 19)) r → (C2 Γ l mX10_must [.ref 284, .int 4] s21_ (Rv fun s22_ => (K none s22_))))) := fun υ s e r d g f d2 z => by
    rw [g, nI_clamp (by omega)]
    refine ⟨vp_in_nI (by omega) (by omega), fun s21 e21 => m_mustD (f.cg (by rw [e21, sI_row, sA_off2 _ _ (by omega)]) (by rw [e21, sI_row, sA_off2 _ _ (by omega)])) (rv (herr s21 e (by rw [e21]; exact MQr.fqn (j := 7) hs (by omega) (d.tr d2.fq)) (f.cg (by rw [e21, sI_row, sA_off2 _ _ (by omega)]) (by rw [e21, sI_row, sA_off2 _ _ (by omega)])) z))⟩
  have dead : ∀ υ s e r, FQ sd σ υ → υ.1 284 19 = nI sd → DEr s e → F4 υ s → R = .error e → (vp_in (υ.1 284 19) 2 ∧ (∀ s28_ : SS, s28_ = sI s 306 (Int32.toNatClampNeg (υ.1 284 19)) r → (C2 Γ l mX10_bounded [.ref 284, .int 0, .int 9] s28_ (Ri fun r30_ s29_ => (vp_in (s28_.1 284 19) 2 ∧ (∀ s31_ : SS, s31_ = sI s29_ 307 (Int32.toNatClampNeg (s28_.1 284 19)) r30_ → (C2 Γ l mX10_must [.ref 284, .int 4] s31_ (Rv fun s32_ => (K none s32_))))))))) := fun υ s e r d g f d2 z => by
    rw [g, nI_clamp (by omega)]
    refine ⟨vp_in_nI (by omega) (by omega), fun s28 e28 => ?_⟩
    have r28 : s28.1 284 = s.1 284 := by rw [e28, sI_row, sA_off2 _ _ (by omega)]
    have f28 : DEr s28 e := f.cg (by rw [r28]) (by rw [r28])
    exact m_boundedD f28 (ri (dead2 s28 s28 e _ (by rw [e28]; exact MQr.fqn (j := 6) hs (by omega) (d.tr d2.fq)) (by rw [r28, d2.2.1 19 (by omega) (by omega) (by omega) (by omega) (by omega)]; exact g) f28 F4.rf z))
  refine m_goesOn h.2.1 hn0 hn3 hR (fun τ e d f z => rv (m_boundedD f (ri (dead τ τ e _ d.fq (by rw [d.2.1 19 (by omega) (by omega) (by omega) (by omega) (by omega)]; exact h.2.2.1) f F4.rf z)))) (fun τ d hl ha z => rv ?_)
  have h1 := h.f4 d hl (by omega) (fun z => z)
  refine m_bounded (hi := 100) rfl (by omega) hl z (fun υ e r d2 f y => ri (dead τ υ e r d.fq h1.2.2.1 f d2 y)) (fun υ d2 hl2 hv _ y => ri ?_)
  have h2 := h1.f4 d2 hl2 (by omega) blm_n
  rw [h1.2.2.1, nI_clamp (by omega)]
  refine ⟨vp_in_nI (by omega) (by omega), fun s28 e28 => ?_⟩
  have h3 := h2.num (j := 6) (v := tkV T (a + 1)) (by omega)
  have en6 : nR 6 = 306 := rfl
  rw [en6, ← e28] at h3
  have fq : FQ sd σ s28 := by
    rw [e28]
    exact MQr.fqn (j := 6) hs (by omega) (d.fq.tr d2.fq)
  refine m_bounded (hi := 9) rfl (by omega) h3.2.1 y (fun υ e r d2 f y => ri (dead2 s28 υ e r fq h3.2.2.1 f d2 y)) (fun ξ d3 hl3 hv3 _ t => ri ?_)
  have h4 := h3.f4 d3 hl3 (by omega) blm_n
  rw [h3.2.2.1, nI_clamp (by omega)]
  refine ⟨vp_in_nI (by omega) (by omega), fun s31 e31 => ?_⟩
  have h5 := h4.num (j := 7) (v := tkV T (a + 1 + 1)) (by omega)
  have en7 : nR 7 = 307 := rfl
  rw [en7, ← e31] at h5
  have fq2 : FQ sd σ s31 := by
    rw [e31]
    exact MQr.fqn (j := 7) hs (by omega) (fq.tr d3.fq)
  refine m_end h5 t (fun ξ e dx f t => rv (herr ξ e (fq2.tr dx) f t)) (fun ξ dx hx t => rv (hok ξ _ _ _ _ (fq2.tr dx) hx ?_ (by omega) t))
  refine PI_num (i := 7) (by omega) (PI_num (i := 6) (late' := blm late (decide (100 < tkV T (a + 1))) 5 (tkP T (a + 1))) (by omega) hi (fun z => ?_)) (fun z => ?_)
  · obtain ⟨z1, z2⟩ := blm_none z
    simp only [decide_eq_false_iff_not] at z2
    exact ⟨z1, by rw [if_neg (by decide), if_pos rfl]; omega⟩
  · obtain ⟨z1, z2⟩ := blm_none z
    simp only [decide_eq_false_iff_not] at z2
    exact ⟨z1, by rw [if_neg (by decide), if_neg (by decide), if_pos rfl]; omega⟩
end M21
