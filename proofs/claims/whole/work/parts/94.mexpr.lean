/-! the model: an expression is read -/
def emS (σ : SS) (i : Nat) (x1 x2 : Int32) : SS := sI (sI (sI σ 316 i x1) 317 i x2) 284 46 (nI (i + 1))
theorem emS_r {σ : SS} {i b : Nat} {x1 x2 : Int32} (h : b ≠ 284) (h6 : b ≠ 316) (h7 : b ≠ 317) : (emS σ i x1 x2).1 b = σ.1 b := by
  unfold emS
  rw [sI_row, sA_off2 _ _ h, sI_row, sA_off2 _ _ h7, sI_row, sA_off2 _ _ h6]
theorem emS_f {σ : SS} {i k : Nat} {x1 x2 : Int32} (h : k ≠ 46) : (emS σ i x1 x2).1 284 k = σ.1 284 k := by
  unfold emS
  rw [sI_at, if_neg (fun z => h z.2), sI_row, sA_off2 _ _ (by omega), sI_row, sA_off2 _ _ (by omega)]
theorem emS_46 {σ : SS} {i : Nat} {x1 x2 : Int32} : (emS σ i x1 x2).1 284 46 = nI (i + 1) := by
  unfold emS
  rw [sI_at, if_pos ⟨rfl, rfl⟩]
theorem emS_6 {σ : SS} {i j : Nat} {x1 x2 : Int32} : (emS σ i x1 x2).1 316 j = if j = i then x1 else σ.1 316 j := by
  unfold emS
  rw [sI_row, sA_off2 _ _ (by omega), sI_row, sA_off2 _ _ (by omega), sI_at]
  simp only [true_and]
theorem emS_7 {σ : SS} {i j : Nat} {x1 x2 : Int32} : (emS σ i x1 x2).1 317 j = if j = i then x2 else σ.1 317 j := by
  unfold emS
  rw [sI_row, sA_off2 _ _ (by omega), sI_at, sI_row, sA_off2 _ _ (by omega)]
  simp only [true_and]
theorem emS_fq {σ τ : SS} {sd i : Nat} {x1 x2 : Int32} (hs : sd ≤ 1) (h : FQ sd σ τ) (h1 : 420 * sd ≤ i) (h2 : i < 420 * sd + 420) : FQ sd σ (emS τ i x1 x2) :=
  ((h.wr (b := 316) hs (by omega) (by omega) (by show 420 * sd ≤ _; omega) (by show _ < 420 * sd + 420; omega)).wr (b := 317) hs (by omega) (by omega) (by show 420 * sd ≤ _; omega) (by show _ < 420 * sd + 420; omega)).wf (by omega)
theorem MEx_snoc {σ τ : SS} {c0 : Nat} {cur : Ex} {q : Nat × Int32} (h : MEx σ c0 cur) (r6 : ∀ j, j < c0 + cur.length → τ.1 316 j = σ.1 316 j ∧ τ.1 317 j = σ.1 317 j) (h1 : τ.1 316 (c0 + cur.length) = nI q.1) (h2 : τ.1 317 (c0 + cur.length) = q.2) : MEx τ c0 (cur ++ [q]) := fun j hj => by
  have hj' := hj
  rw [List.length_append, List.length_singleton] at hj'
  by_cases c : j < cur.length
  · rw [List.getElem_append_left c, (r6 _ (by omega)).1, (r6 _ (by omega)).2]
    exact h j c
  · have e : j = cur.length := by omega
    subst e
    rw [List.getElem_append_right (by omega)]
    simp only [Nat.sub_self, List.getElem_cons_zero]
    exact ⟨h1, h2⟩
theorem MEx.cg {σ τ : SS} {c0 : Nat} {cur : Ex} (h : MEx σ c0 cur) (r6 : ∀ j, c0 ≤ j → j < c0 + cur.length → τ.1 316 j = σ.1 316 j ∧ τ.1 317 j = σ.1 317 j) : MEx τ c0 cur := fun j hj => by
  rw [(r6 _ (by omega) (by omega)).1, (r6 _ (by omega) (by omega)).2]
  exact h j hj
def WSm (f : Nat → Int32) : List Nat → Prop
  | [] => True
  | c :: ws => f ws.length = nI c ∧ WSm f ws
theorem WSm.upd' {f : Nat → Int32} {k : Nat} {x : Int32} : ∀ ws, WSm f ws → ws.length ≤ k → WSm (fun j => if j = k then x else f j) ws
  | [], _, _ => trivial
  | c :: ws, h, hk => by
    rw [List.length_cons] at hk
    exact ⟨by show (if ws.length = k then x else f ws.length) = _; rw [if_neg (by omega)]; exact h.1, WSm.upd' ws h.2 (by omega)⟩
def XE (σ : SS) (c0 : Nat) (ws : List Nat) (cur : Ex) : Prop := σ.1 284 50 = nI ws.length ∧ WSm (σ.1 318) ws ∧ σ.1 284 46 = nI (c0 + cur.length) ∧ MEx σ c0 cur
/-- what comes out may change -/
def FC (sd c0 : Nat) (σ τ : SS) : Prop := FQ sd σ τ ∧ (∀ b, b ≠ 284 → b ≠ 316 → b ≠ 317 → τ.1 b = σ.1 b) ∧ (∀ k, k ≠ 46 → k ≠ 50 → τ.1 284 k = σ.1 284 k) ∧ (∀ j, j < c0 → τ.1 316 j = σ.1 316 j ∧ τ.1 317 j = σ.1 317 j) ∧ τ.2 = σ.2
theorem FC.rf {sd c0 : Nat} {σ : SS} : FC sd c0 σ σ := ⟨FQ.rf, fun _ _ _ _ => rfl, fun _ _ _ => rfl, fun _ _ => ⟨rfl, rfl⟩, rfl⟩
theorem FC.tr {sd c0 : Nat} {σ τ υ : SS} (h : FC sd c0 σ τ) (g : FC sd c0 τ υ) : FC sd c0 σ υ := ⟨h.1.tr g.1, fun b b1 b2 b3 => (g.2.1 b b1 b2 b3).trans (h.2.1 b b1 b2 b3), fun k k1 k2 => (g.2.2.1 k k1 k2).trans (h.2.2.1 k k1 k2), fun j hj => ⟨((g.2.2.2.1 j hj).1).trans (h.2.2.2.1 j hj).1, ((g.2.2.2.1 j hj).2).trans (h.2.2.2.1 j hj).2⟩, g.2.2.2.2.trans h.2.2.2.2⟩
/-- what an expression may change -/
def FX2 (sd c0 : Nat) (σ τ : SS) : Prop := FQ sd σ τ ∧ (∀ b, b ≠ 284 → b ≠ 316 → b ≠ 317 → b ≠ 318 → τ.1 b = σ.1 b) ∧ (∀ k, k ≠ 11 → k ≠ 12 → k ≠ 13 → k ≠ 14 → k ≠ 15 → k ≠ 16 → k ≠ 46 → k ≠ 50 → τ.1 284 k = σ.1 284 k) ∧ (∀ j, j < c0 → τ.1 316 j = σ.1 316 j ∧ τ.1 317 j = σ.1 317 j) ∧ τ.2 = σ.2
theorem FX2.rf {sd c0 : Nat} {σ : SS} : FX2 sd c0 σ σ := ⟨FQ.rf, fun _ _ _ _ _ => rfl, fun _ _ _ _ _ _ _ _ _ => rfl, fun _ _ => ⟨rfl, rfl⟩, rfl⟩
theorem FX2.tr {sd c0 : Nat} {σ τ υ : SS} (h : FX2 sd c0 σ τ) (g : FX2 sd c0 τ υ) : FX2 sd c0 σ υ := ⟨h.1.tr g.1, fun b b1 b2 b3 b4 => (g.2.1 b b1 b2 b3 b4).trans (h.2.1 b b1 b2 b3 b4), fun k k1 k2 k3 k4 k5 k6 k7 k8 => (g.2.2.1 k k1 k2 k3 k4 k5 k6 k7 k8).trans (h.2.2.1 k k1 k2 k3 k4 k5 k6 k7 k8), fun j hj => ⟨((g.2.2.2.1 j hj).1).trans (h.2.2.2.1 j hj).1, ((g.2.2.2.1 j hj).2).trans (h.2.2.2.1 j hj).2⟩, g.2.2.2.2.trans h.2.2.2.2⟩
theorem FC.fx {sd c0 : Nat} {σ τ : SS} (h : FC sd c0 σ τ) : FX2 sd c0 σ τ := ⟨h.1, fun b b1 b2 b3 _ => h.2.1 b b1 b2 b3, fun k _ _ _ _ _ _ k7 k8 => h.2.2.1 k k7 k8, h.2.2.2.1, h.2.2.2.2⟩
theorem F4.fx {sd c0 : Nat} {σ τ : SS} (h : F4 σ τ) : FX2 sd c0 σ τ := ⟨h.fq, fun b b1 _ _ _ => h.1 b b1, fun k k1 _ k3 k4 k5 k6 _ _ => h.2.1 k k1 k3 k4 k5 k6, fun j _ => by rw [h.1 316 (by omega), h.1 317 (by omega)]; exact ⟨rfl, rfl⟩, h.2.2⟩
theorem FX2.wf {sd c0 k : Nat} {v : Int32} {σ τ : SS} (h : FX2 sd c0 σ τ) (hk : k = 12 ∨ k = 50) : FX2 sd c0 σ (sI τ 284 k v) := ⟨h.1.wf (by omega), fun b b1 b2 b3 b4 => by rw [sI_row, sA_off2 _ _ b1]; exact h.2.1 b b1 b2 b3 b4, fun j k1 k2 k3 k4 k5 k6 k7 k8 => by rw [sI_at, if_neg (by omega)]; exact h.2.2.1 j k1 k2 k3 k4 k5 k6 k7 k8, fun j hj => by rw [sI_row, sA_off2 _ _ (by omega), sA_off2 _ _ (by omega)]; exact h.2.2.2.1 j hj, h.2.2.2.2⟩
theorem FX2.w8 {sd c0 k : Nat} {v : Int32} {σ τ : SS} (h : FX2 sd c0 σ τ) : FX2 sd c0 σ (sI τ 318 k v) := ⟨h.1.w3 (by omega), fun b b1 b2 b3 b4 => by rw [sI_row, sA_off2 _ _ b4]; exact h.2.1 b b1 b2 b3 b4, fun j k1 k2 k3 k4 k5 k6 k7 k8 => by rw [sI_at, if_neg (by omega)]; exact h.2.2.1 j k1 k2 k3 k4 k5 k6 k7 k8, fun j hj => by rw [sI_row, sA_off2 _ _ (by omega), sA_off2 _ _ (by omega)]; exact h.2.2.2.1 j hj, h.2.2.2.2⟩
theorem emS_fc {σ : SS} {sd c0 i : Nat} {x1 x2 : Int32} (hs : sd ≤ 1) (h1 : 420 * sd ≤ i) (h2 : i < 420 * sd + 420) (hc : c0 ≤ i) : FC sd c0 σ (emS σ i x1 x2) := ⟨emS_fq hs FQ.rf h1 h2, fun b b1 b2 b3 => emS_r b1 b2 b3, fun k k1 _ => emS_f k1, fun j hj => by rw [emS_6, emS_7, if_neg (by omega), if_neg (by omega)]; exact ⟨rfl, rfl⟩, rfl⟩
theorem kd : ∀ c, c < 42 → (nI c = 6 ↔ c = 6) ∧ (nI c = 8 ↔ c = 8) ∧ (nI c = 9 ↔ c = 9) ∧ (nI c = 10 ↔ c = 10) := by decide
def cmB (Γ : GE) (l : Launch) (K : Option Value → SS → Prop) (x1 : Int32) (σ : SS) : Prop := ((σ.1 284 50) ≤ 0 → (K none σ)) ∧ (¬ ((σ.1 284 50) ≤ 0) → (vp_in ((σ.1 284 50) - 1) 64 ∧ (((σ.1 318 (Int32.toNatClampNeg ((σ.1 284 50) - 1))) = 6 → (K none σ)) ∧ (¬ ((σ.1 318 (Int32.toNatClampNeg ((σ.1 284 50) - 1))) = 6) → ((x1 = 0 → (wX10_comesOut_42 Γ l x1 (σ.1 318 (Int32.toNatClampNeg ((σ.1 284 50) - 1))) σ K)) ∧ (¬ (x1 = 0) → (((σ.1 318 (Int32.toNatClampNeg ((σ.1 284 50) - 1))) = 8 → (K none σ)) ∧ (¬ ((σ.1 318 (Int32.toNatClampNeg ((σ.1 284 50) - 1))) = 8) → ((¬ (σ.1 318 (Int32.toNatClampNeg ((σ.1 284 50) - 1))) = 9 → (wX10_comesOut_42 Γ l x1 (σ.1 318 (Int32.toNatClampNeg ((σ.1 284 50) - 1))) σ K)) ∧ ((σ.1 318 (Int32.toNatClampNeg ((σ.1 284 50) - 1))) = 9 → (K none σ)))))))))))
section M25
variable {Γ : GE} {l : Launch} {σ τ : SS} {K : Option Value → SS → Prop} {T : List Nat} {sd a c0 : Nat} {late : LF} {ρ : Type} {R : Rs ρ} {e : Nat × Nat}
theorem m_emit {i : Nat} {x1 x2 : Int32} (h : σ.1 284 46 = nI i) (hi : i < 840) (hK : K none (emS σ i x1 x2)) : C2 Γ l mX10_emit [.ref 284, .int x1, .int x2] σ K := by
  refine tX10_emit ?_
  rw [h, nI_clamp (by omega)]
  refine ⟨vp_in_nI (by omega) (by omega), fun s1 e1 => ?_⟩
  have g : s1.1 284 46 = nI i := by rw [e1, sI_row, sA_off2 _ _ (by omega)]; exact h
  rw [g, nI_clamp (by omega)]
  refine ⟨vp_in_nI (by omega) (by omega), fun s2 e2 s3 e3 => ?_⟩
  have g2 : s2.1 284 46 = nI i := by rw [e2, sI_row, sA_off2 _ _ (by omega)]; exact g
  rw [g2, nI_1, e2, e1] at e3
  rw [e3]
  exact hK
theorem m_comes_b {b : Nat} {x : Int32} (hs : sd ≤ 1) (hx : (b = 1 ∧ x = 0) ∨ (b = 2 ∧ x = 1)) (hc : 420 * sd ≤ c0) : ∀ (ws : List Nat) (cur : Ex) (σ : SS), wsOk ws → XE σ c0 ws cur → ws.length ≤ 60 → c0 + cur.length + nop ws ≤ 420 * sd + 420 → (∀ τ, FC sd c0 σ τ → XE τ c0 (stW b ws) (stE b ws cur) → K none τ) → cmB Γ l K x σ := by
  intro ws
  induction ws with
  | nil =>
    intro cur σ _ h _ _ hK
    refine ⟨fun _ => hK σ FC.rf h, fun q => absurd ?_ q⟩
    rw [h.1]
    decide
  | cons c ws ih =>
    intro cur σ hok h hl hn hK
    obtain ⟨a1, a2, a3, a4⟩ := id h
    rw [List.length_cons] at a1 hl
    have c42 := ws_42 _ hok c List.mem_cons_self
    obtain ⟨k6, k8, k9, k10⟩ := kd c c42
    unfold cmB
    rw [a1, nI_pred]
    refine ⟨fun q => absurd q (nI_nle (by omega) (by omega)), fun _ => ⟨vp_in_nI (by omega) (by omega), ?_⟩⟩
    rw [nI_clamp (by omega), a2.1, k6, k8, k9]
    unfold stW stE at hK
    -- one comes out
    have pop : isOp c → b ≤ bnd c → wX10_comesOut_42 Γ l x (nI c) σ K := fun hc' hb => by
      rw [if_pos hb, if_pos hb] at hK
      have c6' := (bnd_op hc').2.2
      rw [nop, if_neg c6'] at hn
      refine tX10_comesOut_42 (fun s1 e1 => ?_)
      rw [a1, nI_pred] at e1
      rw [k8, k9, k10]
      have r84 : ∀ k, k ≠ 50 → s1.1 284 k = σ.1 284 k := fun k hk => by rw [e1, sI_at, if_neg (fun z => hk z.2)]
      have ro : ∀ d, d ≠ 284 → s1.1 d = σ.1 d := fun d hd => by rw [e1, sI_row, sA_off2 _ _ hd]
      have g46 : s1.1 284 46 = nI (c0 + cur.length) := by rw [r84 46 (by omega)]; exact a3
      have go : ∀ y, y = nI (opc c) → C2 Γ l mX10_emit [.ref 284, .int y, .int 0] s1 (Rv fun s2_ => (wX10_comesOut_0 Γ l x s2_ K)) := fun y hy => by
        refine m_emit g46 (by omega) (rv (tX10_comesOut_0 ?_))
        have fc : FC sd c0 σ (emS s1 (c0 + cur.length) y 0) := by
          refine FC.tr (τ := s1) ⟨by rw [e1]; exact FQ.rf.wf (by omega), fun d d1 _ _ => ro d d1, fun k _ k2 => r84 k k2, fun j _ => by rw [ro 316 (by omega), ro 317 (by omega)]; exact ⟨rfl, rfl⟩, by rw [e1]; rfl⟩ (emS_fc hs (by omega) (by omega) (by omega))
        refine ih (cur ++ [(opc c, 0)]) _ hok.1 ⟨?_, ?_, ?_, ?_⟩ (by omega) ?_ (fun τ ft ht => hK τ (fc.tr ft) ht)
        · rw [emS_f (by omega), e1, sI_at, if_pos ⟨rfl, rfl⟩]
        · rw [emS_r (by omega) (by omega) (by omega), ro 318 (by omega)]
          exact a2.2
        · rw [emS_46, List.length_append]
          rfl
        · refine MEx_snoc a4 (fun j hj => ?_) ?_ ?_
          · rw [emS_6, emS_7, if_neg (by omega), if_neg (by omega), ro 316 (by omega), ro 317 (by omega)]
            exact ⟨rfl, rfl⟩
          · rw [emS_6, if_pos rfl, hy]
          · rw [emS_7, if_pos rfl]
        · rw [List.length_append, List.length_singleton]
          omega
      have o4 : c = 8 ∨ c = 9 ∨ c = 10 ∨ c = 15 := hc'
      refine ⟨fun z8 => ⟨fun z9 => ⟨fun z10 => go 5 ?_, fun z10 => go 4 ?_⟩, fun z9 => go 3 ?_⟩, fun z8 => go 2 ?_⟩
      · have : c = 15 := by omega
        subst this
        rfl
      · subst z10
        rfl
      · subst z9
        rfl
      · subst z8
        rfl
    have stay : ¬ b ≤ bnd c → K none σ := fun hb => by
      rw [if_neg hb, if_neg hb] at hK
      exact hK σ FC.rf h
    have b6 : bnd 6 = 0 := rfl
    have b8 : bnd 8 = 1 := rfl
    have b9 : bnd 9 = 1 := rfl
    have hop : c ≠ 6 → isOp c := fun z => by
      rcases hok.2 with y | y
      · exact absurd y z
      · exact y.1
    have b12 : isOp c → c ≠ 8 → c ≠ 9 → bnd c = 2 := fun o z8 z9 => by
      rcases o with y | y | y | y
      · exact absurd y z8
      · exact absurd y z9
      · rw [y]
        rfl
      · rw [y]
        rfl
    refine ⟨fun z => stay (by rw [z]; omega), fun z => ⟨fun x0 => pop (hop z) ?_, fun x0 => ⟨fun z8 => stay ?_, fun z8 => ⟨fun z9 => pop (hop z) ?_, fun z9 => stay ?_⟩⟩⟩⟩
    · have := bnd_op (hop z)
      rcases hx with y | y
      · omega
      · rw [y.2] at x0
        exact absurd x0 (by decide)
    · rcases hx with y | y
      · exact absurd y.2 x0
      · rw [z8, b8]
        omega
    · have := b12 (hop z) z8 z9
      rcases hx with y | y <;> omega
    · rcases hx with y | y
      · exact absurd y.2 x0
      · rw [z9, b9]
        omega
theorem m_comes {b : Nat} {x : Int32} {ws : List Nat} {cur : Ex} (hs : sd ≤ 1) (hx : (b = 1 ∧ x = 0) ∨ (b = 2 ∧ x = 1)) (hc : 420 * sd ≤ c0) (hok : wsOk ws) (h : XE σ c0 ws cur) (hl : ws.length ≤ 60) (hn : c0 + cur.length + nop ws ≤ 420 * sd + 420) (hK : ∀ τ, FC sd c0 σ τ → XE τ c0 (stW b ws) (stE b ws cur) → K none τ) : C2 Γ l mX10_comesOut [.ref 284, .int x] σ K :=
  tX10_comesOut (m_comes_b hs hx hc ws cur σ hok h hl hn hK)
theorem m_unitD (h : DEr σ e) (hK : K none σ) : C2 Γ l mX10_unit [.ref 284] σ K :=
  tX10_unit (m_isD h (ri ⟨fun _ => ⟨fun _ => m_failD h (rv hK), fun q => absurd q h.n0⟩, fun q => absurd rfl q⟩))
theorem m_unit {i : Nat} (h : Lv1 σ T a late) (h46 : σ.1 284 46 = nI i) (hi : i < 840)
    (hf : tkK T a ≠ 2 → tkK T a < 33 → ∀ τ, F4 σ τ → DEr τ (1, tkP T a) → K none τ)
    (hu : ∀ q : Nat × Int32, (tkK T a = 2 ∧ q = (0, nI (tkV T a)) ∨ 33 ≤ tkK T a ∧ q = (1, nI (tkK T a - 33))) → C2 Γ l mX10_goesOn [.ref 284] (emS σ i (nI q.1) q.2) (Rv fun s => K none s)) : C2 Γ l mX10_unit [.ref 284] σ K := by
  have k42 := (tk_kind T a).2.2
  refine tX10_unit (m_is (c := 2) (by omega) h.1 (ri ?_))
  rw [bI_0]
  refine ⟨fun q => ⟨fun z => absurd h.1.2.2.2.2.2 z, fun _ => ⟨h.1.v, ?_⟩⟩, fun q => ⟨h.1.v, ?_⟩⟩
  · simp only [decide_eq_false_iff_not] at q
    rw [h.1.cl, h.1.tk.1, show nI (tkK T a) < 33 ↔ tkK T a < 33 from nI_ltI (b := 33) (by omega) (by omega), show (41 : Int32) < nI (tkK T a) ↔ 41 < tkK T a from nI_ltI (a := 41) (by omega) (by omega)]
    refine ⟨fun z => m_fail (n := 1) h.1 (Or.inl rfl) (fun τ d f _ => rv (hf q z τ d f)), fun z => ⟨h.1.v, fun y => absurd y (by omega), fun _ => ⟨h.1.v, ?_⟩⟩⟩
    rw [show nI (tkK T a) - 33 = nI (tkK T a - 33) from pk_sub (b := 33) (show 33 ≤ tkK T a by omega)]
    exact m_emit h46 hi (rv (hu (1, nI (tkK T a - 33)) (Or.inr ⟨by omega, rfl⟩)))
  · simp only [Bool.not_eq_false, decide_eq_true_eq] at q
    rw [h.1.cl, h.1.tk.2.2.1 q]
    exact m_emit h46 hi (rv (hu (0, nI (tkV T a)) (Or.inl ⟨q, rfl⟩)))
end M25
