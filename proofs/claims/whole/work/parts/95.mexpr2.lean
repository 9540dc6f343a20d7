/-! the model: an expression is read, the loop -/
theorem LAi_b {n ph op ifs : Nat} {wn : Bool} {ws : List Nat} {cur e1 e2 : Ex} {br : LawV} (h : LAi n ph wn op ifs ws cur e1 e2 br) : ws.length ≤ 20 ∧ wsOk ws ∧ brN br + phN ph e1 e2 + cur.length + nop ws ≤ n ∧ op ≤ 6 := by
  obtain ⟨a1, a2, a3, a4, a5, a6, a7, a8, a9, a10, a11⟩ := h
  obtain ⟨w1, w2, w3, w4⟩ := ws_len ws a4
  exact ⟨by omega, a4, by omega, a2⟩
theorem op_kind {k : Nat} (h : 0 < bnd k) : k = 8 ∨ k = 9 ∨ k = 10 ∨ k = 15 := by
  unfold bnd at h
  split at h
  · omega
  · split at h <;> omega
section M26
variable {Γ : GE} {l : Launch} {K : Option Value → SS → Prop} {T : List Nat} {sd c0 a2 ifs : Nat} {late : LF} {ρ : Type} {R : Rs ρ} {kk : Nat → LawV → Rs ρ} {e1 e2 : Ex} {br : LawV} {σ0 : SS}
theorem m_d23 {σ : SS} {e : Nat × Nat} {x1 : Int32} (h : DEr σ e) (hK : K none σ) : wX10_expression_23 Γ l x1 σ K :=
  tX10_expression_23 (m_isD h (ri ⟨fun _ => m_unitD h (rv ⟨fun z => absurd z h.nle, fun _ => hK⟩), fun q => absurd rfl q⟩))
theorem m_d46 {σ : SS} {e : Nat × Nat} {x1 : Int32} {w : Nat} (h : DEr σ e) (h50 : σ.1 284 50 = nI w) (hw : w < 60) (hK : ∀ τ, FX2 sd c0 σ τ → DEr τ e → K none τ) : wX10_expression_46 Γ l x1 σ K := by
  refine tX10_expression_46 (fun s1 es1 => ?_)
  have f1 : DEr s1 e := h.cg (by rw [es1, sI_at, if_neg (by omega)]) (by rw [es1, sI_at, if_neg (by omega)])
  refine m_goesOnD f1 (fun s2 d2 f2 => rv ?_)
  have g50 : s2.1 284 50 = nI w := by rw [d2.2.1 50 (by omega) (by omega) (by omega) (by omega) (by omega), es1, sI_at, if_neg (by omega)]; exact h50
  rw [g50, nI_clamp (by omega)]
  refine ⟨vp_in_nI (by omega) (by omega), fun s4 es4 s5 es5 => ?_⟩
  have r84 : ∀ k, k ≠ 50 → s5.1 284 k = s2.1 284 k := fun k hk => by rw [es5, sI_at, if_neg (fun z => hk z.2), es4, sI_row, sA_off2 _ _ (by omega)]
  have f5 : DEr s5 e := f2.cg (r84 13 (by omega)) (r84 14 (by omega))
  refine m_d23 f5 (hK s5 ?_ f5)
  have fx1 : FX2 sd c0 σ s1 := by rw [es1]; exact FX2.rf.wf (by omega)
  rw [es5, es4]
  exact (fx1.tr d2.fx).w8.wf (by omega)
theorem m_d96 {σ : SS} {e : Nat × Nat} {x1 : Int32} {ws : List Nat} {cur : Ex} (hs : sd ≤ 1) (hc : 420 * sd ≤ c0) (h : DEr σ e) (hx : XE σ c0 ws cur) (hok : wsOk ws) (hl : ws.length ≤ 60) (hn : c0 + cur.length + nop ws ≤ 420 * sd + 420) (hK : ∀ τ, FX2 sd c0 σ τ → DEr τ e → K none τ) : wX10_expression_96 Γ l x1 σ K := by
  have out : wX10_expression_204 Γ l σ K := tX10_expression_204 (m_comes (b := 1) hs (Or.inl ⟨rfl, rfl⟩) hc hok hx hl hn (fun τ d _ => rv (hK τ d.fx (h.cg (d.2.2.1 13 (by omega) (by omega)) (d.2.2.1 14 (by omega) (by omega))))))
  exact tX10_expression_96 (m_isD h (ri ⟨fun _ => tX10_expression_145 (m_isD h (ri ⟨fun q => absurd rfl q, fun _ => m_isD h (ri ⟨fun q => absurd rfl q, fun _ => m_isD h (ri ⟨fun q => absurd rfl q, fun _ => m_isD h (ri ⟨fun _ => ⟨fun _ => out, fun _ => m_failD h (rv out)⟩, fun q => absurd rfl q⟩)⟩)⟩)⟩)), fun q => absurd rfl q⟩))
theorem m_expr_loop {ph0 : Nat} (hs : sd ≤ 1) (hc : 420 * sd ≤ c0)
    (herr : ∀ τ e, FX2 sd c0 σ0 τ → DEr τ e → R = .error e → K none τ)
    (hok : ∀ τ a ph ws cur, FX2 sd c0 σ0 τ → Lv1 τ T a late → τ.1 284 12 = 0 → τ.1 284 46 = nI (c0 + (stE 1 ws cur).length) → MEx τ c0 (stE 1 ws cur) → a2 ≤ a → LAi (a - a2) ph false 0 ifs ws cur e1 e2 br → bnd (tkK T a) = 0 → c0 ≤ 420 * sd + a2 + brN br + phN ph e1 e2 → pAut T kk (401 - a) a ph false 0 ifs ws cur e1 e2 br = R → (ph0 = 0 → ph = 4) → (ph0 ≠ 0 → ph = ph0) → K none τ) : ∀ n,
    (∀ a σ ph op ws cur, n + a = 401 → FX2 sd c0 σ0 σ → Lv1 σ T a late → a2 ≤ a → σ.1 284 12 = nI op → XE σ c0 ws cur → LAi (a - a2) ph true op ifs ws cur e1 e2 br → (ph = 0 → tkK T a ≠ 30) → c0 ≤ 420 * sd + a2 + brN br + phN ph e1 e2 → (ph0 = 0 → ph = 0 ∨ ph = 4) → (ph0 ≠ 0 → ph = ph0) → pAut T kk n a ph true op ifs ws cur e1 e2 br = R → wX10_expression_23 Γ l (nI 0) σ K) ∧
    (∀ a σ ph op ws cur, n + a = 401 → FX2 sd c0 σ0 σ → Lv1 σ T a late → a2 ≤ a → σ.1 284 12 = nI op → XE σ c0 ws cur → LAi (a - a2) ph false op ifs ws cur e1 e2 br → c0 ≤ 420 * sd + a2 + brN br + phN ph e1 e2 → (ph0 = 0 → ph = 4) → (ph0 ≠ 0 → ph = ph0) → pAut T kk n a ph false op ifs ws cur e1 e2 br = R → wX10_expression_96 Γ l (nI 0) σ K) := by
  intro n
  induction n with
  | zero =>
    constructor
    · intro a σ ph op ws cur h1 _ h3
      have := h3.1.2.2.2.1
      omega
    · intro a σ ph op ws cur h1 _ h3
      have := h3.1.2.2.2.1
      omega
  | succ n ih =>
    obtain ⟨ihA, ihB⟩ := ih
    constructor
    · -- a unit is wanted
      intro a σ ph op ws cur hna fx hl ha2 h12 hx hi h30 hcb hp0 hp1 hR
      have h4 := hl.1.2.2.2.1
      obtain ⟨wl, wo, wb, o6⟩ := LAi_b hi
      obtain ⟨p1, p2, p3, p4, p5⟩ := ph4_p ph hi.1
      rw [pAut, if_neg (fun z => h30 z.2 z.1)] at hR
      have q4 : (ph0 = 0 → ph4 ph = 0 ∨ ph4 ph = 4) ∧ (ph0 ≠ 0 → ph4 ph = ph0) ∧ (ph0 = 0 → ph4 ph = 4) := by
        unfold ph4
        refine ⟨fun z => ?_, fun z => ?_, fun z => ?_⟩
        · split <;> omega
        · have := hp1 z
          rw [if_neg (by omega)]
          exact this
        · have := hp0 z
          split <;> omega
      refine tX10_expression_23 (m_is (c := 6) (by omega) hl.1 (ri ?_))
      rw [bI_0]
      refine ⟨fun q => ?_, fun q => ?_⟩
      · simp only [decide_eq_false_iff_not] at q
        rw [if_neg q] at hR
        refine m_unit (i := c0 + cur.length) hl hx.2.2.1 (by omega) (fun z2 z33 τ d f => rv ⟨fun y => absurd y f.nle, fun _ => ?_⟩) (fun u hu => ?_)
        · rw [if_neg z2, if_neg (by omega)] at hR
          exact herr τ _ (fx.tr d.fx) f hR.symm
        · have hi6 : 420 * sd ≤ c0 + cur.length := by omega
          have hi7 : c0 + cur.length < 420 * sd + 420 := by omega
          have fe : FX2 sd c0 σ0 (emS σ (c0 + cur.length) (nI u.1) u.2) := fx.tr (emS_fc hs hi6 hi7 (by omega)).fx
          have le : Lv1 (emS σ (c0 + cur.length) (nI u.1) u.2) T a late := hl.cg (fun b b1 b2 => emS_r (by omega) (by omega) (by omega)) rfl (fun k hk => emS_f (by omega))
          have n0 : tkK T a ≠ 0 ∧ tkK T a ≠ 3 := by
            rcases hu with y | y <;> omega
          have hR' : pPass T a (fun a' => pAut T kk n a' (ph4 ph) false op ifs ws (cur ++ [u]) e1 e2 br) = R := by
            rcases hu with ⟨y, yu⟩ | ⟨y, yu⟩
            · rw [if_pos y] at hR
              rw [yu]
              exact hR
            · rw [if_neg (by omega), if_pos y] at hR
              rw [yu]
              exact hR
          have k42 := (tk_kind T a).2.2
          have ou : okO u ∧ u.1 ≤ 1 := by
            rcases hu with ⟨y, yu⟩ | ⟨y, yu⟩
            · have hv := (tk_kind T a).2.1 y
              rw [yu]
              exact ⟨okO_0 (by omega), by show (0 : Nat) ≤ 1; omega⟩
            · rw [yu]
              exact ⟨okO_1 (by omega), by show (1 : Nat) ≤ 1; omega⟩
          refine m_goesOn le n0.1 n0.2 hR' (fun τ e d f z => rv (rv ⟨fun y => absurd y f.nle, fun _ => herr τ e (fe.tr d.fx) f z⟩)) (fun τ d hlt ha z => rv (rv ⟨fun _ => ?_, fun y => absurd (by rw [hlt.1.2.2.2.2.2]; decide) y⟩))
          have hi' := LAi_unit hi ou.1 ou.2
          rw [show a - a2 + 1 = a + 1 - a2 by omega] at hi'
          refine ihB (a + 1) τ (ph4 ph) op ws (cur ++ [u]) (by omega) (fe.tr d.fx) hlt (by omega) ?_ ⟨?_, ?_, ?_, ?_⟩ hi' (by rw [p4]; exact hcb) q4.2.2 q4.2.1 z
          · rw [d.2.1 12 (by omega) (by omega) (by omega) (by omega) (by omega), emS_f (by omega)]
            exact h12
          · rw [d.2.1 50 (by omega) (by omega) (by omega) (by omega) (by omega), emS_f (by omega)]
            exact hx.1
          · rw [d.1 318 (by omega), emS_r (by omega) (by omega) (by omega)]
            exact hx.2.1
          · rw [d.2.1 46 (by omega) (by omega) (by omega) (by omega) (by omega), emS_46, List.length_append]
            rfl
          · refine MEx_snoc hx.2.2.2 (fun j hj => ?_) ?_ ?_
            · rw [d.1 316 (by omega), d.1 317 (by omega), emS_6, emS_7, if_neg (by omega), if_neg (by omega)]
              exact ⟨rfl, rfl⟩
            · rw [d.1 316 (by omega), emS_6, if_pos rfl]
            · rw [d.1 317 (by omega), emS_7, if_pos rfl]
      · simp only [Bool.not_eq_false, decide_eq_true_eq] at q
        rw [if_pos q] at hR
        rw [h12, show nI op = 6 ↔ op = 6 from nI_eq (b := 6) (by omega) (by omega)]
        refine ⟨fun o => ?_, fun o => ?_⟩
        · rw [if_neg o] at hR
          refine tX10_expression_46 (fun s1 es1 => ?_)
          rw [h12, nI_1] at es1
          have fx1 : FX2 sd c0 σ0 s1 := by rw [es1]; exact fx.wf (by omega)
          have l1 : Lv1 s1 T a late := hl.cg (fun b b1 b2 => by rw [es1, sI_row, sA_off2 _ _ (by omega)]) (by rw [es1]; rfl) (fun k hk => by rw [es1, sI_at, if_neg (by omega)])
          have g50 : s1.1 284 50 = nI ws.length := by rw [es1, sI_at, if_neg (by omega)]; exact hx.1
          refine m_goesOn l1 (by omega) (by omega) hR (fun τ e d f z => rv ?_) (fun τ d hlt ha z => rv ?_)
          · have k50 : τ.1 284 50 = nI ws.length := by rw [d.2.1 50 (by omega) (by omega) (by omega) (by omega) (by omega)]; exact g50
            rw [k50, nI_clamp (by omega)]
            refine ⟨vp_in_nI (by omega) (by omega), fun s4 es4 s5 es5 => ?_⟩
            have r84 : ∀ k, k ≠ 50 → s5.1 284 k = τ.1 284 k := fun k hk => by rw [es5, sI_at, if_neg (fun z => hk z.2), es4, sI_row, sA_off2 _ _ (by omega)]
            have f5 : DEr s5 e := f.cg (r84 13 (by omega)) (r84 14 (by omega))
            exact m_d23 f5 (herr s5 e (by rw [es5, es4]; exact (fx1.tr d.fx).w8.wf (by omega)) f5 z)
          · have k50 : τ.1 284 50 = nI ws.length := by rw [d.2.1 50 (by omega) (by omega) (by omega) (by omega) (by omega)]; exact g50
            rw [k50, nI_clamp (by omega)]
            refine ⟨vp_in_nI (by omega) (by omega), fun s4 es4 s5 es5 => ?_⟩
            have j50 : s4.1 284 50 = nI ws.length := by rw [es4, sI_row, sA_off2 _ _ (by omega)]; exact k50
            rw [j50, nI_1] at es5
            have r84 : ∀ k, k ≠ 50 → s5.1 284 k = τ.1 284 k := fun k hk => by rw [es5, sI_at, if_neg (fun z => hk z.2), es4, sI_row, sA_off2 _ _ (by omega)]
            have ro : ∀ b, b ≠ 284 → b ≠ 318 → s5.1 b = τ.1 b := fun b b1 b2 => by rw [es5, sI_row, sA_off2 _ _ b1, es4, sI_row, sA_off2 _ _ b2]
            have hi' := LAi_open hi o
            rw [show a - a2 + 1 = a + 1 - a2 by omega] at hi'
            refine ihA (a + 1) s5 (ph4 ph) (op + 1) (6 :: ws) cur (by omega) (by rw [es5, es4]; exact (fx1.tr d.fx).w8.wf (by omega)) (hlt.cg (fun b b1 b2 => ro b (by omega) (by omega)) (by rw [es5, es4]; rfl) (fun k hk => r84 k (by omega))) (by omega) ?_ ⟨?_, ⟨?_, ?_⟩, ?_, ?_⟩ hi' (fun y => absurd y p2) (by rw [p4]; exact hcb) q4.1 q4.2.1 z
            · rw [r84 12 (by omega), d.2.1 12 (by omega) (by omega) (by omega) (by omega) (by omega), es1, sI_at, if_pos ⟨rfl, rfl⟩]
            · rw [es5, sI_at, if_pos ⟨rfl, rfl⟩, List.length_cons]
            · rw [es5, sI_row, sA_off2 _ _ (by omega), es4, sI_at, if_pos ⟨rfl, rfl⟩]
              rfl
            · have : s5.1 318 = fun j => if j = ws.length then 6 else σ.1 318 j := by
                funext j
                rw [es5, sI_row, sA_off2 _ _ (by omega), es4, sI_at, d.1 318 (by omega), es1, sI_row, sA_off2 _ _ (by omega)]
                simp only [true_and]
              rw [this]
              exact WSm.upd' ws hx.2.1 (Nat.le_refl _)
            · rw [r84 46 (by omega), d.2.1 46 (by omega) (by omega) (by omega) (by omega) (by omega), es1, sI_at, if_neg (by omega)]
              exact hx.2.2.1
            · refine hx.2.2.2.cg (fun j _ _ => ?_)
              rw [ro 316 (by omega) (by omega), ro 317 (by omega) (by omega), d.1 316 (by omega), d.1 317 (by omega), es1, sI_row, sA_off2 _ _ (by omega), sA_off2 _ _ (by omega)]
              exact ⟨rfl, rfl⟩
        · rw [if_pos o] at hR
          refine m_fail (n := 2) hl.1 (Or.inr rfl) (fun τ d f _ => rv (m_d46 (sd := sd) (c0 := c0) (w := ws.length) f ?_ (by omega) (fun υ d2 f2 => herr υ _ (fx.tr (d.fx.tr d2)) f2 hR.symm)))
          rw [d.2.1 50 (by omega) (by omega) (by omega) (by omega) (by omega)]
          exact hx.1
    · -- behind a unit
      intro a σ ph op ws cur hna fx hl ha2 h12 hx hi hcb hp0 hp1 hR
      have h4 := hl.1.2.2.2.1
      obtain ⟨wl, wo, wb, o6⟩ := LAi_b hi
      have k42 := (tk_kind T a).2.2
      have nb : c0 + cur.length + nop ws ≤ 420 * sd + 420 := by omega
      rw [pAut] at hR
      -- an operator is taken
      have tkOp : ∀ (b : Nat) (x : Int32), b = bnd (tkK T a) → ((b = 1 ∧ x = 0) ∨ (b = 2 ∧ x = 1)) → C2 Γ l mX10_comesOut [.ref 284, .int x] σ (Rv fun s3_ => (vp_in (s3_.1 284 11) 403 ∧ (vp_in (s3_.1 284 50) 64 ∧ (∀ s5_ : SS, s5_ = sI s3_ 318 (Int32.toNatClampNeg (s3_.1 284 50)) (s3_.1 287 (Int32.toNatClampNeg (s3_.1 284 11))) → (∀ s6_ : SS, s6_ = sI s5_ 284 50 ((s5_.1 284 50) + 1) → (C2 Γ l mX10_goesOn [.ref 284] s6_ (Rv fun s7_ => (wX10_expression_12 Γ l (nI 0) 1 s7_ K)))))))) := fun b x hb hbx => by
        have hb0 : 0 < bnd (tkK T a) := by omega
        rw [if_pos hb0] at hR
        have ok4 := op_kind hb0
        refine m_comes hs hbx hc wo hx (by omega) nb (fun s3 d3 x3 => rv ?_)
        rw [hb] at x3
        obtain ⟨y1, y2, y3, y4⟩ := x3
        have l3 : Lv1 s3 T a late := hl.cg (fun b b1 b2 => d3.2.1 b (by omega) (by omega) (by omega)) (by rw [d3.2.2.2.2]) (fun k hk => d3.2.2.1 k (by omega) (by omega))
        have wl3 := ws_len _ (stW_ok (b := bnd (tkK T a)) ws wo).1
        have wc3 := (stW_ok (b := bnd (tkK T a)) ws wo).2.2 (by omega)
        have c5 : c6 ws = op := hi.2.2.2.2.1
        refine ⟨l3.1.v, ?_⟩
        rw [l3.1.cl, l3.1.tk.1, y1, nI_clamp (by omega)]
        refine ⟨vp_in_nI (by omega) (by omega), fun s5 es5 s6 es6 => ?_⟩
        have j50 : s5.1 284 50 = nI (stW (bnd (tkK T a)) ws).length := by rw [es5, sI_row, sA_off2 _ _ (by omega)]; exact y1
        rw [j50, nI_1] at es6
        have r84 : ∀ k, k ≠ 50 → s6.1 284 k = s3.1 284 k := fun k hk => by rw [es6, sI_at, if_neg (fun z => hk z.2), es5, sI_row, sA_off2 _ _ (by omega)]
        have ro : ∀ b, b ≠ 284 → b ≠ 318 → s6.1 b = s3.1 b := fun b b1 b2 => by rw [es6, sI_row, sA_off2 _ _ b1, es5, sI_row, sA_off2 _ _ b2]
        have l6 : Lv1 s6 T a late := l3.cg (fun b b1 b2 => ro b (by omega) (by omega)) (by rw [es6, es5]; rfl) (fun k hk => r84 k (by omega))
        have fx6 : FX2 sd c0 σ0 s6 := by rw [es6, es5]; exact (fx.tr d3.fx).w8.wf (by omega)
        refine m_goesOn l6 (by omega) (by omega) hR (fun τ e d f z => rv (tX10_expression_12 ⟨fun y => absurd y (by decide), fun _ => ⟨fun _ => herr τ e (fx6.tr d.fx) f z, fun y => absurd y f.n0⟩⟩)) (fun τ d hlt ha z => rv (tX10_expression_12 ⟨fun y => absurd y (by decide), fun _ => ⟨fun y => absurd hlt.1.2.2.2.2.2 y, fun _ => ?_⟩⟩))
        have hi' := LAi_bin hi hb0
        rw [show a - a2 + 1 = a + 1 - a2 by omega] at hi'
        have ph0' : ph ≠ 0 := fun y => absurd (hi.2.2.2.2.2.1 y).1 (by decide)
        refine ihA (a + 1) τ ph op (tkK T a :: stW (bnd (tkK T a)) ws) (stE (bnd (tkK T a)) ws cur) (by omega) (fx6.tr d.fx) hlt (by omega) ?_ ⟨?_, ⟨?_, ?_⟩, ?_, ?_⟩ hi' (fun y => absurd y ph0') hcb (fun y => Or.inr (hp0 y)) hp1 z
        · rw [d.2.1 12 (by omega) (by omega) (by omega) (by omega) (by omega), r84 12 (by omega), d3.2.2.1 12 (by omega) (by omega)]
          exact h12
        · rw [d.2.1 50 (by omega) (by omega) (by omega) (by omega) (by omega), es6, sI_at, if_pos ⟨rfl, rfl⟩, List.length_cons]
        · rw [d.1 318 (by omega), es6, sI_row, sA_off2 _ _ (by omega), es5, sI_at, if_pos ⟨rfl, rfl⟩]
        · have : τ.1 318 = fun j => if j = (stW (bnd (tkK T a)) ws).length then nI (tkK T a) else s3.1 318 j := by
            funext j
            rw [d.1 318 (by omega), es6, sI_row, sA_off2 _ _ (by omega), es5, sI_at]
            simp only [true_and]
          rw [this]
          exact WSm.upd' _ y2 (Nat.le_refl _)
        · rw [d.2.1 46 (by omega) (by omega) (by omega) (by omega) (by omega), r84 46 (by omega)]
          exact y3
        · refine y4.cg (fun j _ _ => ?_)
          rw [d.1 316 (by omega), d.1 317 (by omega), ro 316 (by omega) (by omega), ro 317 (by omega) (by omega)]
          exact ⟨rfl, rfl⟩
      have e145 : ¬ (tkK T a = 7 ∧ op ≠ 0) → wX10_expression_145 Γ l (nI 0) σ K := fun h7 => by
        have opE : 0 < bnd (tkK T a) → wX10_expression_181 Γ l (nI 0) σ K := fun hb0 => by
          have ok4 := op_kind hb0
          refine tX10_expression_181 (m_is (c := 10) (by omega) hl.1 (ri ?_))
          rw [bI_0]
          refine ⟨fun q => ?_, fun q => m_is (c := 15) (by omega) hl.1 (ri ?_)⟩
          · simp only [Bool.not_eq_false, decide_eq_true_eq] at q
            exact tkOp 2 1 (by rw [q]; rfl) (Or.inr ⟨rfl, rfl⟩)
          · rw [bI_0]
            simp only [decide_eq_false_iff_not] at q
            refine ⟨fun q2 => ?_, fun q2 => ?_⟩
            · simp only [decide_eq_false_iff_not] at q2
              refine tkOp 1 0 ?_ (Or.inl ⟨rfl, rfl⟩)
              have : tkK T a = 8 ∨ tkK T a = 9 := by omega
              rcases this with y | y <;> rw [y] <;> rfl
            · simp only [Bool.not_eq_false, decide_eq_true_eq] at q2
              exact tkOp 2 1 (by rw [q2]; rfl) (Or.inr ⟨rfl, rfl⟩)
        refine tX10_expression_145 (m_is (c := 8) (by omega) hl.1 (ri ?_))
        rw [bI_0]
        refine ⟨fun q => ?_, fun q => m_is (c := 9) (by omega) hl.1 (ri ?_)⟩
        · simp only [Bool.not_eq_false, decide_eq_true_eq] at q
          exact opE (by rw [q]; decide)
        rw [bI_0]
        refine ⟨fun q2 => ?_, fun q2 => m_is (c := 10) (by omega) hl.1 (ri ?_)⟩
        · simp only [Bool.not_eq_false, decide_eq_true_eq] at q2
          exact opE (by rw [q2]; decide)
        rw [bI_0]
        refine ⟨fun q3 => ?_, fun q3 => m_is (c := 15) (by omega) hl.1 (ri ?_)⟩
        · simp only [Bool.not_eq_false, decide_eq_true_eq] at q3
          exact opE (by rw [q3]; decide)
        rw [bI_0]
        refine ⟨fun q4 => ?_, fun q4 => ?_⟩
        · simp only [decide_eq_false_iff_not] at q q2 q3 q4
          have b0 : bnd (tkK T a) = 0 := by
            unfold bnd
            rw [if_neg (by omega), if_neg (by omega)]
          rw [if_neg (by omega)] at hR
          rw [h12, nI_leI (by omega) (by omega)]
          refine ⟨fun o => ?_, fun o => ?_⟩
          · have o0 : op = 0 := by omega
            subst o0
            refine tX10_expression_204 (m_comes (b := 1) hs (Or.inl ⟨rfl, rfl⟩) hc wo hx (by omega) nb (fun τ d x3 => rv ?_))
            refine hok τ a ph ws cur (fx.tr d.fx) (hl.cg (fun b b1 b2 => d.2.1 b (by omega) (by omega) (by omega)) (by rw [d.2.2.2.2]) (fun k hk => d.2.2.1 k (by omega) (by omega))) (by rw [d.2.2.1 12 (by omega) (by omega)]; exact h12) x3.2.2.1 x3.2.2.2 ha2 hi b0 hcb ?_ hp0 hp1
            rw [show 401 - a = n + 1 by omega, pAut, if_neg (by omega)]
            exact hR
          · rw [if_neg (show ¬ op = 0 by omega), if_neg (fun y => h7 ⟨y, by omega⟩)] at hR
            refine m_fail (n := 1) hl.1 (Or.inl rfl) (fun τ d f _ => rv (tX10_expression_204 (m_comes (b := 1) (ws := ws) (cur := cur) hs (Or.inl ⟨rfl, rfl⟩) hc wo ⟨?_, ?_, ?_, ?_⟩ (by omega) nb (fun υ d2 _ => rv (herr υ _ (fx.tr (d.fx.tr d2.fx)) (f.cg (d2.2.2.1 13 (by omega) (by omega)) (d2.2.2.1 14 (by omega) (by omega))) hR.symm)))))
            · rw [d.2.1 50 (by omega) (by omega) (by omega) (by omega) (by omega)]
              exact hx.1
            · rw [d.1 318 (by omega)]
              exact hx.2.1
            · rw [d.2.1 46 (by omega) (by omega) (by omega) (by omega) (by omega)]
              exact hx.2.2.1
            · exact hx.2.2.2.cg (fun j _ _ => by rw [d.1 316 (by omega), d.1 317 (by omega)]; exact ⟨rfl, rfl⟩)
        · simp only [Bool.not_eq_false, decide_eq_true_eq] at q4
          exact opE (by rw [q4]; decide)
      refine tX10_expression_96 (m_is (c := 7) (by omega) hl.1 (ri ?_))
      rw [bI_0]
      refine ⟨fun q => e145 (fun y => ?_), fun q => ?_⟩
      · simp only [decide_eq_false_iff_not] at q
        exact q y.1
      simp only [Bool.not_eq_false, decide_eq_true_eq] at q
      rw [h12, nI_leI (by omega) (by omega)]
      refine ⟨fun o => e145 (fun y => y.2 (by omega)), fun o => ?_⟩
      have o0 : op ≠ 0 := by omega
      rw [if_neg (by rw [q]; decide), if_neg o0, if_pos q] at hR
      obtain ⟨⟨rr, hrr⟩, hi'⟩ := LAi_close hi o0
      rw [show a - a2 + 1 = a + 1 - a2 by omega] at hi'
      refine m_comes (b := 1) hs (Or.inl ⟨rfl, rfl⟩) hc wo hx (by omega) nb (fun s3 d3 x3 => rv (fun s5 es5 s6 es6 => ?_))
      obtain ⟨y1, y2, y3, y4⟩ := x3
      rw [hrr] at y1 y2
      rw [hrr] at hi' hR
      rw [y1, List.length_cons, nI_pred] at es5
      have k12 : s5.1 284 12 = nI op := by rw [es5, sI_at, if_neg (by omega), d3.2.2.1 12 (by omega) (by omega)]; exact h12
      obtain ⟨o1, ho1⟩ : ∃ o1, op = o1 + 1 := ⟨op - 1, by omega⟩
      rw [k12, ho1, nI_pred] at es6
      rw [ho1, Nat.add_sub_cancel] at hi' hR
      have r84 : ∀ k, k ≠ 50 → k ≠ 12 → s6.1 284 k = s3.1 284 k := fun k hk hk2 => by rw [es6, sI_at, if_neg (fun z => hk2 z.2), es5, sI_at, if_neg (fun z => hk z.2)]
      have ro : ∀ b, b ≠ 284 → s6.1 b = s3.1 b := fun b b1 => by rw [es6, sI_row, sA_off2 _ _ b1, es5, sI_row, sA_off2 _ _ b1]
      have l6 : Lv1 s6 T a late := hl.cg (fun b b1 b2 => by rw [ro b (by omega), d3.2.1 b (by omega) (by omega) (by omega)]) (by rw [es6, es5]; show s3.2.1 290 = _; rw [d3.2.2.2.2]) (fun k hk => by rw [r84 k (by omega) (by omega), d3.2.2.1 k (by omega) (by omega)])
      have fx6 : FX2 sd c0 σ0 s6 := by rw [es6, es5]; exact ((fx.tr d3.fx).wf (by omega)).wf (by omega)
      have x6 : ∀ τ, F4 s6 τ → XE τ c0 rr (stE 1 ws cur) := fun τ d => by
        refine ⟨?_, ?_, ?_, ?_⟩
        · rw [d.2.1 50 (by omega) (by omega) (by omega) (by omega) (by omega), es6, sI_at, if_neg (by omega), es5, sI_at, if_pos ⟨rfl, rfl⟩]
        · rw [d.1 318 (by omega), ro 318 (by omega)]
          exact y2.2
        · rw [d.2.1 46 (by omega) (by omega) (by omega) (by omega) (by omega), r84 46 (by omega) (by omega)]
          exact y3
        · refine y4.cg (fun j _ _ => ?_)
          rw [d.1 316 (by omega), d.1 317 (by omega), ro 316 (by omega), ro 317 (by omega)]
          exact ⟨rfl, rfl⟩
      obtain ⟨wl', wo', wb', o6'⟩ := LAi_b hi'
      have wo'' : wsOk rr := wo'
      have wl'' : rr.length ≤ 20 := wl'
      refine m_goesOn l6 (by omega) (by omega) hR (fun τ e d f z => rv (m_d96 hs hc f (x6 τ d) wo'' (by omega) ?_ (fun υ d2 f2 => herr υ e (fx6.tr (d.fx.tr d2)) f2 z))) (fun τ d hlt ha z => rv ?_)
      · have : brN br + phN ph e1 e2 + (stE 1 ws cur).length + nop rr ≤ a + 1 - a2 := wb'
        omega
      · refine ihB (a + 1) τ ph o1 rr (stE 1 ws cur) (by omega) (fx6.tr d.fx) hlt (by omega) ?_ (x6 τ d) hi' hcb hp0 hp1 z
        rw [d.2.1 12 (by omega) (by omega) (by omega) (by omega) (by omega), es6, sI_at, if_pos ⟨rfl, rfl⟩]
end M26
