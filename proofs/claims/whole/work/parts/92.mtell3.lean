/-! the model: signs, windows and talks are told -/
theorem shG_n {w : List Nat} (h : w.length ≠ 3) : ∀ x, shG w x = false
  | 0 => decide_eq_false h
  | x + 1 => by rw [shG, shG_n h x, Bool.false_and]
theorem tg_le {q : List Nat × Nat} : ∀ N i, tgO N i → q ∈ N → q.2 ≤ i + (wN N).length
  | [], _, _, h => absurd h (by simp)
  | r :: N, i, h, hq => by
    rw [tgO] at h
    rw [wN]
    by_cases e : r.2 = 0
    · rw [if_pos e] at h ⊢
      rcases List.mem_cons.mp hq with z | z
      · rw [z, e]
        omega
      · exact tg_le N i h z
    · rw [if_neg e] at h ⊢
      rw [List.length_cons]
      rcases List.mem_cons.mp hq with z | z
      · rw [z, h.1]
        omega
      · have := tg_le N (i + 1) h.2 z
        omega
theorem bit9 : ∀ u, u < 8 → ∀ v, v < 8 → ∀ w, w < 8 → ∀ k, k < 9 → (u + 8 * v + 64 * w) / 2 ^ k % 2 = (if k < 3 then u else if k < 6 then v else w) / 2 ^ (k % 3) % 2 := by decide +kernel
theorem shp3_b (w : List Nat) : ∀ x, x < 3 → decide (shp3 w / 2 ^ x % 2 = 1) = decide (w.getD x 0 = 24) := by
  intro x hx
  have : x = 0 ∨ x = 1 ∨ x = 2 := by omega
  unfold shp3
  rcases this with z | z | z <;> subst z <;> generalize w.getD 0 0 = p0 <;> generalize w.getD 1 0 = p1 <;> generalize w.getD 2 0 = p2 <;> by_cases c0 : p0 = 24 <;> by_cases c1 : p1 = 24 <;> by_cases c2 : p2 = 24 <;> simp [c0, c1, c2]
theorem nm24 : ∀ c, c < 27 → (nI c = 24 ↔ c = 24) ∧ (nI c = 15 ↔ c = 15) := by decide
section M23
variable {Γ : GE} {l : Launch} {σ τ : SS} {K : Option Value → SS → Prop} {T : List Nat} {sd a : Nat} {late : LF} {P : PV} {N : Nms} {ρ : Type} {R : Rs ρ} {k : Kt3 ρ} {e : Nat × Nat}
/-- a cell of the plan that is not yet looked at -/
theorem MQr.free {b j : Nat} {v : Int32} (h : MQr σ sd T a late P N) (hb : (b = 298 ∧ 9 * (4 * sd + pns P) ≤ j) ∨ ((b = 300 ∨ b = 301 ∨ b = 302) ∧ 4 * sd + pnw P ≤ j)) : MQr (sI σ b j v) sd T a late P N := by
  obtain ⟨h1, h2, h3, h4, ⟨b1, b2, b3, b4, b5⟩, h6, h7⟩ := h
  have ro : ∀ c, c ≠ b → (sI σ b j v).1 c = σ.1 c := fun c hc => by rw [sI_row, sA_off2 _ _ hc]
  have hn : ∀ j, j < 9 → nR j ≠ 298 ∧ nR j ≠ 300 ∧ nR j ≠ 301 ∧ nR j ≠ 302 := by decide
  refine ⟨h1, h2.cg (fun c c1 c2 => ro c (by omega)) rfl (fun k hk => by rw [ro 284 (by omega)]), by rw [ro 284 (by omega)]; exact h3, by rw [ro 284 (by omega)]; exact h4, ⟨fun i hi => ?_, fun z => by rw [ro 296 (by omega)]; exact b2 z, fun z s k hs hk => ?_, fun w hw => ?_, by rw [ro 303 (by omega)]; exact b5⟩, h6.cg (by rw [ro 284 (by omega)]) (ro 293 (by omega)) rfl, h7.cg (Nat.le_refl _) (by rw [ro 284 (by omega)]) (by rw [ro 284 (by omega)]) (fun c c1 c2 => ro c (by omega)) rfl⟩
  · have := hn i hi
    rw [ro _ (by omega)]
    exact b1 i hi
  · rw [sI_at, if_neg (by omega)]
    exact b3 z s k hs hk
  · rw [sI_at, if_neg (by omega), sI_at, if_neg (by omega), sI_at, if_neg (by omega)]
    exact b4 w hw
theorem m_sign_s {y : Nat} {x1 : Int32} {C : Nat → Bool} {k1 : Nat → Rs ρ} (hy : y < 3) (hs4 : pns P < 4) (h : MQr σ sd T a late P N) (hc : late = none → ∀ u, u < 3 * y → σ.1 298 (9 * (4 * sd + pns P) + u) = bI (C u)) (hR : pTake T 1 a k1 = R)
    (herr : ∀ τ e, FQ sd σ τ → DEr τ e → R = .error e → K none τ)
    (hok : ∀ τ, FQ sd σ τ → MQr τ sd T (a + 1) (blm late (!fits3 (tkN T a)) 6 (tkP T a)) P N → (blm late (!fits3 (tkN T a)) 6 (tkP T a) = none → ∀ u, u < 3 * (y + 1) → τ.1 298 (9 * (4 * sd + pns P) + u) = bI (if u < 3 * y then C u else decide ((tkN T a).getD (u - 3 * y) 0 = 24))) → k1 (a + 1) = R → wX10_tellSign_7 Γ l x1 (nI (y + 1)) τ K) : wX10_tellSign_7 Γ l x1 (nI y) σ K := by
  have hs := h.1
  have h4 := h.2.1.1.2.2.2.1
  have hlt := h.2.1.2.lt h.2.1.1.2.2.1
  refine tX10_tellSign_7 ⟨fun z => absurd z ?_, fun _ => ⟨fun z => absurd h.2.1.1.2.2.2.2.2 z, fun _ => ?_⟩⟩
  · rw [show (3 : Int32) = nI 3 from rfl, nI_leI (by omega) (by omega)]
    omega
  rw [h.2.1.1.2.2.2.2.1]
  refine m_must (c := 1) rfl (by omega) (by omega) h.2.1 hR (fun τ e d f z => rv ⟨fun y => absurd y f.nle, fun _ => herr τ e d.fq f z⟩) (fun υ d hl hk1 ha z => rv ⟨fun _ => ?_, fun y => absurd (by rw [hl.1.2.2.2.2.2]; decide) y⟩)
  have h1 := h.f4 d hl (by omega) (fun z => z)
  obtain ⟨ok, l1, l8⟩ := (tk_kind T a).1 hk1
  rw [nI_clamp (n := a) (by omega), h1.nm (i := a) (by omega) hk1]
  have va : vp_in (nI a) 403 := vp_in_nI (by omega) (by omega)
  have u98 : ∀ i, υ.1 298 i = σ.1 298 i := fun i => by rw [d.1 298 (by omega)]
  have loop : ∀ m x τ, m + x = 3 → FQ sd σ τ → MQr τ sd T (a + 1) late P N → (∀ i, i < 9 * (4 * sd + pns P) + 3 * y → τ.1 298 i = σ.1 298 i) → ((tkN T a).length = 3 → ∀ v, v < x → τ.1 298 (9 * (4 * sd + pns P) + 3 * y + v) = bI (decide ((tkN T a).getD v 0 = 24))) → wX10_tellSign_60 Γ l x1 (nI y) (nI a) (bI (shG (tkN T a) x)) (nI x) τ K := by
    intro m
    induction m with
    | zero =>
      intro x τ g1 fq h2 f1 f2
      have ex : x = 3 := by omega
      subst ex
      rw [shG_3]
      have cell : ∀ (ξ : SS), ξ.1 298 = τ.1 298 → blm late (!fits3 (tkN T a)) 6 (tkP T a) = none → ∀ u, u < 3 * (y + 1) → ξ.1 298 (9 * (4 * sd + pns P) + u) = bI (if u < 3 * y then C u else decide ((tkN T a).getD (u - 3 * y) 0 = 24)) := fun ξ hx hn u hu => by
        obtain ⟨n1, n2⟩ := blm_none hn
        have fit : fits3 (tkN T a) = true := by
          cases hf : fits3 (tkN T a) with
          | true => rfl
          | false => rw [hf] at n2; exact absurd n2 (by decide)
        have l3 : (tkN T a).length = 3 := by
          unfold fits3 at fit
          simp only [Bool.and_eq_true, decide_eq_true_eq] at fit
          exact fit.1
        rw [hx]
        by_cases c : u < 3 * y
        · rw [if_pos c, f1 _ (by omega)]
          exact hc n1 u c
        · rw [if_neg c]
          have := f2 l3 (u - 3 * y) (by omega)
          rw [show 9 * (4 * sd + pns P) + 3 * y + (u - 3 * y) = 9 * (4 * sd + pns P) + u by omega] at this
          exact this
      refine tX10_tellSign_60 ⟨fun _ => ?_, fun q => absurd (by decide) q⟩
      rw [bI_0]
      refine ⟨fun q => tX10_tellSign_157 ?_, fun q => m_wrongQ (n := 6) h2 (by omega) (by omega) (fun m r y => Or.inl (hlt m r y)) (fun ξ d2 h3 => rv (tX10_tellSign_157 ?_))⟩
      · simp only [Bool.not_eq_false] at q
        rw [nI_1]
        refine hok τ fq ?_ (cell τ rfl) z
        rw [q, Bool.not_true, blm_f]
        exact h2
      · rw [nI_1]
        refine hok ξ (fq.tr d2.fq) ?_ (cell ξ (d2.1 298 (by omega))) z
        rw [q]
        exact h3
    | succ m ih =>
      intro x τ g1 fq h2 f1 f2
      refine tX10_tellSign_60 ⟨fun q => absurd q ?_, fun _ => ⟨va, ?_⟩⟩
      · rw [show (3 : Int32) = nI 3 from rfl, nI_leI (by omega) (by omega)]
        omega
      rw [nI_clamp (n := a) (by omega), h2.nm (i := a) (by omega) hk1]
      refine m_letterIn ok l8 l1 (by omega) (fun r hr => ri ?_)
      have g27 := getD_27 ok x
      obtain ⟨q1, q2⟩ := nm24 ((tkN T a).getD x 0) g27
      have e97 : τ.1 297 sd = nI (pns P) := h2.n (j := 2) (by omega)
      have st : ∀ (fl : Bool), fl = shG (tkN T a) (x + 1) → wX10_tellSign_96 Γ l x1 (nI y) (nI a) (bI fl) (nI x) r τ K := fun fl hfl => by
        refine tX10_tellSign_96 ?_
        rw [h2.2.2.1, nI_clamp (n := sd) (by omega), e97]
        have ix : ((9 * ((4 * nI sd) + nI (pns P))) + (3 * nI y)) + nI x = nI (9 * (4 * sd + pns P) + 3 * y + x) := by simp (disch := omega) only [nL, nI_add, pk_mul, pk_sub, nI_clamp, nI_leI, nI_ltI, nI_eq]
        rw [ix, nI_clamp (by omega), nI_1]
        have vi : vp_in (nI (9 * (4 * sd + pns P) + 3 * y + x)) 72 := vp_in_nI (by omega) (by omega)
        have nx : ∀ (s : SS) (v : Int32), ((tkN T a).length = 3 → v = bI (decide ((tkN T a).getD x 0 = 24))) → s = sI τ 298 (9 * (4 * sd + pns P) + 3 * y + x) v → wX10_tellSign_60 Γ l x1 (nI y) (nI a) (bI fl) (nI (x + 1)) s K := fun s v hv es => by
          rw [hfl]
          refine ih (x + 1) s (by omega) (by rw [es]; exact fq.wr hs (by omega) (by omega) (by show 36 * sd ≤ _; omega) (by show _ < 36 * sd + 36; omega)) (by rw [es]; exact h2.free (by omega)) (fun i hi => by rw [es, sI_at, if_neg (by omega)]; exact f1 i hi) (fun l3 v' hv' => ?_)
          rw [es, sI_at]
          by_cases c : v' = x
          · rw [if_pos ⟨rfl, by omega⟩, hv l3, c]
          · rw [if_neg (by omega)]
            exact f2 l3 v' (by omega)
        refine ⟨vp_in_nI (by omega) (by omega), fun q => ⟨vi, fun s1 e1 => nx s1 _ (fun l3 => ?_) e1⟩, fun q => ⟨vi, fun s2 e2 => nx s2 _ (fun l3 => ?_) e2⟩⟩
        · rw [hr (by omega), q1] at q
          rw [decide_eq_false q]
          rfl
        · rw [hr (by omega), q1] at q
          rw [decide_eq_true q]
          rfl
      refine ⟨fun c => st _ ?_, fun c => ⟨fun c2 => st _ ?_, fun c2 => st false ?_⟩⟩
      · by_cases l3 : (tkN T a).length = 3
        · rw [hr (by omega), q1] at c
          rw [shG, decide_eq_true (Or.inl c), Bool.and_true]
        · rw [shG_n l3, shG_n l3]
      · by_cases l3 : (tkN T a).length = 3
        · rw [hr (by omega), q2] at c2
          rw [shG, decide_eq_true (Or.inr c2), Bool.and_true]
        · rw [shG_n l3, shG_n l3]
      · by_cases l3 : (tkN T a).length = 3
        · rw [hr (by omega), q1] at c
          rw [hr (by omega), q2] at c2
          rw [shG, decide_eq_false (by omega), Bool.and_false]
        · rw [shG_n l3]
  have start := loop 3 0 υ (by omega) d.fq h1 (fun i _ => u98 i) (fun _ v hv => absurd hv (by omega))
  refine ⟨va, m_lettersIn ok l8 (ri ?_)⟩
  rw [show (3 : Int32) = nI 3 from rfl, nI_eq (by omega) (by omega)]
  refine ⟨fun q => ?_, fun q => ?_⟩
  · have e0 : shG (tkN T a) 0 = false := decide_eq_false q
    rw [e0] at start
    exact start
  · have e0 : shG (tkN T a) 0 = true := decide_eq_true q
    rw [e0] at start
    exact start
theorem MQr.sg {S : Nat} (h : MQr σ sd T a late P N) (hc : late = none → ∀ u, u < 9 → σ.1 298 (9 * (4 * sd + pns P) + u) = bI (decide (S / 2 ^ u % 2 = 1))) : MQr (sI σ 297 sd (nI (pns P + 1))) sd T a late (sgP P S) N := by
  obtain ⟨h1, h2, h3, h4, ⟨b1, b2, b3, b4, b5⟩, h6, h7⟩ := h
  have ro : ∀ c, c ≠ 297 → (sI σ 297 sd (nI (pns P + 1))).1 c = σ.1 c := fun c hc => by rw [sI_row, sA_off2 _ _ hc]
  refine ⟨h1, h2.cg (fun c c1 c2 => ro c (by omega)) rfl (fun k hk => by rw [ro 284 (by omega)]), by rw [ro 284 (by omega)]; exact h3, by rw [ro 284 (by omega)]; exact h4, ⟨fun i hi => ?_, fun z => by rw [ro 296 (by omega)]; exact b2 z, fun z s k hs hk => ?_, by rw [ro 300 (by omega), ro 301 (by omega), ro 302 (by omega)]; exact b4, by rw [ro 303 (by omega)]; exact b5⟩, h6.cg (by rw [ro 284 (by omega)]) (ro 293 (by omega)) rfl, h7.cg (Nat.le_refl _) (by rw [ro 284 (by omega)]) (by rw [ro 284 (by omega)]) (fun c c1 c2 => ro c (by omega)) rfl⟩
  · by_cases e : i = 2
    · subst e
      show (sI σ 297 sd (nI (pns P + 1))).1 297 sd = nI (pns P + 1)
      rw [sI_at, if_pos ⟨rfl, rfl⟩]
    · have hn : nR i ≠ 297 := (by decide : ∀ i, i < 9 → i ≠ 2 → nR i ≠ 297) i hi e
      rw [ro _ hn, sgP_o _ _ _ _ e (by omega)]
      exact b1 i hi
  · rw [ro 298 (by omega)]
    unfold pcut
    rw [sgP_sg]
    rw [sgP_2] at hs
    by_cases e : s = pns P
    · rw [if_pos e, e]
      exact hc z k hk
    · rw [if_neg e]
      exact b3 z s k (by omega) hk
theorem m_endsD {x y : Int32} (h : DEr σ e) (hK : K none σ) : C2 Γ l mX10_ends [.ref 284, .int x, .int y] σ K :=
  tX10_ends (m_mustD h (rv ⟨fun z => absurd z h.nle, fun _ => hK⟩))
theorem m_tellSign (h : MQr σ sd T a late P N) (hi : PI late P N) (hs4 : pns P < 4) {k1 : Kt3 ρ}
    (hR : pTake T 1 a (fun a2 => pTake T 1 a2 (fun a3 => pTake T 1 a3 (fun a4 => pTake T 1 a4 (fun a5 => pTake T 4 a5 (fun a6 =>
      k1 a6 (blm (blm (blm (blm late (isNm N (tkN T a)) 3 (tkP T a)) (!fits3 (tkN T a2)) 6 (tkP T a2)) (!fits3 (tkN T a3)) 6 (tkP T a3)) (!fits3 (tkN T a4)) 6 (tkP T a4))
        (setP (setP P 13 (pns P) (shp3 (tkN T a2) + 8 * shp3 (tkN T a3) + 64 * shp3 (tkN T a4))) 2 0 (pns P + 1)) (N ++ [(tkN T a, 0)])))))) = R)
    (herr : ∀ τ e, FQ sd σ τ → DEr τ e → R = .error e → K none τ)
    (hok : ∀ τ a' late' P' N', FQ sd σ τ → MQr τ sd T a' late' P' N' → PI late' P' N' → a < a' → k1 a' late' P' N' = R → K none τ) : C2 Γ l mX10_tellSign [.ref 284] σ K := by
  have hs := h.1
  have w4 := hi.2.2.2.1
  have hN := hi.len
  have h4 := h.2.1.1.2.2.2.1
  have dead : ∀ υ e, FQ sd σ υ → DEr υ e → R = .error e → wX10_tellSign_163 Γ l (nI a) υ K := fun υ e fq f z => tX10_tellSign_163 (m_endsD f (rv ⟨fun _ => herr υ e fq f z, fun y => absurd y f.n0⟩))
  refine tX10_tellSign (m_named h hi hR (fun τ e d f z => ri (tX10_tellSign_7 ⟨fun _ => dead τ e d.fq f z, fun _ => ⟨fun _ => dead τ e d.fq f z, fun y => absurd y f.n0⟩⟩)) (fun τ d h1 hk1 z => ri ?_))
  obtain ⟨ok, l1, l8⟩ := (tk_kind T a).1 hk1
  refine m_sign_s (y := 0) (C := fun _ => false) (by omega) hs4 h1 (fun _ u hu => absurd hu (by omega)) z (fun ξ e dx f t => herr ξ e (d.fq.tr dx) f t) (fun s1 d1 h2 c2 z2 => ?_)
  refine m_sign_s (y := 1) (by omega) hs4 h2 c2 z2 (fun ξ e dx f t => herr ξ e (d.fq.tr (d1.tr dx)) f t) (fun s2 d2 h3 c3 z3 => ?_)
  refine m_sign_s (y := 2) (by omega) hs4 h3 c3 z3 (fun ξ e dx f t => herr ξ e (d.fq.tr (d1.tr (d2.tr dx))) f t) (fun s3 d3 h5 c4 z4 => ?_)
  have fq3 := d.fq (sd := sd).tr (d1.tr (d2.tr d3))
  refine tX10_tellSign_7 ⟨fun _ => tX10_tellSign_163 ?_, fun q => absurd (by decide) q⟩
  refine m_ends (t := 0) (j := a) rfl h5 (by omega) (by omega) hk1 z4 (fun ξ e dx f t => rv ⟨fun _ => herr ξ e (fq3.tr dx.fq) f t, fun y => absurd y f.n0⟩) (fun s4 d4 r4 h6 z5 => rv ⟨fun y => absurd h6.2.1.1.2.2.2.2.2 y, fun _ => ?_⟩)
  have e97 : s4.1 297 sd = nI (pns P) := h6.n (j := 2) (by omega)
  rw [h6.2.2.1, nI_clamp (n := sd) (by omega), e97, nI_1]
  refine ⟨vp_in_nI (by omega) (by omega), vp_in_nI (by omega) (by omega), fun s5 e5 => ?_⟩
  have h7 := h6.sg (S := shp3 (tkN T (a + 1)) + 8 * shp3 (tkN T (a + 1 + 1)) + 64 * shp3 (tkN T (a + 1 + 1 + 1))) (fun y u hu => ?_)
  · rw [← e5] at h7
    refine hok s5 _ _ _ _ (by rw [e5]; exact MQr.fqn (j := 2) hs (by omega) (fq3.tr d4)) h7 ?_ (by omega) z5
    have t1 := shp3_lt (tkN T (a + 1))
    have t2 := shp3_lt (tkN T (a + 1 + 1))
    have t3 := shp3_lt (tkN T (a + 1 + 1 + 1))
    exact PI_sign hi (fun y => (blm_none (blm_none (blm_none (blm_none y).1).1).1).1) (by omega) ⟨ok, l8⟩ (by omega)
  · have t1 := shp3_lt (tkN T (a + 1))
    have t2 := shp3_lt (tkN T (a + 1 + 1))
    have t3 := shp3_lt (tkN T (a + 1 + 1 + 1))
    rw [r4 298 (by omega) (by omega), c4 y u (by omega), bit9 _ t1 _ t2 _ t3 u hu]
    congr 1
    by_cases u3 : u < 3
    · rw [if_pos (show u < 3 * 2 by omega), if_pos (show u < 3 * 1 by omega), if_neg (show ¬ u < 3 * 0 by omega), if_pos u3, shp3_b _ _ (by omega)]
      congr 3
      omega
    · by_cases u6 : u < 6
      · rw [if_pos (show u < 3 * 2 by omega), if_neg (show ¬ u < 3 * 1 by omega), if_neg u3, if_pos u6, shp3_b _ _ (by omega)]
        congr 3
        omega
      · rw [if_neg (show ¬ u < 3 * 2 by omega), if_neg u3, if_neg u6, shp3_b _ _ (by omega)]
        congr 3
        omega
end M23
