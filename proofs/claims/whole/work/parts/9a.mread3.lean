/-! the model: read -/
theorem dfl_ok : ∀ k, k < 3 → okL (dfl k) := fun k hk => by
  have : k = 0 ∨ k = 1 ∨ k = 2 := by omega
  rcases this with z | z | z
  · subst z
    exact ⟨rfl, ⟨okO_1 (by omega), by decide, rfl⟩⟩
  · subst z
    exact ⟨rfl, ⟨okO_0 (v := 2) (by omega), by decide, rfl⟩⟩
  · subst z
    exact ⟨rfl, ⟨okO_1 (by omega), by decide, rfl⟩⟩
theorem FM2.rf {v : Nat} {σ : SS} : FM2 v σ σ := ⟨fun _ _ => rfl, fun _ _ _ _ _ _ => rfl, fun _ _ => rfl, fun _ _ _ => rfl, rfl⟩
theorem FM2.wf {v k : Nat} {x : Int32} {σ τ : SS} (h : FM2 v σ τ) (hk : k ≠ 18 ∧ k ≠ 59 ∧ k ≠ 61) : FM2 v σ (sI τ 284 k x) := ⟨fun b hb => by rw [sI_row, sA_off2 _ _ (by omega)]; exact h.1 b hb, fun b j b1 b2 j1 j2 => by rw [sI_row, sA_off2 _ _ (by omega)]; exact h.2.1 b j b1 b2 j1 j2, fun j hj => by rw [sI_at, if_neg (by omega)]; exact h.2.2.1 j hj, h.2.2.2.1, h.2.2.2.2⟩
theorem FM2.w6 {v k : Nat} {x : Int32} {σ τ : SS} (h : FM2 v σ τ) : FM2 v σ (sI τ 286 k x) := ⟨fun b hb => by rw [sI_row, sA_off2 _ _ (by omega)]; exact h.1 b hb, fun b j b1 b2 j1 j2 => by rw [sI_row, sA_off2 _ _ (by omega)]; exact h.2.1 b j b1 b2 j1 j2, fun j hj => by rw [sI_at, if_neg (by omega)]; exact h.2.2.1 j hj, h.2.2.2.1, h.2.2.2.2⟩
section M31
variable {Γ : GE} {l : Launch} {σ τ : SS} {K : Option Value → SS → Prop} {T : List Nat} {v : Nat} {f : Int32} {P : PV} {L : LV} {H : List LV} {O : Nat → Option LV} {D : List (Nat × Nat × Nat)}
theorem MSv.f2 {f' : Int32} (h : MSv σ v T f P L H O D) (d : FM2 v σ τ) (h17 : τ.1 284 17 = f') (h2 : τ.1 284 2 = 0) : MSv τ v [] f' P L H O D := by
  obtain ⟨a1, a2, a3, a4, a5, a6, a7, a8⟩ := h
  refine ⟨a1.f2 d, ?_, ⟨by decide, h2, fun i hi => absurd hi (by show ¬ i < 0; omega)⟩, ?_, ?_, ?_, h17, ?_⟩
  · unfold MR
    rw [d.1 321 (by omega)]
    exact a2
  · unfold MH
    rw [d.2.2.1 59 (by omega), d.1 325 (by omega)]
    exact a4
  · unfold MO
    rw [d.1 331 (by omega), d.1 332 (by omega)]
    exact a5
  · unfold MD
    rw [d.2.2.1 61 (by omega), d.1 326 (by omega), d.1 327 (by omega)]
    exact a6
  · unfold MK
    rw [d.2.2.2.1 291 (by omega) (by omega)]
    exact a8
theorem r_read (h : MS σ T f P L H O D) (tb : TB T)
    (hK : ∀ τ, Cm σ τ → (raF T ≠ none → MS τ [] (raW T) P L H O D) → (raF T = none → MS τ [] (raW T) (raP T) (begL (raP T)) [] (fun _ => none) []) → K (some (.int (raI T))) τ) : C2 Γ l mX10_read [.ref 284] σ K := by
  obtain ⟨v, hv⟩ := h
  have mt := hv.2.2.1
  have v1 := hv.1.1.1
  have e18 := hv.1.1.2.1
  obtain ⟨t1, t2, t3⟩ := mt
  refine tX10_read (fun s1 e1 => ?_)
  rw [t2] at e1
  have sd1 : 1 - v ≤ 1 := by omega
  have vv : v = 1 - (1 - v) := by omega
  -- behind the copying
  have main : ∀ τ, FM2 v σ τ → MX τ T → (∀ k, k ≠ 4 → τ.1 284 k = σ.1 284 k) → (∀ r, r = sI τ 284 2 0 → C2 Γ l mX10_cutsUp [.ref 284] r (Rv fun s2_ => (∀ s4_ : SS, s4_ = sI s2_ 284 11 0 → (∀ s5_ : SS, s5_ = sI s4_ 284 12 0 → (∀ s6_ : SS, s6_ = sI s5_ 284 13 0 → (∀ s7_ : SS, s7_ = sI s6_ 284 15 0 → (∀ s8_ : SS, s8_ = sI s7_ 284 19 (1 - (s7_.1 284 18)) → (∀ s9_ : SS, s9_ = sI s8_ 284 20 0 → (C2 Γ l mX10_plain [.ref 284, .int (s9_.1 284 19)] s9_ (Rv fun s10_ => (∀ s12_ : SS, s12_ = sI s10_ 284 40 (130 * (s10_.1 284 19)) → (∀ s13_ : SS, s13_ = sI s12_ 284 46 (420 * (s12_.1 284 19)) → (wX10_read_112 Γ l s13_ K))))))))))))) := by
    intro τ d hx r84 r er
    have dr : FM2 v σ r := by rw [er]; exact d.wf (by omega)
    have hxr : MX r T := by
      refine ⟨hx.1, by rw [er, sI_at, if_neg (by omega)]; exact hx.2.1, fun i hi => by rw [er, sI_row, sA_off2 _ _ (by omega)]; exact hx.2.2 i hi⟩
    have mkr : MK r := by
      unfold MK
      rw [dr.2.2.2.1 291 (by omega) (by omega)]
      exact hv.2.2.2.2.2.2.2
    refine m_cutsUp hxr mkr tb (fun s2 d2 k2 => rv (fun s4 e4 s5 e5 s6 e6 s7 e7 s8 e8 s9 e9 => ?_))
    have q18 : s7.1 284 18 = nI v := by
      rw [e7, sI_at, if_neg (by omega), e6, sI_at, if_neg (by omega), e5, sI_at, if_neg (by omega), e4, sI_at, if_neg (by omega), d2.2.1 18 (by omega), er, sI_at, if_neg (by omega), r84 18 (by omega)]
      exact e18
    have q1v : (1 : Int32) - nI v = nI (1 - v) := by
      have : v = 0 ∨ v = 1 := by omega
      rcases this with z | z <;> subst z <;> decide
    rw [q18, q1v] at e8
    have d9 : FM2 v σ s9 := by
      rw [e9, e8, e7, e6, e5, e4]
      exact ((((((dr.tr d2.f2).wf (by omega)).wf (by omega)).wf (by omega)).wf (by omega)).wf (by omega)).wf (by omega)
    have f9 : ∀ k, s9.1 284 k = if k = 20 then 0 else if k = 19 then nI (1 - v) else if k = 15 then 0 else if k = 13 then 0 else if k = 12 then 0 else if k = 11 then 0 else s2.1 284 k := fun k => by
      rw [e9, sI_at, e8, sI_at, e7, sI_at, e6, sI_at, e5, sI_at, e4, sI_at]
      simp only [true_and]
    have ro9 : ∀ b, b ≠ 284 → s9.1 b = s2.1 b := fun b hb => by rw [e9, sI_row, sA_off2 _ _ hb, e8, sI_row, sA_off2 _ _ hb, e7, sI_row, sA_off2 _ _ hb, e6, sI_row, sA_off2 _ _ hb, e5, sI_row, sA_off2 _ _ hb, e4, sI_row, sA_off2 _ _ hb]
    have rj9 : s9.2 = s2.2 := by rw [e9, e8, e7, e6, e5, e4]; rfl
    have g19 : s9.1 284 19 = nI (1 - v) := by rw [f9 19]; rfl
    rw [g19]
    refine m_plain sd1 (fun s10 d10 r10 rr10 rj10 p10 l10 => rv (fun s12 e12 s13 e13 => ?_))
    have g19' : s10.1 284 19 = nI (1 - v) := by rw [r10]; exact g19
    rw [g19', show (130 : Int32) * nI (1 - v) = nI (130 * (1 - v)) by simp (disch := omega) only [nL, nI_add, pk_mul, pk_sub, nI_clamp, nI_leI, nI_ltI, nI_eq]] at e12
    have h19 : s12.1 284 19 = nI (1 - v) := by rw [e12, sI_at, if_neg (by omega)]; exact g19'
    rw [h19, show (420 : Int32) * nI (1 - v) = nI (420 * (1 - v)) by simp (disch := omega) only [nL, nI_add, pk_mul, pk_sub, nI_clamp, nI_leI, nI_ltI, nI_eq]] at e13
    have ro13 : ∀ b, b ≠ 284 → s13.1 b = s10.1 b := fun b hb => by rw [e13, sI_row, sA_off2 _ _ hb, e12, sI_row, sA_off2 _ _ hb]
    have rj13 : s13.2 = s2.2 := by
      rw [e13, e12]
      show s10.2 = _
      rw [rj10, rj9]
    have f13 : ∀ k, k ≠ 40 → k ≠ 46 → s13.1 284 k = s9.1 284 k := fun k k1 k2 => by rw [e13, sI_at, if_neg (fun z => k2 z.2), e12, sI_at, if_neg (fun z => k1 z.2), r10]
    have d13 : FM2 v σ s13 := by
      rw [e13, e12]
      exact ((d9.tr (d10.f2 vv)).wf (by omega)).wf (by omega)
    have z2 : s13.1 284 2 = 0 := by
      rw [f13 2 (by omega) (by omega), f9 2]
      show s2.1 284 2 = 0
      rw [d2.2.1 2 (by omega), er, sI_at, if_pos ⟨rfl, rfl⟩]
    have mq : MQr s13 (1 - v) T 0 none plnP [] := by
      refine ⟨sd1, ⟨⟨t1, ?_, fun j hj => absurd hj (by omega), by omega, ?_, ?_⟩, ?_⟩, ?_, ?_, p10.cg (fun b b1 b2 => ro13 b (by omega)) (fun z => z), ⟨?_, fun i hi => absurd hi (by show ¬ i < 0; omega)⟩, 0, 0, by omega, by omega, ?_, ?_, fun k hk => ⟨dfl_ok k hk, 0, 0, by omega, ?_, ?_, Or.inl ⟨rfl, rfl⟩⟩⟩
      · unfold MKt
        rw [ro13 287 (by omega), ro13 288 (by omega), ro13 289 (by omega), rj13, rr10 287 (by omega), rr10 288 (by omega), rr10 289 (by omega), ro9 287 (by omega), ro9 288 (by omega), ro9 289 (by omega)]
        exact k2
      · rw [f13 11 (by omega) (by omega), f9 11]
        rfl
      · rw [f13 13 (by omega) (by omega), f9 13]
        rfl
      · show s13.1 284 15 = 0
        rw [f13 15 (by omega) (by omega), f9 15]
        rfl
      · rw [f13 19 (by omega) (by omega)]
        exact g19
      · rw [f13 12 (by omega) (by omega), f9 12]
        rfl
      · rw [f13 20 (by omega) (by omega), f9 20]
        rfl
      · rw [e13, sI_at, if_neg (by omega), e12, sI_at, if_pos ⟨rfl, rfl⟩]
        rfl
      · rw [e13, sI_at, if_pos ⟨rfl, rfl⟩]
        rfl
      · rw [ro13 309 (by omega)]
        exact (l10 k hk).1
      · rw [ro13 310 (by omega)]
        exact (l10 k hk).2
    refine m_readLoop (R := parse T) 401 0 s13 none plnP [] (by omega) mq plnP_ok rfl (fun τ e d4 fx hR => ?_) (fun τ a' late' P' N' d4 rd pi hR => ?_)
    · have ef : raF T = some e := by unfold raF; rw [hR]
      have ei : raI T = nI e.1 := by unfold raI; rw [ef]
      have ew : raW T = nI e.2 := by unfold raW; rw [ef]
      rw [ei] at hK
      refine tX10_read_134 ⟨fun y => absurd y fx.nle, fun _ s17 e17 => ?_⟩
      rw [fx.2.2.2] at e17
      have g13 : s17.1 284 13 = nI e.1 := by rw [e17, sI_at, if_neg (by omega)]; exact fx.2.2.1
      have dd : FM2 v σ s17 := by rw [e17]; exact (d13.tr (d4.f2 vv)).wf (by omega)
      refine ⟨fun y => absurd y ?_, fun _ => ?_⟩
      · rw [g13, ← fx.2.2.1]
        exact fx.nle
      · rw [g13]
        refine hK s17 dd.cm (fun _ => ⟨v, ?_⟩) (fun z => absurd z (by rw [ef]; simp))
        rw [ew]
        refine hv.f2 dd (by rw [e17, sI_at, if_pos ⟨rfl, rfl⟩]) ?_
        rw [e17, sI_at, if_neg (by omega), d4.2.1 2 (by omega) (by omega) (by omega) (by omega) (by omega) (by omega) (by omega) (by omega) (by omega) (by omega)]
        exact z2
    · have ef : raF T = late' := by unfold raF; rw [hR]
      have ep : raP T = P' := by unfold raP; rw [hR]
      have i13 : τ.1 284 13 = 0 := rd.2.1.1.2.2.2.2.2
      have y2 : τ.1 284 2 = 0 := by
        rw [d4.2.1 2 (by omega) (by omega) (by omega) (by omega) (by omega) (by omega) (by omega) (by omega) (by omega) (by omega)]
        exact z2
      have le0 : (0 : Int32) ≤ 0 := by decide
      refine tX10_read_134 ⟨fun _ => ?_, fun y => absurd (by rw [i13]; exact le0) y⟩
      cases late' with
      | some x =>
        obtain ⟨m, q⟩ := x
        obtain ⟨b1, b2, b3, b4, b5, -⟩ := rd.2.1.2
        have ei : raI T = nI m := by unfold raI; rw [ef]
        have ew : raW T = nI q := by unfold raW; rw [ef]
        rw [ei] at hK
        have nle : ¬ nI m ≤ (0 : Int32) := nI_nle (by omega) (by omega)
        refine ⟨fun y => absurd y (by rw [b4]; exact nle), fun _ s9 e9 => ?_⟩
        rw [b5] at e9
        have g13 : s9.1 284 13 = 0 := by rw [e9, sI_at, if_neg (by omega)]; exact i13
        have g15 : s9.1 284 15 = nI m := by rw [e9, sI_at, if_neg (by omega)]; exact b4
        have dd : FM2 v σ s9 := by rw [e9]; exact (d13.tr (d4.f2 vv)).wf (by omega)
        refine ⟨fun _ => ⟨fun y => absurd y (by rw [g15]; exact nle), fun _ => ?_⟩, fun y => absurd (by rw [g13]; exact le0) y⟩
        rw [g15]
        refine hK s9 dd.cm (fun _ => ⟨v, ?_⟩) (fun z => absurd z (by rw [ef]; simp))
        rw [ew]
        exact hv.f2 dd (by rw [e9, sI_at, if_pos ⟨rfl, rfl⟩]) (by rw [e9, sI_at, if_neg (by omega)]; exact y2)
      | none =>
        have b4 : τ.1 284 15 = 0 := rd.2.1.2
        have ei : raI T = 0 := by unfold raI; rw [ef]
        have ew : raW T = -1 := by unfold raW; rw [ef]
        rw [ei, ew, ep] at hK
        refine ⟨fun _ s1 e1 => ?_, fun y => absurd (by rw [b4]; exact le0) y⟩
        have g13 : s1.1 284 13 = 0 := by rw [e1, sI_at, if_neg (by omega)]; exact i13
        have g15 : s1.1 284 15 = 0 := by rw [e1, sI_at, if_neg (by omega)]; exact b4
        refine ⟨fun _ => ⟨fun _ s2 e2 => ?_, fun y => absurd (by rw [g15]; exact le0) y⟩, fun y => absurd (by rw [g13]; exact le0) y⟩
        have g19 : s1.1 284 19 = nI (1 - v) := by rw [e1, sI_at, if_neg (by omega)]; exact rd.2.2.1
        rw [g19] at e2
        have r2 : ∀ b, b ≠ 284 → s2.1 b = τ.1 b := fun b hb => by rw [e2, sI_row, sA_off2 _ _ hb, e1, sI_row, sA_off2 _ _ hb]
        have j2 : s2.2 = τ.2 := by rw [e2, e1]; rfl
        have g2 : MG s2 (1 - v) P' := rd.mg pi (fun b b1 b2 => r2 b (by omega)) (by rw [e2, sI_at, if_pos ⟨rfl, rfl⟩])
        refine m_begins g2.1 (fun s3 d3 m3 _ => rv (m_keepsRow m3 (fun s5 d5 m5 => rv (fun s7 e7 s8 e8 => ?_))))
        have last : ∀ m i υ, m + i = 3 → (∀ b, b ≠ 331 → υ.1 b = s8.1 b) → υ.2 = s8.2 → (∀ j, j < i → υ.1 331 j = 0) → wX10_read_219 Γ l (nI i) υ K := by
          intro m
          induction m with
          | zero =>
            intro i υ hm q1 q2 q3
            have : i = 3 := by omega
            subst this
            refine tX10_read_219 ⟨fun _ => ?_, fun y => absurd (by decide) y⟩
            have f8 : ∀ k, k ≠ 17 → k ≠ 18 → k ≠ 56 → k ≠ 59 → k ≠ 61 → s8.1 284 k = τ.1 284 k := fun k k1 k2 k3 k4 k5 => by
              rw [e8, sI_at, if_neg (fun z => k5 z.2), e7, sI_at, if_neg (fun z => k4 z.2), d5.2.1 k (by simp), d3.2.1 k (by simp; exact k3), e2, sI_at, if_neg (fun z => k2 z.2), e1, sI_at, if_neg (fun z => k1 z.2)]
            have r8 : ∀ b, b ≠ 284 → b ≠ 321 → b ≠ 322 → s8.1 b = τ.1 b := fun b c1 c2 c3 => by
              rw [e8, sI_row, sA_off2 _ _ c1, e7, sI_row, sA_off2 _ _ c1, d5.1 b (by simp; exact c2) c1, d3.1 b (by simp; exact c3) c1, r2 b c1]
            have j8 : s8.2 = τ.2 := by
              rw [e8, e7]
              show s5.2 = _
              rw [d5.2.2, d3.2.2, j2]
            have cm : Cm σ υ := by
              have dd : FM2 v σ τ := d13.tr (d4.f2 vv)
              refine ⟨fun b hb => ?_, fun b hb => ?_, ?_⟩
              · rw [q1 b (by omega), r8 b (by omega) (by omega) (by omega)]
                exact dd.1 b (by omega)
              · rw [q2, j8]
                exact dd.2.2.2.1 b (by omega) (by omega)
              · rw [q2, j8]
                exact dd.2.2.2.2
            refine hK υ cm (fun z => absurd ef z) (fun _ => ⟨1 - v, ?_, ?_, ⟨by decide, ?_, fun i hi => absurd hi (by show ¬ i < 0; omega)⟩, ⟨by decide, ?_, fun j hj => absurd hj (by show ¬ j < 0; omega)⟩, fun s hs => ⟨?_, fun M hM => absurd hM (by simp)⟩, ⟨by decide, ?_, fun i hi => absurd hi (by show ¬ i < 0; omega)⟩, ?_, ?_⟩)
            · refine rd.mg pi (fun b b1 b2 => by rw [q1 b (by omega), r8 b (by omega) (by omega) (by omega)]) ?_
              rw [q1 284 (by omega), e8, sI_at, if_neg (by omega), e7, sI_at, if_neg (by omega), d5.2.1 18 (by simp), d3.2.1 18 (by simp), e2, sI_at, if_pos ⟨rfl, rfl⟩]
            · unfold MR
              rw [q1 321 (by omega), e8, sI_row, sA_off2 _ _ (by omega), e7, sI_row, sA_off2 _ _ (by omega)]
              exact m5
            · rw [q1 284 (by omega), f8 2 (by omega) (by omega) (by omega) (by omega) (by omega)]
              exact y2
            · rw [q1 284 (by omega), e8, sI_at, if_neg (by omega), e7, sI_at, if_pos ⟨rfl, rfl⟩]
              rfl
            · rw [q3 s hs]
              rfl
            · rw [q1 284 (by omega), e8, sI_at, if_pos ⟨rfl, rfl⟩]
              rfl
            · rw [q1 284 (by omega), e8, sI_at, if_neg (by omega), e7, sI_at, if_neg (by omega), d5.2.1 17 (by simp), d3.2.1 17 (by simp), e2, sI_at, if_neg (by omega), e1, sI_at, if_pos ⟨rfl, rfl⟩]
            · unfold MK
              have dd : FM2 v σ τ := d13.tr (d4.f2 vv)
              rw [q2, j8, dd.2.2.2.1 291 (by omega) (by omega)]
              exact hv.2.2.2.2.2.2.2
          | succ m ih =>
            intro i υ hm q1 q2 q3
            refine tX10_read_219 ⟨fun y => absurd y (by simp (disch := omega) only [nL, nI_add, pk_mul, pk_sub, nI_clamp, nI_leI, nI_ltI, nI_eq]; omega), fun _ => ⟨vp_in_nI (by omega) (by omega), fun u1 eu => ?_⟩⟩
            rw [nI_clamp (by omega)] at eu
            rw [nI_1]
            refine ih (i + 1) u1 (by omega) (fun b hb => by rw [eu, sI_row, sA_off2 _ _ hb]; exact q1 b hb) (by rw [eu]; exact q2) (fun j hj => ?_)
            rw [eu, sI_at]
            by_cases c : j = i
            · rw [if_pos ⟨rfl, c⟩]
              rfl
            · rw [if_neg (fun z => c z.2)]
              exact q3 j (by omega)
        exact last 3 0 s8 (by omega) (fun _ _ => rfl) rfl (fun j hj => absurd hj (by omega))
  have copy : ∀ m i τ, m + i = T.length → FM2 v σ τ → (∀ b, b ≠ 286 → τ.1 b = s1.1 b) → (∀ j (hj : j < T.length), j < i → τ.1 286 j &&& 255 = nI T[j]) → wX10_read_10 Γ l (nI i) τ K := by
    intro m
    induction m with
    | zero =>
      intro i τ hm d q1 q2
      have g4 : τ.1 284 4 = nI T.length := by rw [q1 284 (by omega), e1, sI_at, if_pos ⟨rfl, rfl⟩]
      refine tX10_read_10 ⟨fun _ => main τ d ⟨t1, g4, fun j hj => q2 j hj (by omega)⟩ (fun k hk => by rw [q1 284 (by omega), e1, sI_at, if_neg (fun z => hk z.2)]), fun y => absurd ?_ y⟩
      rw [g4, nI_leI (by omega) (by omega)]
      omega
    | succ m ih =>
      intro i τ hm d q1 q2
      have g4 : τ.1 284 4 = nI T.length := by rw [q1 284 (by omega), e1, sI_at, if_pos ⟨rfl, rfl⟩]
      have v20 : vp_in (nI i) 2000 := vp_in_nI (by omega) (by omega)
      refine tX10_read_10 ⟨fun y => absurd y ?_, fun _ => ⟨v20, v20, fun u1 eu => ?_⟩⟩
      · rw [g4, nI_leI (by omega) (by omega)]
        omega
      rw [nI_clamp (by omega)] at eu
      rw [nI_1]
      refine ih (i + 1) u1 (by omega) (by rw [eu]; exact d.w6) (fun b hb => by rw [eu, sI_row, sA_off2 _ _ hb]; exact q1 b hb) (fun j hj hji => ?_)
      rw [eu, sI_at]
      by_cases c : j = i
      · subst c
        rw [if_pos ⟨rfl, rfl⟩, nar_low, q1 285 (by omega), e1, sI_row, sA_off2 _ _ (by omega)]
        exact t3 j hj
      · rw [if_neg (fun z => c z.2)]
        exact q2 j hj (by omega)
  exact copy T.length 0 s1 (by omega) (by rw [e1]; exact FM2.rf.wf (by omega)) (fun _ _ => rfl) (fun j _ hj => absurd hj (by omega))
end M31
