/-! the class: what was, what is held -/
theorem isL_b : ∀ i, i < 30 → isL (54 + 5 * i) := by unfold isL; decide
theorem isL_s : ∀ i, i < 3 → isL (204 + 5 * i) := by unfold isL; decide
theorem isL_n : isL 269 := by unfold isL; decide
/-- rows of the lawn that stands, and scratch -/
def scn (S : List Nat) : Prop := ∀ b, b ∈ S → b = 21 ∨ b = 24 ∨ b = 27 ∨ b = 39 ∨ b = 42 ∨ b = 45 ∨ b = 47 ∨ b = 48 ∨ b = 49 ∨ (269 ≤ b ∧ b ≤ 283)
theorem scn.cl {S : List Nat} (h : scn S) : ∀ b, b ∈ S → b < 284 := fun b hb => by
  have := h b hb
  omega
theorem scn.off {S : List Nat} (h : scn S) : offP S := fun b hb => by
  have := h b hb
  omega
theorem scn.no {S : List Nat} (h : scn S) {b : Nat} (h1 : b < 269) (h2 : b ∉ [21, 24, 27, 39, 42, 45, 47, 48, 49]) : b ∉ S := fun hb => by
  have := h b hb
  simp at h2
  omega
theorem XL.sn {S : List Nat} {σ τ : SS} {a : Nat} {L : LV} (h : XL σ a L) (d : Df S σ τ) (hS : scn S) (ha : a + 5 ≤ 269) : XL τ a L := by
  have hg := isL_ge h.1
  exact h.df d (hS.no (by omega) (by simp; omega)) (hS.no (by omega) (by simp; omega)) (hS.no (by omega) (by simp; omega)) (hS.no (by omega) (by simp; omega)) (hS.no (by omega) (by simp; omega))
theorem XPa.sn {S : List Nat} {σ τ : SS} {H : List LV} {O : Nat → Option LV} (h : XPa σ H O) (d : Df S σ τ) (hS : scn S) : XPa τ H O := by
  obtain ⟨h1, h2, ⟨nx, n1, n2, n3, n4, n5⟩, h4⟩ := h
  refine ⟨fun i hi => by rw [d.2]; exact h1 i hi, fun i hi => by rw [d.2]; exact h2 i hi, ⟨nx, n1, ?_, n3, ?_, fun j hj => (n5 j hj).sn d hS (by omega)⟩, fun s hs => ⟨?_, fun M hM => ((h4 s hs).2 M hM).sn d hS (by omega)⟩⟩
  · rw [d.1 50 (hS.no (by omega) (by simp))]; exact n2
  · rw [d.1 50 (hS.no (by omega) (by simp))]; exact n4
  · rw [d.1 53 (hS.no (by omega) (by simp))]; exact (h4 s hs).1
theorem XB.sn {S : List Nat} {σ τ : SS} {P : PV} (h : XB σ P) (d : Df S σ τ) (hS : scn S) : XB τ P := by
  obtain ⟨h1, h2, bw, b1, b2, b3⟩ := h
  refine ⟨fun i hi => by rw [d.2]; exact h1 i hi, h2.df d (hS.no (by omega) (by simp)) (hS.no (by omega) (by simp)) (hS.no (by omega) (by simp)) (hS.no (by omega) (by simp)), bw, b1, b2.sn d hS (by omega), fun w w1 w2 i hi => ?_⟩
  rw [d.1 _ (hS.no (by omega) (by simp; omega))]
  exact b3 w w1 w2 i hi
theorem XC.sn {S : List Nat} {σ τ : SS} {P : PV} (h : XC σ P) (d : Df S σ τ) (hS : scn S) : XC τ P := by
  refine ⟨h.1.sn d hS, ?_⟩
  rw [d.1 219 (hS.no (by omega) (by simp))]
  rcases h.2 with q | ⟨w, w1, w2, w3⟩
  · exact Or.inl q
  · refine Or.inr ⟨w, w1, w2, fun g g1 g2 y hy => ?_⟩
    rw [d.2]
    exact w3 g g1 g2 y hy
theorem XS.nw {S : List Nat} {σ τ : SS} {T : List Nat} {f : Int32} {P : PV} {L L' : LV} {H : List LV} {O : Nat → Option LV} {D : List (Nat × Nat × Nat)} (h : XS σ T f P L H O D) (d : Df S σ τ) (hS : scn S) (hl : XL τ 269 L') : XS τ T f P L' H O D := by
  obtain ⟨p, h1, h2, h3, h4, h5, h6, h7, h8⟩ := h
  refine ⟨p, ?_, h2.df d hS.off, hl, h4.df d (hS.no (by omega) (by simp)) (hS.no (by omega) (by simp)), h5.sn d hS, h6.df d (hS.no (by omega) (by simp)) (hS.no (by omega) (by simp)) (hS.no (by omega) (by simp)) (hS.no (by omega) (by simp)), ?_, h8.sn d hS⟩
  · unfold XQ
    rw [d.2]
    exact h1
  · rw [d.1 0 (hS.no (by omega) (by simp))]
    exact h7
/-- rows of the past -/
def scp (S : List Nat) : Prop := ∀ b, b ∈ S → b = 50 ∨ b = 53 ∨ (54 ≤ b ∧ b ≤ 218)
theorem XS.pa {S : List Nat} {σ τ : SS} {T : List Nat} {f : Int32} {P : PV} {L : LV} {H H' : List LV} {O O' : Nat → Option LV} {D : List (Nat × Nat × Nat)} (h : XS σ T f P L H O D) (d : Df S σ τ) (hS : scp S) (hp : XPa τ H' O') : XS τ T f P L H' O' D := by
  have no : ∀ b, (b < 50 ∨ 218 < b) → b ∉ S := fun b hb hm => by
    have := hS b hm
    omega
  obtain ⟨p, h1, h2, h3, h4, h5, h6, h7, h8⟩ := h
  have hlx : ∀ {a : Nat} {M : LV}, XL σ a M → 218 < a → XL τ a M := fun hm ha => hm.df d (no _ (by omega)) (no _ (by omega)) (no _ (by omega)) (no _ (by omega)) (no _ (by omega))
  refine ⟨p, ?_, h2.df d (fun b hb => ?_), hlx h3 (by omega), h4.df d (no _ (by omega)) (no _ (by omega)), hp, h6.df d (no _ (by omega)) (no _ (by omega)) (no _ (by omega)) (no _ (by omega)), ?_, ?_, ?_⟩
  · unfold XQ
    rw [d.2]
    exact h1
  · have := hS b hb
    omega
  · rw [d.1 0 (no _ (by omega))]
    exact h7
  · obtain ⟨x1, x2, bw, b1, b2, b3⟩ := h8.1
    refine ⟨fun i hi => by rw [d.2]; exact x1 i hi, x2.df d (no _ (by omega)) (no _ (by omega)) (no _ (by omega)) (no _ (by omega)), bw, b1, hlx b2 (by omega), fun w w1 w2 i hi => ?_⟩
    rw [d.1 _ (no _ (by omega))]
    exact b3 w w1 w2 i hi
  · rw [d.1 219 (no _ (by omega))]
    rcases h8.2 with q | ⟨w, w1, w2, w3⟩
    · exact Or.inl q
    · refine Or.inr ⟨w, w1, w2, fun g g1 g2 y hy => ?_⟩
      rw [d.2]
      exact w3 g g1 g2 y hy
def kp (L : LV) (H : List LV) : List LV := (L :: H).take 30
theorem XL.ap {S : List Nat} {σ τ : SS} {a : Nat} {M : LV} (h : XL σ a M) (d : Df S σ τ) (hS : ∀ b, b ∈ S → b < a ∨ a + 4 < b) : XL τ a M :=
  h.df d (fun z => by have := hS _ z; omega) (fun z => by have := hS _ z; omega) (fun z => by have := hS _ z; omega) (fun z => by have := hS _ z; omega) (fun z => by have := hS _ z; omega)
section Q6
variable {Γ : GE} {l : Launch} {σ : SS} {K : Option Value → SS → Prop} {T : List Nat} {f : Int32} {P : PV} {L : LV} {H : List LV} {O : Nat → Option LV} {D : List (Nat × Nat × Nat)} {W : Nat} {p a : Nat}
theorem q_keep (h : XS σ T f P L H O D) (hK : ∀ τ, Cl σ τ → XS τ T f P L (kp L H) O D → K none τ) : C2 Γ l mX5_keep [.ref 50, .ref 269] σ K := by
  have h0 := h
  obtain ⟨p, h1, h2, h3, h4, ⟨a1, a2, ⟨nx, n1, n2, n3, n4, n5⟩, a4⟩, h6, h7, h8⟩ := h
  refine tX5_keep isL_n ⟨by rw [n2]; exact vp_in_nI n1 (by omega), 54 + 5 * nx, ?_, isL_b nx n1, ?_⟩
  · rw [n2, nI_clamp (by omega)]
    exact a1 nx n1
  · refine c_become (isL_b nx n1) h3 (by omega) (fun υ d hl => rv (fun s4 e4 s5 e5 => ?_))
    have u50 : υ.1 50 = σ.1 50 := d.1 50 (by simp [lwS]; omega)
    have e4' : s4 = sI υ 50 3 (nI ((nx + 1) % 30)) := by
      rw [e4, u50, n2, nI_1]
      congr 1
      exact pk_rem (d := 30) (by omega) (by decide) (by decide)
    have e5' : s5 = sI s4 50 4 (nI (min 30 (H.length + 1))) := by
      rw [e5]
      congr 1
      rw [e4', sI_at, if_neg (by omega), u50, n4, nI_1]
      exact imn_n (a := 30) (by omega) (by omega)
    have dd : Df (50 :: lwS (54 + 5 * nx)) σ s5 := by
      rw [e5', e4']
      exact ((d.mo (by simp +contextual)).wI (by simp)).wI (by simp)
    have d2 : Df [50] υ s5 := by
      rw [e5', e4']
      exact (Df.rf.wI (by simp)).wI (by simp)
    refine hK s5 (dd.cl (fun b hb => by simp [lwS] at hb; omega)) (h0.pa dd (fun b hb => by simp [lwS] at hb; omega) ?_)
    have ap : ∀ {b : Nat} {M : LV}, XL σ b M → 54 ≤ b → (b + 5 ≤ 54 + 5 * nx ∨ 54 + 5 * nx + 5 ≤ b) → XL s5 b M := fun hm hb hd => hm.ap dd (fun c hc => by simp [lwS] at hc; omega)
    refine ⟨fun i hi => by rw [dd.2]; exact a1 i hi, fun i hi => by rw [dd.2]; exact a2 i hi, ⟨(nx + 1) % 30, by omega, ?_, ?_, ?_, fun j hj => ?_⟩, fun s hs => ⟨?_, fun M hM => ?_⟩⟩
    · rw [e5', sI_at, if_neg (by omega), e4', sI_at, if_pos ⟨rfl, rfl⟩]
    · simp [kp]
      omega
    · rw [e5', sI_at, if_pos ⟨rfl, rfl⟩]
      congr 1
      simp [kp]
      omega
    · have hj2 : j < 30 ∧ j < H.length + 1 := by simp [kp] at hj; omega
      by_cases j0 : j = 0
      · subst j0
        have : 54 + 5 * (((nx + 1) % 30 + 29 - 0) % 30) = 54 + 5 * nx := by omega
        rw [this]
        have e : (kp L H)[0] = L := by simp [kp]
        rw [e]
        exact hl.ap d2 (fun c hc => by simp at hc; omega)
      · obtain ⟨i, rfl⟩ : ∃ i, j = i + 1 := ⟨j - 1, by omega⟩
        have e : (kp L H)[i + 1] = H[i]'(by omega) := by simp [kp]
        rw [e]
        have e2 : ((nx + 1) % 30 + 29 - (i + 1)) % 30 = (nx + 29 - i) % 30 := by omega
        rw [e2]
        exact ap (n5 i (by omega)) (by omega) (by omega)
    · rw [dd.1 53 (by simp [lwS]; omega)]
      exact (a4 s hs).1
    · exact ap ((a4 s hs).2 M hM) (by omega) (by omega)
theorem q_undo (h : XS σ T f P L H O D) (hK : ∀ τ, Cl σ τ → XS τ T f P (H.headD L) H.tail O D → K (some (.int (bI (decide (H ≠ []))))) τ) : C2 Γ l mX9_undo [.ref 0] σ K := by
  have h0 := h
  obtain ⟨p, h1, h2, h3, h4, ⟨a1, a2, ⟨nx, n1, n2, n3, n4, n5⟩, a4⟩, h6, h7, h8⟩ := h
  refine tX9_undo (tX5_takeBack isL_n ⟨fun q s1 e1 s2 e2 => ?_, fun q => ?_⟩)
  · match H, n3, n4, n5, h0, hK with
    | [], _, n4, _, _, _ =>
      exfalso
      apply q
      rw [n4]
      rfl
    | M :: R, n3, n4, n5, h0, hK =>
      have hlen : (M :: R).length = R.length + 1 := rfl
      have e1' : s1 = sI σ 50 4 (nI R.length) := by
        rw [e1, n4, hlen, nI_pred]
      have e2' : s2 = sI s1 50 3 (nI ((nx + 29) % 30)) := by
        rw [e2]
        congr 1
        rw [e1', sI_at, if_neg (by omega), n2, show nI nx + 30 = nI (nx + 29 + 1) from nI_add nx 30, nI_pred]
        exact pk_rem (d := 30) (by omega) (by decide) (by decide)
      have dd : Df [50] σ s2 := by
        rw [e2', e1']
        exact (Df.rf.wI (by simp)).wI (by simp)
      have v3 : s2.1 50 3 = nI ((nx + 29) % 30) := by rw [e2', sI_at, if_pos ⟨rfl, rfl⟩]
      have v4 : s2.1 50 4 = nI R.length := by rw [e2', sI_at, if_neg (by omega), e1', sI_at, if_pos ⟨rfl, rfl⟩]
      have b0 := isL_b ((nx + 29) % 30) (by omega)
      have hM : XL s2 (54 + 5 * ((nx + 29) % 30)) M := (n5 0 (by simp)).ap dd (fun c hc => by simp at hc; omega)
      refine ⟨by rw [v3]; exact vp_in_nI (by omega) (by omega), 54 + 5 * ((nx + 29) % 30), ?_, b0, ?_⟩
      · rw [v3, nI_clamp (by omega), dd.2]
        exact a1 _ (by omega)
      · have hpa : XPa s2 R O := by
          refine ⟨fun i hi => by rw [dd.2]; exact a1 i hi, fun i hi => by rw [dd.2]; exact a2 i hi, ⟨(nx + 29) % 30, by omega, v3, by omega, v4, fun j hj => ?_⟩, fun s hs => ⟨?_, fun N hN => ?_⟩⟩
          · have := (n5 (j + 1) (by omega)).ap dd (fun c hc => by simp at hc; omega)
            have e2 : ((nx + 29) % 30 + 29 - j) % 30 = (nx + 29 - (j + 1)) % 30 := by omega
            rw [e2]
            exact this
          · rw [dd.1 53 (by simp)]
            exact (a4 s hs).1
          · exact ((a4 s hs).2 N hN).ap dd (fun c hc => by simp at hc; omega)
        have hs2 : XS s2 T f P L R O D := h0.pa dd (fun b hb => by simp at hb; omega) hpa
        refine c_become isL_n hM (by omega) (fun υ d hl => rv (ri ⟨rfl, ?_⟩))
        exact hK υ ((dd.cl (fun b hb => by simp at hb; omega)).tr (d.cl (fun b hb => by simp [lwS] at hb; omega))) (hs2.nw d (fun b hb => by simp [lwS] at hb; omega) hl)
  · have : H = [] := by
      rw [n4] at q
      match H, q with
      | [], _ => rfl
      | M :: R, q =>
        exfalso
        rw [show (0 : Int32) = nI 0 from rfl, nI_eq (by omega) (by omega)] at q
        simp at q
    subst this
    exact ri ⟨rfl, hK σ Cl.rf h0⟩
def putO (O : Nat → Option LV) (s : Nat) (L : LV) : Nat → Option LV := fun k => if k = s then some L else O k
def vSl (s : Int32) : Bool := vIn s 2
theorem q_hold {s : Int32} (h : XS σ T f P L H O D) (hK : ∀ τ, Cl σ τ → XS τ T f P L H (if vIn s 2 then putO O s.toNatClampNeg L else O) D → K (some (.int (bI (vIn s 2)))) τ) : C2 Γ l mX9_hold [.ref 0, .int s] σ K := by
  have h0 := h
  obtain ⟨p, h1, h2, h3, h4, ⟨a1, a2, ⟨nx, n1, n2, n3, n4, n5⟩, a4⟩, h6, h7, h8⟩ := h
  refine tX9_hold (tX5_put isL_n ⟨fun q => ?_, fun q => ⟨fun r => ?_, fun r => ?_⟩⟩)
  · have k := hK σ Cl.rf
    rw [vIn_n q] at k
    exact ri ⟨rfl, k h0⟩
  · have v : vIn s 2 = true := by
      have := (lt_nx q (n := 3) (by omega)).mp r
      simp only [vIn, decide_eq_true_eq]
      exact ⟨q, by omega⟩
    rw [v] at hK
    obtain ⟨S, rfl, hS⟩ := vIn_nat v
    have v3 : vp_in (nI S) 3 := vp_in_nI (by omega) (by omega)
    rw [nI_clamp (by omega)] at hK ⊢
    refine ⟨v3, 204 + 5 * S, a2 S (by omega), isL_s S (by omega), ?_⟩
    refine c_become (isL_s S (by omega)) h3 (by omega) (fun υ d hl => rv ⟨v3, fun s4 e4 => ri ⟨rfl, ?_⟩⟩)
    have dd : Df (53 :: lwS (204 + 5 * S)) σ s4 := by
      rw [e4]
      exact (d.mo (by simp +contextual)).wI (by simp)
    have d2 : Df [53] υ s4 := by
      rw [e4]
      exact Df.rf.wI (by simp)
    refine hK s4 (dd.cl (fun b hb => by simp [lwS] at hb; omega)) ?_
    simp only [if_true]
    refine h0.pa dd (fun b hb => by simp [lwS] at hb; omega) ?_
    refine ⟨fun i hi => by rw [dd.2]; exact a1 i hi, fun i hi => by rw [dd.2]; exact a2 i hi, ⟨nx, n1, ?_, n3, ?_, fun j hj => ?_⟩, fun s hs => ?_⟩
    · rw [dd.1 50 (by simp [lwS]; omega)]; exact n2
    · rw [dd.1 50 (by simp [lwS]; omega)]; exact n4
    · exact (n5 j hj).ap dd (fun c hc => by simp [lwS] at hc; omega)
    · unfold putO
      by_cases e : s = S
      · subst e
        simp only [if_true]
        refine ⟨?_, fun M hM => ?_⟩
        · rw [e4, sI_at, if_pos ⟨rfl, rfl⟩]
          rfl
        · simp only [Option.some.injEq] at hM
          rw [← hM]
          exact hl.ap d2 (fun c hc => by simp at hc; omega)
      · simp only [if_neg e]
        refine ⟨?_, fun M hM => ?_⟩
        · rw [e4, sI_at, if_neg (fun z => e z.2), d.1 53 (by simp [lwS]; omega)]
          exact (a4 s hs).1
        · exact ((a4 s hs).2 M hM).ap dd (fun c hc => by simp [lwS] at hc; omega)
  · have k := hK σ Cl.rf
    have v : vIn s 2 = false := by
      have : ¬ s.toNatClampNeg < 3 := fun z => r ((lt_nx q (n := 3) (by omega)).mpr z)
      simp only [vIn, decide_eq_false_iff_not]
      omega
    rw [v] at k
    exact ri ⟨rfl, k h0⟩
def canR (O : Nat → Option LV) (s : Int32) : Bool := vIn s 2 && (O s.toNatClampNeg).isSome
theorem q_restore {s : Int32} (h : XS σ T f P L H O D) (hK : ∀ τ, Cl σ τ → XS τ T f P (if canR O s then (O s.toNatClampNeg).getD L else L) (if canR O s then [] else H) O D → K (some (.int (bI (canR O s)))) τ) : C2 Γ l mX9_restore [.ref 0, .int s] σ K := by
  have h0 := h
  obtain ⟨p, h1, h2, h3, h4, ⟨a1, a2, ⟨nx, n1, n2, n3, n4, n5⟩, a4⟩, h6, h7, h8⟩ := h
  have kf : canR O s = false → K (some (.int 0)) σ := fun e => by
    have k := hK σ Cl.rf
    rw [e] at k
    exact k h0
  refine tX9_restore (tX5_goOnFrom isL_n ⟨fun q => ri ⟨rfl, kf ?_⟩, fun q => ⟨fun r => ri ⟨rfl, kf ?_⟩, fun r => ?_⟩⟩)
  · rw [canR, vIn_n q]
    rfl
  · have v : vIn s 2 = false := by
      have : ¬ s.toNatClampNeg < 3 := fun z => absurd ((lt_nx q (n := 3) (by omega)).mpr z) (Int32.not_lt.mpr r)
      simp only [vIn, decide_eq_false_iff_not]
      omega
    rw [canR, v]
    rfl
  · have v : vIn s 2 = true := by
      have := (lt_nx q (n := 3) (by omega)).mp (Int32.not_le.mp r)
      simp only [vIn, decide_eq_true_eq]
      exact ⟨q, by omega⟩
    obtain ⟨S, rfl, hS⟩ := vIn_nat v
    have v3 : vp_in (nI S) 3 := vp_in_nI (by omega) (by omega)
    have ec : canR O (nI S) = (O S).isSome := by rw [canR, v, nI_clamp (by omega)]; rfl
    rw [ec, nI_clamp (by omega)] at hK
    rw [ec] at kf
    rw [nI_clamp (by omega), (a4 S (by omega)).1, bI_0]
    refine ⟨v3, fun u => ?_, fun u => ri ⟨rfl, kf u⟩⟩
    simp only [Bool.not_eq_false] at u
    obtain ⟨M, hM⟩ := Option.isSome_iff_exists.mp u
    refine ⟨v3, 204 + 5 * S, a2 S (by omega), isL_s S (by omega), ?_⟩
    refine c_become isL_n ((a4 S (by omega)).2 M hM) (by omega) (fun υ d hl => rv (fun s4 e4 => ri ⟨rfl, ?_⟩))
    have hu := h0.nw d (fun b hb => by simp [lwS] at hb; omega) hl
    have d2 : Df [50] υ s4 := by
      rw [e4]
      exact Df.rf.wI (by simp)
    have k := hK s4 ((d.cl (fun b hb => by simp [lwS] at hb; omega)).tr (d2.cl (fun b hb => by simp at hb; omega)))
    rw [u, hM] at k
    refine k (hu.pa d2 (fun b hb => by simp at hb; omega) ?_)
    obtain ⟨p', -, -, -, -, ⟨a1', a2', ⟨nx', n1', n2', n3', n4', n5'⟩, a4'⟩, -⟩ := hu
    refine ⟨fun i hi => by rw [d2.2]; exact a1' i hi, fun i hi => by rw [d2.2]; exact a2' i hi, ⟨nx', n1', ?_, by simp, ?_, fun j hj => absurd hj (by simp)⟩, fun s hs => ⟨?_, fun N hN => ?_⟩⟩
    · rw [e4, sI_at, if_neg (by omega)]; exact n2'
    · rw [e4, sI_at, if_pos ⟨rfl, rfl⟩]; rfl
    · rw [d2.1 53 (by simp)]
      exact (a4' s hs).1
    · exact ((a4' s hs).2 N hN).ap d2 (fun c hc => by simp at hc; omega)
end Q6
