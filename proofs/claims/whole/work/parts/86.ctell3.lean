/-! the class: windows and talks are told; a tell -/
theorem nI_sur (x : Int32) : ∃ n, x = nI n := ⟨x.toBitVec.toNat, by
  apply Int32.toBitVec_inj.1
  show x.toBitVec = BitVec.ofNat 32 x.toBitVec.toNat
  simp⟩
section P7
variable {Γ : GE} {l : Launch} {σ τ : SS} {K : Option Value → SS → Prop} {T : List Nat} {p a : Nat} {late : LF} {P : PV} {N : Nms} {ρ : Type} {R : Rs ρ} {k : Kt3 ρ}
theorem wP_o (P : PV) (x y z a b : Nat) (h3 : a ≠ 3) (h9 : a ≠ 9) (h10 : a ≠ 10) (h11 : a ≠ 11) : (winP P x y z).1 a b = P.1 a b := by
  show (if a = 3 ∧ b = 0 then pnw P + 1 else if a = 11 ∧ b = pnw P then z else if a = 10 ∧ b = pnw P then y else if a = 9 ∧ b = pnw P then x else P.1 a b) = _
  rw [if_neg (fun q => h3 q.1), if_neg (fun q => h11 q.1), if_neg (fun q => h10 q.1), if_neg (fun q => h9 q.1)]
theorem wP_9 (P : PV) (x y z v : Nat) : pfr (winP P x y z) v = if v = pnw P then x else pfr P v := by
  show (if (9 : Nat) = 3 ∧ v = 0 then pnw P + 1 else if (9 : Nat) = 11 ∧ v = pnw P then z else if (9 : Nat) = 10 ∧ v = pnw P then y else if (9 : Nat) = 9 ∧ v = pnw P then x else pfr P v) = _
  rw [if_neg (fun y => absurd y.1 (by decide)), if_neg (fun y => absurd y.1 (by decide)), if_neg (fun y => absurd y.1 (by decide))]
  simp only [true_and]
theorem wP_10 (P : PV) (x y z v : Nat) : pto (winP P x y z) v = if v = pnw P then y else pto P v := by
  show (if (10 : Nat) = 3 ∧ v = 0 then pnw P + 1 else if (10 : Nat) = 11 ∧ v = pnw P then z else if (10 : Nat) = 10 ∧ v = pnw P then y else if (10 : Nat) = 9 ∧ v = pnw P then x else pto P v) = _
  rw [if_neg (fun y => absurd y.1 (by decide)), if_neg (fun y => absurd y.1 (by decide)), if_neg (c := (10 : Nat) = 9 ∧ v = pnw P) (fun y => absurd y.1 (by decide))]
  simp only [true_and]
theorem wP_11 (P : PV) (x y z v : Nat) : psh (winP P x y z) v = if v = pnw P then z else psh P v := by
  show (if (11 : Nat) = 3 ∧ v = 0 then pnw P + 1 else if (11 : Nat) = 11 ∧ v = pnw P then z else if (11 : Nat) = 10 ∧ v = pnw P then y else if (11 : Nat) = 9 ∧ v = pnw P then x else psh P v) = _
  rw [if_neg (fun y => absurd y.1 (by decide)), if_neg (c := (11 : Nat) = 10 ∧ v = pnw P) (fun y => absurd y.1 (by decide)), if_neg (c := (11 : Nat) = 9 ∧ v = pnw P) (fun y => absurd y.1 (by decide))]
  simp only [true_and]
theorem wP_3 (P : PV) (x y z : Nat) : pnw (winP P x y z) = pnw P + 1 := rfl
/-- one of a window's three numbers is set -/
theorem XPb.wn {j x y z v : Nat} (hj : j < 3) (h : XPb σ p (winP P x y z) N) : XPb (sI σ (p + 5 + j) (pnw P) (nI v)) p (winP P (if j = 0 then v else x) (if j = 1 then v else y) (if j = 2 then v else z)) N := by
  obtain ⟨a1, a2, a3, a4, a5, a6, a7, a8, a9, a10, a11⟩ := id h
  have ro : ∀ b, b ≠ p + 5 + j → (sI σ (p + 5 + j) (pnw P) (nI v)).1 b = σ.1 b := fun b hb => by rw [sI_row, sA_off2 _ _ hb]
  refine h.up rfl (fun b b1 _ => ro b (by omega)) (ro _ (by omega)) (fun j hj => ?_) (fun s hs => ?_) (fun w hw => ?_) (fun w hw => ?_) a7 a8
  · rw [ro _ (by omega), a2 j hj]
    congr 1
    by_cases e : j = 3
    · subst e
      rfl
    · rw [wP_o _ _ _ _ _ _ e (by omega) (by omega) (by omega), wP_o _ _ _ _ _ _ e (by omega) (by omega) (by omega)]
  · rw [ro _ (by omega)]
    exact a4 s hs
  · have := a5 w hw
    rw [wP_9, wP_10, wP_11] at this ⊢
    obtain ⟨b1, b2, b3⟩ := this
    rw [sI_at, sI_at, sI_at]
    by_cases e : w = pnw P
    · rw [if_pos e] at b1 b2 b3
      rw [if_pos e, if_pos e, if_pos e]
      refine ⟨?_, ?_, ?_⟩
      · by_cases z : j = 0
        · have c : p + 5 = p + 5 + j ∧ w = pnw P := ⟨by omega, e⟩
          rw [if_pos c, if_pos z]
        · have c : ¬ (p + 5 = p + 5 + j ∧ w = pnw P) := fun y => z (by omega)
          rw [if_neg c, if_neg z]
          exact b1
      · by_cases z : j = 1
        · have c : p + 6 = p + 5 + j ∧ w = pnw P := ⟨by omega, e⟩
          rw [if_pos c, if_pos z]
        · have c : ¬ (p + 6 = p + 5 + j ∧ w = pnw P) := fun y => z (by omega)
          rw [if_neg c, if_neg z]
          exact b2
      · by_cases z : j = 2
        · have c : p + 7 = p + 5 + j ∧ w = pnw P := ⟨by omega, e⟩
          rw [if_pos c, if_pos z]
        · have c : ¬ (p + 7 = p + 5 + j ∧ w = pnw P) := fun y => z (by omega)
          rw [if_neg c, if_neg z]
          exact b3
    · rw [if_neg e] at b1 b2 b3
      rw [if_neg (c := p + 5 = p + 5 + j ∧ w = pnw P) (fun z => e z.2), if_neg (c := p + 6 = p + 5 + j ∧ w = pnw P) (fun z => e z.2), if_neg (c := p + 7 = p + 5 + j ∧ w = pnw P) (fun z => e z.2), if_neg e, if_neg e, if_neg e]
      exact ⟨b1, b2, b3⟩
  · rw [ro _ (by omega)]
    exact a6 w hw
theorem XPb.wn0 {w : List Nat} (h : XPb σ p P N) (hl : (wN N).length = pnw P) : ∃ x y z, XPb (sI (sJ σ (p + 4) (pnw P) (lN (nmC w))) p 14 (nI (pnw P + 1))) p (winP P x y z) (N ++ [(w, pnw P + 1)]) := by
  obtain ⟨a1, a2, a3, a4, a5, a6, a7, a8, a9, a10, a11⟩ := id h
  obtain ⟨x, hx⟩ := nI_sur (σ.1 (p + 5) (pnw P))
  obtain ⟨y, hy⟩ := nI_sur (σ.1 (p + 6) (pnw P))
  obtain ⟨z, hz⟩ := nI_sur (σ.1 (p + 7) (pnw P))
  refine ⟨x, y, z, ?_⟩
  have ro : ∀ b, b ≠ p → (sI (sJ σ (p + 4) (pnw P) (lN (nmC w))) p 14 (nI (pnw P + 1))).1 b = σ.1 b := fun b h1 => by
    rw [sI_row, sA_off2 _ _ h1]
    rfl
  refine h.up rfl (fun b b1 _ => ro b (by omega)) (ro _ (by omega)) (fun j hj => ?_) (fun s hs => ?_) (fun v hv => ?_) (fun w hw => ?_) (nm_same (f := σ.2.1 (p + 2)) (by rw [sN_app, if_neg (by show ¬ pnw P + 1 = 0; omega), List.append_nil]) a7 ?_) (nm_snoc (f := σ.2.1 (p + 4)) (by rw [wN_app, if_neg (by show ¬ pnw P + 1 = 0; omega)]) a8 (fun t ht => ?_) ?_)
  · rw [sI_at]
    by_cases e : j = 3
    · subst e
      rw [if_pos ⟨rfl, rfl⟩]
      rfl
    · rw [if_neg (fun z => e (by omega)), wP_o _ _ _ _ _ _ e (by omega) (by omega) (by omega)]
      exact a2 j hj
  · rw [ro _ (by omega)]
    exact a4 s hs
  · rw [ro _ (by omega), ro _ (by omega), ro _ (by omega), wP_9, wP_10, wP_11]
    rw [wP_3] at hv
    by_cases e : v = pnw P
    · rw [if_pos e, if_pos e, if_pos e, e]
      exact ⟨hx, hy, hz⟩
    · rw [if_neg e, if_neg e, if_neg e]
      exact a5 v (by omega)
  · rw [ro _ (by omega)]
    exact a6 w hw
  · funext j
    show (sJ σ (p + 4) (pnw P) (lN (nmC _))).2.1 (p + 2) j = _
    rw [sJ_at, if_neg (by omega)]
  · show (sJ σ (p + 4) (pnw P) (lN (nmC _))).2.1 (p + 4) t = _
    rw [sJ_at, if_neg (by omega)]
  · show (sJ σ (p + 4) (pnw P) (lN (nmC _))).2.1 (p + 4) _ = _
    rw [sJ_at, if_pos ⟨rfl, hl⟩]
theorem c_takeWindow (h : RD σ p T a late P N) (hi : PI late P N) (hn0 : tkK T a ≠ 0) (hn3 : tkK T a ≠ 3) (hR : pWindow T a late P N k = R)
    (herr : ∀ τ e, FR p σ τ → FX τ e → R = .error e → K none τ)
    (hok : ∀ τ a' late' P' N', FR p σ τ → RD τ p T a' late' P' N' → PI late' P' N' → a < a' → k a' late' P' N' = R → K none τ) : C2 Γ l mX7_takeWindow [.ref 7] σ K := by
  have hp := isP_n h.2.2.2.1
  have g14 : σ.1 p 14 = nI (pnw P) := h.2.2.2.2.1 3 (by omega)
  have r4 := hi.2.2.2.1
  refine tX7_takeWindow ⟨p, h.2.2.1, h.2.2.2.1, ?_⟩
  rw [g14]
  refine c_open (y := 4) (by omega) (by omega) h.1 h.2.1 hn0 hn3 hR (fun τ e d f z => ri ⟨fun _ => herr τ e d.fr f z, fun y => absurd rfl y⟩) (fun τ d rk r7 hlt z => ri ⟨fun y => absurd y (by decide), fun _ => ?_⟩)
  have h1 := h.f7 d rk r7
  refine c_take (c := 1) (by decide) (by decide) (by decide) rk r7 z (fun υ e d2 f y => ri ⟨fun t => absurd rfl t, fun _ => herr υ e (d.fr.tr d2.fr) f y⟩) (fun υ d2 rk2 r72 f8 _ f10 hk1 y => ri ⟨fun _ => ?_, fun t => absurd t (by decide)⟩)
  have h2 := h1.f7 d2 rk2 r72
  obtain ⟨ok, l1, l8⟩ := (tk_kind T (a + 1)).1 hk1
  have e10 := f10 rfl
  have fr2 := d.fr (p := p).tr d2.fr
  have vi : vp_in (nI (pnw P)) 4 := vp_in_nI (by omega) (by omega)
  have fin : ∀ (τ : SS) (late' : LF), FR p σ τ → RD τ p T (a + 1 + 1) late' P N → τ.2.1 7 10 = lN (nmC (tkN T (a + 1))) → blm late (isNm N (tkN T (a + 1))) 3 (tkP T (a + 1)) = late' → wX7_takeWindow_45 Γ l (nI (pnw P)) τ K := fun τ late' fr hd g10 hl => by
    rw [hl] at y
    refine tX7_takeWindow_45 ⟨p, hd.2.2.1, hd.2.2.2.1, vi, fun s2 e2 => ⟨p, by rw [e2]; exact hd.2.2.1, hd.2.2.2.1, fun s4 e4 => ?_⟩⟩
    rw [nI_clamp (by omega), g10] at e2
    have q14 : s2.1 p 14 = nI (pnw P) := by
      rw [e2]
      exact hd.2.2.2.2.1 3 (by omega)
    rw [q14, nI_1] at e4
    have d4 : FP p τ s4 := by
      rw [e4, e2]
      exact (FP.rf.wJ ⟨by omega, by omega⟩).wI ⟨by omega, by omega⟩
    obtain ⟨x0, y0, z0, hx⟩ := hd.2.2.2.wn0 (w := tkN T (a + 1)) hi.2.2.2.2.2.2.1
    rw [← e2, ← e4] at hx
    have hd4 := hd.fp d4 hx
    have fr4 := fr.tr d4.fr
    refine c_takeInt (lo := 0) (hi := 7) (by omega) (by omega) hd4.1 hd4.2.1 y (fun ξ e dx f t => ri ⟨fun t => absurd rfl t, fun _ => herr ξ e (fr4.tr dx.fr) f t⟩) (fun s5 d5 rk5 r75 f9 hv5 y5 => ri ⟨fun _ => ⟨p, by rw [d5.2.2]; exact hd4.2.2.1, hd.2.2.2.1, vi, fun s8 e8 => ?_⟩, fun t => absurd t (by decide)⟩)
    rw [nI_clamp (by omega), f9] at e8
    have hd5 := hd4.f7 d5 rk5 r75
    rw [show decide (tkV T (a + 1 + 1) < 0 ∨ 7 < tkV T (a + 1 + 1)) = decide (7 < tkV T (a + 1 + 1)) from decide_eq_decide.mpr (by omega)] at hd5
    have d8 : FP p s5 s8 := by
      rw [e8]
      exact FP.rf.wI ⟨by omega, by omega⟩
    have hd8 := hd5.fp d8 (by rw [e8]; exact hd5.2.2.2.wn (j := 0) (v := tkV T (a + 1 + 1)) (by omega))
    simp only [if_true, show ¬ (0 : Nat) = 1 from by decide, show ¬ (0 : Nat) = 2 from by decide, if_false] at hd8
    have fr8 := fr4.tr (d5.fr.tr d8.fr)
    have g5 : s8.1 (p + 5) (pnw P) = nI (tkV T (a + 1 + 1)) := by
      have := (hd8.2.2.2.2.2.2.2.1 (pnw P) (by rw [wP_3]; omega)).1
      rw [wP_9, if_pos rfl] at this
      exact this
    refine ⟨p, hd8.2.2.1, hd.2.2.2.1, vi, ?_⟩
    rw [nI_clamp (by omega), g5]
    refine c_takeInt (lo := tkV T (a + 1 + 1)) (hi := 7) (by omega) (by omega) hd8.1 hd8.2.1 y5 (fun ξ e dx f t => ri ⟨fun t => absurd rfl t, fun _ => herr ξ e (fr8.tr dx.fr) f t⟩) (fun s10 d10 rk10 r710 f9' hv10 y10 => ri ⟨fun _ => ⟨p, by rw [d10.2.2]; exact hd8.2.2.1, hd.2.2.2.1, vi, fun s13 e13 => ?_⟩, fun t => absurd t (by decide)⟩)
    rw [f9'] at e13
    have hd10 := hd8.f7 d10 rk10 r710
    have d13 : FP p s10 s13 := by
      rw [e13]
      exact FP.rf.wI ⟨by omega, by omega⟩
    have hd13 := hd10.fp d13 (by rw [e13]; exact hd10.2.2.2.wn (j := 1) (v := tkV T (a + 1 + 1 + 1)) (by omega))
    simp only [if_true, show ¬ (1 : Nat) = 0 from by decide, show ¬ (1 : Nat) = 2 from by decide, if_false] at hd13
    have fr13 := fr8.tr (d10.fr.tr d13.fr)
    refine c_takeInt (lo := 0) (hi := 99) (by omega) (by omega) hd13.1 hd13.2.1 y10 (fun ξ e dx f t => ri ⟨fun _ => herr ξ e (fr13.tr dx.fr) f t, fun t => absurd rfl t⟩) (fun s14 d14 rk14 r714 g9 hv14 y14 => ri ⟨fun t => absurd t (by decide), fun _ => ⟨p, by rw [d14.2.2]; exact hd13.2.2.1, hd.2.2.2.1, vi, fun s17 e17 => ?_⟩⟩)
    rw [g9] at e17
    have hd14 := hd13.f7 d14 rk14 r714
    rw [show decide (tkV T (a + 1 + 1 + 1 + 1) < 0 ∨ 99 < tkV T (a + 1 + 1 + 1 + 1)) = decide (99 < tkV T (a + 1 + 1 + 1 + 1)) from decide_eq_decide.mpr (by omega)] at hd14
    have d17 : FP p s14 s17 := by
      rw [e17]
      exact FP.rf.wI ⟨by omega, by omega⟩
    have hd17 := hd14.fp d17 (by rw [e17]; exact hd14.2.2.2.wn (j := 2) (v := tkV T (a + 1 + 1 + 1 + 1)) (by omega))
    simp only [if_true, show ¬ (2 : Nat) = 0 from by decide, show ¬ (2 : Nat) = 1 from by decide, if_false] at hd17
    have fr17 := fr13.tr (d14.fr.tr d17.fr)
    refine c_end hd17 y14 (fun η e du f t => herr η e (fr17.tr du) f t) (fun η du hu t => hok η _ _ _ _ (fr17.tr du) hu ?_ (by omega) t)
    refine PI_win hi (fun z => ?_) (by omega) ⟨ok, l8⟩
    rw [← hl] at z
    obtain ⟨z1, z2⟩ := blm_none z
    obtain ⟨z3, z4⟩ := blm_none z1
    obtain ⟨z5, z6⟩ := blm_none z3
    simp only [decide_eq_false_iff_not] at z2 z4 z6
    exact ⟨(blm_none z5).1, by omega, by omega, by omega⟩
  rw [e10]
  refine ⟨p, h2.2.2.1, h2.2.2.2.1, c_isNamed ok l8 h2.2.2.2 hi (ri ?_)⟩
  rw [bI_0]
  refine ⟨fun q => fin υ late fr2 h2 e10 (by rw [q, blm_f]), fun q => c_blame (n := 3) r72 f8 (by decide) (tkP_2000 h.1.1 _) (fun ξ d3 r73 _ _ g10 => rv ?_)⟩
  simp only [Bool.not_eq_false] at q
  exact fin ξ _ (fr2.tr d3.fr) (h2.f7 d3 (rk2.f7 d3) r73) (by rw [g10]; exact e10) (by rw [q])
def tkk (P : PV) (i j : Nat) : PV := setP (setP P 12 i (ptk P i ||| 2 ^ j)) 12 j ((if j = i then ptk P i ||| 2 ^ j else ptk P j) ||| 2 ^ i)
theorem tkk_o (P : PV) (i j a b : Nat) (h : a ≠ 12) : (tkk P i j).1 a b = P.1 a b := by
  show (if a = 12 ∧ b = j then ((if j = i then ptk P i ||| 2 ^ j else ptk P j) ||| 2 ^ i) else if a = 12 ∧ b = i then ptk P i ||| 2 ^ j else P.1 a b) = _
  rw [if_neg (fun q => h q.1), if_neg (fun q => h q.1)]
theorem tkk_e (P : PV) (i j : Nat) : setP (tkk P i j) 4 0 (pnt P + 1) = talkP P (some i) (some j) := by
  refine Prod.ext ?_ rfl
  funext a b
  show (if a = 4 ∧ b = 0 then pnt P + 1 else if a = 12 ∧ b = j then ((if j = i then ptk P i ||| 2 ^ j else ptk P j) ||| 2 ^ i) else if a = 12 ∧ b = i then ptk P i ||| 2 ^ j else P.1 a b) = if a = 12 ∧ b = j then ((if j = i then ptk P i ||| 2 ^ j else ptk P j) ||| 2 ^ i) else if a = 12 ∧ b = i then ptk P i ||| 2 ^ j else if a = 4 ∧ b = 0 then pnt P + 1 else P.1 a b
  by_cases e : a = 4 ∧ b = 0
  · rw [if_pos e, if_neg (by omega), if_neg (by omega), if_pos e]
  · rw [if_neg e, if_neg e]
theorem c_addTalk {i j : Nat} (hi : i < 4) (hj : j < 4) (h : XPb σ p P N) (hK : ∀ τ, FP p σ τ → XPb τ p (tkk P i j) N → K none τ) : C2 Γ l mX6_addTalk [.ref p, .int (nI i), .int (nI j)] σ K := by
  obtain ⟨a1, a2, a3, a4, a5, a6, a7, a8, a9, a10, a11⟩ := id h
  have vi : vp_in (nI i) 4 := vp_in_nI (by omega) (by omega)
  have vj : vp_in (nI j) 4 := vp_in_nI (by omega) (by omega)
  refine tX6_addTalk a1 ⟨vi, vi, fun s1 e1 => ⟨vj, vj, fun s2 e2 => ?_⟩⟩
  rw [nI_clamp (by omega), a6 i hi, one_shl j hj, nI_or] at e1
  have g : s1.1 (p + 8) j = nI (if j = i then ptk P i ||| 2 ^ j else ptk P j) := by
    rw [e1, sI_at]
    by_cases e : j = i
    · rw [if_pos ⟨rfl, e⟩, if_pos e]
    · rw [if_neg (fun z => e z.2), if_neg e]
      exact a6 j hj
  rw [nI_clamp (by omega), g, one_shl i hi, nI_or] at e2
  have ro : ∀ b, b ≠ p + 8 → s2.1 b = σ.1 b := fun b hb => by rw [e2, sI_row, sA_off2 _ _ hb, e1, sI_row, sA_off2 _ _ hb]
  have rj : s2.2 = σ.2 := by rw [e2, e1]; rfl
  refine hK s2 (by rw [e2, e1]; exact (FP.rf.wI ⟨by omega, by omega⟩).wI ⟨by omega, by omega⟩) (h.up rfl (fun b b1 _ => ro b (by omega)) (ro _ (by omega)) (fun j hj => ?_) (fun s hs => ?_) (fun w hw => ?_) (fun w hw => ?_) (by rw [rj]; exact a7) (by rw [rj]; exact a8))
  · rw [ro _ (by omega), tkk_o _ _ _ _ _ (by omega)]
    exact a2 j hj
  · rw [ro _ (by omega), show psg (tkk P i j) s = psg P s from tkk_o _ _ _ _ _ (by omega)]
    exact a4 s hs
  · rw [ro _ (by omega), ro _ (by omega), ro _ (by omega), show pfr (tkk P i j) w = pfr P w from tkk_o _ _ _ _ _ (by omega), show pto (tkk P i j) w = pto P w from tkk_o _ _ _ _ _ (by omega), show psh (tkk P i j) w = psh P w from tkk_o _ _ _ _ _ (by omega)]
    exact a5 w hw
  · show _ = nI (if (12 : Nat) = 12 ∧ w = j then ((if j = i then ptk P i ||| 2 ^ j else ptk P j) ||| 2 ^ i) else if (12 : Nat) = 12 ∧ w = i then ptk P i ||| 2 ^ j else ptk P w)
    rw [e2, sI_at]
    by_cases e : w = j
    · rw [if_pos (c := p + 8 = p + 8 ∧ w = j) ⟨rfl, e⟩, if_pos (c := (12 : Nat) = 12 ∧ w = j) ⟨rfl, e⟩]
    · rw [if_neg (c := p + 8 = p + 8 ∧ w = j) (fun z => e z.2), if_neg (c := (12 : Nat) = 12 ∧ w = j) (fun z => e z.2), e1, sI_at]
      by_cases e2 : w = i
      · rw [if_pos (c := p + 8 = p + 8 ∧ w = i) ⟨rfl, e2⟩, if_pos (c := (12 : Nat) = 12 ∧ w = i) ⟨rfl, e2⟩]
      · rw [if_neg (c := p + 8 = p + 8 ∧ w = i) (fun z => e2 z.2), if_neg (c := (12 : Nat) = 12 ∧ w = i) (fun z => e2 z.2)]
        exact a6 w hw
theorem c_takeTalk (h : RD σ p T a late P N) (hi : PI late P N) (hn0 : tkK T a ≠ 0) (hn3 : tkK T a ≠ 3) (hR : pTalk T a late P N k = R)
    (herr : ∀ τ e, FR p σ τ → FX τ e → R = .error e → K none τ)
    (hok : ∀ τ a' late' P' N', FR p σ τ → RD τ p T a' late' P' N' → PI late' P' N' → a < a' → k a' late' P' N' = R → K none τ) : C2 Γ l mX7_takeTalk [.ref 7] σ K := by
  have hp := isP_n h.2.2.2.1
  have g15 : σ.1 p 15 = nI (pnt P) := h.2.2.2.2.1 4 (by omega)
  have r6 := hi.2.2.2.2.1
  refine tX7_takeTalk ⟨p, h.2.2.1, h.2.2.2.1, ?_⟩
  rw [g15]
  refine c_open (y := 6) (by omega) (by omega) h.1 h.2.1 hn0 hn3 hR (fun τ e d f z => ri ⟨fun _ => herr τ e d.fr f z, fun y => absurd rfl y⟩) (fun τ d rk r7 hlt z => ri ⟨fun y => absurd y (by decide), fun _ => ?_⟩)
  have h1 := h.f7 d rk r7
  refine c_take (c := 1) (by decide) (by decide) (by decide) rk r7 z (fun υ e d2 f y => ri ⟨fun t => absurd rfl t, fun _ => herr υ e (d.fr.tr d2.fr) f y⟩) (fun υ d2 rk2 r72 f8 _ f10 hk1 y => ri ⟨fun _ => ?_, fun t => absurd t (by decide)⟩)
  have h2 := h1.f7 d2 rk2 r72
  obtain ⟨ok, l1, l8⟩ := (tk_kind T (a + 1)).1 hk1
  have fr2 := d.fr (p := p).tr d2.fr
  have b1 : ∀ i, winN N (tkN T (a + 1)) = some i → i < 4 := fun i z => (winN_lt hi z).2
  have b2 : ∀ i, winN N (tkN T (a + 1 + 1)) = some i → i < 4 := fun i z => (winN_lt hi z).2
  -- the end
  have fin : ∀ (τ : SS) (late' : LF) (P1 : PV), FR p σ τ → RD τ p T (a + 1 + 1 + 1) late' P1 N → pnt P1 = pnt P → setP P1 4 0 (pnt P + 1) = talkP P (winN N (tkN T (a + 1))) (winN N (tkN T (a + 1 + 1))) → pTake T 4 (a + 1 + 1 + 1) (fun a4 => k a4 (blm (blm (blm late (winN N (tkN T (a + 1))).isNone 4 (tkP T (a + 1))) (winN N (tkN T (a + 1 + 1))).isNone 4 (tkP T (a + 1 + 1))) (tlk2 P (winN N (tkN T (a + 1))) (winN N (tkN T (a + 1 + 1)))) 3 (tkP T (a + 1 + 1))) (talkP P (winN N (tkN T (a + 1))) (winN N (tkN T (a + 1 + 1)))) N) = R →
      blm (blm (blm late (winN N (tkN T (a + 1))).isNone 4 (tkP T (a + 1))) (winN N (tkN T (a + 1 + 1))).isNone 4 (tkP T (a + 1 + 1))) (tlk2 P (winN N (tkN T (a + 1))) (winN N (tkN T (a + 1 + 1)))) 3 (tkP T (a + 1 + 1)) = late' → wX7_takeTalk_117 Γ l τ K := fun τ late' P1 fr hd e4 eP hR3 hl => by
    refine tX7_takeTalk_117 ⟨p, hd.2.2.1, hd.2.2.2.1, fun s2 e2 => ?_⟩
    have q15 : τ.1 p 15 = nI (pnt P) := by
      rw [← e4]
      exact hd.2.2.2.2.1 4 (by omega)
    rw [q15, nI_1] at e2
    have ds : FP p τ s2 := by
      rw [e2]
      exact FP.rf.wI ⟨by omega, by omega⟩
    have hd2 := hd.fp ds (by rw [e2]; exact hd.2.2.2.num (j := 4) (by omega))
    rw [eP] at hd2
    rw [hl] at hR3
    refine c_end hd2 hR3 (fun η e du f t => herr η e (fr.tr (ds.fr.tr du)) f t) (fun η du hu t => hok η _ _ _ _ (fr.tr (ds.fr.tr du)) hu ?_ (by omega) t)
    refine PI_talk hi (fun z => ?_) (by omega) b1 b2
    rw [← hl] at z
    exact (blm_none (blm_none (blm_none z).1).1).1
  have f47 : ∀ (τ : SS) (late1 : LF), FR p σ τ → RD τ p T (a + 1 + 1) late1 P N → blm late (winN N (tkN T (a + 1))).isNone 4 (tkP T (a + 1)) = late1 → wX7_takeTalk_47 Γ l (oI (winN N (tkN T (a + 1)))) τ K := fun τ late1 fr hd hl1 => by
    refine tX7_takeTalk_47 (c_take (c := 1) (by decide) (by decide) (by decide) hd.1 hd.2.1 y (fun ξ e dx f t => ri ⟨fun t => absurd rfl t, fun _ => herr ξ e (fr.tr dx.fr) f t⟩) (fun ξ dx rkx r7x f8x _ f10x hkx yx => ri ⟨fun _ => ?_, fun t => absurd t (by decide)⟩))
    have hdx := hd.f7 dx rkx r7x
    have frx := fr.tr dx.fr
    obtain ⟨okx, l1x, l8x⟩ := (tk_kind T (a + 1 + 1)).1 hkx
    rw [f10x rfl]
    refine ⟨p, hdx.2.2.1, hdx.2.2.2.1, c_windowNamed okx l8x hdx.2.2.2 hi (ri ?_)⟩
    have p2 := tkP_2000 h.1.1 (a + 1 + 1)
    rw [oI_m1 b1, oI_m1 b2]
    cases o2 : winN N (tkN T (a + 1 + 1)) with
    | none =>
      refine ⟨fun z => absurd rfl z, fun _ => c_blame (n := 4) r7x f8x (by decide) p2 (fun ζ d3 r73 _ _ _ => rv ?_)⟩
      refine fin ζ _ P (frx.tr d3.fr) (hdx.f7 d3 (rkx.f7 d3) r73) rfl ?_ yx ?_
      · rw [o2]
        cases winN N (tkN T (a + 1)) <;> rfl
      · rw [o2, hl1]
        have : tlk2 P (winN N (tkN T (a + 1))) none = false := by cases winN N (tkN T (a + 1)) <;> rfl
        rw [this, blm_f]
        rfl
    | some j =>
      have hj := b2 j o2
      refine ⟨fun _ => ?_, fun z => absurd z (by simp)⟩
      cases o1 : winN N (tkN T (a + 1)) with
      | none =>
        refine ⟨fun _ => ?_, fun z => absurd rfl z⟩
        refine fin ξ _ P frx hdx rfl ?_ yx ?_
        · rw [o1, o2]
          rfl
        · rw [o1] at hl1
          rw [o2, o1, hl1]
          have : tlk2 P none (some j) = false := rfl
          rw [this, blm_f]
          exact blm_f
      | some i =>
        have hj' := b1 i o1
        refine ⟨fun z => absurd z (by simp), fun _ => ?_⟩
        rw [o1] at hl1
        have e1 : late = late1 := by
          have : (some i : Option Nat).isNone = false := rfl
          rw [this, blm_f] at hl1
          exact hl1
        have lt : ∀ c, tlk2 P (some i) (some j) = c → blm (blm (blm late (winN N (tkN T (a + 1))).isNone 4 (tkP T (a + 1))) (winN N (tkN T (a + 1 + 1))).isNone 4 (tkP T (a + 1 + 1))) (tlk2 P (winN N (tkN T (a + 1))) (winN N (tkN T (a + 1 + 1)))) 3 (tkP T (a + 1 + 1)) = blm late1 c 3 (tkP T (a + 1 + 1)) := fun c hc => by
          rw [o1, o2, hc]
          have q1 : (some i : Option Nat).isNone = false := rfl
          have q2 : (some j : Option Nat).isNone = false := rfl
          rw [q1, q2, blm_f, blm_f, e1]
        have f108 : ∀ (ζ : SS) (c : Bool), FR p σ ζ → RD ζ p T (a + 1 + 1 + 1) (blm late1 c 3 (tkP T (a + 1 + 1))) P N → tlk2 P (some i) (some j) = c → wX7_takeTalk_108 Γ l (nI i) (nI j) ζ K := fun ζ c frz hdz hc => by
          refine tX7_takeTalk_108 ⟨p, hdz.2.2.1, hdz.2.2.2.1, c_addTalk hj' hj hdz.2.2.2 (fun ω dw hw => rv ?_)⟩
          refine fin ω _ (tkk P i j) (frz.tr dw.fr) (hdz.fp dw hw) (tkk_o _ _ _ _ _ (by omega)) ?_ yx (lt c hc)
          rw [o1, o2]
          exact tkk_e P i j
        have f103 : tlk2 P (some i) (some j) = true → ∀ ζ, ζ = ξ → wX7_takeTalk_103 Γ l (nI i) (nI j) ζ K := fun hc ζ ez => by
          subst ez
          refine tX7_takeTalk_103 (c_blame (n := 3) r7x f8x (by decide) p2 (fun ω d3 r73 _ _ _ => rv ?_))
          exact f108 ω true (frx.tr d3.fr) (hdx.f7 d3 (rkx.f7 d3) r73) hc
        have et : tlk2 P (some i) (some j) = (decide (i = j) || talkS P i j) := rfl
        show (nI i = nI j → wX7_takeTalk_103 Γ l (nI i) (nI j) ξ K) ∧ (¬ nI i = nI j → _)
        rw [nI_eq (by omega) (by omega)]
        refine ⟨fun e => f103 (by rw [et, decide_eq_true e, Bool.true_or]) ξ rfl, fun e => ⟨p, hdx.2.2.1, hdx.2.2.2.1, tX6_talk hdx.2.2.2.1 ⟨vp_in_nI (by omega) (by omega), ?_⟩⟩⟩
        rw [decide_eq_false e, Bool.false_or] at et
        have g8 := hdx.2.2.2.2.2.2.2.2.1 i hj'
        show ((¬ ((ξ.1 (p + 8) (Int32.toNatClampNeg (nI i)) >>> (nI j &&& 31)) &&& 1) = 1 → _) ∧ (((ξ.1 (p + 8) (Int32.toNatClampNeg (nI i)) >>> (nI j &&& 31)) &&& 1) = 1 → _))
        rw [nI_clamp (by omega), g8, bit16 _ (hi.2.2.2.2.2.2.2.2.2.1 i hj') j hj, show (1 : Int32) = nI 1 from rfl, nI_eq (by omega) (by omega)]
        refine ⟨fun q => ri ⟨fun _ => ?_, fun t => absurd rfl t⟩, fun q => ri ⟨fun t => absurd t (by decide), fun _ => ?_⟩⟩
        · have ef : tlk2 P (some i) (some j) = false := by
            rw [et]
            exact decide_eq_false q
          exact f108 ξ false frx (by rw [blm_f]; exact hdx) ef
        · exact f103 (by rw [et]; exact decide_eq_true q) ξ rfl
  rw [f10 rfl]
  refine ⟨p, h2.2.2.1, h2.2.2.2.1, c_windowNamed ok l8 h2.2.2.2 hi (ri ?_)⟩
  rw [oI_m1 b1]
  refine ⟨fun q => f47 υ late fr2 h2 ?_, fun q => c_blame (n := 4) r72 f8 (by decide) (tkP_2000 h.1.1 _) (fun ξ d3 r73 _ _ _ => rv (f47 ξ _ (fr2.tr d3.fr) (h2.f7 d3 (rk2.f7 d3) r73) ?_))⟩
  · have : (winN N (tkN T (a + 1))).isNone = false := by
      cases hc : winN N (tkN T (a + 1)) with
      | none => exact absurd hc q
      | some i => rfl
    rw [this, blm_f]
  · rw [q]
    rfl
theorem c_takeTell (h : RD σ p T a late P N) (hi : PI late P N) (hn0 : tkK T a ≠ 0) (hR : pTell T a late P N k = R)
    (herr : ∀ τ e, FR p σ τ → FX τ e → R = .error e → K none τ)
    (hok : ∀ τ a' late' P' N', FR p σ τ → RD τ p T a' late' P' N' → PI late' P' N' → a < a' → k a' late' P' N' = R → K none τ) : C2 Γ l mX7_takeTell [.ref 7] σ K := by
  have h4 := h.2.1.1
  obtain ⟨k1, k2, k3, k4⟩ := h.1.2.1 a (by omega) h.1.2.2
  have e100 : ∀ c, c < 10 → ∀ x : Int32, x = nI (100 + c) → (nI (ckK (tkK T a)) = x ↔ tkK T a = 20 + c) := fun c hc x hx => by
    rw [hx, ← ckK_w c (by omega)]
    exact ck_e (by omega) T a
  unfold pTell at hR
  have rv' : ∀ {τ : SS}, K none τ → Rv (fun s => K none s) none τ := fun z => rv z
  have he : ∀ τ e, FR p σ τ → FX τ e → R = .error e → Rv (fun s => K none s) none τ := fun τ e f g z => rv (herr τ e f g z)
  have ho : ∀ τ a' late' P' N', FR p σ τ → RD τ p T a' late' P' N' → PI late' P' N' → a < a' → k a' late' P' N' = R → Rv (fun s => K none s) none τ := fun τ a' late' P' N' f g i j z => rv (hok τ a' late' P' N' f g i j z)
  refine tX7_takeTell ⟨by rw [h.2.1.2.1]; exact vp_in_nI (by omega) (by omega), ?_⟩
  rw [h.2.1.2.1, nI_clamp (by omega), k1, e100 0 (by omega) 100 rfl, e100 1 (by omega) 101 rfl, e100 2 (by omega) 102 rfl, e100 3 (by omega) 103 rfl, e100 4 (by omega) 104 rfl, e100 5 (by omega) 105 rfl, e100 6 (by omega) 106 rfl, e100 7 (by omega) 107 rfl, e100 8 (by omega) 108 rfl, e100 9 (by omega) 109 rfl]
  refine ⟨fun q => ?_, fun q => ?_, fun q => ?_, fun q => ?_, fun q => ⟨p, h.2.2.1, h.2.2.2.1, ?_⟩, fun q => ⟨p, h.2.2.1, h.2.2.2.1, ?_⟩, fun q => ⟨p, h.2.2.1, h.2.2.2.1, ?_⟩, fun q => ?_, fun q => ?_, fun q => ?_, fun q0 q1 q2 q3 q4 q5 q6 q7 q8 q9 => ?_⟩
  · rw [if_pos q] at hR
    exact c_takeRow h hi hn0 (by omega) hR he ho
  · rw [if_neg (by omega), if_pos q] at hR
    exact c_takeSign h hi hn0 (by omega) hR he ho
  · rw [if_neg (by omega), if_neg (by omega), if_pos q] at hR
    exact c_takeWindow h hi hn0 (by omega) hR he ho
  · rw [if_neg (by omega), if_neg (by omega), if_neg (by omega), if_pos q] at hR
    exact c_takeTalk h hi hn0 (by omega) hR he ho
  · rw [if_neg (by omega), if_neg (by omega), if_neg (by omega), if_neg (by omega), if_pos q] at hR
    exact c_takeLawR (i := 0) (by omega) h hi hn0 (by omega) hR he ho
  · rw [if_neg (by omega), if_neg (by omega), if_neg (by omega), if_neg (by omega), if_neg (by omega), if_pos q] at hR
    exact c_takeLawR (i := 1) (by omega) h hi hn0 (by omega) hR he ho
  · rw [if_neg (by omega), if_neg (by omega), if_neg (by omega), if_neg (by omega), if_neg (by omega), if_neg (by omega), if_pos q] at hR
    exact c_takeLawR (i := 2) (by omega) h hi hn0 (by omega) hR he ho
  · rw [if_neg (by omega), if_neg (by omega), if_neg (by omega), if_neg (by omega), if_neg (by omega), if_neg (by omega), if_neg (by omega), if_pos q] at hR
    exact (c_takeHS (i := 5) (m := 99) (by omega) h hi hn0 (by omega) hR he ho).1 rfl
  · rw [if_neg (by omega), if_neg (by omega), if_neg (by omega), if_neg (by omega), if_neg (by omega), if_neg (by omega), if_neg (by omega), if_neg (by omega), if_pos q] at hR
    exact c_takeRain h hi hn0 (by omega) hR he ho
  · rw [if_neg (by omega), if_neg (by omega), if_neg (by omega), if_neg (by omega), if_neg (by omega), if_neg (by omega), if_neg (by omega), if_neg (by omega), if_neg (by omega), if_pos q] at hR
    exact (c_takeHS (i := 8) (m := 9999) (by omega) h hi hn0 (by omega) hR he ho).2 rfl
  · rw [if_neg (by omega), if_neg (by omega), if_neg (by omega), if_neg (by omega), if_neg (by omega), if_neg (by omega), if_neg (by omega), if_neg (by omega), if_neg (by omega), if_neg (by omega)] at hR
    exact c_refuse (n := 1) h.1 h.2.1 (Or.inl rfl) (fun τ d f => rv (herr τ _ d.fr f hR.symm))
end P7
