/-! the class: what is told -/
def bSu (P : PV) (i : Nat) : Int32 := if inb i = true then psun P (i % 10 - 1) (i / 10 - 1) else -2
def XPb (σ : SS) (p : Nat) (P : PV) (N : Nms) : Prop := isP p ∧ (∀ j, j < 9 → σ.1 p (11 + j) = nI (P.1 j 0)) ∧ (∀ i, i < 80 → σ.1 (p + 1) i = bSu P i) ∧ (∀ s, s < pns P → σ.1 (p + 3) s = nI (psg P s)) ∧ (∀ w, w < pnw P → σ.1 (p + 5) w = nI (pfr P w) ∧ σ.1 (p + 6) w = nI (pto P w) ∧ σ.1 (p + 7) w = nI (psh P w)) ∧ (∀ w, w < 4 → σ.1 (p + 8) w = nI (ptk P w)) ∧ (∀ s (h : s < (sN N).length), σ.2.1 (p + 2) s = lN (nmC (sN N)[s])) ∧ (∀ s (h : s < (wN N).length), σ.2.1 (p + 4) s = lN (nmC (wN N)[s])) ∧ XW σ (p + 9) (plw P 0) ∧ XW σ (p + 12) (plw P 1) ∧ XW σ (p + 15) (plw P 2)
theorem isP_n {p : Nat} (h : isP p) : 10 ≤ p ∧ p ≤ 28 := by
  have := isP_or h
  omega
/-- only rows of the plan have changed -/
def FP (p : Nat) (σ τ : SS) : Prop := (∀ b, (b < p ∨ p + 17 < b) → τ.1 b = σ.1 b ∧ τ.2.1 b = σ.2.1 b) ∧ τ.2.2 = σ.2.2
theorem FP.rf {p : Nat} {σ : SS} : FP p σ σ := ⟨fun _ _ => ⟨rfl, rfl⟩, rfl⟩
theorem FP.tr {p : Nat} {σ τ υ : SS} (h : FP p σ τ) (g : FP p τ υ) : FP p σ υ := ⟨fun b hb => ⟨(g.1 b hb).1.trans (h.1 b hb).1, (g.1 b hb).2.trans (h.1 b hb).2⟩, g.2.trans h.2⟩
theorem FP.wI {p k b : Nat} {σ τ : SS} {v : Int32} (h : FP p σ τ) (hb : p ≤ b ∧ b ≤ p + 17) : FP p σ (sI τ b k v) := ⟨fun c hc => ⟨by rw [sI_row, sA_off2 _ _ (by omega)]; exact (h.1 c hc).1, (h.1 c hc).2⟩, h.2⟩
theorem FP.wJ {p k b : Nat} {σ τ : SS} {v : Int64} (h : FP p σ τ) (hb : p ≤ b ∧ b ≤ p + 17) : FP p σ (sJ τ b k v) := ⟨fun c hc => ⟨(h.1 c hc).1, by
    have : (sJ τ b k v).2.1 c = τ.2.1 c := by
      funext j
      rw [sJ_at, if_neg (fun z => by omega)]
    rw [this]
    exact (h.1 c hc).2⟩, h.2⟩
theorem FP.fr {p : Nat} {σ τ : SS} (h : FP p σ τ) : FR p σ τ := ⟨fun b _ _ _ hb => h.1 b hb, fun b _ _ => by rw [h.2]⟩
theorem RK.fp {p a : Nat} {σ τ : SS} {T : List Nat} (hp : 10 ≤ p) (h : RK σ T a) (d : FP p σ τ) : RK τ T a := by
  unfold RK XK
  rw [(d.1 3 (by omega)).1, (d.1 4 (by omega)).1, (d.1 5 (by omega)).1, (d.1 6 (by omega)).2]
  exact h
theorem R7.fp {p a : Nat} {σ τ : SS} {late : LF} (hp : 10 ≤ p) (h : R7 σ a late) (d : FP p σ τ) : R7 τ a late := by
  unfold R7 LTE
  rw [(d.1 7 (by omega)).1]
  exact h
theorem XPb.cong {σ τ : SS} {p : Nat} {P : PV} {N : Nms} (h : XPb σ p P N) (h1 : ∀ b, p ≤ b → b ≤ p + 17 → τ.1 b = σ.1 b) (h2 : ∀ b, p ≤ b → b ≤ p + 17 → τ.2.1 b = σ.2.1 b) : XPb τ p P N := by
  unfold XPb XW
  rw [h1 p (by omega) (by omega), h1 (p + 1) (by omega) (by omega), h1 (p + 3) (by omega) (by omega), h1 (p + 5) (by omega) (by omega), h1 (p + 6) (by omega) (by omega), h1 (p + 7) (by omega) (by omega), h1 (p + 8) (by omega) (by omega), h2 (p + 2) (by omega) (by omega), h2 (p + 4) (by omega) (by omega), h1 (p + 9) (by omega) (by omega), h1 (p + 9 + 1) (by omega) (by omega), h1 (p + 12) (by omega) (by omega), h1 (p + 12 + 1) (by omega) (by omega), h1 (p + 15) (by omega) (by omega), h1 (p + 15 + 1) (by omega) (by omega)]
  exact h
theorem XPb.f7 {σ τ : SS} {p : Nat} {P : PV} {N : Nms} (h : XPb σ p P N) (d : F7 σ τ) : XPb τ p P N := by
  have := isP_n h.1
  exact h.cong (fun b b1 _ => d.1 b (by omega)) (fun b b1 _ => d.2.1 b (by omega))
/-- a number of the plan is set -/
theorem XPb.num {σ : SS} {p j v : Nat} {P : PV} {N : Nms} (h : XPb σ p P N) (hj : j = 0 ∨ j = 1 ∨ j = 4 ∨ j = 5 ∨ j = 6 ∨ j = 7 ∨ j = 8) : XPb (sI σ p (11 + j) (nI v)) p (setP P j 0 v) N := by
  obtain ⟨a1, a2, a3, a4, a5, a6, a7, a8, a9, a10, a11⟩ := h
  have e : ∀ a b, a ≠ j → (setP P j 0 v).1 a b = P.1 a b := fun a b ha => by
    show (if a = j ∧ b = 0 then v else P.1 a b) = _
    rw [if_neg (fun z => ha z.1)]
  have ro : ∀ b, b ≠ p → (sI σ p (11 + j) (nI v)).1 b = σ.1 b := fun b hb => by rw [sI_row, sA_off2 _ _ hb]
  refine ⟨a1, fun i hi => ?_, fun i hi => ?_, fun s hs => ?_, fun w hw => ?_, fun w hw => ?_, a7, a8, ?_, ?_, ?_⟩
  · rw [sI_at]
    show _ = nI (if i = j ∧ 0 = 0 then v else P.1 i 0)
    by_cases g : i = j
    · rw [if_pos ⟨rfl, by omega⟩, if_pos ⟨g, rfl⟩]
    · rw [if_neg (fun z => g (by omega)), if_neg (fun z => g z.1)]
      exact a2 i hi
  · rw [ro _ (by omega), a3 i hi]
    rfl
  · rw [ro _ (by omega), show psg (setP P j 0 v) s = psg P s from e 13 s (by omega)]
    exact a4 s (by rw [show pns (setP P j 0 v) = pns P from e 2 0 (by omega)] at hs; exact hs)
  · rw [ro _ (by omega), ro _ (by omega), ro _ (by omega), show pfr (setP P j 0 v) w = pfr P w from e 9 w (by omega), show pto (setP P j 0 v) w = pto P w from e 10 w (by omega), show psh (setP P j 0 v) w = psh P w from e 11 w (by omega)]
    exact a5 w (by rw [show pnw (setP P j 0 v) = pnw P from e 3 0 (by omega)] at hw; exact hw)
  · rw [ro _ (by omega), show ptk (setP P j 0 v) w = ptk P w from e 12 w (by omega)]
    exact a6 w hw
  · unfold XW at a9 ⊢
    rw [ro _ (by omega), ro _ (by omega)]
    exact a9
  · unfold XW at a10 ⊢
    rw [ro _ (by omega), ro _ (by omega)]
    exact a10
  · unfold XW at a11 ⊢
    rw [ro _ (by omega), ro _ (by omega)]
    exact a11
def RD (σ : SS) (p : Nat) (T : List Nat) (a : Nat) (late : LF) (P : PV) (N : Nms) : Prop := RK σ T a ∧ R7 σ a late ∧ σ.2.2 7 2 = p ∧ XPb σ p P N
theorem RD.f7 {σ τ : SS} {p a a' : Nat} {T : List Nat} {late late' : LF} {P : PV} {N : Nms} (h : RD σ p T a late P N) (d : F7 σ τ) (hk : RK τ T a') (h7 : R7 τ a' late') : RD τ p T a' late' P N := ⟨hk, h7, by rw [d.2.2]; exact h.2.2.1, h.2.2.2.f7 d⟩
theorem RD.fp {σ τ : SS} {p a : Nat} {T : List Nat} {late : LF} {P P' : PV} {N N' : Nms} (h : RD σ p T a late P N) (d : FP p σ τ) (hb : XPb τ p P' N') : RD τ p T a late P' N' := by
  have := isP_n hb.1
  exact ⟨h.1.fp (by omega) d, h.2.1.fp (by omega) d, by rw [d.2]; exact h.2.2.1, hb⟩
section P5
variable {Γ : GE} {l : Launch} {σ τ : SS} {K : Option Value → SS → Prop} {T : List Nat} {p a : Nat} {late : LF} {P : PV} {N : Nms} {ρ : Type} {R : Rs ρ} {k : Kt3 ρ}
/-- the last token of a tell -/
theorem c_end {k1 : Nat → Rs ρ} (h : RD σ p T a late P N) (hR : pTake T 4 a k1 = R) (herr : ∀ τ e, FR p σ τ → FX τ e → R = .error e → K none τ) (hok : ∀ τ, FR p σ τ → RD τ p T (a + 1) late P N → k1 (a + 1) = R → K none τ) : C2 Γ l mX7_take [.ref 7, .int 59] σ (Ri fun _ s => K none s) :=
  c_take (c := 4) (by decide) (by decide) (by decide) h.1 h.2.1 hR (fun τ e d f z => ri (herr τ e d.fr f z)) (fun τ d rk r7 _ _ _ _ z => ri (hok τ d.fr (h.f7 d rk r7) z))
theorem c_num {m i : Nat} (hi : i = 5 ∨ i = 8) (hm : m < 100000) (h : RD σ p T a late P N) (hn0 : tkK T a ≠ 0) (hn3 : tkK T a ≠ 3) (hR : pNum T a i m late P N k = R)
    (herr : ∀ τ e, FR p σ τ → FX τ e → R = .error e → K none τ)
    (hok : ∀ τ v, FR p σ τ → RD τ p T (a + 1 + 1 + 1) (blm late (decide (m < v)) 5 (tkP T (a + 1))) (setP P i 0 v) N → v ≤ 9999 → k (a + 1 + 1 + 1) (blm late (decide (m < v)) 5 (tkP T (a + 1))) (setP P i 0 v) N = R → K none τ) :
    C2 Γ l mX7_pass [.ref 7] σ (Ri fun r2_ s1_ => ((r2_ = 0 → (K none s1_)) ∧ (¬ (r2_ = 0) → (C2 Γ l mX7_takeInt [.ref 7, .int (nI 0), .int (nI m)] s1_ (Ri fun r4_ s3_ => ((r4_ = 0 → (K none s3_)) ∧ (¬ (r4_ = 0) → (∃ b5_ : Nat, s3_.2.2 7 2 = b5_ ∧ isP b5_ ∧ (∀ s6_ : SS, s6_ = sI s3_ b5_ (11 + i) (s3_.1 7 9) → (C2 Γ l mX7_take [.ref 7, .int 59] s6_ (Ri fun r8_ s7_ => (K none s7_)))))))))))) := by
  have hp := isP_n h.2.2.2.1
  refine c_pass h.1 h.2.1 hn0 hn3 hR (fun τ e d f z => ri ⟨fun _ => herr τ e d.fr f z, fun y => absurd rfl y⟩) (fun τ d rk r7 _ _ _ z => ri ⟨fun y => absurd y (by decide), fun _ => ?_⟩)
  have h1 := h.f7 d rk r7
  refine c_takeInt (by omega) (by omega) rk r7 z (fun υ e d2 f y => ri ⟨fun _ => herr υ e (d.fr.tr d2.fr) f y, fun t => absurd rfl t⟩) (fun υ d2 rk2 r72 f9 hv y => ri ⟨fun t => absurd t (by decide), fun _ => ⟨p, by rw [d2.2.2, d.2.2]; exact h.2.2.1, h.2.2.2.1, fun s6 e6 => ?_⟩⟩)
  rw [f9] at e6
  have h2 := h1.f7 d2 rk2 r72
  rw [show decide (tkV T (a + 1) < 0 ∨ m < tkV T (a + 1)) = decide (m < tkV T (a + 1)) from decide_eq_decide.mpr (by omega)] at h2
  have d6 : FP p υ s6 := by
    rw [e6]
    exact FP.rf.wI ⟨by omega, by omega⟩
  have h6 := h2.fp d6 (by rw [e6]; exact h2.2.2.2.num (by omega))
  exact c_end h6 y (fun ξ e dx f t => herr ξ e ((d.fr.tr d2.fr).tr (d6.fr.tr dx)) f t) (fun ξ dx hx t => hok ξ (tkV T (a + 1)) ((d.fr.tr d2.fr).tr (d6.fr.tr dx)) hx hv t)
theorem c_takeRain (h : RD σ p T a late P N) (hi : PI late P N) (hn0 : tkK T a ≠ 0) (hn3 : tkK T a ≠ 3) (hR : pRain T a late P N k = R)
    (herr : ∀ τ e, FR p σ τ → FX τ e → R = .error e → K none τ)
    (hok : ∀ τ a' late' P' N', FR p σ τ → RD τ p T a' late' P' N' → PI late' P' N' → a < a' → k a' late' P' N' = R → K none τ) : C2 Γ l mX7_takeRain [.ref 7] σ K := by
  have hp := isP_n h.2.2.2.1
  refine tX7_takeRain (c_pass h.1 h.2.1 hn0 hn3 hR (fun τ e d f z => ri ⟨fun _ => herr τ e d.fr f z, fun y => absurd rfl y⟩) (fun τ d rk r7 _ _ _ z => ri ⟨fun y => absurd y (by decide), fun _ => ?_⟩))
  have h1 := h.f7 d rk r7
  refine c_takeInt (lo := 0) (hi := 100) (by omega) (by omega) rk r7 z (fun υ e d2 f y => ri ⟨fun t => absurd rfl t, fun _ => herr υ e (d.fr.tr d2.fr) f y⟩) (fun υ d2 rk2 r72 f9 hv y => ri ⟨fun _ => ⟨p, by rw [d2.2.2, d.2.2]; exact h.2.2.1, h.2.2.2.1, fun s6 e6 => ?_⟩, fun t => absurd t (by decide)⟩)
  rw [f9] at e6
  have h2 := h1.f7 d2 rk2 r72
  rw [show decide (tkV T (a + 1) < 0 ∨ 100 < tkV T (a + 1)) = decide (100 < tkV T (a + 1)) from decide_eq_decide.mpr (by omega)] at h2
  have d6 : FP p υ s6 := by
    rw [e6]
    exact FP.rf.wI ⟨by omega, by omega⟩
  have h6 := h2.fp d6 (by rw [e6]; exact h2.2.2.2.num (j := 6) (by omega))
  refine c_takeInt (lo := 0) (hi := 9) (by omega) (by omega) h6.1 h6.2.1 y (fun ξ e d3 f t => ri ⟨fun _ => herr ξ e ((d.fr.tr d2.fr).tr (d6.fr.tr d3.fr)) f t, fun t => absurd rfl t⟩) (fun ξ d3 rk3 r73 g9 hv2 t => ri ⟨fun t => absurd t (by decide), fun _ => ⟨p, by rw [d3.2.2]; exact h6.2.2.1, h.2.2.2.1, fun s10 e10 => ?_⟩⟩)
  rw [g9] at e10
  have h7 := h6.f7 d3 rk3 r73
  rw [show decide (tkV T (a + 1 + 1) < 0 ∨ 9 < tkV T (a + 1 + 1)) = decide (9 < tkV T (a + 1 + 1)) from decide_eq_decide.mpr (by omega)] at h7
  have d10 : FP p ξ s10 := by
    rw [e10]
    exact FP.rf.wI ⟨by omega, by omega⟩
  have h10 := h7.fp d10 (by rw [e10]; exact h7.2.2.2.num (j := 7) (by omega))
  have fr := (d.fr.tr d2.fr).tr (d6.fr.tr (d3.fr.tr d10.fr))
  refine c_end h10 t (fun ζ e dx f u => herr ζ e (fr.tr dx) f u) (fun ζ dx hx u => hok ζ _ _ _ _ (fr.tr dx) hx ?_ (by omega) u)
  refine PI_num (i := 7) (by omega) (PI_num (i := 6) (late' := blm late (decide (100 < tkV T (a + 1))) 5 (tkP T (a + 1))) (by omega) hi (fun z => ?_)) (fun z => ?_)
  · obtain ⟨z1, z2⟩ := blm_none z
    simp only [decide_eq_false_iff_not] at z2
    exact ⟨z1, by rw [if_neg (by decide), if_pos rfl]; omega⟩
  · obtain ⟨z1, z2⟩ := blm_none z
    simp only [decide_eq_false_iff_not] at z2
    exact ⟨z1, by rw [if_neg (by decide), if_neg (by decide), if_pos rfl]; omega⟩
theorem c_takeHS {m i : Nat} (hi2 : (i = 5 ∧ m = 99) ∨ (i = 8 ∧ m = 9999)) (h : RD σ p T a late P N) (hi : PI late P N) (hn0 : tkK T a ≠ 0) (hn3 : tkK T a ≠ 3) (hR : pNum T a i m late P N k = R)
    (herr : ∀ τ e, FR p σ τ → FX τ e → R = .error e → K none τ)
    (hok : ∀ τ a' late' P' N', FR p σ τ → RD τ p T a' late' P' N' → PI late' P' N' → a < a' → k a' late' P' N' = R → K none τ) : (i = 5 → C2 Γ l mX7_takeHeight [.ref 7] σ K) ∧ (i = 8 → C2 Γ l mX7_takeSeed [.ref 7] σ K) := by
  have c := c_num (Γ := Γ) (l := l) (K := K) (m := m) (i := i) (by omega) (by omega) h hn0 hn3 hR herr (fun τ v fr hd hv z => hok τ _ _ _ _ fr hd (PI_num (by omega) hi (fun y => by
    obtain ⟨y1, y2⟩ := blm_none y
    simp only [decide_eq_false_iff_not] at y2
    refine ⟨y1, ?_⟩
    rcases hi2 with ⟨e1, e2⟩ | ⟨e1, e2⟩
    · subst e1
      subst e2
      rw [if_pos rfl]
      omega
    · subst e1
      subst e2
      rw [if_neg (by decide), if_neg (by decide), if_neg (by decide)]
      omega)) (by omega) z)
  constructor
  · intro e
    subst e
    have em : m = 99 := by omega
    subst em
    exact tX7_takeHeight c
  · intro e
    subst e
    have em : m = 9999 := by omega
    subst em
    exact tX7_takeSeed c
theorem FW.fr {w : Nat} {i : Nat} (hi : i < 3) (hw : w = p + (9 + 3 * i)) (h : FW w σ τ) : FR p σ τ := ⟨fun b b7 b8 b9 hb => ⟨h.1 b b7 b8 b9 (by omega) (by omega), h.2.1 b b7⟩, fun b b7 b8 => h.2.2 b b8⟩
theorem c_takeLawR {i : Nat} (hi3 : i < 3) (h : RD σ p T a late P N) (hi : PI late P N) (hn0 : tkK T a ≠ 0) (hn3 : tkK T a ≠ 3) (hR : pLaw T a i late P N k = R)
    (herr : ∀ τ e, FR p σ τ → FX τ e → R = .error e → K none τ)
    (hok : ∀ τ a' late' P' N', FR p σ τ → RD τ p T a' late' P' N' → PI late' P' N' → a < a' → k a' late' P' N' = R → K none τ) : C2 Γ l mX7_takeLaw [.ref 7, .ref (p + (9 + 3 * i))] σ K := by
  have hp := isP_n h.2.2.2.1
  have hw : isW (p + (9 + 3 * i)) := by
    have : i = 0 ∨ i = 1 ∨ i = 2 := by omega
    rcases this with e | e | e
    · subst e
      exact IP_8 h.2.2.2.1
    · subst e
      exact IP_9 h.2.2.2.1
    · subst e
      exact IP_10 h.2.2.2.1
  refine c_takeLaw (late := late) hw h.1 h.2.1 hn0 hn3 hR (fun τ e d f z => herr τ e (d.fr hi3 rfl) f z) (fun τ a3 V d rk r7 lc ov lt z => ?_)
  refine hok τ a3 late (setL P i V) N (d.fr hi3 rfl) ⟨rk, r7, by rw [d.2.2 7 (by omega)]; exact h.2.2.1, ?_⟩ hi lt z
  obtain ⟨a1, a2, a3', a4, a5, a6, a7, a8, a9, a10, a11⟩ := h.2.2.2
  have ro : ∀ b, p ≤ b → b ≠ p + (9 + 3 * i) → b ≠ p + (9 + 3 * i) + 1 → τ.1 b = σ.1 b := fun b b1 b2 b3 => d.1 b (by omega) (by omega) (by omega) b2 b3
  have new : XW τ (p + (9 + 3 * i)) V := ⟨hw, ov, lc.1, lc.2.1, lc.2.2⟩
  have oth : ∀ j, j < 3 → XW σ (p + (9 + 3 * j)) (plw P j) → XW τ (p + (9 + 3 * j)) (plw (setL P i V) j) := fun j hj hx => by
    by_cases e : j = i
    · subst e
      show XW τ _ (if j = j then V else _)
      rw [if_pos rfl]
      exact new
    · show XW τ _ (if j = i then V else plw P j)
      rw [if_neg e]
      unfold XW at hx ⊢
      rw [ro _ (by omega) (by omega) (by omega), ro _ (by omega) (by omega) (by omega)]
      exact hx
  refine ⟨a1, fun j hj => by rw [ro p (by omega) (by omega) (by omega)]; exact a2 j hj, fun j hj => by rw [ro _ (by omega) (by omega) (by omega)]; exact a3' j hj, fun s hs => by rw [ro _ (by omega) (by omega) (by omega)]; exact a4 s hs, fun w hw => by rw [ro _ (by omega) (by omega) (by omega), ro _ (by omega) (by omega) (by omega), ro _ (by omega) (by omega) (by omega)]; exact a5 w hw, fun w hw => by rw [ro _ (by omega) (by omega) (by omega)]; exact a6 w hw, fun s hs => by rw [d.2.1 _ (by omega)]; exact a7 s hs, fun s hs => by rw [d.2.1 _ (by omega)]; exact a8 s hs, oth 0 (by omega) a9, oth 1 (by omega) a10, oth 2 (by omega) a11⟩
/-- a row of the plan, its first x cells -/
def rowQ (P : PV) (w : List Nat) (x : Nat) : PV := (fun a b => if a = 0 ∧ b = 0 then (if pr P = 0 then w.length else pw P) else P.1 a b, fun u y => if y = pr P ∧ u < x then sunV (w.getD u 0) else P.2.1 u y, P.2.2)
theorem sun_l : ∀ c, c < 27 → 1 ≤ c → (nI c + 97 - 1 = 112 ↔ c = 16) ∧ nI c + 97 - 1 - 97 = nI (c - 1) := by decide
theorem c_takeRow_73 {w : List Nat} {k1 : Nat → Rs ρ} (ok : lOk w) (hw8 : w.length ≤ 8) (hr6 : pr P < 6) (hR : pTake T 4 a k1 = R) (herr : ∀ τ e, FR p σ τ → FX τ e → R = .error e → K none τ) (hok : ∀ τ, FR p σ τ → RD τ p T (a + 1) late (rowP P w) N → k1 (a + 1) = R → K none τ) :
    ∀ m x τ, m + x = w.length → FP p σ τ → RD τ p T a late (rowQ P w x) N → τ.2.1 7 10 = lN (nmC w) → wX7_takeRow_73 Γ l (nI w.length) (nI x) τ K := by
  intro m
  induction m with
  | zero =>
    intro x τ h1 d h h10
    have hp := isP_n h.2.2.2.1
    have : x = w.length := by omega
    subst this
    refine tX7_takeRow_73 ⟨fun _ => ⟨p, h.2.2.1, h.2.2.2.1, fun s2 e2 => ?_⟩, fun q => absurd (Int32.le_refl _) q⟩
    have g1 : τ.1 p 12 = nI (pr P) := h.2.2.2.2.1 1 (by omega)
    rw [g1, nI_1] at e2
    have d2 : FP p τ s2 := by
      rw [e2]
      exact FP.rf.wI ⟨by omega, by omega⟩
    have hx : XPb s2 p (rowP P w) N := by
      rw [e2]
      have := h.2.2.2.num (j := 1) (v := pr P + 1) (by omega)
      have ee : setP (rowQ P w w.length) 1 0 (pr P + 1) = rowP P w := by
        refine Prod.ext ?_ rfl
        funext a b
        show (if a = 1 ∧ b = 0 then pr P + 1 else if a = 0 ∧ b = 0 then (if pr P = 0 then w.length else pw P) else P.1 a b) = if a = 0 ∧ b = 0 then (if pr P = 0 then w.length else pw P) else if a = 1 ∧ b = 0 then pr P + 1 else P.1 a b
        by_cases e1 : a = 1 ∧ b = 0
        · rw [if_pos e1, if_neg (by omega), if_pos e1]
        · rw [if_neg e1, if_neg e1]
      rw [ee] at this
      exact this
    exact c_end (h.fp d2 hx) hR (fun υ e dx f t => herr υ e ((d.tr d2).fr.tr dx) f t) (fun υ dx hx t => hok υ ((d.tr d2).fr.tr dx) hx t)
  | succ m ih =>
    intro x τ h1 d h h10
    have hp := isP_n h.2.2.2.1
    have g := getD_pos ok (i := x) (by omega)
    obtain ⟨s1, s2⟩ := sun_l (w.getD x 0) (by omega) (by omega)
    have g1 : τ.1 p 12 = nI (pr P) := h.2.2.2.2.1 1 (by omega)
    refine tX7_takeRow_73 ⟨fun q => absurd q (by simp (disch := omega) only [nL, nI_add, pk_mul, pk_sub, nI_clamp, nI_leI, nI_ltI, nI_eq]; omega), fun _ => ?_⟩
    rw [h10]
    refine c_letter ok hw8 (by omega) (ri ⟨p, h.2.2.1, h.2.2.2.1, p, h.2.2.1, h.2.2.2.1, ?_⟩)
    rw [g1]
    refine c_indexOf (ri ?_)
    rw [s1, s2, nI_clamp (n := (pr P + 1) * 10 + x + 1) (by omega), nI_1]
    have vi : vp_in (nI ((pr P + 1) * 10 + x + 1)) 80 := vp_in_nI (by omega) (by omega)
    have st : ∀ (s : SS) (v : Int32), v = sunV (w.getD x 0) → s = sI τ (p + 1) ((pr P + 1) * 10 + x + 1) v → wX7_takeRow_73 Γ l (nI w.length) (nI (x + 1)) s K := by
      intro s v hv es
      have ds : FP p τ s := by
        rw [es]
        exact FP.rf.wI ⟨by omega, by omega⟩
      refine ih (x + 1) s (by omega) (d.tr ds) (h.fp ds ?_) (by rw [(ds.1 7 (by omega)).2]; exact h10)
      obtain ⟨a1, a2, a3, a4, a5, a6, a7, a8, a9, a10, a11⟩ := h.2.2.2
      have ro : ∀ b, b ≠ p + 1 → s.1 b = τ.1 b := fun b hb => by rw [es, sI_row, sA_off2 _ _ hb]
      have rj : s.2 = τ.2 := by rw [es]; rfl
      refine ⟨a1, fun j hj => by rw [ro _ (by omega)]; exact a2 j hj, fun i hi => ?_, fun s' hs => by rw [ro _ (by omega)]; exact a4 s' hs, fun w' hw => by rw [ro _ (by omega), ro _ (by omega), ro _ (by omega)]; exact a5 w' hw, fun w' hw => by rw [ro _ (by omega)]; exact a6 w' hw, by rw [rj]; exact a7, by rw [rj]; exact a8, ?_, ?_, ?_⟩
      · rw [es, sI_at]
        unfold bSu
        by_cases e : i = (pr P + 1) * 10 + x + 1
        · rw [if_pos ⟨rfl, e⟩]
          have hb : inb i = true := by simp only [inb, decide_eq_true_eq]; omega
          rw [if_pos hb, hv]
          show _ = if i / 10 - 1 = pr P ∧ i % 10 - 1 < x + 1 then sunV (w.getD (i % 10 - 1) 0) else P.2.1 (i % 10 - 1) (i / 10 - 1)
          rw [if_pos (by omega), show i % 10 - 1 = x by omega]
        · rw [if_neg (fun z => e z.2), a3 i hi]
          unfold bSu
          by_cases hb : inb i = true
          · rw [if_pos hb, if_pos hb]
            simp only [inb, decide_eq_true_eq] at hb
            show (if i / 10 - 1 = pr P ∧ i % 10 - 1 < x then sunV (w.getD (i % 10 - 1) 0) else P.2.1 (i % 10 - 1) (i / 10 - 1)) = if i / 10 - 1 = pr P ∧ i % 10 - 1 < x + 1 then sunV (w.getD (i % 10 - 1) 0) else P.2.1 (i % 10 - 1) (i / 10 - 1)
            by_cases c : i / 10 - 1 = pr P ∧ i % 10 - 1 < x
            · rw [if_pos c, if_pos (by omega)]
            · rw [if_neg c, if_neg (by omega)]
          · rw [if_neg hb, if_neg hb]
      · unfold XW at a9 ⊢
        rw [ro _ (by omega), ro _ (by omega)]
        exact a9
      · unfold XW at a10 ⊢
        rw [ro _ (by omega), ro _ (by omega)]
        exact a10
      · unfold XW at a11 ⊢
        rw [ro _ (by omega), ro _ (by omega)]
        exact a11
    refine ⟨fun q => ⟨vi, fun s11 e11 => st s11 _ ?_ e11⟩, fun q => ⟨vi, fun s12 e12 => st s12 _ ?_ e12⟩⟩
    · unfold sunV
      rw [if_neg q]
    · unfold sunV
      rw [if_pos q]
theorem c_takeRow (h : RD σ p T a late P N) (hi : PI late P N) (hn0 : tkK T a ≠ 0) (hn3 : tkK T a ≠ 3) (hR : pRow T a late P N k = R)
    (herr : ∀ τ e, FR p σ τ → FX τ e → R = .error e → K none τ)
    (hok : ∀ τ a' late' P' N', FR p σ τ → RD τ p T a' late' P' N' → PI late' P' N' → a < a' → k a' late' P' N' = R → K none τ) : C2 Γ l mX7_takeRow [.ref 7] σ K := by
  have hp := isP_n h.2.2.2.1
  have g12 : σ.1 p 12 = nI (pr P) := h.2.2.2.2.1 1 (by omega)
  have r6 := hi.2.1
  have w8 := hi.1
  refine tX7_takeRow ⟨p, h.2.2.1, h.2.2.2.1, ?_⟩
  rw [g12]
  refine c_open (y := 6) (by omega) (by omega) h.1 h.2.1 hn0 hn3 hR (fun τ e d f z => ri ⟨fun _ => herr τ e d.fr f z, fun y => absurd rfl y⟩) (fun τ d rk r7 hlt z => ri ⟨fun y => absurd y (by decide), fun _ => ?_⟩)
  have h1 := h.f7 d rk r7
  refine c_take (c := 1) (by decide) (by decide) (by decide) rk r7 z (fun υ e d2 f y => ri ⟨fun t => absurd rfl t, fun _ => herr υ e (d.fr.tr d2.fr) f y⟩) (fun υ d2 rk2 r72 f8 _ f10 hk1 y => ri ⟨fun _ => ?_, fun t => absurd t (by decide)⟩)
  have h2 := h1.f7 d2 rk2 r72
  obtain ⟨ok, l1, l8⟩ := (tk_kind T (a + 1)).1 hk1
  have e10 := f10 rfl
  rw [e10]
  refine c_letters ok l8 (ri ⟨p, h2.2.2.1, h2.2.2.2.1, ?_⟩)
  have g12' : υ.1 p 12 = nI (pr P) := h2.2.2.2.2.1 1 (by omega)
  have g11' : υ.1 p 11 = nI (pw P) := h2.2.2.2.2.1 0 (by omega)
  have fr2 := d.fr (p := p).tr d2.fr
  have q0 : ∀ (hz : pr P ≠ 0), rowQ P (tkN T (a + 1)) 0 = P := fun hz => by
    refine Prod.ext ?_ (Prod.ext ?_ rfl)
    · funext c b
      show (if c = 0 ∧ b = 0 then (if pr P = 0 then (tkN T (a + 1)).length else pw P) else P.1 c b) = P.1 c b
      by_cases e : c = 0 ∧ b = 0
      · rw [if_pos e, if_neg hz, e.1, e.2]
        rfl
      · rw [if_neg e]
    · funext u y
      show (if y = pr P ∧ u < 0 then _ else P.2.1 u y) = P.2.1 u y
      rw [if_neg (by omega)]
  have fin : ∀ (τ : SS) (late' : LF), FR p σ τ → RD τ p T (a + 1 + 1) late' (rowQ P (tkN T (a + 1)) 0) N → τ.2.1 7 10 = lN (nmC (tkN T (a + 1))) → blm late (decide (pr P ≠ 0 ∧ (tkN T (a + 1)).length ≠ pw P)) 6 (tkP T (a + 1)) = late' → wX7_takeRow_73 Γ l (nI (tkN T (a + 1)).length) (nI 0) τ K := fun τ late' fr hd g10 hl => by
    rw [hl] at y
    refine c_takeRow_73 (σ := τ) (late := late') ok l8 (by omega) y (fun ζ e dx f t => herr ζ e (fr.tr dx) f t) (fun ζ dx hx t => hok ζ _ _ _ _ (fr.tr dx) hx ?_ (by omega) t) (tkN T (a + 1)).length 0 τ (by omega) FP.rf hd g10
    rw [← hl]
    exact PI_row hi (by omega) ⟨l1, l8⟩
  refine ⟨fun q => ⟨p, h2.2.2.1, h2.2.2.2.1, ?_⟩, fun q => ⟨p, h2.2.2.1, h2.2.2.2.1, fun s13 e13 => ?_⟩⟩
  · rw [g12', show (0 : Int32) = nI 0 from rfl, nI_eq (by omega) (by omega)] at q
    rw [g11', nI_eq (by omega) (by omega)]
    have h2' : RD υ p T (a + 1 + 1) late (rowQ P (tkN T (a + 1)) 0) N := by
      rw [q0 q]
      exact h2
    refine ⟨fun e => fin υ late fr2 h2' e10 (by rw [decide_eq_false (by omega), blm_f]), fun e => c_blame (n := 6) r72 f8 (by decide) (tkP_2000 h.1.1 _) (fun ξ d3 r73 _ _ g10 => rv ?_)⟩
    exact fin ξ _ (fr2.tr d3.fr) (h2'.f7 d3 (rk2.f7 d3) r73) (by rw [g10]; exact e10) (by rw [decide_eq_true ⟨q, e⟩])
  · rw [g12', show (0 : Int32) = nI 0 from rfl, nI_eq (by omega) (by omega)] at q
    have d13 : FP p υ s13 := by
      rw [e13]
      exact FP.rf.wI ⟨by omega, by omega⟩
    refine fin s13 late (fr2.tr d13.fr) (h2.fp d13 ?_) (by rw [(d13.1 7 (by omega)).2]; exact e10) (by rw [decide_eq_false (by omega), blm_f])
    have := h2.2.2.2.num (j := 0) (v := (tkN T (a + 1)).length) (by omega)
    rw [e13]
    have ee : setP P 0 0 (tkN T (a + 1)).length = rowQ P (tkN T (a + 1)) 0 := by
      refine Prod.ext ?_ (Prod.ext ?_ rfl)
      · funext c b
        show (if c = 0 ∧ b = 0 then (tkN T (a + 1)).length else P.1 c b) = if c = 0 ∧ b = 0 then (if pr P = 0 then (tkN T (a + 1)).length else pw P) else P.1 c b
        by_cases e : c = 0 ∧ b = 0
        · rw [if_pos e, if_pos e, if_pos q]
        · rw [if_neg e, if_neg e]
      · funext u y
        show P.2.1 u y = if y = pr P ∧ u < 0 then sunV ((tkN T (a + 1)).getD u 0) else P.2.1 u y
        rw [if_neg (by omega)]
    rw [ee] at this
    exact this
end P5
