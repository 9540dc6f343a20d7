/-! the class: reading, its steps -/
def F7 (σ τ : SS) : Prop := (∀ b, b ≠ 7 → τ.1 b = σ.1 b) ∧ (∀ b, b ≠ 7 → τ.2.1 b = σ.2.1 b) ∧ τ.2.2 = σ.2.2
theorem F7.rf {σ : SS} : F7 σ σ := ⟨fun _ _ => rfl, fun _ _ => rfl, rfl⟩
theorem F7.tr {σ τ υ : SS} (h : F7 σ τ) (g : F7 τ υ) : F7 σ υ := ⟨fun b hb => (g.1 b hb).trans (h.1 b hb), fun b hb => (g.2.1 b hb).trans (h.2.1 b hb), g.2.2.trans h.2.2⟩
theorem F7.wI {σ τ : SS} {k : Nat} {v : Int32} (h : F7 σ τ) : F7 σ (sI τ 7 k v) := ⟨fun b hb => by rw [sI_row, sA_off2 _ _ hb]; exact h.1 b hb, h.2.1, h.2.2⟩
theorem F7.wJ {σ τ : SS} {k : Nat} {v : Int64} (h : F7 σ τ) : F7 σ (sJ τ 7 k v) := ⟨h.1, fun b hb => by
    have : (sJ τ 7 k v).2.1 b = τ.2.1 b := by
      funext j
      rw [sJ_at, if_neg (fun z => hb z.1)]
    rw [this]
    exact h.2.1 b hb, h.2.2⟩
/-- rows that reading into the plan at p may change -/
def FR (p : Nat) (σ τ : SS) : Prop := (∀ b, b ≠ 7 → b ≠ 8 → b ≠ 9 → (b < p ∨ p + 17 < b) → τ.1 b = σ.1 b ∧ τ.2.1 b = σ.2.1 b) ∧ ∀ b, b ≠ 7 → b ≠ 8 → τ.2.2 b = σ.2.2 b
theorem FR.rf {p : Nat} {σ : SS} : FR p σ σ := ⟨fun _ _ _ _ _ => ⟨rfl, rfl⟩, fun _ _ _ => rfl⟩
theorem FR.tr {p : Nat} {σ τ υ : SS} (h : FR p σ τ) (g : FR p τ υ) : FR p σ υ := ⟨fun b b1 b2 b3 b4 => ⟨(g.1 b b1 b2 b3 b4).1.trans (h.1 b b1 b2 b3 b4).1, (g.1 b b1 b2 b3 b4).2.trans (h.1 b b1 b2 b3 b4).2⟩, fun b b1 b2 => (g.2 b b1 b2).trans (h.2 b b1 b2)⟩
theorem F7.fr {p : Nat} {σ τ : SS} (h : F7 σ τ) : FR p σ τ := ⟨fun b b1 _ _ _ => ⟨h.1 b b1, h.2.1 b b1⟩, fun b _ _ => by rw [h.2.2]⟩
def LTE (σ : SS) (late : LF) : Prop := match late with
  | none => σ.1 7 6 = 0 ∧ σ.1 7 7 = -1
  | some (n, q) => 1 ≤ n ∧ n ≤ 6 ∧ q ≤ 2000 ∧ σ.1 7 6 = nI n ∧ σ.1 7 7 = nI q
def R7 (σ : SS) (a : Nat) (late : LF) : Prop := a ≤ 400 ∧ σ.1 7 3 = nI a ∧ σ.1 7 4 = 0 ∧ LTE σ late
def FX (σ : SS) (e : Nat × Nat) : Prop := (e.1 = 1 ∨ e.1 = 2) ∧ e.2 ≤ 2000 ∧ σ.1 7 4 = nI e.1 ∧ σ.1 7 5 = nI e.2
/-- the tokens are there; all ahead of a are tokens -/
def RK (σ : SS) (T : List Nat) (a : Nat) : Prop := T.length ≤ 2000 ∧ XK σ T ∧ liv T a
theorem RK.f7 {σ τ : SS} {T : List Nat} {a : Nat} (h : RK σ T a) (d : F7 σ τ) : RK τ T a := by
  unfold RK XK
  rw [d.1 3 (by omega), d.1 4 (by omega), d.1 5 (by omega), d.2.1 6 (by omega)]
  exact h
section P1
variable {Γ : GE} {l : Launch} {σ τ : SS} {K : Option Value → SS → Prop} {T : List Nat} {a : Nat} {late : LF} {ρ : Type} {R : Rs ρ}
theorem tkP_2000 (h : T.length ≤ 2000) (n : Nat) : tkP T n ≤ 2000 := Nat.le_trans (tkP_le (T := T) n).2.1 h
theorem c_refuse {n : Nat} (hk : RK σ T a) (h7 : R7 σ a late) (hn : n = 1 ∨ n = 2) (hK : ∀ τ, F7 σ τ → FX τ (n, tkP T a) → K none τ) : C2 Γ l mX7_refuse [.ref 7, .int (nI n)] σ K := by
  have h4 := h7.1
  refine tX7_refuse (fun s1 e1 => ?_)
  have g3 : s1.1 7 3 = nI a := by rw [e1, sI_at, if_neg (by omega)]; exact h7.2.1
  rw [g3]
  refine ⟨vp_in_nI (by omega) (by omega), fun s2 e2 => ?_⟩
  have d1 : F7 σ s1 := by rw [e1]; exact F7.rf.wI
  rw [nI_clamp (by omega), d1.1 4 (by omega), (hk.2.1 a (by omega) hk.2.2).2.1] at e2
  refine hK s2 (by rw [e2]; exact d1.wI) ⟨hn, tkP_2000 hk.1 a, ?_, ?_⟩
  · rw [e2, sI_at, if_neg (by omega), e1, sI_at, if_pos ⟨rfl, rfl⟩]
  · rw [e2, sI_at, if_pos ⟨rfl, rfl⟩]
theorem c_pass {k : Nat → Rs ρ} (hk : RK σ T a) (h7 : R7 σ a late) (hn0 : tkK T a ≠ 0) (hn3 : tkK T a ≠ 3) (hR : pPass T a k = R)
    (herr : ∀ τ e, F7 σ τ → FX τ e → R = .error e → K (some (.int 0)) τ)
    (hok : ∀ τ, F7 σ τ → RK τ T (a + 1) → R7 τ (a + 1) late → τ.1 7 8 = nI (tkP T a) → (tkK T a = 2 → τ.1 7 9 = nI (tkV T a)) → (tkK T a = 1 → τ.2.1 7 10 = lN (nmC (tkN T a))) → k (a + 1) = R → K (some (.int 1)) τ) : C2 Γ l mX7_pass [.ref 7] σ K := by
  have h4 := h7.1
  unfold pPass at hR
  refine tX7_pass ?_
  rw [h7.2.1, show nI a < 400 ↔ a < 400 from nI_ltI (b := 400) (by omega) (by omega)]
  obtain ⟨t1, t2, t3, t4⟩ := hk.2.1 a (by omega) hk.2.2
  have va : vp_in (nI a) 402 := vp_in_nI (by omega) (by omega)
  refine ⟨fun q => ⟨va, fun s1 e1 => ?_⟩, fun q => c_refuse (n := 2) hk h7 (Or.inr rfl) (fun τ d f => rv ?_)⟩
  · rw [if_neg (by omega)] at hR
    rw [nI_clamp (by omega), t2] at e1
    have g1 : s1.1 7 3 = nI a := by rw [e1, sI_at, if_neg (by omega)]; exact h7.2.1
    rw [g1]
    refine ⟨va, fun s2 e2 => ?_⟩
    rw [nI_clamp (by omega)] at e2
    have g2 : s2.1 7 3 = nI a := by rw [e2, sI_at, if_neg (by omega)]; exact g1
    rw [g2]
    refine ⟨va, fun s3 e3 s4 e4 => ?_⟩
    rw [nI_clamp (by omega)] at e3
    have g3 : s3.1 7 3 = nI a := by rw [e3]; exact g2
    rw [g3, nI_1] at e4
    have d1 : F7 σ s1 := by rw [e1]; exact F7.rf.wI
    have d2 : F7 σ s2 := by rw [e2]; exact d1.wI
    have d3 : F7 σ s3 := by rw [e3]; exact d2.wJ
    have d4 : F7 σ s4 := by rw [e4]; exact d3.wI
    have i7 : ∀ j, j ≠ 3 → j ≠ 8 → j ≠ 9 → s4.1 7 j = σ.1 7 j := fun j j3 j8 j9 => by
      rw [e4, sI_at, if_neg (fun z => j3 z.2), e3, sJ_1, e2, sI_at, if_neg (fun z => j9 z.2), e1, sI_at, if_neg (fun z => j8 z.2)]
    have hlv : liv T (a + 1) := fun j hj => by
      by_cases e : j = a
      · rw [e]
        exact ⟨hn0, hn3⟩
      · exact hk.2.2 j (by omega)
    have rk := hk.f7 d4
    refine hok s4 d4 ⟨rk.1, rk.2.1, hlv⟩ ⟨by omega, by rw [e4, sI_at, if_pos ⟨rfl, rfl⟩], by rw [i7 4 (by omega) (by omega) (by omega)]; exact h7.2.2.1, ?_⟩ ?_ (fun z => ?_) (fun z => ?_) hR
    · have := h7.2.2.2
      unfold LTE at this ⊢
      rw [i7 6 (by omega) (by omega) (by omega), i7 7 (by omega) (by omega) (by omega)]
      exact this
    · rw [e4, sI_at, if_neg (by omega), e3, sJ_1, e2, sI_at, if_neg (by omega), e1, sI_at, if_pos ⟨rfl, rfl⟩]
    · rw [e4, sI_at, if_neg (by omega), e3, sJ_1, e2, sI_at, if_pos ⟨rfl, rfl⟩, d1.1 5 (by omega)]
      exact t3 z
    · rw [e4]
      show s3.2.1 7 10 = _
      rw [e3, sJ_at, if_pos ⟨rfl, rfl⟩, d2.2.1 6 (by omega)]
      exact t4 z
  · rw [if_pos (by omega)] at hR
    exact herr τ _ d f hR.symm
theorem ck_inj : ∀ j, j < 42 → ∀ k, k < 42 → (ckK j = ckK k ↔ j = k) := by decide +kernel
theorem ck_e {c : Nat} (hc : c < 42) (T : List Nat) (a : Nat) : (nI (ckK (tkK T a)) = nI (ckK c)) ↔ tkK T a = c := by
  have k42 := (tk_kind T a).2.2
  have b1 := ckK_42 _ k42
  have b2 := ckK_42 _ hc
  rw [nI_eq (by omega) (by omega)]
  exact ck_inj _ k42 _ hc
theorem c_take {c : Nat} {x : Int32} {k : Nat → Rs ρ} (hx : x = nI (ckK c)) (hc : c < 42) (hc0 : c ≠ 0 ∧ c ≠ 3) (hk : RK σ T a) (h7 : R7 σ a late) (hR : pTake T c a k = R)
    (herr : ∀ τ e, F7 σ τ → FX τ e → R = .error e → K (some (.int 0)) τ)
    (hok : ∀ τ, F7 σ τ → RK τ T (a + 1) → R7 τ (a + 1) late → τ.1 7 8 = nI (tkP T a) → (c = 2 → τ.1 7 9 = nI (tkV T a)) → (c = 1 → τ.2.1 7 10 = lN (nmC (tkN T a))) → tkK T a = c → k (a + 1) = R → K (some (.int 1)) τ) : C2 Γ l mX7_take [.ref 7, .int x] σ K := by
  have h4 := h7.1
  unfold pTake at hR
  refine tX7_take ?_
  rw [h7.2.1, nI_clamp (by omega), (hk.2.1 a (by omega) hk.2.2).1, hx, ck_e hc]
  refine ⟨vp_in_nI (by omega) (by omega), fun q => ?_, fun q => c_refuse (n := 1) hk h7 (Or.inl rfl) (fun τ d f => rv ?_)⟩
  · rw [if_pos q] at hR
    exact c_pass hk h7 (by rw [q]; exact hc0.1) (by rw [q]; exact hc0.2) hR (fun τ e d f z => ri ⟨rfl, herr τ e d f z⟩) (fun τ d rk r7 f8 f9 f10 z => ri ⟨rfl, hok τ d rk r7 f8 (fun y => f9 (by rw [q, y])) (fun y => f10 (by rw [q, y])) q z⟩)
  · rw [if_neg q] at hR
    exact herr τ _ d f hR.symm
theorem c_open {x y : Nat} {k : Nat → Rs ρ} (hx : x < 100) (hy : y < 100) (hk : RK σ T a) (h7 : R7 σ a late) (hn0 : tkK T a ≠ 0) (hn3 : tkK T a ≠ 3) (hR : (if y ≤ x then .error (2, tkP T a) else pPass T a k) = R)
    (herr : ∀ τ e, F7 σ τ → FX τ e → R = .error e → K (some (.int 0)) τ)
    (hok : ∀ τ, F7 σ τ → RK τ T (a + 1) → R7 τ (a + 1) late → x < y → k (a + 1) = R → K (some (.int 1)) τ) : C2 Γ l mX7_open [.ref 7, .int (nI x), .int (nI y)] σ K := by
  refine tX7_open ?_
  rw [nI_ltI (by omega) (by omega)]
  refine ⟨fun q => ?_, fun q => c_refuse (n := 2) hk h7 (Or.inr rfl) (fun τ d f => rv ?_)⟩
  · rw [if_neg (by omega)] at hR
    exact c_pass hk h7 hn0 hn3 hR (fun τ e d f z => ri ⟨rfl, herr τ e d f z⟩) (fun τ d rk r7 _ _ _ z => ri ⟨rfl, hok τ d rk r7 q z⟩)
  · rw [if_pos (by omega)] at hR
    exact herr τ _ d f hR.symm
theorem c_blame {n q : Nat} (h7 : R7 σ a late) (h8 : σ.1 7 8 = nI q) (hn : 1 ≤ n ∧ n ≤ 6) (hq : q ≤ 2000) (hK : ∀ τ, F7 σ τ → R7 τ a (blm late true n q) → τ.1 7 8 = σ.1 7 8 → τ.1 7 9 = σ.1 7 9 → τ.2.1 7 = σ.2.1 7 → K none τ) : C2 Γ l mX7_blame [.ref 7, .int (nI n)] σ K := by
  obtain ⟨a1, a2, a3, a4⟩ := h7
  refine tX7_blame ?_
  cases late with
  | none =>
    refine ⟨fun z => absurd a4.1 z, fun _ s1 e1 s2 e2 => ?_⟩
    have g8 : s1.1 7 8 = nI q := by rw [e1, sI_at, if_neg (by omega)]; exact h8
    rw [g8] at e2
    have i7 : ∀ j, j ≠ 6 → j ≠ 7 → s2.1 7 j = σ.1 7 j := fun j j6 j7 => by rw [e2, sI_at, if_neg (fun z => j7 z.2), e1, sI_at, if_neg (fun z => j6 z.2)]
    have d : F7 σ s2 := by rw [e2, e1]; exact F7.rf.wI.wI
    refine hK s2 d ⟨a1, by rw [i7 3 (by omega) (by omega)]; exact a2, by rw [i7 4 (by omega) (by omega)]; exact a3, ?_⟩ (i7 8 (by omega) (by omega)) (i7 9 (by omega) (by omega)) (by rw [e2, e1]; rfl)
    show LTE s2 (if (none : LF) = none ∧ true = true then some (n, q) else none)
    rw [if_pos ⟨rfl, rfl⟩]
    exact ⟨hn.1, hn.2, hq, by rw [e2, sI_at, if_neg (by omega), e1, sI_at, if_pos ⟨rfl, rfl⟩], by rw [e2, sI_at, if_pos ⟨rfl, rfl⟩]⟩
  | some x =>
    obtain ⟨m, r⟩ := x
    obtain ⟨b1, b2, b3, b4, b5⟩ := id a4
    refine ⟨fun _ => hK σ F7.rf ⟨a1, a2, a3, ?_⟩ rfl rfl rfl, fun z => absurd (b4.symm.trans z) (nI_ne0 (by omega) (by omega))⟩
    show LTE σ (if some (m, r) = none ∧ true = true then some (n, q) else some (m, r))
    rw [if_neg (fun z => absurd z.1 (by simp))]
    exact a4
theorem blm_f {n q : Nat} : blm late false n q = late := by
  unfold blm
  rw [if_neg (fun z => absurd z.2 (by decide))]
theorem c_takeInt {lo hi : Nat} {k : Nat → Rs ρ} (hlo : lo < 2 ^ 30) (hhi : hi < 2 ^ 30) (hk : RK σ T a) (h7 : R7 σ a late) (hR : pTake T 2 a k = R)
    (herr : ∀ τ e, F7 σ τ → FX τ e → R = .error e → K (some (.int 0)) τ)
    (hok : ∀ τ, F7 σ τ → RK τ T (a + 1) → R7 τ (a + 1) (blm late (decide (tkV T a < lo ∨ hi < tkV T a)) 5 (tkP T a)) → τ.1 7 9 = nI (tkV T a) → tkV T a ≤ 9999 → k (a + 1) = R → K (some (.int 1)) τ) : C2 Γ l mX7_takeInt [.ref 7, .int (nI lo), .int (nI hi)] σ K := by
  refine tX7_takeInt (c_take (c := 2) (by decide) (by decide) (by decide) hk h7 hR (fun τ e d f z => ri ⟨fun q => absurd rfl q, fun _ => herr τ e d f z⟩) (fun τ d rk r7 f8 f9 _ kk z => ri ⟨fun _ => ?_, fun q => absurd q (by decide)⟩))
  have hv := (tk_kind T a).2.1 kk
  have p2 := tkP_2000 hk.1 a
  rw [f9 rfl, nI_ltI (by omega) (by omega), nI_leI (by omega) (by omega)]
  have bl : (tkV T a < lo ∨ hi < tkV T a) → C2 Γ l mX7_blame [.ref 7, .int 5] τ (Rv fun s => K (some (.int 1)) s) := fun c => c_blame (n := 5) r7 f8 (by decide) p2 (fun υ d2 r72 _ g9 _ => rv (hok υ (d.tr d2) (rk.f7 d2) (by rw [decide_eq_true c]; exact r72) (by rw [g9]; exact f9 rfl) hv z))
  refine ⟨fun q => bl (Or.inl q), fun q => ⟨fun q2 => hok τ d rk ?_ (f9 rfl) hv z, fun q2 => bl (Or.inr (by omega))⟩⟩
  rw [decide_eq_false (by omega), blm_f]
  exact r7
end P1
