/-! the model: a law is read -/
/-- what reading a law from the branch B and the code c0 on may change -/
def FLb (sd B c0 : Nat) (σ τ : SS) : Prop := FQ sd σ τ ∧ (∀ b, b ≠ 284 → (b < 311 ∨ 318 < b) → τ.1 b = σ.1 b) ∧ (∀ k, k ≠ 11 → k ≠ 12 → k ≠ 13 → k ≠ 14 → k ≠ 15 → k ≠ 16 → k ≠ 40 → k ≠ 46 → k ≠ 50 → τ.1 284 k = σ.1 284 k) ∧ (∀ b j, 311 ≤ b → b ≤ 315 → j < B → τ.1 b j = σ.1 b j) ∧ (∀ j, j < c0 → τ.1 316 j = σ.1 316 j ∧ τ.1 317 j = σ.1 317 j) ∧ τ.2 = σ.2
theorem FLb.rf {sd B c0 : Nat} {σ : SS} : FLb sd B c0 σ σ := ⟨FQ.rf, fun _ _ _ => rfl, fun _ _ _ _ _ _ _ _ _ _ => rfl, fun _ _ _ _ _ => rfl, fun _ _ => ⟨rfl, rfl⟩, rfl⟩
theorem FLb.tr {sd B c0 : Nat} {σ τ υ : SS} (h : FLb sd B c0 σ τ) (g : FLb sd B c0 τ υ) : FLb sd B c0 σ υ := ⟨h.1.tr g.1, fun b b1 b2 => (g.2.1 b b1 b2).trans (h.2.1 b b1 b2), fun k k1 k2 k3 k4 k5 k6 k7 k8 k9 => (g.2.2.1 k k1 k2 k3 k4 k5 k6 k7 k8 k9).trans (h.2.2.1 k k1 k2 k3 k4 k5 k6 k7 k8 k9), fun b j b1 b2 hj => (g.2.2.2.1 b j b1 b2 hj).trans (h.2.2.2.1 b j b1 b2 hj), fun j hj => ⟨((g.2.2.2.2.1 j hj).1).trans (h.2.2.2.2.1 j hj).1, ((g.2.2.2.2.1 j hj).2).trans (h.2.2.2.2.1 j hj).2⟩, g.2.2.2.2.2.trans h.2.2.2.2.2⟩
theorem FLb.mo {sd B c0 B' c0' : Nat} {σ τ : SS} (h : FLb sd B' c0' σ τ) (hB : B ≤ B') (hc : c0 ≤ c0') : FLb sd B c0 σ τ := ⟨h.1, h.2.1, h.2.2.1, fun b j b1 b2 hj => h.2.2.2.1 b j b1 b2 (by omega), fun j hj => h.2.2.2.2.1 j (by omega), h.2.2.2.2.2⟩
theorem FX2.fl {sd B c0 : Nat} {σ τ : SS} (h : FX2 sd c0 σ τ) : FLb sd B c0 σ τ := ⟨h.1, fun b b1 b2 => h.2.1 b b1 (by omega) (by omega) (by omega), fun k k1 k2 k3 k4 k5 k6 k7 k8 k9 => h.2.2.1 k k1 k2 k3 k4 k5 k6 k8 k9, fun b j b1 b2 _ => by rw [h.2.1 b (by omega) (by omega) (by omega) (by omega)], h.2.2.2.1, h.2.2.2.2⟩
theorem F4.fl {sd B c0 : Nat} {σ τ : SS} (h : F4 σ τ) : FLb sd B c0 σ τ := (h.fx (c0 := c0)).fl
theorem FLb.wb {sd B c0 b : Nat} {v : Int32} {σ τ : SS} (h : FLb sd B c0 σ τ) (hs : sd ≤ 1) (h1 : 311 ≤ b) (h2 : b ≤ 315) (h3 : 130 * sd ≤ B) {j : Nat} (hj : B ≤ j) (h4 : j < 130 * sd + 130) : FLb sd B c0 σ (sI τ b j v) := by
  have w : wdB b = 130 := by
    unfold wdB
    rw [if_neg (by omega), if_neg (by omega), if_neg (by omega), if_neg (by omega), if_pos (by omega)]
  exact ⟨h.1.wr hs (by omega) (by omega) (by rw [w]; omega) (by rw [w]; omega), fun c c1 c2 => by rw [sI_row, sA_off2 _ _ (by omega)]; exact h.2.1 c c1 c2, fun k k1 k2 k3 k4 k5 k6 k7 k8 k9 => by rw [sI_at, if_neg (by omega)]; exact h.2.2.1 k k1 k2 k3 k4 k5 k6 k7 k8 k9, fun c i c1 c2 hi => by rw [sI_at, if_neg (by omega)]; exact h.2.2.2.1 c i c1 c2 hi, fun i hi => by rw [sI_row, sA_off2 _ _ (by omega), sA_off2 _ _ (by omega)]; exact h.2.2.2.2.1 i hi, h.2.2.2.2.2⟩
theorem FLb.w40 {sd B c0 : Nat} {v : Int32} {σ τ : SS} (h : FLb sd B c0 σ τ) : FLb sd B c0 σ (sI τ 284 40 v) := ⟨h.1.wf (by omega), fun c c1 c2 => by rw [sI_row, sA_off2 _ _ c1]; exact h.2.1 c c1 c2, fun k k1 k2 k3 k4 k5 k6 k7 k8 k9 => by rw [sI_at, if_neg (by omega)]; exact h.2.2.1 k k1 k2 k3 k4 k5 k6 k7 k8 k9, fun c i c1 c2 hi => by rw [sI_row, sA_off2 _ _ (by omega)]; exact h.2.2.2.1 c i c1 c2 hi, fun i hi => by rw [sI_row, sA_off2 _ _ (by omega), sA_off2 _ _ (by omega)]; exact h.2.2.2.2.1 i hi, h.2.2.2.2.2⟩
/-! branches as the model keeps them -/
def brL (q : Option (Ex × Ex) × Ex) : Nat := match q with
  | (none, t) => t.length
  | (some (e1, e2), t) => e1.length + e2.length + t.length
def cL : LawV → Nat
  | [] => 0
  | q :: bs => brL q + cL bs
theorem cL_app : ∀ a q, cL (a ++ [q]) = cL a + brL q
  | [], q => by
    show brL q + 0 = 0 + brL q
    omega
  | p :: a, q => by
    rw [List.cons_append, cL, cL, cL_app a q]
    omega
theorem cL_le : ∀ br, cL br ≤ brN br
  | [] => Nat.le_refl _
  | (some (e1, e2), t) :: br => by
    have := cL_le br
    rw [cL, brN]
    show e1.length + e2.length + t.length + _ ≤ _
    omega
  | (none, t) :: br => by
    have := cL_le br
    rw [cL, brN]
    show t.length + _ ≤ _
    omega
def MB1 (σ : SS) (b c : Nat) (q : Option (Ex × Ex) × Ex) : Prop := match q with
  | (none, t) => σ.1 311 b = 0 ∧ σ.1 314 b = nI c ∧ σ.1 315 b = nI (c + t.length) ∧ MEx σ c t
  | (some (e1, e2), t) => σ.1 311 b = 1 ∧ σ.1 312 b = nI c ∧ σ.1 313 b = nI (c + e1.length) ∧ σ.1 314 b = nI (c + e1.length + e2.length) ∧ σ.1 315 b = nI (c + e1.length + e2.length + t.length) ∧ MEx σ c e1 ∧ MEx σ (c + e1.length) e2 ∧ MEx σ (c + e1.length + e2.length) t
def MBs (σ : SS) : Nat → Nat → LawV → Prop
  | _, _, [] => True
  | b, c, q :: bs => MB1 σ b c q ∧ MBs σ (b + 1) (c + brL q) bs
theorem MB1.cg {σ τ : SS} {b c : Nat} {q : Option (Ex × Ex) × Ex} (h : MB1 σ b c q) (r : ∀ d, 311 ≤ d → d ≤ 315 → τ.1 d b = σ.1 d b) (r6 : ∀ j, c ≤ j → j < c + brL q → τ.1 316 j = σ.1 316 j ∧ τ.1 317 j = σ.1 317 j) : MB1 τ b c q := by
  match q, h, r6 with
  | (none, t), h, r6 =>
    obtain ⟨h1, h2, h3, h4⟩ := h
    exact ⟨by rw [r 311 (by omega) (by omega)]; exact h1, by rw [r 314 (by omega) (by omega)]; exact h2, by rw [r 315 (by omega) (by omega)]; exact h3, h4.cg r6⟩
  | (some (e1, e2), t), h, r6 =>
    obtain ⟨h1, h2, h3, h4, h5, h6, h7, h8⟩ := h
    have e : brL (some (e1, e2), t) = e1.length + e2.length + t.length := rfl
    rw [e] at r6
    exact ⟨by rw [r 311 (by omega) (by omega)]; exact h1, by rw [r 312 (by omega) (by omega)]; exact h2, by rw [r 313 (by omega) (by omega)]; exact h3, by rw [r 314 (by omega) (by omega)]; exact h4, by rw [r 315 (by omega) (by omega)]; exact h5, h6.cg (fun j j1 j2 => r6 j (by omega) (by omega)), h7.cg (fun j j1 j2 => r6 j (by omega) (by omega)), h8.cg (fun j j1 j2 => r6 j (by omega) (by omega))⟩
theorem MBs.cg {σ τ : SS} : ∀ (br : LawV) (b c : Nat), MBs σ b c br → (∀ d j, 311 ≤ d → d ≤ 315 → b ≤ j → j < b + br.length → τ.1 d j = σ.1 d j) → (∀ j, c ≤ j → j < c + cL br → τ.1 316 j = σ.1 316 j ∧ τ.1 317 j = σ.1 317 j) → MBs τ b c br
  | [], _, _, _, _, _ => trivial
  | q :: br, b, c, ⟨h1, h2⟩, r, r6 => by
    rw [List.length_cons] at r
    rw [cL] at r6
    exact ⟨h1.cg (fun d d1 d2 => r d b d1 d2 (by omega) (by omega)) (fun j j1 j2 => r6 j j1 (by omega)), MBs.cg br (b + 1) (c + brL q) h2 (fun d j d1 d2 j1 j2 => r d j d1 d2 (by omega) (by omega)) (fun j j1 j2 => r6 j (by omega) (by omega))⟩
theorem MBs_snoc {σ : SS} {q : Option (Ex × Ex) × Ex} : ∀ (br : LawV) (b c : Nat), MBs σ b c br → MB1 σ (b + br.length) (c + cL br) q → MBs σ b c (br ++ [q])
  | [], b, c, _, h => ⟨h, trivial⟩
  | p :: br, b, c, ⟨h1, h2⟩, h => by
    rw [List.length_cons, cL] at h
    refine ⟨h1, MBs_snoc br (b + 1) (c + brL p) h2 ?_⟩
    rw [show b + 1 + br.length = b + (br.length + 1) by omega, show c + brL p + cL br = c + (brL p + cL br) by omega]
    exact h
theorem MBs_br {σ : SS} {t : Ex} : ∀ (br : LawV) (b c : Nat), brOk br → MBs σ b c (br ++ [(none, t)]) → c + cL (br ++ [(none, t)]) ≤ 840 → MBr σ b (br ++ [(none, t)])
  | [], b, c, _, ⟨h1, _⟩, hc => by
    obtain ⟨a1, a2, a3, a4⟩ := h1
    have : c + t.length ≤ 840 := by
      have : cL ([] ++ [((none : Option (Ex × Ex)), t)]) = t.length := rfl
      omega
    exact ⟨rfl, a1, c, this, a2, a3, a4⟩
  | (none, u) :: br, b, c, hb, _, _ => by
    obtain ⟨e1, e2, h1, -⟩ := hb _ List.mem_cons_self
    exact absurd h1 (by simp)
  | (some (e1, e2), u) :: br, b, c, hb, ⟨h1, h2⟩, hc => by
    obtain ⟨a1, a2, a3, a4, a5, a6, a7, a8⟩ := h1
    rw [List.cons_append, cL] at hc
    have e : brL (some (e1, e2), u) = e1.length + e2.length + u.length := rfl
    exact ⟨a1, ⟨c, by omega, a2, a3, a4, a5, a6, a7, a8⟩, MBs_br br (b + 1) _ (fun q hq => hb q (List.mem_cons_of_mem _ hq)) h2 (by omega)⟩
section M27
variable {Γ : GE} {l : Launch} {σ τ : SS} {K : Option Value → SS → Prop} {T : List Nat} {sd c0 a2 ifs : Nat} {late : LF} {ρ : Type} {R : Rs ρ} {kk : Nat → LawV → Rs ρ} {e1 e2 : Ex} {br : LawV} {e : Nat × Nat}
theorem m_expression {ph a : Nat} (hs : sd ≤ 1) (hc : 420 * sd ≤ c0) (h : Lv1 σ T a late) (ha2 : a2 ≤ a) (h12 : σ.1 284 12 = 0) (h46 : σ.1 284 46 = nI c0) (hi : LAi (a - a2) ph true 0 ifs [] [] e1 e2 br) (h30 : ph = 0 → tkK T a ≠ 30) (hcb : c0 ≤ 420 * sd + a2 + brN br + phN ph e1 e2) (hR : pAut T kk (401 - a) a ph true 0 ifs [] [] e1 e2 br = R)
    (herr : ∀ τ e, FX2 sd c0 σ τ → DEr τ e → R = .error e → K none τ)
    (hok : ∀ τ a' ws cur, FX2 sd c0 σ τ → Lv1 τ T a' late → τ.1 284 12 = 0 → τ.1 284 46 = nI (c0 + (stE 1 ws cur).length) → MEx τ c0 (stE 1 ws cur) → a2 ≤ a' → LAi (a' - a2) (ph4 ph) false 0 ifs ws cur e1 e2 br → bnd (tkK T a') = 0 → pAut T kk (401 - a') a' (ph4 ph) false 0 ifs ws cur e1 e2 br = R → K none τ) : C2 Γ l mX10_expression [.ref 284] σ K := by
  have h4 := h.1.2.2.2.1
  refine tX10_expression (fun s1 es1 => ?_)
  have g12 : s1.1 284 12 = nI 0 := by rw [es1, sI_at, if_neg (by omega)]; exact h12
  rw [g12]
  have fx : FX2 sd c0 σ s1 := by rw [es1]; exact FX2.rf.wf (by omega)
  have l1 : Lv1 s1 T a late := h.cg (fun b b1 b2 => by rw [es1, sI_row, sA_off2 _ _ (by omega)]) (by rw [es1]; rfl) (fun k hk => by rw [es1, sI_at, if_neg (by omega)])
  refine tX10_expression_12 ⟨fun q => absurd q (by decide), fun _ => ⟨fun q => absurd l1.1.2.2.2.2.2 q, fun _ => ?_⟩⟩
  refine (m_expr_loop (σ0 := σ) (ph0 := ph) hs hc herr (fun τ a' ph' ws cur d hl q12 q46 qe qa qi qb _ qR p0 p1 => ?_) (401 - a)).1 a s1 ph 0 [] [] (by omega) fx l1 ha2 g12 ⟨by rw [es1, sI_at, if_pos ⟨rfl, rfl⟩]; rfl, trivial, by rw [es1, sI_at, if_neg (by omega)]; exact h46, fun j hj => absurd hj (by show ¬ j < 0; omega)⟩ hi h30 hcb (fun z => Or.inl z) (fun z => rfl) hR
  have ep : ph' = ph4 ph := by
    unfold ph4
    by_cases z : ph = 0
    · rw [if_pos z]
      exact p0 z
    · rw [if_neg z]
      exact p1 z
  subst ep
  exact hok τ a' ws cur d hl q12 q46 qe qa qi qb qR
theorem m_exprD (h : DEr σ e) (hK : ∀ τ, FX2 sd c0 σ τ → DEr τ e → K none τ) : C2 Γ l mX10_expression [.ref 284] σ K := by
  refine tX10_expression (fun s1 es1 => ?_)
  have f1 : DEr s1 e := h.cg (by rw [es1, sI_at, if_neg (by omega)]) (by rw [es1, sI_at, if_neg (by omega)])
  exact tX10_expression_12 ⟨fun q => absurd q (by decide), fun _ => ⟨fun _ => hK s1 (by rw [es1]; exact FX2.rf.wf (by omega)) f1, fun q => absurd q f1.n0⟩⟩
/-- the token behind an expression -/
theorem aut1 {a n : Nat} {ws : List Nat} {cur : Ex} (hb : bnd (tkK T a) = 0) : pAut T kk (n + 1) a 1 false 0 ifs ws cur e1 e2 br = pTake T 13 a (fun a' => pAut T kk n a' 2 true 0 ifs [] [] (stE 1 ws cur) [] br) := by
  rw [pAut, if_neg (by omega), if_pos rfl]
  unfold pTake
  by_cases c : tkK T a = 13
  · rw [if_pos ⟨c, rfl⟩, if_pos c]
  · rw [if_neg (fun z => c z.1), if_neg (by omega), if_neg (by omega), if_neg (by omega), if_neg c]
theorem aut2 {a n : Nat} {ws : List Nat} {cur : Ex} (hb : bnd (tkK T a) = 0) : pAut T kk (n + 1) a 2 false 0 ifs ws cur e1 e2 br = pTake T 31 a (fun a' => pAut T kk n a' 3 true 0 ifs [] [] e1 (stE 1 ws cur) br) := by
  rw [pAut, if_neg (by omega), if_pos rfl]
  unfold pTake
  by_cases c : tkK T a = 31
  · rw [if_neg (by omega), if_pos ⟨c, rfl⟩, if_pos c]
  · rw [if_neg (by omega), if_neg (fun z => c z.1), if_neg (by omega), if_neg (by omega), if_neg c]
theorem aut3 {a n : Nat} {ws : List Nat} {cur : Ex} (hb : bnd (tkK T a) = 0) : pAut T kk (n + 1) a 3 false 0 ifs ws cur e1 e2 br = pTake T 32 a (fun a' => pAut T kk n a' 0 true 0 ifs [] [] [] [] (br ++ [(some (e1, e2), stE 1 ws cur)])) := by
  rw [pAut, if_neg (by omega), if_pos rfl]
  unfold pTake
  by_cases c : tkK T a = 32
  · rw [if_neg (by omega), if_neg (by omega), if_pos ⟨c, rfl⟩, if_pos c]
  · rw [if_neg (by omega), if_neg (by omega), if_neg (fun z => c z.1), if_neg (by omega), if_neg c]
theorem aut4 {a n : Nat} {ws : List Nat} {cur : Ex} (hb : bnd (tkK T a) = 0) : pAut T kk (n + 1) a 4 false 0 ifs ws cur e1 e2 br = pTake T 4 a (fun a' => kk a' (br ++ [(none, stE 1 ws cur)])) := by
  rw [pAut, if_neg (by omega), if_pos rfl]
  unfold pTake
  by_cases c : tkK T a = 4
  · rw [if_neg (by omega), if_neg (by omega), if_neg (by omega), if_pos ⟨c, rfl⟩, if_pos c]
  · rw [if_neg (by omega), if_neg (by omega), if_neg (by omega), if_neg (fun z => c z.1), if_neg c]
theorem m_termD {B : Nat} (hs : sd ≤ 1) (h : DEr σ e) (h40 : σ.1 284 40 = nI B) (h1 : 130 * sd ≤ B) (h2 : B < 130 * sd + 130) (hK : ∀ τ, FLb sd B c0 σ τ → DEr τ e → τ.1 284 40 = nI (B + 1) → K none τ) : C2 Γ l mX10_term [.ref 284] σ K := by
  refine tX10_term ?_
  rw [h40, nI_clamp (by omega)]
  refine ⟨vp_in_nI (by omega) (by omega), fun s1 es1 => ⟨fun _ => ?_, fun q => absurd q ?_⟩⟩
  · have g40 : s1.1 284 40 = nI B := by rw [es1, sI_row, sA_off2 _ _ (by omega)]; exact h40
    rw [g40, nI_clamp (by omega)]
    refine ⟨vp_in_nI (by omega) (by omega), fun s2 es2 s3 es3 => ?_⟩
    have k40 : s2.1 284 40 = nI B := by rw [es2, sI_row, sA_off2 _ _ (by omega)]; exact g40
    rw [k40, nI_1] at es3
    have r84 : ∀ k, k ≠ 40 → s3.1 284 k = σ.1 284 k := fun k hk => by rw [es3, sI_at, if_neg (fun z => hk z.2), es2, sI_row, sA_off2 _ _ (by omega), es1, sI_row, sA_off2 _ _ (by omega)]
    refine hK s3 ?_ (h.cg (r84 13 (by omega)) (r84 14 (by omega))) (by rw [es3, sI_at, if_pos ⟨rfl, rfl⟩])
    rw [es3, es2, es1]
    exact ((FLb.rf.wb hs (by omega) (by omega) h1 (Nat.le_refl _) h2).wb hs (by omega) (by omega) h1 (Nat.le_refl _) h2).w40
  · rw [es1, sI_row, sA_off2 _ _ (by omega)]
    exact h.n0
theorem m_term {ph a B : Nat} (hs : sd ≤ 1) (hc : 420 * sd ≤ c0) (h : Lv1 σ T a late) (ha2 : a2 ≤ a) (h12 : σ.1 284 12 = 0) (h40 : σ.1 284 40 = nI B) (h1 : 130 * sd ≤ B) (h2 : B < 130 * sd + 130) (h46 : σ.1 284 46 = nI c0) (hi : LAi (a - a2) ph true 0 ifs [] [] e1 e2 br) (h30 : ph = 0 → tkK T a ≠ 30) (hcb : c0 ≤ 420 * sd + a2 + brN br + phN ph e1 e2) (hR : pAut T kk (401 - a) a ph true 0 ifs [] [] e1 e2 br = R)
    (herr : ∀ τ e, FLb sd B c0 σ τ → DEr τ e → R = .error e → τ.1 284 40 = nI (B + 1) → K none τ)
    (hok : ∀ τ a' ws cur, FLb sd B c0 σ τ → (∀ b, 311 ≤ b → b ≤ 313 → τ.1 b = σ.1 b) → Lv1 τ T a' late → τ.1 284 12 = 0 → τ.1 284 40 = nI (B + 1) → τ.1 284 46 = nI (c0 + (stE 1 ws cur).length) → MEx τ c0 (stE 1 ws cur) → τ.1 314 B = nI c0 → τ.1 315 B = nI (c0 + (stE 1 ws cur).length) → a2 ≤ a' → LAi (a' - a2) (ph4 ph) false 0 ifs ws cur e1 e2 br → bnd (tkK T a') = 0 → pAut T kk (401 - a') a' (ph4 ph) false 0 ifs ws cur e1 e2 br = R → K none τ) : C2 Γ l mX10_term [.ref 284] σ K := by
  refine tX10_term ?_
  rw [h40, nI_clamp (by omega), h46]
  refine ⟨vp_in_nI (by omega) (by omega), fun s1 es1 => ?_⟩
  have ro1 : ∀ b, b ≠ 314 → s1.1 b = σ.1 b := fun b hb => by rw [es1, sI_row, sA_off2 _ _ hb]
  have fl1 : FLb sd B c0 σ s1 := by rw [es1]; exact FLb.rf.wb hs (by omega) (by omega) h1 (Nat.le_refl _) h2
  have l1 : Lv1 s1 T a late := h.cg (fun b b1 b2 => ro1 b (by omega)) (by rw [es1]; rfl) (fun k hk => by rw [ro1 284 (by omega)])
  refine ⟨fun q => absurd l1.1.2.2.2.2.2 q, fun _ => ?_⟩
  have g40 : s1.1 284 40 = nI B := by rw [ro1 284 (by omega)]; exact h40
  -- the end of it
  have tail : ∀ s4, FX2 sd c0 s1 s4 → ∀ s6, s6 = sI s4 315 B (s4.1 284 46) → ∀ s7, s7 = sI s6 284 40 ((s6.1 284 40) + 1) → FLb sd B c0 σ s7 ∧ (∀ b, 311 ≤ b → b ≤ 313 → s7.1 b = σ.1 b) ∧ (∀ k, k ≠ 40 → s7.1 284 k = s4.1 284 k) ∧ (∀ b, b ≠ 284 → b ≠ 315 → s7.1 b = s4.1 b) ∧ s7.2 = s4.2 ∧ s7.1 284 40 = nI (B + 1) ∧ s7.1 314 B = nI c0 ∧ s7.1 315 B = s4.1 284 46 := fun s4 d4 s6 es6 s7 es7 => by
    have k40 : s6.1 284 40 = nI B := by rw [es6, sI_row, sA_off2 _ _ (by omega), d4.2.2.1 40 (by omega) (by omega) (by omega) (by omega) (by omega) (by omega) (by omega) (by omega)]; exact g40
    rw [k40, nI_1] at es7
    have ro7 : ∀ b, b ≠ 284 → b ≠ 315 → s7.1 b = s4.1 b := fun b b1 b2 => by rw [es7, sI_row, sA_off2 _ _ b1, es6, sI_row, sA_off2 _ _ b2]
    refine ⟨?_, fun b b1 b2 => ?_, fun k hk => ?_, ro7, by rw [es7, es6]; rfl, ?_, ?_, ?_⟩
    · have := ((fl1.tr (d4.fl (B := B))).wb (b := 315) (v := s4.1 284 46) hs (by omega) (by omega) h1 (Nat.le_refl _) h2).w40 (v := nI (B + 1))
      rw [es7, es6]
      exact this
    · rw [ro7 b (by omega) (by omega), d4.2.1 b (by omega) (by omega) (by omega) (by omega), ro1 b (by omega)]
    · rw [es7, sI_at, if_neg (fun z => hk z.2), es6, sI_row, sA_off2 _ _ (by omega)]
    · rw [es7, sI_at, if_pos ⟨rfl, rfl⟩]
    · rw [ro7 314 (by omega) (by omega), d4.2.1 314 (by omega) (by omega) (by omega) (by omega), es1, sI_at, if_pos ⟨rfl, rfl⟩]
    · rw [es7, sI_row, sA_off2 _ _ (by omega), es6, sI_at, if_pos ⟨rfl, rfl⟩]
  have vB : ∀ s4, FX2 sd c0 s1 s4 → vp_in (s4.1 284 40) 260 ∧ Int32.toNatClampNeg (s4.1 284 40) = B := fun s4 d4 => by
    rw [d4.2.2.1 40 (by omega) (by omega) (by omega) (by omega) (by omega) (by omega) (by omega) (by omega), g40]
    exact ⟨vp_in_nI (by omega) (by omega), nI_clamp (by omega)⟩
  refine m_expression hs hc l1 ha2 (by rw [ro1 284 (by omega)]; exact h12) (by rw [ro1 284 (by omega)]; exact h46) hi h30 hcb hR (fun s4 e d4 f z => rv ⟨(vB s4 d4).1, fun s6 es6 s7 es7 => ?_⟩) (fun s4 a' ws cur d4 hl q12 q46 qe qa qi qb qR => rv ⟨(vB s4 d4).1, fun s6 es6 s7 es7 => ?_⟩)
  · rw [(vB s4 d4).2] at es6
    obtain ⟨t1, t2, t3, t4, t5, t6, t7, t8⟩ := tail s4 d4 s6 es6 s7 es7
    exact herr s7 e t1 (f.cg (t3 13 (by omega)) (t3 14 (by omega))) z t6
  · rw [(vB s4 d4).2] at es6
    obtain ⟨t1, t2, t3, t4, t5, t6, t7, t8⟩ := tail s4 d4 s6 es6 s7 es7
    refine hok s7 a' ws cur t1 t2 (hl.cg (fun b b1 b2 => t4 b (by omega) (by omega)) (by rw [t5]) (fun k hk => t3 k (by omega))) (by rw [t3 12 (by omega)]; exact q12) t6 (by rw [t3 46 (by omega)]; exact q46) (qe.cg (fun j _ _ => by rw [t4 316 (by omega) (by omega), t4 317 (by omega) (by omega)]; exact ⟨rfl, rfl⟩)) t7 (by rw [t8]; exact q46) qa qi qb qR
/-- a law that is broken off -/
theorem m_d129 {B : Nat} {x1 x2 : Int32} (hs : sd ≤ 1) (h : DEr σ e) (h40 : σ.1 284 40 = nI B) (h1 : 130 * sd ≤ B) (h2 : B < 130 * sd + 130) (hK : ∀ τ, FLb sd B c0 σ τ → DEr τ e → K none τ) : wX10_tellLaw_129 Γ l x1 x2 σ K := by
  refine tX10_tellLaw_129 ?_
  rw [h40, nI_clamp (by omega)]
  refine ⟨vp_in_nI (by omega) (by omega), fun s1 es1 => ?_⟩
  have r84 : s1.1 284 = σ.1 284 := by rw [es1, sI_row, sA_off2 _ _ (by omega)]
  have f1 : DEr s1 e := h.cg (by rw [r84]) (by rw [r84])
  have fl1 : FLb sd B c0 σ s1 := by rw [es1]; exact FLb.rf.wb hs (by omega) (by omega) h1 (Nat.le_refl _) h2
  exact m_termD (c0 := c0) hs f1 (by rw [r84]; exact h40) h1 h2 (fun τ d f _ => rv (m_mustD f (rv ⟨fun q => absurd q f.nle, fun _ => hK τ (fl1.tr d) f⟩)))
theorem m_d110 {B : Nat} {x1 x2 x3 : Int32} (hs : sd ≤ 1) (h : DEr σ e) (h40 : σ.1 284 40 = nI B) (h1 : 130 * sd ≤ B) (h2 : B + 1 < 130 * sd + 130) (hK : ∀ τ, FLb sd B c0 σ τ → DEr τ e → K none τ) : wX10_tellLaw_110 Γ l x1 x2 x3 σ K :=
  tX10_tellLaw_110 (m_mustD h (rv (m_termD (c0 := c0) hs h h40 h1 (by omega) (fun τ d f g40 => rv (m_mustD f (rv (tX10_tellLaw_12 ⟨fun _ => m_d129 (c0 := c0) hs f g40 (by omega) h2 (fun υ d2 f2 => hK υ (d.tr (d2.mo (by omega) (Nat.le_refl _))) f2), fun q => absurd q f.n0⟩)))))))
end M27
