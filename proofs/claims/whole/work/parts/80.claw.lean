/-! the class: a law is read -/
theorem isW_n {w : Nat} (h : isW w) : 8 ≠ w ∧ 8 ≠ w + 1 ∧ 9 ≠ w ∧ 9 ≠ w + 1 ∧ 7 ≠ w ∧ 7 ≠ w + 1 ∧ 10 ≤ w := (by decide +kernel : ∀ w ∈ lawL, 8 ≠ w ∧ 8 ≠ w + 1 ∧ 9 ≠ w ∧ 9 ≠ w + 1 ∧ 7 ≠ w ∧ 7 ≠ w + 1 ∧ 10 ≤ w) w h
theorem isW_or {w : Nat} (h : isW w) : w = 19 ∨ w = 22 ∨ w = 25 ∨ w = 37 ∨ w = 40 ∨ w = 43 := (by decide +kernel : ∀ a ∈ lawL, a = 19 ∨ a = 22 ∨ a = 25 ∨ a = 37 ∨ a = 40 ∨ a = 43) w h
def encB : Nat → LawV → List Int32
  | _, [] => []
  | _, (none, _) :: _ => []
  | o, (some (e1, e2), t) :: bs => e1.map encO ++ (e2.map encO ++ ([-101, nI (o + (e1.length + e2.length + t.length + 3))] ++ (t.map encO ++ ([-100] ++ encB (o + (e1.length + e2.length + t.length + 3)) bs))))
theorem encB_len : ∀ br o, brOk br → (encB o br).length = brN br
  | [], _, _ => rfl
  | (none, t) :: br, o, h => by
    obtain ⟨e1, e2, h1, -⟩ := h _ List.mem_cons_self
    exact absurd h1 (by simp)
  | (some (e1, e2), t) :: br, o, h => by
    rw [encB, brN]
    simp only [List.length_append, List.length_map, List.length_cons, List.length_nil]
    rw [encB_len br _ (fun b hb => h b (List.mem_cons_of_mem _ hb))]
    omega
theorem encB_app : ∀ br o c, brOk br → encB o (br ++ c) = encB o br ++ encB (o + brN br) c
  | [], o, c, _ => by
    rw [List.nil_append, encB, List.nil_append, brN, Nat.add_zero]
  | (none, t) :: br, o, c, h => by
    obtain ⟨e1, e2, h1, -⟩ := h _ List.mem_cons_self
    exact absurd h1 (by simp)
  | (some (e1, e2), t) :: br, o, c, h => by
    rw [List.cons_append, encB, encB, encB_app br _ c (fun b hb => h b (List.mem_cons_of_mem _ hb)), brN]
    simp only [List.append_assoc, Nat.add_assoc]
theorem encL_app : ∀ br o t, brOk br → encL o (br ++ [(none, t)]) = encB o br ++ (t.map encO ++ [-100])
  | [], o, t, _ => by
    rw [List.nil_append, encL, encB, List.nil_append]
  | (none, u) :: br, o, t, h => by
    obtain ⟨e1, e2, h1, -⟩ := h _ List.mem_cons_self
    exact absurd h1 (by simp)
  | (some (e1, e2), u) :: br, o, t, h => by
    rw [List.cons_append, encL, encB, encL_app br _ t (fun b hb => h b (List.mem_cons_of_mem _ hb))]
    simp only [List.append_assoc]
def phW (ph : Nat) (e1 e2 : Ex) : List Int32 := if ph = 2 then e1.map encO else if ph = 3 then e1.map encO ++ (e2.map encO ++ [-101, 0]) else []
theorem phW_len (ph : Nat) (e1 e2 : Ex) : (phW ph e1 e2).length = phN ph e1 e2 := by
  unfold phW phN
  by_cases h : ph = 2
  · rw [if_pos h, if_pos h, List.length_map]
  · rw [if_neg h, if_neg h]
    by_cases g : ph = 3
    · rw [if_pos g, if_pos g]
      simp only [List.length_append, List.length_map, List.length_cons, List.length_nil]
      omega
    · rw [if_neg g, if_neg g]
      rfl
/-- words of a law -/
def LC (σ : SS) (w : Nat) (ws : List Int32) : Prop := ws.length ≤ 401 ∧ σ.1 w 2 = nI ws.length ∧ At (σ.1 (w + 1)) 0 ws
def WStk (f : Nat → Int32) : List Nat → Prop
  | [] => True
  | c :: ws => f ws.length = nI (ckK c) ∧ WStk f ws
def LMw (σ : SS) (w : Nat) (base : List Int32) (ws : List Nat) (cur : Ex) : Prop := σ.2.2 8 2 = w ∧ σ.1 8 1 = nI ws.length ∧ WStk (σ.1 9) ws ∧ LC σ w (base ++ cur.map encO)
def FS (w : Nat) (σ τ : SS) : Prop := (∀ c, c ≠ 8 → c ≠ 9 → c ≠ w → c ≠ w + 1 → τ.1 c = σ.1 c) ∧ (∀ j, j ≠ 1 → τ.1 8 j = σ.1 8 j) ∧ τ.2 = σ.2
theorem FS.rf {w : Nat} {σ : SS} : FS w σ σ := ⟨fun _ _ _ _ _ => rfl, fun _ _ => rfl, rfl⟩
theorem FS.tr {w : Nat} {σ τ υ : SS} (h : FS w σ τ) (g : FS w τ υ) : FS w σ υ := ⟨fun c a b d e => (g.1 c a b d e).trans (h.1 c a b d e), fun j hj => (g.2.1 j hj).trans (h.2.1 j hj), g.2.2.trans h.2.2⟩
theorem At_app {f : Nat → Int32} {i : Nat} {a b : List Int32} (h : At f i a) (g : At f (i + a.length) b) : At f i (a ++ b) := fun j hj => by
  by_cases e : j < a.length
  · rw [h j e, List.getElem_append_left e]
  · rw [List.length_append] at hj
    have := g (j - a.length) (by omega)
    rw [show i + a.length + (j - a.length) = i + j by omega] at this
    rw [this, List.getElem_append_right (by omega)]
theorem At_upd {f : Nat → Int32} {i k : Nat} {x : Int32} {a : List Int32} (h : At f i a) (hk : k < i ∨ i + a.length ≤ k) : At (upd f k x) i a := fun j hj => by
  rw [pk_un (by omega)]
  exact h j hj
theorem WStk.upd' {f : Nat → Int32} {k : Nat} {x : Int32} : ∀ ws, WStk f ws → ws.length ≤ k → WStk (upd f k x) ws
  | [], _, _ => trivial
  | c :: ws, h, hk => by
    rw [List.length_cons] at hk
    exact ⟨by rw [pk_un (by omega)]; exact h.1, WStk.upd' ws h.2 (by omega)⟩
theorem ck_b : ∀ c, c < 42 → (nI (ckK c) = 42 ↔ c = 10) ∧ (nI (ckK c) = 47 ↔ c = 15) ∧ (nI (ckK c) = 43 ↔ c = 8) ∧ (nI (ckK c) = 45 ↔ c = 9) := by decide +kernel
theorem ck_neg : ∀ c, c < 42 → (c = 8 ∨ c = 9 ∨ c = 10 ∨ c = 15) → -(nI (ckK c)) = encO (opc c, 0) := by decide +kernel
theorem okO_1 {j : Nat} (h : j < 9) : okO (1, nI j) := ⟨by show (1 : Nat) ≤ 5; decide, fun z => absurd z (by show ¬ (1 : Nat) = 0; decide), fun _ => ⟨j, h, rfl⟩⟩
theorem okO_0 {v : Nat} (h : v < 2 ^ 31) : okO (0, nI v) := ⟨Nat.zero_le 5, fun _ => nI_pos h, fun z => absurd z (by show ¬ (0 : Nat) = 1; decide)⟩
section P2
variable {Γ : GE} {l : Launch} {σ τ : SS} {K : Option Value → SS → Prop} {T : List Nat} {w : Nat}
theorem c_bind {c : Nat} (hc : c < 42) (hK : K (some (.int (nI (bnd c)))) σ) : C2 Γ l mX3_bindingOf [.int (nI (ckK c))] σ K := by
  obtain ⟨e1, e2, e3, e4⟩ := ck_b c hc
  refine tX3_bindingOf ?_
  rw [e1, e2, e3, e4]
  unfold bnd at hK
  refine ⟨fun q => ?_, fun q => ⟨fun q2 => ⟨fun q3 => ?_, fun q3 => ⟨fun q4 => ?_, fun q4 => ?_⟩⟩, fun q2 => ?_⟩⟩
  · rw [if_pos (Or.inl q)] at hK
    exact hK
  · rw [if_neg (by omega), if_pos (Or.inl q3)] at hK
    exact hK
  · rw [if_neg (by omega), if_neg (by omega)] at hK
    exact hK
  · rw [if_neg (by omega), if_pos (Or.inr q4)] at hK
    exact hK
  · rw [if_pos (Or.inr q2)] at hK
    exact hK
theorem c_put {ws : List Int32} {x : Int32} (hw : isW w) (h : LC σ w ws) (hl : ws.length < 401) (hK : ∀ τ, (∀ c, c ≠ w → c ≠ w + 1 → τ.1 c = σ.1 c) → τ.2 = σ.2 → LC τ w (ws ++ [x]) → K none τ) : C2 Γ l mX2_put [.ref w, .int x] σ K := by
  obtain ⟨a1, a2, a3⟩ := h
  refine tX2_put hw ?_
  rw [a2, show Int32.ofNat 401 = nI 401 from rfl, nI_leI (by omega) (by omega)]
  refine ⟨fun q => absurd q (by omega), fun _ => ⟨vp_in_nI (by omega) (by omega), fun s1 e1 s2 e2 => ?_⟩⟩
  rw [nI_clamp (by omega)] at e1
  have g2 : s1.1 w 2 = nI ws.length := by rw [e1, sI_row, sA_off2 _ _ (by omega)]; exact a2
  rw [g2, nI_1] at e2
  have r1 : s2.1 (w + 1) = upd (σ.1 (w + 1)) ws.length x := by
    rw [e2, sI_row, sA_off2 _ _ (by omega), e1, sI_row, sA_row]
  refine hK s2 (fun c c1 c2 => by rw [e2, sI_row, sA_off2 _ _ c1, e1, sI_row, sA_off2 _ _ c2]) (by rw [e2, e1]; rfl) ⟨?_, ?_, ?_⟩
  · rw [List.length_append, List.length_singleton]
    omega
  · rw [e2, sI_at, if_pos ⟨rfl, rfl⟩, List.length_append, List.length_singleton]
  · rw [r1]
    refine At_app (At_upd a3 (Or.inr (by omega))) (fun j hj => ?_)
    rw [List.length_singleton] at hj
    have : j = 0 := by omega
    subst this
    show upd (σ.1 (w + 1)) ws.length x (0 + ws.length + 0) = x
    rw [show 0 + ws.length + 0 = ws.length by omega, pk_us]
theorem c_push {base : List Int32} {ws : List Nat} {cur : Ex} {c : Nat} (hw : isW w) (h : LMw σ w base ws cur) (hl : ws.length < 24) (hK : ∀ τ, FS w σ τ → LMw τ w base (c :: ws) cur → K none τ) : C2 Γ l mX3_pushWaiting [.ref 8, .int (nI (ckK c))] σ K := by
  obtain ⟨a1, a2, a3, a4⟩ := h
  obtain ⟨w8, w8', w9, w9', -, -, -⟩ := isW_n hw
  refine tX3_pushWaiting ?_
  rw [a2, show Int32.ofNat 24 = nI 24 from rfl, nI_leI (by omega) (by omega)]
  refine ⟨fun q => absurd q (by omega), fun _ => ⟨vp_in_nI (by omega) (by omega), fun s1 e1 s2 e2 => ?_⟩⟩
  rw [nI_clamp (by omega)] at e1
  have g1 : s1.1 8 1 = nI ws.length := by rw [e1, sI_row, sA_off2 _ _ (by omega)]; exact a2
  rw [g1, nI_1] at e2
  have r9 : s2.1 9 = upd (σ.1 9) ws.length (nI (ckK c)) := by
    rw [e2, sI_row, sA_off2 _ _ (by omega), e1, sI_row, sA_row]
  have ro : ∀ b, b ≠ 8 → b ≠ 9 → s2.1 b = σ.1 b := fun b b1 b2 => by rw [e2, sI_row, sA_off2 _ _ b1, e1, sI_row, sA_off2 _ _ b2]
  have rr : s2.2 = σ.2 := by rw [e2, e1]; rfl
  refine hK s2 ⟨fun b b1 b2 _ _ => ro b b1 b2, fun j hj => by rw [e2, sI_at, if_neg (fun z => hj z.2), e1, sI_row, sA_off2 _ _ (by omega)], rr⟩ ⟨by rw [rr]; exact a1, by rw [e2, sI_at, if_pos ⟨rfl, rfl⟩, List.length_cons], ⟨by rw [r9, pk_us], by rw [r9]; exact WStk.upd' ws a3 (Nat.le_refl _)⟩, ?_⟩
  unfold LC
  rw [ro w w8.symm w9.symm, ro (w + 1) w8'.symm w9'.symm]
  exact a4
theorem c_settle_b {b : Nat} {base : List Int32} (hw : isW w) (hb : b = 1 ∨ b = 2) : ∀ (ws : List Nat) (cur : Ex) (σ : SS), wsOk ws → (∀ c, c ∈ ws → c < 42) → LMw σ w base ws cur → ws.length ≤ 24 → (base ++ cur.map encO).length + nop ws ≤ 400 → (∀ τ, FS w σ τ → LMw τ w base (stW b ws) (stE b ws cur) → K none τ) →
    (((σ.1 8 1) ≤ 0 → (K none σ)) ∧ (¬ ((σ.1 8 1) ≤ 0) → (vp_in ((σ.1 8 1) - 1) 24 ∧ (C2 Γ l mX3_bindingOf [.int (σ.1 9 (Int32.toNatClampNeg ((σ.1 8 1) - 1)))] σ (Ri fun r2_ s1_ => ((r2_ < (nI b) → (K none s1_)) ∧ (¬ (r2_ < (nI b)) → (∀ s3_ : SS, s3_ = sI s1_ 8 1 ((s1_.1 8 1) - 1) → (∃ b4_ : Nat, s3_.2.2 8 2 = b4_ ∧ isW b4_ ∧ (vp_in (s3_.1 8 1) 24 ∧ (C2 Γ l mX2_put [.ref b4_, .int (-(s3_.1 9 (Int32.toNatClampNeg (s3_.1 8 1))))] s3_ (Rv fun s5_ => (wX3_settle_0 Γ l (nI b) s5_ K))))))))))))) := by
  obtain ⟨w8, w8', w9, w9', -, -, -⟩ := isW_n hw
  intro ws
  induction ws with
  | nil =>
    intro cur σ _ _ h _ _ hK
    refine ⟨fun _ => hK σ FS.rf h, fun q => absurd ?_ q⟩
    rw [h.2.1]
    decide
  | cons c ws ih =>
    intro cur σ hok h42 h hl hn hK
    obtain ⟨a1, a2, a3, a4⟩ := id h
    rw [List.length_cons] at a2 hl
    have c42 := h42 c List.mem_cons_self
    have bc : bnd c ≤ 2 := by
      unfold bnd
      split
      · omega
      · split <;> omega
    rw [a2, nI_pred]
    refine ⟨fun q => absurd q (nI_nle (by omega) (by omega)), fun _ => ⟨vp_in_nI (by omega) (by omega), ?_⟩⟩
    rw [nI_clamp (by omega), a3.1]
    refine c_bind c42 (ri ?_)
    rw [nI_ltI (by omega) (by omega)]
    unfold stW stE at hK
    refine ⟨fun q => ?_, fun q s3 e3 => ?_⟩
    · rw [if_neg (by omega), if_neg (by omega)] at hK
      exact hK σ FS.rf h
    · rw [if_pos (by omega), if_pos (by omega)] at hK
      rw [a2, nI_pred] at e3
      have hc : isOp c := by
        rcases hok.2 with z | z
        · exfalso
          rw [z] at q
          have : bnd 6 = 0 := rfl
          omega
        · exact z.1
      have c6' := (bnd_op hc).2.2
      rw [nop, if_neg c6'] at hn
      have g1 : s3.1 8 1 = nI ws.length := by rw [e3, sI_at, if_pos ⟨rfl, rfl⟩]
      have ro : ∀ d, d ≠ 8 → s3.1 d = σ.1 d := fun d hd => by rw [e3, sI_row, sA_off2 _ _ hd]
      have rr : s3.2 = σ.2 := by rw [e3]; rfl
      have lc : LC s3 w (base ++ cur.map encO) := by
        unfold LC
        rw [ro w w8.symm, ro (w + 1) w8'.symm]
        exact a4
      refine ⟨w, by rw [rr]; exact a1, hw, by rw [g1]; exact vp_in_nI (by omega) (by omega), ?_⟩
      rw [g1, nI_clamp (by omega), ro 9 (by omega), a3.1, ck_neg c c42 hc]
      refine c_put hw lc (by omega) (fun s5 f5 r5 l5 => rv (tX3_settle_0 ?_))
      have fs : FS w σ s5 := ⟨fun d d1 d2 d3 d4 => by rw [f5 d d3 d4, ro d d1], fun j hj => by rw [f5 8 w8 w8', e3, sI_at, if_neg (fun z => hj z.2)], by rw [r5, rr]⟩
      have l5' : LC s5 w (base ++ (cur ++ [(opc c, 0)]).map encO) := by
        rw [List.map_append, ← List.append_assoc]
        exact l5
      refine ih (cur ++ [(opc c, 0)]) s5 hok.1 (fun d hd => h42 d (List.mem_cons_of_mem _ hd)) ⟨by rw [r5, rr]; exact a1, by rw [f5 8 w8 w8', g1], by rw [f5 9 w9 w9', ro 9 (by omega)]; exact a3.2, l5'⟩ (by omega) ?_ (fun τ ft lt => hK τ (fs.tr ft) lt)
      rw [List.map_append, ← List.append_assoc, List.length_append]
      show _ + 1 + _ ≤ _
      omega
theorem c_settle {b : Nat} {base : List Int32} {ws : List Nat} {cur : Ex} (hw : isW w) (hb : b = 1 ∨ b = 2) (hok : wsOk ws) (h42 : ∀ c, c ∈ ws → c < 42) (h : LMw σ w base ws cur) (hl : ws.length ≤ 24) (hn : (base ++ cur.map encO).length + nop ws ≤ 400) (hK : ∀ τ, FS w σ τ → LMw τ w base (stW b ws) (stE b ws cur) → K none τ) : C2 Γ l mX3_settle [.ref 8, .int (nI b)] σ K :=
  tX3_settle (c_settle_b hw hb ws cur σ hok h42 h hl hn hK)
theorem ws_42 : ∀ ws, wsOk ws → ∀ c, c ∈ ws → c < 42
  | [], _, c, hc => absurd hc (by simp)
  | d :: ws, ⟨h1, h2⟩, c, hc => by
    rcases List.mem_cons.mp hc with e | e
    · subst e
      rcases h2 with z | z
      · omega
      · rcases z.1 with y | y | y | y <;> omega
    · exact ws_42 ws h1 c e
/-- the maker's state -/
def LMs (σ : SS) (w ph : Nat) (wn : Bool) (op ifs : Nat) (ws : List Nat) (cur e1 e2 : Ex) (br : LawV) : Prop :=
  LMw σ w (encB 0 br ++ phW ph e1 e2) ws cur ∧ σ.1 8 3 = nI ph ∧ σ.1 8 4 = nI op ∧ σ.1 8 5 = nI ifs ∧ σ.1 8 7 = bI wn ∧ σ.1 8 8 = 0 ∧ (ph = 3 → σ.1 8 6 = nI (brN br + (e1.length + e2.length + 1)))
def FL (w : Nat) (σ τ : SS) : Prop := (∀ c, c ≠ 8 → c ≠ 9 → c ≠ w → c ≠ w + 1 → τ.1 c = σ.1 c) ∧ τ.2 = σ.2
theorem FS.fl {w : Nat} {σ τ : SS} (h : FS w σ τ) : FL w σ τ := ⟨h.1, h.2.2⟩
theorem FL.rf {w : Nat} {σ : SS} : FL w σ σ := ⟨fun _ _ _ _ _ => rfl, rfl⟩
theorem FL.tr {w : Nat} {σ τ υ : SS} (h : FL w σ τ) (g : FL w τ υ) : FL w σ υ := ⟨fun c a b d e => (g.1 c a b d e).trans (h.1 c a b d e), g.2.trans h.2⟩
theorem FL.w8 {w : Nat} {σ τ : SS} {k : Nat} {v : Int32} (h : FL w σ τ) : FL w σ (sI τ 8 k v) := ⟨fun c a b d e => by rw [sI_row, sA_off2 _ _ a]; exact h.1 c a b d e, h.2⟩
def NXT {ρ : Type} (T : List Nat) (kk : Nat → LawV → Rs ρ) (n a m w : Nat) (R : Rs ρ) (τ : SS) : Prop :=
  (∃ ph wn op ifs ws cur e1 e2 br, pPass T a (fun a' => pAut T kk n a' ph wn op ifs ws cur e1 e2 br) = R ∧ LMs τ w ph wn op ifs ws cur e1 e2 br ∧ LAi (m + 1) ph wn op ifs ws cur e1 e2 br) ∨
  (∃ br t, pPass T a (fun a' => kk a' (br ++ [(none, t)])) = R ∧ LC τ w (encL 0 (br ++ [(none, t)])) ∧ okL (br ++ [(none, t)]) ∧ τ.1 8 8 = 1 ∧ brOk br ∧ okB 15 t 0 1 ∧ brN br + t.length ≤ m)
theorem LMw.w8 {base : List Int32} {ws : List Nat} {cur : Ex} {k : Nat} {v : Int32} (hw : isW w) (h : LMw σ w base ws cur) (hk : k ≠ 1) : LMw (sI σ 8 k v) w base ws cur := by
  obtain ⟨w8, w8', w9, w9', -, -, -⟩ := isW_n hw
  obtain ⟨a1, a2, a3, a4⟩ := h
  refine ⟨a1, by rw [sI_at, if_neg (fun z => hk z.2.symm)]; exact a2, by rw [sI_row, sA_off2 _ _ (by omega)]; exact a3, ?_⟩
  unfold LC
  rw [sI_row, sA_off2 _ _ w8.symm, sA_off2 _ _ w8'.symm]
  exact a4
theorem c_leave {ph : Nat} (h3 : σ.1 8 3 = nI ph) (hp : ph ≤ 4) (hK : ∀ τ, (τ = σ ∨ τ = sI σ 8 3 4) → τ.1 8 3 = nI (ph4 ph) → K none τ) : C2 Γ l mX3_leaveStart [.ref 8] σ K := by
  refine tX3_leaveStart ?_
  rw [h3, show (0 : Int32) = nI 0 from rfl, nI_eq (by omega) (by omega)]
  unfold ph4 at hK
  refine ⟨fun q => hK σ (Or.inl rfl) (by rw [if_neg q]; exact h3), fun q s1 e1 => hK s1 (Or.inr e1) ?_⟩
  rw [if_pos q, e1, sI_at, if_pos ⟨rfl, rfl⟩]
  rfl
theorem LMw_len {base : List Int32} {ws : List Nat} {cur : Ex} : (base ++ cur.map encO).length = base.length + cur.length := by
  rw [List.length_append, List.length_map]
theorem phW4 (ph : Nat) (e1 e2 : Ex) (h : ph ≤ 4) : phW (ph4 ph) e1 e2 = phW ph e1 e2 := by
  unfold ph4
  by_cases e : ph = 0
  · subst e
    rfl
  · rw [if_neg e]
theorem ck_u : ∀ c, c < 42 → (nI (ckK c) = 110 ↔ c = 30) ∧ (nI (ckK c) = 40 ↔ c = 6) ∧ (nI (ckK c) = 3 ↔ c = 2) ∧ (nI (ckK c) < 113 ↔ c < 33) ∧ ¬ (121 : Int32) < nI (ckK c) ∧ (33 ≤ c → -1 - (nI (ckK c) - 113) = -1 - nI (c - 33)) ∧ (33 ≤ c → c - 33 < 9) := by decide +kernel
theorem c_hearUnit {ρ : Type} {kk : Nat → LawV → Rs ρ} {R : Rs ρ} {n a m ph op ifs : Nat} {ws : List Nat} {cur e1 e2 : Ex} {br : LawV} {x2 : Int32} (hw : isW w) (h : LMs σ w ph true op ifs ws cur e1 e2 br) (hi : LAi m ph true op ifs ws cur e1 e2 br) (hm : m ≤ 398) (hx2 : tkK T a = 2 → x2 = nI (tkV T a))
    (hR : pAut T kk (n + 1) a ph true op ifs ws cur e1 e2 br = R)
    (herr : ∀ s, s = 1 ∨ s = 2 → R = .error (s, tkP T a) → ∀ τ, FL w σ τ → K (some (.int (nI s))) τ)
    (hok : ∀ τ, FL w σ τ → NXT T kk n a m w R τ → tkK T a ≠ 0 → tkK T a ≠ 3 → K (some (.int 0)) τ) : C2 Γ l mX3_hearUnit [.ref 8, .int (nI (ckK (tkK T a))), .int x2] σ K := by
  obtain ⟨w8, w8', w9, w9', -, -, -⟩ := isW_n hw
  have k42 := (tk_kind T a).2.2
  obtain ⟨u1, u2, u3, u4, u5, u6, u7⟩ := ck_u _ k42
  obtain ⟨l1, l2, l3, l4, l5, l6, l7⟩ := id h
  obtain ⟨i1, i2, i3, i4, i5, i6, i7, i8, i9, i10, i11⟩ := id hi
  obtain ⟨w1, w2, w3, w4⟩ := ws_len ws i4
  have bl : (encB 0 br ++ phW ph e1 e2).length = brN br + phN ph e1 e2 := by
    rw [List.length_append, encB_len br 0 i10, phW_len]
  rw [pAut] at hR
  have err1 : R = .error (1, tkP T a) → K (some (.int 1)) σ := fun e => herr 1 (Or.inl rfl) e σ FL.rf
  -- a unit is put
  have unit : ∀ (q : Nat × Int32) (x : Int32), okO q → q.1 ≤ 1 → x = encO q → tkK T a ≠ 0 → tkK T a ≠ 3 → pPass T a (fun a' => pAut T kk n a' (ph4 ph) false op ifs ws (cur ++ [q]) e1 e2 br) = R → ∃ b, σ.2.2 8 2 = b ∧ isW b ∧ C2 Γ l mX2_put [.ref b, .int x] σ (Rv fun s10 => C2 Γ l mX3_leaveStart [.ref 8] s10 (Rv fun s12 => ∀ s14 : SS, s14 = sI s12 8 7 0 → K (some (.int 0)) s14)) := by
    intro q x ho hq hx t0 t3 hr
    refine ⟨w, l1.1, hw, c_put hw l1.2.2.2 (by rw [LMw_len (ws := ws), bl]; omega) (fun s10 f10 r10 lc => rv (c_leave (ph := ph) (by rw [f10 8 w8 w8']; exact l2) i1 (fun s12 e12 g3 => rv (fun s14 e14 => ?_))))⟩
    have lw : LMw s10 w (encB 0 br ++ phW ph e1 e2) ws (cur ++ [q]) := ⟨by rw [r10]; exact l1.1, by rw [f10 8 w8 w8']; exact l1.2.1, by rw [f10 9 w9 w9']; exact l1.2.2.1, by
      rw [List.map_append, ← List.append_assoc]
      show LC _ _ (_ ++ [encO q])
      rw [← hx]
      exact lc⟩
    have fl10 : FL w σ s10 := ⟨fun c _ _ c3 c4 => f10 c c3 c4, r10⟩
    have lw12 : LMw s12 w (encB 0 br ++ phW ph e1 e2) ws (cur ++ [q]) := by
      rcases e12 with e | e
      · rw [e]
        exact lw
      · rw [e]
        exact lw.w8 hw (by omega)
    have fl12 : FL w σ s12 := by
      rcases e12 with e | e
      · rw [e]
        exact fl10
      · rw [e]
        exact fl10.w8
    have g8 : ∀ j, j ≠ 3 → s12.1 8 j = σ.1 8 j := fun j hj => by
      rcases e12 with e | e
      · rw [e, f10 8 w8 w8']
      · rw [e, sI_at, if_neg (fun z => hj z.2), f10 8 w8 w8']
    rw [e14]
    refine hok _ fl12.w8 (Or.inl ⟨ph4 ph, false, op, ifs, ws, cur ++ [q], e1, e2, br, hr, ⟨?_, ?_, ?_, ?_, ?_, ?_, ?_⟩, LAi_unit hi ho hq⟩) t0 t3
    · rw [phW4 ph e1 e2 i1]
      exact lw12.w8 hw (by omega)
    · rw [sI_at, if_neg (by omega)]
      exact g3
    · rw [sI_at, if_neg (by omega), g8 4 (by omega)]
      exact l3
    · rw [sI_at, if_neg (by omega), g8 5 (by omega)]
      exact l4
    · rw [sI_at, if_pos ⟨rfl, rfl⟩]
      rfl
    · rw [sI_at, if_neg (by omega), g8 8 (by omega)]
      exact l6
    · intro z
      rw [sI_at, if_neg (by omega), g8 6 (by omega)]
      exact l7 (by rw [← (ph4_p ph i1).2.2.1 (Or.inr z)]; exact z)
  have rest : tkK T a ≠ 30 ∨ ph ≠ 0 → ((¬ tkK T a = 6 → ((¬ tkK T a = 2 → ((tkK T a < 33 → (K (some (.int 1)) σ)) ∧ (¬ (tkK T a < 33) → (((121 : Int32) < (nI (ckK (tkK T a))) → (K (some (.int 1)) σ)) ∧ (¬ ((121 : Int32) < (nI (ckK (tkK T a)))) → (∃ b1_ : Nat, σ.2.2 8 2 = b1_ ∧ isW b1_ ∧ (C2 Γ l mX2_codeOfVar [.int ((nI (ckK (tkK T a))) - 113)] σ (Ri fun r3_ s2_ => (C2 Γ l mX2_put [.ref b1_, .int r3_] s2_ (Rv fun s4_ => (C2 Γ l mX3_leaveStart [.ref 8] s4_ (Rv fun s6_ => (∀ s8_ : SS, s8_ = sI s6_ 8 7 0 → (K (some (.int 0)) s8_)))))))))))))) ∧ (tkK T a = 2 → (∃ b9_ : Nat, σ.2.2 8 2 = b9_ ∧ isW b9_ ∧ (C2 Γ l mX2_put [.ref b9_, .int x2] σ (Rv fun s10_ => (C2 Γ l mX3_leaveStart [.ref 8] s10_ (Rv fun s12_ => (∀ s14_ : SS, s14_ = sI s12_ 8 7 0 → (K (some (.int 0)) s14_)))))))))) ∧ (tkK T a = 6 → (C2 Γ l mX3_hearBracket [.ref 8] σ (Ri fun r16_ s15_ => (K (some (.int r16_)) s15_))))) := by
    intro hne
    rw [if_neg (by omega)] at hR
    refine ⟨fun q6 => ⟨fun q2 => ⟨fun q33 => ?_, fun q33 => ⟨fun z => absurd z u5, fun _ => ?_⟩⟩, fun q2 => ?_⟩, fun q6 => ?_⟩
    · rw [if_neg q6, if_neg q2, if_neg (by omega)] at hR
      exact err1 hR.symm
    · rw [if_neg q6, if_neg q2, if_pos (by omega)] at hR
      have k9 := u7 (by omega)
      obtain ⟨b, b1, b2, b3⟩ := unit (1, nI (tkK T a - 33)) (-1 - nI (tkK T a - 33)) (okO_1 k9) (Nat.le_refl 1) rfl (by omega) (by omega) hR
      refine ⟨b, b1, b2, tX2_codeOfVar (ri ?_)⟩
      rw [u6 (by omega)]
      exact b3
    · rw [if_neg q6, if_pos q2] at hR
      rw [hx2 q2]
      have hv := (tk_kind T a).2.1 q2
      exact unit (0, nI (tkV T a)) (nI (tkV T a)) (okO_0 (by omega)) (Nat.zero_le 1) rfl (by omega) (by omega) hR
    · rw [if_pos q6] at hR
      refine tX3_hearBracket ?_
      rw [l3, show (6 : Int32) = nI 6 from rfl, nI_eq (by omega) (by omega), nI_1]
      refine ⟨fun z s1 f1 => ?_, fun z => ri (herr 2 (Or.inr rfl) (by rw [if_pos z] at hR; exact hR.symm) σ FL.rf)⟩
      rw [if_neg z] at hR
      have lw1 : LMw s1 w (encB 0 br ++ phW ph e1 e2) ws cur := by
        rw [f1]
        exact l1.w8 hw (by omega)
      have fl1 : FL w σ s1 := by
        rw [f1]
        exact FL.rf.w8
      refine c_leave (ph := ph) (by rw [f1, sI_at, if_neg (by omega)]; exact l2) i1 (fun s2 e2' g3 => rv ?_)
      have lw2 : LMw s2 w (encB 0 br ++ phW ph e1 e2) ws cur := by
        rcases e2' with e | e
        · rw [e]
          exact lw1
        · rw [e]
          exact lw1.w8 hw (by omega)
      have fl2 : FL w σ s2 := by
        rcases e2' with e | e
        · rw [e]
          exact fl1
        · rw [e]
          exact fl1.w8
      have g8 : ∀ j, j ≠ 3 → s2.1 8 j = s1.1 8 j := fun j hj => by
        rcases e2' with e | e
        · rw [e]
        · rw [e, sI_at, if_neg (fun z => hj z.2)]
      refine c_push (c := 6) hw lw2 (by omega) (fun s4 f4 lw4 => rv (ri ?_))
      have g : ∀ j, j ≠ 1 → j ≠ 3 → j ≠ 4 → s4.1 8 j = σ.1 8 j := fun j j1 j3 j4 => by rw [f4.2.1 j j1, g8 j j3, f1, sI_at, if_neg (fun z => j4 z.2)]
      refine hok s4 (fl2.tr f4.fl) (Or.inl ⟨ph4 ph, true, op + 1, ifs, 6 :: ws, cur, e1, e2, br, hR, ⟨by rw [phW4 ph e1 e2 i1]; exact lw4, by rw [f4.2.1 3 (by omega)]; exact g3, ?_, ?_, ?_, ?_, ?_⟩, LAi_open hi z⟩) (by omega) (by omega)
      · rw [f4.2.1 4 (by omega), g8 4 (by omega), f1, sI_at, if_pos ⟨rfl, rfl⟩]
      · rw [g 5 (by omega) (by omega) (by omega)]
        exact l4
      · rw [g 7 (by omega) (by omega) (by omega)]
        exact l5
      · rw [g 8 (by omega) (by omega) (by omega)]
        exact l6
      · intro y
        rw [g 6 (by omega) (by omega) (by omega)]
        exact l7 (by rw [← (ph4_p ph i1).2.2.1 (Or.inr y)]; exact y)
  refine tX3_hearUnit ?_
  rw [u1, u2, u3, u4, l2, show (0 : Int32) = nI 0 from rfl, nI_eq (b := 0) (by omega) (by omega)]
  refine ⟨fun q => rest (Or.inl q), fun q => ⟨fun z => rest (Or.inr z), fun z => ?_⟩⟩
  rw [if_pos ⟨q, z⟩] at hR
  subst z
  refine tX3_hearIf ?_
  rw [l4, show (4 : Int32) = nI 4 from rfl, nI_eq (by omega) (by omega), nI_1]
  refine ⟨fun y s1 f1 s2 f2 => ?_, fun y => ri (herr 2 (Or.inr rfl) (by rw [if_pos y] at hR; exact hR.symm) σ FL.rf)⟩
  rw [if_neg y] at hR
  have lw2 : LMw s2 w (encB 0 br ++ phW 0 e1 e2) ws cur := by
    rw [f2, f1]
    exact (l1.w8 hw (by omega)).w8 hw (by omega)
  have g : ∀ j, j ≠ 3 → j ≠ 5 → s2.1 8 j = σ.1 8 j := fun j j3 j5 => by rw [f2, sI_at, if_neg (fun z => j3 z.2), f1, sI_at, if_neg (fun z => j5 z.2)]
  refine ri (hok s2 (by rw [f2, f1]; exact FL.rf.w8.w8) (Or.inl ⟨1, true, op, ifs + 1, ws, cur, e1, e2, br, hR, ⟨lw2, by rw [f2, sI_at, if_pos ⟨rfl, rfl⟩]; rfl, by rw [g 4 (by omega) (by omega)]; exact l3, by rw [f2, sI_at, if_neg (by omega), f1, sI_at, if_pos ⟨rfl, rfl⟩], by rw [g 7 (by omega) (by omega)]; exact l5, by rw [g 8 (by omega) (by omega)]; exact l6, fun y => absurd y (by decide)⟩, LAi_if hi y⟩) (by omega) (by omega))
end P2
