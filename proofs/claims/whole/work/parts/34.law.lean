/-! laws: what an expression is worth, and the class's code of it -/
def opS (k : Nat) (a b : Int32) : Int32 := if k = 2 then a + b else if k = 3 then a - b else if k = 4 then a * b else a / b
/-- none: something is divided by 0 -/
def evE (vs : Nat → Int32) : Ex → List Int32 → Option (List Int32)
  | [], st => some st
  | (k, v) :: es, st => if k = 0 then evE vs es (v :: st) else if k = 1 then evE vs es (vs v.toNatClampNeg :: st) else
    match st with
    | b :: a :: st => if k = 5 ∧ b = 0 then none else evE vs es (opS k a b :: st)
    | _ => none
def evT (vs : Nat → Int32) (t : Ex) : Int32 := match evE vs t [] with
  | some (w :: _) => w
  | _ => 0
def evL (vs : Nat → Int32) : LawV → Int32
  | [] => 0
  | (none, t) :: _ => evT vs t
  | (some (e1, e2), t) :: bs => match evE vs e1 [], evE vs e2 [] with
    | some (u :: _), some (v :: _) => if u < v then evT vs t else evL vs bs
    | _, _ => 0
/-- an expression that needs no more than what lies on the stack, and no more than 20 places -/
def okO (q : Nat × Int32) : Prop := q.1 ≤ 5 ∧ (q.1 = 0 → ¬ q.2 < 0) ∧ (q.1 = 1 → ∃ j, j < 9 ∧ q.2 = nI j)
def okE : Ex → Nat → Nat → Prop
  | [], d, r => d = r
  | q :: es, d, r => okO q ∧ (if q.1 ≤ 1 then d < 20 ∧ okE es (d + 1) r else 2 ≤ d ∧ okE es (d - 1) r)
def okL : LawV → Prop
  | [] => False
  | (none, t) :: bs => bs = [] ∧ okE t 0 1
  | (some (e1, e2), t) :: bs => okE e1 0 1 ∧ okE e2 0 1 ∧ okE e2 1 2 ∧ okE t 0 1 ∧ okL bs
def encO (q : Nat × Int32) : Int32 := if q.1 = 0 then q.2 else if q.1 = 1 then -1 - q.2 else if q.1 = 2 then -43 else if q.1 = 3 then -45 else if q.1 = 4 then -42 else -47
def encL : Nat → LawV → List Int32
  | _, [] => []
  | _, (none, t) :: _ => t.map encO ++ [-100]
  | o, (some (e1, e2), t) :: bs => e1.map encO ++ (e2.map encO ++ ([-101, nI (o + (e1.length + e2.length + t.length + 3))] ++ (t.map encO ++ ([-100] ++ encL (o + (e1.length + e2.length + t.length + 3)) bs))))
/-- words that stand in a row from a place on -/
def At (cd : Nat → Int32) (i : Nat) (ws : List Int32) : Prop := ∀ j (h : j < ws.length), cd (i + j) = ws[j]
theorem At.head {cd : Nat → Int32} {i : Nat} {w : Int32} {ws : List Int32} (h : At cd i (w :: ws)) : cd i = w := h 0 (Nat.zero_lt_succ _)
theorem At.tail {cd : Nat → Int32} {i : Nat} {w : Int32} {ws : List Int32} (h : At cd i (w :: ws)) : At cd (i + 1) ws := fun j hj => by
  have := h (j + 1) (Nat.succ_lt_succ hj)
  rw [show i + 1 + j = i + (j + 1) by omega]
  exact this
theorem At.left {cd : Nat → Int32} {i : Nat} {a b : List Int32} (h : At cd i (a ++ b)) : At cd i a := fun j hj => by
  rw [h j (by rw [List.length_append]; omega), List.getElem_append_left hj]
theorem At.right {cd : Nat → Int32} {i : Nat} {a b : List Int32} (h : At cd i (a ++ b)) : At cd (i + a.length) b := fun j hj => by
  rw [show i + a.length + j = i + (a.length + j) by omega, h (a.length + j) (by rw [List.length_append]; omega), List.getElem_append_right (by omega)]
  simp
/-- a law of the class -/
def XW (σ : SS) (a : Nat) (V : LawV) : Prop := isW a ∧ okL V ∧ (encL 0 V).length ≤ 401 ∧ σ.1 a 2 = nI (encL 0 V).length ∧ At (σ.1 (a + 1)) 0 (encL 0 V)
/-- the stack's row -/
def Stk (f : Nat → Int32) : List Int32 → Prop
  | [] => True
  | v :: st => f st.length = v ∧ Stk f st
theorem Stk.upd {f : Nat → Int32} {st : List Int32} {k : Nat} {v : Int32} (h : Stk f st) (hk : st.length ≤ k) : Stk (upd f k v) st := by
  induction st with
  | nil => trivial
  | cons w st ih =>
    rw [List.length_cons] at hk
    exact ⟨by rw [pk_un (by omega)]; exact h.1, ih h.2 (by omega)⟩
theorem sI_sA (σ : SS) (b : Nat) (f : Nat → Int32) (k : Nat) (v : Int32) : sI (sA σ b f) b k v = sA σ b (upd f k v) := by
  unfold sI sA u2
  refine Prod.ext (funext fun c => ?_) rfl
  by_cases h : c = b <;> simp [h]
theorem sA_row (σ : SS) (b : Nat) (f : Nat → Int32) : (sA σ b f).1 b = f := by simp [sA]
theorem sA_off2 (σ : SS) {b c : Nat} (f : Nat → Int32) (h : c ≠ b) : (sA σ b f).1 c = σ.1 c := by simp [sA, h]
theorem sA_self (σ : SS) (b : Nat) : sA σ b (σ.1 b) = σ := by
  unfold sA
  refine Prod.ext (funext fun c => ?_) rfl
  by_cases h : c = b
  · subst h; simp
  · simp [h]
theorem nI_s2 (n : Nat) : nI (n + 1 + 1) - 2 = nI n := by
  have := pk_sub (a := n + 1 + 1) (b := 2) (by omega)
  rw [show n + 1 + 1 - 2 = n by omega] at this
  exact this
theorem vw9 : ∀ j, j < 9 → ¬ ((-1 : Int32) - nI j < -9) ∧ ((-1 : Int32) - nI j < 0) ∧ (-1 : Int32) - ((-1) - nI j) = nI j := by decide
section W1
variable {Γ : GE} {l : Launch} {σ : SS} {K : Option Value → SS → Prop} {a a1 n1 : Nat}
theorem c_joined {k : Nat} {v x y : Int32} (hk : 2 ≤ k) (hk5 : k ≤ 5) (hz : ¬ (k = 5 ∧ y = 0)) (hK : K (some (.int (opS k x y))) σ) : C2 Γ l mX2_joined [.int (encO (k, v)), .int x, .int y] σ K := by
  refine tX2_joined ?_
  have h : k = 2 ∨ k = 3 ∨ k = 4 ∨ k = 5 := by omega
  rcases h with rfl | rfl | rfl | rfl
  · exact ⟨fun q => absurd q (by simp [encO]), fun _ => hK, fun q => absurd q (by simp [encO]), fun _ q => absurd (by simp [encO]) q⟩
  · exact ⟨fun q => absurd q (by simp [encO]), fun q => absurd q (by simp [encO]), fun _ => hK, fun _ _ q => absurd (by simp [encO]) q⟩
  · exact ⟨fun _ => hK, fun q => absurd q (by simp [encO]), fun q => absurd q (by simp [encO]), fun q => absurd (by simp [encO]) q⟩
  · have hy : ¬ y = 0 := fun e => hz ⟨rfl, e⟩
    exact ⟨fun q => absurd q (by simp [encO]), fun q => absurd q (by simp [encO]), fun q => absurd q (by simp [encO]), fun _ _ _ => ⟨fun _ => ⟨hy, hK⟩, fun q => absurd q hy⟩⟩
theorem encO_op {k : Nat} {v : Int32} (hk : 2 ≤ k) (hk5 : k ≤ 5) : encO (k, v) < -9 ∧ ¬ encO (k, v) = -100 ∧ ¬ encO (k, v) = -101 ∧ (encO (k, v) = -47 ↔ k = 5) := by
  have h : k = 2 ∨ k = 3 ∨ k = 4 ∨ k = 5 := by omega
  rcases h with rfl | rfl | rfl | rfl
  · rw [show encO (2, v) = -43 from rfl]; decide
  · rw [show encO (3, v) = -45 from rfl]; decide
  · rw [show encO (4, v) = -42 from rfl]; decide
  · rw [show encO (5, v) = -47 from rfl]; decide
theorem c_worth_e {V : LawV} (hw : XW σ a V) (h1 : shA a1 = some (.int, n1)) (hn : 9 ≤ n1) (hn2 : n1 < 2 ^ 31) (ha1 : a1 ≠ a + 2) :
    ∀ (e : Ex) (i : Nat) (st : List Int32) (r : Nat) (f : Nat → Int32), At (σ.1 (a + 1)) i (e.map encO) → i + e.length < (encL 0 V).length → okE e st.length r → st.length ≤ 20 → Stk f st →
      (evE (σ.1 a1) e st = none → ∀ f, K (some (.int 0)) (sA σ (a + 2) f)) →
      (∀ st' f', evE (σ.1 a1) e st = some st' → st'.length = r → Stk f' st' → wX2_worth_4 Γ l a a1 n1 (nI st'.length) (nI (i + e.length)) (sA σ (a + 2) f') K) →
      wX2_worth_4 Γ l a a1 n1 (nI st.length) (nI i) (sA σ (a + 2) f) K := by
  obtain ⟨hW, -, h401, hlen, -⟩ := hw
  intro e
  induction e with
  | nil =>
    intro i st r f hA hi hok hl hs h0 hk
    exact hk st f rfl hok hs
  | cons q es ih =>
    intro i st r f hA hi hok hl hs h0 hk
    obtain ⟨k, v⟩ := q
    obtain ⟨⟨o1, o2, o3⟩, ho⟩ := hok
    have hA0 : σ.1 (a + 1) i = encO (k, v) := At.head hA
    have hA1 : At (σ.1 (a + 1)) (i + 1) (es.map encO) := At.tail hA
    rw [List.length_cons] at hi
    have hrow : (sA σ (a + 2) f).1 (a + 1) (Int32.toNatClampNeg (nI i)) = encO (k, v) := by
      rw [nI_clamp (by omega), sA_off2 σ f (by omega)]
      exact hA0
    have go : ∀ (st2 : List Int32) (f2 : Nat → Int32), okE es st2.length r → st2.length ≤ 20 → Stk f2 st2 → evE (σ.1 a1) ((k, v) :: es) st = evE (σ.1 a1) es st2 → wX2_worth_201 Γ l a a1 n1 (nI st2.length) (nI i) (sA σ (a + 2) f2) K := by
      intro st2 f2 g1 g2 g3 g4
      refine tX2_worth_201 hW h1 ?_
      rw [nI_1]
      refine ih (i + 1) st2 r f2 hA1 (by omega) g1 g2 g3 (fun z => h0 (g4.trans z)) (fun st' f' z1 z2 z3 => ?_)
      have := hk st' f' (g4.trans z1) z2 z3
      rw [List.length_cons, show i + (es.length + 1) = i + 1 + es.length by omega] at this
      exact this
    refine tX2_worth_4 hW h1 ⟨fun q => absurd q ?_, fun _ => ⟨vp_in_nI (by omega) (by omega), ?_⟩⟩
    · rw [sA_off2 σ f (by omega), hlen]
      simp (disch := omega) only [nL, nI_add, pk_mul, pk_sub, nI_clamp, nI_leI, nI_ltI, nI_eq]
      omega
    · rw [hrow]
      by_cases hk1 : k ≤ 1
      · rw [if_pos hk1] at ho
        obtain ⟨hd, hoe⟩ := ho
        have hlt : nI st.length < Int32.ofNat 20 := nI_lt hd (by decide)
        have hvn : vp_in (nI st.length) 20 := vp_in_nI hd (by decide)
        have hk01 : k = 0 ∨ k = 1 := by omega
        rcases hk01 with rfl | rfl
        · have hv : ¬ v < 0 := o2 rfl
          have e0 : encO (0, v) = v := rfl
          rw [e0]
          refine ⟨fun q => absurd q (by intro z; exact hv (Int32.lt_trans z (by decide))), fun _ => ⟨fun _ => ⟨fun q => absurd q hv, fun _ => ⟨hvn, fun s2 es2 => ?_⟩⟩, fun q => absurd hlt q⟩⟩
          rw [es2, nI_clamp (by omega), sI_sA, nI_1]
          exact go (v :: st) _ hoe (by rw [List.length_cons]; omega) ⟨pk_us, hs.upd (Nat.le_refl _)⟩ (by simp [evE])
        · obtain ⟨j, hj, rfl⟩ := o3 rfl
          obtain ⟨g1, g2, g3⟩ := vw9 j hj
          have e0 : encO (1, nI j) = -1 - nI j := rfl
          rw [e0]
          refine ⟨fun q => absurd q g1, fun _ => ⟨fun _ => ⟨fun _ => ⟨?_, hvn, fun s2 es2 => ?_⟩, fun q => absurd g2 q⟩, fun q => absurd hlt q⟩⟩
          · rw [g3]
            exact vp_in_nI (by omega) hn2
          · rw [es2, g3, nI_clamp (by omega), nI_clamp (by omega), sA_off2 σ f ha1, sI_sA, nI_1]
            exact go (σ.1 a1 j :: st) _ hoe (by rw [List.length_cons]; omega) ⟨pk_us, hs.upd (Nat.le_refl _)⟩ (by simp [evE, nI_clamp (show j < 2 ^ 31 by omega)])
      · rw [if_neg hk1] at ho
        obtain ⟨hd, hoe⟩ := ho
        obtain ⟨g1, g2, g3, g4⟩ := encO_op (v := v) (show 2 ≤ k by omega) o1
        match st, hd, hoe, hl, hs, h0, hk, go with
        | y :: x :: st, hd, hoe, hl, hs, h0, hk, go =>
          simp only [List.length_cons] at hl hoe ⊢
          obtain ⟨s1, s2, s3⟩ := hs
          rw [List.length_cons] at s1
          have e2 : nI (st.length + 1 + 1) - 2 = nI st.length := nI_s2 _
          have e1 : nI (st.length + 1 + 1) - 1 = nI (st.length + 1) := nI_pred _
          have hev : evE (σ.1 a1) ((k, v) :: es) (y :: x :: st) = if k = 5 ∧ y = 0 then none else evE (σ.1 a1) es (opS k x y :: st) := by
            simp only [evE]
            rw [if_neg (by omega), if_neg (by omega)]
          refine ⟨fun _ => ⟨fun _ => ⟨fun _ => ?_, fun q => absurd ?_ q⟩, fun q => absurd q g2⟩, fun q => absurd g1 q⟩
          · rw [e1, e2, nI_clamp (show st.length < 2 ^ 31 by omega), nI_clamp (show st.length + 1 < 2 ^ 31 by omega), sA_row, s1, s2]
            have hjn : ¬ (k = 5 ∧ y = 0) → wX2_worth_181 Γ l a a1 n1 (nI (st.length + 1 + 1)) (nI i) (encO (k, v)) x y (sA σ (a + 2) f) K := by
              intro hz
              refine tX2_worth_181 hW h1 (c_joined (show 2 ≤ k by omega) o1 hz (ri ⟨?_, fun s3_ es3 => ?_⟩))
              · rw [pk_m1, nI_pred]
                exact vp_in_nI (by omega) (by omega)
              · rw [es3, pk_m1, nI_pred, nI_clamp (by omega), sI_sA]
                refine go (opS k x y :: st) _ (by simpa using hoe) (by rw [List.length_cons]; omega) ⟨pk_us, s3.upd (Nat.le_refl _)⟩ ?_
                rw [hev, if_neg hz]
            refine ⟨vp_in_nI (by omega) (by omega), vp_in_nI (by omega) (by omega), fun _ => ⟨fun q => hjn (fun z => q (g4.mpr z.1)), fun q => ⟨fun z => hjn (fun w => z w.2), fun z => ?_⟩⟩, fun q => absurd q g3⟩
            exact h0 (by rw [hev, if_pos ⟨g4.mp q, z⟩]) f
          · simp (disch := omega) only [nL, nI_add, pk_mul, pk_sub, nI_clamp, nI_leI, nI_ltI, nI_eq]
            omega
end W1
