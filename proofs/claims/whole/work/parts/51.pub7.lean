/-! the class: what was told; the tape -/
theorem XS.to {σ τ : SS} {T : List Nat} {f : Int32} {P : PV} {L : LV} {H : List LV} {O : Nat → Option LV} {D D' : List (Nat × Nat × Nat)} (h : XS σ T f P L H O D) (d : Df [219, 220, 221, 222] σ τ) (h8 : τ.1 219 8 = σ.1 219 8) (ht : XTo τ D') : XS τ T f P L H O D' := by
  have no : ∀ b, (b < 219 ∨ 222 < b) → b ∉ [219, 220, 221, 222] := fun b hb hm => by
    simp at hm
    omega
  obtain ⟨p, a1, a2, a3, a4, ⟨b1, b2, ⟨nx, n1, n2, n3, n4, n5⟩, b4⟩, a6, a7, a8⟩ := h
  have hlx : ∀ {a : Nat} {M : LV}, XL σ a M → (a < 215 ∨ 222 < a) → XL τ a M := fun hm ha => hm.df d (no _ (by omega)) (no _ (by omega)) (no _ (by omega)) (no _ (by omega)) (no _ (by omega))
  refine ⟨p, ?_, a2.df d (fun b hb => ?_), hlx a3 (by omega), a4.df d (no _ (by omega)) (no _ (by omega)), ⟨fun i hi => by rw [d.2]; exact b1 i hi, fun i hi => by rw [d.2]; exact b2 i hi, ⟨nx, n1, ?_, n3, ?_, fun j hj => hlx (n5 j hj) (by omega)⟩, fun s hs => ⟨?_, fun M hM => hlx ((b4 s hs).2 M hM) (by omega)⟩⟩, ht, ?_, ⟨?_, ?_⟩⟩
  · unfold XQ
    rw [d.2]
    exact a1
  · simp at hb
    omega
  · rw [d.1 50 (no _ (by omega))]; exact n2
  · rw [d.1 50 (no _ (by omega))]; exact n4
  · rw [d.1 53 (no _ (by omega))]; exact (b4 s hs).1
  · rw [d.1 0 (no _ (by omega))]
    exact a7
  · obtain ⟨x1, x2, bw, c1, c2, c3⟩ := a8.1
    refine ⟨fun i hi => by rw [d.2]; exact x1 i hi, x2.df d (no _ (by omega)) (no _ (by omega)) (no _ (by omega)) (no _ (by omega)), bw, c1, hlx c2 (by omega), fun w w1 w2 i hi => ?_⟩
    rw [d.1 _ (no _ (by omega))]
    exact c3 w w1 w2 i hi
  · rw [h8]
    rcases a8.2 with q | ⟨w, w1, w2, w3⟩
    · exact Or.inl q
    · refine Or.inr ⟨w, w1, w2, fun g g1 g2 y hy => ?_⟩
      rw [d.2]
      exact w3 g g1 g2 y hy
theorem XS.tp {S : List Nat} {σ τ : SS} {T T' : List Nat} {f : Int32} {P : PV} {L : LV} {H : List LV} {O : Nat → Option LV} {D : List (Nat × Nat × Nat)} (h : XS σ T f P L H O D) (d : Df S σ τ) (hS : ∀ b, b ∈ S → 1 ≤ b ∧ b ≤ 5) (ht : XT τ T') : XS τ T' f P L H O D := by
  have no : ∀ b, (b = 0 ∨ 5 < b) → b ∉ S := fun b hb hm => by
    have := hS b hm
    omega
  obtain ⟨p, a1, a2, a3, a4, ⟨b1, b2, ⟨nx, n1, n2, n3, n4, n5⟩, b4⟩, a6, a7, a8⟩ := h
  have hlx : ∀ {a : Nat} {M : LV}, XL σ a M → XL τ a M := fun hm => by
    have := isL_ge hm.1
    exact hm.df d (no _ (by omega)) (no _ (by omega)) (no _ (by omega)) (no _ (by omega)) (no _ (by omega))
  have hpp := isP_or a2.1.2.1.1
  refine ⟨p, ?_, ⟨⟨?_, a2.1.2.1.df d (no _ (by omega)) (no _ (by omega)) (no _ (by omega)) (no _ (by omega)) (no _ (by omega)) (no _ (by omega)) (no _ (by omega)), a2.1.2.2⟩, a2.2.1.df d (no _ (by omega)) (no _ (by omega)), a2.2.2.1.df d (no _ (by omega)) (no _ (by omega)), a2.2.2.2.df d (no _ (by omega)) (no _ (by omega))⟩, hlx a3, ht, ⟨fun i hi => by rw [d.2]; exact b1 i hi, fun i hi => by rw [d.2]; exact b2 i hi, ⟨nx, n1, ?_, n3, ?_, fun j hj => hlx (n5 j hj)⟩, fun s hs => ⟨?_, fun M hM => hlx ((b4 s hs).2 M hM)⟩⟩, a6.df d (no _ (by omega)) (no _ (by omega)) (no _ (by omega)) (no _ (by omega)), ?_, ⟨?_, ?_⟩⟩
  · unfold XQ
    rw [d.2]
    exact a1
  · rw [d.2]
    exact a2.1.1
  · rw [d.1 50 (no _ (by omega))]; exact n2
  · rw [d.1 50 (no _ (by omega))]; exact n4
  · rw [d.1 53 (no _ (by omega))]; exact (b4 s hs).1
  · rw [d.1 0 (no _ (by omega))]
    exact a7
  · obtain ⟨x1, x2, bw, c1, c2, c3⟩ := a8.1
    refine ⟨fun i hi => by rw [d.2]; exact x1 i hi, x2.df d (no _ (by omega)) (no _ (by omega)) (no _ (by omega)) (no _ (by omega)), bw, c1, hlx c2, fun w w1 w2 i hi => ?_⟩
    rw [d.1 _ (no _ (by omega))]
    exact c3 w w1 w2 i hi
  · rw [d.1 219 (no _ (by omega))]
    rcases a8.2 with q | ⟨w, w1, w2, w3⟩
    · exact Or.inl q
    · refine Or.inr ⟨w, w1, w2, fun g g1 g2 y hy => ?_⟩
      rw [d.2]
      exact w3 g g1 g2 y hy
def vTl (P : PV) (D : List (Nat × Nat × Nat)) (x y h : Int32) : Bool := vC P x y && vIn h 99 && decide (D.length < 20)
/-- the k-th byte of a word from below -/
def byt (x : Int32) (k : Nat) : Nat := x.toBitVec.toNat / 2 ^ k % 256
def by4 (x : Int32) : List Nat := [byt x 24, byt x 16, byt x 8, byt x 0]
theorem by4_lt (x : Int32) : ∀ b, b ∈ by4 x → b < 256 := fun b hb => by
  simp [by4, byt] at hb
  omega
theorem byt_c (x : Int32) (k : Nat) (c : Int32) (hc : (c.toBitVec.toNat) = k) (hk : k < 32) : ((Int32.toUInt32 x >>> (Int32.toUInt32 c &&& Int32.toUInt32 31)).toInt32) &&& 255 = nI (byt x k) := by
  apply Int32.toBitVec_inj.mp
  apply BitVec.eq_of_toNat_eq
  have h1 : ((Int32.toUInt32 x >>> (Int32.toUInt32 c &&& Int32.toUInt32 31)).toInt32 &&& 255).toBitVec.toNat = (x.toBitVec.toNat >>> ((c.toBitVec.toNat &&& 31) % 32)) &&& 255 := rfl
  have h2 : c.toBitVec.toNat &&& 31 = k := by rw [hc]; exact (Nat.and_two_pow_sub_one_eq_mod k 5).trans (Nat.mod_eq_of_lt hk)
  rw [h1, h2, Nat.mod_eq_of_lt hk, Nat.shiftRight_eq_div_pow, show (255 : Nat) = 2 ^ 8 - 1 from rfl, Nat.and_two_pow_sub_one_eq_mod]
  show _ = byt x k % 2 ^ 32
  unfold byt
  omega
section Q8
variable {Γ : GE} {l : Launch} {σ : SS} {K : Option Value → SS → Prop} {T : List Nat} {f : Int32} {P : PV} {L : LV} {H : List LV} {O : Nat → Option LV} {D : List (Nat × Nat × Nat)} {W : Nat} {p a : Nat}
theorem q_tell {x y h : Int32} (hx : XS σ T f P L H O D)
    (hK : ∀ τ, Cl σ τ → XS τ T f P L H O (if vTl P D x y h then D ++ [(x.toNatClampNeg, y.toNatClampNeg, h.toNatClampNeg)] else D) → K (some (.int (if vTl P D x y h then nI D.length else -1))) τ) : C2 Γ l mX9_tell [.ref 0, .int x, .int y, .int h] σ K := by
  have h0 := hx
  obtain ⟨p, ⟨h1, -⟩, h2, h3, h4, h5, ⟨t1, t2, t3⟩, h7, h8⟩ := hx
  have pk := h2.1.2.2
  have w8 := pk.1
  have r6 := pk.2.1
  have hp := h2.1.2.1.1
  refine tX9_tell ⟨p, h1, hp, c_hasCell h2.1.2.1 (ri ?_)⟩
  rw [bI_0, vC_eq pk]
  have kf : vTl P D x y h = false → K (some (.int (-1))) σ := fun e => by
    have k := hK σ Cl.rf
    rw [e] at k
    exact k h0
  refine ⟨fun q => kf (by rw [vTl, q]; rfl), fun q => c_isHeight (ri ?_)⟩
  rw [bI_0]
  simp only [Bool.not_eq_false] at q
  refine ⟨fun r => kf (by rw [vTl, q, r]; rfl), fun r => ?_⟩
  simp only [Bool.not_eq_false] at r
  refine tX0_add ⟨fun u => ?_, fun u => ri (kf ?_)⟩
  · rw [t2, show (20 : Int32) = nI 20 from rfl, nI_ltI (by omega) (by omega)] at u
    have ev : vTl P D x y h = true := by rw [vTl, q, r, decide_eq_true u]; rfl
    rw [ev] at hK
    obtain ⟨X, Y, rfl, rfl, hX, hY⟩ := vC_nat q
    obtain ⟨Z, rfl, hZ⟩ := vIn_nat r
    rw [nI_clamp (by omega), nI_clamp (by omega), nI_clamp (by omega)] at hK
    simp only [if_true] at hK
    rw [t2, nI_clamp (by omega)]
    refine ⟨vp_in_nI (by omega) (by omega), fun s1 e1 => ?_⟩
    have g1 : s1.1 219 4 = nI D.length := by rw [e1, sI_at, if_neg (by omega), t2]
    rw [g1, nI_clamp (by omega)]
    refine ⟨vp_in_nI (by omega) (by omega), fun s2 e2 => ?_⟩
    have g2 : s2.1 219 4 = nI D.length := by rw [e2, sI_at, if_neg (by omega), g1]
    rw [g2, nI_clamp (by omega)]
    refine ⟨vp_in_nI (by omega) (by omega), fun s3 e3 s4 e4 => ri ?_⟩
    have g3 : s3.1 219 4 = nI D.length := by rw [e3, sI_at, if_neg (by omega), g2]
    rw [g3, nI_1] at e4
    have g4 : s4.1 219 4 = nI (D.length + 1) := by rw [e4, sI_at, if_pos ⟨rfl, rfl⟩]
    rw [g4, nI_pred]
    have d : Df [219, 220, 221, 222] σ s4 := by
      rw [e4, e3, e2, e1]
      exact (((Df.rf.wI (by simp)).wI (by simp)).wI (by simp)).wI (by simp)
    refine hK s4 (d.cl (fun b hb => by simp at hb; omega)) (h0.to d ?_ ⟨?_, ?_, fun i hi => ?_⟩)
    · rw [e4, sI_at, if_neg (by omega), e3, sI_at, if_neg (by omega), e2, sI_at, if_neg (by omega), e1, sI_at, if_neg (by omega)]
    · simp
      omega
    · rw [g4]
      simp
    · simp only [List.length_append, List.length_cons, List.length_nil] at hi
      by_cases hi2 : i = D.length
      · subst hi2
        rw [List.getElem_append_right (by omega)]
        simp only [Nat.sub_self, List.getElem_cons_zero]
        refine ⟨?_, ?_, ?_⟩
        · rw [e4, sI_at, if_neg (by omega), e3, sI_at, if_neg (by omega), e2, sI_at, if_neg (by omega), e1, sI_at, if_pos ⟨rfl, rfl⟩]
        · rw [e4, sI_at, if_neg (by omega), e3, sI_at, if_neg (by omega), e2, sI_at, if_pos ⟨rfl, rfl⟩]
        · rw [e4, sI_at, if_neg (by omega), e3, sI_at, if_pos ⟨rfl, rfl⟩]
      · have hi3 : i < D.length := by omega
        rw [List.getElem_append_left hi3]
        obtain ⟨k1, k2, k3⟩ := t3 i hi3
        refine ⟨?_, ?_, ?_⟩
        · rw [e4, sI_at, if_neg (by omega), e3, sI_at, if_neg (by omega), e2, sI_at, if_neg (by omega), e1, sI_at, if_neg (by omega)]
          exact k1
        · rw [e4, sI_at, if_neg (by omega), e3, sI_at, if_neg (by omega), e2, sI_at, if_neg (by omega), e1, sI_at, if_neg (by omega)]
          exact k2
        · rw [e4, sI_at, if_neg (by omega), e3, sI_at, if_neg (by omega), e2, sI_at, if_neg (by omega), e1, sI_at, if_neg (by omega)]
          exact k3
  · rw [t2, show (20 : Int32) = nI 20 from rfl, nI_ltI (by omega) (by omega)] at u
    rw [vTl, q, r, decide_eq_false u]
    rfl
theorem q_forget (h : XS σ T f P L H O D) (hK : ∀ τ, Cl σ τ → XS τ T f P L H O [] → K (some (.int (nI D.length))) τ) : C2 Γ l mX9_forget [.ref 0] σ K := by
  have h0 := h
  obtain ⟨p, ⟨h1, -⟩, h2, h3, h4, h5, ⟨t1, t2, t3⟩, h7, h8⟩ := h
  refine tX9_forget (fun s1 e1 => ?_)
  rw [t2]
  have d : Df [219, 220, 221, 222] σ s1 := by
    rw [e1]
    exact Df.rf.wI (by simp)
  refine hK s1 (d.cl (fun b hb => by simp at hb; omega)) (h0.to d ?_ ⟨by simp, ?_, fun i hi => absurd hi (by simp)⟩)
  · rw [e1, sI_at, if_neg (by omega)]
  · rw [e1, sI_at, if_pos ⟨rfl, rfl⟩]
    rfl
theorem q_back {n : Int32} (h : XS σ T f P L H O D) (hK : ∀ τ, Cl σ τ → XS τ (if vIn n T.length then T.take (T.length - n.toNatClampNeg) else T) f P L H O D → K (some (.int (if vIn n T.length then nI (T.length - n.toNatClampNeg) else -1))) τ) : C2 Γ l mX9_back [.ref 0, .int n] σ K := by
  have h0 := h
  obtain ⟨p, ⟨h1, -⟩, h2, h3, ⟨t1, t2, t3⟩, h5, h6, h7, h8⟩ := h
  have kf : vIn n T.length = false → K (some (.int (-1))) σ := fun e => by
    have k := hK σ Cl.rf
    rw [e] at k
    exact k h0
  refine tX9_back ⟨fun q => kf (vIn_n q), fun q => ⟨fun r s1 e1 => ?_, fun r => kf ?_⟩⟩
  · rw [t2] at r
    have v := vIn_t q r (by omega)
    rw [v] at hK
    obtain ⟨N, rfl, hN⟩ := vIn_nat v
    rw [nI_clamp (by omega)] at hK
    simp only [if_true] at hK
    rw [t2, pk_sub hN] at e1
    have g1 : s1.1 1 1 = nI (T.length - N) := by rw [e1, sI_at, if_pos ⟨rfl, rfl⟩]
    rw [g1]
    have d : Df [1] σ s1 := by rw [e1]; exact Df.rf.wI (by simp)
    refine hK s1 (d.cl (fun b hb => by simp at hb; omega)) (h0.tp d (fun b hb => by simp at hb; omega) ⟨?_, ?_, fun i hi => ?_⟩)
    · simp
      omega
    · rw [g1]
      simp
    · simp at hi
      rw [d.1 2 (by simp), t3 i (by omega)]
      simp
  · rw [t2] at r
    exact vIn_f r (by omega)
theorem q_add {x : Int32} (h : XS σ T f P L H O D) (hT : T.length + 4 ≤ 2000) (hK : ∀ τ, Cl σ τ → XS τ (T ++ by4 x) f P L H O D → K none τ) : C2 Γ l mX8_addFour [.ref 1, .int x] σ K := by
  have st : ∀ (k : Nat) (c : Int32) (T : List Nat) (σ : SS) (K : Option Value → SS → Prop), c.toBitVec.toNat = k → k < 32 → ¬ c < 0 → T.length < 2000 → XS σ T f P L H O D → (∀ τ, Cl σ τ → XS τ (T ++ [byt x k]) f P L H O D → wX8_addFour_3 Γ l x (c + (-8)) τ K) → wX8_addFour_3 Γ l x c σ K := by
    intro k c T σ K hc hk c0 hT h hK
    have h0 := h
    obtain ⟨p, h1, h2, h3, ⟨t1, t2, t3⟩, h5, h6, h7, h8⟩ := h
    refine tX8_addFour_3 ⟨fun q => absurd q c0, fun _ => ⟨fun q => absurd q ?_, fun _ => ⟨?_, fun s1 e1 s2 e2 => ?_⟩⟩⟩
    · rw [t2]
      simp (disch := omega) only [nL, nI_add, pk_mul, pk_sub, nI_clamp, nI_leI, nI_ltI, nI_eq]
      omega
    · rw [t2]
      exact vp_in_nI hT (by omega)
    · rw [t2, nI_clamp (by omega), byt_c x k c hc hk] at e1
      have g1 : s1.1 1 1 = nI T.length := by rw [e1, sI_at, if_neg (by omega), t2]
      rw [g1, nI_1] at e2
      have d : Df [1, 2] σ s2 := by rw [e2, e1]; exact (Df.rf.wI (by simp)).wI (by simp)
      refine hK s2 (d.cl (fun b hb => by simp at hb; omega)) (h0.tp d (fun b hb => by simp at hb; omega) ⟨?_, ?_, fun i hi => ?_⟩)
      · simp
        omega
      · rw [e2, sI_at, if_pos ⟨rfl, rfl⟩]
        simp
      · simp only [List.length_append, List.length_cons, List.length_nil] at hi
        rw [e2, sI_at, if_neg (by omega), e1, sI_at]
        by_cases hi2 : i = T.length
        · subst hi2
          rw [if_pos ⟨rfl, rfl⟩, List.getElem_append_right (by omega)]
          simp
        · rw [if_neg (by omega), List.getElem_append_left (by omega)]
          exact t3 i (by omega)
  refine tX8_addFour (st 24 24 T σ K rfl (by omega) (by decide) (by omega) h (fun τ1 c1 h1 => ?_))
  refine st 16 (24 + (-8)) _ τ1 K rfl (by omega) (by decide) (by simp; omega) h1 (fun τ2 c2 h2 => ?_)
  refine st 8 (24 + (-8) + (-8)) _ τ2 K rfl (by omega) (by decide) (by simp; omega) h2 (fun τ3 c3 h3 => ?_)
  refine st 0 (24 + (-8) + (-8) + (-8)) _ τ3 K rfl (by omega) (by decide) (by simp; omega) h3 (fun τ4 c4 h4 => ?_)
  refine tX8_addFour_3 ⟨fun _ => hK τ4 (((c1.tr c2).tr c3).tr c4) ?_, fun q => absurd (by decide) q⟩
  simpa [by4] using h4
def fed (a b c d e : Int32) : List Nat := by4 a ++ (by4 b ++ (by4 c ++ (by4 d ++ by4 e)))
theorem q_feed {a b c d e : Int32} (h : XS σ T f P L H O D) (hK : ∀ τ, Cl σ τ → XS τ (if T.length + 20 ≤ 2000 then T ++ fed a b c d e else T) f P L H O D → K (some (.int (if T.length + 20 ≤ 2000 then nI (T.length + 20) else -1))) τ) : C2 Γ l mX9_feed [.ref 0, .int a, .int b, .int c, .int d, .int e] σ K := by
  have h0 := h
  obtain ⟨p, ⟨h1, -⟩, h2, h3, ⟨t1, t2, t3⟩, h5, h6, h7, h8⟩ := h
  refine tX9_feed ?_
  rw [t2, show nI T.length + 20 = nI (T.length + 20) from nI_add _ 20, show (2000 : Int32) = nI 2000 from rfl, nI_leI (by omega) (by omega)]
  have l4 : ∀ x, (by4 x).length = 4 := fun x => rfl
  refine ⟨fun q => ?_, fun q => ?_⟩
  · rw [if_pos q, if_pos q] at hK
    refine q_add h0 (by omega) (fun τ1 c1 h1 => rv ?_)
    refine q_add h1 (by simp [l4]; omega) (fun τ2 c2 h2 => rv ?_)
    refine q_add h2 (by simp [l4]; omega) (fun τ3 c3 h3 => rv ?_)
    refine q_add h3 (by simp [l4]; omega) (fun τ4 c4 h4 => rv ?_)
    refine q_add h4 (by simp [l4]; omega) (fun τ5 c5 h5 => rv ?_)
    have k := hK τ5 ((((c1.tr c2).tr c3).tr c4).tr c5) (by simpa [fed] using h5)
    obtain ⟨p', -, -, -, ⟨-, t2', -⟩, -⟩ := h5
    rw [t2']
    simp only [List.length_append, l4]
    exact k
  · rw [if_neg q, if_neg q] at hK
    exact hK σ Cl.rf h0
end Q8
