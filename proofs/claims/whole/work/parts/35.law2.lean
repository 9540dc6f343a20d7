/-! a whole law of the class -/
theorem evE_base (vs : Nat → Int32) : ∀ (e : Ex) (st : List Int32) (r : Nat) (base : List Int32), okE e st.length r → evE vs e (st ++ base) = (evE vs e st).map (fun s => s ++ base)
  | [], st, r, base, _ => rfl
  | (k, v) :: es, st, r, base, h => by
    obtain ⟨⟨o1, -, -⟩, ho⟩ := h
    by_cases hk1 : k ≤ 1
    · rw [if_pos hk1] at ho
      have hk01 : k = 0 ∨ k = 1 := by omega
      rcases hk01 with rfl | rfl
      · have := evE_base vs es (v :: st) r base ho.2
        simpa [evE] using this
      · have := evE_base vs es (vs v.toNatClampNeg :: st) r base ho.2
        simpa [evE] using this
    · rw [if_neg hk1] at ho
      obtain ⟨hd, hoe⟩ := ho
      match st, hd, hoe with
      | y :: x :: st, hd, hoe =>
        have hk0 : ¬ k = 0 := by omega
        have hk2 : ¬ k = 1 := by omega
        have := evE_base vs es (opS k x y :: st) r base (by simpa using hoe)
        simp only [evE, List.cons_append, if_neg hk0, if_neg hk2]
        by_cases hz : k = 5 ∧ y = 0
        · rw [if_pos hz, if_pos hz]; rfl
        · rw [if_neg hz, if_neg hz]
          exact this
section W2
variable {Γ : GE} {l : Launch} {σ : SS} {K : Option Value → SS → Prop} {a a1 n1 : Nat}
theorem c_worth_ret {V : LawV} {i : Nat} {w : Int32} {f : Nat → Int32} (hw : XW σ a V) (h1 : shA a1 = some (.int, n1)) (hi : i < (encL 0 V).length) (hA : σ.1 (a + 1) i = -100) (hs : f 0 = w) (hK : K (some (.int w)) (sA σ (a + 2) f)) :
    wX2_worth_4 Γ l a a1 n1 (nI 1) (nI i) (sA σ (a + 2) f) K := by
  obtain ⟨hW, -, h401, hlen, -⟩ := hw
  have hrow : (sA σ (a + 2) f).1 (a + 1) (Int32.toNatClampNeg (nI i)) = -100 := by
    rw [nI_clamp (by omega), sA_off2 σ f (by omega)]
    exact hA
  refine tX2_worth_4 hW h1 ⟨fun q => absurd q ?_, fun _ => ⟨vp_in_nI (by omega) (by omega), ?_⟩⟩
  · rw [sA_off2 σ f (by omega), hlen]
    simp (disch := omega) only [nL, nI_add, pk_mul, pk_sub, nI_clamp, nI_leI, nI_ltI, nI_eq]
    omega
  · rw [hrow]
    refine ⟨fun _ => ⟨fun q => absurd rfl q, fun _ => ⟨fun q => absurd q (by decide), fun _ => ⟨vp_in_nI (n := 0) (by decide) (by decide), ?_⟩⟩⟩, fun q => absurd (by decide) q⟩
    rw [show nI 1 - 1 = nI 0 from rfl, nI_clamp (by decide), sA_row, hs]
    exact hK
theorem c_worth_t {V : LawV} {t : Ex} {i : Nat} {f : Nat → Int32} (hw : XW σ a V) (h1 : shA a1 = some (.int, n1)) (hn : 9 ≤ n1) (hn2 : n1 < 2 ^ 31) (ha1 : a1 ≠ a + 2) (hA : At (σ.1 (a + 1)) i (t.map encO ++ [-100])) (hi : i + t.length < (encL 0 V).length) (ok : okE t 0 1) (hK : ∀ f, K (some (.int (evT (σ.1 a1) t))) (sA σ (a + 2) f)) :
    wX2_worth_4 Γ l a a1 n1 (nI 0) (nI i) (sA σ (a + 2) f) K := by
  refine c_worth_e (V := V) hw h1 hn hn2 ha1 t i [] 1 f hA.left hi ok (by decide) trivial (fun z f => ?_) (fun st' f' z1 z2 z3 => ?_)
  · have := hK f
    rw [evT, z] at this
    exact this
  · match st', z2, z1, z3 with
    | [w], _, z1, z3 =>
      have hA2 := hA.right.head
      rw [List.length_map] at hA2
      refine c_worth_ret hw h1 hi hA2 z3.1 ?_
      have := hK f'
      rw [evT, z1] at this
      exact this
theorem c_worth_L {VV : LawV} (hw : XW σ a VV) (h1 : shA a1 = some (.int, n1)) (hn : 9 ≤ n1) (hn2 : n1 < 2 ^ 31) (ha1 : a1 ≠ a + 2) :
    ∀ (V : LawV) (o : Nat) (f : Nat → Int32), okL V → At (σ.1 (a + 1)) o (encL o V) → o + (encL o V).length = (encL 0 VV).length → (∀ f, K (some (.int (evL (σ.1 a1) V))) (sA σ (a + 2) f)) → wX2_worth_4 Γ l a a1 n1 (nI 0) (nI o) (sA σ (a + 2) f) K
  | [], o, f, ok, _, _, _ => ok.elim
  | (none, t) :: bs, o, f, ok, hA, hN, hK => by
    obtain ⟨rfl, ok⟩ := ok
    simp only [encL, List.length_append, List.length_map, List.length_cons, List.length_nil] at hN
    exact c_worth_t hw h1 hn hn2 ha1 hA (by omega) ok hK
  | (some (e1, e2), t) :: bs, o, f, ok, hA, hN, hK => by
    obtain ⟨ok1, ok2, ok3, ok4, ok5⟩ := ok
    have h401 := hw.2.2.1
    have hlen := hw.2.2.2.1
    generalize hn0 : o + (e1.length + e2.length + t.length + 3) = n0
    simp only [encL, hn0, List.length_append, List.length_map, List.length_cons, List.length_nil] at hN
    simp only [encL, hn0] at hA
    have hA2 := hA.right
    rw [List.length_map] at hA2
    have hA3 := hA2.right
    rw [List.length_map] at hA3
    have hw1 : σ.1 (a + 1) (o + e1.length + e2.length) = -101 := hA3.left.head
    have hw2 : σ.1 (a + 1) (o + e1.length + e2.length + 1) = nI n0 := hA3.left.tail.head
    have hA4 := hA3.right
    rw [show o + e1.length + e2.length + [-101, nI n0].length = o + e1.length + e2.length + 2 from rfl] at hA4
    have hAt : At (σ.1 (a + 1)) (o + e1.length + e2.length + 2) (t.map encO ++ [-100]) := by
      have := hA4
      rw [← List.append_assoc] at this
      exact this.left
    have hAb : At (σ.1 (a + 1)) n0 (encL n0 bs) := by
      have := hA4
      rw [← List.append_assoc] at this
      have := this.right
      rw [List.length_append, List.length_map, show o + e1.length + e2.length + 2 + (t.length + [(-100 : Int32)].length) = n0 by rw [← hn0]; simp; omega] at this
      exact this
    refine c_worth_e (V := VV) hw h1 hn hn2 ha1 e1 o [] 1 f hA.left (by omega) ok1 (by decide) trivial (fun z f => ?_) (fun st1 f1 z1 z2 z3 => ?_)
    · have := hK f
      rw [evL, z] at this
      exact this
    · match st1, z2, z1, z3 with
      | [u], _, z1, z3 =>
        refine c_worth_e (V := VV) hw h1 hn hn2 ha1 e2 (o + e1.length) [u] 2 f1 hA2.left (by omega) ok3 (Nat.le_of_ble_eq_true rfl) z3 (fun y f => ?_) (fun st2 f2 y1 y2 y3 => ?_)
        · have hb := evE_base (σ.1 a1) e2 [] 1 [u] ok2
          rw [List.nil_append, y] at hb
          have := hK f
          cases hq : evE (σ.1 a1) e2 [] with
          | none =>
            rw [evL, z1, hq] at this
            exact this
          | some s => rw [hq] at hb; cases hb
        · have hb := evE_base (σ.1 a1) e2 [] 1 [u] ok2
          rw [List.nil_append, y1] at hb
          cases hq : evE (σ.1 a1) e2 [] with
          | none => rw [hq] at hb; cases hb
          | some s =>
            rw [hq] at hb
            have hb : st2 = s ++ [u] := Option.some.inj hb
            have hsl : s.length = 1 := by
              rw [hb, List.length_append] at y2
              simp at y2
              exact y2
            match s, hsl, hq, hb with
            | [v], _, hq, hb =>
              subst hb
              obtain ⟨y4, y5, -⟩ := y3
              have hev : evL (σ.1 a1) ((some (e1, e2), t) :: bs) = if u < v then evT (σ.1 a1) t else evL (σ.1 a1) bs := by rw [evL, z1, hq]
              have hrow : (sA σ (a + 2) f2).1 (a + 1) (Int32.toNatClampNeg (nI (o + e1.length + e2.length))) = -101 := by
                rw [nI_clamp (by omega), sA_off2 σ f2 (by omega)]
                exact hw1
              have hrow2 : (sA σ (a + 2) f2).1 (a + 1) (Int32.toNatClampNeg (nI (o + e1.length + e2.length + 1))) = nI n0 := by
                rw [nI_clamp (by omega), sA_off2 σ f2 (by omega)]
                exact hw2
              have hlen2 : (sA σ (a + 2) f2).1 a 2 = nI (encL 0 VV).length := by rw [sA_off2 σ f2 (by omega)]; exact hlen
              show wX2_worth_4 Γ l a a1 n1 (nI 2) (nI (o + e1.length + e2.length)) (sA σ (a + 2) f2) K
              refine tX2_worth_4 hw.1 h1 ⟨fun q => absurd q ?_, fun _ => ⟨vp_in_nI (by omega) (by omega), ?_⟩⟩
              · rw [hlen2]
                simp (disch := omega) only [nL, nI_add, pk_mul, pk_sub, nI_clamp, nI_leI, nI_ltI, nI_eq]
                omega
              · rw [hrow, show nI 2 - 2 = nI 0 from rfl, show nI 2 - 1 = nI 1 from rfl, show nI 2 + (-2) = nI 0 from rfl, nI_1, hrow2, hlen2, nI_clamp (show 0 < 2 ^ 31 by decide), nI_clamp (show 1 < 2 ^ 31 by decide), sA_row]
                rw [show f2 0 = u from y5, show f2 1 = v from y4]
                refine ⟨fun _ => ⟨fun _ => ⟨fun _ => ⟨vp_in_nI (by decide) (by decide), vp_in_nI (by decide) (by decide), fun q => absurd rfl q, fun _ => ⟨fun q => ?_, fun q => ⟨fun z => absurd z ?_, fun _ => ⟨vp_in_nI (by omega) (by omega), fun z => absurd z ?_, fun _ => ⟨vp_in_nI (by omega) (by omega), ?_⟩⟩⟩⟩⟩, fun q => absurd (by decide) q⟩, fun q => absurd q (by decide)⟩, fun q => absurd (by decide) q⟩
                · refine tX2_worth_201 hw.1 h1 ?_
                  rw [nI_1]
                  refine c_worth_t hw h1 hn hn2 ha1 hAt (by omega) ok4 (fun f => ?_)
                  have := hK f
                  rw [hev, if_pos q] at this
                  exact this
                · simp (disch := omega) only [nL, nI_add, pk_mul, pk_sub, nI_clamp, nI_leI, nI_ltI, nI_eq]
                  omega
                · simp (disch := omega) only [nL, nI_add, pk_mul, pk_sub, nI_clamp, nI_leI, nI_ltI, nI_eq]
                  omega
                · refine tX2_worth_201 hw.1 h1 ?_
                  rw [show nI n0 - 1 + 1 = nI n0 by rw [show n0 = (n0 - 1) + 1 by omega, nI_pred, nI_1]]
                  refine c_worth_L hw h1 hn hn2 ha1 bs n0 f2 ok5 hAb (by omega) (fun f => ?_)
                  have := hK f
                  rw [hev, if_neg q] at this
                  exact this
theorem c_worth {V : LawV} (hw : XW σ a V) (h1 : shA a1 = some (.int, n1)) (hn : 9 ≤ n1) (hn2 : n1 < 2 ^ 31) (ha1 : a1 ≠ a + 2) (hK : ∀ f, K (some (.int (evL (σ.1 a1) V))) (sA σ (a + 2) f)) : C2 Γ l mX2_worth [.ref a, .ref a1] σ K := by
  refine tX2_worth hw.1 h1 ?_
  have := c_worth_L (Γ := Γ) (l := l) (K := K) hw h1 hn hn2 ha1 V 0 (σ.1 (a + 2)) hw.2.1 hw.2.2.2.2 (by omega) hK
  rw [sA_self] at this
  exact this
end W2
