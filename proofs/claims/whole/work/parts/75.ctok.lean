/-! the class: its tokens -/
theorem wdc_c : ∀ i : Fin 132, (Int32.toUInt32 (((strB.getD 1 []).getD i.val 0) &&& 255) % 65536).toInt32 = (strB.getD 1 []).getD i.val 0 := by decide +kernel
theorem wdc_n : ∀ i : Fin 132, ((strB.getD 1 []).getD i.val 0).toUInt32.toUInt16.toUInt32.toInt32 = (strB.getD 1 []).getD i.val 0 := by decide +kernel
def kw (w : Nat) : List Nat := kwI.getD w []
def padL (l : List Nat) (i : Nat) : Nat := if i < l.length then l.getD i 0 + 96 else 32
theorem wdc_p : ∀ w : Fin 22, ∀ i : Fin 6, (strB.getD 1 []).getD (w.val * 6 + i.val) 0 = nI (padL (kw w.val) i.val) := by decide +kernel
theorem kw_ok : ∀ w : Fin 22, (kw w.val).length ≤ 6 ∧ ∀ c, c ∈ kw w.val → 1 ≤ c ∧ c ≤ 26 := by decide +kernel
theorem pad_eq {a b : List Nat} (ha : a.length ≤ 6) (hb : b.length ≤ 6) (oa : lOk a) (ob : lOk b) (h : ∀ i, i < 6 → padL a i = padL b i) : a = b := by
  have gg : ∀ (l : List Nat) i (hi : i < l.length), l.getD i 0 = l[i] := fun l i hi => by
    rw [List.getD_eq_getElem?_getD, List.getElem?_eq_getElem hi]
    rfl
  have hlen : a.length = b.length := by
    rcases Nat.lt_trichotomy a.length b.length with h1 | h1 | h1
    · have := h a.length (by omega)
      unfold padL at this
      rw [if_neg (by omega), if_pos h1, gg b _ h1] at this
      have := ob _ (List.getElem_mem h1)
      omega
    · exact h1
    · have := h b.length (by omega)
      unfold padL at this
      rw [if_pos h1, if_neg (by omega), gg a _ h1] at this
      have := oa _ (List.getElem_mem h1)
      omega
  refine List.ext_getElem hlen (fun i h1 h2 => ?_)
  have := h i (by omega)
  unfold padL at this
  rw [if_pos h1, if_pos h2, gg a i h1, gg b i h2] at this
  omega
theorem pad_lt {l : List Nat} (ol : lOk l) (i : Nat) : padL l i < 200 := by
  unfold padL
  split
  · rename_i h
    rw [List.getD_eq_getElem?_getD, List.getElem?_eq_getElem h]
    have := ol _ (List.getElem_mem h)
    show l[i] + 96 < 200
    omega
  · omega
/-- only the token that is being found has changed -/
def FN (σ τ : SS) : Prop := (∀ b, b ≠ 1 → τ.1 b = σ.1 b) ∧ τ.1 1 1 = σ.1 1 1 ∧ (∀ b, b ≠ 1 → τ.2.1 b = σ.2.1 b) ∧ τ.2.2 = σ.2.2
theorem FN.rf {σ : SS} : FN σ σ := ⟨fun _ _ => rfl, rfl, fun _ _ => rfl, rfl⟩
theorem FN.tr {σ τ υ : SS} (h : FN σ τ) (g : FN τ υ) : FN σ υ := ⟨fun b hb => (g.1 b hb).trans (h.1 b hb), g.2.1.trans h.2.1, fun b hb => (g.2.2.1 b hb).trans (h.2.2.1 b hb), g.2.2.2.trans h.2.2.2⟩
theorem FN.wI {σ τ : SS} {k : Nat} {v : Int32} (h : FN σ τ) (hk : k ≠ 1) : FN σ (sI τ 1 k v) :=
  ⟨fun b hb => by rw [sI_row, sA_off2 _ _ hb]; exact h.1 b hb, by rw [sI_at, if_neg (fun z => hk z.2.symm)]; exact h.2.1, h.2.2.1, h.2.2.2⟩
theorem sJ_1 (σ : SS) (b k : Nat) (v : Int64) : (sJ σ b k v).1 = σ.1 := rfl
theorem sJ_3 (σ : SS) (b k : Nat) (v : Int64) : (sJ σ b k v).2.2 = σ.2.2 := rfl
theorem FN.wJ {σ τ : SS} {k : Nat} {v : Int64} (h : FN σ τ) : FN σ (sJ τ 1 k v) :=
  ⟨h.1, h.2.1, fun b hb => by
    have : (sJ τ 1 k v).2.1 b = τ.2.1 b := by
      funext j
      rw [sJ_at, if_neg (fun z => hb z.1)]
    rw [this]
    exact h.2.2.1 b hb, h.2.2.2⟩
theorem XT.fn {σ τ : SS} {T : List Nat} (h : XT σ T) (d : FN σ τ) : XT τ T := by
  unfold XT
  rw [d.2.1, d.1 2 (by omega)]
  exact h
/-- the token found -/
def FT1 (T : List Nat) (τ : SS) (t : Tok) : Prop := τ.1 1 6 = nI t.2.2.2.2 ∧ τ.1 1 7 = nI (ckK t.1) ∧ τ.1 1 8 = nI t.2.1 ∧ (t.1 = 2 → τ.1 1 9 = nI t.2.2.1) ∧ (t.1 = 1 → τ.2.1 1 10 = lN (nmC t.2.2.2.1))
section N1
variable {Γ : GE} {l : Launch} {σ τ : SS} {K : Option Value → SS → Prop} {T : List Nat}
theorem c_charAt {i : Nat} (hi : i < 132) (hK : K (some (.int ((strB.getD 1 []).getD i 0))) σ) : C2 Γ l mJ0_charAt_5068e [.float 1, .int (nI i)] σ K := by
  have hc := wdc_c ⟨i, hi⟩
  have hn := wdc_n ⟨i, hi⟩
  have nn : narrow .char (.int ((strB.getD 1 []).getD i 0)) = .int ((strB.getD 1 []).getD i 0) := by
    show Value.int _ = _
    rw [hn]
  have lt : nI i < 132 := nI_lt (b := 132) hi (by omega)
  refine tJ0_charAt_5068e (tJ0_isLatin1_aae02 (by decide) (ri ⟨fun q => absurd q (by decide), fun _ => tJ1_charAt_3b067 (tJ0_checkIndex_df160 ⟨?_, ?_⟩)⟩))
  · refine tJ3_checkIndexN ⟨fun q => absurd q (nI_pos (by omega)), fun _ => ⟨fun _ => ri (rv ⟨vp_in_nI hi (by omega), ?_⟩), fun q => absurd lt q⟩⟩
    rw [nI_clamp (by omega), hc]
    exact ⟨nn, ri ⟨nn, hK⟩⟩
  · refine tJ3_checkIndexF ⟨fun q => absurd q (nI_pos (by omega)), fun _ => ⟨fun _ => ri (rv ⟨vp_in_nI hi (by omega), ?_⟩), fun q => absurd lt q⟩⟩
    rw [nI_clamp (by omega), hc]
    exact ⟨nn, ri ⟨nn, hK⟩⟩
theorem sg_8 : ∀ c : Fin 256, ∀ j : Fin 9, ((strB.getD 0 []).getD j.val 0 = (Int32.toInt8 ((Int32.toUInt32 (nI c.val) % 65536).toInt32)).toInt32) ↔ (strB.getD 0 []).getD j.val 0 = nI c.val := by decide +kernel
theorem sg_k : ∀ c : Fin 256, (sgK c.val = 3 ↔ ∀ j : Fin 9, ¬ (strB.getD 0 []).getD j.val 0 = nI c.val) ∧ (sgK c.val ≠ 3 → ckK (sgK c.val) = c.val) := by decide +kernel
theorem sg_c : ∀ c : Fin 256, ¬ (Int32.toUInt32 (nI c.val) % 65536).toInt32 < 0 ∧ ¬ (255 : Int32) < (Int32.toUInt32 (nI c.val) % 65536).toInt32 := by decide +kernel
theorem c_signs {c : Nat} (hc : c < 256) (hK : ∀ r : Int32, (r < 0 ↔ sgK c = 3) → K (some (.int r)) σ) : C2 Γ l mJ0_indexOf_0f7a4 [.float 0, .int ((Int32.toUInt32 (nI c) % 65536).toInt32)] σ K := by
  obtain ⟨c0, c1⟩ := sg_c ⟨c, hc⟩
  have h8 := sg_8 ⟨c, hc⟩
  have hk := (sg_k ⟨c, hc⟩).1
  refine tJ0_indexOf_0f7a4 (tJ0_indexOf_7cf53 (tJ0_isLatin1_aae02 (by decide) (ri ⟨fun q => absurd q (by decide), fun _ => tJ0_length_8abf5 (tJ0_coder_7d493 (by decide) ⟨rfl, ri (ri ?_)⟩)⟩)))
  refine tJ1_indexOf_4cfef (tJ1_canEncode_9a6ad ⟨fun q => absurd q c0, fun _ => ⟨fun q => absurd q c1, fun _ => ri ⟨fun _ => ⟨fun _ => tJ1_indexOfChar_4cfef ?_, fun q => absurd (by decide) q⟩, fun q => absurd q (by decide)⟩⟩⟩)
  rw [show imn (9 >>> ((0 : Int32) &&& 31)) 9 = nI 9 from by decide, show imx 0 0 = nI 0 from by decide]
  have key : ∀ m j, m + j = 9 → (∀ i, i < j → ¬ (strB.getD 0 []).getD i 0 = nI c) → wJ1_indexOfChar_4cfef_7 Γ l (nI 9) ((Int32.toInt8 ((Int32.toUInt32 (nI c) % 65536).toInt32)).toInt32) (nI j) σ (Ri fun r4_ s3_ => (Ri fun r8_ s7_ => (Ri fun r2_ s1_ => K (some (.int r2_)) s1_) (some (.int r8_)) s7_) (some (.int r4_)) s3_) := by
    intro m
    induction m with
    | zero =>
      intro j h1 h2
      have : j = 9 := by omega
      subst this
      refine tJ1_indexOfChar_4cfef_7 ⟨fun _ => ri (ri (ri (hK _ ⟨fun _ => hk.mpr (fun i => h2 i.val i.isLt), fun _ => by decide⟩))), fun q => absurd (Int32.le_refl _) q⟩
    | succ m ih =>
      intro j h1 h2
      refine tJ1_indexOfChar_4cfef_7 ⟨fun q => absurd q (by simp (disch := omega) only [nL, nI_add, pk_mul, pk_sub, nI_clamp, nI_leI, nI_ltI, nI_eq]; omega), fun _ => ⟨vp_in_nI (by omega) (by omega), ?_⟩⟩
      rw [nI_clamp (by omega), h8 ⟨j, by omega⟩, nI_1]
      refine ⟨fun q => ih (j + 1) (by omega) (fun i hi => ?_), fun q => ri (ri (ri (hK _ ⟨fun z => absurd z (nI_pos (by omega)), fun z => absurd q (hk.mp z ⟨j, by omega⟩)⟩)))⟩
      by_cases e : i = j
      · rw [e]
        exact q
      · exact h2 i (by omega)
  exact key 9 0 rfl (fun i hi => absurd hi (by omega))
theorem c_letter {a : List Nat} {i : Nat} (oa : lOk a) (la : a.length ≤ 8) (hi : i ≤ 8) (hK : K (some (.int (nI (a.getD i 0)))) σ) : C2 Γ l mX8_letter [.long (lN (nmC a)), .int (nI i)] σ K := by
  refine tX8_letter ?_
  have hb : nmC a < 32 ^ 8 := Nat.lt_of_lt_of_le (nmC_lt a oa) (Nat.pow_le_pow_right (by decide) la)
  have hb2 : (32 : Nat) ^ 8 = 1099511627776 := by decide
  have e5 : (5 : Int32) * nI i = nI (5 * i) := by simp (disch := omega) only [nL, nI_add, pk_mul, pk_sub, nI_clamp, nI_leI, nI_ltI, nI_eq]
  have hs : (((nI (5 * i)).toInt64 &&& 63).toBitVec.smod 64).toNat = 5 * i := by
    have : ∀ j : Fin 64, (((nI j.val).toInt64 &&& 63).toBitVec.smod 64).toNat = j.val := by decide +kernel
    exact this ⟨5 * i, by omega⟩
  have hd : nmC a / 2 ^ (5 * i) < 2 ^ 62 := Nat.lt_of_le_of_lt (Nat.div_le_self _ _) (by omega)
  rw [e5, pf_shr hs (by omega), show (31 : Int64) = lN (2 ^ 5 - 1) from rfl, wb_mask (k := 5) (by omega) (by omega), lN_i, Nat.pow_mul, show (2 : Nat) ^ 5 = 32 from rfl, nmC_dig a i oa]
  exact hK
theorem getD_pos {a : List Nat} (oa : lOk a) {i : Nat} (hi : i < a.length) : 1 ≤ a.getD i 0 ∧ a.getD i 0 ≤ 26 := by
  rw [List.getD_eq_getElem?_getD, List.getElem?_eq_getElem hi]
  exact oa _ (List.getElem_mem hi)
theorem getD_out {a : List Nat} {i : Nat} (hi : a.length ≤ i) : a.getD i 0 = 0 := by
  rw [List.getD_eq_getElem?_getD, List.getElem?_eq_none hi]
  rfl
theorem c_letters {a : List Nat} (oa : lOk a) (la : a.length ≤ 8) (hK : K (some (.int (nI a.length))) σ) : C2 Γ l mX8_letters [.long (lN (nmC a))] σ K := by
  have key : ∀ m j, m + j = a.length → wX8_letters_2 Γ l (lN (nmC a)) (nI j) σ K := by
    intro m
    induction m with
    | zero =>
      intro j h1
      have : j = a.length := by omega
      subst this
      refine tX8_letters_2 ⟨fun _ => hK, fun _ => c_letter oa la la (ri ?_)⟩
      rw [getD_out (Nat.le_refl _)]
      exact ⟨fun _ => hK, fun q => absurd rfl q⟩
    | succ m ih =>
      intro j h1
      have g := getD_pos oa (i := j) (by omega)
      refine tX8_letters_2 ⟨fun q => absurd q (by simp (disch := omega) only [nL, nI_add, pk_mul, pk_sub, nI_clamp, nI_leI, nI_ltI, nI_eq]; omega), fun _ => c_letter oa la (by omega) (ri ⟨fun q => absurd q (nI_ne0 (by omega) (by omega)), fun _ => ?_⟩)⟩
      rw [nI_1]
      exact ih (j + 1) (by omega)
  exact tX8_letters (key a.length 0 rfl)
theorem c_isWord {a : List Nat} {w : Nat} (hn : σ.2.1 1 10 = lN (nmC a)) (oa : lOk a) (la : a.length ≤ 8) (hw : w < 22) (hK : K (some (.int (bI (decide (kw w = a))))) σ) : C2 Γ l mX8_isWord [.ref 1, .int (nI w), .int (nI a.length)] σ K := by
  obtain ⟨k1, k2⟩ := kw_ok ⟨w, hw⟩
  refine tX8_isWord ?_
  rw [show (6 : Int32) = nI 6 from rfl, nI_leI (by omega) (by omega)]
  refine ⟨fun q => ?_, fun q => ?_⟩
  · have key : ∀ m i, m + i = 6 → (∀ j, j < i → padL (kw w) j = padL a j) → wX8_isWord_10 Γ l (nI w) (nI a.length) (nI i) σ K := by
      intro m
      induction m with
      | zero =>
        intro i h1 h2
        have : i = 6 := by omega
        subst this
        refine tX8_isWord_10 ⟨fun _ => ?_, fun q => absurd (by decide) q⟩
        rw [decide_eq_true (pad_eq k1 q k2 oa h2)] at hK
        exact hK
      | succ m ih =>
        intro i h1 h2
        have hp := wdc_p ⟨w, hw⟩ ⟨i, by omega⟩
        have hp' : (strB.getD 1 []).getD (w * 6 + i) 0 = nI (padL (kw w) i) := hp
        have e6 : nI w * 6 + nI i = nI (w * 6 + i) := by
          rw [show (6 : Int32) = nI 6 from rfl]
          simp (disch := omega) only [nL, nI_add, pk_mul, pk_sub, nI_clamp, nI_leI, nI_ltI, nI_eq]
        have b1 := pad_lt (l := kw w) k2 i
        have next : padL (kw w) i = padL a i → wX8_isWord_10 Γ l (nI w) (nI a.length) (nI (i + 1)) σ K := fun e => ih (i + 1) (by omega) (fun j hj => by
          by_cases ej : j = i
          · rw [ej]
            exact e
          · exact h2 j (by omega))
        have no : padL (kw w) i ≠ padL a i → K (some (.int 0)) σ := fun e => by
          rw [decide_eq_false (fun z => e (by rw [z]))] at hK
          exact hK
        refine tX8_isWord_10 ⟨fun q => absurd q (by simp (disch := omega) only [nL, nI_add, pk_mul, pk_sub, nI_clamp, nI_leI, nI_ltI, nI_eq]; omega), fun _ => ?_⟩
        rw [nI_leI (by omega) (by omega), e6, hn, nI_1]
        refine ⟨fun z => c_charAt (by omega) (ri ?_), fun z => c_letter oa la (by omega) (ri (c_charAt (by omega) (ri ?_)))⟩
        · have pa : padL a i = 32 := by
            unfold padL
            rw [if_neg (by omega)]
          rw [hp', show (32 : Int32) = nI 32 from rfl, nI_eq (by omega) (by omega)]
          exact ⟨fun e => next (by rw [pa]; exact e), fun e => no (by rw [pa]; exact e)⟩
        · have g := getD_pos oa (i := i) (by omega)
          have pa : padL a i = a.getD i 0 + 96 := by
            unfold padL
            rw [if_pos (by omega)]
          have ee : nI (a.getD i 0) + 97 - 1 = nI (a.getD i 0 + 96) := by
            rw [show (97 : Int32) = nI 97 from rfl, nI_add, show a.getD i 0 + 97 = (a.getD i 0 + 96) + 1 by omega, nI_pred]
          rw [hp', ee, nI_eq (by omega) (by omega)]
          exact ⟨fun e => next (by rw [pa]; exact e), fun e => no (by rw [pa]; exact e)⟩
    exact key 6 0 rfl (fun j hj => absurd hj (by omega))
  · rw [decide_eq_false (fun z => q (by rw [← z]; exact k1))] at hK
    exact hK
theorem kw_drop : ∀ w : Fin 22, kwI.drop w.val = kw w.val :: kwI.drop (w.val + 1) := by decide +kernel
theorem ckK_w : ∀ w, w < 22 → ckK (20 + w) = 100 + w := by decide
theorem c_kindOfWord {a : List Nat} (hn : σ.2.1 1 10 = lN (nmC a)) (oa : lOk a) (la : a.length ≤ 8) (hK : K (some (.int (nI (ckK (wdK a))))) σ) : C2 Γ l mX8_kindOfWord [.ref 1, .int (nI a.length)] σ K := by
  have key : ∀ m w, m + w = 22 → K (some (.int (nI (ckK (wdF (kwI.drop w) (20 + w) a))))) σ → wX8_kindOfWord_2 Γ l (nI a.length) (nI w) σ K := by
    intro m
    induction m with
    | zero =>
      intro w h1 hk
      have : w = 22 := by omega
      subst this
      exact tX8_kindOfWord_2 ⟨fun _ => hk, fun q => absurd (by decide) q⟩
    | succ m ih =>
      intro w h1 hk
      rw [kw_drop ⟨w, by omega⟩, wdF] at hk
      refine tX8_kindOfWord_2 ⟨fun q => absurd q (by simp (disch := omega) only [nL, nI_add, pk_mul, pk_sub, nI_clamp, nI_leI, nI_ltI, nI_eq]; omega), fun _ => c_isWord hn oa la (by omega) (ri ?_)⟩
      rw [bI_0, nI_1]
      refine ⟨fun q => ih (w + 1) (by omega) ?_, fun q => ?_⟩
      · simp only [decide_eq_false_iff_not] at q
        rw [if_neg q] at hk
        exact hk
      · simp only [Bool.not_eq_false, decide_eq_true_eq] at q
        rw [if_pos q, ckK_w w (by omega)] at hk
        rw [show (100 : Int32) + nI w = nI (100 + w) by simp (disch := omega) only [nL, nI_add, pk_mul, pk_sub, nI_clamp, nI_leI, nI_ltI, nI_eq]]
        exact hk
  exact tX8_kindOfWord (key 22 0 rfl hK)
end N1
