/-! mowing -/
def cn (f : Nat → Bool) : Nat → Nat
  | 0 => 0
  | n + 1 => cn f n + (if f n then 1 else 0)
theorem cn_le (f : Nat → Bool) : ∀ n, cn f n ≤ n
  | 0 => Nat.le_refl _
  | n + 1 => by
    have := cn_le f n
    unfold cn
    split <;> omega
theorem cn_split (f : Nat → Bool) (m : Nat) : ∀ n, cn f (m + n) = cn f m + cn (fun k => f (m + k)) n
  | 0 => rfl
  | n + 1 => by
    have := cn_split f m n
    show cn f (m + n) + (if f (m + n) then 1 else 0) = cn f m + (cn (fun k => f (m + k)) n + (if f (m + n) then 1 else 0))
    rw [this]
    omega
theorem cn_cong {f g : Nat → Bool} : ∀ n, (∀ k, k < n → f k = g k) → cn f n = cn g n
  | 0, _ => rfl
  | n + 1, h => by
    unfold cn
    rw [cn_cong n (fun k hk => h k (by omega)), h n (by omega)]
theorem cn_zero {f : Nat → Bool} : ∀ n, (∀ k, k < n → f k = false) → cn f n = 0
  | 0, _ => rfl
  | n + 1, h => by
    unfold cn
    rw [cn_zero n (fun k hk => h k (by omega)), h n (by omega)]
    rfl
/-- counting over the class's row is counting over the lawn's cells -/
theorem cn_rows (F : Nat → Bool) (G : Nat → Bool) (hF : ∀ i, i < 80 → F i = if inb i then G (kOf i) else false) : cn F 80 = cn G 48 := by
  have key : ∀ y, y ≤ 6 → cn F (10 * (y + 1)) = cn G (8 * y) := by
    intro y
    induction y with
    | zero =>
      intro _
      refine cn_zero 10 (fun k hk => ?_)
      rw [hF k (by omega), if_neg (by simp [inb]; omega)]
    | succ y ih =>
      intro hy
      rw [show 10 * (y + 1 + 1) = 10 * (y + 1) + 10 by omega, cn_split, ih (by omega), show 8 * (y + 1) = 8 * y + 8 by omega, cn_split]
      congr 1
      have e : ∀ x, x < 8 → F (10 * (y + 1) + (x + 1)) = G (8 * y + x) := fun x hx => by
        rw [hF _ (by omega), if_pos (by simp [inb]; omega), show kOf (10 * (y + 1) + (x + 1)) = 8 * y + x by unfold kOf; omega]
      have e0 : F (10 * (y + 1) + 0) = false := by rw [hF _ (by omega), if_neg (by simp [inb])]
      have e9 : F (10 * (y + 1) + 9) = false := by rw [hF _ (by omega), if_neg (by simp [inb])]
      simp only [cn, e0, e9, e 0 (by omega), e 1 (by omega), e 2 (by omega), e 3 (by omega), e 4 (by omega), e 5 (by omega), e 6 (by omega), e 7 (by omega)]
      simp
  rw [show 80 = 70 + 10 from rfl, cn_split, key 6 (by omega), cn_zero 10 (fun k hk => by rw [hF _ (by omega), if_neg (by simp [inb]; omega)])]
  rfl
/-- all is mown to a height -/
def mwL (L : LV) (t : Nat) : LV := fun k => if k < 48 then min (L k) t else L k
theorem mwL_ok {P : PV} {L : LV} {t : Nat} (ok : LVok P L) : LVok P (mwL L t) := by
  refine ⟨fun k hk => ⟨?_, ?_⟩, fun x y hx hy hgr => ⟨?_, ?_⟩, fun w hw => ?_, ?_⟩
  · unfold mwL
    rw [if_pos hk]
    have := (ok.1 k hk).1
    omega
  · unfold mwL
    rw [if_neg (by omega)]
    exact (ok.1 k hk).2
  · unfold mwL
    rw [if_pos (by omega), (ok.2.1 x y hx hy hgr).1]
    omega
  · unfold mwL
    rw [if_neg (by omega)]
    exact (ok.2.1 x y hx hy hgr).2
  · unfold mwL
    rw [if_neg (by omega)]
    exact ok.2.2.1 w hw
  · exact ok.2.2.2
section G6
variable {Γ : GE} {l : Launch} {σ : SS} {K : Option Value → SS → Prop} {p a : Nat} {P : PV} {L : LV}
theorem c_mowTo_i {t : Nat} (hl : XL σ a L) (ok : LVok P L) (ht : t < 1000) (hK : ∀ υ, Df [a + 1] σ υ → (∀ i, i < 80 → υ.1 (a + 1) i = nI (min (cH L i) t)) → K (some (.int (nI (cn (fun i => decide (t < cH L i)) 80)))) υ) :
    ∀ n i τ, n + i = 80 → Df [a + 1] σ τ → (∀ j, j < 80 → τ.1 (a + 1) j = nI (if j < i then min (cH L j) t else cH L j)) → wX1_mowTo_5 Γ l a (nI t) (nI (cn (fun i => decide (t < cH L i)) i)) (nI i) τ K := by
  intro n
  induction n with
  | zero =>
    intro i τ h1 d hr
    have : i = 80 := by omega
    subst this
    refine tX1_mowTo_5 hl.1 ⟨fun _ => hK τ d (fun j hj => by rw [hr j hj, if_pos hj]), fun q => absurd (by decide) q⟩
  | succ n ih =>
    intro i τ h1 d hr
    have v : vp_in (nI i) 80 := vp_in_nI (by omega) (by omega)
    have hb := cH_le ok i (by omega)
    refine tX1_mowTo_5 hl.1 ⟨fun q => absurd q ?_, fun _ => ⟨v, ?_⟩⟩
    · simp (disch := omega) only [nL, nI_add, pk_mul, pk_sub, nI_clamp, nI_leI, nI_ltI, nI_eq]
      omega
    · rw [nI_clamp (by omega), hr i (by omega), if_neg (by omega), nI_leI (by omega) (by omega), nI_1, nI_1]
      have ih := fun τ => ih (i + 1) τ (by omega)
      refine ⟨fun q => ?_, fun q => ⟨v, fun s1 e1 => ?_⟩⟩
      · have := ih τ d (fun j hj => ?_)
        · have e : cn (fun i => decide (t < cH L i)) (i + 1) = cn (fun i => decide (t < cH L i)) i := by
            show _ + (if decide (t < cH L i) then 1 else 0) = _
            rw [if_neg (by simp; omega)]
            rfl
          rw [e] at this
          exact this
        · rw [hr j hj]
          by_cases hji : j = i
          · rw [if_neg (by omega), if_pos (by omega), hji]
            congr 1
            omega
          · by_cases hlt : j < i
            · rw [if_pos hlt, if_pos (by omega)]
            · rw [if_neg hlt, if_neg (by omega)]
      · have e : cn (fun i => decide (t < cH L i)) (i + 1) = cn (fun i => decide (t < cH L i)) i + 1 := by
          show _ + (if decide (t < cH L i) then 1 else 0) = _
          rw [if_pos (by simp; omega)]
        have := ih s1 (by rw [e1]; exact d.wI (by simp)) (fun j hj => ?_)
        · rw [e] at this
          exact this
        · rw [e1, sI_at]
          by_cases hji : j = i
          · rw [if_pos ⟨rfl, hji⟩, if_pos (by omega), hji]
            congr 1
            omega
          · rw [if_neg (fun z => hji z.2), hr j hj]
            by_cases hlt : j < i
            · rw [if_pos hlt, if_pos (by omega)]
            · rw [if_neg hlt, if_neg (by omega)]
theorem c_mowTo {t : Nat} (hl : XL σ a L) (ok : LVok P L) (ht : t < 1000) (hK : ∀ υ, Df [a + 1] σ υ → XL υ a (mwL L t) → K (some (.int (nI (cn (fun k => decide (t < L k)) 48)))) υ) : C2 Γ l mX1_mowTo [.ref 46, .ref a, .int (nI t)] σ K := by
  refine tX1_mowTo hl.1 (c_mowTo_i (P := P) hl ok ht (fun υ d hr => ?_) 80 0 σ (by omega) Df.rf (fun j hj => by rw [if_neg (by omega)]; exact hl.2.1 j hj))
  have e : cn (fun i => decide (t < cH L i)) 80 = cn (fun k => decide (t < L k)) 48 := by
    refine cn_rows _ _ (fun i hi => ?_)
    unfold cH
    by_cases hb : inb i = true <;> simp [hb]
  rw [e]
  have n1 : ∀ k, k ≠ 1 → k < 5 → a + k ∉ [a + 1] := fun k h1 h2 => by simp; omega
  refine hK υ d ⟨hl.1, fun i hi => ?_, fun i hi => ?_, fun w hw => ?_, fun s hs => ?_, ?_, ?_⟩
  · rw [hr i hi]
    congr 1
    unfold cH
    by_cases hb : inb i = true
    · simp only [hb, if_true, mwL]
      simp only [inb, decide_eq_true_eq] at hb
      rw [if_pos (by unfold kOf; omega)]
    · simp [hb]
  · rw [d.1 _ (n1 2 (by omega) (by omega)), hl.2.2.1 i hi]
    congr 1
    unfold cF
    by_cases hb : inb i = true
    · simp only [hb, if_true, mwL]
      rw [if_neg (by omega)]
    · simp [hb]
  · rw [d.1 _ (n1 3 (by omega) (by omega)), hl.2.2.2.1 w hw]
    unfold mwL
    rw [if_neg (by omega)]
  · rw [d.1 _ (n1 4 (by omega) (by omega)), hl.2.2.2.2.1 s hs]
    unfold mwL
    rw [if_neg (by omega)]
  · rw [d.1 a (n1 0 (by omega) (by omega))]
    exact hl.2.2.2.2.2.1
  · rw [d.1 a (n1 0 (by omega) (by omega))]
    exact hl.2.2.2.2.2.2
end G6
