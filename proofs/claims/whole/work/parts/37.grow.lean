/-! the gardener: rain, growth, food, fines -/
def mixS (h v : Int32) : Int32 := (((h ^^^ v) * 1103515245) + 12345) ^^^ ((Int32.toUInt32 (((h ^^^ v) * 1103515245) + 12345) >>> (Int32.toUInt32 15 &&& Int32.toUInt32 31)).toInt32)
def hlfS (h : Int32) : Int32 := (Int32.toUInt32 h >>> (Int32.toUInt32 1 &&& Int32.toUInt32 31)).toInt32
/-- how much it rains in a week, by a seed -/
def wetS (P : PV) (seed week : Int32) : Int32 := if nI (pro P) ≤ hlfS (mixS (mixS seed 97) (4 * week)) - hlfS (mixS (mixS seed 97) (4 * week)) / 100 * 100 then 0 else nI (prm P)
def hldS (v lo hi : Int32) : Int32 := imx lo (imn hi v)
def ownV (P : PV) (L : LV) (x y k : Nat) : Int32 := match k with
  | 0 => nI (L (8 * y + x))
  | 1 => psun P x y
  | 2 => nI (L 104)
  | 4 => nI (L (48 + (8 * y + x)))
  | 5 => nI x
  | 6 => nI y
  | _ => 0
def nbS (L : LV) (x y : Nat) : Nat := max (max (cH L ((y + 1) * 10 + x)) (cH L ((y + 1) * 10 + x + 2))) (max (cH L (y * 10 + x + 1)) (cH L ((y + 2) * 10 + x + 1)))
def grV (P : PV) (L : LV) (x y : Nat) (wet : Int32) (k : Nat) : Int32 := if k = 3 then wet else if k = 7 then nI (nbS L x y) else ownV P L x y k
/-- by how much a cell grows -/
def grS (P : PV) (L : LV) (x y : Nat) (wet : Int32) : Int32 := hldS (evL (grV P L x y wet) (plw P 0)) (-9) 9
section G3
variable {Γ : GE} {l : Launch} {σ : SS} {K : Option Value → SS → Prop} {p a : Nat} {P : PV} {L : LV}
theorem c_mixed {x y : Int32} (hK : K (some (.int (mixS x y))) σ) : C2 Γ l mX1_mixed [.int x, .int y] σ K := tX1_mixed hK
theorem c_rainIn {week seed : Int32} (hg : XG σ p P) (hK : K (some (.int (wetS P seed week))) σ) : C2 Γ l mX1_rainIn [.ref 46, .int week, .int seed] σ K := by
  refine tX1_rainIn (tX1_lot (c_mixed (ri (c_mixed (ri ⟨fun q => absurd q (by decide), fun _ => ⟨by decide, ri ⟨p, hg.1, hg.2.1.1, ?_⟩⟩⟩)))))
  rw [hg.2.1.2.2.2.2.2.2.2.1]
  unfold wetS hlfS at hK
  refine ⟨fun q => ?_, fun q => ⟨p, hg.1, hg.2.1.1, ?_⟩⟩
  · rw [if_pos q] at hK
    exact hK
  · rw [if_neg q] at hK
    rw [hg.2.1.2.2.2.2.2.2.2.2.1]
    exact hK
theorem c_held {v lo hi : Int32} (hK : K (some (.int (hldS v lo hi))) σ) : C2 Γ l mX9_held [.int v, .int lo, .int hi] σ K := tX9_held hK
theorem tN_lit {n : Nat} (h : n < 2 ^ 31) : Int32.toNatClampNeg (OfNat.ofNat n) = n := nI_clamp h
theorem vp9 : ∀ n, n < 9 → vp_in (nI n) 9 := fun n h => vp_in_nI h (by decide)
theorem c_setOwn {x y : Nat} (hg : XG σ p P) (hl : XL σ a L) (hx : x < pw P) (hy : y < pr P) (hK : ∀ f, (∀ k, k < 9 → f k = ownV P L x y k) → K none (sA σ 47 f)) : C2 Γ l mX1_setOwn [.ref 46, .ref a, .int (nI x), .int (nI y)] σ K := by
  have w8 := hg.2.2.1
  have r6 := hg.2.2.2.1
  have ha := isL_ge hl.1
  have hp := isP_or hg.2.1.1
  have v : vp_in (nI ((y + 1) * 10 + x + 1)) 80 := vp_in_nI (by omega) (by omega)
  refine tX1_setOwn hl.1 (c_indexOf (ri ⟨v, vp9 0 (by decide), fun s3 e3 => ⟨p, by rw [e3]; exact hg.1, hg.2.1.1, v, vp9 1 (by decide), fun s5 e5 => ⟨vp9 2 (by decide), fun s6 e6 => ⟨vp9 3 (by decide), fun s7 e7 => ⟨v, vp9 4 (by decide), fun s8 e8 => ⟨vp9 5 (by decide), fun s9 e9 => ⟨vp9 6 (by decide), fun s10 e10 => ⟨vp9 7 (by decide), fun s11 e11 => ⟨vp9 8 (by decide), fun s12 e12 => ?_⟩⟩⟩⟩⟩⟩⟩⟩⟩))
  have t0 : Int32.toNatClampNeg 0 = 0 := rfl
  have t1 : Int32.toNatClampNeg 1 = 1 := rfl
  have t2 : Int32.toNatClampNeg 2 = 2 := rfl
  have t3 : Int32.toNatClampNeg 3 = 3 := rfl
  have t4 : Int32.toNatClampNeg 4 = 4 := rfl
  have t5 : Int32.toNatClampNeg 5 = 5 := rfl
  have t6 : Int32.toNatClampNeg 6 = 6 := rfl
  have t7 : Int32.toNatClampNeg 7 = 7 := rfl
  have t8 : Int32.toNatClampNeg 8 = 8 := rfl
  rw [nI_clamp (by omega)] at e3 e5 e8
  rw [t0, sI_row, XL_hi hl (by omega) (by omega)] at e3
  have q3 : ∀ c, c ≠ 47 → s3.1 c = σ.1 c := fun c hc => by rw [e3, sA_off2 _ _ hc]
  rw [t1, q3 _ (by omega), hg.2.1.2.2.2.2.2.2.2.2.2.2.1 _ (by omega), cSu_at P hx hy hg.2.2, e3, sI_sA] at e5
  have q5 : ∀ c, c ≠ 47 → s5.1 c = σ.1 c := fun c hc => by rw [e5, sA_off2 _ _ hc]
  rw [t2, q5 _ (by omega), hl.2.2.2.2.2.1, e5, sI_sA] at e6
  rw [t3, e6, sI_sA] at e7
  have q7 : ∀ c, c ≠ 47 → s7.1 c = σ.1 c := fun c hc => by rw [e7, sA_off2 _ _ hc]
  rw [t4, q7 _ (by omega), XL_fo hl (by omega) (by omega), e7, sI_sA] at e8
  rw [t5, e8, sI_sA] at e9
  rw [t6, e9, sI_sA] at e10
  rw [t7, e10, sI_sA] at e11
  rw [t8, e11, sI_sA] at e12
  rw [e12]
  refine hK _ (fun k hk => ?_)
  match k, hk with
  | 0, _ => rfl
  | 1, _ => rfl
  | 2, _ => rfl
  | 3, _ => rfl
  | 4, _ => rfl
  | 5, _ => rfl
  | 6, _ => rfl
  | 7, _ => rfl
  | 8, _ => rfl
  | k + 9, h => omega
theorem cH_le (ok : LVok P L) (i : Nat) (hi : i < 80) : cH L i ≤ 99 := by
  unfold cH
  split
  · rename_i h
    simp only [inb, decide_eq_true_eq] at h
    exact (ok.1 _ (by unfold kOf; omega)).1
  · exact Nat.zero_le _
theorem imx4 {a b c d : Nat} (ha : a ≤ 99) (hb : b ≤ 99) (hc : c ≤ 99) (hd : d ≤ 99) : imx (imx (nI a) (nI b)) (imx (nI c) (nI d)) = nI (max (max a b) (max c d)) := by
  rw [imx_n (by omega) (by omega), imx_n (by omega) (by omega), imx_n (by omega) (by omega)]
theorem c_growth {x y : Nat} {wet : Int32} (hg : XGL σ p P) (hl : XL σ a L) (ok : LVok P L) (hx : x < pw P) (hy : y < pr P) (hK : ∀ τ, Df [47, p + 11] σ τ → K (some (.int (grS P L x y wet))) τ) : C2 Γ l mX1_growth [.ref 46, .ref a, .int (nI x), .int (nI y), .int wet] σ K := by
  have w8 := hg.1.2.2.1
  have r6 := hg.1.2.2.2.1
  have ha := isL_ge hl.1
  have hp := isP_or hg.1.2.1.1
  refine tX1_growth hl.1 (c_indexOf (ri (c_setOwn hg.1 hl hx hy (fun f hf => rv ⟨vp9 3 (by decide), fun s5 e5 => ?_⟩))))
  have i1 : nI ((y + 1) * 10 + x + 1) - 1 = nI ((y + 1) * 10 + x) := nI_pred _
  have i2 : nI ((y + 1) * 10 + x + 1) + 1 = nI ((y + 1) * 10 + x + 2) := nI_1 _
  have i3 : nI ((y + 1) * 10 + x + 1) - 10 = nI (y * 10 + x + 1) := by
    have := pk_sub (a := (y + 1) * 10 + x + 1) (b := 10) (by omega)
    rw [show (y + 1) * 10 + x + 1 - 10 = y * 10 + x + 1 by omega] at this
    exact this
  have i4 : nI ((y + 1) * 10 + x + 1) + 10 = nI ((y + 2) * 10 + x + 1) := by
    have := nI_add ((y + 1) * 10 + x + 1) 10
    rw [show (y + 1) * 10 + x + 1 + 10 = (y + 2) * 10 + x + 1 by omega] at this
    exact this
  rw [i1, i2, i3, i4]
  refine ⟨vp_in_nI (by omega) (by omega), vp_in_nI (by omega) (by omega), vp_in_nI (by omega) (by omega), vp_in_nI (by omega) (by omega), vp9 7 (by decide), fun s6 e6 => ?_⟩
  rw [show Int32.toNatClampNeg 3 = 3 from rfl, sI_sA] at e5
  have q5 : ∀ c, c ≠ 47 → s5.1 c = σ.1 c := fun c hc => by rw [e5, sA_off2 _ _ hc]
  rw [nI_clamp (by omega), nI_clamp (by omega), nI_clamp (by omega), nI_clamp (by omega), q5 _ (by omega), hl.2.1 _ (by omega), hl.2.1 _ (by omega), hl.2.1 _ (by omega), hl.2.1 _ (by omega), imx4 (cH_le ok _ (by omega)) (cH_le ok _ (by omega)) (cH_le ok _ (by omega)) (cH_le ok _ (by omega)), show Int32.toNatClampNeg 7 = 7 from rfl, e5, sI_sA] at e6
  have d6 : Df [47] σ s6 := by rw [e6]; exact Df.rf.wA (by simp)
  have o6 : offP [47] := fun b hb => by simp at hb; omega
  have hg6 := hg.df d6 o6
  have hrow : s6.1 47 = upd (upd f 3 wet) 7 (nI (nbS L x y)) := by rw [e6, sA_row]; rfl
  refine ⟨p, hg6.1.1, hg6.1.2.1.1, c_worth hg6.2.1 A47 (by decide) (by decide) (by omega) (fun f2 => ri (c_held (ri ?_)))⟩
  rw [hrow]
  have hev : evL (upd (upd f 3 wet) 7 (nI (nbS L x y))) (plw P 0) = evL (grV P L x y wet) (plw P 0) := by
    refine evL_cong (fun k hk => ?_) _ hg.2.1.2.1
    unfold grV upd
    by_cases h7 : k = 7
    · simp [h7]
    · by_cases h3 : k = 3
      · simp [h3]
      · simp [h7, h3, hf k hk]
  rw [hev]
  exact hK _ ((d6.mo (by simp)).wA (by simp))
/-- what FEEDS tells -/
def fdS (P : PV) (L : LV) (x y : Nat) : Int32 := hldS (evL (ownV P L x y) (plw P 1)) 0 9
theorem c_giveFood {x y : Nat} (hg : XGL σ p P) (hl : XL σ a L) (hx : x < pw P) (hy : y < pr P) (hK : ∀ τ, Df [47, p + 14] σ τ → K none (sI τ (a + 2) ((y + 1) * 10 + x + 1) (imn 99 (nI (L (48 + (8 * y + x))) + fdS P L x y)))) : C2 Γ l mX1_giveFood [.ref 46, .ref a, .int (nI x), .int (nI y)] σ K := by
  have w8 := hg.1.2.2.1
  have r6 := hg.1.2.2.2.1
  have ha := isL_ge hl.1
  have hp := isP_or hg.1.2.1.1
  have v : vp_in (nI ((y + 1) * 10 + x + 1)) 80 := vp_in_nI (by omega) (by omega)
  refine tX1_giveFood hl.1 (c_setOwn hg.1 hl hx hy (fun f hf => rv (c_indexOf (ri ⟨v, p, hg.1.1, hg.1.2.1.1, ?_⟩))))
  have d6 : Df [47] σ (sA σ 47 f) := Df.rf.wA (by simp)
  have o6 : offP [47] := fun b hb => by simp at hb; omega
  have hg6 := hg.df d6 o6
  refine c_worth hg6.2.2.1 A47 (by decide) (by decide) (by omega) (fun f2 => ri (c_held (ri ⟨v, fun s10 e10 => ?_⟩)))
  rw [sA_row, evL_cong hf _ hg.2.2.1.2.1, nI_clamp (by omega), sA_off2 _ _ (by omega), XL_fo hl (by omega) (by omega)] at e10
  rw [e10]
  exact hK _ ((d6.mo (by simp)).wA (by simp))
end G3
