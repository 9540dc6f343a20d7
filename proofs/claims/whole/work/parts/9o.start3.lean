/-! the model behind its constructor, and both together -/
section MZ
variable {Γ : GE} {l : Launch} {K : Option Value → PH → Prop}
/-- what the model's constructor finds when its arrays are made -/
def M0 (σ : SS) : Prop := σ.1 284 18 = 0 ∧ σ.1 284 2 = 0 ∧ σ.1 284 59 = 0 ∧ σ.1 284 61 = 0 ∧ σ.1 284 17 = -1 ∧ ∀ s, s < 3 → σ.1 331 s = 0
theorem iX10b {σ0 : SS} (z : M0 σ0) (hK : ∀ τ, Cm σ0 τ → MS τ [] (-1) plnP (begL plnP) [] (fun _ => none) [] → K none (mk τ)) : Gd Γ l mX10_init 399 [(0, .ref 284)] [] (mk σ0) 48 19430 K := by
  obtain ⟨z18, z2, z59, z61, z17, zh⟩ := z
  obtain ⟨pk, -⟩ := plnP_ok.2.2.2.2.2.2.2.2.2.2 rfl
  refine r_aload_n (dcx dX10_init_c4 37 rfl) 0 rfl ?_
  refine r_iconst (v := 0) (dcx dX10_init_c4 38 rfl) rfl ?_
  refine g_callV (ci := 10) (as := [.int 0]) (st := []) zX10_plain ⟨Nat.le_of_ble_eq_true rfl, Nat.le_of_ble_eq_true rfl⟩ kX10_init_164 (dcx dX10_init_c4 39 rfl) rfl rfl (Nat.le_of_ble_eq_true rfl) (by decide +kernel) rfl rfl (m_plain (sd := 0) (by decide) (fun τ1 d1 r1 rr1 q1 p1 l1 => ?_))
  show Gd Γ l mX10_init 404 [(0, .ref 284)] [] (mk τ1) 48 19430 K
  refine iX10k (fun τ2 a1 a2 a3 mk2 => ?_)
  have mp1 : MP τ2 0 plnP := by
    unfold MP
    rw [a1]
    refine ⟨by decide, by rw [r1]; exact z18, p1.1 0 (by decide), p1.1 1 (by decide), p1.1 2 (by decide), p1.1 3 (by decide), p1.1 4 (by decide), p1.1 5 (by decide), p1.1 6 (by decide), p1.1 7 (by decide), p1.1 8 (by decide), p1.2.1 rfl, p1.2.2.1 rfl, p1.2.2.2.1, p1.2.2.2.2, pk⟩
  have ml : ∀ k, k < 3 → MLw τ2 (3 * 0 + k) k (plw plnP k) := fun k hk => by
    refine ⟨dfl_ok k hk, 0, 0, by decide, ?_, ?_, Or.inl ⟨rfl, rfl⟩⟩
    · rw [a1]; exact (l1 k hk).1
    · rw [a1]; exact (l1 k hk).2
  have mg : MG τ2 0 plnP := ⟨mp1, ml 0 (by decide), ml 1 (by decide), ml 2 (by decide)⟩
  refine r_aload_n (dcx dX10_init_c11 24 rfl) 0 rfl ?_
  refine g_callV (ci := 10) (as := []) (st := []) zX10_begins ⟨Nat.le_of_ble_eq_true rfl, Nat.le_of_ble_eq_true rfl⟩ kX10_init_172 (dcx dX10_init_c11 25 rfl) rfl rfl (Nat.le_of_ble_eq_true rfl) (by decide +kernel) rfl rfl (m_begins mp1 (fun τ3 d3 r3 s3 => ?_))
  show Gd Γ l mX10_init 870 [(0, .ref 284)] [] (mk τ3) 48 19430 K
  refine r_aload_n (dcx dX10_init_c11 26 rfl) 0 rfl ?_
  refine g_callV (ci := 10) (as := []) (st := []) zX10_keepsRow ⟨Nat.le_of_ble_eq_true rfl, Nat.le_of_ble_eq_true rfl⟩ kX10_init_175 (dcx dX10_init_c11 27 rfl) rfl rfl (Nat.le_of_ble_eq_true rfl) (by decide +kernel) rfl rfl (m_keepsRow r3 (fun τ4 d4 r4 => ?_))
  show Gd Γ l mX10_init 874 [(0, .ref 284)] [] (mk τ4) 48 19430 K
  have w84 : ∀ k, k ≠ 56 → τ4.1 284 k = σ0.1 284 k := fun k hk => by
    rw [d4.2.1 k (by simp), d3.2.1 k (by simp; exact hk), a1, r1]
  have wr : ∀ b, b ≠ 284 → b ≠ 321 → b ≠ 322 → τ4.1 b = τ1.1 b := fun b b1 b2 b3 => by
    rw [d4.1 b (by simp; exact b2) b1, d3.1 b (by simp; exact b3) b1, a1]
  have q4 : τ4.2 = τ2.2 := by rw [d4.2.2, d3.2.2]
  refine r_vret rfl (hK τ4 ⟨fun b hb => ?_, fun b hb => ?_, ?_⟩ ⟨0, ?_, r4, ⟨by decide, ?_, fun i hi => absurd hi (Nat.not_lt_zero _)⟩, ⟨by decide, ?_, fun i hi => absurd hi (Nat.not_lt_zero _)⟩, fun s hs => ⟨?_, fun M hM => by cases hM⟩, ⟨by decide, ?_, fun i hi => absurd hi (Nat.not_lt_zero _)⟩, ?_, ?_⟩) (Nat.le_of_ble_eq_true rfl) (Nat.le_of_ble_eq_true rfl) (dcx dX10_init_c11 28 rfl)
  · rw [wr b (by omega) (by omega) (by omega)]
    exact rr1 b (by omega)
  · rw [q4, a2 b (by omega), q1]
  · rw [q4, a3, q1]
  · exact (mg.dm d3 (fun b hb => by simp at hb; omega) (by simp)).dm d4 (fun b hb => by simp at hb; omega) (by simp)
  · rw [w84 2 (by decide)]; exact z2
  · rw [w84 59 (by decide)]; exact z59
  · rw [wr 331 (by decide) (by decide) (by decide), d1.1 331 (by decide) (by decide) (by omega)]
    exact zh s hs
  · rw [w84 61 (by decide)]; exact z61
  · rw [w84 17 (by decide)]; exact z17
  · intro k hk
    rw [q4]
    exact mk2 k hk
end MZ
