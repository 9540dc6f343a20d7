/-! from cells as they are made to the store -/
def exI (e : PC) (k : Nat) : Int32 := match e with
  | .inl (_, _, .inl f) => f k
  | .inr (_, fs) => match fs[k]? with
    | some (.int v) => v
    | _ => 0
  | _ => 0
def exJ (e : PC) (k : Nat) : Int64 := match e with
  | .inl (_, _, .inr (.inl f)) => f k
  | .inr (_, fs) => match fs[k]? with
    | some (.long v) => v
    | _ => 0
  | _ => 0
def exR (e : PC) (k : Nat) : Nat := match e with
  | .inl (_, _, .inr (.inr (.inr (.inr f)))) => (f k).getD 0
  | .inr (_, fs) => match fs[k]? with
    | some (.ref q) => q
    | _ => 0
  | _ => 0
def sF (G : HF) : SS := (fun a => exI (G a), fun a => exJ (G a), fun a => exR (G a))
def mkE (e : PC) (d : Dsc) : PC := mkC (fun _ => exI e, fun _ => exJ e, fun _ => exR e) 0 d
theorem mkG (G : HF) (k : Nat) (d : Dsc) : mkC (sF G) k d = mkE (G k) d := by
  cases d with
  | inl x =>
    obtain ⟨ty, n⟩ := x
    cases ty <;> rfl
  | inr x =>
    obtain ⟨ci, fd⟩ := x
    show Sum.inr (ci, fd.mapIdx (fun j c => vlC (sF G) k j c)) = Sum.inr (ci, fd.mapIdx (fun j c => vlC (fun _ => exI (G k), fun _ => exJ (G k), fun _ => exR (G k)) 0 j c))
    have e : (fun j c => vlC (sF G) k j c) = (fun j c => vlC (fun _ => exI (G k), fun _ => exJ (G k), fun _ => exR (G k)) 0 j c) := by
      funext j c
      match c with
      | 0 => rfl
      | 1 => rfl
      | 2 => rfl
      | c + 3 => rfl
    rw [e]
/-- alike: an array's references count below its length -/
def cq (e e' : PC) : Prop := e = e' ∨ ∃ ty n f g, e = .inl (ty, n, .inr (.inr (.inr (.inr f)))) ∧ e' = .inl (ty, n, .inr (.inr (.inr (.inr g)))) ∧ ∀ j, j < n → f j = g j
theorem arrV_cg {cA : ClassId} {N : Nat} {f g : Nat → Value} (h : ∀ j, j < N → f j = g j) : arrV cA N f = arrV cA N g := by
  unfold arrV
  congr 1
  apply Array.ext
  · simp
  · intro i h1 h2
    simp at h1
    simp [h i h1]
theorem cAt.cq {Γ : GE} {U : State} {H : Heap} {k : Nat} {e e' : PC} (h : cAt Γ U H k e) (q : cq e e') : cAt Γ U H k e' := by
  rcases q with q | ⟨ty, n, f, g, rfl, rfl, q⟩
  · rw [← q]; exact h
  · obtain ⟨cA, h1, h2, h3⟩ := h
    refine ⟨cA, h1, h2, ?_⟩
    rw [h3]
    show some (arrV cA n (fun j => va_rf (Option.map (fun k => Γ.2.1 + k) (f j)))) = some (arrV cA n (fun j => va_rf (Option.map (fun k => Γ.2.1 + k) (g j))))
    rw [arrV_cg (fun j hj => by rw [q j hj])]
def okc (e : PC) (d : Dsc) : Prop := cq e (mkE e d)
def okG (G : HF) (k : Nat) : Prop := ∀ d, Sh[k]? = some d → okc (G k) d
theorem okG_of {G : HF} {k : Nat} {d : Dsc} {e : PC} (hs : Sh[k]? = some d) (hg : G k = e) (he : e = mkE e d) : okG G k := by
  intro d' h
  rw [hs] at h
  cases h
  rw [hg]
  exact Or.inl he
theorem Sh_len : Sh.length = 333 := by decide +kernel
theorem gd_cv {Γ : GE} {l : Launch} {M : MM} {pc : Nat} {lv : List (Nat × Value)} {st : List Value} {G : HF} {cu su : Nat} {K : Option Value → PH → Prop} (ok : ∀ k, k < 333 → okG G k) (h : Gd Γ l M pc lv st (mk (sF G)) cu su K) : Gd Γ l M pc lv st (mkF 333 G) cu su K := by
  intro p e s m args below meth c H locs ls cx hR hL hl
  refine h p e s m args below meth c H locs ls cx ⟨?_, fun k e' hk => ?_, hR.2.2⟩ hL hl
  · rw [hR.1, mkF_len]
    unfold mk
    rw [List.length_mapIdx, Sh_len]
  · rw [mk_at] at hk
    cases hs : Sh[k]? with
    | none => rw [hs] at hk; cases hk
    | some d =>
      rw [hs] at hk
      cases hk
      have hlt : k < 333 := by
        rw [← Sh_len]
        exact (List.getElem?_eq_some_iff.mp hs).1
      rw [mkG]
      exact (hR.2.1 k (G k) (mkF_at hlt)).cq (ok k hlt d hs)
/-- from one place to the next -/
theorem nxt1 {P : Nat → Prop} {N n : Nat} (h0 : P n) (hr : ∀ k, n + 1 ≤ k → k < N → P k) : ∀ k, n ≤ k → k < N → P k := fun k h1 h2 => by
  by_cases h : k = n
  · subst h; exact h0
  · exact hr k (by omega) h2
theorem nxF {P : Nat → Prop} {N n : Nat} (m : Nat) (h0 : ∀ k, n ≤ k → k < m → P k) (hr : ∀ k, m ≤ k → k < N → P k) : ∀ k, n ≤ k → k < N → P k := fun k h1 h2 => by
  by_cases h : k < m
  · exact h0 k h1 h
  · exact hr k (by omega) h2
theorem nxE {P : Nat → Prop} {N : Nat} : ∀ k, N ≤ k → k < N → P k := fun k h1 h2 => absurd h1 (by omega)
/-- the shapes of a row of lawns, and of rows -/
theorem Sh_l0 : ∀ j, j < 33 → Sh[54 + 5 * j]? = some (.inr (4, [55 + 5 * j + 3, 56 + 5 * j + 3, 57 + 5 * j + 3, 58 + 5 * j + 3, 0, 0])) := by decide +kernel
theorem Sh_l1 : ∀ j, j < 33 → Sh[54 + 5 * j + 1]? = some (.inl (.int, 80)) := by decide +kernel
theorem Sh_l2 : ∀ j, j < 33 → Sh[54 + 5 * j + 2]? = some (.inl (.int, 80)) := by decide +kernel
theorem Sh_l3 : ∀ j, j < 33 → Sh[54 + 5 * j + 3]? = some (.inl (.int, 4)) := by decide +kernel
theorem Sh_l4 : ∀ j, j < 33 → Sh[54 + 5 * j + 4]? = some (.inl (.int, 4)) := by decide +kernel
theorem Sh_r : ∀ j, j < 31 → Sh[229 + j]? = some (.inl (.int, 80)) := by decide +kernel
theorem okG_lawn {G : HF} {j : Nat} (hj : j < 33) (h : lwN G (54 + 5 * j)) : ∀ i, i < 5 → okG G (54 + 5 * j + i) := by
  obtain ⟨h0, h1, h2, h3, h4⟩ := h
  intro i hi
  match i, hi with
  | 0, _ =>
    refine okG_of (Sh_l0 j hj) h0 ?_
    show _ = Sum.inr (4, [Value.ref (55 + 5 * j), Value.ref (56 + 5 * j), Value.ref (57 + 5 * j), Value.ref (58 + 5 * j), Value.int 0, Value.int 0])
    rw [show 54 + 5 * j + 1 = 55 + 5 * j by omega, show 54 + 5 * j + 2 = 56 + 5 * j by omega, show 54 + 5 * j + 3 = 57 + 5 * j by omega, show 54 + 5 * j + 4 = 58 + 5 * j by omega]
  | 1, _ => exact okG_of (Sh_l1 j hj) h1 rfl
  | 2, _ => exact okG_of (Sh_l2 j hj) h2 rfl
  | 3, _ => exact okG_of (Sh_l3 j hj) h3 rfl
  | 4, _ => exact okG_of (Sh_l4 j hj) h4 rfl
