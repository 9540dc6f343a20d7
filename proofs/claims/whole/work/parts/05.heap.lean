/-! fields, arrays, new cells, calls: over pure heaps -/
theorem pN {i : Int32} {n : Nat} (h : vp_in i n) : i.toNatClampNeg < n := Nat.not_le.mp fun q => h (Or.inr q)
/-- a field's link: the class's number in vwCl, the place of the field -/
def fOK (cls : String) (ix ci k : Nat) : Prop := ∃ (C : String) (T : u_T) (N : Nat), vwCl[ci]? = some (C, T, N) ∧ (∀ w ∈ u_ws C T N, w ∈ GT) ∧ k < N ∧ Cond.fieldLink cls ix (T k).1 (T k).2.1 (T k).2.2.1 ∈ GT
def fPut (cls : String) (ix ci k : Nat) (ty : FieldType) (fin : Bool) : Prop := ∃ (C : String) (T : u_T) (N : Nat) (ty0 : Nat → FieldType), vwCl[ci]? = some (C, T, N) ∧ (∀ w ∈ u_ws C T N, w ∈ GT) ∧ k < N ∧ Cond.fieldLink cls ix (T k).1 (T k).2.1 (T k).2.2.1 ∈ GT ∧ (∀ k, k < N → parseFieldDescriptor (T k).2.2.1 = some (ty0 k)) ∧ (∀ a, a < N → ∀ b, b < N → a ≠ b → (T a).2.1 ≠ (T b).2.1) ∧ (T k).2.2.2 = fin ∧ parseFieldDescriptor (T k).2.2.1 = some ty ∧ (fin = true → (T k).1 = cls)
section RH
variable {Γ : GE} {l : Launch} {M : MM} {pc : Nat} {lv : List (Nat × Value)} {st : List Value} {h : PH} {cu su : Nat} {K : Option Value → PH → Prop}
theorem kt_K {Γ : GE} {U : State} (h : Kt Γ U) : va_K Γ.1 vwCl [] U := ⟨h.1, fun k q hk => by simp at hk⟩
theorem rp_o {s : State} {H : Heap} {a ci : Nat} {fs : List Value} (hR : Rp Γ s H h) (ha : h[a]? = some (.inr (ci, fs))) : va_P Γ.1 vwCl [(Γ.2.1 + a, .inr (ci, fs.map (tv Γ)))] H := by
  intro k q hk
  have hz : k < 1 := (List.getElem?_eq_some_iff.mp hk).1
  rw [show k = 0 by omega] at hk
  cases hk
  exact hR.2.1 a _ ha
theorem r_getfield {ix ci k a : Nat} {fs : List Value} {v : Value} (f : fOK M.1.cls ix ci k) (hd : decode M.2.1 pc = .ok (.getfield ix, 3)) (ha : h[a]? = some (.inr (ci, fs))) (hv : fs[k]? = some v) (kk : Gd Γ l M (pc + 3) lv (v :: st) h cu su K) : Gd Γ l M pc lv (.ref a :: st) h cu su K := by
  intro p e s m args below meth c H locs ls cx hR hL hl
  obtain ⟨hx, hb, hr, hml, hown, hts, hlk, hnm, hK⟩ := id cx
  obtain ⟨C, T, N, f1, f2, f3, f4⟩ := f
  exact va_get hx hb hts f2 hown (kt_K hK) (rp_o hR ha) 0 rfl f1 k f3 (hts _ f4) (fun _ z => z) (by rw [List.getElem?_map, hv]; rfl) hd (kk p e s m args below meth c H locs ls cx hR hL hl)
theorem r_putfield {ix ci k a : Nat} {fs : List Value} {v : Value} {ty : FieldType} (f : fPut M.1.cls ix ci k ty false) (hd : decode M.2.1 pc = .ok (.putfield ix, 3)) (ha : h[a]? = some (.inr (ci, fs))) (hv : narrow ty (tv Γ v) = tv Γ v) (hw : fits ty (tv Γ v) = true) (hkl : k < fs.length) (kk : Gd Γ l M (pc + 3) lv st (h.set a (.inr (ci, fs.set k v))) cu su K) : Gd Γ l M pc lv (v :: .ref a :: st) h cu su K := by
  intro p e s m args below meth c H locs ls cx hR hL hl
  obtain ⟨hx, hb, hr, hml, hown, hts, hlk, hnm, hK⟩ := id cx
  obtain ⟨C, T, N, ty0, hc, f2, hk, f4, hty, hnn, hfin, hdd, -⟩ := f
  have hKK : va_K Γ.1 vwCl [] s := kt_K hK
  have hap := va_apart (own := M.1.cls) hts f2 ty0 hty hnn hKK hc
  obtain ⟨r, h1, cell, q1, q2, q3, q4⟩ := hR.2.1 a _ ha
  have hr : r = (C, T, N) := Option.some.inj (h1.symm.trans hc)
  subst hr
  obtain ⟨hS, hfc, kC, hkC, hkind⟩ := hKK.1 ci _ hc
  obtain ⟨cf, kf, fi, f, hi, hsl⟩ := hS k hk
  have hlay := hts _ (f2 _ (u_in_lay hk))
  unfold u_lay at hlay
  rw [if_neg (by rw [hfin]; decide)] at hlay
  have hst := (u_facts hfc hkC (u_lays hts f2 hk) hi).1
  have h6 := u_store hfc hkC hkind hlay hi hdd hv hw
  refine W.putK hx hb (f := f) ⟨hown, hts _ f4, ⟨_, _, _, hi⟩, hst⟩ (by rw [q2]; exact h6) q1 q3 (by rw [hsl]; exact k2_hasslot (q4 k hk)) rfl rfl hd fun H' e1 e2 e3 => ?_
  rw [hsl] at e1 ⊢
  refine kk p e s m args below meth c H' _ ls cx (hR.set ha ⟨_, hc, ?_⟩ e2 e3) ?_ hl
  · refine t_OB.to (V := updV (vp_V (fs.map (tv Γ))) k (tv Γ v)) ⟨_, e1, q2, q3, t_set q4 hap hk _⟩ (fun j _ => ?_)
    rw [List.map_set]
    exact vp_updV_set (by rw [List.length_map]; exact hkl) _ j
  · intro q hq
    rcases List.mem_append.mp hq with z | z
    · exact hL q z
    · cases List.mem_singleton.mp z
      exact Nat.le_add_right _ _
theorem r_putfieldF {ix ci k a : Nat} {fs : List Value} {v : Value} {ty : FieldType} (f : fPut M.1.cls ix ci k ty true) (hinit : M.1.name = "<init>") (hd : decode M.2.1 pc = .ok (.putfield ix, 3)) (ha : h[a]? = some (.inr (ci, fs))) (hv : narrow ty (tv Γ v) = tv Γ v) (hw : fits ty (tv Γ v) = true) (hkl : k < fs.length) (kk : Gd Γ l M (pc + 3) lv st (h.set a (.inr (ci, fs.set k v))) cu su K) : Gd Γ l M pc lv (v :: .ref a :: st) h cu su K := by
  intro p e s m args below meth c H locs ls cx hR hL hl
  obtain ⟨hx, hb, hr, hml, hown, hts, hlk, hnm, hK⟩ := id cx
  obtain ⟨C, T, N, ty0, hc, f2, hk, f4, hty, hnn, hfin, hdd, hdecl⟩ := f
  have hdecl := hdecl rfl
  have hKK : va_K Γ.1 vwCl [] s := kt_K hK
  have hap := va_apart (own := M.1.cls) hts f2 ty0 hty hnn hKK hc
  obtain ⟨r, h1, cell, q1, q2, q3, q4⟩ := hR.2.1 a _ ha
  have hr : r = (C, T, N) := Option.some.inj (h1.symm.trans hc)
  subst hr
  obtain ⟨hS, hfc, kC, hkC, hkind⟩ := hKK.1 ci _ hc
  obtain ⟨cf, kf, fi, f, hi, hsl⟩ := hS k hk
  have hlay := hts _ (f2 _ (u_in_lay hk))
  unfold u_lay at hlay
  rw [if_pos hfin] at hlay
  have hst := (u_facts hfc hkC (u_lays hts f2 hk) hi).1
  have hcf : m.cls = cf := by
    obtain ⟨_, _, c', _, _, _, -, -, hf', -, -, -, hown2, -⟩ := Cond.laysFinal_spec hlay
    have e1 : c' = cf := by have := hi.symm.trans hf'; simp at this; exact this.1.symm
    rw [hdecl] at hown2
    rw [← e1]; exact Option.some.inj (hown.symm.trans hown2)
  have h6 := u_fits hfc hkC hkind (Or.inr hlay) hi hdd hv hw
  refine W.putFinK hx hb hown (hts _ f4) hi hst hcf (hnm.trans hinit) (by rw [q2]; exact h6) q1 q3 (by rw [hsl]; exact k2_hasslot (q4 k hk)) rfl rfl hd fun H' e1 e2 e3 => ?_
  rw [hsl] at e1 ⊢
  refine kk p e s m args below meth c H' _ ls cx (hR.set ha ⟨_, hc, ?_⟩ e2 e3) ?_ hl
  · refine t_OB.to (V := updV (vp_V (fs.map (tv Γ))) k (tv Γ v)) ⟨_, e1, q2, q3, t_set q4 hap hk _⟩ (fun j _ => ?_)
    rw [List.map_set]
    exact vp_updV_set (by rw [List.length_map]; exact hkl) _ j
  · intro q hq
    rcases List.mem_append.mp hq with z | z
    · exact hL q z
    · cases List.mem_singleton.mp z
      exact Nat.le_add_right _ _
theorem r_iaload {a n : Nat} {f : Nat → Int32} {i : Int32} (hd : decode M.2.1 pc = .ok (.iaload, 1)) (ha : h[a]? = some (.inl (.int, n, .inl f))) (hi : vp_in i n) (kk : Gd Γ l M (pc + 1) lv (.int (f i.toNatClampNeg) :: st) h cu su K) : Gd Γ l M pc lv (.int i :: .ref a :: st) h cu su K := by
  intro p e s m args below meth c H locs ls cx hR hL hl
  obtain ⟨hx, hb, hr, hml, hown, hts, hlk, hnm, hK⟩ := id cx
  obtain ⟨cA, h1, h2, h3⟩ := hR.2.1 a _ ha
  have h3 : H[Γ.2.1 + a]? = some (arrV cA n (fun j => .int (f j))) := h3
  exact W.iald (v := .int (f i.toNatClampNeg)) hx hb h3 (h1 n (fun j => .int (f j))) (fun q => by cases q) (by rw [arrV_size]; exact hi) (by rw [arrV_read _ _ (pN hi)]) rfl rfl hd (kk p e s m args below meth c H locs ls cx hR hL hl)
theorem r_baload {a n : Nat} {f : Nat → Int32} {i : Int32} (hd : decode M.2.1 pc = .ok (.baload, 1)) (ha : h[a]? = some (.inl (.byte, n, .inl f))) (hi : vp_in i n) (kk : Gd Γ l M (pc + 1) lv (.int (f i.toNatClampNeg) :: st) h cu su K) : Gd Γ l M pc lv (.int i :: .ref a :: st) h cu su K := by
  intro p e s m args below meth c H locs ls cx hR hL hl
  obtain ⟨hx, hb, hr, hml, hown, hts, hlk, hnm, hK⟩ := id cx
  obtain ⟨cA, h1, h2, h3⟩ := hR.2.1 a _ ha
  have h3 : H[Γ.2.1 + a]? = some (arrV cA n (fun j => .int (f j))) := h3
  exact W.bald (v := .int (f i.toNatClampNeg)) hx hb h3 (h1 n (fun j => .int (f j))) (fun q => by cases q) (by rw [arrV_size]; exact hi) (by rw [arrV_read _ _ (pN hi)]) rfl rfl hd (kk p e s m args below meth c H locs ls cx hR hL hl)
theorem r_zaload {a n : Nat} {f : Nat → Int32} {i : Int32} (hd : decode M.2.1 pc = .ok (.baload, 1)) (ha : h[a]? = some (.inl (.boolean, n, .inl f))) (hi : vp_in i n) (kk : Gd Γ l M (pc + 1) lv (.int (f i.toNatClampNeg) :: st) h cu su K) : Gd Γ l M pc lv (.int i :: .ref a :: st) h cu su K := by
  intro p e s m args below meth c H locs ls cx hR hL hl
  obtain ⟨hx, hb, hr, hml, hown, hts, hlk, hnm, hK⟩ := id cx
  obtain ⟨cA, h1, h2, h3⟩ := hR.2.1 a _ ha
  have h3 : H[Γ.2.1 + a]? = some (arrV cA n (fun j => .int (f j))) := h3
  exact W.zald (v := .int (f i.toNatClampNeg)) hx hb h3 (h1 n (fun j => .int (f j))) (fun q => by cases q) (by rw [arrV_size]; exact hi) (by rw [arrV_read _ _ (pN hi)]) rfl rfl hd (kk p e s m args below meth c H locs ls cx hR hL hl)
theorem r_laload {a n : Nat} {f : Nat → Int64} {i : Int32} (hd : decode M.2.1 pc = .ok (.laload, 1)) (ha : h[a]? = some (.inl (.long, n, .inr (.inl f)))) (hi : vp_in i n) (kk : Gd Γ l M (pc + 1) lv (.long (f i.toNatClampNeg) :: st) h cu su K) : Gd Γ l M pc lv (.int i :: .ref a :: st) h cu su K := by
  intro p e s m args below meth c H locs ls cx hR hL hl
  obtain ⟨hx, hb, hr, hml, hown, hts, hlk, hnm, hK⟩ := id cx
  obtain ⟨cA, h1, h2, h3⟩ := hR.2.1 a _ ha
  have h3 : H[Γ.2.1 + a]? = some (arrV cA n (fun j => .long (f j))) := h3
  exact W.lald (v := .long (f i.toNatClampNeg)) hx hb h3 (h1 n (fun j => .long (f j))) (fun q => by cases q) (by rw [arrV_size]; exact hi) (by rw [arrV_read _ _ (pN hi)]) rfl rfl hd (kk p e s m args below meth c H locs ls cx hR hL hl)
theorem r_aaload {a n b : Nat} {f : Nat → Option Nat} {i : Int32} {ty : FieldType} (hd : decode M.2.1 pc = .ok (.aaload, 1)) (ha : h[a]? = some (.inl (ty, n, .inr (.inr (.inr (.inr f)))))) (hty : ty.isReference = true) (hi : vp_in i n) (hf : f i.toNatClampNeg = some b) (kk : Gd Γ l M (pc + 1) lv (.ref b :: st) h cu su K) : Gd Γ l M pc lv (.int i :: .ref a :: st) h cu su K := by
  intro p e s m args below meth c H locs ls cx hR hL hl
  obtain ⟨hx, hb, hr, hml, hown, hts, hlk, hnm, hK⟩ := id cx
  obtain ⟨cA, h1, h2, h3⟩ := hR.2.1 a _ ha
  have h3 : H[Γ.2.1 + a]? = some (arrV cA n (fun j => va_rf ((f j).map (fun k => Γ.2.1 + k)))) := h3
  exact W.aald (v := .ref (Γ.2.1 + b)) (ty := ty) hx hb h3 (h1 n (fun j => va_rf ((f j).map (fun k => Γ.2.1 + k)))) hty (fun q => by cases q) (by rw [arrV_size]; exact hi) (by rw [arrV_read _ _ (pN hi), hf]; rfl) rfl rfl hd (kk p e s m args below meth c H locs ls cx hR hL hl)
theorem hL_one {locs : List Loc} {B a i : Nat} (hL : ∀ q ∈ locs, B ≤ q.base) : ∀ q ∈ locs ++ [(⟨B + a, i⟩ : Loc)], B ≤ q.base := by
  intro q hq
  rcases List.mem_append.mp hq with z | z
  · exact hL q z
  · cases List.mem_singleton.mp z
    exact Nat.le_add_right _ _
theorem r_iastore {a n : Nat} {f : Nat → Int32} {i x : Int32} (hd : decode M.2.1 pc = .ok (.iastore, 1)) (ha : h[a]? = some (.inl (.int, n, .inl f))) (hi : vp_in i n) (kk : Gd Γ l M (pc + 1) lv st (h.set a (.inl (.int, n, .inl (upd f i.toNatClampNeg x)))) cu su K) : Gd Γ l M pc lv (.int x :: .int i :: .ref a :: st) h cu su K := by
  intro p e s m args below meth c H locs ls cx hR hL hl
  obtain ⟨hx, hb, hr, hml, hown, hts, hlk, hnm, hK⟩ := id cx
  obtain ⟨cA, h1, h2, h3⟩ := hR.2.1 a _ ha
  have h3 : H[Γ.2.1 + a]? = some (arrV cA n (fun j => .int (f j))) := h3
  refine W.iast hx hb h3 (h1 n (fun j => .int (f j))) (fun q => by cases q) (by rw [arrV_size]; exact hi) rfl rfl hd fun H1 e1 z oq => ?_
  refine kk p e s m args below meth c H1 _ ls cx (hR.set ha ⟨cA, h1, h2, ?_⟩ z oq) (hL_one hL) hl
  show H1[Γ.2.1 + a]? = some (vp_cell _ _)
  rw [e1]
  rw [arrV_store]
  show some _ = some (arrV cA n (fun j => .int (upd f i.toNatClampNeg x j)))
  congr 2
  funext q
  by_cases hq : q = i.toNatClampNeg
  · subst hq
    simp [updV, upd]
  · simp [updV, upd, hq]
theorem r_bastore {a n : Nat} {f : Nat → Int32} {i x : Int32} (hd : decode M.2.1 pc = .ok (.bastore, 1)) (ha : h[a]? = some (.inl (.byte, n, .inl f))) (hi : vp_in i n) (kk : Gd Γ l M (pc + 1) lv st (h.set a (.inl (.byte, n, .inl (upd f i.toNatClampNeg (vp_nar .byte x))))) cu su K) : Gd Γ l M pc lv (.int x :: .int i :: .ref a :: st) h cu su K := by
  intro p e s m args below meth c H locs ls cx hR hL hl
  obtain ⟨hx, hb, hr, hml, hown, hts, hlk, hnm, hK⟩ := id cx
  obtain ⟨cA, h1, h2, h3⟩ := hR.2.1 a _ ha
  have h3 : H[Γ.2.1 + a]? = some (arrV cA n (fun j => .int (f j))) := h3
  refine W.bast hx hb h3 (h1 n (fun j => .int (f j))) (fun q => by cases q) (by rw [arrV_size]; exact hi) rfl rfl hd fun H1 e1 z oq => ?_
  refine kk p e s m args below meth c H1 _ ls cx (hR.set ha ⟨cA, h1, h2, ?_⟩ z oq) (hL_one hL) hl
  show H1[Γ.2.1 + a]? = some (vp_cell _ _)
  rw [e1]
  rw [arrV_store]
  show some _ = some (arrV cA n (fun j => .int (upd f i.toNatClampNeg (vp_nar .byte x) j)))
  congr 2
  funext q
  by_cases hq : q = i.toNatClampNeg
  · subst hq
    simp [updV, upd, vp_nar_byte, narrow_byte]
  · simp [updV, upd, hq]
theorem r_zastore {a n : Nat} {f : Nat → Int32} {i x : Int32} (hd : decode M.2.1 pc = .ok (.bastore, 1)) (ha : h[a]? = some (.inl (.boolean, n, .inl f))) (hi : vp_in i n) (kk : Gd Γ l M (pc + 1) lv st (h.set a (.inl (.boolean, n, .inl (upd f i.toNatClampNeg (vp_nar .boolean x))))) cu su K) : Gd Γ l M pc lv (.int x :: .int i :: .ref a :: st) h cu su K := by
  intro p e s m args below meth c H locs ls cx hR hL hl
  obtain ⟨hx, hb, hr, hml, hown, hts, hlk, hnm, hK⟩ := id cx
  obtain ⟨cA, h1, h2, h3⟩ := hR.2.1 a _ ha
  have h3 : H[Γ.2.1 + a]? = some (arrV cA n (fun j => .int (f j))) := h3
  refine W.zast hx hb h3 (h1 n (fun j => .int (f j))) (fun q => by cases q) (by rw [arrV_size]; exact hi) rfl rfl hd fun H1 e1 z oq => ?_
  refine kk p e s m args below meth c H1 _ ls cx (hR.set ha ⟨cA, h1, h2, ?_⟩ z oq) (hL_one hL) hl
  show H1[Γ.2.1 + a]? = some (vp_cell _ _)
  rw [e1]
  rw [arrV_store]
  show some _ = some (arrV cA n (fun j => .int (upd f i.toNatClampNeg (vp_nar .boolean x) j)))
  congr 2
  funext q
  by_cases hq : q = i.toNatClampNeg
  · subst hq
    simp [updV, upd]
    rfl
  · simp [updV, upd, hq]
theorem r_lastore {a n : Nat} {f : Nat → Int64} {i : Int32} {x : Int64} (hd : decode M.2.1 pc = .ok (.lastore, 1)) (ha : h[a]? = some (.inl (.long, n, .inr (.inl f)))) (hi : vp_in i n) (kk : Gd Γ l M (pc + 1) lv st (h.set a (.inl (.long, n, .inr (.inl (vp_updL f i.toNatClampNeg x))))) cu su K) : Gd Γ l M pc lv (.long x :: .int i :: .ref a :: st) h cu su K := by
  intro p e s m args below meth c H locs ls cx hR hL hl
  obtain ⟨hx, hb, hr, hml, hown, hts, hlk, hnm, hK⟩ := id cx
  obtain ⟨cA, h1, h2, h3⟩ := hR.2.1 a _ ha
  have h3 : H[Γ.2.1 + a]? = some (arrV cA n (fun j => .long (f j))) := h3
  refine W.last hx hb h3 (h1 n (fun j => .long (f j))) (fun q => by cases q) (by rw [arrV_size]; exact hi) rfl rfl hd fun H1 e1 z oq => ?_
  refine kk p e s m args below meth c H1 _ ls cx (hR.set ha ⟨cA, h1, h2, ?_⟩ z oq) (hL_one hL) hl
  show H1[Γ.2.1 + a]? = some (vp_cell _ _)
  rw [e1]
  rw [arrV_store]
  show some _ = some (arrV cA n (fun j => .long (vp_updL f i.toNatClampNeg x j)))
  congr 2
  funext q
  by_cases hq : q = i.toNatClampNeg
  · subst hq
    simp [updV, vp_updL]
  · simp [updV, vp_updL, hq]
theorem r_alen {a n : Nat} {ty : FieldType} {f : Nat → Int32} (hd : decode M.2.1 pc = .ok (.arraylength, 1)) (ha : h[a]? = some (.inl (ty, n, .inl f))) (kk : Gd Γ l M (pc + 1) lv (.int (Int32.ofNat n) :: st) h cu su K) : Gd Γ l M pc lv (.ref a :: st) h cu su K := by
  intro p e s m args below meth c H locs ls cx hR hL hl
  obtain ⟨hx, hb, hr, hml, hown, hts, hlk, hnm, hK⟩ := id cx
  obtain ⟨cA, h1, h2, h3⟩ := hR.2.1 a _ ha
  have h3 : H[Γ.2.1 + a]? = some (arrV cA n (fun j => .int (f j))) := h3
  exact W.alen (n := Int32.ofNat n) hx hb h3 (h1 n (fun j => .int (f j))) (by rw [arrV_size] <;> rfl) rfl rfl hd (kk p e s m args below meth c H locs ls cx hR hL hl)
theorem r_newint {n : Int32} {N : Nat} {atype : ArrayType} {ty : FieldType} {x : vp_A} (hq : Cond.arrayClass ty ∈ GT) (hty : newarray.typeOf atype = ty) (ha : ∀ cA : ClassId, vp_cell cA (tA Γ x) = arrV cA N (fun _ => defaultValue ty)) (hra : ∀ (U : State) (cA : ClassId), U.vm.findClass ("[" ++ ty.toString) = some cA → va_RA U cA ty) (hd : decode M.2.1 pc = .ok (.newarray atype, 2)) (hn : ¬ n < 0) (hN : n.toNatClampNeg = N) (hb2 : N * componentBytes ty ≤ 536870912) (hc1 : cu + 1 ≤ M.2.2.2.2.cells) (hs1 : su + N ≤ M.2.2.2.2.slots) (kk : Gd Γ l M (pc + 2) lv (.ref h.length :: st) (h ++ [.inl (ty, x)]) (cu + 1) (su + N) K) : Gd Γ l M pc lv (.int n :: st) h cu su K := by
  intro p e s m args below meth c H locs ls cx hR hL hl
  obtain ⟨hx, hb, hr, hml, hown, hts, hlk, hnm, hK⟩ := id cx
  subst hty
  refine va_newaK hx hb (hts _ hq) rfl hd rfl hn hN hb2 hc1 hs1 hR.1 fun H1 cA e1 z1 o1 hAr hNm => ?_
  refine kk p e s m args below meth c H1 locs ls cx (hR.push ⟨cA, hAr, hra s cA hNm, ?_⟩ (by rw [z1, hR.1]) (fun q hq => o1 q (by rw [← hR.1]; exact hq))) hL hl
  rw [ha, ← e1]
theorem r_new {ix ci : Nat} {C : String} {T : u_T} {N : Nat} {ty : Nat → FieldType} {fs : List Value} (hcl : Cond.classLink M.1.cls ix C ∈ GT) (hins : Cond.instantiable C N ∈ GT) (hini : Cond.initialized C ∈ GT) (hc : vwCl[ci]? = some (C, T, N)) (hin : ∀ w ∈ u_ws C T N, w ∈ GT) (hty : ∀ k, k < N → parseFieldDescriptor (T k).2.2.1 = some (ty k)) (hfs : ∀ j, j < N → defaultValue (ty j) = vp_V (fs.map (tv Γ)) j) (hd : decode M.2.1 pc = .ok (.new ix, 3)) (hc1 : cu + 1 ≤ M.2.2.2.2.cells) (hs1 : su + N ≤ M.2.2.2.2.slots) (kk : Gd Γ l M (pc + 3) lv (.ref h.length :: st) (h ++ [.inr (ci, fs)]) (cu + 1) (su + N) K) : Gd Γ l M pc lv st h cu su K := by
  intro p e s m args below meth c H locs ls cx hR hL hl
  obtain ⟨hx, hb, hr, hml, hown, hts, hlk, hnm, hK⟩ := id cx
  have hKn := (kt_K hK).1 ci _ hc
  refine W.newcK hx hb hown (hts _ hcl) (hts _ hins) (hts _ hini) rfl hd hc1 hs1 hKn.2.1 hR.1 fun H1 kC hkC e1 z1 o1 => ?_
  refine kk p e s m args below meth c H1 locs ls cx (hR.push ⟨_, hc, ?_⟩ (by rw [z1, hR.1]) (fun q hq => o1 q (by rw [← hR.1]; exact hq))) hL hl
  exact t_OB.to (u_born ty hts hin hKn hkC e1 hty) hfs
theorem r_objInit {ix a : Nat} (hlink : Cond.methodLink M.1.cls ix objectInit ∈ GT) (hi : Cond.instanceMethod objectInit ∈ GT) (hc : Cond.code objectInit ⟨#[0xb1]⟩ 1 none ∈ GT) (hd : decode M.2.1 pc = .ok (.invokespecial ix, 3)) (hf : 1 ≤ M.2.2.2.2.frames) (hlo : (st.map fun v => v.category).sum + 12 ≤ M.2.2.2.2.locals) (kk : Gd Γ l M (pc + 3) lv st h cu su K) : Gd Γ l M pc lv (.ref a :: st) h cu su K := by
  intro p e s m args below meth c H locs ls cx hR hL hl
  obtain ⟨hx, hb, hr, hml, hown, hts, hlk, hnm, hK⟩ := id cx
  refine W.objInit hx hb hown (hts _ hlink) (hts _ hi) (hts _ hc) rfl (by rw [hml]; exact hl.1) rfl hd hf ?_ (kk p e s m args below meth c H locs ls cx hR hL hl)
  show 2 * 0 + ((st.map (tv Γ)).map fun v => v.category).sum + 12 ≤ _
  rw [List.map_map, show (fun v : Value => v.category) ∘ tv Γ = (fun v => v.category) from funext fun v => tv_cat Γ v]
  omega
end RH
