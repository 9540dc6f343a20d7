def Sh0 : List ((FieldType × Nat) ⊕ (Nat × List Nat)) := [.inr (9, [4, 10, 49, 53, 222, 272, 277, 282, 2, 2, 0]), .inr (8, [5, 0, 6, 7, 8, 9, 0, 0, 0, 0, 1]), .inl (.int, 2000), .inl (.int, 402), .inl (.int, 402), .inl (.int, 402), .inl (.long, 402), .inr (7, [4, 11, 2, 0, 0, 0, 0, 0, 0, 0, 1]), .inr (3, [12, 0, 2, 0, 0, 0, 0, 0, 0]), .inl (.int, 24), .inr (6, [14, 15, 16, 17, 18, 19, 20, 21, 22, 25, 28, 0, 0, 0, 0, 0, 0, 0, 0, 0]), .inl (.int, 80), .inl (.long, 4), .inl (.int, 4), .inl (.long, 4), .inl (.int, 4), .inl (.int, 4), .inl (.int, 4), .inl (.int, 4), .inr (2, [23, 24, 0]), .inl (.int, 401), .inl (.int, 20), .inr (2, [26, 27, 0]), .inl (.int, 401), .inl (.int, 20), .inr (2, [29, 30, 0]), .inl (.int, 401), .inl (.int, 20), .inr (6, [32, 33, 34, 35, 36, 37, 38, 39, 40, 43, 46, 0, 0, 0, 0, 0, 0, 0, 0, 0]), .inl (.int, 80), .inl (.long, 4), .inl (.int, 4), .inl (.long, 4), .inl (.int, 4), .inl (.int, 4), .inl (.int, 4), .inl (.int, 4), .inr (2, [41, 42, 0]), .inl (.int, 401), .inl (.int, 20), .inr (2, [44, 45, 0]), .inl (.int, 401), .inl (.int, 20), .inr (2, [47, 48, 0]), .inl (.int, 401), .inl (.int, 20), .inr (1, [50, 51, 52, 2]), .inl (.int, 9), .inl (.int, 80), .inl (.int, 4)]
def Sh1 : List ((FieldType × Nat) ⊕ (Nat × List Nat)) := [.inr (5, [54, 55, 56, 0, 0]), .inl (.object "MownLawn$Lawn", 30), .inl (.object "MownLawn$Lawn", 3), .inl (.boolean, 3), .inr (4, [58, 59, 60, 61, 0, 0]), .inl (.int, 80), .inl (.int, 80), .inl (.int, 4), .inl (.int, 4), .inr (4, [63, 64, 65, 66, 0, 0]), .inl (.int, 80), .inl (.int, 80), .inl (.int, 4), .inl (.int, 4), .inr (4, [68, 69, 70, 71, 0, 0]), .inl (.int, 80), .inl (.int, 80), .inl (.int, 4), .inl (.int, 4), .inr (4, [73, 74, 75, 76, 0, 0]), .inl (.int, 80), .inl (.int, 80), .inl (.int, 4), .inl (.int, 4), .inr (4, [78, 79, 80, 81, 0, 0]), .inl (.int, 80), .inl (.int, 80), .inl (.int, 4), .inl (.int, 4), .inr (4, [83, 84, 85, 86, 0, 0]), .inl (.int, 80), .inl (.int, 80), .inl (.int, 4), .inl (.int, 4), .inr (4, [88, 89, 90, 91, 0, 0]), .inl (.int, 80), .inl (.int, 80), .inl (.int, 4), .inl (.int, 4), .inr (4, [93, 94, 95, 96, 0, 0]), .inl (.int, 80), .inl (.int, 80), .inl (.int, 4), .inl (.int, 4), .inr (4, [98, 99, 100, 101, 0, 0]), .inl (.int, 80), .inl (.int, 80), .inl (.int, 4), .inl (.int, 4), .inr (4, [103, 104, 105, 106, 0, 0])]
def Sh2 : List ((FieldType × Nat) ⊕ (Nat × List Nat)) := [.inl (.int, 80), .inl (.int, 80), .inl (.int, 4), .inl (.int, 4), .inr (4, [108, 109, 110, 111, 0, 0]), .inl (.int, 80), .inl (.int, 80), .inl (.int, 4), .inl (.int, 4), .inr (4, [113, 114, 115, 116, 0, 0]), .inl (.int, 80), .inl (.int, 80), .inl (.int, 4), .inl (.int, 4), .inr (4, [118, 119, 120, 121, 0, 0]), .inl (.int, 80), .inl (.int, 80), .inl (.int, 4), .inl (.int, 4), .inr (4, [123, 124, 125, 126, 0, 0]), .inl (.int, 80), .inl (.int, 80), .inl (.int, 4), .inl (.int, 4), .inr (4, [128, 129, 130, 131, 0, 0]), .inl (.int, 80), .inl (.int, 80), .inl (.int, 4), .inl (.int, 4), .inr (4, [133, 134, 135, 136, 0, 0]), .inl (.int, 80), .inl (.int, 80), .inl (.int, 4), .inl (.int, 4), .inr (4, [138, 139, 140, 141, 0, 0]), .inl (.int, 80), .inl (.int, 80), .inl (.int, 4), .inl (.int, 4), .inr (4, [143, 144, 145, 146, 0, 0]), .inl (.int, 80), .inl (.int, 80), .inl (.int, 4), .inl (.int, 4), .inr (4, [148, 149, 150, 151, 0, 0]), .inl (.int, 80), .inl (.int, 80), .inl (.int, 4), .inl (.int, 4), .inr (4, [153, 154, 155, 156, 0, 0])]
def Sh3 : List ((FieldType × Nat) ⊕ (Nat × List Nat)) := [.inl (.int, 80), .inl (.int, 80), .inl (.int, 4), .inl (.int, 4), .inr (4, [158, 159, 160, 161, 0, 0]), .inl (.int, 80), .inl (.int, 80), .inl (.int, 4), .inl (.int, 4), .inr (4, [163, 164, 165, 166, 0, 0]), .inl (.int, 80), .inl (.int, 80), .inl (.int, 4), .inl (.int, 4), .inr (4, [168, 169, 170, 171, 0, 0]), .inl (.int, 80), .inl (.int, 80), .inl (.int, 4), .inl (.int, 4), .inr (4, [173, 174, 175, 176, 0, 0]), .inl (.int, 80), .inl (.int, 80), .inl (.int, 4), .inl (.int, 4), .inr (4, [178, 179, 180, 181, 0, 0]), .inl (.int, 80), .inl (.int, 80), .inl (.int, 4), .inl (.int, 4), .inr (4, [183, 184, 185, 186, 0, 0]), .inl (.int, 80), .inl (.int, 80), .inl (.int, 4), .inl (.int, 4), .inr (4, [188, 189, 190, 191, 0, 0]), .inl (.int, 80), .inl (.int, 80), .inl (.int, 4), .inl (.int, 4), .inr (4, [193, 194, 195, 196, 0, 0]), .inl (.int, 80), .inl (.int, 80), .inl (.int, 4), .inl (.int, 4), .inr (4, [198, 199, 200, 201, 0, 0]), .inl (.int, 80), .inl (.int, 80), .inl (.int, 4), .inl (.int, 4), .inr (4, [203, 204, 205, 206, 0, 0])]
def Sh4 : List ((FieldType × Nat) ⊕ (Nat × List Nat)) := [.inl (.int, 80), .inl (.int, 80), .inl (.int, 4), .inl (.int, 4), .inr (4, [208, 209, 210, 211, 0, 0]), .inl (.int, 80), .inl (.int, 80), .inl (.int, 4), .inl (.int, 4), .inr (4, [213, 214, 215, 216, 0, 0]), .inl (.int, 80), .inl (.int, 80), .inl (.int, 4), .inl (.int, 4), .inr (4, [218, 219, 220, 221, 0, 0]), .inl (.int, 80), .inl (.int, 80), .inl (.int, 4), .inl (.int, 4), .inr (0, [49, 223, 224, 225, 0, 226, 231, 263, 0, 264, 265, 266, 271, 0, 0, 0, 0]), .inl (.int, 20), .inl (.int, 20), .inl (.int, 20), .inr (4, [227, 228, 229, 230, 0, 0]), .inl (.int, 80), .inl (.int, 80), .inl (.int, 4), .inl (.int, 4), .inl (.array .int, 31), .inl (.int, 80), .inl (.int, 80), .inl (.int, 80), .inl (.int, 80), .inl (.int, 80), .inl (.int, 80), .inl (.int, 80), .inl (.int, 80), .inl (.int, 80), .inl (.int, 80), .inl (.int, 80), .inl (.int, 80), .inl (.int, 80), .inl (.int, 80), .inl (.int, 80), .inl (.int, 80), .inl (.int, 80), .inl (.int, 80), .inl (.int, 80), .inl (.int, 80), .inl (.int, 80)]
def Sh5 : List ((FieldType × Nat) ⊕ (Nat × List Nat)) := [.inl (.int, 80), .inl (.int, 80), .inl (.int, 80), .inl (.int, 80), .inl (.int, 80), .inl (.int, 80), .inl (.int, 80), .inl (.int, 80), .inl (.int, 80), .inl (.int, 80), .inl (.long, 17856), .inl (.boolean, 2976), .inl (.int, 100), .inr (4, [267, 268, 269, 270, 0, 0]), .inl (.int, 80), .inl (.int, 80), .inl (.int, 4), .inl (.int, 4), .inl (.int, 80), .inr (4, [273, 274, 275, 276, 0, 0]), .inl (.int, 80), .inl (.int, 80), .inl (.int, 4), .inl (.int, 4), .inr (4, [278, 279, 280, 281, 0, 0]), .inl (.int, 80), .inl (.int, 80), .inl (.int, 4), .inl (.int, 4), .inr (4, [283, 284, 285, 286, 0, 0]), .inl (.int, 80), .inl (.int, 80), .inl (.int, 4), .inl (.int, 4), .inr (10, [0, 288, 0, 289, 0, 290, 291, 292, 293, 294, 0, 0, 0, 0, 0, 0, 0, 0, 0, 0, 0, 295, 296, 297, 298, 299, 300, 301, 302, 303, 304, 305, 306, 307, 308, 309, 310, 311, 312, 313, 0, 314, 315, 316, 317, 318, 0, 319, 320, 321, 0, 322, 323, 0, 324, 325, 0, 326, 327, 0, 328, 0, 329, 330, 331, 0, 332, 333, 334, 335]), .inl (.byte, 2000), .inl (.byte, 2000), .inl (.int, 403), .inl (.int, 403), .inl (.int, 403), .inl (.long, 403), .inl (.long, 22), .inl (.long, 8), .inl (.int, 8), .inl (.int, 2), .inl (.int, 2), .inl (.int, 96), .inl (.int, 2), .inl (.boolean, 72), .inl (.int, 2)]
def Sh6 : List ((FieldType × Nat) ⊕ (Nat × List Nat)) := [.inl (.int, 8), .inl (.int, 8), .inl (.int, 8), .inl (.int, 8), .inl (.int, 2), .inl (.int, 2), .inl (.int, 2), .inl (.int, 2), .inl (.int, 2), .inl (.int, 6), .inl (.int, 6), .inl (.boolean, 260), .inl (.int, 260), .inl (.int, 260), .inl (.int, 260), .inl (.int, 260), .inl (.int, 840), .inl (.int, 840), .inl (.int, 64), .inl (.int, 9), .inl (.int, 400), .inl (.int, 106), .inl (.int, 106), .inl (.int, 48), .inl (.int, 4), .inl (.int, 3180), .inl (.int, 20), .inl (.int, 20), .inl (.int, 1488), .inl (.int, 4), .inl (.int, 4800), .inl (.boolean, 3), .inl (.int, 318)]
/-- the cells behind the two constructors, by program -/
def Sh : List ((FieldType × Nat) ⊕ (Nat × List Nat)) := Sh0 ++ (Sh1 ++ (Sh2 ++ (Sh3 ++ (Sh4 ++ (Sh5 ++ (Sh6))))))
/-! the store: behind the constructors the cells and their sizes are fixed; what changes are ints, longs and a few references -/
abbrev Dsc : Type := (FieldType × Nat) ⊕ (Nat × List Nat)
/-- ints (fields by their place, arrays by the index), longs, references that change -/
abbrev SS : Type := (Nat → Nat → Int32) × (Nat → Nat → Int64) × (Nat → Nat → Nat)
def vlC (σ : SS) (a k c : Nat) : Value := match c with
  | 0 => .int (σ.1 a k)
  | 1 => .long (σ.2.1 a k)
  | 2 => if σ.2.2 a k = 0 then .null else .ref (σ.2.2 a k)
  | c + 3 => .ref c
def arC (σ : SS) (a n : Nat) (ty : FieldType) : vp_A := match ty with
  | .long => (n, .inr (.inl (σ.2.1 a)))
  | .object _ => (n, .inr (.inr (.inr (.inr (fun i => some (σ.2.2 a i))))))
  | .array _ => (n, .inr (.inr (.inr (.inr (fun i => some (σ.2.2 a i))))))
  | _ => (n, .inl (σ.1 a))
def mkC (σ : SS) (a : Nat) (d : Dsc) : PC := match d with
  | .inl (ty, n) => .inl (ty, arC σ a n ty)
  | .inr (ci, fd) => .inr (ci, fd.mapIdx (fun k c => vlC σ a k c))
def mk (σ : SS) : PH := Sh.mapIdx (fun a d => mkC σ a d)
def shF (a ci k : Nat) : Option Nat := match Sh[a]? with
  | some (.inr (c, fd)) => if c = ci then fd[k]? else none
  | _ => none
def shA (a : Nat) : Option (FieldType × Nat) := match Sh[a]? with
  | some (.inl x) => some x
  | _ => none
def shO (a : Nat) : Option Nat := match Sh[a]? with
  | some (.inr (c, _)) => some c
  | _ => none
theorem mk_at (σ : SS) (a : Nat) : (mk σ)[a]? = (Sh[a]?).map (mkC σ a) := by
  unfold mk
  rw [List.getElem?_mapIdx]
theorem mk_set {σ σ' : SS} {a : Nat} {c : PC} {d : Dsc} (hd : Sh[a]? = some d) (hc : mkC σ' a d = c) (ho : ∀ b d', b ≠ a → mkC σ' b d' = mkC σ b d') : (mk σ).set a c = mk σ' := by
  apply List.ext_getElem?
  intro k
  by_cases hk : k = a
  · subst hk
    have hl : k < (mk σ).length := by
      unfold mk
      rw [List.length_mapIdx]
      exact (List.getElem?_eq_some_iff.mp hd).1
    rw [List.getElem?_set_self hl, mk_at, hd, ← hc]
    rfl
  · rw [List.getElem?_set_ne (Ne.symm hk), mk_at, mk_at]
    cases Sh[k]? with
    | none => rfl
    | some d' => exact congrArg some (ho k d' hk).symm
def u2 (f : Nat → Nat → Int32) (a k : Nat) (v : Int32) : Nat → Nat → Int32 := fun b => if b = a then upd (f a) k v else f b
def u2L (f : Nat → Nat → Int64) (a k : Nat) (v : Int64) : Nat → Nat → Int64 := fun b => if b = a then vp_updL (f a) k v else f b
def u2R (f : Nat → Nat → Nat) (a k : Nat) (v : Nat) : Nat → Nat → Nat := fun b => if b = a then va_up (f a) k v else f b
def sI (σ : SS) (a k : Nat) (v : Int32) : SS := (u2 σ.1 a k v, σ.2)
def sJ (σ : SS) (a k : Nat) (v : Int64) : SS := (σ.1, u2L σ.2.1 a k v, σ.2.2)
def sR (σ : SS) (a k v : Nat) : SS := (σ.1, σ.2.1, u2R σ.2.2 a k v)
/-- a whole row of ints anew -/
def sA (σ : SS) (a : Nat) (f : Nat → Int32) : SS := (fun b => if b = a then f else σ.1 b, σ.2)
theorem vlC_off {σ σ' : SS} {b : Nat} (h1 : σ'.1 b = σ.1 b) (h2 : σ'.2.1 b = σ.2.1 b) (h3 : σ'.2.2 b = σ.2.2 b) (d : Dsc) : mkC σ' b d = mkC σ b d := by
  cases d with
  | inl x =>
    obtain ⟨ty, n⟩ := x
    show Sum.inl (ty, arC σ' b n ty) = Sum.inl (ty, arC σ b n ty)
    cases ty <;> simp [arC, h1, h2, h3]
  | inr x =>
    obtain ⟨ci, fd⟩ := x
    show Sum.inr (ci, fd.mapIdx (fun k c => vlC σ' b k c)) = Sum.inr (ci, fd.mapIdx (fun k c => vlC σ b k c))
    have e : (fun k c => vlC σ' b k c) = (fun k c => vlC σ b k c) := by
      funext k c
      match c with
      | 0 => simp [vlC, h1]
      | 1 => simp [vlC, h2]
      | 2 => simp [vlC, h3]
      | c + 3 => rfl
    rw [e]
theorem shF_at {a ci k c : Nat} (h : shF a ci k = some c) : ∃ fd, Sh[a]? = some (.inr (ci, fd)) ∧ fd[k]? = some c := by
  unfold shF at h
  cases hs : Sh[a]? with
  | none => rw [hs] at h; cases h
  | some d =>
    rw [hs] at h
    cases d with
    | inl x => cases h
    | inr x =>
      obtain ⟨c1, fd⟩ := x
      simp only at h
      by_cases hc : c1 = ci
      · rw [if_pos hc] at h
        exact ⟨fd, by rw [hc], h⟩
      · rw [if_neg hc] at h
        cases h
theorem shA_at {a n : Nat} {ty : FieldType} (h : shA a = some (ty, n)) : Sh[a]? = some (.inl (ty, n)) := by
  unfold shA at h
  cases hs : Sh[a]? with
  | none => rw [hs] at h; cases h
  | some d =>
    rw [hs] at h
    cases d with
    | inl x => cases h; rfl
    | inr x => cases h
theorem mk_f {σ : SS} {a ci k c : Nat} (h : shF a ci k = some c) : ∃ fs, (mk σ)[a]? = some (.inr (ci, fs)) ∧ fs[k]? = some (vlC σ a k c) := by
  obtain ⟨fd, h1, h2⟩ := shF_at h
  refine ⟨fd.mapIdx (fun k c => vlC σ a k c), by rw [mk_at, h1]; rfl, ?_⟩
  rw [List.getElem?_mapIdx, h2]
  rfl
theorem mk_a {σ : SS} {a n : Nat} {ty : FieldType} (h : shA a = some (ty, n)) : (mk σ)[a]? = some (.inl (ty, arC σ a n ty)) := by
  rw [mk_at, shA_at h]
  rfl
/-- a field is written -/
theorem mk_sf {σ σ' : SS} {a ci k c : Nat} {v : Value} (h : shF a ci k = some c) (hv : vlC σ' a k c = v) (hk : ∀ j c', j ≠ k → vlC σ' a j c' = vlC σ a j c') (ho : ∀ b d', b ≠ a → mkC σ' b d' = mkC σ b d') : ∃ fs, (mk σ)[a]? = some (.inr (ci, fs)) ∧ k < fs.length ∧ (mk σ).set a (.inr (ci, fs.set k v)) = mk σ' := by
  obtain ⟨fd, h1, h2⟩ := shF_at h
  have hl := (List.getElem?_eq_some_iff.mp h2).1
  refine ⟨fd.mapIdx (fun k c => vlC σ a k c), by rw [mk_at, h1]; rfl, by rw [List.length_mapIdx]; exact hl, mk_set h1 ?_ ho⟩
  show Sum.inr (ci, fd.mapIdx (fun k c => vlC σ' a k c)) = Sum.inr (ci, (fd.mapIdx (fun k c => vlC σ a k c)).set k v)
  congr 2
  apply List.ext_getElem?
  intro j
  by_cases hj : j = k
  · subst hj
    rw [List.getElem?_set_self (by rw [List.length_mapIdx]; exact hl), List.getElem?_mapIdx, h2, ← hv]
    rfl
  · rw [List.getElem?_set_ne (Ne.symm hj), List.getElem?_mapIdx, List.getElem?_mapIdx]
    cases fd[j]? with
    | none => rfl
    | some c' => exact congrArg some (hk j c' hj)
theorem sI_off {σ : SS} {a k b : Nat} {v : Int32} (d : Dsc) (hb : b ≠ a) : mkC (sI σ a k v) b d = mkC σ b d := by
  apply vlC_off
  · simp [sI, u2, hb]
  · rfl
  · rfl
theorem sJ_off {σ : SS} {a k b : Nat} {v : Int64} (d : Dsc) (hb : b ≠ a) : mkC (sJ σ a k v) b d = mkC σ b d := by
  apply vlC_off
  · rfl
  · simp [sJ, u2L, hb]
  · rfl
theorem sR_off {σ : SS} {a k b v : Nat} (d : Dsc) (hb : b ≠ a) : mkC (sR σ a k v) b d = mkC σ b d := by
  apply vlC_off
  · rfl
  · rfl
  · simp [sR, u2R, hb]
theorem sA_off {σ : SS} {a b : Nat} {f : Nat → Int32} (d : Dsc) (hb : b ≠ a) : mkC (sA σ a f) b d = mkC σ b d := by
  apply vlC_off
  · simp [sA, hb]
  · rfl
  · rfl
def K2 (K : Option Value → SS → Prop) : Option Value → PH → Prop := fun v h => ∃ σ, h = mk σ ∧ K v σ
def G2 (Γ : GE) (l : Launch) (M : MM) (pc : Nat) (lv : List (Nat × Value)) (st : List Value) (σ : SS) (K : Option Value → SS → Prop) : Prop := Gd Γ l M pc lv st (mk σ) 0 0 (K2 K)
def C2 (Γ : GE) (l : Launch) (M : MM) (as : List Value) (σ : SS) (K : Option Value → SS → Prop) : Prop := Cd Γ l M as (mk σ) (K2 K)
def Ri (P : Int32 → SS → Prop) : Option Value → SS → Prop := fun v σ => ∃ x, v = some (.int x) ∧ P x σ
def Rl (P : Int64 → SS → Prop) : Option Value → SS → Prop := fun v σ => ∃ x, v = some (.long x) ∧ P x σ
def Rv (P : SS → Prop) : Option Value → SS → Prop := fun v σ => v = none ∧ P σ
section S2
variable {Γ : GE} {l : Launch} {M N : MM} {pc ix n : Nat} {lv : List (Nat × Value)} {st as : List Value} {σ : SS} {K K' : Option Value → SS → Prop}
theorem C2.mono (c : C2 Γ l M as σ K) (hk : ∀ v σ', K v σ' → K' v σ') : C2 Γ l M as σ K' := Cd.mono c (fun v h ⟨σ', h1, h2⟩ => ⟨σ', h1, hk v σ' h2⟩)
theorem G2.mono (c : G2 Γ l M pc lv st σ K) (hk : ∀ v σ', K v σ' → K' v σ') : G2 Γ l M pc lv st σ K' := Gd.mono c (fun v h ⟨σ', h1, h2⟩ => ⟨σ', h1, hk v σ' h2⟩)
theorem c2_of (hp : plainName M.1.cls = true) (hn : (lg_sl as).length ≤ M.2.2.1) (hlv : lv_args 0 as = lv) (hg : G2 Γ l M 0 lv [] σ K) : C2 Γ l M as σ K := cd_of hp hn hlv hg
theorem s_geti {ci k a : Nat} (f : fOK M.1.cls ix ci k) (hd : decode M.2.1 pc = .ok (.getfield ix, 3)) (hs : shF a ci k = some 0) (kk : G2 Γ l M (pc + 3) lv (.int (σ.1 a k) :: st) σ K) : G2 Γ l M pc lv (.ref a :: st) σ K := by
  obtain ⟨fs, h1, h2⟩ := mk_f (σ := σ) hs
  exact r_getfield f hd h1 h2 kk
theorem s_getj {ci k a : Nat} (f : fOK M.1.cls ix ci k) (hd : decode M.2.1 pc = .ok (.getfield ix, 3)) (hs : shF a ci k = some 1) (kk : G2 Γ l M (pc + 3) lv (.long (σ.2.1 a k) :: st) σ K) : G2 Γ l M pc lv (.ref a :: st) σ K := by
  obtain ⟨fs, h1, h2⟩ := mk_f (σ := σ) hs
  exact r_getfield f hd h1 h2 kk
theorem s_getm {ci k a : Nat} (f : fOK M.1.cls ix ci k) (hd : decode M.2.1 pc = .ok (.getfield ix, 3)) (hs : shF a ci k = some 2) (h0 : σ.2.2 a k ≠ 0) (kk : G2 Γ l M (pc + 3) lv (.ref (σ.2.2 a k) :: st) σ K) : G2 Γ l M pc lv (.ref a :: st) σ K := by
  obtain ⟨fs, h1, h2⟩ := mk_f (σ := σ) hs
  have e : vlC σ a k 2 = .ref (σ.2.2 a k) := by
    show (if σ.2.2 a k = 0 then Value.null else .ref (σ.2.2 a k)) = _
    rw [if_neg h0]
  rw [e] at h2
  exact r_getfield f hd h1 h2 kk
theorem s_getr {ci k a b : Nat} (f : fOK M.1.cls ix ci k) (hd : decode M.2.1 pc = .ok (.getfield ix, 3)) (hs : shF a ci k = some (b + 3)) (kk : G2 Γ l M (pc + 3) lv (.ref b :: st) σ K) : G2 Γ l M pc lv (.ref a :: st) σ K := by
  obtain ⟨fs, h1, h2⟩ := mk_f (σ := σ) hs
  exact r_getfield f hd h1 h2 kk
theorem s_puti {ci k a : Nat} {x : Int32} (f : fPut M.1.cls ix ci k .int false) (hd : decode M.2.1 pc = .ok (.putfield ix, 3)) (hs : shF a ci k = some 0) (kk : G2 Γ l M (pc + 3) lv st (sI σ a k x) K) : G2 Γ l M pc lv (.int x :: .ref a :: st) σ K := by
  obtain ⟨fs, h1, h2, h3⟩ := mk_sf (σ := σ) (σ' := sI σ a k x) (v := .int x) hs (by simp [vlC, sI, u2, upd]) (fun j c' hj => by
    match c' with
    | 0 => simp [vlC, sI, u2, upd, hj]
    | 1 => rfl
    | 2 => rfl
    | c + 3 => rfl) (fun b d' hb => sI_off d' hb)
  refine r_putfield f hd h1 rfl rfl h2 ?_
  rw [h3]
  exact kk
theorem s_putz {ci k a : Nat} {x : Int32} (f : fPut M.1.cls ix ci k .boolean false) (hd : decode M.2.1 pc = .ok (.putfield ix, 3)) (hs : shF a ci k = some 0) (hx : narrow .boolean (.int x) = .int x) (hx2 : fits .boolean (.int x) = true) (kk : G2 Γ l M (pc + 3) lv st (sI σ a k x) K) : G2 Γ l M pc lv (.int x :: .ref a :: st) σ K := by
  obtain ⟨fs, h1, h2, h3⟩ := mk_sf (σ := σ) (σ' := sI σ a k x) (v := .int x) hs (by simp [vlC, sI, u2, upd]) (fun j c' hj => by
    match c' with
    | 0 => simp [vlC, sI, u2, upd, hj]
    | 1 => rfl
    | 2 => rfl
    | c + 3 => rfl) (fun b d' hb => sI_off d' hb)
  refine r_putfield f hd h1 hx hx2 h2 ?_
  rw [h3]
  exact kk
theorem s_putj {ci k a : Nat} {x : Int64} (f : fPut M.1.cls ix ci k .long false) (hd : decode M.2.1 pc = .ok (.putfield ix, 3)) (hs : shF a ci k = some 1) (kk : G2 Γ l M (pc + 3) lv st (sJ σ a k x) K) : G2 Γ l M pc lv (.long x :: .ref a :: st) σ K := by
  obtain ⟨fs, h1, h2, h3⟩ := mk_sf (σ := σ) (σ' := sJ σ a k x) (v := .long x) hs (by simp [vlC, sJ, u2L, vp_updL]) (fun j c' hj => by
    match c' with
    | 0 => rfl
    | 1 => simp [vlC, sJ, u2L, vp_updL, hj]
    | 2 => rfl
    | c + 3 => rfl) (fun b d' hb => sJ_off d' hb)
  refine r_putfield f hd h1 rfl rfl h2 ?_
  rw [h3]
  exact kk
theorem s_putm {ci k a x : Nat} {C : String} (f : fPut M.1.cls ix ci k (.object C) false) (hd : decode M.2.1 pc = .ok (.putfield ix, 3)) (hs : shF a ci k = some 2) (h0 : x ≠ 0) (kk : G2 Γ l M (pc + 3) lv st (sR σ a k x) K) : G2 Γ l M pc lv (.ref x :: .ref a :: st) σ K := by
  obtain ⟨fs, h1, h2, h3⟩ := mk_sf (σ := σ) (σ' := sR σ a k x) (v := .ref x) hs (by simp [vlC, sR, u2R, va_up, h0]) (fun j c' hj => by
    match c' with
    | 0 => rfl
    | 1 => rfl
    | 2 => simp [vlC, sR, u2R, va_up, hj]
    | c + 3 => rfl) (fun b d' hb => sR_off d' hb)
  refine r_putfield f hd h1 rfl rfl h2 ?_
  rw [h3]
  exact kk
theorem s_iald {a n : Nat} {i : Int32} (hd : decode M.2.1 pc = .ok (.iaload, 1)) (hs : shA a = some (.int, n)) (hi : vp_in i n) (kk : G2 Γ l M (pc + 1) lv (.int (σ.1 a i.toNatClampNeg) :: st) σ K) : G2 Γ l M pc lv (.int i :: .ref a :: st) σ K := r_iaload hd (mk_a hs) hi kk
theorem s_bald {a n : Nat} {i : Int32} (hd : decode M.2.1 pc = .ok (.baload, 1)) (hs : shA a = some (.byte, n)) (hi : vp_in i n) (kk : G2 Γ l M (pc + 1) lv (.int (σ.1 a i.toNatClampNeg) :: st) σ K) : G2 Γ l M pc lv (.int i :: .ref a :: st) σ K := r_baload hd (mk_a hs) hi kk
theorem s_zald {a n : Nat} {i : Int32} (hd : decode M.2.1 pc = .ok (.baload, 1)) (hs : shA a = some (.boolean, n)) (hi : vp_in i n) (kk : G2 Γ l M (pc + 1) lv (.int (σ.1 a i.toNatClampNeg) :: st) σ K) : G2 Γ l M pc lv (.int i :: .ref a :: st) σ K := r_zaload hd (mk_a hs) hi kk
theorem s_lald {a n : Nat} {i : Int32} (hd : decode M.2.1 pc = .ok (.laload, 1)) (hs : shA a = some (.long, n)) (hi : vp_in i n) (kk : G2 Γ l M (pc + 1) lv (.long (σ.2.1 a i.toNatClampNeg) :: st) σ K) : G2 Γ l M pc lv (.int i :: .ref a :: st) σ K := r_laload hd (mk_a hs) hi kk
theorem s_aald {a n : Nat} {i : Int32} {ty : FieldType} (hd : decode M.2.1 pc = .ok (.aaload, 1)) (hs : shA a = some (ty, n)) (hty : ty.isReference = true) (hi : vp_in i n) (kk : G2 Γ l M (pc + 1) lv (.ref (σ.2.2 a i.toNatClampNeg) :: st) σ K) : G2 Γ l M pc lv (.int i :: .ref a :: st) σ K := by
  have h1 := mk_a (σ := σ) hs
  cases ty with
  | object C => exact r_aaload hd h1 rfl hi rfl kk
  | array t => exact r_aaload hd h1 rfl hi rfl kk
  | _ => cases hty
theorem s_alen {a n : Nat} (hd : decode M.2.1 pc = .ok (.arraylength, 1)) (hs : shA a = some (.int, n)) (kk : G2 Γ l M (pc + 1) lv (.int (Int32.ofNat n) :: st) σ K) : G2 Γ l M pc lv (.ref a :: st) σ K := r_alen hd (mk_a hs) kk
theorem s_iast {a n : Nat} {i x : Int32} (hd : decode M.2.1 pc = .ok (.iastore, 1)) (hs : shA a = some (.int, n)) (hi : vp_in i n) (kk : G2 Γ l M (pc + 1) lv st (sI σ a i.toNatClampNeg x) K) : G2 Γ l M pc lv (.int x :: .int i :: .ref a :: st) σ K := by
  refine r_iastore hd (mk_a hs) hi ?_
  rw [mk_set (σ' := sI σ a i.toNatClampNeg x) (shA_at hs) (by show Sum.inl (FieldType.int, n, Sum.inl _) = _; simp [sI, u2]) (fun b d' hb => sI_off d' hb)]
  exact kk
theorem s_bast {a n : Nat} {i x : Int32} (hd : decode M.2.1 pc = .ok (.bastore, 1)) (hs : shA a = some (.byte, n)) (hi : vp_in i n) (kk : G2 Γ l M (pc + 1) lv st (sI σ a i.toNatClampNeg (vp_nar .byte x)) K) : G2 Γ l M pc lv (.int x :: .int i :: .ref a :: st) σ K := by
  refine r_bastore hd (mk_a hs) hi ?_
  rw [mk_set (σ' := sI σ a i.toNatClampNeg (vp_nar .byte x)) (shA_at hs) (by show Sum.inl (FieldType.byte, n, Sum.inl _) = _; simp [sI, u2]) (fun b d' hb => sI_off d' hb)]
  exact kk
theorem s_zast {a n : Nat} {i x : Int32} (hd : decode M.2.1 pc = .ok (.bastore, 1)) (hs : shA a = some (.boolean, n)) (hi : vp_in i n) (kk : G2 Γ l M (pc + 1) lv st (sI σ a i.toNatClampNeg (vp_nar .boolean x)) K) : G2 Γ l M pc lv (.int x :: .int i :: .ref a :: st) σ K := by
  refine r_zastore hd (mk_a hs) hi ?_
  rw [mk_set (σ' := sI σ a i.toNatClampNeg (vp_nar .boolean x)) (shA_at hs) (by show Sum.inl (FieldType.boolean, n, Sum.inl _) = _; simp [sI, u2]) (fun b d' hb => sI_off d' hb)]
  exact kk
theorem s_last {a n : Nat} {i : Int32} {x : Int64} (hd : decode M.2.1 pc = .ok (.lastore, 1)) (hs : shA a = some (.long, n)) (hi : vp_in i n) (kk : G2 Γ l M (pc + 1) lv st (sJ σ a i.toNatClampNeg x) K) : G2 Γ l M pc lv (.long x :: .int i :: .ref a :: st) σ K := by
  refine r_lastore hd (mk_a hs) hi ?_
  rw [mk_set (σ' := sJ σ a i.toNatClampNeg x) (shA_at hs) (by show Sum.inl (FieldType.long, n, Sum.inr (Sum.inl _)) = _; simp [sJ, u2L]) (fun b d' hb => sJ_off d' hb)]
  exact kk
theorem s_copy {a0 a n0 n1 : Nat} {sp dp k : Int32} (hlink : Cond.methodLink M.1.cls ix arraycopyName ∈ GT) (hnat : Cond.native arraycopyName ∈ GT) (hstat : Cond.static arraycopyName ∈ GT) (hini : Cond.initialized "java/lang/System" ∈ GT) (hd : decode M.2.1 pc = .ok (.invokestatic ix, 3)) (ha0 : shA a0 = some (.int, n0)) (ha : shA a = some (.int, n1))
    (h1 : ¬ sp < 0) (h2 : ¬ dp < 0) (h3 : ¬ k < 0) (h4 : sp.toNatClampNeg + k.toNatClampNeg ≤ n0) (h5 : dp.toNatClampNeg + k.toNatClampNeg ≤ n1) (hframes : 1 ≤ M.2.2.2.2.frames) (hlocals : (st.map fun v => v.category).sum + (nativeFrameWords "java/lang/System" "arraycopy" 5 + 11) ≤ M.2.2.2.2.locals)
    (kk : G2 Γ l M (pc + 3) lv st (sA σ a (va_cpy (σ.1 a0) (σ.1 a) sp.toNatClampNeg dp.toNatClampNeg k.toNatClampNeg)) K) : G2 Γ l M pc lv (.int k :: .int dp :: .ref a :: .int sp :: .ref a0 :: st) σ K := by
  refine r_copyi hlink hnat hstat hini hd (mk_a ha0) (mk_a ha) h1 h2 h3 h4 h5 hframes hlocals ?_
  rw [mk_set (σ' := sA σ a (va_cpy (σ.1 a0) (σ.1 a) sp.toNatClampNeg dp.toNatClampNeg k.toNatClampNeg)) (shA_at ha) (by show Sum.inl (FieldType.int, n1, Sum.inl _) = _; simp [sA]) (fun b d' hb => sA_off d' hb)]
  exact kk
/-- what a call of an object's method wants to know of it -/
theorem shO_at {a ci : Nat} (h : shO a = some ci) : ∃ fs, (mk σ)[a]? = some (.inr (ci, fs)) := by
  unfold shO at h
  cases hs : Sh[a]? with
  | none => rw [hs] at h; cases h
  | some d =>
    rw [hs] at h
    cases d with
    | inl x => cases h
    | inr x => cases h; exact ⟨_, by rw [mk_at, hs]; rfl⟩
def noNew (N : MM) : Prop := N.2.2.2.2.cells = 0 ∧ N.2.2.2.2.slots = 0
theorem k2_call {b : Nat} (hz : noNew N) : (fun (v : Option Value) (h' : PH) => Gd Γ l M b lv (v.toList ++ st) h' (0 + N.2.2.2.2.cells) (0 + N.2.2.2.2.slots) (K2 K)) = (fun (v : Option Value) (h' : PH) => Gd Γ l M b lv (v.toList ++ st) h' 0 0 (K2 K)) := by
  rw [hz.1, hz.2]
theorem s_callV {a ci : Nat} {C : String} {T : u_T} {NN : Nat} {sk : List Value} (hz : noNew N) (cw : cV M N ix n) (hd : decode M.2.1 pc = .ok (.invokevirtual ix, 3)) (hsk : sk = as.reverse ++ .ref a :: st) (hn : as.length = n) (hw : (st.map fun v => v.category).sum ≤ 8) (ha : shO a = some ci) (hc : vwCl[ci]? = some (C, T, NN)) (hC : N.1.cls = C)
    (kk : C2 Γ l N (.ref a :: as) σ (fun v σ' => G2 Γ l M (pc + 3) lv (v.toList ++ st) σ' K)) : G2 Γ l M pc lv sk σ K := by
  obtain ⟨fs, h1⟩ := shO_at (σ := σ) ha
  refine r_callV cw hd hsk hn hw h1 hc hC (by rw [hz.1, hz.2]; exact ⟨Nat.zero_le _, Nat.zero_le _⟩) ?_
  rw [k2_call hz]
  exact Cd.mono kk (fun v h ⟨σ', e1, e2⟩ => by rw [e1]; exact e2)
theorem s_callS {sk : List Value} (hz : noNew N) (cw : cS M N ix n) (hd : decode M.2.1 pc = .ok (.invokestatic ix, 3)) (hsk : sk = as.reverse ++ st) (hn : as.length = n) (hw : (st.map fun v => v.category).sum ≤ 8)
    (kk : C2 Γ l N as σ (fun v σ' => G2 Γ l M (pc + 3) lv (v.toList ++ st) σ' K)) : G2 Γ l M pc lv sk σ K := by
  refine r_callS cw hd hsk hn hw (by rw [hz.1, hz.2]; exact ⟨Nat.zero_le _, Nat.zero_le _⟩) ?_
  rw [k2_call hz]
  exact Cd.mono kk (fun v h ⟨σ', e1, e2⟩ => by rw [e1]; exact e2)
theorem s_callSN {sk : List Value} (hz : noNew N) (cw : cSN M N ix n) (hd : decode M.2.1 pc = .ok (.invokestatic ix, 3)) (hsk : sk = as.reverse ++ st) (hn : as.length = n) (hw : (st.map fun v => v.category).sum ≤ 8)
    (kk : C2 Γ l N as σ (fun v σ' => G2 Γ l M (pc + 3) lv (v.toList ++ st) σ' K)) : G2 Γ l M pc lv sk σ K := by
  refine r_callSN cw hd hsk hn hw (by rw [hz.1, hz.2]; exact ⟨Nat.zero_le _, Nat.zero_le _⟩) ?_
  rw [k2_call hz]
  exact Cd.mono kk (fun v h ⟨σ', e1, e2⟩ => by rw [e1]; exact e2)
theorem s_ret {v : Value} {ty : FieldType} (ho : M.2.2.2.1 = some ty) {x : Int32} (hv : v = .int x) (hn : narrow ty (.int x) = .int x) (hq : K (some (.int x)) σ) (hd : decode M.2.1 pc = .ok (.ireturn, 1)) : G2 Γ l M pc lv [v] σ K := by
  subst hv
  exact r_zret ho hn ⟨σ, rfl, hq⟩ (Nat.zero_le _) (Nat.zero_le _) hd
theorem s_lret {x : Int64} (ho : M.2.2.2.1 = some .long) (hq : K (some (.long x)) σ) (hd : decode M.2.1 pc = .ok (.lreturn, 1)) : G2 Γ l M pc lv [.long x] σ K := r_lret ho ⟨σ, rfl, hq⟩ (Nat.zero_le _) (Nat.zero_le _) hd
theorem s_vret (ho : M.2.2.2.1 = none) (hq : K none σ) (hd : decode M.2.1 pc = .ok (.return_, 1)) : G2 Γ l M pc lv [] σ K := r_vret ho ⟨σ, rfl, hq⟩ (Nat.zero_le _) (Nat.zero_le _) hd
end S2
section S2b
variable {Γ : GE} {l : Launch} {M N : MM} {pc ix n : Nat} {lv : List (Nat × Value)} {st as : List Value} {σ : SS} {K K' : Option Value → SS → Prop}
theorem s_getmE {ci k a b : Nat} (f : fOK M.1.cls ix ci k) (hd : decode M.2.1 pc = .ok (.getfield ix, 3)) (hs : shF a ci k = some 2) (hb : σ.2.2 a k = b) (h0 : b ≠ 0) (kk : G2 Γ l M (pc + 3) lv (.ref b :: st) σ K) : G2 Γ l M pc lv (.ref a :: st) σ K := by
  subst hb
  exact s_getm f hd hs h0 kk
theorem s_aaldE {a n b : Nat} {i : Int32} {ty : FieldType} (hd : decode M.2.1 pc = .ok (.aaload, 1)) (hs : shA a = some (ty, n)) (hty : ty.isReference = true) (hi : vp_in i n) (hb : σ.2.2 a i.toNatClampNeg = b) (kk : G2 Γ l M (pc + 1) lv (.ref b :: st) σ K) : G2 Γ l M pc lv (.int i :: .ref a :: st) σ K := by
  subst hb
  exact s_aald hd hs hty hi kk
end S2b
