/-- what is known of the two texts and of two statics, of every state of the run -/
def StrK (B : Nat) (sa : Nat → Nat) (H0 : Heap) (U : State) : Prop := vk_R "MownLawn$Tokens" 67 str0 (sa 0) U ∧ vk_R "MownLawn$Tokens" 86 str1 (sa 1) U ∧ vk_S 2 strL strB sa (fun i => sa (i + 2)) (fun q => B ≤ q) U H0 ∧ va_Z "java/lang/String" "COMPACT_STRINGS" "Z" (.int 1) (fun q => B ≤ q) U H0 ∧ (va_Z "jdk/internal/util/Preconditions" "SIOOBE_FORMATTER" "Ljava/util/function/BiFunction;" .null (fun q => B ≤ q) U H0 ∨ va_Z "jdk/internal/util/Preconditions" "SIOOBE_FORMATTER" "Ljava/util/function/BiFunction;" (.ref (sa 4)) (fun q => B ≤ q) U H0)
theorem StrK.warm {B : Nat} {sa : Nat → Nat} {H0 : Heap} {s U : State} (hW : s.WarmedH U.vm) (h : StrK B sa H0 s) : StrK B sa H0 U := ⟨h.1.warm hW, h.2.1.warm hW, h.2.2.1.moved hW.alike, h.2.2.2.1.moved hW.alike, h.2.2.2.2.elim (fun z => Or.inl (z.moved hW.alike)) (fun z => Or.inr (z.moved hW.alike))⟩
/-! THE FRAME: a judgement over a pure heap (a list of cells at offsets), made once from the kit's rows; every method is then walked over pure heaps alone. -/
abbrev PC : Type := (FieldType × vp_A) ⊕ (Nat × List Value)
abbrev PH : Type := List PC
/-- a method: its name, its code, its locals, what it gives, its room -/
abbrev MM : Type := MethodName × ByteArray × Nat × Option FieldType × Room
/-- what is fixed for a run: the tables' numbers, the first new address, the addresses of the two texts, the heap at the start -/
abbrev GE : Type := va_G × Nat × (Nat → Nat) × Heap
def tv (Γ : GE) : Value → Value
  | .ref k => .ref (Γ.2.1 + k)
  | .float n => .ref (Γ.2.2.1 n.toNat)
  | v => v
def tq (Γ : GE) (q : Nat × Value) : Nat × Value := (q.1, tv Γ q.2)
theorem tv_cat (Γ : GE) (v : Value) : (tv Γ v).category = v.category := by cases v <;> rfl
def tA (Γ : GE) (x : vp_A) : vp_A := match x with
  | (n, .inr (.inr (.inr (.inr f)))) => (n, .inr (.inr (.inr (.inr (fun j => (f j).map (fun k => Γ.2.1 + k))))))
  | (n, .inl f) => (n, .inl f)
  | (n, .inr (.inl f)) => (n, .inr (.inl f))
  | (n, .inr (.inr (.inl f))) => (n, .inr (.inr (.inl f)))
  | (n, .inr (.inr (.inr (.inl f)))) => (n, .inr (.inr (.inr (.inl f))))
def cAt (Γ : GE) (U : State) (H : Heap) (k : Nat) (e : PC) : Prop := match e with
  | .inl (ty, x) => ∃ cA : ClassId, ArrOfT U cA ty ∧ va_RA U cA ty ∧ H[Γ.2.1 + k]? = some (vp_cell cA (tA Γ x))
  | .inr (ci, fs) => ∃ r : vw_C, vwCl[ci]? = some r ∧ t_OB (Γ.2.1 + k) (Γ.1.1 ci) r.2.2 (Γ.1.2 ci) H (vp_V (fs.map (tv Γ)))
def Rp (Γ : GE) (U : State) (H : Heap) (h : PH) : Prop :=
  H.size = Γ.2.1 + h.length ∧ (∀ (k : Nat) (e : PC), h[k]? = some e → cAt Γ U H k e) ∧ ∀ q : Nat, q < Γ.2.1 → H[q]? = Γ.2.2.2[q]?
/-- the class of int[][] is there -/
def xAO (U : State) : Prop := ∃ (comp c : ClassId) (k : Class), U.vm.findClass "[I" = some comp ∧ (U.vm.classes.findIdx? fun (x : Class) => match x.kind with | .array component _ => component == comp | _ => false) = some c ∧ U.vm.classes[c]? = some k ∧ k.kind = .array comp (.array .int) ∧ U.vm.findClass "[[I" = some c
theorem xAO.moved {u U : State} (hvm : u.vm.Alike U.vm) (h : xAO u) : xAO U := by
  obtain ⟨comp, c, k, h1, h2, h3, h4, h5⟩ := h
  obtain ⟨k', hk', he⟩ := hvm.2.2 _ _ h3
  refine ⟨comp, c, k', by rw [hvm.findClass]; exact h1, ?_, hk', by rw [he]; exact h4, by rw [hvm.findClass]; exact h5⟩
  have k1 := va_idx_bare U.vm comp
  have k2 := va_idx_bare u.vm comp
  have hb : U.vm.bare = u.vm.bare := by first | exact hvm.bare_eq | exact hvm.bare_eq.symm
  rw [hb] at k1
  exact k1.symm.trans (k2.trans h2)
/-- the script is an array of ints -/
def scK (Γ : GE) (U : State) : Prop := ∃ scr : Cell, Γ.2.2.2[Γ.2.2.1 5]? = some scr ∧ U.isArrayOf scr .int ∧ scr.vm ≠ .unknown
theorem scK.moved {Γ : GE} {u U : State} (hvm : u.vm.Alike U.vm) (h : scK Γ u) : scK Γ U := by
  obtain ⟨scr, h1, h2, h3⟩ := h
  exact ⟨scr, h1, State.isArrayOf_alike hvm h2, h3⟩
/-- what the tables know, of every state of the run -/
def Kt (Γ : GE) (U : State) : Prop :=
  (∀ (c : Nat) (q : vw_C), vwCl[c]? = some q → u_Kn U q.1 q.2.1 q.2.2 (Γ.1.1 c) (Γ.1.2 c)) ∧ (∀ w ∈ nestW, va_Nw w U) ∧ Γ.2.2.2.size = Γ.2.1 ∧ StrK Γ.2.1 Γ.2.2.1 Γ.2.2.2 U ∧ va_AO "MownLawn$Lawn" U ∧ xAO U ∧ scK Γ U
theorem cAt.moved {Γ : GE} {u U : State} {H : Heap} {k : Nat} {e : PC} (hvm : u.vm.Alike U.vm) (h : cAt Γ u H k e) : cAt Γ U H k e := by
  cases e with
  | inl x =>
    obtain ⟨ty, x⟩ := x
    obtain ⟨cA, h1, h2, h3⟩ := h
    exact ⟨cA, arrOfT_moved hvm h1, h2.moved hvm, h3⟩
  | inr x => exact h
theorem Rp.moved {Γ : GE} {u U : State} {H : Heap} {h : PH} (hvm : u.vm.Alike U.vm) (r : Rp Γ u H h) : Rp Γ U H h := ⟨r.1, fun k e he => (r.2.1 k e he).moved hvm, r.2.2⟩
theorem cAt.kept {Γ : GE} {U : State} {H H1 : Heap} {k : Nat} {e : PC} (h : cAt Γ U H k e) (hq : H1[Γ.2.1 + k]? = H[Γ.2.1 + k]?) : cAt Γ U H1 k e := by
  cases e with
  | inl x =>
    obtain ⟨ty, x⟩ := x
    obtain ⟨cA, h1, h2, h3⟩ := h
    exact ⟨cA, h1, h2, by rw [hq]; exact h3⟩
  | inr x =>
    obtain ⟨ci, fs⟩ := x
    obtain ⟨r, h1, h2⟩ := h
    exact ⟨r, h1, h2.kept hq⟩
theorem Kt.warm {Γ : GE} {s U : State} (hW : s.WarmedH U.vm) (h : Kt Γ s) : Kt Γ U := by
  obtain ⟨h1, h2, h3, h4, h6, h7, h8⟩ := h
  refine ⟨fun c q hq => u_Kn_moved hW.alike (h1 c q hq), fun w hw => ?_, h3, h4.warm hW, h6.moved hW.alike, h7.moved hW.alike, h8.moved hW.alike⟩
  have h5 := h2 w hw
  simp only [nestW, List.mem_cons, List.not_mem_nil, or_false] at hw
  rcases hw with rfl | rfl | rfl | rfl | rfl | rfl | rfl | rfl | rfl | rfl | rfl | rfl <;> exact va_Nw.warmM hW h5
/-- one cell is written -/
theorem Rp.set {Γ : GE} {U : State} {H H1 : Heap} {h : PH} {a : Nat} {e0 e : PC} (r : Rp Γ U H h) (ha : h[a]? = some e0) (he : cAt Γ U H1 a e) (hz : H1.size = H.size) (oq : ∀ q : Nat, q ≠ Γ.2.1 + a → H1[q]? = H[q]?) : Rp Γ U H1 (h.set a e) := by
  have hl := (List.getElem?_eq_some_iff.mp ha).1
  refine ⟨by rw [hz, r.1, List.length_set], fun k e' hk => ?_, fun q hq => by rw [oq q (by omega)]; exact r.2.2 q hq⟩
  by_cases hka : k = a
  · subst hka
    rw [List.getElem?_set_self hl] at hk
    cases hk
    exact he
  · rw [List.getElem?_set_ne (Ne.symm hka)] at hk
    exact (r.2.1 k e' hk).kept (oq _ (by omega))
theorem Rp.push {Γ : GE} {U : State} {H H1 : Heap} {h : PH} {e : PC} (r : Rp Γ U H h) (he : cAt Γ U H1 h.length e) (hz : H1.size = H.size + 1) (oq : ∀ q : Nat, q < H.size → H1[q]? = H[q]?) : Rp Γ U H1 (h ++ [e]) := by
  have hr1 := r.1
  refine ⟨by rw [hz, r.1, List.length_append]; rfl, fun k e' hk => ?_, fun q hq => by rw [oq q (by omega)]; exact r.2.2 q hq⟩
  by_cases hl : k < h.length
  · rw [List.getElem?_append_left hl] at hk
    exact (r.2.1 k e' hk).kept (oq _ (by omega))
  · rw [List.getElem?_append_right (by omega)] at hk
    have hz : k - h.length < 1 := (List.getElem?_eq_some_iff.mp hk).1
    have hk0 : k = h.length := by omega
    subst hk0
    rw [Nat.sub_self] at hk
    cases hk
    exact he
def Qk (Γ : GE) (K : Option Value → PH → Prop) : Array Value → State → Outcome → State → Prop := fun _ _ o t => ∃ (v : Option Value) (h' : PH), o = .returned (v.map (tv Γ)) ∧ K v h' ∧ Rp Γ t t.heap h'
def Pk (Γ : GE) (as : List Value) (h : PH) : Array Value → State → Prop := fun a U => a = (as.map (tv Γ)).toArray ∧ Kt Γ U ∧ Rp Γ U U.heap h
/-- the call of a method, with these arguments, in this heap, comes back with what K holds of -/
def Cd (Γ : GE) (l : Launch) (M : MM) (as : List Value) (h : PH) (K : Option Value → PH → Prop) : Prop :=
  Met l M.1 (.code M.1 M.2.1 M.2.2.1 M.2.2.2.1 :: GT) M.2.2.2.2 (Pk Γ as h) (Qk Γ K) M.2.2.2.2.cells M.2.2.2.2.slots (fun q => Γ.2.1 ≤ q)
def Cx (Γ : GE) (M : MM) (p : Program) (s : State) (m : MethodId) (args : Array Value) (meth : Method) (c : Code) : Prop :=
  p.tables.exec = Jvm.exec ∧ c.code = M.2.1 ∧ meth.sig.returnType = M.2.2.2.1 ∧ c.maxLocals = M.2.2.1 ∧ s.vm.findClass M.1.cls = some m.cls ∧ (∀ w ∈ GT, w.before args s = true) ∧ meth.locks = false ∧ meth.name = M.1.name ∧ Kt Γ s
/-- within a method: from here it comes back with what K holds of -/
def Gd (Γ : GE) (l : Launch) (M : MM) (pc : Nat) (lv : List (Nat × Value)) (st : List Value) (h : PH) (cu su : Nat) (K : Option Value → PH → Prop) : Prop :=
  ∀ (p : Program) (e : Env) (s : State) (m : MethodId) (args : Array Value) (below : List Frame) (meth : Method) (c : Code) (H : Heap) (locs : List Loc) (ls : Array Slot),
    Cx Γ M p s m args meth c → Rp Γ s H h → (∀ q ∈ locs, Γ.2.1 ≤ q.base) → lv_has ls M.2.2.1 (lv.map (tq Γ)) →
    W p l e M.2.2.2.2 s m args below meth c H locs cu su (MQ below (Qk Γ K) args s M.2.2.2.2.cells M.2.2.2.2.slots (fun q => Γ.2.1 ≤ q)) (F0 m pc ls (st.map (tv Γ)))
theorem lvx {Γ : GE} {ls : Array Slot} {n : Nat} {lv : List (Nat × Value)} (h : lv_has ls n (lv.map (tq Γ))) (k : Nat) {i : Nat} {v : Value} (hk : lv[k]? = some (i, v)) : ls[i]? = some (.val (tv Γ v)) :=
  lv_at h k (by rw [List.getElem?_map, hk]; rfl)
def lvst (lv : List (Nat × Value)) (i : Nat) (v : Value) : List (Nat × Value) := (i, v) :: lv.filter (fun q => !(q.1 == i) && !(q.1 + 1 == i && q.2.category == 2))
def lvst2 (lv : List (Nat × Value)) (i : Nat) (v : Value) : List (Nat × Value) := (i, v) :: lv.filter (fun q => !(q.1 == i) && (!(q.1 == i + 1) && !(q.1 + 1 == i && q.2.category == 2)))
theorem lvst_tq (Γ : GE) (lv : List (Nat × Value)) (i : Nat) (v : Value) : (i, tv Γ v) :: (lv.map (tq Γ)).filter (fun q => !(q.1 == i) && !(q.1 + 1 == i && q.2.category == 2)) = (lvst lv i v).map (tq Γ) := by
  unfold lvst
  rw [List.map_cons, List.filter_map]
  congr 2
  apply List.filter_congr
  intro q _
  simp [tq, tv_cat, Function.comp]
theorem lvst2_tq (Γ : GE) (lv : List (Nat × Value)) (i : Nat) (v : Value) : (i, tv Γ v) :: (lv.map (tq Γ)).filter (fun q => !(q.1 == i) && (!(q.1 == i + 1) && !(q.1 + 1 == i && q.2.category == 2))) = (lvst2 lv i v).map (tq Γ) := by
  unfold lvst2
  rw [List.map_cons, List.filter_map]
  congr 2
  apply List.filter_congr
  intro q _
  simp [tq, tv_cat, Function.comp]
theorem dcx {cc : ByteArray} {L : List (Nat × Instr × Nat)} (h : ∀ e ∈ L, decode cc e.1 = .ok (e.2.1, e.2.2)) (i : Nat) {pc len : Nat} {ins : Instr} (hi : L[i]? = some (pc, ins, len)) : decode cc pc = .ok (ins, len) := by
  have h1 : (pc, ins, len) ∈ L := List.mem_of_getElem? hi
  have h2 := h (pc, ins, len) h1
  exact h2
