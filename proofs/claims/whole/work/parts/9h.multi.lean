/-! rows of rows, made at once -/
section MU
theorem wp_row {E : CtlPost} {e : Env} {d : Bool} {acts : List Action} {s : State} {cI x : ClassId} {kI : Class} {n2 : Int32} {M : Nat} {Q : Addr → Pre} (hk : s.vm.classes[cI]? = some kI) (hkind : kI.kind = .array x .int) (hn : ¬ n2 < 0) (hM : n2.toNatClampNeg = M) (hlimit : ¬ M > e.platform.arrayLengthLimit) (hheap : ¬ M * 4 > e.platform.maxHeapBytes) (hcells : s.heap.size < e.platform.maxCells) (hslots : s.slotsUsed + M ≤ e.platform.maxSlots)
    (hq : ∀ acts', Q s.heap.size d acts' (s.pushCell (arrV cI M (fun _ => .int 0)))) : wp (Op.multianewarray.make cI [n2]) Q E e d acts s := by
  subst hM
  simp only [Op.multianewarray.make, wp_bind', W.ite, hn, if_false, wp_pure', W.theClass, hk, Option.some.injEq, exists_eq_left', hkind]
  refine W.newArray_of (init := .int 0) hk hkind hlimit hheap hcells hslots rfl (fun acts' => ?_)
  have h := hq acts'
  rw [← arrV_new] at h
  exact h
variable {p : Program} {l : Launch} {e : Env} {R : Room} {s : State} {m : MethodId} {args : Array Value} {below : List Frame} {meth : Method} {c : Code} {T : State} {locs : List Loc} {cells slots : Nat}
/-- the rows that stand -/
def rwS (b N M : Nat) (cO cI : ClassId) (H0 H : Heap) (i : Nat) : Prop := H.size = b + 1 + i ∧ (∀ q, q < b → H[q]? = H0[q]?) ∧ H[b]? = some (arrV cO N (fun j => if j < i then .ref (b + 1 + j) else .null)) ∧ ∀ j, j < i → H[b + 1 + j]? = some (arrV cI M (fun _ => .int 0))
theorem wp_rows {E : CtlPost} {d : Bool} {acts : List Action} {g : JFrame} {cI cO x : ClassId} {kI kO : Class} {n1 n2 : Int32} {N M : Nat} {Q : Addr → Pre} (X : Stand p l e R s m args below meth c T locs cells slots) (hk : T.vm.classes[cI]? = some kI) (hkind : kI.kind = .array x .int) (hkO : T.vm.classes[cO]? = some kO) (hkindO : kO.kind = .array cI (.array .int))
    (hn1 : ¬ n1 < 0) (hn2 : ¬ n2 < 0) (h0 : ¬ (n1 == 0) = true) (hN : n1.toNatClampNeg = N) (hM : n2.toNatClampNeg = M) (hNb : N * 4 ≤ 536870912) (hMb : M * 4 ≤ 536870912) (hcells : cells + (1 + N) ≤ R.cells) (hslots : slots + (N + M * N) ≤ R.slots)
    (hq : ∀ T' d' acts' locs', Stand p l e R s m args below meth c T' locs' (cells + 1 + N) (slots + N + M * N) → rwS T.heap.size N M cO cI T.heap T'.heap N → (∀ q ∈ locs', q ∈ locs ∨ q.base = T.heap.size) → Q T.heap.size d' acts' (T'.setTop g)) : wp (Op.multianewarray.make cO [n1, n2]) Q E e d acts (T.setTop g) := by
  obtain ⟨r1, r2⟩ := X.roomAbove hcells hslots
  have lim : ∀ k, k * 4 ≤ 536870912 → ¬ k > e.platform.arrayLengthLimit := fun k h => by rw [Launch.admits_arrayLengthLimit X.admits]; omega
  have hep : ∀ k, k * 4 ≤ 536870912 → ¬ k * 4 > e.platform.maxHeapBytes := fun k h => by rw [Launch.admits_maxHeapBytes X.admits]; omega
  have X1 := X.pushed (arrV cO N (fun _ => .null))
  rw [arrV_size] at X1
  rw [Op.multianewarray.make]
  simp only [wp_bind', W.ite, hn1, if_false, wp_pure', W.theClass, State.vm_setTop, hkO, Option.some.injEq, exists_eq_left', hkindO]
  refine W.newArray_of (s := T.setTop g) (init := .null) hkO hkindO (by rw [hN]; exact lim N hNb) (by rw [hN]; exact hep N hNb) (by show T.heap.size < _; omega) (by rw [hN]; show T.slotsUsed + N ≤ _; omega) rfl (fun acts1 => ?_)
  simp only [h0, if_false, Bool.false_eq_true, wp_pure', wp_bind', hN]
  rw [arrV_new, State.pushCell_setTop, Std.Legacy.Range.forIn_eq_forIn_range']
  refine wp_forIn_inv (fun rest s' => ∃ i T' locs', rest = List.range' i (N - i) ∧ i ≤ N ∧ s' = T'.setTop g ∧ Stand p l e R s m args below meth c T' locs' (cells + 1 + i) (slots + N + M * i) ∧ T'.vm = T.vm ∧ rwS T.heap.size N M cO cI T.heap T'.heap i ∧ ∀ q ∈ locs', q ∈ locs ∨ q.base = T.heap.size) _ _ ?_ ?_ ?_
  · refine ⟨0, _, locs, ?_, Nat.zero_le _, rfl, X1, rfl, ⟨?_, ?_, ?_, ?_⟩, fun q h => Or.inl h⟩
    · simp [Std.Legacy.Range.size]
    · rw [State.heap_pushCell, Array.size_push]
    · intro q h
      rw [State.heap_pushCell, Array.getElem?_push, if_neg (by omega)]
    · rw [State.heap_pushCell, Array.getElem?_push, if_pos rfl]
      rfl
    · intro j h
      exact absurd h (by omega)
  · rintro y rest s' d' acts' Q' ⟨i, T', locs', hr, hi, rfl, X', hvm, ⟨z1, z2, z3, z4⟩, hl⟩ hQ
    have hlt : i < N := by
      rcases Nat.lt_or_ge i N with h | h
      · exact h
      · rw [show N - i = 0 by omega] at hr
        cases hr
    rw [show N - i = (N - (i + 1)) + 1 by omega, List.range'_succ] at hr
    obtain ⟨rfl, rfl⟩ := List.cons.inj hr
    have hMi : M * (y + 1) ≤ M * N := Nat.mul_le_mul_left M (by omega)
    obtain ⟨r3, r4⟩ := X'.roomAbove (a := 1) (b := M) (by omega) (by rw [Nat.mul_succ] at hMi; omega)
    simp only [wp_bind']
    refine wp_row (s := T'.setTop g) (by show T'.vm.classes[cI]? = _; rw [hvm]; exact hk) hkind hn2 hM (lim M hMb) (hep M hMb) (by show T'.heap.size < _; omega) (by show T'.slotsUsed + M ≤ _; omega) (fun acts2 => ?_)
    rw [wp_bind', W.writeLoc]
    have X2 := X'.pushed (arrV cI M (fun _ => .int 0))
    have hb : (T'.pushCell (arrV cI M (fun _ => .int 0))).heap[T.heap.size]? = some (arrV cO N (fun j => if j < y then .ref (T.heap.size + 1 + j) else .null)) := by
      rw [State.heap_pushCell, Array.getElem?_push, if_neg (by omega)]
      exact z3
    have X3 := X2.stored hb y (.ref T'.heap.size)
    refine ⟨_, hb, (fun h => by cases h), by rw [arrV_size]; exact hlt, ?_, ?_⟩
    · show State.fitsSlot ((T'.pushCell (arrV cI M (fun _ => .int 0)))) cO .none y (.ref T'.heap.size) = true
      simp [State.fitsSlot, State.slotType?, hvm, hkO, hkindO, fits]
    · rw [arrV_store]
      rw [arrV_store, arrV_size, show slots + N + M * y + M = slots + N + M * (y + 1) by rw [Nat.mul_succ]; omega] at X3
      refine hQ _ _ _ ⟨y + 1, (T'.pushCell (arrV cI M (fun _ => .int 0))).setCell T.heap.size (arrV cO N (updV (fun j => if j < y then .ref (T.heap.size + 1 + j) else .null) y (.ref T'.heap.size))), locs' ++ [⟨T.heap.size, y⟩], rfl, by omega, rfl, X3, hvm, ⟨?_, ?_, ?_, ?_⟩, ?_⟩
      · rw [size_setCell, State.heap_pushCell, Array.size_push]
        omega
      · intro q hq2
        rw [heapAt_setCell_ne _ (show T.heap.size ≠ q by omega), State.heap_pushCell, Array.getElem?_push, if_neg (by omega)]
        exact z2 q hq2
      · rw [heapAt_setCell_self _ (show T.heap.size < (T'.pushCell (arrV cI M (fun _ => .int 0))).heap.size by rw [State.heap_pushCell, Array.size_push]; omega)]
        congr 2
        funext j
        show (if j = y then _ else if j < y then _ else _) = _
        by_cases h1 : j = y
        · subst h1
          rw [if_pos rfl, if_pos (by omega), z1]
        · by_cases h2 : j < y
          · rw [if_neg h1, if_pos h2, if_pos (by omega)]
          · rw [if_neg h1, if_neg h2, if_neg (by omega)]
      · intro j hj
        rw [heapAt_setCell_ne _ (show T.heap.size ≠ T.heap.size + 1 + j by omega), State.heap_pushCell, Array.getElem?_push]
        by_cases h1 : j = y
        · subst h1
          rw [if_pos (by omega)]
        · rw [if_neg (by omega)]
          exact z4 j (by omega)
      · intro q hq2
        rcases List.mem_append.mp hq2 with h | h
        · exact hl q h
        · rw [List.mem_singleton] at h
          subst h
          exact Or.inr rfl
  · rintro s' d' acts' ⟨i, T', locs', hr, hi, rfl, X', hvm, hw, hl⟩
    have e1 : i = N := by
      have h := congrArg List.length hr
      rw [List.length_range'] at h
      simp at h
      omega
    subst e1
    rw [wp_pure']
    exact hq T' d' acts' locs' X' hw hl
theorem W_multi {H : Heap} {Q : State → Prop} {cc : ByteArray} (hexec : p.tables.exec = Jvm.exec) (hb : c.code = cc) {own : String} {index : Nat} (hown : s.vm.findClass own = some m.cls) (hclink : (Cond.classLink own index "[[I").before args s = true) (harr : (Cond.arrayClass .int).before args s = true) (hx : xAO s)
    {g : JFrame} (hg : g.method = m) (hdg : decode cc g.pc = .ok (.multianewarray index 2, 4)) {n1 n2 : Int32} {N M : Nat} {rest : List Value} (hstack : g.stack = .int n2 :: .int n1 :: rest) (hn1 : ¬ n1 < 0) (hn2 : ¬ n2 < 0) (h0 : ¬ (n1 == 0) = true) (hN : n1.toNatClampNeg = N) (hM : n2.toNatClampNeg = M) (hNb : N * 4 ≤ 536870912) (hMb : M * 4 ≤ 536870912) (hcells : cells + (1 + N) ≤ R.cells) (hslots : slots + (N + M * N) ≤ R.slots)
    (kk : ∀ (cO cI : ClassId) (H' : Heap) (locs' : List Loc), ArrOfT s cO (.array .int) → va_RA s cO (.array .int) → ArrOfT s cI .int → va_RA s cI .int → rwS H.size N M cO cI H H' N → (∀ q ∈ locs', q ∈ locs ∨ q.base = H.size) → W p l e R s m args below meth c H' locs' (cells + 1 + N) (slots + N + M * N) Q { g with pc := g.pc + 4, stack := .ref H.size :: rest }) :
    W p l e R s m args below meth c H locs cells slots Q g := by
  intro T hT X
  subst hT; subst hb; subst hg
  have hpl : e.platform.magicAccessors = ({} : Platform).magicAccessors := by rw [X.admits.platform]
  obtain ⟨cI, cO, kO, f1, -, f3, f4, f5⟩ := hx
  obtain ⟨cI', kI, x, i1, i2, i3⟩ := Cond.arrayClass_spec harr
  have ei : cI' = cI := Option.some.inj (i1.symm.trans f1)
  subst ei
  obtain ⟨cc', hfcc, hcl⟩ := Cond.classLink_spec hown hclink e.platform hpl
  have eo : cc' = cO := Option.some.inj (hfcc.symm.trans f5)
  subst eo
  obtain ⟨hg₁, hwarm₁, hready₁⟩ := State.classEntry (e := e) X.warmed hcl
  generalize T.vm.noted g.method.cls index (.cls cc') = vm₁ at hg₁ hwarm₁ hready₁
  have hal : s.vm.Alike vm₁ := hwarm₁.alike
  obtain ⟨kO₁, hkO₁, heO⟩ := hal.2.2 _ _ f3
  obtain ⟨kI₁, hkI₁, heI⟩ := hal.2.2 _ _ i2
  have X₁ := X.noted hwarm₁
  have hsem : wpRun (Op.multianewarray.sem index 2) (fun _ s₁ _ => ∃ T' locs', s₁ = T'.setTop { g with stack := .ref T.heap.size :: rest } ∧ Stand p l e R s g.method args below meth c T' locs' (cells + 1 + N) (slots + N + M * N) ∧ rwS T.heap.size N M cc' cI' T.heap T'.heap N ∧ ∀ q ∈ locs', q ∈ locs ∨ q.base = T.heap.size) (fun _ _ _ => False) e (T.setTop g) := by
    unfold wpRun
    simp only [Op.multianewarray.sem, wp_bind']
    rw [W.resolveClassAt_transfer (s := T.setTop g) (State.method?_setTop g X.here.top) hg₁ hready₁]
    rw [W.resolveClassAt_ready (s := (T.setTop g).setVm vm₁) (m := g.method) (State.method?_setTop g X.here.top) hready₁]
    rw [wp_bind']
    show wp (Jvm.popN [Value.int n1, Value.int n2].length) _ _ _ _ _ ((T.setVm vm₁).setTop g)
    rw [Op.popN_top (s := T.setVm vm₁) X₁.here.top (rest := rest) (by rw [hstack]; rfl)]
    simp only [List.mapM_cons, List.mapM_nil, wp_bind', wp_pure']
    refine wp_rows X₁ hkI₁ (by rw [heI]; exact i3) hkO₁ (by rw [heO]; exact f4) hn1 hn2 h0 hN hM hNb hMb hcells hslots (fun T' d' acts' locs' X' hw hl => ?_)
    simp only [wp_bind', W.mark, W.pushRef, State.topJava?_setTop' _ X'.here.top, Option.some.injEq, exists_eq_left', State.setTop_setTop]
    exact ⟨T', locs', rfl, X', hw, hl⟩
  have hrun := (wpRun_iff_run _ _ _ _ _).mp hsem
  cases hr : (Op.multianewarray.sem index 2).run e (T.setTop g) with
  | ok a s₁ acts =>
    rw [hr] at hrun
    obtain ⟨T', locs', rfl, X', hw, hl⟩ := hrun
    obtain ⟨t, a1, b1⟩ := kk cc' cI' T'.heap locs' (fun n z => ⟨fun k h => (by cases h), kO, f3, cI', f4⟩) f5 (fun n z => ⟨fun k h => (by cases h), kI, i2, x, i3⟩) f1 hw hl T' rfl X'
    refine ⟨t, ?_, b1⟩
    refine Steps.instr (c := c) (by simpa using X.here) ?_
    rw [hdg]
    show wpRun (p.tables.exec (.multianewarray index 2)) _ _ _ _
    rw [hexec]
    refine (wpRun_iff_run (Op.multianewarray.sem index 2) _ _ _ _).mpr ?_
    rw [hr]
    intro acts2
    rw [afterInstr_ok]
    exact a1
  | ctl x s₁ acts =>
    rw [hr] at hrun
    cases x <;> exact hrun.elim
end MU
/-- a row of rows -/
def aRR (m N : Nat) : PC := .inl (.array .int, N, .inr (.inr (.inr (.inr (fun j => if j < N then some (m + 1 + j) else none)))))
section FM
variable {Γ : GE} {l : Launch} {M : MM} {pc ix : Nat} {lv : List (Nat × Value)} {st : List Value} {F : HF} {m : Nat} {cu su : Nat} {K : Option Value → PH → Prop}
theorem f_multi {n1 n2 : Int32} {N M2 : Nat} (hcl : Cond.classLink M.1.cls ix "[[I" ∈ GT) (hd : decode M.2.1 pc = .ok (.multianewarray ix 2, 4)) (hn1 : ¬ n1 < 0) (hN : n1.toNatClampNeg = N) (hn2 : ¬ n2 < 0) (hM : n2.toNatClampNeg = M2) (hb3 : N * 4 ≤ 536870912 ∧ M2 * 4 ≤ 536870912 ∧ ¬ (n1 == 0) = true) (hc1 : cu + (1 + N) ≤ M.2.2.2.2.cells) (hs1 : su + (N + M2 * N) ≤ M.2.2.2.2.slots)
    (kk : ∀ G : HF, (∀ b, b < m → G b = F b) → G m = aRR m N → (∀ j, j < N → G (m + 1 + j) = aIz M2) → Gd Γ l M (pc + 4) lv (.ref m :: st) (mkF (m + 1 + N) G) (cu + 1 + N) (su + N + M2 * N) K) : Gd Γ l M pc lv (.int n2 :: .int n1 :: st) (mkF m F) cu su K := by
  intro p e s mm args below meth c H locs ls cx hR hL hl
  obtain ⟨hx, hb, hr, hml, hown, hts, hlk, hnm, hK⟩ := id cx
  have hz : H.size = Γ.2.1 + m := by rw [hR.1, mkF_len]
  refine W_multi hx hb hown (hts _ hcl) (hts _ q73) hK.2.2.2.2.2.1 rfl hd rfl hn1 hn2 hb3.2.2 hN hM hb3.1 hb3.2.1 hc1 hs1 (fun cO cI H' locs' a1 a2 a3 a4 hw hl2 => ?_)
  rw [hz] at hw hl2 ⊢
  obtain ⟨w1, w2, w3, w4⟩ := hw
  refine kk (fun b => if b < m then F b else if b = m then aRR m N else aIz M2) (fun b h => if_pos h) (by show (if m < m then _ else _) = _; rw [if_neg (by omega), if_pos rfl]) (fun j h => by show (if m + 1 + j < m then _ else _) = _; rw [if_neg (by omega), if_neg (by omega)]) p e s mm args below meth c H' locs' ls cx ⟨by rw [w1, mkF_len]; omega, fun k ee hk => ?_, fun q hq => by rw [w2 q (by omega)]; exact hR.2.2 q hq⟩ (fun q hq => ?_) hl
  · by_cases h1 : k < m
    · rw [mkF_at (by omega)] at hk
      cases hk
      have h2 := hR.2.1 k (F k) (mkF_at h1)
      show cAt Γ s H' k (if k < m then _ else _)
      rw [if_pos h1]
      exact h2.kept (w2 _ (by omega))
    · by_cases h2 : k < m + 1 + N
      · rw [mkF_at h2] at hk
        cases hk
        show cAt Γ s H' k (if k < m then _ else _)
        rw [if_neg h1]
        by_cases h3 : k = m
        · subst h3
          rw [if_pos rfl]
          refine ⟨cO, a1, a2, ?_⟩
          rw [w3]
          show some (arrV cO N (fun j => if j < N then Value.ref (Γ.2.1 + k + 1 + j) else Value.null)) = some (arrV cO N (fun j => va_rf (Option.map (fun k => Γ.2.1 + k) (if j < N then some (k + 1 + j) else none))))
          congr 2
          funext j
          show (if j < N then Value.ref (Γ.2.1 + k + 1 + j) else Value.null) = va_rf (Option.map (fun k => Γ.2.1 + k) (if j < N then some (k + 1 + j) else none))
          by_cases h4 : j < N
          · rw [if_pos h4, if_pos h4]
            show Value.ref _ = Value.ref _
            congr 1
            show Γ.2.1 + k + 1 + j = Γ.2.1 + (k + 1 + j)
            omega
          · rw [if_neg h4, if_neg h4]
            rfl
        · rw [if_neg h3]
          refine ⟨cI, a3, a4, ?_⟩
          have h5 := w4 (k - (m + 1)) (by omega)
          rw [show Γ.2.1 + m + 1 + (k - (m + 1)) = Γ.2.1 + k by omega] at h5
          rw [h5]
          rfl
      · rw [mkF_out (by omega)] at hk
        cases hk
  · rcases hl2 q hq with h | h
    · exact hL q h
    · rw [h]
      exact Nat.le_add_right _ _
end FM
