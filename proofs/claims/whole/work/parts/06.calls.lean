/-! calls, over pure heaps -/
theorem lv_args_tq (Γ : GE) : ∀ (i : Nat) (vs : List Value), lv_args i (vs.map (tv Γ)) = (lv_args i vs).map (tq Γ)
  | _, [] => rfl
  | i, v :: vs => by
    show (i, tv Γ v) :: lv_args (if (tv Γ v).category = 2 then i + 2 else i + 1) (vs.map (tv Γ)) = (i, tv Γ v) :: (lv_args (if v.category = 2 then i + 2 else i + 1) vs).map (tq Γ)
    rw [tv_cat, lv_args_tq]
theorem lg_sl_tv (Γ : GE) : ∀ (vs : List Value), (lg_sl (vs.map (tv Γ))).length = (lg_sl vs).length
  | [] => rfl
  | v :: vs => by
    show ((if (tv Γ v).category = 2 then [Slot.val (tv Γ v), Slot.second] else [Slot.val (tv Γ v)]) ++ lg_sl (vs.map (tv Γ))).length = ((if v.category = 2 then [Slot.val v, Slot.second] else [Slot.val v]) ++ lg_sl vs).length
    rw [tv_cat, List.length_append, List.length_append, lg_sl_tv Γ vs]
    by_cases hc : v.category = 2
    · rw [if_pos hc, if_pos hc]; rfl
    · rw [if_neg hc, if_neg hc]; rfl
theorem cd_of {Γ : GE} {l : Launch} {M : MM} {as : List Value} {h : PH} {K : Option Value → PH → Prop} (hp : plainName M.1.cls = true) (hn : (lg_sl as).length ≤ M.2.2.1) {lv : List (Nat × Value)} (hlv : lv_args 0 as = lv) (hg : Gd Γ l M 0 lv [] h 0 0 K) : Cd Γ l M as h K := by
  refine Met.ofW (cc := M.2.1) (maxL := M.2.2.1) (ret := M.2.2.2.1) hp rfl ?_
  intro p e s m args below meth c s₁ B hml hv
  obtain ⟨rfl, hK, hR⟩ := hv
  have hts := atoms_spec (ws := .code M.1 M.2.1 M.2.2.1 M.2.2.2.1 :: GT) B.pre
  have hl := lv_entry (as.map (tv Γ)) (n := M.2.2.1) (by rw [lg_sl_tv]; exact hn)
  rw [lg_entry_eq]
  rw [lv_args_tq, hlv] at hl
  exact hg p e s m _ below meth c s.heap [] _ ⟨B.exec, B.bytes, B.returns, hml, findClass_of_methodNamed B.named, fun w hw => hts w (List.mem_cons_of_mem _ hw), B.notSynchronized, (name_of_methodNamed B.named B.method).1, hK⟩ hR (fun q hq => by cases hq) hl
theorem Cd.mono {Γ : GE} {l : Launch} {M : MM} {as : List Value} {h : PH} {K K' : Option Value → PH → Prop} (c : Cd Γ l M as h K) (hk : ∀ v h', K v h' → K' v h') : Cd Γ l M as h K' := by
  intro p e ha hc hk2 s m args below hf h1 h2 h3
  obtain ⟨k, o, g1, g2, g3, ⟨⟨v, h', e1, e2, e3⟩, g4⟩⟩ := c p e ha hc hk2 s m args below hf h1 h2 h3
  exact ⟨k, o, g1, g2, g3, ⟨⟨v, h', e1, hk v h' e2, e3⟩, g4⟩⟩
theorem Gd.mono {Γ : GE} {l : Launch} {M : MM} {pc : Nat} {lv : List (Nat × Value)} {st : List Value} {h : PH} {cu su : Nat} {K K' : Option Value → PH → Prop} (g : Gd Γ l M pc lv st h cu su K) (hk : ∀ v h', K v h' → K' v h') : Gd Γ l M pc lv st h cu su K' := by
  intro p e s m args below meth c H locs ls cx hR hL hl T hT X
  obtain ⟨t, g1, o, g2, g3, ⟨v, h', e1, e2, e3⟩, g4⟩ := g p e s m args below meth c H locs ls cx hR hL hl T hT X
  exact ⟨t, g1, o, g2, g3, ⟨v, h', e1, hk v h' e2, e3⟩, g4⟩
/-- what a call needs of the tables, and of the room -/
def cB (M N : MM) (n : Nat) : Prop := Cond.code N.1 N.2.1 N.2.2.1 N.2.2.2.1 ∈ GT ∧ Cond.initialized N.1.cls ∈ GT ∧ (N.1.cls ≠ "java/lang/invoke/MethodHandle" ∧ N.1.cls ≠ "java/lang/invoke/VarHandle" ∧ (parseMethodDescriptor N.1.desc).map (fun d => d.parameters.length) = some n) ∧ (N.2.2.2.2.frames + 1 ≤ M.2.2.2.2.frames ∧ 8 + (N.2.2.1 + 11) + N.2.2.2.2.locals ≤ M.2.2.2.2.locals)
def cV (M N : MM) (ix n : Nat) : Prop := cB M N n ∧ Cond.methodLink M.1.cls ix N.1 ∈ GT ∧ Cond.instanceMethod N.1 ∈ GT ∧ Cond.selects N.1.cls N.1 N.1 ∈ GT
def cS (M N : MM) (ix n : Nat) : Prop := cB M N n ∧ Cond.methodLink M.1.cls ix N.1 ∈ GT ∧ Cond.static N.1 ∈ GT
def cI (M N : MM) (ix n : Nat) : Prop := cB M N n ∧ Cond.methodLink M.1.cls ix N.1 ∈ GT ∧ Cond.instanceMethod N.1 ∈ GT ∧ N.1.name = "<init>" ∧ N.2.2.2.1 = none
def cSN (M N : MM) (ix n : Nat) : Prop := cB M N n ∧ (∃ host, Cond.methodLinkNest M.1.cls ix N.1 host ∈ nestW) ∧ Cond.static N.1 ∈ GT
def cIN (M N : MM) (ix n : Nat) : Prop := cB M N n ∧ (∃ host, Cond.methodLinkNest M.1.cls ix N.1 host ∈ nestW) ∧ Cond.instanceMethod N.1 ∈ GT ∧ N.1.name = "<init>" ∧ N.2.2.2.1 = none
theorem gt_all {s : State} {args : Array Value} {N : MM} (hts : ∀ w ∈ GT, w.before args s = true) (hc : Cond.code N.1 N.2.1 N.2.2.1 N.2.2.2.1 ∈ GT) : GoodIn GT (.code N.1 N.2.1 N.2.2.1 N.2.2.2.1 :: GT) := by
  intro w hw
  rcases List.mem_cons.mp hw with rfl | hw
  · exact ⟨hc, gt_good _ hc⟩
  · exact ⟨hw, gt_good _ hw⟩
theorem pk_blind {Γ : GE} {as : List Value} {h : PH} : FrameBlind (Pk Γ as h) := by
  intro a U g mk ⟨h1, h2, h3⟩
  have hal : U.vm.Alike (U.calling g mk a).vm := Vm.Alike.refl U.vm
  exact ⟨h1, h2.warm (State.WarmedH.refl U), h3.moved hal⟩
theorem pk_pre {Γ : GE} {as : List Value} {h : PH} {s : State} {H : Heap} (hK : Kt Γ s) (hR : Rp Γ s H h) : ∀ U : State, U.heap = H → s.WarmedH U.vm → Pk Γ as h ((as.map (tv Γ)).toArray) U := by
  intro U hU hW
  exact ⟨rfl, hK.warm hW, by rw [hU]; exact hR.moved hW.alike⟩
section RC
variable {Γ : GE} {l : Launch} {M N : MM} {pc ix n : Nat} {lv : List (Nat × Value)} {st as : List Value} {h : PH} {cu su : Nat} {K : Option Value → PH → Prop}
theorem call_go {p : Program} {e : Env} {s : State} {m : MethodId} {args : Array Value} {below : List Frame} {meth : Method} {c : Code} {H : Heap} {locs : List Loc} {ls : Array Slot} {g : JFrame} {mc ms : Nat} {K1 : Option Value → PH → Prop} {av : Array Value}
    (hr : va_Run p l e M.2.2.2.2 s m args below meth c H locs cu su mc ms g (st.map (tv Γ)) (Qk Γ K1 av) (fun q => Γ.2.1 ≤ q)) (hg : g = F0 m pc ls g.stack) (cx : Cx Γ M p s m args meth c) (hL : ∀ q ∈ locs, Γ.2.1 ≤ q.base) (hl : lv_has ls M.2.2.1 (lv.map (tq Γ)))
    (hk : ∀ v h', K1 v h' → Gd Γ l M (pc + 3) lv (v.toList ++ st) h' (cu + mc) (su + ms) K) :
    W p l e M.2.2.2.2 s m args below meth c H locs cu su (MQ below (Qk Γ K) args s M.2.2.2.2.cells M.2.2.2.2.slots (fun q => Γ.2.1 ≤ q)) g := by
  intro T hT X
  obtain ⟨v0, st₀, t, T', L, h0, X', hL2, e1, e2, ⟨v, h', e3, e4, e5⟩, hst⟩ := hr T hT X
  have hv : v0 = v.map (tv Γ) := by cases e3; rfl
  subst hv
  have hal : t.vm.Alike s.vm := by rw [← e2]; exact X'.warmed.alike.symm
  have hR' : Rp Γ s t.heap h' := e5.moved hal
  obtain ⟨t2, a1, b1⟩ := hk v h' e4 p e s m args below meth c t.heap (locs ++ L) ls cx hR' (fun q hq => (List.mem_append.mp hq).elim (hL q) (hL2 q)) hl T' e1 X'
  refine ⟨t2, hst t2 ?_, b1⟩
  rw [hg]
  have hs : (v.map (tv Γ)).toList ++ st.map (tv Γ) = (v.toList ++ st).map (tv Γ) := by cases v <;> simp
  rw [hs]
  exact a1
theorem cat_tv : ((st.map (tv Γ)).map fun v => v.category).sum = (st.map fun v => v.category).sum := by
  rw [List.map_map, show (fun v : Value => v.category) ∘ tv Γ = (fun v => v.category) from funext fun v => tv_cat Γ v]
/-- a call of a method of an object -/
theorem r_callV {a ci : Nat} {fs : List Value} {C : String} {T : u_T} {NN : Nat} {sk : List Value} (cw : cV M N ix n) (hd : decode M.2.1 pc = .ok (.invokevirtual ix, 3)) (hsk : sk = as.reverse ++ .ref a :: st) (hn : as.length = n) (hw : (st.map fun v => v.category).sum ≤ 8) (ha : h[a]? = some (.inr (ci, fs))) (hc : vwCl[ci]? = some (C, T, NN)) (hC : N.1.cls = C) (hf : cu + N.2.2.2.2.cells ≤ M.2.2.2.2.cells ∧ su + N.2.2.2.2.slots ≤ M.2.2.2.2.slots)
    (kk : Cd Γ l N (.ref a :: as) h (fun v h' => Gd Γ l M (pc + 3) lv (v.toList ++ st) h' (cu + N.2.2.2.2.cells) (su + N.2.2.2.2.slots) K)) : Gd Γ l M pc lv sk h cu su K := by
  subst hsk
  intro p e s m args below meth c H locs ls cx hR hL hl
  obtain ⟨hx, hb, hr, hml, hown, hts, hlk, hnm, hK⟩ := id cx
  obtain ⟨⟨c1, c2, c3, c4⟩, c5, c6, c7⟩ := cw
  have cb : CallB M.2.2.2.2 s args M.1.cls ix N.1 N.2.1 N.2.2.1 N.2.2.2.1 (.code N.1 N.2.1 N.2.2.1 N.2.2.2.1 :: GT) N.2.2.2.2 N.2.2.2.2.cells N.2.2.2.2.slots n := callB_of n hts (gt_all hts c1) rfl rfl rfl (hts _ c2) (hts _ c5) c3 c4
  obtain ⟨r, h1, cell, q1, q2, q3, q4⟩ := hR.2.1 a _ ha
  have hrr : r = (C, T, NN) := Option.some.inj (h1.symm.trans hc)
  subst hrr
  have hrun := va_runV (e := e) (below := below) (meth := meth) (locs := locs) (cells := cu) (slots := su) (C := N.1.cls) (b := Γ.2.1 + a) (As := as.map (tv Γ)) (rest := st.map (tv Γ)) (g := F0 m pc ls ((as.map (tv Γ)).reverse ++ .ref (Γ.2.1 + a) :: st.map (tv Γ))) ⟨hx, hb, hml, hown, hts⟩ kk ⟨cb, hts _ c6, hts _ c7⟩
    ⟨pk_blind, ⟨cell, q1, by rw [q3]; rfl, by rw [hC, q2]; exact (hK.1 ci _ hc).2.1⟩, fun U hU hW => pk_pre (as := .ref a :: as) hK hR U hU hW⟩ rfl (by rw [List.length_map]; exact hn) hl.1 rfl (by show 2 * 0 + _ ≤ 8; rw [cat_tv]; omega) hd hf
  have hgo := call_go (K := K) hrun rfl cx hL hl (fun v h' q => q)
  rw [List.map_append, List.map_reverse]
  exact hgo
/-- a call of a static method -/
theorem r_callS {sk : List Value} (cw : cS M N ix n) (hd : decode M.2.1 pc = .ok (.invokestatic ix, 3)) (hsk : sk = as.reverse ++ st) (hn : as.length = n) (hw : (st.map fun v => v.category).sum ≤ 8) (hf : cu + N.2.2.2.2.cells ≤ M.2.2.2.2.cells ∧ su + N.2.2.2.2.slots ≤ M.2.2.2.2.slots)
    (kk : Cd Γ l N as h (fun v h' => Gd Γ l M (pc + 3) lv (v.toList ++ st) h' (cu + N.2.2.2.2.cells) (su + N.2.2.2.2.slots) K)) : Gd Γ l M pc lv sk h cu su K := by
  subst hsk
  intro p e s m args below meth c H locs ls cx hR hL hl
  obtain ⟨hx, hb, hr, hml, hown, hts, hlk, hnm, hK⟩ := id cx
  obtain ⟨⟨c1, c2, c3, c4⟩, c5, c6⟩ := cw
  have cb : CallB M.2.2.2.2 s args M.1.cls ix N.1 N.2.1 N.2.2.1 N.2.2.2.1 (.code N.1 N.2.1 N.2.2.1 N.2.2.2.1 :: GT) N.2.2.2.2 N.2.2.2.2.cells N.2.2.2.2.slots n := callB_of n hts (gt_all hts c1) rfl rfl rfl (hts _ c2) (hts _ c5) c3 c4
  have hrun := va_runS (e := e) (below := below) (meth := meth) (locs := locs) (cells := cu) (slots := su) (H := H) (As := as.map (tv Γ)) (rest := st.map (tv Γ)) (g := F0 m pc ls ((as.map (tv Γ)).reverse ++ st.map (tv Γ))) ⟨hx, hb, hml, hown, hts⟩ kk ⟨cb, hts _ c6⟩
    ⟨pk_blind, fun U hU hW => pk_pre (as := as) hK hR U hU hW⟩ rfl (by rw [List.length_map]; exact hn) hl.1 rfl (by show 2 * 0 + _ ≤ 8; rw [cat_tv]; omega) hd hf
  have hgo := call_go (K := K) hrun rfl cx hL hl (fun v h' q => q)
  rw [List.map_append, List.map_reverse]
  exact hgo
/-- a call of a private static method of a nest mate -/
theorem r_callSN {sk : List Value} (cw : cSN M N ix n) (hd : decode M.2.1 pc = .ok (.invokestatic ix, 3)) (hsk : sk = as.reverse ++ st) (hn : as.length = n) (hw : (st.map fun v => v.category).sum ≤ 8) (hf : cu + N.2.2.2.2.cells ≤ M.2.2.2.2.cells ∧ su + N.2.2.2.2.slots ≤ M.2.2.2.2.slots)
    (kk : Cd Γ l N as h (fun v h' => Gd Γ l M (pc + 3) lv (v.toList ++ st) h' (cu + N.2.2.2.2.cells) (su + N.2.2.2.2.slots) K)) : Gd Γ l M pc lv sk h cu su K := by
  subst hsk
  intro p e s m args below meth c H locs ls cx hR hL hl
  obtain ⟨hx, hb, hr, hml, hown, hts, hlk, hnm, hK⟩ := id cx
  obtain ⟨⟨c1, c2, c3, c4⟩, ⟨host, c5⟩, c6⟩ := cw
  have cb := va_cnB (R := M.2.2.2.2) (bytes := N.2.1) (maxL := N.2.2.1) (ret := N.2.2.2.1) (rm := N.2.2.2.2) n hts (gt_all hts c1) rfl rfl rfl (hK.2.1 _ c5) (hts _ c2) c3 c4
  have hrun := va_runSN (e := e) (below := below) (meth := meth) (locs := locs) (cells := cu) (slots := su) (H := H) (As := as.map (tv Γ)) (rest := st.map (tv Γ)) (g := F0 m pc ls ((as.map (tv Γ)).reverse ++ st.map (tv Γ))) ⟨hx, hb, hml, hown, hts⟩ kk ⟨cb, hts _ c6, trivial⟩
    ⟨pk_blind, fun U hU hW => pk_pre (as := as) hK hR U hU hW⟩ rfl (by rw [List.length_map]; exact hn) hl.1 rfl (by show 2 * 0 + _ ≤ 8; rw [cat_tv]; omega) hd hf
  have hgo := call_go (K := K) hrun rfl cx hL hl (fun v h' q => q)
  rw [List.map_append, List.map_reverse]
  exact hgo
/-- a constructor -/
theorem r_callI {a : Nat} {sk : List Value} (cw : cI M N ix n) (hd : decode M.2.1 pc = .ok (.invokespecial ix, 3)) (hsk : sk = as.reverse ++ .ref a :: st) (hn : as.length = n) (hw : (st.map fun v => v.category).sum ≤ 8) (hf : cu + N.2.2.2.2.cells ≤ M.2.2.2.2.cells ∧ su + N.2.2.2.2.slots ≤ M.2.2.2.2.slots)
    (kk : Cd Γ l N (.ref a :: as) h (fun v h' => Gd Γ l M (pc + 3) lv (v.toList ++ st) h' (cu + N.2.2.2.2.cells) (su + N.2.2.2.2.slots) K)) : Gd Γ l M pc lv sk h cu su K := by
  subst hsk
  intro p e s m args below meth c H locs ls cx hR hL hl
  obtain ⟨hx, hb, hr, hml, hown, hts, hlk, hnm, hK⟩ := id cx
  obtain ⟨⟨c1, c2, c3, c4⟩, c5, c6, c7, c8⟩ := cw
  have cb : CallB M.2.2.2.2 s args M.1.cls ix N.1 N.2.1 N.2.2.1 none (.code N.1 N.2.1 N.2.2.1 N.2.2.2.1 :: GT) N.2.2.2.2 N.2.2.2.2.cells N.2.2.2.2.slots n := callB_of n hts (gt_all hts c1) (by rw [c8]) rfl rfl (hts _ c2) (hts _ c5) c3 c4
  have hrun := va_runI (e := e) (below := below) (meth := meth) (locs := locs) (cells := cu) (slots := su) (H := H) (b := Γ.2.1 + a) (As := as.map (tv Γ)) (rest := st.map (tv Γ)) (g := F0 m pc ls ((as.map (tv Γ)).reverse ++ .ref (Γ.2.1 + a) :: st.map (tv Γ))) ⟨hx, hb, hml, hown, hts⟩ kk ⟨cb, c7, hts _ c6⟩
    ⟨pk_blind, fun U hU hW => pk_pre (as := .ref a :: as) hK hR U hU hW⟩ rfl (by rw [List.length_map]; exact hn) hl.1 rfl (by show 2 * 0 + _ ≤ 8; rw [cat_tv]; omega) hd hf
  have hgo := call_go (K := K) hrun rfl cx hL hl (fun v h' q => q)
  rw [List.map_append, List.map_reverse]
  exact hgo
/-- a private constructor of a nest mate -/
theorem r_callIN {a : Nat} {sk : List Value} (cw : cIN M N ix n) (hd : decode M.2.1 pc = .ok (.invokespecial ix, 3)) (hsk : sk = as.reverse ++ .ref a :: st) (hn : as.length = n) (hw : (st.map fun v => v.category).sum ≤ 8) (hf : cu + N.2.2.2.2.cells ≤ M.2.2.2.2.cells ∧ su + N.2.2.2.2.slots ≤ M.2.2.2.2.slots)
    (kk : Cd Γ l N (.ref a :: as) h (fun v h' => Gd Γ l M (pc + 3) lv (v.toList ++ st) h' (cu + N.2.2.2.2.cells) (su + N.2.2.2.2.slots) K)) : Gd Γ l M pc lv sk h cu su K := by
  subst hsk
  intro p e s m args below meth c H locs ls cx hR hL hl
  obtain ⟨hx, hb, hr, hml, hown, hts, hlk, hnm, hK⟩ := id cx
  obtain ⟨⟨c1, c2, c3, c4⟩, ⟨host, c5⟩, c6, c7, c8⟩ := cw
  have cb := va_cnB (R := M.2.2.2.2) (bytes := N.2.1) (maxL := N.2.2.1) (ret := none) (rm := N.2.2.2.2) (ws := .code N.1 N.2.1 N.2.2.1 N.2.2.2.1 :: GT) n hts (gt_all hts c1) (by rw [c8]) rfl rfl (hK.2.1 _ c5) (hts _ c2) c3 c4
  have hrun := va_runIN (e := e) (below := below) (meth := meth) (locs := locs) (cells := cu) (slots := su) (H := H) (b := Γ.2.1 + a) (As := as.map (tv Γ)) (rest := st.map (tv Γ)) (g := F0 m pc ls ((as.map (tv Γ)).reverse ++ .ref (Γ.2.1 + a) :: st.map (tv Γ))) ⟨hx, hb, hml, hown, hts⟩ kk ⟨cb, c7, hts _ c6⟩
    ⟨pk_blind, fun U hU hW => pk_pre (as := .ref a :: as) hK hR U hU hW⟩ rfl (by rw [List.length_map]; exact hn) hl.1 rfl (by show 2 * 0 + _ ≤ 8; rw [cat_tv]; omega) hd hf
  have hgo := call_go (K := K) hrun rfl cx hL hl (fun v h' q => q)
  rw [List.map_append, List.map_reverse]
  exact hgo
/-- arraycopy of ints -/
theorem r_copyi {a0 a n0 n1 : Nat} {f g : Nat → Int32} {sp dp k : Int32} (hlink : Cond.methodLink M.1.cls ix arraycopyName ∈ GT) (hnat : Cond.native arraycopyName ∈ GT) (hstat : Cond.static arraycopyName ∈ GT) (hini : Cond.initialized "java/lang/System" ∈ GT) (hd : decode M.2.1 pc = .ok (.invokestatic ix, 3)) (ha0 : h[a0]? = some (.inl (.int, n0, .inl f))) (ha : h[a]? = some (.inl (.int, n1, .inl g)))
    (h1 : ¬ sp < 0) (h2 : ¬ dp < 0) (h3 : ¬ k < 0) (h4 : sp.toNatClampNeg + k.toNatClampNeg ≤ n0) (h5 : dp.toNatClampNeg + k.toNatClampNeg ≤ n1) (hframes : 1 ≤ M.2.2.2.2.frames) (hlocals : (st.map fun v => v.category).sum + (nativeFrameWords "java/lang/System" "arraycopy" 5 + 11) ≤ M.2.2.2.2.locals)
    (kk : Gd Γ l M (pc + 3) lv st (h.set a (.inl (.int, n1, .inl (va_cpy f g sp.toNatClampNeg dp.toNatClampNeg k.toNatClampNeg)))) cu su K) : Gd Γ l M pc lv (.int k :: .int dp :: .ref a :: .int sp :: .ref a0 :: st) h cu su K := by
  intro p e s m args below meth c H locs ls cx hR hL hl T hT X
  obtain ⟨hx, hb, hr, hml, hown, hts, hlk, hnm, hK⟩ := id cx
  have nn : ∀ z : Int32, ¬ z < 0 → z.toInt = (z.toNatClampNeg : Int) := by
    intro z hz
    have hz0 : (0 : Int) ≤ z.toInt := by
      have := Int32.not_lt.mp hz
      simpa using Int32.le_iff_toInt_le.mp this
    show z.toInt = ((z.toInt.toNat : Nat) : Int)
    omega
  obtain ⟨c0, g1, g2, hc0⟩ := hR.2.1 a0 _ ha0
  obtain ⟨c1, g3, g4, hc1⟩ := hR.2.1 a _ ha
  have hc0 : H[Γ.2.1 + a0]? = some (vp_cell c0 (n0, .inl f)) := hc0
  have hc1 : H[Γ.2.1 + a]? = some (vp_cell c1 (n1, .inl g)) := hc1
  obtain ⟨-, k0, hk0, cm0, hkk0⟩ := g1 n0 (fun j => .int (f j))
  obtain ⟨-, k1, hk1, cm1, hkk1⟩ := g3 n1 (fun j => .int (g j))
  obtain ⟨vm', X', step⟩ := X.arraycopy hx hown (hts _ hlink) (hts _ hnat) (hts _ hstat) (hts _ hini) (src := Γ.2.1 + a0) (dst := Γ.2.1 + a) (cs := vp_cell c0 (n0, .inl f)) (cd := vp_cell c1 (n1, .inl g)) (srcPos := sp) (destPos := dp) (n := k) (by rw [hT]; exact hc0) (by rw [hT]; exact hc1)
    (fun _ h => by cases h) (fun _ h => by cases h) (fun h => by cases h) (fun h => by cases h) hk0 hk1 hkk0 hkk1 (by simp [refKind]) h1 h2 h3
    (by rw [nn sp h1, nn k h3]; show ¬ _ > ((arrV c0 n0 (fun j => .int (f j))).slots.size : Int); rw [arrV_size]; omega)
    (by rw [nn dp h2, nn k h3]; show ¬ _ > ((arrV c1 n1 (fun j => .int (g j))).slots.size : Int); rw [arrV_size]; omega)
    (fun vm₁ _ i hi => by
      have e : (vp_cell c0 (n0, .inl f)).slots.getD (sp.toNatClampNeg + i) .null = .int (f (sp.toNatClampNeg + i)) := by
        show (arrV c0 n0 (fun j => .int (f j))).slots.getD _ _ = _
        rw [Array.getD_eq_getD_getElem?, arrV_read _ _ (by omega)]
        rfl
      refine ⟨?_, ?_⟩
      · rw [e]
        rfl
      · rw [e]
        exact trivial)
    (g := F0 m pc ls (.int k :: .int dp :: .ref (Γ.2.1 + a) :: .int sp :: .ref (Γ.2.1 + a0) :: st.map (tv Γ))) rfl (by rw [hml]; exact hl.1) (rest := st.map (tv Γ)) rfl (by rw [hb]; exact hd) hframes (by show 2 * 0 + _ + _ ≤ _; rw [cat_tv]; omega)
  have e1 : copied (vp_cell c0 (n0, .inl f)) (vp_cell c1 (n1, .inl g)) sp dp k = vp_cell c1 (n1, .inl (va_cpy f g sp.toNatClampNeg dp.toNatClampNeg k.toNatClampNeg)) := va_copied (fun z => .int z) c0 c1 f g h4
  rw [e1] at X' step
  have hlt : Γ.2.1 + a < H.size := (Array.getElem?_eq_some_iff.mp hc1).1
  have hheap : ((T.setVm vm').setCell (Γ.2.1 + a) (vp_cell c1 (n1, .inl (va_cpy f g sp.toNatClampNeg dp.toNatClampNeg k.toNatClampNeg)))).heap = H.setIfInBounds (Γ.2.1 + a) (vp_cell c1 (n1, .inl (va_cpy f g sp.toNatClampNeg dp.toNatClampNeg k.toNatClampNeg))) := by rw [← hT]; rfl
  have oq : ∀ q : Nat, q ≠ Γ.2.1 + a → (H.setIfInBounds (Γ.2.1 + a) (vp_cell c1 (n1, .inl (va_cpy f g sp.toNatClampNeg dp.toNatClampNeg k.toNatClampNeg))))[q]? = H[q]? := fun q hq => by simp [Array.getElem?_setIfInBounds, Ne.symm hq]
  obtain ⟨t, a1, b1⟩ := kk p e s m args below meth c _ _ ls cx (hR.set ha ⟨c1, g3, g4, show (H.setIfInBounds (Γ.2.1 + a) (vp_cell c1 (n1, .inl (va_cpy f g sp.toNatClampNeg dp.toNatClampNeg k.toNatClampNeg))))[Γ.2.1 + a]? = some _ by simp [Array.getElem?_setIfInBounds, hlt]; rfl⟩ (by simp) oq) (fun q hq => by
      rcases List.mem_append.mp hq with h | h
      · exact hL q h
      · obtain ⟨z, -, hz⟩ := List.mem_map.mp h
        rw [← hz]
        exact Nat.le_add_right _ _) hl _ hheap X'
  exact ⟨t, step t a1, b1⟩
end RC
