/-! the two texts, and two statics -/
section RT
variable {Γ : GE} {l : Launch} {M N : MM} {pc ix n : Nat} {lv : List (Nat × Value)} {st as : List Value} {h : PH} {cu su : Nat} {K : Option Value → PH → Prop}
theorem rp_old {s : State} {H : Heap} (hR : Rp Γ s H h) {t : Nat} (ht : ¬ Γ.2.1 ≤ t) : H[t]? = Γ.2.2.2[t]? := hR.2.2 t (by omega)
theorem r_ldcS0 (ho : M.1.cls = "MownLawn$Tokens") (hd : decode M.2.1 pc = .ok (.ldc 67, 2)) (kk : Gd Γ l M (pc + 2) lv (.float 0 :: st) h cu su K) : Gd Γ l M pc lv st h cu su K := by
  intro p e s m args below meth c H locs ls cx hR hL hl
  obtain ⟨hx, hb, hr, hml, hown, hts, hlk, hnm, hK⟩ := id cx
  exact va_ldcS hx hb (ho ▸ hown) hK.2.2.2.1.1 hd (kk p e s m args below meth c H locs ls cx hR hL hl)
theorem r_ldcS1 (ho : M.1.cls = "MownLawn$Tokens") (hd : decode M.2.1 pc = .ok (.ldc 86, 2)) (kk : Gd Γ l M (pc + 2) lv (.float 1 :: st) h cu su K) : Gd Γ l M pc lv st h cu su K := by
  intro p e s m args below meth c H locs ls cx hR hL hl
  obtain ⟨hx, hb, hr, hml, hown, hts, hlk, hnm, hK⟩ := id cx
  exact va_ldcS hx hb (ho ▸ hown) hK.2.2.2.1.2.1 hd (kk p e s m args below meth c H locs ls cx hR hL hl)
theorem r_getSv {x y : UInt32} (hx2 : x.toNat < 2) (hy : y.toNat = x.toNat + 2) (ho : M.1.cls = "java/lang/String") (hq : Cond.fieldLink "java/lang/String" ix "java/lang/String" "value" "[B" ∈ GT) (hd : decode M.2.1 pc = .ok (.getfield ix, 3)) (kk : Gd Γ l M (pc + 3) lv (.float y :: st) h cu su K) : Gd Γ l M pc lv (.float x :: st) h cu su K := by
  intro p e s m args below meth c H locs ls cx hR hL hl
  obtain ⟨hx, hb, hr, hml, hown, hts, hlk, hnm, hK⟩ := id cx
  obtain ⟨-, -, ⟨cf, k, i, f, cell, g1, g2, g3, g4, g5, g6⟩, -⟩ := hK.2.2.2.1.2.2.1.1 x.toNat hx2
  refine W.getf hx hb (ho ▸ hown) (hts _ hq) g1 g2 (by rw [rp_old hR g6]; exact g3) g4 (v := .ref (Γ.2.2.1 (x.toNat + 2))) g5 rfl rfl hd ?_
  have := kk p e s m args below meth c H locs ls cx hR hL hl
  rw [← hy]
  exact this
theorem r_getSc {x : UInt32} (hx2 : x.toNat < 2) (ho : M.1.cls = "java/lang/String") (hq : Cond.fieldLink "java/lang/String" ix "java/lang/String" "coder" "B" ∈ GT) (hd : decode M.2.1 pc = .ok (.getfield ix, 3)) (kk : Gd Γ l M (pc + 3) lv (.int 0 :: st) h cu su K) : Gd Γ l M pc lv (.float x :: st) h cu su K := by
  intro p e s m args below meth c H locs ls cx hR hL hl
  obtain ⟨hx, hb, hr, hml, hown, hts, hlk, hnm, hK⟩ := id cx
  obtain ⟨-, ⟨cf, k, i, f, cell, g1, g2, g3, g4, g5, g6⟩, -, -⟩ := hK.2.2.2.1.2.2.1.1 x.toNat hx2
  exact W.getf hx hb (ho ▸ hown) (hts _ hq) g1 g2 (by rw [rp_old hR g6]; exact g3) g4 (v := .int 0) g5 rfl rfl hd (kk p e s m args below meth c H locs ls cx hR hL hl)
theorem r_getsC (ho : M.1.cls = "java/lang/String") (hq : Cond.fieldLink "java/lang/String" ix "java/lang/String" "COMPACT_STRINGS" "Z" ∈ GT) (hd : decode M.2.1 pc = .ok (.getstatic ix, 3)) (kk : Gd Γ l M (pc + 3) lv (.int 1 :: st) h cu su K) : Gd Γ l M pc lv st h cu su K := by
  intro p e s m args below meth c H locs ls cx hR hL hl
  obtain ⟨hx, hb, hr, hml, hown, hts, hlk, hnm, hK⟩ := id cx
  obtain ⟨cf, kf, fi, f, a, cell, h1, h2, h3, h4, h5, h6, h7, h8⟩ := hK.2.2.2.1.2.2.2.1
  exact W.gets hx hb (ho ▸ hown) (hts _ hq) h1 h2 h3 h4 (by rw [rp_old hR h8]; exact h5) (fun e => by rw [e] at h6; cases h6) h7 rfl hd (kk p e s m args below meth c H locs ls cx hR hL hl)
theorem r_getsF (ho : M.1.cls = "java/lang/String") (hq : Cond.fieldLink "java/lang/String" ix "jdk/internal/util/Preconditions" "SIOOBE_FORMATTER" "Ljava/util/function/BiFunction;" ∈ GT) (hd : decode M.2.1 pc = .ok (.getstatic ix, 3)) (kk : Gd Γ l M (pc + 3) lv (.null :: st) h cu su K) (kk2 : Gd Γ l M (pc + 3) lv (.float 4 :: st) h cu su K) : Gd Γ l M pc lv st h cu su K := by
  intro p e s m args below meth c H locs ls cx hR hL hl
  obtain ⟨hx, hb, hr, hml, hown, hts, hlk, hnm, hK⟩ := id cx
  rcases hK.2.2.2.1.2.2.2.2 with ⟨cf, kf, fi, f, a, cell, h1, h2, h3, h4, h5, h6, h7, h8⟩ | ⟨cf, kf, fi, f, a, cell, h1, h2, h3, h4, h5, h6, h7, h8⟩
  · exact W.gets hx hb (ho ▸ hown) (hts _ hq) h1 h2 h3 h4 (by rw [rp_old hR h8]; exact h5) (fun e => by rw [e] at h6; cases h6) h7 rfl hd (kk p e s m args below meth c H locs ls cx hR hL hl)
  · exact W.gets hx hb (ho ▸ hown) (hts _ hq) h1 h2 h3 h4 (by rw [rp_old hR h8]; exact h5) (fun e => by rw [e] at h6; cases h6) h7 rfl hd (kk2 p e s m args below meth c H locs ls cx hR hL hl)
theorem r_baldS {x y : UInt32} {i : Int32} (hx2 : x.toNat < 2) (hy : y.toNat = x.toNat + 2) (hd : decode M.2.1 pc = .ok (.baload, 1)) (hi : vp_in i (strL.getD x.toNat 0)) (kk : Gd Γ l M (pc + 1) lv (.int ((strB.getD x.toNat []).getD i.toNatClampNeg 0) :: st) h cu su K) : Gd Γ l M pc lv (.int i :: .float y :: st) h cu su K := by
  intro p e s m args below meth c H locs ls cx hR hL hl
  obtain ⟨hx, hb, hr, hml, hown, hts, hlk, hnm, hK⟩ := id cx
  obtain ⟨-, -, -, ⟨cell, g1, g2, g3, g4, g5, g6, g7⟩⟩ := hK.2.2.2.1.2.2.1.1 x.toNat hx2
  have hlt := pN hi
  have e0 : (Value.int i :: Value.float y :: st).map (tv Γ) = .int i :: .ref (Γ.2.2.1 (x.toNat + 2)) :: st.map (tv Γ) := by
    show Value.int i :: Value.ref (Γ.2.2.1 y.toNat) :: _ = _
    rw [hy]
  rw [e0]
  exact W.bald (v := .int ((strB.getD x.toNat []).getD i.toNatClampNeg 0)) hx hb (by rw [rp_old hR g7]; exact g1) g2 g3 (fun q => q.elim (fun z => hi (Or.inl z)) (fun z => by omega)) (g6 _ hlt) rfl rfl hd (kk p e s m args below meth c H locs ls cx hR hL hl)
theorem r_alenS {x y : UInt32} (hx2 : x.toNat < 2) (hy : y.toNat = x.toNat + 2) (hd : decode M.2.1 pc = .ok (.arraylength, 1)) (kk : Gd Γ l M (pc + 1) lv (.int (Int32.ofNat (strL.getD x.toNat 0)) :: st) h cu su K) : Gd Γ l M pc lv (.float y :: st) h cu su K := by
  intro p e s m args below meth c H locs ls cx hR hL hl
  obtain ⟨hx, hb, hr, hml, hown, hts, hlk, hnm, hK⟩ := id cx
  obtain ⟨-, -, -, ⟨cell, g1, g2, g3, g4, g5, g6, g7⟩⟩ := hK.2.2.2.1.2.2.1.1 x.toNat hx2
  have e0 : (Value.float y :: st).map (tv Γ) = .ref (Γ.2.2.1 (x.toNat + 2)) :: st.map (tv Γ) := by
    show Value.ref (Γ.2.2.1 y.toNat) :: _ = _
    rw [hy]
  rw [e0]
  exact W.alen (n := Int32.ofNat (strL.getD x.toNat 0)) hx hb (by rw [rp_old hR g7]; exact g1) g2 g5 rfl rfl hd (kk p e s m args below meth c H locs ls cx hR hL hl)
theorem r_callVS {x : UInt32} {sk : List Value} (hx2 : x.toNat < 2) (cw : cV M N ix n) (hC : N.1.cls = "java/lang/String") (hd : decode M.2.1 pc = .ok (.invokevirtual ix, 3)) (hsk : sk = as.reverse ++ .float x :: st) (hn : as.length = n) (hw : (st.map fun v => v.category).sum ≤ 8) (hf : cu + N.2.2.2.2.cells ≤ M.2.2.2.2.cells ∧ su + N.2.2.2.2.slots ≤ M.2.2.2.2.slots)
    (kk : Cd Γ l N (.float x :: as) h (fun v h' => Gd Γ l M (pc + 3) lv (v.toList ++ st) h' (cu + N.2.2.2.2.cells) (su + N.2.2.2.2.slots) K)) : Gd Γ l M pc lv sk h cu su K := by
  subst hsk
  intro p e s m args below meth c H locs ls cx hR hL hl
  obtain ⟨hx, hb, hr, hml, hown, hts, hlk, hnm, hK⟩ := id cx
  obtain ⟨⟨c1, c2, c3, c4⟩, c5, c6, c7⟩ := cw
  have cb : CallB M.2.2.2.2 s args M.1.cls ix N.1 N.2.1 N.2.2.1 N.2.2.2.1 (.code N.1 N.2.1 N.2.2.1 N.2.2.2.1 :: GT) N.2.2.2.2 N.2.2.2.2.cells N.2.2.2.2.slots n := callB_of n hts (gt_all hts c1) rfl rfl rfl (hts _ c2) (hts _ c5) c3 c4
  obtain ⟨⟨cell, q1, q2, q3, q4⟩, -, -, -⟩ := hK.2.2.2.1.2.2.1.1 x.toNat hx2
  have hrun := va_runV (e := e) (below := below) (meth := meth) (locs := locs) (cells := cu) (slots := su) (C := N.1.cls) (b := Γ.2.2.1 x.toNat) (As := as.map (tv Γ)) (rest := st.map (tv Γ)) (g := F0 m pc ls ((as.map (tv Γ)).reverse ++ .ref (Γ.2.2.1 x.toNat) :: st.map (tv Γ))) ⟨hx, hb, hml, hown, hts⟩ kk ⟨cb, hts _ c6, hts _ c7⟩
    ⟨pk_blind, ⟨cell, by rw [rp_old hR q4]; exact q1, q2, by rw [hC]; exact q3⟩, fun U hU hW => pk_pre (as := .float x :: as) hK hR U hU hW⟩ rfl (by rw [List.length_map]; exact hn) hl.1 rfl (by show 2 * 0 + _ ≤ 8; rw [cat_tv]; omega) hd hf
  have hgo := call_go (K := K) hrun rfl cx hL hl (fun v h' q => q)
  rw [List.map_append, List.map_reverse]
  exact hgo
end RT
section RT2
variable {Γ : GE} {l : Launch} {M N : MM} {pc ix n : Nat} {lv : List (Nat × Value)} {st as : List Value} {σ : SS} {K : Option Value → SS → Prop}
theorem s_callVS {x : UInt32} {sk : List Value} (hx2 : x.toNat < 2) (hz : noNew N) (cw : cV M N ix n) (hC : N.1.cls = "java/lang/String") (hd : decode M.2.1 pc = .ok (.invokevirtual ix, 3)) (hsk : sk = as.reverse ++ .float x :: st) (hn : as.length = n) (hw : (st.map fun v => v.category).sum ≤ 8)
    (kk : C2 Γ l N (.float x :: as) σ (fun v σ' => G2 Γ l M (pc + 3) lv (v.toList ++ st) σ' K)) : G2 Γ l M pc lv sk σ K := by
  refine r_callVS hx2 cw hC hd hsk hn hw (by rw [hz.1, hz.2]; exact ⟨Nat.zero_le _, Nat.zero_le _⟩) ?_
  rw [k2_call hz]
  exact Cd.mono kk (fun v h ⟨σ', e1, e2⟩ => by rw [e1]; exact e2)
end RT2
/-! Math.max, Math.min -/
def imx (x y : Int32) : Int32 := if x < y then y else x
def imn (x y : Int32) : Int32 := if y < x then y else x
section RM
variable {Γ : GE} {l : Launch} {M N : MM} {pc ix n : Nat} {lv : List (Nat × Value)} {st as : List Value} {h : PH} {cu su : Nat} {K : Option Value → PH → Prop}
theorem r_max {x y : Int32} (hlink : Cond.methodLink M.1.cls ix Lib.Math.max.name ∈ GT) (hstat : Cond.static Lib.Math.max.name ∈ GT) (hini : Cond.initialized "java/lang/Math" ∈ GT) (hcode : Cond.code Lib.Math.max.name Lib.Math.max.code 2 (some .int) ∈ GT) (hframes : 1 ≤ M.2.2.2.2.frames) (hlocals : (st.map fun v => v.category).sum + 13 ≤ M.2.2.2.2.locals) (hc : cu ≤ M.2.2.2.2.cells) (hs : su ≤ M.2.2.2.2.slots) (hd : decode M.2.1 pc = .ok (.invokestatic ix, 3)) (kk : Gd Γ l M (pc + 3) lv (.int (imx x y) :: st) h cu su K) : Gd Γ l M pc lv (.int y :: .int x :: st) h cu su K := by
  intro p e s m args below meth c H locs ls cx hR hL hl
  obtain ⟨hx, hb, hr, hml, hown, hts, hlk, hnm, hK⟩ := id cx
  exact va_mmax hx hb (by rw [hml]; exact hl.1.symm) hown (hts _ hlink) (hts _ hstat) (hts _ hini) (hts _ hcode) hframes (by rw [cat_tv]; exact hlocals) hc hs hd (kk p e s m args below meth c H locs ls cx hR hL hl)
theorem r_min {x y : Int32} (hlink : Cond.methodLink M.1.cls ix Lib.Math.min.name ∈ GT) (hstat : Cond.static Lib.Math.min.name ∈ GT) (hini : Cond.initialized "java/lang/Math" ∈ GT) (hcode : Cond.code Lib.Math.min.name Lib.Math.min.code 2 (some .int) ∈ GT) (hframes : 1 ≤ M.2.2.2.2.frames) (hlocals : (st.map fun v => v.category).sum + 13 ≤ M.2.2.2.2.locals) (hc : cu ≤ M.2.2.2.2.cells) (hs : su ≤ M.2.2.2.2.slots) (hd : decode M.2.1 pc = .ok (.invokestatic ix, 3)) (kk : Gd Γ l M (pc + 3) lv (.int (imn x y) :: st) h cu su K) : Gd Γ l M pc lv (.int y :: .int x :: st) h cu su K := by
  intro p e s m args below meth c H locs ls cx hR hL hl
  obtain ⟨hx, hb, hr, hml, hown, hts, hlk, hnm, hK⟩ := id cx
  exact va_mmin hx hb (by rw [hml]; exact hl.1.symm) hown (hts _ hlink) (hts _ hstat) (hts _ hini) (hts _ hcode) hframes (by rw [cat_tv]; exact hlocals) hc hs hd (kk p e s m args below meth c H locs ls cx hR hL hl)
end RM
