section RL
variable {Γ : GE} {l : Launch} {M : MM} {pc : Nat} {lv : List (Nat × Value)} {st : List Value} {h : PH} {cu su : Nat} {K : Option Value → PH → Prop}

theorem r_iconst {n : Int} {v : Int32} (hd : decode M.2.1 pc = .ok (.iconst n, 1)) (hv : Int32.ofInt n = v) (kk : Gd Γ l M (pc + 1) lv (.int v :: st) h cu su K) : Gd Γ l M pc lv (st) h cu su K := by
  intro p e s m args below meth c H locs ls cx hR hL hl
  obtain ⟨hx, hb, hr, hml, hown, hts, hlk, hnm, hK⟩ := id cx
  exact lv_iconst hx hb hd hv (kk p e s m args below meth c H locs ls cx hR hL hl)
theorem r_bipush {n : Int} {v : Int32} (hd : decode M.2.1 pc = .ok (.bipush n, 2)) (hv : (Int8.ofInt n).toInt32 = v) (kk : Gd Γ l M (pc + 2) lv (.int v :: st) h cu su K) : Gd Γ l M pc lv (st) h cu su K := by
  intro p e s m args below meth c H locs ls cx hR hL hl
  obtain ⟨hx, hb, hr, hml, hown, hts, hlk, hnm, hK⟩ := id cx
  exact lv_bipush hx hb hd hv (kk p e s m args below meth c H locs ls cx hR hL hl)
theorem r_sipush {n : Int} {v : Int32} (hd : decode M.2.1 pc = .ok (.sipush n, 3)) (hv : (Int16.ofInt n).toInt32 = v) (kk : Gd Γ l M (pc + 3) lv (.int v :: st) h cu su K) : Gd Γ l M pc lv (st) h cu su K := by
  intro p e s m args below meth c H locs ls cx hR hL hl
  obtain ⟨hx, hb, hr, hml, hown, hts, hlk, hnm, hK⟩ := id cx
  exact lv_sipush hx hb hd hv (kk p e s m args below meth c H locs ls cx hR hL hl)
theorem r_lconst {n : Fin 2} {v : Int64} (hd : decode M.2.1 pc = .ok (.lconst n, 1)) (hv : Int64.ofNat (n : Nat) = v) (kk : Gd Γ l M (pc + 1) lv (.long v :: st) h cu su K) : Gd Γ l M pc lv (st) h cu su K := by
  intro p e s m args below meth c H locs ls cx hR hL hl
  obtain ⟨hx, hb, hr, hml, hown, hts, hlk, hnm, hK⟩ := id cx
  exact lv_lconst hx hb hd hv (kk p e s m args below meth c H locs ls cx hR hL hl)
theorem r_iload_n {k : Fin 4} {x : Int32} (hd : decode M.2.1 pc = .ok (.iload_n k, 1)) (q : Nat) (hq : lv[q]? = some ((k : Nat), .int x)) (kk : Gd Γ l M (pc + 1) lv (.int x :: st) h cu su K) : Gd Γ l M pc lv (st) h cu su K := by
  intro p e s m args below meth c H locs ls cx hR hL hl
  obtain ⟨hx, hb, hr, hml, hown, hts, hlk, hnm, hK⟩ := id cx
  exact lv_iload_n hx hb hd rfl (lvx hl q hq) (kk p e s m args below meth c H locs ls cx hR hL hl)
theorem r_iload {k : Nat} {x : Int32} (hd : decode M.2.1 pc = .ok (.iload k, 2)) (q : Nat) (hq : lv[q]? = some (k, .int x)) (kk : Gd Γ l M (pc + 2) lv (.int x :: st) h cu su K) : Gd Γ l M pc lv (st) h cu su K := by
  intro p e s m args below meth c H locs ls cx hR hL hl
  obtain ⟨hx, hb, hr, hml, hown, hts, hlk, hnm, hK⟩ := id cx
  exact lv_iload hx hb hd (lvx hl q hq) (kk p e s m args below meth c H locs ls cx hR hL hl)
theorem r_lload_n {k : Fin 4} {x : Int64} (hd : decode M.2.1 pc = .ok (.lload_n k, 1)) (q : Nat) (hq : lv[q]? = some ((k : Nat), .long x)) (kk : Gd Γ l M (pc + 1) lv (.long x :: st) h cu su K) : Gd Γ l M pc lv (st) h cu su K := by
  intro p e s m args below meth c H locs ls cx hR hL hl
  obtain ⟨hx, hb, hr, hml, hown, hts, hlk, hnm, hK⟩ := id cx
  exact lv_lload_n hx hb hd rfl (lvx hl q hq) (kk p e s m args below meth c H locs ls cx hR hL hl)
theorem r_lload {k : Nat} {x : Int64} (hd : decode M.2.1 pc = .ok (.lload k, 2)) (q : Nat) (hq : lv[q]? = some (k, .long x)) (kk : Gd Γ l M (pc + 2) lv (.long x :: st) h cu su K) : Gd Γ l M pc lv (st) h cu su K := by
  intro p e s m args below meth c H locs ls cx hR hL hl
  obtain ⟨hx, hb, hr, hml, hown, hts, hlk, hnm, hK⟩ := id cx
  exact lv_lload hx hb hd (lvx hl q hq) (kk p e s m args below meth c H locs ls cx hR hL hl)
theorem r_aload_n {k : Fin 4} {x : Nat} (hd : decode M.2.1 pc = .ok (.aload_n k, 1)) (q : Nat) (hq : lv[q]? = some ((k : Nat), .ref x)) (kk : Gd Γ l M (pc + 1) lv (.ref x :: st) h cu su K) : Gd Γ l M pc lv (st) h cu su K := by
  intro p e s m args below meth c H locs ls cx hR hL hl
  obtain ⟨hx, hb, hr, hml, hown, hts, hlk, hnm, hK⟩ := id cx
  exact lv_aload_n hx hb hd rfl (lvx hl q hq) (kk p e s m args below meth c H locs ls cx hR hL hl)
theorem r_aload {k : Nat} {x : Nat} (hd : decode M.2.1 pc = .ok (.aload k, 2)) (q : Nat) (hq : lv[q]? = some (k, .ref x)) (kk : Gd Γ l M (pc + 2) lv (.ref x :: st) h cu su K) : Gd Γ l M pc lv (st) h cu su K := by
  intro p e s m args below meth c H locs ls cx hR hL hl
  obtain ⟨hx, hb, hr, hml, hown, hts, hlk, hnm, hK⟩ := id cx
  exact lv_aload hx hb hd (lvx hl q hq) (kk p e s m args below meth c H locs ls cx hR hL hl)
theorem r_aload_nS {k : Fin 4} {x : UInt32} (hd : decode M.2.1 pc = .ok (.aload_n k, 1)) (q : Nat) (hq : lv[q]? = some ((k : Nat), .float x)) (kk : Gd Γ l M (pc + 1) lv (.float x :: st) h cu su K) : Gd Γ l M pc lv (st) h cu su K := by
  intro p e s m args below meth c H locs ls cx hR hL hl
  obtain ⟨hx, hb, hr, hml, hown, hts, hlk, hnm, hK⟩ := id cx
  exact lv_aload_n hx hb hd rfl (lvx hl q hq) (kk p e s m args below meth c H locs ls cx hR hL hl)
theorem r_aloadS {k : Nat} {x : UInt32} (hd : decode M.2.1 pc = .ok (.aload k, 2)) (q : Nat) (hq : lv[q]? = some (k, .float x)) (kk : Gd Γ l M (pc + 2) lv (.float x :: st) h cu su K) : Gd Γ l M pc lv (st) h cu su K := by
  intro p e s m args below meth c H locs ls cx hR hL hl
  obtain ⟨hx, hb, hr, hml, hown, hts, hlk, hnm, hK⟩ := id cx
  exact lv_aload hx hb hd (lvx hl q hq) (kk p e s m args below meth c H locs ls cx hR hL hl)
theorem r_istore_n {k : Fin 4} {x : Int32} (hd : decode M.2.1 pc = .ok (.istore_n k, 1)) {lv1 : List (Nat × Value)} (hn : (k : Nat) < M.2.2.1) (h1 : lvst lv k (.int x) = lv1) (kk : Gd Γ l M (pc + 1) lv1 st h cu su K) : Gd Γ l M pc lv (.int x :: st) h cu su K := by
  intro p e s m args below meth c H locs ls cx hR hL hl
  obtain ⟨hx, hb, hr, hml, hown, hts, hlk, hnm, hK⟩ := id cx
  exact lv_istore_n hx hb hd rfl hl hn rfl (fun ls1 hl1 => kk p e s m args below meth c H locs ls1 cx hR hL (by rw [← h1, ← lvst_tq]; exact hl1))
theorem r_istore {k : Nat} {x : Int32} (hd : decode M.2.1 pc = .ok (.istore k, 2)) {lv1 : List (Nat × Value)} (hn : (k : Nat) < M.2.2.1) (h1 : lvst lv k (.int x) = lv1) (kk : Gd Γ l M (pc + 2) lv1 st h cu su K) : Gd Γ l M pc lv (.int x :: st) h cu su K := by
  intro p e s m args below meth c H locs ls cx hR hL hl
  obtain ⟨hx, hb, hr, hml, hown, hts, hlk, hnm, hK⟩ := id cx
  exact lv_istore hx hb hd hl hn rfl (fun ls1 hl1 => kk p e s m args below meth c H locs ls1 cx hR hL (by rw [← h1, ← lvst_tq]; exact hl1))
theorem r_astore_n {k : Fin 4} {x : Nat} (hd : decode M.2.1 pc = .ok (.astore_n k, 1)) {lv1 : List (Nat × Value)} (hn : (k : Nat) < M.2.2.1) (h1 : lvst lv k (.ref x) = lv1) (kk : Gd Γ l M (pc + 1) lv1 st h cu su K) : Gd Γ l M pc lv (.ref x :: st) h cu su K := by
  intro p e s m args below meth c H locs ls cx hR hL hl
  obtain ⟨hx, hb, hr, hml, hown, hts, hlk, hnm, hK⟩ := id cx
  exact lv_astore_n hx hb hd rfl hl hn rfl (fun ls1 hl1 => kk p e s m args below meth c H locs ls1 cx hR hL (by rw [← h1, ← lvst_tq]; exact hl1))
theorem r_astore {k : Nat} {x : Nat} (hd : decode M.2.1 pc = .ok (.astore k, 2)) {lv1 : List (Nat × Value)} (hn : (k : Nat) < M.2.2.1) (h1 : lvst lv k (.ref x) = lv1) (kk : Gd Γ l M (pc + 2) lv1 st h cu su K) : Gd Γ l M pc lv (.ref x :: st) h cu su K := by
  intro p e s m args below meth c H locs ls cx hR hL hl
  obtain ⟨hx, hb, hr, hml, hown, hts, hlk, hnm, hK⟩ := id cx
  exact lv_astore hx hb hd hl hn rfl (fun ls1 hl1 => kk p e s m args below meth c H locs ls1 cx hR hL (by rw [← h1, ← lvst_tq]; exact hl1))
theorem r_astore_nS {k : Fin 4} {x : UInt32} (hd : decode M.2.1 pc = .ok (.astore_n k, 1)) {lv1 : List (Nat × Value)} (hn : (k : Nat) < M.2.2.1) (h1 : lvst lv k (.float x) = lv1) (kk : Gd Γ l M (pc + 1) lv1 st h cu su K) : Gd Γ l M pc lv (.float x :: st) h cu su K := by
  intro p e s m args below meth c H locs ls cx hR hL hl
  obtain ⟨hx, hb, hr, hml, hown, hts, hlk, hnm, hK⟩ := id cx
  exact lv_astore_n (x := Γ.2.2.1 x.toNat) hx hb hd rfl hl hn rfl (fun ls1 hl1 => kk p e s m args below meth c H locs ls1 cx hR hL (by rw [← h1, ← lvst_tq]; exact hl1))
theorem r_lstore_n {k : Fin 4} {x : Int64} (hd : decode M.2.1 pc = .ok (.lstore_n k, 1)) {lv1 : List (Nat × Value)} (hn : (k : Nat) + 1 < M.2.2.1) (h1 : lvst2 lv k (.long x) = lv1) (kk : Gd Γ l M (pc + 1) lv1 st h cu su K) : Gd Γ l M pc lv (.long x :: st) h cu su K := by
  intro p e s m args below meth c H locs ls cx hR hL hl
  obtain ⟨hx, hb, hr, hml, hown, hts, hlk, hnm, hK⟩ := id cx
  exact lv_lstore_n hx hb hd rfl hl hn rfl (fun ls1 hl1 => kk p e s m args below meth c H locs ls1 cx hR hL (by rw [← h1, ← lvst2_tq]; exact hl1))
theorem r_lstore {k : Nat} {x : Int64} (hd : decode M.2.1 pc = .ok (.lstore k, 2)) {lv1 : List (Nat × Value)} (hn : (k : Nat) + 1 < M.2.2.1) (h1 : lvst2 lv k (.long x) = lv1) (kk : Gd Γ l M (pc + 2) lv1 st h cu su K) : Gd Γ l M pc lv (.long x :: st) h cu su K := by
  intro p e s m args below meth c H locs ls cx hR hL hl
  obtain ⟨hx, hb, hr, hml, hown, hts, hlk, hnm, hK⟩ := id cx
  exact lv_lstore hx hb hd hl hn rfl (fun ls1 hl1 => kk p e s m args below meth c H locs ls1 cx hR hL (by rw [← h1, ← lvst2_tq]; exact hl1))
theorem r_iinc {k : Nat} {n : Int} {x : Int32} (hd : decode M.2.1 pc = .ok (.iinc k n, 3)) (q : Nat) (hq : lv[q]? = some (k, .int x)) {lv1 : List (Nat × Value)} (hn : k < M.2.2.1) (h1 : lvst lv k (.int (x + Int32.ofInt n)) = lv1) (kk : Gd Γ l M (pc + 3) lv1 st h cu su K) : Gd Γ l M pc lv st h cu su K := by
  intro p e s m args below meth c H locs ls cx hR hL hl
  obtain ⟨hx, hb, hr, hml, hown, hts, hlk, hnm, hK⟩ := id cx
  exact lv_iinc hx hb hd hl (k := q) (by rw [List.getElem?_map, hq]; rfl) rfl hn rfl (fun ls1 hl1 => kk p e s m args below meth c H locs ls1 cx hR hL (by rw [← h1, ← lvst_tq]; exact hl1))
theorem r_loc {lv1 : List (Nat × Value)} (ks : List Nat) (h1 : lv_pick lv ks = lv1) (kk : Gd Γ l M pc lv1 st h cu su K) : Gd Γ l M pc lv st h cu su K := by
  intro p e s m args below meth c H locs ls cx hR hL hl
  obtain ⟨hx, hb, hr, hml, hown, hts, hlk, hnm, hK⟩ := id cx
  refine kk p e s m args below meth c H locs ls cx hR hL (lv_sub hl ks ?_)
  rw [← h1]
  simp only [lv_pick, List.map_filterMap, List.getElem?_map]
theorem r_iadd {x y : Int32} (hd : decode M.2.1 pc = .ok (.iadd, 1)) (kk : Gd Γ l M (pc + 1) lv (.int (x + y) :: st) h cu su K) : Gd Γ l M pc lv (.int y :: .int x :: st) h cu su K := by
  intro p e s m args below meth c H locs ls cx hR hL hl
  obtain ⟨hx, hb, hr, hml, hown, hts, hlk, hnm, hK⟩ := id cx
  exact lv_iadd hx hb hd (kk p e s m args below meth c H locs ls cx hR hL hl)
theorem r_isub {x y : Int32} (hd : decode M.2.1 pc = .ok (.isub, 1)) (kk : Gd Γ l M (pc + 1) lv (.int (x - y) :: st) h cu su K) : Gd Γ l M pc lv (.int y :: .int x :: st) h cu su K := by
  intro p e s m args below meth c H locs ls cx hR hL hl
  obtain ⟨hx, hb, hr, hml, hown, hts, hlk, hnm, hK⟩ := id cx
  exact lv_isub hx hb hd (kk p e s m args below meth c H locs ls cx hR hL hl)
theorem r_imul {x y : Int32} (hd : decode M.2.1 pc = .ok (.imul, 1)) (kk : Gd Γ l M (pc + 1) lv (.int (x * y) :: st) h cu su K) : Gd Γ l M pc lv (.int y :: .int x :: st) h cu su K := by
  intro p e s m args below meth c H locs ls cx hR hL hl
  obtain ⟨hx, hb, hr, hml, hown, hts, hlk, hnm, hK⟩ := id cx
  exact lv_imul hx hb hd (kk p e s m args below meth c H locs ls cx hR hL hl)
theorem r_iand {x y : Int32} (hd : decode M.2.1 pc = .ok (.iand, 1)) (kk : Gd Γ l M (pc + 1) lv (.int (x &&& y) :: st) h cu su K) : Gd Γ l M pc lv (.int y :: .int x :: st) h cu su K := by
  intro p e s m args below meth c H locs ls cx hR hL hl
  obtain ⟨hx, hb, hr, hml, hown, hts, hlk, hnm, hK⟩ := id cx
  exact lv_iand hx hb hd (kk p e s m args below meth c H locs ls cx hR hL hl)
theorem r_ior {x y : Int32} (hd : decode M.2.1 pc = .ok (.ior, 1)) (kk : Gd Γ l M (pc + 1) lv (.int (x ||| y) :: st) h cu su K) : Gd Γ l M pc lv (.int y :: .int x :: st) h cu su K := by
  intro p e s m args below meth c H locs ls cx hR hL hl
  obtain ⟨hx, hb, hr, hml, hown, hts, hlk, hnm, hK⟩ := id cx
  exact lv_ior hx hb hd (kk p e s m args below meth c H locs ls cx hR hL hl)
theorem r_ixor {x y : Int32} (hd : decode M.2.1 pc = .ok (.ixor, 1)) (kk : Gd Γ l M (pc + 1) lv (.int (x ^^^ y) :: st) h cu su K) : Gd Γ l M pc lv (.int y :: .int x :: st) h cu su K := by
  intro p e s m args below meth c H locs ls cx hR hL hl
  obtain ⟨hx, hb, hr, hml, hown, hts, hlk, hnm, hK⟩ := id cx
  exact lv_ixor hx hb hd (kk p e s m args below meth c H locs ls cx hR hL hl)
theorem r_ishl {x y : Int32} (hd : decode M.2.1 pc = .ok (.ishl, 1)) (kk : Gd Γ l M (pc + 1) lv (.int (x <<< (y &&& 31)) :: st) h cu su K) : Gd Γ l M pc lv (.int y :: .int x :: st) h cu su K := by
  intro p e s m args below meth c H locs ls cx hR hL hl
  obtain ⟨hx, hb, hr, hml, hown, hts, hlk, hnm, hK⟩ := id cx
  exact lv_ishl hx hb hd (kk p e s m args below meth c H locs ls cx hR hL hl)
theorem r_ishr {x y : Int32} (hd : decode M.2.1 pc = .ok (.ishr, 1)) (kk : Gd Γ l M (pc + 1) lv (.int (x >>> (y &&& 31)) :: st) h cu su K) : Gd Γ l M pc lv (.int y :: .int x :: st) h cu su K := by
  intro p e s m args below meth c H locs ls cx hR hL hl
  obtain ⟨hx, hb, hr, hml, hown, hts, hlk, hnm, hK⟩ := id cx
  exact lv_ishr hx hb hd (kk p e s m args below meth c H locs ls cx hR hL hl)
theorem r_ladd {x y : Int64} (hd : decode M.2.1 pc = .ok (.ladd, 1)) (kk : Gd Γ l M (pc + 1) lv (.long (x + y) :: st) h cu su K) : Gd Γ l M pc lv (.long y :: .long x :: st) h cu su K := by
  intro p e s m args below meth c H locs ls cx hR hL hl
  obtain ⟨hx, hb, hr, hml, hown, hts, hlk, hnm, hK⟩ := id cx
  exact lv_ladd hx hb hd (kk p e s m args below meth c H locs ls cx hR hL hl)
theorem r_lmul {x y : Int64} (hd : decode M.2.1 pc = .ok (.lmul, 1)) (kk : Gd Γ l M (pc + 1) lv (.long (x * y) :: st) h cu su K) : Gd Γ l M pc lv (.long y :: .long x :: st) h cu su K := by
  intro p e s m args below meth c H locs ls cx hR hL hl
  obtain ⟨hx, hb, hr, hml, hown, hts, hlk, hnm, hK⟩ := id cx
  exact lv_lmul hx hb hd (kk p e s m args below meth c H locs ls cx hR hL hl)
theorem r_land {x y : Int64} (hd : decode M.2.1 pc = .ok (.land, 1)) (kk : Gd Γ l M (pc + 1) lv (.long (x &&& y) :: st) h cu su K) : Gd Γ l M pc lv (.long y :: .long x :: st) h cu su K := by
  intro p e s m args below meth c H locs ls cx hR hL hl
  obtain ⟨hx, hb, hr, hml, hown, hts, hlk, hnm, hK⟩ := id cx
  exact lv_land hx hb hd (kk p e s m args below meth c H locs ls cx hR hL hl)
theorem r_lor {x y : Int64} (hd : decode M.2.1 pc = .ok (.lor, 1)) (kk : Gd Γ l M (pc + 1) lv (.long (x ||| y) :: st) h cu su K) : Gd Γ l M pc lv (.long y :: .long x :: st) h cu su K := by
  intro p e s m args below meth c H locs ls cx hR hL hl
  obtain ⟨hx, hb, hr, hml, hown, hts, hlk, hnm, hK⟩ := id cx
  exact lv_lor hx hb hd (kk p e s m args below meth c H locs ls cx hR hL hl)
theorem r_idiv {x y : Int32} (hd : decode M.2.1 pc = .ok (.idiv, 1)) (hy : ¬ y = 0) (kk : Gd Γ l M (pc + 1) lv (.int (x / y) :: st) h cu su K) : Gd Γ l M pc lv (.int y :: .int x :: st) h cu su K := by
  intro p e s m args below meth c H locs ls cx hR hL hl
  obtain ⟨hx, hb, hr, hml, hown, hts, hlk, hnm, hK⟩ := id cx
  exact lv_idiv hx hb hd hy (kk p e s m args below meth c H locs ls cx hR hL hl)
theorem r_irem {x y : Int32} (hd : decode M.2.1 pc = .ok (.irem, 1)) (hy : ¬ y = 0) (kk : Gd Γ l M (pc + 1) lv (.int (x - x / y * y) :: st) h cu su K) : Gd Γ l M pc lv (.int y :: .int x :: st) h cu su K := by
  intro p e s m args below meth c H locs ls cx hR hL hl
  obtain ⟨hx, hb, hr, hml, hown, hts, hlk, hnm, hK⟩ := id cx
  exact lv_irem hx hb hd hy (kk p e s m args below meth c H locs ls cx hR hL hl)
theorem r_ldiv {x y : Int64} (hd : decode M.2.1 pc = .ok (.ldiv, 1)) (hy : ¬ y = 0) (kk : Gd Γ l M (pc + 1) lv (.long (x / y) :: st) h cu su K) : Gd Γ l M pc lv (.long y :: .long x :: st) h cu su K := by
  intro p e s m args below meth c H locs ls cx hR hL hl
  obtain ⟨hx, hb, hr, hml, hown, hts, hlk, hnm, hK⟩ := id cx
  exact lv_ldiv hx hb hd hy (kk p e s m args below meth c H locs ls cx hR hL hl)
theorem r_lrem {x y : Int64} (hd : decode M.2.1 pc = .ok (.lrem, 1)) (hy : ¬ y = 0) (kk : Gd Γ l M (pc + 1) lv (.long (x - x / y * y) :: st) h cu su K) : Gd Γ l M pc lv (.long y :: .long x :: st) h cu su K := by
  intro p e s m args below meth c H locs ls cx hR hL hl
  obtain ⟨hx, hb, hr, hml, hown, hts, hlk, hnm, hK⟩ := id cx
  exact lv_lrem hx hb hd hy (kk p e s m args below meth c H locs ls cx hR hL hl)
theorem r_ineg {x : Int32} (hd : decode M.2.1 pc = .ok (.ineg, 1)) (kk : Gd Γ l M (pc + 1) lv (.int (-x) :: st) h cu su K) : Gd Γ l M pc lv (.int x :: st) h cu su K := by
  intro p e s m args below meth c H locs ls cx hR hL hl
  obtain ⟨hx, hb, hr, hml, hown, hts, hlk, hnm, hK⟩ := id cx
  exact lv_ineg hx hb hd (kk p e s m args below meth c H locs ls cx hR hL hl)
theorem r_iushr {x y : Int32} (hd : decode M.2.1 pc = .ok (.iushr, 1)) (kk : Gd Γ l M (pc + 1) lv (.int ((x.toUInt32 >>> (y.toUInt32 &&& Int32.toUInt32 31)).toInt32) :: st) h cu su K) : Gd Γ l M pc lv (.int y :: .int x :: st) h cu su K := by
  intro p e s m args below meth c H locs ls cx hR hL hl
  obtain ⟨hx, hb, hr, hml, hown, hts, hlk, hnm, hK⟩ := id cx
  exact lv_iushr hx hb hd rfl (kk p e s m args below meth c H locs ls cx hR hL hl)
theorem r_lshl {x : Int64} {y : Int32} (hd : decode M.2.1 pc = .ok (.lshl, 1)) (kk : Gd Γ l M (pc + 1) lv (.long (x <<< (y.toInt64 &&& 63)) :: st) h cu su K) : Gd Γ l M pc lv (.int y :: .long x :: st) h cu su K := by
  intro p e s m args below meth c H locs ls cx hR hL hl
  obtain ⟨hx, hb, hr, hml, hown, hts, hlk, hnm, hK⟩ := id cx
  exact lv_lshl hx hb hd rfl (kk p e s m args below meth c H locs ls cx hR hL hl)
theorem r_lshr {x : Int64} {y : Int32} (hd : decode M.2.1 pc = .ok (.lshr, 1)) (kk : Gd Γ l M (pc + 1) lv (.long (x >>> (y.toInt64 &&& 63)) :: st) h cu su K) : Gd Γ l M pc lv (.int y :: .long x :: st) h cu su K := by
  intro p e s m args below meth c H locs ls cx hR hL hl
  obtain ⟨hx, hb, hr, hml, hown, hts, hlk, hnm, hK⟩ := id cx
  exact lv_lshr hx hb hd rfl (kk p e s m args below meth c H locs ls cx hR hL hl)
theorem r_lcmp {x y : Int64} (hd : decode M.2.1 pc = .ok (.lcmp, 1)) (kk : Gd Γ l M (pc + 1) lv (.int (lg_cmp x y) :: st) h cu su K) : Gd Γ l M pc lv (.long y :: .long x :: st) h cu su K := by
  intro p e s m args below meth c H locs ls cx hR hL hl
  obtain ⟨hx, hb, hr, hml, hown, hts, hlk, hnm, hK⟩ := id cx
  exact W.lcmp hx hb hd (kk p e s m args below meth c H locs ls cx hR hL hl)
theorem r_i2l {x : Int32} (hd : decode M.2.1 pc = .ok (.i2l, 1)) (kk : Gd Γ l M (pc + 1) lv (.long x.toInt64 :: st) h cu su K) : Gd Γ l M pc lv (.int x :: st) h cu su K := by
  intro p e s m args below meth c H locs ls cx hR hL hl
  obtain ⟨hx, hb, hr, hml, hown, hts, hlk, hnm, hK⟩ := id cx
  exact lv_i2l hx hb hd rfl (kk p e s m args below meth c H locs ls cx hR hL hl)
theorem r_l2i {x : Int64} (hd : decode M.2.1 pc = .ok (.l2i, 1)) (kk : Gd Γ l M (pc + 1) lv (.int x.toInt32 :: st) h cu su K) : Gd Γ l M pc lv (.long x :: st) h cu su K := by
  intro p e s m args below meth c H locs ls cx hR hL hl
  obtain ⟨hx, hb, hr, hml, hown, hts, hlk, hnm, hK⟩ := id cx
  exact lv_l2i hx hb hd rfl (kk p e s m args below meth c H locs ls cx hR hL hl)
theorem r_i2b {x : Int32} (hd : decode M.2.1 pc = .ok (.i2b, 1)) (kk : Gd Γ l M (pc + 1) lv (.int x.toInt8.toInt32 :: st) h cu su K) : Gd Γ l M pc lv (.int x :: st) h cu su K := by
  intro p e s m args below meth c H locs ls cx hR hL hl
  obtain ⟨hx, hb, hr, hml, hown, hts, hlk, hnm, hK⟩ := id cx
  exact lv_i2b hx hb hd rfl (kk p e s m args below meth c H locs ls cx hR hL hl)
theorem r_i2c {x : Int32} (hd : decode M.2.1 pc = .ok (.i2c, 1)) (kk : Gd Γ l M (pc + 1) lv (.int (x.toUInt32 % 65536).toInt32 :: st) h cu su K) : Gd Γ l M pc lv (.int x :: st) h cu su K := by
  intro p e s m args below meth c H locs ls cx hR hL hl
  obtain ⟨hx, hb, hr, hml, hown, hts, hlk, hnm, hK⟩ := id cx
  exact lv_i2c hx hb hd rfl (kk p e s m args below meth c H locs ls cx hR hL hl)
theorem r_dup {v : Value} (hd : decode M.2.1 pc = .ok (.dup, 1)) (hv : v.category = 1) (kk : Gd Γ l M (pc + 1) lv (v :: v :: st) h cu su K) : Gd Γ l M pc lv (v :: st) h cu su K := by
  intro p e s m args below meth c H locs ls cx hR hL hl
  obtain ⟨hx, hb, hr, hml, hown, hts, hlk, hnm, hK⟩ := id cx
  exact lv_dup hx hb hd (by rw [tv_cat]; exact hv) (kk p e s m args below meth c H locs ls cx hR hL hl)
theorem r_dup2 {v w : Value} (hd : decode M.2.1 pc = .ok (.dup2, 1)) (hv : v.category = 1) (hw : w.category = 1) (kk : Gd Γ l M (pc + 1) lv (v :: w :: v :: w :: st) h cu su K) : Gd Γ l M pc lv (v :: w :: st) h cu su K := by
  intro p e s m args below meth c H locs ls cx hR hL hl
  obtain ⟨hx, hb, hr, hml, hown, hts, hlk, hnm, hK⟩ := id cx
  exact lv_dup2_11 hx hb hd (by rw [tv_cat]; exact hv) (by rw [tv_cat]; exact hw) (kk p e s m args below meth c H locs ls cx hR hL hl)
theorem r_pop {v : Value} (hd : decode M.2.1 pc = .ok (.pop, 1)) (hv : v.category = 1) (kk : Gd Γ l M (pc + 1) lv (st) h cu su K) : Gd Γ l M pc lv (v :: st) h cu su K := by
  intro p e s m args below meth c H locs ls cx hR hL hl
  obtain ⟨hx, hb, hr, hml, hown, hts, hlk, hnm, hK⟩ := id cx
  exact lv_pop hx hb hd (by rw [tv_cat]; exact hv) (kk p e s m args below meth c H locs ls cx hR hL hl)
theorem r_goto {off : Int} {tgt : Nat} (hd : decode M.2.1 pc = .ok (.goto off, 3)) (ht : (pc : Int) + off = (tgt : Int)) (kk : Gd Γ l M (tgt) lv (st) h cu su K) : Gd Γ l M pc lv (st) h cu su K := by
  intro p e s m args below meth c H locs ls cx hR hL hl
  obtain ⟨hx, hb, hr, hml, hown, hts, hlk, hnm, hK⟩ := id cx
  exact lv_goto hx hb hd ht (kk p e s m args below meth c H locs ls cx hR hL hl)
theorem r_if_eq {x : Int32} {off : Int} {tgt : Nat} (hd : decode M.2.1 pc = .ok (.ifCond .eq off, 3)) (ht : (pc : Int) + off = (tgt : Int)) (kt : x = 0 → Gd Γ l M tgt lv st h cu su K) (kf : ¬ (x = 0) → Gd Γ l M (pc + 3) lv st h cu su K) : Gd Γ l M pc lv (.int x :: st) h cu su K := by
  intro p e s m args below meth c H locs ls cx hR hL hl
  obtain ⟨hx, hb, hr, hml, hown, hts, hlk, hnm, hK⟩ := id cx
  exact lv_if_eq hx hb hd ht (fun q => kt q p e s m args below meth c H locs ls cx hR hL hl) (fun q => kf q p e s m args below meth c H locs ls cx hR hL hl)
theorem r_icmp_eq {x y : Int32} {off : Int} {tgt : Nat} (hd : decode M.2.1 pc = .ok (.if_icmp .eq off, 3)) (ht : (pc : Int) + off = (tgt : Int)) (kt : x = y → Gd Γ l M tgt lv st h cu su K) (kf : ¬ (x = y) → Gd Γ l M (pc + 3) lv st h cu su K) : Gd Γ l M pc lv (.int y :: .int x :: st) h cu su K := by
  intro p e s m args below meth c H locs ls cx hR hL hl
  obtain ⟨hx, hb, hr, hml, hown, hts, hlk, hnm, hK⟩ := id cx
  exact lv_icmp_eq hx hb hd ht (fun q => kt q p e s m args below meth c H locs ls cx hR hL hl) (fun q => kf q p e s m args below meth c H locs ls cx hR hL hl)
theorem r_if_ne {x : Int32} {off : Int} {tgt : Nat} (hd : decode M.2.1 pc = .ok (.ifCond .ne off, 3)) (ht : (pc : Int) + off = (tgt : Int)) (kt : ¬ x = 0 → Gd Γ l M tgt lv st h cu su K) (kf : x = 0 → Gd Γ l M (pc + 3) lv st h cu su K) : Gd Γ l M pc lv (.int x :: st) h cu su K := by
  intro p e s m args below meth c H locs ls cx hR hL hl
  obtain ⟨hx, hb, hr, hml, hown, hts, hlk, hnm, hK⟩ := id cx
  exact lv_if_ne hx hb hd ht (fun q => kt q p e s m args below meth c H locs ls cx hR hL hl) (fun q => kf q p e s m args below meth c H locs ls cx hR hL hl)
theorem r_icmp_ne {x y : Int32} {off : Int} {tgt : Nat} (hd : decode M.2.1 pc = .ok (.if_icmp .ne off, 3)) (ht : (pc : Int) + off = (tgt : Int)) (kt : ¬ x = y → Gd Γ l M tgt lv st h cu su K) (kf : x = y → Gd Γ l M (pc + 3) lv st h cu su K) : Gd Γ l M pc lv (.int y :: .int x :: st) h cu su K := by
  intro p e s m args below meth c H locs ls cx hR hL hl
  obtain ⟨hx, hb, hr, hml, hown, hts, hlk, hnm, hK⟩ := id cx
  exact lv_icmp_ne hx hb hd ht (fun q => kt q p e s m args below meth c H locs ls cx hR hL hl) (fun q => kf q p e s m args below meth c H locs ls cx hR hL hl)
theorem r_if_lt {x : Int32} {off : Int} {tgt : Nat} (hd : decode M.2.1 pc = .ok (.ifCond .lt off, 3)) (ht : (pc : Int) + off = (tgt : Int)) (kt : x < 0 → Gd Γ l M tgt lv st h cu su K) (kf : ¬ (x < 0) → Gd Γ l M (pc + 3) lv st h cu su K) : Gd Γ l M pc lv (.int x :: st) h cu su K := by
  intro p e s m args below meth c H locs ls cx hR hL hl
  obtain ⟨hx, hb, hr, hml, hown, hts, hlk, hnm, hK⟩ := id cx
  exact lv_if_lt hx hb hd ht (fun q => kt q p e s m args below meth c H locs ls cx hR hL hl) (fun q => kf q p e s m args below meth c H locs ls cx hR hL hl)
theorem r_icmp_lt {x y : Int32} {off : Int} {tgt : Nat} (hd : decode M.2.1 pc = .ok (.if_icmp .lt off, 3)) (ht : (pc : Int) + off = (tgt : Int)) (kt : x < y → Gd Γ l M tgt lv st h cu su K) (kf : ¬ (x < y) → Gd Γ l M (pc + 3) lv st h cu su K) : Gd Γ l M pc lv (.int y :: .int x :: st) h cu su K := by
  intro p e s m args below meth c H locs ls cx hR hL hl
  obtain ⟨hx, hb, hr, hml, hown, hts, hlk, hnm, hK⟩ := id cx
  exact lv_icmp_lt hx hb hd ht (fun q => kt q p e s m args below meth c H locs ls cx hR hL hl) (fun q => kf q p e s m args below meth c H locs ls cx hR hL hl)
theorem r_if_ge {x : Int32} {off : Int} {tgt : Nat} (hd : decode M.2.1 pc = .ok (.ifCond .ge off, 3)) (ht : (pc : Int) + off = (tgt : Int)) (kt : 0 ≤ x → Gd Γ l M tgt lv st h cu su K) (kf : ¬ (0 ≤ x) → Gd Γ l M (pc + 3) lv st h cu su K) : Gd Γ l M pc lv (.int x :: st) h cu su K := by
  intro p e s m args below meth c H locs ls cx hR hL hl
  obtain ⟨hx, hb, hr, hml, hown, hts, hlk, hnm, hK⟩ := id cx
  exact lv_if_ge hx hb hd ht (fun q => kt q p e s m args below meth c H locs ls cx hR hL hl) (fun q => kf q p e s m args below meth c H locs ls cx hR hL hl)
theorem r_icmp_ge {x y : Int32} {off : Int} {tgt : Nat} (hd : decode M.2.1 pc = .ok (.if_icmp .ge off, 3)) (ht : (pc : Int) + off = (tgt : Int)) (kt : y ≤ x → Gd Γ l M tgt lv st h cu su K) (kf : ¬ (y ≤ x) → Gd Γ l M (pc + 3) lv st h cu su K) : Gd Γ l M pc lv (.int y :: .int x :: st) h cu su K := by
  intro p e s m args below meth c H locs ls cx hR hL hl
  obtain ⟨hx, hb, hr, hml, hown, hts, hlk, hnm, hK⟩ := id cx
  exact lv_icmp_ge hx hb hd ht (fun q => kt q p e s m args below meth c H locs ls cx hR hL hl) (fun q => kf q p e s m args below meth c H locs ls cx hR hL hl)
theorem r_if_gt {x : Int32} {off : Int} {tgt : Nat} (hd : decode M.2.1 pc = .ok (.ifCond .gt off, 3)) (ht : (pc : Int) + off = (tgt : Int)) (kt : 0 < x → Gd Γ l M tgt lv st h cu su K) (kf : ¬ (0 < x) → Gd Γ l M (pc + 3) lv st h cu su K) : Gd Γ l M pc lv (.int x :: st) h cu su K := by
  intro p e s m args below meth c H locs ls cx hR hL hl
  obtain ⟨hx, hb, hr, hml, hown, hts, hlk, hnm, hK⟩ := id cx
  exact lv_if_gt hx hb hd ht (fun q => kt q p e s m args below meth c H locs ls cx hR hL hl) (fun q => kf q p e s m args below meth c H locs ls cx hR hL hl)
theorem r_icmp_gt {x y : Int32} {off : Int} {tgt : Nat} (hd : decode M.2.1 pc = .ok (.if_icmp .gt off, 3)) (ht : (pc : Int) + off = (tgt : Int)) (kt : y < x → Gd Γ l M tgt lv st h cu su K) (kf : ¬ (y < x) → Gd Γ l M (pc + 3) lv st h cu su K) : Gd Γ l M pc lv (.int y :: .int x :: st) h cu su K := by
  intro p e s m args below meth c H locs ls cx hR hL hl
  obtain ⟨hx, hb, hr, hml, hown, hts, hlk, hnm, hK⟩ := id cx
  exact lv_icmp_gt hx hb hd ht (fun q => kt q p e s m args below meth c H locs ls cx hR hL hl) (fun q => kf q p e s m args below meth c H locs ls cx hR hL hl)
theorem r_if_le {x : Int32} {off : Int} {tgt : Nat} (hd : decode M.2.1 pc = .ok (.ifCond .le off, 3)) (ht : (pc : Int) + off = (tgt : Int)) (kt : x ≤ 0 → Gd Γ l M tgt lv st h cu su K) (kf : ¬ (x ≤ 0) → Gd Γ l M (pc + 3) lv st h cu su K) : Gd Γ l M pc lv (.int x :: st) h cu su K := by
  intro p e s m args below meth c H locs ls cx hR hL hl
  obtain ⟨hx, hb, hr, hml, hown, hts, hlk, hnm, hK⟩ := id cx
  exact lv_if_le hx hb hd ht (fun q => kt q p e s m args below meth c H locs ls cx hR hL hl) (fun q => kf q p e s m args below meth c H locs ls cx hR hL hl)
theorem r_icmp_le {x y : Int32} {off : Int} {tgt : Nat} (hd : decode M.2.1 pc = .ok (.if_icmp .le off, 3)) (ht : (pc : Int) + off = (tgt : Int)) (kt : x ≤ y → Gd Γ l M tgt lv st h cu su K) (kf : ¬ (x ≤ y) → Gd Γ l M (pc + 3) lv st h cu su K) : Gd Γ l M pc lv (.int y :: .int x :: st) h cu su K := by
  intro p e s m args below meth c H locs ls cx hR hL hl
  obtain ⟨hx, hb, hr, hml, hown, hts, hlk, hnm, hK⟩ := id cx
  exact lv_icmp_le hx hb hd ht (fun q => kt q p e s m args below meth c H locs ls cx hR hL hl) (fun q => kf q p e s m args below meth c H locs ls cx hR hL hl)
theorem r_tableOut {dflt lo hi : Int} {offs : Array Int} {len : Nat} {x : Int32} {tgt : Nat} (hd : decode M.2.1 pc = .ok (.tableswitch dflt lo hi offs, len)) (hq : x.toInt < lo ∨ hi < x.toInt) (ht : (pc : Int) + dflt = (tgt : Int)) (kk : Gd Γ l M (tgt) lv (st) h cu su K) : Gd Γ l M pc lv (.int x :: st) h cu su K := by
  intro p e s m args below meth c H locs ls cx hR hL hl
  obtain ⟨hx, hb, hr, hml, hown, hts, hlk, hnm, hK⟩ := id cx
  exact lv_tableOut hx hb hd hq ht (kk p e s m args below meth c H locs ls cx hR hL hl)
theorem r_tableIn {dflt lo hi : Int} {offs : Array Int} {len : Nat} {x : Int32} {off : Int} {tgt : Nat} (hd : decode M.2.1 pc = .ok (.tableswitch dflt lo hi offs, len)) (h1 : ¬ x.toInt < lo) (h2 : ¬ hi < x.toInt) (ho : offs[(x.toInt - lo).toNat]? = some off) (ht : (pc : Int) + off = (tgt : Int)) (kk : Gd Γ l M (tgt) lv (st) h cu su K) : Gd Γ l M pc lv (.int x :: st) h cu su K := by
  intro p e s m args below meth c H locs ls cx hR hL hl
  obtain ⟨hx, hb, hr, hml, hown, hts, hlk, hnm, hK⟩ := id cx
  exact lv_tableIn hx hb hd h1 h2 ho ht (kk p e s m args below meth c H locs ls cx hR hL hl)
theorem r_lookup {dflt : Int} {ps : Array (Int × Int)} {len : Nat} {x : Int32} {off : Int} {tgt : Nat} (hd : decode M.2.1 pc = .ok (.lookupswitch dflt ps, len)) (hp : (ps.toList.zip (ps.toList.drop 1)).all (fun (a, next) => a.1 < next.1) = true) (ho : Op.lookupswitch.offset ps.toList dflt x.toInt = off) (ht : (pc : Int) + off = (tgt : Int)) (kk : Gd Γ l M (tgt) lv (st) h cu su K) : Gd Γ l M pc lv (.int x :: st) h cu su K := by
  intro p e s m args below meth c H locs ls cx hR hL hl
  obtain ⟨hx, hb, hr, hml, hown, hts, hlk, hnm, hK⟩ := id cx
  exact lv_lookup hx hb hd hp ho ht (kk p e s m args below meth c H locs ls cx hR hL hl)
theorem r_ldc {own : String} {ix : Nat} {v : Int32} (ho : M.1.cls = own) (hc : Cond.constant own ix v ∈ GT) (hd : decode M.2.1 pc = .ok (.ldc ix, 2)) (kk : Gd Γ l M (pc + 2) lv (.int v :: st) h cu su K) : Gd Γ l M pc lv (st) h cu su K := by
  intro p e s m args below meth c H locs ls cx hR hL hl
  obtain ⟨hx, hb, hr, hml, hown, hts, hlk, hnm, hK⟩ := id cx
  exact lv_ldc hx hb (ho ▸ hown) (hts _ hc) hd (kk p e s m args below meth c H locs ls cx hR hL hl)
theorem r_ldc_w {own : String} {ix : Nat} {v : Int32} (ho : M.1.cls = own) (hc : Cond.constant own ix v ∈ GT) (hd : decode M.2.1 pc = .ok (.ldc_w ix, 3)) (kk : Gd Γ l M (pc + 3) lv (.int v :: st) h cu su K) : Gd Γ l M pc lv (st) h cu su K := by
  intro p e s m args below meth c H locs ls cx hR hL hl
  obtain ⟨hx, hb, hr, hml, hown, hts, hlk, hnm, hK⟩ := id cx
  exact lv_ldcw hx hb (ho ▸ hown) (hts _ hc) hd (kk p e s m args below meth c H locs ls cx hR hL hl)
theorem r_ldc2_w {own : String} {ix : Nat} {v : Int64} (ho : M.1.cls = own) (hc : Cond.constantLong own ix v ∈ GT) (hd : decode M.2.1 pc = .ok (.ldc2_w ix, 3)) (kk : Gd Γ l M (pc + 3) lv (.long v :: st) h cu su K) : Gd Γ l M pc lv (st) h cu su K := by
  intro p e s m args below meth c H locs ls cx hR hL hl
  obtain ⟨hx, hb, hr, hml, hown, hts, hlk, hnm, hK⟩ := id cx
  exact lv_ldc2 hx hb (ho ▸ hown) (hts _ hc) hd (kk p e s m args below meth c H locs ls cx hR hL hl)
theorem r_iret {v : Int32} (ho : M.2.2.2.1 = some .int) (hq : K (some (.int v)) h) (hcu : cu ≤ M.2.2.2.2.cells) (hsu : su ≤ M.2.2.2.2.slots) (hd : decode M.2.1 pc = .ok (.ireturn, 1)) : Gd Γ l M pc lv [.int v] h cu su K := by
  intro p e s m args below meth c H locs ls cx hR hL hl
  obtain ⟨hx, hb, hr, hml, hown, hts, hlk, hnm, hK⟩ := id cx
  refine W.widen hcu hsu ?_
  exact W.iret (v := v) hx hb (hr.trans ho) (fun t ht hW => ⟨some (.int v), h, rfl, hq, by rw [ht]; exact hR.moved hW.alike⟩) hL hd hlk
theorem r_zret {v : Int32} {ty : FieldType} (ho : M.2.2.2.1 = some ty) (hn : narrow ty (.int v) = .int v) (hq : K (some (.int v)) h) (hcu : cu ≤ M.2.2.2.2.cells) (hsu : su ≤ M.2.2.2.2.slots) (hd : decode M.2.1 pc = .ok (.ireturn, 1)) : Gd Γ l M pc lv [.int v] h cu su K := by
  intro p e s m args below meth c H locs ls cx hR hL hl
  obtain ⟨hx, hb, hr, hml, hown, hts, hlk, hnm, hK⟩ := id cx
  refine W.widen hcu hsu ?_
  exact W.zret (v := v) hx hb (hr.trans ho) hn (fun t ht hW => ⟨some (.int v), h, rfl, hq, by rw [ht]; exact hR.moved hW.alike⟩) hL hd hlk
theorem r_lret {v : Int64} (ho : M.2.2.2.1 = some .long) (hq : K (some (.long v)) h) (hcu : cu ≤ M.2.2.2.2.cells) (hsu : su ≤ M.2.2.2.2.slots) (hd : decode M.2.1 pc = .ok (.lreturn, 1)) : Gd Γ l M pc lv [.long v] h cu su K := by
  intro p e s m args below meth c H locs ls cx hR hL hl
  obtain ⟨hx, hb, hr, hml, hown, hts, hlk, hnm, hK⟩ := id cx
  refine W.widen hcu hsu ?_
  exact W.lret (v := v) hx hb (hr.trans ho) (fun t ht hW => ⟨some (.long v), h, rfl, hq, by rw [ht]; exact hR.moved hW.alike⟩) hL hd hlk
theorem r_vret (ho : M.2.2.2.1 = none) (hq : K (none) h) (hcu : cu ≤ M.2.2.2.2.cells) (hsu : su ≤ M.2.2.2.2.slots) (hd : decode M.2.1 pc = .ok (.return_, 1)) : Gd Γ l M pc lv [] h cu su K := by
  intro p e s m args below meth c H locs ls cx hR hL hl
  obtain ⟨hx, hb, hr, hml, hown, hts, hlk, hnm, hK⟩ := id cx
  refine W.widen hcu hsu ?_
  exact W.vret hx hb (hr.trans ho) (fun t ht hW => ⟨none, h, rfl, hq, by rw [ht]; exact hR.moved hW.alike⟩) hL hd hlk
end RL
