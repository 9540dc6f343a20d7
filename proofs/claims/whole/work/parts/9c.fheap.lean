/-! cells as they are made: heaps by a function -/
abbrev HF : Type := Nat → PC
def uF (F : HF) (a : Nat) (e : PC) : HF := fun b => if b = a then e else F b
def mkF (n : Nat) (F : HF) : PH := (List.range n).map F
theorem uF_s {F : HF} {a : Nat} {e : PC} : uF F a e a = e := if_pos rfl
theorem uF_n {F : HF} {a b : Nat} {e : PC} (h : b ≠ a) : uF F a e b = F b := if_neg h
theorem mkF_len {n : Nat} {F : HF} : (mkF n F).length = n := by
  unfold mkF
  rw [List.length_map, List.length_range]
theorem mkF_at {n a : Nat} {F : HF} (h : a < n) : (mkF n F)[a]? = some (F a) := by
  unfold mkF
  rw [List.getElem?_map, List.getElem?_range h]
  rfl
theorem mkF_out {n a : Nat} {F : HF} (h : n ≤ a) : (mkF n F)[a]? = none := by
  rw [List.getElem?_eq_none_iff, mkF_len]
  exact h
theorem mkF_set {n a : Nat} {F : HF} {e : PC} (h : a < n) : (mkF n F).set a e = mkF n (uF F a e) := by
  apply List.ext_getElem?
  intro k
  by_cases hk : k = a
  · subst hk
    rw [List.getElem?_set_self (by rw [mkF_len]; exact h), mkF_at h, uF_s]
  · rw [List.getElem?_set_ne (Ne.symm hk)]
    by_cases hn : k < n
    · rw [mkF_at hn, mkF_at hn, uF_n hk]
    · rw [mkF_out (by omega), mkF_out (by omega)]
theorem mkF_push {n : Nat} {F : HF} {e : PC} : mkF n F ++ [e] = mkF (n + 1) (uF F n e) := by
  apply List.ext_getElem?
  intro k
  by_cases hk : k < n
  · rw [List.getElem?_append_left (by rw [mkF_len]; exact hk), mkF_at hk, mkF_at (by omega), uF_n (by omega)]
  · rw [List.getElem?_append_right (by rw [mkF_len]; omega), mkF_len]
    by_cases h2 : k = n
    · subst h2
      rw [Nat.sub_self, mkF_at (by omega), uF_s]
      rfl
    · rw [mkF_out (by omega), List.getElem?_eq_none_iff]
      show 1 ≤ k - n
      omega
def aIz (N : Nat) : PC := .inl (.int, N, .inl (fun _ => 0))
def aJz (N : Nat) : PC := .inl (.long, N, .inr (.inl (fun _ => 0)))
def aZz (N : Nat) : PC := .inl (.boolean, N, .inl (fun _ => 0))
def aBz (N : Nat) : PC := .inl (.byte, N, .inl (fun _ => 0))
def aRf (N : Nat) (f : Nat → Option Nat) : PC := .inl (.object "MownLawn$Lawn", N, .inr (.inr (.inr (.inr f))))
section FR
variable {Γ : GE} {l : Launch} {M N : MM} {pc ix : Nat} {lv : List (Nat × Value)} {st : List Value} {F : HF} {m : Nat} {cu su : Nat} {K : Option Value → PH → Prop}
theorem f_newI {n : Int32} {N : Nat} (hd : decode M.2.1 pc = .ok (.newarray .int, 2)) (hn : ¬ n < 0) (hN : n.toNatClampNeg = N) (hb2 : N * 4 ≤ 536870912) (hc1 : cu + 1 ≤ M.2.2.2.2.cells) (hs1 : su + N ≤ M.2.2.2.2.slots) (kk : ∀ G, G = uF F m (aIz N) → Gd Γ l M (pc + 2) lv (.ref m :: st) (mkF (m + 1) G) (cu + 1) (su + N) K) : Gd Γ l M pc lv (.int n :: st) (mkF m F) cu su K := by
  refine r_newint (ty := .int) (x := (N, .inl (fun _ => 0))) q73 rfl (fun _ => rfl) (fun _ _ h => h) hd hn hN hb2 hc1 hs1 ?_
  rw [mkF_len, mkF_push]
  exact kk _ rfl
theorem f_newJ {n : Int32} {N : Nat} (hd : decode M.2.1 pc = .ok (.newarray .long, 2)) (hn : ¬ n < 0) (hN : n.toNatClampNeg = N) (hb2 : N * 8 ≤ 536870912) (hc1 : cu + 1 ≤ M.2.2.2.2.cells) (hs1 : su + N ≤ M.2.2.2.2.slots) (kk : ∀ G, G = uF F m (aJz N) → Gd Γ l M (pc + 2) lv (.ref m :: st) (mkF (m + 1) G) (cu + 1) (su + N) K) : Gd Γ l M pc lv (.int n :: st) (mkF m F) cu su K := by
  refine r_newint (ty := .long) (x := (N, .inr (.inl (fun _ => 0)))) q74 rfl (fun _ => rfl) (fun _ _ h => h) hd hn hN hb2 hc1 hs1 ?_
  rw [mkF_len, mkF_push]
  exact kk _ rfl
theorem f_newZ {n : Int32} {N : Nat} (hd : decode M.2.1 pc = .ok (.newarray .boolean, 2)) (hn : ¬ n < 0) (hN : n.toNatClampNeg = N) (hb2 : N * 1 ≤ 536870912) (hc1 : cu + 1 ≤ M.2.2.2.2.cells) (hs1 : su + N ≤ M.2.2.2.2.slots) (kk : ∀ G, G = uF F m (aZz N) → Gd Γ l M (pc + 2) lv (.ref m :: st) (mkF (m + 1) G) (cu + 1) (su + N) K) : Gd Γ l M pc lv (.int n :: st) (mkF m F) cu su K := by
  refine r_newint (ty := .boolean) (x := (N, .inl (fun _ => 0))) q373 rfl (fun _ => rfl) (fun _ _ h => h) hd hn hN hb2 hc1 hs1 ?_
  rw [mkF_len, mkF_push]
  exact kk _ rfl
theorem f_newB {n : Int32} {N : Nat} (hd : decode M.2.1 pc = .ok (.newarray .byte, 2)) (hn : ¬ n < 0) (hN : n.toNatClampNeg = N) (hb2 : N * 1 ≤ 536870912) (hc1 : cu + 1 ≤ M.2.2.2.2.cells) (hs1 : su + N ≤ M.2.2.2.2.slots) (kk : ∀ G, G = uF F m (aBz N) → Gd Γ l M (pc + 2) lv (.ref m :: st) (mkF (m + 1) G) (cu + 1) (su + N) K) : Gd Γ l M pc lv (.int n :: st) (mkF m F) cu su K := by
  refine r_newint (ty := .byte) (x := (N, .inl (fun _ => 0))) q823 rfl (fun _ => rfl) (fun _ _ h => h) hd hn hN hb2 hc1 hs1 ?_
  rw [mkF_len, mkF_push]
  exact kk _ rfl
theorem r_anew {h : PH} {n : Int32} {N : Nat} (hcl : Cond.classLink M.1.cls ix "MownLawn$Lawn" ∈ GT) (hd : decode M.2.1 pc = .ok (.anewarray ix, 3)) (hn : ¬ n < 0) (hN : n.toNatClampNeg = N) (hb2 : N * 4 ≤ 536870912) (hc1 : cu + 1 ≤ M.2.2.2.2.cells) (hs1 : su + N ≤ M.2.2.2.2.slots) (kk : Gd Γ l M (pc + 3) lv (.ref h.length :: st) (h ++ [aRf N (fun _ => none)]) (cu + 1) (su + N) K) : Gd Γ l M pc lv (.int n :: st) h cu su K := by
  intro p e s m args below meth c H locs ls cx hR hL hl
  obtain ⟨hx, hb, hr, hml, hown, hts, hlk, hnm, hK⟩ := id cx
  subst hN
  refine W.anew hx hb hown (hts _ hcl) (va_AO.use hK.2.2.2.2.1) rfl hd rfl hn hb2 hc1 hs1 fun cA kA comp h1 h2 h3 h4 => ?_
  have hz := hR.1
  have e1 : Value.ref H.size = tv Γ (.ref h.length) := by
    show Value.ref H.size = Value.ref (Γ.2.1 + h.length)
    rw [hz]
  rw [e1]
  refine kk p e s m args below meth c _ locs ls cx (hR.push (e := aRf _ (fun _ => none)) ⟨cA, fun n z => ⟨(fun q => by intro w; cases w), kA, h2, comp, h3⟩, ⟨kA, comp, h2, h3, h4, h1⟩, ?_⟩ (by rw [Array.size_push]) (fun q hq => by rw [Array.getElem?_push, if_neg (by omega)])) hL hl
  rw [← hz, Array.getElem?_push, if_pos rfl, arrV_new]
  rfl
theorem f_anew {n : Int32} {N : Nat} (hcl : Cond.classLink M.1.cls ix "MownLawn$Lawn" ∈ GT) (hd : decode M.2.1 pc = .ok (.anewarray ix, 3)) (hn : ¬ n < 0) (hN : n.toNatClampNeg = N) (hb2 : N * 4 ≤ 536870912) (hc1 : cu + 1 ≤ M.2.2.2.2.cells) (hs1 : su + N ≤ M.2.2.2.2.slots) (kk : ∀ G, G = uF F m (aRf N (fun _ => none)) → Gd Γ l M (pc + 3) lv (.ref m :: st) (mkF (m + 1) G) (cu + 1) (su + N) K) : Gd Γ l M pc lv (.int n :: st) (mkF m F) cu su K := by
  refine r_anew hcl hd hn hN hb2 hc1 hs1 ?_
  rw [mkF_len, mkF_push]
  exact kk _ rfl
theorem r_aast {h : PH} {a v n : Nat} {vs : List Value} {f : Nat → Option Nat} {i : Int32} (hd : decode M.2.1 pc = .ok (.aastore, 1)) (ha : h[a]? = some (aRf n f)) (hv : h[v]? = some (.inr (4, vs))) (hi : vp_in i n) (kk : Gd Γ l M (pc + 1) lv st (h.set a (aRf n (va_up f i.toNatClampNeg (some v)))) cu su K) : Gd Γ l M pc lv (.ref v :: .int i :: .ref a :: st) h cu su K := by
  intro p e s m args below meth c H locs ls cx hR hL hl
  obtain ⟨hx, hb, hr, hml, hown, hts, hlk, hnm, hK⟩ := id cx
  have hlt := pN hi
  have h0 : ¬ i < 0 := fun q => hi (Or.inl q)
  obtain ⟨cA, g1, g2, g3⟩ := hR.2.1 a _ ha
  have g3 : H[Γ.2.1 + a]? = some (arrV cA n (fun j => va_rf ((f j).map (fun k => Γ.2.1 + k)))) := g3
  obtain ⟨r, w1, cell, w2, w3, w4, -⟩ := hR.2.1 v _ hv
  have hcls := ((kt_K hK).1 4 r w1).2
  have hr4 : r = (RX4, TX4, 6) := Option.some.inj (w1.symm.trans rfl)
  subst hr4
  obtain ⟨kA, comp, k1, k2, k3, k4⟩ := g2
  have hcomp : comp = Γ.1.1 4 := Option.some.inj (k3.symm.trans hcls.1)
  subst hcomp
  obtain ⟨kC, hkC, -⟩ := hcls.2
  refine W.aast hx hb g3 (fun q h => by cases h) (fun h => by cases h) k1 k2 rfl hkC ⟨h0, by rw [arrV_size]; exact hlt⟩ w2 (fun q h => by rw [w4] at h; cases h) (by rw [w3]; exact hkC) (by rw [w3]; exact va_assign hcls) rfl rfl hd fun H1 e1 z oq => ?_
  refine kk p e s m args below meth c H1 _ ls cx (hR.set (e := aRf n (va_up f i.toNatClampNeg (some v))) ha ⟨cA, g1, ⟨kA, Γ.1.1 4, k1, k2, k3, k4⟩, ?_⟩ z oq) (hL_one hL) hl
  rw [e1, arrV_store]
  show some _ = some (arrV cA n (fun j => va_rf ((va_up f i.toNatClampNeg (some v) j).map (fun k => Γ.2.1 + k))))
  congr 2
  funext q
  by_cases hq : q = i.toNatClampNeg
  · subst hq
    simp [updV, va_up, va_rf]
  · simp [updV, va_up, hq]
theorem f_aast {a v n : Nat} {vs : List Value} {f : Nat → Option Nat} {i : Int32} (hd : decode M.2.1 pc = .ok (.aastore, 1)) (ham : a < m) (hvm : v < m) (ha : F a = aRf n f) (hv : F v = .inr (4, vs)) (hi : vp_in i n) (kk : ∀ G, G = uF F a (aRf n (va_up f i.toNatClampNeg (some v))) → Gd Γ l M (pc + 1) lv st (mkF m G) cu su K) : Gd Γ l M pc lv (.ref v :: .int i :: .ref a :: st) (mkF m F) cu su K := by
  refine r_aast hd (by rw [mkF_at ham, ha]) (by rw [mkF_at hvm, hv]) hi ?_
  rw [mkF_set ham]
  exact kk _ rfl
theorem f_get {ci k a : Nat} {fs : List Value} {v : Value} (f : fOK M.1.cls ix ci k) (hd : decode M.2.1 pc = .ok (.getfield ix, 3)) (ham : a < m) (ha : F a = .inr (ci, fs)) (hv : fs[k]? = some v) (kk : Gd Γ l M (pc + 3) lv (v :: st) (mkF m F) cu su K) : Gd Γ l M pc lv (.ref a :: st) (mkF m F) cu su K :=
  r_getfield f hd (by rw [mkF_at ham, ha]) hv kk
theorem f_put {ci k a : Nat} {fs fs' : List Value} {v : Value} {ty : FieldType} (f : fPut M.1.cls ix ci k ty false) (hd : decode M.2.1 pc = .ok (.putfield ix, 3)) (ham : a < m) (ha : F a = .inr (ci, fs)) (hv : narrow ty (tv Γ v) = tv Γ v) (hw : fits ty (tv Γ v) = true) (hkl : k < fs.length) (hfs : fs.set k v = fs') (kk : ∀ G, G = uF F a (.inr (ci, fs')) → Gd Γ l M (pc + 3) lv st (mkF m G) cu su K) : Gd Γ l M pc lv (v :: .ref a :: st) (mkF m F) cu su K := by
  refine r_putfield f hd (by rw [mkF_at ham, ha]) hv hw hkl ?_
  rw [hfs, mkF_set ham]
  exact kk _ rfl
theorem f_putF {ci k a : Nat} {fs fs' : List Value} {v : Value} {ty : FieldType} (f : fPut M.1.cls ix ci k ty true) (hinit : M.1.name = "<init>") (hd : decode M.2.1 pc = .ok (.putfield ix, 3)) (ham : a < m) (ha : F a = .inr (ci, fs)) (hv : narrow ty (tv Γ v) = tv Γ v) (hw : fits ty (tv Γ v) = true) (hkl : k < fs.length) (hfs : fs.set k v = fs') (kk : ∀ G, G = uF F a (.inr (ci, fs')) → Gd Γ l M (pc + 3) lv st (mkF m G) cu su K) : Gd Γ l M pc lv (v :: .ref a :: st) (mkF m F) cu su K := by
  refine r_putfieldF f hinit hd (by rw [mkF_at ham, ha]) hv hw hkl ?_
  rw [hfs, mkF_set ham]
  exact kk _ rfl
theorem f_new {ci : Nat} {C : String} {T : u_T} {N : Nat} {ty : Nat → FieldType} {fs : List Value} (hcl : Cond.classLink M.1.cls ix C ∈ GT) (hins : Cond.instantiable C N ∈ GT) (hini : Cond.initialized C ∈ GT) (hc : vwCl[ci]? = some (C, T, N)) (hin : ∀ w ∈ u_ws C T N, w ∈ GT) (hty : ∀ k, k < N → parseFieldDescriptor (T k).2.2.1 = some (ty k)) (he : fs.map (tv Γ) = fs) (hfs : ∀ j, j < N → defaultValue (ty j) = vp_V fs j) (hd : decode M.2.1 pc = .ok (.new ix, 3)) (hc1 : cu + 1 ≤ M.2.2.2.2.cells) (hs1 : su + N ≤ M.2.2.2.2.slots) (kk : ∀ G, G = uF F m (.inr (ci, fs)) → Gd Γ l M (pc + 3) lv (.ref m :: st) (mkF (m + 1) G) (cu + 1) (su + N) K) : Gd Γ l M pc lv st (mkF m F) cu su K := by
  refine r_new hcl hins hini hc hin hty (by rw [he]; exact hfs) hd hc1 hs1 ?_
  rw [mkF_len, mkF_push]
  exact kk _ rfl
theorem f_iast {a n : Nat} {f : Nat → Int32} {i x : Int32} (hd : decode M.2.1 pc = .ok (.iastore, 1)) (ham : a < m) (ha : F a = .inl (.int, n, .inl f)) (hi : vp_in i n) (kk : ∀ G, G = uF F a (.inl (.int, n, .inl (upd f i.toNatClampNeg x))) → Gd Γ l M (pc + 1) lv st (mkF m G) cu su K) : Gd Γ l M pc lv (.int x :: .int i :: .ref a :: st) (mkF m F) cu su K := by
  refine r_iastore hd (by rw [mkF_at ham, ha]) hi ?_
  rw [mkF_set ham]
  exact kk _ rfl
end FR
