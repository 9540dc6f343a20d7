/-! what holds while a text is read; names -/
def sN : Nms → List (List Nat)
  | [] => []
  | q :: N => if q.2 = 0 then q.1 :: sN N else sN N
def wN : Nms → List (List Nat)
  | [] => []
  | q :: N => if q.2 = 0 then wN N else q.1 :: wN N
def tgO : Nms → Nat → Prop
  | [], _ => True
  | q :: N, i => if q.2 = 0 then tgO N i else q.2 = i + 1 ∧ tgO N (i + 1)
theorem sN_app : ∀ N q, sN (N ++ [q]) = sN N ++ (if q.2 = 0 then [q.1] else [])
  | [], q => by
    rw [List.nil_append, sN, sN, sN, List.nil_append]
  | r :: N, q => by
    rw [List.cons_append, sN, sN, sN_app N q]
    split <;> rfl
theorem wN_app : ∀ N q, wN (N ++ [q]) = wN N ++ (if q.2 = 0 then [] else [q.1])
  | [], q => by
    rw [List.nil_append, wN, wN, wN, List.nil_append]
  | r :: N, q => by
    rw [List.cons_append, wN, wN, wN_app N q]
    split <;> rfl
theorem tgO_app : ∀ N q i, tgO N i → (q.2 = 0 ∨ q.2 = i + (wN N).length + 1) → tgO (N ++ [q]) i
  | [], q, i, _, h => by
    rw [List.nil_append, tgO]
    by_cases e : q.2 = 0
    · rw [if_pos e]
      trivial
    · rw [if_neg e]
      refine ⟨?_, trivial⟩
      rcases h with h | h
      · exact absurd h e
      · rw [h]
        rfl
  | r :: N, q, i, h, g => by
    rw [List.cons_append, tgO]
    rw [tgO] at h
    rw [wN] at g
    by_cases e : r.2 = 0
    · rw [if_pos e] at h g ⊢
      exact tgO_app N q i h g
    · rw [if_neg e] at h g ⊢
      refine ⟨h.1, tgO_app N q (i + 1) h.2 ?_⟩
      rcases g with g | g
      · exact Or.inl g
      · right
        rw [g, List.length_cons]
        omega
theorem isNm_e (w : List Nat) : ∀ N, isNm N w = ((sN N).any (fun x => decide (x = w)) || (wN N).any (fun x => decide (x = w)))
  | [] => rfl
  | q :: N => by
    have ih := isNm_e w N
    unfold isNm at ih ⊢
    rw [List.any_cons, ih, sN, wN]
    by_cases e : q.2 = 0
    · rw [if_pos e, if_pos e, List.any_cons, Bool.or_assoc]
    · rw [if_neg e, if_neg e, List.any_cons]
      cases decide (q.1 = w) <;> cases (sN N).any (fun x => decide (x = w)) <;> rfl
def fdx : List (List Nat) → Nat → List Nat → Option Nat
  | [], _, _ => none
  | x :: xs, i, w => if x = w then some i else fdx xs (i + 1) w
theorem winN_e (w : List Nat) : ∀ N i, tgO N i → winN N w = fdx (wN N) i w
  | [], _, _ => rfl
  | q :: N, i, h => by
    rw [winN, wN]
    rw [tgO] at h
    by_cases e : q.2 = 0
    · rw [if_pos e] at h ⊢
      rw [if_neg (fun z => z.2 e)]
      exact winN_e w N i h
    · rw [if_neg e] at h ⊢
      rw [fdx]
      by_cases g : q.1 = w
      · rw [if_pos ⟨g, e⟩, if_pos g, h.1]
        rfl
      · rw [if_neg (fun z => g z.1), if_neg g]
        exact winN_e w N (i + 1) h.2
theorem fdx_lt {w : List Nat} : ∀ xs i j, fdx xs i w = some j → i ≤ j ∧ j < i + xs.length
  | [], _, _, h => by
    rw [fdx] at h
    exact absurd h (by simp)
  | x :: xs, i, j, h => by
    rw [fdx] at h
    rw [List.length_cons]
    by_cases g : x = w
    · rw [if_pos g] at h
      injection h with h
      omega
    · rw [if_neg g] at h
      have := fdx_lt xs (i + 1) j h
      omega
theorem fdx_none {w : List Nat} : ∀ xs i, (fdx xs i w).isSome = xs.any (fun x => decide (x = w))
  | [], _ => rfl
  | x :: xs, i => by
    rw [fdx, List.any_cons]
    by_cases g : x = w
    · rw [if_pos g, decide_eq_true g, Bool.true_or]
      rfl
    · rw [if_neg g, decide_eq_false g, Bool.false_or]
      exact fdx_none xs (i + 1)
/-- what holds of a plan while it is told -/
def PI (late : LF) (P : PV) (N : Nms) : Prop := pw P ≤ 8 ∧ pr P ≤ 6 ∧ pns P ≤ 4 ∧ pnw P ≤ 4 ∧ pnt P ≤ 6 ∧ (sN N).length = pns P ∧ (wN N).length = pnw P ∧ tgO N 0 ∧ (∀ q, q ∈ N → lOk q.1 ∧ q.1.length ≤ 8) ∧ (∀ w, w < 4 → ptk P w < 16) ∧ (late = none → PVok P ∧ ∀ x y, (pw P ≤ x ∨ pr P ≤ y) → psun P x y = -2)
theorem plnP_ok : PI none plnP [] := by
  refine ⟨by decide, by decide, by decide, by decide, by decide, rfl, rfl, trivial, fun q hq => absurd hq (by simp), fun w hw => by show (0 : Nat) < 16; decide, fun _ => ⟨⟨by decide, by decide, by decide, by decide, by decide, by decide, by decide, by decide, by decide, fun w hw => absurd hw (by show ¬ w < 0; omega), fun w hw => by show (0 : Nat) < 16; decide, fun s hs => absurd hs (by show ¬ s < 0; omega)⟩, fun x y _ => rfl⟩⟩
theorem blm_none {late : LF} {c : Bool} {n q : Nat} (h : blm late c n q = none) : late = none ∧ c = false := by
  unfold blm at h
  by_cases e : late = none ∧ c = true
  · rw [if_pos e] at h
    exact absurd h (by simp)
  · rw [if_neg e] at h
    refine ⟨h, ?_⟩
    cases hc : c with
    | false => rfl
    | true => exact absurd ⟨h, hc⟩ e
section PI1
variable {late : LF} {P : PV} {N : Nms}
theorem PI_row {w : List Nat} {q : Nat} (h : PI late P N) (hr : pr P < 6) (hw : 1 ≤ w.length ∧ w.length ≤ 8) : PI (blm late (decide (pr P ≠ 0 ∧ w.length ≠ pw P)) 6 q) (rowP P w) N := by
  obtain ⟨a1, a2, a3, a4, a5, a6, a7, a8, a9, a10, a11⟩ := h
  have e0 : pw (rowP P w) = if pr P = 0 then w.length else pw P := rfl
  have e1 : pr (rowP P w) = pr P + 1 := rfl
  refine ⟨?_, by rw [e1]; omega, a3, a4, a5, a6, a7, a8, a9, a10, fun z => ?_⟩
  · rw [e0]
    split <;> omega
  · obtain ⟨z1, z2⟩ := blm_none z
    simp only [decide_eq_false_iff_not] at z2
    obtain ⟨b1, b2⟩ := a11 z1
    obtain ⟨c1, c2, c3, c4, c5, c6, c7, c8, c9, c10, c11, c12⟩ := b1
    have ew : pw (rowP P w) = w.length := by
      rw [e0]
      split <;> omega
    refine ⟨⟨by omega, by omega, c3, c4, c5, c6, c7, c8, c9, c10, c11, c12⟩, fun x y hxy => ?_⟩
    show (if y = pr P ∧ x < w.length then sunV (w.getD x 0) else psun P x y) = -2
    rw [ew, e1] at hxy
    rw [if_neg (by omega)]
    refine b2 x y ?_
    rw [e0] at ew
    by_cases e : pr P = 0
    · omega
    · rw [if_neg e] at ew
      omega
theorem shp3_lt (w : List Nat) : shp3 w < 8 := by
  unfold shp3
  split <;> split <;> split <;> decide
theorem PI_sign {w : List Nat} {late' : LF} {s : Nat} (h : PI late P N) (hl : late' = none → late = none) (hs : pns P < 4) (hw : lOk w ∧ w.length ≤ 8) (h512 : s < 512) : PI late' (setP (setP P 13 (pns P) s) 2 0 (pns P + 1)) (N ++ [(w, 0)]) := by
  obtain ⟨a1, a2, a3, a4, a5, a6, a7, a8, a9, a10, a11⟩ := h
  refine ⟨a1, a2, by show pns P + 1 ≤ 4; omega, a4, a5, ?_, ?_, tgO_app N _ 0 a8 (Or.inl rfl), fun q hq => ?_, a10, fun z => ?_⟩
  · rw [sN_app, if_pos rfl, List.length_append, a6]
    rfl
  · rw [wN_app, if_pos rfl, List.append_nil]
    exact a7
  · rw [List.mem_append, List.mem_singleton] at hq
    rcases hq with hq | hq
    · exact a9 q hq
    · subst hq
      exact hw
  · obtain ⟨b1, b2⟩ := a11 (hl z)
    obtain ⟨c1, c2, c3, c4, c5, c6, c7, c8, c9, c10, c11, c12⟩ := b1
    refine ⟨⟨c1, c2, by show pns P + 1 ≤ 4; omega, c4, c5, c6, c7, c8, c9, c10, c11, fun t ht => ?_⟩, b2⟩
    have ht' : t < pns P + 1 := ht
    show (if (13 : Nat) = 2 ∧ t = 0 then pns P + 1 else if (13 : Nat) = 13 ∧ t = pns P then s else psg P t) < 512
    rw [if_neg (fun y => absurd y.1 (by decide))]
    by_cases e : t = pns P
    · rw [if_pos ⟨rfl, e⟩]
      exact h512
    · rw [if_neg (fun y => e y.2)]
      exact c12 t (by omega)
theorem PI_win {w : List Nat} {late' : LF} {x y z : Nat} (h : PI late P N) (hl : late' = none → late = none ∧ x ≤ 7 ∧ y ≤ 7 ∧ z ≤ 99) (hs : pnw P < 4) (hw : lOk w ∧ w.length ≤ 8) : PI late' (winP P x y z) (N ++ [(w, pnw P + 1)]) := by
  obtain ⟨a1, a2, a3, a4, a5, a6, a7, a8, a9, a10, a11⟩ := h
  refine ⟨a1, a2, a3, by show pnw P + 1 ≤ 4; omega, a5, ?_, ?_, tgO_app N _ 0 a8 (Or.inr (by rw [a7]; show pnw P + 1 = _; omega)), fun q hq => ?_, a10, fun t => ?_⟩
  · rw [sN_app, if_neg (by show ¬ pnw P + 1 = 0; omega), List.append_nil]
    exact a6
  · rw [wN_app, if_neg (by show ¬ pnw P + 1 = 0; omega), List.length_append, a7]
    rfl
  · rw [List.mem_append, List.mem_singleton] at hq
    rcases hq with hq | hq
    · exact a9 q hq
    · subst hq
      exact hw
  · obtain ⟨z0, z1, z2, z3⟩ := hl t
    obtain ⟨b1, b2⟩ := a11 z0
    obtain ⟨c1, c2, c3, c4, c5, c6, c7, c8, c9, c10, c11, c12⟩ := b1
    refine ⟨⟨c1, c2, c3, by show pnw P + 1 ≤ 4; omega, c5, c6, c7, c8, c9, fun v hv => ?_, c11, c12⟩, b2⟩
    have hv' : v < pnw P + 1 := hv
    have e9 : pfr (winP P x y z) v = if v = pnw P then x else pfr P v := by
      show (if (9 : Nat) = 3 ∧ v = 0 then pnw P + 1 else if (9 : Nat) = 11 ∧ v = pnw P then z else if (9 : Nat) = 10 ∧ v = pnw P then y else if (9 : Nat) = 9 ∧ v = pnw P then x else pfr P v) = _
      rw [if_neg (fun y => absurd y.1 (by decide)), if_neg (fun y => absurd y.1 (by decide)), if_neg (fun y => absurd y.1 (by decide))]
      by_cases e : v = pnw P
      · rw [if_pos ⟨rfl, e⟩, if_pos e]
      · rw [if_neg (fun y => e y.2), if_neg e]
    have e10 : pto (winP P x y z) v = if v = pnw P then y else pto P v := by
      show (if (10 : Nat) = 3 ∧ v = 0 then pnw P + 1 else if (10 : Nat) = 11 ∧ v = pnw P then z else if (10 : Nat) = 10 ∧ v = pnw P then y else if (10 : Nat) = 9 ∧ v = pnw P then x else pto P v) = _
      rw [if_neg (fun y => absurd y.1 (by decide)), if_neg (fun y => absurd y.1 (by decide))]
      by_cases e : v = pnw P
      · rw [if_pos ⟨rfl, e⟩, if_pos e]
      · rw [if_neg (fun y => e y.2), if_neg e, if_neg (fun y => absurd y.1 (by decide))]
    have e11 : psh (winP P x y z) v = if v = pnw P then z else psh P v := by
      show (if (11 : Nat) = 3 ∧ v = 0 then pnw P + 1 else if (11 : Nat) = 11 ∧ v = pnw P then z else if (11 : Nat) = 10 ∧ v = pnw P then y else if (11 : Nat) = 9 ∧ v = pnw P then x else psh P v) = _
      rw [if_neg (fun y => absurd y.1 (by decide))]
      by_cases e : v = pnw P
      · rw [if_pos ⟨rfl, e⟩, if_pos e]
      · rw [if_neg (fun y => e y.2), if_neg e, if_neg (fun y => absurd y.1 (by decide)), if_neg (fun y => absurd y.1 (by decide))]
    rw [e9, e10, e11]
    by_cases e : v = pnw P
    · rw [if_pos e, if_pos e, if_pos e]
      exact ⟨z1, z2, z3⟩
    · rw [if_neg e, if_neg e, if_neg e]
      exact c10 v (by omega)
theorem winN_lt {w : List Nat} {i : Nat} (h : PI late P N) (hi : winN N w = some i) : i < pnw P ∧ i < 4 := by
  obtain ⟨a1, a2, a3, a4, a5, a6, a7, a8, a9, a10, a11⟩ := h
  rw [winN_e w N 0 a8] at hi
  have := fdx_lt _ 0 i hi
  omega
theorem pow4 : ∀ j, j < 4 → 2 ^ j < 16 := by decide
theorem PI_talk {late' : LF} {u v : Option Nat} (h : PI late P N) (hl : late' = none → late = none) (ht : pnt P < 6) (hu : ∀ i, u = some i → i < 4) (hv : ∀ i, v = some i → i < 4) : PI late' (talkP P u v) N := by
  obtain ⟨a1, a2, a3, a4, a5, a6, a7, a8, a9, a10, a11⟩ := h
  have main : ∀ P' : PV, P'.2 = P.2 → (∀ a b, a ≠ 4 → a ≠ 12 → P'.1 a b = P.1 a b) → pnt P' = pnt P + 1 → (∀ w, w < 4 → ptk P' w < 16) → PI late' P' N := by
    intro P' e2 e1 e4 e12
    have es : ∀ x y, psun P' x y = psun P x y := fun x y => by unfold psun; rw [e2]
    refine ⟨?_, ?_, ?_, ?_, by rw [e4]; omega, ?_, ?_, a8, a9, e12, fun z => ?_⟩
    · rw [show pw P' = pw P from e1 0 0 (by decide) (by decide)]; exact a1
    · rw [show pr P' = pr P from e1 1 0 (by decide) (by decide)]; exact a2
    · rw [show pns P' = pns P from e1 2 0 (by decide) (by decide)]; exact a3
    · rw [show pnw P' = pnw P from e1 3 0 (by decide) (by decide)]; exact a4
    · rw [show pns P' = pns P from e1 2 0 (by decide) (by decide)]; exact a6
    · rw [show pnw P' = pnw P from e1 3 0 (by decide) (by decide)]; exact a7
    · obtain ⟨b1, b2⟩ := a11 (hl z)
      obtain ⟨c1, c2, c3, c4, c5, c6, c7, c8, c9, c10, c11, c12⟩ := b1
      unfold PVok
      rw [e4, show pw P' = pw P from e1 0 0 (by decide) (by decide), show pr P' = pr P from e1 1 0 (by decide) (by decide), show pns P' = pns P from e1 2 0 (by decide) (by decide), show pnw P' = pnw P from e1 3 0 (by decide) (by decide), show phe P' = phe P from e1 5 0 (by decide) (by decide), show pro P' = pro P from e1 6 0 (by decide) (by decide), show prm P' = prm P from e1 7 0 (by decide) (by decide), show psd P' = psd P from e1 8 0 (by decide) (by decide)]
      refine ⟨⟨c1, c2, c3, c4, by omega, c6, c7, c8, c9, fun w hw => ?_, e12, fun s hs => ?_⟩, fun x y hxy => by rw [es]; exact b2 x y hxy⟩
      · rw [show pfr P' w = pfr P w from e1 9 w (by decide) (by decide), show pto P' w = pto P w from e1 10 w (by decide) (by decide), show psh P' w = psh P w from e1 11 w (by decide) (by decide)]
        exact c10 w hw
      · rw [show psg P' s = psg P s from e1 13 s (by decide) (by decide)]
        exact c12 s hs
  have one : PI late' (setP P 4 0 (pnt P + 1)) N := main _ rfl (fun a b h4 h12 => by show (if a = 4 ∧ b = 0 then pnt P + 1 else P.1 a b) = _; rw [if_neg (fun z => h4 z.1)]) rfl a10
  unfold talkP
  cases u with
  | none => exact one
  | some i =>
    cases v with
    | none => exact one
    | some j =>
      have hi := hu i rfl
      have hj := hv j rfl
      have p1 := pow4 i hi
      have p2 := pow4 j hj
      refine main _ rfl (fun a b h4 h12 => ?_) ?_ (fun w hw => ?_)
      · show (if a = 12 ∧ b = j then ((if j = i then ptk P i ||| 2 ^ j else ptk P j) ||| 2 ^ i) else if a = 12 ∧ b = i then ptk P i ||| 2 ^ j else if a = 4 ∧ b = 0 then pnt P + 1 else P.1 a b) = _
        rw [if_neg (fun z => h12 z.1), if_neg (fun z => h12 z.1), if_neg (fun z => h4 z.1)]
      · rfl
      · show (if (12 : Nat) = 12 ∧ w = j then ((if j = i then ptk P i ||| 2 ^ j else ptk P j) ||| 2 ^ i) else if (12 : Nat) = 12 ∧ w = i then ptk P i ||| 2 ^ j else if (12 : Nat) = 4 ∧ w = 0 then pnt P + 1 else ptk P w) < 16
        by_cases e : w = j
        · rw [if_pos ⟨rfl, e⟩]
          split
          · exact or16 _ (or16 _ (a10 i hi) _ p2) _ p1
          · exact or16 _ (a10 j hj) _ p1
        · rw [if_neg (fun z => e z.2)]
          by_cases e2 : w = i
          · rw [if_pos ⟨rfl, e2⟩]
            exact or16 _ (a10 i hi) _ p2
          · rw [if_neg (fun z => e2 z.2), if_neg (fun z => absurd z.1 (by decide))]
            exact a10 w hw
theorem PI_num {late' : LF} {i v : Nat} (hi : i = 5 ∨ i = 6 ∨ i = 7 ∨ i = 8) (h : PI late P N) (hl : late' = none → late = none ∧ v ≤ (if i = 5 then 99 else if i = 6 then 100 else if i = 7 then 9 else 9999)) : PI late' (setP P i 0 v) N := by
  obtain ⟨a1, a2, a3, a4, a5, a6, a7, a8, a9, a10, a11⟩ := h
  have e : ∀ a b, a ≠ i → (setP P i 0 v).1 a b = P.1 a b := fun a b ha => by
    show (if a = i ∧ b = 0 then v else P.1 a b) = _
    rw [if_neg (fun z => ha z.1)]
  have ei : (setP P i 0 v).1 i 0 = v := by
    show (if i = i ∧ 0 = 0 then v else P.1 i 0) = v
    rw [if_pos ⟨rfl, rfl⟩]
  have e0 : pw (setP P i 0 v) = pw P := e 0 0 (by omega)
  have e1 : pr (setP P i 0 v) = pr P := e 1 0 (by omega)
  have e2 : pns (setP P i 0 v) = pns P := e 2 0 (by omega)
  have e3 : pnw (setP P i 0 v) = pnw P := e 3 0 (by omega)
  have e4 : pnt (setP P i 0 v) = pnt P := e 4 0 (by omega)
  refine ⟨by rw [e0]; exact a1, by rw [e1]; exact a2, by rw [e2]; exact a3, by rw [e3]; exact a4, by rw [e4]; exact a5, by rw [e2]; exact a6, by rw [e3]; exact a7, a8, a9, fun w hw => by rw [show ptk (setP P i 0 v) w = ptk P w from e 12 w (by omega)]; exact a10 w hw, fun z => ?_⟩
  obtain ⟨z0, z1⟩ := hl z
  obtain ⟨b1, b2⟩ := a11 z0
  obtain ⟨c1, c2, c3, c4, c5, c6, c7, c8, c9, c10, c11, c12⟩ := b1
  unfold PVok
  rw [e0, e1, e2, e3, e4]
  refine ⟨⟨c1, c2, c3, c4, c5, ?_, ?_, ?_, ?_, fun w hw => ?_, fun w hw => ?_, fun s hs => ?_⟩, b2⟩
  · by_cases g : i = 5
    · subst g
      rw [if_pos rfl] at z1
      have : phe (setP P 5 0 v) = v := ei
      omega
    · have : phe (setP P i 0 v) = phe P := e 5 0 (by omega)
      omega
  · by_cases g : i = 6
    · subst g
      rw [if_neg (by decide), if_pos rfl] at z1
      have : pro (setP P 6 0 v) = v := ei
      omega
    · have : pro (setP P i 0 v) = pro P := e 6 0 (by omega)
      omega
  · by_cases g : i = 7
    · subst g
      rw [if_neg (by decide), if_neg (by decide), if_pos rfl] at z1
      have : prm (setP P 7 0 v) = v := ei
      omega
    · have : prm (setP P i 0 v) = prm P := e 7 0 (by omega)
      omega
  · by_cases g : i = 8
    · subst g
      rw [if_neg (by decide), if_neg (by decide), if_neg (by decide)] at z1
      have : psd (setP P 8 0 v) = v := ei
      omega
    · have : psd (setP P i 0 v) = psd P := e 8 0 (by omega)
      omega
  · rw [show pfr (setP P i 0 v) w = pfr P w from e 9 w (by omega), show pto (setP P i 0 v) w = pto P w from e 10 w (by omega), show psh (setP P i 0 v) w = psh P w from e 11 w (by omega)]
    exact c10 w hw
  · rw [show ptk (setP P i 0 v) w = ptk P w from e 12 w (by omega)]
    exact c11 w hw
  · rw [show psg (setP P i 0 v) s = psg P s from e 13 s (by omega)]
    exact c12 s hs
theorem PI_law {k : Nat} {V : LawV} (h : PI late P N) : PI late (setL P k V) N := h
end PI1
