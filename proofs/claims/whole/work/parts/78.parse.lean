/-! reading: what a text tells; both programs are held against this -/
abbrev Rs (ρ : Type) : Type := Except (Nat × Nat) ρ
abbrev Nms : Type := List (List Nat × Nat)
def pPass {ρ : Type} (T : List Nat) (a : Nat) (k : Nat → Rs ρ) : Rs ρ := if 400 ≤ a then .error (2, tkP T a) else k (a + 1)
def pTake {ρ : Type} (T : List Nat) (c a : Nat) (k : Nat → Rs ρ) : Rs ρ := if tkK T a = c then pPass T a k else .error (1, tkP T a)
/-- the first of the late faults is kept -/
def blm (late : Option (Nat × Nat)) (c : Bool) (n p : Nat) : Option (Nat × Nat) := if late = none ∧ c = true then some (n, p) else late
def setP (P : PV) (i j v : Nat) : PV := (fun a b => if a = i ∧ b = j then v else P.1 a b, P.2)
def setL (P : PV) (k : Nat) (V : LawV) : PV := (P.1, P.2.1, fun j => if j = k then V else P.2.2 j)
def plnP : PV := (fun a b => if a = 5 ∧ b = 0 then 20 else 0, fun _ _ => -2, dfl)
def sunV (c : Nat) : Int32 := if c = 16 then -2 else nI (c - 1)
def rowP (P : PV) (w : List Nat) : PV := (fun a b => if a = 0 ∧ b = 0 then (if pr P = 0 then w.length else pw P) else if a = 1 ∧ b = 0 then pr P + 1 else P.1 a b, fun x y => if y = pr P ∧ x < w.length then sunV (w.getD x 0) else P.2.1 x y, P.2.2)
def fits3 (w : List Nat) : Bool := decide (w.length = 3) && (decide (w.getD 0 0 = 24 ∨ w.getD 0 0 = 15) && (decide (w.getD 1 0 = 24 ∨ w.getD 1 0 = 15) && decide (w.getD 2 0 = 24 ∨ w.getD 2 0 = 15)))
def shp3 (w : List Nat) : Nat := (if w.getD 0 0 = 24 then 1 else 0) + (if w.getD 1 0 = 24 then 2 else 0) + (if w.getD 2 0 = 24 then 4 else 0)
def isNm (N : Nms) (w : List Nat) : Bool := N.any (fun q => decide (q.1 = w))
def winN : Nms → List Nat → Option Nat
  | [], _ => none
  | q :: N, w => if q.1 = w ∧ q.2 ≠ 0 then some (q.2 - 1) else winN N w
def talkP (P : PV) (i j : Option Nat) : PV := match i, j with
  | some i, some j => setP (setP (setP P 4 0 (pnt P + 1)) 12 i (ptk P i ||| 2 ^ j)) 12 j ((if j = i then ptk P i ||| 2 ^ j else ptk P j) ||| 2 ^ i)
  | _, _ => setP P 4 0 (pnt P + 1)
def tlk2 (P : PV) (i j : Option Nat) : Bool := match i, j with
  | some i, some j => decide (i = j) || talkS P i j
  | _, _ => false
/-! a law's tokens -/
def bnd (k : Nat) : Nat := if k = 10 ∨ k = 15 then 2 else if k = 8 ∨ k = 9 then 1 else 0
def opc (k : Nat) : Nat := if k = 8 then 2 else if k = 9 then 3 else if k = 10 then 4 else 5
def stW (b : Nat) : List Nat → List Nat
  | [] => []
  | w :: ws => if b ≤ bnd w then stW b ws else w :: ws
def stE (b : Nat) : List Nat → Ex → Ex
  | [], e => e
  | w :: ws, e => if b ≤ bnd w then stE b ws (e ++ [(opc w, 0)]) else e
def ph4 (ph : Nat) : Nat := if ph = 0 then 4 else ph
def pAut {ρ : Type} (T : List Nat) (k : Nat → LawV → Rs ρ) : Nat → Nat → Nat → Bool → Nat → Nat → List Nat → Ex → Ex → Ex → LawV → Rs ρ
  | 0, _, _, _, _, _, _, _, _, _, _ => .error (0, 0)
  | n + 1, a, ph, true, op, ifs, ws, cur, e1, e2, br =>
    if tkK T a = 30 ∧ ph = 0 then (if ifs = 4 then .error (2, tkP T a) else pPass T a (fun a' => pAut T k n a' 1 true op (ifs + 1) ws cur e1 e2 br))
    else if tkK T a = 6 then (if op = 6 then .error (2, tkP T a) else pPass T a (fun a' => pAut T k n a' (ph4 ph) true (op + 1) ifs (6 :: ws) cur e1 e2 br))
    else if tkK T a = 2 then pPass T a (fun a' => pAut T k n a' (ph4 ph) false op ifs ws (cur ++ [(0, nI (tkV T a))]) e1 e2 br)
    else if 33 ≤ tkK T a then pPass T a (fun a' => pAut T k n a' (ph4 ph) false op ifs ws (cur ++ [(1, nI (tkK T a - 33))]) e1 e2 br)
    else .error (1, tkP T a)
  | n + 1, a, ph, false, op, ifs, ws, cur, e1, e2, br =>
    if 0 < bnd (tkK T a) then pPass T a (fun a' => pAut T k n a' ph true op ifs (tkK T a :: stW (bnd (tkK T a)) ws) (stE (bnd (tkK T a)) ws cur) e1 e2 br)
    else if op = 0 then
      (if tkK T a = 13 ∧ ph = 1 then pPass T a (fun a' => pAut T k n a' 2 true 0 ifs [] [] (stE 1 ws cur) [] br)
      else if tkK T a = 31 ∧ ph = 2 then pPass T a (fun a' => pAut T k n a' 3 true 0 ifs [] [] e1 (stE 1 ws cur) br)
      else if tkK T a = 32 ∧ ph = 3 then pPass T a (fun a' => pAut T k n a' 0 true 0 ifs [] [] [] [] (br ++ [(some (e1, e2), stE 1 ws cur)]))
      else if tkK T a = 4 ∧ ph = 4 then pPass T a (fun a' => k a' (br ++ [(none, stE 1 ws cur)]))
      else .error (1, tkP T a))
    else if tkK T a = 7 then pPass T a (fun a' => pAut T k n a' ph false (op - 1) ifs (stW 1 ws).tail (stE 1 ws cur) e1 e2 br)
    else .error (1, tkP T a)
abbrev LF : Type := Option (Nat × Nat)
abbrev Kt3 (ρ : Type) : Type := Nat → LF → PV → Nms → Rs ρ
def pRow {ρ : Type} (T : List Nat) (a : Nat) (late : LF) (P : PV) (N : Nms) (k : Kt3 ρ) : Rs ρ :=
  if 6 ≤ pr P then .error (2, tkP T a) else pPass T a (fun a1 => pTake T 1 a1 (fun a2 => pTake T 4 a2 (fun a3 => k a3 (blm late (decide (pr P ≠ 0 ∧ (tkN T a1).length ≠ pw P)) 6 (tkP T a1)) (rowP P (tkN T a1)) N)))
def pSign {ρ : Type} (T : List Nat) (a : Nat) (late : LF) (P : PV) (N : Nms) (k : Kt3 ρ) : Rs ρ :=
  if 4 ≤ pns P then .error (2, tkP T a) else pPass T a (fun a1 => pTake T 1 a1 (fun a2 => pTake T 1 a2 (fun a3 => pTake T 1 a3 (fun a4 => pTake T 1 a4 (fun a5 => pTake T 4 a5 (fun a6 =>
    k a6 (blm (blm (blm (blm late (isNm N (tkN T a1)) 3 (tkP T a1)) (!fits3 (tkN T a2)) 6 (tkP T a2)) (!fits3 (tkN T a3)) 6 (tkP T a3)) (!fits3 (tkN T a4)) 6 (tkP T a4))
      (setP (setP P 13 (pns P) (shp3 (tkN T a2) + 8 * shp3 (tkN T a3) + 64 * shp3 (tkN T a4))) 2 0 (pns P + 1)) (N ++ [(tkN T a1, 0)])))))))
def winP (P : PV) (u v w : Nat) : PV := setP (setP (setP (setP P 9 (pnw P) u) 10 (pnw P) v) 11 (pnw P) w) 3 0 (pnw P + 1)
def pWindow {ρ : Type} (T : List Nat) (a : Nat) (late : LF) (P : PV) (N : Nms) (k : Kt3 ρ) : Rs ρ :=
  if 4 ≤ pnw P then .error (2, tkP T a) else pPass T a (fun a1 => pTake T 1 a1 (fun a2 => pTake T 2 a2 (fun a3 => pTake T 2 a3 (fun a4 => pTake T 2 a4 (fun a5 => pTake T 4 a5 (fun a6 =>
    k a6 (blm (blm (blm (blm late (isNm N (tkN T a1)) 3 (tkP T a1)) (decide (7 < tkV T a2)) 5 (tkP T a2)) (decide (tkV T a3 < tkV T a2 ∨ 7 < tkV T a3)) 5 (tkP T a3)) (decide (99 < tkV T a4)) 5 (tkP T a4))
      (winP P (tkV T a2) (tkV T a3) (tkV T a4)) (N ++ [(tkN T a1, pnw P + 1)])))))))
def pTalk {ρ : Type} (T : List Nat) (a : Nat) (late : LF) (P : PV) (N : Nms) (k : Kt3 ρ) : Rs ρ :=
  if 6 ≤ pnt P then .error (2, tkP T a) else pPass T a (fun a1 => pTake T 1 a1 (fun a2 => pTake T 1 a2 (fun a3 => pTake T 4 a3 (fun a4 =>
    k a4 (blm (blm (blm late (winN N (tkN T a1)).isNone 4 (tkP T a1)) (winN N (tkN T a2)).isNone 4 (tkP T a2)) (tlk2 P (winN N (tkN T a1)) (winN N (tkN T a2))) 3 (tkP T a2))
      (talkP P (winN N (tkN T a1)) (winN N (tkN T a2))) N))))
def pNum {ρ : Type} (T : List Nat) (a i m : Nat) (late : LF) (P : PV) (N : Nms) (k : Kt3 ρ) : Rs ρ :=
  pPass T a (fun a1 => pTake T 2 a1 (fun a2 => pTake T 4 a2 (fun a3 => k a3 (blm late (decide (m < tkV T a1)) 5 (tkP T a1)) (setP P i 0 (tkV T a1)) N)))
def pRain {ρ : Type} (T : List Nat) (a : Nat) (late : LF) (P : PV) (N : Nms) (k : Kt3 ρ) : Rs ρ :=
  pPass T a (fun a1 => pTake T 2 a1 (fun a2 => pTake T 2 a2 (fun a3 => pTake T 4 a3 (fun a4 => k a4 (blm (blm late (decide (100 < tkV T a1)) 5 (tkP T a1)) (decide (9 < tkV T a2)) 5 (tkP T a2)) (setP (setP P 6 0 (tkV T a1)) 7 0 (tkV T a2)) N))))
def pLaw {ρ : Type} (T : List Nat) (a i : Nat) (late : LF) (P : PV) (N : Nms) (k : Kt3 ρ) : Rs ρ :=
  pPass T a (fun a1 => pTake T 5 a1 (fun a2 => pAut T (fun a3 V => k a3 late (setL P i V) N) (401 - a2) a2 0 true 0 0 [] [] [] [] []))
def pTell {ρ : Type} (T : List Nat) (a : Nat) (late : LF) (P : PV) (N : Nms) (k : Kt3 ρ) : Rs ρ :=
  if tkK T a = 20 then pRow T a late P N k else if tkK T a = 21 then pSign T a late P N k else if tkK T a = 22 then pWindow T a late P N k else if tkK T a = 23 then pTalk T a late P N k
  else if tkK T a = 24 then pLaw T a 0 late P N k else if tkK T a = 25 then pLaw T a 1 late P N k else if tkK T a = 26 then pLaw T a 2 late P N k
  else if tkK T a = 27 then pNum T a 5 99 late P N k else if tkK T a = 28 then pRain T a late P N k else if tkK T a = 29 then pNum T a 8 9999 late P N k else .error (1, tkP T a)
def pAll (T : List Nat) : Nat → Nat → LF → PV → Nms → Rs (LF × PV)
  | 0, _, _, _, _ => .error (0, 0)
  | n + 1, a, late, P, N => if tkK T a = 0 then .ok (late, P) else pTell T a late P N (pAll T n)
def parse (T : List Nat) : Rs (LF × PV) := pAll T 401 0 none plnP []
/-! what holds while a law is read -/
def okB (lim : Nat) : Ex → Nat → Nat → Prop
  | [], d, r => d = r
  | q :: es, d, r => okO q ∧ (if q.1 ≤ 1 then d < lim ∧ okB lim es (d + 1) r else 2 ≤ d ∧ okB lim es (d - 1) r)
theorem okB_app {lim : Nat} : ∀ (a b : Ex) (d m r : Nat), okB lim a d m → okB lim b m r → okB lim (a ++ b) d r
  | [], b, d, m, r, h, g => by
    have : d = m := h
    rw [this]
    exact g
  | q :: a, b, d, m, r, ⟨h1, h2⟩, g => by
    refine ⟨h1, ?_⟩
    by_cases e : q.1 ≤ 1
    · rw [if_pos e] at h2 ⊢
      exact ⟨h2.1, okB_app a b _ m r h2.2 g⟩
    · rw [if_neg e] at h2 ⊢
      exact ⟨h2.1, okB_app a b _ m r h2.2 g⟩
theorem okB_E {lim : Nat} (hl : lim ≤ 20) : ∀ (e : Ex) (d r : Nat), okB lim e d r → okE e d r
  | [], d, r, h => h
  | q :: e, d, r, ⟨h1, h2⟩ => by
    refine ⟨h1, ?_⟩
    by_cases g : q.1 ≤ 1
    · rw [if_pos g] at h2 ⊢
      exact ⟨by omega, okB_E hl e _ r h2.2⟩
    · rw [if_neg g] at h2 ⊢
      exact ⟨h2.1, okB_E hl e _ r h2.2⟩
theorem okB_sh {lim : Nat} : ∀ (e : Ex) (d r : Nat), okB lim e d r → okB (lim + 1) e (d + 1) (r + 1)
  | [], d, r, h => by
    have : d = r := h
    show d + 1 = r + 1
    omega
  | q :: e, d, r, ⟨h1, h2⟩ => by
    refine ⟨h1, ?_⟩
    by_cases g : q.1 ≤ 1
    · rw [if_pos g] at h2 ⊢
      exact ⟨by omega, okB_sh e _ r h2.2⟩
    · rw [if_neg g] at h2 ⊢
      refine ⟨by omega, ?_⟩
      have := okB_sh e _ r h2.2
      rw [show d - 1 + 1 = d + 1 - 1 by omega] at this
      exact this
theorem okB_push {lim d : Nat} {e : Ex} {q : Nat × Int32} (h : okB lim e 0 d) (ho : okO q) (hq : q.1 ≤ 1) (hd : d < lim) : okB lim (e ++ [q]) 0 (d + 1) :=
  okB_app e [q] 0 d (d + 1) h ⟨ho, by rw [if_pos hq]; exact ⟨hd, rfl⟩⟩
theorem okB_op {lim d : Nat} {e : Ex} {q : Nat × Int32} (h : okB lim e 0 (d + 2)) (ho : okO q) (hq : ¬ q.1 ≤ 1) : okB lim (e ++ [q]) 0 (d + 1) :=
  okB_app e [q] 0 (d + 2) (d + 1) h ⟨ho, by rw [if_neg hq]; exact ⟨by omega, rfl⟩⟩
theorem okB_ne {lim : Nat} {e : Ex} (h : okB lim e 0 1) : 1 ≤ e.length := by
  cases e with
  | nil => exact absurd h (by show ¬ (0 : Nat) = 1; decide)
  | cons q e => rw [List.length_cons]; omega
def isOp (k : Nat) : Prop := k = 8 ∨ k = 9 ∨ k = 10 ∨ k = 15
def wsOk : List Nat → Prop
  | [] => True
  | c :: ws => wsOk ws ∧ (c = 6 ∨ (isOp c ∧ (ws = [] ∨ ∃ d r, ws = d :: r ∧ bnd d < bnd c)))
def c6 : List Nat → Nat
  | [] => 0
  | c :: ws => c6 ws + (if c = 6 then 1 else 0)
def nop : List Nat → Nat
  | [] => 0
  | c :: ws => nop ws + (if c = 6 then 0 else 1)
def hdB : List Nat → Nat
  | [] => 0
  | c :: _ => bnd c
theorem bnd_op {c : Nat} (h : isOp c) : 1 ≤ bnd c ∧ bnd c ≤ 2 ∧ c ≠ 6 := by
  rcases h with h | h | h | h <;> subst h <;> decide
theorem ws_len : ∀ ws, wsOk ws → ws.length ≤ 3 * c6 ws + hdB ws ∧ nop ws ≤ 2 * c6 ws + hdB ws ∧ hdB ws ≤ 2 ∧ ws.length = nop ws + c6 ws
  | [], _ => ⟨Nat.le_refl _, Nat.le_refl _, by decide, rfl⟩
  | c :: ws, ⟨h1, h2⟩ => by
    obtain ⟨a, b, d, f⟩ := ws_len ws h1
    rw [List.length_cons, c6, nop]
    rcases h2 with h2 | ⟨h2, h3⟩
    · subst h2
      have : hdB (6 :: ws) = 0 := rfl
      rw [if_pos rfl, if_pos rfl]
      omega
    · obtain ⟨b1, b2, b3⟩ := bnd_op h2
      have : hdB (c :: ws) = bnd c := rfl
      have h4 : hdB ws + 1 ≤ bnd c := by
        rcases h3 with h3 | ⟨e, r, h3, h4⟩
        · rw [h3]
          show 0 + 1 ≤ _
          omega
        · rw [h3]
          exact h4
      rw [if_neg b3, if_neg b3]
      omega
theorem stW_ok {b : Nat} : ∀ ws, wsOk ws → wsOk (stW b ws) ∧ hdB (stW b ws) < max b 1 ∧ (1 ≤ b → c6 (stW b ws) = c6 ws)
  | [], _ => ⟨trivial, by show 0 < max b 1; omega, fun _ => rfl⟩
  | c :: ws, ⟨h1, h2⟩ => by
    unfold stW
    by_cases e : b ≤ bnd c
    · rw [if_pos e]
      obtain ⟨a1, a2, a3⟩ := stW_ok (b := b) ws h1
      refine ⟨a1, a2, fun hb => ?_⟩
      have : c ≠ 6 := fun z => by
        rw [z] at e
        have : bnd 6 = 0 := rfl
        omega
      rw [a3 hb, c6, if_neg this, Nat.add_zero]
    · rw [if_neg e]
      refine ⟨⟨h1, h2⟩, ?_, fun _ => rfl⟩
      show bnd c < max b 1
      omega
theorem stE_ok {b lim : Nat} (hb : 1 ≤ b) : ∀ ws e, wsOk ws → okB lim e 0 (nop ws + 1) → okB lim (stE b ws e) 0 (nop (stW b ws) + 1) ∧ (stE b ws e).length + nop (stW b ws) = e.length + nop ws
  | [], e, _, h => ⟨h, rfl⟩
  | c :: ws, e, ⟨h1, h2⟩, h => by
    unfold stE stW
    by_cases g : b ≤ bnd c
    · rw [if_pos g, if_pos g]
      have c6' : c ≠ 6 := fun z => by
        rw [z] at g
        have : bnd 6 = 0 := rfl
        omega
      have hc : isOp c := by
        rcases h2 with h2 | h2
        · exact absurd h2 c6'
        · exact h2.1
      have eo : opc c = 2 ∨ opc c = 3 ∨ opc c = 4 ∨ opc c = 5 := by
        rcases hc with z | z | z | z <;> subst z <;> decide
      rw [nop, if_neg c6'] at h
      have s := okB_op (q := (opc c, 0)) h ⟨by show opc c ≤ 5; omega, fun z => absurd z (by show ¬ opc c = 0; omega), fun z => absurd z (by show ¬ opc c = 1; omega)⟩ (by show ¬ opc c ≤ 1; omega)
      obtain ⟨a1, a2⟩ := stE_ok hb ws _ h1 s
      refine ⟨a1, ?_⟩
      rw [a2, List.length_append, nop, if_neg c6']
      show e.length + 1 + _ = _
      omega
    · rw [if_neg g, if_neg g]
      exact ⟨h, rfl⟩
/-- branches that are done -/
def brOk (br : LawV) : Prop := ∀ b, b ∈ br → ∃ e1 e2, b.1 = some (e1, e2) ∧ okB 15 e1 0 1 ∧ okB 15 e2 0 1 ∧ okB 15 b.2 0 1
def brN : LawV → Nat
  | [] => 0
  | (some (e1, e2), t) :: bs => e1.length + e2.length + t.length + 3 + brN bs
  | (none, t) :: bs => t.length + brN bs
theorem brN_app : ∀ a b, brN (a ++ b) = brN a + brN b
  | [], b => by rw [List.nil_append, brN, Nat.zero_add]
  | (some (e1, e2), t) :: a, b => by
    rw [List.cons_append, brN, brN_app a b, brN]
    omega
  | (none, t) :: a, b => by
    rw [List.cons_append, brN, brN_app a b, brN]
    omega
theorem brN_ge : ∀ br, brOk br → 6 * br.length ≤ brN br
  | [], _ => Nat.zero_le _
  | (none, t) :: br, h => by
    obtain ⟨e1, e2, h1, -⟩ := h _ List.mem_cons_self
    exact absurd h1 (by simp)
  | (some (f1, f2), t) :: br, h => by
    obtain ⟨e1, e2, h1, h2, h3, h4⟩ := h _ List.mem_cons_self
    have := brN_ge br (fun b hb => h b (List.mem_cons_of_mem _ hb))
    injection h1 with h1
    injection h1 with h5 h6
    subst h5
    subst h6
    have := okB_ne h2
    have := okB_ne h3
    have := okB_ne h4
    rw [brN, List.length_cons]
    have h7 : okB 15 t 0 1 := h4
    have := okB_ne h7
    omega
def crd (ph : Nat) : Nat := if ph = 1 then 1 else if ph = 2 then 2 else if ph = 3 then 1 else 0
def phN (ph : Nat) (e1 e2 : Ex) : Nat := if ph = 2 then e1.length else if ph = 3 then e1.length + e2.length + 2 else 0
def LAi (n ph : Nat) (wn : Bool) (op ifs : Nat) (ws : List Nat) (cur e1 e2 : Ex) (br : LawV) : Prop :=
  ph ≤ 4 ∧ op ≤ 6 ∧ ifs ≤ 4 ∧ wsOk ws ∧ c6 ws = op ∧ (ph = 0 → wn = true ∧ ws = [] ∧ cur = []) ∧ okB 15 cur 0 (nop ws + (if wn = true then 0 else 1)) ∧ ((ph = 2 ∨ ph = 3) → okB 15 e1 0 1) ∧ (ph = 3 → okB 15 e2 0 1) ∧ brOk br ∧ brN br + phN ph e1 e2 + cur.length + nop ws + crd ph ≤ n
theorem LAi_0 : LAi 0 0 true 0 0 [] [] [] [] [] := ⟨by decide, by decide, by decide, trivial, rfl, fun _ => ⟨rfl, rfl, rfl⟩, rfl, fun z => absurd z (by decide), fun z => absurd z (by decide), fun b hb => absurd hb (by simp), by decide⟩
theorem ph4_p (ph : Nat) (h : ph ≤ 4) : ph4 ph ≤ 4 ∧ ph4 ph ≠ 0 ∧ ((ph4 ph = 2 ∨ ph4 ph = 3) → ph4 ph = ph) ∧ (∀ e1 e2, phN (ph4 ph) e1 e2 = phN ph e1 e2) ∧ crd (ph4 ph) = crd ph := by
  unfold ph4
  by_cases e : ph = 0
  · subst e
    rw [if_pos rfl]
    exact ⟨by decide, by decide, fun z => absurd z (by decide), fun _ _ => rfl, rfl⟩
  · rw [if_neg e]
    exact ⟨h, e, fun _ => rfl, fun _ _ => rfl, rfl⟩
section LA
variable {n ph : Nat} {op ifs : Nat} {ws : List Nat} {cur e1 e2 : Ex} {br : LawV}
theorem LAi_if (h : LAi n 0 true op ifs ws cur e1 e2 br) (hi : ifs ≠ 4) : LAi (n + 1) 1 true op (ifs + 1) ws cur e1 e2 br := by
  obtain ⟨a1, a2, a3, a4, a5, a6, a7, a8, a9, a10, a11⟩ := h
  refine ⟨by decide, a2, by omega, a4, a5, fun z => absurd z (by decide), a7, fun z => absurd z (by decide), fun z => absurd z (by decide), a10, ?_⟩
  have c0 : crd 0 = 0 := rfl
  have c1 : crd 1 = 1 := rfl
  have p0 : phN 0 e1 e2 = 0 := rfl
  have p1 : phN 1 e1 e2 = 0 := rfl
  omega
theorem LAi_open (h : LAi n ph true op ifs ws cur e1 e2 br) (ho : op ≠ 6) : LAi (n + 1) (ph4 ph) true (op + 1) ifs (6 :: ws) cur e1 e2 br := by
  obtain ⟨a1, a2, a3, a4, a5, a6, a7, a8, a9, a10, a11⟩ := h
  obtain ⟨p1, p2, p3, p4, p5⟩ := ph4_p ph a1
  refine ⟨p1, by omega, a3, ⟨a4, Or.inl rfl⟩, by rw [c6, if_pos rfl, a5], fun z => absurd z p2, by rw [nop, if_pos rfl]; exact a7, fun z => a8 (by rw [← p3 z]; exact z), fun z => a9 (by rw [← p3 (Or.inr z)]; exact z), a10, ?_⟩
  rw [p4, p5, nop, if_pos rfl]
  omega
theorem LAi_unit {q : Nat × Int32} (h : LAi n ph true op ifs ws cur e1 e2 br) (ho : okO q) (hq : q.1 ≤ 1) : LAi (n + 1) (ph4 ph) false op ifs ws (cur ++ [q]) e1 e2 br := by
  obtain ⟨a1, a2, a3, a4, a5, a6, a7, a8, a9, a10, a11⟩ := h
  obtain ⟨p1, p2, p3, p4, p5⟩ := ph4_p ph a1
  obtain ⟨w1, w2, w3, w4⟩ := ws_len ws a4
  refine ⟨p1, a2, a3, a4, a5, fun z => absurd z p2, okB_push a7 ho hq (by omega), fun z => a8 (by rw [← p3 z]; exact z), fun z => a9 (by rw [← p3 (Or.inr z)]; exact z), a10, ?_⟩
  rw [p4, p5, List.length_append]
  show _ + (_ + 1) + _ + _ ≤ _
  omega
theorem LAi_bin {c : Nat} (h : LAi n ph false op ifs ws cur e1 e2 br) (hc : 0 < bnd c) : LAi (n + 1) ph true op ifs (c :: stW (bnd c) ws) (stE (bnd c) ws cur) e1 e2 br := by
  obtain ⟨a1, a2, a3, a4, a5, a6, a7, a8, a9, a10, a11⟩ := h
  have hop : isOp c := by
    unfold bnd at hc
    unfold isOp
    split at hc
    · omega
    · split at hc <;> omega
  obtain ⟨b1, b2, b3⟩ := bnd_op hop
  obtain ⟨s1, s2, s3⟩ := stW_ok (b := bnd c) ws a4
  rw [if_neg (by decide)] at a7
  obtain ⟨t1, t2⟩ := stE_ok (b := bnd c) (by omega) ws cur a4 a7
  refine ⟨a1, a2, a3, ⟨s1, Or.inr ⟨hop, ?_⟩⟩, by rw [c6, if_neg b3, s3 (by omega), a5, Nat.add_zero], fun z => absurd (a6 z).1 (by decide), by rw [nop, if_neg b3, if_pos rfl]; exact t1, a8, a9, a10, ?_⟩
  · cases hw : stW (bnd c) ws with
    | nil => exact Or.inl rfl
    | cons d r =>
      right
      refine ⟨d, r, rfl, ?_⟩
      rw [hw] at s2
      have : bnd d < max (bnd c) 1 := s2
      omega
  · rw [nop, if_neg b3]
    omega
theorem LAi_close (h : LAi n ph false op ifs ws cur e1 e2 br) (ho : op ≠ 0) : (∃ r, stW 1 ws = 6 :: r) ∧ LAi (n + 1) ph false (op - 1) ifs (stW 1 ws).tail (stE 1 ws cur) e1 e2 br := by
  obtain ⟨a1, a2, a3, a4, a5, a6, a7, a8, a9, a10, a11⟩ := h
  obtain ⟨s1, s2, s3⟩ := stW_ok (b := 1) ws a4
  rw [if_neg (by decide)] at a7
  obtain ⟨t1, t2⟩ := stE_ok (b := 1) (by omega) ws cur a4 a7
  cases hw : stW 1 ws with
  | nil =>
    have := s3 (by omega)
    rw [hw, a5] at this
    exact absurd this.symm ho
  | cons d r =>
    rw [hw] at s1 s2 s3 t1 t2
    have hd : bnd d < max 1 1 := s2
    have hd6 : d = 6 := by
      rcases s1.2 with z | z
      · exact z
      · have := bnd_op z.1
        omega
    subst hd6
    have s3' := s3 (by omega)
    rw [c6, if_pos rfl, a5] at s3'
    rw [nop, if_pos rfl] at t1 t2
    refine ⟨⟨r, rfl⟩, a1, by omega, a3, s1.1, by show c6 r = op - 1; omega, fun z => absurd (a6 z).1 (by decide), by rw [if_neg (by decide)]; exact t1, a8, a9, a10, ?_⟩
    show brN br + phN ph e1 e2 + _ + nop r + crd ph ≤ _
    omega
/-- all that waits comes out where no bracket is open -/
theorem LAi_end (h : LAi n ph false 0 ifs ws cur e1 e2 br) : stW 1 ws = [] ∧ okB 15 (stE 1 ws cur) 0 1 ∧ (stE 1 ws cur).length = cur.length + nop ws := by
  obtain ⟨a1, a2, a3, a4, a5, a6, a7, a8, a9, a10, a11⟩ := h
  obtain ⟨s1, s2, s3⟩ := stW_ok (b := 1) ws a4
  rw [if_neg (by decide)] at a7
  obtain ⟨t1, t2⟩ := stE_ok (b := 1) (by omega) ws cur a4 a7
  cases hw : stW 1 ws with
  | nil =>
    rw [hw] at t1 t2
    exact ⟨rfl, t1, t2⟩
  | cons d r =>
    rw [hw] at s1 s2 s3
    have hd : bnd d < max 1 1 := s2
    have hd6 : d = 6 := by
      rcases s1.2 with z | z
      · exact z
      · have := bnd_op z.1
        omega
    subst hd6
    have s3' := s3 (by omega)
    rw [c6, if_pos rfl, a5] at s3'
    omega
theorem LAi_less (h : LAi n 1 false 0 ifs ws cur e1 e2 br) : LAi (n + 1) 2 true 0 ifs [] [] (stE 1 ws cur) [] br := by
  obtain ⟨w1, w2, w3⟩ := LAi_end h
  obtain ⟨a1, a2, a3, a4, a5, a6, a7, a8, a9, a10, a11⟩ := h
  refine ⟨by decide, by decide, a3, trivial, rfl, fun z => absurd z (by decide), rfl, fun _ => w2, fun z => absurd z (by decide), a10, ?_⟩
  have c0 : crd 1 = 1 := rfl
  have c1 : crd 2 = 2 := rfl
  have p0 : phN 1 e1 e2 = 0 := rfl
  have p1 : phN 2 (stE 1 ws cur) [] = (stE 1 ws cur).length := rfl
  show _ + _ + 0 + 0 + _ ≤ _
  omega
theorem LAi_then (h : LAi n 2 false 0 ifs ws cur e1 e2 br) : LAi (n + 1) 3 true 0 ifs [] [] e1 (stE 1 ws cur) br := by
  obtain ⟨w1, w2, w3⟩ := LAi_end h
  obtain ⟨a1, a2, a3, a4, a5, a6, a7, a8, a9, a10, a11⟩ := h
  refine ⟨by decide, by decide, a3, trivial, rfl, fun z => absurd z (by decide), rfl, fun _ => a8 (Or.inl rfl), fun _ => w2, a10, ?_⟩
  have c0 : crd 2 = 2 := rfl
  have c1 : crd 3 = 1 := rfl
  have p0 : phN 2 e1 e2 = e1.length := rfl
  have p1 : phN 3 e1 (stE 1 ws cur) = e1.length + (stE 1 ws cur).length + 2 := rfl
  show _ + _ + 0 + 0 + _ ≤ _
  omega
theorem LAi_else (h : LAi n 3 false 0 ifs ws cur e1 e2 br) : LAi (n + 1) 0 true 0 ifs [] [] [] [] (br ++ [(some (e1, e2), stE 1 ws cur)]) := by
  obtain ⟨w1, w2, w3⟩ := LAi_end h
  obtain ⟨a1, a2, a3, a4, a5, a6, a7, a8, a9, a10, a11⟩ := h
  refine ⟨by decide, by decide, a3, trivial, rfl, fun _ => ⟨rfl, rfl, rfl⟩, rfl, fun z => absurd z (by decide), fun z => absurd z (by decide), fun b hb => ?_, ?_⟩
  · rw [List.mem_append, List.mem_singleton] at hb
    rcases hb with hb | hb
    · exact a10 b hb
    · subst hb
      exact ⟨e1, e2, rfl, a8 (Or.inr rfl), a9 rfl, w2⟩
  · have c0 : crd 3 = 1 := rfl
    have c1 : crd 0 = 0 := rfl
    have p0 : phN 3 e1 e2 = e1.length + e2.length + 2 := rfl
    have p1 : phN 0 ([] : Ex) ([] : Ex) = 0 := rfl
    have b1 : brN [(some (e1, e2), stE 1 ws cur)] = e1.length + e2.length + (stE 1 ws cur).length + 3 := rfl
    rw [brN_app]
    show _ + _ + 0 + 0 + _ ≤ _
    omega
theorem okL_of : ∀ (br : LawV) (t : Ex), brOk br → okB 15 t 0 1 → okL (br ++ [(none, t)])
  | [], t, _, ht => ⟨rfl, okB_E (by omega) t 0 1 ht⟩
  | (none, u) :: br, t, hb, _ => by
    obtain ⟨e1, e2, h1, -⟩ := hb _ List.mem_cons_self
    exact absurd h1 (by simp)
  | (some (f1, f2), u) :: br, t, hb, ht => by
    obtain ⟨e1, e2, h1, h2, h3, h4⟩ := hb _ List.mem_cons_self
    injection h1 with h1
    injection h1 with h5 h6
    subst h5
    subst h6
    exact ⟨okB_E (by omega) _ 0 1 h2, okB_E (by omega) _ 0 1 h3, okB_E (by omega) _ 1 2 (okB_sh _ 0 1 h3), okB_E (by omega) _ 0 1 h4, okL_of br t (fun b h => hb b (List.mem_cons_of_mem _ h)) ht⟩
end LA
