/-! the class: a law is read, the whole -/
def FW (w : Nat) (σ τ : SS) : Prop := (∀ b, b ≠ 7 → b ≠ 8 → b ≠ 9 → b ≠ w → b ≠ w + 1 → τ.1 b = σ.1 b) ∧ (∀ b, b ≠ 7 → τ.2.1 b = σ.2.1 b) ∧ (∀ b, b ≠ 8 → τ.2.2 b = σ.2.2 b)
theorem FW.rf {w : Nat} {σ : SS} : FW w σ σ := ⟨fun _ _ _ _ _ _ => rfl, fun _ _ => rfl, fun _ _ => rfl⟩
theorem FW.tr {w : Nat} {σ τ υ : SS} (h : FW w σ τ) (g : FW w τ υ) : FW w σ υ := ⟨fun b a1 a2 a3 a4 a5 => (g.1 b a1 a2 a3 a4 a5).trans (h.1 b a1 a2 a3 a4 a5), fun b hb => (g.2.1 b hb).trans (h.2.1 b hb), fun b hb => (g.2.2 b hb).trans (h.2.2 b hb)⟩
theorem F7.fw {w : Nat} {σ τ : SS} (h : F7 σ τ) : FW w σ τ := ⟨fun b a1 _ _ _ _ => h.1 b a1, h.2.1, fun b _ => by rw [h.2.2]⟩
theorem FL.fw {w : Nat} {σ τ : SS} (h : FL w σ τ) : FW w σ τ := ⟨fun b _ a2 a3 a4 a5 => h.1 b a2 a3 a4 a5, fun b _ => by rw [h.2], fun b _ => by rw [h.2]⟩
theorem RK.fl {σ τ : SS} {T : List Nat} {a w : Nat} (hw : isW w) (h : RK σ T a) (d : FL w σ τ) : RK τ T a := by
  have w10 := (isW_n hw).2.2.2.2.2.2
  unfold RK XK
  rw [d.1 3 (by omega) (by omega) (by omega) (by omega), d.1 4 (by omega) (by omega) (by omega) (by omega), d.1 5 (by omega) (by omega) (by omega) (by omega), d.2]
  exact h
theorem R7.fl {σ τ : SS} {a w : Nat} {late : LF} (hw : isW w) (h : R7 σ a late) (d : FL w σ τ) : R7 τ a late := by
  have w10 := (isW_n hw).2.2.2.2.2.2
  unfold R7 LTE
  rw [d.1 7 (by omega) (by omega) (by omega) (by omega)]
  exact h
theorem LMs.f7 {σ τ : SS} {w ph : Nat} {wn : Bool} {op ifs : Nat} {ws : List Nat} {cur e1 e2 : Ex} {br : LawV} (hw : isW w) (h : LMs σ w ph wn op ifs ws cur e1 e2 br) (d : F7 σ τ) : LMs τ w ph wn op ifs ws cur e1 e2 br := by
  have w10 := (isW_n hw).2.2.2.2.2.2
  unfold LMs LMw LC
  rw [d.1 8 (by omega), d.1 9 (by omega), d.1 w (by omega), d.1 (w + 1) (by omega), d.2.2]
  exact h
theorem FX.n0 {σ : SS} {e : Nat × Nat} (h : FX σ e) : ¬ σ.1 7 4 = 0 := by
  rw [h.2.2.1]
  exact nI_ne0 (by rcases h.1 with z | z <;> omega) (by rcases h.1 with z | z <;> omega)
section P4
variable {Γ : GE} {l : Launch} {σ τ : SS} {K : Option Value → SS → Prop} {T : List Nat} {w : Nat} {late : LF} {ρ : Type} {R : Rs ρ} {kk : Nat → LawV → Rs ρ}
theorem c_lawLoop {a2 : Nat} (hw : isW w) (ha2 : 2 ≤ a2) : ∀ n a t (σ : SS) ph wn op ifs ws cur e1 e2 br, n + a = 401 → a ≤ 400 → t + a2 = a → RK σ T a → R7 σ a late → LMs σ w ph wn op ifs ws cur e1 e2 br → LAi t ph wn op ifs ws cur e1 e2 br → pAut T kk n a ph wn op ifs ws cur e1 e2 br = R →
    (∀ τ e, FW w σ τ → FX τ e → R = .error e → K none τ) →
    (∀ τ a3 V, FW w σ τ → RK τ T a3 → R7 τ a3 late → LC τ w (encL 0 V) → okL V → a < a3 → kk a3 V = R → K none τ) → wX7_takeLaw_27 Γ l (nI t) σ K := by
  obtain ⟨w8, w8', w9, w9', w7, w7', w10⟩ := isW_n hw
  intro n
  induction n with
  | zero =>
    intro a t σ ph wn op ifs ws cur e1 e2 br h1 h2
    omega
  | succ n ih =>
    intro a t σ ph wn op ifs ws cur e1 e2 br h1 h2 h3 hk h7 hL hi hR herr hok
    have va : vp_in (nI a) 402 := vp_in_nI (by omega) (by omega)
    have tt : ¬ (400 : Int32) < nI t := by
      rw [show (400 : Int32) < nI t ↔ 400 < t from nI_ltI (a := 400) (by omega) (by omega)]
      omega
    obtain ⟨k1, k2, k3, k4⟩ := hk.2.1 a (by omega) hk.2.2
    -- a fault ends the loop
    have stop : ∀ (s : Nat) (τ : SS), (s = 1 ∨ s = 2) → R = .error (s, tkP T a) → FL w σ τ → C2 Γ l mX7_refuse [.ref 7, .int (nI s)] τ (Rv fun s3_ => wX7_takeLaw_27 Γ l (nI (t + 1)) s3_ K) := fun s τ hs hr d => by
      refine c_refuse (hk.fl hw d) (h7.fl hw d) hs (fun υ d7 fx => rv (tX7_takeLaw_27 ⟨fun _ => herr υ _ (d.fw.tr d7.fw) fx hr, fun _ => ⟨fun _ => herr υ _ (d.fw.tr d7.fw) fx hr, fun z => ?_⟩⟩))
      exact absurd z fx.n0
    have next : ∀ τ, FL w σ τ → NXT T kk n a t w R τ → tkK T a ≠ 0 → tkK T a ≠ 3 → C2 Γ l mX7_pass [.ref 7] τ (Ri fun r6_ s5_ => wX7_takeLaw_27 Γ l (nI (t + 1)) s5_ K) := fun τ d hn n0 n3 => by
      have dead : ∀ υ e, F7 τ υ → FX υ e → R = .error e → wX7_takeLaw_27 Γ l (nI (t + 1)) υ K := fun υ e d7 fx hr => tX7_takeLaw_27 ⟨fun _ => herr υ _ (d.fw.tr d7.fw) fx hr, fun _ => ⟨fun _ => herr υ _ (d.fw.tr d7.fw) fx hr, fun z => absurd z fx.n0⟩⟩
      rcases hn with ⟨ph', wn', op', ifs', ws', cur', e1', e2', br', q1, q2, q3⟩ | ⟨br', t', q1, q2, q3, q4, q5, q6, q7⟩
      · refine c_pass (hk.fl hw d) (h7.fl hw d) n0 n3 q1 (fun υ e d7 fx hr => ri (dead υ e d7 fx hr)) (fun υ d7 rk r7 _ _ _ hr => ri ?_)
        exact ih (a + 1) (t + 1) υ ph' wn' op' ifs' ws' cur' e1' e2' br' (by omega) r7.1 (by omega) rk r7 (q2.f7 hw d7) q3 hr (fun ξ e dx fx hx => herr ξ e ((d.fw.tr d7.fw).tr dx) fx hx) (fun ξ a3 V dx rx r7x lc ov lt hx => hok ξ a3 V ((d.fw.tr d7.fw).tr dx) rx r7x lc ov (by omega) hx)
      · refine c_pass (hk.fl hw d) (h7.fl hw d) n0 n3 q1 (fun υ e d7 fx hr => ri (dead υ e d7 fx hr)) (fun υ d7 rk r7 _ _ _ hr => ri ?_)
        have e8 : ¬ υ.1 8 8 = 0 := by
          rw [d7.1 8 (by omega), q4]
          decide
        have fin : K none υ := hok υ (a + 1) _ (d.fw.tr d7.fw) rk r7 (q2.cong (d7.1 w w7.symm) (d7.1 (w + 1) w7'.symm)) q3 (by omega) hr
        exact tX7_takeLaw_27 ⟨fun _ => fin, fun _ => ⟨fun _ => fin, fun _ => ⟨fun _ => fin, fun z => absurd z e8⟩⟩⟩
    obtain ⟨l1, l2, l3, l4, l5, l6, l7⟩ := id hL
    refine tX7_takeLaw_27 ⟨fun q => absurd q tt, fun _ => ⟨fun q => absurd h7.2.2.1 q, fun _ => ⟨fun q => absurd l6 q, fun _ => ?_⟩⟩⟩
    rw [h7.2.1, nI_clamp (by omega), k1, l5, bI_0, nI_1]
    refine ⟨va, fun q => ?_, fun q => ⟨va, ?_⟩⟩
    · subst q
      exact c_hearBehind hw hL hi (by omega) hR (fun s hs hr τ d => ri ⟨fun _ => stop s τ hs hr d, fun z => absurd z (nI_ne0 (by rcases hs with e | e <;> rw [e] <;> decide) (by rcases hs with e | e <;> rw [e] <;> decide))⟩) (fun τ d hn n0 n3 => ri ⟨fun z => absurd rfl z, fun _ => next τ d hn n0 n3⟩)
    · simp only [Bool.not_eq_false] at q
      subst q
      exact c_hearUnit hw hL hi (by omega) k3 hR (fun s hs hr τ d => ri ⟨fun _ => stop s τ hs hr d, fun z => absurd z (nI_ne0 (by rcases hs with e | e <;> rw [e] <;> decide) (by rcases hs with e | e <;> rw [e] <;> decide))⟩) (fun τ d hn n0 n3 => ri ⟨fun z => absurd rfl z, fun _ => next τ d hn n0 n3⟩)
theorem sR_at (σ : SS) (b k v c j : Nat) : (sR σ b k v).2.2 c j = if c = b ∧ j = k then v else σ.2.2 c j := by
  unfold sR u2R
  by_cases h : c = b
  · subst h
    by_cases g : j = k
    · simp [g, va_up]
    · simp [g, va_up]
  · simp [h]
theorem c_takeLaw {a : Nat} (hw : isW w) (hk : RK σ T a) (h7 : R7 σ a late) (hn0 : tkK T a ≠ 0) (hn3 : tkK T a ≠ 3)
    (hR : pPass T a (fun a1 => pTake T 5 a1 (fun a2 => pAut T kk (401 - a2) a2 0 true 0 0 [] [] [] [] [])) = R)
    (herr : ∀ τ e, FW w σ τ → FX τ e → R = .error e → K none τ)
    (hok : ∀ τ a3 V, FW w σ τ → RK τ T a3 → R7 τ a3 late → LC τ w (encL 0 V) → okL V → a < a3 → kk a3 V = R → K none τ) : C2 Γ l mX7_takeLaw [.ref 7, .ref w] σ K := by
  obtain ⟨w8, w8', w9, w9', w7, w7', w10⟩ := isW_n hw
  refine tX7_takeLaw hw (c_pass hk h7 hn0 hn3 hR (fun τ e d f z => ri ⟨fun _ => herr τ e d.fw f z, fun y => absurd rfl y⟩) (fun τ d rk r7 _ _ _ z => ri ⟨fun y => absurd y (by decide), fun _ => ?_⟩))
  refine c_take (c := 5) (by decide) (by decide) (by decide) rk r7 z (fun υ e d2 f y => ri ⟨fun t => absurd rfl t, fun _ => herr υ e (d.fw.tr d2.fw) f y⟩) (fun υ d2 rk2 r72 _ _ _ _ y => ri ⟨fun _ => ?_, fun t => absurd t (by decide)⟩)
  refine tX3_begin hw (fun s1 e1 => ⟨w, by rw [e1, sR_at, if_pos ⟨rfl, rfl⟩], hw, tX2_clear hw (fun s3 e3 => rv (fun s5 e5 s6 e6 s7 e7 s8 e8 s9 e9 s10 e10 s11 e11 => rv ?_))⟩)
  have i1 : s1.1 = υ.1 := by rw [e1]; rfl
  have j1 : s1.2.1 = υ.2.1 := by rw [e1]; rfl
  have r11 : s11.2 = s1.2 := by rw [e11, e10, e9, e8, e7, e6, e5, e3]; rfl
  have ro : ∀ b, b ≠ 8 → b ≠ w → s11.1 b = υ.1 b := fun b b8 bw => by
    rw [e11, sI_row, sA_off2 _ _ b8, e10, sI_row, sA_off2 _ _ b8, e9, sI_row, sA_off2 _ _ b8, e8, sI_row, sA_off2 _ _ b8, e7, sI_row, sA_off2 _ _ b8, e6, sI_row, sA_off2 _ _ b8, e5, sI_row, sA_off2 _ _ b8, e3, sI_row, sA_off2 _ _ bw, i1]
  have fw : FW w υ s11 := ⟨fun b _ b2 _ b4 _ => ro b b2 b4, fun b _ => by rw [r11, j1], fun b hb => by rw [r11, e1]; funext j; rw [sR_at, if_neg (fun z => hb z.1)]⟩
  have g8 : ∀ j, s11.1 8 j = if j = 8 then 0 else if j = 7 then 1 else if j = 6 then 0 else if j = 5 then 0 else if j = 4 then 0 else if j = 3 then 0 else if j = 1 then 0 else υ.1 8 j := fun j => by
    have s38 : s3.1 8 j = υ.1 8 j := by rw [e3, sI_row, sA_off2 _ _ w8, i1]
    rw [e11, sI_at, e10, sI_at, e9, sI_at, e8, sI_at, e7, sI_at, e6, sI_at, e5, sI_at, s38]
    simp only [true_and]
  have rk3 : RK s11 T (a + 1 + 1) := by
    unfold RK XK
    rw [ro 3 (by omega) (by omega), ro 4 (by omega) (by omega), ro 5 (by omega) (by omega), r11, j1]
    exact rk2
  have r73 : R7 s11 (a + 1 + 1) late := by
    unfold R7 LTE
    rw [ro 7 (by omega) w7]
    exact r72
  refine c_lawLoop hw (a2 := a + 1 + 1) (by omega) (401 - (a + 1 + 1)) (a + 1 + 1) 0 s11 0 true 0 0 [] [] [] [] [] (by have := r72.1; omega) r72.1 (by omega) rk3 r73 ⟨⟨?_, ?_, trivial, ?_⟩, ?_, ?_, ?_, ?_, ?_, fun z => absurd z (by decide)⟩ LAi_0 y (fun ξ e dx fx hx => herr ξ e (((d.fw.tr d2.fw).tr fw).tr dx) fx hx) (fun ξ a3 V dx rx r7x lc ov lt hx => hok ξ a3 V (((d.fw.tr d2.fw).tr fw).tr dx) rx r7x lc ov (by omega) hx)
  · rw [r11, e1, sR_at, if_pos ⟨rfl, rfl⟩]
  · rw [g8 1]
    rfl
  · refine ⟨by show (0 : Nat) ≤ 401; decide, ?_, fun j hj => absurd hj (by show ¬ j < 0; omega)⟩
    rw [e11, sI_row, sA_off2 _ _ w8.symm, e10, sI_row, sA_off2 _ _ w8.symm, e9, sI_row, sA_off2 _ _ w8.symm, e8, sI_row, sA_off2 _ _ w8.symm, e7, sI_row, sA_off2 _ _ w8.symm, e6, sI_row, sA_off2 _ _ w8.symm, e5, sI_row, sA_off2 _ _ w8.symm, e3, sI_at, if_pos ⟨rfl, rfl⟩]
    rfl
  · rw [g8 3]
    rfl
  · rw [g8 4]
    rfl
  · rw [g8 5]
    rfl
  · rw [g8 7]
    rfl
  · rw [g8 8]
    rfl
end P4
