/-! the class: read, the whole -/
def raF (T : List Nat) : LF := match parse T with
  | .error e => some e
  | .ok q => q.1
def raP (T : List Nat) : PV := match parse T with
  | .error _ => plnP
  | .ok q => q.2
def raI (T : List Nat) : Int32 := match raF T with
  | none => 0
  | some e => nI e.1
def raW (T : List Nat) : Int32 := match raF T with
  | none => -1
  | some e => nI e.2
theorem lwS_m {b : Nat} (h : b ∈ lwS 269) : 269 ≤ b ∧ b ≤ 273 := by
  simp [lwS] at h
  omega
section P9
variable {Γ : GE} {l : Launch} {σ τ : SS} {K : Option Value → SS → Prop} {T : List Nat} {p p0 a : Nat} {late : LF} {P : PV} {N : Nms}
theorem c_beginAnew {nx : Nat} (h8 : σ.2.2 0 8 = p0) (h9 : σ.2.2 0 9 = p) (hp0 : isP p0) (hne : p ≠ p0) (hx : XPb σ p P N) (hi : PI none P N) (hb : (∀ i, i < 31 → σ.2.2 228 i = 229 + i) ∧ XZ σ) (h51 : ∀ i, i < 30 → σ.2.2 51 i = 54 + 5 * i) (h52 : ∀ i, i < 3 → σ.2.2 52 i = 204 + 5 * i) (hn : nx < 30) (h53 : σ.1 50 3 = nI nx) (h1 : σ.1 1 1 = 0)
    (hK : ∀ τ, Cl σ τ → τ.1 7 4 = σ.1 7 4 → XS τ [] (σ.1 0 10) P (begL P) [] (fun _ => none) [] → K none τ) : C2 Γ l mX9_beginAnew [.ref 0] σ K := by
  have hp := hx.1
  have hpn := isP_n hp
  have pk := (hi.2.2.2.2.2.2.2.2.2.2 rfl).1
  refine tX9_beginAnew ⟨p0, h8, hp0, p, h9, hp, fun s3 e3 s4 e4 => ⟨p, by rw [e4, sR_at, if_neg (by omega), e3, sR_at, if_pos ⟨rfl, rfl⟩], hp, fun s6 e6 => ⟨p, by rw [e6, sR_at, if_neg (by omega), e4, sR_at, if_neg (by omega), e3, sR_at, if_pos ⟨rfl, rfl⟩], hp, ?_⟩⟩⟩
  have i6 : s6.1 = σ.1 := by rw [e6, e4, e3]; rfl
  have j6 : s6.2.1 = σ.2.1 := by rw [e6, e4, e3]; rfl
  have r6 : ∀ b, b ≠ 0 → b ≠ 46 → s6.2.2 b = σ.2.2 b := fun b b0 b46 => by
    funext j
    rw [e6, sR_at, if_neg (fun z => b46 z.1), e4, sR_at, if_neg (fun z => b0 z.1), e3, sR_at, if_neg (fun z => b0 z.1)]
  have xp6 : XP s6 p P := by
    have := hx.xp hi
    unfold XP at this ⊢
    rw [i6]
    exact this
  have hg6 : XGL s6 p P := by
    obtain ⟨a1, a2, a3, a4, a5, a6, a7, a8, a9, a10, a11⟩ := hx
    refine ⟨⟨by rw [e6, sR_at, if_pos ⟨rfl, rfl⟩], xp6, pk⟩, ?_, ?_, ?_⟩
    · unfold XW at a9 ⊢
      rw [i6]
      exact a9
    · unfold XW at a10 ⊢
      rw [i6]
      exact a10
    · unfold XW at a11 ⊢
      rw [i6]
      exact a11
  refine c_begin xp6 pk isL_269 (fun s8 d8 l8 => rv (c_pastClear (fun s10 d10 f4 f3 fs => rv (tX0_clear (fun s1 e1 s2 e2 => ?_)))))
  have d2 : Df [219] s10 s2 := by
    rw [e2, e1]
    exact (Df.rf.wI (by simp)).wI (by simp)
  have hg2 : XGL s2 p P := ((hg6.df d8 (fun b hb => by have := lwS_m hb; omega)).df d10 (fun b hb => by simp at hb; omega)).df d2 (fun b hb => by simp at hb; omega)
  have rr2 : s2.2 = s6.2 := by rw [d2.2, d10.2, d8.2]
  have ro2 : ∀ b, b ≠ 50 → b ≠ 53 → b ≠ 219 → (b < 269 ∨ 273 < b) → s2.1 b = σ.1 b := fun b b1 b2 b3 b4 => by
    rw [d2.1 b (by simp; omega), d10.1 b (by simp; omega), d8.1 b (fun z => by have := lwS_m z; omega), i6]
  have hz2 : XZ s2 := by
    have := hb.2
    unfold XZ at this ⊢
    rw [ro2 265 (by omega) (by omega) (by omega) (by omega), ro2 266 (by omega) (by omega) (by omega) (by omega), ro2 267 (by omega) (by omega) (by omega) (by omega), ro2 263 (by omega) (by omega) (by omega) (by omega)]
    exact this
  refine c_beginBare (bw := 0) hg2 ⟨by rw [rr2, r6 228 (by omega) (by omega)]; exact hb.1, hz2⟩ (fun τ dt hbw => rv (rv ?_))
  have rt : τ.2 = s6.2 := by rw [dt.2, rr2]
  have rot : ∀ b, b ≠ 47 → b ≠ 48 → b ≠ p + 11 → (b < 223 ∨ 227 < b) → (b < 229 ∨ 259 < b) → τ.1 b = s2.1 b := fun b b1 b2 b3 b4 b5 => dt.1 b (fun z => by rw [mem_brS] at z; omega)
  refine hK τ ⟨fun b hb => ?_, fun b hb => ?_, fun b hb => ?_⟩ ?_ ⟨p, ?_, hg2.df dt (brS_off hp), ?_, ⟨by decide, ?_, fun i hi => absurd hi (by show ¬ i < 0; omega)⟩, ⟨?_, ?_, ⟨nx, hn, ?_, by decide, ?_, fun j hj => absurd hj (by show ¬ j < 0; omega)⟩, fun s hs => ⟨?_, fun M hM => absurd hM (by simp)⟩⟩, ⟨by decide, ?_, fun i hi => absurd hi (by show ¬ i < 0; omega)⟩, ?_, ⟨⟨hbw.1, hbw.2.1, 0, by omega, hbw.2.2.2.1, hbw.2.2.2.2⟩, Or.inl ?_⟩⟩
  · rw [rot b (by omega) (by omega) (by omega) (by omega) (by omega), ro2 b (by omega) (by omega) (by omega) (by omega)]
  · rw [rt, j6]
  · rw [rt, r6 b (by omega) (by omega)]
  · rw [rot 7 (by omega) (by omega) (by omega) (by omega) (by omega), ro2 7 (by omega) (by omega) (by omega) (by omega)]
  · refine ⟨?_, p0, ?_, hp0, fun z => hne z.symm⟩
    · rw [rt, e6, sR_at, if_neg (by omega), e4, sR_at, if_neg (by omega), e3, sR_at, if_pos ⟨rfl, rfl⟩]
    · rw [rt, e6, sR_at, if_neg (by omega), e4, sR_at, if_pos ⟨rfl, rfl⟩]
  · refine l8.rg (fun b b1 b2 => ?_)
    rw [rot b (by omega) (by omega) (by omega) (by omega) (by omega), d2.1 b (by simp; omega), d10.1 b (by simp; omega)]
  · rw [rot 1 (by omega) (by omega) (by omega) (by omega) (by omega), ro2 1 (by omega) (by omega) (by omega) (by omega)]
    exact h1
  · rw [rt, r6 51 (by omega) (by omega)]
    exact h51
  · rw [rt, r6 52 (by omega) (by omega)]
    exact h52
  · rw [rot 50 (by omega) (by omega) (by omega) (by omega) (by omega), d2.1 50 (by simp), f3, d8.1 50 (fun z => by have := lwS_m z; omega), i6]
    exact h53
  · rw [rot 50 (by omega) (by omega) (by omega) (by omega) (by omega), d2.1 50 (by simp), f4]
    rfl
  · rw [rot 53 (by omega) (by omega) (by omega) (by omega) (by omega), d2.1 53 (by simp), fs s hs]
    rfl
  · rw [rot 219 (by omega) (by omega) (by omega) (by omega) (by omega), e2, sI_at, if_neg (by omega), e1, sI_at, if_pos ⟨rfl, rfl⟩]
    rfl
  · rw [rot 0 (by omega) (by omega) (by omega) (by omega) (by omega), ro2 0 (by omega) (by omega) (by omega) (by omega)]
  · rw [rot 219 (by omega) (by omega) (by omega) (by omega) (by omega), e2, sI_at, if_pos ⟨rfl, rfl⟩]
def raE (Γ : GE) (l : Launch) (K : Option Value → SS → Prop) (τ : SS) : Prop := C2 Γ l mX7_end [.ref 7] τ (Rv fun s1_ => (∀ s3_ : SS, s3_ = sI s1_ 0 10 (s1_.1 7 5) → (∀ s4_ : SS, s4_ = sI s3_ 1 1 0 → ((¬ (s4_.1 7 4) = 0 → (K (some (.int (s4_.1 7 4))) s4_)) ∧ ((s4_.1 7 4) = 0 → (C2 Γ l mX9_beginAnew [.ref 0] s4_ (Rv fun s5_ => (K (some (.int (s5_.1 7 4))) s5_))))))))
theorem c_readLoop {R : Rs (LF × PV)} : ∀ n a t (σ : SS) late P N, n + t = 401 → t ≤ a → RD σ p T a late P N → PI late P N → pAll T n a late P N = R →
    (∀ τ e, FR p σ τ → FX τ e → R = .error e → raE Γ l K τ) → (∀ τ a' late' P' N', FR p σ τ → RD τ p T a' late' P' N' → PI late' P' N' → R = .ok (late', P') → raE Γ l K τ) → wX9_read_20 Γ l (nI t) σ K := by
  intro n
  induction n with
  | zero =>
    intro a t σ late P N h1 h2 h
    have := h.2.1.1
    omega
  | succ n ih =>
    intro a t σ late P N h1 h2 h hi hR herr hok
    have h4 := h.2.1.1
    obtain ⟨k1, k2, k3, k4⟩ := h.1.2.1 a (by omega) h.1.2.2
    have kz : nI (ckK (tkK T a)) = 0 ↔ tkK T a = 0 := ck_e (c := 0) (by omega) T a
    refine tX9_read_20 ⟨fun q => absurd q ?_, fun _ => tX7_goesOn ⟨fun q => absurd h.2.1.2.2.1 q, fun _ => ⟨by rw [h.2.1.2.1]; exact vp_in_nI (by omega) (by omega), ?_⟩⟩⟩
    · rw [show (400 : Int32) < nI t ↔ 400 < t from nI_ltI (a := 400) (by omega) (by omega)]
      omega
    rw [h.2.1.2.1, nI_clamp (by omega), k1, kz]
    rw [pAll] at hR
    refine ⟨fun q => ri ⟨fun _ => ?_, fun z => absurd rfl z⟩, fun q => ri ⟨fun z => absurd z (by decide), fun _ => ?_⟩⟩
    · rw [if_pos q] at hR
      exact hok σ a late P N FR.rf h hi hR.symm
    · rw [if_neg q] at hR
      rw [nI_1]
      refine c_takeTell h hi q hR (fun τ e f g z => rv ?_) (fun τ a' late' P' N' f g i j z => rv ?_)
      · have ee := herr τ e f g z
        exact tX9_read_20 ⟨fun _ => ee, fun _ => tX7_goesOn ⟨fun _ => ri ⟨fun _ => ee, fun y => absurd rfl y⟩, fun y => absurd y g.n0⟩⟩
      · exact ih a' (t + 1) τ late' P' N' (by omega) (by omega) g i z (fun υ e d f z => herr υ e (FR.tr ‹_› d) f z) (fun υ a2 l2 P2 N2 d g2 i2 z => hok υ a2 l2 P2 N2 (FR.tr ‹_› d) g2 i2 z)
theorem q_read {f : Int32} {L : LV} {H : List LV} {O : Nat → Option LV} {D : List (Nat × Nat × Nat)} {W : Nat} (h : XS σ T f P L H O D) (ok : OKS T P L H O D W)
    (hK : ∀ τ, Cl σ τ → (raF T ≠ none → XS τ [] (raW T) P L H O D) → (raF T = none → XS τ [] (raW T) (raP T) (begL (raP T)) [] (fun _ => none) []) → K (some (.int (raI T))) τ) : C2 Γ l mX9_read [.ref 0] σ K := by
  obtain ⟨p0, hh⟩ := h
  obtain ⟨x1, x2, x3, x4, x5, x6, x7, x8⟩ := id hh
  obtain ⟨y1, p, y2, hp, hne⟩ := x1
  have hpn := isP_n hp
  have tb : TB T := ok.2.2.2.2.2
  refine tX9_read (c_findAll x4 tb (fun s1 d1 k1 => rv ⟨p, by rw [d1.2.2.2]; exact y2, hp, ?_⟩))
  refine tX7_begin hp (fun t1 e1 => ⟨p, by rw [e1, sR_at, if_pos ⟨rfl, rfl⟩], hp, c_pclear hp (fun t3 d3 hx => rv (fun t5 e5 t6 e6 t7 e7 t8 e8 t9 e9 => rv ?_))⟩)
  have i1 : t1.1 = s1.1 := by rw [e1]; rfl
  have j1 : t1.2.1 = s1.2.1 := by rw [e1]; rfl
  have q9 : t9.2 = t3.2 := by rw [e9, e8, e7, e6, e5]; rfl
  have o9 : ∀ b, b ≠ 7 → t9.1 b = t3.1 b := fun b hb => by rw [e9, sI_row, sA_off2 _ _ hb, e8, sI_row, sA_off2 _ _ hb, e7, sI_row, sA_off2 _ _ hb, e6, sI_row, sA_off2 _ _ hb, e5, sI_row, sA_off2 _ _ hb]
  have v7 : ∀ j, t9.1 7 j = if j = 3 then 0 else if j = 7 then -1 else if j = 6 then 0 else if j = 5 then -1 else if j = 4 then 0 else t3.1 7 j := fun j => by
    rw [e9, sI_at, e8, sI_at, e7, sI_at, e6, sI_at, e5, sI_at]
    simp only [true_and]
  have rk9 : RK t9 T 0 := by
    refine ⟨x4.1, ?_, fun j hj => absurd hj (by omega)⟩
    unfold XK
    rw [o9 3 (by omega), o9 4 (by omega), o9 5 (by omega), q9, (d3.1 3 (by omega)).1, (d3.1 4 (by omega)).1, (d3.1 5 (by omega)).1, (d3.1 6 (by omega)).2, i1, j1]
    exact k1
  have r79 : R7 t9 0 none := ⟨by omega, by rw [v7 3]; rfl, by rw [v7 4]; rfl, by rw [v7 6]; rfl, by rw [v7 7]; rfl⟩
  have rd9 : RD t9 p T 0 none plnP [] := ⟨rk9, r79, by rw [q9, d3.2, e1, sR_at, if_pos ⟨rfl, rfl⟩], hx.cong (fun b b1 b2 => o9 b (by omega)) (fun b b1 b2 => by rw [q9])⟩
  have z9 : FZ p σ t9 := by
    refine ⟨fun b b1 b2 => ⟨?_, ?_⟩, fun b b1 b2 => ?_⟩
    · rw [o9 b (by omega), (d3.1 b b2).1, i1, d1.1 b (by omega) (by omega) (by omega) (by omega)]
    · rw [q9, (d3.1 b b2).2, j1, d1.2.2.1 b (by omega) (by omega)]
    · rw [q9, d3.2, e1]
      funext j
      rw [sR_at, if_neg (fun z => b1 z.1), d1.2.2.2]
  have lo9 : ∀ τ, FR p t9 τ → τ.1 0 = σ.1 0 := fun τ d => by
    rw [(d.1 0 (by omega) (by omega) (by omega) (by omega)).1, o9 0 (by omega), (d3.1 0 (by omega)).1, i1, d1.1 0 (by omega) (by omega) (by omega) (by omega)]
  have cl : ∀ τ, FZ p σ τ → Cl σ τ := fun τ d => ⟨fun b hb => (d.1 b (by omega) (by omega)).1, fun b hb => (d.1 b (by omega) (by omega)).2, fun b hb => d.2 b (by omega) (by omega)⟩
  refine c_readLoop (R := parse T) 401 0 0 t9 none plnP [] (by omega) (by omega) rd9 plnP_ok rfl (fun τ e d fx hR => ?_) (fun τ a' late' P' N' d rd pi hR => ?_)
  · unfold raE
    refine tX7_end ⟨fun _ => rv (fun s3 e3 s4 e4 => ⟨fun _ => ?_, fun z => absurd z ?_⟩), fun z => absurd z fx.n0⟩
    · have g4 : s4.1 7 4 = nI e.1 := by
        rw [e4, sI_at, if_neg (by omega), e3, sI_at, if_neg (by omega)]
        exact fx.2.2.1
      have zz : FZ p σ s4 := by
        refine (z9.tr d.fz).tr ⟨fun b b1 b2 => ⟨?_, by rw [e4, e3]; rfl⟩, fun b b1 b2 => by rw [e4, e3]; rfl⟩
        rw [e4, sI_row, sA_off2 _ _ (by omega), e3, sI_row, sA_off2 _ _ (by omega)]
      have ef : raF T = some e := by unfold raF; rw [hR]
      rw [g4]
      have ei : raI T = nI e.1 := by unfold raI; rw [ef]
      have ew : raW T = nI e.2 := by unfold raW; rw [ef]
      rw [ei] at hK
      refine hK s4 (cl s4 zz) (fun _ => ?_) (fun z => absurd z (by rw [ef]; simp))
      rw [ew]
      refine XS.fz hh hp hne zz ?_ ?_
      · rw [e4, sI_at, if_neg (by omega), e3, sI_at, if_pos ⟨rfl, rfl⟩]
        exact fx.2.2.2
      · rw [e4, sI_at, if_pos ⟨rfl, rfl⟩]
    · rw [e4, sI_at, if_neg (by omega), e3, sI_at, if_neg (by omega)]
      exact fx.n0
  · unfold raE
    have r7 := rd.2.1
    refine tX7_end ⟨fun z => absurd r7.2.2.1 z, fun _ s1 e1 s2 e2 => rv (fun s3 e3 s4 e4 => ?_)⟩
    have g17 : s1.1 7 7 = τ.1 7 7 := by rw [e1, sI_at, if_neg (by omega)]
    have g4 : s4.1 7 4 = τ.1 7 6 := by
      rw [e4, sI_at, if_neg (by omega), e3, sI_at, if_neg (by omega), e2, sI_at, if_neg (by omega), e1, sI_at, if_pos ⟨rfl, rfl⟩]
    have g5 : s4.1 0 10 = τ.1 7 7 := by
      rw [e4, sI_at, if_neg (by omega), e3, sI_at, if_pos ⟨rfl, rfl⟩, e2, sI_at, if_pos ⟨rfl, rfl⟩, g17]
    have g1 : s4.1 1 1 = 0 := by rw [e4, sI_at, if_pos ⟨rfl, rfl⟩]
    have ro : ∀ b, b ≠ 0 → b ≠ 1 → b ≠ 7 → s4.1 b = τ.1 b := fun b b0 b1 b7 => by
      rw [e4, sI_row, sA_off2 _ _ b1, e3, sI_row, sA_off2 _ _ b0, e2, sI_row, sA_off2 _ _ b7, e1, sI_row, sA_off2 _ _ b7]
    have rr : s4.2 = τ.2 := by rw [e4, e3, e2, e1]; rfl
    have zz : FZ p σ s4 := (z9.tr d.fz).tr ⟨fun b b1 b2 => ⟨ro b (by omega) (by omega) (by omega), by rw [rr]⟩, fun b b1 b2 => by rw [rr]⟩
    have ef : raF T = late' := by unfold raF; rw [hR]
    have ep : raP T = P' := by unfold raP; rw [hR]
    rw [g4]
    cases late' with
    | some x =>
      obtain ⟨m, q⟩ := x
      obtain ⟨b1, b2, b3, b4, b5⟩ := r7.2.2.2
      rw [b4]
      refine ⟨fun _ => ?_, fun z => absurd z (nI_ne0 (by omega) (by omega))⟩
      have ei : raI T = nI m := by unfold raI; rw [ef]
      have ew : raW T = nI q := by unfold raW; rw [ef]
      rw [ei] at hK
      refine hK s4 (cl s4 zz) (fun _ => ?_) (fun z => absurd z (by rw [ef]; simp))
      rw [ew]
      exact XS.fz hh hp hne zz (by rw [g5]; exact b5) g1
    | none =>
      obtain ⟨b1, b2⟩ := r7.2.2.2
      rw [b1]
      refine ⟨fun z => absurd rfl z, fun _ => ?_⟩
      have hx4 : XPb s4 p P' N' := rd.2.2.2.cong (fun b c1 c2 => ro b (by omega) (by omega) (by omega)) (fun b c1 c2 => by rw [rr])
      obtain ⟨n1, n2, ⟨nx, m1, m2, m3, m4, m5⟩, n4⟩ := x5
      have o1 := isP_or hp
      have hz4 : XZ s4 := by
        have := x8.1.2.1
        unfold XZ at this ⊢
        rw [(zz.1 265 (by omega) (by omega)).1, (zz.1 266 (by omega) (by omega)).1, (zz.1 267 (by omega) (by omega)).1, (zz.1 263 (by omega) (by omega)).1]
        exact this
      refine c_beginAnew (p0 := p0) (nx := nx) (by rw [zz.2 0 (by omega) (by omega)]; exact y1) (by rw [zz.2 0 (by omega) (by omega)]; exact y2) x2.1.2.1.1 hne hx4 pi ⟨by rw [zz.2 228 (by omega) (by omega)]; exact x8.1.1, hz4⟩ (by rw [zz.2 51 (by omega) (by omega)]; exact n1) (by rw [zz.2 52 (by omega) (by omega)]; exact n2) m1 (by rw [(zz.1 50 (by omega) (by omega)).1]; exact m2) g1 (fun υ cu h74 hxs => rv ?_)
      rw [h74, g4, b1]
      have ei : raI T = 0 := by unfold raI; rw [ef]
      have ew : raW T = -1 := by unfold raW; rw [ef]
      rw [ei] at hK
      refine hK υ ((cl s4 zz).tr cu) (fun z => absurd ef z) (fun _ => ?_)
      rw [ew, ep]
      rw [g5, b2] at hxs
      exact hxs
end P9
