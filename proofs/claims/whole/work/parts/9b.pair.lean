/-! both side by side: the same answer, and the same state behind it -/
theorem XS.cm {σ τ : SS} {T : List Nat} {f : Int32} {P : PV} {L : LV} {H : List LV} {O : Nat → Option LV} {D : List (Nat × Nat × Nat)} (h : XS σ T f P L H O D) (d : Cm σ τ) : XS τ T f P L H O D := by
  obtain ⟨p, a1, a2, a3, a4, a5, a6, a7, a8⟩ := h
  have o2 := isP_or a2.1.2.1.1
  refine ⟨p, ?_, a2.rg (fun b b1 b2 => d.1 b (by omega)) (by rw [d.2.2]), a3.rg (fun b b1 b2 => d.1 b (by omega)), ?_, a5.rg (fun b b1 b2 => d.1 b (by omega)) (fun b b1 b2 => by rw [d.2.2]), ?_, ?_, a8.rg (fun b b1 b2 => d.1 b (by omega)) (d.2.1 260 (by omega)) (by rw [d.2.2])⟩
  · unfold XQ
    rw [d.2.2]
    exact a1
  · unfold XT
    rw [d.1 1 (by omega), d.1 2 (by omega)]
    exact a4
  · unfold XTo
    rw [d.1 219 (by omega), d.1 220 (by omega), d.1 221 (by omega), d.1 222 (by omega)]
    exact a6
  · rw [d.1 0 (by omega)]
    exact a7
theorem MG.rg {σ τ : SS} {v : Nat} {P : PV} (h : MG σ v P) (h18 : τ.1 284 18 = σ.1 284 18) (r : ∀ b, 294 ≤ b → b ≤ 317 → τ.1 b = σ.1 b) : MG τ v P := by
  refine ⟨?_, h.2.1.cong (fun b b1 b2 => r b (by omega) b2), h.2.2.1.cong (fun b b1 b2 => r b (by omega) b2), h.2.2.2.cong (fun b b1 b2 => r b (by omega) b2)⟩
  unfold MP
  rw [h18, r 294 (by omega) (by omega), r 295 (by omega) (by omega), r 297 (by omega) (by omega), r 299 (by omega) (by omega), r 304 (by omega) (by omega), r 305 (by omega) (by omega), r 306 (by omega) (by omega), r 307 (by omega) (by omega), r 308 (by omega) (by omega), r 296 (by omega) (by omega), r 298 (by omega) (by omega), r 300 (by omega) (by omega), r 301 (by omega) (by omega), r 302 (by omega) (by omega), r 303 (by omega) (by omega)]
  exact h.1
theorem MS.cl {σ τ : SS} {T : List Nat} {f : Int32} {P : PV} {L : LV} {H : List LV} {O : Nat → Option LV} {D : List (Nat × Nat × Nat)} (h : MS σ T f P L H O D) (d : Cl σ τ) : MS τ T f P L H O D := by
  obtain ⟨v, a1, a2, a3, a4, a5, a6, a7, a8⟩ := h
  have r := d.1 284 (by omega)
  refine ⟨v, a1.rg (by rw [r]) (fun b b1 b2 => d.1 b (by omega)), ?_, ?_, ?_, ?_, ?_, by rw [r]; exact a7, ?_⟩
  · unfold MR
    rw [d.1 321 (by omega)]
    exact a2
  · unfold MT
    rw [r, d.1 285 (by omega)]
    exact a3
  · unfold MH
    rw [r, d.1 325 (by omega)]
    exact a4
  · unfold MO
    rw [d.1 331 (by omega), d.1 332 (by omega)]
    exact a5
  · unfold MD
    rw [r, d.1 326 (by omega), d.1 327 (by omega)]
    exact a6
  · unfold MK
    rw [d.2.1 291 (by omega)]
    exact a8
theorem LW.mo {P : PV} {W W' : Nat} {L : LV} (h : LW P W L) (hw : W ≤ W') : LW P W' L := ⟨h.1, Nat.le_trans h.2 hw⟩
theorem OKS.mo {T : List Nat} {P : PV} {L : LV} {H : List LV} {O : Nat → Option LV} {D : List (Nat × Nat × Nat)} {W W' : Nat} (h : OKS T P L H O D W) (h1 : W ≤ W') (h2 : W' ≤ 40000) : OKS T P L H O D W' := ⟨h2, h.2.1.mo h1, fun M hM => (h.2.2.1 M hM).mo h1, fun s M hM => (h.2.2.2.1 s M hM).mo h1, h.2.2.2.2.1, h.2.2.2.2.2⟩
theorem kp_in {L M : LV} {H : List LV} (h : M ∈ kp L H) : M = L ∨ M ∈ H := by
  have := List.mem_of_mem_take h
  exact List.mem_cons.mp this
theorem lvN_ok {P : PV} (pk : PVok P) : ∀ n (L : LV), LVok P L → L 104 + n < 1000000 → LVok P (lvN P n L) ∧ lvN P n L 104 = L 104 + n
  | 0, L, h, _ => ⟨h, rfl⟩
  | n + 1, L, h, h4 => by
    have w := lvL_wk (P := P) (L := L) pk.2.2.2.1
    have := lvN_ok pk n (lvL P L) (lvL_ok h (by omega) pk.2.2.2.1 pk.2.2.1) (by omega)
    exact ⟨this.1, by show lvN P n (lvL P L) 104 = _; omega⟩
def BS (σ : SS) (T : List Nat) (f : Int32) (P : PV) (L : LV) (H : List LV) (O : Nat → Option LV) (D : List (Nat × Nat × Nat)) (W : Nat) : Prop := XS σ T f P L H O D ∧ MS σ T f P L H O D ∧ OKS T P L H O D W
/-- both hold the same -/
def JS (σ : SS) (W : Nat) : Prop := ∃ T f P L H O D, BS σ T f P L H O D W
theorem XS.pk {σ : SS} {T : List Nat} {f : Int32} {P : PV} {L : LV} {H : List LV} {O : Nat → Option LV} {D : List (Nat × Nat × Nat)} (h : XS σ T f P L H O D) : PVok P := by
  obtain ⟨p, h1, h2, -⟩ := h
  exact h2.1.2.2
section PR
variable {Γ : GE} {l : Launch} {σ : SS} {T : List Nat} {f : Int32} {P : PV} {L : LV} {H : List LV} {O : Nat → Option LV} {D : List (Nat × Nat × Nat)} {W : Nat}
/-- an answer of both -/
def both (Γ : GE) (l : Launch) (N1 N2 : MM) (as : List Value) (σ : SS) (W : Nat) : Prop := C2 Γ l N1 (.ref 0 :: as) σ (Ri fun v σ1 => C2 Γ l N2 (.ref 284 :: as) σ1 (Ri fun w σ2 => v = w ∧ JS σ2 W))
theorem BS.end_ {τ : SS} {W' : Nat} {T' : List Nat} {f' : Int32} {P' : PV} {L' : LV} {H' : List LV} {O' : Nat → Option LV} {D' : List (Nat × Nat × Nat)} (h1 : XS τ T' f' P' L' H' O' D') (h2 : MS τ T' f' P' L' H' O' D') (h3 : OKS T' P' L' H' O' D' W') : JS τ W' := ⟨T', f', P', L', H', O', D', h1, h2, h3⟩
theorem lw_pl {s x y : Int32} (pk : PVok P) (h : LW P W L) (hv : (vSg P s && vPl P x y) = true) : LW P W (cutL P L s.toNatClampNeg x.toNatClampNeg y.toNatClampNeg) := by
  rw [Bool.and_eq_true] at hv
  simp only [vSg, vPl, decide_eq_true_eq] at hv
  have := pk.1
  have := pk.2.1
  have := pk.2.2.1
  obtain ⟨a, b⟩ := cutL_ok (s := s.toNatClampNeg) (x := x.toNatClampNeg) (y := y.toNatClampNeg) h.1 (by omega) (by omega) (by omega)
  exact ⟨a, by rw [b]; exact h.2⟩
theorem vGr_n {x y : Int32} (pk : PVok P) (hv : vGr P x y = true) : grass P x.toNatClampNeg y.toNatClampNeg = true ∧ x.toNatClampNeg < 8 ∧ y.toNatClampNeg < 6 := by
  unfold vGr at hv
  rw [Bool.and_eq_true] at hv
  have h1 := hv.1
  simp only [vC, decide_eq_true_eq] at h1
  have := pk.1
  have := pk.2.1
  exact ⟨hv.2, by omega, by omega⟩
theorem lw_gr {x y : Int32} (pk : PVok P) (h : LW P W L) (hv : vGr P x y = true) : LW P W (upL L (8 * y.toNatClampNeg + x.toNatClampNeg) 0) := by
  obtain ⟨g, hx, hy⟩ := vGr_n pk hv
  obtain ⟨⟨a1, a2, a3, a4⟩, a5⟩ := h
  refine ⟨⟨fun k hk => ?_, fun u v hu hv2 hg => ?_, fun w hw => ?_, ?_⟩, ?_⟩
  · unfold upL
    refine ⟨?_, ?_⟩
    · split
      · omega
      · exact (a1 k hk).1
    · rw [if_neg (by omega)]
      exact (a1 k hk).2
  · unfold upL
    refine ⟨?_, ?_⟩
    · split
      · rfl
      · exact (a2 u v hu hv2 hg).1
    · rw [if_neg (by omega)]
      exact (a2 u v hu hv2 hg).2
  · unfold upL
    rw [if_neg (by omega)]
    exact a3 w hw
  · unfold upL
    rw [if_neg (by omega)]
    exact a4
  · unfold upL
    rw [if_neg (by omega)]
    exact a5

theorem pr_place (hb : BS σ T f P L H O D W) (hW : W + 60 ≤ 40000) : both Γ l mX9_place mX10_place [] σ (W + 60) := by
  obtain ⟨hx, hm, ok⟩ := hb
  have ok2 := ok.mo (W' := W + 60) (by omega) hW
  refine q_place hx (ri ?_)
  have hx1 := hx
  have hm1 := hm
  exact r_place hm1 (ri ⟨rfl, BS.end_ hx1 hm1 ok2⟩)
theorem pr_cell {x y w : Int32} (hb : BS σ T f P L H O D W) (hW : W + 60 ≤ 40000) : both Γ l mX9_cell mX10_cell [.int x, .int y, .int w] σ (W + 60) := by
  obtain ⟨hx, hm, ok⟩ := hb
  have ok2 := ok.mo (W' := W + 60) (by omega) hW
  refine q_cell hx ok (fun S σ1 hS d => ri ?_)
  have hx1 := hx.sc d hS
  have hm1 := hm.cl (d.cl hS.cl)
  exact r_cell hm1 ok (fun σ2 d2 => ri ⟨rfl, BS.end_ (hx1.cm d2.scm) (hm1.sc d2) ok2⟩)
theorem pr_sign {s w : Int32} (hb : BS σ T f P L H O D W) (hW : W + 60 ≤ 40000) : both Γ l mX9_sign mX10_sign [.int s, .int w] σ (W + 60) := by
  obtain ⟨hx, hm, ok⟩ := hb
  have ok2 := ok.mo (W' := W + 60) (by omega) hW
  refine q_sign hx ok (ri ?_)
  have hx1 := hx
  have hm1 := hm
  exact r_sign hm1 ok (ri ⟨rfl, BS.end_ hx1 hm1 ok2⟩)
theorem pr_window {v w : Int32} (hb : BS σ T f P L H O D W) (hW : W + 60 ≤ 40000) : both Γ l mX9_window mX10_window [.int v, .int w] σ (W + 60) := by
  obtain ⟨hx, hm, ok⟩ := hb
  have ok2 := ok.mo (W' := W + 60) (by omega) hW
  refine q_window hx (ri ?_)
  have hx1 := hx
  have hm1 := hm
  exact r_window hm1 (ri ⟨rfl, BS.end_ hx1 hm1 ok2⟩)
theorem pr_contrast {s x y : Int32} (hb : BS σ T f P L H O D W) (hW : W + 60 ≤ 40000) : both Γ l mX9_contrast mX10_contrast [.int s, .int x, .int y] σ (W + 60) := by
  obtain ⟨hx, hm, ok⟩ := hb
  have ok2 := ok.mo (W' := W + 60) (by omega) hW
  refine q_contrast hx ok (ri ?_)
  have hx1 := hx
  have hm1 := hm
  exact r_contrast hm1 ok (fun σ2 d2 => ri ⟨rfl, BS.end_ (hx1.cm d2.scm) (hm1.sc d2) ok2⟩)
theorem pr_reads {w s i : Int32} (hb : BS σ T f P L H O D W) (hW : W + 60 ≤ 40000) : both Γ l mX9_reads mX10_reads [.int w, .int s, .int i] σ (W + 60) := by
  obtain ⟨hx, hm, ok⟩ := hb
  have ok2 := ok.mo (W' := W + 60) (by omega) hW
  refine q_reads hx ok (ri ?_)
  have hx1 := hx
  have hm1 := hm
  exact r_reads hm1 ok (fun σ2 d2 => ri ⟨rfl, BS.end_ (hx1.cm d2.scm) (hm1.sc d2) ok2⟩)
theorem pr_best {s w : Int32} (hb : BS σ T f P L H O D W) (hW : W + 60 ≤ 40000) : both Γ l mX9_best mX10_best [.int s, .int w] σ (W + 60) := by
  obtain ⟨hx, hm, ok⟩ := hb
  have ok2 := ok.mo (W' := W + 60) (by omega) hW
  refine q_best hx ok (ri ?_)
  have hx1 := hx
  have hm1 := hm
  exact r_best hm1 ok (fun σ2 d2 => ri ⟨rfl, BS.end_ (hx1.cm d2.scm) (hm1.sc d2) ok2⟩)
theorem pr_gone {s x y : Int32} (hb : BS σ T f P L H O D W) (hW : W + 60 ≤ 40000) : both Γ l mX9_gone mX10_gone [.int s, .int x, .int y] σ (W + 60) := by
  obtain ⟨hx, hm, ok⟩ := hb
  have ok2 := ok.mo (W' := W + 60) (by omega) hW
  refine q_gone hx ok (fun σ1 d => ri ?_)
  have hS : scr sc0 := fun b hb => by simp [sc0] at hb; omega
  have hx1 := hx.sc d hS
  have hm1 := hm.cl (d.cl hS.cl)
  exact r_gone hm1 ok (fun σ2 d2 => ri ⟨rfl, BS.end_ (hx1.cm d2.scm) (hm1.sc d2) ok2⟩)
theorem pr_when {s x y d e : Int32} (hb : BS σ T f P L H O D W) (hW : W + 60 ≤ 40000) : both Γ l mX9_when mX10_when [.int s, .int x, .int y, .int d, .int e] σ (W + 60) := by
  obtain ⟨hx, hm, ok⟩ := hb
  have ok2 := ok.mo (W' := W + 60) (by omega) hW
  refine q_when hx ok (fun σ1 d => ri ?_)
  have hS : scr sc0 := fun b hb => by simp [sc0] at hb; omega
  have hx1 := hx.sc d hS
  have hm1 := hm.cl (d.cl hS.cl)
  exact r_when hm1 ok (fun σ2 d2 => ri ⟨rfl, BS.end_ (hx1.cm d2.scm) (hm1.sc d2) ok2⟩)
theorem pr_cuts {w s x y : Int32} (hb : BS σ T f P L H O D W) (hW : W + 60 ≤ 40000) : both Γ l mX9_cuts mX10_cuts [.int w, .int s, .int x, .int y] σ (W + 60) := by
  obtain ⟨hx, hm, ok⟩ := hb
  have ok2 := ok.mo (W' := W + 60) (by omega) hW
  refine q_cuts hx ok (ri ?_)
  have hx1 := hx
  have hm1 := hm
  exact r_cuts hm1 ok (fun σ2 d2 => ri ⟨rfl, BS.end_ (hx1.cm d2.scm) (hm1.sc d2) ok2⟩)
theorem pr_care {s x y : Int32} (hb : BS σ T f P L H O D W) (hW : W + 60 ≤ 40000) : both Γ l mX9_care mX10_care [.int s, .int x, .int y] σ (W + 60) := by
  obtain ⟨hx, hm, ok⟩ := hb
  have ok2 := ok.mo (W' := W + 60) (by omega) hW
  refine q_care hx ok (fun σ1 d => ri ?_)
  have hS : scr sc0 := fun b hb => by simp [sc0] at hb; omega
  have hx1 := hx.sc d hS
  have hm1 := hm.cl (d.cl hS.cl)
  exact r_care hm1 ok (fun σ2 d2 => ri ⟨rfl, BS.end_ (hx1.cm d2.scm) (hm1.sc d2) ok2⟩)
theorem pr_level (hb : BS σ T f P L H O D W) (hW : W + 60 ≤ 40000) : both Γ l mX9_level mX10_level [] σ (W + 60) := by
  obtain ⟨hx, hm, ok⟩ := hb
  have ok2 := ok.mo (W' := W + 60) (by omega) hW
  refine q_level hx ok (fun σ1 d => ri ?_)
  have hS : scr sc0 := fun b hb => by simp [sc0] at hb; omega
  have hx1 := hx.sc d hS
  have hm1 := hm.cl (d.cl hS.cl)
  exact r_level hm1 ok (fun σ2 d2 => ri ⟨rfl, BS.end_ (hx1.cm d2.scm) (hm1.sc d2) ok2⟩)
theorem pr_quiet (hb : BS σ T f P L H O D W) (hW : W + 60 ≤ 40000) : both Γ l mX9_quiet mX10_quiet [] σ (W + 60) := by
  obtain ⟨hx, hm, ok⟩ := hb
  have ok2 := ok.mo (W' := W + 60) (by omega) hW
  refine q_quiet hx ok (fun σ1 d => ri ?_)
  have hS : scr sc0 := fun b hb => by simp [sc0] at hb; omega
  have hx1 := hx.sc d hS
  have hm1 := hm.cl (d.cl hS.cl)
  exact r_quiet hm1 ok (fun σ2 d2 => ri ⟨rfl, BS.end_ (hx1.cm d2.scm) (hm1.sc d2) ok2⟩)
theorem pr_knows {w s : Int32} (hb : BS σ T f P L H O D W) (hW : W + 60 ≤ 40000) : both Γ l mX9_knows mX10_knows [.int w, .int s] σ (W + 60) := by
  obtain ⟨hx, hm, ok⟩ := hb
  have ok2 := ok.mo (W' := W + 60) (by omega) hW
  refine q_knows hx ok (fun σ1 d => ri ?_)
  have hS : scr sc0 := fun b hb => by simp [sc0] at hb; omega
  have hx1 := hx.sc d hS
  have hm1 := hm.cl (d.cl hS.cl)
  exact r_knows hm1 ok (fun σ2 d2 => ri ⟨rfl, BS.end_ (hx1.cm d2.scm) (hm1.sc d2) ok2⟩)
theorem pr_then {x y n : Int32} (hb : BS σ T f P L H O D W) (hW : W + 60 ≤ 40000) : both Γ l mX9_then mX10_then [.int x, .int y, .int n] σ (W + 60) := by
  obtain ⟨hx, hm, ok⟩ := hb
  have ok2 := ok.mo (W' := W + 60) (by omega) hW
  refine q_then hx ok (fun σ1 d => ri ?_)
  have hS : scr sc0 := fun b hb => by simp [sc0] at hb; omega
  have hx1 := hx.sc d hS
  have hm1 := hm.cl (d.cl hS.cl)
  exact r_then hm1 ok (fun σ2 d2 => ri ⟨rfl, BS.end_ (hx1.cm d2.scm) (hm1.sc d2) ok2⟩)
theorem pr_all {n w h : Int32} (hb : BS σ T f P L H O D W) (hW : W + 60 ≤ 40000) : both Γ l mX9_all mX10_all [.int n, .int w, .int h] σ (W + 60) := by
  obtain ⟨hx, hm, ok⟩ := hb
  have ok2 := ok.mo (W' := W + 60) (by omega) hW
  refine q_all hx ok (fun σ1 d => ri ?_)
  have hS : scr sc0 := fun b hb => by simp [sc0] at hb; omega
  have hx1 := hx.sc d hS
  have hm1 := hm.cl (d.cl hS.cl)
  exact r_all hm1 ok (fun σ2 d2 => ri ⟨rfl, BS.end_ (hx1.cm d2.scm) (hm1.sc d2) ok2⟩)
theorem pr_year {w s n k : Int32} (hb : BS σ T f P L H O D W) (hW : W + 60 ≤ 40000) : both Γ l mX9_year mX10_year [.int w, .int s, .int n, .int k] σ (W + 60) := by
  obtain ⟨hx, hm, ok⟩ := hb
  have ok2 := ok.mo (W' := W + 60) (by omega) hW
  refine q_year hx ok (fun σ1 d => ri ?_)
  have hS : scr sc0 := fun b hb => by simp [sc0] at hb; omega
  have hx1 := hx.sc d hS
  have hm1 := hm.cl (d.cl hS.cl)
  exact r_year hm1 ok (fun σ2 d2 => ri ⟨rfl, BS.end_ (hx1.cm d2.scm) (hm1.sc d2) ok2⟩)
theorem pr_blades {k : Int32} (hb : BS σ T f P L H O D W) (hW : W + 60 ≤ 40000) : both Γ l mX9_blades mX10_blades [.int k] σ (W + 60) := by
  obtain ⟨hx, hm, ok⟩ := hb
  have ok2 := ok.mo (W' := W + 60) (by omega) hW
  refine q_blades hx ok (fun σ1 d hx1 => ri ?_)
  have hm1 := hm.cl d
  exact r_blades hm1 ok (fun σ2 d2 => ri ⟨rfl, BS.end_ (hx1.cm d2.scm) (hm1.sc d2) ok2⟩)
theorem pr_sure {k w : Int32} (hb : BS σ T f P L H O D W) (hW : W + 60 ≤ 40000) : both Γ l mX9_sure mX10_sure [.int k, .int w] σ (W + 60) := by
  obtain ⟨hx, hm, ok⟩ := hb
  have ok2 := ok.mo (W' := W + 60) (by omega) hW
  refine q_sure hx ok (fun σ1 d hx1 => ri ?_)
  have hm1 := hm.cl d
  exact r_sure hm1 ok (fun σ2 d2 => ri ⟨rfl, BS.end_ (hx1.cm d2.scm) (hm1.sc d2) ok2⟩)
theorem pr_ask {k : Int32} (hb : BS σ T f P L H O D W) (hW : W + 60 ≤ 40000) : both Γ l mX9_ask mX10_ask [.int k] σ (W + 60) := by
  obtain ⟨hx, hm, ok⟩ := hb
  have ok2 := ok.mo (W' := W + 60) (by omega) hW
  refine q_ask hx ok (fun σ1 d hx1 => ri ?_)
  have hm1 := hm.cl d
  exact r_ask hm1 ok (fun σ2 d2 => ri ⟨rfl, BS.end_ (hx1.cm d2.scm) (hm1.sc d2) ok2⟩)
theorem pr_count {w : Int32} (hb : BS σ T f P L H O D W) (hW : W + 60 ≤ 40000) : both Γ l mX9_count mX10_count [.int w] σ (W + 60) := by
  obtain ⟨hx, hm, ok⟩ := hb
  have ok2 := ok.mo (W' := W + 60) (by omega) hW
  refine q_count hx (ri ?_)
  have hx1 := hx
  have hm1 := hm
  exact r_count hm1 (fun σ2 d2 => ri ⟨rfl, BS.end_ (hx1.cm d2.scm) (hm1.sc d2) ok2⟩)
theorem pr_feed {a b c d e : Int32} (hb : BS σ T f P L H O D W) (hW : W + 60 ≤ 40000) : both Γ l mX9_feed mX10_feed [.int a, .int b, .int c, .int d, .int e] σ (W + 60) := by
  obtain ⟨hx, hm, ok⟩ := hb
  have pk := hx.pk
  have ok2 := ok.mo (W' := W + 60) (by omega) hW
  refine q_feed hx (fun σ1 d1 hx1 => ri ?_)
  refine r_feed (hm.cl d1) (fun σ2 d2 hm2 => ri ⟨rfl, BS.end_ (hx1.cm d2) hm2 ?_⟩)
  refine ⟨ok2.1, ok2.2.1, ok2.2.2.1, ok2.2.2.2.1, ok2.2.2.2.2.1, fun x hx => ?_⟩
  split at hx
  · rcases List.mem_append.mp hx with z | z
    · exact ok2.2.2.2.2.2 x z
    · simp only [fed, by4, List.cons_append, List.nil_append, List.mem_cons, List.not_mem_nil, or_false, byt] at z
      omega
  · exact ok2.2.2.2.2.2 x hx
theorem pr_back {n : Int32} (hb : BS σ T f P L H O D W) (hW : W + 60 ≤ 40000) : both Γ l mX9_back mX10_back [.int n] σ (W + 60) := by
  obtain ⟨hx, hm, ok⟩ := hb
  have pk := hx.pk
  have ok2 := ok.mo (W' := W + 60) (by omega) hW
  refine q_back hx (fun σ1 d1 hx1 => ri ?_)
  refine r_back (hm.cl d1) (fun σ2 d2 hm2 => ri ⟨rfl, BS.end_ (hx1.cm d2) hm2 ?_⟩)
  refine ⟨ok2.1, ok2.2.1, ok2.2.2.1, ok2.2.2.2.1, ok2.2.2.2.2.1, fun x hx => ?_⟩
  split at hx
  · exact ok2.2.2.2.2.2 x (List.mem_of_mem_take hx)
  · exact ok2.2.2.2.2.2 x hx
theorem pr_cut {s x y : Int32} (hb : BS σ T f P L H O D W) (hW : W + 60 ≤ 40000) : both Γ l mX9_cut mX10_cut [.int s, .int x, .int y] σ (W + 60) := by
  obtain ⟨hx, hm, ok⟩ := hb
  have pk := hx.pk
  have ok2 := ok.mo (W' := W + 60) (by omega) hW
  refine q_cut hx ok (fun σ1 d1 hx1 => ri ?_)
  refine r_cut (hm.cl d1) ok (fun σ2 d2 hm2 => ri ⟨rfl, BS.end_ (hx1.cm d2) hm2 ?_⟩)
  by_cases c : (vSg P s && vPl P x y) = true
  · rw [if_pos c, if_pos c]
    refine ⟨ok2.1, lw_pl pk ok2.2.1 c, fun M hM => ?_, ok2.2.2.2.1, ok2.2.2.2.2.1, ok2.2.2.2.2.2⟩
    rcases kp_in hM with z | z
    · rw [z]
      exact ok2.2.1
    · exact ok2.2.2.1 M z
  · rw [if_neg c, if_neg c]
    exact ok2
theorem pr_graze {x y : Int32} (hb : BS σ T f P L H O D W) (hW : W + 60 ≤ 40000) : both Γ l mX9_graze mX10_graze [.int x, .int y] σ (W + 60) := by
  obtain ⟨hx, hm, ok⟩ := hb
  have pk := hx.pk
  have ok2 := ok.mo (W' := W + 60) (by omega) hW
  refine q_graze hx (fun σ1 d1 hx1 => ri ?_)
  refine r_graze (hm.cl d1) (fun σ2 d2 hm2 => ri ⟨rfl, BS.end_ (hx1.cm d2) hm2 ?_⟩)
  by_cases c : vGr P x y = true
  · rw [if_pos c, if_pos c]
    refine ⟨ok2.1, lw_gr pk ok2.2.1 c, fun M hM => ?_, ok2.2.2.2.1, ok2.2.2.2.2.1, ok2.2.2.2.2.2⟩
    rcases kp_in hM with z | z
    · rw [z]
      exact ok2.2.1
    · exact ok2.2.2.1 M z
  · rw [if_neg c, if_neg c]
    exact ok2
theorem pr_nourish {x y : Int32} (hb : BS σ T f P L H O D W) (hW : W + 60 ≤ 40000) : both Γ l mX9_nourish mX10_nourish [.int x, .int y] σ (W + 60) := by
  obtain ⟨hx, hm, ok⟩ := hb
  have pk := hx.pk
  have ok2 := ok.mo (W' := W + 60) (by omega) hW
  refine q_nourish hx ok (fun σ1 d1 hx1 => ri ?_)
  refine r_nourish (hm.cl d1) ok (fun σ2 d2 hm2 => ri ⟨rfl, BS.end_ (hx1.cm d2) hm2 ?_⟩)
  by_cases c : vGr P x y = true
  · rw [if_pos c, if_pos c]
    refine ⟨ok2.1, (by obtain ⟨g, gx, gy⟩ := vGr_n pk c; obtain ⟨z1, z2⟩ := fdL_ok ok2.2.1.1 g gx gy; exact ⟨z1, by rw [z2]; exact ok2.2.1.2⟩), fun M hM => ?_, ok2.2.2.2.1, ok2.2.2.2.2.1, ok2.2.2.2.2.2⟩
    rcases kp_in hM with z | z
    · rw [z]
      exact ok2.2.1
    · exact ok2.2.2.1 M z
  · rw [if_neg c, if_neg c]
    exact ok2
theorem pr_mow {t : Int32} (hb : BS σ T f P L H O D W) (hW : W + 60 ≤ 40000) : both Γ l mX9_mow mX10_mow [.int t] σ (W + 60) := by
  obtain ⟨hx, hm, ok⟩ := hb
  have pk := hx.pk
  have ok2 := ok.mo (W' := W + 60) (by omega) hW
  refine q_mow hx ok (fun σ1 d1 hx1 => ri ?_)
  refine r_mow (hm.cl d1) ok (fun σ2 d2 hm2 => ri ⟨rfl, BS.end_ (hx1.cm d2) hm2 ?_⟩)
  by_cases c : vIn t 99 = true
  · rw [if_pos c, if_pos c]
    refine ⟨ok2.1, ⟨mwL_ok ok2.2.1.1, ok2.2.1.2⟩, fun M hM => ?_, ok2.2.2.2.1, ok2.2.2.2.2.1, ok2.2.2.2.2.2⟩
    rcases kp_in hM with z | z
    · rw [z]
      exact ok2.2.1
    · exact ok2.2.2.1 M z
  · rw [if_neg c, if_neg c]
    exact ok2
theorem pr_weeks {n : Int32} (hb : BS σ T f P L H O D W) (hW : W + 60 ≤ 40000) : both Γ l mX9_weeks mX10_weeks [.int n] σ (W + 60) := by
  obtain ⟨hx, hm, ok⟩ := hb
  have pk := hx.pk
  have ok2 := ok.mo (W' := W + 60) (by omega) hW
  refine q_weeks hx ok (fun σ1 d1 hx1 => ri ?_)
  refine r_weeks (hm.cl d1) ok (fun σ2 d2 hm2 => ri ⟨rfl, BS.end_ (hx1.cm d2) hm2 ?_⟩)
  have w4 := ok.2.1.2
  by_cases c : vIn n 60 = true
  · obtain ⟨k, hk1, hk2⟩ := vIn_nat c
    have hl : LW P (W + 60) (lvN P n.toNatClampNeg L) := by
      obtain ⟨z1, z2⟩ := lvN_ok pk n.toNatClampNeg L ok.2.1.1 (by rw [hk1, nI_clamp (by omega)]; omega)
      refine ⟨z1, ?_⟩
      rw [z2, hk1, nI_clamp (by omega)]
      omega
    rw [if_pos c]
    refine ⟨ok2.1, hl, fun M hM => ?_, ok2.2.2.2.1, ok2.2.2.2.2.1, ok2.2.2.2.2.2⟩
    split at hM
    · rcases kp_in hM with z | z
      · rw [z]
        exact ok2.2.1
      · exact ok2.2.2.1 M z
    · exact ok2.2.2.1 M hM
  · rw [if_neg c, if_neg (fun z => c (by rw [Bool.and_eq_true] at z; exact z.1))]
    exact ok2
theorem pr_undo (hb : BS σ T f P L H O D W) (hW : W + 60 ≤ 40000) : both Γ l mX9_undo mX10_undo [] σ (W + 60) := by
  obtain ⟨hx, hm, ok⟩ := hb
  have pk := hx.pk
  have ok2 := ok.mo (W' := W + 60) (by omega) hW
  refine q_undo hx (fun σ1 d1 hx1 => ri ?_)
  refine r_undo (hm.cl d1) (fun σ2 d2 hm2 => ri ⟨rfl, BS.end_ (hx1.cm d2) hm2 ?_⟩)
  cases H with
  | nil => exact ok2
  | cons M H => exact ⟨ok2.1, ok2.2.2.1 M List.mem_cons_self, fun N hN => ok2.2.2.1 N (List.mem_cons_of_mem _ hN), ok2.2.2.2.1, ok2.2.2.2.2.1, ok2.2.2.2.2.2⟩
theorem pr_tell {x y h : Int32} (hb : BS σ T f P L H O D W) (hW : W + 60 ≤ 40000) : both Γ l mX9_tell mX10_tell [.int x, .int y, .int h] σ (W + 60) := by
  obtain ⟨hx, hm, ok⟩ := hb
  have pk := hx.pk
  have ok2 := ok.mo (W' := W + 60) (by omega) hW
  refine q_tell hx (fun σ1 d1 hx1 => ri ?_)
  refine r_tell (hm.cl d1) (fun σ2 d2 hm2 => ri ⟨rfl, BS.end_ (hx1.cm d2) hm2 ?_⟩)
  refine ⟨ok2.1, ok2.2.1, ok2.2.2.1, ok2.2.2.2.1, fun d hd => ?_, ok2.2.2.2.2.2⟩
  by_cases c : vTl P D x y h = true
  · rw [if_pos c] at hd
    rcases List.mem_append.mp hd with z | z
    · exact ok2.2.2.2.2.1 d z
    · rw [List.mem_singleton] at z
      subst z
      unfold vTl at c
      rw [Bool.and_eq_true, Bool.and_eq_true] at c
      obtain ⟨⟨c1, c2⟩, c3⟩ := c
      simp only [vC, vIn, decide_eq_true_eq] at c1 c2
      exact ⟨by show x.toNatClampNeg < _; omega, by show y.toNatClampNeg < _; omega, by show h.toNatClampNeg ≤ _; omega⟩
  · rw [if_neg c] at hd
    exact ok2.2.2.2.2.1 d hd
theorem pr_forget (hb : BS σ T f P L H O D W) (hW : W + 60 ≤ 40000) : both Γ l mX9_forget mX10_forget [] σ (W + 60) := by
  obtain ⟨hx, hm, ok⟩ := hb
  have pk := hx.pk
  have ok2 := ok.mo (W' := W + 60) (by omega) hW
  refine q_forget hx (fun σ1 d1 hx1 => ri ?_)
  refine r_forget (hm.cl d1) (fun σ2 d2 hm2 => ri ⟨rfl, BS.end_ (hx1.cm d2) hm2 ?_⟩)
  exact ⟨ok2.1, ok2.2.1, ok2.2.2.1, ok2.2.2.2.1, fun d hd => absurd hd (by simp), ok2.2.2.2.2.2⟩
theorem pr_hold {s : Int32} (hb : BS σ T f P L H O D W) (hW : W + 60 ≤ 40000) : both Γ l mX9_hold mX10_hold [.int s] σ (W + 60) := by
  obtain ⟨hx, hm, ok⟩ := hb
  have pk := hx.pk
  have ok2 := ok.mo (W' := W + 60) (by omega) hW
  refine q_hold hx (fun σ1 d1 hx1 => ri ?_)
  refine r_hold (hm.cl d1) (fun σ2 d2 hm2 => ri ⟨rfl, BS.end_ (hx1.cm d2) hm2 ?_⟩)
  refine ⟨ok2.1, ok2.2.1, ok2.2.2.1, fun k M hM => ?_, ok2.2.2.2.2.1, ok2.2.2.2.2.2⟩
  split at hM
  · unfold putO at hM
    split at hM
    · injection hM with hM
      rw [← hM]
      exact ok2.2.1
    · exact ok2.2.2.2.1 k M hM
  · exact ok2.2.2.2.1 k M hM
theorem pr_restore {s : Int32} (hb : BS σ T f P L H O D W) (hW : W + 60 ≤ 40000) : both Γ l mX9_restore mX10_restore [.int s] σ (W + 60) := by
  obtain ⟨hx, hm, ok⟩ := hb
  have pk := hx.pk
  have ok2 := ok.mo (W' := W + 60) (by omega) hW
  refine q_restore hx (fun σ1 d1 hx1 => ri ?_)
  refine r_restore (hm.cl d1) (fun σ2 d2 hm2 => ri ⟨rfl, BS.end_ (hx1.cm d2) hm2 ?_⟩)
  by_cases c : canR O s = true
  · rw [if_pos c, if_pos c]
    refine ⟨ok2.1, ?_, fun M hM => absurd hM (by simp), ok2.2.2.2.1, ok2.2.2.2.2.1, ok2.2.2.2.2.2⟩
    cases ho : O s.toNatClampNeg with
    | none => exact ok2.2.1
    | some M => exact ok2.2.2.2.1 _ M ho
  · rw [if_neg c, if_neg c]
    exact ok2
theorem pr_read (hb : BS σ T f P L H O D W) (hW : W + 60 ≤ 40000) : both Γ l mX9_read mX10_read [] σ (W + 60) := by
  obtain ⟨hx, hm, ok⟩ := hb
  have ok2 := ok.mo (W' := W + 60) (by omega) hW
  refine q_read hx ok (fun σ1 d1 a1 b1 => ri ?_)
  refine r_read (hm.cl d1) ok.2.2.2.2.2 (fun σ2 d2 a2 b2 => ri ⟨rfl, ?_⟩)
  by_cases c : raF T = none
  · have hx2 := (b1 c).cm d2
    have g := begL_ok hx2.pk
    exact BS.end_ hx2 (b2 c) ⟨ok2.1, ⟨g.1, by rw [g.2]; omega⟩, fun M hM => absurd hM (by simp), fun s M hM => absurd hM (by simp), fun d hd => absurd hd (by simp), fun x hx => absurd hx (by simp)⟩
  · exact BS.end_ ((a1 c).cm d2) (a2 c) ⟨ok2.1, ok2.2.1, ok2.2.2.1, ok2.2.2.2.1, ok2.2.2.2.2.1, fun x hx => absurd hx (by simp)⟩
end PR
