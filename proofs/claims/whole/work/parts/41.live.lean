/-! a week with what the windows learn -/
theorem nI_or (a b : Nat) : nI a ||| nI b = nI (a ||| b) := by
  apply Int32.toBitVec_inj.1
  show BitVec.ofNat 32 a ||| BitVec.ofNat 32 b = BitVec.ofNat 32 (a ||| b)
  apply BitVec.eq_of_getLsbD_eq
  intro i hi
  simp [hi]
theorem one_shl : ∀ s, s < 4 → (1 : Int32) <<< (nI s &&& 31) = nI (2 ^ s) := by decide
theorem bit16 : ∀ m, m < 16 → ∀ s, s < 4 → (nI m >>> (nI s &&& 31)) &&& 1 = nI (m / 2 ^ s % 2) := by decide
theorem or16 : ∀ a, a < 16 → ∀ b, b < 16 → a ||| b < 16 := by decide
theorem or_set : ∀ m, m < 16 → ∀ s, s < 4 → m / 2 ^ s % 2 = 1 → m ||| 2 ^ s = m := by decide
def talkS (P : PV) (w o : Nat) : Bool := decide (ptk P w / 2 ^ o % 2 = 1)
/-- what the partners knew; what is read -/
def tkM (P : PV) (L : LV) (w : Nat) : Nat → Nat
  | 0 => 0
  | o + 1 => if talkS P w o then tkM P L w o ||| L (100 + o) else tkM P L w o
def rdM (P : PV) (L : LV) (w : Nat) : Nat → Nat
  | 0 => 0
  | s + 1 => if rdA P L w s then rdM P L w s ||| 2 ^ s else rdM P L w s
theorem tkM_lt {P : PV} {L : LV} (ok : LVok P L) (w : Nat) : ∀ o, o ≤ 4 → tkM P L w o < 16
  | 0, _ => Nat.zero_lt_succ _
  | o + 1, h => by
    have h1 := tkM_lt ok w o (by omega)
    unfold tkM
    split
    · exact or16 _ h1 _ (ok.2.2.1 o (by omega))
    · exact h1
theorem rdM_lt {P : PV} {L : LV} (w : Nat) : ∀ s, s ≤ 4 → rdM P L w s < 16
  | 0, _ => Nat.zero_lt_succ _
  | s + 1, h => by
    have h1 := rdM_lt (P := P) (L := L) w s (by omega)
    unfold rdM
    split
    · exact or16 _ h1 _ ((by decide : ∀ s, s < 4 → 2 ^ s < 16) s (by omega))
    · exact h1
theorem lstS_cong (P : PV) {L M : LV} {s x y : Nat} (hx : x + 2 < 8) (hy : y + 2 < 6) (h : ∀ k, k < 48 → L k = M k) : ∀ k, k ≤ 9 → lstS P L s x y k = lstS P M s x y k
  | 0, _ => rfl
  | k + 1, hk => by
    unfold lstS
    rw [lstS_cong P hx hy h k (by omega), h (c9 x y k) (by unfold c9; omega)]
theorem mstS_cong (P : PV) {L M : LV} {s x y : Nat} (hx : x + 2 < 8) (hy : y + 2 < 6) (h : ∀ k, k < 48 → L k = M k) : ∀ k, k ≤ 9 → mstS P L s x y k = mstS P M s x y k
  | 0, _ => rfl
  | k + 1, hk => by
    unfold mstS
    rw [mstS_cong P hx hy h k (by omega), h (c9 x y k) (by unfold c9; omega)]
theorem stdS_cong (P : PV) {L M : LV} {s x y : Nat} (hx : x + 2 < 8) (hy : y + 2 < 6) (h : ∀ k, k < 48 → L k = M k) : stdS P L s x y = stdS P M s x y := by
  unfold stdS
  rw [lstS_cong P hx hy h 9 (by omega), mstS_cong P hx hy h 9 (by omega)]
theorem plcs_in {P : PV} (ok : PVok P) {q : Nat × Nat} (h : q ∈ plcs P) : q.1 < pw P - 2 ∧ q.2 < pr P - 2 := by
  unfold plcs remL rowL at h
  simp only [List.mem_flatMap, List.mem_map, List.mem_range'_1] at h
  obtain ⟨y, hy, x, hx, rfl⟩ := h
  simp
  omega
theorem clls_in {P : PV} {q : Nat × Nat} (h : q ∈ clls P) : q.1 < pw P ∧ q.2 < pr P := by
  unfold clls remL rowL at h
  simp only [List.mem_flatMap, List.mem_map, List.mem_range'_1] at h
  obtain ⟨y, hy, x, hx, rfl⟩ := h
  simp
  omega
theorem any_cong {α : Type} {f g : α → Bool} : ∀ (l : List α), (∀ a, a ∈ l → f a = g a) → l.any f = l.any g
  | [], _ => rfl
  | a :: l, h => by
    rw [List.any_cons, List.any_cons, h a List.mem_cons_self, any_cong l (fun b hb => h b (List.mem_cons_of_mem _ hb))]
theorem rdA_cong {P : PV} (ok : PVok P) {L M : LV} {w s : Nat} (h : ∀ k, k < 48 → L k = M k) : rdA P L w s = rdA P M w s := by
  have w8 := ok.1
  have r6 := ok.2.1
  refine any_cong _ (fun q hq => ?_)
  have := plcs_in ok hq
  unfold rdS
  rw [stdS_cong P (by omega) (by omega) h]
/-- the lawn a week later -/
def lvL (P : PV) (L : LV) : LV := fun k => if 100 ≤ k ∧ k < 100 + pnw P then (L k ||| tkM P L (k - 100) (pnw P)) ||| rdM P (gwL P L (wetS P (nI (psd P)) (nI (L 104)))) (k - 100) (pns P) else gwL P L (wetS P (nI (psd P)) (nI (L 104))) k
section G7
variable {Γ : GE} {l : Launch} {σ : SS} {K : Option Value → SS → Prop} {p a : Nat} {P : PV} {L : LV}
theorem c_talk {w o : Nat} (h : XP σ p P) (ok : PVok P) (hw : w < 4) (ho : o < 4) (hK : K (some (.int (bI (talkS P w o)))) σ) : C2 Γ l mX6_talk [.ref p, .int (nI w), .int (nI o)] σ K := by
  refine tX6_talk h.1 ⟨vp_in_nI hw (by decide), ?_⟩
  rw [nI_clamp (by omega), h.2.2.2.2.2.2.2.2.2.2.2.2.2 w hw, bit16 _ (ok.2.2.2.2.2.2.2.2.2.2.1 w hw) o ho]
  have e : nI (ptk P w / 2 ^ o % 2) = 1 ↔ ptk P w / 2 ^ o % 2 = 1 := by
    rw [show (1 : Int32) = nI 1 from rfl, nI_eq (by omega) (by omega)]
  rw [e]
  unfold talkS at hK
  grind [bI]
theorem XL_setk {w v : Nat} (hl : XL σ a L) (hw : w < 4) : XL (sI σ (a + 3) w (nI v)) a (upL L (100 + w) v) := by
  refine ⟨hl.1, fun i hi => ?_, fun i hi => ?_, fun j hj => ?_, fun s hs => ?_, ?_, ?_⟩
  · rw [sI_row, sA_off2 _ _ (by omega), hl.2.1 i hi]
    congr 1
    unfold cH
    by_cases hb : inb i = true
    · simp only [hb, if_true, upL]
      simp only [inb, decide_eq_true_eq] at hb
      rw [if_neg (by unfold kOf; omega)]
    · simp [hb]
  · rw [sI_row, sA_off2 _ _ (by omega), hl.2.2.1 i hi]
    congr 1
    unfold cF
    by_cases hb : inb i = true
    · simp only [hb, if_true, upL]
      simp only [inb, decide_eq_true_eq] at hb
      rw [if_neg (by unfold kOf; omega)]
    · simp [hb]
  · rw [sI_at]
    unfold upL
    by_cases he : j = w
    · rw [if_pos ⟨rfl, he⟩, if_pos (by omega)]
    · rw [if_neg (fun z => he z.2), if_neg (by omega)]
      exact hl.2.2.2.1 j hj
  · rw [sI_row, sA_off2 _ _ (by omega), hl.2.2.2.2.1 s hs]
    unfold upL
    rw [if_neg (by omega)]
  · rw [sI_row, sA_off2 _ _ (by omega), hl.2.2.2.2.2.1]
    unfold upL
    rw [if_neg (by omega)]
  · rw [sI_row, sA_off2 _ _ (by omega), hl.2.2.2.2.2.2]
    unfold upL
    rw [if_neg (by omega)]
def lvS (p a : Nat) : List Nat := [47, 48, p + 11, a + 1, a + 2, a, 49, a + 3]
theorem lvS_off {p a : Nat} (hp : isP p) (ha : isL a) : offP (lvS p a) := fun b hb => by
  have := isP_or hp
  have := isL_ge ha
  simp [lvS] at hb
  omega
/-- the windows up to w have learned; w has value v -/
def lvW (P : PV) (L : LV) (w v : Nat) : LV := fun k => if k = 100 + w then v else if 100 ≤ k ∧ k < 100 + w then lvL P L k else gwL P L (wetS P (nI (psd P)) (nI (L 104))) k
theorem lvW_h {w v k : Nat} (h : k < 48) : lvW P L w v k = gwL P L (wetS P (nI (psd P)) (nI (L 104))) k := by
  unfold lvW
  rw [if_neg (by omega), if_neg (by omega)]
theorem lvW_up {w v u : Nat} : upL (lvW P L w v) (100 + w) u = lvW P L w u := by
  funext k
  unfold upL lvW
  by_cases h : k = 100 + w
  · rw [if_pos h, if_pos h]
  · rw [if_neg h, if_neg h, if_neg h]
theorem lvW_ok {w v : Nat} (ok : LVok P L) (h4 : L 104 + 1 < 1000000) (hw : w < 4) (hn : pnw P ≤ 4) (hs : pns P ≤ 4) (hv : v < 16) : LVok P (lvW P L w v) := by
  have g := gwL_ok (wet := wetS P (nI (psd P)) (nI (L 104))) ok h4
  refine ⟨fun k hk => ⟨?_, ?_⟩, fun x y hx hy hgr => ⟨?_, ?_⟩, fun j hj => ?_, ?_⟩
  · rw [lvW_h hk]; exact (g.1 k hk).1
  · unfold lvW; rw [if_neg (by omega), if_neg (by omega)]; exact (g.1 k hk).2
  · rw [lvW_h (by omega)]; exact (g.2.1 x y hx hy hgr).1
  · unfold lvW; rw [if_neg (by omega), if_neg (by omega)]; exact (g.2.1 x y hx hy hgr).2
  · unfold lvW
    split
    · exact hv
    · split
      · unfold lvL
        split
        · exact or16 _ (or16 _ (ok.2.2.1 j hj) _ (tkM_lt ok _ _ hn)) _ (rdM_lt _ _ hs)
        · exact g.2.2.1 j hj
      · exact g.2.2.1 j hj
  · unfold lvW; rw [if_neg (by omega), if_neg (by omega)]; exact g.2.2.2
theorem gwL_k {wet : Int32} {j : Nat} : gwL P L wet (100 + j) = if 100 + j = 104 then L 104 + 1 else L (100 + j) := by
  unfold gwL
  rw [if_neg (by omega), if_neg (by omega)]
def lvE (P : PV) (L : LV) (w : Nat) : LV := fun k => if 100 ≤ k ∧ k < 100 + w then lvL P L k else gwL P L (wetS P (nI (psd P)) (nI (L 104))) k
theorem lvE_0 {w : Nat} (hw : w < 4) : lvE P L w = lvW P L w (L (100 + w)) := by
  funext k
  unfold lvE lvW
  by_cases h1 : k = 100 + w
  · rw [if_pos h1, if_neg (by omega), h1, gwL_k, if_neg (by omega)]
  · rw [if_neg h1]
theorem lvE_1 {w : Nat} (hw : w < pnw P) : lvW P L w ((L (100 + w) ||| tkM P L w (pnw P)) ||| rdM P (gwL P L (wetS P (nI (psd P)) (nI (L 104)))) w (pns P)) = lvE P L (w + 1) := by
  funext k
  unfold lvE lvW
  by_cases h1 : k = 100 + w
  · rw [if_pos h1, if_pos (by omega)]
    unfold lvL
    rw [if_pos (by omega), h1, show 100 + w - 100 = w by omega]
  · rw [if_neg h1]
    by_cases h3 : 100 ≤ k ∧ k < 100 + w
    · rw [if_pos h3, if_pos (by omega)]
    · rw [if_neg h3, if_neg (by omega)]
theorem lvE_2 : lvE P L (pnw P) = lvL P L := by
  funext k
  unfold lvE
  by_cases h3 : 100 ≤ k ∧ k < 100 + pnw P
  · rw [if_pos h3]
  · rw [if_neg h3]
    unfold lvL
    rw [if_neg h3]
theorem lvL_ok (ok : LVok P L) (h4 : L 104 + 1 < 1000000) (hn : pnw P ≤ 4) (hs : pns P ≤ 4) : LVok P (lvL P L) := by
  have g := gwL_ok (wet := wetS P (nI (psd P)) (nI (L 104))) ok h4
  refine ⟨fun k hk => ⟨?_, ?_⟩, fun x y hx hy hgr => ⟨?_, ?_⟩, fun j hj => ?_, ?_⟩
  · unfold lvL; rw [if_neg (by omega)]; exact (g.1 k hk).1
  · unfold lvL; rw [if_neg (by omega)]; exact (g.1 k hk).2
  · unfold lvL; rw [if_neg (by omega)]; exact (g.2.1 x y hx hy hgr).1
  · unfold lvL; rw [if_neg (by omega)]; exact (g.2.1 x y hx hy hgr).2
  · unfold lvL
    split
    · exact or16 _ (or16 _ (ok.2.2.1 j hj) _ (tkM_lt ok _ _ hn)) _ (rdM_lt _ _ hs)
    · exact g.2.2.1 j hj
  · unfold lvL; rw [if_neg (by omega)]; exact g.2.2.2
theorem lvL_wk (hn : pnw P ≤ 4) : lvL P L 104 = L 104 + 1 := by
  unfold lvL
  rw [if_neg (by omega)]
  rfl
theorem c_live_s {w : Nat} (hg : XGL σ p P) (ha : isL a) (ok : LVok P L) (h4 : L 104 + 1 < 1000000) (hw : w < pnw P) (kk : ∀ τ, Df (lvS p a) σ τ → (∀ j, j < 4 → τ.1 49 j = nI (L (100 + j))) → XL τ a (lvW P L w ((L (100 + w) ||| tkM P L w (pnw P)) ||| rdM P (gwL P L (wetS P (nI (psd P)) (nI (L 104)))) w (pns P))) → wX1_live_28 Γ l a (nI (w + 1)) τ K) :
    ∀ n s τ, n + s = pns P → Df (lvS p a) σ τ → (∀ j, j < 4 → τ.1 49 j = nI (L (100 + j))) → XL τ a (lvW P L w ((L (100 + w) ||| tkM P L w (pnw P)) ||| rdM P (gwL P L (wetS P (nI (psd P)) (nI (L 104)))) w s)) → wX1_live_87 Γ l a (nI w) (nI s) τ K := by
  have hn := hg.1.2.2.2.2.2.1
  have hs4 := hg.1.2.2.2.2.1
  have hge := isL_ge ha
  intro n
  induction n with
  | zero =>
    intro s τ h1 d h49 hl
    have hgt := hg.df d (lvS_off hg.1.2.1.1 ha)
    have : s = pns P := by omega
    subst this
    refine tX1_live_87 ha ⟨p, hgt.1.1, hgt.1.2.1.1, fun _ => by rw [nI_1]; exact kk τ d h49 hl, fun q => absurd ?_ q⟩
    rw [hgt.1.2.1.2.2.2.1]
    simp (disch := omega) only [nL, nI_add, pk_mul, pk_sub, nI_clamp, nI_leI, nI_ltI, nI_eq]
    omega
  | succ n ih =>
    intro s τ h1 d h49 hl
    have hgt := hg.df d (lvS_off hg.1.2.1.1 ha)
    have v : vp_in (nI w) 4 := vp_in_nI (by omega) (by omega)
    have hm : (L (100 + w) ||| tkM P L w (pnw P)) ||| rdM P (gwL P L (wetS P (nI (psd P)) (nI (L 104)))) w s < 16 := or16 _ (or16 _ (ok.2.2.1 w (by omega)) _ (tkM_lt ok w _ hn)) _ (rdM_lt _ _ (by omega))
    have okw := lvW_ok (P := P) ok h4 (show w < 4 by omega) hn hs4 hm
    have hk := hl.2.2.2.1 w (by omega)
    rw [show lvW P L w _ (100 + w) = ((L (100 + w) ||| tkM P L w (pnw P)) ||| rdM P (gwL P L (wetS P (nI (psd P)) (nI (L 104)))) w s) from if_pos rfl] at hk
    refine tX1_live_87 ha ⟨p, hgt.1.1, hgt.1.2.1.1, fun q => absurd q ?_, fun _ => ⟨v, ?_⟩⟩
    · rw [hgt.1.2.1.2.2.2.1]
      simp (disch := omega) only [nL, nI_add, pk_mul, pk_sub, nI_clamp, nI_leI, nI_ltI, nI_eq]
      omega
    · rw [nI_clamp (by omega), hk, bit16 _ hm s (by omega), nI_1]
      have ec : rdA P (lvW P L w ((L (100 + w) ||| tkM P L w (pnw P)) ||| rdM P (gwL P L (wetS P (nI (psd P)) (nI (L 104)))) w s)) w s = rdA P (gwL P L (wetS P (nI (psd P)) (nI (L 104)))) w s := rdA_cong hg.1.2.2 (fun k hk => lvW_h hk)
      refine ⟨fun q => ih (s + 1) τ (by omega) d h49 ?_, fun q => c_readsAnywhere hgt.1 hl okw hw (by omega) (ri ?_)⟩
      · have hb : ((L (100 + w) ||| tkM P L w (pnw P)) ||| rdM P (gwL P L (wetS P (nI (psd P)) (nI (L 104)))) w s) / 2 ^ s % 2 = 1 := by
          have : ¬ ((L (100 + w) ||| tkM P L w (pnw P)) ||| rdM P (gwL P L (wetS P (nI (psd P)) (nI (L 104)))) w s) / 2 ^ s % 2 = 0 := fun z => q (by rw [z]; rfl)
          omega
        have e : ((L (100 + w) ||| tkM P L w (pnw P)) ||| rdM P (gwL P L (wetS P (nI (psd P)) (nI (L 104)))) w (s + 1)) = ((L (100 + w) ||| tkM P L w (pnw P)) ||| rdM P (gwL P L (wetS P (nI (psd P)) (nI (L 104)))) w s) := by
          rw [rdM]
          split
          · rw [← Nat.or_assoc]
            exact or_set _ hm s (by omega) hb
          · rfl
        rw [e]
        exact hl
      · rw [bI_0, ec]
        refine ⟨fun z => ih (s + 1) τ (by omega) d h49 ?_, fun z => ⟨v, v, fun s4 e4 => ?_⟩⟩
        · rw [rdM, z]
          exact hl
        · simp only [Bool.not_eq_false] at z
          rw [hk, one_shl s (by omega), nI_or, Nat.or_assoc] at e4
          refine ih (s + 1) s4 (by omega) (by rw [e4]; exact d.wI (by simp [lvS])) (fun j hj => ?_) ?_
          · rw [e4, sI_row, sA_off2 _ _ (by omega)]
            exact h49 j hj
          · rw [rdM, z, e4, if_pos rfl, ← lvW_up (v := (L (100 + w) ||| tkM P L w (pnw P)) ||| rdM P (gwL P L (wetS P (nI (psd P)) (nI (L 104)))) w s)]
            exact XL_setk hl (by omega)
theorem c_live_o {w : Nat} (hg : XGL σ p P) (ha : isL a) (ok : LVok P L) (h4 : L 104 + 1 < 1000000) (hw : w < pnw P) (kk : ∀ τ, Df (lvS p a) σ τ → (∀ j, j < 4 → τ.1 49 j = nI (L (100 + j))) → XL τ a (lvE P L (w + 1)) → wX1_live_28 Γ l a (nI (w + 1)) τ K) :
    ∀ n o τ, n + o = pnw P → Df (lvS p a) σ τ → (∀ j, j < 4 → τ.1 49 j = nI (L (100 + j))) → XL τ a (lvW P L w (L (100 + w) ||| tkM P L w o)) → wX1_live_41 Γ l a (nI w) (nI o) τ K := by
  have hn := hg.1.2.2.2.2.2.1
  have hs4 := hg.1.2.2.2.2.1
  have hge := isL_ge ha
  intro n
  induction n with
  | zero =>
    intro o τ h1 d h49 hl
    have hgt := hg.df d (lvS_off hg.1.2.1.1 ha)
    have : o = pnw P := by omega
    subst this
    refine tX1_live_41 ha ⟨p, hgt.1.1, hgt.1.2.1.1, fun _ => ?_, fun q => absurd ?_ q⟩
    · refine c_live_s hg ha ok h4 hw (fun τ2 d2 h492 hl2 => kk τ2 d2 h492 (by rw [← lvE_1 hw]; exact hl2)) (pns P) 0 τ (by omega) d h49 ?_
      rw [rdM, Nat.or_zero]
      exact hl
    · rw [hgt.1.2.1.2.2.2.2.1]
      simp (disch := omega) only [nL, nI_add, pk_mul, pk_sub, nI_clamp, nI_leI, nI_ltI, nI_eq]
      omega
  | succ n ih =>
    intro o τ h1 d h49 hl
    have hgt := hg.df d (lvS_off hg.1.2.1.1 ha)
    have v : vp_in (nI w) 4 := vp_in_nI (by omega) (by omega)
    have hk := hl.2.2.2.1 w (by omega)
    rw [show lvW P L w _ (100 + w) = (L (100 + w) ||| tkM P L w o) from if_pos rfl] at hk
    refine tX1_live_41 ha ⟨p, hgt.1.1, hgt.1.2.1.1, fun q => absurd q ?_, fun _ => ⟨p, hgt.1.1, hgt.1.2.1.1, c_talk hgt.1.2.1 hgt.1.2.2 (by omega) (by omega) (ri ?_)⟩⟩
    · rw [hgt.1.2.1.2.2.2.2.1]
      simp (disch := omega) only [nL, nI_add, pk_mul, pk_sub, nI_clamp, nI_leI, nI_ltI, nI_eq]
      omega
    · rw [bI_0, nI_1]
      refine ⟨fun z => ih (o + 1) τ (by omega) d h49 ?_, fun z => ⟨v, vp_in_nI (by omega) (by omega), v, fun s5 e5 => ?_⟩⟩
      · rw [tkM, z]
        exact hl
      · simp only [Bool.not_eq_false] at z
        rw [nI_clamp (by omega), nI_clamp (by omega), hk, h49 o (by omega), nI_or, Nat.or_assoc] at e5
        refine ih (o + 1) s5 (by omega) (by rw [e5]; exact d.wI (by simp [lvS])) (fun j hj => ?_) ?_
        · rw [e5, sI_row, sA_off2 _ _ (by omega)]
          exact h49 j hj
        · rw [tkM, z, e5, if_pos rfl, ← lvW_up (v := L (100 + w) ||| tkM P L w o)]
          exact XL_setk hl (by omega)
theorem c_live_w (hg : XGL σ p P) (ha : isL a) (ok : LVok P L) (h4 : L 104 + 1 < 1000000) (hK : ∀ υ, Df (lvS p a) σ υ → XL υ a (lvL P L) → K none υ) :
    ∀ n w τ, n + w = pnw P → Df (lvS p a) σ τ → (∀ j, j < 4 → τ.1 49 j = nI (L (100 + j))) → XL τ a (lvE P L w) → wX1_live_28 Γ l a (nI w) τ K := by
  have hn := hg.1.2.2.2.2.2.1
  intro n
  induction n with
  | zero =>
    intro w τ h1 d h49 hl
    have hgt := hg.df d (lvS_off hg.1.2.1.1 ha)
    have : w = pnw P := by omega
    subst this
    refine tX1_live_28 ha ⟨p, hgt.1.1, hgt.1.2.1.1, fun _ => hK τ d (by rw [← lvE_2]; exact hl), fun q => absurd ?_ q⟩
    rw [hgt.1.2.1.2.2.2.2.1]
    simp (disch := omega) only [nL, nI_add, pk_mul, pk_sub, nI_clamp, nI_leI, nI_ltI, nI_eq]
    omega
  | succ n ih =>
    intro w τ h1 d h49 hl
    have hgt := hg.df d (lvS_off hg.1.2.1.1 ha)
    refine tX1_live_28 ha ⟨p, hgt.1.1, hgt.1.2.1.1, fun q => absurd q ?_, fun _ => ?_⟩
    · rw [hgt.1.2.1.2.2.2.2.1]
      simp (disch := omega) only [nL, nI_add, pk_mul, pk_sub, nI_clamp, nI_leI, nI_ltI, nI_eq]
      omega
    · refine c_live_o hg ha ok h4 (by omega) (fun τ2 d2 h492 hl2 => ih (w + 1) τ2 (by omega) d2 h492 hl2) (pnw P) 0 τ (by omega) d h49 ?_
      rw [tkM, Nat.or_zero, ← lvE_0 (by omega)]
      exact hl
theorem c_live (hg : XGL σ p P) (hl : XL σ a L) (ok : LVok P L) (h4 : L 104 + 1 < 1000000) (hK : ∀ υ, Df (lvS p a) σ υ → XL υ a (lvL P L) → K none υ) : C2 Γ l mX1_live [.ref 46, .ref a] σ K := by
  have hge := isL_ge hl.1
  have hp := isP_or hg.1.2.1.1
  refine tX1_live hl.1 ⟨p, hg.1.1, hg.1.2.1.1, ?_⟩
  rw [hg.1.2.1.2.2.2.2.2.2.2.2.2.1]
  refine c_growWeek hg hl ok (fun τ d hl2 => rv (fun s4 e4 => ?_))
  have d4 : Df (lvS p a) σ s4 := by rw [e4]; exact (d.mo (by simp [wkS, lvS])).wA (by simp [lvS])
  have hl4 : XL s4 a (lvE P L 0) := by
    have : XL s4 a (gwL P L (wetS P (nI (psd P)) (nI (L 104)))) := hl2.df (S := [49]) (by rw [e4]; exact Df.rf.wA (by simp)) (by simp; omega) (by simp; omega) (by simp; omega) (by simp; omega) (by simp; omega)
    have e : lvE P L 0 = gwL P L (wetS P (nI (psd P)) (nI (L 104))) := by
      funext k
      unfold lvE
      rw [if_neg (by omega)]
    rw [e]
    exact this
  refine c_live_w hg hl.1 ok h4 hK (pnw P) 0 s4 (by omega) d4 (fun j hj => ?_) hl4
  rw [e4, sA_row, pk_cpy_in (by omega) (by omega)]
  have := hl2.2.2.2.1 j hj
  rw [gwL_k, if_neg (by omega)] at this
  simpa using this
end G7
