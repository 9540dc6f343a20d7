/-! the model: a law is read, the whole -/
section M28
variable {Γ : GE} {l : Launch} {σ τ : SS} {K : Option Value → SS → Prop} {T : List Nat} {sd c0 a2 : Nat} {late : LF} {ρ : Type} {R : Rs ρ} {kk : Nat → LawV → Rs ρ} {σ0 : SS} {nb nc : Nat}
/-- between two branches -/
def LwI (T : List Nat) (sd a2 nb nc : Nat) (late : LF) (σ0 σ : SS) (a ifs : Nat) (br : LawV) : Prop :=
  FLb sd (130 * sd + nb) (420 * sd + nc) σ0 σ ∧ Lv1 σ T a late ∧ a2 ≤ a ∧ σ.1 284 12 = 0 ∧ σ.1 284 40 = nI (130 * sd + nb + br.length) ∧ σ.1 284 46 = nI (420 * sd + nc + cL br) ∧ MBs σ (130 * sd + nb) (420 * sd + nc) br ∧ LAi (a - a2) 0 true 0 ifs [] [] [] [] br ∧ br.length = ifs
theorem m_lawLoop {x1 : Int32} (hs : sd ≤ 1) (hnb : nb ≤ 100) (hnc : nc ≤ a2)
    (herr : ∀ τ e, FLb sd (130 * sd + nb) (420 * sd + nc) σ0 τ → DEr τ e → R = .error e → K none τ)
    (hok : ∀ τ a br t, FLb sd (130 * sd + nb) (420 * sd + nc) σ0 τ → Lv1 τ T a late → τ.1 284 12 = 0 → τ.1 284 40 = nI (130 * sd + nb + br.length + 1) → τ.1 284 46 = nI (420 * sd + nc + cL br + t.length) → MBs τ (130 * sd + nb) (420 * sd + nc) (br ++ [(none, t)]) → brOk br → okB 15 t 0 1 → br.length ≤ 4 → a2 + brN br + t.length + 1 ≤ a → kk a (br ++ [(none, t)]) = R → ∀ s6_ : SS, s6_ = sI τ 309 (Int32.toNatClampNeg (3 * (τ.1 284 19) + x1)) (nI (130 * sd + nb)) → vp_in ((3 * (s6_.1 284 19)) + x1) 6 ∧ (∀ s7_ : SS, s7_ = sI s6_ 310 (Int32.toNatClampNeg ((3 * (s6_.1 284 19)) + x1)) (s6_.1 284 40) → (K none s7_)))
    (hv : ∀ τ, FLb sd (130 * sd + nb) (420 * sd + nc) σ0 τ → vp_in (3 * (τ.1 284 19) + x1) 6) :
    ∀ m a ifs br σ, m + ifs = 4 → LwI T sd a2 nb nc late σ0 σ a ifs br → pAut T kk (401 - a) a 0 true 0 ifs [] [] [] [] br = R → wX10_tellLaw_12 Γ l x1 (nI (130 * sd + nb)) (nI ifs) σ K := by
  intro m
  induction m with
  | zero =>
    intro a ifs br σ hm hI hR
    obtain ⟨fl, hl, ha2, h12, h40, h46, hmb, hi, hbr⟩ := hI
    have h4 := hl.1.2.2.2.1
    have i4 : ifs = 4 := by omega
    have cle := cL_le br
    have hbrn : brN br ≤ a - a2 := by have := (LAi_b hi).2.2.1; omega
    have hR0 := hR
    rw [show 401 - a = (400 - a) + 1 by omega, pAut] at hR0
    refine tX10_tellLaw_12 ⟨fun q => absurd hl.1.2.2.2.2.2 q, fun _ => m_is (c := 30) (by omega) hl.1 (ri ?_)⟩
    rw [bI_0]
    refine ⟨fun q => ?_, fun q => ?_⟩
    · simp only [decide_eq_false_iff_not] at q
      refine tX10_tellLaw_129 ?_
      rw [h40, nI_clamp (by omega)]
      refine ⟨vp_in_nI (by omega) (by omega), fun s1 es1 => ?_⟩
      have ro : ∀ b, b ≠ 311 → s1.1 b = σ.1 b := fun b hb => by rw [es1, sI_row, sA_off2 _ _ hb]
      have fl1 : FLb sd (130 * sd + nb + br.length) (420 * sd + nc + cL br) σ s1 := by rw [es1]; exact FLb.rf.wb hs (by omega) (by omega) (by omega) (Nat.le_refl _) (by omega)
      have l1 : Lv1 s1 T a late := hl.cg (fun b b1 b2 => ro b (by omega)) (by rw [es1]; rfl) (fun k hk => by rw [ro 284 (by omega)])
      refine m_term (c0 := 420 * sd + nc + cL br) (B := 130 * sd + nb + br.length) hs (by omega) l1 ha2 (by rw [ro 284 (by omega)]; exact h12) (by rw [ro 284 (by omega)]; exact h40) (by omega) (by omega) (by rw [ro 284 (by omega)]; exact h46) hi (fun _ => q) (by show _ ≤ _ + brN br + 0; omega) hR (fun s2 e d f z _ => rv (m_mustD f (rv ⟨fun y => absurd y f.nle, fun _ => herr s2 e (fl.tr ((fl1.tr d).mo (by omega) (by omega))) f z⟩))) (fun s2 a' ws cur d2 r2 hl2 q12 q40 q46 qe q14 q15 qa qi qb qR => rv ?_)
      have p4 : ph4 0 = 4 := rfl
      rw [p4] at qi qR
      have a4' := hl2.1.2.2.2.1
      rw [show 401 - a' = (400 - a') + 1 by omega, aut4 qb] at qR
      obtain ⟨w1, w2, w3⟩ := LAi_end qi
      have lb := (LAi_b qi).2.2.1
      refine m_must (c := 4) rfl (by omega) (by omega) hl2 qR (fun τ e d f z => rv ⟨fun y => absurd y f.nle, fun _ => herr τ e (fl.tr ((fl1.tr (d2.tr d.fl)).mo (by omega) (by omega))) f z⟩) (fun τ d hlt hk4 ha z => rv ⟨fun _ => ?_, fun y => absurd (by rw [hlt.1.2.2.2.2.2]; decide) y⟩)
      have flt : FLb sd (130 * sd + nb) (420 * sd + nc) σ0 τ := fl.tr ((fl1.tr (d2.tr d.fl)).mo (by omega) (by omega))
      have all : FLb sd (130 * sd + nb + br.length) (420 * sd + nc + cL br) σ τ := fl1.tr (d2.tr d.fl)
      have k84 : ∀ k, k ≠ 11 → k ≠ 13 → k ≠ 14 → k ≠ 15 → k ≠ 16 → τ.1 284 k = s2.1 284 k := fun k k1 k2 k3 k4 k5 => d.2.1 k k1 k2 k3 k4 k5
      refine ⟨hv τ flt, hok τ (a' + 1) br (stE 1 ws cur) flt hlt (by rw [k84 12 (by omega) (by omega) (by omega) (by omega) (by omega)]; exact q12) (by rw [k84 40 (by omega) (by omega) (by omega) (by omega) (by omega)]; exact q40) (by rw [k84 46 (by omega) (by omega) (by omega) (by omega) (by omega)]; exact q46) (MBs_snoc br _ _ (MBs.cg br _ _ hmb (fun d j d1 d2 j1 j2 => all.2.2.2.1 d j d1 d2 (by omega)) (fun j j1 j2 => all.2.2.2.2.1 j (by omega))) ⟨?_, ?_, ?_, ?_⟩) qi.2.2.2.2.2.2.2.2.2.1 w2 (by omega) (by omega) z⟩
      · rw [d.1 311 (by omega), r2 311 (by omega) (by omega), es1, sI_at, if_pos ⟨rfl, rfl⟩]
        rfl
      · rw [d.1 314 (by omega)]
        exact q14
      · rw [d.1 315 (by omega)]
        exact q15
      · exact qe.cg (fun j _ _ => by rw [d.1 316 (by omega), d.1 317 (by omega)]; exact ⟨rfl, rfl⟩)
    · simp only [Bool.not_eq_false, decide_eq_true_eq] at q
      rw [if_pos ⟨q, rfl⟩, if_pos i4] at hR0
      subst i4
      refine ⟨fun y => absurd rfl y, fun _ => m_fail (n := 2) hl.1 (Or.inr rfl) (fun τ d f _ => rv (tX10_tellLaw_38 ⟨fun y => absurd y f.nle, fun _ => herr τ _ (fl.tr d.fl) f hR0.symm⟩))⟩
  | succ m ih =>
    intro a ifs br σ hm hI hR
    obtain ⟨fl, hl, ha2, h12, h40, h46, hmb, hi, hbr⟩ := hI
    have h4 := hl.1.2.2.2.1
    have i4 : ifs ≠ 4 := by omega
    have cle := cL_le br
    have hbrn : brN br ≤ a - a2 := by have := (LAi_b hi).2.2.1; omega
    have hR0 := hR
    rw [show 401 - a = (400 - a) + 1 by omega, pAut] at hR0
    refine tX10_tellLaw_12 ⟨fun q => absurd hl.1.2.2.2.2.2 q, fun _ => m_is (c := 30) (by omega) hl.1 (ri ?_)⟩
    rw [bI_0]
    refine ⟨fun q => ?_, fun q => ?_⟩
    · simp only [decide_eq_false_iff_not] at q
      refine tX10_tellLaw_129 ?_
      rw [h40, nI_clamp (by omega)]
      refine ⟨vp_in_nI (by omega) (by omega), fun s1 es1 => ?_⟩
      have ro : ∀ b, b ≠ 311 → s1.1 b = σ.1 b := fun b hb => by rw [es1, sI_row, sA_off2 _ _ hb]
      have fl1 : FLb sd (130 * sd + nb + br.length) (420 * sd + nc + cL br) σ s1 := by rw [es1]; exact FLb.rf.wb hs (by omega) (by omega) (by omega) (Nat.le_refl _) (by omega)
      have l1 : Lv1 s1 T a late := hl.cg (fun b b1 b2 => ro b (by omega)) (by rw [es1]; rfl) (fun k hk => by rw [ro 284 (by omega)])
      refine m_term (c0 := 420 * sd + nc + cL br) (B := 130 * sd + nb + br.length) hs (by omega) l1 ha2 (by rw [ro 284 (by omega)]; exact h12) (by rw [ro 284 (by omega)]; exact h40) (by omega) (by omega) (by rw [ro 284 (by omega)]; exact h46) hi (fun _ => q) (by show _ ≤ _ + brN br + 0; omega) hR (fun s2 e d f z _ => rv (m_mustD f (rv ⟨fun y => absurd y f.nle, fun _ => herr s2 e (fl.tr ((fl1.tr d).mo (by omega) (by omega))) f z⟩))) (fun s2 a' ws cur d2 r2 hl2 q12 q40 q46 qe q14 q15 qa qi qb qR => rv ?_)
      have p4 : ph4 0 = 4 := rfl
      rw [p4] at qi qR
      have a4' := hl2.1.2.2.2.1
      rw [show 401 - a' = (400 - a') + 1 by omega, aut4 qb] at qR
      obtain ⟨w1, w2, w3⟩ := LAi_end qi
      have lb := (LAi_b qi).2.2.1
      refine m_must (c := 4) rfl (by omega) (by omega) hl2 qR (fun τ e d f z => rv ⟨fun y => absurd y f.nle, fun _ => herr τ e (fl.tr ((fl1.tr (d2.tr d.fl)).mo (by omega) (by omega))) f z⟩) (fun τ d hlt hk4 ha z => rv ⟨fun _ => ?_, fun y => absurd (by rw [hlt.1.2.2.2.2.2]; decide) y⟩)
      have flt : FLb sd (130 * sd + nb) (420 * sd + nc) σ0 τ := fl.tr ((fl1.tr (d2.tr d.fl)).mo (by omega) (by omega))
      have all : FLb sd (130 * sd + nb + br.length) (420 * sd + nc + cL br) σ τ := fl1.tr (d2.tr d.fl)
      have k84 : ∀ k, k ≠ 11 → k ≠ 13 → k ≠ 14 → k ≠ 15 → k ≠ 16 → τ.1 284 k = s2.1 284 k := fun k k1 k2 k3 k4 k5 => d.2.1 k k1 k2 k3 k4 k5
      refine ⟨hv τ flt, hok τ (a' + 1) br (stE 1 ws cur) flt hlt (by rw [k84 12 (by omega) (by omega) (by omega) (by omega) (by omega)]; exact q12) (by rw [k84 40 (by omega) (by omega) (by omega) (by omega) (by omega)]; exact q40) (by rw [k84 46 (by omega) (by omega) (by omega) (by omega) (by omega)]; exact q46) (MBs_snoc br _ _ (MBs.cg br _ _ hmb (fun d j d1 d2 j1 j2 => all.2.2.2.1 d j d1 d2 (by omega)) (fun j j1 j2 => all.2.2.2.2.1 j (by omega))) ⟨?_, ?_, ?_, ?_⟩) qi.2.2.2.2.2.2.2.2.2.1 w2 (by omega) (by omega) z⟩
      · rw [d.1 311 (by omega), r2 311 (by omega) (by omega), es1, sI_at, if_pos ⟨rfl, rfl⟩]
        rfl
      · rw [d.1 314 (by omega)]
        exact q14
      · rw [d.1 315 (by omega)]
        exact q15
      · exact qe.cg (fun j _ _ => by rw [d.1 316 (by omega), d.1 317 (by omega)]; exact ⟨rfl, rfl⟩)
    · simp only [Bool.not_eq_false, decide_eq_true_eq] at q
      rw [if_pos ⟨q, rfl⟩, if_neg i4] at hR0
      rw [show nI ifs = 4 ↔ ifs = 4 from nI_eq (b := 4) (by omega) (by omega)]
      refine ⟨fun _ => tX10_tellLaw_38 ⟨fun _ => ?_, fun y => absurd (by rw [hl.1.2.2.2.2.2]; decide) y⟩, fun y => absurd y i4⟩
      -- an if: B its branch, c0 where its codes begin
      have B0 : 130 * sd ≤ 130 * sd + nb + br.length := by omega
      have B1 : 130 * sd + nb + br.length + 1 < 130 * sd + 130 := by omega
      -- the dead end
      have dead : ∀ s e, FLb sd (130 * sd + nb) (420 * sd + nc) σ0 s → s.1 284 40 = nI (130 * sd + nb + br.length) → DEr s e → R = .error e → ∀ x3, wX10_tellLaw_110 Γ l x1 (nI (130 * sd + nb)) x3 s K := fun s e d g f z x3 => m_d110 (c0 := 420 * sd + nc) hs f g B0 B1 (fun υ d2 f2 => herr υ e (d.tr (d2.mo (by omega) (Nat.le_refl _))) f2 z)
      have dead2 : ∀ s e, FLb sd (130 * sd + nb) (420 * sd + nc) σ0 s → s.1 284 40 = nI (130 * sd + nb + br.length) → DEr s e → R = .error e → (C2 Γ l mX10_must [.ref 284, .int 13] s (Rv fun s7_ => (vp_in (s7_.1 284 40) 260 ∧ (∀ s9_ : SS, s9_ = sI s7_ 313 (Int32.toNatClampNeg (s7_.1 284 40)) (s7_.1 284 46) → ((¬ (s9_.1 284 13) = 0 → (wX10_tellLaw_110 Γ l x1 (nI (130 * sd + nb)) (nI ifs + 1) s9_ K)) ∧ ((s9_.1 284 13) = 0 → (C2 Γ l mX10_expression [.ref 284] s9_ (Rv fun s10_ => (wX10_tellLaw_110 Γ l x1 (nI (130 * sd + nb)) (nI ifs + 1) s10_ K))))))))) := fun s e d g f z => by
        refine m_mustD f (rv ?_)
        rw [g, nI_clamp (by omega)]
        refine ⟨vp_in_nI (by omega) (by omega), fun s9 es9 => ?_⟩
        have r84 : s9.1 284 = s.1 284 := by rw [es9, sI_row, sA_off2 _ _ (by omega)]
        have f9 : DEr s9 e := f.cg (by rw [r84]) (by rw [r84])
        exact ⟨fun _ => dead s9 e (by rw [es9]; exact d.wb hs (by omega) (by omega) (by omega) (by omega) (by omega)) (by rw [r84]; exact g) f9 z _, fun y => absurd y f9.n0⟩
      refine m_goesOn hl (by omega) (by omega) hR0 (fun s1 e d1 f1 z => rv ?_) (fun s1 d1 l1 ha1 z1 => rv ?_)
      · have g40 : s1.1 284 40 = nI (130 * sd + nb + br.length) := by rw [d1.2.1 40 (by omega) (by omega) (by omega) (by omega) (by omega)]; exact h40
        rw [g40, nI_clamp (by omega)]
        refine ⟨vp_in_nI (by omega) (by omega), fun s3 es3 => ?_⟩
        have g43 : s3.1 284 40 = nI (130 * sd + nb + br.length) := by rw [es3, sI_row, sA_off2 _ _ (by omega)]; exact g40
        rw [g43, nI_clamp (by omega)]
        refine ⟨vp_in_nI (by omega) (by omega), fun s4 es4 => ?_⟩
        have r84 : s4.1 284 = s1.1 284 := by rw [es4, sI_row, sA_off2 _ _ (by omega), es3, sI_row, sA_off2 _ _ (by omega)]
        have f4 : DEr s4 e := f1.cg (by rw [r84]) (by rw [r84])
        have fl4 : FLb sd (130 * sd + nb) (420 * sd + nc) σ0 s4 := by
          rw [es4, es3]
          exact ((fl.tr d1.fl).wb hs (by omega) (by omega) (by omega) (by omega) (by omega)).wb hs (by omega) (by omega) (by omega) (by omega) (by omega)
        refine m_exprD (sd := sd) (c0 := 420 * sd + nc) f4 (fun s5 d5 f5 => rv ?_)
        exact dead2 s5 e (fl4.tr d5.fl) (by rw [d5.2.2.1 40 (by omega) (by omega) (by omega) (by omega) (by omega) (by omega) (by omega) (by omega), r84]; exact g40) f5 z
      have g40 : s1.1 284 40 = nI (130 * sd + nb + br.length) := by rw [d1.2.1 40 (by omega) (by omega) (by omega) (by omega) (by omega)]; exact h40
      have g46 : s1.1 284 46 = nI (420 * sd + nc + cL br) := by rw [d1.2.1 46 (by omega) (by omega) (by omega) (by omega) (by omega)]; exact h46
      rw [g40, nI_clamp (by omega)]
      refine ⟨vp_in_nI (by omega) (by omega), fun s3 es3 => ?_⟩
      have g43 : s3.1 284 40 = nI (130 * sd + nb + br.length) := by rw [es3, sI_row, sA_off2 _ _ (by omega)]; exact g40
      have g63 : s3.1 284 46 = nI (420 * sd + nc + cL br) := by rw [es3, sI_row, sA_off2 _ _ (by omega)]; exact g46
      rw [g43, nI_clamp (by omega), g63]
      refine ⟨vp_in_nI (by omega) (by omega), fun s4 es4 => ?_⟩
      have r84 : s4.1 284 = s1.1 284 := by rw [es4, sI_row, sA_off2 _ _ (by omega), es3, sI_row, sA_off2 _ _ (by omega)]
      have ro4 : ∀ b, b ≠ 311 → b ≠ 312 → s4.1 b = s1.1 b := fun b b1 b2 => by rw [es4, sI_row, sA_off2 _ _ b2, es3, sI_row, sA_off2 _ _ b1]
      have fl4 : FLb sd (130 * sd + nb + br.length) (420 * sd + nc + cL br) σ s4 := by
        rw [es4, es3]
        exact ((d1.fl).wb hs (by omega) (by omega) (by omega) (Nat.le_refl _) (by omega)).wb hs (by omega) (by omega) (by omega) (Nat.le_refl _) (by omega)
      have l4 : Lv1 s4 T (a + 1) late := l1.cg (fun b b1 b2 => ro4 b (by omega) (by omega)) (by rw [es4, es3]; rfl) (fun k hk => by rw [r84])
      have toS : ∀ τ, FLb sd (130 * sd + nb + br.length) (420 * sd + nc + cL br) σ τ → FLb sd (130 * sd + nb) (420 * sd + nc) σ0 τ := fun τ d => fl.tr (d.mo (by omega) (by omega))
      have li1 := LAi_if hi (by omega)
      rw [show a - a2 + 1 = a + 1 - a2 by omega] at li1
      refine m_expression (ph := 1) (c0 := 420 * sd + nc + cL br) hs (by omega) l4 (by omega) (by rw [r84, d1.2.1 12 (by omega) (by omega) (by omega) (by omega) (by omega)]; exact h12) (by rw [r84]; exact g46) li1 (fun y => absurd y (by decide)) (by show _ ≤ _ + brN br + 0; omega) (by rw [show 401 - (a + 1) = 400 - a by omega]; exact z1) (fun s5 e d5 f5 z => rv (dead2 s5 e (toS s5 (fl4.tr d5.fl)) (by rw [d5.2.2.1 40 (by omega) (by omega) (by omega) (by omega) (by omega) (by omega) (by omega) (by omega), r84]; exact g40) f5 z)) (fun s5 b1 w1 u1 d5 l5 q12 q46 qe qa qi qb qR => rv ?_)
      have p41 : ph4 1 = 1 := rfl
      rw [p41] at qi qR
      have a5 := l5.1.2.2.2.1
      rw [show 401 - b1 = (400 - b1) + 1 by omega, aut1 qb] at qR
      obtain ⟨x1a, x1b, x1c⟩ := LAi_end qi
      have li2 := LAi_less qi
      have lb1 := (LAi_b qi).2.2.1
      -- the first expression is E1
      generalize hE1 : stE 1 w1 u1 = E1 at *
      have r5 : ∀ b, 311 ≤ b → b ≤ 315 → s5.1 b = s4.1 b := fun b c1 c2 => d5.2.1 b (by omega) (by omega) (by omega) (by omega)
      have k40 : ∀ s, F4 s5 s → s.1 284 40 = nI (130 * sd + nb + br.length) := fun s d => by rw [d.2.1 40 (by omega) (by omega) (by omega) (by omega) (by omega), d5.2.2.1 40 (by omega) (by omega) (by omega) (by omega) (by omega) (by omega) (by omega) (by omega), r84]; exact g40
      refine m_must (c := 13) rfl (by omega) (by omega) l5 qR (fun s7 e d7 f7 z => rv ?_) (fun s7 d7 l7 hk13 ha7 z7 => rv ?_)
      · rw [k40 s7 d7, nI_clamp (by omega)]
        refine ⟨vp_in_nI (by omega) (by omega), fun s9 es9 => ?_⟩
        have t84 : s9.1 284 = s7.1 284 := by rw [es9, sI_row, sA_off2 _ _ (by omega)]
        have f9 : DEr s9 e := f7.cg (by rw [t84]) (by rw [t84])
        exact ⟨fun _ => dead s9 e (toS s9 (by rw [es9]; exact ((fl4.tr d5.fl).tr d7.fl).wb hs (by omega) (by omega) (by omega) (Nat.le_refl _) (by omega))) (by rw [t84]; exact k40 s7 d7) f9 z _, fun y => absurd y f9.n0⟩
      have k46 : s7.1 284 46 = nI (420 * sd + nc + cL br + E1.length) := by rw [d7.2.1 46 (by omega) (by omega) (by omega) (by omega) (by omega)]; exact q46
      rw [k40 s7 d7, nI_clamp (by omega), k46]
      refine ⟨vp_in_nI (by omega) (by omega), fun s9 es9 => ?_⟩
      have t84 : s9.1 284 = s7.1 284 := by rw [es9, sI_row, sA_off2 _ _ (by omega)]
      have ro9 : ∀ b, b ≠ 313 → s9.1 b = s7.1 b := fun b c1 => by rw [es9, sI_row, sA_off2 _ _ c1]
      have fl9 : FLb sd (130 * sd + nb + br.length) (420 * sd + nc + cL br) σ s9 := by
        rw [es9]
        exact ((fl4.tr d5.fl).tr d7.fl).wb hs (by omega) (by omega) (by omega) (Nat.le_refl _) (by omega)
      have l9 : Lv1 s9 T (b1 + 1) late := l7.cg (fun b c1 c2 => ro9 b (by omega)) (by rw [es9]; rfl) (fun k hk => by rw [t84])
      refine ⟨fun y => absurd l9.1.2.2.2.2.2 y, fun _ => ?_⟩
      rw [show b1 - a2 + 1 = b1 + 1 - a2 by omega] at li2
      have m9 : MEx s9 (420 * sd + nc + cL br) E1 := qe.cg (fun j _ _ => by rw [ro9 316 (by omega), ro9 317 (by omega), d7.1 316 (by omega), d7.1 317 (by omega)]; exact ⟨rfl, rfl⟩)
      refine m_expression (ph := 2) (c0 := 420 * sd + nc + cL br + E1.length) hs (by omega) l9 (by omega) (by rw [t84, d7.2.1 12 (by omega) (by omega) (by omega) (by omega) (by omega)]; exact q12) (by rw [t84]; exact k46) li2 (fun y => absurd y (by decide)) (by show _ ≤ _ + brN br + E1.length; omega) (by rw [show 401 - (b1 + 1) = 400 - b1 by omega]; exact z7) (fun sA e dA fA z => rv (dead sA e (toS sA (fl9.tr (dA.fl.mo (Nat.le_refl _) (by omega)))) (by rw [dA.2.2.1 40 (by omega) (by omega) (by omega) (by omega) (by omega) (by omega) (by omega) (by omega), t84]; exact k40 s7 d7) fA z _)) (fun sA b2 w2 u2 dA lA qA12 qA46 qAe qAa qAi qAb qAR => rv ?_)
      have p42 : ph4 2 = 2 := rfl
      rw [p42] at qAi qAR
      have aA := lA.1.2.2.2.1
      rw [show 401 - b2 = (400 - b2) + 1 by omega, aut2 qAb] at qAR
      obtain ⟨x2a, x2b, x2c⟩ := LAi_end qAi
      have li3 := LAi_then qAi
      have lb2 : brN br + E1.length + u2.length + nop w2 ≤ b2 - a2 := (LAi_b qAi).2.2.1
      generalize hE2 : stE 1 w2 u2 = E2 at *
      have flA : FLb sd (130 * sd + nb + br.length) (420 * sd + nc + cL br) σ sA := fl9.tr (dA.fl.mo (Nat.le_refl _) (by omega))
      have kA40 : sA.1 284 40 = nI (130 * sd + nb + br.length) := by rw [dA.2.2.1 40 (by omega) (by omega) (by omega) (by omega) (by omega) (by omega) (by omega) (by omega), t84]; exact k40 s7 d7
      -- then
      refine tX10_tellLaw_110 (m_must (c := 31) rfl (by omega) (by omega) lA qAR (fun sB e dB fB z => rv ?_) (fun sB dB lB hk31 haB zB => rv ?_))
      · refine m_termD (c0 := 420 * sd + nc) hs fB (by rw [dB.2.1 40 (by omega) (by omega) (by omega) (by omega) (by omega)]; exact kA40) B0 (by omega) (fun sC dC fC gC => rv (m_mustD fC (rv (tX10_tellLaw_12 ⟨fun _ => m_d129 (c0 := 420 * sd + nc) hs fC gC (by omega) B1 (fun υ du fu => herr υ e ((toS sB (flA.tr dB.fl)).tr ((dC.mo (by omega) (Nat.le_refl _)).tr (du.mo (by omega) (Nat.le_refl _)))) fu z), fun y => absurd y fC.n0⟩))))
      rw [show b2 - a2 + 1 = b2 + 1 - a2 by omega] at li3
      have kB40 : sB.1 284 40 = nI (130 * sd + nb + br.length) := by rw [dB.2.1 40 (by omega) (by omega) (by omega) (by omega) (by omega)]; exact kA40
      have kB46 : sB.1 284 46 = nI (420 * sd + nc + cL br + E1.length + E2.length) := by rw [dB.2.1 46 (by omega) (by omega) (by omega) (by omega) (by omega)]; exact qA46
      refine m_term (ph := 3) (c0 := 420 * sd + nc + cL br + E1.length + E2.length) (B := 130 * sd + nb + br.length) hs (by omega) lB (by omega) (by rw [dB.2.1 12 (by omega) (by omega) (by omega) (by omega) (by omega)]; exact qA12) kB40 B0 (by omega) kB46 li3 (fun y => absurd y (by decide)) (by show _ ≤ _ + brN br + (E1.length + E2.length + 2); omega) (by rw [show 401 - (b2 + 1) = 400 - b2 by omega]; exact zB) (fun sC e dC fC z gC => rv (m_mustD fC (rv (tX10_tellLaw_12 ⟨fun _ => m_d129 (c0 := 420 * sd + nc) hs fC gC (by omega) B1 (fun υ du fu => herr υ e ((toS sB (flA.tr dB.fl)).tr ((dC.mo (by omega) (by omega)).tr (du.mo (by omega) (Nat.le_refl _)))) fu z), fun y => absurd y fC.n0⟩)))) (fun sC b3 w3 u3 dC rC lC qC12 qC40 qC46 qCe qC14 qC15 qCa qCi qCb qCR => rv ?_)
      have p43 : ph4 3 = 3 := rfl
      rw [p43] at qCi qCR
      have aC := lC.1.2.2.2.1
      rw [show 401 - b3 = (400 - b3) + 1 by omega, aut3 qCb] at qCR
      have li4 := LAi_else qCi
      generalize hE3 : stE 1 w3 u3 = E3 at *
      have flC : FLb sd (130 * sd + nb + br.length) (420 * sd + nc + cL br) σ sC := (flA.tr dB.fl).tr (dC.mo (Nat.le_refl _) (by omega))
      refine m_must (c := 32) rfl (by omega) (by omega) lC qCR (fun sD e dD fD z => rv (tX10_tellLaw_12 ⟨fun _ => m_d129 (c0 := 420 * sd + nc) hs fD (by rw [dD.2.1 40 (by omega) (by omega) (by omega) (by omega) (by omega)]; exact qC40) (by omega) B1 (fun υ du fu => herr υ e ((toS sD (flC.tr dD.fl)).tr (du.mo (by omega) (Nat.le_refl _))) fu z), fun y => absurd y fD.n0⟩)) (fun sD dD lD hk32 haD zD => rv ?_)
      rw [show b3 - a2 + 1 = b3 + 1 - a2 by omega] at li4
      rw [nI_1]
      have flD : FLb sd (130 * sd + nb + br.length) (420 * sd + nc + cL br) σ sD := flC.tr dD.fl
      have eL : (br ++ [(some (E1, E2), E3)]).length = br.length + 1 := by rw [List.length_append]; rfl
      have eC : cL (br ++ [(some (E1, E2), E3)]) = cL br + (E1.length + E2.length + E3.length) := cL_app br _
      refine ih (b3 + 1) (ifs + 1) (br ++ [(some (E1, E2), E3)]) sD (by omega) ⟨toS sD flD, lD, by omega, by rw [dD.2.1 12 (by omega) (by omega) (by omega) (by omega) (by omega)]; exact qC12, ?_, ?_, MBs_snoc br _ _ (MBs.cg br _ _ hmb (fun d j d1 d2 j1 j2 => flD.2.2.2.1 d j d1 d2 (by omega)) (fun j j1 j2 => flD.2.2.2.2.1 j (by omega))) ⟨?_, ?_, ?_, ?_, ?_, ?_, ?_, ?_⟩, li4, by omega⟩ (by rw [show 401 - (b3 + 1) = 400 - b3 by omega]; exact zD)
      · rw [dD.2.1 40 (by omega) (by omega) (by omega) (by omega) (by omega), qC40, eL]
        congr 1
      · rw [dD.2.1 46 (by omega) (by omega) (by omega) (by omega) (by omega), qC46, eC]
        congr 1
        omega
      · rw [dD.1 311 (by omega), rC 311 (by omega) (by omega), dB.1 311 (by omega), dA.2.1 311 (by omega) (by omega) (by omega) (by omega), ro9 311 (by omega), d7.1 311 (by omega), r5 311 (by omega) (by omega), es4, sI_row, sA_off2 _ _ (by omega), es3, sI_at, if_pos ⟨rfl, rfl⟩]
        rfl
      · rw [dD.1 312 (by omega), rC 312 (by omega) (by omega), dB.1 312 (by omega), dA.2.1 312 (by omega) (by omega) (by omega) (by omega), ro9 312 (by omega), d7.1 312 (by omega), r5 312 (by omega) (by omega), es4, sI_at, if_pos ⟨rfl, rfl⟩]
      · rw [dD.1 313 (by omega), rC 313 (by omega) (by omega), dB.1 313 (by omega), dA.2.1 313 (by omega) (by omega) (by omega) (by omega), es9, sI_at, if_pos ⟨rfl, rfl⟩]
      · rw [dD.1 314 (by omega)]
        exact qC14
      · rw [dD.1 315 (by omega)]
        exact qC15
      · refine m9.cg (fun j j1 j2 => ?_)
        have x1 := dA.2.2.2.1 j (by omega)
        have x2 := dC.2.2.2.2.1 j (by omega)
        rw [dD.1 316 (by omega), dD.1 317 (by omega), x2.1, x2.2, dB.1 316 (by omega), dB.1 317 (by omega), x1.1, x1.2]
        exact ⟨rfl, rfl⟩
      · refine qAe.cg (fun j j1 j2 => ?_)
        have x2 := dC.2.2.2.2.1 j (by omega)
        rw [dD.1 316 (by omega), dD.1 317 (by omega), x2.1, x2.2, dB.1 316 (by omega), dB.1 317 (by omega)]
        exact ⟨rfl, rfl⟩
      · exact qCe.cg (fun j _ _ => by rw [dD.1 316 (by omega), dD.1 317 (by omega)]; exact ⟨rfl, rfl⟩)
end M28
