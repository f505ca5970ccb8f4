/-! the reference's sure -/
theorem fct_b {wb : Nat} {C : cty} (hw : WFb wb C) (b i : Nat) : 0 ≤ (fct C b i).toInt ∧ (fct C b i).toInt ≤ 10 := by
  have t10 : (10 : Int32).toInt = 10 := rfl
  unfold fct
  by_cases q : i < cP C
  · rw [if_pos q]
    have h := (hw.2.1 i q).1
    by_cases q2 : bt (nI b) i = true
    · rw [if_pos q2, i_sub (by omega) (by omega)]; omega
    · rw [if_neg q2]; exact h
  · rw [if_neg q, t10]; omega
theorem chP_b {wb : Nat} {C : cty} (hw : WFb wb C) (b : Nat) : ∀ n, n ≤ 6 → 0 ≤ (chP C b n).toInt ∧ (chP C b n).toInt ≤ ((10 ^ n : Nat) : Int) := by
  intro n
  induction n with
  | zero => intro _; exact (by decide : 0 ≤ (1 : Int32).toInt ∧ (1 : Int32).toInt ≤ ((10 ^ 0 : Nat) : Int))
  | succ n ih =>
    intro hn
    obtain ⟨h1, h2⟩ := ih (by omega)
    obtain ⟨f1, f2⟩ := fct_b hw b n
    have hk : 10 ^ n ≤ 10 ^ 5 := Nat.pow_le_pow_right (n := 10) (by decide) (by omega)
    have m1 : 0 ≤ (chP C b n).toInt * (fct C b n).toInt := Int.mul_nonneg h1 f1
    have m2 : (chP C b n).toInt * (fct C b n).toInt ≤ ((10 ^ n : Nat) : Int) * 10 := Int.mul_le_mul h2 f2 f1 (by omega)
    have e : (10 ^ (n + 1) : Nat) = 10 ^ n * 10 := Nat.pow_succ ..
    show 0 ≤ (chP C b n * fct C b n).toInt ∧ _ ≤ _
    have e2 : (chP C b (n + 1)).toInt = (chP C b n * fct C b n).toInt := rfl
    rw [e2, i_mul (by omega) (by omega), e]
    refine ⟨m1, ?_⟩
    omega
theorem obP_x {C : cty} {b : Nat} (hb : b < 2 ^ cP C) (hP : cP C ≤ 6) : ∀ n, cP C + n ≤ 31 → obP C b (cP C + n) = obP C b (cP C) := by
  intro n
  induction n with
  | zero => intro _; rfl
  | succ n ih =>
    intro hn
    have e : obP C b (cP C + (n + 1)) = obP C b (cP C + n) ||| (if bt (nI b) (cP C + n) = true then cF C 2 (cP C + n) else 0) := rfl
    rw [e, ih (by omega), if_neg, Int32.or_zero]
    rw [b_nI (by omega), Nat.testBit_lt_two_pow (Nat.lt_of_lt_of_le hb (Nat.pow_le_pow_right (by decide) (by omega)))]
    decide
theorem su_in {nb : Nat} {wb : Nat} {F : Nat} (hF : 3000 < F) {C : cty} {M : mm} {mo : mty} (hw : WFb wb C) (h : RMob nb C mo M) {b : Nat} (hb : b < 2 ^ cP C) :
    ok (lp (b_X12_sureOf_2 F (nI b)) F ((1 : Int32), (0 : Int32), (0 : Int32), M)) (fun r => r = (chP C b 6, obP C b (cP C), M)) := by
  have hP := hw.1.1
  refine ok_for 6 (fun i z => z.2.2.1 = nI i ∧ z.1 = chP C b i ∧ z.2.1 = obP C b i ∧ z.2.2.2 = M) 0 (by omega) (by omega) ⟨rfl, rfl, rfl, rfl⟩ ?_
  rintro i ⟨x4, x5, x6, M7⟩ hi ⟨e1, e2, e3, e4⟩
  dsimp only at e1 e2 e3 e4
  subst e1 e2 e3 e4
  simp only [b_X12_sureOf_2, b_X12_sureOf_2c]
  have e6 : (6 : Int32) ≤ nI i ↔ 6 ≤ i := (nI_leI (by omega) (by omega) : nI 6 ≤ nI i ↔ 6 ≤ i)
  rw [ok_ite, e6]
  refine ⟨fun hc => ok_some.mpr ?_, fun hc => ?_⟩
  · have : i = 6 := by omega
    subst this
    have hx := obP_x hb hP (6 - cP C) (by omega)
    rw [show cP C + (6 - cP C) = 6 by omega] at hx
    show (chP C b 6, obP C b 6, M7) = _
    rw [hx]
  have hi' : i < 6 := by omega
  have hbi : bt (nI b) i = true → i < cP C := fun q => by
    rw [b_nI (by omega)] at q
    rcases Nat.lt_or_ge i (cP C) with r | r
    · exact r
    · rw [Nat.testBit_lt_two_pow (Nat.lt_of_lt_of_le hb (Nat.pow_le_pow_right (by decide) r))] at q; cases q
  have hin : vp_in (nI i) 12 := vp_in_nI (by omega) (by decide)
  rw [ok_bd]
  refine ok_mono (Q := fun v => v = if bt (nI b) i = true then (1 : Int32) else 0) ?_ (fun v hv => ?_)
  · rw [ok_ite, b_bit1 _ (show i < 32 by omega), ok_some, ok_some]
    exact ⟨fun q => by rw [if_pos q], fun q => by rw [if_neg q]⟩
  · subst hv
    have e8 : (if bt (nI b) i = true then (1 : Int32) else 0) = 0 ↔ ¬ bt (nI b) i = true := by
      by_cases q : bt (nI b) i = true
      · rw [if_pos q]; exact ⟨fun q2 => absurd q2 (by decide), fun q2 => absurd q q2⟩
      · rw [if_neg q]; exact ⟨fun _ => q, fun _ => rfl⟩
    rw [ok_gi, tc0, h.1.1.1, ok_bd]
    refine ⟨vp_of (by decide), ?_⟩
    refine ok_mono (Q := fun v => v = fct C b i) ?_ (fun v hv => ?_)
    · rw [ok_ite, nI_ltI (by omega) (by omega)]
      refine ⟨fun q => ?_, fun q => ?_⟩
      · unfold fct
        rw [if_pos q, ok_ite, e8]
        refine ⟨fun q2 => ?_, fun q2 => ?_⟩
        · rw [ok_gi, ok_some, nI_clamp (by omega), (h.1.2.1 i q).1, if_neg q2]; exact ⟨hin, rfl⟩
        · rw [ok_gi, ok_some, nI_clamp (by omega), (h.1.2.1 i q).1, if_pos (Classical.not_not.mp q2)]; exact ⟨hin, rfl⟩
      · rw [ok_some]; unfold fct; rw [if_neg q]
    · subst hv
      rw [ok_nm, ok_bd]
      refine ok_mono (Q := fun z => z = ((if bt (nI b) i = true then cF C 2 i else 0), M7)) ?_ (fun z hz => ?_)
      · rw [ok_ite, e8]
        refine ⟨fun q => ok_some.mpr (by rw [if_neg q]), fun q => ?_⟩
        have q' := Classical.not_not.mp q
        rw [ok_cl]
        refine ok_mono (oathsOf_ok (by omega) hw h.1 (hbi q')) (fun r hr => ?_)
        subst hr
        rw [if_pos q']; exact ok_some.mpr rfl
      · subst hz
        exact ok_some.mpr ⟨by omega, nI_1 i, rfl, rfl, rfl⟩
theorem sureOf_ok {nb : Nat} {wb : Nat} {F : Nat} (hF : 3000 < F) {C : cty} {M : mm} {mo : mty} {s : Nat} (hw : WFb wb C) (h : RMob nb C mo M) (hup : ∀ s, s < 32 → bt mo.2.2.2 s = true → s < cS C) (hs : s < 32) (hl : wb ≤ 11 := by omega) :
    ok (m_X12_sureOf F (nI s) M) (fun r => r.1 = suN C mo s (2 ^ cP C) ∧ RMob nb C mo r.2 ∧ fr PD M r.2) := by
  have hP := hw.1.1
  have hp := p2_le (show cP C ≤ 10 by omega)
  unfold m_X12_sureOf
  rw [ok_bd]
  refine ok_mono (Q := fun r => r.1 = suN C mo s (2 ^ cP C) ∧ RMob nb C mo r.2 ∧ fr PD M r.2) ?_ (fun r hr => ok_some.mpr hr)
  refine ok_for (2 ^ cP C) (fun j z => z.2.1 = nI j ∧ z.1 = suN C mo s j ∧ RMob nb C mo z.2.2 ∧ fr PD M z.2.2) 0 (by omega) (by omega) ⟨rfl, rfl, h, fr_rf⟩ ?_
  rintro j ⟨x1, x2, M3⟩ hj ⟨e1, e2, hl, hf⟩
  dsimp only at e1 e2 hl hf
  subst e1 e2
  simp only [b_X12_sureOf_1, b_X12_sureOf_1c]
  rw [ok_gi, tc0, hl.1.1.1, sh_pow _ (show cP C ≤ 10 by omega), ok_ite, nI_leI (by omega) (by omega)]
  refine ⟨vp_of (by decide), fun hc => ok_some.mpr ?_, fun hc => ?_⟩
  · have : j = 2 ^ cP C := by omega
    subst this; exact ⟨rfl, hl, hf⟩
  · rw [ok_bd]
    refine ok_mono (su_in hF hw hl (show j < 2 ^ cP C by omega)) (fun r hr => ?_)
    subst hr
    dsimp only
    rw [ok_bd]
    have e : suN C mo s (j + 1) = suN C mo s j + (if bt (upIfS C mo (obP C j (cP C))) s = true then chP C j 6 else 0) := rfl
    refine ok_mono (Q := fun z => z.1 = suN C mo s (j + 1) ∧ RMob nb C mo z.2 ∧ fr PD M z.2) ?_ (fun z hz => ?_)
    · rw [ok_ite, e]
      refine ⟨fun q => ok_some.mpr ⟨?_, hl, hf⟩, fun q => ?_⟩
      · have h0 : chP C j 6 = 0 := i_eq.mpr (by
          have := (chP_b hw j 6 (by omega)).1
          have q := i_le.mp q
          have z : (0 : Int32).toInt = 0 := rfl
          omega)
        rw [h0]
        show _ = suN C mo s j + (if _ then 0 else 0)
        rw [ite_self]; exact (Int32.add_zero _).symm
      · rw [ok_cl]
        refine ok_mono (upIfM_ok hF hw hl hup _) (fun r hr => ?_)
        obtain ⟨x20, M19⟩ := r
        obtain ⟨g1, g2, g3⟩ := hr
        dsimp only at g1 g2 g3 ⊢
        rw [g1, ok_ite, b_bit1 _ hs]
        refine ⟨fun q => ?_, fun q => ok_some.mpr ⟨?_, g2, fr_tr hf g3⟩⟩
        · rw [ok_nm, ok_some, if_pos q]; exact ⟨rfl, g2, fr_tr hf g3⟩
        · rw [if_neg q]; exact (Int32.add_zero _).symm
    · obtain ⟨x22, M23⟩ := z
      exact ok_some.mpr ⟨by omega, nI_1 j, hz⟩
theorem sureM {F : Nat} (hF : 3000 < F) {A : sty} {N : Nat} {M : mm} {x : Int32} (hA : AOK A N) (h : RM A M) : ok (m_X12_sure F x M) (QM A M (sureS A x)) := by
  have hS' := hA.1.1.2.2.1
  have h1 : RM A (sI M 13 0 0 0) := RM_fi h thr_f PT_GM
  have f1 : fi PV M (sI M 13 0 0 0) := fi_mono thr_f (fun k n i q => Or.inl q)
  unfold m_X12_sure
  rw [ok_nm, ok_cb]
  generalize sI M 13 0 0 0 = M1 at h1 f1 ⊢
  have no : ¬ (0 ≤ x ∧ x < nI (cS (aC A)) ∧ bt (aM A).2.2.2 x.toNatClampNeg = true) → QM A M (sureS A x) (-1, M1) := fun q => by
    unfold sureS; rw [if_neg q]
    exact ⟨rfl, (RM_pv h f1 h1.1).1, (RM_pv h f1 h1.1).2⟩
  refine ok_mono (isStone_ok h1.1.1) (fun r hr => ?_)
  subst hr
  dsimp only
  rw [ok_ite, decide_eq_true_iff]
  refine ⟨fun q => ?_, fun q => ok_some.mpr (no (fun q2 => q ⟨q2.1, q2.2.1⟩))⟩
  obtain ⟨s, hs, rfl, hcl⟩ := in_iff hS' q
  rw [ok_gi, tc3, h1.1.2.2.2.2.2, ok_ite, b_bit1 _ (show s < 32 by omega)]
  refine ⟨vp_of (by decide), fun q2 => ?_, fun q2 => ok_some.mpr (no (fun q3 => by rw [hcl] at q3; exact q2 q3.2.2))⟩
  rw [ok_cl]
  refine ok_mono (sureOf_ok hF hA.1 h1.1 hA.2.1.1.2.2.2 (show s < 32 by omega)) (fun r hr => ok_some.mpr ?_)
  obtain ⟨r1, r2, r3⟩ := hr
  have f2 : fi PV M r.2 := fi_tr f1 (fi_fr r3 (fun k n i q => Or.inr q))
  unfold sureS
  rw [hcl, if_pos ⟨q.1, q.2, q2⟩]
  exact ⟨r1, (RM_pv h f2 r2).1, (RM_pv h f2 r2).2⟩
