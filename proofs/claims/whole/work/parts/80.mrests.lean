/-! the reference's rests -/
theorem mr2_ok {F : Nat} (hF : 3000 < F) {C : cty} {mo : mty} {M : mm} {b : Nat} (hw : WF C) (h : RMo C mo M) (hup : ∀ s, s < 32 → bt mo.2.2.2 s = true → s < cS C) (hb : b < 2 ^ cP C) :
    ok (lp (b_X12_rests_2 F (nI b)) F ((1 : Int32), (0 : Int32), M)) (fun r => r.1 = (if pB (RsP C mo b) = true then 1 else 0) ∧ RMo C mo r.2 ∧ fr PD M r.2) := by
  have hP := hw.1.1
  have h2 := p26 _ hP
  refine ok_for (cP C) (fun i z => z.2.1 = nI i ∧ RMo C mo z.2.2 ∧ fr PD M z.2.2 ∧ ((z.1 = 1 ∧ ∀ p, p < i → ¬ gaS C mo b p < gaS C mo (b ^^^ 2 ^ p) p) ∨ (z.1 = 0 ∧ ¬ RsP C mo b))) 0 (by omega) (by omega) ⟨rfl, h, fr_rf, Or.inl ⟨rfl, fun p hp => by omega⟩⟩ ?_
  rintro i ⟨x5, x6, M3⟩ hi ⟨e1, e2, e3, e4⟩
  dsimp only at e1 e2 e3 e4
  subst e1
  simp only [b_X12_rests_2, b_X12_rests_2c]
  rw [ok_gi, tc0, e2.1.1.1, ok_ite, nI_leI (by omega) (by omega)]
  refine ⟨vp_of (by decide), fun q => ok_some.mpr ⟨?_, e2, e3⟩, fun q => ?_⟩
  · rcases e4 with e4 | e4
    · rw [if_pos (pB_t (show RsP C mo b from fun p hp => e4.2 p (by omega)))]; exact e4.1
    · rw [pB_f e4.2]; exact e4.1
  have hi' : i < cP C := by omega
  rw [ok_ite]
  refine ⟨fun q2 => ok_some.mpr ⟨?_, e2, e3⟩, fun q2 => ?_⟩
  · rcases e4 with e4 | e4
    · exact absurd (e4.1.symm.trans q2) (by decide)
    · rw [pB_f e4.2]; exact e4.1
  rcases e4 with e4 | e4
  · rw [sh_pow i (by omega), nx_xor, ok_cl]
    refine ok_mono (hasBy_ok hF hw e2 hup hi') (fun r hr => ?_)
    obtain ⟨x9, M8⟩ := r
    obtain ⟨r1, r2, r3⟩ := hr
    dsimp only at r1 r2 r3 ⊢
    rw [ok_cl]
    refine ok_mono (hasBy_ok hF hw r2 hup hi') (fun r hr => ?_)
    obtain ⟨x11, M10⟩ := r
    obtain ⟨s1, s2, s3⟩ := hr
    dsimp only at s1 s2 s3 ⊢
    rw [ok_bd, r1, s1, ok_ite]
    have f4 : fr PD M M10 := fr_tr e3 (fr_tr r3 s3)
    refine ⟨fun q3 => ok_some.mpr (ok_some.mpr ⟨by omega, nI_1 i, s2, f4, Or.inr ⟨rfl, fun q4 => q4 i hi' q3⟩⟩), fun q3 => ok_some.mpr (ok_some.mpr ⟨by omega, nI_1 i, s2, f4, Or.inl ⟨rfl, fun p hp => ?_⟩⟩)⟩
    by_cases e : p = i
    · subst e; exact q3
    · exact e4.2 p (by omega)
  · exact absurd e4.1 q2
theorem restsM {F : Nat} (hF : 3000 < F) {A : sty} {N : Nat} {M : mm} {x : Int32} (hA : AOK A N) (h : RM A M) : ok (m_X12_rests F x M) (QM A M (restsS (aC A) (aM A) x)) := by
  have hP := hA.1.1.1
  have hp2 := p26 _ hP
  have h1 : RM A (sI M 13 0 0 0) := RM_fi h thr_f PT_GM
  have f1 : fi PV M (sI M 13 0 0 0) := fi_mono thr_f (fun k n i q => Or.inl q)
  unfold m_X12_rests
  rw [ok_nm]
  generalize sI M 13 0 0 0 = M1 at h1 f1 ⊢
  rw [ok_ite]
  refine ⟨fun hx => ?_, fun hx => ok_some.mpr (by unfold restsS; rw [if_neg hx]; exact ⟨rfl, (RM_pv h f1 h1.1).1, (RM_pv h f1 h1.1).2⟩)⟩
  rw [ok_bd]
  refine ok_mono (Q := Sum.elim (fun z => (RMo (aC A) (aM A) z.2 ∧ fr PD M1 z.2) ∧ restsS (aC A) (aM A) x = z.1) (fun z => (RMo (aC A) (aM A) z.2 ∧ fr PD M1 z.2) ∧ z.1 = nI (rsC (aC A) (aM A) (2 ^ cP (aC A))) ∧ rsO (aC A) (aM A) x (2 ^ cP (aC A)) = none)) ?_ (fun r hr => ?_)
  · refine ok_for (2 ^ cP (aC A)) (fun i z => z.2.1 = nI i ∧ z.1 = nI (rsC (aC A) (aM A) i) ∧ (RMo (aC A) (aM A) z.2.2 ∧ fr PD M1 z.2.2) ∧ rsO (aC A) (aM A) x i = none) 0 (by omega) (by omega) ⟨rfl, rfl, ⟨h1.1, fr_rf⟩, rfl⟩ ?_
    rintro i ⟨x3, x4, M3⟩ hi ⟨t1, t2, t3, t4⟩
    dsimp only at t1 t2 t3
    subst t1 t2
    simp only [b_X12_rests_1, b_X12_rests_1c]
    rw [ok_gi, tc0, t3.1.1.1.1, sh_pow _ (by omega), ok_ite, nI_leI (by omega) (by omega)]
    refine ⟨vp_of (by decide), fun q => ok_some.mpr ?_, fun q => ?_⟩
    · have : i = 2 ^ cP (aC A) := by omega
      subst this
      exact ⟨t3, rfl, t4⟩
    have hi' : i < 2 ^ cP (aC A) := by omega
    rw [ok_bd]
    refine ok_mono (mr2_ok hF hA.1 t3.1 hA.2.1.1.2.2.2 hi') (fun r hr => ?_)
    obtain ⟨x13, M14⟩ := r
    obtain ⟨r1, r2, r3⟩ := hr
    dsimp only at r1 r2 r3 ⊢
    have f4 : fr PD M1 M14 := fr_tr t3.2 r3
    refine ok_jm (P := fun z => z = nI (rsC (aC A) (aM A) (i + 1)) ∧ rsO (aC A) (aM A) x (i + 1) = none) (fun z hz => ok_some.mpr ⟨by omega, nI_1 i, hz.1, ⟨r2, f4⟩, hz.2⟩) (fun j hj => ?_)
    rw [ok_ite, r1]
    refine ⟨fun q2 => ?_, fun q2 => ?_⟩
    · have q3 : ¬ pB (RsP (aC A) (aM A) i) = true := fun q3 => by rw [if_pos q3] at q2; exact absurd q2 (by decide)
      exact hj _ ⟨by rw [rsC, if_neg q3], rsO_f t4 q3⟩
    · have q3 : pB (RsP (aC A) (aM A) i) = true := by
        cases e : pB (RsP (aC A) (aM A) i)
        · rw [e] at q2; exact absurd rfl q2
        · rfl
      rw [ok_ite]
      exact ⟨fun q4 => ok_some.mpr ⟨⟨r2, f4⟩, restsS_some hx (rsO_t t4 q3 q4) (by omega)⟩, fun q4 => hj _ ⟨by rw [rsC, if_pos q3, nI_1], rsO_n t4 q3 q4⟩⟩
  · have fin : ∀ M', RMo (aC A) (aM A) M' ∧ fr PD M1 M' → RM A M' ∧ FrM M M' := fun M' h' => RM_pv h (fi_tr f1 (fi_fr h'.2 (fun k n i q => Or.inr q))) h'.1
    cases r with
    | inl z =>
      obtain ⟨t1, t2⟩ := hr
      exact ok_some.mpr ⟨t2.symm, fin _ t1⟩
    | inr z =>
      obtain ⟨t1, t2, t3⟩ := hr
      obtain ⟨x9, M10⟩ := z
      dsimp only at t1 t2
      subst t2
      show ok (if x = -1 then _ else _) _
      rw [restsS_none hx t3, ok_ite]
      exact ⟨fun q => ok_some.mpr ⟨by rw [if_pos q], fin _ t1⟩, fun q => ok_some.mpr ⟨by rw [if_neg q], fin _ t1⟩⟩
