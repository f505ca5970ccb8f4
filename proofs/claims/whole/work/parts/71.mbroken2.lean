theorem br2_ok {F : Nat} (hF : 3000 < F) {A : sty} {N : Nat} {M M0 : mm} {few : Int32} (hA : AOK A N) (h0 : RM A M0) (h : RMo (aC A) (aM A) M) (f : fi PZ M0 M) (hz : ∀ s, s < 10 → M.1 109 0 s = 0) :
    ok (lp (b_X12_broken_2 F few (looseS (aC A) (aM A))) F ((0 : Int32), (1023 : Int32), (0 : Int32), (0 : Int32), M)) (fun z => (z.1 = brC (BrP (aC A) (aM A) (aH A) few) (2 ^ cO (aC A)) ∧ z.2.1 = brA (BrP (aC A) (aM A) (aH A) few) 1023 (2 ^ cO (aC A)) ∧ z.2.2.1 = brO (BrP (aC A) (aM A) (aH A) few) (2 ^ cO (aC A)) ∧ ∀ s, s < 10 → z.2.2.2.1 109 0 s = brS (BrP (aC A) (aM A) (aH A) few) (upN (aC A) (aM A)) s (2 ^ cO (aC A))) ∧ RMo (aC A) (aM A) z.2.2.2 ∧ fi PZ M0 z.2.2.2) := by
  have hO := hA.1.1.2.1
  have hS' := hA.1.1.2.2.1
  have hp := p2_le hO
  have hHd : ∀ s b, (s, b) ∈ aH A → s < 32 := fun s b hs => by
    have a1 : s < cS (aC A) := hA.2.2.2.2.2.1.2 (s, b) hs
    omega
  refine ok_for (2 ^ cO (aC A)) (fun j z => z.2.2.2.1 = nI j ∧ (z.1 = brC (BrP (aC A) (aM A) (aH A) few) j ∧ z.2.1 = brA (BrP (aC A) (aM A) (aH A) few) 1023 j ∧ z.2.2.1 = brO (BrP (aC A) (aM A) (aH A) few) j ∧ ∀ s, s < 10 → z.2.2.2.2.1 109 0 s = brS (BrP (aC A) (aM A) (aH A) few) (upN (aC A) (aM A)) s j) ∧ RMo (aC A) (aM A) z.2.2.2.2 ∧ fi PZ M0 z.2.2.2.2) 0 (by omega) (by omega) ⟨rfl, ⟨rfl, rfl, rfl, fun s hs => hz s hs⟩, h, f⟩ ?_
  rintro j ⟨x12, x13, x14, x15, M16⟩ hj ⟨e1, ⟨e2, e3, e4, hb⟩, hm, hf⟩
  dsimp only at e1 e2 e3 e4 hb hm hf
  subst e1 e2 e3 e4
  simp only [b_X12_broken_2, b_X12_broken_2c]
  rw [ok_cl]
  refine ok_mono (allOaths_ok hA.1 hm.1) (fun r hr => ?_)
  subst hr
  dsimp only
  rw [ok_ite, nI_ltI (by omega) (by omega)]
  refine ⟨fun hc => ok_some.mpr ?_, fun hc => ?_⟩
  · have : j = 2 ^ cO (aC A) := by omega
    subst this; exact ⟨⟨rfl, rfl, rfl, hb⟩, hm, hf⟩
  rw [ok_bd]
  refine ok_mono (Q := fun z => (z.1 = brC (BrP (aC A) (aM A) (aH A) few) (j + 1) ∧ z.2.1 = brA (BrP (aC A) (aM A) (aH A) few) 1023 (j + 1) ∧ z.2.2.1 = brO (BrP (aC A) (aM A) (aH A) few) (j + 1) ∧ ∀ s, s < 10 → z.2.2.2.1 109 0 s = brS (BrP (aC A) (aM A) (aH A) few) (upN (aC A) (aM A)) s (j + 1)) ∧ RMo (aC A) (aM A) z.2.2.2 ∧ fi PZ M0 z.2.2.2) ?_ (fun z hz => ?_)
  · have skip : ∀ M' : mm, ¬ BrP (aC A) (aM A) (aH A) few j → (∀ s, M'.1 109 0 s = M16.1 109 0 s) → (brC (BrP (aC A) (aM A) (aH A) few) j = brC (BrP (aC A) (aM A) (aH A) few) (j + 1) ∧ brA (BrP (aC A) (aM A) (aH A) few) 1023 j = brA (BrP (aC A) (aM A) (aH A) few) 1023 (j + 1) ∧ brO (BrP (aC A) (aM A) (aH A) few) j = brO (BrP (aC A) (aM A) (aH A) few) (j + 1) ∧ ∀ s, s < 10 → M'.1 109 0 s = brS (BrP (aC A) (aM A) (aH A) few) (upN (aC A) (aM A)) s (j + 1)) := fun M' hn e => by
      rw [brC_f hn, brA_f hn, brO_f hn]
      exact ⟨rfl, rfl, rfl, fun s hs => by rw [brS_f hn, e]; exact hb s hs⟩
    rw [ok_ite]
    refine ⟨fun g => ?_, fun g => ok_some.mpr ⟨skip M16 (fun q => g q.1) (fun _ => rfl), hm, hf⟩⟩
    rw [ok_cl]
    refine ok_mono (bits_ok (by omega)) (fun r hr => ?_)
    subst hr
    dsimp only
    rw [ok_ite]
    refine ⟨fun g2 => ?_, fun g2 => ok_some.mpr ⟨skip M16 (fun q => g2 q.2.1) (fun _ => rfl), hm, hf⟩⟩
    rw [ok_cl]
    refine ok_mono (upIfM_ok hF hA.1 hm hA.2.1.1.2.2.2 (nI j)) (fun r hr => ?_)
    obtain ⟨x22, M21⟩ := r
    obtain ⟨r1, r2, r3⟩ := hr
    dsimp only at r1 r2 r3 ⊢
    have f3 : fi PZ M0 M21 := fi_tr hf (fi_fr r3 (fun k n i q => Or.inl (Or.inr q)))
    have e109 : ∀ s, M21.1 109 0 s = M16.1 109 0 s := fun s => fr_I r3 (by unfold PD; omega) s
    have hrm := (RM_pz h0 f3 r2).1
    rw [ok_cb]
    refine ok_mono (asHeard_ok (by omega) hrm.2.2.2.2.2.1 hA.2.2.2.2.2.1.1 hHd) (fun r hr => ?_)
    obtain ⟨b24, M23⟩ := r
    obtain ⟨k1, k2⟩ := hr
    dsimp only at k1 k2 ⊢
    subst k1
    rw [ok_ite, k2, r1]
    refine ⟨fun g3 => ?_, fun g3 => ok_some.mpr ⟨skip M23 (fun q => g3 q.2.2) e109, r2, f3⟩⟩
    have hP : BrP (aC A) (aM A) (aH A) few j := ⟨g, g2, g3⟩
    rw [ok_nm, ok_nm, ok_bd]
    refine ok_mono (br3_ok (by omega)) (fun M30 h30 => ok_some.mpr ?_)
    obtain ⟨f30, v30⟩ := h30
    rw [brC_t hP, brA_t hP, brO_t hP]
    exact ⟨⟨rfl, rfl, rfl, fun s hs => by rw [brS_t hP, v30 s hs, e109, hb s hs]; rfl⟩, RMo_9 r2 f30, fi_tr f3 (fi_mono f30 (fun k n i q => Or.inr q))⟩
  · obtain ⟨x31, x32, x33, M34⟩ := z
    obtain ⟨⟨z1, z2, z3, z4⟩, z5, z6⟩ := hz
    exact ok_some.mpr ⟨by omega, nI_1 j, ⟨z1, z2, z3, z4⟩, z5, z6⟩
theorem br4_ok {F : Nat} (hF : 1000 < F) {C : cty} {M : mm} {mo : mty} {t : Int32} (hw : WF C) (h : RMo C mo M) : ok (lp (b_X12_broken_4 F t) F ((-1 : Int32), (0 : Int32), (0 : Int32), M)) (fun z => z = ((evN t (M.1 109 0) (cS C)).1, M)) := by
  have hS' := hw.1.2.2.1
  refine ok_for (cS C) (fun i z => z.2.2.1 = nI i ∧ (z.1, z.2.1) = evN t (M.1 109 0) i ∧ z.2.2.2 = M) 0 (by omega) (by omega) ⟨rfl, rfl, rfl⟩ ?_
  rintro i ⟨x1, x2, x3, M4⟩ hi ⟨e1, e2, e3⟩
  dsimp only at e1 e2 e3
  subst e1 e3
  simp only [b_X12_broken_4, b_X12_broken_4c]
  have hin : i < cS C → vp_in (nI i) 10 := fun h => vp_in_nI (by omega) (by decide)
  rw [ok_gi, tc2, h.1.1.2.2.1, ok_ite, nI_leI (by omega) (by omega)]
  refine ⟨vp_of (by decide), fun hc => ok_some.mpr ?_, fun hc => ?_⟩
  · have : i = cS C := by omega
    subst this
    show (x1, M4) = ((evN t (M4.1 109 0) (cS C)).1, M4)
    rw [← e2]
  rw [ok_gi, ok_gi, ok_nm, ok_bd, nI_clamp (by omega)]
  refine ⟨hin (by omega), hin (by omega), ?_⟩
  have em : (if t - M4.1 109 0 i < M4.1 109 0 i then t - M4.1 109 0 i else M4.1 109 0 i) = if t - M4.1 109 0 i ≤ M4.1 109 0 i then t - M4.1 109 0 i else M4.1 109 0 i := by
    by_cases q : t - M4.1 109 0 i < M4.1 109 0 i
    · rw [if_pos q, if_pos (by simp only [i_lt, i_le] at q ⊢; omega)]
    · by_cases q2 : t - M4.1 109 0 i ≤ M4.1 109 0 i
      · rw [if_neg q, if_pos q2]
        exact i_eq.mpr (by simp only [i_lt, i_le] at q q2; omega)
      · rw [if_neg q, if_neg q2]
  rw [em]
  refine ok_mono (Q := fun z => z = evN t (M4.1 109 0) (i + 1)) ?_ (fun z hz => ?_)
  · show ok _ (fun z => z = if _ ≤ (evN t (M4.1 109 0) i).2 then evN t (M4.1 109 0) i else (nI i, _))
    rw [← e2, ok_ite]
    exact ⟨fun q => ok_some.mpr (if_neg (by simp only [i_lt, i_le] at q ⊢; omega)).symm, fun q => ok_some.mpr (if_pos (by simp only [i_lt, i_le] at q ⊢; omega)).symm⟩
  · obtain ⟨x5, x6⟩ := z
    exact ok_some.mpr ⟨by omega, nI_1 i, hz, rfl⟩
