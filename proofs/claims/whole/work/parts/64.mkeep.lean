/-! the reference's keep -/
theorem isClashing_ok {F : Nat} (hF : 1000 < F) {C : cty} {M : mm} {mo : mty} (hw : WF C) (h : RMo C mo M) (m : Int32) :
    ok (m_X12_isClashing F m M) (fun r => r.2 = M ∧ (r.1 = true ↔ NC C m)) := by
  have hO := hw.1.2.1
  unfold m_X12_isClashing
  rw [ok_bd]
  refine ok_mono (Q := fun r => (r = .inl () ∧ NC C m) ∨ (r = .inr () ∧ ¬ NC C m)) ?_ (fun r hr => ?_)
  · refine ok_for (cO C) (fun i z => z = nI i ∧ ∀ k, k < i → ¬ (bt m k = false ∧ cF C 7 k &&& (m ^^^ (-1)) ≠ 0)) 0 (by omega) (by omega) ⟨rfl, fun k hk => by omega⟩ ?_
    rintro i z hi ⟨rfl, hn⟩
    simp only [b_X12_isClashing_1, b_X12_isClashing_1c]
    rw [ok_gi, tc1, h.1.1.2.1, ok_ite, nI_leI (by omega) (by omega)]
    refine ⟨vp_of (by decide), fun hc => ok_some.mpr (Or.inr ⟨rfl, fun ⟨k, k1, k2⟩ => hn k (by omega) k2⟩), fun hc => ?_⟩
    have hi' : i < cO C := by omega
    refine ok_jm (P := fun _ => ¬ (bt m i = false ∧ cF C 7 i &&& (m ^^^ (-1)) ≠ 0)) (fun z hz => ok_some.mpr ⟨by omega, nI_1 i, nc_step hn hz⟩) (fun k hk => ?_)
    rw [ok_ite, b_bit0 _ (show i < 32 by omega)]
    refine ⟨fun q => ?_, fun q => hk () (fun q2 => q q2.1)⟩
    rw [ok_gi, nI_clamp (by omega), (h.1.2.2.1 i hi').2.2.2.2, ok_ite]
    exact ⟨vp_in_nI (by omega) (by decide), fun q2 => hk () (fun q3 => q3.2 q2), fun q2 => ok_some.mpr (Or.inl ⟨rfl, i, hi', q, q2⟩)⟩
  · rcases hr with ⟨rfl, q⟩ | ⟨rfl, q⟩
    · simp only [Sum.elim_inl, ok_some]; exact ⟨trivial, fun _ => q, fun _ => trivial⟩
    · simp only [Sum.elim_inr, ok_some]; exact ⟨trivial, fun q2 => (by cases q2), fun q2 => absurd q2 q⟩
theorem keepM {F : Nat} (hF : 3000 < F) {A : sty} {N : Nat} {M : mm} (hA : AOK A N) (h : RM A M) : ok (m_X12_keep F M) (fun r => KpA A r.1 ∧ RM A r.2 ∧ FrM M r.2) := by
  have hO := hA.1.1.2.1
  have hp := p2_le hO
  have h1 : RM A (sI M 13 0 0 0) := RM_fi h thr_f PT_GM
  have f1 : fi PV M (sI M 13 0 0 0) := fi_mono thr_f (fun k n i q => Or.inl q)
  unfold m_X12_keep
  rw [ok_nm, ok_cl]
  generalize sI M 13 0 0 0 = M1 at h1 f1 ⊢
  refine ok_mono (looseM_ok hF hA.1 h1.1) (fun r hr => ?_)
  subst hr
  dsimp only
  rw [ok_bd]
  refine ok_mono (Q := fun z => Best (2 ^ cO (aC A)) (KpP (aC A) (aM A)) z.1 ∧ RMo (aC A) (aM A) z.2 ∧ fi PV M z.2) ?_ (fun z hz => ?_)
  · refine ok_for (2 ^ cO (aC A)) (fun j z => z.2.1 = nI j ∧ Best j (KpP (aC A) (aM A)) z.1 ∧ RMo (aC A) (aM A) z.2.2 ∧ fi PV M z.2.2) 0 (by omega) (by omega) ⟨rfl, best_0, h1.1, f1⟩ ?_
    rintro j ⟨x4, x5, M6⟩ hj ⟨e1, hb, hm, hf⟩
    dsimp only at e1 hb hm hf
    subst e1
    simp only [b_X12_keep_1, b_X12_keep_1c]
    rw [ok_cl]
    refine ok_mono (allOaths_ok hA.1 hm.1) (fun r hr => ?_)
    subst hr
    dsimp only
    rw [ok_ite, nI_ltI (by omega) (by omega)]
    refine ⟨fun hc => ok_some.mpr ?_, fun hc => ?_⟩
    · have : j = 2 ^ cO (aC A) := by omega
      rw [← this]; exact ⟨hb, hm, hf⟩
    · rw [ok_bd]
      refine ok_mono (Q := fun z => Best (j + 1) (KpP (aC A) (aM A)) z.1 ∧ RMo (aC A) (aM A) z.2 ∧ fi PV M z.2) ?_ (fun z hz => ?_)
      · rw [ok_ite]
        refine ⟨fun g => ?_, fun g => ok_some.mpr ⟨best_skip hb (fun q => g q.1), hm, hf⟩⟩
        refine ok_jm (P := fun z => z = M6 ∧ (x4 = -1 ∨ ∃ b, x4 = nI b ∧ b < 2 ^ 31 ∧ cnt j < cnt b)) (fun z hz => ?_) (fun k hk => ?_)
        · obtain ⟨rfl, hz⟩ := hz
          rw [ok_gi, ok_cb, tc1, hm.2.2.2.1]
          refine ⟨vp_of (by decide), ok_mono (isClashing_ok (by omega) hA.1 hm (aM A |>.2.1 ||| nI j)) (fun r hr => ?_)⟩
          obtain ⟨b15, M14⟩ := r
          obtain ⟨e1, e2⟩ := hr
          dsimp only at e1 e2 ⊢
          subst e1
          rw [ok_ite, e2]
          refine ⟨fun q => ok_some.mpr ⟨best_skip hb (fun q2 => q2.2.1 q), hm, hf⟩, fun q => ?_⟩
          rw [ok_cl]
          refine ok_mono (upIfM_ok hF hA.1 hm hA.2.1.1.2.2.2 (nI j)) (fun r hr => ?_)
          obtain ⟨x17, M16⟩ := r
          obtain ⟨r1, r2, r3⟩ := hr
          dsimp only at r1 r2 r3 ⊢
          have f3 : fi PV M M16 := fi_tr hf (fi_fr r3 (fun k n i q => Or.inr q))
          rw [ok_gi, tc3, r1, r2.2.2.2.2.2, ok_ite]
          exact ⟨vp_of (by decide), fun q2 => ok_some.mpr ⟨best_new (by omega) hb ⟨g, q, q2⟩ hz, r2, f3⟩, fun q2 => ok_some.mpr ⟨best_skip hb (fun q3 => q2 q3.2.2), r2, f3⟩⟩
        · rw [ok_ite]
          rcases best_val (by omega) hb with ⟨v1, v2⟩ | ⟨v1, b, v2, v3⟩
          · exact ⟨fun _ => hk M6 ⟨rfl, Or.inl v2⟩, fun q => absurd v1 q⟩
          · refine ⟨fun q => absurd q v1, fun _ => ?_⟩
            rw [ok_cl]
            refine ok_mono (bits_ok (by omega)) (fun r hr => ?_)
            subst hr
            rw [ok_cl]
            refine ok_mono (bits_ok (by omega)) (fun r hr => ?_)
            subst hr
            dsimp only
            have c1 : popN (nI j) ≤ 11 := by unfold popN; have := List.countP_le_length (p := fun i => bt (nI j) i) (l := List.range 11); simpa using this
            have c2 : popN x4 ≤ 11 := by unfold popN; have := List.countP_le_length (p := fun i => bt x4 i) (l := List.range 11); simpa using this
            rw [ok_ite, nI_leI (by omega) (by omega)]
            refine ⟨fun q => ok_some.mpr ⟨?_, hm, hf⟩, fun q => hk M6 ⟨rfl, Or.inr ⟨b, v3, by omega, by rw [v3] at q; unfold cnt; omega⟩⟩⟩
            rw [v3] at hb q ⊢
            exact best_worse (by omega) hb (by omega) (by unfold cnt; omega)
      · obtain ⟨x16, M17⟩ := z
        exact ok_some.mpr ⟨by omega, nI_1 j, hz.1, hz.2.1, hz.2.2⟩
  · obtain ⟨x18, M19⟩ := z
    obtain ⟨z1, z2, z3⟩ := hz
    exact ok_some.mpr ⟨z1, RM_pv h z3 z2⟩
