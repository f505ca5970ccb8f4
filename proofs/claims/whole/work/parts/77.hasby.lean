theorem hasBy_ok {F : Nat} (hF : 3000 < F) {C : cty} {M : mm} {mo : mty} {b p : Nat} (hw : WF C) (h : RMo C mo M) (hup : ∀ s, s < 32 → bt mo.2.2.2 s = true → s < cS C) (hp : p < cP C) :
    ok (m_X12_hasBy F (nI p) (nI b) M) (fun r => r.1 = gaN C mo b p (cS C) ∧ RMo C mo r.2 ∧ fr PD M r.2) := by
  have hP := hw.1.1
  have hS' := hw.1.2.2.1
  unfold m_X12_hasBy
  rw [ok_bd]
  refine ok_mono (hb1_ok (by omega) hw h b) (fun r hr => ?_)
  subst hr
  dsimp only
  rw [ok_cl]
  refine ok_mono (upIfM_ok hF hw h hup (obP C b (cP C))) (fun r hr => ?_)
  obtain ⟨x12, M11⟩ := r
  obtain ⟨r1, r2, r3⟩ := hr
  dsimp only at r1 r2 r3 ⊢
  rw [ok_cl, r1]
  refine ok_mono (oathsOf_ok (by omega) hw r2.1 hp) (fun r hr => ?_)
  subst hr
  dsimp only
  rw [ok_gi, ok_cl]
  refine ⟨vp_of (by decide), ok_mono (looseM_ok hF hw r2) (fun r hr => ?_)⟩
  subst hr
  dsimp only
  rw [ok_nm, ok_bd, tc1, r2.2.2.2.1]
  refine ok_mono (Q := fun v => v = gaN C mo b p 0) ?_ (fun v hv => ?_)
  · show ok _ (fun v => v = if bt (nI b) p = true then cF C 1 p else 0)
    rw [ok_ite, b_bit1 _ (show p < 32 by omega)]
    refine ⟨fun q => ?_, fun q => by rw [ok_some, if_neg q]⟩
    rw [ok_gi, ok_some, nI_clamp (by omega), (r2.1.2.1 p hp).2, if_pos q]
    exact ⟨vp_in_nI (by omega) (by decide), rfl⟩
  · subst hv
    rw [ok_cv]
    refine ok_mono (laysRests_ok (by omega)) (fun M19 h19 => ?_)
    obtain ⟨f19, v19⟩ := h19
    have m19 := RMo_6 r2 f19
    have e6 : ∀ s, s < cS C → M19.1 106 0 s = rS C (upC C mo b) s := fun s hs => by
      rw [v19 s (by omega)]
      exact rs_c (n := cS C) (fun t ht => ⟨(r2.1.2.2.2.1 t ht).2.2.1, (r2.1.2.2.2.1 t ht).2.2.2⟩) (fun t _ => rfl) s hs
    rw [ok_bd]
    refine ok_mono (hb2_ok (by omega) (b := b) (p := p) hw m19 e6 rfl) (fun r hr => ok_some.mpr ?_)
    exact ⟨hr, m19, fr_tr r3 (fr_mono f19 (fun k n q => Or.inr (Or.inr q)))⟩
