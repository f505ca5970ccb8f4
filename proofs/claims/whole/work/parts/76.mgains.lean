/-! the reference's gains -/
theorem RMo_6 {C : cty} {mo : mty} {M M' : mm} (h : RMo C mo M) (f : fr (fun k _ => k = 106) M M') : RMo C mo M' := by
  have e : ∀ k i, k < 106 → M'.1 k 0 i = M.1 k 0 i := fun k i hk => fr_I f (by omega) i
  obtain ⟨h1, h2, h3⟩ := h
  refine ⟨MV_fr h1 f (fun k _ hk q => by omega), ?_, ?_⟩
  · unfold B0 at h2 ⊢; rw [e 105 0 (by omega)]; exact h2
  · unfold MoR at h3 ⊢; rw [e 100 0 (by omega), e 100 1 (by omega), e 100 2 (by omega), e 100 3 (by omega)]; exact h3
theorem hb1_ok {F : Nat} (hF : 1000 < F) {C : cty} {M : mm} {mo : mty} (hw : WF C) (h : RMo C mo M) (b : Nat) : ok (lp (b_X12_hasBy_1 F (nI b)) F ((0 : Int32), (0 : Int32), M)) (fun r => r = (obP C b (cP C), M)) := by
  have hP := hw.1.1
  refine ok_for (cP C) (fun i z => z.2.1 = nI i ∧ z.1 = obP C b i ∧ z.2.2 = M) 0 (by omega) (by omega) ⟨rfl, rfl, rfl⟩ ?_
  rintro i ⟨x1, x2, M3⟩ hi ⟨e1, e2, e3⟩
  dsimp only at e1 e2 e3
  subst e1 e2 e3
  simp only [b_X12_hasBy_1, b_X12_hasBy_1c]
  rw [ok_gi, tc0, h.1.1.1, ok_ite, nI_leI (by omega) (by omega)]
  refine ⟨vp_of (by decide), fun hc => ok_some.mpr (by have : i = cP C := by omega
                                                       subst this; rfl), fun hc => ?_⟩
  rw [ok_bd]
  refine ok_mono (Q := fun z => z = ((if bt (nI b) i = true then cF C 2 i else 0), M3)) ?_ (fun z hz => by subst hz; rw [ok_nm]; exact ok_some.mpr ⟨by omega, nI_1 i, rfl, rfl⟩)
  rw [ok_ite, b_bit1 _ (show i < 32 by omega)]
  refine ⟨fun q => ?_, fun q => ok_some.mpr (by rw [if_neg q])⟩
  rw [ok_cl]
  refine ok_mono (oathsOf_ok (by omega) hw h.1 (show i < cP C by omega)) (fun r hr => ?_)
  subst hr
  rw [if_pos q]; exact ok_some.mpr rfl
theorem hb2_ok {F : Nat} (hF : 1000 < F) {C : cty} {M : mm} {mo : mty} {b p : Nat} {x : Int32} (hw : WF C) (h : RMo C mo M) (h6 : ∀ s, s < cS C → M.1 106 0 s = rS C (upC C mo b) s) (hx : x = gaN C mo b p 0) : ok (lp (b_X12_hasBy_2 F (upC C mo b) (cF C 2 p &&& kpC C mo b) M) F (x, (0 : Int32))) (fun r => r = gaN C mo b p (cS C)) := by
  have hS' := hw.1.2.2.1
  refine ok_for (cS C) (fun i z => z.2 = nI i ∧ z.1 = gaN C mo b p i) 0 (by omega) (by omega) ⟨rfl, hx⟩ ?_
  rintro i ⟨x3, x4⟩ hi ⟨e1, e2⟩
  dsimp only at e1 e2
  subst e1 e2
  simp only [b_X12_hasBy_2, b_X12_hasBy_2c]
  rw [ok_gi, tc2, h.1.1.2.2.1, ok_ite, nI_leI (by omega) (by omega)]
  refine ⟨vp_of (by decide), fun hc => ok_some.mpr (by have : i = cS C := by omega
                                                       subst this; rfl), fun hc => ?_⟩
  have hi' : i < cS C := by omega
  rw [ok_bd]
  refine ok_mono (Q := fun v => gaN C mo b p i + v = gaN C mo b p (i + 1)) ?_ (fun v hv => by rw [ok_nm]; exact ok_some.mpr ⟨by omega, nI_1 i, hv⟩)
  refine ok_jn (P := ¬ GaP C (upC C mo b) (kpC C mo b) p i) (fun q => by rw [ok_some, gaN_f q]; exact Int32.add_zero _) (fun k hk => ?_)
  rw [ok_ite, b_bit1 _ (show i < 32 by omega)]
  refine ⟨fun q => ?_, fun q => hk (fun q2 => q q2.1)⟩
  rw [ok_gi, nI_clamp (by omega), h6 i hi', ok_ite]
  refine ⟨vp_in_nI (by omega) (by decide), fun q2 => hk (fun q3 => q3.2 q2), fun q2 => ?_⟩
  rw [ok_gi, ok_some, (h.1.2.2.2.1 i hi').2.1 hi', gaN_t ⟨q, q2⟩]
  exact ⟨vp_in_nI (by omega) (by decide), rfl⟩
