def GaP (C : cty) (up kp : Int32) (p s : Nat) : Prop := bt up s = true ∧ rS C up s &&& (cF C 2 p &&& kp) ≠ 0
noncomputable def gaN (C : cty) (mo : mty) (b p : Nat) : Nat → Int32
  | 0 => if bt (nI b) p = true then cF C 1 p else 0
  | n + 1 => if pB (GaP C (upC C mo b) (kpC C mo b) p n) = true then gaN C mo b p n + cF C 9 n else gaN C mo b p n
theorem gaN_t {C : cty} {mo : mty} {b p n : Nat} (h : GaP C (upC C mo b) (kpC C mo b) p n) : gaN C mo b p (n + 1) = gaN C mo b p n + cF C 9 n := if_pos (pB_t h)
theorem gaN_f {C : cty} {mo : mty} {b p n : Nat} (h : ¬ GaP C (upC C mo b) (kpC C mo b) p n) : gaN C mo b p (n + 1) = gaN C mo b p n := if_neg (by rw [pB_f h]; decide)
theorem gainOf_ok {F : Nat} (hF : 1000 < F) {C : cty} {o S b p : Nat} {M : mm} {mo : mty} (hw : WF C) (h : LK C o mo S M) (hp : p < cP C) (hc : M.1 11 0 17 = upC C mo b ∧ M.1 11 0 18 = kpC C mo b ∧ ∀ s, s < cS C → M.1 47 0 s = rS C (upC C mo b) s) :
    ok (m_X10_gainOf F (nI p) (nI b) M) (fun r => r = (gaN C mo b p (cS C), M)) := by
  have hP := hw.1.1
  have hS' := hw.1.2.2.1
  obtain ⟨c17, c18, c47⟩ := hc
  obtain ⟨⟨a7, ao, am, a8, a6⟩, -, -, acs⟩ := id h
  have hin : vp_in (nI p) 6 := vp_in_nI (by omega) (by decide)
  obtain ⟨p1, p2, p3⟩ := acs.1.1.2.1 p hp
  unfold m_X10_gainOf
  rw [ok_bd, ao]
  refine ok_mono (Q := fun v => v = gaN C mo b p 0) ?_ (fun v hv => ?_)
  · show ok _ (fun v => v = if bt (nI b) p = true then cF C 1 p else 0)
    rw [ok_ite, b_bit0 _ (show p < 32 by omega)]
    refine ⟨fun q => by rw [ok_some, if_neg (by rw [q]; decide)], fun q => ?_⟩
    rw [ok_gi, ok_some, nI_clamp (by omega), p2, if_pos (by simpa using q)]
    exact ⟨hin, rfl⟩
  · subst hv
    rw [ok_gi, ok_nm, ok_bd, nI_clamp (by omega), p3, c18]
    refine ⟨hin, ?_⟩
    refine ok_mono (Q := fun v => v = gaN C mo b p (cS C)) ?_ (fun v hv => by subst hv; exact ok_some.mpr rfl)
    refine ok_for (cS C) (fun i z => z.2 = nI i ∧ z.1 = gaN C mo b p i) 0 (by omega) (by omega) ⟨rfl, rfl⟩ ?_
    rintro i ⟨x3, x4⟩ hi ⟨e1, e2⟩
    dsimp only at e1 e2
    subst e1 e2
    simp only [b_X10_gainOf_1, b_X10_gainOf_1c]
    rw [ao, acs.1.1.1.2.2.1, ok_ite, nI_leI (by omega) (by omega)]
    refine ⟨fun hc => ok_some.mpr (by have : i = cS C := by omega
                                      subst this; rfl), fun hc => ?_⟩
    have hi' : i < cS C := by omega
    rw [ok_bd, c17]
    refine ok_mono (Q := fun v => v = gaN C mo b p (i + 1)) ?_ (fun v hv => ok_some.mpr ⟨by omega, nI_1 i, hv⟩)
    rw [ok_ite, b_bit0 _ (show i < 32 by omega)]
    refine ⟨fun q => by rw [ok_some, gaN_f (fun q2 => by rw [q2.1] at q; cases q)], fun q => ?_⟩
    rw [ok_gi, nI_clamp (by omega), c47 i hi', ok_ite]
    refine ⟨vp_in_nI (by omega) (by decide), fun q2 => by rw [ok_some, gaN_f (fun q3 => q3.2 q2)], fun q2 => ?_⟩
    rw [ok_gi, ok_nm, ok_some, (acs.1.1.2.2.2.1 i hi').2.1, gaN_t ⟨by simpa using q, q2⟩]
    exact ⟨vp_in_nI (by omega) (by decide), rfl⟩
