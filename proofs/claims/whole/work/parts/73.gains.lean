/-! what a person gains by what all choose -/
theorem LK_f2 {C : cty} {o S : Nat} {mo : mty} {M M' : mm} {P : Nat → Nat → Nat → Prop} (h : LK C o mo S M) (f : fi P M M') (hP : ∀ k n i, P k n i → (k = 11 ∧ 9 ≤ i) ∨ k = 47 ∨ (57 ≤ k ∧ k ≤ 59)) : LK C o mo S M' := by
  obtain ⟨⟨a7, ao, am, a8, a6⟩, a56, a55, acs⟩ := h
  have n11 : ∀ i, i < 9 → M'.1 11 0 i = M.1 11 0 i := fun i hi => fi_I f (fun q => by have := hP _ _ _ q; omega)
  have nk : ∀ k i, k < 57 → k ≠ 11 → k ≠ 47 → M'.1 k 0 i = M.1 k 0 i := fun k i h1 h2 h3 => fi_I f (fun q => by have := hP _ _ _ q; omega)
  refine ⟨⟨(n11 7 (by omega)).trans a7, by rw [f.1]; exact ao, MoM_c am (fun i _ => nk 5 i (by omega) (by omega) (by omega)), (n11 8 (by omega)).trans a8, (n11 6 (by omega)).trans a6⟩, fun j hj => ?_, fun j hj q => ?_, CS_fi acs f (fun k n i q => by have := hP _ _ _ q; omega)⟩
  · obtain ⟨a, h1, h2⟩ := a56 j hj
    exact ⟨a, h1, (nk 56 j (by omega) (by omega) (by omega)).trans h2⟩
  · rw [nk 55 j (by omega) (by omega) (by omega)]
    exact a55 j hj ((nk 56 j (by omega) (by omega) (by omega)).symm.trans q)
noncomputable def upC (C : cty) (mo : mty) (b : Nat) : Int32 := upIfS C mo (obP C b (cP C))
def kpC (C : cty) (mo : mty) (b : Nat) : Int32 := (mo.2.1 ||| (obP C b (cP C) &&& looseS C mo)) ^^^ (-1)
def PX2 (o : Nat) : Nat → Nat → Nat → Prop := fun k n i => PU o k n i ∨ (k = 11 ∧ 17 ≤ i ∧ i ≤ 18) ∨ k = 47
theorem choose_ok {F : Nat} (hF : 3000 < F) {C : cty} {o S Y : Nat} (hS : S < 2 ^ 31) (hY : Y < 2 ^ 31) {M : mm} {mo : mty} (hw : WF C) (hg : MG C mo Y) (h : LK C o mo S M) (b : Nat) :
    ok (m_X10_choose F (nI b) M) (fun M' => (M'.1 11 0 17 = upC C mo b ∧ M'.1 11 0 18 = kpC C mo b ∧ ∀ s, s < cS C → M'.1 47 0 s = rS C (upC C mo b) s) ∧ LK C o mo S M' ∧ fi (PX2 o) M M') := by
  unfold m_X10_choose
  rw [ok_cl]
  refine ok_mono (brokenBy_ok (by omega) hw h b) (fun r hr => ?_)
  subst hr
  rw [ok_cl]
  refine ok_mono (upIf_ok (by omega) hS hY hw hg h _) (fun r hr => ?_)
  obtain ⟨x4, M3⟩ := r
  obtain ⟨g1, g2, g3⟩ := hr
  dsimp only at g1 g2 g3 ⊢
  rw [upIfS_and] at g1
  rw [ok_nm, ok_nm, ok_cv, g1]
  have f5 : fi (fun k _ i => k = 11 ∧ 17 ≤ i ∧ i ≤ 18) M3 (sI (sI M3 11 0 17 (upIfS C mo (obP C b (cP C)))) 11 0 18 (((sI M3 11 0 17 (upIfS C mo (obP C b (cP C)))).1 5 0 1 ||| (obP C b (cP C) &&& looseS C mo)) ^^^ (-1))) := fi_sI (fi_sI fi_rf ⟨rfl, by decide, by decide⟩) ⟨rfl, by decide, by decide⟩
  have l5 : LK C o mo S (sI (sI M3 11 0 17 (upIfS C mo (obP C b (cP C)))) 11 0 18 (((sI M3 11 0 17 (upIfS C mo (obP C b (cP C)))).1 5 0 1 ||| (obP C b (cP C) &&& looseS C mo)) ^^^ (-1))) := LK_f2 g2 f5 (fun k n i q => by omega)
  have v17 : (sI (sI M3 11 0 17 (upIfS C mo (obP C b (cP C)))) 11 0 18 (((sI M3 11 0 17 (upIfS C mo (obP C b (cP C)))).1 5 0 1 ||| (obP C b (cP C) &&& looseS C mo)) ^^^ (-1))).1 11 0 17 = upC C mo b := by simp [rII, upC]
  have v18 : (sI (sI M3 11 0 17 (upIfS C mo (obP C b (cP C)))) 11 0 18 (((sI M3 11 0 17 (upIfS C mo (obP C b (cP C)))).1 5 0 1 ||| (obP C b (cP C) &&& looseS C mo)) ^^^ (-1))).1 11 0 18 = kpC C mo b := by
    simp [rII, kpC, g2.1.2.2.1.2.1]
  generalize sI (sI M3 11 0 17 (upIfS C mo (obP C b (cP C)))) 11 0 18 (((sI M3 11 0 17 (upIfS C mo (obP C b (cP C)))).1 5 0 1 ||| (obP C b (cP C) &&& looseS C mo)) ^^^ (-1)) = M6 at f5 l5 v17 v18 ⊢
  rw [l5.1.2.1, v17]
  refine ok_mono (settle_ok (by omega) hw l5.2.2.2.1.1 (upC C mo b)) (fun M7 h7 => ok_some.mpr ?_)
  obtain ⟨f7, v47⟩ := h7
  have f7' : fi (fun k _ _ => k = 47) M6 M7 := fi_fr f7 (fun k n i q => q)
  refine ⟨⟨?_, ?_, v47⟩, LK_f2 l5 f7' (fun k n i q => Or.inr (Or.inl q)), fi_tr (fi_mono g3 (fun k n i q => Or.inl q)) (fi_tr (fi_mono f5 (fun k n i q => Or.inr (Or.inl q))) (fi_mono f7' (fun k n i q => Or.inr (Or.inr q))))⟩
  · rw [fi_I f7' (by omega)]; exact v17
  · rw [fi_I f7' (by omega)]; exact v18
