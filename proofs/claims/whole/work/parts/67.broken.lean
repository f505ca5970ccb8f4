/-! what could be broken, after what was heard -/
theorem LK_fi {C : cty} {o S : Nat} {mo : mty} {M M' : mm} {P : Nat → Nat → Nat → Prop} (h : LK C o mo S M) (f : fi P M M') (hP : ∀ k n i, P k n i → (k = 11 ∧ 9 ≤ i) ∨ (57 ≤ k ∧ k ≤ 59)) : LK C o mo S M' := by
  obtain ⟨⟨a7, ao, am, a8, a6⟩, a56, a55, acs⟩ := h
  have n11 : ∀ i, i < 9 → M'.1 11 0 i = M.1 11 0 i := fun i hi => fi_I f (fun q => by have := hP _ _ _ q; omega)
  have nk : ∀ k i, k < 57 → k ≠ 11 → M'.1 k 0 i = M.1 k 0 i := fun k i h1 h2 => fi_I f (fun q => by have := hP _ _ _ q; omega)
  refine ⟨⟨(n11 7 (by omega)).trans a7, by rw [f.1]; exact ao, MoM_c am (fun i _ => nk 5 i (by omega) (by omega)), (n11 8 (by omega)).trans a8, (n11 6 (by omega)).trans a6⟩, fun j hj => ?_, fun j hj q => ?_, CS_fi acs f (fun k n i q => by have := hP _ _ _ q; omega)⟩
  · obtain ⟨a, h1, h2⟩ := a56 j hj
    exact ⟨a, h1, (nk 56 j (by omega) (by omega)).trans h2⟩
  · rw [nk 55 j (by omega) (by omega)]
    exact a55 j hj ((nk 56 j (by omega) (by omega)).symm.trans q)
def AgS (H : hty) (up : Int32) : Prop := ∀ s b, (s, b) ∈ H → bt up s = b
theorem agrees_ok {F : Nat} {H : hty} {M : mm} {up : Int32} (h : ToH 0 M H) (hH : ∀ s b, (s, b) ∈ H → s < 32) :
    ok (m_X8_agrees F 0 up M) (fun r => r.2 = M ∧ (r.1 = true ↔ AgS H up)) := by
  obtain ⟨-, h4, h5⟩ := h
  have e4 : (M.1 9 0 4 &&& (up ^^^ (-1)) = 0) ↔ ∀ s, (s, true) ∈ H → bt up s = true := by
    constructor
    · intro q s hs
      have h3 := hH s _ hs
      have := congrArg (fun x => bt x s) q
      simp only [b_and, b_not _ h3, b_0, (h4 s h3).mpr hs] at this
      simpa using this
    · intro q
      refine b_ext (fun i hi => ?_)
      rw [b_and, b_not _ hi, b_0]
      cases e : bt (M.1 9 0 4) i
      · rfl
      · rw [q i ((h4 i hi).mp e)]; rfl
  have e5 : (M.1 9 0 5 &&& up = 0) ↔ ∀ s, (s, false) ∈ H → bt up s = false := by
    constructor
    · intro q s hs
      have h3 := hH s _ hs
      have := congrArg (fun x => bt x s) q
      simp only [b_and, b_0, (h5 s h3).mpr hs] at this
      simpa using this
    · intro q
      refine b_ext (fun i hi => ?_)
      rw [b_and, b_0]
      cases e : bt (M.1 9 0 5) i
      · rfl
      · rw [q i ((h5 i hi).mp e)]; rfl
  unfold m_X8_agrees
  rw [ok_ite, e4]
  refine ⟨fun q => ?_, fun q => ok_some.mpr ⟨rfl, fun q2 => (by cases q2), fun q2 => absurd (fun s hs => q2 s _ hs) q⟩⟩
  rw [ok_ite, e5]
  refine ⟨fun q2 => ok_some.mpr ⟨rfl, fun _ s b hs => ?_, fun _ => rfl⟩, fun q2 => ok_some.mpr ⟨rfl, fun q3 => (by cases q3), fun q3 => absurd (fun s hs => q3 s _ hs) q2⟩⟩
  cases b
  · exact q2 s hs
  · exact q s hs
def PG (o : Nat) : Nat → Nat → Nat → Prop := fun k n i => PU o k n i ∨ (k = 11 ∧ 12 ≤ i ∧ i ≤ 14) ∨ k = 58
def PGw : Nat → Nat → Nat → Prop := fun k _ i => (k = 11 ∧ 12 ≤ i ∧ i ≤ 14) ∨ k = 58
theorem addSet_ok {F : Nat} (hF : 3000 < F) {C : cty} {o S Y j : Nat} (hS : S < 2 ^ 31) (hY : Y < 2 ^ 31) {M : mm} {mo : mty} (hw : WF C) (hg : MG C mo Y) (h : LK C o mo S M) :
    ok (m_X10_addSet F (nI j) M) (fun M' => LK C o mo S M' ∧ fi (PG o) M M' ∧ M'.1 11 0 12 = M.1 11 0 12 + 1 ∧ M'.1 11 0 13 = M.1 11 0 13 &&& nI j ∧ M'.1 11 0 14 = M.1 11 0 14 ||| nI j ∧ ∀ s, s < cS C → M'.1 58 0 s = M.1 58 0 s + ((upIfS C mo (nI j) >>> (nI s &&& 31)) &&& 1)) := by
  have hS' := hw.1.2.2.1
  unfold m_X10_addSet
  rw [ok_nm, ok_nm, ok_nm]
  have f0 : fi PGw M (sI (sI (sI M 11 0 12 (M.1 11 0 12 + 1)) 11 0 13 ((sI M 11 0 12 (M.1 11 0 12 + 1)).1 11 0 13 &&& nI j)) 11 0 14 ((sI (sI M 11 0 12 (M.1 11 0 12 + 1)) 11 0 13 ((sI M 11 0 12 (M.1 11 0 12 + 1)).1 11 0 13 &&& nI j)).1 11 0 14 ||| nI j)) := fi_sI (fi_sI (fi_sI fi_rf (Or.inl ⟨rfl, by decide, by decide⟩)) (Or.inl ⟨rfl, by decide, by decide⟩)) (Or.inl ⟨rfl, by decide, by decide⟩)
  have v12 : (sI (sI (sI M 11 0 12 (M.1 11 0 12 + 1)) 11 0 13 ((sI M 11 0 12 (M.1 11 0 12 + 1)).1 11 0 13 &&& nI j)) 11 0 14 ((sI (sI M 11 0 12 (M.1 11 0 12 + 1)) 11 0 13 ((sI M 11 0 12 (M.1 11 0 12 + 1)).1 11 0 13 &&& nI j)).1 11 0 14 ||| nI j)).1 11 0 12 = M.1 11 0 12 + 1 := by simp [rII]
  have v13 : (sI (sI (sI M 11 0 12 (M.1 11 0 12 + 1)) 11 0 13 ((sI M 11 0 12 (M.1 11 0 12 + 1)).1 11 0 13 &&& nI j)) 11 0 14 ((sI (sI M 11 0 12 (M.1 11 0 12 + 1)) 11 0 13 ((sI M 11 0 12 (M.1 11 0 12 + 1)).1 11 0 13 &&& nI j)).1 11 0 14 ||| nI j)).1 11 0 13 = M.1 11 0 13 &&& nI j := by simp [rII]
  have v14 : (sI (sI (sI M 11 0 12 (M.1 11 0 12 + 1)) 11 0 13 ((sI M 11 0 12 (M.1 11 0 12 + 1)).1 11 0 13 &&& nI j)) 11 0 14 ((sI (sI M 11 0 12 (M.1 11 0 12 + 1)) 11 0 13 ((sI M 11 0 12 (M.1 11 0 12 + 1)).1 11 0 13 &&& nI j)).1 11 0 14 ||| nI j)).1 11 0 14 = M.1 11 0 14 ||| nI j := by simp [rII]
  have v58 : ∀ s, (sI (sI (sI M 11 0 12 (M.1 11 0 12 + 1)) 11 0 13 ((sI M 11 0 12 (M.1 11 0 12 + 1)).1 11 0 13 &&& nI j)) 11 0 14 ((sI (sI M 11 0 12 (M.1 11 0 12 + 1)) 11 0 13 ((sI M 11 0 12 (M.1 11 0 12 + 1)).1 11 0 13 &&& nI j)).1 11 0 14 ||| nI j)).1 58 0 s = M.1 58 0 s := fun s => by simp [rII]
  generalize sI (sI (sI M 11 0 12 (M.1 11 0 12 + 1)) 11 0 13 ((sI M 11 0 12 (M.1 11 0 12 + 1)).1 11 0 13 &&& nI j)) 11 0 14 ((sI (sI M 11 0 12 (M.1 11 0 12 + 1)) 11 0 13 ((sI M 11 0 12 (M.1 11 0 12 + 1)).1 11 0 13 &&& nI j)).1 11 0 14 ||| nI j) = M3 at f0 v12 v13 v14 v58 ⊢
  have l3 : LK C o mo S M3 := LK_fi h f0 (fun k n i q => by unfold PGw at q; omega)
  have g3 : fi (PG o) M M3 := fi_mono f0 (fun k n i q => Or.inr q)
  rw [ok_bd]
  refine ok_mono (Q := fun M' => LK C o mo S M' ∧ fi (PG o) M M' ∧ M'.1 11 0 12 = M.1 11 0 12 + 1 ∧ M'.1 11 0 13 = M.1 11 0 13 &&& nI j ∧ M'.1 11 0 14 = M.1 11 0 14 ||| nI j ∧ ∀ s, s < cS C → M'.1 58 0 s = M.1 58 0 s + ((upIfS C mo (nI j) >>> (nI s &&& 31)) &&& 1)) ?_ (fun r hr => ok_some.mpr hr)
  refine ok_for (cS C) (fun i z => z.1 = nI i ∧ LK C o mo S z.2 ∧ fi (PG o) M z.2 ∧ (z.2.1 11 0 12 = M.1 11 0 12 + 1 ∧ z.2.1 11 0 13 = M.1 11 0 13 &&& nI j ∧ z.2.1 11 0 14 = M.1 11 0 14 ||| nI j) ∧ (∀ s, s < i → z.2.1 58 0 s = M.1 58 0 s + ((upIfS C mo (nI j) >>> (nI s &&& 31)) &&& 1)) ∧ ∀ s, i ≤ s → z.2.1 58 0 s = M.1 58 0 s) 0 (by omega) (by omega) ⟨rfl, l3, g3, ⟨v12, v13, v14⟩, fun s hs => by omega, fun s _ => v58 s⟩ ?_
  rintro i ⟨x4, M5⟩ hi ⟨e1, hl, hf, ⟨w12, w13, w14⟩, hlo, hhi⟩
  dsimp only at e1 hl hf w12 w13 w14 hlo hhi
  subst e1
  obtain ⟨⟨a7, ao, am, a8, a6⟩, -, -, acs⟩ := id hl
  simp only [b_X10_addSet_1, b_X10_addSet_1c]
  rw [ao, acs.1.1.1.2.2.1, ok_ite, nI_leI (by omega) (by omega)]
  refine ⟨fun hc => ok_some.mpr ⟨hl, hf, w12, w13, w14, fun s hs => hlo s (by omega)⟩, fun hc => ?_⟩
  have hin : vp_in (nI i) 10 := vp_in_nI (by omega) (by decide)
  rw [ok_gi, ok_cl]
  refine ⟨hin, ok_mono (upIf_ok (by omega) hS hY hw hg hl (nI j)) (fun r hr => ?_)⟩
  obtain ⟨x7, M6⟩ := r
  obtain ⟨r1, r2, r3⟩ := hr
  dsimp only at r1 r2 r3 ⊢
  rw [ok_gi, ok_nm, ok_some, nI_clamp (by omega), r1]
  have e11 : ∀ a, M6.1 11 0 a = M5.1 11 0 a := fun a => fi_I r3 (by unfold PU PW; omega)
  have e58 : ∀ a, M6.1 58 0 a = M5.1 58 0 a := fun a => fi_I r3 (by unfold PU PW; omega)
  have f8 : fi PGw M6 (sI M6 58 0 i (M5.1 58 0 i + ((upIfS C mo (nI j) >>> (nI i &&& 31)) &&& 1))) := fi_sI fi_rf (Or.inr rfl)
  refine ⟨hin, by omega, nI_1 i, LK_fi r2 f8 (fun k n i q => by unfold PGw at q; omega), fi_tr hf (fi_tr (fi_mono r3 (fun k n i q => Or.inl q)) (fi_mono f8 (fun k n i q => Or.inr q))), ⟨?_, ?_, ?_⟩, fun s hs => ?_, fun s hs => ?_⟩
  · rw [rII, if_neg (by omega), e11]; exact w12
  · rw [rII, if_neg (by omega), e11]; exact w13
  · rw [rII, if_neg (by omega), e11]; exact w14
  · rw [rII]
    by_cases e : s = i
    · subst e; rw [if_pos ⟨rfl, rfl, rfl⟩, hhi s (Nat.le_refl _)]
    · rw [if_neg (fun q => e q.2.2), e58]; exact hlo s (by omega)
  · rw [rII, if_neg (by omega), e58]; exact hhi s (by omega)
