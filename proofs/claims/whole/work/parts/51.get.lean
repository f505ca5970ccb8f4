/-! calls that only ask: the first ones -/
theorem RM_fi {A : sty} {M M' : mm} {P : Nat → Nat → Nat → Prop} (h : RM A M) (f : fi P M M') (hP : ∀ k n i, P k n i → GM k n i) : RM A M' := by
  refine ⟨⟨MV_fr h.1.1 (fr_fi f) (fun k h1 h2 q => ?_), ?_, ?_⟩, RMs_fi h.2 f (fun k n i q => Or.inl (hP k n i q))⟩
  · obtain ⟨i, q⟩ := q
    have := hP _ _ _ q; unfold GM at this; omega
  · have := h.1.2.1
    unfold B0 at this ⊢
    rw [fi_I f (fun q => by have := hP _ _ _ q; unfold GM at this; omega)]; exact this
  · have := h.1.2.2
    unfold MoR at this ⊢
    have e : ∀ j, M'.1 100 0 j = M.1 100 0 j := fun j => fi_I f (fun q => by have := hP _ _ _ q; unfold GM at this; omega)
    simp only [e]; exact this
theorem WhI_up {C : cty} {o N : Nat} {M : mm} (h : WhI C o N M) : WhI C o (N + 1) M := by
  obtain ⟨⟨S, h1, h2, h3⟩, h4⟩ := h
  refine ⟨⟨S, by omega, h2, h3⟩, ?_⟩
  rcases h4 with h4 | ⟨a, b, sm, c, ⟨⟨⟨y, d1, d2⟩, d3⟩, d4⟩, e⟩
  · exact Or.inl h4
  · exact Or.inr ⟨a, b, sm, c, ⟨⟨⟨y, by omega, d2⟩, d3⟩, d4⟩, e⟩
theorem RC_up {A : sty} {N : Nat} {M : mm} (h : RC A N M) : RC A (N + 1) M := by
  obtain ⟨o, d, h1, h2, h3, h4, h5, h6⟩ := h
  exact ⟨o, d, h1, h2, h3, h4, h5, WhI_up h6⟩
theorem MG_up {C : cty} {mo : mty} {Y Z : Nat} (h : MG C mo Y) (hz : Y ≤ Z) : MG C mo Z := by
  obtain ⟨⟨y, a, b⟩, c⟩ := h
  exact ⟨⟨y, by omega, b⟩, c⟩
theorem AOK_up {A : sty} {N : Nat} (h : AOK A N) : AOK A (N + 1) := by
  obtain ⟨h1, ⟨h2, h2'⟩, ⟨h3, h3'⟩, h4, h5⟩ := h
  exact ⟨h1, ⟨MG_up h2 (by omega), h2'⟩, ⟨h3, fun u hu => ⟨MG_up (h3' u hu).1 (by omega), (h3' u hu).2⟩⟩, fun k v hv => ⟨⟨MG_up (h4 k v hv).1.1 (by omega), (h4 k v hv).1.2⟩, (h4 k v hv).2⟩, h5⟩
theorem FrC_rf {M : mm} : FrC M M := ⟨fun _ _ => rfl, fun _ _ _ _ => ⟨rfl, rfl⟩⟩
def QC {α : Type} (A : sty) (N : Nat) (M : mm) (ans : α) (r : α × mm) : Prop := r.1 = ans ∧ RC A (N + 1) r.2 ∧ FrC M r.2
def QM {α : Type} (A : sty) (M : mm) (ans : α) (r : α × mm) : Prop := r.1 = ans ∧ RM A r.2 ∧ FrM M r.2
theorem QC_same {α : Type} {A : sty} {N : Nat} {M : mm} {ans : α} (h : RC A N M) : QC A N M ans (ans, M) := ⟨rfl, RC_up h, FrC_rf⟩
/-- the cell 'thrown' -/
def PT : Nat → Nat → Nat → Prop := fun k _ i => k = 13 ∧ i = 0
theorem thr_f {M : mm} {v : Int32} : fi PT M (sI M 13 0 0 v) := fi_sI fi_rf ⟨rfl, rfl⟩
theorem PT_GM : ∀ k n i, PT k n i → GM k n i := fun k n i h => by unfold PT at h; unfold GM; omega
theorem QM_fi {α : Type} {A : sty} {M M' : mm} {P : Nat → Nat → Nat → Prop} {ans : α} (h : RM A M) (f : fi P M M') (hP : ∀ k n i, P k n i → GM k n i ∧ ((k = 13 ∨ 63 ≤ k) ∧ ¬ (65 ≤ k ∧ k ≤ 67))) : QM A M ans (ans, M') :=
  ⟨rfl, RM_fi h f (fun k n i q => (hP k n i q).1), FrM_fi f (fun k n i q => (hP k n i q).2)⟩
theorem within_ok {F : Nat} {v lo hi : Int32} {M : mm} : ok (m_X12_within F v lo hi M) (fun r => r = (decide (lo ≤ v ∧ v ≤ hi), M)) := by
  unfold m_X12_within
  simp only [ok_ite, ok_some]
  refine ⟨fun q => ?_, fun q => ⟨fun q2 => ?_, fun q2 => ?_⟩⟩
  · congr 1; simp only [i_lt, i_le] at q ⊢; symm; rw [decide_eq_false_iff_not]; omega
  · congr 1; simp only [i_lt, i_le] at q q2 ⊢; symm; rw [decide_eq_false_iff_not]; omega
  · congr 1; simp only [i_lt, i_le] at q q2 ⊢; symm; rw [decide_eq_true_iff]; omega
theorem isPerson_ok {F : Nat} {C : cty} {M : mm} (h : MV C M) {x : Int32} : ok (m_X12_isPerson F x M) (fun r => r = (decide (0 ≤ x ∧ x < nI (cP C)), M)) := by
  unfold m_X12_isPerson
  simp only [ok_ite, ok_some, ok_gi, tc0, h.1.1]
  have z : (0 : Int32).toInt = 0 := rfl
  refine ⟨fun q => ?_, fun q => ⟨vp_of (by decide), fun q2 => ?_, fun q2 => ?_⟩⟩
  · congr 1; simp only [i_lt, i_le] at q ⊢; symm; rw [decide_eq_false_iff_not]; omega
  · congr 1; simp only [i_lt, i_le] at q q2 ⊢; symm; rw [decide_eq_false_iff_not]; omega
  · congr 1; simp only [i_lt, i_le] at q q2 ⊢; symm; rw [decide_eq_true_iff]; omega
theorem isOath_ok {F : Nat} {C : cty} {M : mm} (h : MV C M) {x : Int32} : ok (m_X12_isOath F x M) (fun r => r = (decide (0 ≤ x ∧ x < nI (cO C)), M)) := by
  unfold m_X12_isOath
  simp only [ok_ite, ok_some, ok_gi, tc1, h.1.2.1]
  have z : (0 : Int32).toInt = 0 := rfl
  refine ⟨fun q => ?_, fun q => ⟨vp_of (by decide), fun q2 => ?_, fun q2 => ?_⟩⟩
  · congr 1; simp only [i_lt, i_le] at q ⊢; symm; rw [decide_eq_false_iff_not]; omega
  · congr 1; simp only [i_lt, i_le] at q q2 ⊢; symm; rw [decide_eq_false_iff_not]; omega
  · congr 1; simp only [i_lt, i_le] at q q2 ⊢; symm; rw [decide_eq_true_iff]; omega
theorem isStone_ok {F : Nat} {C : cty} {M : mm} (h : MV C M) {x : Int32} : ok (m_X12_isStone F x M) (fun r => r = (decide (0 ≤ x ∧ x < nI (cS C)), M)) := by
  unfold m_X12_isStone
  simp only [ok_ite, ok_some, ok_gi, tc2, h.1.2.2.1]
  have z : (0 : Int32).toInt = 0 := rfl
  refine ⟨fun q => ?_, fun q => ⟨vp_of (by decide), fun q2 => ?_, fun q2 => ?_⟩⟩
  · congr 1; simp only [i_lt, i_le] at q ⊢; symm; rw [decide_eq_false_iff_not]; omega
  · congr 1; simp only [i_lt, i_le] at q q2 ⊢; symm; rw [decide_eq_false_iff_not]; omega
  · congr 1; simp only [i_lt, i_le] at q q2 ⊢; symm; rw [decide_eq_true_iff]; omega
theorem tn_j {n j : Nat} (hn : n < 2 ^ 31) (h : j < n) : nI j < nI n := nI_lt h hn
/-- one of the first few ints -/
theorem few {w : Int32} {m : Nat} {hi : Int32} (hm : hi.toInt = m) (h : 0 ≤ w ∧ w ≤ hi) : ∃ j, j ≤ m ∧ w = nI j := by
  obtain ⟨h1, h2⟩ := h
  have z : (0 : Int32).toInt = 0 := rfl
  have := i_hi w
  rw [i_le] at h1 h2
  refine ⟨w.toNatClampNeg, ?_, i_nI (by omega)⟩
  have := i_clamp (a := w) (by omega)
  omega
def personS (C : cty) (mo : mty) (p w : Int32) : Int32 :=
  if 0 ≤ p ∧ p < nI (cP C) then (if w = 0 then cF C 0 p.toNatClampNeg else if w = 1 then cF C 1 p.toNatClampNeg else if w = 2 then cF C 2 p.toNatClampNeg else if w = 3 then cF C 2 p.toNatClampNeg &&& (mo.2.1 ^^^ (-1)) else -1) else -1
theorem personC {F : Nat} {A : sty} {N : Nat} {M : mm} {p w : Int32} (hA : AOK A N) (h : RC A N M) : ok (m_X11_person F p w M) (QC A N M (personS (aC A) (aM A) p w)) := by
  obtain ⟨o, d, -, h2, -, h4, h5, -⟩ := id h
  have hP := hA.1.1.1
  have hz : (0 : Int32).toInt = 0 := rfl
  unfold m_X11_person
  have e5 : M.1 5 7 1 = (aM A).2.1 := h4.1.2.1
  rw [h2, h5.1.1.1.1, e5, ok_ite]
  refine ⟨fun q => ?_, fun q => ?_⟩
  · have : personS (aC A) (aM A) p w = -1 := by unfold personS; rw [if_neg (fun q2 => by simp only [i_lt, i_le] at q q2; omega)]
    rw [ok_some, this]; exact QC_same h
  · rw [ok_ite]
    refine ⟨fun q2 => ?_, fun q2 => ?_⟩
    · have hr : 0 ≤ p ∧ p < nI (cP (aC A)) := ⟨by simp only [i_lt, i_le] at q ⊢; omega, q2⟩
      obtain ⟨j, hj, rfl⟩ := ix_of (by omega) hr
      obtain ⟨f0, f1, f2⟩ := h5.1.1.2.1 j hj
      have hin : vp_in (nI j) 6 := vp_in_nI (by omega) (by decide)
      unfold personS
      rw [if_pos hr]
      simp only [ok_ite, ok_gi, ok_some, nI_clamp (show j < 2 ^ 31 by omega), f0, f1, f2]
      refine ⟨fun w0 => ⟨hin, by rw [if_pos w0]; exact QC_same h⟩, fun w0 => ⟨fun w1 => ⟨hin, by rw [if_neg w0, if_pos w1]; exact QC_same h⟩, fun w1 => ⟨fun w2 => ⟨hin, by rw [if_neg w0, if_neg w1, if_pos w2]; exact QC_same h⟩, fun w2 => ⟨fun w3 => ⟨hin, by rw [if_neg w0, if_neg w1, if_neg w2, if_pos w3]; exact QC_same h⟩, fun w3 => by rw [if_neg w0, if_neg w1, if_neg w2, if_neg w3]; exact QC_same h⟩⟩⟩⟩
    · have : personS (aC A) (aM A) p w = -1 := by unfold personS; rw [if_neg (fun q3 => q2 q3.2)]
      rw [ok_some, this]; exact QC_same h
theorem personM {F : Nat} (hF : 3000 < F) {A : sty} {N : Nat} {M : mm} {p w : Int32} (hA : AOK A N) (h : RM A M) : ok (m_X12_person F p w M) (QM A M (personS (aC A) (aM A) p w)) := by
  have hP := hA.1.1.1
  have h1 : RM A (sI M 13 0 0 0) := RM_fi h thr_f PT_GM
  have q1 : ∀ ans : Int32, QM A M ans (ans, sI M 13 0 0 0) := fun ans => QM_fi h thr_f (fun k n i q => ⟨PT_GM k n i q, by unfold PT at q; omega⟩)
  unfold m_X12_person
  rw [ok_nm, ok_cb]
  refine ok_mono (isPerson_ok h1.1.1) (fun r hr => ?_)
  subst hr
  dsimp only
  rw [ok_ite, decide_eq_true_iff]
  refine ⟨fun hr => ?_, fun q => ?_⟩
  · obtain ⟨j, hj, rfl⟩ := ix_of (by omega) hr
    rw [ok_cb]
    refine ok_mono within_ok (fun r hr2 => ?_)
    subst hr2
    dsimp only
    rw [ok_ite, decide_eq_true_iff]
    unfold personS
    rw [if_pos hr, nI_clamp (by omega)]
    refine ⟨fun hw => ?_, fun q => ?_⟩
    · obtain ⟨m, hm, rfl⟩ := few (m := 3) rfl hw
      obtain ⟨f0, f1⟩ := h1.1.1.2.1 j hj
      have hin : vp_in (nI j) 12 := vp_in_nI (by omega) (by decide)
      rcases (show m = 0 ∨ m = 1 ∨ m = 2 ∨ m = 3 by omega) with rfl | rfl | rfl | rfl
      · rw [if_neg (by decide), if_pos (by decide), if_pos (by decide), ok_gi, ok_some, f0]
        exact ⟨hin, q1 _⟩
      · rw [if_neg (by decide), if_neg (by decide), if_neg (by decide), if_pos (by decide), ok_gi, ok_some, f1]
        exact ⟨hin, q1 _⟩
      · rw [if_pos (by decide), if_pos (by decide), if_neg (by decide), if_neg (by decide), if_pos (by decide), ok_cl]
        refine ok_mono (oathsOf_ok (by omega) hA.1 h1.1.1 hj) (fun r hr3 => ?_)
        subst hr3
        exact ok_some.mpr (q1 _)
      · rw [if_pos (by decide), if_neg (by decide), if_neg (by decide), if_neg (by decide), if_neg (by decide), if_pos (by decide), ok_cl]
        refine ok_mono (oathsOf_ok (by omega) hA.1 h1.1.1 hj) (fun r hr3 => ?_)
        subst hr3
        rw [ok_gi, ok_some, tc1, h1.1.2.2.2.1]
        exact ⟨vp_of (by decide), q1 _⟩
    · have n0 : ¬ w = 0 := fun e => q (by rw [e]; decide)
      have n1 : ¬ w = 1 := fun e => q (by rw [e]; decide)
      have n2 : ¬ w = 2 := fun e => q (by rw [e]; decide)
      have n3 : ¬ w = 3 := fun e => q (by rw [e]; decide)
      rw [if_neg n0, if_neg n1, if_neg n2, if_neg n3]
      exact ok_some.mpr (q1 _)
  · unfold personS
    rw [if_neg q]
    exact ok_some.mpr (q1 _)
def oathS (C : cty) (mo : mty) (x w : Int32) : Int32 :=
  if 0 ≤ x ∧ x < nI (cO C) then (if w = 0 then cF C 3 x.toNatClampNeg else if w = 1 then cF C 4 x.toNatClampNeg else if w = 2 then cF C 5 x.toNatClampNeg else if w = 3 then strS C mo x.toNatClampNeg else if w = 4 then (mo.2.1 >>> (x &&& 31)) &&& 1 else if w = 5 then (mo.2.2.1 >>> (x &&& 31)) &&& 1 else if w = 6 then cF C 6 x.toNatClampNeg else if w = 7 then cF C 7 x.toNatClampNeg else -1) else -1
/-- a call of the class that leaves all but what is noted -/
theorem RC_re {A : sty} {N : Nat} {M M' : mm} {o d : Nat} {P : Nat → Nat → Nat → Prop} (hod : (o = 0 ∧ d = 1) ∨ (o = 1 ∧ d = 0)) (h2 : M.2.2 12 0 6 = o) (h3 : M.2.2 12 0 7 = d) (h4 : RCs A M) (h6 : WhI (aC A) o N M) (f : fi P M M') (hP : ∀ k n i, P k n i → GC k n i ∧ k ≠ 11 ∧ k ≠ 55 ∧ k ≠ 56 ∧ ¬ (k = 5 ∧ n = 0)) (h5 : CS (aC A) o M') : RC A (N + 1) M' := by
  refine ⟨o, d, hod, by rw [f.1]; exact h2, by rw [f.1]; exact h3, RCs_fi h4 (fi_mono f (fun k n i q => (hP k n i q).1)), h5, WhI_up ?_⟩
  have e : ∀ k n i, (k = 11 ∨ k = 55 ∨ k = 56 ∨ (k = 5 ∧ n = 0)) → M'.1 k n i = M.1 k n i := fun k n i hk => fi_I f (fun q => by have := hP k n i q; omega)
  unfold WhI at h6 ⊢
  simp only [e 11 _ _ (Or.inl rfl), e 55 _ _ (Or.inr (Or.inl rfl)), e 56 _ _ (Or.inr (Or.inr (Or.inl rfl))), f.1]
  refine ⟨h6.1, ?_⟩
  rcases h6.2 with q | ⟨a, b, sm, c, q⟩
  · exact Or.inl q
  · exact Or.inr ⟨a, b, sm, MoM_c c (fun j _ => e 5 0 j (Or.inr (Or.inr (Or.inr ⟨rfl, rfl⟩)))), q⟩
theorem oathC {F : Nat} (hF : 2000 < F) {A : sty} {N : Nat} (hN : N ≤ 1000) {M : mm} {x w : Int32} (hA : AOK A N) (h : RC A N M) : ok (m_X11_oath F x w M) (QC A N M (oathS (aC A) (aM A) x w)) := by
  obtain ⟨o, d, hod, h2, h3, h4, h5, h6⟩ := id h
  have hO := hA.1.1.2.1
  unfold m_X11_oath
  rw [ok_cb, h2]
  refine ok_mono (hasOath_ok h5.1) (fun r hr => ?_)
  subst hr
  dsimp only
  rw [ok_ite, decide_eq_true_iff]
  refine ⟨fun hr => ?_, fun q => ?_⟩
  · obtain ⟨j, hj, rfl⟩ := ix_of (by omega) hr
    obtain ⟨m0, m1, m2, m3⟩ := h4.1
    obtain ⟨f3, f4, f5, f6, f7⟩ := h5.1.1.2.2.1 j hj
    have hin : vp_in (nI j) 10 := vp_in_nI (by omega) (by decide)
    unfold oathS
    rw [if_pos hr]
    simp only [ok_ite, ok_gi, ok_some, nI_clamp (show j < 2 ^ 31 by omega), f3, f4, f5, f6, f7, h2, m1, m2, ok_cl]
    refine ⟨fun w0 => ⟨hin, by rw [if_pos w0]; exact QC_same h⟩, fun w0 => ⟨fun w1 => ⟨hin, by rw [if_neg w0, if_pos w1]; exact QC_same h⟩, fun w1 => ⟨fun w2 => ⟨hin, by rw [if_neg w0, if_neg w1, if_pos w2]; exact QC_same h⟩, fun w2 => ⟨fun w3 => ?_, fun w3 => ⟨fun w4 => by rw [if_neg w0, if_neg w1, if_neg w2, if_neg w3, if_pos w4]; exact QC_same h, fun w4 => ⟨fun w5 => by rw [if_neg w0, if_neg w1, if_neg w2, if_neg w3, if_neg w4, if_pos w5]; exact QC_same h, fun w5 => ⟨fun w6 => ⟨hin, by rw [if_neg w0, if_neg w1, if_neg w2, if_neg w3, if_neg w4, if_neg w5, if_pos w6]; exact QC_same h⟩, fun w6 => ⟨fun w7 => ⟨hin, by rw [if_neg w0, if_neg w1, if_neg w2, if_neg w3, if_neg w4, if_neg w5, if_neg w6, if_pos w7]; exact QC_same h⟩, fun w7 => by rw [if_neg w0, if_neg w1, if_neg w2, if_neg w3, if_neg w4, if_neg w5, if_neg w6, if_neg w7]; exact QC_same h⟩⟩⟩⟩⟩⟩⟩⟩
    rw [if_neg w0, if_neg w1, if_neg w2, if_pos w3]
    refine ok_mono (strengthOf_ok hF hA.1 h5.1 h4.1 (MG_y hA.2.1.1 (by omega)) hj) (fun r hr3 => ?_)
    obtain ⟨r1, r2, r3⟩ := hr3
    have f := fi_fr (P := fun k n _ => PL o k n) r3 (fun k n i q => q)
    refine ⟨r1, RC_re hod h2 h3 h4 h6 f (fun k n i q => by unfold PL at q; unfold GC; omega) ⟨r2, fun y hy => ?_⟩, FrC_fi f (fun k n i q => by unfold PL at q; omega)⟩
    unfold lfM
    rw [fr_I r3 (by unfold PL; omega)]; exact h5.2 y hy
  · unfold oathS
    rw [if_neg q]
    exact ok_some.mpr (QC_same h)
theorem oathM {F : Nat} (hF : 3000 < F) {A : sty} {N : Nat} {M : mm} {x w : Int32} (hA : AOK A N) (h : RM A M) : ok (m_X12_oath F x w M) (QM A M (oathS (aC A) (aM A) x w)) := by
  have hO := hA.1.1.2.1
  have h1 : RM A (sI M 13 0 0 0) := RM_fi h thr_f PT_GM
  have q1 : ∀ ans : Int32, QM A M ans (ans, sI M 13 0 0 0) := fun ans => QM_fi h thr_f (fun k n i q => ⟨PT_GM k n i q, by unfold PT at q; omega⟩)
  unfold m_X12_oath
  rw [ok_nm, ok_cb]
  refine ok_mono (isOath_ok h1.1.1) (fun r hr => ?_)
  subst hr
  dsimp only
  rw [ok_ite, decide_eq_true_iff]
  refine ⟨fun hr => ?_, fun q => ?_⟩
  · obtain ⟨j, hj, rfl⟩ := ix_of (by omega) hr
    rw [ok_cb]
    refine ok_mono within_ok (fun r hr2 => ?_)
    subst hr2
    dsimp only
    rw [ok_ite, decide_eq_true_iff]
    unfold oathS
    rw [if_pos hr, nI_clamp (by omega)]
    refine ⟨fun hw => ?_, fun q => ?_⟩
    · obtain ⟨m, hm, rfl⟩ := few (m := 7) rfl hw
      obtain ⟨m0, m1, m2, m3⟩ := h1.1.2.2
      obtain ⟨f3, f4, f5, f6, f7⟩ := h1.1.1.2.2.1 j hj
      have hin : vp_in (nI j) 20 := vp_in_nI (by omega) (by decide)
      rcases (show m = 0 ∨ m = 1 ∨ m = 2 ∨ m = 3 ∨ m = 4 ∨ m = 5 ∨ m = 6 ∨ m = 7 by omega) with rfl | rfl | rfl | rfl | rfl | rfl | rfl | rfl
      · rw [if_neg (by decide), if_pos (by decide), if_pos (by decide), ok_gi, ok_some, f3]
        exact ⟨hin, q1 _⟩
      · rw [if_neg (by decide), if_neg (by decide), if_pos (by decide), if_neg (by decide), if_pos (by decide), ok_gi, ok_some, f4]
        exact ⟨hin, q1 _⟩
      · rw [if_neg (by decide), if_neg (by decide), if_neg (by decide), if_neg (by decide), if_neg (by decide), if_pos (by decide), ok_gi, ok_some, f5]
        exact ⟨hin, q1 _⟩
      · rw [if_pos (by decide), if_neg (by decide), if_pos (by decide), if_neg (by decide), if_neg (by decide), if_neg (by decide), if_pos (by decide), ok_gi, tc1, m1, ok_cl]
        refine ⟨vp_of (by decide), ok_mono (strengthM_ok hF (mo := aM A) hA.1 h1.1.1 m0 m2 hj) (fun r hr3 => ok_some.mpr ?_)⟩
        have f := fi_fr (P := fun k n _ => PB k n) hr3.2 (fun k n i q => q)
        have f' : fi (fun k n i => PT k n i ∨ PB k n) M r.2 := fi_tr (fi_mono thr_f (fun k n i q => Or.inl q)) (fi_mono f (fun k n i q => Or.inr q))
        have := QM_fi (ans := strS (aC A) (aM A) j) h f' (fun k n i q => by unfold PT PB at q; unfold GM; omega)
        rw [← hr3.1] at this ⊢
        exact this
      · rw [if_pos (by decide), if_neg (by decide), if_neg (by decide), if_neg (by decide), if_neg (by decide), if_neg (by decide), if_neg (by decide), if_pos (by decide), ok_gi, ok_some, show nI 4 - (3 : Int32) = 1 by decide, tc1, m1]
        exact ⟨vp_of (by decide), q1 _⟩
      · rw [if_pos (by decide), if_neg (by decide), if_neg (by decide), if_neg (by decide), if_neg (by decide), if_neg (by decide), if_neg (by decide), if_neg (by decide), if_pos (by decide), ok_gi, ok_some, show nI 5 - (3 : Int32) = 2 by decide, tc2, m2]
        exact ⟨vp_of (by decide), q1 _⟩
      · rw [if_pos (by decide), if_pos (by decide), if_pos (by decide), if_neg (by decide), if_neg (by decide), if_neg (by decide), if_neg (by decide), if_neg (by decide), if_neg (by decide), if_pos (by decide), ok_gi, ok_some, f6]
        exact ⟨hin, q1 _⟩
      · rw [if_pos (by decide), if_pos (by decide), if_neg (by decide), if_neg (by decide), if_neg (by decide), if_neg (by decide), if_neg (by decide), if_neg (by decide), if_neg (by decide), if_neg (by decide), if_pos (by decide), ok_gi, ok_some, f7]
        exact ⟨hin, q1 _⟩
    · have n : ∀ k : Int32, 0 ≤ k ∧ k ≤ 7 → ¬ w = k := fun k hk e => q (by rw [e]; exact hk)
      rw [if_neg (n 0 (by decide)), if_neg (n 1 (by decide)), if_neg (n 2 (by decide)), if_neg (n 3 (by decide)), if_neg (n 4 (by decide)), if_neg (n 5 (by decide)), if_neg (n 6 (by decide)), if_neg (n 7 (by decide))]
      exact ok_some.mpr (q1 _)
  · unfold oathS
    rw [if_neg q]
    exact ok_some.mpr (q1 _)
