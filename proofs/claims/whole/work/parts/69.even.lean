/-! what broken answers -/
def evN (t : Int32) (c : Nat → Int32) : Nat → Int32 × Int32
  | 0 => (-1, 0)
  | n + 1 => if (if t - c n ≤ c n then t - c n else c n) ≤ (evN t c n).2 then evN t c n else (nI n, if t - c n ≤ c n then t - c n else c n)
theorem evN_c {t : Int32} {c c' : Nat → Int32} : ∀ n, (∀ s, s < n → c s = c' s) → evN t c n = evN t c' n := by
  intro n
  induction n with
  | zero => intro _; rfl
  | succ n ih =>
    intro h
    simp only [evN, ih (fun s hs => h s (by omega)), h n (by omega)]
theorem evenest_ok {F : Nat} (hF : 1000 < F) {C : cty} {o S : Nat} {M : mm} {mo : mty} (hw : WF C) (h : LK C o mo S M) :
    ok (m_X10_evenestStone F M) (fun r => r = ((evN (M.1 11 0 12) (M.1 58 0) (cS C)).1, M)) := by
  have hS' := hw.1.2.2.1
  obtain ⟨⟨a7, ao, am, a8, a6⟩, -, -, acs⟩ := id h
  unfold m_X10_evenestStone
  rw [ok_bd]
  refine ok_mono (Q := fun v => v = (evN (M.1 11 0 12) (M.1 58 0) (cS C)).1) ?_ (fun v hv => by subst hv; exact ok_some.mpr rfl)
  refine ok_for (cS C) (fun i z => z.2.2 = nI i ∧ (z.1, z.2.1) = evN (M.1 11 0 12) (M.1 58 0) i) 0 (by omega) (by omega) ⟨rfl, rfl⟩ ?_
  rintro i ⟨x1, x2, x3⟩ hi ⟨e1, e2⟩
  dsimp only at e1 e2
  subst e1
  simp only [b_X10_evenestStone_1, b_X10_evenestStone_1c]
  rw [ao, acs.1.1.1.2.2.1, ok_ite, nI_leI (by omega) (by omega)]
  refine ⟨fun hc => ok_some.mpr ?_, fun hc => ?_⟩
  · have : i = cS C := by omega
    subst this; rw [← e2]; rfl
  have hin : vp_in (nI i) 10 := vp_in_nI (by omega) (by decide)
  rw [ok_gi, ok_gi, ok_bd, nI_clamp (by omega)]
  refine ⟨hin, hin, ?_⟩
  refine ok_mono (Q := fun v => v = if M.1 11 0 12 - M.1 58 0 i ≤ M.1 58 0 i then M.1 11 0 12 - M.1 58 0 i else M.1 58 0 i) ?_ (fun v hv => ?_)
  · rw [ok_ite]
    exact ⟨fun q => by rw [ok_gi, ok_some, if_pos q]; exact ⟨hin, rfl⟩, fun q => by rw [ok_gi, ok_some, if_neg q]; exact ⟨hin, rfl⟩⟩
  · subst hv
    rw [ok_bd]
    refine ok_mono (Q := fun z => z = evN (M.1 11 0 12) (M.1 58 0) (i + 1)) ?_ (fun z hz => ?_)
    · show ok _ (fun z => z = if _ ≤ (evN (M.1 11 0 12) (M.1 58 0) i).2 then evN (M.1 11 0 12) (M.1 58 0) i else (nI i, _))
      rw [← e2, ok_ite]
      exact ⟨fun q => ok_some.mpr (if_pos q).symm, fun q => ok_some.mpr (if_neg q).symm⟩
    · obtain ⟨x5, x6⟩ := z
      exact ok_some.mpr ⟨by omega, nI_1 i, hz⟩
noncomputable def brokenS (A : sty) (few w : Int32) : Int32 :=
  if 0 ≤ few ∧ few ≤ 10 ∧ 0 ≤ w ∧ w ≤ 3 then
    (if brC (BrP (aC A) (aM A) (aH A) few) (2 ^ cO (aC A)) = 0 then -1
     else if w = 0 then brC (BrP (aC A) (aM A) (aH A) few) (2 ^ cO (aC A))
     else if w = 1 then brA (BrP (aC A) (aM A) (aH A) few) (looseS (aC A) (aM A)) (2 ^ cO (aC A))
     else if w = 2 then brO (BrP (aC A) (aM A) (aH A) few) (2 ^ cO (aC A))
     else (evN (brC (BrP (aC A) (aM A) (aH A) few) (2 ^ cO (aC A))) (fun s => brS (BrP (aC A) (aM A) (aH A) few) (upN (aC A) (aM A)) s (2 ^ cO (aC A))) (cS (aC A))).1)
  else -1
theorem brokenC {F : Nat} (hF : 3000 < F) {A : sty} {N : Nat} (hN : N ≤ 1000) {M : mm} {x w : Int32} (hA : AOK A N) (h : RC A N M) : ok (m_X11_broken F x w M) (QC A N M (brokenS A x w)) := by
  obtain ⟨o, d, hod, h2, h3, h4, h5, h6⟩ := id h
  have no : ¬ (0 ≤ x ∧ x ≤ 10 ∧ 0 ≤ w ∧ w ≤ 3) → QC A N M (brokenS A x w) (-1, M) := fun q => by
    unfold brokenS; rw [if_neg q]; exact QC_same h
  have z : (0 : Int32).toInt = 0 := rfl
  have t10 : (10 : Int32).toInt = 10 := rfl
  unfold m_X11_broken
  rw [ok_ite]
  refine ⟨fun q => ok_some.mpr (no (fun q2 => by simp only [i_lt, i_le] at q q2; omega)), fun q1 => ?_⟩
  rw [ok_ite]
  refine ⟨fun q => ok_some.mpr (no (fun q2 => by simp only [i_lt, i_le] at q q2; omega)), fun q2 => ?_⟩
  rw [ok_ite]
  refine ⟨fun q => ok_some.mpr (no (fun q2 => by simp only [i_lt, i_le] at q q2; omega)), fun q3 => ?_⟩
  rw [ok_ite]
  refine ⟨fun q4 => ?_, fun q => ok_some.mpr (no (fun q2 => q q2.2.2.2))⟩
  have hin : 0 ≤ x ∧ x ≤ 10 ∧ 0 ≤ w ∧ w ≤ 3 := by
    refine ⟨?_, ?_, ?_, q4⟩
    · simp only [i_lt, i_le] at q1 ⊢; omega
    · simp only [i_lt, i_le] at q2 ⊢; omega
    · simp only [i_lt, i_le] at q3 ⊢; omega
  rw [ok_cv, h2]
  refine ok_mono (look_ok hN hA.1 h5 h6 h4.1) (fun M1 hM1 => ?_)
  obtain ⟨S, hS, l1, f1⟩ := hM1
  have hHd : ∀ s b, (s, b) ∈ aH A → s < 32 := fun s b hs => by
    have a1 : s < cS (aC A) := hA.2.2.2.2.2.1.2 (s, b) hs
    have a2 := hA.1.1.2.2.1
    omega
  have t1 : ToH 0 M1 (aH A) := by
    have e9 : ∀ i, M1.1 9 0 i = M.1 9 0 i := fun i => FK_I f1 (by unfold PK; omega)
    have ht := h4.2.2.2.2.1
    unfold ToH at ht ⊢
    rw [e9, e9, e9]; exact ht
  rw [ok_cv]
  refine ok_mono (findSets_ok hF (by omega) (Y := 100 * N) (by omega) hA.1 hA.2.1.1 l1 t1 hHd) (fun M2 hM2 => ?_)
  obtain ⟨⟨b12, b13, b14, b58⟩, l2, f2⟩ := hM2
  have hrc : RC A (N + 1) M2 ∧ FrC M M2 := RC_lk hA hod h2 h3 h4 hS l2 (FK_tr (FK_mono f1 (fun k n i q => Or.inl q)) (FK_mono (FK_fi f2) (fun k n i q => by
    rcases q with q | q | q
    · exact Or.inr (Or.inl q)
    · exact Or.inl (Or.inl q.1)
    · exact Or.inr (Or.inr (Or.inl (by omega))))))
  unfold brokenS
  rw [if_pos hin, b12, b13, b14]
  rw [ok_ite]
  refine ⟨fun q => ok_some.mpr (by rw [if_pos q]; exact ⟨rfl, hrc⟩), fun q => ?_⟩
  rw [if_neg q, ok_ite]
  refine ⟨fun q => ok_some.mpr (by rw [if_pos q]; exact ⟨rfl, hrc⟩), fun q => ?_⟩
  rw [if_neg q, ok_ite]
  refine ⟨fun q => ok_some.mpr (by rw [if_pos q]; exact ⟨rfl, hrc⟩), fun q => ?_⟩
  rw [if_neg q, ok_ite]
  refine ⟨fun q => ok_some.mpr (by rw [if_pos q]; exact ⟨rfl, hrc⟩), fun q => ?_⟩
  rw [if_neg q, ok_cl]
  refine ok_mono (evenest_ok (by omega) hA.1 l2) (fun r hr => ?_)
  subst hr
  refine ok_some.mpr ⟨?_, hrc⟩
  show (evN (M2.1 11 0 12) (M2.1 58 0) _).1 = _
  rw [b12, evN_c (cS (aC A)) b58]
