theorem b1023 {j : Nat} (hj : j < 1024) : (1023 : Int32) &&& nI j = nI j := b_ext (fun i hi => by
  have e : bt 1023 i = decide (i < 10) := ones_b 10 (by omega) i hi
  rw [b_and, e, b_nI hi]
  rcases Nat.lt_or_ge i 10 with r | r
  · rw [decide_eq_true r]; rfl
  · rw [Nat.testBit_lt_two_pow (Nat.lt_of_lt_of_le (show j < 2 ^ 10 by omega) (Nat.pow_le_pow_right (by decide) r))]; exact Bool.and_false _)
theorem brA_eq {C : cty} {mo : mty} {H : hty} {few : Int32} (hw : WF C) (h : brC (BrP C mo H few) (2 ^ cO C) ≠ 0) : brA (BrP C mo H few) 1023 (2 ^ cO C) = brA (BrP C mo H few) (looseS C mo) (2 ^ cO C) := by
  have hp := p2_le hw.1.2.1
  rcases brA_i (P := BrP C mo H few) (a := 1023) (b := looseS C mo) (2 ^ cO C) (fun j hj hP => ⟨b1023 (by omega), by rw [Int32.and_comm]; exact lo_and hP.1⟩) with ⟨q, -, -⟩ | ⟨-, q⟩
  · obtain ⟨m, -, m2, m3⟩ := brC_n (P := BrP C mo H few) (2 ^ cO C)
    rw [m2, m3.mpr q] at h
    exact absurd rfl h
  · exact q
theorem brokenM {F : Nat} (hF : 3000 < F) {A : sty} {N : Nat} {M : mm} {x w : Int32} (hA : AOK A N) (h : RM A M) : ok (m_X12_broken F x w M) (QM A M (brokenS A x w)) := by
  have hS' := hA.1.1.2.2.1
  have h1 : RM A (sI M 13 0 0 0) := RM_fi h thr_f PT_GM
  have f1 : fi PZ M (sI M 13 0 0 0) := fi_mono thr_f (fun k n i q => Or.inl (Or.inl q))
  have z : (0 : Int32).toInt = 0 := rfl
  have t3 : (3 : Int32).toInt = 3 := rfl
  have t2 : (2 : Int32).toInt = 2 := rfl
  have t1 : (1 : Int32).toInt = 1 := rfl
  unfold m_X12_broken
  rw [ok_nm, ok_cb]
  generalize sI M 13 0 0 0 = M1 at h1 f1 ⊢
  have no : ¬ (0 ≤ x ∧ x ≤ 10 ∧ 0 ≤ w ∧ w ≤ 3) → QM A M (brokenS A x w) (-1, M1) := fun q => by
    unfold brokenS; rw [if_neg q]
    exact ⟨rfl, (RM_pz h f1 h1.1).1, (RM_pz h f1 h1.1).2⟩
  refine ok_mono within_ok (fun r hr => ?_)
  subst hr
  dsimp only
  rw [ok_ite, decide_eq_true_iff]
  refine ⟨fun q1 => ?_, fun q => ok_some.mpr (no (fun q2 => q ⟨q2.1, q2.2.1⟩))⟩
  rw [ok_cb]
  refine ok_mono within_ok (fun r hr => ?_)
  subst hr
  dsimp only
  rw [ok_ite, decide_eq_true_iff]
  refine ⟨fun q2 => ?_, fun q => ok_some.mpr (no (fun q2 => q q2.2.2))⟩
  rw [ok_cl]
  refine ok_mono (looseM_ok hF hA.1 h1.1) (fun r hr => ?_)
  subst hr
  dsimp only
  rw [ok_bd]
  refine ok_mono (br1_ok (by omega)) (fun M11 h11 => ?_)
  obtain ⟨f11, v11⟩ := h11
  rw [ok_bd]
  refine ok_mono (br2_ok (few := x) hF hA h (RMo_9 h1.1 f11) (fi_tr f1 (fi_mono f11 (fun k n i q => Or.inr q))) v11) (fun r hr => ?_)
  obtain ⟨x35, x36, x37, M38⟩ := r
  obtain ⟨⟨e1, e2, e3, e4⟩, hm, hf⟩ := hr
  dsimp only at e1 e2 e3 e4 hm hf ⊢
  have hrm := RM_pz h hf hm
  unfold brokenS
  rw [if_pos (show 0 ≤ x ∧ x ≤ 10 ∧ 0 ≤ w ∧ w ≤ 3 from ⟨q1.1, q1.2, q2.1, q2.2⟩), ← e1, ok_ite]
  refine ⟨fun q => ok_some.mpr (by rw [if_pos q]; exact ⟨rfl, hrm.1, hrm.2⟩), fun q => ?_⟩
  have ea : x36 = brA (BrP (aC A) (aM A) (aH A) x) (looseS (aC A) (aM A)) (2 ^ cO (aC A)) := by
    rw [e2]; exact brA_eq hA.1 (by rw [← e1]; exact q)
  rw [if_neg q, ← ea, ← e3, ok_ite]
  refine ⟨fun q3 => ?_, fun q3 => ?_⟩
  · have w0 : ¬ w = 0 := fun e => by rw [e] at q3; exact absurd q3 (by decide)
    have w1 : ¬ w = 1 := fun e => by rw [e] at q3; exact absurd q3 (by decide)
    have w2 : ¬ w = 2 := fun e => by rw [e] at q3; exact absurd q3 (by decide)
    rw [if_neg w0, if_neg w1, if_neg w2, ok_bd]
    refine ok_mono (br4_ok (t := x35) (by omega) hA.1 hm) (fun r hr => ?_)
    subst hr
    refine ok_some.mpr ⟨?_, hrm.1, hrm.2⟩
    show (evN x35 (M38.1 109 0) (cS (aC A))).1 = _
    rw [evN_c (cS (aC A)) (fun s hs => e4 s (by omega))]
  · rw [ok_ite]
    refine ⟨fun q4 => ok_some.mpr (by rw [if_pos q4]; exact ⟨rfl, hrm.1, hrm.2⟩), fun q4 => ?_⟩
    rw [if_neg q4, ok_ite]
    refine ⟨fun q5 => ok_some.mpr (by rw [if_pos q5]; exact ⟨rfl, hrm.1, hrm.2⟩), fun q5 => ?_⟩
    have w2 : w = 2 := i_eq.mpr (by
      have a1 := mt i_eq.mpr q4
      have a2 := mt i_eq.mpr q5
      have a3 := q2.1
      simp only [i_le] at q3 a3
      omega)
    rw [if_neg q5, if_pos w2]
    exact ok_some.mpr ⟨rfl, hrm.1, hrm.2⟩
