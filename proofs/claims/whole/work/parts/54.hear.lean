/-! stone, count, hear -/
def stoneS (C : cty) (mo : mty) (x w : Int32) : Int32 :=
  if 0 ≤ x ∧ x < nI (cS C) then (if w = 0 then cF C 8 x.toNatClampNeg else if w = 1 then cF C 9 x.toNatClampNeg else if w = 2 then (mo.2.2.2 >>> (x &&& 31)) &&& 1 else if w = 3 then rS C mo.2.2.2 x.toNatClampNeg else if w = 4 then cF C 11 x.toNatClampNeg else -1) else -1
theorem stoneC {F : Nat} (hF : 2000 < F) {A : sty} {N : Nat} {M : mm} {x w : Int32} (hA : AOK A N) (h : RC A N M) : ok (m_X11_stone F x w M) (QC A N M (stoneS (aC A) (aM A) x w)) := by
  obtain ⟨o, d, hod, h2, h3, h4, h5, h6⟩ := id h
  have hS := hA.1.1.2.2.1
  unfold m_X11_stone
  rw [ok_cb, h2]
  refine ok_mono (hasStone_ok h5.1) (fun r hr => ?_)
  subst hr
  dsimp only
  rw [ok_ite, decide_eq_true_iff]
  refine ⟨fun hr => ?_, fun q => ?_⟩
  · obtain ⟨j, hj, rfl⟩ := ix_of (by omega) hr
    obtain ⟨m0, m1, m2, m3⟩ := h4.1
    obtain ⟨f8, f9, f10, f11⟩ := h5.1.1.2.2.2.1 j hj
    have hin : vp_in (nI j) 10 := vp_in_nI (by omega) (by decide)
    unfold stoneS
    rw [if_pos hr]
    simp only [ok_ite, ok_gi, ok_some, nI_clamp (show j < 2 ^ 31 by omega), f8, f9, f11, h2, m3, ok_cv]
    refine ⟨fun w0 => ⟨hin, by rw [if_pos w0]; exact QC_same h⟩, fun w0 => ⟨fun w1 => ⟨hin, by rw [if_neg w0, if_pos w1]; exact QC_same h⟩, fun w1 => ⟨fun w2 => by rw [if_neg w0, if_neg w1, if_pos w2]; exact QC_same h, fun w2 => ⟨fun w3 => ?_, fun w3 => ⟨fun w4 => ⟨hin, by rw [if_neg w0, if_neg w1, if_neg w2, if_neg w3, if_pos w4]; exact QC_same h⟩, fun w4 => by rw [if_neg w0, if_neg w1, if_neg w2, if_neg w3, if_neg w4]; exact QC_same h⟩⟩⟩⟩⟩
    rw [if_neg w0, if_neg w1, if_neg w2, if_pos w3]
    refine ok_mono (settle_ok hF hA.1 h5.1.1 (aM A).2.2.2) (fun M' hr3 => ?_)
    obtain ⟨r3, r4⟩ := hr3
    have f := fi_fr (P := fun k _ _ => k = 47) r3 (fun k n i q => q)
    refine ⟨vp_in_nI (by omega) (by decide), by rw [r4 j hj], RC_re hod h2 h3 h4 h6 f (fun k n i q => by unfold GC; omega) ⟨CV_PW h5.1 r3 (fun k n q => by omega), fun y hy => ?_⟩, FrC_fi f (fun k n i q => by omega)⟩
    unfold lfM
    rw [fr_I r3 (by omega)]; exact h5.2 y hy
  · unfold stoneS
    rw [if_neg q]
    exact ok_some.mpr (QC_same h)
theorem stoneM {F : Nat} (hF : 3000 < F) {A : sty} {N : Nat} {M : mm} {x w : Int32} (hA : AOK A N) (h : RM A M) : ok (m_X12_stone F x w M) (QM A M (stoneS (aC A) (aM A) x w)) := by
  have hS := hA.1.1.2.2.1
  have h1 : RM A (sI M 13 0 0 0) := RM_fi h thr_f PT_GM
  have q1 : ∀ ans : Int32, QM A M ans (ans, sI M 13 0 0 0) := fun ans => QM_fi h thr_f (fun k n i q => ⟨PT_GM k n i q, by unfold PT at q; omega⟩)
  unfold m_X12_stone
  rw [ok_nm, ok_cb]
  refine ok_mono (isStone_ok h1.1.1) (fun r hr => ?_)
  subst hr
  dsimp only
  rw [ok_ite, decide_eq_true_iff]
  refine ⟨fun hr => ?_, fun q => ?_⟩
  · obtain ⟨j, hj, rfl⟩ := ix_of (by omega) hr
    rw [ok_cb]
    refine ok_mono within_ok (fun r hr2 => ?_)
    subst hr2
    dsimp only
    rw [ok_ite, decide_eq_true_iff]
    unfold stoneS
    rw [if_pos hr, nI_clamp (by omega)]
    refine ⟨fun hw => ?_, fun q => ?_⟩
    · obtain ⟨m, hm, rfl⟩ := few (m := 4) rfl hw
      obtain ⟨m0, m1, m2, m3⟩ := h1.1.2.2
      obtain ⟨f8, f9, f10, f11⟩ := h1.1.1.2.2.2.1 j hj
      have hin : vp_in (nI j) 22 := vp_in_nI (by omega) (by decide)
      have hin20 : vp_in (nI j) 20 := vp_in_nI (by omega) (by decide)
      rcases (show m = 0 ∨ m = 1 ∨ m = 2 ∨ m = 3 ∨ m = 4 by omega) with rfl | rfl | rfl | rfl | rfl
      · rw [if_neg (by decide), if_pos (by decide), if_pos (by decide), ok_gi, ok_some, f8]
        exact ⟨hin, q1 _⟩
      · rw [if_neg (by decide), if_neg (by decide), if_pos (by decide), if_neg (by decide), if_pos (by decide), ok_gi, ok_some, f9 hj]
        exact ⟨hin20, q1 _⟩
      · rw [if_neg (by decide), if_neg (by decide), if_neg (by decide), if_neg (by decide), if_neg (by decide), if_pos (by decide), ok_gi, ok_some, tc3, m3]
        exact ⟨vp_of (by decide), q1 _⟩
      · rw [if_pos (by decide), if_neg (by decide), if_neg (by decide), if_neg (by decide), if_neg (by decide), if_pos (by decide), ok_gi, ok_cv, tc3, m3]
        refine ⟨vp_of (by decide), ok_mono (laysRests_ok (by omega)) (fun M' hM' => ?_)⟩
        have f := fi_fr (P := fun k _ _ => k = 106) hM'.1 (fun k n i q => q)
        have f' : fi (fun k n i => PT k n i ∨ k = 106) M M' := fi_tr (fi_mono thr_f (fun k n i q => Or.inl q)) (fi_mono f (fun k n i q => Or.inr q))
        have e : M'.1 106 0 j = rS (aC A) (aM A).2.2.2 j := by
          rw [hM'.2 j (by omega)]
          have h4 := h1.1.1.2.2.2.1
          exact rs_c (n := j + 1) (fun t ht => ⟨(h4 t (by omega)).2.2.1, (h4 t (by omega)).2.2.2⟩) (fun _ _ => rfl) j (by omega)
        rw [ok_gi, ok_some, e]
        exact ⟨vp_in_nI (by omega) (by decide), QM_fi h f' (fun k n i q => by unfold PT at q; unfold GM; omega)⟩
      · rw [if_pos (by decide), if_pos (by decide), if_neg (by decide), if_neg (by decide), if_neg (by decide), if_neg (by decide), if_pos (by decide), ok_gi, ok_some, f11]
        exact ⟨hin, q1 _⟩
    · have n : ∀ k : Int32, 0 ≤ k ∧ k ≤ 4 → ¬ w = k := fun k hk e => q (by rw [e]; exact hk)
      rw [if_neg (n 0 (by decide)), if_neg (n 1 (by decide)), if_neg (n 2 (by decide)), if_neg (n 3 (by decide)), if_neg (n 4 (by decide))]
      exact ok_some.mpr (q1 _)
  · unfold stoneS
    rw [if_neg q]
    exact ok_some.mpr (q1 _)
def countS (A : sty) (w : Int32) : Int32 :=
  if w = 0 then nI (cP (aC A)) else if w = 1 then nI (cO (aC A)) else if w = 2 then nI (cS (aC A)) else if w = 3 then (aM A).1 else if w = 4 then nI (popN (aM A).2.1) else if w = 5 then nI (popN (aM A).2.2.2) else if w = 6 then wtI (aC A) (aM A).2.2.2 else if w = 7 then nI (aL A).length else if w = 8 then nI (aH A).length else if w = 9 then nI (leansN (aC A)) else if w = 10 then nI (clashN (aC A)) else if w = 11 then nI (aU A).length else if w = 12 then nI (aT A).length else -1
theorem countC {F : Nat} (hF : 2000 < F) {A : sty} {N : Nat} {M : mm} {w : Int32} (hA : AOK A N) (h : RC A N M) : ok (m_X11_count F w M) (QC A N M (countS A w)) := by
  obtain ⟨o, d, hod, h2, h3, h4, h5, h6⟩ := id h
  have hS := hA.1.1.2.2.1
  have hO := hA.1.1.2.1
  obtain ⟨⟨m0, m1, m2, m3⟩, u, k, t1, t2, t3⟩ := id h4
  obtain ⟨c1, c2, c3, c4, c5⟩ := h5.1.1.1
  have b4 : ∀ i, i < 32 → bt (aM A).2.1 i = true → i < 11 := fun i hi q => by have := (hA.2.1.1.2.1 i hi q).1; omega
  have b5 : ∀ i, i < 32 → bt (aM A).2.2.2 i = true → i < 11 := fun i hi q => by have := hA.2.1.1.2.2.2 i hi q; omega
  unfold m_X11_count countS
  rw [h2, c1, c2, c3, m0, m1, m3, t1.1, t2.1, u.1, t3.1]
  simp only [ok_ite, ok_some, ok_cl]
  refine ⟨fun w0 => by rw [if_pos w0]; exact QC_same h, fun w0 => ⟨fun w1 => by rw [if_neg w0, if_pos w1]; exact QC_same h, fun w1 => ⟨fun w2 => by rw [if_neg w0, if_neg w1, if_pos w2]; exact QC_same h, fun w2 => ⟨fun w3 => by rw [if_neg w0, if_neg w1, if_neg w2, if_pos w3]; exact QC_same h, fun w3 => ⟨fun w4 => ?_, fun w4 => ⟨fun w5 => ?_, fun w5 => ⟨fun w6 => ?_, fun w6 => ⟨fun w7 => ?_, fun w7 => ⟨fun w8 => ?_, fun w8 => ⟨fun w9 => ?_, fun w9 => ⟨fun w10 => ?_, fun w10 => ⟨fun w11 => ?_, fun w11 => ⟨fun w12 => ?_, fun w12 => ?_⟩⟩⟩⟩⟩⟩⟩⟩⟩⟩⟩⟩⟩
  · rw [if_neg w0, if_neg w1, if_neg w2, if_neg w3, if_pos w4]
    exact ok_mono (bitCount_ok b4) (fun r hr => by subst hr; exact QC_same h)
  · rw [if_neg w0, if_neg w1, if_neg w2, if_neg w3, if_neg w4, if_pos w5]
    exact ok_mono (bitCount_ok b5) (fun r hr => by subst hr; exact QC_same h)
  · rw [if_neg w0, if_neg w1, if_neg w2, if_neg w3, if_neg w4, if_neg w5, if_pos w6]
    exact ok_mono (weightOf_ok (by omega) hA.1 h5.1.1 _) (fun r hr => by subst hr; exact QC_same h)
  · rw [if_neg w0, if_neg w1, if_neg w2, if_neg w3, if_neg w4, if_neg w5, if_neg w6, if_pos w7]; exact QC_same h
  · rw [if_neg w0, if_neg w1, if_neg w2, if_neg w3, if_neg w4, if_neg w5, if_neg w6, if_neg w7, if_pos w8]; exact QC_same h
  · rw [if_neg w0, if_neg w1, if_neg w2, if_neg w3, if_neg w4, if_neg w5, if_neg w6, if_neg w7, if_neg w8, if_pos w9]
    exact ok_mono (pairs_ok (by omega) hA.1 h5.1.1) (fun r hr => by subst hr; exact QC_same h)
  · rw [if_neg w0, if_neg w1, if_neg w2, if_neg w3, if_neg w4, if_neg w5, if_neg w6, if_neg w7, if_neg w8, if_neg w9, if_pos w10]
    exact ok_mono (clashes_ok (by omega) hA.1 h5.1.1) (fun r hr => by subst hr; exact QC_same h)
  · rw [if_neg w0, if_neg w1, if_neg w2, if_neg w3, if_neg w4, if_neg w5, if_neg w6, if_neg w7, if_neg w8, if_neg w9, if_neg w10, if_pos w11]; exact QC_same h
  · rw [if_neg w0, if_neg w1, if_neg w2, if_neg w3, if_neg w4, if_neg w5, if_neg w6, if_neg w7, if_neg w8, if_neg w9, if_neg w10, if_neg w11, if_pos w12]; exact QC_same h
  · rw [if_neg w0, if_neg w1, if_neg w2, if_neg w3, if_neg w4, if_neg w5, if_neg w6, if_neg w7, if_neg w8, if_neg w9, if_neg w10, if_neg w11, if_neg w12]; exact QC_same h
theorem countM {F : Nat} (hF : 3000 < F) {A : sty} {N : Nat} {M : mm} {w : Int32} (hA : AOK A N) (h : RM A M) : ok (m_X12_count F w M) (QM A M (countS A w)) := by
  have h1 : RM A (sI M 13 0 0 0) := RM_fi h thr_f PT_GM
  have q1 : ∀ ans : Int32, QM A M ans (ans, sI M 13 0 0 0) := fun ans => QM_fi h thr_f (fun k n i q => ⟨PT_GM k n i q, by unfold PT at q; omega⟩)
  obtain ⟨m0, m1, m2, m3⟩ := h1.1.2.2
  obtain ⟨⟨s4, s5⟩, u, k, l, e, t⟩ := h1.2
  obtain ⟨c0, c1, c2, c3⟩ := h1.1.1.1
  unfold m_X12_count
  rw [ok_nm, ok_cb]
  refine ok_mono within_ok (fun r hr2 => ?_)
  subst hr2
  dsimp only
  rw [ok_ite, decide_eq_true_iff]
  refine ⟨fun hw => ?_, fun q => ?_⟩
  · obtain ⟨m, hm, rfl⟩ := few (m := 12) rfl hw
    have lit : ∀ j m : Nat, j < 2 ^ 31 → m < 2 ^ 31 → (nI m = nI j ↔ m = j) := fun j m hj hm => nI_eq hm hj
    rcases (show m = 0 ∨ m = 1 ∨ m = 2 ∨ m = 3 ∨ m = 4 ∨ m = 5 ∨ m = 6 ∨ m = 7 ∨ m = 8 ∨ m = 9 ∨ m = 10 ∨ m = 11 ∨ m = 12 by omega) with rfl | rfl | rfl | rfl | rfl | rfl | rfl | rfl | rfl | rfl | rfl | rfl | rfl
    · rw [if_neg (by decide), ok_gi, ok_some, nI_clamp (by omega), c0]
      exact ⟨vp_of (by decide), q1 _⟩
    · rw [if_neg (by decide), ok_gi, ok_some, nI_clamp (by omega), c1]
      exact ⟨vp_of (by decide), q1 _⟩
    · rw [if_neg (by decide), ok_gi, ok_some, nI_clamp (by omega), c2]
      exact ⟨vp_of (by decide), q1 _⟩
    · rw [if_pos (by decide), if_neg (by decide), if_pos (by decide), ok_gi, ok_some, tc0, m0]
      exact ⟨vp_of (by decide), q1 _⟩
    · rw [if_pos (by decide), if_neg (by decide), if_neg (by decide), ok_bd, if_pos (by decide), ok_gi, ok_some, tc1, m1, ok_cl]
      exact ⟨vp_of (by decide), ok_mono (bits_ok (by omega)) (fun r hr => by subst hr; exact ok_some.mpr (q1 _))⟩
    · rw [if_pos (by decide), if_neg (by decide), if_neg (by decide), ok_bd, if_neg (by decide), ok_gi, ok_some, tc3, m3, ok_cl]
      exact ⟨vp_of (by decide), ok_mono (bits_ok (by omega)) (fun r hr => by subst hr; exact ok_some.mpr (q1 _))⟩
    · rw [if_pos (by decide), if_pos (by decide), if_neg (by decide), if_pos (by decide), ok_gi, ok_cl, tc3, m3]
      exact ⟨vp_of (by decide), ok_mono (weighed_ok (by omega) hA.1 h1.1.1 hA.2.1.1.2.2.2) (fun r hr => by subst hr; exact ok_some.mpr (q1 _))⟩
    · rw [if_pos (by decide), if_pos (by decide), if_neg (by decide), if_neg (by decide), if_pos (by decide), ok_gi, ok_some, tc0, l.1]
      exact ⟨vp_of (by decide), q1 _⟩
    · rw [if_pos (by decide), if_pos (by decide), if_neg (by decide), if_neg (by decide), if_neg (by decide), ok_gi, ok_some, tc0, e.1]
      exact ⟨vp_of (by decide), q1 _⟩
    · rw [if_pos (by decide), if_pos (by decide), if_pos (by decide), if_neg (by decide), ok_gi, ok_some, show nI 9 - (5 : Int32) = 4 by decide, tc4, s4]
      exact ⟨vp_of (by decide), q1 _⟩
    · rw [if_pos (by decide), if_pos (by decide), if_pos (by decide), if_neg (by decide), ok_gi, ok_some, show nI 10 - (5 : Int32) = 5 by decide, tc5, s5]
      exact ⟨vp_of (by decide), q1 _⟩
    · rw [if_pos (by decide), if_pos (by decide), if_pos (by decide), if_pos (by decide), if_pos (by decide), ok_some, u.1]
      exact q1 _
    · rw [if_pos (by decide), if_pos (by decide), if_pos (by decide), if_pos (by decide), if_neg (by decide), ok_some, t.1]
      exact q1 _
  · have n : ∀ k : Int32, 0 ≤ k ∧ k ≤ 12 → ¬ w = k := fun k hk e => q (by rw [e]; exact hk)
    unfold countS
    rw [if_neg (n 0 (by decide)), if_neg (n 1 (by decide)), if_neg (n 2 (by decide)), if_neg (n 3 (by decide)), if_neg (n 4 (by decide)), if_neg (n 5 (by decide)), if_neg (n 6 (by decide)), if_neg (n 7 (by decide)), if_neg (n 8 (by decide)), if_neg (n 9 (by decide)), if_neg (n 10 (by decide)), if_neg (n 11 (by decide)), if_neg (n 12 (by decide))]
    exact ok_some.mpr (q1 _)
