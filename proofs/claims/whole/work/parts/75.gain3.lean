/-! gains, where it answers -/
theorem gainsC {F : Nat} (hF : 3000 < F) {A : sty} {N : Nat} (hN : N ≤ 1000) {M : mm} {p b : Nat} (hA : AOK A N) (h : RC A N M) (hp : p < cP (aC A)) (hb : b < 2 ^ cP (aC A)) : ok (m_X11_gains F (nI p) (nI b) M) (QC A N M (gaN (aC A) (aM A) b p (cS (aC A)))) := by
  obtain ⟨o, d, hod, h2, h3, h4, h5, h6⟩ := id h
  have hP := hA.1.1.1
  have hp2 := p2_le (show cP (aC A) ≤ 10 by omega)
  unfold m_X11_gains
  refine ok_jn (P := False) (fun q => q.elim) (fun k _ => ?_)
  rw [ok_ite]
  refine ⟨fun q => absurd q (nI_pos (by omega)), fun _ => ?_⟩
  rw [h2, h5.1.1.1.1, ok_ite, nI_leI (by omega) (by omega)]
  refine ⟨fun q => absurd q (by omega), fun _ => ?_⟩
  rw [ok_ite]
  refine ⟨fun q => absurd q (nI_pos (by omega)), fun _ => ?_⟩
  rw [sh_pow _ (show cP (aC A) ≤ 10 by omega), ok_ite, nI_ltI (by omega) (by omega)]
  refine ⟨fun _ => ?_, fun q => absurd hb q⟩
  rw [ok_cv]
  refine ok_mono (look_ok hN hA.1 h5 h6 h4.1) (fun M1 hM1 => ?_)
  obtain ⟨S, hS, l1, f1⟩ := hM1
  rw [ok_cv]
  refine ok_mono (choose_ok hF (by omega) (Y := 100 * N) (by omega) hA.1 hA.2.1.1 l1 b) (fun M2 hM2 => ?_)
  obtain ⟨c2, l2, f2⟩ := hM2
  have hrc : RC A (N + 1) M2 ∧ FrC M M2 := RC_lk hA hod h2 h3 h4 hS l2 (FK_tr (FK_mono f1 (fun k n i q => Or.inl q)) (FK_mono (FK_fi f2) (fun k n i q => by
    rcases q with q | q | q
    · exact Or.inr (Or.inl q)
    · exact Or.inl (Or.inl q.1)
    · exact Or.inr (Or.inl (Or.inl (by unfold PW; omega))))))
  rw [ok_cl]
  refine ok_mono (gainOf_ok (by omega) hA.1 l2 hp c2) (fun r hr => ?_)
  subst hr
  exact ok_some.mpr ⟨rfl, hrc⟩
