theorem gainsM {F : Nat} (hF : 3000 < F) {A : sty} {N : Nat} {M : mm} {p b : Nat} (hA : AOK A N) (h : RM A M) (hp : p < cP (aC A)) (hb : b < 2 ^ cP (aC A)) : ok (m_X12_gains F (nI p) (nI b) M) (QM A M (gaN (aC A) (aM A) b p (cS (aC A)))) := by
  have hP := hA.1.1.1
  have hp2 := p2_le (show cP (aC A) ≤ 10 by omega)
  have e0 : ∀ n : Nat, n < 2 ^ 31 → (0 : Int32) ≤ nI n := fun n hn => (nI_leI (by omega) hn : nI 0 ≤ nI n ↔ 0 ≤ n).mpr (Nat.zero_le _)
  unfold m_X12_gains
  rw [ok_cb]
  refine ok_mono (isPerson_ok h.1.1) (fun r hr => ?_)
  subst hr
  dsimp only
  rw [ok_bd]
  refine ok_mono (Q := fun v => v = (0 : Int32)) ?_ (fun v hv => ?_)
  · refine ok_jn (P := False) (fun q => q.elim) (fun k _ => ?_)
    rw [ok_ite, decide_eq_true_iff]
    refine ⟨fun _ => ?_, fun q => absurd ⟨e0 p (by omega), (nI_ltI (by omega) (by omega)).mpr hp⟩ q⟩
    rw [ok_ite]
    refine ⟨fun q => absurd q (nI_pos (by omega)), fun _ => ?_⟩
    rw [ok_gi, tc0, h.1.1.1.1, sh_pow _ (show cP (aC A) ≤ 10 by omega), ok_ite, nI_leI (by omega) (by omega)]
    exact ⟨vp_of (by decide), fun q => absurd q (by omega), fun _ => ok_some.mpr rfl⟩
  · subst hv
    rw [ok_nm]
    have h1 : RM A (sI M 13 0 0 0) := RM_fi h thr_f PT_GM
    have f1 : fi PV M (sI M 13 0 0 0) := fi_mono thr_f (fun k n i q => Or.inl q)
    have e : (sI M 13 0 0 0).1 13 0 0 = 0 := by rw [rII, if_pos ⟨rfl, rfl, rfl⟩]
    generalize sI M 13 0 0 0 = M1 at h1 f1 e ⊢
    rw [ok_ite, e]
    refine ⟨fun q => absurd q (by decide), fun _ => ?_⟩
    rw [ok_cl]
    refine ok_mono (hasBy_ok hF hA.1 h1.1 hA.2.1.1.2.2.2 hp) (fun r hr => ok_some.mpr ?_)
    obtain ⟨r1, r2, r3⟩ := hr
    have f2 : fi PV M r.2 := fi_tr f1 (fi_fr r3 (fun k n i q => Or.inr q))
    exact ⟨r1, (RM_pv h f2 r2).1, (RM_pv h f2 r2).2⟩
