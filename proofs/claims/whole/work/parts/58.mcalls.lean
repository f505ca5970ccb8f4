/-! the reference's breaks, forgive, raise; years -/
theorem in_iff {x : Int32} {n : Nat} (hn : n ≤ 10) (h : 0 ≤ x ∧ x < nI n) : ∃ j, j < n ∧ x = nI j ∧ x.toNatClampNeg = j := by
  obtain ⟨j, a, b⟩ := ix_of hn h
  exact ⟨j, a, b, by rw [b, nI_clamp (by omega)]⟩
/-- behind the keeping -/
theorem kept {F : Nat} (hF : 1000 < F) {A : sty} {N : Nat} {M M1 : mm} (hA : AOK A N) (h1 : RMo (aC A) (aM A) M1) (hu : UnM M1 (aU A)) (f1 : fi PY M M1) : ok (m_X12_keeps F M1) (fun M6 => RMo (aC A) (aM A) M6 ∧ UnM M6 (pushU (aU A) (aM A)) ∧ fi PY M M6) :=
  ok_mono (keepsM_ok hF hA.2.2.1.1 hu h1.2.2) (fun M6 h6 => ⟨RMo_fr h1 (fr_fi h6.2) (fun k q => by obtain ⟨i, q⟩ := q; omega), h6.1, fi_tr f1 (fi_mono h6.2 (fun k n i q => by unfold PY; omega))⟩)
theorem breaksM {F : Nat} (hF : 3000 < F) {A : sty} {N : Nat} {M : mm} {x : Int32} (hA : AOK A N) (h : RM A M) : ok (m_X12_breaks F x M) (QM (breaksS A x).2 M (breaksS A x).1) := by
  have hO := hA.1.1.2.1
  have h1 : RM A (sI M 13 0 0 0) := RM_fi h thr_f PT_GM
  have q1 : QM A M (-1 : Int32) (-1, sI M 13 0 0 0) := QM_fi h thr_f (fun k n i q => ⟨PT_GM k n i q, by unfold PT at q; omega⟩)
  have f1 : fi PY M (sI M 13 0 0 0) := fi_mono thr_f (fun k n i q => Or.inl q)
  unfold m_X12_breaks
  rw [ok_nm, ok_cb]
  generalize sI M 13 0 0 0 = M1 at h1 q1 f1 ⊢
  refine ok_mono (isOath_ok h1.1.1) (fun r hr => ?_)
  subst hr
  dsimp only
  have no : crackS (aC A) (aM A) x = none → QM (breaksS A x).2 M (breaksS A x).1 (-1, M1) := fun e => by unfold breaksS; rw [e]; exact q1
  rw [ok_ite, decide_eq_true_iff]
  refine ⟨fun hr => ?_, fun q => ok_some.mpr (no (by unfold crackS; rw [if_neg (fun q2 => q ⟨q2.1, q2.2.1⟩)]))⟩
  obtain ⟨j, hj, rfl, hcl⟩ := in_iff hO hr
  rw [ok_cb]
  refine ok_mono (canBreak_ok hA.1 h1.1 hj) (fun r hr2 => ?_)
  subst hr2
  dsimp only
  rw [ok_ite]
  refine ⟨fun q => ?_, fun q => ok_some.mpr (no ?_)⟩
  · simp only [Bool.and_eq_true, Bool.not_eq_true'] at q
    have hc : crackS (aC A) (aM A) (nI j) = some (fallM (aC A) ((aM A).1, (aM A).2.1 ||| bitI (nI j), (aM A).2.2.1, (aM A).2.2.2)) := by
      unfold crackS; rw [hcl, if_pos ⟨hr.1, hr.2, q.2, q.1⟩]
    rw [ok_cv]
    refine ok_mono (kept (by omega) hA h1.1 h1.2.2.1 f1) (fun M6 h6 => ?_)
    obtain ⟨k1, k2, k3⟩ := h6
    obtain ⟨m0, m1, m2, m3⟩ := k1.2.2
    simp only [ok_gi, ok_nm, ok_cl, tc1, m1]
    have f7 : fr (fun k _ => k = 100) M6 (sI M6 100 0 1 ((aM A).2.1 ||| bitI (nI j))) := fr_sI fr_rf rfl
    have h7 : RMo (aC A) ((aM A).1, (aM A).2.1 ||| bitI (nI j), (aM A).2.2.1, (aM A).2.2.2) (sI M6 100 0 1 ((aM A).2.1 ||| bitI (nI j))) := RMo_100 k1 f7 (by unfold MoR; simp [rII, m0, m2, m3])
    refine ⟨vp_of (by decide), vp_of (by decide), ok_mono (falls_ok hF hA.1 h7 hA.2.1.1.2.2.2) (fun r hr3 => ok_some.mpr ?_)⟩
    obtain ⟨r1, r2, r3⟩ := hr3
    have f8 : fi PY M r.2 := fi_tr k3 (fi_tr (fi_fr f7 (fun k n i q => by unfold PY PF; omega)) (fi_fr r3 (fun k n i q => Or.inr (Or.inl q))))
    unfold breaksS
    rw [hc]
    refine ⟨r1, RM_deed h f8 r2 (UnM_fi (UnM_fi k2 (fi_fr f7 (fun k n i q => (q : (fun (k n i : Nat) => k = 100) k n i))) (fun k n i q => by omega)) (fi_fr r3 (fun k n i q => (q : (fun (k n i : Nat) => PF k n) k n i))) (fun k n i q => by unfold PF at q; omega)), PY_M f8⟩
  · unfold crackS
    rw [hcl, if_neg]
    rintro ⟨-, -, a, b⟩
    exact q (by rw [a, b]; rfl)
theorem forgiveM {F : Nat} (hF : 3000 < F) {A : sty} {N : Nat} {M : mm} {x : Int32} (hA : AOK A N) (h : RM A M) : ok (m_X12_forgive F x M) (QM (forgiveS A x).2 M (forgiveS A x).1) := by
  have hO := hA.1.1.2.1
  have h1 : RM A (sI M 13 0 0 0) := RM_fi h thr_f PT_GM
  have q1 : QM A M false (false, sI M 13 0 0 0) := QM_fi h thr_f (fun k n i q => ⟨PT_GM k n i q, by unfold PT at q; omega⟩)
  have f1 : fi PY M (sI M 13 0 0 0) := fi_mono thr_f (fun k n i q => Or.inl q)
  unfold m_X12_forgive
  rw [ok_nm, ok_cb]
  generalize sI M 13 0 0 0 = M1 at h1 q1 f1 ⊢
  refine ok_mono (isOath_ok h1.1.1) (fun r hr => ?_)
  subst hr
  dsimp only
  have no : pardonS (aC A) (aM A) x = none → QM (forgiveS A x).2 M (forgiveS A x).1 (false, M1) := fun e => by unfold forgiveS; rw [e]; exact q1
  rw [ok_ite, decide_eq_true_iff]
  refine ⟨fun hr => ?_, fun q => ok_some.mpr (no (by unfold pardonS; rw [if_neg (fun q2 => q ⟨q2.1, q2.2.1⟩)]))⟩
  obtain ⟨j, hj, rfl, hcl⟩ := in_iff hO hr
  rw [ok_gi, tc1, h1.1.2.2.2.1, ok_ite, b_bit0 _ (show j < 32 by omega)]
  refine ⟨vp_of (by decide), fun q => ok_some.mpr (no ?_), fun q => ?_⟩
  · unfold pardonS
    rw [hcl, if_neg]
    rintro ⟨-, -, a⟩
    rw [a] at q; cases q
  · have q2 : bt (aM A).2.1 j = true := by
      cases e : bt (aM A).2.1 j
      · exact absurd e q
      · rfl
    have hc : pardonS (aC A) (aM A) (nI j) = some (fallM (aC A) ((aM A).1, (aM A).2.1 &&& (bitI (nI j) ^^^ (-1)), (aM A).2.2.1 ||| bitI (nI j), (aM A).2.2.2)) := by
      unfold pardonS; rw [hcl, if_pos ⟨hr.1, hr.2, q2⟩]
    rw [ok_cv]
    refine ok_mono (kept (by omega) hA h1.1 h1.2.2.1 f1) (fun M6 h6 => ?_)
    obtain ⟨k1, k2, k3⟩ := h6
    rw [ok_cv]
    refine ok_mono (forgives_ok k1 (nI j)) (fun M7 h7 => ?_)
    obtain ⟨g1, g2⟩ := h7
    rw [ok_cl]
    refine ok_mono (falls_ok hF hA.1 g1 hA.2.1.1.2.2.2) (fun r hr3 => ok_some.mpr ?_)
    obtain ⟨r1, r2, r3⟩ := hr3
    have f8 : fi PY M r.2 := fi_tr k3 (fi_tr (fi_fr g2 (fun k n i q => by unfold PY PF; omega)) (fi_fr r3 (fun k n i q => Or.inr (Or.inl q))))
    unfold forgiveS
    rw [hc]
    refine ⟨rfl, RM_deed h f8 r2 (UnM_fi (UnM_fi k2 (fi_fr g2 (fun k n i q => (q : (fun (k n i : Nat) => k = 100) k n i))) (fun k n i q => by omega)) (fi_fr r3 (fun k n i q => (q : (fun (k n i : Nat) => PF k n) k n i))) (fun k n i q => by unfold PF at q; omega)), PY_M f8⟩
theorem raiseM {F : Nat} (hF : 3000 < F) {A : sty} {N : Nat} {M : mm} {x : Int32} (hA : AOK A N) (h : RM A M) : ok (m_X12_raise F x M) (QM (raiseS A x).2 M (raiseS A x).1) := by
  have hS := hA.1.1.2.2.1
  have h1 : RM A (sI M 13 0 0 0) := RM_fi h thr_f PT_GM
  have f1 : fi PY M (sI M 13 0 0 0) := fi_mono thr_f (fun k n i q => Or.inl q)
  unfold m_X12_raise
  rw [ok_nm, ok_cb]
  generalize sI M 13 0 0 0 = M1 at h1 f1 ⊢
  refine ok_mono (isStone_ok h1.1.1) (fun r hr => ?_)
  subst hr
  dsimp only
  have no : ∀ M2, liftS (aC A) (aM A) x = none → fi PY M M2 → RMo (aC A) (aM A) M2 → UnM M2 (aU A) → QM (raiseS A x).2 M (raiseS A x).1 (false, M2) := fun M2 e f hm hu => by
    unfold raiseS; rw [e]
    exact ⟨rfl, (RM_deed h f hm hu : RM (sMo A (aM A) (aU A)) M2), PY_M f⟩
  rw [ok_ite, decide_eq_true_iff]
  refine ⟨fun hr => ?_, fun q => ok_some.mpr (no M1 (by unfold liftS; rw [if_neg (fun q2 => q ⟨q2.1, q2.2.1⟩)]) f1 h1.1 h1.2.2.1)⟩
  obtain ⟨j, hj, rfl, hcl⟩ := in_iff hS hr
  rw [ok_cb]
  refine ok_mono (canRaise_ok hF hA.1 h1.1 hA.2.1.1.2.2.2 hj) (fun r hr2 => ?_)
  obtain ⟨b5, M4⟩ := r
  obtain ⟨r1, r2, r3⟩ := hr2
  dsimp only at r1 r2 r3 ⊢
  have f4 : fi PY M M4 := fi_tr f1 (fi_fr r3 (fun k n i q => by unfold PD at q; unfold PY PF; omega))
  have u4 : UnM M4 (aU A) := UnM_fi h1.2.2.1 (fi_fr r3 (fun k n i q => (q : (fun (k n i : Nat) => PD k n) k n i))) (fun k n i q => by unfold PD at q; omega)
  rw [ok_ite, r1]
  cases e : liftS (aC A) (aM A) (nI j) with
  | none => exact ⟨fun q => (by cases q), fun _ => ok_some.mpr (no M4 e f4 r2 u4)⟩
  | some m =>
    refine ⟨fun _ => ?_, fun q => absurd rfl q⟩
    have hm : m = mUp (aM A) ((aM A).2.2.2 ||| bitI (nI j)) := by
      unfold liftS at e
      split at e
      · exact (Option.some.inj e).symm
      · cases e
    rw [ok_cv]
    refine ok_mono (kept (by omega) hA r2 u4 f4) (fun M6 h6 => ?_)
    obtain ⟨k1, k2, k3⟩ := h6
    obtain ⟨m0, m1, m2, m3⟩ := k1.2.2
    simp only [ok_gi, ok_nm, ok_some, tc3, m3]
    have f7 : fr (fun k _ => k = 100) M6 (sI M6 100 0 3 ((aM A).2.2.2 ||| bitI (nI j))) := fr_sI fr_rf rfl
    have f8 : fi PY M (sI M6 100 0 3 ((aM A).2.2.2 ||| bitI (nI j))) := fi_tr k3 (fi_fr f7 (fun k n i q => by unfold PY PF; omega))
    refine ⟨vp_of (by decide), vp_of (by decide), ?_⟩
    unfold raiseS
    rw [e]
    refine ⟨rfl, RM_deed h f8 (RMo_100 k1 f7 (by rw [hm]; unfold MoR mUp; simp [rII, m0, m1, m2, bitI])) (UnM_fi k2 (fi_fr f7 (fun k n i q => (q : (fun (k n i : Nat) => k = 100) k n i))) (fun k n i q => by omega)), PY_M f8⟩
noncomputable def passN (C : cty) (mo : mty) : Nat → mty
  | 0 => mo
  | n + 1 => passS C (passN C mo n)
theorem passN_g {C : cty} {mo : mty} {Y : Nat} (h : MG C mo Y) (hs : MS C mo) : ∀ n, MG C (passN C mo n) (Y + n) ∧ MS C (passN C mo n) := by
  intro n
  induction n with
  | zero => exact ⟨h, hs⟩
  | succ n ih => exact passS_g ih.1
theorem passS_sub {C : cty} {mo : mty} {s : Nat} (hs : s < 32) (h : bt (passS C mo).2.2.2 s = true) : bt mo.2.2.2 s = true := fallS_sub hs h
theorem passN_sub {C : cty} {mo : mty} {s : Nat} (hs : s < 32) : ∀ n, bt (passN C mo n).2.2.2 s = true → bt mo.2.2.2 s = true := by
  intro n
  induction n with
  | zero => exact fun h => h
  | succ n ih => exact fun h => ih (passS_sub hs h)
noncomputable def yearsS (A : sty) (x : Int32) : Int32 × sty := if 1 ≤ x ∧ x ≤ 100 then deedS A (some (passN (aC A) (aM A) x.toNatClampNeg)) (-1) (fun mo => (aM A).2.2.2 &&& (mo.2.2.2 ^^^ (-1))) else (-1, A)
theorem years_in {x : Int32} (h : 1 ≤ x ∧ x ≤ 100) : ∃ n, n ≤ 100 ∧ x = nI n ∧ x.toNatClampNeg = n := by
  have h1 : (1 : Int32).toInt = 1 := rfl
  have h2 : (100 : Int32).toInt = 100 := rfl
  simp only [i_le] at h
  refine ⟨x.toNatClampNeg, ?_, i_nI (by omega), rfl⟩
  have := i_clamp (a := x) (by omega)
  omega
theorem years_g {A : sty} {N : Nat} {x : Int32} (hA : AOK A N) : AOK (yearsS A x).2 (N + 1) := by
  unfold yearsS
  split
  · rename_i q
    obtain ⟨n, h1, -, h3⟩ := years_in q
    rw [h3]
    refine deed_g hA (fun mo e => ?_)
    cases e
    have := passN_g hA.2.1.1 hA.2.1.2 n
    exact ⟨MG_up this.1 (by omega), this.2⟩
  · exact AOK_up hA
theorem yearsC {F : Nat} (hF : 2000 < F) {A : sty} {N : Nat} (hN : N ≤ 1000) {M : mm} {x : Int32} (hA : AOK A N) (h : RC A N M) : ok (m_X11_years F x M) (QC (yearsS A x).2 N M (yearsS A x).1) := by
  obtain ⟨o, d, hod, h2, h3, h4, h5, h6⟩ := id h
  have i1 : (1 : Int32).toInt = 1 := rfl
  unfold m_X11_years
  have no : ¬ (1 ≤ x ∧ x ≤ 100) → QC (yearsS A x).2 N M (yearsS A x).1 (-1, M) := fun q => by unfold yearsS; rw [if_neg q]; exact QC_same h
  rw [ok_ite]
  refine ⟨fun q => ok_some.mpr (no (fun q2 => by simp only [i_lt, i_le] at q q2; omega)), fun q => ?_⟩
  rw [ok_ite]
  refine ⟨fun q2 => ?_, fun q2 => ok_some.mpr (no (fun q3 => q2 q3.2))⟩
  have hin : 1 ≤ x ∧ x ≤ 100 := ⟨by simp only [i_lt, i_le] at q ⊢; omega, q2⟩
  obtain ⟨n, hn, rfl, hcl⟩ := years_in hin
  rw [ok_cv]
  refine ok_mono (copy_ok h4.1 (by omega)) (fun M1 hM1 => ?_)
  obtain ⟨c1, c2⟩ := hM1
  have fc : fi (fun k n i => k = 5 ∧ n = 8) M M1 := fi_fr c2 (fun k n i q => q)
  rw [ok_bd]
  refine ok_mono (Q := fun M5 => CS (aC A) o M5 ∧ MoM 7 M5 (passN (aC A) (aM A) n) ∧ fr (PE o 7) M1 M5) ?_ (fun M5 h5' => ?_)
  · refine ok_for n (fun i z => z.1 = nI i ∧ CS (aC A) o z.2 ∧ MoM 7 z.2 (passN (aC A) (aM A) i) ∧ fr (PE o 7) M1 z.2) 0 (by omega) (by omega) ⟨rfl, CS_fi h5 fc (fun k n i q => by omega), (show MoM 7 M1 (passN (aC A) (aM A) 0) from MoM_fr h4.1 c2 (by omega)), fr_rf⟩ ?_
    rintro i ⟨x2, M3⟩ hi ⟨e1, g1, g2, g3⟩
    dsimp only at e1 g1 g2 g3
    subst e1
    simp only [b_X11_years_1, b_X11_years_1c, ok_ite, nI_leI (show n < 2 ^ 31 by omega) (show i < 2 ^ 31 by omega)]
    refine ⟨fun hc => ok_some.mpr ?_, fun hc => ?_⟩
    · have : i = n := by omega
      subst this
      exact ⟨g1, g2, g3⟩
    · have e6 : M3.2.2 12 0 6 = o := by rw [g3.1, c2.1]; exact h2
      have gg := passN_g hA.2.1.1 hA.2.1.2 i
      rw [ok_cv, e6]
      refine ok_mono (pass_ok hF (Y := 100 * N + i) (by omega) hA.1 g1 g2 gg.1) (fun M4 h4' => ok_some.mpr ⟨by omega, nI_1 i, h4'.1, h4'.2.1, fr_tr g3 h4'.2.2⟩)
  · obtain ⟨g1, g2, g3⟩ := h5'
    have := deedC (F := F) (ans := fun M4 => (M4.1 5 8 3) &&& ((M4.1 5 7 3) ^^^ (-1))) (e := some (passN (aC A) (aM A) n)) (no := (-1 : Int32)) (yes := fun mo => (aM A).2.2.2 &&& (mo.2.2.2 ^^^ (-1))) (r := (true, M5)) hA hod h2 h3 h4 h6 c1 c2 ⟨rfl, g1, g2, g3⟩ (fun mo M' _ m7 m8 => by rw [m7.2.2.2, m8.2.2.2])
    rw [if_pos rfl] at this
    unfold yearsS
    rw [if_pos hin, hcl]
    exact this
theorem yearsM {F : Nat} (hF : 3000 < F) {A : sty} {N : Nat} (hN : N ≤ 1000) {M : mm} {x : Int32} (hA : AOK A N) (h : RM A M) : ok (m_X12_years F x M) (QM (yearsS A x).2 M (yearsS A x).1) := by
  have h1 : RM A (sI M 13 0 0 0) := RM_fi h thr_f PT_GM
  have q1 : QM A M (-1 : Int32) (-1, sI M 13 0 0 0) := QM_fi h thr_f (fun k n i q => ⟨PT_GM k n i q, by unfold PT at q; omega⟩)
  have f1 : fi PY M (sI M 13 0 0 0) := fi_mono thr_f (fun k n i q => Or.inl q)
  unfold m_X12_years
  rw [ok_nm, ok_cb]
  generalize sI M 13 0 0 0 = M1 at h1 q1 f1 ⊢
  refine ok_mono within_ok (fun r hr => ?_)
  subst hr
  dsimp only
  unfold yearsS
  rw [ok_ite, decide_eq_true_iff]
  refine ⟨fun hin => ?_, fun q => ok_some.mpr (by rw [if_neg q]; exact q1)⟩
  obtain ⟨n, hn, rfl, hcl⟩ := years_in hin
  rw [if_pos hin, hcl, ok_cv]
  refine ok_mono (kept (by omega) hA h1.1 h1.2.2.1 f1) (fun M6 h6 => ?_)
  obtain ⟨k1, k2, k3⟩ := h6
  rw [ok_bd]
  refine ok_mono (Q := fun z => z.1 = (aM A).2.2.2 &&& ((passN (aC A) (aM A) n).2.2.2 ^^^ (-1)) ∧ RMo (aC A) (passN (aC A) (aM A) n) z.2 ∧ fr PF M6 z.2) ?_ (fun z hz => ?_)
  · refine ok_for n (fun i z => z.2.1 = nI i ∧ z.1 = (aM A).2.2.2 &&& ((passN (aC A) (aM A) i).2.2.2 ^^^ (-1)) ∧ RMo (aC A) (passN (aC A) (aM A) i) z.2.2 ∧ fr PF M6 z.2.2) 0 (by omega) (by omega) ⟨rfl, ?_, (show RMo (aC A) (passN (aC A) (aM A) 0) M6 from k1), fr_rf⟩ ?_
    · refine b_ext (fun i hi => ?_)
      show bt 0 i = bt ((aM A).2.2.2 &&& ((aM A).2.2.2 ^^^ (-1))) i
      rw [b_0, b_and, b_not _ hi]; simp
    · rintro i ⟨x5, x6, M7⟩ hi ⟨e1, e2, g1, g2⟩
      dsimp only at e1 e2 g1 g2
      subst e1; subst e2
      simp only [b_X12_years_1, b_X12_years_1c, ok_ite, nI_leI (show n < 2 ^ 31 by omega) (show i < 2 ^ 31 by omega)]
      refine ⟨fun hc => ok_some.mpr ?_, fun hc => ?_⟩
      · have : i = n := by omega
        subst this
        exact ⟨rfl, g1, g2⟩
      · have gg := passN_g hA.2.1.1 hA.2.1.2 i
        rw [ok_cl]
        refine ok_mono (passes_ok hF hA.1 g1 gg.1.2.2.2) (fun r hr => ?_)
        obtain ⟨r1, r2, r3⟩ := hr
        rw [ok_nm, ok_some]
        refine ⟨by omega, nI_1 i, ?_, r2, fr_tr g2 r3⟩
        dsimp only
        rw [r1]
        refine b_ext (fun s hs => ?_)
        have s1 : bt (passN (aC A) (aM A) (i + 1)).2.2.2 s = true → bt (passN (aC A) (aM A) i).2.2.2 s = true := fun q => passS_sub hs q
        have s2 : bt (passN (aC A) (aM A) i).2.2.2 s = true → bt (aM A).2.2.2 s = true := passN_sub hs i
        show bt (_ ||| ((passN (aC A) (aM A) i).2.2.2 &&& ((passN (aC A) (aM A) (i + 1)).2.2.2 ^^^ (-1)))) s = _
        rw [b_or, b_and, b_and, b_and, b_not _ hs, b_not _ hs]
        cases a : bt (passN (aC A) (aM A) (i + 1)).2.2.2 s <;> cases b : bt (passN (aC A) (aM A) i).2.2.2 s <;> cases c : bt (aM A).2.2.2 s <;> simp [a, b, c] at s1 s2 ⊢
  · obtain ⟨z1, z2, z3⟩ := hz
    have f8 : fi PY M z.2 := fi_tr k3 (fi_fr z3 (fun k n i q => Or.inr (Or.inl q)))
    obtain ⟨x11, M12⟩ := z
    exact ok_some.mpr ⟨z1, RM_deed h f8 z2 (UnM_fi k2 (fi_fr z3 (fun k n i q => (q : (fun (k n i : Nat) => PF k n) k n i))) (fun k n i q => by unfold PF at q; omega)), PY_M f8⟩
