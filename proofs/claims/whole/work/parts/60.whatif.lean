/-! what if: what was found is noted -/
def FK (P : Nat → Nat → Nat → Prop) (M M' : mm) : Prop := (∀ k n i, ¬ (k = 11 ∧ n = 0 ∧ i = 1) → M'.2.2 k n i = M.2.2 k n i) ∧ ∀ k n i, ¬ P k n i → M'.1 k n i = M.1 k n i ∧ M'.2.1 k n i = M.2.1 k n i
section FKs
variable {P Q : Nat → Nat → Nat → Prop} {M M' M'' : mm}
theorem FK_fi (h : fi P M M') : FK P M M' := ⟨fun k n i _ => by rw [h.1], h.2⟩
theorem FK_tr (h : FK P M M') (k : FK P M' M'') : FK P M M'' := ⟨fun a b c q => (k.1 a b c q).trans (h.1 a b c q), fun a b c q => ⟨((k.2 a b c q).1).trans (h.2 a b c q).1, ((k.2 a b c q).2).trans (h.2 a b c q).2⟩⟩
theorem FK_mono (h : FK P M M') (hq : ∀ k n i, P k n i → Q k n i) : FK Q M M' := ⟨h.1, fun a b c q => h.2 a b c (fun p => q (hq a b c p))⟩
theorem FK_I (h : FK P M M') {k n i : Nat} (hk : ¬ P k n i) : M'.1 k n i = M.1 k n i := (h.2 k n i hk).1
/-- the same with the references as they were -/
theorem FK_back (h : FK P M M') : fi P M (M'.1, M'.2.1, M.2.2) := ⟨rfl, h.2⟩
end FKs
def LK (C : cty) (o : Nat) (mo : mty) (S : Nat) (M : mm) : Prop :=
  (M.1 11 0 7 = 1 ∧ M.2.2 11 0 1 = o ∧ MoM 0 M mo ∧ M.1 11 0 8 = looseS C mo ∧ M.1 11 0 6 = nI S) ∧ (∀ j, j < 1024 → ∃ a, a ≤ S ∧ M.1 56 0 j = nI a) ∧ (∀ j, j < 1024 → M.1 56 0 j = nI S → M.1 55 0 j = fallS C (mo.1, mo.2.1 ||| nI j, mo.2.2.1, mo.2.2.2) mo.2.2.2) ∧ CS C o M
theorem CS_FK {C : cty} {o : Nat} {M M' : mm} {P : Nat → Nat → Nat → Prop} (h : CS C o M) (f : FK P M M') (hP : ∀ k n i, P k n i → k ≠ 1 ∧ k ≠ 3 ∧ ¬ (20 ≤ k ∧ k ≤ 38) ∧ k ≠ 48) : CS C o M' := (CS_fi h (FK_back f) hP : CS C o (M'.1, M'.2.1, M.2.2))
def PK : Nat → Nat → Nat → Prop := fun k n _ => k = 11 ∨ (k = 5 ∧ n = 0)
theorem look_ok {F : Nat} {C : cty} {o N : Nat} (hN : N ≤ 1000) {M : mm} {mo : mty} (hw : WF C) (h5 : CS C o M) (h6 : WhI C o N M) (hm : MoM 7 M mo) :
    ok (m_X10_look F o 7 M) (fun M' => ∃ S, S ≤ N + 1 ∧ LK C o mo S M' ∧ FK PK M M') := by
  have hO := hw.1.2.1
  obtain ⟨⟨S, hS, h11, hst⟩, hfr⟩ := id h6
  have hsh : ∀ n, n ≤ 10 → ((1 : Int32) <<< (nI n &&& 31)) - 1 = nI (2 ^ n - 1) := by decide +kernel
  unfold m_X10_look
  refine ok_jm (P := fun z => z = M) (fun z hz => ?_) (fun j hj => ?_)
  · subst hz
    rw [ok_nm, ok_nm, ok_nm, ok_cv]
    have g6 : (sI z 11 0 7 1).1 11 0 6 = nI S := by rw [rII, if_neg (by omega)]; exact h11
    rw [g6, nI_1]
    have f1 : FK PK z (sR (sI (sI z 11 0 7 1) 11 0 6 (nI (S + 1))) 11 0 1 o) := ⟨fun k n i q => by rw [rRR, if_neg q]; rfl, fun k n i q => ⟨by rw [rRI, rII, if_neg (by unfold PK at q; omega), rII, if_neg (by unfold PK at q; omega)], rfl⟩⟩
    have r1 : (sR (sI (sI z 11 0 7 1) 11 0 6 (nI (S + 1))) 11 0 1 o).2.2 11 0 1 = o := by rw [rRR, if_pos ⟨rfl, rfl, rfl⟩]
    have a6 : (sR (sI (sI z 11 0 7 1) 11 0 6 (nI (S + 1))) 11 0 1 o).1 11 0 6 = nI (S + 1) := by rw [rRI, rII, if_pos ⟨rfl, rfl, rfl⟩]
    have a7 : (sR (sI (sI z 11 0 7 1) 11 0 6 (nI (S + 1))) 11 0 1 o).1 11 0 7 = 1 := by rw [rRI, rII, if_neg (by omega), rII, if_pos ⟨rfl, rfl, rfl⟩]
    generalize sR (sI (sI z 11 0 7 1) 11 0 6 (nI (S + 1))) 11 0 1 o = M6 at f1 r1 a6 a7 ⊢
    refine ok_mono (copy_ok (a := 7) (b := 0) (MoM_c hm (fun j _ => FK_I f1 (by unfold PK; omega))) (by omega)) (fun M7 h7 => ?_)
    obtain ⟨c1, c2⟩ := h7
    have f2 : FK PK z M7 := FK_tr f1 (FK_fi (fi_fr c2 (fun k n i q => Or.inr q)))
    have cs7 : CS C o M7 := CS_FK h5 f2 (fun k n i q => by unfold PK at q; omega)
    have e1 : M7.2.2 11 0 1 = o := by rw [c2.1]; exact r1
    have e51 : M7.1 5 7 1 = mo.2.1 := (fr_I c2 (by omega) 1).trans ((FK_I f1 (by unfold PK; omega)).trans hm.2.1)
    rw [ok_nm, ok_some, e1, cs7.1.1.1.2.1, cs7.1.1.1.2.2.2.2, hsh _ hO, e51]
    have f3 : FK PK z (sI M7 11 0 8 (looseS C mo)) := FK_tr f2 (FK_fi (fi_sI fi_rf (Or.inl rfl)))
    refine ⟨S + 1, by omega, ⟨⟨?_, ?_, ?_, ?_, ?_⟩, fun j hj => ?_, fun j hj q => ?_, CS_FK cs7 (FK_fi (fi_sI fi_rf (show PK 11 0 8 from Or.inl rfl))) (fun k n i q => by unfold PK at q; omega)⟩, f3⟩
    · simp only [rII]; simp; exact (fr_I c2 (by omega) 7).trans a7
    · exact e1
    · exact MoM_c c1 (fun j _ => by rw [rII, if_neg (by omega)])
    · rw [rII, if_pos ⟨rfl, rfl, rfl⟩]; rfl
    · simp only [rII]; simp; exact (fr_I c2 (by omega) 6).trans a6
    · obtain ⟨a, ha, e⟩ := hst j hj
      exact ⟨a, by omega, (FK_I f3 (by unfold PK; omega)).trans e⟩
    · obtain ⟨a, ha, e⟩ := hst j hj
      have := (FK_I f3 (k := 56) (n := 0) (i := j) (by unfold PK; omega)).trans e
      exact absurd ((nI_eq (by omega) (by omega)).mp (this.symm.trans q)) (by omega)
  · rw [ok_ite]
    refine ⟨fun _ => hj M rfl, fun q => ?_⟩
    rcases hfr with q2 | ⟨b7, bo, sm, bm, -, b8, bk⟩
    · exact absurd q2 q
    · unfold m_X4_isLike
      simp only [ok_cb, ok_ite, ok_some]
      obtain ⟨m0, m1, m2, m3⟩ := hm
      obtain ⟨s0, s1, s2, s3⟩ := id bm
      refine ⟨fun q0 => ⟨fun q1 => ⟨fun q2 => ⟨fun q3 => ⟨fun _ => ?_, fun q => absurd trivial q⟩, fun _ => ⟨fun q => (by cases q), fun _ => hj M rfl⟩⟩, fun _ => ⟨fun q => (by cases q), fun _ => hj M rfl⟩⟩, fun _ => ⟨fun q => (by cases q), fun _ => hj M rfl⟩⟩, fun _ => ⟨fun q => (by cases q), fun _ => hj M rfl⟩⟩
      have e : sm = mo := Prod.ext (s0.symm.trans (q0.trans m0)) (Prod.ext (s1.symm.trans (q1.trans m1)) (Prod.ext (s2.symm.trans (q2.trans m2)) (s3.symm.trans (q3.trans m3))))
      subst e
      exact ⟨S, by omega, ⟨⟨b7, bo, bm, b8, h11⟩, hst, fun j hj q => bk j hj (by rw [h11]; exact q), h5⟩, FK_fi fi_rf⟩
def PU (o : Nat) : Nat → Nat → Nat → Prop := fun k n _ => PW o k n ∨ (k = 5 ∧ n = 1) ∨ k = 55 ∨ k = 56
theorem and_loose {C : cty} {mo : mty} (hw : WF C) (x : Int32) : ∃ j, j < 1024 ∧ j < 2 ^ cO C ∧ x &&& looseS C mo = nI j := by
  have h : jn (x &&& looseS C mo) < 2 ^ cO C := jn_lt (fun i hi hb => by
    rw [b_and, Bool.and_eq_true, loose_b hw hi] at hb
    simp at hb; exact hb.2.1.1)
  have hp : 2 ^ cO C ≤ 2 ^ 10 := Nat.pow_le_pow_right (by decide) hw.1.2.1
  exact ⟨jn (x &&& looseS C mo), by omega, h, jn_nI _⟩
theorem upIf_ok {F : Nat} (hF : 2000 < F) {C : cty} {o S Y : Nat} (hS : S < 2 ^ 31) (hY : Y < 2 ^ 31) {M : mm} {mo : mty} (hw : WF C) (hg : MG C mo Y) (h : LK C o mo S M) (x : Int32) :
    ok (m_X10_upIf F x M) (fun r => r.1 = upIfS C mo x ∧ LK C o mo S r.2 ∧ fi (PU o) M r.2) := by
  obtain ⟨⟨a7, ao, am, a8, a6⟩, a56, a55, acs⟩ := id h
  obtain ⟨j, hj, hjO, ej⟩ := and_loose hw (mo := mo) x
  have hin : vp_in (nI j) 1024 := vp_in_nI hj (by decide)
  have hval : upIfS C mo x = fallS C (mo.1, mo.2.1 ||| nI j, mo.2.2.1, mo.2.2.2) mo.2.2.2 := by unfold upIfS; rw [ej]
  unfold m_X10_upIf
  rw [ok_nm, a8, ej, ok_gi, nI_clamp (by omega)]
  refine ⟨hin, ?_⟩
  rw [ok_bd]
  refine ok_mono (Q := fun M8 => M8.1 55 0 j = upIfS C mo x ∧ LK C o mo S M8 ∧ fi (PU o) M M8) ?_ (fun M8 h8 => ?_)
  · rw [ok_ite, a6]
    refine ⟨fun q => ok_some.mpr ⟨by rw [hval]; exact a55 j hj q, h, fi_rf⟩, fun q => ?_⟩
    rw [ok_cv]
    refine ok_mono (copy_ok (b := 1) (a := 0) am (by omega)) (fun M2 h2 => ?_)
    obtain ⟨c1, c2⟩ := h2
    obtain ⟨m0, m1, m2, m3⟩ := id c1
    rw [ok_nm, ok_cl, m1]
    have f1 : fr (fun k n => k = 5 ∧ n = 1) M (sI M2 5 1 1 (mo.2.1 ||| nI j)) := fr_sI c2 ⟨rfl, rfl⟩
    have hm1 : MoM 1 (sI M2 5 1 1 (mo.2.1 ||| nI j)) (mo.1, mo.2.1 ||| nI j, mo.2.2.1, mo.2.2.2) := by unfold MoM; simp [rII, m0, m2, m3]
    have e1 : (sI M2 5 1 1 (mo.2.1 ||| nI j)).2.2 11 0 1 = o := by rw [f1.1]; exact ao
    have e53 : (sI M2 5 1 1 (mo.2.1 ||| nI j)).1 5 0 3 = mo.2.2.2 := (fr_I f1 (by omega) 3).trans am.2.2.2
    have cs1 : CS C o (sI M2 5 1 1 (mo.2.1 ||| nI j)) := CS_5 acs f1
    rw [e1, e53]
    generalize sI M2 5 1 1 (mo.2.1 ||| nI j) = M3 at f1 hm1 e1 e53 cs1 ⊢
    refine ok_mono (standing_ok hF hw cs1.1 hm1 (show mo.1 ≠ -1 from MG_y hg hY) cs1.2 hg.2.2.2) (fun r hr => ?_)
    obtain ⟨x5, M4⟩ := r
    obtain ⟨r1, r2, r3, r4, -⟩ := hr
    dsimp only at r1 r2 r3 r4 ⊢
    have f2 : fi (PU o) M M4 := fi_tr (fi_fr f1 (fun k n i q => Or.inr (Or.inl q))) (fi_fr r3 (fun k n i q => Or.inl q))
    have e6 : ∀ v, (sI M4 55 0 j v).1 11 0 6 = nI S := fun v => by rw [rII, if_neg (by omega), fr_I r3 (by unfold PW; omega), fr_I f1 (by omega)]; exact a6
    rw [ok_gi]
    refine ⟨hin, ?_⟩
    rw [ok_nm, ok_gi]
    refine ⟨hin, ?_⟩
    rw [ok_nm, ok_some, e6]
    have f3 : fi (PU o) M (sI (sI M4 55 0 j x5) 56 0 j (nI S)) := fi_sI (fi_sI f2 (Or.inr (Or.inr (Or.inl rfl)))) (Or.inr (Or.inr (Or.inr rfl)))
    have f4 : fi (fun k n i => k = 55 ∨ k = 56) M4 (sI (sI M4 55 0 j x5) 56 0 j (nI S)) := fi_sI (fi_sI fi_rf (Or.inl rfl)) (Or.inr rfl)
    have e55 : ∀ i, M4.1 55 0 i = M.1 55 0 i := fun i => by rw [fr_I r3 (by unfold PW; omega), fr_I f1 (by omega)]
    have e56 : ∀ i, M4.1 56 0 i = M.1 56 0 i := fun i => by rw [fr_I r3 (by unfold PW; omega), fr_I f1 (by omega)]
    refine ⟨by simp [rII]; rw [r1, hval], ⟨⟨?_, by rw [f3.1]; exact ao, MoM_c am (fun i _ => fi_I f3 (by unfold PU PW; omega)), ?_, ?_⟩, fun i hi => ?_, fun i hi q => ?_, CS_fi ⟨r2, r4⟩ f4 (fun k n i q => by omega)⟩, f3⟩
    · rw [fi_I f3 (by unfold PU PW; omega)]; exact a7
    · rw [fi_I f3 (by unfold PU PW; omega)]; exact a8
    · rw [fi_I f3 (by unfold PU PW; omega)]; exact a6
    · rw [rII]
      by_cases e : i = j
      · subst e; rw [if_pos ⟨rfl, rfl, rfl⟩]; exact ⟨S, Nat.le_refl _, rfl⟩
      · rw [if_neg (fun q => e q.2.2), rII, if_neg (by omega), e56]; exact a56 i hi
    · rw [rII, if_neg (by omega), rII]
      by_cases e : i = j
      · subst e; rw [if_pos ⟨rfl, rfl, rfl⟩, r1]
      · rw [if_neg (fun q => e q.2.2), e55]
        rw [rII, if_neg (fun q => e q.2.2), rII, if_neg (by omega), e56] at q
        exact a55 i hi q
  · rw [ok_gi, ok_some]
    exact ⟨hin, h8⟩
/-- behind a call that looked -/
def PQ (o : Nat) : Nat → Nat → Nat → Prop := fun k n i => PK k n i ∨ PU o k n i ∨ (57 ≤ k ∧ k ≤ 59) ∨ k = 50 ∨ k = 51
theorem RC_lk {A : sty} {N : Nat} {M M' : mm} {o d S : Nat} (hA : AOK A N) (hod : (o = 0 ∧ d = 1) ∨ (o = 1 ∧ d = 0)) (h2 : M.2.2 12 0 6 = o) (h3 : M.2.2 12 0 7 = d) (h4 : RCs A M) (hS : S ≤ N + 1) (hl : LK (aC A) o (aM A) S M') (f : FK (PQ o) M M') : RC A (N + 1) M' ∧ FrC M M' := by
  refine ⟨⟨o, d, hod, by rw [f.1 12 0 6 (by omega)]; exact h2, by rw [f.1 12 0 7 (by omega)]; exact h3, (RCs_fi h4 (fi_mono (FK_back f) (fun k n i q => by unfold PQ PK PU PW at q; unfold GC; omega)) : RCs A (M'.1, M'.2.1, M.2.2)), hl.2.2.2, ?_⟩, ⟨fun n i => f.1 12 n i (by omega), fun k n i hk => f.2 k n i (by unfold PQ PK PU PW; omega)⟩⟩
  obtain ⟨⟨a7, ao, am, a8, a6⟩, a56, a55, acs⟩ := hl
  have hA' := AOK_up hA
  exact ⟨⟨S, hS, a6, a56⟩, Or.inr ⟨a7, ao, aM A, am, hA'.2.1, a8, fun j hj q => a55 j hj (by rw [← a6]; exact q)⟩⟩
noncomputable def standsS (C : cty) (mo : mty) (x : Int32) : Int32 := if 0 ≤ x ∧ x < nI (2 ^ cO C) then upIfS C mo x else -1
theorem sh_pow : ∀ n, n ≤ 10 → (1 : Int32) <<< (nI n &&& 31) = nI (2 ^ n) := by decide +kernel
theorem standsC {F : Nat} (hF : 2000 < F) {A : sty} {N : Nat} (hN : N ≤ 1000) {M : mm} {x : Int32} (hA : AOK A N) (h : RC A N M) : ok (m_X11_stands F x M) (QC A N M (standsS (aC A) (aM A) x)) := by
  obtain ⟨o, d, hod, h2, h3, h4, h5, h6⟩ := id h
  have z : (0 : Int32).toInt = 0 := rfl
  unfold m_X11_stands standsS
  rw [h2, h5.1.1.1.2.1, sh_pow _ hA.1.1.2.1, ok_ite]
  refine ⟨fun q => ok_some.mpr (by rw [if_neg (fun q2 => by simp only [i_lt, i_le] at q q2; omega)]; exact QC_same h), fun q => ?_⟩
  rw [ok_ite]
  refine ⟨fun q2 => ?_, fun q2 => ok_some.mpr (by rw [if_neg (fun q3 => q2 q3.2)]; exact QC_same h)⟩
  rw [if_pos ⟨by simp only [i_lt, i_le] at q ⊢; omega, q2⟩, ok_cv]
  refine ok_mono (look_ok hN hA.1 h5 h6 h4.1) (fun M1 hM1 => ?_)
  obtain ⟨S, hS, l1, f1⟩ := hM1
  rw [ok_cl]
  refine ok_mono (upIf_ok hF (by omega) (Y := 100 * N) (by omega) hA.1 hA.2.1.1 l1 x) (fun r hr => ok_some.mpr ?_)
  obtain ⟨r1, r2, r3⟩ := hr
  have := RC_lk hA hod h2 h3 h4 hS r2 (FK_tr (FK_mono f1 (fun k n i q => Or.inl q)) (FK_mono (FK_fi r3) (fun k n i q => Or.inr (Or.inl q))))
  exact ⟨r1, this.1, this.2⟩
theorem allOaths_ok {F : Nat} {C : cty} {M : mm} (hw : WF C) (h : MV C M) : ok (m_X12_allOaths F M) (fun r => r = (nI (2 ^ cO C - 1), M)) := by
  have hsh : ∀ n, n ≤ 10 → ((1 : Int32) <<< (nI n &&& 31)) - 1 = nI (2 ^ n - 1) := by decide +kernel
  unfold m_X12_allOaths
  rw [ok_gi, ok_some, tc1, h.1.2.1, hsh _ hw.1.2.1]
  exact ⟨vp_of (by decide), rfl⟩
/-- what the reference's questions write -/
def PV : Nat → Nat → Nat → Prop := fun k n i => PT k n i ∨ PD k n
theorem RM_pv {A : sty} {M M' : mm} (h : RM A M) (f : fi PV M M') (hm : RMo (aC A) (aM A) M') : RM A M' ∧ FrM M M' :=
  ⟨⟨hm, RMs_fi h.2 f (fun k n i q => by unfold PV PT PD at q; unfold GM; omega)⟩, FrM_fi f (fun k n i q => by unfold PV PT PD at q; omega)⟩
theorem p2_le {n : Nat} (h : n ≤ 10) : 0 < 2 ^ n ∧ 2 ^ n ≤ 1024 := ⟨Nat.pow_pos (by decide), Nat.pow_le_pow_right (n := 2) (by decide) h⟩
theorem standsM {F : Nat} (hF : 3000 < F) {A : sty} {N : Nat} {M : mm} {x : Int32} (hA : AOK A N) (h : RM A M) : ok (m_X12_stands F x M) (QM A M (standsS (aC A) (aM A) x)) := by
  have hO := hA.1.1.2.1
  have hp := p2_le hO
  have z : (0 : Int32).toInt = 0 := rfl
  have h1 : RM A (sI M 13 0 0 0) := RM_fi h thr_f PT_GM
  have f1 : fi PV M (sI M 13 0 0 0) := fi_mono thr_f (fun k n i q => Or.inl q)
  unfold m_X12_stands
  rw [ok_nm]
  generalize sI M 13 0 0 0 = M1 at h1 f1 ⊢
  have no : ¬ (0 ≤ x ∧ x < nI (2 ^ cO (aC A))) → QM A M (standsS (aC A) (aM A) x) (-1, M1) := fun q => by
    unfold standsS; rw [if_neg q]
    exact ⟨rfl, (RM_pv h f1 h1.1).1, (RM_pv h f1 h1.1).2⟩
  have eI : (nI (2 ^ cO (aC A))).toInt = (2 ^ cO (aC A) : Nat) := nI_toInt (by omega)
  have eI1 : (nI (2 ^ cO (aC A) - 1)).toInt = (2 ^ cO (aC A) - 1 : Nat) := nI_toInt (by omega)
  rw [ok_ite]
  refine ⟨fun q => ok_some.mpr (no (fun q2 => by simp only [i_lt, i_le] at q q2; omega)), fun q => ?_⟩
  rw [ok_cl]
  refine ok_mono (allOaths_ok hA.1 h1.1.1) (fun r hr => ?_)
  subst hr
  dsimp only
  rw [ok_ite]
  refine ⟨fun q2 => ?_, fun q2 => ok_some.mpr (no (fun q3 => by simp only [i_lt, i_le] at q q2 q3; omega))⟩
  have hin : 0 ≤ x ∧ x < nI (2 ^ cO (aC A)) := by simp only [i_lt, i_le] at q q2 ⊢; omega
  rw [ok_cl]
  refine ok_mono (upIfM_ok hF hA.1 h1.1 hA.2.1.1.2.2.2 x) (fun r hr => ok_some.mpr ?_)
  have f2 : fi PV M r.2 := fi_tr f1 (fi_fr hr.2.2 (fun k n i q => Or.inr q))
  unfold standsS
  rw [if_pos hin]
  exact ⟨hr.1, (RM_pv h f2 hr.2.1).1, (RM_pv h f2 hr.2.1).2⟩
