/-! the reference's centuries -/
def PLm : Nat → Nat → Nat → Prop := fun k n i => PF k n ∨ (k = 13 ∧ 62 ≤ i ∧ i ≤ 64)
def LvM (C : cty) (M0 M : mm) (s : lvt) : Prop := RMo C s.1 M ∧ M.2.1 13 0 62 = lN s.2.1 ∧ (M.1 13 0 63 = s.2.2.1 ∧ M.1 13 0 64 = s.2.2.2) ∧ fi PLm M0 M
theorem popN_0 : popN 0 = 0 := by decide +kernel
theorem RMo_13 {C : cty} {mo : mty} {M : mm} {i : Nat} {v : Int32} (h : RMo C mo M) : RMo C mo (sI M 13 0 i v) := RMo_fr (P := fun k _ => k = 13) h (fr_sI fr_rf rfl) (fun k q => by omega)
theorem fOI_c {S : Int32} : (fOI S = -1 ∧ ¬ (0 ≤ fOI S)) ∨ ∃ o, o < 10 ∧ fOI S = nI o ∧ bt S o = true ∧ 0 ≤ fOI S := by
  unfold fOI
  cases e : fOf S 10 with
  | none => exact Or.inl ⟨rfl, by decide⟩
  | some o =>
    obtain ⟨a, b⟩ := fOf_some 10 e
    exact Or.inr ⟨o, a, rfl, b, (nI_leI (by omega) (by omega) : nI 0 ≤ nI o ↔ 0 ≤ o).mpr (Nat.zero_le _)⟩
theorem lvM_of {C : cty} {M0 M' : mm} {s : lvt} {p : Nat} {e : Option mty} (h : lvE C s p = e) (r : RMo C (e.getD s.1) M') (q : M'.2.1 13 0 62 = lN (nxQ s.2.1)) (c : M'.1 13 0 63 = if ¬ nI (drQ s.2.1) < cF C 0 p ∧ e.isSome = true then s.2.2.1 + 1 else s.2.2.1) (d : M'.1 13 0 64 = s.2.2.2 + nI (popN (s.1.2.2.2 &&& ((e.getD s.1).2.2.2 ^^^ (-1))))) (f : fi PLm M0 M') : LvM C M0 M' (lv1 C s p) := by
  subst h; exact ⟨r, q, ⟨c, d⟩, f⟩
theorem livesOne_ok {F : Nat} (hF : 3000 < F) {C : cty} {Y p : Nat} {M0 M : mm} {s : lvt} (hw : WF C) (hp : p < cP C) (hg : LvG C Y s) (h : LvM C M0 M s) :
    ok (m_X12_livesOne F (nI p) M) (fun M' => LvM C M0 M' (lv1 C s p)) := by
  have hP := hw.1.1
  have hO := hw.1.2.1
  have hS := hw.1.2.2.1
  obtain ⟨r0, q0, ⟨v63, v64⟩, f0⟩ := h
  unfold m_X12_livesOne
  rw [ok_cl]
  refine ok_mono (draws_ok hg.2 q0) (fun r hr => ?_)
  subst hr
  dsimp only
  have f1 : fi (fun k _ i => k = 13 ∧ i = 62) M (sL M 13 0 62 (lN (nxQ s.2.1))) := fi_sL fi_rf ⟨rfl, rfl⟩
  have r1 : RMo C s.1 (sL M 13 0 62 (lN (nxQ s.2.1))) := RMo_fr (P := fun k _ => k = 13) r0 (fr_sL fr_rf rfl) (fun k q => by omega)
  have q1 : (sL M 13 0 62 (lN (nxQ s.2.1))).2.1 13 0 62 = lN (nxQ s.2.1) := by rw [rLL, if_pos ⟨rfl, rfl, rfl⟩]
  have u63 : (sL M 13 0 62 (lN (nxQ s.2.1))).1 13 0 63 = s.2.2.1 := v63
  have u64 : (sL M 13 0 62 (lN (nxQ s.2.1))).1 13 0 64 = s.2.2.2 := v64
  generalize sL M 13 0 62 (lN (nxQ s.2.1)) = M1 at f1 r1 q1 u63 u64 ⊢
  have f01 : fi PLm M0 M1 := fi_tr f0 (fi_mono f1 (fun k n i q => Or.inr (by omega)))
  have hd := drQ_b s.2.1
  have z0 : nI (drQ s.2.1) = 0 ↔ drQ s.2.1 = 0 := nI_eq (b := 0) (by omega) (by decide)
  have e00 : s.2.2.2 + nI 0 = s.2.2.2 := Int32.add_zero _
  have same : lvE C s p = none → LvM C M0 M1 (lv1 C s p) := fun e => by
    refine lvM_of e r1 q1 ?_ ?_ f01
    · rw [if_neg (fun q => by cases q.2)]; exact u63
    · show _ = s.2.2.2 + nI (popN (s.1.2.2.2 &&& (s.1.2.2.2 ^^^ (-1))))
      rw [a_na, popN_0, e00]; exact u64
  rw [ok_gi, nI_clamp (by omega), (r1.1.2.1 p hp).1, ok_ite]
  refine ⟨vp_in_nI (by omega) (by decide), fun q => ?_, fun q => ?_⟩
  · rw [ok_ite, z0]
    refine ⟨fun q2 => ?_, fun q2 => ok_some.mpr (same (by unfold lvE; rw [if_pos q, if_neg q2]))⟩
    have ee : lvE C s p = pardonS C s.1 (fOI (cF C 2 p &&& s.1.2.1)) := by unfold lvE; rw [if_pos q, if_pos q2]
    rw [ok_cl]
    refine ok_mono (oathsOf_ok (by omega) hw r1.1 hp) (fun r hr => ?_)
    subst hr
    dsimp only
    rw [ok_gi, tc1, r1.2.2.2.1, ok_cl]
    refine ⟨vp_of (by decide), ok_mono (firstM_ok (by omega)) (fun r hr => ?_)⟩
    subst hr
    dsimp only
    rw [ok_ite]
    rcases fOI_c (S := cF C 2 p &&& s.1.2.1) with ⟨e, e'⟩ | ⟨o, ho, e, eb, e'⟩
    · refine ⟨fun q3 => absurd q3 e', fun _ => ok_some.mpr (same ?_)⟩
      rw [ee, e]; unfold pardonS
      rw [if_neg (fun q3 => absurd q3.1 (by decide))]
    · refine ⟨fun _ => ?_, fun q3 => absurd e' q3⟩
      rw [b_and, Bool.and_eq_true] at eb
      have hoO := (hg.1.1.2.1 o (by omega) eb.2).1
      have ep : pardonS C s.1 (nI o) = some (fallM C (s.1.1, s.1.2.1 &&& (bitI (nI o) ^^^ (-1)), s.1.2.2.1 ||| bitI (nI o), s.1.2.2.2)) := by
        unfold pardonS
        rw [nI_clamp (by omega), if_pos ⟨(nI_leI (by omega) (by omega) : nI 0 ≤ nI o ↔ 0 ≤ o).mpr (Nat.zero_le _), (nI_ltI (by omega) (by omega)).mpr hoO, eb.2⟩]
      rw [e] at ee ⊢
      rw [ep] at ee
      rw [ok_cv]
      refine ok_mono (forgives_ok r1 (nI o)) (fun M7 h7 => ?_)
      obtain ⟨r7, f7⟩ := h7
      rw [ok_cl]
      refine ok_mono (falls_ok hF hw r7 hg.1.1.2.2.2) (fun r hr => ?_)
      obtain ⟨x9, M8⟩ := r
      obtain ⟨g1, r8, f8⟩ := hr
      dsimp only at g1 r8 f8 ⊢
      subst g1
      rw [ok_cl]
      refine ok_mono (bits_ok (by omega)) (fun r hr => ?_)
      subst hr
      dsimp only
      have w64 : M7.1 13 0 64 = s.2.2.2 := (fr_I f7 (by omega) 64).trans u64
      rw [ok_nm, ok_some, w64]
      have fA : fi PLm M1 M8 := fi_tr (fi_fr f7 (fun k n i q => Or.inl (by unfold PF; omega))) (fi_fr f8 (fun k n i q => Or.inl q))
      have fB : fr (fun k _ => k ≠ 13) M1 M8 := fr_tr (fr_mono f7 (fun k n q => by omega)) (fr_mono f8 (fun k n q => by unfold PF at q; omega))
      refine lvM_of ee (RMo_13 r8) ?_ ?_ ?_ (fi_tr f01 (fi_tr fA (fi_sI fi_rf (Or.inr ⟨rfl, by decide, by decide⟩))))
      · rw [rIL, fr_L fB (by omega)]; exact q1
      · rw [rII, if_neg (by omega), fr_I fB (by omega), if_neg (fun q3 => q3.1 q)]; exact u63
      · rw [rII, if_pos ⟨rfl, rfl, rfl⟩]; rfl
  · have ee : lvE C s p = crackS C s.1 (fOI (cF C 2 p &&& looseS C s.1)) := by unfold lvE; rw [if_neg q]
    rw [ok_cl]
    refine ok_mono (oathsOf_ok (by omega) hw r1.1 hp) (fun r hr => ?_)
    subst hr
    dsimp only
    rw [ok_cl]
    refine ok_mono (looseM_ok hF hw r1) (fun r hr => ?_)
    subst hr
    dsimp only
    rw [ok_cl]
    refine ok_mono (firstM_ok (by omega)) (fun r hr => ?_)
    subst hr
    dsimp only
    rw [ok_ite]
    rcases fOI_c (S := cF C 2 p &&& looseS C s.1) with ⟨e, e'⟩ | ⟨o, ho, e, eb, e'⟩
    · refine ⟨fun q3 => absurd q3 e', fun _ => ok_some.mpr (same ?_)⟩
      rw [ee, e]; unfold crackS
      rw [if_neg (fun q3 => absurd q3.1 (by decide))]
    · refine ⟨fun _ => ?_, fun q3 => absurd e' q3⟩
      rw [b_and, Bool.and_eq_true, loose_b hw (by omega)] at eb
      have eb2 := eb.2
      simp at eb2
      have ep : crackS C s.1 (nI o) = some (fallM C (s.1.1, s.1.2.1 ||| bitI (nI o), s.1.2.2.1, s.1.2.2.2)) := by
        unfold crackS
        rw [nI_clamp (by omega), if_pos ⟨(nI_leI (by omega) (by omega) : nI 0 ≤ nI o ↔ 0 ≤ o).mpr (Nat.zero_le _), (nI_ltI (by omega) (by omega)).mpr eb2.1.1, eb2.2, eb2.1.2⟩]
      rw [e] at ee ⊢
      rw [ep] at ee
      rw [ok_gi, ok_gi, ok_nm, ok_nm, ok_cl, tc1, r1.2.2.2.1]
      refine ⟨vp_of (by decide), vp_of (by decide), ?_⟩
      have e63 : (sI M1 100 0 1 (s.1.2.1 ||| ((1 : Int32) <<< (nI o &&& 31)))).1 13 0 63 = s.2.2.1 := by rw [rII, if_neg (by omega)]; exact u63
      rw [e63]
      have f19 : fr (fun k _ => k = 100) M1 (sI M1 100 0 1 (s.1.2.1 ||| ((1 : Int32) <<< (nI o &&& 31)))) := fr_sI fr_rf rfl
      obtain ⟨m0, m1, m2, m3⟩ := id r1.2.2
      have r19 : RMo C (s.1.1, s.1.2.1 ||| bitI (nI o), s.1.2.2.1, s.1.2.2.2) (sI M1 100 0 1 (s.1.2.1 ||| ((1 : Int32) <<< (nI o &&& 31)))) := RMo_100 r1 f19 (by unfold MoR; simp [rII, m0, m2, m3, bitI])
      have r20 := RMo_13 (i := 63) (v := s.2.2.1 + 1) r19
      have w63 : (sI (sI M1 100 0 1 (s.1.2.1 ||| ((1 : Int32) <<< (nI o &&& 31)))) 13 0 63 (s.2.2.1 + 1)).1 13 0 63 = s.2.2.1 + 1 := by rw [rII, if_pos ⟨rfl, rfl, rfl⟩]
      have w64 : (sI (sI M1 100 0 1 (s.1.2.1 ||| ((1 : Int32) <<< (nI o &&& 31)))) 13 0 63 (s.2.2.1 + 1)).1 13 0 64 = s.2.2.2 := by rw [rII, if_neg (by omega), rII, if_neg (by omega)]; exact u64
      have q20 : (sI (sI M1 100 0 1 (s.1.2.1 ||| ((1 : Int32) <<< (nI o &&& 31)))) 13 0 63 (s.2.2.1 + 1)).2.1 13 0 62 = lN (nxQ s.2.1) := q1
      have f20 : fi PLm M1 (sI (sI M1 100 0 1 (s.1.2.1 ||| ((1 : Int32) <<< (nI o &&& 31)))) 13 0 63 (s.2.2.1 + 1)) := fi_sI (fi_fr f19 (fun k n i q => Or.inl (by unfold PF; omega))) (Or.inr ⟨rfl, by decide, by decide⟩)
      generalize sI (sI M1 100 0 1 (s.1.2.1 ||| ((1 : Int32) <<< (nI o &&& 31)))) 13 0 63 (s.2.2.1 + 1) = M20 at r20 w63 w64 q20 f20 ⊢
      refine ok_mono (falls_ok hF hw r20 hg.1.1.2.2.2) (fun r hr => ?_)
      obtain ⟨x22, M21⟩ := r
      obtain ⟨g1, r21, f21⟩ := hr
      dsimp only at g1 r21 f21 ⊢
      subst g1
      rw [ok_cl]
      refine ok_mono (bits_ok (by omega)) (fun r hr => ?_)
      subst hr
      dsimp only
      rw [ok_nm, ok_some, w64]
      refine lvM_of ee (RMo_13 r21) ?_ ?_ ?_ (fi_tr f01 (fi_tr f20 (fi_tr (fi_fr f21 (fun k n i q => Or.inl q)) (fi_sI fi_rf (Or.inr ⟨rfl, by decide, by decide⟩)))))
      · rw [rIL, fr_L f21 (by unfold PF; omega)]; exact q20
      · rw [rII, if_neg (by omega), fr_I f21 (by unfold PF; omega), if_pos ⟨q, rfl⟩]; exact w63
      · rw [rII, if_pos ⟨rfl, rfl, rfl⟩]; rfl
theorem livesM_ok {F : Nat} (hF : 3000 < F) {C : cty} {Y yr : Nat} {M0 M : mm} {s : lvt} (hw : WF C) (hg : LvG C Y s) (h : LvM C M0 M s) (hyr : yr ≤ 100) :
    ok (lp (b_X12_centuries_1 F (nI yr)) F ((0 : Int32), M)) (fun M' => LvM C M0 M' (lvT C s yr)) := by
  have hP := hw.1.1
  refine ok_for yr (fun i z => z.1 = nI i ∧ LvM C M0 z.2 (lvT C s i)) 0 (by omega) (by omega) ⟨rfl, h⟩ ?_
  rintro i ⟨x12, M13⟩ hi ⟨e1, l13⟩
  dsimp only at e1 l13
  subst e1
  simp only [b_X12_centuries_1, b_X12_centuries_1c]
  rw [ok_ite, nI_leI (by omega) (by omega)]
  refine ⟨fun q => ok_some.mpr ?_, fun q => ?_⟩
  · have : i = yr := by omega
    subst this; exact l13
  have gi6 := lvT_g hw hg i
  rw [ok_bd]
  refine ok_mono (Q := fun M' => LvM C M0 M' (lvN C (lvT C s i) (cP C))) ?_ (fun M17 h17 => ?_)
  · refine ok_for (cP C) (fun p z => z.1 = nI p ∧ LvM C M0 z.2 (lvN C (lvT C s i) p)) 0 (by omega) (by omega) ⟨rfl, l13⟩ ?_
    rintro p ⟨x7, M8⟩ hp ⟨e1, l8⟩
    dsimp only at e1 l8
    subst e1
    simp only [b_X12_centuries_2, b_X12_centuries_2c]
    rw [ok_gi, tc0, l8.1.1.1.1, ok_ite, nI_leI (by omega) (by omega)]
    refine ⟨vp_of (by decide), fun q2 => ok_some.mpr ?_, fun q2 => ?_⟩
    · have : p = cP C := by omega
      subst this; exact l8
    rw [ok_cv]
    exact ok_mono (livesOne_ok (Y := Y + i) hF hw (by omega) (lvN_g hw gi6 p) l8) (fun M9 h9 => ok_some.mpr ⟨by omega, nI_1 p, h9⟩)
  · obtain ⟨r17, q17, ⟨v63, v64⟩, f17⟩ := h17
    have gN := lvN_g hw gi6 (cP C)
    obtain ⟨pg, ps⟩ := passS_g gN.1.1
    rw [ok_cl]
    refine ok_mono (passes_ok hF hw r17 gN.1.1.2.2.2) (fun r hr => ?_)
    obtain ⟨x19, M18⟩ := r
    obtain ⟨g1, r18, f18⟩ := hr
    dsimp only at g1 r18 f18 ⊢
    subst g1
    rw [ok_cl]
    refine ok_mono (bits_ok (by omega)) (fun r hr => ?_)
    subst hr
    dsimp only
    rw [ok_nm, v64, ok_cv]
    have r22 := RMo_13 (i := 64) (v := (lvN C (lvT C s i) (cP C)).2.2.2 + nI (popN ((lvN C (lvT C s i) (cP C)).1.2.2.2 &&& ((passS C (lvN C (lvT C s i) (cP C)).1).2.2.2 ^^^ (-1))))) r18
    have w64 : (sI M18 13 0 64 ((lvN C (lvT C s i) (cP C)).2.2.2 + nI (popN ((lvN C (lvT C s i) (cP C)).1.2.2.2 &&& ((passS C (lvN C (lvT C s i) (cP C)).1).2.2.2 ^^^ (-1)))))).1 13 0 64 = (lvT C s (i + 1)).2.2.2 := by rw [rII, if_pos ⟨rfl, rfl, rfl⟩]; rfl
    have w63 : (sI M18 13 0 64 ((lvN C (lvT C s i) (cP C)).2.2.2 + nI (popN ((lvN C (lvT C s i) (cP C)).1.2.2.2 &&& ((passS C (lvN C (lvT C s i) (cP C)).1).2.2.2 ^^^ (-1)))))).1 13 0 63 = (lvT C s (i + 1)).2.2.1 := by rw [rII, if_neg (by omega), fr_I f18 (by unfold PF; omega)]; exact v63
    have wq : (sI M18 13 0 64 ((lvN C (lvT C s i) (cP C)).2.2.2 + nI (popN ((lvN C (lvT C s i) (cP C)).1.2.2.2 &&& ((passS C (lvN C (lvT C s i) (cP C)).1).2.2.2 ^^^ (-1)))))).2.1 13 0 62 = lN (lvT C s (i + 1)).2.1 := by rw [rIL, fr_L f18 (by unfold PF; omega)]; exact q17
    have f22 : fi PLm M0 (sI M18 13 0 64 ((lvN C (lvT C s i) (cP C)).2.2.2 + nI (popN ((lvN C (lvT C s i) (cP C)).1.2.2.2 &&& ((passS C (lvN C (lvT C s i) (cP C)).1).2.2.2 ^^^ (-1)))))) := fi_tr f17 (fi_sI (fi_fr f18 (fun k n i q => Or.inl q)) (Or.inr ⟨rfl, by decide, by decide⟩))
    generalize sI M18 13 0 64 ((lvN C (lvT C s i) (cP C)).2.2.2 + nI (popN ((lvN C (lvT C s i) (cP C)).1.2.2.2 &&& ((passS C (lvN C (lvT C s i) (cP C)).1).2.2.2 ^^^ (-1))))) = M22 at r22 w64 w63 wq f22 ⊢
    refine ok_mono (raisesAll_ok hF hw r22 pg ps) (fun M23 h23 => ok_some.mpr ⟨by omega, nI_1 i, ?_⟩)
    obtain ⟨r23, f23⟩ := h23
    exact ⟨r23, (fr_L f23 (by unfold PF; omega) 62).trans wq, ⟨(fr_I f23 (by unfold PF; omega) 63).trans w63, (fr_I f23 (by unfold PF; omega) 64).trans w64⟩, fi_tr f22 (fi_fr f23 (fun k n i q => Or.inl q))⟩
theorem centuriesM {F : Nat} (hF : 3000 < F) {A : sty} {N : Nat} {M : mm} {a b c : Int32} (hA : AOK A N) (h : RM A M) : ok (m_X12_centuries F a b c M) (QM A M (cenS A a b c)) := by
  have hw := hA.1
  have z0 : (0 : Int32).toInt = 0 := rfl
  have z1 : (1 : Int32).toInt = 1 := rfl
  have z9 : (9999 : Int32).toInt = 9999 := rfl
  have z100 : (100 : Int32).toInt = 100 := rfl
  have h1 : RM A (sI M 13 0 0 0) := RM_fi h thr_f PT_GM
  have f1 : fi PV M (sI M 13 0 0 0) := fi_mono thr_f (fun k n i q => Or.inl q)
  unfold m_X12_centuries
  rw [ok_nm, ok_cb]
  generalize sI M 13 0 0 0 = M1 at h1 f1 ⊢
  have no : ¬ ((0 ≤ a ∧ a ≤ 9999) ∧ (1 ≤ b ∧ b ≤ 100) ∧ (0 ≤ c ∧ c ≤ 2)) → QM A M (cenS A a b c) (-1, M1) := fun q => by
    unfold cenS; rw [if_neg q]; exact ⟨rfl, RM_pv h f1 h1.1⟩
  refine ok_mono within_ok (fun r hr => ?_)
  subst hr
  dsimp only
  rw [ok_ite, decide_eq_true_iff]
  refine ⟨fun y1 => ?_, fun q => ok_some.mpr (no (fun q2 => q q2.1))⟩
  rw [ok_cb]
  refine ok_mono within_ok (fun r hr => ?_)
  subst hr
  dsimp only
  rw [ok_ite, decide_eq_true_iff]
  refine ⟨fun y2 => ?_, fun q => ok_some.mpr (no (fun q2 => q q2.2.1))⟩
  rw [ok_cb]
  refine ok_mono within_ok (fun r hr => ?_)
  subst hr
  dsimp only
  rw [ok_ite, decide_eq_true_iff]
  refine ⟨fun y3 => ?_, fun q => ok_some.mpr (no (fun q2 => q q2.2.2))⟩
  obtain ⟨qa, hqa, rfl⟩ : ∃ k : Nat, k ≤ 9999 ∧ a = nI k := by
    have := y1
    simp only [i_le, z0, z9] at this
    exact ⟨a.toNatClampNeg, by have := i_clamp (a := a) (by omega); omega, i_nI (by omega)⟩
  obtain ⟨yr, hyr, rfl⟩ : ∃ k : Nat, k ≤ 100 ∧ b = nI k := by
    have := y2
    simp only [i_le, z1, z100] at this
    exact ⟨b.toNatClampNeg, by have := i_clamp (a := b) (by omega); omega, i_nI (by omega)⟩
  rw [ok_nm, nI_64 (by omega), ok_cv]
  have f8 : fi (fun k _ i => k = 13 ∧ i = 62) M1 (sL M1 13 0 62 (lN qa)) := fi_sL fi_rf ⟨rfl, rfl⟩
  have r8 : RMo (aC A) (aM A) (sL M1 13 0 62 (lN qa)) := RMo_fr (P := fun k _ => k = 13) h1.1 (fr_sL fr_rf rfl) (fun k q => by omega)
  have q8 : (sL M1 13 0 62 (lN qa)).2.1 13 0 62 = lN qa := by rw [rLL, if_pos ⟨rfl, rfl, rfl⟩]
  generalize sL M1 13 0 62 (lN qa) = M8 at f8 r8 q8 ⊢
  refine ok_mono (copies_100_101_ok (a := 0) (b := 4) (by omega) (by omega) (by omega) (r8.2.2 : RwM 100 0 M8 (aM A))) (fun M9 h9 => ?_)
  obtain ⟨w9, f9⟩ := h9
  have r9 : RMo (aC A) (aM A) M9 := RMo_fr r8 (fr_fi f9) (fun k q => by obtain ⟨i, q⟩ := q; omega)
  rw [ok_nm, ok_nm, ok_bd]
  have f11 : fi (fun k _ i => k = 13 ∧ 62 ≤ i ∧ i ≤ 64) M9 (sI (sI M9 13 0 63 0) 13 0 64 0) := fi_sI (fi_sI fi_rf ⟨rfl, by decide, by decide⟩) ⟨rfl, by decide, by decide⟩
  have l11 : LvM (aC A) (sI (sI M9 13 0 63 0) 13 0 64 0) (sI (sI M9 13 0 63 0) 13 0 64 0) (aM A, qa, 0, 0) := ⟨RMo_13 (RMo_13 r9), (fi_L f9 (by omega)).trans q8, ⟨by rw [rII, if_neg (by omega), rII, if_pos ⟨rfl, rfl, rfl⟩], by rw [rII, if_pos ⟨rfl, rfl, rfl⟩]⟩, fi_rf⟩
  have w11 : RwM 101 4 (sI (sI M9 13 0 63 0) 13 0 64 0) (aM A) := RwM_c w9 (fun j => fi_I f11 (by omega))
  generalize sI (sI M9 13 0 63 0) 13 0 64 0 = M11 at f11 l11 w11 ⊢
  have g0 : LvG (aC A) (100 * N) (aM A, qa, 0, 0) := ⟨hA.2.1, by show qa < _; omega⟩
  refine ok_mono (livesM_ok hF hw g0 l11 hyr) (fun M24 h24 => ?_)
  obtain ⟨r24, q24, ⟨v63, v64⟩, f24⟩ := h24
  rw [ok_gi, ok_nm, tc3, r24.2.2.2.2.2, ok_cv]
  refine ⟨vp_of (by decide), ?_⟩
  have w24 : RwM 101 4 M24 (aM A) := RwM_c w11 (fun j => fi_I f24 (by unfold PLm PF; omega))
  refine ok_mono (copies_101_100_ok (a := 4) (b := 0) (by omega) (by omega) (by omega) w24) (fun M26 h26 => ?_)
  obtain ⟨w26, f26⟩ := h26
  have r26 : RMo (aC A) (aM A) M26 := RMo_100 r24 (fr_mono (fr_fi f26) (fun k n q => by obtain ⟨i, q⟩ := q; exact q.1)) w26
  have fall : fi (fun k n i => PV k n i ∨ PLm k n i ∨ k = 101 ∨ k = 100) M M26 := fi_tr (fi_mono f1 (fun k n i q => Or.inl q)) (fi_tr (fi_mono f8 (fun k n i q => Or.inr (Or.inl (Or.inr (by omega))))) (fi_tr (fi_mono f9 (fun k n i q => Or.inr (Or.inr (Or.inl q.1)))) (fi_tr (fi_mono f11 (fun k n i q => Or.inr (Or.inl (Or.inr q)))) (fi_tr (fi_mono f24 (fun k n i q => Or.inr (Or.inl q))) (fi_mono f26 (fun k n i q => Or.inr (Or.inr (Or.inr q.1))))))))
  have fin : RM A M26 ∧ FrM M M26 := ⟨⟨r26, RMs_fi h.2 fall (fun k n i q => by unfold PV PT PD PLm PF at q; unfold GM; omega)⟩, FrM_fi fall (fun k n i q => by unfold PV PT PD PLm PF at q; omega)⟩
  have e1 : (nI qa).toNatClampNeg = qa := nI_clamp (by omega)
  have e2 : (nI yr).toNatClampNeg = yr := nI_clamp (by omega)
  have e63 : M26.1 13 0 63 = _ := (fi_I f26 (by omega)).trans v63
  have e64 : M26.1 13 0 64 = _ := (fi_I f26 (by omega)).trans v64
  have yes : (0 ≤ nI qa ∧ nI qa ≤ 9999) ∧ (1 ≤ nI yr ∧ nI yr ≤ 100) ∧ (0 ≤ c ∧ c ≤ 2) := ⟨y1, y2, y3⟩
  unfold cenS
  rw [if_pos yes, e1, e2, ok_ite]
  refine ⟨fun q => ok_some.mpr ⟨by rw [if_pos q]; exact e63, fin⟩, fun q => ?_⟩
  rw [if_neg q, ok_ite]
  exact ⟨fun q => ok_some.mpr ⟨by rw [if_pos q]; exact e64, fin⟩, fun q => ok_some.mpr ⟨by rw [if_neg q], fin⟩⟩
