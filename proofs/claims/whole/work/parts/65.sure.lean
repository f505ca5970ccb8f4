/-! how sure a stone is -/
def fct (C : cty) (b i : Nat) : Int32 := if i < cP C then (if bt (nI b) i = true then 10 - cF C 0 i else cF C 0 i) else 10
def chP (C : cty) (b : Nat) : Nat → Int32
  | 0 => 1
  | n + 1 => chP C b n * fct C b n
def obP (C : cty) (b : Nat) : Nat → Int32
  | 0 => 0
  | n + 1 => obP C b n ||| (if bt (nI b) n = true then cF C 2 n else 0)
noncomputable def suN (C : cty) (mo : mty) (s : Nat) : Nat → Int32
  | 0 => 0
  | n + 1 => suN C mo s n + (if bt (upIfS C mo (obP C n (cP C))) s = true then chP C n 6 else 0)
theorem choices_ok {F : Nat} (hF : 1000 < F) {C : cty} {o S : Nat} {M : mm} {mo : mty} (hw : WF C) (h : LK C o mo S M) (b : Nat) :
    ok (m_X10_chanceOfChoices F (nI b) M) (fun r => r = (chP C b 6, M)) := by
  have hP := hw.1.1
  obtain ⟨⟨a7, ao, am, a8, a6⟩, -, -, acs⟩ := id h
  unfold m_X10_chanceOfChoices
  rw [ok_bd]
  refine ok_mono (Q := fun v => v = chP C b 6) ?_ (fun v hv => by subst hv; exact ok_some.mpr rfl)
  refine ok_for 6 (fun i z => z.2 = nI i ∧ z.1 = chP C b i) 0 (by omega) (by omega) ⟨rfl, rfl⟩ ?_
  rintro i ⟨x1, x2⟩ hi ⟨e1, e2⟩
  dsimp only at e1 e2
  subst e1 e2
  simp only [b_X10_chanceOfChoices_1, b_X10_chanceOfChoices_1c]
  have e6 : (6 : Int32) ≤ nI i ↔ 6 ≤ i := (nI_leI (by omega) (by omega) : nI 6 ≤ nI i ↔ 6 ≤ i)
  rw [ok_ite, e6]
  refine ⟨fun hc => ok_some.mpr (by have : i = 6 := by omega
                                    subst this; rfl), fun hc => ?_⟩
  have hi' : i < 6 := by omega
  rw [ok_bd]
  refine ok_mono (Q := fun v => v = chP C b (i + 1)) ?_ (fun v hv => ok_some.mpr ⟨by omega, nI_1 i, hv⟩)
  rw [ao, acs.1.1.1.1, ok_ite, nI_ltI (by omega) (by omega)]
  refine ⟨fun q => ?_, fun q => ?_⟩
  · rw [ok_bd]
    refine ok_mono (Q := fun v => v = fct C b i) ?_ (fun v hv => by subst hv; rw [ok_nm, ok_some]; rfl)
    have hin : vp_in (nI i) 6 := vp_in_nI hi' (by decide)
    unfold fct
    rw [if_pos q, ok_ite, b_bit0 _ (show i < 32 by omega)]
    refine ⟨fun q2 => ?_, fun q2 => ?_⟩
    · rw [ok_gi, ok_some, nI_clamp (by omega), (acs.1.1.2.1 i q).1, if_neg (by rw [q2]; decide)]; exact ⟨hin, rfl⟩
    · rw [ok_gi, ok_some, nI_clamp (by omega), (acs.1.1.2.1 i q).1, if_pos (by simpa using q2)]; exact ⟨hin, rfl⟩
  · rw [ok_nm, ok_some]
    show _ = chP C b i * fct C b i
    unfold fct
    rw [if_neg q]
theorem brokenBy_ok {F : Nat} (hF : 1000 < F) {C : cty} {o S : Nat} {M : mm} {mo : mty} (hw : WF C) (h : LK C o mo S M) (b : Nat) :
    ok (m_X10_brokenBy F (nI b) M) (fun r => r = (obP C b (cP C) &&& looseS C mo, M)) := by
  have hP := hw.1.1
  obtain ⟨⟨a7, ao, am, a8, a6⟩, -, -, acs⟩ := id h
  unfold m_X10_brokenBy
  rw [ok_bd]
  refine ok_mono (Q := fun v => v = obP C b (cP C)) ?_ (fun v hv => by subst hv; rw [a8]; exact ok_some.mpr rfl)
  refine ok_for (cP C) (fun i z => z.2 = nI i ∧ z.1 = obP C b i) 0 (by omega) (by omega) ⟨rfl, rfl⟩ ?_
  rintro i ⟨x1, x2⟩ hi ⟨e1, e2⟩
  dsimp only at e1 e2
  subst e1 e2
  simp only [b_X10_brokenBy_1, b_X10_brokenBy_1c]
  rw [ao, acs.1.1.1.1, ok_ite, nI_leI (by omega) (by omega)]
  refine ⟨fun hc => ok_some.mpr (by have : i = cP C := by omega
                                    subst this; rfl), fun hc => ?_⟩
  have hi' : i < cP C := by omega
  rw [ok_bd]
  refine ok_mono (Q := fun v => v = if bt (nI b) i = true then cF C 2 i else 0) ?_ (fun v hv => by subst hv; rw [ok_nm]; exact ok_some.mpr ⟨by omega, nI_1 i, rfl⟩)
  rw [ok_ite, b_bit0 _ (show i < 32 by omega)]
  refine ⟨fun q => ?_, fun q => ?_⟩
  · rw [ok_some, if_neg (by rw [q]; decide)]
  · rw [ok_gi, ok_some, nI_clamp (by omega), (acs.1.1.2.1 i hi').2.2, if_pos (by simpa using q)]
    exact ⟨vp_in_nI (show i < 6 by omega) (by decide), rfl⟩
theorem chanceOf_ok {F : Nat} (hF : 3000 < F) {C : cty} {o S Y s : Nat} (hS : S < 2 ^ 31) (hY : Y < 2 ^ 31) {M : mm} {mo : mty} (hw : WF C) (hg : MG C mo Y) (h : LK C o mo S M) (hs : s < 32) :
    ok (m_X10_chanceOf F (nI s) M) (fun r => r.1 = suN C mo s (2 ^ cP C) ∧ LK C o mo S r.2 ∧ fi (PU o) M r.2) := by
  have hP := hw.1.1
  have hp := p2_le (show cP C ≤ 10 by omega)
  unfold m_X10_chanceOf
  rw [ok_bd]
  refine ok_mono (Q := fun r => r.1 = suN C mo s (2 ^ cP C) ∧ LK C o mo S r.2 ∧ fi (PU o) M r.2) ?_ (fun r hr => ok_some.mpr hr)
  refine ok_for (2 ^ cP C) (fun j z => z.2.1 = nI j ∧ z.1 = suN C mo s j ∧ LK C o mo S z.2.2 ∧ fi (PU o) M z.2.2) 0 (by omega) (by omega) ⟨rfl, rfl, h, fi_rf⟩ ?_
  rintro j ⟨x1, x2, M3⟩ hj ⟨e1, e2, hl, hf⟩
  dsimp only at e1 e2 hl hf
  subst e1 e2
  obtain ⟨⟨a7, ao, am, a8, a6⟩, -, -, acs⟩ := id hl
  simp only [b_X10_chanceOf_1, b_X10_chanceOf_1c]
  rw [ao, acs.1.1.1.1, sh_pow _ (show cP C ≤ 10 by omega), ok_ite, nI_leI (by omega) (by omega)]
  refine ⟨fun hc => ok_some.mpr ?_, fun hc => ?_⟩
  · have : j = 2 ^ cP C := by omega
    subst this; exact ⟨rfl, hl, hf⟩
  · rw [ok_cl]
    refine ok_mono (brokenBy_ok (by omega) hw hl j) (fun r hr => ?_)
    subst hr
    rw [ok_cl]
    refine ok_mono (upIf_ok (by omega) hS hY hw hg hl _) (fun r hr => ?_)
    obtain ⟨x7, M6⟩ := r
    obtain ⟨g1, g2, g3⟩ := hr
    dsimp only at g1 g2 g3 ⊢
    rw [upIfS_and] at g1
    rw [ok_bd, g1]
    refine ok_mono (Q := fun z => z.1 = suN C mo s (j + 1) ∧ LK C o mo S z.2 ∧ fi (PU o) M z.2) ?_ (fun z hz => ?_)
    · rw [ok_ite, b_bit0 _ hs]
      have e : suN C mo s (j + 1) = suN C mo s j + (if bt (upIfS C mo (obP C j (cP C))) s = true then chP C j 6 else 0) := rfl
      rw [e]
      refine ⟨fun q => ok_some.mpr ⟨?_, g2, fi_tr hf g3⟩, fun q => ?_⟩
      · rw [if_neg (by rw [q]; decide)]; exact (Int32.add_zero _).symm
      · rw [ok_cl]
        refine ok_mono (choices_ok (by omega) hw g2 j) (fun r hr => ?_)
        subst hr
        rw [ok_nm, ok_some, if_pos (by simpa using q)]
        exact ⟨rfl, g2, fi_tr hf g3⟩
    · obtain ⟨x11, M12⟩ := z
      exact ok_some.mpr ⟨by omega, nI_1 j, hz⟩
/-- what sure answers -/
noncomputable def sureS (A : sty) (x : Int32) : Int32 := if 0 ≤ x ∧ x < nI (cS (aC A)) ∧ bt (aM A).2.2.2 x.toNatClampNeg = true then suN (aC A) (aM A) x.toNatClampNeg (2 ^ cP (aC A)) else -1
theorem sureC {F : Nat} (hF : 3000 < F) {A : sty} {N : Nat} (hN : N ≤ 1000) {M : mm} {x : Int32} (hA : AOK A N) (h : RC A N M) : ok (m_X11_sure F x M) (QC A N M (sureS A x)) := by
  obtain ⟨o, d, hod, h2, h3, h4, h5, h6⟩ := id h
  have hS' := hA.1.1.2.2.1
  unfold m_X11_sure sureS
  rw [ok_cb]
  refine ok_mono (isUp_ok hA.1 h2 h4 h5) (fun r hr => ?_)
  subst hr
  dsimp only
  rw [ok_ite, decide_eq_true_iff]
  refine ⟨fun q => ?_, fun q => ok_some.mpr (by rw [if_neg q]; exact QC_same h)⟩
  rw [if_pos q]
  obtain ⟨j, hj, rfl, hcl⟩ := in_iff hS' ⟨q.1, q.2.1⟩
  rw [ok_cv, h2, hcl]
  refine ok_mono (look_ok hN hA.1 h5 h6 h4.1) (fun M1 hM1 => ?_)
  obtain ⟨S, hS, l1, f1⟩ := hM1
  rw [ok_cl]
  refine ok_mono (chanceOf_ok hF (by omega) (Y := 100 * N) (by omega) hA.1 hA.2.1.1 l1 (show j < 32 by omega)) (fun r hr => ok_some.mpr ?_)
  obtain ⟨r1, r2, r3⟩ := hr
  have := RC_lk hA hod h2 h3 h4 hS r2 (FK_tr (FK_mono f1 (fun k n i q => Or.inl q)) (FK_mono (FK_fi r3) (fun k n i q => Or.inr (Or.inl q))))
  exact ⟨r1, this.1, this.2⟩
