/-! hear; what can be undone -/
def sH (A : sty) (H : hty) : sty := (aC A, aM A, aU A, aK A, aL A, H, aT A)
def sMo (A : sty) (mo : mty) (U : List mty) : sty := (aC A, mo, U, aK A, aL A, aH A, aT A)
theorem UnC_c {M M' : mm} {U : List mty} (h : UnC M U) (e12 : ∀ j, j = 13 ∨ j = 14 → M'.1 12 0 j = M.1 12 0 j) (e5 : ∀ n j, 9 ≤ n → n ≤ 24 → M'.1 5 n j = M.1 5 n j) : UnC M' U := by
  obtain ⟨h1, f, hf, h2, h3⟩ := h
  exact ⟨by rw [e12 14 (Or.inr rfl)]; exact h1, f, hf, by rw [e12 13 (Or.inl rfl)]; exact h2, fun i u hu => MoM_c (h3 i u hu) (fun j _ => e5 _ j (by omega) (by omega))⟩
theorem MkC_c {M M' : mm} {K : Nat → Option (mty × lty × hty)} (h : MkC M K) (e12 : M'.1 12 0 17 = M.1 12 0 17) (e5 : ∀ n j, 25 ≤ n → n ≤ 28 → M'.1 5 n j = M.1 5 n j) (e9 : ∀ k n j, k = 9 ∨ k = 45 ∨ k = 46 → 2 ≤ n → n ≤ 5 → M'.1 k n j = M.1 k n j) : MkC M' K := fun k hk => ⟨by rw [e12]; exact (h k hk).1, fun v hv => by
  obtain ⟨a, b, c⟩ := (h k hk).2 v hv
  exact ⟨MoM_c a (fun j _ => e5 _ j (by omega) (by omega)), ToL_c b (fun q j hq => e9 q _ j hq (by omega) (by omega)), ToH_c c (fun j => e9 9 _ j (Or.inl rfl) (by omega) (by omega))⟩⟩
theorem TpC_c {M M' : mm} {T : List Int32} (h : TpC M T) (e7 : M'.1 7 0 2 = M.1 7 0 2) (e40 : ∀ j, M'.1 40 0 j = M.1 40 0 j) : TpC M' T := by
  unfold TpC at h ⊢
  simp only [e7, e40]; exact h
theorem CS_fi {C : cty} {o : Nat} {M M' : mm} {P : Nat → Nat → Nat → Prop} (h : CS C o M) (f : fi P M M') (hP : ∀ k n i, P k n i → k ≠ 1 ∧ k ≠ 3 ∧ ¬ (20 ≤ k ∧ k ≤ 38) ∧ k ≠ 48) : CS C o M' := by
  refine ⟨CV_fr h.1 (fr_fi f) (fun k hk q => ?_), fun x hx => ?_⟩
  · obtain ⟨i, q⟩ := q
    have := hP _ _ _ q; omega
  · unfold lfM
    rw [fi_I f (fun q => by have := hP _ _ _ q; omega)]; exact h.2 x hx
theorem WhI_fi {C : cty} {o N : Nat} {M M' : mm} {P : Nat → Nat → Nat → Prop} (h6 : WhI C o N M) (f : fi P M M') (hP : ∀ k n i, P k n i → k ≠ 11 ∧ k ≠ 55 ∧ k ≠ 56 ∧ ¬ (k = 5 ∧ n = 0)) : WhI C o N M' := by
  have e : ∀ k n i, (k = 11 ∨ k = 55 ∨ k = 56 ∨ (k = 5 ∧ n = 0)) → M'.1 k n i = M.1 k n i := fun k n i hk => fi_I f (fun q => by have := hP k n i q; omega)
  unfold WhI at h6 ⊢
  simp only [e 11 _ _ (Or.inl rfl), e 55 _ _ (Or.inr (Or.inl rfl)), e 56 _ _ (Or.inr (Or.inr (Or.inl rfl))), f.1]
  refine ⟨h6.1, ?_⟩
  rcases h6.2 with q | ⟨a, b, sm, c, q⟩
  · exact Or.inl q
  · exact Or.inr ⟨a, b, sm, MoM_c c (fun j _ => e 5 0 j (Or.inr (Or.inr (Or.inr ⟨rfl, rfl⟩)))), q⟩
noncomputable def hearS (A : sty) (x : Int32) (b : Bool) : Bool × sty := if 0 ≤ x ∧ x < nI (cS (aC A)) ∧ (aH A).length < 10 then (true, sH A (aH A ++ [(x.toNatClampNeg, b)])) else (false, A)
theorem hear_g {A : sty} {N : Nat} {x : Int32} {b : Bool} (hA : AOK A N) : AOK (hearS A x b).2 (N + 1) := by
  unfold hearS
  split
  · rename_i q
    obtain ⟨h1, h2, h3, h4, h5, h6, h7⟩ := AOK_up hA
    obtain ⟨j, hj, rfl⟩ := ix_of h1.1.2.2.1 ⟨q.1, q.2.1⟩
    refine ⟨h1, h2, h3, h4, h5, ⟨?_, fun e he => ?_⟩, h7⟩
    · show (aH A ++ [((nI j).toNatClampNeg, b)]).length ≤ 10
      rw [List.length_append]; simp; omega
    · have hS := h1.1.2.2.1
      rcases List.mem_append.mp he with r | r
      · exact h6.2 e r
      · rw [List.mem_singleton] at r
        subst r
        show (nI j).toNatClampNeg < _
        rw [nI_clamp (by omega)]; exact hj
  · exact AOK_up hA
theorem hearC {F : Nat} {A : sty} {N : Nat} {M : mm} {x a : Int32} (hA : AOK A N) (h : RC A N M) : ok (m_X11_hear F x a M) (QC (hearS A x (decide (a ≠ 0))).2 N M (hearS A x (decide (a ≠ 0))).1) := by
  obtain ⟨o, d, hod, h2, h3, h4, h5, h6⟩ := id h
  have hS := hA.1.1.2.2.1
  obtain ⟨m, u, k, t1, t2, t3⟩ := id h4
  have hl := hA.2.2.2.2.2.1.1
  unfold m_X11_hear
  rw [ok_cb, h2]
  refine ok_mono (hasStone_ok h5.1) (fun r hr => ?_)
  subst hr
  dsimp only
  have no : ¬ (0 ≤ x ∧ x < nI (cS (aC A)) ∧ (aH A).length < 10) → QC (hearS A x (decide (a ≠ 0))).2 N M (hearS A x (decide (a ≠ 0))).1 (false, M) := fun q => by
    unfold hearS; rw [if_neg q]; exact QC_same h
  rw [ok_ite, decide_eq_true_iff, t2.1, ok_ite, nI_lt_lit (n := 10) (by decide) (by omega)]
  refine ⟨fun hr => ⟨fun hl2 => ?_, fun hl2 => ok_some.mpr (no (fun q => hl2 q.2.2))⟩, fun q => ok_some.mpr (no (fun q2 => q ⟨q2.1, q2.2.1⟩))⟩
  obtain ⟨j, hj, rfl⟩ := ix_of (by omega) hr
  have hcl : (nI j).toNatClampNeg = j := nI_clamp (by omega)
  have hs : hearS A (nI j) (decide (a ≠ 0)) = (true, sH A (aH A ++ [(j, decide (a ≠ 0))])) := by
    unfold hearS; rw [if_pos ⟨hr.1, hr.2, hl2⟩, hcl]
  rw [hs, ok_nm]
  dsimp only
  have fin : ∀ M', fi (fun k n i => k = 9 ∧ n = 0 ∧ 3 ≤ i) M M' → ToH 0 M' (aH A ++ [(j, decide (a ≠ 0))]) → QC (sH A (aH A ++ [(j, decide (a ≠ 0))])) N M true (true, M') := by
    intro M' f hT
    have e : ∀ k n i, ¬ (k = 9 ∧ n = 0 ∧ 3 ≤ i) → M'.1 k n i = M.1 k n i := fun k n i q => fi_I f q
    refine ⟨rfl, ⟨o, d, hod, by rw [f.1]; exact h2, by rw [f.1]; exact h3, ⟨MoM_c m (fun j _ => e 5 7 j (by omega)), UnC_c u (fun j _ => e 12 0 j (by omega)) (fun n j _ _ => e 5 n j (by omega)), MkC_c k (e 12 0 17 (by omega)) (fun n j _ _ => e 5 n j (by omega)) (fun k n j _ _ _ => e k n j (by omega)), ?_, hT, TpC_c t3 (e 7 0 2 (by omega)) (fun j => e 40 0 j (by omega))⟩, CS_fi h5 f (fun k n i q => by omega), WhI_up (WhI_fi h6 f (fun k n i q => by omega))⟩, FrC_fi f (fun k n i q => by omega)⟩
    obtain ⟨a1, a2⟩ := t1
    refine ⟨by rw [e 9 0 0 (by omega)]; exact a1, fun i v hv => ?_⟩
    rw [e 45 0 i (by omega), e 46 0 i (by omega)]; exact a2 i v hv
  have hone : ∀ s, s < 32 → (bt ((1 : Int32) <<< (nI j &&& 31)) s = true ↔ s = j) := fun s hs => by rw [b_one (by omega) hs, decide_eq_true_iff]
  rw [ok_ite]
  refine ⟨fun q => ok_nm.mpr (ok_some.mpr (fin _ (fi_sI (fi_sI fi_rf ⟨rfl, rfl, by omega⟩) ⟨rfl, rfl, by omega⟩) ?_)), fun q => ok_nm.mpr (ok_some.mpr (fin _ (fi_sI (fi_sI fi_rf ⟨rfl, rfl, by omega⟩) ⟨rfl, rfl, by omega⟩) ?_))⟩
  · have hb : decide (a ≠ 0) = false := by simp [q]
    rw [hb]
    refine ⟨?_, fun s hs => ?_, fun s hs => ?_⟩
    · simp [rII]; rw [nI_1]
    · simp [rII]; exact t2.2.1 s hs
    · simp only [rII]; simp
      rw [b_or, Bool.or_eq_true, hone s hs, t2.2.2 s hs]
  · have hb : decide (a ≠ 0) = true := by simp [q]
    rw [hb]
    refine ⟨?_, fun s hs => ?_, fun s hs => ?_⟩
    · simp [rII]; rw [nI_1]
    · simp only [rII]; simp
      rw [b_or, Bool.or_eq_true, hone s hs, t2.2.1 s hs]
    · simp [rII]; exact t2.2.2 s hs
theorem nar_b {b : Bool} : vp_nar .boolean (bI b) = if b then 1 else 0 := by cases b <;> decide
theorem getq_snoc {α : Type} {l : List α} {v e : α} {i : Nat} (h : (l ++ [v])[i]? = some e) : (i < l.length ∧ l[i]? = some e) ∨ (i = l.length ∧ e = v) := by
  rw [List.getElem?_append] at h
  by_cases q : i < l.length
  · rw [if_pos q] at h; exact Or.inl ⟨q, h⟩
  · rw [if_neg q] at h
    have h1 := (List.getElem?_eq_some_iff.mp h).1
    simp at h1
    have h2 : i - l.length = 0 := by omega
    rw [h2] at h; simp at h
    exact Or.inr ⟨by omega, h.symm⟩
theorem hearM {F : Nat} {A : sty} {N : Nat} {M : mm} {x : Int32} {b : Bool} (hA : AOK A N) (h : RM A M) : ok (m_X12_hear F x (bI b) M) (QM (hearS A x b).2 M (hearS A x b).1) := by
  have hS := hA.1.1.2.2.1
  have hl := hA.2.2.2.2.2.1.1
  have h1 : RM A (sI M 13 0 0 0) := RM_fi h thr_f PT_GM
  have q1 : QM A M false (false, sI M 13 0 0 0) := QM_fi h thr_f (fun k n i q => ⟨PT_GM k n i q, by unfold PT at q; omega⟩)
  obtain ⟨s, u, k, l, e, t⟩ := h1.2
  have f1 := thr_f (M := M) (v := 0)
  unfold m_X12_hear
  rw [ok_nm, ok_cb]
  generalize sI M 13 0 0 0 = M1 at h1 q1 s u k l e t f1 ⊢
  refine ok_mono (isStone_ok h1.1.1) (fun r hr => ?_)
  subst hr
  dsimp only
  have no : ¬ (0 ≤ x ∧ x < nI (cS (aC A)) ∧ (aH A).length < 10) → QM (hearS A x b).2 M (hearS A x b).1 (false, M1) := fun q => by
    unfold hearS; rw [if_neg q]; exact q1
  rw [ok_ite, decide_eq_true_iff]
  refine ⟨fun hr => ?_, fun q => ok_some.mpr (no (fun q2 => q ⟨q2.1, q2.2.1⟩))⟩
  rw [ok_gi, tc0, e.1, ok_ite]
  refine ⟨vp_of (by decide), fun q => ok_some.mpr (no (fun q2 => ?_)), fun q => ?_⟩
  · have : (aH A).length = 10 := (nI_eq (b := 10) (by omega) (by decide)).mp q
    omega
  · have hl2 : (aH A).length < 10 := by
      rcases Nat.lt_or_ge (aH A).length 10 with q2 | q2
      · exact q2
      · exact absurd (show nI (aH A).length = (10 : Int32) by have : (aH A).length = 10 := by omega
                                                              rw [this]; rfl) q
    obtain ⟨j, hj, rfl⟩ := ix_of (by omega) hr
    have hcl : (nI j).toNatClampNeg = j := nI_clamp (by omega)
    have hs : hearS A (nI j) b = (true, sH A (aH A ++ [(j, b)])) := by
      unfold hearS; rw [if_pos ⟨hr.1, hr.2, hl2⟩, hcl]
    rw [hs]
    have c1 : ∀ v, (sI M1 98 0 (aH A).length v).1 97 0 0 = nI (aH A).length := fun v => by rw [rII, if_neg (by omega)]; exact e.1
    have c2 : ∀ v w, (sI (sI M1 98 0 (aH A).length v) 99 0 (aH A).length w).1 97 0 0 = nI (aH A).length := fun v w => by rw [rII, if_neg (by omega)]; exact c1 v
    simp only [ok_gi, ok_nm, ok_some, nI_clamp (show (aH A).length < 2 ^ 31 by omega), c1, c2, nar_b, nI_1]
    have f2 : fi (fun k n i => PT k n i ∨ k = 97 ∨ k = 98 ∨ k = 99) M (sI (sI (sI M1 98 0 (aH A).length (nI j)) 99 0 (aH A).length (if b = true then 1 else 0)) 97 0 0 (nI ((aH A).length + 1))) := fi_sI (fi_sI (fi_sI (fi_mono f1 (fun k n i q => Or.inl q)) (Or.inr (Or.inr (Or.inl rfl)))) (Or.inr (Or.inr (Or.inr rfl)))) (Or.inr (Or.inl rfl))
    refine ⟨vp_of (by decide), vp_in_nI (by omega) (by decide), vp_of (by decide), vp_in_nI (by omega) (by decide), vp_of (by decide), vp_of (by decide), rfl, ?_, FrM_fi f2 (fun k n i q => by unfold PT at q; omega)⟩
    have f3 : fi (fun k n i => k = 97 ∧ i = 0 ∨ k = 98 ∧ i = (aH A).length ∨ k = 99 ∧ i = (aH A).length) M1 (sI (sI (sI M1 98 0 (aH A).length (nI j)) 99 0 (aH A).length (if b = true then 1 else 0)) 97 0 0 (nI ((aH A).length + 1))) := fi_sI (fi_sI (fi_sI fi_rf (Or.inr (Or.inl ⟨rfl, rfl⟩))) (Or.inr (Or.inr ⟨rfl, rfl⟩))) (Or.inl ⟨rfl, rfl⟩)
    generalize hM2 : sI (sI (sI M1 98 0 (aH A).length (nI j)) 99 0 (aH A).length (if b = true then 1 else 0)) 97 0 0 (nI ((aH A).length + 1)) = M2 at f2 f3 ⊢
    have ee : ∀ k i, (k < 97 ∨ 99 < k) → M2.1 k 0 i = M1.1 k 0 i := fun k i hk => fi_I f3 (by omega)
    refine ⟨RMo_fr h1.1 (fr_fi f3) (fun k q => by obtain ⟨i, q⟩ := q; omega), ⟨by rw [ee 64 4 (by omega), ee 64 5 (by omega)]; exact s, ⟨by rw [ee 13 54 (by omega)]; exact u.1, fun i v hv => RwM_c (u.2 i v hv) (fun j => ee 103 j (by omega))⟩, fun q hq => ⟨by rw [ee 104 q (by omega)]; exact (k q hq).1, fun v hv => ?_⟩, LiM_c l (fun k j hk => ee k j (by omega)), ?_, ⟨by rw [ee 13 1 (by omega)]; exact t.1, fun i x hx => by rw [ee 63 i (by omega)]; exact t.2 i x hx⟩⟩⟩
    · obtain ⟨a1, a2, a3, a4⟩ := (k q hq).2 v hv
      have hvl := (hA.2.2.2.1 q v hv).2.2.1
      refine ⟨RwM_c a1 (fun j => ee 102 j (by omega)), LiM_c a2 (fun k j hk => ee k j (by omega)), ?_, fun i e he => ?_⟩
      · rw [fi_I f3 (by omega)]; exact a3
      · have := (List.getElem?_eq_some_iff.mp he).1
        rw [fi_I f3 (by omega), fi_I f3 (by omega)]; exact a4 i e he
    · refine ⟨?_, fun i v hv => ?_⟩
      · show M2.1 97 0 0 = nI (aH A ++ [(j, b)]).length
        rw [← hM2]; simp [rII]
      · rcases getq_snoc hv with ⟨q1, q2⟩ | ⟨q1, q2⟩
        · rw [fi_I f3 (by omega), fi_I f3 (by omega)]; exact e.2 i v q2
        · subst q1; subst q2
          rw [← hM2]
          simp [rII]
