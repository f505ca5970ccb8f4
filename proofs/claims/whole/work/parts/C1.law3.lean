/-! the class's law: a part, a joint -/
theorem lpush_ok {F l : Nat} {cs w : List Int32} {M : mm} {c : Int32} (h : LrC l cs w M) (hw : w.length < 60) : ok (m_X3_push F c M) (fun M' => LrC l cs (c :: w) M' ∧ fi (fun k n i => (k = 39 ∧ n = 0) ∨ (k = 4 ∧ n = 0 ∧ i = 2)) M M') := by
  obtain ⟨h1, h2, h3, h4⟩ := h
  have e : (64 : Int32) ≤ nI w.length ↔ 64 ≤ w.length := (nI_leI (by omega) (by omega) : nI 64 ≤ nI w.length ↔ _)
  unfold m_X3_push
  rw [h3, ok_ite, e]
  refine ⟨fun q => by omega, fun _ => ?_⟩
  rw [ok_gi, ok_nm, ok_nm, ok_some, nI_clamp (by omega)]
  have f1 : fi (fun k n i => k = 39 ∧ n = 0 ∧ i = w.length) M (sI M 39 0 w.length c) := fi_sI fi_rf ⟨rfl, rfl, rfl⟩
  have v1 : (sI M 39 0 w.length c).1 4 0 2 = nI w.length := by rw [rII, if_neg (by omega)]; exact h3
  have v2 : (sI M 39 0 w.length c).1 39 0 w.length = c := by rw [rII, if_pos ⟨rfl, rfl, rfl⟩]
  have v3 : (sI M 39 0 w.length c).2.2 4 0 6 = l := by simp only [rIR]; exact h4
  generalize sI M 39 0 w.length c = M1 at f1 v1 v2 v3 ⊢
  have f2 : fi (fun k n i => k = 4 ∧ n = 0 ∧ i = 2) M1 (sI M1 4 0 2 (M1.1 4 0 2 + 1)) := fi_sI fi_rf ⟨rfl, rfl, rfl⟩
  refine ⟨vp_in_nI (by omega) (by decide), ⟨LwC_fi (LwC_fi h1 f1 (fun k i q => by omega)) f2 (fun k i q => by omega), ⟨(fi_I f2 (by omega)).trans v2, StC_fi (StC_fi h2 f1 (fun i hi => by omega)) f2 (fun i _ => by omega)⟩, ?_, by simp only [rIR]; exact v3⟩, fi_tr (fi_mono f1 (fun k n i q => Or.inl ⟨q.1, q.2.1⟩)) (fi_mono f2 (fun k n i q => Or.inr q))⟩
  rw [rII, if_pos ⟨rfl, rfl, rfl⟩, v1, nI_1, List.length_cons]
theorem nI_m1 (n : Nat) : nI (n + 1) - (1 : Int32) = nI n := by rw [← nI_1]; exact Int32.add_sub_cancel _ _
theorem lend_ok {F l : Nat} (hF : 2000 < F) {cs w : List Int32} {M : mm} (h : LrC l cs w M) (hz : M.1 4 0 3 = nI (lZ w)) (hw : w.length ≤ 60) (hn : cs.length + w.length ≤ 1000) : ok (m_X3_endPart F M) (fun M' => LrC l (lEnd cs w).1 (lEnd cs w).2 M' ∧ M'.1 4 0 3 = nI (lZ (lEnd cs w).2) ∧ M'.1 4 0 5 = 0 ∧ fi (fun k n i => PAd l k n i ∨ (k = 4 ∧ n = 0 ∧ (i = 2 ∨ i = 3 ∨ i = 5))) M M') := by
  unfold m_X3_endPart
  rw [ok_bd]
  refine ok_mono (Q := fun M' => LrC l (lEnd cs w).1 (lEnd cs w).2 M' ∧ M'.1 4 0 3 = nI (lZ (lEnd cs w).2) ∧ fi (fun k n i => PAd l k n i ∨ (k = 4 ∧ n = 0 ∧ (i = 2 ∨ i = 3 ∨ i = 5))) M M') ?_ (fun M' hM' => ?_)
  · refine ok_lp (fun n M1 => ∃ cs1 w1, n = w1.length ∧ lEnd cs w = lEnd cs1 w1 ∧ LrC l cs1 w1 M1 ∧ M1.1 4 0 3 = nI (lZ w1) ∧ w1.length ≤ 60 ∧ cs1.length + w1.length ≤ 1000 ∧ fi (fun k n i => PAd l k n i ∨ (k = 4 ∧ n = 0 ∧ (i = 2 ∨ i = 3 ∨ i = 5))) M M1) ?_ F w.length _ (by omega) ⟨cs, w, rfl, rfl, h, hz, hw, hn, fi_rf⟩
    rintro n M1 ⟨cs1, w1, rfl, e, ⟨h1, h2, h3, h4⟩, hz1, hw1, hn1, f1⟩
    have e0 : nI w1.length ≤ (0 : Int32) ↔ w1.length ≤ 0 := (nI_leI (by omega) (by omega) : nI w1.length ≤ nI 0 ↔ _)
    simp only [b_X3_endPart_1, b_X3_endPart_1c]
    rw [h3, ok_ite, e0]
    cases w1 with
    | nil =>
      refine ⟨fun _ => ok_some.mpr ?_, fun q => absurd (Nat.le_refl _) q⟩
      show LrC l (lEnd cs w).1 (lEnd cs w).2 M1 ∧ _
      rw [e]
      exact ⟨⟨h1, h2, h3, h4⟩, hz1, f1⟩
    | cons c w2 =>
      rw [List.length_cons] at hw1 hn1 h3 ⊢
      refine ⟨fun q => by omega, fun _ => ?_⟩
      rw [nI_m1, ok_gi, ok_ite, nI_clamp (by omega), h2.1]
      have eS : lEnd cs1 (c :: w2) = if c = -5 then lEnd (cs1 ++ [-5]) w2 else (cs1, c :: w2) := rfl
      refine ⟨vp_in_nI (by omega) (by decide), fun q => ?_, fun q => ok_some.mpr ?_⟩
      · rw [if_pos q] at eS
        rw [ok_nm]
        have f2 : fi (fun k n i => k = 4 ∧ n = 0 ∧ i = 2) M1 (sI M1 4 0 2 (nI w2.length)) := fi_sI fi_rf ⟨rfl, rfl, rfl⟩
        have v2 : (sI M1 4 0 2 (nI w2.length)).1 4 0 2 = nI w2.length := by rw [rII, if_pos ⟨rfl, rfl, rfl⟩]
        have v3 : (sI M1 4 0 2 (nI w2.length)).1 4 0 3 = nI (lZ w2 + 1) := by rw [rII, if_neg (by omega), hz1, lZ_cons, q]; rfl
        have v6 : (sI M1 4 0 2 (nI w2.length)).2.2 4 0 6 = l := by simp only [rIR]; exact h4
        generalize sI M1 4 0 2 (nI w2.length) = M2 at f2 v2 v3 v6 ⊢
        rw [v3, nI_m1, ok_nm, ok_cv]
        have f3 : fi (fun k n i => k = 4 ∧ n = 0 ∧ i = 3) M2 (sI M2 4 0 3 (nI (lZ w2))) := fi_sI fi_rf ⟨rfl, rfl, rfl⟩
        have u2 : (sI M2 4 0 3 (nI (lZ w2))).1 4 0 2 = nI w2.length := by rw [rII, if_neg (by omega)]; exact v2
        have u3 : (sI M2 4 0 3 (nI (lZ w2))).1 4 0 3 = nI (lZ w2) := by rw [rII, if_pos ⟨rfl, rfl, rfl⟩]
        have u6 : (sI M2 4 0 3 (nI (lZ w2))).2.2 4 0 6 = l := by simp only [rIR]; exact v6
        generalize sI M2 4 0 3 (nI (lZ w2)) = M3 at f3 u2 u3 u6 ⊢
        rw [u6]
        refine ok_mono (ladd_ok (LwC_fi (LwC_fi h1 f2 (fun k i q => by omega)) f3 (fun k i q => by omega)) (by omega)) (fun M5 h5 => ok_some.mpr ?_)
        have f5 := h5.2
        refine ⟨w2.length, Nat.lt_succ_self _, cs1 ++ [-5], w2, rfl, e.trans eS, ⟨h5.1, StC_fi (StC_fi (StC_fi h2.2 f2 (fun i _ => by omega)) f3 (fun i _ => by omega)) f5 (fun i _ => by unfold PAd; omega), (fi_I f5 (by unfold PAd; omega)).trans u2, (by rw [f5.1]; exact u6)⟩, (fi_I f5 (by unfold PAd; omega)).trans u3, by omega, by rw [List.length_append, List.length_singleton]; omega, fi_tr f1 (fi_tr (fi_mono f2 (fun k n i q => Or.inr ⟨q.1, q.2.1, Or.inl q.2.2⟩)) (fi_tr (fi_mono f3 (fun k n i q => Or.inr ⟨q.1, q.2.1, Or.inr (Or.inl q.2.2)⟩)) (fi_mono f5 (fun k n i q => Or.inl q))))⟩
      · show LrC l (lEnd cs w).1 (lEnd cs w).2 M1 ∧ _
        rw [e, eS, if_neg q]
        exact ⟨⟨h1, h2, h3, h4⟩, hz1, f1⟩
  · obtain ⟨⟨h1, h2, h3, h4⟩, h5, h6⟩ := hM'
    rw [ok_nm, ok_some]
    have f : fi (fun k n i => k = 4 ∧ n = 0 ∧ i = 5) M' (sI M' 4 0 5 0) := fi_sI fi_rf ⟨rfl, rfl, rfl⟩
    exact ⟨⟨LwC_fi h1 f (fun k i q => by omega), StC_fi h2 f (fun i _ => by omega), (fi_I f (by omega)).trans h3, (by simp only [rIR]; exact h4)⟩, (fi_I f (by omega)).trans h5, (by rw [rII, if_pos ⟨rfl, rfl, rfl⟩]), fi_tr h6 (fi_mono f (fun k n i q => Or.inr ⟨q.1, q.2.1, Or.inr (Or.inr q.2.2)⟩))⟩
/-- what a part is, what a joint is -/
def lPart (T : List Int32) (p : Nat) : Int32 := if (tkA T p).1 = 3 then (tkA T p).2.2 else if isS T p 40 = true then -13 else if isW T p 22 = true then -5 else if (tkA T p).1 = 2 ∧ ¬ kwI (wdA T p) < 25 then -1 - (kwI (wdA T p) - 25) else -14
def lJnt (T : List Int32) (p : Nat) : Int32 := if isW T p 23 = true then -6 else if isW T p 24 = true then -7 else if (tkA T p).1 = 4 then (if (tkA T p).2.2 = 42 then -12 else if (tkA T p).2.2 = 43 then -10 else if (tkA T p).2.2 = 45 then -11 else if (tkA T p).2.2 = 60 then -8 else if (tkA T p).2.2 = 61 then -9 else -14) else -14
theorem lpart_ok {F : Nat} {T : List Int32} {p : Nat} {M : mm} (h : AtC T p M) : ok (m_X3_partCode F M) (fun r => r = (lPart T p, M)) := by
  have h4 := h.2.2.2.2.1
  have h7 := h.2.2.2.2.2.1
  have h6 := h.2.2.2.2.2.2.2
  have e3 : nI (tkA T p).1 = (3 : Int32) ↔ (tkA T p).1 = 3 := kd_eq T p (k := 3) (by decide)
  have e2 : nI (tkA T p).1 = (2 : Int32) ↔ (tkA T p).1 = 2 := kd_eq T p (k := 2) (by decide)
  unfold m_X3_partCode lPart
  rw [h4, ok_ite, e3]
  refine ⟨fun q => ok_some.mpr (by rw [if_pos q, h6 (Or.inl q)]), fun q => ?_⟩
  rw [if_neg q, ok_cb]
  refine ok_mono (isSign_ok h (c := 40)) (fun r hr => ?_)
  subst hr
  dsimp only
  rw [ok_ite]
  refine ⟨fun q => ok_some.mpr (by rw [if_pos q]), fun q => ?_⟩
  rw [if_neg q, ok_cb]
  refine ok_mono (isWord_ok (i := 22) h (by decide)) (fun r hr => ?_)
  subst hr
  dsimp only
  rw [ok_ite]
  refine ⟨fun q => ok_some.mpr (by rw [if_pos q]), fun q => ?_⟩
  rw [if_neg q, ok_bd, ok_nm, h4, ok_ite, e2, h7]
  refine ⟨fun q2 => ?_, fun q2 => ?_⟩
  · rw [if_pos q2, ok_ite]
    refine ⟨fun q3 => ok_some.mpr ?_, fun q3 => ok_some.mpr ?_⟩
    · rw [if_neg (show ¬ ((tkA T p).1 = 2 ∧ ¬ kwI (wdA T p) < 25) from fun r => r.2 q3), if_pos rfl]; exact ok_some.mpr rfl
    · rw [if_pos (show (tkA T p).1 = 2 ∧ ¬ kwI (wdA T p) < 25 from ⟨q2, q3⟩), if_neg (show ¬ (1 : Int32) = 0 by decide)]; exact ok_some.mpr rfl
  · refine ok_some.mpr ?_
    rw [if_neg (show ¬ ((tkA T p).1 = 2 ∧ ¬ kwI (wdA T p) < 25) from fun r => q2 r.1), if_pos rfl]; exact ok_some.mpr rfl
theorem ljnt_ok {F : Nat} {T : List Int32} {p : Nat} {M : mm} (h : AtC T p M) : ok (m_X3_jointCode F M) (fun r => r = (lJnt T p, M)) := by
  have h4 := h.2.2.2.2.1
  have h6 := h.2.2.2.2.2.2.2
  have e4 : nI (tkA T p).1 = (4 : Int32) ↔ (tkA T p).1 = 4 := kd_eq T p (k := 4) (by decide)
  unfold m_X3_jointCode lJnt
  rw [ok_cb]
  refine ok_mono (isWord_ok (i := 23) h (by decide)) (fun r hr => ?_)
  subst hr
  dsimp only
  rw [ok_ite]
  refine ⟨fun q => ok_some.mpr (by rw [if_pos q]), fun q => ?_⟩
  rw [if_neg q, ok_cb]
  refine ok_mono (isWord_ok (i := 24) h (by decide)) (fun r hr => ?_)
  subst hr
  dsimp only
  rw [ok_ite]
  refine ⟨fun q => ok_some.mpr (by rw [if_pos q]), fun q => ?_⟩
  rw [if_neg q, h4, ok_ite, e4]
  refine ⟨fun q2 => ?_, fun q2 => ok_some.mpr (by rw [if_neg q2])⟩
  rw [if_pos q2, ok_nm, h6 (Or.inr q2)]
  repeat' split
  all_goals first | exact ok_some.mpr rfl | contradiction
