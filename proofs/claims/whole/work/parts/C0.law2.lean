/-! the class's law: codes told, joints waiting -/
def LwC (l : Nat) (cs : List Int32) (M : mm) : Prop := M.1 3 l 4 = nI cs.length ∧ ∀ i c, cs[i]? = some c → M.1 35 l i = c
def StC : List Int32 → mm → Prop
  | [], _ => True
  | c :: w, M => M.1 39 0 w.length = c ∧ StC w M
def rkN (c : Int32) : Nat := if c = -12 then 4 else if c = -11 then 3 else if c = -10 then 3 else if c = -9 then 2 else if c = -8 then 2 else if c = -7 then 1 else if c = -6 then 1 else 0
def PLw (l : Nat) : Nat → Nat → Nat → Prop := fun k n i => (n = l ∧ (k = 35 ∨ (k = 3 ∧ i = 4))) ∨ (n = 0 ∧ (k = 39 ∨ (k = 4 ∧ 2 ≤ i ∧ i ≤ 5)))
def PAd (l : Nat) : Nat → Nat → Nat → Prop := fun k n i => n = l ∧ (k = 35 ∨ (k = 3 ∧ i = 4))
theorem PAd_L {l : Nat} : ∀ k n i, PAd l k n i → PLw l k n i := fun _ _ _ q => Or.inl q
theorem ladd_ok {F l : Nat} {cs : List Int32} {M : mm} {a : Int32} (h : LwC l cs M) (hl : cs.length < 1000) : ok (m_X2_add F l a M) (fun M' => LwC l (cs ++ [a]) M' ∧ fi (PAd l) M M') := by
  obtain ⟨h1, h2⟩ := h
  have e1 : (1000 : Int32) ≤ nI cs.length ↔ 1000 ≤ cs.length := (nI_leI (by omega) (by omega) : nI 1000 ≤ nI cs.length ↔ _)
  unfold m_X2_add
  rw [h1, ok_ite, e1]
  refine ⟨fun q => by omega, fun _ => ?_⟩
  rw [ok_gi, ok_nm, ok_nm, ok_some, nI_clamp (by omega)]
  have f : fi (PAd l) M (sI (sI M 35 l cs.length a) 3 l 4 ((sI M 35 l cs.length a).1 3 l 4 + 1)) := fi_sI (fi_sI fi_rf ⟨rfl, Or.inl rfl⟩) ⟨rfl, Or.inr ⟨rfl, rfl⟩⟩
  refine ⟨vp_in_nI (by omega) (by decide), ⟨?_, fun i c hi => ?_⟩, f⟩
  · rw [rII, if_pos ⟨rfl, rfl, rfl⟩, rII, if_neg (by omega), h1, nI_1, List.length_append, List.length_singleton]
  · rw [rII, if_neg (by omega), rII]
    rcases get_snoc.mp hi with q | ⟨q, q2⟩
    · have := (List.getElem?_eq_some_iff.mp q).1
      rw [if_neg (by omega)]; exact h2 i c q
    · subst q; subst q2
      rw [if_pos ⟨rfl, rfl, rfl⟩]
theorem rank_ok {F : Nat} {c : Int32} {M : mm} : ok (m_X3_rank F c M) (fun r => r = (nI (rkN c), M)) := by
  unfold m_X3_rank rkN
  repeat' split
  all_goals first | exact ok_some.mpr rfl | contradiction
theorem rkN_le (c : Int32) : rkN c ≤ 4 := by
  unfold rkN
  repeat' split
  all_goals omega
theorem StC_fi {w : List Int32} {M M' : mm} {P : Nat → Nat → Nat → Prop} (h : StC w M) (f : fi P M M') (hP : ∀ i, i < w.length → ¬ P 39 0 i) : StC w M' := by
  induction w with
  | nil => trivial
  | cons c w ih => exact ⟨(fi_I f (hP _ (by rw [List.length_cons]; omega))).trans h.1, ih h.2 (fun i hi => hP i (by rw [List.length_cons]; omega))⟩
theorem LwC_fi {l : Nat} {cs : List Int32} {M M' : mm} {P : Nat → Nat → Nat → Prop} (h : LwC l cs M) (f : fi P M M') (hP : ∀ k i, P k l i → ¬ (k = 35 ∨ (k = 3 ∧ i = 4))) : LwC l cs M' := ⟨(fi_I f (fun q => hP _ _ q (by omega))).trans h.1, fun i c hi => (fi_I f (fun q => hP _ _ q (by omega))).trans (h.2 i c hi)⟩
/-- joints that bind at least so closely are told -/
def lSet (r : Nat) : List Int32 → List Int32 → List Int32 × List Int32
  | cs, [] => (cs, [])
  | cs, c :: w => if rkN c < r then (cs, c :: w) else lSet r (cs ++ [c]) w
/-- each not before a part -/
def lEnd : List Int32 → List Int32 → List Int32 × List Int32
  | cs, [] => (cs, [])
  | cs, c :: w => if c = -5 then lEnd (cs ++ [-5]) w else (cs, c :: w)
def lZ (w : List Int32) : Nat := (w.filter (fun c => rkN c == 0)).length
theorem lZ_cons (c : Int32) (w : List Int32) : lZ (c :: w) = lZ w + (if rkN c = 0 then 1 else 0) := by
  unfold lZ
  rw [List.filter_cons]
  by_cases q : rkN c = 0
  · rw [if_pos (by rw [q]; rfl), if_pos q, List.length_cons]
  · rw [if_neg (by rw [beq_iff_eq]; exact q), if_neg q]; rfl
/-- the reader's own state -/
def LrC (l : Nat) (cs w : List Int32) (M : mm) : Prop := LwC l cs M ∧ StC w M ∧ M.1 4 0 2 = nI w.length ∧ M.2.2 4 0 6 = l
theorem lset_ok {F l : Nat} (hF : 2000 < F) {r : Nat} (hr : 1 ≤ r ∧ r ≤ 4) {cs w : List Int32} {M : mm} (h : LrC l cs w M) (hw : w.length ≤ 60) (hn : cs.length + w.length ≤ 1000) : ok (m_X3_settle F (nI r) M) (fun M' => LrC l (lSet r cs w).1 (lSet r cs w).2 M' ∧ fi (fun k n i => PAd l k n i ∨ (k = 4 ∧ n = 0 ∧ i = 2)) M M') := by
  unfold m_X3_settle
  rw [ok_bd]
  refine ok_mono (Q := fun M' => LrC l (lSet r cs w).1 (lSet r cs w).2 M' ∧ fi (fun k n i => PAd l k n i ∨ (k = 4 ∧ n = 0 ∧ i = 2)) M M') ?_ (fun M' hM' => ok_some.mpr hM')
  refine ok_lp (fun n M1 => ∃ cs1 w1, n = w1.length ∧ lSet r cs w = lSet r cs1 w1 ∧ LrC l cs1 w1 M1 ∧ w1.length ≤ 60 ∧ cs1.length + w1.length ≤ 1000 ∧ fi (fun k n i => PAd l k n i ∨ (k = 4 ∧ n = 0 ∧ i = 2)) M M1) ?_ F w.length _ (by omega) ⟨cs, w, rfl, rfl, h, hw, hn, fi_rf⟩
  rintro n M1 ⟨cs1, w1, rfl, e, ⟨h1, h2, h3, h4⟩, hw1, hn1, f1⟩
  have e0 : nI w1.length ≤ (0 : Int32) ↔ w1.length ≤ 0 := (nI_leI (by omega) (by omega) : nI w1.length ≤ nI 0 ↔ _)
  simp only [b_X3_settle_1, b_X3_settle_1c]
  rw [h3, ok_ite, e0]
  cases w1 with
  | nil =>
    refine ⟨fun _ => ok_some.mpr ?_, fun q => absurd (Nat.le_refl _) q⟩
    show LrC l (lSet r cs w).1 (lSet r cs w).2 M1 ∧ _
    rw [e]
    exact ⟨⟨h1, h2, h3, h4⟩, f1⟩
  | cons c w2 =>
    rw [List.length_cons] at hw1 hn1 h3 ⊢
    refine ⟨fun q => by omega, fun _ => ?_⟩
    have es : nI (w2.length + 1) - (1 : Int32) = nI w2.length := by rw [← nI_1]; exact Int32.add_sub_cancel _ _
    have ec : nI (rkN c) < nI r ↔ rkN c < r := nI_ltI (by have := rkN_le c; omega) (by omega)
    rw [es, ok_gi, ok_cl, nI_clamp (by omega), h2.1]
    refine ⟨vp_in_nI (by omega) (by decide), ok_mono rank_ok (fun x hx => ?_)⟩
    subst hx
    dsimp only
    rw [ok_ite, ec]
    have eS : lSet r cs1 (c :: w2) = if rkN c < r then (cs1, c :: w2) else lSet r (cs1 ++ [c]) w2 := rfl
    refine ⟨fun q => ok_some.mpr ?_, fun q => ?_⟩
    · show LrC l (lSet r cs w).1 (lSet r cs w).2 M1 ∧ _
      rw [e, eS, if_pos q]
      exact ⟨⟨h1, h2, h3, h4⟩, f1⟩
    · rw [if_neg q] at eS
      rw [ok_nm, h3, es, ok_gi, ok_cv]
      have f2 : fi (fun k n i => k = 4 ∧ n = 0 ∧ i = 2) M1 (sI M1 4 0 2 (nI w2.length)) := fi_sI fi_rf ⟨rfl, rfl, rfl⟩
      have v2 : (sI M1 4 0 2 (nI w2.length)).1 4 0 2 = nI w2.length := by rw [rII, if_pos ⟨rfl, rfl, rfl⟩]
      have v6 : (sI M1 4 0 2 (nI w2.length)).2.2 4 0 6 = l := by simp only [rIR]; exact h4
      have v39 : (sI M1 4 0 2 (nI w2.length)).1 39 0 w2.length = c := by rw [rII, if_neg (by omega)]; exact h2.1
      generalize sI M1 4 0 2 (nI w2.length) = M4 at f2 v2 v6 v39 ⊢
      rw [v2, v6, nI_clamp (by omega), v39]
      refine ⟨vp_in_nI (by omega) (by decide), ok_mono (ladd_ok (LwC_fi h1 f2 (fun k i q => by omega)) (by omega)) (fun M5 h5 => ok_some.mpr ?_)⟩
      have f5 := h5.2
      refine ⟨w2.length, Nat.lt_succ_self _, cs1 ++ [c], w2, rfl, e.trans eS, ⟨h5.1, StC_fi (StC_fi h2.2 f2 (fun i _ => by omega)) f5 (fun i _ => by unfold PAd; omega), (fi_I f5 (by unfold PAd; omega)).trans v2, (by rw [f5.1]; exact v6)⟩, by omega, by rw [List.length_append, List.length_singleton]; omega, fi_tr f1 (fi_tr (fi_mono f2 (fun k n i q => Or.inr q)) (fi_mono f5 (fun k n i q => Or.inl q)))⟩
