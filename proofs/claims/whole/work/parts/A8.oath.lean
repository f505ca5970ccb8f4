/-! the class reads an oath -/
theorem kwI_KW : ∀ i, i < 29 → kwI (KW.getD i []) = nI i := by decide +kernel
theorem isW_i {T : List Int32} {p i : Nat} (hi : i < 29) (h : isW T p i = true) : (tkA T p).1 = 2 ∧ kwI (wdA T p) = nI i := by
  unfold isW at h
  rw [decide_eq_true_iff] at h
  exact ⟨h.1, by unfold wdA; rw [h.2]; exact kwI_KW i hi⟩
theorem isW_o {T : List Int32} {p j : Nat} (h2 : (tkA T p).1 = 2) (hw : KW.getD j [] = (tkA T p).2.1) : isW T p j = true := by
  unfold isW; exact decide_eq_true ⟨h2, hw.symm⟩
theorem kw_kind {T : List Int32} {p : Nat} : (¬ (if (tkA T p).1 = 2 then kwI (tkA T p).2.1 else -1) < (18 : Int32) ∧ (if (tkA T p).1 = 2 then kwI (tkA T p).2.1 else -1) ≤ (21 : Int32)) ↔ (isW T p 18 = true ∨ isW T p 19 = true ∨ isW T p 20 = true ∨ isW T p 21 = true) := by
  have e18 : ∀ j, j < 29 → (nI j < (18 : Int32) ↔ j < 18) := fun j hj => (nI_ltI (by omega) (by omega) : nI j < nI 18 ↔ _)
  have e21 : ∀ j, j < 29 → (nI j ≤ (21 : Int32) ↔ j ≤ 21) := fun j hj => (nI_leI (by omega) (by omega) : nI j ≤ nI 21 ↔ _)
  by_cases q : (tkA T p).1 = 2
  · rw [if_pos q]
    rcases kwI_c (tkA T p).2.1 with e | ⟨j, a, b, c⟩
    · rw [e]
      refine ⟨fun h => absurd (by decide) h.1, fun h => ?_⟩
      exfalso
      rcases h with h | h | h | h <;> (have := (isW_i (by decide) h).2; unfold wdA at this; rw [e] at this; exact absurd this (by decide))
    · rw [b, e18 j a, e21 j a]
      constructor
      · intro h
        have hw := isW_o q c
        rcases (show j = 18 ∨ j = 19 ∨ j = 20 ∨ j = 21 by omega) with e | e | e | e <;> subst e
        · exact Or.inl hw
        · exact Or.inr (Or.inl hw)
        · exact Or.inr (Or.inr (Or.inl hw))
        · exact Or.inr (Or.inr (Or.inr hw))
      · intro h
        rcases h with h | h | h | h <;> (have := (isW_i (by decide) h).2; unfold wdA at this; rw [b, nI_eq (by omega) (by decide)] at this; omega)
  · rw [if_neg q]
    refine ⟨fun h => absurd (by decide) h.1, fun h => ?_⟩
    exfalso
    rcases h with h | h | h | h <;> exact q (isW_i (by decide) h).1
theorem DCc_addO {o : Nat} {D : dft} {M M' : mm} {w : List Nat} {k q : Nat} {b : Int32} (h : DCc o D M) (fr : fi (fun k n i => n = o ∧ ((k = 1 ∧ (i = 5 ∨ i = 12)) ∨ (24 ≤ k ∧ k ≤ 29 ∧ i = (dO D).length) ∨ (k = 23 ∧ i = q))) M M') (hn : (dO D).length < 10) (hq : q < 6) (c5 : M'.1 1 o 5 = nI ((dO D).length + 1)) (c12 : M'.1 1 o 12 = M.1 1 o 12 ||| (if k = 2 then bitI (nI (dO D).length) else 0)) (c23 : M'.1 23 o q = M.1 23 o q ||| bitI (nI (dO D).length)) (c24 : M'.2.1 24 o (dO D).length = lN (pv 32 w)) (c25 : M'.1 25 o (dO D).length = nI k) (c26 : M'.1 26 o (dO D).length = nI q) (c27 : M'.1 27 o (dO D).length = b) (c28 : M'.1 28 o (dO D).length = -1) (c29 : M'.1 29 o (dO D).length = 0) (hw : WdOk w) :
    DCc o (dP D, dO D ++ [(w, k, q, b)], (fun x => if x = (dO D).length then -1 else dL D x, fun x => if x = (dO D).length then 0 else dK D x), D.2.2.2) M' := by
  obtain ⟨h1, ⟨h2, h3, h4⟩, ⟨h5, h6, h7⟩, h8, h9, h10, h11, h12, ⟨h13, h14⟩, h15, ⟨h16, h17, h18⟩, h19⟩ := h
  obtain ⟨l1, l2, l3⟩ := len_n D
  have e : ∀ k i, ¬ (k = 1 ∧ (i = 5 ∨ i = 12)) → ¬ (24 ≤ k ∧ k ≤ 29 ∧ i = (dO D).length) → ¬ (k = 23 ∧ i = q) → M'.1 k o i = M.1 k o i ∧ M'.2.1 k o i = M.2.1 k o i := fun k i a b c => fr.2 k o i (fun q => q.2.elim a (fun q => q.elim b c))
  have lt : ∀ {α : Type} {L : List α} {i : Nat} {e : α}, L[i]? = some e → i < L.length := fun q => (List.getElem?_eq_some_iff.mp q).1
  have eN : dOn (dP D, dO D ++ [(w, k, q, b)], (fun x => if x = (dO D).length then -1 else dL D x, fun x => if x = (dO D).length then 0 else dK D x), D.2.2.2) = dOn D ++ [w] := by unfold dOn; show ((dO D ++ [(w, k, q, b)]).map (fun e => e.1)) = _; rw [List.map_append]; rfl
  refine ⟨by rw [fr.1]; exact h1, ⟨by rw [(e 1 0 (by omega) (by omega) (by omega)).1]; exact h2, ?_, by rw [(e 1 13 (by omega) (by omega) (by omega)).1]; exact h4⟩, ⟨⟨fun i w hi => by rw [(e 20 i (by omega) (by omega) (by omega)).2]; exact h5.1 i w hi, h5.2⟩, ?_, ⟨fun i w hi => by rw [(e 30 i (by omega) (by omega) (by omega)).2]; exact h7.1 i w hi, h7.2⟩⟩, fun i v hi => by rw [(e 21 i (by omega) (by omega) (by omega)).1, (e 22 i (by omega) (by omega) (by omega)).1]; exact h8 i v hi, fun i hi x hx => ?_, fun i v hi => ?_, fun x hx => ?_, fun i v hi => by rw [(e 31 i (by omega) (by omega) (by omega)).1, (e 32 i (by omega) (by omega) (by omega)).1, (e 33 i (by omega) (by omega) (by omega)).1, (e 34 i (by omega) (by omega) (by omega)).1]; exact h12 i v hi, ⟨by rw [(e 3 0 (by omega) (by omega) (by omega)).1]; exact h13, by rw [(e 3 1 (by omega) (by omega) (by omega)).1]; exact h14⟩, by rw [(e 3 2 (by omega) (by omega) (by omega)).1]; exact h15, ⟨by rw [(e 3 4 (by omega) (by omega) (by omega)).1]; exact h16, h17, fun i v hi => by rw [(e 35 i (by omega) (by omega) (by omega)).1]; exact h18 i v hi⟩, fun i hi => by rw [(e 38 i (by omega) (by omega) (by omega)).1]; exact h19 i hi⟩
  · show M'.1 1 o 5 = nI (dO D ++ [(w, k, q, b)]).length
    rw [List.length_append, List.length_singleton]; exact c5
  · rw [eN]
    exact NmC_add h6 (fun i hi => (e 24 i (by omega) (by omega) (by omega)).2) (by rw [l2]; exact c24) hw
  · have go : (∃ v, (dO D ++ [(w, k, q, b)])[x]? = some v ∧ v.2.2.1 = i) ↔ (∃ v, (dO D)[x]? = some v ∧ v.2.2.1 = i) ∨ (x = (dO D).length ∧ q = i) := by
      constructor
      · rintro ⟨v, a, c⟩
        rcases get_snoc.mp a with r | ⟨r, r2⟩
        · exact Or.inl ⟨v, r, c⟩
        · subst r2; exact Or.inr ⟨r, c⟩
      · rintro (⟨v, a, c⟩ | ⟨a, c⟩)
        · exact ⟨v, get_snoc.mpr (Or.inl a), c⟩
        · exact ⟨_, get_snoc.mpr (Or.inr ⟨a, rfl⟩), c⟩
    show bt (M'.1 23 o i) x = true ↔ ∃ v, (dO D ++ [(w, k, q, b)])[x]? = some v ∧ v.2.2.1 = i
    rw [go]
    by_cases q2 : i = q
    · subst q2
      rw [c23, b_or, bitI_b (by omega) hx, Bool.or_eq_true, decide_eq_true_iff, h9 i hi x hx]
      exact ⟨fun r => r.imp id (fun r => ⟨r, rfl⟩), fun r => r.imp id (fun r => r.1)⟩
    · rw [(e 23 i (by omega) (by omega) (by omega)).1, h9 i hi x hx]
      exact ⟨Or.inl, fun r => r.elim id (fun r => absurd r.2.symm q2)⟩
  · rcases get_snoc.mp (show (dO D ++ [(w, k, q, b)])[i]? = some v from hi) with r | ⟨r, r2⟩
    · have := lt r
      have ne : ¬ i = (dO D).length := by omega
      obtain ⟨x1, x2, x3, x4, x5⟩ := h10 i v r
      refine ⟨by rw [(e 25 i (by omega) (by omega) (by omega)).1]; exact x1, by rw [(e 26 i (by omega) (by omega) (by omega)).1]; exact x2, by rw [(e 27 i (by omega) (by omega) (by omega)).1]; exact x3, ?_, ?_⟩
      · rw [(e 28 i (by omega) (by omega) (by omega)).1, x4]; exact (if_neg ne).symm
      · rw [(e 29 i (by omega) (by omega) (by omega)).1, x5]; exact (if_neg ne).symm
    · subst r r2
      exact ⟨c25, c26, c27, c28.trans (if_pos rfl).symm, c29.trans (if_pos rfl).symm⟩
  · have go : (∃ v, (dO D ++ [(w, k, q, b)])[x]? = some v ∧ v.2.1 = 2) ↔ (∃ v, (dO D)[x]? = some v ∧ v.2.1 = 2) ∨ (x = (dO D).length ∧ k = 2) := by
      constructor
      · rintro ⟨v, a, c⟩
        rcases get_snoc.mp a with r | ⟨r, r2⟩
        · exact Or.inl ⟨v, r, c⟩
        · subst r2; exact Or.inr ⟨r, c⟩
      · rintro (⟨v, a, c⟩ | ⟨a, c⟩)
        · exact ⟨v, get_snoc.mpr (Or.inl a), c⟩
        · exact ⟨_, get_snoc.mpr (Or.inr ⟨a, rfl⟩), c⟩
    show bt (M'.1 1 o 12) x = true ↔ ∃ v, (dO D ++ [(w, k, q, b)])[x]? = some v ∧ v.2.1 = 2
    rw [go, c12, b_or, Bool.or_eq_true, h11 x hx]
    by_cases q2 : k = 2
    · rw [if_pos q2, bitI_b (by omega) hx, decide_eq_true_iff]
      exact ⟨fun r => r.imp id (fun r => ⟨r, q2⟩), fun r => r.imp id (fun r => r.1)⟩
    · rw [if_neg q2, b_0]
      exact ⟨fun r => r.elim Or.inl (fun r => by cases r), fun r => r.elim Or.inl (fun r => absurd r.2 q2)⟩
theorem addOath_ok {F : Nat} {o : Nat} {D : dft} {M : mm} {w : List Nat} {k q : Nat} {b : Int32} (h : DCc o D M) (hn : (dO D).length < 10) (hq : q < 6) (hk : k < 4) (hw : WdOk w) :
    ok (m_X0_addOath F o (lN (pv 32 w)) (nI k) (nI q) b M) (fun M' => DCc o (dP D, dO D ++ [(w, k, q, b)], (fun x => if x = (dO D).length then -1 else dL D x, fun x => if x = (dO D).length then 0 else dK D x), D.2.2.2) M' ∧ fi (fun k n i => n = o ∧ (k = 1 ∨ (23 ≤ k ∧ k ≤ 29))) M M') := by
  have n5 := h.2.1.2.1
  have e10 : (10 : Int32) ≤ nI (dO D).length ↔ 10 ≤ (dO D).length := (nI_leI (by omega) (by omega) : nI 10 ≤ nI _ ↔ _)
  have e6 : nI q < (6 : Int32) ↔ q < 6 := (nI_ltI (by omega) (by omega) : nI q < nI 6 ↔ _)
  have e2 : nI k = (2 : Int32) ↔ k = 2 := nI_eq (b := 2) (by omega) (by decide)
  unfold m_X0_addOath
  rw [n5, ok_ite, e10]
  refine ⟨fun r => by omega, fun _ => ?_⟩
  rw [ok_ite]
  refine ⟨fun r => absurd r (nI_pos (by omega)), fun _ => ?_⟩
  rw [ok_ite, e6]
  refine ⟨fun _ => ?_, fun r => absurd hq r⟩
  have hin : vp_in (nI (dO D).length) 10 := vp_in_nI hn (by decide)
  have hin6 : vp_in (nI q) 6 := vp_in_nI hq (by decide)
  have s : ∀ (M1 : mm) (k' i' : Nat) (v : Int32), ¬ (k' = 1) → (sI M1 k' o i' v).1 1 o 5 = M1.1 1 o 5 := fun M1 k' i' v hk => by rw [rII, if_neg (by omega)]
  have sl : (sL M 24 o (dO D).length (lN (pv 32 w))).1 1 o 5 = nI (dO D).length := n5
  simp only [ok_gi, ok_nm, ok_bd, nI_clamp (show (dO D).length < 2 ^ 31 by omega), nI_clamp (show q < 2 ^ 31 by omega), sl, s _ _ _ _ (show ¬ (25 : Nat) = 1 by decide), s _ _ _ _ (show ¬ (26 : Nat) = 1 by decide), s _ _ _ _ (show ¬ (27 : Nat) = 1 by decide), s _ _ _ _ (show ¬ (28 : Nat) = 1 by decide), s _ _ _ _ (show ¬ (29 : Nat) = 1 by decide), s _ _ _ _ (show ¬ (23 : Nat) = 1 by decide)]
  refine ⟨hin, hin, hin, hin, hin, hin, hin6, hin6, ?_⟩
  refine ok_mono (Q := fun v => v = if k = 2 then bitI (nI (dO D).length) else 0) ?_ (fun v hv => ?_)
  · rw [ok_ite, e2]
    exact ⟨fun r => ok_some.mpr (by rw [if_pos r]; rfl), fun r => ok_some.mpr (by rw [if_neg r])⟩
  · rw [ok_some]
    generalize hM7 : sI (sI (sI (sI (sI (sI (sL M 24 o (dO D).length (lN (pv 32 w))) 25 o (dO D).length (nI k)) 26 o (dO D).length (nI q)) 27 o (dO D).length b) 28 o (dO D).length (-1)) 29 o (dO D).length 0) 23 o q ((sI (sI (sI (sI (sI (sL M 24 o (dO D).length (lN (pv 32 w))) 25 o (dO D).length (nI k)) 26 o (dO D).length (nI q)) 27 o (dO D).length b) 28 o (dO D).length (-1)) 29 o (dO D).length 0).1 23 o q ||| ((1 : Int32) <<< (nI (dO D).length &&& 31))) = M7
    have f7 : fi (fun k n i => n = o ∧ ((k = 1 ∧ (i = 5 ∨ i = 12)) ∨ (24 ≤ k ∧ k ≤ 29 ∧ i = (dO D).length) ∨ (k = 23 ∧ i = q))) M M7 := by
      rw [← hM7]
      exact fi_sI (fi_sI (fi_sI (fi_sI (fi_sI (fi_sI (fi_sL fi_rf ⟨rfl, Or.inr (Or.inl ⟨by decide, by decide, rfl⟩)⟩) ⟨rfl, Or.inr (Or.inl ⟨by decide, by decide, rfl⟩)⟩) ⟨rfl, Or.inr (Or.inl ⟨by decide, by decide, rfl⟩)⟩) ⟨rfl, Or.inr (Or.inl ⟨by decide, by decide, rfl⟩)⟩) ⟨rfl, Or.inr (Or.inl ⟨by decide, by decide, rfl⟩)⟩) ⟨rfl, Or.inr (Or.inl ⟨by decide, by decide, rfl⟩)⟩) ⟨rfl, Or.inr (Or.inr ⟨rfl, rfl⟩)⟩
    have g12 : M7.1 1 o 12 = M.1 1 o 12 := by rw [← hM7]; simp [rII, rLI]
    have g5 : M7.1 1 o 5 = nI (dO D).length := by rw [← hM7]; simp [rII, rLI]; exact n5
    have g23 : M7.1 23 o q = M.1 23 o q ||| bitI (nI (dO D).length) := by rw [← hM7]; simp [rII, rLI, bitI]
    have g24 : M7.2.1 24 o (dO D).length = lN (pv 32 w) := by rw [← hM7]; simp [rIL, rLL]
    have g25 : M7.1 25 o (dO D).length = nI k := by rw [← hM7]; simp [rII]
    have g26 : M7.1 26 o (dO D).length = nI q := by rw [← hM7]; simp [rII]
    have g27 : M7.1 27 o (dO D).length = b := by rw [← hM7]; simp [rII]
    have g28 : M7.1 28 o (dO D).length = -1 := by rw [← hM7]; simp [rII]
    have g29 : M7.1 29 o (dO D).length = 0 := by rw [← hM7]; simp [rII]
    clear hM7
    rw [g12]
    have f10 : fi (fun k n i => n = o ∧ ((k = 1 ∧ (i = 5 ∨ i = 12)) ∨ (24 ≤ k ∧ k ≤ 29 ∧ i = (dO D).length) ∨ (k = 23 ∧ i = q))) M (sI (sI M7 1 o 12 (M.1 1 o 12 ||| v)) 1 o 5 ((sI M7 1 o 12 (M.1 1 o 12 ||| v)).1 1 o 5 + 1)) := fi_sI (fi_sI f7 ⟨rfl, Or.inl ⟨rfl, Or.inr rfl⟩⟩) ⟨rfl, Or.inl ⟨rfl, Or.inl rfl⟩⟩
    have t : ∀ (k' : Nat) (i' : Nat), ¬ k' = 1 → (sI (sI M7 1 o 12 (M.1 1 o 12 ||| v)) 1 o 5 ((sI M7 1 o 12 (M.1 1 o 12 ||| v)).1 1 o 5 + 1)).1 k' o i' = M7.1 k' o i' := fun k' i' hk => by rw [rII, if_neg (by omega), rII, if_neg (by omega)]
    refine ⟨DCc_addO h f10 hn hq ?_ ?_ ?_ ?_ ?_ ?_ ?_ ?_ ?_ hw, fi_mono f10 (fun k n i q => by omega)⟩
    · rw [rII, if_pos ⟨rfl, rfl, rfl⟩, rII, if_neg (by omega), g5, nI_1]
    · rw [rII, if_neg (by omega), rII, if_pos ⟨rfl, rfl, rfl⟩, hv]
    · rw [t 23 q (by decide)]; exact g23
    · rw [rIL, rIL]; exact g24
    · rw [t 25 _ (by decide)]; exact g25
    · rw [t 26 _ (by decide)]; exact g26
    · rw [t 27 _ (by decide)]; exact g27
    · rw [t 28 _ (by decide)]; exact g28
    · rw [t 29 _ (by decide)]; exact g29
