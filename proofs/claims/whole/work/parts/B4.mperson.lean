/-! the reference reads a person, an oath -/
theorem NmM_add {k off : Nat} {N : List (List Nat)} {w : List Nat} {M M' : mm} (h : NmM k off N M) (e : ∀ i, i < N.length → M'.2.1 k 0 (off + i) = M.2.1 k 0 (off + i)) (en : M'.2.1 k 0 (off + N.length) = lN (pv 27 w)) (hw : WdOk w) : NmM k off (N ++ [w]) M' := by
  refine ⟨fun i v hi => ?_, fun v hv => ?_⟩
  · rcases get_snoc.mp hi with q | ⟨q, q2⟩
    · rw [e i (List.getElem?_eq_some_iff.mp q).1]; exact h.1 i v q
    · rw [q, q2]; exact en
  · rcases List.mem_append.mp hv with q | q
    · exact h.2 v q
    · rw [List.mem_singleton.mp q]; exact hw
theorem LwM_c {w : Option (List Int32 × List Int32)} {M M' : mm} (h : LwM w M) (e : ∀ k i, (79 ≤ k ∧ k ≤ 81) ∨ (k = 13 ∧ i = 28) → M'.1 k 0 i = M.1 k 0 i) : LwM w M' := by
  unfold LwM at h ⊢
  cases w with
  | none => simp only [e 79 1 (by omega), e 80 1 (by omega), e 13 28 (by omega)]; exact h
  | some w =>
    obtain ⟨a, b, c, d, f, g⟩ := h
    exact ⟨by rw [e 79 1 (by omega)]; exact a, by rw [e 80 1 (by omega)]; exact b, by rw [e 13 28 (by omega)]; exact c, d, f, fun i c hi => by rw [e 81 _ (by omega)]; exact g i c hi⟩
theorem DMm_addP {D : dft} {M M' : mm} {w : List Nat} {f t : Int32} (h : DMm D M) (fr : fi (fun k _ i => (k = 64 ∧ i = 6) ∨ ((k = 65 ∨ k = 68 ∨ k = 69) ∧ i = 6 + (dP D).length)) M M') (c6 : M'.1 64 0 6 = nI ((dP D).length + 1)) (c65 : M'.2.1 65 0 (6 + (dP D).length) = lN (pv 27 w)) (c68 : M'.1 68 0 (6 + (dP D).length) = f) (c69 : M'.1 69 0 (6 + (dP D).length) = t) (hw : WdOk w) : DMm (dP D ++ [(w, f, t)], D.2) M' := by
  obtain ⟨⟨h1, h2, h3⟩, ⟨h4, h5, h6⟩, ⟨h7, h8, h9⟩, h10, h11, h12, h13, h14⟩ := h
  obtain ⟨l1, l2, l3⟩ := len_n D
  have e : ∀ k i, ¬ (k = 64 ∧ i = 6) → ¬ ((k = 65 ∨ k = 68 ∨ k = 69) ∧ i = 6 + (dP D).length) → M'.1 k 0 i = M.1 k 0 i ∧ M'.2.1 k 0 i = M.2.1 k 0 i := fun k i a b => fr.2 k 0 i (fun q => q.elim a b)
  have lt : ∀ {α : Type} {L : List α} {i : Nat} {e : α}, L[i]? = some e → i < L.length := fun q => (List.getElem?_eq_some_iff.mp q).1
  have eN : dPn (dP D ++ [(w, f, t)], D.2) = dPn D ++ [w] := by unfold dPn; show ((dP D ++ [(w, f, t)]).map (fun e => e.1)) = _; rw [List.map_append]; rfl
  refine ⟨⟨?_, by rw [(e 64 7 (by omega) (by omega)).1]; exact h2, by rw [(e 64 8 (by omega) (by omega)).1]; exact h3⟩, ⟨by rw [(e 64 9 (by omega) (by omega)).1]; exact h4, by rw [(e 64 10 (by omega) (by omega)).1]; exact h5, by rw [(e 64 11 (by omega) (by omega)).1]; exact h6⟩, ⟨?_, ⟨fun i w hi => by rw [(e 66 _ (by omega) (by omega)).2]; exact h8.1 i w hi, h8.2⟩, ⟨fun i w hi => by rw [(e 67 _ (by omega) (by omega)).2]; exact h9.1 i w hi, h9.2⟩⟩, fun i v hi => ?_, fun i v hi => by rw [(e 70 _ (by omega) (by omega)).1, (e 71 _ (by omega) (by omega)).1, (e 72 _ (by omega) (by omega)).1, (e 73 _ (by omega) (by omega)).1, (e 74 _ (by omega) (by omega)).1]; exact h11 i v hi, fun i v hi => by rw [(e 75 _ (by omega) (by omega)).1, (e 76 _ (by omega) (by omega)).1, (e 77 _ (by omega) (by omega)).1, (e 78 _ (by omega) (by omega)).1]; exact h12 i v hi, by rw [(e 13 29 (by omega) (by omega)).1]; exact h13, LwM_c h14 (fun k i hk => (e k i (by omega) (by omega)).1)⟩
  · show M'.1 64 0 6 = nI (dP D ++ [(w, f, t)]).length
    rw [List.length_append, List.length_singleton]; exact c6
  · rw [eN]
    exact NmM_add h7 (fun i hi => (e 65 _ (by omega) (by omega)).2) (by rw [l1]; exact c65) hw
  · rcases get_snoc.mp (show (dP D ++ [(w, f, t)])[i]? = some v from hi) with q | ⟨q, q2⟩
    · have := lt q
      rw [(e 68 _ (by omega) (by omega)).1, (e 69 _ (by omega) (by omega)).1]; exact h10 i v q
    · rw [q, q2]; exact ⟨c68, c69⟩
theorem readsPerson_ok {F : Nat} (hF : 2000 < F) {T : List Int32} {p : Nat} {D : dft} {M : mm} (h : AtM T p M) (hD : DMK D M) : ok (m_X12_readsPerson F M) (QRM T DMK PRm M (spPerson T D p)) := by
  obtain ⟨hc, hk, hy⟩ := hD
  have hP := PRm_6
  obtain ⟨⟨n1, n2, n3⟩, k2, k3, k4, k5, k6, k7⟩ := id hk
  have t6 : (6 : Int32).toNatClampNeg = 6 := rfl
  have e12 : nI (6 + (dP D).length) = (12 : Int32) ↔ 6 + (dP D).length = 12 := nI_eq (b := 12) (by omega) (by decide)
  have ea : (6 : Int32) + nI (dP D).length = nI (6 + (dP D).length) := nI_add 6 _
  unfold m_X12_readsPerson spPerson
  rw [ok_gi, ok_nm, t6, hc.1.1, ea, ok_ite, e12]
  refine ⟨vp_of (by decide), fun q => ?_, fun q => ?_⟩
  · rw [if_pos (by omega)]
    exact ok_mono (badM (k := 5) (S := .inl (5, p)) h rfl) (fun r hr => by
      obtain ⟨b1, b2, k, q, b3, b4⟩ := hr
      rw [b4]; exact ⟨fi_mono b2 hP, b1, b3⟩)
  · rw [if_neg (by omega), ok_cv]
    refine ok_mono (AtM_next hF h) (fun M2 h2 => ?_)
    obtain ⟨a2, f2⟩ := h2
    have f2 : fi PM6 M M2 := fi_mono f2 P13_6
    have c2 := DMm_6 hc f2
    have hin : vp_in (nI (6 + (dP D).length)) 12 := vp_in_nI (by omega) (by decide)
    refine contM hP (fi_mono f2 hP) (isNew_ok hF a2 c2 hk) (fun _ M3 g3 => ?_) (fun M' => if_neg (by decide))
    dsimp only at g3
    obtain ⟨rfl, hn, nO, nS, hS⟩ := g3
    rw [hS]
    refine ok_tt ?_
    obtain ⟨hw, h7⟩ := wdM_ok a2 hn
    rw [ok_nm, h7, ok_cv]
    refine ok_mono (AtM_next hF a2) (fun M6 h6 => ?_)
    obtain ⟨a6, f6⟩ := h6
    have f6 : fi PM6 M3 M6 := fi_mono f6 P13_6
    have fr6 := fi_tr f2 f6
    have c6 := DMm_6 c2 f6
    refine contM hP (fi_mono fr6 hP) (needsBoth_ok (i := 1) hF a6 (by decide) kc1) (fun _ M7 g7 => ?_) (fun M' => if_neg (by decide))
    dsimp only at g7
    obtain ⟨a7, f7, v7, ⟨b1, b2⟩, hS7⟩ := g7
    rw [hS7]
    refine ok_tt ?_
    have c7 := DMm_6 c6 f7
    rw [ok_gi, ok_nm, nI_clamp (by omega), v7]
    refine ⟨hin, ?_⟩
    generalize (tkA T (tkE T (tkE T (tkE T p)))).2.2 = ft at b1 b2 ⊢
    have f9 : fi (fun k n i => k = 68 ∧ i = 6 + (dP D).length) M7 (sI M7 68 0 (6 + (dP D).length) ft) := fi_sI fi_rf ⟨rfl, rfl⟩
    have v68 : (sI M7 68 0 (6 + (dP D).length) ft).1 68 0 (6 + (dP D).length) = ft := by rw [rII, if_pos ⟨rfl, rfl, rfl⟩]
    generalize sI M7 68 0 (6 + (dP D).length) ft = M9 at f9 v68 ⊢
    have a9 := AtM_6 a7 f9 (fun k n i q => by omega)
    have c9 := DMm_fi c7 f9 (fun k i q => by omega)
    have fr9 : fi PRm M M9 := fi_tr (fi_mono (fi_tr fr6 f7) hP) (fi_mono f9 (fun k n i q => PRm_b (Or.inr (Or.inl q.1)) (by omega)))
    refine contM hP fr9 (needsBoth_ok (i := 2) hF a9 (by decide) kc2) (fun _ M10 g10 => ?_) (fun M' => if_neg (by decide))
    dsimp only at g10
    obtain ⟨a10, f10, v10, ⟨b3, b4⟩, hS10⟩ := g10
    rw [hS10]
    refine ok_tt ?_
    have c10 := DMm_6 c9 f10
    have w68 : M10.1 68 0 (6 + (dP D).length) = ft := (fi_I f10 (by unfold PM6; omega)).trans v68
    generalize (tkA T (tkE T (tkE T (tkE T (tkE T (tkE T p)))))).2.2 = tt at b3 b4 v10 ⊢
    rw [ok_gi, ok_nm, ok_gi, ok_nm, ok_gi, ok_gi, ok_nm, v10]
    refine ⟨hin, hin, vp_of (by decide), vp_of (by decide), ?_⟩
    have e6 : (sL (sI M10 69 0 (6 + (dP D).length) tt) 65 0 (6 + (dP D).length) (lN (pv 27 (wdA T (tkE T p))))).1 64 0 6 = nI (dP D).length := by rw [rLI, rII, if_neg (by omega)]; exact c10.1.1
    rw [e6, nI_1]
    have f14 : fi (fun k _ i => (k = 64 ∧ i = 6) ∨ ((k = 65 ∨ k = 68 ∨ k = 69) ∧ i = 6 + (dP D).length)) M10 (sI (sL (sI M10 69 0 (6 + (dP D).length) tt) 65 0 (6 + (dP D).length) (lN (pv 27 (wdA T (tkE T p))))) 64 0 6 (nI ((dP D).length + 1))) := fi_sI (fi_sL (fi_sI fi_rf (Or.inr ⟨Or.inr (Or.inr rfl), rfl⟩)) (Or.inr ⟨Or.inl rfl, rfl⟩)) (Or.inl ⟨rfl, rfl⟩)
    have c14 := DMm_addP (w := wdA T (tkE T p)) (f := ft) (t := tt) c10 f14 (by rw [rII, if_pos ⟨rfl, rfl, rfl⟩]) (by rw [rIL, rLL, if_pos ⟨rfl, rfl, rfl⟩]) (by rw [rII, if_neg (by omega), rLI, rII, if_neg (by omega)]; exact w68) (by rw [rII, if_neg (by omega), rLI, rII, if_pos ⟨rfl, rfl, rfl⟩]) hw
    generalize sI (sL (sI M10 69 0 (6 + (dP D).length) tt) 65 0 (6 + (dP D).length) (lN (pv 27 (wdA T (tkE T p))))) 64 0 6 (nI ((dP D).length + 1)) = M14 at f14 c14 ⊢
    have a14 := AtM_6 a10 f14 (fun k n i q => by omega)
    have fr14 : fi PRm M M14 := fi_tr fr9 (fi_tr (fi_mono f10 hP) (fi_mono f14 (fun k n i q => q.elim (fun q => PRm_a q.1 (by omega)) (fun q => PRm_b q.1 (by omega)))))
    refine contM hP fr14 (closes_ok hF a14) (fun _ M15 g15 => ?_) (fun M' => rfl)
    dsimp only at g15
    obtain ⟨a15, f15, hS15⟩ := g15
    rw [hS15]
    refine ok_some.mpr ⟨fi_tr fr14 (fi_mono f15 (fun k n i q => hP k n i (P13_6 k n i q))), rfl, a15, DMm_6 c14 (fi_mono f15 P13_6), ?_, hy⟩
    refine ⟨⟨by show (dP D ++ [_]).length ≤ 6; rw [List.length_append, List.length_singleton]; omega, n2, n3⟩, fun e he => ?_, fun e he => ?_, k4, k5, k6, k7⟩
    · rcases List.mem_append.mp (show e ∈ dP D ++ [_] from he) with q2 | q2
      · exact k2 e q2
      · rw [List.mem_singleton.mp q2]; exact ⟨⟨b1, b2⟩, ⟨b3, b4⟩⟩
    · obtain ⟨x1, x2, x3⟩ := k3 e he
      exact ⟨x1, by show e.2.2.1 < (dP D ++ [_]).length; rw [List.length_append, List.length_singleton]; omega, x3⟩
