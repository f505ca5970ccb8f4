/-! the reference reads a stone, what mends -/
theorem DMm_addS {D : dft} {M M' : mm} {w : List Nat} {wt rn a b : Int32} (h : DMm D M) (fr : fi (fun k _ i => (k = 64 ∧ i = 8) ∨ ((k = 67 ∨ k = 76) ∧ i = 10 + (dS D).length) ∨ ((k = 75 ∨ k = 77 ∨ k = 78) ∧ i = 11 + (dS D).length)) M M') (c8 : M'.1 64 0 8 = nI ((dS D).length + 1)) (c67 : M'.2.1 67 0 (10 + (dS D).length) = lN (pv 27 w)) (c75 : M'.1 75 0 (11 + (dS D).length) = wt) (c76 : M'.1 76 0 (10 + (dS D).length) = rn) (c77 : M'.1 77 0 (11 + (dS D).length) = a) (c78 : M'.1 78 0 (11 + (dS D).length) = b) (hw : WdOk w) : DMm (dP D, dO D, D.2.2.1, dS D ++ [(w, wt, rn, a, b)], D.2.2.2.2) M' := by
  obtain ⟨⟨h1, h2, h3⟩, ⟨h4, h5, h6⟩, ⟨h7, h8, h9⟩, h10, h11, h12, h13, h14⟩ := h
  obtain ⟨l1, l2, l3⟩ := len_n D
  have e : ∀ k i, ¬ (k = 64 ∧ i = 8) → ¬ ((k = 67 ∨ k = 76) ∧ i = 10 + (dS D).length) → ¬ ((k = 75 ∨ k = 77 ∨ k = 78) ∧ i = 11 + (dS D).length) → M'.1 k 0 i = M.1 k 0 i ∧ M'.2.1 k 0 i = M.2.1 k 0 i := fun k i a b c => fr.2 k 0 i (fun q => q.elim a (fun q => q.elim b c))
  have lt : ∀ {α : Type} {L : List α} {i : Nat} {e : α}, L[i]? = some e → i < L.length := fun q => (List.getElem?_eq_some_iff.mp q).1
  have eN : dSn (dP D, dO D, D.2.2.1, dS D ++ [(w, wt, rn, a, b)], D.2.2.2.2) = dSn D ++ [w] := by unfold dSn; show ((dS D ++ [(w, wt, rn, a, b)]).map (fun e => e.1)) = _; rw [List.map_append]; rfl
  refine ⟨⟨by rw [(e 64 6 (by omega) (by omega) (by omega)).1]; exact h1, by rw [(e 64 7 (by omega) (by omega) (by omega)).1]; exact h2, ?_⟩, ⟨by rw [(e 64 9 (by omega) (by omega) (by omega)).1]; exact h4, by rw [(e 64 10 (by omega) (by omega) (by omega)).1]; exact h5, by rw [(e 64 11 (by omega) (by omega) (by omega)).1]; exact h6⟩, ⟨⟨fun i w hi => by rw [(e 65 _ (by omega) (by omega) (by omega)).2]; exact h7.1 i w hi, h7.2⟩, ⟨fun i w hi => by rw [(e 66 _ (by omega) (by omega) (by omega)).2]; exact h8.1 i w hi, h8.2⟩, ?_⟩, fun i v hi => by rw [(e 68 _ (by omega) (by omega) (by omega)).1, (e 69 _ (by omega) (by omega) (by omega)).1]; exact h10 i v hi, fun i v hi => by rw [(e 70 _ (by omega) (by omega) (by omega)).1, (e 71 _ (by omega) (by omega) (by omega)).1, (e 72 _ (by omega) (by omega) (by omega)).1, (e 73 _ (by omega) (by omega) (by omega)).1, (e 74 _ (by omega) (by omega) (by omega)).1]; exact h11 i v hi, fun i v hi => ?_, by rw [(e 13 29 (by omega) (by omega) (by omega)).1]; exact h13, LwM_c h14 (fun k i hk => (e k i (by omega) (by omega) (by omega)).1)⟩
  · show M'.1 64 0 8 = nI (dS D ++ [(w, wt, rn, a, b)]).length
    rw [List.length_append, List.length_singleton]; exact c8
  · rw [eN]
    exact NmM_add h9 (fun i hi => (e 67 _ (by omega) (by omega) (by omega)).2) (by rw [l3]; exact c67) hw
  · rcases get_snoc.mp (show (dS D ++ [(w, wt, rn, a, b)])[i]? = some v from hi) with q | ⟨q, q2⟩
    · have := lt q
      rw [(e 75 _ (by omega) (by omega) (by omega)).1, (e 76 _ (by omega) (by omega) (by omega)).1, (e 77 _ (by omega) (by omega) (by omega)).1, (e 78 _ (by omega) (by omega) (by omega)).1]; exact h12 i v q
    · rw [q, q2]; exact ⟨c75, c76, c77, c78⟩
theorem DMm_M {D : dft} {M M' : mm} {m : Int32} (h : DMm D M) (fr : fi (fun k _ i => (k = 64 ∧ i = 9) ∨ (k = 13 ∧ i = 29) ∨ PM6 k 0 i) M M') (c9 : M'.1 64 0 9 = m) (c29 : M'.1 13 0 29 = 1) : DMm (dP D, dO D, D.2.2.1, dS D, some m, dW D) M' := by
  obtain ⟨⟨h1, h2, h3⟩, ⟨h4, h5, h6⟩, ⟨h7, h8, h9⟩, h10, h11, h12, h13, h14⟩ := h
  have e : ∀ k i, ¬ (k = 64 ∧ i = 9) → ¬ (k = 13 ∧ i = 29) → ¬ PM6 k 0 i → M'.1 k 0 i = M.1 k 0 i ∧ M'.2.1 k 0 i = M.2.1 k 0 i := fun k i a b c => fr.2 k 0 i (fun q => q.elim a (fun q => q.elim b c))
  have g : ∀ k i, ¬ (k = 64 ∧ i = 9) → (64 ≤ k ∧ k ≤ 78) → M'.1 k 0 i = M.1 k 0 i ∧ M'.2.1 k 0 i = M.2.1 k 0 i := fun k i a b => e k i a (by omega) (by unfold PM6; omega)
  exact ⟨⟨by rw [(g 64 6 (by omega) (by omega)).1]; exact h1, by rw [(g 64 7 (by omega) (by omega)).1]; exact h2, by rw [(g 64 8 (by omega) (by omega)).1]; exact h3⟩, ⟨c9, by rw [(g 64 10 (by omega) (by omega)).1]; exact h5, by rw [(g 64 11 (by omega) (by omega)).1]; exact h6⟩, ⟨⟨fun i w hi => by rw [(g 65 _ (by omega) (by omega)).2]; exact h7.1 i w hi, h7.2⟩, ⟨fun i w hi => by rw [(g 66 _ (by omega) (by omega)).2]; exact h8.1 i w hi, h8.2⟩, ⟨fun i w hi => by rw [(g 67 _ (by omega) (by omega)).2]; exact h9.1 i w hi, h9.2⟩⟩, fun i v hi => by rw [(g 68 _ (by omega) (by omega)).1, (g 69 _ (by omega) (by omega)).1]; exact h10 i v hi, fun i v hi => by rw [(g 70 _ (by omega) (by omega)).1, (g 71 _ (by omega) (by omega)).1, (g 72 _ (by omega) (by omega)).1, (g 73 _ (by omega) (by omega)).1, (g 74 _ (by omega) (by omega)).1]; exact h11 i v hi, fun i v hi => by rw [(g 75 _ (by omega) (by omega)).1, (g 76 _ (by omega) (by omega)).1, (g 77 _ (by omega) (by omega)).1, (g 78 _ (by omega) (by omega)).1]; exact h12 i v hi, c29, LwM_c h14 (fun k i hk => (e k i (by omega) (by omega) (by unfold PM6; omega)).1)⟩
theorem spKept {T : List Int32} {D : dft} {w : List Nat} {wt rn : Int32} : ∀ q a b, isS T q 59 = false → spSt T D w wt rn q a b = .inl (1, q) := fun q a b h => by
  unfold spSt spEnd
  rw [if_neg (by rw [h]; decide)]
theorem readsStone_ok {F : Nat} (hF : 2000 < F) {T : List Int32} {p : Nat} {D : dft} {M : mm} (h : AtM T p M) (hD : DMK D M) : ok (m_X12_readsStone F M) (QRM T DMK PRm M (spStone T D p)) := by
  obtain ⟨hc, hk, hy⟩ := hD
  have hP := PRm_6
  obtain ⟨⟨n1, n2, n3⟩, k2, k3, k4, k5, k6, k7⟩ := id hk
  have t8 : (8 : Int32).toNatClampNeg = 8 := rfl
  have e10 : nI (dS D).length = (10 : Int32) ↔ (dS D).length = 10 := nI_eq (b := 10) (by omega) (by decide)
  have ea : (11 : Int32) + nI (dS D).length = nI (11 + (dS D).length) := nI_add 11 _
  have eb : (10 : Int32) + nI (dS D).length = nI (10 + (dS D).length) := nI_add 10 _
  unfold m_X12_readsStone spStone
  rw [ok_gi, ok_nm, t8, hc.1.2.2, ok_ite, e10]
  refine ⟨vp_of (by decide), fun q => ?_, fun q => ?_⟩
  · rw [if_pos (by omega)]
    exact ok_mono (badM (k := 5) (S := .inl (5, p)) h rfl) (fun r hr => by
      obtain ⟨b1, b2, k, q, b3, b4⟩ := hr
      rw [b4]; exact ⟨fi_mono b2 hP, b1, b3⟩)
  · have hs : (dS D).length < 10 := by omega
    rw [if_neg (by omega), ok_nm, ok_cv, ea, eb]
    refine ok_mono (AtM_next hF h) (fun M2 h2 => ?_)
    obtain ⟨a2, f2⟩ := h2
    have f2 : fi PM6 M M2 := fi_mono f2 P13_6
    have c2 := DMm_6 hc f2
    have hin : vp_in (nI (11 + (dS D).length)) 22 := vp_in_nI (by omega) (by decide)
    have hin20 : vp_in (nI (10 + (dS D).length)) 20 := vp_in_nI (by omega) (by decide)
    refine contM hP (fi_mono f2 hP) (isNew_ok hF a2 c2 hk) (fun _ M3 g3 => ?_) (fun M' => if_neg (by decide))
    dsimp only at g3
    obtain ⟨rfl, hn, nO, nS, hS⟩ := g3
    rw [hS]
    refine ok_tt ?_
    obtain ⟨hw, h7⟩ := wdM_ok a2 hn
    rw [ok_nm, h7, ok_cv]
    refine ok_mono (AtM_next hF a2) (fun M6 h6 => ?_)
    obtain ⟨a6, f6⟩ := h6
    have f6 : fi PM6 M3 M6 := fi_mono f6 P13_6
    have fr6 := fi_tr f2 f6
    have c6 := DMm_6 c2 f6
    refine contM hP (fi_mono fr6 hP) (needsBoth_ok (i := 9) hF a6 (by decide) kc9) (fun _ M7 g7 => ?_) (fun M' => if_neg (by decide))
    dsimp only at g7
    obtain ⟨a7, f7, v7, ⟨b1, b2⟩, hS7⟩ := g7
    rw [hS7]
    refine ok_tt ?_
    have c7 := DMm_6 c6 f7
    rw [ok_gi, ok_nm, nI_clamp (by omega), v7]
    refine ⟨hin, ?_⟩
    generalize (tkA T (tkE T (tkE T (tkE T p)))).2.2 = wt at b1 b2 ⊢
    have f9 : fi (fun k n i => k = 75 ∧ i = 11 + (dS D).length) M7 (sI M7 75 0 (11 + (dS D).length) wt) := fi_sI fi_rf ⟨rfl, rfl⟩
    have v75 : (sI M7 75 0 (11 + (dS D).length) wt).1 75 0 (11 + (dS D).length) = wt := by rw [rII, if_pos ⟨rfl, rfl, rfl⟩]
    generalize sI M7 75 0 (11 + (dS D).length) wt = M9 at f9 v75 ⊢
    have a9 := AtM_6 a7 f9 (fun k n i q => by omega)
    have c9 := DMm_fi c7 f9 (fun k i q => by omega)
    have fr9 : fi PRm M M9 := fi_tr (fi_mono (fi_tr fr6 f7) hP) (fi_mono f9 (fun k n i q => PRm_d (Or.inl q.1) (by omega)))
    refine contM hP fr9 (needsBoth_ok (i := 10) hF a9 (by decide) kc10) (fun _ M10 g10 => ?_) (fun M' => if_neg (by decide))
    dsimp only at g10
    obtain ⟨a10, f10, v10, ⟨b3, b4⟩, hS10⟩ := g10
    rw [hS10]
    refine ok_tt ?_
    have c10 := DMm_6 c9 f10
    have w75 : M10.1 75 0 (11 + (dS D).length) = wt := (fi_I f10 (by unfold PM6; omega)).trans v75
    generalize (tkA T (tkE T (tkE T (tkE T (tkE T (tkE T p)))))).2.2 = rn at b3 b4 v10 ⊢
    rw [ok_gi, ok_nm, ok_gi, ok_nm, ok_gi, ok_nm, v10, nI_clamp (show 10 + (dS D).length < 2 ^ 31 by omega)]
    refine ⟨hin20, hin, hin, ?_⟩
    have f15 : fi (fun k _ i => (k = 76 ∧ i = 10 + (dS D).length) ∨ ((k = 75 ∨ k = 77 ∨ k = 78) ∧ i = 11 + (dS D).length)) M10 (sI (sI (sI M10 76 0 (10 + (dS D).length) rn) 77 0 (11 + (dS D).length) 0) 78 0 (11 + (dS D).length) 0) := fi_sI (fi_sI (fi_sI fi_rf (Or.inl ⟨rfl, rfl⟩)) (Or.inr ⟨Or.inr (Or.inl rfl), rfl⟩)) (Or.inr ⟨Or.inr (Or.inr rfl), rfl⟩)
    have u75 : (sI (sI (sI M10 76 0 (10 + (dS D).length) rn) 77 0 (11 + (dS D).length) 0) 78 0 (11 + (dS D).length) 0).1 75 0 (11 + (dS D).length) = wt := by rw [rII, if_neg (by omega), rII, if_neg (by omega), rII, if_neg (by omega)]; exact w75
    have u76 : (sI (sI (sI M10 76 0 (10 + (dS D).length) rn) 77 0 (11 + (dS D).length) 0) 78 0 (11 + (dS D).length) 0).1 76 0 (10 + (dS D).length) = rn := by rw [rII, if_neg (by omega), rII, if_neg (by omega), rII, if_pos ⟨rfl, rfl, rfl⟩]
    have u77 : (sI (sI (sI M10 76 0 (10 + (dS D).length) rn) 77 0 (11 + (dS D).length) 0) 78 0 (11 + (dS D).length) 0).1 77 0 (11 + (dS D).length) = 0 := by rw [rII, if_neg (by omega), rII, if_pos ⟨rfl, rfl, rfl⟩]
    have u78 : (sI (sI (sI M10 76 0 (10 + (dS D).length) rn) 77 0 (11 + (dS D).length) 0) 78 0 (11 + (dS D).length) 0).1 78 0 (11 + (dS D).length) = 0 := by rw [rII, if_pos ⟨rfl, rfl, rfl⟩]
    generalize sI (sI (sI M10 76 0 (10 + (dS D).length) rn) 77 0 (11 + (dS D).length) 0) 78 0 (11 + (dS D).length) 0 = M15 at f15 u75 u76 u77 u78 ⊢
    have a15 := AtM_6 a10 f15 (fun k n i q => by omega)
    have c15 := DMm_fi c10 f15 (fun k i q => by omega)
    have fr15 : fi PRm M M15 := fi_tr fr9 (fi_tr (fi_mono f10 hP) (fi_mono f15 (fun k n i q => q.elim (fun q => PRm_e (Or.inr q.1) (by omega)) (fun q => PRm_d q.1 (by omega)))))
    rw [ok_cb]
    refine ok_mono (isWordM_ok (i := 11) a15 (by decide) kc11) (fun r hr => ?_)
    subst hr
    dsimp only
    rw [ok_nm, ok_ite]
    have z : ∀ n, ∀ x, x < 32 → bt (0 : Int32) x = true → x < n := fun n x _ r => by rw [b_0] at r; cases r
    have tail : ∀ (q' : Nat) (a b : Int32) (M21 : mm), AtM T q' M21 → DMm D M21 → fi PRm M M21 → M21.1 75 0 (11 + (dS D).length) = wt → M21.1 76 0 (10 + (dS D).length) = rn → M21.1 77 0 (11 + (dS D).length) = a → M21.1 78 0 (11 + (dS D).length) = b → (∀ x, x < 32 → bt a x = true → x < (dO D).length) → (∀ x, x < 32 → bt b x = true → x < (dS D).length) →
        ok (gi (nI (10 + (dS D).length)) 20 <| nm (sL M21 67 0 (10 + (dS D).length) (lN (pv 27 (wdA T (tkE T p))))) fun M22 => gi (8 : Int32) 12 <| gi (8 : Int32) 12 <| nm (sI M22 64 0 8 ((M22.1 64 0 8) + (1 : Int32))) fun M23 => cb (m_X12_closes F M23) fun b25 M24 => some (b25, M24)) (QRM T DMK PRm M (spSt T D (wdA T (tkE T p)) wt rn q' a b)) := fun q' a b M21 at21 c21 fr21 w75' w76' w77' w78' ba bb => by
      unfold spSt
      rw [ok_gi, ok_nm, ok_gi, ok_gi, ok_nm]
      refine ⟨hin20, vp_of (by decide), vp_of (by decide), ?_⟩
      have e8 : (sL M21 67 0 (10 + (dS D).length) (lN (pv 27 (wdA T (tkE T p))))).1 64 0 8 = nI (dS D).length := c21.1.2.2
      rw [e8, nI_1]
      have f23 : fi (fun k _ i => (k = 64 ∧ i = 8) ∨ ((k = 67 ∨ k = 76) ∧ i = 10 + (dS D).length) ∨ ((k = 75 ∨ k = 77 ∨ k = 78) ∧ i = 11 + (dS D).length)) M21 (sI (sL M21 67 0 (10 + (dS D).length) (lN (pv 27 (wdA T (tkE T p))))) 64 0 8 (nI ((dS D).length + 1))) := fi_sI (fi_sL fi_rf (Or.inr (Or.inl ⟨Or.inl rfl, rfl⟩))) (Or.inl ⟨rfl, rfl⟩)
      have tl : ∀ k i, k ≠ 64 → (sI (sL M21 67 0 (10 + (dS D).length) (lN (pv 27 (wdA T (tkE T p))))) 64 0 8 (nI ((dS D).length + 1))).1 k 0 i = M21.1 k 0 i := fun k i hk => by rw [rII, if_neg (by omega), rLI]
      have c23 := DMm_addS (w := wdA T (tkE T p)) (wt := wt) (rn := rn) (a := a) (b := b) c21 f23 (by rw [rII, if_pos ⟨rfl, rfl, rfl⟩]) (by rw [rIL, rLL, if_pos ⟨rfl, rfl, rfl⟩]) (by rw [tl 75 _ (by decide)]; exact w75') (by rw [tl 76 _ (by decide)]; exact w76') (by rw [tl 77 _ (by decide)]; exact w77') (by rw [tl 78 _ (by decide)]; exact w78') hw
      clear tl
      generalize sI (sL M21 67 0 (10 + (dS D).length) (lN (pv 27 (wdA T (tkE T p))))) 64 0 8 (nI ((dS D).length + 1)) = M23 at f23 c23 ⊢
      have fr23 : fi PRm M M23 := fi_tr fr21 (fi_mono f23 (fun k n i q => q.elim (fun q => PRm_a q.1 (by omega)) (fun q => q.elim (fun q => PRm_e q.1 (by omega)) (fun q => PRm_d q.1 (by omega)))))
      refine contM hP fr23 (closes_ok hF (AtM_6 at21 f23 (fun k n i q => by omega))) (fun _ M24 g24 => ?_) (fun M' => rfl)
      dsimp only at g24
      obtain ⟨a24, f24, hS24⟩ := g24
      rw [hS24]
      exact ok_some.mpr ⟨fi_tr fr23 (fi_mono f24 (fun k n i q => hP k n i (P13_6 k n i q))), rfl, a24, DMm_6 c23 (fi_mono f24 P13_6), DOK_S hk hs ⟨b1, b2⟩ ⟨b3, b4⟩ ba bb nO, hy⟩
    refine ⟨fun qy => ?_, fun qn => ?_⟩
    · rw [if_pos qy, ok_cv]
      refine ok_mono (AtM_next hF a15) (fun M18 h18 => ?_)
      obtain ⟨a18, f18⟩ := h18
      have f18 : fi PM6 M15 M18 := fi_mono f18 P13_6
      have c18 := DMm_6 c15 f18
      have fr18 := fi_tr fr15 (fi_mono f18 hP)
      rw [ok_cb]
      refine ok_mono (readsOn_ok hF a18 c18 hk hs ((fi_I f18 (by unfold PM6; omega)).trans u77) ((fi_I f18 (by unfold PM6; omega)).trans u78) (K := spSt T D (wdA T (tkE T p)) wt rn) spKept) (fun r hr => ?_)
      have pon : ∀ k n i, POn (dS D).length k n i → PRm k n i := fun k n i q => q.elim (fun q => hP k n i q) (fun q => PRm_d (by omega) (by omega))
      rcases hr with ⟨g1, g2, k, q', g3, g4⟩ | ⟨g1, q', a, b, g2, g3, g4, g5, g6, g7, g8⟩
      · rw [g1, g4, ok_ite]
        refine ⟨fun r => (by cases r), fun _ => ok_some.mpr ⟨fi_tr fr18 (fi_mono g2 pon), rfl, g3⟩⟩
      · rw [g1, g8]
        refine ok_tt ?_
        exact tail q' a b r.2 g2 (DMm_fi c18 g3 (fun k i q => by unfold POn PM6 at q; omega)) (fi_tr fr18 (fi_mono g3 pon)) ((fi_I g3 (by unfold POn PM6; omega)).trans ((fi_I f18 (by unfold PM6; omega)).trans u75)) ((fi_I g3 (by unfold POn PM6; omega)).trans ((fi_I f18 (by unfold PM6; omega)).trans u76)) g4 g5 g6 g7
    · rw [if_neg qn]
      exact tail _ 0 0 M15 a15 c15 fr15 u75 u76 u77 u78 (z _) (z _)
theorem readsMend_ok {F : Nat} (hF : 2000 < F) {T : List Int32} {p : Nat} {D : dft} {M : mm} (h : AtM T p M) (hD : DMK D M) : ok (m_X12_readsMend F M) (QRM T DMK PRm M (spMend T D p)) := by
  obtain ⟨hc, hk, hy⟩ := hD
  have hP := PRm_6
  obtain ⟨⟨n1, n2, n3⟩, k2, k3, k4, k5, k6, k7⟩ := id hk
  have t9 : (9 : Int32).toNatClampNeg = 9 := rfl
  have e29 := hc.2.2.2.2.2.2.1
  unfold m_X12_readsMend spMend
  rw [e29, ok_ite]
  refine ⟨fun q => ?_, fun q => ?_⟩
  · have qn : ¬ (dM D).isSome = true := fun q2 => by rw [if_pos q2] at q; exact absurd q (by decide)
    rw [if_neg qn, ok_nm]
    have f0 : fi (fun k _ i => k = 13 ∧ i = 29) M (sI M 13 0 29 1) := fi_sI fi_rf ⟨rfl, rfl⟩
    have v0 : (sI M 13 0 29 1).1 13 0 29 = 1 := by rw [rII, if_pos ⟨rfl, rfl, rfl⟩]
    generalize sI M 13 0 29 1 = M0 at f0 v0 ⊢
    have a0 := AtM_6 h f0 (fun k n i q => by omega)
    have fr0 : fi PRm M M0 := fi_mono f0 (fun k n i q => PRm_f ⟨q.1, Or.inr q.2⟩)
    rw [ok_cv]
    refine ok_mono (AtM_next hF a0) (fun M1 h1 => ?_)
    obtain ⟨a1, f1⟩ := h1
    have f1 : fi PM6 M0 M1 := fi_mono f1 P13_6
    have fr1 := fi_tr fr0 (fi_mono f1 hP)
    refine contM hP fr1 (needsNumber_ok hF a1) (fun _ M3 g3 => ?_) (fun M' => if_neg (by decide))
    dsimp only at g3
    obtain ⟨a3, f3, v3, ⟨b1, b2⟩, hS3⟩ := g3
    rw [hS3]
    refine ok_tt ?_
    have fr3 := fi_tr fr1 (fi_mono f3 hP)
    rw [ok_gi, ok_nm, t9, v3]
    refine ⟨vp_of (by decide), ?_⟩
    generalize (tkA T (tkE T p)).2.2 = m at b1 b2 ⊢
    have f5 : fi (fun k _ i => k = 64 ∧ i = 9) M3 (sI M3 64 0 9 m) := fi_sI fi_rf ⟨rfl, rfl⟩
    have v9 : (sI M3 64 0 9 m).1 64 0 9 = m := by rw [rII, if_pos ⟨rfl, rfl, rfl⟩]
    have v29 : (sI M3 64 0 9 m).1 13 0 29 = 1 := by rw [rII, if_neg (by omega), fi_I f3 (by unfold PM6; omega), fi_I f1 (by unfold PM6; omega)]; exact v0
    -- from the draft as it was, but for the two cells and the token's
    have c5 : DMm (dP D, dO D, D.2.2.1, dS D, some m, dW D) (sI M3 64 0 9 m) := by
      have g : fi (fun k _ i => (k = 64 ∧ i = 9) ∨ (k = 13 ∧ i = 29) ∨ PM6 k 0 i) M (sI M3 64 0 9 m) := fi_tr (fi_mono f0 (fun k n i q => Or.inr (Or.inl q))) (fi_tr (fi_mono f1 (fun k n i q => Or.inr (Or.inr q))) (fi_tr (fi_mono f3 (fun k n i q => Or.inr (Or.inr q))) (fi_mono f5 (fun k n i q => Or.inl q))))
      exact DMm_M hc g v9 v29
    generalize sI M3 64 0 9 m = M5 at f5 c5 ⊢
    have fr5 : fi PRm M M5 := fi_tr fr3 (fi_mono f5 (fun k n i q => PRm_a q.1 (by omega)))
    refine contM hP fr5 (closes_ok hF (AtM_6 a3 f5 (fun k n i q => by omega))) (fun _ M6 g6 => ?_) (fun M' => rfl)
    dsimp only at g6
    obtain ⟨a6, f6, hS6⟩ := g6
    rw [hS6]
    refine ok_some.mpr ⟨fi_tr fr5 (fi_mono f6 (fun k n i q => hP k n i (P13_6 k n i q))), rfl, a6, DMm_6 c5 (fi_mono f6 P13_6), ⟨⟨n1, n2, n3⟩, k2, k3, k4, k5, k6, fun m' hm => ?_⟩, hy⟩
    have hm : some m = some m' := hm
    rw [← Option.some.inj hm]; exact ⟨b1, b2⟩
  · have qy : (dM D).isSome = true := by
      cases e : (dM D).isSome
      · rw [e] at q; exact absurd rfl q
      · rfl
    rw [if_pos qy]
    exact ok_mono (badM (k := 3) (S := .inl (3, p)) h rfl) (fun r hr => by
      obtain ⟨b1, b2, k, q, b3, b4⟩ := hr
      rw [b4]; exact ⟨fi_mono b2 hP, b1, b3⟩)
