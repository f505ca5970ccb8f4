/-! the reference reads an oath -/
theorem leans_O {D : dft} {w : List Nat} {k q : Nat} {b : Int32} (hn : (dO D).length < 10) : leansD (dP D, dO D ++ [(w, k, q, b)], (fun x => if x = (dO D).length then -1 else dL D x, fun x => if x = (dO D).length then 0 else dK D x), D.2.2.2) = leansD D := by
  show (List.range (dO D ++ [(w, k, q, b)]).length).countP (fun x => decide (nI x < (if x = (dO D).length then (-1 : Int32) else dL D x))) = (List.range (dO D).length).countP (fun x => decide (nI x < dL D x))
  have el : (dO D ++ [(w, k, q, b)]).length = (dO D).length + 1 := by rw [List.length_append, List.length_singleton]
  rw [el, cp_s, if_pos rfl]
  have m1 : (-1 : Int32).toInt = -1 := rfl
  have n0 : decide (nI (dO D).length < (-1 : Int32)) = false := decide_eq_false (by rw [i_lt, nI_toInt (by omega), m1]; omega)
  rw [n0]
  show _ + 0 = _
  rw [Nat.add_zero]
  refine List.countP_congr (fun x hx => ?_)
  have hx := List.mem_range.mp hx
  rw [if_neg (by omega)]
theorem clash_O {D : dft} {w : List Nat} {k q : Nat} {b : Int32} : clashD (dP D, dO D ++ [(w, k, q, b)], (fun x => if x = (dO D).length then -1 else dL D x, fun x => if x = (dO D).length then 0 else dK D x), D.2.2.2) = clashD D := by
  show ((List.range (dO D ++ [(w, k, q, b)]).length).map (fun x => (List.range 10).countP (fun y => decide (x ≤ y) && bt (if x = (dO D).length then (0 : Int32) else dK D x) y))).sum = ((List.range (dO D).length).map (fun x => (List.range 10).countP (fun y => decide (x ≤ y) && bt (dK D x) y))).sum
  have el : (dO D ++ [(w, k, q, b)]).length = (dO D).length + 1 := by rw [List.length_append, List.length_singleton]
  rw [el, List.range_succ (n := (dO D).length), List.map_append, List.sum_append]
  have e1 : (List.range (dO D).length).map (fun x => (List.range 10).countP (fun y => decide (x ≤ y) && bt (if x = (dO D).length then (0 : Int32) else dK D x) y)) = (List.range (dO D).length).map (fun x => (List.range 10).countP (fun y => decide (x ≤ y) && bt (dK D x) y)) := by
    refine List.map_congr_left (fun x hx => ?_)
    have hx := List.mem_range.mp hx
    rw [if_neg (by omega)]
  have e2 : (List.range 10).countP (fun y => decide ((dO D).length ≤ y) && bt (if (dO D).length = (dO D).length then (0 : Int32) else dK D (dO D).length) y) = 0 := by
    rw [List.countP_eq_zero]
    intro y _
    rw [if_pos rfl, b_0, Bool.and_false]; decide
  rw [e1]
  show _ + ([_] : List Nat).sum = _
  rw [List.sum_singleton]
  dsimp only
  omega
theorem symK_O {D : dft} {w : List Nat} {k q : Nat} {b : Int32} (h : SymK D) (hk : DOK D) : SymK (dP D, dO D ++ [(w, k, q, b)], (fun x => if x = (dO D).length then -1 else dL D x, fun x => if x = (dO D).length then 0 else dK D x), D.2.2.2) := by
  intro x y hx hy
  have el : (dO D ++ [(w, k, q, b)]).length = (dO D).length + 1 := by rw [List.length_append, List.length_singleton]
  have hx : x < (dO D ++ [(w, k, q, b)]).length := hx
  have hy : y < (dO D ++ [(w, k, q, b)]).length := hy
  rw [el] at hx hy
  obtain ⟨⟨n1, n2, n3⟩, k2, k3, k4, -⟩ := hk
  have nb : ∀ z, z < (dO D).length → bt (dK D z) (dO D).length = false := fun z hz => by
    cases e : bt (dK D z) (dO D).length
    · rfl
    · have := (k4 z hz).2 _ (by omega) e; omega
  show bt (if x = (dO D).length then (0 : Int32) else dK D x) y = bt (if y = (dO D).length then (0 : Int32) else dK D y) x
  by_cases e1 : x = (dO D).length
  · rw [if_pos e1, b_0]
    by_cases e2 : y = (dO D).length
    · rw [if_pos e2, b_0]
    · rw [if_neg e2, e1, nb y (by omega)]
  · rw [if_neg e1]
    by_cases e2 : y = (dO D).length
    · rw [if_pos e2, b_0, e2, nb x (by omega)]
    · rw [if_neg e2]; exact h x y (by omega) (by omega)
theorem DMm_addO {D : dft} {M M' : mm} {w : List Nat} {k q : Nat} {b : Int32} (h : DMm D M) (fr : fi (fun k _ i => (k = 64 ∧ i = 7) ∨ ((k = 66 ∨ (70 ≤ k ∧ k ≤ 74)) ∧ i = 10 + (dO D).length)) M M') (hn : (dO D).length < 10) (c7 : M'.1 64 0 7 = nI ((dO D).length + 1)) (c66 : M'.2.1 66 0 (10 + (dO D).length) = lN (pv 27 w)) (c70 : M'.1 70 0 (10 + (dO D).length) = nI k) (c71 : M'.1 71 0 (10 + (dO D).length) = nI q) (c72 : M'.1 72 0 (10 + (dO D).length) = b) (c73 : M'.1 73 0 (10 + (dO D).length) = -1) (c74 : M'.1 74 0 (10 + (dO D).length) = 0) (hw : WdOk w) : DMm (dP D, dO D ++ [(w, k, q, b)], (fun x => if x = (dO D).length then -1 else dL D x, fun x => if x = (dO D).length then 0 else dK D x), D.2.2.2) M' := by
  obtain ⟨⟨h1, h2, h3⟩, ⟨h4, h5, h6⟩, ⟨h7, h8, h9⟩, h10, h11, h12, h13, h14⟩ := h
  obtain ⟨l1, l2, l3⟩ := len_n D
  have e : ∀ k i, ¬ (k = 64 ∧ i = 7) → ¬ ((k = 66 ∨ (70 ≤ k ∧ k ≤ 74)) ∧ i = 10 + (dO D).length) → M'.1 k 0 i = M.1 k 0 i ∧ M'.2.1 k 0 i = M.2.1 k 0 i := fun k i a b => fr.2 k 0 i (fun q => q.elim a b)
  have lt : ∀ {α : Type} {L : List α} {i : Nat} {e : α}, L[i]? = some e → i < L.length := fun q => (List.getElem?_eq_some_iff.mp q).1
  have eN : dOn (dP D, dO D ++ [(w, k, q, b)], (fun x => if x = (dO D).length then -1 else dL D x, fun x => if x = (dO D).length then 0 else dK D x), D.2.2.2) = dOn D ++ [w] := by unfold dOn; show ((dO D ++ [(w, k, q, b)]).map (fun e => e.1)) = _; rw [List.map_append]; rfl
  refine ⟨⟨by rw [(e 64 6 (by omega) (by omega)).1]; exact h1, ?_, by rw [(e 64 8 (by omega) (by omega)).1]; exact h3⟩, ⟨by rw [(e 64 9 (by omega) (by omega)).1]; exact h4, by rw [(e 64 10 (by omega) (by omega)).1, leans_O hn]; exact h5, by rw [(e 64 11 (by omega) (by omega)).1, clash_O]; exact h6⟩, ⟨⟨fun i w hi => by rw [(e 65 _ (by omega) (by omega)).2]; exact h7.1 i w hi, h7.2⟩, ?_, ⟨fun i w hi => by rw [(e 67 _ (by omega) (by omega)).2]; exact h9.1 i w hi, h9.2⟩⟩, fun i v hi => by rw [(e 68 _ (by omega) (by omega)).1, (e 69 _ (by omega) (by omega)).1]; exact h10 i v hi, fun i v hi => ?_, fun i v hi => by rw [(e 75 _ (by omega) (by omega)).1, (e 76 _ (by omega) (by omega)).1, (e 77 _ (by omega) (by omega)).1, (e 78 _ (by omega) (by omega)).1]; exact h12 i v hi, by rw [(e 13 29 (by omega) (by omega)).1]; exact h13, LwM_c h14 (fun k i hk => (e k i (by omega) (by omega)).1)⟩
  · show M'.1 64 0 7 = nI (dO D ++ [(w, k, q, b)]).length
    rw [List.length_append, List.length_singleton]; exact c7
  · rw [eN]
    exact NmM_add h8 (fun i hi => (e 66 _ (by omega) (by omega)).2) (by rw [l2]; exact c66) hw
  · rcases get_snoc.mp (show (dO D ++ [(w, k, q, b)])[i]? = some v from hi) with r | ⟨r, r2⟩
    · have := lt r
      have ne : ¬ i = (dO D).length := by omega
      obtain ⟨x1, x2, x3, x4, x5⟩ := h11 i v r
      refine ⟨by rw [(e 70 _ (by omega) (by omega)).1]; exact x1, by rw [(e 71 _ (by omega) (by omega)).1]; exact x2, by rw [(e 72 _ (by omega) (by omega)).1]; exact x3, ?_, ?_⟩
      · rw [(e 73 _ (by omega) (by omega)).1, x4]; exact (if_neg ne).symm
      · rw [(e 74 _ (by omega) (by omega)).1, x5]; exact (if_neg ne).symm
    · subst r r2
      exact ⟨c70, c71, c72, c73.trans (if_pos rfl).symm, c74.trans (if_pos rfl).symm⟩
theorem readsOath_ok {F : Nat} (hF : 2000 < F) {T : List Int32} {p : Nat} {D : dft} {M : mm} (h : AtM T p M) (hD : DMK D M) : ok (m_X12_readsOath F M) (QRM T DMK PRm M (spOath T D p)) := by
  obtain ⟨hc, hk, hy⟩ := hD
  have hP := PRm_6
  obtain ⟨l1, l2, l3⟩ := len_n D
  obtain ⟨⟨n1, n2, n3⟩, k2, k3, k4, k5, k6, k7⟩ := id hk
  have t7 : (7 : Int32).toNatClampNeg = 7 := rfl
  have e20 : nI (10 + (dO D).length) = (20 : Int32) ↔ 10 + (dO D).length = 20 := nI_eq (b := 20) (by omega) (by decide)
  have ea : (10 : Int32) + nI (dO D).length = nI (10 + (dO D).length) := nI_add 10 _
  unfold m_X12_readsOath spOath
  rw [ok_gi, ok_nm, t7, hc.1.2.1, ea, ok_ite, e20]
  refine ⟨vp_of (by decide), fun q => ?_, fun q => ?_⟩
  · rw [if_pos (by omega)]
    exact ok_mono (badM (k := 5) (S := .inl (5, p)) h rfl) (fun r hr => by
      obtain ⟨b1, b2, k, q, b3, b4⟩ := hr
      rw [b4]; exact ⟨fi_mono b2 hP, b1, b3⟩)
  · rw [if_neg (by omega), ok_cv]
    refine ok_mono (AtM_next hF h) (fun M2 h2 => ?_)
    obtain ⟨a2, f2⟩ := h2
    have f2 : fi PM6 M M2 := fi_mono f2 P13_6
    have c2 := DMm_6 hc f2
    have hin : vp_in (nI (10 + (dO D).length)) 20 := vp_in_nI (by omega) (by decide)
    refine contM hP (fi_mono f2 hP) (isNew_ok hF a2 c2 hk) (fun _ M3 g3 => ?_) (fun M' => if_neg (by decide))
    dsimp only at g3
    obtain ⟨rfl, hn, nO, nS, hS⟩ := g3
    rw [hS]
    refine ok_tt ?_
    obtain ⟨hw, h7⟩ := wdM_ok a2 hn
    rw [ok_nm, h7, ok_cv]
    refine ok_mono (AtM_next hF a2) (fun M6 h6 => ?_)
    obtain ⟨a6, f6⟩ := h6
    have f6 : fi PM6 M3 M6 := fi_mono f6 P13_6
    have fr6 := fi_tr f2 f6
    have c6 := DMm_6 c2 f6
    -- the kind
    rw [ok_cb]
    refine ok_mono (isWordM_ok (i := 18) a6 (by decide) kc18) (fun r hr => ?_)
    subst hr
    dsimp only
    rw [ok_bd]
    refine ok_mono (Q := fun z => z.2 = M6 ∧ ((∃ j, 18 ≤ j ∧ j ≤ 21 ∧ isW T (tkE T (tkE T p)) j = true ∧ z.1 = nI (j - 18)) ∨ (z.1 = -1 ∧ ¬ (isW T (tkE T (tkE T p)) 18 = true ∨ isW T (tkE T (tkE T p)) 19 = true ∨ isW T (tkE T (tkE T p)) 20 = true ∨ isW T (tkE T (tkE T p)) 21 = true)))) ?_ (fun z hz => ?_)
    · rw [ok_ite]
      refine ⟨fun q1 => ok_some.mpr ⟨rfl, Or.inl ⟨18, by omega, by omega, q1, rfl⟩⟩, fun q1 => ?_⟩
      rw [ok_cb]
      refine ok_mono (isWordM_ok (i := 19) a6 (by decide) kc19) (fun r hr => ?_)
      subst hr
      dsimp only
      rw [ok_ite]
      refine ⟨fun q2 => ok_some.mpr ⟨rfl, Or.inl ⟨19, by omega, by omega, q2, rfl⟩⟩, fun q2 => ?_⟩
      rw [ok_cb]
      refine ok_mono (isWordM_ok (i := 20) a6 (by decide) kc20) (fun r hr => ?_)
      subst hr
      dsimp only
      rw [ok_ite]
      refine ⟨fun q3 => ok_some.mpr ⟨rfl, Or.inl ⟨20, by omega, by omega, q3, rfl⟩⟩, fun q3 => ?_⟩
      rw [ok_cb]
      refine ok_mono (isWordM_ok (i := 21) a6 (by decide) kc21) (fun r hr => ?_)
      subst hr
      dsimp only
      rw [ok_ite]
      exact ⟨fun q4 => ok_some.mpr ⟨rfl, Or.inl ⟨21, by omega, by omega, q4, rfl⟩⟩, fun q4 => ok_some.mpr ⟨rfl, Or.inr ⟨rfl, fun r => r.elim q1 (fun r => r.elim q2 (fun r => r.elim q3 q4))⟩⟩⟩
    obtain ⟨x15, M16⟩ := z
    obtain ⟨rfl, hz⟩ := hz
    dsimp only
    rw [ok_gi, ok_nm, ok_gi, nI_clamp (by omega)]
    refine ⟨hin, hin, ?_⟩
    have f17 : fi (fun k n i => k = 70 ∧ i = 10 + (dO D).length) M16 (sI M16 70 0 (10 + (dO D).length) x15) := fi_sI fi_rf ⟨rfl, rfl⟩
    have v70 : (sI M16 70 0 (10 + (dO D).length) x15).1 70 0 (10 + (dO D).length) = x15 := by rw [rII, if_pos ⟨rfl, rfl, rfl⟩]
    generalize sI M16 70 0 (10 + (dO D).length) x15 = M17 at f17 v70 ⊢
    have a17 := AtM_6 a6 f17 (fun k n i q => by omega)
    have c17 := DMm_fi c6 f17 (fun k i q => by omega)
    have fr17 : fi PRm M M17 := fi_tr (fi_mono fr6 hP) (fi_mono f17 (fun k n i q => PRm_c (Or.inr (by omega)) (by omega)))
    rcases hz with ⟨j, j1, j2, jw, rfl⟩ | ⟨rfl, hno⟩
    · have isk : isW T (tkE T (tkE T p)) 18 = true ∨ isW T (tkE T (tkE T p)) 19 = true ∨ isW T (tkE T (tkE T p)) 20 = true ∨ isW T (tkE T (tkE T p)) 21 = true := by
        rcases (show j = 18 ∨ j = 19 ∨ j = 20 ∨ j = 21 by omega) with e | e | e | e <;> subst e
        · exact Or.inl jw
        · exact Or.inr (Or.inl jw)
        · exact Or.inr (Or.inr (Or.inl jw))
        · exact Or.inr (Or.inr (Or.inr jw))
      have exN : (kwI (wdA T (tkE T (tkE T p)))).toNatClampNeg - 18 = j - 18 := by rw [(isW_i (by omega) jw).2, nI_clamp (by omega)]
      rw [if_pos isk, exN, v70, ok_ite]
      have p0 : (0 : Int32) ≤ nI (j - 18) := (nI_leI (by omega) (by omega) : nI 0 ≤ nI _ ↔ 0 ≤ _).mpr (Nat.zero_le _)
      refine ⟨fun _ => ?_, fun r => absurd p0 r⟩
      rw [ok_cv]
      refine ok_mono (AtM_next hF a17) (fun M18 h18 => ?_)
      obtain ⟨a18, f18⟩ := h18
      have f18 : fi PM6 M17 M18 := fi_mono f18 P13_6
      have c18 := DMm_6 c17 f18
      have fr18 := fi_tr fr17 (fi_mono f18 hP)
      refine contM hP fr18 (needsWord_ok (i := 4) hF a18 (by decide) kc4) (fun _ M19 g19 => ?_) (fun M' => if_neg (by decide))
      dsimp only at g19
      obtain ⟨a19, f19, hS19⟩ := g19
      have f19 : fi PM6 M18 M19 := fi_mono f19 P13_6
      rw [hS19]
      refine ok_tt ?_
      have c19 := DMm_6 c18 f19
      have fr19 := fi_tr fr18 (fi_mono f19 hP)
      rw [ok_cb]
      refine ok_mono (isKept_ok a19) (fun r hr => ?_)
      subst hr
      dsimp only
      rw [ok_ite]
      refine ⟨fun qk => ?_, fun qk => ?_⟩
      · have qn : ¬ isNm T (tkE T (tkE T (tkE T (tkE T p)))) = true := by simpa using qk
        have hK : ∀ K : Nat → res, spKn T (dPn D) (tkE T (tkE T (tkE T (tkE T p)))) K = .inl (1, tkE T (tkE T (tkE T (tkE T p)))) := fun K => if_neg qn
        rw [hK]
        refine ok_mono (badM (k := 1) a19 (S := .inl (1, tkE T (tkE T (tkE T (tkE T p))))) rfl) (fun r hr => ?_)
        obtain ⟨b1, b2, k, q, b3, b4⟩ := hr
        rw [b4]; exact ⟨fi_tr fr19 (fi_mono b2 hP), b1, b3⟩
      have qn : isNm T (tkE T (tkE T (tkE T (tkE T p)))) = true := by simpa using qk
      obtain ⟨hw19, h719⟩ := wdM_ok a19 qn
      rw [ok_cl]
      refine ok_mono (personN_ok (by omega) (c19.1.1.trans (by rw [l1])) c19.2.2.1.1 (by omega) hw19 h719) (fun r hr => ?_)
      subst hr
      dsimp only
      rw [ok_gi, ok_nm, ok_gi]
      refine ⟨hin, hin, ?_⟩
      have f25 : fi (fun k n i => k = 71 ∧ i = 10 + (dO D).length) M19 (sI M19 71 0 (10 + (dO D).length) (fdI (dPn D) (wdA T (tkE T (tkE T (tkE T (tkE T p))))))) := fi_sI fi_rf ⟨rfl, rfl⟩
      have v71 : (sI M19 71 0 (10 + (dO D).length) (fdI (dPn D) (wdA T (tkE T (tkE T (tkE T (tkE T p))))))).1 71 0 (10 + (dO D).length) = fdI (dPn D) (wdA T (tkE T (tkE T (tkE T (tkE T p))))) := by rw [rII, if_pos ⟨rfl, rfl, rfl⟩]
      generalize sI M19 71 0 (10 + (dO D).length) (fdI (dPn D) (wdA T (tkE T (tkE T (tkE T (tkE T p)))))) = M25 at f25 v71 ⊢
      have a25 := AtM_6 a19 f25 (fun k n i q => by omega)
      have c25 := DMm_fi c19 f25 (fun k i q => by omega)
      have fr25 : fi PRm M M25 := fi_tr fr19 (fi_mono f25 (fun k n i q => PRm_c (Or.inr (by omega)) (by omega)))
      rw [v71, ok_ite, fdI_le (by omega)]
      refine ⟨fun qs => ?_, fun qs => ?_⟩
      · cases hq : fnd (dPn D) (wdA T (tkE T (tkE T (tkE T (tkE T p))))) with
        | none => rw [hq] at qs; cases qs
        | some qn' =>
        have lq := fnd_lt hq
        have hK : ∀ K : Nat → res, spKn T (dPn D) (tkE T (tkE T (tkE T (tkE T p)))) K = K qn' := fun K => by unfold spKn; rw [if_pos qn, hq]
        rw [hK, ok_cv]
        have v71' := v71.trans ((fdI_n (by omega)).2 qn' hq)
        refine ok_mono (AtM_next hF a25) (fun M26 h26 => ?_)
        obtain ⟨a26, f26⟩ := h26
        have f26 : fi PM6 M25 M26 := fi_mono f26 P13_6
        have c26 := DMm_6 c25 f26
        have fr26 := fi_tr fr25 (fi_mono f26 hP)
        refine contM hP fr26 (needsBoth_ok (i := 5) hF a26 (by decide) kc5) (fun _ M27 g27 => ?_) (fun M' => if_neg (by decide))
        dsimp only at g27
        obtain ⟨a27, f27, v27, ⟨b1, b2⟩, hS27⟩ := g27
        rw [hS27]
        refine ok_tt ?_
        have c27 := DMm_6 c26 f27
        have fr27 := fi_tr fr26 (fi_mono f27 hP)
        generalize (tkA T (tkE T (tkE T (tkE T (tkE T (tkE T (tkE T p))))))).2.2 = bs at b1 b2 v27 ⊢
        rw [ok_gi, ok_nm, ok_gi, ok_nm, ok_gi, ok_nm, ok_gi, ok_nm, ok_gi, ok_gi, ok_nm, v27]
        refine ⟨hin, hin, hin, hin, vp_of (by decide), vp_of (by decide), ?_⟩
        have w70 : M27.1 70 0 (10 + (dO D).length) = nI (j - 18) := (fi_I f27 (by unfold PM6; omega)).trans ((fi_I f26 (by unfold PM6; omega)).trans ((fi_I f25 (by omega)).trans ((fi_I f19 (by unfold PM6; omega)).trans ((fi_I f18 (by unfold PM6; omega)).trans v70))))
        have w71 : M27.1 71 0 (10 + (dO D).length) = nI qn' := (fi_I f27 (by unfold PM6; omega)).trans ((fi_I f26 (by unfold PM6; omega)).trans v71')
        generalize hM32 : sL (sI (sI (sI M27 72 0 (10 + (dO D).length) bs) 73 0 (10 + (dO D).length) (-1)) 74 0 (10 + (dO D).length) 0) 66 0 (10 + (dO D).length) (lN (pv 27 (wdA T (tkE T p)))) = M32
        have f32 : fi (fun k _ i => (k = 64 ∧ i = 7) ∨ ((k = 66 ∨ (70 ≤ k ∧ k ≤ 74)) ∧ i = 10 + (dO D).length)) M27 M32 := by
          rw [← hM32]
          exact fi_sL (fi_sI (fi_sI (fi_sI fi_rf (Or.inr ⟨Or.inr ⟨by decide, by decide⟩, rfl⟩)) (Or.inr ⟨Or.inr ⟨by decide, by decide⟩, rfl⟩)) (Or.inr ⟨Or.inr ⟨by decide, by decide⟩, rfl⟩)) (Or.inr ⟨Or.inl rfl, rfl⟩)
        have g7 : M32.1 64 0 7 = nI (dO D).length := by rw [← hM32, rLI, rII, if_neg (by omega), rII, if_neg (by omega), rII, if_neg (by omega)]; exact c27.1.2.1
        have g66 : M32.2.1 66 0 (10 + (dO D).length) = lN (pv 27 (wdA T (tkE T p))) := by rw [← hM32, rLL, if_pos ⟨rfl, rfl, rfl⟩]
        have g70 : M32.1 70 0 (10 + (dO D).length) = nI (j - 18) := by rw [← hM32, rLI, rII, if_neg (by omega), rII, if_neg (by omega), rII, if_neg (by omega)]; exact w70
        have g71 : M32.1 71 0 (10 + (dO D).length) = nI qn' := by rw [← hM32, rLI, rII, if_neg (by omega), rII, if_neg (by omega), rII, if_neg (by omega)]; exact w71
        have g72 : M32.1 72 0 (10 + (dO D).length) = bs := by rw [← hM32, rLI, rII, if_neg (by omega), rII, if_neg (by omega), rII, if_pos ⟨rfl, rfl, rfl⟩]
        have g73 : M32.1 73 0 (10 + (dO D).length) = -1 := by rw [← hM32, rLI, rII, if_neg (by omega), rII, if_pos ⟨rfl, rfl, rfl⟩]
        have g74 : M32.1 74 0 (10 + (dO D).length) = 0 := by rw [← hM32, rLI, rII, if_pos ⟨rfl, rfl, rfl⟩]
        clear hM32
        rw [g7, nI_1]
        have f33 := fi_tr f32 (fi_sI fi_rf (Or.inl ⟨rfl, rfl⟩) : fi (fun k _ i => (k = 64 ∧ i = 7) ∨ ((k = 66 ∨ (70 ≤ k ∧ k ≤ 74)) ∧ i = 10 + (dO D).length)) M32 (sI M32 64 0 7 (nI ((dO D).length + 1))))
        have c33 := DMm_addO (w := wdA T (tkE T p)) (k := j - 18) (q := qn') (b := bs) c27 f33 (by omega) (by rw [rII, if_pos ⟨rfl, rfl, rfl⟩]) (by rw [rIL]; exact g66) (by rw [rII, if_neg (by omega)]; exact g70) (by rw [rII, if_neg (by omega)]; exact g71) (by rw [rII, if_neg (by omega)]; exact g72) (by rw [rII, if_neg (by omega)]; exact g73) (by rw [rII, if_neg (by omega)]; exact g74) hw
        generalize sI M32 64 0 7 (nI ((dO D).length + 1)) = M33 at f33 c33 ⊢
        have a33 := AtM_6 a27 f33 (fun k n i q => by omega)
        have fr33 : fi PRm M M33 := fi_tr fr27 (fi_mono f33 (fun k n i q => q.elim (fun q => PRm_a q.1 (by omega)) (fun q => PRm_c q.1 (by omega))))
        refine contM hP fr33 (closes_ok hF a33) (fun _ M34 g34 => ?_) (fun M' => rfl)
        dsimp only at g34
        obtain ⟨a34, f34, hS34⟩ := g34
        rw [hS34]
        exact ok_some.mpr ⟨fi_tr fr33 (fi_mono f34 (fun k n i q => hP k n i (P13_6 k n i q))), rfl, a34, DMm_6 c33 (fi_mono f34 P13_6), DOK_O hk (by omega) (by omega) (by omega) ⟨b1, b2⟩ nS, symK_O hy hk⟩
      · refine ok_mono (badM (k := 2) a25 (S := .inl (2, tkE T (tkE T (tkE T (tkE T p))))) rfl) (fun r hr => ?_)
        obtain ⟨b1, b2, k, q, b3, b4⟩ := hr
        have hK : ∀ K : Nat → res, spKn T (dPn D) (tkE T (tkE T (tkE T (tkE T p)))) K = .inl (2, tkE T (tkE T (tkE T (tkE T p)))) := fun K => by
          unfold spKn
          cases e : fnd (dPn D) (wdA T (tkE T (tkE T (tkE T (tkE T p))))) with
          | none => rw [if_pos qn]
          | some i => rw [e] at qs; exact absurd rfl qs
        rw [hK, b4]; exact ⟨fi_tr fr25 (fi_mono b2 hP), b1, b3⟩
    · rw [if_neg hno, v70, ok_ite]
      refine ⟨fun r => absurd r (by decide), fun _ => ?_⟩
      refine ok_mono (badM (k := 1) a17 (S := .inl (1, tkE T (tkE T p))) rfl) (fun r hr => ?_)
      obtain ⟨b1, b2, k, q, b3, b4⟩ := hr
      rw [b4]; exact ⟨fi_tr fr17 (fi_mono b2 hP), b1, b3⟩
