/-! the class reads an oath, a pair -/
theorem DOK_O {D : dft} {w : List Nat} {k q : Nat} {b : Int32} (h : DOK D) (hn : (dO D).length < 10) (hk : k < 4) (hq : q < (dP D).length) (hb : 1 ≤ b ∧ b ≤ 99) (hs : w ∉ dSn D) : DOK (dP D, dO D ++ [(w, k, q, b)], (fun x => if x = (dO D).length then -1 else dL D x, fun x => if x = (dO D).length then 0 else dK D x), D.2.2.2) := by
  obtain ⟨⟨n1, n2, n3⟩, k2, k3, k4, k5, k6, k7⟩ := h
  have el : (dO D ++ [(w, k, q, b)]).length = (dO D).length + 1 := by rw [List.length_append, List.length_singleton]
  have eN : dOn (dP D, dO D ++ [(w, k, q, b)], (fun x => if x = (dO D).length then -1 else dL D x, fun x => if x = (dO D).length then 0 else dK D x), D.2.2.2) = dOn D ++ [w] := by unfold dOn; show ((dO D ++ [(w, k, q, b)]).map (fun e => e.1)) = _; rw [List.map_append]; rfl
  refine ⟨⟨n1, by show (dO D ++ [_]).length ≤ 10; rw [el]; omega, n3⟩, k2, fun e he => ?_, fun x hx => ?_, fun i e he => ?_, fun v hv => ?_, k7⟩
  · rcases List.mem_append.mp (show e ∈ dO D ++ [_] from he) with r | r
    · exact k3 e r
    · rw [List.mem_singleton.mp r]; exact ⟨hk, hq, hb⟩
  · have hx : x < (dO D ++ [(w, k, q, b)]).length := hx
    rw [el] at hx
    show ((if x = (dO D).length then (-1 : Int32) else dL D x) = -1 ∨ ∃ y, y < (dO D ++ [(w, k, q, b)]).length ∧ (if x = (dO D).length then (-1 : Int32) else dL D x) = nI y) ∧ ∀ y, y < 32 → bt (if x = (dO D).length then (0 : Int32) else dK D x) y = true → y < (dO D ++ [(w, k, q, b)]).length
    rw [el]
    by_cases e : x = (dO D).length
    · rw [if_pos e, if_pos e]
      exact ⟨Or.inl rfl, fun y _ r => by rw [b_0] at r; cases r⟩
    · rw [if_neg e, if_neg e]
      obtain ⟨a, c⟩ := k4 x (by omega)
      exact ⟨a.imp id (fun ⟨y, r, r2⟩ => ⟨y, by omega, r2⟩), fun y hy r => by have := c y hy r; omega⟩
  · obtain ⟨x1, x2, x3, x4⟩ := k5 i e he
    exact ⟨x1, x2, fun x hx r => by show x < (dO D ++ [_]).length; rw [el]; have := x3 x hx r; omega, x4⟩
  · rw [eN] at hv
    rcases List.mem_append.mp hv with r | r
    · exact k6 v r
    · rw [List.mem_singleton.mp r]; exact hs
theorem readOath_ok {F : Nat} (hF : 2000 < F) {T : List Int32} {p o : Nat} {D : dft} {M : mm} (h : AtC T p M) (hD : DCK o D M) : ok (m_X5_readOath F M) (QR T (DCK o) (PRd o) M (spOath T D p)) := by
  obtain ⟨hc, hk⟩ := hD
  have hP := @PRd_6 o
  have pt := hc.1
  have n0 := hc.2.1.2.1
  obtain ⟨l1, l2, l3⟩ := len_n D
  obtain ⟨⟨n1, n2, n3⟩, k2, k3, k4, k5, k6, k7⟩ := id hk
  have e6 : nI (dO D).length < (10 : Int32) ↔ (dO D).length < 10 := (nI_ltI (by omega) (by omega) : nI _ < nI 10 ↔ _)
  unfold m_X5_readOath spOath
  rw [ok_nm, pt, n0, ok_ite, e6]
  refine ⟨fun q => ?_, fun q => ?_⟩
  · rw [if_neg (by omega), ok_cv]
    refine ok_mono (AtC_next hF h) (fun M2 h2 => ?_)
    obtain ⟨a2, f2⟩ := h2
    have f2 : fi PT6 M M2 := fi_mono f2 (fun k n i q => Or.inl q)
    have c2 := DCc_6 hc f2
    rw [ok_nm]
    refine tnew_ok hF hP a2 (fi_mono f2 hP) c2 hk (fun hn nP nO nS M4 a4 f4 => ok_tt ?_) (fun M' => if_neg (by decide))
    obtain ⟨hw, h8⟩ := wdA_ok a2 hn
    have c4 := DCc_6 c2 f4
    have kk := kw_kind (T := T) (p := tkE T (tkE T p))
    have e7 := a4.2.2.2.2.2.1
    refine ok_jn (P := ¬ (isW T (tkE T (tkE T p)) 18 = true ∨ isW T (tkE T (tkE T p)) 19 = true ∨ isW T (tkE T (tkE T p)) 20 = true ∨ isW T (tkE T (tkE T p)) 21 = true)) (fun hb => ?_) (fun j hj => ?_)
    · rw [if_neg hb]
      show ok (cb (m_X5_wrong F (1 : Int32) M4) _) _
      rw [ok_cb]
      exact ok_mono (wrong_ok (k := 1) a4) (fun r hr => ok_some.mpr (QR_bad (fi_mono (fi_tr f2 f4) hP) hP hr))
    · rw [ok_ite, e7]
      refine ⟨fun q1 => hj (fun q2 => (kk.mpr q2).1 q1), fun q1 => ?_⟩
      rw [ok_ite]
      refine ⟨fun q2 => ?_, fun q2 => hj (fun q3 => q2 (kk.mpr q3).2)⟩
      have isk := kk.mp ⟨q1, q2⟩
      rw [if_pos isk, ok_nm, ok_cv]
      have hki : ∃ j, 18 ≤ j ∧ j ≤ 21 ∧ (tkA T (tkE T (tkE T p))).1 = 2 ∧ kwI (wdA T (tkE T (tkE T p))) = nI j := by
        rcases isk with r | r | r | r
        · exact ⟨18, by omega, by omega, isW_i (by decide) r⟩
        · exact ⟨19, by omega, by omega, isW_i (by decide) r⟩
        · exact ⟨20, by omega, by omega, isW_i (by decide) r⟩
        · exact ⟨21, by omega, by omega, isW_i (by decide) r⟩
      obtain ⟨j0, j1, j2, j3, j4⟩ := hki
      have ex6 : (if (tkA T (tkE T (tkE T p))).1 = 2 then kwI (tkA T (tkE T (tkE T p))).2.1 else -1) - (18 : Int32) = nI (j0 - 18) := by
        rw [if_pos j3]
        show kwI (wdA T (tkE T (tkE T p))) - nI 18 = _
        rw [j4, nI_sub j1]
      have exN : (kwI (wdA T (tkE T (tkE T p)))).toNatClampNeg - 18 = j0 - 18 := by rw [j4, nI_clamp (by omega)]
      rw [ex6, exN]
      refine ok_mono (AtC_next hF a4) (fun M7 h7 => ?_)
      obtain ⟨a7, f7⟩ := h7
      have f7 : fi PT6 M4 M7 := fi_mono f7 (fun k n i q => Or.inl q)
      have fr7 := fi_tr f2 (fi_tr f4 f7)
      have c7 := DCc_6 c4 f7
      refine tw_ok hF hP (i := 4) a7 (fi_mono fr7 hP) (by decide) (fun M8 a8 f8 => ok_tt ?_) (fun M' => if_neg (by decide))
      have c8 := DCc_6 c7 f8
      rw [c8.1, c8.2.1.1, ← l1]
      refine kn20_ok hF hP a8 (fi_mono (fi_tr fr7 f8) hP) c8.2.2.1.1 (by omega) (fun qn hq M10 a10 f10 v10 => ok_tt ?_) (fun M' => if_neg (by decide))
      have c10 := DCc_6 c8 f10
      have hqn := fnd_lt hq
      rw [ok_nm, v10, ok_cv]
      refine ok_mono (AtC_next hF a10) (fun M13 h13 => ?_)
      obtain ⟨a13, f13⟩ := h13
      have f13 : fi PT6 M10 M13 := fi_mono f13 (fun k n i q => Or.inl q)
      have fr13 := fi_tr fr7 (fi_tr f8 (fi_tr f10 f13))
      have c13 := DCc_6 c10 f13
      refine tw_ok hF hP (i := 5) a13 (fi_mono fr13 hP) (by decide) (fun M14 a14 f14 => ok_tt ?_) (fun M' => if_neg (by decide))
      have c14 := DCc_6 c13 f14
      refine tn_ok hF hP a14 (fi_mono (fi_tr fr13 f14) hP) (fun b1 b2 M16 a16 f16 v16 => ok_tt ?_) (fun M' => if_neg (by decide))
      have c16 := DCc_6 c14 f16
      have fr16 := fi_tr fr13 (fi_tr f14 f16)
      refine te_ok hF hP a16 (fi_mono fr16 hP) (fun M18 a18 f18 => ok_tt ?_) (fun M' => if_neg (by decide))
      have c18 := DCc_6 c16 (fi_mono f18 P7_6)
      have w18 : M18.1 6 0 5 = _ := (fi_I f18 (by unfold P7; omega)).trans v16
      rw [ok_cv, c18.1, w18, h8]
      refine ok_mono (addOath_ok c18 q (by omega) (by omega) hw) (fun M20 h20 => ok_some.mpr ?_)
      obtain ⟨c20, f20⟩ := h20
      exact ⟨fi_tr (fi_mono fr16 hP) (fi_tr (fi_mono f18 (fun k n i q => hP k n i (P7_6 k n i q))) (fi_mono f20 (fun k n i q => Or.inr (Or.inl (by omega))))), rfl, AtC_6 a18 f20 (fun k n i q => by omega), c20, DOK_O hk q (by omega) (by omega) ⟨b1, b2⟩ nS⟩
  · rw [if_pos (by omega), ok_cb]
    exact ok_mono (wrong_ok (k := 5) h) (fun r hr => ok_some.mpr (QR_bad fi_rf hP hr))
/-- the draft with other leans and clashes -/
theorem DCc_LK {o : Nat} {D : dft} {M M' : mm} {L K : Nat → Int32} (h : DCc o D M) (fr : fi (fun k n i => n = o ∧ (k = 28 ∨ k = 29)) M M') (c : ∀ i, i < (dO D).length → M'.1 28 o i = L i ∧ M'.1 29 o i = K i) : DCc o (dP D, dO D, (L, K), D.2.2.2) M' := by
  obtain ⟨h1, ⟨h2, h3, h4⟩, ⟨h5, h6, h7⟩, h8, h9, h10, h11, h12, ⟨h13, h14⟩, h15, ⟨h16, h17, h18⟩, h19⟩ := h
  have e : ∀ k i, k ≠ 28 → k ≠ 29 → M'.1 k o i = M.1 k o i ∧ M'.2.1 k o i = M.2.1 k o i := fun k i a b => fr.2 k o i (fun q => q.2.elim a b)
  exact ⟨by rw [fr.1]; exact h1, ⟨by rw [(e 1 0 (by omega) (by omega)).1]; exact h2, by rw [(e 1 5 (by omega) (by omega)).1]; exact h3, by rw [(e 1 13 (by omega) (by omega)).1]; exact h4⟩, ⟨⟨fun i w hi => by rw [(e 20 i (by omega) (by omega)).2]; exact h5.1 i w hi, h5.2⟩, ⟨fun i w hi => by rw [(e 24 i (by omega) (by omega)).2]; exact h6.1 i w hi, h6.2⟩, ⟨fun i w hi => by rw [(e 30 i (by omega) (by omega)).2]; exact h7.1 i w hi, h7.2⟩⟩, fun i v hi => by rw [(e 21 i (by omega) (by omega)).1, (e 22 i (by omega) (by omega)).1]; exact h8 i v hi, fun i hi x hx => by rw [(e 23 i (by omega) (by omega)).1]; exact h9 i hi x hx, fun i v hi => ⟨by rw [(e 25 i (by omega) (by omega)).1]; exact (h10 i v hi).1, by rw [(e 26 i (by omega) (by omega)).1]; exact (h10 i v hi).2.1, by rw [(e 27 i (by omega) (by omega)).1]; exact (h10 i v hi).2.2.1, (c i (List.getElem?_eq_some_iff.mp hi).1).1, (c i (List.getElem?_eq_some_iff.mp hi).1).2⟩, fun x hx => by rw [(e 1 12 (by omega) (by omega)).1]; exact h11 x hx, fun i v hi => by rw [(e 31 i (by omega) (by omega)).1, (e 32 i (by omega) (by omega)).1, (e 33 i (by omega) (by omega)).1, (e 34 i (by omega) (by omega)).1]; exact h12 i v hi, ⟨by rw [(e 3 0 (by omega) (by omega)).1]; exact h13, by rw [(e 3 1 (by omega) (by omega)).1]; exact h14⟩, by rw [(e 3 2 (by omega) (by omega)).1]; exact h15, ⟨by rw [(e 3 4 (by omega) (by omega)).1]; exact h16, h17, fun i v hi => by rw [(e 35 i (by omega) (by omega)).1]; exact h18 i v hi⟩, fun i hi => by rw [(e 38 i (by omega) (by omega)).1]; exact h19 i hi⟩
theorem DCc_lk {o : Nat} {D : dft} {M : mm} (h : DCc o D M) {i : Nat} (hi : i < (dO D).length) : M.1 28 o i = dL D i ∧ M.1 29 o i = dK D i := by
  have := h.2.2.2.2.2.1 i _ (List.getElem?_eq_getElem hi)
  exact ⟨this.2.2.2.1, this.2.2.2.2⟩
theorem readLean_ok {F : Nat} (hF : 2000 < F) {T : List Int32} {p o : Nat} {D : dft} {M : mm} (h : AtC T p M) (hD : DCK o D M) : ok (m_X5_readLean F M) (QR T (DCK o) (PRd o) M (spLean T D p)) := by
  obtain ⟨hc, hk⟩ := hD
  have hP := @PRd_6 o
  obtain ⟨l1, l2, l3⟩ := len_n D
  obtain ⟨⟨n1, n2, n3⟩, k2, k3, k4, k5, k6, k7⟩ := id hk
  unfold m_X5_readLean spLean
  rw [ok_cv]
  refine ok_mono (AtC_next hF h) (fun M1 h1 => ?_)
  obtain ⟨a1, f1⟩ := h1
  have f1 : fi PT6 M M1 := fi_mono f1 (fun k n i q => Or.inl q)
  have c1 := DCc_6 hc f1
  rw [c1.1, c1.2.1.2.1, ← l2]
  refine kn24_ok hF hP a1 (fi_mono f1 hP) c1.2.2.1.2.1 (by omega) (fun a ha M2 a2 f2 v2 => ok_tt ?_) (fun M' => if_neg (by decide))
  have la := fnd_lt ha
  have c2 := DCc_6 c1 f2
  have fr2 := fi_tr f1 f2
  have hina : vp_in (nI a) 10 := vp_in_nI (by omega) (by decide)
  rw [ok_nm, v2, ok_gi, nI_clamp (by omega), c2.1, (DCc_lk c2 (show a < (dO D).length by omega)).1, ok_ite]
  refine ⟨hina, fun q => ?_, fun q => ?_⟩
  · rw [if_neg (fun q2 => q2 q), ok_cv]
    refine ok_mono (AtC_next hF a2) (fun M5 h5 => ?_)
    obtain ⟨a5, f5⟩ := h5
    have f5 : fi PT6 M2 M5 := fi_mono f5 (fun k n i q => Or.inl q)
    have c5 := DCc_6 c2 f5
    have fr5 := fi_tr fr2 f5
    rw [c5.1, c5.2.1.2.1, ← l2]
    refine kn24_ok hF hP a5 (fi_mono fr5 hP) c5.2.2.1.2.1 (by omega) (fun b hb M6 a6 f6 v6 => ok_tt ?_) (fun M' => if_neg (by decide))
    have lb := fnd_lt hb
    have c6 := DCc_6 c5 f6
    have fr6 := fi_tr fr5 f6
    have hinb : vp_in (nI b) 10 := vp_in_nI (by omega) (by decide)
    rw [ok_nm, v6]
    refine ok_jn (P := b = a ∨ dL D b ≠ -1) (fun hb => ?_) (fun j hj => ?_)
    · rw [if_pos hb]
      show ok (cb (m_X5_wrong F (3 : Int32) M6) _) _
      rw [ok_cb]
      exact ok_mono (wrong_ok (k := 3) a6) (fun r hr => ok_some.mpr (QR_bad (fi_mono fr6 hP) hP hr))
    · rw [ok_ite, nI_eq (by omega) (by omega)]
      refine ⟨fun q2 => hj (Or.inl q2), fun q2 => ?_⟩
      rw [ok_gi, nI_clamp (by omega), c6.1, (DCc_lk c6 (show b < (dO D).length by omega)).1, ok_ite]
      refine ⟨hinb, fun q3 => ?_, fun q3 => hj (Or.inr q3)⟩
      rw [if_neg (fun q4 => q4.elim q2 (fun q5 => q5 q3)), ok_cv]
      refine ok_mono (AtC_next hF a6) (fun M9 h9 => ?_)
      obtain ⟨a9, f9⟩ := h9
      have f9 : fi PT6 M6 M9 := fi_mono f9 (fun k n i q => Or.inl q)
      have c9 := DCc_6 c6 f9
      have fr9 := fi_tr fr6 f9
      rw [ok_gi, ok_nm, ok_gi, ok_nm]
      simp only [rIR, c9.1]
      refine ⟨hina, hinb, ?_⟩
      have f11 : fi (fun k n i => n = o ∧ (k = 28 ∨ k = 29)) M9 (sI (sI M9 28 o a (nI b)) 28 o b (nI a)) := fi_sI (fi_sI fi_rf ⟨rfl, Or.inl rfl⟩) ⟨rfl, Or.inl rfl⟩
      have c11 : DCc o (dP D, dO D, (fun x => if x = b then nI a else if x = a then nI b else dL D x, dK D), D.2.2.2) (sI (sI M9 28 o a (nI b)) 28 o b (nI a)) := DCc_LK c9 f11 (fun i hi => ⟨by
        rw [rII]
        by_cases e1 : i = b
        · rw [if_pos ⟨rfl, rfl, e1⟩, if_pos e1]
        · rw [if_neg (fun q => e1 q.2.2), if_neg e1, rII]
          by_cases e2 : i = a
          · rw [if_pos ⟨rfl, rfl, e2⟩, if_pos e2]
          · rw [if_neg (fun q => e2 q.2.2), if_neg e2]; exact (DCc_lk c9 hi).1, by
        rw [rII, if_neg (by omega), rII, if_neg (by omega)]; exact (DCc_lk c9 hi).2⟩)
      generalize sI (sI M9 28 o a (nI b)) 28 o b (nI a) = M11 at f11 c11 ⊢
      have fr11 : fi (PRd o) M M11 := fi_tr (fi_mono fr9 hP) (fi_mono f11 (fun k n i q => Or.inr (Or.inl (by omega))))
      refine te_ok hF hP (AtC_6 a9 f11 (fun k n i q => by omega)) fr11 (fun M12 a12 f12 => ok_some.mpr ?_) (fun M' => rfl)
      refine ⟨fi_tr fr11 (fi_mono f12 (fun k n i q => hP k n i (P7_6 k n i q))), rfl, a12, DCc_6 c11 (fi_mono f12 P7_6), ⟨⟨n1, n2, n3⟩, k2, k3, fun x hx => ?_, k5, k6, k7⟩⟩
      refine ⟨?_, (k4 x hx).2⟩
      show (if x = b then nI a else if x = a then nI b else dL D x) = -1 ∨ ∃ y, y < (dO D).length ∧ (if x = b then nI a else if x = a then nI b else dL D x) = nI y
      by_cases e1 : x = b
      · rw [if_pos e1]; exact Or.inr ⟨a, by omega, rfl⟩
      · rw [if_neg e1]
        by_cases e2 : x = a
        · rw [if_pos e2]; exact Or.inr ⟨b, by omega, rfl⟩
        · rw [if_neg e2]; exact (k4 x hx).1
  · rw [if_pos q, ok_cb]
    exact ok_mono (wrong_ok (k := 3) a2) (fun r hr => ok_some.mpr (QR_bad (fi_mono fr2 hP) hP hr))
theorem readClash_ok {F : Nat} (hF : 2000 < F) {T : List Int32} {p o : Nat} {D : dft} {M : mm} (h : AtC T p M) (hD : DCK o D M) : ok (m_X5_readClash F M) (QR T (DCK o) (PRd o) M (spClash T D p)) := by
  obtain ⟨hc, hk⟩ := hD
  have hP := @PRd_6 o
  obtain ⟨l1, l2, l3⟩ := len_n D
  obtain ⟨⟨n1, n2, n3⟩, k2, k3, k4, k5, k6, k7⟩ := id hk
  unfold m_X5_readClash spClash
  rw [ok_cv]
  refine ok_mono (AtC_next hF h) (fun M1 h1 => ?_)
  obtain ⟨a1, f1⟩ := h1
  have f1 : fi PT6 M M1 := fi_mono f1 (fun k n i q => Or.inl q)
  have c1 := DCc_6 hc f1
  rw [c1.1, c1.2.1.2.1, ← l2]
  refine kn24_ok hF hP a1 (fi_mono f1 hP) c1.2.2.1.2.1 (by omega) (fun a ha M2 a2 f2 v2 => ok_tt ?_) (fun M' => if_neg (by decide))
  have la := fnd_lt ha
  have c2 := DCc_6 c1 f2
  have fr2 := fi_tr f1 f2
  have hina : vp_in (nI a) 10 := vp_in_nI (by omega) (by decide)
  rw [ok_nm, v2, ok_cv]
  refine ok_mono (AtC_next hF a2) (fun M5 h5 => ?_)
  obtain ⟨a5, f5⟩ := h5
  have f5 : fi PT6 M2 M5 := fi_mono f5 (fun k n i q => Or.inl q)
  have c5 := DCc_6 c2 f5
  have fr5 := fi_tr fr2 f5
  rw [c5.1, c5.2.1.2.1, ← l2]
  refine kn24_ok hF hP a5 (fi_mono fr5 hP) c5.2.2.1.2.1 (by omega) (fun b hb M6 a6 f6 v6 => ok_tt ?_) (fun M' => if_neg (by decide))
  have lb := fnd_lt hb
  have c6 := DCc_6 c5 f6
  have fr6 := fi_tr fr5 f6
  have hinb : vp_in (nI b) 10 := vp_in_nI (by omega) (by decide)
  rw [ok_nm, v6]
  refine ok_jn (P := b = a ∨ bt (dK D a) b = true) (fun hb => ?_) (fun j hj => ?_)
  · rw [if_pos hb]
    show ok (cb (m_X5_wrong F (3 : Int32) M6) _) _
    rw [ok_cb]
    exact ok_mono (wrong_ok (k := 3) a6) (fun r hr => ok_some.mpr (QR_bad (fi_mono fr6 hP) hP hr))
  · rw [ok_ite, nI_eq (by omega) (by omega)]
    refine ⟨fun q2 => hj (Or.inl q2), fun q2 => ?_⟩
    rw [ok_gi, nI_clamp (by omega), c6.1, (DCc_lk c6 (show a < (dO D).length by omega)).2, ok_ite, b_bit0 _ (show b < 32 by omega)]
    refine ⟨hina, fun q3 => ?_, fun q3 => hj (Or.inr (by simpa using q3))⟩
    rw [if_neg (fun q4 => q4.elim q2 (fun q5 => by rw [q3] at q5; cases q5)), ok_cv]
    refine ok_mono (AtC_next hF a6) (fun M9 h9 => ?_)
    obtain ⟨a9, f9⟩ := h9
    have f9 : fi PT6 M6 M9 := fi_mono f9 (fun k n i q => Or.inl q)
    have c9 := DCc_6 c6 f9
    have fr9 := fi_tr fr6 f9
    rw [ok_gi, ok_gi, ok_nm, ok_gi, ok_gi, ok_nm]
    simp only [rIR, c9.1, nI_clamp (show b < 2 ^ 31 by omega), (DCc_lk c9 (show a < (dO D).length by omega)).2]
    refine ⟨hina, hina, hinb, hinb, ?_⟩
    have eb : (sI M9 29 o a (dK D a ||| ((1 : Int32) <<< (nI b &&& 31)))).1 29 o b = dK D b := by
      rw [rII, if_neg (by omega)]; exact (DCc_lk c9 (by omega)).2
    rw [eb]
    have f11 : fi (fun k n i => n = o ∧ (k = 28 ∨ k = 29)) M9 (sI (sI M9 29 o a (dK D a ||| ((1 : Int32) <<< (nI b &&& 31)))) 29 o b (dK D b ||| ((1 : Int32) <<< (nI a &&& 31)))) := fi_sI (fi_sI fi_rf ⟨rfl, Or.inr rfl⟩) ⟨rfl, Or.inr rfl⟩
    have c11 : DCc o (dP D, dO D, (dL D, fun x => if x = b then dK D b ||| bitI (nI a) else if x = a then dK D a ||| bitI (nI b) else dK D x), D.2.2.2) (sI (sI M9 29 o a (dK D a ||| ((1 : Int32) <<< (nI b &&& 31)))) 29 o b (dK D b ||| ((1 : Int32) <<< (nI a &&& 31)))) := DCc_LK c9 f11 (fun i hi => ⟨by
      rw [rII, if_neg (by omega), rII, if_neg (by omega)]; exact (DCc_lk c9 hi).1, by
      rw [rII]
      by_cases e1 : i = b
      · rw [if_pos ⟨rfl, rfl, e1⟩, if_pos e1]; rfl
      · rw [if_neg (fun q => e1 q.2.2), if_neg e1, rII]
        by_cases e2 : i = a
        · rw [if_pos ⟨rfl, rfl, e2⟩, if_pos e2]; rfl
        · rw [if_neg (fun q => e2 q.2.2), if_neg e2]; exact (DCc_lk c9 hi).2⟩)
    generalize sI (sI M9 29 o a (dK D a ||| ((1 : Int32) <<< (nI b &&& 31)))) 29 o b (dK D b ||| ((1 : Int32) <<< (nI a &&& 31))) = M11 at f11 c11 ⊢
    have fr11 : fi (PRd o) M M11 := fi_tr (fi_mono fr9 hP) (fi_mono f11 (fun k n i q => Or.inr (Or.inl (by omega))))
    refine te_ok hF hP (AtC_6 a9 f11 (fun k n i q => by omega)) fr11 (fun M12 a12 f12 => ok_some.mpr ?_) (fun M' => rfl)
    refine ⟨fi_tr fr11 (fi_mono f12 (fun k n i q => hP k n i (P7_6 k n i q))), rfl, a12, DCc_6 c11 (fi_mono f12 P7_6), ⟨⟨n1, n2, n3⟩, k2, k3, fun x hx => ?_, k5, k6, k7⟩⟩
    refine ⟨(k4 x hx).1, fun y hy => ?_⟩
    show bt (if x = b then dK D b ||| bitI (nI a) else if x = a then dK D a ||| bitI (nI b) else dK D x) y = true → y < (dO D).length
    by_cases e1 : x = b
    · rw [if_pos e1, b_or, Bool.or_eq_true, bitI_b (by omega) hy, decide_eq_true_iff]
      exact fun r => r.elim (fun r => (k4 b (by omega)).2 y hy r) (fun r => by omega)
    · rw [if_neg e1]
      by_cases e2 : x = a
      · rw [if_pos e2, b_or, Bool.or_eq_true, bitI_b (by omega) hy, decide_eq_true_iff]
        exact fun r => r.elim (fun r => (k4 a (by omega)).2 y hy r) (fun r => by omega)
      · rw [if_neg e2]; exact (k4 x hx).2 y hy
