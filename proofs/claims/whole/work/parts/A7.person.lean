/-! the class reads a person -/
section NK2
variable {F : Nat} {T : List Int32} {P : Nat → Nat → Nat → Prop} {M0 M : mm} {p o : Nat} {DC : dft → mm → Prop}
theorem kn24_ok (hF : 2000 < F) (hP : ∀ k n i, PT6 k n i → P k n i) (h : AtC T p M) (fr : fi P M0 M) {N : List (List Nat)} (hN : NmC 24 o N M) (hl : N.length ≤ 10) {f : Bool → mm → Option (Bool × mm)} {K : Nat → res} (h1 : ∀ i, fnd N (wdA T p) = some i → ∀ M', AtC T p M' → fi PT6 M M' → M'.1 6 0 6 = nI i → ok (f true M') (QR T DC P M0 (K i))) (h2 : ∀ M', f false M' = some (false, M')) :
    ok (cb (m_X5_seeKnown_24 F o (nI N.length) M) f) (QR T DC P M0 (spKn T N p K)) := by
  rw [ok_cb]
  unfold m_X5_seeKnown_24 spKn
  rw [ok_cb]
  refine ok_mono (isName_ok h) (fun r hr => ?_)
  subst hr
  dsimp only
  rw [ok_ite]
  refine ⟨fun q => ?_, fun q => ?_⟩
  · obtain ⟨hw, h8⟩ := wdA_ok h q
    rw [if_pos q, h8, ok_cl]
    refine ok_mono (find24_ok (by omega) hN (by omega) hw) (fun r hr => ?_)
    subst hr
    dsimp only
    have i1 := fdI_n (N := N) (w := wdA T p) (by omega)
    have f1 : fi (fun k _ i => k = 6 ∧ i = 6) M (sI M 6 0 6 (fdI N (wdA T p))) := fi_sI fi_rf ⟨rfl, rfl⟩
    have v6 : (sI M 6 0 6 (fdI N (wdA T p))).1 6 0 6 = fdI N (wdA T p) := by rw [rII, if_pos ⟨rfl, rfl, rfl⟩]
    rw [ok_nm]
    generalize sI M 6 0 6 (fdI N (wdA T p)) = M5 at f1 v6 ⊢
    have f6 : fi PT6 M M5 := fi_mono f1 (fun k n i q => Or.inr (by omega))
    have hA := AtC_6 h f1 (fun k n i q => by omega)
    rw [v6, ok_ite, i1.1]
    refine ⟨fun q1 => ?_, fun q1 => ?_⟩
    · rw [q1, ok_cb]
      refine ok_mono (wrong_ok (k := 2) hA) (fun r hr => ?_)
      rw [hr.1, ok_ite]
      refine ⟨fun q2 => (by cases q2), fun _ => ok_some.mpr ?_⟩
      dsimp only
      rw [h2]
      exact ok_some.mpr (QR_bad (fi_tr fr (fi_mono f6 hP)) hP (r := (false, r.2)) ⟨rfl, hr.2⟩)
    · cases e : fnd N (wdA T p) with
      | none => exact absurd e q1
      | some i => exact ok_some.mpr (h1 i e M5 hA f6 (by rw [v6]; exact i1.2 i e))
  · rw [if_neg q, ok_cb]
    refine ok_mono (wrong_ok (k := 1) h) (fun r hr => ok_some.mpr ?_)
    dsimp only
    rw [hr.1, h2]
    exact ok_some.mpr (QR_bad fr hP (r := (false, r.2)) ⟨rfl, hr.2⟩)
theorem kn30_ok (hF : 2000 < F) (hP : ∀ k n i, PT6 k n i → P k n i) (h : AtC T p M) (fr : fi P M0 M) {N : List (List Nat)} (hN : NmC 30 o N M) (hl : N.length ≤ 10) {f : Bool → mm → Option (Bool × mm)} {K : Nat → res} (h1 : ∀ i, fnd N (wdA T p) = some i → ∀ M', AtC T p M' → fi PT6 M M' → M'.1 6 0 6 = nI i → ok (f true M') (QR T DC P M0 (K i))) (h2 : ∀ M', f false M' = some (false, M')) :
    ok (cb (m_X5_seeKnown_30 F o (nI N.length) M) f) (QR T DC P M0 (spKn T N p K)) := by
  rw [ok_cb]
  unfold m_X5_seeKnown_30 spKn
  rw [ok_cb]
  refine ok_mono (isName_ok h) (fun r hr => ?_)
  subst hr
  dsimp only
  rw [ok_ite]
  refine ⟨fun q => ?_, fun q => ?_⟩
  · obtain ⟨hw, h8⟩ := wdA_ok h q
    rw [if_pos q, h8, ok_cl]
    refine ok_mono (find30_ok (by omega) hN (by omega) hw) (fun r hr => ?_)
    subst hr
    dsimp only
    have i1 := fdI_n (N := N) (w := wdA T p) (by omega)
    have f1 : fi (fun k _ i => k = 6 ∧ i = 6) M (sI M 6 0 6 (fdI N (wdA T p))) := fi_sI fi_rf ⟨rfl, rfl⟩
    have v6 : (sI M 6 0 6 (fdI N (wdA T p))).1 6 0 6 = fdI N (wdA T p) := by rw [rII, if_pos ⟨rfl, rfl, rfl⟩]
    rw [ok_nm]
    generalize sI M 6 0 6 (fdI N (wdA T p)) = M5 at f1 v6 ⊢
    have f6 : fi PT6 M M5 := fi_mono f1 (fun k n i q => Or.inr (by omega))
    have hA := AtC_6 h f1 (fun k n i q => by omega)
    rw [v6, ok_ite, i1.1]
    refine ⟨fun q1 => ?_, fun q1 => ?_⟩
    · rw [q1, ok_cb]
      refine ok_mono (wrong_ok (k := 2) hA) (fun r hr => ?_)
      rw [hr.1, ok_ite]
      refine ⟨fun q2 => (by cases q2), fun _ => ok_some.mpr ?_⟩
      dsimp only
      rw [h2]
      exact ok_some.mpr (QR_bad (fi_tr fr (fi_mono f6 hP)) hP (r := (false, r.2)) ⟨rfl, hr.2⟩)
    · cases e : fnd N (wdA T p) with
      | none => exact absurd e q1
      | some i => exact ok_some.mpr (h1 i e M5 hA f6 (by rw [v6]; exact i1.2 i e))
  · rw [if_neg q, ok_cb]
    refine ok_mono (wrong_ok (k := 1) h) (fun r hr => ok_some.mpr ?_)
    dsimp only
    rw [hr.1, h2]
    exact ok_some.mpr (QR_bad fr hP (r := (false, r.2)) ⟨rfl, hr.2⟩)
end NK2
theorem ok_tt {α : Type} {a b : Option α} {Q : α → Prop} (h : ok a Q) : ok (if true = true then a else b) Q := by rw [if_pos rfl]; exact h
theorem P7_6 : ∀ k n i, P7 k n i → PT6 k n i := fun _ _ _ q => Or.inl q
def PRd (o : Nat) : Nat → Nat → Nat → Prop := fun k n i => PT6 k n i ∨ (n = o ∧ (k = 1 ∨ k = 3 ∨ (20 ≤ k ∧ k ≤ 38))) ∨ k = 4 ∨ k = 39
theorem PRd_6 {o : Nat} : ∀ k n i, PT6 k n i → PRd o k n i := fun _ _ _ q => Or.inl q
theorem get_snoc {α : Type} {L : List α} {x y : α} {i : Nat} : (L ++ [x])[i]? = some y ↔ L[i]? = some y ∨ (i = L.length ∧ y = x) := by
  constructor
  · intro h
    rcases getq_snoc h with ⟨a, b⟩ | ⟨a, b⟩
    · exact Or.inl b
    · exact Or.inr ⟨a, b⟩
  · rintro (h | ⟨a, b⟩)
    · rw [List.getElem?_append_left (List.getElem?_eq_some_iff.mp h).1]; exact h
    · rw [a, b, List.getElem?_append_right (Nat.le_refl _), Nat.sub_self]; rfl
theorem NmC_add {k o : Nat} {N : List (List Nat)} {w : List Nat} {M M' : mm} (h : NmC k o N M) (e : ∀ i, i < N.length → M'.2.1 k o i = M.2.1 k o i) (en : M'.2.1 k o N.length = lN (pv 32 w)) (hw : WdOk w) : NmC k o (N ++ [w]) M' := by
  refine ⟨fun i v hi => ?_, fun v hv => ?_⟩
  · rcases get_snoc.mp hi with q | ⟨q, q2⟩
    · rw [e i (List.getElem?_eq_some_iff.mp q).1]; exact h.1 i v q
    · rw [q, q2]; exact en
  · rcases List.mem_append.mp hv with q | q
    · exact h.2 v q
    · rw [List.mem_singleton.mp q]; exact hw
theorem DCc_addP {o : Nat} {D : dft} {M M' : mm} {w : List Nat} {f t : Int32} (h : DCc o D M) (fr : fi (fun k n i => n = o ∧ ((k = 1 ∧ i = 0) ∨ (20 ≤ k ∧ k ≤ 22 ∧ i = (dP D).length))) M M') (c0 : M'.1 1 o 0 = nI ((dP D).length + 1)) (c20 : M'.2.1 20 o (dP D).length = lN (pv 32 w)) (c21 : M'.1 21 o (dP D).length = f) (c22 : M'.1 22 o (dP D).length = t) (hw : WdOk w) : DCc o (dP D ++ [(w, f, t)], D.2) M' := by
  obtain ⟨h1, ⟨h2, h3, h4⟩, ⟨h5, h6, h7⟩, h8, h9, h10, h11, h12, ⟨h13, h14⟩, h15, ⟨h16, h17, h18⟩, h19⟩ := h
  obtain ⟨l1, l2, l3⟩ := len_n D
  have e : ∀ k i, ¬ (k = 1 ∧ i = 0) → ¬ (20 ≤ k ∧ k ≤ 22 ∧ i = (dP D).length) → M'.1 k o i = M.1 k o i ∧ M'.2.1 k o i = M.2.1 k o i := fun k i a b => fr.2 k o i (fun q => q.2.elim a b)
  have lt : ∀ {α : Type} {L : List α} {i : Nat} {e : α}, L[i]? = some e → i < L.length := fun q => (List.getElem?_eq_some_iff.mp q).1
  have eN : dPn (dP D ++ [(w, f, t)], D.2) = dPn D ++ [w] := by unfold dPn; show ((dP D ++ [(w, f, t)]).map (fun e => e.1)) = _; rw [List.map_append]; rfl
  refine ⟨by rw [fr.1]; exact h1, ⟨?_, by rw [(e 1 5 (by omega) (by omega)).1]; exact h3, by rw [(e 1 13 (by omega) (by omega)).1]; exact h4⟩, ⟨?_, ⟨fun i w hi => by rw [(e 24 i (by omega) (by omega)).2]; exact h6.1 i w hi, h6.2⟩, ⟨fun i w hi => by rw [(e 30 i (by omega) (by omega)).2]; exact h7.1 i w hi, h7.2⟩⟩, fun i v hi => ?_, fun i hi x hx => by rw [(e 23 i (by omega) (by omega)).1]; exact h9 i hi x hx, fun i v hi => ?_, fun x hx => by rw [(e 1 12 (by omega) (by omega)).1]; exact h11 x hx, fun i v hi => ?_, ⟨by rw [(e 3 0 (by omega) (by omega)).1]; exact h13, by rw [(e 3 1 (by omega) (by omega)).1]; exact h14⟩, by rw [(e 3 2 (by omega) (by omega)).1]; exact h15, ⟨by rw [(e 3 4 (by omega) (by omega)).1]; exact h16, h17, fun i v hi => by rw [(e 35 i (by omega) (by omega)).1]; exact h18 i v hi⟩, fun i hi => by rw [(e 38 i (by omega) (by omega)).1]; exact h19 i hi⟩
  · show M'.1 1 o 0 = nI (dP D ++ [(w, f, t)]).length
    rw [List.length_append, List.length_singleton]; exact c0
  · rw [eN]
    exact NmC_add h5 (fun i hi => (e 20 i (by omega) (by omega)).2) (by rw [l1]; exact c20) hw
  · rcases get_snoc.mp (show (dP D ++ [(w, f, t)])[i]? = some v from hi) with q | ⟨q, q2⟩
    · have := lt q
      rw [(e 21 i (by omega) (by omega)).1, (e 22 i (by omega) (by omega)).1]; exact h8 i v q
    · rw [q, q2]; exact ⟨c21, c22⟩
  · have := lt (show (dO D)[i]? = some v from hi)
    rw [(e 25 i (by omega) (by omega)).1, (e 26 i (by omega) (by omega)).1, (e 27 i (by omega) (by omega)).1, (e 28 i (by omega) (by omega)).1, (e 29 i (by omega) (by omega)).1]; exact h10 i v hi
  · rw [(e 31 i (by omega) (by omega)).1, (e 32 i (by omega) (by omega)).1, (e 33 i (by omega) (by omega)).1, (e 34 i (by omega) (by omega)).1]; exact h12 i v hi
theorem readPerson_ok {F : Nat} (hF : 2000 < F) {T : List Int32} {p o : Nat} {D : dft} {M : mm} (h : AtC T p M) (hD : DCK o D M) : ok (m_X5_readPerson F M) (QR T (DCK o) (PRd o) M (spPerson T D p)) := by
  obtain ⟨hc, hk⟩ := hD
  have hP := @PRd_6 o
  have pt := hc.1
  have n0 := hc.2.1.1
  obtain ⟨⟨n1, n2, n3⟩, k2, k3, k4, k5, k6, k7⟩ := id hk
  have e6 : nI (dP D).length < (6 : Int32) ↔ (dP D).length < 6 := (nI_ltI (by omega) (by omega) : nI _ < nI 6 ↔ _)
  unfold m_X5_readPerson spPerson
  rw [ok_nm, pt, n0, ok_ite, e6]
  refine ⟨fun q => ?_, fun q => ?_⟩
  · rw [if_neg (by omega), ok_cv]
    refine ok_mono (AtC_next hF h) (fun M2 h2 => ?_)
    obtain ⟨a2, f2⟩ := h2
    have f2 : fi PT6 M M2 := fi_mono f2 (fun k n i q => Or.inl q)
    have c2 := DCc_6 hc f2
    have hin : vp_in (nI (dP D).length) 6 := vp_in_nI q (by decide)
    rw [ok_nm]
    refine tnew_ok hF hP a2 (fi_mono f2 hP) c2 hk (fun hn nP nO nS M4 a4 f4 => ok_tt ?_) (fun M' => if_neg (by decide))
    obtain ⟨hw, h8⟩ := wdA_ok a2 hn
    have c4 := DCc_6 c2 f4
    refine tw_ok hF hP (i := 1) a4 (fi_mono (fi_tr f2 f4) hP) (by decide) (fun M6 a6 f6 => ok_tt ?_) (fun M' => if_neg (by decide))
    have c6 := DCc_6 c4 f6
    refine tn_ok hF hP a6 (fi_mono (fi_tr f2 (fi_tr f4 f6)) hP) (fun b1 b2 M8 a8 f8 v8 => ok_tt ?_) (fun M' => if_neg (by decide))
    have c8 := DCc_6 c6 f8
    rw [ok_gi, ok_nm, nI_clamp (by omega), c8.1, v8]
    refine ⟨hin, ?_⟩
    have f10 : fi (fun k n i => n = o ∧ k = 21 ∧ i = (dP D).length) M8 (sI M8 21 o (dP D).length (tkA T (tkE T (tkE T (tkE T p)))).2.2) := fi_sI fi_rf ⟨rfl, rfl, rfl⟩
    have v21 : (sI M8 21 o (dP D).length (tkA T (tkE T (tkE T (tkE T p)))).2.2).1 21 o (dP D).length = (tkA T (tkE T (tkE T (tkE T p)))).2.2 := by rw [rII, if_pos ⟨rfl, rfl, rfl⟩]
    generalize sI M8 21 o (dP D).length (tkA T (tkE T (tkE T (tkE T p)))).2.2 = M10 at f10 v21 ⊢
    have a10 := AtC_6 a8 f10 (fun k n i q => by omega)
    have c10 := DCc_fi c8 f10 (fun k i q => by omega)
    have fr10 : fi (PRd o) M M10 := fi_tr (fi_mono (fi_tr f2 (fi_tr f4 (fi_tr f6 f8))) hP) (fi_mono f10 (fun k n i q => Or.inr (Or.inl (by omega))))
    refine tw_ok hF hP (i := 2) a10 fr10 (by decide) (fun M11 a11 f11 => ok_tt ?_) (fun M' => if_neg (by decide))
    have c11 := DCc_6 c10 f11
    refine tn_ok hF hP a11 (fi_tr fr10 (fi_mono f11 hP)) (fun b3 b4 M13 a13 f13 v13 => ok_tt ?_) (fun M' => if_neg (by decide))
    have c13 := DCc_6 c11 f13
    have fr13 := fi_tr fr10 (fi_mono (fi_tr f11 f13) hP)
    refine te_ok hF hP a13 fr13 (fun M15 a15 f15 => ok_tt ?_) (fun M' => if_neg (by decide))
    have c15 := DCc_6 c13 (fi_mono f15 P7_6)
    have fr15 := fi_tr fr13 (fi_mono f15 (fun k n i q => hP k n i (P7_6 k n i q)))
    have w5 : M15.1 6 0 5 = _ := (fi_I f15 (by unfold P7; omega)).trans v13
    have w21 : M15.1 21 o (dP D).length = _ := (fi_I f15 (by unfold P7; omega)).trans ((fi_I f13 (by unfold PT6 P7; omega)).trans ((fi_I f11 (by unfold PT6 P7; omega)).trans v21))
    rw [ok_gi, ok_nm, ok_gi, ok_nm, ok_nm, ok_some]
    simp only [rIR, rLR, c15.1, w5, h8]
    have f19 : fi (fun k n i => n = o ∧ ((k = 1 ∧ i = 0) ∨ (20 ≤ k ∧ k ≤ 22 ∧ i = (dP D).length))) M15 (sI (sL (sI M15 22 o (dP D).length (tkA T (tkE T (tkE T (tkE T (tkE T (tkE T p)))))).2.2) 20 o (dP D).length (lN (pv 32 (wdA T (tkE T p))))) 1 o 0 ((sL (sI M15 22 o (dP D).length (tkA T (tkE T (tkE T (tkE T (tkE T (tkE T p)))))).2.2) 20 o (dP D).length (lN (pv 32 (wdA T (tkE T p))))).1 1 o 0 + 1)) := fi_sI (fi_sL (fi_sI fi_rf ⟨rfl, Or.inr ⟨by decide, by decide, rfl⟩⟩) ⟨rfl, Or.inr ⟨by decide, by decide, rfl⟩⟩) ⟨rfl, Or.inl ⟨rfl, rfl⟩⟩
    refine ⟨hin, hin, fi_tr fr15 (fi_mono f19 (fun k n i q => Or.inr (Or.inl (by omega)))), rfl, AtC_6 a15 f19 (fun k n i q => by omega), DCc_addP c15 f19 ?_ ?_ ?_ ?_ hw, ?_⟩
    · show (sI (sL (sI M15 22 o (dP D).length _) 20 o (dP D).length _) 1 o 0 ((sL (sI M15 22 o (dP D).length _) 20 o (dP D).length _).1 1 o 0 + 1)).1 1 o 0 = _
      rw [rII, if_pos ⟨rfl, rfl, rfl⟩, rLI, rII, if_neg (by omega), c15.2.1.1, nI_1]
    · show (sI (sL (sI M15 22 o (dP D).length _) 20 o (dP D).length _) 1 o 0 _).2.1 20 o (dP D).length = _
      rw [rIL, rLL, if_pos ⟨rfl, rfl, rfl⟩]
    · show (sI (sL (sI M15 22 o (dP D).length _) 20 o (dP D).length _) 1 o 0 _).1 21 o (dP D).length = _
      rw [rII, if_neg (by omega), rLI, rII, if_neg (by omega)]; exact w21
    · show (sI (sL (sI M15 22 o (dP D).length _) 20 o (dP D).length _) 1 o 0 _).1 22 o (dP D).length = _
      rw [rII, if_neg (by omega), rLI, rII, if_pos ⟨rfl, rfl, rfl⟩]
    · have el : (dP D ++ [(wdA T (tkE T p), (tkA T (tkE T (tkE T (tkE T p)))).2.2, (tkA T (tkE T (tkE T (tkE T (tkE T (tkE T p)))))).2.2)]).length = (dP D).length + 1 := by rw [List.length_append, List.length_singleton]
      refine ⟨⟨by show (dP D ++ [_]).length ≤ 6; rw [List.length_append, List.length_singleton]; omega, n2, n3⟩, fun e he => ?_, fun e he => ?_, k4, k5, k6, k7⟩
      · rcases List.mem_append.mp (show e ∈ dP D ++ [_] from he) with q2 | q2
        · exact k2 e q2
        · rw [List.mem_singleton.mp q2]; exact ⟨⟨b1, b2⟩, ⟨b3, b4⟩⟩
      · obtain ⟨x1, x2, x3⟩ := k3 e he
        exact ⟨x1, by show e.2.2.1 < (dP D ++ [_]).length; rw [List.length_append, List.length_singleton]; omega, x3⟩
  · rw [if_pos (by omega), ok_cb]
    refine ok_mono (wrong_ok (k := 5) h) (fun r hr => ok_some.mpr ?_)
    exact QR_bad fi_rf hP hr
