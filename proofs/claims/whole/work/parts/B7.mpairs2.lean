/-! the reference reads a pair: the readers -/
theorem readsLean_ok {F : Nat} (hF : 2000 < F) {T : List Int32} {p : Nat} {D : dft} {M : mm} (h : AtM T p M) (hD : DMK D M) : ok (m_X12_readsPair F (1 : Int32) M) (QRM T DMK PRm M (spLean T D p)) := by
  obtain ⟨hc, hk, hy⟩ := hD
  have hP := PRm_6
  obtain ⟨l1, l2, l3⟩ := len_n D
  obtain ⟨⟨n1, n2, n3⟩, -⟩ := id hk
  have ea : ∀ n, (10 : Int32) + nI n = nI (10 + n) := fun n => nI_add 10 n
  have t10 : (10 : Int32).toNatClampNeg = 10 := rfl
  have bad : ∀ (M' : mm) (q : Nat) (S : res), AtM T q M' → fi PRm M M' → S = .inl (3, q) → ok (cb (m_X12_fails F (3 : Int32) M') fun b M'' => some (b, M'')) (QRM T DMK PRm M S) := fun M' q S ha f e => by
    refine ok_mono (badM (k := 3) ha (S := S) e) (fun r hr => ?_)
    obtain ⟨b1, b2, k, q', b3, b4⟩ := hr
    rw [b4]; exact ⟨fi_tr f (fi_mono b2 hP), b1, b3⟩
  unfold m_X12_readsPair spLean
  rw [ok_cv]
  refine ok_mono (AtM_next hF h) (fun M1 h1 => ?_)
  obtain ⟨a1, f1⟩ := h1
  have f1 : fi PM6 M M1 := fi_mono f1 P13_6
  have c1 := DMm_6 hc f1
  refine contM hP (fi_mono f1 hP) (needsOath_ok (r := 1) hF a1 (by omega) (c1.1.2.1.trans (by rw [l2])) c1.2.2.1.2.1 (by omega)) (fun _ M2 g2 => ?_) (fun M' => if_neg (by decide))
  dsimp only at g2
  obtain ⟨a2, f2, a, ha, v2, hS2⟩ := g2
  rw [hS2]
  refine ok_tt ?_
  have c2 := DMm_6 c1 f2
  have fr2 := fi_mono (fi_tr f1 f2) hP
  have la := fnd_lt ha
  have la' : a < (dO D).length := by omega
  have hina : vp_in (nI (10 + a)) 20 := vp_in_nI (by omega) (by decide)
  rw [ok_nm, ok_nm, v2, ea, ok_ite]
  refine ⟨fun q => absurd q (by decide), fun _ => ?_⟩
  rw [ok_gi, nI_clamp (by omega), (DMm_lk c2 la').1, ok_ite, dl_neg hk la']
  refine ⟨hina, fun q => ?_, fun q => ?_⟩
  · rw [if_neg (fun q2 => q2 q)]
    show ok (cv (m_X12_nextToken F M2) _) _
    rw [ok_cv]
    refine ok_mono (AtM_next hF a2) (fun M7 h7 => ?_)
    obtain ⟨a7, f7⟩ := h7
    have f7 : fi PM6 M2 M7 := fi_mono f7 P13_6
    have c7 := DMm_6 c2 f7
    have fr7 := fi_tr fr2 (fi_mono f7 hP)
    refine contM hP fr7 (needsOath_ok (r := 1) hF a7 (by omega) (c7.1.2.1.trans (by rw [l2])) c7.2.2.1.2.1 (by omega)) (fun _ M8 g8 => ?_) (fun M' => if_neg (by decide))
    dsimp only at g8
    obtain ⟨a8, f8, b, hb, v8, hS8⟩ := g8
    rw [hS8]
    refine ok_tt ?_
    have c8 := DMm_6 c7 f8
    have fr8 := fi_tr fr7 (fi_mono f8 hP)
    have lb := fnd_lt hb
    have lb' : b < (dO D).length := by omega
    have hinb : vp_in (nI (10 + b)) 20 := vp_in_nI (by omega) (by decide)
    rw [ok_nm, ok_nm, v8, ea, ok_ite, nI_eq (by omega) (by omega)]
    refine ⟨fun q2 => bad M8 _ _ a8 fr8 (if_pos (Or.inl q2.symm)), fun q2 => ?_⟩
    rw [ok_nm, ok_ite]
    refine ⟨fun q3 => absurd q3 (by decide), fun _ => ?_⟩
    rw [ok_gi, nI_clamp (by omega), (DMm_lk c8 lb').1, ok_ite, dl_neg hk lb']
    refine ⟨hinb, fun q3 => ?_, fun q3 => bad M8 _ _ a8 fr8 (if_pos (Or.inr q3))⟩
    have nq : ¬ (b = a ∨ dL D b ≠ -1) := fun q4 => q4.elim (fun e => q2 e.symm) (fun e => e q3)
    rw [if_neg nq]
    show ok (cv (m_X12_nextToken F M8) _) _
    rw [ok_cv]
    refine ok_mono (AtM_next hF a8) (fun M11 h11 => ?_)
    obtain ⟨a11, f11⟩ := h11
    have f11 : fi PM6 M8 M11 := fi_mono f11 P13_6
    have c11 := DMm_6 c8 f11
    have fr11 := fi_tr fr8 (fi_mono f11 hP)
    rw [ok_bd, ok_ite]
    refine ⟨fun q4 => absurd q4 (by decide), fun _ => ?_⟩
    rw [ok_gi, ok_nm, ok_gi, ok_nm, ok_gi, ok_gi, ok_nm, ok_some, t10]
    refine ⟨hina, hinb, vp_of (by decide), vp_of (by decide), ?_⟩
    have e10 : (sI (sI M11 73 0 (10 + a) (nI b)) 73 0 (10 + b) (nI a)).1 64 0 10 = nI (leansD D) := by rw [rII, if_neg (by omega), rII, if_neg (by omega)]; exact c11.2.1.2.1
    rw [e10, nI_1]
    have f17 : fi (fun k _ i => (k = 64 ∧ (i = 10 ∨ i = 11)) ∨ ((k = 73 ∨ k = 74) ∧ 10 ≤ i)) M11 (sI (sI (sI M11 73 0 (10 + a) (nI b)) 73 0 (10 + b) (nI a)) 64 0 10 (nI (leansD D + 1))) := fi_sI (fi_sI (fi_sI fi_rf (Or.inr ⟨Or.inl rfl, by omega⟩)) (Or.inr ⟨Or.inl rfl, by omega⟩)) (Or.inl ⟨rfl, Or.inl rfl⟩)
    have c17 : DMm (dP D, dO D, (fun x => if x = b then nI a else if x = a then nI b else dL D x, dK D), D.2.2.2) (sI (sI (sI M11 73 0 (10 + a) (nI b)) 73 0 (10 + b) (nI a)) 64 0 10 (nI (leansD D + 1))) := DMm_LK c11 f17 (fun i hi => ⟨by
      rw [rII, if_neg (by omega), rII]
      by_cases e1 : i = b
      · rw [if_pos ⟨rfl, rfl, by omega⟩, if_pos e1]
      · rw [if_neg (fun q => e1 (by omega)), if_neg e1, rII]
        by_cases e2 : i = a
        · rw [if_pos ⟨rfl, rfl, by omega⟩, if_pos e2]
        · rw [if_neg (fun q => e2 (by omega)), if_neg e2]; exact (DMm_lk c11 hi).1, by
      rw [rII, if_neg (by omega), rII, if_neg (by omega), rII, if_neg (by omega)]; exact (DMm_lk c11 hi).2⟩) (by
      rw [rII, if_pos ⟨rfl, rfl, rfl⟩, leans_L n2 la' lb' (fun e => q2 e.symm) q q3]) (by
      rw [rII, if_neg (by omega), rII, if_neg (by omega), rII, if_neg (by omega)]; exact c11.2.1.2.2)
    generalize sI (sI (sI M11 73 0 (10 + a) (nI b)) 73 0 (10 + b) (nI a)) 64 0 10 (nI (leansD D + 1)) = M17 at f17 c17 ⊢
    have fr17 : fi PRm M M17 := fi_tr fr11 (fi_mono f17 (fun k n i q => q.elim (fun q => PRm_a q.1 (by omega)) (fun q => PRm_c (Or.inr (by omega)) q.2)))
    refine contM hP fr17 (closes_ok hF (AtM_6 a11 f17 (fun k n i q => by omega))) (fun _ M18 g18 => ?_) (fun M' => rfl)
    dsimp only at g18
    obtain ⟨a18, f18, hS18⟩ := g18
    rw [hS18]
    exact ok_some.mpr ⟨fi_tr fr17 (fi_mono f18 (fun k n i q => hP k n i (P13_6 k n i q))), rfl, a18, DMm_6 c17 (fi_mono f18 P13_6), DOK_L hk la' lb' rfl, hy⟩
  · exact bad M2 _ _ a2 fr2 (if_pos q)
theorem readsClash_ok {F : Nat} (hF : 2000 < F) {T : List Int32} {p : Nat} {D : dft} {M : mm} (h : AtM T p M) (hD : DMK D M) : ok (m_X12_readsPair F (0 : Int32) M) (QRM T DMK PRm M (spClash T D p)) := by
  obtain ⟨hc, hk, hy⟩ := hD
  have hP := PRm_6
  obtain ⟨l1, l2, l3⟩ := len_n D
  obtain ⟨⟨n1, n2, n3⟩, -⟩ := id hk
  have ea : ∀ n, (10 : Int32) + nI n = nI (10 + n) := fun n => nI_add 10 n
  have t11 : (11 : Int32).toNatClampNeg = 11 := rfl
  have bad : ∀ (M' : mm) (q : Nat) (S : res), AtM T q M' → fi PRm M M' → S = .inl (3, q) → ok (cb (m_X12_fails F (3 : Int32) M') fun b M'' => some (b, M'')) (QRM T DMK PRm M S) := fun M' q S ha f e => by
    refine ok_mono (badM (k := 3) ha (S := S) e) (fun r hr => ?_)
    obtain ⟨b1, b2, k, q', b3, b4⟩ := hr
    rw [b4]; exact ⟨fi_tr f (fi_mono b2 hP), b1, b3⟩
  unfold m_X12_readsPair spClash
  rw [ok_cv]
  refine ok_mono (AtM_next hF h) (fun M1 h1 => ?_)
  obtain ⟨a1, f1⟩ := h1
  have f1 : fi PM6 M M1 := fi_mono f1 P13_6
  have c1 := DMm_6 hc f1
  refine contM hP (fi_mono f1 hP) (needsOath_ok (r := 1) hF a1 (by omega) (c1.1.2.1.trans (by rw [l2])) c1.2.2.1.2.1 (by omega)) (fun _ M2 g2 => ?_) (fun M' => if_neg (by decide))
  dsimp only at g2
  obtain ⟨a2, f2, a, ha, v2, hS2⟩ := g2
  rw [hS2]
  refine ok_tt ?_
  have c2 := DMm_6 c1 f2
  have fr2 := fi_mono (fi_tr f1 f2) hP
  have la := fnd_lt ha
  have la' : a < (dO D).length := by omega
  have hina : vp_in (nI (10 + a)) 20 := vp_in_nI (by omega) (by decide)
  rw [ok_nm, ok_nm, v2, ok_ite]
  refine ⟨fun _ => ?_, fun q => absurd rfl q⟩
  show ok (cv (m_X12_nextToken F M2) _) _
  rw [ok_cv]
  refine ok_mono (AtM_next hF a2) (fun M7 h7 => ?_)
  obtain ⟨a7, f7⟩ := h7
  have f7 : fi PM6 M2 M7 := fi_mono f7 P13_6
  have c7 := DMm_6 c2 f7
  have fr7 := fi_tr fr2 (fi_mono f7 hP)
  refine contM hP fr7 (needsOath_ok (r := 1) hF a7 (by omega) (c7.1.2.1.trans (by rw [l2])) c7.2.2.1.2.1 (by omega)) (fun _ M8 g8 => ?_) (fun M' => if_neg (by decide))
  dsimp only at g8
  obtain ⟨a8, f8, b, hb, v8, hS8⟩ := g8
  rw [hS8]
  refine ok_tt ?_
  have c8 := DMm_6 c7 f8
  have fr8 := fi_tr fr7 (fi_mono f8 hP)
  have lb := fnd_lt hb
  have lb' : b < (dO D).length := by omega
  have hinb : vp_in (nI (10 + b)) 20 := vp_in_nI (by omega) (by decide)
  rw [ok_nm, ok_nm, v8, ok_ite, nI_eq (by omega) (by omega)]
  refine ⟨fun q2 => bad M8 _ _ a8 fr8 (if_pos (Or.inl q2.symm)), fun q2 => ?_⟩
  rw [ok_nm, ok_ite]
  refine ⟨fun _ => ?_, fun q3 => absurd rfl q3⟩
  rw [ea, ok_gi, nI_clamp (by omega), (DMm_lk c8 la').2, ok_ite, b_bit1 _ (show b < 32 by omega)]
  refine ⟨hina, fun q3 => bad M8 _ _ a8 fr8 (if_pos (Or.inr q3)), fun q3 => ?_⟩
  have nq : ¬ (b = a ∨ bt (dK D a) b = true) := fun q4 => q4.elim (fun e => q2 e.symm) q3
  rw [if_neg nq]
  show ok (cv (m_X12_nextToken F M8) _) _
  rw [ok_cv]
  refine ok_mono (AtM_next hF a8) (fun M11 h11 => ?_)
  obtain ⟨a11, f11⟩ := h11
  have f11 : fi PM6 M8 M11 := fi_mono f11 P13_6
  have c11 := DMm_6 c8 f11
  have fr11 := fi_tr fr8 (fi_mono f11 hP)
  have q3a : bt (dK D a) b = false := by simpa using q3
  have q3b : bt (dK D b) a = false := by rw [hy b a lb' la']; exact q3a
  rw [ok_bd, ok_ite]
  refine ⟨fun _ => ?_, fun q4 => absurd rfl q4⟩
  rw [ok_gi, ok_gi, ok_nm, ea, ok_gi, ok_gi, ok_nm, ok_gi, ok_gi, ok_nm, ok_some, t11, nI_clamp (show 10 + b < 2 ^ 31 by omega), (DMm_lk c11 la').2]
  have eb : (sI M11 74 0 (10 + a) (dK D a ||| ((1 : Int32) <<< (nI b &&& 31)))).1 74 0 (10 + b) = dK D b := by
    rw [rII, if_neg (by omega)]; exact (DMm_lk c11 lb').2
  rw [eb]
  refine ⟨hina, hina, hinb, hinb, vp_of (by decide), vp_of (by decide), ?_⟩
  have e11 : (sI (sI M11 74 0 (10 + a) (dK D a ||| ((1 : Int32) <<< (nI b &&& 31)))) 74 0 (10 + b) (dK D b ||| ((1 : Int32) <<< (nI a &&& 31)))).1 64 0 11 = nI (clashD D) := by rw [rII, if_neg (by omega), rII, if_neg (by omega)]; exact c11.2.1.2.2
  rw [e11, nI_1]
  have f17 : fi (fun k _ i => (k = 64 ∧ (i = 10 ∨ i = 11)) ∨ ((k = 73 ∨ k = 74) ∧ 10 ≤ i)) M11 (sI (sI (sI M11 74 0 (10 + a) (dK D a ||| ((1 : Int32) <<< (nI b &&& 31)))) 74 0 (10 + b) (dK D b ||| ((1 : Int32) <<< (nI a &&& 31)))) 64 0 11 (nI (clashD D + 1))) := fi_sI (fi_sI (fi_sI fi_rf (Or.inr ⟨Or.inr rfl, by omega⟩)) (Or.inr ⟨Or.inr rfl, by omega⟩)) (Or.inl ⟨rfl, Or.inr rfl⟩)
  have c17 : DMm (dP D, dO D, (dL D, fun x => if x = b then dK D b ||| bitI (nI a) else if x = a then dK D a ||| bitI (nI b) else dK D x), D.2.2.2) (sI (sI (sI M11 74 0 (10 + a) (dK D a ||| ((1 : Int32) <<< (nI b &&& 31)))) 74 0 (10 + b) (dK D b ||| ((1 : Int32) <<< (nI a &&& 31)))) 64 0 11 (nI (clashD D + 1))) := DMm_LK c11 f17 (fun i hi => ⟨by
    rw [rII, if_neg (by omega), rII, if_neg (by omega), rII, if_neg (by omega)]; exact (DMm_lk c11 hi).1, by
    rw [rII, if_neg (by omega), rII]
    by_cases e1 : i = b
    · rw [if_pos ⟨rfl, rfl, by omega⟩, if_pos e1]; rfl
    · rw [if_neg (fun q => e1 (by omega)), if_neg e1, rII]
      by_cases e2 : i = a
      · rw [if_pos ⟨rfl, rfl, by omega⟩, if_pos e2]; rfl
      · rw [if_neg (fun q => e2 (by omega)), if_neg e2]; exact (DMm_lk c11 hi).2⟩) (by
    rw [rII, if_neg (by omega), rII, if_neg (by omega), rII, if_neg (by omega)]; exact c11.2.1.2.1) (by
    rw [rII, if_pos ⟨rfl, rfl, rfl⟩, clash_C n2 la' lb' (fun e => q2 e.symm) q3a q3b])
  generalize sI (sI (sI M11 74 0 (10 + a) (dK D a ||| ((1 : Int32) <<< (nI b &&& 31)))) 74 0 (10 + b) (dK D b ||| ((1 : Int32) <<< (nI a &&& 31)))) 64 0 11 (nI (clashD D + 1)) = M17 at f17 c17 ⊢
  have fr17 : fi PRm M M17 := fi_tr fr11 (fi_mono f17 (fun k n i q => q.elim (fun q => PRm_a q.1 (by omega)) (fun q => PRm_c (Or.inr (by omega)) q.2)))
  refine contM hP fr17 (closes_ok hF (AtM_6 a11 f17 (fun k n i q => by omega))) (fun _ M18 g18 => ?_) (fun M' => rfl)
  dsimp only at g18
  obtain ⟨a18, f18, hS18⟩ := g18
  rw [hS18]
  exact ok_some.mpr ⟨fi_tr fr17 (fi_mono f18 (fun k n i q => hP k n i (P13_6 k n i q))), rfl, a18, DMm_6 c17 (fi_mono f18 P13_6), DOK_K hk la' lb', symK_C hy hk la' lb' (fun e => q2 e.symm)⟩
