/-! the class reads a stone -/
theorem isNm_lt {T : List Int32} {p : Nat} (hp : p ≤ T.length) (h : isNm T p = true) : p < tkE T p ∧ tkE T p ≤ T.length := by
  unfold isNm at h
  rw [decide_eq_true_iff] at h
  exact tkE_gt hp (by rw [h.1]; decide)
theorem bI_c {b : Bool} : bI b = (0 : Int32) ↔ b = false := by cases b <;> decide
theorem on_ok {F : Nat} (hF : 2000 < F) {T : List Int32} {p o : Nat} {D : dft} {M0 M : mm} {DC : dft → mm → Prop} (h : AtC T p M) (fr : fi (PRd o) M0 M) (hc : DCc o D M) (hk : DOK D) (hs : (dS D).length < 10) (h33 : M.1 33 o (dS D).length = 0) (h34 : M.1 34 o (dS D).length = 0) {f : Bool → mm → Option (Bool × mm)} {K : Nat → Int32 → Int32 → res} (h1 : ∀ q a b M', AtC T q M' → DCc o D M' → fi (fun k n i => PT6 k n i ∨ (n = o ∧ (k = 33 ∨ k = 34) ∧ i = (dS D).length)) M M' → M'.1 33 o (dS D).length = a → M'.1 34 o (dS D).length = b → (∀ x, x < 32 → bt a x = true → x < (dO D).length) → (∀ x, x < 32 → bt b x = true → x < (dS D).length) → ok (f true M') (QR T DC (PRd o) M0 (K q a b))) (h2 : ∀ M', f false M' = some (false, M')) :
    ok (cb (m_X5_readOn F (nI (dS D).length) M) f) (QR T DC (PRd o) M0 (spOn T D (tkE T p) K)) := by
  have hlen := h.2.1.2.2.1
  rw [ok_cb]
  unfold m_X5_readOn spOn
  rw [ok_cv]
  refine ok_mono (AtC_next hF h) (fun M1 h1' => ?_)
  obtain ⟨a1, f1p⟩ := h1'
  have f1 : fi (fun k n i => PT6 k n i ∨ (n = o ∧ (k = 33 ∨ k = 34) ∧ i = (dS D).length)) M M1 := fi_mono f1p (fun k n i q => Or.inl (Or.inl q))
  have c1 : DCc o D M1 := DCc_fi hc f1 (fun k i q => by unfold PT6 P7 at q; omega)
  have hP1 : ∀ k, 33 ≤ k → M1.1 k o (dS D).length = M.1 k o (dS D).length := fun k hk => fi_I f1p (by unfold P7; omega)
  rw [ok_bd]
  have sub : ∀ k n i, (PT6 k n i ∨ (n = o ∧ (k = 33 ∨ k = 34) ∧ i = (dS D).length)) → PRd o k n i := fun k n i q => q.elim Or.inl (fun q => Or.inr (Or.inl (by omega)))
  refine ok_mono (Q := Sum.elim (fun M' => ∃ k q, spOnL T D (T.length + 1) (tkE T p) 0 0 K = .inl (k, q) ∧ M'.1 6 0 4 = nI (k + 16 * tkB T q) ∧ TpR T M' ∧ fi (PRd o) M0 M') (fun M' => ∃ q a b, AtC T q M' ∧ DCc o D M' ∧ fi (fun k n i => PT6 k n i ∨ (n = o ∧ (k = 33 ∨ k = 34) ∧ i = (dS D).length)) M M' ∧ M'.1 33 o (dS D).length = a ∧ M'.1 34 o (dS D).length = b ∧ (∀ x, x < 32 → bt a x = true → x < (dO D).length) ∧ (∀ x, x < 32 → bt b x = true → x < (dS D).length) ∧ spOnL T D (T.length + 1) (tkE T p) 0 0 K = K q a b)) ?_ (fun r hr => ?_)
  · refine ok_for 1001 (fun c z => z.2.1 = nI c ∧ DCc o D z.2.2 ∧ fi (fun k n i => PT6 k n i ∨ (n = o ∧ (k = 33 ∨ k = 34) ∧ i = (dS D).length)) M z.2.2 ∧ ∃ q a b, AtC T q z.2.2 ∧ z.2.2.1 33 o (dS D).length = a ∧ z.2.2.1 34 o (dS D).length = b ∧ (∀ x, x < 32 → bt a x = true → x < (dO D).length) ∧ (∀ x, x < 32 → bt b x = true → x < (dS D).length) ∧ ((z.1 = 1 ∧ c ≤ q ∧ ∃ fu, T.length < fu + 1 + q ∧ spOnL T D (T.length + 1) (tkE T p) 0 0 K = spOnL T D (fu + 1) q a b K) ∨ (z.1 = 0 ∧ spOnL T D (T.length + 1) (tkE T p) 0 0 K = K q a b))) 0 (by omega) (by omega) ⟨rfl, c1, f1, tkE T p, 0, 0, a1, (hP1 33 (by omega)).trans h33, (hP1 34 (by omega)).trans h34, fun x _ r => (by rw [b_0] at r; cases r), fun x _ r => (by rw [b_0] at r; cases r), Or.inl ⟨rfl, Nat.zero_le _, T.length, by omega, rfl⟩⟩ ?_
    rintro c ⟨x2, x3, M4⟩ hcc ⟨e1, c4, f4, q, a, b, a4, g33, g34, ba, bb, hst⟩
    dsimp only at e1 c4 f4 a4 g33 g34 hst
    subst e1
    have hq := a4.1
    have e1000 : (1000 : Int32) < nI c ↔ 1000 < c := (nI_ltI (by omega) (by omega) : nI 1000 < nI c ↔ _)
    simp only [b_X5_readOn_1, b_X5_readOn_1c]
    rw [ok_ite, e1000]
    rcases hst with ⟨rfl, hcq, fu, hfu, hR⟩ | ⟨rfl, hR⟩
    · refine ⟨fun r => by omega, fun _ => ?_⟩
      rw [ok_ite]
      refine ⟨fun r => absurd r (by decide), fun _ => ?_⟩
      rw [ok_cb]
      refine ok_mono (readSupport_ok hF a4 c4 hk hs g33 g34) (fun r hr => ?_)
      obtain ⟨b6, M5⟩ := r
      rcases hr with ⟨k, r1, r2, r3, r4, r5⟩ | ⟨a', b', r1, rn, r2, r3, r4, r5, ⟨r6, r7⟩, r8⟩
      · dsimp only at r1 r2 r3 r4 ⊢
        subst r1
        rw [ok_ite]
        refine ⟨fun r => (by cases r), fun _ => ok_some.mpr ⟨k, q, hR.trans (r5 fu K), r2, r3, fi_tr fr (fi_tr (fi_mono f4 sub) (fi_mono r4 (fun k n i q => Or.inl q)))⟩⟩
      · dsimp only at r1 r2 r3 r4 r5 ⊢
        subst r1
        refine ok_tt ?_
        have c5 : DCc o D M5 := DCc_fi c4 r3 (fun k i q => by omega)
        have lt := isNm_lt hq rn
        rw [ok_cv]
        refine ok_mono (AtC_next hF r2) (fun M7 h7 => ?_)
        obtain ⟨a7, f7⟩ := h7
        rw [ok_cb]
        refine ok_mono (isName_ok a7) (fun r hr => ?_)
        subst hr
        have f47 := fi_tr f4 (fi_tr (fi_mono r3 (fun k n i q => Or.inr q)) (fi_mono f7 (fun k n i q => Or.inl (Or.inl q))))
        have c7 : DCc o D M7 := DCc_fi c5 f7 (fun k i q => by unfold P7 at q; omega)
        refine ok_some.mpr ⟨by omega, nI_1 c, c7, f47, tkE T q, a', b', a7, (fi_I f7 (by unfold P7; omega)).trans r4, (fi_I f7 (by unfold P7; omega)).trans r5, r6 ba, r7 bb, ?_⟩
        dsimp only
        have h8 := hR.trans (r8 fu K)
        by_cases qn : isNm T (tkE T q) = true
        · rw [if_pos qn] at h8
          have lt2 := isNm_lt lt.2 qn
          refine Or.inl ⟨by rw [qn]; rfl, by omega, fu - 1, by omega, ?_⟩
          rw [show fu - 1 + 1 = fu by omega]; exact h8
        · rw [if_neg qn] at h8
          refine Or.inr ⟨?_, h8⟩
          cases e : isNm T (tkE T q)
          · rfl
          · exact absurd e qn
    · have fin : ∃ q a b, AtC T q M4 ∧ DCc o D M4 ∧ fi (fun k n i => PT6 k n i ∨ (n = o ∧ (k = 33 ∨ k = 34) ∧ i = (dS D).length)) M M4 ∧ M4.1 33 o (dS D).length = a ∧ M4.1 34 o (dS D).length = b ∧ (∀ x, x < 32 → bt a x = true → x < (dO D).length) ∧ (∀ x, x < 32 → bt b x = true → x < (dS D).length) ∧ spOnL T D (T.length + 1) (tkE T p) 0 0 K = K q a b := ⟨q, a, b, a4, c4, f4, g33, g34, ba, bb, hR⟩
      refine ⟨fun _ => ok_some.mpr fin, fun _ => ?_⟩
      rw [ok_ite]
      exact ⟨fun _ => ok_some.mpr fin, fun r => absurd rfl r⟩
  · cases r with
    | inl M' =>
      obtain ⟨k, q, e, g1, g2, g3⟩ := hr
      refine ok_some.mpr ?_
      dsimp only
      rw [h2, e]
      exact ok_some.mpr ⟨g3, rfl, g1, g2⟩
    | inr M' =>
      obtain ⟨q, a, b, g1, g2, g3, g4, g5, g6, g7, e⟩ := hr
      refine ok_some.mpr ?_
      dsimp only
      rw [e]
      exact h1 q a b M' g1 g2 g3 g4 g5 g6 g7
theorem DOK_S {D : dft} {w : List Nat} {wt rn a b : Int32} (h : DOK D) (hn : (dS D).length < 10) (hwt : 0 ≤ wt ∧ wt ≤ 99) (hrn : 0 ≤ rn ∧ rn ≤ 99) (ha : ∀ x, x < 32 → bt a x = true → x < (dO D).length) (hb : ∀ x, x < 32 → bt b x = true → x < (dS D).length) (hs : w ∉ dOn D) : DOK (dP D, dO D, D.2.2.1, dS D ++ [(w, wt, rn, a, b)], D.2.2.2.2) := by
  obtain ⟨⟨n1, n2, n3⟩, k2, k3, k4, k5, k6, k7⟩ := h
  have el : (dS D ++ [(w, wt, rn, a, b)]).length = (dS D).length + 1 := by rw [List.length_append, List.length_singleton]
  have eN : dSn (dP D, dO D, D.2.2.1, dS D ++ [(w, wt, rn, a, b)], D.2.2.2.2) = dSn D ++ [w] := by unfold dSn; show ((dS D ++ [(w, wt, rn, a, b)]).map (fun e => e.1)) = _; rw [List.map_append]; rfl
  refine ⟨⟨n1, n2, by show (dS D ++ [_]).length ≤ 10; rw [el]; omega⟩, k2, k3, k4, fun i e he => ?_, fun v hv => ?_, k7⟩
  · rcases get_snoc.mp (show (dS D ++ [(w, wt, rn, a, b)])[i]? = some e from he) with r | ⟨r, r2⟩
    · exact k5 i e r
    · subst r r2; exact ⟨hwt, hrn, ha, hb⟩
  · rw [eN, List.mem_append]
    rintro (r | r)
    · exact k6 v hv r
    · rw [List.mem_singleton.mp r] at hv; exact hs hv
theorem readStone_ok {F : Nat} (hF : 2000 < F) {T : List Int32} {p o : Nat} {D : dft} {M : mm} (h : AtC T p M) (hD : DCK o D M) : ok (m_X5_readStone F M) (QR T (DCK o) (PRd o) M (spStone T D p)) := by
  obtain ⟨hc, hk⟩ := hD
  have hP := @PRd_6 o
  have pt := hc.1
  have n0 := hc.2.1.2.2
  obtain ⟨⟨n1, n2, n3⟩, k2, k3, k4, k5, k6, k7⟩ := id hk
  have e6 : nI (dS D).length < (10 : Int32) ↔ (dS D).length < 10 := (nI_ltI (by omega) (by omega) : nI _ < nI 10 ↔ _)
  unfold m_X5_readStone spStone
  rw [ok_nm, pt, n0, ok_ite, e6]
  refine ⟨fun q => ?_, fun q => ?_⟩
  · rw [if_neg (by omega), ok_cv]
    refine ok_mono (AtC_next hF h) (fun M2 h2 => ?_)
    obtain ⟨a2, f2⟩ := h2
    have f2 : fi PT6 M M2 := fi_mono f2 (fun k n i q => Or.inl q)
    have c2 := DCc_6 hc f2
    have hin : vp_in (nI (dS D).length) 10 := vp_in_nI q (by decide)
    rw [ok_nm]
    refine tnew_ok hF hP a2 (fi_mono f2 hP) c2 hk (fun hn nP nO nS M4 a4 f4 => ok_tt ?_) (fun M' => if_neg (by decide))
    obtain ⟨hw, h8⟩ := wdA_ok a2 hn
    have c4 := DCc_6 c2 f4
    refine tw_ok hF hP (i := 9) a4 (fi_mono (fi_tr f2 f4) hP) (by decide) (fun M6 a6 f6 => ok_tt ?_) (fun M' => if_neg (by decide))
    have c6 := DCc_6 c4 f6
    refine tn_ok hF hP a6 (fi_mono (fi_tr f2 (fi_tr f4 f6)) hP) (fun b1 b2 M8 a8 f8 v8 => ok_tt ?_) (fun M' => if_neg (by decide))
    have c8 := DCc_6 c6 f8
    rw [ok_gi, ok_nm, nI_clamp (by omega), c8.1, v8]
    refine ⟨hin, ?_⟩
    generalize hwt : (tkA T (tkE T (tkE T (tkE T p)))).2.2 = wt at b1 b2 ⊢
    have f10 : fi (fun k n i => n = o ∧ 31 ≤ k ∧ k ≤ 34 ∧ i = (dS D).length) M8 (sI M8 31 o (dS D).length wt) := fi_sI fi_rf ⟨rfl, by decide, by decide, rfl⟩
    have v31 : (sI M8 31 o (dS D).length wt).1 31 o (dS D).length = wt := by rw [rII, if_pos ⟨rfl, rfl, rfl⟩]
    generalize sI M8 31 o (dS D).length wt = M10 at f10 v31 ⊢
    have a10 := AtC_6 a8 f10 (fun k n i q => by omega)
    have c10 := DCc_fi c8 f10 (fun k i q => by omega)
    have fr10 : fi (PRd o) M M10 := fi_tr (fi_mono (fi_tr f2 (fi_tr f4 (fi_tr f6 f8))) hP) (fi_mono f10 (fun k n i q => Or.inr (Or.inl (by omega))))
    refine tw_ok hF hP (i := 10) a10 fr10 (by decide) (fun M11 a11 f11 => ok_tt ?_) (fun M' => if_neg (by decide))
    have c11 := DCc_6 c10 f11
    refine tn_ok hF hP a11 (fi_tr fr10 (fi_mono f11 hP)) (fun b3 b4 M13 a13 f13 v13 => ok_tt ?_) (fun M' => if_neg (by decide))
    have c13 := DCc_6 c11 f13
    have fr13 := fi_tr fr10 (fi_mono (fi_tr f11 f13) hP)
    generalize hrn : (tkA T (tkE T (tkE T (tkE T (tkE T (tkE T p)))))).2.2 = rn at b3 b4 v13 ⊢
    rw [ok_gi, ok_nm, ok_gi, ok_nm, ok_gi, ok_nm]
    simp only [rIR, c13.1, v13]
    refine ⟨hin, hin, hin, ?_⟩
    have f17 : fi (fun k n i => n = o ∧ 31 ≤ k ∧ k ≤ 34 ∧ i = (dS D).length) M13 (sI (sI (sI M13 32 o (dS D).length rn) 33 o (dS D).length 0) 34 o (dS D).length 0) := fi_sI (fi_sI (fi_sI fi_rf ⟨rfl, by decide, by decide, rfl⟩) ⟨rfl, by decide, by decide, rfl⟩) ⟨rfl, by decide, by decide, rfl⟩
    have u31 : (sI (sI (sI M13 32 o (dS D).length rn) 33 o (dS D).length 0) 34 o (dS D).length 0).1 31 o (dS D).length = wt := by
      rw [rII, if_neg (by omega), rII, if_neg (by omega), rII, if_neg (by omega), fi_I f13 (by unfold PT6 P7; omega), fi_I f11 (by unfold PT6 P7; omega)]; exact v31
    have u32 : (sI (sI (sI M13 32 o (dS D).length rn) 33 o (dS D).length 0) 34 o (dS D).length 0).1 32 o (dS D).length = rn := by rw [rII, if_neg (by omega), rII, if_neg (by omega), rII, if_pos ⟨rfl, rfl, rfl⟩]
    have u33 : (sI (sI (sI M13 32 o (dS D).length rn) 33 o (dS D).length 0) 34 o (dS D).length 0).1 33 o (dS D).length = 0 := by rw [rII, if_neg (by omega), rII, if_pos ⟨rfl, rfl, rfl⟩]
    have u34 : (sI (sI (sI M13 32 o (dS D).length rn) 33 o (dS D).length 0) 34 o (dS D).length 0).1 34 o (dS D).length = 0 := by rw [rII, if_pos ⟨rfl, rfl, rfl⟩]
    generalize sI (sI (sI M13 32 o (dS D).length rn) 33 o (dS D).length 0) 34 o (dS D).length 0 = M17 at f17 u31 u32 u33 u34 ⊢
    have a17 := AtC_6 a13 f17 (fun k n i q => by omega)
    have c17 := DCc_fi c13 f17 (fun k i q => by omega)
    have fr17 : fi (PRd o) M M17 := fi_tr fr13 (fi_mono f17 (fun k n i q => Or.inr (Or.inl (by omega))))
    rw [ok_cb]
    refine ok_mono (isWord_ok (i := 11) a17 (by decide)) (fun r hr => ?_)
    subst hr
    dsimp only
    -- what stands behind the supports
    have tail : ∀ (q' : Nat) (a b : Int32) (M22 : mm), AtC T q' M22 → DCc o D M22 → fi (PRd o) M M22 → M22.1 31 o (dS D).length = wt → M22.1 32 o (dS D).length = rn → M22.1 33 o (dS D).length = a → M22.1 34 o (dS D).length = b → (∀ x, x < 32 → bt a x = true → x < (dO D).length) → (∀ x, x < 32 → bt b x = true → x < (dS D).length) →
        ok (cb (m_X5_takeEnd F M22) fun b24 M23 => if b24 = true then gi (nI (dS D).length) 10 (nm (sL M23 30 (M23.2.2 6 0 2) (dS D).length (M2.2.1 7 0 8)) fun M25 => nm (sI M25 1 (M25.2.2 6 0 2) 13 ((M25.1 1 (M25.2.2 6 0 2) 13) + (1 : Int32))) fun M26 => some (true, M26)) else some (false, M23)) (QR T (DCK o) (PRd o) M (spSt T D (wdA T (tkE T p)) wt rn q' a b)) := fun q' a b M22 at22 c22 fr22 w31 w32 w33 w34 ba bb => by
      unfold spSt
      refine te_ok hF hP at22 fr22 (fun M23 a23 f23 => ok_tt ?_) (fun M' => if_neg (by decide))
      have c23 := DCc_6 c22 (fi_mono f23 P7_6)
      have fr23 := fi_tr fr22 (fi_mono f23 (fun k n i q => hP k n i (P7_6 k n i q)))
      have cl : ∀ k, 31 ≤ k → k ≤ 34 → M23.1 k o (dS D).length = M22.1 k o (dS D).length := fun k h1 h2 => fi_I f23 (by unfold P7; omega)
      rw [ok_gi, ok_nm, ok_nm, ok_some]
      simp only [rLR, c23.1, h8]
      have f26 : fi (fun k n i => n = o ∧ ((k = 1 ∧ i = 13) ∨ (30 ≤ k ∧ k ≤ 34 ∧ i = (dS D).length))) M23 (sI (sL M23 30 o (dS D).length (lN (pv 32 (wdA T (tkE T p))))) 1 o 13 ((sL M23 30 o (dS D).length (lN (pv 32 (wdA T (tkE T p))))).1 1 o 13 + 1)) := fi_sI (fi_sL fi_rf ⟨rfl, Or.inr ⟨by decide, by decide, rfl⟩⟩) ⟨rfl, Or.inl ⟨rfl, rfl⟩⟩
      have tl : ∀ k i, k ≠ 1 → (sI (sL M23 30 o (dS D).length (lN (pv 32 (wdA T (tkE T p))))) 1 o 13 ((sL M23 30 o (dS D).length (lN (pv 32 (wdA T (tkE T p))))).1 1 o 13 + 1)).1 k o i = M23.1 k o i := fun k i hk => by rw [rII, if_neg (by omega), rLI]
      refine ⟨hin, fi_tr fr23 (fi_mono f26 (fun k n i q => Or.inr (Or.inl (by omega)))), rfl, AtC_6 a23 f26 (fun k n i q => by omega), DCc_addS c23 f26 ?_ ?_ ?_ ?_ ?_ ?_ hw, DOK_S hk q ⟨b1, b2⟩ ⟨b3, b4⟩ ba bb nO⟩
      · rw [rII, if_pos ⟨rfl, rfl, rfl⟩, rLI, c23.2.1.2.2, nI_1]
      · rw [rIL, rLL, if_pos ⟨rfl, rfl, rfl⟩]
      · rw [tl 31 _ (by decide), cl 31 (by decide) (by decide)]; exact w31
      · rw [tl 32 _ (by decide), cl 32 (by decide) (by decide)]; exact w32
      · rw [tl 33 _ (by decide), cl 33 (by decide) (by decide)]; exact w33
      · rw [tl 34 _ (by decide), cl 34 (by decide) (by decide)]; exact w34
    rw [ok_nm, ok_ite]
    have z : ∀ n, ∀ x, x < 32 → bt (0 : Int32) x = true → x < n := fun n x _ r => by rw [b_0] at r; cases r
    refine ⟨fun qy => ?_, fun qn => ?_⟩
    · rw [if_pos qy]
      refine on_ok hF a17 fr17 c17 hk q u33 u34 (fun q' a b M' g1 g2 g3 g4 g5 g6 g7 => ok_tt ?_) (fun M' => if_neg (by decide))
      exact tail q' a b M' g1 g2 (fi_tr fr17 (fi_mono g3 (fun k n i q => q.elim Or.inl (fun q => Or.inr (Or.inl (by omega)))))) ((fi_I g3 (by unfold PT6 P7; omega)).trans u31) ((fi_I g3 (by unfold PT6 P7; omega)).trans u32) g4 g5 g6 g7
    · rw [if_neg qn]
      exact tail _ 0 0 M17 a17 c17 fr17 u31 u32 u33 u34 (z _) (z _)
  · rw [if_pos (by omega), ok_cb]
    exact ok_mono (wrong_ok (k := 5) h) (fun r hr => ok_some.mpr (QR_bad fi_rf hP hr))
