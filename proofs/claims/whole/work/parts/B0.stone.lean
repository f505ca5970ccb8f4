/-! the class reads a stone, what mends -/
section SP2
variable (T : List Int32)
def spOnL (D : dft) : Nat → Nat → Int32 → Int32 → (Nat → Int32 → Int32 → res) → res
  | 0, p, _, _, _ => .inl (1, p)
  | n + 1, p, a, b, K => if isNm T p = true then (match fnd (dOn D) (wdA T p) with
      | some x => if bt a x = true then .inl (3, p) else (if isNm T (tkE T p) = true then spOnL D n (tkE T p) (a ||| bitI (nI x)) b K else K (tkE T p) (a ||| bitI (nI x)) b)
      | none => match fnd (dSn D) (wdA T p) with
        | some s => if bt b s = true then .inl (3, p) else (if isNm T (tkE T p) = true then spOnL D n (tkE T p) a (b ||| bitI (nI s)) K else K (tkE T p) a (b ||| bitI (nI s)))
        | none => .inl (2, p)) else .inl (1, p)
def spOn (D : dft) (p : Nat) (K : Nat → Int32 → Int32 → res) : res := spOnL T D (T.length + 1) p 0 0 K
def spSt (D : dft) (w : List Nat) (wt rn : Int32) (p6 : Nat) (a b : Int32) : res := spEnd T p6 fun p7 => .inr (p7, (dP D, dO D, D.2.2.1, dS D ++ [(w, wt, rn, a, b)], D.2.2.2.2))
def spStone (D : dft) (p : Nat) : res := if 10 ≤ (dS D).length then .inl (5, p) else
  spNew T D (tkE T p) fun w p1 => spWord T 9 p1 fun p2 => spNum T 0 99 p2 fun wt p3 => spWord T 10 p3 fun p4 => spNum T 0 99 p4 fun rn p5 =>
    if isW T p5 11 = true then spOn T D (tkE T p5) (spSt T D w wt rn) else spSt T D w wt rn p5 0 0
def spMend (D : dft) (p : Nat) : res := if (dM D).isSome = true then .inl (3, p) else
  spNum T 0 10 (tkE T p) fun m p1 => spEnd T p1 fun p2 => .inr (p2, (dP D, dO D, D.2.2.1, dS D, some m, dW D))
end SP2
theorem DCc_addS {o : Nat} {D : dft} {M M' : mm} {w : List Nat} {wt rn a b : Int32} (h : DCc o D M) (fr : fi (fun k n i => n = o ∧ ((k = 1 ∧ i = 13) ∨ (30 ≤ k ∧ k ≤ 34 ∧ i = (dS D).length))) M M') (c0 : M'.1 1 o 13 = nI ((dS D).length + 1)) (c30 : M'.2.1 30 o (dS D).length = lN (pv 32 w)) (c31 : M'.1 31 o (dS D).length = wt) (c32 : M'.1 32 o (dS D).length = rn) (c33 : M'.1 33 o (dS D).length = a) (c34 : M'.1 34 o (dS D).length = b) (hw : WdOk w) : DCc o (dP D, dO D, D.2.2.1, dS D ++ [(w, wt, rn, a, b)], D.2.2.2.2) M' := by
  obtain ⟨h1, ⟨h2, h3, h4⟩, ⟨h5, h6, h7⟩, h8, h9, h10, h11, h12, ⟨h13, h14⟩, h15, ⟨h16, h17, h18⟩, h19⟩ := h
  obtain ⟨l1, l2, l3⟩ := len_n D
  have e : ∀ k i, ¬ (k = 1 ∧ i = 13) → ¬ (30 ≤ k ∧ k ≤ 34 ∧ i = (dS D).length) → M'.1 k o i = M.1 k o i ∧ M'.2.1 k o i = M.2.1 k o i := fun k i a b => fr.2 k o i (fun q => q.2.elim a b)
  have lt : ∀ {α : Type} {L : List α} {i : Nat} {e : α}, L[i]? = some e → i < L.length := fun q => (List.getElem?_eq_some_iff.mp q).1
  have eN : dSn (dP D, dO D, D.2.2.1, dS D ++ [(w, wt, rn, a, b)], D.2.2.2.2) = dSn D ++ [w] := by unfold dSn; show ((dS D ++ [(w, wt, rn, a, b)]).map (fun e => e.1)) = _; rw [List.map_append]; rfl
  refine ⟨by rw [fr.1]; exact h1, ⟨by rw [(e 1 0 (by omega) (by omega)).1]; exact h2, by rw [(e 1 5 (by omega) (by omega)).1]; exact h3, ?_⟩, ⟨⟨fun i w hi => by rw [(e 20 i (by omega) (by omega)).2]; exact h5.1 i w hi, h5.2⟩, ⟨fun i w hi => by rw [(e 24 i (by omega) (by omega)).2]; exact h6.1 i w hi, h6.2⟩, ?_⟩, fun i v hi => by rw [(e 21 i (by omega) (by omega)).1, (e 22 i (by omega) (by omega)).1]; exact h8 i v hi, fun i hi x hx => by rw [(e 23 i (by omega) (by omega)).1]; exact h9 i hi x hx, fun i v hi => by rw [(e 25 i (by omega) (by omega)).1, (e 26 i (by omega) (by omega)).1, (e 27 i (by omega) (by omega)).1, (e 28 i (by omega) (by omega)).1, (e 29 i (by omega) (by omega)).1]; exact h10 i v hi, fun x hx => by rw [(e 1 12 (by omega) (by omega)).1]; exact h11 x hx, fun i v hi => ?_, ⟨by rw [(e 3 0 (by omega) (by omega)).1]; exact h13, by rw [(e 3 1 (by omega) (by omega)).1]; exact h14⟩, by rw [(e 3 2 (by omega) (by omega)).1]; exact h15, ⟨by rw [(e 3 4 (by omega) (by omega)).1]; exact h16, h17, fun i v hi => by rw [(e 35 i (by omega) (by omega)).1]; exact h18 i v hi⟩, fun i hi => by rw [(e 38 i (by omega) (by omega)).1]; exact h19 i hi⟩
  · show M'.1 1 o 13 = nI (dS D ++ [(w, wt, rn, a, b)]).length
    rw [List.length_append, List.length_singleton]; exact c0
  · rw [eN]
    exact NmC_add h7 (fun i hi => (e 30 i (by omega) (by omega)).2) (by rw [l3]; exact c30) hw
  · rcases get_snoc.mp (show (dS D ++ [(w, wt, rn, a, b)])[i]? = some v from hi) with q | ⟨q, q2⟩
    · have := lt q
      rw [(e 31 i (by omega) (by omega)).1, (e 32 i (by omega) (by omega)).1, (e 33 i (by omega) (by omega)).1, (e 34 i (by omega) (by omega)).1]; exact h12 i v q
    · rw [q, q2]; exact ⟨c31, c32, c33, c34⟩
theorem DCc_M {o : Nat} {D : dft} {M M' : mm} {m : Int32} (h : DCc o D M) (fr : fi (fun k n i => n = o ∧ k = 3 ∧ (i = 0 ∨ i = 1)) M M') (c19 : M'.1 3 o 0 = m) (c20 : M'.1 3 o 1 = 1) : DCc o (dP D, dO D, D.2.2.1, dS D, some m, dW D) M' := by
  obtain ⟨h1, ⟨h2, h3, h4⟩, ⟨h5, h6, h7⟩, h8, h9, h10, h11, h12, -, h15, ⟨h16, h17, h18⟩, h19⟩ := h
  have e : ∀ k i, ¬ (k = 3 ∧ (i = 0 ∨ i = 1)) → M'.1 k o i = M.1 k o i ∧ M'.2.1 k o i = M.2.1 k o i := fun k i a => fr.2 k o i (fun q => a q.2)
  exact ⟨by rw [fr.1]; exact h1, ⟨by rw [(e 1 0 (by omega)).1]; exact h2, by rw [(e 1 5 (by omega)).1]; exact h3, by rw [(e 1 13 (by omega)).1]; exact h4⟩, ⟨⟨fun i w hi => by rw [(e 20 i (by omega)).2]; exact h5.1 i w hi, h5.2⟩, ⟨fun i w hi => by rw [(e 24 i (by omega)).2]; exact h6.1 i w hi, h6.2⟩, ⟨fun i w hi => by rw [(e 30 i (by omega)).2]; exact h7.1 i w hi, h7.2⟩⟩, fun i v hi => by rw [(e 21 i (by omega)).1, (e 22 i (by omega)).1]; exact h8 i v hi, fun i hi x hx => by rw [(e 23 i (by omega)).1]; exact h9 i hi x hx, fun i v hi => by rw [(e 25 i (by omega)).1, (e 26 i (by omega)).1, (e 27 i (by omega)).1, (e 28 i (by omega)).1, (e 29 i (by omega)).1]; exact h10 i v hi, fun x hx => by rw [(e 1 12 (by omega)).1]; exact h11 x hx, fun i v hi => by rw [(e 31 i (by omega)).1, (e 32 i (by omega)).1, (e 33 i (by omega)).1, (e 34 i (by omega)).1]; exact h12 i v hi, ⟨c19, c20⟩, by rw [(e 3 2 (by omega)).1]; exact h15, ⟨by rw [(e 3 4 (by omega)).1]; exact h16, h17, fun i v hi => by rw [(e 35 i (by omega)).1]; exact h18 i v hi⟩, fun i hi => by rw [(e 38 i (by omega)).1]; exact h19 i hi⟩
theorem readMend_ok {F : Nat} (hF : 2000 < F) {T : List Int32} {p o : Nat} {D : dft} {M : mm} (h : AtC T p M) (hD : DCK o D M) : ok (m_X5_readMend F M) (QR T (DCK o) (PRd o) M (spMend T D p)) := by
  obtain ⟨hc, hk⟩ := hD
  have hP := @PRd_6 o
  obtain ⟨⟨n1, n2, n3⟩, k2, k3, k4, k5, k6, k7⟩ := id hk
  have e20 := hc.2.2.2.2.2.2.2.2.1.2
  unfold m_X5_readMend spMend
  rw [hc.1, e20, ok_ite]
  refine ⟨fun q => ?_, fun q => ?_⟩
  · have qn : ¬ (dM D).isSome = true := fun q2 => by rw [if_pos q2] at q; exact absurd q (by decide)
    rw [if_neg qn, ok_cv]
    refine ok_mono (AtC_next hF h) (fun M1 h1 => ?_)
    obtain ⟨a1, f1⟩ := h1
    have f1 : fi PT6 M M1 := fi_mono f1 (fun k n i q => Or.inl q)
    have c1 := DCc_6 hc f1
    refine tn_ok hF hP a1 (fi_mono f1 hP) (fun b1 b2 M2 a2 f2 v2 => ok_tt ?_) (fun M' => if_neg (by decide))
    have c2 := DCc_6 c1 f2
    rw [ok_nm, ok_nm]
    simp only [rIR, c2.1, v2]
    have f5 : fi (fun k n i => n = o ∧ k = 3 ∧ (i = 0 ∨ i = 1)) M2 (sI (sI M2 3 o 0 (tkA T (tkE T p)).2.2) 3 o 1 1) := fi_sI (fi_sI fi_rf ⟨rfl, rfl, Or.inl rfl⟩) ⟨rfl, rfl, Or.inr rfl⟩
    have c5 := DCc_M (m := (tkA T (tkE T p)).2.2) c2 f5 (by rw [rII, if_neg (by omega), rII, if_pos ⟨rfl, rfl, rfl⟩]) (by rw [rII, if_pos ⟨rfl, rfl, rfl⟩])
    generalize sI (sI M2 3 o 0 (tkA T (tkE T p)).2.2) 3 o 1 1 = M5 at f5 c5 ⊢
    have fr5 : fi (PRd o) M M5 := fi_tr (fi_mono (fi_tr f1 f2) hP) (fi_mono f5 (fun k n i q => Or.inr (Or.inl (by omega))))
    refine te_ok hF hP (AtC_6 a2 f5 (fun k n i q => by omega)) fr5 (fun M6 a6 f6 => ok_some.mpr ?_) (fun M' => rfl)
    refine ⟨fi_tr fr5 (fi_mono f6 (fun k n i q => hP k n i (P7_6 k n i q))), rfl, a6, DCc_6 c5 (fi_mono f6 P7_6), ⟨⟨n1, n2, n3⟩, k2, k3, k4, k5, k6, fun m hm => ?_⟩⟩
    have hm : some (tkA T (tkE T p)).2.2 = some m := hm
    rw [← Option.some.inj hm]; exact ⟨b1, b2⟩
  · have qy : (dM D).isSome = true := by
      cases e : (dM D).isSome
      · rw [e] at q; exact absurd rfl q
      · rfl
    rw [if_pos qy, ok_cb]
    exact ok_mono (wrong_ok (k := 3) h) (fun r hr => ok_some.mpr (QR_bad fi_rf hP hr))
/-- the tape is read on; supports stand in the two cells -/
theorem readSupport_ok {F : Nat} (hF : 2000 < F) {T : List Int32} {p o : Nat} {D : dft} {M : mm} {a b : Int32} (h : AtC T p M) (hc : DCc o D M) (hk : DOK D) (hs : (dS D).length < 10) (h33 : M.1 33 o (dS D).length = a) (h34 : M.1 34 o (dS D).length = b) :
    ok (m_X5_readSupport F (nI (dS D).length) M) (fun r => (∃ k, r.1 = false ∧ r.2.1 6 0 4 = nI (k + 16 * tkB T p) ∧ TpR T r.2 ∧ fi PT6 M r.2 ∧ ∀ n K, spOnL T D (n + 1) p a b K = .inl (k, p)) ∨
      (∃ a' b', r.1 = true ∧ isNm T p = true ∧ AtC T p r.2 ∧ fi (fun k n i => n = o ∧ (k = 33 ∨ k = 34) ∧ i = (dS D).length) M r.2 ∧ r.2.1 33 o (dS D).length = a' ∧ r.2.1 34 o (dS D).length = b' ∧ (((∀ x, x < 32 → bt a x = true → x < (dO D).length) → ∀ x, x < 32 → bt a' x = true → x < (dO D).length) ∧ ((∀ x, x < 32 → bt b x = true → x < (dS D).length) → ∀ x, x < 32 → bt b' x = true → x < (dS D).length)) ∧ ∀ n K, spOnL T D (n + 1) p a b K = if isNm T (tkE T p) = true then spOnL T D n (tkE T p) a' b' K else K (tkE T p) a' b')) := by
  obtain ⟨l1, l2, l3⟩ := len_n D
  obtain ⟨⟨n1, n2, n3⟩, k2, k3, k4, k5, k6, k7⟩ := id hk
  unfold m_X5_readSupport
  rw [ok_cb]
  refine ok_mono (isName_ok h) (fun r hr => ?_)
  subst hr
  dsimp only
  rw [ok_ite]
  refine ⟨fun q => ?_, fun q => ?_⟩
  · obtain ⟨hw, h8⟩ := wdA_ok h q
    rw [hc.1, hc.2.1.2.1, h8, ← l2, ok_cl]
    refine ok_mono (find24_ok (by omega) hc.2.2.1.2.1 (by omega) hw) (fun r hr => ?_)
    subst hr
    dsimp only
    rw [hc.1, hc.2.1.2.2, h8, ← l3, ok_cl]
    refine ok_mono (find30_ok (by omega) hc.2.2.1.2.2 (by omega) hw) (fun r hr => ?_)
    subst hr
    dsimp only
    have i2 := fdI_n (N := dOn D) (w := wdA T p) (by omega)
    have i3 := fdI_n (N := dSn D) (w := wdA T p) (by omega)
    have hin : vp_in (nI (dSn D).length) 10 := by rw [l3]; exact vp_in_nI hs (by decide)
    have mem : ∀ {N : List (List Nat)} {i : Nat}, fnd N (wdA T p) = some i → wdA T p ∈ N := fun {N i} e => by
      obtain ⟨x, y⟩ := fdW_lt _ e
      rw [← y]; exact List.mem_of_getElem? (getDn x)
    refine ok_jn (P := ¬ (fnd (dOn D) (wdA T p) = none ∧ fnd (dSn D) (wdA T p) = none)) (fun hn => ?_) (fun k hk => ?_)
    · show ok (bd _ _) _
      rw [ok_bd]
      refine ok_mono (Q := fun v => v = match fnd (dOn D) (wdA T p) with | some x => bitI (nI x) | none => 0) ?_ (fun v9 hv9 => ?_)
      · rw [ok_ite, i2.1]
        refine ⟨fun e => ok_some.mpr (by rw [e]), fun e => ok_some.mpr ?_⟩
        cases e2 : fnd (dOn D) (wdA T p) with
        | none => exact absurd e2 e
        | some x => rw [i2.2 x e2]; rfl
      · rw [ok_bd]
        refine ok_mono (Q := fun v => v = match fnd (dSn D) (wdA T p) with | some x => bitI (nI x) | none => 0) ?_ (fun v10 hv10 => ?_)
        · rw [ok_ite, i3.1]
          refine ⟨fun e => ok_some.mpr (by rw [e]), fun e => ok_some.mpr ?_⟩
          cases e2 : fnd (dSn D) (wdA T p) with
          | none => exact absurd e2 e
          | some x => rw [i3.2 x e2]; rfl
        · rw [ok_gi, nI_clamp (by omega), hc.1, l3, l2, h33, h34]
          rw [l3] at hin
          refine ⟨hin, ?_⟩
          -- one of the two is the name
          have fin : ∀ (a' b' : Int32), a ||| v9 = a' → b ||| v10 = b' → (((∀ x, x < 32 → bt a x = true → x < (dO D).length) → ∀ x, x < 32 → bt a' x = true → x < (dO D).length) ∧ ((∀ x, x < 32 → bt b x = true → x < (dS D).length) → ∀ x, x < 32 → bt b' x = true → x < (dS D).length)) → (∀ n K, spOnL T D (n + 1) p a b K = if isNm T (tkE T p) = true then spOnL T D n (tkE T p) a' b' K else K (tkE T p) a' b') → ok (nm (sI M 33 o (dS D).length (a ||| v9)) fun M11 => gi (nI (dS D).length) 10 (gi (nI (dS D).length) 10 (nm (sI M11 34 (M11.2.2 6 0 2) (dS D).length ((M11.1 34 (M11.2.2 6 0 2) (dS D).length) ||| v10)) fun M12 => some (true, M12)))) (fun r => (∃ k, r.1 = false ∧ r.2.1 6 0 4 = nI (k + 16 * tkB T p) ∧ TpR T r.2 ∧ fi PT6 M r.2 ∧ ∀ n K, spOnL T D (n + 1) p a b K = .inl (k, p)) ∨
      (∃ a' b', r.1 = true ∧ isNm T p = true ∧ AtC T p r.2 ∧ fi (fun k n i => n = o ∧ (k = 33 ∨ k = 34) ∧ i = (dS D).length) M r.2 ∧ r.2.1 33 o (dS D).length = a' ∧ r.2.1 34 o (dS D).length = b' ∧ (((∀ x, x < 32 → bt a x = true → x < (dO D).length) → ∀ x, x < 32 → bt a' x = true → x < (dO D).length) ∧ ((∀ x, x < 32 → bt b x = true → x < (dS D).length) → ∀ x, x < 32 → bt b' x = true → x < (dS D).length)) ∧ ∀ n K, spOnL T D (n + 1) p a b K = if isNm T (tkE T p) = true then spOnL T D n (tkE T p) a' b' K else K (tkE T p) a' b')) := fun a' b' ea eb hB hs' => by
            rw [ok_nm, ok_gi, ok_gi, ok_nm, ok_some]
            have ep : (sI M 33 o (dS D).length (a ||| v9)).2.2 6 0 2 = o := hc.1
            rw [ep]
            have e34 : (sI M 33 o (dS D).length (a ||| v9)).1 34 o (dS D).length = b := by rw [rII, if_neg (by omega)]; exact h34
            rw [e34, ea, eb]
            have f12 : fi (fun k n i => n = o ∧ (k = 33 ∨ k = 34) ∧ i = (dS D).length) M (sI (sI M 33 o (dS D).length a') 34 o (dS D).length b') := fi_sI (fi_sI fi_rf ⟨rfl, Or.inl rfl, rfl⟩) ⟨rfl, Or.inr rfl, rfl⟩
            exact ⟨hin, hin, Or.inr ⟨a', b', rfl, q, AtC_6 h f12 (fun k n i q => by omega), f12, by rw [rII, if_neg (by omega), rII, if_pos ⟨rfl, rfl, rfl⟩], by rw [rII, if_pos ⟨rfl, rfl, rfl⟩], hB, hs'⟩⟩
          have bad3 : (∀ n K, spOnL T D (n + 1) p a b K = .inl (3, p)) → ok (cb (m_X5_wrong F (3 : Int32) M) fun b14 M13 => some (b14, M13)) (fun r => (∃ k, r.1 = false ∧ r.2.1 6 0 4 = nI (k + 16 * tkB T p) ∧ TpR T r.2 ∧ fi PT6 M r.2 ∧ ∀ n K, spOnL T D (n + 1) p a b K = .inl (k, p)) ∨
      (∃ a' b', r.1 = true ∧ isNm T p = true ∧ AtC T p r.2 ∧ fi (fun k n i => n = o ∧ (k = 33 ∨ k = 34) ∧ i = (dS D).length) M r.2 ∧ r.2.1 33 o (dS D).length = a' ∧ r.2.1 34 o (dS D).length = b' ∧ (((∀ x, x < 32 → bt a x = true → x < (dO D).length) → ∀ x, x < 32 → bt a' x = true → x < (dO D).length) ∧ ((∀ x, x < 32 → bt b x = true → x < (dS D).length) → ∀ x, x < 32 → bt b' x = true → x < (dS D).length)) ∧ ∀ n K, spOnL T D (n + 1) p a b K = if isNm T (tkE T p) = true then spOnL T D n (tkE T p) a' b' K else K (tkE T p) a' b')) := fun hs' => by
            rw [ok_cb]
            exact ok_mono (wrong_ok (k := 3) h) (fun r hr => ok_some.mpr (Or.inl ⟨3, hr.1, hr.2.1, hr.2.2.1, hr.2.2.2, hs'⟩))
          have sp1 : ∀ x, fnd (dOn D) (wdA T p) = some x → ∀ n K, spOnL T D (n + 1) p a b K = if bt a x = true then (Sum.inl (3, p) : res) else (if isNm T (tkE T p) = true then spOnL T D n (tkE T p) (a ||| bitI (nI x)) b K else K (tkE T p) (a ||| bitI (nI x)) b) := fun x e n K => by
            show (if isNm T p = true then (match fnd (dOn D) (wdA T p) with | some x => if bt a x = true then (Sum.inl (3, p) : res) else (if isNm T (tkE T p) = true then spOnL T D n (tkE T p) (a ||| bitI (nI x)) b K else K (tkE T p) (a ||| bitI (nI x)) b) | none => match fnd (dSn D) (wdA T p) with | some s => if bt b s = true then (Sum.inl (3, p) : res) else (if isNm T (tkE T p) = true then spOnL T D n (tkE T p) a (b ||| bitI (nI s)) K else K (tkE T p) a (b ||| bitI (nI s))) | none => (Sum.inl (2, p) : res)) else (Sum.inl (1, p) : res)) = _
            rw [if_pos q, e]
          have sp2 : fnd (dOn D) (wdA T p) = none → ∀ s, fnd (dSn D) (wdA T p) = some s → ∀ n K, spOnL T D (n + 1) p a b K = if bt b s = true then (Sum.inl (3, p) : res) else (if isNm T (tkE T p) = true then spOnL T D n (tkE T p) a (b ||| bitI (nI s)) K else K (tkE T p) a (b ||| bitI (nI s))) := fun e0 s e n K => by
            show (if isNm T p = true then (match fnd (dOn D) (wdA T p) with | some x => if bt a x = true then (Sum.inl (3, p) : res) else (if isNm T (tkE T p) = true then spOnL T D n (tkE T p) (a ||| bitI (nI x)) b K else K (tkE T p) (a ||| bitI (nI x)) b) | none => match fnd (dSn D) (wdA T p) with | some s => if bt b s = true then (Sum.inl (3, p) : res) else (if isNm T (tkE T p) = true then spOnL T D n (tkE T p) a (b ||| bitI (nI s)) K else K (tkE T p) a (b ||| bitI (nI s))) | none => (Sum.inl (2, p) : res)) else (Sum.inl (1, p) : res)) = _
            rw [if_pos q, e0]
            dsimp only
            rw [e]
          cases e2 : fnd (dOn D) (wdA T p) with
          | some x =>
            have e3 : fnd (dSn D) (wdA T p) = none := by
              cases e4 : fnd (dSn D) (wdA T p) with
              | none => rfl
              | some s => exact absurd (mem e4) (k6 _ (mem e2))
            rw [e2] at hv9
            rw [e3] at hv10
            have hv9 : v9 = bitI (nI x) := hv9
            have hv10 : v10 = 0 := hv10
            have lx := fnd_lt e2
            refine ok_jn (P := bt a x = true) (fun hb => bad3 (fun n K => by rw [sp1 x e2, if_pos hb])) (fun k' hk' => ?_)
            have m0 : a &&& v9 = 0 ↔ bt a x = false := by rw [hv9]; exact b_msk0 a (by omega)
            rw [ok_ite, m0]
            refine ⟨fun hb => ?_, fun hb => hk' (by simpa using hb)⟩
            rw [ok_gi, ok_ite]
            refine ⟨hin, fun _ => ?_, fun hb2 => absurd (by rw [hv10]; exact Int32.and_zero) hb2⟩
            rw [ok_gi, ok_gi]
            exact ⟨hin, hin, fin (a ||| bitI (nI x)) b (by rw [hv9]) (by rw [hv10]; exact Int32.or_zero) ⟨fun h1 y hy r => by
              rw [b_or, Bool.or_eq_true, bitI_b (by omega) hy, decide_eq_true_iff] at r
              exact r.elim (h1 y hy) (fun e => by omega), id⟩ (fun n K => by rw [sp1 x e2, if_neg (by rw [hb]; decide)])⟩
          | none =>
            cases e3 : fnd (dSn D) (wdA T p) with
            | none => exact absurd ⟨e2, e3⟩ hn
            | some s =>
              rw [e2] at hv9
              rw [e3] at hv10
              have hv9 : v9 = 0 := hv9
              have hv10 : v10 = bitI (nI s) := hv10
              have ls := fnd_lt e3
              refine ok_jn (P := bt b s = true) (fun hb => bad3 (fun n K => by rw [sp2 e2 s e3, if_pos hb])) (fun k' hk' => ?_)
              rw [ok_ite]
              refine ⟨fun _ => ?_, fun hb2 => absurd (by rw [hv9]; exact Int32.and_zero) hb2⟩
              have m0 : b &&& v10 = 0 ↔ bt b s = false := by rw [hv10]; exact b_msk0 b (by omega)
              rw [ok_gi, ok_ite, m0]
              refine ⟨hin, fun hb => ?_, fun hb => hk' (by simpa using hb)⟩
              rw [ok_gi, ok_gi]
              exact ⟨hin, hin, fin a (b ||| bitI (nI s)) (by rw [hv9]; exact Int32.or_zero) (by rw [hv10]) ⟨id, fun h1 y hy r => by
                rw [b_or, Bool.or_eq_true, bitI_b (by omega) hy, decide_eq_true_iff] at r
                exact r.elim (h1 y hy) (fun e => by omega)⟩ (fun n K => by rw [sp2 e2 s e3, if_neg (by rw [hb]; decide)])⟩
    · rw [ok_ite, i2.1]
      refine ⟨fun e2 => ?_, fun e2 => hk (fun q2 => e2 q2.1)⟩
      rw [ok_ite, i3.1]
      refine ⟨fun e3 => ?_, fun e3 => hk (fun q2 => e3 q2.2)⟩
      rw [ok_cb]
      refine ok_mono (wrong_ok (k := 2) h) (fun r hr => ok_some.mpr (Or.inl ⟨2, hr.1, hr.2.1, hr.2.2.1, hr.2.2.2, fun n K => ?_⟩))
      unfold spOnL
      rw [if_pos q, e2]
      dsimp only
      rw [e3]
  · rw [ok_cb]
    refine ok_mono (wrong_ok (k := 1) h) (fun r hr => ok_some.mpr (Or.inl ⟨1, hr.1, hr.2.1, hr.2.2.1, hr.2.2.2, fun n K => ?_⟩))
    unfold spOnL
    rw [if_neg q]
