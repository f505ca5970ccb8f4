/-! the reference's law: a part -/
abbrev mst : Type := List Int32 × List (Int32 × Int32) × Bool
def mPart2 (T : List Int32) (p : Nat) (s : mst) : Nat ⊕ mst :=
  if isW T p 22 = true then .inr (s.1 ++ [30], (1, 0) :: s.2.1, true)
  else if isS T p 40 = true then .inr (s.1 ++ [28], (2, 0) :: s.2.1, true)
  else .inr (s.1 ++ [if lFact T p = 0 then 100 + (tkA T p).2.2 else nI (lFact T p)], lPop s.2.1, false)
def mPart (T : List Int32) (p : Nat) (s : mst) : Nat ⊕ mst :=
  if lFact T p = 0 ∧ ¬ isW T p 22 = true ∧ ¬ isS T p 40 = true ∧ ¬ (tkA T p).1 = 3 then .inl 1
  else if 6 ≤ s.2.1.length then .inl 5
  else mPart2 T p s
def PRs : Nat → Nat → Nat → Prop := fun k _ i => (k = 13 ∧ ((4 ≤ i ∧ i ≤ 8) ∨ i = 28)) ∨ (k = 81 ∧ 1000 ≤ i) ∨ k = 82 ∨ k = 83
def MsC (T : List Int32) (p : Nat) (s : mst) (z : Int32 × Int32 × mm) : Prop := z.1 = nI (s.2.1.length - 1) ∧ z.2.1 = bN s.2.2 ∧ CoM s.1 z.2.2 ∧ LvR s.2.1 z.2.2 ∧ AtM T p z.2.2
def MsK (p : Nat) (s : mst) : Prop := LvK s.2.1 ∧ s.2.1.length ≤ 6 ∧ s.1.length ≤ p
def QS (T : List Int32) (p : Nat) (M : mm) (c0 : Int32) (x : Nat ⊕ mst) : (Int32 × Int32 × mm) ⊕ (mm ⊕ mm ⊕ (Int32 × mm)) → Prop :=
  Sum.elim (fun z => ∃ s, x = .inr s ∧ MsC T (tkE T p) s z ∧ MsK (p + 1) s ∧ p < tkE T p ∧ tkE T p ≤ T.length ∧ fi PRs M z.2.2)
    (Sum.elim (fun M' => x = .inl 1 ∧ AtM T p M' ∧ fi PRs M M') (Sum.elim (fun M' => x = .inl 5 ∧ AtM T p M' ∧ fi PRs M M') (fun z => x = .inl 0 ∧ z.1 = c0 ∧ z.2 = M)))
theorem lFact_le (T : List Int32) (p : Nat) : lFact T p ≤ 4 := by
  unfold lFact
  repeat' split
  all_goals omega
theorem lFact_k {T : List Int32} {p : Nat} (h : ¬ lFact T p = 0) : (tkA T p).1 = 2 := by
  unfold lFact at h
  by_cases q : (tkA T p).1 = 2
  · exact q
  · rw [if_neg q] at h; exact absurd rfl h
theorem lPop_R {M : mm} : ∀ w : List (Int32 × Int32), LvR w M → LvR (lPop w) M
  | [], h => h
  | e :: w, h => by
    by_cases q : e.1 = 1
    · rw [show lPop (e :: w) = lPop w from if_pos q]; exact lPop_R w h.2.2
    · rw [show lPop (e :: w) = e :: w from if_neg q]; exact h
theorem mpart_step {F : Nat} (hF : 2000 < F) {T : List Int32} {p : Nat} {s : mst} {M : mm} (hT1 : T.length ≤ 1000) (hc : MsC T p s (nI (s.2.1.length - 1), 1, M)) (hk : MsK p s) : ok (b_X12_reads_1c F (nI (s.2.1.length - 1)) 1 M) (QS T p M (nI (s.2.1.length - 1)) (mPart T p s)) := by
  obtain ⟨ks, lv, due⟩ := s
  obtain ⟨-, -, h3, h4, h5⟩ := hc
  obtain ⟨k1, k2, k3⟩ := hk
  dsimp only at h3 h4 h5 k1 k2 k3 ⊢
  have hp := h5.1
  have hl1 : 1 ≤ lv.length := by
    cases lv with
    | nil => exact k1.elim
    | cons e w => rw [List.length_cons]; omega
  have n0 : vp_nar .boolean (0 : Int32) = 0 := by decide
  have h6 : M.1 13 0 6 = nI (kmap (tkA T p).1) := h5.2.2.2.2.1
  have h8 := h5.2.2.2.2.2.2.1
  have e2 : nI (kmap (tkA T p).1) = (2 : Int32) ↔ (tkA T p).1 = 3 := km_eq T p (k := 3) (j := 2) (by decide) rfl
  have lf := lFact_le T p
  have ef : nI (lFact T p) = (0 : Int32) ↔ lFact T p = 0 := nI_eq (b := 0) (by omega) (by decide)
  have efl : nI (lFact T p) ≤ (0 : Int32) ↔ lFact T p = 0 := ((nI_leI (by omega) (by omega) : nI (lFact T p) ≤ nI 0 ↔ _)).trans Nat.le_zero
  have e5 : nI (lv.length - 1) = (5 : Int32) ↔ 6 ≤ lv.length := (nI_eq (b := 5) (by omega) (by decide)).trans (by omega)
  unfold b_X12_reads_1c
  rw [if_neg (show ¬ (1 : Int32) = 0 by decide), ok_cl]
  refine ok_mono (fact_ok h5) (fun r hr => ?_)
  subst hr
  dsimp only
  rw [ok_cb]
  refine ok_mono (isWordM_ok (i := 22) h5 (by decide) kc22) (fun r hr => ?_)
  subst hr
  dsimp only
  rw [ok_cb]
  refine ok_mono (isSignM_ok h5 (c := 40)) (fun r hr => ?_)
  subst hr
  dsimp only
  -- the main way
  have main : ¬ (lFact T p = 0 ∧ ¬ isW T p 22 = true ∧ ¬ isS T p 40 = true ∧ ¬ (tkA T p).1 = 3) → ok (if nI (lv.length - 1) = (5 : Int32) then (some (.inr (.inr (.inl M))) : Option ((Int32 × Int32 × mm) ⊕ (mm ⊕ mm ⊕ (Int32 × mm)))) else
          bd (
            nm (fun (z : Unit) => match z with
              | () =>
                bd (
                  if isW T p 22 = true then
                    some (30 : Int32)
                  else
                    some (28 : Int32)
                ) (fun x59 =>
                    cv (m_X12_puts F x59 M) fun M60 =>
                    bd (
                      if isW T p 22 = true then
                        some (1 : Int32)
                      else
                        some (2 : Int32)
                    ) (fun x61 =>
                        gi (nI (lv.length - 1) + (1 : Int32)) 7 <|
                        nm (sI M60 82 0 (Int32.toNatClampNeg (nI (lv.length - 1) + (1 : Int32))) x61) fun M62 =>
                        gi (nI (lv.length - 1) + (1 : Int32)) 7 <|
                        nm (sI M62 83 0 (Int32.toNatClampNeg (nI (lv.length - 1) + (1 : Int32))) (vp_nar .boolean (0 : Int32))) fun M63 =>
                        some (nI (lv.length - 1) + (1 : Int32), (1 : Int32), M63)))) fun j86 =>
            if isW T p 22 = true then
              j86 ()
            else if isS T p 40 = true then
              j86 ()
            else
              bd (
                if nI (lFact T p) ≤ (0 : Int32) then
                  some ((100 : Int32) + (M.1 13 0 8))
                else
                  some (nI (lFact T p))
              ) (fun x55 =>
                  cv (m_X12_puts F x55 M) fun M56 =>
                  bd (lp (b_X12_reads_3 F M56) F (nI (lv.length - 1)))
                    (fun x58 =>
                      some (x58, (0 : Int32), M56)))
          ) (fun z => match z with
              | (x64, x65, M66) =>
                cv (m_X12_nextToken F M66) fun M67 =>
                some (.inl (x64, x65, M67)))) (QS T p M (nI (lv.length - 1)) (mPart T p (ks, lv, due))) := fun hne => by
    have hk0 : (tkA T p).1 ≠ 0 := fun e => hne ⟨Classical.byContradiction (fun q => by have := lFact_k q; omega), fun q => isW_k q e, fun q => isS_k q e, by omega⟩
    have hgt := tkE_gt hp hk0
    unfold mPart
    rw [if_neg hne, ok_ite, e5]
    refine ⟨fun q => ok_some.mpr ?_, fun q => ?_⟩
    · rw [if_pos q]; exact ⟨rfl, h5, fi_rf⟩
    rw [if_neg q]
    have down : ∀ (a : Int32) (b : Int32), b = 1 ∨ b = 2 → (if isW T p 22 = true then some (1 : Int32) else some (2 : Int32)) = some b → ok (cv (m_X12_puts F a M) fun M60 => bd (if isW T p 22 = true then some (1 : Int32) else some (2 : Int32)) (fun x61 => gi (nI (lv.length - 1) + (1 : Int32)) 7 <| nm (sI M60 82 0 (Int32.toNatClampNeg (nI (lv.length - 1) + (1 : Int32))) x61) fun M62 => gi (nI (lv.length - 1) + (1 : Int32)) 7 <| nm (sI M62 83 0 (Int32.toNatClampNeg (nI (lv.length - 1) + (1 : Int32))) (vp_nar .boolean (0 : Int32))) fun M63 => some (nI (lv.length - 1) + (1 : Int32), (1 : Int32), M63))) (fun z => ok (cv (m_X12_nextToken F z.2.2) fun M67 => (some (.inl (z.1, z.2.1, M67)) : Option ((Int32 × Int32 × mm) ⊕ (mm ⊕ mm ⊕ (Int32 × mm))))) (QS T p M (nI (lv.length - 1)) (.inr (ks ++ [a], (b, 0) :: lv, true)))) := fun a b hb hbd => by
      rw [ok_cv]
      refine ok_mono (puts_ok (a := a) h3 (by omega)) (fun M60 g60 => ?_)
      obtain ⟨c60, f60⟩ := g60
      have a60 := AtM_6 h5 f60 (fun k n i q => by unfold PPu at q; omega)
      have l60 := LvR_fi h4 f60 (fun k i _ q => by unfold PPu at q; omega)
      rw [hbd, ok_bd]
      refine ok_some.mpr ?_
      rw [nI_1, show lv.length - 1 + 1 = lv.length by omega, ok_gi, ok_nm, ok_gi, ok_nm, ok_some, n0, nI_clamp (by omega)]
      have f63 : fi (fun k n i => (k = 82 ∨ k = 83) ∧ n = 0 ∧ i = lv.length) M60 (sI (sI M60 82 0 lv.length b) 83 0 lv.length 0) := fi_sI (fi_sI fi_rf ⟨Or.inl rfl, rfl, rfl⟩) ⟨Or.inr rfl, rfl, rfl⟩
      have u2 : (sI (sI M60 82 0 lv.length b) 83 0 lv.length 0).1 82 0 lv.length = b := by rw [rII, if_neg (by omega), rII, if_pos ⟨rfl, rfl, rfl⟩]
      have u3 : (sI (sI M60 82 0 lv.length b) 83 0 lv.length 0).1 83 0 lv.length = 0 := by rw [rII, if_pos ⟨rfl, rfl, rfl⟩]
      generalize sI (sI M60 82 0 lv.length b) 83 0 lv.length 0 = M63 at f63 u2 u3 ⊢
      have a63 := AtM_6 a60 f63 (fun k n i q => by omega)
      refine ⟨vp_in_nI (by omega) (by decide), vp_in_nI (by omega) (by decide), ?_⟩
      dsimp only
      rw [ok_cv]
      refine ok_mono (AtM_next hF a63) (fun M67 g67 => ok_some.mpr ?_)
      obtain ⟨a67, f67⟩ := g67
      refine ⟨(ks ++ [a], (b, 0) :: lv, true), rfl, ⟨?_, rfl, ?_, ⟨fun _ => ?_, ?_, ?_⟩, a67⟩, ⟨?_, ?_, ?_⟩, hgt.1, hgt.2, ?_⟩
      · show nI lv.length = nI (((b, 0) :: lv : List (Int32 × Int32)).length - 1)
        rw [List.length_cons, Nat.add_sub_cancel]
      · exact ⟨((fi_I f67 (by unfold P13; omega)).trans (fi_I f63 (by omega))).trans c60.1, fun i c hi => ((fi_I f67 (by unfold P13; omega)).trans (fi_I f63 (by omega))).trans (c60.2 i c hi)⟩
      · exact (fi_I f67 (by unfold P13; omega)).trans u2
      · exact (fi_I f67 (by unfold P13; omega)).trans u3
      · exact LvR_fi (LvR_fi l60 f63 (fun k i hi q => by omega)) f67 (fun k i _ q => by unfold P13 at q; omega)
      · show LvK ((b, 0) :: lv)
        cases lv with
        | nil => exact k1.elim
        | cons e w => exact ⟨hb, k1⟩
      · show ((b, 0) :: lv : List (Int32 × Int32)).length ≤ 6
        rw [List.length_cons]; omega
      · show (ks ++ [a]).length ≤ p + 1
        rw [List.length_append, List.length_singleton]; omega
      · exact fi_tr (fi_mono f60 (fun k n i q => by unfold PPu at q; unfold PRs; omega)) (fi_tr (fi_mono f63 (fun k n i q => by unfold PRs; omega)) (fi_mono f67 (fun k n i q => by unfold P13 at q; unfold PRs; omega)))
    rw [ok_bd, ok_nm, ok_ite]
    refine ⟨fun y => ?_, fun y => ?_⟩
    · have eS : mPart2 T p (ks, lv, due) = .inr (ks ++ [30], (1, 0) :: lv, true) := if_pos y
      rw [eS]
      show ok (bd _ _) _
      rw [ok_bd, if_pos y]
      exact ok_some.mpr (down 30 1 (Or.inl rfl) (if_pos y))
    rw [ok_ite]
    refine ⟨fun y2 => ?_, fun y2 => ?_⟩
    · have eS : mPart2 T p (ks, lv, due) = .inr (ks ++ [28], (2, 0) :: lv, true) := (if_neg y).trans (if_pos y2)
      rw [eS]
      show ok (bd _ _) _
      rw [ok_bd, if_neg y]
      exact ok_some.mpr (down 28 2 (Or.inr rfl) (if_neg y))
    have eS : mPart2 T p (ks, lv, due) = .inr (ks ++ [if lFact T p = 0 then 100 + (tkA T p).2.2 else nI (lFact T p)], lPop lv, false) := (if_neg y).trans (if_neg y2)
    rw [eS, ok_bd]
    have ex : ok (if nI (lFact T p) ≤ (0 : Int32) then some ((100 : Int32) + (M.1 13 0 8)) else some (nI (lFact T p))) (fun x => x = if lFact T p = 0 then 100 + (tkA T p).2.2 else nI (lFact T p)) := by
      rw [ok_ite, efl]
      refine ⟨fun r => ok_some.mpr ?_, fun r => ok_some.mpr (by rw [if_neg r])⟩
      have k3 : (tkA T p).1 = 3 := Classical.byContradiction (fun k => hne ⟨r, y, y2, k⟩)
      rw [if_pos r, h8 k3]
    refine ok_mono ex (fun x hx => ?_)
    subst hx
    generalize (if lFact T p = 0 then 100 + (tkA T p).2.2 else nI (lFact T p)) = a
    rw [ok_cv]
    refine ok_mono (puts_ok (a := a) h3 (by omega)) (fun M56 g56 => ?_)
    obtain ⟨c56, f56⟩ := g56
    have a56 := AtM_6 h5 f56 (fun k n i q => by unfold PPu at q; omega)
    have l56 := LvR_fi h4 f56 (fun k i _ q => by unfold PPu at q; omega)
    rw [ok_bd]
    refine ok_mono (pop3_ok hF l56 k1 k2) (fun x hx => ok_some.mpr ?_)
    subst hx
    show ok (cv (m_X12_nextToken F M56) fun M67 => (some (.inl (nI ((lPop lv).length - 1), (0 : Int32), M67)) : Option ((Int32 × Int32 × mm) ⊕ (mm ⊕ mm ⊕ (Int32 × mm))))) _
    rw [ok_cv]
    refine ok_mono (AtM_next hF a56) (fun M67 g67 => ok_some.mpr ?_)
    obtain ⟨a67, f67⟩ := g67
    obtain ⟨p1, p2⟩ := lPop_c lv k1
    -- what is popped is a tail
    have pr : LvR (lPop lv) M56 := lPop_R lv l56
    refine ⟨(ks ++ [a], lPop lv, false), rfl, ⟨rfl, rfl, ⟨(fi_I f67 (by unfold P13; omega)).trans c56.1, fun i c hi => (fi_I f67 (by unfold P13; omega)).trans (c56.2 i c hi)⟩, LvR_fi pr f67 (fun k i _ q => by unfold P13 at q; omega), a67⟩, ⟨p1, (show (lPop lv).length ≤ 6 by omega), ?_⟩, hgt.1, hgt.2, fi_tr (fi_mono f56 (fun k n i q => by unfold PPu at q; unfold PRs; omega)) (fi_mono f67 (fun k n i q => by unfold P13 at q; unfold PRs; omega))⟩
    show (ks ++ [a]).length ≤ p + 1
    rw [List.length_append, List.length_singleton]; omega
  rw [ok_nm, ok_ite, ef]
  refine ⟨fun q0 => ?_, fun q0 => main (fun r => q0 r.1)⟩
  rw [ok_ite]
  refine ⟨fun q1 => main (fun r => r.2.1 q1), fun q1 => ?_⟩
  rw [ok_ite]
  refine ⟨fun q2 => main (fun r => r.2.2.1 q2), fun q2 => ?_⟩
  rw [h6, ok_ite, e2]
  refine ⟨fun q3 => main (fun r => r.2.2.2 q3), fun q3 => ok_some.mpr ?_⟩
  unfold mPart
  rw [if_pos ⟨q0, q1, q2, q3⟩]
  exact ⟨rfl, h5, fi_rf⟩
