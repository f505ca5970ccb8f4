/-! the class's law: a joint's step -/
theorem lHd_le (w : List Int32) : lHd w ≤ 4 := by
  cases w with
  | nil => exact Nat.zero_le _
  | cons d w => exact rkN_le d
theorem ljnt_r {T : List Int32} {p : Nat} (h : ¬ lJnt T p = -14) : 1 ≤ rkN (lJnt T p) ∧ ¬ lJnt T p = -13 := by
  have key : lJnt T p = -14 ∨ (1 ≤ rkN (lJnt T p) ∧ ¬ lJnt T p = -13) := by
    unfold lJnt
    repeat' split
    all_goals decide
  exact key.resolve_left h
theorem ljnt_step {F l : Nat} (hF : 2000 < F) {T : List Int32} {p n : Nat} {s : lst} {M : mm} (h : AtC T p M) (hs : LsC l s M) (hk : LsK s) (hn : s.1.length + s.2.1.length ≤ n) (hn2 : n ≤ 1000) (hd : s.2.2.2 = false) : ok (m_X3_readJoint F M) (QL T p l n M (spJnt T p s)) := by
  obtain ⟨cs, w, op, due⟩ := s
  obtain ⟨hL, h5, h6, h7⟩ := hs
  obtain ⟨k1, k2, k3, -⟩ := hk
  dsimp only at hL h5 h6 h7 k1 k2 k3 hn hd
  subst hd
  have len := lSrt_len w k1
  have h4' := lHd_le w
  have opl := lOp_le w
  unfold m_X3_readJoint spJnt
  rw [ok_cb]
  refine ok_mono (isSign_ok h (c := 41)) (fun r hr => ?_)
  subst hr
  dsimp only
  rw [ok_ite]
  refine ⟨fun q => ?_, fun q => ?_⟩
  · rw [if_pos q, h6, ok_ite, (show nI op = (0 : Int32) ↔ op = 0 from nI_eq (b := 0) (by omega) (by decide))]
    refine ⟨fun q2 => ok_some.mpr ?_, fun q2 => ?_⟩
    · rw [if_pos q2]; exact ⟨fi_rf, rfl, by decide, by decide, h⟩
    · rw [if_neg q2, ok_cv]
      refine ok_mono (lset_ok (r := 1) hF (by decide) hL (by omega) (by omega)) (fun M1 g1 => ?_)
      obtain ⟨l1, f1⟩ := g1
      obtain ⟨c1, c2, c3, c4, c5, c6⟩ := lSet_c 1 (by decide) w cs k1
      generalize lSet 1 cs w = sw at l1 c1 c2 c3 c4 c5 c6 ⊢
      obtain ⟨cs1, w1⟩ := sw
      dsimp only at l1 c1 c2 c3 c4 c5 c6 ⊢
      cases w1 with
      | nil =>
        have e : lOp [] = 0 := rfl
        rw [e] at c3
        exact absurd c3 (by omega)
      | cons d w2 =>
        have e1 : lHd (d :: w2) = rkN d := rfl
        rw [e1] at c4
        rw [lZ_cons, if_pos (by omega)] at c2
        rw [lOp_cons] at c3
        have c3 : op ≤ lOp w2 + 1 := by
          by_cases e : d = -13
          · rw [if_pos e] at c3; omega
          · rw [if_neg e] at c3; omega
        rw [List.length_cons] at c5
        obtain ⟨i1, i2, i3, i4⟩ := l1
        have i3 : M1.1 4 0 2 = nI (w2.length + 1) := i3
        have v3 : M1.1 4 0 3 = nI (lZ w2 + 1) := by rw [c2]; exact (fi_I f1 (by unfold PAd; omega)).trans h5
        obtain ⟨op', rfl⟩ : ∃ op', op = op' + 1 := ⟨op - 1, by omega⟩
        have v4 : M1.1 4 0 4 = nI (op' + 1) := (fi_I f1 (by unfold PAd; omega)).trans h6
        have v5 : M1.1 4 0 5 = 0 := (fi_I f1 (by unfold PAd; omega)).trans h7
        rw [i3, nI_m1, ok_nm]
        have g3 : (sI M1 4 0 2 (nI w2.length)).1 4 0 3 = nI (lZ w2 + 1) := by rw [rII, if_neg (by omega)]; exact v3
        rw [g3, nI_m1, ok_nm]
        have g4 : (sI (sI M1 4 0 2 (nI w2.length)) 4 0 3 (nI (lZ w2))).1 4 0 4 = nI (op' + 1) := by rw [rII, if_neg (by omega), rII, if_neg (by omega)]; exact v4
        rw [g4, nI_m1, ok_nm]
        have f2 : fi (fun k n i => k = 4 ∧ n = 0 ∧ (i = 2 ∨ i = 3 ∨ i = 4)) M1 (sI (sI (sI M1 4 0 2 (nI w2.length)) 4 0 3 (nI (lZ w2))) 4 0 4 (nI op')) := fi_sI (fi_sI (fi_sI fi_rf ⟨rfl, rfl, Or.inl rfl⟩) ⟨rfl, rfl, Or.inr (Or.inl rfl)⟩) ⟨rfl, rfl, Or.inr (Or.inr rfl)⟩
        have u2 : (sI (sI (sI M1 4 0 2 (nI w2.length)) 4 0 3 (nI (lZ w2))) 4 0 4 (nI op')).1 4 0 2 = nI w2.length := by rw [rII, if_neg (by omega), rII, if_neg (by omega), rII, if_pos ⟨rfl, rfl, rfl⟩]
        have u3 : (sI (sI (sI M1 4 0 2 (nI w2.length)) 4 0 3 (nI (lZ w2))) 4 0 4 (nI op')).1 4 0 3 = nI (lZ w2) := by rw [rII, if_neg (by omega), rII, if_pos ⟨rfl, rfl, rfl⟩]
        have u4 : (sI (sI (sI M1 4 0 2 (nI w2.length)) 4 0 3 (nI (lZ w2))) 4 0 4 (nI op')).1 4 0 4 = nI op' := by rw [rII, if_pos ⟨rfl, rfl, rfl⟩]
        have u6 : (sI (sI (sI M1 4 0 2 (nI w2.length)) 4 0 3 (nI (lZ w2))) 4 0 4 (nI op')).2.2 4 0 6 = l := by simp only [rIR]; exact i4
        generalize sI (sI (sI M1 4 0 2 (nI w2.length)) 4 0 3 (nI (lZ w2))) 4 0 4 (nI op') = M2 at f2 u2 u3 u4 u6 ⊢
        rw [ok_cv]
        refine ok_mono (lend_ok (cs := cs1) (w := w2) hF ⟨LwC_fi i1 f2 (fun k i q => by omega), StC_fi i2.2 f2 (fun i _ => by omega), u2, u6⟩ u3 (by omega) (by omega)) (fun M4 g4 => ok_some.mpr ?_)
        obtain ⟨m1, m2, m3, f4⟩ := g4
        obtain ⟨d1, d2, d3, d4⟩ := lEnd_c w2 cs1 c1.2
        have fr : fi (PLw l) M M4 := fi_tr (fi_mono f1 (fun k n i q => by unfold PAd at q; unfold PLw; omega)) (fi_tr (fi_mono f2 (fun k n i q => by unfold PLw; omega)) (fi_mono f4 (fun k n i q => by unfold PAd at q; unfold PLw; omega)))
        exact ⟨fr, rfl, ⟨m1, m2, (fi_I f4 (by unfold PAd; omega)).trans u4, m3⟩, ⟨d1, (show lZ (lEnd cs1 w2).2 ≤ 5 by omega), (show op' ≤ lOp (lEnd cs1 w2).2 by omega), fun _ => trivial⟩, (show (lEnd cs1 w2).1.length + (lEnd cs1 w2).2.length ≤ n + 1 by omega), AtC_L h fr⟩
  · rw [if_neg q, ok_cl]
    refine ok_mono (ljnt_ok h) (fun r hr => ?_)
    subst hr
    dsimp only
    rw [ok_ite]
    refine ⟨fun q2 => ok_some.mpr ?_, fun q2 => ?_⟩
    · rw [if_pos q2]; exact ⟨fi_rf, rfl, by decide, by decide, h⟩
    rw [if_neg q2]
    obtain ⟨r1, r13⟩ := ljnt_r q2
    have r4 := rkN_le (lJnt T p)
    have r5 : ¬ lJnt T p = -5 := fun e => by rw [e] at r1; exact absurd r1 (by decide)
    generalize lJnt T p = c at r1 r13 r4 r5 ⊢
    rw [ok_cl]
    refine ok_mono rank_ok (fun r hr => ?_)
    subst hr
    dsimp only
    rw [ok_cl]
    refine ok_mono rank_ok (fun r hr => ?_)
    subst hr
    dsimp only
    have e2 : nI (rkN c) = nI (rkN (-8)) ↔ rkN c = 2 := nI_eq (b := 2) (by omega) (by decide)
    -- the rest, once what binds as closely is told
    have rest : ∀ (r : Nat) (M2 : mm), 1 ≤ r ∧ r ≤ 4 → rkN c ≤ 4 → (lHd (lSet r cs w).2 < rkN c) → LrC l (lSet r cs w).1 (lSet r cs w).2 M2 → fi (fun k n i => PAd l k n i ∨ (k = 4 ∧ n = 0 ∧ i = 2)) M M2 → ok (cv (m_X3_push F c M2) fun M15 => nm (sI M15 4 0 5 (1 : Int32)) fun M16 => some ((0 : Int32), M16)) (QL T p l n M (.inr ((lSet r cs w).1, c :: (lSet r cs w).2, op, true))) := fun r M2 hr _ hh l2 f2 => by
      obtain ⟨c1, c2, c3, c4, c5, c6⟩ := lSet_c r hr.1 w cs k1
      generalize lSet r cs w = sw at l2 c1 c2 c3 c4 c5 c6 hh ⊢
      obtain ⟨cs1, w1⟩ := sw
      dsimp only at l2 c1 c2 c3 c4 c5 c6 hh ⊢
      rw [ok_cv]
      refine ok_mono (lpush_ok l2 (by omega)) (fun M3 g3 => ?_)
      obtain ⟨l3, f3⟩ := g3
      rw [ok_nm, ok_some]
      have f4 : fi (fun k n i => k = 4 ∧ n = 0 ∧ i = 5) M3 (sI M3 4 0 5 1) := fi_sI fi_rf ⟨rfl, rfl, rfl⟩
      have fr : fi (PLw l) M (sI M3 4 0 5 1) := fi_tr (fi_mono f2 (fun k n i q => by unfold PAd at q; unfold PLw; omega)) (fi_tr (fi_mono f3 (fun k n i q => by unfold PLw; omega)) (fi_mono f4 (fun k n i q => by unfold PLw; omega)))
      have z1 : lZ (c :: w1) = lZ w1 := by rw [lZ_cons, if_neg (by omega), Nat.add_zero]
      have o1 : lOp (c :: w1) = lOp w1 := by rw [lOp_cons, if_neg r13, Nat.add_zero]
      refine ⟨fr, rfl, ⟨⟨LwC_fi l3.1 f4 (fun k i q => by omega), StC_fi l3.2.1 f4 (fun i _ => by omega), (fi_I f4 (by omega)).trans l3.2.2.1, (by simp only [rIR]; exact l3.2.2.2)⟩, ?_, ?_, by rw [rII, if_pos ⟨rfl, rfl, rfl⟩]; rfl⟩, ⟨⟨Or.inr (Or.inr ⟨r1, ?_⟩), c1⟩, (show lZ (c :: w1) ≤ 5 by omega), (show op ≤ lOp (c :: w1) by omega), fun _ => trivial⟩, ?_, AtC_L h fr⟩
      · show (sI M3 4 0 5 1).1 4 0 3 = nI (lZ (c :: w1))
        rw [z1, c2]
        exact (fi_I f4 (by omega)).trans ((fi_I f3 (by omega)).trans ((fi_I f2 (by unfold PAd; omega)).trans h5))
      · exact (fi_I f4 (by omega)).trans ((fi_I f3 (by omega)).trans ((fi_I f2 (by unfold PAd; omega)).trans h6))
      · cases w1 with
        | nil => trivial
        | cons d w2 => exact hh
      · show cs1.length + (c :: w1).length ≤ n + 1
        rw [List.length_cons]; omega
    rw [ok_bd]
    by_cases q3 : rkN c = 2
    · rw [if_pos (e2.mpr q3), if_pos q3]
      refine ok_some.mpr ?_
      rw [ok_bd, if_neg (show ¬ (1 : Int32) = 0 by decide), nI_1, q3]
      refine ok_some.mpr ?_
      rw [ok_cv]
      refine ok_mono (lset_ok (r := 3) hF (by decide) hL (by omega) (by omega)) (fun M2 g2 => ?_)
      obtain ⟨l2, f2⟩ := g2
      have hh := (lSet_c 3 (by decide) w cs k1).2.2.2.1
      have ll := (lSet_c 3 (by decide) w cs k1).2.2.2.2.1
      have l6 := (lSet_c 3 (by decide) w cs k1).2.2.2.2.2
      have rest := rest 3 M2 (by decide) r4
      have i2 := l2.2.1
      have i3 := l2.2.2.1
      rw [ok_nm, if_neg (show ¬ (1 : Int32) = 0 by decide), i3, ok_ite, (show nI (lSet 3 cs w).2.length ≤ (0 : Int32) ↔ (lSet 3 cs w).2.length ≤ 0 from (nI_leI (by omega) (by omega) : nI _ ≤ nI 0 ↔ _))]
      cases ew : (lSet 3 cs w).2 with
      | nil =>
        refine ⟨fun _ => ?_, fun r => absurd (Nat.le_refl _) r⟩
        rw [if_neg (by decide)]
        have := rest (by rw [ew]; show 0 < rkN c; omega) l2 f2
        rw [ew] at this; exact this
      | cons d w2 =>
        rw [ew] at i2 hh ll
        rw [List.length_cons] at ll ⊢
        refine ⟨fun r => by omega, fun _ => ?_⟩
        rw [nI_m1, ok_gi, ok_cl, nI_clamp (by omega), i2.1]
        refine ⟨vp_in_nI (by omega) (by decide), ok_mono rank_ok (fun r hr => ?_)⟩
        subst hr
        dsimp only
        have ed : nI (rkN d) = nI 2 ↔ rkN d = 2 := nI_eq (by have := rkN_le d; omega) (by decide)
        have e3 : (List.head? (d :: w2)).map rkN = some 2 ↔ rkN d = 2 := ⟨fun e => Option.some.inj e, fun e => by show some (rkN d) = _; rw [e]⟩
        rw [ok_ite, ed]
        refine ⟨fun r => ok_some.mpr ?_, fun r => ?_⟩
        · rw [if_pos (e3.mpr r)]
          have fr : fi (PLw l) M M2 := fi_mono f2 (fun k n i q => by unfold PAd at q; unfold PLw; omega)
          exact ⟨fr, rfl, by decide, by decide, AtC_L h fr⟩
        · rw [if_neg (fun e => r (e3.mp e))]
          have e1 : lHd (d :: w2) = rkN d := rfl
          rw [e1] at hh
          have := rest (by rw [ew, e1]; omega) l2 f2
          rw [ew] at this; exact this
    · rw [if_neg (fun e => q3 (e2.mp e)), if_neg q3]
      refine ok_some.mpr ?_
      rw [ok_bd, if_pos rfl]
      refine ok_some.mpr ?_
      rw [ok_cv]
      refine ok_mono (lset_ok (r := rkN c) hF ⟨r1, r4⟩ hL (by omega) (by omega)) (fun M2 g2 => ?_)
      obtain ⟨l2, f2⟩ := g2
      rw [ok_nm, if_pos rfl]
      exact rest (rkN c) M2 ⟨r1, r4⟩ r4 (lSet_c (rkN c) r1 w cs k1).2.2.2.1 l2 f2
