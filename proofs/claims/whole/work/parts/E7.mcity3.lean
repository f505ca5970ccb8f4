/-! the reference's city -/
theorem nPRA {k n i : Nat} (h : (k < 63 ∧ k ≠ 13) ∨ (64 ≤ k ∧ k ≤ 69 ∧ i < 6) ∨ (66 ≤ k ∧ k ≤ 67 ∧ i < 10) ∨ (70 ≤ k ∧ k ≤ 78 ∧ i < 10) ∨ ((k = 75 ∨ k = 77 ∨ k = 78) ∧ i < 11) ∨ ((k = 79 ∨ k = 80) ∧ i = 0) ∨ (k = 81 ∧ i < 1000) ∨ 84 ≤ k ∨ (k = 13 ∧ (i = 54 ∨ i = 0)) ∨ k = 63) : ¬ PRA k n i := fun q => by
  rcases q with (q | q | q | q | q | q | q | q | q | q | q | q | q | q) | q
  · unfold PM6 at q; omega
  all_goals omega
theorem MV_i {C : cty} {nb : Nat} {M M' : mm} {P : Nat → Nat → Nat → Prop} (h : MVb nb C M) (hw : cP C ≤ 6 ∧ cO C ≤ 10 ∧ cS C ≤ 11) (f : fi P M M') (hP : ∀ k i, (64 ≤ k ∧ k ≤ 69 ∧ i < 6) ∨ (70 ≤ k ∧ k ≤ 78 ∧ i < 10) ∨ ((k = 75 ∨ k = 77 ∨ k = 78) ∧ i < 11) ∨ ((k = 79 ∨ k = 80) ∧ i = 0) ∨ (k = 81 ∧ i < 1000) → ¬ P k 0 i) (hn : nb ≤ 10) : MVb nb C M' := by
  have e : ∀ k i, (64 ≤ k ∧ k ≤ 69 ∧ i < 6) ∨ (70 ≤ k ∧ k ≤ 78 ∧ i < 10) ∨ ((k = 75 ∨ k = 77 ∨ k = 78) ∧ i < 11) ∨ ((k = 79 ∨ k = 80) ∧ i = 0) ∨ (k = 81 ∧ i < 1000) → M'.1 k 0 i = M.1 k 0 i := fun k i hk => fi_I f (hP k i hk)
  obtain ⟨⟨h1, h2, h3, h4⟩, h5, h6, h7, h8, ics, h9, h10, h11, h12, h13⟩ := h
  refine ⟨⟨by rw [e 64 0 (by omega)]; exact h1, by rw [e 64 1 (by omega)]; exact h2, by rw [e 64 2 (by omega)]; exact h3, by rw [e 64 3 (by omega)]; exact h4⟩, fun i hi => by rw [e 68 i (by omega), e 69 i (by omega)]; exact h5 i hi, fun i hi => by rw [e 70 i (by omega), e 71 i (by omega), e 72 i (by omega), e 73 i (by omega), e 74 i (by omega)]; exact h6 i hi, fun i hi => ?_, by rw [e 79 0 (by omega)]; exact h8, ics, by rw [e 80 0 (by omega)]; exact h9, h10, fun i c hi => by rw [e 81 i (by have := get_lt hi; omega)]; exact h11 i c hi, h12, h13⟩
  obtain ⟨a, b, c, d⟩ := h7 i hi
  exact ⟨by rw [e 75 i (by omega)]; exact a, fun q => by rw [e 76 i (by omega)]; exact b q, by rw [e 77 i (by omega)]; exact c, by rw [e 78 i (by omega)]; exact d⟩
theorem cityM {F : Nat} (hF : 3000 < F) {A : sty} {Q : nmt} {N : Nat} {M : mm} (hA : AOK A N) (hQ : NOK A Q) (h : RMN A Q M) : ok (m_X12_city F M) (fun r => r.1 = (cityS A Q).1 ∧ RMN (cityS A Q).2.1 (cityS A Q).2.2 r.2 ∧ FM M r.2) := by
  obtain ⟨h0, n1, n2⟩ := h
  have hT := AtT hA
  have hw := hA.1.1
  have z54 : ∀ M' : mm, M'.1 13 0 1 = 0 → TpM M' [] := fun M' e => ⟨e, fun i x hx => by cases hx⟩
  unfold m_X12_city cityS
  rw [ok_nm]
  have f0 : fi PT M (sI M 13 0 0 0) := fi_sI fi_rf ⟨rfl, rfl⟩
  have h0 : RM A (sI M 13 0 0 0) := RM_fi h0 f0 PT_GM
  have n1 : NmM 66 0 Q.1 (sI M 13 0 0 0) := NmM_e n1 (fun i => rfl)
  have n2 : NmM 67 0 Q.2 (sI M 13 0 0 0) := NmM_e n2 (fun i => rfl)
  generalize sI M 13 0 0 0 = M1 at f0 h0 n1 n2 ⊢
  obtain ⟨⟨mv, hb0, hmo⟩, ⟨h4, h5⟩, ⟨h54, hun⟩, hk, hl, hh, ht⟩ := h0
  rw [ok_cb]
  refine ok_mono (readsAll_ok (by omega) ht hT) (fun r hr => ?_)
  obtain ⟨b, M2⟩ := r
  obtain ⟨f2, v1, hr⟩ := hr
  dsimp only at f2 v1
  have e : ∀ k i, ¬ PRA k 0 i → M2.1 k 0 i = M1.1 k 0 i := fun k i hk => fi_I f2 hk
  have eh : ∀ k i, 84 ≤ k → M2.1 k 0 i = M1.1 k 0 i := fun k i hk => e k i (nPRA (by omega))
  have b2 : B0 M2 := by
    unfold B0 at hb0 ⊢
    rw [eh 105 0 (by omega)]; exact hb0
  have mo2 : MoR M2 (aM A) := by
    unfold MoR at hmo ⊢
    simp only [eh 100 _ (show 84 ≤ 100 by decide)]; exact hmo
  have fm2 : FM M M2 := ⟨by rw [f2.1, f0.1], fun k n i hk => by
    have a := f2.2 k n i (nPRA (by omega))
    have b := f0.2 k n i (fun q => hk.1 q.1)
    exact ⟨a.1.trans b.1, a.2.trans b.2⟩⟩
  obtain ⟨c1, c2⟩ := city_b hT.1
  rw [ok_ite]
  cases hS : spCity (aT A) with
  | inl z =>
    obtain ⟨k, q⟩ := z
    rw [hS] at hr
    obtain ⟨r1, r2⟩ := hr
    dsimp only at r1 r2
    subst r1
    refine ⟨fun q => (by cases q), fun _ => ok_some.mpr ?_⟩
    show M2.1 13 0 9 = nI (k + 16 * tkB (aT A) q) ∧ RMN (sT A []) Q M2 ∧ FM M M2
    refine ⟨r2, ⟨⟨⟨?_, b2, mo2⟩, ⟨?_, ?_⟩, ⟨?_, fun i u hu => RwM_c (hun i u hu) (fun j => eh 103 j (by omega))⟩, fun k hk' => ⟨?_, fun v hv => ?_⟩, LiM_c hl (fun k j hk => eh k j (by omega)), HeM_c hh (fun k j hk => eh k j (by omega)), z54 M2 v1⟩, ?_, ?_⟩, fm2⟩
    · show MVb (cS (aC A)) (aC A) M2
      exact MV_i mv ⟨hw.1, hw.2.1, by have := hw.2.2.1; omega⟩ f2 (fun k i hk => nPRA (by omega)) hw.2.2.1
    · show M2.1 64 0 4 = _
      rw [e 64 4 (nPRA (by omega))]; exact h4
    · show M2.1 64 0 5 = _
      rw [e 64 5 (nPRA (by omega))]; exact h5
    · show M2.1 13 0 54 = _
      rw [e 13 54 (nPRA (by omega))]; exact h54
    · rw [eh 104 k (by omega)]; exact (hk k hk').1
    · obtain ⟨a1, b1, d1⟩ := (hk k hk').2 v hv
      exact ⟨RwM_c a1 (fun j => eh 102 j (by omega)), LiM_c b1 (fun k j hk => eh k j (by omega)), HeM_c d1 (fun k j hk => eh k j (by omega))⟩
    · exact ⟨fun i w hi => by rw [fi_L f2 (nPRA (by have := get_lt hi; have := hQ.1; omega))]; exact n1.1 i w hi, n1.2⟩
    · exact ⟨fun i w hi => by rw [fi_L f2 (nPRA (by have := get_lt hi; have := hQ.2; have := hw.2.2.1; omega))]; exact n2.1 i w hi, n2.2⟩
  | inr D =>
    rw [hS] at hr
    obtain ⟨r1, hD, hkD, hy⟩ := hr
    dsimp only at r1 hD
    subst r1
    refine ⟨fun _ => ?_, fun q => absurd rfl q⟩
    rw [ok_cv]
    refine ok_mono (lays_ok (by omega)) (fun M4 h4' => ?_)
    obtain ⟨f4, ly⟩ := h4'
    have mv4 := ctyD_MV hD hkD (c2 D hS) ly
    have nD := hkD.1
    have rm4 : RMo (ctyD D) (aM A) M4 := ⟨mv4, by
      unfold B0 at b2 ⊢
      rw [fi_I f4 (by unfold PLy; omega)]; exact b2, by
      unfold MoR at mo2 ⊢
      have e4 : ∀ j, M4.1 100 0 j = M2.1 100 0 j := fun j => fi_I f4 (by unfold PLy; omega)
      simp only [e4]; exact mo2⟩
    rw [ok_cv]
    refine ok_mono (fresh_ok hF (ctyD_WF hkD) rm4) (fun M5 h5' => ?_)
    obtain ⟨rm5, f5⟩ := h5'
    have e5 : ∀ k i, (63 ≤ k ∧ k ≤ 81) ∨ k = 13 → M5.1 k 0 i = M4.1 k 0 i := fun k i hk => fr_I f5 (by unfold PF; omega) i
    have e5L : ∀ k i, (63 ≤ k ∧ k ≤ 81) → M5.2.1 k 0 i = M4.2.1 k 0 i := fun k i hk => fr_L f5 (by unfold PF; omega) i
    rw [ok_gi, ok_nm, ok_gi, ok_nm, ok_nm, ok_bd, tc0]
    refine ⟨vp_of (by decide), vp_of (by decide), ?_⟩
    have f8 : fi (fun k n i => n = 0 ∧ ((k = 94 ∧ i = 0) ∨ (k = 97 ∧ i = 0) ∨ (k = 13 ∧ i = 54))) M5 (sI (sI (sI M5 94 0 0 0) 97 0 0 0) 13 0 54 0) := fi_sI (fi_sI (fi_sI fi_rf ⟨rfl, Or.inl ⟨rfl, rfl⟩⟩) ⟨rfl, Or.inr (Or.inl ⟨rfl, rfl⟩)⟩) ⟨rfl, Or.inr (Or.inr ⟨rfl, rfl⟩)⟩
    have u8 : (sI (sI (sI M5 94 0 0 0) 97 0 0 0) 13 0 54 0).1 94 0 0 = 0 ∧ (sI (sI (sI M5 94 0 0 0) 97 0 0 0) 13 0 54 0).1 97 0 0 = 0 ∧ (sI (sI (sI M5 94 0 0 0) 97 0 0 0) 13 0 54 0).1 13 0 54 = 0 := by simp [rII]
    generalize sI (sI (sI M5 94 0 0 0) 97 0 0 0) 13 0 54 0 = M8 at f8 u8 ⊢
    refine ok_mono (Q := fun M12 => fi (fun k n i => n = 0 ∧ k = 104) M8 M12 ∧ ∀ j, j < 4 → M12.1 104 0 j = 0) ?_ (fun M12 h12 => ok_some.mpr ⟨rfl, ?_, ?_⟩)
    · refine ok_for 4 (fun i z => z.1 = nI i ∧ fi (fun k n i => n = 0 ∧ k = 104) M8 z.2 ∧ ∀ j, j < i → z.2.1 104 0 j = 0) 0 (by omega) (by omega) ⟨rfl, fi_rf, fun j hj => by omega⟩ ?_
      rintro i ⟨x9, M10⟩ hi ⟨e1, g1, g2⟩
      dsimp only at e1 g1 g2
      subst e1
      have n0 : vp_nar .boolean (0 : Int32) = 0 := by decide
      have e4 : (4 : Int32) ≤ nI i ↔ 4 ≤ i := (nI_leI (by omega) (by omega) : nI 4 ≤ nI i ↔ 4 ≤ i)
      simp only [b_X12_city_1, b_X12_city_1c]
      rw [ok_ite, e4]
      refine ⟨fun q => ok_some.mpr ⟨g1, fun j hj => g2 j (by omega)⟩, fun q => ?_⟩
      rw [ok_gi, ok_nm, ok_some, nI_clamp (by omega), n0]
      refine ⟨vp_in_nI (by omega) (by decide), by omega, nI_1 i, fi_sI g1 ⟨rfl, rfl⟩, fun j hj => ?_⟩
      show (sI M10 104 0 i 0).1 104 0 j = 0
      rw [rII]
      by_cases q2 : j = i
      · rw [if_pos ⟨rfl, rfl, q2⟩]
      · rw [if_neg (by omega)]; exact g2 j (by omega)
    · obtain ⟨g1, g2⟩ := h12
      have g8 : fi (fun k n i => n = 0 ∧ ((k = 94 ∧ i = 0) ∨ (k = 97 ∧ i = 0) ∨ (k = 13 ∧ i = 54) ∨ k = 104)) M5 M12 := fi_tr (fi_mono f8 (fun k n i q => by omega)) (fi_mono g1 (fun k n i q => by omega))
      have e12 : ∀ k i, (63 ≤ k ∧ k ≤ 81) ∨ (k = 13 ∧ i = 1) → M12.1 k 0 i = M4.1 k 0 i := fun k i hk => (fi_I g8 (by omega)).trans (e5 k i (by omega))
      have e12L : ∀ k i, (63 ≤ k ∧ k ≤ 81) → M12.2.1 k 0 i = M4.2.1 k 0 i := fun k i hk => (fi_L g8 (by omega)).trans (e5L k i hk)
      obtain ⟨v64, v65, v66, v67, -⟩ := ly
      refine ⟨⟨RMo_fr rm5 (fr_fi g8) (fun k q => by obtain ⟨i, q⟩ := q; omega), ⟨?_, ?_⟩, ⟨?_, fun i u hu => by cases hu⟩, fun k hk => ⟨?_, fun v hv => by cases hv⟩, ⟨?_, fun i x hx => by cases hx⟩, ⟨?_, fun i x hx => by cases hx⟩, z54 M12 ?_⟩, ?_, ?_⟩
      · show M12.1 64 0 4 = nI (leansD D)
        rw [e12 64 4 (by omega), v64 4 (by omega)]; exact hD.2.1.2.1
      · show M12.1 64 0 5 = nI (clashD D)
        rw [e12 64 5 (by omega), v64 5 (by omega)]; exact hD.2.1.2.2
      · show M12.1 13 0 54 = 0
        rw [fi_I g1 (by omega)]; exact u8.2.2
      · exact g2 k hk
      · show M12.1 94 0 0 = 0
        rw [fi_I g1 (by omega)]; exact u8.1
      · show M12.1 97 0 0 = 0
        rw [fi_I g1 (by omega)]; exact u8.2.1
      · rw [e12 13 1 (by omega), fi_I f4 (by unfold PLy; omega)]; exact v1
      · have hn := hD.2.2.1.2.1
        obtain ⟨l1, l2, l3⟩ := len_n D
        refine ⟨fun i w hi => ?_, hn.2⟩
        have := get_lt hi
        have hi : (dOn D)[i]? = some w := hi
        have := get_lt hi
        rw [Nat.zero_add, e12L 66 i (by omega), v66 i (by omega)]; exact hn.1 i w hi
      · have hn := hD.2.2.1.2.2
        obtain ⟨l1, l2, l3⟩ := len_n D
        refine ⟨fun i w hi => ?_, hn.2⟩
        have hi : (dSn D)[i]? = some w := hi
        have := get_lt hi
        rw [Nat.zero_add, e12L 67 i (by omega), v67 i (by omega)]; exact hn.1 i w hi
    · obtain ⟨g1, -⟩ := h12
      refine ⟨by rw [g1.1, f8.1, f5.1, f4.1, fm2.1], fun k n i hk => ?_⟩
      have a := g1.2 k n i (by omega)
      have b := f8.2 k n i (by omega)
      have hp : ¬ PF k n := fun q => by unfold PF at q; omega
      have d := f4.2 k n i (by unfold PLy; omega)
      have m := fm2.2 k n i hk
      exact ⟨a.1.trans (b.1.trans ((fr_I f5 hp i).trans (d.1.trans m.1))), a.2.trans (b.2.trans ((fr_L f5 hp i).trans (d.2.trans m.2)))⟩
theorem city_g {A : sty} {Q : nmt} {N : Nat} {F : Nat} (hF : 3000 < F) {M : mm} (hA : AOK A N) (hQ : NOK A Q) (h : RMN A Q M) : AOK (cityS A Q).2.1 (N + 1) ∧ NOK (cityS A Q).2.1 (cityS A Q).2.2 := by
  have hT := AtT hA
  unfold cityS
  cases hS : spCity (aT A) with
  | inl z =>
    obtain ⟨k, q⟩ := z
    exact ⟨AOK_T hA ⟨Nat.zero_le _, fun x hx => by cases hx⟩, hQ⟩
  | inr D =>
    have hr := readsAll_ok (F := F) (by omega) h.1.2.2.2.2.2.2 hT
    obtain ⟨r, -, hr⟩ := hr
    unfold QAl at hr
    rw [hS] at hr
    obtain ⟨-, -, -, -, hk, -⟩ := hr
    obtain ⟨l1, l2, l3⟩ := len_n D
    exact ⟨newA_g hk, l2, l3⟩
