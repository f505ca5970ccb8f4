/-! the reference's repair -/
theorem weighW_ok {F : Nat} (hF : 1000 < F) {C : cty} {M : mm} {up : Int32} (hw : WF C) (h : MV C M) (hup : ∀ s, s < 32 → bt up s = true → s < cS C) :
    ok (m_X12_weighed F up M) (fun r => r = (wtS C up, M)) := by
  have hS := hw.1.2.2.1
  unfold m_X12_weighed
  rw [ok_bd]
  refine ok_mono (Q := fun v => v = wtS C up) ?_ (fun v hv => by subst hv; exact ok_some.mpr rfl)
  refine ok_for 11 (fun k z => z.2 = nI k ∧ z.1 = wtN C up (if k ≤ cS C then k else cS C)) 0 (by omega) (by omega) ⟨rfl, by rw [if_pos (Nat.zero_le _)]; rfl⟩ ?_
  rintro k ⟨x1, x2⟩ hk ⟨e1, e2⟩
  dsimp only at e1 e2
  subst e1 e2
  simp only [b_X12_weighed_1, b_X12_weighed_1c]
  have e6 : (11 : Int32) ≤ nI k ↔ 11 ≤ k := (nI_leI (by omega) (by omega) : nI 11 ≤ nI k ↔ 11 ≤ k)
  rw [ok_ite, e6]
  refine ⟨fun q => ok_some.mpr ?_, fun q => ?_⟩
  · show wtN C up (if k ≤ cS C then k else cS C) = wtN C up (cS C)
    by_cases e : k ≤ cS C
    · rw [if_pos e, show k = cS C by omega]
    · rw [if_neg e]
  rw [ok_bd]
  refine ok_mono (Q := fun v => v = if bt up k = true then cF C 8 k else 0) ?_ (fun v hv => ?_)
  · rw [ok_ite, b_bit1 _ (show k < 32 by omega)]
    refine ⟨fun q2 => ?_, fun q2 => ok_some.mpr (by rw [if_neg q2])⟩
    rw [ok_gi, ok_some, nI_clamp (by omega), if_pos q2]
    exact ⟨vp_in_nI (by omega) (by decide), (h.2.2.2.1 k (hup k (by omega) q2)).1⟩
  · subst hv
    rw [ok_nm, ok_some]
    refine ⟨by omega, nI_1 k, ?_⟩
    dsimp only
    by_cases e : k + 1 ≤ cS C
    · rw [if_pos e, if_pos (by omega)]; rfl
    · rw [if_neg e]
      have nb : ¬ bt up k = true := fun q => by have := hup k (by omega) q; omega
      rw [if_neg nb, Int32.add_zero]
      by_cases e2 : k ≤ cS C
      · rw [if_pos e2, show k = cS C by omega]
      · rw [if_neg e2]
def RpM (row : List Nat) (b : bst) (M : mm) : Prop := (∀ i x, row[i]? = some x → M.1 107 0 i = nI x) ∧ M.1 13 0 60 = b.1 ∧ ∀ i x, b.2[i]? = some x → M.1 108 0 i = nI x
def PAp : Nat → Nat → Nat → Prop := fun k n i => PF k n ∨ k = 107 ∨ k = 108 ∨ (k = 13 ∧ i = 60)
theorem RpM_fi {row : List Nat} {b : bst} {M M' : mm} {P : Nat → Nat → Nat → Prop} (h : RpM row b M) (f : fi P M M') (hP : ∀ k n i, P k n i → k ≠ 107 ∧ k ≠ 108 ∧ ¬ (k = 13 ∧ i = 60)) : RpM row b M' :=
  ⟨fun i x q => by rw [fi_I f (fun q => by have := hP _ _ _ q; omega)]; exact h.1 i x q, by rw [fi_I f (fun q => by have := hP _ _ _ q; omega)]; exact h.2.1, fun i x q => by rw [fi_I f (fun q => by have := hP _ _ _ q; omega)]; exact h.2.2 i x q⟩
theorem apS_none {C : cty} {mo : mty} {x : Nat} (hx : x < cO C) (hO : cO C ≤ 10) (h : bt mo.2.1 x = false) : apS C mo x = none := by
  unfold apS pardonS
  rw [nI_clamp (by omega), if_neg (fun q => by rw [h] at q; cases q.2.2)]
theorem RMo_p {C : cty} {mo : mty} {M M' : mm} {P : Nat → Nat → Nat → Prop} (h : RMo C mo M) (f : fi P M M') (hP : ∀ k n i, P k n i → k = 107 ∨ k = 108 ∨ k = 13) : RMo C mo M' :=
  RMo_fr h (fr_fi f) (fun k q => by obtain ⟨i, q⟩ := q; have := hP _ _ _ q; omega)
theorem ap2_ok {F : Nat} (hF : 1000 < F) {M : mm} : ok (lp (b_X12_apologizes_2 F) F ((0 : Int32), M)) (fun M' => fi (fun k _ _ => k = 108) M M' ∧ ∀ i, i < 3 → M'.1 108 0 i = M.1 107 0 i) := by
  refine ok_for 3 (fun i z => z.1 = nI i ∧ fi (fun k _ _ => k = 108) M z.2 ∧ ∀ j, j < i → z.2.1 108 0 j = M.1 107 0 j) 0 (by omega) (by omega) ⟨rfl, fi_rf, fun j hj => by omega⟩ ?_
  rintro i ⟨x1, M4⟩ hi ⟨e1, f4, v4⟩
  dsimp only at e1 f4 v4
  subst e1
  simp only [b_X12_apologizes_2, b_X12_apologizes_2c]
  have e6 : (3 : Int32) ≤ nI i ↔ 3 ≤ i := (nI_leI (by omega) (by omega) : nI 3 ≤ nI i ↔ 3 ≤ i)
  rw [ok_ite, e6]
  refine ⟨fun q => ok_some.mpr ⟨f4, fun j hj => v4 j (by omega)⟩, fun q => ?_⟩
  have hin : vp_in (nI i) 3 := vp_in_nI (by omega) (by decide)
  rw [ok_gi, ok_gi, ok_nm, ok_some, nI_clamp (by omega)]
  refine ⟨hin, hin, by omega, nI_1 i, fi_sI f4 rfl, fun j hj => ?_⟩
  dsimp only
  rw [rII]
  by_cases e : j = i
  · rw [if_pos ⟨rfl, rfl, e⟩, fi_I f4 (by omega), e]
  · rw [if_neg (fun q => e q.2.2)]; exact v4 j (by omega)
theorem apM_ok {F : Nat} (hF : 3000 < F) {C : cty} {many : Nat} (hw : WF C) (hm : many ≤ 3) : ∀ (n k d : Nat) (mo : mty) (row : List Nat) (b : bst) (M : mm) (Y : Nat), k < n → d + k = many → row.length = d → RMo C mo M → MG C mo Y → MS C mo → RpM row b M →
    ok (s_X12_apologizes_n F n (nI d) (nI many) M) (fun M' => RMo C mo M' ∧ RpM row (rpR C k mo row b) M' ∧ fi PAp M M') := by
  have hO := hw.1.2.1
  intro n
  induction n with
  | zero => intro k d mo row b M Y hk; omega
  | succ n ih =>
    intro k d mo row b M Y hk hd hr h hg hs hp
    obtain ⟨m0, m1, m2, m3⟩ := id h.2.2
    show ok (s_X12_apologizes (s_X12_apologizes_n F n) F (nI d) (nI many) M) _
    unfold s_X12_apologizes
    rw [ok_ite, nI_eq (by omega) (by omega)]
    cases k with
    | zero =>
      refine ⟨fun _ => ?_, fun q => absurd (by omega) q⟩
      rw [ok_gi, ok_cl, tc3, m3]
      refine ⟨vp_of (by decide), ok_mono (weighW_ok (by omega) hw h.1 hg.2.2.2) (fun r hr2 => ?_)⟩
      subst hr2
      dsimp only
      rw [ok_ite, hp.2.1]
      show (b.1 < wtS C mo.2.2.2 → _) ∧ _
      have e0 : rpR C 0 mo row b = if b.1 < wtS C mo.2.2.2 then (wtS C mo.2.2.2, row) else b := rfl
      refine ⟨fun q => ?_, fun q => ok_some.mpr ⟨h, by rw [e0, if_neg q]; exact hp, fi_rf⟩⟩
      rw [ok_nm, ok_bd]
      have f1 : fi (fun k _ i => k = 13 ∧ i = 60) M (sI M 13 0 60 (wtS C mo.2.2.2)) := fi_sI fi_rf ⟨rfl, rfl⟩
      have v1 : (sI M 13 0 60 (wtS C mo.2.2.2)).1 13 0 60 = wtS C mo.2.2.2 := by rw [rII, if_pos ⟨rfl, rfl, rfl⟩]
      generalize sI M 13 0 60 (wtS C mo.2.2.2) = M1 at f1 v1 ⊢
      refine ok_mono (ap2_ok (by omega)) (fun M2 h2 => ok_some.mpr ?_)
      obtain ⟨f2, v2⟩ := h2
      rw [e0, if_pos q]
      refine ⟨RMo_p (RMo_p h f1 (fun k n i q => by omega)) f2 (fun k n i q => by omega), ⟨fun i x hi => ?_, ?_, fun i x hi => ?_⟩, fi_tr (fi_mono f1 (fun k n i q => Or.inr (Or.inr (Or.inr q)))) (fi_mono f2 (fun k n i q => Or.inr (Or.inr (Or.inl q))))⟩
      · rw [fi_I f2 (by omega), fi_I f1 (by omega)]; exact hp.1 i x hi
      · rw [fi_I f2 (by omega)]; exact v1
      · have : i < row.length := (List.getElem?_eq_some_iff.mp hi).1
        rw [v2 i (by omega), fi_I f1 (by omega)]; exact hp.1 i x hi
    | succ k =>
      refine ⟨fun q => by omega, fun _ => ?_⟩
      rw [ok_gi, ok_nm, ok_gi, ok_nm, ok_gi, ok_nm, ok_gi, ok_nm, ok_bd, tc0, tc1, tc2, tc3, m0, m1, m2, m3]
      refine ⟨vp_of (by decide), vp_of (by decide), vp_of (by decide), vp_of (by decide), ?_⟩
      refine ok_mono (Q := fun M' => RMo C mo M' ∧ RpM row (rpR C (k + 1) mo row b) M' ∧ fi PAp M M') ?_ (fun M' hM' => ok_some.mpr hM')
      refine ok_for (cO C) (fun x z => z.1 = nI x ∧ RMo C mo z.2 ∧ fi PAp M z.2 ∧ ∃ bx, RpM row bx z.2 ∧ itF (chF C k mo row) (cO C - x) x bx = rpR C (k + 1) mo row b) 0 (by omega) (by omega) ⟨rfl, h, fi_rf, b, hp, rfl⟩ ?_
      rintro x ⟨x5, M6⟩ hx ⟨e1, h6, f6, bx, hpx, hit⟩
      dsimp only at e1 h6 f6 hpx
      subst e1
      simp only [b_X12_apologizes_1, b_X12_apologizes_1c]
      rw [ok_gi, tc1, h6.1.1.2.1, ok_ite, nI_leI (by omega) (by omega)]
      refine ⟨vp_of (by decide), fun q => ok_some.mpr ?_, fun q => ?_⟩
      · have : x = cO C := by omega
        subst this
        rw [Nat.sub_self] at hit
        exact ⟨h6, by rw [← hit]; exact hpx, f6⟩
      have hx' : x < cO C := by omega
      have hit2 : itF (chF C k mo row) (cO C - (x + 1)) (x + 1) (chF C k mo row x bx) = rpR C (k + 1) mo row b := by
        rw [← hit, show cO C - x = (cO C - (x + 1)) + 1 by omega]; rfl
      rw [ok_bd]
      refine ok_mono (Q := fun M' => RMo C mo M' ∧ fi PAp M M' ∧ RpM row (chF C k mo row x bx) M') ?_ (fun M' hM' => ok_some.mpr ⟨hx', nI_1 x, hM'.1, hM'.2.1, _, hM'.2.2, hit2⟩)
      rw [ok_ite, b_bit0 _ (show x < 32 by omega)]
      refine ⟨fun q2 => ok_some.mpr ⟨h6, f6, by unfold chF; rw [apS_none hx' hO q2]; exact hpx⟩, fun q2 => ?_⟩
      have hbx : bt mo.2.1 x = true := by simpa using q2
      obtain ⟨mm', hmm⟩ := apS_some hx' hO hbx
      have hmm2 := hmm
      unfold apS at hmm2
      cases ep : pardonS C mo (nI x) with
      | none => rw [ep] at hmm2; cases hmm2
      | some m1' =>
        rw [ep] at hmm2
        have hmm3 := Option.some.inj hmm2
        obtain ⟨pg, ps⟩ := pardonS_g hw hg ep
        have hpd : fallM C (mo.1, mo.2.1 &&& (bitI (nI x) ^^^ (-1)), mo.2.2.1 ||| bitI (nI x), mo.2.2.2) = m1' := by
          unfold pardonS at ep
          split at ep
          · exact Option.some.inj ep
          · cases ep
        rw [ok_gi, ok_nm, nI_clamp (by omega), ok_cv]
        refine ⟨vp_in_nI (by omega) (by decide), ?_⟩
        have f7 : fi (fun k _ i => k = 107 ∧ i = d) M6 (sI M6 107 0 d (nI x)) := fi_sI fi_rf ⟨rfl, rfl⟩
        have h7 : RMo C mo (sI M6 107 0 d (nI x)) := RMo_p h6 f7 (fun k n i q => by omega)
        have v7 : (sI M6 107 0 d (nI x)).1 107 0 d = nI x := by rw [rII, if_pos ⟨rfl, rfl, rfl⟩]
        have p7 : RpM (row ++ [x]) bx (sI M6 107 0 d (nI x)) := by
          refine ⟨fun i y hi => ?_, by rw [fi_I f7 (by omega)]; exact hpx.2.1, fun i y hi => by rw [fi_I f7 (by omega)]; exact hpx.2.2 i y hi⟩
          rcases getq_snoc hi with ⟨a, c⟩ | ⟨a, c⟩
          · rw [fi_I f7 (by omega)]; exact hpx.1 i y c
          · subst c; rw [a, hr]; exact v7
        generalize sI M6 107 0 d (nI x) = M7 at f7 h7 v7 p7 ⊢
        refine ok_mono (forgives_ok h7 (nI x)) (fun M8 h8 => ?_)
        obtain ⟨h8, f8⟩ := h8
        rw [ok_cl]
        refine ok_mono (falls_ok hF hw h8 hg.2.2.2) (fun r hr9 => ?_)
        obtain ⟨x10, M9⟩ := r
        obtain ⟨-, h9, f9⟩ := hr9
        dsimp only at h9 f9 ⊢
        rw [hpd] at h9
        rw [ok_cv]
        refine ok_mono (raisesAll_ok hF hw h9 pg ps) (fun M11 h11 => ?_)
        obtain ⟨h11, f11⟩ := h11
        obtain ⟨rg, rs'⟩ := raiseN_g hw pg ps (cS C)
        rw [ok_cl]
        refine ok_mono (passes_ok hF hw h11 rg.2.2.2) (fun r hr12 => ?_)
        obtain ⟨x13, M12⟩ := r
        obtain ⟨-, h12, f12⟩ := hr12
        dsimp only at h12 f12 ⊢
        rw [hmm3] at h12
        have fA : fr PF M7 M12 := fr_tr (fr_mono f8 (fun k n q => by unfold PF; omega)) (fr_tr f9 (fr_tr f11 f12))
        have p12 : RpM (row ++ [x]) bx M12 := RpM_fi p7 (fi_fr (P := fun k n _ => PF k n) fA (fun k n i q => q)) (fun k n i q => by unfold PF at q; omega)
        have ag := apS_g hw hg hmm
        rw [ok_cv, nI_1]
        refine ok_mono (ih k (d + 1) mm' (row ++ [x]) bx M12 (Y + 1) (by omega) (by omega) (by rw [List.length_append, List.length_singleton, hr]) h12 ag.1 ag.2 p12) (fun M14 h14 => ?_)
        obtain ⟨h14, p14, f14⟩ := h14
        rw [ok_gi, ok_nm, ok_gi, ok_nm, ok_gi, ok_nm, ok_gi, ok_nm, ok_some, tc0, tc2, tc3]
        have f18 : fr (fun k _ => k = 100) M14 (sI (sI (sI (sI M14 100 0 0 mo.1) 100 0 1 mo.2.1) 100 0 2 mo.2.2.1) 100 0 3 mo.2.2.2) := fr_sI (fr_sI (fr_sI (fr_sI fr_rf rfl) rfl) rfl) rfl
        refine ⟨vp_of (by decide), vp_of (by decide), vp_of (by decide), vp_of (by decide), RMo_100 h14 f18 (by unfold MoR; simp [rII]), fi_tr f6 (fi_tr (fi_mono f7 (fun k n i q => Or.inr (Or.inl q.1))) (fi_tr (fi_fr fA (fun k n i q => Or.inl q)) (fi_tr f14 (fi_fr f18 (fun k n i q => Or.inl (by unfold PF; omega)))))), ?_⟩
        have p18 := RpM_fi p14 (fi_fr (P := fun k _ _ => k = 100) f18 (fun k n i q => q)) (fun k n i q => by omega)
        have ec : chF C k mo row x bx = rpR C k mm' (row ++ [x]) bx := by unfold chF; rw [hmm]
        rw [ec]
        refine ⟨fun i y hi => p18.1 i y ?_, p18.2⟩
        rw [List.getElem?_append_left (List.getElem?_eq_some_iff.mp hi).1]; exact hi
theorem repairM {F : Nat} (hF : 3000 < F) {A : sty} {N : Nat} {M : mm} {a b : Int32} (hA : AOK A N) (h : RM A M) : ok (m_X12_repair F a b M) (fun r => RpA (aC A) (aM A) a b r.1 ∧ RM A r.2 ∧ FrM M r.2) := by
  have hw := hA.1
  have z0 : (0 : Int32).toInt = 0 := rfl
  have z1 : (1 : Int32).toInt = 1 := rfl
  have z3 : (3 : Int32).toInt = 3 := rfl
  have h1 : RM A (sI M 13 0 0 0) := RM_fi h thr_f PT_GM
  have f1 : fi PV M (sI M 13 0 0 0) := fi_mono thr_f (fun k n i q => Or.inl q)
  unfold m_X12_repair
  rw [ok_nm, ok_cb]
  generalize sI M 13 0 0 0 = M1 at h1 f1 ⊢
  have no : ¬ ((1 ≤ a ∧ a ≤ 3) ∧ (0 ≤ b ∧ b ≤ a) ∧ a ≤ nI (popN (aM A).2.1)) → RpA (aC A) (aM A) a b (-1) ∧ RM A M1 ∧ FrM M M1 := fun q => ⟨Or.inl ⟨q, rfl⟩, RM_pv h f1 h1.1⟩
  refine ok_mono within_ok (fun r hr => ?_)
  subst hr
  dsimp only
  rw [ok_ite, decide_eq_true_iff]
  refine ⟨fun q1 => ?_, fun q => ok_some.mpr (no (fun q2 => q q2.1))⟩
  rw [ok_cb]
  refine ok_mono within_ok (fun r hr => ?_)
  subst hr
  dsimp only
  rw [ok_ite, decide_eq_true_iff]
  refine ⟨fun q2 => ?_, fun q => ok_some.mpr (no (fun q2 => q q2.2.1))⟩
  obtain ⟨m0, m1, m2, m3⟩ := id h1.1.2.2
  rw [ok_gi, tc1, m1, ok_cl]
  refine ⟨vp_of (by decide), ok_mono (bits_ok (by omega)) (fun r hr => ?_)⟩
  subst hr
  dsimp only
  rw [ok_ite]
  refine ⟨fun q3 => ?_, fun q => ok_some.mpr (no (fun q2 => q q2.2.2))⟩
  obtain ⟨k, hk1, rfl⟩ : ∃ k : Nat, (1 ≤ k ∧ k ≤ 3) ∧ a = nI k := by
    have := q1
    simp only [i_le, z1, z3] at this
    exact ⟨a.toNatClampNeg, by have := i_clamp (a := a) (by omega); omega, i_nI (by omega)⟩
  have hpl := popN_le (aM A).2.1
  have hkp : k ≤ popN (aM A).2.1 := (nI_leI (by omega) (by omega)).mp q3
  have hbr : ∀ x, x < 32 → bt (aM A).2.1 x = true → x < cO (aC A) := fun x hx q => (hA.2.1.1.2.1 x hx q).1
  have fd := rp_hit (many := k) hw k (aM A) [] (-1, []) hbr hkp (by simp) (Or.inl rfl)
  rw [ok_nm, ok_cv]
  have f8 : fi (fun k _ i => k = 13 ∧ i = 60) M1 (sI M1 13 0 60 (-1)) := fi_sI fi_rf ⟨rfl, rfl⟩
  have h8 : RMo (aC A) (aM A) (sI M1 13 0 60 (-1)) := RMo_p h1.1 f8 (fun k n i q => by omega)
  have p8 : RpM [] (-1, []) (sI M1 13 0 60 (-1)) := ⟨fun i x q => (by simp at q), (by rw [rII, if_pos ⟨rfl, rfl, rfl⟩]), fun i x q => (by simp at q)⟩
  generalize sI M1 13 0 60 (-1) = M8 at f8 h8 p8 ⊢
  refine ok_mono (apM_ok hF hw hk1.2 5 k 0 (aM A) [] (-1, []) M8 (100 * N) (by omega) (by omega) rfl h8 hA.2.1.1 hA.2.1.2 p8) (fun M9 h9 => ?_)
  obtain ⟨h9, p9, f9⟩ := h9
  have fall : fi (fun k n i => PV k n i ∨ PAp k n i) M M9 := fi_tr (fi_mono f1 (fun k n i q => Or.inl q)) (fi_tr (fi_mono f8 (fun k n i q => Or.inr (Or.inr (Or.inr (Or.inr q))))) (fi_mono f9 (fun k n i q => Or.inr q)))
  have fin : RM A M9 ∧ FrM M M9 := ⟨⟨h9, RMs_fi h.2 fall (fun k n i q => by unfold PV PT PD PAp PF at q; unfold GM; omega)⟩, FrM_fi fall (fun k n i q => by unfold PV PT PD PAp PF at q; omega)⟩
  have eN : (nI k).toNatClampNeg = k := nI_clamp (by omega)
  rw [ok_ite]
  refine ⟨fun q4 => ok_some.mpr ⟨Or.inr ⟨⟨q1, q2, q3⟩, Or.inl ⟨q4, by rw [eN]; exact p9.2.1⟩⟩, fin⟩, fun q4 => ?_⟩
  have eb : (b - 1).toInt = b.toInt - 1 := i_sub (by rw [z1]; have := i_lo b; have := q2.1; rw [i_le, z0] at this; omega) (by rw [z1]; have := i_hi b; omega)
  have b0 : 0 ≤ b.toInt := by have := q2.1; rw [i_le, z0] at this; exact this
  have bk : b.toInt ≤ k := by have := q2.2; rw [i_le, nI_toInt (by omega)] at this; exact this
  have bn : b.toInt ≠ 0 := fun e => q4 (i_eq.mpr (by rw [e, z0]))
  have ec := i_clamp (a := b - 1) (by omega)
  have hlt : (b - 1).toNatClampNeg < k := by omega
  obtain ⟨x, hx⟩ : ∃ x, (repairB (aC A) (aM A) k).2[(b - 1).toNatClampNeg]? = some x := ⟨_, List.getElem?_eq_getElem (show (b - 1).toNatClampNeg < (repairB (aC A) (aM A) k).2.length by have := fd.1; unfold repairB; omega)⟩
  rw [ok_gi, ok_some]
  exact ⟨i_in (by omega) (by omega), Or.inr ⟨⟨q1, q2, q3⟩, Or.inr ⟨q4, x, by rw [eN]; exact hx, p9.2.2 _ _ hx⟩⟩, fin⟩
