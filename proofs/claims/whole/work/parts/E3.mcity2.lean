/-! the reference reads a city -/
theorem bI_t : ¬ bI true = 0 := by decide
theorem bI_f : bI false = 0 := by decide
theorem lineM_ok {F : Nat} (hF : 2000 < F) {T : List Int32} {p : Nat} {D : dft} {M : mm} (h : AtM T p M) (hD : DMK D M) (hk : (tkA T p).1 ≠ 0) : ok (b_X12_readsAll_1c F M) (Sum.elim (fun M' => ∃ p' D', spLine T D p = .inr (p', D') ∧ AtM T p' M' ∧ DMK D' M' ∧ fi PRm M M') (Sum.elim (fun M' => ∃ k q, spLine T D p = .inl (k, q) ∧ M'.1 13 0 9 = nI (k + 16 * tkB T q) ∧ fi PRm M M') (fun _ => False))) := by
  have h6 : M.1 13 0 6 = nI (kmap (tkA T p).1) := h.2.2.2.2.1
  have e0 : nI (kmap (tkA T p).1) = (0 : Int32) ↔ (tkA T p).1 = 0 := km_eq T p (k := 0) (j := 0) (by decide) rfl
  unfold b_X12_readsAll_1c
  rw [h6, ok_ite, e0]
  refine ⟨fun q => absurd q hk, fun _ => ?_⟩
  have good : ∀ {g : Option (Bool × mm)} {x : res}, spLine T D p = x → ok g (QRM T DMK PRm M x) → ok (cb g fun b M' => some (bI b, M')) (fun z => ok (match z with | (x36, M37) => if x36 = (0 : Int32) then (some (.inr (.inl M37)) : Option ((mm) ⊕ ((mm) ⊕ (mm)))) else some (.inl M37)) (Sum.elim (fun M' => ∃ p' D', spLine T D p = .inr (p', D') ∧ AtM T p' M' ∧ DMK D' M' ∧ fi PRm M M') (Sum.elim (fun M' => ∃ k q, spLine T D p = .inl (k, q) ∧ M'.1 13 0 9 = nI (k + 16 * tkB T q) ∧ fi PRm M M') (fun _ => False)))) := fun {g x} hx hg => by
    rw [ok_cb]
    refine ok_mono hg (fun r hr => ok_some.mpr ?_)
    obtain ⟨b, M'⟩ := r
    obtain ⟨f, hr⟩ := hr
    dsimp only at f hr ⊢
    cases x with
    | inl z =>
      obtain ⟨k, q⟩ := z
      obtain ⟨r1, r2⟩ := hr
      subst r1
      rw [if_pos bI_f]
      exact ok_some.mpr ⟨k, q, hx, r2, f⟩
    | inr z =>
      obtain ⟨p', D'⟩ := z
      obtain ⟨r1, r2, r3⟩ := hr
      subst r1
      rw [if_neg bI_t]
      exact ok_some.mpr ⟨p', D', hx, r2, r3, f⟩
  rw [ok_cb]
  refine ok_mono (isWordM_ok (i := 0) h (by decide) kc0) (fun r hr => ?_)
  subst hr
  dsimp only
  rw [ok_bd, ok_ite]
  refine ⟨fun q => good (if_pos q) (readsPerson_ok hF h hD), fun q0 => ?_⟩
  rw [ok_cb]
  refine ok_mono (isWordM_ok (i := 3) h (by decide) kc3) (fun r hr => ?_)
  subst hr
  dsimp only
  rw [ok_ite]
  refine ⟨fun q => good (by unfold spLine; rw [if_neg q0, if_pos q]) (readsOath_ok hF h hD), fun q3 => ?_⟩
  rw [ok_cb]
  refine ok_mono (isWordM_ok (i := 6) h (by decide) kc6) (fun r hr => ?_)
  subst hr
  dsimp only
  rw [ok_ite]
  refine ⟨fun q => good (by unfold spLine; rw [if_neg q0, if_neg q3, if_pos q]) (readsLean_ok hF h hD), fun q6 => ?_⟩
  rw [ok_cb]
  refine ok_mono (isWordM_ok (i := 7) h (by decide) kc7) (fun r hr => ?_)
  subst hr
  dsimp only
  rw [ok_ite]
  refine ⟨fun q => good (by unfold spLine; rw [if_neg q0, if_neg q3, if_neg q6, if_pos q]) (readsClash_ok hF h hD), fun q7 => ?_⟩
  rw [ok_cb]
  refine ok_mono (isWordM_ok (i := 8) h (by decide) kc8) (fun r hr => ?_)
  subst hr
  dsimp only
  rw [ok_ite]
  refine ⟨fun q => good (by unfold spLine; rw [if_neg q0, if_neg q3, if_neg q6, if_neg q7, if_pos q]) (readsStone_ok hF h hD), fun q8 => ?_⟩
  rw [ok_cb]
  refine ok_mono (isWordM_ok (i := 12) h (by decide) kc12) (fun r hr => ?_)
  subst hr
  dsimp only
  rw [ok_ite]
  refine ⟨fun q => good (by unfold spLine; rw [if_neg q0, if_neg q3, if_neg q6, if_neg q7, if_neg q8, if_pos q]) (readsAge_ok hF h hD), fun q12 => ?_⟩
  rw [ok_cb]
  refine ok_mono (isWordM_ok (i := 13) h (by decide) kc13) (fun r hr => ?_)
  subst hr
  dsimp only
  rw [ok_ite]
  refine ⟨fun q => good (by unfold spLine; rw [if_neg q0, if_neg q3, if_neg q6, if_neg q7, if_neg q8, if_neg q12, if_pos q]) (readsMend_ok hF h hD), fun q13 => ?_⟩
  refine good (x := .inl (1, p)) (by unfold spLine; rw [if_neg q0, if_neg q3, if_neg q6, if_neg q7, if_neg q8, if_neg q12, if_neg q13]) ?_
  exact ok_mono (fails_ok (k := 1) h) (fun r hr => ⟨fi_mono hr.2.2 PRm_6, hr.1, hr.2.1⟩)
theorem starts_ok {F : Nat} (hF : 2000 < F) {T : List Int32} {M : mm} (hT : TpM M T) (hg : TgOk T) : ok (m_X12_starts F M) (fun M' => AtM T 0 M' ∧ M'.1 13 0 1 = 0 ∧ fi (fun k n i => (k = 13 ∧ n = 0 ∧ (i = 1 ∨ i = 3)) ∨ P13 k n i) M M') := by
  unfold m_X12_starts
  rw [ok_nm, ok_nm, ok_nm, hT.1, ok_cv]
  have f3 : fi (fun k n i => k = 13 ∧ n = 0 ∧ (i = 1 ∨ i = 3 ∨ i = 4)) M (sI (sI (sI M 13 0 3 (nI T.length)) 13 0 1 0) 13 0 4 0) := fi_sI (fi_sI (fi_sI fi_rf ⟨rfl, rfl, Or.inr (Or.inl rfl)⟩) ⟨rfl, rfl, Or.inl rfl⟩) ⟨rfl, rfl, Or.inr (Or.inr rfl)⟩
  have u : (sI (sI (sI M 13 0 3 (nI T.length)) 13 0 1 0) 13 0 4 0).1 13 0 3 = nI T.length ∧ (sI (sI (sI M 13 0 3 (nI T.length)) 13 0 1 0) 13 0 4 0).1 13 0 1 = 0 ∧ (sI (sI (sI M 13 0 3 (nI T.length)) 13 0 1 0) 13 0 4 0).1 13 0 4 = nI 0 := by simp [rII]; rfl
  generalize sI (sI (sI M 13 0 3 (nI T.length)) 13 0 1 0) 13 0 4 0 = M3 at f3 u ⊢
  have t3 : TpS T M3 := ⟨⟨u.1, fun i x hx => (fi_I f3 (by omega)).trans (hT.2 i x hx)⟩, hg.1, hg.2⟩
  refine ok_mono (nextToken_ok hF t3 (Nat.zero_le _) u.2.2) (fun M4 h4 => ok_some.mpr ?_)
  obtain ⟨k4, f4⟩ := h4
  refine ⟨⟨Nat.zero_le _, TpS_c t3 f4 (fun k n i q => by unfold P13 at q; omega), k4⟩, (fi_I f4 (by unfold P13; omega)).trans u.2.1, fi_tr (fi_mono f3 (fun k n i q => by unfold P13; omega)) (fi_mono f4 (fun k n i q => Or.inr q))⟩
def PRA : Nat → Nat → Nat → Prop := fun k n i => PRm k n i ∨ (k = 13 ∧ (i = 1 ∨ i = 3))
def QAl (T : List Int32) (M : mm) (r : Bool × mm) : Prop := fi PRA M r.2 ∧ r.2.1 13 0 1 = 0 ∧ match spCity T with
  | .inl (k, q) => r.1 = false ∧ r.2.1 13 0 9 = nI (k + 16 * tkB T q)
  | .inr D => r.1 = true ∧ DMK D r.2
theorem plain_ok {F : Nat} (hF : 2000 < F) {M : mm} : ok (m_X12_plain F (1 : Int32) M) (fun M' => fi (fun k n i => n = 0 ∧ ((k = 64 ∧ 6 ≤ i ∧ i < 12) ∨ ((k = 79 ∨ k = 80) ∧ i = 1))) M M' ∧ (∀ i, i < 6 → M'.1 64 0 (6 + i) = if i = 3 then 5 else 0) ∧ M'.1 79 0 1 = nI 1000 ∧ M'.1 80 0 1 = nI 1000) := by
  unfold m_X12_plain
  rw [ok_bd]
  refine ok_mono (Q := fun M8 => fi (fun k n i => n = 0 ∧ k = 64 ∧ 6 ≤ i ∧ i < 12) M M8 ∧ ∀ i, i < 6 → M8.1 64 0 (6 + i) = 0) ?_ (fun M8 h8 => ?_)
  · refine ok_for 6 (fun i z => z.1 = nI i ∧ fi (fun k n i => n = 0 ∧ k = 64 ∧ 6 ≤ i ∧ i < 12) M z.2 ∧ ∀ j, j < i → z.2.1 64 0 (6 + j) = 0) 0 (by omega) (by omega) ⟨rfl, fi_rf, fun j hj => by omega⟩ ?_
    rintro i ⟨x5, M6⟩ hi ⟨e1, f6, v6⟩
    dsimp only at e1 f6 v6
    subst e1
    have e6 : (6 : Int32) ≤ nI i ↔ 6 ≤ i := (nI_leI (by omega) (by omega) : nI 6 ≤ nI i ↔ 6 ≤ i)
    have e7 : (6 : Int32) * (1 : Int32) + nI i = nI (6 + i) := nI_add 6 i
    simp only [b_X12_plain_1, b_X12_plain_1c]
    rw [ok_ite, e6]
    refine ⟨fun q => ok_some.mpr ⟨f6, fun j hj => v6 j (by omega)⟩, fun q => ?_⟩
    rw [e7, ok_gi, ok_nm, ok_some, nI_clamp (by omega)]
    refine ⟨vp_in_nI (by omega) (by decide), by omega, nI_1 i, fi_sI f6 ⟨rfl, rfl, by omega, by omega⟩, fun j hj => ?_⟩
    show (sI M6 64 0 (6 + i) 0).1 64 0 (6 + j) = 0
    rw [rII]
    by_cases e : j = i
    · rw [if_pos ⟨rfl, rfl, by omega⟩]
    · rw [if_neg (by omega)]; exact v6 j (by omega)
  · obtain ⟨f8, v8⟩ := h8
    have t9 : ((6 : Int32) * (1 : Int32) + (3 : Int32)).toNatClampNeg = 9 := by decide
    rw [ok_gi, ok_nm, ok_gi, ok_nm, ok_gi, ok_nm, ok_some, t9, tc1]
    refine ⟨vp_of (by decide), vp_of (by decide), vp_of (by decide), fi_tr (fi_mono f8 (fun k n i q => ⟨q.1, Or.inl ⟨q.2.1, q.2.2.1, q.2.2.2⟩⟩)) (fi_sI (fi_sI (fi_sI fi_rf ⟨rfl, Or.inl ⟨rfl, by decide, by decide⟩⟩) ⟨rfl, Or.inr ⟨Or.inl rfl, rfl⟩⟩) ⟨rfl, Or.inr ⟨Or.inr rfl, rfl⟩⟩), fun i hi => ?_, ?_, ?_⟩
    · rw [rII, if_neg (by omega), rII, if_neg (by omega), rII]
      by_cases e : i = 3
      · rw [if_pos ⟨rfl, rfl, by omega⟩, if_pos e]
      · rw [if_neg (by omega), if_neg e]; exact v8 i hi
    · rw [rII, if_neg (by omega), rII, if_pos ⟨rfl, rfl, rfl⟩]; rfl
    · rw [rII, if_pos ⟨rfl, rfl, rfl⟩]; rfl
theorem PRm_1 {n : Nat} : ¬ PRm 13 n 1 := fun q => by
  rcases q with q | q | q | q | q | q | q | q | q | q | q | q | q | q
  · unfold PM6 at q; omega
  all_goals omega
theorem readsAll_ok {F : Nat} (hF : 2000 < F) {T : List Int32} {M : mm} (hT : TpM M T) (hg : TgOk T) : ok (m_X12_readsAll F M) (QAl T M) := by
  unfold m_X12_readsAll QAl
  rw [ok_cv]
  refine ok_mono (plain_ok hF) (fun M1 h1 => ?_)
  obtain ⟨f1, v64, v79, v80⟩ := h1
  rw [ok_nm, ok_nm, ok_cv]
  have f3 : fi (fun k n i => k = 13 ∧ n = 0 ∧ (i = 28 ∨ i = 29)) M1 (sI (sI M1 13 0 29 0) 13 0 28 1000) := fi_sI (fi_sI fi_rf ⟨rfl, rfl, Or.inr rfl⟩) ⟨rfl, rfl, Or.inl rfl⟩
  have u29 : (sI (sI M1 13 0 29 0) 13 0 28 1000).1 13 0 29 = 0 := by rw [rII, if_neg (by omega), rII, if_pos ⟨rfl, rfl, rfl⟩]
  have u28 : (sI (sI M1 13 0 29 0) 13 0 28 1000).1 13 0 28 = nI 1000 := by rw [rII, if_pos ⟨rfl, rfl, rfl⟩]; rfl
  generalize sI (sI M1 13 0 29 0) 13 0 28 1000 = M3 at f3 u29 u28 ⊢
  have t3 : TpM M3 T := ⟨(fi_I f3 (by omega)).trans ((fi_I f1 (by omega)).trans hT.1), fun i x hx => (fi_I f3 (by omega)).trans ((fi_I f1 (by omega)).trans (hT.2 i x hx))⟩
  refine ok_mono (starts_ok hF t3 hg) (fun M4 h4 => ?_)
  obtain ⟨a4, w1, f4⟩ := h4
  have fs : fi PRA M M4 := fi_tr (fi_mono f1 (fun k n i q => Or.inl (q.2.elim (fun q => PRm_a q.1 q.2.1) (fun q => PRm_79 q)))) (fi_tr (fi_mono f3 (fun k n i q => Or.inl (PRm_f ⟨q.1, q.2.2⟩))) (fi_mono f4 (fun k n i q => q.elim (fun q => Or.inr ⟨q.1, q.2.2⟩) (fun q => Or.inl (PRm_6 k n i (P13_6 k n i q))))))
  have e : ∀ k i, (64 ≤ k ∧ k ≤ 80) ∨ (k = 13 ∧ (i = 28 ∨ i = 29)) → M4.1 k 0 i = M3.1 k 0 i := fun k i hk => fi_I f4 (by unfold P13; omega)
  have e3 : ∀ k i, (64 ≤ k ∧ k ≤ 80) → M3.1 k 0 i = M1.1 k 0 i := fun k i hk => fi_I f3 (by omega)
  have c4 : DMK D00 M4 := by
    have g : ∀ i, i < 6 → M4.1 64 0 (6 + i) = if i = 3 then 5 else 0 := fun i hi => by rw [e 64 _ (by omega), e3 64 _ (by omega)]; exact v64 i hi
    refine ⟨⟨⟨g 0 (by decide), g 1 (by decide), g 2 (by decide)⟩, ⟨g 3 (by decide), g 4 (by decide), g 5 (by decide)⟩, ⟨⟨fun i w h => (by cases h), fun w h => by cases h⟩, ⟨fun i w h => (by cases h), fun w h => by cases h⟩, ⟨fun i w h => (by cases h), fun w h => by cases h⟩⟩, fun i e h => (by cases h), fun i e h => (by cases h), fun i e h => (by cases h), ?_, ?_, ?_, ?_⟩, DOK_00, fun x y hx => absurd hx (Nat.not_lt_zero _)⟩
    · rw [e 13 29 (by omega)]; exact u29
    · rw [e 79 1 (by omega), e3 79 1 (by omega)]; exact v79
    · rw [e 80 1 (by omega), e3 80 1 (by omega)]; exact v80
    · rw [e 13 28 (by omega)]; exact u28
  rw [ok_bd]
  refine ok_mono (Q := Sum.elim (fun M9 => ∃ k q, spCity T = .inl (k, q) ∧ M9.1 13 0 9 = nI (k + 16 * tkB T q) ∧ fi PRm M4 M9) (fun M10 => ∃ D, spCity T = .inr D ∧ DMK D M10 ∧ fi PRm M4 M10)) ?_ (fun r hr => ?_)
  · refine ok_lp (fun n z => ∃ q D fu, n = T.length - q ∧ spCity T = spCityL T (fu + 1) q D ∧ T.length < fu + 1 + q ∧ AtM T q z ∧ DMK D z ∧ fi PRm M4 z) ?_ F T.length _ (by have := hg.1; omega) ⟨0, D00, T.length, rfl, rfl, by omega, a4, c4, fi_rf⟩
    rintro n M6 ⟨q, D, fu, rfl, hR, hfu, a6, c6, fr⟩
    have hq := a6.1
    have eU : spCityL T (fu + 1) q D = if (tkA T q).1 = 0 then .inr D else match spLine T D q with
        | .inl e => .inl e
        | .inr (p', D') => spCityL T fu p' D' := rfl
    unfold b_X12_readsAll_1
    by_cases r : (tkA T q).1 = 0
    · have e0 : nI (kmap (tkA T q).1) = (0 : Int32) ↔ (tkA T q).1 = 0 := km_eq T q (k := 0) (j := 0) (by decide) rfl
      have h6 : M6.1 13 0 6 = nI (kmap (tkA T q).1) := a6.2.2.2.2.1
      unfold b_X12_readsAll_1c
      rw [h6, if_pos (e0.mpr r)]
      exact ok_some.mpr ⟨D, by rw [hR, eU, if_pos r], c6, fr⟩
    · rw [if_neg r] at eU
      have hb := Rs_line (D := D) hg.1 hq
      refine ok_mono (lineM_ok hF a6 c6 r) (fun z hz => ?_)
      rcases z with M' | M' | M'
      · obtain ⟨p', D', e1, a', c', f'⟩ := hz
        rw [e1] at eU hb
        have hgt := tkE_gt hq r
        have hb1 := hb.1
        refine ⟨T.length - p', by omega, p', D', fu - 1, rfl, ?_, by omega, a', c', fi_tr fr f'⟩
        rw [show fu - 1 + 1 = fu by omega]; exact hR.trans eU
      · obtain ⟨k, q', e1, v, f'⟩ := hz
        rw [e1] at eU
        exact ⟨k, q', hR.trans eU, v, fi_tr fr f'⟩
      · exact hz.elim
  · have m : ∀ M9, fi PRm M4 M9 → fi PRA M M9 ∧ M9.1 13 0 1 = 0 := fun M9 f => ⟨fi_tr fs (fi_mono f (fun k n i q => Or.inl q)), (fi_I f PRm_1).trans w1⟩
    rcases r with M9 | M10
    · obtain ⟨k, q, e, h1, h2⟩ := hr
      refine ok_some.mpr ?_
      rw [e]
      exact ⟨(m M9 h2).1, (m M9 h2).2, rfl, h1⟩
    · obtain ⟨D, e, h1, h2⟩ := hr
      refine ok_some.mpr ?_
      rw [e]
      exact ⟨(m M10 h2).1, (m M10 h2).2, rfl, h1⟩
