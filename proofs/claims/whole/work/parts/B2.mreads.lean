/-! the reference's small readers -/
def AtM (T : List Int32) (p : Nat) (M : mm) : Prop := p ≤ T.length ∧ TpS T M ∧ TkM (tkA T p) (tkB T p) (tkE T p) M
def PM6 : Nat → Nat → Nat → Prop := fun k _ i => k = 13 ∧ ((4 ≤ i ∧ i ≤ 9) ∨ i = 42)
def QRM (T : List Int32) (DM : dft → mm → Prop) (P : Nat → Nat → Nat → Prop) (M0 : mm) (x : res) (r : Bool × mm) : Prop := fi P M0 r.2 ∧ match x with
  | .inl (k, p) => r.1 = false ∧ r.2.1 13 0 9 = nI (k + 16 * tkB T p)
  | .inr (p, D) => r.1 = true ∧ AtM T p r.2 ∧ DM D r.2
theorem kc0 : (232608281 : Int64) = lN (pv 27 (KW.getD 0 [])) := by decide +kernel
theorem kc1 : (3215438 : Int64) = lN (pv 27 (KW.getD 1 [])) := by decide +kernel
theorem kc2 : (10737164 : Int64) = lN (pv 27 (KW.getD 2 [])) := by decide +kernel
theorem kc3 : (296522 : Int64) = lN (pv 27 (KW.getD 3 [])) := by decide +kernel
theorem kc4 : (79 : Int64) = lN (pv 27 (KW.getD 4 [])) := by decide +kernel
theorem kc5 : (1162531 : Int64) = lN (pv 27 (KW.getD 5 [])) := by decide +kernel
theorem kc6 : (239882 : Int64) = lN (pv 27 (KW.getD 6 [])) := by decide +kernel
theorem kc7 : (1831769 : Int64) = lN (pv 27 (KW.getD 7 [])) := by decide +kernel
theorem kc8 : (10502357 : Int64) = lN (pv 27 (KW.getD 8 [])) := by decide +kernel
theorem kc9 : (332864551 : Int64) = lN (pv 27 (KW.getD 9 [])) := by decide +kernel
theorem kc10 : (358337 : Int64) = lN (pv 27 (KW.getD 10 [])) := by decide +kernel
theorem kc11 : (419 : Int64) = lN (pv 27 (KW.getD 11 [])) := by decide +kernel
theorem kc12 : (923 : Int64) = lN (pv 27 (KW.getD 12 [])) := by decide +kernel
theorem kc13 : (259906 : Int64) = lN (pv 27 (KW.getD 13 [])) := by decide +kernel
theorem kc14 : (1420859 : Int64) = lN (pv 27 (KW.getD 14 [])) := by decide +kernel
theorem kc15 : (2549467418 : Int64) = lN (pv 27 (KW.getD 15 [])) := by decide +kernel
theorem kc16 : (9592700 : Int64) = lN (pv 27 (KW.getD 16 [])) := by decide +kernel
theorem kc17 : (495765 : Int64) = lN (pv 27 (KW.getD 17 [])) := by decide +kernel
theorem kc18 : (8740238 : Int64) = lN (pv 27 (KW.getD 18 [])) := by decide +kernel
theorem kc19 : (11263 : Int64) = lN (pv 27 (KW.getD 19 [])) := by decide +kernel
theorem kc20 : (389777 : Int64) = lN (pv 27 (KW.getD 20 [])) := by decide +kernel
theorem kc21 : (12403634 : Int64) = lN (pv 27 (KW.getD 21 [])) := by decide +kernel
theorem kc22 : (10631 : Int64) = lN (pv 27 (KW.getD 22 [])) := by decide +kernel
theorem kc23 : (1111 : Int64) = lN (pv 27 (KW.getD 23 [])) := by decide +kernel
theorem kc24 : (423 : Int64) = lN (pv 27 (KW.getD 24 [])) := by decide +kernel
theorem kc25 : (40613 : Int64) = lN (pv 27 (KW.getD 25 [])) := by decide +kernel
theorem kc26 : (13385674 : Int64) = lN (pv 27 (KW.getD 26 [])) := by decide +kernel
theorem kc27 : (223456 : Int64) = lN (pv 27 (KW.getD 27 [])) := by decide +kernel
theorem kc28 : (778955 : Int64) = lN (pv 27 (KW.getD 28 [])) := by decide +kernel
section MR
variable {F : Nat} {T : List Int32} {p : Nat} {M : mm}
theorem AtM_next (hF : 2000 < F) (h : AtM T p M) : ok (m_X12_nextToken F M) (fun M' => AtM T (tkE T p) M' ∧ fi P13 M M') := by
  obtain ⟨hp, hT, hk⟩ := h
  have hle := (tkE_le hp).2
  exact ok_mono (nextToken_ok hF hT hle hk.1) (fun M' hM' => ⟨⟨hle, TpS_c hT hM'.2 (fun k n i q => by unfold P13 at q; omega), hM'.1⟩, hM'.2⟩)
theorem AtM_6 (h : AtM T p M) {M' : mm} {P : Nat → Nat → Nat → Prop} (f : fi P M M') (hP : ∀ k n i, P k n i → k ≠ 63 ∧ ¬ (k = 13 ∧ 3 ≤ i ∧ i ≤ 8)) : AtM T p M' := by
  obtain ⟨hp, hT, h4, h5, h6, h7, h8, h9⟩ := h
  have e : ∀ j, 3 ≤ j → j ≤ 8 → M'.1 13 0 j = M.1 13 0 j := fun j a b => fi_I f (fun q => by have := hP _ _ _ q; omega)
  exact ⟨hp, TpS_c hT f (fun k n i q => by have := hP _ _ _ q; omega), by rw [e 4 (by omega) (by omega)]; exact h4, by rw [e 5 (by omega) (by omega)]; exact h5, by rw [e 6 (by omega) (by omega)]; exact h6, fun q => by rw [fi_L f (fun q => by have := hP _ _ _ q; omega)]; exact h7 q, fun q => by rw [e 8 (by omega) (by omega)]; exact h8 q, fun q => ⟨(h9 q).1, by rw [fi_I f (fun q => by have := hP _ _ _ q; omega)]; exact (h9 q).2⟩⟩
theorem km_eq (T : List Int32) (p : Nat) {k j : Nat} (hk : k ≤ 4) (hj : kmap k = j) : nI (kmap (tkA T p).1) = nI j ↔ (tkA T p).1 = k := by
  have h := tk_le T p
  have e : ∀ a, a ≤ 4 → ∀ b, b ≤ 4 → (nI (kmap a) = nI (kmap b) ↔ a = b) := by decide +kernel
  rw [← hj]; exact e _ h k hk
theorem kq {w : List Nat} (hw : WdOk w) {i : Nat} (hi : i < 29) {c : Int64} (hc : c = lN (pv 27 (KW.getD i []))) : lg_cmp (lN (pv 27 w)) c = 0 ↔ w = KW.getD i [] := by
  rw [hc, lg_cmp_eq]; exact pvN (by decide) (by decide) hw (KW_ok i hi)
theorem isWordM_ok (h : AtM T p M) {i : Nat} (hi : i < 29) {c : Int64} (hc : c = lN (pv 27 (KW.getD i []))) : ok (m_X12_isWord F c M) (fun r => r = (isW T p i, M)) := by
  obtain ⟨hp, hT, h4, h5, h6, h7, h8, h9⟩ := h
  have e2 : nI (kmap (tkA T p).1) = (1 : Int32) ↔ (tkA T p).1 = 2 := km_eq T p (k := 2) (j := 1) (by decide) rfl
  unfold m_X12_isWord isW
  rw [h6, ok_ite, e2]
  refine ⟨fun q => ?_, fun q => ok_some.mpr (by rw [decide_eq_false (fun q2 => q q2.1)])⟩
  rw [h7 q, ok_ite, kq (tk_word hp q).1 hi hc]
  exact ⟨fun q2 => ok_some.mpr (by rw [decide_eq_true ⟨q, q2⟩]), fun q2 => ok_some.mpr (by rw [decide_eq_false (fun q3 => q2 q3.2)])⟩
theorem isSignM_ok (h : AtM T p M) {c : Int32} : ok (m_X12_isSign F c M) (fun r => r = (isS T p c, M)) := by
  obtain ⟨hp, hT, h4, h5, h6, h7, h8, h9⟩ := h
  have hl := hT.2.1
  have e2 : nI (kmap (tkA T p).1) = (3 : Int32) ↔ (tkA T p).1 = 4 := km_eq T p (k := 4) (j := 3) (by decide) rfl
  unfold m_X12_isSign isS
  rw [h6, ok_ite, e2]
  refine ⟨fun q => ?_, fun q => ok_some.mpr (by rw [decide_eq_false (fun q2 => q q2.1)])⟩
  obtain ⟨hb, h9'⟩ := h9 q
  rw [h5, ok_gi, nI_clamp (by omega), h9', ok_ite]
  exact ⟨vp_in_nI hb (by decide), fun q2 => ok_some.mpr (by rw [decide_eq_true ⟨q, q2⟩]), fun q2 => ok_some.mpr (by rw [decide_eq_false (fun q3 => q2 q3.2)])⟩
theorem fails_ok (h : AtM T p M) {k : Nat} : ok (m_X12_fails F (nI k) M) (fun r => r.1 = false ∧ r.2.1 13 0 9 = nI (k + 16 * tkB T p) ∧ fi PM6 M r.2) := by
  have e : nI k + ((16 : Int32) * nI (tkB T p)) = nI (k + 16 * tkB T p) := by
    show nI k + nI 16 * nI (tkB T p) = _
    rw [pk_mul, nI_add]
  unfold m_X12_fails
  rw [ok_nm, ok_some, h.2.2.2.1, e]
  exact ⟨rfl, by rw [rII, if_pos ⟨rfl, rfl, rfl⟩], fi_sI fi_rf ⟨rfl, Or.inl ⟨by decide, by decide⟩⟩⟩
theorem isKept_ok (h : AtM T p M) : ok (m_X12_isKept F M) (fun r => r = (!isNm T p, M)) := by
  obtain ⟨hp, hT, h4, h5, h6, h7, h8, h9⟩ := h
  have e2 : nI (kmap (tkA T p).1) = (1 : Int32) ↔ (tkA T p).1 = 2 := km_eq T p (k := 2) (j := 1) (by decide) rfl
  unfold m_X12_isKept isNm
  rw [h6, ok_ite, e2]
  refine ⟨fun q => ?_, fun q => ok_some.mpr (by rw [decide_eq_false (fun q2 => q q2.1)]; rfl)⟩
  have hw := (tk_word hp q).1
  rw [h7 q]
  have yes : ∀ i, i < 25 → (tkA T p).2.1 = KW.getD i [] → ((true, M) : Bool × mm) = (!decide ((tkA T p).1 = 2 ∧ ¬ (0 ≤ kwI (tkA T p).2.1 ∧ kwI (tkA T p).2.1 < 25)), M) := fun i hi e => by
    have ek : kwI (tkA T p).2.1 = nI i := by rw [e]; exact kwI_KW i (by omega)
    rw [decide_eq_false]
    · rfl
    · rintro ⟨-, q3⟩
      apply q3
      rw [ek]
      exact ⟨(nI_leI (by omega) (by omega) : nI 0 ≤ nI i ↔ 0 ≤ i).mpr (Nat.zero_le _), (nI_ltI (by omega) (by omega) : nI i < nI 25 ↔ _).mpr hi⟩
  rw [ok_ite, kq hw (show 0 < 29 by decide) kc0]
  refine ⟨fun e => ok_some.mpr (yes 0 (by decide) e), fun e0 => ?_⟩
  rw [ok_ite, kq hw (show 1 < 29 by decide) kc1]
  refine ⟨fun e => ok_some.mpr (yes 1 (by decide) e), fun e1 => ?_⟩
  rw [ok_ite, kq hw (show 2 < 29 by decide) kc2]
  refine ⟨fun e => ok_some.mpr (yes 2 (by decide) e), fun e2 => ?_⟩
  rw [ok_ite, kq hw (show 3 < 29 by decide) kc3]
  refine ⟨fun e => ok_some.mpr (yes 3 (by decide) e), fun e3 => ?_⟩
  rw [ok_ite, kq hw (show 4 < 29 by decide) kc4]
  refine ⟨fun e => ok_some.mpr (yes 4 (by decide) e), fun e4 => ?_⟩
  rw [ok_ite, kq hw (show 5 < 29 by decide) kc5]
  refine ⟨fun e => ok_some.mpr (yes 5 (by decide) e), fun e5 => ?_⟩
  rw [ok_ite, kq hw (show 6 < 29 by decide) kc6]
  refine ⟨fun e => ok_some.mpr (yes 6 (by decide) e), fun e6 => ?_⟩
  rw [ok_ite, kq hw (show 7 < 29 by decide) kc7]
  refine ⟨fun e => ok_some.mpr (yes 7 (by decide) e), fun e7 => ?_⟩
  rw [ok_ite, kq hw (show 8 < 29 by decide) kc8]
  refine ⟨fun e => ok_some.mpr (yes 8 (by decide) e), fun e8 => ?_⟩
  rw [ok_ite, kq hw (show 9 < 29 by decide) kc9]
  refine ⟨fun e => ok_some.mpr (yes 9 (by decide) e), fun e9 => ?_⟩
  rw [ok_ite, kq hw (show 10 < 29 by decide) kc10]
  refine ⟨fun e => ok_some.mpr (yes 10 (by decide) e), fun e10 => ?_⟩
  rw [ok_ite, kq hw (show 11 < 29 by decide) kc11]
  refine ⟨fun e => ok_some.mpr (yes 11 (by decide) e), fun e11 => ?_⟩
  rw [ok_ite, kq hw (show 12 < 29 by decide) kc12]
  refine ⟨fun e => ok_some.mpr (yes 12 (by decide) e), fun e12 => ?_⟩
  rw [ok_ite, kq hw (show 13 < 29 by decide) kc13]
  refine ⟨fun e => ok_some.mpr (yes 13 (by decide) e), fun e13 => ?_⟩
  rw [ok_ite, kq hw (show 14 < 29 by decide) kc14]
  refine ⟨fun e => ok_some.mpr (yes 14 (by decide) e), fun e14 => ?_⟩
  rw [ok_ite, kq hw (show 15 < 29 by decide) kc15]
  refine ⟨fun e => ok_some.mpr (yes 15 (by decide) e), fun e15 => ?_⟩
  rw [ok_ite, kq hw (show 16 < 29 by decide) kc16]
  refine ⟨fun e => ok_some.mpr (yes 16 (by decide) e), fun e16 => ?_⟩
  rw [ok_ite, kq hw (show 17 < 29 by decide) kc17]
  refine ⟨fun e => ok_some.mpr (yes 17 (by decide) e), fun e17 => ?_⟩
  rw [ok_ite, kq hw (show 18 < 29 by decide) kc18]
  refine ⟨fun e => ok_some.mpr (yes 18 (by decide) e), fun e18 => ?_⟩
  rw [ok_ite, kq hw (show 19 < 29 by decide) kc19]
  refine ⟨fun e => ok_some.mpr (yes 19 (by decide) e), fun e19 => ?_⟩
  rw [ok_ite, kq hw (show 20 < 29 by decide) kc20]
  refine ⟨fun e => ok_some.mpr (yes 20 (by decide) e), fun e20 => ?_⟩
  rw [ok_ite, kq hw (show 21 < 29 by decide) kc21]
  refine ⟨fun e => ok_some.mpr (yes 21 (by decide) e), fun e21 => ?_⟩
  rw [ok_ite, kq hw (show 22 < 29 by decide) kc22]
  refine ⟨fun e => ok_some.mpr (yes 22 (by decide) e), fun e22 => ?_⟩
  rw [ok_ite, kq hw (show 23 < 29 by decide) kc23]
  refine ⟨fun e => ok_some.mpr (yes 23 (by decide) e), fun e23 => ?_⟩
  rw [ok_ite, kq hw (show 24 < 29 by decide) kc24]
  refine ⟨fun e => ok_some.mpr (yes 24 (by decide) e), fun e24 => ?_⟩
  have none : ∀ i, i < 25 → (tkA T p).2.1 ≠ KW.getD i [] := fun i hi => by
    rcases (show i = 0 ∨ i = 1 ∨ i = 2 ∨ i = 3 ∨ i = 4 ∨ i = 5 ∨ i = 6 ∨ i = 7 ∨ i = 8 ∨ i = 9 ∨ i = 10 ∨ i = 11 ∨ i = 12 ∨ i = 13 ∨ i = 14 ∨ i = 15 ∨ i = 16 ∨ i = 17 ∨ i = 18 ∨ i = 19 ∨ i = 20 ∨ i = 21 ∨ i = 22 ∨ i = 23 ∨ i = 24 by omega) with e | e | e | e | e | e | e | e | e | e | e | e | e | e | e | e | e | e | e | e | e | e | e | e | e <;> subst e <;> assumption
  refine ok_some.mpr ?_
  rw [decide_eq_true]
  · rfl
  · refine ⟨q, fun q3 => ?_⟩
    rcases kwI_c (tkA T p).2.1 with e | ⟨j, a, b, c⟩
    · rw [e] at q3; exact absurd q3.1 (by decide)
    · have : j < 25 := by
        have := q3.2
        rw [b] at this
        exact (nI_ltI (by omega) (by omega) : nI j < nI 25 ↔ _).mp this
      exact none j this c.symm
def NmM (k off : Nat) (N : List (List Nat)) (M : mm) : Prop := (∀ i w, N[i]? = some w → M.2.1 k 0 (off + i) = lN (pv 27 w)) ∧ ∀ w, w ∈ N → WdOk w
theorem named65_ok (hF : 1000 < F) {off : Nat} {N : List (List Nat)} {w : List Nat} (hN : NmM 65 off N M) (hl : off + N.length ≤ 12) (hw : WdOk w) : ok (m_X12_named_65 F (nI off) (nI N.length) (lN (pv 27 w)) M) (fun r => r = (fdI N w, M)) := by
  unfold m_X12_named_65
  rw [ok_bd]
  refine ok_mono (Q := fun r => (r = .inr () ∧ fnd N w = none) ∨ ∃ i, r = .inl (nI (off + i)) ∧ fnd N w = some i) ?_ (fun r hr => ?_)
  · refine ok_for N.length (fun i z => z = nI (off + i) ∧ fdW N w i = none) 0 (by omega) (by omega) ⟨rfl, rfl⟩ ?_
    rintro i z hi ⟨e1, e2⟩
    subst e1
    simp only [b_X12_named_65_1, b_X12_named_65_1c]
    rw [nI_add, ok_ite, nI_leI (by omega) (by omega)]
    refine ⟨fun q => ok_some.mpr (Or.inl ⟨rfl, by have : i = N.length := by omega
                                                  subst this; exact e2⟩), fun q => ?_⟩
    have hg := getDn (show i < N.length by omega)
    rw [ok_gi, nI_clamp (by omega), hN.1 i _ hg, ok_ite, lg_cmp_eq, pvN (by decide) (by decide) (hN.2 _ (List.mem_of_getElem? hg)) hw]
    refine ⟨vp_in_nI (by omega) (by decide), fun q3 => ok_some.mpr (Or.inr ⟨i, rfl, ?_⟩), fun q3 => ok_some.mpr ⟨by omega, nI_1 _, fdW_f e2 q3⟩⟩
    have := fdW_t e2 q3 (N.length - 1 - i)
    rw [show i + 1 + (N.length - 1 - i) = N.length by omega] at this; exact this
  · rcases hr with ⟨rfl, e⟩ | ⟨i, rfl, e⟩
    · exact ok_some.mpr (by unfold fdI; rw [e])
    · refine ok_some.mpr ?_
      rw [nI_sub (by omega), Nat.add_sub_cancel_left]
      unfold fdI; rw [e]
theorem named66_ok (hF : 1000 < F) {off : Nat} {N : List (List Nat)} {w : List Nat} (hN : NmM 66 off N M) (hl : off + N.length ≤ 20) (hw : WdOk w) : ok (m_X12_named_66 F (nI off) (nI N.length) (lN (pv 27 w)) M) (fun r => r = (fdI N w, M)) := by
  unfold m_X12_named_66
  rw [ok_bd]
  refine ok_mono (Q := fun r => (r = .inr () ∧ fnd N w = none) ∨ ∃ i, r = .inl (nI (off + i)) ∧ fnd N w = some i) ?_ (fun r hr => ?_)
  · refine ok_for N.length (fun i z => z = nI (off + i) ∧ fdW N w i = none) 0 (by omega) (by omega) ⟨rfl, rfl⟩ ?_
    rintro i z hi ⟨e1, e2⟩
    subst e1
    simp only [b_X12_named_66_1, b_X12_named_66_1c]
    rw [nI_add, ok_ite, nI_leI (by omega) (by omega)]
    refine ⟨fun q => ok_some.mpr (Or.inl ⟨rfl, by have : i = N.length := by omega
                                                  subst this; exact e2⟩), fun q => ?_⟩
    have hg := getDn (show i < N.length by omega)
    rw [ok_gi, nI_clamp (by omega), hN.1 i _ hg, ok_ite, lg_cmp_eq, pvN (by decide) (by decide) (hN.2 _ (List.mem_of_getElem? hg)) hw]
    refine ⟨vp_in_nI (by omega) (by decide), fun q3 => ok_some.mpr (Or.inr ⟨i, rfl, ?_⟩), fun q3 => ok_some.mpr ⟨by omega, nI_1 _, fdW_f e2 q3⟩⟩
    have := fdW_t e2 q3 (N.length - 1 - i)
    rw [show i + 1 + (N.length - 1 - i) = N.length by omega] at this; exact this
  · rcases hr with ⟨rfl, e⟩ | ⟨i, rfl, e⟩
    · exact ok_some.mpr (by unfold fdI; rw [e])
    · refine ok_some.mpr ?_
      rw [nI_sub (by omega), Nat.add_sub_cancel_left]
      unfold fdI; rw [e]
theorem named67_ok (hF : 1000 < F) {off : Nat} {N : List (List Nat)} {w : List Nat} (hN : NmM 67 off N M) (hl : off + N.length ≤ 20) (hw : WdOk w) : ok (m_X12_named_67 F (nI off) (nI N.length) (lN (pv 27 w)) M) (fun r => r = (fdI N w, M)) := by
  unfold m_X12_named_67
  rw [ok_bd]
  refine ok_mono (Q := fun r => (r = .inr () ∧ fnd N w = none) ∨ ∃ i, r = .inl (nI (off + i)) ∧ fnd N w = some i) ?_ (fun r hr => ?_)
  · refine ok_for N.length (fun i z => z = nI (off + i) ∧ fdW N w i = none) 0 (by omega) (by omega) ⟨rfl, rfl⟩ ?_
    rintro i z hi ⟨e1, e2⟩
    subst e1
    simp only [b_X12_named_67_1, b_X12_named_67_1c]
    rw [nI_add, ok_ite, nI_leI (by omega) (by omega)]
    refine ⟨fun q => ok_some.mpr (Or.inl ⟨rfl, by have : i = N.length := by omega
                                                  subst this; exact e2⟩), fun q => ?_⟩
    have hg := getDn (show i < N.length by omega)
    rw [ok_gi, nI_clamp (by omega), hN.1 i _ hg, ok_ite, lg_cmp_eq, pvN (by decide) (by decide) (hN.2 _ (List.mem_of_getElem? hg)) hw]
    refine ⟨vp_in_nI (by omega) (by decide), fun q3 => ok_some.mpr (Or.inr ⟨i, rfl, ?_⟩), fun q3 => ok_some.mpr ⟨by omega, nI_1 _, fdW_f e2 q3⟩⟩
    have := fdW_t e2 q3 (N.length - 1 - i)
    rw [show i + 1 + (N.length - 1 - i) = N.length by omega] at this; exact this
  · rcases hr with ⟨rfl, e⟩ | ⟨i, rfl, e⟩
    · exact ok_some.mpr (by unfold fdI; rw [e])
    · refine ok_some.mpr ?_
      rw [nI_sub (by omega), Nat.add_sub_cancel_left]
      unfold fdI; rw [e]
end MR
