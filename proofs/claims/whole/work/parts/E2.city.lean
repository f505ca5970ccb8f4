/-! the class reads a city -/
theorem wd_i {T : List Int32} {p i : Nat} (hi : i < 29) : (if (tkA T p).1 = 2 then kwI (tkA T p).2.1 else -1) = nI i ↔ isW T p i = true := by
  have hp := nI_pos (n := i) (by omega)
  unfold isW
  rw [decide_eq_true_iff]
  by_cases q : (tkA T p).1 = 2
  · rw [if_pos q]
    constructor
    · intro e
      refine ⟨q, ?_⟩
      rcases kwI_c (tkA T p).2.1 with e2 | ⟨j, a, b, c⟩
      · rw [e2] at e
        rw [← e] at hp; exact absurd (by decide) hp
      · rw [b] at e
        have := (nI_eq (by omega) (by omega)).mp e
        rw [← c, this]
    · rintro ⟨-, e⟩
      rw [e]; exact kwI_K2 i hi
  · rw [if_neg q]
    exact ⟨fun e => by rw [← e] at hp; exact absurd (by decide) hp, fun r => absurd r.1 q⟩
theorem isW_u {T : List Int32} {p i j : Nat} (h : isW T p i = true) (k : isW T p j = true) (hi : i < 29) (hj : j < 29) : i = j := by
  have a := (wd_i hi).mpr h
  have b := (wd_i hj).mpr k
  rw [a] at b
  exact (nI_eq (by omega) (by omega)).mp b
theorem spLine_no {T : List Int32} {D : dft} {p j : Nat} (h : isW T p j = true) (hj : j < 29) (h0 : j ≠ 0) (h3 : j ≠ 3) (h6 : j ≠ 6) (h7 : j ≠ 7) (h8 : j ≠ 8) (h12 : j ≠ 12) (h13 : j ≠ 13) : spLine T D p = .inl (1, p) := by
  unfold spLine
  rw [if_neg (fun r => h0 (isW_u h r hj (by decide))), if_neg (fun r => h3 (isW_u h r hj (by decide))), if_neg (fun r => h6 (isW_u h r hj (by decide))), if_neg (fun r => h7 (isW_u h r hj (by decide))), if_neg (fun r => h8 (isW_u h r hj (by decide))), if_neg (fun r => h12 (isW_u h r hj (by decide))), if_neg (fun r => h13 (isW_u h r hj (by decide)))]
theorem readCityLine_ok {F : Nat} (hF : 2000 < F) {T : List Int32} {p o : Nat} (ho : o ≤ 1) {D : dft} {M : mm} (h : AtC T p M) (hD : DCK o D M) : ok (m_X5_readCityLine F M) (QRl T (DCK o) (PRd o) M (spLine T D p)) := by
  have h7 := h.2.2.2.2.2.1
  have e : ∀ i, i < 29 → (M.1 7 0 7 = nI i ↔ isW T p i = true) := fun i hi => by rw [h7]; exact wd_i hi
  have e0 : M.1 7 0 7 = (0 : Int32) ↔ isW T p 0 = true := e 0 (by decide)
  have e1 : M.1 7 0 7 = (1 : Int32) ↔ isW T p 1 = true := e 1 (by decide)
  have e2 : M.1 7 0 7 = (2 : Int32) ↔ isW T p 2 = true := e 2 (by decide)
  have e3 : M.1 7 0 7 = (3 : Int32) ↔ isW T p 3 = true := e 3 (by decide)
  have e4 : M.1 7 0 7 = (4 : Int32) ↔ isW T p 4 = true := e 4 (by decide)
  have e5 : M.1 7 0 7 = (5 : Int32) ↔ isW T p 5 = true := e 5 (by decide)
  have e6 : M.1 7 0 7 = (6 : Int32) ↔ isW T p 6 = true := e 6 (by decide)
  have e7 : M.1 7 0 7 = (7 : Int32) ↔ isW T p 7 = true := e 7 (by decide)
  have e8 : M.1 7 0 7 = (8 : Int32) ↔ isW T p 8 = true := e 8 (by decide)
  have e9 : M.1 7 0 7 = (9 : Int32) ↔ isW T p 9 = true := e 9 (by decide)
  have e10 : M.1 7 0 7 = (10 : Int32) ↔ isW T p 10 = true := e 10 (by decide)
  have e11 : M.1 7 0 7 = (11 : Int32) ↔ isW T p 11 = true := e 11 (by decide)
  have e12 : M.1 7 0 7 = (12 : Int32) ↔ isW T p 12 = true := e 12 (by decide)
  have e13 : M.1 7 0 7 = (13 : Int32) ↔ isW T p 13 = true := e 13 (by decide)
  have bad : spLine T D p = .inl (1, p) → ok (cb (m_X5_wrong F (1 : Int32) M) fun b M' => some (b, M')) (QRl T (DCK o) (PRd o) M (spLine T D p)) := fun q => by
    rw [ok_cb, q]
    exact ok_mono (wrong_ok (k := 1) h) (fun r hr => ok_some.mpr (QR_l (QR_bad fi_rf PRd_6 hr)))
  have good : ∀ {g : Option (Bool × mm)} {x : res}, spLine T D p = x → ok g (QRl T (DCK o) (PRd o) M x) → ok (cb g fun b M' => some (b, M')) (QRl T (DCK o) (PRd o) M (spLine T D p)) := fun {g x} hx hg => by
    rw [ok_cb, hx]
    exact ok_mono hg (fun r hr => ok_some.mpr hr)
  unfold m_X5_readCityLine
  rw [ok_nm, ok_ite, e0]
  refine ⟨fun q => good (if_pos q) (ok_mono (readPerson_ok hF h hD) (fun r hr => QR_l hr)), fun q0 => ?_⟩
  rw [ok_ite, e1]
  refine ⟨fun q => bad (spLine_no q (by decide) (by decide) (by decide) (by decide) (by decide) (by decide) (by decide) (by decide)), fun q1 => ?_⟩
  rw [ok_ite, e2]
  refine ⟨fun q => bad (spLine_no q (by decide) (by decide) (by decide) (by decide) (by decide) (by decide) (by decide) (by decide)), fun q2 => ?_⟩
  rw [ok_ite, e3]
  refine ⟨fun q => good (by unfold spLine; rw [if_neg q0, if_pos q]) (ok_mono (readOath_ok hF h hD) (fun r hr => QR_l hr)), fun q3 => ?_⟩
  rw [ok_ite, e4]
  refine ⟨fun q => bad (spLine_no q (by decide) (by decide) (by decide) (by decide) (by decide) (by decide) (by decide) (by decide)), fun q4 => ?_⟩
  rw [ok_ite, e5]
  refine ⟨fun q => bad (spLine_no q (by decide) (by decide) (by decide) (by decide) (by decide) (by decide) (by decide) (by decide)), fun q5 => ?_⟩
  rw [ok_ite, e6]
  refine ⟨fun q => good (by unfold spLine; rw [if_neg q0, if_neg q3, if_pos q]) (ok_mono (readLean_ok hF h hD) (fun r hr => QR_l hr)), fun q6 => ?_⟩
  rw [ok_ite, e7]
  refine ⟨fun q => good (by unfold spLine; rw [if_neg q0, if_neg q3, if_neg q6, if_pos q]) (ok_mono (readClash_ok hF h hD) (fun r hr => QR_l hr)), fun q7 => ?_⟩
  rw [ok_ite, e8]
  refine ⟨fun q => good (by unfold spLine; rw [if_neg q0, if_neg q3, if_neg q6, if_neg q7, if_pos q]) (ok_mono (readStone_ok hF h hD) (fun r hr => QR_l hr)), fun q8 => ?_⟩
  rw [ok_ite, e9]
  refine ⟨fun q => bad (spLine_no q (by decide) (by decide) (by decide) (by decide) (by decide) (by decide) (by decide) (by decide)), fun q9 => ?_⟩
  rw [ok_ite, e10]
  refine ⟨fun q => bad (spLine_no q (by decide) (by decide) (by decide) (by decide) (by decide) (by decide) (by decide) (by decide)), fun q10 => ?_⟩
  rw [ok_ite, e11]
  refine ⟨fun q => bad (spLine_no q (by decide) (by decide) (by decide) (by decide) (by decide) (by decide) (by decide) (by decide)), fun q11 => ?_⟩
  rw [ok_ite, e12]
  refine ⟨fun q => good (by unfold spLine; rw [if_neg q0, if_neg q3, if_neg q6, if_neg q7, if_neg q8, if_pos q]) (readAge_ok hF ho h hD), fun q12 => ?_⟩
  rw [ok_ite, e13]
  refine ⟨fun q => good (by unfold spLine; rw [if_neg q0, if_neg q3, if_neg q6, if_neg q7, if_neg q8, if_neg q12, if_pos q]) (ok_mono (readMend_ok hF h hD) (fun r hr => QR_l hr)), fun q13 => ?_⟩
  exact bad (by unfold spLine; rw [if_neg q0, if_neg q3, if_neg q6, if_neg q7, if_neg q8, if_neg q12, if_neg q13])
def PCl (d : Nat) : Nat → Nat → Nat → Prop := fun k n _ => n = d ∧ (k = 1 ∨ k = 3 ∨ k = 23 ∨ k = 38)
theorem clear_ok {F : Nat} (hF : 2000 < F) {d : Nat} {M : mm} : ok (m_X0_clear F d M) (fun M' => fi (PCl d) M M' ∧ (M'.1 1 d 0 = 0 ∧ M'.1 1 d 5 = 0 ∧ M'.1 1 d 13 = 0 ∧ M'.1 1 d 12 = 0 ∧ M'.1 3 d 0 = 5 ∧ M'.1 3 d 1 = 0) ∧ (∀ i, i < 6 → M'.1 23 d i = 0) ∧ (M'.1 3 d 2 = 0 ∧ M'.1 3 d 4 = 0) ∧ ∀ i, i < 20 → M'.1 38 d i = -1) := by
  unfold m_X0_clear
  rw [ok_nm, ok_nm, ok_nm, ok_nm, ok_bd]
  have f4 : fi (PCl d) M (sI (sI (sI (sI M 1 d 0 0) 1 d 5 0) 1 d 13 0) 1 d 12 0) := fi_sI (fi_sI (fi_sI (fi_sI fi_rf ⟨rfl, Or.inl rfl⟩) ⟨rfl, Or.inl rfl⟩) ⟨rfl, Or.inl rfl⟩) ⟨rfl, Or.inl rfl⟩
  have v4 : (sI (sI (sI (sI M 1 d 0 0) 1 d 5 0) 1 d 13 0) 1 d 12 0).1 1 d 0 = 0 ∧ (sI (sI (sI (sI M 1 d 0 0) 1 d 5 0) 1 d 13 0) 1 d 12 0).1 1 d 5 = 0 ∧ (sI (sI (sI (sI M 1 d 0 0) 1 d 5 0) 1 d 13 0) 1 d 12 0).1 1 d 13 = 0 ∧ (sI (sI (sI (sI M 1 d 0 0) 1 d 5 0) 1 d 13 0) 1 d 12 0).1 1 d 12 = 0 := by simp [rII]
  generalize sI (sI (sI (sI M 1 d 0 0) 1 d 5 0) 1 d 13 0) 1 d 12 0 = M4 at f4 v4 ⊢
  refine ok_mono (Q := fun M8 => fi (fun k n _ => k = 23 ∧ n = d) M4 M8 ∧ ∀ i, i < 6 → M8.1 23 d i = 0) ?_ (fun M8 h8 => ?_)
  · refine ok_for 6 (fun i z => z.1 = nI i ∧ fi (fun k n _ => k = 23 ∧ n = d) M4 z.2 ∧ ∀ j, j < i → z.2.1 23 d j = 0) 0 (by omega) (by omega) ⟨rfl, fi_rf, fun j hj => by omega⟩ ?_
    rintro i ⟨x5, M6⟩ hi ⟨e1, f6, v6⟩
    dsimp only at e1 f6 v6
    subst e1
    have e6 : (6 : Int32) ≤ nI i ↔ 6 ≤ i := (nI_leI (by omega) (by omega) : nI 6 ≤ nI i ↔ 6 ≤ i)
    simp only [b_X0_clear_1, b_X0_clear_1c]
    rw [ok_ite, e6]
    refine ⟨fun q => ok_some.mpr ⟨f6, fun j hj => v6 j (by omega)⟩, fun q => ?_⟩
    rw [ok_gi, ok_nm, ok_some, nI_clamp (by omega)]
    refine ⟨vp_in_nI (by omega) (by decide), by omega, nI_1 i, fi_sI f6 ⟨rfl, rfl⟩, fun j hj => ?_⟩
    show (sI M6 23 d i 0).1 23 d j = 0
    rw [rII]
    by_cases e : j = i
    · rw [if_pos ⟨rfl, rfl, e⟩]
    · rw [if_neg (by omega)]; exact v6 j (by omega)
  · obtain ⟨f8, v8⟩ := h8
    rw [ok_cv]
    unfold m_X2_reset
    rw [ok_nm, ok_nm, ok_nm, ok_nm, ok_bd]
    have fA : fi (PCl d) M8 (sI (sI (sI (sI M8 3 d 0 5) 3 d 1 0) 3 d 2 0) 3 d 4 0) := fi_sI (fi_sI (fi_sI (fi_sI fi_rf ⟨rfl, Or.inr (Or.inl rfl)⟩) ⟨rfl, Or.inr (Or.inl rfl)⟩) ⟨rfl, Or.inr (Or.inl rfl)⟩) ⟨rfl, Or.inr (Or.inl rfl)⟩
    have vA : ((sI (sI (sI (sI M8 3 d 0 5) 3 d 1 0) 3 d 2 0) 3 d 4 0).1 3 d 0 = 5 ∧ (sI (sI (sI (sI M8 3 d 0 5) 3 d 1 0) 3 d 2 0) 3 d 4 0).1 3 d 1 = 0) ∧ ((sI (sI (sI (sI M8 3 d 0 5) 3 d 1 0) 3 d 2 0) 3 d 4 0).1 3 d 2 = 0 ∧ (sI (sI (sI (sI M8 3 d 0 5) 3 d 1 0) 3 d 2 0) 3 d 4 0).1 3 d 4 = 0) := by simp [rII]
    have wA : ∀ j, j ≠ 19 → j ≠ 20 → (sI (sI (sI (sI M8 3 d 0 5) 3 d 1 0) 3 d 2 0) 3 d 4 0).1 1 d j = M8.1 1 d j := fun j h1 h2 => by simp [rII, h1, h2]
    have xA : ∀ j, (sI (sI (sI (sI M8 3 d 0 5) 3 d 1 0) 3 d 2 0) 3 d 4 0).1 23 d j = M8.1 23 d j := fun j => by simp [rII]
    generalize sI (sI (sI (sI M8 3 d 0 5) 3 d 1 0) 3 d 2 0) 3 d 4 0 = MA at fA vA wA xA ⊢
    refine ok_mono (Q := fun MB => fi (fun k n _ => k = 38 ∧ n = d) MA MB ∧ ∀ i, i < 20 → MB.1 38 d i = -1) ?_ (fun MB hB => ?_)
    · refine ok_for 20 (fun i z => z.1 = nI i ∧ fi (fun k n _ => k = 38 ∧ n = d) MA z.2 ∧ ∀ j, j < i → z.2.1 38 d j = -1) 0 (by omega) (by omega) ⟨rfl, fi_rf, fun j hj => by omega⟩ ?_
      rintro i ⟨x5, M6⟩ hi ⟨e1, f6, v6⟩
      dsimp only at e1 f6 v6
      subst e1
      have e6 : (20 : Int32) ≤ nI i ↔ 20 ≤ i := (nI_leI (by omega) (by omega) : nI 20 ≤ nI i ↔ 20 ≤ i)
      simp only [b_X2_reset_1, b_X2_reset_1c]
      rw [ok_ite, e6]
      refine ⟨fun q => ok_some.mpr ⟨f6, fun j hj => v6 j (by omega)⟩, fun q => ?_⟩
      rw [ok_gi, ok_nm, ok_some, nI_clamp (by omega)]
      refine ⟨vp_in_nI (by omega) (by decide), by omega, nI_1 i, fi_sI f6 ⟨rfl, rfl⟩, fun j hj => ?_⟩
      show (sI M6 38 d i (-1)).1 38 d j = -1
      rw [rII]
      by_cases e : j = i
      · rw [if_pos ⟨rfl, rfl, e⟩]
      · rw [if_neg (by omega)]; exact v6 j (by omega)
    · obtain ⟨fB, vB⟩ := hB
      refine ok_some.mpr (ok_some.mpr ?_)
      have e : ∀ k j, k ≠ 38 → MB.1 k d j = MA.1 k d j := fun k j hk => fi_I fB (fun q => hk q.1)
      have e8 : ∀ j, M8.1 1 d j = M4.1 1 d j := fun j => fi_I f8 (fun q => by omega)
      refine ⟨fi_tr f4 (fi_tr (fi_mono f8 (fun k n i q => ⟨q.2, by omega⟩)) (fi_tr fA (fi_mono fB (fun k n i q => ⟨q.2, by omega⟩)))), ⟨?_, ?_, ?_, ?_, ?_, ?_⟩, fun i hi => ?_, ⟨?_, ?_⟩, vB⟩
      · rw [e 1 0 (by decide), wA 0 (by decide) (by decide), e8]; exact v4.1
      · rw [e 1 5 (by decide), wA 5 (by decide) (by decide), e8]; exact v4.2.1
      · rw [e 1 13 (by decide), wA 13 (by decide) (by decide), e8]; exact v4.2.2.1
      · rw [e 1 12 (by decide), wA 12 (by decide) (by decide), e8]; exact v4.2.2.2
      · rw [e 3 0 (by decide)]; exact vA.1.1
      · rw [e 3 1 (by decide)]; exact vA.1.2
      · rw [e 23 i (by decide), xA]; exact v8 i hi
      · rw [e 3 2 (by decide)]; exact vA.2.1
      · rw [e 3 4 (by decide)]; exact vA.2.2
theorem DOK_00 : DOK D00 := ⟨⟨Nat.zero_le _, Nat.zero_le _, Nat.zero_le _⟩, (fun e he => by cases he), (fun e he => by cases he), fun x hx => absurd hx (Nat.not_lt_zero _), (fun i e he => by cases he), (fun w hw => by cases hw), fun m hm => by cases hm⟩
theorem QRl_tr {T : List Int32} {DC : dft → mm → Prop} {P : Nat → Nat → Nat → Prop} {Ms M : mm} {l : Nat} {x : res} {r : Bool × mm} (hl : l = Ms.2.2 4 0 6 ∨ l ≤ 1) (h : fi P (sR Ms 4 0 6 l) M) (k : QRl T DC P M x r) : QRl T DC P Ms x r := by
  obtain ⟨l', h1, h2⟩ := k
  have e : M.2.2 4 0 6 = l := by rw [h.1, rRR, if_pos ⟨rfl, rfl, rfl⟩]
  have f := fi_sR (k := 4) (n := 0) (i := 6) (v := l') h
  rw [sR_sR] at f
  refine ⟨l', ?_, fi_tr f h2.1, h2.2⟩
  rcases h1 with h1 | h1
  · rw [h1, e]; exact hl
  · exact Or.inr h1
def QCy (T : List Int32) (d : Nat) (M : mm) (r : Int32 × mm) : Prop := (∃ l, (l = M.2.2 4 0 6 ∨ l ≤ 1) ∧ fi (PRd d) (sR (sR M 6 0 2 d) 4 0 6 l) r.2) ∧ TpR T r.2 ∧ match spCity T with
  | .inl (k, q) => r.1 = nI (k + 16 * tkB T q)
  | .inr D => r.1 = 0 ∧ DCK d D r.2
theorem readCity_ok {F : Nat} (hF : 2000 < F) {d : Nat} (hd : d ≤ 1) {T : List Int32} {M : mm} (hT : TpR T M) : ok (m_X5_readCity F d M) (QCy T d M) := by
  have hlen := hT.2.2.1
  have r0 : (sR M 6 0 2 d).2.2 6 0 2 = d := by rw [rRR, if_pos ⟨rfl, rfl, rfl⟩]
  have r4 : (sR M 6 0 2 d).2.2 4 0 6 = M.2.2 4 0 6 := by rw [rRR, if_neg (by omega)]
  have t0 : TpR T (sR M 6 0 2 d) := hT
  unfold m_X5_readCity QCy
  rw [ok_nm, r0]
  generalize sR M 6 0 2 d = Ms at r0 r4 t0 ⊢
  rw [ok_cv]
  refine ok_mono (clear_ok hF) (fun M2 h2 => ?_)
  obtain ⟨f2, ⟨v0, v5, v13, v12, v19, v20⟩, v23, ⟨w0, w2⟩, w38⟩ := h2
  rw [ok_nm, ok_cv]
  unfold m_X6_start
  rw [ok_nm, ok_cv]
  have f4 : fi (fun k n i => (k = 6 ∧ n = 0 ∧ i = 4) ∨ (k = 7 ∧ n = 0 ∧ i = 3)) M2 (sI (sI M2 6 0 4 0) 7 0 3 0) := fi_sI (fi_sI fi_rf (Or.inl ⟨rfl, rfl, rfl⟩)) (Or.inr ⟨rfl, rfl, rfl⟩)
  have u3 : (sI (sI M2 6 0 4 0) 7 0 3 0).1 7 0 3 = nI 0 := by rw [rII, if_pos ⟨rfl, rfl, rfl⟩]; rfl
  generalize sI (sI M2 6 0 4 0) 7 0 3 0 = M4 at f4 u3 ⊢
  have t4 : TpR T M4 := TpR_c (TpR_c t0 f2 (fun k n i q => by unfold PCl at q; omega)) f4 (fun k n i q => by omega)
  refine ok_mono (next_ok hF t4 (Nat.zero_le _) u3) (fun M5 h5 => ok_some.mpr ?_)
  obtain ⟨k5, f5⟩ := h5
  have a5 : AtC T 0 M5 := ⟨Nat.zero_le _, TpR_c t4 f5 (fun k n i q => by unfold P7 at q; omega), k5⟩
  have fs : fi (PRd d) Ms M5 := fi_tr (fi_mono f2 (fun k n i q => by unfold PCl at q; unfold PRd; omega)) (fi_tr (fi_mono f4 (fun k n i q => by unfold PRd PT6 P7; omega)) (fi_mono f5 (fun k n i q => PRd_6 k n i (P7_6 k n i q))))
  have c5 : DCK d D00 M5 := by
    have e : ∀ k i, (k = 1 ∨ k = 3 ∨ k = 23 ∨ k = 38) → M5.1 k d i = M2.1 k d i := fun k i hk => (fi_I f5 (by unfold P7; omega)).trans (fi_I f4 (by omega))
    have z : ∀ x, bt (0 : Int32) x = true → False := fun x h => by rw [b_0] at h; cases h
    refine ⟨⟨?_, ⟨?_, ?_, ?_⟩, ⟨⟨fun i w h => (by cases h), fun w h => by cases h⟩, ⟨fun i w h => (by cases h), fun w h => by cases h⟩, ⟨fun i w h => (by cases h), fun w h => by cases h⟩⟩, fun i e h => (by cases h), fun i hi x hx => ⟨fun h => ?_, fun h => ?_⟩, fun i e h => (by cases h), fun x hx => ⟨fun h => ?_, fun h => ?_⟩, fun i e h => (by cases h), ⟨?_, ?_⟩, ⟨?_, ⟨?_, Nat.zero_le _, fun i v h => (by cases h)⟩, fun i hi => ?_⟩⟩, DOK_00⟩
    · rw [fs.1]; exact r0
    · rw [e 1 0 (by omega)]; exact v0
    · rw [e 1 5 (by omega)]; exact v5
    · rw [e 1 13 (by omega)]; exact v13
    · rw [e 23 i (by omega), v23 i hi] at h; exact (z x h).elim
    · obtain ⟨e', h1, -⟩ := h; cases h1
    · rw [e 1 12 (by omega), v12] at h; exact (z x h).elim
    · obtain ⟨e', h1, -⟩ := h; cases h1
    · rw [e 3 0 (by omega)]; exact v19
    · rw [e 3 1 (by omega)]; exact v20
    · rw [e 3 2 (by omega)]; exact w0
    · rw [e 3 4 (by omega)]; exact w2
    · rw [e 38 i (by omega)]; exact w38 i hi
  rw [ok_bd, ← r4]
  refine ok_mono (Q := Sum.elim (fun M9 => ∃ k q, spCity T = .inl (k, q) ∧ M9.1 6 0 4 = nI (k + 16 * tkB T q) ∧ TpR T M9 ∧ ∃ l, (l = Ms.2.2 4 0 6 ∨ l ≤ 1) ∧ fi (PRd d) (sR Ms 4 0 6 l) M9) (fun M10 => ∃ D, spCity T = .inr D ∧ DCK d D M10 ∧ TpR T M10 ∧ ∃ l, (l = Ms.2.2 4 0 6 ∨ l ≤ 1) ∧ fi (PRd d) (sR Ms 4 0 6 l) M10)) ?_ (fun r hr => ?_)
  · refine ok_for 1001 (fun c z => z.1 = nI c ∧ ∃ q D fu, c ≤ q ∧ spCity T = spCityL T (fu + 1) q D ∧ T.length < fu + 1 + q ∧ AtC T q z.2 ∧ DCK d D z.2 ∧ ∃ l, (l = Ms.2.2 4 0 6 ∨ l ≤ 1) ∧ fi (PRd d) (sR Ms 4 0 6 l) z.2) 0 (by omega) (by omega) ⟨rfl, 0, D00, T.length, Nat.le_refl _, rfl, by omega, a5, c5, Ms.2.2 4 0 6, Or.inl rfl, by rw [sR_self]; exact fs⟩ ?_
    rintro c ⟨x5, M6⟩ hc ⟨e1, q, D, fu, hcq, hR, hfu, a6, c6, l, hl, fr⟩
    dsimp only at e1 a6 c6 fr
    subst e1
    have hq := a6.1
    have e1000 : (1000 : Int32) < nI c ↔ 1000 < c := (nI_ltI (by omega) (by omega) : nI 1000 < nI c ↔ _)
    have ek : nI (tkA T q).1 = (0 : Int32) ↔ (tkA T q).1 = 0 := kd_eq T q (k := 0) (by decide)
    have eU : spCityL T (fu + 1) q D = if (tkA T q).1 = 0 then .inr D else match spLine T D q with
        | .inl e => .inl e
        | .inr (p', D') => spCityL T fu p' D' := rfl
    simp only [b_X5_readCity_1, b_X5_readCity_1c]
    rw [ok_ite, e1000]
    refine ⟨fun r => by omega, fun _ => ?_⟩
    rw [ok_ite, a6.2.2.2.2.1, ek]
    refine ⟨fun r => ok_some.mpr ⟨D, ?_, c6, a6.2.1, l, hl, fr⟩, fun r => ?_⟩
    · rw [hR, eU, if_pos r]
    rw [if_neg r] at eU
    rw [ok_cb]
    refine ok_mono (readCityLine_ok hF hd a6 c6) (fun r7 h7 => ?_)
    obtain ⟨l', hl', h7⟩ := QRl_tr hl fr h7
    have hb := Rs_line (D := D) hlen hq
    obtain ⟨f7, h7⟩ := h7
    rw [ok_ite]
    cases eL : spLine T D q with
    | inl z =>
      obtain ⟨k, q'⟩ := z
      rw [eL] at h7 eU
      obtain ⟨s1, s2, s3⟩ := h7
      rw [s1]
      exact ⟨fun r => (by cases r), fun _ => ok_some.mpr ⟨k, q', hR.trans eU, s2, s3, l', hl', f7⟩⟩
    | inr z =>
      obtain ⟨p', D'⟩ := z
      rw [eL] at h7 eU hb
      obtain ⟨s1, s2, s3⟩ := h7
      rw [s1]
      have hgt := tkE_gt hq r
      have hb1 := hb.1
      refine ⟨fun _ => ok_some.mpr ⟨by omega, nI_1 c, p', D', fu - 1, by omega, ?_, by omega, s2, s3, l', hl', f7⟩, fun r => absurd rfl r⟩
      rw [show fu - 1 + 1 = fu by omega]; exact hR.trans eU
  · rcases r with M9 | M10
    · obtain ⟨k, q, e, h1, h2, h3⟩ := hr
      refine ok_some.mpr ?_
      rw [e]
      exact ⟨h3, h2, h1⟩
    · obtain ⟨D, e, h1, h2, h3⟩ := hr
      refine ok_some.mpr ?_
      rw [e]
      exact ⟨h3, h2, rfl, h1⟩
