/-! marks -/
theorem toldCopy_ok {F : Nat} (hF : 1000 < F) {M : mm} {o a : Nat} {L : lty} {H : hty} (hoa : o ≠ a) (hl : L.length ≤ 40) (hL : ToL a M L) (hH : ToH a M H) : ok (m_X8_copy F o a M) (fun M' => ToL o M' L ∧ ToH o M' H ∧ fi (fun k n _ => (k = 9 ∨ k = 45 ∨ k = 46) ∧ n = o) M M') := by
  unfold m_X8_copy
  rw [ok_cv]
  unfold m_X8_copyLife
  rw [ok_nm, ok_bd]
  refine ok_mono (Q := fun M1 => fi (fun k n i => ((k = 9 ∧ i = 0) ∨ k = 45 ∨ k = 46) ∧ n = o) M M1 ∧ M1.1 9 o 0 = M.1 9 a 0 ∧ ∀ j, j < 40 → M1.1 45 o j = M.1 45 a j ∧ M1.1 46 o j = M.1 46 a j) ?_ (fun M1 h1 => ?_)
  · refine ok_for 40 (fun i z => z.1 = nI i ∧ fi (fun k n i => ((k = 9 ∧ i = 0) ∨ k = 45 ∨ k = 46) ∧ n = o) M z.2 ∧ z.2.1 9 o 0 = M.1 9 a 0 ∧ ∀ j, j < i → z.2.1 45 o j = M.1 45 a j ∧ z.2.1 46 o j = M.1 46 a j) 0 (by omega) (by omega) ⟨rfl, fi_sI fi_rf ⟨Or.inl ⟨rfl, rfl⟩, rfl⟩, by simp [rII], fun j hj => by omega⟩ ?_
    rintro i ⟨x2, M3⟩ hi ⟨e1, hf, h9, hc⟩
    dsimp only at e1 hf h9 hc
    subst e1
    simp only [b_X8_copyLife_1, b_X8_copyLife_1c, ok_ite, nI_lit_le (show 40 < 2 ^ 31 by decide) (show i < 2 ^ 31 by omega)]
    refine ⟨fun q => ?_, fun q => ?_⟩
    · have : i = 40 := by omega
      subst this
      exact ok_some.mpr ⟨hf, h9, hc⟩
    · have hin : vp_in (nI i) 40 := vp_in_nI (by omega) (by decide)
      simp only [ok_gi, ok_nm, ok_some, nI_clamp (show i < 2 ^ 31 by omega)]
      have g45 : M3.1 45 a i = M.1 45 a i := fi_I hf (by omega)
      have g46 : M3.1 46 a i = M.1 46 a i := fi_I hf (by omega)
      refine ⟨hin, hin, hin, hin, by omega, nI_1 i, fi_sI (fi_sI hf ⟨Or.inr (Or.inl rfl), rfl⟩) ⟨Or.inr (Or.inr rfl), rfl⟩, by simp [rII]; exact h9, fun j hj => ?_⟩
      by_cases e : j = i
      · subst e; simp [rII, g45, g46]
      · simp [rII, e]; exact hc j (by omega)
  · obtain ⟨f1, c9, cc⟩ := h1
    simp only [ok_some, ok_nm]
    obtain ⟨l1, l2⟩ := hL
    obtain ⟨k1, k2, k3⟩ := hH
    have e9 : ∀ j, j ≠ 0 → M1.1 9 a j = M.1 9 a j := fun j hj => fi_I f1 (by omega)
    refine ⟨⟨?_, fun i e he => ?_⟩, ⟨?_, fun s hs => ?_, fun s hs => ?_⟩, ?_⟩
    · simp [rII, c9]; exact l1
    · have hi := (List.getElem?_eq_some_iff.mp he).1
      obtain ⟨b1, b2⟩ := l2 i e he
      obtain ⟨d1, d2⟩ := cc i (by omega)
      simp [rII, d1, d2]
      exact ⟨b1, b2⟩
    · simp [rII, e9 3 (by omega)]; exact k1
    · simp [rII, Ne.symm hoa, e9 4 (by omega)]; exact k2 s hs
    · simp [rII, Ne.symm hoa, e9 5 (by omega)]; exact k3 s hs
    · exact fi_sI (fi_sI (fi_sI (fi_mono f1 (fun k n i q => by omega)) ⟨Or.inl rfl, rfl⟩) ⟨Or.inl rfl, rfl⟩) ⟨Or.inl rfl, rfl⟩
theorem ix40 (r i : Nat) : (40 : Int32) * nI r + nI i = nI (40 * r + i) := by show nI 40 * nI r + nI i = _; rw [pk_mul, nI_add]
theorem ixH (r i : Nat) : (10 : Int32) * nI r + nI i = nI (10 * r + i) := by show nI 10 * nI r + nI i = _; rw [pk_mul, nI_add]
theorem laysLines_ok {F : Nat} (hF : 1000 < F) {M : mm} {a b : Nat} {L : lty} (hab : a ≠ b) (ha : a < 6) (hb : b < 6) (hl : L.length ≤ 40) (h : LiM a M L) : ok (m_X12_laysLines F (nI a) (nI b) M) (fun M' => LiM b M' L ∧ fi (fun k n i => (k = 94 ∧ i = b) ∨ ((k = 95 ∨ k = 96) ∧ 40 * b ≤ i ∧ i < 40 * b + 40)) M M') := by
  unfold m_X12_laysLines
  simp only [ok_gi, ok_nm, nI_clamp (show a < 2 ^ 31 by omega), nI_clamp (show b < 2 ^ 31 by omega)]
  refine ⟨vp_in_nI ha (by decide), vp_in_nI hb (by decide), ?_⟩
  rw [ok_bd]
  refine ok_mono (Q := fun M1 => fi (fun k n i => (k = 94 ∧ i = b) ∨ ((k = 95 ∨ k = 96) ∧ 40 * b ≤ i ∧ i < 40 * b + 40)) M M1 ∧ M1.1 94 0 b = M.1 94 0 a ∧ ∀ j, j < 40 → M1.1 95 0 (40 * b + j) = M.1 95 0 (40 * a + j) ∧ M1.1 96 0 (40 * b + j) = M.1 96 0 (40 * a + j)) ?_ (fun M1 h1 => ?_)
  · refine ok_for 40 (fun i z => z.1 = nI i ∧ fi (fun k n i => (k = 94 ∧ i = b) ∨ ((k = 95 ∨ k = 96) ∧ 40 * b ≤ i ∧ i < 40 * b + 40)) M z.2 ∧ z.2.1 94 0 b = M.1 94 0 a ∧ ∀ j, j < i → z.2.1 95 0 (40 * b + j) = M.1 95 0 (40 * a + j) ∧ z.2.1 96 0 (40 * b + j) = M.1 96 0 (40 * a + j)) 0 (by omega) (by omega) ⟨rfl, fi_sI fi_rf (Or.inl ⟨rfl, rfl⟩), by simp [rII], fun j hj => by omega⟩ ?_
    rintro i ⟨x2, M3⟩ hi ⟨e1, hf, h9, hc⟩
    dsimp only at e1 hf h9 hc
    subst e1
    simp only [b_X12_laysLines_1, b_X12_laysLines_1c, ok_ite, nI_lit_le (show 40 < 2 ^ 31 by decide) (show i < 2 ^ 31 by omega), ix40]
    refine ⟨fun q => ?_, fun q => ?_⟩
    · have : i = 40 := by omega
      subst this
      exact ok_some.mpr ⟨hf, h9, hc⟩
    · have ina : vp_in (nI (40 * a + i)) 240 := vp_in_nI (by omega) (by decide)
      have inb : vp_in (nI (40 * b + i)) 240 := vp_in_nI (by omega) (by decide)
      simp only [ok_gi, ok_nm, ok_some, nI_clamp (show 40 * a + i < 2 ^ 31 by omega), nI_clamp (show 40 * b + i < 2 ^ 31 by omega)]
      have g95 : M3.1 95 0 (40 * a + i) = M.1 95 0 (40 * a + i) := fi_I hf (by omega)
      have g96 : M3.1 96 0 (40 * a + i) = M.1 96 0 (40 * a + i) := fi_I hf (by omega)
      refine ⟨ina, inb, ina, inb, by omega, nI_1 i, fi_sI (fi_sI hf (Or.inr ⟨Or.inl rfl, by omega, by omega⟩)) (Or.inr ⟨Or.inr rfl, by omega, by omega⟩), by simp [rII]; exact h9, fun j hj => ?_⟩
      by_cases e : j = i
      · subst e; simp [rII, g95, g96]
      · have e2 : ¬ (40 * b + j = 40 * b + i) := by omega
        simp [rII, e]; exact hc j (by omega)
  · obtain ⟨f1, c9, cc⟩ := h1
    refine ok_some.mpr ⟨⟨c9.trans h.1, fun i e he => ?_⟩, f1⟩
    have hi := (List.getElem?_eq_some_iff.mp he).1
    obtain ⟨d1, d2⟩ := cc i (by omega)
    rw [d1, d2]; exact h.2 i e he
theorem laysHeard_ok {F : Nat} (hF : 1000 < F) {M : mm} {a b : Nat} {H : hty} (hab : a ≠ b) (ha : a < 5) (hb : b < 5) (hl : H.length ≤ 10) (h : HeM a M H) : ok (m_X12_laysHeard F (nI a) (nI b) M) (fun M' => HeM b M' H ∧ fi (fun k n i => (k = 97 ∧ i = b) ∨ ((k = 98 ∨ k = 99) ∧ 10 * b ≤ i ∧ i < 10 * b + 10)) M M') := by
  unfold m_X12_laysHeard
  simp only [ok_gi, ok_nm, nI_clamp (show a < 2 ^ 31 by omega), nI_clamp (show b < 2 ^ 31 by omega)]
  refine ⟨vp_in_nI ha (by decide), vp_in_nI hb (by decide), ?_⟩
  rw [ok_bd]
  refine ok_mono (Q := fun M1 => fi (fun k n i => (k = 97 ∧ i = b) ∨ ((k = 98 ∨ k = 99) ∧ 10 * b ≤ i ∧ i < 10 * b + 10)) M M1 ∧ M1.1 97 0 b = M.1 97 0 a ∧ ∀ j, j < 10 → M1.1 98 0 (10 * b + j) = M.1 98 0 (10 * a + j) ∧ M1.1 99 0 (10 * b + j) = vp_nar .boolean (M.1 99 0 (10 * a + j))) ?_ (fun M1 h1 => ?_)
  · refine ok_for 10 (fun i z => z.1 = nI i ∧ fi (fun k n i => (k = 97 ∧ i = b) ∨ ((k = 98 ∨ k = 99) ∧ 10 * b ≤ i ∧ i < 10 * b + 10)) M z.2 ∧ z.2.1 97 0 b = M.1 97 0 a ∧ ∀ j, j < i → z.2.1 98 0 (10 * b + j) = M.1 98 0 (10 * a + j) ∧ z.2.1 99 0 (10 * b + j) = vp_nar .boolean (M.1 99 0 (10 * a + j))) 0 (by omega) (by omega) ⟨rfl, fi_sI fi_rf (Or.inl ⟨rfl, rfl⟩), by simp [rII], fun j hj => by omega⟩ ?_
    rintro i ⟨x2, M3⟩ hi ⟨e1, hf, h9, hc⟩
    dsimp only at e1 hf h9 hc
    subst e1
    simp only [b_X12_laysHeard_1, b_X12_laysHeard_1c, ok_ite, nI_lit_le (show 10 < 2 ^ 31 by decide) (show i < 2 ^ 31 by omega), ixH]
    refine ⟨fun q => ?_, fun q => ?_⟩
    · have : i = 10 := by omega
      subst this
      exact ok_some.mpr ⟨hf, h9, hc⟩
    · have ina : vp_in (nI (10 * a + i)) 50 := vp_in_nI (by omega) (by decide)
      have inb : vp_in (nI (10 * b + i)) 50 := vp_in_nI (by omega) (by decide)
      simp only [ok_gi, ok_nm, ok_some, nI_clamp (show 10 * a + i < 2 ^ 31 by omega), nI_clamp (show 10 * b + i < 2 ^ 31 by omega)]
      have g98 : M3.1 98 0 (10 * a + i) = M.1 98 0 (10 * a + i) := fi_I hf (by omega)
      have g99 : M3.1 99 0 (10 * a + i) = M.1 99 0 (10 * a + i) := fi_I hf (by omega)
      refine ⟨ina, inb, ina, inb, by omega, nI_1 i, fi_sI (fi_sI hf (Or.inr ⟨Or.inl rfl, by omega, by omega⟩)) (Or.inr ⟨Or.inr rfl, by omega, by omega⟩), by simp [rII]; exact h9, fun j hj => ?_⟩
      by_cases e : j = i
      · subst e; simp [rII, g98, g99]
      · simp [rII, e]; exact hc j (by omega)
  · obtain ⟨f1, c9, cc⟩ := h1
    refine ok_some.mpr ⟨⟨c9.trans h.1, fun i e he => ?_⟩, f1⟩
    have hi := (List.getElem?_eq_some_iff.mp he).1
    obtain ⟨d1, d2⟩ := cc i (by omega)
    obtain ⟨q1, q2⟩ := h.2 i e he
    rw [d1, d2, q1, q2]
    exact ⟨rfl, nar_b (b := e.2) ▸ (by cases e.2 <;> rfl)⟩
def setK (K : Nat → Option (mty × lty × hty)) (k : Nat) (v : mty × lty × hty) : Nat → Option (mty × lty × hty) := fun j => if j = k then some v else K j
def markS (A : sty) (k : Int32) (b : Bool) : Bool × sty :=
  if 0 ≤ k ∧ k ≤ 3 then (if b = false then (true, (aC A, aM A, aU A, setK (aK A) k.toNatClampNeg (aM A, aL A, aH A), aL A, aH A, aT A)) else match aK A k.toNatClampNeg with | none => (false, A) | some v => (true, (aC A, v.1, [], aK A, v.2.1, v.2.2, aT A))) else (false, A)
theorem mark_g {A : sty} {N : Nat} {k : Int32} {b : Bool} (hA : AOK A N) : AOK (markS A k b).2 (N + 1) := by
  have hA' := AOK_up hA
  obtain ⟨h1, h2, h3, h4, h5, h6, h7⟩ := id hA'
  unfold markS
  split
  · split
    · refine ⟨h1, h2, h3, fun j v hv => ?_, h5, h6, h7⟩
      have hv' : setK (aK A) k.toNatClampNeg (aM A, aL A, aH A) j = some v := hv
      unfold setK at hv'
      split at hv'
      · cases hv'; exact ⟨h2, h5, h6⟩
      · exact h4 j v hv'
    · cases e : aK A k.toNatClampNeg with
      | none => exact hA'
      | some v =>
        obtain ⟨q1, q2, q3⟩ := h4 _ v e
        exact ⟨h1, q1, ⟨Nat.zero_le _, fun u hu => (by cases hu)⟩, h4, q2, q3, h7⟩
  · exact hA'
theorem markC {F : Nat} (hF : 1000 < F) {A : sty} {N : Nat} {M : mm} {k : Int32} {b : Bool} (hA : AOK A N) (h : RC A N M) : ok (m_X11_mark F k (bI b) M) (QC (markS A k b).2 N M (markS A k b).1) := by
  obtain ⟨o, d, hod, h2, h3, h4, h5, h6⟩ := id h
  obtain ⟨m, u, mk, t1, t2, t3⟩ := id h4
  have no : ¬ (0 ≤ k ∧ k ≤ 3) → QC (markS A k b).2 N M (markS A k b).1 (false, M) := fun q => by unfold markS; rw [if_neg q]; exact QC_same h
  have z : (0 : Int32).toInt = 0 := rfl
  have z3 : (3 : Int32).toInt = 3 := rfl
  have z4 : (4 : Int32).toInt = 4 := rfl
  unfold m_X11_mark
  rw [ok_ite]
  refine ⟨fun q => ok_some.mpr (no (fun q2 => by simp only [i_lt, i_le] at q q2; omega)), fun q => ?_⟩
  rw [ok_ite]
  refine ⟨fun q2 => ?_, fun q2 => ok_some.mpr (no (fun q3 => by simp only [i_lt, i_le] at q q2 q3; omega))⟩
  have hin : 0 ≤ k ∧ k ≤ 3 := by simp only [i_lt, i_le] at q q2 ⊢; omega
  obtain ⟨j, hj, rfl⟩ := few (m := 3) rfl hin
  have hcl : (nI j).toNatClampNeg = j := nI_clamp (by omega)
  have hin4 : vp_in (nI j) 4 := vp_in_nI (by omega) (by decide)
  rw [hcl]
  cases b with
  | false =>
    rw [if_pos (show bI false = 0 from rfl), ok_gi]
    refine ⟨hin4, ?_⟩
    rw [ok_cv]
    refine ok_mono (copy_ok m (by omega)) (fun M4 hM4 => ?_)
    obtain ⟨c1, c2⟩ := hM4
    rw [ok_gi]
    refine ⟨hin4, ?_⟩
    rw [ok_cv]
    refine ok_mono (toldCopy_ok hF (by omega) hA.2.2.2.2.1.1 (ToL_c t1 (fun k j hk => fr_I c2 (by omega) j)) (ToH_c t2 (fun j => fr_I c2 (by omega) j))) (fun M5 hM5 => ?_)
    obtain ⟨d1, d2, d3⟩ := hM5
    rw [ok_nm, ok_some]
    have f1 : fi (fun k n i => (k = 5 ∧ n = 25 + j) ∨ ((k = 9 ∨ k = 45 ∨ k = 46) ∧ n = 2 + j) ∨ (k = 12 ∧ i = 17)) M (sI M5 12 0 17 ((M5.1 12 0 17) ||| ((1 : Int32) <<< (nI j &&& 31)))) := fi_sI (fi_tr (fi_fr c2 (fun k n i q => Or.inl q)) (fi_mono d3 (fun k n i q => Or.inr (Or.inl q)))) (Or.inr (Or.inr ⟨rfl, rfl⟩))
    have e17 : M5.1 12 0 17 = M.1 12 0 17 := by rw [fi_I d3 (by omega), fr_I c2 (by omega)]
    have cc1 : MoM (25 + j) (sI M5 12 0 17 ((M5.1 12 0 17) ||| ((1 : Int32) <<< (nI j &&& 31)))) (aM A) := MoM_c c1 (fun q _ => by rw [rII, if_neg (by omega)]; exact fi_I d3 (by omega))
    have dd1 : ToL (2 + j) (sI M5 12 0 17 ((M5.1 12 0 17) ||| ((1 : Int32) <<< (nI j &&& 31)))) (aL A) := ToL_c d1 (fun k q hk => by rw [rII, if_neg (by omega)])
    have dd2 : ToH (2 + j) (sI M5 12 0 17 ((M5.1 12 0 17) ||| ((1 : Int32) <<< (nI j &&& 31)))) (aH A) := ToH_c d2 (fun q => by rw [rII, if_neg (by omega)])
    have l17 : (sI M5 12 0 17 ((M5.1 12 0 17) ||| ((1 : Int32) <<< (nI j &&& 31)))).1 12 0 17 = (M.1 12 0 17) ||| ((1 : Int32) <<< (nI j &&& 31)) := by rw [rII, if_pos ⟨rfl, rfl, rfl⟩, e17]
    generalize sI M5 12 0 17 ((M5.1 12 0 17) ||| ((1 : Int32) <<< (nI j &&& 31))) = M6 at f1 cc1 dd1 dd2 l17 ⊢
    have e : ∀ k n i, ¬ ((k = 5 ∧ n = 25 + j) ∨ ((k = 9 ∨ k = 45 ∨ k = 46) ∧ n = 2 + j) ∨ (k = 12 ∧ i = 17)) → M6.1 k n i = M.1 k n i := fun k n i q => fi_I f1 q
    have hs : markS A (nI j) false = (true, (aC A, aM A, aU A, setK (aK A) j (aM A, aL A, aH A), aL A, aH A, aT A)) := by unfold markS; rw [if_pos hin, hcl]; rfl
    rw [hs]
    refine ⟨rfl, ⟨o, d, hod, by rw [f1.1]; exact h2, by rw [f1.1]; exact h3, ⟨MoM_c m (fun q _ => e 5 7 q (by omega)), UnC_c u (fun q _ => e 12 0 q (by omega)) (fun n q _ _ => e 5 n q (by omega)), fun q hq => ⟨?_, fun v hv => ?_⟩, ToL_c t1 (fun k q hk => e k 0 q (by omega)), ToH_c t2 (fun q => e 9 0 q (by omega)), TpC_c t3 (e 7 0 2 (by omega)) (fun q => e 40 0 q (by omega))⟩, CS_fi h5 f1 (fun k n i q => by omega), WhI_up (WhI_fi h6 f1 (fun k n i q => by omega))⟩, FrC_fi f1 (fun k n i q => by omega)⟩
    · show bt (M6.1 12 0 17) q = (setK (aK A) j (aM A, aL A, aH A) q).isSome
      rw [l17, b_or, b_one (by omega) (by omega), (mk q hq).1]
      unfold setK
      by_cases eq : q = j
      · subst eq; simp
      · simp [eq]
    · have hv' : setK (aK A) j (aM A, aL A, aH A) q = some v := hv
      unfold setK at hv'
      by_cases eq : q = j
      · subst eq
        rw [if_pos rfl] at hv'
        cases hv'
        exact ⟨cc1, dd1, dd2⟩
      · rw [if_neg eq] at hv'
        obtain ⟨a1, a2, a3⟩ := (mk q hq).2 v hv'
        exact ⟨MoM_c a1 (fun r _ => e 5 _ r (by omega)), ToL_c a2 (fun k r hk => e k _ r (by omega)), ToH_c a3 (fun r => e 9 _ r (by omega))⟩
  | true =>
    rw [if_neg (show ¬ bI true = 0 by decide), ok_ite, b_bit0 _ (show j < 32 by omega), (mk j (by omega)).1]
    cases ek : aK A j with
    | none =>
      have hs : markS A (nI j) true = (false, A) := by unfold markS; rw [if_pos hin, hcl, if_neg (by decide), ek]
      rw [hs]
      exact ⟨fun _ => ok_some.mpr (QC_same h), fun q => absurd rfl q⟩
    | some v =>
      have hs : markS A (nI j) true = (true, (aC A, v.1, [], aK A, v.2.1, v.2.2, aT A)) := by unfold markS; rw [if_pos hin, hcl, if_neg (by decide), ek]
      refine ⟨fun q => (by cases q), fun _ => ?_⟩
      obtain ⟨a1, a2, a3⟩ := (mk j (by omega)).2 v ek
      have hvl := (hA.2.2.2.1 j v ek).2.1.1
      rw [hs, ok_gi]
      refine ⟨hin4, ?_⟩
      rw [ok_cv]
      refine ok_mono (copy_ok a1 (by omega)) (fun M4 hM4 => ?_)
      obtain ⟨c1, c2⟩ := hM4
      rw [ok_gi]
      refine ⟨hin4, ?_⟩
      rw [ok_cv]
      refine ok_mono (toldCopy_ok hF (by omega) hvl (ToL_c a2 (fun k j hk => fr_I c2 (by omega) j)) (ToH_c a3 (fun j => fr_I c2 (by omega) j))) (fun M5 hM5 => ?_)
      obtain ⟨d1, d2, d3⟩ := hM5
      rw [ok_nm, ok_some]
      have f1 : fi (fun k n i => (k = 5 ∧ n = 7) ∨ ((k = 9 ∨ k = 45 ∨ k = 46) ∧ n = 0) ∨ (k = 12 ∧ i = 14)) M (sI M5 12 0 14 0) := fi_sI (fi_tr (fi_fr c2 (fun k n i q => Or.inl q)) (fi_mono d3 (fun k n i q => Or.inr (Or.inl q)))) (Or.inr (Or.inr ⟨rfl, rfl⟩))
      have cc1 : MoM 7 (sI M5 12 0 14 0) v.1 := MoM_c c1 (fun q _ => by rw [rII, if_neg (by omega)]; exact fi_I d3 (by omega))
      have dd1 : ToL 0 (sI M5 12 0 14 0) v.2.1 := ToL_c d1 (fun k q hk => by rw [rII, if_neg (by omega)])
      have dd2 : ToH 0 (sI M5 12 0 14 0) v.2.2 := ToH_c d2 (fun q => by rw [rII, if_neg (by omega)])
      have l14 : (sI M5 12 0 14 0).1 12 0 14 = 0 := by rw [rII, if_pos ⟨rfl, rfl, rfl⟩]
      generalize sI M5 12 0 14 0 = M6 at f1 cc1 dd1 dd2 l14 ⊢
      have e : ∀ k n i, ¬ ((k = 5 ∧ n = 7) ∨ ((k = 9 ∨ k = 45 ∨ k = 46) ∧ n = 0) ∨ (k = 12 ∧ i = 14)) → M6.1 k n i = M.1 k n i := fun k n i q => fi_I f1 q
      obtain ⟨-, fq, hfq, h13, -⟩ := u
      exact ⟨rfl, ⟨o, d, hod, by rw [f1.1]; exact h2, by rw [f1.1]; exact h3, ⟨cc1, ⟨l14, fq, hfq, by rw [e 12 0 13 (by omega)]; exact h13, fun i w hw => (by have hw' : ([] : List mty)[i]? = some w := hw; simp at hw')⟩, MkC_c mk (e 12 0 17 (by omega)) (fun n q _ _ => e 5 n q (by omega)) (fun k n q _ _ _ => e k n q (by omega)), dd1, dd2, TpC_c t3 (e 7 0 2 (by omega)) (fun q => e 40 0 q (by omega))⟩, CS_fi h5 f1 (fun k n i q => by omega), WhI_up (WhI_fi h6 f1 (fun k n i q => by omega))⟩, FrC_fi f1 (fun k n i q => by omega)⟩
theorem markM {F : Nat} (hF : 1000 < F) {A : sty} {N : Nat} {M : mm} {k : Int32} {b : Bool} (hA : AOK A N) (h : RM A M) : ok (m_X12_mark F k (bI b) M) (QM (markS A k b).2 M (markS A k b).1) := by
  have h1 : RM A (sI M 13 0 0 0) := RM_fi h thr_f PT_GM
  have q1 : QM A M false (false, sI M 13 0 0 0) := QM_fi h thr_f (fun k n i q => ⟨PT_GM k n i q, by unfold PT at q; omega⟩)
  have f1 := thr_f (M := M) (v := 0)
  unfold m_X12_mark
  rw [ok_nm, ok_cb]
  generalize sI M 13 0 0 0 = M1 at h1 q1 f1 ⊢
  refine ok_mono within_ok (fun r hr => ?_)
  subst hr
  dsimp only
  rw [ok_ite, decide_eq_true_iff]
  refine ⟨fun hin => ?_, fun q => ok_some.mpr (by unfold markS; rw [if_neg q]; exact q1)⟩
  obtain ⟨j, hj, rfl⟩ := few (m := 3) rfl hin
  have hcl : (nI j).toNatClampNeg = j := nI_clamp (by omega)
  have hin4 : vp_in (nI j) 4 := vp_in_nI (by omega) (by decide)
  obtain ⟨s, u, mk, l, e, t⟩ := h1.2
  have ej : (1 : Int32) + nI j = nI (1 + j) := nI_add 1 j
  have e4 : (4 : Int32) * nI j = nI (4 * j) := by show nI 4 * _ = _; rw [pk_mul]
  have n1 : vp_nar .boolean (1 : Int32) = 1 := by decide
  rw [hcl, n1]
  cases b with
  | false =>
    have hs : markS A (nI j) false = (true, (aC A, aM A, aU A, setK (aK A) j (aM A, aL A, aH A), aL A, aH A, aT A)) := by unfold markS; rw [if_pos hin, hcl]; rfl
    rw [hs, ok_nm, if_pos (show bI false = 0 from rfl), ok_gi]
    refine ⟨hin4, ?_⟩
    rw [ok_nm, if_pos (show bI false = 0 from rfl), ok_bd, ok_some, if_pos (show bI false = 0 from rfl), ok_bd, ok_some, ej, e4]
    have g1 : fi (fun k n i => k = 104 ∧ i = j) M1 (sI M1 104 0 j 1) := fi_sI fi_rf ⟨rfl, rfl⟩
    have lj : (sI M1 104 0 j 1).1 104 0 j = 1 := by rw [rII, if_pos ⟨rfl, rfl, rfl⟩]
    generalize sI M1 104 0 j 1 = M4 at g1 lj ⊢
    rw [ok_cv]
    refine ok_mono (laysLines_ok hF (a := 0) (b := 1 + j) (by omega) (by omega) (by omega) hA.2.2.2.2.1.1 (LiM_c l (fun k j hk => fi_I g1 (by omega)))) (fun M7 h7 => ?_)
    obtain ⟨c1, c2⟩ := h7
    rw [ok_cv]
    refine ok_mono (laysHeard_ok hF (a := 0) (b := 1 + j) (by omega) (by omega) (by omega) hA.2.2.2.2.2.1.1 (HeM_c e (fun k j hk => by rw [fi_I c2 (by omega), fi_I g1 (by omega)]))) (fun M8 h8 => ?_)
    obtain ⟨d1, d2⟩ := h8
    have hm8 : RwM 100 0 M8 (aM A) := RwM_c h1.1.2.2 (fun j => by rw [fi_I d2 (by omega), fi_I c2 (by omega), fi_I g1 (by omega)])
    rw [if_pos (show bI false = 0 from rfl), ok_cv]
    refine ok_mono (copies_100_102_ok hF (a := 0) (b := 4 * j) (by omega) (by omega) hm8) (fun M9 h9 => ok_some.mpr ?_)
    obtain ⟨r1, r2⟩ := h9
    have f2 : fi (fun k n i => (k = 104 ∧ i = j) ∨ ((k = 94 ∧ i = 1 + j) ∨ ((k = 95 ∨ k = 96) ∧ 40 * (1 + j) ≤ i ∧ i < 40 * (1 + j) + 40)) ∨ ((k = 97 ∧ i = 1 + j) ∨ ((k = 98 ∨ k = 99) ∧ 10 * (1 + j) ≤ i ∧ i < 10 * (1 + j) + 10)) ∨ (k = 102 ∧ 4 * j ≤ i ∧ i < 4 * j + 4)) M1 M9 := fi_tr (fi_mono g1 (fun k n i q => Or.inl q)) (fi_tr (fi_mono c2 (fun k n i q => Or.inr (Or.inl q))) (fi_tr (fi_mono d2 (fun k n i q => Or.inr (Or.inr (Or.inl q)))) (fi_mono r2 (fun k n i q => Or.inr (Or.inr (Or.inr ⟨q.1, q.2.2⟩))))))
    have l9 : M9.1 104 0 j = 1 := by rw [fi_I r2 (by omega), fi_I d2 (by omega), fi_I c2 (by omega)]; exact lj
    have L9 : LiM (1 + j) M9 (aL A) := LiM_c c1 (fun k q hk => by rw [fi_I r2 (by omega), fi_I d2 (by omega)])
    have H9 : HeM (1 + j) M9 (aH A) := HeM_c d1 (fun k q hk => by rw [fi_I r2 (by omega)])
    refine ⟨rfl, ⟨RMo_fr h1.1 (fr_fi f2) (fun k q => by obtain ⟨i, q⟩ := q; omega), ⟨by rw [fi_I f2 (by omega)]; exact s.1, by rw [fi_I f2 (by omega)]; exact s.2⟩, UnM_fi u f2 (fun k n i q => by omega), fun q hq => ⟨?_, fun v hv => ?_⟩, ?_, ?_, ⟨by rw [fi_I f2 (by omega)]; exact t.1, fun i x hx => by rw [fi_I f2 (by omega)]; exact t.2 i x hx⟩⟩, FrM_fi (fi_tr (fi_mono f1 (fun k n i q => (by unfold PT at q; omega : (k = 13 ∨ 63 ≤ k) ∧ ¬ (65 ≤ k ∧ k ≤ 67)))) (fi_mono f2 (fun k n i q => by omega))) (fun k n i q => q)⟩
    · show M9.1 104 0 q = if (setK (aK A) j (aM A, aL A, aH A) q).isSome = true then 1 else 0
      unfold setK
      by_cases eq : q = j
      · subst eq; rw [if_pos rfl]; exact l9
      · rw [if_neg eq, fi_I f2 (by omega)]; exact (mk q hq).1
    · have hv' : setK (aK A) j (aM A, aL A, aH A) q = some v := hv
      unfold setK at hv'
      by_cases eq : q = j
      · subst eq
        rw [if_pos rfl] at hv'
        cases hv'
        exact ⟨r1, L9, H9⟩
      · rw [if_neg eq] at hv'
        obtain ⟨a1, ⟨a2, a3⟩, a4, a5⟩ := (mk q hq).2 v hv'
        have vl := (hA.2.2.2.1 q v hv').2.1.1
        have vh := (hA.2.2.2.1 q v hv').2.2.1
        refine ⟨?_, ⟨by rw [fi_I f2 (by omega)]; exact a2, fun i e he => ?_⟩, ⟨by rw [fi_I f2 (by omega)]; exact a4, fun i e he => ?_⟩⟩
        · unfold RwM at a1 ⊢
          rw [fi_I f2 (by omega), fi_I f2 (by omega), fi_I f2 (by omega), fi_I f2 (by omega)]; exact a1
        · have := (List.getElem?_eq_some_iff.mp he).1
          rw [fi_I f2 (by omega), fi_I f2 (by omega)]; exact a3 i e he
        · have := (List.getElem?_eq_some_iff.mp he).1
          rw [fi_I f2 (by omega), fi_I f2 (by omega)]; exact a5 i e he
    · have hll := hA.2.2.2.2.1.1
      refine ⟨by rw [fi_I f2 (by omega)]; exact l.1, fun i e he => ?_⟩
      have hi : i < (aL A).length := (List.getElem?_eq_some_iff.mp he).1
      have hll' : (aL A).length ≤ 40 := hll
      rw [fi_I f2 (by omega), fi_I f2 (by omega)]; exact l.2 i e he
    · have hll : (aH A).length ≤ 10 := hA.2.2.2.2.2.1.1
      refine ⟨by rw [fi_I f2 (by omega)]; exact e.1, fun i e' he => ?_⟩
      have hi : i < (aH A).length := (List.getElem?_eq_some_iff.mp he).1
      rw [fi_I f2 (by omega), fi_I f2 (by omega)]; exact e.2 i e' he
  | true =>
    have hb : ¬ bI true = 0 := by decide
    rw [ok_nm, if_neg hb, ok_gi]
    refine ⟨hin4, ?_⟩
    rw [(mk j (by omega)).1, ok_ite]
    cases ek : aK A j with
    | none =>
      have hs : markS A (nI j) true = (false, A) := by unfold markS; rw [if_pos hin, hcl, if_neg (by decide), ek]
      rw [hs]
      exact ⟨fun _ => ok_some.mpr q1, fun q => absurd rfl q⟩
    | some v =>
      have hs : markS A (nI j) true = (true, (aC A, v.1, [], aK A, v.2.1, v.2.2, aT A)) := by unfold markS; rw [if_pos hin, hcl, if_neg (by decide), ek]
      refine ⟨fun q => absurd q (by simp), fun _ => ?_⟩
      obtain ⟨a1, a2, a3⟩ := (mk j (by omega)).2 v ek
      have vl : (v.2.1).length ≤ 40 := (hA.2.2.2.1 j v ek).2.1.1
      have vh : (v.2.2).length ≤ 10 := (hA.2.2.2.1 j v ek).2.2.1
      rw [hs, ok_gi]
      refine ⟨hin4, ?_⟩
      rw [ok_nm, if_neg hb, ok_bd, ok_some, if_neg hb, ok_bd, ok_some, ej, e4]
      have g1 : fi (fun k n i => k = 104 ∧ i = j) M1 (sI M1 104 0 j 1) := fi_sI fi_rf ⟨rfl, rfl⟩
      have lj : (sI M1 104 0 j 1).1 104 0 j = 1 := by rw [rII, if_pos ⟨rfl, rfl, rfl⟩]
      generalize sI M1 104 0 j 1 = M4 at g1 lj ⊢
      rw [ok_cv]
      refine ok_mono (laysLines_ok hF (a := 1 + j) (b := 0) (by omega) (by omega) (by omega) vl (LiM_c a2 (fun k j hk => fi_I g1 (by omega)))) (fun M7 h7 => ?_)
      obtain ⟨c1, c2⟩ := h7
      rw [ok_cv]
      refine ok_mono (laysHeard_ok hF (a := 1 + j) (b := 0) (by omega) (by omega) (by omega) vh (HeM_c a3 (fun k j hk => by rw [fi_I c2 (by omega), fi_I g1 (by omega)]))) (fun M8 h8 => ?_)
      obtain ⟨d1, d2⟩ := h8
      have hm8 : RwM 102 (4 * j) M8 v.1 := RwM_c a1 (fun j => by rw [fi_I d2 (by omega), fi_I c2 (by omega), fi_I g1 (by omega)])
      rw [if_neg hb, ok_cv]
      refine ok_mono (copies_102_100_ok hF (a := 4 * j) (b := 0) (by omega) (by omega) hm8) (fun M9 h9 => ?_)
      obtain ⟨r1, r2⟩ := h9
      rw [ok_nm, ok_some]
      have f2 : fi (fun k n i => (k = 104 ∧ i = j) ∨ ((k = 94 ∧ i = 0) ∨ ((k = 95 ∨ k = 96) ∧ i < 40)) ∨ ((k = 97 ∧ i = 0) ∨ ((k = 98 ∨ k = 99) ∧ i < 10)) ∨ k = 100 ∨ (k = 13 ∧ i = 54)) M1 (sI M9 13 0 54 0) := fi_sI (fi_tr (fi_mono g1 (fun k n i q => Or.inl q)) (fi_tr (fi_mono c2 (fun k n i q => by omega)) (fi_tr (fi_mono d2 (fun k n i q => by omega)) (fi_mono r2 (fun k n i q => by omega))))) (by omega)
      have l9 : (sI M9 13 0 54 0).1 104 0 j = 1 := by rw [rII, if_neg (by omega), fi_I r2 (by omega), fi_I d2 (by omega), fi_I c2 (by omega)]; exact lj
      have L9 : LiM 0 (sI M9 13 0 54 0) v.2.1 := LiM_c c1 (fun k q hk => by rw [rII, if_neg (by omega), fi_I r2 (by omega), fi_I d2 (by omega)])
      have H9 : HeM 0 (sI M9 13 0 54 0) v.2.2 := HeM_c d1 (fun k q hk => by rw [rII, if_neg (by omega), fi_I r2 (by omega)])
      have R9 : MoR (sI M9 13 0 54 0) v.1 := RwM_c r1 (fun q => by rw [rII, if_neg (by omega)])
      have u9 : (sI M9 13 0 54 0).1 13 0 54 = 0 := by rw [rII, if_pos ⟨rfl, rfl, rfl⟩]
      generalize sI M9 13 0 54 0 = M10 at f2 l9 L9 H9 R9 u9 ⊢
      refine ⟨rfl, ⟨⟨MV_fr h1.1.1 (fr_fi f2) (fun k h1 h2 q => by obtain ⟨i, q⟩ := q; omega), ?_, R9⟩, ⟨by rw [fi_I f2 (by omega)]; exact s.1, by rw [fi_I f2 (by omega)]; exact s.2⟩, ⟨u9, fun i w hw => (by have hw' : ([] : List mty)[i]? = some w := hw; simp at hw')⟩, fun q hq => ⟨?_, fun w hw => ?_⟩, L9, H9, ⟨by rw [fi_I f2 (by omega)]; exact t.1, fun i x hx => by rw [fi_I f2 (by omega)]; exact t.2 i x hx⟩⟩, FrM_fi (fi_tr (fi_mono f1 (fun k n i q => (by unfold PT at q; omega : (k = 13 ∨ 63 ≤ k) ∧ ¬ (65 ≤ k ∧ k ≤ 67)))) (fi_mono f2 (fun k n i q => by omega))) (fun k n i q => q)⟩
      · have := h1.1.2.1
        unfold B0 at this ⊢
        rw [fi_I f2 (by omega)]; exact this
      · by_cases eq : q = j
        · subst eq
          show M10.1 104 0 q = if (aK A q).isSome = true then 1 else 0
          rw [ek]; exact l9
        · rw [fi_I f2 (by omega)]; exact (mk q hq).1
      · obtain ⟨a1, ⟨a2, a3⟩, a4, a5⟩ := (mk q hq).2 w hw
        refine ⟨RwM_c a1 (fun i => fi_I f2 (by omega)), ⟨by rw [fi_I f2 (by omega)]; exact a2, fun i e he => ?_⟩, ⟨by rw [fi_I f2 (by omega)]; exact a4, fun i e he => ?_⟩⟩
        · rw [fi_I f2 (by omega), fi_I f2 (by omega)]; exact a3 i e he
        · rw [fi_I f2 (by omega), fi_I f2 (by omega)]; exact a5 i e he
