/-! the reference lays the draft down as its city -/
theorem mv64_ok {F : Nat} (hF : 2000 < F) {M : mm} : ok (m_X12_moves_64 F (6 : Int32) M) (fun M' => (∀ i, i < 6 → M'.1 64 0 i = M.1 64 0 (6 + i)) ∧ fi (fun k m i => k = 64 ∧ m = 0 ∧ i < 6) M M') := by
  unfold m_X12_moves_64
  rw [ok_bd]
  refine ok_mono (Q := fun M' => (∀ i, i < 6 → M'.1 64 0 i = M.1 64 0 (6 + i)) ∧ fi (fun k m i => k = 64 ∧ m = 0 ∧ i < 6) M M') ?_ (fun M4 h4 => ok_some.mpr h4)
  refine ok_for 6 (fun i z => z.1 = nI i ∧ (∀ j, j < i → z.2.1 64 0 j = M.1 64 0 (6 + j)) ∧ fi (fun k m i => k = 64 ∧ m = 0 ∧ i < 6) M z.2) 0 (by omega) (by omega) ⟨rfl, fun j hj => by omega, fi_rf⟩ ?_
  rintro i ⟨x1, M2⟩ hi ⟨e1, v2, f2⟩
  dsimp only at e1 v2 f2
  subst e1
  have e6 : (6 : Int32) ≤ nI i ↔ 6 ≤ i := (nI_leI (by omega) (by omega) : nI 6 ≤ nI i ↔ 6 ≤ i)
  have e7 : (6 : Int32) + nI i = nI (6 + i) := nI_add 6 i
  simp only [b_X12_moves_64_1, b_X12_moves_64_1c]
  rw [ok_ite, e6]
  refine ⟨fun q => ok_some.mpr ⟨fun j hj => v2 j (by omega), f2⟩, fun q => ?_⟩
  rw [e7, ok_gi, ok_gi, ok_nm, ok_some, nI_clamp (by omega), nI_clamp (by omega), fi_I f2 (by omega)]
  refine ⟨vp_in_nI (by omega) (by decide), vp_in_nI (by omega) (by decide), by omega, nI_1 i, fun j hj => ?_, fi_sI f2 ⟨rfl, rfl, by omega⟩⟩
  show (sI M2 64 0 i (M.1 64 0 (6 + i))).1 64 0 j = _
  rw [rII]
  by_cases e : j = i
  · rw [if_pos ⟨rfl, rfl, e⟩, e]
  · rw [if_neg (by omega)]; exact v2 j (by omega)
theorem mv65_ok {F : Nat} (hF : 2000 < F) {M : mm} : ok (m_X12_movesNames_65 F (6 : Int32) M) (fun M' => (∀ i, i < 6 → M'.2.1 65 0 i = M.2.1 65 0 (6 + i)) ∧ fi (fun k m i => k = 65 ∧ m = 0 ∧ i < 6) M M') := by
  unfold m_X12_movesNames_65
  rw [ok_bd]
  refine ok_mono (Q := fun M' => (∀ i, i < 6 → M'.2.1 65 0 i = M.2.1 65 0 (6 + i)) ∧ fi (fun k m i => k = 65 ∧ m = 0 ∧ i < 6) M M') ?_ (fun M4 h4 => ok_some.mpr h4)
  refine ok_for 6 (fun i z => z.1 = nI i ∧ (∀ j, j < i → z.2.2.1 65 0 j = M.2.1 65 0 (6 + j)) ∧ fi (fun k m i => k = 65 ∧ m = 0 ∧ i < 6) M z.2) 0 (by omega) (by omega) ⟨rfl, fun j hj => by omega, fi_rf⟩ ?_
  rintro i ⟨x1, M2⟩ hi ⟨e1, v2, f2⟩
  dsimp only at e1 v2 f2
  subst e1
  have e6 : (6 : Int32) ≤ nI i ↔ 6 ≤ i := (nI_leI (by omega) (by omega) : nI 6 ≤ nI i ↔ 6 ≤ i)
  have e7 : (6 : Int32) + nI i = nI (6 + i) := nI_add 6 i
  simp only [b_X12_movesNames_65_1, b_X12_movesNames_65_1c]
  rw [ok_ite, e6]
  refine ⟨fun q => ok_some.mpr ⟨fun j hj => v2 j (by omega), f2⟩, fun q => ?_⟩
  rw [e7, ok_gi, ok_gi, ok_nm, ok_some, nI_clamp (by omega), nI_clamp (by omega), fi_L f2 (by omega)]
  refine ⟨vp_in_nI (by omega) (by decide), vp_in_nI (by omega) (by decide), by omega, nI_1 i, fun j hj => ?_, fi_sL f2 ⟨rfl, rfl, by omega⟩⟩
  show (sL M2 65 0 i (M.2.1 65 0 (6 + i))).2.1 65 0 j = _
  rw [rLL]
  by_cases e : j = i
  · rw [if_pos ⟨rfl, rfl, e⟩, e]
  · rw [if_neg (by omega)]; exact v2 j (by omega)
theorem mv66_ok {F : Nat} (hF : 2000 < F) {M : mm} : ok (m_X12_movesNames_66 F (10 : Int32) M) (fun M' => (∀ i, i < 10 → M'.2.1 66 0 i = M.2.1 66 0 (10 + i)) ∧ fi (fun k m i => k = 66 ∧ m = 0 ∧ i < 10) M M') := by
  unfold m_X12_movesNames_66
  rw [ok_bd]
  refine ok_mono (Q := fun M' => (∀ i, i < 10 → M'.2.1 66 0 i = M.2.1 66 0 (10 + i)) ∧ fi (fun k m i => k = 66 ∧ m = 0 ∧ i < 10) M M') ?_ (fun M4 h4 => ok_some.mpr h4)
  refine ok_for 10 (fun i z => z.1 = nI i ∧ (∀ j, j < i → z.2.2.1 66 0 j = M.2.1 66 0 (10 + j)) ∧ fi (fun k m i => k = 66 ∧ m = 0 ∧ i < 10) M z.2) 0 (by omega) (by omega) ⟨rfl, fun j hj => by omega, fi_rf⟩ ?_
  rintro i ⟨x1, M2⟩ hi ⟨e1, v2, f2⟩
  dsimp only at e1 v2 f2
  subst e1
  have e6 : (10 : Int32) ≤ nI i ↔ 10 ≤ i := (nI_leI (by omega) (by omega) : nI 10 ≤ nI i ↔ 10 ≤ i)
  have e7 : (10 : Int32) + nI i = nI (10 + i) := nI_add 10 i
  simp only [b_X12_movesNames_66_1, b_X12_movesNames_66_1c]
  rw [ok_ite, e6]
  refine ⟨fun q => ok_some.mpr ⟨fun j hj => v2 j (by omega), f2⟩, fun q => ?_⟩
  rw [e7, ok_gi, ok_gi, ok_nm, ok_some, nI_clamp (by omega), nI_clamp (by omega), fi_L f2 (by omega)]
  refine ⟨vp_in_nI (by omega) (by decide), vp_in_nI (by omega) (by decide), by omega, nI_1 i, fun j hj => ?_, fi_sL f2 ⟨rfl, rfl, by omega⟩⟩
  show (sL M2 66 0 i (M.2.1 66 0 (10 + i))).2.1 66 0 j = _
  rw [rLL]
  by_cases e : j = i
  · rw [if_pos ⟨rfl, rfl, e⟩, e]
  · rw [if_neg (by omega)]; exact v2 j (by omega)
theorem mv67_ok {F : Nat} (hF : 2000 < F) {M : mm} : ok (m_X12_movesNames_67 F (10 : Int32) M) (fun M' => (∀ i, i < 10 → M'.2.1 67 0 i = M.2.1 67 0 (10 + i)) ∧ fi (fun k m i => k = 67 ∧ m = 0 ∧ i < 10) M M') := by
  unfold m_X12_movesNames_67
  rw [ok_bd]
  refine ok_mono (Q := fun M' => (∀ i, i < 10 → M'.2.1 67 0 i = M.2.1 67 0 (10 + i)) ∧ fi (fun k m i => k = 67 ∧ m = 0 ∧ i < 10) M M') ?_ (fun M4 h4 => ok_some.mpr h4)
  refine ok_for 10 (fun i z => z.1 = nI i ∧ (∀ j, j < i → z.2.2.1 67 0 j = M.2.1 67 0 (10 + j)) ∧ fi (fun k m i => k = 67 ∧ m = 0 ∧ i < 10) M z.2) 0 (by omega) (by omega) ⟨rfl, fun j hj => by omega, fi_rf⟩ ?_
  rintro i ⟨x1, M2⟩ hi ⟨e1, v2, f2⟩
  dsimp only at e1 v2 f2
  subst e1
  have e6 : (10 : Int32) ≤ nI i ↔ 10 ≤ i := (nI_leI (by omega) (by omega) : nI 10 ≤ nI i ↔ 10 ≤ i)
  have e7 : (10 : Int32) + nI i = nI (10 + i) := nI_add 10 i
  simp only [b_X12_movesNames_67_1, b_X12_movesNames_67_1c]
  rw [ok_ite, e6]
  refine ⟨fun q => ok_some.mpr ⟨fun j hj => v2 j (by omega), f2⟩, fun q => ?_⟩
  rw [e7, ok_gi, ok_gi, ok_nm, ok_some, nI_clamp (by omega), nI_clamp (by omega), fi_L f2 (by omega)]
  refine ⟨vp_in_nI (by omega) (by decide), vp_in_nI (by omega) (by decide), by omega, nI_1 i, fun j hj => ?_, fi_sL f2 ⟨rfl, rfl, by omega⟩⟩
  show (sL M2 67 0 i (M.2.1 67 0 (10 + i))).2.1 67 0 j = _
  rw [rLL]
  by_cases e : j = i
  · rw [if_pos ⟨rfl, rfl, e⟩, e]
  · rw [if_neg (by omega)]; exact v2 j (by omega)
theorem mv68_ok {F : Nat} (hF : 2000 < F) {M : mm} : ok (m_X12_moves_68 F (6 : Int32) M) (fun M' => (∀ i, i < 6 → M'.1 68 0 i = M.1 68 0 (6 + i)) ∧ fi (fun k m i => k = 68 ∧ m = 0 ∧ i < 6) M M') := by
  unfold m_X12_moves_68
  rw [ok_bd]
  refine ok_mono (Q := fun M' => (∀ i, i < 6 → M'.1 68 0 i = M.1 68 0 (6 + i)) ∧ fi (fun k m i => k = 68 ∧ m = 0 ∧ i < 6) M M') ?_ (fun M4 h4 => ok_some.mpr h4)
  refine ok_for 6 (fun i z => z.1 = nI i ∧ (∀ j, j < i → z.2.1 68 0 j = M.1 68 0 (6 + j)) ∧ fi (fun k m i => k = 68 ∧ m = 0 ∧ i < 6) M z.2) 0 (by omega) (by omega) ⟨rfl, fun j hj => by omega, fi_rf⟩ ?_
  rintro i ⟨x1, M2⟩ hi ⟨e1, v2, f2⟩
  dsimp only at e1 v2 f2
  subst e1
  have e6 : (6 : Int32) ≤ nI i ↔ 6 ≤ i := (nI_leI (by omega) (by omega) : nI 6 ≤ nI i ↔ 6 ≤ i)
  have e7 : (6 : Int32) + nI i = nI (6 + i) := nI_add 6 i
  simp only [b_X12_moves_68_1, b_X12_moves_68_1c]
  rw [ok_ite, e6]
  refine ⟨fun q => ok_some.mpr ⟨fun j hj => v2 j (by omega), f2⟩, fun q => ?_⟩
  rw [e7, ok_gi, ok_gi, ok_nm, ok_some, nI_clamp (by omega), nI_clamp (by omega), fi_I f2 (by omega)]
  refine ⟨vp_in_nI (by omega) (by decide), vp_in_nI (by omega) (by decide), by omega, nI_1 i, fun j hj => ?_, fi_sI f2 ⟨rfl, rfl, by omega⟩⟩
  show (sI M2 68 0 i (M.1 68 0 (6 + i))).1 68 0 j = _
  rw [rII]
  by_cases e : j = i
  · rw [if_pos ⟨rfl, rfl, e⟩, e]
  · rw [if_neg (by omega)]; exact v2 j (by omega)
theorem mv69_ok {F : Nat} (hF : 2000 < F) {M : mm} : ok (m_X12_moves_69 F (6 : Int32) M) (fun M' => (∀ i, i < 6 → M'.1 69 0 i = M.1 69 0 (6 + i)) ∧ fi (fun k m i => k = 69 ∧ m = 0 ∧ i < 6) M M') := by
  unfold m_X12_moves_69
  rw [ok_bd]
  refine ok_mono (Q := fun M' => (∀ i, i < 6 → M'.1 69 0 i = M.1 69 0 (6 + i)) ∧ fi (fun k m i => k = 69 ∧ m = 0 ∧ i < 6) M M') ?_ (fun M4 h4 => ok_some.mpr h4)
  refine ok_for 6 (fun i z => z.1 = nI i ∧ (∀ j, j < i → z.2.1 69 0 j = M.1 69 0 (6 + j)) ∧ fi (fun k m i => k = 69 ∧ m = 0 ∧ i < 6) M z.2) 0 (by omega) (by omega) ⟨rfl, fun j hj => by omega, fi_rf⟩ ?_
  rintro i ⟨x1, M2⟩ hi ⟨e1, v2, f2⟩
  dsimp only at e1 v2 f2
  subst e1
  have e6 : (6 : Int32) ≤ nI i ↔ 6 ≤ i := (nI_leI (by omega) (by omega) : nI 6 ≤ nI i ↔ 6 ≤ i)
  have e7 : (6 : Int32) + nI i = nI (6 + i) := nI_add 6 i
  simp only [b_X12_moves_69_1, b_X12_moves_69_1c]
  rw [ok_ite, e6]
  refine ⟨fun q => ok_some.mpr ⟨fun j hj => v2 j (by omega), f2⟩, fun q => ?_⟩
  rw [e7, ok_gi, ok_gi, ok_nm, ok_some, nI_clamp (by omega), nI_clamp (by omega), fi_I f2 (by omega)]
  refine ⟨vp_in_nI (by omega) (by decide), vp_in_nI (by omega) (by decide), by omega, nI_1 i, fun j hj => ?_, fi_sI f2 ⟨rfl, rfl, by omega⟩⟩
  show (sI M2 69 0 i (M.1 69 0 (6 + i))).1 69 0 j = _
  rw [rII]
  by_cases e : j = i
  · rw [if_pos ⟨rfl, rfl, e⟩, e]
  · rw [if_neg (by omega)]; exact v2 j (by omega)
theorem mv70_ok {F : Nat} (hF : 2000 < F) {M : mm} : ok (m_X12_moves_70 F (10 : Int32) M) (fun M' => (∀ i, i < 10 → M'.1 70 0 i = M.1 70 0 (10 + i)) ∧ fi (fun k m i => k = 70 ∧ m = 0 ∧ i < 10) M M') := by
  unfold m_X12_moves_70
  rw [ok_bd]
  refine ok_mono (Q := fun M' => (∀ i, i < 10 → M'.1 70 0 i = M.1 70 0 (10 + i)) ∧ fi (fun k m i => k = 70 ∧ m = 0 ∧ i < 10) M M') ?_ (fun M4 h4 => ok_some.mpr h4)
  refine ok_for 10 (fun i z => z.1 = nI i ∧ (∀ j, j < i → z.2.1 70 0 j = M.1 70 0 (10 + j)) ∧ fi (fun k m i => k = 70 ∧ m = 0 ∧ i < 10) M z.2) 0 (by omega) (by omega) ⟨rfl, fun j hj => by omega, fi_rf⟩ ?_
  rintro i ⟨x1, M2⟩ hi ⟨e1, v2, f2⟩
  dsimp only at e1 v2 f2
  subst e1
  have e6 : (10 : Int32) ≤ nI i ↔ 10 ≤ i := (nI_leI (by omega) (by omega) : nI 10 ≤ nI i ↔ 10 ≤ i)
  have e7 : (10 : Int32) + nI i = nI (10 + i) := nI_add 10 i
  simp only [b_X12_moves_70_1, b_X12_moves_70_1c]
  rw [ok_ite, e6]
  refine ⟨fun q => ok_some.mpr ⟨fun j hj => v2 j (by omega), f2⟩, fun q => ?_⟩
  rw [e7, ok_gi, ok_gi, ok_nm, ok_some, nI_clamp (by omega), nI_clamp (by omega), fi_I f2 (by omega)]
  refine ⟨vp_in_nI (by omega) (by decide), vp_in_nI (by omega) (by decide), by omega, nI_1 i, fun j hj => ?_, fi_sI f2 ⟨rfl, rfl, by omega⟩⟩
  show (sI M2 70 0 i (M.1 70 0 (10 + i))).1 70 0 j = _
  rw [rII]
  by_cases e : j = i
  · rw [if_pos ⟨rfl, rfl, e⟩, e]
  · rw [if_neg (by omega)]; exact v2 j (by omega)
theorem mv71_ok {F : Nat} (hF : 2000 < F) {M : mm} : ok (m_X12_moves_71 F (10 : Int32) M) (fun M' => (∀ i, i < 10 → M'.1 71 0 i = M.1 71 0 (10 + i)) ∧ fi (fun k m i => k = 71 ∧ m = 0 ∧ i < 10) M M') := by
  unfold m_X12_moves_71
  rw [ok_bd]
  refine ok_mono (Q := fun M' => (∀ i, i < 10 → M'.1 71 0 i = M.1 71 0 (10 + i)) ∧ fi (fun k m i => k = 71 ∧ m = 0 ∧ i < 10) M M') ?_ (fun M4 h4 => ok_some.mpr h4)
  refine ok_for 10 (fun i z => z.1 = nI i ∧ (∀ j, j < i → z.2.1 71 0 j = M.1 71 0 (10 + j)) ∧ fi (fun k m i => k = 71 ∧ m = 0 ∧ i < 10) M z.2) 0 (by omega) (by omega) ⟨rfl, fun j hj => by omega, fi_rf⟩ ?_
  rintro i ⟨x1, M2⟩ hi ⟨e1, v2, f2⟩
  dsimp only at e1 v2 f2
  subst e1
  have e6 : (10 : Int32) ≤ nI i ↔ 10 ≤ i := (nI_leI (by omega) (by omega) : nI 10 ≤ nI i ↔ 10 ≤ i)
  have e7 : (10 : Int32) + nI i = nI (10 + i) := nI_add 10 i
  simp only [b_X12_moves_71_1, b_X12_moves_71_1c]
  rw [ok_ite, e6]
  refine ⟨fun q => ok_some.mpr ⟨fun j hj => v2 j (by omega), f2⟩, fun q => ?_⟩
  rw [e7, ok_gi, ok_gi, ok_nm, ok_some, nI_clamp (by omega), nI_clamp (by omega), fi_I f2 (by omega)]
  refine ⟨vp_in_nI (by omega) (by decide), vp_in_nI (by omega) (by decide), by omega, nI_1 i, fun j hj => ?_, fi_sI f2 ⟨rfl, rfl, by omega⟩⟩
  show (sI M2 71 0 i (M.1 71 0 (10 + i))).1 71 0 j = _
  rw [rII]
  by_cases e : j = i
  · rw [if_pos ⟨rfl, rfl, e⟩, e]
  · rw [if_neg (by omega)]; exact v2 j (by omega)
theorem mv72_ok {F : Nat} (hF : 2000 < F) {M : mm} : ok (m_X12_moves_72 F (10 : Int32) M) (fun M' => (∀ i, i < 10 → M'.1 72 0 i = M.1 72 0 (10 + i)) ∧ fi (fun k m i => k = 72 ∧ m = 0 ∧ i < 10) M M') := by
  unfold m_X12_moves_72
  rw [ok_bd]
  refine ok_mono (Q := fun M' => (∀ i, i < 10 → M'.1 72 0 i = M.1 72 0 (10 + i)) ∧ fi (fun k m i => k = 72 ∧ m = 0 ∧ i < 10) M M') ?_ (fun M4 h4 => ok_some.mpr h4)
  refine ok_for 10 (fun i z => z.1 = nI i ∧ (∀ j, j < i → z.2.1 72 0 j = M.1 72 0 (10 + j)) ∧ fi (fun k m i => k = 72 ∧ m = 0 ∧ i < 10) M z.2) 0 (by omega) (by omega) ⟨rfl, fun j hj => by omega, fi_rf⟩ ?_
  rintro i ⟨x1, M2⟩ hi ⟨e1, v2, f2⟩
  dsimp only at e1 v2 f2
  subst e1
  have e6 : (10 : Int32) ≤ nI i ↔ 10 ≤ i := (nI_leI (by omega) (by omega) : nI 10 ≤ nI i ↔ 10 ≤ i)
  have e7 : (10 : Int32) + nI i = nI (10 + i) := nI_add 10 i
  simp only [b_X12_moves_72_1, b_X12_moves_72_1c]
  rw [ok_ite, e6]
  refine ⟨fun q => ok_some.mpr ⟨fun j hj => v2 j (by omega), f2⟩, fun q => ?_⟩
  rw [e7, ok_gi, ok_gi, ok_nm, ok_some, nI_clamp (by omega), nI_clamp (by omega), fi_I f2 (by omega)]
  refine ⟨vp_in_nI (by omega) (by decide), vp_in_nI (by omega) (by decide), by omega, nI_1 i, fun j hj => ?_, fi_sI f2 ⟨rfl, rfl, by omega⟩⟩
  show (sI M2 72 0 i (M.1 72 0 (10 + i))).1 72 0 j = _
  rw [rII]
  by_cases e : j = i
  · rw [if_pos ⟨rfl, rfl, e⟩, e]
  · rw [if_neg (by omega)]; exact v2 j (by omega)
theorem mv73_ok {F : Nat} (hF : 2000 < F) {M : mm} : ok (m_X12_moves_73 F (10 : Int32) M) (fun M' => (∀ i, i < 10 → M'.1 73 0 i = M.1 73 0 (10 + i)) ∧ fi (fun k m i => k = 73 ∧ m = 0 ∧ i < 10) M M') := by
  unfold m_X12_moves_73
  rw [ok_bd]
  refine ok_mono (Q := fun M' => (∀ i, i < 10 → M'.1 73 0 i = M.1 73 0 (10 + i)) ∧ fi (fun k m i => k = 73 ∧ m = 0 ∧ i < 10) M M') ?_ (fun M4 h4 => ok_some.mpr h4)
  refine ok_for 10 (fun i z => z.1 = nI i ∧ (∀ j, j < i → z.2.1 73 0 j = M.1 73 0 (10 + j)) ∧ fi (fun k m i => k = 73 ∧ m = 0 ∧ i < 10) M z.2) 0 (by omega) (by omega) ⟨rfl, fun j hj => by omega, fi_rf⟩ ?_
  rintro i ⟨x1, M2⟩ hi ⟨e1, v2, f2⟩
  dsimp only at e1 v2 f2
  subst e1
  have e6 : (10 : Int32) ≤ nI i ↔ 10 ≤ i := (nI_leI (by omega) (by omega) : nI 10 ≤ nI i ↔ 10 ≤ i)
  have e7 : (10 : Int32) + nI i = nI (10 + i) := nI_add 10 i
  simp only [b_X12_moves_73_1, b_X12_moves_73_1c]
  rw [ok_ite, e6]
  refine ⟨fun q => ok_some.mpr ⟨fun j hj => v2 j (by omega), f2⟩, fun q => ?_⟩
  rw [e7, ok_gi, ok_gi, ok_nm, ok_some, nI_clamp (by omega), nI_clamp (by omega), fi_I f2 (by omega)]
  refine ⟨vp_in_nI (by omega) (by decide), vp_in_nI (by omega) (by decide), by omega, nI_1 i, fun j hj => ?_, fi_sI f2 ⟨rfl, rfl, by omega⟩⟩
  show (sI M2 73 0 i (M.1 73 0 (10 + i))).1 73 0 j = _
  rw [rII]
  by_cases e : j = i
  · rw [if_pos ⟨rfl, rfl, e⟩, e]
  · rw [if_neg (by omega)]; exact v2 j (by omega)
theorem mv74_ok {F : Nat} (hF : 2000 < F) {M : mm} : ok (m_X12_moves_74 F (10 : Int32) M) (fun M' => (∀ i, i < 10 → M'.1 74 0 i = M.1 74 0 (10 + i)) ∧ fi (fun k m i => k = 74 ∧ m = 0 ∧ i < 10) M M') := by
  unfold m_X12_moves_74
  rw [ok_bd]
  refine ok_mono (Q := fun M' => (∀ i, i < 10 → M'.1 74 0 i = M.1 74 0 (10 + i)) ∧ fi (fun k m i => k = 74 ∧ m = 0 ∧ i < 10) M M') ?_ (fun M4 h4 => ok_some.mpr h4)
  refine ok_for 10 (fun i z => z.1 = nI i ∧ (∀ j, j < i → z.2.1 74 0 j = M.1 74 0 (10 + j)) ∧ fi (fun k m i => k = 74 ∧ m = 0 ∧ i < 10) M z.2) 0 (by omega) (by omega) ⟨rfl, fun j hj => by omega, fi_rf⟩ ?_
  rintro i ⟨x1, M2⟩ hi ⟨e1, v2, f2⟩
  dsimp only at e1 v2 f2
  subst e1
  have e6 : (10 : Int32) ≤ nI i ↔ 10 ≤ i := (nI_leI (by omega) (by omega) : nI 10 ≤ nI i ↔ 10 ≤ i)
  have e7 : (10 : Int32) + nI i = nI (10 + i) := nI_add 10 i
  simp only [b_X12_moves_74_1, b_X12_moves_74_1c]
  rw [ok_ite, e6]
  refine ⟨fun q => ok_some.mpr ⟨fun j hj => v2 j (by omega), f2⟩, fun q => ?_⟩
  rw [e7, ok_gi, ok_gi, ok_nm, ok_some, nI_clamp (by omega), nI_clamp (by omega), fi_I f2 (by omega)]
  refine ⟨vp_in_nI (by omega) (by decide), vp_in_nI (by omega) (by decide), by omega, nI_1 i, fun j hj => ?_, fi_sI f2 ⟨rfl, rfl, by omega⟩⟩
  show (sI M2 74 0 i (M.1 74 0 (10 + i))).1 74 0 j = _
  rw [rII]
  by_cases e : j = i
  · rw [if_pos ⟨rfl, rfl, e⟩, e]
  · rw [if_neg (by omega)]; exact v2 j (by omega)
theorem mv75_ok {F : Nat} (hF : 2000 < F) {M : mm} : ok (m_X12_moves_75 F (11 : Int32) M) (fun M' => (∀ i, i < 11 → M'.1 75 0 i = M.1 75 0 (11 + i)) ∧ fi (fun k m i => k = 75 ∧ m = 0 ∧ i < 11) M M') := by
  unfold m_X12_moves_75
  rw [ok_bd]
  refine ok_mono (Q := fun M' => (∀ i, i < 11 → M'.1 75 0 i = M.1 75 0 (11 + i)) ∧ fi (fun k m i => k = 75 ∧ m = 0 ∧ i < 11) M M') ?_ (fun M4 h4 => ok_some.mpr h4)
  refine ok_for 11 (fun i z => z.1 = nI i ∧ (∀ j, j < i → z.2.1 75 0 j = M.1 75 0 (11 + j)) ∧ fi (fun k m i => k = 75 ∧ m = 0 ∧ i < 11) M z.2) 0 (by omega) (by omega) ⟨rfl, fun j hj => by omega, fi_rf⟩ ?_
  rintro i ⟨x1, M2⟩ hi ⟨e1, v2, f2⟩
  dsimp only at e1 v2 f2
  subst e1
  have e6 : (11 : Int32) ≤ nI i ↔ 11 ≤ i := (nI_leI (by omega) (by omega) : nI 11 ≤ nI i ↔ 11 ≤ i)
  have e7 : (11 : Int32) + nI i = nI (11 + i) := nI_add 11 i
  simp only [b_X12_moves_75_1, b_X12_moves_75_1c]
  rw [ok_ite, e6]
  refine ⟨fun q => ok_some.mpr ⟨fun j hj => v2 j (by omega), f2⟩, fun q => ?_⟩
  rw [e7, ok_gi, ok_gi, ok_nm, ok_some, nI_clamp (by omega), nI_clamp (by omega), fi_I f2 (by omega)]
  refine ⟨vp_in_nI (by omega) (by decide), vp_in_nI (by omega) (by decide), by omega, nI_1 i, fun j hj => ?_, fi_sI f2 ⟨rfl, rfl, by omega⟩⟩
  show (sI M2 75 0 i (M.1 75 0 (11 + i))).1 75 0 j = _
  rw [rII]
  by_cases e : j = i
  · rw [if_pos ⟨rfl, rfl, e⟩, e]
  · rw [if_neg (by omega)]; exact v2 j (by omega)
theorem mv76_ok {F : Nat} (hF : 2000 < F) {M : mm} : ok (m_X12_moves_76 F (10 : Int32) M) (fun M' => (∀ i, i < 10 → M'.1 76 0 i = M.1 76 0 (10 + i)) ∧ fi (fun k m i => k = 76 ∧ m = 0 ∧ i < 10) M M') := by
  unfold m_X12_moves_76
  rw [ok_bd]
  refine ok_mono (Q := fun M' => (∀ i, i < 10 → M'.1 76 0 i = M.1 76 0 (10 + i)) ∧ fi (fun k m i => k = 76 ∧ m = 0 ∧ i < 10) M M') ?_ (fun M4 h4 => ok_some.mpr h4)
  refine ok_for 10 (fun i z => z.1 = nI i ∧ (∀ j, j < i → z.2.1 76 0 j = M.1 76 0 (10 + j)) ∧ fi (fun k m i => k = 76 ∧ m = 0 ∧ i < 10) M z.2) 0 (by omega) (by omega) ⟨rfl, fun j hj => by omega, fi_rf⟩ ?_
  rintro i ⟨x1, M2⟩ hi ⟨e1, v2, f2⟩
  dsimp only at e1 v2 f2
  subst e1
  have e6 : (10 : Int32) ≤ nI i ↔ 10 ≤ i := (nI_leI (by omega) (by omega) : nI 10 ≤ nI i ↔ 10 ≤ i)
  have e7 : (10 : Int32) + nI i = nI (10 + i) := nI_add 10 i
  simp only [b_X12_moves_76_1, b_X12_moves_76_1c]
  rw [ok_ite, e6]
  refine ⟨fun q => ok_some.mpr ⟨fun j hj => v2 j (by omega), f2⟩, fun q => ?_⟩
  rw [e7, ok_gi, ok_gi, ok_nm, ok_some, nI_clamp (by omega), nI_clamp (by omega), fi_I f2 (by omega)]
  refine ⟨vp_in_nI (by omega) (by decide), vp_in_nI (by omega) (by decide), by omega, nI_1 i, fun j hj => ?_, fi_sI f2 ⟨rfl, rfl, by omega⟩⟩
  show (sI M2 76 0 i (M.1 76 0 (10 + i))).1 76 0 j = _
  rw [rII]
  by_cases e : j = i
  · rw [if_pos ⟨rfl, rfl, e⟩, e]
  · rw [if_neg (by omega)]; exact v2 j (by omega)
theorem mv77_ok {F : Nat} (hF : 2000 < F) {M : mm} : ok (m_X12_moves_77 F (11 : Int32) M) (fun M' => (∀ i, i < 11 → M'.1 77 0 i = M.1 77 0 (11 + i)) ∧ fi (fun k m i => k = 77 ∧ m = 0 ∧ i < 11) M M') := by
  unfold m_X12_moves_77
  rw [ok_bd]
  refine ok_mono (Q := fun M' => (∀ i, i < 11 → M'.1 77 0 i = M.1 77 0 (11 + i)) ∧ fi (fun k m i => k = 77 ∧ m = 0 ∧ i < 11) M M') ?_ (fun M4 h4 => ok_some.mpr h4)
  refine ok_for 11 (fun i z => z.1 = nI i ∧ (∀ j, j < i → z.2.1 77 0 j = M.1 77 0 (11 + j)) ∧ fi (fun k m i => k = 77 ∧ m = 0 ∧ i < 11) M z.2) 0 (by omega) (by omega) ⟨rfl, fun j hj => by omega, fi_rf⟩ ?_
  rintro i ⟨x1, M2⟩ hi ⟨e1, v2, f2⟩
  dsimp only at e1 v2 f2
  subst e1
  have e6 : (11 : Int32) ≤ nI i ↔ 11 ≤ i := (nI_leI (by omega) (by omega) : nI 11 ≤ nI i ↔ 11 ≤ i)
  have e7 : (11 : Int32) + nI i = nI (11 + i) := nI_add 11 i
  simp only [b_X12_moves_77_1, b_X12_moves_77_1c]
  rw [ok_ite, e6]
  refine ⟨fun q => ok_some.mpr ⟨fun j hj => v2 j (by omega), f2⟩, fun q => ?_⟩
  rw [e7, ok_gi, ok_gi, ok_nm, ok_some, nI_clamp (by omega), nI_clamp (by omega), fi_I f2 (by omega)]
  refine ⟨vp_in_nI (by omega) (by decide), vp_in_nI (by omega) (by decide), by omega, nI_1 i, fun j hj => ?_, fi_sI f2 ⟨rfl, rfl, by omega⟩⟩
  show (sI M2 77 0 i (M.1 77 0 (11 + i))).1 77 0 j = _
  rw [rII]
  by_cases e : j = i
  · rw [if_pos ⟨rfl, rfl, e⟩, e]
  · rw [if_neg (by omega)]; exact v2 j (by omega)
theorem mv78_ok {F : Nat} (hF : 2000 < F) {M : mm} : ok (m_X12_moves_78 F (11 : Int32) M) (fun M' => (∀ i, i < 11 → M'.1 78 0 i = M.1 78 0 (11 + i)) ∧ fi (fun k m i => k = 78 ∧ m = 0 ∧ i < 11) M M') := by
  unfold m_X12_moves_78
  rw [ok_bd]
  refine ok_mono (Q := fun M' => (∀ i, i < 11 → M'.1 78 0 i = M.1 78 0 (11 + i)) ∧ fi (fun k m i => k = 78 ∧ m = 0 ∧ i < 11) M M') ?_ (fun M4 h4 => ok_some.mpr h4)
  refine ok_for 11 (fun i z => z.1 = nI i ∧ (∀ j, j < i → z.2.1 78 0 j = M.1 78 0 (11 + j)) ∧ fi (fun k m i => k = 78 ∧ m = 0 ∧ i < 11) M z.2) 0 (by omega) (by omega) ⟨rfl, fun j hj => by omega, fi_rf⟩ ?_
  rintro i ⟨x1, M2⟩ hi ⟨e1, v2, f2⟩
  dsimp only at e1 v2 f2
  subst e1
  have e6 : (11 : Int32) ≤ nI i ↔ 11 ≤ i := (nI_leI (by omega) (by omega) : nI 11 ≤ nI i ↔ 11 ≤ i)
  have e7 : (11 : Int32) + nI i = nI (11 + i) := nI_add 11 i
  simp only [b_X12_moves_78_1, b_X12_moves_78_1c]
  rw [ok_ite, e6]
  refine ⟨fun q => ok_some.mpr ⟨fun j hj => v2 j (by omega), f2⟩, fun q => ?_⟩
  rw [e7, ok_gi, ok_gi, ok_nm, ok_some, nI_clamp (by omega), nI_clamp (by omega), fi_I f2 (by omega)]
  refine ⟨vp_in_nI (by omega) (by decide), vp_in_nI (by omega) (by decide), by omega, nI_1 i, fun j hj => ?_, fi_sI f2 ⟨rfl, rfl, by omega⟩⟩
  show (sI M2 78 0 i (M.1 78 0 (11 + i))).1 78 0 j = _
  rw [rII]
  by_cases e : j = i
  · rw [if_pos ⟨rfl, rfl, e⟩, e]
  · rw [if_neg (by omega)]; exact v2 j (by omega)
theorem mv81_ok {F : Nat} (hF : 2000 < F) {M : mm} : ok (m_X12_moves_81 F (1000 : Int32) M) (fun M' => (∀ i, i < 1000 → M'.1 81 0 i = M.1 81 0 (1000 + i)) ∧ fi (fun k m i => k = 81 ∧ m = 0 ∧ i < 1000) M M') := by
  unfold m_X12_moves_81
  rw [ok_bd]
  refine ok_mono (Q := fun M' => (∀ i, i < 1000 → M'.1 81 0 i = M.1 81 0 (1000 + i)) ∧ fi (fun k m i => k = 81 ∧ m = 0 ∧ i < 1000) M M') ?_ (fun M4 h4 => ok_some.mpr h4)
  refine ok_for 1000 (fun i z => z.1 = nI i ∧ (∀ j, j < i → z.2.1 81 0 j = M.1 81 0 (1000 + j)) ∧ fi (fun k m i => k = 81 ∧ m = 0 ∧ i < 1000) M z.2) 0 (by omega) (by omega) ⟨rfl, fun j hj => by omega, fi_rf⟩ ?_
  rintro i ⟨x1, M2⟩ hi ⟨e1, v2, f2⟩
  dsimp only at e1 v2 f2
  subst e1
  have e6 : (1000 : Int32) ≤ nI i ↔ 1000 ≤ i := (nI_leI (by omega) (by omega) : nI 1000 ≤ nI i ↔ 1000 ≤ i)
  have e7 : (1000 : Int32) + nI i = nI (1000 + i) := nI_add 1000 i
  simp only [b_X12_moves_81_1, b_X12_moves_81_1c]
  rw [ok_ite, e6]
  refine ⟨fun q => ok_some.mpr ⟨fun j hj => v2 j (by omega), f2⟩, fun q => ?_⟩
  rw [e7, ok_gi, ok_gi, ok_nm, ok_some, nI_clamp (by omega), nI_clamp (by omega), fi_I f2 (by omega)]
  refine ⟨vp_in_nI (by omega) (by decide), vp_in_nI (by omega) (by decide), by omega, nI_1 i, fun j hj => ?_, fi_sI f2 ⟨rfl, rfl, by omega⟩⟩
  show (sI M2 81 0 i (M.1 81 0 (1000 + i))).1 81 0 j = _
  rw [rII]
  by_cases e : j = i
  · rw [if_pos ⟨rfl, rfl, e⟩, e]
  · rw [if_neg (by omega)]; exact v2 j (by omega)
def PLy : Nat → Nat → Nat → Prop := fun k n i => n = 0 ∧ 64 ≤ k ∧ k ≤ 81
def LyQ (M M' : mm) : Prop := (∀ i, i < 6 → M'.1 64 0 i = M.1 64 0 (6 + i)) ∧ (∀ i, i < 6 → M'.2.1 65 0 i = M.2.1 65 0 (6 + i)) ∧ (∀ i, i < 10 → M'.2.1 66 0 i = M.2.1 66 0 (10 + i)) ∧ (∀ i, i < 10 → M'.2.1 67 0 i = M.2.1 67 0 (10 + i)) ∧ (∀ i, i < 6 → M'.1 68 0 i = M.1 68 0 (6 + i)) ∧ (∀ i, i < 6 → M'.1 69 0 i = M.1 69 0 (6 + i)) ∧ (∀ i, i < 10 → M'.1 70 0 i = M.1 70 0 (10 + i)) ∧ (∀ i, i < 10 → M'.1 71 0 i = M.1 71 0 (10 + i)) ∧ (∀ i, i < 10 → M'.1 72 0 i = M.1 72 0 (10 + i)) ∧ (∀ i, i < 10 → M'.1 73 0 i = M.1 73 0 (10 + i)) ∧ (∀ i, i < 10 → M'.1 74 0 i = M.1 74 0 (10 + i)) ∧ (∀ i, i < 11 → M'.1 75 0 i = M.1 75 0 (11 + i)) ∧ (∀ i, i < 10 → M'.1 76 0 i = M.1 76 0 (10 + i)) ∧ (∀ i, i < 11 → M'.1 77 0 i = M.1 77 0 (11 + i)) ∧ (∀ i, i < 11 → M'.1 78 0 i = M.1 78 0 (11 + i)) ∧ (∀ i, i < 1000 → M'.1 81 0 i = M.1 81 0 (1000 + i)) ∧ (M'.1 79 0 0 = M.1 79 0 1 - 1000 ∧ M'.1 80 0 0 = M.1 80 0 1 - 1000)
theorem lays_ok {F : Nat} (hF : 2000 < F) {M : mm} : ok (m_X12_lays F M) (fun M' => fi PLy M M' ∧ LyQ M M') := by
  unfold m_X12_lays LyQ
  have p1 : fi (fun k n _ => n = 0 ∧ 64 ≤ k ∧ k < 64) M M := fi_rf
  rw [ok_cv]
  refine ok_mono (mv64_ok hF) (fun M1 h1 => ?_)
  obtain ⟨v1, f1⟩ := h1
  have p2 : fi (fun k n _ => n = 0 ∧ 64 ≤ k ∧ k < 65) M M1 := fi_tr (fi_mono p1 (fun k n i q => by omega)) (fi_mono f1 (fun k n i q => by omega))
  rw [ok_cv]
  refine ok_mono (mv65_ok hF) (fun M2 h2 => ?_)
  obtain ⟨v2, f2⟩ := h2
  have p3 : fi (fun k n _ => n = 0 ∧ 64 ≤ k ∧ k < 66) M M2 := fi_tr (fi_mono p2 (fun k n i q => by omega)) (fi_mono f2 (fun k n i q => by omega))
  rw [ok_cv]
  refine ok_mono (mv66_ok hF) (fun M3 h3 => ?_)
  obtain ⟨v3, f3⟩ := h3
  have p4 : fi (fun k n _ => n = 0 ∧ 64 ≤ k ∧ k < 67) M M3 := fi_tr (fi_mono p3 (fun k n i q => by omega)) (fi_mono f3 (fun k n i q => by omega))
  rw [ok_cv]
  refine ok_mono (mv67_ok hF) (fun M4 h4 => ?_)
  obtain ⟨v4, f4⟩ := h4
  have p5 : fi (fun k n _ => n = 0 ∧ 64 ≤ k ∧ k < 68) M M4 := fi_tr (fi_mono p4 (fun k n i q => by omega)) (fi_mono f4 (fun k n i q => by omega))
  rw [ok_cv]
  refine ok_mono (mv68_ok hF) (fun M5 h5 => ?_)
  obtain ⟨v5, f5⟩ := h5
  have p6 : fi (fun k n _ => n = 0 ∧ 64 ≤ k ∧ k < 69) M M5 := fi_tr (fi_mono p5 (fun k n i q => by omega)) (fi_mono f5 (fun k n i q => by omega))
  rw [ok_cv]
  refine ok_mono (mv69_ok hF) (fun M6 h6 => ?_)
  obtain ⟨v6, f6⟩ := h6
  have p7 : fi (fun k n _ => n = 0 ∧ 64 ≤ k ∧ k < 70) M M6 := fi_tr (fi_mono p6 (fun k n i q => by omega)) (fi_mono f6 (fun k n i q => by omega))
  rw [ok_cv]
  refine ok_mono (mv70_ok hF) (fun M7 h7 => ?_)
  obtain ⟨v7, f7⟩ := h7
  have p8 : fi (fun k n _ => n = 0 ∧ 64 ≤ k ∧ k < 71) M M7 := fi_tr (fi_mono p7 (fun k n i q => by omega)) (fi_mono f7 (fun k n i q => by omega))
  rw [ok_cv]
  refine ok_mono (mv71_ok hF) (fun M8 h8 => ?_)
  obtain ⟨v8, f8⟩ := h8
  have p9 : fi (fun k n _ => n = 0 ∧ 64 ≤ k ∧ k < 72) M M8 := fi_tr (fi_mono p8 (fun k n i q => by omega)) (fi_mono f8 (fun k n i q => by omega))
  rw [ok_cv]
  refine ok_mono (mv72_ok hF) (fun M9 h9 => ?_)
  obtain ⟨v9, f9⟩ := h9
  have p10 : fi (fun k n _ => n = 0 ∧ 64 ≤ k ∧ k < 73) M M9 := fi_tr (fi_mono p9 (fun k n i q => by omega)) (fi_mono f9 (fun k n i q => by omega))
  rw [ok_cv]
  refine ok_mono (mv73_ok hF) (fun M10 h10 => ?_)
  obtain ⟨v10, f10⟩ := h10
  have p11 : fi (fun k n _ => n = 0 ∧ 64 ≤ k ∧ k < 74) M M10 := fi_tr (fi_mono p10 (fun k n i q => by omega)) (fi_mono f10 (fun k n i q => by omega))
  rw [ok_cv]
  refine ok_mono (mv74_ok hF) (fun M11 h11 => ?_)
  obtain ⟨v11, f11⟩ := h11
  have p12 : fi (fun k n _ => n = 0 ∧ 64 ≤ k ∧ k < 75) M M11 := fi_tr (fi_mono p11 (fun k n i q => by omega)) (fi_mono f11 (fun k n i q => by omega))
  rw [ok_cv]
  refine ok_mono (mv75_ok hF) (fun M12 h12 => ?_)
  obtain ⟨v12, f12⟩ := h12
  have p13 : fi (fun k n _ => n = 0 ∧ 64 ≤ k ∧ k < 76) M M12 := fi_tr (fi_mono p12 (fun k n i q => by omega)) (fi_mono f12 (fun k n i q => by omega))
  rw [ok_cv]
  refine ok_mono (mv76_ok hF) (fun M13 h13 => ?_)
  obtain ⟨v13, f13⟩ := h13
  have p14 : fi (fun k n _ => n = 0 ∧ 64 ≤ k ∧ k < 77) M M13 := fi_tr (fi_mono p13 (fun k n i q => by omega)) (fi_mono f13 (fun k n i q => by omega))
  rw [ok_cv]
  refine ok_mono (mv77_ok hF) (fun M14 h14 => ?_)
  obtain ⟨v14, f14⟩ := h14
  have p15 : fi (fun k n _ => n = 0 ∧ 64 ≤ k ∧ k < 78) M M14 := fi_tr (fi_mono p14 (fun k n i q => by omega)) (fi_mono f14 (fun k n i q => by omega))
  rw [ok_cv]
  refine ok_mono (mv78_ok hF) (fun M15 h15 => ?_)
  obtain ⟨v15, f15⟩ := h15
  have p16 : fi (fun k n _ => n = 0 ∧ 64 ≤ k ∧ k < 79) M M15 := fi_tr (fi_mono p15 (fun k n i q => by omega)) (fi_mono f15 (fun k n i q => by omega))
  rw [ok_cv]
  refine ok_mono (mv81_ok hF) (fun M16 h16 => ?_)
  obtain ⟨v16, f16⟩ := h16
  rw [ok_gi, ok_gi, ok_nm, ok_gi, ok_gi, ok_nm, ok_some, tc0, tc1]
  have g : fi (fun k n i => n = 0 ∧ (k = 79 ∨ k = 80) ∧ i = 0) M16 (sI (sI M16 79 0 0 (M16.1 79 0 1 - 1000)) 80 0 0 ((sI M16 79 0 0 (M16.1 79 0 1 - 1000)).1 80 0 1 - 1000)) := fi_sI (fi_sI fi_rf ⟨rfl, Or.inl rfl, rfl⟩) ⟨rfl, Or.inr rfl, rfl⟩
  have u79 : (sI (sI M16 79 0 0 (M16.1 79 0 1 - 1000)) 80 0 0 ((sI M16 79 0 0 (M16.1 79 0 1 - 1000)).1 80 0 1 - 1000)).1 79 0 0 = M16.1 79 0 1 - 1000 := by rw [rII, if_neg (by omega), rII, if_pos ⟨rfl, rfl, rfl⟩]
  have u80 : (sI (sI M16 79 0 0 (M16.1 79 0 1 - 1000)) 80 0 0 ((sI M16 79 0 0 (M16.1 79 0 1 - 1000)).1 80 0 1 - 1000)).1 80 0 0 = M16.1 80 0 1 - 1000 := by rw [rII, if_pos ⟨rfl, rfl, rfl⟩, rII, if_neg (by omega)]
  generalize sI (sI M16 79 0 0 (M16.1 79 0 1 - 1000)) 80 0 0 ((sI M16 79 0 0 (M16.1 79 0 1 - 1000)).1 80 0 1 - 1000) = M18 at g u79 u80 ⊢
  have s16 : fi (fun k n _ => n = 0 ∧ (81 < k ∨ k = 79 ∨ k = 80)) M16 M18 := fi_mono g (fun k n i q => by omega)
  have s15 : fi (fun k n _ => n = 0 ∧ (78 < k ∨ k = 79 ∨ k = 80)) M15 M18 := fi_tr (fi_mono f16 (fun k n i q => by omega)) (fi_mono s16 (fun k n i q => by omega))
  have s14 : fi (fun k n _ => n = 0 ∧ (77 < k ∨ k = 79 ∨ k = 80)) M14 M18 := fi_tr (fi_mono f15 (fun k n i q => by omega)) (fi_mono s15 (fun k n i q => by omega))
  have s13 : fi (fun k n _ => n = 0 ∧ (76 < k ∨ k = 79 ∨ k = 80)) M13 M18 := fi_tr (fi_mono f14 (fun k n i q => by omega)) (fi_mono s14 (fun k n i q => by omega))
  have s12 : fi (fun k n _ => n = 0 ∧ (75 < k ∨ k = 79 ∨ k = 80)) M12 M18 := fi_tr (fi_mono f13 (fun k n i q => by omega)) (fi_mono s13 (fun k n i q => by omega))
  have s11 : fi (fun k n _ => n = 0 ∧ (74 < k ∨ k = 79 ∨ k = 80)) M11 M18 := fi_tr (fi_mono f12 (fun k n i q => by omega)) (fi_mono s12 (fun k n i q => by omega))
  have s10 : fi (fun k n _ => n = 0 ∧ (73 < k ∨ k = 79 ∨ k = 80)) M10 M18 := fi_tr (fi_mono f11 (fun k n i q => by omega)) (fi_mono s11 (fun k n i q => by omega))
  have s9 : fi (fun k n _ => n = 0 ∧ (72 < k ∨ k = 79 ∨ k = 80)) M9 M18 := fi_tr (fi_mono f10 (fun k n i q => by omega)) (fi_mono s10 (fun k n i q => by omega))
  have s8 : fi (fun k n _ => n = 0 ∧ (71 < k ∨ k = 79 ∨ k = 80)) M8 M18 := fi_tr (fi_mono f9 (fun k n i q => by omega)) (fi_mono s9 (fun k n i q => by omega))
  have s7 : fi (fun k n _ => n = 0 ∧ (70 < k ∨ k = 79 ∨ k = 80)) M7 M18 := fi_tr (fi_mono f8 (fun k n i q => by omega)) (fi_mono s8 (fun k n i q => by omega))
  have s6 : fi (fun k n _ => n = 0 ∧ (69 < k ∨ k = 79 ∨ k = 80)) M6 M18 := fi_tr (fi_mono f7 (fun k n i q => by omega)) (fi_mono s7 (fun k n i q => by omega))
  have s5 : fi (fun k n _ => n = 0 ∧ (68 < k ∨ k = 79 ∨ k = 80)) M5 M18 := fi_tr (fi_mono f6 (fun k n i q => by omega)) (fi_mono s6 (fun k n i q => by omega))
  have s4 : fi (fun k n _ => n = 0 ∧ (67 < k ∨ k = 79 ∨ k = 80)) M4 M18 := fi_tr (fi_mono f5 (fun k n i q => by omega)) (fi_mono s5 (fun k n i q => by omega))
  have s3 : fi (fun k n _ => n = 0 ∧ (66 < k ∨ k = 79 ∨ k = 80)) M3 M18 := fi_tr (fi_mono f4 (fun k n i q => by omega)) (fi_mono s4 (fun k n i q => by omega))
  have s2 : fi (fun k n _ => n = 0 ∧ (65 < k ∨ k = 79 ∨ k = 80)) M2 M18 := fi_tr (fi_mono f3 (fun k n i q => by omega)) (fi_mono s3 (fun k n i q => by omega))
  have s1 : fi (fun k n _ => n = 0 ∧ (64 < k ∨ k = 79 ∨ k = 80)) M1 M18 := fi_tr (fi_mono f2 (fun k n i q => by omega)) (fi_mono s2 (fun k n i q => by omega))
  have e16 : ∀ i, M16.1 79 0 i = M.1 79 0 i ∧ M16.1 80 0 i = M.1 80 0 i := fun i => ⟨(fi_I f16 (by omega)).trans (fi_I p16 (by omega)), (fi_I f16 (by omega)).trans (fi_I p16 (by omega))⟩
  refine ⟨vp_of (by decide), vp_of (by decide), vp_of (by decide), vp_of (by decide), ?_, fun i hi => (fi_I s1 (by omega)).trans ((v1 i hi).trans (fi_I p1 (by omega))), fun i hi => (fi_L s2 (by omega)).trans ((v2 i hi).trans (fi_L p2 (by omega))), fun i hi => (fi_L s3 (by omega)).trans ((v3 i hi).trans (fi_L p3 (by omega))), fun i hi => (fi_L s4 (by omega)).trans ((v4 i hi).trans (fi_L p4 (by omega))), fun i hi => (fi_I s5 (by omega)).trans ((v5 i hi).trans (fi_I p5 (by omega))), fun i hi => (fi_I s6 (by omega)).trans ((v6 i hi).trans (fi_I p6 (by omega))), fun i hi => (fi_I s7 (by omega)).trans ((v7 i hi).trans (fi_I p7 (by omega))), fun i hi => (fi_I s8 (by omega)).trans ((v8 i hi).trans (fi_I p8 (by omega))), fun i hi => (fi_I s9 (by omega)).trans ((v9 i hi).trans (fi_I p9 (by omega))), fun i hi => (fi_I s10 (by omega)).trans ((v10 i hi).trans (fi_I p10 (by omega))), fun i hi => (fi_I s11 (by omega)).trans ((v11 i hi).trans (fi_I p11 (by omega))), fun i hi => (fi_I s12 (by omega)).trans ((v12 i hi).trans (fi_I p12 (by omega))), fun i hi => (fi_I s13 (by omega)).trans ((v13 i hi).trans (fi_I p13 (by omega))), fun i hi => (fi_I s14 (by omega)).trans ((v14 i hi).trans (fi_I p14 (by omega))), fun i hi => (fi_I s15 (by omega)).trans ((v15 i hi).trans (fi_I p15 (by omega))), fun i hi => (fi_I s16 (by omega)).trans ((v16 i hi).trans (fi_I p16 (by omega))), ?_, ?_⟩
  · refine fi_tr (fi_mono p16 (fun k n i q => by unfold PLy; omega)) (fi_tr (fi_mono f16 (fun k n i q => by unfold PLy; omega)) (fi_mono g (fun k n i q => by unfold PLy; omega)))
  · rw [u79, (e16 1).1]
  · rw [u80, (e16 1).2]
