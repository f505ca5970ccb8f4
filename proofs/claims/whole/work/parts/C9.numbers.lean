/-! a number that is told -/
theorem dv_lt {T : List Int32} {b : Nat} : ∀ n, (∀ i, i < n → isDg (sg T (b + i)) = true) → dv T b n + 1 ≤ 10 ^ n
  | 0, _ => Nat.le_refl _
  | n + 1, hl => by
    have ih := dv_lt (T := T) (b := b) n (fun i hi => hl i (by omega))
    have := hl n (by omega)
    unfold isDg at this
    rw [decide_eq_true_iff] at this
    have e := i_clamp (a := sg T (b + n)) (by omega)
    show dv T b n * 10 + ((sg T (b + n)).toNatClampNeg - 48) + 1 ≤ 10 ^ (n + 1)
    rw [Nat.pow_succ]
    omega
theorem tk_num {T : List Int32} {p : Nat} (hp : p ≤ T.length) (h : (tkA T p).1 = 3) : ∃ v, v ≤ 9999 ∧ (tkA T p).2.2 = nI v := by
  have hb : tkB T p ≤ T.length := rn_le hp
  unfold tkA at h ⊢
  split at h
  · cases h
  · rename_i q
    rw [if_neg q]
    split at h
    · split at h
      · cases h
      · cases h
    · rename_i q2
      rw [if_neg q2]
      split at h
      · rename_i q3
        rw [if_pos q3]
        split at h
        · rename_i q4
          rw [if_pos q4]
          have := dv_lt (T := T) (b := tkB T p) (rnL isDg T (tkB T p)) (fun i hi => rn_all i _ hb hi)
          have h4 : 10 ^ (rnL isDg T (tkB T p)) ≤ 10 ^ 4 := Nat.pow_le_pow_right (by decide) q4
          exact ⟨dv T (tkB T p) (rnL isDg T (tkB T p)), by omega, rfl⟩
        · cases h
      · split at h
        · cases h
        · cases h
/-- a number is none of the signs' codes -/
theorem num_ne {T : List Int32} {p : Nat} (hp : p ≤ T.length) (h : (tkA T p).1 = 3) : ¬ (tkA T p).2.2 = -14 ∧ ¬ (tkA T p).2.2 = -13 ∧ ¬ (tkA T p).2.2 = -5 := by
  obtain ⟨v, hv, e⟩ := tk_num hp h
  have z : ∀ c : Int32, c < 0 → ¬ nI v = c := fun c hc q => by
    have := nI_pos (n := v) (by omega)
    rw [q] at this; exact this hc
  rw [e]
  exact ⟨z _ (by decide), z _ (by decide), z _ (by decide)⟩
theorem kwI_K2 : ∀ i, i < 29 → kwI (KW.getD i []) = nI i := by
  have h : (List.range 29).all (fun i => decide (kwI (KW.getD i []) = nI i)) = true := by decide +kernel
  intro i hi
  exact decide_eq_true_iff.mp (List.all_eq_true.mp h i (List.mem_range.mpr hi))
theorem fact_c {T : List Int32} {p : Nat} (h : (tkA T p).1 = 2) : (kwI (wdA T p) < 25 ∧ lFact T p = 0) ∨ ∃ j, j < 4 ∧ kwI (wdA T p) = nI (25 + j) ∧ lFact T p = j + 1 := by
  have key : ∀ w : List Nat, wdA T p = w → (kwI w < 25 ∧ lFact T p = 0) ∨ ∃ j, j < 4 ∧ kwI w = nI (25 + j) ∧ lFact T p = j + 1 := fun w hw => by
    unfold lFact
    rw [if_pos h, hw]
    by_cases q1 : w = KW.getD 25 []
    · rw [if_pos q1]; exact Or.inr ⟨0, by decide, by rw [q1]; exact kwI_K2 25 (by decide), rfl⟩
    rw [if_neg q1]
    by_cases q2 : w = KW.getD 26 []
    · rw [if_pos q2]; exact Or.inr ⟨1, by decide, by rw [q2]; exact kwI_K2 26 (by decide), rfl⟩
    rw [if_neg q2]
    by_cases q3 : w = KW.getD 27 []
    · rw [if_pos q3]; exact Or.inr ⟨2, by decide, by rw [q3]; exact kwI_K2 27 (by decide), rfl⟩
    rw [if_neg q3]
    by_cases q4 : w = KW.getD 28 []
    · rw [if_pos q4]; exact Or.inr ⟨3, by decide, by rw [q4]; exact kwI_K2 28 (by decide), rfl⟩
    rw [if_neg q4]
    refine Or.inl ⟨?_, rfl⟩
    rcases kwI_c w with e | ⟨j, a, b, c⟩
    · rw [e]; decide
    · have n1 : j ≠ 25 := fun e => q1 (by rw [← c, e])
      have n2 : j ≠ 26 := fun e => q2 (by rw [← c, e])
      have n3 : j ≠ 27 := fun e => q3 (by rw [← c, e])
      have n4 : j ≠ 28 := fun e => q4 (by rw [← c, e])
      rw [b]
      exact (nI_ltI (by omega) (by omega) : nI j < nI 25 ↔ _).mpr (by omega)
  exact key _ rfl
/-- a part: both sides' codes -/
theorem lPart_c {T : List Int32} {p : Nat} (hp : p ≤ T.length) : (lPart T p = -14 ∧ lFact T p = 0 ∧ ¬ isW T p 22 = true ∧ ¬ isS T p 40 = true ∧ ¬ (tkA T p).1 = 3)
    ∨ (lPart T p = -5 ∧ isW T p 22 = true) ∨ (lPart T p = -13 ∧ ¬ isW T p 22 = true ∧ isS T p 40 = true)
    ∨ (¬ isW T p 22 = true ∧ ¬ isS T p 40 = true ∧ ((∃ v, v ≤ 9999 ∧ lPart T p = nI v ∧ lFact T p = 0 ∧ (tkA T p).1 = 3 ∧ (tkA T p).2.2 = nI v) ∨ ∃ j, j < 4 ∧ lPart T p = -1 - nI j ∧ lFact T p = j + 1)) := by
  have wk : ∀ i, isW T p i = true → (tkA T p).1 = 2 := fun i h => by
    unfold isW at h; rw [decide_eq_true_iff] at h; exact h.1
  have sk : ∀ c, isS T p c = true → (tkA T p).1 = 4 := fun c h => by
    unfold isS at h; rw [decide_eq_true_iff] at h; exact h.1
  by_cases q3 : (tkA T p).1 = 3
  · obtain ⟨v, hv, e⟩ := tk_num hp q3
    refine Or.inr (Or.inr (Or.inr ⟨fun r => by have := wk _ r; omega, fun r => by have := sk _ r; omega, Or.inl ⟨v, hv, ?_, Classical.byContradiction (fun r => by have := lFact_k r; omega), q3, e⟩⟩))
    unfold lPart; rw [if_pos q3, e]
  by_cases qs : isS T p 40 = true
  · refine Or.inr (Or.inr (Or.inl ⟨?_, fun r => by have := wk _ r; have := sk _ qs; omega, qs⟩))
    unfold lPart; rw [if_neg q3, if_pos qs]
  by_cases qw : isW T p 22 = true
  · refine Or.inr (Or.inl ⟨?_, qw⟩)
    unfold lPart; rw [if_neg q3, if_neg qs, if_pos qw]
  have e0 : lPart T p = if (tkA T p).1 = 2 ∧ ¬ kwI (wdA T p) < 25 then -1 - (kwI (wdA T p) - 25) else -14 := by
    unfold lPart; rw [if_neg q3, if_neg qs, if_neg qw]
  by_cases q2 : (tkA T p).1 = 2
  · rcases fact_c q2 with ⟨a, b⟩ | ⟨j, a, b, c⟩
    · exact Or.inl ⟨by rw [e0, if_neg (fun r => r.2 a)], b, qw, qs, q3⟩
    · refine Or.inr (Or.inr (Or.inr ⟨qw, qs, Or.inr ⟨j, a, ?_, c⟩⟩))
      rw [e0, b]
      have : ∀ j, j < 4 → (if (tkA T p).1 = 2 ∧ ¬ nI (25 + j) < (25 : Int32) then (-1 : Int32) - (nI (25 + j) - 25) else -14) = -1 - nI j := fun j hj => by
        have d : ∀ j, j < 4 → ¬ nI (25 + j) < (25 : Int32) ∧ (-1 : Int32) - (nI (25 + j) - 25) = -1 - nI j := by decide +kernel
        rw [if_pos ⟨q2, (d j hj).1⟩]; exact (d j hj).2
      exact this j a
  · exact Or.inl ⟨by rw [e0, if_neg (fun r => q2 r.1)], Classical.byContradiction (fun r => q2 (lFact_k r)), qw, qs, q3⟩
