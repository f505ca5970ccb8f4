/-! the class's next token -/
def KW : List (List Nat) := [[14, 15, 19, 18, 5, 16], [8, 20, 9, 1, 6], [20, 16, 13, 5, 20], [8, 20, 1, 15], [25, 2], [19, 18, 1, 5, 2], [14, 1, 5, 12], [8, 19, 1, 12, 3], [5, 14, 15, 20, 19], [19, 8, 7, 9, 5, 23], [20, 14, 5, 18], [14, 15], [5, 7, 1], [4, 14, 5, 13], [11, 1, 5, 18, 2], [5, 22, 9, 7, 18, 15, 6], [5, 19, 9, 1, 18], [18, 1, 5, 25], [14, 9, 1, 12, 16], [4, 12, 15], [5, 18, 21, 19], [23, 15, 4, 9, 23], [20, 15, 14], [4, 14, 1], [18, 15], [5, 19, 1, 2], [19, 18, 1, 5, 25], [4, 14, 9, 11], [5, 14, 15, 12, 1]]
def kwF (w : List Nat) : Nat → Int32
  | 0 => -1
  | n + 1 => if KW.getD n [] = w then nI n else kwF w n
/-- the number of a written word; -1 for all others -/
def kwI (w : List Nat) : Int32 := kwF w 29
def WrC (M : mm) : Prop := ∀ i, i < 29 → M.2.1 41 0 i = lN (pv 32 (KW.getD i []))
theorem KW_ok : ∀ i, i < 29 → WdOk (KW.getD i []) := by
  have h : ∀ i, i < 29 → (KW.getD i []).length ≤ 8 ∧ (KW.getD i []).all (fun c => decide (1 ≤ c) && decide (c ≤ 26)) = true := by decide +kernel
  intro i hi
  obtain ⟨a, b⟩ := h i hi
  refine ⟨a, fun c hc => ?_⟩
  have := List.all_eq_true.mp b c hc
  simpa using this
/-- the tape while it is read -/
def TpR (T : List Int32) (M : mm) : Prop := TpC M T ∧ WrC M ∧ T.length ≤ 1000 ∧ ∀ x, x ∈ T → SgOk x
def TkC (t : tkt) (b e : Nat) (M : mm) : Prop := M.1 7 0 3 = nI e ∧ M.1 7 0 5 = nI b ∧ M.1 7 0 4 = nI t.1 ∧ M.1 7 0 7 = (if t.1 = 2 then kwI t.2.1 else -1) ∧ (t.1 = 2 → M.2.1 7 0 8 = lN (pv 32 t.2.1)) ∧ (t.1 = 3 ∨ t.1 = 4 → M.1 7 0 6 = t.2.2)
def P7 : Nat → Nat → Nat → Prop := fun k _ i => k = 7 ∧ 3 ≤ i ∧ i ≤ 8
theorem TpR_c {T : List Int32} {M M' : mm} {P : Nat → Nat → Nat → Prop} (h : TpR T M) (f : fi P M M') (hP : ∀ k n i, P k n i → k ≠ 40 ∧ k ≠ 41 ∧ ¬ (k = 7 ∧ i = 2)) : TpR T M' := by
  obtain ⟨⟨h1, h2⟩, h3, h4⟩ := h
  exact ⟨⟨by rw [fi_I f (fun q => by have := hP _ _ _ q; omega)]; exact h1, fun i x hx => by rw [fi_I f (fun q => by have := hP _ _ _ q; omega)]; exact h2 i x hx⟩, fun i hi => by rw [fi_L f (fun q => by have := hP _ _ _ q; omega)]; exact h3 i hi, h4⟩
theorem sg_get {T : List Int32} {i : Nat} (h : i < T.length) : T[i]? = some (sg T i) := by
  unfold sg
  rw [List.getD_eq_getElem?_getD, List.getElem?_eq_getElem h]; rfl
theorem sg_ok {T : List Int32} {i : Nat} (h : i < T.length) (hs : ∀ x, x ∈ T → SgOk x) : SgOk (sg T i) := hs _ (List.mem_of_getElem? (sg_get h))
theorem letter_ok {F : Nat} {x : Int32} {M : mm} : ok (m_X6_isLetter F x M) (fun r => r = (isLt x, M)) := by
  have z97 : (97 : Int32).toInt = 97 := rfl
  have z122 : (122 : Int32).toInt = 122 := rfl
  unfold m_X6_isLetter isLt
  rw [ok_ite, i_lt, z97]
  refine ⟨fun q => ok_some.mpr (by rw [decide_eq_false (by omega)]), fun q => ?_⟩
  rw [ok_ite, i_lt, z122]
  exact ⟨fun q2 => ok_some.mpr (by rw [decide_eq_false (by omega)]), fun q2 => ok_some.mpr (by rw [decide_eq_true (by omega)])⟩
theorem digit_ok {F : Nat} {x : Int32} {M : mm} : ok (m_X6_isDigit F x M) (fun r => r = (isDg x, M)) := by
  have z97 : (48 : Int32).toInt = 48 := rfl
  have z122 : (57 : Int32).toInt = 57 := rfl
  unfold m_X6_isDigit isDg
  rw [ok_ite, i_lt, z97]
  refine ⟨fun q => ok_some.mpr (by rw [decide_eq_false (by omega)]), fun q => ?_⟩
  rw [ok_ite, i_lt, z122]
  exact ⟨fun q2 => ok_some.mpr (by rw [decide_eq_false (by omega)]), fun q2 => ok_some.mpr (by rw [decide_eq_true (by omega)])⟩
theorem signL_ok {F : Nat} {x : Int32} {M : mm} : ok (m_X6_isSignOfLanguage F x M) (fun r => r = (isSn x, M)) := by
  have e : ∀ n : Int32, x = n ↔ x.toInt = n.toInt := fun n => i_eq
  unfold m_X6_isSignOfLanguage isSn
  simp only [ok_ite, ok_some, i_eq (a := x)]
  have z40 : (40 : Int32).toInt = 40 := rfl
  have z41 : (41 : Int32).toInt = 41 := rfl
  have z42 : (42 : Int32).toInt = 42 := rfl
  have z43 : (43 : Int32).toInt = 43 := rfl
  have z45 : (45 : Int32).toInt = 45 := rfl
  have z59 : (59 : Int32).toInt = 59 := rfl
  have z60 : (60 : Int32).toInt = 60 := rfl
  have z61 : (61 : Int32).toInt = 61 := rfl
  rw [z40, z41, z42, z43, z45, z59, z60, z61]
  by_cases q : (40 ≤ x.toInt ∧ x.toInt ≤ 43) ∨ x.toInt = 45 ∨ (59 ≤ x.toInt ∧ x.toInt ≤ 61)
  · rw [decide_eq_true q]
    refine ⟨fun _ => rfl, fun a => ⟨fun _ => rfl, fun b => ⟨fun _ => rfl, fun c => ⟨fun _ => rfl, fun d => ⟨fun _ => rfl, fun e => ⟨fun _ => rfl, fun f => ⟨fun _ => rfl, fun g => ⟨fun _ => rfl, fun h => ?_⟩⟩⟩⟩⟩⟩⟩⟩
    omega
  · rw [decide_eq_false q]
    refine ⟨fun _ => ?_, fun a => ⟨fun _ => ?_, fun b => ⟨fun _ => ?_, fun c => ⟨fun _ => ?_, fun d => ⟨fun _ => ?_, fun e => ⟨fun _ => ?_, fun f => ⟨fun _ => ?_, fun g => ⟨fun _ => ?_, fun h => rfl⟩⟩⟩⟩⟩⟩⟩⟩ <;> omega
/-- along the blanks -/
theorem nx1_ok {F : Nat} (hF : 2000 < F) {T : List Int32} {p : Nat} {M : mm} (hT : TpR T M) (hp : p ≤ T.length) (h : M.1 7 0 3 = nI p) :
    ok (lp (b_X6_next_1 F) F M) (fun M' => M'.1 7 0 3 = nI (tkB T p) ∧ fi P7 M M') := by
  have hl := hT.2.2.1
  refine ok_lp (fun n M' => ∃ q, q ≤ T.length ∧ n = T.length - q ∧ M'.1 7 0 3 = nI q ∧ q + rnL isBk T q = tkB T p ∧ fi P7 M M') ?_ F (T.length - p) M (by omega) ⟨p, hp, rfl, h, rfl, fi_rf⟩
  rintro n M1 ⟨q, hq, rfl, h1, h2, f1⟩
  have hT1 := TpR_c hT f1 (fun k n i q => by unfold P7 at q; omega)
  simp only [b_X6_next_1, b_X6_next_1c]
  rw [h1, hT1.1.1, ok_ite, nI_leI (by omega) (by omega)]
  refine ⟨fun c => ok_some.mpr ?_, fun c => ?_⟩
  · rw [rn_stop (fun h => by omega)] at h2
    exact ⟨by rw [h1, ← h2]; rfl, f1⟩
  have hq' : q < T.length := by omega
  have e40 : M1.1 40 0 q = sg T q := hT1.1.2 q _ (sg_get hq')
  have hin : vp_in (nI q) 1000 := vp_in_nI (by omega) (by decide)
  rw [ok_gi, nI_clamp (by omega), e40]
  refine ⟨hin, ok_jn (P := isBk (sg T q) = true) (fun hb => ?_) (fun k hk => ?_)⟩
  · show ok (nm (sI M1 7 0 3 (nI q + 1)) _) _
    rw [ok_nm, ok_some]
    have f2 : fi P7 M1 (sI M1 7 0 3 (nI q + 1)) := fi_sI fi_rf ⟨rfl, by decide, by decide⟩
    refine ⟨T.length - (q + 1), by omega, q + 1, by omega, rfl, by rw [rII, if_pos ⟨rfl, rfl, rfl⟩]; exact nI_1 q, ?_, fi_tr f1 f2⟩
    rw [rn_step hq' hb] at h2
    omega
  · have stop : isBk (sg T q) = false → M1.1 7 0 3 = nI (tkB T p) ∧ fi P7 M M1 := fun hb => by
      rw [rn_stop (fun _ => hb)] at h2
      exact ⟨by rw [h1, ← h2]; rfl, f1⟩
    rw [ok_ite]
    refine ⟨fun q2 => hk (by unfold isBk; exact decide_eq_true (Or.inl q2)), fun q2 => ?_⟩
    rw [ok_gi, ok_ite]
    refine ⟨hin, fun q3 => hk (by unfold isBk; exact decide_eq_true (Or.inr q3)), fun q3 => ok_some.mpr (stop (by unfold isBk; exact decide_eq_false (fun q4 => q4.elim q2 q3)))⟩
