/-! what is read: the draft of a city, by positions on the tape -/
abbrev dft : Type := List (List Nat × Int32 × Int32) × List (List Nat × Nat × Nat × Int32) × ((Nat → Int32) × (Nat → Int32)) × List (List Nat × Int32 × Int32 × Int32 × Int32) × Option Int32 × Option (List Int32 × List Int32)
def dP (D : dft) : List (List Nat × Int32 × Int32) := D.1
def dO (D : dft) : List (List Nat × Nat × Nat × Int32) := D.2.1
def dL (D : dft) : Nat → Int32 := D.2.2.1.1
def dK (D : dft) : Nat → Int32 := D.2.2.1.2
def dS (D : dft) : List (List Nat × Int32 × Int32 × Int32 × Int32) := D.2.2.2.1
def dM (D : dft) : Option Int32 := D.2.2.2.2.1
def dW (D : dft) : Option (List Int32 × List Int32) := D.2.2.2.2.2
def dPn (D : dft) : List (List Nat) := (dP D).map (fun e => e.1)
def dOn (D : dft) : List (List Nat) := (dO D).map (fun e => e.1)
def dSn (D : dft) : List (List Nat) := (dS D).map (fun e => e.1)
abbrev res : Type := (Nat × Nat) ⊕ (Nat × dft)
def isW (T : List Int32) (p i : Nat) : Bool := decide ((tkA T p).1 = 2 ∧ (tkA T p).2.1 = KW.getD i [])
def isS (T : List Int32) (p : Nat) (c : Int32) : Bool := decide ((tkA T p).1 = 4 ∧ (tkA T p).2.2 = c)
/-- a name: a word that is not kept, or a fact -/
def isNm (T : List Int32) (p : Nat) : Bool := decide ((tkA T p).1 = 2 ∧ ¬ (0 ≤ kwI (tkA T p).2.1 ∧ kwI (tkA T p).2.1 < 25))
def wdA (T : List Int32) (p : Nat) : List Nat := (tkA T p).2.1
def fdW (N : List (List Nat)) (w : List Nat) : Nat → Option Nat
  | 0 => none
  | n + 1 => match fdW N w n with
    | some i => some i
    | none => if N.getD n [] = w then some n else none
def fnd (N : List (List Nat)) (w : List Nat) : Option Nat := fdW N w N.length
section SP
variable (T : List Int32)
def spWord (i p : Nat) (K : Nat → res) : res := if isW T p i = true then K (tkE T p) else .inl (1, p)
def spNum (lo hi : Int32) (p : Nat) (K : Int32 → Nat → res) : res := if (tkA T p).1 = 3 then (if lo ≤ (tkA T p).2.2 ∧ (tkA T p).2.2 ≤ hi then K (tkA T p).2.2 (tkE T p) else .inl (4, p)) else .inl (1, p)
def spEnd (p : Nat) (K : Nat → res) : res := if isS T p 59 = true then K (tkE T p) else .inl (1, p)
def spNew (D : dft) (p : Nat) (K : List Nat → Nat → res) : res := if isNm T p = true then (if (fnd (dPn D) (wdA T p)).isSome = true ∨ (fnd (dOn D) (wdA T p)).isSome = true ∨ (fnd (dSn D) (wdA T p)).isSome = true then .inl (3, p) else K (wdA T p) (tkE T p)) else .inl (1, p)
/-- stays on the name -/
def spKn (N : List (List Nat)) (p : Nat) (K : Nat → res) : res := if isNm T p = true then (match fnd N (wdA T p) with
    | none => .inl (2, p)
    | some i => K i) else .inl (1, p)
def spPerson (D : dft) (p : Nat) : res := if 6 ≤ (dP D).length then .inl (5, p) else
  spNew T D (tkE T p) fun w p1 => spWord T 1 p1 fun p2 => spNum T 0 10 p2 fun f p3 => spWord T 2 p3 fun p4 => spNum T 0 99 p4 fun t p5 => spEnd T p5 fun p6 => .inr (p6, (dP D ++ [(w, f, t)], D.2))
def spOath (D : dft) (p : Nat) : res := if 10 ≤ (dO D).length then .inl (5, p) else
  spNew T D (tkE T p) fun w p1 => if isW T p1 18 = true ∨ isW T p1 19 = true ∨ isW T p1 20 = true ∨ isW T p1 21 = true then
    spWord T 4 (tkE T p1) fun p2 => spKn T (dPn D) p2 fun q => spWord T 5 (tkE T p2) fun p3 => spNum T 1 99 p3 fun b p4 => spEnd T p4 fun p5 =>
      .inr (p5, (dP D, dO D ++ [(w, (kwI (wdA T p1)).toNatClampNeg - 18, q, b)], (fun x => if x = (dO D).length then -1 else dL D x, fun x => if x = (dO D).length then 0 else dK D x), D.2.2.2))
    else .inl (1, p1)
def spLean (D : dft) (p : Nat) : res := spKn T (dOn D) (tkE T p) fun a => if dL D a ≠ -1 then .inl (3, tkE T p) else
  spKn T (dOn D) (tkE T (tkE T p)) fun b => if b = a ∨ dL D b ≠ -1 then .inl (3, tkE T (tkE T p)) else
    spEnd T (tkE T (tkE T (tkE T p))) fun p4 => .inr (p4, (dP D, dO D, (fun x => if x = b then nI a else if x = a then nI b else dL D x, dK D), D.2.2.2))
def spClash (D : dft) (p : Nat) : res := spKn T (dOn D) (tkE T p) fun a =>
  spKn T (dOn D) (tkE T (tkE T p)) fun b => if b = a ∨ bt (dK D a) b = true then .inl (3, tkE T (tkE T p)) else
    spEnd T (tkE T (tkE T (tkE T p))) fun p4 => .inr (p4, (dP D, dO D, (dL D, fun x => if x = b then dK D b ||| bitI (nI a) else if x = a then dK D a ||| bitI (nI b) else dK D x), D.2.2.2))
end SP
/-! the class's small readers -/
def AtC (T : List Int32) (p : Nat) (M : mm) : Prop := p ≤ T.length ∧ TpR T M ∧ TkC (tkA T p) (tkB T p) (tkE T p) M
def PT6 : Nat → Nat → Nat → Prop := fun k n i => P7 k n i ∨ (k = 6 ∧ 4 ≤ i)
/-- what a reader answers and leaves -/
def QR (T : List Int32) (DC : dft → mm → Prop) (P : Nat → Nat → Nat → Prop) (M0 : mm) (x : res) (r : Bool × mm) : Prop := fi P M0 r.2 ∧ match x with
  | .inl (k, p) => r.1 = false ∧ r.2.1 6 0 4 = nI (k + 16 * tkB T p) ∧ TpR T r.2
  | .inr (p, D) => r.1 = true ∧ AtC T p r.2 ∧ DC D r.2
section CR
variable {F : Nat} {T : List Int32} {p : Nat} {M : mm}
theorem AtC_next (hF : 2000 < F) (h : AtC T p M) : ok (m_X6_next F M) (fun M' => AtC T (tkE T p) M' ∧ fi P7 M M') := by
  obtain ⟨hp, hT, hk⟩ := h
  have hle := (tkE_le hp).2
  refine ok_mono (next_ok hF hT hle hk.1) (fun M' hM' => ⟨⟨hle, TpR_c hT hM'.2 (fun k n i q => by unfold P7 at q; omega), hM'.1⟩, hM'.2⟩)
theorem isWord_ok (h : AtC T p M) {i : Nat} (hi : i < 29) : ok (m_X6_isWord F (nI i) M) (fun r => r = (isW T p i, M)) := by
  obtain ⟨hp, hT, h3, h5, h4, h7, h8, h6⟩ := h
  have e2 : nI (tkA T p).1 = (2 : Int32) ↔ (tkA T p).1 = 2 := by
    have : (tkA T p).1 ≤ 4 := by
      unfold tkA
      split
      · exact Nat.zero_le _
      · split
        · split <;> (dsimp only; omega)
        · split
          · split <;> (dsimp only; omega)
          · split <;> (dsimp only; omega)
    exact nI_eq (b := 2) (by omega) (by decide)
  have key : ∀ w n, n ≤ 29 → (kwF w n = -1 ∨ ∃ j, j < n ∧ kwF w n = nI j ∧ KW.getD j [] = w) ∧ ((∃ j, j < n ∧ KW.getD j [] = w) → kwF w n ≠ -1) := by
    intro w n
    induction n with
    | zero => intro _; exact ⟨Or.inl rfl, fun ⟨j, hj, _⟩ => by omega⟩
    | succ n ih =>
      intro hn
      obtain ⟨a, b⟩ := ih (by omega)
      have e : kwF w (n + 1) = if KW.getD n [] = w then nI n else kwF w n := rfl
      rw [e]
      by_cases q : KW.getD n [] = w
      · rw [if_pos q]
        refine ⟨Or.inr ⟨n, by omega, rfl, q⟩, fun _ e => ?_⟩
        have := nI_pos (n := n) (by omega)
        rw [e] at this; exact this (by decide)
      · rw [if_neg q]
        refine ⟨a.imp id (fun ⟨j, c, d, e⟩ => ⟨j, by omega, d, e⟩), fun ⟨j, hj, hw⟩ => b ⟨j, ?_, hw⟩⟩
        have : j ≠ n := fun e => q (e ▸ hw)
        omega
  have inj : ∀ i, i < 29 → ∀ j, j < 29 → KW.getD i [] = KW.getD j [] → i = j := by
    have h : (List.range 29).all (fun i => (List.range 29).all (fun j => decide (KW.getD i [] = KW.getD j []) == decide (i = j))) = true := by decide +kernel
    intro i hi j hj e
    have := List.all_eq_true.mp (List.all_eq_true.mp h i (List.mem_range.mpr hi)) j (List.mem_range.mpr hj)
    rw [decide_eq_true e] at this
    have := (eq_of_beq this).symm
    exact decide_eq_true_iff.mp this
  unfold m_X6_isWord isW
  rw [h4, ok_ite, e2]
  refine ⟨fun q => ?_, fun q => ok_some.mpr (by rw [decide_eq_false (fun q2 => q q2.1)])⟩
  rw [if_pos q] at h7
  obtain ⟨k1, k2⟩ := key (tkA T p).2.1 29 (Nat.le_refl _)
  rw [h7, ok_ite]
  refine ⟨fun q2 => ok_some.mpr ?_, fun q2 => ok_some.mpr ?_⟩
  · have : (tkA T p).2.1 = KW.getD i [] := by
      rcases k1 with k1 | ⟨j, a, b, c⟩
      · have h0 : kwI (tkA T p).2.1 = -1 := k1
        rw [h0] at q2
        have := nI_pos (n := i) (by omega)
        rw [← q2] at this; exact absurd (by decide) this
      · have h0 : kwI (tkA T p).2.1 = nI j := b
        rw [h0, nI_eq (by omega) (by omega)] at q2
        rw [← c, q2]
    rw [decide_eq_true ⟨q, this⟩]
  · rw [decide_eq_false]
    rintro ⟨-, q3⟩
    rcases k1 with k1 | ⟨j, a, b, c⟩
    · exact k2 ⟨i, hi, q3.symm⟩ k1
    · have : j = i := inj j a i hi (by rw [c, q3])
      subst this
      exact q2 b
theorem kwI_c (w : List Nat) : kwI w = -1 ∨ ∃ j, j < 29 ∧ kwI w = nI j ∧ KW.getD j [] = w := by
  have key : ∀ n, n ≤ 29 → kwF w n = -1 ∨ ∃ j, j < n ∧ kwF w n = nI j ∧ KW.getD j [] = w := by
    intro n
    induction n with
    | zero => intro _; exact Or.inl rfl
    | succ n ih =>
      intro hn
      have e : kwF w (n + 1) = if KW.getD n [] = w then nI n else kwF w n := rfl
      rw [e]
      by_cases q : KW.getD n [] = w
      · rw [if_pos q]; exact Or.inr ⟨n, by omega, rfl, q⟩
      · rw [if_neg q]; exact (ih (by omega)).imp id (fun ⟨j, c, d, e⟩ => ⟨j, by omega, d, e⟩)
  exact key 29 (Nat.le_refl _)
theorem tk_le (T : List Int32) (p : Nat) : (tkA T p).1 ≤ 4 := by
  unfold tkA
  split
  · exact Nat.zero_le _
  · split
    · split <;> (dsimp only; omega)
    · split
      · split <;> (dsimp only; omega)
      · split <;> (dsimp only; omega)
theorem kd_eq (T : List Int32) (p : Nat) {k : Nat} (hk : k ≤ 4) : nI (tkA T p).1 = nI k ↔ (tkA T p).1 = k := by
  have := tk_le T p
  exact nI_eq (by omega) (by omega)
theorem isName_ok (h : AtC T p M) : ok (m_X6_isName F M) (fun r => r = (isNm T p, M)) := by
  obtain ⟨hp, hT, h3, h5, h4, h7, h8, h6⟩ := h
  have z0 : (0 : Int32).toInt = 0 := rfl
  have z25 : (25 : Int32).toInt = 25 := rfl
  have m1 : (-1 : Int32).toInt = -1 := rfl
  unfold m_X6_isName isNm
  have e2 : nI (tkA T p).1 = (2 : Int32) ↔ (tkA T p).1 = 2 := kd_eq T p (k := 2) (by decide)
  rw [h4, ok_ite, e2]
  refine ⟨fun q => ?_, fun q => ok_some.mpr (by rw [decide_eq_false (fun q2 => q q2.1)])⟩
  rw [if_pos q] at h7
  rw [h7, ok_ite]
  refine ⟨fun q2 => ok_some.mpr (by rw [decide_eq_true ⟨q, fun q3 => by rw [q2] at q3; exact absurd q3.1 (by decide)⟩]), fun q2 => ?_⟩
  rw [ok_ite]
  rcases kwI_c (tkA T p).2.1 with e | ⟨j, a, b, c⟩
  · exact absurd e q2
  · have n0 : (0 : Int32) ≤ kwI (tkA T p).2.1 := by rw [b]; exact (nI_leI (by omega) (by omega) : nI 0 ≤ nI j ↔ 0 ≤ j).mpr (Nat.zero_le _)
    exact ⟨fun q3 => ok_some.mpr (by rw [decide_eq_false (fun q4 => q4.2 ⟨n0, q3⟩)]), fun q3 => ok_some.mpr (by rw [decide_eq_true ⟨q, fun q4 => q3 q4.2⟩])⟩
theorem isSign_ok (h : AtC T p M) {c : Int32} : ok (m_X6_isSign F c M) (fun r => r = (isS T p c, M)) := by
  obtain ⟨hp, hT, h3, h5, h4, h7, h8, h6⟩ := h
  unfold m_X6_isSign isS
  have e2 : nI (tkA T p).1 = (4 : Int32) ↔ (tkA T p).1 = 4 := kd_eq T p (k := 4) (by decide)
  rw [h4, ok_ite, e2]
  refine ⟨fun q => ?_, fun q => ok_some.mpr (by rw [decide_eq_false (fun q2 => q q2.1)])⟩
  rw [h6 (Or.inr q), ok_ite]
  exact ⟨fun q2 => ok_some.mpr (by rw [decide_eq_true ⟨q, q2⟩]), fun q2 => ok_some.mpr (by rw [decide_eq_false (fun q3 => q2 q3.2)])⟩
theorem AtC_6 (h : AtC T p M) {M' : mm} {P : Nat → Nat → Nat → Prop} (f : fi P M M') (hP : ∀ k n i, P k n i → k ≠ 7 ∧ k ≠ 40 ∧ k ≠ 41) : AtC T p M' := by
  obtain ⟨hp, hT, h3, h5, h4, h7, h8, h6⟩ := h
  have e : ∀ j, M'.1 7 0 j = M.1 7 0 j := fun j => fi_I f (fun q => by have := hP _ _ _ q; omega)
  exact ⟨hp, TpR_c hT f (fun k n i q => by have := hP _ _ _ q; omega), by rw [e]; exact h3, by rw [e]; exact h5, by rw [e]; exact h4, by rw [e]; exact h7, fun q => by rw [fi_L f (fun q => by have := hP _ _ _ q; omega)]; exact h8 q, fun q => by rw [e]; exact h6 q⟩
theorem wrong_ok (h : AtC T p M) {k : Nat} : ok (m_X5_wrong F (nI k) M) (fun r => r.1 = false ∧ r.2.1 6 0 4 = nI (k + 16 * tkB T p) ∧ TpR T r.2 ∧ fi PT6 M r.2) := by
  have f : ∀ v, fi (fun k _ i => k = 6 ∧ i = 4) M (sI M 6 0 4 v) := fun v => fi_sI fi_rf ⟨rfl, rfl⟩
  have e : nI k + ((16 : Int32) * nI (tkB T p)) = nI (k + 16 * tkB T p) := by
    show nI k + nI 16 * nI (tkB T p) = _
    rw [pk_mul, nI_add]
  unfold m_X5_wrong
  rw [ok_nm, ok_some, h.2.2.2.1, e]
  exact ⟨rfl, by rw [rII, if_pos ⟨rfl, rfl, rfl⟩], TpR_c h.2.1 (f _) (fun k n i q => by omega), fi_mono (f _) (fun k n i q => Or.inr (by omega))⟩
end CR
