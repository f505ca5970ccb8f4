/-! a line, a city, as they are read: where faults stand, that each line goes on -/
def LOK (D : dft) : Prop := ∀ cs ks, dW D = some (cs, ks) → ks ≠ [] ∧ ∀ b y k a, ∃ f v, aev b y k a ks ast0 = some ([f], some v) ∧ pev b y k a cs = [kpV f v]
def Rs (T : List Int32) (p0 : Nat) (D : dft) (x : res) : Prop := match x with
  | .inl (k, q) => (1 ≤ k ∧ k ≤ 5) ∧ q ≤ T.length
  | .inr (p', D') => (p0 ≤ p' ∧ p' ≤ T.length) ∧ (LOK D → LOK D')
section RSs
variable {T : List Int32} {p0 p : Nat} {D : dft}
theorem Rs_l {k : Nat} (hk : 1 ≤ k ∧ k ≤ 5) (hp : p ≤ T.length) : Rs T p0 D (.inl (k, p)) := ⟨hk, hp⟩
theorem Rs_word (hp : p ≤ T.length) {i : Nat} {K : Nat → res} (h : ∀ p1, p ≤ p1 → p1 ≤ T.length → Rs T p0 D (K p1)) : Rs T p0 D (spWord T i p K) := by
  unfold spWord
  split
  · exact h _ (tkE_le hp).1 (tkE_le hp).2
  · exact Rs_l (by decide) hp
theorem Rs_num (hp : p ≤ T.length) {lo hi : Int32} {K : Int32 → Nat → res} (h : ∀ v p1, p ≤ p1 → p1 ≤ T.length → Rs T p0 D (K v p1)) : Rs T p0 D (spNum T lo hi p K) := by
  unfold spNum
  split
  · split
    · exact h _ _ (tkE_le hp).1 (tkE_le hp).2
    · exact Rs_l (by decide) hp
  · exact Rs_l (by decide) hp
theorem Rs_end (hp : p ≤ T.length) {K : Nat → res} (h : ∀ p1, p ≤ p1 → p1 ≤ T.length → Rs T p0 D (K p1)) : Rs T p0 D (spEnd T p K) := by
  unfold spEnd
  split
  · exact h _ (tkE_le hp).1 (tkE_le hp).2
  · exact Rs_l (by decide) hp
theorem Rs_new (hp : p ≤ T.length) {D1 : dft} {K : List Nat → Nat → res} (h : ∀ w p1, p ≤ p1 → p1 ≤ T.length → Rs T p0 D (K w p1)) : Rs T p0 D (spNew T D1 p K) := by
  unfold spNew
  split
  · split
    · exact Rs_l (by decide) hp
    · exact h _ _ (tkE_le hp).1 (tkE_le hp).2
  · exact Rs_l (by decide) hp
theorem Rs_kn (hp : p ≤ T.length) {N : List (List Nat)} {K : Nat → res} (h : ∀ i, Rs T p0 D (K i)) : Rs T p0 D (spKn T N p K) := by
  unfold spKn
  split
  · split
    · exact Rs_l (by decide) hp
    · exact h _
  · exact Rs_l (by decide) hp
theorem Rs_person (hp : p ≤ T.length) : Rs T (tkE T p) D (spPerson T D p) := by
  unfold spPerson
  split
  · exact Rs_l (by decide) hp
  · exact Rs_new (tkE_le hp).2 (fun w p1 a1 b1 => Rs_word b1 (fun p2 a2 b2 => Rs_num b2 (fun f p3 a3 b3 => Rs_word b3 (fun p4 a4 b4 => Rs_num b4 (fun t p5 a5 b5 => Rs_end b5 (fun p6 a6 b6 => ⟨⟨by omega, b6⟩, fun z => z⟩))))))
theorem Rs_oath (hp : p ≤ T.length) : Rs T (tkE T p) D (spOath T D p) := by
  unfold spOath
  split
  · exact Rs_l (by decide) hp
  · refine Rs_new (tkE_le hp).2 (fun w p1 a1 b1 => ?_)
    have c1 := tkE_le b1
    split
    · refine Rs_word c1.2 (fun p2 a2 b2 => Rs_kn b2 (fun q => ?_))
      have c2 := tkE_le b2
      exact Rs_word c2.2 (fun p3 a3 b3 => Rs_num b3 (fun b p4 a4 b4 => Rs_end b4 (fun p5 a5 b5 => ⟨⟨by omega, b5⟩, fun z => z⟩)))
    · exact Rs_l (by decide) b1
theorem Rs_lean (hp : p ≤ T.length) : Rs T (tkE T p) D (spLean T D p) := by
  have c1 := tkE_le hp
  have c2 := tkE_le c1.2
  have c3 := tkE_le c2.2
  unfold spLean
  refine Rs_kn c1.2 (fun a => ?_)
  split
  · exact Rs_l (by decide) c1.2
  · refine Rs_kn c2.2 (fun b => ?_)
    split
    · exact Rs_l (by decide) c2.2
    · exact Rs_end c3.2 (fun p4 a4 b4 => ⟨⟨by omega, b4⟩, fun z => z⟩)
theorem Rs_clash (hp : p ≤ T.length) : Rs T (tkE T p) D (spClash T D p) := by
  have c1 := tkE_le hp
  have c2 := tkE_le c1.2
  have c3 := tkE_le c2.2
  unfold spClash
  refine Rs_kn c1.2 (fun a => Rs_kn c2.2 (fun b => ?_))
  split
  · exact Rs_l (by decide) c2.2
  · exact Rs_end c3.2 (fun p4 a4 b4 => ⟨⟨by omega, b4⟩, fun z => z⟩)
theorem Rs_onL {D1 : dft} {K : Nat → Int32 → Int32 → res} : ∀ (n p : Nat) (a b : Int32), p ≤ T.length → (∀ q a b, p ≤ q → q ≤ T.length → Rs T p0 D (K q a b)) → Rs T p0 D (spOnL T D1 n p a b K)
  | 0, p, a, b, hp, h => Rs_l (by decide) hp
  | n + 1, p, a, b, hp, h => by
    have c1 := tkE_le hp
    have ih : ∀ a b, Rs T p0 D (spOnL T D1 n (tkE T p) a b K) := fun a b => Rs_onL n (tkE T p) a b c1.2 (fun q a b h1 h2 => h q a b (by omega) h2)
    have hK : ∀ a b, Rs T p0 D (K (tkE T p) a b) := fun a b => h _ a b c1.1 c1.2
    unfold spOnL
    repeat' split
    all_goals first | exact Rs_l (by decide) hp | exact ih _ _ | exact hK _ _
theorem Rs_stone (hp : p ≤ T.length) : Rs T (tkE T p) D (spStone T D p) := by
  have tail : ∀ w wt rn p6 a b, tkE T p ≤ p6 → p6 ≤ T.length → Rs T (tkE T p) D (spSt T D w wt rn p6 a b) := fun w wt rn p6 a b h1 h2 => by
    unfold spSt
    exact Rs_end h2 (fun p7 a7 b7 => ⟨⟨by omega, b7⟩, fun z => z⟩)
  unfold spStone
  split
  · exact Rs_l (by decide) hp
  · refine Rs_new (tkE_le hp).2 (fun w p1 a1 b1 => Rs_word b1 (fun p2 a2 b2 => Rs_num b2 (fun wt p3 a3 b3 => Rs_word b3 (fun p4 a4 b4 => Rs_num b4 (fun rn p5 a5 b5 => ?_)))))
    have c5 := tkE_le b5
    split
    · exact Rs_onL _ _ _ _ c5.2 (fun q a b h1 h2 => tail _ _ _ _ _ _ (by omega) h2)
    · exact tail _ _ _ _ _ _ (by omega) b5
theorem Rs_mend (hp : p ≤ T.length) : Rs T (tkE T p) D (spMend T D p) := by
  unfold spMend
  split
  · exact Rs_l (by decide) hp
  · exact Rs_num (tkE_le hp).2 (fun m p1 a1 b1 => Rs_end b1 (fun p2 a2 b2 => ⟨⟨by omega, b2⟩, fun z => z⟩))
theorem lStep_b {s : lst} {k : Nat} (h : lStep T p s = .inl k) : 1 ≤ k ∧ k ≤ 5 := by
  unfold lStep at h
  split at h
  · unfold spPart at h
    split at h
    · cases h; decide
    · split at h
      · cases h; decide
      · split at h
        · cases h
        · cases h
  · unfold spJnt at h
    split at h
    · split at h
      · cases h; decide
      · cases h
    · split at h
      · cases h; decide
      · split at h
        · split at h
          · cases h; decide
          · cases h
        · cases h
theorem lwL_b : ∀ (fu p : Nat) (s : lst), p ≤ T.length → (∀ k q, spLwL T fu p s = .inl (k, q) → (1 ≤ k ∧ k ≤ 5) ∧ q ≤ T.length) ∧ ∀ cs q, spLwL T fu p s = .inr (cs, q) → p ≤ q ∧ q ≤ T.length
  | 0, p, s, hp => ⟨fun k q h => by cases h; exact ⟨by decide, hp⟩, fun cs q h => by cases h⟩
  | fu + 1, p, s, hp => by
    by_cases e : s.2.2.2 = false ∧ s.2.2.1 = 0 ∧ isS T p 59 = true
    · have eU : spLwL T (fu + 1) p s = .inr ((lSet 1 s.1 s.2.1).1, p) := if_pos e
      rw [eU]
      exact ⟨fun k q h => (by cases h), fun cs q h => by cases h; exact ⟨Nat.le_refl _, hp⟩⟩
    · have eU : spLwL T (fu + 1) p s = match lStep T p s with
        | .inl k => .inl (k, p)
        | .inr s' => spLwL T fu (tkE T p) s' := if_neg e
      rw [eU]
      cases eL : lStep T p s with
      | inl k => exact ⟨fun k' q h => by cases h; exact ⟨lStep_b eL, hp⟩, fun cs q h => by cases h⟩
      | inr s' =>
        have c := tkE_le hp
        obtain ⟨i1, i2⟩ := lwL_b fu (tkE T p) s' c.2
        exact ⟨i1, fun cs q h => by have := i2 cs q h; omega⟩
theorem Rs_age (hT : T.length ≤ 1000) (hp : p ≤ T.length) : Rs T (tkE T p) D (spAge T D p) := by
  have c := tkE_le hp
  unfold spAge
  split
  · exact Rs_l (by decide) hp
  · obtain ⟨i1, i2⟩ := lwL_b 1001 (tkE T p) ([], [], 0, true) c.2
    rcases law_same hT c.2 with ⟨k, q, x1, x2⟩ | ⟨cs, ks, q, x1, x2, x3, x4⟩
    · rw [x1]; exact i1 k q x1
    · rw [x1, x2]
      dsimp only
      obtain ⟨j1, j2⟩ := i2 cs q x1
      have c2 := tkE_le j2
      refine ⟨⟨by omega, c2.2⟩, fun _ cs' ks' e => ?_⟩
      have e : some (cs, ks) = some (cs', ks') := e
      cases e
      exact ⟨x3, x4⟩
end RSs
def spLine (T : List Int32) (D : dft) (p : Nat) : res := if isW T p 0 = true then spPerson T D p else if isW T p 3 = true then spOath T D p else if isW T p 6 = true then spLean T D p else if isW T p 7 = true then spClash T D p else if isW T p 8 = true then spStone T D p else if isW T p 12 = true then spAge T D p else if isW T p 13 = true then spMend T D p else .inl (1, p)
theorem Rs_line {T : List Int32} {p : Nat} {D : dft} (hT : T.length ≤ 1000) (hp : p ≤ T.length) : Rs T (tkE T p) D (spLine T D p) := by
  unfold spLine
  repeat' split
  · exact Rs_person hp
  · exact Rs_oath hp
  · exact Rs_lean hp
  · exact Rs_clash hp
  · exact Rs_stone hp
  · exact Rs_age hT hp
  · exact Rs_mend hp
  · exact Rs_l (by decide) hp
def spCityL (T : List Int32) : Nat → Nat → dft → (Nat × Nat) ⊕ dft
  | 0, p, _ => .inl (1, p)
  | fu + 1, p, D => if (tkA T p).1 = 0 then .inr D else match spLine T D p with
    | .inl e => .inl e
    | .inr (p', D') => spCityL T fu p' D'
def D00 : dft := ([], [], (fun _ => -1, fun _ => 0), [], none, none)
def spCity (T : List Int32) : (Nat × Nat) ⊕ dft := spCityL T (T.length + 1) 0 D00
theorem cityL_b {T : List Int32} (hT : T.length ≤ 1000) : ∀ (fu p : Nat) (D : dft), p ≤ T.length → LOK D → (∀ k q, spCityL T fu p D = .inl (k, q) → (1 ≤ k ∧ k ≤ 5) ∧ q ≤ T.length) ∧ ∀ D', spCityL T fu p D = .inr D' → LOK D'
  | 0, p, D, hp, _ => ⟨fun k q h => by cases h; exact ⟨by decide, hp⟩, fun D' h => by cases h⟩
  | fu + 1, p, D, hp, hL => by
    have eU : spCityL T (fu + 1) p D = if (tkA T p).1 = 0 then .inr D else match spLine T D p with
        | .inl e => .inl e
        | .inr (p', D') => spCityL T fu p' D' := rfl
    rw [eU]
    by_cases e : (tkA T p).1 = 0
    · rw [if_pos e]
      exact ⟨fun k q h => (by cases h), fun D' h => by cases h; exact hL⟩
    · rw [if_neg e]
      have r := Rs_line (D := D) hT hp
      cases eL : spLine T D p with
      | inl z =>
        obtain ⟨k, q⟩ := z
        rw [eL] at r
        exact ⟨fun k' q' h => by cases h; exact r, fun D' h => by cases h⟩
      | inr z =>
        obtain ⟨p', D'⟩ := z
        rw [eL] at r
        exact cityL_b hT fu p' D' r.1.2 (r.2 hL)
theorem city_b {T : List Int32} (hT : T.length ≤ 1000) : (∀ k q, spCity T = .inl (k, q) → (1 ≤ k ∧ k ≤ 5) ∧ q ≤ T.length) ∧ ∀ D', spCity T = .inr D' → LOK D' := cityL_b hT _ _ _ (Nat.zero_le _) (fun _ _ h => by cases h)
