/-! the levels that a waiting row says -/
def lvO : List Int32 → Int32 → List (Int32 × Int32)
  | [], c => [(0, c)]
  | x :: w, c => if x = -5 then (1, c) :: lvO w 0 else if x = -13 then (2, c) :: lvO w 0 else lvO w (if rkN x = 2 then 1 else c)
/-- joints stand over no not -/
def lNn : List Int32 → Prop
  | [] => True
  | [_] => True
  | x :: y :: w => (x = -5 ∨ x = -13 ∨ y ≠ -5) ∧ lNn (y :: w)
theorem lvO_len : ∀ (w : List Int32) (c : Int32), lSrt w → (lvO w c).length = lZ w + 1
  | [], _, _ => rfl
  | x :: w, c, h => by
    rw [lZ_cons]
    by_cases q : x = -5
    · rw [show lvO (x :: w) c = (1, c) :: lvO w 0 from if_pos q, List.length_cons, lvO_len w 0 h.2, if_pos (by rw [q]; rfl)]
    by_cases q2 : x = -13
    · rw [show lvO (x :: w) c = (2, c) :: lvO w 0 from (if_neg q).trans (if_pos q2), List.length_cons, lvO_len w 0 h.2, if_pos (by rw [q2]; rfl)]
    · have r : 1 ≤ rkN x := by
        rcases h.1 with a | a | a
        · exact absurd a q
        · exact absurd a q2
        · exact a.1
      rw [show lvO (x :: w) c = lvO w (if rkN x = 2 then 1 else c) from (if_neg q).trans (if_neg q2), lvO_len w _ h.2, if_neg (by omega)]
/-- the head's kind is not a not, when a joint or nothing stands there -/
theorem lvO_hd : ∀ (w : List Int32) (c : Int32), lNn w → (∀ x, w.head? = some x → x ≠ -5) → lPop (lvO w c) = lvO w c
  | [], c, _, _ => if_neg (show ¬ (0 : Int32) = 1 by decide)
  | x :: w, c, h, hh => by
    have q : x ≠ -5 := hh x rfl
    by_cases q2 : x = -13
    · rw [show lvO (x :: w) c = (2, c) :: lvO w 0 from (if_neg q).trans (if_pos q2)]
      exact if_neg (show ¬ (2 : Int32) = 1 by decide)
    · rw [show lvO (x :: w) c = lvO w (if rkN x = 2 then 1 else c) from (if_neg q).trans (if_neg q2)]
      cases w with
      | nil => exact if_neg (show ¬ (0 : Int32) = 1 by decide)
      | cons y w =>
        refine lvO_hd (y :: w) _ h.2 (fun z hz => ?_)
        rcases h.1 with a | a | a
        · exact absurd a q
        · exact absurd a q2
        · rw [← Option.some.inj hz]; exact a
theorem lNn_t {x : Int32} {w : List Int32} (h : lNn (x :: w)) : lNn w := by
  cases w with
  | nil => trivial
  | cons y w => exact h.2
/-- what ends with a part ends on both sides -/
theorem lvO_end : ∀ (w cs : List Int32) (c : Int32), lNn w → (w = [] ∨ True) → (lvO (lEnd cs w).2 (if w.head? = some (-5) then 0 else c)) = lPop (lvO w c)
  | [], cs, c, _, _ => (if_neg (show ¬ (0 : Int32) = 1 by decide) : lPop [((0 : Int32), c)] = [(0, c)]).symm
  | x :: w, cs, c, h, _ => by
    by_cases q : x = -5
    · subst q
      have e : lEnd cs ((-5) :: w) = lEnd (cs ++ [-5]) w := if_pos rfl
      have e2 : lvO ((-5) :: w) c = (1, c) :: lvO w 0 := if_pos rfl
      rw [e, e2, show lPop ((1, c) :: lvO w 0) = lPop (lvO w 0) from if_pos rfl, if_pos (show ((-5 : Int32) :: w).head? = some (-5) from rfl)]
      have := lvO_end w (cs ++ [-5]) 0 (lNn_t h) (Or.inr trivial)
      rw [← this]
      by_cases q2 : w.head? = some (-5)
      · rw [if_pos q2]
      · rw [if_neg q2]
    · have e : lEnd cs (x :: w) = (cs, x :: w) := if_neg q
      rw [e, if_neg (show ¬ (x :: w).head? = some (-5) from fun r => q (Option.some.inj r))]
      exact (lvO_hd (x :: w) c h (fun z hz => by rw [← Option.some.inj hz]; exact q)).symm
theorem lvO_j {x : Int32} {w : List Int32} {c : Int32} (h : 1 ≤ rkN x) : lvO (x :: w) c = lvO w (if rkN x = 2 then 1 else c) := by
  have a : ¬ x = -5 := fun e => by rw [e] at h; exact absurd h (by decide)
  have b : ¬ x = -13 := fun e => by rw [e] at h; exact absurd h (by decide)
  exact (if_neg a).trans (if_neg b)
/-- sums and products that are told leave the levels -/
theorem lvO_set {r : Nat} (hr : 3 ≤ r) : ∀ (w cs : List Int32) (c : Int32), lvO (lSet r cs w).2 c = lvO w c
  | [], _, _ => rfl
  | x :: w, cs, c => by
    by_cases q : rkN x < r
    · rw [show lSet r cs (x :: w) = (cs, x :: w) from if_pos q]
    · rw [show lSet r cs (x :: w) = lSet r (cs ++ [x]) w from if_neg q, lvO_set hr w _ c, lvO_j (by omega), if_neg (by omega)]
/-- all joints of a level told: its mark is off -/
theorem lvO_set1 : ∀ (w cs : List Int32) (c : Int32), lSrt w → lvO (lSet 1 cs w).2 0 = ((mHd (lvO w c)).1, 0) :: (lvO w c).tail
  | [], _, _, _ => rfl
  | x :: w, cs, c, h => by
    by_cases q : rkN x < 1
    · rw [show lSet 1 cs (x :: w) = (cs, x :: w) from if_pos q]
      rcases h.1 with e | e | ⟨e, -⟩
      · subst e; rfl
      · subst e; rfl
      · omega
    · rw [show lSet 1 cs (x :: w) = lSet 1 (cs ++ [x]) w from if_neg q, lvO_j (by omega)]
      exact lvO_set1 w _ _ h.2
