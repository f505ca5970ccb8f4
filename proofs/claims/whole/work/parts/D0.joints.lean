/-! a joint: both sides' codes -/
def jc (c : Int32) : Int32 := if c = -6 then 26 else if c = -7 then 27 else if c = -8 then 24 else if c = -9 then 25 else if c = -10 then 20 else if c = -11 then 21 else 22
theorem mJnt_c {T : List Int32} {p : Nat} (s : mst) (h : ¬ isS T p 41 = true) : mJnt T p s = if lJnt T p = -14 then .inl 0 else if 3 ≤ rkN (lJnt T p) then .inr (s.1 ++ [jc (lJnt T p)], s.2.1, true) else if rkN (lJnt T p) = 2 then (if (mHd s.2.1).2 = 0 then .inr (s.1 ++ [jc (lJnt T p)], ((mHd s.2.1).1, 1) :: s.2.1.tail, true) else .inl 0) else .inr (s.1 ++ [jc (lJnt T p)], ((mHd s.2.1).1, 0) :: s.2.1.tail, true) := by
  have hS : ∀ c, isS T p c = decide ((tkA T p).1 = 4 ∧ (tkA T p).2.2 = c) := fun _ => rfl
  have hW : ∀ i, isW T p i = true → (tkA T p).1 = 2 := fun i h => by
    unfold isW at h; rw [decide_eq_true_iff] at h; exact h.1
  by_cases k4 : (tkA T p).1 = 4
  · have w : ∀ i, isW T p i = false := fun i => by
      cases e : isW T p i with
      | false => rfl
      | true => have := hW i e; omega
    have s' : ∀ c, isS T p c = decide ((tkA T p).2.2 = c) := fun c => by rw [hS c]; simp [k4]
    unfold mJnt lJnt
    rw [w 23, w 24, if_pos k4, s' 43, s' 45, s' 42, s' 60, s' 61]
    rw [s' 41] at h
    rw [s' 41]
    generalize (tkA T p).2.2 = v at h ⊢
    by_cases q1 : v = 42
    · subst q1; rfl
    by_cases q2 : v = 43
    · subst q2; rfl
    by_cases q3 : v = 45
    · subst q3; rfl
    by_cases q4 : v = 60
    · subst q4
      by_cases z : (mHd s.2.1).2 = 0
      · simp [z, rkN, jc]
      · simp [z, rkN, jc]
    by_cases q5 : v = 61
    · subst q5
      by_cases z : (mHd s.2.1).2 = 0
      · simp [z, rkN, jc]
      · simp [z, rkN, jc]
    have q6 : ¬ v = 41 := fun e => h (by rw [e]; rfl)
    simp [q1, q2, q3, q4, q5, q6]
  · have s' : ∀ c, isS T p c = false := fun c => by rw [hS c]; simp [k4]
    unfold mJnt lJnt
    rw [if_neg k4, s' 43, s' 45, s' 42, s' 60, s' 61, s' 41]
    by_cases q1 : isW T p 23 = true
    · simp [q1, rkN, jc]
    by_cases q2 : isW T p 24 = true
    · simp [q1, q2, rkN, jc]
    simp [q1, q2]
