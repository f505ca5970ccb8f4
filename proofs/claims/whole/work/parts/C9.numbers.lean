/-! a number that is told -/
theorem dv_lt {T : List Int32} {b : Nat} : ∀ n, (∀ i, i < n → isDg (sg T (b + i)) = true) → dv T b n + 1 ≤ 10 ^ n
  | 0, _ => Nat.le_refl _
  | n + 1, hl => by
    have ih := dv_lt (T := T) (b := b) n (fun i hi => hl i (by omega))
    have := hl n (by omega)
    unfold isDg at this
    rw [decide_eq_true_iff] at this
    have e := i_clamp (a := sg T (b + n)) (by omega)
    show dv T b n * 10 + ((sg T (b + n)).toNatClampNeg - 48) + 1 ≤ 10 ^ (n + 1)
    rw [Nat.pow_succ]
    omega
theorem tk_num {T : List Int32} {p : Nat} (hp : p ≤ T.length) (h : (tkA T p).1 = 3) : ∃ v, v ≤ 9999 ∧ (tkA T p).2.2 = nI v := by
  have hb : tkB T p ≤ T.length := rn_le hp
  unfold tkA at h ⊢
  split at h
  · cases h
  · rename_i q
    rw [if_neg q]
    split at h
    · split at h
      · cases h
      · cases h
    · rename_i q2
      rw [if_neg q2]
      split at h
      · rename_i q3
        rw [if_pos q3]
        split at h
        · rename_i q4
          rw [if_pos q4]
          have := dv_lt (T := T) (b := tkB T p) (rnL isDg T (tkB T p)) (fun i hi => rn_all i _ hb hi)
          have h4 : 10 ^ (rnL isDg T (tkB T p)) ≤ 10 ^ 4 := Nat.pow_le_pow_right (by decide) q4
          exact ⟨dv T (tkB T p) (rnL isDg T (tkB T p)), by omega, rfl⟩
        · cases h
      · split at h
        · cases h
        · cases h
/-- a number is none of the signs' codes -/
theorem num_ne {T : List Int32} {p : Nat} (hp : p ≤ T.length) (h : (tkA T p).1 = 3) : ¬ (tkA T p).2.2 = -14 ∧ ¬ (tkA T p).2.2 = -13 ∧ ¬ (tkA T p).2.2 = -5 := by
  obtain ⟨v, hv, e⟩ := tk_num hp h
  have z : ∀ c : Int32, c < 0 → ¬ nI v = c := fun c hc q => by
    have := nI_pos (n := v) (by omega)
    rw [q] at this; exact this hc
  rw [e]
  exact ⟨z _ (by decide), z _ (by decide), z _ (by decide)⟩
