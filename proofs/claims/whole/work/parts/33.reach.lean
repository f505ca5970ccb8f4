/-! the wall: the queue -/
def wR (M : mm) (t o : Nat) : Bool := bt (M.1 47 0 t) o
def QI (M : mm) (q : List Nat) : Prop := q.Nodup ∧ (∀ o ∈ q, o < 10) ∧ ∀ i o, q[i]? = some o → M.1 52 0 i = nI o
theorem QI_len {M : mm} {q : List Nat} (h : QI M q) : q.length ≤ 10 := nodup_len 10 q h.1 h.2.1
theorem reach_ok {F : Nat} (hF : 1000 < F) {M : mm} {t : Nat} (ht : t < 11) {so : Int32} {q : List Nat} (hq : QI M q) (hso : ∀ o, o < 10 → (bt so o = true ↔ o ∈ q)) :
    ok (m_X9_reach F (nI t) so (nI q.length) M) (fun r => ∃ p : List Nat, r.1 = nI (q ++ p).length ∧ QI r.2 (q ++ p) ∧ (∀ o, o ∈ p ↔ o < 10 ∧ wR M t o = true ∧ o ∉ q) ∧ (∀ o, o ∈ p → r.2.1 53 0 o = nI t) ∧ (∀ o, o ∉ p → r.2.1 53 0 o = M.1 53 0 o) ∧ fr (fun k _ => k = 52 ∨ k = 53) M r.2) := by
  unfold m_X9_reach
  rw [ok_bd]
  refine ok_for 10 (fun i s => s.2.1 = nI i ∧ ∃ p : List Nat, s.1 = nI (q ++ p).length ∧ QI s.2.2 (q ++ p) ∧ (∀ o, o ∈ p ↔ o < i ∧ wR M t o = true ∧ o ∉ q) ∧ (∀ o, o ∈ p → s.2.2.1 53 0 o = nI t) ∧ (∀ o, o ∉ p → s.2.2.1 53 0 o = M.1 53 0 o) ∧ fr (fun k _ => k = 52 ∨ k = 53) M s.2.2) 0 (by omega) (by omega) ⟨rfl, [], by simp, by simpa using hq, by simp, by simp, by simp, fr_rf⟩ ?_
  rintro i ⟨x1, x2, M3⟩ hi ⟨h2, p, h1, hQ, hp, hb, hb', hf⟩
  dsimp only at h1 h2 hQ hb hb' hf
  subst h2; subst h1
  simp only [b_X9_reach_1, b_X9_reach_1c, ok_ite, nI_lit_le (show 10 < 2 ^ 31 by decide) (show i < 2 ^ 31 by omega)]
  refine ⟨fun h => ?_, fun h => ?_⟩
  · rw [ok_some]
    have : i = 10 := by omega
    subst this
    exact ok_some.mpr ⟨p, rfl, hQ, hp, hb, hb', hf⟩
  · simp only [ok_gi, ok_bd]
    refine ⟨vp_in_nI ht (by decide), ?_⟩
    have hR : M3.1 47 0 (nI t).toNatClampNeg = M.1 47 0 t := by
      rw [nI_clamp (by omega)]; exact fr_I hf (by omega) t
    rw [hR]
    simp only [ok_ite, ok_gi, ok_nm, b_msk0 _ (show i < 32 by omega), b_and, b_not _ (show i < 32 by omega)]
    have hlen := QI_len hQ
    refine ⟨fun h0 => ?_, fun h0 => ?_⟩
    · rw [ok_some]
      simp only [ok_some, Sum.elim_inl, nI_1]
      refine ⟨by omega, trivial, p, rfl, hQ, fun o => ?_, hb, hb', hf⟩
      rw [hp o]
      constructor
      · rintro ⟨a, b, c⟩; exact ⟨by omega, b, c⟩
      · rintro ⟨a, b, c⟩
        refine ⟨?_, b, c⟩
        rcases Nat.lt_succ_iff_lt_or_eq.mp a with a | a
        · exact a
        · subst a
          exfalso
          have h3 : bt so o = false := by
            cases hs : bt so o
            · rfl
            · exact absurd ((hso o (by omega)).mp hs) c
          unfold wR at b
          rw [b, h3] at h0; cases h0
    · have hwr : wR M t i = true ∧ bt so i = false := by
        unfold wR
        cases h3 : bt (M.1 47 0 t) i <;> cases h4 : bt so i <;> simp [h3, h4] at h0 ⊢
      have hnq : i ∉ q := fun h => by rw [(hso i (by omega)).mpr h] at hwr; exact absurd hwr.2 (by decide)
      have hni : i ∉ q ++ p := by
        rw [List.mem_append]
        rintro (h | h)
        · exact hnq h
        · have := (hp i).mp h; omega
      have hl9 : (q ++ p).length < 10 := by
        have := nodup_len 10 ((q ++ p) ++ [i]) (by
          rw [List.nodup_append]
          exact ⟨hQ.1, by simp, fun a ha b hb e => by rw [List.mem_singleton] at hb; subst hb; subst e; exact hni ha⟩) (fun o ho => by
          rcases List.mem_append.mp ho with h | h
          · exact hQ.2.1 o h
          · rw [List.mem_singleton] at h; omega)
        simp only [List.length_append, List.length_singleton] at this ⊢
        omega
      refine ⟨fun h5 => absurd h5 (by rw [nI_lit_le (n := 10) (by decide) (by omega)]; omega), fun _ => ⟨vp_in_nI hl9 (by decide), vp_in_nI (by omega) (by decide), ?_⟩⟩
      simp only [ok_some, Sum.elim_inl, nI_1, nI_clamp (show i < 2 ^ 31 by omega), nI_clamp (show (q ++ p).length < 2 ^ 31 by omega)]
      refine ⟨by omega, trivial, p ++ [i], ?_, ⟨?_, ?_, ?_⟩, fun o => ?_, fun o ho => ?_, fun o ho => ?_, ?_⟩
      · simp only [List.length_append, List.length_singleton]; rfl
      · rw [← List.append_assoc, List.nodup_append]
        exact ⟨hQ.1, by simp, fun a ha b hb e => by rw [List.mem_singleton] at hb; subst hb; subst e; exact hni ha⟩
      · intro o ho
        rw [← List.append_assoc] at ho
        rcases List.mem_append.mp ho with h | h
        · exact hQ.2.1 o h
        · rw [List.mem_singleton] at h; omega
      · intro j o hj
        rw [← List.append_assoc, List.getElem?_append] at hj
        simp only [rII]
        rw [if_neg (by omega)]
        by_cases e : j < (q ++ p).length
        · rw [if_pos e] at hj
          rw [if_neg (by omega)]
          exact hQ.2.2 j o hj
        · rw [if_neg e] at hj
          have h6 : j - (q ++ p).length = 0 := by
            have := (List.getElem?_eq_some_iff.mp hj).1
            simp at this; simp; omega
          rw [h6] at hj
          simp at hj
          rw [if_pos ⟨trivial, trivial, by omega⟩, hj]
      · rw [List.mem_append, List.mem_singleton, hp o]
        constructor
        · rintro (⟨a, b, c⟩ | a)
          · exact ⟨by omega, b, c⟩
          · subst a; exact ⟨by omega, hwr.1, hnq⟩
        · rintro ⟨a, b, c⟩
          rcases Nat.lt_succ_iff_lt_or_eq.mp a with a | a
          · exact Or.inl ⟨a, b, c⟩
          · exact Or.inr a
      · simp only [rII]
        by_cases e : o = i
        · rw [if_pos ⟨trivial, trivial, e⟩]
        · rw [if_neg (by omega), if_neg (by omega)]
          rcases List.mem_append.mp ho with h | h
          · exact hb o h
          · rw [List.mem_singleton] at h; exact absurd h e
      · simp only [rII]
        rw [List.mem_append, not_or, List.mem_singleton] at ho
        rw [if_neg (by omega), if_neg (by omega)]
        exact hb' o ho.1
      · exact fr_sI (fr_sI hf (Or.inl rfl)) (Or.inr rfl)
