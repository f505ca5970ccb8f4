/-! the two readers of a law side by side: the whole -/
def SameL (x : (Nat × Nat) ⊕ (List Int32 × Nat)) (z : (Nat × Nat) ⊕ (List Int32 × Nat)) : Prop := (∃ k q, x = .inl (k, q) ∧ z = .inl (k, q)) ∨ ∃ cs ks q, x = .inr (cs, q) ∧ z = .inr (ks, q) ∧ ks ≠ [] ∧ ∀ b y k a, ∃ f v, aev b y k a ks ast0 = some ([f], some v) ∧ pev b y k a cs = [kpV f v]
theorem op_lZ : ∀ w : List Int32, lSrt w → lNn w → w.head? ≠ some (-5) → lOp w = 0 → lZ w = 0
  | [], _, _, _, _ => rfl
  | x :: w, hs, hn, hh, ho => by
    rcases srt_c hs with e | e | ⟨e, -⟩
    · exact absurd (by rw [e]; rfl) hh
    · subst e
      rw [lOp_cons, if_pos rfl] at ho; omega
    · have e13 : ¬ x = -13 := fun z => by rw [z] at e; exact absurd e (by decide)
      rw [lOp_cons, if_neg e13] at ho
      rw [lZ_cons, if_neg (by omega)]
      exact op_lZ w hs.2 (lNn_t hn) (nn_t hn e) ho
theorem j59 {T : List Int32} {p : Nat} (h : isS T p 59 = true) : ¬ isS T p 41 = true ∧ lJnt T p = -14 := by
  have h1 := h
  unfold isS at h1
  rw [decide_eq_true_iff] at h1
  have w : ∀ i, isW T p i = false := fun i => by
    unfold isW
    rw [h1.1]; simp
  refine ⟨fun r => ?_, ?_⟩
  · unfold isS at r
    rw [decide_eq_true_iff, h1.2] at r
    exact absurd r.2 (by decide)
  · unfold lJnt
    rw [w 23, w 24, h1.2, h1.1]
    decide
theorem law_go {T : List Int32} (hT : T.length ≤ 1000) : ∀ (fu fu' p : Nat) (s : lst) (t : mst), p ≤ T.length → LR s t → T.length < fu + p → T.length < fu' + p → SameL (spLwL T fu p s) (spLmL T fu' p t) := by
  intro fu
  induction fu with
  | zero => intro fu' p s t hp _ h; omega
  | succ fu ih =>
    intro fu' p s t hp hR h1 h2
    obtain ⟨fu', rfl⟩ : ∃ n, fu' = n + 1 := ⟨fu' - 1, by omega⟩
    have eU : spLmL T (fu' + 1) p t = match mStep T p t with
        | .inl 0 => if t.2.1.length = 1 ∧ isS T p 59 = true then .inr (t.1, p) else .inl (1, p)
        | .inl (k + 1) => .inl (k + 1, p)
        | .inr s' => spLmL T fu' (tkE T p) s' := rfl
    obtain ⟨⟨g1, g2⟩, ⟨g3, g4, g5, g6, g7, g8⟩, gv⟩ := id hR
    have hlen := lvO_len s.2.1 0 g3
    rw [← g2] at hlen
    have opl := lOp_le s.2.1
    by_cases hend : s.2.2.2 = false ∧ s.2.2.1 = 0 ∧ isS T p 59 = true
    · obtain ⟨e1, e2, e3⟩ := hend
      have eC : spLwL T (fu + 1) p s = .inr ((lSet 1 s.1 s.2.1).1, p) := if_pos ⟨e1, e2, e3⟩
      obtain ⟨j1, j2⟩ := j59 e3
      have hz := op_lZ s.2.1 g3 g4 (g5 e1) (g6.symm.trans e2)
      have eM : mStep T p t = .inl 0 := by
        unfold mStep
        rw [g1, e1, if_neg (by decide), mJnt_c t j1, if_pos j2]
      rw [eC, eU, eM]
      dsimp only
      rw [if_pos ⟨by omega, e3⟩]
      refine Or.inr ⟨_, _, p, rfl, rfl, g8 e1, fun b y k a => ?_⟩
      obtain ⟨st, fs, r, -, r2⟩ := gv b y k a
      obtain ⟨v, z1, z2⟩ := r2 e1
      obtain ⟨l1, -⟩ := RF_len s.2.1 st fs g3 r
      cases fs with
      | nil => rw [List.length_nil] at l1; omega
      | cons f g =>
        obtain ⟨st', s1, s2⟩ := RF_set (r := 1) (by decide) s.2.1 s.1 st f g v g3 r z1
        obtain ⟨c1, c2, c3, c4, -, -⟩ := lSet_c 1 (by decide) s.2.1 s.1 g3
        have hnil : (lSet 1 s.1 s.2.1).2 = [] := by
          generalize (lSet 1 s.1 s.2.1).2 = w1 at c1 c2 c4 ⊢
          cases w1 with
          | nil => rfl
          | cons d w2 =>
            have : rkN d < 1 := c4
            rw [lZ_cons, if_pos (by omega)] at c2
            omega
        rw [hnil] at s1
        obtain ⟨s3, s4⟩ := s1
        rw [List.cons.injEq] at s4
        rw [s3] at s2
        refine ⟨f, v, ?_, s2⟩
        rw [z2, s4.2]
    · have eC : spLwL T (fu + 1) p s = match lStep T p s with
        | .inl k => .inl (k, p)
        | .inr s' => spLwL T fu (tkE T p) s' := if_neg hend
      have go : ∀ s' t', lStep T p s = .inr s' → mStep T p t = .inr t' → LR s' t' → SameL (spLwL T (fu + 1) p s) (spLmL T (fu' + 1) p t) := fun s' t' q1 q2 q3 => by
        have hk := lStep_k q1
        obtain ⟨k1, k2⟩ := tkE_gt hp hk
        rw [eC, eU, q1, q2]
        exact ih fu' (tkE T p) s' t' k2 q3 (by omega) (by omega)
      cases hd : s.2.2.2 with
      | true =>
        have u1 : lStep T p s = spPart T p s := if_pos hd
        have u2 : mStep T p t = mPart T p t := if_pos (g1.trans hd)
        rcases LR_part hp hR hd with ⟨k, q1, q2⟩ | ⟨s', t', q1, q2, q3⟩
        · rw [eC, eU, u1, u2, q1, q2]
          exact Or.inl ⟨k + 1, p, rfl, rfl⟩
        · exact go s' t' (u1.trans q1) (u2.trans q2) q3
      | false =>
        have u1 : lStep T p s = spJnt T p s := if_neg (by rw [hd]; decide)
        have u2 : mStep T p t = mJnt T p t := if_neg (by rw [g1, hd]; decide)
        rcases LR_jnt (T := T) (p := p) hR hd with ⟨q1, q2⟩ | ⟨s', t', q1, q2, q3⟩
        · rw [eC, eU, u1, u2, q1, q2]
          dsimp only
          rw [if_neg (fun r => hend ⟨hd, by have := r.1; omega, r.2⟩)]
          exact Or.inl ⟨1, p, rfl, rfl⟩
        · exact go s' t' (u1.trans q1) (u2.trans q2) q3
/-- both readers agree: the same fault at the same place, or laws of one value -/
theorem law_same {T : List Int32} {p : Nat} (hT : T.length ≤ 1000) (hp : p ≤ T.length) : SameL (spLw T p) (spLm T p) := by
  refine law_go hT 1001 (T.length + 1) p _ _ hp ⟨⟨rfl, rfl⟩, ⟨trivial, trivial, fun _ r => (by cases r), rfl, Nat.zero_le _, fun r => by cases r⟩, fun b y k a => ⟨[], [fresh0 0], ⟨rfl, rfl⟩, fun _ => ⟨rfl, rfl⟩, fun r => by cases r⟩⟩ (by omega) (by omega)
