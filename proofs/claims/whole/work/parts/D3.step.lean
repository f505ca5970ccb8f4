/-! the two readers of a law side by side: a step -/
def LR (s : lst) (t : mst) : Prop := (t.2.2 = s.2.2.2 ∧ t.2.1 = lvO s.2.1 0) ∧ (lSrt s.2.1 ∧ lNn s.2.1 ∧ (s.2.2.2 = false → s.2.1.head? ≠ some (-5)) ∧ s.2.2.1 = lOp s.2.1 ∧ lZ s.2.1 ≤ 5 ∧ (s.2.2.2 = false → t.1 ≠ [])) ∧ ∀ b y k a, ∃ st fs, RF s.2.1 st fs ∧ (s.2.2.2 = true → pev b y k a s.1 = st ∧ aev b y k a t.1 ast0 = some (fs, none)) ∧ (s.2.2.2 = false → ∃ v, pev b y k a s.1 = v :: st ∧ aev b y k a t.1 ast0 = some (fs, some v))
theorem nn_t {x : Int32} {w : List Int32} (hn : lNn (x :: w)) (e : 1 ≤ rkN x) : w.head? ≠ some (-5) := by
  cases w with
  | nil => exact fun r => by cases r
  | cons y w =>
    rcases hn.1 with r | r | r
    · rw [r] at e; exact absurd e (by decide)
    · rw [r] at e; exact absurd e (by decide)
    · exact fun z => r (Option.some.inj z)
theorem nn_cons {x : Int32} {w : List Int32} (h : lNn w) (hx : x = -5 ∨ x = -13 ∨ w.head? ≠ some (-5)) : lNn (x :: w) := by
  cases w with
  | nil => trivial
  | cons y w =>
    refine ⟨?_, h⟩
    rcases hx with r | r | r
    · exact Or.inl r
    · exact Or.inr (Or.inl r)
    · exact Or.inr (Or.inr (fun e => r (by rw [e]; rfl)))
theorem lSet_nn {r : Nat} (hr : 1 ≤ r) : ∀ (w cs : List Int32), lNn w → w.head? ≠ some (-5) → lNn (lSet r cs w).2 ∧ (lSet r cs w).2.head? ≠ some (-5)
  | [], _, h, h2 => ⟨h, h2⟩
  | x :: w, cs, h, h2 => by
    by_cases q : rkN x < r
    · rw [show lSet r cs (x :: w) = (cs, x :: w) from if_pos q]; exact ⟨h, h2⟩
    · rw [show lSet r cs (x :: w) = lSet r (cs ++ [x]) w from if_neg q]
      exact lSet_nn hr w _ (lNn_t h) (nn_t h (by omega))
theorem lEnd_nn : ∀ (w cs : List Int32), lNn w → lNn (lEnd cs w).2 ∧ (lEnd cs w).2.head? ≠ some (-5)
  | [], _, h => ⟨h, fun r => by cases r⟩
  | x :: w, cs, h => by
    by_cases q : x = -5
    · rw [show lEnd cs (x :: w) = lEnd (cs ++ [-5]) w from if_pos q]
      exact lEnd_nn w _ (lNn_t h)
    · rw [show lEnd cs (x :: w) = (cs, x :: w) from if_neg q]
      exact ⟨h, fun r => q (Option.some.inj r)⟩
theorem lv_two (c' : Int32) : ∀ (w : List Int32) (c : Int32), lSrt w → lHd w < 2 → lvO w c' = ((mHd (lvO w c)).1, c') :: (lvO w c).tail ∧ (mHd (lvO w c)).2 = c
  | [], _, _, _ => ⟨rfl, rfl⟩
  | x :: w, c, h, h2 => by
    rcases srt_c h with e | e | ⟨e, e2⟩
    · subst e
      rw [show lvO ((-5) :: w) c = (1, c) :: lvO w 0 from if_pos rfl, show lvO ((-5) :: w) c' = (1, c') :: lvO w 0 from if_pos rfl]
      exact ⟨rfl, rfl⟩
    · subst e
      rw [show lvO ((-13) :: w) c = (2, c) :: lvO w 0 from (if_neg (by decide)).trans (if_pos rfl), show lvO ((-13) :: w) c' = (2, c') :: lvO w 0 from (if_neg (by decide)).trans (if_pos rfl)]
      exact ⟨rfl, rfl⟩
    · have h2 : rkN x < 2 := h2
      rw [lvO_j e, lvO_j e, if_neg (by omega), if_neg (by omega)]
      exact lv_two c' w c h.2 (by omega)
theorem leaf_num (v : Nat) (hv : v ≤ 9999) : ¬ nI v ≤ -5 ∧ ¬ (100 + nI v = 28 ∨ 100 + nI v = 30) ∧ (100 + nI v = 1 ∨ 100 + nI v = 2 ∨ 100 + nI v = 3 ∨ 100 + nI v = 4 ∨ 100 ≤ 100 + nI v) ∧ ∀ b y k a, leafV b y k a (nI v) = wleaf b y k a (100 + nI v) := by
  have e : (100 : Int32) + nI v = nI (100 + v) := nI_add 100 v
  have hp := nI_pos (n := v) (by omega)
  have h100 : (100 : Int32) ≤ nI (100 + v) := nI_lit_le (n := 100) (by decide) (by omega) |>.mpr (by omega)
  have hlt : ¬ nI (100 + v) < (100 : Int32) := fun q => by
    have := (nI_lt_lit (n := 100) (by decide) (by omega)).mp q
    omega
  have ne : ∀ m, m < 100 → ¬ nI (100 + v) = nI m := fun m hm q => by
    have := (nI_eq (a := 100 + v) (b := m) (by omega) (by omega)).mp q
    omega
  refine ⟨fun q => ?_, fun q => ?_, Or.inr (Or.inr (Or.inr (Or.inr (by rw [e]; exact h100)))), fun b y k a => ?_⟩
  · rw [i_le, nI_toInt (by omega)] at q
    have : (-5 : Int32).toInt = -5 := by decide
    omega
  · rw [e] at q
    exact q.elim (ne 28 (by decide)) (ne 30 (by decide))
  · unfold leafV wleaf
    rw [if_neg hp, e, if_neg hlt, ← e, Int32.add_comm, Int32.add_sub_cancel]
theorem leaf_fact (j : Nat) (hj : j < 4) : ¬ (-1 : Int32) - nI j ≤ -5 ∧ ¬ (nI (j + 1) = 28 ∨ nI (j + 1) = 30) ∧ (nI (j + 1) = 1 ∨ nI (j + 1) = 2 ∨ nI (j + 1) = 3 ∨ nI (j + 1) = 4 ∨ 100 ≤ nI (j + 1)) ∧ ∀ b y k a, leafV b y k a ((-1 : Int32) - nI j) = wleaf b y k a (nI (j + 1)) := by
  match j, hj with
  | 0, _ => exact ⟨by decide, by decide, by decide, fun _ _ _ _ => rfl⟩
  | 1, _ => exact ⟨by decide, by decide, by decide, fun _ _ _ _ => rfl⟩
  | 2, _ => exact ⟨by decide, by decide, by decide, fun _ _ _ _ => rfl⟩
  | 3, _ => exact ⟨by decide, by decide, by decide, fun _ _ _ _ => rfl⟩
theorem astep_leaf {b y k a c : Int32} {f : wfr} {g : List wfr} (h1 : ¬ (c = 28 ∨ c = 30)) (h2 : c = 1 ∨ c = 2 ∨ c = 3 ∨ c = 4 ∨ 100 ≤ c) : astep b y k a (f :: g, none) c = aPart (f :: g) (wleaf b y k a c) := by
  show (if c = 28 ∨ c = 30 then _ else if c = 1 ∨ c = 2 ∨ c = 3 ∨ c = 4 ∨ 100 ≤ c then aPart (f :: g) (wleaf b y k a c) else none) = _
  rw [if_neg h1, if_pos h2]
theorem astep_down {b y k a c : Int32} {f : wfr} {g : List wfr} (h1 : c = 28 ∨ c = 30) (h2 : g.length < 5) : astep b y k a (f :: g, none) c = some (fresh0 (if c = 30 then 1 else 0) :: f :: g, none) := by
  show (if c = 28 ∨ c = 30 then (if g.length < 5 then some (fresh0 (if c = 30 then 1 else 0) :: f :: g, none) else none) else _) = _
  rw [if_pos h1, if_pos h2]
theorem LR_part {T : List Int32} {p : Nat} {s : lst} {t : mst} (hp : p ≤ T.length) (h : LR s t) (hd : s.2.2.2 = true) : (∃ k, spPart T p s = .inl (k + 1) ∧ mPart T p t = .inl (k + 1)) ∨ ∃ s' t', spPart T p s = .inr s' ∧ mPart T p t = .inr t' ∧ LR s' t' := by
  obtain ⟨cs, w, op, due⟩ := s
  obtain ⟨ks, lv, due'⟩ := t
  obtain ⟨⟨h1, h2⟩, ⟨h3, h4, -, h6, h7, -⟩, hv⟩ := h
  dsimp only at h1 h2 h3 h4 h6 h7 hv hd
  subst hd; subst h1; subst h2
  have hlen := lvO_len w 0 h3
  rcases lPart_c hp with ⟨a, b, c, d, e⟩ | q
  · left
    refine ⟨0, ?_, ?_⟩
    · unfold spPart; rw [if_pos a]
    · unfold mPart; rw [if_pos ⟨b, c, d, e⟩]
  have hbad : ¬ lPart T p = -14 ∧ ¬ (lFact T p = 0 ∧ ¬ isW T p 22 = true ∧ ¬ isS T p 40 = true ∧ ¬ (tkA T p).1 = 3) := by
    rcases q with ⟨a, b⟩ | ⟨a, b, c⟩ | ⟨a, b, ⟨v, hv, c, d, e, g⟩ | ⟨j, hj, c, d⟩⟩
    · exact ⟨by rw [a]; decide, fun r => r.2.1 b⟩
    · exact ⟨by rw [a]; decide, fun r => r.2.2.1 c⟩
    · refine ⟨fun r => ?_, fun r => r.2.2.2 e⟩
      have := nI_pos (n := v) (by omega)
      rw [← c, r] at this
      exact this (by decide)
    · refine ⟨?_, fun r => by omega⟩
      rw [c]
      have : ∀ j, j < 4 → ¬ (-1 : Int32) - nI j = -14 := by decide +kernel
      exact this j hj
  by_cases q5 : 5 ≤ lZ w
  · left
    refine ⟨4, ?_, ?_⟩
    · unfold spPart; rw [if_neg hbad.1]; exact if_pos q5
    · unfold mPart; rw [if_neg hbad.2]; exact if_pos (by dsimp only; omega)
  right
  have em : mPart T p (ks, lvO w 0, true) = mPart2 T p (ks, lvO w 0, true) := by
    unfold mPart; rw [if_neg hbad.2]; exact if_neg (by dsimp only; omega)
  rw [em]
  have ec : spPart T p (cs, w, op, true) = if lPart T p = -5 ∨ lPart T p = -13 then .inr (cs, lPart T p :: w, op + (if lPart T p = -13 then 1 else 0), true) else .inr ((lEnd (cs ++ [lPart T p]) w).1, (lEnd (cs ++ [lPart T p]) w).2, op, false) := by
    unfold spPart; rw [if_neg hbad.1]; exact if_neg q5
  rw [ec]
  have hfs : ∀ (st : List Int32) (fs : List wfr), RF w st fs → ∃ f g, fs = f :: g ∧ g.length < 5 ∧ st.length < 64 := fun st fs r => by
    obtain ⟨l1, l2⟩ := RF_len w st fs h3 r
    have := lSrt_len w h3
    have := lHd_le w
    cases fs with
    | nil => rw [List.length_nil] at l1; omega
    | cons f g => rw [List.length_cons] at l1; exact ⟨f, g, rfl, by omega, by omega⟩
  rcases q with ⟨a, b⟩ | ⟨a, b, c⟩ | ⟨a, b, q⟩
  · refine ⟨(cs, (-5) :: w, op, true), (ks ++ [30], (1, 0) :: lvO w 0, true), ?_, ?_, ⟨rfl, (if_pos rfl : lvO ((-5) :: w) 0 = _).symm⟩, ⟨⟨Or.inl rfl, h3⟩, nn_cons h4 (Or.inl rfl), fun r => (by cases r), ?_, ?_, fun r => by cases r⟩, fun b y k a => ?_⟩
    · rw [a, if_pos (Or.inl rfl), if_neg (show ¬ (-5 : Int32) = -13 by decide), Nat.add_zero]
    · unfold mPart2; rw [if_pos b]
    · show op = lOp ((-5) :: w)
      rw [lOp_cons, if_neg (by decide)]; exact h6
    · show lZ ((-5) :: w) ≤ 5
      rw [lZ_cons, if_pos (by decide)]; omega
    · obtain ⟨st, fs, r, r1, -⟩ := hv b y k a
      obtain ⟨z1, z2⟩ := r1 rfl
      obtain ⟨f, g, rfl, hg, -⟩ := hfs st fs r
      refine ⟨st, fresh0 1 :: f :: g, RF_5.mpr ⟨_, rfl, r⟩, fun _ => ⟨z1, ?_⟩, fun r => by cases r⟩
      show aev b y k a (ks ++ [30]) ast0 = _
      rw [aev_app, z2]
      exact astep_down (c := 30) (Or.inr rfl) hg
  · refine ⟨(cs, (-13) :: w, op + 1, true), (ks ++ [28], (2, 0) :: lvO w 0, true), ?_, ?_, ⟨rfl, ((if_neg (by decide)).trans (if_pos rfl) : lvO ((-13) :: w) 0 = _).symm⟩, ⟨⟨Or.inr (Or.inl rfl), h3⟩, nn_cons h4 (Or.inr (Or.inl rfl)), fun r => (by cases r), ?_, ?_, fun r => by cases r⟩, fun b y k a => ?_⟩
    · rw [a, if_pos (Or.inr rfl), if_pos rfl]
    · unfold mPart2; rw [if_neg b, if_pos c]
    · show op + 1 = lOp ((-13) :: w)
      rw [lOp_cons, if_pos rfl, h6]
    · show lZ ((-13) :: w) ≤ 5
      rw [lZ_cons, if_pos (by decide)]; omega
    · obtain ⟨st, fs, r, r1, -⟩ := hv b y k a
      obtain ⟨z1, z2⟩ := r1 rfl
      obtain ⟨f, g, rfl, hg, -⟩ := hfs st fs r
      refine ⟨st, fresh0 0 :: f :: g, RF_13.mpr ⟨_, rfl, r⟩, fun _ => ⟨z1, ?_⟩, fun r => by cases r⟩
      show aev b y k a (ks ++ [28]) ast0 = _
      rw [aev_app, z2]
      exact (astep_down (c := 28) (Or.inl rfl) hg).trans (by rw [if_neg (by decide)])
  · -- a leaf
    have key : ∀ c kc : Int32, lPart T p = c → (if lFact T p = 0 then 100 + (tkA T p).2.2 else nI (lFact T p)) = kc → (¬ c ≤ -5 ∧ ¬ (kc = 28 ∨ kc = 30) ∧ (kc = 1 ∨ kc = 2 ∨ kc = 3 ∨ kc = 4 ∨ 100 ≤ kc) ∧ ∀ b y k a, leafV b y k a c = wleaf b y k a kc) → ∃ s' t', (if lPart T p = -5 ∨ lPart T p = -13 then (.inr (cs, lPart T p :: w, op + (if lPart T p = -13 then 1 else 0), true) : Nat ⊕ lst) else .inr ((lEnd (cs ++ [lPart T p]) w).1, (lEnd (cs ++ [lPart T p]) w).2, op, false)) = .inr s' ∧ mPart2 T p (ks, lvO w 0, true) = .inr t' ∧ LR s' t' := by
      intro c kc ec ek hl
      obtain ⟨l1, l2, l3, l4⟩ := hl
      have hc : ¬ (c = -5 ∨ c = -13) := fun r => l1 (by rcases r with e | e <;> (rw [e]; decide))
      rw [ec, if_neg hc]
      obtain ⟨c1, c2, c3, c4⟩ := lEnd_c w (cs ++ [c]) h3
      obtain ⟨n1, n2⟩ := lEnd_nn w (cs ++ [c]) h4
      refine ⟨((lEnd (cs ++ [c]) w).1, (lEnd (cs ++ [c]) w).2, op, false), (ks ++ [kc], lPop (lvO w 0), false), rfl, ?_, ⟨rfl, ?_⟩, ⟨c1, n1, fun _ => n2, h6.trans c3.symm, Nat.le_trans c2 h7, fun _ r => ?_⟩, fun b y k a => ?_⟩
      · unfold mPart2; rw [if_neg a, if_neg b, ek]
      · have := lvO_end w (cs ++ [c]) 0 h4 (Or.inr trivial)
        rw [ite_self] at this
        exact this.symm
      · have := congrArg List.length r
        rw [List.length_append] at this
        exact absurd this (by simp)
      · obtain ⟨st, fs, r, r1, -⟩ := hv b y k a
        obtain ⟨z1, z2⟩ := r1 rfl
        obtain ⟨f, g, rfl, hg, hst⟩ := hfs st fs r
        have hpv : pev b y k a (cs ++ [c]) = leafV b y k a c :: st := by
          rw [pev_app, z1]
          exact if_pos ⟨l1, hst⟩
        obtain ⟨fs', v', e1, e2, e3⟩ := RF_end w (cs ++ [c]) st (f :: g) _ h3 h4 r hpv
        refine ⟨st, fs', e2, fun r => (by cases r), fun _ => ⟨v', e3, ?_⟩⟩
        show aev b y k a (ks ++ [kc]) ast0 = _
        rw [aev_app, z2]
        show astep b y k a (f :: g, none) kc = _
        rw [astep_leaf l2 l3, ← l4, e1]
    rcases q with ⟨v, hv', c, d, e, g⟩ | ⟨j, hj, c, d⟩
    · exact key (nI v) (100 + nI v) c (by rw [if_pos d, g]) (leaf_num v hv')
    · exact key _ (nI (j + 1)) c (by rw [if_neg (by omega), d]) (leaf_fact j hj)
