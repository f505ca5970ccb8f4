/-! the class's law: a step -/
abbrev lst : Type := List Int32 × List Int32 × Nat × Bool
/-- a part: a fault, or what is then told -/
def spPart (T : List Int32) (p : Nat) (s : lst) : Nat ⊕ lst :=
  if lPart T p = -14 then .inl 1
  else if 5 ≤ lZ s.2.1 then .inl 5
  else if lPart T p = -5 ∨ lPart T p = -13 then .inr (s.1, lPart T p :: s.2.1, s.2.2.1 + (if lPart T p = -13 then 1 else 0), true)
  else .inr ((lEnd (s.1 ++ [lPart T p]) s.2.1).1, (lEnd (s.1 ++ [lPart T p]) s.2.1).2, s.2.2.1, false)
def spJnt (T : List Int32) (p : Nat) (s : lst) : Nat ⊕ lst :=
  if isS T p 41 = true then (if s.2.2.1 = 0 then .inl 1 else
    .inr ((lEnd (lSet 1 s.1 s.2.1).1 (lSet 1 s.1 s.2.1).2.tail).1, (lEnd (lSet 1 s.1 s.2.1).1 (lSet 1 s.1 s.2.1).2.tail).2, s.2.2.1 - 1, false))
  else if lJnt T p = -14 then .inl 1
  else if rkN (lJnt T p) = 2 then (if ((lSet 3 s.1 s.2.1).2.head?.map rkN) = some 2 then .inl 1 else .inr ((lSet 3 s.1 s.2.1).1, lJnt T p :: (lSet 3 s.1 s.2.1).2, s.2.2.1, true))
  else .inr ((lSet (rkN (lJnt T p)) s.1 s.2.1).1, lJnt T p :: (lSet (rkN (lJnt T p)) s.1 s.2.1).2, s.2.2.1, true)
def lStep (T : List Int32) (p : Nat) (s : lst) : Nat ⊕ lst := if s.2.2.2 = true then spPart T p s else spJnt T p s
/-- what waits is in order -/
def lSrt : List Int32 → Prop
  | [] => True
  | c :: w => (c = -5 ∨ c = -13 ∨ (1 ≤ rkN c ∧ match w with | [] => True | d :: _ => rkN d < rkN c)) ∧ lSrt w
def lHd : List Int32 → Nat
  | [] => 0
  | c :: _ => rkN c
def lOp (w : List Int32) : Nat := (w.filter (fun c => c == -13)).length
theorem lOp_cons (c : Int32) (w : List Int32) : lOp (c :: w) = lOp w + (if c = -13 then 1 else 0) := by
  unfold lOp
  rw [List.filter_cons]
  by_cases q : c = -13
  · rw [if_pos (by rw [q]; rfl), if_pos q, List.length_cons]
  · rw [if_neg (by rw [beq_iff_eq]; exact q), if_neg q]; rfl
theorem lOp_le : ∀ w : List Int32, lOp w ≤ lZ w
  | [] => Nat.le_refl _
  | c :: w => by
    have := lOp_le w
    rw [lOp_cons, lZ_cons]
    by_cases q : c = -13
    · rw [if_pos q, if_pos (by rw [q]; rfl)]; omega
    · rw [if_neg q]; omega
theorem lSrt_len : ∀ w : List Int32, lSrt w → w.length ≤ 5 * lZ w + lHd w
  | [], _ => Nat.zero_le _
  | c :: w, h => by
    have ih := lSrt_len w h.2
    rw [List.length_cons, lZ_cons]
    have hh : lHd (c :: w) = rkN c := rfl
    rw [hh]
    have h4 : lHd w ≤ 4 := by cases w with
      | nil => exact Nat.zero_le _
      | cons d w => exact rkN_le d
    rcases h.1 with q | q | ⟨q, q2⟩
    · rw [if_pos (by rw [q]; rfl)]; omega
    · rw [if_pos (by rw [q]; rfl)]; omega
    · rw [if_neg (by omega)]
      cases w with
      | nil => rw [List.length_nil] at ih ⊢; omega
      | cons d w =>
        have e : lHd (d :: w) = rkN d := rfl
        rw [e] at ih
        have q2 : rkN d < rkN c := q2
        omega
/-- what settling leaves -/
theorem lSet_c (r : Nat) (hr : 1 ≤ r) : ∀ (w cs : List Int32), lSrt w → lSrt (lSet r cs w).2 ∧ lZ (lSet r cs w).2 = lZ w ∧ lOp (lSet r cs w).2 = lOp w ∧ lHd (lSet r cs w).2 < r ∧ (lSet r cs w).1.length + (lSet r cs w).2.length = cs.length + w.length ∧ cs.length ≤ (lSet r cs w).1.length
  | [], cs, h => ⟨h, rfl, rfl, hr, rfl, Nat.le_refl _⟩
  | c :: w, cs, h => by
    have e : lSet r cs (c :: w) = if rkN c < r then (cs, c :: w) else lSet r (cs ++ [c]) w := rfl
    rw [e]
    by_cases q : rkN c < r
    · rw [if_pos q]; exact ⟨h, rfl, rfl, q, rfl, Nat.le_refl _⟩
    · rw [if_neg q]
      obtain ⟨a, b, c', d, f, g⟩ := lSet_c r hr w (cs ++ [c]) h.2
      have n0 : ¬ rkN c = 0 := by omega
      have n13 : ¬ c = -13 := fun e => n0 (by rw [e]; rfl)
      rw [List.length_append, List.length_singleton] at f g
      exact ⟨a, by rw [b, lZ_cons, if_neg n0, Nat.add_zero], by rw [c', lOp_cons, if_neg n13, Nat.add_zero], d, by rw [f, List.length_cons]; omega, by omega⟩
theorem lEnd_c : ∀ (w cs : List Int32), lSrt w → lSrt (lEnd cs w).2 ∧ lZ (lEnd cs w).2 ≤ lZ w ∧ lOp (lEnd cs w).2 = lOp w ∧ (lEnd cs w).1.length + (lEnd cs w).2.length = cs.length + w.length
  | [], cs, h => ⟨h, Nat.le_refl _, rfl, rfl⟩
  | c :: w, cs, h => by
    have e : lEnd cs (c :: w) = if c = -5 then lEnd (cs ++ [-5]) w else (cs, c :: w) := rfl
    rw [e]
    by_cases q : c = -5
    · rw [if_pos q]
      obtain ⟨a, b, c', d⟩ := lEnd_c w (cs ++ [-5]) h.2
      rw [List.length_append, List.length_singleton] at d
      exact ⟨a, by rw [lZ_cons]; omega, by rw [c', lOp_cons, if_neg (by rw [q]; decide), Nat.add_zero], by rw [d, List.length_cons]; omega⟩
    · rw [if_neg q]; exact ⟨h, Nat.le_refl _, rfl, rfl⟩
/-- the state on the heap -/
def bN (b : Bool) : Int32 := if b = true then 1 else 0
def LsC (l : Nat) (s : lst) (M : mm) : Prop := LrC l s.1 s.2.1 M ∧ M.1 4 0 3 = nI (lZ s.2.1) ∧ M.1 4 0 4 = nI s.2.2.1 ∧ M.1 4 0 5 = bN s.2.2.2
def LsK (s : lst) : Prop := lSrt s.2.1 ∧ lZ s.2.1 ≤ 5 ∧ s.2.2.1 ≤ lOp s.2.1 ∧ (s.2.2.2 = true → True)
def QL (T : List Int32) (p l n : Nat) (M : mm) (x : Nat ⊕ lst) (r : Int32 × mm) : Prop := fi (PLw l) M r.2 ∧ match x with
  | .inl k => r.1 = nI k ∧ 1 ≤ k ∧ k ≤ 5 ∧ AtC T p r.2
  | .inr s => r.1 = 0 ∧ LsC l s r.2 ∧ LsK s ∧ s.1.length + s.2.1.length ≤ n + 1 ∧ AtC T p r.2
theorem AtC_L {T : List Int32} {p l : Nat} {M M' : mm} (h : AtC T p M) (f : fi (PLw l) M M') : AtC T p M' := AtC_6 h f (fun k n i q => by unfold PLw at q; omega)
theorem isS_k {T : List Int32} {p : Nat} {c : Int32} (h : isS T p c = true) : (tkA T p).1 ≠ 0 := fun e => by
  unfold isS at h
  rw [decide_eq_true_iff, e] at h
  exact absurd h.1 (by decide)
theorem isW_k {T : List Int32} {p i : Nat} (h : isW T p i = true) : (tkA T p).1 ≠ 0 := fun e => by
  unfold isW at h
  rw [decide_eq_true_iff, e] at h
  exact absurd h.1 (by decide)
theorem lPart_k {T : List Int32} {p : Nat} (h : ¬ lPart T p = -14) : (tkA T p).1 ≠ 0 := fun e => h (by
  unfold lPart
  rw [if_neg (by rw [e]; decide), if_neg (fun q => isS_k q e), if_neg (fun q => isW_k q e), if_neg (fun q => by rw [e] at q; exact absurd q.1 (by decide))])
theorem lJnt_k {T : List Int32} {p : Nat} (h : ¬ lJnt T p = -14) : (tkA T p).1 ≠ 0 := fun e => h (by
  unfold lJnt
  rw [if_neg (fun q => isW_k q e), if_neg (fun q => isW_k q e), if_neg (by rw [e]; decide)])
theorem lpart_step {F l : Nat} (hF : 2000 < F) {T : List Int32} {p n : Nat} {s : lst} {M : mm} (h : AtC T p M) (hs : LsC l s M) (hk : LsK s) (hn : s.1.length + s.2.1.length ≤ n) (hn3 : n ≤ 1000) (hn2 : (tkA T p).1 ≠ 0 → n < 1000) (hd : s.2.2.2 = true) : ok (m_X3_readPart F M) (QL T p l n M (spPart T p s)) := by
  obtain ⟨cs, w, op, due⟩ := s
  obtain ⟨⟨h1, h2, h3, h4⟩, h5, h6, h7⟩ := hs
  obtain ⟨k1, k2, k3, -⟩ := hk
  have hL : LrC l cs w M := ⟨h1, h2, h3, h4⟩
  dsimp only at h1 h2 h3 h5 h6 h7 k1 k2 k3 hn hd
  subst hd
  have len := lSrt_len w k1
  have h4' : lHd w ≤ 4 := by cases w with
    | nil => exact Nat.zero_le _
    | cons d w => exact rkN_le d
  have opl := lOp_le w
  unfold m_X3_readPart spPart
  rw [ok_cl]
  refine ok_mono (lpart_ok h) (fun r hr => ?_)
  subst hr
  dsimp only
  rw [ok_ite]
  refine ⟨fun q => ok_some.mpr ?_, fun q => ?_⟩
  · rw [if_pos q]; exact ⟨fi_rf, rfl, by decide, by decide, h⟩
  have hn2 := hn2 (lPart_k q)
  have e5 : nI (lZ w) < (5 : Int32) ↔ lZ w < 5 := (nI_ltI (by omega) (by omega) : nI (lZ w) < nI 5 ↔ _)
  rw [if_neg q, h5, ok_ite, e5]
  refine ⟨fun q2 => ?_, fun q2 => ok_some.mpr ?_⟩
  · rw [if_neg (show ¬ 5 ≤ lZ w by omega), ok_nm]
    have push : (lPart T p = -5 ∨ lPart T p = -13) → ok (cv (m_X3_push F (lPart T p) M) fun M5 => nm (sI M5 4 0 3 ((M5.1 4 0 3) + (1 : Int32))) fun M6 => bd (if lPart T p = (-13 : Int32) then some (1 : Int32) else some (0 : Int32)) (fun x7 => nm (sI M6 4 0 4 ((M6.1 4 0 4) + x7)) fun M8 => some ((0 : Int32), M8))) (QL T p l n M (.inr (cs, lPart T p :: w, op + (if lPart T p = -13 then 1 else 0), true))) := fun hc => by
      rw [ok_cv]
      refine ok_mono (lpush_ok hL (by omega)) (fun M5 g5 => ?_)
      obtain ⟨l5, f5⟩ := g5
      have v3 : M5.1 4 0 3 = nI (lZ w) := (fi_I f5 (by omega)).trans h5
      have v4 : M5.1 4 0 4 = nI op := (fi_I f5 (by omega)).trans h6
      have v5 : M5.1 4 0 5 = bN true := (fi_I f5 (by omega)).trans h7
      rw [v3, nI_1, ok_nm, ok_bd]
      have e1 : ok (if lPart T p = (-13 : Int32) then some (1 : Int32) else some (0 : Int32)) (fun x => x = nI (if lPart T p = -13 then 1 else 0)) := by
        by_cases e : lPart T p = -13
        · rw [if_pos e, if_pos e]; exact ok_some.mpr rfl
        · rw [if_neg e, if_neg e]; exact ok_some.mpr rfl
      refine ok_mono e1 (fun x hx => ?_)
      subst hx
      have g6 : (sI M5 4 0 3 (nI (lZ w + 1))).1 4 0 4 = nI op := by rw [rII, if_neg (by omega)]; exact v4
      rw [ok_nm, g6, nI_add, ok_some]
      generalize hy : (if lPart T p = -13 then 1 else 0) = y
      have f8 : fi (fun k n i => k = 4 ∧ n = 0 ∧ (i = 3 ∨ i = 4)) M5 (sI (sI M5 4 0 3 (nI (lZ w + 1))) 4 0 4 (nI (op + y))) := fi_sI (fi_sI fi_rf ⟨rfl, rfl, Or.inl rfl⟩) ⟨rfl, rfl, Or.inr rfl⟩
      have u3 : (sI (sI M5 4 0 3 (nI (lZ w + 1))) 4 0 4 (nI (op + y))).1 4 0 3 = nI (lZ w + 1) := by rw [rII, if_neg (by omega), rII, if_pos ⟨rfl, rfl, rfl⟩]
      have u4 : (sI (sI M5 4 0 3 (nI (lZ w + 1))) 4 0 4 (nI (op + y))).1 4 0 4 = nI (op + y) := by rw [rII, if_pos ⟨rfl, rfl, rfl⟩]
      have u6 : (sI (sI M5 4 0 3 (nI (lZ w + 1))) 4 0 4 (nI (op + y))).2.2 4 0 6 = l := by simp only [rIR]; exact l5.2.2.2
      generalize sI (sI M5 4 0 3 (nI (lZ w + 1))) 4 0 4 (nI (op + y)) = M8 at f8 u3 u4 u6 ⊢
      have fr : fi (PLw l) M M8 := fi_tr (fi_mono f5 (fun k n i q => by unfold PLw; omega)) (fi_mono f8 (fun k n i q => by unfold PLw; omega))
      have r0 : rkN (lPart T p) = 0 := hc.elim (fun e => by rw [e]; rfl) (fun e => by rw [e]; rfl)
      have z1 : lZ (lPart T p :: w) = lZ w + 1 := by rw [lZ_cons, if_pos r0]
      refine ⟨fr, rfl, ⟨⟨LwC_fi l5.1 f8 (fun k i q => by omega), StC_fi l5.2.1 f8 (fun i _ => by omega), (fi_I f8 (by omega)).trans l5.2.2.1, u6⟩, by rw [z1]; exact u3, u4, (fi_I f8 (by omega)).trans v5⟩, ⟨⟨hc.elim Or.inl (fun e => Or.inr (Or.inl e)), k1⟩, by rw [z1]; omega, ?_, fun _ => trivial⟩, ?_, AtC_L h fr⟩
      · show op + y ≤ lOp (lPart T p :: w)
        rw [lOp_cons, hy]; omega
      · show cs.length + (lPart T p :: w).length ≤ n + 1
        rw [List.length_cons]; omega
    rw [ok_ite]
    refine ⟨fun q3 => ?_, fun q3 => ?_⟩
    · rw [if_pos (Or.inl q3)]; exact push (Or.inl q3)
    rw [ok_ite]
    refine ⟨fun q4 => ?_, fun q4 => ?_⟩
    · rw [if_pos (Or.inr q4)]; exact push (Or.inr q4)
    rw [if_neg (fun r => r.elim q3 q4), h4, ok_cv]
    refine ok_mono (ladd_ok (a := lPart T p) h1 (by omega)) (fun M3 g3 => ?_)
    obtain ⟨l3, f3⟩ := g3
    rw [ok_cv]
    refine ok_mono (lend_ok (cs := cs ++ [lPart T p]) (w := w) hF ⟨l3, StC_fi h2 f3 (fun i _ => by unfold PAd; omega), (fi_I f3 (by unfold PAd; omega)).trans h3, (by rw [f3.1]; exact h4)⟩ ((fi_I f3 (by unfold PAd; omega)).trans h5) (by omega) (by rw [List.length_append, List.length_singleton]; omega)) (fun M4 g4 => ok_some.mpr ?_)
    obtain ⟨m1, m2, m3, f4⟩ := g4
    obtain ⟨c1, c2, c3, c4⟩ := lEnd_c w (cs ++ [lPart T p]) k1
    rw [List.length_append, List.length_singleton] at c4
    have fr : fi (PLw l) M M4 := fi_tr (fi_mono f3 PAd_L) (fi_mono f4 (fun k n i q => by unfold PAd at q; unfold PLw; omega))
    exact ⟨fr, rfl, ⟨m1, m2, ((fi_I f4 (by unfold PAd; omega)).trans (fi_I f3 (by unfold PAd; omega))).trans h6, m3⟩, ⟨c1, (show lZ (lEnd (cs ++ [lPart T p]) w).2 ≤ 5 by omega), (show op ≤ lOp (lEnd (cs ++ [lPart T p]) w).2 by omega), fun _ => trivial⟩, by dsimp only; omega, AtC_L h fr⟩
  · rw [if_pos (show 5 ≤ lZ w by omega)]; exact ⟨fi_rf, rfl, by decide, by decide, h⟩
