/-! the reference's law: what is put, facts, what ends with a part -/
def CoM (ks : List Int32) (M : mm) : Prop := M.1 13 0 28 = nI (1000 + ks.length) ∧ ∀ i c, ks[i]? = some c → M.1 81 0 (1000 + i) = c
def PPu : Nat → Nat → Nat → Prop := fun k n i => n = 0 ∧ ((k = 81 ∧ 1000 ≤ i) ∨ (k = 13 ∧ i = 28))
theorem puts_ok {F : Nat} {ks : List Int32} {M : mm} {a : Int32} (h : CoM ks M) (hl : ks.length < 1000) : ok (m_X12_puts F a M) (fun M' => CoM (ks ++ [a]) M' ∧ fi PPu M M') := by
  obtain ⟨h1, h2⟩ := h
  unfold m_X12_puts
  rw [h1, ok_gi, ok_nm, ok_nm, ok_some, nI_clamp (by omega)]
  have f : fi PPu M (sI (sI M 81 0 (1000 + ks.length) a) 13 0 28 ((sI M 81 0 (1000 + ks.length) a).1 13 0 28 + 1)) := fi_sI (fi_sI fi_rf ⟨rfl, Or.inl ⟨rfl, Nat.le_add_right _ _⟩⟩) ⟨rfl, Or.inr ⟨rfl, rfl⟩⟩
  refine ⟨vp_in_nI (by omega) (by decide), ⟨?_, fun i c hi => ?_⟩, f⟩
  · rw [rII, if_pos ⟨rfl, rfl, rfl⟩, rII, if_neg (by omega), h1, nI_1, List.length_append, List.length_singleton]; rfl
  · rw [rII, if_neg (by omega), rII]
    rcases get_snoc.mp hi with q | ⟨q, q2⟩
    · have := (List.getElem?_eq_some_iff.mp q).1
      rw [if_neg (by omega)]; exact h2 i c q
    · subst q; subst q2
      rw [if_pos ⟨rfl, rfl, rfl⟩]
def lFact (T : List Int32) (p : Nat) : Nat := if (tkA T p).1 = 2 then (if wdA T p = KW.getD 25 [] then 1 else if wdA T p = KW.getD 26 [] then 2 else if wdA T p = KW.getD 27 [] then 3 else if wdA T p = KW.getD 28 [] then 4 else 0) else 0
theorem fact_ok {F : Nat} {T : List Int32} {p : Nat} {M : mm} (h : AtM T p M) : ok (m_X12_fact F M) (fun r => r = (nI (lFact T p), M)) := by
  obtain ⟨hp, hT, h4, h5, h6, h7, h8, h9⟩ := h
  have e2 : nI (kmap (tkA T p).1) = (1 : Int32) ↔ (tkA T p).1 = 2 := km_eq T p (k := 2) (j := 1) (by decide) rfl
  unfold m_X12_fact lFact
  rw [h6, ok_ite, e2]
  refine ⟨fun q => ?_, fun q => ok_some.mpr (by rw [if_neg q]; rfl)⟩
  have hw := (tk_word hp q).1
  rw [h7 q, if_pos q, ok_ite, kq hw (i := 25) (by decide) kc25]
  refine ⟨fun r => ok_some.mpr (by rw [if_pos (show wdA T p = _ from r)]; rfl), fun r1 => ?_⟩
  rw [if_neg (show ¬ wdA T p = _ from r1), ok_ite, kq hw (i := 26) (by decide) kc26]
  refine ⟨fun r => ok_some.mpr (by rw [if_pos (show wdA T p = _ from r)]; rfl), fun r1 => ?_⟩
  rw [if_neg (show ¬ wdA T p = _ from r1), ok_ite, kq hw (i := 27) (by decide) kc27]
  refine ⟨fun r => ok_some.mpr (by rw [if_pos (show wdA T p = _ from r)]; rfl), fun r1 => ?_⟩
  rw [if_neg (show ¬ wdA T p = _ from r1), ok_ite, kq hw (i := 28) (by decide) kc28]
  refine ⟨fun r => ok_some.mpr (by rw [if_pos (show wdA T p = _ from r)]; rfl), fun r1 => ok_some.mpr (by rw [if_neg (show ¬ wdA T p = _ from r1)]; rfl)⟩
/-- levels, the deepest first: 1 a not, 2 a bracket, 0 the ground; whether it compares -/
def LvR : List (Int32 × Int32) → mm → Prop
  | [], _ => True
  | e :: w, M => (e.1 ≠ 0 → M.1 82 0 w.length = e.1) ∧ M.1 83 0 w.length = e.2 ∧ LvR w M
def lPop : List (Int32 × Int32) → List (Int32 × Int32)
  | [] => []
  | e :: w => if e.1 = 1 then lPop w else e :: w
/-- the ground is the last, all above are nots and brackets -/
def LvK : List (Int32 × Int32) → Prop
  | [] => False
  | [e] => e.1 = 0
  | e :: d :: w => (e.1 = 1 ∨ e.1 = 2) ∧ LvK (d :: w)
theorem LvR_fi {w : List (Int32 × Int32)} {M M' : mm} {P : Nat → Nat → Nat → Prop} (h : LvR w M) (f : fi P M M') (hP : ∀ k i, i < w.length → P k 0 i → k ≠ 82 ∧ k ≠ 83) : LvR w M' := by
  induction w with
  | nil => trivial
  | cons e w ih =>
    refine ⟨fun q => ?_, ?_, ih h.2.2 (fun k i hi => hP k i (by rw [List.length_cons]; omega))⟩
    · exact (fi_I f (fun r => (hP 82 _ (by rw [List.length_cons]; omega) r).1 rfl)).trans (h.1 q)
    · exact (fi_I f (fun r => (hP 83 _ (by rw [List.length_cons]; omega) r).2 rfl)).trans h.2.1
theorem lPop_c : ∀ w : List (Int32 × Int32), LvK w → LvK (lPop w) ∧ (lPop w).length ≤ w.length
  | [], h => h.elim
  | [e], h => by
    have q : ¬ e.1 = 1 := by rw [show e.1 = 0 from h]; decide
    have e : lPop [e] = [e] := if_neg q
    rw [e]; exact ⟨h, Nat.le_refl _⟩
  | e :: d :: w, h => by
    by_cases q : e.1 = 1
    · have e2 : lPop (e :: d :: w) = lPop (d :: w) := if_pos q
      rw [e2]
      have := lPop_c (d :: w) h.2
      exact ⟨this.1, Nat.le_trans this.2 (Nat.le_succ _)⟩
    · have e2 : lPop (e :: d :: w) = e :: d :: w := if_neg q
      rw [e2]; exact ⟨h, Nat.le_refl _⟩
theorem pop3_ok {F : Nat} (hF : 2000 < F) {w : List (Int32 × Int32)} {M : mm} (h : LvR w M) (hk : LvK w) (hl : w.length ≤ 6) : ok (lp (b_X12_reads_3 F M) F (nI (w.length - 1))) (fun x => x = nI ((lPop w).length - 1)) := by
  refine ok_lp (fun n x => ∃ w', n = w'.length ∧ x = nI (w'.length - 1) ∧ lPop w = lPop w' ∧ LvR w' M ∧ LvK w' ∧ w'.length ≤ 6) ?_ F w.length _ (by omega) ⟨w, rfl, rfl, rfl, h, hk, hl⟩
  rintro n x ⟨w', rfl, rfl, e, h1, hk1, hl1⟩
  simp only [b_X12_reads_3, b_X12_reads_3c]
  have e0 : nI (w'.length - 1) ≤ (0 : Int32) ↔ w'.length - 1 ≤ 0 := (nI_leI (by omega) (by omega) : nI _ ≤ nI 0 ↔ _)
  rw [ok_ite, e0]
  match w', hk1, h1 with
  | [], hk1, _ => exact hk1.elim
  | [a], hk1, h1 =>
    refine ⟨fun _ => ok_some.mpr ?_, fun q => absurd (Nat.le_refl _) q⟩
    have q : ¬ a.1 = 1 := by rw [show a.1 = 0 from hk1]; decide
    have e2 : lPop [a] = [a] := if_neg q
    show nI _ = nI ((lPop w).length - 1)
    rw [e, e2]
  | a :: d :: v, hk1, h1 =>
    rw [List.length_cons, List.length_cons] at hl1 ⊢
    refine ⟨fun q => by omega, fun _ => ?_⟩
    have h82 := h1.1 (fun r => by rcases hk1.1 with q | q <;> (rw [q] at r; exact absurd r (by decide)))
    rw [List.length_cons] at h82
    rw [Nat.add_sub_cancel, ok_gi, ok_ite, nI_clamp (by omega), h82]
    refine ⟨vp_in_nI (by omega) (by decide), fun q => ok_some.mpr ?_, fun q => ok_some.mpr ?_⟩
    · have e2 : lPop (a :: d :: v) = lPop (d :: v) := if_pos q
      refine ⟨v.length + 1, Nat.lt_succ_self _, d :: v, (List.length_cons ..).symm, ?_, e.trans e2, h1.2.2, hk1.2, by rw [List.length_cons]; omega⟩
      rw [List.length_cons, Nat.add_sub_cancel]; exact (Int32.sub_eq_add_neg _ _).symm.trans (nI_m1 _)
    · have e2 : lPop (a :: d :: v) = a :: d :: v := if_neg q
      show nI _ = nI ((lPop w).length - 1)
      rw [e, e2, List.length_cons, List.length_cons, Nat.add_sub_cancel]
theorem pop2_ok {F : Nat} (hF : 2000 < F) {w : List (Int32 × Int32)} {M : mm} (h : LvR w M) (hk : LvK w) (hl : w.length ≤ 6) : ok (lp (b_X12_reads_2 F M) F (nI (w.length - 1))) (fun x => x = nI ((lPop w).length - 1)) := pop3_ok hF h hk hl
