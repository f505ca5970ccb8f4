/-! the draft in the class's memory -/
def DCc (o : Nat) (D : dft) (M : mm) : Prop :=
  M.2.2 6 0 2 = o ∧ (M.1 1 o 0 = nI (dP D).length ∧ M.1 1 o 5 = nI (dO D).length ∧ M.1 1 o 13 = nI (dS D).length) ∧
  (NmC 20 o (dPn D) M ∧ NmC 24 o (dOn D) M ∧ NmC 30 o (dSn D) M) ∧
  (∀ i e, (dP D)[i]? = some e → M.1 21 o i = e.2.1 ∧ M.1 22 o i = e.2.2) ∧
  (∀ i, i < 6 → ∀ x, x < 32 → (bt (M.1 23 o i) x = true ↔ ∃ e, (dO D)[x]? = some e ∧ e.2.2.1 = i)) ∧
  (∀ i e, (dO D)[i]? = some e → M.1 25 o i = nI e.2.1 ∧ M.1 26 o i = nI e.2.2.1 ∧ M.1 27 o i = e.2.2.2 ∧ M.1 28 o i = dL D i ∧ M.1 29 o i = dK D i) ∧
  (∀ x, x < 32 → (bt (M.1 1 o 12) x = true ↔ ∃ e, (dO D)[x]? = some e ∧ e.2.1 = 2)) ∧
  (∀ i e, (dS D)[i]? = some e → M.1 31 o i = e.2.1 ∧ M.1 32 o i = e.2.2.1 ∧ M.1 33 o i = e.2.2.2.1 ∧ M.1 34 o i = e.2.2.2.2) ∧
  (M.1 3 o 0 = (dM D).getD 5 ∧ M.1 3 o 1 = if (dM D).isSome = true then 1 else 0) ∧
  (M.1 3 o 2 = (if (dW D).isSome = true then 1 else 0) ∧ CodeM o M (((dW D).map (fun e => e.1)).getD []) ∧ ∀ i, i < 20 → M.1 38 o i = -1)
/-- what a draft keeps to -/
def DOK (D : dft) : Prop :=
  ((dP D).length ≤ 6 ∧ (dO D).length ≤ 10 ∧ (dS D).length ≤ 10) ∧
  (∀ e, e ∈ dP D → (0 ≤ e.2.1 ∧ e.2.1 ≤ 10) ∧ (0 ≤ e.2.2 ∧ e.2.2 ≤ 99)) ∧
  (∀ e, e ∈ dO D → e.2.1 < 4 ∧ e.2.2.1 < (dP D).length ∧ (1 ≤ e.2.2.2 ∧ e.2.2.2 ≤ 99)) ∧
  (∀ x, x < (dO D).length → (dL D x = -1 ∨ ∃ y, y < (dO D).length ∧ dL D x = nI y) ∧ ∀ y, y < 32 → bt (dK D x) y = true → y < (dO D).length) ∧
  (∀ i e, (dS D)[i]? = some e → (0 ≤ e.2.1 ∧ e.2.1 ≤ 99) ∧ (0 ≤ e.2.2.1 ∧ e.2.2.1 ≤ 99) ∧ (∀ x, x < 32 → bt e.2.2.2.1 x = true → x < (dO D).length) ∧ ∀ x, x < 32 → bt e.2.2.2.2 x = true → x < i) ∧
  (∀ w, w ∈ dOn D → w ∉ dSn D) ∧ (∀ m, dM D = some m → 0 ≤ m ∧ m ≤ 10)
def DCK (o : Nat) (D : dft) (M : mm) : Prop := DCc o D M ∧ DOK D
theorem len_n (D : dft) : (dPn D).length = (dP D).length ∧ (dOn D).length = (dO D).length ∧ (dSn D).length = (dS D).length := ⟨List.length_map .., List.length_map .., List.length_map ..⟩
/-- cells on which no draft rests -/
theorem DCc_fi {o : Nat} {D : dft} {M M' : mm} {P : Nat → Nat → Nat → Prop} (h : DCc o D M) (f : fi P M M') (hP : ∀ k i, P k o i → ¬ (k = 1 ∨ k = 3 ∨ k = 23 ∨ k = 35 ∨ k = 38) ∧ ((20 ≤ k ∧ k ≤ 22) → (dP D).length ≤ i) ∧ ((24 ≤ k ∧ k ≤ 29) → (dO D).length ≤ i) ∧ ((30 ≤ k ∧ k ≤ 34) → (dS D).length ≤ i)) : DCc o D M' := by
  obtain ⟨h1, ⟨h2, h3, h4⟩, ⟨h5, h6, h7⟩, h8, h9, h10, h11, h12, ⟨h13, h14⟩, h15, ⟨h16, h17, h18⟩, h19⟩ := h
  obtain ⟨l1, l2, l3⟩ := len_n D
  have e : ∀ k i, (k = 1 ∨ k = 3 ∨ k = 23 ∨ k = 35 ∨ k = 38) → M'.1 k o i = M.1 k o i := fun k i hk => fi_I f (fun q => (hP k i q).1 hk)
  have eP : ∀ k i, (20 ≤ k ∧ k ≤ 22) → i < (dP D).length → M'.1 k o i = M.1 k o i ∧ M'.2.1 k o i = M.2.1 k o i := fun k i hk hi => f.2 k o i (fun q => by have := (hP k i q).2.1 hk; omega)
  have eO : ∀ k i, (24 ≤ k ∧ k ≤ 29) → i < (dO D).length → M'.1 k o i = M.1 k o i ∧ M'.2.1 k o i = M.2.1 k o i := fun k i hk hi => f.2 k o i (fun q => by have := (hP k i q).2.2.1 hk; omega)
  have eS : ∀ k i, (30 ≤ k ∧ k ≤ 34) → i < (dS D).length → M'.1 k o i = M.1 k o i ∧ M'.2.1 k o i = M.2.1 k o i := fun k i hk hi => f.2 k o i (fun q => by have := (hP k i q).2.2.2 hk; omega)
  have lt : ∀ {α : Type} {L : List α} {i : Nat} {e : α}, L[i]? = some e → i < L.length := fun q => (List.getElem?_eq_some_iff.mp q).1
  refine ⟨by rw [f.1]; exact h1, ⟨by rw [e 1 0 (by omega)]; exact h2, by rw [e 1 5 (by omega)]; exact h3, by rw [e 1 13 (by omega)]; exact h4⟩, ⟨⟨fun i w hi => ?_, h5.2⟩, ⟨fun i w hi => ?_, h6.2⟩, ⟨fun i w hi => ?_, h7.2⟩⟩, fun i e hi => ?_, fun i hi x hx => by rw [e 23 i (by omega)]; exact h9 i hi x hx, fun i e hi => ?_, fun x hx => by rw [e 1 12 (by omega)]; exact h11 x hx, fun i e hi => ?_, ⟨by rw [e 3 0 (by omega)]; exact h13, by rw [e 3 1 (by omega)]; exact h14⟩, by rw [e 3 2 (by omega)]; exact h15, ⟨by rw [e 3 4 (by omega)]; exact h16, h17, fun i v hi => by rw [e 35 i (by omega)]; exact h18 i v hi⟩, fun i hi => by rw [e 38 i (by omega)]; exact h19 i hi⟩
  · rw [(eP 20 i (by omega) (by have := lt hi; omega)).2]; exact h5.1 i w hi
  · rw [(eO 24 i (by omega) (by have := lt hi; omega)).2]; exact h6.1 i w hi
  · rw [(eS 30 i (by omega) (by have := lt hi; omega)).2]; exact h7.1 i w hi
  · rw [(eP 21 i (by omega) (lt hi)).1, (eP 22 i (by omega) (lt hi)).1]; exact h8 i e hi
  · rw [(eO 25 i (by omega) (lt hi)).1, (eO 26 i (by omega) (lt hi)).1, (eO 27 i (by omega) (lt hi)).1, (eO 28 i (by omega) (lt hi)).1, (eO 29 i (by omega) (lt hi)).1]; exact h10 i e hi
  · rw [(eS 31 i (by omega) (lt hi)).1, (eS 32 i (by omega) (lt hi)).1, (eS 33 i (by omega) (lt hi)).1, (eS 34 i (by omega) (lt hi)).1]; exact h12 i e hi
theorem DCc_6 {o : Nat} {D : dft} {M M' : mm} (h : DCc o D M) (f : fi PT6 M M') : DCc o D M' := DCc_fi h f (fun k i q => by unfold PT6 P7 at q; omega)
section NK
variable {F : Nat} {T : List Int32} {P : Nat → Nat → Nat → Prop} {M0 M : mm} {p o : Nat} {D : dft} {DC : dft → mm → Prop}
theorem tnew_ok (hF : 2000 < F) (hP : ∀ k n i, PT6 k n i → P k n i) (h : AtC T p M) (fr : fi P M0 M) (hD : DCc o D M) (hk : DOK D) {f : Bool → mm → Option (Bool × mm)} {K : List Nat → Nat → res} (h1 : isNm T p = true → wdA T p ∉ dPn D → wdA T p ∉ dOn D → wdA T p ∉ dSn D → ∀ M', AtC T (tkE T p) M' → fi PT6 M M' → ok (f true M') (QR T DC P M0 (K (wdA T p) (tkE T p)))) (h2 : ∀ M', f false M' = some (false, M')) :
    ok (cb (m_X5_takeNewName F M) f) (QR T DC P M0 (spNew T D p K)) := by
  obtain ⟨l1, l2, l3⟩ := len_n D
  obtain ⟨⟨n1, n2, n3⟩, -⟩ := hk
  obtain ⟨d1, ⟨d2, d3, d4⟩, ⟨d5, d6, d7⟩, -⟩ := id hD
  have nin : ∀ {N : List (List Nat)} {w : List Nat}, fnd N w = none → w ∉ N := fun {N w} e hm => by
    have key : ∀ n, n ≤ N.length → fdW N w n = none → ∀ i, i < n → N.getD i [] ≠ w := by
      intro n
      induction n with
      | zero => intro _ _ i hi; omega
      | succ n ih =>
        intro hn q i hi
        unfold fdW at q
        cases e2 : fdW N w n with
        | some j => rw [e2] at q; cases q
        | none =>
          rw [e2] at q
          dsimp only at q
          split at q
          · cases q
          · rename_i q3
            by_cases e3 : i = n
            · rw [e3]; exact q3
            · exact ih (by omega) e2 i (by omega)
    obtain ⟨i, hi, e4⟩ := List.mem_iff_getElem.mp hm
    have := key N.length (Nat.le_refl _) e i hi
    rw [List.getD_eq_getElem?_getD, List.getElem?_eq_getElem hi] at this
    exact this e4
  rw [ok_cb]
  unfold m_X5_takeNewName spNew
  rw [ok_cb]
  refine ok_mono (isName_ok h) (fun r hr => ?_)
  subst hr
  dsimp only
  rw [ok_ite]
  refine ⟨fun q => ?_, fun q => ?_⟩
  · obtain ⟨hw, h8⟩ := wdA_ok h q
    rw [if_pos q, d1, d2, h8, ← l1, ok_cl]
    refine ok_mono (find20_ok (by omega) d5 (by omega) hw) (fun r hr => ?_)
    subst hr
    dsimp only
    refine ok_jm (P := fun M' => M' = M ∧ ((fnd (dPn D) (wdA T p)).isSome = true ∨ (fnd (dOn D) (wdA T p)).isSome = true ∨ (fnd (dSn D) (wdA T p)).isSome = true)) (fun M' hM' => ?_) (fun k hk => ?_)
    · obtain ⟨e, hs⟩ := hM'
      subst e
      rw [if_pos hs, ok_cb]
      refine ok_mono (wrong_ok (k := 3) h) (fun r hr => ok_some.mpr ?_)
      dsimp only
      rw [hr.1, h2]
      exact ok_some.mpr (QR_bad fr hP (r := (false, r.2)) ⟨rfl, hr.2⟩)
    · have i1 := fdI_n (N := dPn D) (w := wdA T p) (by omega)
      have i2 := fdI_n (N := dOn D) (w := wdA T p) (by omega)
      have i3 := fdI_n (N := dSn D) (w := wdA T p) (by omega)
      have sm : ∀ {N : List (List Nat)}, fnd N (wdA T p) ≠ none → (fnd N (wdA T p)).isSome = true := fun {N} e => by
        cases e2 : fnd N (wdA T p) with
        | none => exact absurd e2 e
        | some i => rfl
      rw [ok_ite, i1.1]
      refine ⟨fun q1 => ?_, fun q1 => hk M ⟨rfl, Or.inl (sm q1)⟩⟩
      rw [d1, d3, h8, ← l2, ok_cl]
      refine ok_mono (find24_ok (by omega) d6 (by omega) hw) (fun r hr => ?_)
      subst hr
      dsimp only
      rw [ok_ite, i2.1]
      refine ⟨fun q2 => ?_, fun q2 => hk M ⟨rfl, Or.inr (Or.inl (sm q2))⟩⟩
      rw [d1, d4, h8, ← l3, ok_cl]
      refine ok_mono (find30_ok (by omega) d7 (by omega) hw) (fun r hr => ?_)
      subst hr
      dsimp only
      rw [ok_ite, i3.1]
      refine ⟨fun q3 => ?_, fun q3 => hk M ⟨rfl, Or.inr (Or.inr (sm q3))⟩⟩
      rw [if_neg (by rw [q1, q2, q3]; simp), ok_cv]
      exact ok_mono (AtC_next hF h) (fun M' hM' => ok_some.mpr (h1 q (nin q1) (nin q2) (nin q3) M' hM'.1 (fi_mono hM'.2 (fun k n i q => Or.inl q))))
  · rw [if_neg q, ok_cb]
    refine ok_mono (wrong_ok (k := 1) h) (fun r hr => ok_some.mpr ?_)
    dsimp only
    rw [hr.1, h2]
    exact ok_some.mpr (QR_bad fr hP (r := (false, r.2)) ⟨rfl, hr.2⟩)
theorem kn20_ok (hF : 2000 < F) (hP : ∀ k n i, PT6 k n i → P k n i) (h : AtC T p M) (fr : fi P M0 M) {N : List (List Nat)} (hN : NmC 20 o N M) (hl : N.length ≤ 6) {f : Bool → mm → Option (Bool × mm)} {K : Nat → res} (h1 : ∀ i, fnd N (wdA T p) = some i → ∀ M', AtC T p M' → fi PT6 M M' → M'.1 6 0 6 = nI i → ok (f true M') (QR T DC P M0 (K i))) (h2 : ∀ M', f false M' = some (false, M')) :
    ok (cb (m_X5_seeKnown_20 F o (nI N.length) M) f) (QR T DC P M0 (spKn T N p K)) := by
  rw [ok_cb]
  unfold m_X5_seeKnown_20 spKn
  rw [ok_cb]
  refine ok_mono (isName_ok h) (fun r hr => ?_)
  subst hr
  dsimp only
  rw [ok_ite]
  refine ⟨fun q => ?_, fun q => ?_⟩
  · obtain ⟨hw, h8⟩ := wdA_ok h q
    rw [if_pos q, h8, ok_cl]
    refine ok_mono (find20_ok (by omega) hN (by omega) hw) (fun r hr => ?_)
    subst hr
    dsimp only
    have i1 := fdI_n (N := N) (w := wdA T p) (by omega)
    have f1 : fi (fun k _ i => k = 6 ∧ i = 6) M (sI M 6 0 6 (fdI N (wdA T p))) := fi_sI fi_rf ⟨rfl, rfl⟩
    have v6 : (sI M 6 0 6 (fdI N (wdA T p))).1 6 0 6 = fdI N (wdA T p) := by rw [rII, if_pos ⟨rfl, rfl, rfl⟩]
    rw [ok_nm]
    generalize sI M 6 0 6 (fdI N (wdA T p)) = M5 at f1 v6 ⊢
    have f6 : fi PT6 M M5 := fi_mono f1 (fun k n i q => Or.inr (by omega))
    have hA := AtC_6 h f1 (fun k n i q => by omega)
    rw [v6, ok_ite, i1.1]
    refine ⟨fun q1 => ?_, fun q1 => ?_⟩
    · rw [q1, ok_cb]
      refine ok_mono (wrong_ok (k := 2) hA) (fun r hr => ?_)
      rw [hr.1, ok_ite]
      refine ⟨fun q2 => (by cases q2), fun _ => ok_some.mpr ?_⟩
      dsimp only
      rw [h2]
      exact ok_some.mpr (QR_bad (fi_tr fr (fi_mono f6 hP)) hP (r := (false, r.2)) ⟨rfl, hr.2⟩)
    · cases e : fnd N (wdA T p) with
      | none => exact absurd e q1
      | some i => exact ok_some.mpr (h1 i e M5 hA f6 (by rw [v6]; exact i1.2 i e))
  · rw [if_neg q, ok_cb]
    refine ok_mono (wrong_ok (k := 1) h) (fun r hr => ok_some.mpr ?_)
    dsimp only
    rw [hr.1, h2]
    exact ok_some.mpr (QR_bad fr hP (r := (false, r.2)) ⟨rfl, hr.2⟩)
end NK
