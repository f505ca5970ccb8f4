/-! the class reads a law -/
def spLwL (T : List Int32) : Nat → Nat → lst → (Nat × Nat) ⊕ (List Int32 × Nat)
  | 0, p, _ => .inl (1, p)
  | fu + 1, p, s => if s.2.2.2 = false ∧ s.2.2.1 = 0 ∧ isS T p 59 = true then .inr ((lSet 1 s.1 s.2.1).1, p) else match lStep T p s with
    | .inl k => .inl (k, p)
    | .inr s' => spLwL T fu (tkE T p) s'
def spLw (T : List Int32) (p : Nat) : (Nat × Nat) ⊕ (List Int32 × Nat) := spLwL T 1001 p ([], [], 0, true)
def PLr (l : Nat) : Nat → Nat → Nat → Prop := fun k n i => PLw l k n i ∨ P7 k n i ∨ (k = 3 ∧ n = l ∧ i = 2)
theorem lStep_k {T : List Int32} {p : Nat} {s s' : lst} (h : lStep T p s = .inr s') : (tkA T p).1 ≠ 0 := by
  unfold lStep at h
  by_cases q : s.2.2.2 = true
  · rw [if_pos q] at h
    refine lPart_k (fun e => ?_)
    unfold spPart at h
    rw [if_pos e] at h
    cases h
  · rw [if_neg q] at h
    unfold spJnt at h
    by_cases q1 : isS T p 41 = true
    · exact isS_k q1
    · rw [if_neg q1] at h
      refine lJnt_k (fun e => ?_)
      rw [if_pos e] at h
      cases h
theorem lstep_ok {F l : Nat} (hF : 2000 < F) {T : List Int32} {p n : Nat} {s : lst} {M : mm} (h : AtC T p M) (hs : LsC l s M) (hk : LsK s) (hn : s.1.length + s.2.1.length ≤ n) (hn3 : n ≤ 1000) (hn2 : (tkA T p).1 ≠ 0 → n < 1000) : ok (bd (if (M.1 4 0 5) = (0 : Int32) then cl (m_X3_readJoint F M) fun x13 M12 => some (x13, M12) else cl (m_X3_readPart F M) fun x15 M14 => some (x15, M14)) (fun z => some z)) (QL T p l n M (lStep T p s)) := by
  rw [ok_bd, hs.2.2.2]
  unfold lStep
  rw [ok_ite]
  cases e : s.2.2.2 with
  | true =>
    refine ⟨fun r => absurd r (by decide), fun _ => ?_⟩
    rw [if_pos rfl, ok_cl]
    exact ok_mono (lpart_step hF h hs hk hn hn3 hn2 e) (fun r hr => ok_some.mpr (ok_some.mpr hr))
  | false =>
    refine ⟨fun _ => ?_, fun r => absurd rfl r⟩
    rw [if_neg (by decide), ok_cl]
    exact ok_mono (ljnt_step hF h hs hk hn hn3 e) (fun r hr => ok_some.mpr (ok_some.mpr hr))
def QLr (T : List Int32) (l : Nat) (M : mm) (x : (Nat × Nat) ⊕ (List Int32 × Nat)) (r : Int32 × mm) : Prop := fi (PLr l) (sR M 4 0 6 l) r.2 ∧ match x with
  | .inl (k, q) => r.1 = nI k ∧ 1 ≤ k ∧ k ≤ 5 ∧ AtC T q r.2
  | .inr (cs, q) => r.1 = 0 ∧ LwC l cs r.2 ∧ cs.length ≤ 1000 ∧ AtC T q r.2 ∧ isS T q 59 = true ∧ r.2.1 3 l 2 = 1
theorem lread_ok {F l : Nat} (hF : 2000 < F) {T : List Int32} {p : Nat} {M : mm} (h : AtC T p M) : ok (m_X3_read F l M) (QLr T l M (spLw T p)) := by
  have hlen := h.2.1.2.2.1
  unfold m_X3_read m_X2_renew
  have a0 : AtC T p (sR M 4 0 6 l) := h
  have r0 : (sR M 4 0 6 l).2.2 4 0 6 = l := by rw [rRR, if_pos ⟨rfl, rfl, rfl⟩]
  rw [ok_nm, r0, ok_cv, ok_nm, ok_nm, ok_some, ok_nm, ok_nm, ok_nm, ok_nm]
  have f1 : fi (fun k n i => (k = 3 ∧ n = l ∧ (i = 2 ∨ i = 4)) ∨ (k = 4 ∧ n = 0 ∧ 2 ≤ i ∧ i ≤ 5)) (sR M 4 0 6 l) (sI (sI (sI (sI (sI (sI (sR M 4 0 6 l) 3 l 2 1) 3 l 4 0) 4 0 2 0) 4 0 3 0) 4 0 4 0) 4 0 5 1) := by
    refine fi_sI (fi_sI (fi_sI (fi_sI (fi_sI (fi_sI fi_rf ?_) ?_) ?_) ?_) ?_) ?_
    all_goals omega
  have v : (sI (sI (sI (sI (sI (sI (sR M 4 0 6 l) 3 l 2 1) 3 l 4 0) 4 0 2 0) 4 0 3 0) 4 0 4 0) 4 0 5 1).1 3 l 2 = 1 ∧ (sI (sI (sI (sI (sI (sI (sR M 4 0 6 l) 3 l 2 1) 3 l 4 0) 4 0 2 0) 4 0 3 0) 4 0 4 0) 4 0 5 1).1 3 l 4 = 0 ∧ (sI (sI (sI (sI (sI (sI (sR M 4 0 6 l) 3 l 2 1) 3 l 4 0) 4 0 2 0) 4 0 3 0) 4 0 4 0) 4 0 5 1).1 4 0 2 = 0 ∧ (sI (sI (sI (sI (sI (sI (sR M 4 0 6 l) 3 l 2 1) 3 l 4 0) 4 0 2 0) 4 0 3 0) 4 0 4 0) 4 0 5 1).1 4 0 3 = 0 ∧ (sI (sI (sI (sI (sI (sI (sR M 4 0 6 l) 3 l 2 1) 3 l 4 0) 4 0 2 0) 4 0 3 0) 4 0 4 0) 4 0 5 1).1 4 0 4 = 0 ∧ (sI (sI (sI (sI (sI (sI (sR M 4 0 6 l) 3 l 2 1) 3 l 4 0) 4 0 2 0) 4 0 3 0) 4 0 4 0) 4 0 5 1).1 4 0 5 = 1 := by
    simp [rII]
  have r6 : (sI (sI (sI (sI (sI (sI (sR M 4 0 6 l) 3 l 2 1) 3 l 4 0) 4 0 2 0) 4 0 3 0) 4 0 4 0) 4 0 5 1).2.2 4 0 6 = l := by simp only [rIR]; exact r0
  generalize sI (sI (sI (sI (sI (sI (sR M 4 0 6 l) 3 l 2 1) 3 l 4 0) 4 0 2 0) 4 0 3 0) 4 0 4 0) 4 0 5 1 = M6 at f1 v r6 ⊢
  obtain ⟨v0, v2, w2, w3, w4, w5⟩ := v
  have a6 : AtC T p M6 := AtC_6 a0 f1 (fun k n i q => by omega)
  have f1 : fi (PLr l) (sR M 4 0 6 l) M6 := fi_mono f1 (fun k n i q => by unfold PLr PLw; omega)
  unfold QLr
  generalize sR M 4 0 6 l = Ms at f1 a0 r0 ⊢
  have s0 : LsC l ([], [], 0, true) M6 := ⟨⟨⟨v2, fun i c hi => by cases hi⟩, trivial, w2, r6⟩, w3, w4, w5⟩
  have sub7 : ∀ k n i, P7 k n i → PLr l k n i := fun k n i q => Or.inr (Or.inl q)
  have subW : ∀ k n i, PLw l k n i → PLr l k n i := fun k n i q => Or.inl q
  rw [ok_bd]
  refine ok_mono (Q := Sum.elim (fun M9 => fi (PLr l) Ms M9 ∧ ∃ q s, spLw T p = .inr ((lSet 1 s.1 s.2.1).1, q) ∧ AtC T q M9 ∧ isS T q 59 = true ∧ LsC l s M9 ∧ LsK s ∧ s.1.length + s.2.1.length ≤ 1000 ∧ M9.1 3 l 2 = 1) (Sum.elim (fun z => fi (PLr l) Ms z.2 ∧ ∃ k q, spLw T p = .inl (k, q) ∧ z.1 = nI k ∧ 1 ≤ k ∧ k ≤ 5 ∧ AtC T q z.2) (fun M9 => fi (PLr l) Ms M9 ∧ ∃ q, spLw T p = .inl (1, q) ∧ AtC T q M9))) ?_ (fun r hr => ?_)
  · refine ok_for 1001 (fun c z => z.1 = nI c ∧ fi (PLr l) Ms z.2 ∧ z.2.1 3 l 2 = 1 ∧ ∃ q s, spLw T p = spLwL T (1001 - c) q s ∧ c ≤ q ∧ AtC T q z.2 ∧ LsC l s z.2 ∧ LsK s ∧ s.1.length + s.2.1.length ≤ c) 0 (by omega) (by omega) ⟨rfl, f1, v0, p, ([], [], 0, true), rfl, Nat.zero_le _, a6, s0, ⟨trivial, Nat.zero_le _, Nat.le_refl _, fun _ => trivial⟩, Nat.le_refl _⟩ ?_
    rintro c ⟨x7, M8⟩ hcc ⟨e1, f8, z0, q, s, hR, hcq, a8, s8, k8, n8⟩
    dsimp only at e1 f8 z0 a8 s8
    subst e1
    have hq := a8.1
    have e1000 : (1000 : Int32) < nI c ↔ 1000 < c := (nI_ltI (by omega) (by omega) : nI 1000 < nI c ↔ _)
    simp only [b_X3_read_1, b_X3_read_1c]
    rw [ok_ite, e1000]
    refine ⟨fun r => by omega, fun hc1 => ?_⟩
    obtain ⟨fu, hfu⟩ : ∃ fu, 1001 - c = fu + 1 := ⟨1000 - c, by omega⟩
    rw [hfu] at hR
    have hkq : (tkA T q).1 ≠ 0 → c < 1000 := fun e => by have := tkE_gt hq e; omega
    -- the step, when nothing ends here
    have step : ¬ (s.2.2.2 = false ∧ s.2.2.1 = 0 ∧ isS T q 59 = true) → ok (bd (if (M8.1 4 0 5) = (0 : Int32) then cl (m_X3_readJoint F M8) fun x13 M12 => some (x13, M12) else cl (m_X3_readPart F M8) fun x15 M14 => some (x15, M14)) (fun z => match z with
          | (x16, M17) =>
            if x16 = (0 : Int32) then
              cv (m_X6_next F M17) fun M18 => some ((.inl ((nI c + (1 : Int32)), M18)) : (Int32 × mm) ⊕ ((mm) ⊕ (Int32 × mm) ⊕ (mm)))
            else
              some (.inr (.inr (.inl (x16, M17)))))) (Sum.elim (fun s' => c < 1001 ∧ (s'.1 = nI (c + 1) ∧ fi (PLr l) Ms s'.2 ∧ s'.2.1 3 l 2 = 1 ∧ ∃ q s, spLw T p = spLwL T (1001 - (c + 1)) q s ∧ c + 1 ≤ q ∧ AtC T q s'.2 ∧ LsC l s s'.2 ∧ LsK s ∧ s.1.length + s.2.1.length ≤ c + 1)) (Sum.elim (fun M9 => fi (PLr l) Ms M9 ∧ ∃ q s, spLw T p = .inr ((lSet 1 s.1 s.2.1).1, q) ∧ AtC T q M9 ∧ isS T q 59 = true ∧ LsC l s M9 ∧ LsK s ∧ s.1.length + s.2.1.length ≤ 1000 ∧ M9.1 3 l 2 = 1) (Sum.elim (fun z => fi (PLr l) Ms z.2 ∧ ∃ k q, spLw T p = .inl (k, q) ∧ z.1 = nI k ∧ 1 ≤ k ∧ k ≤ 5 ∧ AtC T q z.2) (fun M9 => fi (PLr l) Ms M9 ∧ ∃ q, spLw T p = .inl (1, q) ∧ AtC T q M9)))) := fun hne => by
      have hst := lstep_ok hF a8 s8 k8 n8 (by omega) hkq
      rw [ok_bd] at hst ⊢
      refine ok_mono hst (fun r hr => ?_)
      have hr := ok_some.mp hr
      obtain ⟨x16, M17⟩ := r
      obtain ⟨f17, hr⟩ := hr
      have hS : spLwL T (fu + 1) q s = match lStep T q s with
        | .inl k => .inl (k, q)
        | .inr s' => spLwL T fu (tkE T q) s' := if_neg hne
      have fr := fi_tr f8 (fi_mono f17 subW)
      cases eS : lStep T q s with
      | inl k =>
        rw [eS] at hr hS
        obtain ⟨r1, r2, r3, r4⟩ := hr
        dsimp only at r1 r4 ⊢
        subst r1
        rw [ok_ite]
        refine ⟨fun r => absurd ((nI_eq (b := 0) (by omega) (by decide) : nI k = nI 0 ↔ k = 0).mp r) (by omega), fun _ => ok_some.mpr ⟨fr, k, q, hR.trans hS, rfl, r2, r3, r4⟩⟩
      | inr s' =>
        rw [eS] at hr hS
        obtain ⟨r1, r2, r3, r4, r5⟩ := hr
        dsimp only at r1 r2 r5 ⊢
        subst r1
        have hk0 := lStep_k eS
        have hgt := tkE_gt hq hk0
        rw [ok_ite]
        refine ⟨fun _ => ?_, fun r => absurd rfl r⟩
        rw [ok_cv]
        refine ok_mono (AtC_next hF r5) (fun M18 h18 => ok_some.mpr ?_)
        obtain ⟨a18, f18⟩ := h18
        obtain ⟨⟨i1, i2, i3, i4⟩, i5, i6, i7⟩ := r2
        refine ⟨by omega, nI_1 c, fi_tr fr (fi_mono f18 sub7), ?_, tkE T q, s', ?_, by omega, a18, ⟨⟨LwC_fi i1 f18 (fun k i q => by unfold P7 at q; omega), StC_fi i2 f18 (fun i _ => by unfold P7; omega), (fi_I f18 (by unfold P7; omega)).trans i3, (by rw [f18.1]; exact i4)⟩, (fi_I f18 (by unfold P7; omega)).trans i5, (fi_I f18 (by unfold P7; omega)).trans i6, (fi_I f18 (by unfold P7; omega)).trans i7⟩, r3, r4⟩
        · exact ((fi_I f18 (by unfold P7; omega)).trans (fi_I f17 (by unfold PLw; omega))).trans z0
        · rw [show 1001 - (c + 1) = fu by omega]; exact hR.trans hS
    have opl := lOp_le s.2.1
    have o5 := k8.2.2.1
    have z5 := k8.2.1
    have e0 : nI s.2.2.1 = (0 : Int32) ↔ s.2.2.1 = 0 := nI_eq (b := 0) (by omega) (by decide)
    rw [ok_nm, ok_ite, s8.2.2.2]
    refine ⟨fun hd => ?_, fun hd => ?_⟩
    · have hd : s.2.2.2 = false := by
        cases e : s.2.2.2 with
        | false => rfl
        | true => rw [e] at hd; exact absurd hd (by decide)
      rw [ok_ite, s8.2.2.1, e0]
      refine ⟨fun ho => ?_, fun ho => ?_⟩
      · rw [ok_cb]
        refine ok_mono (isSign_ok a8 (c := 59)) (fun r hr => ?_)
        subst hr
        dsimp only
        rw [ok_ite]
        refine ⟨fun h9 => ok_some.mpr ⟨f8, q, s, ?_, a8, h9, s8, k8, by omega, z0⟩, fun h9 => ?_⟩
        · rw [hR]; exact if_pos ⟨hd, ho, h9⟩
        · exact step (fun r => h9 r.2.2)
      · exact step (fun r => ho r.2.1)
    · exact step (fun r => hd (by rw [r.1]; rfl))
  · rcases r with M9 | z | M9
    · obtain ⟨f9, q, s, e, a9, h9, s9, k9, n9, z9⟩ := hr
      have len := lSrt_len s.2.1 k9.1
      have l4 := lHd_le s.2.1
      have z5 := k9.2.1
      show ok (cv (m_X3_settle F (1 : Int32) M9) fun M20 => some ((0 : Int32), M20)) _
      rw [ok_cv]
      refine ok_mono (lset_ok (r := 1) hF (by decide) s9.1 (by omega) n9) (fun M20 g20 => ok_some.mpr ?_)
      obtain ⟨l20, f20⟩ := g20
      have fw : fi (PLw l) M9 M20 := fi_mono f20 (fun k n i q => by unfold PAd at q; unfold PLw; omega)
      rw [e]
      have := lSet_c 1 (by decide) s.2.1 s.1 k9.1
      exact ⟨fi_tr f9 (fi_mono fw subW), rfl, l20.1, by omega, AtC_L a9 fw, h9, (fi_I fw (by unfold PLw; omega)).trans z9⟩
    · obtain ⟨f9, k, q, e, r1, r2, r3, a9⟩ := hr
      obtain ⟨x, M9⟩ := z
      refine ok_some.mpr ?_
      rw [e]
      exact ⟨f9, r1, r2, r3, a9⟩
    · obtain ⟨f9, q, e, a9⟩ := hr
      refine ok_some.mpr ?_
      rw [e]
      exact ⟨f9, rfl, by decide, by decide, a9⟩
