/-! the fewest, of equal ones the least -/
def cnt (j : Nat) : Nat := popN (nI j)
def Best (n : Nat) (P : Nat → Prop) (r : Int32) : Prop := (r = -1 ∧ ∀ j, j < n → ¬ P j) ∨ ∃ j, j < n ∧ r = nI j ∧ P j ∧ ∀ i, i < n → P i → cnt j < cnt i ∨ (cnt j = cnt i ∧ j ≤ i)
theorem best_one {n : Nat} {P : Nat → Prop} {r r' : Int32} (h : Best n P r) (h' : Best n P r') : r = r' := by
  rcases h with ⟨a, b⟩ | ⟨j, a, b, c, d⟩
  · rcases h' with ⟨a', b'⟩ | ⟨j', a', b', c', d'⟩
    · rw [a, a']
    · exact absurd c' (b j' a')
  · rcases h' with ⟨a', b'⟩ | ⟨j', a', b', c', d'⟩
    · exact absurd c (b' j a)
    · have h1 := d j' a' c'
      have h2 := d' j a c
      have : j = j' := by omega
      rw [b, b', this]
theorem cp_le {p q : Nat → Bool} : ∀ n, (∀ i, i < n → p i = true → q i = true) → (List.range n).countP p ≤ (List.range n).countP q ∧ ((List.range n).countP p = (List.range n).countP q → ∀ i, i < n → p i = q i) := by
  intro n
  induction n with
  | zero => intro _; exact ⟨Nat.le_refl _, fun _ i hi => by omega⟩
  | succ n ih =>
    intro h
    obtain ⟨h1, h2⟩ := ih (fun i hi => h i (by omega))
    have hn := h n (by omega)
    rw [cp_s, cp_s]
    cases a : p n <;> cases b : q n
    · simp
      refine ⟨h1, fun e i hi => ?_⟩
      rcases Nat.lt_succ_iff_lt_or_eq.mp hi with r | r
      · exact h2 e i r
      · subst r; rw [a, b]
    · simp
      exact ⟨by omega, fun e => by omega⟩
    · rw [hn a] at b; cases b
    · simp
      refine ⟨h1, fun e i hi => ?_⟩
      rcases Nat.lt_succ_iff_lt_or_eq.mp hi with r | r
      · exact h2 e i r
      · subst r; rw [a, b]
theorem cnt_b {n j : Nat} (hn : n ≤ 10) (hj : j < 2 ^ n) : cnt j ≤ n ∧ (0 < j → 0 < cnt j) := by
  have hp := p2_le hn
  constructor
  · have h1 := (cp_le (p := fun i => bt (nI j) i) (q := fun i => decide (i < n)) 11 (fun i hi q => by
      rw [b_nI (by omega)] at q
      rcases Nat.lt_or_ge i n with r | r
      · simp [r]
      · rw [Nat.testBit_lt_two_pow (Nat.lt_of_lt_of_le hj (Nat.pow_le_pow_right (by decide) r))] at q; cases q)).1
    have h2 : ∀ n, n ≤ 10 → (List.range 11).countP (fun i => decide (i < n)) = n := by decide
    rw [h2 n hn] at h1
    exact h1
  · intro h0
    rcases Nat.eq_zero_or_pos (cnt j) with r | r
    · exfalso
      have h1 := (cp_le (p := fun _ => false) (q := fun i => bt (nI j) i) 11 (fun i _ q => by cases q)).2
      have h2 : (List.range 11).countP (fun _ => false) = 0 := by decide
      rw [h2] at h1
      have h3 := h1 r.symm
      have : j = 0 := Nat.eq_of_testBit_eq (fun i => by
        rw [Nat.zero_testBit]
        rcases Nat.lt_or_ge i 11 with q | q
        · rw [← b_nI (by omega)]; exact (h3 i q).symm
        · exact Nat.testBit_lt_two_pow (Nat.lt_of_lt_of_le (show j < 2 ^ 11 by omega) (Nat.pow_le_pow_right (by decide) q)))
      omega
    · exact r
/-- only such as can be broken -/
def Lo (C : cty) (mo : mty) (j : Nat) : Prop := nI j &&& (looseS C mo ^^^ (-1)) = 0
theorem lo_and {C : cty} {mo : mty} {j : Nat} (h : Lo C mo j) : nI j &&& looseS C mo = nI j := b_ext (fun i hi => by
  have := congrArg (fun x => bt x i) h
  simp only [b_and, b_not _ hi, b_0] at this
  rw [b_and]
  cases a : bt (nI j) i <;> cases b : bt (looseS C mo) i <;> simp [a, b] at this ⊢)
theorem upIf_0 {C : cty} {mo : mty} {Y : Nat} (hw : WF C) (hg : MG C mo Y) (hs : MS C mo) : upIfS C mo (nI 0) = mo.2.2.2 := by
  unfold upIfS
  have e : nI 0 &&& looseS C mo = 0 := b_ext (fun i hi => by rw [b_and]; show (bt 0 i && _) = bt 0 i; rw [b_0]; rfl)
  have e2 : mo.2.1 ||| (0 : Int32) = mo.2.1 := Int32.or_zero
  rw [e, e2]
  exact fallS_up (fun s h q => by have := hg.2.2.2 s h q; have := hw.1.2.2.1; omega) hs
def WkP (C : cty) (mo : mty) (s : Nat) (j : Nat) : Prop := Lo C mo j ∧ bt (upIfS C mo (nI j)) s = false
theorem j11 {j : Nat} (h : j < 1024) : ∀ i, i < 32 → bt (nI j) i = true → i < 11 := fun i hi q => by
  rw [b_nI hi] at q
  rcases Nat.lt_or_ge i 11 with r | r
  · exact r
  · rw [Nat.testBit_lt_two_pow (Nat.lt_of_lt_of_le (show j < 2 ^ 11 by omega) (Nat.pow_le_pow_right (by decide) r))] at q; cases q
theorem wk_in {F : Nat} (hF : 3000 < F) {C : cty} {o S Y s m : Nat} (hS : S < 2 ^ 31) (hY : Y < 2 ^ 31) {M : mm} {mo : mty} (hw : WF C) (hg : MG C mo Y) (h : LK C o mo S M) (hs : s < 10) (hm : m ≤ 10) :
    ok (lp (b_X10_fewestAgainst_2 F (nI s) (nI m)) F ((1 : Int32), M)) (fun r => (∃ (j : Nat) (M' : mm), r = .inl (nI j, M') ∧ 1 ≤ j ∧ j < 2 ^ cO C ∧ WkP C mo s j ∧ cnt j = m ∧ (∀ i, 1 ≤ i → i < j → ¬ (WkP C mo s i ∧ cnt i = m)) ∧ LK C o mo S M' ∧ fi (PU o) M M') ∨ ∃ M' : mm, r = .inr M' ∧ (∀ i, 1 ≤ i → i < 2 ^ cO C → ¬ (WkP C mo s i ∧ cnt i = m)) ∧ LK C o mo S M' ∧ fi (PU o) M M') := by
  have hO := hw.1.2.1
  have hp := p2_le hO
  refine ok_for (2 ^ cO C) (fun j z => z.1 = nI j ∧ (1 ≤ j ∧ ∀ i, 1 ≤ i → i < j → ¬ (WkP C mo s i ∧ cnt i = m)) ∧ LK C o mo S z.2 ∧ fi (PU o) M z.2) 1 (by omega) (by omega) ⟨rfl, ⟨Nat.le_refl _, fun i h1 h2 => by omega⟩, h, fi_rf⟩ ?_
  rintro j ⟨x3, M4⟩ hj ⟨e1, ⟨hj1, hn⟩, hl, hf⟩
  dsimp only at e1 hn hl hf
  subst e1
  obtain ⟨⟨a7, ao, am, a8, a6⟩, -, -, acs⟩ := id hl
  simp only [b_X10_fewestAgainst_2, b_X10_fewestAgainst_2c]
  rw [ao, acs.1.1.1.2.1, sh_pow _ hO, ok_ite, nI_leI (by omega) (by omega)]
  refine ⟨fun hc => ok_some.mpr (Or.inr ⟨M4, rfl, fun i h1 h2 => hn i h1 (by omega), hl, hf⟩), fun hc => ?_⟩
  have hcb : ok (m_X10_canBreak F (nI j) M4) (fun r => r.2 = M4 ∧ (r.1 = true ↔ Lo C mo j)) := by
    unfold m_X10_canBreak
    rw [a8, ok_ite, ok_some, ok_some]
    exact ⟨fun q => ⟨rfl, fun _ => q, fun _ => rfl⟩, fun q => ⟨rfl, fun q2 => (by cases q2), fun q2 => absurd q2 q⟩⟩
  rw [ok_cb]
  refine ok_mono hcb (fun r hr => ?_)
  obtain ⟨b6, M5⟩ := r
  obtain ⟨r1, r2⟩ := hr
  dsimp only at r1 r2 ⊢
  subst r1
  refine ok_jm (P := fun M11 => ¬ (WkP C mo s j ∧ cnt j = m) ∧ LK C o mo S M11 ∧ fi (PU o) M M11) (fun z hz => ok_some.mpr ⟨by omega, nI_1 j, ⟨by omega, fun i h1 h2 => ?_⟩, hz.2.1, hz.2.2⟩) (fun k hk => ?_)
  · rcases Nat.lt_succ_iff_lt_or_eq.mp h2 with q | q
    · exact hn i h1 q
    · subst q; exact hz.1
  · rw [ok_ite, r2]
    refine ⟨fun q => ?_, fun q => hk M5 ⟨fun q2 => q q2.1.1, hl, hf⟩⟩
    rw [ok_cl]
    refine ok_mono (bitCount_ok (j11 (by omega))) (fun r hr => ?_)
    subst hr
    dsimp only
    have hcj : cnt j ≤ 10 := by have := (cnt_b hO (show j < 2 ^ cO C by omega)).1; omega
    rw [ok_ite, show (nI (popN (nI j)) = nI m ↔ cnt j = m) from nI_eq (by unfold cnt at hcj; omega) (by omega)]
    refine ⟨fun q2 => ?_, fun q2 => hk M5 ⟨fun q3 => q2 q3.2, hl, hf⟩⟩
    rw [ok_cl]
    refine ok_mono (upIf_ok (by omega) hS hY hw hg hl (nI j)) (fun r hr => ?_)
    obtain ⟨x10, M9⟩ := r
    obtain ⟨g1, g2, g3⟩ := hr
    dsimp only at g1 g2 g3 ⊢
    rw [ok_ite, b_bit0 _ (show s < 32 by omega), g1]
    exact ⟨fun q3 => ok_some.mpr (Or.inl ⟨j, M9, rfl, hj1, by omega, ⟨q, q3⟩, q2, hn, g2, fi_tr hf g3⟩), fun q3 => hk M9 ⟨fun q4 => q3 q4.1.2, g2, fi_tr hf g3⟩⟩
theorem against_ok {F : Nat} (hF : 3000 < F) {C : cty} {o S Y s : Nat} (hS : S < 2 ^ 31) (hY : Y < 2 ^ 31) {M : mm} {mo : mty} (hw : WF C) (hg : MG C mo Y) (hms : MS C mo) (h : LK C o mo S M) (hs : s < cS C) (hup : bt mo.2.2.2 s = true) :
    ok (m_X10_fewestAgainst F (nI s) M) (fun r => Best (2 ^ cO C) (WkP C mo s) r.1 ∧ LK C o mo S r.2 ∧ fi (PU o) M r.2) := by
  have hO := hw.1.2.1
  have hS' := hw.1.2.2.1
  have hp := p2_le hO
  have h00 : ¬ WkP C mo s 0 := fun q => by rw [WkP, upIf_0 hw hg hms] at q; rw [hup] at q; exact absurd q.2 (by decide)
  unfold m_X10_fewestAgainst
  rw [ok_bd]
  refine ok_mono (Q := fun r => (∃ (j : Nat) (M' : mm), r = .inl (nI j, M') ∧ Best (2 ^ cO C) (WkP C mo s) (nI j) ∧ LK C o mo S M' ∧ fi (PU o) M M') ∨ ∃ M' : mm, r = .inr M' ∧ Best (2 ^ cO C) (WkP C mo s) (-1) ∧ LK C o mo S M' ∧ fi (PU o) M M') ?_ (fun r hr => ?_)
  · refine ok_for (cO C + 1) (fun m z => z.1 = nI m ∧ (∀ i, i < 2 ^ cO C → WkP C mo s i → m ≤ cnt i) ∧ LK C o mo S z.2 ∧ fi (PU o) M z.2) 1 (by omega) (by omega) ⟨rfl, fun i hi q => ?_, h, fi_rf⟩ ?_
    · have h1 := (cnt_b hO hi).2
      rcases Nat.eq_zero_or_pos i with z | z
      · subst z; exact absurd q h00
      · exact h1 z
    · rintro m ⟨x1, M2⟩ hm ⟨e1, hn, hl, hf⟩
      dsimp only at e1 hn hl hf
      subst e1
      obtain ⟨⟨a7, ao, am, a8, a6⟩, -, -, acs⟩ := id hl
      simp only [b_X10_fewestAgainst_1, b_X10_fewestAgainst_1c]
      rw [ao, acs.1.1.1.2.1, ok_ite, nI_ltI (by omega) (by omega)]
      refine ⟨fun hc => ok_some.mpr (Or.inr ⟨M2, rfl, Or.inl ⟨rfl, fun j hj q => ?_⟩, hl, hf⟩), fun hc => ?_⟩
      · have := hn j hj q
        have := (cnt_b hO hj).1
        omega
      · rw [ok_bd]
        refine ok_mono (wk_in hF hS hY hw hg hl (by omega) (show m ≤ 10 by omega)) (fun r hr => ?_)
        rcases hr with ⟨j, M', rfl, g1, g2, g3, g4, g5, g6, g7⟩ | ⟨M', rfl, g1, g2, g3⟩
        · simp only [Sum.elim_inl, ok_some]
          refine Or.inl ⟨j, M', rfl, Or.inr ⟨j, g2, rfl, g3, fun i hi q => ?_⟩, g6, fi_tr hf g7⟩
          have h1 := hn i hi q
          rcases Nat.lt_or_ge (cnt j) (cnt i) with q2 | q2
          · exact Or.inl q2
          · refine Or.inr ⟨by omega, ?_⟩
            rcases Nat.lt_or_ge i j with q3 | q3
            · have hi1 : 1 ≤ i := by
                rcases Nat.eq_zero_or_pos i with z | z
                · subst z; exact absurd q h00
                · exact z
              exact absurd ⟨q, by omega⟩ (g5 i hi1 q3)
            · exact q3
        · simp only [Sum.elim_inr, ok_some, Sum.elim_inl]
          refine ⟨by omega, nI_1 m, fun i hi q => ?_, g2, fi_tr hf g3⟩
          have h1 := hn i hi q
          have hi1 : 1 ≤ i := by
            rcases Nat.eq_zero_or_pos i with z | z
            · subst z; exact absurd q h00
            · exact z
          rcases Nat.lt_or_ge m (cnt i) with q2 | q2
          · exact q2
          · exact absurd ⟨q, by omega⟩ (g1 i hi1 hi)
  · rcases hr with ⟨j, M', rfl, g1, g2, g3⟩ | ⟨M', rfl, g1, g2, g3⟩
    · simp only [Sum.elim_inl, ok_some]; exact ⟨g1, g2, g3⟩
    · simp only [Sum.elim_inr, ok_some]; exact ⟨g1, g2, g3⟩
theorem isUp_ok {F : Nat} {A : sty} {M : mm} {o : Nat} (hA : WF (aC A)) (h2 : M.2.2 12 0 6 = o) (h4 : RCs A M) (h5 : CS (aC A) o M) {x : Int32} : ok (m_X11_isUp F x M) (fun r => r = (decide (0 ≤ x ∧ x < nI (cS (aC A)) ∧ bt (aM A).2.2.2 x.toNatClampNeg = true), M)) := by
  have hS := hA.1.2.2.1
  unfold m_X11_isUp
  rw [ok_cb, h2]
  refine ok_mono (hasStone_ok h5.1) (fun r hr => ?_)
  subst hr
  dsimp only
  rw [ok_ite, decide_eq_true_iff]
  refine ⟨fun q => ?_, fun q => ok_some.mpr ?_⟩
  · obtain ⟨j, hj, rfl, hcl⟩ := in_iff hS q
    rw [h4.1.2.2.2, ok_ite, b_bit0 _ (show j < 32 by omega), ok_some, ok_some, hcl]
    refine ⟨fun q2 => ?_, fun q2 => ?_⟩
    · rw [q2]; simp
    · have : bt (aM A).2.2.2 j = true := by
        cases e : bt (aM A).2.2.2 j
        · exact absurd e q2
        · rfl
      rw [this]; simp [q.1, q.2]
  · congr 1
    symm
    rw [decide_eq_false_iff_not]
    exact fun q2 => q ⟨q2.1, q2.2.1⟩
/-- what weakest answers -/
def WkA (A : sty) (x r : Int32) : Prop := (¬ (0 ≤ x ∧ x < nI (cS (aC A)) ∧ bt (aM A).2.2.2 x.toNatClampNeg = true) ∧ r = -1) ∨ ((0 ≤ x ∧ x < nI (cS (aC A)) ∧ bt (aM A).2.2.2 x.toNatClampNeg = true) ∧ Best (2 ^ cO (aC A)) (WkP (aC A) (aM A) x.toNatClampNeg) r)
theorem WkA_one {A : sty} {x r r' : Int32} (h : WkA A x r) (h' : WkA A x r') : r = r' := by
  rcases h with ⟨a, b⟩ | ⟨a, b⟩ <;> rcases h' with ⟨a', b'⟩ | ⟨a', b'⟩
  · rw [b, b']
  · exact absurd a' a
  · exact absurd a a'
  · exact best_one b b'
theorem weakestC {F : Nat} (hF : 3000 < F) {A : sty} {N : Nat} (hN : N ≤ 1000) {M : mm} {x : Int32} (hA : AOK A N) (h : RC A N M) : ok (m_X11_weakest F x M) (fun r => WkA A x r.1 ∧ RC A (N + 1) r.2 ∧ FrC M r.2) := by
  obtain ⟨o, d, hod, h2, h3, h4, h5, h6⟩ := id h
  have hS' := hA.1.1.2.2.1
  unfold m_X11_weakest
  rw [ok_cb]
  refine ok_mono (isUp_ok hA.1 h2 h4 h5) (fun r hr => ?_)
  subst hr
  dsimp only
  rw [ok_ite, decide_eq_true_iff]
  refine ⟨fun q => ?_, fun q => ok_some.mpr ⟨Or.inl ⟨q, rfl⟩, RC_up h, FrC_rf⟩⟩
  obtain ⟨j, hj, rfl, hcl⟩ := in_iff hS' ⟨q.1, q.2.1⟩
  rw [ok_cv, h2]
  refine ok_mono (look_ok hN hA.1 h5 h6 h4.1) (fun M1 hM1 => ?_)
  obtain ⟨S, hS, l1, f1⟩ := hM1
  rw [ok_cl]
  refine ok_mono (against_ok hF (by omega) (Y := 100 * N) (by omega) hA.1 hA.2.1.1 hA.2.1.2 l1 hj (by rw [hcl] at q; exact q.2.2)) (fun r hr => ok_some.mpr ?_)
  obtain ⟨r1, r2, r3⟩ := hr
  have := RC_lk hA hod h2 h3 h4 hS r2 (FK_tr (FK_mono f1 (fun k n i q => Or.inl q)) (FK_mono (FK_fi r3) (fun k n i q => Or.inr (Or.inl q))))
  exact ⟨Or.inr ⟨q, by rw [hcl]; exact r1⟩, this.1, this.2⟩
