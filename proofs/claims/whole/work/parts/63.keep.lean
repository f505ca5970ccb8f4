/-! the fewest that keep the walls and leave no clash -/
def NC (C : cty) (m : Int32) : Prop := ∃ i, i < cO C ∧ bt m i = false ∧ cF C 7 i &&& (m ^^^ (-1)) ≠ 0
def KpP (C : cty) (mo : mty) (j : Nat) : Prop := Lo C mo j ∧ ¬ NC C (mo.2.1 ||| nI j) ∧ upIfS C mo (nI j) = mo.2.2.2
theorem nc_step {C : cty} {m : Int32} {i : Nat} (h : ∀ k, k < i → ¬ (bt m k = false ∧ cF C 7 k &&& (m ^^^ (-1)) ≠ 0)) (hn : ¬ (bt m i = false ∧ cF C 7 i &&& (m ^^^ (-1)) ≠ 0)) : ∀ k, k < i + 1 → ¬ (bt m k = false ∧ cF C 7 k &&& (m ^^^ (-1)) ≠ 0) := fun k hk => by
  rcases Nat.lt_succ_iff_lt_or_eq.mp hk with q | q
  · exact h k q
  · subst q; exact hn
theorem endsClashes_ok {F : Nat} (hF : 1000 < F) {C : cty} {o S : Nat} {M : mm} {mo : mty} (hw : WF C) (h : LK C o mo S M) (x : Int32) :
    ok (m_X10_endsClashes F x M) (fun r => r.2 = M ∧ (r.1 = true ↔ ¬ NC C (mo.2.1 ||| x))) := by
  have hO := hw.1.2.1
  obtain ⟨⟨a7, ao, am, a8, a6⟩, -, -, acs⟩ := id h
  unfold m_X10_endsClashes
  rw [ok_nm, am.2.1, ok_bd]
  refine ok_mono (Q := fun r => (r = .inl () ∧ NC C (mo.2.1 ||| x)) ∨ (r = .inr () ∧ ¬ NC C (mo.2.1 ||| x))) ?_ (fun r hr => ?_)
  · refine ok_for (cO C) (fun i z => z = nI i ∧ ∀ k, k < i → ¬ (bt (mo.2.1 ||| x) k = false ∧ cF C 7 k &&& ((mo.2.1 ||| x) ^^^ (-1)) ≠ 0)) 0 (by omega) (by omega) ⟨rfl, fun k hk => by omega⟩ ?_
    rintro i z hi ⟨rfl, hn⟩
    simp only [b_X10_endsClashes_1, b_X10_endsClashes_1c]
    rw [ao, acs.1.1.1.2.1, ok_ite, nI_leI (by omega) (by omega)]
    refine ⟨fun hc => ok_some.mpr (Or.inr ⟨rfl, fun ⟨k, k1, k2⟩ => hn k (by omega) k2⟩), fun hc => ?_⟩
    have hi' : i < cO C := by omega
    refine ok_jm (P := fun _ => ¬ (bt (mo.2.1 ||| x) i = false ∧ cF C 7 i &&& ((mo.2.1 ||| x) ^^^ (-1)) ≠ 0)) (fun z hz => ok_some.mpr ⟨by omega, nI_1 i, nc_step hn hz⟩) (fun k hk => ?_)
    rw [ok_ite, b_bit0 _ (show i < 32 by omega), b_not _ (show i < 32 by omega), nI_clamp (by omega), (acs.1.1.2.2.1 i hi').2.2.2.2]
    refine ⟨fun q => hk () (fun q2 => by rw [q2.1] at q; cases q), fun q => ?_⟩
    rw [ok_gi, ok_ite]
    exact ⟨vp_in_nI (by omega) (by decide), fun q2 => hk () (fun q3 => q3.2 q2), fun q2 => ok_some.mpr (Or.inl ⟨rfl, i, hi', by simpa using q, q2⟩)⟩
  · rcases hr with ⟨rfl, q⟩ | ⟨rfl, q⟩
    · simp only [Sum.elim_inl, ok_some]; exact ⟨trivial, fun q2 => (by cases q2), fun q2 => absurd q q2⟩
    · simp only [Sum.elim_inr, ok_some]; exact ⟨trivial, fun _ => q, fun _ => trivial⟩
theorem kp_in {F : Nat} (hF : 3000 < F) {C : cty} {o S Y m : Nat} (hS : S < 2 ^ 31) (hY : Y < 2 ^ 31) {M : mm} {mo : mty} (hw : WF C) (hg : MG C mo Y) (h : LK C o mo S M) (hm : m ≤ 10) :
    ok (lp (b_X10_fewestToKeep_2 F (nI m)) F ((0 : Int32), M)) (fun r => (∃ (j : Nat) (M' : mm), r = .inl (nI j, M') ∧ j < 2 ^ cO C ∧ KpP C mo j ∧ cnt j = m ∧ (∀ i, i < j → ¬ (KpP C mo i ∧ cnt i = m)) ∧ LK C o mo S M' ∧ fi (PU o) M M') ∨ ∃ M' : mm, r = .inr M' ∧ (∀ i, i < 2 ^ cO C → ¬ (KpP C mo i ∧ cnt i = m)) ∧ LK C o mo S M' ∧ fi (PU o) M M') := by
  have hO := hw.1.2.1
  have hp := p2_le hO
  refine ok_for (2 ^ cO C) (fun j z => z.1 = nI j ∧ (∀ i, i < j → ¬ (KpP C mo i ∧ cnt i = m)) ∧ LK C o mo S z.2 ∧ fi (PU o) M z.2) 0 (by omega) (by omega) ⟨rfl, fun i h2 => by omega, h, fi_rf⟩ ?_
  rintro j ⟨x3, M4⟩ hj ⟨e1, hn, hl, hf⟩
  dsimp only at e1 hn hl hf
  subst e1
  obtain ⟨⟨a7, ao, am, a8, a6⟩, -, -, acs⟩ := id hl
  simp only [b_X10_fewestToKeep_2, b_X10_fewestToKeep_2c]
  rw [ao, acs.1.1.1.2.1, sh_pow _ hO, ok_ite, nI_leI (by omega) (by omega)]
  refine ⟨fun hc => ok_some.mpr (Or.inr ⟨M4, rfl, fun i h2 => hn i (by omega), hl, hf⟩), fun hc => ?_⟩
  have hcb : ok (m_X10_canBreak F (nI j) M4) (fun r => r.2 = M4 ∧ (r.1 = true ↔ Lo C mo j)) := by
    unfold m_X10_canBreak
    rw [a8, ok_ite, ok_some, ok_some]
    exact ⟨fun q => ⟨rfl, fun _ => q, fun _ => rfl⟩, fun q => ⟨rfl, fun q2 => (by cases q2), fun q2 => absurd q2 q⟩⟩
  rw [ok_cb]
  refine ok_mono hcb (fun r hr => ?_)
  obtain ⟨b6, M5⟩ := r
  obtain ⟨r1, r2⟩ := hr
  dsimp only at r1 r2 ⊢
  subst r1
  refine ok_jm (P := fun M11 => ¬ (KpP C mo j ∧ cnt j = m) ∧ LK C o mo S M11 ∧ fi (PU o) M M11) (fun z hz => ok_some.mpr ⟨by omega, nI_1 j, fun i h2 => ?_, hz.2.1, hz.2.2⟩) (fun k hk => ?_)
  · rcases Nat.lt_succ_iff_lt_or_eq.mp h2 with q | q
    · exact hn i q
    · subst q; exact hz.1
  · rw [ok_ite, r2]
    refine ⟨fun q => ?_, fun q => hk M5 ⟨fun q2 => q q2.1.1, hl, hf⟩⟩
    rw [ok_cl]
    refine ok_mono (bitCount_ok (j11 (by omega))) (fun r hr => ?_)
    subst hr
    dsimp only
    have hcj : cnt j ≤ 10 := by have := (cnt_b hO (show j < 2 ^ cO C by omega)).1; omega
    rw [ok_ite, show (nI (popN (nI j)) = nI m ↔ cnt j = m) from nI_eq (by unfold cnt at hcj; omega) (by omega)]
    refine ⟨fun q2 => ?_, fun q2 => hk M5 ⟨fun q3 => q2 q3.2, hl, hf⟩⟩
    rw [ok_cb]
    refine ok_mono (endsClashes_ok (by omega) hw hl (nI j)) (fun r hr => ?_)
    obtain ⟨b10, M9⟩ := r
    obtain ⟨e1, e2⟩ := hr
    dsimp only at e1 e2 ⊢
    subst e1
    rw [ok_ite, e2]
    refine ⟨fun q3 => ?_, fun q3 => hk M9 ⟨fun q4 => q3 q4.1.2.1, hl, hf⟩⟩
    rw [ok_cl]
    refine ok_mono (upIf_ok (by omega) hS hY hw hg hl (nI j)) (fun r hr => ?_)
    obtain ⟨x12, M11⟩ := r
    obtain ⟨g1, g2, g3⟩ := hr
    dsimp only at g1 g2 g3 ⊢
    rw [ok_ite, g1, g2.1.2.2.1.2.2.2]
    exact ⟨fun q4 => ok_some.mpr (Or.inl ⟨j, M11, rfl, by omega, ⟨q, q3, q4⟩, q2, hn, g2, fi_tr hf g3⟩), fun q4 => hk M11 ⟨fun q5 => q4 q5.1.2.2, g2, fi_tr hf g3⟩⟩
theorem toKeep_ok {F : Nat} (hF : 3000 < F) {C : cty} {o S Y : Nat} (hS : S < 2 ^ 31) (hY : Y < 2 ^ 31) {M : mm} {mo : mty} (hw : WF C) (hg : MG C mo Y) (h : LK C o mo S M) :
    ok (m_X10_fewestToKeep F M) (fun r => Best (2 ^ cO C) (KpP C mo) r.1 ∧ LK C o mo S r.2 ∧ fi (PU o) M r.2) := by
  have hO := hw.1.2.1
  have hp := p2_le hO
  unfold m_X10_fewestToKeep
  rw [ok_bd]
  refine ok_mono (Q := fun r => (∃ (j : Nat) (M' : mm), r = .inl (nI j, M') ∧ Best (2 ^ cO C) (KpP C mo) (nI j) ∧ LK C o mo S M' ∧ fi (PU o) M M') ∨ ∃ M' : mm, r = .inr M' ∧ Best (2 ^ cO C) (KpP C mo) (-1) ∧ LK C o mo S M' ∧ fi (PU o) M M') ?_ (fun r hr => ?_)
  · refine ok_for (cO C + 1) (fun m z => z.1 = nI m ∧ (∀ i, i < 2 ^ cO C → KpP C mo i → m ≤ cnt i) ∧ LK C o mo S z.2 ∧ fi (PU o) M z.2) 0 (by omega) (by omega) ⟨rfl, fun i hi q => Nat.zero_le _, h, fi_rf⟩ ?_
    rintro m ⟨x1, M2⟩ hm ⟨e1, hn, hl, hf⟩
    dsimp only at e1 hn hl hf
    subst e1
    obtain ⟨⟨a7, ao, am, a8, a6⟩, -, -, acs⟩ := id hl
    simp only [b_X10_fewestToKeep_1, b_X10_fewestToKeep_1c]
    rw [ao, acs.1.1.1.2.1, ok_ite, nI_ltI (by omega) (by omega)]
    refine ⟨fun hc => ok_some.mpr (Or.inr ⟨M2, rfl, Or.inl ⟨rfl, fun j hj q => ?_⟩, hl, hf⟩), fun hc => ?_⟩
    · have := hn j hj q
      have := (cnt_b hO hj).1
      omega
    · rw [ok_bd]
      refine ok_mono (kp_in hF hS hY hw hg hl (show m ≤ 10 by omega)) (fun r hr => ?_)
      rcases hr with ⟨j, M', rfl, g2, g3, g4, g5, g6, g7⟩ | ⟨M', rfl, g1, g2, g3⟩
      · simp only [Sum.elim_inl, ok_some]
        refine Or.inl ⟨j, M', rfl, Or.inr ⟨j, g2, rfl, g3, fun i hi q => ?_⟩, g6, fi_tr hf g7⟩
        have h1 := hn i hi q
        rcases Nat.lt_or_ge (cnt j) (cnt i) with q2 | q2
        · exact Or.inl q2
        · refine Or.inr ⟨by omega, ?_⟩
          rcases Nat.lt_or_ge i j with q3 | q3
          · exact absurd ⟨q, by omega⟩ (g5 i q3)
          · exact q3
      · simp only [Sum.elim_inr, ok_some, Sum.elim_inl]
        refine ⟨by omega, nI_1 m, fun i hi q => ?_, g2, fi_tr hf g3⟩
        have h1 := hn i hi q
        rcases Nat.lt_or_ge m (cnt i) with q2 | q2
        · exact q2
        · exact absurd ⟨q, by omega⟩ (g1 i hi)
  · rcases hr with ⟨j, M', rfl, g1, g2, g3⟩ | ⟨M', rfl, g1, g2, g3⟩
    · simp only [Sum.elim_inl, ok_some]; exact ⟨g1, g2, g3⟩
    · simp only [Sum.elim_inr, ok_some]; exact ⟨g1, g2, g3⟩
/-- what keep answers -/
def KpA (A : sty) (r : Int32) : Prop := Best (2 ^ cO (aC A)) (KpP (aC A) (aM A)) r
theorem KpA_one {A : sty} {r r' : Int32} (h : KpA A r) (h' : KpA A r') : r = r' := best_one h h'
theorem keepC {F : Nat} (hF : 3000 < F) {A : sty} {N : Nat} (hN : N ≤ 1000) {M : mm} (hA : AOK A N) (h : RC A N M) : ok (m_X11_keep F M) (fun r => KpA A r.1 ∧ RC A (N + 1) r.2 ∧ FrC M r.2) := by
  obtain ⟨o, d, hod, h2, h3, h4, h5, h6⟩ := id h
  unfold m_X11_keep
  rw [ok_cv, h2]
  refine ok_mono (look_ok hN hA.1 h5 h6 h4.1) (fun M1 hM1 => ?_)
  obtain ⟨S, hS, l1, f1⟩ := hM1
  rw [ok_cl]
  refine ok_mono (toKeep_ok hF (by omega) (Y := 100 * N) (by omega) hA.1 hA.2.1.1 l1) (fun r hr => ok_some.mpr ?_)
  obtain ⟨r1, r2, r3⟩ := hr
  have := RC_lk hA hod h2 h3 h4 hS r2 (FK_tr (FK_mono f1 (fun k n i q => Or.inl q)) (FK_mono (FK_fi r3) (fun k n i q => Or.inr (Or.inl q))))
  exact ⟨r1, this.1, this.2⟩
