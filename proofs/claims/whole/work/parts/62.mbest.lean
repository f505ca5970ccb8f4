/-! the reference's weakest -/
theorem best_red {n : Nat} {P P' : Nat → Prop} {r : Int32} (h1 : ∀ j, j < n → P j → P' j) (h2 : ∀ j, j < n → P' j → ∃ j', j' < n ∧ P j' ∧ cnt j' ≤ cnt j ∧ (cnt j' = cnt j → j' = j)) (h : Best n P' r) : Best n P r := by
  rcases h with ⟨a, b⟩ | ⟨j, a, b, c, d⟩
  · exact Or.inl ⟨a, fun j hj q => b j hj (h1 j hj q)⟩
  · obtain ⟨j', q1, q2, q3, q4⟩ := h2 j a c
    have h3 := d j' q1 (h1 j' q1 q2)
    have h4 : j' = j := q4 (by omega)
    subst h4
    exact Or.inr ⟨j', a, b, q2, fun i hi q => d i hi (h1 i hi q)⟩
theorem best_skip {n : Nat} {P : Nat → Prop} {r : Int32} (h : Best n P r) (hn : ¬ P n) : Best (n + 1) P r := by
  rcases h with ⟨a, b⟩ | ⟨j, a, b, c, d⟩
  · refine Or.inl ⟨a, fun j hj q => ?_⟩
    rcases Nat.lt_succ_iff_lt_or_eq.mp hj with r | r
    · exact b j r q
    · subst r; exact hn q
  · refine Or.inr ⟨j, by omega, b, c, fun i hi q => ?_⟩
    rcases Nat.lt_succ_iff_lt_or_eq.mp hi with r | r
    · exact d i r q
    · subst r; exact absurd q hn
theorem best_worse {n b : Nat} {P : Nat → Prop} (hn : n < 2 ^ 31) (h : Best n P (nI b)) (hb : b < 2 ^ 31) (hc : cnt b ≤ cnt n) : Best (n + 1) P (nI b) := by
  rcases h with ⟨a, -⟩ | ⟨j, a, e, c, d⟩
  · have := nI_pos hb; rw [a] at this; exact absurd (by decide) this
  · have : b = j := (nI_eq hb (by omega)).mp e
    subst this
    refine Or.inr ⟨b, by omega, rfl, c, fun i hi q => ?_⟩
    rcases Nat.lt_succ_iff_lt_or_eq.mp hi with r | r
    · exact d i r q
    · subst r
      rcases Nat.lt_or_ge (cnt b) (cnt i) with z | z
      · exact Or.inl z
      · exact Or.inr ⟨by omega, by omega⟩
theorem best_new {n : Nat} (hn : n < 2 ^ 31) {P : Nat → Prop} {r : Int32} (h : Best n P r) (hp : P n) (hr : r = -1 ∨ ∃ b, r = nI b ∧ b < 2 ^ 31 ∧ cnt n < cnt b) : Best (n + 1) P (nI n) := by
  refine Or.inr ⟨n, by omega, rfl, hp, fun i hi q => ?_⟩
  rcases Nat.lt_succ_iff_lt_or_eq.mp hi with z | z
  · rcases h with ⟨a, b⟩ | ⟨j, a, b, c, d⟩
    · exact absurd q (b i z)
    · rcases hr with hr | ⟨b', hr, hb', hc⟩
      · have := nI_pos (n := j) (by omega)
        rw [← b, hr] at this; exact absurd (by decide) this
      · have h1 := d i z q
        have : b' = j := (nI_eq hb' (by omega)).mp (hr.symm.trans b)
        subst this
        left; omega
  · subst z; exact Or.inr ⟨rfl, Nat.le_refl _⟩
theorem best_0 {P : Nat → Prop} : Best 0 P (-1) := Or.inl ⟨rfl, fun j hj => by omega⟩
theorem best_val {n : Nat} {P : Nat → Prop} {r : Int32} (hn : n < 2 ^ 31) (h : Best n P r) : (r < 0 ∧ r = -1) ∨ (¬ r < 0 ∧ ∃ b, b < n ∧ r = nI b) := by
  rcases h with ⟨a, -⟩ | ⟨j, a, b, -⟩
  · left; rw [a]; exact ⟨by decide, rfl⟩
  · right; rw [b]; exact ⟨nI_pos (by omega), j, a, rfl⟩
def WkM (C : cty) (mo : mty) (s : Nat) (j : Nat) : Prop := nI j &&& mo.2.1 = 0 ∧ bt (upIfS C mo (nI j)) s = false
theorem upIfS_and {C : cty} {mo : mty} {x : Int32} : upIfS C mo (x &&& looseS C mo) = upIfS C mo x := by
  have e : x &&& looseS C mo &&& looseS C mo = x &&& looseS C mo := b_ext (fun i hi => by rw [b_and, b_and]; cases bt x i <;> cases bt (looseS C mo) i <;> rfl)
  unfold upIfS
  rw [e]
/-- a set and what of it can be broken -/
theorem lo_part {C : cty} {mo : mty} (hw : WF C) {j : Nat} (hj : j < 2 ^ cO C) : ∃ j', j' < 2 ^ cO C ∧ Lo C mo j' ∧ nI j' = nI j &&& looseS C mo ∧ cnt j' ≤ cnt j ∧ (cnt j' = cnt j → j' = j) := by
  have hp := p2_le hw.1.2.1
  obtain ⟨j', h1, h2, h3⟩ := and_loose hw (mo := mo) (nI j)
  have hsub : ∀ i, i < 11 → bt (nI j') i = true → bt (nI j) i = true := fun i hi q => by
    rw [← h3, b_and, Bool.and_eq_true] at q; exact q.1
  have hc := cp_le (p := fun i => bt (nI j') i) (q := fun i => bt (nI j) i) 11 hsub
  refine ⟨j', h2, ?_, h3.symm, hc.1, fun e => ?_⟩
  · unfold Lo
    refine b_ext (fun i hi => ?_)
    rw [b_and, b_not _ hi, ← h3, b_and, b_0]
    cases bt (nI j) i <;> cases bt (looseS C mo) i <;> rfl
  · have h4 := hc.2 e
    exact Nat.eq_of_testBit_eq (fun i => by
      rcases Nat.lt_or_ge i 11 with q | q
      · rw [← b_nI (by omega), ← b_nI (by omega)]; exact h4 i q
      · rw [Nat.testBit_lt_two_pow (Nat.lt_of_lt_of_le (show j' < 2 ^ 11 by omega) (Nat.pow_le_pow_right (by decide) q)), Nat.testBit_lt_two_pow (Nat.lt_of_lt_of_le (show j < 2 ^ 11 by omega) (Nat.pow_le_pow_right (by decide) q))])
theorem wk_red {C : cty} {mo : mty} {s : Nat} {r : Int32} (hw : WF C) (h : Best (2 ^ cO C) (WkM C mo s) r) : Best (2 ^ cO C) (WkP C mo s) r := by
  refine best_red (fun j hj q => ?_) (fun j hj q => ?_) h
  · refine ⟨b_ext (fun i hi => ?_), q.2⟩
    have h1 := congrArg (fun x => bt x i) q.1
    simp only [b_and, b_not _ hi, b_0, loose_b hw hi] at h1
    rw [b_and, b_0]
    cases a : bt (nI j) i <;> cases b : bt mo.2.1 i <;> simp [a, b] at h1 ⊢
  · obtain ⟨j', h1, h2, h3, h4, h5⟩ := lo_part hw (mo := mo) hj
    exact ⟨j', h1, ⟨h2, by rw [h3, upIfS_and]; exact q.2⟩, h4, h5⟩
theorem weakestM {F : Nat} (hF : 3000 < F) {A : sty} {N : Nat} {M : mm} {x : Int32} (hA : AOK A N) (h : RM A M) : ok (m_X12_weakest F x M) (fun r => WkA A x r.1 ∧ RM A r.2 ∧ FrM M r.2) := by
  have hS' := hA.1.1.2.2.1
  have hO := hA.1.1.2.1
  have hp := p2_le hO
  have h1 : RM A (sI M 13 0 0 0) := RM_fi h thr_f PT_GM
  have f1 : fi PV M (sI M 13 0 0 0) := fi_mono thr_f (fun k n i q => Or.inl q)
  unfold m_X12_weakest
  rw [ok_nm, ok_cb]
  generalize sI M 13 0 0 0 = M1 at h1 f1 ⊢
  have no : ¬ (0 ≤ x ∧ x < nI (cS (aC A)) ∧ bt (aM A).2.2.2 x.toNatClampNeg = true) → WkA A x (-1) ∧ RM A M1 ∧ FrM M M1 := fun q => ⟨Or.inl ⟨q, rfl⟩, RM_pv h f1 h1.1⟩
  refine ok_mono (isStone_ok h1.1.1) (fun r hr => ?_)
  subst hr
  dsimp only
  rw [ok_ite, decide_eq_true_iff]
  refine ⟨fun q => ?_, fun q => ok_some.mpr (no (fun q2 => q ⟨q2.1, q2.2.1⟩))⟩
  obtain ⟨s, hs, rfl, hcl⟩ := in_iff hS' q
  rw [ok_gi, tc3, h1.1.2.2.2.2.2, ok_ite, b_bit0 _ (show s < 32 by omega)]
  refine ⟨vp_of (by decide), fun q2 => ok_some.mpr (no (fun q3 => by rw [hcl, q2] at q3; exact absurd q3.2.2 (by decide))), fun q2 => ?_⟩
  have hup : bt (aM A).2.2.2 s = true := by
    cases e : bt (aM A).2.2.2 s
    · exact absurd e q2
    · rfl
  rw [ok_bd]
  refine ok_mono (Q := fun z => Best (2 ^ cO (aC A)) (WkM (aC A) (aM A) s) z.1 ∧ RMo (aC A) (aM A) z.2 ∧ fi PV M z.2) ?_ (fun z hz => ?_)
  · refine ok_for (2 ^ cO (aC A)) (fun j z => z.2.1 = nI j ∧ Best j (WkM (aC A) (aM A) s) z.1 ∧ RMo (aC A) (aM A) z.2.2 ∧ fi PV M z.2.2) 0 (by omega) (by omega) ⟨rfl, best_0, h1.1, f1⟩ ?_
    rintro j ⟨x4, x5, M6⟩ hj ⟨e1, hb, hm, hf⟩
    dsimp only at e1 hb hm hf
    subst e1
    simp only [b_X12_weakest_1, b_X12_weakest_1c]
    rw [ok_cl]
    refine ok_mono (allOaths_ok hA.1 hm.1) (fun r hr => ?_)
    subst hr
    dsimp only
    rw [ok_ite, nI_ltI (by omega) (by omega)]
    refine ⟨fun hc => ok_some.mpr ?_, fun hc => ?_⟩
    · have : j = 2 ^ cO (aC A) := by omega
      rw [← this]; exact ⟨hb, hm, hf⟩
    · rw [ok_gi]
      refine ⟨vp_of (by decide), ?_⟩
      rw [ok_bd, tc1, hm.2.2.2.1]
      refine ok_mono (Q := fun z => Best (j + 1) (WkM (aC A) (aM A) s) z.1 ∧ RMo (aC A) (aM A) z.2 ∧ fi PV M z.2) ?_ (fun z hz => ?_)
      · rw [ok_ite]
        refine ⟨fun g => ?_, fun g => ok_some.mpr ⟨best_skip hb (fun q => g q.1), hm, hf⟩⟩
        refine ok_jm (P := fun z => z = M6 ∧ (x4 = -1 ∨ ∃ b, x4 = nI b ∧ b < 2 ^ 31 ∧ cnt j < cnt b)) (fun z hz => ?_) (fun k hk => ?_)
        · obtain ⟨rfl, hz⟩ := hz
          rw [ok_cl]
          refine ok_mono (upIfM_ok hF hA.1 hm hA.2.1.1.2.2.2 (nI j)) (fun r hr => ?_)
          obtain ⟨x15, M14⟩ := r
          obtain ⟨r1, r2, r3⟩ := hr
          dsimp only at r1 r2 r3 ⊢
          have f3 : fi PV M M14 := fi_tr hf (fi_fr r3 (fun k n i q => Or.inr q))
          rw [r1, ok_ite, b_bit0 _ (show s < 32 by omega)]
          exact ⟨fun q => ok_some.mpr ⟨best_new (by omega) hb ⟨g, q⟩ hz, r2, f3⟩, fun q => ok_some.mpr ⟨best_skip hb (fun q3 => q q3.2), r2, f3⟩⟩
        · rw [ok_ite]
          rcases best_val (by omega) hb with ⟨v1, v2⟩ | ⟨v1, b, v2, v3⟩
          · exact ⟨fun _ => hk M6 ⟨rfl, Or.inl v2⟩, fun q => absurd v1 q⟩
          · refine ⟨fun q => absurd q v1, fun _ => ?_⟩
            rw [ok_cl]
            refine ok_mono (bits_ok (by omega)) (fun r hr => ?_)
            subst hr
            rw [ok_cl]
            refine ok_mono (bits_ok (by omega)) (fun r hr => ?_)
            subst hr
            dsimp only
            have c1 : popN (nI j) ≤ 11 := by unfold popN; have := List.countP_le_length (p := fun i => bt (nI j) i) (l := List.range 11); simpa using this
            have c2 : popN x4 ≤ 11 := by unfold popN; have := List.countP_le_length (p := fun i => bt x4 i) (l := List.range 11); simpa using this
            rw [ok_ite, nI_ltI (by omega) (by omega)]
            refine ⟨fun q => hk M6 ⟨rfl, Or.inr ⟨b, v3, by omega, by rw [v3] at q; exact q⟩⟩, fun q => ok_some.mpr ⟨?_, hm, hf⟩⟩
            rw [v3] at hb q ⊢
            exact best_worse (by omega) hb (by omega) (by unfold cnt; omega)
      · obtain ⟨x16, M17⟩ := z
        exact ok_some.mpr ⟨by omega, nI_1 j, hz.1, hz.2.1, hz.2.2⟩
  · obtain ⟨x18, M19⟩ := z
    obtain ⟨z1, z2, z3⟩ := hz
    exact ok_some.mpr ⟨Or.inr ⟨⟨q.1, q.2, by rw [hcl]; exact hup⟩, by rw [hcl]; exact wk_red hA.1 z1⟩, RM_pv h z3 z2⟩
