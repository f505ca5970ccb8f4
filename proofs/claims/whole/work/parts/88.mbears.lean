/-! the reference's bears: the least over all sets -/
theorem weighedM_ok {F : Nat} (hF : 1000 < F) {M : mm} {S : Nat} (hw : ∀ s, s < 11 → S.testBit s = true → 0 ≤ (M.1 75 0 s).toInt ∧ (M.1 75 0 s).toInt ≤ 99) :
    ok (m_X12_weighed F (nI S) M) (fun r => (r.1.toInt = wX (fun s => (M.1 75 0 s).toInt) (fun s => S.testBit s) ∧ 0 ≤ r.1.toInt ∧ r.1.toInt ≤ 1089) ∧ r.2 = M) := by
  unfold m_X12_weighed
  rw [ok_bd]
  refine ok_mono (Q := fun v => v.toInt = wX (fun s => (M.1 75 0 s).toInt) (fun s => S.testBit s) ∧ 0 ≤ v.toInt ∧ v.toInt ≤ 1089) ?_ (fun v hv => ok_some.mpr ⟨hv, rfl⟩)
  have b4 : ∀ n, n ≤ 11 → sm n (fun _ => (99 : Int)) ≤ 1089 := by decide
  have bd : ∀ k, k ≤ 11 → 0 ≤ sm k (fun s => if S.testBit s then (M.1 75 0 s).toInt else 0) ∧ sm k (fun s => if S.testBit s then (M.1 75 0 s).toInt else 0) ≤ 1089 := fun k hk => by
    have b2 : 0 ≤ sm k (fun s => if S.testBit s then (M.1 75 0 s).toInt else 0) := sm_nn (fun s hs => by
      split
      · rename_i h; exact (hw s (by omega) h).1
      · omega)
    have b3 : sm k (fun s => if S.testBit s then (M.1 75 0 s).toInt else 0) ≤ sm k (fun _ => 99) := sm_le (fun s hs => by
      split
      · rename_i h; exact (hw s (by omega) h).2
      · omega)
    have := b4 k hk
    omega
  refine ok_for 11 (fun k z => z.2 = nI k ∧ z.1.toInt = sm k (fun s => if S.testBit s then (M.1 75 0 s).toInt else 0)) 0 (by omega) (by omega) ⟨rfl, rfl⟩ ?_
  rintro k ⟨x1, x2⟩ hk ⟨e1, e2⟩
  dsimp only at e1 e2
  subst e1
  simp only [b_X12_weighed_1, b_X12_weighed_1c]
  have e6 : (11 : Int32) ≤ nI k ↔ 11 ≤ k := (nI_leI (by omega) (by omega) : nI 11 ≤ nI k ↔ 11 ≤ k)
  rw [ok_ite, e6]
  refine ⟨fun q => ok_some.mpr ?_, fun q => ?_⟩
  · have : k = 11 := by omega
    subst this
    exact ⟨e2, by rw [e2]; exact (bd 11 (by omega)).1, by rw [e2]; exact (bd 11 (by omega)).2⟩
  rw [ok_bd]
  refine ok_mono (Q := fun v => v.toInt = if S.testBit k then (M.1 75 0 k).toInt else 0) ?_ (fun v hv => ?_)
  · rw [ok_ite, b_bit1 _ (show k < 32 by omega), b_nI (by omega)]
    refine ⟨fun q2 => ?_, fun q2 => ok_some.mpr (by rw [if_neg q2]; rfl)⟩
    rw [ok_gi, ok_some, nI_clamp (by omega), if_pos q2]
    exact ⟨vp_in_nI (by omega) (by decide), rfl⟩
  · rw [ok_nm, ok_some]
    have b1 := bd k hk
    have b2 := bd (k + 1) (by omega)
    have e : sm (k + 1) (fun s => if S.testBit s then (M.1 75 0 s).toInt else 0) = sm k (fun s => if S.testBit s then (M.1 75 0 s).toInt else 0) + (if S.testBit k then (M.1 75 0 k).toInt else 0) := rfl
    refine ⟨by omega, nI_1 k, ?_⟩
    dsimp only
    rw [i_add (by omega) (by omega), e2, hv, e]
theorem br2m_ok {F : Nat} (hF : 1000 < F) {M : mm} {r : Nat → Int32} {S : Nat} (hr : ∀ s, s < 10 → M.1 106 0 s = r s) :
    ok (lp (b_X12_bears_2 F (nI S) M) F ((0 : Int32), (0 : Int32))) (fun z => ∀ x, x < 32 → (bt z x = true ↔ ∃ s, s < 10 ∧ S.testBit s = true ∧ bt (r s) x = true)) := by
  refine ok_for 10 (fun k z => z.2 = nI k ∧ ∀ x, x < 32 → (bt z.1 x = true ↔ ∃ s, s < k ∧ S.testBit s = true ∧ bt (r s) x = true)) 0 (by omega) (by omega) ⟨rfl, fun x hx => by rw [b_0]; simp⟩ ?_
  rintro k ⟨x1, x2⟩ hk ⟨e1, e2⟩
  dsimp only at e1 e2
  subst e1
  simp only [b_X12_bears_2, b_X12_bears_2c]
  have e6 : (10 : Int32) ≤ nI k ↔ 10 ≤ k := (nI_leI (by omega) (by omega) : nI 10 ≤ nI k ↔ 10 ≤ k)
  rw [ok_ite, e6]
  refine ⟨fun q => ok_some.mpr ?_, fun q => ?_⟩
  · have : k = 10 := by omega
    subst this
    exact e2
  rw [ok_bd]
  refine ok_mono (Q := fun v => v = if S.testBit k then r k else 0) ?_ (fun v hv => ?_)
  · rw [ok_ite, b_bit1 _ (show k < 32 by omega), b_nI (by omega)]
    refine ⟨fun q2 => ?_, fun q2 => ok_some.mpr (by rw [if_neg q2])⟩
    rw [ok_gi, ok_some, nI_clamp (by omega), if_pos q2]
    exact ⟨vp_in_nI (by omega) (by decide), hr k (by omega)⟩
  · rw [ok_nm, ok_some]
    refine ⟨by omega, nI_1 k, fun x hx => ?_⟩
    dsimp only
    rw [b_or, Bool.or_eq_true, e2 x hx, hv]
    constructor
    · rintro (⟨s, a, b, c⟩ | a)
      · exact ⟨s, by omega, b, c⟩
      · by_cases q2 : S.testBit k = true
        · rw [if_pos q2] at a; exact ⟨k, by omega, q2, a⟩
        · rw [if_neg q2, b_0] at a; cases a
    · rintro ⟨s, a, b, c⟩
      rcases Nat.lt_succ_iff_lt_or_eq.mp a with a | a
      · exact Or.inl ⟨s, a, b, c⟩
      · subst a; right; rw [if_pos b]; exact c
def bVal (C : cty) (mo : mty) (X : Nat) : Int := wX (wS C) (upB mo.2.2.2 11) - wX (wS C) (fun s => X.testBit s) + cX (kS C mo) (nb (rB C mo.2.2.2) (fun s => X.testBit s))
theorem cX_b {C : cty} {mo : mty} (hw : WF C) (O : Nat → Bool) : 0 ≤ cX (kS C mo) O ∧ cX (kS C mo) O ≤ 10040 := by
  have b4 : sm 10 (fun _ => (1004 : Int)) ≤ 10040 := by decide
  have h1 : 0 ≤ cX (kS C mo) O := sm_nn (fun o _ => by
    have := kS_b hw mo o
    split <;> omega)
  have h2 : cX (kS C mo) O ≤ sm 10 (fun _ => (1004 : Int)) := sm_le (fun o _ => by
    have := kS_b hw mo o
    split <;> omega)
  exact ⟨h1, by omega⟩
theorem bearsM {F : Nat} (hF : 3000 < F) {A : sty} {N : Nat} {M : mm} (hA : AOK A N) (h : RM A M) : ok (m_X12_bears F M) (fun r => BeP (aC A) (aM A) r.1.toInt ∧ RM A r.2 ∧ FrM M r.2) := by
  have hS := hA.1.1.2.2.1
  have hO := hA.1.1.2.1
  have hw := hA.1
  have hup := hA.2.1.1.2.2.2
  have h1 : RM A (sI M 13 0 0 0) := RM_fi h thr_f PT_GM
  have f1 : fi PV M (sI M 13 0 0 0) := fi_mono thr_f (fun k n i q => Or.inl q)
  unfold m_X12_bears
  rw [ok_nm, ok_gi, tc1]
  generalize sI M 13 0 0 0 = M1 at h1 f1 ⊢
  obtain ⟨m0, m1, m2, m3⟩ := id h1.1.2.2
  rw [ok_cv, m1]
  refine ⟨vp_of (by decide), ?_⟩
  refine ok_mono (laysStr_ok (mo := aM A) hF hw h1.1.1 m0 m2 h1.1.2.1) (fun M2 h2 => ?_)
  obtain ⟨f2, b2, s2⟩ := h2
  have m32 : M2.1 100 0 3 = (aM A).2.2.2 := (fr_I f2 (by unfold PC; omega) 3).trans m3
  rw [ok_gi, tc3, ok_cv, m32]
  refine ⟨vp_of (by decide), ?_⟩
  refine ok_mono (laysRests_ok (by omega)) (fun M3 h3 => ?_)
  obtain ⟨f3, r3⟩ := h3
  have f13 : fr PD M1 M3 := fr_tr (fr_mono f2 (fun k n q => by unfold PC at q; unfold PD; omega)) (fr_mono f3 (fun k n q => Or.inr (Or.inr q)))
  have b3 : B0 M3 := by unfold B0 at b2 ⊢; rw [fr_I f3 (by omega)]; exact b2
  have rm3 : RMo (aC A) (aM A) M3 := RMo_D h1.1 f13 b3
  have m33 : M3.1 100 0 3 = (aM A).2.2.2 := rm3.2.2.2.2.2
  have fin : RM A M3 ∧ FrM M M3 := RM_pv h (fi_tr f1 (fi_fr f13 (fun k n i q => Or.inr q))) rm3
  have e105 : ∀ j, j < 2 ^ cO (aC A) → (M3.1 105 0 j).toInt = bsum (kS (aC A) (aM A)) j := fun j hj => by rw [fr_I f3 (by omega)]; exact s2 j hj
  have e75 : ∀ s, s < cS (aC A) → (M3.1 75 0 s).toInt = wS (aC A) s := fun s hs => by
    unfold wS; rw [if_pos hs, (rm3.1.2.2.2.1 s hs).1]
  have e106 : ∀ s, s < cS (aC A) → M3.1 106 0 s = rS (aC A) (aM A).2.2.2 s := fun s hs => by
    rw [r3 s (by omega)]
    refine rs_c (n := cS (aC A)) (fun t ht => ?_) (fun t _ => rfl) s hs
    have mv2 : MV (aC A) M2 := MV_fr h1.1.1 f2 (fun k h1 h2 q => by unfold PC at q; omega)
    exact ⟨(mv2.2.2.2.1 t ht).2.2.1, (mv2.2.2.2.1 t ht).2.2.2⟩
  have hU : jn (aM A).2.2.2 < 2 ^ 11 := jn_lt (fun s hs q => by have := hup s hs q; omega)
  have hp : 2 ^ cO (aC A) ≤ 1024 := Nat.pow_le_pow_right (n := 2) (by decide) hO
  have sub : ∀ X, X &&& jn (aM A).2.2.2 = X → ∀ s, X.testBit s = true → s < cS (aC A) ∧ bt (aM A).2.2.2 s = true := fun X hX s hs => by
    rw [← hX, Nat.testBit_and, Bool.and_eq_true] at hs
    exact ⟨hup s (lt32 (x := (aM A).2.2.2) hs.2) hs.2, hs.2⟩
  have wbd : ∀ X, X &&& jn (aM A).2.2.2 = X → ∀ s, s < 11 → X.testBit s = true → 0 ≤ (M3.1 75 0 s).toInt ∧ (M3.1 75 0 s).toInt ≤ 99 := fun X hX s _ q => by
    rw [e75 s (sub X hX s q).1]; exact wS_b hw s
  have wXe : ∀ X, X &&& jn (aM A).2.2.2 = X → wX (fun s => (M3.1 75 0 s).toInt) (fun s => X.testBit s) = wX (wS (aC A)) (fun s => X.testBit s) := fun X hX => sm_c (fun s hs => by
    show (if X.testBit s = true then (M3.1 75 0 s).toInt else 0) = if X.testBit s = true then wS (aC A) s else 0
    by_cases e : X.testBit s = true
    · rw [if_pos e, if_pos e]; exact e75 s (sub X hX s e).1
    · rw [if_neg e, if_neg e])
  have wU : wX (wS (aC A)) (upB (aM A).2.2.2 11) = wX (wS (aC A)) (fun s => (jn (aM A).2.2.2).testBit s) := wX_c (fun s hs => by
    unfold upB
    rw [decide_eq_true hs, Bool.and_true]; rfl)
  have rfl0 : jn (aM A).2.2.2 &&& jn (aM A).2.2.2 = jn (aM A).2.2.2 := Nat.and_self _
  rw [ok_gi, ok_cl, m33]
  refine ⟨vp_of (by decide), ?_⟩
  have key : m_X12_weighed F (aM A).2.2.2 M3 = m_X12_weighed F (nI (jn (aM A).2.2.2)) M3 := by rw [← jn_nI]
  rw [key]
  refine ok_mono (weighedM_ok (by omega) (wbd _ rfl0)) (fun r hr => ?_)
  obtain ⟨x5, M4⟩ := r
  obtain ⟨⟨w1, w2, w3⟩, w4⟩ := hr
  dsimp only at w1 w2 w3 w4 ⊢
  subst w4
  rw [wXe _ rfl0, ← wU] at w1
  rw [ok_gi, ok_nm, m33, ok_bd]
  refine ⟨vp_of (by decide), ?_⟩
  have v0 : bVal (aC A) (aM A) 0 = x5.toInt := by
    unfold bVal
    have z1 : wX (wS (aC A)) (fun s => (0 : Nat).testBit s) = 0 := (sm_c (fun s _ => by simp)).trans sm_0
    have z2 : cX (kS (aC A) (aM A)) (nb (rB (aC A) (aM A).2.2.2) (fun s => (0 : Nat).testBit s)) = 0 := (sm_c (fun o _ => by
      have : nb (rB (aC A) (aM A).2.2.2) (fun s => (0 : Nat).testBit s) o = false := by
        cases e : nb (rB (aC A) (aM A).2.2.2) (fun s => (0 : Nat).testBit s) o
        · rfl
        · obtain ⟨s, -, q, -⟩ := nb_iff.mp e
          simp at q
      rw [this]; rfl)).trans sm_0
    rw [z1, z2, w1]; omega
  refine ok_mono (Q := fun r => r.2 = M4 ∧ BeP (aC A) (aM A) r.1.toInt) ?_ (fun r hr => ok_some.mpr ⟨hr.2, by rw [hr.1]; exact fin⟩)
  have key2 : lp (b_X12_bears_1 F x5) F (x5, (aM A).2.2.2, M4) = lp (b_X12_bears_1 F x5) F (x5, nI (jn (aM A).2.2.2), M4) := by rw [← jn_nI]
  rw [key2]
  refine ok_lp (fun n z => z.2.1 = nI n ∧ n &&& jn (aM A).2.2.2 = n ∧ z.2.2 = M4 ∧ (∃ X, X &&& jn (aM A).2.2.2 = X ∧ z.1.toInt = bVal (aC A) (aM A) X) ∧ ∀ X, X &&& jn (aM A).2.2.2 = X → (n < X ∨ X = 0) → z.1.toInt ≤ bVal (aC A) (aM A) X) ?_ F (jn (aM A).2.2.2) _ (by omega) ⟨rfl, rfl0, rfl, ⟨0, Nat.zero_and _, v0.symm⟩, fun X hX hlt => ?_⟩
  · rintro n ⟨x7, x8, M9⟩ ⟨e1, hn, e2, ⟨X0, hX0, eX0⟩, hall⟩
    dsimp only at e1 e2 eX0 hall
    subst e1; subst e2
    have hnlt : n < 2048 := by
      have : n &&& jn (aM A).2.2.2 ≤ jn (aM A).2.2.2 := Nat.and_le_right
      rw [hn] at this; omega
    have n0 : nI n ≤ (0 : Int32) ↔ n ≤ 0 := nI_le_lit (by decide) (by omega)
    simp only [b_X12_bears_1, b_X12_bears_1c]
    rw [ok_ite, n0]
    refine ⟨fun q => ok_some.mpr ⟨rfl, ?_, ?_⟩, fun q => ?_⟩
    · intro X hX
      have hjb : ∀ s, s < 32 → (jn (mkI X 11)).testBit s = (X s && decide (s < 11)) := fun s hs => by rw [← jn_b]; exact mkI_b hs 11 (by omega)
      have hsubX : jn (mkI X 11) &&& jn (aM A).2.2.2 = jn (mkI X 11) := by
        refine Nat.eq_of_testBit_eq (fun s => ?_)
        rw [Nat.testBit_and]
        cases e : (jn (mkI X 11)).testBit s
        · rfl
        · have h32 : s < 32 := lt32 (x := mkI X 11) e
          rw [hjb s h32, Bool.and_eq_true] at e
          have e2 : bt (aM A).2.2.2 s = true := by
            have := hX s e.1
            unfold upB at this; simp at this; exact this.1
          rw [← jn_b, e2]; rfl
      have hjX : ∀ s, s < 11 → X s = (jn (mkI X 11)).testBit s := fun s hs => by rw [hjb s (by omega)]; simp [hs]
      rw [wX_c (w := wS (aC A)) hjX, nb_c (R := rB (aC A) (aM A).2.2.2) hjX]
      exact hall _ hsubX (by omega)
    · exact ⟨fun s => X0.testBit s, fun s hs => by
        have := sub X0 hX0 s hs
        unfold upB
        rw [this.2, decide_eq_true (show s < 11 by omega)]; rfl, eX0⟩
    · rw [ok_bd]
      refine ok_mono (br2m_ok (r := fun s => M9.1 106 0 s) (by omega) (fun s hs => rfl)) (fun x14 z2 => ?_)
      rw [ok_cl]
      refine ok_mono (weighedM_ok (by omega) (wbd n hn)) (fun r hr => ?_)
      obtain ⟨x16, M15⟩ := r
      obtain ⟨⟨y1, y2, y3⟩, y4⟩ := hr
      dsimp only at y1 y2 y3 y4 ⊢
      subst y4
      rw [wXe n hn] at y1
      have hz : ∀ x, x < 32 → (bt x14 x = true ↔ ∃ s, s < 11 ∧ n.testBit s = true ∧ rB (aC A) (aM A).2.2.2 s x = true) := fun x hx => by
        rw [z2 x hx]
        constructor
        · rintro ⟨s, a, b, c⟩
          have := (sub n hn s b).1
          refine ⟨s, by omega, b, ?_⟩
          unfold rB
          rw [decide_eq_true this, ← e106 s this]; exact c
        · rintro ⟨s, a, b, c⟩
          have := (sub n hn s b).1
          refine ⟨s, by omega, b, ?_⟩
          unfold rB at c
          rw [decide_eq_true this, ← e106 s this] at c; exact c
      have hOlt : jn x14 < 2 ^ cO (aC A) := jn_lt (fun x hx hb' => by
        obtain ⟨s, a, b, d⟩ := (hz x hx).mp hb'
        unfold rB at d; simp at d
        exact rs_lt (fun s hs => (hw.2.2.2.2 s hs).2.2.1) s d.1 x hx d.2)
      have ecx : bsum (kS (aC A) (aM A)) (jn x14) = cX (kS (aC A) (aM A)) (nb (rB (aC A) (aM A).2.2.2) (fun s => n.testBit s)) := sm_c (fun o ho => by
        have : (jn x14).testBit o = nb (rB (aC A) (aM A).2.2.2) (fun s => n.testBit s) o := by
          rw [← jn_b, Bool.eq_iff_iff, hz o (by omega), nb_iff]
        rw [this])
      have ex : x14 = nI (jn x14) := jn_nI x14
      have cb := cX_b (mo := aM A) hw (nb (rB (aC A) (aM A).2.2.2) (fun s => n.testBit s))
      have e14 := e105 _ hOlt
      rw [ok_gi, ex]
      refine ⟨vp_in_nI (by omega) (by decide), ?_⟩
      rw [ok_nm, ok_gi, ok_nm, ok_some, nI_clamp (by omega), tc3, m33]
      have ev : ((x5 - x16) + M15.1 105 0 (jn x14)).toInt = bVal (aC A) (aM A) n := by
        have e5 : (x5 - x16).toInt = x5.toInt - x16.toInt := i_sub (by omega) (by omega)
        rw [i_add (by omega) (by omega), e5, e14, ecx, w1, y1]; rfl
      have e1 : nI n - (1 : Int32) = nI (n - 1) := pk_sub (a := n) (b := 1) (by omega)
      have e2 : (nI n - (1 : Int32)) &&& (aM A).2.2.2 = nI ((n - 1) &&& jn (aM A).2.2.2) := by
        rw [e1]
        conv => lhs; rw [jn_nI (aM A).2.2.2]
        rw [nx_and]
      have hlt : (n - 1) &&& jn (aM A).2.2.2 < n := by
        have : (n - 1) &&& jn (aM A).2.2.2 ≤ n - 1 := Nat.and_le_left
        omega
      refine ⟨vp_of (by decide), (n - 1) &&& jn (aM A).2.2.2, hlt, e2, by rw [Nat.and_assoc, Nat.and_self], rfl, ?_, fun X hX hX2 => ?_⟩
      · dsimp only
        split
        · exact ⟨n, hn, ev⟩
        · exact ⟨X0, hX0, eX0⟩
      · dsimp only
        have hc : X = n ∨ (n < X ∨ X = 0) := by
          rcases hX2 with q3 | q3
          · rcases Nat.lt_trichotomy X n with q4 | q4 | q4
            · have := sub_next n X (jn (aM A).2.2.2) hX hn q4
              omega
            · exact Or.inl q4
            · exact Or.inr (Or.inl q4)
          · exact Or.inr (Or.inr q3)
        split
        · rename_i q3
          rw [i_lt, ev] at q3
          rw [ev]
          rcases hc with rfl | hc
          · exact Int.le_refl _
          · have := hall X hX hc; omega
        · rename_i q3
          rw [i_lt, ev] at q3
          rcases hc with rfl | hc
          · omega
          · exact hall X hX hc
  · have : X &&& jn (aM A).2.2.2 ≤ jn (aM A).2.2.2 := Nat.and_le_right
    rw [hX] at this
    rcases hlt with q | q
    · omega
    · subst q; dsimp only; omega
