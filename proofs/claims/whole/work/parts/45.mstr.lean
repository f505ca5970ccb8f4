/-! the reference's strength, and what stands there -/
theorem strengthM_ok {nb : Nat} {wb : Nat} {F : Nat} (hF : 3000 < F) {C : cty} {M : mm} {mo : mty} (hw : WFb wb C) (h : MVb nb C M) (hy : M.1 100 0 0 = mo.1) (hf : M.1 100 0 2 = mo.2.2.1) {x : Nat} (hx : x < cO C) :
    ok (m_X12_strengthOf F (nI x) mo.2.1 M) (fun r => r.1 = strS C mo x ∧ fr PB M r.2) := by
  have hO := hw.1.2.1
  have hP := hw.1.1
  obtain ⟨⟨p, hp, ep⟩, -, hl, -⟩ := hw.2.2.1 x hx
  obtain ⟨⟨-, -, -, hmd⟩, -, h3, -, hL⟩ := id h
  obtain ⟨g70, g71, g72, g73, g74⟩ := h3 x hx
  unfold m_X12_strengthOf
  rw [ok_ite, b_bit1 _ (show x < 32 by omega)]
  refine ⟨fun q => ok_some.mpr ⟨by unfold strS; rw [q]; rfl, fr_rf⟩, fun q => ?_⟩
  have hb0 : bt mo.2.1 x = false := by
    cases e : bt mo.2.1 x
    · rfl
    · exact absurd e q
  have hin20 : vp_in (nI x) 20 := vp_in_nI (by omega) (by decide)
  rw [ok_gi]
  refine ⟨hin20, ?_⟩
  rw [ok_cl, nI_clamp (by omega), g71, ep]
  refine ok_mono (oathsOf_ok (by omega) hw h hp) (fun r hr => ?_)
  subst hr
  dsimp only
  rw [ok_bd]
  refine ok_mono (Q := fun v => v = nI (aloneS C mo.2.1 x)) ?_ (fun v hv => ?_)
  · unfold aloneS
    rw [ep, nI_clamp (by omega)]
    simp only [ok_ite, ok_some]
    exact ⟨fun q => by rw [if_pos q]; rfl, fun q => by rw [if_neg q]; rfl⟩
  · subst hv
    have ha2 := aloneS_lt C mo.2.1 x
    rw [ok_gi]
    refine ⟨hin20, ?_⟩
    rw [ok_nm, ok_gi]
    refine ⟨vp_of (by decide), ?_⟩
    rw [ok_gi]
    refine ⟨vp_of (by decide), ?_⟩
    rw [ok_bd, tc0, g72]
    refine ok_mono (Q := fun z => z.1 = cLw C (cF C 5 x) mo.1 (cF C 3 x) (nI (aloneS C mo.2.1 x)) ∧ fr PB M z.2) ?_ (fun z hz => ?_)
    · obtain ⟨h79, ics, h80, hlen, h81, hz, hnz⟩ := id hL
      rw [h79, h80, ok_ite]
      have n0 : nI ics.length ≤ (0 : Int32) ↔ ics.length ≤ 0 := nI_le_lit (by decide) (by omega)
      rw [n0]
      refine ⟨fun q => ?_, fun q => ?_⟩
      · have hics : ics = [] := List.length_eq_zero_iff.mp (by omega)
        rw [hz hics]
        simp only [ok_gi, ok_ite, ok_some, ok_nm, g70, hy, tc0]
        refine ⟨hin20, fun q1 => ⟨vp_of (by decide), by unfold plainV; rw [if_pos q1], fr_rf⟩, fun q1 => ⟨hin20, fun q3 => ⟨fun q4 => ⟨?_, fr_rf⟩, fun q4 => ⟨?_, fr_rf⟩⟩, fun q3 => ⟨by unfold plainV; rw [if_neg q1, if_neg q3], fr_rf⟩⟩⟩
        · unfold plainV; rw [if_neg q1, if_pos q3, if_pos q4]
        · unfold plainV; rw [if_neg q1, if_pos q3, if_neg q4, Int32.mul_comm]
      · rw [ok_gi]
        refine ⟨hin20, ?_⟩
        simp only [ok_gi, ok_nm, tc1, tc2, tc3, tc4, rII]
        simp only [g72, g70, hy]
        refine ⟨vp_of (by decide), vp_of (by decide), vp_of (by decide), hin20, vp_of (by decide), ?_⟩
        simp only [show ((100 : Nat) = 93) = False from by simp, show ((70 : Nat) = 93) = False from by simp, false_and, if_false]
        rw [ok_bd]
        refine ok_mono (Q := fun v => v = nI (aloneS C mo.2.1 x)) ?_ (fun v hv => ?_)
        · simp only [ok_ite, ok_some]
          rcases (show aloneS C mo.2.1 x = 0 ∨ aloneS C mo.2.1 x = 1 by omega) with e | e
          · rw [e]; exact ⟨fun _ => rfl, fun q => absurd rfl q⟩
          · rw [e]; exact ⟨fun q => absurd q (by decide), fun _ => rfl⟩
        · subst hv
          have hfr : fr PB M (sI (sI (sI (sI M 93 0 1 (cF C 5 x)) 93 0 2 mo.1) 93 0 3 (cF C 3 x)) 93 0 4 (nI (aloneS C mo.2.1 x))) := by
            have pp : PB 93 0 := by unfold PB; omega
            exact fr_sI (fr_sI (fr_sI (fr_sI fr_rf pp) pp) pp) pp
          rw [ok_gi]
          refine ⟨vp_of (by decide), ?_⟩
          rw [ok_nm, ok_cl]
          have hL' : LVm C (sI (sI (sI (sI M 93 0 1 (cF C 5 x)) 93 0 2 mo.1) 93 0 3 (cF C 3 x)) 93 0 4 (nI (aloneS C mo.2.1 x))) := (MV_fr h hfr (fun k h1 h2 q => by unfold PB at q; omega)).2.2.2.2
          refine ok_mono (worked_ok hF hL' (b := cF C 5 x) (y := mo.1) (k := cF C 3 x) (a := nI (aloneS C mo.2.1 x)) ?_ ?_) (fun r hr => ok_some.mpr ⟨hr.1, fr_tr hfr hr.2⟩)
          · rw [fr_I hfr (by unfold PB; omega), h80]
            exact nI_ne0 (by omega) (by omega)
          · unfold VO; simp [rII]
    · obtain ⟨x14, M15⟩ := z
      obtain ⟨z1, z2⟩ := hz
      dsimp only at z1 z2 ⊢
      subst z1
      rw [ok_cl]
      refine ok_mono between_ok (fun r hr => ?_)
      subst hr
      have e100 : M15.1 100 0 2 = mo.2.2.1 := (fr_I z2 (by unfold PB; omega) 2).trans hf
      have e64 : M15.1 64 0 3 = cMd C := (fr_I z2 (by unfold PB; omega) 3).trans hmd
      have e73 : M15.1 73 0 x = cF C 6 x := (fr_I z2 (by unfold PB; omega) x).trans g73
      dsimp only
      rw [ok_gi]
      refine ⟨vp_of (by decide), ?_⟩
      rw [ok_bd, tc2, e100]
      refine ok_mono (Q := fun v => v = strF C mo x) ?_ (fun v hv => ?_)
      · unfold strF strV
        rw [ok_ite, b_bit1 _ (show x < 32 by omega), ok_gi, tc3, e64, ok_nm, ok_some, ok_some]
        exact ⟨fun q => ⟨vp_of (by decide), by rw [if_pos q]⟩, fun q => by rw [if_neg q]⟩
      · subst hv
        rw [ok_gi]
        refine ⟨hin20, ?_⟩
        rw [ok_nm, e73]
        rcases hl with e | ⟨y, hy', e⟩
        · rw [e, if_neg (by decide), ok_some]
          refine ⟨?_, z2⟩
          unfold strS
          rw [hb0, if_neg (by decide), if_neg (fun q => q.1 e), if_pos e]
        · have hne : cF C 6 x ≠ -1 := by
            rw [e]; intro q
            have := nI_pos (n := y) (by omega)
            rw [q] at this; exact this (by decide)
          rw [e, if_pos (nI_pos' (by omega)), ok_ite, b_bit1 _ (show y < 32 by omega)]
          refine ⟨fun q => ok_some.mpr ⟨?_, z2⟩, fun q => ok_some.mpr ⟨?_, z2⟩⟩
          · unfold strS
            rw [hb0, if_neg (by decide), if_pos ⟨hne, by rw [e, nI_clamp (by omega)]; exact q⟩]
          · unfold strS
            rw [hb0, if_neg (by decide), if_neg (fun q2 => by rw [e, nI_clamp (by omega)] at q2; exact q q2.2), if_neg hne]
def PC : Nat → Nat → Prop := fun k _ => (84 ≤ k ∧ k ≤ 93) ∨ k = 105
def bsum (c : Nat → Int) (j : Nat) : Int := sm 10 (fun o => if j.testBit o then c o else 0)
theorem bsum_b {c : Nat → Int} (hc : ∀ o, 0 ≤ c o ∧ c o ≤ 1004) (j : Nat) : 0 ≤ bsum c j ∧ bsum c j ≤ 10040 := by
  have h1 : 0 ≤ bsum c j := sm_nn (fun o _ => by have := (hc o).1; split <;> omega)
  have h2 : bsum c j ≤ sm 10 (fun _ => 1004) := sm_le (fun o _ => by have := (hc o).2; split <;> omega)
  have h3 : sm 10 (fun _ => 1004) = 10040 := by decide
  omega
theorem kS_b {wb : Nat} {C : cty} (hw : WFb wb C) (mo : mty) (o : Nat) : 0 ≤ kS C mo o ∧ kS C mo o ≤ 1004 := by
  unfold kS
  split
  · exact strS_b hw mo o
  · omega
def B0 (M : mm) : Prop := M.1 105 0 0 = 0
theorem laysStr_ok {nb : Nat} {wb : Nat} {F : Nat} (hF : 3000 < F) {C : cty} {M : mm} {mo : mty} (hw : WFb wb C) (h : MVb nb C M) (hy : M.1 100 0 0 = mo.1) (hf : M.1 100 0 2 = mo.2.2.1) (h0 : B0 M) :
    ok (m_X12_laysStrengths F mo.2.1 M) (fun M' => fr PC M M' ∧ B0 M' ∧ ∀ j, j < 2 ^ cO C → (M'.1 105 0 j).toInt = bsum (kS C mo) j) := by
  have hO := hw.1.2.1
  have hp : 2 ^ cO C ≤ 1024 := Nat.pow_le_pow_right (n := 2) (by decide) hO
  unfold m_X12_laysStrengths
  rw [ok_bd]
  refine ok_mono (Q := fun M' => fr PC M M' ∧ B0 M' ∧ ∀ j, j < 2 ^ cO C → (M'.1 105 0 j).toInt = bsum (kS C mo) j) ?_ (fun M' hM' => ok_some.mpr hM')
  have hpos : 0 < 2 ^ cO C := Nat.pow_pos (by decide)
  refine ok_for (2 ^ cO C) (fun i z => z.1 = nI i ∧ fr PC M z.2 ∧ B0 z.2 ∧ 0 < i ∧ ∀ j, j < i → (z.2.1 105 0 j).toInt = bsum (kS C mo) j) 1 (by omega) (by omega) ⟨rfl, fr_rf, h0, by omega, fun j hj => ?_⟩ ?_
  · have : j = 0 := by omega
    subst this
    dsimp only
    rw [h0]
    show (0 : Int) = _
    exact (sm_c (g := fun _ => 0) (fun o _ => by simp)).trans sm_0 |>.symm
  · rintro i ⟨x1, M2⟩ hi ⟨e1, hfr, hB, hi0, hs⟩
    dsimp only at e1 hfr hB hs
    subst e1
    have hM : MVb nb C M2 := MV_fr h hfr (fun k h1 h2 q => by unfold PC at q; omega)
    have e100 : ∀ j, M2.1 100 0 j = M.1 100 0 j := fun j => fr_I hfr (by unfold PC; omega) j
    have e1 : M2.1 64 0 1 = nI (cO C) := hM.1.2.1
    have hsh : ∀ o, o < 32 → (1 : Int32) <<< (nI o &&& 31) = nI (2 ^ o) := by decide +kernel
    simp only [b_X12_laysStrengths_1, b_X12_laysStrengths_1c, ok_gi, tc1, e1]
    refine ⟨vp_of (by decide), ?_⟩
    rw [hsh _ (by omega), ok_ite, nI_leI (by omega) (by omega)]
    refine ⟨fun hc => ?_, fun hc => ?_⟩
    · have : i = 2 ^ cO C := by omega
      subst this
      exact ok_some.mpr ⟨hfr, hB, hs⟩
    · obtain ⟨o, ho, l1, l2, l3, l4, l5⟩ := low_ok (show i < 1024 by omega) hi0
      have hoO : o < cO C := by
        rcases Nat.lt_or_ge o (cO C) with q | q
        · exact q
        · have := Nat.pow_le_pow_right (n := 2) (by decide) q; omega
      rw [ok_bd]
      refine ok_mono (Q := fun v => v = nI o) ?_ (fun v hv => ?_)
      · refine ok_lp (fun n z => ∃ t, n = o - t ∧ t ≤ o ∧ z = nI t) ?_ F o _ (by omega) ⟨0, rfl, by omega, rfl⟩
        rintro n z ⟨t, hn, ht, rfl⟩
        simp only [b_X12_laysStrengths_2, b_X12_laysStrengths_2c]
        rw [ok_ite, b_bit0 _ (show t < 32 by omega), b_nI (by omega)]
        refine ⟨fun q => ok_some.mpr ⟨o - (t + 1), ?_, t + 1, rfl, ?_, nI_1 t⟩, fun q => ok_some.mpr ?_⟩
        · have : t ≠ o := fun e => by rw [e, l1] at q; cases q
          omega
        · have : t ≠ o := fun e => by rw [e, l1] at q; cases q
          omega
        · rcases Nat.lt_or_ge t o with q2 | q2
          · exact absurd (l2 t q2) q
          · have : t = o := by omega
            exact congrArg nI this
      · subst hv
        have hand : nI i &&& (nI i - (1 : Int32)) = nI (i &&& (i - 1)) := by
          have : nI i - (1 : Int32) = nI (i - 1) := pk_sub (a := i) (b := 1) (by omega)
          rw [this, nx_and]
        rw [hand, ok_gi]
        refine ⟨vp_in_nI (by omega) (by decide), ?_⟩
        rw [ok_bd, hsh o (by omega)]
        have hsum : bsum (kS C mo) i = bsum (kS C mo) (i &&& (i - 1)) + kS C mo o := by
          unfold bsum
          rw [sm_c (f := fun x => if i.testBit x then kS C mo x else 0) (g := fun x => (if (i &&& (i - 1)).testBit x then kS C mo x else 0) + if x = o then kS C mo o else 0) (fun x hx => by
            rw [l3 x hx]
            by_cases e : x = o
            · subst e; simp [l1]
            · simp [e]), sm_add, sm_ind ho]
        have kb := fun j => bsum_b (fun o => kS_b hw mo o) j
        have kbo := kS_b hw mo o
        refine ok_mono (Q := fun z => z.1.toInt = kS C mo o ∧ fr PC M2 z.2 ∧ z.2.1 105 = M2.1 105) ?_ (fun z hz => ?_)
        · rw [ok_ite, nI_eq (by omega) (by omega)]
          refine ⟨fun q => ?_, fun q => ?_⟩
          · rw [ok_cl]
            refine ok_mono (strengthM_ok hF hw hM ((e100 0).trans hy) ((e100 2).trans hf) hoO) (fun r hr => ok_some.mpr ⟨?_, fr_mono hr.2 (fun k n q => Or.inl q), ?_⟩)
            · rw [hr.1]; unfold kS; rw [if_pos hoO]
            · funext n; exact (hr.2.2 105 n (by unfold PB; omega)).1
          · rw [ok_gi, ok_some]
            refine ⟨vp_in_nI (by omega) (by decide), ?_, fr_rf, rfl⟩
            rw [nI_clamp (by omega), hs (2 ^ o) (by omega)]
            unfold bsum
            rw [sm_c (g := fun x => if x = o then kS C mo o else 0) (fun x hx => by
              rw [Nat.testBit_two_pow]
              by_cases e : x = o
              · subst e; simp
              · rw [if_neg e, if_neg (fun q => e (of_decide_eq_true q).symm)]), sm_ind ho]
        · obtain ⟨x7, M8⟩ := z
          obtain ⟨z1, z2, z3⟩ := hz
          dsimp only at z1 z2 z3 ⊢
          rw [ok_gi]
          refine ⟨vp_in_nI (by omega) (by decide), ?_⟩
          rw [ok_nm, ok_some, nI_clamp (by omega), nI_clamp (by omega)]
          have hadd : (M2.1 105 0 (i &&& (i - 1)) + x7).toInt = bsum (kS C mo) i := by
            have g1 := hs (i &&& (i - 1)) l4
            have g2 := kb (i &&& (i - 1))
            rw [i_add (by omega) (by omega)]; omega
          refine ⟨by omega, nI_1 i, fr_sI (fr_tr hfr z2) (Or.inr rfl), ?_, by omega, fun j hj => ?_⟩
          · unfold B0
            dsimp only
            rw [rII, if_neg (by omega), z3]; exact hB
          · dsimp only
            rw [rII]
            by_cases e : j = i
            · subst e; rw [if_pos ⟨rfl, rfl, rfl⟩]; exact hadd
            · rw [if_neg (fun q => e q.2.2), z3]; exact hs j (by omega)
