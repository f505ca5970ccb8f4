/-! the reference's surest -/
theorem MV_x {nb : Nat} {C : cty} {M M' : mm} {P : Nat → Nat → Nat → Prop} (h : MVb nb C M) (f : fi P M M') (hP : ∀ k n i, P k n i → ¬ (64 ≤ k ∧ k ≤ 81) ∨ ((k = 75 ∨ k = 77 ∨ k = 78) ∧ i = cS C)) : MVb nb C M' := by
  have e : ∀ k i, 64 ≤ k → k ≤ 81 → ((k ≠ 75 ∧ k ≠ 77 ∧ k ≠ 78) ∨ i < cS C) → M'.1 k 0 i = M.1 k 0 i := fun k i h1 h2 h3 => fi_I f (fun q => by have := hP _ _ _ q; omega)
  obtain ⟨h1, h2, h3, h4, h79, ics, h80, hl, h81, a, b⟩ := h
  refine ⟨by rw [e 64 0 (by omega) (by omega) (by omega), e 64 1 (by omega) (by omega) (by omega), e 64 2 (by omega) (by omega) (by omega), e 64 3 (by omega) (by omega) (by omega)]; exact h1, fun i hi => by rw [e 68 i (by omega) (by omega) (by omega), e 69 i (by omega) (by omega) (by omega)]; exact h2 i hi, fun i hi => by rw [e 70 i (by omega) (by omega) (by omega), e 71 i (by omega) (by omega) (by omega), e 72 i (by omega) (by omega) (by omega), e 73 i (by omega) (by omega) (by omega), e 74 i (by omega) (by omega) (by omega)]; exact h3 i hi, fun i hi => by rw [e 75 i (by omega) (by omega) (by omega), e 76 i (by omega) (by omega) (by omega), e 77 i (by omega) (by omega) (by omega), e 78 i (by omega) (by omega) (by omega)]; exact h4 i hi, by rw [e 79 0 (by omega) (by omega) (by omega)]; exact h79, ics, by rw [e 80 0 (by omega) (by omega) (by omega)]; exact h80, hl, fun i c hc => by rw [e 81 i (by omega) (by omega) (by omega)]; exact h81 i c hc, a, b⟩
theorem mv_ex {C : cty} {w : Int32} {j : Nat} {M : mm} (h : MV C M) (h75 : M.1 75 0 (cS C) = w) (h77 : M.1 77 0 (cS C) = nI j) (h78 : M.1 78 0 (cS C) = 0) : MVb (cS C) (exC C w j) M := by
  have e : ∀ f i, f < 8 → cF (exC C w j) f i = cF C f i := fun f i h => exF (Or.inl h)
  obtain ⟨h1, h2, h3, h4, hL⟩ := h
  refine ⟨h1, fun i hi => by rw [e 0 _ (by omega), e 1 _ (by omega)]; exact h2 i hi, fun i hi => by rw [e 3 _ (by omega), e 4 _ (by omega), e 5 _ (by omega), e 6 _ (by omega), e 7 _ (by omega)]; exact h3 i hi, fun i hi => ?_, hL⟩
  by_cases q : i = cS C
  · subst q
    rw [exF8, exF10, exF11]
    exact ⟨h75, fun q => absurd q (Nat.lt_irrefl _), h77, h78⟩
  · have hi' : i < cS C := by
      have : i < cS C + 1 := hi
      omega
    rw [exF (f := 8) (Or.inr q), exF (f := 9) (Or.inr q), exF (f := 10) (Or.inr q), exF (f := 11) (Or.inr q)]
    exact h4 i hi'
theorem popN_le (x : Int32) : popN x ≤ 11 := by
  unfold popN
  exact Nat.le_trans List.countP_le_length (by rw [List.length_range]; exact Nat.le_refl _)
def PZs (C : cty) : Nat → Nat → Nat → Prop := fun k n i => PV k n i ∨ ((k = 75 ∨ k = 77 ∨ k = 78) ∧ i = cS C) ∨ (k = 100 ∧ i = 3)
def RX (C : cty) (mo : mty) (w : Int32) (M0 M : mm) : Prop := (MV C M ∧ B0 M ∧ MoR M (exM C mo)) ∧ M.1 75 0 (cS C) = w ∧ M.1 78 0 (cS C) = 0 ∧ fi (PZs C) M0 M
theorem RX_fi {C : cty} {mo : mty} {w : Int32} {M0 M M' : mm} (h : RX C mo w M0 M) (f : fi (fun k n i => PD k n ∨ (k = 77 ∧ i = cS C)) M M') (hb : B0 M') : RX C mo w M0 M' := by
  obtain ⟨⟨h1, h2, h3⟩, h4, h5, h6⟩ := h
  refine ⟨⟨MV_x h1 f (fun k n i q => by unfold PD at q; omega), hb, ?_⟩, by rw [fi_I f (by unfold PD; omega)]; exact h4, by rw [fi_I f (by unfold PD; omega)]; exact h5, fi_tr h6 (fi_mono f (fun k n i q => ?_))⟩
  · unfold MoR at h3 ⊢
    rw [fi_I f (by unfold PD; omega), fi_I f (by unfold PD; omega), fi_I f (by unfold PD; omega), fi_I f (by unfold PD; omega)]; exact h3
  · rcases q with q | q
    · exact Or.inl (Or.inr q)
    · exact Or.inr (Or.inl ⟨by omega, q.2⟩)
theorem ms1_ok {F : Nat} (hF : 3000 < F) {C : cty} {mo : mty} {w : Int32} {M0 M : mm} (hw : WF C) (hW : 0 ≤ w.toInt ∧ w.toInt ≤ 99) (hup : ∀ s, s < 32 → bt mo.2.2.2 s = true → s < cS C) (hms : MS C mo) (h : RX C mo w M0 M) :
    ok (lp (b_X12_surest_1 F (nI (cS C))) F ((-1 : Int32), (0 : Int32), (1 : Int32), M)) (fun r => RX C mo w M0 r.2.2 ∧ ∃ c, SrOn (srV C mo w) (AlP (cO C)) r.1 c ∧ (0 ≤ r.1 → r.2.1 = c)) := by
  have hS := hw.1.2.2.1
  have hO := hw.1.2.1
  have hP := hw.1.1
  have hp := p2_le hO
  refine ok_for (2 ^ cO C) (fun j z => 1 ≤ j ∧ z.2.2.1 = nI j ∧ RX C mo w M0 z.2.2.2 ∧ ∃ c, SrOn (srV C mo w) (fun i => AlP (cO C) i ∧ i < j) z.1 c ∧ (0 ≤ z.1 → z.2.1 = c)) 1 (by omega) (by omega) ⟨Nat.le_refl _, rfl, h, -1, Or.inl ⟨rfl, rfl, fun i hi => ?_⟩, fun q => absurd (show (0 : Int32) ≤ -1 from q) (by decide)⟩ ?_
  · obtain ⟨⟨a, b, c, d, e⟩, f⟩ := hi
    have : 2 ^ a ≤ pw b a := Nat.right_le_or
    have := Nat.pow_pos (n := a) (show 0 < 2 by decide)
    omega
  rintro j ⟨x11, x12, x13, M14⟩ hj ⟨j1, e1, rx, c, sr, hc⟩
  dsimp only at e1 rx sr hc
  subst e1
  simp only [b_X12_surest_1, b_X12_surest_1c]
  rw [ok_cl]
  refine ok_mono (allOaths_ok hw rx.1.1) (fun r hr => ?_)
  subst hr
  dsimp only
  rw [ok_ite, nI_ltI (by omega) (by omega)]
  refine ⟨fun q => ok_some.mpr ⟨rx, c, SrOn_c sr (fun i => ⟨fun q2 => q2.1, fun q2 => ⟨q2, ?_⟩⟩), hc⟩, fun q => ?_⟩
  · obtain ⟨a, b, d1, d2, rfl⟩ := q2
    have := pw_lt d1 d2
    omega
  have hj' : j < 2 ^ cO C := by omega
  rw [ok_cl]
  refine ok_mono (bits_ok (by omega)) (fun r hr => ?_)
  subst hr
  dsimp only
  have hpn := popN_le (nI j)
  rw [ok_bd]
  refine ok_mono (Q := fun z => RX C mo w M0 z.2.2 ∧ ∃ c, SrOn (srV C mo w) (fun i => AlP (cO C) i ∧ i < j + 1) z.1 c ∧ (0 ≤ z.1 → z.2.1 = c)) ?_ (fun z hz => ok_some.mpr ⟨by omega, by omega, nI_1 j, hz⟩)
  have e2 : nI (popN (nI j)) ≤ (2 : Int32) ↔ popN (nI j) ≤ 2 := (nI_leI (by omega) (by omega) : nI (popN (nI j)) ≤ nI 2 ↔ popN (nI j) ≤ 2)
  rw [ok_ite, e2, two_ok hO hj' (by omega)]
  refine ⟨fun al => ?_, fun al => ok_some.mpr ⟨rx, c, SrOn_c sr (fun i => ⟨fun q2 => ⟨q2.1, by omega⟩, fun q2 => ⟨q2.1, ?_⟩⟩), hc⟩⟩
  rotate_left
  · have : i ≠ j := fun e => al (e ▸ q2.1)
    omega
  have hb : ∀ i, (AlP (cO C) i ∧ i < j) → i < j := fun i hi => hi.2
  have he : ∀ i, (AlP (cO C) i ∧ i < j + 1) ↔ (AlP (cO C) i ∧ i < j) ∨ i = j := fun i => ⟨fun q2 => by
    by_cases e : i = j
    · exact Or.inr e
    · exact Or.inl ⟨q2.1, by omega⟩, fun q2 => q2.elim (fun q3 => ⟨q3.1, by omega⟩) (fun q3 => by subst q3; exact ⟨al, by omega⟩)⟩
  obtain ⟨k1, k2⟩ := SrOn_add sr hb he
  have hin : vp_in (nI (cS C)) 22 := vp_in_nI (by omega) (by decide)
  rw [ok_gi, ok_nm, nI_clamp (by omega), ok_gi]
  refine ⟨hin, vp_of (by decide), ?_⟩
  have f19 : fi (fun k n i => PD k n ∨ (k = 77 ∧ i = cS C)) M14 (sI M14 77 0 (cS C) (nI j)) := fi_sI fi_rf (Or.inr ⟨rfl, rfl⟩)
  have b19 : B0 (sI M14 77 0 (cS C) (nI j)) := by
    have := rx.1.2.1
    unfold B0 at this ⊢
    rw [rII, if_neg (by omega)]; exact this
  have rx19 := RX_fi rx f19 b19
  have v77 : (sI M14 77 0 (cS C) (nI j)).1 77 0 (cS C) = nI j := by rw [rII, if_pos ⟨rfl, rfl, rfl⟩]
  generalize sI M14 77 0 (cS C) (nI j) = M19 at rx19 v77 b19 ⊢
  have mv19 := mv_ex rx19.1.1 rx19.2.1 v77 rx19.2.2.1
  obtain ⟨m0, m1, m2, m3⟩ := id rx19.1.2.2
  have wx := wfEx hw hW hj'
  rw [ok_cv, tc1, m1]
  refine ok_mono (laysStr_ok (mo := exM C mo) hF wx mv19 m0 m2 b19) (fun M20 h20 => ?_)
  obtain ⟨f20, b20, s20⟩ := h20
  have mv20 : MVb (cS C) (exC C w j) M20 := MV_fr mv19 f20 (fun k h1 h2 q => by unfold PC at q; omega)
  have m320 : M20.1 100 0 3 = exU C mo.2.2.2 := (fr_I f20 (by unfold PC; omega) 3).trans m3
  have hup' : ∀ s, s < 32 → bt (exU C mo.2.2.2) s = true → s < cS (exC C w j) := ex_up hS hup
  have hr11 : exU C mo.2.2.2 = rst (exU C mo.2.2.2) 11 := b_ext (fun i hi => by
    rw [rst_b (by omega) hi]
    cases e : bt (exU C mo.2.2.2) i
    · rfl
    · have := hup' i hi e
      have : i < cS C + 1 := this
      simp; omega)
  rw [ok_gi, tc3, ok_cb, m320]
  refine ⟨vp_of (by decide), ?_⟩
  rw [hr11]
  refine ok_mono (standU_ok (mo := exM C mo) (up := exU C mo.2.2.2) hF wx mv20 (Nat.le_refl 11) hup' s20) (fun r hr => ?_)
  obtain ⟨b22, M21⟩ := r
  obtain ⟨r1, r2⟩ := hr
  dsimp only at r1 r2 ⊢
  have f21 : fr PD M19 M21 := fr_tr (fr_mono f20 (fun k n q => by unfold PC at q; unfold PD; omega)) (fr_mono r2 (fun k n q => Or.inr (Or.inr q)))
  have b21 : B0 M21 := by unfold B0 at b20 ⊢; rw [fr_I r2 (by omega)]; exact b20
  have rx21 : RX C mo w M0 M21 := RX_fi rx19 (fi_fr f21 (fun k n i q => Or.inl q)) b21
  have hst : b22 = true ↔ HallU C mo mo.2.2.2 11 ∧ NewP C mo mo.2.2.2 w.toInt j := r1.trans (ex_hall (mo := mo) (w := w) (j := j) hw hup)
  rw [ok_ite]
  refine ⟨fun q2 => ?_, fun q2 => ok_some.mpr ⟨rx21, c, k2 ?_, hc⟩⟩
  · have hn := hst.mp q2
    have rmx : RMob (cS C) (exC C w j) (exM C mo) M21 := ⟨MV_fr mv19 f21 (fun k h1 h2 q => by unfold PD at q; omega), b21, MoR_fr rx19.1.2.2 f21 (by unfold PD; omega)⟩
    rw [ok_cl]
    refine ok_mono (sureOf_ok hF wx rmx hup' (show cS C < 32 by omega)) (fun r hr => ?_)
    obtain ⟨x24, M23⟩ := r
    obtain ⟨g1, g2, g3⟩ := hr
    dsimp only at g1 g2 g3 ⊢
    have rx23 : RX C mo w M0 M23 := RX_fi rx21 (fi_fr g3 (fun k n i q => Or.inl q)) g2.2.1
    have e24 : x24 = srV C mo w j := by
      unfold srV srB
      rw [if_pos (pB_t hn.2)]; exact g1
    have pos := srB_n (mo := mo) (w := w) (b := 2 ^ cP C) hw hW hj' (p26 _ hP).2
    have pos' : 0 ≤ (srV C mo w j).toInt := by
      rcases pos with q3 | q3
      · exact q3.2
      · exact absurd (pB_t hn.2) q3.1
    refine ok_jn (P := c < srV C mo w j) (fun hP' => ok_some.mpr ⟨rx23, srV C mo w j, k1 hP', fun _ => e24⟩) (fun k hk => ?_)
    have z0 : (0 : Int32).toInt = 0 := rfl
    have m1' : (-1 : Int32).toInt = -1 := rfl
    rw [ok_ite]
    refine ⟨fun q3 => hk ?_, fun q3 => ?_⟩
    · rcases sr with ⟨a, b, d⟩ | ⟨i, a, b, d, f, g⟩
      · rw [b, i_lt, m1']; omega
      · rw [b, i_lt, z0] at q3
        have : (nI i).toInt = i := nI_toInt (by
          obtain ⟨⟨u, v, u1, u2, rfl⟩, u3⟩ := a
          omega)
        omega
    · have q3' : 0 ≤ x11 := by rw [i_le, z0]; rw [i_lt, z0] at q3; omega
      rw [hc q3', e24, ok_ite]
      exact ⟨fun q4 => hk q4, fun q4 => ok_some.mpr ⟨rx23, c, k2 q4, fun _ => rfl⟩⟩
  · have hn : ¬ NewP C mo mo.2.2.2 w.toInt j := fun a => q2 (hst.mpr ⟨hms, a⟩)
    have ev : srV C mo w j = -1 := by
      unfold srV srB
      rw [pB_f hn]; rfl
    have m1' : (-1 : Int32).toInt = -1 := rfl
    rw [ev, i_lt, m1']
    rcases sr with ⟨a, b, d⟩ | ⟨i, a, b, d, f, g⟩
    · rw [b, m1']; omega
    · rw [d]; omega
theorem RMs_x {A : sty} {M M' : mm} {P : Nat → Nat → Nat → Prop} (h : RMs A M) (f : fi P M M') (hP : ∀ k n i, P k n i → GM k n i ∨ k = 100 ∨ k = 105 ∨ (75 ≤ k ∧ k ≤ 78)) : RMs A M' := by
  obtain ⟨⟨h1, h2⟩, ⟨h3, h4⟩, h5, h6, h7, h8, h9⟩ := h
  have e : ∀ k j, k = 64 ∨ (94 ≤ k ∧ k ≤ 99) ∨ k = 63 ∨ (102 ≤ k ∧ k ≤ 104) → M'.1 k 0 j = M.1 k 0 j := fun k j hk => fi_I f (fun q => by have := hP _ _ _ q; unfold GM at this; omega)
  have e13 : ∀ j, j = 1 ∨ j = 54 → M'.1 13 0 j = M.1 13 0 j := fun j hj => fi_I f (fun q => by have := hP _ _ _ q; unfold GM at this; omega)
  refine ⟨⟨by rw [e 64 4 (by omega)]; exact h1, by rw [e 64 5 (by omega)]; exact h2⟩, ⟨by rw [e13 54 (by omega)]; exact h3, fun i u hu => RwM_c (h4 i u hu) (fun j => e 103 j (by omega))⟩, fun k hk => ⟨by rw [e 104 k (by omega)]; exact (h5 k hk).1, fun v hv => ?_⟩, LiM_c h6 (fun k j hk => e k j (by omega)), HeM_c h7 (fun k j hk => e k j (by omega)), ?_, fun i x hx => ?_⟩
  · obtain ⟨a, b, c⟩ := (h5 k hk).2 v hv
    exact ⟨RwM_c a (fun j => e 102 j (by omega)), LiM_c b (fun k j hk => e k j (by omega)), HeM_c c (fun k j hk => e k j (by omega))⟩
  · rw [e13 1 (by omega)]; exact h8
  · rw [e 63 i (by omega)]; exact h9 i x hx
theorem surestM {F : Nat} (hF : 3000 < F) {A : sty} {N : Nat} {M : mm} {w a : Int32} (hA : AOK A N) (h : RM A M) : ok (m_X12_surest F w a M) (fun r => SrA (aC A) (aM A) w a r.1 ∧ RM A r.2 ∧ FrM M r.2) := by
  have hS := hA.1.1.2.2.1
  have z0 : (0 : Int32).toInt = 0 := rfl
  have z99 : (99 : Int32).toInt = 99 := rfl
  have h1 : RM A (sI M 13 0 0 0) := RM_fi h thr_f PT_GM
  have f1 : fi PV M (sI M 13 0 0 0) := fi_mono thr_f (fun k n i q => Or.inl q)
  unfold m_X12_surest
  rw [ok_nm, ok_cb]
  generalize sI M 13 0 0 0 = M1 at h1 f1 ⊢
  have no : ¬ ((0 ≤ w ∧ w ≤ 99) ∧ 0 ≤ a ∧ a ≤ 1) → SrA (aC A) (aM A) w a (-1) ∧ RM A M1 ∧ FrM M M1 := fun q => ⟨Or.inl ⟨q, rfl⟩, RM_pv h f1 h1.1⟩
  refine ok_mono within_ok (fun r hr => ?_)
  subst hr
  dsimp only
  rw [ok_ite, decide_eq_true_iff]
  refine ⟨fun q1 => ?_, fun q => ok_some.mpr (no (fun q2 => q q2.1))⟩
  rw [ok_cb]
  refine ok_mono within_ok (fun r hr => ?_)
  subst hr
  dsimp only
  rw [ok_ite, decide_eq_true_iff]
  refine ⟨fun q2 => ?_, fun q => ok_some.mpr (no (fun q2 => q q2.2))⟩
  have hW : 0 ≤ w.toInt ∧ w.toInt ≤ 99 := by have := q1; simp only [i_le] at this; omega
  obtain ⟨m0, m1, m2, m3⟩ := id h1.1.2.2
  have hin : vp_in (nI (cS (aC A))) 22 := vp_in_nI (by omega) (by decide)
  rw [ok_gi, ok_nm, ok_gi, ok_nm, tc2, tc3, h1.1.1.1.2.2.1, m3, ok_gi, ok_nm, nI_clamp (by omega), ok_gi, ok_nm, ok_gi, ok_gi, ok_nm]
  refine ⟨vp_of (by decide), vp_of (by decide), hin, hin, vp_of (by decide), vp_of (by decide), ?_⟩
  have e3 : (sI (sI M1 75 0 (cS (aC A)) w) 78 0 (cS (aC A)) 0).1 100 0 3 = (aM A).2.2.2 := by rw [rII, if_neg (by omega), rII, if_neg (by omega)]; exact m3
  rw [e3]
  have f10 : fi (PZs (aC A)) M1 (sI (sI (sI M1 75 0 (cS (aC A)) w) 78 0 (cS (aC A)) 0) 100 0 3 ((aM A).2.2.2 ||| ((1 : Int32) <<< (nI (cS (aC A)) &&& 31)))) := fi_sI (fi_sI (fi_sI fi_rf (Or.inr (Or.inl ⟨Or.inl rfl, rfl⟩))) (Or.inr (Or.inl ⟨Or.inr (Or.inr rfl), rfl⟩))) (Or.inr (Or.inr ⟨rfl, rfl⟩))
  have rx : RX (aC A) (aM A) w M1 (sI (sI (sI M1 75 0 (cS (aC A)) w) 78 0 (cS (aC A)) 0) 100 0 3 ((aM A).2.2.2 ||| ((1 : Int32) <<< (nI (cS (aC A)) &&& 31)))) := by
    refine ⟨⟨MV_x h1.1.1 f10 (fun k n i q => by unfold PZs PV PT PD at q; omega), ?_, ?_⟩, ?_, ?_, f10⟩
    · have := h1.1.2.1
      unfold B0 at this ⊢
      rw [rII, if_neg (by omega), rII, if_neg (by omega), rII, if_neg (by omega)]; exact this
    · unfold MoR exM exU; simp [rII, m0, m1, m2]
    · rw [rII, if_neg (by omega), rII, if_neg (by omega), rII, if_pos ⟨rfl, rfl, rfl⟩]
    · rw [rII, if_neg (by omega), rII, if_pos ⟨rfl, rfl, rfl⟩]
  generalize sI (sI (sI M1 75 0 (cS (aC A)) w) 78 0 (cS (aC A)) 0) 100 0 3 ((aM A).2.2.2 ||| ((1 : Int32) <<< (nI (cS (aC A)) &&& 31))) = M10 at rx ⊢
  rw [ok_bd]
  refine ok_mono (ms1_ok hF hA.1 hW hA.2.1.1.2.2.2 hA.2.1.2 rx) (fun r hr => ?_)
  obtain ⟨x28, x29, M30⟩ := r
  obtain ⟨rx30, c, sr, hc⟩ := hr
  dsimp only at rx30 sr hc ⊢
  rw [ok_gi, ok_nm]
  refine ⟨vp_of (by decide), ?_⟩
  have f31 : fi (fun k _ i => k = 100 ∧ i = 3) M30 (sI M30 100 0 3 (aM A).2.2.2) := fi_sI fi_rf ⟨rfl, rfl⟩
  have fA : fi (PZs (aC A)) M (sI M30 100 0 3 (aM A).2.2.2) := fi_tr (fi_mono f1 (fun k n i q => Or.inl q)) (fi_tr rx30.2.2.2 (fi_mono f31 (fun k n i q => Or.inr (Or.inr q))))
  have rmo : RMo (aC A) (aM A) (sI M30 100 0 3 (aM A).2.2.2) := by
    refine ⟨MV_x rx30.1.1 f31 (fun k n i q => by omega), ?_, ?_⟩
    · have := rx30.1.2.1
      unfold B0 at this ⊢
      rw [rII, if_neg (by omega)]; exact this
    · obtain ⟨a0, a1, a2, a3⟩ := rx30.1.2.2
      unfold MoR; simp [rII, a0, a1, a2, exM]
  have fin : RM A (sI M30 100 0 3 (aM A).2.2.2) ∧ FrM M (sI M30 100 0 3 (aM A).2.2.2) := ⟨⟨rmo, RMs_x h.2 fA (fun k n i q => by unfold PZs PV PT PD at q; unfold GM; omega)⟩, FrM_fi fA (fun k n i q => by unfold PZs PV PT PD at q; omega)⟩
  generalize sI M30 100 0 3 (aM A).2.2.2 = M31 at fin ⊢
  refine ok_jn (P := (if a = 0 then c else x28) = x28) (fun hP => ok_some.mpr ⟨Or.inr ⟨⟨q1, q2⟩, x28, c, sr, hP.symm⟩, fin⟩) (fun k hk => ?_)
  rw [ok_ite]
  refine ⟨fun q => hk ?_, fun q => ?_⟩
  · rcases sr with ⟨a', b', d'⟩ | ⟨i, ⟨u, v, u1, u2, u3⟩, b', d', f', g'⟩
    · rw [a', b', ite_self]
    · exfalso
      have := pw_lt (n := 10) (show u < 10 by have := hA.1.1.2.1; omega) u2
      rw [b', u3, i_lt, z0, nI_toInt (by omega)] at q
      omega
  · have q' : 0 ≤ x28 := by rw [i_le, z0]; rw [i_lt, z0] at q; omega
    rw [ok_ite]
    refine ⟨fun q3 => hk (by rw [if_neg (by rw [q3]; decide)]), fun q3 => ok_some.mpr ⟨Or.inr ⟨⟨q1, q2⟩, x28, c, sr, ?_⟩, fin⟩⟩
    have : a = 0 := by
      have z1 : (1 : Int32).toInt = 1 := rfl
      have q5 := q2
      simp only [i_le, z0, z1] at q5
      have : a.toInt ≠ 1 := fun e => q3 (i_eq.mpr (by rw [e, z1]))
      exact i_eq.mpr (by rw [z0]; omega)
    rw [if_pos this]; exact hc q'
