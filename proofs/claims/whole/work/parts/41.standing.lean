/-! the wall: standing -/
theorem hall_c {w w' : Nat → Int} {R R' : Nat → Nat → Bool} {c c' : Nat → Int} {U : Nat → Bool} (h1 : ∀ s, s < 11 → U s = true → w s = w' s ∧ ∀ o, o < 10 → R s o = R' s o) (h2 : ∀ o, o < 10 → (∃ s, s < 11 ∧ U s = true ∧ R' s o = true) → c o = c' o) (H : Hall w R c U) : Hall w' R' c' U := by
  intro X hX
  have h := H X hX
  have e1 : wX w' X = wX w X := sm_c (fun s hs => by
    cases e : X s
    · rfl
    · simp only [if_true]; exact (h1 s hs (hX s e)).1.symm)
  have e3 : ∀ o, o < 10 → nb R' X o = nb R X o := fun o ho => by
    cases e : nb R X o
    · cases e' : nb R' X o
      · rfl
      · obtain ⟨s, a, b, d⟩ := nb_iff.mp e'
        have := nb_false e a b
        rw [(h1 s a (hX s b)).2 o ho, d] at this; cases this
    · obtain ⟨s, a, b, d⟩ := nb_iff.mp e
      exact nb_iff.mpr ⟨s, a, b, by rw [← (h1 s a (hX s b)).2 o ho]; exact d⟩
  have e2 : cX c' (nb R' X) = cX c (nb R X) := sm_c (fun o ho => by
    rw [e3 o ho]
    cases e : nb R X o
    · rfl
    · simp only [if_true]
      obtain ⟨s, a, b, d⟩ := nb_iff.mp e
      exact (h2 o ho ⟨s, a, hX s b, by rw [← (h1 s a (hX s b)).2 o ho]; exact d⟩).symm)
  rw [e1, e2]; exact h
def PW (o : Nat) : Nat → Nat → Prop := fun k n => ((k = 36 ∨ k = 37 ∨ k = 38) ∧ n = o) ∨ k = 10 ∨ k = 47 ∨ k = 48 ∨ k = 49 ∨ k = 52 ∨ k = 53 ∨ k = 54
def WI (M : mm) : Prop := ∀ x, x < 10 → 0 ≤ lfM M x
def FU (C : cty) (mo : mty) (up : Int32) (M : mm) : Prop :=
  (∀ t, t < 32 → wL M t = bt up t) ∧ (∀ s, s < cS C → M.1 47 0 s = rS C up s) ∧ (∃ c, (∀ x, x < cO C → c x = (strS C mo x).toInt) ∧ Flow (wS C) (wR M) c (wL M) (ldM M) (lfM M)) ∧ Full (wS C) (wL M) (ldM M)
theorem wS_b {wb : Nat} {C : cty} (hw : WFb wb C) (s : Nat) : 0 ≤ wS C s ∧ wS C s ≤ 99 := by
  unfold wS
  by_cases h : s < cS C
  · rw [if_pos h]; exact (hw.2.2.2.2 s h).1
  · rw [if_neg h]; omega
theorem lt32 {x : Int32} {i : Nat} (h : bt x i = true) : i < 32 := by
  rcases Nat.lt_or_ge i 32 with h1 | h1
  · exact h1
  · rw [b_big h1] at h; cases h
theorem CV_PW {C : cty} {o : Nat} {M M' : mm} {P : Nat → Nat → Prop} (h : CV C o M) (f : fr P M M') (hP : ∀ k n, P k n → k = 10 ∨ 47 ≤ k) : CV C o M' :=
  CV_fr h f (fun k hk q => by have := hP k o q; omega)
theorem hallU_of {C : cty} {mo : mty} {up : Int32} {c : Nat → Int} {R : Nat → Nat → Bool} {n : Nat} (hw : WF C) (hup : ∀ s, s < 32 → bt up s = true → s < cS C) (hc : ∀ x, x < cO C → c x = (strS C mo x).toInt) (hR : ∀ s, s < cS C → ∀ x, R s x = bt (rS C up s) x) : Hall (wS C) R c (upB up n) ↔ HallU C mo up n := by
  have hb : ∀ s, upB up n s = true → s < cS C := fun s q => by
    unfold upB at q; simp at q; exact hup s (lt32 q.1) q.1
  have hr : ∀ s, s < cS C → ∀ x, bt (rS C up s) x = true → x < cO C := fun s hs x hx => rs_lt (fun s hs => (hw.2.2.2.2 s hs).2.2.1) s hs x (lt32 hx) hx
  constructor
  · refine hall_c (fun s hs hU => ⟨rfl, fun x _ => ?_⟩) (fun x hx hs => ?_)
    · unfold rB; rw [hR s (hb s hU)]; simp [hb s hU]
    · obtain ⟨s, h1, h2, h3⟩ := hs
      unfold rB at h3; simp at h3
      have := hr s h3.1 x h3.2
      unfold kS; rw [if_pos this, hc x this]
  · refine hall_c (fun s hs hU => ⟨rfl, fun x _ => ?_⟩) (fun x hx hs => ?_)
    · unfold rB; rw [hR s (hb s hU)]; simp [hb s hU]
    · obtain ⟨s, h1, h2, h3⟩ := hs
      rw [hR s (hb s h2)] at h3
      have := hr s (hb s h2) x h3
      unfold kS; rw [if_pos this, hc x this]
theorem stand1_ok {F : Nat} (hF : 2000 < F) {o i : Nat} {C : cty} {M : mm} {mo : mty} (hw : WF C) (h : CV C o M) (hm : MoM i M mo) (hy : mo.1 ≠ -1) (hI : WI M) :
    ok (lp (b_X9_standing_1 F o i) F ((0 : Int32), M)) (fun M' => CV C o M' ∧ fr (fun k n => PL o k n ∨ k = 48) M M' ∧ WI M' ∧ ∀ x, x < cO C → M'.1 48 0 x = strS C mo x) := by
  have hO := hw.1.2.1
  refine ok_for (cO C) (fun j z => z.1 = nI j ∧ CV C o z.2 ∧ fr (fun k n => PL o k n ∨ k = 48) M z.2 ∧ WI z.2 ∧ ∀ x, x < j → z.2.1 48 0 x = strS C mo x) 0 (by omega) (by omega) ⟨rfl, h, fr_rf, hI, fun x hx => by omega⟩ ?_
  rintro j ⟨x2, M3⟩ hj ⟨e1, hC, hf, hI3, hs⟩
  dsimp only at e1 hC hf hI3 hs
  subst e1
  have e5 : M3.1 1 o 5 = nI (cO C) := hC.1.1.2.1
  simp only [b_X9_standing_1, b_X9_standing_1c, e5, ok_ite, nI_leI (show cO C < 2 ^ 31 by omega) (show j < 2 ^ 31 by omega)]
  refine ⟨fun hc => ?_, fun hc => ?_⟩
  · have : j = cO C := by omega
    subst this
    rw [ok_some]
    exact ⟨hC, hf, hI3, hs⟩
  · rw [ok_cl]
    refine ok_mono (strengthOf_ok hF hw hC (MoM_fr hm hf (by unfold PL; omega)) hy (show j < cO C by omega)) (fun r hr => ?_)
    obtain ⟨x5, M4⟩ := r
    obtain ⟨r1, r2, r3⟩ := hr
    dsimp only at r1 r2 r3 ⊢
    subst r1
    simp only [ok_gi, ok_nm, ok_some, nI_clamp (show j < 2 ^ 31 by omega)]
    have hf4 : fr (fun k n => PL o k n ∨ k = 48) M (sI M4 48 0 j (strS C mo j)) := fr_sI (fr_tr hf (fr_mono r3 (fun k n q => Or.inl q))) (Or.inr rfl)
    refine ⟨vp_in_nI (by omega) (by decide), by omega, nI_1 j, CV_PW r2 (fr_sI (P := fun k _ => k = 48) fr_rf rfl) (fun k n q => by omega), hf4, fun x hx => ?_, fun x hx => ?_⟩
    · unfold lfM
      dsimp only
      rw [rII]
      by_cases e : x = j
      · rw [if_pos ⟨rfl, rfl, e⟩]; exact (strS_b hw mo j).1
      · rw [if_neg (fun q => e q.2.2), fr_I r3 (by unfold PL; omega)]; exact hI3 x hx
    · dsimp only
      rw [rII]
      by_cases e : x = j
      · rw [if_pos ⟨rfl, rfl, e⟩, e]
      · rw [if_neg (fun q => e q.2.2), fr_I r3 (by unfold PL; omega)]; exact hs x (by omega)
/-- the stones up below i are laid -/
def SI (C : cty) (up : Int32) (c : Nat → Int) (M0 M : mm) (i : Nat) : Prop :=
  fr P6 M0 M ∧ (∀ t, t < 32 → wL M t = (bt up t && decide (t < i))) ∧ Flow (wS C) (wR M0) c (wL M) (ldM M) (lfM M) ∧ Full (wS C) (wL M) (ldM M)
theorem SI_lay {F : Nat} (hF : 2000 < F) {C : cty} {mo : mty} {up : Int32} {c : Nat → Int} {M0 M : mm} {i : Nat} (hw : WF C) (hup : ∀ s, s < 32 → bt up s = true → s < cS C) (hc : ∀ x, x < cO C → c x = (strS C mo x).toInt) (hR : ∀ s, s < cS C → ∀ x, wR M0 s x = bt (rS C up s) x) (h : SI C up c M0 M i) (hi : i < cS C) (hb : bt up i = true) :
    ok (m_X9_lay F (nI i) (cF C 8 i) M) (fun r => (r.1.toInt = 0 ∧ SI C up c M0 r.2 (i + 1)) ∨ (0 < r.1.toInt ∧ fr P6 M0 r.2 ∧ (∀ x, x < 10 → 0 ≤ lfM r.2 x) ∧ ¬ HallU C mo up (i + 1))) := by
  have hS := hw.1.2.2.1
  obtain ⟨h1, h2, h3, h4⟩ := h
  have hRe : wR M = wR M0 := wR_c h1 (by unfold P6; omega)
  have hns : wL M i = false := by rw [h2 i (by omega)]; simp
  have hwi : (cF C 8 i).toInt = wS C i := by unfold wS; rw [if_pos hi]
  refine ok_mono (lay_ok hF (show i < 11 by omega) (w := wS C) (c := c) (fun t _ => by have := wS_b hw t; omega) hwi (wS_b hw i).1 hns (by rw [hRe]; exact h3)) (fun r hr => ?_)
  obtain ⟨r1, r2, ⟨l1, l2, l3, l4, l5, l6, l7⟩, r4⟩ := hr
  have hL : ∀ t, t < 32 → wL r.2 t = (bt up t && decide (t < i + 1)) := fun t ht => by
    rw [l3 t ht, h2 t ht]
    by_cases e : t = i
    · subst e; simp [hb]
    · have : decide (t < i + 1) = decide (t < i) := by
        by_cases q : t < i
        · simp [q]; omega
        · simp [q]; omega
      rw [this]; simp [e]
  have hLT : ∀ t, wL r.2 t = true → upB up (i + 1) t = true := fun t q => by
    have h32 : t < 32 := lt32 q
    unfold upB; rw [← hL t h32]; exact q
  by_cases e : r.1.toInt = 0
  · left
    refine ⟨e, fr_tr h1 l1, hL, by rw [← hRe]; exact l4, fun t ht hl => ?_⟩
    by_cases e2 : t = i
    · subst e2; rw [l6, e]; omega
    · rw [l5 t ht e2]
      refine h4 t ht ?_
      rw [l3 t (by omega)] at hl
      simpa [e2] using hl
  · right
    refine ⟨by omega, fr_tr h1 l1, fun x hx => (l4.2.1 x hx).1, ?_⟩
    obtain ⟨T, hT, hTi⟩ := r4 (by omega)
    have := tight_not (U := upB up (i + 1)) l4 hT (fun s q => hLT s (hT.1 s q)) (show i < 11 by omega) hTi (by rw [l6]; omega)
    rw [hRe] at this
    exact fun q => this ((hallU_of hw hup hc hR).mpr q)
theorem standing_ok {F : Nat} (hF : 2000 < F) {o i : Nat} {C : cty} {M : mm} {mo : mty} {up : Int32} (hw : WF C) (h : CV C o M) (hm : MoM i M mo) (hy : mo.1 ≠ -1) (hI : WI M) (hup : ∀ s, s < 32 → bt up s = true → s < cS C) :
    ok (m_X9_standing F o i up M) (fun r => r.1 = fallS C mo up ∧ CV C o r.2 ∧ fr (PW o) M r.2 ∧ WI r.2 ∧ (HallU C mo up 11 → FU C mo up r.2)) := by
  have hS := hw.1.2.2.1
  have hO := hw.1.2.1
  unfold m_X9_standing
  rw [ok_nm, ok_bd]
  have f0 : fr (fun k _ => k = 10) M (sI M 10 0 5 0) := fr_sI fr_rf rfl
  have hw0 : ∀ t, wL (sI M 10 0 5 0) t = false := fun t => by unfold wL; rw [rII, if_pos ⟨rfl, rfl, rfl⟩, b_0]
  have hI0 : WI (sI M 10 0 5 0) := fun x hx => by unfold lfM; rw [fr_I f0 (by omega)]; exact hI x hx
  refine ok_mono (stand1_ok hF hw (CV_PW h f0 (fun k n q => by omega)) (MoM_fr hm f0 (by omega)) hy hI0) (fun M7 hM7 => ?_)
  obtain ⟨c7, f7, i7, s7⟩ := hM7
  rw [ok_cv]
  refine ok_mono (settle_ok hF hw c7.1 up) (fun M8 hM8 => ?_)
  obtain ⟨f8, r8⟩ := hM8
  have c8 : CV C o M8 := CV_PW c7 f8 (fun k n q => by omega)
  have l8 : ∀ t, wL M8 t = false := fun t => by
    unfold wL; rw [fr_I f8 (by omega), fr_I f7 (by unfold PL; omega)]; exact hw0 t
  have lf8 : ∀ x, lfM M8 x = lfM M7 x := fun x => by unfold lfM; rw [fr_I f8 (by omega)]
  have hc : ∀ x, x < cO C → lfM M8 x = (strS C mo x).toInt := fun x hx => by rw [lf8]; unfold lfM; rw [s7 x hx]
  have hR : ∀ s, s < cS C → ∀ x, wR M8 s x = bt (rS C up s) x := fun s hs x => by unfold wR; rw [r8 s hs]
  have ld8 : ∀ t x, ldM M8 t x = 0 := fun t x => by unfold ldM; rw [l8]; simp
  have fall8 : fr (PW o) M M8 := fr_tr (fr_mono f0 (fun k n q => Or.inr (Or.inl q))) (fr_tr (fr_mono f7 (fun k n q => by unfold PL at q; unfold PW; omega)) (fr_mono f8 (fun k n q => by unfold PW; omega)))
  have SI0 : SI C up (lfM M8) M8 M8 0 := by
    refine ⟨fr_rf, fun t ht => by rw [l8]; simp, ⟨fun t x ht hx => ?_, fun x hx => ?_, fun t ht hl => ?_⟩, fun t ht hl => ?_⟩
    · rw [ld8]; exact ⟨Int.le_refl _, fun q => absurd q (Int.lt_irrefl 0)⟩
    · rw [sm_c (f := fun t => ldM M8 t x) (g := fun _ => 0) (fun t _ => ld8 t x), sm_0, lf8]
      exact ⟨i7 x hx, by omega⟩
    · rw [l8] at hl; cases hl
    · rw [l8] at hl; cases hl
  rw [ok_bd]
  refine ok_mono (Q := fun r => (∃ x M', r = .inl (nI x, M') ∧ x < cS C ∧ fr P6 M8 M' ∧ (∀ y, y < 10 → 0 ≤ lfM M' y) ∧ HallU C mo up x ∧ ¬ HallU C mo up (x + 1)) ∨ ∃ M', r = .inr M' ∧ SI C up (lfM M8) M8 M' (cS C)) ?_ (fun r hr => ?_)
  · refine ok_for (cS C) (fun j z => z.1 = nI j ∧ SI C up (lfM M8) M8 z.2 j) 0 (by omega) (by omega) ⟨rfl, SI0⟩ ?_
    rintro j ⟨x9, M10⟩ hj ⟨e1, hs⟩
    dsimp only at e1 hs
    subst e1
    have c10 : CV C o M10 := CV_PW c8 hs.1 (fun k n q => by unfold P6 at q; omega)
    have e13 : M10.1 1 o 13 = nI (cS C) := c10.1.1.2.2.1
    simp only [b_X9_standing_2, b_X9_standing_2c, e13, ok_ite, nI_leI (show cS C < 2 ^ 31 by omega) (show j < 2 ^ 31 by omega)]
    refine ⟨fun hc' => ?_, fun hc' => ?_⟩
    · have : j = cS C := by omega
      subst this
      rw [ok_some]
      exact Or.inr ⟨M10, rfl, hs⟩
    · refine ok_jm (P := fun M13 => SI C up (lfM M8) M8 M13 (j + 1)) (fun z hz => ok_some.mpr ⟨by omega, nI_1 j, hz⟩) (fun k hk => ?_)
      rw [ok_ite, b_bit0 _ (show j < 32 by omega)]
      refine ⟨fun q => hk M10 ?_, fun q => ?_⟩
      · obtain ⟨a1, a2, a3, a4⟩ := hs
        refine ⟨a1, fun t ht => ?_, a3, a4⟩
        rw [a2 t ht]
        by_cases e : t = j
        · subst e; rw [q]; simp
        · congr 1
          by_cases q2 : t < j
          · simp [q2]; omega
          · simp [q2]; omega
      · have hb : bt up j = true := by
          cases e : bt up j
          · exact absurd e q
          · rfl
        have e31 : M10.1 31 o j = cF C 8 j := (c10.1.2.2.2.1 j (by omega)).1
        simp only [ok_gi, ok_cl, nI_clamp (show j < 2 ^ 31 by omega), e31]
        refine ⟨vp_in_nI (by omega) (by decide), ?_⟩
        refine ok_mono (SI_lay hF hw hup hc hR hs (by omega) hb) (fun r hr => ?_)
        have z0 : (0 : Int32).toInt = 0 := rfl
        rw [ok_ite, i_le, z0]
        rcases hr with ⟨r1, r2⟩ | ⟨r1, r2, r3, r4⟩
        · exact ⟨fun _ => hk _ r2, fun q2 => by omega⟩
        · refine ⟨fun q2 => by omega, fun _ => ok_some.mpr (Or.inl ⟨j, r.2, rfl, by omega, r2, r3, ?_, r4⟩)⟩
          have := flow_hall hs.2.2.1 hs.2.2.2
          refine (hallU_of hw hup hc hR).mp (hall_sub this (fun s q3 => ?_))
          unfold upB at q3
          rw [hs.2.1 s (lt32 (Bool.and_eq_true _ _ ▸ q3 : _ ∧ _).1)]; exact q3
  · rcases hr with ⟨x, M', rfl, h1, h2, h3, h4, h5⟩ | ⟨M', rfl, h1⟩
    · simp only [Sum.elim_inl, ok_some]
      refine ⟨(fallS_at (by omega) h4 h5).symm, CV_PW c8 h2 (fun k n q => by unfold P6 at q; omega), fr_tr fall8 (fr_mono h2 (fun k n q => by unfold P6 at q; unfold PW; omega)), h3, fun q => absurd (HallU_le q (by omega)) h5⟩
    · simp only [Sum.elim_inr, ok_some]
      have hL : ∀ t, t < 32 → wL M' t = bt up t := fun t ht => by
        rw [h1.2.1 t ht]
        cases e : bt up t
        · rfl
        · simp [hup t ht e]
      have hall : HallU C mo up 11 := by
        have := flow_hall h1.2.2.1 h1.2.2.2
        refine (hallU_of hw hup hc hR).mp (hall_sub this (fun s q3 => ?_))
        unfold upB at q3; simp at q3
        rw [hL s (lt32 q3.1)]; exact q3.1
      have hRe : wR M' = wR M8 := wR_c h1.1 (by unfold P6; omega)
      refine ⟨(fallS_up (fun s hs hb => by have := hup s hs hb; omega) hall).symm, CV_PW c8 h1.1 (fun k n q => by unfold P6 at q; omega), fr_tr fall8 (fr_mono h1.1 (fun k n q => by unfold P6 at q; unfold PW; omega)), fun x hx => (h1.2.2.1.2.1 x hx).1, fun _ => ⟨hL, fun s hs => ?_, ⟨lfM M8, hc, by rw [hRe]; exact h1.2.2.1⟩, h1.2.2.2⟩⟩
      rw [fr_I h1.1 (by unfold P6; omega)]; exact r8 s hs
