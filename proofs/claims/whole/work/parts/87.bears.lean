/-! bears: the class lays all -/
theorem most_c {w w' : Nat → Int} {R R' : Nat → Nat → Bool} {c c' : Nat → Int} {U : Nat → Bool} {v : Int} (h1 : ∀ s, s < 11 → U s = true → w s = w' s ∧ ∀ o, o < 10 → R s o = R' s o) (h2 : ∀ o, o < 10 → (∃ s, s < 11 ∧ U s = true ∧ R' s o = true) → c o = c' o) (H : Most w R c U v) : Most w' R' c' U v := by
  have eW : ∀ X : Nat → Bool, (∀ s, X s = true → U s = true) → wX w' X = wX w X := fun X hX => sm_c (fun s hs => by
    cases e : X s
    · rfl
    · simp only [if_true]; exact (h1 s hs (hX s e)).1.symm)
  have eC : ∀ X : Nat → Bool, (∀ s, X s = true → U s = true) → cX c' (nb R' X) = cX c (nb R X) := fun X hX => sm_c (fun o ho => by
    have e3 : nb R' X o = nb R X o := by
      rw [Bool.eq_iff_iff, nb_iff, nb_iff]
      exact ⟨fun ⟨s, a, b, d⟩ => ⟨s, a, b, by rw [(h1 s a (hX s b)).2 o ho]; exact d⟩, fun ⟨s, a, b, d⟩ => ⟨s, a, b, by rw [← (h1 s a (hX s b)).2 o ho]; exact d⟩⟩
    rw [e3]
    cases e : nb R X o
    · rfl
    · simp only [if_true]
      obtain ⟨s, a, b, d⟩ := nb_iff.mp e
      exact (h2 o ho ⟨s, a, hX s b, by rw [← (h1 s a (hX s b)).2 o ho]; exact d⟩).symm)
  obtain ⟨a, X, hX, e⟩ := H
  refine ⟨fun X hX => ?_, X, hX, ?_⟩
  · rw [eW U (fun _ q => q), eW X hX, eC X hX]; exact a X hX
  · rw [eW U (fun _ q => q), eW X hX, eC X hX]; exact e
def BeP (C : cty) (mo : mty) (v : Int) : Prop := Most (wS C) (rB C mo.2.2.2) (kS C mo) (upB mo.2.2.2 11) v
def SM (C : cty) (up : Int32) (c : Nat → Int) (M0 M : mm) (i : Nat) (x : Int) : Prop :=
  fr P6 M0 M ∧ (∀ t, t < 32 → wL M t = (bt up t && decide (t < i))) ∧ Flow (wS C) (wR M0) c (wL M) (ldM M) (lfM M) ∧ (∃ T, Tight (wR M0) (wL M) (ldM M) (lfM M) T ∧ ∀ t, t < 11 → wL M t = true → T t = false → sm 10 (ldM M t) = wS C t) ∧ x = sm 11 (fun t => if wL M t then sm 10 (ldM M t) else 0)
theorem SM_lay {F : Nat} (hF : 2000 < F) {C : cty} {up : Int32} {c : Nat → Int} {M0 M : mm} {i : Nat} {x : Int} (hw : WF C) (h : SM C up c M0 M i x) (hi : i < cS C) (hb : bt up i = true) :
    ok (m_X9_lay F (nI i) (cF C 8 i) M) (fun r => 0 ≤ r.1.toInt ∧ r.1.toInt ≤ wS C i ∧ SM C up c M0 r.2 (i + 1) (x + (wS C i - r.1.toInt))) := by
  have hS := hw.1.2.2.1
  obtain ⟨h1, h2, h3, ⟨T, h4, h5⟩, h6⟩ := h
  have hRe : wR M = wR M0 := wR_c h1 (by unfold P6; omega)
  have hns : wL M i = false := by rw [h2 i (by omega)]; simp
  have hwi : (cF C 8 i).toInt = wS C i := by unfold wS; rw [if_pos hi]
  refine ok_mono (lay_ok hF (show i < 11 by omega) (w := wS C) (c := c) (fun t _ => by have := wS_b hw t; omega) hwi (wS_b hw i).1 hns (by rw [hRe]; exact h3)) (fun r hr => ?_)
  obtain ⟨r1, r2, ⟨l1, l2, l3, l4, l5, l6, l7⟩, r4⟩ := hr
  rw [hRe] at l4 r4
  have hL : ∀ t, t < 32 → wL r.2 t = (bt up t && decide (t < i + 1)) := fun t ht => by
    rw [l3 t ht, h2 t ht]
    by_cases e : t = i
    · subst e; simp [hb]
    · have : decide (t < i + 1) = decide (t < i) := by
        by_cases q : t < i
        · simp [q]; omega
        · simp [q]; omega
      rw [this]; simp [e]
  have hLs : ∀ t, wL M t = true → wL r.2 t = true := fun t q => by
    rw [l3 t (lt32 q), q]; rfl
  have hne : ∀ t, wL M t = true → t ≠ i := fun t q e => by rw [e, hns] at q; cases q
  have hK := tight_keep h3 h4 l4 hLs (fun t ht q => l5 t ht (hne t (h4.1 t q))) l7
  refine ⟨r1, r2, fr_tr h1 l1, hL, l4, ?_, ?_⟩
  · by_cases e : r.1.toInt = 0
    · refine ⟨T, hK, fun t ht hl hT => ?_⟩
      by_cases e2 : t = i
      · subst e2; rw [l6, e]; omega
      · rw [l5 t ht e2]
        refine h5 t ht ?_ hT
        rw [l3 t (by omega)] at hl
        simpa [e2] using hl
    · obtain ⟨T', hT', hTi⟩ := r4 (by omega)
      refine ⟨fun s => T s || T' s, tight_or hK hT', fun t ht hl hT => ?_⟩
      rw [Bool.or_eq_false_iff] at hT
      have e2 : t ≠ i := fun e2 => by rw [e2, hTi] at hT; cases hT.2
      rw [l5 t ht e2]
      refine h5 t ht ?_ hT.1
      rw [l3 t (by omega)] at hl
      simpa [e2] using hl
  · have e1 : sm 11 (fun t => if wL r.2 t then sm 10 (ldM r.2 t) else 0) = sm 11 (fun t => if t = i then wS C i - r.1.toInt else (if wL M t then sm 10 (ldM M t) else 0)) := sm_c (fun t ht => by
      by_cases e : t = i
      · subst e
        rw [if_pos rfl, l3 t (by omega), decide_eq_true rfl, Bool.or_true, if_pos rfl, l6]
      · rw [if_neg e, l3 t (by omega), l5 t ht e]
        have : decide (t = i) = false := decide_eq_false e
        rw [this, Bool.or_false])
    rw [e1, sm_set (by omega), hns, h6]
    simp
theorem SM_b {C : cty} {up : Int32} {c : Nat → Int} {M0 M : mm} {i : Nat} {x : Int} (hw : WF C) (h : SM C up c M0 M i x) : 0 ≤ x ∧ x ≤ 1089 := by
  obtain ⟨h1, h2, h3, -, h6⟩ := h
  have b4 : sm 11 (fun _ => (99 : Int)) ≤ 1089 := by decide
  have a1 : 0 ≤ sm 11 (fun t => if wL M t then sm 10 (ldM M t) else 0) := sm_nn (fun t ht => by
    split
    · exact sm_nn (fun o ho => (h3.1 t o ht ho).1)
    · exact Int.le_refl _)
  have a2 : sm 11 (fun t => if wL M t then sm 10 (ldM M t) else 0) ≤ sm 11 (fun _ => 99) := sm_le (fun t ht => by
    split
    · rename_i q
      have := h3.2.2 t ht q
      have := wS_b hw t
      omega
    · omega)
  omega
theorem HallU_z {C : cty} {mo : mty} : HallU C mo 0 11 := by
  refine hall_sub (U := upB 0 0) HallU_0 (fun s q => ?_)
  unfold upB at q; rw [b_0] at q; cases q
theorem most_ok {F : Nat} (hF : 2000 < F) {o i : Nat} {C : cty} {M : mm} {mo : mty} {Y : Nat} (hY : Y < 2 ^ 31) (hw : WF C) (hg : MG C mo Y) (h : CS C o M) (hm : MoM i M mo) :
    ok (m_X9_most F o i M) (fun r => BeP C mo r.1.toInt ∧ CS C o r.2 ∧ fr (PW o) M r.2) := by
  have hS := hw.1.2.2.1
  have hO := hw.1.2.1
  have hup := hg.2.2.2
  unfold m_X9_most
  rw [ok_cl]
  refine ok_mono (standing_ok hF hw h.1 hm (MG_y hg hY) h.2 (fun s _ q => by rw [b_0] at q; cases q)) (fun r hr => ?_)
  obtain ⟨x2, M1⟩ := r
  obtain ⟨-, r2, r3, r4, r5⟩ := hr
  dsimp only at r2 r3 r4 r5 ⊢
  obtain ⟨u1, u2, ⟨c, u3, u4⟩, u5⟩ := r5 HallU_z
  have e53 : M1.1 5 i 3 = mo.2.2.2 := (fr_I r3 (by unfold PW; omega) 3).trans hm.2.2.2
  rw [ok_cv, e53]
  refine ok_mono (settle_ok hF hw r2.1 mo.2.2.2) (fun M3 h3 => ?_)
  obtain ⟨f3, v3⟩ := h3
  have c3 : CV C o M3 := CV_PW r2 f3 (fun k n q => by omega)
  have l3 : ∀ t, wL M3 t = false := fun t => by
    unfold wL
    rw [fr_I f3 (by omega)]
    rcases Nat.lt_or_ge t 32 with q | q
    · have := u1 t q
      rw [b_0] at this; exact this
    · exact b_big q
  have l1 : ∀ t, wL M1 t = false := fun t => by
    have := l3 t
    unfold wL at this ⊢
    rw [fr_I f3 (by omega)] at this; exact this
  have hR : ∀ s, s < cS C → ∀ x, wR M3 s x = bt (rS C mo.2.2.2 s) x := fun s hs x => by unfold wR; rw [v3 s hs]
  have ld3 : ∀ t x, ldM M3 t x = 0 := fun t x => by unfold ldM; rw [l3]; simp
  have ld1 : ∀ t x, ldM M1 t x = 0 := fun t x => by unfold ldM; rw [l1]; simp
  have fl3 : Flow (wS C) (wR M3) c (wL M3) (ldM M3) (lfM M3) := flow_c u4 (fun t _ => by rw [l3, l1]) (fun t x _ _ => by rw [ld3, ld1]) (fun x _ => by unfold lfM; rw [fr_I f3 (by omega)]) (fun t _ q => by rw [l1] at q; cases q)
  have SM0 : SM C mo.2.2.2 c M3 M3 0 0 := by
    refine ⟨fr_rf, fun t ht => by rw [l3]; simp, fl3, ⟨fun _ => false, tight_none, fun t ht q => by rw [l3] at q; cases q⟩, ?_⟩
    rw [sm_c (f := fun t => if wL M3 t then sm 10 (ldM M3 t) else 0) (g := fun _ => 0) (fun t _ => by rw [l3]; rfl), sm_0]
  rw [ok_bd]
  refine ok_mono (Q := fun r => ∃ x : Int, r.1.toInt = x ∧ SM C mo.2.2.2 c M3 r.2 (cS C) x) ?_ (fun r hr => ?_)
  · refine ok_for (cS C) (fun j z => z.2.1 = nI j ∧ ∃ x : Int, z.1.toInt = x ∧ SM C mo.2.2.2 c M3 z.2.2 j x) 0 (by omega) (by omega) ⟨rfl, 0, rfl, SM0⟩ ?_
    rintro j ⟨x4, x5, M6⟩ hj ⟨e1, x, e2, hs⟩
    dsimp only at e1 e2 hs
    subst e1
    have c6 : CV C o M6 := CV_PW c3 hs.1 (fun k n q => by unfold P6 at q; omega)
    simp only [b_X9_most_1, b_X9_most_1c]
    rw [c6.1.1.2.2.1, ok_ite, nI_leI (by omega) (by omega)]
    refine ⟨fun q => ok_some.mpr ?_, fun q => ?_⟩
    · have : j = cS C := by omega
      subst this
      exact ⟨x, e2, hs⟩
    have hj' : j < cS C := by omega
    have m3 : M6.1 5 i 3 = mo.2.2.2 := (fr_I hs.1 (by unfold P6; omega) 3).trans ((fr_I f3 (by omega) 3).trans e53)
    rw [ok_bd, m3]
    refine ok_mono (Q := fun z => ∃ x : Int, z.1.toInt = x ∧ SM C mo.2.2.2 c M3 z.2 (j + 1) x) ?_ (fun z hz => ok_some.mpr ⟨by omega, nI_1 j, hz⟩)
    rw [ok_ite, b_bit0 _ (show j < 32 by omega)]
    refine ⟨fun q => ok_some.mpr ⟨x, e2, ?_⟩, fun q => ?_⟩
    · obtain ⟨a1, a2, a3, a4, a5⟩ := hs
      refine ⟨a1, fun t ht => ?_, a3, a4, a5⟩
      rw [a2 t ht]
      by_cases e : t = j
      · subst e; rw [q]; simp
      · congr 1
        by_cases q2 : t < j
        · simp [q2]; omega
        · simp [q2]; omega
    · have hb : bt mo.2.2.2 j = true := by
        cases e : bt mo.2.2.2 j
        · exact absurd e q
        · rfl
      have e31 : M6.1 31 o j = cF C 8 j := (c6.1.2.2.2.1 j hj').1
      rw [ok_gi, ok_gi, ok_cl, nI_clamp (by omega), e31]
      refine ⟨vp_in_nI (by omega) (by decide), vp_in_nI (by omega) (by decide), ?_⟩
      refine ok_mono (SM_lay hF hw hs hj' hb) (fun r hr => ?_)
      obtain ⟨r1, r2, r3⟩ := hr
      rw [ok_nm, ok_some]
      have hwi : (cF C 8 j).toInt = wS C j := by unfold wS; rw [if_pos hj']
      have b1 := SM_b hw hs
      have b2 := SM_b hw r3
      have b3 := wS_b hw j
      have e5 : (cF C 8 j - r.1).toInt = wS C j - r.1.toInt := by rw [i_sub (by omega) (by omega), hwi]
      exact ⟨x + (wS C j - r.1.toInt), by
        show (x4 + (cF C 8 j - r.1)).toInt = _
        rw [i_add (by omega) (by omega), e5, e2], r3⟩
  · obtain ⟨x12, M13⟩ := r
    obtain ⟨x, e1, hs⟩ := hr
    dsimp only at e1 hs
    obtain ⟨a1, a2, a3, ⟨T, a4, a5⟩, a6⟩ := hs
    have hU : wL M13 = upB mo.2.2.2 11 := by
      funext t
      rcases Nat.lt_or_ge t 32 with q | q
      · rw [a2 t q]
        unfold upB
        cases e : bt mo.2.2.2 t
        · rfl
        · have := hup t q e
          simp [this]; omega
      · unfold wL upB
        rw [b_big q, b_big q]; rfl
    have mo1 := flow_most a3 a4 a5
    rw [← a6, ← e1, hU] at mo1
    have hr : ∀ s, s < cS C → ∀ x, bt (rS C mo.2.2.2 s) x = true → x < cO C := fun s hs x hx => rs_lt (fun s hs => (hw.2.2.2.2 s hs).2.2.1) s hs x (lt32 hx) hx
    refine ok_some.mpr ⟨most_c (fun s hs hU => ⟨rfl, fun x _ => ?_⟩) (fun x hx hs => ?_) mo1, ⟨CV_PW c3 a1 (fun k n q => by unfold P6 at q; omega), fun x hx => (a3.2.1 x hx).1⟩, fr_tr r3 (fr_tr (fr_mono f3 (fun k n q => by unfold PW; omega)) (fr_mono a1 (fun k n q => by unfold P6 at q; unfold PW; omega)))⟩
    · have := upB_lt hup hU
      unfold rB; rw [hR s this, decide_eq_true this]; rfl
    · obtain ⟨s, h1, h2, h3⟩ := hs
      unfold rB at h3; simp at h3
      have := hr s h3.1 x h3.2
      unfold kS; rw [if_pos this, u3 x this]
theorem bearsC {F : Nat} (hF : 2000 < F) {A : sty} {N : Nat} (hN : N ≤ 1000) {M : mm} (hA : AOK A N) (h : RC A N M) : ok (m_X11_bears F M) (fun r => BeP (aC A) (aM A) r.1.toInt ∧ RC A (N + 1) r.2 ∧ FrC M r.2) := by
  obtain ⟨o, d, hod, h2, h3, h4, h5, h6⟩ := id h
  unfold m_X11_bears
  rw [ok_cl, h2]
  refine ok_mono (most_ok hF (Y := 100 * N) (by omega) hA.1 hA.2.1.1 h5 h4.1) (fun r hr => ok_some.mpr ?_)
  obtain ⟨r1, r2, r3⟩ := hr
  have f : fi (fun k n _ => PW o k n) M r.2 := fi_fr r3 (fun k n i q => q)
  have rc : RC A N r.2 := ⟨o, d, hod, by rw [r3.1]; exact h2, by rw [r3.1]; exact h3, RCs_fi h4 (fi_mono f (fun k n i q => by unfold PW at q; unfold GC; omega)), r2, WhI_fi h6 f (fun k n i q => by unfold PW at q; omega)⟩
  exact ⟨r1, RC_up rc, FrC_fi f (fun k n i q => by unfold PW at q; omega)⟩
