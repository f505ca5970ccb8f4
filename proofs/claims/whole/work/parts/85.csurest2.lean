/-! the class's surest: the best -/
def PFS (o : Nat) : Nat → Nat → Nat → Prop := fun k n i => PU o k n i ∨ PS o k n i ∨ k = 57 ∨ PN k n ∨ (k = 11 ∧ 10 ≤ i ∧ i ≤ 11)
theorem prefer_ok {F : Nat} {C : cty} {o S l h : Nat} {mo : mty} {V : Nat → Int32} {P P' : Nat → Prop} {M : mm} (hl : LK C o mo S M) (hlh : l ≤ h) (hh : h < 10) (hv : M.1 57 0 (l * 10 + h) = V (pw l h)) (hs : SrOn V P (M.1 11 0 11) (M.1 11 0 10)) (hP : ∀ i, P i → i < pw l h) (e : ∀ i, P' i ↔ P i ∨ i = pw l h) :
    ok (m_X10_prefer F (nI l) (nI h) M) (fun M' => LK C o mo S M' ∧ fi (fun k _ i => k = 11 ∧ 10 ≤ i ∧ i ≤ 11) M M' ∧ SrOn V P' (M'.1 11 0 11) (M'.1 11 0 10)) := by
  obtain ⟨k1, k2⟩ := SrOn_add hs hP e
  unfold m_X10_prefer
  rw [ix10, ok_gi, ok_nm, nI_clamp (by omega), hv, ok_ite]
  refine ⟨vp_in_nI (by omega) (by decide), fun q => ok_some.mpr ⟨hl, fi_rf, k2 (by simp only [i_lt, i_le] at q ⊢; omega)⟩, fun q => ?_⟩
  rw [ok_nm, ok_nm, ok_some, sh_pow _ (by omega), sh_pow _ (by omega), nx_or]
  have f : fi (fun k _ i => k = 11 ∧ 10 ≤ i ∧ i ≤ 11) M (sI (sI M 11 0 10 (V (pw l h))) 11 0 11 (nI (2 ^ l ||| 2 ^ h))) := fi_sI (fi_sI fi_rf ⟨rfl, by decide, by decide⟩) ⟨rfl, by decide, by decide⟩
  refine ⟨LK_f2 hl f (fun k n i q => by omega), f, ?_⟩
  have a1 : (sI (sI M 11 0 10 (V (pw l h))) 11 0 11 (nI (2 ^ l ||| 2 ^ h))).1 11 0 11 = nI (pw l h) := by rw [rII, if_pos ⟨rfl, rfl, rfl⟩]; rfl
  have a2 : (sI (sI M 11 0 10 (V (pw l h))) 11 0 11 (nI (2 ^ l ||| 2 ^ h))).1 11 0 10 = V (pw l h) := by rw [rII, if_neg (by omega), rII, if_pos ⟨rfl, rfl, rfl⟩]
  rw [a1, a2]
  exact k1 (by simp only [i_lt, i_le] at q ⊢; omega)
theorem fs1_ok {F : Nat} (hF : 1000 < F) {M : mm} : ok (lp (b_X10_findSurest_1 F) F ((0 : Int32), M)) (fun M' => fi (fun k _ _ => k = 57) M M' ∧ ∀ i, i < 100 → M'.1 57 0 i = -1) := by
  refine ok_for 100 (fun i z => z.1 = nI i ∧ fi (fun k _ _ => k = 57) M z.2 ∧ ∀ k, k < i → z.2.1 57 0 k = -1) 0 (by omega) (by omega) ⟨rfl, fi_rf, fun k hk => by omega⟩ ?_
  rintro i ⟨x1, M4⟩ hi ⟨e1, f4, v4⟩
  dsimp only at e1 f4 v4
  subst e1
  simp only [b_X10_findSurest_1, b_X10_findSurest_1c]
  have e6 : (100 : Int32) ≤ nI i ↔ 100 ≤ i := (nI_leI (by omega) (by omega) : nI 100 ≤ nI i ↔ 100 ≤ i)
  rw [ok_ite, e6]
  refine ⟨fun q => ok_some.mpr ⟨f4, fun k hk => v4 k (by omega)⟩, fun q => ?_⟩
  rw [ok_gi, ok_nm, ok_some, nI_clamp (by omega)]
  refine ⟨vp_in_nI (by omega) (by decide), by omega, nI_1 i, fi_sI f4 rfl, fun k hk => ?_⟩
  dsimp only
  rw [rII]
  by_cases e : k = i
  · rw [if_pos ⟨rfl, rfl, e⟩]
  · rw [if_neg (fun q => e q.2.2)]; exact v4 k (by omega)
theorem fs2_ok {F : Nat} (hF : 3000 < F) {C : cty} {o S Y : Nat} (hS : S < 2 ^ 31) (hY : Y < 2 ^ 31) {M : mm} {mo : mty} {w : Int32} (hw : WF C) (hg : MG C mo Y) (hW : 0 ≤ w.toInt ∧ w.toInt ≤ 99) (h : LK C o mo S M) (hv : ∀ h l, h < cO C → l ≤ h → M.1 57 0 (l * 10 + h) = srB C mo w 0 (pw l h)) :
    ok (lp (b_X10_findSurest_2 F w) F ((0 : Int32), M)) (fun M' => LK C o mo S M' ∧ fi (PFS o) M M' ∧ ∀ h l, h < cO C → l ≤ h → M'.1 57 0 (l * 10 + h) = srV C mo w (pw l h)) := by
  have hP := hw.1.1
  have hp2 := p26 _ hP
  have hO := hw.1.2.1
  refine ok_for (2 ^ cP C) (fun b z => z.1 = nI b ∧ LK C o mo S z.2 ∧ fi (PFS o) M z.2 ∧ ∀ h l, h < cO C → l ≤ h → z.2.1 57 0 (l * 10 + h) = srB C mo w b (pw l h)) 0 (by omega) (by omega) ⟨rfl, h, fi_rf, hv⟩ ?_
  rintro b ⟨x1, M8⟩ hb ⟨e1, l8, f8, v8⟩
  dsimp only at e1 l8 f8 v8
  subst e1
  simp only [b_X10_findSurest_2, b_X10_findSurest_2c]
  rw [l8.1.2.1, l8.2.2.2.1.1.1.1, sh_pow _ (by omega), ok_ite, nI_leI (by omega) (by omega)]
  refine ⟨fun q => ok_some.mpr ?_, fun q => ?_⟩
  · have : b = 2 ^ cP C := by omega
    subst this
    exact ⟨l8, f8, v8⟩
  have hb' : b < 2 ^ cP C := by omega
  have step := fun h l (a : h < cO C) (c : l ≤ h) => srB_s (w := w) (b := b) (j := pw l h) hw hg.2.2.2
  have val := fun h l (a : h < cO C) (c : l ≤ h) => srB_n (mo := mo) (w := w) (b := b) hw hW (pw_lt a c) (by omega)
  rw [ok_cl]
  refine ok_mono (choices_ok (by omega) hw l8 b) (fun r hr => ?_)
  subst hr
  dsimp only
  rw [ok_cl]
  refine ok_mono (brokenBy_ok (by omega) hw l8 b) (fun r hr => ?_)
  subst hr
  dsimp only
  rw [ok_bd]
  refine ok_mono (Q := fun M' => LK C o mo S M' ∧ fi (PFS o) M M' ∧ ∀ h l, h < cO C → l ≤ h → M'.1 57 0 (l * 10 + h) = srB C mo w (b + 1) (pw l h)) ?_ (fun M' hM' => ok_some.mpr ⟨by omega, nI_1 b, hM'⟩)
  have same : ∀ M' : mm, LK C o mo S M' → fi (PFS o) M M' → (∀ k, M'.1 57 0 k = M8.1 57 0 k) → ((chP C b 6).toInt ≤ 0 ∨ upIfS C mo (obP C b (cP C)) ≠ mo.2.2.2) → LK C o mo S M' ∧ fi (PFS o) M M' ∧ ∀ h l, h < cO C → l ≤ h → M'.1 57 0 (l * 10 + h) = srB C mo w (b + 1) (pw l h) := fun M' g1 g2 g3 g4 => by
    refine ⟨g1, g2, fun h l a c => ?_⟩
    rw [g3, v8 h l a c, step h l a c]
    rcases val h l a c with ⟨q1, q2⟩ | ⟨q1, q2⟩
    · rw [if_pos q1]
      rcases g4 with g4 | g4
      · have : chP C b 6 = 0 := i_eq.mpr (by
          have := (chP_b hw b 6 (by omega)).1
          have z : (0 : Int32).toInt = 0 := rfl
          omega)
        rw [this, Int32.add_zero, ite_self]
      · rw [if_neg (fun q => g4 q.1)]
    · rw [if_neg q1]; exact q2
  rw [ok_ite]
  refine ⟨fun q => ok_some.mpr (same M8 l8 f8 (fun _ => rfl) (Or.inl (by rw [i_le] at q; exact q))), fun _ => ?_⟩
  rw [ok_cl]
  refine ok_mono (upIf_ok (by omega) hS hY hw hg l8 _) (fun r hr => ?_)
  obtain ⟨x14, M13⟩ := r
  obtain ⟨g1, g2, g3⟩ := hr
  dsimp only at g1 g2 g3 ⊢
  rw [upIfS_and] at g1
  have f13 : fi (PFS o) M M13 := fi_tr f8 (fi_mono g3 (fun k n i q => Or.inl q))
  have v13 : ∀ k, M13.1 57 0 k = M8.1 57 0 k := fun k => fi_I g3 (by unfold PU PW; omega)
  rw [ok_ite, g1, g2.1.2.2.1.2.2.2]
  refine ⟨fun q => ?_, fun q => ok_some.mpr (same M13 g2 f13 v13 (Or.inr q))⟩
  rw [ok_cv]
  refine ok_mono (layBase_ok (by omega) hY hw hg g2 (obP C b (cP C) &&& looseS C mo)) (fun M15 h15 => ?_)
  obtain ⟨l15, f15, s15⟩ := h15
  have hall : HallU C (moX C mo (obP C b (cP C))) mo.2.2.2 11 := by
    have hS' := hw.1.2.2.1
    refine (fallS_iff (fun s hs q2 => by have := hg.2.2.2 s hs q2; omega)).mp ?_
    exact q
  have s15' : SVd C (moX C mo (obP C b (cP C))) mo.2.2.2 M15 := s15 hall
  rw [ok_cv]
  refine ok_mono (addCh_ok (fl := false) (ch := chP C b 6) (by omega) hw hg.2.2.2 hW l15 s15') (fun M16 h16 => ok_some.mpr ?_)
  obtain ⟨⟨l16, f16⟩, v16⟩ := h16
  refine ⟨l16, fi_tr f13 (fi_tr (fi_mono f15 (fun k n i q => Or.inr (Or.inl q))) (fi_mono f16 (fun k n i q => ?_))), fun h l a c => ?_⟩
  · rcases q with q | q
    · exact Or.inr (Or.inr (Or.inr (Or.inl q)))
    · exact Or.inr (Or.inr (Or.inl q))
  · rw [v16 h l a c, fi_I f15 (by unfold PS PW; omega), v13, v8 h l a c, step h l a c]
    have m1 : (-1 : Int32).toInt = -1 := rfl
    unfold acV
    rw [if_neg (by decide)]
    rcases val h l a c with ⟨q1, q2⟩ | ⟨q1, q2⟩
    · rw [if_pos q1, if_neg (fun q3 => by rw [q3, m1] at q2; omega)]
      by_cases q4 : pB (NewP C (moX C mo (obP C b (cP C))) mo.2.2.2 w.toInt (pw l h)) = true
      · rw [if_pos q4, if_pos ⟨q, q4⟩]
      · rw [if_neg q4, if_neg (fun q5 => q4 q5.2)]
    · rw [if_neg q1, q2, if_pos rfl]
theorem fs3_ok {F : Nat} (hF : 1000 < F) {C : cty} {o S : Nat} {M : mm} {mo : mty} {V : Nat → Int32} (hw : WF C) (h : LK C o mo S M) (hv : ∀ h l, h < cO C → l ≤ h → M.1 57 0 (l * 10 + h) = V (pw l h)) (h11 : M.1 11 0 11 = -1) (h10 : M.1 11 0 10 = -1) :
    ok (lp (b_X10_findSurest_3 F) F ((0 : Int32), M)) (fun M' => LK C o mo S M' ∧ fi (fun k _ i => k = 11 ∧ 10 ≤ i ∧ i ≤ 11) M M' ∧ SrOn V (AlP (cO C)) (M'.1 11 0 11) (M'.1 11 0 10)) := by
  have hO := hw.1.2.1
  refine ok_for (cO C) (fun h z => z.1 = nI h ∧ LK C o mo S z.2 ∧ fi (fun k _ i => k = 11 ∧ 10 ≤ i ∧ i ≤ 11) M z.2 ∧ SrOn V (AlP h) (z.2.1 11 0 11) (z.2.1 11 0 10)) 0 (by omega) (by omega) ⟨rfl, h, fi_rf, Or.inl ⟨h11, h10, fun i hi => by obtain ⟨a, b, c, -⟩ := hi; omega⟩⟩ ?_
  rintro i ⟨x1, M4⟩ hi ⟨e1, l4, f4, s4⟩
  dsimp only at e1 l4 f4 s4
  subst e1
  simp only [b_X10_findSurest_3, b_X10_findSurest_3c]
  rw [l4.1.2.1, l4.2.2.2.1.1.1.2.1, ok_ite, nI_leI (by omega) (by omega)]
  refine ⟨fun q => ok_some.mpr ?_, fun q => ?_⟩
  · have : i = cO C := by omega
    subst this
    exact ⟨l4, f4, s4⟩
  have hi' : i < cO C := by omega
  have v4 : ∀ l, l ≤ i → M4.1 57 0 (l * 10 + i) = V (pw l i) := fun l hl => by rw [fi_I f4 (by omega)]; exact hv i l hi' hl
  rw [ok_cv]
  refine ok_mono (prefer_ok (P' := fun j => AlP i j ∨ j = pw i i) l4 (Nat.le_refl _) (by omega) (v4 i (Nat.le_refl _)) s4 (fun j hj => ?_) (fun j => Iff.rfl)) (fun M5 h5 => ?_)
  · obtain ⟨a, b, c, d, rfl⟩ := hj
    exact pw_ord (by omega) (Nat.le_refl _) (by omega) d (Or.inl c)
  obtain ⟨l5, f5, s5⟩ := h5
  have v5 : ∀ l, l ≤ i → M5.1 57 0 (l * 10 + i) = V (pw l i) := fun l hl => by rw [fi_I f5 (by omega)]; exact v4 l hl
  rw [ok_bd]
  refine ok_mono (Q := fun M' => LK C o mo S M' ∧ fi (fun k _ i => k = 11 ∧ 10 ≤ i ∧ i ≤ 11) M5 M' ∧ SrOn V (AlP (i + 1)) (M'.1 11 0 11) (M'.1 11 0 10)) ?_ (fun M' hM' => ok_some.mpr ⟨by omega, nI_1 i, hM'.1, fi_tr f4 (fi_tr f5 hM'.2.1), hM'.2.2⟩)
  refine ok_for i (fun l z => z.1 = nI l ∧ LK C o mo S z.2 ∧ fi (fun k _ i => k = 11 ∧ 10 ≤ i ∧ i ≤ 11) M5 z.2 ∧ SrOn V (fun j => (AlP i j ∨ j = pw i i) ∨ ∃ l', l' < l ∧ j = pw l' i) (z.2.1 11 0 11) (z.2.1 11 0 10)) 0 (by omega) (by omega) ⟨rfl, l5, fi_rf, SrOn_c s5 (fun j => ⟨Or.inl, fun q => q.elim id (fun ⟨l', a, _⟩ => by omega)⟩)⟩ ?_
  rintro l ⟨x1, M6⟩ hl ⟨e1, l6, f6, s6⟩
  dsimp only at e1 l6 f6 s6
  subst e1
  simp only [b_X10_findSurest_4, b_X10_findSurest_4c]
  rw [ok_ite, nI_leI (by omega) (by omega)]
  refine ⟨fun q => ok_some.mpr ⟨l6, f6, SrOn_c s6 (fun j => ⟨fun q2 => ?_, fun q2 => ?_⟩)⟩, fun q => ?_⟩
  · rcases q2 with (⟨a, b, c, d, e⟩ | e) | ⟨l', a, e⟩
    · exact ⟨a, b, by omega, d, e⟩
    · exact ⟨i, i, by omega, Nat.le_refl _, e⟩
    · exact ⟨i, l', by omega, by omega, e⟩
  · obtain ⟨a, b, c, d, e⟩ := q2
    by_cases e1 : a < i
    · exact Or.inl (Or.inl ⟨a, b, e1, d, e⟩)
    · have : a = i := by omega
      subst this
      by_cases e2 : b = a
      · subst e2; exact Or.inl (Or.inr e)
      · exact Or.inr ⟨b, by omega, e⟩
  have hl' : l < i := by omega
  rw [ok_cv]
  refine ok_mono (prefer_ok (P' := fun j => (AlP i j ∨ j = pw i i) ∨ ∃ l', l' < l + 1 ∧ j = pw l' i) l6 (by omega) (by omega) (by rw [fi_I f6 (by omega)]; exact v5 l (by omega)) s6 (fun j hj => ?_) (fun j => ?_)) (fun M7 h7 => ok_some.mpr ⟨by omega, nI_1 l, h7.1, fi_tr f6 h7.2.1, h7.2.2⟩)
  · rcases hj with (⟨a, b, c, d, rfl⟩ | rfl) | ⟨l', a, rfl⟩
    · exact pw_ord (by omega) (by omega) (by omega) d (Or.inl c)
    · exact pw_ord (by omega) (by omega) (by omega) (Nat.le_refl _) (Or.inr ⟨rfl, hl', Or.inl rfl⟩)
    · exact pw_ord (by omega) (by omega) (by omega) (by omega) (Or.inr ⟨rfl, hl', Or.inr a⟩)
  · constructor
    · rintro (q2 | ⟨l', a, e⟩)
      · exact Or.inl (Or.inl q2)
      · by_cases e2 : l' = l
        · subst e2; exact Or.inr e
        · exact Or.inl (Or.inr ⟨l', by omega, e⟩)
    · rintro ((q2 | ⟨l', a, e⟩) | e)
      · exact Or.inl q2
      · exact Or.inr ⟨l', by omega, e⟩
      · exact Or.inr ⟨l, by omega, e⟩
theorem findSurest_ok {F : Nat} (hF : 3000 < F) {C : cty} {o S Y : Nat} (hS : S < 2 ^ 31) (hY : Y < 2 ^ 31) {M : mm} {mo : mty} {w : Int32} (hw : WF C) (hg : MG C mo Y) (hms : MS C mo) (hW : 0 ≤ w.toInt ∧ w.toInt ≤ 99) (h : LK C o mo S M) :
    ok (m_X10_findSurest F w M) (fun M' => LK C o mo S M' ∧ fi (PFS o) M M' ∧ SrOn (srV C mo w) (AlP (cO C)) (M'.1 11 0 11) (M'.1 11 0 10)) := by
  have hO := hw.1.2.1
  unfold m_X10_findSurest
  rw [ok_bd]
  refine ok_mono (fs1_ok (by omega)) (fun M4 h4 => ?_)
  obtain ⟨f4, v4⟩ := h4
  have l4 := LK_f2 h f4 (fun k n i q => by omega)
  rw [ok_cv]
  refine ok_mono (layBase_ok (by omega) hY hw hg l4 0) (fun M5 h5 => ?_)
  obtain ⟨l5, f5, s5⟩ := h5
  rw [Int32.or_zero] at s5
  have s5' : SVd C mo mo.2.2.2 M5 := s5 hms
  rw [ok_cv]
  refine ok_mono (addCh_ok (fl := true) (ch := 0) (by omega) hw hg.2.2.2 hW l5 s5') (fun M6 h6 => ?_)
  obtain ⟨⟨l6, f6⟩, v6⟩ := h6
  rw [ok_bd]
  refine ok_mono (fs2_ok hF hS hY hw hg hW l6 (fun h l a c => ?_)) (fun M7 h7 => ?_)
  · rw [v6 h l a c, fi_I f5 (by unfold PS PW; omega), v4 _ (by omega)]
    rfl
  obtain ⟨l7, f7, v7⟩ := h7
  rw [ok_nm, ok_nm, ok_bd]
  have f8 : fi (fun k _ i => k = 11 ∧ 10 ≤ i ∧ i ≤ 11) M7 (sI (sI M7 11 0 10 (-1)) 11 0 11 (-1)) := fi_sI (fi_sI fi_rf ⟨rfl, by decide, by decide⟩) ⟨rfl, by decide, by decide⟩
  have a1 : (sI (sI M7 11 0 10 (-1)) 11 0 11 (-1)).1 11 0 11 = -1 := by rw [rII, if_pos ⟨rfl, rfl, rfl⟩]
  have a2 : (sI (sI M7 11 0 10 (-1)) 11 0 11 (-1)).1 11 0 10 = -1 := by rw [rII, if_neg (by omega), rII, if_pos ⟨rfl, rfl, rfl⟩]
  generalize sI (sI M7 11 0 10 (-1)) 11 0 11 (-1) = M8 at f8 a1 a2 ⊢
  have l8 := LK_f2 l7 f8 (fun k n i q => by omega)
  refine ok_mono (fs3_ok (V := srV C mo w) (by omega) hw l8 (fun h l a c => by rw [fi_I f8 (by omega)]; exact v7 h l a c) a1 a2) (fun M9 h9 => ok_some.mpr ?_)
  obtain ⟨l9, f9, s9⟩ := h9
  refine ⟨l9, ?_, s9⟩
  refine fi_tr (fi_mono f4 (fun k n i q => Or.inr (Or.inr (Or.inl q)))) (fi_tr (fi_mono f5 (fun k n i q => Or.inr (Or.inl q))) (fi_tr (fi_mono f6 (fun k n i q => ?_)) (fi_tr f7 (fi_tr (fi_mono f8 (fun k n i q => Or.inr (Or.inr (Or.inr (Or.inr q))))) (fi_mono f9 (fun k n i q => Or.inr (Or.inr (Or.inr (Or.inr q)))))))))
  rcases q with q | q
  · exact Or.inr (Or.inr (Or.inr (Or.inl q)))
  · exact Or.inr (Or.inr (Or.inl q))
theorem surestC {F : Nat} (hF : 3000 < F) {A : sty} {N : Nat} (hN : N ≤ 1000) {M : mm} {w a : Int32} (hA : AOK A N) (h : RC A N M) : ok (m_X11_surest F w a M) (fun r => SrA (aC A) (aM A) w a r.1 ∧ RC A (N + 1) r.2 ∧ FrC M r.2) := by
  obtain ⟨o, d, hod, h2, h3, h4, h5, h6⟩ := id h
  have z0 : (0 : Int32).toInt = 0 := rfl
  have z1 : (1 : Int32).toInt = 1 := rfl
  have z99 : (99 : Int32).toInt = 99 := rfl
  have no : ¬ ((0 ≤ w ∧ w ≤ 99) ∧ 0 ≤ a ∧ a ≤ 1) → SrA (aC A) (aM A) w a (-1) ∧ RC A (N + 1) M ∧ FrC M M := fun q => ⟨Or.inl ⟨q, rfl⟩, (QC_same (ans := (0 : Int32)) h).2⟩
  unfold m_X11_surest
  simp only [ok_ite]
  refine ⟨fun q => ok_some.mpr (no (fun q2 => by simp only [i_lt, i_le] at q q2; omega)), fun q1 => ⟨fun q => ok_some.mpr (no (fun q2 => by simp only [i_lt, i_le] at q q2; omega)), fun q2 => ⟨fun q => ok_some.mpr (no (fun q2 => by simp only [i_lt, i_le] at q q2; omega)), fun q3 => ⟨fun q4 => ?_, fun q => ok_some.mpr (no (fun q2 => q q2.2.2))⟩⟩⟩⟩
  have yes : (0 ≤ w ∧ w ≤ 99) ∧ 0 ≤ a ∧ a ≤ 1 := by simp only [i_lt, i_le] at q1 q2 q3 q4 ⊢; omega
  have hW : 0 ≤ w.toInt ∧ w.toInt ≤ 99 := by have := yes.1; simp only [i_le] at this; omega
  rw [ok_cv, h2]
  refine ok_mono (look_ok hN hA.1 h5 h6 h4.1) (fun M1 hM1 => ?_)
  obtain ⟨S, hS, l1, f1⟩ := hM1
  rw [ok_cv]
  refine ok_mono (findSurest_ok hF (by omega) (Y := 100 * N) (by omega) hA.1 hA.2.1.1 hA.2.1.2 hW l1) (fun M2 hM2 => ?_)
  obtain ⟨l2, f2, s2⟩ := hM2
  have := RC_lk hA hod h2 h3 h4 hS l2 (FK_tr (FK_mono f1 (fun k n i q => Or.inl q)) (FK_mono (FK_fi f2) (fun k n i q => by
    rcases q with q | q | q | q | q
    · exact Or.inr (Or.inl q)
    · unfold PS at q; unfold PQ PU
      rcases q with q | q | q
      · exact Or.inr (Or.inl (Or.inl q))
      · exact Or.inr (Or.inl (Or.inr (Or.inl q)))
      · exact Or.inr (Or.inr (Or.inr (by omega)))
    · exact Or.inr (Or.inr (Or.inl (by omega)))
    · exact Or.inr (Or.inl (Or.inl (by unfold PN at q; unfold PW; omega)))
    · exact Or.inl (Or.inl q.1))))
  rw [ok_ite]
  exact ⟨fun q => ok_some.mpr ⟨Or.inr ⟨yes, _, _, s2, by rw [if_pos q]⟩, this⟩, fun q => ok_some.mpr ⟨Or.inr ⟨yes, _, _, s2, by rw [if_neg q]⟩, this⟩⟩
