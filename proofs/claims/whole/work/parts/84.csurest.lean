/-! the class's surest -/
theorem LK_cs {C : cty} {o S : Nat} {mo : mty} {M M' : mm} {P : Nat → Nat → Nat → Prop} (h : LK C o mo S M) (f : fi P M M') (hP : ∀ k n i, P k n i → k ≠ 55 ∧ k ≠ 56 ∧ ¬ (k = 5 ∧ n = 0) ∧ ¬ (k = 11 ∧ i < 9)) (cs : CS C o M') : LK C o mo S M' := by
  obtain ⟨⟨a7, ao, am, a8, a6⟩, a56, a55, acs⟩ := h
  have e : ∀ k i, k = 55 ∨ k = 56 ∨ k = 5 ∨ (k = 11 ∧ i < 9) → M'.1 k 0 i = M.1 k 0 i := fun k i hk => fi_I f (fun q => by have := hP _ _ _ q; omega)
  refine ⟨⟨by rw [e 11 7 (by omega)]; exact a7, by rw [f.1]; exact ao, MoM_c am (fun j _ => e 5 j (by omega)), by rw [e 11 8 (by omega)]; exact a8, by rw [e 11 6 (by omega)]; exact a6⟩, fun j hj => ?_, fun j hj q => ?_, cs⟩
  · rw [e 56 j (by omega)]; exact a56 j hj
  · rw [e 55 j (by omega)]
    rw [e 56 j (by omega)] at q
    exact a55 j hj q
def PS (o : Nat) : Nat → Nat → Nat → Prop := fun k n i => PW o k n ∨ (k = 5 ∧ n = 1) ∨ k = 50 ∨ k = 51
theorem layBase_ok {F : Nat} (hF : 2000 < F) {C : cty} {o S Y : Nat} (hY : Y < 2 ^ 31) {M : mm} {mo : mty} (hw : WF C) (hg : MG C mo Y) (h : LK C o mo S M) (x : Int32) :
    ok (m_X10_layBase F x M) (fun M' => LK C o mo S M' ∧ fi (PS o) M M' ∧ (HallU C (mo.1, mo.2.1 ||| x, mo.2.2.1, mo.2.2.2) mo.2.2.2 11 → SVd C (mo.1, mo.2.1 ||| x, mo.2.2.1, mo.2.2.2) mo.2.2.2 M')) := by
  obtain ⟨⟨a7, ao, am, a8, a6⟩, a56, a55, acs⟩ := id h
  unfold m_X10_layBase
  rw [ok_cv]
  refine ok_mono (copy_ok (b := 1) (a := 0) am (by omega)) (fun M2 h2 => ?_)
  obtain ⟨c1, c2⟩ := h2
  obtain ⟨m0, m1, m2, m3⟩ := id c1
  rw [ok_nm, ok_cl, m1]
  have f1 : fr (fun k n => k = 5 ∧ n = 1) M (sI M2 5 1 1 (mo.2.1 ||| x)) := fr_sI c2 ⟨rfl, rfl⟩
  have hm1 : MoM 1 (sI M2 5 1 1 (mo.2.1 ||| x)) (mo.1, mo.2.1 ||| x, mo.2.2.1, mo.2.2.2) := by unfold MoM; simp [rII, m0, m2, m3]
  have e1 : (sI M2 5 1 1 (mo.2.1 ||| x)).2.2 11 0 1 = o := by rw [f1.1]; exact ao
  have e53 : (sI M2 5 1 1 (mo.2.1 ||| x)).1 5 0 3 = mo.2.2.2 := (fr_I f1 (by omega) 3).trans am.2.2.2
  have cs1 : CS C o (sI M2 5 1 1 (mo.2.1 ||| x)) := CS_5 acs f1
  rw [e1, e53]
  generalize sI M2 5 1 1 (mo.2.1 ||| x) = M3 at f1 hm1 e1 e53 cs1 ⊢
  refine ok_mono (standing_ok hF hw cs1.1 hm1 (show mo.1 ≠ -1 from MG_y hg hY) cs1.2 hg.2.2.2) (fun r hr => ?_)
  obtain ⟨x5, M4⟩ := r
  obtain ⟨r1, r2, r3, r4, r5⟩ := hr
  dsimp only at r1 r2 r3 r4 r5 ⊢
  rw [ok_cv]
  unfold m_X9_save
  rw [ok_nm, ok_nm, ok_nm, ok_some, ok_some]
  have f5 : fi (fun k _ i => (k = 10 ∧ i = 6) ∨ k = 50 ∨ k = 51) M4 (cpA (cpA (sI M4 10 0 6 (M4.1 10 0 5)) 48 0 50 0 10) 49 0 51 0 110) := ⟨rfl, fun k n i q => ⟨by
    rw [cpR, if_neg (by omega), cpR, if_neg (by omega), rII, if_neg (by omega)], rfl⟩⟩
  have b10 : (cpA (cpA (sI M4 10 0 6 (M4.1 10 0 5)) 48 0 50 0 10) 49 0 51 0 110).1 10 0 6 = M4.1 10 0 5 := by
    rw [cpR, if_neg (by omega), cpR, if_neg (by omega), rII, if_pos ⟨rfl, rfl, rfl⟩]
  have b50 : ∀ i, i < 10 → (cpA (cpA (sI M4 10 0 6 (M4.1 10 0 5)) 48 0 50 0 10) 49 0 51 0 110).1 50 0 i = M4.1 48 0 i := fun i hi => by
    rw [cpR, if_neg (by omega), cpR, if_pos ⟨rfl, rfl, hi⟩, rII, if_neg (by omega)]
  have b51 : ∀ i, i < 110 → (cpA (cpA (sI M4 10 0 6 (M4.1 10 0 5)) 48 0 50 0 10) 49 0 51 0 110).1 51 0 i = M4.1 49 0 i := fun i hi => by
    rw [cpR, if_pos ⟨rfl, rfl, hi⟩, cpR, if_neg (by omega), rII, if_neg (by omega)]
  generalize cpA (cpA (sI M4 10 0 6 (M4.1 10 0 5)) 48 0 50 0 10) 49 0 51 0 110 = M5 at f5 b10 b50 b51 ⊢
  have f2 : fi (PS o) M M5 := fi_tr (fi_fr f1 (fun k n i q => Or.inr (Or.inl q))) (fi_tr (fi_fr r3 (fun k n i q => Or.inl q)) (fi_mono f5 (fun k n i q => by unfold PS PW; omega)))
  have cs5 : CS C o M5 := CS_fi ⟨r2, r4⟩ f5 (fun k n i q => by omega)
  refine ⟨LK_cs h f2 (fun k n i q => by unfold PS PW at q; omega) cs5, f2, fun q => ?_⟩
  have fu := r5 q
  exact ⟨M4, fu, b10, b50, b51, fun s hs => by rw [fi_I f5 (by omega)]; exact fu.2.1 s hs⟩
/-- what a round of chances makes of one -/
def acV (fl : Bool) (ch : Int32) (b : Bool) (v : Int32) : Int32 := if fl then (if b then 0 else v) else if v = -1 then v else if b then v + ch else v
def PA2 : Nat → Nat → Nat → Prop := fun k n _ => PN k n ∨ k = 57
theorem SVd_57 {C : cty} {mo : mty} {up : Int32} {M M' : mm} (h : SVd C mo up M) (f : fi (fun k _ _ => k = 57) M M') : SVd C mo up M' := by
  obtain ⟨M0, a, b, c, d, e⟩ := h
  exact ⟨M0, a, by rw [fi_I f (by omega)]; exact b, fun i hi => by rw [fi_I f (by omega)]; exact c i hi, fun i hi => by rw [fi_I f (by omega)]; exact d i hi, fun s hs => by rw [fi_I f (by omega)]; exact e s hs⟩
theorem ac2_ok {F : Nat} (hF : 2000 < F) {C : cty} {o S h : Nat} {mo mo' : mty} {w ch : Int32} {fl : Bool} {M : mm} (hw : WF C) (hup : ∀ s, s < 32 → bt mo.2.2.2 s = true → s < cS C) (hW : 0 ≤ w.toInt ∧ w.toInt ≤ 99) (hl : LK C o mo S M) (hs : SVd C mo' mo.2.2.2 M) (hh : h < cO C) :
    ok (lp (b_X10_addChances_2 F w ch (if fl then 1 else 0) (nI h)) F ((0 : Int32), M)) (fun M' => (LK C o mo S M' ∧ SVd C mo' mo.2.2.2 M' ∧ fi PA2 M M') ∧ (∀ l, l ≤ h → M'.1 57 0 (l * 10 + h) = acV fl ch (pB (NewP C mo' mo.2.2.2 w.toInt (pw l h))) (M.1 57 0 (l * 10 + h))) ∧ ∀ h' l, h' < 10 → h' ≠ h → M'.1 57 0 (l * 10 + h') = M.1 57 0 (l * 10 + h')) := by
  have hO := hw.1.2.1
  refine ok_for (h + 1) (fun i z => z.1 = nI i ∧ (LK C o mo S z.2 ∧ SVd C mo' mo.2.2.2 z.2 ∧ fi PA2 M z.2) ∧ (∀ l, l ≤ h → z.2.1 57 0 (l * 10 + h) = if l < i then acV fl ch (pB (NewP C mo' mo.2.2.2 w.toInt (pw l h))) (M.1 57 0 (l * 10 + h)) else M.1 57 0 (l * 10 + h)) ∧ ∀ h' l, h' < 10 → h' ≠ h → z.2.1 57 0 (l * 10 + h') = M.1 57 0 (l * 10 + h')) 0 (by omega) (by omega) ⟨rfl, ⟨hl, hs, fi_rf⟩, fun l _ => rfl, fun _ _ _ _ => rfl⟩ ?_
  rintro i ⟨x1, M4⟩ hi ⟨e1, ⟨l4, s4, f4⟩, v4, u4⟩
  dsimp only at e1 l4 s4 f4 v4 u4
  subst e1
  simp only [b_X10_addChances_2, b_X10_addChances_2c]
  rw [ok_ite, nI_ltI (by omega) (by omega)]
  refine ⟨fun q => ok_some.mpr ⟨⟨l4, s4, f4⟩, fun l hl => by rw [v4 l hl, if_pos (by omega)], u4⟩, fun q => ?_⟩
  have hi' : i ≤ h := by omega
  have hpw : pw i h < 2 ^ cO C := pw_lt hh hi'
  have hin : vp_in (nI (i * 10 + h)) 100 := vp_in_nI (by omega) (by decide)
  rw [ok_nm, ix10, ok_bd]
  have vi : M4.1 57 0 (i * 10 + h) = M.1 57 0 (i * 10 + h) := by rw [v4 i hi', if_neg (by omega)]
  have fin : ∀ M', LK C o mo S M' → SVd C mo' mo.2.2.2 M' → fi PA2 M4 M' → (∀ k, k ≠ i * 10 + h → M'.1 57 0 k = M4.1 57 0 k) → M'.1 57 0 (i * 10 + h) = acV fl ch (pB (NewP C mo' mo.2.2.2 w.toInt (pw i h))) (M.1 57 0 (i * 10 + h)) → ok (some (Sum.inl (nI i + 1, M') : (Int32 × mm) ⊕ mm)) (Sum.elim (fun s' => i < h + 1 ∧ s'.1 = nI (i + 1) ∧ (LK C o mo S s'.2 ∧ SVd C mo' mo.2.2.2 s'.2 ∧ fi PA2 M s'.2) ∧ (∀ l, l ≤ h → s'.2.1 57 0 (l * 10 + h) = if l < i + 1 then acV fl ch (pB (NewP C mo' mo.2.2.2 w.toInt (pw l h))) (M.1 57 0 (l * 10 + h)) else M.1 57 0 (l * 10 + h)) ∧ ∀ h' l, h' < 10 → h' ≠ h → s'.2.1 57 0 (l * 10 + h') = M.1 57 0 (l * 10 + h')) (fun M' => (LK C o mo S M' ∧ SVd C mo' mo.2.2.2 M' ∧ fi PA2 M M') ∧ (∀ l, l ≤ h → M'.1 57 0 (l * 10 + h) = acV fl ch (pB (NewP C mo' mo.2.2.2 w.toInt (pw l h))) (M.1 57 0 (l * 10 + h))) ∧ ∀ h' l, h' < 10 → h' ≠ h → M'.1 57 0 (l * 10 + h') = M.1 57 0 (l * 10 + h'))) := fun M' g1 g2 g3 g4 g5 => by
    refine ok_some.mpr ⟨by omega, nI_1 i, ⟨g1, g2, fi_tr f4 g3⟩, fun l hl => ?_, fun h' l h1 h2 => ?_⟩
    · dsimp only
      by_cases e : l = i
      · subst e; rw [if_pos (by omega)]; exact g5
      · rw [g4 _ (by omega), v4 l hl]
        by_cases e2 : l < i
        · rw [if_pos e2, if_pos (by omega)]
        · rw [if_neg e2, if_neg (by omega)]
    · dsimp only
      rw [g4 _ (by omega)]; exact u4 h' l h1 h2
  refine ok_mono (Q := fun M' => LK C o mo S M' ∧ SVd C mo' mo.2.2.2 M' ∧ fi PA2 M4 M' ∧ (∀ k, k ≠ i * 10 + h → M'.1 57 0 k = M4.1 57 0 k) ∧ M'.1 57 0 (i * 10 + h) = acV fl ch (pB (NewP C mo' mo.2.2.2 w.toInt (pw i h))) (M.1 57 0 (i * 10 + h))) ?_ (fun M' hM' => fin M' hM'.1 hM'.2.1 hM'.2.2.1 hM'.2.2.2.1 hM'.2.2.2.2)
  refine ok_jn (P := fl = true ∨ M.1 57 0 (i * 10 + h) ≠ -1) (fun hj => ?_) (fun k hk => ?_)
  · show ok (cb (m_X9_bearsNew F (((1 : Int32) <<< (nI i &&& 31)) ||| ((1 : Int32) <<< (nI h &&& 31))) w M4) _) _
    rw [sh_pow _ (by omega), sh_pow _ (by omega), nx_or, ok_cb]
    refine ok_mono (bearsNew_ok hF hw hup hpw hW l4.2.2.2 s4) (fun r hr => ?_)
    obtain ⟨b7, M6⟩ := r
    obtain ⟨r1, r2, r3, r4⟩ := hr
    dsimp only at r1 r2 r3 r4 ⊢
    have f6 : fi PA2 M4 M6 := fi_fr r4 (fun k n i q => Or.inl q)
    have l6 : LK C o mo S M6 := LK_cs l4 f6 (fun k n i q => by unfold PA2 PN at q; omega) r2
    have v6 : ∀ k, M6.1 57 0 k = M4.1 57 0 k := fun k => fr_I r4 (by unfold PN; omega) k
    have r1' : b7 = pB (NewP C mo' mo.2.2.2 w.toInt (pw i h)) := r1
    rw [← r1']
    rw [ok_ite]
    refine ⟨fun q2 => ?_, fun q2 => ok_some.mpr ⟨l6, r3, f6, fun k _ => v6 k, ?_⟩⟩
    · rw [ok_bd]
      refine ok_mono (Q := fun v => v = if fl then 0 else M.1 57 0 (i * 10 + h) + ch) ?_ (fun v hv => ?_)
      · rw [ok_ite]
        cases fl
        · refine ⟨fun _ => ?_, fun q3 => absurd rfl q3⟩
          rw [ok_gi, ok_some, nI_clamp (by omega), v6, vi]
          exact ⟨hin, rfl⟩
        · exact ⟨fun q3 => absurd q3 (by decide), fun _ => ok_some.mpr rfl⟩
      · rw [ok_gi, ok_nm, ok_some, nI_clamp (by omega)]
        have f7 : fi (fun k _ _ => k = 57) M6 (sI M6 57 0 (i * 10 + h) v) := fi_sI fi_rf rfl
        refine ⟨hin, LK_f2 l6 f7 (fun k n i q => by omega), SVd_57 r3 f7, fi_tr f6 (fi_mono f7 (fun k n i q => Or.inr q)), fun k hk => by rw [rII, if_neg (fun q => hk q.2.2)]; exact v6 k, ?_⟩
        rw [rII, if_pos ⟨rfl, rfl, rfl⟩, hv, q2]
        unfold acV
        cases fl
        · rcases hj with hj | hj
          · cases hj
          · simp [hj]
        · rfl
    · have : b7 = false := by
        cases b7
        · rfl
        · exact absurd rfl q2
      rw [v6, vi, this]
      unfold acV
      cases fl
      · simp
      · rfl
  · rw [ok_ite]
    cases fl
    · refine ⟨fun _ => ?_, fun q3 => absurd rfl q3⟩
      rw [ok_gi, nI_clamp (by omega), vi, ok_ite]
      refine ⟨hin, fun q2 => ok_some.mpr ⟨l4, s4, fi_rf, fun _ _ => rfl, ?_⟩, fun q2 => hk (Or.inr q2)⟩
      rw [vi, q2]
      unfold acV
      simp
    · exact ⟨fun q3 => absurd q3 (by decide), fun _ => hk (Or.inl rfl)⟩
theorem addCh_ok {F : Nat} (hF : 2000 < F) {C : cty} {o S : Nat} {mo mo' : mty} {w ch : Int32} {fl : Bool} {M : mm} (hw : WF C) (hup : ∀ s, s < 32 → bt mo.2.2.2 s = true → s < cS C) (hW : 0 ≤ w.toInt ∧ w.toInt ≤ 99) (hl : LK C o mo S M) (hs : SVd C mo' mo.2.2.2 M) :
    ok (m_X10_addChances F w ch (if fl then 1 else 0) M) (fun M' => (LK C o mo S M' ∧ fi PA2 M M') ∧ ∀ h l, h < cO C → l ≤ h → M'.1 57 0 (l * 10 + h) = acV fl ch (pB (NewP C mo' mo.2.2.2 w.toInt (pw l h))) (M.1 57 0 (l * 10 + h))) := by
  have hO := hw.1.2.1
  unfold m_X10_addChances
  rw [ok_bd]
  refine ok_mono (Q := fun M' => (LK C o mo S M' ∧ fi PA2 M M') ∧ ∀ h l, h < cO C → l ≤ h → M'.1 57 0 (l * 10 + h) = acV fl ch (pB (NewP C mo' mo.2.2.2 w.toInt (pw l h))) (M.1 57 0 (l * 10 + h))) ?_ (fun M' hM' => ok_some.mpr hM')
  refine ok_for (cO C) (fun i z => z.1 = nI i ∧ (LK C o mo S z.2 ∧ SVd C mo' mo.2.2.2 z.2 ∧ fi PA2 M z.2) ∧ ∀ h l, h < cO C → l ≤ h → z.2.1 57 0 (l * 10 + h) = if h < i then acV fl ch (pB (NewP C mo' mo.2.2.2 w.toInt (pw l h))) (M.1 57 0 (l * 10 + h)) else M.1 57 0 (l * 10 + h)) 0 (by omega) (by omega) ⟨rfl, ⟨hl, hs, fi_rf⟩, fun h l _ _ => rfl⟩ ?_
  rintro i ⟨x1, M4⟩ hi ⟨e1, ⟨l4, s4, f4⟩, v4⟩
  dsimp only at e1 l4 s4 f4 v4
  subst e1
  simp only [b_X10_addChances_1, b_X10_addChances_1c]
  rw [l4.1.2.1, l4.2.2.2.1.1.1.2.1, ok_ite, nI_leI (by omega) (by omega)]
  refine ⟨fun q => ok_some.mpr ⟨⟨l4, f4⟩, fun h l a b => by rw [v4 h l a b, if_pos (by omega)]⟩, fun q => ?_⟩
  have hi' : i < cO C := by omega
  rw [ok_bd]
  refine ok_mono (ac2_ok hF hw hup hW l4 s4 hi') (fun M5 h5 => ok_some.mpr ?_)
  obtain ⟨⟨l5, s5, f5⟩, v5, u5⟩ := h5
  refine ⟨by omega, nI_1 i, ⟨l5, s5, fi_tr f4 f5⟩, fun h l a b => ?_⟩
  dsimp only
  by_cases e : h = i
  · subst e
    rw [v5 l b, v4 h l a b, if_neg (by omega), if_pos (by omega)]
  · rw [u5 h l (by omega) e, v4 h l a b]
    by_cases e2 : h < i
    · rw [if_pos e2, if_pos (by omega)]
    · rw [if_neg e2, if_neg (by omega)]
