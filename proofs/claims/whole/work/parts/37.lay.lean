/-! the wall: a stone is laid -/
def P6 : Nat → Nat → Prop := fun k _ => k = 10 ∨ k = 48 ∨ k = 49 ∨ k = 52 ∨ k = 53 ∨ k = 54
theorem wR_c {P : Nat → Nat → Prop} {M M' : mm} (h : fr P M M') (hP : ¬ P 47 0) : wR M' = wR M := by
  funext t o; unfold wR; rw [fr_I h hP]
def LI (w : Nat → Int) (c : Nat → Int) (M0 M' : mm) (s : Nat) (need : Int) : Prop :=
  fr P6 M0 M' ∧ M'.1 10 0 6 = M0.1 10 0 6 ∧ (∀ t, t < 32 → wL M' t = (wL M0 t || decide (t = s))) ∧ Flow w (wR M0) c (wL M') (ldM M') (lfM M') ∧ (∀ t, t < 11 → t ≠ s → sm 10 (ldM M' t) = sm 10 (ldM M0 t)) ∧ sm 10 (ldM M' s) = w s - need ∧ ∀ x, x < 10 → lfM M' x ≤ lfM M0 x
theorem lay1_ok {F : Nat} (hF : 1000 < F) {M : mm} {s : Nat} (hs : s < 11) {W : Int} (hW2 : W ≤ 1000) (hlf : ∀ o, o < 10 → 0 ≤ lfM M o) {x : Int32} (hx : x.toInt = W) (hx0 : 0 ≤ W) :
    ok (lp (b_X9_lay_1 F (nI s)) F (x, (0 : Int32), M)) (fun r => fr (fun k _ => k = 48 ∨ k = 49) M r.2 ∧ 0 ≤ r.1.toInt ∧ (∀ t o, t < 11 → o < 10 → t ≠ s → rl r.2 t o = rl M t o) ∧ (∀ o, o < 10 → 0 ≤ rl r.2 s o ∧ (0 < rl r.2 s o → wR M s o = true) ∧ lfM r.2 o + rl r.2 s o = lfM M o ∧ 0 ≤ lfM r.2 o) ∧ sm 10 (rl r.2 s) + r.1.toInt = W) := by
  refine ok_for 10 (fun i y => y.2.1 = nI i ∧ fr (fun k _ => k = 48 ∨ k = 49) M y.2.2 ∧ 0 ≤ y.1.toInt ∧ (∀ t o, t < 11 → o < 10 → t ≠ s → rl y.2.2 t o = rl M t o) ∧ (∀ o, o < i → 0 ≤ rl y.2.2 s o ∧ (0 < rl y.2.2 s o → wR M s o = true) ∧ lfM y.2.2 o + rl y.2.2 s o = lfM M o ∧ 0 ≤ lfM y.2.2 o) ∧ (∀ o, i ≤ o → o < 10 → lfM y.2.2 o = lfM M o) ∧ sm i (rl y.2.2 s) + y.1.toInt = W) 0 (by omega) (by omega) ⟨rfl, fr_rf, by dsimp only; omega, fun _ _ _ _ _ => rfl, fun o h => by omega, fun _ _ _ => rfl, by simp only [sm]; omega⟩ ?_
  rintro i ⟨x1, x2, M3⟩ hi ⟨e2, hf, hn, ho, hd, hr, hsum⟩
  dsimp only at e2 hf hn ho hd hr hsum
  subst e2
  simp only [b_X9_lay_1, b_X9_lay_1c, ok_ite, nI_lit_le (show 10 < 2 ^ 31 by decide) (show i < 2 ^ 31 by omega)]
  refine ⟨fun hc => ?_, fun hc => ?_⟩
  · have : i = 10 := by omega
    subst this
    rw [ok_some]
    exact ⟨hf, hn, ho, hd, hsum⟩
  · have h47 : M3.1 47 0 s = M.1 47 0 s := fr_I hf (by omega) s
    rw [ok_gi]
    refine ⟨vp_in_nI hs (by decide), ?_⟩
    rw [ok_bd]
    -- what is put on this one
    have mid : ok (if (((M3.1 47 0 (Int32.toNatClampNeg (nI s))) >>> (nI i &&& 31)) &&& (1 : Int32)) = (0 : Int32) then some (x1, (0 : Int32), M3) else gi (nI i) 10 (bd (if (M3.1 48 0 (Int32.toNatClampNeg (nI i))) ≤ x1 then gi (nI i) 10 (some (M3.1 48 0 (Int32.toNatClampNeg (nI i)))) else some x1) (fun x4 => gi (nI i) 10 (gi (nI i) 10 (nm (sI M3 48 0 (Int32.toNatClampNeg (nI i)) ((M3.1 48 0 (Int32.toNatClampNeg (nI i))) - x4)) fun M5 => nm (x1 - x4) fun x6 => some (x6, x4, M5)))))) (fun y => fr (fun k _ => k = 48) M3 y.2.2 ∧ 0 ≤ y.1.toInt ∧ 0 ≤ y.2.1.toInt ∧ (0 < y.2.1.toInt → wR M s i = true) ∧ y.1.toInt + y.2.1.toInt = x1.toInt ∧ lfM y.2.2 i + y.2.1.toInt = lfM M i ∧ 0 ≤ lfM y.2.2 i ∧ ∀ o, o ≠ i → lfM y.2.2 o = lfM M3 o) := by
      have hri := hr i (Nat.le_refl _) (by omega)
      have hli := hlf i (by omega)
      simp only [ok_ite, ok_gi, ok_bd, ok_nm, ok_some, nI_clamp (show s < 2 ^ 31 by omega), nI_clamp (show i < 2 ^ 31 by omega), h47, b_bit0 _ (show i < 32 by omega)]
      have put : ∀ x4 : Int32, wR M s i = true → 0 ≤ x4.toInt → x4.toInt ≤ x1.toInt → x4.toInt ≤ lfM M3 i → fr (fun k _ => k = 48) M3 (sI M3 48 0 i (M3.1 48 0 i - x4)) ∧ 0 ≤ (x1 - x4).toInt ∧ 0 ≤ x4.toInt ∧ (0 < x4.toInt → wR M s i = true) ∧ (x1 - x4).toInt + x4.toInt = x1.toInt ∧ lfM (sI M3 48 0 i (M3.1 48 0 i - x4)) i + x4.toInt = lfM M i ∧ 0 ≤ lfM (sI M3 48 0 i (M3.1 48 0 i - x4)) i ∧ ∀ o, o ≠ i → lfM (sI M3 48 0 i (M3.1 48 0 i - x4)) o = lfM M3 o := by
        intro x4 a1 a2 a3 a4
        have e1 : (x1 - x4).toInt = x1.toInt - x4.toInt := by
          have := i_hi x1
          exact i_sub (by omega) (by omega)
        have e2 : lfM (sI M3 48 0 i (M3.1 48 0 i - x4)) i = lfM M3 i - x4.toInt := by
          unfold lfM at a4 ⊢
          rw [rII, if_pos ⟨rfl, rfl, rfl⟩]
          have := i_hi (M3.1 48 0 i)
          exact i_sub (by omega) (by omega)
        refine ⟨fr_sI fr_rf rfl, by omega, a2, fun _ => a1, by omega, by omega, by omega, fun o h => ?_⟩
        unfold lfM
        rw [rII, if_neg (fun q => h q.2.2)]
      refine ⟨fun h0 => ⟨fr_rf, hn, Int.le_refl _, fun q => absurd q (Int.lt_irrefl 0), by show x1.toInt + 0 = x1.toInt; omega, by show _ + (0 : Int) = _; omega, by omega, fun _ _ => trivial⟩, fun h0 => ⟨vp_in_nI (by omega) (by decide), fun hc => ?_, fun hc => ?_⟩⟩
      · rw [i_le] at hc
        have h0 : wR M s i = true := by
          unfold wR
          cases h : bt (M.1 47 0 s) i
          · exact absurd h h0
          · rfl
        exact ⟨vp_in_nI (by omega) (by decide), vp_in_nI (by omega) (by decide), vp_in_nI (by omega) (by decide), put _ h0 (by show 0 ≤ lfM M3 i; omega) hc (Int.le_refl _)⟩
      · rw [i_le] at hc
        have h0 : wR M s i = true := by
          unfold wR
          cases h : bt (M.1 47 0 s) i
          · exact absurd h h0
          · rfl
        exact ⟨vp_in_nI (by omega) (by decide), vp_in_nI (by omega) (by decide), put _ h0 hn (Int.le_refl _) (by unfold lfM; omega)⟩
    refine ok_mono mid (fun y hy => ?_)
    obtain ⟨x7, x8, M9⟩ := y
    obtain ⟨g1, g2, g3, g4, g5, g6, g7, g8⟩ := hy
    dsimp only at g1 g2 g3 g4 g5 g6 g7 g8 ⊢
    simp only [ok_gi, ok_nm, ok_some, ix10, nI_clamp (show s * 10 + i < 2 ^ 31 by omega), Sum.elim_inl, nI_1]
    have rset : ∀ t o, o < 10 → rl (sI M9 49 0 (s * 10 + i) x8) t o = if t = s ∧ o = i then x8.toInt else rl M3 t o := by
      intro t o ho
      rw [rl_set (by omega) ho]
      by_cases e : t = s ∧ o = i
      · rw [if_pos e, if_pos e]
      · rw [if_neg e, if_neg e]
        unfold rl
        rw [fr_I g1 (by omega)]
    have lset : ∀ o, lfM (sI M9 49 0 (s * 10 + i) x8) o = lfM M9 o := fun o => by
      unfold lfM
      rw [rII, if_neg (by omega)]
    have hdi := hlf i (by omega)
    refine ⟨vp_in_nI (by omega) (by decide), by omega, trivial, fr_sI (fr_tr hf (fr_mono g1 (fun k n h => Or.inl h))) (Or.inr rfl), g2, fun t o ht ho' hne => ?_, fun o ho' => ?_, fun o h1 h2 => ?_, ?_⟩
    · rw [rset t o ho', if_neg (fun q => hne q.1)]; exact ho t o ht ho' hne
    · rw [rset s o (by omega), lset]
      rcases Nat.lt_succ_iff_lt_or_eq.mp ho' with h | h
      · rw [if_neg (fun q => by omega), g8 o (by omega)]; exact hd o h
      · subst h; rw [if_pos ⟨rfl, rfl⟩]; exact ⟨g3, g4, g6, g7⟩
    · rw [lset, g8 o (by omega)]; exact hr o (by omega) h2
    · have e1 : sm i (rl (sI M9 49 0 (s * 10 + i) x8) s) = sm i (rl M3 s) := sm_c (fun o ho' => by rw [rset s o (by omega), if_neg (fun q => by omega)])
      have e2 : rl (sI M9 49 0 (s * 10 + i) x8) s i = x8.toInt := by rw [rset s i (by omega), if_pos ⟨rfl, rfl⟩]
      simp only [sm]
      omega
theorem lay2_ok {F : Nat} (hF : 2000 < F) {M0 M : mm} {s : Nat} (hs : s < 11) {w : Nat → Int} {c : Nat → Int} (hw : ∀ t, t < 11 → w t ≤ 1000) {a x : Int32} (ha : a.toInt = w s) (ha0 : 0 ≤ w s) (hx : 0 ≤ x.toInt) (hxa : x.toInt ≤ w s) (h : LI w c M0 M s x.toInt) :
    ok (lp (b_X9_lay_2 F (nI s) a) F (x, (0 : Int32), M)) (fun r => (∃ y M', r = .inl (y, M') ∧ 0 < y.toInt ∧ y.toInt ≤ w s ∧ LI w c M0 M' s y.toInt ∧ ∃ T, Tight (wR M0) (wL M') (ldM M') (lfM M') T ∧ T s = true) ∨ ∃ y M', r = .inr (y, M') ∧ y = 0 ∧ LI w c M0 M' s 0) := by
  have hw2 := hw s hs
  refine ok_for (w s).toNat (fun i y => y.2.1 = nI i ∧ 0 ≤ y.1.toInt ∧ (y.1.toInt + i ≤ w s ∨ y.1.toInt = 0) ∧ LI w c M0 y.2.2 s y.1.toInt) 0 (by omega) (by omega) ⟨rfl, hx, Or.inl (by dsimp only; omega), h⟩ ?_
  rintro i ⟨x14, x15, M16⟩ hi ⟨e1, h1, h2, h3⟩
  dsimp only at e1 h1 h2 h3
  subst e1
  have hni : (nI i).toInt = (i : Int) := nI_toInt (by omega)
  simp only [b_X9_lay_2, b_X9_lay_2c, ok_ite, i_le, hni, ha]
  have zero : x14.toInt = 0 → ∃ y M', (Sum.inr (x14, M16) : (Int32 × mm) ⊕ (Int32 × mm)) = .inr (y, M') ∧ y = 0 ∧ LI w c M0 M' s 0 := by
    intro hz
    rw [hz] at h3
    exact ⟨x14, M16, rfl, i_eq.mpr hz, h3⟩
  refine ⟨fun hc => ok_some.mpr (Or.inr (zero (by omega))), fun hc => ⟨fun hd => ok_some.mpr (Or.inr (zero (by have : (0 : Int32).toInt = 0 := rfl; omega))), fun hd => ?_⟩⟩
  have hd0 : 0 < x14.toInt := by have : (0 : Int32).toInt = 0 := rfl; omega
  obtain ⟨l1, l2, l3, l4, l5, l6, l7⟩ := id h3
  have hR : wR M16 = wR M0 := wR_c l1 (by unfold P6; omega)
  have hLs : wL M16 s = true := by rw [l3 s (by omega)]; simp
  rw [ok_cl]
  have Fl : Flow w (wR M16) c (wL M16) (ldM M16) (lfM M16) := by rw [hR]; exact l4
  refine ok_mono (makeRoom_ok (by omega) hw Fl hs hLs hd0 (by omega)) (fun r hr => ?_)
  obtain ⟨x18, M17⟩ := r
  dsimp only at hr ⊢
  rw [hR] at hr
  rcases hr with ⟨r1, r2, T, r3, r4⟩ | ⟨r1, r2, r3, r4, r5, r6, r7⟩
  · rw [if_pos r1, ok_some]
    have hLc : ∀ t, wL M17 t = wL M16 t := fun t => by unfold wL; rw [fr_I r2 (by unfold P3; omega)]
    have hrl : ∀ t o, rl M17 t o = rl M16 t o := fun t o => by unfold rl; rw [fr_I r2 (by unfold P3; omega)]
    have hLd : ldM M17 = ldM M16 := by funext t o; unfold ldM; rw [hLc, hrl]
    have hLf : lfM M17 = lfM M16 := by funext o; unfold lfM; rw [fr_I r2 (by unfold P3; omega)]
    have hLL : wL M17 = wL M16 := funext hLc
    refine Or.inl ⟨x14, M17, rfl, hd0, by omega, ⟨fr_tr l1 (fr_mono r2 (fun k n h => by unfold P6; unfold P3 at h; omega)), (fr_I r2 (by unfold P3; omega) 6).trans l2, fun t ht => by rw [hLc]; exact l3 t ht, by rw [hLL, hLd, hLf]; exact l4, by rw [hLd]; exact l5, by rw [hLd]; exact l6, by rw [hLf]; exact l7⟩, T, by rw [hLL, hLd, hLf]; exact r3, r4⟩
  · rw [if_neg (fun e => by rw [e] at r1; exact absurd r1 (by decide))]
    rw [ok_nm, ok_some]
    have e2 : (x14 - x18).toInt = x14.toInt - x18.toInt := by
      have := i_hi x14
      exact i_sub (by omega) (by omega)
    have hLc : ∀ t, wL M17 t = wL M16 t := fun t => by unfold wL; rw [fr_I r3 (by unfold P5; omega)]
    have hLL : wL M17 = wL M16 := funext hLc
    refine ⟨by omega, nI_1 i, by dsimp only; omega, by dsimp only; omega, fr_tr l1 (fr_mono r3 (fun k n h => by unfold P6; unfold P5 at h; omega)), (fr_I r3 (by unfold P5; omega) 6).trans l2, fun t ht => by dsimp only; rw [hLc]; exact l3 t ht, by rw [hLL]; exact r4, fun t ht hne => by rw [r5 t ht hne]; exact l5 t ht hne, by dsimp only; rw [r6, l6, e2]; omega, fun x hx => Int.le_trans (r7 x hx) (l7 x hx)⟩
theorem lay_ok {F : Nat} (hF : 2000 < F) {M : mm} {s : Nat} (hs : s < 11) {w : Nat → Int} {c : Nat → Int} (hw : ∀ t, t < 11 → w t ≤ 1000) {a : Int32} (ha : a.toInt = w s) (ha0 : 0 ≤ w s) (hns : wL M s = false) (Fl : Flow w (wR M) c (wL M) (ldM M) (lfM M)) :
    ok (m_X9_lay F (nI s) a M) (fun r => 0 ≤ r.1.toInt ∧ r.1.toInt ≤ w s ∧ LI w c M r.2 s r.1.toInt ∧ (0 < r.1.toInt → ∃ T, Tight (wR M) (wL r.2) (ldM r.2) (lfM r.2) T ∧ T s = true)) := by
  unfold m_X9_lay
  rw [ok_bd]
  refine ok_mono (lay1_ok (by omega) hs (hw s hs) (fun o ho => (Fl.2.1 o ho).1) ha ha0) (fun r hr => ?_)
  obtain ⟨x11, M12⟩ := r
  obtain ⟨g1, g2, g3, g4, g5⟩ := hr
  dsimp only at g1 g2 g3 g4 g5 ⊢
  have h10 : M12.1 10 0 5 = M.1 10 0 5 := fr_I g1 (by omega) 5
  rw [ok_nm, ok_bd, h10]
  have hLs : ∀ t, t < 32 → wL (sI M12 10 0 5 ((M.1 10 0 5) ||| ((1 : Int32) <<< (nI s &&& 31)))) t = (wL M t || decide (t = s)) := by
    intro t ht
    unfold wL
    rw [rII, if_pos ⟨rfl, rfl, rfl⟩, b_or, b_one (by omega) ht]
  have hfr : fr P6 M (sI M12 10 0 5 ((M.1 10 0 5) ||| ((1 : Int32) <<< (nI s &&& 31)))) := fr_sI (fr_mono g1 (fun k n h => by unfold P6; omega)) (Or.inl rfl)
  have h6 : (sI M12 10 0 5 ((M.1 10 0 5) ||| ((1 : Int32) <<< (nI s &&& 31)))).1 10 0 6 = M.1 10 0 6 := by
    rw [rII, if_neg (by omega)]; exact fr_I g1 (by omega) 6
  have hrl : ∀ t o, rl (sI M12 10 0 5 ((M.1 10 0 5) ||| ((1 : Int32) <<< (nI s &&& 31)))) t o = rl M12 t o := fun t o => by
    unfold rl; rw [rII, if_neg (by omega)]
  have hlf : ∀ o, lfM (sI M12 10 0 5 ((M.1 10 0 5) ||| ((1 : Int32) <<< (nI s &&& 31)))) o = lfM M12 o := fun o => by
    unfold lfM; rw [rII, if_neg (by omega)]
  generalize sI M12 10 0 5 ((M.1 10 0 5) ||| ((1 : Int32) <<< (nI s &&& 31))) = M13 at hLs hfr h6 hrl hlf ⊢
  have ldS : ∀ o, o < 10 → ldM M13 s o = rl M12 s o := fun o ho => by
    unfold ldM
    rw [hLs s (by omega), hrl]; simp
  have ldS0 : ∀ o, ldM M s o = 0 := fun o => by unfold ldM; rw [hns]; simp
  have ldT : ∀ t o, t < 11 → o < 10 → t ≠ s → ldM M13 t o = ldM M t o := fun t o ht ho hne => by
    unfold ldM
    rw [hLs t (by omega), hrl, g3 t o ht ho hne]
    simp [hne]
  have rowS : sm 10 (ldM M13 s) = w s - x11.toInt := by
    rw [sm_c (f := ldM M13 s) (g := rl M12 s) ldS]; omega
  have rowT : ∀ t, t < 11 → t ≠ s → sm 10 (ldM M13 t) = sm 10 (ldM M t) := fun t ht hne => sm_c (fun o ho => ldT t o ht ho hne)
  have hLI : LI w c M M13 s x11.toInt := by
    refine ⟨hfr, h6, hLs, ⟨fun t o ht ho => ?_, fun o ho => ?_, fun t ht hL => ?_⟩, rowT, rowS, fun x hx => ?_⟩
    · by_cases e : t = s
      · subst e
        rw [ldS o ho]
        exact ⟨(g4 o ho).1, fun q => ⟨by rw [hLs t (by omega)]; simp, (g4 o ho).2.1 q⟩⟩
      · rw [ldT t o ht ho e]
        have h1 := Fl.1 t o ht ho
        exact ⟨h1.1, fun q => ⟨by rw [hLs t (by omega), (h1.2 q).1]; rfl, (h1.2 q).2⟩⟩
    · have e1 : sm 11 (fun t => ldM M13 t o) = sm 11 (fun t => ldM M t o) + rl M12 s o := by
        rw [sm_c (f := fun t => ldM M13 t o) (g := fun t => ldM M t o + if t = s then rl M12 s o else 0) (fun t ht => by
          by_cases e : t = s
          · subst e; rw [if_pos rfl, ldS o ho, ldS0]; omega
          · rw [if_neg e, ldT t o ht ho e]; omega), sm_add, sm_ind hs]
      have h1 := Fl.2.1 o ho
      have h2 := g4 o ho
      rw [hlf, e1]
      exact ⟨h2.2.2.2, by omega⟩
    · by_cases e : t = s
      · subst e; rw [rowS]; omega
      · rw [rowT t ht e]
        rw [hLs t (by omega)] at hL
        simp [e] at hL
        exact Fl.2.2 t ht hL
    · rw [hlf]
      have := g4 x hx
      omega
  have hx11 : x11.toInt ≤ w s := by
    have := sm_nn (f := rl M12 s) (n := 10) (fun o ho => (g4 o ho).1)
    omega
  refine ok_mono (lay2_ok hF hs hw ha ha0 g2 hx11 hLI) (fun r hr => ?_)
  rcases hr with ⟨y, M', rfl, h1, h2, h3, h4⟩ | ⟨y, M', rfl, h1, h2⟩
  · simp only [Sum.elim_inl, ok_some]
    exact ⟨by omega, h2, h3, fun _ => h4⟩
  · simp only [Sum.elim_inr, ok_some]
    subst h1
    exact ⟨Int.le_refl _, ha0, h2, fun q => absurd q (Int.lt_irrefl 0)⟩
