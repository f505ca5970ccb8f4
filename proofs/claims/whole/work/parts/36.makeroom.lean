/-! the wall: room is made -/
def ldM (M : mm) (t o : Nat) : Int := if wL M t then rl M t o else 0
def P5 : Nat → Nat → Prop := fun k _ => k = 48 ∨ k = 49 ∨ k = 52 ∨ k = 53 ∨ k = 54
theorem way_c {M0 M0' M : mm} {s : Nat} (h1 : ∀ t o, wR M0' t o = wR M0 t o) (h2 : ∀ t, wL M0' t = wL M0 t) (h3 : ∀ t o, rl M0' t o = rl M0 t o) : ∀ (l : List (Nat × Nat)) (o : Nat), Way M0 M s o l → Way M0' M s o l := by
  intro l
  induction l with
  | nil => intro o h; exact ⟨h.1, by rw [h1]; exact h.2⟩
  | cons e l ih =>
    obtain ⟨t, o'⟩ := e
    intro o h
    obtain ⟨w1, w2, w3, w4, w5, w6, w7, w8, w9, w10⟩ := h
    exact ⟨w1, w2, w3, w4, w5, by rw [h3]; exact w6, by rw [h1]; exact w7, by rw [h2]; exact w8, w9, ih o' w10⟩
theorem ld_le {w : Nat → Int} {R : Nat → Nat → Bool} {c : Nat → Int} {L : Nat → Bool} {ld : Nat → Nat → Int} {lf : Nat → Int} (Fl : Flow w R c L ld lf) {t x : Nat} (ht : t < 11) (hx : x < 10) (hL : L t = true) : ld t x ≤ w t := by
  have h1 := sm_one (f := ld t) hx (fun i hi => (Fl.1 t i ht hi).1)
  have h2 := Fl.2.2 t ht hL
  omega
theorem move_ok {F : Nat} (hF : 1000 < F) {M0 M : mm} {w : Nat → Int} {c : Nat → Int} (hw : ∀ t, t < 11 → w t ≤ 1000) (Fl : Flow w (wR M0) c (wL M0) (ldM M0) (lfM M0)) (hf : fr P3 M0 M) {s o : Nat} (hs : s < 11) (hls : wL M0 s = true) {l : List (Nat × Nat)} (hW : Way M0 M s o l) (ho : o < 10) (hl : l.length ≤ 9) (hp : 0 < lfM M0 o) {nd : Int32} (hnd : 0 < nd.toInt) (hnw : sm 10 (ldM M0 s) + nd.toInt ≤ w s) :
    ok (m_X9_moveOver F (nI s) (nI o) nd M) (fun r => 0 < r.1.toInt ∧ r.1.toInt ≤ nd.toInt ∧ fr P5 M0 r.2 ∧ Flow w (wR M0) c (wL M0) (ldM r.2) (lfM r.2) ∧ (∀ t, t < 11 → t ≠ s → sm 10 (ldM r.2 t) = sm 10 (ldM M0 t)) ∧ sm 10 (ldM r.2 s) = sm 10 (ldM M0 s) + r.1.toInt ∧ ∀ x, x < 10 → lfM r.2 x ≤ lfM M0 x) := by
  have h48 : M.1 48 0 o = M0.1 48 0 o := fr_I hf (by unfold P3; omega) o
  have hrl : ∀ t x, t < 11 → x < 10 → wL M0 t = true → 0 ≤ rl M0 t x ∧ rl M0 t x ≤ 1000 := by
    intro t x ht hx hL
    have h1 := ld_le Fl ht hx hL
    have h2 := (Fl.1 t x ht hx).1
    have h3 := hw t ht
    unfold ldM at h1 h2
    rw [if_pos hL] at h1 h2
    omega
  have hnd2 : nd.toInt ≤ 1000 := by
    have h1 := hw s hs
    have h2 : 0 ≤ sm 10 (ldM M0 s) := sm_nn (fun i hi => (Fl.1 s i hs hi).1)
    omega
  unfold m_X9_moveOver
  rw [ok_gi]
  refine ⟨vp_in_nI ho (by decide), ?_⟩
  rw [ok_bd]
  have first : ok (if (M.1 48 0 (nI o).toNatClampNeg) ≤ nd then gi (nI o) 10 (some (M.1 48 0 (nI o).toNatClampNeg)) else some nd) (fun x => 0 < x.toInt ∧ x.toInt ≤ nd.toInt ∧ x.toInt ≤ lfM M0 o) := by
    simp only [ok_ite, ok_gi, ok_some, nI_clamp (show o < 2 ^ 31 by omega), h48]
    refine ⟨fun hc => ⟨vp_in_nI ho (by decide), hp, ?_, Int.le_refl _⟩, fun hc => ⟨hnd, Int.le_refl _, ?_⟩⟩
    · rw [i_le] at hc; exact hc
    · rw [i_le] at hc; unfold lfM; omega
  refine ok_mono first (fun x hx => ?_)
  obtain ⟨hx1, hx2, hx3⟩ := hx
  rw [ok_bd]
  refine ok_mono (move1_ok hF hf hs hW ho hl hx1) (fun a ha => ?_)
  obtain ⟨a1, a2, a3⟩ := ha
  simp only [ok_gi, ok_nm, ok_bd, nI_clamp (show o < 2 ^ 31 by omega), h48]
  refine ⟨vp_in_nI ho (by decide), vp_in_nI ho (by decide), ?_⟩
  have hfM : fr (fun k _ => k = 48 ∨ k = 52 ∨ k = 53 ∨ k = 54) M0 (sI M 48 0 o (M0.1 48 0 o - a)) := fr_sI (fr_mono hf (fun k n h => by unfold P3 at h; omega)) (Or.inl rfl)
  have hM53 : ∀ k n i, k = 53 ∨ k = 54 → M.1 k n i = (sI M 48 0 o (M0.1 48 0 o - a)).1 k n i := fun k n i h => by rw [rII, if_neg (by omega)]
  have hM48 : ∀ x, x < 10 → lfM (sI M 48 0 o (M0.1 48 0 o - a)) x = lfM M0 x - if x = o then a.toInt else 0 := by
    intro x hx
    have b := (Fl.2.1 o ho).1
    unfold lfM at b hx3 ⊢
    rw [rII]
    by_cases e : x = o
    · subst e
      rw [if_pos ⟨rfl, rfl, rfl⟩, if_pos rfl]
      have := i_hi (M0.1 48 0 x)
      exact i_sub (by omega) (by omega)
    · rw [if_neg (fun q => e q.2.2), if_neg e, fr_I hf (by unfold P3; omega)]; omega
  generalize hM1 : sI M 48 0 o (M0.1 48 0 o - a) = M1 at hfM hM53 hM48 ⊢
  have c1 : ∀ t x, wR M1 t x = wR M0 t x := fun t x => by unfold wR; rw [fr_I hfM (by omega)]
  have c2 : ∀ t, wL M1 t = wL M0 t := fun t => by unfold wL; rw [fr_I hfM (by omega)]
  have c3 : ∀ t x, rl M1 t x = rl M0 t x := fun t x => by unfold rl; rw [fr_I hfM (by omega)]
  have hcol : ∀ x, x < 10 → colM M1 M1 x = sm 11 (fun t => ldM M0 t x) := fun x hx => sm_c (fun t ht => by unfold ldM; rw [c2, c3])
  have hI0 : MI M1 M1 a.toInt o o [] := ⟨fr_rf, fun _ _ _ _ _ => rfl, fun _ _ => rfl, fun x hx => by omega, fun t ht hL x hx => by
    rw [c2] at hL
    have h1 := Fl.1 t x ht hx
    unfold ldM at h1
    rw [if_pos hL] at h1
    rw [c3, c1]
    exact ⟨h1.1, fun q => (h1.2 q).2⟩⟩
  refine ok_mono (move2_ok (M0 := M1) (Mw := M) hF hs (way_c c1 c2 c3 l o hW) hM53 ho hl ⟨a1, by omega⟩ (fun e he => by rw [c3]; exact a3 e he) (fun t x ht hx hL => by rw [c3]; rw [c2] at hL; exact (hrl t x ht hx hL).2) hI0) (fun r hr => ?_)
  obtain ⟨x18, M19⟩ := r
  obtain ⟨o', e1, ho', hr', hls', g1, g2, g3, g4, g5⟩ := hr
  dsimp only at e1 g1 g2 g3 g4 g5 ⊢
  subst e1
  simp only [ok_gi, ok_nm, ok_some, ix10, nI_clamp (show s * 10 + o' < 2 ^ 31 by omega)]
  refine ⟨vp_in_nI (by omega) (by decide), vp_in_nI (by omega) (by decide), ?_⟩
  have hls1 : wL M1 s = true := by rw [c2]; exact hls
  have gs : ∀ x, x < 10 → rl M19 s x = rl M0 s x := fun x hx => (g2 s hs hls' x hx).trans (c3 s x)
  have v1 : (M19.1 49 0 (s * 10 + o') + a).toInt = rl M19 s o' + a.toInt := by
    have b1 := hrl s o' hs ho' hls
    have b2 := gs o' ho'
    unfold rl at b1 b2 ⊢
    exact i_add (by omega) (by omega)
  have m1 : ∀ t x, x < 10 → rl (sI M19 49 0 (s * 10 + o') (M19.1 49 0 (s * 10 + o') + a)) t x = rl M19 t x + if t = s then (if x = o' then a.toInt else 0) else 0 := by
    intro t x hx
    rw [rl_set ho' hx, v1]
    by_cases e1 : t = s
    · subst e1
      by_cases e2 : x = o'
      · subst e2; rw [if_pos ⟨rfl, rfl⟩, if_pos rfl, if_pos rfl]
      · rw [if_neg (fun q => e2 q.2), if_pos rfl, if_neg e2]; omega
    · rw [if_neg (fun q => e1 q.1), if_neg e1]; omega
  have hf20 : fr P5 M0 (sI M19 49 0 (s * 10 + o') (M19.1 49 0 (s * 10 + o') + a)) := fr_sI (fr_tr (fr_mono hfM (fun k n h => by unfold P5; omega)) (fr_mono g1 (fun k n h => by unfold P5; unfold P1 at h; omega))) (Or.inr (Or.inl rfl))
  have h48' : ∀ x, x < 10 → lfM (sI M19 49 0 (s * 10 + o') (M19.1 49 0 (s * 10 + o') + a)) x = lfM M0 x - if x = o then a.toInt else 0 := by
    intro x hx
    rw [← hM48 x hx]
    unfold lfM
    rw [rII, if_neg (by omega), fr_I g1 (by unfold P1; omega)]
  generalize hM2 : sI M19 49 0 (s * 10 + o') (M19.1 49 0 (s * 10 + o') + a) = M2 at m1 hf20 h48' ⊢
  have d2 : ∀ t, wL M2 t = wL M0 t := fun t => by unfold wL; rw [fr_I hf20 (by unfold P5; omega)]
  have row : ∀ t, t < 11 → t ≠ s → sm 10 (ldM M2 t) = sm 10 (ldM M0 t) := by
    intro t ht hne
    cases hL : wL M0 t
    · refine sm_c (fun x hx => ?_)
      unfold ldM
      rw [d2, hL]
      simp
    · have h0 : sm 10 (ldM M2 t) = sm 10 (rl M19 t) := sm_c (fun x hx => by
        unfold ldM
        rw [d2, hL, if_pos rfl, m1 t x hx, if_neg hne]; omega)
      have h1 : sm 10 (rl M1 t) = sm 10 (rl M0 t) := sm_c (fun x _ => c3 t x)
      have h2 : sm 10 (ldM M0 t) = sm 10 (rl M0 t) := sm_c (fun x hx => by
        unfold ldM
        rw [hL, if_pos rfl])
      rw [h0, g3 t ht, h1, h2]
  have rowS : sm 10 (ldM M2 s) = sm 10 (ldM M0 s) + a.toInt := by
    rw [sm_c (f := ldM M2 s) (g := fun x => ldM M0 s x + if x = o' then a.toInt else 0) (fun x hx => by unfold ldM; rw [d2, hls, if_pos rfl, m1 s x hx, if_pos rfl, gs x hx, if_pos rfl]), sm_add, sm_ind ho']
  refine ⟨a1, by omega, hf20, ⟨fun t x ht hx => ?_, fun x hx => ?_, fun t ht hL => ?_⟩, row, rowS, fun x hx => ?_⟩
  · unfold ldM
    rw [d2]
    cases hL : wL M0 t
    · exact ⟨Int.le_refl _, fun q => absurd q (Int.lt_irrefl 0)⟩
    · rw [if_pos rfl, m1 t x hx]
      have h1 := g5 t ht (by rw [c2]; exact hL) x hx
      rw [c1] at h1
      rw [c1] at hr'
      by_cases e1 : t = s
      · subst e1
        rw [if_pos rfl]
        by_cases e2 : x = o'
        · subst e2; rw [if_pos rfl]; exact ⟨by omega, fun _ => ⟨rfl, hr'⟩⟩
        · rw [if_neg e2, Int.add_zero]; exact ⟨h1.1, fun q => ⟨rfl, h1.2 q⟩⟩
      · rw [if_neg e1, Int.add_zero]; exact ⟨h1.1, fun q => ⟨rfl, h1.2 q⟩⟩
  · have e1 : sm 11 (fun t => ldM M2 t x) = colM M1 M19 x + if x = o' then a.toInt else 0 := by
      rw [sm_c (f := fun t => ldM M2 t x) (g := fun t => (if wL M1 t then rl M19 t x else 0) + if t = s then (if x = o' then a.toInt else 0) else 0) (fun t ht => by
        unfold ldM
        rw [d2, c2]
        cases hL : wL M0 t
        · have : t ≠ s := fun e => by rw [e, hls] at hL; cases hL
          rw [if_neg this]; simp
        · rw [if_pos rfl, if_pos rfl, m1 t x hx]), sm_add, sm_ind hs]
      rfl
    rw [e1, g4 x hx, hcol x hx, h48' x hx]
    have h1 := Fl.2.1 x hx
    by_cases e : x = o
    · subst e; rw [if_pos rfl]; omega
    · rw [if_neg e]; omega
  · by_cases e : t = s
    · subst e; rw [rowS]; omega
    · rw [row t ht e]; exact Fl.2.2 t ht hL
  · rw [h48' x hx]; split <;> omega
theorem makeRoom_ok {F : Nat} (hF : 1000 < F) {M0 : mm} {w : Nat → Int} {c : Nat → Int} (hw : ∀ t, t < 11 → w t ≤ 1000) (Fl : Flow w (wR M0) c (wL M0) (ldM M0) (lfM M0)) {s : Nat} (hs : s < 11) (hls : wL M0 s = true) {nd : Int32} (hnd : 0 < nd.toInt) (hnw : sm 10 (ldM M0 s) + nd.toInt ≤ w s) :
    ok (m_X9_makeRoom F (nI s) nd M0) (fun r => (r.1 = 0 ∧ fr P3 M0 r.2 ∧ ∃ T, Tight (wR M0) (wL M0) (ldM M0) (lfM M0) T ∧ T s = true) ∨ (0 < r.1.toInt ∧ r.1.toInt ≤ nd.toInt ∧ fr P5 M0 r.2 ∧ Flow w (wR M0) c (wL M0) (ldM r.2) (lfM r.2) ∧ (∀ t, t < 11 → t ≠ s → sm 10 (ldM r.2 t) = sm 10 (ldM M0 t)) ∧ sm 10 (ldM r.2 s) = sm 10 (ldM M0 s) + r.1.toInt ∧ ∀ x, x < 10 → lfM r.2 x ≤ lfM M0 x)) := by
  unfold m_X9_makeRoom
  rw [ok_cl]
  refine ok_mono (reach_ok (q := []) (so := 0) hF hs ⟨List.nodup_nil, fun o h => (by cases h), fun i o h => (by simp at h)⟩ (fun o ho => by rw [b_0]; simp)) (fun r hr => ?_)
  obtain ⟨x2, M1⟩ := r
  obtain ⟨p, r1, r2, r3, r4, r5, r6⟩ := hr
  dsimp only at r1 r2 r4 r5 r6 ⊢
  simp only [List.nil_append] at r1 r2 r3
  subst r1
  have h47 : M1.1 47 0 s = M0.1 47 0 s := fr_I r6 (by omega) s
  simp only [ok_gi, ok_nm, ok_bd, nI_clamp (show s < 2 ^ 31 by omega), h47]
  refine ⟨vp_in_nI hs (by decide), ?_⟩
  have hB : BI M0 s M1 p (M0.1 47 0 s) ((1 : Int32) <<< (nI s &&& 31)) := by
    refine ⟨r2, fun o ho => ?_, by rw [b_one (by omega) (by omega)]; simp, fun t ht h => ?_, fun t ht h o ho hr => ?_, fun o ho => ⟨s, hs, r4 o ho, by rw [b_one (by omega) (by omega)]; simp, ((r3 o).mp ho).2.1⟩, fun j o t hj ht h53 hne => ?_, fr_mono r6 (fun k n h => by unfold P3; omega)⟩
    · rw [r3 o]; exact ⟨fun h => ⟨ho, h, List.not_mem_nil⟩, fun h => h.2.1⟩
    · rw [b_one (by omega) (by omega), decide_eq_true_iff] at h; subst h; exact hls
    · rw [b_one (by omega) (by omega), decide_eq_true_iff] at h; subst h; exact (r3 o).mpr ⟨ho, hr, List.not_mem_nil⟩
    · rw [r4 o (List.mem_of_getElem? hj)] at h53
      exact absurd ((nI_eq (by omega) (by omega)).mp h53).symm hne
  refine ok_mono (room2_ok hF hB) (fun r hr => ?_)
  rcases hr with ⟨q', so', ss', j, o, M', rfl, B', hj, hp⟩ | ⟨q', so', ss', M', rfl, B', hsh⟩
  · simp only [Sum.elim_inl, ok_cl]
    obtain ⟨l, hW, hlen, -⟩ := way_of B' j o hj
    have hj9 := (List.getElem?_eq_some_iff.mp hj).1
    have hq10 := QI_len B'.1
    refine ok_mono (move_ok hF hw Fl B'.2.2.2.2.2.2.2 hs hls hW (B'.1.2.1 o (List.mem_of_getElem? hj)) (by omega) hp hnd hnw) (fun r hr => ?_)
    rw [ok_some]
    exact Or.inr hr
  · simp only [Sum.elim_inr, ok_some]
    refine Or.inl ⟨trivial, B'.2.2.2.2.2.2.2, fun t => decide (t < 11) && bt ss' t, ⟨fun t h => ?_, fun o ho hn => ?_⟩, ?_⟩
    · rw [Bool.and_eq_true, decide_eq_true_iff] at h
      exact B'.2.2.2.1 t h.1 h.2
    · obtain ⟨t, ht, hx, hr⟩ := nb_iff.mp hn
      rw [Bool.and_eq_true, decide_eq_true_iff] at hx
      obtain ⟨s1, s2⟩ := hsh o (B'.2.2.2.2.1 t ht hx.2 o ho hr)
      refine ⟨?_, fun t2 ht2 hp => ?_⟩
      · have := (Fl.2.1 o ho).1; omega
      · rw [Bool.and_eq_true, decide_eq_true_iff]
        have hL := ((Fl.1 t2 o ht2 ho).2 hp).1
        unfold ldM at hp
        rw [hL, if_pos rfl] at hp
        exact ⟨ht2, s2 t2 ht2 hL hp⟩
    · rw [Bool.and_eq_true, decide_eq_true_iff]; exact ⟨hs, B'.2.2.1⟩
