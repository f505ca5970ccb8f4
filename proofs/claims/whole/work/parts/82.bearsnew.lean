/-! the wall: a new stone is tried -/
theorem nx_or (a b : Nat) : nI a ||| nI b = nI (a ||| b) := by
  apply Int32.toBitVec_inj.1
  show BitVec.ofNat 32 a ||| BitVec.ofNat 32 b = BitVec.ofNat 32 (a ||| b)
  apply BitVec.eq_of_getLsbD_eq
  intro i hi
  simp [hi]
theorem flow_c {w w' : Nat → Int} {R R' : Nat → Nat → Bool} {c : Nat → Int} {L L' : Nat → Bool} {ld ld' : Nat → Nat → Int} {lf lf' : Nat → Int} (F : Flow w R c L ld lf) (hL : ∀ t, t < 11 → L' t = L t) (hd : ∀ t o, t < 11 → o < 10 → ld' t o = ld t o) (hf : ∀ o, o < 10 → lf' o = lf o) (hw : ∀ t, t < 11 → L t = true → w' t = w t ∧ ∀ o, o < 10 → R' t o = R t o) : Flow w' R' c L' ld' lf' := by
  obtain ⟨h1, h2, h3⟩ := F
  refine ⟨fun t o ht ho => ?_, fun o ho => ?_, fun t ht hl => ?_⟩
  · rw [hd t o ht ho, hL t ht]
    refine ⟨(h1 t o ht ho).1, fun q => ?_⟩
    obtain ⟨a, b⟩ := (h1 t o ht ho).2 q
    exact ⟨a, by rw [(hw t ht a).2 o ho]; exact b⟩
  · rw [hf o ho, sm_c (f := fun t => ld' t o) (g := fun t => ld t o) (fun t ht => hd t o ht ho)]; exact h2 o ho
  · rw [hL t ht] at hl
    rw [sm_c (f := ld' t) (g := ld t) (fun o ho => hd t o ht ho), (hw t ht hl).1]; exact h3 t ht hl
theorem hallN_of {C : cty} {mo : mty} {up : Int32} {j : Nat} {c : Nat → Int} {R : Nat → Nat → Bool} {w' : Nat → Int} (hw : WF C) (hup : ∀ s, s < 32 → bt up s = true → s < cS C) (hj : j < 2 ^ cO C) (hc : ∀ x, x < cO C → c x = (strS C mo x).toInt) (hR : ∀ s, s < cS C → ∀ x, R s x = bt (rS C up s) x) (hR2 : ∀ x, x < 10 → R 10 x = j.testBit x) (hw' : ∀ s, s < 10 → w' s = wS C s) :
    Hall w' R c (fun s => upB up 11 s || decide (s = 10)) ↔ HallU C mo up 11 ∧ NewP C mo up (w' 10) j := by
  have hS := hw.1.2.2.1
  have hr : ∀ s, s < cS C → ∀ x, bt (rS C up s) x = true → x < cO C := fun s hs x hx => rs_lt (fun s hs => (hw.2.2.2.2 s hs).2.2.1) s hs x (lt32 hx) hx
  have hk : ∀ x, x < 10 → (∃ s, s < 11 ∧ (upB up 11 s || decide (s = 10)) = true ∧ R s x = true) → c x = kS C mo x := fun x hx ⟨s, h1, h2, h3⟩ => by
    have hx' : x < cO C := by
      rw [Bool.or_eq_true, decide_eq_true_iff] at h2
      rcases h2 with h2 | h2
      · have := upB_lt hup h2
        rw [hR s this] at h3; exact hr s this x h3
      · rw [h2, hR2 x hx] at h3
        rcases Nat.lt_or_ge x (cO C) with r | r
        · exact r
        · rw [Nat.testBit_lt_two_pow (Nat.lt_of_lt_of_le hj (Nat.pow_le_pow_right (by decide) r))] at h3; cases h3
    unfold kS; rw [if_pos hx', hc x hx']
  have e : Hall w' R c (fun s => upB up 11 s || decide (s = 10)) ↔ Hall w' R (kS C mo) (fun s => upB up 11 s || decide (s = 10)) :=
    ⟨hall_c (fun s hs hU => ⟨rfl, fun _ _ => rfl⟩) hk, hall_c (fun s hs hU => ⟨rfl, fun _ _ => rfl⟩) (fun x hx h => (hk x hx h).symm)⟩
  rw [e, hall_new (w := wS C) (R := rB C up) (U := upB up 11) (n := 10) (by omega) (by
    cases e : upB up 11 10
    · rfl
    · have := upB_lt hup e; omega) (fun s => rfl) (fun s hs q => hw' s (by have := upB_lt hup q; omega)) (fun s hs q o ho => by
    have := upB_lt hup q
    unfold rB
    rw [hR s this, decide_eq_true this]; rfl)]
  unfold HallU NewP
  refine and_congr Iff.rfl (forall_congr' (fun X => imp_congr Iff.rfl ?_))
  rw [cX_c (O := fun o => nb (rB C up) X o || R 10 o) (O' := fun o => nb (rB C up) X o || j.testBit o) (fun o ho => by rw [hR2 o ho])]
/-- how the stones up lay was saved -/
def SVd (C : cty) (mo : mty) (up : Int32) (M : mm) : Prop := ∃ M0 : mm, FU C mo up M0 ∧ M.1 10 0 6 = M0.1 10 0 5 ∧ (∀ i, i < 10 → M.1 50 0 i = M0.1 48 0 i) ∧ (∀ i, i < 110 → M.1 51 0 i = M0.1 49 0 i) ∧ ∀ s, s < cS C → M.1 47 0 s = rS C up s
theorem cpR {M : mm} {ks ns kd nd n k' n' i' : Nat} : (cpA M ks ns kd nd n).1 k' n' i' = if k' = kd ∧ n' = nd ∧ i' < n then M.1 ks ns i' else M.1 k' n' i' := rfl
def PN : Nat → Nat → Prop := fun k _ => k = 10 ∨ k = 47 ∨ k = 48 ∨ k = 49 ∨ k = 52 ∨ k = 53 ∨ k = 54
theorem bearsNew_ok {F : Nat} (hF : 2000 < F) {C : cty} {o j : Nat} {mo : mty} {up w : Int32} {M : mm} (hw : WF C) (hup : ∀ s, s < 32 → bt up s = true → s < cS C) (hj : j < 2 ^ cO C) (hW : 0 ≤ w.toInt ∧ w.toInt ≤ 99) (hcs : CS C o M) (h : SVd C mo up M) :
    ok (m_X9_bearsNew F (nI j) w M) (fun r => r.1 = pB (NewP C mo up w.toInt j) ∧ CS C o r.2 ∧ SVd C mo up r.2 ∧ fr PN M r.2) := by
  have hS := hw.1.2.2.1
  obtain ⟨M0, ⟨u1, u2, ⟨c, u3, u4⟩, u5⟩, s1, s2, s3, s4⟩ := id h
  unfold m_X9_bearsNew
  rw [ok_nm, ok_nm, ok_nm, ok_gi, ok_nm, ok_cl]
  have t10 : (10 : Int32).toNatClampNeg = 10 := rfl
  rw [t10]
  refine ⟨vp_of (by decide), ?_⟩
  have f4 : fr PN M (sI (cpA (cpA (sI M 10 0 5 (M.1 10 0 6)) 50 0 48 0 10) 51 0 49 0 110) 47 0 10 (nI j)) := ⟨rfl, fun k n q => ⟨by
    unfold PN at q
    funext i
    rw [rII, if_neg (by omega), cpR, if_neg (by omega), cpR, if_neg (by omega), rII, if_neg (by omega)], rfl⟩⟩
  have a10 : ∀ i, (sI (cpA (cpA (sI M 10 0 5 (M.1 10 0 6)) 50 0 48 0 10) 51 0 49 0 110) 47 0 10 (nI j)).1 10 0 i = if i = 5 then M.1 10 0 6 else M.1 10 0 i := fun i => by
    rw [rII, if_neg (by omega), cpR, if_neg (by omega), cpR, if_neg (by omega), rII]
    simp
  have a48 : ∀ i, i < 10 → (sI (cpA (cpA (sI M 10 0 5 (M.1 10 0 6)) 50 0 48 0 10) 51 0 49 0 110) 47 0 10 (nI j)).1 48 0 i = M0.1 48 0 i := fun i hi => by
    rw [← s2 i hi, rII, if_neg (by omega), cpR, if_neg (by omega), cpR, if_pos ⟨rfl, rfl, hi⟩, rII, if_neg (by omega)]
  have a49 : ∀ i, i < 110 → (sI (cpA (cpA (sI M 10 0 5 (M.1 10 0 6)) 50 0 48 0 10) 51 0 49 0 110) 47 0 10 (nI j)).1 49 0 i = M0.1 49 0 i := fun i hi => by
    rw [← s3 i hi, rII, if_neg (by omega), cpR, if_pos ⟨rfl, rfl, hi⟩, cpR, if_neg (by omega), rII, if_neg (by omega)]
  have a47 : ∀ i, (sI (cpA (cpA (sI M 10 0 5 (M.1 10 0 6)) 50 0 48 0 10) 51 0 49 0 110) 47 0 10 (nI j)).1 47 0 i = if i = 10 then nI j else M.1 47 0 i := fun i => by
    rw [rII]
    by_cases e : i = 10
    · rw [if_pos ⟨rfl, rfl, e⟩, if_pos e]
    · rw [if_neg (fun q => e q.2.2), if_neg e]
      rw [cpR, if_neg (by omega), cpR, if_neg (by omega), rII, if_neg (by omega)]
  generalize sI (cpA (cpA (sI M 10 0 5 (M.1 10 0 6)) 50 0 48 0 10) 51 0 49 0 110) 47 0 10 (nI j) = M4 at f4 a10 a48 a49 a47 ⊢
  have hL0 : ∀ t, wL M4 t = wL M0 t := fun t => by unfold wL; rw [a10, if_pos rfl, s1]
  have hlf : ∀ x, x < 10 → lfM M4 x = lfM M0 x := fun x hx => by unfold lfM; rw [a48 x hx]
  have hld : ∀ t x, t < 11 → x < 10 → ldM M4 t x = ldM M0 t x := fun t x ht hx => by unfold ldM rl; rw [hL0, a49 _ (by omega)]
  have hLup : ∀ t, t < 11 → wL M0 t = true → t < cS C := fun t ht q => by
    rw [u1 t (by omega)] at q; exact hup t (by omega) q
  have hR : ∀ s, s < cS C → ∀ x, wR M4 s x = bt (rS C up s) x := fun s hs x => by
    unfold wR; rw [a47, if_neg (by omega), s4 s hs]
  have hR0 : ∀ s, s < cS C → ∀ x, wR M0 s x = bt (rS C up s) x := fun s hs x => by unfold wR; rw [u2 s hs]
  have hR2 : ∀ x, x < 10 → wR M4 10 x = j.testBit x := fun x hx => by
    unfold wR; rw [a47, if_pos rfl, b_nI (by omega)]
  have fl4 : Flow (fun s => if s = 10 then w.toInt else wS C s) (wR M4) c (wL M4) (ldM M4) (lfM M4) := flow_c u4 (fun t _ => hL0 t) hld hlf (fun t ht q => by
    have := hLup t ht q
    exact ⟨by rw [if_neg (by omega)], fun x _ => by rw [hR t this, hR0 t this]⟩)
  have fu4 : Full (fun s => if s = 10 then w.toInt else wS C s) (wL M4) (ldM M4) := fun t ht q => by
    rw [hL0 t] at q
    have := hLup t ht q
    dsimp only
    rw [if_neg (by omega), ← u5 t ht q]
    exact sm_c (fun x hx => hld t x ht hx)
  have hns : wL M4 10 = false := by
    cases e : wL M4 10
    · rfl
    · rw [hL0] at e
      have := hLup 10 (by omega) e; omega
  have hU0 : HallU C mo up 11 := by
    have := flow_hall u4 u5
    refine (hallU_of hw hup u3 hR0).mp (hall_sub this (fun s q => ?_))
    unfold upB at q; simp at q
    rw [u1 s (by omega)]; exact q.1
  have e10 : (10 : Int32) = nI 10 := rfl
  have key := hallN_of (mo := mo) (up := up) (j := j) (c := c) (R := wR M4) (w' := fun s => if s = 10 then w.toInt else wS C s) hw hup hj u3 hR hR2 (fun s hs => by rw [if_neg (by omega)])
  rw [if_pos rfl] at key
  rw [e10]
  refine ok_mono (lay_ok hF (show 10 < 11 by omega) (w := fun s => if s = 10 then w.toInt else wS C s) (c := c) (fun t _ => by
    have := wS_b hw t
    split <;> omega) (by rw [if_pos rfl]) (by rw [if_pos rfl]; omega) hns fl4) (fun r hr => ?_)
  obtain ⟨x6, M5⟩ := r
  obtain ⟨r1, r2, ⟨l1, l2, l3, l4, l5, l6, l7⟩, r4⟩ := hr
  dsimp only at r1 r2 l1 l2 l3 l4 l5 l6 l7 r4 ⊢
  have hL5 : ∀ t, wL M5 t = (upB up 11 t || decide (t = 10)) := fun t => by
    rcases Nat.lt_or_ge t 32 with ht | ht
    · rw [l3 t ht, hL0, u1 t ht]
      unfold upB
      cases e : bt up t
      · rfl
      · have := hup t ht e
        rw [decide_eq_true (show t < 11 by omega)]; rfl
    · have : decide (t = 10) = false := decide_eq_false (by omega)
      unfold wL upB
      rw [b_big ht, b_big ht, this]; rfl
  have hUe : (fun s => upB up 11 s || decide (s = 10)) = wL M5 := funext (fun t => (hL5 t).symm)
  have f5 : fr PN M M5 := fr_tr f4 (fr_mono l1 (fun k n q => by unfold P6 at q; unfold PN; omega))
  have cs5 : CS C o M5 := ⟨CV_fr hcs.1 f5 (fun k hk q => by unfold PN at q; omega), fun x hx => (l4.2.1 x hx).1⟩
  have sv5 : SVd C mo up M5 := ⟨M0, ⟨u1, u2, ⟨c, u3, u4⟩, u5⟩, by rw [l2, a10, if_neg (by omega)]; exact s1, fun i hi => by rw [fr_I f5 (by unfold PN; omega)]; exact s2 i hi, fun i hi => by rw [fr_I f5 (by unfold PN; omega)]; exact s3 i hi, fun s hs => by rw [fr_I l1 (by unfold P6; omega), a47, if_neg (by omega)]; exact s4 s hs⟩
  have z0 : (0 : Int32).toInt = 0 := rfl
  rw [ok_ite, i_eq, z0]
  refine ⟨fun q => ok_some.mpr ⟨?_, cs5, sv5, f5⟩, fun q => ok_some.mpr ⟨?_, cs5, sv5, f5⟩⟩
  · have full : Full (fun s => if s = 10 then w.toInt else wS C s) (wL M5) (ldM M5) := fun t ht hl => by
      by_cases e : t = 10
      · subst e; rw [l6, q]; dsimp only; omega
      · rw [l5 t ht e]
        refine fu4 t ht ?_
        rw [l3 t (by omega)] at hl
        simpa [e] using hl
    have := flow_hall l4 full
    rw [← hUe, key] at this
    rw [pB_t this.2]
  · obtain ⟨T, hT, hTi⟩ := r4 (by omega)
    have := tight_not (U := fun s => upB up 11 s || decide (s = 10)) l4 hT (fun s q => by rw [← hL5]; exact hT.1 s q) (show 10 < 11 by omega) hTi (by rw [l6, if_pos rfl]; omega)
    rw [key] at this
    rw [pB_f (fun q2 => this ⟨hU0, q2⟩)]
