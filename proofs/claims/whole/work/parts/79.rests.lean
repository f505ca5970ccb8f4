/-! rests -/
theorem nx_xor (a b : Nat) : nI a ^^^ nI b = nI (a ^^^ b) := by
  apply Int32.toBitVec_inj.1
  show BitVec.ofNat 32 a ^^^ BitVec.ofNat 32 b = BitVec.ofNat 32 (a ^^^ b)
  apply BitVec.eq_of_getLsbD_eq
  intro i hi
  simp [hi]
theorem ix6 : ∀ b, b < 64 → ∀ p, p < 6 → nI b * 6 + nI p = nI (b * 6 + p) := by decide +kernel
theorem p26 : ∀ n, n ≤ 6 → 0 < 2 ^ n ∧ 2 ^ n ≤ 64 := fun n hn => ⟨Nat.pow_pos (by decide), Nat.pow_le_pow_right (n := 2) (by decide) hn⟩
noncomputable def gaS (C : cty) (mo : mty) (b p : Nat) : Int32 := gaN C mo b p (cS C)
def RsP (C : cty) (mo : mty) (b : Nat) : Prop := ∀ p, p < cP C → ¬ gaS C mo b p < gaS C mo (b ^^^ 2 ^ p) p
noncomputable def rsC (C : cty) (mo : mty) : Nat → Nat
  | 0 => 0
  | n + 1 => if pB (RsP C mo n) = true then rsC C mo n + 1 else rsC C mo n
theorem rsC_le {C : cty} {mo : mty} : ∀ n, rsC C mo n ≤ n
  | 0 => Nat.le_refl _
  | n + 1 => by
    have := rsC_le (C := C) (mo := mo) n
    unfold rsC
    split <;> omega
/-- the a-th rest below n -/
noncomputable def rsO (C : cty) (mo : mty) (a : Int32) : Nat → Option Nat
  | 0 => none
  | n + 1 => match rsO C mo a n with
    | some i => some i
    | none => if pB (RsP C mo n) = true then (if nI (rsC C mo n) = a then some n else none) else none
theorem rsO_up {C : cty} {mo : mty} {a : Int32} {n i : Nat} (h : rsO C mo a n = some i) : ∀ m, rsO C mo a (n + m) = some i
  | 0 => h
  | m + 1 => by
    show rsO C mo a (n + m + 1) = some i
    unfold rsO
    rw [rsO_up h m]
theorem rsO_t {C : cty} {mo : mty} {a : Int32} {n : Nat} (h : rsO C mo a n = none) (h2 : pB (RsP C mo n) = true) (h3 : nI (rsC C mo n) = a) : rsO C mo a (n + 1) = some n := by
  unfold rsO; rw [h]; dsimp only; rw [if_pos h2, if_pos h3]
theorem rsO_n {C : cty} {mo : mty} {a : Int32} {n : Nat} (h : rsO C mo a n = none) (h2 : pB (RsP C mo n) = true) (h3 : ¬ nI (rsC C mo n) = a) : rsO C mo a (n + 1) = none := by
  unfold rsO; rw [h]; dsimp only; rw [if_pos h2, if_neg h3]
theorem rsO_f {C : cty} {mo : mty} {a : Int32} {n : Nat} (h : rsO C mo a n = none) (h2 : ¬ pB (RsP C mo n) = true) : rsO C mo a (n + 1) = none := by
  unfold rsO; rw [h]; dsimp only; rw [if_neg h2]
noncomputable def restsS (C : cty) (mo : mty) (a : Int32) : Int32 :=
  if -1 ≤ a then (match rsO C mo a (2 ^ cP C) with | some i => nI i | none => if a = -1 then nI (rsC C mo (2 ^ cP C)) else -1) else -1
theorem restsS_some {C : cty} {mo : mty} {a : Int32} {i n : Nat} (ha : -1 ≤ a) (h : rsO C mo a n = some i) (hn : n ≤ 2 ^ cP C) : restsS C mo a = nI i := by
  unfold restsS
  obtain ⟨m, hm⟩ := Nat.exists_eq_add_of_le hn
  rw [if_pos ha, hm, rsO_up h m]
theorem restsS_none {C : cty} {mo : mty} {a : Int32} (ha : -1 ≤ a) (h : rsO C mo a (2 ^ cP C) = none) : restsS C mo a = if a = -1 then nI (rsC C mo (2 ^ cP C)) else -1 := by
  unfold restsS
  rw [if_pos ha, h]
def PX3 (o : Nat) : Nat → Nat → Nat → Prop := fun k n i => PX2 o k n i ∨ k = 59
def Fil (C : cty) (mo : mty) (b p : Nat) (M : mm) : Prop := ∀ b' p', p' < cP C → (b' < b ∨ (b' = b ∧ p' < p)) → M.1 59 0 (b' * 6 + p') = gaS C mo b' p'
theorem isRest_ok {F : Nat} (hF : 1000 < F) {C : cty} {o S b : Nat} {M : mm} {mo : mty} (hw : WF C) (h : LK C o mo S M) (hb : b < 2 ^ cP C) (hf : Fil C mo (2 ^ cP C) 0 M) :
    ok (m_X10_isRest F (nI b) M) (fun r => r = (pB (RsP C mo b), M)) := by
  have hP := hw.1.1
  have h2 := p26 _ hP
  obtain ⟨⟨a7, ao, am, a8, a6⟩, -, -, acs⟩ := id h
  unfold m_X10_isRest
  rw [ok_bd]
  refine ok_mono (Q := Sum.elim (fun _ => ¬ RsP C mo b) (fun _ => RsP C mo b)) ?_ (fun r hr => ?_)
  · refine ok_for (cP C) (fun i z => z = nI i ∧ ∀ p, p < i → ¬ gaS C mo b p < gaS C mo (b ^^^ 2 ^ p) p) 0 (by omega) (by omega) ⟨rfl, fun p hp => by omega⟩ ?_
    rintro i z hi ⟨e1, e2⟩
    subst e1
    simp only [b_X10_isRest_1, b_X10_isRest_1c]
    rw [ao, acs.1.1.1.1, ok_ite, nI_leI (by omega) (by omega)]
    refine ⟨fun q => ok_some.mpr (fun p hp => e2 p (by omega)), fun q => ?_⟩
    have hi' : i < cP C := by omega
    have hx : b ^^^ 2 ^ i < 2 ^ cP C := Nat.xor_lt_two_pow hb (Nat.pow_lt_pow_right (by decide) hi')
    rw [ok_nm, sh_pow i (by omega), nx_xor, ok_gi, ok_gi, ix6 _ (by omega) _ (by omega), ix6 _ (by omega) _ (by omega), nI_clamp (by omega), nI_clamp (by omega), hf _ _ hi' (Or.inl hx), hf _ _ hi' (Or.inl hb), ok_ite]
    refine ⟨vp_in_nI (by omega) (by decide), vp_in_nI (by omega) (by decide), fun q2 => ok_some.mpr ⟨by omega, nI_1 i, fun p hp => ?_⟩, fun q2 => ok_some.mpr (fun q3 => q2 ?_)⟩
    · by_cases e : p = i
      · subst e; simp only [i_lt, i_le] at q2 ⊢; omega
      · exact e2 p (by omega)
    · have := q3 i hi'
      simp only [i_lt, i_le] at this ⊢; omega
  · cases r with
    | inl u => exact ok_some.mpr (by rw [pB_f (show ¬ RsP C mo b from hr)])
    | inr u => exact ok_some.mpr (by rw [pB_t (show RsP C mo b from hr)])
theorem fill2_ok {F : Nat} (hF : 3000 < F) {C : cty} {o S b : Nat} {M : mm} {mo : mty} (hw : WF C) (h : LK C o mo S M) (hb : b < 2 ^ cP C) (hf : Fil C mo b 0 M) (hc : M.1 11 0 17 = upC C mo b ∧ M.1 11 0 18 = kpC C mo b ∧ ∀ s, s < cS C → M.1 47 0 s = rS C (upC C mo b) s) :
    ok (lp (b_X10_fillGains_2 F (nI b)) F ((0 : Int32), M)) (fun M' => Fil C mo (b + 1) 0 M' ∧ LK C o mo S M' ∧ fi (fun k _ _ => k = 59) M M') := by
  have hP := hw.1.1
  have h2 := p26 _ hP
  refine ok_for (cP C) (fun i z => z.1 = nI i ∧ Fil C mo b i z.2 ∧ LK C o mo S z.2 ∧ (z.2.1 11 0 17 = upC C mo b ∧ z.2.1 11 0 18 = kpC C mo b ∧ ∀ s, s < cS C → z.2.1 47 0 s = rS C (upC C mo b) s) ∧ fi (fun k _ _ => k = 59) M z.2) 0 (by omega) (by omega) ⟨rfl, hf, h, hc, fi_rf⟩ ?_
  rintro i ⟨x1, M2⟩ hi ⟨e1, e2, e3, e4, e5⟩
  dsimp only at e1 e2 e3 e4 e5
  subst e1
  simp only [b_X10_fillGains_2, b_X10_fillGains_2c]
  rw [e3.1.2.1, e3.2.2.2.1.1.1.1, ok_ite, nI_leI (by omega) (by omega)]
  refine ⟨fun q => ok_some.mpr ⟨fun b' p' hp hq => e2 b' p' hp (by omega), e3, e5⟩, fun q => ?_⟩
  have hi' : i < cP C := by omega
  rw [ok_cl]
  refine ok_mono (gainOf_ok (by omega) hw e3 hi' e4) (fun r hr => ?_)
  subst hr
  dsimp only
  rw [ok_gi, ok_nm, ok_some, ix6 _ (by omega) _ (by omega), nI_clamp (by omega)]
  have f1 : fi (fun k _ _ => k = 59) M2 (sI M2 59 0 (b * 6 + i) (gaN C mo b i (cS C))) := fi_sI fi_rf rfl
  refine ⟨vp_in_nI (by omega) (by decide), by omega, nI_1 i, fun b' p' hp hq => ?_, LK_f2 e3 f1 (fun k n i q => by omega), ⟨by rw [fi_I f1 (by omega)]; exact e4.1, by rw [fi_I f1 (by omega)]; exact e4.2.1, fun s hs => by rw [fi_I f1 (by omega)]; exact e4.2.2 s hs⟩, fi_tr e5 f1⟩
  dsimp only
  rw [rII]
  by_cases e : b' * 6 + p' = b * 6 + i
  · have e6 : b' = b ∧ p' = i := by omega
    rw [if_pos ⟨rfl, rfl, e⟩, e6.1, e6.2]; rfl
  · rw [if_neg (fun q => e q.2.2)]
    exact e2 b' p' hp (by omega)
theorem fillGains_ok {F : Nat} (hF : 3000 < F) {C : cty} {o S Y : Nat} (hS : S < 2 ^ 31) (hY : Y < 2 ^ 31) {M : mm} {mo : mty} (hw : WF C) (hg : MG C mo Y) (h : LK C o mo S M) :
    ok (m_X10_fillGains F M) (fun M' => Fil C mo (2 ^ cP C) 0 M' ∧ LK C o mo S M' ∧ fi (PX3 o) M M') := by
  have hP := hw.1.1
  have h2 := p26 _ hP
  unfold m_X10_fillGains
  rw [ok_bd]
  refine ok_mono (Q := fun M' => Fil C mo (2 ^ cP C) 0 M' ∧ LK C o mo S M' ∧ fi (PX3 o) M M') ?_ (fun M' hM' => ok_some.mpr hM')
  refine ok_for (2 ^ cP C) (fun b z => z.1 = nI b ∧ Fil C mo b 0 z.2 ∧ LK C o mo S z.2 ∧ fi (PX3 o) M z.2) 0 (by omega) (by omega) ⟨rfl, fun b' p' _ q => by omega, h, fi_rf⟩ ?_
  rintro b ⟨x1, M2⟩ hb ⟨e1, e2, e3, e4⟩
  dsimp only at e1 e2 e3 e4
  subst e1
  simp only [b_X10_fillGains_1, b_X10_fillGains_1c]
  rw [e3.1.2.1, e3.2.2.2.1.1.1.1, sh_pow _ (by omega), ok_ite, nI_leI (by omega) (by omega)]
  refine ⟨fun q => ok_some.mpr ?_, fun q => ?_⟩
  · have : b = 2 ^ cP C := by omega
    subst this
    exact ⟨e2, e3, e4⟩
  have hb' : b < 2 ^ cP C := by omega
  rw [ok_cv]
  refine ok_mono (choose_ok hF hS hY hw hg e3 b) (fun M3 h3 => ?_)
  obtain ⟨c3, l3, f3⟩ := h3
  have fil3 : Fil C mo b 0 M3 := fun b' p' hp hq => by
    rw [fi_I f3 (by unfold PX2 PU PW; omega)]; exact e2 b' p' hp hq
  rw [ok_bd]
  refine ok_mono (fill2_ok hF hw l3 hb' fil3 c3) (fun M4 h4 => ok_some.mpr ?_)
  obtain ⟨g4, l4, f4⟩ := h4
  exact ⟨by omega, nI_1 b, g4, l4, fi_tr e4 (fi_tr (fi_mono f3 (fun k n i q => Or.inl q)) (fi_mono f4 (fun k n i q => Or.inr q)))⟩
theorem restsC {F : Nat} (hF : 3000 < F) {A : sty} {N : Nat} (hN : N ≤ 1000) {M : mm} {x : Int32} (hA : AOK A N) (h : RC A N M) : ok (m_X11_rests F x M) (QC A N M (restsS (aC A) (aM A) x)) := by
  obtain ⟨o, d, hod, h2, h3, h4, h5, h6⟩ := id h
  have hP := hA.1.1.1
  have hp2 := p26 _ hP
  unfold m_X11_rests
  rw [ok_ite]
  refine ⟨fun hx => ?_, fun hx => ok_some.mpr (by unfold restsS; rw [if_neg hx]; exact QC_same h)⟩
  rw [ok_cv, h2]
  refine ok_mono (look_ok hN hA.1 h5 h6 h4.1) (fun M1 hM1 => ?_)
  obtain ⟨S, hS, l1, f1⟩ := hM1
  rw [ok_cv]
  refine ok_mono (fillGains_ok hF (by omega) (Y := 100 * N) (by omega) hA.1 hA.2.1.1 l1) (fun M2 hM2 => ?_)
  obtain ⟨g2, l2, f2⟩ := hM2
  have fk : FK (PQ o) M M2 := FK_tr (FK_mono f1 (fun k n i q => Or.inl q)) (FK_mono (FK_fi f2) (fun k n i q => by
    rcases q with (q | q | q) | q
    · exact Or.inr (Or.inl q)
    · exact Or.inl (Or.inl q.1)
    · exact Or.inr (Or.inl (Or.inl (by unfold PW; omega)))
    · exact Or.inr (Or.inr (Or.inl (by omega)))))
  have hrc : RC A (N + 1) M2 ∧ FrC M M2 := RC_lk hA hod h2 h3 h4 hS l2 fk
  have e6 : M2.2.2 12 0 6 = o := by rw [fk.1 12 0 6 (by omega)]; exact h2
  rw [ok_bd]
  refine ok_mono (Q := Sum.elim (fun z => z.2 = M2 ∧ restsS (aC A) (aM A) x = z.1) (fun z => z.2 = M2 ∧ z.1 = nI (rsC (aC A) (aM A) (2 ^ cP (aC A))) ∧ rsO (aC A) (aM A) x (2 ^ cP (aC A)) = none)) ?_ (fun r hr => ?_)
  · refine ok_for (2 ^ cP (aC A)) (fun i z => z.2.1 = nI i ∧ z.1 = nI (rsC (aC A) (aM A) i) ∧ z.2.2 = M2 ∧ rsO (aC A) (aM A) x i = none) 0 (by omega) (by omega) ⟨rfl, rfl, rfl, rfl⟩ ?_
    rintro i ⟨x3, x4, M3⟩ hi ⟨t1, t2, t3, t4⟩
    dsimp only at t1 t2 t3
    subst t1 t2 t3
    simp only [b_X11_rests_1, b_X11_rests_1c]
    rw [e6, l2.2.2.2.1.1.1.1, sh_pow _ (by omega), ok_ite, nI_leI (by omega) (by omega)]
    refine ⟨fun q => ok_some.mpr ?_, fun q => ?_⟩
    · have : i = 2 ^ cP (aC A) := by omega
      subst this
      exact ⟨rfl, rfl, t4⟩
    have hi' : i < 2 ^ cP (aC A) := by omega
    rw [ok_cb]
    refine ok_mono (isRest_ok (by omega) hA.1 l2 hi' g2) (fun r hr => ?_)
    subst hr
    dsimp only
    refine ok_jm (P := fun z => z = nI (rsC (aC A) (aM A) (i + 1)) ∧ rsO (aC A) (aM A) x (i + 1) = none) (fun z hz => ok_some.mpr ⟨by omega, nI_1 i, hz.1, rfl, hz.2⟩) (fun j hj => ?_)
    rw [ok_ite]
    refine ⟨fun q2 => ?_, fun q2 => hj _ ⟨by rw [rsC, if_neg q2], rsO_f t4 q2⟩⟩
    rw [ok_ite]
    refine ⟨fun q3 => ok_some.mpr ⟨rfl, restsS_some hx (rsO_t t4 q2 q3) (by omega)⟩, fun q3 => hj _ ⟨by rw [rsC, if_pos q2, nI_1], rsO_n t4 q2 q3⟩⟩
  · cases r with
    | inl z =>
      obtain ⟨t1, t2⟩ := hr
      obtain ⟨x9, M10⟩ := z
      dsimp only at t1 t2
      subst t1
      exact ok_some.mpr ⟨t2.symm, hrc⟩
    | inr z =>
      obtain ⟨t1, t2, t3⟩ := hr
      obtain ⟨x9, M10⟩ := z
      dsimp only at t1 t2
      subst t1 t2
      show ok (if x = -1 then _ else _) _
      rw [restsS_none hx t3, ok_ite]
      exact ⟨fun q => ok_some.mpr ⟨by rw [if_pos q], hrc⟩, fun q => ok_some.mpr ⟨by rw [if_neg q], hrc⟩⟩
