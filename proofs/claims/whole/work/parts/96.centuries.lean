/-! centuries -/
def fOf (S : Int32) : Nat → Option Nat
  | 0 => none
  | n + 1 => match fOf S n with
    | some i => some i
    | none => if bt S n = true then some n else none
def fOI (S : Int32) : Int32 := match fOf S 10 with
  | some i => nI i
  | none => -1
theorem fOf_none {S : Int32} : ∀ n, fOf S n = none ↔ ∀ i, i < n → bt S i = false
  | 0 => ⟨fun _ i hi => by omega, fun _ => rfl⟩
  | n + 1 => by
    have ih := fOf_none (S := S) n
    unfold fOf
    cases e : fOf S n with
    | some i =>
      refine ⟨fun q => (by cases q), fun q => ?_⟩
      have := ih.mpr (fun i hi => q i (by omega))
      rw [e] at this; cases this
    | none =>
      have h := ih.mp e
      dsimp only
      cases e2 : bt S n
      · exact ⟨fun _ i hi => by
          by_cases e3 : i = n
          · rw [e3]; exact e2
          · exact h i (by omega), fun _ => rfl⟩
      · exact ⟨fun q => (by cases q), fun q => by have := q n (by omega); rw [e2] at this; cases this⟩
theorem fOf_some {S : Int32} {i : Nat} : ∀ n, fOf S n = some i → i < n ∧ bt S i = true
  | 0, h => by cases h
  | n + 1, h => by
    unfold fOf at h
    cases e : fOf S n with
    | some j =>
      rw [e] at h
      have h := Option.some.inj h
      obtain ⟨a, b⟩ := fOf_some n e
      rw [← h]; exact ⟨by omega, b⟩
    | none =>
      rw [e] at h
      dsimp only at h
      split at h
      · rename_i q
        have h := Option.some.inj h
        rw [← h]; exact ⟨by omega, q⟩
      · cases h
theorem fOf_t {S : Int32} {n : Nat} (h : fOf S n = none) (hb : bt S n = true) : ∀ k, fOf S (n + 1 + k) = some n
  | 0 => by
    show fOf S (n + 1) = _
    unfold fOf; rw [h]; dsimp only; rw [if_pos hb]
  | k + 1 => by
    show fOf S (n + 1 + k + 1) = _
    unfold fOf; rw [fOf_t h hb k]
theorem fOf_f {S : Int32} {n : Nat} (h : fOf S n = none) (hb : ¬ bt S n = true) : fOf S (n + 1) = none := by
  unfold fOf; rw [h]; dsimp only; rw [if_neg hb]
theorem firstC_ok {F : Nat} (hF : 1000 < F) {S : Int32} {M : mm} : ok (m_X7_firstOf F S M) (fun r => r = (fOI S, M)) := by
  unfold m_X7_firstOf
  rw [ok_bd]
  refine ok_mono (Q := fun r => (r = .inr () ∧ fOf S 10 = none) ∨ ∃ i, r = .inl (nI i) ∧ fOf S 10 = some i) ?_ (fun r hr => ?_)
  · refine ok_for 10 (fun i z => z = nI i ∧ fOf S i = none) 0 (by omega) (by omega) ⟨rfl, rfl⟩ ?_
    rintro i z hi ⟨e1, e2⟩
    subst e1
    simp only [b_X7_firstOf_1, b_X7_firstOf_1c]
    have e6 : (10 : Int32) ≤ nI i ↔ 10 ≤ i := (nI_leI (by omega) (by omega) : nI 10 ≤ nI i ↔ 10 ≤ i)
    rw [ok_ite, e6]
    refine ⟨fun q => ok_some.mpr (Or.inl ⟨rfl, by have : i = 10 := by omega
                                                  subst this; exact e2⟩), fun q => ?_⟩
    rw [ok_ite, b_bit0 _ (show i < 32 by omega)]
    refine ⟨fun q2 => ok_some.mpr ⟨by omega, nI_1 i, fOf_f e2 (by rw [q2]; decide)⟩, fun q2 => ok_some.mpr (Or.inr ⟨i, rfl, ?_⟩)⟩
    have := fOf_t e2 (by simpa using q2) (9 - i)
    rw [show i + 1 + (9 - i) = 10 by omega] at this; exact this
  · rcases hr with ⟨rfl, e⟩ | ⟨i, rfl, e⟩
    · exact ok_some.mpr (by unfold fOI; rw [e])
    · exact ok_some.mpr (by unfold fOI; rw [e])
theorem firstM_ok {F : Nat} (hF : 1000 < F) {S : Int32} {M : mm} : ok (m_X12_firstOf F S M) (fun r => r = (fOI S, M)) := by
  unfold m_X12_firstOf
  rw [ok_bd]
  refine ok_mono (Q := fun r => (r = .inr () ∧ fOf S 10 = none) ∨ ∃ i, r = .inl (nI i) ∧ fOf S 10 = some i) ?_ (fun r hr => ?_)
  · refine ok_for 10 (fun i z => z = nI i ∧ fOf S i = none) 0 (by omega) (by omega) ⟨rfl, rfl⟩ ?_
    rintro i z hi ⟨e1, e2⟩
    subst e1
    simp only [b_X12_firstOf_1, b_X12_firstOf_1c]
    have e6 : (10 : Int32) ≤ nI i ↔ 10 ≤ i := (nI_leI (by omega) (by omega) : nI 10 ≤ nI i ↔ 10 ≤ i)
    rw [ok_ite, e6]
    refine ⟨fun q => ok_some.mpr (Or.inl ⟨rfl, by have : i = 10 := by omega
                                                  subst this; exact e2⟩), fun q => ?_⟩
    rw [ok_ite, b_bit1 _ (show i < 32 by omega)]
    refine ⟨fun q2 => ok_some.mpr (Or.inr ⟨i, rfl, ?_⟩), fun q2 => ok_some.mpr ⟨by omega, nI_1 i, fOf_f e2 q2⟩⟩
    have := fOf_t e2 q2 (9 - i)
    rw [show i + 1 + (9 - i) = 10 by omega] at this; exact this
  · rcases hr with ⟨rfl, e⟩ | ⟨i, rfl, e⟩
    · exact ok_some.mpr (by unfold fOI; rw [e])
    · exact ok_some.mpr (by unfold fOI; rw [e])
abbrev lvt : Type := mty × Nat × Int32 × Int32
noncomputable def lvE (C : cty) (s : lvt) (p : Nat) : Option mty := if nI (drQ s.2.1) < cF C 0 p then (if drQ s.2.1 = 0 then pardonS C s.1 (fOI (cF C 2 p &&& s.1.2.1)) else none) else crackS C s.1 (fOI (cF C 2 p &&& looseS C s.1))
noncomputable def lv1 (C : cty) (s : lvt) (p : Nat) : lvt :=
  ((lvE C s p).getD s.1, nxQ s.2.1, (if ¬ nI (drQ s.2.1) < cF C 0 p ∧ (lvE C s p).isSome = true then s.2.2.1 + 1 else s.2.2.1), s.2.2.2 + nI (popN (s.1.2.2.2 &&& (((lvE C s p).getD s.1).2.2.2 ^^^ (-1)))))
noncomputable def lvN (C : cty) (s : lvt) : Nat → lvt
  | 0 => s
  | n + 1 => lv1 C (lvN C s n) n
noncomputable def lvY (C : cty) (s : lvt) : lvt :=
  (raiseN C (passS C s.1) (cS C), s.2.1, s.2.2.1, s.2.2.2 + nI (popN (s.1.2.2.2 &&& ((passS C s.1).2.2.2 ^^^ (-1)))))
noncomputable def lvT (C : cty) (s : lvt) : Nat → lvt
  | 0 => s
  | n + 1 => lvY C (lvN C (lvT C s n) (cP C))
def LvG (C : cty) (Y : Nat) (s : lvt) : Prop := (MG C s.1 Y ∧ MS C s.1) ∧ s.2.1 < 2147483648
theorem lv1_g {C : cty} {Y p : Nat} {s : lvt} (hw : WF C) (h : LvG C Y s) : LvG C Y (lv1 C s p) := by
  refine ⟨?_, nxQ_b _⟩
  show MG C ((lvE C s p).getD s.1) Y ∧ MS C ((lvE C s p).getD s.1)
  cases e : lvE C s p with
  | none => exact h.1
  | some m =>
    show MG C m Y ∧ MS C m
    unfold lvE at e
    split at e
    · split at e
      · exact pardonS_g hw h.1.1 e
      · cases e
    · exact crackS_g hw h.1.1 e
theorem lvN_g {C : cty} {Y : Nat} {s : lvt} (hw : WF C) (h : LvG C Y s) : ∀ n, LvG C Y (lvN C s n)
  | 0 => h
  | n + 1 => lv1_g hw (lvN_g hw h n)
theorem lvY_g {C : cty} {Y : Nat} {s : lvt} (hw : WF C) (h : LvG C Y s) : LvG C (Y + 1) (lvY C s) := by
  obtain ⟨a, b⟩ := passS_g h.1.1
  exact ⟨raiseN_g hw a b _, h.2⟩
theorem lvT_g {C : cty} {Y : Nat} {s : lvt} (hw : WF C) (h : LvG C Y s) : ∀ n, LvG C (Y + n) (lvT C s n)
  | 0 => h
  | n + 1 => lvY_g hw (lvN_g hw (lvT_g hw h n) _)
noncomputable def cenS (A : sty) (a b c : Int32) : Int32 := if (0 ≤ a ∧ a ≤ 9999) ∧ (1 ≤ b ∧ b ≤ 100) ∧ (0 ≤ c ∧ c ≤ 2) then (if c = 0 then (lvT (aC A) (aM A, a.toNatClampNeg, 0, 0) b.toNatClampNeg).2.2.1 else if c = 1 then (lvT (aC A) (aM A, a.toNatClampNeg, 0, 0) b.toNatClampNeg).2.2.2 else (lvT (aC A) (aM A, a.toNatClampNeg, 0, 0) b.toNatClampNeg).1.2.2.2) else -1
/-! the class's -/
def PLv (o : Nat) : Nat → Nat → Nat → Prop := fun k n i => PE o 2 k n ∨ (k = 8 ∧ 8 ≤ i ∧ i ≤ 11)
def LvC (C : cty) (o : Nat) (M0 M : mm) (s : lvt) : Prop := CS C o M ∧ MoM 2 M s.1 ∧ (M.1 8 0 11 = nI s.2.1 ∧ M.1 8 0 9 = s.2.2.1 ∧ M.1 8 0 10 = s.2.2.2) ∧ fi (PLv o) M0 M
theorem his_eq {C : cty} {mo : mty} {p : Nat} (hw : WF C) (hp : p < cP C) : (cF C 2 p &&& (cSu C ^^^ (-1))) &&& (mo.2.1 ^^^ (-1)) = cF C 2 p &&& looseS C mo := b_ext (fun i hi => by
  rw [b_and, b_and, b_not _ hi, b_not _ hi, b_and, loose_b hw hi]
  cases e : bt (cF C 2 p) i
  · rfl
  · have := ((hw.2.1 p hp).2.2 i hi).mp e
    simp [this.1])
theorem popUp {C : cty} {mo : mty} {u : Int32} (hw : WF C) (hup : ∀ s, s < 32 → bt mo.2.2.2 s = true → s < cS C) : ∀ i, i < 32 → bt (mo.2.2.2 &&& (u ^^^ (-1))) i = true → i < 11 := fun i hi q => by
  have hS := hw.1.2.2.1
  rw [b_and, Bool.and_eq_true] at q
  have := hup i hi q.1
  omega
theorem liveOne_ok {F : Nat} (hF : 2000 < F) {C : cty} {o Y p : Nat} {M0 M : mm} {s : lvt} (hY : Y < 2 ^ 31) (hw : WF C) (hp : p < cP C) (hg : LvG C Y s) (h : LvC C o M0 M s) :
    ok (m_X7_liveOne F o (nI p) M) (fun M' => LvC C o M0 M' (lv1 C s p)) := by
  have hP := hw.1.1
  obtain ⟨c0, m0, ⟨v11, v9, v10⟩, f0⟩ := h
  have hin : vp_in (nI p) 6 := vp_in_nI (by omega) (by decide)
  unfold m_X7_liveOne
  rw [ok_nm, m0.2.2.2, ok_cl]
  refine ok_mono (draw_ok v11) (fun r hr => ?_)
  subst hr
  dsimp only
  have f2 : fi (fun k _ i => k = 8 ∧ i = 11) M (sI M 8 0 11 (nI (nxQ s.2.1))) := fi_sI fi_rf ⟨rfl, rfl⟩
  have w11 : (sI M 8 0 11 (nI (nxQ s.2.1))).1 8 0 11 = nI (nxQ s.2.1) := by rw [rII, if_pos ⟨rfl, rfl, rfl⟩]
  generalize sI M 8 0 11 (nI (nxQ s.2.1)) = M2 at f2 w11 ⊢
  have c2 : CS C o M2 := CS_fi c0 f2 (fun k n i q => by omega)
  have m2 : MoM 2 M2 s.1 := MoM_c m0 (fun j _ => fi_I f2 (by omega))
  have w9 : M2.1 8 0 9 = s.2.2.1 := (fi_I f2 (by omega)).trans v9
  have w10 : M2.1 8 0 10 = s.2.2.2 := (fi_I f2 (by omega)).trans v10
  have f02 : fi (PLv o) M0 M2 := fi_tr f0 (fi_mono f2 (fun k n i q => Or.inr (by omega)))
  have hd := drQ_b s.2.1
  have z0 : nI (drQ s.2.1) = 0 ↔ drQ s.2.1 = 0 := nI_eq (b := 0) (by omega) (by decide)
  rw [ok_gi, ok_bd, nI_clamp (by omega), (c2.1.1.2.1 p hp).1]
  refine ⟨hin, ?_⟩
  refine ok_mono (Q := fun M15 => CS C o M15 ∧ MoM 2 M15 ((lvE C s p).getD s.1) ∧ (M15.1 8 0 11 = nI (nxQ s.2.1) ∧ M15.1 8 0 9 = (lv1 C s p).2.2.1 ∧ M15.1 8 0 10 = s.2.2.2) ∧ fi (PLv o) M0 M15) ?_ (fun M15 h15 => ?_)
  · have dp : ∀ (e : Option mty) (r : Bool × mm), DP C o 2 M2 s.1 e r → CS C o r.2 ∧ MoM 2 r.2 (e.getD s.1) ∧ (r.2.1 8 0 11 = nI (nxQ s.2.1) ∧ r.2.1 8 0 9 = s.2.2.1 ∧ r.2.1 8 0 10 = s.2.2.2) ∧ fi (PLv o) M0 r.2 := fun e r hr => by
      obtain ⟨r1, r2, r3, r4⟩ := hr
      exact ⟨r2, r3, ⟨(fr_I r4 (by unfold PE PW; omega) 11).trans w11, (fr_I r4 (by unfold PE PW; omega) 9).trans w9, (fr_I r4 (by unfold PE PW; omega) 10).trans w10⟩, fi_tr f02 (fi_fr r4 (fun k n i q => Or.inl q))⟩
    rw [ok_ite]
    refine ⟨fun q => ?_, fun q => ?_⟩
    · have e9 : (lv1 C s p).2.2.1 = s.2.2.1 := by
        show (if ¬ nI (drQ s.2.1) < cF C 0 p ∧ (lvE C s p).isSome = true then s.2.2.1 + 1 else s.2.2.1) = _
        rw [if_neg (fun q2 => q2.1 q)]
      rw [e9, ok_ite, z0]
      refine ⟨fun q2 => ?_, fun q2 => ok_some.mpr ?_⟩
      · have ee : lvE C s p = pardonS C s.1 (fOI (cF C 2 p &&& s.1.2.1)) := by unfold lvE; rw [if_pos q, if_pos q2]
        rw [ee, ok_gi, ok_cl, (c2.1.1.2.1 p hp).2.2, m2.2.1]
        refine ⟨hin, ok_mono (firstC_ok (by omega)) (fun r hr => ?_)⟩
        subst hr
        dsimp only
        rw [ok_cb]
        exact ok_mono (pardon_ok (Y := Y) hF hY hw c2 m2 hg.1.1) (fun r hr => ok_some.mpr (dp _ r hr))
      · have ee : lvE C s p = none := by unfold lvE; rw [if_pos q, if_neg q2]
        rw [ee]
        exact ⟨c2, m2, ⟨w11, w9, w10⟩, f02⟩
    · have ee : lvE C s p = crackS C s.1 (fOI (cF C 2 p &&& looseS C s.1)) := by unfold lvE; rw [if_neg q]
      rw [ok_gi, ok_nm, ok_cl, (c2.1.1.2.1 p hp).2.2, c2.1.1.1.2.2.2.2, m2.2.1, his_eq hw hp]
      refine ⟨hin, ok_mono (firstC_ok (by omega)) (fun r hr => ?_)⟩
      subst hr
      dsimp only
      rw [ok_cb]
      refine ok_mono (crack_ok (Y := Y) hF hY hw c2 m2 hg.1.1) (fun r hr => ?_)
      obtain ⟨d1, d2, ⟨d3, d4, d5⟩, d6⟩ := dp _ r hr
      rw [ok_bd, hr.1]
      refine ok_mono (Q := fun v => v = if (crackS C s.1 (fOI (cF C 2 p &&& looseS C s.1))).isSome = true then (1 : Int32) else 0) ?_ (fun v hv => ?_)
      · rw [ok_ite]
        exact ⟨fun q2 => ok_some.mpr (by rw [if_pos q2]), fun q2 => ok_some.mpr (by rw [if_neg q2])⟩
      · rw [ok_nm, ok_some, w9]
        have f14 : fi (fun k _ i => k = 8 ∧ i = 9) r.2 (sI r.2 8 0 9 (s.2.2.1 + v)) := fi_sI fi_rf ⟨rfl, rfl⟩
        refine ⟨CS_fi d1 f14 (fun k n i q => by omega), by rw [ee]; exact MoM_c d2 (fun j _ => fi_I f14 (by omega)), ⟨(fi_I f14 (by omega)).trans d3, ?_, (fi_I f14 (by omega)).trans d5⟩, fi_tr d6 (fi_mono f14 (fun k n i q => Or.inr (by omega)))⟩
        rw [rII, if_pos ⟨rfl, rfl, rfl⟩, hv]
        show _ = (if ¬ nI (drQ s.2.1) < cF C 0 p ∧ (lvE C s p).isSome = true then s.2.2.1 + 1 else s.2.2.1)
        rw [ee]
        by_cases q3 : (crackS C s.1 (fOI (cF C 2 p &&& looseS C s.1))).isSome = true
        · rw [if_pos q3, if_pos ⟨q, q3⟩]
        · rw [if_neg q3, if_neg (fun q4 => q3 q4.2), Int32.add_zero]
  · obtain ⟨c15, m15, ⟨u11, u9, u10⟩, f15⟩ := h15
    rw [ok_cl, m15.2.2.2]
    refine ok_mono (bitCount_ok (popUp hw hg.1.1.2.2.2)) (fun r hr => ?_)
    subst hr
    dsimp only
    rw [ok_nm, ok_some, u10]
    have f18 : fi (fun k _ i => k = 8 ∧ i = 10) M15 (sI M15 8 0 10 (s.2.2.2 + nI (popN (s.1.2.2.2 &&& (((lvE C s p).getD s.1).2.2.2 ^^^ (-1)))))) := fi_sI fi_rf ⟨rfl, rfl⟩
    exact ⟨CS_fi c15 f18 (fun k n i q => by omega), MoM_c m15 (fun j _ => fi_I f18 (by omega)), ⟨(fi_I f18 (by omega)).trans u11, (fi_I f18 (by omega)).trans u9, by rw [rII, if_pos ⟨rfl, rfl, rfl⟩]; rfl⟩, fi_tr f15 (fi_mono f18 (fun k n i q => Or.inr (by omega)))⟩
theorem live_ok {F : Nat} (hF : 2000 < F) {C : cty} {o Y q0 yr : Nat} {M : mm} {mo : mty} (hY : Y + 101 < 2 ^ 31) (hw : WF C) (h : CS C o M) (hm : MoM 7 M mo) (hg : MG C mo Y ∧ MS C mo) (hq : q0 < 2147483648) (hyr : yr ≤ 100) :
    ok (m_X7_live F o 7 (nI q0) (nI yr) M) (fun M' => LvC C o M M' (lvT C (mo, q0, 0, 0) yr) ∧ M'.1 8 0 8 = (lvT C (mo, q0, 0, 0) yr).1.2.2.2) := by
  have hP := hw.1.1
  have hS := hw.1.2.2.1
  unfold m_X7_live
  rw [ok_cv]
  refine ok_mono (copy_ok (a := 7) (b := 2) hm (by omega)) (fun M1 h1 => ?_)
  obtain ⟨m1, f1⟩ := h1
  rw [ok_nm, ok_nm, ok_nm, ok_bd]
  have f4 : fi (fun k _ i => k = 8 ∧ 8 ≤ i ∧ i ≤ 11) M1 (sI (sI (sI M1 8 0 11 (nI q0)) 8 0 9 0) 8 0 10 0) := fi_sI (fi_sI (fi_sI fi_rf ⟨rfl, by decide, by decide⟩) ⟨rfl, by decide, by decide⟩) ⟨rfl, by decide, by decide⟩
  have a11 : (sI (sI (sI M1 8 0 11 (nI q0)) 8 0 9 0) 8 0 10 0).1 8 0 11 = nI q0 := by rw [rII, if_neg (by omega), rII, if_neg (by omega), rII, if_pos ⟨rfl, rfl, rfl⟩]
  have a9 : (sI (sI (sI M1 8 0 11 (nI q0)) 8 0 9 0) 8 0 10 0).1 8 0 9 = 0 := by rw [rII, if_neg (by omega), rII, if_pos ⟨rfl, rfl, rfl⟩]
  have a10 : (sI (sI (sI M1 8 0 11 (nI q0)) 8 0 9 0) 8 0 10 0).1 8 0 10 = 0 := by rw [rII, if_pos ⟨rfl, rfl, rfl⟩]
  generalize sI (sI (sI M1 8 0 11 (nI q0)) 8 0 9 0) 8 0 10 0 = M4 at f4 a11 a9 a10 ⊢
  have l4 : LvC C o M M4 (mo, q0, 0, 0) := ⟨CS_fi (CS_5 h f1) f4 (fun k n i q => by omega), MoM_c m1 (fun j _ => fi_I f4 (by omega)), ⟨a11, a9, a10⟩, fi_tr (fi_fr f1 (fun k n i q => Or.inl (Or.inr q))) (fi_mono f4 (fun k n i q => Or.inr q))⟩
  have g0 : LvG C Y (mo, q0, 0, 0) := ⟨hg, hq⟩
  refine ok_mono (Q := fun M' => LvC C o M M' (lvT C (mo, q0, 0, 0) yr)) ?_ (fun M21 h21 => ?_)
  · refine ok_for yr (fun i z => z.1 = nI i ∧ LvC C o M z.2 (lvT C (mo, q0, 0, 0) i)) 0 (by omega) (by omega) ⟨rfl, l4⟩ ?_
    rintro i ⟨x5, M6⟩ hi ⟨e1, l6⟩
    dsimp only at e1 l6
    subst e1
    simp only [b_X7_live_1, b_X7_live_1c]
    rw [ok_ite, nI_leI (by omega) (by omega)]
    refine ⟨fun q => ok_some.mpr ?_, fun q => ?_⟩
    · have : i = yr := by omega
      subst this; exact l6
    have gi6 := lvT_g hw g0 i
    rw [ok_bd]
    refine ok_mono (Q := fun M' => LvC C o M M' (lvN C (lvT C (mo, q0, 0, 0) i) (cP C))) ?_ (fun M10 h10 => ?_)
    · refine ok_for (cP C) (fun p z => z.1 = nI p ∧ LvC C o M z.2 (lvN C (lvT C (mo, q0, 0, 0) i) p)) 0 (by omega) (by omega) ⟨rfl, l6⟩ ?_
      rintro p ⟨x7, M8⟩ hp ⟨e1, l8⟩
      dsimp only at e1 l8
      subst e1
      simp only [b_X7_live_2, b_X7_live_2c]
      rw [l8.1.1.1.1.1, ok_ite, nI_leI (by omega) (by omega)]
      refine ⟨fun q2 => ok_some.mpr ?_, fun q2 => ?_⟩
      · have : p = cP C := by omega
        subst this; exact l8
      rw [ok_cv]
      exact ok_mono (liveOne_ok (Y := Y + i) hF (by omega) hw (by omega) (lvN_g hw gi6 p) l8) (fun M9 h9 => ok_some.mpr ⟨by omega, nI_1 p, h9⟩)
    · obtain ⟨c10, m10, ⟨v11, v9, v10⟩, f10⟩ := h10
      have gN := lvN_g hw gi6 (cP C)
      rw [ok_nm, m10.2.2.2, ok_cv]
      refine ok_mono (pass_ok (Y := Y + i) hF (by omega) hw c10 m10 gN.1.1) (fun M12 h12 => ?_)
      obtain ⟨c12, m12, f12⟩ := h12
      have w11 := (fr_I f12 (by unfold PE PW; omega) 11).trans v11
      have w9 := (fr_I f12 (by unfold PE PW; omega) 9).trans v9
      have w10 := (fr_I f12 (by unfold PE PW; omega) 10).trans v10
      rw [ok_cl, m12.2.2.2]
      refine ok_mono (bitCount_ok (popUp hw gN.1.1.2.2.2)) (fun r hr => ?_)
      subst hr
      dsimp only
      rw [ok_nm, w10, ok_bd]
      have f15 : fi (fun k _ i => k = 8 ∧ i = 10) M12 (sI M12 8 0 10 ((lvN C (lvT C (mo, q0, 0, 0) i) (cP C)).2.2.2 + nI (popN ((lvN C (lvT C (mo, q0, 0, 0) i) (cP C)).1.2.2.2 &&& ((passS C (lvN C (lvT C (mo, q0, 0, 0) i) (cP C)).1).2.2.2 ^^^ (-1)))))) := fi_sI fi_rf ⟨rfl, rfl⟩
      have u10 : (sI M12 8 0 10 ((lvN C (lvT C (mo, q0, 0, 0) i) (cP C)).2.2.2 + nI (popN ((lvN C (lvT C (mo, q0, 0, 0) i) (cP C)).1.2.2.2 &&& ((passS C (lvN C (lvT C (mo, q0, 0, 0) i) (cP C)).1).2.2.2 ^^^ (-1)))))).1 8 0 10 = (lvT C (mo, q0, 0, 0) (i + 1)).2.2.2 := by rw [rII, if_pos ⟨rfl, rfl, rfl⟩]; rfl
      generalize sI M12 8 0 10 ((lvN C (lvT C (mo, q0, 0, 0) i) (cP C)).2.2.2 + nI (popN ((lvN C (lvT C (mo, q0, 0, 0) i) (cP C)).1.2.2.2 &&& ((passS C (lvN C (lvT C (mo, q0, 0, 0) i) (cP C)).1).2.2.2 ^^^ (-1))))) = M15 at f15 u10 ⊢
      obtain ⟨pg, ps⟩ := passS_g gN.1.1
      have f15' : fi (PLv o) M M15 := fi_tr f10 (fi_tr (fi_fr f12 (fun k n i q => Or.inl q)) (fi_mono f15 (fun k n i q => Or.inr (by omega))))
      refine ok_mono (Q := fun M' => LvC C o M M' (lvT C (mo, q0, 0, 0) (i + 1))) ?_ (fun M20 h20 => ok_some.mpr ⟨by omega, nI_1 i, h20⟩)
      refine ok_for (cS C) (fun t z => z.1 = nI t ∧ CS C o z.2 ∧ MoM 2 z.2 (raiseN C (passS C (lvN C (lvT C (mo, q0, 0, 0) i) (cP C)).1) t) ∧ (z.2.1 8 0 11 = nI (lvT C (mo, q0, 0, 0) (i + 1)).2.1 ∧ z.2.1 8 0 9 = (lvT C (mo, q0, 0, 0) (i + 1)).2.2.1 ∧ z.2.1 8 0 10 = (lvT C (mo, q0, 0, 0) (i + 1)).2.2.2) ∧ fi (PLv o) M z.2) 0 (by omega) (by omega) ⟨rfl, CS_fi c12 f15 (fun k n i q => by omega), MoM_c m12 (fun j _ => fi_I f15 (by omega)), ⟨(fi_I f15 (by omega)).trans w11, (fi_I f15 (by omega)).trans w9, u10⟩, f15'⟩ ?_
      rintro t ⟨x16, M17⟩ ht ⟨e1, c17, m17, ⟨v11, v9, v10⟩, f17⟩
      dsimp only at e1 c17 m17 v11 v9 v10 f17
      subst e1
      simp only [b_X7_live_3, b_X7_live_3c]
      rw [c17.1.1.1.2.2.1, ok_ite, nI_leI (by omega) (by omega)]
      refine ⟨fun q2 => ok_some.mpr ?_, fun q2 => ?_⟩
      · have : t = cS C := by omega
        subst this
        exact ⟨c17, m17, ⟨v11, v9, v10⟩, f17⟩
      rw [ok_cb]
      refine ok_mono (lift_ok (Y := Y + i + 1) hF (by omega) hw c17 m17 (raiseN_g hw pg ps t).1) (fun r hr => ok_some.mpr ?_)
      obtain ⟨r1, r2, r3, r4⟩ := hr
      exact ⟨by omega, nI_1 t, r2, r3, ⟨(fr_I r4 (by unfold PE PW; omega) 11).trans v11, (fr_I r4 (by unfold PE PW; omega) 9).trans v9, (fr_I r4 (by unfold PE PW; omega) 10).trans v10⟩, fi_tr f17 (fi_fr r4 (fun k n i q => Or.inl q))⟩
  · obtain ⟨c21, m21, ⟨v11, v9, v10⟩, f21⟩ := h21
    rw [ok_nm, ok_some, m21.2.2.2]
    have f22 : fi (fun k _ i => k = 8 ∧ i = 8) M21 (sI M21 8 0 8 (lvT C (mo, q0, 0, 0) yr).1.2.2.2) := fi_sI fi_rf ⟨rfl, rfl⟩
    exact ⟨⟨CS_fi c21 f22 (fun k n i q => by omega), MoM_c m21 (fun j _ => fi_I f22 (by omega)), ⟨(fi_I f22 (by omega)).trans v11, (fi_I f22 (by omega)).trans v9, (fi_I f22 (by omega)).trans v10⟩, fi_tr f21 (fi_mono f22 (fun k n i q => Or.inr (by omega)))⟩, by rw [rII, if_pos ⟨rfl, rfl, rfl⟩]⟩
theorem centuriesC {F : Nat} (hF : 2000 < F) {A : sty} {N : Nat} (hN : N ≤ 1000) {M : mm} {a b c : Int32} (hA : AOK A N) (h : RC A N M) : ok (m_X11_centuries F a b c M) (QC A N M (cenS A a b c)) := by
  obtain ⟨o, d, hod, h2, h3, h4, h5, h6⟩ := id h
  have z0 : (0 : Int32).toInt = 0 := rfl
  have z1 : (1 : Int32).toInt = 1 := rfl
  have z2 : (2 : Int32).toInt = 2 := rfl
  have z9 : (9999 : Int32).toInt = 9999 := rfl
  have z100 : (100 : Int32).toInt = 100 := rfl
  have no : ¬ ((0 ≤ a ∧ a ≤ 9999) ∧ (1 ≤ b ∧ b ≤ 100) ∧ (0 ≤ c ∧ c ≤ 2)) → QC A N M (cenS A a b c) (-1, M) := fun q => by
    unfold cenS; rw [if_neg q]; exact QC_same h
  unfold m_X11_centuries
  simp only [ok_ite]
  refine ⟨fun q => ok_some.mpr (no (fun q2 => by simp only [i_lt, i_le] at q q2; omega)), fun q1 => ⟨fun q => ok_some.mpr (no (fun q2 => by simp only [i_lt, i_le] at q q2; omega)), fun q2 => ⟨fun q => ok_some.mpr (no (fun q2 => by simp only [i_lt, i_le] at q q2; omega)), fun q3 => ⟨fun q => ok_some.mpr (no (fun q2 => by simp only [i_lt, i_le] at q q2; omega)), fun q4 => ⟨fun q => ok_some.mpr (no (fun q2 => by simp only [i_lt, i_le] at q q2; omega)), fun q5 => ⟨fun q6 => ?_, fun q => ok_some.mpr (no (fun q2 => q q2.2.2.2))⟩⟩⟩⟩⟩⟩
  have yes : (0 ≤ a ∧ a ≤ 9999) ∧ (1 ≤ b ∧ b ≤ 100) ∧ (0 ≤ c ∧ c ≤ 2) := by simp only [i_lt, i_le] at q1 q2 q3 q4 q5 q6 ⊢; omega
  obtain ⟨qa, hqa, rfl⟩ : ∃ k : Nat, k ≤ 9999 ∧ a = nI k := by
    have := yes.1
    simp only [i_le, z0, z9] at this
    exact ⟨a.toNatClampNeg, by have := i_clamp (a := a) (by omega); omega, i_nI (by omega)⟩
  obtain ⟨yr, hyr, rfl⟩ : ∃ k : Nat, k ≤ 100 ∧ b = nI k := by
    have := yes.2.1
    simp only [i_le, z1, z100] at this
    exact ⟨b.toNatClampNeg, by have := i_clamp (a := b) (by omega); omega, i_nI (by omega)⟩
  rw [ok_cv, h2]
  refine ok_mono (live_ok (Y := 100 * N) hF (by omega) hA.1 h5 h4.1 hA.2.1 (by omega) hyr) (fun M1 h1 => ?_)
  obtain ⟨⟨c1, m1, ⟨v11, v9, v10⟩, f1⟩, v8⟩ := h1
  have fin : RC A (N + 1) M1 ∧ FrC M M1 := ⟨RC_up ⟨o, d, hod, by rw [f1.1]; exact h2, by rw [f1.1]; exact h3, RCs_fi h4 (fi_mono f1 (fun k n i q => by unfold PLv PE PW at q; unfold GC; omega)), c1, WhI_fi h6 f1 (fun k n i q => by unfold PLv PE PW at q; omega)⟩, FrC_fi f1 (fun k n i q => by unfold PLv PE PW at q; omega)⟩
  have e1 : (nI qa).toNatClampNeg = qa := nI_clamp (by omega)
  have e2 : (nI yr).toNatClampNeg = yr := nI_clamp (by omega)
  unfold cenS
  rw [if_pos yes, e1, e2, ok_ite]
  refine ⟨fun q => ok_some.mpr ⟨by rw [if_pos q]; exact v9, fin⟩, fun q => ?_⟩
  rw [if_neg q, ok_ite]
  exact ⟨fun q => ok_some.mpr ⟨by rw [if_pos q]; exact v10, fin⟩, fun q => ok_some.mpr ⟨by rw [if_neg q]; exact v8, fin⟩⟩
