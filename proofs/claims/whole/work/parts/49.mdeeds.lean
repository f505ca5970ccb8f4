/-! the reference's deeds -/
def MoR (M : mm) (mo : mty) : Prop := M.1 100 0 0 = mo.1 ∧ M.1 100 0 1 = mo.2.1 ∧ M.1 100 0 2 = mo.2.2.1 ∧ M.1 100 0 3 = mo.2.2.2
def RMob (nb : Nat) (C : cty) (mo : mty) (M : mm) : Prop := MVb nb C M ∧ B0 M ∧ MoR M mo
abbrev RMo (C : cty) (mo : mty) (M : mm) : Prop := RMob (cS C) C mo M
def PF : Nat → Nat → Prop := fun k _ => (84 ≤ k ∧ k ≤ 93) ∨ k = 100 ∨ k = 105 ∨ k = 106
theorem MoR_fr {M M' : mm} {mo : mty} {P : Nat → Nat → Prop} (h : MoR M mo) (f : fr P M M') (hP : ¬ P 100 0) : MoR M' mo := by
  unfold MoR at h ⊢
  rw [(f.2 100 0 hP).1]; exact h
theorem RMo_fr {nb : Nat} {C : cty} {mo : mty} {M M' : mm} {P : Nat → Nat → Prop} (h : RMob nb C mo M) (f : fr P M M') (hP : ∀ k, P k 0 → k < 64 ∨ (82 ≤ k ∧ k ≠ 100 ∧ k ≠ 105)) : RMob nb C mo M' := by
  refine ⟨MV_fr h.1 f (fun k h1 h2 q => by have := hP k q; omega), ?_, MoR_fr h.2.2 f (fun q => by have := hP _ q; omega)⟩
  have := h.2.1
  unfold B0 at this ⊢
  rw [fr_I f (fun q => by have := hP _ q; omega)]; exact this
theorem RMo_D {nb : Nat} {C : cty} {mo : mty} {M M' : mm} (h : RMob nb C mo M) (f : fr PD M M') (hb : B0 M') : RMob nb C mo M' :=
  ⟨MV_fr h.1 f (fun k h1 h2 q => by unfold PD at q; omega), hb, MoR_fr h.2.2 f (by unfold PD; omega)⟩
theorem RMo_100 {C : cty} {mo : mty} {M M' : mm} {mo' : mty} (h : RMo C mo M) (f : fr (fun k _ => k = 100) M M') (hm : MoR M' mo') : RMo C mo' M' := by
  refine ⟨MV_fr h.1 f (fun k h1 h2 q => by omega), ?_, hm⟩
  have := h.2.1
  unfold B0 at this ⊢
  rw [fr_I f (by omega)]; exact this
theorem falls_ok {F : Nat} (hF : 3000 < F) {C : cty} {M : mm} {mo : mty} (hw : WF C) (h : RMo C mo M) (hup : ∀ s, s < 32 → bt mo.2.2.2 s = true → s < cS C) :
    ok (m_X12_falls F M) (fun r => r.1 = mo.2.2.2 &&& ((fallM C mo).2.2.2 ^^^ (-1)) ∧ RMo C (fallM C mo) r.2 ∧ fr PF M r.2) := by
  obtain ⟨m0, m1, m2, m3⟩ := h.2.2
  unfold m_X12_falls
  simp only [ok_gi, ok_nm, ok_cl, tc1, tc3, m1, m3]
  refine ⟨vp_of (by decide), vp_of (by decide), ok_mono (fallen_ok hF hw h.1 m0 m2 h.2.1 hup) (fun r hr => ?_)⟩
  obtain ⟨x3, M2⟩ := r
  obtain ⟨r1, r2, r3⟩ := hr
  dsimp only at r1 r2 r3 ⊢
  subst r1
  have h2 := RMo_D h r2 r3
  have f3 : fr (fun k _ => k = 100) M2 (sI M2 100 0 3 (fallS C mo mo.2.2.2)) := fr_sI fr_rf rfl
  obtain ⟨a0, a1, a2, a3⟩ := h2.2.2
  refine ⟨vp_of (by decide), vp_of (by decide), ok_some.mpr ⟨?_, RMo_100 h2 f3 ?_, ?_⟩⟩
  · simp [rII, fallM, mUp]
  · unfold MoR fallM mUp; simp [rII, a0, a1, a2]
  · exact fr_tr (fr_mono r2 (fun k n q => by unfold PD at q; unfold PF; omega)) (fr_mono f3 (fun k n q => by unfold PF; omega))
theorem passes_ok {F : Nat} (hF : 3000 < F) {C : cty} {M : mm} {mo : mty} (hw : WF C) (h : RMo C mo M) (hup : ∀ s, s < 32 → bt mo.2.2.2 s = true → s < cS C) :
    ok (m_X12_passes F M) (fun r => r.1 = mo.2.2.2 &&& ((passS C mo).2.2.2 ^^^ (-1)) ∧ RMo C (passS C mo) r.2 ∧ fr PF M r.2) := by
  obtain ⟨m0, m1, m2, m3⟩ := h.2.2
  unfold m_X12_passes
  simp only [ok_gi, ok_nm, ok_cl, tc0, m0]
  have f3 : fr (fun k _ => k = 100) M (sI M 100 0 0 (mo.1 + 1)) := fr_sI fr_rf rfl
  have h1 : RMo C (mo.1 + 1, mo.2.1, mo.2.2.1, mo.2.2.2) (sI M 100 0 0 (mo.1 + 1)) := RMo_100 h f3 (by unfold MoR; simp [rII, m1, m2, m3])
  refine ⟨vp_of (by decide), vp_of (by decide), ok_mono (falls_ok hF hw h1 hup) (fun r hr => ok_some.mpr ⟨hr.1, hr.2.1, fr_tr (fr_mono f3 (fun k n q => by unfold PF; omega)) hr.2.2⟩)⟩
theorem fresh_ok {F : Nat} (hF : 3000 < F) {C : cty} {M : mm} {mo : mty} (hw : WF C) (h : RMo C mo M) :
    ok (m_X12_fresh F M) (fun M' => RMo C (beginS C) M' ∧ fr PF M M') := by
  have hS := hw.1.2.2.1
  have hsh : ∀ n, n ≤ 10 → ((1 : Int32) <<< (nI n &&& 31)) - 1 = nI (2 ^ n - 1) := by decide +kernel
  unfold m_X12_fresh
  simp only [ok_gi, ok_nm, ok_cl, tc0, tc1, tc2, tc3]
  have e64 : (sI (sI (sI M 100 0 0 0) 100 0 1 0) 100 0 2 0).1 64 0 2 = nI (cS C) := by simp only [rII]; simp; exact h.1.1.2.2.1
  rw [e64, hsh _ hS]
  have f3 : fr (fun k _ => k = 100) M (sI (sI (sI (sI M 100 0 0 0) 100 0 1 0) 100 0 2 0) 100 0 3 (nI (2 ^ cS C - 1))) := fr_sI (fr_sI (fr_sI (fr_sI fr_rf rfl) rfl) rfl) rfl
  have h1 : RMo C (0, 0, 0, nI (2 ^ cS C - 1)) (sI (sI (sI (sI M 100 0 0 0) 100 0 1 0) 100 0 2 0) 100 0 3 (nI (2 ^ cS C - 1))) := RMo_100 h f3 (by unfold MoR; simp [rII])
  refine ⟨vp_of (by decide), vp_of (by decide), vp_of (by decide), vp_of (by decide), vp_of (by decide), ok_mono (falls_ok hF hw h1 (fun s hs hb => ?_)) (fun r hr => ok_some.mpr ⟨hr.2.1, fr_tr (fr_mono f3 (fun k n q => by unfold PF; omega)) hr.2.2⟩)⟩
  dsimp only at hb
  rw [ones_b _ hS s hs, decide_eq_true_iff] at hb
  exact hb
theorem canBreak_ok {nb : Nat} {wb : Nat} {F : Nat} {C : cty} {M : mm} {mo : mty} (hw : WFb wb C) (h : RMob nb C mo M) {n : Nat} (hn : n < cO C) :
    ok (m_X12_canBreak F (nI n) M) (fun r => r = (!bt (cSu C) n && !bt mo.2.1 n, M)) := by
  have hO := hw.1.2.1
  obtain ⟨m0, m1, m2, m3⟩ := h.2.2
  have hk := (h.1.2.2.1 n hn).1
  have hs := hw.2.2.2.1 n (by omega)
  unfold m_X12_canBreak
  simp only [ok_gi, nI_clamp (show n < 2 ^ 31 by omega), hk, ok_ite, tc1, m1, b_bit0 _ (show n < 32 by omega), ok_some]
  refine ⟨vp_in_nI (by omega) (by decide), fun q => ?_, fun q => ⟨vp_of (by decide), fun q2 => ?_, fun q2 => ?_⟩⟩
  · rw [hs.mpr ⟨hn, q⟩]; rfl
  · have : bt (cSu C) n = false := by
      cases e : bt (cSu C) n
      · rfl
      · exact absurd (hs.mp e).2 q
    rw [this, q2]; rfl
  · cases e : bt mo.2.1 n
    · exact absurd e q2
    · simp
theorem canRaise_ok {F : Nat} (hF : 3000 < F) {C : cty} {M : mm} {mo : mty} (hw : WF C) (h : RMo C mo M) (hup : ∀ s, s < 32 → bt mo.2.2.2 s = true → s < cS C) {n : Nat} (hn : n < cS C) :
    ok (m_X12_canRaise F (nI n) M) (fun r => (r.1 = true ↔ (liftS C mo (nI n)).isSome = true) ∧ RMo C mo r.2 ∧ fr PD M r.2) := by
  have hS := hw.1.2.2.1
  obtain ⟨m0, m1, m2, m3⟩ := h.2.2
  have hcl : (nI n).toNatClampNeg = n := nI_clamp (by omega)
  have hin : (0 : Int32) ≤ nI n ∧ nI n < nI (cS C) := ⟨nI_pos' (by omega), nI_lt (by omega) (by omega)⟩
  unfold m_X12_canRaise
  simp only [ok_gi, tc1, tc3, m1, m3]
  refine ⟨vp_of (by decide), ?_⟩
  rw [ok_ite, b_bit1 _ (show n < 32 by omega)]
  refine ⟨fun q => ok_some.mpr ⟨⟨fun q2 => (by cases q2), fun q2 => ?_⟩, h, fr_rf⟩, fun q => ?_⟩
  · unfold liftS at q2
    rw [hcl, if_neg (fun q3 => by rw [q] at q3; exact absurd q3.2.2.1 (by decide))] at q2
    cases q2
  · have hb0 : bt mo.2.2.2 n = false := by
      cases e : bt mo.2.2.2 n
      · rfl
      · exact absurd e q
    rw [ok_gi]
    refine ⟨vp_of (by decide), ?_⟩
    rw [ok_cv]
    refine ok_mono (laysStr_ok hF hw h.1 m0 m2 h.2.1) (fun M1 h1 => ?_)
    obtain ⟨f1, b1, s1⟩ := h1
    have hM1 : RMo C mo M1 := ⟨MV_fr h.1 f1 (fun k h1 h2 q => by unfold PC at q; omega), b1, MoR_fr h.2.2 f1 (by unfold PC; omega)⟩
    rw [ok_gi]
    refine ⟨vp_of (by decide), ?_⟩
    rw [ok_cb, hM1.2.2.2.2.2]
    have hup2 : ∀ s, s < 32 → bt (mo.2.2.2 ||| bitI (nI n)) s = true → s < cS C := fun s hs hb => by
      rw [b_or, bitI_b (by omega) hs, Bool.or_eq_true, decide_eq_true_iff] at hb
      rcases hb with hb | hb
      · exact hup s hs hb
      · subst hb; exact hn
    have e11 : mo.2.2.2 ||| ((1 : Int32) <<< (nI n &&& 31)) = rst (mo.2.2.2 ||| bitI (nI n)) 11 := b_ext (fun i hi => by
      rw [rst_b (by omega) hi]
      show bt (mo.2.2.2 ||| bitI (nI n)) i = _
      cases e : bt (mo.2.2.2 ||| bitI (nI n)) i
      · rfl
      · have := hup2 i hi e
        simp; omega)
    rw [e11]
    refine ok_mono (standU_ok hF (mo := mo) hw hM1.1 (Nat.le_refl _) hup2 s1) (fun r hr => ok_some.mpr ⟨?_, ?_, ?_⟩)
    · rw [hr.1, ← fallS_iff (fun s hs hb => by have := hup2 s hs hb; omega)]
      unfold liftS
      rw [hcl]
      constructor
      · intro q2; rw [if_pos ⟨hin.1, hin.2, hb0, q2⟩]; rfl
      · intro q2
        split at q2
        · rename_i q3; exact q3.2.2.2
        · cases q2
    · exact RMo_fr hM1 hr.2 (fun k q => by omega)
    · exact fr_tr (fr_mono f1 (fun k n q => by unfold PC at q; unfold PD; omega)) (fr_mono hr.2 (fun k n q => by unfold PD; omega))
theorem forgives_ok {F : Nat} {C : cty} {M : mm} {mo : mty} (h : RMo C mo M) (x : Int32) :
    ok (m_X12_forgives F x M) (fun M' => RMo C (mo.1, mo.2.1 &&& (bitI x ^^^ (-1)), mo.2.2.1 ||| bitI x, mo.2.2.2) M' ∧ fr (fun k _ => k = 100) M M') := by
  obtain ⟨m0, m1, m2, m3⟩ := h.2.2
  unfold m_X12_forgives
  simp only [ok_gi, ok_nm, ok_some, tc1, tc2, m1]
  have e2 : ∀ v, (sI M 100 0 1 v).1 100 0 2 = mo.2.2.1 := fun v => by rw [rII, if_neg (by omega)]; exact m2
  simp only [e2]
  have f3 : fr (fun k _ => k = 100) M (sI (sI M 100 0 1 (mo.2.1 &&& (bitI x ^^^ (-1)))) 100 0 2 (mo.2.2.1 ||| bitI x)) := fr_sI (fr_sI fr_rf rfl) rfl
  refine ⟨vp_of (by decide), vp_of (by decide), vp_of (by decide), vp_of (by decide), RMo_100 h f3 ?_, f3⟩
  unfold MoR; simp [rII, m0, m3, bitI]
/-- all that can be are raised, as told -/
noncomputable def raiseN (C : cty) (mo : mty) : Nat → mty
  | 0 => mo
  | n + 1 => (liftS C (raiseN C mo n) (nI n)).getD (raiseN C mo n)
theorem raiseN_g {C : cty} {mo : mty} {Y : Nat} (hw : WF C) (h : MG C mo Y) (hs : MS C mo) : ∀ n, MG C (raiseN C mo n) Y ∧ MS C (raiseN C mo n) := by
  intro n
  induction n with
  | zero => exact ⟨h, hs⟩
  | succ n ih =>
    simp only [raiseN]
    cases e : liftS C (raiseN C mo n) (nI n) with
    | none => exact ih
    | some m => exact liftS_g hw ih.1 e
theorem raisesAll_ok {F : Nat} (hF : 3000 < F) {C : cty} {M : mm} {mo : mty} {Y : Nat} (hw : WF C) (h : RMo C mo M) (hg : MG C mo Y) (hs : MS C mo) :
    ok (m_X12_raisesAll F M) (fun M' => RMo C (raiseN C mo (cS C)) M' ∧ fr PF M M') := by
  have hS := hw.1.2.2.1
  unfold m_X12_raisesAll
  rw [ok_bd]
  refine ok_for (cS C) (fun i z => z.1 = nI i ∧ RMo C (raiseN C mo i) z.2 ∧ fr PF M z.2) 0 (by omega) (by omega) ⟨rfl, (show RMo C (raiseN C mo 0) M from h), fr_rf⟩ ?_
  rintro i ⟨x1, M2⟩ hi ⟨e1, h2, f2⟩
  dsimp only at e1 h2 f2
  subst e1
  have gi' := raiseN_g hw hg hs i
  simp only [b_X12_raisesAll_1, b_X12_raisesAll_1c, ok_gi, tc2, h2.1.1.2.2.1]
  refine ⟨vp_of (by decide), ?_⟩
  rw [ok_ite, nI_leI (by omega) (by omega)]
  refine ⟨fun hc => ?_, fun hc => ?_⟩
  · have : i = cS C := by omega
    subst this
    exact ok_some.mpr (ok_some.mpr ⟨h2, f2⟩)
  · rw [ok_cb]
    refine ok_mono (canRaise_ok hF hw h2 gi'.1.2.2.2 (show i < cS C by omega)) (fun r hr => ?_)
    obtain ⟨b4, M3⟩ := r
    obtain ⟨r1, r2, r3⟩ := hr
    dsimp only at r1 r2 r3 ⊢
    have f3 : fr PF M M3 := fr_tr f2 (fr_mono r3 (fun k n q => by unfold PD at q; unfold PF; omega))
    rw [ok_bd, ok_ite, r1]
    cases e : liftS C (raiseN C mo i) (nI i) with
    | none =>
      refine ⟨fun q => (by cases q), fun _ => ok_some.mpr (ok_some.mpr ⟨by omega, nI_1 i, ?_, f3⟩)⟩
      simp only [raiseN, e, Option.getD_none]; exact r2
    | some m =>
      refine ⟨fun _ => ?_, fun q => absurd rfl q⟩
      have hm : m = mUp (raiseN C mo i) ((raiseN C mo i).2.2.2 ||| bitI (nI i)) := by
        unfold liftS at e
        split at e
        · exact (Option.some.inj e).symm
        · cases e
      simp only [ok_gi, ok_nm, ok_some, tc3, r2.2.2.2.2.2]
      have f4 : fr (fun k _ => k = 100) M3 (sI M3 100 0 3 ((raiseN C mo i).2.2.2 ||| bitI (nI i))) := fr_sI fr_rf rfl
      obtain ⟨a0, a1, a2, a3⟩ := r2.2.2
      refine ⟨vp_of (by decide), vp_of (by decide), by omega, nI_1 i, ?_, fr_tr f3 (fr_mono f4 (fun k n q => by unfold PF; omega))⟩
      simp only [raiseN, e, Option.getD_some, hm]
      exact RMo_100 r2 f4 (by unfold MoR mUp; simp [rII, a0, a1, a2, bitI])
def looseS (C : cty) (mo : mty) : Int32 := nI (2 ^ cO C - 1) &&& (cSu C ^^^ (-1)) &&& (mo.2.1 ^^^ (-1))
theorem loose_b {wb : Nat} {C : cty} {mo : mty} (hw : WFb wb C) {i : Nat} (hi : i < 32) : bt (looseS C mo) i = (decide (i < cO C) && !bt (cSu C) i && !bt mo.2.1 i) := by
  unfold looseS
  rw [b_and, b_and, b_not _ hi, b_not _ hi, ones_b _ hw.1.2.1 i hi]
theorem looseM_ok {nb : Nat} {wb : Nat} {F : Nat} (hF : 3000 < F) {C : cty} {M : mm} {mo : mty} (hw : WFb wb C) (h : RMob nb C mo M) : ok (m_X12_loose F M) (fun r => r = (looseS C mo, M)) := by
  have hO := hw.1.2.1
  unfold m_X12_loose
  rw [ok_bd]
  refine ok_mono (Q := fun r => r = (looseS C mo, M)) ?_ (fun r hr => by subst hr; exact ok_some.mpr rfl)
  refine ok_for (cO C) (fun i z => z.2.1 = nI i ∧ z.2.2 = M ∧ ∀ x, x < 32 → bt z.1 x = (bt (looseS C mo) x && decide (x < i))) 0 (by omega) (by omega) ⟨rfl, rfl, fun x hx => by rw [b_0]; simp⟩ ?_
  rintro i ⟨x1, x2, M3⟩ hi ⟨e1, e2, hb⟩
  dsimp only at e1 e2 hb
  subst e1; subst e2
  simp only [b_X12_loose_1, b_X12_loose_1c, ok_gi, tc1, h.1.1.2.1]
  refine ⟨vp_of (by decide), ?_⟩
  rw [ok_ite, nI_leI (by omega) (by omega)]
  refine ⟨fun hc => ok_some.mpr ?_, fun hc => ?_⟩
  · have : i = cO C := by omega
    subst this
    have : x1 = looseS C mo := b_ext (fun x hx => by
      rw [hb x hx, loose_b hw hx]
      by_cases q : x < cO C
      · simp [q]
      · simp [q])
    rw [this]; rfl
  · rw [ok_cb]
    refine ok_mono (canBreak_ok hw h (show i < cO C by omega)) (fun r hr => ?_)
    subst hr
    dsimp only
    rw [ok_bd]
    refine ok_mono (Q := fun v => ∀ x, x < 32 → bt v x = (bt (looseS C mo) x && decide (x = i))) ?_ (fun v hv => ?_)
    · rw [ok_ite]
      refine ⟨fun q => ok_some.mpr (fun x hx => ?_), fun q => ok_some.mpr (fun x hx => ?_)⟩
      · rw [b_one (by omega) hx]
        by_cases e : x = i
        · subst e
          rw [loose_b hw hx]
          have : x < cO C := by omega
          simp only [Bool.and_eq_true, Bool.not_eq_true'] at q
          simp [this, q.1, q.2]
        · simp [e]
      · rw [b_0]
        by_cases e : x = i
        · subst e
          rw [loose_b hw hx]
          have : x < cO C := by omega
          cases e1 : bt (cSu C) x <;> cases e2 : bt mo.2.1 x <;> simp [e1, e2] at q ⊢
        · simp [e]
    · rw [ok_nm, ok_some]
      refine ⟨by omega, nI_1 i, rfl, fun x hx => ?_⟩
      dsimp only
      rw [b_or, hb x hx, hv x hx]
      by_cases e : x = i
      · subst e; simp
      · have : decide (x < i + 1) = decide (x < i) := by
          by_cases q : x < i
          · simp [q]; omega
          · simp [q]; omega
        rw [this]; simp [e]
noncomputable def upIfS (C : cty) (mo : mty) (x : Int32) : Int32 := fallS C (mo.1, mo.2.1 ||| (x &&& looseS C mo), mo.2.2.1, mo.2.2.2) mo.2.2.2
theorem upIfM_ok {nb : Nat} {wb : Nat} {F : Nat} (hF : 3000 < F) {C : cty} {M : mm} {mo : mty} (hw : WFb wb C) (h : RMob nb C mo M) (hup : ∀ s, s < 32 → bt mo.2.2.2 s = true → s < cS C) (x : Int32) (hl : wb ≤ 11 := by omega) :
    ok (m_X12_upIf F x M) (fun r => r.1 = upIfS C mo x ∧ RMob nb C mo r.2 ∧ fr PD M r.2) := by
  obtain ⟨m0, m1, m2, m3⟩ := h.2.2
  unfold m_X12_upIf
  simp only [ok_gi, ok_cl, tc1, tc3, m1, m3]
  refine ⟨vp_of (by decide), vp_of (by decide), ok_mono (looseM_ok hF hw h) (fun r hr => ?_)⟩
  subst hr
  dsimp only
  refine ok_mono (fallen_ok hF (mo := (mo.1, mo.2.1 ||| (x &&& looseS C mo), mo.2.2.1, mo.2.2.2)) hw h.1 m0 m2 h.2.1 hup) (fun r hr => ok_some.mpr ⟨hr.1, RMo_D h hr.2.1 hr.2.2, hr.2.1⟩)
