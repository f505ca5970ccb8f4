/-! the sets that may have been broken, added up -/
noncomputable def pB (p : Prop) : Bool := @decide p (Classical.propDecidable p)
theorem pB_t {p : Prop} (h : p) : pB p = true := @decide_eq_true p (Classical.propDecidable p) h
theorem pB_f {p : Prop} (h : ¬ p) : pB p = false := @decide_eq_false p (Classical.propDecidable p) h
noncomputable def brC (P : Nat → Prop) : Nat → Int32
  | 0 => 0
  | n + 1 => if pB (P n) = true then brC P n + 1 else brC P n
noncomputable def brA (P : Nat → Prop) (a : Int32) : Nat → Int32
  | 0 => a
  | n + 1 => if pB (P n) = true then brA P a n &&& nI n else brA P a n
noncomputable def brO (P : Nat → Prop) : Nat → Int32
  | 0 => 0
  | n + 1 => if pB (P n) = true then brO P n ||| nI n else brO P n
noncomputable def brS (P : Nat → Prop) (U : Nat → Int32) (s : Nat) : Nat → Int32
  | 0 => 0
  | n + 1 => if pB (P n) = true then brS P U s n + ((U n >>> (nI s &&& 31)) &&& 1) else brS P U s n
section BRs
variable {P : Nat → Prop} {U : Nat → Int32} {s n : Nat} {a : Int32}
theorem brC_t (h : P n) : brC P (n + 1) = brC P n + 1 := if_pos (pB_t h)
theorem brC_f (h : ¬ P n) : brC P (n + 1) = brC P n := if_neg (by rw [pB_f h]; decide)
theorem brA_t (h : P n) : brA P a (n + 1) = brA P a n &&& nI n := if_pos (pB_t h)
theorem brA_f (h : ¬ P n) : brA P a (n + 1) = brA P a n := if_neg (by rw [pB_f h]; decide)
theorem brO_t (h : P n) : brO P (n + 1) = brO P n ||| nI n := if_pos (pB_t h)
theorem brO_f (h : ¬ P n) : brO P (n + 1) = brO P n := if_neg (by rw [pB_f h]; decide)
theorem brS_t (h : P n) : brS P U s (n + 1) = brS P U s n + ((U n >>> (nI s &&& 31)) &&& 1) := if_pos (pB_t h)
theorem brS_f (h : ¬ P n) : brS P U s (n + 1) = brS P U s n := if_neg (by rw [pB_f h]; decide)
end BRs
/-- how many they are; none, and all that all of them have -/
theorem brC_n {P : Nat → Prop} : ∀ n, ∃ m, m ≤ n ∧ brC P n = nI m ∧ (m = 0 ↔ ∀ j, j < n → ¬ P j) := by
  intro n
  induction n with
  | zero => exact ⟨0, Nat.le_refl _, rfl, fun _ j hj => by omega, fun _ => rfl⟩
  | succ n ih =>
    obtain ⟨m, h1, h2, h3⟩ := ih
    rcases Classical.em (P n) with h | h
    · exact ⟨m + 1, by omega, by rw [brC_t h, h2, nI_1], fun q => by omega, fun q => absurd h (q n (by omega))⟩
    · refine ⟨m, by omega, by rw [brC_f h, h2], fun q j hj => ?_, fun q => h3.mpr (fun j hj => q j (by omega))⟩
      rcases Nat.lt_succ_iff_lt_or_eq.mp hj with r | r
      · exact h3.mp q j r
      · subst r; exact h
theorem brA_i {P : Nat → Prop} {a b : Int32} : ∀ n, (∀ j, j < n → P j → a &&& nI j = nI j ∧ b &&& nI j = nI j) → (∀ j, j < n → ¬ P j) ∧ brA P a n = a ∧ brA P b n = b ∨ (∃ j, j < n ∧ P j) ∧ brA P a n = brA P b n := by
  intro n
  induction n with
  | zero => intro _; exact Or.inl ⟨fun j hj => by omega, rfl, rfl⟩
  | succ n ih =>
    intro hx
    have ih := ih (fun j hj => hx j (by omega))
    rcases Classical.em (P n) with h | h
    · obtain ⟨e1, e2⟩ := hx n (by omega) h
      refine Or.inr ⟨⟨n, by omega, h⟩, ?_⟩
      rw [brA_t h, brA_t h]
      rcases ih with ⟨-, q2, q3⟩ | ⟨-, q2⟩
      · rw [q2, q3, e1, e2]
      · rw [q2]
    · rw [brA_f h, brA_f h]
      rcases ih with ⟨q1, q2, q3⟩ | ⟨⟨j, j1, j2⟩, q2⟩
      · refine Or.inl ⟨fun j hj => ?_, q2, q3⟩
        rcases Nat.lt_succ_iff_lt_or_eq.mp hj with r | r
        · exact q1 j r
        · subst r; exact h
      · exact Or.inr ⟨⟨j, by omega, j2⟩, q2⟩
def BrP (C : cty) (mo : mty) (H : hty) (few : Int32) (j : Nat) : Prop := Lo C mo j ∧ nI (cnt j) ≤ few ∧ AgS H (upIfS C mo (nI j))
noncomputable def upN (C : cty) (mo : mty) (j : Nat) : Int32 := upIfS C mo (nI j)
def BrM (C : cty) (mo : mty) (H : hty) (few : Int32) (n : Nat) (M : mm) : Prop :=
  M.1 11 0 12 = brC (BrP C mo H few) n ∧ M.1 11 0 13 = brA (BrP C mo H few) (looseS C mo) n ∧ M.1 11 0 14 = brO (BrP C mo H few) n ∧ ∀ s, s < cS C → M.1 58 0 s = brS (BrP C mo H few) (upN C mo) s n
theorem findSets_ok {F : Nat} (hF : 3000 < F) {C : cty} {o S Y : Nat} (hS : S < 2 ^ 31) (hY : Y < 2 ^ 31) {M : mm} {mo : mty} {H : hty} {few : Int32} (hw : WF C) (hg : MG C mo Y) (h : LK C o mo S M) (ht : ToH 0 M H) (hH : ∀ s b, (s, b) ∈ H → s < 32) :
    ok (m_X10_findSets F 0 few M) (fun M' => BrM C mo H few (2 ^ cO C) M' ∧ LK C o mo S M' ∧ fi (PG o) M M') := by
  have hO := hw.1.2.1
  have hS' := hw.1.2.2.1
  have hp := p2_le hO
  unfold m_X10_findSets
  rw [ok_nm, ok_nm, ok_nm]
  have f0 : fi PGw M (sI (sI (sI M 11 0 12 0) 11 0 13 ((sI M 11 0 12 0).1 11 0 8)) 11 0 14 0) := fi_sI (fi_sI (fi_sI fi_rf (Or.inl ⟨rfl, by decide, by decide⟩)) (Or.inl ⟨rfl, by decide, by decide⟩)) (Or.inl ⟨rfl, by decide, by decide⟩)
  have v : (sI (sI (sI M 11 0 12 0) 11 0 13 ((sI M 11 0 12 0).1 11 0 8)) 11 0 14 0).1 11 0 12 = 0 ∧ (sI (sI (sI M 11 0 12 0) 11 0 13 ((sI M 11 0 12 0).1 11 0 8)) 11 0 14 0).1 11 0 13 = M.1 11 0 8 ∧ (sI (sI (sI M 11 0 12 0) 11 0 13 ((sI M 11 0 12 0).1 11 0 8)) 11 0 14 0).1 11 0 14 = 0 := by simp [rII]
  rw [h.1.2.2.2.1] at v
  generalize sI (sI (sI M 11 0 12 0) 11 0 13 ((sI M 11 0 12 0).1 11 0 8)) 11 0 14 0 = M3 at f0 v ⊢
  obtain ⟨v12, v13, v14⟩ := v
  rw [ok_bd]
  refine ok_mono (Q := fun z => fi PGw M z ∧ (z.1 11 0 12 = 0 ∧ z.1 11 0 13 = looseS C mo ∧ z.1 11 0 14 = 0) ∧ ∀ s, s < 10 → z.1 58 0 s = 0) ?_ (fun M7 h7 => ?_)
  · refine ok_for 10 (fun i z => z.1 = nI i ∧ fi PGw M z.2 ∧ (z.2.1 11 0 12 = 0 ∧ z.2.1 11 0 13 = looseS C mo ∧ z.2.1 11 0 14 = 0) ∧ ∀ s, s < i → z.2.1 58 0 s = 0) 0 (by omega) (by omega) ⟨rfl, f0, ⟨v12, v13, v14⟩, fun s hs => by omega⟩ ?_
    rintro i ⟨x4, M5⟩ hi ⟨e1, hf, ⟨w12, w13, w14⟩, hz⟩
    dsimp only at e1 hf w12 w13 w14 hz
    subst e1
    simp only [b_X10_findSets_1, b_X10_findSets_1c]
    have e10 : (10 : Int32) ≤ nI i ↔ 10 ≤ i := (nI_leI (by omega) (by omega) : nI 10 ≤ nI i ↔ 10 ≤ i)
    rw [ok_ite, e10]
    refine ⟨fun hc => ok_some.mpr ⟨hf, ⟨w12, w13, w14⟩, fun s hs => hz s (by omega)⟩, fun hc => ?_⟩
    rw [ok_gi, ok_nm, ok_some, nI_clamp (by omega)]
    refine ⟨vp_in_nI (by omega) (by decide), by omega, nI_1 i, fi_sI hf (Or.inr rfl), ⟨?_, ?_, ?_⟩, fun s hs => ?_⟩
    · rw [rII, if_neg (by omega)]; exact w12
    · rw [rII, if_neg (by omega)]; exact w13
    · rw [rII, if_neg (by omega)]; exact w14
    · rw [rII]
      by_cases e : s = i
      · subst e; rw [if_pos ⟨rfl, rfl, rfl⟩]
      · rw [if_neg (fun q => e q.2.2)]; exact hz s (by omega)
  · obtain ⟨f7, ⟨w12, w13, w14⟩, hz⟩ := h7
    have l7 : LK C o mo S M7 := LK_fi h f7 (fun k n i q => by unfold PGw at q; omega)
    rw [ok_bd]
    refine ok_mono (Q := fun M' => BrM C mo H few (2 ^ cO C) M' ∧ LK C o mo S M' ∧ fi (PG o) M M') ?_ (fun r hr => ok_some.mpr hr)
    refine ok_for (2 ^ cO C) (fun j z => z.1 = nI j ∧ BrM C mo H few j z.2 ∧ LK C o mo S z.2 ∧ fi (PG o) M z.2) 0 (by omega) (by omega) ⟨rfl, ⟨w12, w13, w14, fun s hs => hz s (by omega)⟩, l7, fi_mono f7 (fun k n i q => Or.inr q)⟩ ?_
    rintro j ⟨x8, M9⟩ hj ⟨e1, hb, hl, hf⟩
    dsimp only at e1 hb hl hf
    subst e1
    obtain ⟨⟨a7, ao, am, a8, a6⟩, -, -, acs⟩ := id hl
    simp only [b_X10_findSets_2, b_X10_findSets_2c]
    rw [ao, acs.1.1.1.2.1, sh_pow _ hO, ok_ite, nI_leI (by omega) (by omega)]
    refine ⟨fun hc => ok_some.mpr ?_, fun hc => ?_⟩
    · have : j = 2 ^ cO C := by omega
      subst this; exact ⟨hb, hl, hf⟩
    have hcb : ok (m_X10_canBreak F (nI j) M9) (fun r => r.2 = M9 ∧ (r.1 = true ↔ Lo C mo j)) := by
      unfold m_X10_canBreak
      rw [a8, ok_ite, ok_some, ok_some]
      exact ⟨fun q => ⟨rfl, fun _ => q, fun _ => rfl⟩, fun q => ⟨rfl, fun q2 => (by cases q2), fun q2 => absurd q2 q⟩⟩
    rw [ok_cb]
    refine ok_mono hcb (fun r hr => ?_)
    obtain ⟨b11, M10⟩ := r
    obtain ⟨r1, r2⟩ := hr
    dsimp only at r1 r2 ⊢
    subst r1
    have skip : ∀ M', ¬ BrP C mo H few j → (∀ s, M'.1 58 0 s = M10.1 58 0 s) → (∀ s, M'.1 11 0 s = M10.1 11 0 s) → BrM C mo H few (j + 1) M' := fun M' hn e58 e11 => by
      unfold BrM
      rw [brC_f hn, brA_f hn, brO_f hn, e11, e11, e11]
      exact ⟨hb.1, hb.2.1, hb.2.2.1, fun s hs => by rw [brS_f hn, e58]; exact hb.2.2.2 s hs⟩
    rw [ok_bd]
    refine ok_mono (Q := fun M' => BrM C mo H few (j + 1) M' ∧ LK C o mo S M' ∧ fi (PG o) M M') ?_ (fun M' hM' => ok_some.mpr ⟨by omega, nI_1 j, hM'⟩)
    rw [ok_ite, r2]
    refine ⟨fun q => ?_, fun q => ok_some.mpr ⟨skip M10 (fun q2 => q q2.1) (fun _ => rfl) (fun _ => rfl), hl, hf⟩⟩
    rw [ok_cl]
    refine ok_mono (bitCount_ok (j11 (by omega))) (fun r hr => ?_)
    subst hr
    dsimp only
    have hcj : few < nI (popN (nI j)) ↔ ¬ nI (cnt j) ≤ few := by rw [i_lt, i_le]; unfold cnt; omega
    rw [ok_ite, hcj]
    refine ⟨fun q2 => ok_some.mpr ⟨skip M10 (fun q3 => q2 q3.2.1) (fun _ => rfl) (fun _ => rfl), hl, hf⟩, fun q2 => ?_⟩
    have q2' := Classical.not_not.mp q2
    rw [ok_cl]
    refine ok_mono (upIf_ok (by omega) hS hY hw hg hl (nI j)) (fun r hr => ?_)
    obtain ⟨x15, M14⟩ := r
    obtain ⟨g1, g2, g3⟩ := hr
    dsimp only at g1 g2 g3 ⊢
    have f14 : fi (PG o) M M14 := fi_tr hf (fi_mono g3 (fun k n i q => Or.inl q))
    have t14 : ToH 0 M14 H := by
      have e9 : ∀ i, M14.1 9 0 i = M.1 9 0 i := fun i => fi_I f14 (by unfold PG PU PW; omega)
      unfold ToH at ht ⊢
      rw [e9, e9, e9]; exact ht
    have e58 : ∀ s, M14.1 58 0 s = M10.1 58 0 s := fun s => fi_I g3 (by unfold PU PW; omega)
    have e11 : ∀ s, M14.1 11 0 s = M10.1 11 0 s := fun s => fi_I g3 (by unfold PU PW; omega)
    rw [ok_cb, g1]
    refine ok_mono (agrees_ok t14 hH) (fun r hr => ?_)
    obtain ⟨b17, M16⟩ := r
    obtain ⟨k1, k2⟩ := hr
    dsimp only at k1 k2 ⊢
    subst k1
    rw [ok_ite, k2]
    refine ⟨fun q3 => ?_, fun q3 => ok_some.mpr ⟨skip M16 (fun q4 => q3 q4.2.2) e58 e11, g2, f14⟩⟩
    rw [ok_cv]
    refine ok_mono (addSet_ok hF hS hY hw hg g2) (fun M18 h18 => ok_some.mpr ?_)
    obtain ⟨l, f, c12, c13, c14, c58⟩ := h18
    have hP : BrP C mo H few j := ⟨q, q2', q3⟩
    refine ⟨?_, l, fi_tr f14 f⟩
    unfold BrM
    rw [brC_t hP, brA_t hP, brO_t hP, c12, c13, c14, e11, e11, e11, hb.1, hb.2.1, hb.2.2.1]
    exact ⟨rfl, rfl, rfl, fun s hs => by rw [brS_t hP, c58 s hs, e58, hb.2.2.2 s hs]; rfl⟩
