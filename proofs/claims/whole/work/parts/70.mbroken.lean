/-! the reference's broken -/
def PZ : Nat → Nat → Nat → Prop := fun k n i => PV k n i ∨ k = 109
theorem RM_pz {A : sty} {M M' : mm} (h : RM A M) (f : fi PZ M M') (hm : RMo (aC A) (aM A) M') : RM A M' ∧ FrM M M' :=
  ⟨⟨hm, RMs_fi h.2 f (fun k n i q => by unfold PZ PV PT PD at q; unfold GM; omega)⟩, FrM_fi f (fun k n i q => by unfold PZ PV PT PD at q; omega)⟩
theorem asHeard_ok {F : Nat} (hF : 1000 < F) {H : hty} {M : mm} {up : Int32} (h : HeM 0 M H) (hl : H.length ≤ 10) (hH : ∀ s b, (s, b) ∈ H → s < 32) :
    ok (m_X12_isAsHeard F up M) (fun r => r.2 = M ∧ (r.1 = true ↔ AgS H up)) := by
  obtain ⟨h97, h98⟩ := h
  unfold m_X12_isAsHeard
  rw [ok_bd]
  refine ok_mono (Q := fun r => (r = .inl () ∧ ¬ AgS H up) ∨ (r = .inr () ∧ AgS H up)) ?_ (fun r hr => ?_)
  · refine ok_for H.length (fun i z => z = nI i ∧ ∀ k, k < i → ∀ e, H[k]? = some e → bt up e.1 = e.2) 0 (by omega) (by omega) ⟨rfl, fun k hk => by omega⟩ ?_
    rintro i z hi ⟨rfl, hn⟩
    simp only [b_X12_isAsHeard_1, b_X12_isAsHeard_1c]
    rw [ok_gi, tc0, h97, ok_ite, nI_leI (by omega) (by omega)]
    refine ⟨vp_of (by decide), fun hc => ok_some.mpr (Or.inr ⟨rfl, fun s b hs => ?_⟩), fun hc => ?_⟩
    · obtain ⟨k, hk⟩ := List.getElem?_of_mem hs
      have hk2 := (List.getElem?_eq_some_iff.mp hk).1
      exact hn k (by omega) (s, b) hk
    have hi' : i < H.length := by omega
    obtain ⟨⟨s, b⟩, he⟩ : ∃ e, H[i]? = some e := ⟨H[i], List.getElem?_eq_getElem hi'⟩
    have hm : (s, b) ∈ H := List.mem_of_getElem? he
    have hs := hH s b hm
    obtain ⟨e98, e99⟩ := h98 i _ he
    have ei : 10 * 0 + i = i := by omega
    rw [ei] at e98 e99
    have hin : vp_in (nI i) 50 := vp_in_nI (by omega) (by decide)
    rw [ok_gi, ok_bd, nI_clamp (by omega), e98]
    refine ⟨hin, ?_⟩
    refine ok_mono (Q := fun v => v = if bt up s = true then (1 : Int32) else 0) ?_ (fun v hv => ?_)
    · rw [ok_ite, b_bit1 _ hs, ok_some, ok_some]
      exact ⟨fun q => by rw [if_pos q], fun q => by rw [if_neg q]⟩
    · subst hv
      rw [ok_gi, ok_ite, e99]
      have eb : ((if bt up s = true then (1 : Int32) else 0) = if b = true then 1 else 0) ↔ bt up s = b := by
        cases bt up s <;> cases b <;> decide
      rw [eb]
      refine ⟨hin, fun q => ok_some.mpr ⟨by omega, nI_1 i, fun k hk e hke => ?_⟩, fun q => ok_some.mpr (Or.inl ⟨rfl, fun q2 => q (q2 s b hm)⟩)⟩
      rcases Nat.lt_succ_iff_lt_or_eq.mp hk with r | r
      · exact hn k r e hke
      · subst r
        rw [he] at hke; cases hke; exact q
  · rcases hr with ⟨rfl, q⟩ | ⟨rfl, q⟩
    · simp only [Sum.elim_inl, ok_some]; exact ⟨trivial, fun q2 => (by cases q2), fun q2 => absurd q2 q⟩
    · simp only [Sum.elim_inr, ok_some]; exact ⟨trivial, fun _ => q, fun _ => trivial⟩
def P9 : Nat → Nat → Nat → Prop := fun k _ _ => k = 109
theorem RMo_9 {C : cty} {mo : mty} {M M' : mm} (h : RMo C mo M) (f : fi P9 M M') : RMo C mo M' := by
  have e : ∀ k i, k < 109 → M'.1 k 0 i = M.1 k 0 i := fun k i hk => fi_I f (by unfold P9; omega)
  obtain ⟨h1, h2, h3⟩ := h
  refine ⟨MV_fr h1 (fr_fi f) (fun k _ hk q => by obtain ⟨i, q⟩ := q; unfold P9 at q; omega), ?_, ?_⟩
  · unfold B0 at h2 ⊢; rw [e 105 0 (by omega)]; exact h2
  · unfold MoR at h3 ⊢; rw [e 100 0 (by omega), e 100 1 (by omega), e 100 2 (by omega), e 100 3 (by omega)]; exact h3
theorem br1_ok {F : Nat} (hF : 1000 < F) {M : mm} : ok (lp (b_X12_broken_1 F) F ((0 : Int32), M)) (fun z => fi P9 M z ∧ ∀ s, s < 10 → z.1 109 0 s = 0) := by
  refine ok_for 10 (fun i z => z.1 = nI i ∧ fi P9 M z.2 ∧ ∀ s, s < i → z.2.1 109 0 s = 0) 0 (by omega) (by omega) ⟨rfl, fi_rf, fun s hs => by omega⟩ ?_
  rintro i ⟨x4, M5⟩ hi ⟨e1, hf, hz⟩
  dsimp only at e1 hf hz
  subst e1
  simp only [b_X12_broken_1, b_X12_broken_1c]
  have e10 : (10 : Int32) ≤ nI i ↔ 10 ≤ i := (nI_leI (by omega) (by omega) : nI 10 ≤ nI i ↔ 10 ≤ i)
  rw [ok_ite, e10]
  refine ⟨fun hc => ok_some.mpr ⟨hf, fun s hs => hz s (by omega)⟩, fun hc => ?_⟩
  rw [ok_gi, ok_nm, ok_some, nI_clamp (by omega)]
  refine ⟨vp_in_nI (by omega) (by decide), by omega, nI_1 i, fi_sI hf rfl, fun s hs => ?_⟩
  rw [rII]
  by_cases e : s = i
  · subst e; rw [if_pos ⟨rfl, rfl, rfl⟩]
  · rw [if_neg (fun q => e q.2.2)]; exact hz s (by omega)
theorem br3_ok {F : Nat} (hF : 1000 < F) {M : mm} {u : Int32} : ok (lp (b_X12_broken_3 F u) F ((0 : Int32), M)) (fun z => fi P9 M z ∧ ∀ s, s < 10 → z.1 109 0 s = M.1 109 0 s + ((u >>> (nI s &&& 31)) &&& 1)) := by
  refine ok_for 10 (fun i z => z.1 = nI i ∧ fi P9 M z.2 ∧ (∀ s, s < i → z.2.1 109 0 s = M.1 109 0 s + ((u >>> (nI s &&& 31)) &&& 1)) ∧ ∀ s, i ≤ s → z.2.1 109 0 s = M.1 109 0 s) 0 (by omega) (by omega) ⟨rfl, fi_rf, fun s hs => by omega, fun s _ => rfl⟩ ?_
  rintro i ⟨x4, M5⟩ hi ⟨e1, hf, hlo, hhi⟩
  dsimp only at e1 hf hlo hhi
  subst e1
  simp only [b_X12_broken_3, b_X12_broken_3c]
  have e10 : (10 : Int32) ≤ nI i ↔ 10 ≤ i := (nI_leI (by omega) (by omega) : nI 10 ≤ nI i ↔ 10 ≤ i)
  have hin : i < 10 → vp_in (nI i) 10 := fun h => vp_in_nI (by omega) (by decide)
  rw [ok_ite, e10]
  refine ⟨fun hc => ok_some.mpr ⟨hf, fun s hs => hlo s (by omega)⟩, fun hc => ?_⟩
  rw [ok_gi, ok_gi, ok_nm, ok_some, nI_clamp (by omega)]
  refine ⟨hin (by omega), hin (by omega), by omega, nI_1 i, fi_sI hf rfl, fun s hs => ?_, fun s hs => ?_⟩
  · rw [rII]
    by_cases e : s = i
    · subst e; rw [if_pos ⟨rfl, rfl, rfl⟩, hhi s (Nat.le_refl _)]
    · rw [if_neg (fun q => e q.2.2)]; exact hlo s (by omega)
  · rw [rII, if_neg (by omega)]; exact hhi s (by omega)
