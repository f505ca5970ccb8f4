/-! the reference reads a law -/
def mStep (T : List Int32) (p : Nat) (s : mst) : Nat ⊕ mst := if s.2.2 = true then mPart T p s else mJnt T p s
def spLmL (T : List Int32) : Nat → Nat → mst → (Nat × Nat) ⊕ (List Int32 × Nat)
  | 0, p, _ => .inl (1, p)
  | fu + 1, p, s => match mStep T p s with
    | .inl 0 => if s.2.1.length = 1 ∧ isS T p 59 = true then .inr (s.1, p) else .inl (1, p)
    | .inl (k + 1) => .inl (k + 1, p)
    | .inr s' => spLmL T fu (tkE T p) s'
def spLm (T : List Int32) (p : Nat) : (Nat × Nat) ⊕ (List Int32 × Nat) := spLmL T (T.length + 1) p ([], [(0, 0)], true)
theorem mstep_ok {F : Nat} (hF : 2000 < F) {T : List Int32} {p : Nat} {s : mst} {z : Int32 × Int32 × mm} (hT1 : T.length ≤ 1000) (hc : MsC T p s z) (hk : MsK p s) : ok (b_X12_reads_1 F z) (QS T p z.2.2 (nI (s.2.1.length - 1)) (mStep T p s)) := by
  obtain ⟨x2, x3, M⟩ := z
  have e1 : x2 = nI (s.2.1.length - 1) := hc.1
  have e2 : x3 = bN s.2.2 := hc.2.1
  subst e1
  subst e2
  unfold b_X12_reads_1 mStep
  dsimp only
  cases e : s.2.2 with
  | true =>
    rw [if_pos rfl]
    exact mpart_step hF hT1 ⟨rfl, by rw [e]; rfl, hc.2.2.1, hc.2.2.2.1, hc.2.2.2.2⟩ hk
  | false =>
    rw [if_neg (by decide)]
    exact mjnt_step hF hT1 ⟨rfl, by rw [e]; rfl, hc.2.2.1, hc.2.2.2.1, hc.2.2.2.2⟩ hk
def PRl : Nat → Nat → Nat → Prop := fun k n i => PRs k n i ∨ PM6 k n i
theorem readsM_ok {F : Nat} (hF : 2000 < F) {T : List Int32} {p : Nat} {M : mm} (hT1 : T.length ≤ 1000) (h : AtM T p M) (h0 : M.1 13 0 28 = 1000) : ok (m_X12_reads F M) (fun r => fi PRl M r.2 ∧ match spLm T p with
    | .inl (k, q) => r.1 = false ∧ r.2.1 13 0 9 = nI (k + 16 * tkB T q)
    | .inr (ks, q) => r.1 = true ∧ AtM T (tkE T q) r.2 ∧ CoM ks r.2 ∧ ks.length ≤ 1000) := by
  have hp := h.1
  have n0 : vp_nar .boolean (0 : Int32) = 0 := by decide
  have t0 : (0 : Int32).toNatClampNeg = 0 := rfl
  unfold m_X12_reads
  rw [ok_gi, ok_nm, n0, t0, ok_bd]
  refine ⟨vp_of (by decide), ?_⟩
  have f1 : fi PRs M (sI M 83 0 0 0) := fi_sI fi_rf (Or.inr (Or.inr (Or.inr rfl)))
  have c1 : CoM [] (sI M 83 0 0 0) := ⟨(by rw [rII, if_neg (by omega)]; exact h0), fun i c hi => by cases hi⟩
  have l1 : LvR [(0, 0)] (sI M 83 0 0 0) := ⟨fun r => absurd rfl r, (by rw [List.length_nil, rII, if_pos ⟨rfl, rfl, rfl⟩]), trivial⟩
  have a1 : AtM T p (sI M 83 0 0 0) := AtM_6 h (fi_sI fi_rf rfl : fi (fun k _ _ => k = 83) M (sI M 83 0 0 0)) (fun k n i q => by omega)
  generalize sI M 83 0 0 0 = M1 at f1 c1 l1 a1 ⊢
  refine ok_mono (Q := Sum.elim (fun M' => ∃ q, spLm T p = .inl (1, q) ∧ AtM T q M' ∧ fi PRs M M') (Sum.elim (fun M' => ∃ q, spLm T p = .inl (5, q) ∧ AtM T q M' ∧ fi PRs M M') (fun z => ∃ (q : Nat) (s : mst), AtM T q z.2 ∧ fi PRs M z.2 ∧ z.1 = nI (s.2.1.length - 1) ∧ 1 ≤ s.2.1.length ∧ s.2.1.length ≤ 6 ∧ CoM s.1 z.2 ∧ s.1.length ≤ 1000 ∧ spLm T p = if s.2.1.length = 1 ∧ isS T q 59 = true then .inr (s.1, q) else .inl (1, q)))) ?_ (fun r hr => ?_)
  · refine ok_lp (fun n z => ∃ (q : Nat) (s : mst) (fu : Nat), n = T.length - q ∧ spLm T p = spLmL T (fu + 1) q s ∧ T.length < fu + 1 + q ∧ MsC T q s z ∧ MsK q s ∧ q ≤ T.length ∧ fi PRs M z.2.2) ?_ F (T.length - p) _ (by omega) ⟨p, ([], [(0, 0)], true), T.length, rfl, rfl, by omega, ⟨rfl, rfl, c1, l1, a1⟩, ⟨rfl, by decide, Nat.zero_le _⟩, hp, f1⟩
    rintro n z ⟨q, s, fu, rfl, e, hfu, hc, hk, hq, f⟩
    refine ok_mono (mstep_ok hF hT1 hc hk) (fun r hr => ?_)
    have eU : spLmL T (fu + 1) q s = match mStep T q s with
        | .inl 0 => if s.2.1.length = 1 ∧ isS T q 59 = true then .inr (s.1, q) else .inl (1, q)
        | .inl (k + 1) => .inl (k + 1, q)
        | .inr s' => spLmL T fu (tkE T q) s' := rfl
    rcases r with z' | M' | M' | z'
    · obtain ⟨s', e', hc', hk', g1, g2, f'⟩ := hr
      refine ⟨T.length - tkE T q, by omega, tkE T q, s', fu - 1, rfl, ?_, by omega, hc', ⟨hk'.1, hk'.2.1, by have := hk'.2.2; omega⟩, g2, fi_tr f f'⟩
      rw [show fu - 1 + 1 = fu by omega, e, eU, e']
    · obtain ⟨e', a', f'⟩ := hr
      exact ⟨q, by rw [e, eU, e'], a', fi_tr f f'⟩
    · obtain ⟨e', a', f'⟩ := hr
      exact ⟨q, by rw [e, eU, e'], a', fi_tr f f'⟩
    · obtain ⟨x, Mz⟩ := z'
      obtain ⟨e', g1, g2⟩ := hr
      dsimp only at g1 g2
      subst g1
      subst g2
      have hl : 1 ≤ s.2.1.length := by
        have := hk.1
        cases es : s.2.1 with
        | nil => rw [es] at this; exact this.elim
        | cons a b => rw [List.length_cons]; omega
      have := hk.2.2
      exact ⟨q, s, hc.2.2.2.2, f, rfl, hl, hk.2.1, hc.2.2.1, by omega, by rw [e, eU, e']⟩
  · rcases r with M' | M' | z
    · obtain ⟨q, e, a, f⟩ := hr
      show ok (cb (m_X12_fails F (1 : Int32) M') fun b70 M69 => some (b70, M69)) _
      rw [ok_cb, e]
      refine ok_mono (fails_ok (k := 1) a) (fun r hr => ok_some.mpr ⟨fi_tr (fi_mono f (fun k n i q => Or.inl q)) (fi_mono hr.2.2 (fun k n i q => Or.inr q)), hr.1, hr.2.1⟩)
    · obtain ⟨q, e, a, f⟩ := hr
      show ok (cb (m_X12_fails F (5 : Int32) M') fun b70 M69 => some (b70, M69)) _
      rw [ok_cb, e]
      refine ok_mono (fails_ok (k := 5) a) (fun r hr => ok_some.mpr ⟨fi_tr (fi_mono f (fun k n i q => Or.inl q)) (fi_mono hr.2.2 (fun k n i q => Or.inr q)), hr.1, hr.2.1⟩)
    · obtain ⟨x74, M75⟩ := z
      obtain ⟨q, s, a, f, e1, e2, e3, c, c3, e⟩ := hr
      dsimp only at a f e1 c
      subst e1
      have ez : nI (s.2.1.length - 1) = (0 : Int32) ↔ s.2.1.length = 1 := (nI_eq (b := 0) (by omega) (by decide)).trans (by omega)
      have bad : ¬ (s.2.1.length = 1 ∧ isS T q 59 = true) → ok (cb (m_X12_fails F (1 : Int32) M75) fun b70 M69 => some (b70, M69)) (fun r => fi PRl M r.2 ∧ match spLm T p with
        | .inl (k, q) => r.1 = false ∧ r.2.1 13 0 9 = nI (k + 16 * tkB T q)
        | .inr (ks, q) => r.1 = true ∧ AtM T (tkE T q) r.2 ∧ CoM ks r.2 ∧ ks.length ≤ 1000) := fun hne => by
        rw [if_neg hne] at e
        rw [ok_cb, e]
        exact ok_mono (fails_ok (k := 1) a) (fun r hr => ok_some.mpr ⟨fi_tr (fi_mono f (fun k n i q => Or.inl q)) (fi_mono hr.2.2 (fun k n i q => Or.inr q)), hr.1, hr.2.1⟩)
      simp only [Sum.elim_inr]
      rw [ok_nm, ok_ite, ez]
      refine ⟨fun q0 => ?_, fun q0 => bad (fun r => q0 r.1)⟩
      rw [ok_cb]
      refine ok_mono (isSignM_ok a (c := 59)) (fun r hr => ?_)
      subst hr
      dsimp only
      rw [ok_ite]
      refine ⟨fun q59 => ?_, fun q59 => bad (fun r => q59 r.2)⟩
      rw [if_pos ⟨q0, q59⟩] at e
      rw [ok_cv, e]
      refine ok_mono (AtM_next hF a) (fun M78 g => ok_some.mpr ?_)
      exact ⟨fi_tr (fi_mono f (fun k n i q => Or.inl q)) (fi_mono g.2 (fun k n i q => Or.inr (P13_6 k n i q))), rfl, g.1, ⟨(fi_I g.2 (by unfold P13; omega)).trans c.1, fun i x hi => (fi_I g.2 (by unfold P13; omega)).trans (c.2 i x hi)⟩, c3⟩
