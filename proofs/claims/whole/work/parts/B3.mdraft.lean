/-! the draft in the reference's memory; its readers, with what goes on behind them -/
def leansD (D : dft) : Nat := (List.range (dO D).length).countP (fun x => decide (nI x < dL D x))
def clashD (D : dft) : Nat := ((List.range (dO D).length).map (fun x => (List.range 10).countP (fun y => decide (x ≤ y) && bt (dK D x) y))).sum
def LwM (w : Option (List Int32 × List Int32)) (M : mm) : Prop := match w with
  | none => M.1 79 0 1 = nI 1000 ∧ M.1 80 0 1 = nI 1000 ∧ M.1 13 0 28 = nI 1000
  | some (_, ics) => M.1 79 0 1 = nI 1000 ∧ M.1 80 0 1 = nI (1000 + ics.length) ∧ M.1 13 0 28 = nI (1000 + ics.length) ∧ 1 ≤ ics.length ∧ ics.length ≤ 1000 ∧ ∀ i c, ics[i]? = some c → M.1 81 0 (1000 + i) = c
def DMm (D : dft) (M : mm) : Prop :=
  (M.1 64 0 6 = nI (dP D).length ∧ M.1 64 0 7 = nI (dO D).length ∧ M.1 64 0 8 = nI (dS D).length) ∧
  (M.1 64 0 9 = (dM D).getD 5 ∧ M.1 64 0 10 = nI (leansD D) ∧ M.1 64 0 11 = nI (clashD D)) ∧
  (NmM 65 6 (dPn D) M ∧ NmM 66 10 (dOn D) M ∧ NmM 67 10 (dSn D) M) ∧
  (∀ i e, (dP D)[i]? = some e → M.1 68 0 (6 + i) = e.2.1 ∧ M.1 69 0 (6 + i) = e.2.2) ∧
  (∀ i e, (dO D)[i]? = some e → M.1 70 0 (10 + i) = nI e.2.1 ∧ M.1 71 0 (10 + i) = nI e.2.2.1 ∧ M.1 72 0 (10 + i) = e.2.2.2 ∧ M.1 73 0 (10 + i) = dL D i ∧ M.1 74 0 (10 + i) = dK D i) ∧
  (∀ i e, (dS D)[i]? = some e → M.1 75 0 (11 + i) = e.2.1 ∧ M.1 76 0 (10 + i) = e.2.2.1 ∧ M.1 77 0 (11 + i) = e.2.2.2.1 ∧ M.1 78 0 (11 + i) = e.2.2.2.2) ∧
  M.1 13 0 29 = (if (dM D).isSome = true then 1 else 0) ∧ LwM (dW D) M
/-- clashes go both ways -/
def SymK (D : dft) : Prop := ∀ x y, x < (dO D).length → y < (dO D).length → bt (dK D x) y = bt (dK D y) x
def DMK (D : dft) (M : mm) : Prop := DMm D M ∧ DOK D ∧ SymK D
def PRm : Nat → Nat → Nat → Prop := fun k n i => PM6 k n i ∨ (k = 13 ∧ (i = 28 ∨ i = 29)) ∨ (k = 64 ∧ 6 ≤ i) ∨ (k = 65 ∧ 6 ≤ i) ∨ (k = 66 ∧ 10 ≤ i) ∨ (k = 67 ∧ 10 ≤ i) ∨ ((k = 68 ∨ k = 69) ∧ 6 ≤ i) ∨ (70 ≤ k ∧ k ≤ 74 ∧ 10 ≤ i) ∨ ((k = 75 ∨ k = 77 ∨ k = 78) ∧ 11 ≤ i) ∨ (k = 76 ∧ 10 ≤ i) ∨ ((k = 79 ∨ k = 80) ∧ i = 1) ∨ (k = 81 ∧ 1000 ≤ i) ∨ k = 82 ∨ k = 83
theorem PRm_a {k n i : Nat} (h : k = 64) (hi : 6 ≤ i) : PRm k n i := Or.inr (Or.inr (Or.inl ⟨h, hi⟩))
theorem PRm_b {k n i : Nat} (h : k = 65 ∨ k = 68 ∨ k = 69) (hi : 6 ≤ i) : PRm k n i := h.elim (fun e => Or.inr (Or.inr (Or.inr (Or.inl ⟨e, hi⟩)))) (fun e => Or.inr (Or.inr (Or.inr (Or.inr (Or.inr (Or.inr (Or.inl ⟨e, hi⟩)))))))
theorem PRm_c {k n i : Nat} (h : k = 66 ∨ (70 ≤ k ∧ k ≤ 74)) (hi : 10 ≤ i) : PRm k n i := h.elim (fun e => Or.inr (Or.inr (Or.inr (Or.inr (Or.inl ⟨e, hi⟩))))) (fun e => Or.inr (Or.inr (Or.inr (Or.inr (Or.inr (Or.inr (Or.inr (Or.inl ⟨e.1, e.2, hi⟩))))))))
theorem PRm_d {k n i : Nat} (h : k = 75 ∨ k = 77 ∨ k = 78) (hi : 11 ≤ i) : PRm k n i := Or.inr (Or.inr (Or.inr (Or.inr (Or.inr (Or.inr (Or.inr (Or.inr (Or.inl ⟨h, hi⟩))))))))
theorem PRm_e {k n i : Nat} (h : k = 67 ∨ k = 76) (hi : 10 ≤ i) : PRm k n i := h.elim (fun e => Or.inr (Or.inr (Or.inr (Or.inr (Or.inr (Or.inl ⟨e, hi⟩)))))) (fun e => Or.inr (Or.inr (Or.inr (Or.inr (Or.inr (Or.inr (Or.inr (Or.inr (Or.inr (Or.inl ⟨e, hi⟩))))))))))
theorem PRm_f {k n i : Nat} (h : k = 13 ∧ (i = 28 ∨ i = 29)) : PRm k n i := Or.inr (Or.inl h)
theorem PRm_6 : ∀ k n i, PM6 k n i → PRm k n i := fun _ _ _ q => Or.inl q
theorem P13_6 : ∀ k n i, P13 k n i → PM6 k n i := fun k n i q => by unfold P13 at q; unfold PM6; omega
theorem NmM_c {k off : Nat} {N : List (List Nat)} {M M' : mm} {P : Nat → Nat → Nat → Prop} (h : NmM k off N M) (f : fi P M M') (hP : ∀ i, i < N.length → ¬ P k 0 (off + i)) : NmM k off N M' := ⟨fun i w hi => by rw [fi_L f (hP i (List.getElem?_eq_some_iff.mp hi).1)]; exact h.1 i w hi, h.2⟩
/-- cells on which no draft rests -/
theorem DMm_fi {D : dft} {M M' : mm} {P : Nat → Nat → Nat → Prop} (h : DMm D M) (f : fi P M M') (hP : ∀ k i, P k 0 i → ¬ (k = 13 ∧ (i = 28 ∨ i = 29)) ∧ ¬ k = 64 ∧ ¬ (79 ≤ k ∧ k ≤ 81) ∧ ((k = 65 ∨ k = 68 ∨ k = 69) → 6 + (dP D).length ≤ i) ∧ ((k = 66 ∨ (70 ≤ k ∧ k ≤ 74)) → 10 + (dO D).length ≤ i) ∧ ((k = 67 ∨ k = 76) → 10 + (dS D).length ≤ i) ∧ ((k = 75 ∨ k = 77 ∨ k = 78) → 11 + (dS D).length ≤ i)) : DMm D M' := by
  obtain ⟨⟨h1, h2, h3⟩, ⟨h4, h5, h6⟩, ⟨h7, h8, h9⟩, h10, h11, h12, h13, h14⟩ := h
  obtain ⟨l1, l2, l3⟩ := len_n D
  have lt : ∀ {α : Type} {L : List α} {i : Nat} {e : α}, L[i]? = some e → i < L.length := fun q => (List.getElem?_eq_some_iff.mp q).1
  have e64 : ∀ i, M'.1 64 0 i = M.1 64 0 i := fun i => fi_I f (fun q => (hP _ _ q).2.1 rfl)
  have eP : ∀ k i, (k = 65 ∨ k = 68 ∨ k = 69) → i < (dP D).length → M'.1 k 0 (6 + i) = M.1 k 0 (6 + i) := fun k i hk hi => fi_I f (fun q => by have := (hP _ _ q).2.2.2.1 hk; omega)
  have eO : ∀ k i, (k = 66 ∨ (70 ≤ k ∧ k ≤ 74)) → i < (dO D).length → M'.1 k 0 (10 + i) = M.1 k 0 (10 + i) := fun k i hk hi => fi_I f (fun q => by have := (hP _ _ q).2.2.2.2.1 hk; omega)
  have eS : ∀ k i, (k = 67 ∨ k = 76) → i < (dS D).length → M'.1 k 0 (10 + i) = M.1 k 0 (10 + i) := fun k i hk hi => fi_I f (fun q => by have := (hP _ _ q).2.2.2.2.2.1 hk; omega)
  have eT : ∀ k i, (k = 75 ∨ k = 77 ∨ k = 78) → i < (dS D).length → M'.1 k 0 (11 + i) = M.1 k 0 (11 + i) := fun k i hk hi => fi_I f (fun q => by have := (hP _ _ q).2.2.2.2.2.2 hk; omega)
  have eW : ∀ k i, (79 ≤ k ∧ k ≤ 81) → M'.1 k 0 i = M.1 k 0 i := fun k i hk => fi_I f (fun q => (hP _ _ q).2.2.1 hk)
  refine ⟨⟨by rw [e64]; exact h1, by rw [e64]; exact h2, by rw [e64]; exact h3⟩, ⟨by rw [e64]; exact h4, by rw [e64]; exact h5, by rw [e64]; exact h6⟩, ⟨NmM_c h7 f (fun i hi q => by have := (hP _ _ q).2.2.2.1 (by omega); omega), NmM_c h8 f (fun i hi q => by have := (hP _ _ q).2.2.2.2.1 (by omega); omega), NmM_c h9 f (fun i hi q => by have := (hP _ _ q).2.2.2.2.2.1 (by omega); omega)⟩, fun i e hi => by rw [eP 68 i (by omega) (lt hi), eP 69 i (by omega) (lt hi)]; exact h10 i e hi, fun i e hi => by rw [eO 70 i (by omega) (lt hi), eO 71 i (by omega) (lt hi), eO 72 i (by omega) (lt hi), eO 73 i (by omega) (lt hi), eO 74 i (by omega) (lt hi)]; exact h11 i e hi, fun i e hi => by rw [eT 75 i (by omega) (lt hi), eS 76 i (by omega) (lt hi), eT 77 i (by omega) (lt hi), eT 78 i (by omega) (lt hi)]; exact h12 i e hi, by rw [fi_I f (fun q => (hP _ _ q).1 ⟨rfl, Or.inr rfl⟩)]; exact h13, ?_⟩
  have e28 : M'.1 13 0 28 = M.1 13 0 28 := fi_I f (fun q => (hP _ _ q).1 ⟨rfl, Or.inl rfl⟩)
  unfold LwM at h14 ⊢
  cases hW : dW D with
  | none => rw [hW] at h14; simp only [eW 79 _ (by omega), eW 80 _ (by omega), e28]; exact h14
  | some w => rw [hW] at h14; simp only [eW 79 _ (by omega), eW 80 _ (by omega), eW 81 _ (by omega), e28]; exact h14
theorem DMm_6 {D : dft} {M M' : mm} (h : DMm D M) (f : fi PM6 M M') : DMm D M' := DMm_fi h f (fun k i q => by unfold PM6 at q; omega)
def BadM (T : List Int32) (M : mm) (S : res) (r : Bool × mm) : Prop := r.1 = false ∧ fi PM6 M r.2 ∧ ∃ k q, r.2.1 13 0 9 = nI (k + 16 * tkB T q) ∧ S = .inl (k, q)
section MT
variable {F : Nat} {T : List Int32} {DM : dft → mm → Prop} {P : Nat → Nat → Nat → Prop} {M0 M : mm} {p : Nat}
theorem contM (hP : ∀ k n i, PM6 k n i → P k n i) (fr : fi P M0 M) {g : Option (Bool × mm)} {f : Bool → mm → Option (Bool × mm)} {S : res} {Good : Bool × mm → Prop} (hg : ok g (fun r => BadM T M S r ∨ (r.1 = true ∧ Good r))) (h1 : ∀ b M', Good (b, M') → ok (f true M') (QRM T DM P M0 S)) (h2 : ∀ M', f false M' = some (false, M')) : ok (cb g f) (QRM T DM P M0 S) := by
  rw [ok_cb]
  refine ok_mono hg (fun r hr => ?_)
  rcases hr with ⟨b1, b2, k, q, b3, b4⟩ | ⟨g1, g2⟩
  · rw [b1, h2, b4]
    exact ok_some.mpr ⟨fi_tr fr (fi_mono b2 hP), rfl, b3⟩
  · rw [g1]; exact h1 r.1 _ g2
theorem badM (h : AtM T p M) {k : Nat} {S : res} (hS : S = .inl (k, p)) : ok (cb (m_X12_fails F (nI k) M) fun b M' => some (b, M')) (fun r => BadM T M S r) := by
  rw [ok_cb]
  exact ok_mono (fails_ok h) (fun r hr => ok_some.mpr ⟨hr.1, hr.2.2, k, p, hr.2.1, hS⟩)
theorem needsWord_ok (hF : 2000 < F) (h : AtM T p M) {i : Nat} (hi : i < 29) {c : Int64} (hc : c = lN (pv 27 (KW.getD i []))) {K : Nat → res} : ok (m_X12_needsWord F c M) (fun r => BadM T M (spWord T i p K) r ∨ (r.1 = true ∧ AtM T (tkE T p) r.2 ∧ fi P13 M r.2 ∧ spWord T i p K = K (tkE T p))) := by
  unfold m_X12_needsWord
  rw [ok_cb]
  refine ok_mono (isWordM_ok h hi hc) (fun r hr => ?_)
  subst hr
  dsimp only
  rw [ok_ite]
  refine ⟨fun q => ?_, fun q => ?_⟩
  · rw [ok_cv]
    exact ok_mono (AtM_next hF h) (fun M' hM' => ok_some.mpr (Or.inr ⟨rfl, hM'.1, hM'.2, if_pos q⟩))
  · exact ok_mono (badM (k := 1) h (show spWord T i p K = _ from if_neg q)) (fun r hr => Or.inl hr)
theorem closes_ok (hF : 2000 < F) (h : AtM T p M) {K : Nat → res} : ok (m_X12_closes F M) (fun r => BadM T M (spEnd T p K) r ∨ (r.1 = true ∧ AtM T (tkE T p) r.2 ∧ fi P13 M r.2 ∧ spEnd T p K = K (tkE T p))) := by
  unfold m_X12_closes
  rw [ok_cb]
  refine ok_mono (isSignM_ok h) (fun r hr => ?_)
  subst hr
  dsimp only
  rw [ok_ite]
  refine ⟨fun q => ?_, fun q => ?_⟩
  · rw [ok_cv]
    exact ok_mono (AtM_next hF h) (fun M' hM' => ok_some.mpr (Or.inr ⟨rfl, hM'.1, hM'.2, if_pos q⟩))
  · exact ok_mono (badM (k := 1) h (show spEnd T p K = _ from if_neg q)) (fun r hr => Or.inl hr)
theorem needsNumber_ok (hF : 2000 < F) (h : AtM T p M) {lo hi : Int32} {K : Int32 → Nat → res} : ok (m_X12_needsNumber F lo hi M) (fun r => BadM T M (spNum T lo hi p K) r ∨ (r.1 = true ∧ AtM T (tkE T p) r.2 ∧ fi PM6 M r.2 ∧ r.2.1 13 0 42 = (tkA T p).2.2 ∧ (lo ≤ (tkA T p).2.2 ∧ (tkA T p).2.2 ≤ hi) ∧ spNum T lo hi p K = K (tkA T p).2.2 (tkE T p))) := by
  have e2 : nI (kmap (tkA T p).1) = (2 : Int32) ↔ (tkA T p).1 = 3 := km_eq T p (k := 3) (j := 2) (by decide) rfl
  unfold m_X12_needsNumber
  rw [h.2.2.2.2.1, ok_ite, e2]
  refine ⟨fun q => ?_, fun q => ?_⟩
  · rw [h.2.2.2.2.2.2.1 q, ok_cb]
    refine ok_mono within_ok (fun r hr => ?_)
    subst hr
    dsimp only
    rw [ok_ite, decide_eq_true_iff]
    refine ⟨fun q2 => ?_, fun q2 => ?_⟩
    · rw [ok_nm, h.2.2.2.2.2.2.1 q]
      have f1 : fi (fun k _ i => k = 13 ∧ i = 42) M (sI M 13 0 42 (tkA T p).2.2) := fi_sI fi_rf ⟨rfl, rfl⟩
      have v : (sI M 13 0 42 (tkA T p).2.2).1 13 0 42 = (tkA T p).2.2 := by rw [rII, if_pos ⟨rfl, rfl, rfl⟩]
      generalize sI M 13 0 42 (tkA T p).2.2 = M3 at f1 v ⊢
      have hA := AtM_6 h f1 (fun k n i q => by omega)
      rw [ok_cv]
      refine ok_mono (AtM_next hF hA) (fun M' hM' => ok_some.mpr (Or.inr ⟨rfl, hM'.1, fi_tr (fi_mono f1 (fun k n i q => by unfold PM6; omega)) (fi_mono hM'.2 P13_6), (fi_I hM'.2 (by unfold P13; omega)).trans v, q2, ?_⟩))
      unfold spNum; rw [if_pos q, if_pos q2]
    · exact ok_mono (badM (k := 4) h (show spNum T lo hi p K = _ by unfold spNum; rw [if_pos q, if_neg q2])) (fun r hr => Or.inl hr)
  · exact ok_mono (badM (k := 1) h (show spNum T lo hi p K = _ from if_neg q)) (fun r hr => Or.inl hr)
theorem needsBoth_ok (hF : 2000 < F) (h : AtM T p M) {i : Nat} (hi : i < 29) {c : Int64} (hc : c = lN (pv 27 (KW.getD i []))) {lo hi' : Int32} {K : Int32 → Nat → res} : ok (m_X12_needsBoth F c lo hi' M) (fun r => BadM T M (spWord T i p fun p1 => spNum T lo hi' p1 K) r ∨ (r.1 = true ∧ AtM T (tkE T (tkE T p)) r.2 ∧ fi PM6 M r.2 ∧ r.2.1 13 0 42 = (tkA T (tkE T p)).2.2 ∧ (lo ≤ (tkA T (tkE T p)).2.2 ∧ (tkA T (tkE T p)).2.2 ≤ hi') ∧ (spWord T i p fun p1 => spNum T lo hi' p1 K) = K (tkA T (tkE T p)).2.2 (tkE T (tkE T p)))) := by
  unfold m_X12_needsBoth
  rw [ok_cb]
  refine ok_mono (needsWord_ok hF h hi hc (K := fun p1 => spNum T lo hi' p1 K)) (fun r hr => ?_)
  rw [ok_ite]
  rcases hr with hb | ⟨g1, g2, g3, g4⟩
  · rw [hb.1]
    exact ⟨fun q => (by cases q), fun _ => ok_some.mpr (Or.inl ⟨rfl, hb.2⟩)⟩
  · rw [g1]
    refine ⟨fun _ => ?_, fun q => absurd rfl q⟩
    rw [ok_cb]
    refine ok_mono (needsNumber_ok hF g2 (K := K)) (fun r2 hr2 => ?_)
    rw [ok_ite]
    rcases hr2 with hb | ⟨k1, k2, k3, k4, k5, k6⟩
    · rw [hb.1]
      obtain ⟨-, b2, k, q, b3, b4⟩ := hb
      exact ⟨fun q => (by cases q), fun _ => ok_some.mpr (Or.inl ⟨rfl, fi_tr (fi_mono g3 P13_6) b2, k, q, b3, g4.trans b4⟩)⟩
    · rw [k1]
      exact ⟨fun _ => ok_some.mpr (Or.inr ⟨rfl, k2, fi_tr (fi_mono g3 P13_6) k3, k4, k5, g4.trans k6⟩), fun q => absurd rfl q⟩
theorem wdM_ok (h : AtM T p M) (hn : isNm T p = true) : WdOk (wdA T p) ∧ M.2.1 13 0 7 = lN (pv 27 (wdA T p)) := by
  unfold isNm at hn
  rw [decide_eq_true_iff] at hn
  exact ⟨(tk_word h.1 hn.1).1, h.2.2.2.2.2.1 hn.1⟩
theorem personN_ok (hF : 1000 < F) {N : List (List Nat)} (h6 : M.1 64 0 6 = nI N.length) (hN : NmM 65 6 N M) (hl : N.length ≤ 6) {w : List Nat} (hw : WdOk w) (h7 : M.2.1 13 0 7 = lN (pv 27 w)) : ok (m_X12_personNamed F M) (fun r => r = (fdI N w, M)) := by
  have t6 : (6 : Int32).toNatClampNeg = 6 := rfl
  unfold m_X12_personNamed
  rw [ok_gi, t6, h6, h7, ok_cl]
  exact ⟨vp_of (by decide), ok_mono (named65_ok (off := 6) hF hN (by omega) hw) (fun r hr => by subst hr; exact ok_some.mpr rfl)⟩
theorem oathN_ok (hF : 1000 < F) {N : List (List Nat)} {r : Nat} (hr : r ≤ 1) (h6 : M.1 64 0 (6 * r + 1) = nI N.length) (hN : NmM 66 (10 * r) N M) (hl : N.length ≤ 10) {w : List Nat} (hw : WdOk w) (h7 : M.2.1 13 0 7 = lN (pv 27 w)) : ok (m_X12_oathNamed F (nI r) M) (fun r => r = (fdI N w, M)) := by
  have e1 : (6 : Int32) * nI r + (1 : Int32) = nI (6 * r + 1) := by show nI 6 * nI r + nI 1 = _; rw [pk_mul, nI_add]
  have e2 : (10 : Int32) * nI r = nI (10 * r) := by show nI 10 * nI r = _; rw [pk_mul]
  unfold m_X12_oathNamed
  rw [e1, e2, ok_gi, nI_clamp (by omega), h6, h7, ok_cl]
  exact ⟨vp_in_nI (by omega) (by decide), ok_mono (named66_ok hF hN (by omega) hw) (fun r hr => by subst hr; exact ok_some.mpr rfl)⟩
theorem stoneN_ok (hF : 1000 < F) {N : List (List Nat)} {r : Nat} (hr : r ≤ 1) (h6 : M.1 64 0 (6 * r + 2) = nI N.length) (hN : NmM 67 (10 * r) N M) (hl : N.length ≤ 10) {w : List Nat} (hw : WdOk w) (h7 : M.2.1 13 0 7 = lN (pv 27 w)) : ok (m_X12_stoneNamed F (nI r) M) (fun r => r = (fdI N w, M)) := by
  have e1 : (6 : Int32) * nI r + (2 : Int32) = nI (6 * r + 2) := by show nI 6 * nI r + nI 2 = _; rw [pk_mul, nI_add]
  have e2 : (10 : Int32) * nI r = nI (10 * r) := by show nI 10 * nI r = _; rw [pk_mul]
  unfold m_X12_stoneNamed
  rw [e1, e2, ok_gi, nI_clamp (by omega), h6, h7, ok_cl]
  exact ⟨vp_in_nI (by omega) (by decide), ok_mono (named67_ok hF hN (by omega) hw) (fun r hr => by subst hr; exact ok_some.mpr rfl)⟩
theorem fdI_le {N : List (List Nat)} {w : List Nat} (hl : N.length ≤ 10) : 0 ≤ fdI N w ↔ (fnd N w).isSome = true := by
  unfold fdI
  cases e : fnd N w with
  | none => exact ⟨fun q => absurd (show (0 : Int32) ≤ -1 from q) (by decide), fun q => by cases q⟩
  | some i =>
    have := fnd_lt e
    exact ⟨fun _ => rfl, fun _ => (nI_leI (by omega) (by omega) : nI 0 ≤ nI i ↔ 0 ≤ i).mpr (Nat.zero_le _)⟩
theorem fnd_nin {N : List (List Nat)} {w : List Nat} (e : ¬ (fnd N w).isSome = true) : w ∉ N := fun hm => by
  have e : fnd N w = none := by
    cases e2 : fnd N w with
    | none => rfl
    | some i => rw [e2] at e; exact absurd rfl e
  have key : ∀ n, n ≤ N.length → fdW N w n = none → ∀ i, i < n → N.getD i [] ≠ w := by
    intro n
    induction n with
    | zero => intro _ _ i hi; omega
    | succ n ih =>
      intro hn q i hi
      unfold fdW at q
      cases e2 : fdW N w n with
      | some j => rw [e2] at q; cases q
      | none =>
        rw [e2] at q
        dsimp only at q
        split at q
        · cases q
        · rename_i q3
          by_cases e3 : i = n
          · rw [e3]; exact q3
          · exact ih (by omega) e2 i (by omega)
  obtain ⟨i, hi, e4⟩ := List.mem_iff_getElem.mp hm
  have := key N.length (Nat.le_refl _) e i hi
  rw [List.getD_eq_getElem?_getD, List.getElem?_eq_getElem hi] at this
  exact this e4
theorem isNew_ok (hF : 2000 < F) (h : AtM T p M) {D : dft} (hD : DMm D M) (hk : DOK D) {K : List Nat → Nat → res} : ok (m_X12_isNew F M) (fun r => BadM T M (spNew T D p K) r ∨ (r.1 = true ∧ r.2 = M ∧ isNm T p = true ∧ wdA T p ∉ dOn D ∧ wdA T p ∉ dSn D ∧ spNew T D p K = K (wdA T p) (tkE T p))) := by
  obtain ⟨l1, l2, l3⟩ := len_n D
  obtain ⟨⟨n1, n2, n3⟩, -⟩ := hk
  obtain ⟨⟨d1, d2, d3⟩, -, ⟨d7, d8, d9⟩, -⟩ := hD
  unfold m_X12_isNew
  rw [ok_cb]
  refine ok_mono (isKept_ok h) (fun r hr => ?_)
  subst hr
  dsimp only
  rw [ok_ite]
  refine ⟨fun q => ?_, fun q => ?_⟩
  · have qn : ¬ isNm T p = true := by simpa using q
    exact ok_mono (badM (k := 1) h (show spNew T D p K = _ from if_neg qn)) (fun r hr => Or.inl hr)
  · have qn : isNm T p = true := by simpa using q
    obtain ⟨hw, h7⟩ := wdM_ok h qn
    rw [ok_cl]
    refine ok_mono (personN_ok (by omega) (d1.trans (by rw [l1])) d7 (by omega) hw h7) (fun r hr => ?_)
    subst hr
    dsimp only
    refine ok_jm (P := fun M' => M' = M ∧ ((fnd (dPn D) (wdA T p)).isSome = true ∨ (fnd (dOn D) (wdA T p)).isSome = true ∨ (fnd (dSn D) (wdA T p)).isSome = true)) (fun M' hM' => ?_) (fun k hk => ?_)
    · obtain ⟨e, hs⟩ := hM'
      subst e
      rw [ok_cb]
      refine ok_mono (fails_ok (k := 3) h) (fun r hr => ?_)
      rw [hr.1, ok_ite]
      exact ⟨fun q => (by cases q), fun _ => ok_some.mpr (Or.inl ⟨rfl, hr.2.2, 3, p, hr.2.1, by unfold spNew; rw [if_pos qn, if_pos hs]⟩)⟩
    · rw [ok_ite, fdI_le (by omega)]
      refine ⟨fun q1 => hk M ⟨rfl, Or.inl q1⟩, fun q1 => ?_⟩
      rw [ok_cl]
      refine ok_mono (oathN_ok (r := 1) (by omega) (by omega) (d2.trans (by rw [l2])) d8 (by omega) hw h7) (fun r hr => ?_)
      subst hr
      dsimp only
      rw [ok_ite, fdI_le (by omega)]
      refine ⟨fun q2 => hk M ⟨rfl, Or.inr (Or.inl q2)⟩, fun q2 => ?_⟩
      rw [ok_cl]
      refine ok_mono (stoneN_ok (r := 1) (by omega) (by omega) (d3.trans (by rw [l3])) d9 (by omega) hw h7) (fun r hr => ?_)
      subst hr
      dsimp only
      have nl : fdI (dSn D) (wdA T p) < 0 ↔ ¬ (fnd (dSn D) (wdA T p)).isSome = true := by
        rw [← fdI_le (by omega), i_lt, i_le]; omega
      rw [ok_ite, nl]
      refine ⟨fun q3 => ok_some.mpr (Or.inr ⟨rfl, rfl, qn, fnd_nin q2, fnd_nin q3, ?_⟩), fun q3 => hk M ⟨rfl, Or.inr (Or.inr (Classical.not_not.mp q3))⟩⟩
      unfold spNew
      rw [if_pos qn, if_neg (fun q4 => q4.elim q1 (fun q4 => q4.elim q2 q3))]
theorem needsOath_ok (hF : 2000 < F) (h : AtM T p M) {N : List (List Nat)} {r : Nat} (hr : r ≤ 1) (h6 : M.1 64 0 (6 * r + 1) = nI N.length) (hN : NmM 66 (10 * r) N M) (hl : N.length ≤ 10) {K : Nat → res} : ok (m_X12_needsOath F (nI r) M) (fun r => BadM T M (spKn T N p K) r ∨ (r.1 = true ∧ AtM T p r.2 ∧ fi PM6 M r.2 ∧ ∃ i, fnd N (wdA T p) = some i ∧ r.2.1 13 0 42 = nI i ∧ spKn T N p K = K i)) := by
  unfold m_X12_needsOath
  rw [ok_cb]
  refine ok_mono (isKept_ok h) (fun r hr => ?_)
  subst hr
  dsimp only
  rw [ok_ite]
  refine ⟨fun q => ?_, fun q => ?_⟩
  · have qn : ¬ isNm T p = true := by simpa using q
    exact ok_mono (badM (k := 1) h (show spKn T N p K = _ from if_neg qn)) (fun r hr => Or.inl hr)
  · have qn : isNm T p = true := by simpa using q
    obtain ⟨hw, h7⟩ := wdM_ok h qn
    rw [ok_cl]
    refine ok_mono (oathN_ok (by omega) hr h6 hN hl hw h7) (fun r hr => ?_)
    subst hr
    dsimp only
    rw [ok_nm]
    have f1 : fi (fun k _ i => k = 13 ∧ i = 42) M (sI M 13 0 42 (fdI N (wdA T p))) := fi_sI fi_rf ⟨rfl, rfl⟩
    have v : (sI M 13 0 42 (fdI N (wdA T p))).1 13 0 42 = fdI N (wdA T p) := by rw [rII, if_pos ⟨rfl, rfl, rfl⟩]
    generalize sI M 13 0 42 (fdI N (wdA T p)) = M5 at f1 v ⊢
    have hA := AtM_6 h f1 (fun k n i q => by omega)
    have f6 : fi PM6 M M5 := fi_mono f1 (fun k n i q => by unfold PM6; omega)
    rw [v, ok_ite, fdI_le hl]
    refine ⟨fun q1 => ?_, fun q1 => ?_⟩
    · cases e : fnd N (wdA T p) with
      | none => rw [e] at q1; cases q1
      | some i => exact ok_some.mpr (Or.inr ⟨rfl, hA, f6, i, rfl, v.trans ((fdI_n hl).2 i e), by unfold spKn; rw [if_pos qn, e]⟩)
    · cases e : fnd N (wdA T p) with
      | some i => rw [e] at q1; exact absurd rfl q1
      | none =>
        rw [ok_cb]
        refine ok_mono (fails_ok (k := 2) hA) (fun r hr => ?_)
        rw [hr.1, ok_ite]
        exact ⟨fun q => (by cases q), fun _ => ok_some.mpr (Or.inl ⟨rfl, fi_tr f6 hr.2.2, 2, p, hr.2.1, by unfold spKn; rw [if_pos qn, e]⟩)⟩
end MT
