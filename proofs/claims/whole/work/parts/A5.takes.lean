/-! the class's small readers, with what goes on behind them -/
def NmC (k o : Nat) (N : List (List Nat)) (M : mm) : Prop := (∀ i w, N[i]? = some w → M.2.1 k o i = lN (pv 32 w)) ∧ ∀ w, w ∈ N → WdOk w
theorem NmC_c {k o : Nat} {N : List (List Nat)} {M M' : mm} {P : Nat → Nat → Nat → Prop} (h : NmC k o N M) (f : fi P M M') (hP : ∀ i, ¬ P k o i) : NmC k o N M' := ⟨fun i w hi => by rw [fi_L f (hP i)]; exact h.1 i w hi, h.2⟩
theorem fdW_t {N : List (List Nat)} {w : List Nat} {n : Nat} (h : fdW N w n = none) (hb : N.getD n [] = w) : ∀ k, fdW N w (n + 1 + k) = some n
  | 0 => by
    show fdW N w (n + 1) = _
    unfold fdW; rw [h]; dsimp only; rw [if_pos hb]
  | k + 1 => by
    show fdW N w (n + 1 + k + 1) = _
    unfold fdW; rw [fdW_t h hb k]
theorem fdW_f {N : List (List Nat)} {w : List Nat} {n : Nat} (h : fdW N w n = none) (hb : ¬ N.getD n [] = w) : fdW N w (n + 1) = none := by
  unfold fdW; rw [h]; dsimp only; rw [if_neg hb]
theorem fdW_lt {N : List (List Nat)} {w : List Nat} {i : Nat} : ∀ n, fdW N w n = some i → i < n ∧ N.getD i [] = w
  | 0, h => by cases h
  | n + 1, h => by
    unfold fdW at h
    cases e : fdW N w n with
    | some j =>
      rw [e] at h
      have h := Option.some.inj h
      obtain ⟨a, b⟩ := fdW_lt n e
      rw [← h]; exact ⟨by omega, b⟩
    | none =>
      rw [e] at h
      dsimp only at h
      split at h
      · rename_i q
        have h := Option.some.inj h
        rw [← h]; exact ⟨by omega, q⟩
      · cases h
theorem fnd_lt {N : List (List Nat)} {w : List Nat} {i : Nat} (h : fnd N w = some i) : i < N.length := (fdW_lt _ h).1
def fdI (N : List (List Nat)) (w : List Nat) : Int32 := match fnd N w with
  | some i => nI i
  | none => -1
theorem getDn {N : List (List Nat)} {i : Nat} (h : i < N.length) : N[i]? = some (N.getD i []) := by
  rw [List.getD_eq_getElem?_getD, List.getElem?_eq_getElem h]; rfl
theorem find20_ok {F : Nat} (hF : 1000 < F) {o : Nat} {N : List (List Nat)} {w : List Nat} {M : mm} (hN : NmC 20 o N M) (hl : N.length ≤ 6) (hw : WdOk w) : ok (m_X5_find_20 F o (nI N.length) (lN (pv 32 w)) M) (fun r => r = (fdI N w, M)) := by
  unfold m_X5_find_20
  rw [ok_bd]
  refine ok_mono (Q := fun r => (r = .inr () ∧ fnd N w = none) ∨ ∃ i, r = .inl (nI i) ∧ fnd N w = some i) ?_ (fun r hr => ?_)
  · refine ok_for N.length (fun i z => z = nI i ∧ fdW N w i = none) 0 (by omega) (by omega) ⟨rfl, rfl⟩ ?_
    rintro i z hi ⟨e1, e2⟩
    subst e1
    simp only [b_X5_find_20_1, b_X5_find_20_1c]
    have e6 : (6 : Int32) ≤ nI i ↔ 6 ≤ i := (nI_leI (by omega) (by omega) : nI 6 ≤ nI i ↔ 6 ≤ i)
    rw [ok_ite, nI_leI (by omega) (by omega)]
    refine ⟨fun q => ok_some.mpr (Or.inl ⟨rfl, by have : i = N.length := by omega
                                                  subst this; exact e2⟩), fun q => ?_⟩
    rw [ok_ite, e6]
    refine ⟨fun q2 => by omega, fun q2 => ?_⟩
    have hg := getDn (show i < N.length by omega)
    rw [ok_gi, nI_clamp (by omega), hN.1 i _ hg, ok_ite, lg_cmp_eq, pvN (by decide) (by decide) (hN.2 _ (List.mem_of_getElem? hg)) hw]
    refine ⟨vp_in_nI (by omega) (by decide), fun q3 => ok_some.mpr (Or.inr ⟨i, rfl, ?_⟩), fun q3 => ok_some.mpr ⟨by omega, nI_1 i, fdW_f e2 q3⟩⟩
    have := fdW_t e2 q3 (N.length - 1 - i)
    rw [show i + 1 + (N.length - 1 - i) = N.length by omega] at this; exact this
  · rcases hr with ⟨rfl, e⟩ | ⟨i, rfl, e⟩
    · exact ok_some.mpr (by unfold fdI; rw [e])
    · exact ok_some.mpr (by unfold fdI; rw [e])
theorem find24_ok {F : Nat} (hF : 1000 < F) {o : Nat} {N : List (List Nat)} {w : List Nat} {M : mm} (hN : NmC 24 o N M) (hl : N.length ≤ 10) (hw : WdOk w) : ok (m_X5_find_24 F o (nI N.length) (lN (pv 32 w)) M) (fun r => r = (fdI N w, M)) := by
  unfold m_X5_find_24
  rw [ok_bd]
  refine ok_mono (Q := fun r => (r = .inr () ∧ fnd N w = none) ∨ ∃ i, r = .inl (nI i) ∧ fnd N w = some i) ?_ (fun r hr => ?_)
  · refine ok_for N.length (fun i z => z = nI i ∧ fdW N w i = none) 0 (by omega) (by omega) ⟨rfl, rfl⟩ ?_
    rintro i z hi ⟨e1, e2⟩
    subst e1
    simp only [b_X5_find_24_1, b_X5_find_24_1c]
    have e6 : (10 : Int32) ≤ nI i ↔ 10 ≤ i := (nI_leI (by omega) (by omega) : nI 10 ≤ nI i ↔ 10 ≤ i)
    rw [ok_ite, nI_leI (by omega) (by omega)]
    refine ⟨fun q => ok_some.mpr (Or.inl ⟨rfl, by have : i = N.length := by omega
                                                  subst this; exact e2⟩), fun q => ?_⟩
    rw [ok_ite, e6]
    refine ⟨fun q2 => by omega, fun q2 => ?_⟩
    have hg := getDn (show i < N.length by omega)
    rw [ok_gi, nI_clamp (by omega), hN.1 i _ hg, ok_ite, lg_cmp_eq, pvN (by decide) (by decide) (hN.2 _ (List.mem_of_getElem? hg)) hw]
    refine ⟨vp_in_nI (by omega) (by decide), fun q3 => ok_some.mpr (Or.inr ⟨i, rfl, ?_⟩), fun q3 => ok_some.mpr ⟨by omega, nI_1 i, fdW_f e2 q3⟩⟩
    have := fdW_t e2 q3 (N.length - 1 - i)
    rw [show i + 1 + (N.length - 1 - i) = N.length by omega] at this; exact this
  · rcases hr with ⟨rfl, e⟩ | ⟨i, rfl, e⟩
    · exact ok_some.mpr (by unfold fdI; rw [e])
    · exact ok_some.mpr (by unfold fdI; rw [e])
theorem find30_ok {F : Nat} (hF : 1000 < F) {o : Nat} {N : List (List Nat)} {w : List Nat} {M : mm} (hN : NmC 30 o N M) (hl : N.length ≤ 10) (hw : WdOk w) : ok (m_X5_find_30 F o (nI N.length) (lN (pv 32 w)) M) (fun r => r = (fdI N w, M)) := by
  unfold m_X5_find_30
  rw [ok_bd]
  refine ok_mono (Q := fun r => (r = .inr () ∧ fnd N w = none) ∨ ∃ i, r = .inl (nI i) ∧ fnd N w = some i) ?_ (fun r hr => ?_)
  · refine ok_for N.length (fun i z => z = nI i ∧ fdW N w i = none) 0 (by omega) (by omega) ⟨rfl, rfl⟩ ?_
    rintro i z hi ⟨e1, e2⟩
    subst e1
    simp only [b_X5_find_30_1, b_X5_find_30_1c]
    have e6 : (10 : Int32) ≤ nI i ↔ 10 ≤ i := (nI_leI (by omega) (by omega) : nI 10 ≤ nI i ↔ 10 ≤ i)
    rw [ok_ite, nI_leI (by omega) (by omega)]
    refine ⟨fun q => ok_some.mpr (Or.inl ⟨rfl, by have : i = N.length := by omega
                                                  subst this; exact e2⟩), fun q => ?_⟩
    rw [ok_ite, e6]
    refine ⟨fun q2 => by omega, fun q2 => ?_⟩
    have hg := getDn (show i < N.length by omega)
    rw [ok_gi, nI_clamp (by omega), hN.1 i _ hg, ok_ite, lg_cmp_eq, pvN (by decide) (by decide) (hN.2 _ (List.mem_of_getElem? hg)) hw]
    refine ⟨vp_in_nI (by omega) (by decide), fun q3 => ok_some.mpr (Or.inr ⟨i, rfl, ?_⟩), fun q3 => ok_some.mpr ⟨by omega, nI_1 i, fdW_f e2 q3⟩⟩
    have := fdW_t e2 q3 (N.length - 1 - i)
    rw [show i + 1 + (N.length - 1 - i) = N.length by omega] at this; exact this
  · rcases hr with ⟨rfl, e⟩ | ⟨i, rfl, e⟩
    · exact ok_some.mpr (by unfold fdI; rw [e])
    · exact ok_some.mpr (by unfold fdI; rw [e])
theorem fdI_n {N : List (List Nat)} {w : List Nat} (hl : N.length ≤ 10) : (fdI N w = -1 ↔ fnd N w = none) ∧ ∀ i, fnd N w = some i → fdI N w = nI i := by
  unfold fdI
  cases e : fnd N w with
  | none => exact ⟨⟨fun _ => rfl, fun _ => rfl⟩, fun i q => by cases q⟩
  | some j =>
    refine ⟨⟨fun q => ?_, fun q => by cases q⟩, fun i q => by rw [Option.some.inj q]⟩
    have := fnd_lt e
    have h0 := nI_pos (n := j) (by omega)
    have q : nI j = -1 := q
    rw [q] at h0; exact absurd (by decide) h0
section TK
variable {F : Nat} {T : List Int32} {DC : dft → mm → Prop} {P : Nat → Nat → Nat → Prop} {M0 M : mm} {p : Nat}
theorem QR_bad (fr : fi P M0 M) (hP : ∀ k n i, PT6 k n i → P k n i) {k q : Nat} {r : Bool × mm} (h : r.1 = false ∧ r.2.1 6 0 4 = nI (k + 16 * tkB T q) ∧ TpR T r.2 ∧ fi PT6 M r.2) : QR T DC P M0 (.inl (k, q)) r :=
  ⟨fi_tr fr (fi_mono h.2.2.2 hP), h.1, h.2.1, h.2.2.1⟩
theorem tw_ok (hF : 2000 < F) (hP : ∀ k n i, PT6 k n i → P k n i) (h : AtC T p M) (fr : fi P M0 M) {i : Nat} (hi : i < 29) {f : Bool → mm → Option (Bool × mm)} {K : Nat → res} (h1 : ∀ M', AtC T (tkE T p) M' → fi PT6 M M' → ok (f true M') (QR T DC P M0 (K (tkE T p)))) (h2 : ∀ M', f false M' = some (false, M')) :
    ok (cb (m_X5_takeWord F (nI i) M) f) (QR T DC P M0 (spWord T i p K)) := by
  rw [ok_cb]
  unfold m_X5_takeWord spWord
  rw [ok_cb]
  refine ok_mono (isWord_ok h hi) (fun r hr => ?_)
  subst hr
  dsimp only
  rw [ok_ite]
  refine ⟨fun q => ?_, fun q => ?_⟩
  · rw [if_pos q, ok_cv]
    exact ok_mono (AtC_next hF h) (fun M' hM' => ok_some.mpr (h1 M' hM'.1 (fi_mono hM'.2 (fun k n i q => Or.inl q))))
  · rw [if_neg q, ok_cb]
    refine ok_mono (wrong_ok (k := 1) h) (fun r hr => ok_some.mpr ?_)
    dsimp only
    rw [hr.1, h2]
    exact ok_some.mpr (QR_bad fr hP (r := (false, r.2)) ⟨rfl, hr.2⟩)
theorem te_ok (hF : 2000 < F) (hP : ∀ k n i, PT6 k n i → P k n i) (h : AtC T p M) (fr : fi P M0 M) {f : Bool → mm → Option (Bool × mm)} {K : Nat → res} (h1 : ∀ M', AtC T (tkE T p) M' → fi P7 M M' → ok (f true M') (QR T DC P M0 (K (tkE T p)))) (h2 : ∀ M', f false M' = some (false, M')) :
    ok (cb (m_X5_takeEnd F M) f) (QR T DC P M0 (spEnd T p K)) := by
  rw [ok_cb]
  unfold m_X5_takeEnd spEnd
  rw [ok_cb]
  refine ok_mono (isSign_ok h) (fun r hr => ?_)
  subst hr
  dsimp only
  rw [ok_ite]
  refine ⟨fun q => ?_, fun q => ?_⟩
  · rw [if_pos q, ok_cv]
    exact ok_mono (AtC_next hF h) (fun M' hM' => ok_some.mpr (h1 M' hM'.1 hM'.2))
  · rw [if_neg q, ok_cb]
    refine ok_mono (wrong_ok (k := 1) h) (fun r hr => ok_some.mpr ?_)
    dsimp only
    rw [hr.1, h2]
    exact ok_some.mpr (QR_bad fr hP (r := (false, r.2)) ⟨rfl, hr.2⟩)
theorem tn_ok (hF : 2000 < F) (hP : ∀ k n i, PT6 k n i → P k n i) (h : AtC T p M) (fr : fi P M0 M) {lo hi : Int32} {f : Bool → mm → Option (Bool × mm)} {K : Int32 → Nat → res} (h1 : lo ≤ (tkA T p).2.2 → (tkA T p).2.2 ≤ hi → ∀ M', AtC T (tkE T p) M' → fi PT6 M M' → M'.1 6 0 5 = (tkA T p).2.2 → ok (f true M') (QR T DC P M0 (K (tkA T p).2.2 (tkE T p)))) (h2 : ∀ M', f false M' = some (false, M')) :
    ok (cb (m_X5_takeNumber F lo hi M) f) (QR T DC P M0 (spNum T lo hi p K)) := by
  rw [ok_cb]
  unfold m_X5_takeNumber spNum
  have e3 : nI (tkA T p).1 = (3 : Int32) ↔ (tkA T p).1 = 3 := kd_eq T p (k := 3) (by decide)
  rw [ok_ite, h.2.2.2.2.1, e3]
  refine ⟨fun q => ?_, fun q => ?_⟩
  · rw [if_pos q, ok_nm, h.2.2.2.2.2.2.2 (Or.inl q)]
    have f1 : fi (fun k _ i => k = 6 ∧ i = 5) M (sI M 6 0 5 (tkA T p).2.2) := fi_sI fi_rf ⟨rfl, rfl⟩
    have v5 : (sI M 6 0 5 (tkA T p).2.2).1 6 0 5 = (tkA T p).2.2 := by rw [rII, if_pos ⟨rfl, rfl, rfl⟩]
    generalize sI M 6 0 5 (tkA T p).2.2 = M1 at f1 v5 ⊢
    have f6 : fi PT6 M M1 := fi_mono f1 (fun k n i q => Or.inr (by omega))
    have hA := AtC_6 h f1 (fun k n i q => by omega)
    refine ok_jn (P := ¬ (lo ≤ (tkA T p).2.2 ∧ (tkA T p).2.2 ≤ hi)) (fun hn => ?_) (fun k hk => ?_)
    · rw [if_neg hn]
      show ok (cb (m_X5_wrong F (4 : Int32) M1) _) _
      rw [ok_cb]
      refine ok_mono (wrong_ok (k := 4) hA) (fun r hr => ok_some.mpr ?_)
      dsimp only
      rw [hr.1, h2]
      exact ok_some.mpr (QR_bad (fi_tr fr (fi_mono f6 hP)) hP (r := (false, r.2)) ⟨rfl, hr.2⟩)
    · rw [ok_ite, v5]
      refine ⟨fun q2 => hk (fun q3 => by simp only [i_lt, i_le] at q2 q3; omega), fun q2 => ?_⟩
      rw [ok_ite]
      refine ⟨fun q3 => ?_, fun q3 => hk (fun q4 => q3 q4.2)⟩
      have yl : lo ≤ (tkA T p).2.2 := by simp only [i_lt, i_le] at q2 ⊢; omega
      rw [if_pos ⟨yl, q3⟩, ok_cv]
      refine ok_mono (AtC_next hF hA) (fun M' hM' => ok_some.mpr (h1 yl q3 M' hM'.1 (fi_tr f6 (fi_mono hM'.2 (fun k n i q => Or.inl q))) ?_))
      rw [fi_I hM'.2 (by unfold P7; omega)]; exact v5
  · rw [if_neg q, ok_cb]
    refine ok_mono (wrong_ok (k := 1) h) (fun r hr => ok_some.mpr ?_)
    dsimp only
    rw [hr.1, h2]
    exact ok_some.mpr (QR_bad fr hP (r := (false, r.2)) ⟨rfl, hr.2⟩)
theorem wdA_ok (h : AtC T p M) (hn : isNm T p = true) : WdOk (wdA T p) ∧ M.2.1 7 0 8 = lN (pv 32 (wdA T p)) := by
  unfold isNm at hn
  rw [decide_eq_true_iff] at hn
  exact ⟨(tk_word h.1 hn.1).1, h.2.2.2.2.2.2.1 hn.1⟩
end TK
