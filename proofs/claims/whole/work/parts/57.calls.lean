/-! undo, breaks, forgive, raise, years -/
def PX (o : Nat) : Nat → Nat → Nat → Prop := fun k n i => PE o 7 k n ∨ (k = 5 ∧ n = 8) ∨ PR k n i
theorem RC_deed {A : sty} {N : Nat} {M M' : mm} {o d : Nat} {mo' : mty} {U' : List mty} (hod : (o = 0 ∧ d = 1) ∨ (o = 1 ∧ d = 0)) (h2 : M.2.2 12 0 6 = o) (h3 : M.2.2 12 0 7 = d) (h4 : RCs A M) (h6 : WhI (aC A) o N M) (f : fi (PX o) M M') (h5 : CS (aC A) o M') (hm : MoM 7 M' mo') (hU : UnC M' U') : RC (sMo A mo' U') (N + 1) M' := by
  obtain ⟨m, u, k, t1, t2, t3⟩ := h4
  have e : ∀ k n i, ¬ PX o k n i → M'.1 k n i = M.1 k n i := fun k n i q => fi_I f q
  refine ⟨o, d, hod, by rw [f.1]; exact h2, by rw [f.1]; exact h3, ⟨hm, hU, MkC_c k (e 12 0 17 (by unfold PX PE PW PR; omega)) (fun n j _ _ => e 5 n j (by unfold PX PE PW PR; omega)) (fun k n j _ _ _ => e k n j (by unfold PX PE PW PR; omega)), ToL_c t1 (fun k j hk => e k 0 j (by unfold PX PE PW PR; omega)), ToH_c t2 (fun j => e 9 0 j (by unfold PX PE PW PR; omega)), TpC_c t3 (e 7 0 2 (by unfold PX PE PW PR; omega)) (fun j => e 40 0 j (by unfold PX PE PW PR; omega))⟩, h5, WhI_up (WhI_fi h6 f (fun k n i q => by unfold PX PE PW PR at q; omega))⟩
theorem PX_C {o : Nat} (ho : o ≤ 1) {M M' : mm} (f : fi (PX o) M M') : FrC M M' := FrC_fi f (fun k n i q => by unfold PX PE PW PR at q; omega)
def PY : Nat → Nat → Nat → Prop := fun k n i => PT k n i ∨ PF k n ∨ k = 103 ∨ (k = 13 ∧ (i = 54 ∨ i = 57))
theorem RM_deed {A : sty} {M M' : mm} {mo' : mty} {U' : List mty} (h : RM A M) (f : fi PY M M') (hm : RMo (aC A) mo' M') (hU : UnM M' U') : RM (sMo A mo' U') M' := by
  obtain ⟨s, u, k, l, e, t⟩ := h.2
  have ee : ∀ k i, ¬ PY k 0 i → M'.1 k 0 i = M.1 k 0 i := fun k i q => fi_I f q
  refine ⟨hm, ⟨by rw [ee 64 4 (by unfold PY PT PF; omega)]; exact s.1, by rw [ee 64 5 (by unfold PY PT PF; omega)]; exact s.2⟩, hU, fun q hq => ⟨by rw [ee 104 q (by unfold PY PT PF; omega)]; exact (k q hq).1, fun v hv => ?_⟩, LiM_c l (fun k j hk => ee k j (by unfold PY PT PF; omega)), HeM_c e (fun k j hk => ee k j (by unfold PY PT PF; omega)), ⟨by rw [ee 13 1 (by unfold PY PT PF; omega)]; exact t.1, fun i x hx => by rw [ee 63 i (by unfold PY PT PF; omega)]; exact t.2 i x hx⟩⟩
  obtain ⟨a1, a2, a3⟩ := (k q hq).2 v hv
  exact ⟨RwM_c a1 (fun j => ee 102 j (by unfold PY PT PF; omega)), LiM_c a2 (fun k j hk => ee k j (by unfold PY PT PF; omega)), HeM_c a3 (fun k j hk => ee k j (by unfold PY PT PF; omega))⟩
theorem PY_M {M M' : mm} (f : fi PY M M') : FrM M M' := FrM_fi f (fun k n i q => by unfold PY PT PF at q; omega)
theorem UnM_fi {M M' : mm} {U : List mty} {P : Nat → Nat → Nat → Prop} (h : UnM M U) (f : fi P M M') (hP : ∀ k n i, P k n i → k ≠ 103 ∧ ¬ (k = 13 ∧ i = 54)) : UnM M' U :=
  ⟨(fi_I f (fun q => by have := hP _ _ _ q; omega)).trans h.1, fun i u hu => RwM_c (h.2 i u hu) (fun j => fi_I f (fun q => by have := hP _ _ _ q; omega))⟩
theorem sMo_id (A : sty) : sMo A (aM A) (aU A) = A := rfl
theorem AOK_mo {A : sty} {N : Nat} {mo' : mty} {U' : List mty} (hA : AOK A N) (hm : MG (aC A) mo' (100 * (N + 1)) ∧ MS (aC A) mo') (hl : U'.length ≤ 16) (hU : ∀ u, u ∈ U' → u ∈ aU A ∨ u = aM A) : AOK (sMo A mo' U') (N + 1) := by
  obtain ⟨h1, h2, h3, h4⟩ := AOK_up hA
  refine ⟨h1, hm, ⟨hl, fun u hu => ?_⟩, h4⟩
  rcases hU u hu with q | q
  · exact h3.2 u q
  · subst q; exact h2
noncomputable def undoS (A : sty) : Bool × sty := match (aU A).getLast? with | none => (false, A) | some u => (true, sMo A u (aU A).dropLast)
theorem undo_g {A : sty} {N : Nat} (hA : AOK A N) : AOK (undoS A).2 (N + 1) := by
  unfold undoS
  cases e : (aU A).getLast? with
  | none => exact AOK_up hA
  | some u =>
    have hu : u ∈ aU A := List.mem_of_getLast? e
    obtain ⟨h1, h2, h3, h4⟩ := AOK_up hA
    exact AOK_mo hA (h3.2 u hu) (by rw [List.length_dropLast]; omega) (fun v hv => Or.inl (List.dropLast_subset _ hv))
theorem last_get {α : Type} {l : List α} {u : α} (h : l.getLast? = some u) : l[l.length - 1]? = some u := by rw [← List.getLast?_eq_getElem?]; exact h
theorem drop_get {α : Type} {l : List α} {u : α} {i : Nat} (h : l.dropLast[i]? = some u) : i < l.length - 1 ∧ l[i]? = some u := by
  have hi := (List.getElem?_eq_some_iff.mp h).1
  rw [List.length_dropLast] at hi
  rw [List.getElem?_dropLast, if_pos hi] at h
  exact ⟨hi, h⟩
theorem undoC {F : Nat} {A : sty} {N : Nat} {M : mm} (hA : AOK A N) (h : RC A N M) : ok (m_X11_undo F M) (QC (undoS A).2 N M (undoS A).1) := by
  obtain ⟨o, d, hod, h2, h3, h4, h5, h6⟩ := id h
  obtain ⟨m, ⟨h14, f, hf, h13, hU⟩, k, t1, t2, t3⟩ := id h4
  have hl := hA.2.2.1.1
  unfold m_X11_undo
  rw [h14, ok_ite]
  have n0 : (0 : Int32) < nI (aU A).length ↔ 0 < (aU A).length := nI_lit_lt (by decide) (by omega)
  rw [n0]
  refine ⟨fun q => ?_, fun q => ok_some.mpr ?_⟩
  · obtain ⟨u, hu⟩ : ∃ u, (aU A).getLast? = some u := ⟨_, List.getLast?_eq_some_getLast (List.length_pos_iff.mp q)⟩
    have hs : undoS A = (true, sMo A u (aU A).dropLast) := by unfold undoS; rw [hu]
    rw [hs, ok_nm]
    have e1 : nI (aU A).length - (1 : Int32) = nI ((aU A).length - 1) := pk_sub (b := 1) q
    have f1 : fi (PX o) M (sI M 12 0 14 (nI ((aU A).length - 1))) := fi_sI fi_rf (Or.inr (Or.inr (Or.inl ⟨rfl, Or.inr rfl⟩)))
    have c13 : (sI M 12 0 14 (nI ((aU A).length - 1))).1 12 0 13 = nI f := by rw [rII, if_neg (by omega)]; exact h13
    have c14 : (sI M 12 0 14 (nI ((aU A).length - 1))).1 12 0 14 = nI ((aU A).length - 1) := by rw [rII, if_pos ⟨rfl, rfl, rfl⟩]
    rw [e1, c13, c14, nI_add, rem16 (by omega), ok_gi]
    refine ⟨vp_in_nI (by omega) (by decide), ?_⟩
    rw [ok_cv, nI_clamp (by omega)]
    have hmu := hU _ _ (last_get hu)
    refine ok_mono (copy_ok (MoM_c hmu (fun j _ => by rw [rII, if_neg (by omega)])) (by omega)) (fun M2 hM2 => ok_some.mpr ?_)
    obtain ⟨r1, r2⟩ := hM2
    have f2 : fi (PX o) M M2 := fi_tr f1 (fi_fr r2 (fun k n i q => Or.inl (Or.inr q)))
    have fcs : fi (fun k _ _ => k = 12 ∨ k = 5) M M2 := fi_tr (fi_sI fi_rf (Or.inl rfl)) (fi_fr r2 (fun k n i q => Or.inr q.1))
    refine ⟨rfl, RC_deed hod h2 h3 h4 h6 f2 (CS_fi h5 fcs (fun k n i q => by omega)) r1 ⟨?_, f, hf, ?_, fun i v hv => ?_⟩, PX_C (by omega) f2⟩
    · rw [fr_I r2 (by omega), List.length_dropLast]; exact c14
    · rw [fr_I r2 (by omega)]; exact c13
    · exact MoM_c (hU i v (drop_get hv).2) (fun j _ => by rw [fr_I r2 (by omega), rII, if_neg (by omega)])
  · have : aU A = [] := List.length_eq_zero_iff.mp (by omega)
    have hs : undoS A = (false, A) := by unfold undoS; rw [this]; rfl
    rw [hs]; exact QC_same h
theorem undoM {F : Nat} (hF : 1000 < F) {A : sty} {N : Nat} {M : mm} (hA : AOK A N) (h : RM A M) : ok (m_X12_undo F M) (QM (undoS A).2 M (undoS A).1) := by
  have hl := hA.2.2.1.1
  have h1 : RM A (sI M 13 0 0 0) := RM_fi h thr_f PT_GM
  have q1 : QM A M false (false, sI M 13 0 0 0) := QM_fi h thr_f (fun k n i q => ⟨PT_GM k n i q, by unfold PT at q; omega⟩)
  have f1 := thr_f (M := M) (v := 0)
  unfold m_X12_undo
  rw [ok_nm]
  generalize sI M 13 0 0 0 = M1 at h1 q1 f1 ⊢
  obtain ⟨s, u, k, l, e, t⟩ := h1.2
  rw [u.1, ok_ite]
  refine ⟨fun q => ok_some.mpr ?_, fun q => ?_⟩
  · have : aU A = [] := List.length_eq_zero_iff.mp ((nI_eq (b := 0) (by omega) (by decide)).mp q)
    have hs : undoS A = (false, A) := by unfold undoS; rw [this]; rfl
    rw [hs]; exact q1
  · have hp : 0 < (aU A).length := by
      rcases Nat.eq_zero_or_pos (aU A).length with q2 | q2
      · rw [q2] at q; exact absurd rfl q
      · exact q2
    obtain ⟨v, hv⟩ : ∃ u, (aU A).getLast? = some u := ⟨_, List.getLast?_eq_some_getLast (List.length_pos_iff.mp hp)⟩
    have hs : undoS A = (true, sMo A v (aU A).dropLast) := by unfold undoS; rw [hv]
    have e1 : nI (aU A).length - (1 : Int32) = nI ((aU A).length - 1) := pk_sub (b := 1) hp
    rw [hs, ok_nm, ok_cv, e1]
    have c54 : (sI M1 13 0 54 (nI ((aU A).length - 1))).1 13 0 54 = nI ((aU A).length - 1) := by rw [rII, if_pos ⟨rfl, rfl, rfl⟩]
    have e4 : (4 : Int32) * nI ((aU A).length - 1) = nI (4 * ((aU A).length - 1)) := by show nI 4 * _ = _; rw [pk_mul]
    rw [c54, e4]
    refine ok_mono (copies_103_100_ok hF (a := 4 * ((aU A).length - 1)) (b := 0) (mo := v) (by omega) (by omega) (RwM_c (u.2 _ _ (last_get hv)) (fun j => by rw [rII, if_neg (by omega)]))) (fun M2 hM2 => ok_some.mpr ?_)
    obtain ⟨r1, r2⟩ := hM2
    have f2 : fi (fun k n i => k = 100 ∨ (k = 13 ∧ i = 54)) M1 M2 := fi_tr (fi_sI fi_rf (Or.inr ⟨rfl, rfl⟩)) (fi_mono r2 (fun k n i q => Or.inl q.1))
    have f3 : fi PY M M2 := fi_tr (fi_mono f1 (fun k n i q => Or.inl q)) (fi_mono f2 (fun k n i q => by unfold PY PF; omega))
    have hm : RMo (aC A) v M2 := by
      refine ⟨MV_fr h1.1.1 (fr_fi f2) (fun k h1 h2 q => by obtain ⟨i, q⟩ := q; omega), ?_, r1⟩
      have := h1.1.2.1
      unfold B0 at this ⊢
      rw [fi_I f2 (by omega)]; exact this
    refine ⟨rfl, RM_deed h f3 hm ⟨?_, fun i w hw => ?_⟩, PY_M f3⟩
    · rw [fi_I r2 (by omega), List.length_dropLast]; exact c54
    · exact RwM_c (u.2 i w (drop_get hw).2) (fun j => fi_I f2 (by omega))
/-- a deed that may fail, with what it answers -/
noncomputable def deedS {α : Type} (A : sty) (e : Option mty) (no : α) (yes : mty → α) : α × sty := match e with | none => (no, A) | some mo => (yes mo, sMo A mo (pushU (aU A) (aM A)))
theorem deed_g {α : Type} {A : sty} {N : Nat} {e : Option mty} {no : α} {yes : mty → α} (hA : AOK A N) (he : ∀ mo, e = some mo → MG (aC A) mo (100 * (N + 1)) ∧ MS (aC A) mo) : AOK (deedS A e no yes).2 (N + 1) := by
  cases e with
  | none => exact AOK_up hA
  | some mo => exact AOK_mo hA (he mo rfl) (pushU_len hA.2.2.1.1) (fun u hu => pushU_mem hu)
theorem deedC {F : Nat} {A : sty} {N : Nat} {M M1 : mm} {o d : Nat} {e : Option mty} {α : Type} {no : α} {yes : mty → α} {ans : mm → α} {r : Bool × mm} (hA : AOK A N) (hod : (o = 0 ∧ d = 1) ∨ (o = 1 ∧ d = 0)) (h2 : M.2.2 12 0 6 = o) (h3 : M.2.2 12 0 7 = d) (h4 : RCs A M) (h6 : WhI (aC A) o N M) (c1 : MoM 8 M1 (aM A)) (c2 : fr (fun k n => k = 5 ∧ n = 8) M M1) (hr : DP (aC A) o 7 M1 (aM A) e r) (hans : ∀ mo M', e = some mo → MoM 7 M' mo → MoM 8 M' (aM A) → ans M' = yes mo) :
    ok (if r.1 = true then cv (m_X11_remember F r.2) fun M4 => some (ans M4, M4) else some (no, r.2)) (QC (deedS A e no yes).2 N M (deedS A e no yes).1) := by
  obtain ⟨r1, r2, r3, r4⟩ := hr
  obtain ⟨m, u, k, t1, t2, t3⟩ := id h4
  have f2 : fi (PX o) M r.2 := fi_tr (fi_fr c2 (fun k n i q => Or.inr (Or.inl q))) (fi_fr r4 (fun k n i q => Or.inl q))
  have c8 : MoM 8 r.2 (aM A) := MoM_fr c1 r4 (by unfold PE PW; omega)
  have u2 : UnC r.2 (aU A) := UnC_c u (fun j hj => by rw [fr_I r4 (by unfold PE PW; omega), fr_I c2 (by omega)]) (fun n j _ _ => by rw [fr_I r4 (by unfold PE PW; omega), fr_I c2 (by omega)])
  cases e with
  | none =>
    rw [if_neg (by rw [r1]; decide), ok_some]
    exact ⟨rfl, (RC_deed hod h2 h3 h4 h6 f2 r2 r3 u2 : RC (sMo A (aM A) (aU A)) (N + 1) r.2), PX_C (by omega) f2⟩
  | some mo =>
    rw [if_pos (by rw [r1]; rfl), ok_cv]
    refine ok_mono (remember_ok hA.2.2.1.1 u2 c8) (fun M4 hM4 => ok_some.mpr ?_)
    obtain ⟨g1, g2⟩ := hM4
    have f3 : fi (PX o) M M4 := fi_tr f2 (fi_mono g2 (fun k n i q => Or.inr (Or.inr q)))
    have m7 : MoM 7 M4 mo := MoM_c r3 (fun j _ => fi_I g2 (by unfold PR; omega))
    have m8 : MoM 8 M4 (aM A) := MoM_c c8 (fun j _ => fi_I g2 (by unfold PR; omega))
    exact ⟨hans mo M4 rfl m7 m8, RC_deed hod h2 h3 h4 h6 f3 (CS_fi r2 g2 (fun k n i q => by unfold PR at q; omega)) m7 g1, PX_C (by omega) f3⟩
noncomputable def breaksS (A : sty) (x : Int32) : Int32 × sty := deedS A (crackS (aC A) (aM A) x) (-1) (fun mo => (aM A).2.2.2 &&& (mo.2.2.2 ^^^ (-1)))
noncomputable def forgiveS (A : sty) (x : Int32) : Bool × sty := deedS A (pardonS (aC A) (aM A) x) false (fun _ => true)
noncomputable def raiseS (A : sty) (x : Int32) : Bool × sty := deedS A (liftS (aC A) (aM A) x) false (fun _ => true)
theorem breaksC {F : Nat} (hF : 2000 < F) {A : sty} {N : Nat} (hN : N ≤ 1000) {M : mm} {x : Int32} (hA : AOK A N) (h : RC A N M) : ok (m_X11_breaks F x M) (QC (breaksS A x).2 N M (breaksS A x).1) := by
  obtain ⟨o, d, hod, h2, h3, h4, h5, h6⟩ := id h
  unfold m_X11_breaks
  rw [ok_cv]
  refine ok_mono (copy_ok h4.1 (by omega)) (fun M1 hM1 => ?_)
  obtain ⟨c1, c2⟩ := hM1
  have e6 : M1.2.2 12 0 6 = o := by rw [c2.1]; exact h2
  rw [ok_cb, e6]
  refine ok_mono (crack_ok hF (Y := 100 * N) (by omega) hA.1 (CS_fi h5 (fi_fr c2 (fun k n i q => (q : (fun (k n i : Nat) => k = 5 ∧ n = 8) k n i))) (fun k n i q => by omega)) (MoM_fr h4.1 c2 (by omega)) hA.2.1.1 (x := x)) (fun r hr => ?_)
  exact deedC (ans := fun M4 => (M4.1 5 8 3) &&& ((M4.1 5 7 3) ^^^ (-1))) hA hod h2 h3 h4 h6 c1 c2 hr (fun mo M' _ m7 m8 => by rw [m7.2.2.2, m8.2.2.2])
theorem forgiveC {F : Nat} (hF : 2000 < F) {A : sty} {N : Nat} (hN : N ≤ 1000) {M : mm} {x : Int32} (hA : AOK A N) (h : RC A N M) : ok (m_X11_forgive F x M) (QC (forgiveS A x).2 N M (forgiveS A x).1) := by
  obtain ⟨o, d, hod, h2, h3, h4, h5, h6⟩ := id h
  unfold m_X11_forgive
  rw [ok_cv]
  refine ok_mono (copy_ok h4.1 (by omega)) (fun M1 hM1 => ?_)
  obtain ⟨c1, c2⟩ := hM1
  have e6 : M1.2.2 12 0 6 = o := by rw [c2.1]; exact h2
  rw [ok_cb, e6]
  refine ok_mono (pardon_ok hF (Y := 100 * N) (by omega) hA.1 (CS_fi h5 (fi_fr c2 (fun k n i q => (q : (fun (k n i : Nat) => k = 5 ∧ n = 8) k n i))) (fun k n i q => by omega)) (MoM_fr h4.1 c2 (by omega)) hA.2.1.1 (x := x)) (fun r hr => ?_)
  exact deedC (ans := fun _ => true) hA hod h2 h3 h4 h6 c1 c2 hr (fun mo M' _ m7 m8 => rfl)
theorem raiseC {F : Nat} (hF : 2000 < F) {A : sty} {N : Nat} (hN : N ≤ 1000) {M : mm} {x : Int32} (hA : AOK A N) (h : RC A N M) : ok (m_X11_raise F x M) (QC (raiseS A x).2 N M (raiseS A x).1) := by
  obtain ⟨o, d, hod, h2, h3, h4, h5, h6⟩ := id h
  unfold m_X11_raise
  rw [ok_cv]
  refine ok_mono (copy_ok h4.1 (by omega)) (fun M1 hM1 => ?_)
  obtain ⟨c1, c2⟩ := hM1
  have e6 : M1.2.2 12 0 6 = o := by rw [c2.1]; exact h2
  rw [ok_cb, e6]
  refine ok_mono (lift_ok hF (Y := 100 * N) (by omega) hA.1 (CS_fi h5 (fi_fr c2 (fun k n i q => (q : (fun (k n i : Nat) => k = 5 ∧ n = 8) k n i))) (fun k n i q => by omega)) (MoM_fr h4.1 c2 (by omega)) hA.2.1.1 (x := x)) (fun r hr => ?_)
  exact deedC (ans := fun _ => true) hA hod h2 h3 h4 h6 c1 c2 hr (fun mo M' _ m7 m8 => rfl)
