/-! judged -/
noncomputable def jdS (C : cty) (s : mty × Int32 × Int32) (n : Nat) (e : Int32 × Int32) : mty × Int32 × Int32 :=
  ((doesS C s.1 e.1 e.2).getD s.1, (if (doesS C s.1 e.1 e.2).isSome = true then s.2.1 else if s.2.1 = -1 then nI n else s.2.1), (if s.1.2.2.2 &&& (((doesS C s.1 e.1 e.2).getD s.1).2.2.2 ^^^ (-1)) = 0 then s.2.2 else if s.2.2 = -1 then nI n else s.2.2))
noncomputable def jdN (C : cty) (L : lty) : Nat → mty × Int32 × Int32
  | 0 => (beginS C, -1, -1)
  | n + 1 => match L[n]? with
    | none => jdN C L n
    | some e => jdS C (jdN C L n) n e
theorem jdN_s {C : cty} {L : lty} {n : Nat} {e : Int32 × Int32} (h : L[n]? = some e) : jdN C L (n + 1) = jdS C (jdN C L n) n e := by
  show (match L[n]? with | none => jdN C L n | some e => jdS C (jdN C L n) n e) = _
  rw [h]
theorem doesD_g {C : cty} {mo : mty} {d x : Int32} {Y : Nat} (hw : WF C) (h : MG C mo Y) (hs : MS C mo) : MG C ((doesS C mo d x).getD mo) (Y + 1) ∧ MS C ((doesS C mo d x).getD mo) := by
  cases e : doesS C mo d x with
  | none => exact ⟨MG_up h (by omega), hs⟩
  | some m => exact doesS_g hw h e
theorem jd_g {C : cty} {L : lty} (hw : WF C) : ∀ n, MG C (jdN C L n).1 n ∧ MS C (jdN C L n).1
  | 0 => beginS_g hw
  | n + 1 => by
    obtain ⟨h1, h2⟩ := jd_g (L := L) hw n
    cases e : L[n]? with
    | none =>
      have : jdN C L (n + 1) = jdN C L n := by
        show (match L[n]? with | none => jdN C L n | some e => jdS C (jdN C L n) n e) = _
        rw [e]
      rw [this]; exact ⟨MG_up h1 (by omega), h2⟩
    | some v => rw [jdN_s e]; exact doesD_g hw h1 h2
theorem jd_v {C : cty} {L : lty} : ∀ n, n ≤ 1000 → ((jdN C L n).2.1 = -1 ∨ 0 ≤ (jdN C L n).2.1) ∧ ((jdN C L n).2.2 = -1 ∨ 0 ≤ (jdN C L n).2.2)
  | 0, _ => ⟨Or.inl rfl, Or.inl rfl⟩
  | n + 1, hn => by
    obtain ⟨h1, h2⟩ := jd_v (C := C) (L := L) n (by omega)
    have e0 : (0 : Int32) ≤ nI n := (nI_leI (by omega) (by omega) : nI 0 ≤ nI n ↔ 0 ≤ n).mpr (Nat.zero_le _)
    cases e : L[n]? with
    | none =>
      have : jdN C L (n + 1) = jdN C L n := by
        show (match L[n]? with | none => jdN C L n | some e => jdS C (jdN C L n) n e) = _
        rw [e]
      rw [this]; exact ⟨h1, h2⟩
    | some v =>
      rw [jdN_s e]
      unfold jdS
      refine ⟨?_, ?_⟩
      · dsimp only
        split
        · exact h1
        · split
          · exact Or.inr e0
          · exact h1
      · dsimp only
        split
        · exact h2
        · split
          · exact Or.inr e0
          · exact h2
theorem doesS_3 {C : cty} {mo : mty} {d x x' : Int32} (h : d ≠ 3 → x = x') : doesS C mo d x = doesS C mo d x' := by
  by_cases e : d = 3
  · have e0 : ¬ d = 0 := fun q => by rw [q] at e; exact absurd e (by decide)
    have e1 : ¬ d = 1 := fun q => by rw [q] at e; exact absurd e (by decide)
    have e2 : ¬ d = 2 := fun q => by rw [q] at e; exact absurd e (by decide)
    unfold doesS
    rw [if_neg e0, if_neg e1, if_neg e2, if_neg e0, if_neg e1, if_neg e2]
  · rw [h e]
noncomputable def judgedS (A : sty) (a : Int32) : Int32 := if 0 ≤ a ∧ a ≤ 2 then (if a = 0 then (jdN (aC A) (aL A) (aL A).length).2.1 else if a = 1 then (jdN (aC A) (aL A) (aL A).length).2.2 else (jdN (aC A) (aL A) (aL A).length).1.2.2.2) else -2
def PJ (o : Nat) : Nat → Nat → Nat → Prop := fun k n i => PE o 2 k n ∨ (k = 8 ∧ 6 ≤ i ∧ i ≤ 8)
theorem judge_ok {F : Nat} (hF : 2000 < F) {o : Nat} {C : cty} {M : mm} {L : lty} (hw : WF C) (h : CS C o M) (hL : ToL 0 M L) (hl : L.length ≤ 40) :
    ok (m_X7_judge F o 0 M) (fun M' => CS C o M' ∧ (M'.1 8 0 6 = (jdN C L L.length).2.1 ∧ M'.1 8 0 7 = (jdN C L L.length).2.2 ∧ M'.1 8 0 8 = (jdN C L L.length).1.2.2.2) ∧ fi (PJ o) M M') := by
  unfold m_X7_judge
  rw [ok_nm, ok_nm, ok_cv]
  have f2 : fi (fun k _ i => k = 8 ∧ 6 ≤ i ∧ i ≤ 8) M (sI (sI M 8 0 6 (-1)) 8 0 7 (-1)) := fi_sI (fi_sI fi_rf ⟨rfl, by decide, by decide⟩) ⟨rfl, by decide, by decide⟩
  have v6 : (sI (sI M 8 0 6 (-1)) 8 0 7 (-1)).1 8 0 6 = -1 := by rw [rII, if_neg (by omega), rII, if_pos ⟨rfl, rfl, rfl⟩]
  have v7 : (sI (sI M 8 0 6 (-1)) 8 0 7 (-1)).1 8 0 7 = -1 := by rw [rII, if_pos ⟨rfl, rfl, rfl⟩]
  generalize sI (sI M 8 0 6 (-1)) 8 0 7 (-1) = M2 at f2 v6 v7 ⊢
  have c2 : CS C o M2 := CS_fi h f2 (fun k n i q => by omega)
  refine ok_mono (begin_ok hF (i := 2) hw c2) (fun M3 h3 => ?_)
  obtain ⟨c3, m3, f3⟩ := h3
  have f3' : fi (PJ o) M M3 := fi_tr (fi_mono f2 (fun k n i q => Or.inr q)) (fi_fr f3 (fun k n i q => Or.inl q))
  rw [ok_bd]
  refine ok_mono (Q := fun M' => CS C o M' ∧ MoM 2 M' (jdN C L L.length).1 ∧ (M'.1 8 0 6 = (jdN C L L.length).2.1 ∧ M'.1 8 0 7 = (jdN C L L.length).2.2) ∧ fi (PJ o) M M') ?_ (fun M' hM' => ?_)
  · refine ok_for L.length (fun i z => z.1 = nI i ∧ CS C o z.2 ∧ MoM 2 z.2 (jdN C L i).1 ∧ (z.2.1 8 0 6 = (jdN C L i).2.1 ∧ z.2.1 8 0 7 = (jdN C L i).2.2) ∧ fi (PJ o) M z.2) 0 (by omega) (by omega) ⟨rfl, c3, m3, ⟨(fr_I f3 (by unfold PE PW; omega) 6).trans v6, (fr_I f3 (by unfold PE PW; omega) 7).trans v7⟩, f3'⟩ ?_
    rintro i ⟨x1, M5⟩ hi ⟨e1, c5, m5, ⟨v6, v7⟩, f5⟩
    dsimp only at e1 c5 m5 v6 v7 f5
    subst e1
    have eL : M5.1 9 0 0 = nI L.length := (fi_I f5 (by unfold PJ PE PW; omega)).trans hL.1
    simp only [b_X7_judge_1, b_X7_judge_1c]
    rw [eL, ok_ite, nI_leI (by omega) (by omega)]
    refine ⟨fun q => ok_some.mpr ?_, fun q => ?_⟩
    · have : i = L.length := by omega
      subst this
      exact ⟨c5, m5, ⟨v6, v7⟩, f5⟩
    have hi' : i < L.length := by omega
    obtain ⟨e, he⟩ : ∃ e, L[i]? = some e := ⟨L[i], List.getElem?_eq_getElem hi'⟩
    obtain ⟨t1, t2⟩ := hL.2 i e he
    have e45 : M5.1 45 0 i = e.1 := (fi_I f5 (by unfold PJ PE PW; omega)).trans t1
    have e46 : e.1 ≠ 3 → M5.1 46 0 i = e.2 := fun q => (fi_I f5 (by unfold PJ PE PW; omega)).trans (t2 q)
    have hin : vp_in (nI i) 40 := vp_in_nI (by omega) (by decide)
    rw [ok_nm, ok_gi, ok_gi, ok_cb, nI_clamp (by omega), e45]
    refine ⟨hin, hin, ?_⟩
    refine ok_mono (does_ok hF (Y := i) (by omega) hw c5 m5 (jd_g hw i).1) (fun r hr => ?_)
    obtain ⟨b8, M7⟩ := r
    obtain ⟨r1, r2, r3, r4⟩ := hr
    dsimp only at r1 r2 r3 r4 ⊢
    rw [doesS_3 e46] at r1 r3
    have f7 : fi (PJ o) M M7 := fi_tr f5 (fi_fr r4 (fun k n i q => Or.inl q))
    have a6 : M7.1 8 0 6 = (jdN C L i).2.1 := (fr_I r4 (by unfold PE PW; omega) 6).trans v6
    have a7 : M7.1 8 0 7 = (jdN C L i).2.2 := (fr_I r4 (by unfold PE PW; omega) 7).trans v7
    rw [m5.2.2.2, jdN_s he, ok_bd]
    refine ok_mono (Q := fun M10 => CS C o M10 ∧ MoM 2 M10 (jdS C (jdN C L i) i e).1 ∧ (M10.1 8 0 6 = (jdS C (jdN C L i) i e).2.1 ∧ M10.1 8 0 7 = (jdN C L i).2.2) ∧ fi (PJ o) M M10) ?_ (fun M10 h10 => ?_)
    · rw [ok_ite, r1]
      refine ⟨fun q2 => ok_some.mpr ⟨r2, r3, ⟨?_, a7⟩, f7⟩, fun q2 => ?_⟩
      · rw [a6]; unfold jdS; dsimp only; rw [if_pos q2]
      · rw [ok_ite, a6]
        refine ⟨fun q3 => ?_, fun q3 => ok_some.mpr ⟨r2, r3, ⟨?_, a7⟩, f7⟩⟩
        · rw [ok_nm, ok_some]
          have f9 : fi (fun k _ i => k = 8 ∧ 6 ≤ i ∧ i ≤ 8) M7 (sI M7 8 0 6 (nI i)) := fi_sI fi_rf ⟨rfl, by decide, by decide⟩
          refine ⟨CS_fi r2 f9 (fun k n i q => by omega), MoM_c r3 (fun j _ => fi_I f9 (by omega)), ⟨?_, ?_⟩, fi_tr f7 (fi_mono f9 (fun k n i q => Or.inr q))⟩
          · rw [rII, if_pos ⟨rfl, rfl, rfl⟩]; unfold jdS; dsimp only; rw [if_neg q2, if_pos q3]
          · rw [rII, if_neg (by omega)]; exact a7
        · rw [a6]; unfold jdS; dsimp only; rw [if_neg q2, if_neg q3]
    · obtain ⟨c10, m10, ⟨b6, b7⟩, f10⟩ := h10
      rw [ok_bd, m10.2.2.2]
      refine ok_mono (Q := fun M12 => CS C o M12 ∧ MoM 2 M12 (jdS C (jdN C L i) i e).1 ∧ (M12.1 8 0 6 = (jdS C (jdN C L i) i e).2.1 ∧ M12.1 8 0 7 = (jdS C (jdN C L i) i e).2.2) ∧ fi (PJ o) M M12) ?_ (fun M12 h12 => ok_some.mpr ⟨hi', nI_1 i, h12⟩)
      rw [ok_ite]
      refine ⟨fun q2 => ok_some.mpr ⟨c10, m10, ⟨b6, ?_⟩, f10⟩, fun q2 => ?_⟩
      · rw [b7]
        show _ = if (jdN C L i).1.2.2.2 &&& ((jdS C (jdN C L i) i e).1.2.2.2 ^^^ (-1)) = 0 then (jdN C L i).2.2 else if (jdN C L i).2.2 = -1 then nI i else (jdN C L i).2.2
        rw [if_pos q2]
      · rw [ok_ite, b7]
        refine ⟨fun q3 => ?_, fun q3 => ok_some.mpr ⟨c10, m10, ⟨b6, ?_⟩, f10⟩⟩
        · rw [ok_nm, ok_some]
          have f9 : fi (fun k _ i => k = 8 ∧ 6 ≤ i ∧ i ≤ 8) M10 (sI M10 8 0 7 (nI i)) := fi_sI fi_rf ⟨rfl, by decide, by decide⟩
          refine ⟨CS_fi c10 f9 (fun k n i q => by omega), MoM_c m10 (fun j _ => fi_I f9 (by omega)), ⟨?_, ?_⟩, fi_tr f10 (fi_mono f9 (fun k n i q => Or.inr q))⟩
          · rw [rII, if_neg (by omega)]; exact b6
          · rw [rII, if_pos ⟨rfl, rfl, rfl⟩]
            show _ = if (jdN C L i).1.2.2.2 &&& ((jdS C (jdN C L i) i e).1.2.2.2 ^^^ (-1)) = 0 then (jdN C L i).2.2 else if (jdN C L i).2.2 = -1 then nI i else (jdN C L i).2.2
            rw [if_neg q2, if_pos q3]
        · rw [b7]
          show _ = if (jdN C L i).1.2.2.2 &&& ((jdS C (jdN C L i) i e).1.2.2.2 ^^^ (-1)) = 0 then (jdN C L i).2.2 else if (jdN C L i).2.2 = -1 then nI i else (jdN C L i).2.2
          rw [if_neg q2, if_neg q3]
  · obtain ⟨c13, m13, ⟨b6, b7⟩, f13⟩ := hM'
    rw [ok_nm, ok_some, m13.2.2.2]
    have f14 : fi (fun k _ i => k = 8 ∧ 6 ≤ i ∧ i ≤ 8) M' (sI M' 8 0 8 (jdN C L L.length).1.2.2.2) := fi_sI fi_rf ⟨rfl, by decide, by decide⟩
    refine ⟨CS_fi c13 f14 (fun k n i q => by omega), ⟨?_, ?_, ?_⟩, fi_tr f13 (fi_mono f14 (fun k n i q => Or.inr q))⟩
    · rw [rII, if_neg (by omega)]; exact b6
    · rw [rII, if_neg (by omega)]; exact b7
    · rw [rII, if_pos ⟨rfl, rfl, rfl⟩]
theorem judgedC {F : Nat} (hF : 2000 < F) {A : sty} {N : Nat} {M : mm} {a : Int32} (hA : AOK A N) (h : RC A N M) : ok (m_X11_judged F a M) (QC A N M (judgedS A a)) := by
  obtain ⟨o, d, hod, h2, h3, h4, h5, h6⟩ := id h
  have z0 : (0 : Int32).toInt = 0 := rfl
  have z2 : (2 : Int32).toInt = 2 := rfl
  unfold m_X11_judged judgedS
  rw [ok_ite]
  refine ⟨fun q => ok_some.mpr (by rw [if_neg (fun q2 => by simp only [i_lt, i_le] at q q2; omega)]; exact QC_same h), fun q => ?_⟩
  rw [ok_ite]
  refine ⟨fun q2 => ?_, fun q2 => ok_some.mpr (by rw [if_neg (fun q3 => q2 q3.2)]; exact QC_same h)⟩
  rw [if_pos ⟨by simp only [i_lt, i_le] at q ⊢; omega, q2⟩, ok_cv, h2]
  refine ok_mono (judge_ok hF hA.1 h5 h4.2.2.2.1 hA.2.2.2.2.1.1) (fun M1 h1 => ?_)
  obtain ⟨c1, ⟨v6, v7, v8⟩, f1⟩ := h1
  have rc : RC A (N + 1) M1 ∧ FrC M M1 := ⟨RC_up ⟨o, d, hod, by rw [f1.1]; exact h2, by rw [f1.1]; exact h3, RCs_fi h4 (fi_mono f1 (fun k n i q => by unfold PJ PE PW at q; unfold GC; omega)), c1, WhI_fi h6 f1 (fun k n i q => by unfold PJ PE PW at q; omega)⟩, FrC_fi f1 (fun k n i q => by unfold PJ PE PW at q; omega)⟩
  rw [ok_ite]
  refine ⟨fun q3 => ok_some.mpr ⟨by rw [if_pos q3]; exact v6, rc⟩, fun q3 => ?_⟩
  rw [ok_ite, if_neg q3]
  exact ⟨fun q4 => ok_some.mpr ⟨by rw [if_pos q4]; exact v7, rc⟩, fun q4 => ok_some.mpr ⟨by rw [if_neg q4]; exact v8, rc⟩⟩
