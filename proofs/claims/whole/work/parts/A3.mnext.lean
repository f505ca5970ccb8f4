/-! the reference's next token -/
def TpS (T : List Int32) (M : mm) : Prop := (M.1 13 0 3 = nI T.length ∧ ∀ i x, T[i]? = some x → M.1 63 0 i = x) ∧ T.length ≤ 1000 ∧ ∀ x, x ∈ T → SgOk x
def kmap (k : Nat) : Nat := if k = 0 then 0 else if k = 1 then 4 else k - 1
def TkM (t : tkt) (b e : Nat) (M : mm) : Prop := M.1 13 0 4 = nI e ∧ M.1 13 0 5 = nI b ∧ M.1 13 0 6 = nI (kmap t.1) ∧ (t.1 = 2 → M.2.1 13 0 7 = lN (pv 27 t.2.1)) ∧ (t.1 = 3 → M.1 13 0 8 = t.2.2) ∧ (t.1 = 4 → b < 1000 ∧ M.1 63 0 b = t.2.2)
def P13 : Nat → Nat → Nat → Prop := fun k _ i => k = 13 ∧ 4 ≤ i ∧ i ≤ 8
theorem TpS_c {T : List Int32} {M M' : mm} {P : Nat → Nat → Nat → Prop} (h : TpS T M) (f : fi P M M') (hP : ∀ k n i, P k n i → k ≠ 63 ∧ ¬ (k = 13 ∧ i = 3)) : TpS T M' := by
  obtain ⟨⟨h1, h2⟩, h4⟩ := h
  exact ⟨⟨by rw [fi_I f (fun q => by have := hP _ _ _ q; omega)]; exact h1, fun i x hx => by rw [fi_I f (fun q => by have := hP _ _ _ q; omega)]; exact h2 i x hx⟩, h4⟩
theorem signAt_ok {F : Nat} {T : List Int32} {q : Nat} {M : mm} (hT : TpS T M) (hq : q ≤ T.length) : ok (m_X12_signAt F (nI q) M) (fun r => r = (sg T q, M)) := by
  have hl := hT.2.1
  unfold m_X12_signAt
  rw [hT.1.1, ok_ite, nI_leI (by omega) (by omega)]
  refine ⟨fun c => ok_some.mpr ?_, fun c => ?_⟩
  · have : sg T q = 0 := by unfold sg; rw [List.getD_eq_getElem?_getD, List.getElem?_eq_none (by omega)]; rfl
    rw [this]
  · rw [ok_gi, ok_some, nI_clamp (by omega), hT.1.2 q _ (sg_get (by omega))]
    exact ⟨vp_in_nI (by omega) (by decide), rfl⟩
theorem mx1_ok {F : Nat} (hF : 2000 < F) {T : List Int32} {p : Nat} {M : mm} (hT : TpS T M) (hp : p ≤ T.length) (h : M.1 13 0 4 = nI p) :
    ok (lp (b_X12_nextToken_1 F) F M) (fun M' => M'.1 13 0 4 = nI (tkB T p) ∧ fi P13 M M') := by
  have hl := hT.2.1
  refine ok_lp (fun n M' => ∃ q, q ≤ T.length ∧ n = T.length - q ∧ M'.1 13 0 4 = nI q ∧ q + rnL isBk T q = tkB T p ∧ fi P13 M M') ?_ F (T.length - p) M (by omega) ⟨p, hp, rfl, h, rfl, fi_rf⟩
  rintro n M1 ⟨q, hq, rfl, h1, h2, f1⟩
  have hT1 := TpS_c hT f1 (fun k n i q => by unfold P13 at q; omega)
  simp only [b_X12_nextToken_1, b_X12_nextToken_1c]
  rw [h1, hT1.1.1, ok_ite, nI_leI (by omega) (by omega)]
  refine ⟨fun c => ok_some.mpr ?_, fun c => ?_⟩
  · rw [rn_stop (fun h => by omega)] at h2
    exact ⟨by rw [h1, ← h2]; rfl, f1⟩
  have hq' : q < T.length := by omega
  have e40 : M1.1 63 0 q = sg T q := hT1.1.2 q _ (sg_get hq')
  have hin : vp_in (nI q) 1000 := vp_in_nI (by omega) (by decide)
  rw [ok_gi, nI_clamp (by omega), e40]
  refine ⟨hin, ok_jn (P := isBk (sg T q) = true) (fun hb => ?_) (fun k hk => ?_)⟩
  · show ok (nm (sI M1 13 0 4 (nI q + 1)) _) _
    rw [ok_nm, ok_some]
    have f2 : fi P13 M1 (sI M1 13 0 4 (nI q + 1)) := fi_sI fi_rf ⟨rfl, by decide, by decide⟩
    refine ⟨T.length - (q + 1), by omega, q + 1, by omega, rfl, by rw [rII, if_pos ⟨rfl, rfl, rfl⟩]; exact nI_1 q, ?_, fi_tr f1 f2⟩
    rw [rn_step hq' hb] at h2
    omega
  · have stop : isBk (sg T q) = false → M1.1 13 0 4 = nI (tkB T p) ∧ fi P13 M M1 := fun hb => by
      rw [rn_stop (fun _ => hb)] at h2
      exact ⟨by rw [h1, ← h2]; rfl, f1⟩
    rw [ok_ite]
    refine ⟨fun q2 => hk (by unfold isBk; exact decide_eq_true (Or.inl q2)), fun q2 => ?_⟩
    rw [ok_gi, ok_ite]
    refine ⟨hin, fun q3 => hk (by unfold isBk; exact decide_eq_true (Or.inr q3)), fun q3 => ok_some.mpr (stop (by unfold isBk; exact decide_eq_false (fun q4 => q4.elim q2 q3)))⟩
def m8 (q : Nat) : Nat := if q ≤ 8 then q else 8
def m4 (q : Nat) : Nat := if q ≤ 4 then q else 4
theorem mx2_ok {F : Nat} (hF : 2000 < F) {T : List Int32} {b : Nat} {M : mm} (hT : TpS T M) (hb : b ≤ T.length) (h4 : M.1 13 0 4 = nI b) (h5 : M.1 13 0 5 = nI b) (h7 : M.2.1 13 0 7 = lN 0) :
    ok (lp (b_X12_nextToken_2 F) F M) (fun M' => M'.1 13 0 4 = nI (b + rnL isLt T b) ∧ M'.2.1 13 0 7 = lN (pv 27 (lw T b (m8 (rnL isLt T b)))) ∧ fi (fun k _ i => k = 13 ∧ (i = 4 ∨ i = 7)) M M') := by
  have hl := hT.2.1
  have z97 : (97 : Int32).toInt = 97 := rfl
  have z122 : (122 : Int32).toInt = 122 := rfl
  refine ok_lp (fun n M' => ∃ q, b + q ≤ T.length ∧ n = T.length - (b + q) ∧ M'.1 13 0 4 = nI (b + q) ∧ M'.2.1 13 0 7 = lN (pv 27 (lw T b (m8 q))) ∧ q + rnL isLt T (b + q) = rnL isLt T b ∧ fi (fun k _ i => k = 13 ∧ (i = 4 ∨ i = 7)) M M') ?_ F (T.length - b) M (by omega) ⟨0, hb, rfl, h4, h7, by rw [Nat.zero_add]; rfl, fi_rf⟩
  rintro n M8 ⟨q, hq, rfl, h1, h7', h2, f2⟩
  have hT2 := TpS_c hT f2 (fun k n i q => by omega)
  have h5' : M8.1 13 0 5 = nI b := (fi_I f2 (by omega)).trans h5
  have stop : isLt (sg T (b + q)) = false → M8.1 13 0 4 = nI (b + rnL isLt T b) ∧ M8.2.1 13 0 7 = lN (pv 27 (lw T b (m8 (rnL isLt T b)))) ∧ fi (fun k _ i => k = 13 ∧ (i = 4 ∨ i = 7)) M M8 := fun hs => by
    rw [rn_stop (fun _ => hs), Nat.add_zero] at h2
    rw [← h2]; exact ⟨h1, h7', f2⟩
  simp only [b_X12_nextToken_2, b_X12_nextToken_2c]
  rw [h1, ok_cl]
  refine ok_mono (signAt_ok hT2 hq) (fun r hr => ?_)
  subst hr
  dsimp only
  rw [ok_ite, i_lt, z97]
  refine ⟨fun c => ok_some.mpr (stop (by unfold isLt; exact decide_eq_false (by omega))), fun c => ?_⟩
  rw [h1, ok_cl]
  refine ok_mono (signAt_ok hT2 hq) (fun r hr => ?_)
  subst hr
  dsimp only
  rw [ok_ite, i_lt, z122]
  refine ⟨fun c2 => ok_some.mpr (stop (by unfold isLt; exact decide_eq_false (by omega))), fun c2 => ?_⟩
  have ql : isLt (sg T (b + q)) = true := by unfold isLt; exact decide_eq_true (by omega)
  have hq' : b + q < T.length := by
    rcases Nat.lt_or_ge (b + q) T.length with r | r
    · exact r
    · have : sg T (b + q) = 0 := by unfold sg; rw [List.getD_eq_getElem?_getD, List.getElem?_eq_none (by omega)]; rfl
      rw [this] at ql; exact absurd ql (by decide)
  obtain ⟨m, m1, m2, em⟩ := isLt_n ql
  have e8 : (8 : Int32) ≤ nI q ↔ 8 ≤ q := (nI_leI (by omega) (by omega) : nI 8 ≤ nI q ↔ _)
  rw [ok_bd]
  refine ok_mono (Q := fun M' => M'.2.1 13 0 7 = lN (pv 27 (lw T b (m8 (q + 1)))) ∧ fi (fun k _ i => k = 13 ∧ i = 7) M8 M') ?_ (fun M16 h16 => ?_)
  · rw [h1, h5', nI_sub (by omega), Nat.add_sub_cancel_left, ok_ite, e8]
    refine ⟨fun c3 => ok_some.mpr ⟨?_, fi_rf⟩, fun c3 => ?_⟩
    · have a1 : m8 (q + 1) = 8 := if_neg (by omega)
      have a2 : m8 q = 8 := by unfold m8; split <;> omega
      rw [a1, ← a2]; exact h7'
    · rw [ok_cl]
      refine ok_mono (signAt_ok hT2 hq) (fun r hr => ?_)
      subst hr
      dsimp only
      have a1 : m8 (q + 1) = q + 1 := if_pos (by omega)
      have a2 : m8 q = q := if_pos (by omega)
      rw [a2] at h7'
      rw [ok_nm, ok_some, h7', em, nI_64 (by omega), a1]
      refine ⟨?_, fi_sL fi_rf ⟨rfl, rfl⟩⟩
      rw [rLL, if_pos ⟨rfl, rfl, rfl⟩]
      show (lN (pv 27 (lw T b q)) * lN 27 + lN m) - lN 96 = lN (pv 27 (lw T b q) * 27 + ((sg T (b + q)).toNatClampNeg - 96))
      rw [lN_mul, lN_add, lN_sub (by omega), em, nI_clamp (by omega), Nat.add_sub_assoc (by omega)]
  · obtain ⟨g7, f16⟩ := h16
    have g4 : M16.1 13 0 4 = nI (b + q) := (fi_I f16 (by omega)).trans h1
    rw [ok_nm, ok_some, g4, nI_1]
    have f17 : fi (fun k _ i => k = 13 ∧ (i = 4 ∨ i = 7)) M16 (sI M16 13 0 4 (nI (b + q + 1))) := fi_sI fi_rf ⟨rfl, Or.inl rfl⟩
    refine ⟨T.length - (b + (q + 1)), by omega, q + 1, by omega, rfl, by rw [rII, if_pos ⟨rfl, rfl, rfl⟩]; rfl, by rw [rIL]; exact g7, ?_, fi_tr f2 (fi_tr (fi_mono f16 (fun k n i q => by omega)) f17)⟩
    rw [rn_step hq' ql] at h2
    rw [show b + (q + 1) = b + q + 1 by omega]; omega
theorem mx3_ok {F : Nat} (hF : 2000 < F) {T : List Int32} {b : Nat} {M : mm} (hT : TpS T M) (hb : b ≤ T.length) (h4 : M.1 13 0 4 = nI b) (h5 : M.1 13 0 5 = nI b) (h7 : M.1 13 0 8 = nI 0) :
    ok (lp (b_X12_nextToken_3 F) F M) (fun M' => M'.1 13 0 4 = nI (b + rnL isDg T b) ∧ M'.1 13 0 8 = nI (dv T b (m4 (rnL isDg T b))) ∧ fi (fun k _ i => k = 13 ∧ (i = 4 ∨ i = 8)) M M') := by
  have hl := hT.2.1
  have z97 : (48 : Int32).toInt = 48 := rfl
  have z122 : (57 : Int32).toInt = 57 := rfl
  refine ok_lp (fun n M' => ∃ q, b + q ≤ T.length ∧ n = T.length - (b + q) ∧ M'.1 13 0 4 = nI (b + q) ∧ M'.1 13 0 8 = nI (dv T b (m4 q)) ∧ q + rnL isDg T (b + q) = rnL isDg T b ∧ fi (fun k _ i => k = 13 ∧ (i = 4 ∨ i = 8)) M M') ?_ F (T.length - b) M (by omega) ⟨0, hb, rfl, h4, h7, by rw [Nat.zero_add]; rfl, fi_rf⟩
  rintro n M8 ⟨q, hq, rfl, h1, h7', h2, f2⟩
  have hT2 := TpS_c hT f2 (fun k n i q => by omega)
  have h5' : M8.1 13 0 5 = nI b := (fi_I f2 (by omega)).trans h5
  have stop : isDg (sg T (b + q)) = false → M8.1 13 0 4 = nI (b + rnL isDg T b) ∧ M8.1 13 0 8 = nI (dv T b (m4 (rnL isDg T b))) ∧ fi (fun k _ i => k = 13 ∧ (i = 4 ∨ i = 8)) M M8 := fun hs => by
    rw [rn_stop (fun _ => hs), Nat.add_zero] at h2
    rw [← h2]; exact ⟨h1, h7', f2⟩
  simp only [b_X12_nextToken_3, b_X12_nextToken_3c]
  rw [h1, ok_cl]
  refine ok_mono (signAt_ok hT2 hq) (fun r hr => ?_)
  subst hr
  dsimp only
  rw [ok_ite, i_lt, z97]
  refine ⟨fun c => ok_some.mpr (stop (by unfold isDg; exact decide_eq_false (by omega))), fun c => ?_⟩
  rw [h1, ok_cl]
  refine ok_mono (signAt_ok hT2 hq) (fun r hr => ?_)
  subst hr
  dsimp only
  rw [ok_ite, i_lt, z122]
  refine ⟨fun c2 => ok_some.mpr (stop (by unfold isDg; exact decide_eq_false (by omega))), fun c2 => ?_⟩
  have ql : isDg (sg T (b + q)) = true := by unfold isDg; exact decide_eq_true (by omega)
  have hq' : b + q < T.length := by
    rcases Nat.lt_or_ge (b + q) T.length with r | r
    · exact r
    · have : sg T (b + q) = 0 := by unfold sg; rw [List.getD_eq_getElem?_getD, List.getElem?_eq_none (by omega)]; rfl
      rw [this] at ql; exact absurd ql (by decide)
  obtain ⟨m, m1, m2, em⟩ := isDg_n ql
  have e8 : (4 : Int32) ≤ nI q ↔ 4 ≤ q := (nI_leI (by omega) (by omega) : nI 4 ≤ nI q ↔ _)
  rw [ok_bd]
  refine ok_mono (Q := fun M' => M'.1 13 0 8 = nI (dv T b (m4 (q + 1))) ∧ fi (fun k _ i => k = 13 ∧ i = 8) M8 M') ?_ (fun M16 h16 => ?_)
  · rw [h1, h5', nI_sub (by omega), Nat.add_sub_cancel_left, ok_ite, e8]
    refine ⟨fun c3 => ok_some.mpr ⟨?_, fi_rf⟩, fun c3 => ?_⟩
    · have a1 : m4 (q + 1) = 4 := if_neg (by omega)
      have a2 : m4 q = 4 := by unfold m4; split <;> omega
      rw [a1, ← a2]; exact h7'
    · rw [ok_cl]
      refine ok_mono (signAt_ok hT2 hq) (fun r hr => ?_)
      subst hr
      dsimp only
      have a1 : m4 (q + 1) = q + 1 := if_pos (by omega)
      have a2 : m4 q = q := if_pos (by omega)
      rw [a2] at h7'
      rw [ok_nm, ok_some, h7', em, a1]
      refine ⟨?_, fi_sI fi_rf ⟨rfl, rfl⟩⟩
      rw [rII, if_pos ⟨rfl, rfl, rfl⟩]
      show (nI (dv T b q) * nI 10 + nI m) - nI 48 = nI (dv T b q * 10 + ((sg T (b + q)).toNatClampNeg - 48))
      rw [pk_mul, nI_add, nI_sub (by omega), em, nI_clamp (by omega), Nat.add_sub_assoc (by omega)]
  · obtain ⟨g7, f16⟩ := h16
    have g4 : M16.1 13 0 4 = nI (b + q) := (fi_I f16 (by omega)).trans h1
    rw [ok_nm, ok_some, g4, nI_1]
    have f17 : fi (fun k _ i => k = 13 ∧ (i = 4 ∨ i = 8)) M16 (sI M16 13 0 4 (nI (b + q + 1))) := fi_sI fi_rf ⟨rfl, Or.inl rfl⟩
    refine ⟨T.length - (b + (q + 1)), by omega, q + 1, by omega, rfl, by rw [rII, if_pos ⟨rfl, rfl, rfl⟩]; rfl, by rw [rII, if_neg (by omega)]; exact g7, ?_, fi_tr f2 (fi_tr (fi_mono f16 (fun k n i q => by omega)) f17)⟩
    rw [rn_step hq' ql] at h2
    rw [show b + (q + 1) = b + q + 1 by omega]; omega
theorem nextToken_ok {F : Nat} (hF : 2000 < F) {T : List Int32} {p : Nat} {M : mm} (hT : TpS T M) (hp : p ≤ T.length) (h : M.1 13 0 4 = nI p) :
    ok (m_X12_nextToken F M) (fun M' => TkM (tkA T p) (tkB T p) (tkE T p) M' ∧ fi P13 M M') := by
  have hl := hT.2.1
  have hb : tkB T p ≤ T.length := rn_le hp
  unfold m_X12_nextToken
  rw [ok_bd]
  refine ok_mono (mx1_ok hF hT hp h) (fun M3 h3 => ?_)
  obtain ⟨a4, f3⟩ := h3
  rw [ok_nm, ok_nm, ok_nm, a4]
  have f6 : fi P13 M3 (sI (sL (sI M3 13 0 5 (nI (tkB T p))) 13 0 7 0) 13 0 8 0) := fi_sI (fi_sL (fi_sI fi_rf ⟨rfl, by decide, by decide⟩) ⟨rfl, by decide, by decide⟩) ⟨rfl, by decide, by decide⟩
  have v5 : (sI (sL (sI M3 13 0 5 (nI (tkB T p))) 13 0 7 0) 13 0 8 0).1 13 0 5 = nI (tkB T p) := by rw [rII, if_neg (by omega), rLI, rII, if_pos ⟨rfl, rfl, rfl⟩]
  have v7 : (sI (sL (sI M3 13 0 5 (nI (tkB T p))) 13 0 7 0) 13 0 8 0).2.1 13 0 7 = lN 0 := by rw [rIL, rLL, if_pos ⟨rfl, rfl, rfl⟩]; rfl
  have v8 : (sI (sL (sI M3 13 0 5 (nI (tkB T p))) 13 0 7 0) 13 0 8 0).1 13 0 8 = nI 0 := by rw [rII, if_pos ⟨rfl, rfl, rfl⟩]; rfl
  have v4 : (sI (sL (sI M3 13 0 5 (nI (tkB T p))) 13 0 7 0) 13 0 8 0).1 13 0 4 = nI (tkB T p) := by rw [rII, if_neg (by omega), rLI, rII, if_neg (by omega)]; exact a4
  generalize sI (sL (sI M3 13 0 5 (nI (tkB T p))) 13 0 7 0) 13 0 8 0 = M6 at f6 v5 v7 v8 v4 ⊢
  have f06 := fi_tr f3 f6
  have hT6 := TpS_c hT f06 (fun k n i q => by unfold P13 at q; omega)
  rw [ok_ite, v4, hT6.1.1, nI_eq (by omega) (by omega)]
  have last : ∀ (M' : mm) (v : Int32), fi P13 M' (sI M' 13 0 6 v) := fun M' v => fi_sI fi_rf ⟨rfl, by decide, by decide⟩
  refine ⟨fun q => ?_, fun q => ?_⟩
  · have eA : tkA T p = (0, [], 0) := if_pos (by omega)
    have eE : tkE T p = tkB T p := if_pos (by omega)
    rw [eA, eE, ok_nm, ok_some]
    exact ⟨⟨by rw [rII, if_neg (by omega)]; exact v4, by rw [rII, if_neg (by omega)]; exact v5, by rw [rII, if_pos ⟨rfl, rfl, rfl⟩]; rfl, fun q5 => (by cases q5), fun q5 => (by cases q5), fun q5 => (by cases q5)⟩, fi_tr f06 (last _ _)⟩
  · have nq : ¬ T.length ≤ tkB T p := by omega
    have q' : tkB T p < T.length := by omega
    have e40 : M6.1 63 0 (tkB T p) = sg T (tkB T p) := hT6.1.2 _ _ (sg_get q')
    have hin : vp_in (nI (tkB T p)) 1000 := vp_in_nI (by omega) (by decide)
    have eA : tkA T p = if isLt (sg T (tkB T p)) = true then (if rnL isLt T (tkB T p) ≤ 8 then (2, lw T (tkB T p) (rnL isLt T (tkB T p)), 0) else (1, [], 0)) else if isDg (sg T (tkB T p)) = true then (if rnL isDg T (tkB T p) ≤ 4 then (3, [], nI (dv T (tkB T p) (rnL isDg T (tkB T p)))) else (1, [], 0)) else if isSn (sg T (tkB T p)) = true then (4, [], sg T (tkB T p)) else (1, [], 0) := if_neg nq
    have eE : tkE T p = if isLt (sg T (tkB T p)) = true then tkB T p + rnL isLt T (tkB T p) else if isDg (sg T (tkB T p)) = true then tkB T p + rnL isDg T (tkB T p) else tkB T p + 1 := if_neg nq
    rw [eA, eE, ok_gi, nI_clamp (by omega), e40, ok_nm]
    refine ⟨hin, ?_⟩
    have z97 : (97 : Int32).toInt = 97 := rfl
    have z122 : (122 : Int32).toInt = 122 := rfl
    have z48 : (48 : Int32).toInt = 48 := rfl
    have z57 : (57 : Int32).toInt = 57 := rfl
    refine ok_jn (P := isLt (sg T (tkB T p)) = false) (fun hnl => ?_) (fun k212 hk212 => ?_)
    · show ok (nm _ _) _
      have nl : ¬ isLt (sg T (tkB T p)) = true := by rw [hnl]; decide
      rw [if_neg nl, if_neg nl]
      refine ok_jn (P := isDg (sg T (tkB T p)) = false) (fun hnd => ?_) (fun k322 hk322 => ?_)
      · have nd : ¬ isDg (sg T (tkB T p)) = true := by rw [hnd]; decide
        rw [if_neg nd, if_neg nd]
        show ok (nm (sI M6 13 0 4 (nI (tkB T p) + 1)) _) _
        rw [ok_nm, ok_bd, nI_1]
        have f34 : fi P13 M6 (sI M6 13 0 4 (nI (tkB T p + 1))) := fi_sI fi_rf ⟨rfl, by decide, by decide⟩
        have w4 : (sI M6 13 0 4 (nI (tkB T p + 1))).1 13 0 4 = nI (tkB T p + 1) := by rw [rII, if_pos ⟨rfl, rfl, rfl⟩]
        have w5 : (sI M6 13 0 4 (nI (tkB T p + 1))).1 13 0 5 = nI (tkB T p) := by rw [rII, if_neg (by omega)]; exact v5
        have w63 : (sI M6 13 0 4 (nI (tkB T p + 1))).1 63 0 (tkB T p) = sg T (tkB T p) := by rw [rII, if_neg (by omega)]; exact e40
        generalize sI M6 13 0 4 (nI (tkB T p + 1)) = M34 at f34 w4 w5 w63 ⊢
        refine ok_mono (Q := fun v => v = if isSn (sg T (tkB T p)) = true then (3 : Int32) else 4) ?_ (fun v hv => ?_)
        · have z40 : (40 : Int32).toInt = 40 := rfl
          have z43 : (43 : Int32).toInt = 43 := rfl
          have z45 : (45 : Int32).toInt = 45 := rfl
          have z59 : (59 : Int32).toInt = 59 := rfl
          have z61 : (61 : Int32).toInt = 61 := rfl
          have eS : isSn (sg T (tkB T p)) = true ↔ ((40 ≤ (sg T (tkB T p)).toInt ∧ (sg T (tkB T p)).toInt ≤ 43) ∨ (sg T (tkB T p)).toInt = 45 ∨ (59 ≤ (sg T (tkB T p)).toInt ∧ (sg T (tkB T p)).toInt ≤ 61)) := by unfold isSn; exact decide_eq_true_iff
          generalize sg T (tkB T p) = x at eS ⊢
          refine ok_jn (P := isSn x = true) (fun hs => ok_some.mpr (by rw [if_pos hs])) (fun k363 hk363 => ?_)
          refine ok_jn (P := x.toInt < 40 ∨ 43 < x.toInt) (fun hx => ?_) (fun k345 hk345 => ?_)
          · show ok (if x = (45 : Int32) then _ else _) _
            rw [ok_ite, i_eq, z45]
            refine ⟨fun a => hk363 (eS.mpr (Or.inr (Or.inl a))), fun a => ?_⟩
            refine ok_jn (P := ¬ isSn x = true) (fun hs => ok_some.mpr (by rw [if_neg hs])) (fun k367 hk367 => ?_)
            rw [ok_ite, i_lt, z59]
            refine ⟨fun c => hk367 (fun hs => by have := eS.mp hs; omega), fun c => ?_⟩
            rw [ok_ite, i_lt, z61]
            exact ⟨fun d => hk367 (fun hs => by have := eS.mp hs; omega), fun d => hk363 (eS.mpr (by omega))⟩
          · rw [ok_ite, i_lt, z40]
            refine ⟨fun a => hk345 (by omega), fun a => ?_⟩
            rw [ok_ite, i_le, z43]
            exact ⟨fun c => hk363 (eS.mpr (by omega)), fun c => hk345 (by omega)⟩
        · rw [ok_nm, ok_some, hv]
          by_cases q4 : isSn (sg T (tkB T p)) = true
          · rw [if_pos q4, if_pos q4]
            exact ⟨⟨by rw [rII, if_neg (by omega)]; exact w4, by rw [rII, if_neg (by omega)]; exact w5, by rw [rII, if_pos ⟨rfl, rfl, rfl⟩]; rfl, fun q5 => (by cases q5), fun q5 => (by cases q5), fun _ => ⟨by omega, by rw [rII, if_neg (by omega)]; exact w63⟩⟩, fi_tr f06 (fi_tr f34 (last _ _))⟩
          · rw [if_neg q4, if_neg q4]
            exact ⟨⟨by rw [rII, if_neg (by omega)]; exact w4, by rw [rII, if_neg (by omega)]; exact w5, by rw [rII, if_pos ⟨rfl, rfl, rfl⟩]; rfl, fun q5 => (by cases q5), fun q5 => (by cases q5), fun q5 => (by cases q5)⟩, fi_tr f06 (fi_tr f34 (last _ _))⟩
      · rw [ok_ite, i_lt, z48]
        refine ⟨fun c => hk322 (by unfold isDg; exact decide_eq_false (by omega)), fun c => ?_⟩
        rw [ok_ite, i_lt, z57]
        refine ⟨fun c2 => hk322 (by unfold isDg; exact decide_eq_false (by omega)), fun c2 => ?_⟩
        have yd : isDg (sg T (tkB T p)) = true := by unfold isDg; exact decide_eq_true (by omega)
        have hle := rn_le (P := isDg) hb
        rw [if_pos yd, if_pos yd, ok_bd]
        refine ok_mono (mx3_ok hF hT6 hb v4 v5 v8) (fun M31 h31 => ?_)
        obtain ⟨g4, g8, f31⟩ := h31
        have g5 : M31.1 13 0 5 = nI (tkB T p) := (fi_I f31 (by omega)).trans v5
        have fP := fi_tr f06 (fi_mono f31 (fun k n i q => by unfold P13; omega) : fi P13 M6 M31)
        have e4 : nI (rnL isDg T (tkB T p)) ≤ (4 : Int32) ↔ rnL isDg T (tkB T p) ≤ 4 := (nI_leI (by omega) (by omega) : nI _ ≤ nI 4 ↔ _)
        rw [ok_bd, ok_ite, g4, g5, nI_sub (by omega), Nat.add_sub_cancel_left, e4]
        refine ⟨fun q4 => ?_, fun q4 => ?_⟩
        · rw [if_pos q4, ok_some, ok_nm, ok_some]
          have a1 : m4 (rnL isDg T (tkB T p)) = rnL isDg T (tkB T p) := if_pos q4
          rw [a1] at g8
          exact ⟨⟨by rw [rII, if_neg (by omega)]; exact g4, by rw [rII, if_neg (by omega)]; exact g5, by rw [rII, if_pos ⟨rfl, rfl, rfl⟩]; rfl, fun q5 => (by cases q5), fun _ => by rw [rII, if_neg (by omega)]; exact g8, fun q5 => (by cases q5)⟩, fi_tr fP (last _ _)⟩
        · rw [if_neg q4, ok_some, ok_nm, ok_some]
          exact ⟨⟨by rw [rII, if_neg (by omega)]; exact g4, by rw [rII, if_neg (by omega)]; exact g5, by rw [rII, if_pos ⟨rfl, rfl, rfl⟩]; rfl, fun q5 => (by cases q5), fun q5 => (by cases q5), fun q5 => (by cases q5)⟩, fi_tr fP (last _ _)⟩
    · rw [ok_ite, i_lt, z97]
      refine ⟨fun c => hk212 (by unfold isLt; exact decide_eq_false (by omega)), fun c => ?_⟩
      rw [ok_ite, i_lt, z122]
      refine ⟨fun c2 => hk212 (by unfold isLt; exact decide_eq_false (by omega)), fun c2 => ?_⟩
      have yl : isLt (sg T (tkB T p)) = true := by unfold isLt; exact decide_eq_true (by omega)
      have hle := rn_le (P := isLt) hb
      rw [if_pos yl, if_pos yl, ok_bd]
      refine ok_mono (mx2_ok hF hT6 hb v4 v5 v7) (fun M18 h18 => ?_)
      obtain ⟨g4, g7, f18⟩ := h18
      have g5 : M18.1 13 0 5 = nI (tkB T p) := (fi_I f18 (by omega)).trans v5
      have fP := fi_tr f06 (fi_mono f18 (fun k n i q => by unfold P13; omega) : fi P13 M6 M18)
      have e8 : nI (rnL isLt T (tkB T p)) ≤ (8 : Int32) ↔ rnL isLt T (tkB T p) ≤ 8 := (nI_leI (by omega) (by omega) : nI _ ≤ nI 8 ↔ _)
      rw [ok_bd, ok_ite, g4, g5, nI_sub (by omega), Nat.add_sub_cancel_left, e8]
      refine ⟨fun q4 => ?_, fun q4 => ?_⟩
      · rw [if_pos q4, ok_some, ok_nm, ok_some]
        have a1 : m8 (rnL isLt T (tkB T p)) = rnL isLt T (tkB T p) := if_pos q4
        rw [a1] at g7
        exact ⟨⟨by rw [rII, if_neg (by omega)]; exact g4, by rw [rII, if_neg (by omega)]; exact g5, by rw [rII, if_pos ⟨rfl, rfl, rfl⟩]; rfl, fun _ => by rw [rIL]; exact g7, fun q5 => (by cases q5), fun q5 => (by cases q5)⟩, fi_tr fP (last _ _)⟩
      · rw [if_neg q4, ok_some, ok_nm, ok_some]
        exact ⟨⟨by rw [rII, if_neg (by omega)]; exact g4, by rw [rII, if_neg (by omega)]; exact g5, by rw [rII, if_pos ⟨rfl, rfl, rfl⟩]; rfl, fun q5 => (by cases q5), fun q5 => (by cases q5), fun q5 => (by cases q5)⟩, fi_tr fP (last _ _)⟩
