/-! the class's next token: words, numbers -/
theorem isLt_n {x : Int32} (h : isLt x = true) : ∃ m, 97 ≤ m ∧ m ≤ 122 ∧ x = nI m := by
  unfold isLt at h
  rw [decide_eq_true_iff] at h
  exact ⟨x.toNatClampNeg, by have := i_clamp (a := x) (by omega); omega, by have := i_clamp (a := x) (by omega); omega, i_nI (by omega)⟩
theorem isDg_n {x : Int32} (h : isDg x = true) : ∃ m, 48 ≤ m ∧ m ≤ 57 ∧ x = nI m := by
  unfold isDg at h
  rw [decide_eq_true_iff] at h
  exact ⟨x.toNatClampNeg, by have := i_clamp (a := x) (by omega); omega, by have := i_clamp (a := x) (by omega); omega, i_nI (by omega)⟩
theorem rw1_ok {F : Nat} (hF : 2000 < F) {T : List Int32} {b : Nat} {M : mm} (hT : TpR T M) (hb : b ≤ T.length) (h3 : M.1 7 0 3 = nI b) (h8 : M.2.1 7 0 8 = lN 0) :
    ok (lp (b_X6_readWord_1 F) F M) (fun M' => M'.1 7 0 3 = nI (b + rnL isLt T b) ∧ M'.2.1 7 0 8 = lN (pv 32 (lw T b (rnL isLt T b))) ∧ fi (fun k _ i => k = 7 ∧ (i = 3 ∨ i = 8)) M M') := by
  have hl := hT.2.2.1
  refine ok_lp (fun n M' => ∃ q, b + q ≤ T.length ∧ n = T.length - (b + q) ∧ M'.1 7 0 3 = nI (b + q) ∧ M'.2.1 7 0 8 = lN (pv 32 (lw T b q)) ∧ q + rnL isLt T (b + q) = rnL isLt T b ∧ fi (fun k _ i => k = 7 ∧ (i = 3 ∨ i = 8)) M M') ?_ F (T.length - b) M (by omega) ⟨0, hb, rfl, h3, h8, by rw [Nat.zero_add]; rfl, fi_rf⟩
  rintro n M2 ⟨q, hq, rfl, h1, h8', h2, f2⟩
  have hT2 := TpR_c hT f2 (fun k n i q => by omega)
  simp only [b_X6_readWord_1, b_X6_readWord_1c]
  rw [h1, hT2.1.1, ok_ite, nI_leI (by omega) (by omega)]
  refine ⟨fun c => ok_some.mpr ?_, fun c => ?_⟩
  · rw [rn_stop (fun h => by omega), Nat.add_zero] at h2
    rw [← h2]; exact ⟨h1, h8', f2⟩
  have hq' : b + q < T.length := by omega
  have e40 : M2.1 40 0 (b + q) = sg T (b + q) := hT2.1.2 _ _ (sg_get hq')
  have hin : vp_in (nI (b + q)) 1000 := vp_in_nI (by omega) (by decide)
  rw [ok_gi, nI_clamp (by omega), e40, ok_cb]
  refine ⟨hin, ok_mono letter_ok (fun r hr => ?_)⟩
  subst hr
  dsimp only
  rw [ok_ite]
  refine ⟨fun ql => ?_, fun ql => ok_some.mpr ?_⟩
  · obtain ⟨m, m1, m2, em⟩ := isLt_n ql
    have ec : ∀ m, m < 123 → 97 ≤ m → Int32.toInt64 ((nI m - (97 : Int32)) + (1 : Int32)) = lN (m - 96) := by decide +kernel
    rw [ok_gi, ok_nm, ok_nm, ok_some, h1, nI_clamp (by omega), e40, em, ec m (by omega) m1, h8']
    have f3 : fi (fun k _ i => k = 7 ∧ (i = 3 ∨ i = 8)) M2 (sI (sL M2 7 0 8 (lN (pv 32 (lw T b q)) * 32 + lN (m - 96))) 7 0 3 ((sL M2 7 0 8 (lN (pv 32 (lw T b q)) * 32 + lN (m - 96))).1 7 0 3 + 1)) := fi_sI (fi_sL fi_rf ⟨rfl, Or.inr rfl⟩) ⟨rfl, Or.inl rfl⟩
    refine ⟨hin, T.length - (b + (q + 1)), by omega, q + 1, by omega, rfl, ?_, ?_, ?_, fi_tr f2 f3⟩
    · rw [rII, if_pos ⟨rfl, rfl, rfl⟩, rLI, h1, nI_1]; rfl
    · rw [rIL, rLL, if_pos ⟨rfl, rfl, rfl⟩]
      show lN (pv 32 (lw T b q)) * lN 32 + lN (m - 96) = lN (pv 32 (lw T b q) * 32 + ((sg T (b + q)).toNatClampNeg - 96))
      rw [lN_mul, lN_add, em, nI_clamp (by omega)]
    · rw [rn_step hq' ql] at h2
      rw [show b + (q + 1) = b + q + 1 by omega]; omega
  · rw [rn_stop (fun _ => by simpa using ql), Nat.add_zero] at h2
    rw [← h2]; exact ⟨h1, h8', f2⟩
theorem rw2_ok {F : Nat} (hF : 2000 < F) {w : List Nat} {M : mm} (hw : WdOk w) (hW : WrC M) (h7 : M.1 7 0 7 = -1) (h8 : M.2.1 7 0 8 = lN (pv 32 w)) :
    ok (lp (b_X6_readWord_2 F) F ((0 : Int32), M)) (fun M' => M'.1 7 0 7 = kwI w ∧ fi (fun k _ i => k = 7 ∧ i = 7) M M') := by
  refine ok_for 29 (fun i z => z.1 = nI i ∧ z.2.1 7 0 7 = kwF w i ∧ fi (fun k _ i => k = 7 ∧ i = 7) M z.2) 0 (by omega) (by omega) ⟨rfl, h7, fi_rf⟩ ?_
  rintro i ⟨x9, M10⟩ hi ⟨e1, e2, f1⟩
  dsimp only at e1 e2 f1
  subst e1
  simp only [b_X6_readWord_2, b_X6_readWord_2c]
  have e29 : (29 : Int32) ≤ nI i ↔ 29 ≤ i := (nI_leI (by omega) (by omega) : nI 29 ≤ nI i ↔ 29 ≤ i)
  rw [ok_ite, e29]
  refine ⟨fun q => ok_some.mpr ?_, fun q => ?_⟩
  · have : i = 29 := by omega
    subst this
    exact ⟨e2, f1⟩
  have e41 : M10.2.1 41 0 i = lN (pv 32 (KW.getD i [])) := (fi_L f1 (by omega)).trans (hW i (by omega))
  have e8 : M10.2.1 7 0 8 = lN (pv 32 w) := (fi_L f1 (by omega)).trans h8
  have ek : kwF w (i + 1) = if KW.getD i [] = w then nI i else kwF w i := rfl
  rw [ok_gi, ok_bd, nI_clamp (by omega), e41, e8]
  refine ⟨vp_in_nI (by omega) (by decide), ?_⟩
  refine ok_mono (Q := fun M' => M'.1 7 0 7 = kwF w (i + 1) ∧ fi (fun k _ i => k = 7 ∧ i = 7) M M') ?_ (fun M' hM' => ok_some.mpr ⟨by omega, nI_1 i, hM'⟩)
  rw [ok_ite, lg_cmp_eq, pvN (by decide) (by decide) (KW_ok i (by omega)) hw, ek]
  refine ⟨fun q2 => ?_, fun q2 => ok_some.mpr ⟨by rw [if_neg q2]; exact e2, f1⟩⟩
  rw [ok_nm, ok_some, if_pos q2]
  exact ⟨by rw [rII, if_pos ⟨rfl, rfl, rfl⟩], fi_tr f1 (fi_sI fi_rf ⟨rfl, rfl⟩)⟩
theorem nI_sub {a b : Nat} (h : b ≤ a) : nI a - nI b = nI (a - b) := pk_sub h
theorem readWord_ok {F : Nat} (hF : 2000 < F) {T : List Int32} {b : Nat} {M : mm} (hT : TpR T M) (hb : b ≤ T.length) (h3 : M.1 7 0 3 = nI b) (h5 : M.1 7 0 5 = nI b) (h7 : M.1 7 0 7 = -1) :
    ok (m_X6_readWord F M) (fun M' => TkC (if rnL isLt T b ≤ 8 then (2, lw T b (rnL isLt T b), 0) else (1, [], 0)) b (b + rnL isLt T b) M' ∧ fi P7 M M') := by
  have hl := hT.2.2.1
  have hle := rn_le (P := isLt) hb
  unfold m_X6_readWord
  rw [ok_nm, ok_bd]
  have f1 : fi (fun k _ i => k = 7 ∧ (i = 3 ∨ i = 8)) M (sL M 7 0 8 (0 : Int64)) := fi_sL fi_rf ⟨rfl, Or.inr rfl⟩
  have v8 : (sL M 7 0 8 (0 : Int64)).2.1 7 0 8 = lN 0 := by rw [rLL, if_pos ⟨rfl, rfl, rfl⟩]; rfl
  have v3 : (sL M 7 0 8 (0 : Int64)).1 7 0 3 = nI b := h3
  generalize sL M 7 0 8 (0 : Int64) = M1 at f1 v8 v3 ⊢
  have hT1 := TpR_c hT f1 (fun k n i q => by omega)
  refine ok_mono (rw1_ok hF hT1 hb v3 v8) (fun M7 h7' => ?_)
  obtain ⟨a3, a8, f7⟩ := h7'
  have f17 := fi_tr f1 f7
  have a5 : M7.1 7 0 5 = nI b := (fi_I f17 (by omega)).trans h5
  have a7 : M7.1 7 0 7 = -1 := (fi_I f17 (by omega)).trans h7
  have fP : fi P7 M M7 := fi_mono f17 (fun k n i q => by unfold P7; omega)
  have e8 : nI (rnL isLt T b) ≤ (8 : Int32) ↔ rnL isLt T b ≤ 8 := (nI_leI (by omega) (by omega) : nI (rnL isLt T b) ≤ nI 8 ↔ _)
  rw [ok_ite, a3, a5, nI_sub (by omega), Nat.add_sub_cancel_left, e8]
  refine ⟨fun q => ?_, fun q => ?_⟩
  · rw [if_pos q, ok_nm, ok_bd]
    have f8 : fi (fun k _ i => k = 7 ∧ i = 4) M7 (sI M7 7 0 4 2) := fi_sI fi_rf ⟨rfl, rfl⟩
    have v4 : (sI M7 7 0 4 2).1 7 0 4 = nI 2 := by rw [rII, if_pos ⟨rfl, rfl, rfl⟩]; rfl
    generalize sI M7 7 0 4 2 = M8 at f8 v4 ⊢
    have hwd : WdOk (lw T b (rnL isLt T b)) := ⟨by rw [lw_len]; exact q, lw_ok _ (fun i hi => rn_all i _ hb hi)⟩
    have hW8 : WrC M8 := (TpR_c (TpR_c hT1 f7 (fun k n i q => by omega)) f8 (fun k n i q => by omega)).2.1
    refine ok_mono (rw2_ok hF hwd hW8 ((fi_I f8 (by omega)).trans a7) ((fi_L f8 (by omega)).trans a8)) (fun M13 h13 => ok_some.mpr ?_)
    obtain ⟨b7, f13⟩ := h13
    refine ⟨⟨?_, ?_, ?_, ?_, fun _ => ?_, fun q2 => ?_⟩, fi_tr fP (fi_tr (fi_mono f8 (fun k n i q => by unfold P7; omega)) (fi_mono f13 (fun k n i q => by unfold P7; omega)))⟩
    · rw [fi_I f13 (by omega), fi_I f8 (by omega)]; exact a3
    · rw [fi_I f13 (by omega), fi_I f8 (by omega)]; exact a5
    · rw [fi_I f13 (by omega)]; exact v4
    · rw [if_pos rfl]; exact b7
    · rw [fi_L f13 (by omega), fi_L f8 (by omega)]; exact a8
    · rcases q2 with q2 | q2 <;> cases q2
  · rw [if_neg q, ok_nm, ok_some]
    have f8 : fi (fun k _ i => k = 7 ∧ i = 4) M7 (sI M7 7 0 4 1) := fi_sI fi_rf ⟨rfl, rfl⟩
    refine ⟨⟨by rw [fi_I f8 (by omega)]; exact a3, by rw [fi_I f8 (by omega)]; exact a5, by rw [rII, if_pos ⟨rfl, rfl, rfl⟩]; rfl, ?_, fun q2 => (by cases q2), fun q2 => (by rcases q2 with q2 | q2 <;> cases q2)⟩, fi_tr fP (fi_mono f8 (fun k n i q => by unfold P7; omega))⟩
    rw [if_neg (by decide), fi_I f8 (by omega)]; exact a7
theorem rn1_ok {F : Nat} (hF : 2000 < F) {T : List Int32} {b : Nat} {M : mm} (hT : TpR T M) (hb : b ≤ T.length) (h3 : M.1 7 0 3 = nI b) (h6 : M.1 7 0 6 = nI 0) :
    ok (lp (b_X6_readNumber_1 F) F M) (fun M' => M'.1 7 0 3 = nI (b + rnL isDg T b) ∧ M'.1 7 0 6 = nI (dv T b (rnL isDg T b)) ∧ fi (fun k _ i => k = 7 ∧ (i = 3 ∨ i = 6)) M M') := by
  have hl := hT.2.2.1
  refine ok_lp (fun n M' => ∃ q, b + q ≤ T.length ∧ n = T.length - (b + q) ∧ M'.1 7 0 3 = nI (b + q) ∧ M'.1 7 0 6 = nI (dv T b q) ∧ q + rnL isDg T (b + q) = rnL isDg T b ∧ fi (fun k _ i => k = 7 ∧ (i = 3 ∨ i = 6)) M M') ?_ F (T.length - b) M (by omega) ⟨0, hb, rfl, h3, h6, by rw [Nat.zero_add]; rfl, fi_rf⟩
  rintro n M2 ⟨q, hq, rfl, h1, h6', h2, f2⟩
  have hT2 := TpR_c hT f2 (fun k n i q => by omega)
  simp only [b_X6_readNumber_1, b_X6_readNumber_1c]
  rw [h1, hT2.1.1, ok_ite, nI_leI (by omega) (by omega)]
  refine ⟨fun c => ok_some.mpr ?_, fun c => ?_⟩
  · rw [rn_stop (fun h => by omega), Nat.add_zero] at h2
    rw [← h2]; exact ⟨h1, h6', f2⟩
  have hq' : b + q < T.length := by omega
  have e40 : M2.1 40 0 (b + q) = sg T (b + q) := hT2.1.2 _ _ (sg_get hq')
  have hin : vp_in (nI (b + q)) 1000 := vp_in_nI (by omega) (by decide)
  rw [ok_gi, nI_clamp (by omega), e40, ok_cb]
  refine ⟨hin, ok_mono digit_ok (fun r hr => ?_)⟩
  subst hr
  dsimp only
  rw [ok_ite]
  refine ⟨fun ql => ?_, fun ql => ok_some.mpr ?_⟩
  · obtain ⟨m, m1, m2, em⟩ := isDg_n ql
    rw [ok_gi, ok_nm, ok_nm, ok_some, h1, nI_clamp (by omega), e40, em, h6']
    have ev : (nI (dv T b q) * (10 : Int32)) + (nI m - (48 : Int32)) = nI (dv T b (q + 1)) := by
      show (nI (dv T b q) * nI 10) + (nI m - nI 48) = nI (dv T b q * 10 + ((sg T (b + q)).toNatClampNeg - 48))
      rw [pk_mul, nI_sub m1, nI_add, em, nI_clamp (by omega)]
    rw [ev]
    have f3 : fi (fun k _ i => k = 7 ∧ (i = 3 ∨ i = 6)) M2 (sI (sI M2 7 0 6 (nI (dv T b (q + 1)))) 7 0 3 ((sI M2 7 0 6 (nI (dv T b (q + 1)))).1 7 0 3 + 1)) := fi_sI (fi_sI fi_rf ⟨rfl, Or.inr rfl⟩) ⟨rfl, Or.inl rfl⟩
    refine ⟨hin, T.length - (b + (q + 1)), by omega, q + 1, by omega, rfl, ?_, ?_, ?_, fi_tr f2 f3⟩
    · rw [rII, if_pos ⟨rfl, rfl, rfl⟩, rII, if_neg (by omega), h1, nI_1]; rfl
    · rw [rII, if_neg (by omega), rII, if_pos ⟨rfl, rfl, rfl⟩]
    · rw [rn_step hq' ql] at h2
      rw [show b + (q + 1) = b + q + 1 by omega]; omega
  · rw [rn_stop (fun _ => by simpa using ql), Nat.add_zero] at h2
    rw [← h2]; exact ⟨h1, h6', f2⟩
theorem readNumber_ok {F : Nat} (hF : 2000 < F) {T : List Int32} {b : Nat} {M : mm} (hT : TpR T M) (hb : b ≤ T.length) (h3 : M.1 7 0 3 = nI b) (h5 : M.1 7 0 5 = nI b) (h7 : M.1 7 0 7 = -1) :
    ok (m_X6_readNumber F M) (fun M' => TkC (if rnL isDg T b ≤ 4 then (3, [], nI (dv T b (rnL isDg T b))) else (1, [], 0)) b (b + rnL isDg T b) M' ∧ fi P7 M M') := by
  have hl := hT.2.2.1
  have hle := rn_le (P := isDg) hb
  unfold m_X6_readNumber
  rw [ok_nm, ok_bd]
  have f1 : fi (fun k _ i => k = 7 ∧ (i = 3 ∨ i = 6)) M (sI M 7 0 6 0) := fi_sI fi_rf ⟨rfl, Or.inr rfl⟩
  have v6 : (sI M 7 0 6 0).1 7 0 6 = nI 0 := by rw [rII, if_pos ⟨rfl, rfl, rfl⟩]; rfl
  have v3 : (sI M 7 0 6 0).1 7 0 3 = nI b := by rw [rII, if_neg (by omega)]; exact h3
  generalize sI M 7 0 6 0 = M1 at f1 v6 v3 ⊢
  have hT1 := TpR_c hT f1 (fun k n i q => by omega)
  refine ok_mono (rn1_ok hF hT1 hb v3 v6) (fun M7 h7' => ?_)
  obtain ⟨a3, a6, f7⟩ := h7'
  have f17 := fi_tr f1 f7
  have a5 : M7.1 7 0 5 = nI b := (fi_I f17 (by omega)).trans h5
  have a7 : M7.1 7 0 7 = -1 := (fi_I f17 (by omega)).trans h7
  have fP : fi P7 M M7 := fi_mono f17 (fun k n i q => by unfold P7; omega)
  have e8 : nI (rnL isDg T b) ≤ (4 : Int32) ↔ rnL isDg T b ≤ 4 := (nI_leI (by omega) (by omega) : nI (rnL isDg T b) ≤ nI 4 ↔ _)
  rw [ok_bd, ok_ite, a3, a5, nI_sub (by omega), Nat.add_sub_cancel_left, e8]
  have fin : ∀ v, fi (fun k _ i => k = 7 ∧ i = 4) M7 (sI M7 7 0 4 v) := fun v => fi_sI fi_rf ⟨rfl, rfl⟩
  refine ⟨fun q => ?_, fun q => ?_⟩
  · rw [if_pos q, ok_some, ok_nm, ok_some]
    have f8 := fin 3
    refine ⟨⟨by rw [fi_I f8 (by omega)]; exact a3, by rw [fi_I f8 (by omega)]; exact a5, by rw [rII, if_pos ⟨rfl, rfl, rfl⟩]; rfl, ?_, fun q2 => (by cases q2), fun _ => by rw [fi_I f8 (by omega)]; exact a6⟩, fi_tr fP (fi_mono f8 (fun k n i q => by unfold P7; omega))⟩
    rw [if_neg (show ¬ (3 : Nat) = 2 by decide), fi_I f8 (by omega)]; exact a7
  · rw [if_neg q, ok_some, ok_nm, ok_some]
    have f8 := fin 1
    refine ⟨⟨by rw [fi_I f8 (by omega)]; exact a3, by rw [fi_I f8 (by omega)]; exact a5, by rw [rII, if_pos ⟨rfl, rfl, rfl⟩]; rfl, ?_, fun q2 => (by cases q2), fun q2 => (by rcases q2 with q2 | q2 <;> cases q2)⟩, fi_tr fP (fi_mono f8 (fun k n i q => by unfold P7; omega))⟩
    rw [if_neg (by decide), fi_I f8 (by omega)]; exact a7
theorem next_ok {F : Nat} (hF : 2000 < F) {T : List Int32} {p : Nat} {M : mm} (hT : TpR T M) (hp : p ≤ T.length) (h : M.1 7 0 3 = nI p) :
    ok (m_X6_next F M) (fun M' => TkC (tkA T p) (tkB T p) (tkE T p) M' ∧ fi P7 M M') := by
  have hl := hT.2.2.1
  have hb : tkB T p ≤ T.length := rn_le hp
  unfold m_X6_next
  rw [ok_bd]
  refine ok_mono (nx1_ok hF hT hp h) (fun M3 h3 => ?_)
  obtain ⟨a3, f3⟩ := h3
  rw [ok_nm, ok_nm, a3]
  have f5 : fi P7 M3 (sI (sI M3 7 0 5 (nI (tkB T p))) 7 0 7 (-1)) := fi_sI (fi_sI fi_rf ⟨rfl, by decide, by decide⟩) ⟨rfl, by decide, by decide⟩
  have v5 : (sI (sI M3 7 0 5 (nI (tkB T p))) 7 0 7 (-1)).1 7 0 5 = nI (tkB T p) := by rw [rII, if_neg (by omega), rII, if_pos ⟨rfl, rfl, rfl⟩]
  have v7 : (sI (sI M3 7 0 5 (nI (tkB T p))) 7 0 7 (-1)).1 7 0 7 = -1 := by rw [rII, if_pos ⟨rfl, rfl, rfl⟩]
  have v3 : (sI (sI M3 7 0 5 (nI (tkB T p))) 7 0 7 (-1)).1 7 0 3 = nI (tkB T p) := by rw [rII, if_neg (by omega), rII, if_neg (by omega)]; exact a3
  generalize sI (sI M3 7 0 5 (nI (tkB T p))) 7 0 7 (-1) = M5 at f5 v5 v7 v3 ⊢
  have f05 := fi_tr f3 f5
  have hT5 := TpR_c hT f05 (fun k n i q => by unfold P7 at q; omega)
  rw [ok_ite, v3, hT5.1.1, nI_ltI (by omega) (by omega)]
  refine ⟨fun q => ?_, fun q => ?_⟩
  · have nq : ¬ T.length ≤ tkB T p := by omega
    have e40 : M5.1 40 0 (tkB T p) = sg T (tkB T p) := hT5.1.2 _ _ (sg_get q)
    have hin : vp_in (nI (tkB T p)) 1000 := vp_in_nI (by omega) (by decide)
    have eA : tkA T p = if isLt (sg T (tkB T p)) = true then (if rnL isLt T (tkB T p) ≤ 8 then (2, lw T (tkB T p) (rnL isLt T (tkB T p)), 0) else (1, [], 0)) else if isDg (sg T (tkB T p)) = true then (if rnL isDg T (tkB T p) ≤ 4 then (3, [], nI (dv T (tkB T p) (rnL isDg T (tkB T p)))) else (1, [], 0)) else if isSn (sg T (tkB T p)) = true then (4, [], sg T (tkB T p)) else (1, [], 0) := if_neg nq
    have eE : tkE T p = if isLt (sg T (tkB T p)) = true then tkB T p + rnL isLt T (tkB T p) else if isDg (sg T (tkB T p)) = true then tkB T p + rnL isDg T (tkB T p) else tkB T p + 1 := if_neg nq
    rw [eA, eE, ok_gi, nI_clamp (by omega), e40, ok_cb]
    refine ⟨hin, ok_mono letter_ok (fun r hr => ?_)⟩
    subst hr
    dsimp only
    rw [ok_ite]
    refine ⟨fun q2 => ?_, fun q2 => ?_⟩
    · rw [if_pos q2, if_pos q2, ok_cv]
      exact ok_mono (readWord_ok hF hT5 hb v3 v5 v7) (fun M' hM' => ok_some.mpr ⟨hM'.1, fi_tr f05 hM'.2⟩)
    · rw [if_neg q2, if_neg q2, v3, ok_gi, nI_clamp (by omega), e40, ok_cb]
      refine ⟨hin, ok_mono digit_ok (fun r hr => ?_)⟩
      subst hr
      dsimp only
      rw [ok_ite]
      refine ⟨fun q3 => ?_, fun q3 => ?_⟩
      · rw [if_pos q3, if_pos q3, ok_cv]
        exact ok_mono (readNumber_ok hF hT5 hb v3 v5 v7) (fun M' hM' => ok_some.mpr ⟨hM'.1, fi_tr f05 hM'.2⟩)
      · rw [if_neg q3, if_neg q3, v3, ok_gi, ok_nm, nI_clamp (by omega), e40, ok_cb]
        refine ⟨hin, ?_⟩
        have f10 : fi P7 M5 (sI M5 7 0 6 (sg T (tkB T p))) := fi_sI fi_rf ⟨rfl, by decide, by decide⟩
        have v6 : (sI M5 7 0 6 (sg T (tkB T p))).1 7 0 6 = sg T (tkB T p) := by rw [rII, if_pos ⟨rfl, rfl, rfl⟩]
        have w3 : (sI M5 7 0 6 (sg T (tkB T p))).1 7 0 3 = nI (tkB T p) := by rw [rII, if_neg (by omega)]; exact v3
        have w5 : (sI M5 7 0 6 (sg T (tkB T p))).1 7 0 5 = nI (tkB T p) := by rw [rII, if_neg (by omega)]; exact v5
        have w7 : (sI M5 7 0 6 (sg T (tkB T p))).1 7 0 7 = -1 := by rw [rII, if_neg (by omega)]; exact v7
        generalize sI M5 7 0 6 (sg T (tkB T p)) = M10 at f10 v6 w3 w5 w7 ⊢
        rw [v6]
        refine ok_mono signL_ok (fun r hr => ?_)
        subst hr
        dsimp only
        have fin : ∀ v, fi P7 M10 (sI (sI M10 7 0 4 v) 7 0 3 ((sI M10 7 0 4 v).1 7 0 3 + 1)) := fun v => fi_sI (fi_sI fi_rf ⟨rfl, by decide, by decide⟩) ⟨rfl, by decide, by decide⟩
        have g3 : ∀ v, (sI (sI M10 7 0 4 v) 7 0 3 ((sI M10 7 0 4 v).1 7 0 3 + 1)).1 7 0 3 = nI (tkB T p + 1) := fun v => by rw [rII, if_pos ⟨rfl, rfl, rfl⟩, rII, if_neg (by omega), w3, nI_1]
        have g4 : ∀ v, (sI (sI M10 7 0 4 v) 7 0 3 ((sI M10 7 0 4 v).1 7 0 3 + 1)).1 7 0 4 = v := fun v => by rw [rII, if_neg (by omega), rII, if_pos ⟨rfl, rfl, rfl⟩]
        have g : ∀ v j, j = 5 ∨ j = 6 ∨ j = 7 → (sI (sI M10 7 0 4 v) 7 0 3 ((sI M10 7 0 4 v).1 7 0 3 + 1)).1 7 0 j = M10.1 7 0 j := fun v j hj => by rw [rII, if_neg (by omega), rII, if_neg (by omega)]
        rw [ok_bd, ok_ite]
        refine ⟨fun q4 => ?_, fun q4 => ?_⟩
        · rw [if_pos q4, ok_some, ok_nm, ok_nm, ok_some]
          refine ⟨⟨g3 4, (g 4 5 (by omega)).trans w5, g4 4, ?_, fun q5 => (by cases q5), fun _ => (g 4 6 (by omega)).trans v6⟩, fi_tr f05 (fi_tr f10 (fin 4))⟩
          rw [if_neg (show ¬ (4 : Nat) = 2 by decide)]; exact (g 4 7 (by omega)).trans w7
        · rw [if_neg q4, ok_some, ok_nm, ok_nm, ok_some]
          refine ⟨⟨g3 1, (g 1 5 (by omega)).trans w5, g4 1, ?_, fun q5 => (by cases q5), fun q5 => (by rcases q5 with q5 | q5 <;> cases q5)⟩, fi_tr f05 (fi_tr f10 (fin 1))⟩
          rw [if_neg (by decide)]; exact (g 1 7 (by omega)).trans w7
  · have eA : tkA T p = (0, [], 0) := if_pos (by omega)
    have eE : tkE T p = tkB T p := if_pos (by omega)
    rw [eA, eE, ok_nm, ok_some]
    have f18 : fi P7 M5 (sI M5 7 0 4 0) := fi_sI fi_rf ⟨rfl, by decide, by decide⟩
    refine ⟨⟨by rw [rII, if_neg (by omega)]; exact v3, by rw [rII, if_neg (by omega)]; exact v5, by rw [rII, if_pos ⟨rfl, rfl, rfl⟩]; rfl, ?_, fun q5 => (by cases q5), fun q5 => (by rcases q5 with q5 | q5 <;> cases q5)⟩, fi_tr f05 f18⟩
    rw [if_neg (by decide), rII, if_neg (by omega)]; exact v7
