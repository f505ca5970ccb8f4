/-! feed, the calls -/
def sT (A : sty) (T : List Int32) : sty := (aC A, aM A, aU A, aK A, aL A, aH A, T)
noncomputable def feedT (T : List Int32) (a b c : Int64) : List Int32 := fd8 (fd8 (fd8 T a 8) b 8) c 8
theorem feedT_g {T : List Int32} {a b c : Int64} (h : TgOk T) : TgOk (feedT T a b c) := fd8_g (fd8_g (fd8_g h 8) 8) 8
theorem AOK_T {A : sty} {N : Nat} {T : List Int32} (hA : AOK A N) (g : TgOk T) : AOK (sT A T) (N + 1) := by
  obtain ⟨h1, h2, h3, h4, h5, h6, h7, h8⟩ := AOK_up hA
  exact ⟨h1, h2, h3, h4, h5, h6, g.1, g.2⟩
theorem feed_g {A : sty} {N : Nat} {a b c : Int64} (hA : AOK A N) : AOK (sT A (feedT (aT A) a b c)) (N + 1) := AOK_T hA (feedT_g (hA.2.2.2.2.2.2 : TgOk (aT A)))
theorem RCs_T {A : sty} {M M' : mm} {T : List Int32} (h : RCs A M) (f : fi (fun k n i => k = 40 ∨ (k = 7 ∧ i = 2)) M M') (hT : TpC M' T) : RCs (sT A T) M' := by
  obtain ⟨h1, h2, h3, h4, h5, -⟩ := h
  exact ⟨MoM_c h1 (fun j _ => fi_I f (by omega)), UnC_c h2 (fun j _ => fi_I f (by omega)) (fun n j _ _ => fi_I f (by omega)), MkC_c h3 (fi_I f (by omega)) (fun n j _ _ => fi_I f (by omega)) (fun k n j hk _ _ => fi_I f (by omega)), ToL_c h4 (fun k j hk => fi_I f (by omega)), ToH_c h5 (fun j => fi_I f (by omega)), hT⟩
theorem feedC {F : Nat} (hF : 1000 < F) {A : sty} {N : Nat} {M : mm} {a b c : Int64} (hA : AOK A N) (h : RC A N M) : ok (m_X11_feed F a b c M) (QC (sT A (feedT (aT A) a b c)) N M (nI (feedT (aT A) a b c).length)) := by
  obtain ⟨o, d, hod, h2, h3, h4, h5, h6⟩ := id h
  have hT : TgOk (aT A) := hA.2.2.2.2.2.2
  unfold m_X11_feed
  rw [ok_cv]
  refine ok_mono (add_ok (a := a) hF hT h4.2.2.2.2.2) (fun M1 h1 => ?_)
  rw [ok_cv]
  refine ok_mono (add_ok (a := b) hF (fd8_g hT 8) h1.1) (fun M2 h2' => ?_)
  rw [ok_cv]
  refine ok_mono (add_ok (a := c) hF (fd8_g (fd8_g hT 8) 8) h2'.1) (fun M3 h3' => ok_some.mpr ?_)
  have f := fi_tr h1.2 (fi_tr h2'.2 h3'.2)
  have t3 : TpC M3 (feedT (aT A) a b c) := h3'.1
  generalize feedT (aT A) a b c = T' at t3 ⊢
  exact ⟨t3.1, RC_up ⟨o, d, hod, by rw [f.1]; exact h2, by rw [f.1]; exact h3, RCs_T h4 f t3, CS_fi h5 f (fun k n i q => by omega), WhI_fi h6 f (fun k n i q => by omega)⟩, FrC_fi f (fun k n i q => by omega)⟩
noncomputable def fdN (T : List Int32) (a b c : Int64) : Nat → List Int32
  | 0 => T
  | n + 1 => fd1 (fdN T a b c n) (byL (if n < 8 then a else if n < 16 then b else c) (n % 8))
theorem fdN_24 {T : List Int32} {a b c : Int64} : fdN T a b c 24 = feedT T a b c := by
  unfold feedT
  simp [fdN, fd8]
theorem fdN_g {T : List Int32} {a b c : Int64} (h : TgOk T) : ∀ n, TgOk (fdN T a b c n)
  | 0 => h
  | n + 1 => fd1_g (fdN_g h n)
theorem feedM {F : Nat} (hF : 1000 < F) {A : sty} {N : Nat} {M : mm} {a b c : Int64} (hA : AOK A N) (h : RM A M) : ok (m_X12_feed F a b c M) (QM (sT A (feedT (aT A) a b c)) M (nI (feedT (aT A) a b c).length)) := by
  have hT : TgOk (aT A) := hA.2.2.2.2.2.2
  have h1 : RM A (sI M 13 0 0 0) := RM_fi h thr_f PT_GM
  have f1 : fi PT M (sI M 13 0 0 0) := thr_f
  unfold m_X12_feed
  rw [ok_nm]
  generalize sI M 13 0 0 0 = M1 at h1 f1 ⊢
  obtain ⟨hmo, s, u, k, l, e, t⟩ := id h1
  rw [ok_bd]
  refine ok_mono (Q := fun M' => TpM M' (feedT (aT A) a b c) ∧ fi (fun k n i => k = 63 ∨ (k = 13 ∧ i = 1)) M1 M') ?_ (fun M9 h9 => ok_some.mpr ?_)
  · refine ok_for 24 (fun i z => z.1 = nI i ∧ TpM z.2 (fdN (aT A) a b c i) ∧ fi (fun k n i => k = 63 ∨ (k = 13 ∧ i = 1)) M1 z.2) 0 (by omega) (by omega) ⟨rfl, t, fi_rf⟩ ?_
    rintro i ⟨x2, M3⟩ hi ⟨e1, ⟨t1, t2⟩, f3⟩
    dsimp only at e1 t1 t2 f3
    subst e1
    simp only [b_X12_feed_1, b_X12_feed_1c]
    have e24 : (24 : Int32) ≤ nI i ↔ 24 ≤ i := (nI_leI (by omega) (by omega) : nI 24 ≤ nI i ↔ 24 ≤ i)
    have e8 : (8 : Int32) ≤ nI i ↔ 8 ≤ i := (nI_leI (by omega) (by omega) : nI 8 ≤ nI i ↔ 8 ≤ i)
    have e16 : (16 : Int32) ≤ nI i ↔ 16 ≤ i := (nI_leI (by omega) (by omega) : nI 16 ≤ nI i ↔ 16 ≤ i)
    rw [ok_ite, e24]
    refine ⟨fun q => ok_some.mpr ?_, fun q => ?_⟩
    · have : i = 24 := by omega
      subst this
      rw [← fdN_24]; exact ⟨⟨t1, t2⟩, f3⟩
    rw [ok_bd]
    refine ok_mono (Q := fun v => v = if i < 8 then a else if i < 16 then b else c) ?_ (fun v hv => ?_)
    · rw [ok_ite, e8]
      refine ⟨fun q2 => ?_, fun q2 => ok_some.mpr (by rw [if_pos (by omega)])⟩
      have n8 : ¬ i < 8 := by omega
      rw [if_neg n8, ok_ite, e16]
      exact ⟨fun q3 => ok_some.mpr (by rw [if_neg (show ¬ i < 16 by omega)]), fun q3 => ok_some.mpr (by rw [if_pos (show i < 16 by omega)])⟩
    subst hv
    have e56 : ∀ i, i < 24 → Int32.toInt64 ((56 : Int32) - ((8 : Int32) * (nI i &&& (7 : Int32)))) = lN (56 - 8 * (i % 8)) := by decide +kernel
    have hm := Nat.mod_lt i (show 0 < 8 by decide)
    rw [ok_nm, e56 i (by omega), byL_u _ hm, ok_bd]
    have g := fdN_g (a := a) (b := b) (c := c) hT i
    have hlen := g.1
    have hb := byL_b (if i < 8 then a else if i < 16 then b else c) (i % 8)
    have en : fdN (aT A) a b c (i + 1) = fd1 (fdN (aT A) a b c i) (byL (if i < 8 then a else if i < 16 then b else c) (i % 8)) := rfl
    rw [en]
    generalize byL (if i < 8 then a else if i < 16 then b else c) (i % 8) = x at hb ⊢
    have z10 : (10 : Int32).toInt = 10 := rfl
    have z32 : (32 : Int32).toInt = 32 := rfl
    have z126 : (126 : Int32).toInt = 126 := rfl
    refine ok_mono (Q := fun M' => TpM M' (fd1 (fdN (aT A) a b c i) x) ∧ fi (fun k n i => k = 63 ∨ (k = 13 ∧ i = 1)) M1 M') ?_ (fun M' hM' => ok_some.mpr ⟨by omega, nI_1 i, hM'⟩)
    have no : ¬ ((fdN (aT A) a b c i).length < 1000 ∧ okS x) → TpM M3 (fd1 (fdN (aT A) a b c i) x) ∧ fi (fun k n i => k = 63 ∨ (k = 13 ∧ i = 1)) M1 M3 := fun q => by
      rw [fd1_n q]; exact ⟨⟨t1, t2⟩, f3⟩
    have e1000 : (1000 : Int32) ≤ nI (fdN (aT A) a b c i).length ↔ 1000 ≤ (fdN (aT A) a b c i).length := (nI_leI (by omega) (by omega) : nI 1000 ≤ nI _ ↔ _)
    rw [t1, ok_ite, e1000]
    refine ⟨fun q2 => ok_some.mpr (no (fun q3 => by omega)), fun q2 => ?_⟩
    refine ok_jn (P := okS x) (fun hk => ?_) (fun k hk => ?_)
    · show ok (gi (nI (fdN (aT A) a b c i).length) 1000 _) _
      rw [ok_gi, ok_nm, ok_nm, ok_some, nI_clamp (by omega)]
      have f4 : fi (fun k n i => k = 63 ∨ (k = 13 ∧ i = 1)) M3 (sI (sI M3 63 0 (fdN (aT A) a b c i).length x) 13 0 1 ((sI M3 63 0 (fdN (aT A) a b c i).length x).1 13 0 1 + 1)) := fi_sI (fi_sI fi_rf (Or.inl rfl)) (Or.inr ⟨rfl, rfl⟩)
      refine ⟨vp_in_nI (by omega) (by decide), ?_, fi_tr f3 f4⟩
      rw [fd1_y (by omega) hk]
      refine ⟨?_, fun i' y hy => ?_⟩
      · rw [rII, if_pos ⟨rfl, rfl, rfl⟩, rII, if_neg (by omega), t1, nI_1, List.length_append, List.length_singleton]
      · rw [rII, if_neg (by omega), rII]
        rcases sn_get hy with ⟨p, q3⟩ | ⟨p, q3⟩
        · rw [if_neg (by omega)]; exact t2 i' y q3
        · rw [if_pos ⟨rfl, rfl, p⟩, q3]
    · rw [ok_ite]
      refine ⟨fun q2 => hk (Or.inl q2), fun q2 => ?_⟩
      rw [ok_ite]
      refine ⟨fun q3 => ok_some.mpr (no (fun q4 => ?_)), fun q3 => ?_⟩
      · rcases q4.2 with q5 | q5
        · exact q2 q5
        · simp only [i_lt, i_le] at q3 q5; omega
      rw [ok_ite]
      refine ⟨fun q4 => ok_some.mpr (no (fun q5 => ?_)), fun q4 => hk (Or.inr (by simp only [i_lt, i_le] at q3 q4 ⊢; omega))⟩
      rcases q5.2 with q6 | q6
      · exact q2 q6
      · simp only [i_lt, i_le] at q4 q6; omega
  · obtain ⟨t9, f9⟩ := h9
    generalize feedT (aT A) a b c = T' at t9 ⊢
    have fA : fi (fun k n i => (k = 13 ∧ i = 0) ∨ k = 63 ∨ (k = 13 ∧ i = 1)) M M9 := fi_tr (fi_mono f1 (fun k n i q => Or.inl q)) (fi_mono f9 (fun k n i q => Or.inr q))
    refine ⟨t9.1, ⟨RMo_fr hmo (fr_fi f9) (fun k q => by obtain ⟨i, q⟩ := q; omega), ⟨by rw [fi_I f9 (by omega)]; exact s.1, by rw [fi_I f9 (by omega)]; exact s.2⟩, UnM_fi u f9 (fun k n i q => by omega), fun q hq => ⟨by rw [fi_I f9 (by omega)]; exact (k q hq).1, fun v hv => ?_⟩, LiM_c l (fun k j hk => fi_I f9 (by omega)), HeM_c e (fun k j hk => fi_I f9 (by omega)), t9⟩, FrM_fi fA (fun k n i q => by omega)⟩
    obtain ⟨a1, b1, c1⟩ := (k q hq).2 v hv
    exact ⟨RwM_c a1 (fun j => fi_I f9 (by omega)), LiM_c b1 (fun k j hk => fi_I f9 (by omega)), HeM_c c1 (fun k j hk => fi_I f9 (by omega))⟩
