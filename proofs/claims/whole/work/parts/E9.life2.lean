/-! the class's life -/
theorem copyLife_ok {F : Nat} (hF : 1000 < F) {M : mm} {L : lty} (hl : L.length ≤ 40) (hL : ToL 1 M L) : ok (m_X8_copyLife F 0 1 M) (fun M' => ToL 0 M' L ∧ fi (fun k n i => ((k = 9 ∧ i = 0) ∨ k = 45 ∨ k = 46) ∧ n = 0) M M') := by
  unfold m_X8_copyLife
  rw [ok_nm, ok_bd]
  refine ok_mono (Q := fun M1 => fi (fun k n i => ((k = 9 ∧ i = 0) ∨ k = 45 ∨ k = 46) ∧ n = 0) M M1 ∧ M1.1 9 0 0 = M.1 9 1 0 ∧ ∀ j, j < 40 → M1.1 45 0 j = M.1 45 1 j ∧ M1.1 46 0 j = M.1 46 1 j) ?_ (fun M1 h1 => ?_)
  · refine ok_for 40 (fun i z => z.1 = nI i ∧ fi (fun k n i => ((k = 9 ∧ i = 0) ∨ k = 45 ∨ k = 46) ∧ n = 0) M z.2 ∧ z.2.1 9 0 0 = M.1 9 1 0 ∧ ∀ j, j < i → z.2.1 45 0 j = M.1 45 1 j ∧ z.2.1 46 0 j = M.1 46 1 j) 0 (by omega) (by omega) ⟨rfl, fi_sI fi_rf ⟨Or.inl ⟨rfl, rfl⟩, rfl⟩, by simp [rII], fun j hj => by omega⟩ ?_
    rintro i ⟨x2, M3⟩ hi ⟨e1, hf, h9, hc⟩
    dsimp only at e1 hf h9 hc
    subst e1
    simp only [b_X8_copyLife_1, b_X8_copyLife_1c, ok_ite, nI_lit_le (show 40 < 2 ^ 31 by decide) (show i < 2 ^ 31 by omega)]
    refine ⟨fun q => ?_, fun q => ?_⟩
    · have : i = 40 := by omega
      subst this
      exact ok_some.mpr ⟨hf, h9, hc⟩
    · have hin : vp_in (nI i) 40 := vp_in_nI (by omega) (by decide)
      simp only [ok_gi, ok_nm, ok_some, nI_clamp (show i < 2 ^ 31 by omega)]
      have g45 : M3.1 45 1 i = M.1 45 1 i := fi_I hf (by omega)
      have g46 : M3.1 46 1 i = M.1 46 1 i := fi_I hf (by omega)
      refine ⟨hin, hin, hin, hin, by omega, nI_1 i, fi_sI (fi_sI hf ⟨Or.inr (Or.inl rfl), rfl⟩) ⟨Or.inr (Or.inr rfl), rfl⟩, by simp [rII]; exact h9, fun j hj => ?_⟩
      by_cases e : j = i
      · subst e; simp [rII, g45, g46]
      · simp [rII, e]; exact hc j (by omega)
  · obtain ⟨f1, c9, cc⟩ := h1
    obtain ⟨l1, l2⟩ := hL
    refine ok_some.mpr ⟨⟨c9.trans l1, fun i e he => ?_⟩, f1⟩
    have hi := (List.getElem?_eq_some_iff.mp he).1
    obtain ⟨d1, d2⟩ := cc i (by omega)
    rw [d1, d2]; exact l2 i e he
def PLg : Nat → Nat → Nat → Prop := fun k n i => PLf k n i ∨ (k = 9 ∧ n = 1)
def QLi (T : List Int32) (Q : nmt) (o : Nat) (M : mm) (r : Int32 × mm) : Prop := fi PLg (sR (sR M 6 0 2 o) 6 0 3 1) r.2 ∧ TpR T r.2 ∧ match spLife T Q with
  | .inl (k, q) => r.1 = nI (k + 16 * tkB T q)
  | .inr L => r.1 = 0 ∧ ToL 1 r.2 L ∧ LfQ Q L
theorem readLife_ok {F : Nat} (hF : 2000 < F) {o : Nat} {T : List Int32} {Q : nmt} {M : mm} (hq1 : Q.1.length ≤ 10) (hq2 : Q.2.length ≤ 10) (hT : TpR T M) (hn1 : NmC 24 o Q.1 M) (hn2 : NmC 30 o Q.2 M) (hc1 : M.1 1 o 5 = nI Q.1.length) (hc2 : M.1 1 o 13 = nI Q.2.length) : ok (m_X5_readLife F o 1 M) (QLi T Q o M) := by
  have hlen := hT.2.2.1
  unfold m_X5_readLife QLi
  rw [ok_nm, ok_nm]
  have r2 : (sR (sR M 6 0 2 o) 6 0 3 1).2.2 6 0 2 = o := by simp [rRR]
  have r3 : (sR (sR M 6 0 2 o) 6 0 3 1).2.2 6 0 3 = 1 := by simp [rRR]
  have t0 : TpR T (sR (sR M 6 0 2 o) 6 0 3 1) := hT
  have n1 : NmC 24 o Q.1 (sR (sR M 6 0 2 o) 6 0 3 1) := hn1
  have n2 : NmC 30 o Q.2 (sR (sR M 6 0 2 o) 6 0 3 1) := hn2
  have c1 : (sR (sR M 6 0 2 o) 6 0 3 1).1 1 o 5 = nI Q.1.length := hc1
  have c2 : (sR (sR M 6 0 2 o) 6 0 3 1).1 1 o 13 = nI Q.2.length := hc2
  generalize sR (sR M 6 0 2 o) 6 0 3 1 = Ms at r2 r3 t0 n1 n2 c1 c2 ⊢
  rw [r3, ok_cv]
  unfold m_X8_clear
  rw [ok_nm, ok_nm, ok_nm, ok_nm, ok_some, ok_nm, ok_cv]
  unfold m_X6_start
  rw [ok_nm, ok_cv]
  have f4 : fi (fun k n i => (k = 9 ∧ n = 1) ∨ (k = 6 ∧ n = 0 ∧ i = 4) ∨ (k = 7 ∧ n = 0 ∧ i = 3)) Ms (sI (sI (sI (sI (sI (sI Ms 9 1 0 0) 9 1 3 0) 9 1 4 0) 9 1 5 0) 6 0 4 0) 7 0 3 0) := fi_sI (fi_sI (fi_sI (fi_sI (fi_sI (fi_sI fi_rf (Or.inl ⟨rfl, rfl⟩)) (Or.inl ⟨rfl, rfl⟩)) (Or.inl ⟨rfl, rfl⟩)) (Or.inl ⟨rfl, rfl⟩)) (Or.inr (Or.inl ⟨rfl, rfl, rfl⟩))) (Or.inr (Or.inr ⟨rfl, rfl, rfl⟩))
  have u3 : (sI (sI (sI (sI (sI (sI Ms 9 1 0 0) 9 1 3 0) 9 1 4 0) 9 1 5 0) 6 0 4 0) 7 0 3 0).1 7 0 3 = nI 0 := by rw [rII, if_pos ⟨rfl, rfl, rfl⟩]; rfl
  have u9 : (sI (sI (sI (sI (sI (sI Ms 9 1 0 0) 9 1 3 0) 9 1 4 0) 9 1 5 0) 6 0 4 0) 7 0 3 0).1 9 1 0 = 0 := by simp [rII]
  generalize sI (sI (sI (sI (sI (sI Ms 9 1 0 0) 9 1 3 0) 9 1 4 0) 9 1 5 0) 6 0 4 0) 7 0 3 0 = M4 at f4 u3 u9 ⊢
  have t4 : TpR T M4 := TpR_c t0 f4 (fun k n i q => by omega)
  refine ok_mono (next_ok hF t4 (Nat.zero_le _) u3) (fun M5 h5 => ok_some.mpr ?_)
  obtain ⟨k5, f5⟩ := h5
  have a5 : AtC T 0 M5 := ⟨Nat.zero_le _, TpR_c t4 f5 (fun k n i q => by unfold P7 at q; omega), k5⟩
  have fs : fi PLg Ms M5 := fi_tr (fi_mono f4 (fun k n i q => by unfold PLg PLf PT6 P7; omega)) (fi_mono f5 (fun k n i q => Or.inl (PLf_6 k n i (P7_6 k n i q))))
  have k5 : LfK o Q [] M5 := by
    refine ⟨⟨(fi_I f5 (by unfold P7; omega)).trans u9, fun i e he => by cases he⟩, ⟨by rw [fs.1]; exact r2, by rw [fs.1]; exact r3⟩, ⟨NmC_e n1 rfl (fun i => fi_L fs (by unfold PLg PLf PT6 P7; omega)), NmC_e n2 rfl (fun i => fi_L fs (by unfold PLg PLf PT6 P7; omega))⟩, ?_, ?_⟩
    · rw [fi_I fs (by unfold PLg PLf PT6 P7; omega)]; exact c1
    · rw [fi_I fs (by unfold PLg PLf PT6 P7; omega)]; exact c2
  rw [ok_bd]
  refine ok_mono (Q := Sum.elim (fun M9 => ∃ k q, spLife T Q = .inl (k, q) ∧ M9.1 6 0 4 = nI (k + 16 * tkB T q) ∧ TpR T M9 ∧ fi PLf M5 M9) (fun M10 => ∃ L, spLife T Q = .inr L ∧ LfK o Q L M10 ∧ LfQ Q L ∧ TpR T M10 ∧ fi PLf M5 M10)) ?_ (fun r hr => ?_)
  · refine ok_for 1001 (fun c z => z.1 = nI c ∧ ∃ q L fu, c ≤ q ∧ spLife T Q = spLifeL T Q (fu + 1) q L ∧ T.length < fu + 1 + q ∧ AtC T q z.2 ∧ LfK o Q L z.2 ∧ LfQ Q L ∧ fi PLf M5 z.2) 0 (by omega) (by omega) ⟨rfl, 0, [], T.length, Nat.le_refl _, rfl, by omega, a5, k5, ⟨Nat.zero_le _, fun e he => by cases he⟩, fi_rf⟩ ?_
    rintro c ⟨x5, M6⟩ hc ⟨e1, q, L, fu, hcq, hR, hfu, a6, k6, hL, fz⟩
    dsimp only at e1 a6 k6 fz
    subst e1
    have hq := a6.1
    have e1000 : (1000 : Int32) < nI c ↔ 1000 < c := (nI_ltI (by omega) (by omega) : nI 1000 < nI c ↔ _)
    have ek : nI (tkA T q).1 = (0 : Int32) ↔ (tkA T q).1 = 0 := kd_eq T q (k := 0) (by decide)
    have eU : spLifeL T Q (fu + 1) q L = if (tkA T q).1 = 0 then .inr L else match spLf T Q L q with
        | .inl e => .inl e
        | .inr (p', D') => spLifeL T Q fu p' (decL D') := rfl
    simp only [b_X5_readLife_1, b_X5_readLife_1c]
    rw [ok_ite, e1000]
    refine ⟨fun r => by omega, fun _ => ?_⟩
    rw [ok_ite, a6.2.2.2.2.1, ek]
    refine ⟨fun r => ok_some.mpr ⟨L, ?_, k6, hL, a6.2.1, fz⟩, fun r => ?_⟩
    · rw [hR, eU, if_pos r]
    rw [if_neg r] at eU
    rw [ok_cb]
    refine ok_mono (readLifeLine_ok hF hq1 hq2 a6 k6 hL) (fun r7 h7 => ?_)
    have hb := Rs_lf (T := T) (Q := Q) (L := L) hq
    obtain ⟨f7, h7⟩ := h7
    rw [ok_ite]
    cases eL : spLf T Q L q with
    | inl z =>
      obtain ⟨k, q'⟩ := z
      rw [eL] at h7 eU
      obtain ⟨s1, s2, s3⟩ := h7
      rw [s1]
      exact ⟨fun r => (by cases r), fun _ => ok_some.mpr ⟨k, q', hR.trans eU, s2, s3, fi_tr fz f7⟩⟩
    | inr z =>
      obtain ⟨p', D'⟩ := z
      rw [eL] at h7 eU hb
      obtain ⟨s1, s2, L', rfl, s3, s4⟩ := h7
      dsimp only at eU
      rw [dec_enc] at eU
      rw [s1]
      have hgt := tkE_gt hq r
      have hb1 := hb.1
      refine ⟨fun _ => ok_some.mpr ⟨by omega, nI_1 c, p', L', fu - 1, by omega, ?_, by omega, s2, s3, s4, fi_tr fz f7⟩, fun r => absurd rfl r⟩
      rw [show fu - 1 + 1 = fu by omega]; exact hR.trans eU
  · have m : ∀ M9, fi PLf M5 M9 → fi PLg Ms M9 := fun M9 f => fi_tr fs (fi_mono f (fun k n i q => Or.inl q))
    rcases r with M9 | M10
    · obtain ⟨k, q, e, h1, h2, h3⟩ := hr
      refine ok_some.mpr ?_
      rw [e]
      exact ⟨m _ h3, h2, h1⟩
    · obtain ⟨L, e, h1, h2, h3, h4⟩ := hr
      refine ok_some.mpr ?_
      rw [e]
      exact ⟨m _ h4, h3, rfl, h1.1, h2⟩
def sLf (A : sty) (L : lty) : sty := (aC A, aM A, aU A, aK A, L, aH A, [])
def lifeS (A : sty) (Q : nmt) : Int32 × sty := match spLife (aT A) Q with
  | .inl (k, q) => (nI (k + 16 * tkB (aT A) q), sT A [])
  | .inr L => (0, sLf A L)
theorem lifeC {F : Nat} (hF : 2000 < F) {A : sty} {Q : nmt} {N : Nat} {M : mm} (hA : AOK A N) (hQ : NOK A Q) (h : RCN A Q N M) : ok (m_X11_life F M) (fun r => r.1 = (lifeS A Q).1 ∧ RCN (lifeS A Q).2 Q (N + 1) r.2 ∧ FC M r.2) := by
  obtain ⟨h0, n1, n2, n3⟩ := h
  obtain ⟨o, d, hod, h2, h3, h4, h5, h6⟩ := h0
  have hT := AtT hA
  have hw := hA.1.1
  rw [h2] at n1 n2
  unfold m_X11_life lifeS
  rw [h2, ok_cl]
  refine ok_mono (readLife_ok hF (by have := hQ.1; omega) (by have := hQ.2; have := hw.2.2.1; omega) (T := aT A) ⟨h4.2.2.2.2.2, n3, hT⟩ n1 n2 (by rw [hQ.1]; exact h5.1.1.1.2.1) (by rw [hQ.2]; exact h5.1.1.1.2.2.1)) (fun r hr => ?_)
  obtain ⟨x2, M1⟩ := r
  obtain ⟨fz, t1, hr⟩ := hr
  dsimp only at fz t1
  have p6 : M1.2.2 12 0 6 = o := by rw [fz.1]; simp [rRR]; exact h2
  have p7 : M1.2.2 12 0 7 = d := by rw [fz.1]; simp [rRR]; exact h3
  have p1 : M1.2.2 11 0 1 = M.2.2 11 0 1 := by rw [fz.1]; simp [rRR]
  have fb : ∀ k n i, ¬ PLg k n i → M1.1 k n i = M.1 k n i ∧ M1.2.1 k n i = M.2.1 k n i := fz.2
  rw [ok_cv]
  unfold m_X6_clear
  rw [ok_nm, ok_nm, ok_some]
  have f3 : fi (fun k n i => k = 7 ∧ n = 0 ∧ (i = 2 ∨ i = 3)) M1 (sI (sI M1 7 0 2 0) 7 0 3 0) := fi_sI (fi_sI fi_rf ⟨rfl, rfl, Or.inl rfl⟩) ⟨rfl, rfl, Or.inr rfl⟩
  have u2 : (sI (sI M1 7 0 2 0) 7 0 3 0).1 7 0 2 = 0 := by rw [rII, if_neg (by omega), rII, if_pos ⟨rfl, rfl, rfl⟩]
  generalize sI (sI M1 7 0 2 0) 7 0 3 0 = M3 at f3 u2 ⊢
  have tp0 : ∀ M' : mm, M'.1 7 0 2 = 0 → TpC M' [] := fun M' e => ⟨e, fun i x hx => by cases hx⟩
  obtain ⟨r1, r2, r3, r4, r5, -⟩ := h4
  -- what stays, whatever comes of the life
  have fin : ∀ (L : lty) (M4 : mm), ToL 0 M4 L → fi (fun k n i => ((k = 9 ∧ i = 0) ∨ k = 45 ∨ k = 46) ∧ n = 0) M3 M4 → RCN (sLf A L) Q (N + 1) M4 ∧ FC M M4 := fun L M4 tL f4 => by
    have g : fi (fun k n i => PLg k n i ∨ (k = 7 ∧ n = 0 ∧ (i = 2 ∨ i = 3)) ∨ (((k = 9 ∧ i = 0) ∨ k = 45 ∨ k = 46) ∧ n = 0)) M (M4.1, M4.2.1, M.2.2) := ⟨rfl, fun k n i hk => by
      have a := f4.2 k n i (fun q => hk (Or.inr (Or.inr q)))
      have b := f3.2 k n i (fun q => hk (Or.inr (Or.inl q)))
      have c := fb k n i (fun q => hk (Or.inl q))
      exact ⟨a.1.trans (b.1.trans c.1), a.2.trans (b.2.trans c.2)⟩⟩
    have e : ∀ k n i, (k = 5 ∨ k = 12 ∨ k = 11 ∨ k = 55 ∨ k = 56 ∨ k = 48 ∨ ((k = 9 ∨ k = 45 ∨ k = 46) ∧ 2 ≤ n) ∨ (k = 9 ∧ n = 0 ∧ i ≠ 0)) → M4.1 k n i = M.1 k n i := fun k n i hk => (g.2 k n i (by unfold PLg PLf PT6 P7; omega)).1
    have en : ∀ k i, (k = 24 ∨ k = 30) → M4.2.1 k o i = M.2.1 k o i := fun k i hk => (g.2 k o i (by unfold PLg PLf PT6 P7; omega)).2
    have hcs : CS (aC A) o (M4.1, M4.2.1, M.2.2) := CS_fi h5 g (fun k n i q => by unfold PLg PLf PT6 P7 at q; omega)
    have hcs : CS (aC A) o M4 := hcs
    have er : ∀ k n i, M4.2.2 k n i = M1.2.2 k n i := fun k n i => by rw [f4.1, f3.1]
    refine ⟨⟨⟨o, d, hod, (er 12 0 6).trans p6, (er 12 0 7).trans p7, ⟨MoM_c r1 (fun j _ => e 5 7 j (by omega)), UnC_c r2 (fun j _ => e 12 0 j (by omega)) (fun n j _ _ => e 5 n j (by omega)), MkC_c r3 (e 12 0 17 (by omega)) (fun n j _ _ => e 5 n j (by omega)) (fun k n j hk _ _ => e k n j (by omega)), tL, ?_, tp0 M4 ?_⟩, hcs, ?_⟩, ?_, ?_, ?_⟩, ?_⟩
    · obtain ⟨q1, q2, q3⟩ := r5
      exact ⟨by rw [e 9 0 3 (by omega)]; exact q1, fun s hs => by rw [e 9 0 4 (by omega)]; exact q2 s hs, fun s hs => by rw [e 9 0 5 (by omega)]; exact q3 s hs⟩
    · rw [fi_I f4 (by omega)]; exact u2
    · refine WhI_up ?_
      have hw := WhI_fi h6 g (fun k n i q => by unfold PLg PLf PT6 P7 at q; omega)
      obtain ⟨a, b⟩ := hw
      refine ⟨a, b.imp id (fun ⟨b1, b2, b3⟩ => ⟨b1, ?_, b3⟩)⟩
      show M4.2.2 11 0 1 = o
      rw [er, p1]; exact b2
    · exact NmC_e n1 ((er 12 0 6).trans p6) (fun i => en 24 i (by omega))
    · exact NmC_e n2 ((er 12 0 6).trans p6) (fun i => en 30 i (by omega))
    · intro i hi
      rw [(g.2 41 0 i (by unfold PLg PLf PT6 P7; omega)).2]; exact n3 i hi
    · intro k n i hk
      exact g.2 k n i (by unfold PLg PLf PT6 P7; omega)
  have keep : ToL 0 M3 (aL A) := ToL_c r4 (fun k j hk => (f3.2 k 0 j (by omega)).1.trans (fb k 0 j (by unfold PLg PLf PT6 P7; omega)).1)
  rw [ok_ite]
  cases hS : spLife (aT A) Q with
  | inl z =>
    obtain ⟨k, q⟩ := z
    rw [hS] at hr
    have hr : x2 = nI (k + 16 * tkB (aT A) q) := hr
    obtain ⟨b1, b2⟩ := lifeL_b _ _ _ (Nat.zero_le _) k q hS
    subst hr
    refine ⟨fun e => absurd e (bad_ne hT.1 b1 b2), fun _ => ok_some.mpr ⟨rfl, ?_⟩⟩
    exact fin (aL A) M3 keep fi_rf
  | inr L =>
    rw [hS] at hr
    obtain ⟨hr, hL1, hLQ⟩ := hr
    dsimp only at hr hL1
    subst hr
    refine ⟨fun _ => ?_, fun e => absurd rfl e⟩
    rw [ok_cv]
    refine ok_mono (copyLife_ok (by omega) hLQ.1 (ToL_c hL1 (fun k j hk => (f3.2 k 1 j (by omega)).1))) (fun M4 h4 => ok_some.mpr ⟨rfl, ?_⟩)
    exact fin L M4 h4.1 h4.2
