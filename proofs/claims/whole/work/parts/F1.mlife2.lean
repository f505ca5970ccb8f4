/-! the reference's life -/
theorem lifeM {F : Nat} (hF : 2000 < F) {A : sty} {Q : nmt} {N : Nat} {M : mm} (hA : AOK A N) (hQ : NOK A Q) (h : RMN A Q M) : ok (m_X12_life F M) (fun r => r.1 = (lifeS A Q).1 ∧ RMN (lifeS A Q).2 Q r.2 ∧ FM M r.2) := by
  obtain ⟨h0, n1, n2⟩ := h
  have hT := AtT hA
  have hw := hA.1.1
  have hq1 : Q.1.length ≤ 10 := by have := hQ.1; omega
  have hq2 : Q.2.length ≤ 10 := by have := hQ.2; have := hw.2.2.1; omega
  have z54 : ∀ M' : mm, M'.1 13 0 1 = 0 → TpM M' [] := fun M' e => ⟨e, fun i x hx => by cases hx⟩
  unfold m_X12_life lifeS
  rw [ok_nm]
  have f0 : fi PT M (sI M 13 0 0 0) := fi_sI fi_rf ⟨rfl, rfl⟩
  have h0 : RM A (sI M 13 0 0 0) := RM_fi h0 f0 PT_GM
  have n1 : NmM 66 0 Q.1 (sI M 13 0 0 0) := NmM_e n1 (fun i => rfl)
  have n2 : NmM 67 0 Q.2 (sI M 13 0 0 0) := NmM_e n2 (fun i => rfl)
  generalize sI M 13 0 0 0 = M1 at f0 h0 n1 n2 ⊢
  obtain ⟨hmo, ⟨h4, h5⟩, ⟨h54, hun⟩, hk, hl, hh, ht⟩ := h0
  have t5 : (5 : Int32).toNatClampNeg = 5 := rfl
  rw [ok_gi, ok_nm, t5]
  refine ⟨vp_of (by decide), ?_⟩
  have f2 : fi (fun k n i => n = 0 ∧ k = 94 ∧ i = 5) M1 (sI M1 94 0 5 0) := fi_sI fi_rf ⟨rfl, rfl, rfl⟩
  have v2 : (sI M1 94 0 5 0).1 94 0 5 = 0 := by rw [rII, if_pos ⟨rfl, rfl, rfl⟩]
  generalize sI M1 94 0 5 0 = M2 at f2 v2 ⊢
  have t2 : TpM M2 (aT A) := ⟨(fi_I f2 (by omega)).trans ht.1, fun i x hx => (fi_I f2 (by omega)).trans (ht.2 i x hx)⟩
  rw [ok_cv]
  refine ok_mono (starts_ok hF t2 hT) (fun M3 h3 => ?_)
  obtain ⟨a3, v31, f3⟩ := h3
  have k3 : LmK Q [] M3 := by
    refine ⟨⟨(fi_I f3 (by unfold P13; omega)).trans v2, fun i e he => by cases he⟩, ⟨NmM_e n1 (fun i => (fi_L f3 (by unfold P13; omega)).trans (fi_L f2 (by omega))), NmM_e n2 (fun i => (fi_L f3 (by unfold P13; omega)).trans (fi_L f2 (by omega)))⟩, ?_, ?_⟩
    · rw [fi_I f3 (by unfold P13; omega), fi_I f2 (by omega), hQ.1]; exact hmo.1.1.2.1
    · rw [fi_I f3 (by unfold P13; omega), fi_I f2 (by omega), hQ.2]; exact hmo.1.1.2.2.1
  -- what stays, whatever comes of the life
  have fin : ∀ (L : lty) (M4 : mm), LiM 0 M4 L → fi (fun k n i => (k = 13 ∧ n = 0 ∧ (i = 1 ∨ i = 3)) ∨ PLfm k n i ∨ (k = 94 ∧ (i = 0 ∨ i = 5)) ∨ ((k = 95 ∨ k = 96) ∧ i < 40)) M1 M4 → M4.1 13 0 1 = 0 → RMN (sLf A L) Q M4 ∧ FM M M4 := fun L M4 tL f4 v1 => by
    have e : ∀ k i, (63 ≤ k ∧ k ≤ 93) ∨ 97 ≤ k ∨ (k = 94 ∧ 1 ≤ i ∧ i ≤ 4) ∨ ((k = 95 ∨ k = 96) ∧ 40 ≤ i ∧ i < 200) ∨ (k = 13 ∧ i = 54) → M4.1 k 0 i = M1.1 k 0 i := fun k i hk => fi_I f4 (by unfold PLfm PM6; omega)
    refine ⟨⟨⟨RMo_fr hmo (fr_fi f4) (fun k q => by obtain ⟨i, q⟩ := q; unfold PLfm PM6 at q; omega), ⟨(e 64 4 (by omega)).trans h4, (e 64 5 (by omega)).trans h5⟩, ⟨(e 13 54 (by omega)).trans h54, fun i u hu => RwM_c (hun i u hu) (fun j => e 103 j (by omega))⟩, fun k hk' => ⟨(e 104 k (by omega)).trans (hk k hk').1, fun v hv => ?_⟩, tL, HeM_c hh (fun k j hk => e k j (by omega)), z54 M4 v1⟩, NmM_e n1 (fun i => fi_L f4 (by unfold PLfm PM6; omega)), NmM_e n2 (fun i => fi_L f4 (by unfold PLfm PM6; omega))⟩, by rw [f4.1, f0.1], fun k n i hk => ?_⟩
    · obtain ⟨a1, b1, d1⟩ := (hk k hk').2 v hv
      have hv2 : v.2.1.length ≤ 40 := (hA.2.2.2.1 k v hv).2.1.1
      refine ⟨RwM_c a1 (fun j => e 102 j (by omega)), ⟨(e 94 (1 + k) (by omega)).trans b1.1, fun i x hx => ?_⟩, HeM_c d1 (fun k j hk => e k j (by omega))⟩
      have := get_lt hx
      rw [e 95 _ (by omega), e 96 _ (by omega)]
      exact b1.2 i x hx
    · have a := f4.2 k n i (by unfold PLfm PM6; omega)
      have b := f0.2 k n i (fun q => hk.1 q.1)
      exact ⟨a.1.trans b.1, a.2.trans b.2⟩
  have fA : fi (fun k n i => (k = 13 ∧ n = 0 ∧ (i = 1 ∨ i = 3)) ∨ PLfm k n i ∨ (k = 94 ∧ (i = 0 ∨ i = 5)) ∨ ((k = 95 ∨ k = 96) ∧ i < 40)) M1 M3 := fi_tr (fi_mono f2 (fun k n i q => Or.inr (Or.inr (Or.inl ⟨q.2.1, Or.inr q.2.2⟩)))) (fi_mono f3 (fun k n i q => q.elim Or.inl (fun q => Or.inr (Or.inl (PLfm_6 k n i (P13_6 k n i q))))))
  have l3 : LiM 0 M3 (aL A) := ⟨(fi_I f3 (by unfold P13; omega)).trans ((fi_I f2 (by omega)).trans hl.1), fun i x hx => by
    have := get_lt hx
    have hv2 := hA.2.2.2.2.1.1
    have e : ∀ k, k = 95 ∨ k = 96 → M3.1 k 0 (40 * 0 + i) = M1.1 k 0 (40 * 0 + i) := fun k hk => (fi_I f3 (by unfold P13; omega)).trans (fi_I f2 (by omega))
    rw [e 95 (Or.inl rfl), e 96 (Or.inr rfl)]
    exact hl.2 i x hx⟩
  rw [ok_bd]
  refine ok_mono (Q := Sum.elim (fun M9 => ∃ k q, spLife (aT A) Q = .inl (k, q) ∧ M9.1 13 0 9 = nI (k + 16 * tkB (aT A) q) ∧ fi PLfm M3 M9) (fun M10 => ∃ L, spLife (aT A) Q = .inr L ∧ LmK Q L M10 ∧ LfQ Q L ∧ fi PLfm M3 M10)) ?_ (fun r hr => ?_)
  · refine ok_lp (fun n z => ∃ q L fu, n = (aT A).length - q ∧ spLife (aT A) Q = spLifeL (aT A) Q (fu + 1) q L ∧ (aT A).length < fu + 1 + q ∧ AtM (aT A) q z ∧ LmK Q L z ∧ LfQ Q L ∧ fi PLfm M3 z) ?_ F (aT A).length _ (by have := hT.1; omega) ⟨0, [], (aT A).length, rfl, rfl, by omega, a3, k3, ⟨Nat.zero_le _, fun e he => by cases he⟩, fi_rf⟩
    rintro n M6 ⟨q, L, fu, rfl, hR, hfu, a6, k6, hL, fz⟩
    have hq := a6.1
    have e0 : nI (kmap (tkA (aT A) q).1) = (0 : Int32) ↔ (tkA (aT A) q).1 = 0 := km_eq (aT A) q (k := 0) (j := 0) (by decide) rfl
    have h6 : M6.1 13 0 6 = nI (kmap (tkA (aT A) q).1) := a6.2.2.2.2.1
    have eU : spLifeL (aT A) Q (fu + 1) q L = if (tkA (aT A) q).1 = 0 then .inr L else match spLf (aT A) Q L q with
        | .inl e => .inl e
        | .inr (p', D') => spLifeL (aT A) Q fu p' (decL D') := rfl
    simp only [b_X12_life_1, b_X12_life_1c]
    rw [h6, ok_ite, e0]
    refine ⟨fun r => ok_some.mpr ⟨L, by rw [hR, eU, if_pos r], k6, hL, fz⟩, fun r => ?_⟩
    rw [if_neg r] at eU
    rw [ok_cb]
    refine ok_mono (readsLine_ok hF hq1 hq2 a6 k6 hL) (fun r7 h7 => ?_)
    have hb := Rs_lf (T := aT A) (Q := Q) (L := L) hq
    obtain ⟨f7, h7⟩ := h7
    rw [ok_ite]
    cases eL : spLf (aT A) Q L q with
    | inl z =>
      obtain ⟨k, q'⟩ := z
      rw [eL] at h7 eU
      obtain ⟨s1, s2⟩ := h7
      rw [s1]
      exact ⟨fun r => (by cases r), fun _ => ok_some.mpr ⟨k, q', hR.trans eU, s2, fi_tr fz f7⟩⟩
    | inr z =>
      obtain ⟨p', D'⟩ := z
      rw [eL] at h7 eU hb
      obtain ⟨s1, s2, L', rfl, s3, s4⟩ := h7
      dsimp only at eU
      rw [dec_enc] at eU
      rw [s1]
      have hgt := tkE_gt hq r
      have hb1 := hb.1
      refine ⟨fun _ => ok_some.mpr ⟨(aT A).length - p', by omega, p', L', fu - 1, rfl, ?_, by omega, s2, s3, s4, fi_tr fz f7⟩, fun r => absurd rfl r⟩
      rw [show fu - 1 + 1 = fu by omega]; exact hR.trans eU
  · have mf : ∀ M9, fi PLfm M3 M9 → fi (fun k n i => (k = 13 ∧ n = 0 ∧ (i = 1 ∨ i = 3)) ∨ PLfm k n i ∨ (k = 94 ∧ (i = 0 ∨ i = 5)) ∨ ((k = 95 ∨ k = 96) ∧ i < 40)) M1 M9 ∧ M9.1 13 0 1 = 0 := fun M9 f => ⟨fi_tr fA (fi_mono f (fun k n i q => Or.inr (Or.inl q))), (fi_I f (by unfold PLfm PM6; omega)).trans v31⟩
    rcases r with M9 | M10
    · obtain ⟨k, q, e, h1, h2⟩ := hr
      refine ok_some.mpr ?_
      rw [e]
      have l9 : LiM 0 M9 (aL A) := ⟨(fi_I h2 (by unfold PLfm PM6; omega)).trans l3.1, fun i x hx => by
        have := get_lt hx
        have hv2 := hA.2.2.2.2.1.1
        have e : ∀ k, k = 95 ∨ k = 96 → M9.1 k 0 (40 * 0 + i) = M3.1 k 0 (40 * 0 + i) := fun k hk => fi_I h2 (by unfold PLfm PM6; omega)
        rw [e 95 (Or.inl rfl), e 96 (Or.inr rfl)]
        exact l3.2 i x hx⟩
      exact ⟨h1, fin (aL A) M9 l9 (mf M9 h2).1 (mf M9 h2).2⟩
    · obtain ⟨L, e, h1, h2, h3⟩ := hr
      show ok (cv (m_X12_laysLines F (5 : Int32) (0 : Int32) M10) fun M9 => some ((0 : Int32), M9)) _
      rw [ok_cv, e]
      refine ok_mono (laysLines_ok (a := 5) (b := 0) (by omega) (by decide) (by decide) (by decide) h2.1 h1.1) (fun M11 h11 => ok_some.mpr ?_)
      obtain ⟨l11, f11⟩ := h11
      exact ⟨rfl, fin L M11 l11 (fi_tr (mf M10 h3).1 (fi_mono f11 (fun k n i q => Or.inr (Or.inr (q.elim (fun q => Or.inl ⟨q.1, Or.inl q.2⟩) (fun q => Or.inr ⟨q.1, by omega⟩)))))) ((fi_I f11 (by omega)).trans (mf M10 h3).2)⟩
/-- what a life keeps to -/
theorem spLf_q {T : List Int32} {Q : nmt} {L : lty} {p p' : Nat} {D' : dft} (hL : LfQ Q L) (h : spLf T Q L p = .inr (p', D')) : LfQ Q (decL D') := by
  have tail : ∀ (d x : Int32) (q : Nat), L.length < 40 → (d = 3 ∨ ((d = 0 ∨ d = 1) ∧ ∃ n, n < Q.1.length ∧ x = nI n) ∨ (d = 2 ∧ ∃ n, n < Q.2.length ∧ x = nI n)) → spLfE T L d x q = .inr (p', D') → LfQ Q (decL D') := fun d x q hl he e => by
    unfold spLfE spEnd at e
    split at e
    · cases e
      rw [dec_enc]; exact LfQ_add hL hl he
    · cases e
  have kn : ∀ (N : List (List Nat)) (q : Nat) (K : Nat → res), (∀ i, fnd N (wdA T q) = some i → K i = .inr (p', D') → LfQ Q (decL D')) → spKn T N q K = .inr (p', D') → LfQ Q (decL D') := fun N q K hK e => by
    unfold spKn at e
    split at e
    · split at e
      · cases e
      · rename_i i hi
        exact hK i hi e
    · cases e
  unfold spLf at h
  split at h
  · split at h
    · cases h
    · rename_i q40
      have q40 : L.length < 40 := by omega
      split at h
      · exact kn _ _ _ (fun i hi e => tail 0 (nI i) _ q40 (Or.inr (Or.inl ⟨Or.inl rfl, i, fnd_lt hi, rfl⟩)) e) h
      · split at h
        · exact kn _ _ _ (fun i hi e => tail 1 (nI i) _ q40 (Or.inr (Or.inl ⟨Or.inr rfl, i, fnd_lt hi, rfl⟩)) e) h
        · split at h
          · exact kn _ _ _ (fun i hi e => tail 2 (nI i) _ q40 (Or.inr (Or.inr ⟨rfl, i, fnd_lt hi, rfl⟩)) e) h
          · exact tail 3 0 _ q40 (Or.inl rfl) h
  · cases h
theorem lifeL_q {T : List Int32} {Q : nmt} : ∀ (fu p : Nat) (L : lty), LfQ Q L → ∀ L', spLifeL T Q fu p L = .inr L' → LfQ Q L'
  | 0, p, L, hL => fun L' h => by cases h
  | fu + 1, p, L, hL => by
    intro L' h
    have eU : spLifeL T Q (fu + 1) p L = if (tkA T p).1 = 0 then .inr L else match spLf T Q L p with
        | .inl e => .inl e
        | .inr (p', D') => spLifeL T Q fu p' (decL D') := rfl
    rw [eU] at h
    split at h
    · cases h; exact hL
    · cases e : spLf T Q L p with
      | inl z => rw [e] at h; cases h
      | inr z =>
        obtain ⟨p', D'⟩ := z
        rw [e] at h
        exact lifeL_q fu p' (decL D') (spLf_q hL e) L' h
theorem life_g {A : sty} {Q : nmt} {N : Nat} (hA : AOK A N) (hQ : NOK A Q) : AOK (lifeS A Q).2 (N + 1) ∧ NOK (lifeS A Q).2 Q := by
  unfold lifeS
  cases e : spLife (aT A) Q with
  | inl z =>
    obtain ⟨k, q⟩ := z
    exact ⟨AOK_T hA ⟨Nat.zero_le _, fun x hx => by cases hx⟩, hQ⟩
  | inr L =>
    have hL := lifeL_q _ _ _ ⟨Nat.zero_le _, fun e he => by cases he⟩ L e
    obtain ⟨h1, h2, h3, h4, h5, h6, h7, h8⟩ := AOK_up hA
    refine ⟨⟨h1, h2, h3, h4, ⟨hL.1, fun x hx => ?_⟩, h6, Nat.zero_le _, fun x hx => by cases hx⟩, hQ⟩
    rcases hL.2 x hx with r | ⟨r, n, a, b⟩ | ⟨r, n, a, b⟩
    · exact Or.inl r
    · exact Or.inr (Or.inl ⟨r, n, (show n < cO (aC A) by rw [← hQ.1]; exact a), b⟩)
    · exact Or.inr (Or.inr ⟨r, n, (show n < cS (aC A) by rw [← hQ.2]; exact a), b⟩)
