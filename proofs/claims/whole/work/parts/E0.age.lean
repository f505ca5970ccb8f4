/-! age: both sides read it -/
def spAge (T : List Int32) (D : dft) (p : Nat) : res := if (dW D).isSome = true then .inl (3, p) else match spLw T (tkE T p) with
  | .inl e => .inl e
  | .inr (cs, q) => match spLm T (tkE T p) with
    | .inl _ => .inl (1, p)
    | .inr (ks, _) => .inr (tkE T q, (dP D, dO D, D.2.2.1, dS D, dM D, some (cs, ks)))
theorem sR_self (M : mm) (k n i : Nat) : sR M k n i (M.2.2 k n i) = M := by
  obtain ⟨a, b, c⟩ := M
  have h : u3 c k n i (c k n i) = c := by
    funext k' n' i'
    unfold u3
    split
    · rename_i q
      obtain ⟨rfl, rfl, rfl⟩ := q
      rfl
    · rfl
  show (a, b, u3 c k n i (c k n i)) = (a, b, c)
  rw [h]
theorem fi_sR {P : Nat → Nat → Nat → Prop} {M M' : mm} {k n i v : Nat} (h : fi P M M') : fi P (sR M k n i v) (sR M' k n i v) := by
  refine ⟨?_, h.2⟩
  show u3 M'.2.2 k n i v = u3 M.2.2 k n i v
  rw [h.1]
theorem sR_sR (M : mm) (k n i v w : Nat) : sR (sR M k n i v) k n i w = sR M k n i w := by
  obtain ⟨a, b, c⟩ := M
  have h : u3 (u3 c k n i v) k n i w = u3 c k n i w := by
    funext k' n' i'
    unfold u3
    split
    · rfl
    · rfl
  show (a, b, u3 (u3 c k n i v) k n i w) = (a, b, u3 c k n i w)
  rw [h]
/-- but for the pointer to the law that is read -/
def QRl (T : List Int32) (DC : dft → mm → Prop) (P : Nat → Nat → Nat → Prop) (M0 : mm) (x : res) (r : Bool × mm) : Prop := ∃ l, (l = M0.2.2 4 0 6 ∨ l ≤ 1) ∧ QR T DC P (sR M0 4 0 6 l) x r
theorem QR_l {T : List Int32} {DC : dft → mm → Prop} {P : Nat → Nat → Nat → Prop} {M0 : mm} {x : res} {r : Bool × mm} (h : QR T DC P M0 x r) : QRl T DC P M0 x r := ⟨M0.2.2 4 0 6, Or.inl rfl, by rw [sR_self]; exact h⟩
def Pw (o : Nat) : Nat → Nat → Nat → Prop := fun k n i => (n = o ∧ (k = 35 ∨ (k = 3 ∧ (i = 2 ∨ i = 4)))) ∨ PT6 k n i ∨ k = 4 ∨ k = 39
theorem DCc_W {o : Nat} {D : dft} {M M' : mm} {cs ks : List Int32} (h : DCc o D M) (fr : fi (Pw o) M M') (c0 : M'.1 3 o 2 = 1) (hL : LwC o cs M') (hl : cs.length ≤ 1000) : DCc o (dP D, dO D, D.2.2.1, dS D, dM D, some (cs, ks)) M' := by
  obtain ⟨h1, ⟨h2, h3, h4⟩, ⟨h5, h6, h7⟩, h8, h9, h10, h11, h12, ⟨h13, h14⟩, h15, ⟨h16, h17, h18⟩, h19⟩ := h
  have e : ∀ k i, (k = 1 ∨ (20 ≤ k ∧ k ≤ 34) ∨ k = 38 ∨ (k = 3 ∧ i ≤ 1)) → M'.1 k o i = M.1 k o i ∧ M'.2.1 k o i = M.2.1 k o i := fun k i a => fr.2 k o i (fun q => by unfold Pw PT6 P7 at q; omega)
  exact ⟨by rw [fr.1]; exact h1, ⟨by rw [(e 1 0 (by omega)).1]; exact h2, by rw [(e 1 5 (by omega)).1]; exact h3, by rw [(e 1 13 (by omega)).1]; exact h4⟩, ⟨⟨fun i w hi => by rw [(e 20 i (by omega)).2]; exact h5.1 i w hi, h5.2⟩, ⟨fun i w hi => by rw [(e 24 i (by omega)).2]; exact h6.1 i w hi, h6.2⟩, ⟨fun i w hi => by rw [(e 30 i (by omega)).2]; exact h7.1 i w hi, h7.2⟩⟩, fun i v hi => by rw [(e 21 i (by omega)).1, (e 22 i (by omega)).1]; exact h8 i v hi, fun i hi x hx => by rw [(e 23 i (by omega)).1]; exact h9 i hi x hx, fun i v hi => by rw [(e 25 i (by omega)).1, (e 26 i (by omega)).1, (e 27 i (by omega)).1, (e 28 i (by omega)).1, (e 29 i (by omega)).1]; exact h10 i v hi, fun x hx => by rw [(e 1 12 (by omega)).1]; exact h11 x hx, fun i v hi => by rw [(e 31 i (by omega)).1, (e 32 i (by omega)).1, (e 33 i (by omega)).1, (e 34 i (by omega)).1]; exact h12 i v hi, ⟨by rw [(e 3 0 (by omega)).1]; exact h13, by rw [(e 3 1 (by omega)).1]; exact h14⟩, c0, ⟨hL.1, hl, hL.2⟩, fun i hi => by rw [(e 38 i (by omega)).1]; exact h19 i hi⟩
theorem readAge_ok {F : Nat} (hF : 2000 < F) {T : List Int32} {p o : Nat} (ho : o ≤ 1) {D : dft} {M : mm} (h : AtC T p M) (hD : DCK o D M) : ok (m_X5_readAge F M) (QRl T (DCK o) (PRd o) M (spAge T D p)) := by
  obtain ⟨hc, hk⟩ := hD
  have hP := @PRd_6 o
  have e3 := hc.2.2.2.2.2.2.2.2.2.1
  unfold m_X5_readAge spAge
  rw [hc.1, e3, ok_ite]
  refine ⟨fun q => ?_, fun q => ?_⟩
  · have qn : ¬ (dW D).isSome = true := fun q2 => by rw [if_pos q2] at q; exact absurd q (by decide)
    rw [if_neg qn, ok_cv]
    refine ok_mono (AtC_next hF h) (fun M1 h1 => ?_)
    obtain ⟨a1, f1⟩ := h1
    have p1 : M1.2.2 6 0 2 = o := by rw [f1.1]; exact hc.1
    rw [p1, ok_cl]
    refine ok_mono (lread_ok (l := o) hF a1) (fun r hr => ?_)
    obtain ⟨x3, M2⟩ := r
    obtain ⟨f2, hr⟩ := hr
    have fr : fi (PRd o) (sR M 4 0 6 o) M2 := fi_tr (fi_sR (fi_mono f1 (fun k n i q => hP k n i (P7_6 k n i q)))) (fi_mono f2 (fun k n i q => by unfold PLr PLw P7 at q; unfold PRd PT6 P7; omega))
    have frw : fi (Pw o) (sR M 4 0 6 o) M2 := fi_tr (fi_sR (fi_mono f1 (fun k n i q => Or.inr (Or.inl (P7_6 k n i q))))) (fi_mono f2 (fun k n i q => by unfold PLr PLw P7 at q; unfold Pw PT6 P7; omega))
    cases eL : spLw T (tkE T p) with
    | inl e =>
      obtain ⟨k, q'⟩ := e
      rw [eL] at hr
      obtain ⟨r1, r2, r3, r4⟩ := hr
      dsimp only at r1 r4 ⊢
      subst r1
      rw [ok_ite]
      refine ⟨fun r => absurd ((nI_eq (b := 0) (by omega) (by decide) : nI k = nI 0 ↔ k = 0).mp r) (by omega), fun _ => ?_⟩
      rw [ok_cb]
      exact ok_mono (wrong_ok (k := k) r4) (fun r hr => ok_some.mpr ⟨o, Or.inr ho, fi_tr fr (fi_mono hr.2.2.2 hP), hr.1, hr.2.1, hr.2.2.1⟩)
    | inr e =>
      obtain ⟨cs, q'⟩ := e
      rw [eL] at hr
      obtain ⟨r1, r2, r3, r4, r5, r6⟩ := hr
      dsimp only at r1 r2 r4 r6 ⊢
      subst r1
      rw [ok_ite]
      refine ⟨fun _ => ?_, fun r => absurd rfl r⟩
      rcases law_same h.2.1.2.2.1 a1.1 with ⟨k', q2, x1, x2⟩ | ⟨cs', ks, q2, x1, x2, x3, x4⟩
      · rw [eL] at x1; cases x1
      · rw [eL] at x1
        cases x1
        rw [x2]
        dsimp only
        have c1 : DCc o D (sR M 4 0 6 o) := ⟨(by rw [rRR, if_neg (by omega)]; exact hc.1), hc.2⟩
        have c2 := DCc_W (ks := ks) c1 frw r6 r2 r3
        have := te_ok (F := F) (DC := DCK o) (P := PRd o) (M0 := sR M 4 0 6 o) hF hP r4 fr (f := fun b M => some (b, M)) (K := fun p2 => .inr (p2, (dP D, dO D, D.2.2.1, dS D, dM D, some (cs, ks)))) (fun M' a' f' => ok_some.mpr ⟨fi_tr fr (fi_mono f' (fun k n i q => hP k n i (P7_6 k n i q))), rfl, a', DCc_6 c2 (fi_mono f' P7_6), hk⟩) (fun M' => rfl)
        refine ok_mono this (fun r hr => ⟨o, Or.inr ho, ?_⟩)
        have e : spEnd T q' (fun p2 => (.inr (p2, (dP D, dO D, D.2.2.1, dS D, dM D, some (cs, ks))) : res)) = .inr (tkE T q', (dP D, dO D, D.2.2.1, dS D, dM D, some (cs, ks))) := if_pos r5
        rw [e] at hr
        exact hr
  · have qy : (dW D).isSome = true := by
      cases e : (dW D).isSome
      · rw [e] at q; exact absurd rfl q
      · rfl
    rw [if_pos qy, ok_cb]
    exact ok_mono (wrong_ok (k := 3) h) (fun r hr => ok_some.mpr (QR_l (QR_bad fi_rf hP hr)))
theorem DMm_W {D : dft} {M M' : mm} {cs ks : List Int32} (h : DMm D M) (fr : fi (fun k _ i => (k = 80 ∧ i = 1) ∨ PRl k 0 i) M M') (h79 : M.1 79 0 1 = nI 1000) (h80 : M'.1 80 0 1 = nI (1000 + ks.length)) (hC : CoM ks M') (h1 : 1 ≤ ks.length) (hl : ks.length ≤ 1000) : DMm (dP D, dO D, D.2.2.1, dS D, dM D, some (cs, ks)) M' := by
  obtain ⟨⟨d1, d2, d3⟩, ⟨d4, d5, d6⟩, ⟨d7, d8, d9⟩, d10, d11, d12, d13, d14⟩ := h
  have g : ∀ k i, (64 ≤ k ∧ k ≤ 79) ∨ (k = 13 ∧ i = 29) → M'.1 k 0 i = M.1 k 0 i ∧ M'.2.1 k 0 i = M.2.1 k 0 i := fun k i a => fr.2 k 0 i (fun q => by unfold PRl PRs PM6 at q; omega)
  exact ⟨⟨by rw [(g 64 6 (by omega)).1]; exact d1, by rw [(g 64 7 (by omega)).1]; exact d2, by rw [(g 64 8 (by omega)).1]; exact d3⟩, ⟨by rw [(g 64 9 (by omega)).1]; exact d4, by rw [(g 64 10 (by omega)).1]; exact d5, by rw [(g 64 11 (by omega)).1]; exact d6⟩, ⟨⟨fun i w hi => by rw [(g 65 _ (by omega)).2]; exact d7.1 i w hi, d7.2⟩, ⟨fun i w hi => by rw [(g 66 _ (by omega)).2]; exact d8.1 i w hi, d8.2⟩, ⟨fun i w hi => by rw [(g 67 _ (by omega)).2]; exact d9.1 i w hi, d9.2⟩⟩, fun i v hi => by rw [(g 68 _ (by omega)).1, (g 69 _ (by omega)).1]; exact d10 i v hi, fun i v hi => by rw [(g 70 _ (by omega)).1, (g 71 _ (by omega)).1, (g 72 _ (by omega)).1, (g 73 _ (by omega)).1, (g 74 _ (by omega)).1]; exact d11 i v hi, fun i v hi => by rw [(g 75 _ (by omega)).1, (g 76 _ (by omega)).1, (g 77 _ (by omega)).1, (g 78 _ (by omega)).1]; exact d12 i v hi, by rw [(g 13 29 (by omega)).1]; exact d13, by rw [(g 79 1 (by omega)).1]; exact h79, h80, hC.1, h1, hl, hC.2⟩
theorem PRm_79 {k n i : Nat} (h : (k = 79 ∨ k = 80) ∧ i = 1) : PRm k n i := Or.inr (Or.inr (Or.inr (Or.inr (Or.inr (Or.inr (Or.inr (Or.inr (Or.inr (Or.inr (Or.inl h))))))))))
theorem PRl_m : ∀ k n i, PRl k n i → PRm k n i := fun k n i q => by
  rcases q with (⟨e, q⟩ | q | q | q) | q
  · rcases q with q | q
    · exact PRm_6 k n i ⟨e, Or.inl ⟨q.1, Nat.le_succ_of_le q.2⟩⟩
    · exact PRm_f ⟨e, Or.inl q⟩
  · exact Or.inr (Or.inr (Or.inr (Or.inr (Or.inr (Or.inr (Or.inr (Or.inr (Or.inr (Or.inr (Or.inr (Or.inl q)))))))))))
  · exact Or.inr (Or.inr (Or.inr (Or.inr (Or.inr (Or.inr (Or.inr (Or.inr (Or.inr (Or.inr (Or.inr (Or.inr (Or.inl q))))))))))))
  · exact Or.inr (Or.inr (Or.inr (Or.inr (Or.inr (Or.inr (Or.inr (Or.inr (Or.inr (Or.inr (Or.inr (Or.inr (Or.inr q))))))))))))
  · exact PRm_6 k n i q
theorem readsAge_ok {F : Nat} (hF : 2000 < F) {T : List Int32} {p : Nat} {D : dft} {M : mm} (h : AtM T p M) (hD : DMK D M) : ok (m_X12_readsAge F M) (QRM T DMK PRm M (spAge T D p)) := by
  obtain ⟨hc, hk, hy⟩ := hD
  have hP := PRm_6
  have hT := h.2.1.2.1
  have hw := hc.2.2.2.2.2.2.2
  have e1 : ∀ n, n ≤ 1000 → (nI (1000 + n) ≤ nI 1000 ↔ n = 0) := fun n hn => (nI_leI (by omega) (by omega)).trans (by omega)
  unfold m_X12_readsAge spAge
  rw [ok_gi, ok_gi, tc1, ok_ite]
  refine ⟨vp_of (by decide), vp_of (by decide), fun q => ?_, fun q => ?_⟩
  · have hn : dW D = none := by
      unfold LwM at hw
      cases e : dW D with
      | none => rfl
      | some w =>
        rw [e] at hw
        rw [hw.1, hw.2.1, e1 _ hw.2.2.2.2.1] at q
        exact absurd q (by have := hw.2.2.2.1; omega)
    rw [hn] at hw
    rw [if_neg (by rw [hn]; decide), ok_cv]
    refine ok_mono (AtM_next hF h) (fun M1 h1 => ?_)
    obtain ⟨a1, f1⟩ := h1
    have v28 : M1.1 13 0 28 = nI 1000 := (fi_I f1 (by unfold P13; omega)).trans hw.2.2
    rw [ok_gi, ok_nm, v28, ok_cb]
    have f2 : fi (fun k _ i => k = 79 ∧ i = 1) M1 (sI M1 79 0 1 (nI 1000)) := fi_sI fi_rf ⟨rfl, rfl⟩
    have a2 := AtM_6 a1 f2 (fun k n i q => by omega)
    have v2 : (sI M1 79 0 1 (nI 1000)).1 13 0 28 = 1000 := by rw [rII, if_neg (by omega)]; exact v28
    have v79 : (sI M1 79 0 1 (nI 1000)).1 79 0 1 = nI 1000 := by rw [rII, if_pos ⟨rfl, rfl, rfl⟩]
    have c2 : DMm D (sI M1 79 0 1 (nI 1000)) := by
      have c1 := DMm_6 hc (fi_mono f1 P13_6)
      have u79 : M1.1 79 0 1 = nI 1000 := (fi_I f1 (by unfold P13; omega)).trans hw.1
      have : sI M1 79 0 1 (nI 1000) = M1 := by
        obtain ⟨x, y, z⟩ := M1
        have e : u3 x 79 0 1 (nI 1000) = x := by
          funext k' n' i'
          unfold u3
          split
          · rename_i q
            obtain ⟨rfl, rfl, rfl⟩ := q
            exact u79.symm
          · rfl
        show (u3 x 79 0 1 (nI 1000), y, z) = (x, y, z)
        rw [e]
      rw [this]; exact c1
    have fr2 : fi PRm M (sI M1 79 0 1 (nI 1000)) := fi_tr (fi_mono f1 (fun k n i q => hP k n i (P13_6 k n i q))) (fi_mono f2 (fun k n i q => PRm_79 ⟨Or.inl q.1, q.2⟩))
    generalize sI M1 79 0 1 (nI 1000) = M2 at f2 a2 v2 v79 c2 fr2 ⊢
    refine ⟨vp_of (by decide), ok_mono (readsM_ok hF hT a2 v2) (fun r hr => ?_)⟩
    obtain ⟨b, M3⟩ := r
    obtain ⟨f3, hr⟩ := hr
    have fr3 : fi PRm M M3 := fi_tr fr2 (fi_mono f3 PRl_m)
    rcases law_same hT a1.1 with ⟨k', q2, x1, x2⟩ | ⟨cs, ks, q2, x1, x2, x3, x4⟩
    · rw [x2] at hr
      obtain ⟨r1, r2⟩ := hr
      dsimp only at r1 r2 ⊢
      subst r1
      rw [x1, ok_ite]
      exact ⟨fun r => (by cases r), fun _ => ok_some.mpr ⟨fr3, rfl, r2⟩⟩
    · rw [x2] at hr
      obtain ⟨r1, r2, r3, r4⟩ := hr
      dsimp only at r1 r2 r3 ⊢
      subst r1
      rw [x1, x2, ok_ite]
      dsimp only
      refine ⟨fun _ => ?_, fun r => absurd rfl r⟩
      have hl : 1 ≤ ks.length := by
        cases ks with
        | nil => exact absurd rfl x3
        | cons a b => rw [List.length_cons]; omega
      rw [ok_gi, ok_nm, r3.1, ok_some]
      have f4 : fi (fun k _ i => k = 80 ∧ i = 1) M3 (sI M3 80 0 1 (nI (1000 + ks.length))) := fi_sI fi_rf ⟨rfl, rfl⟩
      have v80 : (sI M3 80 0 1 (nI (1000 + ks.length))).1 80 0 1 = nI (1000 + ks.length) := by rw [rII, if_pos ⟨rfl, rfl, rfl⟩]
      have c4 : CoM ks (sI M3 80 0 1 (nI (1000 + ks.length))) := ⟨(by rw [rII, if_neg (by omega)]; exact r3.1), fun i c hi => by rw [rII, if_neg (by omega)]; exact r3.2 i c hi⟩
      generalize sI M3 80 0 1 (nI (1000 + ks.length)) = M4 at f4 v80 c4 ⊢
      refine ⟨vp_of (by decide), fi_tr fr3 (fi_mono f4 (fun k n i q => PRm_79 ⟨Or.inr q.1, q.2⟩)), rfl, AtM_6 r2 f4 (fun k n i q => by omega), DMm_W c2 ?_ v79 v80 c4 hl r4, hk, hy⟩
      exact fi_tr (fi_mono f3 (fun k n i q => Or.inr q)) (fi_mono f4 (fun k n i q => Or.inl q))
  · have qy : (dW D).isSome = true := by
      unfold LwM at hw
      cases e : dW D with
      | some w => rfl
      | none =>
        rw [e] at hw
        rw [hw.1, hw.2.1] at q
        exact absurd (Int32.le_refl _) q
    rw [if_pos qy]
    exact ok_mono (badM (k := 3) (S := .inl (3, p)) h rfl) (fun r hr => by
      obtain ⟨b1, b2, k, q, b3, b4⟩ := hr
      rw [b4]; exact ⟨fi_mono b2 hP, b1, b3⟩)
