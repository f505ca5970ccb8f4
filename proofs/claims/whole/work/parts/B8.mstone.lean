/-! the reference reads what a stone rests on -/
theorem spOn_1 {T : List Int32} {D : dft} {n p : Nat} {a b : Int32} {K : Nat → Int32 → Int32 → res} (q : isNm T p = true) {x : Nat} (e : fnd (dOn D) (wdA T p) = some x) : spOnL T D (n + 1) p a b K = if bt a x = true then .inl (3, p) else (if isNm T (tkE T p) = true then spOnL T D n (tkE T p) (a ||| bitI (nI x)) b K else K (tkE T p) (a ||| bitI (nI x)) b) := by
  show (if isNm T p = true then (match fnd (dOn D) (wdA T p) with | some x => if bt a x = true then (Sum.inl (3, p) : res) else (if isNm T (tkE T p) = true then spOnL T D n (tkE T p) (a ||| bitI (nI x)) b K else K (tkE T p) (a ||| bitI (nI x)) b) | none => match fnd (dSn D) (wdA T p) with | some s => if bt b s = true then (Sum.inl (3, p) : res) else (if isNm T (tkE T p) = true then spOnL T D n (tkE T p) a (b ||| bitI (nI s)) K else K (tkE T p) a (b ||| bitI (nI s))) | none => (Sum.inl (2, p) : res)) else (Sum.inl (1, p) : res)) = _
  rw [if_pos q, e]
theorem spOn_2 {T : List Int32} {D : dft} {n p : Nat} {a b : Int32} {K : Nat → Int32 → Int32 → res} (q : isNm T p = true) (e0 : fnd (dOn D) (wdA T p) = none) {s : Nat} (e : fnd (dSn D) (wdA T p) = some s) : spOnL T D (n + 1) p a b K = if bt b s = true then .inl (3, p) else (if isNm T (tkE T p) = true then spOnL T D n (tkE T p) a (b ||| bitI (nI s)) K else K (tkE T p) a (b ||| bitI (nI s))) := by
  show (if isNm T p = true then (match fnd (dOn D) (wdA T p) with | some x => if bt a x = true then (Sum.inl (3, p) : res) else (if isNm T (tkE T p) = true then spOnL T D n (tkE T p) (a ||| bitI (nI x)) b K else K (tkE T p) (a ||| bitI (nI x)) b) | none => match fnd (dSn D) (wdA T p) with | some s => if bt b s = true then (Sum.inl (3, p) : res) else (if isNm T (tkE T p) = true then spOnL T D n (tkE T p) a (b ||| bitI (nI s)) K else K (tkE T p) a (b ||| bitI (nI s))) | none => (Sum.inl (2, p) : res)) else (Sum.inl (1, p) : res)) = _
  rw [if_pos q, e0]
  dsimp only
  rw [e]
theorem spOn_3 {T : List Int32} {D : dft} {n p : Nat} {a b : Int32} {K : Nat → Int32 → Int32 → res} (q : isNm T p = true) (e0 : fnd (dOn D) (wdA T p) = none) (e : fnd (dSn D) (wdA T p) = none) : spOnL T D (n + 1) p a b K = .inl (2, p) := by
  unfold spOnL
  rw [if_pos q, e0]
  dsimp only
  rw [e]
theorem spOn_0 {T : List Int32} {D : dft} {n p : Nat} {a b : Int32} {K : Nat → Int32 → Int32 → res} (q : ¬ isNm T p = true) : spOnL T D (n + 1) p a b K = .inl (1, p) := by
  unfold spOnL
  rw [if_neg q]
theorem sn_nm {T : List Int32} {p : Nat} {c : Int32} (h : isS T p c = true) : ¬ isNm T p = true := by
  unfold isS at h
  unfold isNm
  rw [decide_eq_true_iff] at h
  rw [decide_eq_true_iff]
  intro q
  rw [h.1] at q; exact absurd q.1 (by decide)
def POn (k : Nat) : Nat → Nat → Nat → Prop := fun k' n i => PM6 k' n i ∨ ((k' = 77 ∨ k' = 78) ∧ i = 11 + k)
theorem readsOn_ok {F : Nat} (hF : 2000 < F) {T : List Int32} {p : Nat} {D : dft} {M : mm} {K : Nat → Int32 → Int32 → res} (h : AtM T p M) (hc : DMm D M) (hk : DOK D) (hs : (dS D).length < 10) (h77 : M.1 77 0 (11 + (dS D).length) = 0) (h78 : M.1 78 0 (11 + (dS D).length) = 0) (hK : ∀ q a b, isS T q 59 = false → K q a b = .inl (1, q)) :
    ok (m_X12_readsOn F (nI (11 + (dS D).length)) M) (fun r => (r.1 = false ∧ fi (POn (dS D).length) M r.2 ∧ ∃ k q, r.2.1 13 0 9 = nI (k + 16 * tkB T q) ∧ spOn T D p K = .inl (k, q)) ∨ (r.1 = true ∧ ∃ q a b, AtM T q r.2 ∧ fi (POn (dS D).length) M r.2 ∧ r.2.1 77 0 (11 + (dS D).length) = a ∧ r.2.1 78 0 (11 + (dS D).length) = b ∧ (∀ x, x < 32 → bt a x = true → x < (dO D).length) ∧ (∀ x, x < 32 → bt b x = true → x < (dS D).length) ∧ spOn T D p K = K q a b)) := by
  have hlen := h.2.1.2.1
  obtain ⟨l1, l2, l3⟩ := len_n D
  obtain ⟨⟨n1, n2, n3⟩, k2, k3, k4, k5, k6, k7⟩ := id hk
  have hin : vp_in (nI (11 + (dS D).length)) 22 := vp_in_nI (by omega) (by decide)
  have bad : ∀ (k : Nat) (q : Nat) (M' : mm), AtM T q M' → fi (POn (dS D).length) M M' → spOn T D p K = .inl (k, q) → ok (cb (m_X12_fails F (nI k) M') fun b M'' => some (b, M'')) (fun r => (r.1 = false ∧ fi (POn (dS D).length) M r.2 ∧ ∃ k q, r.2.1 13 0 9 = nI (k + 16 * tkB T q) ∧ spOn T D p K = .inl (k, q)) ∨ (r.1 = true ∧ ∃ q a b, AtM T q r.2 ∧ fi (POn (dS D).length) M r.2 ∧ r.2.1 77 0 (11 + (dS D).length) = a ∧ r.2.1 78 0 (11 + (dS D).length) = b ∧ (∀ x, x < 32 → bt a x = true → x < (dO D).length) ∧ (∀ x, x < 32 → bt b x = true → x < (dS D).length) ∧ spOn T D p K = K q a b)) := fun k q M' ha f e => by
    refine ok_mono (badM (k := k) ha (S := .inl (k, q)) rfl) (fun r hr => Or.inl ?_)
    obtain ⟨b1, b2, k', q', b3, b4⟩ := hr
    exact ⟨b1, fi_tr f (fi_mono b2 (fun k n i q => Or.inl q)), k', q', b3, e.trans b4⟩
  unfold m_X12_readsOn
  rw [ok_bd]
  refine ok_mono (Q := Sum.elim (fun M' => ∃ q, AtM T q M' ∧ fi (POn (dS D).length) M M' ∧ spOn T D p K = .inl (1, q)) (Sum.elim (fun M' => ∃ q, AtM T q M' ∧ fi (POn (dS D).length) M M' ∧ spOn T D p K = .inl (2, q)) (Sum.elim (fun M' => ∃ q, AtM T q M' ∧ fi (POn (dS D).length) M M' ∧ spOn T D p K = .inl (3, q)) (Sum.elim (fun M' => ∃ q, AtM T q M' ∧ fi (POn (dS D).length) M M' ∧ spOn T D p K = .inl (3, q)) (fun M' => ∃ q a b, AtM T q M' ∧ fi (POn (dS D).length) M M' ∧ M'.1 77 0 (11 + (dS D).length) = a ∧ M'.1 78 0 (11 + (dS D).length) = b ∧ (∀ x, x < 32 → bt a x = true → x < (dO D).length) ∧ (∀ x, x < 32 → bt b x = true → x < (dS D).length) ∧ spOn T D p K = K q a b))))) ?_ (fun r hr => ?_)
  · refine ok_for 1001 (fun c z => z.1 = nI c ∧ fi (POn (dS D).length) M z.2 ∧ ∃ q a b fu, AtM T q z.2 ∧ c ≤ q ∧ z.2.1 77 0 (11 + (dS D).length) = a ∧ z.2.1 78 0 (11 + (dS D).length) = b ∧ (∀ x, x < 32 → bt a x = true → x < (dO D).length) ∧ (∀ x, x < 32 → bt b x = true → x < (dS D).length) ∧ (isNm T q = true → T.length < fu + 1 + q) ∧ spOn T D p K = if isNm T q = true ∨ c = 0 then spOnL T D (fu + 1) q a b K else K q a b) 0 (by omega) (by omega) ⟨rfl, fi_rf, p, 0, 0, T.length, h, Nat.zero_le _, h77, h78, fun x _ r => (by rw [b_0] at r; cases r), fun x _ r => (by rw [b_0] at r; cases r), fun _ => by omega, by rw [if_pos (Or.inr rfl)]; rfl⟩ ?_
    rintro c ⟨x1, M2⟩ hcc ⟨e1, f2, q, a, b, fu, a2, hcq, g77, g78, ba, bb, hfu, hR⟩
    dsimp only at e1 f2 a2 g77 g78
    subst e1
    have hq := a2.1
    have c2 : DMm D M2 := DMm_fi hc f2 (fun k i q => by unfold POn PM6 at q; omega)
    have e0 : nI c = (0 : Int32) ↔ c = 0 := nI_eq (b := 0) (by omega) (by decide)
    simp only [b_X12_readsOn_1, b_X12_readsOn_1c]
    refine ok_jm (P := fun M5 => M5 = M2 ∧ (c ≠ 0 → isS T q 59 = false)) (fun M5 h5 => ?_) (fun j hj => ?_)
    · obtain ⟨rfl, h59⟩ := h5
      rw [ok_cb]
      refine ok_mono (isKept_ok a2) (fun r hr => ?_)
      subst hr
      dsimp only
      rw [ok_ite]
      refine ⟨fun qk => ok_some.mpr ⟨q, a2, f2, ?_⟩, fun qk => ?_⟩
      · have qn : ¬ isNm T q = true := by simpa using qk
        rw [hR]
        by_cases e : c = 0
        · rw [if_pos (Or.inr e)]; exact spOn_0 qn
        · rw [if_neg (fun r => r.elim qn e)]; exact hK q a b (h59 e)
      have qn : isNm T q = true := by simpa using qk
      rw [if_pos (Or.inl qn)] at hR
      have lt := isNm_lt hq qn
      have hf := hfu qn
      obtain ⟨hw, h7⟩ := wdM_ok a2 qn
      rw [ok_cl]
      refine ok_mono (oathN_ok (r := 1) (by omega) (by omega) (c2.1.2.1.trans (by rw [l2])) c2.2.2.1.2.1 (by omega) hw h7) (fun r hr => ?_)
      subst hr
      dsimp only
      rw [ok_cl]
      refine ok_mono (stoneN_ok (r := 1) (by omega) (by omega) (c2.1.2.2.trans (by rw [l3])) c2.2.2.1.2.2 (by omega) hw h7) (fun r hr => ?_)
      subst hr
      dsimp only
      have i2 := fdI_n (N := dOn D) (w := wdA T q) (by omega)
      have i3 := fdI_n (N := dSn D) (w := wdA T q) (by omega)
      -- one step on
      have step : ∀ (a' b' : Int32) (M14 : mm), fi (POn (dS D).length) M5 M14 → AtM T q M14 → M14.1 77 0 (11 + (dS D).length) = a' → M14.1 78 0 (11 + (dS D).length) = b' → (∀ x, x < 32 → bt a' x = true → x < (dO D).length) → (∀ x, x < 32 → bt b' x = true → x < (dS D).length) → spOnL T D (fu + 1) q a b K = (if isNm T (tkE T q) = true then spOnL T D fu (tkE T q) a' b' K else K (tkE T q) a' b') → ok (cv (m_X12_nextToken F M14) fun M15 => some (Sum.inl (nI c + 1, M15) : (Int32 × mm) ⊕ (mm ⊕ mm ⊕ mm ⊕ mm ⊕ mm))) (Sum.elim (fun s' => c < 1001 ∧ s'.1 = nI (c + 1) ∧ fi (POn (dS D).length) M s'.2 ∧ ∃ q a b fu, AtM T q s'.2 ∧ c + 1 ≤ q ∧ s'.2.1 77 0 (11 + (dS D).length) = a ∧ s'.2.1 78 0 (11 + (dS D).length) = b ∧ (∀ x, x < 32 → bt a x = true → x < (dO D).length) ∧ (∀ x, x < 32 → bt b x = true → x < (dS D).length) ∧ (isNm T q = true → T.length < fu + 1 + q) ∧ spOn T D p K = if isNm T q = true ∨ c + 1 = 0 then spOnL T D (fu + 1) q a b K else K q a b) (Sum.elim (fun M' => ∃ q, AtM T q M' ∧ fi (POn (dS D).length) M M' ∧ spOn T D p K = .inl (1, q)) (Sum.elim (fun M' => ∃ q, AtM T q M' ∧ fi (POn (dS D).length) M M' ∧ spOn T D p K = .inl (2, q)) (Sum.elim (fun M' => ∃ q, AtM T q M' ∧ fi (POn (dS D).length) M M' ∧ spOn T D p K = .inl (3, q)) (Sum.elim (fun M' => ∃ q, AtM T q M' ∧ fi (POn (dS D).length) M M' ∧ spOn T D p K = .inl (3, q)) (fun M' => ∃ q a b, AtM T q M' ∧ fi (POn (dS D).length) M M' ∧ M'.1 77 0 (11 + (dS D).length) = a ∧ M'.1 78 0 (11 + (dS D).length) = b ∧ (∀ x, x < 32 → bt a x = true → x < (dO D).length) ∧ (∀ x, x < 32 → bt b x = true → x < (dS D).length) ∧ spOn T D p K = K q a b)))))) := fun a' b' M14 f14 a14 w77 w78 ba' bb' hsp => by
        rw [ok_cv]
        refine ok_mono (AtM_next hF a14) (fun M15 h15 => ok_some.mpr ?_)
        obtain ⟨a15, f15⟩ := h15
        have f15' : fi (POn (dS D).length) M14 M15 := fi_mono f15 (fun k n i q => Or.inl (P13_6 k n i q))
        refine ⟨by omega, nI_1 c, fi_tr f2 (fi_tr f14 f15'), tkE T q, a', b', fu - 1, a15, by omega, (fi_I f15 (by unfold P13; omega)).trans w77, (fi_I f15 (by unfold P13; omega)).trans w78, ba', bb', fun qn2 => ?_, ?_⟩
        · have := isNm_lt lt.2 qn2
          omega
        · rw [hR, hsp]
          by_cases qn2 : isNm T (tkE T q) = true
          · have := isNm_lt lt.2 qn2
            rw [if_pos qn2, if_pos (Or.inl qn2), show fu - 1 + 1 = fu by omega]
          · rw [if_neg qn2, if_neg (fun r => r.elim qn2 (fun r => by omega))]
      refine ok_jn (P := ¬ (fnd (dOn D) (wdA T q) = none ∧ fnd (dSn D) (wdA T q) = none)) (fun hn => ?_) (fun k56 hk56 => ?_)
      · show ok (nm _ _) _
        rw [ok_nm, ok_ite]
        cases e2 : fnd (dOn D) (wdA T q) with
        | some x =>
          have lx := fnd_lt e2
          have ex := i2.2 x e2
          rw [ex]
          refine ⟨fun r => absurd r (nI_pos (by omega)), fun nr => ?_⟩
          rw [ok_gi, nI_clamp (by omega), g77, ok_ite, b_bit1 _ (show x < 32 by omega)]
          refine ⟨hin, fun hb => ok_some.mpr ⟨q, a2, f2, ?_⟩, fun hb => ?_⟩
          · rw [hR, spOn_1 qn e2, if_pos hb]
          · show ok (bd _ _) _
            rw [ok_bd, ok_ite]
            refine ⟨fun r => absurd r nr, fun _ => ?_⟩
            rw [ok_gi, ok_gi, ok_nm, ok_some]
            have f14 : fi (POn (dS D).length) M5 (sI M5 77 0 (11 + (dS D).length) (a ||| ((1 : Int32) <<< (nI x &&& 31)))) := fi_sI fi_rf (Or.inr ⟨Or.inl rfl, rfl⟩)
            have g14 : fi (fun k _ i => k = 77 ∧ i = 11 + (dS D).length) M5 (sI M5 77 0 (11 + (dS D).length) (a ||| ((1 : Int32) <<< (nI x &&& 31)))) := fi_sI fi_rf ⟨rfl, rfl⟩
            refine ⟨hin, hin, step (a ||| bitI (nI x)) b _ f14 (AtM_6 a2 g14 (fun k n i q => by omega)) (by rw [rII, if_pos ⟨rfl, rfl, rfl⟩]; rfl) (by rw [rII, if_neg (by omega)]; exact g78) (fun y hy r => ?_) bb ?_⟩
            · rw [b_or, Bool.or_eq_true, bitI_b (by omega) hy, decide_eq_true_iff] at r
              exact r.elim (ba y hy) (fun e => by omega)
            · rw [spOn_1 qn e2, if_neg hb]
        | none =>
          have ex := i2.1.mpr e2
          cases e3 : fnd (dSn D) (wdA T q) with
          | none => exact absurd ⟨e2, e3⟩ hn
          | some s =>
            have ls := fnd_lt e3
            have es := i3.2 s e3
            rw [ex, es]
            refine ⟨fun nr => ?_, fun r => absurd (by decide) r⟩
            rw [ok_gi, nI_clamp (by omega), g78, ok_ite, b_bit1 _ (show s < 32 by omega)]
            refine ⟨hin, fun hb => ok_some.mpr ⟨q, a2, f2, ?_⟩, fun hb => ?_⟩
            · rw [hR, spOn_2 qn e2 e3, if_pos hb]
            · show ok (bd _ _) _
              rw [ok_bd, ok_ite]
              refine ⟨fun _ => ?_, fun r => absurd nr r⟩
              rw [ok_gi, ok_gi, ok_nm, ok_some]
              have f14 : fi (POn (dS D).length) M5 (sI M5 78 0 (11 + (dS D).length) (b ||| ((1 : Int32) <<< (nI s &&& 31)))) := fi_sI fi_rf (Or.inr ⟨Or.inr rfl, rfl⟩)
              have g14 : fi (fun k _ i => k = 78 ∧ i = 11 + (dS D).length) M5 (sI M5 78 0 (11 + (dS D).length) (b ||| ((1 : Int32) <<< (nI s &&& 31)))) := fi_sI fi_rf ⟨rfl, rfl⟩
              refine ⟨hin, hin, step a (b ||| bitI (nI s)) _ f14 (AtM_6 a2 g14 (fun k n i q => by omega)) (by rw [rII, if_neg (by omega)]; exact g77) (by rw [rII, if_pos ⟨rfl, rfl, rfl⟩]; rfl) ba (fun y hy r => ?_) ?_⟩
              · rw [b_or, Bool.or_eq_true, bitI_b (by omega) hy, decide_eq_true_iff] at r
                exact r.elim (bb y hy) (fun e => by omega)
              · rw [spOn_2 qn e2 e3, if_neg hb]
      · rw [ok_ite, fdI_le (by omega)]
        refine ⟨fun r => hk56 (fun r2 => by rw [r2.1] at r; cases r), fun r => ?_⟩
        rw [ok_ite, fdI_le (by omega)]
        refine ⟨fun r2 => hk56 (fun r3 => by rw [r3.2] at r2; cases r2), fun r2 => ok_some.mpr ⟨q, a2, f2, ?_⟩⟩
        have nn : ∀ {N : List (List Nat)}, ¬ (fnd N (wdA T q)).isSome = true → fnd N (wdA T q) = none := fun {N} e => by
          cases e2 : fnd N (wdA T q) with
          | none => rfl
          | some i => rw [e2] at e; exact absurd rfl e
        rw [hR]; exact spOn_3 qn (nn r) (nn r2)
    · rw [ok_ite, e0]
      refine ⟨fun e => hj M2 ⟨rfl, fun r => absurd e r⟩, fun e => ?_⟩
      rw [ok_cb]
      refine ok_mono (isSignM_ok a2) (fun r hr => ?_)
      subst hr
      dsimp only
      rw [ok_ite]
      refine ⟨fun qs => ok_some.mpr ⟨q, a, b, a2, f2, g77, g78, ba, bb, ?_⟩, fun qs => hj M2 ⟨rfl, fun _ => by simpa using qs⟩⟩
      rw [hR, if_neg (fun r => r.elim (sn_nm qs) e)]
  · rcases r with M' | M' | M' | M' | M'
    · obtain ⟨q, g1, g2, g3⟩ := hr
      exact bad 1 q M' g1 g2 g3
    · obtain ⟨q, g1, g2, g3⟩ := hr
      exact bad 2 q M' g1 g2 g3
    · obtain ⟨q, g1, g2, g3⟩ := hr
      exact bad 3 q M' g1 g2 g3
    · obtain ⟨q, g1, g2, g3⟩ := hr
      exact bad 3 q M' g1 g2 g3
    · obtain ⟨q, a, b, hr⟩ := hr
      exact ok_some.mpr (Or.inr ⟨rfl, q, a, b, hr⟩)
