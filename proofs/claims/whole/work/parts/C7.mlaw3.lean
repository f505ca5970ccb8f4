/-! the reference's law: a joint -/
def mHd (lv : List (Int32 × Int32)) : Int32 × Int32 := lv.head?.getD (0, 0)
def mJnt (T : List Int32) (p : Nat) (s : mst) : Nat ⊕ mst :=
  if isS T p 43 = true ∨ isS T p 45 = true ∨ isS T p 42 = true then .inr (s.1 ++ [if isS T p 43 = true then 20 else if isS T p 45 = true then 21 else 22], s.2.1, true)
  else if (isS T p 60 = true ∨ isS T p 61 = true) ∧ (mHd s.2.1).2 = 0 then .inr (s.1 ++ [if isS T p 60 = true then 24 else 25], ((mHd s.2.1).1, 1) :: s.2.1.tail, true)
  else if isW T p 23 = true ∨ isW T p 24 = true then .inr (s.1 ++ [if isW T p 23 = true then 26 else 27], ((mHd s.2.1).1, 0) :: s.2.1.tail, true)
  else if isS T p 41 = true ∧ ¬ s.2.1.length ≤ 1 then .inr (s.1 ++ [29], lPop s.2.1.tail, false)
  else .inl 0
theorem mfin {F : Nat} (hF : 2000 < F) {T : List Int32} {p : Nat} {ks : List Int32} {lv : List (Int32 × Int32)} {due : Bool} {M M' : mm} (hk : (tkA T p).1 ≠ 0) (h1 : CoM ks M') (h2 : LvR lv M') (h3 : AtM T p M') (h4 : LvK lv) (h5 : lv.length ≤ 6) (h6 : ks.length ≤ p + 1) (f : fi PRs M M') {a b c0 : Int32} (ha : a = nI (lv.length - 1)) (hb : b = bN due) : ok (cv (m_X12_nextToken F M') fun M48 => (some (.inl (a, b, M48)) : Option ((Int32 × Int32 × mm) ⊕ (mm ⊕ mm ⊕ (Int32 × mm))))) (QS T p M c0 (.inr (ks, lv, due))) := by
  have hgt := tkE_gt h3.1 hk
  subst ha
  subst hb
  rw [ok_cv]
  refine ok_mono (AtM_next hF h3) (fun M67 g67 => ok_some.mpr ?_)
  obtain ⟨a67, f67⟩ := g67
  exact ⟨(ks, lv, due), rfl, ⟨rfl, rfl, ⟨(fi_I f67 (by unfold P13; omega)).trans h1.1, fun i c hi => (fi_I f67 (by unfold P13; omega)).trans (h1.2 i c hi)⟩, LvR_fi h2 f67 (fun k i _ q => by unfold P13 at q; omega), a67⟩, ⟨h4, h5, h6⟩, hgt.1, hgt.2, fi_tr f (fi_mono f67 (fun k n i q => by unfold P13 at q; unfold PRs; omega))⟩
theorem PPu_R : ∀ k n i, PPu k n i → PRs k n i := fun k n i q => by unfold PPu at q; unfold PRs; omega
theorem mjnt_step {F : Nat} (hF : 2000 < F) {T : List Int32} {p : Nat} {s : mst} {M : mm} (hT1 : T.length ≤ 1000) (hc : MsC T p s (nI (s.2.1.length - 1), 0, M)) (hk : MsK p s) : ok (b_X12_reads_1c F (nI (s.2.1.length - 1)) 0 M) (QS T p M (nI (s.2.1.length - 1)) (mJnt T p s)) := by
  obtain ⟨ks, lv, due⟩ := s
  obtain ⟨-, -, h3, h4, h5⟩ := hc
  obtain ⟨k1, k2, k3⟩ := hk
  dsimp only at h3 h4 h5 k1 k2 k3 ⊢
  have hp := h5.1
  have n0 : vp_nar .boolean (0 : Int32) = 0 := by decide
  have n1 : vp_nar .boolean (1 : Int32) = 1 := by decide
  cases lv with
  | nil => exact k1.elim
  | cons e w =>
  rw [List.length_cons] at k2
  have el : (e :: w).length - 1 = w.length := by rw [List.length_cons, Nat.add_sub_cancel]
  rw [el]
  have hin : vp_in (nI w.length) 7 := vp_in_nI (by omega) (by decide)
  have h83 : M.1 83 0 w.length = e.2 := h4.2.1
  have eH : mHd (e :: w) = e := rfl
  -- a code is put, the level's mark is set
  have put : ∀ a : Int32, (tkA T p).1 ≠ 0 → ok (m_X12_puts F a M) (fun M' => CoM (ks ++ [a]) M' ∧ LvR (e :: w) M' ∧ AtM T p M' ∧ (ks ++ [a]).length ≤ p + 1 ∧ fi PRs M M') := fun a hk0 => by
    have hgt := tkE_gt hp hk0
    refine ok_mono (puts_ok (a := a) h3 (by omega)) (fun M' g => ⟨g.1, LvR_fi h4 g.2 (fun k i _ q => by unfold PPu at q; omega), AtM_6 h5 g.2 (fun k n i q => by unfold PPu at q; omega), by rw [List.length_append, List.length_singleton]; omega, fi_mono g.2 PPu_R⟩)
  have mark : ∀ (ks' : List Int32) (v : Int32) (M' : mm), CoM ks' M' → LvR (e :: w) M' → AtM T p M' → fi PRs M M' → CoM ks' (sI M' 83 0 w.length v) ∧ LvR ((e.1, v) :: w) (sI M' 83 0 w.length v) ∧ AtM T p (sI M' 83 0 w.length v) ∧ fi PRs M (sI M' 83 0 w.length v) := fun ks' v M' c l a f => by
    have f2 : fi (fun k n i => k = 83 ∧ n = 0 ∧ i = w.length) M' (sI M' 83 0 w.length v) := fi_sI fi_rf ⟨rfl, rfl, rfl⟩
    exact ⟨⟨(fi_I f2 (by omega)).trans c.1, fun i x hi => (fi_I f2 (by omega)).trans (c.2 i x hi)⟩, ⟨fun q => (fi_I f2 (by omega)).trans (l.1 q), (by rw [rII, if_pos ⟨rfl, rfl, rfl⟩]), LvR_fi l.2.2 f2 (fun k i hi q => by omega)⟩, AtM_6 a f2 (fun k n i q => by omega), fi_tr f (fi_mono f2 (fun k n i q => by unfold PRs; omega))⟩
  have kmk : ∀ v : Int32, LvK ((e.1, v) :: w) := fun v => by
    cases w with
    | nil => exact k1
    | cons d w => exact k1
  unfold b_X12_reads_1c
  rw [if_pos rfl, ok_cb]
  refine ok_mono (isSignM_ok h5 (c := 43)) (fun r hr => ?_)
  subst hr
  dsimp only
  rw [ok_nm, ok_nm]
  have ar : (isS T p 43 = true ∨ isS T p 45 = true ∨ isS T p 42 = true) → ok (cb (m_X12_isSign F (43 : Int32) M) fun b39 M38 =>
      bd (
        if b39 = true then
          some ((20 : Int32), M38)
        else
          cb (m_X12_isSign F (45 : Int32) M38) fun b41 M40 =>
          if b41 = true then
            some ((21 : Int32), M40)
          else
            some ((22 : Int32), M40)
      ) (fun z => match z with
          | (x42, M43) =>
            cv (m_X12_puts F x42 M43) fun M44 => cv (m_X12_nextToken F M44) fun M48 => (some (.inl (nI w.length, (1 : Int32), M48)) : Option ((Int32 × Int32 × mm) ⊕ (mm ⊕ mm ⊕ (Int32 × mm)))))) (QS T p M (nI w.length) (mJnt T p (ks, e :: w, due))) := fun hs => by
    have hk0 : (tkA T p).1 ≠ 0 := hs.elim isS_k (fun q => q.elim isS_k isS_k)
    have eS : mJnt T p (ks, e :: w, due) = .inr (ks ++ [if isS T p 43 = true then 20 else if isS T p 45 = true then 21 else 22], e :: w, true) := if_pos hs
    rw [eS, ok_cb]
    refine ok_mono (isSignM_ok h5 (c := 43)) (fun r hr => ?_)
    subst hr
    dsimp only
    rw [ok_bd]
    refine ok_mono (Q := fun z => z = ((if isS T p 43 = true then (20 : Int32) else if isS T p 45 = true then 21 else 22), M)) ?_ (fun z hz => ?_)
    · rw [ok_ite]
      refine ⟨fun q => ok_some.mpr (by rw [if_pos q]), fun q => ?_⟩
      rw [if_neg q, ok_cb]
      refine ok_mono (isSignM_ok h5 (c := 45)) (fun r hr => ?_)
      subst hr
      dsimp only
      rw [ok_ite]
      exact ⟨fun q => ok_some.mpr (by rw [if_pos q]), fun q => ok_some.mpr (by rw [if_neg q])⟩
    · subst hz
      generalize (if isS T p 43 = true then (20 : Int32) else if isS T p 45 = true then 21 else 22) = a
      dsimp only
      rw [ok_cv]
      refine ok_mono (put a hk0) (fun M44 g => ?_)
      exact mfin hF hk0 g.1 g.2.1 g.2.2.1 k1 (by rw [List.length_cons]; omega) g.2.2.2.1 g.2.2.2.2 (by rw [el]) rfl
  rw [ok_ite]
  refine ⟨fun q => ar (Or.inl q), fun q43 => ?_⟩
  rw [ok_cb]
  refine ok_mono (isSignM_ok h5 (c := 45)) (fun r hr => ?_)
  subst hr
  dsimp only
  rw [ok_ite]
  refine ⟨fun q => ar (Or.inr (Or.inl q)), fun q45 => ?_⟩
  rw [ok_cb]
  refine ok_mono (isSignM_ok h5 (c := 42)) (fun r hr => ?_)
  subst hr
  dsimp only
  rw [ok_ite]
  refine ⟨fun q => ar (Or.inr (Or.inr q)), fun q42 => ?_⟩
  clear ar
  have eS1 : mJnt T p (ks, e :: w, due) = if (isS T p 60 = true ∨ isS T p 61 = true) ∧ e.2 = 0 then .inr (ks ++ [if isS T p 60 = true then 24 else 25], (e.1, 1) :: w, true)
    else if isW T p 23 = true ∨ isW T p 24 = true then .inr (ks ++ [if isW T p 23 = true then 26 else 27], (e.1, 0) :: w, true)
    else if isS T p 41 = true ∧ ¬ (e :: w).length ≤ 1 then .inr (ks ++ [29], lPop w, false)
    else .inl 0 := if_neg (fun r => r.elim q43 (fun r => r.elim q45 q42))
  rw [eS1, ok_cb]
  refine ok_mono (isSignM_ok h5 (c := 60)) (fun r hr => ?_)
  subst hr
  dsimp only
  generalize hR : (if isW T p 23 = true ∨ isW T p 24 = true then (Sum.inr (ks ++ [if isW T p 23 = true then 26 else 27], (e.1, 0) :: w, true) : Nat ⊕ mst)
    else if isS T p 41 = true ∧ ¬ (e :: w).length ≤ 1 then .inr (ks ++ [29], lPop w, false)
    else .inl 0) = rest
  have late : ok (cb (m_X12_isWord F (1111 : Int64) M) fun b23 M22 =>
            nm (fun (M31 : mm) =>
              cb (m_X12_isWord F (1111 : Int64) M31) fun b33 M32 =>
              bd (
                if b33 = true then
                  some (26 : Int32)
                else
                  some (27 : Int32)
              ) (fun x34 =>
                  cv (m_X12_puts F x34 M32) fun M35 =>
                  gi (nI w.length) 7 <|
                  nm (sI M35 83 0 (Int32.toNatClampNeg (nI w.length)) (vp_nar .boolean (0 : Int32))) fun M36 =>
                  cv (m_X12_nextToken F M36) fun M48 => (some (.inl (nI w.length, (1 : Int32), M48)) : Option ((Int32 × Int32 × mm) ⊕ (mm ⊕ mm ⊕ (Int32 × mm)))))) fun j324 =>
            if b23 = true then
              j324 M22
            else
              cb (m_X12_isWord F (423 : Int64) M22) fun b25 M24 =>
              if b25 = true then
                j324 M24
              else
                cb (m_X12_isSign F (41 : Int32) M24) fun b27 M26 =>
                if b27 = true then
                  if nI w.length ≤ (0 : Int32) then
                    some (.inr (.inr (.inr (nI w.length, M26))))
                  else
                    cv (m_X12_puts F (29 : Int32) M26) fun M28 =>
                    bd (lp (b_X12_reads_2 F M28) F (nI w.length + (-1 : Int32)))
                      (fun x30 =>
                        cv (m_X12_nextToken F M28) fun M48 => some (.inl (x30, (0 : Int32), M48)))
                else
                  some (.inr (.inr (.inr (nI w.length, M26))))) (QS T p M (nI w.length) rest) := by
    have two : (isW T p 23 = true ∨ isW T p 24 = true) → ok (cb (m_X12_isWord F (1111 : Int64) M) fun b33 M32 =>
              bd (
                if b33 = true then
                  some (26 : Int32)
                else
                  some (27 : Int32)
              ) (fun x34 =>
                  cv (m_X12_puts F x34 M32) fun M35 =>
                  gi (nI w.length) 7 <|
                  nm (sI M35 83 0 (Int32.toNatClampNeg (nI w.length)) (vp_nar .boolean (0 : Int32))) fun M36 =>
                  cv (m_X12_nextToken F M36) fun M48 => (some (.inl (nI w.length, (1 : Int32), M48)) : Option ((Int32 × Int32 × mm) ⊕ (mm ⊕ mm ⊕ (Int32 × mm)))))) (QS T p M (nI w.length) rest) := fun hs => by
      have hk0 : (tkA T p).1 ≠ 0 := hs.elim isW_k isW_k
      rw [if_pos hs] at hR
      subst hR
      rw [ok_cb]
      refine ok_mono (isWordM_ok (i := 23) h5 (by decide) kc23) (fun r hr => ?_)
      subst hr
      dsimp only
      rw [ok_bd]
      refine ok_mono (Q := fun z => z = (if isW T p 23 = true then (26 : Int32) else 27)) ?_ (fun z hz => ?_)
      · rw [ok_ite]
        exact ⟨fun q => ok_some.mpr (by rw [if_pos q]), fun q => ok_some.mpr (by rw [if_neg q])⟩
      · subst hz
        generalize (if isW T p 23 = true then (26 : Int32) else 27) = a
        rw [ok_cv]
        refine ok_mono (put a hk0) (fun M35 g => ?_)
        obtain ⟨g1, g2, g3, g4, g5⟩ := g
        rw [ok_gi, ok_nm, n0, nI_clamp (by omega)]
        obtain ⟨m1, m2, m3, m4⟩ := mark _ 0 M35 g1 g2 g3 g5
        refine ⟨hin, mfin hF hk0 m1 m2 m3 (kmk 0) (by rw [List.length_cons]; omega) g4 m4 ?_ rfl⟩
        rw [List.length_cons, Nat.add_sub_cancel]
    rw [ok_cb]
    refine ok_mono (isWordM_ok (i := 23) h5 (by decide) kc23) (fun r hr => ?_)
    subst hr
    dsimp only
    rw [ok_nm, ok_ite]
    refine ⟨fun q => two (Or.inl q), fun q23 => ?_⟩
    rw [ok_cb]
    refine ok_mono (isWordM_ok (i := 24) h5 (by decide) kc24) (fun r hr => ?_)
    subst hr
    dsimp only
    rw [ok_ite]
    refine ⟨fun q => two (Or.inr q), fun q24 => ?_⟩
    clear two
    rw [if_neg (fun r => r.elim q23 q24)] at hR
    rw [ok_cb]
    refine ok_mono (isSignM_ok h5 (c := 41)) (fun r hr => ?_)
    subst hr
    dsimp only
    have e0 : nI w.length ≤ (0 : Int32) ↔ w.length ≤ 0 := (nI_leI (by omega) (by omega) : nI w.length ≤ nI 0 ↔ _)
    rw [ok_ite]
    refine ⟨fun q41 => ?_, fun q41 => ok_some.mpr ?_⟩
    · have hk0 := isS_k q41
      rw [ok_ite, e0]
      refine ⟨fun q => ok_some.mpr ?_, fun q => ?_⟩
      · rw [if_neg (fun r => r.2 (by rw [List.length_cons]; omega))] at hR
        subst hR
        exact ⟨rfl, rfl, rfl⟩
      · rw [if_pos ⟨q41, by rw [List.length_cons]; omega⟩] at hR
        subst hR
        have kw : LvK w := by
          cases w with
          | nil => exact absurd (Nat.le_refl _) q
          | cons d w => exact k1.2
        have em : nI w.length + (-1 : Int32) = nI (w.length - 1) := by
          obtain ⟨n, hn⟩ : ∃ n, w.length = n + 1 := ⟨w.length - 1, by omega⟩
          rw [hn]
          exact (Int32.sub_eq_add_neg _ _).symm.trans (nI_m1 _)
        rw [ok_cv]
        refine ok_mono (put 29 hk0) (fun M28 g => ?_)
        obtain ⟨g1, g2, g3, g4, g5⟩ := g
        rw [em, ok_bd]
        refine ok_mono (pop2_ok hF g2.2.2 kw (by omega)) (fun x hx => ?_)
        obtain ⟨p1, p2⟩ := lPop_c w kw
        exact mfin hF hk0 g1 (lPop_R w g2.2.2) g3 p1 (by omega) g4 g5 hx rfl
    · rw [if_neg (fun r => q41 r.1)] at hR
      subst hR
      exact ⟨rfl, rfl, rfl⟩
  have comp : (isS T p 60 = true ∨ isS T p 61 = true) → ok (gi (nI w.length) 7 <|
            if (M.1 83 0 (Int32.toNatClampNeg (nI w.length))) = (0 : Int32) then
              cb (m_X12_isSign F (60 : Int32) M) fun b17 M16 =>
              bd (
                if b17 = true then
                  some (24 : Int32)
                else
                  some (25 : Int32)
              ) (fun x18 =>
                  cv (m_X12_puts F x18 M16) fun M19 =>
                  gi (nI w.length) 7 <|
                  nm (sI M19 83 0 (Int32.toNatClampNeg (nI w.length)) (vp_nar .boolean (1 : Int32))) fun M20 =>
                  cv (m_X12_nextToken F M20) fun M48 => (some (.inl (nI w.length, (1 : Int32), M48)) : Option ((Int32 × Int32 × mm) ⊕ (mm ⊕ mm ⊕ (Int32 × mm)))))
            else cb (m_X12_isWord F (1111 : Int64) M) fun b23 M22 =>
            nm (fun (M31 : mm) =>
              cb (m_X12_isWord F (1111 : Int64) M31) fun b33 M32 =>
              bd (
                if b33 = true then
                  some (26 : Int32)
                else
                  some (27 : Int32)
              ) (fun x34 =>
                  cv (m_X12_puts F x34 M32) fun M35 =>
                  gi (nI w.length) 7 <|
                  nm (sI M35 83 0 (Int32.toNatClampNeg (nI w.length)) (vp_nar .boolean (0 : Int32))) fun M36 =>
                  cv (m_X12_nextToken F M36) fun M48 => (some (.inl (nI w.length, (1 : Int32), M48)) : Option ((Int32 × Int32 × mm) ⊕ (mm ⊕ mm ⊕ (Int32 × mm)))))) fun j324 =>
            if b23 = true then
              j324 M22
            else
              cb (m_X12_isWord F (423 : Int64) M22) fun b25 M24 =>
              if b25 = true then
                j324 M24
              else
                cb (m_X12_isSign F (41 : Int32) M24) fun b27 M26 =>
                if b27 = true then
                  if nI w.length ≤ (0 : Int32) then
                    some (.inr (.inr (.inr (nI w.length, M26))))
                  else
                    cv (m_X12_puts F (29 : Int32) M26) fun M28 =>
                    bd (lp (b_X12_reads_2 F M28) F (nI w.length + (-1 : Int32)))
                      (fun x30 =>
                        cv (m_X12_nextToken F M28) fun M48 => some (.inl (x30, (0 : Int32), M48)))
                else
                  some (.inr (.inr (.inr (nI w.length, M26))))) (QS T p M (nI w.length) (if (isS T p 60 = true ∨ isS T p 61 = true) ∧ e.2 = 0 then .inr (ks ++ [if isS T p 60 = true then 24 else 25], (e.1, 1) :: w, true) else rest)) := fun hs => by
    rw [ok_gi, ok_ite, nI_clamp (by omega), h83]
    refine ⟨hin, fun q => ?_, fun q => ?_⟩
    · have hk0 : (tkA T p).1 ≠ 0 := hs.elim isS_k isS_k
      rw [if_pos (show (isS T p 60 = true ∨ isS T p 61 = true) ∧ e.2 = 0 from ⟨hs, q⟩), ok_cb]
      refine ok_mono (isSignM_ok h5 (c := 60)) (fun r hr => ?_)
      subst hr
      dsimp only
      rw [ok_bd]
      refine ok_mono (Q := fun z => z = (if isS T p 60 = true then (24 : Int32) else 25)) ?_ (fun z hz => ?_)
      · rw [ok_ite]
        exact ⟨fun q => ok_some.mpr (by rw [if_pos q]), fun q => ok_some.mpr (by rw [if_neg q])⟩
      · subst hz
        generalize (if isS T p 60 = true then (24 : Int32) else 25) = a
        rw [ok_cv]
        refine ok_mono (put a hk0) (fun M35 g => ?_)
        obtain ⟨g1, g2, g3, g4, g5⟩ := g
        rw [ok_gi, ok_nm, n1]
        obtain ⟨m1, m2, m3, m4⟩ := mark _ 1 M35 g1 g2 g3 g5
        refine ⟨hin, mfin hF hk0 m1 m2 m3 (kmk 1) (by rw [List.length_cons]; omega) g4 m4 ?_ rfl⟩
        rw [List.length_cons, Nat.add_sub_cancel]
    · rw [if_neg (show ¬ ((isS T p 60 = true ∨ isS T p 61 = true) ∧ e.2 = 0) from fun r => q r.2)]
      have := late
      rw [nI_clamp (by omega)] at this
      exact this
  rw [ok_nm, ok_nm, ok_ite]
  refine ⟨fun q => comp (Or.inl q), fun q60 => ?_⟩
  rw [ok_cb]
  refine ok_mono (isSignM_ok h5 (c := 61)) (fun r hr => ?_)
  subst hr
  dsimp only
  rw [ok_ite]
  refine ⟨fun q => comp (Or.inr q), fun q61 => ?_⟩
  rw [if_neg (show ¬ ((isS T p 60 = true ∨ isS T p 61 = true) ∧ e.2 = 0) from fun r => r.1.elim q60 q61)]
  exact late
