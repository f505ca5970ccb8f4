/-! a city as a value: people, oaths, stones; mend, the sure ones; fields (0 faith, 1 tempt, 2 owned, 3 kind, 4 owner, 5 base, 6 lean, 7 clash, 8 weight, 9 rent, 10 on oaths, 11 on stones); the law -/
abbrev cty : Type := (Nat × Nat × Nat) × (Int32 × Int32) × (Nat → Nat → Int32) × (Int32 → Int32 → Int32 → Int32 → Int32)
def cP (C : cty) : Nat := C.1.1
def cO (C : cty) : Nat := C.1.2.1
def cS (C : cty) : Nat := C.1.2.2
def cMd (C : cty) : Int32 := C.2.1.1
def cSu (C : cty) : Int32 := C.2.1.2
def cF (C : cty) (f i : Nat) : Int32 := C.2.2.1 f i
def cLw (C : cty) : Int32 → Int32 → Int32 → Int32 → Int32 := C.2.2.2
/-- a moment: year, broken, forgiven, up -/
abbrev mty : Type := Int32 × Int32 × Int32 × Int32
def MoM (i : Nat) (M : mm) (mo : mty) : Prop := M.1 5 i 0 = mo.1 ∧ M.1 5 i 1 = mo.2.1 ∧ M.1 5 i 2 = mo.2.2.1 ∧ M.1 5 i 3 = mo.2.2.2
/-- bounds -/
def WFb (wb : Nat) (C : cty) : Prop :=
  (cP C ≤ 6 ∧ cO C ≤ 10 ∧ cS C ≤ wb ∧ 0 ≤ (cMd C).toInt ∧ (cMd C).toInt ≤ 10) ∧
  (∀ p, p < cP C → (0 ≤ (cF C 0 p).toInt ∧ (cF C 0 p).toInt ≤ 10) ∧ (0 ≤ (cF C 1 p).toInt ∧ (cF C 1 p).toInt ≤ 99) ∧ ∀ x, x < 32 → (bt (cF C 2 p) x = true ↔ x < cO C ∧ cF C 4 x = nI p)) ∧
  (∀ x, x < cO C → (∃ p, p < cP C ∧ cF C 4 x = nI p) ∧ (∃ k, k < 4 ∧ cF C 3 x = nI k) ∧ (cF C 6 x = -1 ∨ ∃ y, y < cO C ∧ cF C 6 x = nI y) ∧ ∀ y, y < 32 → bt (cF C 7 x) y = true → y < cO C) ∧
  (∀ x, x < 32 → (bt (cSu C) x = true ↔ x < cO C ∧ cF C 3 x = 2)) ∧
  ∀ s, s < cS C → (0 ≤ (cF C 8 s).toInt ∧ (cF C 8 s).toInt ≤ 99) ∧ (0 ≤ (cF C 9 s).toInt ∧ (cF C 9 s).toInt ≤ 99) ∧ (∀ x, x < 32 → bt (cF C 10 s) x = true → x < cO C) ∧ ∀ t, t < 32 → bt (cF C 11 s) t = true → t < s
abbrev WF (C : cty) : Prop := WFb 10 C
/-- the city o of the memory has the value C -/
def CV0 (C : cty) (o : Nat) (M : mm) : Prop :=
  (M.1 1 o 0 = nI (cP C) ∧ M.1 1 o 5 = nI (cO C) ∧ M.1 1 o 13 = nI (cS C) ∧ M.1 3 o 0 = cMd C ∧ M.1 1 o 12 = cSu C) ∧
  (∀ i, i < cP C → M.1 21 o i = cF C 0 i ∧ M.1 22 o i = cF C 1 i ∧ M.1 23 o i = cF C 2 i) ∧
  (∀ i, i < cO C → M.1 25 o i = cF C 3 i ∧ M.1 26 o i = cF C 4 i ∧ M.1 27 o i = cF C 5 i ∧ M.1 28 o i = cF C 6 i ∧ M.1 29 o i = cF C 7 i) ∧
  (∀ i, i < cS C → M.1 31 o i = cF C 8 i ∧ M.1 32 o i = cF C 9 i ∧ M.1 33 o i = cF C 10 i ∧ M.1 34 o i = cF C 11 i) ∧
  ∃ (cs : List Int32) (told : Bool), CodeM o M cs ∧ M.1 3 o 2 = (if told then 1 else 0) ∧ cLw C = noteV told cs
/-- what is noted holds -/
def CVn (C : cty) (o : Nat) (M : mm) : Prop := ∀ x a, x < cO C → a < 2 → M.1 38 o (2 * x + a) = -1 ∨ M.1 37 o (2 * x + a) = clampI (cLw C (cF C 5 x) (M.1 38 o (2 * x + a)) (cF C 3 x) (nI a))
def CV (C : cty) (o : Nat) (M : mm) : Prop := CV0 C o M ∧ CVn C o M
theorem CV0_fr {C : cty} {o : Nat} {M M' : mm} {P : Nat → Nat → Prop} (h : CV0 C o M) (f : fr P M M') (hP : ∀ k, k = 1 ∨ k = 3 ∨ (20 ≤ k ∧ k ≤ 35) → ¬ P k o) : CV0 C o M' := by
  have e : ∀ k, k = 1 ∨ k = 3 ∨ (20 ≤ k ∧ k ≤ 35) → M'.1 k o = M.1 k o := fun k hk => (f.2 k o (hP k hk)).1
  obtain ⟨h1, h2, h3, h4, cs, told, h5, h6, h7⟩ := h
  unfold CV0 CodeM
  simp only [e 1 (by omega), e 3 (by omega), e 21 (by omega), e 22 (by omega), e 23 (by omega), e 25 (by omega), e 26 (by omega), e 27 (by omega), e 28 (by omega), e 29 (by omega), e 31 (by omega), e 32 (by omega), e 33 (by omega), e 34 (by omega), e 35 (by omega)]
  exact ⟨h1, h2, h3, h4, cs, told, h5, h6, h7⟩
theorem CV_fr {C : cty} {o : Nat} {M M' : mm} {P : Nat → Nat → Prop} (h : CV C o M) (f : fr P M M') (hP : ∀ k, k = 1 ∨ k = 3 ∨ (20 ≤ k ∧ k ≤ 38) → ¬ P k o) : CV C o M' := by
  refine ⟨CV0_fr h.1 f (fun k hk => hP k (by omega)), ?_⟩
  have e : ∀ k, k = 37 ∨ k = 38 → M'.1 k o = M.1 k o := fun k hk => (f.2 k o (hP k (by omega))).1
  have h2 := h.2
  unfold CVn at h2 ⊢
  rw [e 37 (by omega), e 38 (by omega)]
  exact h2
theorem MoM_fr {i : Nat} {M M' : mm} {mo : mty} {P : Nat → Nat → Prop} (h : MoM i M mo) (f : fr P M M') (hP : ¬ P 5 i) : MoM i M' mo := by
  unfold MoM at h ⊢
  rw [(f.2 5 i hP).1]
  exact h
def aloneS (C : cty) (br : Int32) (x : Nat) : Nat := if ((cF C 2 (cF C 4 x).toNatClampNeg) &&& (br ^^^ (-1))) &&& (((1 : Int32) <<< (nI x &&& 31)) ^^^ (-1)) = 0 then 1 else 0
theorem aloneS_lt (C : cty) (br : Int32) (x : Nat) : aloneS C br x < 2 := by unfold aloneS; split <;> omega
/-- STRENGTH -/
def strV (C : cty) (mo : mty) (x : Nat) : Int32 := clampI (cLw C (cF C 5 x) mo.1 (cF C 3 x) (nI (aloneS C mo.2.1 x)))
def strF (C : cty) (mo : mty) (x : Nat) : Int32 := if bt mo.2.2.1 x then (strV C mo x * cMd C) / 10 else strV C mo x
def strS (C : cty) (mo : mty) (x : Nat) : Int32 :=
  if bt mo.2.1 x then 0 else if cF C 6 x ≠ -1 ∧ bt mo.2.1 (cF C 6 x).toNatClampNeg = true then 0 else if cF C 6 x = -1 then strF C mo x else strF C mo x + 5
theorem strF_b {wb : Nat} {C : cty} (h : WFb wb C) (mo : mty) (x : Nat) : 0 ≤ (strF C mo x).toInt ∧ (strF C mo x).toInt ≤ 999 := by
  have h1 := clampI_b (cLw C (cF C 5 x) mo.1 (cF C 3 x) (nI (aloneS C mo.2.1 x)))
  have h2 := h.1.2.2.2
  unfold strF strV
  split
  · rw [i_nI h1.1, i_nI h2.1, pk_mul]
    have e1 := i_clamp h1.1
    have e2 := i_clamp h2.1
    generalize (clampI (cLw C (cF C 5 x) mo.1 (cF C 3 x) (nI (aloneS C mo.2.1 x)))).toNatClampNeg = n at e1 ⊢
    generalize (cMd C).toNatClampNeg = m at e2 ⊢
    have hn : n ≤ 999 := by omega
    have hm : m ≤ 10 := by omega
    have hnm : n * m ≤ 999 * 10 := Nat.mul_le_mul hn hm
    show 0 ≤ (nI (n * m) / nI 10).toInt ∧ (nI (n * m) / nI 10).toInt ≤ 999
    rw [pk_div (by omega) (by decide) (by decide), nI_toInt (by omega)]
    omega
  · exact h1
theorem strS_b {wb : Nat} {C : cty} (h : WFb wb C) (mo : mty) (x : Nat) : 0 ≤ (strS C mo x).toInt ∧ (strS C mo x).toInt ≤ 1004 := by
  have h1 := strF_b h mo x
  have h0 : (0 : Int32).toInt = 0 := rfl
  have h5 : (5 : Int32).toInt = 5 := rfl
  unfold strS
  split
  · omega
  · split
    · omega
    · split
      · omega
      · rw [i_add (by omega) (by omega)]; omega
theorem note_ok {F : Nat} (hF : 2000 < F) {o : Nat} {C : cty} {M : mm} (hw : WF C) (h : CV C o M) {x a : Nat} (hx : x < cO C) (ha : a < 2) {y : Int32} (hy : y ≠ -1) :
    ok (m_X2_note F o o (nI x) y (nI a) M) (fun M' => CV C o M' ∧ fr (PL o) M M' ∧ M'.1 37 o (2 * x + a) = clampI (cLw C (cF C 5 x) y (cF C 3 x) (nI a))) := by
  have hO := hw.1.2.1
  obtain ⟨⟨h1, h2, h3, h4, cs, told, h5, h6, h7⟩, hn⟩ := id h
  obtain ⟨f25, f26, f27, f28, f29⟩ := h3 x hx
  unfold m_X2_note
  simp only [ok_gi, ok_nm, nI_clamp (show x < 2 ^ 31 by omega), f25, f27]
  refine ⟨vp_in_nI (by omega) (by decide), vp_in_nI (by omega) (by decide), ?_⟩
  rw [ok_bd]
  refine ok_mono (Q := fun z => z = (if told then 0 else plainV (cF C 5 x) y (cF C 3 x) (nI a), M)) ?_ (fun z hz => ?_)
  · rw [h6]
    cases told
    · simp only [Bool.false_eq_true, if_false, if_true, ok_cl]
      refine ok_mono plainWorth_ok (fun q hq => ?_)
      subst hq
      exact ok_some.mpr rfl
    · simp only [if_true]
      rw [if_neg (by decide), ok_some]
  · subst hz
    dsimp only
    rw [ok_bd]
    refine ok_mono (noteLoop_ok hF (b := cF C 5 x) (y := y) (k := cF C 3 x) (a := nI a) h5) (fun r hr => ?_)
    obtain ⟨x20, M21⟩ := r
    obtain ⟨r1, r2, r3⟩ := hr
    dsimp only at r1 r2 r3 ⊢
    subst r1
    have hl := r2.1
    have hv : ok (if nI (pev (cF C 5 x) y (cF C 3 x) (nI a) cs).length ≤ (0 : Int32) then some (if told then 0 else plainV (cF C 5 x) y (cF C 3 x) (nI a)) else gi (0 : Int32) 64 (some (M21.1 36 o (Int32.toNatClampNeg (0 : Int32))))) (fun v => v = cLw C (cF C 5 x) y (cF C 3 x) (nI a)) := by
      rw [h7]
      unfold noteV
      have n0 : nI (pev (cF C 5 x) y (cF C 3 x) (nI a) cs).length ≤ (0 : Int32) ↔ (pev (cF C 5 x) y (cF C 3 x) (nI a) cs).length ≤ 0 := nI_le_lit (by decide) (by omega)
      rw [ok_ite, n0]
      generalize pev (cF C 5 x) y (cF C 3 x) (nI a) cs = st at r2
      refine ⟨fun q => ?_, fun q => ?_⟩
      · have : st = [] := List.length_eq_zero_iff.mp (by omega)
        subst this
        exact ok_some.mpr rfl
      · rw [ok_gi, ok_some]
        refine ⟨vp_in_nI (n := 0) (by decide) (by decide), ?_⟩
        have e0 : (0 : Int32).toNatClampNeg = 0 := rfl
        rw [e0]
        have hne : st ≠ [] := fun e => q (by rw [e]; simp)
        have e1 : st.reverse[0]? = st.getLast? := by
          rw [← List.head?_eq_getElem?, List.head?_reverse]
        rw [List.getLast?_eq_some_getLast hne] at e1 ⊢
        exact r2.2 0 _ e1
    rw [ok_bd]
    refine ok_mono hv (fun v hv => ?_)
    subst hv
    rw [ok_bd]
    refine ok_mono (Q := fun v => v = clampI (cLw C (cF C 5 x) y (cF C 3 x) (nI a))) ?_ (fun v hv => ?_)
    · unfold clampI
      simp only [ok_ite, ok_some]
      refine ⟨fun g1 => ⟨fun g2 => by rw [if_pos g1, if_pos g2], fun g2 => by rw [if_pos g1, if_neg g2]⟩, fun g1 => by rw [if_neg g1]⟩
    · subst hv
      have ix : (2 : Int32) * nI x + nI a = nI (2 * x + a) := by
        show nI 2 * nI x + nI a = _
        rw [pk_mul, nI_add]
      simp only [ix, ok_gi, ok_nm, ok_some, nI_clamp (show 2 * x + a < 2 ^ 31 by omega)]
      refine ⟨vp_in_nI (by omega) (by decide), vp_in_nI (by omega) (by decide), ?_⟩
      have hf : fr (PL o) M (sI (sI M21 37 o (2 * x + a) (clampI (cLw C (cF C 5 x) y (cF C 3 x) (nI a)))) 38 o (2 * x + a) y) := fr_sI (fr_sI (fr_mono r3 (fun k n q => ⟨Or.inl q.1, q.2⟩)) ⟨Or.inr (Or.inl rfl), rfl⟩) ⟨Or.inr (Or.inr rfl), rfl⟩
      refine ⟨⟨CV0_fr h.1 hf (fun k hk q => by unfold PL at q; omega), fun x' a' hx' ha' => ?_⟩, hf, ?_⟩
      · have e37 : M21.1 37 o (2 * x' + a') = M.1 37 o (2 * x' + a') := fr_I r3 (by omega) _
        have e38 : M21.1 38 o (2 * x' + a') = M.1 38 o (2 * x' + a') := fr_I r3 (by omega) _
        simp only [rII]
        by_cases e : 2 * x' + a' = 2 * x + a
        · have ex : x' = x := by omega
          have ea : a' = a := by omega
          subst ex; subst ea
          right
          simp
        · have := hn x' a' hx' ha'
          simp [e, e37, e38]
          exact this
      · simp [rII]
theorem strengthOf_ok {F : Nat} (hF : 2000 < F) {o i : Nat} {C : cty} {M : mm} {mo : mty} (hw : WF C) (h : CV C o M) (hm : MoM i M mo) (hy : mo.1 ≠ -1) {x : Nat} (hx : x < cO C) :
    ok (m_X0_strengthOf F o (nI x) i M) (fun r => r.1 = strS C mo x ∧ CV C o r.2 ∧ fr (PL o) M r.2) := by
  have hO := hw.1.2.1
  have hP := hw.1.1
  obtain ⟨⟨h1, h2, h3, h4, h5⟩, hn⟩ := id h
  obtain ⟨f25, f26, f27, f28, f29⟩ := h3 x hx
  obtain ⟨m0, m1, m2, m3⟩ := hm
  obtain ⟨⟨p, hp, ep⟩, -, hl, -⟩ := hw.2.2.1 x hx
  have f23 := (h2 p hp).2.2
  unfold m_X0_strengthOf
  rw [ok_ite]
  simp only [nI_clamp (show x < 2 ^ 31 by omega), f28, f26, m0, m1, m2, ep, nI_clamp (show p < 2 ^ 31 by omega), f23, b_bit0 _ (show x < 32 by omega)]
  have hb : ¬ bt mo.2.1 x = false → strS C mo x = 0 := fun q => by
    unfold strS
    cases e : bt mo.2.1 x
    · exact absurd e q
    · simp
  refine ⟨fun hb0 => ?_, fun hb0 => ok_some.mpr ⟨(hb hb0).symm, h, fr_rf⟩⟩
  rw [ok_gi]
  refine ⟨vp_in_nI (by omega) (by decide), ?_⟩
  rw [ok_nm]
  have ha2 := aloneS_lt C mo.2.1 x
  have ix : (2 : Int32) * nI x + nI (aloneS C mo.2.1 x) = nI (2 * x + aloneS C mo.2.1 x) := by
    show nI 2 * nI x + nI _ = _
    rw [pk_mul, nI_add]
  refine ok_jn (P := ¬ (cF C 6 x ≠ -1 ∧ bt mo.2.1 (cF C 6 x).toNatClampNeg = true)) (fun hnb => ?_) (fun j hj => ?_)
  · have hS : strS C mo x = if cF C 6 x = -1 then strF C mo x else strF C mo x + 5 := by
      unfold strS
      rw [hb0, if_neg (by decide), if_neg hnb]
    rw [hS]
    rw [ok_gi]
    refine ⟨vp_in_nI (by omega) (by decide), ?_⟩
    rw [ok_gi]
    refine ⟨vp_in_nI (by omega) (by decide), ?_⟩
    rw [ok_nm, ok_bd]
    refine ok_mono (Q := fun v => v = nI (aloneS C mo.2.1 x)) ?_ (fun v hv => ?_)
    · unfold aloneS
      rw [ep, nI_clamp (by omega)]
      simp only [ok_ite, ok_some]
      exact ⟨fun q => by rw [if_pos q]; rfl, fun q => by rw [if_neg q]; rfl⟩
    · subst hv
      rw [ix, ok_gi]
      refine ⟨vp_in_nI (by omega) (by decide), ?_⟩
      rw [ok_bd]
      refine ok_mono (Q := fun M' => CV C o M' ∧ fr (PL o) M M' ∧ M'.1 37 o (2 * x + aloneS C mo.2.1 x) = strV C mo x) ?_ (fun M5 h5' => ?_)
      · rw [ok_ite, nI_clamp (by omega)]
        refine ⟨fun q => ok_some.mpr ⟨h, fr_rf, ?_⟩, fun q => ?_⟩
        · rcases hn x _ hx ha2 with e | e
          · rw [q] at e; exact absurd e hy
          · rw [e, q]; rfl
        · rw [ok_cv]
          exact ok_mono (note_ok hF hw h hx ha2 hy) (fun M' q => ok_some.mpr q)
      · obtain ⟨g1, g2, g3⟩ := h5'
        rw [ok_gi]
        refine ⟨vp_in_nI (by omega) (by decide), ?_⟩
        have q2 : M5.1 5 i 2 = mo.2.2.1 := (fr_I g2 (by unfold PL; omega) 2).trans m2
        have q19 : M5.1 3 o 0 = cMd C := g1.1.1.2.2.2.1
        rw [ok_nm, nI_clamp (by omega), g3, ok_bd, q2, q19]
        refine ok_mono (Q := fun v => v = strF C mo x) ?_ (fun v hv => ?_)
        · unfold strF
          rw [ok_ite]
          refine ⟨fun q => ok_some.mpr (by rw [q]; rfl), fun q => ok_nm.mpr (ok_some.mpr ?_)⟩
          cases e : bt mo.2.2.1 x
          · exact absurd e q
          · rfl
        · subst hv
          rw [ok_ite]
          exact ⟨fun q => ok_some.mpr ⟨by rw [if_pos q], g1, g2⟩, fun q => ok_some.mpr ⟨by rw [if_neg q], g1, g2⟩⟩
  · rw [ok_ite]
    refine ⟨fun q => hj (fun q2 => q2.1 q), fun q => ?_⟩
    obtain ⟨y, hy', ey⟩ : ∃ y, y < cO C ∧ cF C 6 x = nI y := by
      rcases hl with e | e
      · exact absurd e q
      · exact e
    rw [ey, ok_ite, b_bit0 _ (show y < 32 by omega)]
    refine ⟨fun q2 => hj (fun q3 => ?_), fun q2 => ok_some.mpr ⟨?_, h, fr_rf⟩⟩
    · rw [ey, nI_clamp (by omega), q2] at q3; exact absurd q3.2 (by decide)
    · unfold strS
      rw [hb0, if_neg (by decide), if_pos]
      refine ⟨q, ?_⟩
      rw [ey, nI_clamp (by omega)]
      cases e : bt mo.2.1 y
      · exact absurd e q2
      · rfl
