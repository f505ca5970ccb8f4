/-! copies of moments; what can be undone -/
theorem MoR_Rw {M : mm} {mo : mty} : MoR M mo ↔ RwM 100 0 M mo := Iff.rfl
theorem copies_100_103_ok {F : Nat} (hF : 1000 < F) {M : mm} {mo : mty} {a b : Nat} (ha : a + 4 ≤ 4) (hb : b + 4 ≤ 64) (h : RwM 100 a M mo) : ok (m_X12_copies_100_103 F (nI a) (nI b) M) (fun M' => RwM 103 b M' mo ∧ fi (fun k n i => k = 103 ∧ n = 0 ∧ b ≤ i ∧ i < b + 4) M M') := by
  unfold m_X12_copies_100_103
  rw [ok_bd]
  refine ok_for 4 (fun i z => z.1 = nI i ∧ fi (fun k n i => k = 103 ∧ n = 0 ∧ b ≤ i ∧ i < b + 4) M z.2 ∧ ∀ j, j < i → z.2.1 103 0 (b + j) = M.1 100 0 (a + j)) 0 (by omega) (by omega) ⟨rfl, fi_rf, fun j hj => by omega⟩ ?_
  rintro i ⟨x1, M2⟩ hi ⟨e1, hf, hc⟩
  dsimp only at e1 hf hc
  subst e1
  simp only [b_X12_copies_100_103_1, b_X12_copies_100_103_1c, ok_ite, nI_lit_le (show 4 < 2 ^ 31 by decide) (show i < 2 ^ 31 by omega)]
  refine ⟨fun q => ?_, fun q => ?_⟩
  · have : i = 4 := by omega
    subst this
    rw [ok_some]
    refine ok_some.mpr ⟨?_, hf⟩
    obtain ⟨h0, h1, h2, h3⟩ := h
    have c0 := hc 0 (by omega)
    rw [Nat.add_zero, Nat.add_zero] at c0
    exact ⟨c0.trans h0, (hc 1 (by omega)).trans h1, (hc 2 (by omega)).trans h2, (hc 3 (by omega)).trans h3⟩
  · simp only [ok_gi, ok_nm, ok_some, nI_add, nI_clamp (show a + i < 2 ^ 31 by omega), nI_clamp (show b + i < 2 ^ 31 by omega)]
    refine ⟨vp_in_nI (by omega) (by decide), vp_in_nI (by omega) (by decide), by omega, nI_1 i, fi_sI hf ⟨rfl, rfl, by omega, by omega⟩, fun j hj => ?_⟩
    dsimp only
    rw [rII]
    by_cases e : j = i
    · subst e
      rw [if_pos ⟨rfl, rfl, rfl⟩]
      exact fi_I hf (by omega)
    · rw [if_neg (by omega)]
      exact hc j (by omega)
theorem copies_103_100_ok {F : Nat} (hF : 1000 < F) {M : mm} {mo : mty} {a b : Nat} (ha : a + 4 ≤ 64) (hb : b + 4 ≤ 4) (h : RwM 103 a M mo) : ok (m_X12_copies_103_100 F (nI a) (nI b) M) (fun M' => RwM 100 b M' mo ∧ fi (fun k n i => k = 100 ∧ n = 0 ∧ b ≤ i ∧ i < b + 4) M M') := by
  unfold m_X12_copies_103_100
  rw [ok_bd]
  refine ok_for 4 (fun i z => z.1 = nI i ∧ fi (fun k n i => k = 100 ∧ n = 0 ∧ b ≤ i ∧ i < b + 4) M z.2 ∧ ∀ j, j < i → z.2.1 100 0 (b + j) = M.1 103 0 (a + j)) 0 (by omega) (by omega) ⟨rfl, fi_rf, fun j hj => by omega⟩ ?_
  rintro i ⟨x1, M2⟩ hi ⟨e1, hf, hc⟩
  dsimp only at e1 hf hc
  subst e1
  simp only [b_X12_copies_103_100_1, b_X12_copies_103_100_1c, ok_ite, nI_lit_le (show 4 < 2 ^ 31 by decide) (show i < 2 ^ 31 by omega)]
  refine ⟨fun q => ?_, fun q => ?_⟩
  · have : i = 4 := by omega
    subst this
    rw [ok_some]
    refine ok_some.mpr ⟨?_, hf⟩
    obtain ⟨h0, h1, h2, h3⟩ := h
    have c0 := hc 0 (by omega)
    rw [Nat.add_zero, Nat.add_zero] at c0
    exact ⟨c0.trans h0, (hc 1 (by omega)).trans h1, (hc 2 (by omega)).trans h2, (hc 3 (by omega)).trans h3⟩
  · simp only [ok_gi, ok_nm, ok_some, nI_add, nI_clamp (show a + i < 2 ^ 31 by omega), nI_clamp (show b + i < 2 ^ 31 by omega)]
    refine ⟨vp_in_nI (by omega) (by decide), vp_in_nI (by omega) (by decide), by omega, nI_1 i, fi_sI hf ⟨rfl, rfl, by omega, by omega⟩, fun j hj => ?_⟩
    dsimp only
    rw [rII]
    by_cases e : j = i
    · subst e
      rw [if_pos ⟨rfl, rfl, rfl⟩]
      exact fi_I hf (by omega)
    · rw [if_neg (by omega)]
      exact hc j (by omega)
theorem copies_100_101_ok {F : Nat} (hF : 1000 < F) {M : mm} {mo : mty} {a b : Nat} (ha : a + 4 ≤ 4) (hb : b + 4 ≤ 8) (h : RwM 100 a M mo) : ok (m_X12_copies_100_101 F (nI a) (nI b) M) (fun M' => RwM 101 b M' mo ∧ fi (fun k n i => k = 101 ∧ n = 0 ∧ b ≤ i ∧ i < b + 4) M M') := by
  unfold m_X12_copies_100_101
  rw [ok_bd]
  refine ok_for 4 (fun i z => z.1 = nI i ∧ fi (fun k n i => k = 101 ∧ n = 0 ∧ b ≤ i ∧ i < b + 4) M z.2 ∧ ∀ j, j < i → z.2.1 101 0 (b + j) = M.1 100 0 (a + j)) 0 (by omega) (by omega) ⟨rfl, fi_rf, fun j hj => by omega⟩ ?_
  rintro i ⟨x1, M2⟩ hi ⟨e1, hf, hc⟩
  dsimp only at e1 hf hc
  subst e1
  simp only [b_X12_copies_100_101_1, b_X12_copies_100_101_1c, ok_ite, nI_lit_le (show 4 < 2 ^ 31 by decide) (show i < 2 ^ 31 by omega)]
  refine ⟨fun q => ?_, fun q => ?_⟩
  · have : i = 4 := by omega
    subst this
    rw [ok_some]
    refine ok_some.mpr ⟨?_, hf⟩
    obtain ⟨h0, h1, h2, h3⟩ := h
    have c0 := hc 0 (by omega)
    rw [Nat.add_zero, Nat.add_zero] at c0
    exact ⟨c0.trans h0, (hc 1 (by omega)).trans h1, (hc 2 (by omega)).trans h2, (hc 3 (by omega)).trans h3⟩
  · simp only [ok_gi, ok_nm, ok_some, nI_add, nI_clamp (show a + i < 2 ^ 31 by omega), nI_clamp (show b + i < 2 ^ 31 by omega)]
    refine ⟨vp_in_nI (by omega) (by decide), vp_in_nI (by omega) (by decide), by omega, nI_1 i, fi_sI hf ⟨rfl, rfl, by omega, by omega⟩, fun j hj => ?_⟩
    dsimp only
    rw [rII]
    by_cases e : j = i
    · subst e
      rw [if_pos ⟨rfl, rfl, rfl⟩]
      exact fi_I hf (by omega)
    · rw [if_neg (by omega)]
      exact hc j (by omega)
theorem copies_101_100_ok {F : Nat} (hF : 1000 < F) {M : mm} {mo : mty} {a b : Nat} (ha : a + 4 ≤ 8) (hb : b + 4 ≤ 4) (h : RwM 101 a M mo) : ok (m_X12_copies_101_100 F (nI a) (nI b) M) (fun M' => RwM 100 b M' mo ∧ fi (fun k n i => k = 100 ∧ n = 0 ∧ b ≤ i ∧ i < b + 4) M M') := by
  unfold m_X12_copies_101_100
  rw [ok_bd]
  refine ok_for 4 (fun i z => z.1 = nI i ∧ fi (fun k n i => k = 100 ∧ n = 0 ∧ b ≤ i ∧ i < b + 4) M z.2 ∧ ∀ j, j < i → z.2.1 100 0 (b + j) = M.1 101 0 (a + j)) 0 (by omega) (by omega) ⟨rfl, fi_rf, fun j hj => by omega⟩ ?_
  rintro i ⟨x1, M2⟩ hi ⟨e1, hf, hc⟩
  dsimp only at e1 hf hc
  subst e1
  simp only [b_X12_copies_101_100_1, b_X12_copies_101_100_1c, ok_ite, nI_lit_le (show 4 < 2 ^ 31 by decide) (show i < 2 ^ 31 by omega)]
  refine ⟨fun q => ?_, fun q => ?_⟩
  · have : i = 4 := by omega
    subst this
    rw [ok_some]
    refine ok_some.mpr ⟨?_, hf⟩
    obtain ⟨h0, h1, h2, h3⟩ := h
    have c0 := hc 0 (by omega)
    rw [Nat.add_zero, Nat.add_zero] at c0
    exact ⟨c0.trans h0, (hc 1 (by omega)).trans h1, (hc 2 (by omega)).trans h2, (hc 3 (by omega)).trans h3⟩
  · simp only [ok_gi, ok_nm, ok_some, nI_add, nI_clamp (show a + i < 2 ^ 31 by omega), nI_clamp (show b + i < 2 ^ 31 by omega)]
    refine ⟨vp_in_nI (by omega) (by decide), vp_in_nI (by omega) (by decide), by omega, nI_1 i, fi_sI hf ⟨rfl, rfl, by omega, by omega⟩, fun j hj => ?_⟩
    dsimp only
    rw [rII]
    by_cases e : j = i
    · subst e
      rw [if_pos ⟨rfl, rfl, rfl⟩]
      exact fi_I hf (by omega)
    · rw [if_neg (by omega)]
      exact hc j (by omega)
theorem copies_100_102_ok {F : Nat} (hF : 1000 < F) {M : mm} {mo : mty} {a b : Nat} (ha : a + 4 ≤ 4) (hb : b + 4 ≤ 16) (h : RwM 100 a M mo) : ok (m_X12_copies_100_102 F (nI a) (nI b) M) (fun M' => RwM 102 b M' mo ∧ fi (fun k n i => k = 102 ∧ n = 0 ∧ b ≤ i ∧ i < b + 4) M M') := by
  unfold m_X12_copies_100_102
  rw [ok_bd]
  refine ok_for 4 (fun i z => z.1 = nI i ∧ fi (fun k n i => k = 102 ∧ n = 0 ∧ b ≤ i ∧ i < b + 4) M z.2 ∧ ∀ j, j < i → z.2.1 102 0 (b + j) = M.1 100 0 (a + j)) 0 (by omega) (by omega) ⟨rfl, fi_rf, fun j hj => by omega⟩ ?_
  rintro i ⟨x1, M2⟩ hi ⟨e1, hf, hc⟩
  dsimp only at e1 hf hc
  subst e1
  simp only [b_X12_copies_100_102_1, b_X12_copies_100_102_1c, ok_ite, nI_lit_le (show 4 < 2 ^ 31 by decide) (show i < 2 ^ 31 by omega)]
  refine ⟨fun q => ?_, fun q => ?_⟩
  · have : i = 4 := by omega
    subst this
    rw [ok_some]
    refine ok_some.mpr ⟨?_, hf⟩
    obtain ⟨h0, h1, h2, h3⟩ := h
    have c0 := hc 0 (by omega)
    rw [Nat.add_zero, Nat.add_zero] at c0
    exact ⟨c0.trans h0, (hc 1 (by omega)).trans h1, (hc 2 (by omega)).trans h2, (hc 3 (by omega)).trans h3⟩
  · simp only [ok_gi, ok_nm, ok_some, nI_add, nI_clamp (show a + i < 2 ^ 31 by omega), nI_clamp (show b + i < 2 ^ 31 by omega)]
    refine ⟨vp_in_nI (by omega) (by decide), vp_in_nI (by omega) (by decide), by omega, nI_1 i, fi_sI hf ⟨rfl, rfl, by omega, by omega⟩, fun j hj => ?_⟩
    dsimp only
    rw [rII]
    by_cases e : j = i
    · subst e
      rw [if_pos ⟨rfl, rfl, rfl⟩]
      exact fi_I hf (by omega)
    · rw [if_neg (by omega)]
      exact hc j (by omega)
theorem copies_102_100_ok {F : Nat} (hF : 1000 < F) {M : mm} {mo : mty} {a b : Nat} (ha : a + 4 ≤ 16) (hb : b + 4 ≤ 4) (h : RwM 102 a M mo) : ok (m_X12_copies_102_100 F (nI a) (nI b) M) (fun M' => RwM 100 b M' mo ∧ fi (fun k n i => k = 100 ∧ n = 0 ∧ b ≤ i ∧ i < b + 4) M M') := by
  unfold m_X12_copies_102_100
  rw [ok_bd]
  refine ok_for 4 (fun i z => z.1 = nI i ∧ fi (fun k n i => k = 100 ∧ n = 0 ∧ b ≤ i ∧ i < b + 4) M z.2 ∧ ∀ j, j < i → z.2.1 100 0 (b + j) = M.1 102 0 (a + j)) 0 (by omega) (by omega) ⟨rfl, fi_rf, fun j hj => by omega⟩ ?_
  rintro i ⟨x1, M2⟩ hi ⟨e1, hf, hc⟩
  dsimp only at e1 hf hc
  subst e1
  simp only [b_X12_copies_102_100_1, b_X12_copies_102_100_1c, ok_ite, nI_lit_le (show 4 < 2 ^ 31 by decide) (show i < 2 ^ 31 by omega)]
  refine ⟨fun q => ?_, fun q => ?_⟩
  · have : i = 4 := by omega
    subst this
    rw [ok_some]
    refine ok_some.mpr ⟨?_, hf⟩
    obtain ⟨h0, h1, h2, h3⟩ := h
    have c0 := hc 0 (by omega)
    rw [Nat.add_zero, Nat.add_zero] at c0
    exact ⟨c0.trans h0, (hc 1 (by omega)).trans h1, (hc 2 (by omega)).trans h2, (hc 3 (by omega)).trans h3⟩
  · simp only [ok_gi, ok_nm, ok_some, nI_add, nI_clamp (show a + i < 2 ^ 31 by omega), nI_clamp (show b + i < 2 ^ 31 by omega)]
    refine ⟨vp_in_nI (by omega) (by decide), vp_in_nI (by omega) (by decide), by omega, nI_1 i, fi_sI hf ⟨rfl, rfl, by omega, by omega⟩, fun j hj => ?_⟩
    dsimp only
    rw [rII]
    by_cases e : j = i
    · subst e
      rw [if_pos ⟨rfl, rfl, rfl⟩]
      exact fi_I hf (by omega)
    · rw [if_neg (by omega)]
      exact hc j (by omega)
theorem copy_ok {F : Nat} {M : mm} {mo : mty} {a b : Nat} (h : MoM a M mo) (hab : b ≠ a) : ok (m_X4_copy F b a M) (fun M' => MoM b M' mo ∧ fr (fun k n => k = 5 ∧ n = b) M M') := by
  obtain ⟨h0, h1, h2, h3⟩ := h
  unfold m_X4_copy
  simp only [ok_nm, ok_some]
  refine ⟨?_, fr_sI (fr_sI (fr_sI (fr_sI fr_rf ⟨rfl, rfl⟩) ⟨rfl, rfl⟩) ⟨rfl, rfl⟩) ⟨rfl, rfl⟩⟩
  unfold MoM
  simp [rII, h0, h1, h2, h3, Ne.symm hab]
def pushU (U : List mty) (mo : mty) : List mty := (if U.length = 16 then U.tail else U) ++ [mo]
theorem pushU_len {U : List mty} {mo : mty} (h : U.length ≤ 16) : (pushU U mo).length ≤ 16 := by
  unfold pushU
  split <;> simp <;> omega
theorem pushU_mem {U : List mty} {mo u : mty} (h : u ∈ pushU U mo) : u ∈ U ∨ u = mo := by
  unfold pushU at h
  rcases List.mem_append.mp h with h | h
  · split at h
    · exact Or.inl (List.mem_of_mem_tail h)
    · exact Or.inl h
  · rw [List.mem_singleton] at h; exact Or.inr h
theorem rem16 {a : Nat} (ha : a < 2 ^ 31) : nI a - nI a / (16 : Int32) * (16 : Int32) = nI (a % 16) := pk_rem (d := 16) ha (by decide) (by decide)
def PR : Nat → Nat → Nat → Prop := fun k n i => (k = 12 ∧ (i = 13 ∨ i = 14)) ∨ (k = 5 ∧ 9 ≤ n ∧ n ≤ 24)
theorem put_ok {F : Nat} {M : mm} {U : List mty} {mo : mty} {f : Nat} (hl : U.length < 16) (hf : f < 16) (h14 : M.1 12 0 14 = nI U.length) (h13 : M.1 12 0 13 = nI f) (hU : ∀ i u, U[i]? = some u → MoM (9 + (f + i) % 16) M u) (hm : MoM 8 M mo) :
    ok (gi (((M.1 12 0 13) + (M.1 12 0 14)) - ((M.1 12 0 13) + (M.1 12 0 14)) / (16 : Int32) * (16 : Int32)) 16 <| cv (m_X4_copy F (9 + Int32.toNatClampNeg (((M.1 12 0 13) + (M.1 12 0 14)) - ((M.1 12 0 13) + (M.1 12 0 14)) / (16 : Int32) * (16 : Int32))) 8 M) fun M4 => nm (sI M4 12 0 14 ((M4.1 12 0 14) + (1 : Int32))) fun M5 => some M5) (fun M' => UnC M' (U ++ [mo]) ∧ fi PR M M') := by
  rw [h13, h14, nI_add, rem16 (by omega), ok_gi]
  refine ⟨vp_in_nI (by omega) (by decide), ?_⟩
  rw [ok_cv, nI_clamp (by omega)]
  refine ok_mono (copy_ok hm (by omega)) (fun M4 h4 => ?_)
  obtain ⟨c1, c2⟩ := h4
  have e12 : ∀ j, M4.1 12 0 j = M.1 12 0 j := fun j => fr_I c2 (by omega) j
  rw [ok_nm, ok_some, e12, h14, nI_1]
  refine ⟨⟨by simp [rII], f, hf, by simp [rII]; rw [e12]; exact h13, fun i u hu => ?_⟩, fi_sI (fi_fr c2 (fun k n i q => by unfold PR; omega)) (by unfold PR; omega)⟩
  refine MoM_c (M := M4) ?_ (fun j _ => by rw [rII, if_neg (by omega)])
  rcases getq_snoc hu with ⟨q1, q2⟩ | ⟨q1, q2⟩
  · exact MoM_c (hU i u q2) (fun j _ => fr_I c2 (by omega) j)
  · subst q1; subst q2; exact c1
theorem remember_ok {F : Nat} {M : mm} {U : List mty} {mo : mty} (hl : U.length ≤ 16) (h : UnC M U) (hm : MoM 8 M mo) : ok (m_X11_remember F M) (fun M' => UnC M' (pushU U mo) ∧ fi PR M M') := by
  obtain ⟨h14, f, hf, h13, hU⟩ := h
  unfold m_X11_remember pushU
  rw [ok_bd]
  by_cases q : U.length = 16
  · have h16 : M.1 12 0 14 = (16 : Int32) := by rw [h14, q]; rfl
    rw [if_pos h16, if_pos q]
    simp only [ok_nm, ok_some]
    have e1 : M.1 12 0 13 + (1 : Int32) - (M.1 12 0 13 + (1 : Int32)) / (16 : Int32) * (16 : Int32) = nI ((f + 1) % 16) := by
      rw [h13, nI_1]; exact rem16 (by omega)
    rw [e1]
    have f1 : fi PR M (sI (sI M 12 0 13 (nI ((f + 1) % 16))) 12 0 14 ((sI M 12 0 13 (nI ((f + 1) % 16))).1 12 0 14 - (1 : Int32))) := fi_sI (fi_sI fi_rf (by unfold PR; omega)) (by unfold PR; omega)
    refine ok_mono (put_ok (U := U.tail) (mo := mo) (f := (f + 1) % 16) (by rw [List.length_tail]; omega) (by omega) ?_ ?_ (fun i u hu => ?_) (MoM_c hm (fun j _ => by simp [rII]))) (fun M' hM' => ⟨hM'.1, fi_tr f1 hM'.2⟩)
    · simp only [rII]; simp
      rw [h14, q]; rfl
    · simp [rII]
    · rw [List.getElem?_tail] at hu
      have := hU (i + 1) u hu
      have e : (f + (i + 1)) % 16 = ((f + 1) % 16 + i) % 16 := by omega
      rw [e] at this
      exact MoM_c this (fun j _ => by simp [rII])
  · have h16 : ¬ M.1 12 0 14 = (16 : Int32) := by
      rw [h14]
      intro e
      exact q ((nI_eq (b := 16) (by omega) (by decide)).mp e)
    rw [if_neg h16, if_neg q, ok_some]
    exact put_ok (by omega) hf h14 h13 hU hm
theorem keepsM_ok {F : Nat} (hF : 1000 < F) {M : mm} {U : List mty} {mo : mty} (hl : U.length ≤ 16) (h : UnM M U) (hm : MoR M mo) : ok (m_X12_keeps F M) (fun M' => UnM M' (pushU U mo) ∧ fi (fun k _ i => k = 103 ∨ (k = 13 ∧ i = 54)) M M') := by
  obtain ⟨h54, hU⟩ := h
  unfold m_X12_keeps
  rw [ok_bd]
  have put : ∀ (M6 : mm) (V : List mty), V.length < 16 → UnM M6 V → MoR M6 mo → fi (fun k _ i => k = 103 ∨ (k = 13 ∧ i = 54)) M M6 → ok (cv (m_X12_copies_100_103 F (0 : Int32) ((4 : Int32) * (M6.1 13 0 54)) M6) fun M7 => nm (sI M7 13 0 54 ((M7.1 13 0 54) + (1 : Int32))) fun M8 => some M8) (fun M' => UnM M' (V ++ [mo]) ∧ fi (fun k _ i => k = 103 ∨ (k = 13 ∧ i = 54)) M M') := by
    intro M6 V hV hu hm6 f6
    have e4 : (4 : Int32) * (M6.1 13 0 54) = nI (4 * V.length) := by rw [hu.1]; show nI 4 * nI V.length = _; rw [pk_mul]
    rw [ok_cv, e4]
    refine ok_mono (copies_100_103_ok hF (a := 0) (b := 4 * V.length) (by omega) (by omega) hm6) (fun M7 h7 => ?_)
    obtain ⟨c1, c2⟩ := h7
    have e54 : M7.1 13 0 54 = nI V.length := (fi_I c2 (by omega)).trans hu.1
    rw [ok_nm, ok_some, e54, nI_1]
    refine ⟨⟨by simp [rII], fun i u hv => ?_⟩, fi_sI (fi_tr f6 (fi_mono c2 (fun k n i q => by omega))) (Or.inr ⟨rfl, rfl⟩)⟩
    refine RwM_c (M := M7) ?_ (fun j => by simp [rII])
    rcases getq_snoc hv with ⟨q1, q2⟩ | ⟨q1, q2⟩
    · have := hu.2 i u q2
      unfold RwM at this ⊢
      rw [fi_I c2 (by omega), fi_I c2 (by omega), fi_I c2 (by omega), fi_I c2 (by omega)]
      exact this
    · subst q1; subst q2; exact c1
  unfold pushU
  by_cases q : U.length = 16
  · have h16 : M.1 13 0 54 = (16 : Int32) := by rw [h54, q]; rfl
    rw [if_pos h16, if_pos q, ok_bd]
    refine ok_mono (Q := fun M4 => fi (fun k _ i => k = 103) M M4 ∧ ∀ j, j < 60 → M4.1 103 0 j = M.1 103 0 (j + 4)) ?_ (fun M4 h4 => ?_)
    · refine ok_for 60 (fun i z => z.1 = nI i ∧ fi (fun k _ i => k = 103) M z.2 ∧ (∀ j, j < i → z.2.1 103 0 j = M.1 103 0 (j + 4)) ∧ ∀ j, i ≤ j → z.2.1 103 0 j = M.1 103 0 j) 0 (by omega) (by omega) ⟨rfl, fi_rf, fun j hj => by omega, fun _ _ => rfl⟩ ?_
      rintro i ⟨x1, M2⟩ hi ⟨e1, hf, hc, hd⟩
      dsimp only at e1 hf hc hd
      subst e1
      have e4 : nI i + (4 : Int32) = nI (i + 4) := nI_add i 4
      simp only [b_X12_keeps_1, b_X12_keeps_1c, ok_ite, nI_lit_le (show 60 < 2 ^ 31 by decide) (show i < 2 ^ 31 by omega), e4]
      refine ⟨fun q => ?_, fun q => ?_⟩
      · have : i = 60 := by omega
        subst this
        exact ok_some.mpr ⟨hf, hc⟩
      · simp only [ok_gi, ok_nm, ok_some, nI_clamp (show i < 2 ^ 31 by omega), nI_clamp (show i + 4 < 2 ^ 31 by omega)]
        refine ⟨vp_in_nI (by omega) (by decide), vp_in_nI (by omega) (by decide), by omega, nI_1 i, fi_sI hf rfl, fun j hj => ?_, fun j hj => ?_⟩
        · dsimp only
          rw [rII]
          by_cases e : j = i
          · subst e; rw [if_pos ⟨rfl, rfl, rfl⟩]; exact hd _ (by omega)
          · rw [if_neg (by omega)]; exact hc j (by omega)
        · dsimp only
          rw [rII, if_neg (by omega)]; exact hd j (by omega)
    · obtain ⟨c1, c2⟩ := h4
      have e54 : M4.1 13 0 54 = nI 16 := (fi_I c1 (by omega)).trans h16
      rw [ok_nm, ok_some, e54]
      have e15 : nI 16 - (1 : Int32) = nI 15 := rfl
      rw [e15]
      refine put _ U.tail (by rw [List.length_tail]; omega) ⟨?_, fun i u hu => ?_⟩ (RwM_c (M := M) hm (fun j => by simp [rII]; exact fi_I c1 (by omega))) (fi_sI (fi_mono c1 (fun k n i q => Or.inl q)) (Or.inr ⟨rfl, rfl⟩))
      · simp [rII, q]
      · have hi := (List.getElem?_eq_some_iff.mp hu).1
        rw [List.length_tail] at hi
        rw [List.getElem?_tail] at hu
        have := hU (i + 1) u hu
        unfold RwM at this ⊢
        simp only [rII]; simp
        rw [c2 _ (by omega), c2 _ (by omega), c2 _ (by omega), c2 _ (by omega)]
        have e0 : 4 * i + 4 = 4 * (i + 1) := by omega
        have e1 : 4 * i + 1 + 4 = 4 * (i + 1) + 1 := by omega
        have e2 : 4 * i + 2 + 4 = 4 * (i + 1) + 2 := by omega
        have e3 : 4 * i + 3 + 4 = 4 * (i + 1) + 3 := by omega
        rw [e0, e1, e2, e3]; exact this
  · have h16 : ¬ M.1 13 0 54 = (16 : Int32) := by
      rw [h54]
      intro e
      exact q ((nI_eq (b := 16) (by omega) (by decide)).mp e)
    rw [if_neg h16, if_neg q, ok_some]
    exact put M U (by omega) ⟨h54, hU⟩ hm fi_rf
