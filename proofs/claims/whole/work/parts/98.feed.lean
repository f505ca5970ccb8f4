/-! feed -/
def btL (x : Int64) (i : Nat) : Bool := x.toBitVec.getLsbD i
theorem s_l64 : ∀ n, n < 64 → ((lN n &&& 63).toBitVec.smod 64).toNat = n := by decide +kernel
theorem s_u64 : ∀ n, n < 64 → (((lN n).toUInt64 &&& Int64.toUInt64 63).toBitVec % 64).toNat = n := by decide +kernel
theorem bL_sshr (n : Nat) (hn : n < 64) (x : Int64) {i : Nat} (hi : n + i < 64) : btL (x >>> (lN n &&& 63)) i = btL x (n + i) := by
  unfold btL
  rw [Int64.toBitVec_shiftRight]
  show (x.toBitVec.sshiftRight ((lN n &&& 63).toBitVec.smod 64).toNat).getLsbD i = _
  rw [s_l64 n hn, BitVec.getLsbD_sshiftRight]
  simp [hi]; omega
theorem bL_ushr (n : Nat) (hn : n < 64) (x : Int64) (i : Nat) : btL ((x.toUInt64 >>> ((lN n).toUInt64 &&& Int64.toUInt64 63)).toInt64) i = btL x (n + i) := by
  show (x.toUInt64 >>> ((lN n).toUInt64 &&& Int64.toUInt64 63)).toBitVec.getLsbD i = x.toUInt64.toBitVec.getLsbD (n + i)
  rw [UInt64.toBitVec_shiftRight]
  show (x.toUInt64.toBitVec >>> (((lN n).toUInt64 &&& Int64.toUInt64 63).toBitVec % 64).toNat).getLsbD i = _
  rw [s_u64 n hn, BitVec.getLsbD_ushiftRight]
theorem bt_32 (x : Int64) {i : Nat} (hi : i < 32) : bt (Int64.toInt32 x) i = btL x i := by
  show (x.toBitVec.signExtend 32).getLsbD i = x.toBitVec.getLsbD i
  rw [BitVec.getLsbD_signExtend]
  simp [hi]; omega
theorem b_255L (i : Nat) : btL 255 i = decide (i < 8) := by
  show (BitVec.ofNat 64 255).getLsbD i = _
  rcases Nat.lt_or_ge i 64 with h | h
  · exact (by decide +kernel : ∀ i, i < 64 → (BitVec.ofNat 64 255).getLsbD i = decide (i < 8)) i h
  · rw [BitVec.getLsbD_of_ge _ _ h]; simp; omega
/-- the sign j of a long -/
def byL (x : Int64) (j : Nat) : Int32 := (Int64.toInt32 (x >>> (lN (56 - 8 * j) &&& 63))) &&& 255
theorem byL_u (x : Int64) {j : Nat} (hj : j < 8) : Int64.toInt32 (((x.toUInt64 >>> ((lN (56 - 8 * j)).toUInt64 &&& Int64.toUInt64 63)).toInt64) &&& (255 : Int64)) = byL x j := b_ext (fun i hi => by
  unfold byL
  rw [bt_32 _ hi, b_and, bt_32 _ hi, b_255]
  show (((x.toUInt64 >>> ((lN (56 - 8 * j)).toUInt64 &&& Int64.toUInt64 63)).toInt64) &&& (255 : Int64)).toBitVec.getLsbD i = _
  rw [Int64.toBitVec_and, BitVec.getLsbD_and]
  show (btL ((x.toUInt64 >>> ((lN (56 - 8 * j)).toUInt64 &&& Int64.toUInt64 63)).toInt64) i && btL 255 i) = _
  rw [b_255L, bL_ushr _ (by omega)]
  by_cases q : i < 8
  · rw [bL_sshr _ (by omega) _ (by omega)]
  · simp [q])
theorem byL_b (x : Int64) (j : Nat) : 0 ≤ (byL x j).toInt ∧ (byL x j).toInt < 256 := by
  have h : byL x j = nI ((jn (byL x j))) := jn_nI _
  have hl : jn (byL x j) < 2 ^ 8 := jn_lt (fun i hi q => by
    unfold byL at q
    rw [b_and, Bool.and_eq_true, b_255, decide_eq_true_iff] at q
    exact q.2)
  rw [h, nI_toInt (by omega)]
  omega
def okS (x : Int32) : Prop := x = 10 ∨ (32 ≤ x ∧ x ≤ 126)
theorem okS_S {x : Int32} : okS x ↔ SgOk x := by
  unfold okS SgOk
  rw [i_le, i_le]; exact Iff.rfl
noncomputable def fd1 (T : List Int32) (x : Int32) : List Int32 := if T.length < 1000 ∧ pB (okS x) = true then T ++ [x] else T
noncomputable def fd8 (T : List Int32) (a : Int64) : Nat → List Int32
  | 0 => T
  | n + 1 => fd1 (fd8 T a n) (byL a n)
def TgOk (T : List Int32) : Prop := T.length ≤ 1000 ∧ ∀ x, x ∈ T → SgOk x
theorem fd1_g {T : List Int32} {x : Int32} (h : TgOk T) : TgOk (fd1 T x) := by
  unfold fd1
  split
  · rename_i q
    refine ⟨by rw [List.length_append, List.length_singleton]; omega, fun y hy => ?_⟩
    rcases List.mem_append.mp hy with hy | hy
    · exact h.2 y hy
    · rw [List.mem_singleton.mp hy]
      refine okS_S.mp ?_
      cases Classical.em (okS x) with
      | inl p => exact p
      | inr p => rw [pB_f p] at q; exact absurd q.2 (by decide)
  · exact h
theorem fd8_g {T : List Int32} {a : Int64} (h : TgOk T) : ∀ n, TgOk (fd8 T a n)
  | 0 => h
  | n + 1 => fd1_g (fd8_g h n)
theorem fd1_y {T : List Int32} {x : Int32} (h : T.length < 1000) (hx : okS x) : fd1 T x = T ++ [x] := if_pos ⟨h, pB_t hx⟩
theorem fd1_n {T : List Int32} {x : Int32} (h : ¬ (T.length < 1000 ∧ okS x)) : fd1 T x = T := if_neg (fun q => h ⟨q.1, by
  cases Classical.em (okS x) with
  | inl p => exact p
  | inr p => rw [pB_f p] at q; exact absurd q.2 (by decide)⟩)
theorem nar_by {x : Int32} (h : SgOk x) : vp_nar .byte (Int8.toInt32 (Int32.toInt8 x)) = x := by
  have hx : 0 ≤ x.toInt ∧ x.toInt < 128 := by
    rcases h with h | h
    · rw [h]; decide
    · omega
  have e : ∀ n, n < 128 → vp_nar .byte (Int8.toInt32 (Int32.toInt8 (nI n))) = nI n := by decide +kernel
  rw [i_nI hx.1]
  exact e _ (by have := i_clamp hx.1; omega)
theorem sn_get {T : List Int32} {x y : Int32} {i : Nat} (h : (T ++ [x])[i]? = some y) : (i < T.length ∧ T[i]? = some y) ∨ (i = T.length ∧ y = x) := getq_snoc h
theorem add_ok {F : Nat} (hF : 1000 < F) {M : mm} {T : List Int32} {a : Int64} (hT : TgOk T) (h : TpC M T) : ok (m_X6_add F a M) (fun M' => TpC M' (fd8 T a 8) ∧ fi (fun k n i => k = 40 ∨ (k = 7 ∧ i = 2)) M M') := by
  unfold m_X6_add
  rw [ok_bd]
  refine ok_mono (Q := fun M' => TpC M' (fd8 T a 8) ∧ fi (fun k n i => k = 40 ∨ (k = 7 ∧ i = 2)) M M') ?_ (fun M' hM' => ok_some.mpr hM')
  refine ok_for 8 (fun j z => z.1 = nI 56 - nI (8 * j) ∧ TpC z.2 (fd8 T a j) ∧ fi (fun k n i => k = 40 ∨ (k = 7 ∧ i = 2)) M z.2) 0 (by omega) (by omega) ⟨rfl, h, fi_rf⟩ ?_
  rintro j ⟨x1, M2⟩ hj ⟨e1, ⟨h1, h2⟩, f2⟩
  dsimp only at e1 h1 h2 f2
  subst e1
  simp only [b_X6_add_1, b_X6_add_1c]
  have e0 : ∀ j, j ≤ 8 → (nI 56 - nI (8 * j) < (0 : Int32) ↔ 8 ≤ j) := by decide +kernel
  rw [ok_ite, e0 j hj]
  refine ⟨fun q => ok_some.mpr ?_, fun q => ?_⟩
  · have : j = 8 := by omega
    subst this
    exact ⟨⟨h1, h2⟩, f2⟩
  have e1 : ∀ j, j < 8 → Int32.toInt64 (nI 56 - nI (8 * j)) = lN (56 - 8 * j) := by decide +kernel
  have e2 : ∀ j, j < 8 → (nI 56 - nI (8 * j)) + (-8 : Int32) = nI 56 - nI (8 * (j + 1)) := by decide +kernel
  rw [e1 j (by omega), e2 j (by omega)]
  have g := fd8_g (a := a) hT j
  have hlen := g.1
  have hb := byL_b a j
  have z10 : (10 : Int32).toInt = 10 := rfl
  have z32 : (32 : Int32).toInt = 32 := rfl
  have z126 : (126 : Int32).toInt = 126 := rfl
  show ok (bd (nm _ _) _) _
  rw [ok_bd]
  refine ok_mono (Q := fun M' => TpC M' (fd8 T a (j + 1)) ∧ fi (fun k n i => k = 40 ∨ (k = 7 ∧ i = 2)) M M') ?_ (fun M' hM' => ok_some.mpr ⟨by omega, rfl, hM'⟩)
  have no : ¬ ((fd8 T a j).length < 1000 ∧ okS (byL a j)) → TpC M2 (fd8 T a (j + 1)) ∧ fi (fun k n i => k = 40 ∨ (k = 7 ∧ i = 2)) M M2 := fun q => by
    show TpC M2 (fd1 (fd8 T a j) (byL a j)) ∧ _
    rw [fd1_n q]; exact ⟨⟨h1, h2⟩, f2⟩
  have e3 : (Int64.toInt32 (a >>> (lN (56 - 8 * j) &&& 63))) &&& (255 : Int32) = byL a j := rfl
  rw [e3]
  refine ok_jn (P := okS (byL a j)) (fun hk => ?_) (fun k hk => ?_)
  · have e1000 : (1000 : Int32) ≤ nI (fd8 T a j).length ↔ 1000 ≤ (fd8 T a j).length := (nI_leI (by omega) (by omega) : nI 1000 ≤ nI _ ↔ _)
    show ok (if (1000 : Int32) ≤ (M2.1 7 0 2) then _ else _) _
    rw [h1, ok_ite, e1000]
    refine ⟨fun q2 => ok_some.mpr (no (fun q3 => by omega)), fun q2 => ?_⟩
    rw [ok_gi, ok_nm, ok_nm, ok_some, nI_clamp (by omega), nar_by (okS_S.mp hk)]
    have f4 : fi (fun k n i => k = 40 ∨ (k = 7 ∧ i = 2)) M2 (sI (sI M2 40 0 (fd8 T a j).length (byL a j)) 7 0 2 ((sI M2 40 0 (fd8 T a j).length (byL a j)).1 7 0 2 + 1)) := fi_sI (fi_sI fi_rf (Or.inl rfl)) (Or.inr ⟨rfl, rfl⟩)
    refine ⟨vp_in_nI (by omega) (by decide), ?_, fi_tr f2 f4⟩
    show TpC _ (fd1 (fd8 T a j) (byL a j))
    rw [fd1_y (by omega) hk]
    refine ⟨?_, fun i x hx => ?_⟩
    · rw [rII, if_pos ⟨rfl, rfl, rfl⟩, rII, if_neg (by omega), h1, nI_1, List.length_append, List.length_singleton]
    · rw [rII, if_neg (by omega), rII]
      rcases sn_get hx with ⟨p, q3⟩ | ⟨p, q3⟩
      · rw [if_neg (by omega)]; exact h2 i x q3
      · rw [if_pos ⟨rfl, rfl, p⟩, q3]
  · rw [ok_ite]
    refine ⟨fun q2 => hk (Or.inl q2), fun q2 => ?_⟩
    rw [ok_ite]
    refine ⟨fun q3 => ok_some.mpr (no (fun q4 => ?_)), fun q3 => ?_⟩
    · rcases q4.2 with q5 | q5
      · exact q2 q5
      · simp only [i_lt, i_le] at q3 q5; omega
    rw [ok_ite]
    refine ⟨fun q4 => ok_some.mpr (no (fun q5 => ?_)), fun q4 => hk (Or.inr (by simp only [i_lt, i_le] at q3 q4 ⊢; omega))⟩
    rcases q5.2 with q6 | q6
    · exact q2 q6
    · simp only [i_lt, i_le] at q4 q6; omega
