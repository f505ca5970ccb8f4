/-! counting -/
def popN (x : Int32) : Nat := (List.range 11).countP (fun i => bt x i)
theorem cp_s (p : Nat → Bool) (n : Nat) : (List.range (n + 1)).countP p = (List.range n).countP p + if p n then 1 else 0 := by
  rw [List.range_succ, List.countP_append]
  simp [List.countP_cons]
theorem bits_ok {F : Nat} (hF : 1000 < F) {x : Int32} {M : mm} : ok (m_X12_bits F x M) (fun r => r = (nI (popN x), M)) := by
  unfold m_X12_bits
  rw [ok_bd]
  refine ok_mono (Q := fun v => v = nI (popN x)) ?_ (fun v hv => by subst hv; exact ok_some.mpr rfl)
  refine ok_for 11 (fun i z => z.2 = nI i ∧ z.1 = nI ((List.range i).countP (fun i => bt x i))) 0 (by omega) (by omega) ⟨rfl, rfl⟩ ?_
  rintro i ⟨x1, x2⟩ hi ⟨e1, e2⟩
  dsimp only at e1 e2
  subst e1; subst e2
  simp only [b_X12_bits_1, b_X12_bits_1c, ok_ite, nI_lit_le (show 11 < 2 ^ 31 by decide) (show i < 2 ^ 31 by omega)]
  refine ⟨fun hc => ?_, fun hc => ?_⟩
  · have : i = 11 := by omega
    subst this
    exact ok_some.mpr rfl
  · rw [ok_nm, ok_some, b_bit x (by omega)]
    refine ⟨by omega, nI_1 i, ?_⟩
    dsimp only
    rw [cp_s]
    cases bt x i
    · show _ + nI 0 = _; rw [nI_add]; rfl
    · show _ + nI 1 = _; rw [nI_add]; rfl
theorem bitCount_ok {F : Nat} {x : Int32} (h : ∀ i, i < 32 → bt x i = true → i < 11) {M : mm} : ok (m_J6_bitCount_0f7a4 F x M) (fun r => r = (nI (popN x), M)) := by
  have hj := jn_lt h
  have h1 := of_decide_eq_true (List.all_eq_true.mp bc_all (jn x) (List.mem_range.mpr hj))
  have e : popN x = (List.range 11).countP (fun i => (jn x).testBit i) := rfl
  refine ⟨(bcI x, M), rfl, ?_⟩
  rw [e, ← h1, ← jn_nI]
def wtI (C : cty) (x : Int32) : Int32 := nI (wX (wS C) (fun s => bt x s)).toNat
theorem wt_b {C : cty} (hw : WF C) (x : Int32) : ∀ n, n ≤ 11 → 0 ≤ sm n (fun s => if bt x s then wS C s else 0) ∧ sm n (fun s => if bt x s then wS C s else 0) ≤ 99 * n := by
  intro n
  induction n with
  | zero => intro _; exact ⟨Int.le_refl _, Int.le_refl _⟩
  | succ n ih =>
    intro hn
    have h1 := ih (by omega)
    have h2 := wS_b hw n
    simp only [sm]
    split <;> omega
theorem wtI_int {C : cty} (hw : WF C) (x : Int32) : (wtI C x).toInt = wX (wS C) (fun s => bt x s) := by
  have h := wt_b hw x 11 (by omega)
  unfold wtI
  have h1 : 0 ≤ wX (wS C) (fun s => bt x s) ∧ wX (wS C) (fun s => bt x s) ≤ 1089 := ⟨h.1, by have := h.2; exact this⟩
  rw [nI_toInt (by omega)]
  omega
theorem weightOf_ok {F : Nat} (hF : 1000 < F) {o : Nat} {C : cty} {M : mm} (hw : WF C) (h : CV0 C o M) (x : Int32) : ok (m_X0_weightOf F o x M) (fun r => r = (wtI C x, M)) := by
  have hS := hw.1.2.2.1
  unfold m_X0_weightOf
  rw [ok_bd]
  refine ok_mono (Q := fun v => v = wtI C x) ?_ (fun v hv => by subst hv; exact ok_some.mpr rfl)
  refine ok_for (cS C) (fun i z => z.2 = nI i ∧ z.1.toInt = sm i (fun s => if bt x s then wS C s else 0)) 0 (by omega) (by omega) ⟨rfl, rfl⟩ ?_
  rintro i ⟨x1, x2⟩ hi ⟨e1, e2⟩
  dsimp only at e1 e2
  subst e1
  simp only [b_X0_weightOf_1, b_X0_weightOf_1c, h.1.2.2.1, ok_ite, nI_leI (show cS C < 2 ^ 31 by omega) (show i < 2 ^ 31 by omega)]
  refine ⟨fun hc => ok_some.mpr ?_, fun hc => ?_⟩
  · have : i = cS C := by omega
    subst this
    show x1 = wtI C x
    rw [i_eq, wtI_int hw, e2]
    exact (sm_ext (by omega) (fun s h1 h2 => by
      have h3 : wS C s = 0 := by unfold wS; rw [if_neg (by omega)]
      rw [h3]; split <;> rfl)).symm
  · rw [ok_bd]
    refine ok_mono (Q := fun v => v.toInt = if bt x i then wS C i else 0) ?_ (fun v hv => ?_)
    · rw [ok_ite, b_bit0 _ (show i < 32 by omega)]
      refine ⟨fun q => ok_some.mpr (by rw [q]; rfl), fun q => ?_⟩
      have : bt x i = true := by
        cases e : bt x i
        · exact absurd e q
        · rfl
      rw [ok_gi, ok_some, nI_clamp (by omega), (h.2.2.2.1 i (by omega)).1, this]
      refine ⟨vp_in_nI (by omega) (by decide), ?_⟩
      rw [if_pos rfl]
      unfold wS
      rw [if_pos (by omega)]
    · rw [ok_nm, ok_some]
      have h1 := wt_b hw x i (by omega)
      have h2 := wS_b hw i
      refine ⟨by omega, nI_1 i, ?_⟩
      dsimp only
      have h3 : 0 ≤ v.toInt ∧ v.toInt ≤ 99 := by rw [hv]; split <;> omega
      rw [i_add (by omega) (by omega), e2, hv]; rfl
theorem weighed_ok {F : Nat} (hF : 1000 < F) {C : cty} {M : mm} (hw : WF C) (h : MV C M) {x : Int32} (hx : ∀ s, s < 32 → bt x s = true → s < cS C) : ok (m_X12_weighed F x M) (fun r => r = (wtI C x, M)) := by
  have hS := hw.1.2.2.1
  unfold m_X12_weighed
  rw [ok_bd]
  refine ok_mono (Q := fun v => v = wtI C x) ?_ (fun v hv => by subst hv; exact ok_some.mpr rfl)
  refine ok_for 11 (fun i z => z.2 = nI i ∧ z.1.toInt = sm i (fun s => if bt x s then wS C s else 0)) 0 (by omega) (by omega) ⟨rfl, rfl⟩ ?_
  rintro i ⟨x1, x2⟩ hi ⟨e1, e2⟩
  dsimp only at e1 e2
  subst e1
  simp only [b_X12_weighed_1, b_X12_weighed_1c, ok_ite, nI_lit_le (show 11 < 2 ^ 31 by decide) (show i < 2 ^ 31 by omega)]
  refine ⟨fun hc => ok_some.mpr ?_, fun hc => ?_⟩
  · have : i = 11 := by omega
    subst this
    show x1 = wtI C x
    rw [i_eq, wtI_int hw, e2]; rfl
  · rw [ok_bd]
    refine ok_mono (Q := fun v => v.toInt = if bt x i then wS C i else 0) ?_ (fun v hv => ?_)
    · rw [ok_ite, b_bit1 _ (show i < 32 by omega)]
      refine ⟨fun q => ?_, fun q => ok_some.mpr (by rw [if_neg q]; rfl)⟩
      have hi' := hx i (by omega) q
      rw [ok_gi, ok_some, nI_clamp (by omega), (h.2.2.2.1 i hi').1, q]
      refine ⟨vp_in_nI (by omega) (by decide), ?_⟩
      rw [if_pos rfl]
      unfold wS
      rw [if_pos hi']
    · rw [ok_nm, ok_some]
      have h1 := wt_b hw x i (by omega)
      have h2 := wS_b hw i
      refine ⟨by omega, nI_1 i, ?_⟩
      dsimp only
      have h3 : 0 ≤ v.toInt ∧ v.toInt ≤ 99 := by rw [hv]; split <;> omega
      rw [i_add (by omega) (by omega), e2, hv]; rfl
theorem pairs_ok {F : Nat} (hF : 1000 < F) {o : Nat} {C : cty} {M : mm} (hw : WF C) (h : CV0 C o M) : ok (m_X0_pairs F o M) (fun r => r = (nI (leansN C), M)) := by
  have hO := hw.1.2.1
  unfold m_X0_pairs
  rw [ok_bd]
  refine ok_mono (Q := fun v => v = nI (leansN C)) ?_ (fun v hv => by subst hv; exact ok_some.mpr rfl)
  refine ok_for (cO C) (fun i z => z.2 = nI i ∧ z.1 = nI ((List.range i).countP (fun x => decide (nI x < cF C 6 x)))) 0 (by omega) (by omega) ⟨rfl, rfl⟩ ?_
  rintro i ⟨x1, x2⟩ hi ⟨e1, e2⟩
  dsimp only at e1 e2
  subst e1; subst e2
  simp only [b_X0_pairs_1, b_X0_pairs_1c, h.1.2.1, ok_ite, nI_leI (show cO C < 2 ^ 31 by omega) (show i < 2 ^ 31 by omega)]
  refine ⟨fun hc => ok_some.mpr ?_, fun hc => ?_⟩
  · have : i = cO C := by omega
    subst this
    rfl
  · rw [ok_gi, ok_bd, nI_clamp (by omega), (h.2.2.1 i (by omega)).2.2.2.1]
    refine ⟨vp_in_nI (by omega) (by decide), ?_⟩
    refine ok_mono (Q := fun v => v = nI (if decide (nI i < cF C 6 i) = true then 1 else 0)) ?_ (fun v hv => ?_)
    · rw [ok_ite]
      refine ⟨fun q => ok_some.mpr ?_, fun q => ok_some.mpr ?_⟩
      · rw [if_neg (by rw [decide_eq_true_iff]; simp only [i_lt, i_le] at q ⊢; omega)]; rfl
      · rw [if_pos (by rw [decide_eq_true_iff]; simp only [i_lt, i_le] at q ⊢; omega)]; rfl
    · subst hv
      rw [ok_nm, ok_some]
      refine ⟨by omega, nI_1 i, ?_⟩
      dsimp only
      rw [cp_s, nI_add]
theorem clashes_ok {F : Nat} (hF : 1000 < F) {o : Nat} {C : cty} {M : mm} (hw : WF C) (h : CV0 C o M) : ok (m_X0_clashes F o M) (fun r => r = (nI (clashN C), M)) := by
  have hO := hw.1.2.1
  unfold m_X0_clashes
  rw [ok_bd]
  refine ok_mono (Q := fun r => r = (nI (clashN C), M)) ?_ (fun r hr => by subst hr; exact ok_some.mpr rfl)
  refine ok_for (cO C) (fun i z => z.2.1 = nI i ∧ z.2.2 = M ∧ z.1 = nI ((List.range i).map (fun x => (List.range 10).countP (fun y => decide (x ≤ y) && bt (cF C 7 x) y))).sum) 0 (by omega) (by omega) ⟨rfl, rfl, rfl⟩ ?_
  rintro i ⟨x1, x2, M3⟩ hi ⟨e1, e3, e2⟩
  dsimp only at e1 e2 e3
  subst e1; subst e2; subst e3
  simp only [b_X0_clashes_1, b_X0_clashes_1c, h.1.2.1, ok_ite, nI_leI (show cO C < 2 ^ 31 by omega) (show i < 2 ^ 31 by omega)]
  refine ⟨fun hc => ok_some.mpr ?_, fun hc => ?_⟩
  · have : i = cO C := by omega
    subst this
    rfl
  · have hb := (hw.2.2.1 i (by omega)).2.2.2
    have hj : jn (cF C 7 i) < 2 ^ 10 := jn_lt (fun y hy q => by have := hb y hy q; omega)
    rw [ok_gi, ok_cl, nI_clamp (by omega), (h.2.2.1 i (by omega)).2.2.2.2]
    refine ⟨vp_in_nI (by omega) (by decide), ?_⟩
    have hsh : cF C 7 i >>> (nI i &&& 31) = nI (jn (cF C 7 i) / 2 ^ i) := by
      conv => lhs; rw [jn_nI (cF C 7 i)]
      exact pk_shrN (by omega) _ i (s_l i (by omega))
    have hle : jn (cF C 7 i) / 2 ^ i ≤ jn (cF C 7 i) := Nat.div_le_self _ _
    rw [hsh]
    refine ok_mono (bitCount_ok (fun y hy q => ?_)) (fun r hr => ?_)
    · rw [b_nI hy] at q
      rcases Nat.lt_or_ge y 11 with q2 | q2
      · exact q2
      · rw [Nat.testBit_lt_two_pow (Nat.lt_of_lt_of_le (show jn (cF C 7 i) / 2 ^ i < 2 ^ 11 by omega) (Nat.pow_le_pow_right (by decide) q2))] at q; cases q
    · subst hr
      dsimp only
      rw [ok_nm, ok_some]
      refine ⟨by omega, nI_1 i, rfl, ?_⟩
      dsimp only
      have h1 := List.all_eq_true.mp (List.all_eq_true.mp sh_all (jn (cF C 7 i)) (List.mem_range.mpr (by omega))) i (List.mem_range.mpr (by omega))
      have h2 := eq_of_beq h1
      have h3 : popN (nI (jn (cF C 7 i) / 2 ^ i)) = (List.range 10).countP (fun y => decide (i ≤ y) && bt (cF C 7 i) y) := by
        unfold popN
        rw [← show _ = (List.range 10).countP (fun y => decide (i ≤ y) && bt (cF C 7 i) y) from h2]
        refine List.countP_congr (fun y hy => ?_)
        rw [b_nI (by have := List.mem_range.mp hy; omega)]
      rw [h3, nI_add, List.range_succ (n := i), List.map_append, List.sum_append]
      simp
