/-! sets as numbers -/
theorem nx_and (a b : Nat) : nI a &&& nI b = nI (a &&& b) := by
  apply Int32.toBitVec_inj.1
  show BitVec.ofNat 32 a &&& BitVec.ofNat 32 b = BitVec.ofNat 32 (a &&& b)
  apply BitVec.eq_of_getLsbD_eq
  intro i hi
  simp [hi]
def jn (x : Int32) : Nat := x.toBitVec.toNat
theorem jn_b (x : Int32) (i : Nat) : bt x i = (jn x).testBit i := rfl
theorem jn_nI (x : Int32) : x = nI (jn x) := Int32.toBitVec_inj.mp (by show _ = BitVec.ofNat 32 _; simp [jn])
theorem jn_lt {x : Int32} {n : Nat} (h : ∀ i, i < 32 → bt x i = true → i < n) : jn x < 2 ^ n := by
  refine Nat.lt_pow_two_of_testBit _ (fun i hi => ?_)
  cases e : (jn x).testBit i
  · rfl
  · rw [← jn_b] at e
    have := h i (lt32 e) e
    omega
theorem jn_of {n : Nat} (h : n < 2 ^ 32) : jn (nI n) = n := by
  show (BitVec.ofNat 32 n).toNat = n
  rw [BitVec.toNat_ofNat, Nat.mod_eq_of_lt h]
def mkI (X : Nat → Bool) : Nat → Int32
  | 0 => 0
  | n + 1 => mkI X n ||| (if X n then (1 : Int32) <<< (nI n &&& 31) else 0)
theorem mkI_b {X : Nat → Bool} {i : Nat} (hi : i < 32) : ∀ n, n ≤ 32 → bt (mkI X n) i = (X i && decide (i < n)) := by
  intro n
  induction n with
  | zero => intro _; show bt 0 i = _; rw [b_0]; simp
  | succ n ih =>
    intro hn
    simp only [mkI, b_or]
    rw [ih (by omega)]
    cases e : X n
    · simp only [Bool.false_eq_true, if_false, b_0, Bool.or_false]
      by_cases q : i = n
      · subst q; rw [e]; rfl
      · congr 1
        by_cases q2 : i < n
        · simp [q2]; omega
        · simp [q2]; omega
    · simp only [if_true]
      rw [b_one (by omega) hi]
      by_cases q : i = n
      · subst q; simp [e]
      · simp only [q, decide_false, Bool.or_false]
        congr 1
        by_cases q2 : i < n
        · simp [q2]; omega
        · simp [q2]; omega
theorem and_d2 (a b : Nat) : (a &&& b) / 2 = (a / 2) &&& (b / 2) := by
  have h := Nat.shiftRight_and_distrib (a := a) (b := b) (i := 1)
  simpa [Nat.shiftRight_eq_div_pow] using h
theorem and_m2 (a b : Nat) : (a &&& b) % 2 = if a % 2 = 1 ∧ b % 2 = 1 then 1 else 0 := by
  have h := Nat.testBit_and a b 0
  rw [Nat.testBit_zero, Nat.testBit_zero, Nat.testBit_zero] at h
  have h' : ((a &&& b) % 2 = 1) ↔ (a % 2 = 1 ∧ b % 2 = 1) := by
    rw [← decide_eq_true_iff (p := (a &&& b) % 2 = 1), h, Bool.and_eq_true, decide_eq_true_iff, decide_eq_true_iff]
  have h1 := Nat.mod_two_eq_zero_or_one (a &&& b)
  by_cases p : a % 2 = 1 ∧ b % 2 = 1
  · rw [if_pos p]; exact h'.mpr p
  · rw [if_neg p]
    rcases h1 with h1 | h1
    · exact h1
    · exact absurd (h'.mp h1) p
/-- the next lesser set of those in U -/
theorem sub_next : ∀ (S X U : Nat), X &&& U = X → S &&& U = S → X < S → X ≤ (S - 1) &&& U := by
  intro S
  induction S using Nat.strongRecOn with
  | _ S ih =>
    intro X U hX hS hlt
    have x2 := and_d2 X U
    have s2 := and_d2 S U
    have xm := and_m2 X U
    have sm' := and_m2 S U
    rw [hX] at x2 xm
    rw [hS] at s2 sm'
    have r2 := and_d2 (S - 1) U
    have rm := and_m2 (S - 1) U
    by_cases e : S % 2 = 1
    · have h1 : (S - 1) / 2 = S / 2 := by omega
      rw [h1, ← s2] at r2
      omega
    · have h1 : (S - 1) / 2 = S / 2 - 1 := by omega
      have h2 : (S - 1) % 2 = 1 := by omega
      have h3 := ih (S / 2) (by omega) (X / 2) (U / 2) x2.symm s2.symm (by omega)
      rw [h1] at r2
      rw [← r2] at h3
      have h4 : X % 2 ≤ ((S - 1) &&& U) % 2 := by
        rw [rm, h2]
        by_cases q : U % 2 = 1
        · rw [if_pos ⟨rfl, q⟩]; omega
        · rw [if_neg (fun z => q z.2)] at xm ⊢; omega
      omega
/-- the lowest one of a set -/
def lowOk (j : Nat) : Bool := j == 0 || (List.range 10).any (fun o => j.testBit o && (List.range o).all (fun i => !j.testBit i) && (List.range 10).all (fun i => (j &&& (j - 1)).testBit i == (j.testBit i && i != o)) && decide (j &&& (j - 1) < j) && decide (2 ^ o ≤ j))
theorem low_all : (List.range 1024).all lowOk = true := by decide +kernel
theorem low_ok {j : Nat} (hj : j < 1024) (h0 : 0 < j) : ∃ o, o < 10 ∧ j.testBit o = true ∧ (∀ i, i < o → j.testBit i = false) ∧ (∀ i, i < 10 → (j &&& (j - 1)).testBit i = (j.testBit i && i != o)) ∧ j &&& (j - 1) < j ∧ 2 ^ o ≤ j := by
  have h := List.all_eq_true.mp low_all j (List.mem_range.mpr hj)
  unfold lowOk at h
  have hj0 : (j == 0) = false := by simp; omega
  rw [hj0, Bool.false_or, List.any_eq_true] at h
  obtain ⟨o, ho, h⟩ := h
  simp only [Bool.and_eq_true, List.all_eq_true, List.mem_range, decide_eq_true_iff, beq_iff_eq, Bool.not_eq_true'] at h
  obtain ⟨⟨⟨⟨a, b⟩, c⟩, d⟩, e⟩ := h
  exact ⟨o, List.mem_range.mp ho, a, b, c, d, e⟩
theorem tc0 : (0 : Int32).toNatClampNeg = 0 := rfl
theorem tc1 : (1 : Int32).toNatClampNeg = 1 := rfl
theorem tc2 : (2 : Int32).toNatClampNeg = 2 := rfl
theorem tc3 : (3 : Int32).toNatClampNeg = 3 := rfl
theorem tc4 : (4 : Int32).toNatClampNeg = 4 := rfl
theorem tc5 : (5 : Int32).toNatClampNeg = 5 := rfl
/-! the reference's city -/
def LVm (C : cty) (M : mm) : Prop := M.1 79 0 0 = 0 ∧ ∃ ics : List Int32, M.1 80 0 0 = nI ics.length ∧ ics.length ≤ 1000 ∧ (∀ i c, ics[i]? = some c → M.1 81 0 i = c) ∧ (ics = [] → cLw C = plainV) ∧ (ics ≠ [] → ∀ b y k a, ∃ f v, aev b y k a ics ast0 = some ([f], some v) ∧ kpV f v = cLw C b y k a)
def MVb (nb : Nat) (C : cty) (M : mm) : Prop :=
  (M.1 64 0 0 = nI (cP C) ∧ M.1 64 0 1 = nI (cO C) ∧ M.1 64 0 2 = nI nb ∧ M.1 64 0 3 = cMd C) ∧
  (∀ i, i < cP C → M.1 68 0 i = cF C 0 i ∧ M.1 69 0 i = cF C 1 i) ∧
  (∀ i, i < cO C → M.1 70 0 i = cF C 3 i ∧ M.1 71 0 i = cF C 4 i ∧ M.1 72 0 i = cF C 5 i ∧ M.1 73 0 i = cF C 6 i ∧ M.1 74 0 i = cF C 7 i) ∧
  (∀ i, i < cS C → M.1 75 0 i = cF C 8 i ∧ (i < nb → M.1 76 0 i = cF C 9 i) ∧ M.1 77 0 i = cF C 10 i ∧ M.1 78 0 i = cF C 11 i) ∧ LVm C M
abbrev MV (C : cty) (M : mm) : Prop := MVb (cS C) C M
theorem MV_fr {nb : Nat} {C : cty} {M M' : mm} {P : Nat → Nat → Prop} (h : MVb nb C M) (f : fr P M M') (hP : ∀ k, 64 ≤ k → k ≤ 81 → ¬ P k 0) : MVb nb C M' := by
  have e : ∀ k, 64 ≤ k → k ≤ 81 → M'.1 k 0 = M.1 k 0 := fun k h1 h2 => (f.2 k 0 (hP k h1 h2)).1
  unfold MVb LVm at h ⊢
  simp only [e 64 (by omega) (by omega), e 68 (by omega) (by omega), e 69 (by omega) (by omega), e 70 (by omega) (by omega), e 71 (by omega) (by omega), e 72 (by omega) (by omega), e 73 (by omega) (by omega), e 74 (by omega) (by omega), e 75 (by omega) (by omega), e 76 (by omega) (by omega), e 77 (by omega) (by omega), e 78 (by omega) (by omega), e 79 (by omega) (by omega), e 80 (by omega) (by omega), e 81 (by omega) (by omega)]
  exact h
def PB : Nat → Nat → Prop := fun k _ => 84 ≤ k ∧ k ≤ 93
theorem PA_fr {M M' : mm} (h : PA 0 M M') : fr PB M M' := ⟨h.1, fun k n hk => ⟨by funext i; exact h.2.2 k n i (by unfold PB at hk; omega), by rw [h.2.1]⟩⟩
theorem worked_ok {F : Nat} (hF : 3000 < F) {C : cty} {M : mm} {b y k a : Int32} (hL : LVm C M) (ht : M.1 80 0 0 ≠ 0) (hv : VO M b y k a) : ok (m_X12_worked F (0 : Int32) M) (fun r => r.1 = cLw C b y k a ∧ fr PB M r.2) := by
  obtain ⟨h79, ics, h80, hlen, h81, -, hne⟩ := hL
  have hi : ics ≠ [] := fun e => ht (by rw [h80, e]; rfl)
  obtain ⟨f, v, hev, hk⟩ := hne hi b y k a
  unfold m_X12_worked
  rw [ok_cv]
  refine ok_mono (opens_ok (j := 0) (by decide)) (fun M1 h1 => ?_)
  obtain ⟨p1, o1, o2, o3, o4, o5, o6⟩ := h1
  have e : ∀ k i, (k < 84 ∨ 92 < k) → M1.1 k 0 i = M.1 k 0 i := fun k i hk => p1.2.2 k 0 i (by omega)
  rw [ok_gi]
  refine ⟨vp_of (by decide), ?_⟩
  rw [ok_nm, ok_bd, tc0, e 79 0 (by omega), h79]
  have hv1 : VO M1 b y k a := by unfold VO at hv ⊢; simp only [e 93 _ (Or.inr (by omega))]; exact hv
  refine ok_mono (wk1_ok hF hv1 ((e 80 0 (by omega)).trans h80) hlen (fun i c hc => (e 81 i (by omega)).trans (h81 i c hc)) ⟨⟨fun q => absurd q (by simp), o1, o2, o3, o4⟩, o5, trivial⟩ hev) (fun M2 h2 => ?_)
  obtain ⟨p2, w1, w2, w3⟩ := h2
  rw [ok_cv]
  refine ok_mono (tests_ok (r := []) (by simp) w1 w2) (fun M3 h3 => ?_)
  rw [ok_gi, ok_some]
  refine ⟨vp_of (by decide), ?_, PA_fr (PA_tr p1 (PA_tr p2 h3.1))⟩
  rw [← hk]; exact h3.2.1
theorem oathsOf_ok {nb : Nat} {wb : Nat} {F : Nat} (hF : 1000 < F) {C : cty} {M : mm} (hw : WFb wb C) (h : MVb nb C M) {p : Nat} (hp : p < cP C) : ok (m_X12_oathsOf F (nI p) M) (fun r => r = (cF C 2 p, M)) := by
  have hO := hw.1.2.1
  have hP := hw.1.1
  obtain ⟨⟨-, h1, -, -⟩, -, h3, -⟩ := h
  unfold m_X12_oathsOf
  rw [ok_bd]
  refine ok_mono (Q := fun x => x = cF C 2 p) ?_ (fun x hx => by subst hx; exact ok_some.mpr rfl)
  refine ok_for (cO C) (fun i z => z.2 = nI i ∧ ∀ x, x < 32 → bt z.1 x = (bt (cF C 2 p) x && decide (x < i))) 0 (by omega) (by omega) ⟨rfl, fun x hx => by rw [b_0]; simp⟩ ?_
  rintro i ⟨x1, x2⟩ hi ⟨e1, hb⟩
  dsimp only at e1 hb
  subst e1
  simp only [b_X12_oathsOf_1, b_X12_oathsOf_1c, ok_gi, tc1, h1, ok_ite, nI_leI (show cO C < 2 ^ 31 by omega) (show i < 2 ^ 31 by omega), ok_some]
  refine ⟨vp_of (by decide), fun hc => b_ext (fun x hx => ?_), fun hc => ⟨vp_in_nI (by omega) (by decide), ?_⟩⟩
  · have : i = cO C := by omega
    subst this
    rw [hb x hx]
    cases e : bt (cF C 2 p) x
    · rfl
    · have := ((hw.2.1 p hp).2.2 x hx).mp e; simp [this.1]
  · rw [ok_bd, nI_clamp (by omega), (h3 i (by omega)).2.1]
    refine ok_mono (Q := fun v => ∀ x, x < 32 → bt v x = (bt (cF C 2 p) x && decide (x = i))) ?_ (fun v hv => ?_)
    · rw [ok_ite]
      refine ⟨fun q => ok_some.mpr (fun x hx => ?_), fun q => ok_some.mpr (fun x hx => ?_)⟩
      · rw [b_one (by omega) hx]
        by_cases e : x = i
        · subst e; rw [((hw.2.1 p hp).2.2 x hx).mpr ⟨by omega, q⟩]; rfl
        · simp [e]
      · rw [b_0]
        by_cases e : x = i
        · subst e
          cases e2 : bt (cF C 2 p) x
          · rfl
          · exact absurd (((hw.2.1 p hp).2.2 x hx).mp e2).2 q
        · simp [e]
    · rw [ok_nm, ok_some]
      refine ⟨by omega, nI_1 i, fun x hx => ?_⟩
      dsimp only
      rw [b_or, hb x hx, hv x hx]
      by_cases e : x = i
      · subst e; simp
      · have : decide (x < i + 1) = decide (x < i) := by
          by_cases q : x < i
          · simp [q]; omega
          · simp [q]; omega
        rw [this]; simp [e]
theorem between_ok {F : Nat} {v : Int32} {M : mm} : ok (m_X12_between F v (0 : Int32) (999 : Int32) M) (fun r => r = (clampI v, M)) := by
  unfold m_X12_between clampI
  simp only [ok_ite, ok_some]
  exact ⟨fun g1 => ⟨fun g2 => by rw [if_pos g1, if_pos g2], fun g2 => by rw [if_pos g1, if_neg g2]⟩, fun g1 => by rw [if_neg g1]⟩
