/-! deeds, on moments -/
def bitI (x : Int32) : Int32 := (1 : Int32) <<< (x &&& 31)
def mUp (mo : mty) (u : Int32) : mty := (mo.1, mo.2.1, mo.2.2.1, u)
noncomputable def fallM (C : cty) (mo : mty) : mty := mUp mo (fallS C mo mo.2.2.2)
noncomputable def crackS (C : cty) (mo : mty) (x : Int32) : Option mty :=
  if 0 ≤ x ∧ x < nI (cO C) ∧ bt mo.2.1 x.toNatClampNeg = false ∧ bt (cSu C) x.toNatClampNeg = false then some (fallM C (mo.1, mo.2.1 ||| bitI x, mo.2.2.1, mo.2.2.2)) else none
noncomputable def pardonS (C : cty) (mo : mty) (x : Int32) : Option mty :=
  if 0 ≤ x ∧ x < nI (cO C) ∧ bt mo.2.1 x.toNatClampNeg = true then some (fallM C (mo.1, mo.2.1 &&& (bitI x ^^^ (-1)), mo.2.2.1 ||| bitI x, mo.2.2.2)) else none
noncomputable def liftS (C : cty) (mo : mty) (x : Int32) : Option mty :=
  if 0 ≤ x ∧ x < nI (cS C) ∧ bt mo.2.2.2 x.toNatClampNeg = false ∧ fallS C mo (mo.2.2.2 ||| bitI x) = mo.2.2.2 ||| bitI x then some (mUp mo (mo.2.2.2 ||| bitI x)) else none
noncomputable def passS (C : cty) (mo : mty) : mty := fallM C (mo.1 + 1, mo.2.1, mo.2.2.1, mo.2.2.2)
noncomputable def beginS (C : cty) : mty := fallM C (0, 0, 0, nI (2 ^ cS C - 1))
noncomputable def doesS (C : cty) (mo : mty) (d x : Int32) : Option mty := if d = 0 then crackS C mo x else if d = 1 then pardonS C mo x else if d = 2 then liftS C mo x else some (passS C mo)
/-- a moment within its bounds -/
def MG (C : cty) (mo : mty) (Y : Nat) : Prop :=
  (∃ y, y ≤ Y ∧ mo.1 = nI y) ∧ (∀ x, x < 32 → bt mo.2.1 x = true → x < cO C ∧ bt (cSu C) x = false) ∧ (∀ x, x < 32 → bt mo.2.2.1 x = true → x < cO C) ∧ ∀ s, s < 32 → bt mo.2.2.2 s = true → s < cS C
/-- those up stand -/
def MS (C : cty) (mo : mty) : Prop := HallU C mo mo.2.2.2 11
theorem MG_y {C : cty} {mo : mty} {Y : Nat} (h : MG C mo Y) (hY : Y < 2 ^ 31) : mo.1 ≠ -1 := by
  obtain ⟨⟨y, hy, e⟩, -⟩ := h
  rw [e]; intro q
  have := nI_pos (n := y) (by omega)
  rw [q] at this; exact this (by decide)
theorem fallN_is {C : cty} {mo : mty} {up : Int32} : ∀ n, ∃ m, m ≤ n ∧ fallN C mo up n = rst up m ∧ HallU C mo up m := by
  intro n
  induction n with
  | zero =>
    refine ⟨0, Nat.le_refl _, b_ext (fun i hi => ?_), HallU_0⟩
    show bt 0 i = _
    rw [b_0, rst_b (by omega) hi]; simp
  | succ n ih =>
    by_cases h : HallU C mo up (n + 1)
    · exact ⟨n + 1, Nat.le_refl _, fallN_t h, h⟩
    · obtain ⟨m, a, b, c⟩ := ih
      exact ⟨m, by omega, (fallN_f h).trans b, c⟩
theorem hall_rst {C : cty} {mo : mty} {up : Int32} {n : Nat} (hn : n ≤ 11) : HallU C mo (rst up n) 11 ↔ HallU C mo up n := by
  have eU : upB (rst up n) 11 = upB up n := by
    funext s
    unfold upB
    rcases Nat.lt_or_ge s 32 with h | h
    · rw [rst_b (by omega) h]
      by_cases q : s < n
      · have : s < 11 := by omega
        simp [q, this]
      · simp [q]
    · rw [b_big h, b_big h]; rfl
  have eR : ∀ s, upB up n s = true → rS C (rst up n) s = rS C up s := fun s q => by
    unfold upB at q
    simp only [Bool.and_eq_true, decide_eq_true_iff] at q
    refine rs_c (n := s + 1) (fun t _ => ⟨rfl, rfl⟩) (fun t ht => ?_) s (by omega)
    rw [rst_b (by omega) (by omega)]
    simp; intro _; omega
  unfold HallU
  rw [eU]
  constructor
  · exact hall_c (fun s _ hU => ⟨rfl, fun o _ => by unfold rB; rw [eR s hU]⟩) (fun _ _ _ => rfl)
  · exact hall_c (fun s _ hU => ⟨rfl, fun o _ => by unfold rB; rw [eR s hU]⟩) (fun _ _ _ => rfl)
theorem fallS_sub {C : cty} {mo : mty} {up : Int32} {s : Nat} (hs : s < 32) (h : bt (fallS C mo up) s = true) : bt up s = true := by
  obtain ⟨m, a, b, c⟩ := fallN_is (C := C) (mo := mo) (up := up) 11
  unfold fallS at h
  rw [b, rst_b (by omega) hs, Bool.and_eq_true] at h
  exact h.1
theorem fallS_st {C : cty} {mo : mty} {up : Int32} : HallU C mo (fallS C mo up) 11 := by
  obtain ⟨m, a, b, c⟩ := fallN_is (C := C) (mo := mo) (up := up) 11
  unfold fallS
  rw [b]; exact (hall_rst a).mpr c
theorem fallS_iff {C : cty} {mo : mty} {up : Int32} (hb : ∀ s, s < 32 → bt up s = true → s < 11) : fallS C mo up = up ↔ HallU C mo up 11 :=
  ⟨fun h => by rw [← h]; exact fallS_st, fun h => fallS_up hb h⟩
theorem fallM_g {C : cty} {mo : mty} {Y : Nat} (h : MG C mo Y) : MG C (fallM C mo) Y ∧ MS C (fallM C mo) :=
  ⟨⟨h.1, h.2.1, h.2.2.1, fun s hs q => h.2.2.2 s hs (fallS_sub hs q)⟩, fallS_st⟩
theorem bitI_b {n i : Nat} (hn : n < 32) (hi : i < 32) : bt (bitI (nI n)) i = decide (i = n) := b_one hn hi
theorem crackS_g {C : cty} {mo mo' : mty} {x : Int32} {Y : Nat} (hw : WF C) (h : MG C mo Y) (e : crackS C mo x = some mo') : MG C mo' Y ∧ MS C mo' := by
  unfold crackS at e
  split at e
  · rename_i q
    cases e
    obtain ⟨n, hn, rfl⟩ : ∃ n, n < cO C ∧ x = nI n := by
      rcases pk_ix x (n := cO C) (by have := hw.1.2.1; omega) with q1 | q1 | q1
      · have := q.1; rw [i_le] at this; rw [i_lt] at q1; omega
      · have := q.2.1; rw [i_lt] at this; rw [i_le] at q1; omega
      · exact q1
    have hO := hw.1.2.1
    rw [nI_clamp (by omega)] at q
    refine fallM_g ⟨h.1, fun i hi hb => ?_, h.2.2.1, h.2.2.2⟩
    dsimp only at hb
    rw [b_or, bitI_b (by omega) hi, Bool.or_eq_true, decide_eq_true_iff] at hb
    rcases hb with hb | hb
    · exact h.2.1 i hi hb
    · subst hb; exact ⟨hn, q.2.2.2⟩
  · cases e
theorem pardonS_g {C : cty} {mo mo' : mty} {x : Int32} {Y : Nat} (hw : WF C) (h : MG C mo Y) (e : pardonS C mo x = some mo') : MG C mo' Y ∧ MS C mo' := by
  unfold pardonS at e
  split at e
  · rename_i q
    cases e
    obtain ⟨n, hn, rfl⟩ : ∃ n, n < cO C ∧ x = nI n := by
      rcases pk_ix x (n := cO C) (by have := hw.1.2.1; omega) with q1 | q1 | q1
      · have := q.1; rw [i_le] at this; rw [i_lt] at q1; omega
      · have := q.2.1; rw [i_lt] at this; rw [i_le] at q1; omega
      · exact q1
    have hO := hw.1.2.1
    refine fallM_g ⟨h.1, fun i hi hb => ?_, fun i hi hb => ?_, h.2.2.2⟩
    · dsimp only at hb
      rw [b_and, Bool.and_eq_true] at hb
      exact h.2.1 i hi hb.1
    · dsimp only at hb
      rw [b_or, bitI_b (by omega) hi, Bool.or_eq_true, decide_eq_true_iff] at hb
      rcases hb with hb | hb
      · exact h.2.2.1 i hi hb
      · subst hb; exact hn
  · cases e
theorem liftS_g {C : cty} {mo mo' : mty} {x : Int32} {Y : Nat} (hw : WF C) (h : MG C mo Y) (e : liftS C mo x = some mo') : MG C mo' Y ∧ MS C mo' := by
  unfold liftS at e
  split at e
  · rename_i q
    cases e
    obtain ⟨n, hn, rfl⟩ : ∃ n, n < cS C ∧ x = nI n := by
      rcases pk_ix x (n := cS C) (by have := hw.1.2.2.1; omega) with q1 | q1 | q1
      · have := q.1; rw [i_le] at this; rw [i_lt] at q1; omega
      · have := q.2.1; rw [i_lt] at this; rw [i_le] at q1; omega
      · exact q1
    have hS := hw.1.2.2.1
    have hup : ∀ s, s < 32 → bt (mo.2.2.2 ||| bitI (nI n)) s = true → s < cS C := fun s hs hb => by
      rw [b_or, bitI_b (by omega) hs, Bool.or_eq_true, decide_eq_true_iff] at hb
      rcases hb with hb | hb
      · exact h.2.2.2 s hs hb
      · subst hb; exact hn
    refine ⟨⟨h.1, h.2.1, h.2.2.1, hup⟩, ?_⟩
    have := fallS_st (C := C) (mo := mo) (up := mo.2.2.2 ||| bitI (nI n))
    rw [q.2.2.2] at this
    exact this
  · cases e
theorem passS_g {C : cty} {mo : mty} {Y : Nat} (h : MG C mo Y) : MG C (passS C mo) (Y + 1) ∧ MS C (passS C mo) := by
  obtain ⟨⟨y, hy, e⟩, h2⟩ := h
  exact fallM_g ⟨⟨y + 1, by omega, by show mo.1 + 1 = _; rw [e, nI_1]⟩, h2⟩
theorem ones_b : ∀ n, n ≤ 10 → ∀ i, i < 32 → bt (nI (2 ^ n - 1)) i = decide (i < n) := by decide +kernel
theorem beginS_g {C : cty} (hw : WF C) : MG C (beginS C) 0 ∧ MS C (beginS C) := by
  refine fallM_g ⟨⟨0, Nat.le_refl _, rfl⟩, fun x _ hb => ?_, fun x _ hb => ?_, fun s hs hb => ?_⟩
  · dsimp only at hb; rw [b_0] at hb; cases hb
  · dsimp only at hb; rw [b_0] at hb; cases hb
  · dsimp only at hb
    rw [ones_b _ hw.1.2.2.1 s hs, decide_eq_true_iff] at hb
    exact hb
theorem doesS_g {C : cty} {mo mo' : mty} {d x : Int32} {Y : Nat} (hw : WF C) (h : MG C mo Y) (e : doesS C mo d x = some mo') : MG C mo' (Y + 1) ∧ MS C mo' := by
  have up : ∀ {m : mty}, MG C m Y → MG C m (Y + 1) := fun q => ⟨by obtain ⟨⟨y, a, b⟩, -⟩ := q; exact ⟨y, by omega, b⟩, q.2⟩
  unfold doesS at e
  split at e
  · have := crackS_g hw h e; exact ⟨up this.1, this.2⟩
  · split at e
    · have := pardonS_g hw h e; exact ⟨up this.1, this.2⟩
    · split at e
      · have := liftS_g hw h e; exact ⟨up this.1, this.2⟩
      · cases e; exact passS_g h
/-! the class's deeds -/
def PE (o i : Nat) : Nat → Nat → Prop := fun k n => PW o k n ∨ (k = 5 ∧ n = i)
def CS (C : cty) (o : Nat) (M : mm) : Prop := CV C o M ∧ WI M
theorem CS_5 {C : cty} {o : Nat} {M M' : mm} {i : Nat} (h : CS C o M) (f : fr (fun k n => k = 5 ∧ n = i) M M') : CS C o M' :=
  ⟨CV_fr h.1 f (fun k hk q => by omega), fun x hx => by unfold lfM; rw [fr_I f (by omega)]; exact h.2 x hx⟩
/-- those up fall, if they must -/
theorem fall_ok {F : Nat} (hF : 2000 < F) {o i : Nat} {C : cty} {M : mm} {mo : mty} {Y : Nat} (hY : Y < 2 ^ 31) (hw : WF C) (h : CS C o M) (hm : MoM i M mo) (hg : MG C mo Y) {up : Int32} (hup : ∀ s, s < 32 → bt up s = true → s < cS C) :
    ok (m_X9_standing F o i up M) (fun r => r.1 = fallS C mo up ∧ CS C o r.2 ∧ fr (PW o) M r.2 ∧ MoM i r.2 mo) :=
  ok_mono (standing_ok hF hw h.1 hm (MG_y hg hY) h.2 hup) (fun r hr => ⟨hr.1, ⟨hr.2.1, hr.2.2.2.1⟩, hr.2.2.1, MoM_fr hm hr.2.2.1 (by unfold PW; omega)⟩)
theorem hasOath_ok {F o : Nat} {C : cty} {M : mm} (h : CV C o M) {x : Int32} : ok (m_X0_hasOath F o x M) (fun r => r = (decide (0 ≤ x ∧ x < nI (cO C)), M)) := by
  unfold m_X0_hasOath
  rw [h.1.1.2.1]
  simp only [ok_ite, ok_some]
  refine ⟨fun q => ?_, fun q => ⟨fun q2 => ?_, fun q2 => ?_⟩⟩
  · congr 1
    rw [i_lt] at q
    simp only [i_le, i_lt]
    have : (0 : Int32).toInt = 0 := rfl
    symm; rw [decide_eq_false_iff_not]; omega
  · congr 1
    simp only [i_le, i_lt] at q q2 ⊢
    symm; rw [decide_eq_false_iff_not]; omega
  · congr 1
    simp only [i_le, i_lt] at q q2 ⊢
    symm; rw [decide_eq_true_iff]; omega
theorem hasStone_ok {F o : Nat} {C : cty} {M : mm} (h : CV C o M) {x : Int32} : ok (m_X0_hasStone F o x M) (fun r => r = (decide (0 ≤ x ∧ x < nI (cS C)), M)) := by
  unfold m_X0_hasStone
  rw [h.1.1.2.2.1]
  simp only [ok_ite, ok_some]
  refine ⟨fun q => ?_, fun q => ⟨fun q2 => ?_, fun q2 => ?_⟩⟩
  · congr 1
    rw [i_lt] at q
    simp only [i_le, i_lt]
    have : (0 : Int32).toInt = 0 := rfl
    symm; rw [decide_eq_false_iff_not]; omega
  · congr 1
    simp only [i_le, i_lt] at q q2 ⊢
    symm; rw [decide_eq_false_iff_not]; omega
  · congr 1
    simp only [i_le, i_lt] at q q2 ⊢
    symm; rw [decide_eq_true_iff]; omega
theorem ix_of {x : Int32} {n : Nat} (hn : n ≤ 10) (h : 0 ≤ x ∧ x < nI n) : ∃ j, j < n ∧ x = nI j := by
  rcases pk_ix x (n := n) (by omega) with q1 | q1 | q1
  · have := h.1; rw [i_le] at this; rw [i_lt] at q1; omega
  · have := h.2; rw [i_lt] at this; rw [i_le] at q1; omega
  · exact q1
/-- what a deed leaves -/
def DP (C : cty) (o i : Nat) (M : mm) (mo : mty) (e : Option mty) (r : Bool × mm) : Prop := r.1 = e.isSome ∧ CS C o r.2 ∧ MoM i r.2 (e.getD mo) ∧ fr (PE o i) M r.2
theorem crack_ok {F : Nat} (hF : 2000 < F) {o i : Nat} {C : cty} {M : mm} {mo : mty} {Y : Nat} (hY : Y < 2 ^ 31) (hw : WF C) (h : CS C o M) (hm : MoM i M mo) (hg : MG C mo Y) {x : Int32} :
    ok (m_X1_crack F o i x M) (DP C o i M mo (crackS C mo x)) := by
  have hO := hw.1.2.1
  unfold m_X1_crack
  rw [ok_cb]
  refine ok_mono (hasOath_ok h.1) (fun r hr => ?_)
  subst hr
  dsimp only
  rw [ok_ite, decide_eq_true_iff]
  have no : crackS C mo x = none → DP C o i M mo (crackS C mo x) (false, M) := fun q => by rw [q]; exact ⟨rfl, h, hm, fr_rf⟩
  refine ⟨fun q => ?_, fun q => ok_some.mpr (no ?_)⟩
  · obtain ⟨n, hn, rfl⟩ := ix_of hO q
    have hcl : (nI n).toNatClampNeg = n := nI_clamp (by omega)
    obtain ⟨m0, m1, m2, m3⟩ := hm
    rw [m1, h.1.1.1.2.2.2.2, ok_ite, b_bit0 _ (show n < 32 by omega), b_or]
    refine ⟨fun q2 => ?_, fun q2 => ok_some.mpr (no ?_)⟩
    · rw [Bool.or_eq_false_iff] at q2
      have hM : crackS C mo (nI n) = some (fallM C (mo.1, mo.2.1 ||| bitI (nI n), mo.2.2.1, mo.2.2.2)) := by
        unfold crackS
        rw [hcl, if_pos ⟨q.1, q.2, q2.1, q2.2⟩]
      rw [ok_nm, ok_cl]
      have f1 : fr (fun k n => k = 5 ∧ n = i) M (sI M 5 i 1 (mo.2.1 ||| bitI (nI n))) := fr_sI fr_rf ⟨rfl, rfl⟩
      have hm1 : MoM i (sI M 5 i 1 (mo.2.1 ||| bitI (nI n))) (mo.1, mo.2.1 ||| bitI (nI n), mo.2.2.1, mo.2.2.2) := by
        unfold MoM; simp [rII, m0, m2, m3]
      have hg1 : MG C (mo.1, mo.2.1 ||| bitI (nI n), mo.2.2.1, mo.2.2.2) Y := by
        refine ⟨hg.1, fun j hj hb => ?_, hg.2.2.1, hg.2.2.2⟩
        dsimp only at hb
        rw [b_or, bitI_b (by omega) hj, Bool.or_eq_true, decide_eq_true_iff] at hb
        rcases hb with hb | hb
        · exact hg.2.1 j hj hb
        · subst hb; exact ⟨hn, q2.2⟩
      refine ok_mono (fall_ok hF hY hw (CS_5 h f1) hm1 hg1 (up := (sI M 5 i 1 (mo.2.1 ||| bitI (nI n))).1 5 i 3) (by rw [hm1.2.2.2]; exact hg.2.2.2)) (fun r hr => ?_)
      obtain ⟨x5, M4⟩ := r
      obtain ⟨r1, r2, r3, r4⟩ := hr
      dsimp only at r1 r2 r3 r4 ⊢
      rw [ok_nm, ok_some, hM]
      have f2 : fr (fun k n => k = 5 ∧ n = i) M4 (sI M4 5 i 3 x5) := fr_sI fr_rf ⟨rfl, rfl⟩
      refine ⟨rfl, CS_5 r2 f2, ?_, fr_tr (fr_mono f1 (fun k n q => Or.inr q)) (fr_tr (fr_mono r3 (fun k n q => Or.inl q)) (fr_mono f2 (fun k n q => Or.inr q)))⟩
      obtain ⟨a0, a1, a2, a3⟩ := r4
      unfold MoM fallM mUp
      rw [hm1.2.2.2] at r1
      simp [rII, a0, a1, a2, r1]
    · unfold crackS
      rw [hcl, if_neg]
      rintro ⟨-, -, a, b⟩
      rw [a, b] at q2; exact q2 rfl
  · unfold crackS
    rw [if_neg]
    rintro ⟨a, b, -⟩
    exact q ⟨a, b⟩
theorem pardon_ok {F : Nat} (hF : 2000 < F) {o i : Nat} {C : cty} {M : mm} {mo : mty} {Y : Nat} (hY : Y < 2 ^ 31) (hw : WF C) (h : CS C o M) (hm : MoM i M mo) (hg : MG C mo Y) {x : Int32} :
    ok (m_X1_pardon F o i x M) (DP C o i M mo (pardonS C mo x)) := by
  have hO := hw.1.2.1
  unfold m_X1_pardon
  rw [ok_cb]
  refine ok_mono (hasOath_ok h.1) (fun r hr => ?_)
  subst hr
  dsimp only
  rw [ok_ite, decide_eq_true_iff]
  have no : pardonS C mo x = none → DP C o i M mo (pardonS C mo x) (false, M) := fun q => by rw [q]; exact ⟨rfl, h, hm, fr_rf⟩
  refine ⟨fun q => ?_, fun q => ok_some.mpr (no ?_)⟩
  · obtain ⟨n, hn, rfl⟩ := ix_of hO q
    have hcl : (nI n).toNatClampNeg = n := nI_clamp (by omega)
    obtain ⟨m0, m1, m2, m3⟩ := hm
    rw [m1, ok_ite, b_bit0 _ (show n < 32 by omega)]
    refine ⟨fun q2 => ok_some.mpr (no ?_), fun q2 => ?_⟩
    · unfold pardonS
      rw [hcl, if_neg]
      rintro ⟨-, -, a⟩
      rw [a] at q2; cases q2
    · have q3 : bt mo.2.1 n = true := by
        cases e : bt mo.2.1 n
        · exact absurd e q2
        · rfl
      have hM : pardonS C mo (nI n) = some (fallM C (mo.1, mo.2.1 &&& (bitI (nI n) ^^^ (-1)), mo.2.2.1 ||| bitI (nI n), mo.2.2.2)) := by
        unfold pardonS
        rw [hcl, if_pos ⟨q.1, q.2, q3⟩]
      rw [ok_nm, ok_nm, ok_cl]
      have e2 : (sI M 5 i 1 (mo.2.1 &&& (bitI (nI n) ^^^ (-1)))).1 5 i 2 = mo.2.2.1 := by rw [rII, if_neg (by omega)]; exact m2
      have f1 : fr (fun k n => k = 5 ∧ n = i) M (sI (sI M 5 i 1 (mo.2.1 &&& (bitI (nI n) ^^^ (-1)))) 5 i 2 (mo.2.2.1 ||| bitI (nI n))) := fr_sI (fr_sI fr_rf ⟨rfl, rfl⟩) ⟨rfl, rfl⟩
      have hm1 : MoM i (sI (sI M 5 i 1 (mo.2.1 &&& (bitI (nI n) ^^^ (-1)))) 5 i 2 (mo.2.2.1 ||| bitI (nI n))) (mo.1, mo.2.1 &&& (bitI (nI n) ^^^ (-1)), mo.2.2.1 ||| bitI (nI n), mo.2.2.2) := by
        unfold MoM; simp [rII, m0, m3]
      have hg1 : MG C (mo.1, mo.2.1 &&& (bitI (nI n) ^^^ (-1)), mo.2.2.1 ||| bitI (nI n), mo.2.2.2) Y := by
        refine ⟨hg.1, fun j hj hb => ?_, fun j hj hb => ?_, hg.2.2.2⟩
        · dsimp only at hb
          rw [b_and, Bool.and_eq_true] at hb
          exact hg.2.1 j hj hb.1
        · dsimp only at hb
          rw [b_or, bitI_b (by omega) hj, Bool.or_eq_true, decide_eq_true_iff] at hb
          rcases hb with hb | hb
          · exact hg.2.2.1 j hj hb
          · subst hb; exact hn
      rw [show (1 : Int32) <<< (nI n &&& 31) = bitI (nI n) from rfl, e2]
      refine ok_mono (fall_ok hF hY hw (CS_5 h f1) hm1 hg1 (up := (sI (sI M 5 i 1 (mo.2.1 &&& (bitI (nI n) ^^^ (-1)))) 5 i 2 (mo.2.2.1 ||| bitI (nI n))).1 5 i 3) (by rw [hm1.2.2.2]; exact hg.2.2.2)) (fun r hr => ?_)
      obtain ⟨x5, M4⟩ := r
      obtain ⟨r1, r2, r3, r4⟩ := hr
      dsimp only at r1 r2 r3 r4 ⊢
      rw [ok_nm, ok_some, hM]
      have f2 : fr (fun k n => k = 5 ∧ n = i) M4 (sI M4 5 i 3 x5) := fr_sI fr_rf ⟨rfl, rfl⟩
      refine ⟨rfl, CS_5 r2 f2, ?_, fr_tr (fr_mono f1 (fun k n q => Or.inr q)) (fr_tr (fr_mono r3 (fun k n q => Or.inl q)) (fr_mono f2 (fun k n q => Or.inr q)))⟩
      obtain ⟨a0, a1, a2, a3⟩ := r4
      unfold MoM fallM mUp
      rw [hm1.2.2.2] at r1
      simp [rII, a0, a1, a2, r1]
  · unfold pardonS
    rw [if_neg]
    rintro ⟨a, b, -⟩
    exact q ⟨a, b⟩
theorem lift_ok {F : Nat} (hF : 2000 < F) {o i : Nat} {C : cty} {M : mm} {mo : mty} {Y : Nat} (hY : Y < 2 ^ 31) (hw : WF C) (h : CS C o M) (hm : MoM i M mo) (hg : MG C mo Y) {x : Int32} :
    ok (m_X1_lift F o i x M) (DP C o i M mo (liftS C mo x)) := by
  have hS := hw.1.2.2.1
  unfold m_X1_lift
  rw [ok_cb]
  refine ok_mono (hasStone_ok h.1) (fun r hr => ?_)
  subst hr
  dsimp only
  rw [ok_ite, decide_eq_true_iff]
  have no : liftS C mo x = none → DP C o i M mo (liftS C mo x) (false, M) := fun q => by rw [q]; exact ⟨rfl, h, hm, fr_rf⟩
  refine ⟨fun q => ?_, fun q => ok_some.mpr (no ?_)⟩
  · obtain ⟨n, hn, rfl⟩ := ix_of hS q
    have hcl : (nI n).toNatClampNeg = n := nI_clamp (by omega)
    obtain ⟨m0, m1, m2, m3⟩ := id hm
    rw [m3, ok_ite, b_bit0 _ (show n < 32 by omega)]
    refine ⟨fun q2 => ?_, fun q2 => ok_some.mpr (no ?_)⟩
    · rw [ok_nm, ok_cl]
      have hup : ∀ s, s < 32 → bt (mo.2.2.2 ||| bitI (nI n)) s = true → s < cS C := fun s hs hb => by
        rw [b_or, bitI_b (by omega) hs, Bool.or_eq_true, decide_eq_true_iff] at hb
        rcases hb with hb | hb
        · exact hg.2.2.2 s hs hb
        · subst hb; exact hn
      refine ok_mono (fall_ok hF hY hw h hm hg (up := mo.2.2.2 ||| bitI (nI n)) hup) (fun r hr => ?_)
      obtain ⟨x5, M4⟩ := r
      obtain ⟨r1, r2, r3, r4⟩ := hr
      dsimp only at r1 r2 r3 r4 ⊢
      have hb : (mo.2.2.2 ||| (1 : Int32) <<< (nI n &&& 31)) = mo.2.2.2 ||| bitI (nI n) := rfl
      rw [ok_ite, r1, hb]
      refine ⟨fun q3 => ?_, fun q3 => ok_some.mpr ?_⟩
      · have hM : liftS C mo (nI n) = some (mUp mo (mo.2.2.2 ||| bitI (nI n))) := by
          unfold liftS
          rw [hcl, if_pos ⟨q.1, q.2, q2, q3⟩]
        rw [ok_nm, ok_some, hM]
        have f2 : fr (fun k n => k = 5 ∧ n = i) M4 (sI M4 5 i 3 (mo.2.2.2 ||| bitI (nI n))) := fr_sI fr_rf ⟨rfl, rfl⟩
        refine ⟨rfl, CS_5 r2 f2, ?_, fr_tr (fr_mono r3 (fun k n q => Or.inl q)) (fr_mono f2 (fun k n q => Or.inr q))⟩
        obtain ⟨a0, a1, a2, a3⟩ := r4
        unfold MoM mUp
        simp [rII, a0, a1, a2]
      · have hM : liftS C mo (nI n) = none := by
          unfold liftS
          rw [if_neg]
          rintro ⟨-, -, -, a⟩
          exact q3 a
        rw [hM]
        exact ⟨rfl, r2, r4, fr_mono r3 (fun k n q => Or.inl q)⟩
    · unfold liftS
      rw [hcl, if_neg]
      rintro ⟨-, -, a, -⟩
      exact q2 a
  · unfold liftS
    rw [if_neg]
    rintro ⟨a, b, -⟩
    exact q ⟨a, b⟩
theorem pass_ok {F : Nat} (hF : 2000 < F) {o i : Nat} {C : cty} {M : mm} {mo : mty} {Y : Nat} (hY : Y + 1 < 2 ^ 31) (hw : WF C) (h : CS C o M) (hm : MoM i M mo) (hg : MG C mo Y) :
    ok (m_X1_pass F o i M) (fun M' => CS C o M' ∧ MoM i M' (passS C mo) ∧ fr (PE o i) M M') := by
  obtain ⟨m0, m1, m2, m3⟩ := id hm
  unfold m_X1_pass
  rw [ok_nm, ok_cl, m0]
  have f1 : fr (fun k n => k = 5 ∧ n = i) M (sI M 5 i 0 (mo.1 + 1)) := fr_sI fr_rf ⟨rfl, rfl⟩
  have hm1 : MoM i (sI M 5 i 0 (mo.1 + 1)) (mo.1 + 1, mo.2.1, mo.2.2.1, mo.2.2.2) := by
    unfold MoM; simp [rII, m1, m2, m3]
  have hg1 : MG C (mo.1 + 1, mo.2.1, mo.2.2.1, mo.2.2.2) (Y + 1) := by
    obtain ⟨⟨y, hy, e⟩, h2⟩ := hg
    exact ⟨⟨y + 1, by omega, by show mo.1 + 1 = _; rw [e, nI_1]⟩, h2⟩
  refine ok_mono (fall_ok hF (Y := Y + 1) (by omega) hw (CS_5 h f1) hm1 hg1 (up := (sI M 5 i 0 (mo.1 + 1)).1 5 i 3) (by rw [hm1.2.2.2]; exact hg.2.2.2)) (fun r hr => ?_)
  obtain ⟨x5, M4⟩ := r
  obtain ⟨r1, r2, r3, r4⟩ := hr
  dsimp only at r1 r2 r3 r4 ⊢
  rw [ok_nm, ok_some]
  have f2 : fr (fun k n => k = 5 ∧ n = i) M4 (sI M4 5 i 3 x5) := fr_sI fr_rf ⟨rfl, rfl⟩
  refine ⟨CS_5 r2 f2, ?_, fr_tr (fr_mono f1 (fun k n q => Or.inr q)) (fr_tr (fr_mono r3 (fun k n q => Or.inl q)) (fr_mono f2 (fun k n q => Or.inr q)))⟩
  obtain ⟨a0, a1, a2, a3⟩ := r4
  unfold MoM passS fallM mUp
  rw [hm1.2.2.2] at r1
  simp [rII, a0, a1, a2, r1]
theorem begin_ok {F : Nat} (hF : 2000 < F) {o i : Nat} {C : cty} {M : mm} (hw : WF C) (h : CS C o M) :
    ok (m_X1_begin F o i M) (fun M' => CS C o M' ∧ MoM i M' (beginS C) ∧ fr (PE o i) M M') := by
  have hS := hw.1.2.2.1
  unfold m_X1_begin
  rw [ok_nm, ok_nm, ok_nm, ok_cl]
  have f1 : fr (fun k n => k = 5 ∧ n = i) M (sI (sI (sI M 5 i 0 0) 5 i 1 0) 5 i 2 0) := fr_sI (fr_sI (fr_sI fr_rf ⟨rfl, rfl⟩) ⟨rfl, rfl⟩) ⟨rfl, rfl⟩
  have h1 := CS_5 h f1
  have hm0 : ∀ u, u = (sI (sI (sI M 5 i 0 0) 5 i 1 0) 5 i 2 0).1 5 i 3 → MoM i (sI (sI (sI M 5 i 0 0) 5 i 1 0) 5 i 2 0) (0, 0, 0, u) := by
    intro u hu
    subst hu
    unfold MoM; simp [rII]
  have hsh : ∀ n, n ≤ 10 → ((1 : Int32) <<< (nI n &&& 31)) - 1 = nI (2 ^ n - 1) := by decide +kernel
  rw [h1.1.1.1.2.2.1, hsh _ hS]
  have hup : ∀ s, s < 32 → bt (nI (2 ^ cS C - 1)) s = true → s < cS C := fun s hs hb => by
    rw [ones_b _ hS s hs, decide_eq_true_iff] at hb; exact hb
  generalize hM3 : sI (sI (sI M 5 i 0 0) 5 i 1 0) 5 i 2 0 = M3 at f1 h1 hm0 ⊢
  have hm1 := hm0 _ rfl
  refine ok_mono (standing_ok hF hw h1.1 hm1 (show (0 : Int32) ≠ -1 by decide) h1.2 (up := nI (2 ^ cS C - 1)) hup) (fun r hr => ?_)
  obtain ⟨x5, M4⟩ := r
  obtain ⟨r1, r2, r3, r4, -⟩ := hr
  dsimp only at r1 r2 r3 r4 ⊢
  rw [ok_nm, ok_some]
  have f2 : fr (fun k n => k = 5 ∧ n = i) M4 (sI M4 5 i 3 x5) := fr_sI fr_rf ⟨rfl, rfl⟩
  refine ⟨CS_5 ⟨r2, r4⟩ f2, ?_, fr_tr (fr_mono f1 (fun k n q => Or.inr q)) (fr_tr (fr_mono r3 (fun k n q => Or.inl q)) (fr_mono f2 (fun k n q => Or.inr q)))⟩
  obtain ⟨a0, a1, a2, a3⟩ := MoM_fr hm1 r3 (by unfold PW; omega)
  unfold MoM beginS fallM mUp
  simp [rII, a0, a1, a2, r1]
  rfl
theorem does_ok {F : Nat} (hF : 2000 < F) {o i : Nat} {C : cty} {M : mm} {mo : mty} {Y : Nat} (hY : Y + 1 < 2 ^ 31) (hw : WF C) (h : CS C o M) (hm : MoM i M mo) (hg : MG C mo Y) {d x : Int32} :
    ok (m_X1_does F o i d x M) (DP C o i M mo (doesS C mo d x)) := by
  unfold m_X1_does doesS
  rw [ok_ite]
  refine ⟨fun q => ?_, fun q => ?_⟩
  · rw [if_pos q, ok_cb]
    exact ok_mono (crack_ok hF (by omega) hw h hm hg) (fun r hr => ok_some.mpr hr)
  · rw [if_neg q, ok_ite]
    refine ⟨fun q => ?_, fun q => ?_⟩
    · rw [if_pos q, ok_cb]
      exact ok_mono (pardon_ok hF (by omega) hw h hm hg) (fun r hr => ok_some.mpr hr)
    · rw [if_neg q, ok_ite]
      refine ⟨fun q => ?_, fun q => ?_⟩
      · rw [if_pos q, ok_cb]
        exact ok_mono (lift_ok hF (by omega) hw h hm hg) (fun r hr => ok_some.mpr hr)
      · rw [if_neg q, ok_cv]
        exact ok_mono (pass_ok hF hY hw h hm hg) (fun r hr => ok_some.mpr ⟨rfl, hr.1, hr.2.1, hr.2.2⟩)
