/-! repair: values -/
def itF {α : Type} (f : Nat → α → α) : Nat → Nat → α → α
  | 0, _, b => b
  | n + 1, x, b => itF f n (x + 1) (f x b)
def wtN (C : cty) (up : Int32) : Nat → Int32
  | 0 => 0
  | n + 1 => wtN C up n + (if bt up n = true then cF C 8 n else 0)
def wtS (C : cty) (up : Int32) : Int32 := wtN C up (cS C)
/-- an apology, what is lifted then, the year -/
noncomputable def apS (C : cty) (mo : mty) (x : Nat) : Option mty := match pardonS C mo (nI x) with
  | none => none
  | some m => some (passS C (raiseN C m (cS C)))
abbrev bst : Type := Int32 × List Nat
noncomputable def rpR (C : cty) : Nat → mty → List Nat → bst → bst
  | 0, mo, row, b => if b.1 < wtS C mo.2.2.2 then (wtS C mo.2.2.2, row) else b
  | k + 1, mo, row, b => itF (fun x b => match apS C mo x with
    | none => b
    | some m => rpR C k m (row ++ [x]) b) (cO C) 0 b
noncomputable def chF (C : cty) (k : Nat) (mo : mty) (row : List Nat) (x : Nat) (b : bst) : bst := match apS C mo x with
  | none => b
  | some m => rpR C k m (row ++ [x]) b
theorem rpR_s {C : cty} {k : Nat} {mo : mty} {row : List Nat} {b : bst} : rpR C (k + 1) mo row b = itF (chF C k mo row) (cO C) 0 b := rfl
theorem apS_g {C : cty} {mo m : mty} {x Y : Nat} (hw : WF C) (h : MG C mo Y) (e : apS C mo x = some m) : MG C m (Y + 1) ∧ MS C m := by
  unfold apS at e
  cases q : pardonS C mo (nI x) with
  | none => rw [q] at e; cases e
  | some m' =>
    rw [q] at e
    have e := Option.some.inj e
    obtain ⟨g1, g2⟩ := pardonS_g hw h q
    obtain ⟨r1, r2⟩ := raiseN_g hw g1 g2 (cS C)
    rw [← e]; exact passS_g r1
theorem raiseN_br {C : cty} {mo : mty} : ∀ n, (raiseN C mo n).2.1 = mo.2.1
  | 0 => rfl
  | n + 1 => by
    show ((liftS C (raiseN C mo n) (nI n)).getD (raiseN C mo n)).2.1 = _
    rw [← raiseN_br (C := C) (mo := mo) n]
    cases e : liftS C (raiseN C mo n) (nI n) with
    | none => rfl
    | some m =>
      unfold liftS at e
      split at e
      · have e := Option.some.inj e
        rw [← e]; rfl
      · cases e
theorem apS_br {C : cty} {mo m : mty} {x : Nat} (e : apS C mo x = some m) : m.2.1 = mo.2.1 &&& (bitI (nI x) ^^^ (-1)) := by
  unfold apS at e
  cases q : pardonS C mo (nI x) with
  | none => rw [q] at e; cases e
  | some m' =>
    rw [q] at e
    have e := Option.some.inj e
    rw [← e]
    show (raiseN C m' (cS C)).2.1 = _
    rw [raiseN_br]
    unfold pardonS at q
    split at q
    · have q := Option.some.inj q
      rw [← q]; rfl
    · cases q
theorem apS_some {C : cty} {mo : mty} {x : Nat} (hx : x < cO C) (hO : cO C ≤ 10) (h : bt mo.2.1 x = true) : ∃ m, apS C mo x = some m := by
  unfold apS pardonS
  have : (0 : Int32) ≤ nI x := (nI_leI (by omega) (by omega) : nI 0 ≤ nI x ↔ 0 ≤ x).mpr (Nat.zero_le _)
  rw [nI_clamp (by omega), if_pos ⟨this, (nI_ltI (by omega) (by omega)).mpr hx, h⟩]
  exact ⟨_, rfl⟩
theorem itF_ind {α : Type} {f : Nat → α → α} {P : α → Prop} (h : ∀ x b, P b → P (f x b)) : ∀ n x b, P b → P (itF f n x b)
  | 0, _, _, hb => hb
  | n + 1, x, b, hb => itF_ind h n (x + 1) (f x b) (h x b hb)
theorem itF_hit {α : Type} {f : Nat → α → α} {P Q : α → Prop} (h1 : ∀ x b, P b → P (f x b)) (h2 : ∀ x b, Q b → Q (f x b)) {y : Nat} (h3 : ∀ b, P b → Q (f y b)) : ∀ n x b, x ≤ y → y < x + n → P b → Q (itF f n x b)
  | 0, _, _, _, _, _ => by omega
  | n + 1, x, b, a, c, hb => by
    by_cases e : x = y
    · subst e
      exact itF_ind h2 n (x + 1) _ (h3 b hb)
    · exact itF_hit h1 h2 h3 n (x + 1) (f x b) (by omega) (by omega) (h1 x b hb)
def Fnd (many : Nat) (b : bst) : Prop := b.2.length = many ∧ 0 ≤ b.1.toInt
def Pnd (many : Nat) (b : bst) : Prop := b = (-1, []) ∨ Fnd many b
theorem wtN_b {C : cty} (hw : WF C) (up : Int32) : ∀ n, n ≤ cS C → 0 ≤ (wtN C up n).toInt ∧ (wtN C up n).toInt ≤ 99 * n
  | 0, _ => ⟨Int.le_refl _, Int.le_refl _⟩
  | n + 1, hn => by
    have hS := hw.1.2.2.1
    obtain ⟨h1, h2⟩ := wtN_b hw up n (by omega)
    have h3 := (hw.2.2.2.2 n (by omega)).1
    have z : (0 : Int32).toInt = 0 := rfl
    have e : wtN C up (n + 1) = wtN C up n + (if bt up n = true then cF C 8 n else 0) := rfl
    rw [e]
    split
    · rw [i_add (by omega) (by omega)]; omega
    · rw [i_add (by omega) (by omega), z]; omega
theorem rp_F {C : cty} {many : Nat} (hw : WF C) : ∀ (k : Nat) (mo : mty) (row : List Nat) (b : bst), row.length + k = many → Fnd many b → Fnd many (rpR C k mo row b)
  | 0, mo, row, b, hr, hb => by
    show Fnd many (if b.1 < wtS C mo.2.2.2 then (wtS C mo.2.2.2, row) else b)
    split
    · exact ⟨hr, (wtN_b hw _ _ (Nat.le_refl _)).1⟩
    · exact hb
  | k + 1, mo, row, b, hr, hb => by
    rw [rpR_s]
    refine itF_ind (fun x b hb => ?_) _ _ _ hb
    unfold chF
    cases e : apS C mo x with
    | none => exact hb
    | some m => exact rp_F hw k m (row ++ [x]) b (by rw [List.length_append, List.length_singleton]; omega) hb
theorem rp_P {C : cty} {many : Nat} (hw : WF C) : ∀ (k : Nat) (mo : mty) (row : List Nat) (b : bst), row.length + k = many → Pnd many b → Pnd many (rpR C k mo row b)
  | 0, mo, row, b, hr, hb => by
    show Pnd many (if b.1 < wtS C mo.2.2.2 then (wtS C mo.2.2.2, row) else b)
    split
    · exact Or.inr ⟨hr, (wtN_b hw _ _ (Nat.le_refl _)).1⟩
    · exact hb
  | k + 1, mo, row, b, hr, hb => by
    rw [rpR_s]
    refine itF_ind (fun x b hb => ?_) _ _ _ hb
    unfold chF
    cases e : apS C mo x with
    | none => exact hb
    | some m => exact rp_P hw k m (row ++ [x]) b (by rw [List.length_append, List.length_singleton]; omega) hb
theorem cp_del (p : Nat → Bool) (x : Nat) : ∀ n, (List.range n).countP (fun i => p i && !decide (i = x)) + (if x < n ∧ p x = true then 1 else 0) = (List.range n).countP p
  | 0 => by simp
  | n + 1 => by
    have ih := cp_del p x n
    rw [cp_s, cp_s]
    by_cases e : x = n
    · subst e
      have a1 : ¬ (x < x ∧ p x = true) := fun q => absurd q.1 (Nat.lt_irrefl _)
      rw [if_neg a1] at ih
      cases e2 : p x
      · simp [e2] at ih ⊢; omega
      · simp [e2] at ih ⊢; omega
    · by_cases e2 : x < n
      · have a1 : decide (n = x) = false := decide_eq_false (by omega)
        have a2 : (x < n + 1 ∧ p x = true) ↔ (x < n ∧ p x = true) := ⟨fun q => ⟨e2, q.2⟩, fun q => ⟨by omega, q.2⟩⟩
        simp only [a1, a2, Bool.not_false, Bool.and_true]; omega
      · have a1 : decide (n = x) = false := decide_eq_false (by omega)
        have a2 : ¬ (x < n + 1 ∧ p x = true) := fun q => by omega
        have a3 : ¬ (x < n ∧ p x = true) := fun q => by omega
        rw [if_neg a3] at ih
        rw [if_neg a2]
        simp only [a1, Bool.not_false, Bool.and_true]; omega
theorem popN_del {br : Int32} {x : Nat} (hx : x < 11) (h : bt br x = true) : popN (br &&& (bitI (nI x) ^^^ (-1))) + 1 = popN br := by
  have := cp_del (fun i => bt br i) x 11
  rw [if_pos ⟨hx, h⟩] at this
  unfold popN
  rw [← this]
  congr 1
  refine List.countP_congr (fun i hi => ?_)
  have hi' := List.mem_range.mp hi
  rw [b_and, b_not _ (by omega), bitI_b (by omega) (by omega)]
theorem popN_pos {br : Int32} (h : 0 < popN br) : ∃ x, x < 11 ∧ bt br x = true := by
  unfold popN at h
  obtain ⟨x, a, b⟩ := List.countP_pos_iff.mp h
  exact ⟨x, List.mem_range.mp a, b⟩
theorem rp_hit {C : cty} {many : Nat} (hw : WF C) : ∀ (k : Nat) (mo : mty) (row : List Nat) (b : bst), (∀ x, x < 32 → bt mo.2.1 x = true → x < cO C) → k ≤ popN mo.2.1 → row.length + k = many → Pnd many b → Fnd many (rpR C k mo row b)
  | 0, mo, row, b, _, _, hr, hb => by
    show Fnd many (if b.1 < wtS C mo.2.2.2 then (wtS C mo.2.2.2, row) else b)
    have h0 := (wtN_b hw mo.2.2.2 _ (Nat.le_refl _)).1
    rcases hb with rfl | hb
    · rw [if_pos]
      · exact ⟨hr, h0⟩
      · rw [i_lt]
        have : (-1 : Int32).toInt = -1 := rfl
        show (-1 : Int32).toInt < (wtN C mo.2.2.2 (cS C)).toInt
        omega
    · split
      · exact ⟨hr, h0⟩
      · exact hb
  | k + 1, mo, row, b, hbr, hk, hr, hb => by
    have hO := hw.1.2.1
    obtain ⟨y, hy, hyb⟩ := popN_pos (show 0 < popN mo.2.1 by omega)
    have hy' := hbr y (by omega) hyb
    obtain ⟨m, hm⟩ := apS_some hy' hO hyb
    have hl : ∀ x, (row ++ [x]).length + k = many := fun x => by rw [List.length_append, List.length_singleton]; omega
    rw [rpR_s]
    refine itF_hit (P := Pnd many) (Q := Fnd many) (fun x b hb => ?_) (fun x b hb => ?_) (y := y) (fun b hb => ?_) _ _ _ (Nat.zero_le _) (by omega) hb
    · unfold chF
      cases e : apS C mo x with
      | none => exact hb
      | some m => exact rp_P hw k m _ b (hl x) hb
    · unfold chF
      cases e : apS C mo x with
      | none => exact hb
      | some m => exact rp_F hw k m _ b (hl x) hb
    · unfold chF
      rw [hm]
      have e := apS_br hm
      refine rp_hit hw k m _ b (fun x hx q => ?_) ?_ (hl y) hb
      · rw [e, b_and, Bool.and_eq_true] at q
        exact hbr x hx q.1
      · rw [e]
        have := popN_del (show y < 11 by omega) hyb
        omega
/-- what repair answers -/
noncomputable def repairB (C : cty) (mo : mty) (k : Nat) : bst := rpR C k mo [] (-1, [])
def RpA (C : cty) (mo : mty) (a b r : Int32) : Prop := (¬ ((1 ≤ a ∧ a ≤ 3) ∧ (0 ≤ b ∧ b ≤ a) ∧ a ≤ nI (popN mo.2.1)) ∧ r = -1) ∨ (((1 ≤ a ∧ a ≤ 3) ∧ (0 ≤ b ∧ b ≤ a) ∧ a ≤ nI (popN mo.2.1)) ∧ ((b = 0 ∧ r = (repairB C mo a.toNatClampNeg).1) ∨ (b ≠ 0 ∧ ∃ x, (repairB C mo a.toNatClampNeg).2[(b - 1).toNatClampNeg]? = some x ∧ r = nI x)))
theorem RpA_one {C : cty} {mo : mty} {a b r r' : Int32} (h : RpA C mo a b r) (h' : RpA C mo a b r') : r = r' := by
  rcases h with ⟨q, e⟩ | ⟨q, h⟩ <;> rcases h' with ⟨q', e'⟩ | ⟨q', h'⟩
  · exact e.trans e'.symm
  · exact absurd q' q
  · exact absurd q q'
  · rcases h with ⟨p, e⟩ | ⟨p, x, e1, e2⟩ <;> rcases h' with ⟨p', e'⟩ | ⟨p', x', e1', e2'⟩
    · exact e.trans e'.symm
    · exact absurd p p'
    · exact absurd p' p
    · rw [e1] at e1'
      rw [e2, e2', Option.some.inj e1']
