/-! the class's repair -/
theorem weightUp_ok {F : Nat} (hF : 1000 < F) {C : cty} {o : Nat} {M : mm} {up : Int32} (hw : WF C) (h : CS C o M) : ok (m_X0_weightOf F o up M) (fun r => r = (wtS C up, M)) := by
  have hS := hw.1.2.2.1
  unfold m_X0_weightOf
  rw [ok_bd]
  refine ok_mono (Q := fun v => v = wtS C up) ?_ (fun v hv => by subst hv; exact ok_some.mpr rfl)
  refine ok_for (cS C) (fun k z => z.2 = nI k ∧ z.1 = wtN C up k) 0 (by omega) (by omega) ⟨rfl, rfl⟩ ?_
  rintro k ⟨x1, x2⟩ hk ⟨e1, e2⟩
  dsimp only at e1 e2
  subst e1 e2
  simp only [b_X0_weightOf_1, b_X0_weightOf_1c]
  rw [h.1.1.1.2.2.1, ok_ite, nI_leI (by omega) (by omega)]
  refine ⟨fun q => ok_some.mpr ?_, fun q => ?_⟩
  · have : k = cS C := by omega
    subst this; rfl
  rw [ok_bd]
  refine ok_mono (Q := fun v => v = if bt up k = true then cF C 8 k else 0) ?_ (fun v hv => by subst hv; rw [ok_nm]; exact ok_some.mpr ⟨by omega, nI_1 k, rfl⟩)
  rw [ok_ite, b_bit0 _ (show k < 32 by omega)]
  refine ⟨fun q2 => ok_some.mpr (by rw [if_neg (by rw [q2]; decide)]), fun q2 => ?_⟩
  rw [ok_gi, ok_some, nI_clamp (by omega), if_pos (by simpa using q2)]
  exact ⟨vp_in_nI (by omega) (by decide), (h.1.1.2.2.2.1 k (by omega)).1⟩
theorem apologise_ok {F : Nat} (hF : 2000 < F) {C : cty} {o d x Y : Nat} {M : mm} {mo : mty} (hY : Y + 1 < 2 ^ 31) (hw : WF C) (h : CS C o M) (hd : d ≤ 2) (hm : MoM (3 + d) M mo) (hg : MG C mo Y) (hx : M.1 43 0 d = nI x) :
    ok (m_X7_apologise F o (nI d) M) (fun r => r.1 = (apS C mo x).isSome ∧ CS C o r.2 ∧ (∀ m, apS C mo x = some m → MoM (3 + (d + 1)) r.2 m) ∧ fr (PE o (3 + (d + 1))) M r.2) := by
  have hS := hw.1.2.2.1
  unfold m_X7_apologise
  have e1 : (nI d + 1).toNatClampNeg = d + 1 := by rw [nI_1]; exact nI_clamp (by omega)
  rw [ok_gi, ok_nm, ok_gi, e1, nI_clamp (by omega), nI_1, ok_cv]
  refine ⟨vp_in_nI (by omega) (by decide), vp_in_nI (by omega) (by decide), ?_⟩
  refine ok_mono (copy_ok (a := 3 + d) (b := 3 + (d + 1)) hm (by omega)) (fun M2 h2 => ?_)
  obtain ⟨m2, f2⟩ := h2
  have c2 : CS C o M2 := CS_5 h f2
  have x2 : M2.1 43 0 d = nI x := (fr_I f2 (by omega) d).trans hx
  rw [ok_gi, ok_cb, x2]
  refine ⟨vp_in_nI (by omega) (by decide), ?_⟩
  refine ok_mono (pardon_ok (Y := Y) hF (by omega) hw c2 m2 hg) (fun r hr => ?_)
  obtain ⟨b4, M3⟩ := r
  obtain ⟨r1, r2, r3, r4⟩ := hr
  dsimp only at r1 r2 r3 r4 ⊢
  have f3 : fr (PE o (3 + (d + 1))) M M3 := fr_tr (fr_mono f2 (fun k n q => Or.inr q)) r4
  rw [ok_ite, r1]
  cases e : pardonS C mo (nI x) with
  | none =>
    have ea : apS C mo x = none := by unfold apS; rw [e]
    rw [ea]
    exact ⟨fun q => (by cases q), fun _ => ok_some.mpr ⟨rfl, r2, fun m q => (by cases q), f3⟩⟩
  | some m' =>
    have ea : apS C mo x = some (passS C (raiseN C m' (cS C))) := by unfold apS; rw [e]
    obtain ⟨pg, ps⟩ := pardonS_g hw hg e
    rw [e] at r3
    have r3 : MoM (3 + (d + 1)) M3 m' := r3
    refine ⟨fun _ => ?_, fun q => absurd rfl q⟩
    rw [ok_bd]
    refine ok_mono (Q := fun M' => CS C o M' ∧ MoM (3 + (d + 1)) M' (raiseN C m' (cS C)) ∧ fr (PE o (3 + (d + 1))) M M') ?_ (fun M9 h9 => ?_)
    · refine ok_for (cS C) (fun i z => z.1 = nI i ∧ CS C o z.2 ∧ MoM (3 + (d + 1)) z.2 (raiseN C m' i) ∧ fr (PE o (3 + (d + 1))) M z.2) 0 (by omega) (by omega) ⟨rfl, r2, r3, f3⟩ ?_
      rintro i ⟨x5, M6⟩ hi ⟨e1, c6, m6, f6⟩
      dsimp only at e1 c6 m6 f6
      subst e1
      simp only [b_X7_apologise_1, b_X7_apologise_1c]
      rw [c6.1.1.1.2.2.1, ok_ite, nI_leI (by omega) (by omega)]
      refine ⟨fun q => ok_some.mpr ?_, fun q => ?_⟩
      · have : i = cS C := by omega
        subst this
        exact ⟨c6, m6, f6⟩
      rw [ok_cb]
      refine ok_mono (lift_ok (Y := Y) hF (by omega) hw c6 m6 (raiseN_g hw pg ps i).1) (fun r hr => ok_some.mpr ?_)
      exact ⟨by omega, nI_1 i, hr.2.1, hr.2.2.1, fr_tr f6 hr.2.2.2⟩
    · obtain ⟨c9, m9, f9⟩ := h9
      rw [ok_cv]
      refine ok_mono (pass_ok (Y := Y) hF hY hw c9 m9 (raiseN_g hw pg ps (cS C)).1) (fun M10 h10 => ok_some.mpr ?_)
      rw [ea]
      refine ⟨rfl, h10.1, fun m q => ?_, fr_tr f9 h10.2.2⟩
      rw [← Option.some.inj q]; exact h10.2.1
def tuW (C : cty) : Nat → Nat
  | 0 => 0
  | k + 1 => cO C * (1 + tuW C k) + 1
theorem tuW_b {C : cty} (hO : cO C ≤ 10) : tuW C 3 ≤ 1221 := by
  have e1 : tuW C 1 = cO C * 1 + 1 := rfl
  have e2 : tuW C 2 = cO C * (1 + tuW C 1) + 1 := rfl
  have e3 : tuW C 3 = cO C * (1 + tuW C 2) + 1 := rfl
  have h1 : tuW C 1 ≤ 11 := by omega
  have h2 : cO C * (1 + tuW C 1) ≤ 10 * 12 := Nat.mul_le_mul hO (by omega)
  have h3 : cO C * (1 + tuW C 2) ≤ 10 * 122 := Nat.mul_le_mul hO (by omega)
  omega
theorem tuW_m {C : cty} {k : Nat} (hk : k ≤ 3) : tuW C k ≤ tuW C 3 := by
  have step : ∀ n, tuW C n ≤ tuW C (n + 1) := fun n => by
    induction n with
    | zero => exact Nat.zero_le _
    | succ n ih =>
      show cO C * (1 + tuW C n) + 1 ≤ cO C * (1 + tuW C (n + 1)) + 1
      have := Nat.mul_le_mul_left (cO C) (show 1 + tuW C n ≤ 1 + tuW C (n + 1) by omega)
      omega
  have a : tuW C 0 ≤ tuW C 1 := step 0
  have b : tuW C 1 ≤ tuW C 2 := step 1
  have c : tuW C 2 ≤ tuW C 3 := step 2
  rcases (show k = 0 ∨ k = 1 ∨ k = 2 ∨ k = 3 by omega) with rfl | rfl | rfl | rfl <;> omega
def msT (C : cty) (k x : Nat) : Nat := (cO C - x) * (1 + tuW C k) + 1
abbrev fty : Type := List (mty × Nat)
def msF (C : cty) (many : Nat) : fty → Nat
  | [] => 0
  | e :: fs => msT C (many - fs.length - 1) (e.2 + 1) + msF C many fs
def rowOf : fty → List Nat
  | [] => []
  | e :: fs => rowOf fs ++ [e.2]
noncomputable def ctF (C : cty) (many : Nat) : fty → bst → bst
  | [], b => b
  | e :: fs, b => ctF C many fs (itF (chF C (many - fs.length - 1) e.1 (rowOf fs)) (cO C - (e.2 + 1)) (e.2 + 1) b)
def FrI (C : cty) (Y : Nat) (M : mm) : fty → Prop
  | [] => True
  | e :: fs => (MoM (3 + fs.length) M e.1 ∧ MG C e.1 (Y + fs.length) ∧ M.1 43 0 fs.length = nI e.2 ∧ e.2 < cO C) ∧ FrI C Y M fs
theorem FrI_c {C : cty} {Y : Nat} {M M' : mm} : ∀ fs : fty, FrI C Y M fs → (∀ n j, 3 ≤ n → n < 3 + fs.length → M'.1 5 n j = M.1 5 n j) → (∀ i, i < fs.length → M'.1 43 0 i = M.1 43 0 i) → FrI C Y M' fs
  | [], _, _, _ => trivial
  | e :: fs, h, h5, h43 => by
    obtain ⟨⟨a, b, c, d⟩, r⟩ := h
    have hl : (e :: fs).length = fs.length + 1 := rfl
    exact ⟨⟨MoM_c a (fun j _ => h5 _ j (by omega) (by omega)), b, by rw [h43 _ (by omega)]; exact c, d⟩, FrI_c fs r (fun n j h1 h2 => h5 n j h1 (by omega)) (fun i hi => h43 i (by omega))⟩
theorem rowOf_len : ∀ fs : fty, (rowOf fs).length = fs.length
  | [] => rfl
  | e :: fs => by
    show (rowOf fs ++ [e.2]).length = fs.length + 1
    rw [List.length_append, List.length_singleton, rowOf_len fs]
theorem rowOf_m {C : cty} {Y : Nat} {M : mm} : ∀ fs : fty, FrI C Y M fs → ∀ i x, (rowOf fs)[i]? = some x → M.1 43 0 i = nI x
  | [], _, i, x, h => by simp [rowOf] at h
  | e :: fs, h, i, x, hi => by
    obtain ⟨⟨a, b, c, d⟩, r⟩ := h
    have hi : (rowOf fs ++ [e.2])[i]? = some x := hi
    rcases getq_snoc hi with ⟨p, q⟩ | ⟨p, q⟩
    · exact rowOf_m fs r i x q
    · rw [p, rowOf_len, q]; exact c
def BeM (b : bst) (M : mm) : Prop := M.1 8 0 5 = b.1 ∧ ∀ i x, b.2[i]? = some x → M.1 44 0 i = nI x
theorem BeM_c {b : bst} {M M' : mm} (h : BeM b M) (e8 : M'.1 8 0 5 = M.1 8 0 5) (e44 : ∀ i, M'.1 44 0 i = M.1 44 0 i) : BeM b M' :=
  ⟨e8.trans h.1, fun i x q => (e44 i).trans (h.2 i x q)⟩
theorem preferRow_ok {F : Nat} (hF : 1000 < F) {M : mm} {w : Int32} {row : List Nat} {b : bst} {many : Nat} (hm : many ≤ 3) (hl : row.length = many) (hr : ∀ i x, row[i]? = some x → M.1 43 0 i = nI x) (hb : BeM b M) :
    ok (m_X7_preferRow F w (nI many) M) (fun M' => BeM (if b.1 < w then (w, row) else b) M' ∧ fi (fun k _ i => k = 44 ∨ (k = 8 ∧ i = 5)) M M') := by
  unfold m_X7_preferRow
  rw [ok_ite, hb.1]
  refine ⟨fun q => ok_some.mpr ⟨by rw [if_neg (by simp only [i_lt, i_le] at q ⊢; omega)]; exact hb, fi_rf⟩, fun q => ?_⟩
  rw [if_pos (by simp only [i_lt, i_le] at q ⊢; omega), ok_nm, ok_bd]
  have f1 : fi (fun k _ i => k = 44 ∨ (k = 8 ∧ i = 5)) M (sI M 8 0 5 w) := fi_sI fi_rf (Or.inr ⟨rfl, rfl⟩)
  have v1 : (sI M 8 0 5 w).1 8 0 5 = w := by rw [rII, if_pos ⟨rfl, rfl, rfl⟩]
  have v43 : ∀ i, (sI M 8 0 5 w).1 43 0 i = M.1 43 0 i := fun i => by rw [rII, if_neg (by omega)]
  generalize sI M 8 0 5 w = M1 at f1 v1 v43 ⊢
  refine ok_mono (Q := fun M' => fi (fun k _ _ => k = 44) M1 M' ∧ ∀ j, j < many → M'.1 44 0 j = M1.1 43 0 j) ?_ (fun M5 h5 => ok_some.mpr ⟨⟨(fi_I h5.1 (by omega)).trans v1, fun i x hi => ?_⟩, fi_tr f1 (fi_mono h5.1 (fun k n i q => Or.inl q))⟩)
  · refine ok_for many (fun i z => z.1 = nI i ∧ fi (fun k _ _ => k = 44) M1 z.2 ∧ ∀ j, j < i → z.2.1 44 0 j = M1.1 43 0 j) 0 (by omega) (by omega) ⟨rfl, fi_rf, fun j hj => by omega⟩ ?_
    rintro i ⟨x1, M4⟩ hi ⟨e1, f4, v4⟩
    dsimp only at e1 f4 v4
    subst e1
    simp only [b_X7_preferRow_1, b_X7_preferRow_1c]
    rw [ok_ite, nI_leI (by omega) (by omega)]
    refine ⟨fun q => ok_some.mpr ⟨f4, fun j hj => v4 j (by omega)⟩, fun q => ?_⟩
    have hin : vp_in (nI i) 3 := vp_in_nI (by omega) (by decide)
    rw [ok_gi, ok_gi, ok_nm, ok_some, nI_clamp (by omega)]
    refine ⟨hin, hin, by omega, nI_1 i, fi_sI f4 rfl, fun j hj => ?_⟩
    dsimp only
    rw [rII]
    by_cases e : j = i
    · rw [if_pos ⟨rfl, rfl, e⟩, fi_I f4 (by omega), e]
    · rw [if_neg (fun q => e q.2.2)]; exact v4 j (by omega)
  · have : i < row.length := (List.getElem?_eq_some_iff.mp hi).1
    rw [h5.2 i (by omega), v43]; exact hr i x hi
