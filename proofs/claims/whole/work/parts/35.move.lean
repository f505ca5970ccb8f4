/-! the wall: going over -/
theorem sm_ind {n k : Nat} {v : Int} (hk : k < n) : sm n (fun i => if i = k then v else 0) = v := by
  have := sm_set (f := fun _ => 0) (v := v) hk
  rw [sm_0] at this
  omega
theorem rl_set {M : mm} {t o t2 o2 : Nat} {v : Int32} (ho : o < 10) (ho2 : o2 < 10) : rl (sI M 49 0 (t * 10 + o) v) t2 o2 = if t2 = t ∧ o2 = o then v.toInt else rl M t2 o2 := by
  unfold rl
  rw [rII]
  by_cases e : t2 = t ∧ o2 = o
  · rw [if_pos e, if_pos ⟨rfl, rfl, by rw [e.1, e.2]⟩]
  · rw [if_neg e, if_neg (fun q => e (by omega))]
theorem move1_ok {F : Nat} (hF : 1000 < F) {M0 M : mm} {s o : Nat} {l : List (Nat × Nat)} (hf : fr P3 M0 M) (hs : s < 11) (hw : Way M0 M s o l) (ho : o < 10) (hl : l.length ≤ 9) {x : Int32} (hx : 0 < x.toInt) :
    ok (lp (b_X9_moveOver_1 F (nI s) M) F (x, nI o, (0 : Int32))) (fun r => 0 < r.toInt ∧ r.toInt ≤ x.toInt ∧ ∀ e, e ∈ l → r.toInt ≤ rl M0 e.1 e.2) := by
  refine ok_lp (fun n y => ∃ (o' : Nat) (l' pre : List (Nat × Nat)) (i : Nat), n = l'.length ∧ y.2.1 = nI o' ∧ o' < 10 ∧ y.2.2 = nI i ∧ i + l'.length ≤ 9 ∧ Way M0 M s o' l' ∧ l = pre ++ l' ∧ 0 < y.1.toInt ∧ y.1.toInt ≤ x.toInt ∧ ∀ e, e ∈ pre → y.1.toInt ≤ rl M0 e.1 e.2) ?_ F l.length _ (by omega) ⟨o, l, [], 0, rfl, rfl, ho, rfl, by omega, hw, rfl, hx, Int.le_refl _, fun e h => by cases h⟩
  rintro n ⟨x2, x3, x4⟩ ⟨o', l', pre, i, hn, e2, ho', e3, hi, hW, hl', h1, h2, h3⟩
  dsimp only at e2 e3 h1 h2 h3
  subst e2; subst e3
  simp only [b_X9_moveOver_1, b_X9_moveOver_1c, ok_ite, ok_gi, ok_nm, nI_lit_le (show 11 < 2 ^ 31 by decide) (show i < 2 ^ 31 by omega), nI_clamp (show o' < 2 ^ 31 by omega)]
  refine ⟨fun hx => by omega, fun _ => ⟨vp_in_nI ho' (by decide), fun he => ?_, fun he => ⟨vp_in_nI ho' (by decide), ?_⟩⟩⟩
  · cases l' with
    | nil =>
      rw [ok_some]
      rw [List.append_nil] at hl'
      subst hl'
      exact ⟨h1, h2, h3⟩
    | cons e l' =>
      obtain ⟨t, o''⟩ := e
      obtain ⟨w1, w2, w3, -⟩ := hW
      rw [w1] at he
      exact absurd ((nI_eq (by omega) (by omega)).mp he) w3
  · cases l' with
    | nil => exact absurd hW.1 he
    | cons e l' =>
      obtain ⟨t, o''⟩ := e
      obtain ⟨w1, w2, w3, w4, w5, w6, w7, w8, w9, w10⟩ := hW
      have hload : M.1 49 0 (t * 10 + o'') = M0.1 49 0 (t * 10 + o'') := fr_I hf (by unfold P3; omega) _
      rw [w1]
      simp only [nI_clamp (show t < 2 ^ 31 by omega)]
      rw [w4]
      simp only [ix10, nI_clamp (show t * 10 + o'' < 2 ^ 31 by omega), ok_bd, ok_ite, ok_some, hload]
      rw [List.length_cons] at hi hn
      refine ⟨vp_in_nI w2 (by decide), vp_in_nI (by omega) (by decide), fun hc => ?_, fun hc => ?_⟩
      · refine ⟨l'.length, by omega, o'', l', pre ++ [(t, o'')], i + 1, rfl, rfl, w5, nI_1 i, by omega, w10, by rw [hl']; simp, h1, h2, fun e he => ?_⟩
        rcases List.mem_append.mp he with h | h
        · exact h3 e h
        · rw [List.mem_singleton] at h; subst h; rw [i_le] at hc; exact hc
      · rw [i_le] at hc
        have hc : rl M0 t o'' < x2.toInt := Int.not_le.mp hc
        refine ⟨l'.length, by omega, o'', l', pre ++ [(t, o'')], i + 1, rfl, rfl, w5, nI_1 i, by omega, w10, by rw [hl']; simp, w6, by unfold rl at hc; dsimp only; omega, fun e he => ?_⟩
        rcases List.mem_append.mp he with h | h
        · have := h3 e h; unfold rl at hc this ⊢; dsimp only; omega
        · rw [List.mem_singleton] at h; subst h; exact Int.le_refl _
def P1 : Nat → Nat → Prop := fun k _ => k = 49
/-- what lies on an oath, from the stones laid -/
def colM (M0 M : mm) (o : Nat) : Int := sm 11 (fun t => if wL M0 t then rl M t o else 0)
/-- between: a went over from the last oath o back to o' -/
def MI (M0 M : mm) (a : Int) (o o' : Nat) (pre : List (Nat × Nat)) : Prop :=
  fr P1 M0 M ∧ (∀ t, t < 11 → (∀ e, e ∈ pre → e.1 ≠ t) → ∀ x, x < 10 → rl M t x = rl M0 t x) ∧ (∀ t, t < 11 → sm 10 (rl M t) = sm 10 (rl M0 t)) ∧ (∀ x, x < 10 → colM M0 M x = colM M0 M0 x + (if x = o then a else 0) - (if x = o' then a else 0)) ∧ ∀ t, t < 11 → wL M0 t = true → ∀ x, x < 10 → 0 ≤ rl M t x ∧ (0 < rl M t x → wR M0 t x = true)
theorem MI_step {M0 M : mm} {a : Int32} {o o' t o'' : Nat} {pre : List (Nat × Nat)} (h : MI M0 M a.toInt o o' pre) (ha : 0 < a.toInt ∧ a.toInt ≤ 1000) (ht : t < 11) (ho' : o' < 10) (ho'' : o'' < 10) (hl : wL M0 t = true) (hr : wR M0 t o' = true) (hn : ∀ e, e ∈ pre → e.1 ≠ t) (hle : a.toInt ≤ rl M0 t o'') (hb : ∀ x, x < 10 → rl M0 t x ≤ 1000) :
    MI M0 (sI (sI M 49 0 (t * 10 + o') (M.1 49 0 (t * 10 + o') + a)) 49 0 (t * 10 + o'') ((sI M 49 0 (t * 10 + o') (M.1 49 0 (t * 10 + o') + a)).1 49 0 (t * 10 + o'') - a)) a.toInt o o'' (pre ++ [(t, o'')]) := by
  obtain ⟨h1, h2, h3, h4, h5⟩ := h
  have f1 : ∀ x, x < 10 → rl M t x = rl M0 t x := h2 t ht hn
  have v1 : (M.1 49 0 (t * 10 + o') + a).toInt = rl M t o' + a.toInt := by
    have b1 := hb o' ho'; have b2 := (h5 t ht hl o' ho').1; have b3 := f1 o' ho'
    unfold rl at b1 b2 b3 ⊢
    exact i_add (by omega) (by omega)
  have m1 : ∀ x, x < 10 → rl (sI M 49 0 (t * 10 + o') (M.1 49 0 (t * 10 + o') + a)) t x = rl M t x + if x = o' then a.toInt else 0 := by
    intro x hx
    rw [rl_set ho' hx, v1]
    by_cases e : x = o'
    · rw [if_pos ⟨rfl, e⟩, if_pos e, e]
    · rw [if_neg (fun q => e q.2), if_neg e]; omega
  have v2 : ((sI M 49 0 (t * 10 + o') (M.1 49 0 (t * 10 + o') + a)).1 49 0 (t * 10 + o'') - a).toInt = rl (sI M 49 0 (t * 10 + o') (M.1 49 0 (t * 10 + o') + a)) t o'' - a.toInt := by
    have b1 := hb o'' ho''; have b2 := (h5 t ht hl o'' ho'').1; have b3 := f1 o'' ho''; have b4 := m1 o'' ho''
    have b5 : rl (sI M 49 0 (t * 10 + o') (M.1 49 0 (t * 10 + o') + a)) t o'' ≤ 2000 ∧ 0 ≤ rl (sI M 49 0 (t * 10 + o') (M.1 49 0 (t * 10 + o') + a)) t o'' := by
      rw [b4]; split <;> omega
    unfold rl at b5 ⊢
    exact i_sub (by omega) (by omega)
  generalize hM1 : sI M 49 0 (t * 10 + o') (M.1 49 0 (t * 10 + o') + a) = M1 at m1 v2 ⊢
  have m2 : ∀ x, x < 10 → rl (sI M1 49 0 (t * 10 + o'') (M1.1 49 0 (t * 10 + o'') - a)) t x = rl M t x + (if x = o' then a.toInt else 0) - if x = o'' then a.toInt else 0 := by
    intro x hx
    rw [rl_set ho'' hx, v2]
    by_cases e : x = o''
    · rw [if_pos ⟨rfl, e⟩, if_pos e, e, m1 o'' ho'']
    · rw [if_neg (fun q => e q.2), if_neg e, m1 x hx]; omega
  have m3 : ∀ t2 x, x < 10 → t2 ≠ t → rl (sI M1 49 0 (t * 10 + o'') (M1.1 49 0 (t * 10 + o'') - a)) t2 x = rl M t2 x := by
    intro t2 x hx hne
    rw [rl_set ho'' hx, if_neg (fun q => hne q.1), ← hM1, rl_set ho' hx, if_neg (fun q => hne q.1)]
  have hf2 : fr P1 M0 (sI M1 49 0 (t * 10 + o'') (M1.1 49 0 (t * 10 + o'') - a)) := by
    subst hM1
    exact fr_sI (fr_sI h1 rfl) rfl
  refine ⟨hf2, fun t2 ht2 hp x hx => ?_, fun t2 ht2 => ?_, fun x hx => ?_, fun t2 ht2 hl2 x hx => ?_⟩
  · have hne : t2 ≠ t := fun e => hp (t, o'') (List.mem_append_right _ (List.mem_singleton.mpr rfl)) e.symm
    rw [m3 t2 x hx hne]
    exact h2 t2 ht2 (fun e he => hp e (List.mem_append_left _ he)) x hx
  · by_cases e : t2 = t
    · subst e
      rw [sm_c (g := fun x => rl M t2 x + (if x = o' then a.toInt else 0) - if x = o'' then a.toInt else 0) m2, sm_sub, sm_add, sm_ind ho', sm_ind ho'', ← h3 t2 ht2]
      omega
    · rw [← h3 t2 ht2]
      exact sm_c (fun x hx => m3 t2 x hx e)
  · have e1 : colM M0 (sI M1 49 0 (t * 10 + o'') (M1.1 49 0 (t * 10 + o'') - a)) x = sm 11 (fun t2 => (if wL M0 t2 then rl M t2 x else 0) + if t2 = t then ((if x = o' then a.toInt else 0) - if x = o'' then a.toInt else 0) else 0) := by
      unfold colM
      refine sm_c (fun t2 ht2 => ?_)
      by_cases e : t2 = t
      · subst e
        rw [if_pos rfl, if_pos hl, if_pos hl, m2 x hx]; omega
      · rw [if_neg e, m3 t2 x hx e]; omega
    rw [e1, sm_add, sm_ind ht]
    have e2 : sm 11 (fun t2 => if wL M0 t2 then rl M t2 x else 0) = colM M0 M x := rfl
    rw [e2, h4 x hx]
    omega
  · by_cases e : t2 = t
    · subst e
      rw [m2 x hx]
      have b1 := h5 t2 ht hl2 x hx
      have b2 := f1 x hx
      by_cases e1 : x = o' <;> by_cases e2 : x = o''
      · subst e1; subst e2; rw [if_pos rfl]; exact ⟨by omega, fun _ => hr⟩
      · subst e1; rw [if_pos rfl, if_neg e2]; exact ⟨by omega, fun _ => hr⟩
      · subst e2; rw [if_neg e1, if_pos rfl]; exact ⟨by omega, fun q => b1.2 (by omega)⟩
      · rw [if_neg e1, if_neg e2]; exact ⟨by omega, fun q => b1.2 (by omega)⟩
    · rw [m3 t2 x hx e]; exact h5 t2 ht2 hl2 x hx
theorem move2_ok {F : Nat} (hF : 1000 < F) {M0 Mw M : mm} {s o : Nat} {l : List (Nat × Nat)} (hs : s < 11) (hw : Way M0 Mw s o l) (hMw : ∀ k n i, k = 53 ∨ k = 54 → Mw.1 k n i = M0.1 k n i) (ho : o < 10) (hl : l.length ≤ 9) {a : Int32} (ha : 0 < a.toInt ∧ a.toInt ≤ 1000) (hle : ∀ e, e ∈ l → a.toInt ≤ rl M0 e.1 e.2) (hb : ∀ t x, t < 11 → x < 10 → wL M0 t = true → rl M0 t x ≤ 1000) (hI : MI M0 M a.toInt o o []) :
    ok (lp (b_X9_moveOver_2 F (nI s) a) F (nI o, (0 : Int32), M)) (fun r => ∃ o', r.1 = nI o' ∧ o' < 10 ∧ wR M0 s o' = true ∧ (∀ e, e ∈ l → e.1 ≠ s) ∧ MI M0 r.2 a.toInt o o' l) := by
  refine ok_lp (fun n y => ∃ (o' : Nat) (l' pre : List (Nat × Nat)) (i : Nat), n = l'.length ∧ y.1 = nI o' ∧ o' < 10 ∧ y.2.1 = nI i ∧ i + l'.length ≤ 9 ∧ Way M0 Mw s o' l' ∧ l = pre ++ l' ∧ (∀ e, e ∈ pre → e.1 ≠ s) ∧ (∀ e, e ∈ pre → ∀ e', e' ∈ l' → e.1 ≠ e'.1) ∧ MI M0 y.2.2 a.toInt o o' pre) ?_ F l.length _ (by omega) ⟨o, l, [], 0, rfl, rfl, ho, rfl, by omega, hw, rfl, fun e h => (by cases h), fun e h => (by cases h), hI⟩
  rintro n ⟨x11, x12, M13⟩ ⟨o', l', pre, i, hn, e1, ho', e2, hi, hW, hl', hps, hpd, hI'⟩
  dsimp only at e1 e2 hI'
  subst e1; subst e2
  have h53 : M13.1 53 0 o' = Mw.1 53 0 o' := (fr_I hI'.1 (by unfold P1; omega) o').trans (hMw 53 0 o' (Or.inl rfl)).symm
  simp only [b_X9_moveOver_2, b_X9_moveOver_2c, ok_ite, ok_gi, ok_nm, nI_lit_le (show 11 < 2 ^ 31 by decide) (show i < 2 ^ 31 by omega), nI_clamp (show o' < 2 ^ 31 by omega), h53]
  refine ⟨fun hx => by omega, fun _ => ⟨vp_in_nI ho' (by decide), fun he => ?_, fun he => ⟨vp_in_nI ho' (by decide), ?_⟩⟩⟩
  · cases l' with
    | nil =>
      rw [ok_some]
      rw [List.append_nil] at hl'
      subst hl'
      exact ⟨o', rfl, ho', hW.2, hps, hI'⟩
    | cons e l' =>
      obtain ⟨t, o''⟩ := e
      obtain ⟨w1, w2, w3, -⟩ := hW
      rw [w1] at he
      exact absurd ((nI_eq (by omega) (by omega)).mp he) w3
  · cases l' with
    | nil => exact absurd hW.1 he
    | cons e l' =>
      obtain ⟨t, o''⟩ := e
      obtain ⟨w1, w2, w3, w4, w5, w6, w7, w8, w9, w10⟩ := hW
      have h54 : M13.1 54 0 t = nI o'' := ((fr_I hI'.1 (by unfold P1; omega) t).trans (hMw 54 0 t (Or.inr rfl)).symm).trans w4
      rw [w1]
      simp only [ix10, nI_clamp (show t < 2 ^ 31 by omega), nI_clamp (show t * 10 + o' < 2 ^ 31 by omega)]
      have h54' : ∀ v, (sI M13 49 0 (t * 10 + o') v).1 54 0 t = nI o'' := fun v => by rw [rII, if_neg (by omega), h54]
      simp only [h54', ix10, nI_clamp (show t * 10 + o'' < 2 ^ 31 by omega), ok_some]
      rw [List.length_cons] at hi hn
      refine ⟨vp_in_nI (by omega) (by decide), vp_in_nI (by omega) (by decide), vp_in_nI w2 (by decide), vp_in_nI (by omega) (by decide), vp_in_nI (by omega) (by decide), ?_⟩
      refine ⟨l'.length, by omega, o'', l', pre ++ [(t, o'')], i + 1, rfl, rfl, w5, nI_1 i, by omega, w10, by rw [hl']; simp, fun e he => ?_, fun e he e' he' => ?_, ?_⟩
      · rcases List.mem_append.mp he with h | h
        · exact hps e h
        · rw [List.mem_singleton] at h; subst h; exact w3
      · rcases List.mem_append.mp he with h | h
        · exact hpd e h e' (List.mem_cons_of_mem _ he')
        · rw [List.mem_singleton] at h; subst h; exact fun q => w9 e' he' q.symm
      · exact MI_step hI' ha w2 ho' w5 w8 w7 (fun e he => hpd e he (t, o'') List.mem_cons_self) (hle (t, o'') (by rw [hl']; exact List.mem_append_right _ List.mem_cons_self)) (fun x hx => hb t x w2 hx w8)
