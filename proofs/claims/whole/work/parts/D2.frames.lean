/-! what waits, and its frames: the two readings of a law have one value -/
def adJ (x u : Int32) (f : wfr) : wfr := if rkN x = 4 then (f.1, f.2.1, f.2.2.1, f.2.2.2.1, some u) else if rkN x = 3 then (f.1, f.2.1, f.2.2.1, some (u, jc x), none) else if rkN x = 2 then (f.1, f.2.1, some (u, jc x), none, none) else (f.1, some (u, jc x), none, none, none)
def RF : List Int32 → List Int32 → List wfr → Prop
  | [], st, fs => st = [] ∧ fs = [fresh0 0]
  | x :: w, st, fs => if x = -5 then ∃ g, fs = fresh0 1 :: g ∧ RF w st g else if x = -13 then ∃ g, fs = fresh0 0 :: g ∧ RF w st g else ∃ u st' f g, st = u :: st' ∧ fs = adJ x u f :: g ∧ RF w st' (f :: g)
def cut (r : Nat) (f : wfr) : wfr := (f.1, if r ≤ 1 then none else f.2.1, if r ≤ 2 then none else f.2.2.1, if r ≤ 3 then none else f.2.2.2.1, if r ≤ 4 then none else f.2.2.2.2)
def cutV (r : Nat) (f : wfr) (v : Int32) : Int32 := if r ≤ 1 then kpV f v else if r ≤ 2 then agV f v else if r ≤ 3 then svV f v else if r ≤ 4 then tvV f v else v
theorem rk_c {x : Int32} (h : 1 ≤ rkN x) : x = -12 ∨ x = -11 ∨ x = -10 ∨ x = -9 ∨ x = -8 ∨ x = -7 ∨ x = -6 := by
  unfold rkN at h
  by_cases q1 : x = -12
  · exact Or.inl q1
  by_cases q2 : x = -11
  · exact Or.inr (Or.inl q2)
  by_cases q3 : x = -10
  · exact Or.inr (Or.inr (Or.inl q3))
  by_cases q4 : x = -9
  · exact Or.inr (Or.inr (Or.inr (Or.inl q4)))
  by_cases q5 : x = -8
  · exact Or.inr (Or.inr (Or.inr (Or.inr (Or.inl q5))))
  by_cases q6 : x = -7
  · exact Or.inr (Or.inr (Or.inr (Or.inr (Or.inr (Or.inl q6)))))
  by_cases q7 : x = -6
  · exact Or.inr (Or.inr (Or.inr (Or.inr (Or.inr (Or.inr q7)))))
  rw [if_neg q1, if_neg q2, if_neg q3, if_neg q4, if_neg q5, if_neg q6, if_neg q7] at h
  omega
theorem pev_app (b y k a : Int32) (cs : List Int32) (c : Int32) : pev b y k a (cs ++ [c]) = pstep b y k a (pev b y k a cs) c := by
  unfold pev
  rw [List.foldl_append]; rfl
theorem cut_v {r : Nat} (hr : 1 ≤ r) {f : wfr} {v : Int32} (h : cut r f = f) : cutV r f v = v := by
  obtain ⟨n, kp, ag, sm, tm⟩ := f
  simp only [cut, Prod.mk.injEq, true_and] at h
  obtain ⟨h1, h2, h3, h4⟩ := h
  unfold cutV
  by_cases q1 : r ≤ 1
  · rw [if_pos q1] at h1 ⊢
    rw [if_pos (by omega)] at h2 h3 h4
    subst h1; subst h2; subst h3; subst h4; rfl
  rw [if_neg q1]
  by_cases q2 : r ≤ 2
  · rw [if_pos q2] at h2 ⊢
    rw [if_pos (by omega)] at h3 h4
    subst h2; subst h3; subst h4; rfl
  rw [if_neg q2]
  by_cases q3 : r ≤ 3
  · rw [if_pos q3] at h3 ⊢
    rw [if_pos (by omega)] at h4
    subst h3; subst h4; rfl
  rw [if_neg q3]
  by_cases q4 : r ≤ 4
  · rw [if_pos q4] at h4 ⊢
    subst h4; rfl
  rw [if_neg q4]
theorem cut_mono {r r' : Nat} (hr : r ≤ r') {f : wfr} (h : cut r f = f) : cut r' f = f := by
  obtain ⟨n, kp, ag, sm, tm⟩ := f
  simp only [cut, Prod.mk.injEq, true_and] at h ⊢
  obtain ⟨h1, h2, h3, h4⟩ := h
  refine ⟨?_, ?_, ?_, ?_⟩
  · by_cases q : r' ≤ 1
    · rw [if_pos q]; rw [if_pos (by omega)] at h1; exact h1
    · rw [if_neg q]
  · by_cases q : r' ≤ 2
    · rw [if_pos q]; rw [if_pos (by omega)] at h2; exact h2
    · rw [if_neg q]
  · by_cases q : r' ≤ 3
    · rw [if_pos q]; rw [if_pos (by omega)] at h3; exact h3
    · rw [if_neg q]
  · by_cases q : r' ≤ 4
    · rw [if_pos q]; rw [if_pos (by omega)] at h4; exact h4
    · rw [if_neg q]
theorem cut_fresh (r : Nat) (n : Int32) : cut r (fresh0 n) = fresh0 n := by
  unfold cut fresh0
  simp
theorem cut_adJ {x u : Int32} {f : wfr} (h : 1 ≤ rkN x) : cut (rkN x + 1) (adJ x u f) = adJ x u f := by
  rcases rk_c h with e | e | e | e | e | e | e <;> (subst e; rfl)
theorem adJ_1 (x u : Int32) (f : wfr) : (adJ x u f).1 = f.1 := by
  unfold adJ
  repeat' split
  all_goals rfl
theorem r_cases {r : Nat} (h : 1 ≤ r) (h4 : r ≤ 4) : r = 1 ∨ r = 2 ∨ r = 3 ∨ r = 4 := by omega
theorem cut_j4 {r : Nat} {u v : Int32} {f : wfr} (hr : 1 ≤ r) (hx : r ≤ 4) (hf : cut 4 f = f) : cutV r (adJ (-12) u f) v = cutV r f (u * v) ∧ cut r (adJ (-12) u f) = cut r f := by
  obtain ⟨n, kp, ag, sm, tm⟩ := f
  simp only [cut, Prod.mk.injEq, true_and] at hf
  obtain ⟨-, -, -, h4⟩ := hf
  rw [if_pos (by decide)] at h4
  subst h4
  rcases r_cases hr hx with e | e | e | e <;> (subst e; exact ⟨rfl, rfl⟩)
theorem cut_j3 {r : Nat} {x u v : Int32} {f : wfr} (hx : x = -11 ∨ x = -10) (hr : 1 ≤ r) (h3 : r ≤ 3) (hf : cut 3 f = f) : cutV r (adJ x u f) v = cutV r f (joinV x u v) ∧ cut r (adJ x u f) = cut r f := by
  obtain ⟨n, kp, ag, sm, tm⟩ := f
  simp only [cut, Prod.mk.injEq, true_and] at hf
  obtain ⟨-, -, h3', h4⟩ := hf
  rw [if_pos (by decide)] at h4 h3'
  subst h4; subst h3'
  have hr' : r = 1 ∨ r = 2 ∨ r = 3 := by omega
  rcases hx with e | e <;> subst e <;> rcases hr' with e | e | e <;> (subst e; exact ⟨rfl, rfl⟩)
theorem cut_j2 {r : Nat} {x u v : Int32} {f : wfr} (hx : x = -9 ∨ x = -8) (hr : 1 ≤ r) (h3 : r ≤ 2) (hf : cut 2 f = f) : cutV r (adJ x u f) v = cutV r f (joinV x u v) ∧ cut r (adJ x u f) = cut r f := by
  obtain ⟨n, kp, ag, sm, tm⟩ := f
  simp only [cut, Prod.mk.injEq, true_and] at hf
  obtain ⟨-, h2', h3', h4⟩ := hf
  rw [if_pos (by decide)] at h4 h3' h2'
  subst h4; subst h3'; subst h2'
  have hr' : r = 1 ∨ r = 2 := by omega
  rcases hx with e | e <;> subst e <;> rcases hr' with e | e <;> (subst e; exact ⟨rfl, rfl⟩)
theorem cut_j1 {r : Nat} {x u v : Int32} {f : wfr} (hx : x = -7 ∨ x = -6) (hr : r = 1) (hf : cut 1 f = f) : cutV r (adJ x u f) v = cutV r f (joinV x u v) ∧ cut r (adJ x u f) = cut r f := by
  obtain ⟨n, kp, ag, sm, tm⟩ := f
  simp only [cut, Prod.mk.injEq, true_and] at hf
  obtain ⟨h1', h2', h3', h4⟩ := hf
  rw [if_pos (by decide)] at h4 h3' h2' h1'
  subst h4; subst h3'; subst h2'; subst h1'; subst hr
  rcases hx with e | e <;> (subst e; exact ⟨rfl, rfl⟩)
theorem cut_j {r : Nat} {x u v : Int32} {f : wfr} (hr : 1 ≤ r) (hx : r ≤ rkN x) (hf : cut (rkN x) f = f) : cutV r (adJ x u f) v = cutV r f (joinV x u v) ∧ cut r (adJ x u f) = cut r f := by
  rcases rk_c (show 1 ≤ rkN x by omega) with e | e | e | e | e | e | e
  · subst e; exact cut_j4 hr hx hf
  · subst e; exact cut_j3 (Or.inl rfl) hr hx hf
  · subst e; exact cut_j3 (Or.inr rfl) hr hx hf
  · subst e; exact cut_j2 (Or.inl rfl) hr hx hf
  · subst e; exact cut_j2 (Or.inr rfl) hr hx hf
  · subst e; exact cut_j1 (Or.inl rfl) (Nat.le_antisymm hx hr) hf
  · subst e; exact cut_j1 (Or.inr rfl) (Nat.le_antisymm hx hr) hf
theorem RF_5 {w st : List Int32} {fs : List wfr} : RF ((-5) :: w) st fs ↔ ∃ g, fs = fresh0 1 :: g ∧ RF w st g := by
  show (if (-5 : Int32) = -5 then _ else _) ↔ _
  rw [if_pos rfl]
theorem RF_13 {w st : List Int32} {fs : List wfr} : RF ((-13) :: w) st fs ↔ ∃ g, fs = fresh0 0 :: g ∧ RF w st g := by
  show (if (-13 : Int32) = -5 then _ else _) ↔ _
  rw [if_neg (by decide), if_pos rfl]
theorem RF_j {x : Int32} {w st : List Int32} {fs : List wfr} (h : 1 ≤ rkN x) : RF (x :: w) st fs ↔ ∃ u st' f g, st = u :: st' ∧ fs = adJ x u f :: g ∧ RF w st' (f :: g) := by
  have a : ¬ x = -5 := fun e => by rw [e] at h; exact absurd h (by decide)
  have b : ¬ x = -13 := fun e => by rw [e] at h; exact absurd h (by decide)
  show (if x = -5 then _ else _) ↔ _
  rw [if_neg a, if_neg b]
/-- each element is a not, a bracket or a joint -/
theorem srt_c {x : Int32} {w : List Int32} (h : lSrt (x :: w)) : x = -5 ∨ x = -13 ∨ (1 ≤ rkN x ∧ lHd w < rkN x) := by
  rcases h.1 with e | e | ⟨e, e2⟩
  · exact Or.inl e
  · exact Or.inr (Or.inl e)
  · refine Or.inr (Or.inr ⟨e, ?_⟩)
    cases w with
    | nil => exact e
    | cons d w => exact e2
theorem RF_len : ∀ (w st : List Int32) (fs : List wfr), lSrt w → RF w st fs → fs.length = lZ w + 1 ∧ st.length ≤ w.length
  | [], st, fs, _, h => by rw [h.1, h.2]; exact ⟨rfl, Nat.le_refl _⟩
  | x :: w, st, fs, hs, h => by
    rw [lZ_cons, List.length_cons]
    rcases srt_c hs with e | e | ⟨e, -⟩
    · subst e
      obtain ⟨g, rfl, h2⟩ := RF_5.mp h
      obtain ⟨a, b⟩ := RF_len w st g hs.2 h2
      rw [List.length_cons, if_pos (by decide)]
      exact ⟨by omega, by omega⟩
    · subst e
      obtain ⟨g, rfl, h2⟩ := RF_13.mp h
      obtain ⟨a, b⟩ := RF_len w st g hs.2 h2
      rw [List.length_cons, if_pos (by decide)]
      exact ⟨by omega, by omega⟩
    · obtain ⟨u, st', f, g, rfl, rfl, h2⟩ := (RF_j e).mp h
      obtain ⟨a, b⟩ := RF_len w st' (f :: g) hs.2 h2
      rw [List.length_cons] at a ⊢
      rw [List.length_cons, if_neg (by omega)]
      exact ⟨by omega, by omega⟩
theorem RF_cut : ∀ (w st : List Int32) (f : wfr) (g : List wfr), lSrt w → RF w st (f :: g) → cut (lHd w + 1) f = f
  | [], st, f, g, _, h => by
    have := h.2
    rw [List.cons.injEq] at this
    rw [this.1]; exact cut_fresh _ _
  | x :: w, st, f, g, hs, h => by
    rcases srt_c hs with e | e | ⟨e, -⟩
    · subst e
      obtain ⟨g', q, h2⟩ := RF_5.mp h
      rw [List.cons.injEq] at q
      rw [q.1]; exact cut_fresh _ _
    · subst e
      obtain ⟨g', q, h2⟩ := RF_13.mp h
      rw [List.cons.injEq] at q
      rw [q.1]; exact cut_fresh _ _
    · obtain ⟨u, st', f', g', -, q, h2⟩ := (RF_j e).mp h
      rw [List.cons.injEq] at q
      rw [q.1]; exact cut_adJ e
theorem RF_hd : ∀ (w st : List Int32) (f : wfr) (g : List wfr), lSrt w → lNn w → w.head? ≠ some (-5) → RF w st (f :: g) → f.1 ≠ 1
  | [], st, f, g, _, _, _, h => by
    have := h.2
    rw [List.cons.injEq] at this
    rw [this.1]; decide
  | x :: w, st, f, g, hs, hn, hh, h => by
    rcases srt_c hs with e | e | ⟨e, -⟩
    · exact absurd (by rw [e]; rfl) hh
    · subst e
      obtain ⟨g', q, h2⟩ := RF_13.mp h
      rw [List.cons.injEq] at q
      rw [q.1]; decide
    · obtain ⟨u, st', f', g', -, q, h2⟩ := (RF_j e).mp h
      rw [List.cons.injEq] at q
      rw [q.1, adJ_1]
      refine RF_hd w st' f' g' hs.2 (lNn_t hn) ?_ h2
      cases w with
      | nil => exact fun r => by cases r
      | cons y w =>
        rcases hn.1 with r | r | r
        · rw [r] at e; exact absurd e (by decide)
        · rw [r] at e; exact absurd e (by decide)
        · exact fun z => r (Option.some.inj z)
/-- what is settled: its value, its frame -/
theorem RF_set {b y k a : Int32} {r : Nat} (hr : 1 ≤ r) : ∀ (w cs st : List Int32) (f : wfr) (g : List wfr) (v : Int32), lSrt w → RF w st (f :: g) → pev b y k a cs = v :: st → ∃ st', RF (lSet r cs w).2 st' (cut r f :: g) ∧ pev b y k a (lSet r cs w).1 = cutV r f v :: st'
  | [], cs, st, f, g, v, _, h, hp => by
    have e := h.2
    rw [List.cons.injEq] at e
    refine ⟨st, ?_, ?_⟩
    · show RF [] st (cut r f :: g)
      rw [e.1, e.2, cut_fresh]; exact ⟨h.1, rfl⟩
    · show pev b y k a cs = _
      rw [hp, cut_v hr (by rw [e.1]; exact cut_fresh _ _)]
  | x :: w, cs, st, f, g, v, hs, h, hp => by
    have e : lSet r cs (x :: w) = if rkN x < r then (cs, x :: w) else lSet r (cs ++ [x]) w := rfl
    rw [e]
    by_cases q : rkN x < r
    · rw [if_pos q]
      have hc : cut r f = f := cut_mono (r := lHd (x :: w) + 1) (show rkN x + 1 ≤ r from q) (RF_cut _ _ _ _ hs h)
      exact ⟨st, by rw [hc]; exact h, by rw [cut_v hr hc]; exact hp⟩
    · rw [if_neg q]
      have hx : 1 ≤ rkN x := by omega
      obtain ⟨u, st', f', g', rfl, q2, h2⟩ := (RF_j hx).mp h
      rw [List.cons.injEq] at q2
      obtain ⟨rfl, rfl⟩ := q2
      have hlt : lHd w < rkN x := by
        rcases srt_c hs with z | z | z
        · rw [z] at hx; exact absurd hx (by decide)
        · rw [z] at hx; exact absurd hx (by decide)
        · exact z.2
      have hf : cut (rkN x) f' = f' := cut_mono hlt (RF_cut _ _ _ _ hs.2 h2)
      obtain ⟨c1, c2⟩ := cut_j (u := u) (v := v) hr (by omega) hf
      rw [c1, c2]
      refine RF_set hr w (cs ++ [x]) st' f' g (joinV x u v) hs.2 h2 ?_
      rw [pev_app, hp, pstep_join]
      rcases rk_c hx with z | z | z | z | z | z | z <;> (rw [z]; decide)
/-- what ends with a part -/
theorem RF_end {b y k a : Int32} : ∀ (w cs st : List Int32) (fs : List wfr) (v : Int32), lSrt w → lNn w → RF w st fs → pev b y k a cs = v :: st → ∃ fs' v', aPart fs v = some (fs', some v') ∧ RF (lEnd cs w).2 st fs' ∧ pev b y k a (lEnd cs w).1 = v' :: st
  | [], cs, st, fs, v, _, _, h, hp => by
    rw [h.2]
    exact ⟨_, v, rfl, ⟨h.1, rfl⟩, hp⟩
  | x :: w, cs, st, fs, v, hs, hn, h, hp => by
    by_cases q : x = -5
    · subst q
      obtain ⟨g, rfl, h2⟩ := RF_5.mp h
      have e : lEnd cs ((-5) :: w) = lEnd (cs ++ [-5]) w := if_pos rfl
      have hl := (RF_len w st g hs.2 h2).1
      cases g with
      | nil => rw [List.length_nil] at hl; omega
      | cons g1 g2 =>
        rw [e]
        have ea : aPart (fresh0 1 :: g1 :: g2) v = aPart (g1 :: g2) (notV v) := if_pos rfl
        rw [ea]
        exact RF_end w (cs ++ [-5]) st (g1 :: g2) (notV v) hs.2 (lNn_t hn) h2 (by rw [pev_app, hp, pstep_not rfl]; rfl)
    · have e : lEnd cs (x :: w) = (cs, x :: w) := if_neg q
      rw [e]
      have hl := (RF_len (x :: w) st fs hs h).1
      cases fs with
      | nil => rw [List.length_nil] at hl; omega
      | cons f g =>
        refine ⟨f :: g, v, ?_, h, hp⟩
        cases g with
        | nil => rfl
        | cons g1 g2 =>
          have hf := RF_hd _ _ _ _ hs hn (fun z => q (Option.some.inj z)) h
          exact if_neg hf
