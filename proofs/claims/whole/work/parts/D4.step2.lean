/-! the two readers of a law side by side: a joint's step -/
theorem mJnt_41 {T : List Int32} {p : Nat} {s : mst} (h : isS T p 41 = true) : mJnt T p s = if s.2.1.length ≤ 1 then .inl 0 else .inr (s.1 ++ [29], lPop s.2.1.tail, false) := by
  have h1 := h
  unfold isS at h1
  rw [decide_eq_true_iff] at h1
  have s' : ∀ c, isS T p c = decide ((41 : Int32) = c) := fun c => by
    unfold isS
    rw [h1.2]; simp [h1.1]
  have w : ∀ i, isW T p i = false := fun i => by
    unfold isW
    rw [h1.1]; simp
  unfold mJnt
  rw [s' 43, s' 45, s' 42, s' 60, s' 61, s' 41, w 23, w 24]
  by_cases q : s.2.1.length ≤ 1
  · simp [q]
  · simp [q]
theorem adJ_4 (u : Int32) (f : wfr) : adJ (-12) u f = (f.1, f.2.1, f.2.2.1, f.2.2.2.1, some u) := rfl
theorem astep_20 {b y k a c : Int32} {f : wfr} {g : List wfr} {v : Int32} (h : c = 20 ∨ c = 21) : astep b y k a (f :: g, some v) c = some ((f.1, f.2.1, f.2.2.1, some (svV f v, c), none) :: g, none) := by
  show (if c = 20 ∨ c = 21 then some ((f.1, f.2.1, f.2.2.1, some (svV f v, c), none) :: g, none) else _) = _
  rw [if_pos h]
theorem astep_22' {b y k a c : Int32} {f : wfr} {g : List wfr} {v : Int32} (h : c = 22) : astep b y k a (f :: g, some v) c = some ((f.1, f.2.1, f.2.2.1, f.2.2.2.1, some (tvV f v)) :: g, none) := by
  show (if c = 20 ∨ c = 21 then _ else if c = 22 then some ((f.1, f.2.1, f.2.2.1, f.2.2.2.1, some (tvV f v)) :: g, none) else _) = _
  rw [if_neg (by rw [h]; decide), if_pos h]
theorem astep_22 {b y k a : Int32} {f : wfr} {g : List wfr} {v : Int32} : astep b y k a (f :: g, some v) 22 = some ((f.1, f.2.1, f.2.2.1, f.2.2.2.1, some (tvV f v)) :: g, none) := astep_22' rfl
theorem astep_24 {b y k a c : Int32} {f : wfr} {g : List wfr} {v : Int32} (h : c = 24 ∨ c = 25) (hf : f.2.2.1 = none) : astep b y k a (f :: g, some v) c = some ((f.1, f.2.1, some (svV f v, c), none, none) :: g, none) := by
  show (if c = 20 ∨ c = 21 then _ else if c = 22 then _ else if c = 24 ∨ c = 25 then (if f.2.2.1 = none then some ((f.1, f.2.1, some (svV f v, c), none, none) :: g, none) else none) else _) = _
  have h1 : ¬ (c = 20 ∨ c = 21) := by rcases h with e | e <;> (subst e; decide)
  have h2 : ¬ c = 22 := by rcases h with e | e <;> (subst e; decide)
  rw [if_neg h1, if_neg h2, if_pos h, if_pos hf]
theorem astep_26 {b y k a c : Int32} {f : wfr} {g : List wfr} {v : Int32} (h : c = 26 ∨ c = 27) : astep b y k a (f :: g, some v) c = some ((f.1, some (kpV f v, c), none, none, none) :: g, none) := by
  show (if c = 20 ∨ c = 21 then _ else if c = 22 then _ else if c = 24 ∨ c = 25 then _ else if c = 26 ∨ c = 27 then some ((f.1, some (kpV f v, c), none, none, none) :: g, none) else _) = _
  have h1 : ¬ (c = 20 ∨ c = 21) := by rcases h with e | e <;> (subst e; decide)
  have h2 : ¬ c = 22 := by rcases h with e | e <;> (subst e; decide)
  have h3 : ¬ (c = 24 ∨ c = 25) := by rcases h with e | e <;> (subst e; decide)
  rw [if_neg h1, if_neg h2, if_neg h3, if_pos h]
theorem astep_29' {b y k a c : Int32} {f : wfr} {g : List wfr} {v : Int32} (h : c = 29) : astep b y k a (f :: g, some v) c = aPart g (kpV f v) := by
  show (if c = 20 ∨ c = 21 then _ else if c = 22 then _ else if c = 24 ∨ c = 25 then _ else if c = 26 ∨ c = 27 then _ else if c = 29 then aPart g (kpV f v) else none) = _
  rw [if_neg (by rw [h]; decide), if_neg (by rw [h]; decide), if_neg (by rw [h]; decide), if_neg (by rw [h]; decide), if_pos h]
theorem astep_29 {b y k a : Int32} {f : wfr} {g : List wfr} {v : Int32} : astep b y k a (f :: g, some v) 29 = aPart g (kpV f v) := astep_29' rfl
theorem astep_j {b y k a c v : Int32} {f : wfr} {g : List wfr} {r : Nat} (hc : 1 ≤ rkN c) (hr : r = if rkN c = 2 then 3 else rkN c) (h2 : rkN c = 2 → f.2.2.1 = none) : astep b y k a (f :: g, some v) (jc c) = some (adJ c (cutV r f v) (cut r f) :: g, none) := by
  subst hr
  rcases rk_c hc with e | e | e | e | e | e | e
  · subst e; exact astep_22
  · subst e; exact astep_20 (Or.inr rfl)
  · subst e; exact astep_20 (Or.inl rfl)
  · subst e; exact astep_24 (Or.inr rfl) (h2 rfl)
  · subst e; exact astep_24 (Or.inl rfl) (h2 rfl)
  · subst e; exact astep_26 (Or.inr rfl)
  · subst e; exact astep_26 (Or.inl rfl)
theorem LR_jnt {T : List Int32} {p : Nat} {s : lst} {t : mst} (h : LR s t) (hd : s.2.2.2 = false) : (spJnt T p s = .inl 1 ∧ mJnt T p t = .inl 0) ∨ ∃ s' t', spJnt T p s = .inr s' ∧ mJnt T p t = .inr t' ∧ LR s' t' := by
  obtain ⟨cs, w, op, due⟩ := s
  obtain ⟨ks, lv, due'⟩ := t
  obtain ⟨⟨h1, h2⟩, ⟨h3, h4, h5, h6, h7, -⟩, hv⟩ := h
  dsimp only at h1 h2 h3 h4 h5 h6 h7 hv hd
  subst hd; subst h1; subst h2
  have h5 := h5 rfl
  have hlen := lvO_len w 0 h3
  have opl := lOp_le w
  have hks : ∀ a : Int32, ks ++ [a] ≠ [] := fun a r => by
    have := congrArg List.length r
    rw [List.length_append] at this
    exact absurd this (by simp)
  have hfs : ∀ (st : List Int32) (fs : List wfr), RF w st fs → ∃ f g, fs = f :: g := fun st fs r => by
    obtain ⟨l1, -⟩ := RF_len w st fs h3 r
    cases fs with
    | nil => rw [List.length_nil] at l1; omega
    | cons f g => exact ⟨f, g, rfl⟩
  by_cases q : isS T p 41 = true
  · have em := mJnt_41 (s := (ks, lvO w 0, false)) q
    dsimp only at em
    have ec : spJnt T p (cs, w, op, false) = if op = 0 then .inl 1 else .inr ((lEnd (lSet 1 cs w).1 (lSet 1 cs w).2.tail).1, (lEnd (lSet 1 cs w).1 (lSet 1 cs w).2.tail).2, op - 1, false) := by
      unfold spJnt; exact if_pos q
    rw [em, ec]
    obtain ⟨c1, c2, c3, c4, -, -⟩ := lSet_c 1 (by decide) w cs h3
    obtain ⟨n1, n2⟩ := lSet_nn (r := 1) (by decide) w cs h4 h5
    have ev := lvO_set1 w cs 0 h3
    have hset : ∀ b y k a st f g v, RF w st (f :: g) → pev b y k a cs = v :: st → ∃ st', RF (lSet 1 cs w).2 st' (cut 1 f :: g) ∧ pev b y k a (lSet 1 cs w).1 = kpV f v :: st' := fun b y k a st f g v r hp => RF_set (r := 1) (by decide) w cs st f g v h3 r hp
    generalize lSet 1 cs w = sw at c1 c2 c3 c4 n1 n2 ev hset ⊢
    obtain ⟨cs1, w1⟩ := sw
    dsimp only at c1 c2 c3 c4 n1 n2 ev hset ⊢
    by_cases q0 : op = 0
    · left
      -- no bracket: no level
      have hz : lZ w1 = 0 := by
        cases w1 with
        | nil => rfl
        | cons d w2 =>
          rcases srt_c c1 with e | e | ⟨e, -⟩
          · exact absurd (by rw [e]; rfl) n2
          · subst e
            rw [lOp_cons, if_pos rfl] at c3; omega
          · have : rkN d < 1 := c4
            omega
      exact ⟨if_pos q0, if_pos (by omega)⟩
    · right
      cases w1 with
      | nil =>
        have e : lOp [] = 0 := rfl
        rw [e] at c3; omega
      | cons d w2 =>
        have hd13 : d = -13 := by
          rcases srt_c c1 with e | e | ⟨e, -⟩
          · exact absurd (by rw [e]; rfl) n2
          · exact e
          · have : rkN d < 1 := c4
            omega
        subst hd13
        rw [lZ_cons, if_pos (by decide)] at c2
        rw [lOp_cons, if_pos rfl] at c3
        have e13 : lvO ((-13) :: w2) 0 = (2, 0) :: lvO w2 0 := (if_neg (by decide)).trans (if_pos rfl)
        rw [e13, List.cons.injEq] at ev
        obtain ⟨d1, d2, d3, d4⟩ := lEnd_c w2 cs1 c1.2
        obtain ⟨m1, m2⟩ := lEnd_nn w2 cs1 (lNn_t n1)
        rw [if_neg q0, if_neg (by omega)]
        refine ⟨((lEnd cs1 w2).1, (lEnd cs1 w2).2, op - 1, false), _, rfl, rfl, ⟨rfl, ?_⟩, ⟨d1, m1, fun _ => m2, ?_, ?_, fun _ => hks 29⟩, fun b y k a => ?_⟩
        · have := lvO_end w2 cs1 0 (lNn_t n1) (Or.inr trivial)
          rw [ite_self] at this
          show lPop (lvO w 0).tail = _
          rw [← ev.2]; exact this.symm
        · show op - 1 = lOp (lEnd cs1 w2).2
          omega
        · show lZ (lEnd cs1 w2).2 ≤ 5
          omega
        · obtain ⟨st, fs, r, -, r2⟩ := hv b y k a
          obtain ⟨v, z1, z2⟩ := r2 rfl
          obtain ⟨f, g, rfl⟩ := hfs st fs r
          obtain ⟨st', s1, s2⟩ := hset b y k a st f g v r z1
          obtain ⟨g', e1, s3⟩ := RF_13.mp s1
          rw [List.cons.injEq] at e1
          rw [← e1.2] at s3
          obtain ⟨fs', v', e2, e3, e4⟩ := RF_end w2 cs1 st' g _ c1.2 (lNn_t n1) s3 s2
          refine ⟨st', fs', e3, fun r => (by cases r), fun _ => ⟨v', e4, ?_⟩⟩
          show aev b y k a (ks ++ [29]) ast0 = _
          rw [aev_app, z2]
          exact astep_29.trans e2
  · have em := mJnt_c (s := (ks, lvO w 0, false)) q
    dsimp only at em
    have ec : spJnt T p (cs, w, op, false) = if lJnt T p = -14 then .inl 1
        else if rkN (lJnt T p) = 2 then (if ((lSet 3 cs w).2.head?.map rkN) = some 2 then .inl 1 else .inr ((lSet 3 cs w).1, lJnt T p :: (lSet 3 cs w).2, op, true))
        else .inr ((lSet (rkN (lJnt T p)) cs w).1, lJnt T p :: (lSet (rkN (lJnt T p)) cs w).2, op, true) := by
      unfold spJnt; exact if_neg q
    rw [em, ec]
    by_cases q2 : lJnt T p = -14
    · left
      exact ⟨if_pos q2, if_pos q2⟩
    rw [if_neg q2, if_neg q2]
    obtain ⟨r1, r13⟩ := ljnt_r q2
    have r4 := rkN_le (lJnt T p)
    generalize lJnt T p = c at r1 r13 r4 ⊢
    -- behind the settling
    have fin : ∀ (r : Nat) (lv' : List (Int32 × Int32)), r = (if rkN c = 2 then 3 else rkN c) → lHd (lSet r cs w).2 < rkN c → lv' = lvO (c :: (lSet r cs w).2) 0 → LR ((lSet r cs w).1, c :: (lSet r cs w).2, op, true) (ks ++ [jc c], lv', true) := by
      intro r lv' hr hh hlv
      have hr1 : 1 ≤ r := by rw [hr]; split <;> omega
      obtain ⟨c1, c2, c3, c4, -, -⟩ := lSet_c r hr1 w cs h3
      obtain ⟨n1, n2⟩ := lSet_nn hr1 w cs h4 h5
      refine ⟨⟨rfl, hlv⟩, ⟨⟨Or.inr (Or.inr ⟨r1, ?_⟩), c1⟩, nn_cons n1 (Or.inr (Or.inr n2)), fun z => (by cases z), ?_, ?_, fun z => by cases z⟩, fun b y k a => ?_⟩
      · generalize (lSet r cs w).2 = w1 at hh ⊢
        cases w1 with
        | nil => trivial
        | cons d w2 => exact hh
      · show op = lOp (c :: (lSet r cs w).2)
        rw [lOp_cons, if_neg r13, c3]; exact h6
      · show lZ (c :: (lSet r cs w).2) ≤ 5
        rw [lZ_cons, if_neg (by omega), c2]; exact h7
      · obtain ⟨st, fs, z, -, z2⟩ := hv b y k a
        obtain ⟨v, z3, z4⟩ := z2 rfl
        obtain ⟨f, g, rfl⟩ := hfs st fs z
        obtain ⟨st', s1, s2⟩ := RF_set hr1 w cs st f g v h3 z z3
        refine ⟨cutV r f v :: st', adJ c (cutV r f v) (cut r f) :: g, (RF_j r1).mpr ⟨_, _, _, _, rfl, rfl, s1⟩, fun _ => ⟨s2, ?_⟩, fun r => by cases r⟩
        show aev b y k a (ks ++ [jc c]) ast0 = _
        rw [aev_app, z4]
        refine astep_j r1 hr (fun e => ?_)
        have hc := cut_mono (r' := 2) (by omega) (RF_cut _ _ _ _ c1 s1)
        rw [if_pos e] at hr
        subst hr
        have := congrArg (fun f : wfr => f.2.2.1) hc
        exact this.symm
    by_cases q3 : rkN c = 2
    · rw [if_neg (show ¬ 3 ≤ rkN c by omega), if_pos q3, if_pos q3]
      obtain ⟨c1, c2, c3, c4, -, -⟩ := lSet_c 3 (by decide) w cs h3
      have eS := lvO_set (r := 3) (by decide) w cs 0
      by_cases q4 : ((lSet 3 cs w).2.head?.map rkN) = some 2
      · left
        refine ⟨if_pos q4, if_neg ?_⟩
        rw [← eS]
        generalize (lSet 3 cs w).2 = w1 at q4 c1 ⊢
        cases w1 with
        | nil => cases q4
        | cons d w2 =>
          have e2 : rkN d = 2 := Option.some.inj q4
          have hlt : lHd w2 < rkN d := by
            rcases srt_c c1 with e | e | e
            · rw [e] at e2; exact absurd e2 (by decide)
            · rw [e] at e2; exact absurd e2 (by decide)
            · exact e.2
          rw [lvO_j (by omega), if_pos e2, (lv_two 0 w2 1 c1.2 (by omega)).2]
          decide
      · right
        have hh : lHd (lSet 3 cs w).2 < 2 := by
          generalize (lSet 3 cs w).2 = w1 at q4 c4 ⊢
          cases w1 with
          | nil => exact (by decide : (0 : Nat) < 2)
          | cons d w2 =>
            have e1 : rkN d < 3 := c4
            have e2 : ¬ rkN d = 2 := fun e => q4 (by show some (rkN d) = _; rw [e])
            show rkN d < 2
            omega
        obtain ⟨l1, l2⟩ := lv_two 1 (lSet 3 cs w).2 0 c1 hh
        rw [eS] at l1 l2
        rw [if_neg q4, if_pos l2]
        refine ⟨_, _, rfl, rfl, fin 3 _ (by rw [if_pos q3]) (by omega) ?_⟩
        rw [lvO_j r1, if_pos q3]; exact l1.symm
    · right
      rw [if_neg q3, if_neg q3]
      obtain ⟨c1, c2, c3, c4, -, -⟩ := lSet_c (rkN c) r1 w cs h3
      by_cases q5 : 3 ≤ rkN c
      · rw [if_pos q5]
        refine ⟨_, _, rfl, rfl, fin (rkN c) _ (by rw [if_neg q3]) c4 ?_⟩
        rw [lvO_j r1, if_neg q3]; exact (lvO_set q5 w cs 0).symm
      · have e1 : rkN c = 1 := by omega
        rw [if_neg q5]
        refine ⟨_, _, rfl, rfl, fin (rkN c) _ (by rw [if_neg q3]) c4 ?_⟩
        rw [lvO_j r1, if_neg q3, e1]; exact (lvO_set1 w cs 0 h3).symm
