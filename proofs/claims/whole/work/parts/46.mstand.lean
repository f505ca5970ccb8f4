/-! the reference: what stands, what falls -/
theorem laysRests_ok {F : Nat} (hF : 1000 < F) {M : mm} {up : Int32} : ok (m_X12_laysRests F up M) (fun M' => fr (fun k _ => k = 106) M M' ∧ ∀ k, k < 11 → M'.1 106 0 k = rs (M.1 77 0) (M.1 78 0) up k) := by
  unfold m_X12_laysRests
  rw [ok_bd]
  refine ok_for 11 (fun i z => z.1 = nI i ∧ fr (fun k _ => k = 106) M z.2 ∧ ∀ k, k < i → z.2.1 106 0 k = rs (M.1 77 0) (M.1 78 0) up k) 0 (by omega) (by omega) ⟨rfl, fr_rf, fun k hk => by omega⟩ ?_
  rintro i ⟨x1, M2⟩ hi ⟨e1, hf, hr⟩
  dsimp only at e1 hf hr
  subst e1
  simp only [b_X12_laysRests_1, b_X12_laysRests_1c, ok_ite, nI_lit_le (show 11 < 2 ^ 31 by decide) (show i < 2 ^ 31 by omega)]
  refine ⟨fun hc => ?_, fun hc => ?_⟩
  · have : i = 11 := by omega
    subst this
    rw [ok_some]
    exact ok_some.mpr ⟨hf, hr⟩
  · have hin : vp_in (nI i) 11 := vp_in_nI (by omega) (by decide)
    have hin22 : vp_in (nI i) 22 := vp_in_nI (by omega) (by decide)
    have e77 : M2.1 77 0 i = M.1 77 0 i := fr_I hf (by omega) i
    have e78 : ∀ j, M2.1 78 0 j = M.1 78 0 j := fun j => fr_I hf (by omega) j
    simp only [ok_gi, ok_nm, ok_bd, nI_clamp (show i < 2 ^ 31 by omega), e77]
    refine ⟨hin22, hin, ?_⟩
    have hf0 : fr (fun k _ => k = 106) M (sI M2 106 0 i (M.1 77 0 i)) := fr_sI hf rfl
    have hr0 : ∀ k, k < i → (sI M2 106 0 i (M.1 77 0 i)).1 106 0 k = rs (M.1 77 0) (M.1 78 0) up k := fun k hk => by rw [rII, if_neg (by omega)]; exact hr k hk
    have hi0 : (sI M2 106 0 i (M.1 77 0 i)).1 106 0 i = M.1 77 0 i := by rw [rII, if_pos ⟨rfl, rfl, rfl⟩]
    generalize sI M2 106 0 i (M.1 77 0 i) = M3 at hf0 hr0 hi0 ⊢
    refine ok_mono (Q := fun M' => fr (fun k _ => k = 106) M M' ∧ ∀ k, k < i + 1 → M'.1 106 0 k = rs (M.1 77 0) (M.1 78 0) up k) ?_ (fun M' hM' => ok_some.mpr ⟨by omega, nI_1 i, hM'⟩)
    refine ok_for i (fun t z => z.1 = nI t ∧ fr (fun k _ => k = 106) M z.2 ∧ (∀ k, k < i → z.2.1 106 0 k = rs (M.1 77 0) (M.1 78 0) up k) ∧ z.2.1 106 0 i = rsa (M.1 78 0 i &&& up) (rs (M.1 77 0) (M.1 78 0) up) t (M.1 77 0 i)) 0 (by omega) (by omega) ⟨rfl, hf0, hr0, hi0⟩ ?_
    rintro t ⟨x4, M5⟩ ht ⟨a1, a2, a3, a4⟩
    dsimp only at a1 a2 a3 a4
    subst a1
    simp only [b_X12_laysRests_2, b_X12_laysRests_2c, ok_ite, nI_leI (show i < 2 ^ 31 by omega) (show t < 2 ^ 31 by omega)]
    refine ⟨fun hc => ?_, fun hc => ?_⟩
    · have : t = i := by omega
      subst this
      refine ok_some.mpr ⟨a2, fun k hk => ?_⟩
      rcases Nat.lt_succ_iff_lt_or_eq.mp hk with q | q
      · exact a3 k q
      · subst q; rw [a4]; exact rs_eq.symm
    · have e78' : M5.1 78 0 i = M.1 78 0 i := fr_I a2 (by omega) i
      rw [ok_gi]
      refine ⟨hin22, ?_⟩
      rw [ok_bd, nI_clamp (by omega), e78', ok_ite, b_bit1 _ (show t < 32 by omega)]
      refine ⟨fun q => ?_, fun q => ?_⟩
      · simp only [ok_gi, ok_nm, ok_some, nI_clamp (show i < 2 ^ 31 by omega), nI_clamp (show t < 2 ^ 31 by omega)]
        refine ⟨hin, vp_in_nI (by omega) (by decide), hin, by omega, nI_1 t, fr_sI a2 rfl, fun k hk => ?_, ?_⟩
        · simp only [rII]; rw [if_neg (by omega)]; exact a3 k hk
        · simp only [rII, rsa]; rw [if_pos ⟨trivial, trivial, trivial⟩, a4, q, a3 t (by omega), if_pos rfl]
      · refine ok_some.mpr (ok_some.mpr ⟨by omega, nI_1 t, a2, a3, ?_⟩)
        dsimp only
        simp only [rsa]
        rw [if_neg q, a4]
        exact (Int32.or_zero).symm
theorem wX_c {w : Nat → Int} {X X' : Nat → Bool} (h : ∀ s, s < 11 → X s = X' s) : wX w X = wX w X' := sm_c (fun s hs => by rw [h s hs])
theorem nb_c {R : Nat → Nat → Bool} {X X' : Nat → Bool} (h : ∀ s, s < 11 → X s = X' s) : nb R X = nb R X' := by
  funext o
  rw [Bool.eq_iff_iff, nb_iff, nb_iff]
  constructor
  · rintro ⟨s, a, b, d⟩; exact ⟨s, a, by rw [← h s a]; exact b, d⟩
  · rintro ⟨s, a, b, d⟩; exact ⟨s, a, by rw [h s a]; exact b, d⟩
theorem dv1 (j k : Nat) : j / 2 ^ k / 2 = j / 2 ^ (k + 1) := by rw [Nat.div_div_eq_div_mul, Nat.pow_succ]
/-- what the stones of a set weigh and rest on -/
theorem stand2_ok {F : Nat} (hF : 1000 < F) {M : mm} {r : Nat → Int32} {j : Nat} (hj : j < 2048) (hr : ∀ s, s < 11 → M.1 106 0 s = r s) (hw : ∀ s, s < 11 → j.testBit s = true → 0 ≤ (M.1 75 0 s).toInt ∧ (M.1 75 0 s).toInt ≤ 99) :
    ok (lp (b_X12_stand_2 F M) F ((0 : Int32), (0 : Int32), (0 : Int32), nI j)) (fun z => z.1.toInt = wX (fun s => (M.1 75 0 s).toInt) (fun s => j.testBit s) ∧ ∀ x, x < 32 → (bt z.2 x = true ↔ ∃ s, s < 11 ∧ j.testBit s = true ∧ bt (r s) x = true)) := by
  refine ok_for 11 (fun k z => z.1 = nI k ∧ z.2.1.toInt = sm k (fun s => if j.testBit s then (M.1 75 0 s).toInt else 0) ∧ (∀ x, x < 32 → (bt z.2.2.1 x = true ↔ ∃ s, s < k ∧ j.testBit s = true ∧ bt (r s) x = true)) ∧ z.2.2.2 = nI (j / 2 ^ k)) 0 (by omega) (by omega) ⟨rfl, rfl, fun x hx => by rw [b_0]; simp, by simp⟩ ?_
  rintro k ⟨x3, x4, x5, x6⟩ hk ⟨e1, h4, h5, e6⟩
  dsimp only at e1 h4 h5 e6
  subst e1; subst e6
  have hjk : j / 2 ^ k ≤ j := Nat.div_le_self _ _
  have n0 : nI (j / 2 ^ k) ≤ (0 : Int32) ↔ j / 2 ^ k ≤ 0 := nI_le_lit (by decide) (by omega)
  simp only [b_X12_stand_2, b_X12_stand_2c]
  rw [ok_ite, n0]
  refine ⟨fun hc => ?_, fun hc => ?_⟩
  · have hz : j < 2 ^ k := by
      have := Nat.pow_pos (n := k) (show 0 < 2 by decide)
      exact (Nat.div_eq_zero_iff_lt this).mp (Nat.le_zero.mp hc)
    have hb : ∀ s, k ≤ s → j.testBit s = false := fun s hs => Nat.testBit_lt_two_pow (Nat.lt_of_lt_of_le hz (Nat.pow_le_pow_right (by decide) hs))
    refine ok_some.mpr ⟨?_, fun x hx => ?_⟩
    · dsimp only
      rw [h4]
      exact (sm_ext hk (fun s h1 h2 => by rw [hb s h1]; rfl)).symm
    · rw [h5 x hx]
      constructor
      · rintro ⟨s, a, b, c⟩; exact ⟨s, by omega, b, c⟩
      · rintro ⟨s, a, b, c⟩
        refine ⟨s, ?_, b, c⟩
        rcases Nat.lt_or_ge s k with q | q
        · exact q
        · rw [hb s q] at b; cases b
  · have hk11 : k < 11 := by
      rcases Nat.lt_or_ge k 11 with q | q
      · exact q
      · have : k = 11 := by omega
        subst this
        omega
    have hm : nI (j / 2 ^ k) &&& (1 : Int32) = nI (j / 2 ^ k % 2) := pk_andN (by omega) 1 (by decide)
    have hsh : nI (j / 2 ^ k) >>> ((1 : Int32) &&& 31) = nI (j / 2 ^ (k + 1)) := by
      rw [pk_shrN (by omega) _ 1 (by decide), Nat.pow_one, dv1]
    have htb : j.testBit k = decide (j / 2 ^ k % 2 = 1) := Nat.testBit_eq_decide_div_mod_eq
    rw [ok_bd, hm]
    have h1 : (nI (j / 2 ^ k % 2) = (1 : Int32)) ↔ j.testBit k = true := by
      rw [htb, decide_eq_true_iff]
      exact nI_eq (b := 1) (by omega) (by decide)
    rw [ok_ite, h1]
    refine ⟨fun q => ?_, fun q => ?_⟩
    · have hin : vp_in (nI k) 11 := vp_in_nI (by omega) (by decide)
      have hin22 : vp_in (nI k) 22 := vp_in_nI (by omega) (by decide)
      simp only [ok_gi, ok_nm, ok_some, nI_clamp (show k < 2 ^ 31 by omega), hsh, hr k hk11, Sum.elim_inl]
      refine ⟨hin22, hin, hk11, nI_1 k, ?_, fun x hx => ?_, trivial⟩
      · have b1 := hw k hk11 q
        have b2 : 0 ≤ sm k (fun s => if j.testBit s then (M.1 75 0 s).toInt else 0) := sm_nn (fun s hs => by
          split
          · rename_i h; exact (hw s (by omega) h).1
          · omega)
        have b3 : sm k (fun s => if j.testBit s then (M.1 75 0 s).toInt else 0) ≤ sm k (fun _ => 99) := sm_le (fun s hs => by
          split
          · rename_i h; exact (hw s (by omega) h).2
          · omega)
        have b4 : ∀ n, n ≤ 11 → sm n (fun _ => (99 : Int)) ≤ 1089 := by decide
        have b5 := b4 k (by omega)
        rw [i_add (by omega) (by omega), h4]
        simp only [sm, q, if_true]
      · rw [b_or, Bool.or_eq_true, h5 x hx]
        constructor
        · rintro (⟨s, a, b, c⟩ | a)
          · exact ⟨s, by omega, b, c⟩
          · exact ⟨k, by omega, q, a⟩
        · rintro ⟨s, a, b, c⟩
          rcases Nat.lt_succ_iff_lt_or_eq.mp a with a | a
          · exact Or.inl ⟨s, a, b, c⟩
          · subst a; exact Or.inr c
    · rw [ok_some]
      dsimp only
      rw [ok_nm, ok_some, hsh]
      refine ⟨hk11, nI_1 k, ?_, fun x hx => ?_, rfl⟩
      · dsimp only
        rw [h4]
        simp only [sm]
        rw [if_neg q]; omega
      · dsimp only
        rw [h5 x hx]
        constructor
        · rintro ⟨s, a, b, c⟩; exact ⟨s, by omega, b, c⟩
        · rintro ⟨s, a, b, c⟩
          rcases Nat.lt_succ_iff_lt_or_eq.mp a with a | a
          · exact ⟨s, a, b, c⟩
          · subst a; exact absurd b q
theorem stand_ok {F : Nat} (hF : 3000 < F) {M : mm} {up : Int32} {nO : Nat} {c : Nat → Int} (hO : nO ≤ 10) (hc : ∀ o, 0 ≤ c o ∧ c o ≤ 1004) (hup : ∀ s, s < 32 → bt up s = true → s < 11) (hw : ∀ s, s < 11 → bt up s = true → 0 ≤ (M.1 75 0 s).toInt ∧ (M.1 75 0 s).toInt ≤ 99) (hr : ∀ s, s < 11 → bt up s = true → ∀ x, x < 32 → bt (rs (M.1 77 0) (M.1 78 0) up s) x = true → x < nO) (hb : ∀ j, j < 2 ^ nO → (M.1 105 0 j).toInt = bsum c j) :
    ok (m_X12_stand F up M) (fun r => (r.1 = true ↔ Hall (fun s => (M.1 75 0 s).toInt) (fun s o => bt (rs (M.1 77 0) (M.1 78 0) up s) o) c (fun s => bt up s)) ∧ fr (fun k _ => k = 106) M r.2) := by
  unfold m_X12_stand
  rw [ok_cv]
  refine ok_mono (laysRests_ok (by omega)) (fun M1 h1 => ?_)
  obtain ⟨f1, r1⟩ := h1
  have hU : jn up < 2 ^ 11 := jn_lt hup
  have e75 : ∀ s, M1.1 75 0 s = M.1 75 0 s := fun s => fr_I f1 (by omega) s
  have e105 : ∀ s, M1.1 105 0 s = M.1 105 0 s := fun s => fr_I f1 (by omega) s
  have hp : 2 ^ nO ≤ 1024 := Nat.pow_le_pow_right (n := 2) (by decide) hO
  have sub : ∀ X, X &&& jn up = X → ∀ s, X.testBit s = true → bt up s = true := fun X hX s hs => by
    rw [← hX, Nat.testBit_and, Bool.and_eq_true] at hs
    exact hs.2
  rw [ok_bd]
  refine ok_mono (Q := fun r => (r = .inl () ∧ ¬ Hall (fun s => (M.1 75 0 s).toInt) (fun s o => bt (rs (M.1 77 0) (M.1 78 0) up s) o) c (fun s => bt up s)) ∨ (r = .inr () ∧ Hall (fun s => (M.1 75 0 s).toInt) (fun s o => bt (rs (M.1 77 0) (M.1 78 0) up s) o) c (fun s => bt up s))) ?_ (fun r hr => ?_)
  · have key : lp (b_X12_stand_1 F up M1) F up = lp (b_X12_stand_1 F up M1) F (nI (jn up)) := by rw [← jn_nI]
    rw [key]
    refine ok_lp (fun n z => z = nI n ∧ n &&& jn up = n ∧ ∀ X, X &&& jn up = X → n < X → wX (fun s => (M.1 75 0 s).toInt) (fun s => X.testBit s) ≤ cX c (nb (fun s o => bt (rs (M.1 77 0) (M.1 78 0) up s) o) (fun s => X.testBit s))) ?_ F (jn up) _ (by omega) ⟨rfl, Nat.and_self _, fun X hX hlt => ?_⟩
    · rintro S z ⟨rfl, hS, hall⟩
      have hSlt : S < 2048 := by
        have : S &&& jn up ≤ jn up := Nat.and_le_right
        rw [hS] at this; omega
      have n0 : nI S ≤ (0 : Int32) ↔ S ≤ 0 := nI_le_lit (by decide) (by omega)
      simp only [b_X12_stand_1, b_X12_stand_1c]
      rw [ok_ite, n0]
      refine ⟨fun q => ok_some.mpr (Or.inr ⟨rfl, ?_⟩), fun q => ?_⟩
      · intro X hX
        have hjb : ∀ s, s < 32 → (jn (mkI X 11)).testBit s = (X s && decide (s < 11)) := fun s hs => by rw [← jn_b]; exact mkI_b hs 11 (by omega)
        have hsubX : jn (mkI X 11) &&& jn up = jn (mkI X 11) := by
          refine Nat.eq_of_testBit_eq (fun s => ?_)
          rw [Nat.testBit_and]
          cases e : (jn (mkI X 11)).testBit s
          · rfl
          · have h32 : s < 32 := lt32 (x := mkI X 11) e
            rw [hjb s h32, Bool.and_eq_true] at e
            have e2 : bt up s = true := hX s e.1
            rw [← jn_b, e2]; rfl
        have hjX : ∀ s, s < 11 → X s = (jn (mkI X 11)).testBit s := fun s hs => by rw [hjb s (by omega)]; simp [hs]
        have ew := wX_c (w := fun s => (M.1 75 0 s).toInt) hjX
        have en := nb_c (R := fun s o => bt (rs (M.1 77 0) (M.1 78 0) up s) o) hjX
        rw [ew, en]
        rcases Nat.eq_zero_or_pos (jn (mkI X 11)) with z | z
        · rw [z]
          have z1 : wX (fun s => (M.1 75 0 s).toInt) (fun s => (0 : Nat).testBit s) = 0 := (sm_c (fun s _ => by simp)).trans sm_0
          rw [z1]
          exact sm_nn (fun o _ => by have := (hc o).1; split <;> omega)
        · exact hall _ hsubX (by omega)
      · rw [ok_bd]
        refine ok_mono (stand2_ok (by omega) hSlt (fun s hs => r1 s hs) (fun s hs hb' => by rw [e75]; exact hw s hs (sub S hS s hb'))) (fun z hz => ?_)
        obtain ⟨x12, x13⟩ := z
        obtain ⟨z1, z2⟩ := hz
        dsimp only at z1 z2 ⊢
        have hOlt : jn x13 < 2 ^ nO := jn_lt (fun x hx hb' => by
          obtain ⟨s, a, b, d⟩ := (z2 x hx).mp hb'
          exact hr s a (sub S hS s b) x hx d)
        have ex : x13 = nI (jn x13) := jn_nI x13
        rw [ok_gi, ex]
        refine ⟨vp_in_nI (by omega) (by decide), ?_⟩
        rw [nI_clamp (by omega), e105, ok_ite, i_le, hb _ hOlt, z1]
        have ecx : bsum c (jn x13) = cX c (nb (fun s o => bt (rs (M.1 77 0) (M.1 78 0) up s) o) (fun s => S.testBit s)) := sm_c (fun o ho => by
          have : (jn x13).testBit o = nb (fun s o => bt (rs (M.1 77 0) (M.1 78 0) up s) o) (fun s => S.testBit s) o := by
            rw [← jn_b, Bool.eq_iff_iff, z2 o (by omega), nb_iff]
          rw [this])
        have ewx : wX (fun s => (M1.1 75 0 s).toInt) (fun s => S.testBit s) = wX (fun s => (M.1 75 0 s).toInt) (fun s => S.testBit s) := sm_c (fun s _ => by dsimp only; rw [e75])
        rw [ecx, ewx]
        refine ⟨fun hle => ?_, fun hnle => ok_some.mpr (Or.inl ⟨rfl, fun hH => hnle (hH _ (fun s hs => sub S hS s hs))⟩)⟩
        rw [ok_nm, ok_some]
        have e1 : nI S - (1 : Int32) = nI (S - 1) := pk_sub (a := S) (b := 1) (by omega)
        have e2 : (nI S - (1 : Int32)) &&& up = nI ((S - 1) &&& jn up) := by
          rw [e1]
          conv => lhs; rw [jn_nI up]
          rw [nx_and]
        have hlt : (S - 1) &&& jn up < S := by
          have : (S - 1) &&& jn up ≤ S - 1 := Nat.and_le_left
          omega
        refine ⟨(S - 1) &&& jn up, hlt, e2, by rw [Nat.and_assoc, Nat.and_self], fun X hX hX2 => ?_⟩
        rcases Nat.lt_trichotomy X S with q3 | q3 | q3
        · have := sub_next S X (jn up) hX hS q3
          omega
        · subst q3; exact hle
        · exact hall X hX q3
    · exfalso
      have : X &&& jn up ≤ jn up := Nat.and_le_right
      rw [hX] at this; omega
  · rcases hr with ⟨rfl, h⟩ | ⟨rfl, h⟩
    · simp only [Sum.elim_inl, ok_some]
      exact ⟨⟨fun q => (by cases q), fun q => absurd q h⟩, f1⟩
    · simp only [Sum.elim_inr, ok_some]
      exact ⟨⟨fun _ => h, fun _ => trivial⟩, f1⟩
