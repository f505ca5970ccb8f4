/-! the reference: the fall -/
def PD : Nat → Nat → Prop := fun k _ => (84 ≤ k ∧ k ≤ 93) ∨ k = 105 ∨ k = 106
theorem upB_rst {up : Int32} {n : Nat} (hn : n < 32) : (fun s => bt (rst up n) s) = upB up n := by
  funext s
  rcases Nat.lt_or_ge s 32 with h | h
  · rw [rst_b hn h]; rfl
  · unfold upB; rw [b_big h, b_big h]; rfl
theorem standU_ok {nb : Nat} {wb : Nat} {F : Nat} (hF : 3000 < F) {C : cty} {M : mm} {mo : mty} {up : Int32} {n : Nat} (hw : WFb wb C) (h : MVb nb C M) (hn : n ≤ 11) (hup : ∀ s, s < 32 → bt up s = true → s < cS C) (hb : ∀ j, j < 2 ^ cO C → (M.1 105 0 j).toInt = bsum (kS C mo) j) (hl : wb ≤ 11 := by omega) :
    ok (m_X12_stand F (rst up n) M) (fun r => (r.1 = true ↔ HallU C mo up n) ∧ fr (fun k _ => k = 106) M r.2) := by
  have hS := Nat.le_trans hw.1.2.2.1 hl
  obtain ⟨-, -, -, h4, -⟩ := h
  have hrs : ∀ s, s < 32 → bt (rst up n) s = true → s < cS C ∧ s < n := fun s hs q => by
    rw [rst_b (by omega) hs, Bool.and_eq_true, decide_eq_true_iff] at q
    exact ⟨hup s hs q.1, q.2⟩
  have hR : ∀ s, s < cS C → s < n → rs (M.1 77 0) (M.1 78 0) (rst up n) s = rS C up s := fun s hs hsn => by
    refine rs_c (n := s + 1) (fun t ht => ⟨(h4 t (by omega)).2.2.1, (h4 t (by omega)).2.2.2⟩) (fun t ht => ?_) s (by omega)
    rw [rst_b (by omega) (by omega)]
    simp; intro _; omega
  have hW : ∀ s, s < cS C → (M.1 75 0 s).toInt = wS C s := fun s hs => by unfold wS; rw [if_pos hs, (h4 s hs).1]
  have hrb : ∀ s, s < cS C → ∀ x, x < 32 → bt (rS C up s) x = true → x < cO C := fun s hs x hx => rs_lt (fun s hs => (hw.2.2.2.2 s hs).2.2.1) s hs x hx
  refine ok_mono (stand_ok hF hw.1.2.1 (c := kS C mo) (kS_b hw mo) (fun s hs q => by have := hrs s hs q; omega) (fun s hs q => ?_) (fun s hs q x hx => ?_) hb) (fun r hr => ⟨?_, hr.2⟩)
  · rw [hW s (hrs s (by omega) q).1]; exact wS_b hw s
  · have := hrs s (by omega) q
    rw [hR s this.1 this.2]; exact hrb s this.1 x hx
  · rw [hr.1]
    unfold HallU
    rw [← upB_rst (by omega)]
    constructor
    · refine hall_c (fun s hs hU => ?_) (fun _ _ _ => rfl)
      have := hrs s (by omega) hU
      refine ⟨hW s this.1, fun o _ => ?_⟩
      rw [hR s this.1 this.2]; unfold rB; simp [this.1]
    · refine hall_c (fun s hs hU => ?_) (fun _ _ _ => rfl)
      have := hrs s (by omega) hU
      refine ⟨(hW s this.1).symm, fun o _ => ?_⟩
      rw [hR s this.1 this.2]; unfold rB; simp [this.1]
theorem upB_c {up : Int32} {n m : Nat} (hm : m ≤ n) (h : ∀ s, m ≤ s → s < n → bt up s = false) : upB up m = upB up n := by
  funext s
  unfold upB
  by_cases a : s < m
  · have : s < n := by omega
    simp [a, this]
  · by_cases b : s < n
    · rw [h s (by omega) b]; simp
    · simp [a, b]
theorem fallen_ok {nb : Nat} {wb : Nat} {F : Nat} (hF : 3000 < F) {C : cty} {M : mm} {mo : mty} {up : Int32} (hw : WFb wb C) (h : MVb nb C M) (hy : M.1 100 0 0 = mo.1) (hf : M.1 100 0 2 = mo.2.2.1) (h0 : B0 M) (hup : ∀ s, s < 32 → bt up s = true → s < cS C) (hl : wb ≤ 11 := by omega) :
    ok (m_X12_fallen F up mo.2.1 M) (fun r => r.1 = fallS C mo up ∧ fr PD M r.2 ∧ B0 r.2) := by
  have hS := Nat.le_trans hw.1.2.2.1 hl
  unfold m_X12_fallen
  rw [ok_cv]
  refine ok_mono (laysStr_ok hF hw h hy hf h0) (fun M1 h1 => ?_)
  obtain ⟨f1, b1, s1⟩ := h1
  have hM1 : MVb nb C M1 := MV_fr h f1 (fun k h1 h2 q => by unfold PC at q; omega)
  rw [ok_bd]
  refine ok_mono (Q := fun r => r.1 = fallS C mo up ∧ fr PD M r.2 ∧ B0 r.2) ?_ (fun r hr => ok_some.mpr hr)
  have hup11 : up = rst up 11 := b_ext (fun i hi => by
    rw [rst_b (by omega) hi]
    cases e : bt up i
    · rfl
    · have := hup i hi e
      simp; omega)
  refine ok_lp (fun k z => ∃ n, k = n ∧ n ≤ 11 ∧ z.1 = rst up n ∧ fallN C mo up 11 = fallN C mo up n ∧ fr (fun k _ => k = 106) M1 z.2) ?_ F 11 _ (by omega) ⟨11, rfl, Nat.le_refl _, hup11, rfl, fr_rf⟩
  rintro n ⟨x2, M3⟩ ⟨_, rfl, hn, e1, hfa, hfr⟩
  dsimp only at e1 hfr
  subst e1
  have hM3 : MVb nb C M3 := MV_fr hM1 hfr (fun k h1 h2 q => by omega)
  simp only [b_X12_fallen_1, b_X12_fallen_1c]
  rw [ok_cb]
  refine ok_mono (standU_ok hF (mo := mo) hw hM3 hn hup (fun j hj => by rw [fr_I hfr (by omega)]; exact s1 j hj)) (fun r hr => ?_)
  obtain ⟨bb, M4⟩ := r
  obtain ⟨r1, r2⟩ := hr
  dsimp only at r1 r2 ⊢
  have hf4 : fr (fun k _ => k = 106) M1 M4 := fr_tr hfr r2
  rw [ok_ite, r1]
  refine ⟨fun q => ok_some.mpr ⟨?_, fr_tr (fr_mono f1 (fun k n q => by unfold PC at q; unfold PD; omega)) (fr_mono hf4 (fun k n q => by unfold PD; omega)), ?_⟩, fun q => ?_⟩
  · unfold fallS
    rw [hfa]
    cases n with
    | zero =>
      refine b_ext (fun i hi => ?_)
      dsimp only
      rw [rst_b (by omega) hi]
      show _ = bt 0 i
      rw [b_0]; simp
    | succ n => exact (fallN_t q).symm
  · unfold B0 at b1 ⊢
    rw [fr_I hf4 (by omega)]; exact b1
  · -- the last one of these
    have hex : ∃ l, l < n ∧ bt up l = true ∧ ∀ s, l < s → s < n → bt up s = false := by
      have key : ∀ m, m ≤ n → (∃ l, l < m ∧ bt up l = true ∧ ∀ s, l < s → s < m → bt up s = false) ∨ ∀ s, s < m → bt up s = false := by
        intro m
        induction m with
        | zero => intro _; exact Or.inr (fun s hs => by omega)
        | succ m ih =>
          intro hm
          cases e : bt up m
          · rcases ih (by omega) with ⟨l, a, b, c⟩ | a
            · refine Or.inl ⟨l, by omega, b, fun s h1 h2 => ?_⟩
              by_cases q2 : s = m
              · rw [q2]; exact e
              · exact c s h1 (by omega)
            · refine Or.inr (fun s hs => ?_)
              by_cases q2 : s = m
              · rw [q2]; exact e
              · exact a s (by omega)
          · exact Or.inl ⟨m, by omega, e, fun s h1 h2 => by omega⟩
      rcases key n (Nat.le_refl _) with hh | hh
      · exact hh
      · exfalso
        apply q
        have : upB up 0 = upB up n := upB_c (Nat.zero_le _) (fun s _ hs => hh s hs)
        unfold HallU
        rw [← this]
        exact HallU_0
    obtain ⟨l, hl, hbl, hal⟩ := hex
    rw [ok_bd]
    refine ok_mono (Q := fun v => v = nI l) ?_ (fun v hv => ?_)
    · refine ok_lp (fun k z => ∃ t, k = t - l ∧ l ≤ t ∧ t ≤ 10 ∧ z = nI t) ?_ F (10 - l) _ (by omega) ⟨10, rfl, by omega, Nat.le_refl _, rfl⟩
      rintro k z ⟨t, hk, ht, ht10, rfl⟩
      simp only [b_X12_fallen_2, b_X12_fallen_2c]
      rw [ok_ite, b_bit0 _ (show t < 32 by omega), rst_b (by omega) (by omega)]
      refine ⟨fun q2 => ?_, fun q2 => ok_some.mpr ?_⟩
      · have hne : t ≠ l := fun e => by rw [e, hbl] at q2; simp at q2; omega
        have e1 : nI t + (-1 : Int32) = nI (t - 1) := by
          have h3 : t = (t - 1) + 1 := by omega
          conv => lhs; rw [h3]
          exact pk_m1 (t - 1)
        exact ok_some.mpr ⟨t - 1 - l, by omega, t - 1, rfl, by omega, by omega, e1⟩
      · simp only [Bool.not_eq_false, Bool.and_eq_true, decide_eq_true_iff] at q2
        rcases Nat.lt_or_ge l t with q3 | q3
        · rw [hal t q3 q2.2] at q2; exact absurd q2.1 (by decide)
        · exact congrArg nI (by omega)
    · subst hv
      rw [ok_nm, ok_some]
      refine ⟨l, hl, l, rfl, by omega, b_ext (fun i hi => ?_), ?_, hf4⟩
      · dsimp only
        rw [b_and, b_not _ hi, b_one (by omega) hi, rst_b (by omega) hi, rst_b (by omega) hi]
        by_cases a : i < l
        · have : i < n := by omega
          have h2 : i ≠ l := by omega
          simp [a, this, h2]
        · by_cases b : i = l
          · subst b; simp
          · by_cases c : i < n
            · rw [hal i (by omega) c]; simp
            · simp [a, c]
      · rw [hfa]
        have key : ∀ m, l ≤ m → m ≤ n → fallN C mo up m = fallN C mo up l := by
          intro m
          induction m with
          | zero => intro a _; have : l = 0 := by omega
                    rw [this]
          | succ m ih =>
            intro a b
            by_cases e : l = m + 1
            · rw [e]
            · rw [fallN_f (fun q2 => q ?_)]
              · exact ih (by omega) (by omega)
              · unfold HallU at q2 ⊢
                rw [← upB_c (m := m + 1) (n := n) b (fun s h1 h2 => hal s (by omega) h2)]
                exact q2
        exact key n (by omega) (Nat.le_refl _)
