/-! all that is held between calls, names too; the class's city -/
abbrev nmt : Type := List (List Nat) × List (List Nat)
def RCN (A : sty) (Q : nmt) (N : Nat) (M : mm) : Prop := RC A N M ∧ NmC 24 (M.2.2 12 0 6) Q.1 M ∧ NmC 30 (M.2.2 12 0 6) Q.2 M ∧ WrC M
def RMN (A : sty) (Q : nmt) (M : mm) : Prop := RM A M ∧ NmM 66 0 Q.1 M ∧ NmM 67 0 Q.2 M
def NOK (A : sty) (Q : nmt) : Prop := Q.1.length = cO (aC A) ∧ Q.2.length = cS (aC A)
def FC (M M' : mm) : Prop := ∀ k n i, (k = 13 ∨ 63 ≤ k) → M'.1 k n i = M.1 k n i ∧ M'.2.1 k n i = M.2.1 k n i
def FM (M M' : mm) : Prop := M'.2.2 = M.2.2 ∧ ∀ k n i, (k ≠ 13 ∧ k < 63) → M'.1 k n i = M.1 k n i ∧ M'.2.1 k n i = M.2.1 k n i
theorem NmC_e {k o o' : Nat} {N : List (List Nat)} {M M' : mm} (h : NmC k o N M) (ho : o' = o) (e : ∀ i, M'.2.1 k o i = M.2.1 k o i) : NmC k o' N M' := ⟨fun i w hi => by rw [ho, e]; exact h.1 i w hi, h.2⟩
theorem NmM_e {k a : Nat} {N : List (List Nat)} {M M' : mm} (h : NmM k a N M) (e : ∀ i, M'.2.1 k 0 i = M.2.1 k 0 i) : NmM k a N M' := ⟨fun i w hi => by rw [e]; exact h.1 i w hi, h.2⟩
/-- the calls that leave the names -/
theorem RCN_of {A A' : sty} {Q : nmt} {N : Nat} {M M' : mm} (h : RCN A Q N M) (h1 : RC A' (N + 1) M') (f : FrC M M') : RCN A' Q (N + 1) M' ∧ FC M M' := by
  obtain ⟨-, n1, n2, n3⟩ := h
  exact ⟨⟨h1, NmC_e n1 (f.1 0 6) (fun i => (f.2 24 _ i (by omega)).2), NmC_e n2 (f.1 0 6) (fun i => (f.2 30 _ i (by omega)).2), fun i hi => by rw [(f.2 41 0 i (by omega)).2]; exact n3 i hi⟩, fun k n i hk => f.2 k n i (by omega)⟩
theorem RMN_of {A A' : sty} {Q : nmt} {M M' : mm} (h : RMN A Q M) (h1 : RM A' M') (f : FrM M M') : RMN A' Q M' ∧ FM M M' := by
  obtain ⟨-, n1, n2⟩ := h
  exact ⟨⟨h1, NmM_e n1 (fun i => (f.2 66 0 i (by omega)).2), NmM_e n2 (fun i => (f.2 67 0 i (by omega)).2)⟩, f.1, fun k n i hk => f.2 k n i (Or.inl hk)⟩
/-- what the one leaves of the other's -/
theorem RCN_FM {A : sty} {Q : nmt} {N : Nat} {M M' : mm} (h : RCN A Q N M) (f : FM M M') : RCN A Q N M' := by
  obtain ⟨h0, n1, n2, n3⟩ := h
  obtain ⟨o, d, hod, h2, h3, h4, h5, h6⟩ := h0
  have g : fi (fun k _ _ => k = 13 ∨ 63 ≤ k) M M' := ⟨f.1, fun k n i hk => f.2 k n i (by omega)⟩
  refine ⟨⟨o, d, hod, by rw [f.1]; exact h2, by rw [f.1]; exact h3, RCs_fi h4 (fi_mono g (fun k n i q => by unfold GC; omega)), CS_fi h5 g (fun k n i q => by omega), WhI_fi h6 g (fun k n i q => by omega)⟩, NmC_e n1 (by rw [f.1]) (fun i => (f.2 24 _ i (by omega)).2), NmC_e n2 (by rw [f.1]) (fun i => (f.2 30 _ i (by omega)).2), fun i hi => by rw [(f.2 41 0 i (by omega)).2]; exact n3 i hi⟩
theorem RMN_FC {A : sty} {Q : nmt} {M M' : mm} (h : RMN A Q M) (f : FC M M') : RMN A Q M' := by
  obtain ⟨h0, n1, n2⟩ := h
  have g : fi (fun k _ _ => k ≠ 13 ∧ k < 63) M (M'.1, M'.2.1, M.2.2) := ⟨rfl, fun k n i hk => f k n i (by omega)⟩
  have := RM_fi h0 g (fun k n i q => by unfold GM; omega)
  exact ⟨this, NmM_e n1 (fun i => (f 66 0 i (by omega)).2), NmM_e n2 (fun i => (f 67 0 i (by omega)).2)⟩
/-- a new city -/
noncomputable def newA (D : dft) : sty := (ctyD D, beginS (ctyD D), [], fun _ => none, [], [], [])
theorem newA_g {D : dft} {N : Nat} (hk : DOK D) : AOK (newA D) N := by
  have hw := ctyD_WF hk
  have hb := beginS_g hw
  have hL : LfOk (ctyD D) [] := ⟨Nat.zero_le _, fun e he => by cases he⟩
  have hH : HdOk (ctyD D) [] := ⟨Nat.zero_le _, fun e he => by cases he⟩
  exact ⟨hw, ⟨MG_up hb.1 (Nat.zero_le _), hb.2⟩, ⟨Nat.zero_le _, fun u hu => by cases hu⟩, fun k v hv => (by cases hv), hL, hH, Nat.zero_le _, fun x hx => by cases hx⟩
/-- the city call: answer, state, names -/
noncomputable def cityS (A : sty) (Q : nmt) : Int32 × sty × nmt := match spCity (aT A) with
  | .inl (k, q) => (nI (k + 16 * tkB (aT A) q), sT A [], Q)
  | .inr D => (0, newA D, (dOn D, dSn D))
theorem AtT {A : sty} {N : Nat} (hA : AOK A N) : TgOk (aT A) := hA.2.2.2.2.2.2
theorem tkB_le {T : List Int32} {p : Nat} (h : p ≤ T.length) : tkB T p ≤ T.length := rn_le h
theorem bad_ne {k q : Nat} {T : List Int32} (hT : T.length ≤ 1000) (hk : 1 ≤ k ∧ k ≤ 5) (hq : q ≤ T.length) : ¬ nI (k + 16 * tkB T q) = (0 : Int32) := fun e => by
  have := tkB_le hq
  have := (nI_eq (b := 0) (by omega) (by decide) : nI (k + 16 * tkB T q) = nI 0 ↔ _).mp e
  omega
theorem cityC {F : Nat} (hF : 2000 < F) {A : sty} {Q : nmt} {N : Nat} {M : mm} (hA : AOK A N) (h : RCN A Q N M) : ok (m_X11_city F M) (fun r => r.1 = (cityS A Q).1 ∧ RCN (cityS A Q).2.1 (cityS A Q).2.2 (N + 1) r.2 ∧ FC M r.2) := by
  obtain ⟨h0, n1, n2, n3⟩ := h
  obtain ⟨o, d, hod, h2, h3, h4, h5, h6⟩ := h0
  have hT := AtT hA
  rw [h2] at n1 n2
  unfold m_X11_city cityS
  rw [h3, ok_cl]
  refine ok_mono (readCity_ok hF (d := d) (by omega) (T := aT A) ⟨h4.2.2.2.2.2, n3, hT⟩) (fun r hr => ?_)
  obtain ⟨x2, M1⟩ := r
  obtain ⟨⟨l, hl, fz⟩, t1, hr⟩ := hr
  dsimp only at fz t1
  have p6 : M1.2.2 12 0 6 = o := by rw [fz.1, rRR, if_neg (by omega), rRR, if_neg (by omega)]; exact h2
  have p7 : M1.2.2 12 0 7 = d := by rw [fz.1, rRR, if_neg (by omega), rRR, if_neg (by omega)]; exact h3
  have p1 : M1.2.2 11 0 1 = M.2.2 11 0 1 := by rw [fz.1, rRR, if_neg (by omega), rRR, if_neg (by omega)]
  have fb : ∀ k n i, ¬ PRd d k n i → M1.1 k n i = M.1 k n i ∧ M1.2.1 k n i = M.2.1 k n i := fz.2
  rw [ok_cv]
  unfold m_X6_clear
  rw [ok_nm, ok_nm, ok_some]
  have f3 : fi (fun k n i => k = 7 ∧ n = 0 ∧ (i = 2 ∨ i = 3)) M1 (sI (sI M1 7 0 2 0) 7 0 3 0) := fi_sI (fi_sI fi_rf ⟨rfl, rfl, Or.inl rfl⟩) ⟨rfl, rfl, Or.inr rfl⟩
  have u2 : (sI (sI M1 7 0 2 0) 7 0 3 0).1 7 0 2 = 0 := by rw [rII, if_neg (by omega), rII, if_pos ⟨rfl, rfl, rfl⟩]
  generalize sI (sI M1 7 0 2 0) 7 0 3 0 = M3 at f3 u2 ⊢
  have tp0 : ∀ M' : mm, M'.1 7 0 2 = 0 → TpC M' [] := fun M' e => ⟨e, fun i x hx => by cases hx⟩
  rw [ok_ite]
  obtain ⟨c1, c2⟩ := city_b hT.1
  cases hS : spCity (aT A) with
  | inl z =>
    obtain ⟨k, q⟩ := z
    rw [hS] at hr
    have hr : x2 = nI (k + 16 * tkB (aT A) q) := hr
    obtain ⟨b1, b2⟩ := c1 k q hS
    subst hr
    refine ⟨fun e => absurd e (bad_ne hT.1 b1 b2), fun _ => ok_some.mpr ⟨rfl, ?_, ?_⟩⟩
    · -- the town stays
      have g : fi (fun k n i => PRd d k n i ∨ (k = 7 ∧ n = 0 ∧ (i = 2 ∨ i = 3))) M (M3.1, M3.2.1, M.2.2) := ⟨rfl, fun k n i hk => by
        have a := f3.2 k n i (fun q => hk (Or.inr q))
        have b := fb k n i (fun q => hk (Or.inl q))
        exact ⟨a.1.trans b.1, a.2.trans b.2⟩⟩
      have gF : fr (fun k n => ∃ i, PRd d k n i ∨ (k = 7 ∧ n = 0 ∧ (i = 2 ∨ i = 3))) M (M3.1, M3.2.1, M.2.2) := fr_fi g
      obtain ⟨r1, r2, r3, r4, r5, -⟩ := h4
      have e : ∀ k n i, (k = 5 ∨ k = 9 ∨ k = 12 ∨ k = 45 ∨ k = 46 ∨ k = 11 ∨ k = 55 ∨ k = 56 ∨ k = 48) → M3.1 k n i = M.1 k n i := fun k n i hk => (g.2 k n i (by unfold PRd PT6 P7; omega)).1
      have en : ∀ k i, (k = 24 ∨ k = 30) → M3.2.1 k o i = M.2.1 k o i := fun k i hk => (g.2 k o i (by unfold PRd PT6 P7; omega)).2
      have hcs : CS (aC A) o (M3.1, M3.2.1, M.2.2) := ⟨CV_fr h5.1 gF (fun k hk q => by obtain ⟨i, q⟩ := q; unfold PRd PT6 P7 at q; omega), fun y hy => by
        have := h5.2 y hy
        unfold lfM at this ⊢
        show 0 ≤ (M3.1 48 0 y).toInt
        rw [e 48 0 y (by omega)]; exact this⟩
      refine ⟨⟨o, d, hod, by rw [f3.1]; exact p6, by rw [f3.1]; exact p7, ⟨MoM_c r1 (fun j _ => e 5 7 j (by omega)), UnC_c r2 (fun j _ => e 12 0 j (by omega)) (fun n j _ _ => e 5 n j (by omega)), MkC_c r3 (e 12 0 17 (by omega)) (fun n j _ _ => e 5 n j (by omega)) (fun k n j hk _ _ => e k n j (by omega)), ToL_c r4 (fun k j hk => e k 0 j (by omega)), ToH_c r5 (fun j => e 9 0 j (by omega)), tp0 M3 u2⟩, hcs, ?_⟩, ?_, ?_, ?_⟩
      · refine WhI_up ?_
        have hw := WhI_fi h6 g (fun k n i q => by unfold PRd PT6 P7 at q; omega)
        obtain ⟨a, b⟩ := hw
        refine ⟨a, b.imp id (fun ⟨b1, b2, b3⟩ => ⟨b1, ?_, b3⟩)⟩
        show M3.2.2 11 0 1 = o
        rw [f3.1, p1]; exact b2
      · exact NmC_e n1 (by rw [f3.1]; exact p6) (fun i => en 24 i (by omega))
      · exact NmC_e n2 (by rw [f3.1]; exact p6) (fun i => en 30 i (by omega))
      · intro i hi
        rw [(g.2 41 0 i (by unfold PRd PT6 P7; omega)).2]; exact n3 i hi
    · intro k n i hk
      have a := f3.2 k n i (by omega)
      have b := fb k n i (by unfold PRd PT6 P7; omega)
      exact ⟨a.1.trans b.1, a.2.trans b.2⟩
  | inr D =>
    rw [hS] at hr
    obtain ⟨hr, hD, hk⟩ := hr
    dsimp only at hr hD
    subst hr
    refine ⟨fun _ => ?_, fun e => absurd rfl e⟩
    rw [ok_nm, ok_nm, ok_nm, ok_cv, f3.1, p6, p7]
    unfold m_X8_clear
    rw [ok_nm, ok_nm, ok_nm, ok_nm, ok_some, ok_nm, ok_nm, ok_cv]
    unfold m_X10_forget
    rw [ok_nm, ok_some, ok_cv]
    have f10 : ∀ k n i, ¬ ((k = 9 ∧ n = 0) ∨ (k = 12 ∧ (i = 14 ∨ i = 17)) ∨ (k = 11 ∧ i = 7)) → (sI (sI (sI (sI (sI (sI (sI (sR (sR M3 12 0 6 d) 12 0 7 o) 9 0 0 0) 9 0 3 0) 9 0 4 0) 9 0 5 0) 12 0 14 0) 12 0 17 0) 11 0 7 0).1 k n i = M3.1 k n i ∧ (sI (sI (sI (sI (sI (sI (sI (sR (sR M3 12 0 6 d) 12 0 7 o) 9 0 0 0) 9 0 3 0) 9 0 4 0) 9 0 5 0) 12 0 14 0) 12 0 17 0) 11 0 7 0).2.1 k n i = M3.2.1 k n i := fun k n i hk => by
      refine ⟨?_, rfl⟩
      simp only [rII, rRI]
      rw [if_neg (by omega), if_neg (by omega), if_neg (by omega), if_neg (by omega), if_neg (by omega), if_neg (by omega), if_neg (by omega)]
    have v10 : (sI (sI (sI (sI (sI (sI (sI (sR (sR M3 12 0 6 d) 12 0 7 o) 9 0 0 0) 9 0 3 0) 9 0 4 0) 9 0 5 0) 12 0 14 0) 12 0 17 0) 11 0 7 0).1 9 0 0 = 0 ∧ (sI (sI (sI (sI (sI (sI (sI (sR (sR M3 12 0 6 d) 12 0 7 o) 9 0 0 0) 9 0 3 0) 9 0 4 0) 9 0 5 0) 12 0 14 0) 12 0 17 0) 11 0 7 0).1 9 0 3 = 0 ∧ (sI (sI (sI (sI (sI (sI (sI (sR (sR M3 12 0 6 d) 12 0 7 o) 9 0 0 0) 9 0 3 0) 9 0 4 0) 9 0 5 0) 12 0 14 0) 12 0 17 0) 11 0 7 0).1 9 0 4 = 0 ∧ (sI (sI (sI (sI (sI (sI (sI (sR (sR M3 12 0 6 d) 12 0 7 o) 9 0 0 0) 9 0 3 0) 9 0 4 0) 9 0 5 0) 12 0 14 0) 12 0 17 0) 11 0 7 0).1 9 0 5 = 0 ∧ (sI (sI (sI (sI (sI (sI (sI (sR (sR M3 12 0 6 d) 12 0 7 o) 9 0 0 0) 9 0 3 0) 9 0 4 0) 9 0 5 0) 12 0 14 0) 12 0 17 0) 11 0 7 0).1 12 0 14 = 0 ∧ (sI (sI (sI (sI (sI (sI (sI (sR (sR M3 12 0 6 d) 12 0 7 o) 9 0 0 0) 9 0 3 0) 9 0 4 0) 9 0 5 0) 12 0 14 0) 12 0 17 0) 11 0 7 0).1 12 0 17 = 0 ∧ (sI (sI (sI (sI (sI (sI (sI (sR (sR M3 12 0 6 d) 12 0 7 o) 9 0 0 0) 9 0 3 0) 9 0 4 0) 9 0 5 0) 12 0 14 0) 12 0 17 0) 11 0 7 0).1 11 0 7 = 0 := by
      simp [rII]
    have w10 : (sI (sI (sI (sI (sI (sI (sI (sR (sR M3 12 0 6 d) 12 0 7 o) 9 0 0 0) 9 0 3 0) 9 0 4 0) 9 0 5 0) 12 0 14 0) 12 0 17 0) 11 0 7 0).2.2 12 0 6 = d ∧ (sI (sI (sI (sI (sI (sI (sI (sR (sR M3 12 0 6 d) 12 0 7 o) 9 0 0 0) 9 0 3 0) 9 0 4 0) 9 0 5 0) 12 0 14 0) 12 0 17 0) 11 0 7 0).2.2 12 0 7 = o := by
      simp [rIR, rRR]
    generalize sI (sI (sI (sI (sI (sI (sI (sR (sR M3 12 0 6 d) 12 0 7 o) 9 0 0 0) 9 0 3 0) 9 0 4 0) 9 0 5 0) 12 0 14 0) 12 0 17 0) 11 0 7 0 = M10 at f10 v10 w10 ⊢
    obtain ⟨w6, w7⟩ := w10
    obtain ⟨v90, v93, v94, v95, v14, v17, v11⟩ := v10
    -- from the start to here
    have g : ∀ k n i, ¬ (PRd d k n i ∨ (k = 7 ∧ n = 0 ∧ (i = 2 ∨ i = 3)) ∨ (k = 9 ∧ n = 0) ∨ (k = 12 ∧ (i = 14 ∨ i = 17)) ∨ (k = 11 ∧ i = 7)) → M10.1 k n i = M.1 k n i ∧ M10.2.1 k n i = M.2.1 k n i := fun k n i hk => by
      have a := f10 k n i (fun q => hk (Or.inr (Or.inr q)))
      have b := f3.2 k n i (fun q => hk (Or.inr (Or.inl q)))
      have c := fb k n i (fun q => hk (Or.inl q))
      exact ⟨a.1.trans (b.1.trans c.1), a.2.trans (b.2.trans c.2)⟩
    have gd : fr (fun k _ => k = 7 ∨ k = 9 ∨ k = 12 ∨ k = 11) M1 (M10.1, M10.2.1, M1.2.2) := ⟨rfl, fun k n hk => by
      constructor <;> funext i
      · exact (f10 k n i (by omega)).1.trans (f3.2 k n i (by omega)).1
      · exact (f10 k n i (by omega)).2.trans (f3.2 k n i (by omega)).2⟩
    have hcs : CS (ctyD D) d (M10.1, M10.2.1, M1.2.2) := ⟨CV_fr (ctyD_CV hD hk) gd (fun k hk q => by omega), fun y hy => by
      have := h5.2 y hy
      unfold lfM at this ⊢
      show 0 ≤ (M10.1 48 0 y).toInt
      rw [(g 48 0 y (by unfold PRd PT6 P7; omega)).1]; exact this⟩
    have hcs : CS (ctyD D) d M10 := hcs
    rw [w6]
    refine ok_mono (begin_ok hF (ctyD_WF hk) hcs (i := 7)) (fun M11 h11 => ok_some.mpr ⟨rfl, ?_, ?_⟩)
    · obtain ⟨c11, m11, f11⟩ := h11
      have e : ∀ k n i, ¬ PE d 7 k n → M11.1 k n i = M10.1 k n i := fun k n i hk => fr_I f11 hk i
      have eL : ∀ k n i, ¬ PE d 7 k n → M11.2.1 k n i = M10.2.1 k n i := fun k n i hk => fr_L f11 hk i
      have p : ∀ k n, k ≠ 5 → k ≠ 10 → k ≤ 35 ∨ (39 ≤ k ∧ k ≤ 46) ∨ 55 ≤ k → ¬ PE d 7 k n := fun k n a b c q => by unfold PE PW at q; omega
      obtain ⟨fq, hfq, e13⟩ : ∃ f, f < 16 ∧ M.1 12 0 13 = nI f := by
        obtain ⟨-, f, a, b, -⟩ := h4.2.1
        exact ⟨f, a, b⟩
      have a12 : ∀ j, M11.1 12 0 j = M10.1 12 0 j := fun j => e 12 0 j (p 12 0 (by omega) (by omega) (by omega))
      have a9 : ∀ j, M11.1 9 0 j = M10.1 9 0 j := fun j => e 9 0 j (p 9 0 (by omega) (by omega) (by omega))
      have nm : ∀ k i, (k = 24 ∨ k = 30) → M11.2.1 k d i = M1.2.1 k d i := fun k i hk => (eL k d i (p k d (by omega) (by omega) (by omega))).trans ((f10 k d i (by omega)).2.trans (f3.2 k d i (by omega)).2)
      refine ⟨⟨d, o, by omega, by rw [f11.1]; exact w6, by rw [f11.1]; exact w7, ⟨m11, ⟨?_, fq, hfq, ?_, fun i u hu => by cases hu⟩, fun k hk => ⟨?_, fun v hv => by cases hv⟩, ⟨?_, fun i e he => by cases he⟩, ⟨?_, fun s hs => ?_, fun s hs => ?_⟩, tp0 M11 ?_⟩, c11, ?_⟩, ?_, ?_, ?_⟩
      · show M11.1 12 0 14 = 0
        rw [a12]; exact v14
      · rw [a12, (g 12 0 13 (by unfold PRd PT6 P7; omega)).1]; exact e13
      · rw [a12, v17, b_0]; rfl
      · show M11.1 9 0 0 = 0
        rw [a9]; exact v90
      · show M11.1 9 0 3 = 0
        rw [a9]; exact v93
      · rw [a9, v94, b_0]
        exact ⟨fun q => (by cases q), fun q => by cases q⟩
      · rw [a9, v95, b_0]
        exact ⟨fun q => (by cases q), fun q => by cases q⟩
      · rw [e 7 0 2 (p 7 0 (by omega) (by omega) (by omega)), (f10 7 0 2 (by omega)).1]; exact u2
      · obtain ⟨⟨S, s1, s2, s3⟩, -⟩ := h6
        refine ⟨⟨S, by omega, ?_, fun j hj => ?_⟩, Or.inl ?_⟩
        · rw [e 11 0 6 (p 11 0 (by omega) (by omega) (by omega)), (g 11 0 6 (by unfold PRd PT6 P7; omega)).1]; exact s2
        · rw [e 56 0 j (p 56 0 (by omega) (by omega) (by omega)), (g 56 0 j (by unfold PRd PT6 P7; omega)).1]; exact s3 j hj
        · rw [e 11 0 7 (p 11 0 (by omega) (by omega) (by omega))]; exact v11
      · exact NmC_e hD.2.2.1.2.1 (by rw [f11.1]; exact w6) (fun i => nm 24 i (by omega))
      · exact NmC_e hD.2.2.1.2.2 (by rw [f11.1]; exact w6) (fun i => nm 30 i (by omega))
      · intro i hi
        rw [eL 41 0 i (p 41 0 (by omega) (by omega) (by omega)), (g 41 0 i (by unfold PRd PT6 P7; omega)).2]; exact n3 i hi
    · intro k n i hk
      have a := g k n i (by unfold PRd PT6 P7; omega)
      have hp : ¬ PE d 7 k n := fun q => by unfold PE PW at q; omega
      exact ⟨(fr_I h11.2.2 hp i).trans a.1, (fr_L h11.2.2 hp i).trans a.2⟩
