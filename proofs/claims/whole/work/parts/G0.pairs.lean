/-! BOTH SIDES, CALL BY CALL: from what is held between calls both answer the same, and it is held again -/
def INV (A : sty) (Q : nmt) (N : Nat) (M : mm) : Prop := AOK A N ∧ NOK A Q ∧ RCN A Q N M ∧ RMN A Q M
def pr2 {α : Type} (N : Nat) (cf mf : mm → Option (α × mm)) (M : mm) : Prop := ∃ a M1 M2 A Q, cf M = some (a, M1) ∧ mf M1 = some (a, M2) ∧ INV A Q (N + 1) M2
section PR
variable {α : Type} {A A' : sty} {Q : nmt} {N : Nat} {M : mm} {cf mf : mm → Option (α × mm)}
theorem pr_rel {Rl : α → Prop} (h : INV A Q N M) (g : AOK A' (N + 1)) (hc : aC A' = aC A) (hC : RC A N M → ok (cf M) (fun r => Rl r.1 ∧ RC A' (N + 1) r.2 ∧ FrC M r.2)) (hM : ∀ M1, RM A M1 → ok (mf M1) (fun r => Rl r.1 ∧ RM A' r.2 ∧ FrM M1 r.2)) (h1 : ∀ a b, Rl a → Rl b → a = b) : pr2 N cf mf M := by
  obtain ⟨i1, i2, i3, i4⟩ := h
  obtain ⟨⟨a, M1⟩, e1, q1, q2, q3⟩ := hC i3.1
  obtain ⟨k1, k2⟩ := RCN_of i3 q2 q3
  have k3 := RMN_FC i4 k2
  obtain ⟨⟨b, M2⟩, e2, p1, p2, p3⟩ := hM M1 k3.1
  obtain ⟨l1, l2⟩ := RMN_of k3 p2 p3
  have hab := h1 _ _ p1 q1
  dsimp only at hab
  subst hab
  exact ⟨_, M1, M2, A', Q, e1, e2, g, by unfold NOK; rw [hc]; exact i2, RCN_FM k1 l2, l1⟩
theorem pr_det {ans : α} (h : INV A Q N M) (g : AOK A' (N + 1)) (hc : aC A' = aC A) (hC : RC A N M → ok (cf M) (QC A' N M ans)) (hM : ∀ M1, RM A M1 → ok (mf M1) (QM A' M1 ans)) : pr2 N cf mf M :=
  pr_rel (Rl := fun x => x = ans) h g hc hC hM (fun a b e1 e2 => e1.trans e2.symm)
end PR
section PRS
variable {A : sty} {Q : nmt} {N : Nat} {M : mm}
theorem deed_c {α : Type} {A : sty} {e : Option mty} {no : α} {yes : mty → α} : aC (deedS A e no yes).2 = aC A := by cases e <;> rfl
theorem sT_c {A : sty} {T : List Int32} : aC (sT A T) = aC A := rfl
theorem pr_feed (a b c : Int64) (h : INV A Q N M) : pr2 N (m_X11_feed 5000 a b c) (m_X12_feed 5000 a b c) M :=
  pr_det (A' := sT A (feedT (aT A) a b c)) (ans := nI (feedT (aT A) a b c).length) h (feed_g h.1) sT_c (fun hr => feedC (by omega) h.1 hr) (fun M1 hr => feedM (by omega) h.1 hr)
theorem pr_person (a b : Int32) (h : INV A Q N M) : pr2 N (m_X11_person 5000 a b) (m_X12_person 5000 a b) M :=
  pr_det h (AOK_up h.1) rfl (fun hr => personC h.1 hr) (fun M1 hr => personM (by omega) h.1 hr)
theorem pr_oath (hN : N ≤ 1000) (a b : Int32) (h : INV A Q N M) : pr2 N (m_X11_oath 5000 a b) (m_X12_oath 5000 a b) M :=
  pr_det h (AOK_up h.1) rfl (fun hr => oathC (by omega) hN h.1 hr) (fun M1 hr => oathM (by omega) h.1 hr)
theorem pr_stone (a b : Int32) (h : INV A Q N M) : pr2 N (m_X11_stone 5000 a b) (m_X12_stone 5000 a b) M :=
  pr_det h (AOK_up h.1) rfl (fun hr => stoneC (by omega) h.1 hr) (fun M1 hr => stoneM (by omega) h.1 hr)
theorem pr_breaks (hN : N ≤ 1000) (a : Int32) (h : INV A Q N M) : pr2 N (m_X11_breaks 5000 a) (m_X12_breaks 5000 a) M :=
  pr_det h (A' := (breaksS A a).2) (deed_g h.1 (fun mo e => crackS_g h.1.1 (MG_up h.1.2.1.1 (by omega)) e)) deed_c (fun hr => breaksC (by omega) hN h.1 hr) (fun M1 hr => breaksM (by omega) h.1 hr)
theorem pr_forgive (hN : N ≤ 1000) (a : Int32) (h : INV A Q N M) : pr2 N (m_X11_forgive 5000 a) (m_X12_forgive 5000 a) M :=
  pr_det h (A' := (forgiveS A a).2) (deed_g h.1 (fun mo e => pardonS_g h.1.1 (MG_up h.1.2.1.1 (by omega)) e)) deed_c (fun hr => forgiveC (by omega) hN h.1 hr) (fun M1 hr => forgiveM (by omega) h.1 hr)
theorem pr_raise (hN : N ≤ 1000) (a : Int32) (h : INV A Q N M) : pr2 N (m_X11_raise 5000 a) (m_X12_raise 5000 a) M :=
  pr_det h (A' := (raiseS A a).2) (deed_g h.1 (fun mo e => liftS_g h.1.1 (MG_up h.1.2.1.1 (by omega)) e)) deed_c (fun hr => raiseC (by omega) hN h.1 hr) (fun M1 hr => raiseM (by omega) h.1 hr)
theorem pr_years (hN : N ≤ 1000) (a : Int32) (h : INV A Q N M) : pr2 N (m_X11_years 5000 a) (m_X12_years 5000 a) M :=
  pr_det h (A' := (yearsS A a).2) (years_g h.1) (by unfold yearsS; split; exact deed_c; rfl) (fun hr => yearsC (by omega) hN h.1 hr) (fun M1 hr => yearsM (by omega) hN h.1 hr)
theorem pr_undo (h : INV A Q N M) : pr2 N (m_X11_undo 5000) (m_X12_undo 5000) M :=
  pr_det h (A' := (undoS A).2) (undo_g h.1) (by unfold undoS; split <;> rfl) (fun hr => undoC h.1 hr) (fun M1 hr => undoM (by omega) h.1 hr)
theorem pr_judged (a : Int32) (h : INV A Q N M) : pr2 N (m_X11_judged 5000 a) (m_X12_judged 5000 a) M :=
  pr_det h (AOK_up h.1) rfl (fun hr => judgedC (by omega) h.1 hr) (fun M1 hr => judgedM (by omega) h.1 hr)
theorem pr_bears (hN : N ≤ 1000) (h : INV A Q N M) : pr2 N (m_X11_bears 5000) (m_X12_bears 5000) M :=
  pr_rel (Rl := fun x : Int32 => BeP (aC A) (aM A) x.toInt) h (AOK_up h.1) rfl (fun hr => bearsC (by omega) hN h.1 hr) (fun M1 hr => bearsM (by omega) h.1 hr) (fun a b e1 e2 => Int32.toInt_inj.mp (most_one e1 e2))
theorem pr_stands (hN : N ≤ 1000) (a : Int32) (h : INV A Q N M) : pr2 N (m_X11_stands 5000 a) (m_X12_stands 5000 a) M :=
  pr_det h (AOK_up h.1) rfl (fun hr => standsC (by omega) hN h.1 hr) (fun M1 hr => standsM (by omega) h.1 hr)
theorem pr_weakest (hN : N ≤ 1000) (a : Int32) (h : INV A Q N M) : pr2 N (m_X11_weakest 5000 a) (m_X12_weakest 5000 a) M :=
  pr_rel (Rl := WkA A a) h (AOK_up h.1) rfl (fun hr => weakestC (by omega) hN h.1 hr) (fun M1 hr => weakestM (by omega) h.1 hr) (fun a b e1 e2 => WkA_one e1 e2)
theorem pr_sure (hN : N ≤ 1000) (a : Int32) (h : INV A Q N M) : pr2 N (m_X11_sure 5000 a) (m_X12_sure 5000 a) M :=
  pr_det h (AOK_up h.1) rfl (fun hr => sureC (by omega) hN h.1 hr) (fun M1 hr => sureM (by omega) h.1 hr)
theorem pr_surest (hN : N ≤ 1000) (a b : Int32) (h : INV A Q N M) : pr2 N (m_X11_surest 5000 a b) (m_X12_surest 5000 a b) M :=
  pr_rel (Rl := SrA (aC A) (aM A) a b) h (AOK_up h.1) rfl (fun hr => surestC (by omega) hN h.1 hr) (fun M1 hr => surestM (by omega) h.1 hr) (fun a b e1 e2 => SrA_one e1 e2)
theorem pr_keep (hN : N ≤ 1000) (h : INV A Q N M) : pr2 N (m_X11_keep 5000) (m_X12_keep 5000) M :=
  pr_rel (Rl := KpA A) h (AOK_up h.1) rfl (fun hr => keepC (by omega) hN h.1 hr) (fun M1 hr => keepM (by omega) h.1 hr) (fun a b e1 e2 => KpA_one e1 e2)
theorem pr_repair (hN : N ≤ 1000) (a b : Int32) (h : INV A Q N M) : pr2 N (m_X11_repair 5000 a b) (m_X12_repair 5000 a b) M :=
  pr_rel (Rl := RpA (aC A) (aM A) a b) h (AOK_up h.1) rfl (fun hr => repairC (by omega) hN h.1 hr) (fun M1 hr => repairM (by omega) h.1 hr) (fun a b e1 e2 => RpA_one e1 e2)
theorem pr_hear (a : Int32) (b : Bool) (h : INV A Q N M) : pr2 N (m_X11_hear 5000 a (bI b)) (m_X12_hear 5000 a (bI b)) M :=
  pr_det h (A' := (hearS A a b).2) (hear_g h.1) (by unfold hearS; split <;> rfl) (fun hr => by
    have h1 := hearC (F := 5000) (x := a) (a := bI b) h.1 hr
    have h2 : decide (bI b ≠ 0) = b := by cases b <;> decide
    rw [h2] at h1; exact h1) (fun M1 hr => hearM h.1 hr)
theorem pr_broken (hN : N ≤ 1000) (a b : Int32) (h : INV A Q N M) : pr2 N (m_X11_broken 5000 a b) (m_X12_broken 5000 a b) M :=
  pr_det h (AOK_up h.1) rfl (fun hr => brokenC (by omega) hN h.1 hr) (fun M1 hr => brokenM (by omega) h.1 hr)
theorem pr_rests (hN : N ≤ 1000) (a : Int32) (h : INV A Q N M) : pr2 N (m_X11_rests 5000 a) (m_X12_rests 5000 a) M :=
  pr_det h (AOK_up h.1) rfl (fun hr => restsC (by omega) hN h.1 hr) (fun M1 hr => restsM (by omega) h.1 hr)
theorem pr_centuries (hN : N ≤ 1000) (a b c : Int32) (h : INV A Q N M) : pr2 N (m_X11_centuries 5000 a b c) (m_X12_centuries 5000 a b c) M :=
  pr_det h (AOK_up h.1) rfl (fun hr => centuriesC (by omega) hN h.1 hr) (fun M1 hr => centuriesM (by omega) h.1 hr)
theorem pr_mark (a : Int32) (b : Bool) (h : INV A Q N M) : pr2 N (m_X11_mark 5000 a (bI b)) (m_X12_mark 5000 a (bI b)) M :=
  pr_det h (A' := (markS A a b).2) (mark_g h.1) (by unfold markS; split; split; rfl; split <;> rfl; rfl) (fun hr => markC (by omega) h.1 hr) (fun M1 hr => markM (by omega) h.1 hr)
theorem pr_count (a : Int32) (h : INV A Q N M) : pr2 N (m_X11_count 5000 a) (m_X12_count 5000 a) M :=
  pr_det h (AOK_up h.1) rfl (fun hr => countC (by omega) h.1 hr) (fun M1 hr => countM (by omega) h.1 hr)
theorem pr_city (h : INV A Q N M) : pr2 N (m_X11_city 5000) (m_X12_city 5000) M := by
  obtain ⟨i1, i2, i3, i4⟩ := h
  obtain ⟨⟨a, M1⟩, e1, q1, q2, q3⟩ := cityC (F := 5000) (by omega) i1 i3
  have k3 := RMN_FC i4 q3
  have hg := city_g (F := 5000) (by omega) i1 i2 i4
  obtain ⟨⟨b, M2⟩, e2, p1, p2, p3⟩ := cityM (F := 5000) (by omega) i1 i2 k3
  have hab : b = a := p1.trans q1.symm
  subst hab
  exact ⟨_, M1, M2, _, _, e1, e2, hg.1, hg.2, RCN_FM q2 p3, p2⟩
theorem pr_life (h : INV A Q N M) : pr2 N (m_X11_life 5000) (m_X12_life 5000) M := by
  obtain ⟨i1, i2, i3, i4⟩ := h
  obtain ⟨⟨a, M1⟩, e1, q1, q2, q3⟩ := lifeC (F := 5000) (by omega) i1 i2 i3
  have k3 := RMN_FC i4 q3
  have hg := life_g i1 i2
  obtain ⟨⟨b, M2⟩, e2, p1, p2, p3⟩ := lifeM (F := 5000) (by omega) i1 i2 k3
  have hab : b = a := p1.trans q1.symm
  subst hab
  exact ⟨_, M1, M2, _, _, e1, e2, hg.1, hg.2, RCN_FM q2 p3, p2⟩
/-- gains, in range: both answer, nothing is thrown; out of range: the reference says so -/
theorem gainsM0 {F : Nat} (hF : 3000 < F) {A : sty} {N : Nat} {M : mm} {p b : Nat} (hA : AOK A N) (h : RM A M) (hp : p < cP (aC A)) (hb : b < 2 ^ cP (aC A)) : ok (m_X12_gains F (nI p) (nI b) M) (fun r => QM A M (gaN (aC A) (aM A) b p (cS (aC A))) r ∧ r.2.1 13 0 0 = 0 ∧ r.2.2.1 110 0 0 = M.2.1 110 0 0) := by
  have hP := hA.1.1.1
  have hp2 := p2_le (show cP (aC A) ≤ 10 by omega)
  have e0 : ∀ n : Nat, n < 2 ^ 31 → (0 : Int32) ≤ nI n := fun n hn => (nI_leI (by omega) hn : nI 0 ≤ nI n ↔ 0 ≤ n).mpr (Nat.zero_le _)
  unfold m_X12_gains
  rw [ok_cb]
  refine ok_mono (isPerson_ok h.1.1) (fun r hr => ?_)
  subst hr
  dsimp only
  rw [ok_bd]
  refine ok_mono (Q := fun v => v = (0 : Int32)) ?_ (fun v hv => ?_)
  · refine ok_jn (P := False) (fun q => q.elim) (fun k _ => ?_)
    rw [ok_ite, decide_eq_true_iff]
    refine ⟨fun _ => ?_, fun q => absurd ⟨e0 p (by omega), (nI_ltI (by omega) (by omega)).mpr hp⟩ q⟩
    rw [ok_ite]
    refine ⟨fun q => absurd q (nI_pos (by omega)), fun _ => ?_⟩
    rw [ok_gi, tc0, h.1.1.1.1, sh_pow _ (show cP (aC A) ≤ 10 by omega), ok_ite, nI_leI (by omega) (by omega)]
    exact ⟨vp_of (by decide), fun q => absurd q (by omega), fun _ => ok_some.mpr rfl⟩
  · subst hv
    rw [ok_nm]
    have h1 : RM A (sI M 13 0 0 0) := RM_fi h thr_f PT_GM
    have f1 : fi PV M (sI M 13 0 0 0) := fi_mono thr_f (fun k n i q => Or.inl q)
    have e : (sI M 13 0 0 0).1 13 0 0 = 0 := by rw [rII, if_pos ⟨rfl, rfl, rfl⟩]
    generalize sI M 13 0 0 0 = M1 at h1 f1 e ⊢
    rw [ok_ite, e]
    refine ⟨fun q => absurd q (by decide), fun _ => ?_⟩
    rw [ok_cl]
    refine ok_mono (hasBy_ok hF hA.1 h1.1 hA.2.1.1.2.2.2 hp) (fun r hr => ok_some.mpr ?_)
    obtain ⟨r1, r2, r3⟩ := hr
    have f2 : fi PV M r.2 := fi_tr f1 (fi_fr r3 (fun k n i q => Or.inr q))
    exact ⟨⟨r1, (RM_pv h f2 r2).1, (RM_pv h f2 r2).2⟩, by rw [fr_I r3 (by unfold PD; omega)]; exact e, fi_L f2 (by unfold PV PT PD; omega)⟩
/-- out of range -/
def gOut (C : cty) (p b : Int32) : Prop := ¬ (0 ≤ p ∧ p < nI (cP C)) ∨ b < 0 ∨ nI (2 ^ cP C) ≤ b
theorem gIn_of {C : cty} {p b : Int32} (hP : cP C ≤ 10) (h : ¬ gOut C p b) : ∃ p' b' : Nat, p = nI p' ∧ b = nI b' ∧ p' < cP C ∧ b' < 2 ^ cP C := by
  have hp2 := p2_le hP
  unfold gOut at h
  have h1 : 0 ≤ p ∧ p < nI (cP C) := by
    by_cases q : 0 ≤ p ∧ p < nI (cP C)
    · exact q
    · exact absurd (Or.inl q) h
  have h2 : ¬ b < 0 := fun q => h (Or.inr (Or.inl q))
  have h3 : ¬ nI (2 ^ cP C) ≤ b := fun q => h (Or.inr (Or.inr q))
  obtain ⟨n, hn, rfl⟩ := nI_of (Int32.not_lt.mpr h1.1)
  obtain ⟨k, hk, rfl⟩ := nI_of h2
  refine ⟨n, k, rfl, rfl, (nI_ltI hn (by omega)).mp h1.2, ?_⟩
  rcases Nat.lt_or_ge k (2 ^ cP C) with q | q
  · exact q
  · exact absurd ((nI_leI (by omega) hk).mpr q) h3
/-- what the law writes into its own row -/
theorem RCN_110 {v : Int64} (h : RCN A Q N M) : RCN A Q N (sL M 110 0 0 v) :=
  RCN_FM h ⟨rfl, fun k n i hk => ⟨rfl, by rw [rLL, if_neg (by omega)]⟩⟩
theorem RMN_110 {v : Int64} (h : RMN A Q M) : RMN A Q (sL M 110 0 0 v) := by
  have f : fi (fun k _ _ => k = 110) M (sL M 110 0 0 v) := fi_sL fi_rf rfl
  exact ⟨RM_fi h.1 f (fun k n i q => by unfold GM; omega), NmM_e h.2.1 (fun i => (f.2 66 0 i (by omega)).2), NmM_e h.2.2 (fun i => (f.2 67 0 i (by omega)).2)⟩
theorem pr_gains (hN : N ≤ 1000) (a b : Int32) (h : INV A Q N M) (hg : ¬ gOut (aC A) a b) : ∃ x M1, m_X11_gains 5000 a b M = some (x, M1) ∧ ∃ M2 A Q, m_X12_gains 5000 a b (sL M1 110 0 0 x.toInt64) = some (x, M2) ∧ M2.1 13 0 0 = 0 ∧ M2.2.1 110 0 0 = x.toInt64 ∧ INV A Q (N + 1) M2 := by
  obtain ⟨p, k, rfl, rfl, hp, hk⟩ := gIn_of (by have := h.1.1.1.1; omega) hg
  obtain ⟨i1, i2, i3, i4⟩ := h
  obtain ⟨⟨x, M1⟩, e1, q1, q2, q3⟩ := gainsC (F := 5000) (by omega) hN i1 i3.1 hp hk
  obtain ⟨k1, k2⟩ := RCN_of i3 q2 q3
  have k3 := RMN_110 (v := x.toInt64) (RMN_FC i4 k2)
  have k4 := RCN_110 (v := x.toInt64) k1
  obtain ⟨⟨y, M2⟩, e2, ⟨p1, p2, p3⟩, p4, p5⟩ := gainsM0 (F := 5000) (by omega) i1 k3.1 hp hk
  obtain ⟨l1, l2⟩ := RMN_of k3 p2 p3
  have hab : y = x := p1.trans q1.symm
  subst hab
  refine ⟨_, M1, e1, M2, A, Q, e2, p4, ?_, AOK_up i1, i2, RCN_FM k4 l2, l1⟩
  rw [p5]
  show (sL M1 110 0 0 _).2.1 110 0 0 = _
  rw [rLL, if_pos ⟨rfl, rfl, rfl⟩]
theorem gainsOut {F : Nat} (a b : Int32) (h : INV A Q N M) (hg : gOut (aC A) a b) : ∃ M2, m_X12_gains F a b M = some (0, M2) ∧ M2.1 13 0 0 = 1 ∧ INV A Q (N + 1) M2 := by
  obtain ⟨i1, i2, i3, i4⟩ := h
  have hP := i1.1.1.1
  have hp2 := p2_le (show cP (aC A) ≤ 10 by omega)
  have key : ok (m_X12_gains F a b M) (fun r => r = (0, sI M 13 0 0 1)) := by
    unfold m_X12_gains
    rw [ok_cb]
    refine ok_mono (isPerson_ok i4.1.1.1) (fun r hr => ?_)
    subst hr
    dsimp only
    rw [ok_bd]
    refine ok_mono (Q := fun v => v = (1 : Int32)) ?_ (fun v hv => ?_)
    · refine ok_jn (P := True) (fun _ => ok_some.mpr rfl) (fun k hj => ?_)
      rw [ok_ite, decide_eq_true_iff]
      refine ⟨fun q => ?_, fun _ => hj trivial⟩
      rw [ok_ite]
      refine ⟨fun _ => hj trivial, fun q2 => ?_⟩
      rw [ok_gi, tc0, i4.1.1.1.1.1, sh_pow _ (show cP (aC A) ≤ 10 by omega), ok_ite]
      refine ⟨vp_of (by decide), fun _ => hj trivial, fun q3 => ?_⟩
      exfalso
      rcases hg with g | g | g
      · exact g q
      · exact q2 g
      · exact q3 g
    · subst hv
      rw [ok_nm, ok_ite]
      refine ⟨fun _ => ok_some.mpr rfl, fun q => absurd (by rw [rII, if_pos ⟨rfl, rfl, rfl⟩]) q⟩
  obtain ⟨r, e, rfl⟩ := key
  have f : fi PT M (sI M 13 0 0 1) := thr_f
  refine ⟨_, e, by rw [rII, if_pos ⟨rfl, rfl, rfl⟩], AOK_up i1, i2, ?_, ?_⟩
  · have x := RCN_FM i3 (M' := sI M 13 0 0 1) ⟨f.1, fun k n i hk => f.2 k n i (by unfold PT; omega)⟩
    exact ⟨RC_up x.1, x.2⟩
  · exact ⟨RM_fi i4.1 f PT_GM, NmM_e i4.2.1 (fun i => (f.2 66 0 i (by unfold PT; omega)).2), NmM_e i4.2.2 (fun i => (f.2 67 0 i (by unfold PT; omega)).2)⟩
end PRS
