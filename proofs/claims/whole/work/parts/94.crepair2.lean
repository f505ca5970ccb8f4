/-! the class's repair: the turns -/
def PFr (o : Nat) : Nat → Nat → Nat → Prop := fun k n i => PW o k n ∨ (k = 5 ∧ 3 ≤ n ∧ n ≤ 6) ∨ k = 43 ∨ k = 44 ∨ (k = 8 ∧ i = 5)
def FrS (C : cty) (o Y many : Nat) (T : bst) (M0 : mm) (n : Nat) (s : Int32 × Int32 × mm) : Prop :=
  ∃ turn, s.2.1 = nI turn ∧ turn + n ≤ 1221 ∧ CS C o s.2.2 ∧ fi (PFr o) M0 s.2.2 ∧ ((s.1 = -1 ∧ BeM T s.2.2) ∨ ∃ mo x fs b, n = msT C (many - fs.length - 1) x + msF C many fs ∧ s.1 = nI fs.length ∧ fs.length < many ∧ (MoM (3 + fs.length) s.2.2 mo ∧ MG C mo (Y + fs.length)) ∧ s.2.2.1 43 0 fs.length + 1 = nI x ∧ x ≤ cO C ∧ FrI C Y s.2.2 fs ∧ BeM b s.2.2 ∧ ctF C many fs (itF (chF C (many - fs.length - 1) mo (rowOf fs)) (cO C - x) x b) = T)
theorem frow_ok {F : Nat} (hF : 2000 < F) {C : cty} {o Y many : Nat} {T : bst} {M0 : mm} (hY : Y + 5 < 2 ^ 31) (hw : WF C) (hm : 1 ≤ many ∧ many ≤ 3) {n : Nat} {s : Int32 × Int32 × mm} (h : FrS C o Y many T M0 n s) :
    ok (b_X7_findRow_1 F o (nI many) s) (Sum.elim (fun s' => ∃ k, k < n ∧ FrS C o Y many T M0 k s') (fun M' => CS C o M' ∧ fi (PFr o) M0 M' ∧ BeM T M')) := by
  have hO := hw.1.2.1
  obtain ⟨x4, x5, M6⟩ := s
  obtain ⟨turn, e1, ht, c6, f6, h⟩ := h
  dsimp only at e1 c6 f6 h
  subst e1
  simp only [b_X7_findRow_1, b_X7_findRow_1c]
  have e10 : (10000 : Int32) ≤ nI turn ↔ 10000 ≤ turn := (nI_leI (by omega) (by omega) : nI 10000 ≤ nI turn ↔ 10000 ≤ turn)
  rw [ok_ite, e10]
  rcases h with ⟨rfl, hb⟩ | ⟨mo, x, fs, b, en, rfl, hl, ⟨m6, g6⟩, h43, hx, hfr, hb, hct⟩
  · refine ⟨fun _ => ok_some.mpr ⟨c6, f6, hb⟩, fun _ => ?_⟩
    rw [ok_ite]
    exact ⟨fun _ => ok_some.mpr ⟨c6, f6, hb⟩, fun q => absurd (by decide) q⟩
  have hn1 : 1 ≤ n := by unfold msT at en; omega
  refine ⟨fun q => by omega, fun _ => ?_⟩
  have hin : vp_in (nI fs.length) 3 := vp_in_nI (by omega) (by decide)
  rw [ok_ite]
  refine ⟨fun q => absurd q (nI_pos (by omega)), fun _ => ?_⟩
  rw [ok_gi, ok_gi, ok_nm, nI_clamp (by omega), h43]
  refine ⟨hin, hin, ?_⟩
  have f7 : fi (fun k _ i => k = 43 ∧ i = fs.length) M6 (sI M6 43 0 fs.length (nI x)) := fi_sI fi_rf ⟨rfl, rfl⟩
  have v7 : (sI M6 43 0 fs.length (nI x)).1 43 0 fs.length = nI x := by rw [rII, if_pos ⟨rfl, rfl, rfl⟩]
  generalize sI M6 43 0 fs.length (nI x) = M7 at f7 v7 ⊢
  have c7 : CS C o M7 := CS_fi c6 f7 (fun k n i q => by omega)
  have m7 : MoM (3 + fs.length) M7 mo := MoM_c m6 (fun j _ => fi_I f7 (by omega))
  have fr7 : FrI C Y M7 fs := FrI_c fs hfr (fun n j _ _ => fi_I f7 (by omega)) (fun i hi => fi_I f7 (by omega))
  have b7 : BeM b M7 := BeM_c hb (fi_I f7 (by omega)) (fun i => fi_I f7 (by omega))
  have f07 : fi (PFr o) M0 M7 := fi_tr f6 (fi_mono f7 (fun k n i q => Or.inr (Or.inr (Or.inl q.1))))
  rw [ok_gi, ok_bd, v7, c7.1.1.1.2.1]
  refine ⟨hin, ?_⟩
  refine ok_mono (Q := fun z => ∃ k, k < n ∧ ∀ t, t + k ≤ 1221 → FrS C o Y many T M0 k (z.1, nI t, z.2)) ?_ (fun z hz => ?_)
  · rw [ok_ite, nI_ltI (by omega) (by omega)]
    refine ⟨fun q => ?_, fun q => ok_some.mpr ?_⟩
    · -- the next one of this level
      have key : msT C (many - fs.length - 1) x = 1 + tuW C (many - fs.length - 1) + msT C (many - fs.length - 1) (x + 1) := by
        unfold msT
        have : cO C - x = (cO C - (x + 1)) + 1 := by omega
        rw [this, Nat.add_mul]; omega
      have hit : ctF C many fs (itF (chF C (many - fs.length - 1) mo (rowOf fs)) (cO C - (x + 1)) (x + 1) (chF C (many - fs.length - 1) mo (rowOf fs) x b)) = T := by
        rw [← hct, show cO C - x = (cO C - (x + 1)) + 1 by omega]; rfl
      rw [ok_cb]
      refine ok_mono (apologise_ok (Y := Y + fs.length) hF (by omega) hw c7 (by omega) m7 g6 v7) (fun r hr => ?_)
      obtain ⟨b9, M8⟩ := r
      obtain ⟨r1, r2, r3, r4⟩ := hr
      dsimp only at r1 r2 r3 r4 ⊢
      have f8 : fi (PFr o) M0 M8 := fi_tr f07 (fi_fr r4 (fun k n i q => by unfold PE at q; unfold PFr; rcases q with q | q; exact Or.inl q; exact Or.inr (Or.inl (by omega))))
      have m8 : MoM (3 + fs.length) M8 mo := MoM_c m7 (fun j _ => fr_I r4 (by unfold PE PW; omega) j)
      have v8 : M8.1 43 0 fs.length = nI x := (fr_I r4 (by unfold PE PW; omega) _).trans v7
      have fr8 : FrI C Y M8 fs := FrI_c fs fr7 (fun n j _ _ => fr_I r4 (by unfold PE PW; omega) j) (fun i hi => fr_I r4 (by unfold PE PW; omega) i)
      have b8 : BeM b M8 := BeM_c b7 (fr_I r4 (by unfold PE PW; omega) 5) (fun i => fr_I r4 (by unfold PE PW; omega) i)
      rw [ok_ite, r1]
      cases e : apS C mo x with
      | none =>
        refine ⟨fun q => (by cases q), fun _ => ok_some.mpr ?_⟩
        have ec : chF C (many - fs.length - 1) mo (rowOf fs) x b = b := by unfold chF; rw [e]
        rw [ec] at hit
        exact ⟨msT C (many - fs.length - 1) (x + 1) + msF C many fs, by omega, fun t htt => ⟨t, rfl, htt, r2, f8, Or.inr ⟨mo, x + 1, fs, b, rfl, rfl, hl, ⟨m8, g6⟩, by rw [v8, nI_1], by omega, fr8, b8, hit⟩⟩⟩
      | some m =>
        refine ⟨fun _ => ?_, fun q => absurd rfl q⟩
        have hm8 := r3 m e
        have eN : nI fs.length + 1 = nI (fs.length + 1) := nI_1 _
        rw [ok_ite, eN, nI_leI (by omega) (by omega)]
        refine ⟨fun q2 => ?_, fun q2 => ?_⟩
        · -- a row is whole
          have em : many = fs.length + 1 := by omega
          have ek : many - fs.length - 1 = 0 := by omega
          rw [ok_gi, ok_cl, nI_clamp (by omega)]
          refine ⟨vp_in_nI (by omega) (by decide), ?_⟩
          have e53 : M8.1 5 (3 + many) 3 = m.2.2.2 := by rw [em]; exact hm8.2.2.2
          rw [e53]
          refine ok_mono (weightUp_ok (by omega) hw r2) (fun r hr => ?_)
          subst hr
          dsimp only
          rw [ok_cv]
          have hrow : (rowOf fs ++ [x]).length = many := by rw [List.length_append, List.length_singleton, rowOf_len]; omega
          refine ok_mono (preferRow_ok (row := rowOf fs ++ [x]) (by omega) hm.2 hrow (fun i y hi => ?_) b8) (fun M12 h12 => ok_some.mpr ?_)
          · rcases getq_snoc hi with ⟨p, q3⟩ | ⟨p, q3⟩
            · exact rowOf_m fs fr8 i y q3
            · rw [p, rowOf_len, q3]; exact v8
          · obtain ⟨b12, f12⟩ := h12
            have ec : chF C (many - fs.length - 1) mo (rowOf fs) x b = if b.1 < wtS C m.2.2.2 then (wtS C m.2.2.2, rowOf fs ++ [x]) else b := by unfold chF; rw [e, ek]; rfl
            rw [ec] at hit
            exact ⟨msT C (many - fs.length - 1) (x + 1) + msF C many fs, by omega, fun t htt => ⟨t, rfl, htt, CS_fi r2 f12 (fun k n i q => by omega), fi_tr f8 (fi_mono f12 (fun k n i q => by unfold PFr; omega)), Or.inr ⟨mo, x + 1, fs, _, rfl, rfl, hl, ⟨MoM_c m8 (fun j _ => fi_I f12 (by omega)), g6⟩, by rw [fi_I f12 (by omega), v8, nI_1], by omega, FrI_c fs fr8 (fun n j _ _ => fi_I f12 (by omega)) (fun i hi => fi_I f12 (by omega)), b12, hit⟩⟩⟩
        · -- a level more
          obtain ⟨k', ek⟩ : ∃ k', many - fs.length - 1 = k' + 1 := ⟨many - fs.length - 2, by omega⟩
          rw [ok_gi, ok_nm, ok_some, nI_clamp (by omega)]
          refine ⟨vp_in_nI (by omega) (by decide), ?_⟩
          have f13 : fi (fun k _ i => k = 43 ∧ i = fs.length + 1) M8 (sI M8 43 0 (fs.length + 1) (-1)) := fi_sI fi_rf ⟨rfl, rfl⟩
          have ec : chF C (many - fs.length - 1) mo (rowOf fs) x b = itF (chF C k' m (rowOf fs ++ [x])) (cO C - 0) 0 b := by unfold chF; rw [e, ek]; rfl
          have ag := apS_g hw g6 e
          have tw : tuW C (many - fs.length - 1) = msT C k' 0 := by rw [ek]; rfl
          have tl : ((mo, x) :: fs).length = fs.length + 1 := rfl
          have ek2 : many - ((mo, x) :: fs).length - 1 = k' := by rw [tl]; omega
          refine ⟨msT C k' 0 + msF C many ((mo, x) :: fs), ?_, fun t htt => ⟨t, rfl, htt, CS_fi r2 f13 (fun k n i q => by omega), fi_tr f8 (fi_mono f13 (fun k n i q => Or.inr (Or.inr (Or.inl q.1)))), Or.inr ⟨m, 0, (mo, x) :: fs, b, by rw [ek2], rfl, by rw [tl]; omega, ⟨MoM_c hm8 (fun j _ => fi_I f13 (by omega)), by rw [tl]; exact ag.1⟩, ?_, Nat.zero_le _, ⟨⟨MoM_c m8 (fun j _ => fi_I f13 (by omega)), g6, (fi_I f13 (by omega)).trans v8, q⟩, FrI_c fs fr8 (fun n j _ _ => fi_I f13 (by omega)) (fun i hi => fi_I f13 (by omega))⟩, BeM_c b8 (fi_I f13 (by omega)) (fun i => fi_I f13 (by omega)), ?_⟩⟩⟩
          · have : msF C many ((mo, x) :: fs) = msT C (many - fs.length - 1) (x + 1) + msF C many fs := rfl
            omega
          · rw [tl, rII, if_pos ⟨rfl, rfl, rfl⟩]; rfl
          · rw [ek2]
            show ctF C many fs (itF (chF C (many - fs.length - 1) mo (rowOf fs)) (cO C - (x + 1)) (x + 1) (itF (chF C k' m (rowOf fs ++ [x])) (cO C - 0) 0 b)) = T
            rw [← ec]; exact hit
    · -- back by one level
      have ex : x = cO C := by omega
      subst ex
      rw [Nat.sub_self] at hct
      have hct : ctF C many fs b = T := hct
      have m0 : msT C (many - fs.length - 1) (cO C) = 1 := by unfold msT; rw [Nat.sub_self, Nat.zero_mul]
      cases fs with
      | nil =>
        have hct : b = T := hct
        subst hct
        exact ⟨0, by omega, fun t htt => ⟨t, rfl, htt, c7, f07, Or.inl ⟨rfl, b7⟩⟩⟩
      | cons e fs =>
        obtain ⟨⟨a1, a2, a3, a4⟩, a5⟩ := fr7
        have tl : (e :: fs).length = fs.length + 1 := rfl
        have e2 : nI (e :: fs).length + (-1) = nI fs.length := pk_m1 fs.length
        refine ⟨msT C (many - fs.length - 1) (e.2 + 1) + msF C many fs, ?_, fun t htt => ⟨t, rfl, htt, c7, f07, Or.inr ⟨e.1, e.2 + 1, fs, b, rfl, e2, by omega, ⟨a1, a2⟩, by rw [a3, nI_1], by omega, a5, b7, hct⟩⟩⟩
        have : msF C many (e :: fs) = msT C (many - fs.length - 1) (e.2 + 1) + msF C many fs := rfl
        omega
  · obtain ⟨k, hk, hz⟩ := hz
    exact ok_some.mpr ⟨k, hk, by rw [nI_1]; exact hz (turn + 1) (by omega)⟩
theorem findRow_ok {F : Nat} (hF : 2000 < F) {C : cty} {o Y many : Nat} {M : mm} {mo : mty} (hY : Y + 5 < 2 ^ 31) (hw : WF C) (hm : 1 ≤ many ∧ many ≤ 3) (h : CS C o M) (hmo : MoM 7 M mo) (hg : MG C mo Y) :
    ok (m_X7_findRow F o 7 (nI many) M) (fun M' => CS C o M' ∧ fi (PFr o) M M' ∧ BeM (repairB C mo many) M') := by
  unfold m_X7_findRow
  rw [ok_nm, ok_gi, tc0, ok_cv]
  refine ⟨vp_of (by decide), ?_⟩
  have f1 : fi (fun k _ i => k = 8 ∧ i = 5) M (sI M 8 0 5 (-1)) := fi_sI fi_rf ⟨rfl, rfl⟩
  have v1 : (sI M 8 0 5 (-1)).1 8 0 5 = -1 := by rw [rII, if_pos ⟨rfl, rfl, rfl⟩]
  generalize sI M 8 0 5 (-1) = M1 at f1 v1 ⊢
  refine ok_mono (copy_ok (a := 7) (b := 3 + 0) (MoM_c hmo (fun j _ => fi_I f1 (by omega))) (by omega)) (fun M2 h2 => ?_)
  obtain ⟨m2, f2⟩ := h2
  rw [ok_gi, ok_nm, ok_bd]
  refine ⟨vp_of (by decide), ?_⟩
  have f3 : fi (fun k _ i => k = 43 ∧ i = 0) M2 (sI M2 43 0 0 (-1)) := fi_sI fi_rf ⟨rfl, rfl⟩
  have v3 : (sI M2 43 0 0 (-1)).1 43 0 0 = -1 := by rw [rII, if_pos ⟨rfl, rfl, rfl⟩]
  generalize sI M2 43 0 0 (-1) = M3 at f3 v3 ⊢
  have c3 : CS C o M3 := CS_fi (CS_5 (CS_fi h f1 (fun k n i q => by omega)) f2) f3 (fun k n i q => by omega)
  have f03 : fi (PFr o) M M3 := fi_tr (fi_mono f1 (fun k n i q => Or.inr (Or.inr (Or.inr (Or.inr q))))) (fi_tr (fi_fr f2 (fun k n i q => Or.inr (Or.inl (by omega)))) (fi_mono f3 (fun k n i q => Or.inr (Or.inr (Or.inl q.1)))))
  refine ok_mono (ok_lp (FrS C o Y many (repairB C mo many) M) (fun n s hs => frow_ok hF hY hw hm hs) F (tuW C many) _ (by have := tuW_b (C := C) hw.1.2.1; have := tuW_m (C := C) hm.2; omega) ?_) (fun M' hM' => ok_some.mpr hM')
  obtain ⟨k, rfl⟩ : ∃ k, many = k + 1 := ⟨many - 1, by omega⟩
  refine ⟨0, rfl, by have := tuW_b (C := C) hw.1.2.1; have := tuW_m (C := C) hm.2; omega, c3, f03, Or.inr ⟨mo, 0, [], (-1, []), rfl, rfl, by show 0 < k + 1; omega, ⟨MoM_c m2 (fun j _ => fi_I f3 (by omega)), hg⟩, by show M3.1 43 0 0 + 1 = nI 0; rw [v3]; rfl, Nat.zero_le _, trivial, ⟨?_, fun i x q => (by simp at q)⟩, rfl⟩⟩
  show M3.1 8 0 5 = -1
  rw [fi_I f3 (by omega), fr_I f2 (by omega)]; exact v1
theorem repairC {F : Nat} (hF : 2000 < F) {A : sty} {N : Nat} (hN : N ≤ 1000) {M : mm} {a b : Int32} (hA : AOK A N) (h : RC A N M) : ok (m_X11_repair F a b M) (fun r => RpA (aC A) (aM A) a b r.1 ∧ RC A (N + 1) r.2 ∧ FrC M r.2) := by
  obtain ⟨o, d, hod, h2, h3, h4, h5, h6⟩ := id h
  have hw := hA.1
  have z0 : (0 : Int32).toInt = 0 := rfl
  have z1 : (1 : Int32).toInt = 1 := rfl
  have z3 : (3 : Int32).toInt = 3 := rfl
  have no : ¬ ((1 ≤ a ∧ a ≤ 3) ∧ (0 ≤ b ∧ b ≤ a) ∧ a ≤ nI (popN (aM A).2.1)) → RpA (aC A) (aM A) a b (-1) ∧ RC A (N + 1) M ∧ FrC M M := fun q => ⟨Or.inl ⟨q, rfl⟩, (QC_same (ans := (0 : Int32)) h).2⟩
  unfold m_X11_repair
  simp only [ok_ite]
  refine ⟨fun q => ok_some.mpr (no (fun q2 => by simp only [i_lt, i_le] at q q2; omega)), fun q1 => ⟨fun q => ok_some.mpr (no (fun q2 => by simp only [i_lt, i_le] at q q2; omega)), fun q2 => ⟨fun q => ok_some.mpr (no (fun q2 => by simp only [i_lt, i_le] at q q2; omega)), fun q3 => ⟨fun q => ok_some.mpr (no (fun q2 => by simp only [i_lt, i_le] at q q2; omega)), fun q4 => ?_⟩⟩⟩⟩
  have r1 : 1 ≤ a ∧ a ≤ 3 := by simp only [i_lt, i_le] at q1 q2 ⊢; omega
  have r2 : 0 ≤ b ∧ b ≤ a := by simp only [i_lt, i_le] at q3 q4 ⊢; omega
  have hbr : ∀ x, x < 32 → bt (aM A).2.1 x = true → x < cO (aC A) := fun x hx q => (hA.2.1.1.2.1 x hx q).1
  have hO := hw.1.2.1
  rw [ok_cl, h4.1.2.1]
  refine ok_mono (bitCount_ok (fun i hi q => by have := hbr i hi q; omega)) (fun r hr => ?_)
  subst hr
  dsimp only
  rw [ok_ite]
  refine ⟨fun q5 => ?_, fun q => ok_some.mpr (no (fun q2 => q q2.2.2))⟩
  obtain ⟨k, hk1, rfl⟩ : ∃ k : Nat, (1 ≤ k ∧ k ≤ 3) ∧ a = nI k := by
    have := r1
    simp only [i_le, z1, z3] at this
    exact ⟨a.toNatClampNeg, by have := i_clamp (a := a) (by omega); omega, i_nI (by omega)⟩
  have hpl := popN_le (aM A).2.1
  have hkp : k ≤ popN (aM A).2.1 := (nI_leI (by omega) (by omega)).mp q5
  have fd := rp_hit (many := k) hw k (aM A) [] (-1, []) hbr hkp (by simp) (Or.inl rfl)
  rw [ok_cv, h2]
  refine ok_mono (findRow_ok (Y := 100 * N) hF (by omega) hw hk1 h5 h4.1 hA.2.1.1) (fun M3 h3' => ?_)
  obtain ⟨c3, f3, b3⟩ := h3'
  have fin : RC A (N + 1) M3 ∧ FrC M M3 := ⟨RC_up ⟨o, d, hod, by rw [f3.1]; exact h2, by rw [f3.1]; exact h3, RCs_fi h4 (fi_mono f3 (fun k n i q => by unfold PFr PW at q; unfold GC; omega)), c3, WhI_fi h6 f3 (fun k n i q => by unfold PFr PW at q; omega)⟩, FrC_fi f3 (fun k n i q => by unfold PFr PW at q; omega)⟩
  have eN : (nI k).toNatClampNeg = k := nI_clamp (by omega)
  rw [ok_ite]
  refine ⟨fun q6 => ok_some.mpr ⟨Or.inr ⟨⟨r1, r2, q5⟩, Or.inl ⟨q6, by rw [eN]; exact b3.1⟩⟩, fin⟩, fun q6 => ?_⟩
  have b0 : 0 ≤ b.toInt := by have := r2.1; rw [i_le, z0] at this; exact this
  have bk : b.toInt ≤ k := by have := r2.2; rw [i_le, nI_toInt (by omega)] at this; exact this
  have eb : (b - 1).toInt = b.toInt - 1 := i_sub (by rw [z1]; omega) (by rw [z1]; have := i_hi b; omega)
  have bn : b.toInt ≠ 0 := fun e => q6 (i_eq.mpr (by rw [e, z0]))
  have ec := i_clamp (a := b - 1) (by omega)
  obtain ⟨x, hx⟩ : ∃ x, (repairB (aC A) (aM A) k).2[(b - 1).toNatClampNeg]? = some x := ⟨_, List.getElem?_eq_getElem (show (b - 1).toNatClampNeg < (repairB (aC A) (aM A) k).2.length by have := fd.1; unfold repairB; omega)⟩
  rw [ok_gi, ok_some]
  exact ⟨i_in (by omega) (by omega), Or.inr ⟨⟨r1, r2, q5⟩, Or.inr ⟨q6, x, by rw [eN]; exact hx, b3.2 _ _ hx⟩⟩, fin⟩
