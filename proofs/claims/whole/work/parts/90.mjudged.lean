/-! the reference's judged -/
theorem a_na (x : Int32) : x &&& (x ^^^ (-1)) = 0 := b_ext (fun i hi => by rw [b_and, b_not _ hi, b_0]; simp)
theorem a_nor (x y : Int32) : x &&& ((x ||| y) ^^^ (-1)) = 0 := b_ext (fun i hi => by rw [b_and, b_not _ hi, b_or, b_0]; cases bt x i <;> simp)
def PGo : Nat → Nat → Nat → Prop := fun k n i => PF k n ∨ (k = 13 ∧ i = 57)
theorem RMo_57 {C : cty} {mo : mty} {M : mm} {v : Int32} (h : RMo C mo M) : RMo C mo (sI M 13 0 57 v) := RMo_fr (P := fun k _ => k = 13) h (fr_sI fr_rf rfl) (fun k q => by omega)
/-- what goes answers and leaves -/
def GoR (C : cty) (mo : mty) (M : mm) (e : Option mty) (r : Bool × mm) : Prop := r.1 = e.isSome ∧ RMo C (e.getD mo) r.2 ∧ r.2.1 13 0 57 = mo.2.2.2 &&& ((e.getD mo).2.2.2 ^^^ (-1)) ∧ fi PGo M r.2
theorem goes_ok {F : Nat} (hF : 3000 < F) {C : cty} {M : mm} {mo : mty} {Y i : Nat} {e : Int32 × Int32} (hw : WF C) (h : RMo C mo M) (hg : MG C mo Y) (hi : i < 240) (h95 : M.1 95 0 i = e.1) (h96 : e.1 ≠ 3 → M.1 96 0 i = e.2) (he : e.1 = 3 ∨ ((e.1 = 0 ∨ e.1 = 1) ∧ ∃ n, n < cO C ∧ e.2 = nI n) ∨ (e.1 = 2 ∧ ∃ n, n < cS C ∧ e.2 = nI n)) :
    ok (m_X12_goes F (nI i) M) (GoR C mo M (doesS C mo e.1 e.2)) := by
  have hS := hw.1.2.2.1
  have hO := hw.1.2.1
  have hin : vp_in (nI i) 240 := vp_in_nI hi (by decide)
  have hup := hg.2.2.2
  unfold m_X12_goes
  rw [ok_gi, ok_nm, ok_gi, ok_nm, ok_nm, nI_clamp (by omega), h95]
  refine ⟨hin, hin, ?_⟩
  generalize M.1 96 0 i = x2 at h96 ⊢
  have h3 : RMo C mo (sI M 13 0 57 0) := RMo_57 h
  have f3 : fi PGo M (sI M 13 0 57 0) := fi_sI fi_rf (Or.inr ⟨rfl, rfl⟩)
  have z3 : (sI M 13 0 57 0).1 13 0 57 = 0 := by rw [rII, if_pos ⟨rfl, rfl, rfl⟩]
  generalize sI M 13 0 57 0 = M3 at h3 f3 z3 ⊢
  rw [doesS_3 (fun q => (h96 q).symm)]
  have he' : e.1 = 3 ∨ ((e.1 = 0 ∨ e.1 = 1) ∧ ∃ n, n < cO C ∧ x2 = nI n) ∨ (e.1 = 2 ∧ ∃ n, n < cS C ∧ x2 = nI n) := by
    by_cases q : e.1 = 3
    · exact Or.inl q
    · rw [h96 q]; exact he
  generalize e.1 = d at he'
  have no : ∀ M', RMo C mo M' → fi PGo M3 M' → M'.1 13 0 57 = 0 → GoR C mo M none (false, M') := fun M' a b c => ⟨rfl, a, by rw [c]; exact (a_na _).symm, fi_tr f3 b⟩
  have fin : ∀ (mo1 mo2 : mty) (M12 : mm), RMo C mo1 M12 → fi PGo M3 M12 → (∀ s, s < 32 → bt mo1.2.2.2 s = true → s < cS C) → fallM C mo1 = mo2 → mo1.2.2.2 &&& (mo2.2.2.2 ^^^ (-1)) = mo.2.2.2 &&& (mo2.2.2.2 ^^^ (-1)) → ok (cl (m_X12_falls F M12) fun x14 M13 => nm (sI M13 13 0 57 x14) fun M15 => some (true, M15)) (GoR C mo M (some mo2)) := fun mo1 mo2 M12 a b c d e => by
    rw [ok_cl]
    refine ok_mono (falls_ok hF hw a c) (fun r hr => ?_)
    obtain ⟨r1, r2, r3⟩ := hr
    rw [ok_nm, ok_some]
    rw [d] at r1 r2
    refine ⟨rfl, RMo_57 r2, ?_, fi_tr f3 (fi_tr b (fi_sI (fi_fr r3 (fun k n i q => Or.inl q)) (Or.inr ⟨rfl, rfl⟩)))⟩
    rw [rII, if_pos ⟨rfl, rfl, rfl⟩, r1, e]; rfl
  have d0 : ∀ d' : Int32, d = d' → (d = 0 ↔ d' = 0) := fun d' q => by rw [q]
  rw [ok_ite]
  refine ⟨fun q => ?_, fun q => ?_⟩
  · subst q
    have : doesS C mo 3 x2 = some (passS C mo) := by
      unfold doesS; rw [if_neg (by decide), if_neg (by decide), if_neg (by decide)]
    rw [this, ok_cl]
    refine ok_mono (passes_ok hF hw h3 hup) (fun r hr => ?_)
    obtain ⟨r1, r2, r3⟩ := hr
    rw [ok_nm, ok_some]
    refine ⟨rfl, RMo_57 r2, ?_, fi_tr f3 (fi_sI (fi_fr r3 (fun k n i q => Or.inl q)) (Or.inr ⟨rfl, rfl⟩))⟩
    rw [rII, if_pos ⟨rfl, rfl, rfl⟩, r1]; rfl
  · obtain ⟨m0, m1, m2, m3⟩ := id h3.2.2
    refine ok_jm (P := fun M8 => (d = 0 ∧ RMo C mo M8 ∧ fi PGo M3 M8 ∧ ∃ m, crackS C mo x2 = some m) ∨ (d = 1 ∧ M8 = M3 ∧ ∃ m, pardonS C mo x2 = some m) ∨ (d = 2 ∧ RMo C mo M8 ∧ fi PGo M3 M8 ∧ ∃ m, liftS C mo x2 = some m)) (fun M8 h8 => ?_) (fun j hj => ?_)
    · rcases h8 with ⟨rfl, a, b, m, c⟩ | ⟨rfl, rfl, m, c⟩ | ⟨rfl, a, b, m, c⟩
      · have e1 : doesS C mo 0 x2 = some m := by unfold doesS; rw [if_pos rfl]; exact c
        rw [e1, ok_bd, ok_ite]
        refine ⟨fun _ => ?_, fun q => absurd rfl q⟩
        obtain ⟨n0, n1, n2, n3⟩ := id a.2.2
        rw [ok_gi, ok_gi, ok_nm, ok_some, tc1, n1]
        have f4 : fr (fun k _ => k = 100) M8 (sI M8 100 0 1 (mo.2.1 ||| ((1 : Int32) <<< (x2 &&& 31)))) := fr_sI fr_rf rfl
        have hm : fallM C (mo.1, mo.2.1 ||| bitI x2, mo.2.2.1, mo.2.2.2) = m := by
          unfold crackS at c
          split at c
          · exact Option.some.inj c
          · cases c
        exact ⟨vp_of (by decide), vp_of (by decide), fin (mo.1, mo.2.1 ||| bitI x2, mo.2.2.1, mo.2.2.2) m _ (RMo_100 a f4 (by unfold MoR; simp [rII, n0, n2, n3, bitI])) (fi_tr b (fi_fr f4 (fun k n i q => Or.inl (by unfold PF; omega)))) hup hm rfl⟩
      · have e1 : doesS C mo 1 x2 = some m := by unfold doesS; rw [if_neg (by decide), if_pos rfl]; exact c
        rw [e1, ok_bd, ok_ite]
        refine ⟨fun q => absurd q (by decide), fun _ => ?_⟩
        rw [ok_ite]
        refine ⟨fun _ => ?_, fun q => absurd rfl q⟩
        rw [ok_cv]
        refine ok_mono (forgives_ok h3 x2) (fun M10 h10 => ok_some.mpr ?_)
        obtain ⟨a, f4⟩ := h10
        have hm : fallM C (mo.1, mo.2.1 &&& (bitI x2 ^^^ (-1)), mo.2.2.1 ||| bitI x2, mo.2.2.2) = m := by
          unfold pardonS at c
          split at c
          · exact Option.some.inj c
          · cases c
        exact fin _ m _ a (fi_fr f4 (fun k n i q => Or.inl (by unfold PF; omega))) hup hm rfl
      · have e1 : doesS C mo 2 x2 = some m := by unfold doesS; rw [if_neg (by decide), if_neg (by decide), if_pos rfl]; exact c
        rw [e1, ok_bd, ok_ite]
        refine ⟨fun q => absurd q (by decide), fun _ => ?_⟩
        rw [ok_ite]
        refine ⟨fun q => absurd q (by decide), fun _ => ?_⟩
        obtain ⟨n0, n1, n2, n3⟩ := id a.2.2
        rw [ok_gi, ok_gi, ok_nm, ok_some, tc3, n3]
        have f4 : fr (fun k _ => k = 100) M8 (sI M8 100 0 3 (mo.2.2.2 ||| ((1 : Int32) <<< (x2 &&& 31)))) := fr_sI fr_rf rfl
        have hc := c
        unfold liftS at hc
        split at hc
        · rename_i q3
          have hm := Option.some.inj hc
          obtain ⟨n, hn, en, -⟩ := in_iff hS ⟨q3.1, q3.2.1⟩
          have hup2 : ∀ s, s < 32 → bt (mo.2.2.2 ||| bitI x2) s = true → s < cS C := fun s hs q => by
            rw [en, b_or, bitI_b (by omega) hs, Bool.or_eq_true, decide_eq_true_iff] at q
            rcases q with q | q
            · exact hup s hs q
            · omega
          refine ⟨vp_of (by decide), vp_of (by decide), fin (mo.1, mo.2.1, mo.2.2.1, mo.2.2.2 ||| bitI x2) m _ (RMo_100 a f4 (by unfold MoR; simp [rII, n0, n1, n2, bitI])) (fi_tr b (fi_fr f4 (fun k n i q => Or.inl (by unfold PF; omega)))) hup2 ?_ ?_⟩
          · rw [← hm]
            have : fallS C (mo.1, mo.2.1, mo.2.2.1, mo.2.2.2 ||| bitI x2) (mo.2.2.2 ||| bitI x2) = fallS C mo (mo.2.2.2 ||| bitI x2) := rfl
            unfold fallM
            rw [this, q3.2.2.2]; rfl
          · rw [← hm]
            show (mo.2.2.2 ||| bitI x2) &&& ((mo.2.2.2 ||| bitI x2) ^^^ (-1)) = mo.2.2.2 &&& ((mo.2.2.2 ||| bitI x2) ^^^ (-1))
            rw [a_na, a_nor]
        · cases hc
    · rcases he' with rfl | ⟨hd, n, hn, rfl⟩ | ⟨rfl, n, hn, rfl⟩
      · exact absurd rfl q
      · have rg : 0 ≤ nI n ∧ nI n < nI (cO C) := ⟨(nI_leI (by omega) (by omega) : nI 0 ≤ nI n ↔ 0 ≤ n).mpr (Nat.zero_le _), (nI_ltI (by omega) (by omega)).mpr hn⟩
        rcases hd with rfl | rfl
        · rw [ok_ite]
          refine ⟨fun _ => ?_, fun q => absurd rfl q⟩
          rw [ok_cb]
          refine ok_mono (canBreak_ok hw h3 hn) (fun r hr => ?_)
          subst hr
          dsimp only
          have e1 : doesS C mo 0 (nI n) = crackS C mo (nI n) := by unfold doesS; rw [if_pos rfl]
          rw [ok_ite]
          refine ⟨fun q2 => hj M3 (Or.inl ⟨rfl, h3, fi_rf, ?_⟩), fun q2 => ok_some.mpr ?_⟩
          · rw [Bool.and_eq_true, Bool.not_eq_true', Bool.not_eq_true'] at q2
            unfold crackS
            rw [nI_clamp (by omega), if_pos ⟨rg.1, rg.2, q2.2, q2.1⟩]
            exact ⟨_, rfl⟩
          · have : crackS C mo (nI n) = none := by
              unfold crackS
              rw [nI_clamp (by omega), if_neg (fun q3 => q2 (by rw [q3.2.2.1, q3.2.2.2]; rfl))]
            rw [e1, this]; exact no M3 h3 fi_rf z3
        · rw [ok_ite]
          refine ⟨fun q2 => absurd q2 (by decide), fun _ => ?_⟩
          rw [ok_ite]
          refine ⟨fun _ => ?_, fun q => absurd rfl q⟩
          have e1 : doesS C mo 1 (nI n) = pardonS C mo (nI n) := by unfold doesS; rw [if_neg (by decide), if_pos rfl]
          rw [ok_gi, tc1, m1, ok_ite, b_bit0 _ (show n < 32 by omega)]
          refine ⟨vp_of (by decide), fun q2 => ok_some.mpr ?_, fun q2 => hj M3 (Or.inr (Or.inl ⟨rfl, rfl, ?_⟩))⟩
          · have : pardonS C mo (nI n) = none := by
              unfold pardonS
              rw [nI_clamp (by omega), if_neg (fun q3 => by rw [q2] at q3; cases q3.2.2)]
            rw [e1, this]; exact no M3 h3 fi_rf z3
          · unfold pardonS
            rw [nI_clamp (by omega), if_pos ⟨rg.1, rg.2, by simpa using q2⟩]
            exact ⟨_, rfl⟩
      · rw [ok_ite]
        refine ⟨fun q2 => absurd q2 (by decide), fun _ => ?_⟩
        rw [ok_ite]
        refine ⟨fun q2 => absurd q2 (by decide), fun _ => ?_⟩
        rw [ok_cb]
        refine ok_mono (canRaise_ok hF hw h3 hup hn) (fun r hr => ?_)
        obtain ⟨b5, M4⟩ := r
        obtain ⟨r1, r2, r3⟩ := hr
        dsimp only at r1 r2 r3 ⊢
        have f4 : fi PGo M3 M4 := fi_fr r3 (fun k n i q => Or.inl (by unfold PD at q; unfold PF; omega))
        have z4 : M4.1 13 0 57 = 0 := (fr_I r3 (by unfold PD; omega) 57).trans z3
        have e1 : doesS C mo 2 (nI n) = liftS C mo (nI n) := by unfold doesS; rw [if_neg (by decide), if_neg (by decide), if_pos rfl]
        rw [ok_ite, r1, e1]
        cases e : liftS C mo (nI n) with
        | none => exact ⟨fun q => (by cases q), fun _ => ok_some.mpr (no M4 r2 f4 z4)⟩
        | some m =>
          refine ⟨fun _ => ?_, fun q => absurd rfl q⟩
          have := hj M4 (Or.inr (Or.inr ⟨rfl, r2, f4, m, e⟩))
          rw [e1, e] at this; exact this
theorem judgedM {F : Nat} (hF : 3000 < F) {A : sty} {N : Nat} {M : mm} {a : Int32} (hA : AOK A N) (h : RM A M) : ok (m_X12_judged F a M) (QM A M (judgedS A a)) := by
  have h1 : RM A (sI M 13 0 0 0) := RM_fi h thr_f PT_GM
  have f1 : fi PV M (sI M 13 0 0 0) := fi_mono thr_f (fun k n i q => Or.inl q)
  have hw := hA.1
  have hl := hA.2.2.2.2.1
  unfold m_X12_judged judgedS
  rw [ok_nm, ok_cb]
  generalize sI M 13 0 0 0 = M1 at h1 f1 ⊢
  refine ok_mono within_ok (fun r hr => ?_)
  subst hr
  dsimp only
  rw [ok_ite, decide_eq_true_iff]
  refine ⟨fun q => ?_, fun q => ok_some.mpr (by rw [if_neg q]; exact ⟨rfl, RM_pv h f1 h1.1⟩)⟩
  rw [if_pos q, ok_cv]
  refine ok_mono (copies_100_101_ok (a := 0) (b := 0) (by omega) (by omega) (by omega) (h1.1.2.2 : RwM 100 0 M1 (aM A))) (fun M4 h4 => ?_)
  obtain ⟨w4, f4⟩ := h4
  have rm4 : RMo (aC A) (aM A) M4 := RMo_fr h1.1 (fr_fi f4) (fun k q => by obtain ⟨i, q⟩ := q; omega)
  rw [ok_cv]
  refine ok_mono (fresh_ok hF hw rm4) (fun M5 h5 => ?_)
  obtain ⟨rm5, f5⟩ := h5
  have w5 : RwM 101 0 M5 (aM A) := RwM_c w4 (fun j => fr_I f5 (by unfold PF; omega) j)
  have fA : fi (fun k n i => PGo k n i ∨ k = 101) M1 M5 := fi_tr (fi_mono f4 (fun k n i q => Or.inr q.1)) (fi_fr f5 (fun k n i q => Or.inl (Or.inl q)))
  have hLi := h1.2.2.2.2.1
  rw [ok_bd]
  refine ok_mono (Q := fun z => z.1 = (jdN (aC A) (aL A) (aL A).length).2.1 ∧ z.2.1 = (jdN (aC A) (aL A) (aL A).length).2.2 ∧ RMo (aC A) (jdN (aC A) (aL A) (aL A).length).1 z.2.2 ∧ fi PGo M5 z.2.2) ?_ (fun z hz => ?_)
  · have hlen := hl.1
    refine ok_for (aL A).length (fun i z => z.2.2.1 = nI i ∧ z.1 = (jdN (aC A) (aL A) i).2.1 ∧ z.2.1 = (jdN (aC A) (aL A) i).2.2 ∧ RMo (aC A) (jdN (aC A) (aL A) i).1 z.2.2.2 ∧ fi PGo M5 z.2.2.2) 0 (by omega) (by omega) ⟨rfl, rfl, rfl, (by exact rm5), fi_rf⟩ ?_
    rintro i ⟨x6, x7, x8, M9⟩ hi ⟨e1, e2, e3, r9, f9⟩
    dsimp only at e1 e2 e3 r9 f9
    subst e1
    have eA : ∀ k j, k = 94 ∨ k = 95 ∨ k = 96 → M9.1 k 0 j = M1.1 k 0 j := fun k j hk => (fi_I f9 (by unfold PGo PF; omega)).trans (fi_I fA (by unfold PGo PF; omega))
    simp only [b_X12_judged_1, b_X12_judged_1c]
    rw [ok_gi, tc0, eA 94 0 (by omega), hLi.1, ok_ite, nI_leI (by omega) (by omega)]
    refine ⟨vp_of (by decide), fun q2 => ok_some.mpr ?_, fun q2 => ?_⟩
    · have : i = (aL A).length := by omega
      subst this
      exact ⟨e2, e3, r9, f9⟩
    have hi' : i < (aL A).length := by omega
    obtain ⟨e, he⟩ : ∃ e, (aL A)[i]? = some e := ⟨(aL A)[i], List.getElem?_eq_getElem hi'⟩
    obtain ⟨t1, t2⟩ := hLi.2 i e he
    rw [show 40 * 0 + i = i by omega] at t1 t2
    have hv := jd_v (C := aC A) (L := aL A) i (by omega)
    rw [ok_cb]
    refine ok_mono (goes_ok hF hw r9 (jd_g hw i).1 (by omega) ((eA 95 i (by omega)).trans t1) (fun q3 => (eA 96 i (by omega)).trans (t2 q3)) (hl.2 e (List.mem_of_getElem? he))) (fun r hr => ?_)
    obtain ⟨b11, M10⟩ := r
    obtain ⟨g1, g2, g3, g4⟩ := hr
    dsimp only at g1 g2 g3 g4 ⊢
    have ge : ∀ v : Int32, (v = -1 ∨ 0 ≤ v) → (0 ≤ v ↔ ¬ v = -1) := fun v hv => ⟨fun a b => by rw [b] at a; exact absurd a (by decide), fun a => hv.resolve_left a⟩
    rw [ok_bd]
    refine ok_mono (Q := fun v => v = (jdN (aC A) (aL A) (i + 1)).2.1) ?_ (fun v hv1 => ?_)
    · rw [jdN_s he]
      show ok _ (fun v => v = if (doesS (aC A) (jdN (aC A) (aL A) i).1 e.1 e.2).isSome = true then (jdN (aC A) (aL A) i).2.1 else if (jdN (aC A) (aL A) i).2.1 = -1 then nI i else (jdN (aC A) (aL A) i).2.1)
      rw [ok_ite, g1, e2]
      refine ⟨fun q3 => ok_some.mpr (by rw [if_pos q3]), fun q3 => ?_⟩
      rw [if_neg q3, ok_ite, ge _ hv.1]
      exact ⟨fun q4 => ok_some.mpr (by rw [if_neg q4]), fun q4 => ok_some.mpr (by rw [if_pos (Classical.not_not.mp q4)])⟩
    · rw [ok_bd]
      refine ok_mono (Q := fun v => v = (jdN (aC A) (aL A) (i + 1)).2.2) ?_ (fun v2 hv2 => ok_some.mpr ⟨hi', nI_1 i, hv1, hv2, by rw [jdN_s he]; exact g2, fi_tr f9 g4⟩)
      rw [jdN_s he]
      show ok _ (fun v => v = if (jdN (aC A) (aL A) i).1.2.2.2 &&& (((doesS (aC A) (jdN (aC A) (aL A) i).1 e.1 e.2).getD (jdN (aC A) (aL A) i).1).2.2.2 ^^^ (-1)) = 0 then (jdN (aC A) (aL A) i).2.2 else if (jdN (aC A) (aL A) i).2.2 = -1 then nI i else (jdN (aC A) (aL A) i).2.2)
      rw [ok_ite, g3, e3]
      refine ⟨fun q3 => ok_some.mpr (by rw [if_pos q3]), fun q3 => ?_⟩
      rw [if_neg q3, ok_ite, ge _ hv.2]
      exact ⟨fun q4 => ok_some.mpr (by rw [if_neg q4]), fun q4 => ok_some.mpr (by rw [if_pos (Classical.not_not.mp q4)])⟩
  · obtain ⟨x14, x15, M16⟩ := z
    obtain ⟨v1, v2, r16, f16⟩ := hz
    dsimp only at v1 v2 r16 f16 ⊢
    rw [ok_gi, ok_nm, tc3, r16.2.2.2.2.2, ok_cv]
    refine ⟨vp_of (by decide), ?_⟩
    have w16 : RwM 101 0 M16 (aM A) := RwM_c w5 (fun j => fi_I f16 (by unfold PGo PF; omega))
    refine ok_mono (copies_101_100_ok (a := 0) (b := 0) (by omega) (by omega) (by omega) w16) (fun M18 h18 => ?_)
    obtain ⟨w18, f18⟩ := h18
    have rm18 : RMo (aC A) (aM A) M18 := RMo_100 r16 (fr_mono (fr_fi f18) (fun k n q => by obtain ⟨i, q⟩ := q; exact q.1)) w18
    have fall : fi (fun k n i => PV k n i ∨ PGo k n i ∨ k = 101 ∨ k = 100) M M18 := fi_tr (fi_mono f1 (fun k n i q => Or.inl q)) (fi_tr (fi_mono fA (fun k n i q => q.elim (fun a => Or.inr (Or.inl a)) (fun a => Or.inr (Or.inr (Or.inl a))))) (fi_tr (fi_mono f16 (fun k n i q => Or.inr (Or.inl q))) (fi_mono f18 (fun k n i q => Or.inr (Or.inr (Or.inr q.1))))))
    have fin : RM A M18 ∧ FrM M M18 := ⟨⟨rm18, RMs_fi h.2 fall (fun k n i q => by unfold PV PT PD PGo PF at q; unfold GM; omega)⟩, FrM_fi fall (fun k n i q => by unfold PV PT PD PGo PF at q; omega)⟩
    rw [ok_ite]
    refine ⟨fun q3 => ok_some.mpr ⟨by rw [if_pos q3]; exact v1, fin⟩, fun q3 => ?_⟩
    rw [ok_ite, if_neg q3]
    exact ⟨fun q4 => ok_some.mpr ⟨by rw [if_pos q4]; exact v2, fin⟩, fun q4 => ok_some.mpr ⟨by rw [if_neg q4], fin⟩⟩
