/-! the reference reads a line of a life -/
def PLfm : Nat → Nat → Nat → Prop := fun k n i => PM6 k n i ∨ (k = 94 ∧ i = 5) ∨ ((k = 95 ∨ k = 96) ∧ 200 ≤ i)
theorem PLfm_6 : ∀ k n i, PM6 k n i → PLfm k n i := fun _ _ _ q => Or.inl q
def LmK (Q : nmt) (L : lty) (M : mm) : Prop := LiM 5 M L ∧ (NmM 66 0 Q.1 M ∧ NmM 67 0 Q.2 M) ∧ (M.1 64 0 1 = nI Q.1.length ∧ M.1 64 0 2 = nI Q.2.length)
theorem LmK_fi {Q : nmt} {L L' : lty} {M M' : mm} (h : LmK Q L M) (f : fi PLfm M M') (hT : LiM 5 M' L') : LmK Q L' M' := by
  obtain ⟨-, ⟨h4, h5⟩, h6, h7⟩ := h
  exact ⟨hT, ⟨NmM_e h4 (fun i => fi_L f (by unfold PLfm PM6; omega)), NmM_e h5 (fun i => fi_L f (by unfold PLfm PM6; omega))⟩, by rw [fi_I f (by unfold PLfm PM6; omega)]; exact h6, by rw [fi_I f (by unfold PLfm PM6; omega)]; exact h7⟩
theorem LmK_6 {Q : nmt} {L : lty} {M M' : mm} (h : LmK Q L M) (f : fi PM6 M M') : LmK Q L M' := LmK_fi h (fi_mono f PLfm_6) (LiM_c h.1 (fun k j hk => fi_I f (by unfold PM6; omega)))
def LmD (Q : nmt) (D : dft) (M : mm) : Prop := ∃ L', D = encL L' ∧ LmK Q L' M ∧ LfQ Q L'
theorem readsLine_ok {F : Nat} (hF : 2000 < F) {T : List Int32} {p : Nat} {Q : nmt} (hq1 : Q.1.length ≤ 10) (hq2 : Q.2.length ≤ 10) {L : lty} {M : mm} (h : AtM T p M) (hK : LmK Q L M) (hL : LfQ Q L) : ok (m_X12_readsLine F M) (QRM T (LmD Q) PLfm M (spLf T Q L p)) := by
  have hl := hL.1
  have t5 : (5 : Int32).toNatClampNeg = 5 := rfl
  have e40 : nI L.length = (40 : Int32) ↔ 40 ≤ L.length := (nI_eq (b := 40) (by omega) (by decide) : nI L.length = nI 40 ↔ _).trans (by omega)
  -- a line of deed d
  have main : ∀ (d : Nat), d < 4 → ok (gi (5 : Int32) 6 <|
          if (M.1 94 0 (Int32.toNatClampNeg (5 : Int32))) = (40 : Int32) then
            cb (m_X12_fails F (5 : Int32) M) fun b33 M32 =>
            some (b33, M32)
          else
            cv (m_X12_nextToken F M) fun M11 =>
            gi (5 : Int32) 6 <|
            nm ((200 : Int32) + (M11.1 94 0 (Int32.toNatClampNeg (5 : Int32)))) fun x12 =>
            gi x12 240 <|
            nm (sI M11 95 0 (Int32.toNatClampNeg x12) (nI d)) fun M13 =>
            nm (fun (M28 : mm) =>
              gi (5 : Int32) 6 <|
              gi (5 : Int32) 6 <|
              nm (sI M28 94 0 (Int32.toNatClampNeg (5 : Int32)) ((M28.1 94 0 (Int32.toNatClampNeg (5 : Int32))) + (1 : Int32))) fun M29 =>
              cb (m_X12_closes F M29) fun b31 M30 =>
              some (b31, M30)) fun j187 =>
            if (2 : Int32) ≤ (nI d) then
              if (nI d) = (2 : Int32) then
                cb (m_X12_isKept F M13) fun b15 M14 =>
                if b15 = true then
                  cb (m_X12_fails F (1 : Int32) M14) fun b23 M22 =>
                  some (b23, M22)
                else
                  cl (m_X12_stoneNamed F (0 : Int32) M14) fun x17 M16 =>
                  gi x12 240 <|
                  nm (sI M16 96 0 (Int32.toNatClampNeg x12) x17) fun M18 =>
                  gi x12 240 <|
                  if (0 : Int32) ≤ (M18.1 96 0 (Int32.toNatClampNeg x12)) then
                    cv (m_X12_nextToken F M18) fun M19 =>
                    j187 M19
                  else
                    cb (m_X12_fails F (2 : Int32) M18) fun b21 M20 =>
                    some (b21, M20)
              else
                j187 M13
            else
              cb (m_X12_needsOath F (0 : Int32) M13) fun b25 M24 =>
              if b25 = true then
                gi x12 240 <|
                nm (sI M24 96 0 (Int32.toNatClampNeg x12) (M24.1 13 0 42)) fun M26 =>
                cv (m_X12_nextToken F M26) fun M27 =>
                j187 M27
              else
                some (false, M24)) (QRM T (LmD Q) PLfm M (if 40 ≤ L.length then .inl (5, p) else if d = 3 then spLfE T L 3 0 (tkE T p) else if d = 2 then spKn T Q.2 (tkE T p) (fun i => spLfE T L (nI d) (nI i) (tkE T (tkE T p))) else spKn T Q.1 (tkE T p) (fun i => spLfE T L (nI d) (nI i) (tkE T (tkE T p))))) := by
    intro d hd
    have e2 : (2 : Int32) ≤ nI d ↔ 2 ≤ d := (nI_leI (by omega) (by omega) : nI 2 ≤ nI d ↔ _)
    have e3 : nI d = (2 : Int32) ↔ d = 2 := nI_eq (b := 2) (by omega) (by decide)
    rw [ok_gi, t5, hK.1.1, ok_ite, e40]
    refine ⟨vp_of (by decide), fun q => ?_, fun q => ?_⟩
    · rw [if_pos q]
      exact ok_mono (badM (k := 5) (S := .inl (5, p)) h rfl) (fun r hr => by
        obtain ⟨b1, b2, k, q, b3, b4⟩ := hr
        rw [b4]; exact ⟨fi_mono b2 PLfm_6, b1, b3⟩)
    rw [if_neg q, ok_cv]
    refine ok_mono (AtM_next hF h) (fun M11 h11 => ?_)
    obtain ⟨a11, f11⟩ := h11
    have f11 : fi PM6 M M11 := fi_mono f11 P13_6
    have k11 := LmK_6 hK f11
    have ex : (200 : Int32) + nI L.length = nI (200 + L.length) := nI_add 200 _
    rw [ok_gi, ok_nm, k11.1.1, ex, ok_gi, ok_nm, nI_clamp (by omega)]
    have hin : vp_in (nI (200 + L.length)) 240 := vp_in_nI (by omega) (by decide)
    refine ⟨vp_of (by decide), hin, ?_⟩
    have f13 : fi (fun k n i => n = 0 ∧ k = 95 ∧ i = 200 + L.length) M11 (sI M11 95 0 (200 + L.length) (nI d)) := fi_sI fi_rf ⟨rfl, rfl, rfl⟩
    have v95 : (sI M11 95 0 (200 + L.length) (nI d)).1 95 0 (200 + L.length) = nI d := by rw [rII, if_pos ⟨rfl, rfl, rfl⟩]
    generalize sI M11 95 0 (200 + L.length) (nI d) = M13 at f13 v95 ⊢
    have a13 := AtM_6 a11 f13 (fun k n i q => by omega)
    have f13' : fi PLfm M11 M13 := fi_mono f13 (fun k n i q => Or.inr (Or.inr ⟨Or.inl q.2.1, by omega⟩))
    have l13 : LiM 5 M13 L := ⟨(fi_I f13 (by omega)).trans k11.1.1, fun i e he => by
      have := get_lt he
      have a := k11.1.2 i e he
      rw [fi_I f13 (by omega), fi_I f13 (by omega)]; exact a⟩
    have k13 := LmK_fi k11 f13' l13
    have fz13 : fi PLfm M M13 := fi_tr (fi_mono f11 PLfm_6) f13'
    -- the end of the line
    have close : ∀ (x : Int32) (q : Nat) (M28 : mm), AtM T q M28 → LmK Q L M28 → M28.1 95 0 (200 + L.length) = nI d → (nI d ≠ 3 → M28.1 96 0 (200 + L.length) = x) → fi PLfm M M28 → LfQ Q (L ++ [(nI d, x)]) → ok (gi (5 : Int32) 6 <|
              gi (5 : Int32) 6 <|
              nm (sI M28 94 0 5 ((M28.1 94 0 5) + (1 : Int32))) fun M29 =>
              cb (m_X12_closes F M29) fun b31 M30 =>
              some (b31, M30)) (QRM T (LmD Q) PLfm M (spLfE T L (nI d) x q)) := fun x q M28 a28 k28 c95 c96 fz hq => by
      rw [ok_gi, ok_gi, ok_nm, k28.1.1, nI_1]
      refine ⟨vp_of (by decide), vp_of (by decide), ?_⟩
      have f29 : fi (fun k n i => n = 0 ∧ k = 94 ∧ i = 5) M28 (sI M28 94 0 5 (nI (L.length + 1))) := fi_sI fi_rf ⟨rfl, rfl, rfl⟩
      have v29 : (sI M28 94 0 5 (nI (L.length + 1))).1 94 0 5 = nI (L.length + 1) := by rw [rII, if_pos ⟨rfl, rfl, rfl⟩]
      generalize sI M28 94 0 5 (nI (L.length + 1)) = M29 at f29 v29 ⊢
      have a29 := AtM_6 a28 f29 (fun k n i q => by omega)
      have l29 : LiM 5 M29 (L ++ [(nI d, x)]) := by
        refine ⟨by rw [v29, List.length_append, List.length_singleton], fun i e he => ?_⟩
        rw [fi_I f29 (by omega), fi_I f29 (by omega)]
        rcases getq_snoc he with ⟨u, v⟩ | ⟨u, v⟩
        · exact k28.1.2 i e v
        · subst u; subst v
          exact ⟨c95, c96⟩
      have f29' : fi PLfm M28 M29 := fi_mono f29 (fun k n i q => Or.inr (Or.inl ⟨q.2.1, q.2.2⟩))
      have k29 := LmK_fi k28 f29' l29
      unfold spLfE
      refine contM PLfm_6 (fi_tr fz f29') (closes_ok hF a29) (fun _ M30 g30 => ?_) (fun M' => rfl)
      dsimp only at g30
      obtain ⟨a30, f30, hS⟩ := g30
      rw [hS]
      exact ok_some.mpr ⟨fi_tr (fi_tr fz f29') (fi_mono f30 (fun k n i q => PLfm_6 k n i (P13_6 k n i q))), rfl, a30, _, rfl, LmK_6 k29 (fi_mono f30 P13_6), hq⟩
    have h40 : L.length < 40 := by omega
    rw [ok_nm, ok_ite, e2]
    refine ⟨fun q2 => ?_, fun q2 => ?_⟩
    · rw [ok_ite, e3]
      refine ⟨fun q3 => ?_, fun q3 => ?_⟩
      · -- raise
        subst q3
        rw [if_neg (by decide), if_pos rfl, ok_cb]
        refine ok_mono (isKept_ok a13) (fun r hr => ?_)
        subst hr
        dsimp only
        unfold spKn
        rw [ok_ite]
        refine ⟨fun q => ?_, fun q => ?_⟩
        · have qn : ¬ isNm T (tkE T p) = true := by simpa using q
          rw [if_neg qn]
          exact ok_mono (badM (k := 1) (S := .inl (1, tkE T p)) a13 rfl) (fun r hr => by
            obtain ⟨b1, b2, k, q, b3, b4⟩ := hr
            rw [b4]; exact ⟨fi_tr fz13 (fi_mono b2 PLfm_6), b1, b3⟩)
        · have qn : isNm T (tkE T p) = true := by simpa using q
          obtain ⟨hw, h7⟩ := wdM_ok a13 qn
          rw [if_pos qn, ok_cl]
          refine ok_mono (stoneN_ok (r := 0) (by omega) (by omega) k13.2.2.2 k13.2.1.2 hq2 hw h7) (fun r hr => ?_)
          subst hr
          dsimp only
          rw [ok_gi, ok_nm, ok_gi]
          have f18 : fi (fun k n i => n = 0 ∧ k = 96 ∧ i = 200 + L.length) M13 (sI M13 96 0 (200 + L.length) (fdI Q.2 (wdA T (tkE T p)))) := fi_sI fi_rf ⟨rfl, rfl, rfl⟩
          have v96 : (sI M13 96 0 (200 + L.length) (fdI Q.2 (wdA T (tkE T p)))).1 96 0 (200 + L.length) = fdI Q.2 (wdA T (tkE T p)) := by rw [rII, if_pos ⟨rfl, rfl, rfl⟩]
          generalize sI M13 96 0 (200 + L.length) (fdI Q.2 (wdA T (tkE T p))) = M18 at f18 v96 ⊢
          have a18 := AtM_6 a13 f18 (fun k n i q => by omega)
          have f18' : fi PLfm M13 M18 := fi_mono f18 (fun k n i q => Or.inr (Or.inr ⟨Or.inr q.2.1, by omega⟩))
          have l18 : LiM 5 M18 L := ⟨(fi_I f18 (by omega)).trans k13.1.1, fun i e he => by
            have := get_lt he
            have a := k13.1.2 i e he
            rw [fi_I f18 (by omega), fi_I f18 (by omega)]; exact a⟩
          have k18 := LmK_fi k13 f18' l18
          refine ⟨hin, hin, ?_⟩
          rw [v96, ok_ite, fdI_le hq2]
          refine ⟨fun q1 => ?_, fun q1 => ?_⟩
          · cases e : fnd Q.2 (wdA T (tkE T p)) with
            | none => rw [e] at q1; cases q1
            | some i =>
              rw [ok_cv]
              refine ok_mono (AtM_next hF a18) (fun M19 h19 => ?_)
              obtain ⟨a19, f19⟩ := h19
              have f19 : fi PM6 M18 M19 := fi_mono f19 P13_6
              exact close (nI i) _ M19 a19 (LmK_6 k18 f19) (by rw [fi_I f19 (by unfold PM6; omega), fi_I f18 (by omega)]; exact v95) (fun _ => by rw [fi_I f19 (by unfold PM6; omega), v96]; exact (fdI_n hq2).2 i e) (fi_tr fz13 (fi_tr f18' (fi_mono f19 PLfm_6))) (LfQ_add hL h40 (Or.inr (Or.inr ⟨rfl, i, fnd_lt e, rfl⟩)))
          · cases e : fnd Q.2 (wdA T (tkE T p)) with
            | some i => rw [e] at q1; exact absurd rfl q1
            | none =>
              exact ok_mono (badM (k := 2) (S := .inl (2, tkE T p)) a18 rfl) (fun r hr => by
                obtain ⟨b1, b2, k, q, b3, b4⟩ := hr
                rw [b4]; exact ⟨fi_tr fz13 (fi_tr f18' (fi_mono b2 PLfm_6)), b1, b3⟩)
      · -- year
        have d3 : d = 3 := by omega
        subst d3
        rw [if_pos rfl]
        exact close 0 _ M13 a13 k13 v95 (fun r => absurd rfl r) fz13 (LfQ_add hL h40 (Or.inl rfl))
    · -- break, forgive
      rw [if_neg (by omega), if_neg (by omega)]
      refine contM PLfm_6 fz13 (needsOath_ok (r := 0) hF a13 (by omega) k13.2.2.1 k13.2.1.1 hq1 (K := fun i => spLfE T L (nI d) (nI i) (tkE T (tkE T p)))) (fun _ M24 g24 => ?_) (fun M' => if_neg (by decide))
      dsimp only at g24
      obtain ⟨a24, f24, i, hi, v42, hS⟩ := g24
      rw [hS]
      refine ok_tt ?_
      have k24 := LmK_6 k13 f24
      rw [ok_gi, ok_nm, v42]
      have f26 : fi (fun k n i => n = 0 ∧ k = 96 ∧ i = 200 + L.length) M24 (sI M24 96 0 (200 + L.length) (nI i)) := fi_sI fi_rf ⟨rfl, rfl, rfl⟩
      have v96 : (sI M24 96 0 (200 + L.length) (nI i)).1 96 0 (200 + L.length) = nI i := by rw [rII, if_pos ⟨rfl, rfl, rfl⟩]
      generalize sI M24 96 0 (200 + L.length) (nI i) = M26 at f26 v96 ⊢
      have a26 := AtM_6 a24 f26 (fun k n i q => by omega)
      have f26' : fi PLfm M24 M26 := fi_mono f26 (fun k n i q => Or.inr (Or.inr ⟨Or.inr q.2.1, by omega⟩))
      have l26 : LiM 5 M26 L := ⟨(fi_I f26 (by omega)).trans k24.1.1, fun i e he => by
        have := get_lt he
        have a := k24.1.2 i e he
        rw [fi_I f26 (by omega), fi_I f26 (by omega)]; exact a⟩
      have k26 := LmK_fi k24 f26' l26
      refine ⟨hin, ?_⟩
      rw [ok_cv]
      refine ok_mono (AtM_next hF a26) (fun M27 h27 => ?_)
      obtain ⟨a27, f27⟩ := h27
      have f27 : fi PM6 M26 M27 := fi_mono f27 P13_6
      have hd2 : nI d = 0 ∨ nI d = 1 := by
        have : d = 0 ∨ d = 1 := by omega
        rcases this with r | r
        · exact Or.inl (by rw [r]; rfl)
        · exact Or.inr (by rw [r]; rfl)
      exact close (nI i) _ M27 a27 (LmK_6 k26 f27) (by rw [fi_I f27 (by unfold PM6; omega), fi_I f26 (by omega), fi_I f24 (by unfold PM6; omega)]; exact v95) (fun _ => by rw [fi_I f27 (by unfold PM6; omega)]; exact v96) (fi_tr fz13 (fi_tr (fi_mono f24 PLfm_6) (fi_tr f26' (fi_mono f27 PLfm_6)))) (LfQ_add hL h40 (Or.inr (Or.inl ⟨hd2, i, fnd_lt hi, rfl⟩)))
  have go : ∀ (d : Nat), d < 4 → (0 : Int32) ≤ nI d := fun d hd => (nI_leI (by omega) (by omega) : nI 0 ≤ nI d ↔ 0 ≤ d).mpr (Nat.zero_le _)
  unfold m_X12_readsLine spLf
  rw [ok_cb]
  refine ok_mono (isWordM_ok (i := 14) h (by decide) kc14) (fun r hr => ?_)
  subst hr
  dsimp only
  rw [ok_bd, ok_ite]
  refine ⟨fun q => ok_some.mpr ?_, fun q14 => ?_⟩
  · dsimp only
    rw [if_pos (show (0 : Int32) ≤ 0 from go 0 (by decide)), if_pos (Or.inl q)]
    refine ok_mono (main 0 (by decide)) (fun r hr => ?_)
    rw [if_neg (show ¬ 0 = 3 by decide), if_neg (show ¬ 0 = 2 by decide)] at hr
    rw [if_pos q]; exact hr
  rw [ok_cb]
  refine ok_mono (isWordM_ok (i := 15) h (by decide) kc15) (fun r hr => ?_)
  subst hr
  dsimp only
  rw [ok_ite]
  refine ⟨fun q => ok_some.mpr ?_, fun q15 => ?_⟩
  · dsimp only
    rw [if_pos (show (0 : Int32) ≤ 1 from go 1 (by decide)), if_pos (Or.inr (Or.inl q))]
    refine ok_mono (main 1 (by decide)) (fun r hr => ?_)
    rw [if_neg (show ¬ 1 = 3 by decide), if_neg (show ¬ 1 = 2 by decide)] at hr
    rw [if_neg q14, if_pos q]; exact hr
  rw [ok_cb]
  refine ok_mono (isWordM_ok (i := 16) h (by decide) kc16) (fun r hr => ?_)
  subst hr
  dsimp only
  rw [ok_ite]
  refine ⟨fun q => ok_some.mpr ?_, fun q16 => ?_⟩
  · dsimp only
    rw [if_pos (show (0 : Int32) ≤ 2 from go 2 (by decide)), if_pos (Or.inr (Or.inr (Or.inl q)))]
    refine ok_mono (main 2 (by decide)) (fun r hr => ?_)
    rw [if_neg (show ¬ 2 = 3 by decide), if_pos rfl] at hr
    rw [if_neg q14, if_neg q15, if_pos q]; exact hr
  rw [ok_cb]
  refine ok_mono (isWordM_ok (i := 17) h (by decide) kc17) (fun r hr => ?_)
  subst hr
  dsimp only
  rw [ok_ite]
  refine ⟨fun q => ok_some.mpr ?_, fun q17 => ok_some.mpr ?_⟩
  · dsimp only
    rw [if_pos (show (0 : Int32) ≤ 3 from go 3 (by decide)), if_pos (Or.inr (Or.inr (Or.inr q)))]
    refine ok_mono (main 3 (by decide)) (fun r hr => ?_)
    rw [if_pos rfl] at hr
    rw [if_neg q14, if_neg q15, if_neg q16]; exact hr
  · dsimp only
    rw [if_neg (show ¬ (0 : Int32) ≤ -1 by decide), if_neg (fun r => r.elim q14 (fun r => r.elim q15 (fun r => r.elim q16 q17)))]
    exact ok_mono (badM (k := 1) (S := .inl (1, p)) h rfl) (fun r hr => by
      obtain ⟨b1, b2, k, q, b3, b4⟩ := hr
      rw [b4]; exact ⟨fi_mono b2 PLfm_6, b1, b3⟩)
