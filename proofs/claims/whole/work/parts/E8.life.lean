/-! a life is read: the spec, the class's line -/
def encL (L : lty) : dft := ([], [], (fun _ => 0, fun _ => 0), [], none, some (L.map (fun e => e.1), L.map (fun e => e.2)))
def decL (D : dft) : lty := match dW D with
  | none => []
  | some w => w.1.zip w.2
theorem zip_map : ∀ L : lty, (L.map (fun e => e.1)).zip (L.map (fun e => e.2)) = L
  | [] => rfl
  | e :: L => by
    show (e.1, e.2) :: ((L.map (fun e => e.1)).zip (L.map (fun e => e.2))) = e :: L
    rw [zip_map L]
theorem dec_enc (L : lty) : decL (encL L) = L := zip_map L
def LfQ (Q : nmt) (L : lty) : Prop := L.length ≤ 40 ∧ ∀ e, e ∈ L → (e.1 = 3 ∨ ((e.1 = 0 ∨ e.1 = 1) ∧ ∃ n, n < Q.1.length ∧ e.2 = nI n) ∨ (e.1 = 2 ∧ ∃ n, n < Q.2.length ∧ e.2 = nI n))
theorem LfQ_add {Q : nmt} {L : lty} {e : Int32 × Int32} (h : LfQ Q L) (hl : L.length < 40) (he : e.1 = 3 ∨ ((e.1 = 0 ∨ e.1 = 1) ∧ ∃ n, n < Q.1.length ∧ e.2 = nI n) ∨ (e.1 = 2 ∧ ∃ n, n < Q.2.length ∧ e.2 = nI n)) : LfQ Q (L ++ [e]) := by
  refine ⟨by rw [List.length_append, List.length_singleton]; omega, fun x hx => ?_⟩
  rcases List.mem_append.mp hx with hx | hx
  · exact h.2 x hx
  · rw [List.mem_singleton.mp hx]; exact he
def spLfE (T : List Int32) (L : lty) (d x : Int32) (p : Nat) : res := spEnd T p fun p2 => .inr (p2, encL (L ++ [(d, x)]))
def spLf (T : List Int32) (Q : nmt) (L : lty) (p : Nat) : res :=
  if isW T p 14 = true ∨ isW T p 15 = true ∨ isW T p 16 = true ∨ isW T p 17 = true then
    (if 40 ≤ L.length then .inl (5, p)
     else if isW T p 14 = true then spKn T Q.1 (tkE T p) (fun i => spLfE T L 0 (nI i) (tkE T (tkE T p)))
     else if isW T p 15 = true then spKn T Q.1 (tkE T p) (fun i => spLfE T L 1 (nI i) (tkE T (tkE T p)))
     else if isW T p 16 = true then spKn T Q.2 (tkE T p) (fun i => spLfE T L 2 (nI i) (tkE T (tkE T p)))
     else spLfE T L 3 0 (tkE T p))
  else .inl (1, p)
theorem Rs_lf {T : List Int32} {Q : nmt} {L : lty} {p : Nat} (hp : p ≤ T.length) : Rs T (tkE T p) (encL []) (spLf T Q L p) := by
  have c1 := tkE_le hp
  have c2 := tkE_le c1.2
  have tail : ∀ d x q, tkE T p ≤ q → q ≤ T.length → Rs T (tkE T p) (encL []) (spLfE T L d x q) := fun d x q h1 h2 => by
    unfold spLfE
    exact Rs_end h2 (fun p2 a2 b2 => ⟨⟨by omega, b2⟩, fun z => absurd rfl (z [] [] rfl).1⟩)
  unfold spLf
  repeat' split
  · exact Rs_l (by decide) hp
  · exact Rs_kn c1.2 (fun i => tail _ _ _ (by omega) c2.2)
  · exact Rs_kn c1.2 (fun i => tail _ _ _ (by omega) c2.2)
  · exact Rs_kn c1.2 (fun i => tail _ _ _ (by omega) c2.2)
  · exact tail _ _ _ (Nat.le_refl _) c1.2
  · exact Rs_l (by decide) hp
def spLifeL (T : List Int32) (Q : nmt) : Nat → Nat → lty → (Nat × Nat) ⊕ lty
  | 0, p, _ => .inl (1, p)
  | fu + 1, p, L => if (tkA T p).1 = 0 then .inr L else match spLf T Q L p with
    | .inl e => .inl e
    | .inr (p', D') => spLifeL T Q fu p' (decL D')
def spLife (T : List Int32) (Q : nmt) : (Nat × Nat) ⊕ lty := spLifeL T Q (T.length + 1) 0 []
theorem lifeL_b {T : List Int32} {Q : nmt} : ∀ (fu p : Nat) (L : lty), p ≤ T.length → ∀ k q, spLifeL T Q fu p L = .inl (k, q) → (1 ≤ k ∧ k ≤ 5) ∧ q ≤ T.length
  | 0, p, L, hp => fun k q h => by cases h; exact ⟨by decide, hp⟩
  | fu + 1, p, L, hp => by
    have eU : spLifeL T Q (fu + 1) p L = if (tkA T p).1 = 0 then .inr L else match spLf T Q L p with
        | .inl e => .inl e
        | .inr (p', D') => spLifeL T Q fu p' (decL D') := rfl
    intro k q
    rw [eU]
    by_cases e : (tkA T p).1 = 0
    · rw [if_pos e]
      exact fun h => by cases h
    · rw [if_neg e]
      have r := Rs_lf (T := T) (Q := Q) (L := L) hp
      cases eL : spLf T Q L p with
      | inl z =>
        obtain ⟨k', q'⟩ := z
        rw [eL] at r
        exact fun h => by cases h; exact r
      | inr z =>
        obtain ⟨p', D'⟩ := z
        rw [eL] at r
        exact lifeL_b fu p' (decL D') r.1.2 k q
/-- the class's memory while a life is read -/
def PLf : Nat → Nat → Nat → Prop := fun k n i => PT6 k n i ∨ (n = 1 ∧ ((k = 9 ∧ i = 0) ∨ k = 45 ∨ k = 46))
def LfK (o : Nat) (Q : nmt) (L : lty) (M : mm) : Prop := ToL 1 M L ∧ (M.2.2 6 0 2 = o ∧ M.2.2 6 0 3 = 1) ∧ (NmC 24 o Q.1 M ∧ NmC 30 o Q.2 M) ∧ (M.1 1 o 5 = nI Q.1.length ∧ M.1 1 o 13 = nI Q.2.length)
theorem LfK_fi {o : Nat} {Q : nmt} {L L' : lty} {M M' : mm} (h : LfK o Q L M) (f : fi PLf M M') (hT : ToL 1 M' L') : LfK o Q L' M' := by
  obtain ⟨-, ⟨h2, h3⟩, ⟨h4, h5⟩, h6, h7⟩ := h
  exact ⟨hT, ⟨by rw [f.1]; exact h2, by rw [f.1]; exact h3⟩, ⟨NmC_e h4 rfl (fun i => fi_L f (by unfold PLf PT6 P7; omega)), NmC_e h5 rfl (fun i => fi_L f (by unfold PLf PT6 P7; omega))⟩, by rw [fi_I f (by unfold PLf PT6 P7; omega)]; exact h6, by rw [fi_I f (by unfold PLf PT6 P7; omega)]; exact h7⟩
theorem LfK_6 {o : Nat} {Q : nmt} {L : lty} {M M' : mm} (h : LfK o Q L M) (f : fi PT6 M M') : LfK o Q L M' := LfK_fi h (fi_mono f (fun k n i q => Or.inl q)) (ToL_c h.1 (fun k j hk => fi_I f (by unfold PT6 P7; omega)))
theorem addLine_ok {F : Nat} {L : lty} {M : mm} {d x : Int32} (h : ToL 1 M L) (hl : L.length < 40) : ok (m_X8_addLine F 1 d x M) (fun M' => ToL 1 M' (L ++ [(d, x)]) ∧ fi (fun k n i => n = 1 ∧ ((k = 9 ∧ i = 0) ∨ k = 45 ∨ k = 46)) M M') := by
  have e40 : (40 : Int32) ≤ nI L.length ↔ 40 ≤ L.length := (nI_leI (by omega) (by omega) : nI 40 ≤ nI _ ↔ _)
  unfold m_X8_addLine
  rw [h.1, ok_ite, e40]
  refine ⟨fun q => by omega, fun _ => ?_⟩
  have u0 : (sI M 45 1 (nI L.length).toNatClampNeg d).1 9 1 0 = nI L.length := by rw [rII, if_neg (by omega)]; exact h.1
  rw [ok_gi, ok_nm, u0, ok_gi, ok_nm, ok_nm, ok_some, nI_clamp (by omega)]
  have v0 : (sI (sI M 45 1 L.length d) 46 1 L.length x).1 9 1 0 = nI L.length := by rw [rII, if_neg (by omega), rII, if_neg (by omega)]; exact h.1
  rw [v0, nI_1]
  refine ⟨vp_in_nI (by omega) (by decide), vp_in_nI (by omega) (by decide), ⟨?_, fun i e hi => ?_⟩, fi_sI (fi_sI (fi_sI fi_rf ⟨rfl, Or.inr (Or.inl rfl)⟩) ⟨rfl, Or.inr (Or.inr rfl)⟩) ⟨rfl, Or.inl ⟨rfl, rfl⟩⟩⟩
  · rw [rII, if_pos ⟨rfl, rfl, rfl⟩, List.length_append, List.length_singleton]
  · have w45 : ∀ j, (sI (sI (sI M 45 1 L.length d) 46 1 L.length x) 9 1 0 (nI (L.length + 1))).1 45 1 j = if j = L.length then d else M.1 45 1 j := fun j => by simp [rII]
    have w46 : ∀ j, (sI (sI (sI M 45 1 L.length d) 46 1 L.length x) 9 1 0 (nI (L.length + 1))).1 46 1 j = if j = L.length then x else M.1 46 1 j := fun j => by simp [rII]
    rw [w45, w46]
    rcases getq_snoc hi with ⟨a, b⟩ | ⟨a, b⟩
    · rw [if_neg (by omega), if_neg (by omega)]
      exact h.2 i e b
    · subst b
      rw [if_pos a, if_pos a]
      exact ⟨rfl, fun _ => rfl⟩
theorem wd_c (T : List Int32) (p : Nat) : (if (tkA T p).1 = 2 then kwI (tkA T p).2.1 else -1) = -1 ∨ ∃ j, j < 29 ∧ (if (tkA T p).1 = 2 then kwI (tkA T p).2.1 else -1) = nI j := by
  by_cases q : (tkA T p).1 = 2
  · rw [if_pos q]
    rcases kwI_c (tkA T p).2.1 with e | ⟨j, a, b, c⟩
    · exact Or.inl e
    · exact Or.inr ⟨j, a, b⟩
  · rw [if_neg q]; exact Or.inl rfl
def LfD (o : Nat) (Q : nmt) (D : dft) (M : mm) : Prop := ∃ L', D = encL L' ∧ LfK o Q L' M ∧ LfQ Q L'
theorem PLf_6 : ∀ k n i, PT6 k n i → PLf k n i := fun _ _ _ q => Or.inl q
theorem readLifeLine_ok {F : Nat} (hF : 2000 < F) {T : List Int32} {p o : Nat} {Q : nmt} (hq1 : Q.1.length ≤ 10) (hq2 : Q.2.length ≤ 10) {L : lty} {M : mm} (h : AtC T p M) (hK : LfK o Q L M) (hL : LfQ Q L) : ok (m_X5_readLifeLine F M) (QR T (LfD o Q) PLf M (spLf T Q L p)) := by
  have h7 := h.2.2.2.2.2.1
  have wi : ∀ i, i < 29 → (M.1 7 0 7 = nI i ↔ isW T p i = true) := fun i hi => by rw [h7]; exact wd_i hi
  have hl := hL.1
  have bad : ¬ (isW T p 14 = true ∨ isW T p 15 = true ∨ isW T p 16 = true ∨ isW T p 17 = true) → ok (cb (m_X5_wrong F (1 : Int32) M) fun b M' => some (b, M')) (QR T (LfD o Q) PLf M (spLf T Q L p)) := fun q => by
    unfold spLf
    rw [if_neg q, ok_cb]
    exact ok_mono (wrong_ok (k := 1) h) (fun r hr => ok_some.mpr (QR_bad fi_rf PLf_6 hr))
  unfold m_X5_readLifeLine
  rw [ok_nm]
  rcases wd_c T p with e | ⟨j, hj, e⟩
  · rw [← h7] at e
    have nb : ¬ (isW T p 14 = true ∨ isW T p 15 = true ∨ isW T p 16 = true ∨ isW T p 17 = true) := fun q => by
      have z : ∀ i, i < 29 → isW T p i = true → False := fun i hi r => by
        have a := (wi i hi).mpr r
        have b := nI_pos (n := i) (by omega)
        rw [← a, e] at b; exact b (by decide)
      rcases q with q | q | q | q
      · exact z 14 (by decide) q
      · exact z 15 (by decide) q
      · exact z 16 (by decide) q
      · exact z 17 (by decide) q
    rw [e, ok_ite]
    exact ⟨fun _ => bad nb, fun q => absurd (show (-1 : Int32) < 14 by decide) q⟩
  · rw [← h7] at e
    have hj' := (wi j hj).mp e
    have nb : (j < 14 ∨ 17 < j) → ¬ (isW T p 14 = true ∨ isW T p 15 = true ∨ isW T p 16 = true ∨ isW T p 17 = true) := fun q0 q => by
      rcases q with q | q | q | q
      · have := isW_u hj' q hj (by decide); omega
      · have := isW_u hj' q hj (by decide); omega
      · have := isW_u hj' q hj (by decide); omega
      · have := isW_u hj' q hj (by decide); omega
    have e14 : nI j < (14 : Int32) ↔ j < 14 := (nI_ltI (by omega) (by omega) : nI j < nI 14 ↔ _)
    have e17 : nI j ≤ (17 : Int32) ↔ j ≤ 17 := (nI_leI (by omega) (by omega) : nI j ≤ nI 17 ↔ _)
    have e40 : nI L.length < (40 : Int32) ↔ L.length < 40 := (nI_ltI (by omega) (by omega) : nI _ < nI 40 ↔ _)
    rw [e, ok_ite, e14]
    refine ⟨fun q => bad (nb (Or.inl q)), fun q14 => ?_⟩
    rw [ok_ite, e17]
    refine ⟨fun q17 => ?_, fun q => bad (nb (Or.inr (by omega)))⟩
    have hin : isW T p 14 = true ∨ isW T p 15 = true ∨ isW T p 16 = true ∨ isW T p 17 = true := by
      have : j = 14 ∨ j = 15 ∨ j = 16 ∨ j = 17 := by omega
      rcases this with r | r | r | r
      · rw [r] at hj'; exact Or.inl hj'
      · rw [r] at hj'; exact Or.inr (Or.inl hj')
      · rw [r] at hj'; exact Or.inr (Or.inr (Or.inl hj'))
      · rw [r] at hj'; exact Or.inr (Or.inr (Or.inr hj'))
    unfold spLf
    rw [if_pos hin, hK.2.1.2, hK.1.1, ok_ite, e40]
    refine ⟨fun q40 => ?_, fun q40 => ?_⟩
    · rw [if_neg (by omega), ok_nm, ok_cv]
      refine ok_mono (AtC_next hF h) (fun M2 h2 => ?_)
      obtain ⟨a2, f2⟩ := h2
      have f3 : fi (fun k _ i => k = 6 ∧ i = 6) M2 (sI M2 6 0 6 0) := fi_sI fi_rf ⟨rfl, rfl⟩
      have v6 : (sI M2 6 0 6 0).1 6 0 6 = 0 := by rw [rII, if_pos ⟨rfl, rfl, rfl⟩]
      rw [ok_nm]
      generalize sI M2 6 0 6 0 = M3 at f3 v6 ⊢
      have a3 := AtC_6 a2 f3 (fun k n i q => by omega)
      have f3' : fi PT6 M M3 := fi_tr (fi_mono f2 P7_6) (fi_mono f3 (fun k n i q => Or.inr (by omega)))
      have k3 := LfK_6 hK f3'
      -- behind the name
      have tail : ∀ (d x : Int32) (q : Nat) (M11 : mm), AtC T q M11 → LfK o Q L M11 → fi PLf M M11 → M11.1 6 0 6 = x → LfQ Q (L ++ [(d, x)]) → ok (cv (m_X8_addLine F (M11.2.2 6 0 3) d (M11.1 6 0 6) M11) fun M12 => cb (m_X5_takeEnd F M12) fun b14 M13 => some (b14, M13)) (QR T (LfD o Q) PLf M (spLfE T L d x q)) := fun d x q M11 a11 k11 f11 v11 hq => by
        rw [k11.2.1.2, v11, ok_cv]
        refine ok_mono (addLine_ok k11.1 q40) (fun M12 h12 => ?_)
        obtain ⟨t12, f12⟩ := h12
        have a12 := AtC_6 a11 f12 (fun k n i q => by omega)
        have fL : fi PLf M11 M12 := fi_mono f12 (fun k n i q => Or.inr q)
        have k12 := LfK_fi k11 fL t12
        unfold spLfE
        refine te_ok hF PLf_6 a12 (fi_tr f11 fL) (fun M13 a13 f13 => ok_some.mpr ?_) (fun M' => rfl)
        exact ⟨fi_tr (fi_tr f11 fL) (fi_mono f13 (fun k n i q => PLf_6 k n i (P7_6 k n i q))), rfl, a13, _, rfl, LfK_6 k12 (fi_mono f13 P7_6), hq⟩
      have ej : nI j - (14 : Int32) = nI (j - 14) := by
        obtain ⟨m, rfl⟩ : ∃ m, j = 14 + m := ⟨j - 14, by omega⟩
        rw [show 14 + m - 14 = m by omega, ← nI_add, Int32.add_comm]; exact Int32.add_sub_cancel _ _
      rw [ok_nm, ej]
      have e3 : nI (j - 14) = (3 : Int32) ↔ j - 14 = 3 := nI_eq (b := 3) (by omega) (by decide)
      have e2 : nI (j - 14) = (2 : Int32) ↔ j - 14 = 2 := nI_eq (b := 2) (by omega) (by decide)
      rw [ok_ite, e3]
      refine ⟨fun q3 => ?_, fun q3 => ?_⟩
      · have j17 : j = 17 := by omega
        subst j17
        rw [if_neg (fun r => absurd (isW_u hj' r (by decide) (by decide)) (by decide)), if_neg (fun r => absurd (isW_u hj' r (by decide) (by decide)) (by decide)), if_neg (fun r => absurd (isW_u hj' r (by decide) (by decide)) (by decide))]
        exact tail 3 0 _ M3 a3 k3 (fi_mono f3' PLf_6) v6 (LfQ_add hL q40 (Or.inl rfl))
      rw [ok_bd, ok_ite, e2]
      refine ⟨fun q2 => ?_, fun q2 => ?_⟩
      · have j16 : j = 16 := by omega
        subst j16
        rw [if_neg (fun r => absurd (isW_u hj' r (by decide) (by decide)) (by decide)), if_neg (fun r => absurd (isW_u hj' r (by decide) (by decide)) (by decide)), if_pos hj', k3.2.1.1, k3.2.2.2.2]
        have := kn30_ok (F := F) (T := T) (DC := LfD o Q) (P := PLf) (M0 := M) hF PLf_6 a3 (fi_mono f3' PLf_6) k3.2.2.1.2 hq2 (f := fun b7 M6 => bd (some (bI b7, M6)) (fun z => match z with
            | (x8, M9) =>
              if x8 = (0 : Int32) then
                some (false, M9)
              else
                cv (m_X6_next F M9) fun M10 =>
                cv (m_X8_addLine F (M10.2.2 6 0 3) (nI (16 - 14)) (M10.1 6 0 6) M10) fun M12 => cb (m_X5_takeEnd F M12) fun b14 M13 => some (b14, M13))) (K := fun i => spLfE T L 2 (nI i) (tkE T (tkE T p))) (fun i hi M' a' f' v' => by
          rw [ok_bd, ok_some]
          dsimp only
          rw [if_neg bI_t, ok_cv]
          refine ok_mono (AtC_next hF a') (fun M10 h10 => ?_)
          exact tail 2 (nI i) _ M10 h10.1 (LfK_6 (LfK_6 k3 f') (fi_mono h10.2 P7_6)) (fi_tr (fi_mono f3' PLf_6) (fi_tr (fi_mono f' PLf_6) (fi_mono h10.2 (fun k n i q => PLf_6 k n i (P7_6 k n i q))))) ((fi_I h10.2 (by unfold P7; omega)).trans v') (LfQ_add hL q40 (Or.inr (Or.inr ⟨rfl, i, fnd_lt hi, rfl⟩)))) (fun M' => rfl)
        rw [ok_cb] at this ⊢
        exact ok_mono this (fun r hr => ok_bd.mp hr)
      · have hlow : j = 14 ∨ j = 15 := by omega
        have low : ∀ dd : Int32, nI (j - 14) = dd → (dd = 0 ∨ dd = 1) → ok (cb (m_X5_seeKnown_24 F (M3.2.2 6 0 2) (M3.1 1 (M3.2.2 6 0 2) 5) M3) fun b5 M4 => some ((bI b5), M4)) (fun z => ok (match z with
            | (x8, M9) =>
              if x8 = (0 : Int32) then
                some (false, M9)
              else
                cv (m_X6_next F M9) fun M10 =>
                cv (m_X8_addLine F (M10.2.2 6 0 3) (nI (j - 14)) (M10.1 6 0 6) M10) fun M12 => cb (m_X5_takeEnd F M12) fun b14 M13 => some (b14, M13)) (QR T (LfD o Q) PLf M (spKn T Q.1 (tkE T p) (fun i => spLfE T L dd (nI i) (tkE T (tkE T p)))))) := fun dd hdd hd2 => by
          rw [k3.2.1.1, k3.2.2.2.1, hdd]
          have := kn24_ok (F := F) (T := T) (DC := LfD o Q) (P := PLf) (M0 := M) hF PLf_6 a3 (fi_mono f3' PLf_6) k3.2.2.1.1 hq1 (f := fun b7 M6 => bd (some (bI b7, M6)) (fun z => match z with
            | (x8, M9) =>
              if x8 = (0 : Int32) then
                some (false, M9)
              else
                cv (m_X6_next F M9) fun M10 =>
                cv (m_X8_addLine F (M10.2.2 6 0 3) dd (M10.1 6 0 6) M10) fun M12 => cb (m_X5_takeEnd F M12) fun b14 M13 => some (b14, M13))) (K := fun i => spLfE T L dd (nI i) (tkE T (tkE T p))) (fun i hi M' a' f' v' => by
            rw [ok_bd, ok_some]
            dsimp only
            rw [if_neg bI_t, ok_cv]
            refine ok_mono (AtC_next hF a') (fun M10 h10 => ?_)
            exact tail dd (nI i) _ M10 h10.1 (LfK_6 (LfK_6 k3 f') (fi_mono h10.2 P7_6)) (fi_tr (fi_mono f3' PLf_6) (fi_tr (fi_mono f' PLf_6) (fi_mono h10.2 (fun k n i q => PLf_6 k n i (P7_6 k n i q))))) ((fi_I h10.2 (by unfold P7; omega)).trans v') (LfQ_add hL q40 (Or.inr (Or.inl ⟨hd2, i, fnd_lt hi, rfl⟩)))) (fun M' => rfl)
          rw [ok_cb] at this ⊢
          exact ok_mono this (fun r hr => ok_bd.mp hr)
        rcases hlow with r | r
        · subst r
          rw [if_pos hj']
          exact low 0 rfl (Or.inl rfl)
        · subst r
          rw [if_neg (fun r => absurd (isW_u hj' r (by decide) (by decide)) (by decide)), if_pos hj']
          exact low 1 rfl (Or.inr rfl)
    · rw [if_pos (by omega), ok_cb]
      exact ok_mono (wrong_ok (k := 5) h) (fun r hr => ok_some.mpr (QR_bad fi_rf PLf_6 hr))
