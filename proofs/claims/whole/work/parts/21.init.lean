/-! THE SWITCH from the first phase's pointers to the main phase's; the first memory -/
def swOne (M : mm) (k n j : Nat) : Bool := decide (1 ≤ M.2.2 k n j ∧ iTo k n j (M.2.2 k n j - 1) = M.2.2 k n j - 1)
def swC (M : mm) (q : Nat × Nat) : Bool := match kOb q.1 with
  | some c => (List.range (fN c)).all (fun j => if fTy c j = 3 then swOne M q.1 q.2 j else decide (kTo q.1 j = 0))
  | none => decide ((kAr q.1).1 < 4) || (List.range (kAr q.1).2).all (fun j => swOne M q.1 q.2 j)
def swM (M : mm) : mm := (M.1, M.2.1, fun k n j => M.2.2 k n j - 1)
theorem swOne_rd {M : mm} {k n j : Nat} (h : swOne M k n j = true) : rdC k n j (M.2.2 k n j) = rdM k n j ((swM M).2.2 k n j) := by
  simp only [swOne, decide_eq_true_iff] at h
  obtain ⟨h1, h2⟩ := h
  show rdC k n j (M.2.2 k n j) = rdM k n j (M.2.2 k n j - 1)
  obtain ⟨r, hr⟩ : ∃ r, M.2.2 k n j = r + 1 := ⟨M.2.2 k n j - 1, by omega⟩
  rw [hr] at h2 ⊢
  rw [Nat.add_sub_cancel] at h2 ⊢
  show vR (kTo k j) r = vR (kTo k j) (iTo k n j r)
  rw [h2]
theorem kTo_0 {k j : Nat} (h1 : kOb k = none) (h2 : (kAr k).1 < 4) : kTo k j = 0 := by
  unfold kTo
  split <;> first | rfl | (exfalso; simp [kOb] at h1; done) | (exfalso; revert h2; decide)
theorem arrV_congr (c : ClassId) {n : Nat} {f g : Nat → Value} (h : ∀ j, j < n → f j = g j) : arrV c n f = arrV c n g := by
  unfold arrV
  congr 2
  funext j
  exact h j.1 j.2
theorem mIx_mem {k n : Nat} (h : mIx k n < mPlan.length) : (k, n) ∈ mPlan := by
  have h1 := mIx_get h
  rw [List.getD_eq_getElem?_getD, List.getElem?_eq_getElem h] at h1
  rw [← show mPlan[mIx k n] = (k, n) from h1]
  exact List.getElem_mem h
theorem mH_sw {G : mg} {M : mm} {top : Nat} {H : Heap} (h : mH G rdC top M H) (hs : ∀ q ∈ mPlan, swC M q = true) : mH G rdM top (swM M) H := by
  obtain ⟨h1, h2, h3, h4⟩ := h
  have key : ∀ k n j, (k, n) ∈ mPlan → (match kOb k with | some c => j < fN c ∧ fTy c j = 3 | none => j < (kAr k).2 ∧ 4 ≤ (kAr k).1) → swOne M k n j = true := by
    intro k n j hm hj
    have h5 := hs _ hm
    unfold swC at h5
    dsimp only at h5
    cases hk : kOb k with
    | some c =>
      rw [hk] at h5 hj
      dsimp only at h5 hj
      have h6 := List.all_eq_true.mp h5 j (List.mem_range.mpr hj.1)
      rw [if_pos hj.2] at h6
      exact h6
    | none =>
      rw [hk] at h5 hj
      dsimp only at h5 hj
      rw [Bool.or_eq_true, decide_eq_true_iff] at h5
      rcases h5 with h5 | h5
      · omega
      · exact List.all_eq_true.mp h5 j (List.mem_range.mpr hj.1)
  refine ⟨fun t q hq => ?_, trivial, h3, fun k n j hk hj => ?_⟩
  · obtain ⟨ht, rfl⟩ := mW_some hq
    have h5 := h1 t _ (mW_get ht)
    have hm : mPlan.getD t (0, 0) ∈ mPlan := by
      rw [List.getD_eq_getElem?_getD, List.getElem?_eq_getElem (by omega)]
      exact List.getElem_mem _
    generalize mPlan.getD t (0, 0) = p at h5 hm ⊢
    obtain ⟨k, n⟩ := p
    cases hk : kOb k with
    | some c =>
      have e : mE G rdC M (k, n) = mE G rdM (swM M) (k, n) := by
        rw [mE_ob hk, mE_ob hk]
        refine congrArg (fun z => Sum.inr (c, z)) (List.map_congr_left (fun j hj => ?_))
        unfold fV
        by_cases e1 : fTy c j = 1
        · rw [if_pos e1, if_pos e1]; rfl
        · rw [if_neg e1, if_neg e1]
          by_cases e3 : fTy c j = 3
          · rw [if_pos e3, if_pos e3, swOne_rd (key k n j hm (by rw [hk]; exact ⟨List.mem_range.mp hj, e3⟩))]
          · rw [if_neg e3, if_neg e3]; rfl
      rw [← e]; exact h5
    | none =>
      by_cases h6 : 4 ≤ (kAr k).1
      · rw [mE_ar hk rfl h6] at h5 ⊢
        have h7 : H[g0 G + t]? = some (vp_cell (gA G (kAr k).1) ((kAr k).2, .inr (.inr (.inr (.inr (fun j => raq G (rdC k n j (M.2.2 k n j)))))))) := h5
        show H[g0 G + t]? = some (vp_cell (gA G (kAr k).1) ((kAr k).2, .inr (.inr (.inr (.inr (fun j => raq G (rdM k n j ((swM M).2.2 k n j))))))))
        rw [h7, vp_cell_q, vp_cell_q]
        refine congrArg some (arrV_congr _ (fun j hj => ?_))
        rw [swOne_rd (key k n j hm (by rw [hk]; exact ⟨hj, h6⟩))]
      · have e : mE G rdC M (k, n) = mE G rdM (swM M) (k, n) := by
          by_cases e1 : (kAr k).1 = 1
          · rw [mE_al hk (len := (kAr k).2) (Prod.ext e1 rfl), mE_al hk (len := (kAr k).2) (Prod.ext e1 rfl)]; rfl
          · rw [mE_ai hk (t := (kAr k).1) (len := (kAr k).2) rfl ⟨e1, by omega⟩, mE_ai hk (t := (kAr k).1) (len := (kAr k).2) rfl ⟨e1, by omega⟩]; rfl
        rw [← e]; exact h5
  · have hm := mIx_mem (k := k) (n := n) (by omega)
    have h5 := h4 k n j hk hj
    have h6 := hs _ hm
    unfold swC at h6
    unfold kSz at hj
    cases hkk : kOb k with
    | some c =>
      rw [hkk] at h6 hj
      dsimp only at h6 hj
      have h7 := List.all_eq_true.mp h6 j (List.mem_range.mpr hj)
      by_cases e3 : fTy c j = 3
      · rw [if_pos e3] at h7
        rw [← swOne_rd h7]; exact h5
      · rw [if_neg e3, decide_eq_true_iff] at h7
        exact Or.inl h7
    | none =>
      rw [hkk] at hj
      dsimp only at hj
      by_cases h7 : 4 ≤ (kAr k).1
      · rw [← swOne_rd (key k n j hm (by rw [hkk]; exact ⟨hj, h7⟩))]; exact h5
      · exact Or.inl (kTo_0 hkk (by omega))
theorem g_sw {G : mg} {R : Room} {Y : mY} {Z : mZ} {top cells slots pc : Nat} {ls : List (Option mv)} {st : List mv} {M : mm} (hs : ∀ q ∈ mPlan, swC M q = true) (k : LW G rdM R Y Z top cells slots pc ls st (swM M)) : LW G rdC R Y Z top cells slots pc ls st M :=
  fun p e s m args below meth c F H lo la hH hS hL hO => k p e s m args below meth c F H lo la (mH_sw hH hs) hS hL hO
def mz : mm := (fun _ _ _ => 0, fun _ _ _ => 0, fun _ _ _ => 0)
def mIa : mm := (i_X11_init_t1 (zM mz 12 0)).getD mz
def mIb : mm := (i_X12_init_t120 (zM mIa 13 0)).getD mz
def mIc : mm := zM mIb 110 0
theorem mIa_ok : i_X11_init_t1 (zM mz 12 0) = some mIa := by
  have h : (i_X11_init_t1 (zM mz 12 0)).isSome = true := by decide +kernel
  obtain ⟨x, hx⟩ := Option.isSome_iff_exists.mp h
  unfold mIa
  rw [hx]; rfl
theorem mIb_ok : i_X12_init_t120 (zM mIa 13 0) = some mIb := by
  have h : (i_X12_init_t120 (zM mIa 13 0)).isSome = true := by decide +kernel
  obtain ⟨x, hx⟩ := Option.isSome_iff_exists.mp h
  unfold mIb
  rw [hx]; rfl
theorem mIc_sw : ∀ q ∈ mPlan, swC mIc q = true := by
  have h : mPlan.all (fun q => swC mIc q) = true := by decide +kernel
  exact fun q hq => List.all_eq_true.mp h q hq
