/-! objects and arrays are made (the first phase, rdC) -/
def zM (M : mm) (k n : Nat) : mm := (fun k' n' i' => if k' = k ∧ n' = n then 0 else M.1 k' n' i', fun k' n' i' => if k' = k ∧ n' = n then 0 else M.2.1 k' n' i', fun k' n' i' => if k' = k ∧ n' = n then 0 else M.2.2 k' n' i')
theorem mE_zM {G : mg} {rd : mrd} {M : mm} {k n k' n' : Nat} (h : ¬ (k' = k ∧ n' = n)) : mE G rd M (k', n') = mE G rd (zM M k n) (k', n') := by
  refine mE_ne ?_ ?_ ?_ <;> (funext j; simp only [zM]; rw [if_neg h])
theorem mOkv_up {t t' : Nat} {v : mv} (h : mOkv t v) (hle : t ≤ t') : mOkv t' v := by
  rcases v with x | x | (_ | q)
  · trivial
  · trivial
  · trivial
  · rcases h with h | h | h
    · exact Or.inl h
    · exact Or.inr (Or.inl h)
    · exact Or.inr (Or.inr (Nat.lt_of_lt_of_le h hle))
theorem mOk_up {t t' : Nat} {ls : List (Option mv)} {st : List mv} (h : mOk t ls st) (hle : t ≤ t') : mOk t' ls st := ⟨fun v hv => mOkv_up (h.1 v hv) hle, fun v hv => mOkv_up (h.2 v hv) hle⟩
theorem mW_push {G : mg} {rd : mrd} {M : mm} {top k n : Nat} (hp : mPlan[top]? = some (k, n)) : mW G rd (zM M k n) (top + 1) = mW G rd M top ++ [(g0 G + top, mE G rd (zM M k n) (k, n))] := by
  have hlt : top < mPlan.length := (List.getElem?_eq_some_iff.mp hp).1
  have hg : mPlan.getD top (0, 0) = (k, n) := by rw [List.getD_eq_getElem?_getD, hp]; rfl
  simp only [mW, List.range_succ, List.map_append, List.map_cons, List.map_nil, hg]
  congr 1
  refine List.map_congr_left (fun t ht => ?_)
  have ht := List.mem_range.mp ht
  have hne : ¬ ((mPlan.getD t (0, 0)).1 = k ∧ (mPlan.getD t (0, 0)).2 = n) := fun q => by
    have h1 := mIx_inj (k := k) (n := n) (t := t) (by omega) (Prod.ext q.1 q.2)
    have h2 := mIx_inj (k := k) (n := n) hlt hg
    omega
  rw [← mE_zM hne]
theorem mIx_at {top k n : Nat} (hp : mPlan[top]? = some (k, n)) : mIx k n = top := by
  have hlt : top < mPlan.length := (List.getElem?_eq_some_iff.mp hp).1
  have hg : mPlan.getD top (0, 0) = (k, n) := by rw [List.getD_eq_getElem?_getD, hp]; rfl
  exact (mIx_inj hlt hg).symm
theorem adr_at {G : mg} {top k n : Nat} (hp : mPlan[top]? = some (k, n)) (hk : k ≠ 0 ∧ k ≠ 19) : adr G k n = g0 G + top := by
  simp only [adr]; rw [if_neg hk.1, if_neg hk.2, mIx_at hp]
theorem mH_push {G : mg} {M : mm} {top k n : Nat} {H H1 : Heap} (h : mH G rdC top M H) (hp : mPlan[top]? = some (k, n)) (hP : va_P (gD G) mCl (mW G rdC (zM M k n) (top + 1)) H1) : mH G rdC (top + 1) (zM M k n) H1 := by
  have hlt : top < mPlan.length := (List.getElem?_eq_some_iff.mp hp).1
  refine ⟨hP, trivial, by omega, fun k' n' j h1 h2 => ?_⟩
  by_cases e : k' = k ∧ n' = n
  · have : (zM M k n).2.2 k' n' j = 0 := by simp only [zM]; rw [if_pos e]
    rw [this]; trivial
  · have h3 : (zM M k n).2.2 k' n' j = M.2.2 k' n' j := by simp only [zM]; rw [if_neg e]
    rw [h3]
    refine mOkv_up (h.2.2.2 k' n' j ?_ h2) (by omega)
    rcases Nat.lt_or_ge (mIx k' n') top with q | q
    · exact q
    · exfalso
      have h4 : mIx k' n' = top := by omega
      have h5 := mIx_get (k := k') (n := n') (by omega)
      rw [h4, List.getD_eq_getElem?_getD, hp] at h5
      exact e ⟨(congrArg Prod.fst h5).symm, (congrArg Prod.snd h5).symm⟩
theorem getD_ne9 {l : List Nat} (h : ∀ x ∈ l, x ≠ 9) {j : Nat} : l.getD j 0 = 9 → False := by
  intro e
  rw [List.getD_eq_getElem?_getD] at e
  cases hj : l[j]? with
  | none => rw [hj] at e; simp at e
  | some x => rw [hj] at e; simp at e; exact h x (List.mem_of_getElem? hj) e
theorem fTy_ne9 {c j : Nat} : fTy c j = 9 → False := by
  intro h
  unfold fTy at h
  split at h <;> exact getD_ne9 (by decide) h
section GN
variable {G : mg} {R : Room} {Y : mY} {Z : mZ} {top cells slots pc pc' : Nat} {ls : List (Option mv)} {st : List mv} {M : mm}
/-- where the next cell comes to lie -/
theorem q_next {t0 : Nat} {p : Program} {e : Env} {s : State} {m : MethodId} {args : Array Value} {below : List Frame} {meth : Method} {c : Code} {T : State} {lo : List Loc} {H1 : Heap} {q : Nat} {x : va_E} {slots' : Nat} (F : mF G Y p s m args meth c) (ht0 : Y.2.2.2.2.2 = some t0) (hc : t0 + cells = top) (hT : T.heap = H1) (X : Stand p (gl G) e R s m args below meth c T lo (cells + 1) slots')
    (hP : va_P (gD G) mCl (mW G rdC M top ++ [(q, x)]) H1) (hD : va_D (mA G) (mW G rdC M top ++ [(q, x)])) : q = g0 G + top := by
  have hl : (mW G rdC M top).length = top := by simp [mW]
  have hlast : (mW G rdC M top ++ [(q, x)])[top]? = some (q, x) := by
    rw [List.getElem?_append_right (by omega), hl, Nat.sub_self]; rfl
  have h1 : g0 G ≤ q := hD.2 top _ hlast
  have h2 : q < H1.size := (hP top _ hlast).lt
  have h3 := X.same.2.2.1
  have h4 : (T.setVm s.vm).heap = H1 := hT
  rw [h4] at h3
  have h5 := F.2.2.2.2.2.2.2.2.2.2.1 t0 ht0
  rcases Nat.lt_or_ge q (g0 G + top) with h | h
  · exfalso
    have hlt : q - g0 G < top := by omega
    have h6 : (mW G rdC M top ++ [(q, x)])[q - g0 G]? = some (g0 G + (q - g0 G), mE G rdC M (mPlan.getD (q - g0 G) (0, 0))) := by
      rw [List.getElem?_append_left (by omega), mW_get hlt]
    have h7 := hD.1 _ _ _ _ h6 hlast (by dsimp only; omega)
    omega
  · omega
def mNW (own : String) (idx ci : Nat) : Prop := ∃ (C : String) (T : u_T) (N : Nat) (ty : Nat → FieldType), mCF ci C T N ty ∧ Cond.classLink own idx C ∈ mGood ∧ Cond.instantiable C N ∈ mGood ∧ Cond.initialized C ∈ mGood
theorem g_new {idx k n ci t0 N : Nat} (hd : iAt Y.2.2.1 pc (.new idx) 3 pc') (hw : mNW Y.1 idx ci) (hN : fN ci = N) (hk : kOb k = some ci) (hp : mPlan[top]? = some (k, n)) (ht0 : Y.2.2.2.2.2 = some t0) (hc : t0 + cells = top) (hR : cells + 1 ≤ R.cells ∧ slots + N ≤ R.slots)
    (kk : LW G rdC R Y Z (top + 1) (cells + 1) (slots + N) pc' ls (vR k n :: st) (zM M k n)) : LW G rdC R Y Z top cells slots pc ls st M := by
  obtain ⟨hd, rfl⟩ := hd
  intro p e s m args below meth c F H lo la hH hS hL hO
  obtain ⟨C, T, N', ty, ⟨c1, c2, c3, c4, c5, c6⟩, hcl, hins, hini⟩ := hw
  have hNN : N' = N := c2.symm.trans hN
  subst hNN
  have hfs : ∀ j, j < N' → defaultValue (ty j) = vp_V ((List.range (fN ci)).map (fun j => fV G rdC (zM M k n) k n (fTy ci j) j)) j := by
    intro j hj
    have h1 : ((List.range (fN ci)).map (fun j => fV G rdC (zM M k n) k n (fTy ci j) j))[j]? = some (fV G rdC (zM M k n) k n (fTy ci j) j) := by
      rw [List.getElem?_map, List.getElem?_range (by omega)]; rfl
    simp only [vp_V, List.getD_eq_getElem?_getD, h1, Option.getD_some]
    rw [← c6 j hj]
    have z1 : (zM M k n).1 k n j = 0 := by simp [zM]
    have z2 : (zM M k n).2.1 k n j = 0 := by simp [zM]
    have z3 : (zM M k n).2.2 k n j = 0 := by simp [zM]
    have h6 := c6 j hj
    simp only [fV, z1, z2, z3]
    cases hty : ty j with
    | int => rfl
    | long => rfl
    | boolean => rfl
    | object C0 => rfl
    | array t => rfl
    | byte => rw [hty] at h6; exfalso; exact fTy_ne9 h6.symm
    | char => rw [hty] at h6; exfalso; exact fTy_ne9 h6.symm
    | short => rw [hty] at h6; exfalso; exact fTy_ne9 h6.symm
    | float => rw [hty] at h6; exfalso; exact fTy_ne9 h6.symm
    | double => rw [hty] at h6; exfalso; exact fTy_ne9 h6.symm
  have hA : ∀ q, s.heap.size ≤ q → mA G q := fun q h => Nat.le_trans F.2.2.2.2.2.2.2.2.2.1 h
  refine va_new (Ts := mGood) (ci := ci) F.1 F.2.1 F.2.2.2.2.2.1 c3 ty c4 F.2.2.2.2.1 (F.2.2.2.2.2.1 _ hcl) (F.2.2.2.2.2.1 _ hins) (F.2.2.2.2.2.1 _ hini) F.2.2.2.2.2.2.2.2.1.1 hH.1 (mW_D G rdC M top) hS hA c1 hfs hR.1 hR.2 hd (fun q H1 hP1 hD1 hS1 => ?_)
  intro T1 hT1 X1
  have hq := q_next F ht0 hc hT1 X1 hP1 hD1
  subst hq
  rw [← mE_ob (G := G) (rd := rdC) (M := zM M k n) (n := n) hk, ← mW_push hp] at hP1
  have hW := kk p e s m args below meth c F H1 lo la (mH_push hH hp hP1) hS1 hL ((mOk_up hO (Nat.le_succ _)).cons (Or.inr (Or.inr (by rw [mIx_at hp]; exact Nat.lt_succ_self _))))
  have he : rv G (vR k n) = .ref (g0 G + top) := congrArg Value.ref (adr_at hp (kOb_ne0 hk))
  rw [List.map_cons, he] at hW
  exact hW T1 hT1 X1
theorem mE_push_i {k n t len : Nat} (hk : kOb k = none) (ha : kAr k = (t, len)) (ht : t ≠ 1 ∧ t < 4) : mE G rdC (zM M k n) (k, n) = .inl (gA G t, len, .inl (fun _ => 0)) := by
  rw [mE_ai hk ha ht]
  have : (zM M k n).1 k n = fun _ => 0 := by funext j; simp [zM]
  rw [this]
theorem mE_push_l {k n len : Nat} (hk : kOb k = none) (ha : kAr k = (1, len)) : mE G rdC (zM M k n) (k, n) = .inl (gA G 1, len, .inr (.inl (fun _ => 0))) := by
  rw [mE_al hk ha]
  have : (zM M k n).2.1 k n = fun _ => 0 := by funext j; simp [zM]
  rw [this]
theorem mE_push_r {k n t len : Nat} (hk : kOb k = none) (ha : kAr k = (t, len)) (ht : 4 ≤ t) : mE G rdC (zM M k n) (k, n) = .inl (gA G t, len, .inr (.inr (.inr (.inr (fun _ => none))))) := by
  rw [mE_ar hk ha ht]
  have : (fun j => raq G (rdC k n j ((zM M k n).2.2 k n j))) = fun _ => none := by funext j; simp [zM, rdC, raq]
  rw [this]
/-- behind the making of an array -/
theorem g_made {k n t0 slots' : Nat} {ar : vp_A} {cA : ClassId} {q : Nat} {H H1 : Heap} {p : Program} {e : Env} {s : State} {m : MethodId} {args : Array Value} {below : List Frame} {meth : Method} {c : Code} {lo : List Loc} {la : Array Slot} (F : mF G Y p s m args meth c) (hH : mH G rdC top M H) (hL : mLR G la Y.2.2.2.1 ls) (hO : mOk top ls st) (hp : mPlan[top]? = some (k, n)) (hk : k ≠ 0 ∧ k ≠ 19) (ht0 : Y.2.2.2.2.2 = some t0) (hc : t0 + cells = top)
    (hE : mE G rdC (zM M k n) (k, n) = .inl (cA, ar)) (hP1 : va_P (gD G) mCl (mW G rdC M top ++ [(q, .inl (cA, ar))]) H1) (hD1 : va_D (mA G) (mW G rdC M top ++ [(q, .inl (cA, ar))])) (hS1 : va_S (mA G) s.heap H1 lo)
    (kk : LW G rdC R Y Z (top + 1) (cells + 1) slots' pc' ls (vR k n :: st) (zM M k n)) : W p (gl G) e R s m args below meth c H1 lo (cells + 1) slots' (Z below args s) (F0 m pc' la (Value.ref q :: st.map (rv G))) := by
  intro T1 hT1 X1
  have hq := q_next F ht0 hc hT1 X1 hP1 hD1
  subst hq
  rw [← hE, ← mW_push hp] at hP1
  have hW := kk p e s m args below meth c F H1 lo la (mH_push hH hp hP1) hS1 hL ((mOk_up hO (Nat.le_succ _)).cons (Or.inr (Or.inr (by rw [mIx_at hp]; exact Nat.lt_succ_self _))))
  have he : rv G (vR k n) = .ref (g0 G + top) := congrArg Value.ref (adr_at hp hk)
  rw [List.map_cons, he] at hW
  exact hW T1 hT1 X1
theorem cA_eq {tys : List (ClassId × FieldType)} {cA : ClassId} {ty : FieldType} {U : State} {i : Nat} {cB : ClassId} (h : va_K (gD G) mCl (tys ++ [(cA, ty)]) U) (hi : tys[i]? = some (cB, ty)) : cA = cB := by
  have hlt : i < tys.length := (List.getElem?_eq_some_iff.mp hi).1
  have h1 := (h.2 i (cB, ty) (by rw [List.getElem?_append_left hlt]; exact hi)).2
  have h2 := (h.2 tys.length (cA, ty) (by rw [List.getElem?_append_right (Nat.le_refl _), Nat.sub_self]; rfl)).2
  cases ty with
  | object C =>
    obtain ⟨_, _, _, _, _, e1⟩ := h1
    obtain ⟨_, _, _, _, _, e2⟩ := h2
    exact Option.some.inj (e2.symm.trans e1)
  | _ => exact Option.some.inj (h2.symm.trans h1)
theorem g_newi {k n t0 len : Nat} {v : Int32} (hd : iAt Y.2.2.1 pc (.newarray .int) 2 pc') (hw : Cond.arrayClass .int ∈ mGood) (hk : kOb k = none) (ha : kAr k = (0, len)) (hl : 0 < len ∧ len < 100000) (hv : Int32.ofNat len = v) (hp : mPlan[top]? = some (k, n)) (ht0 : Y.2.2.2.2.2 = some t0) (hc : t0 + cells = top) (hR : cells + 1 ≤ R.cells ∧ slots + len ≤ R.slots)
    (kk : LW G rdC R Y Z (top + 1) (cells + 1) (slots + len) pc' ls (vR k n :: st) (zM M k n)) : LW G rdC R Y Z top cells slots pc ls (vI v :: st) M := by
  obtain ⟨hd, rfl⟩ := hd
  intro p e s m args below meth c F H lo la hH hS hL hO
  have hA : ∀ q, s.heap.size ≤ q → mA G q := fun q h => Nat.le_trans F.2.2.2.2.2.2.2.2.2.1 h
  refine va_newa (atype := .int) (ty := .int) (a0 := (len, .inl (fun _ => 0))) (N' := len) F.1 F.2.1 (F.2.2.2.2.2.1 _ hw) rfl F.2.2.2.2.2.2.2.2.1.1 hH.1 (mW_D G rdC M top) hS hA (fun _ => rfl) (by rw [← hv]; exact nI_pos (by omega)) (by rw [← hv]; exact nI_clamp (by omega)) (by show len * 4 ≤ 536870912; omega) hR.1 hR.2 hd (fun q cA H1 hK1 hP1 hD1 hS1 => ?_)
  have hcA := cA_eq hK1 (i := 0) rfl
  subst hcA
  exact g_made F hH hL hO.tl hp (kAr_ne0 ha hl.1) ht0 hc (mE_push_i hk ha ⟨by decide, by decide⟩) hP1 hD1 hS1 kk
theorem g_newb {k n t0 len : Nat} {v : Int32} (hd : iAt Y.2.2.1 pc (.newarray .byte) 2 pc') (hw : Cond.arrayClass .byte ∈ mGood) (hk : kOb k = none) (ha : kAr k = (2, len)) (hl : 0 < len ∧ len < 100000) (hv : Int32.ofNat len = v) (hp : mPlan[top]? = some (k, n)) (ht0 : Y.2.2.2.2.2 = some t0) (hc : t0 + cells = top) (hR : cells + 1 ≤ R.cells ∧ slots + len ≤ R.slots)
    (kk : LW G rdC R Y Z (top + 1) (cells + 1) (slots + len) pc' ls (vR k n :: st) (zM M k n)) : LW G rdC R Y Z top cells slots pc ls (vI v :: st) M := by
  obtain ⟨hd, rfl⟩ := hd
  intro p e s m args below meth c F H lo la hH hS hL hO
  have hA : ∀ q, s.heap.size ≤ q → mA G q := fun q h => Nat.le_trans F.2.2.2.2.2.2.2.2.2.1 h
  refine va_newa (atype := .byte) (ty := .byte) (a0 := (len, .inl (fun _ => 0))) (N' := len) F.1 F.2.1 (F.2.2.2.2.2.1 _ hw) rfl F.2.2.2.2.2.2.2.2.1.1 hH.1 (mW_D G rdC M top) hS hA (fun _ => rfl) (by rw [← hv]; exact nI_pos (by omega)) (by rw [← hv]; exact nI_clamp (by omega)) (by show len * 1 ≤ 536870912; omega) hR.1 hR.2 hd (fun q cA H1 hK1 hP1 hD1 hS1 => ?_)
  have hcA := cA_eq hK1 (i := 2) rfl
  subst hcA
  exact g_made F hH hL hO.tl hp (kAr_ne0 ha hl.1) ht0 hc (mE_push_i hk ha ⟨by decide, by decide⟩) hP1 hD1 hS1 kk
theorem g_newz {k n t0 len : Nat} {v : Int32} (hd : iAt Y.2.2.1 pc (.newarray .boolean) 2 pc') (hw : Cond.arrayClass .boolean ∈ mGood) (hk : kOb k = none) (ha : kAr k = (3, len)) (hl : 0 < len ∧ len < 100000) (hv : Int32.ofNat len = v) (hp : mPlan[top]? = some (k, n)) (ht0 : Y.2.2.2.2.2 = some t0) (hc : t0 + cells = top) (hR : cells + 1 ≤ R.cells ∧ slots + len ≤ R.slots)
    (kk : LW G rdC R Y Z (top + 1) (cells + 1) (slots + len) pc' ls (vR k n :: st) (zM M k n)) : LW G rdC R Y Z top cells slots pc ls (vI v :: st) M := by
  obtain ⟨hd, rfl⟩ := hd
  intro p e s m args below meth c F H lo la hH hS hL hO
  have hA : ∀ q, s.heap.size ≤ q → mA G q := fun q h => Nat.le_trans F.2.2.2.2.2.2.2.2.2.1 h
  refine va_newa (atype := .boolean) (ty := .boolean) (a0 := (len, .inl (fun _ => 0))) (N' := len) F.1 F.2.1 (F.2.2.2.2.2.1 _ hw) rfl F.2.2.2.2.2.2.2.2.1.1 hH.1 (mW_D G rdC M top) hS hA (fun _ => rfl) (by rw [← hv]; exact nI_pos (by omega)) (by rw [← hv]; exact nI_clamp (by omega)) (by show len * 1 ≤ 536870912; omega) hR.1 hR.2 hd (fun q cA H1 hK1 hP1 hD1 hS1 => ?_)
  have hcA := cA_eq hK1 (i := 3) rfl
  subst hcA
  exact g_made F hH hL hO.tl hp (kAr_ne0 ha hl.1) ht0 hc (mE_push_i hk ha ⟨by decide, by decide⟩) hP1 hD1 hS1 kk
theorem g_newl {k n t0 len : Nat} {v : Int32} (hd : iAt Y.2.2.1 pc (.newarray .long) 2 pc') (hw : Cond.arrayClass .long ∈ mGood) (hk : kOb k = none) (ha : kAr k = (1, len)) (hl : 0 < len ∧ len < 100000) (hv : Int32.ofNat len = v) (hp : mPlan[top]? = some (k, n)) (ht0 : Y.2.2.2.2.2 = some t0) (hc : t0 + cells = top) (hR : cells + 1 ≤ R.cells ∧ slots + len ≤ R.slots)
    (kk : LW G rdC R Y Z (top + 1) (cells + 1) (slots + len) pc' ls (vR k n :: st) (zM M k n)) : LW G rdC R Y Z top cells slots pc ls (vI v :: st) M := by
  obtain ⟨hd, rfl⟩ := hd
  intro p e s m args below meth c F H lo la hH hS hL hO
  have hA : ∀ q, s.heap.size ≤ q → mA G q := fun q h => Nat.le_trans F.2.2.2.2.2.2.2.2.2.1 h
  refine va_newa (atype := .long) (ty := .long) (a0 := (len, .inr (.inl (fun _ => 0)))) (N' := len) F.1 F.2.1 (F.2.2.2.2.2.1 _ hw) rfl F.2.2.2.2.2.2.2.2.1.1 hH.1 (mW_D G rdC M top) hS hA (fun _ => rfl) (by rw [← hv]; exact nI_pos (by omega)) (by rw [← hv]; exact nI_clamp (by omega)) (by show len * 8 ≤ 536870912; omega) hR.1 hR.2 hd (fun q cA H1 hK1 hP1 hD1 hS1 => ?_)
  have hcA := cA_eq hK1 (i := 1) rfl
  subst hcA
  exact g_made F hH hL hO.tl hp (kAr_ne0 ha hl.1) ht0 hc (mE_push_l hk ha) hP1 hD1 hS1 kk
def mQW (own : String) (idx : Nat) (C : String) (t : Nat) : Prop := Cond.classLink own idx C ∈ mGood ∧ True ∧ ∀ a : Nat → ClassId, (mTys a)[t]? = some (a t, .object C)
theorem g_newr {k n t0 len t idx : Nat} {C : String} {v : Int32} (hd : iAt Y.2.2.1 pc (.anewarray idx) 3 pc') (hw : mQW Y.1 idx C t) (hov : ∀ U, mK G U → va_AO C U) (hk : kOb k = none) (ha : kAr k = (t, len)) (ht : 4 ≤ t) (hl : 0 < len ∧ len < 100000) (hv : Int32.ofNat len = v) (hp : mPlan[top]? = some (k, n)) (ht0 : Y.2.2.2.2.2 = some t0) (hc : t0 + cells = top) (hR : cells + 1 ≤ R.cells ∧ slots + len ≤ R.slots)
    (kk : LW G rdC R Y Z (top + 1) (cells + 1) (slots + len) pc' ls (vR k n :: st) (zM M k n)) : LW G rdC R Y Z top cells slots pc ls (vI v :: st) M := by
  obtain ⟨hd, rfl⟩ := hd
  intro p e s m args below meth c F H lo la hH hS hL hO
  have hA : ∀ q, s.heap.size ≤ q → mA G q := fun q h => Nat.le_trans F.2.2.2.2.2.2.2.2.2.1 h
  refine va_newq (C := C) (N' := len) F.1 F.2.1 F.2.2.2.2.1 (F.2.2.2.2.2.1 _ hw.1) (hov s F.2.2.2.2.2.2.2.2.1) F.2.2.2.2.2.2.2.2.1.1 hH.1 (mW_D G rdC M top) hS hA (by rw [← hv]; exact nI_pos (by omega)) (by rw [← hv]; exact nI_clamp (by omega)) (by omega) hR.1 hR.2 hd (fun q cA H1 hK1 hP1 hD1 hS1 => ?_)
  have hcA := cA_eq hK1 (hw.2.2 (gA G))
  subst hcA
  exact g_made F hH hL hO.tl hp (kAr_ne0 ha hl.1) ht0 hc (mE_push_r hk ha ht) hP1 hD1 hS1 kk
/-- an element of an array of references is set -/
theorem g_aast {k n t len k2 n2 ci : Nat} {i : Int32} {C : String} {T : u_T} {N : Nat} (hd : iAt Y.2.2.1 pc .aastore 1 pc') (hk : kOb k = none) (ha : kAr k = (t, len)) (ht : 4 ≤ t) (hty : ∀ a : Nat → ClassId, (mTys a)[t]? = some (a t, .object C)) (hin : vp_in i len) (hk2 : kOb k2 = some ci) (hcl : mCl[ci]? = some (C, T, N)) (hto : kTo k i.toNatClampNeg = k2)
    (kk : LW G rdC R Y Z top cells slots pc' ls st (sR M k n i.toNatClampNeg (n2 + 1))) : LW G rdC R Y Z top cells slots pc ls (vR k2 n2 :: vI i :: vR k n :: st) M := by
  obtain ⟨hd, rfl⟩ := hd
  intro p e s m args below meth c F H lo la hH hS hL hO
  obtain ⟨hix, hadr⟩ := adr_of (G := G) hH.2.2.1 hO.tl.tl.hd (kAr_ne0 ha (vp_in_pos hin))
  obtain ⟨hix2, hadr2⟩ := adr_of (G := G) hH.2.2.1 hO.hd (kOb_ne0 hk2)
  have he := mW_at (G := G) (rd := rdC) (M := M) hH.2.2.1 hix
  have he2 := mW_at (G := G) (rd := rdC) (M := M) hH.2.2.1 hix2
  rw [mE_ar hk ha ht] at he
  rw [mE_ob hk2] at he2
  show W _ _ _ _ _ _ _ _ _ _ _ _ _ _ _ (F0 m pc la (Value.ref (adr G k2 n2) :: Value.int i :: Value.ref (adr G k n) :: st.map (rv G)))
  rw [hadr, hadr2]
  refine va_astq (r := (C, T, N)) F.1 F.2.1 F.2.2.2.2.2.2.2.2.1.1 hH.1 (mW_D G rdC M top) hS (mIx k n) t (mIx k2 n2) ci he (hty (gA G)) he2 hcl hin hd (fun H1 lo1 hP1 _ hS1 => ?_)
  have hrow : (va_up (fun j => raq G (rdC k n j (M.2.2 k n j))) i.toNatClampNeg (some (g0 G + mIx k2 n2))) = fun j => raq G (rdC k n j ((sR M k n i.toNatClampNeg (n2 + 1)).2.2 k n j)) := by
    funext j
    simp only [va_up, sR, u3_at]
    by_cases e : j = i.toNatClampNeg
    · rw [if_pos e, if_pos e, e]
      simp only [rdC, hto, raq, hadr2]
    · rw [if_neg e, if_neg e]
  rw [hrow, mW_set (M' := sR M k n i.toNatClampNeg (n2 + 1)) hH.2.2.1 hix (by rw [mE_ar hk ha ht]) (fun _ _ h => mE_sR h)] at hP1
  exact kk p e s m args below meth c F H1 lo1 la (mH_sR hH (by simp only [rdC, hto]; exact hO.hd) hP1) hS1 hL hO.tl.tl.tl
end GN
section GO
variable {G : mg} {rd : mrd} {R : Room} {Y : mY} {Z : mZ} {top cells slots pc pc' : Nat} {ls : List (Option mv)} {st : List mv} {M : mm}
def mOW (own : String) (idx : Nat) : Prop := Cond.methodLink own idx Lib.objectInit ∈ mGood ∧ Cond.instanceMethod Lib.objectInit ∈ mGood ∧ Cond.code Lib.objectInit ⟨#[0xb1]⟩ 1 none ∈ mGood
theorem g_objI {idx k n : Nat} (hd : iAt Y.2.2.1 pc (.invokespecial idx) 3 pc') (hw : mOW Y.1 idx) (hR : 1 ≤ R.frames ∧ 20 ≤ R.locals) (hs : ((st.map (rv G)).map fun v => v.category).sum ≤ 8) (kk : LW G rd R Y Z top cells slots pc' ls st M) : LW G rd R Y Z top cells slots pc ls (vR k n :: st) M := by
  obtain ⟨hd, rfl⟩ := hd
  intro p e s m args below meth c F H lo la hH hS hL hO
  exact W.objInit F.1 F.2.1 F.2.2.2.2.1 (F.2.2.2.2.2.1 _ hw.1) (F.2.2.2.2.2.1 _ hw.2.1) (F.2.2.2.2.2.1 _ hw.2.2) rfl (hL.1.trans F.2.2.2.1.symm) rfl hd hR.1 (by show 2 * 0 + _ + 12 ≤ _; omega) (kk p e s m args below meth c F H lo la hH hS hL hO.tl)
/-- a nest mate's private constructor -/
def mMN (own : String) (idx : Nat) (y : MethodName) (host : String) (cc : ByteArray) (nL : Nat) (np : Nat) : Prop :=
  (own, idx, y, host) ∈ mNest ∧ Cond.code y cc nL none ∈ mGood ∧ Cond.initialized y.cls ∈ mGood ∧ (y.cls ≠ "java/lang/invoke/MethodHandle" ∧ y.cls ≠ "java/lang/invoke/VarHandle") ∧ (parseMethodDescriptor y.desc).map (fun d => d.parameters.length) = some np
theorem g_callIN {k n idx np nL d mc ms top' : Nat} {y : MethodName} {host : String} {cc : ByteArray} {al : Option Nat} {As rest : List mv} {r : Option mv} {M' : mm} (hd : iAt Y.2.2.1 pc (.invokespecial idx) 3 pc') (hm : mMN Y.1 idx y host cc nL np) (hi : Cond.instanceMethod y ∈ mGood ∧ y.name = "<init>")
    (hst : st = As.reverse ++ vR k n :: rest) (hn : As.length = np) (hC : CT G rd y cc nL none al d mc ms top top' (vR k n :: As) M r M') (hR : d + 1 ≤ R.frames ∧ 8 + (nL + 11) + 40 * d ≤ R.locals) (hw : ((rest.map (rv G)).map fun v => v.category).sum ≤ 8) (hcs : cells + mc ≤ R.cells ∧ slots + ms ≤ R.slots) (hal : mAl Y al top cells) (htt : top ≤ top')
    (kk : LW G rd R Y Z top' (cells + mc) (slots + ms) pc' ls (r.toList ++ rest) M') : LW G rd R Y Z top cells slots pc ls st M := by
  subst hst
  obtain ⟨hd, rfl⟩ := hd
  intro p e s m args below meth c F H lo la hH hS hL hO
  have hO1 : mOk top ls (vR k n :: rest) := ⟨fun v h => hO.1 v (List.mem_append_right _ h), hO.2⟩
  have hM := hC (fun v hv => by
    rcases List.mem_cons.mp hv with rfl | hv
    · exact hO1.hd
    · exact hO.1 v (List.mem_append_left _ (List.mem_reverse.mpr hv)))
  intro T0 hT X
  have hsz := mAl_size hal F hT X hH hS.1
  have hsv : ((As.reverse ++ vR k n :: rest).map (rv G)) = (As.map (rv G)).reverse ++ Value.ref (adr G k n) :: rest.map (rv G) := by
    rw [List.map_append, List.map_cons, List.map_reverse]; rfl
  obtain ⟨h1, h2, h3, h4, h5⟩ := hm
  have hts := F.2.2.2.2.2.1
  have hCN : va_CN R s args Y.1 idx y host cc nL none (.code y cc nL none :: mGood) (mRm d mc ms) mc ms np := by
    refine ⟨⟨rfl, rfl, hR.1, hR.2, fun w hw a' U hW => ?_, List.mem_cons_self⟩, hts _ h2, hts _ h3, h4, fun sig hs => ?_, ?_⟩
    · rcases List.mem_cons.mp hw with rfl | hw
      · exact word_at hW (mGood_of h2).2 (hts _ h2)
      · exact word_at hW (mGood_of hw).2 (hts _ hw)
    · rw [hs] at h5; exact (Option.some.inj h5).symm
    · exact va_Nw.use rfl (F.2.2.2.2.2.2.2.2.1.2.2.2.1 _ h1)
  have hrun := va_runIN (R := R) (H := H) (cells := cells) (slots := slots) (locs := lo) (g := F0 m pc la ((As.reverse ++ vR k n :: rest).map (rv G))) (rest := rest.map (rv G)) (As := As.map (rv G)) (b := adr G k n) (e := e) (below := below) (meth := meth) (n := np) ⟨F.1, F.2.1, F.2.2.2.1, F.2.2.2.2.1, F.2.2.2.2.2.1⟩ hM ⟨hCN, hi.2, hts _ hi.1⟩
    ⟨mPc_blind G rd top al _ M, fun U hU hW => ⟨rfl, mK_call F.2.2.2.2.2.2.2.2.1 F.2.2.2.2.2.2.2.2.2.1 hS hU hW, by rw [hU]; exact hH, by rw [hU]; exact Nat.le_trans F.2.2.2.2.2.2.2.2.2.1 hS.1, by rw [hU]; exact hsz⟩⟩ rfl (by rw [List.length_map]; exact hn) hL.1 hsv (lv_room hw) hd hcs
  exact g_after F hH hS hL hO1.tl htt (fun T hT X => by obtain ⟨v, st₀, t, T', L, a, b, c, d, _, e, f⟩ := hrun T hT X; exact ⟨v, st₀, t, T', L, a, b, c, d, e, f⟩) hT X kk
end GO
