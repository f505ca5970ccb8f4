/-! arrays -/
section GA
variable {G : mg} {rd : mrd} {R : Room} {Y : mY} {Z : mZ} {top cells slots pc pc' : Nat} {ls : List (Option mv)} {st : List mv} {M : mm}
theorem kAr_ne0 {k t len : Nat} (ha : kAr k = (t, len)) (hl : 0 < len) : k ≠ 0 ∧ k ≠ 19 := by
  constructor <;> (intro e; subst e; simp [kAr] at ha; omega)
theorem vp_in_pos {i : Int32} {n : Nat} (h : vp_in i n) : 0 < n := by
  rcases Nat.eq_zero_or_pos n with q | q
  · subst q; exact absurd (Or.inr (Nat.zero_le _)) h
  · exact q
theorem g_iald {k n len : Nat} {i : Int32} (hd : iAt Y.2.2.1 pc .iaload 1 pc') (hk : kOb k = none) (ha : kAr k = (0, len)) (hin : vp_in i len) (kk : LW G rd R Y Z top cells slots pc' ls (vI (M.1 k n i.toNatClampNeg) :: st) M) : LW G rd R Y Z top cells slots pc ls (vI i :: vR k n :: st) M := by
  obtain ⟨hd, rfl⟩ := hd
  intro p e s m args below meth c F H lo la hH hS hL hO
  obtain ⟨hix, hadr⟩ := adr_of (G := G) hH.2.2.1 hO.tl.hd (kAr_ne0 ha (vp_in_pos hin))
  have he := mW_at (G := G) (rd := rd) (M := M) hH.2.2.1 hix
  rw [mE_ai hk ha ⟨by decide, by decide⟩] at he
  show W _ _ _ _ _ _ _ _ _ _ _ _ _ _ _ (F0 m pc la (Value.int i :: Value.ref (adr G k n) :: st.map (rv G)))
  rw [hadr]
  exact va_iald F.1 F.2.1 F.2.2.2.2.2.2.2.2.1.1 hH.1 (mIx k n) 0 he rfl hin hd (kk p e s m args below meth c F H lo la hH hS hL hO.tl.tl.i)
theorem g_bald {k n len : Nat} {i : Int32} (hd : iAt Y.2.2.1 pc .baload 1 pc') (hk : kOb k = none) (ha : kAr k = (2, len)) (hin : vp_in i len) (kk : LW G rd R Y Z top cells slots pc' ls (vI (M.1 k n i.toNatClampNeg) :: st) M) : LW G rd R Y Z top cells slots pc ls (vI i :: vR k n :: st) M := by
  obtain ⟨hd, rfl⟩ := hd
  intro p e s m args below meth c F H lo la hH hS hL hO
  obtain ⟨hix, hadr⟩ := adr_of (G := G) hH.2.2.1 hO.tl.hd (kAr_ne0 ha (vp_in_pos hin))
  have he := mW_at (G := G) (rd := rd) (M := M) hH.2.2.1 hix
  rw [mE_ai hk ha ⟨by decide, by decide⟩] at he
  show W _ _ _ _ _ _ _ _ _ _ _ _ _ _ _ (F0 m pc la (Value.int i :: Value.ref (adr G k n) :: st.map (rv G)))
  rw [hadr]
  exact va_bald F.1 F.2.1 F.2.2.2.2.2.2.2.2.1.1 hH.1 (mIx k n) 2 he rfl hin hd (kk p e s m args below meth c F H lo la hH hS hL hO.tl.tl.i)
theorem g_zald {k n len : Nat} {i : Int32} (hd : iAt Y.2.2.1 pc .baload 1 pc') (hk : kOb k = none) (ha : kAr k = (3, len)) (hin : vp_in i len) (kk : LW G rd R Y Z top cells slots pc' ls (vI (M.1 k n i.toNatClampNeg) :: st) M) : LW G rd R Y Z top cells slots pc ls (vI i :: vR k n :: st) M := by
  obtain ⟨hd, rfl⟩ := hd
  intro p e s m args below meth c F H lo la hH hS hL hO
  obtain ⟨hix, hadr⟩ := adr_of (G := G) hH.2.2.1 hO.tl.hd (kAr_ne0 ha (vp_in_pos hin))
  have he := mW_at (G := G) (rd := rd) (M := M) hH.2.2.1 hix
  rw [mE_ai hk ha ⟨by decide, by decide⟩] at he
  show W _ _ _ _ _ _ _ _ _ _ _ _ _ _ _ (F0 m pc la (Value.int i :: Value.ref (adr G k n) :: st.map (rv G)))
  rw [hadr]
  exact va_zald F.1 F.2.1 F.2.2.2.2.2.2.2.2.1.1 hH.1 (mIx k n) 3 he rfl hin hd (kk p e s m args below meth c F H lo la hH hS hL hO.tl.tl.i)
theorem g_lald {k n len : Nat} {i : Int32} (hd : iAt Y.2.2.1 pc .laload 1 pc') (hk : kOb k = none) (ha : kAr k = (1, len)) (hin : vp_in i len) (kk : LW G rd R Y Z top cells slots pc' ls (vL (M.2.1 k n i.toNatClampNeg) :: st) M) : LW G rd R Y Z top cells slots pc ls (vI i :: vR k n :: st) M := by
  obtain ⟨hd, rfl⟩ := hd
  intro p e s m args below meth c F H lo la hH hS hL hO
  obtain ⟨hix, hadr⟩ := adr_of (G := G) hH.2.2.1 hO.tl.hd (kAr_ne0 ha (vp_in_pos hin))
  have he := mW_at (G := G) (rd := rd) (M := M) hH.2.2.1 hix
  rw [mE_al hk ha] at he
  show W _ _ _ _ _ _ _ _ _ _ _ _ _ _ _ (F0 m pc la (Value.int i :: Value.ref (adr G k n) :: st.map (rv G)))
  rw [hadr]
  exact va_lald F.1 F.2.1 F.2.2.2.2.2.2.2.2.1.1 hH.1 (mIx k n) 1 he rfl hin hd (kk p e s m args below meth c F H lo la hH hS hL hO.tl.tl.l)
/-- the script, kind 0 -/
theorem g_sld {i : Int32} (hd : iAt Y.2.2.1 pc .iaload 1 pc') (hin : vp_in i (gL G)) (kk : LW G rd R Y Z top cells slots pc' ls (vI (gx G i.toNatClampNeg) :: st) M) : LW G rd R Y Z top cells slots pc ls (vI i :: vR 0 0 :: st) M := by
  obtain ⟨hd, rfl⟩ := hd
  intro p e s m args below meth c F H lo la hH hS hL hO
  obtain ⟨_, hX, hlt, _⟩ := F.2.2.2.2.2.2.2.2.1
  have hle := F.2.2.2.2.2.2.2.2.2.1
  show W _ _ _ _ _ _ _ _ _ _ _ _ _ _ _ (F0 m pc la (Value.int i :: Value.ref (gb G) :: st.map (rv G)))
  exact va_sld F.1 F.2.1 hX (Nat.lt_of_lt_of_le hlt hle) (fun q => by have : g0 G ≤ gb G := q; omega) hS hin hd (kk p e s m args below meth c F H lo la hH hS hL hO.tl.tl.i)
theorem g_slen (hd : iAt Y.2.2.1 pc .arraylength 1 pc') (kk : LW G rd R Y Z top cells slots pc' ls (vI (Int32.ofNat (gL G)) :: st) M) : LW G rd R Y Z top cells slots pc ls (vR 0 0 :: st) M := by
  obtain ⟨hd, rfl⟩ := hd
  intro p e s m args below meth c F H lo la hH hS hL hO
  obtain ⟨_, hX, hlt, _⟩ := F.2.2.2.2.2.2.2.2.1
  have hle := F.2.2.2.2.2.2.2.2.2.1
  show W _ _ _ _ _ _ _ _ _ _ _ _ _ _ _ (F0 m pc la (Value.ref (gb G) :: st.map (rv G)))
  exact va_slen F.1 F.2.1 hX (Nat.lt_of_lt_of_le hlt hle) (fun q => by have : g0 G ≤ gb G := q; omega) hS hd (kk p e s m args below meth c F H lo la hH hS hL hO.tl.i)
theorem mTys_ty {a : Nat → ClassId} {t : Nat} (h : t < 6) : ∃ ty, (mTys a)[t]? = some (a t, ty) := by
  match t, h with
  | 0, _ => exact ⟨_, rfl⟩
  | 1, _ => exact ⟨_, rfl⟩
  | 2, _ => exact ⟨_, rfl⟩
  | 3, _ => exact ⟨_, rfl⟩
  | 4, _ => exact ⟨_, rfl⟩
  | 5, _ => exact ⟨_, rfl⟩
theorem g_alen {k n t len : Nat} {v : Int32} (hd : iAt Y.2.2.1 pc .arraylength 1 pc') (hk : kOb k = none) (ha : kAr k = (t, len)) (ht : t < 6) (hl : 0 < len) (hv : Int32.ofNat len = v) (kk : LW G rd R Y Z top cells slots pc' ls (vI v :: st) M) : LW G rd R Y Z top cells slots pc ls (vR k n :: st) M := by
  obtain ⟨hd, rfl⟩ := hd
  intro p e s m args below meth c F H lo la hH hS hL hO
  obtain ⟨hix, hadr⟩ := adr_of (G := G) hH.2.2.1 hO.hd (kAr_ne0 ha hl)
  have he := mW_at (G := G) (rd := rd) (M := M) hH.2.2.1 hix
  obtain ⟨ty, hty⟩ := mTys_ty (a := gA G) ht
  show W _ _ _ _ _ _ _ _ _ _ _ _ _ _ _ (F0 m pc la (Value.ref (adr G k n) :: st.map (rv G)))
  rw [hadr]
  have hkk := kk p e s m args below meth c F H lo la hH hS hL hO.tl.i
  by_cases h1 : t = 1
  · subst h1
    rw [mE_al hk ha] at he
    exact va_alen F.1 F.2.1 F.2.2.2.2.2.2.2.2.1.1 hH.1 (mIx k n) 1 he hty hv hd hkk
  · by_cases h4 : 4 ≤ t
    · rw [mE_ar hk ha h4] at he
      exact va_alen F.1 F.2.1 F.2.2.2.2.2.2.2.2.1.1 hH.1 (mIx k n) t he hty hv hd hkk
    · rw [mE_ai hk ha ⟨h1, by omega⟩] at he
      exact va_alen F.1 F.2.1 F.2.2.2.2.2.2.2.2.1.1 hH.1 (mIx k n) t he hty hv hd hkk
theorem sI_row {k n i : Nat} {x : Int32} : upd (M.1 k n) i x = (sI M k n i x).1 k n := by
  funext j; simp only [upd, sI, u3_at]
theorem sL_row {k n i : Nat} {x : Int64} : vp_updL (M.2.1 k n) i x = (sL M k n i x).2.1 k n := by
  funext j; simp only [vp_updL, sL, u3_at]
theorem g_iast {k n len : Nat} {i x : Int32} (hd : iAt Y.2.2.1 pc .iastore 1 pc') (hk : kOb k = none) (ha : kAr k = (0, len)) (hin : vp_in i len) (kk : LW G rd R Y Z top cells slots pc' ls st (sI M k n i.toNatClampNeg x)) : LW G rd R Y Z top cells slots pc ls (vI x :: vI i :: vR k n :: st) M := by
  obtain ⟨hd, rfl⟩ := hd
  intro p e s m args below meth c F H lo la hH hS hL hO
  obtain ⟨hix, hadr⟩ := adr_of (G := G) hH.2.2.1 hO.tl.tl.hd (kAr_ne0 ha (vp_in_pos hin))
  have he := mW_at (G := G) (rd := rd) (M := M) hH.2.2.1 hix
  rw [mE_ai hk ha ⟨by decide, by decide⟩] at he
  show W _ _ _ _ _ _ _ _ _ _ _ _ _ _ _ (F0 m pc la (Value.int x :: Value.int i :: Value.ref (adr G k n) :: st.map (rv G)))
  rw [hadr]
  refine va_iast F.1 F.2.1 F.2.2.2.2.2.2.2.2.1.1 hH.1 (mW_D G rd M top) hS (mIx k n) 0 he rfl hin hd (fun H1 lo1 hP1 _ hS1 => ?_)
  rw [sI_row, mW_set (M' := sI M k n i.toNatClampNeg x) hH.2.2.1 hix (by rw [mE_ai hk ha ⟨by decide, by decide⟩]) (fun _ _ h => mE_sI h)] at hP1
  exact kk p e s m args below meth c F H1 lo1 la (mH_sI hH hP1) hS1 hL hO.tl.tl.tl
theorem g_bast {k n len : Nat} {i x : Int32} (hd : iAt Y.2.2.1 pc .bastore 1 pc') (hk : kOb k = none) (ha : kAr k = (2, len)) (hin : vp_in i len) (kk : LW G rd R Y Z top cells slots pc' ls st (sI M k n i.toNatClampNeg (vp_nar .byte x))) : LW G rd R Y Z top cells slots pc ls (vI x :: vI i :: vR k n :: st) M := by
  obtain ⟨hd, rfl⟩ := hd
  intro p e s m args below meth c F H lo la hH hS hL hO
  obtain ⟨hix, hadr⟩ := adr_of (G := G) hH.2.2.1 hO.tl.tl.hd (kAr_ne0 ha (vp_in_pos hin))
  have he := mW_at (G := G) (rd := rd) (M := M) hH.2.2.1 hix
  rw [mE_ai hk ha ⟨by decide, by decide⟩] at he
  show W _ _ _ _ _ _ _ _ _ _ _ _ _ _ _ (F0 m pc la (Value.int x :: Value.int i :: Value.ref (adr G k n) :: st.map (rv G)))
  rw [hadr]
  refine va_bast F.1 F.2.1 F.2.2.2.2.2.2.2.2.1.1 hH.1 (mW_D G rd M top) hS (mIx k n) 2 he rfl hin hd (fun H1 lo1 hP1 _ hS1 => ?_)
  rw [sI_row, mW_set (M' := sI M k n i.toNatClampNeg (vp_nar .byte x)) hH.2.2.1 hix (by rw [mE_ai hk ha ⟨by decide, by decide⟩]) (fun _ _ h => mE_sI h)] at hP1
  exact kk p e s m args below meth c F H1 lo1 la (mH_sI hH hP1) hS1 hL hO.tl.tl.tl
theorem g_zast {k n len : Nat} {i x : Int32} (hd : iAt Y.2.2.1 pc .bastore 1 pc') (hk : kOb k = none) (ha : kAr k = (3, len)) (hin : vp_in i len) (kk : LW G rd R Y Z top cells slots pc' ls st (sI M k n i.toNatClampNeg (vp_nar .boolean x))) : LW G rd R Y Z top cells slots pc ls (vI x :: vI i :: vR k n :: st) M := by
  obtain ⟨hd, rfl⟩ := hd
  intro p e s m args below meth c F H lo la hH hS hL hO
  obtain ⟨hix, hadr⟩ := adr_of (G := G) hH.2.2.1 hO.tl.tl.hd (kAr_ne0 ha (vp_in_pos hin))
  have he := mW_at (G := G) (rd := rd) (M := M) hH.2.2.1 hix
  rw [mE_ai hk ha ⟨by decide, by decide⟩] at he
  show W _ _ _ _ _ _ _ _ _ _ _ _ _ _ _ (F0 m pc la (Value.int x :: Value.int i :: Value.ref (adr G k n) :: st.map (rv G)))
  rw [hadr]
  refine va_zast F.1 F.2.1 F.2.2.2.2.2.2.2.2.1.1 hH.1 (mW_D G rd M top) hS (mIx k n) 3 he rfl hin hd (fun H1 lo1 hP1 _ hS1 => ?_)
  rw [sI_row, mW_set (M' := sI M k n i.toNatClampNeg (vp_nar .boolean x)) hH.2.2.1 hix (by rw [mE_ai hk ha ⟨by decide, by decide⟩]) (fun _ _ h => mE_sI h)] at hP1
  exact kk p e s m args below meth c F H1 lo1 la (mH_sI hH hP1) hS1 hL hO.tl.tl.tl
theorem g_last {k n len : Nat} {i : Int32} {x : Int64} (hd : iAt Y.2.2.1 pc .lastore 1 pc') (hk : kOb k = none) (ha : kAr k = (1, len)) (hin : vp_in i len) (kk : LW G rd R Y Z top cells slots pc' ls st (sL M k n i.toNatClampNeg x)) : LW G rd R Y Z top cells slots pc ls (vL x :: vI i :: vR k n :: st) M := by
  obtain ⟨hd, rfl⟩ := hd
  intro p e s m args below meth c F H lo la hH hS hL hO
  obtain ⟨hix, hadr⟩ := adr_of (G := G) hH.2.2.1 hO.tl.tl.hd (kAr_ne0 ha (vp_in_pos hin))
  have he := mW_at (G := G) (rd := rd) (M := M) hH.2.2.1 hix
  rw [mE_al hk ha] at he
  show W _ _ _ _ _ _ _ _ _ _ _ _ _ _ _ (F0 m pc la (Value.long x :: Value.int i :: Value.ref (adr G k n) :: st.map (rv G)))
  rw [hadr]
  refine va_last F.1 F.2.1 F.2.2.2.2.2.2.2.2.1.1 hH.1 (mW_D G rd M top) hS (mIx k n) 1 he rfl hin hd (fun H1 lo1 hP1 _ hS1 => ?_)
  rw [sL_row, mW_set (M' := sL M k n i.toNatClampNeg x) hH.2.2.1 hix (by rw [mE_al hk ha]) (fun _ _ h => mE_sL h)] at hP1
  exact kk p e s m args below meth c F H1 lo1 la (mH_sL hH hP1) hS1 hL hO.tl.tl.tl
theorem raq_rf {v : mv} (h : isL v = false) (h2 : ∀ x, v ≠ vI x) : va_rf (raq G v) = rv G v := by
  rcases v with x | x | (_ | q)
  · exact absurd rfl (h2 x)
  · cases h
  · rfl
  · rfl
/-- an element of an array of references; 'rd' answers a reference or null -/
theorem g_aald {k n t len : Nat} {i : Int32} {v : mv} (hd : iAt Y.2.2.1 pc .aaload 1 pc') (hk : kOb k = none) (ha : kAr k = (t, len)) (ht : t = 4 ∨ t = 5) (hin : vp_in i len) (hv : rd k n i.toNatClampNeg (M.2.2 k n i.toNatClampNeg) = v) (h1 : isL v = false) (h2 : ∀ x, v ≠ vI x) (kk : LW G rd R Y Z top cells slots pc' ls (v :: st) M) : LW G rd R Y Z top cells slots pc ls (vI i :: vR k n :: st) M := by
  obtain ⟨hd, rfl⟩ := hd
  intro p e s m args below meth c F H lo la hH hS hL hO
  obtain ⟨hix, hadr⟩ := adr_of (G := G) hH.2.2.1 hO.tl.hd (kAr_ne0 ha (vp_in_pos hin))
  have he := mW_at (G := G) (rd := rd) (M := M) hH.2.2.1 hix
  rw [mE_ar hk ha (by omega)] at he
  have hlt : i.toNatClampNeg < len := Nat.not_le.mp fun q => hin (Or.inr q)
  have hov : mOkv top v := by
    rw [← hv]; exact hH.2.2.2 k n _ hix (by simp only [kSz, hk, ha]; exact hlt)
  have hkk := kk p e s m args below meth c F H lo la hH hS hL (hO.tl.tl.cons hov)
  show W _ _ _ _ _ _ _ _ _ _ _ _ _ _ _ (F0 m pc la (Value.int i :: Value.ref (adr G k n) :: st.map (rv G)))
  rw [hadr]
  have hfin : va_rf (raq G (rd k n i.toNatClampNeg (M.2.2 k n i.toNatClampNeg))) = rv G v := by rw [hv]; exact raq_rf h1 h2
  rcases ht with rfl | rfl
  · refine va_aldq F.1 F.2.1 F.2.2.2.2.2.2.2.2.1.1 hH.1 (mIx k n) 4 he rfl hin hd ?_
    rw [hfin]; exact hkk
  · refine va_aldq F.1 F.2.1 F.2.2.2.2.2.2.2.2.1.1 hH.1 (mIx k n) 5 he rfl hin hd ?_
    rw [hfin]; exact hkk
end GA
