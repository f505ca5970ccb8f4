/-! the heap's picture: reads, writes -/
theorem mW_get {G : mg} {rd : mrd} {M : mm} {top t : Nat} (h : t < top) : (mW G rd M top)[t]? = some (g0 G + t, mE G rd M (mPlan.getD t (0, 0))) := by
  simp [mW, h]
theorem mW_some {G : mg} {rd : mrd} {M : mm} {top t : Nat} {q : Nat × va_E} (h : (mW G rd M top)[t]? = some q) : t < top ∧ q = (g0 G + t, mE G rd M (mPlan.getD t (0, 0))) := by
  have h1 : t < top := by
    have h2 := (List.getElem?_eq_some_iff.mp h).1
    simpa [mW] using h2
  rw [mW_get h1] at h
  exact ⟨h1, (Option.some.inj h).symm⟩
theorem mW_at {G : mg} {rd : mrd} {M : mm} {top k n : Nat} (htop : top ≤ mPlan.length) (h : mIx k n < top) : (mW G rd M top)[mIx k n]? = some (g0 G + mIx k n, mE G rd M (k, n)) := by
  rw [mW_get h, mIx_get (Nat.lt_of_lt_of_le h htop)]
theorem mW_D (G : mg) (rd : mrd) (M : mm) (top : Nat) : va_D (mA G) (mW G rd M top) := by
  refine ⟨fun i j p q hi hj e => ?_, fun k q h => ?_⟩
  · obtain ⟨_, rfl⟩ := mW_some hi
    obtain ⟨_, rfl⟩ := mW_some hj
    dsimp only at e; omega
  · obtain ⟨_, rfl⟩ := mW_some h
    show g0 G ≤ g0 G + k; omega
theorem mW_set {G : mg} {rd : mrd} {M M' : mm} {top k n : Nat} {x : va_E} (htop : top ≤ mPlan.length) (h : mIx k n < top) (hx : x = mE G rd M' (k, n)) (ho : ∀ k' n', ¬ (k' = k ∧ n' = n) → mE G rd M (k', n') = mE G rd M' (k', n')) :
    (mW G rd M top).set (mIx k n) (g0 G + mIx k n, x) = mW G rd M' top := by
  refine List.ext_getElem? (fun t => ?_)
  rw [List.getElem?_set]
  by_cases e : mIx k n = t
  · subst e
    rw [if_pos rfl, mW_at htop h, hx, if_pos (by simpa [mW] using h)]
  · rw [if_neg e]
    by_cases ht : t < top
    · rw [mW_get ht, mW_get ht]
      have hne : ¬ ((mPlan.getD t (0, 0)).1 = k ∧ (mPlan.getD t (0, 0)).2 = n) := fun q => e (mIx_inj (Nat.lt_of_lt_of_le ht htop) (Prod.ext q.1 q.2)).symm
      rw [← ho _ _ hne]
    · rw [List.getElem?_eq_none (by simp [mW]; omega), List.getElem?_eq_none (by simp [mW]; omega)]
theorem u3_ne {α : Type} {f : Nat → Nat → Nat → α} {k n i k' n' : Nat} {v : α} (h : ¬ (k' = k ∧ n' = n)) : u3 f k n i v k' n' = f k' n' := by
  funext j
  simp only [u3]
  rw [if_neg (fun q => h ⟨q.1, q.2.1⟩)]
theorem u3_at {α : Type} {f : Nat → Nat → Nat → α} {k n i j : Nat} {v : α} : u3 f k n i v k n j = if j = i then v else f k n j := by
  simp [u3]
theorem mE_ne {G : mg} {rd : mrd} {M M' : mm} {k' n' : Nat} (h1 : M.1 k' n' = M'.1 k' n') (h2 : M.2.1 k' n' = M'.2.1 k' n') (h3 : M.2.2 k' n' = M'.2.2 k' n') : mE G rd M (k', n') = mE G rd M' (k', n') := by
  simp only [mE, fV, h1, h2, h3]
theorem mE_ob {G : mg} {rd : mrd} {M : mm} {k n c : Nat} (hk : kOb k = some c) : mE G rd M (k, n) = .inr (c, (List.range (fN c)).map (fun j => fV G rd M k n (fTy c j) j)) := by
  simp only [mE, hk]
theorem mE_ai {G : mg} {rd : mrd} {M : mm} {k n t len : Nat} (hk : kOb k = none) (ha : kAr k = (t, len)) (ht : t ≠ 1 ∧ t < 4) : mE G rd M (k, n) = .inl (gA G t, len, .inl (M.1 k n)) := by
  simp only [mE, hk, ha]
  rw [if_neg ht.1, if_neg (by omega)]
theorem mE_al {G : mg} {rd : mrd} {M : mm} {k n len : Nat} (hk : kOb k = none) (ha : kAr k = (1, len)) : mE G rd M (k, n) = .inl (gA G 1, len, .inr (.inl (M.2.1 k n))) := by
  simp only [mE, hk, ha]
  rw [if_pos trivial]
theorem mE_ar {G : mg} {rd : mrd} {M : mm} {k n t len : Nat} (hk : kOb k = none) (ha : kAr k = (t, len)) (ht : 4 ≤ t) : mE G rd M (k, n) = .inl (gA G t, len, .inr (.inr (.inr (.inr (fun j => raq G (rd k n j (M.2.2 k n j))))))) := by
  simp only [mE, hk, ha]
  rw [if_neg (by omega), if_pos ht]
/-- what the tables say of a class -/
def mTc (t : FieldType) : Nat := match t with | .int => 0 | .long => 1 | .boolean => 2 | .object _ => 3 | .array _ => 3 | _ => 9
def mCF (ci : Nat) (C : String) (T : u_T) (N : Nat) (ty : Nat → FieldType) : Prop :=
  mCl[ci]? = some (C, T, N) ∧ fN ci = N ∧ (∀ w ∈ u_ws C T N, w ∈ mGood) ∧ (∀ k, k < N → parseFieldDescriptor (T k).2.2.1 = some (ty k)) ∧ (∀ a, a < N → ∀ b, b < N → a ≠ b → (T a).2.1 ≠ (T b).2.1) ∧ ∀ k, k < N → mTc (ty k) = fTy ci k
/-- what the tables say of a field's link: class, place, type code, 0 not final, 1 final of the class itself, 2 final of another class -/
def mFL (own : String) (idx ci j t : Nat) (fin : Nat) : Prop := ∃ (C : String) (T : u_T) (N : Nat) (ty : Nat → FieldType), mCF ci C T N ty ∧ j < N ∧ Cond.fieldLink own idx (T j).1 (T j).2.1 (T j).2.2.1 ∈ mGood ∧ fTy ci j = t ∧ (fin = 0 → (T j).2.2.2 = false) ∧ (fin = 1 → (T j).2.2.2 = true ∧ (T j).1 = own)
theorem mTys_at {a : Nat → ClassId} {t : Nat} (h : t < 4) : (mTys a)[t]? = some (a t, ([FieldType.int, .long, .byte, .boolean] : List FieldType).getD t .int) := by
  match t, h with
  | 0, _ => rfl
  | 1, _ => rfl
  | 2, _ => rfl
  | 3, _ => rfl
section GH
variable {G : mg} {rd : mrd} {R : Room} {Y : mY} {Z : mZ} {top cells slots pc pc' : Nat} {ls : List (Option mv)} {st : List mv} {M : mm}
theorem adr_of {k n : Nat} (htop : top ≤ mPlan.length) (h : mOkv top (vR k n)) (hk : k ≠ 0 ∧ k ≠ 19) : mIx k n < top ∧ adr G k n = g0 G + mIx k n := by
  rcases h with h | h | h
  · exact absurd h hk.1
  · exact absurd h hk.2
  · exact ⟨h, by simp only [adr]; rw [if_neg hk.1, if_neg hk.2]⟩
theorem kOb_ne0 {k c : Nat} (h : kOb k = some c) : k ≠ 0 ∧ k ≠ 19 := by
  constructor <;> (intro e; subst e; simp [kOb] at h)
theorem g_get {k n idx ci j t : Nat} {fin : Nat} {v : mv} (hd : iAt Y.2.2.1 pc (.getfield idx) 3 pc') (hf : mFL Y.1 idx ci j t fin) (hk : kOb k = some ci) (hv : fV G rd M k n t j = rv G v) (ho : mOkv top (vR k n) → mH G rd top M = mH G rd top M → ∀ H, mH G rd top M H → mOkv top v) (kk : LW G rd R Y Z top cells slots pc' ls (v :: st) M) : LW G rd R Y Z top cells slots pc ls (vR k n :: st) M := by
  obtain ⟨hd, rfl⟩ := hd
  intro p e s m args below meth c F H lo la hH hS hL hO
  obtain ⟨C, T, N, ty, ⟨c1, c2, c3, c4, c5, c6⟩, hj, hl, ht, -, -⟩ := hf
  obtain ⟨hix, hadr⟩ := adr_of (G := G) hH.2.2.1 hO.hd (kOb_ne0 hk)
  have he := mW_at (G := G) (rd := rd) (M := M) hH.2.2.1 hix
  rw [mE_ob hk] at he
  have hkk := kk p e s m args below meth c F H lo la hH hS hL (hO.tl.cons (ho hO.hd rfl H hH))
  show W _ _ _ _ _ _ _ _ _ _ _ _ _ _ _ (F0 m pc la (Value.ref (adr G k n) :: st.map (rv G)))
  rw [hadr]
  refine va_get (Ts := mGood) F.1 F.2.1 F.2.2.2.2.2.1 c3 F.2.2.2.2.1 F.2.2.2.2.2.2.2.2.1.1 hH.1 (mIx k n) he c1 j hj (F.2.2.2.2.2.1 _ hl) (fun _ h => h) (v := rv G v) ?_ hd hkk
  rw [List.getElem?_map, List.getElem?_range (by omega)]
  simp only [Option.map_some]
  rw [ht, hv]
theorem g_getI {k n idx ci j : Nat} {fin : Nat} (hd : iAt Y.2.2.1 pc (.getfield idx) 3 pc') (hf : mFL Y.1 idx ci j 0 fin) (hk : kOb k = some ci) (kk : LW G rd R Y Z top cells slots pc' ls (vI (M.1 k n j) :: st) M) : LW G rd R Y Z top cells slots pc ls (vR k n :: st) M :=
  g_get (v := vI (M.1 k n j)) hd hf hk rfl (fun _ _ _ _ => trivial) kk
theorem g_getZ {k n idx ci j : Nat} {fin : Nat} (hd : iAt Y.2.2.1 pc (.getfield idx) 3 pc') (hf : mFL Y.1 idx ci j 2 fin) (hk : kOb k = some ci) (kk : LW G rd R Y Z top cells slots pc' ls (vI (M.1 k n j) :: st) M) : LW G rd R Y Z top cells slots pc ls (vR k n :: st) M :=
  g_get (v := vI (M.1 k n j)) hd hf hk rfl (fun _ _ _ _ => trivial) kk
theorem g_getL {k n idx ci j : Nat} {fin : Nat} (hd : iAt Y.2.2.1 pc (.getfield idx) 3 pc') (hf : mFL Y.1 idx ci j 1 fin) (hk : kOb k = some ci) (kk : LW G rd R Y Z top cells slots pc' ls (vL (M.2.1 k n j) :: st) M) : LW G rd R Y Z top cells slots pc ls (vR k n :: st) M :=
  g_get (v := vL (M.2.1 k n j)) hd hf hk rfl (fun _ _ _ _ => trivial) kk
theorem mFL_lt {own : String} {idx ci j t : Nat} {fin : Nat} (hf : mFL own idx ci j t fin) : j < fN ci := by
  obtain ⟨C, T, N, ty, ⟨c1, c2, c3, c4, c5, c6⟩, hj, -⟩ := hf
  omega
theorem g_getR {k n idx ci j : Nat} {fin : Nat} {v : mv} (hd : iAt Y.2.2.1 pc (.getfield idx) 3 pc') (hf : mFL Y.1 idx ci j 3 fin) (hk : kOb k = some ci) (hv : rd k n j (M.2.2 k n j) = v) (kk : LW G rd R Y Z top cells slots pc' ls (v :: st) M) : LW G rd R Y Z top cells slots pc ls (vR k n :: st) M := by
  subst hv
  refine g_get hd hf hk rfl (fun h _ H hH => ?_) kk
  obtain ⟨hix, _⟩ := adr_of (G := G) hH.2.2.1 h (kOb_ne0 hk)
  exact hH.2.2.2 k n j hix (by simp only [kSz, hk]; exact mFL_lt hf)
theorem mH_sI {k n j : Nat} {x : Int32} {H H1 : Heap} (h : mH G rd top M H) (hP : va_P (gD G) mCl (mW G rd (sI M k n j x) top) H1) : mH G rd top (sI M k n j x) H1 := ⟨hP, trivial, h.2.2.1, h.2.2.2⟩
theorem mH_sL {k n j : Nat} {x : Int64} {H H1 : Heap} (h : mH G rd top M H) (hP : va_P (gD G) mCl (mW G rd (sL M k n j x) top) H1) : mH G rd top (sL M k n j x) H1 := ⟨hP, trivial, h.2.2.1, h.2.2.2⟩
theorem mH_sR {k n j r : Nat} {H H1 : Heap} (h : mH G rd top M H) (hr : mOkv top (rd k n j r)) (hP : va_P (gD G) mCl (mW G rd (sR M k n j r) top) H1) : mH G rd top (sR M k n j r) H1 := by
  refine ⟨hP, trivial, h.2.2.1, fun k' n' j' h1 h2 => ?_⟩
  show mOkv top (rd k' n' j' (u3 M.2.2 k n j r k' n' j'))
  simp only [u3]
  by_cases e : k' = k ∧ n' = n ∧ j' = j
  · rw [if_pos e]; obtain ⟨rfl, rfl, rfl⟩ := e; exact hr
  · rw [if_neg e]; exact h.2.2.2 k' n' j' h1 h2
/-- the fields' list behind a write -/
theorem fs_set {k n c j : Nat} {M' : mm} {v : Value} (hj : j < fN c) (hv : fV G rd M' k n (fTy c j) j = v) (ho : ∀ i, i ≠ j → fV G rd M' k n (fTy c i) i = fV G rd M k n (fTy c i) i) :
    ((List.range (fN c)).map (fun i => fV G rd M k n (fTy c i) i)).set j v = (List.range (fN c)).map (fun i => fV G rd M' k n (fTy c i) i) := by
  refine List.ext_getElem? (fun i => ?_)
  rw [List.getElem?_set]
  by_cases e : j = i
  · subst e
    rw [if_pos rfl, if_pos (by simpa using hj), List.getElem?_map, List.getElem?_range hj]
    simp [hv]
  · rw [if_neg e]
    by_cases hi : i < fN c
    · rw [List.getElem?_map, List.getElem?_map, List.getElem?_range hi]
      simp [ho i (fun q => e q.symm)]
    · rw [List.getElem?_eq_none (by simp; omega), List.getElem?_eq_none (by simp; omega)]
/-- putfield, not final or final in its own constructor -/
theorem g_put {k n idx ci j t : Nat} {fin : Nat} {v : mv} {M' : mm} (hd : iAt Y.2.2.1 pc (.putfield idx) 3 pc') (hf : mFL Y.1 idx ci j t fin) (hfin : fin = 0 ∨ (fin = 1 ∧ Y.2.1 = "<init>")) (hk : kOb k = some ci)
    (hty : ∀ ty, mTc ty = t → narrow ty (rv G v) = rv G v ∧ fits ty (rv G v) = true) (hv : fV G rd M' k n t j = rv G v) (ho : ∀ i, i ≠ j → fV G rd M' k n (fTy ci i) i = fV G rd M k n (fTy ci i) i)
    (hr : ∀ k' n', ¬ (k' = k ∧ n' = n) → mE G rd M (k', n') = mE G rd M' (k', n')) (hm : ∀ H H1, mH G rd top M H → mOkv top v → va_P (gD G) mCl (mW G rd M' top) H1 → mH G rd top M' H1)
    (kk : LW G rd R Y Z top cells slots pc' ls st M') : LW G rd R Y Z top cells slots pc ls (v :: vR k n :: st) M := by
  obtain ⟨hd, rfl⟩ := hd
  intro p e s m args below meth c F H lo la hH hS hL hO
  obtain ⟨C, T, N, ty, ⟨c1, c2, c3, c4, c5, c6⟩, hj, hl, ht, hfi, hdec⟩ := hf
  obtain ⟨hix, hadr⟩ := adr_of (G := G) hH.2.2.1 hO.tl.hd (kOb_ne0 hk)
  have he := mW_at (G := G) (rd := rd) (M := M) hH.2.2.1 hix
  rw [mE_ob hk] at he
  obtain ⟨hn1, hn2⟩ := hty (ty j) ((c6 j hj).trans ht)
  have hset : (mW G rd M top).set (mIx k n) (g0 G + mIx k n, .inr (ci, ((List.range (fN ci)).map (fun i => fV G rd M k n (fTy ci i) i)).set j (rv G v))) = mW G rd M' top := by
    refine mW_set hH.2.2.1 hix ?_ hr
    rw [mE_ob hk, fs_set (by omega) (by rw [ht]; exact hv) ho]
  have go : ∀ (H1 : Heap) (locs1 : List Loc), va_P (gD G) mCl ((mW G rd M top).set (mIx k n) (g0 G + mIx k n, .inr (ci, ((List.range (fN ci)).map (fun i => fV G rd M k n (fTy ci i) i)).set j (rv G v)))) H1 → va_D (mA G) ((mW G rd M top).set (mIx k n) (g0 G + mIx k n, .inr (ci, ((List.range (fN ci)).map (fun i => fV G rd M k n (fTy ci i) i)).set j (rv G v)))) → va_S (mA G) s.heap H1 locs1 → W p (gl G) e R s m args below meth c H1 locs1 cells slots (Z below args s) (F0 m (pc + 3) la (st.map (rv G))) := by
    intro H1 lo1 hP1 _ hS1
    rw [hset] at hP1
    exact kk p e s m args below meth c F H1 lo1 la (hm H H1 hH hO.hd hP1) hS1 hL hO.tl.tl
  show W _ _ _ _ _ _ _ _ _ _ _ _ _ _ _ (F0 m pc la (rv G v :: Value.ref (adr G k n) :: st.map (rv G)))
  rw [hadr]
  have hlen : j < ((List.range (fN ci)).map (fun i => fV G rd M k n (fTy ci i) i)).length := by simp; omega
  rcases hfin with hq | ⟨hq, hq2⟩
  · exact va_put (Ts := mGood) F.1 F.2.1 F.2.2.2.2.2.1 c3 ty c4 c5 F.2.2.2.2.1 F.2.2.2.2.2.2.2.2.1.1 hH.1 (mW_D G rd M top) hS (mIx k n) he c1 j hj (F.2.2.2.2.2.1 _ hl) (fun _ h => h) (hfi hq) (c4 j hj) hn1 hn2 hlen hd go
  · exact va_putF (Ts := mGood) F.1 F.2.1 F.2.2.2.2.2.1 c3 ty c4 c5 F.2.2.2.2.1 F.2.2.2.2.2.2.2.2.1.1 hH.1 (mW_D G rd M top) hS (mIx k n) he c1 j hj (F.2.2.2.2.2.1 _ hl) (fun _ h => h) (hdec hq).1 (F.2.2.2.2.2.2.2.1.trans hq2) (hdec hq).2 (c4 j hj) hn1 hn2 hlen hd go
theorem nb_0 : narrow .boolean (.int 0) = .int 0 ∧ fits .boolean (.int 0) = true := by decide +kernel
theorem nb_1 : narrow .boolean (.int 1) = .int 1 ∧ fits .boolean (.int 1) = true := by decide +kernel
theorem mTc_0 {ty : FieldType} (h : mTc ty = 0) : ty = .int := by cases ty <;> simp [mTc] at h; rfl
theorem mTc_1 {ty : FieldType} (h : mTc ty = 1) : ty = .long := by cases ty <;> simp [mTc] at h; rfl
theorem mTc_2 {ty : FieldType} (h : mTc ty = 2) : ty = .boolean := by cases ty <;> simp [mTc] at h; rfl
theorem mTc_3 {ty : FieldType} (h : mTc ty = 3) : (∃ C, ty = .object C) ∨ ∃ t, ty = .array t := by
  cases ty with
  | object C => exact Or.inl ⟨C, rfl⟩
  | array t => exact Or.inr ⟨t, rfl⟩
  | _ => simp [mTc] at h
theorem fV_sI {k n j t i : Nat} {x : Int32} (h : i ≠ j) : fV G rd (sI M k n j x) k n t i = fV G rd M k n t i := by
  simp only [fV, sI, u3_at]; rw [if_neg h]
theorem fV_sL {k n j t i : Nat} {x : Int64} (h : i ≠ j) : fV G rd (sL M k n j x) k n t i = fV G rd M k n t i := by
  simp only [fV, sL, u3_at]; rw [if_neg h]
theorem fV_sR {k n j t i r : Nat} (h : i ≠ j) : fV G rd (sR M k n j r) k n t i = fV G rd M k n t i := by
  simp only [fV, sR, u3_at]; rw [if_neg h]
theorem mE_sI {k n j : Nat} {x : Int32} {k' n' : Nat} (h : ¬ (k' = k ∧ n' = n)) : mE G rd M (k', n') = mE G rd (sI M k n j x) (k', n') := mE_ne (u3_ne h).symm rfl rfl
theorem mE_sL {k n j : Nat} {x : Int64} {k' n' : Nat} (h : ¬ (k' = k ∧ n' = n)) : mE G rd M (k', n') = mE G rd (sL M k n j x) (k', n') := mE_ne rfl (u3_ne h).symm rfl
theorem mE_sR {k n j r : Nat} {k' n' : Nat} (h : ¬ (k' = k ∧ n' = n)) : mE G rd M (k', n') = mE G rd (sR M k n j r) (k', n') := mE_ne rfl rfl (u3_ne h).symm
theorem g_putI {k n idx ci j : Nat} {fin : Nat} {x : Int32} (hd : iAt Y.2.2.1 pc (.putfield idx) 3 pc') (hf : mFL Y.1 idx ci j 0 fin) (hfin : fin = 0 ∨ (fin = 1 ∧ Y.2.1 = "<init>")) (hk : kOb k = some ci) (kk : LW G rd R Y Z top cells slots pc' ls st (sI M k n j x)) : LW G rd R Y Z top cells slots pc ls (vI x :: vR k n :: st) M :=
  g_put (v := vI x) (M' := sI M k n j x) hd hf hfin hk (fun ty h => by rw [mTc_0 h]; exact ⟨rfl, rfl⟩) (by simp [fV, sI, u3_at, rv]) (fun i h => fV_sI h) (fun _ _ h => mE_sI h) (fun _ _ h _ h2 => mH_sI h h2) kk
theorem g_putZ {k n idx ci j : Nat} {fin : Nat} {x : Int32} (hd : iAt Y.2.2.1 pc (.putfield idx) 3 pc') (hf : mFL Y.1 idx ci j 2 fin) (hfin : fin = 0 ∨ (fin = 1 ∧ Y.2.1 = "<init>")) (hk : kOb k = some ci) (hx : x = 0 ∨ x = 1) (kk : LW G rd R Y Z top cells slots pc' ls st (sI M k n j x)) : LW G rd R Y Z top cells slots pc ls (vI x :: vR k n :: st) M :=
  g_put (v := vI x) (M' := sI M k n j x) hd hf hfin hk (fun ty h => by rw [mTc_2 h]; rcases hx with rfl | rfl; exact nb_0; exact nb_1) (by simp [fV, sI, u3_at, rv]) (fun i h => fV_sI h) (fun _ _ h => mE_sI h) (fun _ _ h _ h2 => mH_sI h h2) kk
theorem g_putL {k n idx ci j : Nat} {fin : Nat} {x : Int64} (hd : iAt Y.2.2.1 pc (.putfield idx) 3 pc') (hf : mFL Y.1 idx ci j 1 fin) (hfin : fin = 0 ∨ (fin = 1 ∧ Y.2.1 = "<init>")) (hk : kOb k = some ci) (kk : LW G rd R Y Z top cells slots pc' ls st (sL M k n j x)) : LW G rd R Y Z top cells slots pc ls (vL x :: vR k n :: st) M :=
  g_put (v := vL x) (M' := sL M k n j x) hd hf hfin hk (fun ty h => by rw [mTc_1 h]; exact ⟨rfl, rfl⟩) (by simp [fV, sL, u3_at, rv]) (fun i h => fV_sL h) (fun _ _ h => mE_sL h) (fun _ _ h _ h2 => mH_sL h h2) kk
theorem g_putR {k n idx ci j k2 n2 r : Nat} {fin : Nat} (hd : iAt Y.2.2.1 pc (.putfield idx) 3 pc') (hf : mFL Y.1 idx ci j 3 fin) (hfin : fin = 0 ∨ (fin = 1 ∧ Y.2.1 = "<init>")) (hk : kOb k = some ci) (hr : rd k n j r = vR k2 n2) (kk : LW G rd R Y Z top cells slots pc' ls st (sR M k n j r)) : LW G rd R Y Z top cells slots pc ls (vR k2 n2 :: vR k n :: st) M :=
  g_put (v := vR k2 n2) (M' := sR M k n j r) hd hf hfin hk (fun ty h => by rcases mTc_3 h with ⟨C, rfl⟩ | ⟨t, rfl⟩ <;> exact ⟨rfl, rfl⟩) (by simp only [fV, sR, u3_at]; simp [hr]) (fun i h => fV_sR h) (fun _ _ h => mE_sR h) (fun _ _ h h1 h2 => mH_sR h (by rw [hr]; exact h1) h2) kk
end GH
