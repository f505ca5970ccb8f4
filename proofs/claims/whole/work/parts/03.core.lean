/-! THE LIGHT JUDGEMENT. Objects and arrays are named (kind, instance); the memory is three maps; the heap's picture is made out of them by the plan of allocation. -/
abbrev mv : Type := Int32 ⊕ (Int64 ⊕ Option (Nat × Nat))
abbrev vI (x : Int32) : mv := Sum.inl x
abbrev vL (x : Int64) : mv := Sum.inr (Sum.inl x)
abbrev vR (k n : Nat) : mv := Sum.inr (Sum.inr (some (k, n)))
abbrev vN : mv := Sum.inr (Sum.inr none)
abbrev mm : Type := (Nat → Nat → Nat → Int32) × (Nat → Nat → Nat → Int64) × (Nat → Nat → Nat → Nat)
def u3 {α : Type} (f : Nat → Nat → Nat → α) (k n i : Nat) (v : α) : Nat → Nat → Nat → α := fun k' n' i' => if k' = k ∧ n' = n ∧ i' = i then v else f k' n' i'
def sI (M : mm) (k n i : Nat) (v : Int32) : mm := (u3 M.1 k n i v, M.2.1, M.2.2)
def sL (M : mm) (k n i : Nat) (v : Int64) : mm := (M.1, u3 M.2.1 k n i v, M.2.2)
def sR (M : mm) (k n i : Nat) (v : Nat) : mm := (M.1, M.2.1, u3 M.2.2 k n i v)
/-- all that is the same during the whole run: launch, the heap's size at the law's entry, classes and slots, classes of arrays, the script -/
abbrev mg : Type := Launch × Nat × va_G × (Nat → ClassId) × Nat × Nat × (Nat → Int32) × Nat
abbrev gl (G : mg) : Launch := G.1
abbrev g0 (G : mg) : Nat := G.2.1
abbrev gD (G : mg) : va_G := G.2.2.1
abbrev gA (G : mg) : Nat → ClassId := G.2.2.2.1
abbrev gb (G : mg) : Nat := G.2.2.2.2.1
abbrev gL (G : mg) : Nat := G.2.2.2.2.2.1
abbrev gx (G : mg) : Nat → Int32 := G.2.2.2.2.2.2.1
/-- where the one String constant lies -/
abbrev gS (G : mg) : Nat := G.2.2.2.2.2.2.2
/-- how a reference place is read: kind, instance, place, what the memory holds -/
abbrev mrd : Type := Nat → Nat → Nat → Nat → mv
def rdC : mrd := fun k _ j r => match r with | 0 => vN | r + 1 => vR (kTo k j) r
def rdM : mrd := fun k n j r => vR (kTo k j) (iTo k n j r)
def mIx (k n : Nat) : Nat := mPlan.idxOf (k, n)
def adr (G : mg) (k n : Nat) : Nat := if k = 0 then gb G else if k = 19 then gS G else g0 G + mIx k n
def rv (G : mg) (v : mv) : Value := match v with
  | .inl x => .int x
  | .inr (.inl x) => .long x
  | .inr (.inr none) => .null
  | .inr (.inr (some q)) => .ref (adr G q.1 q.2)
def mOkv (top : Nat) (v : mv) : Prop := match v with
  | .inr (.inr (some q)) => q.1 = 0 ∨ q.1 = 19 ∨ mIx q.1 q.2 < top
  | _ => True
/-- how many places a cell of a kind has -/
def kSz (k : Nat) : Nat := match kOb k with
  | some c => fN c
  | none => (kAr k).2
def fV (G : mg) (rd : mrd) (M : mm) (k n t j : Nat) : Value := if t = 1 then .long (M.2.1 k n j) else if t = 3 then rv G (rd k n j (M.2.2 k n j)) else .int (M.1 k n j)
def raq (G : mg) (v : mv) : Option Nat := match v with
  | .inr (.inr (some q)) => some (adr G q.1 q.2)
  | _ => none
def mE (G : mg) (rd : mrd) (M : mm) (q : Nat × Nat) : va_E := match kOb q.1 with
  | some c => .inr (c, (List.range (fN c)).map (fun j => fV G rd M q.1 q.2 (fTy c j) j))
  | none => if (kAr q.1).1 = 1 then .inl (gA G 1, (kAr q.1).2, .inr (.inl (M.2.1 q.1 q.2)))
    else if 4 ≤ (kAr q.1).1 then .inl (gA G (kAr q.1).1, (kAr q.1).2, .inr (.inr (.inr (.inr (fun j => raq G (rd q.1 q.2 j (M.2.2 q.1 q.2 j)))))))
    else .inl (gA G (kAr q.1).1, (kAr q.1).2, .inl (M.1 q.1 q.2))
def mW (G : mg) (rd : mrd) (M : mm) (top : Nat) : va_W := (List.range top).map (fun t => (g0 G + t, mE G rd M (mPlan.getD t (0, 0))))
def mTys (a : Nat → ClassId) : List (ClassId × FieldType) := [(a 0, .int), (a 1, .long), (a 2, .byte), (a 3, .boolean), (a 4, .object "OathWalls$Moment"), (a 5, .object "OathWalls$Told")]
def mA (G : mg) : Nat → Prop := fun q => g0 G ≤ q
/-- the heap holds the memory M, top cells of the plan made -/
def mH (G : mg) (rd : mrd) (top : Nat) (M : mm) (H : Heap) : Prop :=
  va_P (gD G) mCl (mW G rd M top) H ∧ True ∧ top ≤ mPlan.length ∧ ∀ k n j : Nat, mIx k n < top → j < kSz k → mOkv top (rd k n j (M.2.2 k n j))
def mGood : List Cond := lw_tbl.filter goodWord
def mNest : List (String × Nat × MethodName × String) := [("OathWalls", 9, ⟨"OathWalls$City", "<init>", "()V"⟩, "OathWalls"), ("OathWalls$City", 60, ⟨"OathWalls$Law", "<init>", "()V"⟩, "OathWalls"), ("OathWalls", 21, ⟨"OathWalls$Told", "<init>", "()V"⟩, "OathWalls"), ("OathWalls", 47, ⟨"OathWalls$Wall", "<init>", "()V"⟩, "OathWalls"), ("OathWalls$WhatIf", 11, ⟨"OathWalls$Moment", "<init>", "()V"⟩, "OathWalls"), ("OathWalls$Teller", 11, ⟨"OathWalls$Moment", "<init>", "()V"⟩, "OathWalls"), ("OathWalls", 81, ⟨"OathWalls$Moment", "<init>", "()V"⟩, "OathWalls")]
/-- the one String constant, its letters; the statics that are only carried -/
def mWd : String := "person  faith   tempt   oath    by      bears   lean    clash   stone   weighs  rent    on      age     mend    break   forgive raise   year    plain   old     sure    widow   not     and     or      base    years   kind    alone   "
def mWb : List Int32 := [112, 101, 114, 115, 111, 110, 32, 32, 102, 97, 105, 116, 104, 32, 32, 32, 116, 101, 109, 112, 116, 32, 32, 32, 111, 97, 116, 104, 32, 32, 32, 32, 98, 121, 32, 32, 32, 32, 32, 32, 98, 101, 97, 114, 115, 32, 32, 32, 108, 101, 97, 110, 32, 32, 32, 32, 99, 108, 97, 115, 104, 32, 32, 32, 115, 116, 111, 110, 101, 32, 32, 32, 119, 101, 105, 103, 104, 115, 32, 32, 114, 101, 110, 116, 32, 32, 32, 32, 111, 110, 32, 32, 32, 32, 32, 32, 97, 103, 101, 32, 32, 32, 32, 32, 109, 101, 110, 100, 32, 32, 32, 32, 98, 114, 101, 97, 107, 32, 32, 32, 102, 111, 114, 103, 105, 118, 101, 32, 114, 97, 105, 115, 101, 32, 32, 32, 121, 101, 97, 114, 32, 32, 32, 32, 112, 108, 97, 105, 110, 32, 32, 32, 111, 108, 100, 32, 32, 32, 32, 32, 115, 117, 114, 101, 32, 32, 32, 32, 119, 105, 100, 111, 119, 32, 32, 32, 110, 111, 116, 32, 32, 32, 32, 32, 97, 110, 100, 32, 32, 32, 32, 32, 111, 114, 32, 32, 32, 32, 32, 32, 98, 97, 115, 101, 32, 32, 32, 32, 121, 101, 97, 114, 115, 32, 32, 32, 107, 105, 110, 100, 32, 32, 32, 32, 97, 108, 111, 110, 101, 32, 32, 32]
def mXH (G : mg) (U : State) (H : Heap) : Prop := vk_R "OathWalls$Tape" 19 mWd (gS G) U ∧ (∃ aV : Nat, vk_S 1 [232] [mWb] (fun _ => gS G) (fun _ => aV) (mA G) U H) ∧ va_Z "java/lang/String" "COMPACT_STRINGS" "Z" (.int 1) (mA G) U H ∧ va_Zq "jdk/internal/util/Preconditions" "SIOOBE_FORMATTER" "Ljava/util/function/BiFunction;" (mA G) U H ∧ vx_Zq Bundle.tN "UNASSIGNED_STACK" Bundle.steD (mA G) U H ∧ vx_Zq Bundle.tN "SUPPRESSED_SENTINEL" Bundle.listD (mA G) U H
theorem mXH.same {G : mg} {u U : State} {H : Heap} (hv : U.vm = u.vm) (h : mXH G u H) : mXH G U H := by
  have ha : u.vm.Alike U.vm := by rw [hv]; exact Vm.Alike.refl _
  obtain ⟨h1, ⟨aV, h2⟩, h3, h4, h5, h6⟩ := h
  exact ⟨vk_R.same hv h1, ⟨aV, vk_S.moved ha h2⟩, va_Z.moved ha h3, va_Zq.moved ha h4, vx_Zq.moved ha h5, vx_Zq.moved ha h6⟩
theorem mXH.moved {G : mg} {u U : State} {H : Heap} (hW : u.WarmedH U.vm) (h : mXH G u H) : mXH G U H := by
  obtain ⟨h1, ⟨aV, h2⟩, h3, h4, h5, h6⟩ := h
  exact ⟨vk_R.warm hW h1, ⟨aV, vk_S.moved hW.alike h2⟩, va_Z.moved hW.alike h3, va_Zq.moved hW.alike h4, vx_Zq.moved hW.alike h5, vx_Zq.moved hW.alike h6⟩
theorem mXH.kept {G : mg} {U : State} {H H1 : Heap} (h : mXH G U H) (hq : ∀ a : Nat, a < H.size → ¬ mA G a → H1[a]? = H[a]?) : mXH G U H1 := by
  obtain ⟨h1, ⟨aV, h2⟩, h3, h4, h5, h6⟩ := h
  exact ⟨h1, ⟨aV, h2.kept hq⟩, h3.kept hq, h4.kept hq, h5.kept hq, h6.kept hq⟩
/-- what the machine's tables say at a state -/
def mK (G : mg) (U : State) : Prop := va_K (gD G) mCl (mTys (gA G)) U ∧ va_X (gb G) (gL G) (gx G) U U.heap ∧ gb G < g0 G ∧ (∀ q ∈ mNest, va_Nw (.methodLinkNest q.1 q.2.1 q.2.2.1 q.2.2.2) U) ∧ va_AO "OathWalls$Moment" U ∧ va_AO "OathWalls$Told" U ∧ mXH G U U.heap
/-- the locals -/
def mLR (G : mg) (la : Array Slot) (nL : Nat) (ls : List (Option mv)) : Prop := la.size = nL ∧ lv_wf la ∧ ∀ (i : Nat) (v : mv), ls[i]? = some (some v) → la[i]? = some (.val (rv G v))
def mOk (top : Nat) (ls : List (Option mv)) (st : List mv) : Prop := (∀ v ∈ st, mOkv top v) ∧ ∀ v, some v ∈ ls → mOkv top v
/-- a method: its class, its name, its code, its locals, what it returns, where it makes objects: how many of the plan were made when it began -/
abbrev mY : Type := String × String × ByteArray × Nat × Option FieldType × Option Nat
def mF (G : mg) (Y : mY) (p : Program) (s : State) (m : MethodId) (args : Array Value) (meth : Method) (c : Code) : Prop :=
  p.tables.exec = Jvm.exec ∧ c.code = Y.2.2.1 ∧ meth.sig.returnType = Y.2.2.2.2.1 ∧ c.maxLocals = Y.2.2.2.1 ∧ s.vm.findClass Y.1 = some m.cls ∧ (∀ w ∈ mGood, w.before args s = true) ∧ meth.locks = false ∧ meth.name = Y.2.1 ∧ mK G s ∧ g0 G ≤ s.heap.size ∧ (∀ tp, Y.2.2.2.2.2 = some tp → s.heap.size = g0 G + tp) ∧ ∀ x ∈ c.exceptionTable.toList, False
abbrev mZ : Type := List Frame → Array Value → State → State → Prop
def LW (G : mg) (rd : mrd) (R : Room) (Y : mY) (Z : mZ) (top cells slots pc : Nat) (ls : List (Option mv)) (st : List mv) (M : mm) : Prop :=
  ∀ (p : Program) (e : Env) (s : State) (m : MethodId) (args : Array Value) (below : List Frame) (meth : Method) (c : Code), mF G Y p s m args meth c →
    ∀ (H : Heap) (lo : List Loc) (la : Array Slot), mH G rd top M H → va_S (mA G) s.heap H lo → mLR G la Y.2.2.2.1 ls → mOk top ls st →
      W p (gl G) e R s m args below meth c H lo cells slots (Z below args s) (F0 m pc la (st.map (rv G)))
theorem mOk.tl {top : Nat} {ls : List (Option mv)} {v : mv} {st : List mv} (h : mOk top ls (v :: st)) : mOk top ls st := ⟨fun x hx => h.1 x (List.mem_cons_of_mem _ hx), h.2⟩
theorem mOk.hd {top : Nat} {ls : List (Option mv)} {v : mv} {st : List mv} (h : mOk top ls (v :: st)) : mOkv top v := h.1 v List.mem_cons_self
theorem mOk.cons {top : Nat} {ls : List (Option mv)} {v : mv} {st : List mv} (h : mOk top ls st) (hv : mOkv top v) : mOk top ls (v :: st) := ⟨fun x hx => by rcases List.mem_cons.mp hx with rfl | hx; exact hv; exact h.1 x hx, h.2⟩
theorem mOk.i {top : Nat} {ls : List (Option mv)} {x : Int32} {st : List mv} (h : mOk top ls st) : mOk top ls (vI x :: st) := h.cons trivial
theorem mOk.l {top : Nat} {ls : List (Option mv)} {x : Int64} {st : List mv} (h : mOk top ls st) : mOk top ls (vL x :: st) := h.cons trivial
theorem mOk.loc {top : Nat} {ls : List (Option mv)} {st : List mv} (h : mOk top ls st) {i : Nat} {v : mv} (hv : ls[i]? = some (some v)) : mOkv top v := h.2 v (List.mem_of_getElem? hv)
theorem mGood_of {w : Cond} (h : w ∈ mGood) : w ∈ lw_tbl ∧ ((w.onTables && w.keeps) = true ∨ ∃ ty, w = .arrayClass ty) := by
  obtain ⟨h1, h2⟩ := List.mem_filter.mp h
  exact ⟨h1, good_of_word h2⟩
theorem mPlan_nodup : mPlan.Nodup := by decide +kernel
theorem mPlan_no0 : ∀ q ∈ mPlan, q.1 ≠ 0 := by decide +kernel
theorem mIx_get {k n : Nat} (h : mIx k n < mPlan.length) : mPlan.getD (mIx k n) (0, 0) = (k, n) := by
  have h1 : mPlan[mIx k n]? = some (k, n) := by
    rw [List.getElem?_eq_getElem h]
    simp only [mIx]
    rw [List.getElem_idxOf]
  rw [List.getD_eq_getElem?_getD, h1]; rfl
theorem mIx_inj {t k n : Nat} (h : t < mPlan.length) (he : mPlan.getD t (0, 0) = (k, n)) : t = mIx k n := by
  have h1 : mPlan[t] = (k, n) := by
    rw [List.getD_eq_getElem?_getD, List.getElem?_eq_getElem h] at he; exact he
  have h2 := (List.Nodup.idxOf_getElem mPlan_nodup t h)
  rw [h1] at h2
  exact h2.symm
theorem mIx_ne0 {k n : Nat} (h : mIx k n < mPlan.length) : k ≠ 0 := by
  have h1 : mPlan[mIx k n] = (k, n) := by simp only [mIx]; rw [List.getElem_idxOf]
  have h2 := mPlan_no0 _ (List.getElem_mem h)
  rw [h1] at h2; exact h2
