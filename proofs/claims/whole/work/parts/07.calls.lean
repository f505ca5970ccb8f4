/-! contracts, calls, returns -/
def mRm (d mc ms : Nat) : Room := { frames := d, cells := mc, slots := ms, locals := 40 * d }
def mQc (G : mg) (rd : mrd) (top' : Nat) (r : Option mv) (M' : mm) : Array Value → State → Outcome → State → Prop := fun _ st o t =>
  o = .returned (r.map (rv G)) ∧ mH G rd top' M' t.heap ∧ (∀ v, r = some v → mOkv top' v) ∧ va_F (mA G) st t
def mZm (G : mg) (rd : mrd) (top' : Nat) (r : Option mv) (M' : mm) (mc ms : Nat) : mZ := fun below args s => MQ below (mQc G rd top' r M') args s mc ms (mA G)
def mPc (G : mg) (rd : mrd) (top : Nat) (al : Option Nat) (As : List mv) (M : mm) : Array Value → State → Prop := fun a U =>
  a = (As.map (rv G)).toArray ∧ mK G U ∧ mH G rd top M U.heap ∧ g0 G ≤ U.heap.size ∧ ∀ tp, al = some tp → U.heap.size = g0 G + tp
/-- the contract of a method: from these arguments and this memory it returns r and leaves M' -/
def CT (G : mg) (rd : mrd) (y : MethodName) (cc : ByteArray) (nL : Nat) (ret : Option FieldType) (al : Option Nat) (d mc ms top top' : Nat) (As : List mv) (M : mm) (r : Option mv) (M' : mm) : Prop :=
  (∀ v ∈ As, mOkv top v) → Met (gl G) y (.code y cc nL ret :: mGood) (mRm d mc ms) (mPc G rd top al As M) (mQc G rd top' r M') mc ms (mA G)
theorem mK_moved {G : mg} {u U : State} (hW : u.WarmedH U.vm) (hX : va_X (gb G) (gL G) (gx G) u U.heap) (hY : mXH G u U.heap) (h : mK G u) : mK G U :=
  ⟨va_K.moved hW.alike h.1, va_X.moved hW.alike hX, h.2.2.1, fun q hq => va_Nw.warmM hW (h.2.2.2.1 q hq), va_AO.moved hW.alike h.2.2.2.2.1, va_AO.moved hW.alike h.2.2.2.2.2.1, hY.moved hW⟩
theorem mPc_blind (G : mg) (rd : mrd) (top : Nat) (al : Option Nat) (As : List mv) (M : mm) : FrameBlind (mPc G rd top al As M) := by
  intro a U g mk h
  obtain ⟨h1, ⟨k1, k2, k3, k4, k5, k6, k7⟩, h3, h4, h5⟩ := h
  refine ⟨h1, ⟨va_K.moved (u := U) (U := U.calling g mk a) (Vm.Alike.refl U.vm) k1, va_X.moved (u := U) (U := U.calling g mk a) (Vm.Alike.refl U.vm) k2, k3, fun q hq => va_Nw.same rfl rfl (k4 q hq), va_AO.moved (u := U) (U := U.calling g mk a) (Vm.Alike.refl U.vm) k5, va_AO.moved (u := U) (U := U.calling g mk a) (Vm.Alike.refl U.vm) k6, mXH.same (u := U) (U := U.calling g mk a) rfl k7⟩, h3, h4, h5⟩
def entA : List mv → List (Option mv)
  | [] => []
  | v :: t => if isL v = true then some v :: none :: entA t else some v :: entA t
def entL (As : List mv) (nL : Nat) : List (Option mv) := entA As ++ List.replicate (nL - (entA As).length) none
theorem entA_get {G : mg} : ∀ (As : List mv) (b i : Nat) (v : mv), (entA As)[i]? = some (some v) → (b + i, rv G v) ∈ lv_args b (As.map (rv G)) := by
  intro As
  induction As with
  | nil => intro b i v h; simp [entA] at h
  | cons w t ih =>
    intro b i v h
    simp only [List.map_cons, lv_args]
    by_cases hw : isL w = true
    · simp only [entA, hw, if_true] at h
      match i with
      | 0 => simp at h; subst h; exact List.mem_cons.mpr (Or.inl rfl)
      | 1 => simp at h
      | i + 2 =>
        simp only [List.getElem?_cons_succ] at h
        refine List.mem_cons_of_mem _ ?_
        rw [if_pos (isL_cat.mp hw)]
        have h2 := ih (b + 2) i v h
        rw [show b + (i + 2) = b + 2 + i by omega]; exact h2
    · simp only [entA, hw, if_false] at h
      match i with
      | 0 => simp at h; subst h; exact List.mem_cons.mpr (Or.inl rfl)
      | i + 1 =>
        simp only [Bool.false_eq_true, if_false, List.getElem?_cons_succ] at h
        refine List.mem_cons_of_mem _ ?_
        rw [if_neg (fun q => hw (isL_cat.mpr q))]
        have h2 := ih (b + 1) i v h
        rw [show b + (i + 1) = b + 1 + i by omega]; exact h2
theorem entL_get {As : List mv} {nL i : Nat} {v : mv} (h : (entL As nL)[i]? = some (some v)) : (entA As)[i]? = some (some v) := by
  simp only [entL] at h
  by_cases hi : i < (entA As).length
  · rwa [List.getElem?_append_left hi] at h
  · rw [List.getElem?_append_right (by omega)] at h
    have := List.mem_of_getElem? h
    simp at this
theorem entA_mem : ∀ (As : List mv) (v : mv), some v ∈ entA As → v ∈ As := by
  intro As
  induction As with
  | nil => intro v h; simp [entA] at h
  | cons w t ih =>
    intro v h
    simp only [entA] at h
    by_cases hw : isL w = true
    · simp only [hw, if_true, List.mem_cons] at h
      rcases h with h | h | h
      · exact List.mem_cons.mpr (Or.inl (Option.some.inj h))
      · cases h
      · exact List.mem_cons_of_mem _ (ih v h)
    · simp only [hw, Bool.false_eq_true, if_false, List.mem_cons] at h
      rcases h with h | h
      · exact List.mem_cons.mpr (Or.inl (Option.some.inj h))
      · exact List.mem_cons_of_mem _ (ih v h)
theorem ct_of {G : mg} {rd : mrd} {y : MethodName} {cc : ByteArray} {nL : Nat} {ret : Option FieldType} {al : Option Nat} {d mc ms top top' : Nat} {As : List mv} {M : mm} {r : Option mv} {M' : mm} {ls : List (Option mv)} (hy : plainName y.cls = true) (hls : entL As nL = ls) (hn : (lg_sl (As.map (rv G))).length ≤ nL)
    (h : LW G rd (mRm d mc ms) (y.cls, y.name, cc, nL, ret, al) (mZm G rd top' r M' mc ms) top 0 0 0 ls [] M) : CT G rd y cc nL ret al d mc ms top top' As M r M' := by
  subst hls
  intro hok
  refine Met.ofW (cc := cc) (maxL := nL) (ret := ret) hy rfl ?_
  intro p e s m args below meth c s₁ B hml hv
  obtain ⟨rfl, hK, hH, h0, hal⟩ := hv
  rw [lg_entry_eq]
  have hl := lv_entry (As.map (rv G)) (n := nL) hn
  have hts := atoms_spec (ws := (.code y cc nL ret :: mGood)) B.pre
  have htab : ∀ x ∈ c.exceptionTable.toList, False := by
    obtain ⟨meth9, c9, h1, h2, -, -, -, -, h7, -⟩ := Cond.code_spec B.named (hts _ List.mem_cons_self)
    cases Option.some.inj (h1.symm.trans B.method)
    cases Option.some.inj (h2.symm.trans (Stand.of_body B).code)
    intro x hx
    rw [Array.isEmpty_iff.mp h7] at hx
    cases hx
  refine h p e s m _ below meth c ⟨B.exec, B.bytes, B.returns, hml, findClass_of_methodNamed B.named, fun w hw => hts w (List.mem_cons_of_mem _ hw), B.notSynchronized, (name_of_methodNamed B.named B.method).1, hK, h0, hal, htab⟩ s.heap [] _ hH va_S.rf ⟨hl.1, hl.2.1, fun i v hi => ?_⟩ ⟨fun v hv => by simp at hv, fun v hv => ?_⟩
  · have h2 := entA_get (G := G) As 0 i v (entL_get hi)
    rw [Nat.zero_add] at h2
    exact hl.2.2 _ h2
  · simp only [entL, List.mem_append] at hv
    rcases hv with hv | hv
    · exact hok v (entA_mem As v hv)
    · simp at hv
section GC
variable {G : mg} {rd : mrd} {R : Room} {Y : mY} {Z : mZ} {top cells slots pc pc' : Nat} {ls : List (Option mv)} {st : List mv} {M : mm}
theorem g_vret (hd : iAt Y.2.2.1 pc .return_ 1 pc') (hr : Y.2.2.2.2.1 = none) : LW G rd R Y (mZm G rd top none M cells slots) top cells slots pc ls [] M := by
  obtain ⟨hd, rfl⟩ := hd
  intro p e s m args below meth c F H lo la hH hS hL hO
  exact W.vret F.1 F.2.1 (F.2.2.1.trans hr) (fun t ht hW => ⟨rfl, by rw [ht]; exact hH, fun v h => (by cases h), hS.F ht⟩) hS.2.2 hd F.2.2.2.2.2.2.1
theorem g_iret {x : Int32} (hd : iAt Y.2.2.1 pc .ireturn 1 pc') (hr : Y.2.2.2.2.1 = some .int) : LW G rd R Y (mZm G rd top (some (vI x)) M cells slots) top cells slots pc ls [vI x] M := by
  obtain ⟨hd, rfl⟩ := hd
  intro p e s m args below meth c F H lo la hH hS hL hO
  exact W.iret F.1 F.2.1 (F.2.2.1.trans hr) (fun t ht hW => ⟨rfl, by rw [ht]; exact hH, fun v h => by cases h; trivial, hS.F ht⟩) hS.2.2 hd F.2.2.2.2.2.2.1
def bI (b : Bool) : Int32 := if b = true then 1 else 0
theorem bI_nar (b : Bool) : narrow .boolean (.int (bI b)) = .int (bI b) := by cases b; exact nb_0.1; exact nb_1.1
theorem g_zret {b : Bool} {x : Int32} (hd : iAt Y.2.2.1 pc .ireturn 1 pc') (hr : Y.2.2.2.2.1 = some .boolean) (hx : x = bI b) : LW G rd R Y (mZm G rd top (some (vI (bI b))) M cells slots) top cells slots pc ls [vI x] M := by
  obtain ⟨hd, rfl⟩ := hd
  subst hx
  intro p e s m args below meth c F H lo la hH hS hL hO
  exact W.zret F.1 F.2.1 (F.2.2.1.trans hr) (bI_nar b) (fun t ht hW => ⟨rfl, by rw [ht]; exact hH, fun v h => by cases h; trivial, hS.F ht⟩) hS.2.2 hd F.2.2.2.2.2.2.1
/-- what the tables say of a method's link -/
def mML (own : String) (idx : Nat) (y : MethodName) (cc : ByteArray) (nL : Nat) (ret : Option FieldType) (np : Nat) : Prop :=
  Cond.methodLink own idx y ∈ mGood ∧ Cond.code y cc nL ret ∈ mGood ∧ Cond.initialized y.cls ∈ mGood ∧ (y.cls ≠ "java/lang/invoke/MethodHandle" ∧ y.cls ≠ "java/lang/invoke/VarHandle") ∧ (parseMethodDescriptor y.desc).map (fun d => d.parameters.length) = some np
theorem mML_B {own : String} {idx : Nat} {y : MethodName} {cc : ByteArray} {nL : Nat} {ret : Option FieldType} {np d mc ms : Nat} {s : State} {args : Array Value} (h : mML own idx y cc nL ret np) (hts : ∀ w ∈ mGood, w.before args s = true) (hf : d + 1 ≤ R.frames ∧ 8 + (nL + 11) + 40 * d ≤ R.locals) : CallB R s args own idx y cc nL ret (.code y cc nL ret :: mGood) (mRm d mc ms) mc ms np := by
  obtain ⟨h1, h2, h3, h4, h5⟩ := h
  refine ⟨rfl, rfl, hf.1, hf.2, fun w hw a' U hW => ?_, List.mem_cons_self, hts _ h2, hts _ h3, h4, fun sig hs => ?_, hts _ h1⟩
  · rcases List.mem_cons.mp hw with rfl | hw
    · exact word_at hW (mGood_of h2).2 (hts _ h2)
    · exact word_at hW (mGood_of hw).2 (hts _ hw)
  · rw [hs] at h5; exact (Option.some.inj h5).symm
/-- the heap holds at least the plan's cells -/
theorem mH_size {H : Heap} (h : mH G rd top M H) (h0 : g0 G ≤ H.size) : g0 G + top ≤ H.size := by
  rcases Nat.eq_zero_or_pos top with q | q
  · omega
  · have h1 := (h.1 (top - 1) _ (mW_get (by omega))).lt
    dsimp only at h1; omega
/-- behind a call -/
theorem mS_call {s st₀ t : State} {H : Heap} {lo L : List Loc} (hS : va_S (mA G) s.heap H lo) (h0 : st₀.heap = H) (hF : va_F (mA G) st₀ t) (hL : ∀ q ∈ L, mA G q.base) : va_S (mA G) s.heap t.heap (lo ++ L) := by
  subst h0
  refine ⟨Nat.le_trans hS.1 hF.1, fun q h1 h2 => (hF.2 q (Nat.lt_of_lt_of_le h1 hS.1) h2).trans (hS.2.1 q h1 h2), fun l hl => ?_⟩
  rcases List.mem_append.mp hl with h | h
  · exact hS.2.2 l h
  · exact hL l h
theorem mK_call {s U : State} {H : Heap} {lo : List Loc} (hK : mK G s) (h0 : g0 G ≤ s.heap.size) (hS : va_S (mA G) s.heap H lo) (hU : U.heap = H) (hW : s.WarmedH U.vm) : mK G U := by
  refine mK_moved hW (va_X.kept hK.2.1 ?_) (mXH.kept hK.2.2.2.2.2.2 (fun a h1 h2 => by rw [hU]; exact hS.2.1 a h1 h2)) hK
  rw [hU]
  exact hS.2.1 _ (Nat.lt_of_lt_of_le hK.2.2.1 h0) (fun q => by have h1 : g0 G ≤ gb G := q; have h2 := hK.2.2.1; omega)
/-- where objects are made: the heap's size is the plan's -/
def mAl (Y : mY) (al : Option Nat) (top cells : Nat) : Prop := ∀ tp, al = some tp → tp = top ∧ ∃ t0, Y.2.2.2.2.2 = some t0 ∧ t0 + cells = top
theorem mAl_size {al : Option Nat} {p : Program} {e : Env} {s : State} {m : MethodId} {args : Array Value} {below : List Frame} {meth : Method} {c : Code} {T : State} {lo : List Loc} {H : Heap} (ha : mAl Y al top cells) (F : mF G Y p s m args meth c) (hT : T.heap = H) (X : Stand p (gl G) e R s m args below meth c T lo cells slots) (hH : mH G rd top M H) (hS : s.heap.size ≤ H.size) : ∀ tp, al = some tp → H.size = g0 G + tp := by
  intro tp htp
  obtain ⟨rfl, t0, h1, h2⟩ := ha tp htp
  have h3 := F.2.2.2.2.2.2.2.2.2.2.1 t0 h1
  have h4 := mH_size hH (Nat.le_trans F.2.2.2.2.2.2.2.2.2.1 hS)
  have h5 := X.same.2.2.1
  have h6 : (T.setVm s.vm).heap = H := hT
  rw [h6] at h5
  omega
/-- what is common to the three calls: the callee's run, then the caller goes on -/
theorem g_after {mc ms top' : Nat} {r : Option mv} {M' : mm} {rest : List mv} {args' : Array Value} {p : Program} {e : Env} {s : State} {m : MethodId} {args : Array Value} {below : List Frame} {meth : Method} {c : Code} {T : State} {lo : List Loc} {H : Heap} {la : Array Slot} {sv : List Value}
    (F : mF G Y p s m args meth c) (hH : mH G rd top M H) (hS : va_S (mA G) s.heap H lo) (hL : mLR G la Y.2.2.2.1 ls) (hO : mOk top ls rest) (htt : top ≤ top')
    (hrun : CallRun p (gl G) e R s m args below meth c H lo cells slots mc ms (F0 m pc la sv) (rest.map (rv G)) (mQc G rd top' r M' args') (mA G)) (hT : T.heap = H) (X : Stand p (gl G) e R s m args below meth c T lo cells slots)
    (kk : LW G rd R Y Z top' (cells + mc) (slots + ms) (pc + 3) ls (r.toList ++ rest) M') : ∃ t, Steps p.tables e below (T.setTop (F0 m pc la sv)) t ∧ Z below args s t := by
  obtain ⟨v, st₀, t, T', L, h0, X', hL', e1, ⟨hv, hH', hr, hF⟩, hst⟩ := hrun T hT X
  cases hv
  have hup : ∀ w, mOkv top w → mOkv top' w := by
    intro w hw
    rcases w with x | x | (_ | q)
    · trivial
    · trivial
    · trivial
    · rcases hw with hw | hw | hw
      · exact Or.inl hw
      · exact Or.inr (Or.inl hw)
      · exact Or.inr (Or.inr (Nat.lt_of_lt_of_le hw htt))
  have hO' : mOk top' ls (r.toList ++ rest) := by
    refine ⟨fun w hw => ?_, fun w hw => hup w (hO.2 w hw)⟩
    rcases List.mem_append.mp hw with h | h
    · cases r with
      | none => simp at h
      | some z => simp at h; subst h; exact hr _ rfl
    · exact hup w (hO.1 w h)
  have hW := kk p e s m args below meth c F t.heap (lo ++ L) la hH' (mS_call hS h0 hF hL') hL hO'
  obtain ⟨t2, a1, b1⟩ := hW T' e1 X'
  refine ⟨t2, hst t2 ?_, b1⟩
  have hm : (r.toList ++ rest).map (rv G) = (r.map (rv G)).toList ++ rest.map (rv G) := by cases r <;> simp
  rw [hm] at a1
  exact a1
theorem g_callV {k n idx ci np nL d mc ms top' : Nat} {y : MethodName} {cc : ByteArray} {ret : Option FieldType} {al : Option Nat} {C : String} {T : u_T} {N : Nat} {As rest : List mv} {r : Option mv} {M' : mm} (hd : iAt Y.2.2.1 pc (.invokevirtual idx) 3 pc') (hm : mML Y.1 idx y cc nL ret np) (hi : Cond.instanceMethod y ∈ mGood ∧ Cond.selects y.cls y y ∈ mGood) (hk : kOb k = some ci) (hc : mCl[ci]? = some (C, T, N)) (hy : y.cls = C)
    (hst : st = As.reverse ++ vR k n :: rest) (hn : As.length = np) (hC : CT G rd y cc nL ret al d mc ms top top' (vR k n :: As) M r M') (hR : d + 1 ≤ R.frames ∧ 8 + (nL + 11) + 40 * d ≤ R.locals) (hw : ((rest.map (rv G)).map fun v => v.category).sum ≤ 8) (hcs : cells + mc ≤ R.cells ∧ slots + ms ≤ R.slots) (hal : mAl Y al top cells) (htt : top ≤ top')
    (kk : LW G rd R Y Z top' (cells + mc) (slots + ms) pc' ls (r.toList ++ rest) M') : LW G rd R Y Z top cells slots pc ls st M := by
  subst hst
  obtain ⟨hd, rfl⟩ := hd
  intro p e s m args below meth c F H lo la hH hS hL hO
  have hO1 : mOk top ls (vR k n :: rest) := ⟨fun v h => hO.1 v (List.mem_append_right _ h), hO.2⟩
  have hM := hC (fun v hv => by
    rcases List.mem_cons.mp hv with rfl | hv
    · exact hO1.hd
    · exact hO.1 v (List.mem_append_left _ (List.mem_reverse.mpr hv)))
  intro T0 hT X
  have hsz := mAl_size hal F hT X hH hS.1
  obtain ⟨hix, hadr⟩ := adr_of (G := G) hH.2.2.1 hO1.hd (kOb_ne0 hk)
  have he := mW_at (G := G) (rd := rd) (M := M) hH.2.2.1 hix
  rw [mE_ob hk, ← hadr] at he
  have hrec := va_recv F.2.2.2.2.2.2.2.2.1.1 hH.1 hc he
  have hsv : ((As.reverse ++ vR k n :: rest).map (rv G)) = (As.map (rv G)).reverse ++ Value.ref (adr G k n) :: rest.map (rv G) := by
    rw [List.map_append, List.map_cons, List.map_reverse]; rfl
  have hrun := W.runV (R := R) (H := H) (cells := cells) (slots := slots) (locs := lo) (g := F0 m pc la ((As.reverse ++ vR k n :: rest).map (rv G))) (rest := rest.map (rv G)) (As := As.map (rv G)) (b := adr G k n) (e := e) (below := below) (meth := meth) (C := C) (n := np) ⟨F.1, F.2.1, F.2.2.2.1, F.2.2.2.2.1, F.2.2.2.2.2.1⟩ hM ⟨mML_B hm F.2.2.2.2.2.1 hR, F.2.2.2.2.2.1 _ hi.1, by rw [← hy]; exact F.2.2.2.2.2.1 _ hi.2⟩
    ⟨mPc_blind G rd top al _ M, hrec, fun U hU hW => ⟨rfl, mK_call F.2.2.2.2.2.2.2.2.1 F.2.2.2.2.2.2.2.2.2.1 hS hU hW, by rw [hU]; exact hH, by rw [hU]; exact Nat.le_trans F.2.2.2.2.2.2.2.2.2.1 hS.1, by rw [hU]; exact hsz⟩⟩ rfl (by rw [List.length_map]; exact hn) hL.1 hsv (lv_room hw) hd hcs
  exact g_after F hH hS hL hO1.tl htt hrun hT X kk
theorem g_callS {idx np nL d mc ms top' : Nat} {y : MethodName} {cc : ByteArray} {ret : Option FieldType} {al : Option Nat} {As rest : List mv} {r : Option mv} {M' : mm} (hd : iAt Y.2.2.1 pc (.invokestatic idx) 3 pc') (hm : mML Y.1 idx y cc nL ret np) (hi : Cond.static y ∈ mGood)
    (hst : st = As.reverse ++ rest) (hn : As.length = np) (hC : CT G rd y cc nL ret al d mc ms top top' As M r M') (hR : d + 1 ≤ R.frames ∧ 8 + (nL + 11) + 40 * d ≤ R.locals) (hw : ((rest.map (rv G)).map fun v => v.category).sum ≤ 8) (hcs : cells + mc ≤ R.cells ∧ slots + ms ≤ R.slots) (hal : mAl Y al top cells) (htt : top ≤ top')
    (kk : LW G rd R Y Z top' (cells + mc) (slots + ms) pc' ls (r.toList ++ rest) M') : LW G rd R Y Z top cells slots pc ls st M := by
  subst hst
  obtain ⟨hd, rfl⟩ := hd
  intro p e s m args below meth c F H lo la hH hS hL hO
  have hO1 : mOk top ls rest := ⟨fun v h => hO.1 v (List.mem_append_right _ h), hO.2⟩
  have hM := hC (fun v hv => hO.1 v (List.mem_append_left _ (List.mem_reverse.mpr hv)))
  intro T0 hT X
  have hsz := mAl_size hal F hT X hH hS.1
  have hsv : ((As.reverse ++ rest).map (rv G)) = (As.map (rv G)).reverse ++ rest.map (rv G) := by
    rw [List.map_append, List.map_reverse]
  have hrun := W.runS (R := R) (H := H) (cells := cells) (slots := slots) (locs := lo) (g := F0 m pc la ((As.reverse ++ rest).map (rv G))) (rest := rest.map (rv G)) (As := As.map (rv G)) (e := e) (below := below) (meth := meth) (n := np) ⟨F.1, F.2.1, F.2.2.2.1, F.2.2.2.2.1, F.2.2.2.2.2.1⟩ hM ⟨mML_B hm F.2.2.2.2.2.1 hR, F.2.2.2.2.2.1 _ hi⟩
    ⟨mPc_blind G rd top al _ M, fun U hU hW => ⟨rfl, mK_call F.2.2.2.2.2.2.2.2.1 F.2.2.2.2.2.2.2.2.2.1 hS hU hW, by rw [hU]; exact hH, by rw [hU]; exact Nat.le_trans F.2.2.2.2.2.2.2.2.2.1 hS.1, by rw [hU]; exact hsz⟩⟩ rfl (by rw [List.length_map]; exact hn) hL.1 hsv (lv_room hw) hd hcs
  exact g_after F hH hS hL hO1 htt hrun hT X kk
theorem g_callI {k n idx np nL d mc ms top' : Nat} {y : MethodName} {cc : ByteArray} {al : Option Nat} {As rest : List mv} {r : Option mv} {M' : mm} (hd : iAt Y.2.2.1 pc (.invokespecial idx) 3 pc') (hm : mML Y.1 idx y cc nL none np) (hi : Cond.instanceMethod y ∈ mGood ∧ y.name = "<init>")
    (hst : st = As.reverse ++ vR k n :: rest) (hn : As.length = np) (hC : CT G rd y cc nL none al d mc ms top top' (vR k n :: As) M r M') (hR : d + 1 ≤ R.frames ∧ 8 + (nL + 11) + 40 * d ≤ R.locals) (hw : ((rest.map (rv G)).map fun v => v.category).sum ≤ 8) (hcs : cells + mc ≤ R.cells ∧ slots + ms ≤ R.slots) (hal : mAl Y al top cells) (htt : top ≤ top')
    (kk : LW G rd R Y Z top' (cells + mc) (slots + ms) pc' ls (r.toList ++ rest) M') : LW G rd R Y Z top cells slots pc ls st M := by
  subst hst
  obtain ⟨hd, rfl⟩ := hd
  intro p e s m args below meth c F H lo la hH hS hL hO
  have hO1 : mOk top ls (vR k n :: rest) := ⟨fun v h => hO.1 v (List.mem_append_right _ h), hO.2⟩
  have hM := hC (fun v hv => by
    rcases List.mem_cons.mp hv with rfl | hv
    · exact hO1.hd
    · exact hO.1 v (List.mem_append_left _ (List.mem_reverse.mpr hv)))
  intro T0 hT X
  have hsz := mAl_size hal F hT X hH hS.1
  have hsv : ((As.reverse ++ vR k n :: rest).map (rv G)) = (As.map (rv G)).reverse ++ Value.ref (adr G k n) :: rest.map (rv G) := by
    rw [List.map_append, List.map_cons, List.map_reverse]; rfl
  have hrun := W.runI (R := R) (H := H) (cells := cells) (slots := slots) (locs := lo) (g := F0 m pc la ((As.reverse ++ vR k n :: rest).map (rv G))) (rest := rest.map (rv G)) (As := As.map (rv G)) (b := adr G k n) (e := e) (below := below) (meth := meth) (n := np) ⟨F.1, F.2.1, F.2.2.2.1, F.2.2.2.2.1, F.2.2.2.2.2.1⟩ hM ⟨mML_B hm F.2.2.2.2.2.1 hR, hi.2, F.2.2.2.2.2.1 _ hi.1⟩
    ⟨mPc_blind G rd top al _ M, fun U hU hW => ⟨rfl, mK_call F.2.2.2.2.2.2.2.2.1 F.2.2.2.2.2.2.2.2.2.1 hS hU hW, by rw [hU]; exact hH, by rw [hU]; exact Nat.le_trans F.2.2.2.2.2.2.2.2.2.1 hS.1, by rw [hU]; exact hsz⟩⟩ rfl (by rw [List.length_map]; exact hn) hL.1 hsv (lv_room hw) hd hcs
  exact g_after F hH hS hL hO1.tl htt hrun hT X kk
end GC
