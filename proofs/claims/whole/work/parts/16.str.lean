/-! THE STRING CONSTANT: charAt of the WORDS, out of the library's own code -/
abbrev cS_at : ByteArray := prog_22_method_56_code
abbrev cS_l1 : ByteArray := prog_22_method_154_code
abbrev cS_ci : ByteArray := prog_22_method_155_code
abbrev cS_la : ByteArray := prog_23_method_2_code
abbrev cS_pc : ByteArray := prog_30_method_11_code
abbrev yS_at : MethodName := ⟨"java/lang/String", "charAt", "(I)C"⟩
abbrev yS_l1 : MethodName := ⟨"java/lang/String", "isLatin1", "()Z"⟩
abbrev yS_ci : MethodName := ⟨"java/lang/String", "checkIndex", "(II)V"⟩
abbrev yS_la : MethodName := ⟨"java/lang/StringLatin1", "charAt", "([BI)C"⟩
abbrev yS_pc : MethodName := ⟨"jdk/internal/util/Preconditions", "checkIndex", "(IILjava/util/function/BiFunction;)I"⟩
theorem dS_at_0 : decode cS_at 0 = .ok (.aload_n 0, 1) := by decide +kernel
theorem dS_at_1 : decode cS_at 1 = .ok (.invokevirtual 492, 3) := by decide +kernel
theorem dS_at_4 : decode cS_at 4 = .ok (.ifCond .eq 12, 3) := by decide +kernel
theorem dS_at_7 : decode cS_at 7 = .ok (.aload_n 0, 1) := by decide +kernel
theorem dS_at_8 : decode cS_at 8 = .ok (.getfield 9, 3) := by decide +kernel
theorem dS_at_11 : decode cS_at 11 = .ok (.iload_n 1, 1) := by decide +kernel
theorem dS_at_12 : decode cS_at 12 = .ok (.invokestatic 495, 3) := by decide +kernel
theorem dS_at_15 : decode cS_at 15 = .ok (.ireturn, 1) := by decide +kernel
theorem dS_at_16 : decode cS_at 16 = .ok (.aload_n 0, 1) := by decide +kernel
theorem dS_at_17 : decode cS_at 17 = .ok (.getfield 9, 3) := by decide +kernel
theorem dS_at_20 : decode cS_at 20 = .ok (.iload_n 1, 1) := by decide +kernel
theorem dS_at_21 : decode cS_at 21 = .ok (.invokestatic 498, 3) := by decide +kernel
theorem dS_at_24 : decode cS_at 24 = .ok (.ireturn, 1) := by decide +kernel
theorem dS_l1_0 : decode cS_l1 0 = .ok (.getstatic 38, 3) := by decide +kernel
theorem dS_l1_3 : decode cS_l1 3 = .ok (.ifCond .eq 14, 3) := by decide +kernel
theorem dS_l1_6 : decode cS_l1 6 = .ok (.aload_n 0, 1) := by decide +kernel
theorem dS_l1_7 : decode cS_l1 7 = .ok (.getfield 15, 3) := by decide +kernel
theorem dS_l1_10 : decode cS_l1 10 = .ok (.ifCond .ne 7, 3) := by decide +kernel
theorem dS_l1_13 : decode cS_l1 13 = .ok (.iconst 1, 1) := by decide +kernel
theorem dS_l1_14 : decode cS_l1 14 = .ok (.goto 4, 3) := by decide +kernel
theorem dS_l1_17 : decode cS_l1 17 = .ok (.iconst 0, 1) := by decide +kernel
theorem dS_l1_18 : decode cS_l1 18 = .ok (.ireturn, 1) := by decide +kernel
theorem dS_ci_0 : decode cS_ci 0 = .ok (.iload_n 0, 1) := by decide +kernel
theorem dS_ci_1 : decode cS_ci 1 = .ok (.iload_n 1, 1) := by decide +kernel
theorem dS_ci_2 : decode cS_ci 2 = .ok (.getstatic 1053, 3) := by decide +kernel
theorem dS_ci_5 : decode cS_ci 5 = .ok (.invokestatic 1059, 3) := by decide +kernel
theorem dS_ci_8 : decode cS_ci 8 = .ok (.pop, 1) := by decide +kernel
theorem dS_ci_9 : decode cS_ci 9 = .ok (.return_, 1) := by decide +kernel
theorem dS_la_0 : decode cS_la 0 = .ok (.iload_n 1, 1) := by decide +kernel
theorem dS_la_1 : decode cS_la 1 = .ok (.aload_n 0, 1) := by decide +kernel
theorem dS_la_2 : decode cS_la 2 = .ok (.arraylength, 1) := by decide +kernel
theorem dS_la_3 : decode cS_la 3 = .ok (.invokestatic 9, 3) := by decide +kernel
theorem dS_la_6 : decode cS_la 6 = .ok (.aload_n 0, 1) := by decide +kernel
theorem dS_la_7 : decode cS_la 7 = .ok (.iload_n 1, 1) := by decide +kernel
theorem dS_la_8 : decode cS_la 8 = .ok (.baload, 1) := by decide +kernel
theorem dS_la_9 : decode cS_la 9 = .ok (.sipush 255, 3) := by decide +kernel
theorem dS_la_12 : decode cS_la 12 = .ok (.iand, 1) := by decide +kernel
theorem dS_la_13 : decode cS_la 13 = .ok (.i2c, 1) := by decide +kernel
theorem dS_la_14 : decode cS_la 14 = .ok (.ireturn, 1) := by decide +kernel
theorem dS_pc_0 : decode cS_pc 0 = .ok (.iload_n 0, 1) := by decide +kernel
theorem dS_pc_1 : decode cS_pc 1 = .ok (.ifCond .lt 8, 3) := by decide +kernel
theorem dS_pc_4 : decode cS_pc 4 = .ok (.iload_n 0, 1) := by decide +kernel
theorem dS_pc_5 : decode cS_pc 5 = .ok (.iload_n 1, 1) := by decide +kernel
theorem dS_pc_6 : decode cS_pc 6 = .ok (.if_icmp .lt 10, 3) := by decide +kernel
theorem dS_pc_9 : decode cS_pc 9 = .ok (.aload_n 2, 1) := by decide +kernel
theorem dS_pc_10 : decode cS_pc 10 = .ok (.iload_n 0, 1) := by decide +kernel
theorem dS_pc_11 : decode cS_pc 11 = .ok (.iload_n 1, 1) := by decide +kernel
theorem dS_pc_12 : decode cS_pc 12 = .ok (.invokestatic 95, 3) := by decide +kernel
theorem dS_pc_15 : decode cS_pc 15 = .ok (.athrow, 1) := by decide +kernel
theorem dS_pc_16 : decode cS_pc 16 = .ok (.iload_n 0, 1) := by decide +kernel
theorem dS_pc_17 : decode cS_pc 17 = .ok (.ireturn, 1) := by decide +kernel
theorem lS_at : mML "OathWalls$Tape" 21 yS_at cS_at 2 (some .char) 1 := ⟨mG1 232 rfl rfl, mG1 235 rfl rfl, mG1 6 rfl rfl, ⟨by decide, by decide⟩, by decide +kernel⟩
theorem lS_l1 : mML "java/lang/String" 492 yS_l1 cS_l1 1 (some .boolean) 0 := ⟨mG1 236 rfl rfl, mG1 239 rfl rfl, mG1 6 rfl rfl, ⟨by decide, by decide⟩, by decide +kernel⟩
theorem lS_la : mML "java/lang/String" 495 yS_la cS_la 2 (some .char) 2 := ⟨mG2 2 rfl rfl, mG2 4 rfl rfl, mG1 7 rfl rfl, ⟨by decide, by decide⟩, by decide +kernel⟩
theorem lS_ci : mML "java/lang/StringLatin1" 9 yS_ci cS_ci 2 none 2 := ⟨mG2 5 rfl rfl, mG2 7 rfl rfl, mG1 6 rfl rfl, ⟨by decide, by decide⟩, by decide +kernel⟩
theorem lS_pc : mML "java/lang/String" 1059 yS_pc cS_pc 3 (some .int) 3 := ⟨mG2 10 rfl rfl, mG2 12 rfl rfl, mG1 8 rfl rfl, ⟨by decide, by decide⟩, by decide +kernel⟩
def mWf : Nat → Value := fun j => .int (mWb.getD j 0)
def SP (G : mg) (h0 : Heap) (ta : Option Nat) (as : List Value) : Array Value → State → Prop := fun a U => a = as.toArray ∧ mXH G U U.heap ∧ U.heap = h0 ∧ ∀ q, ta = some q → va_T .byte q 232 mWf (mA G) U U.heap
theorem SP_blind (G : mg) (h0 : Heap) (ta : Option Nat) (as : List Value) : FrameBlind (SP G h0 ta as) := by
  intro a U g mk h
  obtain ⟨h1, h2, h3, h4⟩ := h
  exact ⟨h1, mXH.same (u := U) (U := U.calling g mk a) rfl h2, h3, fun q hq => va_T.moved (u := U) (U := U.calling g mk a) (Vm.Alike.refl U.vm) (h4 q hq)⟩
abbrev SQi (G : mg) (h0 : Heap) (r : Int32) : Array Value → State → Outcome → State → Prop := va_Qi (fun x (_ : Unit) => x = r) (fun _ t => t.heap = h0) (mA G)
abbrev SQv (G : mg) (h0 : Heap) : Array Value → State → Outcome → State → Prop := va_Qv (fun (_ : Unit) => True) (fun _ t => t.heap = h0) (mA G)
abbrev SMs (G : mg) (y : MethodName) (cc : ByteArray) (nL : Nat) (ret : Option FieldType) (d : Nat) (h0 : Heap) (ta : Option Nat) (as : List Value) (Qc : Array Value → State → Outcome → State → Prop) : Prop := Met (gl G) y (.code y cc nL ret :: mGood) (mRm d 0 0) (SP G h0 ta as) Qc 0 0 (mA G)
def SF (G : mg) (C : String) (cc : ByteArray) (nL : Nat) (ret : Option FieldType) (p : Program) (s : State) (m : MethodId) (args : Array Value) (meth : Method) (c : Code) : Prop :=
  p.tables.exec = Jvm.exec ∧ c.code = cc ∧ meth.sig.returnType = ret ∧ c.maxLocals = nL ∧ s.vm.findClass C = some m.cls ∧ (∀ w ∈ mGood, w.before args s = true) ∧ meth.locks = false ∧ mXH G s s.heap
theorem SMs_of {G : mg} {y : MethodName} {cc : ByteArray} {nL : Nat} {ret : Option FieldType} {d : Nat} {h0 : Heap} {ta : Option Nat} {as : List Value} {Qc : Array Value → State → Outcome → State → Prop} (hy : plainName y.cls = true) (hn : (lg_sl as).length ≤ nL)
    (h : ∀ (p : Program) (e : Env) (s : State) (m : MethodId) (below : List Frame) (meth : Method) (c : Code) (la : Array Slot), SF G y.cls cc nL ret p s m as.toArray meth c → s.heap = h0 → (∀ q, ta = some q → va_T .byte q 232 mWf (mA G) s s.heap) → lv_has la nL (lv_args 0 as) →
      W p (gl G) e (mRm d 0 0) s m as.toArray below meth c s.heap [] 0 0 (MQ below Qc as.toArray s 0 0 (mA G)) (F0 m 0 la [])) : SMs G y cc nL ret d h0 ta as Qc := by
  refine Met.ofW (cc := cc) (maxL := nL) (ret := ret) hy rfl ?_
  intro p e s m args below meth c s₁ B hml hv
  obtain ⟨rfl, hX, hH, hT⟩ := hv
  rw [lg_entry_eq]
  have hts := atoms_spec (ws := (.code y cc nL ret :: mGood)) B.pre
  exact h p e s m below meth c _ ⟨B.exec, B.bytes, B.returns, hml, findClass_of_methodNamed B.named, fun w hw => hts w (List.mem_cons_of_mem _ hw), B.notSynchronized, hX⟩ hH hT (lv_entry as (n := nL) hn)
section SW
variable {G : mg} {R : Room} {C : String} {cc : ByteArray} {nL : Nat} {ret : Option FieldType} {p : Program} {e : Env} {s : State} {m : MethodId} {args : Array Value} {below : List Frame} {meth : Method} {c : Code} {H : Heap} {lo : List Loc} {cells slots pc : Nat} {la : Array Slot} {Q : State → Prop}
theorem SP_call {ta : Option Nat} {as : List Value} {U : State} (hX : mXH G s s.heap) (hS : va_S (mA G) s.heap H lo) (hT : ∀ q, ta = some q → va_T .byte q 232 mWf (mA G) s s.heap) (hU : U.heap = H) (hW : s.WarmedH U.vm) : SP G H ta as as.toArray U := by
  refine ⟨rfl, ?_, hU, fun q hq => ?_⟩
  · rw [hU]; exact mXH.moved hW (hX.kept hS.2.1)
  · rw [hU]; exact va_T.moved hW.alike ((hT q hq).kept hS.2.1)
theorem sS_i {idx np nL' d : Nat} {y : MethodName} {cc' : ByteArray} {ret' : Option FieldType} {ta : Option Nat} {as rest st : List Value} {r : Int32} (F : SF G C cc nL ret p s m args meth c) (hS : va_S (mA G) s.heap H lo) (hd : decode cc pc = .ok (.invokestatic idx, 3)) (hm : mML C idx y cc' nL' ret' np) (hi : Cond.static y ∈ mGood)
    (hT : ∀ q, ta = some q → va_T .byte q 232 mWf (mA G) s s.heap) (hC : SMs G y cc' nL' ret' d H ta as (SQi G H r)) (hst : st = as.reverse ++ rest) (hn : as.length = np) (hl : la.size = nL) (hR : d + 1 ≤ R.frames ∧ 8 + (nL' + 11) + 40 * d ≤ R.locals) (hw : (rest.map fun v => v.category).sum ≤ 8) (hcs : cells ≤ R.cells ∧ slots ≤ R.slots)
    (kk : ∀ lo', va_S (mA G) s.heap H lo' → W p (gl G) e R s m args below meth c H lo' cells slots Q (F0 m (pc + 3) la (.int r :: rest))) : W p (gl G) e R s m args below meth c H lo cells slots Q (F0 m pc la st) := by
  subst hst
  have hrun := va_runS (R := R) (H := H) (cells := cells) (slots := slots) (locs := lo) (g := F0 m pc la (as.reverse ++ rest)) (rest := rest) (As := as) (e := e) (below := below) (meth := meth) (n := np) ⟨F.1, F.2.1, F.2.2.2.1, F.2.2.2.2.1, F.2.2.2.2.2.1⟩ hC ⟨mML_B hm F.2.2.2.2.2.1 hR, F.2.2.2.2.2.1 _ hi⟩
    ⟨SP_blind G H ta as, fun U hU hW => SP_call F.2.2.2.2.2.2.2 hS hT hU hW⟩ rfl hn hl rfl (lv_room hw) hd hcs
  refine va_calli hrun hS (fun _ _ h => h) (fun _ h => h) (fun r' u t H1 lo1 h1 h2 h3 h4 h5 h6 h7 => ?_)
  subst h3
  have h8 : H1 = H := h1.symm.trans h4
  subst h8
  exact kk lo1 h7
theorem sS_v {idx np nL' d : Nat} {y : MethodName} {cc' : ByteArray} {ret' : Option FieldType} {ta : Option Nat} {as rest st : List Value} (F : SF G C cc nL ret p s m args meth c) (hS : va_S (mA G) s.heap H lo) (hd : decode cc pc = .ok (.invokestatic idx, 3)) (hm : mML C idx y cc' nL' ret' np) (hi : Cond.static y ∈ mGood)
    (hT : ∀ q, ta = some q → va_T .byte q 232 mWf (mA G) s s.heap) (hC : SMs G y cc' nL' ret' d H ta as (SQv G H)) (hst : st = as.reverse ++ rest) (hn : as.length = np) (hl : la.size = nL) (hR : d + 1 ≤ R.frames ∧ 8 + (nL' + 11) + 40 * d ≤ R.locals) (hw : (rest.map fun v => v.category).sum ≤ 8) (hcs : cells ≤ R.cells ∧ slots ≤ R.slots)
    (kk : ∀ lo', va_S (mA G) s.heap H lo' → W p (gl G) e R s m args below meth c H lo' cells slots Q (F0 m (pc + 3) la rest)) : W p (gl G) e R s m args below meth c H lo cells slots Q (F0 m pc la st) := by
  subst hst
  have hrun := va_runS (R := R) (H := H) (cells := cells) (slots := slots) (locs := lo) (g := F0 m pc la (as.reverse ++ rest)) (rest := rest) (As := as) (e := e) (below := below) (meth := meth) (n := np) ⟨F.1, F.2.1, F.2.2.2.1, F.2.2.2.2.1, F.2.2.2.2.2.1⟩ hC ⟨mML_B hm F.2.2.2.2.2.1 hR, F.2.2.2.2.2.1 _ hi⟩
    ⟨SP_blind G H ta as, fun U hU hW => SP_call F.2.2.2.2.2.2.2 hS hT hU hW⟩ rfl hn hl rfl (lv_room hw) hd hcs
  refine va_callv hrun hS (fun _ _ h => h) (fun _ h => h) (fun u t H1 lo1 h1 h2 h3 h4 h5 h6 h7 => ?_)
  have h8 : H1 = H := h1.symm.trans h4
  subst h8
  exact kk lo1 h7
theorem sV_i {idx np nL' d : Nat} {y : MethodName} {cc' : ByteArray} {ret' : Option FieldType} {ta : Option Nat} {as rest st : List Value} {r : Int32} (F : SF G C cc nL ret p s m args meth c) (hS : va_S (mA G) s.heap H lo) (hd : decode cc pc = .ok (.invokevirtual idx, 3)) (hm : mML C idx y cc' nL' ret' np) (hi : Cond.instanceMethod y ∈ mGood ∧ Cond.selects "java/lang/String" y y ∈ mGood)
    (hT : ∀ q, ta = some q → va_T .byte q 232 mWf (mA G) s s.heap) (hC : SMs G y cc' nL' ret' d H ta (.ref (gS G) :: as) (SQi G H r)) (hst : st = as.reverse ++ .ref (gS G) :: rest) (hn : as.length = np) (hl : la.size = nL) (hR : d + 1 ≤ R.frames ∧ 8 + (nL' + 11) + 40 * d ≤ R.locals) (hw : (rest.map fun v => v.category).sum ≤ 8) (hcs : cells ≤ R.cells ∧ slots ≤ R.slots)
    (kk : ∀ lo', va_S (mA G) s.heap H lo' → W p (gl G) e R s m args below meth c H lo' cells slots Q (F0 m (pc + 3) la (.int r :: rest))) : W p (gl G) e R s m args below meth c H lo cells slots Q (F0 m pc la st) := by
  subst hst
  obtain ⟨aV, hVS⟩ := F.2.2.2.2.2.2.2.2.1
  have hrec := vk_recv hVS (i := 0) (by decide) hS
  have hrun := va_runV (R := R) (H := H) (cells := cells) (slots := slots) (locs := lo) (g := F0 m pc la (as.reverse ++ .ref (gS G) :: rest)) (rest := rest) (As := as) (b := gS G) (e := e) (below := below) (meth := meth) (C := "java/lang/String") (n := np) ⟨F.1, F.2.1, F.2.2.2.1, F.2.2.2.2.1, F.2.2.2.2.2.1⟩ hC ⟨mML_B hm F.2.2.2.2.2.1 hR, F.2.2.2.2.2.1 _ hi.1, F.2.2.2.2.2.1 _ hi.2⟩
    ⟨SP_blind G H ta _, hrec, fun U hU hW => SP_call F.2.2.2.2.2.2.2 hS hT hU hW⟩ rfl hn hl rfl (lv_room hw) hd hcs
  refine va_calli hrun hS (fun _ _ h => h) (fun _ h => h) (fun r' u t H1 lo1 h1 h2 h3 h4 h5 h6 h7 => ?_)
  subst h3
  have h8 : H1 = H := h1.symm.trans h4
  subst h8
  exact kk lo1 h7
end SW
theorem m_pc {G : mg} {h0 : Heap} {i n : Int32} {v : Value} (d : Nat) (hv : v = .null ∨ ∃ t : Nat, v = .ref t) (h1 : ¬ i < 0) (h2 : i < n) : SMs G yS_pc cS_pc 3 (some .int) d h0 none [.int i, .int n, v] (SQi G h0 i) := by
  refine SMs_of (by decide) (by rcases hv with rfl | ⟨t, rfl⟩ <;> exact Nat.le_refl _) (fun p e s m below meth c la F hH hT hl => ?_)
  refine lv_iload_n F.1 F.2.1 dS_pc_0 rfl (lv_at hl 0 rfl) ?_
  refine lv_if_lt F.1 F.2.1 (tgt := 9) dS_pc_1 rfl (fun h => absurd h h1) (fun _ => ?_)
  refine lv_iload_n F.1 F.2.1 dS_pc_4 rfl (lv_at hl 0 rfl) ?_
  refine lv_iload_n F.1 F.2.1 dS_pc_5 rfl (lv_at hl 1 rfl) ?_
  refine lv_icmp_lt F.1 F.2.1 (tgt := 16) dS_pc_6 rfl (fun _ => ?_) (fun h => absurd h2 h)
  refine lv_iload_n F.1 F.2.1 dS_pc_16 rfl (lv_at hl 0 rfl) ?_
  exact W.iret F.1 F.2.1 F.2.2.1 (fun t ht hW => ⟨⟨i, (), rfl, rfl, ht.trans hH⟩, va_S.rf.F ht⟩) (fun q hq => by cases hq) dS_pc_17 F.2.2.2.2.2.2.1
theorem m_ci {G : mg} {h0 : Heap} {i n : Int32} (d : Nat) (h1 : ¬ i < 0) (h2 : i < n) : SMs G yS_ci cS_ci 2 none (d + 1) h0 none [.int i, .int n] (SQv G h0) := by
  refine SMs_of (by decide) (Nat.le_refl _) (fun p e s m below meth c la F hH hT hl => ?_)
  refine lv_iload_n F.1 F.2.1 dS_ci_0 rfl (lv_at hl 0 rfl) ?_
  refine lv_iload_n F.1 F.2.1 dS_ci_1 rfl (lv_at hl 1 rfl) ?_
  have key : ∀ v : Value, (v = .null ∨ ∃ t : Nat, v = .ref t) → va_Z "jdk/internal/util/Preconditions" "SIOOBE_FORMATTER" "Ljava/util/function/BiFunction;" v (mA G) s s.heap → W p (gl G) e (mRm (d + 1) 0 0) s m #[.int i, .int n] below meth c s.heap [] 0 0 (MQ below (SQv G h0) #[.int i, .int n] s 0 0 (mA G)) (F0 m 2 la [.int n, .int i]) := by
    intro v hv hZ
    refine va_gets F.1 F.2.1 hZ va_S.rf F.2.2.2.2.1 (F.2.2.2.2.2.1 _ (mG2 8 rfl rfl)) (fun x h => h) dS_ci_2 ?_
    refine sS_i (R := mRm (d + 1) 0 0) (d := d) (r := i) (ta := none) (as := [.int i, .int n, v]) (rest := []) F va_S.rf dS_ci_5 lS_pc (mG2 11 rfl rfl) (fun q h => by cases h) (m_pc d hv h1 h2) rfl rfl hl.1 ⟨Nat.le_refl _, by show 8 + (3 + 11) + 40 * d ≤ 40 * (d + 1); omega⟩ (Nat.zero_le _) ⟨Nat.le_refl _, Nat.le_refl _⟩ (fun lo hS => ?_)
    refine lv_pop F.1 F.2.1 dS_ci_8 rfl ?_
    exact W.vret F.1 F.2.1 F.2.2.1 (fun t ht hW => ⟨⟨(), rfl, trivial, ht.trans hH⟩, hS.F ht⟩) hS.2.2 dS_ci_9 F.2.2.2.2.2.2.1
  rcases F.2.2.2.2.2.2.2.2.2.2.1 with h | ⟨t, h⟩
  · exact key _ (Or.inl rfl) h
  · exact key _ (Or.inr ⟨t, rfl⟩) h
/-- the char at k -/
theorem mWb_ch : ∀ k, k < 232 → ((((mWb.getD k 0) &&& 255).toUInt32 % 65536).toInt32) = mWb.getD k 0 := by decide +kernel
theorem mWb_nar : ∀ k, k < 232 → (mWb.getD k 0).toUInt32.toUInt16.toUInt32.toInt32 = mWb.getD k 0 := by decide +kernel
theorem m_la {G : mg} {h0 : Heap} {a k : Nat} (d : Nat) (hk : k < 232) : SMs G yS_la cS_la 2 (some .char) (d + 2) h0 (some a) [.ref a, .int (nI k)] (SQi G h0 (mWb.getD k 0)) := by
  refine SMs_of (by decide) (Nat.le_refl _) (fun p e s m below meth c la F hH hT hl => ?_)
  have hTT := hT a rfl
  refine lv_iload_n F.1 F.2.1 dS_la_0 rfl (lv_at hl 1 rfl) ?_
  refine lv_aload_n F.1 F.2.1 dS_la_1 rfl (lv_at hl 0 rfl) ?_
  refine va_tlen F.1 F.2.1 hTT va_S.rf (v := nI 232) rfl dS_la_2 ?_
  refine sS_v (R := mRm (d + 2) 0 0) (d := d + 1) (ta := none) (as := [.int (nI k), .int (nI 232)]) (rest := []) F va_S.rf dS_la_3 lS_ci (mG2 6 rfl rfl) (fun q h => by cases h) (m_ci d (nI_pos (by omega)) (nI_lt (by omega) (by omega))) rfl rfl hl.1 ⟨Nat.le_refl _, by show 8 + (2 + 11) + 40 * (d + 1) ≤ 40 * (d + 2); omega⟩ (Nat.zero_le _) ⟨Nat.le_refl _, Nat.le_refl _⟩ (fun lo hS => ?_)
  refine lv_aload_n F.1 F.2.1 dS_la_6 rfl (lv_at hl 0 rfl) ?_
  refine lv_iload_n F.1 F.2.1 dS_la_7 rfl (lv_at hl 1 rfl) ?_
  refine va_tb F.1 F.2.1 hTT hS (i := nI k) (v := .int (mWb.getD k 0)) (vp_in_nI hk (by omega)) (by rw [nI_clamp (by omega)]; rfl) dS_la_8 ?_
  refine lv_sipush F.1 F.2.1 dS_la_9 (v := 255) (by decide +kernel) ?_
  refine lv_iand F.1 F.2.1 dS_la_12 ?_
  refine lv_i2c F.1 F.2.1 dS_la_13 (mWb_ch k hk) ?_
  exact W.zret F.1 F.2.1 F.2.2.1 (by show Value.int _ = _; rw [mWb_nar k hk]) (fun t ht hW => ⟨⟨_, (), rfl, rfl, ht.trans hH⟩, hS.F ht⟩) hS.2.2 dS_la_14 F.2.2.2.2.2.2.1
theorem m_l1 {G : mg} {h0 : Heap} (d : Nat) : SMs G yS_l1 cS_l1 1 (some .boolean) d h0 none [.ref (gS G)] (SQi G h0 1) := by
  refine SMs_of (by decide) (Nat.le_refl _) (fun p e s m below meth c la F hH hT hl => ?_)
  obtain ⟨aV, hVS⟩ := F.2.2.2.2.2.2.2.2.1
  refine va_gets F.1 F.2.1 F.2.2.2.2.2.2.2.2.2.1 va_S.rf F.2.2.2.2.1 (F.2.2.2.2.2.1 _ (mG2 0 rfl rfl)) (fun x h => h) dS_l1_0 ?_
  refine lv_if_eq F.1 F.2.1 (tgt := 17) dS_l1_3 rfl (fun h => absurd h (by decide)) (fun _ => ?_)
  refine lv_aload_n F.1 F.2.1 dS_l1_6 rfl (lv_at hl 0 rfl) ?_
  refine vk_getf F.1 F.2.1 (hVS.1 0 (by decide)).2.1 va_S.rf F.2.2.2.2.1 (F.2.2.2.2.2.1 _ (mG8 239 rfl rfl)) (fun x h => h) dS_l1_7 ?_
  refine lv_if_ne F.1 F.2.1 (tgt := 17) dS_l1_10 rfl (fun h => absurd rfl h) (fun _ => ?_)
  refine lv_iconst F.1 F.2.1 dS_l1_13 (v := 1) (by decide) ?_
  refine lv_goto F.1 F.2.1 (tgt := 18) dS_l1_14 rfl ?_
  exact W.zret F.1 F.2.1 F.2.2.1 nb_1.1 (fun t ht hW => ⟨⟨_, (), rfl, rfl, ht.trans hH⟩, va_S.rf.F ht⟩) (fun q hq => by cases hq) dS_l1_18 F.2.2.2.2.2.2.1
/-- charAt of the WORDS, as a contract of the light judgement -/
theorem ct_at {G : mg} {rd : mrd} {top k : Nat} {M : mm} (d : Nat) (hk : k < 232) : CT G rd yS_at cS_at 2 (some .char) none (d + 3) 0 0 top top [vR 19 0, vI (nI k)] M (some (vI (mWb.getD k 0))) M := by
  refine ct_of (ls := [some (vR 19 0), some (vI (nI k))]) (by decide) rfl (Nat.le_refl _) ?_
  intro p e s m args below meth c F H lo la hH hS hL hO
  have hX := F.2.2.2.2.2.2.2.2.1.2.2.2.2.2.2
  have F' : SF G "java/lang/String" cS_at 2 (some .char) p s m args meth c := ⟨F.1, F.2.1, F.2.2.1, F.2.2.2.1, F.2.2.2.2.1, F.2.2.2.2.2.1, F.2.2.2.2.2.2.1, hX⟩
  obtain ⟨aV, hVS⟩ := hX.2.1
  have l0 : la[0]? = some (.val (.ref (gS G))) := hL.2.2 0 _ rfl
  have l1 : la[1]? = some (.val (.int (nI k))) := hL.2.2 1 _ rfl
  refine lv_aload_n F.1 F.2.1 dS_at_0 rfl l0 ?_
  refine sV_i (R := mRm (d + 3) 0 0) (d := d) (r := 1) (ta := none) (as := []) (rest := []) F' hS dS_at_1 lS_l1 ⟨mG1 237 rfl rfl, mG1 238 rfl rfl⟩ (fun q h => by cases h) (m_l1 d) rfl rfl hL.1 ⟨by show d + 1 ≤ d + 3; omega, by show 8 + (1 + 11) + 40 * d ≤ 40 * (d + 3); omega⟩ (Nat.zero_le _) ⟨Nat.le_refl _, Nat.le_refl _⟩ (fun lo1 hS1 => ?_)
  refine lv_if_eq F.1 F.2.1 (tgt := 16) dS_at_4 rfl (fun h => absurd h (by decide)) (fun _ => ?_)
  refine lv_aload_n F.1 F.2.1 dS_at_7 rfl l0 ?_
  refine vk_getf F.1 F.2.1 (hVS.1 0 (by decide)).2.2.1 hS1 F.2.2.2.2.1 (F.2.2.2.2.2.1 _ (mG9 0 rfl rfl)) (fun x h => h) dS_at_8 ?_
  refine lv_iload_n F.1 F.2.1 dS_at_11 rfl l1 ?_
  refine sS_i (R := mRm (d + 3) 0 0) (d := d + 2) (r := mWb.getD k 0) (ta := some aV) (as := [.ref aV, .int (nI k)]) (rest := []) F' hS1 dS_at_12 lS_la (mG2 3 rfl rfl) (fun q h => by cases h; exact (hVS.1 0 (by decide)).2.2.2) (m_la d hk) rfl rfl hL.1 ⟨Nat.le_refl _, by show 8 + (2 + 11) + 40 * (d + 2) ≤ 40 * (d + 3); omega⟩ (Nat.zero_le _) ⟨Nat.le_refl _, Nat.le_refl _⟩ (fun lo2 hS2 => ?_)
  exact W.zret F.1 F.2.1 F.2.2.1 (by show Value.int _ = _; rw [mWb_nar k hk]) (fun t ht hW => ⟨rfl, by rw [ht]; exact hH, fun v h => by cases h; trivial, hS2.F ht⟩) hS2.2.2 dS_at_15 F.2.2.2.2.2.2.1
