/-! THE START: what the tables and the Statement give, the first phase of the law -/
theorem tb1 (i : Nat) {w : Cond} (h : tables_1_1[i]? = some w) : w ∈ lw_tbl := List.mem_append_right _ (show w ∈ tables_1 from List.mem_append_left _ (List.mem_of_getElem? h))
theorem tb2 (i : Nat) {w : Cond} (h : tables_1_2[i]? = some w) : w ∈ lw_tbl := List.mem_append_right _ (show w ∈ tables_1 from List.mem_append_right _ (List.mem_append_left _ (List.mem_of_getElem? h)))
theorem tb3 (i : Nat) {w : Cond} (h : tables_1_3[i]? = some w) : w ∈ lw_tbl := List.mem_append_right _ (show w ∈ tables_1 from List.mem_append_right _ (List.mem_append_right _ (List.mem_append_left _ (List.mem_of_getElem? h))))
theorem tb6 (i : Nat) {w : Cond} (h : tables_1_6[i]? = some w) : w ∈ lw_tbl := List.mem_append_right _ (show w ∈ tables_1 from List.mem_append_right _ (List.mem_append_right _ (List.mem_append_right _ (List.mem_append_right _ (List.mem_append_right _ (List.mem_append_left _ (List.mem_of_getElem? h)))))))
theorem kn_of {s : State} {args : Array Value} (hts : ∀ w ∈ mGood, w.before args s = true) : ∃ D : va_G, ∀ (c : Nat) (q : vw_C), mCl[c]? = some q → u_Kn s q.1 q.2.1 q.2.2 (D.1 c) (D.2 c) := by
  have key : ∀ (c : Nat) (C : String) (T : u_T) (N n : Nat), mCl[c]? = some (C, T, N) → (∀ w ∈ u_ws C T N, w ∈ mGood) → Cond.instantiable C n ∈ mGood → ∃ x : ClassId × (Nat → Nat), ∀ q : vw_C, mCl[c]? = some q → u_Kn s q.1 q.2.1 q.2.2 x.1 x.2 := by
    intro c C T N n hc hin hi
    obtain ⟨cC, iS, hk⟩ := u_known hts hin (hts _ hi)
    exact ⟨(cC, iS), fun q hq => by cases Option.some.inj (hc.symm.trans hq); exact hk⟩
  have h : ∀ c : Nat, ∃ x : ClassId × (Nat → Nat), ∀ q : vw_C, mCl[c]? = some q → u_Kn s q.1 q.2.1 q.2.2 x.1 x.2 := by
    intro c
    by_cases e0 : c = 0
    · subst e0; exact key 0 RX0 TX0 20 20 rfl cw_0 (mG1 34 rfl rfl)
    by_cases e1 : c = 1
    · subst e1; exact key 1 RX1 TX1 1 1 rfl cw_1 (mG2 167 rfl rfl)
    by_cases e2 : c = 2
    · subst e2; exact key 2 RX2 TX2 8 8 rfl cw_2 (mG1 40 rfl rfl)
    by_cases e3 : c = 3
    · subst e3; exact key 3 RX3 TX3 7 7 rfl cw_3 (mG2 78 rfl rfl)
    by_cases e4 : c = 4
    · subst e4; exact key 4 RX4 TX4 4 4 rfl cw_4 (mG2 183 rfl rfl)
    by_cases e5 : c = 5
    · subst e5; exact key 5 RX5 TX5 7 7 rfl cw_5 (mG2 72 rfl rfl)
    by_cases e6 : c = 6
    · subst e6; exact key 6 RX6 TX6 9 9 rfl cw_6 (mG1 226 rfl rfl)
    by_cases e7 : c = 7
    · subst e7; exact key 7 RX7 TX7 12 12 rfl cw_7 (mG3 41 rfl rfl)
    by_cases e8 : c = 8
    · subst e8; exact key 8 RX8 TX8 6 6 rfl cw_8 (mG1 193 rfl rfl)
    by_cases e9 : c = 9
    · subst e9; exact key 9 RX9 TX9 10 10 rfl cw_9 (mG2 128 rfl rfl)
    by_cases e10 : c = 10
    · subst e10; exact key 10 RX10 TX10 19 19 rfl cw_10 (mG2 177 rfl rfl)
    by_cases e11 : c = 11
    · subst e11; exact key 11 RX11 TX11 18 18 rfl cw_11 (mG1 26 rfl rfl)
    by_cases e12 : c = 12
    · subst e12; exact key 12 RX12 TX12 65 65 rfl cw_12 (mG6 68 rfl rfl)
    obtain ⟨x, -⟩ := key 0 RX0 TX0 20 20 rfl cw_0 (mG1 34 rfl rfl)
    refine ⟨x, fun q hq => ?_⟩
    have h1 : c < 13 := (List.getElem?_eq_some_iff.mp hq).1
    omega
  obtain ⟨f, hf⟩ := Classical.axiomOfChoice h
  exact ⟨(fun c => (f c).1, fun c => (f c).2), hf⟩
theorem arr_of {s : State} {args : Array Value} {ty : FieldType} (h : (Cond.arrayClass ty).before args s = true) (hno : ∀ C, ty ≠ .object C) : ∃ cA, ArrOfT s cA ty ∧ va_RA s cA ty := by
  obtain ⟨cA, kA, comp, h1, h2, h3⟩ := Cond.arrayClass_spec h
  refine ⟨cA, fun N z => ⟨(fun k h => by cases h), kA, h2, comp, h3⟩, ?_⟩
  cases ty with
  | object C => exact absurd rfl (hno C)
  | _ => exact h1
theorem arro_of {s : State} {args : Array Value} {C : String} (h : (Cond.arrayOver (.object C)).before args s = true) : ∃ cA, ArrOfT s cA (.object C) ∧ va_RA s cA (.object C) := by
  obtain ⟨comp, cA, kA, hcomp, hidx, hk, hkind, hname⟩ := Cond.arrayOver_spec h
  exact ⟨cA, fun N z => ⟨(fun k h => by cases h), kA, hk, comp, hkind⟩, kA, comp, hk, hkind, hcomp, hname⟩
def tS : Term := Term.string "OathWalls$Tape" 19
def tV : Term := Term.field tS "java/lang/String" "value" "[B"
theorem fl_drop : (flatC (Jvm.Cond.and given_1 narrow_1)).drop 58 = (List.range 232).map (fun j => Cond.eq (.elem tV (.int (Int32.ofNat j))) (.int (mWb.getD j 0))) := by decide +kernel
theorem fl_el (j : Nat) (hj : j < 232) : Cond.eq (.elem tV (.int (Int32.ofNat j))) (.int (mWb.getD j 0)) ∈ flatC (Jvm.Cond.and given_1 narrow_1) := by
  have h1 : ((flatC (Jvm.Cond.and given_1 narrow_1)).drop 58)[j]? = some (Cond.eq (.elem tV (.int (Int32.ofNat j))) (.int (mWb.getD j 0))) := by
    rw [fl_drop, List.getElem?_map, List.getElem?_range hj]; rfl
  exact List.mem_of_mem_drop (List.mem_of_getElem? h1)
theorem mK_of {s : State} {b L : Nat} {xs : Nat → Int32} (l : Launch) (hts : ∀ w ∈ lw_tbl, w.before #[Value.ref b] s = true) (hX : va_X b L xs s s.heap) (hb : b < s.heap.size) (hg : (Jvm.Cond.and given_1 narrow_1).before #[Value.ref b] s = true) : ∃ (D : va_G) (aC : Nat → ClassId) (sA : Nat), mK (l, s.heap.size, D, aC, b, L, xs, sA) s := by
  have htm : ∀ w ∈ mGood, w.before #[Value.ref b] s = true := fun w hw => hts w (mGood_of hw).1
  have hs := flat_of_before _ hg
  obtain ⟨D, hD⟩ := kn_of htm
  obtain ⟨a0, h0⟩ := arr_of (htm _ ac_int) (fun C h => by cases h)
  obtain ⟨a1, h1⟩ := arr_of (htm _ ac_long) (fun C h => by cases h)
  obtain ⟨a2, h2⟩ := arr_of (htm _ ac_byte) (fun C h => by cases h)
  obtain ⟨a3, h3⟩ := arr_of (htm _ ac_boolean) (fun C h => by cases h)
  have o4 := hts _ (tb3 48 (w := .arrayOver (.object "OathWalls$Moment")) rfl)
  have o5 := hts _ (tb3 95 (w := .arrayOver (.object "OathWalls$Told")) rfl)
  obtain ⟨a4, h4⟩ := arro_of o4
  obtain ⟨a5, h5⟩ := arro_of o5
  have hA : ∀ a : Nat, a < s.heap.size → ¬ (fun q : Nat => s.heap.size ≤ q) a := fun a h => Nat.not_le.mpr h
  obtain ⟨adK, adV, hVS, hev⟩ := vk_Sof (args := #[Value.ref b]) (s := s) (N := 1) (tm := fun _ => tS) (len := [232]) (byt := [mWb]) (A := fun q => s.heap.size ≤ q)
    (fun i hi => by rw [show i = 0 by omega]; decide) (fun i hi => hs _ (by decide +kernel)) (fun i hi => hs _ (by decide +kernel)) (fun i hi => hs _ (by decide +kernel)) (fun i hi => by rw [show i = 0 by omega]; exact hs _ (by decide +kernel))
    (fun i hi j hj => by
      rw [show i = 0 by omega] at hj ⊢
      exact hs _ (fl_el j hj))
    (fun i j hi hj hij => by omega) hA
  refine ⟨D, fun k => if k = 0 then a0 else if k = 1 then a1 else if k = 2 then a2 else if k = 3 then a3 else if k = 4 then a4 else a5, adK 0, ⟨hD, fun k q hq => ?_⟩, hX, hb, fun q hq => ?_, va_AO.of o4, va_AO.of o5, ⟨?_, ⟨adV 0, ⟨fun i hi => ?_, fun i j hi hj _ => by omega⟩⟩, ?_, ?_, ?_, ?_⟩⟩
  · match k, hq with
    | 0, hq => cases Option.some.inj hq; exact h0
    | 1, hq => cases Option.some.inj hq; exact h1
    | 2, hq => cases Option.some.inj hq; exact h2
    | 3, hq => cases Option.some.inj hq; exact h3
    | 4, hq => cases Option.some.inj hq; exact h4
    | 5, hq => cases Option.some.inj hq; exact h5
    | k + 6, hq => exact absurd (List.getElem?_eq_some_iff.mp hq).1 (by show ¬ k + 6 < 6; omega)
  · simp only [mNest, List.mem_cons, List.not_mem_nil, or_false] at hq
    rcases hq with rfl | rfl | rfl | rfl | rfl | rfl | rfl
    · exact va_Nw.of rfl (hts _ (tb1 35 rfl))
    · exact va_Nw.of rfl (hts _ (tb1 41 rfl))
    · exact va_Nw.of rfl (hts _ (tb1 194 rfl))
    · exact va_Nw.of rfl (hts _ (tb2 129 rfl))
    · exact va_Nw.of rfl (hts _ (tb2 184 rfl))
    · exact va_Nw.of rfl (hts _ (tb3 47 rfl))
    · exact va_Nw.of rfl (hts _ (tb3 94 rfl))
  · have h9 := hts _ (tb1 231 (w := .stringRef "OathWalls$Tape" 19 mWd) rfl)
    exact vk_R.of h9 (hev 0 (by decide))
  · rw [show i = 0 by omega]; exact hVS.1 0 (by decide)
  · exact va_Zof (hts _ (tb2 1 rfl)) (htm _ (mG1 6 rfl rfl)) (va_eqi (hs _ (by decide +kernel))) hA
  · exact va_Zqof (hts _ (tb2 9 rfl)) (htm _ (mG1 8 rfl rfl)) (hs _ (by decide +kernel)) hA
  · exact vx_Zqof (hts _ (tb6 31 rfl)) (htm _ (mG1 21 rfl rfl)) (hs _ (by decide +kernel)) hA
  · exact vx_Zqof (hts _ (tb6 33 rfl)) (htm _ (mG1 21 rfl rfl)) (hs _ (by decide +kernel)) hA
theorem NW_of {s : State} {args : Array Value} (hts : ∀ w ∈ lw_tbl, w.before args s = true) : NW s := by
  intro w hw
  simp only [xNs, List.mem_cons, List.not_mem_nil, or_false] at hw
  rcases hw with rfl | rfl | rfl | rfl
  · exact va_Nw.of rfl (hts _ (tb6 7 rfl))
  · exact va_Nw.of rfl (hts _ (tb6 9 rfl))
  · exact va_Nw.of rfl (hts _ (tb6 11 rfl))
  · exact va_Nw.of rfl (hts _ (tb6 6 rfl))
theorem nL_8 : mNW "OathWallsLaw" 8 11 := ⟨_, _, _, _, cf_11, (mG1 25 rfl rfl), (mG1 26 rfl rfl), (mG1 1 rfl rfl)⟩
theorem nL_16 : mNW "OathWallsLaw" 16 12 := ⟨_, _, _, _, cf_12, (mG6 67 rfl rfl), (mG6 68 rfl rfl), (mG1 17 rfl rfl)⟩
theorem ii_X11_init : Cond.instanceMethod yX11_init ∈ mGood ∧ yX11_init.name = "<init>" := ⟨(mG1 28 rfl rfl), rfl⟩
theorem ii_X12_init : Cond.instanceMethod yX12_init ∈ mGood ∧ yX12_init.name = "<init>" := ⟨(mG6 70 rfl rfl), rfl⟩
theorem law_all {G : mg} (hst : (gl G).stackTraces = false) (hL : gL G ≤ 3584) : LW G rdC room_1 YL ZL 0 0 0 0 [some (vR 0 0), none, none, none, none, none, none] [] mz := by
  refine g_new (k := 12) (n := 0) (t0 := 0) (N := 18) (iRow iCL_law_0 0 rfl) nL_8 rfl ko_12 rfl rfl rfl ⟨(by show 0 + 1 ≤ 601024; omega), (by show 0 + 18 ≤ 7293034; omega)⟩ ?_
  refine g_dup (iRow iCL_law_0 1 rfl) rfl ?_
  refine g_callI (As := []) (r := none) (iRow iCL_law_0 2 rfl) lL_15 ii_X11_init rfl rfl (j_X11_init_t1 0 mIa_ok) ⟨by show 0 + 7 + 1 ≤ 2048; decide, by show 8 + (2 + 11) + 40 * (0 + 7) ≤ 84000; decide⟩ (Nat.le_of_ble_eq_true rfl) ⟨(by show 0 + 1 + 118 ≤ 601024; omega), (by show 0 + 18 + 7180 ≤ 7293034; omega)⟩ (mAl_some rfl rfl rfl) (by decide) ?_
  refine g_astore_n (ls' := [some (vR 0 0), some (vR 12 0), none, none, none, none, none]) (iRow iCL_law_0 3 rfl) rfl (by decide) rfl ?_
  refine g_new (k := 13) (n := 0) (t0 := 0) (N := 65) (iRow iCL_law_0 4 rfl) nL_16 rfl ko_13 rfl rfl rfl ⟨(by show 0 + 1 + 118 + 1 ≤ 601024; omega), (by show 0 + 18 + 7180 + 65 ≤ 7293034; omega)⟩ ?_
  refine g_dup (iRow iCL_law_0 5 rfl) rfl ?_
  refine g_callI (As := []) (r := none) (iRow iCL_law_0 6 rfl) lL_18 ii_X12_init rfl rfl (j_X12_init_t120 0 mIb_ok) ⟨by show 0 + 1 + 1 ≤ 2048; decide, by show 8 + (1 + 11) + 40 * (0 + 1) ≤ 84000; decide⟩ (Nat.le_of_ble_eq_true rfl) ⟨(by show 0 + 1 + 118 + 1 + 47 ≤ 601024; omega), (by show 0 + 18 + 7180 + 65 + 5113 ≤ 7293034; omega)⟩ (mAl_some rfl rfl rfl) (by decide) ?_
  refine g_astore_n (ls' := [some (vR 0 0), some (vR 12 0), some (vR 13 0), none, none, none, none]) (iRow iCL_law_0 7 rfl) rfl (by decide) rfl ?_
  refine g_iconst (v := 1) (iRow iCL_law_0 8 rfl) kc_1 ?_
  refine g_newl (k := 110) (n := 0) (t0 := 0) (len := 1) (iRow iCL_law_0 9 rfl) ac_long kn_110 ka_110 (by decide) (by decide +kernel) rfl rfl rfl ⟨(by show 0 + 1 + 118 + 1 + 47 + 1 ≤ 601024; omega), (by show 0 + 18 + 7180 + 65 + 5113 + 1 ≤ 7293034; omega)⟩ ?_
  refine g_astore_n (ls' := [some (vR 0 0), some (vR 12 0), some (vR 13 0), some (vR 110 0), none, none, none]) (iRow iCL_law_0 10 rfl) rfl (by decide) rfl ?_
  refine g_sw mIc_sw ?_
  refine g_iconst (v := 0) (iRow iCL_law_0 11 rfl) rfl ?_
  refine g_istore (ls' := lsL (7 * 0)) (iRow iCL_law_0 12 rfl) (by decide) rfl ?_
  exact law_loop hst hL (gL G) 0 A00 ([], []) mI0 168 12377 (by omega) (by omega) INV00 (by omega) (by omega)
/-- what holds at the law's entry -/
def lw_At (p : Program) (s : State) (m : MethodId) (meth : Method) (c : Code) (b L : Nat) (xs : Nat → Int32) : Prop :=
  p.tables.exec = Jvm.exec ∧ c.code = code ∧ meth.sig.returnType = ret ∧ c.maxLocals = 7 ∧ s.vm.findClass R_law = some m.cls ∧ (∀ w ∈ lw_tbl, w.before #[Value.ref b] s = true) ∧ va_X b L xs s s.heap ∧ b < s.heap.size ∧ meth.locks = false ∧ (Jvm.Cond.and given_1 narrow_1).before #[Value.ref b] s = true ∧ meth.name = "law" ∧ ∀ x ∈ c.exceptionTable.toList, False
theorem whole_start {p : Program} {e : Env} {s : State} {m : MethodId} {below : List Frame} {meth : Method} {c : Code} (l : Launch) (hflags : l.flags = flags0) {b L : Nat} {xs : Nat → Int32} (hL : L ≤ 3584) (C0 : lw_At p s m meth c b L xs) : W p l e room_1 s m #[Value.ref b] below meth c s.heap [] 0 0 (lw_Z below #[Value.ref b] s) (entryFrame m ([Value.ref b] : List Value).toArray 7) := by
  obtain ⟨hx, hb, hr, hml, hown, hts, hX, hbl, hlocks, hgv, hnm, htb⟩ := C0
  have hst : l.stackTraces = false := by unfold Launch.stackTraces; rw [hflags]; decide +kernel
  obtain ⟨D, aC, sA, hK⟩ := mK_of l hts hX hbl hgv
  refine W_un (NW_of hts) ?_
  rw [lg_entry_eq]
  have hl := lv_entry ([.ref b]) (n := 7) (Nat.le_of_ble_eq_true rfl)
  refine law_all (G := (l, s.heap.size, D, aC, b, L, xs, sA)) hst hL p e s m _ below meth c ⟨hx, hb, hr, hml, hown, fun w hw => hts w (mGood_of hw).1, hlocks, hnm, hK, Nat.le_refl _, fun tp h => by cases h; rfl, htb⟩ s.heap [] _ ⟨fun k q h => ?_, trivial, Nat.zero_le _, fun k n j h => absurd h (Nat.not_lt_zero _)⟩ va_S.rf ⟨hl.1, hl.2.1, fun i v hi => ?_⟩ ⟨fun v hv => (by cases hv), fun v hv => ?_⟩
  · have h1 := (mW_some h).1; omega
  · match i, hi with
    | 0, hi => cases Option.some.inj (Option.some.inj hi); exact lv_at hl 0 rfl
    | 1, hi => cases Option.some.inj hi
    | 2, hi => cases Option.some.inj hi
    | 3, hi => cases Option.some.inj hi
    | 4, hi => cases Option.some.inj hi
    | 5, hi => cases Option.some.inj hi
    | 6, hi => cases Option.some.inj hi
    | i + 7, hi => exact absurd (List.getElem?_eq_some_iff.mp hi).1 (by show ¬ i + 7 < 7; omega)
  · simp only [List.mem_cons, List.not_mem_nil, or_false, reduceCtorEq] at hv
    cases Option.some.inj hv
    exact Or.inl rfl
