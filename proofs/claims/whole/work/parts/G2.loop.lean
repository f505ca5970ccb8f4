/-! THE LAW: its end, gains, its loop -/
def R_law : String := "OathWallsLaw"
def lw_P (b : Addr) (xs : List Int32) (args : Array Value) (s : State) : Prop := args = #[.ref b] ∧ s.IntsAt b xs ∧ xs.length ≤ 3584 ∧ (Jvm.Cond.and given_1 narrow_1).before args s = true
def lw_Q (_ : Array Value) (s : State) (o : Outcome) (t : State) : Prop := o = .returned (some (.int 1)) ∧ Framed s o t [] 601024 7293034
def lw_Z (below : List Frame) (a : Array Value) (s : State) : State → Prop := fun t => ∃ o, t.status = .running ∧ Ended t below o ∧ lw_Q a s o t
theorem lw_ret {p : Program} {l : Launch} {e : Env} {s : State} {m : MethodId} {args : Array Value} {below : List Frame} {meth : Method} {c : Code} (hx : p.tables.exec = Jvm.exec) (hb : c.code = code) (hr : meth.sig.returnType = ret) (hlocks : meth.locks = false) {pc : Nat} {H : Heap} {ls : Array Slot} (hdg : decode code pc = .ok (.ireturn, 1)) : W p l e room_1 s m args below meth c H [] 601024 7293034 (lw_Z below args s) (F0 m pc ls [.int 1]) := by
  intro T hT X
  obtain ⟨fs, hret, hrun, hended, hW, hframe⟩ := X.leave (v := some (.int 1)) (hlocks := hlocks) (fun h => by rw [hr] at h; cases h)
  have hmeth' : T.vm.method? m = some meth := X.method'
  refine ⟨T.setFrames fs, ?_, .returned (some (.int 1)), hrun, hended, rfl, ⟨_, rfl⟩, hW, hframe⟩
  jvm_step X.here [X.here.top, hx, hb, hdg, hmeth', hr, ret, narrow_b1]
  (try refine ⟨rfl, ?_⟩); (try refine ⟨rfl, ?_⟩)
  first | (intro acts; rw [hret _ acts rfl rfl rfl]) | rw [hret _ _ rfl rfl rfl]
  exact Steps.refl _
abbrev ZL : mZ := fun below args s t => NW s → lw_Z below args s t
section LG
variable {G : mg} {cells slots i : Nat} {M : mm}
theorem lw_end {ls : List (Option mv)} (hc : cells ≤ 601024 ∧ slots ≤ 7293034) : LWL G ZL cells slots 1073 ls [] M := by
  refine g_iconst (v := 1) (iRow iCL_law_27 7 rfl) rfl ?_
  intro p e s m args below meth c F H lo la hH hS hL hO
  refine W_if (fun _ => ?_)
  refine va_forget (fun q hq => ?_) (W.widen hc.1 hc.2 (lw_ret F.1 F.2.1 F.2.2.1 F.2.2.2.2.2.2.1 (iRow iCL_law_27 8 rfl).1))
  have h1 := F.2.2.2.2.2.2.2.2.2.2.1 0 rfl
  have h2 : g0 G ≤ q.base := hS.2.2 q hq
  omega
/-- the law's call of its own 'gains' -/
theorem lw_gains {ls : List (Option mv)} {M' : mm} {a b k : Int32} (hc : cells + 1 ≤ 601024 ∧ slots + 6 ≤ 7293034) (hC : Met (gl G) yL_gains (.codeWith yL_gains cL_gains 5 (some .int) hhG :: mGood) (mRm (0 + 7) 1 6) (PGx G [vR 12 0, vI a, vI b, vR 110 0] M) (mQc G rdM mT (some (vI k)) M') 1 6 (mA G))
    (kk : LWL G ZL (cells + 1) (slots + 6) 889 ls [vI k] M') : LWL G ZL cells slots 886 ls [vR 110 0, vI b, vI a, vR 12 0] M := by
  intro p e s m args below meth c F H lo la hH hS hL hO
  refine W_if (fun hn => ?_)
  have hts := F.2.2.2.2.2.1
  have hcw : Cond.codeWith yL_gains cL_gains 5 (some .int) hhG ∈ mGood := mG5 238 rfl rfl
  have hg := F.2.2.2.2.2.2.2.2.2.1
  have hrun := vx_runSW (p := p) (l := gl G) (e := e) (below := below) (meth := meth) (R := room_1) (H := H) (cells := cells) (slots := slots) (locs := lo) (g := F0 m 886 la [.ref (adr G 110 0), .int b, .int a, .ref (adr G 12 0)]) (rest := []) (As := [vR 12 0, vI a, vI b, vR 110 0].map (rv G)) (own := "OathWallsLaw") (index := 115) (n := 4) ⟨F.1, F.2.1, F.2.2.2.1, F.2.2.2.2.1, hts⟩ hC
    ⟨⟨rfl, rfl, by show 0 + 7 + 1 ≤ 2048; decide, by show 8 + (5 + 11) + 40 * (0 + 7) ≤ 84000; decide, fun w hw a' U hW => by
        rcases List.mem_cons.mp hw with rfl | hw
        · exact word_at hW (mGood_of hcw).2 (hts _ hcw)
        · exact word_at hW (mGood_of hw).2 (hts _ hw), List.mem_cons_self⟩, hts _ hcw, hts _ (mG1 0 rfl rfl), ⟨by decide +kernel, by decide +kernel⟩, fun sig h => by
        have h2 : (parseMethodDescriptor yL_gains.desc).map (fun d => d.parameters.length) = some 4 := by decide +kernel
        rw [h] at h2; exact (Option.some.inj h2).symm, hts _ (mG5 236 rfl rfl), hts _ (mG5 237 rfl rfl)⟩
    ⟨PGx_blind G _ M, fun U hU hW => ⟨⟨rfl, mK_call F.2.2.2.2.2.2.2.2.1 hg hS hU hW, by rw [hU]; exact hH, by rw [hU]; exact Nat.le_trans hg hS.1, fun _ h => by cases h⟩, NW.warm hW hn⟩⟩ rfl rfl hL.1 rfl (lv_room (Nat.zero_le _)) (iRow iCL_law_22 3 rfl).1 hc
  intro T hT X
  have hrun' : CallRun p (gl G) e room_1 s m args below meth c H lo cells slots 1 6 (F0 m 886 la [.ref (adr G 110 0), .int b, .int a, .ref (adr G 12 0)]) (([] : List mv).map (rv G)) (mQc G rdM mT (some (vI k)) M' ([vR 12 0, vI a, vI b, vR 110 0].map (rv G)).toArray) (mA G) :=
    fun T hT X => by obtain ⟨v, st₀, t, T', L, a, b, c, d, _, e, f⟩ := hrun T hT X; exact ⟨v, st₀, t, T', L, a, b, c, d, e, f⟩
  obtain ⟨t, a1, b1⟩ := g_after (Z := ZL) (rest := []) F hH hS hL ⟨fun v h => (by cases h), hO.2⟩ (Nat.le_refl _) hrun' hT X kk
  exact ⟨t, a1, b1 hn⟩
abbrev lsG (i : Nat) (k b : Int32) : List (Option mv) := [some (vR 0 0), some (vR 12 0), some (vR 13 0), some (vR 110 0), some (vI (nI i)), some (vI k), some (vI b)]
theorem lcmp_self (x : Int64) : lg_cmp x x = 0 := by
  unfold lg_cmp
  rw [if_neg (by simp), if_pos rfl]
/-- what stands behind the class's answer: the reference's, and the comparisons -/
theorem lw_22b {k x : Int32} {M2 : mm} (hL : gL G ≤ 3584) (hi : i + 7 ≤ gL G) (hc : cells ≤ 601000 ∧ slots ≤ 7290000) (e2 : m_X12_gains 5000 (gx G (i + 1)) (gx G (i + 2)) M = some (x, M2)) (ht : M2.1 13 0 0 = k) (hk : k = 0 → M2.2.1 110 0 0 = x.toInt64) (K : LWL G ZL cells slots 1067 (lsL i) [] M2) : LWL G ZL cells slots 889 (lsL i) [vI k] M := by
  refine g_istore (ls' := [some (vR 0 0), some (vR 12 0), some (vR 13 0), some (vR 110 0), some (vI (nI i)), some (vI k), none]) (iRow iCL_law_22 4 rfl) (by decide) rfl ?_
  refine g_aload_n (iRow iCL_law_22 5 rfl) rfl rfl ?_
  refine lw_arg (q := 1) (q' := 1) hL (by omega) rfl rfl rfl (iRow iCL_law_22 6 rfl) (iRow iCL_law_22 7 rfl) (iRow iCL_law_22 8 rfl) (iRow iCL_law_22 9 rfl) (iRow iCL_law_22 10 rfl) ?_
  refine lw_arg (q := 2) (q' := 2) hL (by omega) rfl rfl rfl (iRow iCL_law_22 11 rfl) (iRow iCL_law_22 12 rfl) (iRow iCL_law_22 13 rfl) (iRow iCL_law_22 14 rfl) (iRow iCL_law_22 15 rfl) ?_
  refine g_callV (k := 13) (n := 0) (As := [vI (gx G (i + 1)), vI (gx G (i + 2))]) (rest := []) (r := some (vI x)) (mc := 0) (ms := 0) (top' := mT) (iRow iCL_law_22 16 rfl) lL_120 iX12_gains ko_13 rfl rfl rfl rfl (t_X12_gains 0 e2) ⟨by show 0 + 8 + 1 ≤ 2048; decide, by show 8 + (3 + 11) + 40 * (0 + 8) ≤ 84000; decide⟩ (Nat.le_of_ble_eq_true rfl) ⟨by show _ ≤ 601024; omega, by show _ ≤ 7293034; omega⟩ mAl_none (Nat.le_refl _) ?_
  refine g_istore (ls' := lsG i k x) (iRow iCL_law_22 17 rfl) (by decide) rfl ?_
  refine g_aload_n (iRow iCL_law_22 18 rfl) rfl rfl ?_
  refine g_callV (k := 13) (n := 0) (As := []) (rest := []) (r := some (vI k)) (M' := M2) (mc := 0) (ms := 0) (top' := mT) (iRow iCL_law_22 19 rfl) lL_121 iX12_thrown ko_13 rfl rfl rfl rfl (t_X12_thrown (F := 5000) 0 (by unfold m_X12_thrown; rw [ht])) ⟨by show 0 + 0 + 1 ≤ 2048; decide, by show 8 + (1 + 11) + 40 * (0 + 0) ≤ 84000; decide⟩ (Nat.le_of_ble_eq_true rfl) ⟨by show _ ≤ 601024; omega, by show _ ≤ 7293034; omega⟩ mAl_none (Nat.le_refl _) ?_
  refine g_iload (iRow iCL_law_22 20 rfl) rfl ?_
  refine g_icmp_eq (tgt := 920) (iRow iCL_law_22 21 rfl) (by decide) (fun _ => ?_) (fun hx => absurd rfl hx)
  refine g_iload (iRow iCL_law_23 0 rfl) rfl ?_
  have hgo : LWL G ZL cells slots 937 (lsG i k x) [] M2 := by
    refine g_goto (tgt := 1067) (iRow iCL_law_23 11 rfl) (by decide) ?_
    refine g_keep [true, true, true, true, true, false, false] rfl ?_
    exact K
  refine g_if_ne (tgt := 937) (iRow iCL_law_23 1 rfl) (by decide) (fun _ => hgo) (fun hz => ?_)
  refine g_aload_n (iRow iCL_law_23 2 rfl) rfl rfl ?_
  refine g_iconst (v := 0) (iRow iCL_law_23 3 rfl) rfl ?_
  refine g_lald (iRow iCL_law_23 4 rfl) (k := 110) (len := 1) rfl rfl (vp_of (by decide)) ?_
  refine g_iload (iRow iCL_law_23 5 rfl) rfl ?_
  refine g_i2l (iRow iCL_law_23 6 rfl) ?_
  refine g_lcmp (iRow iCL_law_23 7 rfl) ?_
  refine g_if_eq (tgt := 937) (iRow iCL_law_23 8 rfl) (by decide) (fun _ => hgo) (fun hx => absurd ?_ hx)
  rw [show (0 : Int32).toNatClampNeg = 0 from rfl, hk hz]
  exact lcmp_self _
theorem gOut_C {A : sty} {Q : nmt} {N : Nat} {a b : Int32} (h : INV A Q N M) : (gOut (aC A) a b → gOutC a b M) := by
  intro g
  obtain ⟨o, d, hod, h2, h3, h4, h5, h6⟩ := h.2.2.1.1
  have hP := h5.1.1.1.1
  have hle := h.1.1.1.1
  unfold gOut at g
  unfold gOutC
  rw [h2, hP, sh_pow _ (show cP (aC A) ≤ 10 by omega)]
  rcases g with g | g | g
  · by_cases q : 0 ≤ a
    · refine Or.inr (Or.inl ?_)
      by_cases q2 : nI (cP (aC A)) ≤ a
      · exact q2
      · exact absurd ⟨q, Int32.not_le.mp q2⟩ g
    · exact Or.inl (Int32.not_le.mp q)
  · exact Or.inr (Or.inr (Or.inl g))
  · exact Or.inr (Or.inr (Or.inr (Int32.not_lt.mpr g)))
theorem law_22 {A : sty} {Q : nmt} {N : Nat} (hst : (gl G).stackTraces = false) (hL : gL G ≤ 3584) (hi : i + 7 ≤ gL G) (hc : cells + 1 ≤ 601000 ∧ slots + 6 ≤ 7290000) (hN : N ≤ 1000) (h : INV A Q N M) (K : ∀ A' Q' M', INV A' Q' (N + 1) M' → LWL G ZL (cells + 1) (slots + 6) 1067 (lsL i) [] M') : LWL G ZL cells slots 872 (lsL i) [] M := by
  refine g_aload_n (iRow iCL_law_21 15 rfl) rfl rfl ?_
  refine lw_arg (q := 1) (q' := 1) hL (by omega) rfl rfl rfl (iRow iCL_law_21 16 rfl) (iRow iCL_law_21 17 rfl) (iRow iCL_law_21 18 rfl) (iRow iCL_law_21 19 rfl) (iRow iCL_law_21 20 rfl) ?_
  refine lw_arg (q := 2) (q' := 2) hL (by omega) rfl rfl rfl (iRow iCL_law_21 21 rfl) (iRow iCL_law_21 22 rfl) (iRow iCL_law_21 23 rfl) (iRow iCL_law_22 0 rfl) (iRow iCL_law_22 1 rfl) ?_
  refine g_aload_n (iRow iCL_law_22 2 rfl) rfl rfl ?_
  by_cases hg : gOut (aC A) (gx G (i + 1)) (gx G (i + 2))
  · obtain ⟨M2, e2, t2, h'⟩ := gainsOut (F := 5000) (gx G (i + 1)) (gx G (i + 2)) h hg
    exact lw_gains ⟨by omega, by omega⟩ (c_Lgains (F := 5000) (k := 1) (M' := M) 0 hst (Or.inl ⟨gOut_C h hg, rfl, rfl⟩)) (lw_22b hL hi hc e2 t2 (fun q => absurd q (by decide)) (K A Q M2 h'))
  · obtain ⟨x, M1, e1, M2, A', Q', e2, t2, o2, h'⟩ := pr_gains hN (gx G (i + 1)) (gx G (i + 2)) h hg
    exact lw_gains ⟨by omega, by omega⟩ (c_Lgains (F := 5000) (k := 0) 0 hst (Or.inr ⟨x, M1, e1, rfl, rfl⟩)) (lw_22b hL hi hc e2 t2 (fun _ => o2) (K A' Q' M2 h'))
theorem INV_up {A : sty} {Q : nmt} {N : Nat} (h : INV A Q N M) : INV A Q (N + 1) M := ⟨AOK_up h.1, h.2.1, ⟨RC_up h.2.2.1.1, h.2.2.1.2⟩, h.2.2.2⟩
theorem lw_sw {j : Nat} (hj : j < 26) {off : Int} {tgt : Nat} (ho : (#[120, 267, 280, 293, 330, 367, 404, 429, 454, 479, 504, 517, 542, 555, 580, 605, 630, 667, 680, 717, 770, 807, 832, 900, 949, 1002] : Array Int)[j]? = some off) (ht : ((40 : Nat) : Int) + off = (tgt : Int)) (k : LWL G ZL cells slots tgt (lsL i) [] M) : LWL G ZL cells slots 40 (lsL i) [vI (nI j)] M := by
  refine g_tableIn (iRow iCL_law_1 0 rfl) (by rw [nI_toInt (by omega)]; omega) (by rw [nI_toInt (by omega)]; omega) ?_ ht k
  rw [nI_toInt (by omega)]
  rw [show ((j : Int) - 0).toNat = j by omega]
  exact ho
theorem lw_out {j : Nat} (hj : 26 ≤ j) (hj2 : j < 32) (k : LWL G ZL cells slots 1067 (lsL i) [] M) : LWL G ZL cells slots 40 (lsL i) [vI (nI j)] M :=
  g_tableOut (iRow iCL_law_1 0 rfl) (Or.inr (by rw [nI_toInt (by omega)]; omega)) (by decide) k
theorem law_step {A : sty} {Q : nmt} {N : Nat} (hst : (gl G).stackTraces = false) (hL : gL G ≤ 3584) (hi : i + 7 ≤ gL G) (hc : cells + 1 ≤ 601000 ∧ slots + 6 ≤ 7290000) (hN : N ≤ 1000) (h : INV A Q N M) (K : ∀ c s A' Q' M', c ≤ cells + 1 → s ≤ slots + 6 → INV A' Q' (N + 1) M' → LWL G ZL c s 1067 (lsL i) [] M') {j : Nat} (hj : j < 32) : LWL G ZL cells slots 40 (lsL i) [vI (nI j)] M := by
  have hc' : cells ≤ 601000 ∧ slots ≤ 7290000 := ⟨by omega, by omega⟩
  have K0 : ∀ A' Q' M', INV A' Q' (N + 1) M' → LWL G ZL cells slots 1067 (lsL i) [] M' := fun A' Q' M' h' => K cells slots A' Q' M' (by omega) (by omega) h'
  by_cases e0 : j = 0
  · rw [e0]; exact lw_sw (off := 120) (tgt := 160) (by decide) rfl (by decide) (law_0 hL hi hc' hN h K0)
  by_cases e1 : j = 1
  · rw [e1]; exact lw_sw (off := 267) (tgt := 307) (by decide) rfl (by decide) (law_1 hL hi hc' hN h K0)
  by_cases e2 : j = 2
  · rw [e2]; exact lw_sw (off := 280) (tgt := 320) (by decide) rfl (by decide) (law_2 hL hi hc' hN h K0)
  by_cases e3 : j = 3
  · rw [e3]; exact lw_sw (off := 293) (tgt := 333) (by decide) rfl (by decide) (law_3 hL hi hc' hN h K0)
  by_cases e4 : j = 4
  · rw [e4]; exact lw_sw (off := 330) (tgt := 370) (by decide) rfl (by decide) (law_4 hL hi hc' hN h K0)
  by_cases e5 : j = 5
  · rw [e5]; exact lw_sw (off := 367) (tgt := 407) (by decide) rfl (by decide) (law_5 hL hi hc' hN h K0)
  by_cases e6 : j = 6
  · rw [e6]; exact lw_sw (off := 404) (tgt := 444) (by decide) rfl (by decide) (law_6 hL hi hc' hN h K0)
  by_cases e7 : j = 7
  · rw [e7]; exact lw_sw (off := 429) (tgt := 469) (by decide) rfl (by decide) (law_7 hL hi hc' hN h K0)
  by_cases e8 : j = 8
  · rw [e8]; exact lw_sw (off := 454) (tgt := 494) (by decide) rfl (by decide) (law_8 hL hi hc' hN h K0)
  by_cases e9 : j = 9
  · rw [e9]; exact lw_sw (off := 479) (tgt := 519) (by decide) rfl (by decide) (law_9 hL hi hc' hN h K0)
  by_cases e10 : j = 10
  · rw [e10]; exact lw_sw (off := 504) (tgt := 544) (by decide) rfl (by decide) (law_10 hL hi hc' hN h K0)
  by_cases e11 : j = 11
  · rw [e11]; exact lw_sw (off := 517) (tgt := 557) (by decide) rfl (by decide) (law_11 hL hi hc' hN h K0)
  by_cases e12 : j = 12
  · rw [e12]; exact lw_sw (off := 542) (tgt := 582) (by decide) rfl (by decide) (law_12 hL hi hc' hN h K0)
  by_cases e13 : j = 13
  · rw [e13]; exact lw_sw (off := 555) (tgt := 595) (by decide) rfl (by decide) (law_13 hL hi hc' hN h K0)
  by_cases e14 : j = 14
  · rw [e14]; exact lw_sw (off := 580) (tgt := 620) (by decide) rfl (by decide) (law_14 hL hi hc' hN h K0)
  by_cases e15 : j = 15
  · rw [e15]; exact lw_sw (off := 605) (tgt := 645) (by decide) rfl (by decide) (law_15 hL hi hc' hN h K0)
  by_cases e16 : j = 16
  · rw [e16]; exact lw_sw (off := 630) (tgt := 670) (by decide) rfl (by decide) (law_16 hL hi hc' hN h K0)
  by_cases e17 : j = 17
  · rw [e17]; exact lw_sw (off := 667) (tgt := 707) (by decide) rfl (by decide) (law_17 hL hi hc' hN h K0)
  by_cases e18 : j = 18
  · rw [e18]; exact lw_sw (off := 680) (tgt := 720) (by decide) rfl (by decide) (law_18 hL hi hc' hN h K0)
  by_cases e19 : j = 19
  · rw [e19]; exact lw_sw (off := 717) (tgt := 757) (by decide) rfl (by decide) (law_19 hL hi hc' hN h K0)
  by_cases e20 : j = 20
  · rw [e20]; exact lw_sw (off := 770) (tgt := 810) (by decide) rfl (by decide) (law_20 hL hi hc' hN h K0)
  by_cases e21 : j = 21
  · rw [e21]; exact lw_sw (off := 807) (tgt := 847) (by decide) rfl (by decide) (law_21 hL hi hc' hN h K0)
  by_cases e22 : j = 22
  · rw [e22]; exact lw_sw (off := 832) (tgt := 872) (by decide) rfl (by decide) (law_22 hst hL hi hc hN h (fun A' Q' M' h' => K _ _ A' Q' M' (Nat.le_refl _) (Nat.le_refl _) h'))
  by_cases e23 : j = 23
  · rw [e23]; exact lw_sw (off := 900) (tgt := 940) (by decide) rfl (by decide) (law_23 hL hi hc' hN h K0)
  by_cases e24 : j = 24
  · rw [e24]; exact lw_sw (off := 949) (tgt := 989) (by decide) rfl (by decide) (law_24 hL hi hc' hN h K0)
  by_cases e25 : j = 25
  · rw [e25]; exact lw_sw (off := 1002) (tgt := 1042) (by decide) rfl (by decide) (law_25 hL hi hc' hN h K0)
  exact lw_out (by omega) hj (K0 A Q M (INV_up h))
theorem law_loop (hst : (gl G).stackTraces = false) (hL : gL G ≤ 3584) : ∀ (n N : Nat) (A : sty) (Q : nmt) (M : mm) (cells slots : Nat), gL G ≤ 7 * N + n → 7 * N ≤ gL G → INV A Q N M → cells ≤ 168 + N → slots ≤ 100000 + 6 * N → LWL G ZL cells slots 23 (lsL (7 * N)) [] M := by
  intro n
  induction n with
  | zero =>
    intro N A Q M cells slots h1 h2 h hc hs
    refine g_iload (iRow iCL_law_0 13 rfl) rfl ?_
    refine g_aload_n (iRow iCL_law_0 14 rfl) rfl rfl ?_
    refine g_slen (iRow iCL_law_0 15 rfl) ?_
    refine g_bipush (v := nI 7) (iRow iCL_law_0 16 rfl) rfl ?_
    refine g_isub (iRow iCL_law_0 17 rfl) ?_
    have hs7 : (Int32.ofNat (gL G) - nI 7).toInt = (gL G : Int) - 7 := by
      show (nI (gL G) - nI 7).toInt = (gL G : Int) - 7
      rw [i_sub (by rw [nI_toInt (by omega), nI_toInt (by omega)]; omega) (by rw [nI_toInt (by omega), nI_toInt (by omega)]; omega), nI_toInt (by omega), nI_toInt (by omega)]; rfl
    exact g_icmp_gt (tgt := 1073) (iRow iCL_law_0 18 rfl) (by decide) (fun _ => lw_end ⟨by omega, by omega⟩) (fun hx => absurd (i_lt.mpr (by rw [hs7, nI_toInt (by omega)]; omega)) hx)
  | succ n ih =>
    intro N A Q M cells slots h1 h2 h hc hs
    refine g_iload (iRow iCL_law_0 13 rfl) rfl ?_
    refine g_aload_n (iRow iCL_law_0 14 rfl) rfl rfl ?_
    refine g_slen (iRow iCL_law_0 15 rfl) ?_
    refine g_bipush (v := nI 7) (iRow iCL_law_0 16 rfl) rfl ?_
    refine g_isub (iRow iCL_law_0 17 rfl) ?_
    have hs7 : (Int32.ofNat (gL G) - nI 7).toInt = (gL G : Int) - 7 := by
      show (nI (gL G) - nI 7).toInt = (gL G : Int) - 7
      rw [i_sub (by rw [nI_toInt (by omega), nI_toInt (by omega)]; omega) (by rw [nI_toInt (by omega), nI_toInt (by omega)]; omega), nI_toInt (by omega), nI_toInt (by omega)]; rfl
    refine g_icmp_gt (tgt := 1073) (iRow iCL_law_0 18 rfl) (by decide) (fun _ => lw_end ⟨by omega, by omega⟩) (fun hx => ?_)
    have hi : 7 * N + 7 ≤ gL G := by
      have h3 : ¬ (Int32.ofNat (gL G) - nI 7).toInt < (nI (7 * N)).toInt := fun q => hx (i_lt.mpr q)
      rw [hs7, nI_toInt (by omega)] at h3
      omega
    refine g_aload_n (iRow iCL_law_0 19 rfl) rfl rfl ?_
    refine g_iload (iRow iCL_law_0 20 rfl) rfl ?_
    refine g_sld (iRow iCL_law_0 21 rfl) (vp_in_nI (by omega) (by omega)) ?_
    refine g_bipush (v := 31) (iRow iCL_law_0 22 rfl) rfl ?_
    refine g_iand (iRow iCL_law_0 23 rfl) ?_
    obtain ⟨j, hj, e⟩ := pk_andE (gx G (nI (7 * N)).toNatClampNeg) (m := 31) 5 (by decide)
    rw [e]
    refine law_step hst hL hi ⟨by omega, by omega⟩ (by omega) h (fun c s A' Q' M' q1 q2 h' => ?_) hj
    refine g_iinc (v := nI (7 * (N + 1))) (ls' := lsL (7 * (N + 1))) (iRow iCL_law_27 5 rfl) rfl (by rw [show 7 * (N + 1) = 7 * N + 7 by omega, ← nI_plus]; rfl) (by decide) rfl ?_
    refine g_goto (tgt := 23) (iRow iCL_law_27 6 rfl) (by decide) ?_
    exact ih (N + 1) A' Q' M' c s (by omega) (by omega) h' (by omega) (by omega)
end LG
