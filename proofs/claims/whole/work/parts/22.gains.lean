/-! GAINS out of range: the class throws, the law's own method catches -/
def xNs : List Cond := [.declares (Bundle.init0 "java/lang/RuntimeException"), .declares (Bundle.init0 "java/lang/Exception"), .declares (Bundle.init0 "java/lang/Throwable"), .castable "java/util/NoSuchElementException" "java/util/NoSuchElementException"]
def NW (U : State) : Prop := ∀ w ∈ xNs, va_Nw w U
theorem NW.warm {s U : State} (hW : s.WarmedH U.vm) (h : NW s) : NW U := by
  intro w hw
  have h1 := h w hw
  simp only [xNs, List.mem_cons, List.not_mem_nil, or_false] at hw
  rcases hw with rfl | rfl | rfl | rfl
  · exact va_Nw.warmD hW h1
  · exact va_Nw.warmD hW h1
  · exact va_Nw.warmD hW h1
  · exact va_Nw.warmC hW h1
theorem NW.same {u U : State} (hv : u.vm = U.vm) (h : NW u) : NW U := by
  intro w hw
  have h1 := h w hw
  simp only [xNs, List.mem_cons, List.not_mem_nil, or_false] at hw
  rcases hw with rfl | rfl | rfl | rfl <;> exact va_Nw.same rfl hv h1
theorem NW.use {s : State} {args : Array Value} (h : NW s) : ∀ w ∈ xNs, w.before args s = true := by
  intro w hw
  have h1 := h w hw
  simp only [xNs, List.mem_cons, List.not_mem_nil, or_false] at hw
  rcases hw with rfl | rfl | rfl | rfl <;> exact va_Nw.use rfl h1
def xL : List Cond := vx_at0 "OathWalls" 322 "java/util/NoSuchElementException" ["java/lang/RuntimeException", "java/lang/Exception"]
theorem xL_good : ∀ w ∈ xL, w ∈ mGood ∨ w ∈ xNs := by
  have h1 : ∀ w ∈ xL.filter goodWord, w ∈ lw_tbl := by decide +kernel
  have h2 : ∀ w ∈ xL.filter (fun w => !goodWord w), w ∈ xNs := by decide +kernel
  intro w hw
  by_cases g : goodWord w = true
  · exact Or.inl (List.mem_filter.mpr ⟨h1 w (List.mem_filter.mpr ⟨hw, g⟩), g⟩)
  · exact Or.inr (h2 w (List.mem_filter.mpr ⟨hw, by rw [Bool.not_eq_true] at g; rw [g]; rfl⟩))
theorem xL_ot : ∀ w ∈ Cond.classLink "OathWalls" 320 "java/util/NoSuchElementException" :: Cond.initialized "java/util/NoSuchElementException" :: xL, vx_ot w = true := by decide +kernel
def gOutC (p b : Int32) (M : mm) : Prop := p < 0 ∨ M.1 1 (M.2.2 12 0 6) 0 ≤ p ∨ b < 0 ∨ ¬ b < ((1 : Int32) <<< ((M.1 1 (M.2.2 12 0 6) 0) &&& 31))
abbrev XG (G : mg) (M : mm) : String → State → State → Prop := vx_X (fun (_ : Unit) => True) (fun E _ t => E = "java/util/NoSuchElementException" ∧ mH G rdM mT M t.heap) (mA G)
abbrev QG (G : mg) : Array Value → State → Outcome → State → Prop := va_Qi (fun _ (_ : Unit) => False) (fun _ _ => False) (mA G)
abbrev ZG (G : mg) (M : mm) : mZ := fun below args s t => NW s → vx_MQ below (QG G) (XG G M) args s 1 6 (mA G) t
theorem mH_kept {G : mg} {rd : mrd} {top : Nat} {M : mm} {H H1 : Heap} (h : mH G rd top M H) (hq : ∀ q : Nat, q < H.size → H1[q]? = H[q]?) : mH G rd top M H1 :=
  ⟨h.1.kept (fun k q hk => hq _ (h.1 k q hk).lt), h.2⟩
/-- where the four words don't hold there is nothing to show -/
theorem W_if {p : Program} {l : Launch} {e : Env} {R : Room} {s : State} {m : MethodId} {args : Array Value} {below : List Frame} {meth : Method} {c : Code} {H : Heap} {lo : List Loc} {cells slots : Nat} {Q : State → Prop} {g : JFrame} (k : NW s → W p l e R s m args below meth c H lo cells slots Q g) : W p l e R s m args below meth c H lo cells slots (fun t => NW s → Q t) g := by
  intro T hT X
  by_cases hn : NW s
  · obtain ⟨t, a, b⟩ := k hn T hT X
    exact ⟨t, a, fun _ => b⟩
  · exact ⟨_, Steps.refl _, fun q => absurd q hn⟩
theorem W_un {p : Program} {l : Launch} {e : Env} {R : Room} {s : State} {m : MethodId} {args : Array Value} {below : List Frame} {meth : Method} {c : Code} {H : Heap} {lo : List Loc} {cells slots : Nat} {Q : State → Prop} {g : JFrame} (hn : NW s) (k : W p l e R s m args below meth c H lo cells slots (fun t => NW s → Q t) g) : W p l e R s m args below meth c H lo cells slots Q g := by
  intro T hT X
  obtain ⟨t, a, b⟩ := k T hT X
  exact ⟨t, a, b hn⟩
theorem g_throw {G : mg} {M : mm} {d : Nat} {ls : List (Option mv)} (hst : (gl G).stackTraces = false) : LW G rdM (mRm (d + 6) 1 6) YX11_gains (ZG G M) mT 0 0 32 ls [] M := by
  intro p e s m args below meth c F H lo la hH hS hL hO
  refine W_if (fun hn => ?_)
  have hX := F.2.2.2.2.2.2.2.2.1.2.2.2.2.2.2
  refine vx_throw0 (names := ["java/lang/RuntimeException", "java/lang/Exception"]) (ik := 320) (ic := 322) (A := mA G) F.1 F.2.1 hst F.2.2.2.2.1 (by decide +kernel) (by decide +kernel) (F.2.2.2.2.2.1 _ (mG6 4 rfl rfl)) (F.2.2.2.2.2.1 _ (mG1 24 rfl rfl)) (fun w hw => ?_) xL_ot hX.2.2.2.2.1 hX.2.2.2.2.2 hS (hL.1.trans F.2.2.2.1.symm) (iRow iCX11_gains_0 16 rfl).1 (iRow iCX11_gains_0 17 rfl).1 (iRow iCX11_gains_0 18 rfl).1 (iRow iCX11_gains_0 19 rfl).1 (fun x hx => (F.2.2.2.2.2.2.2.2.2.2.2 x hx).elim) (by show 2 + 3 < d + 6; omega) (by show 0 + 81 ≤ 40 * (d + 6); omega) (Nat.le_refl _) (Nat.le_refl _) F.2.2.2.2.2.2.1 (fun t _ hz hq => ⟨(), trivial, ⟨rfl, mH_kept hH hq⟩, Nat.le_trans hS.1 hz, fun q h1 h2 => (hq q (Nat.lt_of_lt_of_le h1 hS.1)).trans (hS.2.1 q h1 h2)⟩) hS.2.2 (Nat.le_refl _) (Nat.le_refl _)
  rcases xL_good w hw with h | h
  · exact F.2.2.2.2.2.1 w h
  · exact NW.use hn w h
theorem w_gains {G : mg} {M : mm} {d : Nat} {a b : Int32} (hst : (gl G).stackTraces = false) (h : gOutC a b M) : LW G rdM (mRm (d + 6) 1 6) YX11_gains (ZG G M) mT 0 0 0 [some (vR 12 0), some (vI a), some (vI b)] [] M := by
  refine g_iload_n (iRow iCX11_gains_0 0 rfl) rfl rfl ?_
  refine g_if_lt (tgt := 32) (iRow iCX11_gains_0 1 rfl) (by decide) (fun _ => g_throw hst) (fun h1 => ?_)
  refine g_iload_n (iRow iCX11_gains_0 2 rfl) rfl rfl ?_
  refine g_aload_n (iRow iCX11_gains_0 3 rfl) rfl rfl ?_
  refine g_getR (iRow iCX11_gains_0 4 rfl) f11_10 ko_12 (r_12_6 _ _) ?_
  refine g_getI (iRow iCX11_gains_0 5 rfl) f11_137 ko_1 ?_
  refine g_icmp_ge (tgt := 32) (iRow iCX11_gains_0 6 rfl) (by decide) (fun _ => g_throw hst) (fun h2 => ?_)
  refine g_iload_n (iRow iCX11_gains_0 7 rfl) rfl rfl ?_
  refine g_if_lt (tgt := 32) (iRow iCX11_gains_0 8 rfl) (by decide) (fun _ => g_throw hst) (fun h3 => ?_)
  refine g_iload_n (iRow iCX11_gains_0 9 rfl) rfl rfl ?_
  refine g_iconst (v := 1) (iRow iCX11_gains_0 10 rfl) rfl ?_
  refine g_aload_n (iRow iCX11_gains_0 11 rfl) rfl rfl ?_
  refine g_getR (iRow iCX11_gains_0 12 rfl) f11_10 ko_12 (r_12_6 _ _) ?_
  refine g_getI (iRow iCX11_gains_0 13 rfl) f11_137 ko_1 ?_
  refine g_ishl (iRow iCX11_gains_0 14 rfl) ?_
  refine g_icmp_lt (tgt := 40) (iRow iCX11_gains_0 15 rfl) (by decide) (fun h4 => ?_) (fun _ => g_throw hst)
  exfalso
  rcases h with h | h | h | h
  · exact h1 h
  · exact h2 h
  · exact h3 h
  · exact h h4
def PGx (G : mg) (As : List mv) (M : mm) : Array Value → State → Prop := fun a U => mPc G rdM mT none As M a U ∧ NW U
theorem PGx_blind (G : mg) (As : List mv) (M : mm) : FrameBlind (PGx G As M) := fun a U g mk h => ⟨mPc_blind G rdM mT none As M a U g mk h.1, NW.same (u := U) (U := U.calling g mk a) rfl h.2⟩
theorem x_gains {G : mg} {M : mm} {a b : Int32} (d : Nat) (hst : (gl G).stackTraces = false) (h : gOutC a b M) : vx_Met (gl G) yX11_gains (.code yX11_gains cX11_gains 3 (some .int) :: mGood) (mRm (d + 6) 1 6) (PGx G [vR 12 0, vI a, vI b] M) (QG G) (XG G M) 1 6 (mA G) := by
  refine vx_ofW (cc := cX11_gains) (maxL := 3) (ret := some .int) (by decide +kernel) rfl ?_
  intro p e s m args below meth c s₁ B hml htab hv
  obtain ⟨⟨rfl, hK, hH, h0, hal⟩, hn⟩ := hv
  rw [lg_entry_eq]
  have hl := lv_entry ([vR 12 0, vI a, vI b].map (rv G)) (n := 3) (Nat.le_of_ble_eq_true rfl)
  have hts := atoms_spec (ws := (.code yX11_gains cX11_gains 3 (some .int) :: mGood)) B.pre
  refine W_un hn ?_
  refine w_gains (d := d) hst h p e s m _ below meth c ⟨B.exec, B.bytes, B.returns, hml, findClass_of_methodNamed B.named, fun w hw => hts w (List.mem_cons_of_mem _ hw), B.notSynchronized, (name_of_methodNamed B.named B.method).1, hK, h0, hal, htab⟩ s.heap [] _ hH va_S.rf ⟨hl.1, hl.2.1, fun i v hi => ?_⟩ ⟨fun v hv => by simp at hv, fun v hv => ?_⟩
  · have h2 := entA_get (G := G) [vR 12 0, vI a, vI b] 0 i v hi
    rw [Nat.zero_add] at h2
    exact hl.2.2 _ h2
  · have h3 := entA_mem [vR 12 0, vI a, vI b] v hv
    simp only [List.mem_cons, List.not_mem_nil, or_false] at h3
    rcases h3 with rfl | rfl | rfl
    · exact Or.inr (Or.inr (by decide +kernel))
    · trivial
    · trivial
abbrev hhG : List (Nat × Nat × Nat × Nat) := [(0, 10, 13, 13)]
/-- the law's own 'gains': 0 and the answer told, or 1 where it is thrown -/
theorem c_Lgains {G : mg} {M M' : mm} {a b k : Int32} {F : Nat} (d : Nat) (hst : (gl G).stackTraces = false) (h : (gOutC a b M ∧ k = 1 ∧ M' = M) ∨ (∃ x M1, m_X11_gains F a b M = some (x, M1) ∧ k = 0 ∧ M' = sL M1 110 0 0 x.toInt64)) :
    Met (gl G) yL_gains (.codeWith yL_gains cL_gains 5 (some .int) hhG :: mGood) (mRm (d + 7) 1 6) (PGx G [vR 12 0, vI a, vI b, vR 110 0] M) (mQc G rdM mT (some (vI k)) M') 1 6 (mA G) := by
  refine va_MetW (cc := cL_gains) (maxL := 5) (ret := some .int) (hh := hhG) (by decide +kernel) rfl ?_
  intro p e s m args below meth c s₁ B hml hv
  obtain ⟨⟨rfl, hK, hH, h0, hal⟩, hn⟩ := hv
  rw [lg_entry_eq]
  have hl := lv_entry ([vR 12 0, vI a, vI b, vR 110 0].map (rv G)) (n := 5) (Nat.le_of_ble_eq_true rfl)
  have hts := atoms_spec (ws := (.codeWith yL_gains cL_gains 5 (some .int) hhG :: mGood)) B.pre
  have htm : ∀ w ∈ mGood, w.before ([vR 12 0, vI a, vI b, vR 110 0].map (rv G)).toArray s = true := fun w hw => hts w (List.mem_cons_of_mem _ hw)
  have htab := vx_table (x := yL_gains) B (hts _ List.mem_cons_self)
  have hown : s.vm.findClass "OathWallsLaw" = some m.cls := findClass_of_methodNamed B.named
  generalize (lg_sl ([vR 12 0, vI a, vI b, vR 110 0].map (rv G)) ++ List.replicate (5 - (lg_sl ([vR 12 0, vI a, vI b, vR 110 0].map (rv G))).length) Slot.unset).toArray = la at hl ⊢
  have l0 : la[0]? = some (.val (.ref (adr G 12 0))) := lv_at hl 0 rfl
  have l1 : la[1]? = some (.val (.int a)) := lv_at hl 1 rfl
  have l2 : la[2]? = some (.val (.int b)) := lv_at hl 2 rfl
  have l3 : la[3]? = some (.val (.ref (adr G 110 0))) := lv_at hl 3 rfl
  refine lv_aload_n B.exec B.bytes (iRow iCL_gains_0 0 rfl).1 rfl l3 ?_
  refine lv_iconst (v := 0) B.exec B.bytes (iRow iCL_gains_0 1 rfl).1 rfl ?_
  refine lv_aload_n B.exec B.bytes (iRow iCL_gains_0 2 rfl).1 rfl l0 ?_
  refine lv_iload_n B.exec B.bytes (iRow iCL_gains_0 3 rfl).1 rfl l1 ?_
  refine lv_iload_n B.exec B.bytes (iRow iCL_gains_0 4 rfl).1 rfl l2 ?_
  have ok12 : mOkv mT (vR 12 0) := Or.inr (Or.inr (by decide +kernel))
  have ok110 : mOkv mT (vR 110 0) := Or.inr (Or.inr (by decide +kernel))
  obtain ⟨hix, hadr⟩ := adr_of (G := G) hH.2.2.1 ok12 (by decide)
  have he := mW_at (G := G) (rd := rdM) (M := M) hH.2.2.1 hix
  rw [mE_ob ko_12, ← hadr] at he
  have hrec := va_recv hK.1 hH.1 (q := (RX11, TX11, 18)) rfl he
  have hcb : ∀ mc ms, CallB (mRm (d + 7) 1 6) s ([vR 12 0, vI a, vI b, vR 110 0].map (rv G)).toArray "OathWallsLaw" 7 yX11_gains cX11_gains 3 (some .int) (.code yX11_gains cX11_gains 3 (some .int) :: mGood) (mRm (d + 6) mc ms) mc ms 2 := fun mc ms => mML_B lL_7 htm ⟨Nat.le_refl _, by show 8 + (3 + 11) + 40 * (d + 6) ≤ 40 * (d + 7); omega⟩
  rcases h with ⟨ho, rfl, rfl⟩ | ⟨x, M1, hm, rfl, rfl⟩
  · have hrun := vx_runV (p := p) (l := gl G) (e := e) (below := below) (meth := meth) (R := mRm (d + 7) 1 6) (H := s.heap) (cells := 0) (slots := 0) (locs := []) (g := F0 m 5 la [.int b, .int a, .ref (adr G 12 0), .int 0, .ref (adr G 110 0)]) (rest := [.int 0, .ref (adr G 110 0)]) (As := [.int a, .int b]) (b := adr G 12 0) (C := RX11) (n := 2) ⟨B.exec, B.bytes, hml, hown, htm⟩ (x_gains d hst ho) ⟨hcb 1 6, htm _ iX11_gains.1, htm _ iX11_gains.2⟩
      ⟨PGx_blind G _ M', hrec, fun U hU hW => ⟨⟨rfl, mK_call hK h0 va_S.rf hU hW, by rw [hU]; exact hH, by rw [hU]; exact h0, fun _ h => by cases h⟩, NW.warm hW hn⟩⟩ rfl rfl hl.1 rfl (lv_room (Nat.le_of_ble_eq_true rfl)) (iRow iCL_gains_0 5 rfl).1 ⟨Nat.le_refl _, Nat.le_refl _⟩
    refine vx_calli hrun va_S.rf (fun _ _ h => h) (fun _ h => h) (fun _ _ h => h) (fun E ce q9 u t H1 lo1 h1 h2 h3 h4 h5 h6 h7 h8 h9 h10 => ?_) (fun r u t H1 lo1 h1 h2 h3 _ _ _ _ => h3.elim)
    obtain ⟨rfl, hH'⟩ := h4
    rw [h1] at hH'
    obtain ⟨xe, hxe⟩ : ∃ xe : ExceptionTableEntry, c.exceptionTable.toList = [] ++ xe :: [] ∧ covers xe 5 = true ∧ xe.catchType = 13 ∧ xe.handlerPc = 13 := ⟨_, htab, rfl, rfl, rfl⟩
    refine vx_catch (own := "OathWallsLaw") (name := "java/util/NoSuchElementException") hown [] xe [] hxe.1 (fun z hz => by cases hz) hxe.2.1 (by rw [hxe.2.2.1]; decide) (by rw [hxe.2.2.1]; exact htm _ (mG5 239 rfl rfl)) (NW.use hn _ (by simp [xNs])) h8 h9 h10 ?_
    rw [hxe.2.2.2]
    refine lv_astore (lv' := [(4, .ref q9), (0, .ref (adr G 12 0)), (1, .int a), (2, .int b), (3, .ref (adr G 110 0))]) B.exec B.bytes (iRow iCL_gains_0 9 rfl).1 hl (by decide) rfl (fun ls2 hl2 => ?_)
    refine lv_iconst (v := 1) B.exec B.bytes (iRow iCL_gains_0 10 rfl).1 rfl ?_
    exact W.iret B.exec B.bytes B.returns (fun t ht hW => ⟨rfl, by rw [ht]; exact hH', fun v h => by cases h; trivial, h7.F ht⟩) h7.2.2 (iRow iCL_gains_0 11 rfl).1 B.notSynchronized
  · have hM := t_X11_gains (G := G) d hm (fun v hv => by
      simp only [List.mem_cons, List.not_mem_nil, or_false] at hv
      rcases hv with rfl | rfl | rfl
      · exact ok12
      · trivial
      · trivial)
    have hrun := va_runV (p := p) (l := gl G) (e := e) (below := below) (meth := meth) (R := mRm (d + 7) 1 6) (H := s.heap) (cells := 0) (slots := 0) (locs := []) (g := F0 m 5 la [.int b, .int a, .ref (adr G 12 0), .int 0, .ref (adr G 110 0)]) (rest := [.int 0, .ref (adr G 110 0)]) (As := [.int a, .int b]) (b := adr G 12 0) (C := RX11) (n := 2) ⟨B.exec, B.bytes, hml, hown, htm⟩ hM ⟨hcb 0 0, htm _ iX11_gains.1, htm _ iX11_gains.2⟩
      ⟨mPc_blind G rdM mT none _ M, hrec, fun U hU hW => ⟨rfl, mK_call hK h0 va_S.rf hU hW, by rw [hU]; exact hH, by rw [hU]; exact h0, fun _ h => by cases h⟩⟩ rfl rfl hl.1 rfl (lv_room (Nat.le_of_ble_eq_true rfl)) (iRow iCL_gains_0 5 rfl).1 ⟨Nat.zero_le _, Nat.zero_le _⟩
    intro T hT X
    obtain ⟨v, st₀, t, T', L, hst0, X', hL', e1, e2, ⟨hv, hH', hr, hF⟩, hst2⟩ := hrun T hT X
    cases hv
    have hS1 := mS_call (G := G) (s := s) (lo := []) va_S.rf hst0 hF hL'
    have key : W p (gl G) e (mRm (d + 7) 1 6) s m ([vR 12 0, vI a, vI b, vR 110 0].map (rv G)).toArray below meth c t.heap ([] ++ L) 0 0 (MQ below (mQc G rdM mT (some (vI 0)) (sL M1 110 0 0 x.toInt64)) ([vR 12 0, vI a, vI b, vR 110 0].map (rv G)).toArray s 1 6 (mA G)) (F0 m 8 la [.int x, .int 0, .ref (adr G 110 0)]) := by
      refine W.widen (k := 1) (n := 6) (Nat.zero_le _) (Nat.zero_le _) ?_
      refine lv_i2l B.exec B.bytes (iRow iCL_gains_0 6 rfl).1 rfl ?_
      obtain ⟨hix2, hadr2⟩ := adr_of (G := G) hH'.2.2.1 ok110 (by decide)
      have he2 := mW_at (G := G) (rd := rdM) (M := M1) hH'.2.2.1 hix2
      rw [mE_al (k := 110) (len := 1) rfl rfl] at he2
      rw [hadr2]
      refine va_last B.exec B.bytes hK.1 hH'.1 (mW_D G rdM M1 mT) hS1 (mIx 110 0) 1 he2 rfl (vp_of (by decide)) (iRow iCL_gains_0 7 rfl).1 (fun H1 lo1 hP1 _ hS2 => ?_)
      rw [sL_row, mW_set (M' := sL M1 110 0 0 x.toInt64) hH'.2.2.1 hix2 (by rw [mE_al (k := 110) (len := 1) rfl rfl]; rfl) (fun _ _ h => mE_sL h)] at hP1
      have hH2 := mH_sL hH' hP1
      refine lv_goto B.exec B.bytes (tgt := 17) (iRow iCL_gains_0 8 rfl).1 (by decide) ?_
      refine lv_iconst (v := 0) B.exec B.bytes (iRow iCL_gains_0 12 rfl).1 rfl ?_
      exact W.iret B.exec B.bytes B.returns (fun t ht hW => ⟨rfl, by rw [ht]; exact hH2, fun v h => by cases h; trivial, hS2.F ht⟩) hS2.2.2 (iRow iCL_gains_0 13 rfl).1 B.notSynchronized
    obtain ⟨t2, a1, b1⟩ := key T' e1 X'
    exact ⟨t2, hst2 t2 a1, b1⟩
