/-! THE TAPE IS MADE: its words, out of the String constant -/
theorem g_ldcS {G : mg} {rd : mrd} {R : Room} {Y : mY} {Z : mZ} {top cells slots pc pc' : Nat} {ls : List (Option mv)} {st : List mv} {M : mm} (hd : iAt Y.2.2.1 pc (.ldc 19) 2 pc') (hY : Y.1 = "OathWalls$Tape") (k : LW G rd R Y Z top cells slots pc' ls (vR 19 0 :: st) M) : LW G rd R Y Z top cells slots pc ls st M := by
  obtain ⟨hd, rfl⟩ := hd
  intro p e s m args below meth c F H lo la hH hS hL hO
  have hX := F.2.2.2.2.2.2.2.2.1.2.2.2.2.2.2.1
  exact va_ldcS F.1 F.2.1 (own := "OathWalls$Tape") (by rw [← hY]; exact F.2.2.2.2.1) hX hd (k p e s m args below meth c F H lo la hH hS hL (hO.cons (Or.inr (Or.inl rfl))))
theorem g_callK {G : mg} {rd : mrd} {R : Room} {Y : mY} {Z : mZ} {top cells slots pc pc' : Nat} {ls : List (Option mv)} {st : List mv} {M : mm} {idx np nL d mc ms top' : Nat} {y : MethodName} {cc : ByteArray} {ret : Option FieldType} {al : Option Nat} {As rest : List mv} {r : Option mv} {M' : mm} (hd : iAt Y.2.2.1 pc (.invokevirtual idx) 3 pc') (hm : mML Y.1 idx y cc nL ret np) (hi : Cond.instanceMethod y ∈ mGood ∧ Cond.selects "java/lang/String" y y ∈ mGood)
    (hst : st = As.reverse ++ vR 19 0 :: rest) (hn : As.length = np) (hC : CT G rd y cc nL ret al d mc ms top top' (vR 19 0 :: As) M r M') (hR : d + 1 ≤ R.frames ∧ 8 + (nL + 11) + 40 * d ≤ R.locals) (hw : ((rest.map (rv G)).map fun v => v.category).sum ≤ 8) (hcs : cells + mc ≤ R.cells ∧ slots + ms ≤ R.slots) (hal : mAl Y al top cells) (htt : top ≤ top')
    (kk : LW G rd R Y Z top' (cells + mc) (slots + ms) pc' ls (r.toList ++ rest) M') : LW G rd R Y Z top cells slots pc ls st M := by
  subst hst
  obtain ⟨hd, rfl⟩ := hd
  intro p e s m args below meth c F H lo la hH hS hL hO
  have hO1 : mOk top ls (vR 19 0 :: rest) := ⟨fun v h => hO.1 v (List.mem_append_right _ h), hO.2⟩
  have hM := hC (fun v hv => by
    rcases List.mem_cons.mp hv with rfl | hv
    · exact hO1.hd
    · exact hO.1 v (List.mem_append_left _ (List.mem_reverse.mpr hv)))
  intro T0 hT X
  have hsz := mAl_size hal F hT X hH hS.1
  obtain ⟨aV, hVS⟩ := F.2.2.2.2.2.2.2.2.1.2.2.2.2.2.2.2.1
  have hrec := vk_recv hVS (i := 0) (by decide) hS
  have hsv : ((As.reverse ++ vR 19 0 :: rest).map (rv G)) = (As.map (rv G)).reverse ++ Value.ref (gS G) :: rest.map (rv G) := by
    rw [List.map_append, List.map_cons, List.map_reverse]; rfl
  have hrun := W.runV (R := R) (H := H) (cells := cells) (slots := slots) (locs := lo) (g := F0 m pc la ((As.reverse ++ vR 19 0 :: rest).map (rv G))) (rest := rest.map (rv G)) (As := As.map (rv G)) (b := gS G) (e := e) (below := below) (meth := meth) (C := "java/lang/String") (n := np) ⟨F.1, F.2.1, F.2.2.2.1, F.2.2.2.2.1, F.2.2.2.2.2.1⟩ hM ⟨mML_B hm F.2.2.2.2.2.1 hR, F.2.2.2.2.2.1 _ hi.1, F.2.2.2.2.2.1 _ hi.2⟩
    ⟨mPc_blind G rd top al _ M, hrec, fun U hU hW => ⟨rfl, mK_call F.2.2.2.2.2.2.2.2.1 F.2.2.2.2.2.2.2.2.2.1 hS hU hW, by rw [hU]; exact hH, by rw [hU]; exact Nat.le_trans F.2.2.2.2.2.2.2.2.2.1 hS.1, by rw [hU]; exact hsz⟩⟩ rfl (by rw [List.length_map]; exact hn) hL.1 hsv (lv_room hw) hd hcs
  exact g_after F hH hS hL hO1.tl htt hrun hT X kk
def tWd (i : Nat) : Nat → Int64
  | 0 => 0
  | j + 1 => if mWb.getD (i * 8 + j) 0 = 32 then tWd i j else tWd i j * 32 + (mWb.getD (i * 8 + j) 0 - 97 + 1).toInt64
def tWr : Nat → mm → mm
  | 0, M => M
  | n + 1, M => sL (tWr n M) 41 0 n (tWd n 8)
theorem tW_ix : ∀ i, i < 29 → ∀ j, j < 8 → nI i * 8 + nI j = nI (i * 8 + j) := by decide +kernel
abbrev Y6i : mY := (RX6, "<init>", cX6_init, 6, none, some 50)
section TP
variable {G : mg} {d : Nat} {Z : mZ} {M : mm}
theorem tp_in {i : Nat} (hi : i < 29) (kk : ∀ x, LW G rdC (mRm (d + 6) 2 1029) Y6i Z 52 2 1029 83 [some (vR 7 0), some (vI (nI i)), some (vL (tWd i 8)), none, some (vI x), none] [] M) : ∀ k j : Nat, j + k = 8 → LW G rdC (mRm (d + 6) 2 1029) Y6i Z 52 2 1029 34 [some (vR 7 0), some (vI (nI i)), some (vL (tWd i j)), none, some (vI (nI j)), none] [] M := by
  intro k
  induction k with
  | zero =>
    intro j hj
    have hj : j = 8 := by omega
    subst hj
    refine g_iload (iRow iCX6_init_0 19 rfl) rfl ?_
    refine g_bipush (v := 8) (iRow iCX6_init_0 20 rfl) (by decide +kernel) ?_
    exact g_icmp_ge (tgt := 83) (iRow iCX6_init_0 21 rfl) (by decide) (fun _ => kk _) (fun h => absurd (nI_le (a := 8) (b := 8) (by omega) (by omega)) h)
  | succ k ih =>
    intro j hj
    refine g_iload (iRow iCX6_init_0 19 rfl) rfl ?_
    refine g_bipush (v := 8) (iRow iCX6_init_0 20 rfl) (by decide +kernel) ?_
    refine g_icmp_ge (tgt := 83) (iRow iCX6_init_0 21 rfl) (by decide) (fun h => absurd h (nI_ge (a := j) (b := 8) (by omega) (by omega))) (fun _ => ?_)
    refine g_ldcS (iRow iCX6_init_0 22 rfl) rfl ?_
    refine g_iload_n (iRow iCX6_init_0 23 rfl) rfl rfl ?_
    refine g_bipush (v := 8) (iRow iCX6_init_1 0 rfl) (by decide +kernel) ?_
    refine g_imul (iRow iCX6_init_1 1 rfl) ?_
    refine g_iload (iRow iCX6_init_1 2 rfl) rfl ?_
    refine g_iadd (iRow iCX6_init_1 3 rfl) ?_
    rw [tW_ix i hi j (by omega)]
    refine g_callK (As := [vI (nI (i * 8 + j))]) (rest := []) (r := some (vI (mWb.getD (i * 8 + j) 0))) (d := d + 3) (mc := 0) (ms := 0) (top' := 52) (iRow iCX6_init_1 4 rfl) lS_at ⟨mG1 233 rfl rfl, mG1 234 rfl rfl⟩ rfl rfl (ct_at d (by omega)) ⟨by show d + 3 + 1 ≤ d + 6; omega, by show 8 + (2 + 11) + 40 * (d + 3) ≤ 40 * (d + 6); omega⟩ (Nat.zero_le _) ⟨Nat.le_refl _, Nat.le_refl _⟩ mAl_none (Nat.le_refl _) ?_
    show LW G rdC (mRm (d + 6) 2 1029) Y6i Z 52 2 1029 53 [some (vR 7 0), some (vI (nI i)), some (vL (tWd i j)), none, some (vI (nI j)), none] [vI (mWb.getD (i * 8 + j) 0)] M
    refine g_istore (ls' := [some (vR 7 0), some (vI (nI i)), some (vL (tWd i j)), none, some (vI (nI j)), some (vI (mWb.getD (i * 8 + j) 0))]) (iRow iCX6_init_1 5 rfl) (by decide) rfl ?_
    refine g_iload (iRow iCX6_init_1 6 rfl) rfl ?_
    refine g_bipush (v := 32) (iRow iCX6_init_1 7 rfl) (by decide +kernel) ?_
    have hend : ∀ w x, w = tWd i (j + 1) → LW G rdC (mRm (d + 6) 2 1029) Y6i Z 52 2 1029 77 [some (vR 7 0), some (vI (nI i)), some (vL w), none, some (vI (nI j)), some (vI x)] [] M := by
      intro w x hw
      refine g_iinc (v := nI (j + 1)) (ls' := [some (vR 7 0), some (vI (nI i)), some (vL w), none, some (vI (nI (j + 1))), some (vI x)]) (iRow iCX6_init_1 20 rfl) rfl (by rw [nI_succ]; rfl) (by decide) rfl ?_
      refine g_goto (tgt := 34) (iRow iCX6_init_1 21 rfl) (by decide) ?_
      refine g_keep [true, true, true, true, true, false] rfl ?_
      subst hw
      exact ih (j + 1) (by omega)
    refine g_icmp_eq (tgt := 77) (iRow iCX6_init_1 8 rfl) (by decide) (fun h => hend _ _ (by simp only [tWd]; rw [if_pos h])) (fun h => ?_)
    refine g_lload_n (iRow iCX6_init_1 9 rfl) rfl rfl ?_
    refine g_ldc2 (iRow iCX6_init_1 10 rfl) k6_27 ?_
    refine g_lmul (iRow iCX6_init_1 11 rfl) ?_
    refine g_iload (iRow iCX6_init_1 12 rfl) rfl ?_
    refine g_bipush (v := 97) (iRow iCX6_init_1 13 rfl) (by decide +kernel) ?_
    refine g_isub (iRow iCX6_init_1 14 rfl) ?_
    refine g_iconst (v := 1) (iRow iCX6_init_1 15 rfl) (by decide +kernel) ?_
    refine g_iadd (iRow iCX6_init_1 16 rfl) ?_
    refine g_i2l (iRow iCX6_init_1 17 rfl) ?_
    refine g_ladd (iRow iCX6_init_1 18 rfl) ?_
    refine g_lstore_n (ls' := [some (vR 7 0), some (vI (nI i)), some (vL (tWd i j * 32 + (mWb.getD (i * 8 + j) 0 - 97 + 1).toInt64)), none, some (vI (nI j)), some (vI (mWb.getD (i * 8 + j) 0))]) (iRow iCX6_init_1 19 rfl) rfl (by decide) rfl ?_
    exact hend _ _ (by simp only [tWd]; rw [if_neg h])
theorem tp_out (hz : M.2.2 7 0 1 = 1) (kk : ∀ x, LW G rdC (mRm (d + 6) 2 1029) Y6i Z 52 2 1029 96 [some (vR 7 0), some (vI x), none, none, none, none] [] (tWr 29 M)) : ∀ k i : Nat, i + k = 29 → LW G rdC (mRm (d + 6) 2 1029) Y6i Z 52 2 1029 23 [some (vR 7 0), some (vI (nI i)), none, none, none, none] [] (tWr i M) := by
  intro k
  induction k with
  | zero =>
    intro i hi
    have hi : i = 29 := by omega
    subst hi
    refine g_iload_n (iRow iCX6_init_0 12 rfl) rfl rfl ?_
    refine g_bipush (v := 29) (iRow iCX6_init_0 13 rfl) (by decide +kernel) ?_
    exact g_icmp_ge (tgt := 96) (iRow iCX6_init_0 14 rfl) (by decide) (fun _ => kk _) (fun h => absurd (nI_le (a := 29) (b := 29) (by omega) (by omega)) h)
  | succ k ih =>
    intro i hi
    refine g_iload_n (iRow iCX6_init_0 12 rfl) rfl rfl ?_
    refine g_bipush (v := 29) (iRow iCX6_init_0 13 rfl) (by decide +kernel) ?_
    refine g_icmp_ge (tgt := 96) (iRow iCX6_init_0 14 rfl) (by decide) (fun h => absurd h (nI_ge (a := i) (b := 29) (by omega) (by omega))) (fun _ => ?_)
    refine g_lconst (v := 0) (iRow iCX6_init_0 15 rfl) rfl ?_
    refine g_lstore_n (ls' := [some (vR 7 0), some (vI (nI i)), some (vL 0), none, none, none]) (iRow iCX6_init_0 16 rfl) rfl (by decide) rfl ?_
    refine g_iconst (v := 0) (iRow iCX6_init_0 17 rfl) rfl ?_
    refine g_istore (ls' := [some (vR 7 0), some (vI (nI i)), some (vL 0), none, some (vI (nI 0)), none]) (iRow iCX6_init_0 18 rfl) (by decide) rfl ?_
    refine tp_in (i := i) (by omega) (fun x => ?_) 8 0 rfl
    refine g_aload_n (iRow iCX6_init_1 22 rfl) rfl rfl ?_
    have hz' : ∀ n, (tWr n M).2.2 = M.2.2 := by
      intro n
      induction n with
      | zero => rfl
      | succ n ih => exact ih
    refine g_getR (v := vR 41 0) (iRow iCX6_init_1 23 rfl) f6_15 ko_7 (by rw [hz', hz]; rfl) ?_
    refine g_iload_n (iRow iCX6_init_2 0 rfl) rfl rfl ?_
    refine g_lload_n (iRow iCX6_init_2 1 rfl) rfl rfl ?_
    refine g_last (iRow iCX6_init_2 2 rfl) kn_41 ka_41 (vp_in_nI (by omega) (by omega)) ?_
    rw [nI_clamp (by omega)]
    refine g_iinc (v := nI (i + 1)) (ls' := [some (vR 7 0), some (vI (nI (i + 1))), some (vL (tWd i 8)), none, some (vI x), none]) (iRow iCX6_init_2 3 rfl) rfl (by rw [nI_succ]; rfl) (by decide) rfl ?_
    refine g_goto (tgt := 23) (iRow iCX6_init_2 4 rfl) (by decide) ?_
    refine g_keep [true, true, false, false, false, false] rfl ?_
    exact ih (i + 1) (by omega)
end TP
def i_X6_init_t50 (M : mm) : Option mm :=
  nm (zM M 40 0) fun M1 =>
  nm (sR M1 7 0 0 1) fun M2 =>
  nm (zM M2 41 0) fun M3 =>
  nm (sR M3 7 0 1 1) fun M4 =>
  some (tWr 29 M4)
set_option maxHeartbeats 4000000 in
set_option maxRecDepth 20000 in
theorem j_X6_init_t50 {G : mg} {M M' : mm} (d : Nat) (h : i_X6_init_t50 M = some M') : CT G rdC yX6_init cX6_init 6 none (some 50) (d + 6) 2 1029 50 52 [vR 7 0] M none M' := by
  refine cc_v (ls := [some (vR 7 0), none, none, none, none, none]) rfl rfl (Nat.le_of_ble_eq_true rfl) (fun Z => ?_) h
  show SG G rdC (mRm (d + 6) 2 1029) (RX6, "<init>", cX6_init, 6, none, some 50) Z 50 0 0 0 [some (vR 7 0), none, none, none, none, none] [] M _ _
  unfold i_X6_init_t50
  refine q_step (g_aload_n (iRow iCX6_init_0 0 rfl) rfl rfl) ?_
  refine q_step (g_objI (iRow iCX6_init_0 1 rfl) ⟨mG1 230 rfl rfl, mG1 31 rfl rfl, mG1 32 rfl rfl⟩ ⟨by show 1 ≤ d + 6; omega, by show 20 ≤ 40 * (d + 6); omega⟩ (Nat.le_of_ble_eq_true rfl)) ?_
  refine q_step (g_aload_n (iRow iCX6_init_0 2 rfl) rfl rfl) ?_
  refine q_step (g_sipush (iRow iCX6_init_0 3 rfl) ks_1000) ?_
  refine q_step (topA := 51) (cellsA := 1) (slotsA := 1000) (g_newb (t0 := 50) (n := 0) (iRow iCX6_init_0 4 rfl) ac_byte kn_40 ka_40 (by decide) kl_1000 rfl rfl rfl ⟨Nat.le_of_ble_eq_true rfl, Nat.le_of_ble_eq_true rfl⟩) ?_
  refine q_nmM (fun M1 => ?_)
  refine q_step (g_putR (r := 1) (iRow iCX6_init_0 5 rfl) f6_11 (Or.inr ⟨rfl, rfl⟩) ko_7 rfl) ?_
  refine q_nmM (fun M2 => ?_)
  refine q_step (g_aload_n (iRow iCX6_init_0 6 rfl) rfl rfl) ?_
  refine q_step (g_bipush (iRow iCX6_init_0 7 rfl) kb_29) ?_
  refine q_step (topA := 52) (cellsA := 2) (slotsA := 1029) (g_newl (t0 := 50) (n := 0) (iRow iCX6_init_0 8 rfl) ac_long kn_41 ka_41 (by decide) (show Int32.ofNat 29 = 29 from by decide +kernel) rfl rfl rfl ⟨Nat.le_of_ble_eq_true rfl, Nat.le_of_ble_eq_true rfl⟩) ?_
  refine q_nmM (fun M3 => ?_)
  refine q_step (g_putR (r := 1) (iRow iCX6_init_0 9 rfl) f6_15 (Or.inr ⟨rfl, rfl⟩) ko_7 rfl) ?_
  unfold nm
  intro a ho hk
  cases ho
  subst hk
  refine g_iconst (v := 0) (iRow iCX6_init_0 10 rfl) rfl ?_
  refine g_istore_n (ls' := [some (vR 7 0), some (vI (nI 0)), none, none, none, none]) (iRow iCX6_init_0 11 rfl) rfl (by decide) rfl ?_
  refine tp_out (M := sR M3 7 0 1 1) rfl (fun x => ?_) 29 0 rfl
  exact g_vret (iRow iCX6_init_2 5 rfl) rfl
