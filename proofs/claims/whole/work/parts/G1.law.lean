/-! THE LAW'S CASES: each call on both sides, the answers alike -/
abbrev lsL (i : Nat) : List (Option mv) := [some (vR 0 0), some (vR 12 0), some (vR 13 0), some (vR 110 0), some (vI (nI i)), none, none]
abbrev YL : mY := ("OathWallsLaw", "law", cL_law, 7, some .boolean, some 0)
abbrev LWL (G : mg) (Z : mZ) (cells slots pc : Nat) (ls : List (Option mv)) (st : List mv) (M : mm) : Prop := LW G rdM room_1 YL Z mT cells slots pc ls st M
def lwL (x y : Int32) : Int64 := (x.toInt64 <<< ((32 : Int32).toInt64 &&& 63)) ||| (y.toInt64 &&& 4294967295)
section LC
variable {G : mg} {Z : mZ} {cells slots i : Nat} {st : List mv} {M : mm}
theorem nI_plus (a b : Nat) : nI a + nI b = nI (a + b) := (Int32.ofNat_add a b).symm
theorem lw_arg {ls : List (Option mv)} {q : Nat} {q' : Int} {pc0 pc1 pc2 pc3 pc4 pc5 : Nat} (hL : gL G ≤ 3584) (hi : i + q < gL G) (hq : Int32.ofInt q' = nI q) (h0 : ls[0]? = some (some (vR 0 0))) (h4 : ls[4]? = some (some (vI (nI i)))) (d0 : iAt cL_law pc0 (.aload_n 0) 1 pc1) (d1 : iAt cL_law pc1 (.iload 4) 2 pc2) (d2 : iAt cL_law pc2 (.iconst q') 1 pc3) (d3 : iAt cL_law pc3 .iadd 1 pc4) (d4 : iAt cL_law pc4 .iaload 1 pc5) (k : LWL G Z cells slots pc5 ls (vI (gx G (i + q)) :: st) M) : LWL G Z cells slots pc0 ls st M := by
  refine g_aload_n d0 rfl h0 ?_
  refine g_iload d1 h4 ?_
  refine g_iconst (v := nI q) d2 hq ?_
  refine g_iadd d3 ?_
  rw [nI_plus]
  refine g_sld d4 (vp_in_nI hi (by omega)) ?_
  rw [nI_clamp (by omega)]
  exact k
theorem lw_argb {ls : List (Option mv)} {q : Nat} {q' : Int} {pc0 pc1 pc2 pc3 pc4 pc5 : Nat} (hL : gL G ≤ 3584) (hi : i + q < gL G) (hq : (Int8.ofInt q').toInt32 = nI q) (h0 : ls[0]? = some (some (vR 0 0))) (h4 : ls[4]? = some (some (vI (nI i)))) (d0 : iAt cL_law pc0 (.aload_n 0) 1 pc1) (d1 : iAt cL_law pc1 (.iload 4) 2 pc2) (d2 : iAt cL_law pc2 (.bipush q') 2 pc3) (d3 : iAt cL_law pc3 .iadd 1 pc4) (d4 : iAt cL_law pc4 .iaload 1 pc5) (k : LWL G Z cells slots pc5 ls (vI (gx G (i + q)) :: st) M) : LWL G Z cells slots pc0 ls st M := by
  refine g_aload_n d0 rfl h0 ?_
  refine g_iload d1 h4 ?_
  refine g_bipush (v := nI q) d2 hq ?_
  refine g_iadd d3 ?_
  rw [nI_plus]
  refine g_sld d4 (vp_in_nI hi (by omega)) ?_
  rw [nI_clamp (by omega)]
  exact k
theorem lw_ne {ls : List (Option mv)} {x : Int32} {pc pc1 pc2 pc3 pcj : Nat} {off off2 : Int} (d0 : iAt cL_law pc (.ifCond .eq off) 3 pc1) (ht : (pc : Int) + off = (pc3 : Int)) (d1 : iAt cL_law pc1 (.iconst 1) 1 pc2) (d2 : iAt cL_law pc2 (.goto off2) 3 pc3) (hj : (pc2 : Int) + off2 = (pcj : Int)) (d3 : iAt cL_law pc3 (.iconst 0) 1 pcj) (k : LWL G Z cells slots pcj ls (vI (bI (decide (x ≠ 0))) :: st) M) : LWL G Z cells slots pc ls (vI x :: st) M := by
  refine g_if_eq d0 ht (fun h => ?_) (fun h => ?_)
  · refine g_iconst (v := 0) d3 rfl ?_
    rw [show bI (decide (x ≠ 0)) = 0 by rw [h]; rfl] at k
    exact k
  · refine g_iconst (v := 1) d1 rfl ?_
    refine g_goto d2 hj ?_
    rw [show bI (decide (x ≠ 0)) = 1 by rw [decide_eq_true h]; rfl] at k
    exact k
theorem law_0 {A : sty} {Q : nmt} {N : Nat} (hL : gL G ≤ 3584) (hi : i + 7 ≤ gL G) (hc : cells ≤ 601000 ∧ slots ≤ 7290000) (hN : N ≤ 1000) (h : INV A Q N M) (K : ∀ A' Q' M', INV A' Q' (N + 1) M' → LWL G Z cells slots 1067 (lsL i) [] M') : LWL G Z cells slots 160 (lsL i) [] M := by
  obtain ⟨a, M1, M2, A', Q', e1, e2, h'⟩ := pr_feed (lwL (gx G (i + 1)) (gx G (i + 2))) (lwL (gx G (i + 3)) (gx G (i + 4))) (lwL (gx G (i + 5)) (gx G (i + 6))) h
  refine g_aload_n (iRow iCL_law_1 1 rfl) rfl rfl ?_
  refine lw_arg (q := 1) (q' := 1) hL (by omega) rfl rfl rfl (iRow iCL_law_1 2 rfl) (iRow iCL_law_1 3 rfl) (iRow iCL_law_1 4 rfl) (iRow iCL_law_1 5 rfl) (iRow iCL_law_1 6 rfl) ?_
  refine g_i2l (iRow iCL_law_1 7 rfl) ?_
  refine g_bipush (v := 32) (iRow iCL_law_1 8 rfl) (by decide +kernel) ?_
  refine g_lshl (iRow iCL_law_1 9 rfl) rfl ?_
  refine lw_arg (q := 2) (q' := 2) hL (by omega) rfl rfl rfl (iRow iCL_law_1 10 rfl) (iRow iCL_law_1 11 rfl) (iRow iCL_law_1 12 rfl) (iRow iCL_law_1 13 rfl) (iRow iCL_law_1 14 rfl) ?_
  refine g_i2l (iRow iCL_law_1 15 rfl) ?_
  refine g_ldc2 (iRow iCL_law_1 16 rfl) kL_19 ?_
  refine g_land (iRow iCL_law_1 17 rfl) ?_
  refine g_lor (iRow iCL_law_1 18 rfl) ?_
  refine lw_arg (q := 3) (q' := 3) hL (by omega) rfl rfl rfl (iRow iCL_law_1 19 rfl) (iRow iCL_law_1 20 rfl) (iRow iCL_law_1 21 rfl) (iRow iCL_law_1 22 rfl) (iRow iCL_law_1 23 rfl) ?_
  refine g_i2l (iRow iCL_law_2 0 rfl) ?_
  refine g_bipush (v := 32) (iRow iCL_law_2 1 rfl) (by decide +kernel) ?_
  refine g_lshl (iRow iCL_law_2 2 rfl) rfl ?_
  refine lw_arg (q := 4) (q' := 4) hL (by omega) rfl rfl rfl (iRow iCL_law_2 3 rfl) (iRow iCL_law_2 4 rfl) (iRow iCL_law_2 5 rfl) (iRow iCL_law_2 6 rfl) (iRow iCL_law_2 7 rfl) ?_
  refine g_i2l (iRow iCL_law_2 8 rfl) ?_
  refine g_ldc2 (iRow iCL_law_2 9 rfl) kL_19 ?_
  refine g_land (iRow iCL_law_2 10 rfl) ?_
  refine g_lor (iRow iCL_law_2 11 rfl) ?_
  refine lw_arg (q := 5) (q' := 5) hL (by omega) rfl rfl rfl (iRow iCL_law_2 12 rfl) (iRow iCL_law_2 13 rfl) (iRow iCL_law_2 14 rfl) (iRow iCL_law_2 15 rfl) (iRow iCL_law_2 16 rfl) ?_
  refine g_i2l (iRow iCL_law_2 17 rfl) ?_
  refine g_bipush (v := 32) (iRow iCL_law_2 18 rfl) (by decide +kernel) ?_
  refine g_lshl (iRow iCL_law_2 19 rfl) rfl ?_
  refine lw_argb (q := 6) (q' := 6) hL (by omega) rfl rfl rfl (iRow iCL_law_2 20 rfl) (iRow iCL_law_2 21 rfl) (iRow iCL_law_2 22 rfl) (iRow iCL_law_2 23 rfl) (iRow iCL_law_3 0 rfl) ?_
  refine g_i2l (iRow iCL_law_3 1 rfl) ?_
  refine g_ldc2 (iRow iCL_law_3 2 rfl) kL_19 ?_
  refine g_land (iRow iCL_law_3 3 rfl) ?_
  refine g_lor (iRow iCL_law_3 4 rfl) ?_
  refine g_callV (k := 12) (n := 0) (As := [vL (lwL (gx G (i + 1)) (gx G (i + 2))), vL (lwL (gx G (i + 3)) (gx G (i + 4))), vL (lwL (gx G (i + 5)) (gx G (i + 6)))]) (rest := []) (r := some (vI a)) (mc := 0) (ms := 0) (top' := mT) (iRow iCL_law_3 5 rfl) lL_21 iX11_feed ko_12 rfl rfl rfl rfl (t_X11_feed 0 e1) ⟨by show 0 + 1 + 1 ≤ 2048; decide, by show 8 + (7 + 11) + 40 * (0 + 1) ≤ 84000; decide⟩ (Nat.le_of_ble_eq_true rfl) ⟨by show _ ≤ 601024; omega, by show _ ≤ 7293034; omega⟩ mAl_none (Nat.le_refl _) ?_
  refine g_aload_n (iRow iCL_law_3 6 rfl) rfl rfl ?_
  refine lw_arg (q := 1) (q' := 1) hL (by omega) rfl rfl rfl (iRow iCL_law_3 7 rfl) (iRow iCL_law_3 8 rfl) (iRow iCL_law_3 9 rfl) (iRow iCL_law_3 10 rfl) (iRow iCL_law_3 11 rfl) ?_
  refine g_i2l (iRow iCL_law_3 12 rfl) ?_
  refine g_bipush (v := 32) (iRow iCL_law_3 13 rfl) (by decide +kernel) ?_
  refine g_lshl (iRow iCL_law_3 14 rfl) rfl ?_
  refine lw_arg (q := 2) (q' := 2) hL (by omega) rfl rfl rfl (iRow iCL_law_3 15 rfl) (iRow iCL_law_3 16 rfl) (iRow iCL_law_3 17 rfl) (iRow iCL_law_3 18 rfl) (iRow iCL_law_3 19 rfl) ?_
  refine g_i2l (iRow iCL_law_3 20 rfl) ?_
  refine g_ldc2 (iRow iCL_law_3 21 rfl) kL_19 ?_
  refine g_land (iRow iCL_law_3 22 rfl) ?_
  refine g_lor (iRow iCL_law_3 23 rfl) ?_
  refine lw_arg (q := 3) (q' := 3) hL (by omega) rfl rfl rfl (iRow iCL_law_4 0 rfl) (iRow iCL_law_4 1 rfl) (iRow iCL_law_4 2 rfl) (iRow iCL_law_4 3 rfl) (iRow iCL_law_4 4 rfl) ?_
  refine g_i2l (iRow iCL_law_4 5 rfl) ?_
  refine g_bipush (v := 32) (iRow iCL_law_4 6 rfl) (by decide +kernel) ?_
  refine g_lshl (iRow iCL_law_4 7 rfl) rfl ?_
  refine lw_arg (q := 4) (q' := 4) hL (by omega) rfl rfl rfl (iRow iCL_law_4 8 rfl) (iRow iCL_law_4 9 rfl) (iRow iCL_law_4 10 rfl) (iRow iCL_law_4 11 rfl) (iRow iCL_law_4 12 rfl) ?_
  refine g_i2l (iRow iCL_law_4 13 rfl) ?_
  refine g_ldc2 (iRow iCL_law_4 14 rfl) kL_19 ?_
  refine g_land (iRow iCL_law_4 15 rfl) ?_
  refine g_lor (iRow iCL_law_4 16 rfl) ?_
  refine lw_arg (q := 5) (q' := 5) hL (by omega) rfl rfl rfl (iRow iCL_law_4 17 rfl) (iRow iCL_law_4 18 rfl) (iRow iCL_law_4 19 rfl) (iRow iCL_law_4 20 rfl) (iRow iCL_law_4 21 rfl) ?_
  refine g_i2l (iRow iCL_law_4 22 rfl) ?_
  refine g_bipush (v := 32) (iRow iCL_law_4 23 rfl) (by decide +kernel) ?_
  refine g_lshl (iRow iCL_law_5 0 rfl) rfl ?_
  refine lw_argb (q := 6) (q' := 6) hL (by omega) rfl rfl rfl (iRow iCL_law_5 1 rfl) (iRow iCL_law_5 2 rfl) (iRow iCL_law_5 3 rfl) (iRow iCL_law_5 4 rfl) (iRow iCL_law_5 5 rfl) ?_
  refine g_i2l (iRow iCL_law_5 6 rfl) ?_
  refine g_ldc2 (iRow iCL_law_5 7 rfl) kL_19 ?_
  refine g_land (iRow iCL_law_5 8 rfl) ?_
  refine g_lor (iRow iCL_law_5 9 rfl) ?_
  refine g_callV (k := 13) (n := 0) (As := [vL (lwL (gx G (i + 1)) (gx G (i + 2))), vL (lwL (gx G (i + 3)) (gx G (i + 4))), vL (lwL (gx G (i + 5)) (gx G (i + 6)))]) (rest := [vI a]) (r := some (vI a)) (mc := 0) (ms := 0) (top' := mT) (iRow iCL_law_5 10 rfl) lL_25 iX12_feed ko_13 rfl rfl rfl rfl (t_X12_feed 0 e2) ⟨by show 0 + 0 + 1 ≤ 2048; decide, by show 8 + (11 + 11) + 40 * (0 + 0) ≤ 84000; decide⟩ (Nat.le_of_ble_eq_true rfl) ⟨by show _ ≤ 601024; omega, by show _ ≤ 7293034; omega⟩ mAl_none (Nat.le_refl _) ?_
  exact g_icmp_eq (tgt := 1067) (iRow iCL_law_5 11 rfl) (by decide) (fun _ => K A' Q' M2 h') (fun hx => absurd rfl hx)
theorem law_1 {A : sty} {Q : nmt} {N : Nat} (hL : gL G ≤ 3584) (hi : i + 7 ≤ gL G) (hc : cells ≤ 601000 ∧ slots ≤ 7290000) (hN : N ≤ 1000) (h : INV A Q N M) (K : ∀ A' Q' M', INV A' Q' (N + 1) M' → LWL G Z cells slots 1067 (lsL i) [] M') : LWL G Z cells slots 307 (lsL i) [] M := by
  obtain ⟨a, M1, M2, A', Q', e1, e2, h'⟩ := pr_city  h
  refine g_aload_n (iRow iCL_law_5 14 rfl) rfl rfl ?_
  refine g_callV (k := 12) (n := 0) (As := []) (rest := []) (r := some (vI a)) (mc := 0) (ms := 0) (top' := mT) (iRow iCL_law_5 15 rfl) lL_26 iX11_city ko_12 rfl rfl rfl rfl (t_X11_city 0 e1) ⟨by show 0 + 7 + 1 ≤ 2048; decide, by show 8 + (3 + 11) + 40 * (0 + 7) ≤ 84000; decide⟩ (Nat.le_of_ble_eq_true rfl) ⟨by show _ ≤ 601024; omega, by show _ ≤ 7293034; omega⟩ mAl_none (Nat.le_refl _) ?_
  refine g_aload_n (iRow iCL_law_5 16 rfl) rfl rfl ?_
  refine g_callV (k := 13) (n := 0) (As := []) (rest := [vI a]) (r := some (vI a)) (mc := 0) (ms := 0) (top' := mT) (iRow iCL_law_5 17 rfl) lL_30 iX12_city ko_13 rfl rfl rfl rfl (t_X12_city 0 e2) ⟨by show 0 + 8 + 1 ≤ 2048; decide, by show 8 + (2 + 11) + 40 * (0 + 8) ≤ 84000; decide⟩ (Nat.le_of_ble_eq_true rfl) ⟨by show _ ≤ 601024; omega, by show _ ≤ 7293034; omega⟩ mAl_none (Nat.le_refl _) ?_
  exact g_icmp_eq (tgt := 1067) (iRow iCL_law_5 18 rfl) (by decide) (fun _ => K A' Q' M2 h') (fun hx => absurd rfl hx)
theorem law_2 {A : sty} {Q : nmt} {N : Nat} (hL : gL G ≤ 3584) (hi : i + 7 ≤ gL G) (hc : cells ≤ 601000 ∧ slots ≤ 7290000) (hN : N ≤ 1000) (h : INV A Q N M) (K : ∀ A' Q' M', INV A' Q' (N + 1) M' → LWL G Z cells slots 1067 (lsL i) [] M') : LWL G Z cells slots 320 (lsL i) [] M := by
  obtain ⟨a, M1, M2, A', Q', e1, e2, h'⟩ := pr_life  h
  refine g_aload_n (iRow iCL_law_5 21 rfl) rfl rfl ?_
  refine g_callV (k := 12) (n := 0) (As := []) (rest := []) (r := some (vI a)) (mc := 0) (ms := 0) (top' := mT) (iRow iCL_law_5 22 rfl) lL_31 iX11_life ko_12 rfl rfl rfl rfl (t_X11_life 0 e1) ⟨by show 0 + 6 + 1 ≤ 2048; decide, by show 8 + (2 + 11) + 40 * (0 + 6) ≤ 84000; decide⟩ (Nat.le_of_ble_eq_true rfl) ⟨by show _ ≤ 601024; omega, by show _ ≤ 7293034; omega⟩ mAl_none (Nat.le_refl _) ?_
  refine g_aload_n (iRow iCL_law_5 23 rfl) rfl rfl ?_
  refine g_callV (k := 13) (n := 0) (As := []) (rest := [vI a]) (r := some (vI a)) (mc := 0) (ms := 0) (top' := mT) (iRow iCL_law_6 0 rfl) lL_34 iX12_life ko_13 rfl rfl rfl rfl (t_X12_life 0 e2) ⟨by show 0 + 4 + 1 ≤ 2048; decide, by show 8 + (1 + 11) + 40 * (0 + 4) ≤ 84000; decide⟩ (Nat.le_of_ble_eq_true rfl) ⟨by show _ ≤ 601024; omega, by show _ ≤ 7293034; omega⟩ mAl_none (Nat.le_refl _) ?_
  exact g_icmp_eq (tgt := 1067) (iRow iCL_law_6 1 rfl) (by decide) (fun _ => K A' Q' M2 h') (fun hx => absurd rfl hx)
theorem law_3 {A : sty} {Q : nmt} {N : Nat} (hL : gL G ≤ 3584) (hi : i + 7 ≤ gL G) (hc : cells ≤ 601000 ∧ slots ≤ 7290000) (hN : N ≤ 1000) (h : INV A Q N M) (K : ∀ A' Q' M', INV A' Q' (N + 1) M' → LWL G Z cells slots 1067 (lsL i) [] M') : LWL G Z cells slots 333 (lsL i) [] M := by
  obtain ⟨a, M1, M2, A', Q', e1, e2, h'⟩ := pr_person (gx G (i + 1)) (gx G (i + 2)) h
  refine g_aload_n (iRow iCL_law_6 4 rfl) rfl rfl ?_
  refine lw_arg (q := 1) (q' := 1) hL (by omega) rfl rfl rfl (iRow iCL_law_6 5 rfl) (iRow iCL_law_6 6 rfl) (iRow iCL_law_6 7 rfl) (iRow iCL_law_6 8 rfl) (iRow iCL_law_6 9 rfl) ?_
  refine lw_arg (q := 2) (q' := 2) hL (by omega) rfl rfl rfl (iRow iCL_law_6 10 rfl) (iRow iCL_law_6 11 rfl) (iRow iCL_law_6 12 rfl) (iRow iCL_law_6 13 rfl) (iRow iCL_law_6 14 rfl) ?_
  refine g_callV (k := 12) (n := 0) (As := [vI (gx G (i + 1)), vI (gx G (i + 2))]) (rest := []) (r := some (vI a)) (mc := 0) (ms := 0) (top' := mT) (iRow iCL_law_6 15 rfl) lL_35 iX11_person ko_12 rfl rfl rfl rfl (t_X11_person 0 e1) ⟨by show 0 + 0 + 1 ≤ 2048; decide, by show 8 + (3 + 11) + 40 * (0 + 0) ≤ 84000; decide⟩ (Nat.le_of_ble_eq_true rfl) ⟨by show _ ≤ 601024; omega, by show _ ≤ 7293034; omega⟩ mAl_none (Nat.le_refl _) ?_
  refine g_aload_n (iRow iCL_law_6 16 rfl) rfl rfl ?_
  refine lw_arg (q := 1) (q' := 1) hL (by omega) rfl rfl rfl (iRow iCL_law_6 17 rfl) (iRow iCL_law_6 18 rfl) (iRow iCL_law_6 19 rfl) (iRow iCL_law_6 20 rfl) (iRow iCL_law_6 21 rfl) ?_
  refine lw_arg (q := 2) (q' := 2) hL (by omega) rfl rfl rfl (iRow iCL_law_6 22 rfl) (iRow iCL_law_6 23 rfl) (iRow iCL_law_7 0 rfl) (iRow iCL_law_7 1 rfl) (iRow iCL_law_7 2 rfl) ?_
  refine g_callV (k := 13) (n := 0) (As := [vI (gx G (i + 1)), vI (gx G (i + 2))]) (rest := [vI a]) (r := some (vI a)) (mc := 0) (ms := 0) (top' := mT) (iRow iCL_law_7 3 rfl) lL_38 iX12_person ko_13 rfl rfl rfl rfl (t_X12_person 0 e2) ⟨by show 0 + 1 + 1 ≤ 2048; decide, by show 8 + (3 + 11) + 40 * (0 + 1) ≤ 84000; decide⟩ (Nat.le_of_ble_eq_true rfl) ⟨by show _ ≤ 601024; omega, by show _ ≤ 7293034; omega⟩ mAl_none (Nat.le_refl _) ?_
  exact g_icmp_eq (tgt := 1067) (iRow iCL_law_7 4 rfl) (by decide) (fun _ => K A' Q' M2 h') (fun hx => absurd rfl hx)
theorem law_4 {A : sty} {Q : nmt} {N : Nat} (hL : gL G ≤ 3584) (hi : i + 7 ≤ gL G) (hc : cells ≤ 601000 ∧ slots ≤ 7290000) (hN : N ≤ 1000) (h : INV A Q N M) (K : ∀ A' Q' M', INV A' Q' (N + 1) M' → LWL G Z cells slots 1067 (lsL i) [] M') : LWL G Z cells slots 370 (lsL i) [] M := by
  obtain ⟨a, M1, M2, A', Q', e1, e2, h'⟩ := pr_oath hN (gx G (i + 1)) (gx G (i + 2)) h
  refine g_aload_n (iRow iCL_law_7 7 rfl) rfl rfl ?_
  refine lw_arg (q := 1) (q' := 1) hL (by omega) rfl rfl rfl (iRow iCL_law_7 8 rfl) (iRow iCL_law_7 9 rfl) (iRow iCL_law_7 10 rfl) (iRow iCL_law_7 11 rfl) (iRow iCL_law_7 12 rfl) ?_
  refine lw_arg (q := 2) (q' := 2) hL (by omega) rfl rfl rfl (iRow iCL_law_7 13 rfl) (iRow iCL_law_7 14 rfl) (iRow iCL_law_7 15 rfl) (iRow iCL_law_7 16 rfl) (iRow iCL_law_7 17 rfl) ?_
  refine g_callV (k := 12) (n := 0) (As := [vI (gx G (i + 1)), vI (gx G (i + 2))]) (rest := []) (r := some (vI a)) (mc := 0) (ms := 0) (top' := mT) (iRow iCL_law_7 18 rfl) lL_39 iX11_oath ko_12 rfl rfl rfl rfl (t_X11_oath 0 e1) ⟨by show 0 + 3 + 1 ≤ 2048; decide, by show 8 + (3 + 11) + 40 * (0 + 3) ≤ 84000; decide⟩ (Nat.le_of_ble_eq_true rfl) ⟨by show _ ≤ 601024; omega, by show _ ≤ 7293034; omega⟩ mAl_none (Nat.le_refl _) ?_
  refine g_aload_n (iRow iCL_law_7 19 rfl) rfl rfl ?_
  refine lw_arg (q := 1) (q' := 1) hL (by omega) rfl rfl rfl (iRow iCL_law_7 20 rfl) (iRow iCL_law_7 21 rfl) (iRow iCL_law_7 22 rfl) (iRow iCL_law_7 23 rfl) (iRow iCL_law_8 0 rfl) ?_
  refine lw_arg (q := 2) (q' := 2) hL (by omega) rfl rfl rfl (iRow iCL_law_8 1 rfl) (iRow iCL_law_8 2 rfl) (iRow iCL_law_8 3 rfl) (iRow iCL_law_8 4 rfl) (iRow iCL_law_8 5 rfl) ?_
  refine g_callV (k := 13) (n := 0) (As := [vI (gx G (i + 1)), vI (gx G (i + 2))]) (rest := [vI a]) (r := some (vI a)) (mc := 0) (ms := 0) (top' := mT) (iRow iCL_law_8 6 rfl) lL_42 iX12_oath ko_13 rfl rfl rfl rfl (t_X12_oath 0 e2) ⟨by show 0 + 4 + 1 ≤ 2048; decide, by show 8 + (3 + 11) + 40 * (0 + 4) ≤ 84000; decide⟩ (Nat.le_of_ble_eq_true rfl) ⟨by show _ ≤ 601024; omega, by show _ ≤ 7293034; omega⟩ mAl_none (Nat.le_refl _) ?_
  exact g_icmp_eq (tgt := 1067) (iRow iCL_law_8 7 rfl) (by decide) (fun _ => K A' Q' M2 h') (fun hx => absurd rfl hx)
theorem law_5 {A : sty} {Q : nmt} {N : Nat} (hL : gL G ≤ 3584) (hi : i + 7 ≤ gL G) (hc : cells ≤ 601000 ∧ slots ≤ 7290000) (hN : N ≤ 1000) (h : INV A Q N M) (K : ∀ A' Q' M', INV A' Q' (N + 1) M' → LWL G Z cells slots 1067 (lsL i) [] M') : LWL G Z cells slots 407 (lsL i) [] M := by
  obtain ⟨a, M1, M2, A', Q', e1, e2, h'⟩ := pr_stone (gx G (i + 1)) (gx G (i + 2)) h
  refine g_aload_n (iRow iCL_law_8 10 rfl) rfl rfl ?_
  refine lw_arg (q := 1) (q' := 1) hL (by omega) rfl rfl rfl (iRow iCL_law_8 11 rfl) (iRow iCL_law_8 12 rfl) (iRow iCL_law_8 13 rfl) (iRow iCL_law_8 14 rfl) (iRow iCL_law_8 15 rfl) ?_
  refine lw_arg (q := 2) (q' := 2) hL (by omega) rfl rfl rfl (iRow iCL_law_8 16 rfl) (iRow iCL_law_8 17 rfl) (iRow iCL_law_8 18 rfl) (iRow iCL_law_8 19 rfl) (iRow iCL_law_8 20 rfl) ?_
  refine g_callV (k := 12) (n := 0) (As := [vI (gx G (i + 1)), vI (gx G (i + 2))]) (rest := []) (r := some (vI a)) (mc := 0) (ms := 0) (top' := mT) (iRow iCL_law_8 21 rfl) lL_43 iX11_stone ko_12 rfl rfl rfl rfl (t_X11_stone 0 e1) ⟨by show 0 + 1 + 1 ≤ 2048; decide, by show 8 + (3 + 11) + 40 * (0 + 1) ≤ 84000; decide⟩ (Nat.le_of_ble_eq_true rfl) ⟨by show _ ≤ 601024; omega, by show _ ≤ 7293034; omega⟩ mAl_none (Nat.le_refl _) ?_
  refine g_aload_n (iRow iCL_law_8 22 rfl) rfl rfl ?_
  refine lw_arg (q := 1) (q' := 1) hL (by omega) rfl rfl rfl (iRow iCL_law_8 23 rfl) (iRow iCL_law_9 0 rfl) (iRow iCL_law_9 1 rfl) (iRow iCL_law_9 2 rfl) (iRow iCL_law_9 3 rfl) ?_
  refine lw_arg (q := 2) (q' := 2) hL (by omega) rfl rfl rfl (iRow iCL_law_9 4 rfl) (iRow iCL_law_9 5 rfl) (iRow iCL_law_9 6 rfl) (iRow iCL_law_9 7 rfl) (iRow iCL_law_9 8 rfl) ?_
  refine g_callV (k := 13) (n := 0) (As := [vI (gx G (i + 1)), vI (gx G (i + 2))]) (rest := [vI a]) (r := some (vI a)) (mc := 0) (ms := 0) (top' := mT) (iRow iCL_law_9 9 rfl) lL_46 iX12_stone ko_13 rfl rfl rfl rfl (t_X12_stone 0 e2) ⟨by show 0 + 1 + 1 ≤ 2048; decide, by show 8 + (3 + 11) + 40 * (0 + 1) ≤ 84000; decide⟩ (Nat.le_of_ble_eq_true rfl) ⟨by show _ ≤ 601024; omega, by show _ ≤ 7293034; omega⟩ mAl_none (Nat.le_refl _) ?_
  exact g_icmp_eq (tgt := 1067) (iRow iCL_law_9 10 rfl) (by decide) (fun _ => K A' Q' M2 h') (fun hx => absurd rfl hx)
theorem law_6 {A : sty} {Q : nmt} {N : Nat} (hL : gL G ≤ 3584) (hi : i + 7 ≤ gL G) (hc : cells ≤ 601000 ∧ slots ≤ 7290000) (hN : N ≤ 1000) (h : INV A Q N M) (K : ∀ A' Q' M', INV A' Q' (N + 1) M' → LWL G Z cells slots 1067 (lsL i) [] M') : LWL G Z cells slots 444 (lsL i) [] M := by
  obtain ⟨a, M1, M2, A', Q', e1, e2, h'⟩ := pr_breaks hN (gx G (i + 1)) h
  refine g_aload_n (iRow iCL_law_9 13 rfl) rfl rfl ?_
  refine lw_arg (q := 1) (q' := 1) hL (by omega) rfl rfl rfl (iRow iCL_law_9 14 rfl) (iRow iCL_law_9 15 rfl) (iRow iCL_law_9 16 rfl) (iRow iCL_law_9 17 rfl) (iRow iCL_law_9 18 rfl) ?_
  refine g_callV (k := 12) (n := 0) (As := [vI (gx G (i + 1))]) (rest := []) (r := some (vI a)) (mc := 0) (ms := 0) (top' := mT) (iRow iCL_law_9 19 rfl) lL_47 iX11_breaks ko_12 rfl rfl rfl rfl (t_X11_breaks 0 e1) ⟨by show 0 + 5 + 1 ≤ 2048; decide, by show 8 + (2 + 11) + 40 * (0 + 5) ≤ 84000; decide⟩ (Nat.le_of_ble_eq_true rfl) ⟨by show _ ≤ 601024; omega, by show _ ≤ 7293034; omega⟩ mAl_none (Nat.le_refl _) ?_
  refine g_aload_n (iRow iCL_law_9 20 rfl) rfl rfl ?_
  refine lw_arg (q := 1) (q' := 1) hL (by omega) rfl rfl rfl (iRow iCL_law_9 21 rfl) (iRow iCL_law_9 22 rfl) (iRow iCL_law_9 23 rfl) (iRow iCL_law_10 0 rfl) (iRow iCL_law_10 1 rfl) ?_
  refine g_callV (k := 13) (n := 0) (As := [vI (gx G (i + 1))]) (rest := [vI a]) (r := some (vI a)) (mc := 0) (ms := 0) (top' := mT) (iRow iCL_law_10 2 rfl) lL_51 iX12_breaks ko_13 rfl rfl rfl rfl (t_X12_breaks 0 e2) ⟨by show 0 + 7 + 1 ≤ 2048; decide, by show 8 + (2 + 11) + 40 * (0 + 7) ≤ 84000; decide⟩ (Nat.le_of_ble_eq_true rfl) ⟨by show _ ≤ 601024; omega, by show _ ≤ 7293034; omega⟩ mAl_none (Nat.le_refl _) ?_
  exact g_icmp_eq (tgt := 1067) (iRow iCL_law_10 3 rfl) (by decide) (fun _ => K A' Q' M2 h') (fun hx => absurd rfl hx)
theorem law_7 {A : sty} {Q : nmt} {N : Nat} (hL : gL G ≤ 3584) (hi : i + 7 ≤ gL G) (hc : cells ≤ 601000 ∧ slots ≤ 7290000) (hN : N ≤ 1000) (h : INV A Q N M) (K : ∀ A' Q' M', INV A' Q' (N + 1) M' → LWL G Z cells slots 1067 (lsL i) [] M') : LWL G Z cells slots 469 (lsL i) [] M := by
  obtain ⟨a, M1, M2, A', Q', e1, e2, h'⟩ := pr_forgive hN (gx G (i + 1)) h
  refine g_aload_n (iRow iCL_law_10 6 rfl) rfl rfl ?_
  refine lw_arg (q := 1) (q' := 1) hL (by omega) rfl rfl rfl (iRow iCL_law_10 7 rfl) (iRow iCL_law_10 8 rfl) (iRow iCL_law_10 9 rfl) (iRow iCL_law_10 10 rfl) (iRow iCL_law_10 11 rfl) ?_
  refine g_callV (k := 12) (n := 0) (As := [vI (gx G (i + 1))]) (rest := []) (r := some (vI (bI a))) (mc := 0) (ms := 0) (top' := mT) (iRow iCL_law_10 12 rfl) lL_52 iX11_forgive ko_12 rfl rfl rfl rfl (t_X11_forgive 0 e1) ⟨by show 0 + 5 + 1 ≤ 2048; decide, by show 8 + (2 + 11) + 40 * (0 + 5) ≤ 84000; decide⟩ (Nat.le_of_ble_eq_true rfl) ⟨by show _ ≤ 601024; omega, by show _ ≤ 7293034; omega⟩ mAl_none (Nat.le_refl _) ?_
  refine g_aload_n (iRow iCL_law_10 13 rfl) rfl rfl ?_
  refine lw_arg (q := 1) (q' := 1) hL (by omega) rfl rfl rfl (iRow iCL_law_10 14 rfl) (iRow iCL_law_10 15 rfl) (iRow iCL_law_10 16 rfl) (iRow iCL_law_10 17 rfl) (iRow iCL_law_10 18 rfl) ?_
  refine g_callV (k := 13) (n := 0) (As := [vI (gx G (i + 1))]) (rest := [vI (bI a)]) (r := some (vI (bI a))) (mc := 0) (ms := 0) (top' := mT) (iRow iCL_law_10 19 rfl) lL_56 iX12_forgive ko_13 rfl rfl rfl rfl (t_X12_forgive 0 e2) ⟨by show 0 + 7 + 1 ≤ 2048; decide, by show 8 + (2 + 11) + 40 * (0 + 7) ≤ 84000; decide⟩ (Nat.le_of_ble_eq_true rfl) ⟨by show _ ≤ 601024; omega, by show _ ≤ 7293034; omega⟩ mAl_none (Nat.le_refl _) ?_
  exact g_icmp_eq (tgt := 1067) (iRow iCL_law_10 20 rfl) (by decide) (fun _ => K A' Q' M2 h') (fun hx => absurd rfl hx)
theorem law_8 {A : sty} {Q : nmt} {N : Nat} (hL : gL G ≤ 3584) (hi : i + 7 ≤ gL G) (hc : cells ≤ 601000 ∧ slots ≤ 7290000) (hN : N ≤ 1000) (h : INV A Q N M) (K : ∀ A' Q' M', INV A' Q' (N + 1) M' → LWL G Z cells slots 1067 (lsL i) [] M') : LWL G Z cells slots 494 (lsL i) [] M := by
  obtain ⟨a, M1, M2, A', Q', e1, e2, h'⟩ := pr_raise hN (gx G (i + 1)) h
  refine g_aload_n (iRow iCL_law_10 23 rfl) rfl rfl ?_
  refine lw_arg (q := 1) (q' := 1) hL (by omega) rfl rfl rfl (iRow iCL_law_11 0 rfl) (iRow iCL_law_11 1 rfl) (iRow iCL_law_11 2 rfl) (iRow iCL_law_11 3 rfl) (iRow iCL_law_11 4 rfl) ?_
  refine g_callV (k := 12) (n := 0) (As := [vI (gx G (i + 1))]) (rest := []) (r := some (vI (bI a))) (mc := 0) (ms := 0) (top' := mT) (iRow iCL_law_11 5 rfl) lL_57 iX11_raise ko_12 rfl rfl rfl rfl (t_X11_raise 0 e1) ⟨by show 0 + 5 + 1 ≤ 2048; decide, by show 8 + (2 + 11) + 40 * (0 + 5) ≤ 84000; decide⟩ (Nat.le_of_ble_eq_true rfl) ⟨by show _ ≤ 601024; omega, by show _ ≤ 7293034; omega⟩ mAl_none (Nat.le_refl _) ?_
  refine g_aload_n (iRow iCL_law_11 6 rfl) rfl rfl ?_
  refine lw_arg (q := 1) (q' := 1) hL (by omega) rfl rfl rfl (iRow iCL_law_11 7 rfl) (iRow iCL_law_11 8 rfl) (iRow iCL_law_11 9 rfl) (iRow iCL_law_11 10 rfl) (iRow iCL_law_11 11 rfl) ?_
  refine g_callV (k := 13) (n := 0) (As := [vI (gx G (i + 1))]) (rest := [vI (bI a)]) (r := some (vI (bI a))) (mc := 0) (ms := 0) (top' := mT) (iRow iCL_law_11 12 rfl) lL_60 iX12_raise ko_13 rfl rfl rfl rfl (t_X12_raise 0 e2) ⟨by show 0 + 6 + 1 ≤ 2048; decide, by show 8 + (2 + 11) + 40 * (0 + 6) ≤ 84000; decide⟩ (Nat.le_of_ble_eq_true rfl) ⟨by show _ ≤ 601024; omega, by show _ ≤ 7293034; omega⟩ mAl_none (Nat.le_refl _) ?_
  exact g_icmp_eq (tgt := 1067) (iRow iCL_law_11 13 rfl) (by decide) (fun _ => K A' Q' M2 h') (fun hx => absurd rfl hx)
theorem law_9 {A : sty} {Q : nmt} {N : Nat} (hL : gL G ≤ 3584) (hi : i + 7 ≤ gL G) (hc : cells ≤ 601000 ∧ slots ≤ 7290000) (hN : N ≤ 1000) (h : INV A Q N M) (K : ∀ A' Q' M', INV A' Q' (N + 1) M' → LWL G Z cells slots 1067 (lsL i) [] M') : LWL G Z cells slots 519 (lsL i) [] M := by
  obtain ⟨a, M1, M2, A', Q', e1, e2, h'⟩ := pr_years hN (gx G (i + 1)) h
  refine g_aload_n (iRow iCL_law_11 16 rfl) rfl rfl ?_
  refine lw_arg (q := 1) (q' := 1) hL (by omega) rfl rfl rfl (iRow iCL_law_11 17 rfl) (iRow iCL_law_11 18 rfl) (iRow iCL_law_11 19 rfl) (iRow iCL_law_11 20 rfl) (iRow iCL_law_11 21 rfl) ?_
  refine g_callV (k := 12) (n := 0) (As := [vI (gx G (i + 1))]) (rest := []) (r := some (vI a)) (mc := 0) (ms := 0) (top' := mT) (iRow iCL_law_11 22 rfl) lL_61 iX11_years ko_12 rfl rfl rfl rfl (t_X11_years 0 e1) ⟨by show 0 + 5 + 1 ≤ 2048; decide, by show 8 + (3 + 11) + 40 * (0 + 5) ≤ 84000; decide⟩ (Nat.le_of_ble_eq_true rfl) ⟨by show _ ≤ 601024; omega, by show _ ≤ 7293034; omega⟩ mAl_none (Nat.le_refl _) ?_
  refine g_aload_n (iRow iCL_law_11 23 rfl) rfl rfl ?_
  refine lw_arg (q := 1) (q' := 1) hL (by omega) rfl rfl rfl (iRow iCL_law_12 0 rfl) (iRow iCL_law_12 1 rfl) (iRow iCL_law_12 2 rfl) (iRow iCL_law_12 3 rfl) (iRow iCL_law_12 4 rfl) ?_
  refine g_callV (k := 13) (n := 0) (As := [vI (gx G (i + 1))]) (rest := [vI a]) (r := some (vI a)) (mc := 0) (ms := 0) (top' := mT) (iRow iCL_law_12 5 rfl) lL_64 iX12_years ko_13 rfl rfl rfl rfl (t_X12_years 0 e2) ⟨by show 0 + 8 + 1 ≤ 2048; decide, by show 8 + (4 + 11) + 40 * (0 + 8) ≤ 84000; decide⟩ (Nat.le_of_ble_eq_true rfl) ⟨by show _ ≤ 601024; omega, by show _ ≤ 7293034; omega⟩ mAl_none (Nat.le_refl _) ?_
  exact g_icmp_eq (tgt := 1067) (iRow iCL_law_12 6 rfl) (by decide) (fun _ => K A' Q' M2 h') (fun hx => absurd rfl hx)
theorem law_10 {A : sty} {Q : nmt} {N : Nat} (hL : gL G ≤ 3584) (hi : i + 7 ≤ gL G) (hc : cells ≤ 601000 ∧ slots ≤ 7290000) (hN : N ≤ 1000) (h : INV A Q N M) (K : ∀ A' Q' M', INV A' Q' (N + 1) M' → LWL G Z cells slots 1067 (lsL i) [] M') : LWL G Z cells slots 544 (lsL i) [] M := by
  obtain ⟨a, M1, M2, A', Q', e1, e2, h'⟩ := pr_undo  h
  refine g_aload_n (iRow iCL_law_12 9 rfl) rfl rfl ?_
  refine g_callV (k := 12) (n := 0) (As := []) (rest := []) (r := some (vI (bI a))) (mc := 0) (ms := 0) (top' := mT) (iRow iCL_law_12 10 rfl) lL_65 iX11_undo ko_12 rfl rfl rfl rfl (t_X11_undo 0 e1) ⟨by show 0 + 1 + 1 ≤ 2048; decide, by show 8 + (1 + 11) + 40 * (0 + 1) ≤ 84000; decide⟩ (Nat.le_of_ble_eq_true rfl) ⟨by show _ ≤ 601024; omega, by show _ ≤ 7293034; omega⟩ mAl_none (Nat.le_refl _) ?_
  refine g_aload_n (iRow iCL_law_12 11 rfl) rfl rfl ?_
  refine g_callV (k := 13) (n := 0) (As := []) (rest := [vI (bI a)]) (r := some (vI (bI a))) (mc := 0) (ms := 0) (top' := mT) (iRow iCL_law_12 12 rfl) lL_69 iX12_undo ko_13 rfl rfl rfl rfl (t_X12_undo 0 e2) ⟨by show 0 + 1 + 1 ≤ 2048; decide, by show 8 + (1 + 11) + 40 * (0 + 1) ≤ 84000; decide⟩ (Nat.le_of_ble_eq_true rfl) ⟨by show _ ≤ 601024; omega, by show _ ≤ 7293034; omega⟩ mAl_none (Nat.le_refl _) ?_
  exact g_icmp_eq (tgt := 1067) (iRow iCL_law_12 13 rfl) (by decide) (fun _ => K A' Q' M2 h') (fun hx => absurd rfl hx)
theorem law_11 {A : sty} {Q : nmt} {N : Nat} (hL : gL G ≤ 3584) (hi : i + 7 ≤ gL G) (hc : cells ≤ 601000 ∧ slots ≤ 7290000) (hN : N ≤ 1000) (h : INV A Q N M) (K : ∀ A' Q' M', INV A' Q' (N + 1) M' → LWL G Z cells slots 1067 (lsL i) [] M') : LWL G Z cells slots 557 (lsL i) [] M := by
  obtain ⟨a, M1, M2, A', Q', e1, e2, h'⟩ := pr_judged (gx G (i + 1)) h
  refine g_aload_n (iRow iCL_law_12 16 rfl) rfl rfl ?_
  refine lw_arg (q := 1) (q' := 1) hL (by omega) rfl rfl rfl (iRow iCL_law_12 17 rfl) (iRow iCL_law_12 18 rfl) (iRow iCL_law_12 19 rfl) (iRow iCL_law_12 20 rfl) (iRow iCL_law_12 21 rfl) ?_
  refine g_callV (k := 12) (n := 0) (As := [vI (gx G (i + 1))]) (rest := []) (r := some (vI a)) (mc := 0) (ms := 0) (top' := mT) (iRow iCL_law_12 22 rfl) lL_70 iX11_judged ko_12 rfl rfl rfl rfl (t_X11_judged 0 e1) ⟨by show 0 + 7 + 1 ≤ 2048; decide, by show 8 + (2 + 11) + 40 * (0 + 7) ≤ 84000; decide⟩ (Nat.le_of_ble_eq_true rfl) ⟨by show _ ≤ 601024; omega, by show _ ≤ 7293034; omega⟩ mAl_none (Nat.le_refl _) ?_
  refine g_aload_n (iRow iCL_law_12 23 rfl) rfl rfl ?_
  refine lw_arg (q := 1) (q' := 1) hL (by omega) rfl rfl rfl (iRow iCL_law_13 0 rfl) (iRow iCL_law_13 1 rfl) (iRow iCL_law_13 2 rfl) (iRow iCL_law_13 3 rfl) (iRow iCL_law_13 4 rfl) ?_
  refine g_callV (k := 13) (n := 0) (As := [vI (gx G (i + 1))]) (rest := [vI a]) (r := some (vI a)) (mc := 0) (ms := 0) (top' := mT) (iRow iCL_law_13 5 rfl) lL_73 iX12_judged ko_13 rfl rfl rfl rfl (t_X12_judged 0 e2) ⟨by show 0 + 9 + 1 ≤ 2048; decide, by show 8 + (5 + 11) + 40 * (0 + 9) ≤ 84000; decide⟩ (Nat.le_of_ble_eq_true rfl) ⟨by show _ ≤ 601024; omega, by show _ ≤ 7293034; omega⟩ mAl_none (Nat.le_refl _) ?_
  exact g_icmp_eq (tgt := 1067) (iRow iCL_law_13 6 rfl) (by decide) (fun _ => K A' Q' M2 h') (fun hx => absurd rfl hx)
theorem law_12 {A : sty} {Q : nmt} {N : Nat} (hL : gL G ≤ 3584) (hi : i + 7 ≤ gL G) (hc : cells ≤ 601000 ∧ slots ≤ 7290000) (hN : N ≤ 1000) (h : INV A Q N M) (K : ∀ A' Q' M', INV A' Q' (N + 1) M' → LWL G Z cells slots 1067 (lsL i) [] M') : LWL G Z cells slots 582 (lsL i) [] M := by
  obtain ⟨a, M1, M2, A', Q', e1, e2, h'⟩ := pr_bears hN  h
  refine g_aload_n (iRow iCL_law_13 9 rfl) rfl rfl ?_
  refine g_callV (k := 12) (n := 0) (As := []) (rest := []) (r := some (vI a)) (mc := 0) (ms := 0) (top' := mT) (iRow iCL_law_13 10 rfl) lL_74 iX11_bears ko_12 rfl rfl rfl rfl (t_X11_bears 0 e1) ⟨by show 0 + 5 + 1 ≤ 2048; decide, by show 8 + (1 + 11) + 40 * (0 + 5) ≤ 84000; decide⟩ (Nat.le_of_ble_eq_true rfl) ⟨by show _ ≤ 601024; omega, by show _ ≤ 7293034; omega⟩ mAl_none (Nat.le_refl _) ?_
  refine g_aload_n (iRow iCL_law_13 11 rfl) rfl rfl ?_
  refine g_callV (k := 13) (n := 0) (As := []) (rest := [vI a]) (r := some (vI a)) (mc := 0) (ms := 0) (top' := mT) (iRow iCL_law_13 12 rfl) lL_77 iX12_bears ko_13 rfl rfl rfl rfl (t_X12_bears 0 e2) ⟨by show 0 + 5 + 1 ≤ 2048; decide, by show 8 + (6 + 11) + 40 * (0 + 5) ≤ 84000; decide⟩ (Nat.le_of_ble_eq_true rfl) ⟨by show _ ≤ 601024; omega, by show _ ≤ 7293034; omega⟩ mAl_none (Nat.le_refl _) ?_
  exact g_icmp_eq (tgt := 1067) (iRow iCL_law_13 13 rfl) (by decide) (fun _ => K A' Q' M2 h') (fun hx => absurd rfl hx)
theorem law_13 {A : sty} {Q : nmt} {N : Nat} (hL : gL G ≤ 3584) (hi : i + 7 ≤ gL G) (hc : cells ≤ 601000 ∧ slots ≤ 7290000) (hN : N ≤ 1000) (h : INV A Q N M) (K : ∀ A' Q' M', INV A' Q' (N + 1) M' → LWL G Z cells slots 1067 (lsL i) [] M') : LWL G Z cells slots 595 (lsL i) [] M := by
  obtain ⟨a, M1, M2, A', Q', e1, e2, h'⟩ := pr_stands hN (gx G (i + 1)) h
  refine g_aload_n (iRow iCL_law_13 16 rfl) rfl rfl ?_
  refine lw_arg (q := 1) (q' := 1) hL (by omega) rfl rfl rfl (iRow iCL_law_13 17 rfl) (iRow iCL_law_13 18 rfl) (iRow iCL_law_13 19 rfl) (iRow iCL_law_13 20 rfl) (iRow iCL_law_13 21 rfl) ?_
  refine g_callV (k := 12) (n := 0) (As := [vI (gx G (i + 1))]) (rest := []) (r := some (vI a)) (mc := 0) (ms := 0) (top' := mT) (iRow iCL_law_13 22 rfl) lL_78 iX11_stands ko_12 rfl rfl rfl rfl (t_X11_stands 0 e1) ⟨by show 0 + 5 + 1 ≤ 2048; decide, by show 8 + (2 + 11) + 40 * (0 + 5) ≤ 84000; decide⟩ (Nat.le_of_ble_eq_true rfl) ⟨by show _ ≤ 601024; omega, by show _ ≤ 7293034; omega⟩ mAl_none (Nat.le_refl _) ?_
  refine g_aload_n (iRow iCL_law_13 23 rfl) rfl rfl ?_
  refine lw_arg (q := 1) (q' := 1) hL (by omega) rfl rfl rfl (iRow iCL_law_14 0 rfl) (iRow iCL_law_14 1 rfl) (iRow iCL_law_14 2 rfl) (iRow iCL_law_14 3 rfl) (iRow iCL_law_14 4 rfl) ?_
  refine g_callV (k := 13) (n := 0) (As := [vI (gx G (i + 1))]) (rest := [vI a]) (r := some (vI a)) (mc := 0) (ms := 0) (top' := mT) (iRow iCL_law_14 5 rfl) lL_81 iX12_stands ko_13 rfl rfl rfl rfl (t_X12_stands 0 e2) ⟨by show 0 + 7 + 1 ≤ 2048; decide, by show 8 + (2 + 11) + 40 * (0 + 7) ≤ 84000; decide⟩ (Nat.le_of_ble_eq_true rfl) ⟨by show _ ≤ 601024; omega, by show _ ≤ 7293034; omega⟩ mAl_none (Nat.le_refl _) ?_
  exact g_icmp_eq (tgt := 1067) (iRow iCL_law_14 6 rfl) (by decide) (fun _ => K A' Q' M2 h') (fun hx => absurd rfl hx)
theorem law_14 {A : sty} {Q : nmt} {N : Nat} (hL : gL G ≤ 3584) (hi : i + 7 ≤ gL G) (hc : cells ≤ 601000 ∧ slots ≤ 7290000) (hN : N ≤ 1000) (h : INV A Q N M) (K : ∀ A' Q' M', INV A' Q' (N + 1) M' → LWL G Z cells slots 1067 (lsL i) [] M') : LWL G Z cells slots 620 (lsL i) [] M := by
  obtain ⟨a, M1, M2, A', Q', e1, e2, h'⟩ := pr_weakest hN (gx G (i + 1)) h
  refine g_aload_n (iRow iCL_law_14 9 rfl) rfl rfl ?_
  refine lw_arg (q := 1) (q' := 1) hL (by omega) rfl rfl rfl (iRow iCL_law_14 10 rfl) (iRow iCL_law_14 11 rfl) (iRow iCL_law_14 12 rfl) (iRow iCL_law_14 13 rfl) (iRow iCL_law_14 14 rfl) ?_
  refine g_callV (k := 12) (n := 0) (As := [vI (gx G (i + 1))]) (rest := []) (r := some (vI a)) (mc := 0) (ms := 0) (top' := mT) (iRow iCL_law_14 15 rfl) lL_82 iX11_weakest ko_12 rfl rfl rfl rfl (t_X11_weakest 0 e1) ⟨by show 0 + 6 + 1 ≤ 2048; decide, by show 8 + (2 + 11) + 40 * (0 + 6) ≤ 84000; decide⟩ (Nat.le_of_ble_eq_true rfl) ⟨by show _ ≤ 601024; omega, by show _ ≤ 7293034; omega⟩ mAl_none (Nat.le_refl _) ?_
  refine g_aload_n (iRow iCL_law_14 16 rfl) rfl rfl ?_
  refine lw_arg (q := 1) (q' := 1) hL (by omega) rfl rfl rfl (iRow iCL_law_14 17 rfl) (iRow iCL_law_14 18 rfl) (iRow iCL_law_14 19 rfl) (iRow iCL_law_14 20 rfl) (iRow iCL_law_14 21 rfl) ?_
  refine g_callV (k := 13) (n := 0) (As := [vI (gx G (i + 1))]) (rest := [vI a]) (r := some (vI a)) (mc := 0) (ms := 0) (top' := mT) (iRow iCL_law_14 22 rfl) lL_85 iX12_weakest ko_13 rfl rfl rfl rfl (t_X12_weakest 0 e2) ⟨by show 0 + 7 + 1 ≤ 2048; decide, by show 8 + (4 + 11) + 40 * (0 + 7) ≤ 84000; decide⟩ (Nat.le_of_ble_eq_true rfl) ⟨by show _ ≤ 601024; omega, by show _ ≤ 7293034; omega⟩ mAl_none (Nat.le_refl _) ?_
  exact g_icmp_eq (tgt := 1067) (iRow iCL_law_14 23 rfl) (by decide) (fun _ => K A' Q' M2 h') (fun hx => absurd rfl hx)
theorem law_15 {A : sty} {Q : nmt} {N : Nat} (hL : gL G ≤ 3584) (hi : i + 7 ≤ gL G) (hc : cells ≤ 601000 ∧ slots ≤ 7290000) (hN : N ≤ 1000) (h : INV A Q N M) (K : ∀ A' Q' M', INV A' Q' (N + 1) M' → LWL G Z cells slots 1067 (lsL i) [] M') : LWL G Z cells slots 645 (lsL i) [] M := by
  obtain ⟨a, M1, M2, A', Q', e1, e2, h'⟩ := pr_sure hN (gx G (i + 1)) h
  refine g_aload_n (iRow iCL_law_15 2 rfl) rfl rfl ?_
  refine lw_arg (q := 1) (q' := 1) hL (by omega) rfl rfl rfl (iRow iCL_law_15 3 rfl) (iRow iCL_law_15 4 rfl) (iRow iCL_law_15 5 rfl) (iRow iCL_law_15 6 rfl) (iRow iCL_law_15 7 rfl) ?_
  refine g_callV (k := 12) (n := 0) (As := [vI (gx G (i + 1))]) (rest := []) (r := some (vI a)) (mc := 0) (ms := 0) (top' := mT) (iRow iCL_law_15 8 rfl) lL_86 iX11_sure ko_12 rfl rfl rfl rfl (t_X11_sure 0 e1) ⟨by show 0 + 6 + 1 ≤ 2048; decide, by show 8 + (2 + 11) + 40 * (0 + 6) ≤ 84000; decide⟩ (Nat.le_of_ble_eq_true rfl) ⟨by show _ ≤ 601024; omega, by show _ ≤ 7293034; omega⟩ mAl_none (Nat.le_refl _) ?_
  refine g_aload_n (iRow iCL_law_15 9 rfl) rfl rfl ?_
  refine lw_arg (q := 1) (q' := 1) hL (by omega) rfl rfl rfl (iRow iCL_law_15 10 rfl) (iRow iCL_law_15 11 rfl) (iRow iCL_law_15 12 rfl) (iRow iCL_law_15 13 rfl) (iRow iCL_law_15 14 rfl) ?_
  refine g_callV (k := 13) (n := 0) (As := [vI (gx G (i + 1))]) (rest := [vI a]) (r := some (vI a)) (mc := 0) (ms := 0) (top' := mT) (iRow iCL_law_15 15 rfl) lL_89 iX12_sure ko_13 rfl rfl rfl rfl (t_X12_sure 0 e2) ⟨by show 0 + 8 + 1 ≤ 2048; decide, by show 8 + (2 + 11) + 40 * (0 + 8) ≤ 84000; decide⟩ (Nat.le_of_ble_eq_true rfl) ⟨by show _ ≤ 601024; omega, by show _ ≤ 7293034; omega⟩ mAl_none (Nat.le_refl _) ?_
  exact g_icmp_eq (tgt := 1067) (iRow iCL_law_15 16 rfl) (by decide) (fun _ => K A' Q' M2 h') (fun hx => absurd rfl hx)
theorem law_16 {A : sty} {Q : nmt} {N : Nat} (hL : gL G ≤ 3584) (hi : i + 7 ≤ gL G) (hc : cells ≤ 601000 ∧ slots ≤ 7290000) (hN : N ≤ 1000) (h : INV A Q N M) (K : ∀ A' Q' M', INV A' Q' (N + 1) M' → LWL G Z cells slots 1067 (lsL i) [] M') : LWL G Z cells slots 670 (lsL i) [] M := by
  obtain ⟨a, M1, M2, A', Q', e1, e2, h'⟩ := pr_surest hN (gx G (i + 1)) (gx G (i + 2)) h
  refine g_aload_n (iRow iCL_law_15 19 rfl) rfl rfl ?_
  refine lw_arg (q := 1) (q' := 1) hL (by omega) rfl rfl rfl (iRow iCL_law_15 20 rfl) (iRow iCL_law_15 21 rfl) (iRow iCL_law_15 22 rfl) (iRow iCL_law_15 23 rfl) (iRow iCL_law_16 0 rfl) ?_
  refine lw_arg (q := 2) (q' := 2) hL (by omega) rfl rfl rfl (iRow iCL_law_16 1 rfl) (iRow iCL_law_16 2 rfl) (iRow iCL_law_16 3 rfl) (iRow iCL_law_16 4 rfl) (iRow iCL_law_16 5 rfl) ?_
  refine g_callV (k := 12) (n := 0) (As := [vI (gx G (i + 1)), vI (gx G (i + 2))]) (rest := []) (r := some (vI a)) (mc := 0) (ms := 0) (top' := mT) (iRow iCL_law_16 6 rfl) lL_90 iX11_surest ko_12 rfl rfl rfl rfl (t_X11_surest 0 e1) ⟨by show 0 + 6 + 1 ≤ 2048; decide, by show 8 + (3 + 11) + 40 * (0 + 6) ≤ 84000; decide⟩ (Nat.le_of_ble_eq_true rfl) ⟨by show _ ≤ 601024; omega, by show _ ≤ 7293034; omega⟩ mAl_none (Nat.le_refl _) ?_
  refine g_aload_n (iRow iCL_law_16 7 rfl) rfl rfl ?_
  refine lw_arg (q := 1) (q' := 1) hL (by omega) rfl rfl rfl (iRow iCL_law_16 8 rfl) (iRow iCL_law_16 9 rfl) (iRow iCL_law_16 10 rfl) (iRow iCL_law_16 11 rfl) (iRow iCL_law_16 12 rfl) ?_
  refine lw_arg (q := 2) (q' := 2) hL (by omega) rfl rfl rfl (iRow iCL_law_16 13 rfl) (iRow iCL_law_16 14 rfl) (iRow iCL_law_16 15 rfl) (iRow iCL_law_16 16 rfl) (iRow iCL_law_16 17 rfl) ?_
  refine g_callV (k := 13) (n := 0) (As := [vI (gx G (i + 1)), vI (gx G (i + 2))]) (rest := [vI a]) (r := some (vI a)) (mc := 0) (ms := 0) (top' := mT) (iRow iCL_law_16 18 rfl) lL_93 iX12_surest ko_13 rfl rfl rfl rfl (t_X12_surest 0 e2) ⟨by show 0 + 8 + 1 ≤ 2048; decide, by show 8 + (9 + 11) + 40 * (0 + 8) ≤ 84000; decide⟩ (Nat.le_of_ble_eq_true rfl) ⟨by show _ ≤ 601024; omega, by show _ ≤ 7293034; omega⟩ mAl_none (Nat.le_refl _) ?_
  exact g_icmp_eq (tgt := 1067) (iRow iCL_law_16 19 rfl) (by decide) (fun _ => K A' Q' M2 h') (fun hx => absurd rfl hx)
theorem law_17 {A : sty} {Q : nmt} {N : Nat} (hL : gL G ≤ 3584) (hi : i + 7 ≤ gL G) (hc : cells ≤ 601000 ∧ slots ≤ 7290000) (hN : N ≤ 1000) (h : INV A Q N M) (K : ∀ A' Q' M', INV A' Q' (N + 1) M' → LWL G Z cells slots 1067 (lsL i) [] M') : LWL G Z cells slots 707 (lsL i) [] M := by
  obtain ⟨a, M1, M2, A', Q', e1, e2, h'⟩ := pr_keep hN  h
  refine g_aload_n (iRow iCL_law_16 22 rfl) rfl rfl ?_
  refine g_callV (k := 12) (n := 0) (As := []) (rest := []) (r := some (vI a)) (mc := 0) (ms := 0) (top' := mT) (iRow iCL_law_16 23 rfl) lL_94 iX11_keep ko_12 rfl rfl rfl rfl (t_X11_keep 0 e1) ⟨by show 0 + 6 + 1 ≤ 2048; decide, by show 8 + (1 + 11) + 40 * (0 + 6) ≤ 84000; decide⟩ (Nat.le_of_ble_eq_true rfl) ⟨by show _ ≤ 601024; omega, by show _ ≤ 7293034; omega⟩ mAl_none (Nat.le_refl _) ?_
  refine g_aload_n (iRow iCL_law_17 0 rfl) rfl rfl ?_
  refine g_callV (k := 13) (n := 0) (As := []) (rest := [vI a]) (r := some (vI a)) (mc := 0) (ms := 0) (top' := mT) (iRow iCL_law_17 1 rfl) lL_97 iX12_keep ko_13 rfl rfl rfl rfl (t_X12_keep 0 e2) ⟨by show 0 + 7 + 1 ≤ 2048; decide, by show 8 + (4 + 11) + 40 * (0 + 7) ≤ 84000; decide⟩ (Nat.le_of_ble_eq_true rfl) ⟨by show _ ≤ 601024; omega, by show _ ≤ 7293034; omega⟩ mAl_none (Nat.le_refl _) ?_
  exact g_icmp_eq (tgt := 1067) (iRow iCL_law_17 2 rfl) (by decide) (fun _ => K A' Q' M2 h') (fun hx => absurd rfl hx)
theorem law_18 {A : sty} {Q : nmt} {N : Nat} (hL : gL G ≤ 3584) (hi : i + 7 ≤ gL G) (hc : cells ≤ 601000 ∧ slots ≤ 7290000) (hN : N ≤ 1000) (h : INV A Q N M) (K : ∀ A' Q' M', INV A' Q' (N + 1) M' → LWL G Z cells slots 1067 (lsL i) [] M') : LWL G Z cells slots 720 (lsL i) [] M := by
  obtain ⟨a, M1, M2, A', Q', e1, e2, h'⟩ := pr_repair hN (gx G (i + 1)) (gx G (i + 2)) h
  refine g_aload_n (iRow iCL_law_17 5 rfl) rfl rfl ?_
  refine lw_arg (q := 1) (q' := 1) hL (by omega) rfl rfl rfl (iRow iCL_law_17 6 rfl) (iRow iCL_law_17 7 rfl) (iRow iCL_law_17 8 rfl) (iRow iCL_law_17 9 rfl) (iRow iCL_law_17 10 rfl) ?_
  refine lw_arg (q := 2) (q' := 2) hL (by omega) rfl rfl rfl (iRow iCL_law_17 11 rfl) (iRow iCL_law_17 12 rfl) (iRow iCL_law_17 13 rfl) (iRow iCL_law_17 14 rfl) (iRow iCL_law_17 15 rfl) ?_
  refine g_callV (k := 12) (n := 0) (As := [vI (gx G (i + 1)), vI (gx G (i + 2))]) (rest := []) (r := some (vI a)) (mc := 0) (ms := 0) (top' := mT) (iRow iCL_law_17 16 rfl) lL_98 iX11_repair ko_12 rfl rfl rfl rfl (t_X11_repair 0 e1) ⟨by show 0 + 7 + 1 ≤ 2048; decide, by show 8 + (3 + 11) + 40 * (0 + 7) ≤ 84000; decide⟩ (Nat.le_of_ble_eq_true rfl) ⟨by show _ ≤ 601024; omega, by show _ ≤ 7293034; omega⟩ mAl_none (Nat.le_refl _) ?_
  refine g_aload_n (iRow iCL_law_17 17 rfl) rfl rfl ?_
  refine lw_arg (q := 1) (q' := 1) hL (by omega) rfl rfl rfl (iRow iCL_law_17 18 rfl) (iRow iCL_law_17 19 rfl) (iRow iCL_law_17 20 rfl) (iRow iCL_law_17 21 rfl) (iRow iCL_law_17 22 rfl) ?_
  refine lw_arg (q := 2) (q' := 2) hL (by omega) rfl rfl rfl (iRow iCL_law_17 23 rfl) (iRow iCL_law_18 0 rfl) (iRow iCL_law_18 1 rfl) (iRow iCL_law_18 2 rfl) (iRow iCL_law_18 3 rfl) ?_
  refine g_callV (k := 13) (n := 0) (As := [vI (gx G (i + 1)), vI (gx G (i + 2))]) (rest := [vI a]) (r := some (vI a)) (mc := 0) (ms := 0) (top' := mT) (iRow iCL_law_18 4 rfl) lL_101 iX12_repair ko_13 rfl rfl rfl rfl (t_X12_repair 0 e2) ⟨by show 0 + 14 + 1 ≤ 2048; decide, by show 8 + (3 + 11) + 40 * (0 + 14) ≤ 84000; decide⟩ (Nat.le_of_ble_eq_true rfl) ⟨by show _ ≤ 601024; omega, by show _ ≤ 7293034; omega⟩ mAl_none (Nat.le_refl _) ?_
  exact g_icmp_eq (tgt := 1067) (iRow iCL_law_18 5 rfl) (by decide) (fun _ => K A' Q' M2 h') (fun hx => absurd rfl hx)
theorem law_19 {A : sty} {Q : nmt} {N : Nat} (hL : gL G ≤ 3584) (hi : i + 7 ≤ gL G) (hc : cells ≤ 601000 ∧ slots ≤ 7290000) (hN : N ≤ 1000) (h : INV A Q N M) (K : ∀ A' Q' M', INV A' Q' (N + 1) M' → LWL G Z cells slots 1067 (lsL i) [] M') : LWL G Z cells slots 757 (lsL i) [] M := by
  obtain ⟨a, M1, M2, A', Q', e1, e2, h'⟩ := pr_hear (gx G (i + 1)) (decide (gx G (i + 2) ≠ 0)) h
  refine g_aload_n (iRow iCL_law_18 8 rfl) rfl rfl ?_
  refine lw_arg (q := 1) (q' := 1) hL (by omega) rfl rfl rfl (iRow iCL_law_18 9 rfl) (iRow iCL_law_18 10 rfl) (iRow iCL_law_18 11 rfl) (iRow iCL_law_18 12 rfl) (iRow iCL_law_18 13 rfl) ?_
  refine lw_arg (q := 2) (q' := 2) hL (by omega) rfl rfl rfl (iRow iCL_law_18 14 rfl) (iRow iCL_law_18 15 rfl) (iRow iCL_law_18 16 rfl) (iRow iCL_law_18 17 rfl) (iRow iCL_law_18 18 rfl) ?_
  refine lw_ne (pcj := 778) (iRow iCL_law_18 19 rfl) (by decide) (iRow iCL_law_18 20 rfl) (iRow iCL_law_18 21 rfl) (by decide) (iRow iCL_law_18 22 rfl) ?_
  refine g_callV (k := 12) (n := 0) (As := [vI (gx G (i + 1)), vI (bI (decide (gx G (i + 2) ≠ 0)))]) (rest := []) (r := some (vI (bI a))) (mc := 0) (ms := 0) (top' := mT) (iRow iCL_law_18 23 rfl) lL_102 iX11_hear ko_12 rfl rfl rfl rfl (t_X11_hear 0 e1) ⟨by show 0 + 1 + 1 ≤ 2048; decide, by show 8 + (3 + 11) + 40 * (0 + 1) ≤ 84000; decide⟩ (Nat.le_of_ble_eq_true rfl) ⟨by show _ ≤ 601024; omega, by show _ ≤ 7293034; omega⟩ mAl_none (Nat.le_refl _) ?_
  refine g_aload_n (iRow iCL_law_19 0 rfl) rfl rfl ?_
  refine lw_arg (q := 1) (q' := 1) hL (by omega) rfl rfl rfl (iRow iCL_law_19 1 rfl) (iRow iCL_law_19 2 rfl) (iRow iCL_law_19 3 rfl) (iRow iCL_law_19 4 rfl) (iRow iCL_law_19 5 rfl) ?_
  refine lw_arg (q := 2) (q' := 2) hL (by omega) rfl rfl rfl (iRow iCL_law_19 6 rfl) (iRow iCL_law_19 7 rfl) (iRow iCL_law_19 8 rfl) (iRow iCL_law_19 9 rfl) (iRow iCL_law_19 10 rfl) ?_
  refine lw_ne (pcj := 802) (iRow iCL_law_19 11 rfl) (by decide) (iRow iCL_law_19 12 rfl) (iRow iCL_law_19 13 rfl) (by decide) (iRow iCL_law_19 14 rfl) ?_
  refine g_callV (k := 13) (n := 0) (As := [vI (gx G (i + 1)), vI (bI (decide (gx G (i + 2) ≠ 0)))]) (rest := [vI (bI a)]) (r := some (vI (bI a))) (mc := 0) (ms := 0) (top' := mT) (iRow iCL_law_19 15 rfl) lL_106 iX12_hear ko_13 rfl rfl rfl rfl (t_X12_hear 0 e2) ⟨by show 0 + 1 + 1 ≤ 2048; decide, by show 8 + (3 + 11) + 40 * (0 + 1) ≤ 84000; decide⟩ (Nat.le_of_ble_eq_true rfl) ⟨by show _ ≤ 601024; omega, by show _ ≤ 7293034; omega⟩ mAl_none (Nat.le_refl _) ?_
  exact g_icmp_eq (tgt := 1067) (iRow iCL_law_19 16 rfl) (by decide) (fun _ => K A' Q' M2 h') (fun hx => absurd rfl hx)
theorem law_20 {A : sty} {Q : nmt} {N : Nat} (hL : gL G ≤ 3584) (hi : i + 7 ≤ gL G) (hc : cells ≤ 601000 ∧ slots ≤ 7290000) (hN : N ≤ 1000) (h : INV A Q N M) (K : ∀ A' Q' M', INV A' Q' (N + 1) M' → LWL G Z cells slots 1067 (lsL i) [] M') : LWL G Z cells slots 810 (lsL i) [] M := by
  obtain ⟨a, M1, M2, A', Q', e1, e2, h'⟩ := pr_broken hN (gx G (i + 1)) (gx G (i + 2)) h
  refine g_aload_n (iRow iCL_law_19 19 rfl) rfl rfl ?_
  refine lw_arg (q := 1) (q' := 1) hL (by omega) rfl rfl rfl (iRow iCL_law_19 20 rfl) (iRow iCL_law_19 21 rfl) (iRow iCL_law_19 22 rfl) (iRow iCL_law_19 23 rfl) (iRow iCL_law_20 0 rfl) ?_
  refine lw_arg (q := 2) (q' := 2) hL (by omega) rfl rfl rfl (iRow iCL_law_20 1 rfl) (iRow iCL_law_20 2 rfl) (iRow iCL_law_20 3 rfl) (iRow iCL_law_20 4 rfl) (iRow iCL_law_20 5 rfl) ?_
  refine g_callV (k := 12) (n := 0) (As := [vI (gx G (i + 1)), vI (gx G (i + 2))]) (rest := []) (r := some (vI a)) (mc := 0) (ms := 0) (top' := mT) (iRow iCL_law_20 6 rfl) lL_107 iX11_broken ko_12 rfl rfl rfl rfl (t_X11_broken 0 e1) ⟨by show 0 + 7 + 1 ≤ 2048; decide, by show 8 + (3 + 11) + 40 * (0 + 7) ≤ 84000; decide⟩ (Nat.le_of_ble_eq_true rfl) ⟨by show _ ≤ 601024; omega, by show _ ≤ 7293034; omega⟩ mAl_none (Nat.le_refl _) ?_
  refine g_aload_n (iRow iCL_law_20 7 rfl) rfl rfl ?_
  refine lw_arg (q := 1) (q' := 1) hL (by omega) rfl rfl rfl (iRow iCL_law_20 8 rfl) (iRow iCL_law_20 9 rfl) (iRow iCL_law_20 10 rfl) (iRow iCL_law_20 11 rfl) (iRow iCL_law_20 12 rfl) ?_
  refine lw_arg (q := 2) (q' := 2) hL (by omega) rfl rfl rfl (iRow iCL_law_20 13 rfl) (iRow iCL_law_20 14 rfl) (iRow iCL_law_20 15 rfl) (iRow iCL_law_20 16 rfl) (iRow iCL_law_20 17 rfl) ?_
  refine g_callV (k := 13) (n := 0) (As := [vI (gx G (i + 1)), vI (gx G (i + 2))]) (rest := [vI a]) (r := some (vI a)) (mc := 0) (ms := 0) (top' := mT) (iRow iCL_law_20 18 rfl) lL_110 iX12_broken ko_13 rfl rfl rfl rfl (t_X12_broken 0 e2) ⟨by show 0 + 7 + 1 ≤ 2048; decide, by show 8 + (11 + 11) + 40 * (0 + 7) ≤ 84000; decide⟩ (Nat.le_of_ble_eq_true rfl) ⟨by show _ ≤ 601024; omega, by show _ ≤ 7293034; omega⟩ mAl_none (Nat.le_refl _) ?_
  exact g_icmp_eq (tgt := 1067) (iRow iCL_law_20 19 rfl) (by decide) (fun _ => K A' Q' M2 h') (fun hx => absurd rfl hx)
theorem law_21 {A : sty} {Q : nmt} {N : Nat} (hL : gL G ≤ 3584) (hi : i + 7 ≤ gL G) (hc : cells ≤ 601000 ∧ slots ≤ 7290000) (hN : N ≤ 1000) (h : INV A Q N M) (K : ∀ A' Q' M', INV A' Q' (N + 1) M' → LWL G Z cells slots 1067 (lsL i) [] M') : LWL G Z cells slots 847 (lsL i) [] M := by
  obtain ⟨a, M1, M2, A', Q', e1, e2, h'⟩ := pr_rests hN (gx G (i + 1)) h
  refine g_aload_n (iRow iCL_law_20 22 rfl) rfl rfl ?_
  refine lw_arg (q := 1) (q' := 1) hL (by omega) rfl rfl rfl (iRow iCL_law_20 23 rfl) (iRow iCL_law_21 0 rfl) (iRow iCL_law_21 1 rfl) (iRow iCL_law_21 2 rfl) (iRow iCL_law_21 3 rfl) ?_
  refine g_callV (k := 12) (n := 0) (As := [vI (gx G (i + 1))]) (rest := []) (r := some (vI a)) (mc := 0) (ms := 0) (top' := mT) (iRow iCL_law_21 4 rfl) lL_111 iX11_rests ko_12 rfl rfl rfl rfl (t_X11_rests 0 e1) ⟨by show 0 + 7 + 1 ≤ 2048; decide, by show 8 + (4 + 11) + 40 * (0 + 7) ≤ 84000; decide⟩ (Nat.le_of_ble_eq_true rfl) ⟨by show _ ≤ 601024; omega, by show _ ≤ 7293034; omega⟩ mAl_none (Nat.le_refl _) ?_
  refine g_aload_n (iRow iCL_law_21 5 rfl) rfl rfl ?_
  refine lw_arg (q := 1) (q' := 1) hL (by omega) rfl rfl rfl (iRow iCL_law_21 6 rfl) (iRow iCL_law_21 7 rfl) (iRow iCL_law_21 8 rfl) (iRow iCL_law_21 9 rfl) (iRow iCL_law_21 10 rfl) ?_
  refine g_callV (k := 13) (n := 0) (As := [vI (gx G (i + 1))]) (rest := [vI a]) (r := some (vI a)) (mc := 0) (ms := 0) (top' := mT) (iRow iCL_law_21 11 rfl) lL_114 iX12_rests ko_13 rfl rfl rfl rfl (t_X12_rests 0 e2) ⟨by show 0 + 8 + 1 ≤ 2048; decide, by show 8 + (6 + 11) + 40 * (0 + 8) ≤ 84000; decide⟩ (Nat.le_of_ble_eq_true rfl) ⟨by show _ ≤ 601024; omega, by show _ ≤ 7293034; omega⟩ mAl_none (Nat.le_refl _) ?_
  exact g_icmp_eq (tgt := 1067) (iRow iCL_law_21 12 rfl) (by decide) (fun _ => K A' Q' M2 h') (fun hx => absurd rfl hx)
theorem law_23 {A : sty} {Q : nmt} {N : Nat} (hL : gL G ≤ 3584) (hi : i + 7 ≤ gL G) (hc : cells ≤ 601000 ∧ slots ≤ 7290000) (hN : N ≤ 1000) (h : INV A Q N M) (K : ∀ A' Q' M', INV A' Q' (N + 1) M' → LWL G Z cells slots 1067 (lsL i) [] M') : LWL G Z cells slots 940 (lsL i) [] M := by
  obtain ⟨a, M1, M2, A', Q', e1, e2, h'⟩ := pr_centuries hN (gx G (i + 1)) (gx G (i + 2)) (gx G (i + 3)) h
  refine g_aload_n (iRow iCL_law_23 12 rfl) rfl rfl ?_
  refine lw_arg (q := 1) (q' := 1) hL (by omega) rfl rfl rfl (iRow iCL_law_23 13 rfl) (iRow iCL_law_23 14 rfl) (iRow iCL_law_23 15 rfl) (iRow iCL_law_23 16 rfl) (iRow iCL_law_23 17 rfl) ?_
  refine lw_arg (q := 2) (q' := 2) hL (by omega) rfl rfl rfl (iRow iCL_law_23 18 rfl) (iRow iCL_law_23 19 rfl) (iRow iCL_law_23 20 rfl) (iRow iCL_law_23 21 rfl) (iRow iCL_law_23 22 rfl) ?_
  refine lw_arg (q := 3) (q' := 3) hL (by omega) rfl rfl rfl (iRow iCL_law_23 23 rfl) (iRow iCL_law_24 0 rfl) (iRow iCL_law_24 1 rfl) (iRow iCL_law_24 2 rfl) (iRow iCL_law_24 3 rfl) ?_
  refine g_callV (k := 12) (n := 0) (As := [vI (gx G (i + 1)), vI (gx G (i + 2)), vI (gx G (i + 3))]) (rest := []) (r := some (vI a)) (mc := 0) (ms := 0) (top' := mT) (iRow iCL_law_24 4 rfl) lL_124 iX11_centuries ko_12 rfl rfl rfl rfl (t_X11_centuries 0 e1) ⟨by show 0 + 7 + 1 ≤ 2048; decide, by show 8 + (4 + 11) + 40 * (0 + 7) ≤ 84000; decide⟩ (Nat.le_of_ble_eq_true rfl) ⟨by show _ ≤ 601024; omega, by show _ ≤ 7293034; omega⟩ mAl_none (Nat.le_refl _) ?_
  refine g_aload_n (iRow iCL_law_24 5 rfl) rfl rfl ?_
  refine lw_arg (q := 1) (q' := 1) hL (by omega) rfl rfl rfl (iRow iCL_law_24 6 rfl) (iRow iCL_law_24 7 rfl) (iRow iCL_law_24 8 rfl) (iRow iCL_law_24 9 rfl) (iRow iCL_law_24 10 rfl) ?_
  refine lw_arg (q := 2) (q' := 2) hL (by omega) rfl rfl rfl (iRow iCL_law_24 11 rfl) (iRow iCL_law_24 12 rfl) (iRow iCL_law_24 13 rfl) (iRow iCL_law_24 14 rfl) (iRow iCL_law_24 15 rfl) ?_
  refine lw_arg (q := 3) (q' := 3) hL (by omega) rfl rfl rfl (iRow iCL_law_24 16 rfl) (iRow iCL_law_24 17 rfl) (iRow iCL_law_24 18 rfl) (iRow iCL_law_24 19 rfl) (iRow iCL_law_24 20 rfl) ?_
  refine g_callV (k := 13) (n := 0) (As := [vI (gx G (i + 1)), vI (gx G (i + 2)), vI (gx G (i + 3))]) (rest := [vI a]) (r := some (vI a)) (mc := 0) (ms := 0) (top' := mT) (iRow iCL_law_24 21 rfl) lL_128 iX12_centuries ko_13 rfl rfl rfl rfl (t_X12_centuries 0 e2) ⟨by show 0 + 8 + 1 ≤ 2048; decide, by show 8 + (6 + 11) + 40 * (0 + 8) ≤ 84000; decide⟩ (Nat.le_of_ble_eq_true rfl) ⟨by show _ ≤ 601024; omega, by show _ ≤ 7293034; omega⟩ mAl_none (Nat.le_refl _) ?_
  exact g_icmp_eq (tgt := 1067) (iRow iCL_law_24 22 rfl) (by decide) (fun _ => K A' Q' M2 h') (fun hx => absurd rfl hx)
theorem law_24 {A : sty} {Q : nmt} {N : Nat} (hL : gL G ≤ 3584) (hi : i + 7 ≤ gL G) (hc : cells ≤ 601000 ∧ slots ≤ 7290000) (hN : N ≤ 1000) (h : INV A Q N M) (K : ∀ A' Q' M', INV A' Q' (N + 1) M' → LWL G Z cells slots 1067 (lsL i) [] M') : LWL G Z cells slots 989 (lsL i) [] M := by
  obtain ⟨a, M1, M2, A', Q', e1, e2, h'⟩ := pr_mark (gx G (i + 1)) (decide (gx G (i + 2) ≠ 0)) h
  refine g_aload_n (iRow iCL_law_25 1 rfl) rfl rfl ?_
  refine lw_arg (q := 1) (q' := 1) hL (by omega) rfl rfl rfl (iRow iCL_law_25 2 rfl) (iRow iCL_law_25 3 rfl) (iRow iCL_law_25 4 rfl) (iRow iCL_law_25 5 rfl) (iRow iCL_law_25 6 rfl) ?_
  refine lw_arg (q := 2) (q' := 2) hL (by omega) rfl rfl rfl (iRow iCL_law_25 7 rfl) (iRow iCL_law_25 8 rfl) (iRow iCL_law_25 9 rfl) (iRow iCL_law_25 10 rfl) (iRow iCL_law_25 11 rfl) ?_
  refine lw_ne (pcj := 1010) (iRow iCL_law_25 12 rfl) (by decide) (iRow iCL_law_25 13 rfl) (iRow iCL_law_25 14 rfl) (by decide) (iRow iCL_law_25 15 rfl) ?_
  refine g_callV (k := 12) (n := 0) (As := [vI (gx G (i + 1)), vI (bI (decide (gx G (i + 2) ≠ 0)))]) (rest := []) (r := some (vI (bI a))) (mc := 0) (ms := 0) (top' := mT) (iRow iCL_law_25 16 rfl) lL_129 iX11_mark ko_12 rfl rfl rfl rfl (t_X11_mark 0 e1) ⟨by show 0 + 2 + 1 ≤ 2048; decide, by show 8 + (3 + 11) + 40 * (0 + 2) ≤ 84000; decide⟩ (Nat.le_of_ble_eq_true rfl) ⟨by show _ ≤ 601024; omega, by show _ ≤ 7293034; omega⟩ mAl_none (Nat.le_refl _) ?_
  refine g_aload_n (iRow iCL_law_25 17 rfl) rfl rfl ?_
  refine lw_arg (q := 1) (q' := 1) hL (by omega) rfl rfl rfl (iRow iCL_law_25 18 rfl) (iRow iCL_law_25 19 rfl) (iRow iCL_law_25 20 rfl) (iRow iCL_law_25 21 rfl) (iRow iCL_law_25 22 rfl) ?_
  refine lw_arg (q := 2) (q' := 2) hL (by omega) rfl rfl rfl (iRow iCL_law_25 23 rfl) (iRow iCL_law_26 0 rfl) (iRow iCL_law_26 1 rfl) (iRow iCL_law_26 2 rfl) (iRow iCL_law_26 3 rfl) ?_
  refine lw_ne (pcj := 1034) (iRow iCL_law_26 4 rfl) (by decide) (iRow iCL_law_26 5 rfl) (iRow iCL_law_26 6 rfl) (by decide) (iRow iCL_law_26 7 rfl) ?_
  refine g_callV (k := 13) (n := 0) (As := [vI (gx G (i + 1)), vI (bI (decide (gx G (i + 2) ≠ 0)))]) (rest := [vI (bI a)]) (r := some (vI (bI a))) (mc := 0) (ms := 0) (top' := mT) (iRow iCL_law_26 8 rfl) lL_132 iX12_mark ko_13 rfl rfl rfl rfl (t_X12_mark 0 e2) ⟨by show 0 + 1 + 1 ≤ 2048; decide, by show 8 + (5 + 11) + 40 * (0 + 1) ≤ 84000; decide⟩ (Nat.le_of_ble_eq_true rfl) ⟨by show _ ≤ 601024; omega, by show _ ≤ 7293034; omega⟩ mAl_none (Nat.le_refl _) ?_
  exact g_icmp_eq (tgt := 1067) (iRow iCL_law_26 9 rfl) (by decide) (fun _ => K A' Q' M2 h') (fun hx => absurd rfl hx)
theorem law_25 {A : sty} {Q : nmt} {N : Nat} (hL : gL G ≤ 3584) (hi : i + 7 ≤ gL G) (hc : cells ≤ 601000 ∧ slots ≤ 7290000) (hN : N ≤ 1000) (h : INV A Q N M) (K : ∀ A' Q' M', INV A' Q' (N + 1) M' → LWL G Z cells slots 1067 (lsL i) [] M') : LWL G Z cells slots 1042 (lsL i) [] M := by
  obtain ⟨a, M1, M2, A', Q', e1, e2, h'⟩ := pr_count (gx G (i + 1)) h
  refine g_aload_n (iRow iCL_law_26 12 rfl) rfl rfl ?_
  refine lw_arg (q := 1) (q' := 1) hL (by omega) rfl rfl rfl (iRow iCL_law_26 13 rfl) (iRow iCL_law_26 14 rfl) (iRow iCL_law_26 15 rfl) (iRow iCL_law_26 16 rfl) (iRow iCL_law_26 17 rfl) ?_
  refine g_callV (k := 12) (n := 0) (As := [vI (gx G (i + 1))]) (rest := []) (r := some (vI a)) (mc := 0) (ms := 0) (top' := mT) (iRow iCL_law_26 18 rfl) lL_133 iX11_count ko_12 rfl rfl rfl rfl (t_X11_count 0 e1) ⟨by show 0 + 2 + 1 ≤ 2048; decide, by show 8 + (2 + 11) + 40 * (0 + 2) ≤ 84000; decide⟩ (Nat.le_of_ble_eq_true rfl) ⟨by show _ ≤ 601024; omega, by show _ ≤ 7293034; omega⟩ mAl_none (Nat.le_refl _) ?_
  refine g_aload_n (iRow iCL_law_26 19 rfl) rfl rfl ?_
  refine lw_arg (q := 1) (q' := 1) hL (by omega) rfl rfl rfl (iRow iCL_law_26 20 rfl) (iRow iCL_law_26 21 rfl) (iRow iCL_law_26 22 rfl) (iRow iCL_law_26 23 rfl) (iRow iCL_law_27 0 rfl) ?_
  refine g_callV (k := 13) (n := 0) (As := [vI (gx G (i + 1))]) (rest := [vI a]) (r := some (vI a)) (mc := 0) (ms := 0) (top' := mT) (iRow iCL_law_27 1 rfl) lL_136 iX12_count ko_13 rfl rfl rfl rfl (t_X12_count 0 e2) ⟨by show 0 + 1 + 1 ≤ 2048; decide, by show 8 + (2 + 11) + 40 * (0 + 1) ≤ 84000; decide⟩ (Nat.le_of_ble_eq_true rfl) ⟨by show _ ≤ 601024; omega, by show _ ≤ 7293034; omega⟩ mAl_none (Nat.le_refl _) ?_
  exact g_icmp_eq (tgt := 1067) (iRow iCL_law_27 2 rfl) (by decide) (fun _ => K A' Q' M2 h') (fun hx => absurd rfl hx)
end LC
