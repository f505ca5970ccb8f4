set_option maxHeartbeats 40000000 in
set_option maxRecDepth 20000 in
theorem j_X11_init_t1 {G : mg} {M M' : mm} (d : Nat) (h : i_X11_init_t1 M = some M') : CT G rdC yX11_init cX11_init 2 none (some 1) (d + 7) 118 7180 1 119 [vR 12 0] M none M' := by
  refine cc_v (ls := [some (vR 12 0), none]) rfl rfl (Nat.le_of_ble_eq_true rfl) (fun Z => ?_) h
  show SG G rdC (mRm (d + 7) 118 7180) (RX11, "<init>", cX11_init, 2, none, some 1) Z 1 0 0 0 [some (vR 12 0), none] [] M _ _
  unfold i_X11_init_t1
  refine q_step (g_aload_n (iRow iCX11_init_0 0 rfl) rfl rfl) ?_
  refine q_step (g_objI (iRow iCX11_init_0 1 rfl) o11_1 ⟨by show 1 ≤ d + 7; omega, by show 20 ≤ 40 * (d + 7); omega⟩ (Nat.le_of_ble_eq_true rfl)) ?_
  refine q_step (g_aload_n (iRow iCX11_init_0 2 rfl) rfl rfl) ?_
  refine q_step (topA := 2) (cellsA := 1) (slotsA := 20) (fun hh => g_new (t0 := 1) (N := 20) (n := 0) (iRow iCX11_init_0 3 rfl) n11_7 rfl ko_1 rfl rfl rfl ⟨(by show _ ≤ 118; decide), (by show _ ≤ 7180; decide)⟩ hh) ?_
  refine q_nmM (fun M1 => ?_)
  refine q_step (g_dup (iRow iCX11_init_0 4 rfl) rfl) ?_
  refine q_cv (topA := 22) (cellsA := 21) (slotsA := 1266) (stA := [vR 1 0, vR 12 0]) (fun _ h hh => g_callIN (As := []) (r := none) (iRow iCX11_init_0 5 rfl) z11_9 ii_X0_init rfl rfl (j_X0_init_t2 (d + 4) h) ⟨by show _ + 1 ≤ d + 7; omega, by show 8 + (1 + 11) + 40 * _ ≤ 40 * (d + 7); omega⟩ (Nat.le_of_ble_eq_true rfl) ⟨(by show _ ≤ 118; decide), (by show _ ≤ 7180; decide)⟩ (mAl_some rfl rfl rfl) (by decide) hh) (fun M2 => ?_)
  refine q_step (g_putR (r := 1) (iRow iCX11_init_0 6 rfl) f11_10 (Or.inl rfl) ko_12 rfl) ?_
  refine q_nmM (fun M3 => ?_)
  refine q_step (g_aload_n (iRow iCX11_init_0 7 rfl) rfl rfl) ?_
  refine q_step (topA := 23) (cellsA := 22) (slotsA := 1286) (fun hh => g_new (t0 := 1) (N := 20) (n := 1) (iRow iCX11_init_0 8 rfl) n11_7 rfl ko_1 rfl rfl rfl ⟨(by show _ ≤ 118; decide), (by show _ ≤ 7180; decide)⟩ hh) ?_
  refine q_nmM (fun M4 => ?_)
  refine q_step (g_dup (iRow iCX11_init_0 9 rfl) rfl) ?_
  refine q_cv (topA := 43) (cellsA := 42) (slotsA := 2532) (stA := [vR 1 1, vR 12 0]) (fun _ h hh => g_callIN (As := []) (r := none) (iRow iCX11_init_0 10 rfl) z11_9 ii_X0_init rfl rfl (j_X0_init_t23 (d + 4) h) ⟨by show _ + 1 ≤ d + 7; omega, by show 8 + (1 + 11) + 40 * _ ≤ 40 * (d + 7); omega⟩ (Nat.le_of_ble_eq_true rfl) ⟨(by show _ ≤ 118; decide), (by show _ ≤ 7180; decide)⟩ (mAl_some rfl rfl rfl) (by decide) hh) (fun M5 => ?_)
  refine q_step (g_putR (r := 2) (iRow iCX11_init_0 11 rfl) f11_16 (Or.inl rfl) ko_12 rfl) ?_
  refine q_nmM (fun M6 => ?_)
  refine q_step (g_aload_n (iRow iCX11_init_0 12 rfl) rfl rfl) ?_
  refine q_step (topA := 44) (cellsA := 43) (slotsA := 2538) (fun hh => g_new (t0 := 1) (N := 6) (n := 0) (iRow iCX11_init_0 13 rfl) n11_19 rfl ko_9 rfl rfl rfl ⟨(by show _ ≤ 118; decide), (by show _ ≤ 7180; decide)⟩ hh) ?_
  refine q_nmM (fun M7 => ?_)
  refine q_step (g_dup (iRow iCX11_init_0 14 rfl) rfl) ?_
  refine q_cv (topA := 46) (cellsA := 45) (slotsA := 2618) (stA := [vR 9 0, vR 12 0]) (fun _ h hh => g_callIN (As := []) (r := none) (iRow iCX11_init_0 15 rfl) z11_21 ii_X8_init rfl rfl (j_X8_init_t44 (d + 5) h) ⟨by show _ + 1 ≤ d + 7; omega, by show 8 + (1 + 11) + 40 * _ ≤ 40 * (d + 7); omega⟩ (Nat.le_of_ble_eq_true rfl) ⟨(by show _ ≤ 118; decide), (by show _ ≤ 7180; decide)⟩ (mAl_some rfl rfl rfl) (by decide) hh) (fun M8 => ?_)
  refine q_step (g_putR (r := 1) (iRow iCX11_init_0 16 rfl) f11_22 (Or.inr ⟨rfl, rfl⟩) ko_12 rfl) ?_
  refine q_nmM (fun M9 => ?_)
  refine q_step (g_aload_n (iRow iCX11_init_0 17 rfl) rfl rfl) ?_
  refine q_step (topA := 47) (cellsA := 46) (slotsA := 2624) (fun hh => g_new (t0 := 1) (N := 6) (n := 1) (iRow iCX11_init_0 18 rfl) n11_19 rfl ko_9 rfl rfl rfl ⟨(by show _ ≤ 118; decide), (by show _ ≤ 7180; decide)⟩ hh) ?_
  refine q_nmM (fun M10 => ?_)
  refine q_step (g_dup (iRow iCX11_init_0 19 rfl) rfl) ?_
  refine q_cv (topA := 49) (cellsA := 48) (slotsA := 2704) (stA := [vR 9 1, vR 12 0]) (fun _ h hh => g_callIN (As := []) (r := none) (iRow iCX11_init_0 20 rfl) z11_21 ii_X8_init rfl rfl (j_X8_init_t47 (d + 5) h) ⟨by show _ + 1 ≤ d + 7; omega, by show 8 + (1 + 11) + 40 * _ ≤ 40 * (d + 7); omega⟩ (Nat.le_of_ble_eq_true rfl) ⟨(by show _ ≤ 118; decide), (by show _ ≤ 7180; decide)⟩ (mAl_some rfl rfl rfl) (by decide) hh) (fun M11 => ?_)
  refine q_step (g_putR (r := 2) (iRow iCX11_init_0 21 rfl) f11_26 (Or.inr ⟨rfl, rfl⟩) ko_12 rfl) ?_
  refine q_nmM (fun M12 => ?_)
  refine q_step (g_aload_n (iRow iCX11_init_0 22 rfl) rfl rfl) ?_
  refine q_step (topA := 50) (cellsA := 49) (slotsA := 2713) (fun hh => g_new (t0 := 1) (N := 9) (n := 0) (iRow iCX11_init_0 23 rfl) n11_29 rfl ko_7 rfl rfl rfl ⟨(by show _ ≤ 118; decide), (by show _ ≤ 7180; decide)⟩ hh) ?_
  refine q_nmM (fun M13 => ?_)
  refine q_step (g_dup (iRow iCX11_init_1 0 rfl) rfl) ?_
  refine q_cv (topA := 52) (cellsA := 51) (slotsA := 3742) (stA := [vR 7 0, vR 12 0]) (fun _ h hh => g_callI (As := []) (r := none) (iRow iCX11_init_1 1 rfl) l11_31 ii_X6_init rfl rfl (j_X6_init_t50 (d + 0) h) ⟨by show _ + 1 ≤ d + 7; omega, by show 8 + (6 + 11) + 40 * _ ≤ 40 * (d + 7); omega⟩ (Nat.le_of_ble_eq_true rfl) ⟨(by show _ ≤ 118; decide), (by show _ ≤ 7180; decide)⟩ (mAl_some rfl rfl rfl) (by decide) hh) (fun M14 => ?_)
  refine q_step (g_putR (r := 1) (iRow iCX11_init_1 2 rfl) f11_32 (Or.inr ⟨rfl, rfl⟩) ko_12 rfl) ?_
  refine q_nmM (fun M15 => ?_)
  refine q_step (g_aload_n (iRow iCX11_init_1 3 rfl) rfl rfl) ?_
  refine q_step (topA := 53) (cellsA := 52) (slotsA := 3749) (fun hh => g_new (t0 := 1) (N := 7) (n := 0) (iRow iCX11_init_1 4 rfl) n11_36 rfl ko_6 rfl rfl rfl ⟨(by show _ ≤ 118; decide), (by show _ ≤ 7180; decide)⟩ hh) ?_
  refine q_nmM (fun M16 => ?_)
  refine q_step (g_dup (iRow iCX11_init_1 5 rfl) rfl) ?_
  refine q_step (g_aload_n (iRow iCX11_init_1 6 rfl) rfl rfl) ?_
  refine q_gt (fun h => g_getR (v := vR 7 0) (iRow iCX11_init_1 7 rfl) f11_32 ko_12 (by rw [h]; rfl)) ?_
  refine q_step (g_aload_n (iRow iCX11_init_1 8 rfl) rfl rfl) ?_
  refine q_gt (fun h => g_getR (v := vR 1 1) (iRow iCX11_init_1 9 rfl) f11_16 ko_12 (by rw [h]; rfl)) ?_
  refine q_step (g_aload_n (iRow iCX11_init_1 10 rfl) rfl rfl) ?_
  refine q_gt (fun h => g_getR (v := vR 9 1) (iRow iCX11_init_1 11 rfl) f11_26 ko_12 (by rw [h]; rfl)) ?_
  refine q_cv (topA := 55) (cellsA := 54) (slotsA := 3820) (stA := [vR 6 0, vR 12 0]) (fun _ h hh => g_callI (As := [_, _, _]) (r := none) (iRow iCX11_init_1 12 rfl) l11_38 ii_X5_init rfl rfl (j_X5_init_t53 (d + 4) h) ⟨by show _ + 1 ≤ d + 7; omega, by show 8 + (4 + 11) + 40 * _ ≤ 40 * (d + 7); omega⟩ (Nat.le_of_ble_eq_true rfl) ⟨(by show _ ≤ 118; decide), (by show _ ≤ 7180; decide)⟩ (mAl_some rfl rfl rfl) (by decide) hh) (fun M17 => ?_)
  refine q_step (g_putR (r := 1) (iRow iCX11_init_1 13 rfl) f11_41 (Or.inr ⟨rfl, rfl⟩) ko_12 rfl) ?_
  refine q_nmM (fun M18 => ?_)
  refine q_step (g_aload_n (iRow iCX11_init_1 14 rfl) rfl rfl) ?_
  refine q_step (topA := 56) (cellsA := 55) (slotsA := 3830) (fun hh => g_new (t0 := 1) (N := 10) (n := 0) (iRow iCX11_init_1 15 rfl) n11_45 rfl ko_10 rfl rfl rfl ⟨(by show _ ≤ 118; decide), (by show _ ≤ 7180; decide)⟩ hh) ?_
  refine q_nmM (fun M19 => ?_)
  refine q_step (g_dup (iRow iCX11_init_1 16 rfl) rfl) ?_
  refine q_cv (topA := 64) (cellsA := 63) (slotsA := 4112) (stA := [vR 10 0, vR 12 0]) (fun _ h hh => g_callIN (As := []) (r := none) (iRow iCX11_init_1 17 rfl) z11_47 ii_X9_init rfl rfl (j_X9_init_t56 (d + 5) h) ⟨by show _ + 1 ≤ d + 7; omega, by show 8 + (1 + 11) + 40 * _ ≤ 40 * (d + 7); omega⟩ (Nat.le_of_ble_eq_true rfl) ⟨(by show _ ≤ 118; decide), (by show _ ≤ 7180; decide)⟩ (mAl_some rfl rfl rfl) (by decide) hh) (fun M20 => ?_)
  refine q_step (g_putR (r := 1) (iRow iCX11_init_1 18 rfl) f11_48 (Or.inr ⟨rfl, rfl⟩) ko_12 rfl) ?_
  refine q_nmM (fun M21 => ?_)
  refine q_step (g_aload_n (iRow iCX11_init_1 19 rfl) rfl rfl) ?_
  refine q_step (topA := 65) (cellsA := 64) (slotsA := 4113) (fun hh => g_new (t0 := 1) (N := 1) (n := 0) (iRow iCX11_init_1 20 rfl) n11_52 rfl ko_2 rfl rfl rfl ⟨(by show _ ≤ 118; decide), (by show _ ≤ 7180; decide)⟩ hh) ?_
  refine q_nmM (fun M22 => ?_)
  refine q_step (g_dup (iRow iCX11_init_1 21 rfl) rfl) ?_
  refine q_step (g_aload_n (iRow iCX11_init_1 22 rfl) rfl rfl) ?_
  refine q_gt (fun h => g_getR (v := vR 10 0) (iRow iCX11_init_1 23 rfl) f11_48 ko_12 (by rw [h]; rfl)) ?_
  refine q_cv (topA := 65) (cellsA := 64) (slotsA := 4113) (stA := [vR 2 0, vR 12 0]) (fun _ h hh => g_callI (As := [_]) (r := none) (iRow iCX11_init_2 0 rfl) l11_54 ii_X1_init rfl rfl (j_X1_init_t65 (d + 5) h) ⟨by show _ + 1 ≤ d + 7; omega, by show 8 + (2 + 11) + 40 * _ ≤ 40 * (d + 7); omega⟩ (Nat.le_of_ble_eq_true rfl) ⟨(by show _ ≤ 118; decide), (by show _ ≤ 7180; decide)⟩ (mAl_some rfl rfl rfl) (by decide) hh) (fun M23 => ?_)
  refine q_step (g_putR (r := 1) (iRow iCX11_init_2 1 rfl) f11_57 (Or.inr ⟨rfl, rfl⟩) ko_12 rfl) ?_
  refine q_nmM (fun M24 => ?_)
  refine q_step (g_aload_n (iRow iCX11_init_2 2 rfl) rfl rfl) ?_
  refine q_step (topA := 66) (cellsA := 65) (slotsA := 4132) (fun hh => g_new (t0 := 1) (N := 19) (n := 0) (iRow iCX11_init_2 3 rfl) n11_61 rfl ko_11 rfl rfl rfl ⟨(by show _ ≤ 118; decide), (by show _ ≤ 7180; decide)⟩ hh) ?_
  refine q_nmM (fun M25 => ?_)
  refine q_step (g_dup (iRow iCX11_init_2 4 rfl) rfl) ?_
  refine q_step (g_aload_n (iRow iCX11_init_2 5 rfl) rfl rfl) ?_
  refine q_gt (fun h => g_getR (v := vR 10 0) (iRow iCX11_init_2 6 rfl) f11_48 ko_12 (by rw [h]; rfl)) ?_
  refine q_step (g_aload_n (iRow iCX11_init_2 7 rfl) rfl rfl) ?_
  refine q_gt (fun h => g_getR (v := vR 1 0) (iRow iCX11_init_2 8 rfl) f11_10 ko_12 (by rw [h]; rfl)) ?_
  refine q_cv (topA := 73) (cellsA := 72) (slotsA := 6682) (stA := [vR 11 0, vR 12 0]) (fun _ h hh => g_callI (As := [_, _]) (r := none) (iRow iCX11_init_2 9 rfl) l11_63 ii_X10_init rfl rfl (j_X10_init_t66 (d + 4) h) ⟨by show _ + 1 ≤ d + 7; omega, by show 8 + (3 + 11) + 40 * _ ≤ 40 * (d + 7); omega⟩ (Nat.le_of_ble_eq_true rfl) ⟨(by show _ ≤ 118; decide), (by show _ ≤ 7180; decide)⟩ (mAl_some rfl rfl rfl) (by decide) hh) (fun M26 => ?_)
  refine q_step (g_putR (r := 1) (iRow iCX11_init_2 10 rfl) f11_66 (Or.inr ⟨rfl, rfl⟩) ko_12 rfl) ?_
  refine q_nmM (fun M27 => ?_)
  refine q_step (g_aload_n (iRow iCX11_init_2 11 rfl) rfl rfl) ?_
  refine q_step (topA := 74) (cellsA := 73) (slotsA := 6694) (fun hh => g_new (t0 := 1) (N := 12) (n := 0) (iRow iCX11_init_2 12 rfl) n11_70 rfl ko_8 rfl rfl rfl ⟨(by show _ ≤ 118; decide), (by show _ ≤ 7180; decide)⟩ hh) ?_
  refine q_nmM (fun M28 => ?_)
  refine q_step (g_dup (iRow iCX11_init_2 13 rfl) rfl) ?_
  refine q_step (g_aload_n (iRow iCX11_init_2 14 rfl) rfl rfl) ?_
  refine q_gt (fun h => g_getR (v := vR 2 0) (iRow iCX11_init_2 15 rfl) f11_57 ko_12 (by rw [h]; rfl)) ?_
  refine q_cv (topA := 82) (cellsA := 81) (slotsA := 6724) (stA := [vR 8 0, vR 12 0]) (fun _ h hh => g_callI (As := [_]) (r := none) (iRow iCX11_init_2 16 rfl) l11_72 ii_X7_init rfl rfl (j_X7_init_t74 (d + 4) h) ⟨by show _ + 1 ≤ d + 7; omega, by show 8 + (3 + 11) + 40 * _ ≤ 40 * (d + 7); omega⟩ (Nat.le_of_ble_eq_true rfl) ⟨(by show _ ≤ 118; decide), (by show _ ≤ 7180; decide)⟩ (mAl_some rfl rfl rfl) (by decide) hh) (fun M29 => ?_)
  refine q_step (g_putR (r := 1) (iRow iCX11_init_2 17 rfl) f11_75 (Or.inr ⟨rfl, rfl⟩) ko_12 rfl) ?_
  refine q_nmM (fun M30 => ?_)
  refine q_step (g_aload_n (iRow iCX11_init_2 18 rfl) rfl rfl) ?_
  refine q_step (topA := 83) (cellsA := 82) (slotsA := 6728) (fun hh => g_new (t0 := 1) (N := 4) (n := 7) (iRow iCX11_init_2 19 rfl) n11_79 rfl ko_5 rfl rfl rfl ⟨(by show _ ≤ 118; decide), (by show _ ≤ 7180; decide)⟩ hh) ?_
  refine q_nmM (fun M31 => ?_)
  refine q_step (g_dup (iRow iCX11_init_2 20 rfl) rfl) ?_
  refine q_cv (topA := 83) (cellsA := 82) (slotsA := 6728) (stA := [vR 5 7, vR 12 0]) (fun _ h hh => g_callIN (As := []) (r := none) (iRow iCX11_init_2 21 rfl) z11_81 ii_X4_init rfl rfl (j_X4_init (d + 5) h) ⟨by show _ + 1 ≤ d + 7; omega, by show 8 + (1 + 11) + 40 * _ ≤ 40 * (d + 7); omega⟩ (Nat.le_of_ble_eq_true rfl) ⟨(by show _ ≤ 118; decide), (by show _ ≤ 7180; decide)⟩ mAl_none (by decide) hh) (fun M32 => ?_)
  refine q_step (g_putR (r := 8) (iRow iCX11_init_2 22 rfl) f11_82 (Or.inr ⟨rfl, rfl⟩) ko_12 rfl) ?_
  refine q_nmM (fun M33 => ?_)
  refine q_step (g_aload_n (iRow iCX11_init_2 23 rfl) rfl rfl) ?_
  refine q_step (topA := 84) (cellsA := 83) (slotsA := 6732) (fun hh => g_new (t0 := 1) (N := 4) (n := 8) (iRow iCX11_init_3 0 rfl) n11_79 rfl ko_5 rfl rfl rfl ⟨(by show _ ≤ 118; decide), (by show _ ≤ 7180; decide)⟩ hh) ?_
  refine q_nmM (fun M34 => ?_)
  refine q_step (g_dup (iRow iCX11_init_3 1 rfl) rfl) ?_
  refine q_cv (topA := 84) (cellsA := 83) (slotsA := 6732) (stA := [vR 5 8, vR 12 0]) (fun _ h hh => g_callIN (As := []) (r := none) (iRow iCX11_init_3 2 rfl) z11_81 ii_X4_init rfl rfl (j_X4_init (d + 5) h) ⟨by show _ + 1 ≤ d + 7; omega, by show 8 + (1 + 11) + 40 * _ ≤ 40 * (d + 7); omega⟩ (Nat.le_of_ble_eq_true rfl) ⟨(by show _ ≤ 118; decide), (by show _ ≤ 7180; decide)⟩ mAl_none (by decide) hh) (fun M35 => ?_)
  refine q_step (g_putR (r := 9) (iRow iCX11_init_3 3 rfl) f11_86 (Or.inr ⟨rfl, rfl⟩) ko_12 rfl) ?_
  refine q_nmM (fun M36 => ?_)
  refine q_step (g_aload_n (iRow iCX11_init_3 4 rfl) rfl rfl) ?_
  refine q_step (g_bipush (iRow iCX11_init_3 5 rfl) kb_16) ?_
  refine q_step (topA := 85) (cellsA := 84) (slotsA := 6748) (fun hh => g_newr (t0 := 1) (n := 0) (iRow iCX11_init_3 6 rfl) n11_79a ao_Moment kn_60 ka_60 (by decide) (by decide) kl_16 rfl rfl rfl ⟨(by show _ ≤ 118; decide), (by show _ ≤ 7180; decide)⟩ hh) ?_
  refine q_nmM (fun M37 => ?_)
  refine q_step (g_putR (r := 1) (iRow iCX11_init_3 7 rfl) f11_89 (Or.inr ⟨rfl, rfl⟩) ko_12 rfl) ?_
  refine q_nmM (fun M38 => ?_)
  refine q_step (g_iconst (iRow iCX11_init_3 8 rfl) kc_0) ?_
  refine q_step (g_istore_n (ls' := [some (vR 12 0), some (vI (0 : Int32))]) (iRow iCX11_init_3 9 rfl) rfl (by decide) rfl) ?_
  refine q_step (g_iload_n (iRow iCX11_init_3 10 rfl) rfl rfl) ?_
  refine q_step (g_bipush (iRow iCX11_init_3 11 rfl) kb_16) ?_
  refine q_step (fun k => g_icmp_ge (tgt := 200) (iRow iCX11_init_3 12 rfl) (by decide) (fun h => absurd h (by decide)) (fun _ => k)) ?_
  refine q_step (g_aload_n (iRow iCX11_init_3 13 rfl) rfl rfl) ?_
  refine q_gt (fun h => g_getR (v := vR 60 0) (iRow iCX11_init_3 14 rfl) f11_89 ko_12 (by rw [h]; rfl)) ?_
  refine q_step (g_iload_n (iRow iCX11_init_3 15 rfl) rfl rfl) ?_
  refine q_step (topA := 86) (cellsA := 85) (slotsA := 6752) (fun hh => g_new (t0 := 1) (N := 4) (n := 9) (iRow iCX11_init_3 16 rfl) n11_79 rfl ko_5 rfl rfl rfl ⟨(by show _ ≤ 118; decide), (by show _ ≤ 7180; decide)⟩ hh) ?_
  refine q_nmM (fun M39 => ?_)
  refine q_step (g_dup (iRow iCX11_init_3 17 rfl) rfl) ?_
  refine q_cv (topA := 86) (cellsA := 85) (slotsA := 6752) (stA := [vR 5 9, vI (0 : Int32), vR 60 0]) (fun _ h hh => g_callIN (As := []) (r := none) (iRow iCX11_init_3 18 rfl) z11_81 ii_X4_init rfl rfl (j_X4_init (d + 5) h) ⟨by show _ + 1 ≤ d + 7; omega, by show 8 + (1 + 11) + 40 * _ ≤ 40 * (d + 7); omega⟩ (Nat.le_of_ble_eq_true rfl) ⟨(by show _ ≤ 118; decide), (by show _ ≤ 7180; decide)⟩ mAl_none (by decide) hh) (fun M40 => ?_)
  refine q_step (g_aast (iRow iCX11_init_3 19 rfl) kn_60 ka_60 (by decide) (fun _ => rfl) (vp_of (by decide)) ko_5 rfl rfl) ?_
  refine q_nmM (fun M41 => ?_)
  refine q_step (g_iinc (v := (1 : Int32)) (ls' := [some (vR 12 0), some (vI (1 : Int32))]) (iRow iCX11_init_3 20 rfl) rfl (by decide) (by decide) rfl) ?_
  refine q_step (g_goto (tgt := 175) (iRow iCX11_init_3 21 rfl) (by decide)) ?_
  refine q_step (g_iload_n (iRow iCX11_init_3 10 rfl) rfl rfl) ?_
  refine q_step (g_bipush (iRow iCX11_init_3 11 rfl) kb_16) ?_
  refine q_step (fun k => g_icmp_ge (tgt := 200) (iRow iCX11_init_3 12 rfl) (by decide) (fun h => absurd h (by decide)) (fun _ => k)) ?_
  refine q_step (g_aload_n (iRow iCX11_init_3 13 rfl) rfl rfl) ?_
  refine q_gt (fun h => g_getR (v := vR 60 0) (iRow iCX11_init_3 14 rfl) f11_89 ko_12 (by rw [h]; rfl)) ?_
  refine q_step (g_iload_n (iRow iCX11_init_3 15 rfl) rfl rfl) ?_
  refine q_step (topA := 87) (cellsA := 86) (slotsA := 6756) (fun hh => g_new (t0 := 1) (N := 4) (n := 10) (iRow iCX11_init_3 16 rfl) n11_79 rfl ko_5 rfl rfl rfl ⟨(by show _ ≤ 118; decide), (by show _ ≤ 7180; decide)⟩ hh) ?_
  refine q_nmM (fun M42 => ?_)
  refine q_step (g_dup (iRow iCX11_init_3 17 rfl) rfl) ?_
  refine q_cv (topA := 87) (cellsA := 86) (slotsA := 6756) (stA := [vR 5 10, vI (1 : Int32), vR 60 0]) (fun _ h hh => g_callIN (As := []) (r := none) (iRow iCX11_init_3 18 rfl) z11_81 ii_X4_init rfl rfl (j_X4_init (d + 5) h) ⟨by show _ + 1 ≤ d + 7; omega, by show 8 + (1 + 11) + 40 * _ ≤ 40 * (d + 7); omega⟩ (Nat.le_of_ble_eq_true rfl) ⟨(by show _ ≤ 118; decide), (by show _ ≤ 7180; decide)⟩ mAl_none (by decide) hh) (fun M43 => ?_)
  refine q_step (g_aast (iRow iCX11_init_3 19 rfl) kn_60 ka_60 (by decide) (fun _ => rfl) (vp_of (by decide)) ko_5 rfl rfl) ?_
  refine q_nmM (fun M44 => ?_)
  refine q_step (g_iinc (v := (2 : Int32)) (ls' := [some (vR 12 0), some (vI (2 : Int32))]) (iRow iCX11_init_3 20 rfl) rfl (by decide) (by decide) rfl) ?_
  refine q_step (g_goto (tgt := 175) (iRow iCX11_init_3 21 rfl) (by decide)) ?_
  refine q_step (g_iload_n (iRow iCX11_init_3 10 rfl) rfl rfl) ?_
  refine q_step (g_bipush (iRow iCX11_init_3 11 rfl) kb_16) ?_
  refine q_step (fun k => g_icmp_ge (tgt := 200) (iRow iCX11_init_3 12 rfl) (by decide) (fun h => absurd h (by decide)) (fun _ => k)) ?_
  refine q_step (g_aload_n (iRow iCX11_init_3 13 rfl) rfl rfl) ?_
  refine q_gt (fun h => g_getR (v := vR 60 0) (iRow iCX11_init_3 14 rfl) f11_89 ko_12 (by rw [h]; rfl)) ?_
  refine q_step (g_iload_n (iRow iCX11_init_3 15 rfl) rfl rfl) ?_
  refine q_step (topA := 88) (cellsA := 87) (slotsA := 6760) (fun hh => g_new (t0 := 1) (N := 4) (n := 11) (iRow iCX11_init_3 16 rfl) n11_79 rfl ko_5 rfl rfl rfl ⟨(by show _ ≤ 118; decide), (by show _ ≤ 7180; decide)⟩ hh) ?_
  refine q_nmM (fun M45 => ?_)
  refine q_step (g_dup (iRow iCX11_init_3 17 rfl) rfl) ?_
  refine q_cv (topA := 88) (cellsA := 87) (slotsA := 6760) (stA := [vR 5 11, vI (2 : Int32), vR 60 0]) (fun _ h hh => g_callIN (As := []) (r := none) (iRow iCX11_init_3 18 rfl) z11_81 ii_X4_init rfl rfl (j_X4_init (d + 5) h) ⟨by show _ + 1 ≤ d + 7; omega, by show 8 + (1 + 11) + 40 * _ ≤ 40 * (d + 7); omega⟩ (Nat.le_of_ble_eq_true rfl) ⟨(by show _ ≤ 118; decide), (by show _ ≤ 7180; decide)⟩ mAl_none (by decide) hh) (fun M46 => ?_)
  refine q_step (g_aast (iRow iCX11_init_3 19 rfl) kn_60 ka_60 (by decide) (fun _ => rfl) (vp_of (by decide)) ko_5 rfl rfl) ?_
  refine q_nmM (fun M47 => ?_)
  refine q_step (g_iinc (v := (3 : Int32)) (ls' := [some (vR 12 0), some (vI (3 : Int32))]) (iRow iCX11_init_3 20 rfl) rfl (by decide) (by decide) rfl) ?_
  refine q_step (g_goto (tgt := 175) (iRow iCX11_init_3 21 rfl) (by decide)) ?_
  refine q_step (g_iload_n (iRow iCX11_init_3 10 rfl) rfl rfl) ?_
  refine q_step (g_bipush (iRow iCX11_init_3 11 rfl) kb_16) ?_
  refine q_step (fun k => g_icmp_ge (tgt := 200) (iRow iCX11_init_3 12 rfl) (by decide) (fun h => absurd h (by decide)) (fun _ => k)) ?_
  refine q_step (g_aload_n (iRow iCX11_init_3 13 rfl) rfl rfl) ?_
  refine q_gt (fun h => g_getR (v := vR 60 0) (iRow iCX11_init_3 14 rfl) f11_89 ko_12 (by rw [h]; rfl)) ?_
  refine q_step (g_iload_n (iRow iCX11_init_3 15 rfl) rfl rfl) ?_
  refine q_step (topA := 89) (cellsA := 88) (slotsA := 6764) (fun hh => g_new (t0 := 1) (N := 4) (n := 12) (iRow iCX11_init_3 16 rfl) n11_79 rfl ko_5 rfl rfl rfl ⟨(by show _ ≤ 118; decide), (by show _ ≤ 7180; decide)⟩ hh) ?_
  refine q_nmM (fun M48 => ?_)
  refine q_step (g_dup (iRow iCX11_init_3 17 rfl) rfl) ?_
  refine q_cv (topA := 89) (cellsA := 88) (slotsA := 6764) (stA := [vR 5 12, vI (3 : Int32), vR 60 0]) (fun _ h hh => g_callIN (As := []) (r := none) (iRow iCX11_init_3 18 rfl) z11_81 ii_X4_init rfl rfl (j_X4_init (d + 5) h) ⟨by show _ + 1 ≤ d + 7; omega, by show 8 + (1 + 11) + 40 * _ ≤ 40 * (d + 7); omega⟩ (Nat.le_of_ble_eq_true rfl) ⟨(by show _ ≤ 118; decide), (by show _ ≤ 7180; decide)⟩ mAl_none (by decide) hh) (fun M49 => ?_)
  refine q_step (g_aast (iRow iCX11_init_3 19 rfl) kn_60 ka_60 (by decide) (fun _ => rfl) (vp_of (by decide)) ko_5 rfl rfl) ?_
  refine q_nmM (fun M50 => ?_)
  refine q_step (g_iinc (v := (4 : Int32)) (ls' := [some (vR 12 0), some (vI (4 : Int32))]) (iRow iCX11_init_3 20 rfl) rfl (by decide) (by decide) rfl) ?_
  refine q_step (g_goto (tgt := 175) (iRow iCX11_init_3 21 rfl) (by decide)) ?_
  refine q_step (g_iload_n (iRow iCX11_init_3 10 rfl) rfl rfl) ?_
  refine q_step (g_bipush (iRow iCX11_init_3 11 rfl) kb_16) ?_
  refine q_step (fun k => g_icmp_ge (tgt := 200) (iRow iCX11_init_3 12 rfl) (by decide) (fun h => absurd h (by decide)) (fun _ => k)) ?_
  refine q_step (g_aload_n (iRow iCX11_init_3 13 rfl) rfl rfl) ?_
  refine q_gt (fun h => g_getR (v := vR 60 0) (iRow iCX11_init_3 14 rfl) f11_89 ko_12 (by rw [h]; rfl)) ?_
  refine q_step (g_iload_n (iRow iCX11_init_3 15 rfl) rfl rfl) ?_
  refine q_step (topA := 90) (cellsA := 89) (slotsA := 6768) (fun hh => g_new (t0 := 1) (N := 4) (n := 13) (iRow iCX11_init_3 16 rfl) n11_79 rfl ko_5 rfl rfl rfl ⟨(by show _ ≤ 118; decide), (by show _ ≤ 7180; decide)⟩ hh) ?_
  refine q_nmM (fun M51 => ?_)
  refine q_step (g_dup (iRow iCX11_init_3 17 rfl) rfl) ?_
  refine q_cv (topA := 90) (cellsA := 89) (slotsA := 6768) (stA := [vR 5 13, vI (4 : Int32), vR 60 0]) (fun _ h hh => g_callIN (As := []) (r := none) (iRow iCX11_init_3 18 rfl) z11_81 ii_X4_init rfl rfl (j_X4_init (d + 5) h) ⟨by show _ + 1 ≤ d + 7; omega, by show 8 + (1 + 11) + 40 * _ ≤ 40 * (d + 7); omega⟩ (Nat.le_of_ble_eq_true rfl) ⟨(by show _ ≤ 118; decide), (by show _ ≤ 7180; decide)⟩ mAl_none (by decide) hh) (fun M52 => ?_)
  refine q_step (g_aast (iRow iCX11_init_3 19 rfl) kn_60 ka_60 (by decide) (fun _ => rfl) (vp_of (by decide)) ko_5 rfl rfl) ?_
  refine q_nmM (fun M53 => ?_)
  refine q_step (g_iinc (v := (5 : Int32)) (ls' := [some (vR 12 0), some (vI (5 : Int32))]) (iRow iCX11_init_3 20 rfl) rfl (by decide) (by decide) rfl) ?_
  refine q_step (g_goto (tgt := 175) (iRow iCX11_init_3 21 rfl) (by decide)) ?_
  refine q_step (g_iload_n (iRow iCX11_init_3 10 rfl) rfl rfl) ?_
  refine q_step (g_bipush (iRow iCX11_init_3 11 rfl) kb_16) ?_
  refine q_step (fun k => g_icmp_ge (tgt := 200) (iRow iCX11_init_3 12 rfl) (by decide) (fun h => absurd h (by decide)) (fun _ => k)) ?_
  refine q_step (g_aload_n (iRow iCX11_init_3 13 rfl) rfl rfl) ?_
  refine q_gt (fun h => g_getR (v := vR 60 0) (iRow iCX11_init_3 14 rfl) f11_89 ko_12 (by rw [h]; rfl)) ?_
  refine q_step (g_iload_n (iRow iCX11_init_3 15 rfl) rfl rfl) ?_
  refine q_step (topA := 91) (cellsA := 90) (slotsA := 6772) (fun hh => g_new (t0 := 1) (N := 4) (n := 14) (iRow iCX11_init_3 16 rfl) n11_79 rfl ko_5 rfl rfl rfl ⟨(by show _ ≤ 118; decide), (by show _ ≤ 7180; decide)⟩ hh) ?_
  refine q_nmM (fun M54 => ?_)
  refine q_step (g_dup (iRow iCX11_init_3 17 rfl) rfl) ?_
  refine q_cv (topA := 91) (cellsA := 90) (slotsA := 6772) (stA := [vR 5 14, vI (5 : Int32), vR 60 0]) (fun _ h hh => g_callIN (As := []) (r := none) (iRow iCX11_init_3 18 rfl) z11_81 ii_X4_init rfl rfl (j_X4_init (d + 5) h) ⟨by show _ + 1 ≤ d + 7; omega, by show 8 + (1 + 11) + 40 * _ ≤ 40 * (d + 7); omega⟩ (Nat.le_of_ble_eq_true rfl) ⟨(by show _ ≤ 118; decide), (by show _ ≤ 7180; decide)⟩ mAl_none (by decide) hh) (fun M55 => ?_)
  refine q_step (g_aast (iRow iCX11_init_3 19 rfl) kn_60 ka_60 (by decide) (fun _ => rfl) (vp_of (by decide)) ko_5 rfl rfl) ?_
  refine q_nmM (fun M56 => ?_)
  refine q_step (g_iinc (v := (6 : Int32)) (ls' := [some (vR 12 0), some (vI (6 : Int32))]) (iRow iCX11_init_3 20 rfl) rfl (by decide) (by decide) rfl) ?_
  refine q_step (g_goto (tgt := 175) (iRow iCX11_init_3 21 rfl) (by decide)) ?_
  refine q_step (g_iload_n (iRow iCX11_init_3 10 rfl) rfl rfl) ?_
  refine q_step (g_bipush (iRow iCX11_init_3 11 rfl) kb_16) ?_
  refine q_step (fun k => g_icmp_ge (tgt := 200) (iRow iCX11_init_3 12 rfl) (by decide) (fun h => absurd h (by decide)) (fun _ => k)) ?_
  refine q_step (g_aload_n (iRow iCX11_init_3 13 rfl) rfl rfl) ?_
  refine q_gt (fun h => g_getR (v := vR 60 0) (iRow iCX11_init_3 14 rfl) f11_89 ko_12 (by rw [h]; rfl)) ?_
  refine q_step (g_iload_n (iRow iCX11_init_3 15 rfl) rfl rfl) ?_
  refine q_step (topA := 92) (cellsA := 91) (slotsA := 6776) (fun hh => g_new (t0 := 1) (N := 4) (n := 15) (iRow iCX11_init_3 16 rfl) n11_79 rfl ko_5 rfl rfl rfl ⟨(by show _ ≤ 118; decide), (by show _ ≤ 7180; decide)⟩ hh) ?_
  refine q_nmM (fun M57 => ?_)
  refine q_step (g_dup (iRow iCX11_init_3 17 rfl) rfl) ?_
  refine q_cv (topA := 92) (cellsA := 91) (slotsA := 6776) (stA := [vR 5 15, vI (6 : Int32), vR 60 0]) (fun _ h hh => g_callIN (As := []) (r := none) (iRow iCX11_init_3 18 rfl) z11_81 ii_X4_init rfl rfl (j_X4_init (d + 5) h) ⟨by show _ + 1 ≤ d + 7; omega, by show 8 + (1 + 11) + 40 * _ ≤ 40 * (d + 7); omega⟩ (Nat.le_of_ble_eq_true rfl) ⟨(by show _ ≤ 118; decide), (by show _ ≤ 7180; decide)⟩ mAl_none (by decide) hh) (fun M58 => ?_)
  refine q_step (g_aast (iRow iCX11_init_3 19 rfl) kn_60 ka_60 (by decide) (fun _ => rfl) (vp_of (by decide)) ko_5 rfl rfl) ?_
  refine q_nmM (fun M59 => ?_)
  refine q_step (g_iinc (v := (7 : Int32)) (ls' := [some (vR 12 0), some (vI (7 : Int32))]) (iRow iCX11_init_3 20 rfl) rfl (by decide) (by decide) rfl) ?_
  refine q_step (g_goto (tgt := 175) (iRow iCX11_init_3 21 rfl) (by decide)) ?_
  refine q_step (g_iload_n (iRow iCX11_init_3 10 rfl) rfl rfl) ?_
  refine q_step (g_bipush (iRow iCX11_init_3 11 rfl) kb_16) ?_
  refine q_step (fun k => g_icmp_ge (tgt := 200) (iRow iCX11_init_3 12 rfl) (by decide) (fun h => absurd h (by decide)) (fun _ => k)) ?_
  refine q_step (g_aload_n (iRow iCX11_init_3 13 rfl) rfl rfl) ?_
  refine q_gt (fun h => g_getR (v := vR 60 0) (iRow iCX11_init_3 14 rfl) f11_89 ko_12 (by rw [h]; rfl)) ?_
  refine q_step (g_iload_n (iRow iCX11_init_3 15 rfl) rfl rfl) ?_
  refine q_step (topA := 93) (cellsA := 92) (slotsA := 6780) (fun hh => g_new (t0 := 1) (N := 4) (n := 16) (iRow iCX11_init_3 16 rfl) n11_79 rfl ko_5 rfl rfl rfl ⟨(by show _ ≤ 118; decide), (by show _ ≤ 7180; decide)⟩ hh) ?_
  refine q_nmM (fun M60 => ?_)
  refine q_step (g_dup (iRow iCX11_init_3 17 rfl) rfl) ?_
  refine q_cv (topA := 93) (cellsA := 92) (slotsA := 6780) (stA := [vR 5 16, vI (7 : Int32), vR 60 0]) (fun _ h hh => g_callIN (As := []) (r := none) (iRow iCX11_init_3 18 rfl) z11_81 ii_X4_init rfl rfl (j_X4_init (d + 5) h) ⟨by show _ + 1 ≤ d + 7; omega, by show 8 + (1 + 11) + 40 * _ ≤ 40 * (d + 7); omega⟩ (Nat.le_of_ble_eq_true rfl) ⟨(by show _ ≤ 118; decide), (by show _ ≤ 7180; decide)⟩ mAl_none (by decide) hh) (fun M61 => ?_)
  refine q_step (g_aast (iRow iCX11_init_3 19 rfl) kn_60 ka_60 (by decide) (fun _ => rfl) (vp_of (by decide)) ko_5 rfl rfl) ?_
  refine q_nmM (fun M62 => ?_)
  refine q_step (g_iinc (v := (8 : Int32)) (ls' := [some (vR 12 0), some (vI (8 : Int32))]) (iRow iCX11_init_3 20 rfl) rfl (by decide) (by decide) rfl) ?_
  refine q_step (g_goto (tgt := 175) (iRow iCX11_init_3 21 rfl) (by decide)) ?_
  refine q_step (g_iload_n (iRow iCX11_init_3 10 rfl) rfl rfl) ?_
  refine q_step (g_bipush (iRow iCX11_init_3 11 rfl) kb_16) ?_
  refine q_step (fun k => g_icmp_ge (tgt := 200) (iRow iCX11_init_3 12 rfl) (by decide) (fun h => absurd h (by decide)) (fun _ => k)) ?_
  refine q_step (g_aload_n (iRow iCX11_init_3 13 rfl) rfl rfl) ?_
  refine q_gt (fun h => g_getR (v := vR 60 0) (iRow iCX11_init_3 14 rfl) f11_89 ko_12 (by rw [h]; rfl)) ?_
  refine q_step (g_iload_n (iRow iCX11_init_3 15 rfl) rfl rfl) ?_
  refine q_step (topA := 94) (cellsA := 93) (slotsA := 6784) (fun hh => g_new (t0 := 1) (N := 4) (n := 17) (iRow iCX11_init_3 16 rfl) n11_79 rfl ko_5 rfl rfl rfl ⟨(by show _ ≤ 118; decide), (by show _ ≤ 7180; decide)⟩ hh) ?_
  refine q_nmM (fun M63 => ?_)
  refine q_step (g_dup (iRow iCX11_init_3 17 rfl) rfl) ?_
  refine q_cv (topA := 94) (cellsA := 93) (slotsA := 6784) (stA := [vR 5 17, vI (8 : Int32), vR 60 0]) (fun _ h hh => g_callIN (As := []) (r := none) (iRow iCX11_init_3 18 rfl) z11_81 ii_X4_init rfl rfl (j_X4_init (d + 5) h) ⟨by show _ + 1 ≤ d + 7; omega, by show 8 + (1 + 11) + 40 * _ ≤ 40 * (d + 7); omega⟩ (Nat.le_of_ble_eq_true rfl) ⟨(by show _ ≤ 118; decide), (by show _ ≤ 7180; decide)⟩ mAl_none (by decide) hh) (fun M64 => ?_)
  refine q_step (g_aast (iRow iCX11_init_3 19 rfl) kn_60 ka_60 (by decide) (fun _ => rfl) (vp_of (by decide)) ko_5 rfl rfl) ?_
  refine q_nmM (fun M65 => ?_)
  refine q_step (g_iinc (v := (9 : Int32)) (ls' := [some (vR 12 0), some (vI (9 : Int32))]) (iRow iCX11_init_3 20 rfl) rfl (by decide) (by decide) rfl) ?_
  refine q_step (g_goto (tgt := 175) (iRow iCX11_init_3 21 rfl) (by decide)) ?_
  refine q_step (g_iload_n (iRow iCX11_init_3 10 rfl) rfl rfl) ?_
  refine q_step (g_bipush (iRow iCX11_init_3 11 rfl) kb_16) ?_
  refine q_step (fun k => g_icmp_ge (tgt := 200) (iRow iCX11_init_3 12 rfl) (by decide) (fun h => absurd h (by decide)) (fun _ => k)) ?_
  refine q_step (g_aload_n (iRow iCX11_init_3 13 rfl) rfl rfl) ?_
  refine q_gt (fun h => g_getR (v := vR 60 0) (iRow iCX11_init_3 14 rfl) f11_89 ko_12 (by rw [h]; rfl)) ?_
  refine q_step (g_iload_n (iRow iCX11_init_3 15 rfl) rfl rfl) ?_
  refine q_step (topA := 95) (cellsA := 94) (slotsA := 6788) (fun hh => g_new (t0 := 1) (N := 4) (n := 18) (iRow iCX11_init_3 16 rfl) n11_79 rfl ko_5 rfl rfl rfl ⟨(by show _ ≤ 118; decide), (by show _ ≤ 7180; decide)⟩ hh) ?_
  refine q_nmM (fun M66 => ?_)
  refine q_step (g_dup (iRow iCX11_init_3 17 rfl) rfl) ?_
  refine q_cv (topA := 95) (cellsA := 94) (slotsA := 6788) (stA := [vR 5 18, vI (9 : Int32), vR 60 0]) (fun _ h hh => g_callIN (As := []) (r := none) (iRow iCX11_init_3 18 rfl) z11_81 ii_X4_init rfl rfl (j_X4_init (d + 5) h) ⟨by show _ + 1 ≤ d + 7; omega, by show 8 + (1 + 11) + 40 * _ ≤ 40 * (d + 7); omega⟩ (Nat.le_of_ble_eq_true rfl) ⟨(by show _ ≤ 118; decide), (by show _ ≤ 7180; decide)⟩ mAl_none (by decide) hh) (fun M67 => ?_)
  refine q_step (g_aast (iRow iCX11_init_3 19 rfl) kn_60 ka_60 (by decide) (fun _ => rfl) (vp_of (by decide)) ko_5 rfl rfl) ?_
  refine q_nmM (fun M68 => ?_)
  refine q_step (g_iinc (v := (10 : Int32)) (ls' := [some (vR 12 0), some (vI (10 : Int32))]) (iRow iCX11_init_3 20 rfl) rfl (by decide) (by decide) rfl) ?_
  refine q_step (g_goto (tgt := 175) (iRow iCX11_init_3 21 rfl) (by decide)) ?_
  refine q_step (g_iload_n (iRow iCX11_init_3 10 rfl) rfl rfl) ?_
  refine q_step (g_bipush (iRow iCX11_init_3 11 rfl) kb_16) ?_
  refine q_step (fun k => g_icmp_ge (tgt := 200) (iRow iCX11_init_3 12 rfl) (by decide) (fun h => absurd h (by decide)) (fun _ => k)) ?_
  refine q_step (g_aload_n (iRow iCX11_init_3 13 rfl) rfl rfl) ?_
  refine q_gt (fun h => g_getR (v := vR 60 0) (iRow iCX11_init_3 14 rfl) f11_89 ko_12 (by rw [h]; rfl)) ?_
  refine q_step (g_iload_n (iRow iCX11_init_3 15 rfl) rfl rfl) ?_
  refine q_step (topA := 96) (cellsA := 95) (slotsA := 6792) (fun hh => g_new (t0 := 1) (N := 4) (n := 19) (iRow iCX11_init_3 16 rfl) n11_79 rfl ko_5 rfl rfl rfl ⟨(by show _ ≤ 118; decide), (by show _ ≤ 7180; decide)⟩ hh) ?_
  refine q_nmM (fun M69 => ?_)
  refine q_step (g_dup (iRow iCX11_init_3 17 rfl) rfl) ?_
  refine q_cv (topA := 96) (cellsA := 95) (slotsA := 6792) (stA := [vR 5 19, vI (10 : Int32), vR 60 0]) (fun _ h hh => g_callIN (As := []) (r := none) (iRow iCX11_init_3 18 rfl) z11_81 ii_X4_init rfl rfl (j_X4_init (d + 5) h) ⟨by show _ + 1 ≤ d + 7; omega, by show 8 + (1 + 11) + 40 * _ ≤ 40 * (d + 7); omega⟩ (Nat.le_of_ble_eq_true rfl) ⟨(by show _ ≤ 118; decide), (by show _ ≤ 7180; decide)⟩ mAl_none (by decide) hh) (fun M70 => ?_)
  refine q_step (g_aast (iRow iCX11_init_3 19 rfl) kn_60 ka_60 (by decide) (fun _ => rfl) (vp_of (by decide)) ko_5 rfl rfl) ?_
  refine q_nmM (fun M71 => ?_)
  refine q_step (g_iinc (v := (11 : Int32)) (ls' := [some (vR 12 0), some (vI (11 : Int32))]) (iRow iCX11_init_3 20 rfl) rfl (by decide) (by decide) rfl) ?_
  refine q_step (g_goto (tgt := 175) (iRow iCX11_init_3 21 rfl) (by decide)) ?_
  refine q_step (g_iload_n (iRow iCX11_init_3 10 rfl) rfl rfl) ?_
  refine q_step (g_bipush (iRow iCX11_init_3 11 rfl) kb_16) ?_
  refine q_step (fun k => g_icmp_ge (tgt := 200) (iRow iCX11_init_3 12 rfl) (by decide) (fun h => absurd h (by decide)) (fun _ => k)) ?_
  refine q_step (g_aload_n (iRow iCX11_init_3 13 rfl) rfl rfl) ?_
  refine q_gt (fun h => g_getR (v := vR 60 0) (iRow iCX11_init_3 14 rfl) f11_89 ko_12 (by rw [h]; rfl)) ?_
  refine q_step (g_iload_n (iRow iCX11_init_3 15 rfl) rfl rfl) ?_
  refine q_step (topA := 97) (cellsA := 96) (slotsA := 6796) (fun hh => g_new (t0 := 1) (N := 4) (n := 20) (iRow iCX11_init_3 16 rfl) n11_79 rfl ko_5 rfl rfl rfl ⟨(by show _ ≤ 118; decide), (by show _ ≤ 7180; decide)⟩ hh) ?_
  refine q_nmM (fun M72 => ?_)
  refine q_step (g_dup (iRow iCX11_init_3 17 rfl) rfl) ?_
  refine q_cv (topA := 97) (cellsA := 96) (slotsA := 6796) (stA := [vR 5 20, vI (11 : Int32), vR 60 0]) (fun _ h hh => g_callIN (As := []) (r := none) (iRow iCX11_init_3 18 rfl) z11_81 ii_X4_init rfl rfl (j_X4_init (d + 5) h) ⟨by show _ + 1 ≤ d + 7; omega, by show 8 + (1 + 11) + 40 * _ ≤ 40 * (d + 7); omega⟩ (Nat.le_of_ble_eq_true rfl) ⟨(by show _ ≤ 118; decide), (by show _ ≤ 7180; decide)⟩ mAl_none (by decide) hh) (fun M73 => ?_)
  refine q_step (g_aast (iRow iCX11_init_3 19 rfl) kn_60 ka_60 (by decide) (fun _ => rfl) (vp_of (by decide)) ko_5 rfl rfl) ?_
  refine q_nmM (fun M74 => ?_)
  refine q_step (g_iinc (v := (12 : Int32)) (ls' := [some (vR 12 0), some (vI (12 : Int32))]) (iRow iCX11_init_3 20 rfl) rfl (by decide) (by decide) rfl) ?_
  refine q_step (g_goto (tgt := 175) (iRow iCX11_init_3 21 rfl) (by decide)) ?_
  refine q_step (g_iload_n (iRow iCX11_init_3 10 rfl) rfl rfl) ?_
  refine q_step (g_bipush (iRow iCX11_init_3 11 rfl) kb_16) ?_
  refine q_step (fun k => g_icmp_ge (tgt := 200) (iRow iCX11_init_3 12 rfl) (by decide) (fun h => absurd h (by decide)) (fun _ => k)) ?_
  refine q_step (g_aload_n (iRow iCX11_init_3 13 rfl) rfl rfl) ?_
  refine q_gt (fun h => g_getR (v := vR 60 0) (iRow iCX11_init_3 14 rfl) f11_89 ko_12 (by rw [h]; rfl)) ?_
  refine q_step (g_iload_n (iRow iCX11_init_3 15 rfl) rfl rfl) ?_
  refine q_step (topA := 98) (cellsA := 97) (slotsA := 6800) (fun hh => g_new (t0 := 1) (N := 4) (n := 21) (iRow iCX11_init_3 16 rfl) n11_79 rfl ko_5 rfl rfl rfl ⟨(by show _ ≤ 118; decide), (by show _ ≤ 7180; decide)⟩ hh) ?_
  refine q_nmM (fun M75 => ?_)
  refine q_step (g_dup (iRow iCX11_init_3 17 rfl) rfl) ?_
  refine q_cv (topA := 98) (cellsA := 97) (slotsA := 6800) (stA := [vR 5 21, vI (12 : Int32), vR 60 0]) (fun _ h hh => g_callIN (As := []) (r := none) (iRow iCX11_init_3 18 rfl) z11_81 ii_X4_init rfl rfl (j_X4_init (d + 5) h) ⟨by show _ + 1 ≤ d + 7; omega, by show 8 + (1 + 11) + 40 * _ ≤ 40 * (d + 7); omega⟩ (Nat.le_of_ble_eq_true rfl) ⟨(by show _ ≤ 118; decide), (by show _ ≤ 7180; decide)⟩ mAl_none (by decide) hh) (fun M76 => ?_)
  refine q_step (g_aast (iRow iCX11_init_3 19 rfl) kn_60 ka_60 (by decide) (fun _ => rfl) (vp_of (by decide)) ko_5 rfl rfl) ?_
  refine q_nmM (fun M77 => ?_)
  refine q_step (g_iinc (v := (13 : Int32)) (ls' := [some (vR 12 0), some (vI (13 : Int32))]) (iRow iCX11_init_3 20 rfl) rfl (by decide) (by decide) rfl) ?_
  refine q_step (g_goto (tgt := 175) (iRow iCX11_init_3 21 rfl) (by decide)) ?_
  refine q_step (g_iload_n (iRow iCX11_init_3 10 rfl) rfl rfl) ?_
  refine q_step (g_bipush (iRow iCX11_init_3 11 rfl) kb_16) ?_
  refine q_step (fun k => g_icmp_ge (tgt := 200) (iRow iCX11_init_3 12 rfl) (by decide) (fun h => absurd h (by decide)) (fun _ => k)) ?_
  refine q_step (g_aload_n (iRow iCX11_init_3 13 rfl) rfl rfl) ?_
  refine q_gt (fun h => g_getR (v := vR 60 0) (iRow iCX11_init_3 14 rfl) f11_89 ko_12 (by rw [h]; rfl)) ?_
  refine q_step (g_iload_n (iRow iCX11_init_3 15 rfl) rfl rfl) ?_
  refine q_step (topA := 99) (cellsA := 98) (slotsA := 6804) (fun hh => g_new (t0 := 1) (N := 4) (n := 22) (iRow iCX11_init_3 16 rfl) n11_79 rfl ko_5 rfl rfl rfl ⟨(by show _ ≤ 118; decide), (by show _ ≤ 7180; decide)⟩ hh) ?_
  refine q_nmM (fun M78 => ?_)
  refine q_step (g_dup (iRow iCX11_init_3 17 rfl) rfl) ?_
  refine q_cv (topA := 99) (cellsA := 98) (slotsA := 6804) (stA := [vR 5 22, vI (13 : Int32), vR 60 0]) (fun _ h hh => g_callIN (As := []) (r := none) (iRow iCX11_init_3 18 rfl) z11_81 ii_X4_init rfl rfl (j_X4_init (d + 5) h) ⟨by show _ + 1 ≤ d + 7; omega, by show 8 + (1 + 11) + 40 * _ ≤ 40 * (d + 7); omega⟩ (Nat.le_of_ble_eq_true rfl) ⟨(by show _ ≤ 118; decide), (by show _ ≤ 7180; decide)⟩ mAl_none (by decide) hh) (fun M79 => ?_)
  refine q_step (g_aast (iRow iCX11_init_3 19 rfl) kn_60 ka_60 (by decide) (fun _ => rfl) (vp_of (by decide)) ko_5 rfl rfl) ?_
  refine q_nmM (fun M80 => ?_)
  refine q_step (g_iinc (v := (14 : Int32)) (ls' := [some (vR 12 0), some (vI (14 : Int32))]) (iRow iCX11_init_3 20 rfl) rfl (by decide) (by decide) rfl) ?_
  refine q_step (g_goto (tgt := 175) (iRow iCX11_init_3 21 rfl) (by decide)) ?_
  refine q_step (g_iload_n (iRow iCX11_init_3 10 rfl) rfl rfl) ?_
  refine q_step (g_bipush (iRow iCX11_init_3 11 rfl) kb_16) ?_
  refine q_step (fun k => g_icmp_ge (tgt := 200) (iRow iCX11_init_3 12 rfl) (by decide) (fun h => absurd h (by decide)) (fun _ => k)) ?_
  refine q_step (g_aload_n (iRow iCX11_init_3 13 rfl) rfl rfl) ?_
  refine q_gt (fun h => g_getR (v := vR 60 0) (iRow iCX11_init_3 14 rfl) f11_89 ko_12 (by rw [h]; rfl)) ?_
  refine q_step (g_iload_n (iRow iCX11_init_3 15 rfl) rfl rfl) ?_
  refine q_step (topA := 100) (cellsA := 99) (slotsA := 6808) (fun hh => g_new (t0 := 1) (N := 4) (n := 23) (iRow iCX11_init_3 16 rfl) n11_79 rfl ko_5 rfl rfl rfl ⟨(by show _ ≤ 118; decide), (by show _ ≤ 7180; decide)⟩ hh) ?_
  refine q_nmM (fun M81 => ?_)
  refine q_step (g_dup (iRow iCX11_init_3 17 rfl) rfl) ?_
  refine q_cv (topA := 100) (cellsA := 99) (slotsA := 6808) (stA := [vR 5 23, vI (14 : Int32), vR 60 0]) (fun _ h hh => g_callIN (As := []) (r := none) (iRow iCX11_init_3 18 rfl) z11_81 ii_X4_init rfl rfl (j_X4_init (d + 5) h) ⟨by show _ + 1 ≤ d + 7; omega, by show 8 + (1 + 11) + 40 * _ ≤ 40 * (d + 7); omega⟩ (Nat.le_of_ble_eq_true rfl) ⟨(by show _ ≤ 118; decide), (by show _ ≤ 7180; decide)⟩ mAl_none (by decide) hh) (fun M82 => ?_)
  refine q_step (g_aast (iRow iCX11_init_3 19 rfl) kn_60 ka_60 (by decide) (fun _ => rfl) (vp_of (by decide)) ko_5 rfl rfl) ?_
  refine q_nmM (fun M83 => ?_)
  refine q_step (g_iinc (v := (15 : Int32)) (ls' := [some (vR 12 0), some (vI (15 : Int32))]) (iRow iCX11_init_3 20 rfl) rfl (by decide) (by decide) rfl) ?_
  refine q_step (g_goto (tgt := 175) (iRow iCX11_init_3 21 rfl) (by decide)) ?_
  refine q_step (g_iload_n (iRow iCX11_init_3 10 rfl) rfl rfl) ?_
  refine q_step (g_bipush (iRow iCX11_init_3 11 rfl) kb_16) ?_
  refine q_step (fun k => g_icmp_ge (tgt := 200) (iRow iCX11_init_3 12 rfl) (by decide) (fun h => absurd h (by decide)) (fun _ => k)) ?_
  refine q_step (g_aload_n (iRow iCX11_init_3 13 rfl) rfl rfl) ?_
  refine q_gt (fun h => g_getR (v := vR 60 0) (iRow iCX11_init_3 14 rfl) f11_89 ko_12 (by rw [h]; rfl)) ?_
  refine q_step (g_iload_n (iRow iCX11_init_3 15 rfl) rfl rfl) ?_
  refine q_step (topA := 101) (cellsA := 100) (slotsA := 6812) (fun hh => g_new (t0 := 1) (N := 4) (n := 24) (iRow iCX11_init_3 16 rfl) n11_79 rfl ko_5 rfl rfl rfl ⟨(by show _ ≤ 118; decide), (by show _ ≤ 7180; decide)⟩ hh) ?_
  refine q_nmM (fun M84 => ?_)
  refine q_step (g_dup (iRow iCX11_init_3 17 rfl) rfl) ?_
  refine q_cv (topA := 101) (cellsA := 100) (slotsA := 6812) (stA := [vR 5 24, vI (15 : Int32), vR 60 0]) (fun _ h hh => g_callIN (As := []) (r := none) (iRow iCX11_init_3 18 rfl) z11_81 ii_X4_init rfl rfl (j_X4_init (d + 5) h) ⟨by show _ + 1 ≤ d + 7; omega, by show 8 + (1 + 11) + 40 * _ ≤ 40 * (d + 7); omega⟩ (Nat.le_of_ble_eq_true rfl) ⟨(by show _ ≤ 118; decide), (by show _ ≤ 7180; decide)⟩ mAl_none (by decide) hh) (fun M85 => ?_)
  refine q_step (g_aast (iRow iCX11_init_3 19 rfl) kn_60 ka_60 (by decide) (fun _ => rfl) (vp_of (by decide)) ko_5 rfl rfl) ?_
  refine q_nmM (fun M86 => ?_)
  refine q_step (g_iinc (v := (16 : Int32)) (ls' := [some (vR 12 0), some (vI (16 : Int32))]) (iRow iCX11_init_3 20 rfl) rfl (by decide) (by decide) rfl) ?_
  refine q_step (g_goto (tgt := 175) (iRow iCX11_init_3 21 rfl) (by decide)) ?_
  refine q_step (g_iload_n (iRow iCX11_init_3 10 rfl) rfl rfl) ?_
  refine q_step (g_bipush (iRow iCX11_init_3 11 rfl) kb_16) ?_
  refine q_step (fun k => g_icmp_ge (tgt := 200) (iRow iCX11_init_3 12 rfl) (by decide) (fun _ => k) (fun h => absurd h (by decide))) ?_
  refine q_step (g_aload_n (iRow iCX11_init_3 22 rfl) rfl rfl) ?_
  refine q_step (g_iconst (iRow iCX11_init_3 23 rfl) kc_4) ?_
  refine q_step (topA := 102) (cellsA := 101) (slotsA := 6816) (fun hh => g_newr (t0 := 1) (n := 0) (iRow iCX11_init_4 0 rfl) n11_79a ao_Moment kn_61 ka_61 (by decide) (by decide) kl_4 rfl rfl rfl ⟨(by show _ ≤ 118; decide), (by show _ ≤ 7180; decide)⟩ hh) ?_
  refine q_nmM (fun M87 => ?_)
  refine q_step (g_putR (r := 1) (iRow iCX11_init_4 1 rfl) f11_93 (Or.inr ⟨rfl, rfl⟩) ko_12 rfl) ?_
  refine q_nmM (fun M88 => ?_)
  refine q_step (g_aload_n (iRow iCX11_init_4 2 rfl) rfl rfl) ?_
  refine q_step (g_iconst (iRow iCX11_init_4 3 rfl) kc_4) ?_
  refine q_step (topA := 103) (cellsA := 102) (slotsA := 6820) (fun hh => g_newr (t0 := 1) (n := 0) (iRow iCX11_init_4 4 rfl) n11_19a ao_Told kn_62 ka_62 (by decide) (by decide) kl_4 rfl rfl rfl ⟨(by show _ ≤ 118; decide), (by show _ ≤ 7180; decide)⟩ hh) ?_
  refine q_nmM (fun M89 => ?_)
  refine q_step (g_putR (r := 1) (iRow iCX11_init_4 5 rfl) f11_96 (Or.inr ⟨rfl, rfl⟩) ko_12 rfl) ?_
  refine q_nmM (fun M90 => ?_)
  refine q_step (g_iconst (iRow iCX11_init_4 6 rfl) kc_0) ?_
  refine q_step (g_istore_n (ls' := [some (vR 12 0), some (vI (0 : Int32))]) (iRow iCX11_init_4 7 rfl) rfl (by decide) rfl) ?_
  refine q_step (g_iload_n (iRow iCX11_init_4 8 rfl) rfl rfl) ?_
  refine q_step (g_iconst (iRow iCX11_init_4 9 rfl) kc_4) ?_
  refine q_step (fun k => g_icmp_ge (tgt := 255) (iRow iCX11_init_4 10 rfl) (by decide) (fun h => absurd h (by decide)) (fun _ => k)) ?_
  refine q_step (g_aload_n (iRow iCX11_init_4 11 rfl) rfl rfl) ?_
  refine q_gt (fun h => g_getR (v := vR 61 0) (iRow iCX11_init_4 12 rfl) f11_93 ko_12 (by rw [h]; rfl)) ?_
  refine q_step (g_iload_n (iRow iCX11_init_4 13 rfl) rfl rfl) ?_
  refine q_step (topA := 104) (cellsA := 103) (slotsA := 6824) (fun hh => g_new (t0 := 1) (N := 4) (n := 25) (iRow iCX11_init_4 14 rfl) n11_79 rfl ko_5 rfl rfl rfl ⟨(by show _ ≤ 118; decide), (by show _ ≤ 7180; decide)⟩ hh) ?_
  refine q_nmM (fun M91 => ?_)
  refine q_step (g_dup (iRow iCX11_init_4 15 rfl) rfl) ?_
  refine q_cv (topA := 104) (cellsA := 103) (slotsA := 6824) (stA := [vR 5 25, vI (0 : Int32), vR 61 0]) (fun _ h hh => g_callIN (As := []) (r := none) (iRow iCX11_init_4 16 rfl) z11_81 ii_X4_init rfl rfl (j_X4_init (d + 5) h) ⟨by show _ + 1 ≤ d + 7; omega, by show 8 + (1 + 11) + 40 * _ ≤ 40 * (d + 7); omega⟩ (Nat.le_of_ble_eq_true rfl) ⟨(by show _ ≤ 118; decide), (by show _ ≤ 7180; decide)⟩ mAl_none (by decide) hh) (fun M92 => ?_)
  refine q_step (g_aast (iRow iCX11_init_4 17 rfl) kn_61 ka_61 (by decide) (fun _ => rfl) (vp_of (by decide)) ko_5 rfl rfl) ?_
  refine q_nmM (fun M93 => ?_)
  refine q_step (g_aload_n (iRow iCX11_init_4 18 rfl) rfl rfl) ?_
  refine q_gt (fun h => g_getR (v := vR 62 0) (iRow iCX11_init_4 19 rfl) f11_96 ko_12 (by rw [h]; rfl)) ?_
  refine q_step (g_iload_n (iRow iCX11_init_4 20 rfl) rfl rfl) ?_
  refine q_step (topA := 105) (cellsA := 104) (slotsA := 6830) (fun hh => g_new (t0 := 1) (N := 6) (n := 2) (iRow iCX11_init_4 21 rfl) n11_19 rfl ko_9 rfl rfl rfl ⟨(by show _ ≤ 118; decide), (by show _ ≤ 7180; decide)⟩ hh) ?_
  refine q_nmM (fun M94 => ?_)
  refine q_step (g_dup (iRow iCX11_init_4 22 rfl) rfl) ?_
  refine q_cv (topA := 107) (cellsA := 106) (slotsA := 6910) (stA := [vR 9 2, vI (0 : Int32), vR 62 0]) (fun _ h hh => g_callIN (As := []) (r := none) (iRow iCX11_init_4 23 rfl) z11_21 ii_X8_init rfl rfl (j_X8_init_t105 (d + 5) h) ⟨by show _ + 1 ≤ d + 7; omega, by show 8 + (1 + 11) + 40 * _ ≤ 40 * (d + 7); omega⟩ (Nat.le_of_ble_eq_true rfl) ⟨(by show _ ≤ 118; decide), (by show _ ≤ 7180; decide)⟩ (mAl_some rfl rfl rfl) (by decide) hh) (fun M95 => ?_)
  refine q_step (g_aast (iRow iCX11_init_5 0 rfl) kn_62 ka_62 (by decide) (fun _ => rfl) (vp_of (by decide)) ko_9 rfl rfl) ?_
  refine q_nmM (fun M96 => ?_)
  refine q_step (g_iinc (v := (1 : Int32)) (ls' := [some (vR 12 0), some (vI (1 : Int32))]) (iRow iCX11_init_5 1 rfl) rfl (by decide) (by decide) rfl) ?_
  refine q_step (g_goto (tgt := 218) (iRow iCX11_init_5 2 rfl) (by decide)) ?_
  refine q_step (g_iload_n (iRow iCX11_init_4 8 rfl) rfl rfl) ?_
  refine q_step (g_iconst (iRow iCX11_init_4 9 rfl) kc_4) ?_
  refine q_step (fun k => g_icmp_ge (tgt := 255) (iRow iCX11_init_4 10 rfl) (by decide) (fun h => absurd h (by decide)) (fun _ => k)) ?_
  refine q_step (g_aload_n (iRow iCX11_init_4 11 rfl) rfl rfl) ?_
  refine q_gt (fun h => g_getR (v := vR 61 0) (iRow iCX11_init_4 12 rfl) f11_93 ko_12 (by rw [h]; rfl)) ?_
  refine q_step (g_iload_n (iRow iCX11_init_4 13 rfl) rfl rfl) ?_
  refine q_step (topA := 108) (cellsA := 107) (slotsA := 6914) (fun hh => g_new (t0 := 1) (N := 4) (n := 26) (iRow iCX11_init_4 14 rfl) n11_79 rfl ko_5 rfl rfl rfl ⟨(by show _ ≤ 118; decide), (by show _ ≤ 7180; decide)⟩ hh) ?_
  refine q_nmM (fun M97 => ?_)
  refine q_step (g_dup (iRow iCX11_init_4 15 rfl) rfl) ?_
  refine q_cv (topA := 108) (cellsA := 107) (slotsA := 6914) (stA := [vR 5 26, vI (1 : Int32), vR 61 0]) (fun _ h hh => g_callIN (As := []) (r := none) (iRow iCX11_init_4 16 rfl) z11_81 ii_X4_init rfl rfl (j_X4_init (d + 5) h) ⟨by show _ + 1 ≤ d + 7; omega, by show 8 + (1 + 11) + 40 * _ ≤ 40 * (d + 7); omega⟩ (Nat.le_of_ble_eq_true rfl) ⟨(by show _ ≤ 118; decide), (by show _ ≤ 7180; decide)⟩ mAl_none (by decide) hh) (fun M98 => ?_)
  refine q_step (g_aast (iRow iCX11_init_4 17 rfl) kn_61 ka_61 (by decide) (fun _ => rfl) (vp_of (by decide)) ko_5 rfl rfl) ?_
  refine q_nmM (fun M99 => ?_)
  refine q_step (g_aload_n (iRow iCX11_init_4 18 rfl) rfl rfl) ?_
  refine q_gt (fun h => g_getR (v := vR 62 0) (iRow iCX11_init_4 19 rfl) f11_96 ko_12 (by rw [h]; rfl)) ?_
  refine q_step (g_iload_n (iRow iCX11_init_4 20 rfl) rfl rfl) ?_
  refine q_step (topA := 109) (cellsA := 108) (slotsA := 6920) (fun hh => g_new (t0 := 1) (N := 6) (n := 3) (iRow iCX11_init_4 21 rfl) n11_19 rfl ko_9 rfl rfl rfl ⟨(by show _ ≤ 118; decide), (by show _ ≤ 7180; decide)⟩ hh) ?_
  refine q_nmM (fun M100 => ?_)
  refine q_step (g_dup (iRow iCX11_init_4 22 rfl) rfl) ?_
  refine q_cv (topA := 111) (cellsA := 110) (slotsA := 7000) (stA := [vR 9 3, vI (1 : Int32), vR 62 0]) (fun _ h hh => g_callIN (As := []) (r := none) (iRow iCX11_init_4 23 rfl) z11_21 ii_X8_init rfl rfl (j_X8_init_t109 (d + 5) h) ⟨by show _ + 1 ≤ d + 7; omega, by show 8 + (1 + 11) + 40 * _ ≤ 40 * (d + 7); omega⟩ (Nat.le_of_ble_eq_true rfl) ⟨(by show _ ≤ 118; decide), (by show _ ≤ 7180; decide)⟩ (mAl_some rfl rfl rfl) (by decide) hh) (fun M101 => ?_)
  refine q_step (g_aast (iRow iCX11_init_5 0 rfl) kn_62 ka_62 (by decide) (fun _ => rfl) (vp_of (by decide)) ko_9 rfl rfl) ?_
  refine q_nmM (fun M102 => ?_)
  refine q_step (g_iinc (v := (2 : Int32)) (ls' := [some (vR 12 0), some (vI (2 : Int32))]) (iRow iCX11_init_5 1 rfl) rfl (by decide) (by decide) rfl) ?_
  refine q_step (g_goto (tgt := 218) (iRow iCX11_init_5 2 rfl) (by decide)) ?_
  refine q_step (g_iload_n (iRow iCX11_init_4 8 rfl) rfl rfl) ?_
  refine q_step (g_iconst (iRow iCX11_init_4 9 rfl) kc_4) ?_
  refine q_step (fun k => g_icmp_ge (tgt := 255) (iRow iCX11_init_4 10 rfl) (by decide) (fun h => absurd h (by decide)) (fun _ => k)) ?_
  refine q_step (g_aload_n (iRow iCX11_init_4 11 rfl) rfl rfl) ?_
  refine q_gt (fun h => g_getR (v := vR 61 0) (iRow iCX11_init_4 12 rfl) f11_93 ko_12 (by rw [h]; rfl)) ?_
  refine q_step (g_iload_n (iRow iCX11_init_4 13 rfl) rfl rfl) ?_
  refine q_step (topA := 112) (cellsA := 111) (slotsA := 7004) (fun hh => g_new (t0 := 1) (N := 4) (n := 27) (iRow iCX11_init_4 14 rfl) n11_79 rfl ko_5 rfl rfl rfl ⟨(by show _ ≤ 118; decide), (by show _ ≤ 7180; decide)⟩ hh) ?_
  refine q_nmM (fun M103 => ?_)
  refine q_step (g_dup (iRow iCX11_init_4 15 rfl) rfl) ?_
  refine q_cv (topA := 112) (cellsA := 111) (slotsA := 7004) (stA := [vR 5 27, vI (2 : Int32), vR 61 0]) (fun _ h hh => g_callIN (As := []) (r := none) (iRow iCX11_init_4 16 rfl) z11_81 ii_X4_init rfl rfl (j_X4_init (d + 5) h) ⟨by show _ + 1 ≤ d + 7; omega, by show 8 + (1 + 11) + 40 * _ ≤ 40 * (d + 7); omega⟩ (Nat.le_of_ble_eq_true rfl) ⟨(by show _ ≤ 118; decide), (by show _ ≤ 7180; decide)⟩ mAl_none (by decide) hh) (fun M104 => ?_)
  refine q_step (g_aast (iRow iCX11_init_4 17 rfl) kn_61 ka_61 (by decide) (fun _ => rfl) (vp_of (by decide)) ko_5 rfl rfl) ?_
  refine q_nmM (fun M105 => ?_)
  refine q_step (g_aload_n (iRow iCX11_init_4 18 rfl) rfl rfl) ?_
  refine q_gt (fun h => g_getR (v := vR 62 0) (iRow iCX11_init_4 19 rfl) f11_96 ko_12 (by rw [h]; rfl)) ?_
  refine q_step (g_iload_n (iRow iCX11_init_4 20 rfl) rfl rfl) ?_
  refine q_step (topA := 113) (cellsA := 112) (slotsA := 7010) (fun hh => g_new (t0 := 1) (N := 6) (n := 4) (iRow iCX11_init_4 21 rfl) n11_19 rfl ko_9 rfl rfl rfl ⟨(by show _ ≤ 118; decide), (by show _ ≤ 7180; decide)⟩ hh) ?_
  refine q_nmM (fun M106 => ?_)
  refine q_step (g_dup (iRow iCX11_init_4 22 rfl) rfl) ?_
  refine q_cv (topA := 115) (cellsA := 114) (slotsA := 7090) (stA := [vR 9 4, vI (2 : Int32), vR 62 0]) (fun _ h hh => g_callIN (As := []) (r := none) (iRow iCX11_init_4 23 rfl) z11_21 ii_X8_init rfl rfl (j_X8_init_t113 (d + 5) h) ⟨by show _ + 1 ≤ d + 7; omega, by show 8 + (1 + 11) + 40 * _ ≤ 40 * (d + 7); omega⟩ (Nat.le_of_ble_eq_true rfl) ⟨(by show _ ≤ 118; decide), (by show _ ≤ 7180; decide)⟩ (mAl_some rfl rfl rfl) (by decide) hh) (fun M107 => ?_)
  refine q_step (g_aast (iRow iCX11_init_5 0 rfl) kn_62 ka_62 (by decide) (fun _ => rfl) (vp_of (by decide)) ko_9 rfl rfl) ?_
  refine q_nmM (fun M108 => ?_)
  refine q_step (g_iinc (v := (3 : Int32)) (ls' := [some (vR 12 0), some (vI (3 : Int32))]) (iRow iCX11_init_5 1 rfl) rfl (by decide) (by decide) rfl) ?_
  refine q_step (g_goto (tgt := 218) (iRow iCX11_init_5 2 rfl) (by decide)) ?_
  refine q_step (g_iload_n (iRow iCX11_init_4 8 rfl) rfl rfl) ?_
  refine q_step (g_iconst (iRow iCX11_init_4 9 rfl) kc_4) ?_
  refine q_step (fun k => g_icmp_ge (tgt := 255) (iRow iCX11_init_4 10 rfl) (by decide) (fun h => absurd h (by decide)) (fun _ => k)) ?_
  refine q_step (g_aload_n (iRow iCX11_init_4 11 rfl) rfl rfl) ?_
  refine q_gt (fun h => g_getR (v := vR 61 0) (iRow iCX11_init_4 12 rfl) f11_93 ko_12 (by rw [h]; rfl)) ?_
  refine q_step (g_iload_n (iRow iCX11_init_4 13 rfl) rfl rfl) ?_
  refine q_step (topA := 116) (cellsA := 115) (slotsA := 7094) (fun hh => g_new (t0 := 1) (N := 4) (n := 28) (iRow iCX11_init_4 14 rfl) n11_79 rfl ko_5 rfl rfl rfl ⟨(by show _ ≤ 118; decide), (by show _ ≤ 7180; decide)⟩ hh) ?_
  refine q_nmM (fun M109 => ?_)
  refine q_step (g_dup (iRow iCX11_init_4 15 rfl) rfl) ?_
  refine q_cv (topA := 116) (cellsA := 115) (slotsA := 7094) (stA := [vR 5 28, vI (3 : Int32), vR 61 0]) (fun _ h hh => g_callIN (As := []) (r := none) (iRow iCX11_init_4 16 rfl) z11_81 ii_X4_init rfl rfl (j_X4_init (d + 5) h) ⟨by show _ + 1 ≤ d + 7; omega, by show 8 + (1 + 11) + 40 * _ ≤ 40 * (d + 7); omega⟩ (Nat.le_of_ble_eq_true rfl) ⟨(by show _ ≤ 118; decide), (by show _ ≤ 7180; decide)⟩ mAl_none (by decide) hh) (fun M110 => ?_)
  refine q_step (g_aast (iRow iCX11_init_4 17 rfl) kn_61 ka_61 (by decide) (fun _ => rfl) (vp_of (by decide)) ko_5 rfl rfl) ?_
  refine q_nmM (fun M111 => ?_)
  refine q_step (g_aload_n (iRow iCX11_init_4 18 rfl) rfl rfl) ?_
  refine q_gt (fun h => g_getR (v := vR 62 0) (iRow iCX11_init_4 19 rfl) f11_96 ko_12 (by rw [h]; rfl)) ?_
  refine q_step (g_iload_n (iRow iCX11_init_4 20 rfl) rfl rfl) ?_
  refine q_step (topA := 117) (cellsA := 116) (slotsA := 7100) (fun hh => g_new (t0 := 1) (N := 6) (n := 5) (iRow iCX11_init_4 21 rfl) n11_19 rfl ko_9 rfl rfl rfl ⟨(by show _ ≤ 118; decide), (by show _ ≤ 7180; decide)⟩ hh) ?_
  refine q_nmM (fun M112 => ?_)
  refine q_step (g_dup (iRow iCX11_init_4 22 rfl) rfl) ?_
  refine q_cv (topA := 119) (cellsA := 118) (slotsA := 7180) (stA := [vR 9 5, vI (3 : Int32), vR 62 0]) (fun _ h hh => g_callIN (As := []) (r := none) (iRow iCX11_init_4 23 rfl) z11_21 ii_X8_init rfl rfl (j_X8_init_t117 (d + 5) h) ⟨by show _ + 1 ≤ d + 7; omega, by show 8 + (1 + 11) + 40 * _ ≤ 40 * (d + 7); omega⟩ (Nat.le_of_ble_eq_true rfl) ⟨(by show _ ≤ 118; decide), (by show _ ≤ 7180; decide)⟩ (mAl_some rfl rfl rfl) (by decide) hh) (fun M113 => ?_)
  refine q_step (g_aast (iRow iCX11_init_5 0 rfl) kn_62 ka_62 (by decide) (fun _ => rfl) (vp_of (by decide)) ko_9 rfl rfl) ?_
  refine q_nmM (fun M114 => ?_)
  refine q_step (g_iinc (v := (4 : Int32)) (ls' := [some (vR 12 0), some (vI (4 : Int32))]) (iRow iCX11_init_5 1 rfl) rfl (by decide) (by decide) rfl) ?_
  refine q_step (g_goto (tgt := 218) (iRow iCX11_init_5 2 rfl) (by decide)) ?_
  refine q_step (g_iload_n (iRow iCX11_init_4 8 rfl) rfl rfl) ?_
  refine q_step (g_iconst (iRow iCX11_init_4 9 rfl) kc_4) ?_
  refine q_step (fun k => g_icmp_ge (tgt := 255) (iRow iCX11_init_4 10 rfl) (by decide) (fun _ => k) (fun h => absurd h (by decide))) ?_
  exact q_retv (iRow iCX11_init_5 3 rfl) rfl
