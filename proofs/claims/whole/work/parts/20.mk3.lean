set_option maxHeartbeats 40000000 in
set_option maxRecDepth 20000 in
theorem j_X12_plain_t167 {G : mg} {M M' : mm} (d : Nat) (h : i_X12_plain_t167 M = some M') : CT G rdC yX12_plain cX12_plain 3 none none (d + 0) 0 0 167 167 [vR 13 0, vI (0 : Int32)] M none M' := by
  refine cc_v (ls := [some (vR 13 0), some (vI (0 : Int32)), none]) rfl rfl (Nat.le_of_ble_eq_true rfl) (fun Z => ?_) h
  show SG G rdC (mRm (d + 0) 0 0) (RX12, "plain", cX12_plain, 3, none, none) Z 167 0 0 0 [some (vR 13 0), some (vI (0 : Int32)), none] [] M _ _
  unfold i_X12_plain_t167
  refine q_step (g_iconst (iRow iCX12_plain_0 0 rfl) kc_0) ?_
  refine q_step (g_istore_n (ls' := [some (vR 13 0), some (vI (0 : Int32)), some (vI (0 : Int32))]) (iRow iCX12_plain_0 1 rfl) rfl (by decide) rfl) ?_
  refine q_step (g_iload_n (iRow iCX12_plain_0 2 rfl) rfl rfl) ?_
  refine q_step (g_bipush (iRow iCX12_plain_0 3 rfl) kb_6) ?_
  refine q_step (fun k => g_icmp_ge (tgt := 26) (iRow iCX12_plain_0 4 rfl) (by decide) (fun h => absurd h (by decide)) (fun _ => k)) ?_
  refine q_step (g_aload_n (iRow iCX12_plain_0 5 rfl) rfl rfl) ?_
  refine q_gt (fun h => g_getR (v := vR 64 0) (iRow iCX12_plain_0 6 rfl) f12_13 ko_13 (by rw [h]; rfl)) ?_
  refine q_step (g_bipush (iRow iCX12_plain_0 7 rfl) kb_6) ?_
  refine q_step (g_iload_n (iRow iCX12_plain_0 8 rfl) rfl rfl) ?_
  refine q_step (g_imul (iRow iCX12_plain_0 9 rfl)) ?_
  refine q_val (v := (0 : Int32)) (by decide) ?_
  refine q_step (g_iload_n (iRow iCX12_plain_0 10 rfl) rfl rfl) ?_
  refine q_step (g_iadd (iRow iCX12_plain_0 11 rfl)) ?_
  refine q_val (v := (0 : Int32)) (by decide) ?_
  refine q_step (g_iconst (iRow iCX12_plain_0 12 rfl) kc_0) ?_
  refine q_step (g_iast (iRow iCX12_plain_0 13 rfl) kn_64 ka_64 (vp_of (by decide))) ?_
  refine q_nmM (fun M1 => ?_)
  refine q_step (g_iinc (v := (1 : Int32)) (ls' := [some (vR 13 0), some (vI (0 : Int32)), some (vI (1 : Int32))]) (iRow iCX12_plain_0 14 rfl) rfl (by decide) (by decide) rfl) ?_
  refine q_step (g_goto (tgt := 2) (iRow iCX12_plain_0 15 rfl) (by decide)) ?_
  refine q_step (g_iload_n (iRow iCX12_plain_0 2 rfl) rfl rfl) ?_
  refine q_step (g_bipush (iRow iCX12_plain_0 3 rfl) kb_6) ?_
  refine q_step (fun k => g_icmp_ge (tgt := 26) (iRow iCX12_plain_0 4 rfl) (by decide) (fun h => absurd h (by decide)) (fun _ => k)) ?_
  refine q_step (g_aload_n (iRow iCX12_plain_0 5 rfl) rfl rfl) ?_
  refine q_gt (fun h => g_getR (v := vR 64 0) (iRow iCX12_plain_0 6 rfl) f12_13 ko_13 (by rw [h]; rfl)) ?_
  refine q_step (g_bipush (iRow iCX12_plain_0 7 rfl) kb_6) ?_
  refine q_step (g_iload_n (iRow iCX12_plain_0 8 rfl) rfl rfl) ?_
  refine q_step (g_imul (iRow iCX12_plain_0 9 rfl)) ?_
  refine q_val (v := (0 : Int32)) (by decide) ?_
  refine q_step (g_iload_n (iRow iCX12_plain_0 10 rfl) rfl rfl) ?_
  refine q_step (g_iadd (iRow iCX12_plain_0 11 rfl)) ?_
  refine q_val (v := (1 : Int32)) (by decide) ?_
  refine q_step (g_iconst (iRow iCX12_plain_0 12 rfl) kc_0) ?_
  refine q_step (g_iast (iRow iCX12_plain_0 13 rfl) kn_64 ka_64 (vp_of (by decide))) ?_
  refine q_nmM (fun M2 => ?_)
  refine q_step (g_iinc (v := (2 : Int32)) (ls' := [some (vR 13 0), some (vI (0 : Int32)), some (vI (2 : Int32))]) (iRow iCX12_plain_0 14 rfl) rfl (by decide) (by decide) rfl) ?_
  refine q_step (g_goto (tgt := 2) (iRow iCX12_plain_0 15 rfl) (by decide)) ?_
  refine q_step (g_iload_n (iRow iCX12_plain_0 2 rfl) rfl rfl) ?_
  refine q_step (g_bipush (iRow iCX12_plain_0 3 rfl) kb_6) ?_
  refine q_step (fun k => g_icmp_ge (tgt := 26) (iRow iCX12_plain_0 4 rfl) (by decide) (fun h => absurd h (by decide)) (fun _ => k)) ?_
  refine q_step (g_aload_n (iRow iCX12_plain_0 5 rfl) rfl rfl) ?_
  refine q_gt (fun h => g_getR (v := vR 64 0) (iRow iCX12_plain_0 6 rfl) f12_13 ko_13 (by rw [h]; rfl)) ?_
  refine q_step (g_bipush (iRow iCX12_plain_0 7 rfl) kb_6) ?_
  refine q_step (g_iload_n (iRow iCX12_plain_0 8 rfl) rfl rfl) ?_
  refine q_step (g_imul (iRow iCX12_plain_0 9 rfl)) ?_
  refine q_val (v := (0 : Int32)) (by decide) ?_
  refine q_step (g_iload_n (iRow iCX12_plain_0 10 rfl) rfl rfl) ?_
  refine q_step (g_iadd (iRow iCX12_plain_0 11 rfl)) ?_
  refine q_val (v := (2 : Int32)) (by decide) ?_
  refine q_step (g_iconst (iRow iCX12_plain_0 12 rfl) kc_0) ?_
  refine q_step (g_iast (iRow iCX12_plain_0 13 rfl) kn_64 ka_64 (vp_of (by decide))) ?_
  refine q_nmM (fun M3 => ?_)
  refine q_step (g_iinc (v := (3 : Int32)) (ls' := [some (vR 13 0), some (vI (0 : Int32)), some (vI (3 : Int32))]) (iRow iCX12_plain_0 14 rfl) rfl (by decide) (by decide) rfl) ?_
  refine q_step (g_goto (tgt := 2) (iRow iCX12_plain_0 15 rfl) (by decide)) ?_
  refine q_step (g_iload_n (iRow iCX12_plain_0 2 rfl) rfl rfl) ?_
  refine q_step (g_bipush (iRow iCX12_plain_0 3 rfl) kb_6) ?_
  refine q_step (fun k => g_icmp_ge (tgt := 26) (iRow iCX12_plain_0 4 rfl) (by decide) (fun h => absurd h (by decide)) (fun _ => k)) ?_
  refine q_step (g_aload_n (iRow iCX12_plain_0 5 rfl) rfl rfl) ?_
  refine q_gt (fun h => g_getR (v := vR 64 0) (iRow iCX12_plain_0 6 rfl) f12_13 ko_13 (by rw [h]; rfl)) ?_
  refine q_step (g_bipush (iRow iCX12_plain_0 7 rfl) kb_6) ?_
  refine q_step (g_iload_n (iRow iCX12_plain_0 8 rfl) rfl rfl) ?_
  refine q_step (g_imul (iRow iCX12_plain_0 9 rfl)) ?_
  refine q_val (v := (0 : Int32)) (by decide) ?_
  refine q_step (g_iload_n (iRow iCX12_plain_0 10 rfl) rfl rfl) ?_
  refine q_step (g_iadd (iRow iCX12_plain_0 11 rfl)) ?_
  refine q_val (v := (3 : Int32)) (by decide) ?_
  refine q_step (g_iconst (iRow iCX12_plain_0 12 rfl) kc_0) ?_
  refine q_step (g_iast (iRow iCX12_plain_0 13 rfl) kn_64 ka_64 (vp_of (by decide))) ?_
  refine q_nmM (fun M4 => ?_)
  refine q_step (g_iinc (v := (4 : Int32)) (ls' := [some (vR 13 0), some (vI (0 : Int32)), some (vI (4 : Int32))]) (iRow iCX12_plain_0 14 rfl) rfl (by decide) (by decide) rfl) ?_
  refine q_step (g_goto (tgt := 2) (iRow iCX12_plain_0 15 rfl) (by decide)) ?_
  refine q_step (g_iload_n (iRow iCX12_plain_0 2 rfl) rfl rfl) ?_
  refine q_step (g_bipush (iRow iCX12_plain_0 3 rfl) kb_6) ?_
  refine q_step (fun k => g_icmp_ge (tgt := 26) (iRow iCX12_plain_0 4 rfl) (by decide) (fun h => absurd h (by decide)) (fun _ => k)) ?_
  refine q_step (g_aload_n (iRow iCX12_plain_0 5 rfl) rfl rfl) ?_
  refine q_gt (fun h => g_getR (v := vR 64 0) (iRow iCX12_plain_0 6 rfl) f12_13 ko_13 (by rw [h]; rfl)) ?_
  refine q_step (g_bipush (iRow iCX12_plain_0 7 rfl) kb_6) ?_
  refine q_step (g_iload_n (iRow iCX12_plain_0 8 rfl) rfl rfl) ?_
  refine q_step (g_imul (iRow iCX12_plain_0 9 rfl)) ?_
  refine q_val (v := (0 : Int32)) (by decide) ?_
  refine q_step (g_iload_n (iRow iCX12_plain_0 10 rfl) rfl rfl) ?_
  refine q_step (g_iadd (iRow iCX12_plain_0 11 rfl)) ?_
  refine q_val (v := (4 : Int32)) (by decide) ?_
  refine q_step (g_iconst (iRow iCX12_plain_0 12 rfl) kc_0) ?_
  refine q_step (g_iast (iRow iCX12_plain_0 13 rfl) kn_64 ka_64 (vp_of (by decide))) ?_
  refine q_nmM (fun M5 => ?_)
  refine q_step (g_iinc (v := (5 : Int32)) (ls' := [some (vR 13 0), some (vI (0 : Int32)), some (vI (5 : Int32))]) (iRow iCX12_plain_0 14 rfl) rfl (by decide) (by decide) rfl) ?_
  refine q_step (g_goto (tgt := 2) (iRow iCX12_plain_0 15 rfl) (by decide)) ?_
  refine q_step (g_iload_n (iRow iCX12_plain_0 2 rfl) rfl rfl) ?_
  refine q_step (g_bipush (iRow iCX12_plain_0 3 rfl) kb_6) ?_
  refine q_step (fun k => g_icmp_ge (tgt := 26) (iRow iCX12_plain_0 4 rfl) (by decide) (fun h => absurd h (by decide)) (fun _ => k)) ?_
  refine q_step (g_aload_n (iRow iCX12_plain_0 5 rfl) rfl rfl) ?_
  refine q_gt (fun h => g_getR (v := vR 64 0) (iRow iCX12_plain_0 6 rfl) f12_13 ko_13 (by rw [h]; rfl)) ?_
  refine q_step (g_bipush (iRow iCX12_plain_0 7 rfl) kb_6) ?_
  refine q_step (g_iload_n (iRow iCX12_plain_0 8 rfl) rfl rfl) ?_
  refine q_step (g_imul (iRow iCX12_plain_0 9 rfl)) ?_
  refine q_val (v := (0 : Int32)) (by decide) ?_
  refine q_step (g_iload_n (iRow iCX12_plain_0 10 rfl) rfl rfl) ?_
  refine q_step (g_iadd (iRow iCX12_plain_0 11 rfl)) ?_
  refine q_val (v := (5 : Int32)) (by decide) ?_
  refine q_step (g_iconst (iRow iCX12_plain_0 12 rfl) kc_0) ?_
  refine q_step (g_iast (iRow iCX12_plain_0 13 rfl) kn_64 ka_64 (vp_of (by decide))) ?_
  refine q_nmM (fun M6 => ?_)
  refine q_step (g_iinc (v := (6 : Int32)) (ls' := [some (vR 13 0), some (vI (0 : Int32)), some (vI (6 : Int32))]) (iRow iCX12_plain_0 14 rfl) rfl (by decide) (by decide) rfl) ?_
  refine q_step (g_goto (tgt := 2) (iRow iCX12_plain_0 15 rfl) (by decide)) ?_
  refine q_step (g_iload_n (iRow iCX12_plain_0 2 rfl) rfl rfl) ?_
  refine q_step (g_bipush (iRow iCX12_plain_0 3 rfl) kb_6) ?_
  refine q_step (fun k => g_icmp_ge (tgt := 26) (iRow iCX12_plain_0 4 rfl) (by decide) (fun _ => k) (fun h => absurd h (by decide))) ?_
  refine q_step (g_aload_n (iRow iCX12_plain_0 16 rfl) rfl rfl) ?_
  refine q_gt (fun h => g_getR (v := vR 64 0) (iRow iCX12_plain_0 17 rfl) f12_13 ko_13 (by rw [h]; rfl)) ?_
  refine q_step (g_bipush (iRow iCX12_plain_0 18 rfl) kb_6) ?_
  refine q_step (g_iload_n (iRow iCX12_plain_0 19 rfl) rfl rfl) ?_
  refine q_step (g_imul (iRow iCX12_plain_0 20 rfl)) ?_
  refine q_val (v := (0 : Int32)) (by decide) ?_
  refine q_step (g_iconst (iRow iCX12_plain_0 21 rfl) kc_3) ?_
  refine q_step (g_iadd (iRow iCX12_plain_0 22 rfl)) ?_
  refine q_val (v := (3 : Int32)) (by decide) ?_
  refine q_step (g_iconst (iRow iCX12_plain_0 23 rfl) kc_5) ?_
  refine q_step (g_iast (iRow iCX12_plain_1 0 rfl) kn_64 ka_64 (vp_of (by decide))) ?_
  refine q_nmM (fun M7 => ?_)
  refine q_step (g_aload_n (iRow iCX12_plain_1 1 rfl) rfl rfl) ?_
  refine q_gt (fun h => g_getR (v := vR 79 0) (iRow iCX12_plain_1 2 rfl) f12_59 ko_13 (by rw [h]; rfl)) ?_
  refine q_step (g_iload_n (iRow iCX12_plain_1 3 rfl) rfl rfl) ?_
  refine q_step (g_sipush (iRow iCX12_plain_1 4 rfl) ks_1000) ?_
  refine q_step (g_iload_n (iRow iCX12_plain_1 5 rfl) rfl rfl) ?_
  refine q_step (g_imul (iRow iCX12_plain_1 6 rfl)) ?_
  refine q_val (v := (0 : Int32)) (by decide) ?_
  refine q_step (g_iast (iRow iCX12_plain_1 7 rfl) kn_79 ka_79 (vp_of (by decide))) ?_
  refine q_nmM (fun M8 => ?_)
  refine q_step (g_aload_n (iRow iCX12_plain_1 8 rfl) rfl rfl) ?_
  refine q_gt (fun h => g_getR (v := vR 80 0) (iRow iCX12_plain_1 9 rfl) f12_62 ko_13 (by rw [h]; rfl)) ?_
  refine q_step (g_iload_n (iRow iCX12_plain_1 10 rfl) rfl rfl) ?_
  refine q_step (g_sipush (iRow iCX12_plain_1 11 rfl) ks_1000) ?_
  refine q_step (g_iload_n (iRow iCX12_plain_1 12 rfl) rfl rfl) ?_
  refine q_step (g_imul (iRow iCX12_plain_1 13 rfl)) ?_
  refine q_val (v := (0 : Int32)) (by decide) ?_
  refine q_step (g_iast (iRow iCX12_plain_1 14 rfl) kn_80 ka_80 (vp_of (by decide))) ?_
  refine q_nmM (fun M9 => ?_)
  exact q_retv (iRow iCX12_plain_1 15 rfl) rfl
set_option maxHeartbeats 40000000 in
set_option maxRecDepth 20000 in
theorem j_X12_init_t120 {G : mg} {M M' : mm} (d : Nat) (h : i_X12_init_t120 M = some M') : CT G rdC yX12_init cX12_init 1 none (some 120) (d + 1) 47 5113 120 167 [vR 13 0] M none M' := by
  refine cc_v (ls := [some (vR 13 0)]) rfl rfl (Nat.le_of_ble_eq_true rfl) (fun Z => ?_) h
  show SG G rdC (mRm (d + 1) 47 5113) (RX12, "<init>", cX12_init, 1, none, some 120) Z 120 0 0 0 [some (vR 13 0)] [] M _ _
  unfold i_X12_init_t120
  refine q_step (g_aload_n (iRow iCX12_init_0 0 rfl) rfl rfl) ?_
  refine q_step (g_objI (iRow iCX12_init_0 1 rfl) o12_1 ⟨by show 1 ≤ d + 1; omega, by show 20 ≤ 40 * (d + 1); omega⟩ (Nat.le_of_ble_eq_true rfl)) ?_
  refine q_step (g_aload_n (iRow iCX12_init_0 2 rfl) rfl rfl) ?_
  refine q_step (g_sipush (iRow iCX12_init_0 3 rfl) ks_1000) ?_
  refine q_step (topA := 121) (cellsA := 1) (slotsA := 1000) (fun hh => g_newi (t0 := 120) (n := 0) (iRow iCX12_init_0 4 rfl) ac_int kn_63 ka_63 (by decide) kl_1000 rfl rfl rfl ⟨(by show _ ≤ 47; decide), (by show _ ≤ 5113; decide)⟩ hh) ?_
  refine q_nmM (fun M1 => ?_)
  refine q_step (g_putR (r := 1) (iRow iCX12_init_0 5 rfl) f12_7 (Or.inr ⟨rfl, rfl⟩) ko_13 rfl) ?_
  refine q_nmM (fun M2 => ?_)
  refine q_step (g_aload_n (iRow iCX12_init_0 6 rfl) rfl rfl) ?_
  refine q_step (g_bipush (iRow iCX12_init_0 7 rfl) kb_12) ?_
  refine q_step (topA := 122) (cellsA := 2) (slotsA := 1012) (fun hh => g_newi (t0 := 120) (n := 0) (iRow iCX12_init_0 8 rfl) ac_int kn_64 ka_64 (by decide) kl_12 rfl rfl rfl ⟨(by show _ ≤ 47; decide), (by show _ ≤ 5113; decide)⟩ hh) ?_
  refine q_nmM (fun M3 => ?_)
  refine q_step (g_putR (r := 1) (iRow iCX12_init_0 9 rfl) f12_13 (Or.inr ⟨rfl, rfl⟩) ko_13 rfl) ?_
  refine q_nmM (fun M4 => ?_)
  refine q_step (g_aload_n (iRow iCX12_init_0 10 rfl) rfl rfl) ?_
  refine q_step (g_bipush (iRow iCX12_init_0 11 rfl) kb_12) ?_
  refine q_step (topA := 123) (cellsA := 3) (slotsA := 1024) (fun hh => g_newl (t0 := 120) (n := 0) (iRow iCX12_init_0 12 rfl) ac_long kn_65 ka_65 (by decide) kl_12 rfl rfl rfl ⟨(by show _ ≤ 47; decide), (by show _ ≤ 5113; decide)⟩ hh) ?_
  refine q_nmM (fun M5 => ?_)
  refine q_step (g_putR (r := 1) (iRow iCX12_init_0 13 rfl) f12_16 (Or.inr ⟨rfl, rfl⟩) ko_13 rfl) ?_
  refine q_nmM (fun M6 => ?_)
  refine q_step (g_aload_n (iRow iCX12_init_0 14 rfl) rfl rfl) ?_
  refine q_step (g_bipush (iRow iCX12_init_0 15 rfl) kb_20) ?_
  refine q_step (topA := 124) (cellsA := 4) (slotsA := 1044) (fun hh => g_newl (t0 := 120) (n := 0) (iRow iCX12_init_0 16 rfl) ac_long kn_66 ka_66 (by decide) kl_20 rfl rfl rfl ⟨(by show _ ≤ 47; decide), (by show _ ≤ 5113; decide)⟩ hh) ?_
  refine q_nmM (fun M7 => ?_)
  refine q_step (g_putR (r := 1) (iRow iCX12_init_0 17 rfl) f12_20 (Or.inr ⟨rfl, rfl⟩) ko_13 rfl) ?_
  refine q_nmM (fun M8 => ?_)
  refine q_step (g_aload_n (iRow iCX12_init_0 18 rfl) rfl rfl) ?_
  refine q_step (g_bipush (iRow iCX12_init_0 19 rfl) kb_20) ?_
  refine q_step (topA := 125) (cellsA := 5) (slotsA := 1064) (fun hh => g_newl (t0 := 120) (n := 0) (iRow iCX12_init_0 20 rfl) ac_long kn_67 ka_67 (by decide) kl_20 rfl rfl rfl ⟨(by show _ ≤ 47; decide), (by show _ ≤ 5113; decide)⟩ hh) ?_
  refine q_nmM (fun M9 => ?_)
  refine q_step (g_putR (r := 1) (iRow iCX12_init_0 21 rfl) f12_23 (Or.inr ⟨rfl, rfl⟩) ko_13 rfl) ?_
  refine q_nmM (fun M10 => ?_)
  refine q_step (g_aload_n (iRow iCX12_init_0 22 rfl) rfl rfl) ?_
  refine q_step (g_bipush (iRow iCX12_init_0 23 rfl) kb_12) ?_
  refine q_step (topA := 126) (cellsA := 6) (slotsA := 1076) (fun hh => g_newi (t0 := 120) (n := 0) (iRow iCX12_init_1 0 rfl) ac_int kn_68 ka_68 (by decide) kl_12 rfl rfl rfl ⟨(by show _ ≤ 47; decide), (by show _ ≤ 5113; decide)⟩ hh) ?_
  refine q_nmM (fun M11 => ?_)
  refine q_step (g_putR (r := 1) (iRow iCX12_init_1 1 rfl) f12_26 (Or.inr ⟨rfl, rfl⟩) ko_13 rfl) ?_
  refine q_nmM (fun M12 => ?_)
  refine q_step (g_aload_n (iRow iCX12_init_1 2 rfl) rfl rfl) ?_
  refine q_step (g_bipush (iRow iCX12_init_1 3 rfl) kb_12) ?_
  refine q_step (topA := 127) (cellsA := 7) (slotsA := 1088) (fun hh => g_newi (t0 := 120) (n := 0) (iRow iCX12_init_1 4 rfl) ac_int kn_69 ka_69 (by decide) kl_12 rfl rfl rfl ⟨(by show _ ≤ 47; decide), (by show _ ≤ 5113; decide)⟩ hh) ?_
  refine q_nmM (fun M13 => ?_)
  refine q_step (g_putR (r := 1) (iRow iCX12_init_1 5 rfl) f12_29 (Or.inr ⟨rfl, rfl⟩) ko_13 rfl) ?_
  refine q_nmM (fun M14 => ?_)
  refine q_step (g_aload_n (iRow iCX12_init_1 6 rfl) rfl rfl) ?_
  refine q_step (g_bipush (iRow iCX12_init_1 7 rfl) kb_20) ?_
  refine q_step (topA := 128) (cellsA := 8) (slotsA := 1108) (fun hh => g_newi (t0 := 120) (n := 0) (iRow iCX12_init_1 8 rfl) ac_int kn_70 ka_70 (by decide) kl_20 rfl rfl rfl ⟨(by show _ ≤ 47; decide), (by show _ ≤ 5113; decide)⟩ hh) ?_
  refine q_nmM (fun M15 => ?_)
  refine q_step (g_putR (r := 1) (iRow iCX12_init_1 9 rfl) f12_32 (Or.inr ⟨rfl, rfl⟩) ko_13 rfl) ?_
  refine q_nmM (fun M16 => ?_)
  refine q_step (g_aload_n (iRow iCX12_init_1 10 rfl) rfl rfl) ?_
  refine q_step (g_bipush (iRow iCX12_init_1 11 rfl) kb_20) ?_
  refine q_step (topA := 129) (cellsA := 9) (slotsA := 1128) (fun hh => g_newi (t0 := 120) (n := 0) (iRow iCX12_init_1 12 rfl) ac_int kn_71 ka_71 (by decide) kl_20 rfl rfl rfl ⟨(by show _ ≤ 47; decide), (by show _ ≤ 5113; decide)⟩ hh) ?_
  refine q_nmM (fun M17 => ?_)
  refine q_step (g_putR (r := 1) (iRow iCX12_init_1 13 rfl) f12_35 (Or.inr ⟨rfl, rfl⟩) ko_13 rfl) ?_
  refine q_nmM (fun M18 => ?_)
  refine q_step (g_aload_n (iRow iCX12_init_1 14 rfl) rfl rfl) ?_
  refine q_step (g_bipush (iRow iCX12_init_1 15 rfl) kb_20) ?_
  refine q_step (topA := 130) (cellsA := 10) (slotsA := 1148) (fun hh => g_newi (t0 := 120) (n := 0) (iRow iCX12_init_1 16 rfl) ac_int kn_72 ka_72 (by decide) kl_20 rfl rfl rfl ⟨(by show _ ≤ 47; decide), (by show _ ≤ 5113; decide)⟩ hh) ?_
  refine q_nmM (fun M19 => ?_)
  refine q_step (g_putR (r := 1) (iRow iCX12_init_1 17 rfl) f12_38 (Or.inr ⟨rfl, rfl⟩) ko_13 rfl) ?_
  refine q_nmM (fun M20 => ?_)
  refine q_step (g_aload_n (iRow iCX12_init_1 18 rfl) rfl rfl) ?_
  refine q_step (g_bipush (iRow iCX12_init_1 19 rfl) kb_20) ?_
  refine q_step (topA := 131) (cellsA := 11) (slotsA := 1168) (fun hh => g_newi (t0 := 120) (n := 0) (iRow iCX12_init_1 20 rfl) ac_int kn_73 ka_73 (by decide) kl_20 rfl rfl rfl ⟨(by show _ ≤ 47; decide), (by show _ ≤ 5113; decide)⟩ hh) ?_
  refine q_nmM (fun M21 => ?_)
  refine q_step (g_putR (r := 1) (iRow iCX12_init_1 21 rfl) f12_41 (Or.inr ⟨rfl, rfl⟩) ko_13 rfl) ?_
  refine q_nmM (fun M22 => ?_)
  refine q_step (g_aload_n (iRow iCX12_init_1 22 rfl) rfl rfl) ?_
  refine q_step (g_bipush (iRow iCX12_init_1 23 rfl) kb_20) ?_
  refine q_step (topA := 132) (cellsA := 12) (slotsA := 1188) (fun hh => g_newi (t0 := 120) (n := 0) (iRow iCX12_init_2 0 rfl) ac_int kn_74 ka_74 (by decide) kl_20 rfl rfl rfl ⟨(by show _ ≤ 47; decide), (by show _ ≤ 5113; decide)⟩ hh) ?_
  refine q_nmM (fun M23 => ?_)
  refine q_step (g_putR (r := 1) (iRow iCX12_init_2 1 rfl) f12_44 (Or.inr ⟨rfl, rfl⟩) ko_13 rfl) ?_
  refine q_nmM (fun M24 => ?_)
  refine q_step (g_aload_n (iRow iCX12_init_2 2 rfl) rfl rfl) ?_
  refine q_step (g_bipush (iRow iCX12_init_2 3 rfl) kb_22) ?_
  refine q_step (topA := 133) (cellsA := 13) (slotsA := 1210) (fun hh => g_newi (t0 := 120) (n := 0) (iRow iCX12_init_2 4 rfl) ac_int kn_75 ka_75 (by decide) kl_22 rfl rfl rfl ⟨(by show _ ≤ 47; decide), (by show _ ≤ 5113; decide)⟩ hh) ?_
  refine q_nmM (fun M25 => ?_)
  refine q_step (g_putR (r := 1) (iRow iCX12_init_2 5 rfl) f12_47 (Or.inr ⟨rfl, rfl⟩) ko_13 rfl) ?_
  refine q_nmM (fun M26 => ?_)
  refine q_step (g_aload_n (iRow iCX12_init_2 6 rfl) rfl rfl) ?_
  refine q_step (g_bipush (iRow iCX12_init_2 7 rfl) kb_20) ?_
  refine q_step (topA := 134) (cellsA := 14) (slotsA := 1230) (fun hh => g_newi (t0 := 120) (n := 0) (iRow iCX12_init_2 8 rfl) ac_int kn_76 ka_76 (by decide) kl_20 rfl rfl rfl ⟨(by show _ ≤ 47; decide), (by show _ ≤ 5113; decide)⟩ hh) ?_
  refine q_nmM (fun M27 => ?_)
  refine q_step (g_putR (r := 1) (iRow iCX12_init_2 9 rfl) f12_50 (Or.inr ⟨rfl, rfl⟩) ko_13 rfl) ?_
  refine q_nmM (fun M28 => ?_)
  refine q_step (g_aload_n (iRow iCX12_init_2 10 rfl) rfl rfl) ?_
  refine q_step (g_bipush (iRow iCX12_init_2 11 rfl) kb_22) ?_
  refine q_step (topA := 135) (cellsA := 15) (slotsA := 1252) (fun hh => g_newi (t0 := 120) (n := 0) (iRow iCX12_init_2 12 rfl) ac_int kn_77 ka_77 (by decide) kl_22 rfl rfl rfl ⟨(by show _ ≤ 47; decide), (by show _ ≤ 5113; decide)⟩ hh) ?_
  refine q_nmM (fun M29 => ?_)
  refine q_step (g_putR (r := 1) (iRow iCX12_init_2 13 rfl) f12_53 (Or.inr ⟨rfl, rfl⟩) ko_13 rfl) ?_
  refine q_nmM (fun M30 => ?_)
  refine q_step (g_aload_n (iRow iCX12_init_2 14 rfl) rfl rfl) ?_
  refine q_step (g_bipush (iRow iCX12_init_2 15 rfl) kb_22) ?_
  refine q_step (topA := 136) (cellsA := 16) (slotsA := 1274) (fun hh => g_newi (t0 := 120) (n := 0) (iRow iCX12_init_2 16 rfl) ac_int kn_78 ka_78 (by decide) kl_22 rfl rfl rfl ⟨(by show _ ≤ 47; decide), (by show _ ≤ 5113; decide)⟩ hh) ?_
  refine q_nmM (fun M31 => ?_)
  refine q_step (g_putR (r := 1) (iRow iCX12_init_2 17 rfl) f12_56 (Or.inr ⟨rfl, rfl⟩) ko_13 rfl) ?_
  refine q_nmM (fun M32 => ?_)
  refine q_step (g_aload_n (iRow iCX12_init_2 18 rfl) rfl rfl) ?_
  refine q_step (g_iconst (iRow iCX12_init_2 19 rfl) kc_2) ?_
  refine q_step (topA := 137) (cellsA := 17) (slotsA := 1276) (fun hh => g_newi (t0 := 120) (n := 0) (iRow iCX12_init_2 20 rfl) ac_int kn_79 ka_79 (by decide) kl_2 rfl rfl rfl ⟨(by show _ ≤ 47; decide), (by show _ ≤ 5113; decide)⟩ hh) ?_
  refine q_nmM (fun M33 => ?_)
  refine q_step (g_putR (r := 1) (iRow iCX12_init_2 21 rfl) f12_59 (Or.inr ⟨rfl, rfl⟩) ko_13 rfl) ?_
  refine q_nmM (fun M34 => ?_)
  refine q_step (g_aload_n (iRow iCX12_init_2 22 rfl) rfl rfl) ?_
  refine q_step (g_iconst (iRow iCX12_init_2 23 rfl) kc_2) ?_
  refine q_step (topA := 138) (cellsA := 18) (slotsA := 1278) (fun hh => g_newi (t0 := 120) (n := 0) (iRow iCX12_init_3 0 rfl) ac_int kn_80 ka_80 (by decide) kl_2 rfl rfl rfl ⟨(by show _ ≤ 47; decide), (by show _ ≤ 5113; decide)⟩ hh) ?_
  refine q_nmM (fun M35 => ?_)
  refine q_step (g_putR (r := 1) (iRow iCX12_init_3 1 rfl) f12_62 (Or.inr ⟨rfl, rfl⟩) ko_13 rfl) ?_
  refine q_nmM (fun M36 => ?_)
  refine q_step (g_aload_n (iRow iCX12_init_3 2 rfl) rfl rfl) ?_
  refine q_step (g_sipush (iRow iCX12_init_3 3 rfl) ks_2000) ?_
  refine q_step (topA := 139) (cellsA := 19) (slotsA := 3278) (fun hh => g_newi (t0 := 120) (n := 0) (iRow iCX12_init_3 4 rfl) ac_int kn_81 ka_81 (by decide) kl_2000 rfl rfl rfl ⟨(by show _ ≤ 47; decide), (by show _ ≤ 5113; decide)⟩ hh) ?_
  refine q_nmM (fun M37 => ?_)
  refine q_step (g_putR (r := 1) (iRow iCX12_init_3 5 rfl) f12_65 (Or.inr ⟨rfl, rfl⟩) ko_13 rfl) ?_
  refine q_nmM (fun M38 => ?_)
  refine q_step (g_aload_n (iRow iCX12_init_3 6 rfl) rfl rfl) ?_
  refine q_step (g_bipush (iRow iCX12_init_3 7 rfl) kb_7) ?_
  refine q_step (topA := 140) (cellsA := 20) (slotsA := 3285) (fun hh => g_newi (t0 := 120) (n := 0) (iRow iCX12_init_3 8 rfl) ac_int kn_82 ka_82 (by decide) kl_7 rfl rfl rfl ⟨(by show _ ≤ 47; decide), (by show _ ≤ 5113; decide)⟩ hh) ?_
  refine q_nmM (fun M39 => ?_)
  refine q_step (g_putR (r := 1) (iRow iCX12_init_3 9 rfl) f12_68 (Or.inr ⟨rfl, rfl⟩) ko_13 rfl) ?_
  refine q_nmM (fun M40 => ?_)
  refine q_step (g_aload_n (iRow iCX12_init_3 10 rfl) rfl rfl) ?_
  refine q_step (g_bipush (iRow iCX12_init_3 11 rfl) kb_7) ?_
  refine q_step (topA := 141) (cellsA := 21) (slotsA := 3292) (fun hh => g_newz (t0 := 120) (n := 0) (iRow iCX12_init_3 12 rfl) ac_boolean kn_83 ka_83 (by decide) kl_7 rfl rfl rfl ⟨(by show _ ≤ 47; decide), (by show _ ≤ 5113; decide)⟩ hh) ?_
  refine q_nmM (fun M41 => ?_)
  refine q_step (g_putR (r := 1) (iRow iCX12_init_3 13 rfl) f12_71 (Or.inr ⟨rfl, rfl⟩) ko_13 rfl) ?_
  refine q_nmM (fun M42 => ?_)
  refine q_step (g_aload_n (iRow iCX12_init_3 14 rfl) rfl rfl) ?_
  refine q_step (g_bipush (iRow iCX12_init_3 15 rfl) kb_7) ?_
  refine q_step (topA := 142) (cellsA := 22) (slotsA := 3299) (fun hh => g_newi (t0 := 120) (n := 0) (iRow iCX12_init_3 16 rfl) ac_int kn_84 ka_84 (by decide) kl_7 rfl rfl rfl ⟨(by show _ ≤ 47; decide), (by show _ ≤ 5113; decide)⟩ hh) ?_
  refine q_nmM (fun M43 => ?_)
  refine q_step (g_putR (r := 1) (iRow iCX12_init_3 17 rfl) f12_75 (Or.inr ⟨rfl, rfl⟩) ko_13 rfl) ?_
  refine q_nmM (fun M44 => ?_)
  refine q_step (g_aload_n (iRow iCX12_init_3 18 rfl) rfl rfl) ?_
  refine q_step (g_bipush (iRow iCX12_init_3 19 rfl) kb_7) ?_
  refine q_step (topA := 143) (cellsA := 23) (slotsA := 3306) (fun hh => g_newi (t0 := 120) (n := 0) (iRow iCX12_init_3 20 rfl) ac_int kn_85 ka_85 (by decide) kl_7 rfl rfl rfl ⟨(by show _ ≤ 47; decide), (by show _ ≤ 5113; decide)⟩ hh) ?_
  refine q_nmM (fun M45 => ?_)
  refine q_step (g_putR (r := 1) (iRow iCX12_init_3 21 rfl) f12_78 (Or.inr ⟨rfl, rfl⟩) ko_13 rfl) ?_
  refine q_nmM (fun M46 => ?_)
  refine q_step (g_aload_n (iRow iCX12_init_3 22 rfl) rfl rfl) ?_
  refine q_step (g_bipush (iRow iCX12_init_3 23 rfl) kb_7) ?_
  refine q_step (topA := 144) (cellsA := 24) (slotsA := 3313) (fun hh => g_newi (t0 := 120) (n := 0) (iRow iCX12_init_4 0 rfl) ac_int kn_86 ka_86 (by decide) kl_7 rfl rfl rfl ⟨(by show _ ≤ 47; decide), (by show _ ≤ 5113; decide)⟩ hh) ?_
  refine q_nmM (fun M47 => ?_)
  refine q_step (g_putR (r := 1) (iRow iCX12_init_4 1 rfl) f12_81 (Or.inr ⟨rfl, rfl⟩) ko_13 rfl) ?_
  refine q_nmM (fun M48 => ?_)
  refine q_step (g_aload_n (iRow iCX12_init_4 2 rfl) rfl rfl) ?_
  refine q_step (g_bipush (iRow iCX12_init_4 3 rfl) kb_7) ?_
  refine q_step (topA := 145) (cellsA := 25) (slotsA := 3320) (fun hh => g_newi (t0 := 120) (n := 0) (iRow iCX12_init_4 4 rfl) ac_int kn_87 ka_87 (by decide) kl_7 rfl rfl rfl ⟨(by show _ ≤ 47; decide), (by show _ ≤ 5113; decide)⟩ hh) ?_
  refine q_nmM (fun M49 => ?_)
  refine q_step (g_putR (r := 1) (iRow iCX12_init_4 5 rfl) f12_84 (Or.inr ⟨rfl, rfl⟩) ko_13 rfl) ?_
  refine q_nmM (fun M50 => ?_)
  refine q_step (g_aload_n (iRow iCX12_init_4 6 rfl) rfl rfl) ?_
  refine q_step (g_bipush (iRow iCX12_init_4 7 rfl) kb_7) ?_
  refine q_step (topA := 146) (cellsA := 26) (slotsA := 3327) (fun hh => g_newi (t0 := 120) (n := 0) (iRow iCX12_init_4 8 rfl) ac_int kn_88 ka_88 (by decide) kl_7 rfl rfl rfl ⟨(by show _ ≤ 47; decide), (by show _ ≤ 5113; decide)⟩ hh) ?_
  refine q_nmM (fun M51 => ?_)
  refine q_step (g_putR (r := 1) (iRow iCX12_init_4 9 rfl) f12_87 (Or.inr ⟨rfl, rfl⟩) ko_13 rfl) ?_
  refine q_nmM (fun M52 => ?_)
  refine q_step (g_aload_n (iRow iCX12_init_4 10 rfl) rfl rfl) ?_
  refine q_step (g_bipush (iRow iCX12_init_4 11 rfl) kb_7) ?_
  refine q_step (topA := 147) (cellsA := 27) (slotsA := 3334) (fun hh => g_newi (t0 := 120) (n := 0) (iRow iCX12_init_4 12 rfl) ac_int kn_89 ka_89 (by decide) kl_7 rfl rfl rfl ⟨(by show _ ≤ 47; decide), (by show _ ≤ 5113; decide)⟩ hh) ?_
  refine q_nmM (fun M53 => ?_)
  refine q_step (g_putR (r := 1) (iRow iCX12_init_4 13 rfl) f12_90 (Or.inr ⟨rfl, rfl⟩) ko_13 rfl) ?_
  refine q_nmM (fun M54 => ?_)
  refine q_step (g_aload_n (iRow iCX12_init_4 14 rfl) rfl rfl) ?_
  refine q_step (g_bipush (iRow iCX12_init_4 15 rfl) kb_7) ?_
  refine q_step (topA := 148) (cellsA := 28) (slotsA := 3341) (fun hh => g_newi (t0 := 120) (n := 0) (iRow iCX12_init_4 16 rfl) ac_int kn_90 ka_90 (by decide) kl_7 rfl rfl rfl ⟨(by show _ ≤ 47; decide), (by show _ ≤ 5113; decide)⟩ hh) ?_
  refine q_nmM (fun M55 => ?_)
  refine q_step (g_putR (r := 1) (iRow iCX12_init_4 17 rfl) f12_93 (Or.inr ⟨rfl, rfl⟩) ko_13 rfl) ?_
  refine q_nmM (fun M56 => ?_)
  refine q_step (g_aload_n (iRow iCX12_init_4 18 rfl) rfl rfl) ?_
  refine q_step (g_bipush (iRow iCX12_init_4 19 rfl) kb_7) ?_
  refine q_step (topA := 149) (cellsA := 29) (slotsA := 3348) (fun hh => g_newi (t0 := 120) (n := 0) (iRow iCX12_init_4 20 rfl) ac_int kn_91 ka_91 (by decide) kl_7 rfl rfl rfl ⟨(by show _ ≤ 47; decide), (by show _ ≤ 5113; decide)⟩ hh) ?_
  refine q_nmM (fun M57 => ?_)
  refine q_step (g_putR (r := 1) (iRow iCX12_init_4 21 rfl) f12_96 (Or.inr ⟨rfl, rfl⟩) ko_13 rfl) ?_
  refine q_nmM (fun M58 => ?_)
  refine q_step (g_aload_n (iRow iCX12_init_4 22 rfl) rfl rfl) ?_
  refine q_step (g_bipush (iRow iCX12_init_4 23 rfl) kb_7) ?_
  refine q_step (topA := 150) (cellsA := 30) (slotsA := 3355) (fun hh => g_newi (t0 := 120) (n := 0) (iRow iCX12_init_5 0 rfl) ac_int kn_92 ka_92 (by decide) kl_7 rfl rfl rfl ⟨(by show _ ≤ 47; decide), (by show _ ≤ 5113; decide)⟩ hh) ?_
  refine q_nmM (fun M59 => ?_)
  refine q_step (g_putR (r := 1) (iRow iCX12_init_5 1 rfl) f12_99 (Or.inr ⟨rfl, rfl⟩) ko_13 rfl) ?_
  refine q_nmM (fun M60 => ?_)
  refine q_step (g_aload_n (iRow iCX12_init_5 2 rfl) rfl rfl) ?_
  refine q_step (g_bipush (iRow iCX12_init_5 3 rfl) kb_20) ?_
  refine q_step (topA := 151) (cellsA := 31) (slotsA := 3375) (fun hh => g_newi (t0 := 120) (n := 0) (iRow iCX12_init_5 4 rfl) ac_int kn_93 ka_93 (by decide) kl_20 rfl rfl rfl ⟨(by show _ ≤ 47; decide), (by show _ ≤ 5113; decide)⟩ hh) ?_
  refine q_nmM (fun M61 => ?_)
  refine q_step (g_putR (r := 1) (iRow iCX12_init_5 5 rfl) f12_102 (Or.inr ⟨rfl, rfl⟩) ko_13 rfl) ?_
  refine q_nmM (fun M62 => ?_)
  refine q_step (g_aload_n (iRow iCX12_init_5 6 rfl) rfl rfl) ?_
  refine q_step (g_bipush (iRow iCX12_init_5 7 rfl) kb_6) ?_
  refine q_step (topA := 152) (cellsA := 32) (slotsA := 3381) (fun hh => g_newi (t0 := 120) (n := 0) (iRow iCX12_init_5 8 rfl) ac_int kn_94 ka_94 (by decide) kl_6 rfl rfl rfl ⟨(by show _ ≤ 47; decide), (by show _ ≤ 5113; decide)⟩ hh) ?_
  refine q_nmM (fun M63 => ?_)
  refine q_step (g_putR (r := 1) (iRow iCX12_init_5 9 rfl) f12_105 (Or.inr ⟨rfl, rfl⟩) ko_13 rfl) ?_
  refine q_nmM (fun M64 => ?_)
  refine q_step (g_aload_n (iRow iCX12_init_5 10 rfl) rfl rfl) ?_
  refine q_step (g_sipush (iRow iCX12_init_5 11 rfl) ks_240) ?_
  refine q_step (topA := 153) (cellsA := 33) (slotsA := 3621) (fun hh => g_newi (t0 := 120) (n := 0) (iRow iCX12_init_5 12 rfl) ac_int kn_95 ka_95 (by decide) kl_240 rfl rfl rfl ⟨(by show _ ≤ 47; decide), (by show _ ≤ 5113; decide)⟩ hh) ?_
  refine q_nmM (fun M65 => ?_)
  refine q_step (g_putR (r := 1) (iRow iCX12_init_5 13 rfl) f12_108 (Or.inr ⟨rfl, rfl⟩) ko_13 rfl) ?_
  refine q_nmM (fun M66 => ?_)
  refine q_step (g_aload_n (iRow iCX12_init_5 14 rfl) rfl rfl) ?_
  refine q_step (g_sipush (iRow iCX12_init_5 15 rfl) ks_240) ?_
  refine q_step (topA := 154) (cellsA := 34) (slotsA := 3861) (fun hh => g_newi (t0 := 120) (n := 0) (iRow iCX12_init_5 16 rfl) ac_int kn_96 ka_96 (by decide) kl_240 rfl rfl rfl ⟨(by show _ ≤ 47; decide), (by show _ ≤ 5113; decide)⟩ hh) ?_
  refine q_nmM (fun M67 => ?_)
  refine q_step (g_putR (r := 1) (iRow iCX12_init_5 17 rfl) f12_111 (Or.inr ⟨rfl, rfl⟩) ko_13 rfl) ?_
  refine q_nmM (fun M68 => ?_)
  refine q_step (g_aload_n (iRow iCX12_init_5 18 rfl) rfl rfl) ?_
  refine q_step (g_iconst (iRow iCX12_init_5 19 rfl) kc_5) ?_
  refine q_step (topA := 155) (cellsA := 35) (slotsA := 3866) (fun hh => g_newi (t0 := 120) (n := 0) (iRow iCX12_init_5 20 rfl) ac_int kn_97 ka_97 (by decide) kl_5 rfl rfl rfl ⟨(by show _ ≤ 47; decide), (by show _ ≤ 5113; decide)⟩ hh) ?_
  refine q_nmM (fun M69 => ?_)
  refine q_step (g_putR (r := 1) (iRow iCX12_init_5 21 rfl) f12_114 (Or.inr ⟨rfl, rfl⟩) ko_13 rfl) ?_
  refine q_nmM (fun M70 => ?_)
  refine q_step (g_aload_n (iRow iCX12_init_5 22 rfl) rfl rfl) ?_
  refine q_step (g_bipush (iRow iCX12_init_5 23 rfl) kb_50) ?_
  refine q_step (topA := 156) (cellsA := 36) (slotsA := 3916) (fun hh => g_newi (t0 := 120) (n := 0) (iRow iCX12_init_6 0 rfl) ac_int kn_98 ka_98 (by decide) kl_50 rfl rfl rfl ⟨(by show _ ≤ 47; decide), (by show _ ≤ 5113; decide)⟩ hh) ?_
  refine q_nmM (fun M71 => ?_)
  refine q_step (g_putR (r := 1) (iRow iCX12_init_6 1 rfl) f12_117 (Or.inr ⟨rfl, rfl⟩) ko_13 rfl) ?_
  refine q_nmM (fun M72 => ?_)
  refine q_step (g_aload_n (iRow iCX12_init_6 2 rfl) rfl rfl) ?_
  refine q_step (g_bipush (iRow iCX12_init_6 3 rfl) kb_50) ?_
  refine q_step (topA := 157) (cellsA := 37) (slotsA := 3966) (fun hh => g_newz (t0 := 120) (n := 0) (iRow iCX12_init_6 4 rfl) ac_boolean kn_99 ka_99 (by decide) kl_50 rfl rfl rfl ⟨(by show _ ≤ 47; decide), (by show _ ≤ 5113; decide)⟩ hh) ?_
  refine q_nmM (fun M73 => ?_)
  refine q_step (g_putR (r := 1) (iRow iCX12_init_6 5 rfl) f12_120 (Or.inr ⟨rfl, rfl⟩) ko_13 rfl) ?_
  refine q_nmM (fun M74 => ?_)
  refine q_step (g_aload_n (iRow iCX12_init_6 6 rfl) rfl rfl) ?_
  refine q_step (g_iconst (iRow iCX12_init_6 7 rfl) kc_4) ?_
  refine q_step (topA := 158) (cellsA := 38) (slotsA := 3970) (fun hh => g_newi (t0 := 120) (n := 0) (iRow iCX12_init_6 8 rfl) ac_int kn_100 ka_100 (by decide) kl_4 rfl rfl rfl ⟨(by show _ ≤ 47; decide), (by show _ ≤ 5113; decide)⟩ hh) ?_
  refine q_nmM (fun M75 => ?_)
  refine q_step (g_putR (r := 1) (iRow iCX12_init_6 9 rfl) f12_123 (Or.inr ⟨rfl, rfl⟩) ko_13 rfl) ?_
  refine q_nmM (fun M76 => ?_)
  refine q_step (g_aload_n (iRow iCX12_init_6 10 rfl) rfl rfl) ?_
  refine q_step (g_bipush (iRow iCX12_init_6 11 rfl) kb_8) ?_
  refine q_step (topA := 159) (cellsA := 39) (slotsA := 3978) (fun hh => g_newi (t0 := 120) (n := 0) (iRow iCX12_init_6 12 rfl) ac_int kn_101 ka_101 (by decide) kl_8 rfl rfl rfl ⟨(by show _ ≤ 47; decide), (by show _ ≤ 5113; decide)⟩ hh) ?_
  refine q_nmM (fun M77 => ?_)
  refine q_step (g_putR (r := 1) (iRow iCX12_init_6 13 rfl) f12_126 (Or.inr ⟨rfl, rfl⟩) ko_13 rfl) ?_
  refine q_nmM (fun M78 => ?_)
  refine q_step (g_aload_n (iRow iCX12_init_6 14 rfl) rfl rfl) ?_
  refine q_step (g_bipush (iRow iCX12_init_6 15 rfl) kb_16) ?_
  refine q_step (topA := 160) (cellsA := 40) (slotsA := 3994) (fun hh => g_newi (t0 := 120) (n := 0) (iRow iCX12_init_6 16 rfl) ac_int kn_102 ka_102 (by decide) kl_16 rfl rfl rfl ⟨(by show _ ≤ 47; decide), (by show _ ≤ 5113; decide)⟩ hh) ?_
  refine q_nmM (fun M79 => ?_)
  refine q_step (g_putR (r := 1) (iRow iCX12_init_6 17 rfl) f12_129 (Or.inr ⟨rfl, rfl⟩) ko_13 rfl) ?_
  refine q_nmM (fun M80 => ?_)
  refine q_step (g_aload_n (iRow iCX12_init_6 18 rfl) rfl rfl) ?_
  refine q_step (g_bipush (iRow iCX12_init_6 19 rfl) kb_64) ?_
  refine q_step (topA := 161) (cellsA := 41) (slotsA := 4058) (fun hh => g_newi (t0 := 120) (n := 0) (iRow iCX12_init_6 20 rfl) ac_int kn_103 ka_103 (by decide) kl_64 rfl rfl rfl ⟨(by show _ ≤ 47; decide), (by show _ ≤ 5113; decide)⟩ hh) ?_
  refine q_nmM (fun M81 => ?_)
  refine q_step (g_putR (r := 1) (iRow iCX12_init_6 21 rfl) f12_132 (Or.inr ⟨rfl, rfl⟩) ko_13 rfl) ?_
  refine q_nmM (fun M82 => ?_)
  refine q_step (g_aload_n (iRow iCX12_init_6 22 rfl) rfl rfl) ?_
  refine q_step (g_iconst (iRow iCX12_init_6 23 rfl) kc_4) ?_
  refine q_step (topA := 162) (cellsA := 42) (slotsA := 4062) (fun hh => g_newz (t0 := 120) (n := 0) (iRow iCX12_init_7 0 rfl) ac_boolean kn_104 ka_104 (by decide) kl_4 rfl rfl rfl ⟨(by show _ ≤ 47; decide), (by show _ ≤ 5113; decide)⟩ hh) ?_
  refine q_nmM (fun M83 => ?_)
  refine q_step (g_putR (r := 1) (iRow iCX12_init_7 1 rfl) f12_135 (Or.inr ⟨rfl, rfl⟩) ko_13 rfl) ?_
  refine q_nmM (fun M84 => ?_)
  refine q_step (g_aload_n (iRow iCX12_init_7 2 rfl) rfl rfl) ?_
  refine q_step (g_sipush (iRow iCX12_init_7 3 rfl) ks_1024) ?_
  refine q_step (topA := 163) (cellsA := 43) (slotsA := 5086) (fun hh => g_newi (t0 := 120) (n := 0) (iRow iCX12_init_7 4 rfl) ac_int kn_105 ka_105 (by decide) kl_1024 rfl rfl rfl ⟨(by show _ ≤ 47; decide), (by show _ ≤ 5113; decide)⟩ hh) ?_
  refine q_nmM (fun M85 => ?_)
  refine q_step (g_putR (r := 1) (iRow iCX12_init_7 5 rfl) f12_138 (Or.inr ⟨rfl, rfl⟩) ko_13 rfl) ?_
  refine q_nmM (fun M86 => ?_)
  refine q_step (g_aload_n (iRow iCX12_init_7 6 rfl) rfl rfl) ?_
  refine q_step (g_bipush (iRow iCX12_init_7 7 rfl) kb_11) ?_
  refine q_step (topA := 164) (cellsA := 44) (slotsA := 5097) (fun hh => g_newi (t0 := 120) (n := 0) (iRow iCX12_init_7 8 rfl) ac_int kn_106 ka_106 (by decide) kl_11 rfl rfl rfl ⟨(by show _ ≤ 47; decide), (by show _ ≤ 5113; decide)⟩ hh) ?_
  refine q_nmM (fun M87 => ?_)
  refine q_step (g_putR (r := 1) (iRow iCX12_init_7 9 rfl) f12_141 (Or.inr ⟨rfl, rfl⟩) ko_13 rfl) ?_
  refine q_nmM (fun M88 => ?_)
  refine q_step (g_aload_n (iRow iCX12_init_7 10 rfl) rfl rfl) ?_
  refine q_step (g_iconst (iRow iCX12_init_7 11 rfl) kc_3) ?_
  refine q_step (topA := 165) (cellsA := 45) (slotsA := 5100) (fun hh => g_newi (t0 := 120) (n := 0) (iRow iCX12_init_7 12 rfl) ac_int kn_107 ka_107 (by decide) kl_3 rfl rfl rfl ⟨(by show _ ≤ 47; decide), (by show _ ≤ 5113; decide)⟩ hh) ?_
  refine q_nmM (fun M89 => ?_)
  refine q_step (g_putR (r := 1) (iRow iCX12_init_7 13 rfl) f12_144 (Or.inr ⟨rfl, rfl⟩) ko_13 rfl) ?_
  refine q_nmM (fun M90 => ?_)
  refine q_step (g_aload_n (iRow iCX12_init_7 14 rfl) rfl rfl) ?_
  refine q_step (g_iconst (iRow iCX12_init_7 15 rfl) kc_3) ?_
  refine q_step (topA := 166) (cellsA := 46) (slotsA := 5103) (fun hh => g_newi (t0 := 120) (n := 0) (iRow iCX12_init_7 16 rfl) ac_int kn_108 ka_108 (by decide) kl_3 rfl rfl rfl ⟨(by show _ ≤ 47; decide), (by show _ ≤ 5113; decide)⟩ hh) ?_
  refine q_nmM (fun M91 => ?_)
  refine q_step (g_putR (r := 1) (iRow iCX12_init_7 17 rfl) f12_147 (Or.inr ⟨rfl, rfl⟩) ko_13 rfl) ?_
  refine q_nmM (fun M92 => ?_)
  refine q_step (g_aload_n (iRow iCX12_init_7 18 rfl) rfl rfl) ?_
  refine q_step (g_bipush (iRow iCX12_init_7 19 rfl) kb_10) ?_
  refine q_step (topA := 167) (cellsA := 47) (slotsA := 5113) (fun hh => g_newi (t0 := 120) (n := 0) (iRow iCX12_init_7 20 rfl) ac_int kn_109 ka_109 (by decide) kl_10 rfl rfl rfl ⟨(by show _ ≤ 47; decide), (by show _ ≤ 5113; decide)⟩ hh) ?_
  refine q_nmM (fun M93 => ?_)
  refine q_step (g_putR (r := 1) (iRow iCX12_init_7 21 rfl) f12_150 (Or.inr ⟨rfl, rfl⟩) ko_13 rfl) ?_
  refine q_nmM (fun M94 => ?_)
  refine q_step (g_aload_n (iRow iCX12_init_7 22 rfl) rfl rfl) ?_
  refine q_step (g_iconst (iRow iCX12_init_7 23 rfl) kc_0) ?_
  refine q_cv (topA := 167) (cellsA := 47) (slotsA := 5113) (stA := []) (fun _ h hh => g_callV (As := [_]) (r := none) (iRow iCX12_init_8 0 rfl) l12_153 iX12_plain ko_13 rfl rfl rfl rfl (j_X12_plain_t167 (d + 0) h) ⟨by show _ + 1 ≤ d + 1; omega, by show 8 + (3 + 11) + 40 * _ ≤ 40 * (d + 1); omega⟩ (Nat.le_of_ble_eq_true rfl) ⟨(by show _ ≤ 47; decide), (by show _ ≤ 5113; decide)⟩ mAl_none (by decide) hh) (fun M95 => ?_)
  exact q_retv (iRow iCX12_init_8 1 rfl) rfl
