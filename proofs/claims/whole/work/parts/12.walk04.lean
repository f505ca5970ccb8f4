abbrev YX1_pardon : mY := (RX1, "pardon", cX1_pardon, 4, (some .boolean), none)
set_option maxHeartbeats 400000 in
set_option maxRecDepth 20000 in
theorem t_X1_pardon {G : mg} {F : Nat} {a1 : Nat} {a2 : Nat} {a3 : Int32} {M : mm} {x : Bool} {M' : mm} (d : Nat) (h : m_X1_pardon F a1 a2 a3 M = some (x, M')) : CM G yX1_pardon cX1_pardon 4 (some .boolean) (d + 4) [vR 2 0, vR 1 a1, vR 5 a2, vI a3] M (some (vI (bI x))) M' := by
  refine ct_z (ls := [some (vR 2 0), some (vR 1 a1), some (vR 5 a2), some (vI a3)]) rfl rfl (Nat.le_of_ble_eq_true rfl) (fun Z => ?_) h
  show SW G (d + 4) YX1_pardon Z 0 [some (vR 2 0), some (vR 1 a1), some (vR 5 a2), some (vI a3)] [] M _ _
  unfold m_X1_pardon
  refine s_step (g_aload_n (iRow iCX1_pardon_0 0 rfl) rfl rfl) ?_
  refine s_step (g_iload_n (iRow iCX1_pardon_0 1 rfl) rfl rfl) ?_
  refine s_cb (sf := fun b => vI (bI b) :: []) (fun _ _ h => h_V (As := [_]) (iRow iCX1_pardon_0 2 rfl) l1_41 iX0_hasOath ko_1 rfl rfl rfl rfl (t_X0_hasOath (d + 3) h) rfl (by omega) (by decide) (Nat.le_of_ble_eq_true rfl)) (fun b2 M1 => ?_)
  refine s_ifeqb (g_if_eq (tgt := 19) (iRow iCX1_pardon_0 3 rfl) (by decide)) (fun _ => ?_) (fun _ => ?_)
  · refine s_step (g_aload_n (iRow iCX1_pardon_0 4 rfl) rfl rfl) ?_
    refine s_step (g_getI (iRow iCX1_pardon_0 5 rfl) f1_21 ko_5) ?_
    refine s_step (g_iload_n (iRow iCX1_pardon_0 6 rfl) rfl rfl) ?_
    refine s_step (g_ishr (iRow iCX1_pardon_0 7 rfl)) ?_
    refine s_step (g_iconst (iRow iCX1_pardon_0 8 rfl) kc_1) ?_
    refine s_step (g_iand (iRow iCX1_pardon_0 9 rfl)) ?_
    refine s_ifn (g_if_ne (tgt := 21) (iRow iCX1_pardon_0 10 rfl) (by decide)) (fun _ => ?_) (fun _ => ?_)
    · refine s_step (g_iconst (iRow iCX1_pardon_0 11 rfl) kc_0) ?_
      exact s_retz (b := false) (iRow iCX1_pardon_0 12 rfl) rfl rfl
    · refine s_step (g_aload_n (iRow iCX1_pardon_0 13 rfl) rfl rfl) ?_
      refine s_step (g_dup (iRow iCX1_pardon_0 14 rfl) rfl) ?_
      refine s_step (g_getI (iRow iCX1_pardon_0 15 rfl) f1_21 ko_5) ?_
      refine s_step (g_iconst (iRow iCX1_pardon_0 16 rfl) kc_1) ?_
      refine s_step (g_iload_n (iRow iCX1_pardon_0 17 rfl) rfl rfl) ?_
      refine s_step (g_ishl (iRow iCX1_pardon_0 18 rfl)) ?_
      refine s_step (g_iconst (iRow iCX1_pardon_0 19 rfl) kc_m1) ?_
      refine s_step (g_ixor (iRow iCX1_pardon_0 20 rfl)) ?_
      refine s_step (g_iand (iRow iCX1_pardon_0 21 rfl)) ?_
      refine s_step (g_putI (iRow iCX1_pardon_0 22 rfl) f1_21 (Or.inl rfl) ko_5) ?_
      refine s_nmM (fun M3 => ?_)
      refine s_step (g_aload_n (iRow iCX1_pardon_0 23 rfl) rfl rfl) ?_
      refine s_step (g_dup (iRow iCX1_pardon_1 0 rfl) rfl) ?_
      refine s_step (g_getI (iRow iCX1_pardon_1 1 rfl) f1_24 ko_5) ?_
      refine s_step (g_iconst (iRow iCX1_pardon_1 2 rfl) kc_1) ?_
      refine s_step (g_iload_n (iRow iCX1_pardon_1 3 rfl) rfl rfl) ?_
      refine s_step (g_ishl (iRow iCX1_pardon_1 4 rfl)) ?_
      refine s_step (g_ior (iRow iCX1_pardon_1 5 rfl)) ?_
      refine s_step (g_putI (iRow iCX1_pardon_1 6 rfl) f1_24 (Or.inl rfl) ko_5) ?_
      refine s_nmM (fun M4 => ?_)
      refine s_step (g_aload_n (iRow iCX1_pardon_1 7 rfl) rfl rfl) ?_
      refine s_step (g_aload_n (iRow iCX1_pardon_1 8 rfl) rfl rfl) ?_
      refine s_step (g_getR (iRow iCX1_pardon_1 9 rfl) f1_9 ko_2 (r_2_0 _ _)) ?_
      refine s_step (g_aload_n (iRow iCX1_pardon_1 10 rfl) rfl rfl) ?_
      refine s_step (g_aload_n (iRow iCX1_pardon_1 11 rfl) rfl rfl) ?_
      refine s_step (g_aload_n (iRow iCX1_pardon_1 12 rfl) rfl rfl) ?_
      refine s_step (g_getI (iRow iCX1_pardon_1 13 rfl) f1_38 ko_5) ?_
      refine s_cl (sf := fun x => vI x :: [vR 5 a2]) (fun _ _ h => h_V (As := [_, _, _]) (iRow iCX1_pardon_1 14 rfl) l1_32 iX9_standing ko_10 rfl rfl rfl rfl (t_X9_standing (d + 0) h) rfl (by omega) (by decide) (Nat.le_of_ble_eq_true rfl)) (fun x6 M5 => ?_)
      refine s_step (g_putI (iRow iCX1_pardon_1 15 rfl) f1_38 (Or.inl rfl) ko_5) ?_
      refine s_nmM (fun M7 => ?_)
      refine s_step (g_iconst (iRow iCX1_pardon_1 16 rfl) kc_1) ?_
      exact s_retz (b := true) (iRow iCX1_pardon_1 17 rfl) rfl rfl
  · refine s_step (g_iconst (iRow iCX1_pardon_0 11 rfl) kc_0) ?_
    exact s_retz (b := false) (iRow iCX1_pardon_0 12 rfl) rfl rfl
abbrev YX11_forgive : mY := (RX11, "forgive", cX11_forgive, 2, (some .boolean), none)
set_option maxHeartbeats 400000 in
set_option maxRecDepth 20000 in
theorem t_X11_forgive {G : mg} {F : Nat} {a1 : Int32} {M : mm} {x : Bool} {M' : mm} (d : Nat) (h : m_X11_forgive F a1 M = some (x, M')) : CM G yX11_forgive cX11_forgive 2 (some .boolean) (d + 5) [vR 12 0, vI a1] M (some (vI (bI x))) M' := by
  refine ct_z (ls := [some (vR 12 0), some (vI a1)]) rfl rfl (Nat.le_of_ble_eq_true rfl) (fun Z => ?_) h
  show SW G (d + 5) YX11_forgive Z 0 [some (vR 12 0), some (vI a1)] [] M _ _
  unfold m_X11_forgive
  refine s_step (g_aload_n (iRow iCX11_forgive_0 0 rfl) rfl rfl) ?_
  refine s_step (g_getR (iRow iCX11_forgive_0 1 rfl) f11_86 ko_12 (r_12_9 _ _)) ?_
  refine s_step (g_aload_n (iRow iCX11_forgive_0 2 rfl) rfl rfl) ?_
  refine s_step (g_getR (iRow iCX11_forgive_0 3 rfl) f11_82 ko_12 (r_12_8 _ _)) ?_
  refine s_cv (stA := []) (fun _ h => h_V (As := [_]) (iRow iCX11_forgive_0 4 rfl) l11_201 iX4_copy ko_5 rfl rfl rfl rfl (t_X4_copy (d + 4) h) rfl (by omega) (by decide) (Nat.le_of_ble_eq_true rfl)) (fun M1 => ?_)
  refine s_step (g_aload_n (iRow iCX11_forgive_0 5 rfl) rfl rfl) ?_
  refine s_step (g_getR (iRow iCX11_forgive_0 6 rfl) f11_57 ko_12 (r_12_3 _ _)) ?_
  refine s_step (g_aload_n (iRow iCX11_forgive_0 7 rfl) rfl rfl) ?_
  refine s_step (g_getR (iRow iCX11_forgive_0 8 rfl) f11_10 ko_12 (r_12_6 _ _)) ?_
  refine s_step (g_aload_n (iRow iCX11_forgive_0 9 rfl) rfl rfl) ?_
  refine s_step (g_getR (iRow iCX11_forgive_0 10 rfl) f11_82 ko_12 (r_12_8 _ _)) ?_
  refine s_step (g_iload_n (iRow iCX11_forgive_0 11 rfl) rfl rfl) ?_
  refine s_cb (sf := fun b => vI (bI b) :: []) (fun _ _ h => h_V (As := [_, _, _]) (iRow iCX11_forgive_0 12 rfl) l11_212 iX1_pardon ko_2 rfl rfl rfl rfl (t_X1_pardon (d + 0) h) rfl (by omega) (by decide) (Nat.le_of_ble_eq_true rfl)) (fun b3 M2 => ?_)
  refine s_ifneb (g_if_ne (tgt := 32) (iRow iCX11_forgive_0 13 rfl) (by decide)) (fun _ => ?_) (fun _ => ?_)
  · refine s_step (g_aload_n (iRow iCX11_forgive_0 16 rfl) rfl rfl) ?_
    refine s_cv (stA := []) (fun _ h => h_V (As := []) (iRow iCX11_forgive_0 17 rfl) l11_209 iX11_remember ko_12 rfl rfl rfl rfl (t_X11_remember (d + 3) h) rfl (by omega) (by decide) (Nat.le_of_ble_eq_true rfl)) (fun M4 => ?_)
    refine s_step (g_iconst (iRow iCX11_forgive_0 18 rfl) kc_1) ?_
    exact s_retz (b := true) (iRow iCX11_forgive_0 19 rfl) rfl rfl
  · refine s_step (g_iconst (iRow iCX11_forgive_0 14 rfl) kc_0) ?_
    exact s_retz (b := false) (iRow iCX11_forgive_0 15 rfl) rfl rfl
abbrev YX1_lift : mY := (RX1, "lift", cX1_lift, 5, (some .boolean), none)
set_option maxHeartbeats 400000 in
set_option maxRecDepth 20000 in
theorem t_X1_lift {G : mg} {F : Nat} {a1 : Nat} {a2 : Nat} {a3 : Int32} {M : mm} {x : Bool} {M' : mm} (d : Nat) (h : m_X1_lift F a1 a2 a3 M = some (x, M')) : CM G yX1_lift cX1_lift 5 (some .boolean) (d + 4) [vR 2 0, vR 1 a1, vR 5 a2, vI a3] M (some (vI (bI x))) M' := by
  refine ct_z (ls := [some (vR 2 0), some (vR 1 a1), some (vR 5 a2), some (vI a3), none]) rfl rfl (Nat.le_of_ble_eq_true rfl) (fun Z => ?_) h
  show SW G (d + 4) YX1_lift Z 0 [some (vR 2 0), some (vR 1 a1), some (vR 5 a2), some (vI a3), none] [] M _ _
  unfold m_X1_lift
  refine s_step (g_aload_n (iRow iCX1_lift_0 0 rfl) rfl rfl) ?_
  refine s_step (g_iload_n (iRow iCX1_lift_0 1 rfl) rfl rfl) ?_
  refine s_cb (sf := fun b => vI (bI b) :: []) (fun _ _ h => h_V (As := [_]) (iRow iCX1_lift_0 2 rfl) l1_48 iX0_hasStone ko_1 rfl rfl rfl rfl (t_X0_hasStone (d + 3) h) rfl (by omega) (by decide) (Nat.le_of_ble_eq_true rfl)) (fun b2 M1 => ?_)
  refine s_ifeqb (g_if_eq (tgt := 19) (iRow iCX1_lift_0 3 rfl) (by decide)) (fun _ => ?_) (fun _ => ?_)
  · refine s_step (g_aload_n (iRow iCX1_lift_0 4 rfl) rfl rfl) ?_
    refine s_step (g_getI (iRow iCX1_lift_0 5 rfl) f1_38 ko_5) ?_
    refine s_step (g_iload_n (iRow iCX1_lift_0 6 rfl) rfl rfl) ?_
    refine s_step (g_ishr (iRow iCX1_lift_0 7 rfl)) ?_
    refine s_step (g_iconst (iRow iCX1_lift_0 8 rfl) kc_1) ?_
    refine s_step (g_iand (iRow iCX1_lift_0 9 rfl)) ?_
    refine s_if (g_if_eq (tgt := 21) (iRow iCX1_lift_0 10 rfl) (by decide)) (fun _ => ?_) (fun _ => ?_)
    · refine s_step (g_aload_n (iRow iCX1_lift_0 13 rfl) rfl rfl) ?_
      refine s_step (g_getI (iRow iCX1_lift_0 14 rfl) f1_38 ko_5) ?_
      refine s_step (g_iconst (iRow iCX1_lift_0 15 rfl) kc_1) ?_
      refine s_step (g_iload_n (iRow iCX1_lift_0 16 rfl) rfl rfl) ?_
      refine s_step (g_ishl (iRow iCX1_lift_0 17 rfl)) ?_
      refine s_step (g_ior (iRow iCX1_lift_0 18 rfl)) ?_
      refine s_nmI (fun x3 => ?_)
      refine s_step (g_istore (ls' := [some (vR 2 0), some (vR 1 a1), some (vR 5 a2), some (vI a3), some (vI x3)]) (iRow iCX1_lift_0 19 rfl) (by decide) rfl) ?_
      refine s_step (g_aload_n (iRow iCX1_lift_0 20 rfl) rfl rfl) ?_
      refine s_step (g_getR (iRow iCX1_lift_0 21 rfl) f1_9 ko_2 (r_2_0 _ _)) ?_
      refine s_step (g_aload_n (iRow iCX1_lift_0 22 rfl) rfl rfl) ?_
      refine s_step (g_aload_n (iRow iCX1_lift_0 23 rfl) rfl rfl) ?_
      refine s_step (g_iload (iRow iCX1_lift_1 0 rfl) rfl) ?_
      refine s_cl (sf := fun x => vI x :: []) (fun _ _ h => h_V (As := [_, _, _]) (iRow iCX1_lift_1 1 rfl) l1_32 iX9_standing ko_10 rfl rfl rfl rfl (t_X9_standing (d + 0) h) rfl (by omega) (by decide) (Nat.le_of_ble_eq_true rfl)) (fun x5 M4 => ?_)
      refine s_step (g_iload (iRow iCX1_lift_1 2 rfl) rfl) ?_
      refine s_if (g_icmp_eq (tgt := 49) (iRow iCX1_lift_1 3 rfl) (by decide)) (fun _ => ?_) (fun _ => ?_)
      · refine s_step (g_aload_n (iRow iCX1_lift_1 6 rfl) rfl rfl) ?_
        refine s_step (g_iload (iRow iCX1_lift_1 7 rfl) rfl) ?_
        refine s_step (g_putI (iRow iCX1_lift_1 8 rfl) f1_38 (Or.inl rfl) ko_5) ?_
        refine s_nmM (fun M6 => ?_)
        refine s_step (g_iconst (iRow iCX1_lift_1 9 rfl) kc_1) ?_
        exact s_retz (b := true) (iRow iCX1_lift_1 10 rfl) rfl rfl
      · refine s_step (g_iconst (iRow iCX1_lift_1 4 rfl) kc_0) ?_
        exact s_retz (b := false) (iRow iCX1_lift_1 5 rfl) rfl rfl
    · refine s_step (g_iconst (iRow iCX1_lift_0 11 rfl) kc_0) ?_
      exact s_retz (b := false) (iRow iCX1_lift_0 12 rfl) rfl rfl
  · refine s_step (g_iconst (iRow iCX1_lift_0 11 rfl) kc_0) ?_
    exact s_retz (b := false) (iRow iCX1_lift_0 12 rfl) rfl rfl
abbrev YX11_raise : mY := (RX11, "raise", cX11_raise, 2, (some .boolean), none)
set_option maxHeartbeats 400000 in
set_option maxRecDepth 20000 in
theorem t_X11_raise {G : mg} {F : Nat} {a1 : Int32} {M : mm} {x : Bool} {M' : mm} (d : Nat) (h : m_X11_raise F a1 M = some (x, M')) : CM G yX11_raise cX11_raise 2 (some .boolean) (d + 5) [vR 12 0, vI a1] M (some (vI (bI x))) M' := by
  refine ct_z (ls := [some (vR 12 0), some (vI a1)]) rfl rfl (Nat.le_of_ble_eq_true rfl) (fun Z => ?_) h
  show SW G (d + 5) YX11_raise Z 0 [some (vR 12 0), some (vI a1)] [] M _ _
  unfold m_X11_raise
  refine s_step (g_aload_n (iRow iCX11_raise_0 0 rfl) rfl rfl) ?_
  refine s_step (g_getR (iRow iCX11_raise_0 1 rfl) f11_86 ko_12 (r_12_9 _ _)) ?_
  refine s_step (g_aload_n (iRow iCX11_raise_0 2 rfl) rfl rfl) ?_
  refine s_step (g_getR (iRow iCX11_raise_0 3 rfl) f11_82 ko_12 (r_12_8 _ _)) ?_
  refine s_cv (stA := []) (fun _ h => h_V (As := [_]) (iRow iCX11_raise_0 4 rfl) l11_201 iX4_copy ko_5 rfl rfl rfl rfl (t_X4_copy (d + 4) h) rfl (by omega) (by decide) (Nat.le_of_ble_eq_true rfl)) (fun M1 => ?_)
  refine s_step (g_aload_n (iRow iCX11_raise_0 5 rfl) rfl rfl) ?_
  refine s_step (g_getR (iRow iCX11_raise_0 6 rfl) f11_57 ko_12 (r_12_3 _ _)) ?_
  refine s_step (g_aload_n (iRow iCX11_raise_0 7 rfl) rfl rfl) ?_
  refine s_step (g_getR (iRow iCX11_raise_0 8 rfl) f11_10 ko_12 (r_12_6 _ _)) ?_
  refine s_step (g_aload_n (iRow iCX11_raise_0 9 rfl) rfl rfl) ?_
  refine s_step (g_getR (iRow iCX11_raise_0 10 rfl) f11_82 ko_12 (r_12_8 _ _)) ?_
  refine s_step (g_iload_n (iRow iCX11_raise_0 11 rfl) rfl rfl) ?_
  refine s_cb (sf := fun b => vI (bI b) :: []) (fun _ _ h => h_V (As := [_, _, _]) (iRow iCX11_raise_0 12 rfl) l11_215 iX1_lift ko_2 rfl rfl rfl rfl (t_X1_lift (d + 0) h) rfl (by omega) (by decide) (Nat.le_of_ble_eq_true rfl)) (fun b3 M2 => ?_)
  refine s_ifneb (g_if_ne (tgt := 32) (iRow iCX11_raise_0 13 rfl) (by decide)) (fun _ => ?_) (fun _ => ?_)
  · refine s_step (g_aload_n (iRow iCX11_raise_0 16 rfl) rfl rfl) ?_
    refine s_cv (stA := []) (fun _ h => h_V (As := []) (iRow iCX11_raise_0 17 rfl) l11_209 iX11_remember ko_12 rfl rfl rfl rfl (t_X11_remember (d + 3) h) rfl (by omega) (by decide) (Nat.le_of_ble_eq_true rfl)) (fun M4 => ?_)
    refine s_step (g_iconst (iRow iCX11_raise_0 18 rfl) kc_1) ?_
    exact s_retz (b := true) (iRow iCX11_raise_0 19 rfl) rfl rfl
  · refine s_step (g_iconst (iRow iCX11_raise_0 14 rfl) kc_0) ?_
    exact s_retz (b := false) (iRow iCX11_raise_0 15 rfl) rfl rfl
abbrev YX1_pass : mY := (RX1, "pass", cX1_pass, 3, none, none)
set_option maxHeartbeats 400000 in
set_option maxRecDepth 20000 in
theorem t_X1_pass {G : mg} {F : Nat} {a1 : Nat} {a2 : Nat} {M : mm} {M' : mm} (d : Nat) (h : m_X1_pass F a1 a2 M = some M') : CM G yX1_pass cX1_pass 3 none (d + 4) [vR 2 0, vR 1 a1, vR 5 a2] M none M' := by
  refine ct_v (ls := [some (vR 2 0), some (vR 1 a1), some (vR 5 a2)]) rfl rfl (Nat.le_of_ble_eq_true rfl) (fun Z => ?_) h
  show SW G (d + 4) YX1_pass Z 0 [some (vR 2 0), some (vR 1 a1), some (vR 5 a2)] [] M _ _
  unfold m_X1_pass
  refine s_step (g_aload_n (iRow iCX1_pass_0 0 rfl) rfl rfl) ?_
  refine s_step (g_dup (iRow iCX1_pass_0 1 rfl) rfl) ?_
  refine s_step (g_getI (iRow iCX1_pass_0 2 rfl) f1_15 ko_5) ?_
  refine s_step (g_iconst (iRow iCX1_pass_0 3 rfl) kc_1) ?_
  refine s_step (g_iadd (iRow iCX1_pass_0 4 rfl)) ?_
  refine s_step (g_putI (iRow iCX1_pass_0 5 rfl) f1_15 (Or.inl rfl) ko_5) ?_
  refine s_nmM (fun M1 => ?_)
  refine s_step (g_aload_n (iRow iCX1_pass_0 6 rfl) rfl rfl) ?_
  refine s_step (g_aload_n (iRow iCX1_pass_0 7 rfl) rfl rfl) ?_
  refine s_step (g_getR (iRow iCX1_pass_0 8 rfl) f1_9 ko_2 (r_2_0 _ _)) ?_
  refine s_step (g_aload_n (iRow iCX1_pass_0 9 rfl) rfl rfl) ?_
  refine s_step (g_aload_n (iRow iCX1_pass_0 10 rfl) rfl rfl) ?_
  refine s_step (g_aload_n (iRow iCX1_pass_0 11 rfl) rfl rfl) ?_
  refine s_step (g_getI (iRow iCX1_pass_0 12 rfl) f1_38 ko_5) ?_
  refine s_cl (sf := fun x => vI x :: [vR 5 a2]) (fun _ _ h => h_V (As := [_, _, _]) (iRow iCX1_pass_0 13 rfl) l1_32 iX9_standing ko_10 rfl rfl rfl rfl (t_X9_standing (d + 0) h) rfl (by omega) (by decide) (Nat.le_of_ble_eq_true rfl)) (fun x3 M2 => ?_)
  refine s_step (g_putI (iRow iCX1_pass_0 14 rfl) f1_38 (Or.inl rfl) ko_5) ?_
  refine s_nmM (fun M4 => ?_)
  exact s_retv (iRow iCX1_pass_0 15 rfl) rfl
abbrev YX11_years : mY := (RX11, "years", cX11_years, 3, (some .int), none)
set_option maxHeartbeats 400000 in
set_option maxRecDepth 20000 in
theorem t_X11_years {G : mg} {F : Nat} {a1 : Int32} {M : mm} {x : Int32} {M' : mm} (d : Nat) (h : m_X11_years F a1 M = some (x, M')) : CM G yX11_years cX11_years 3 (some .int) (d + 5) [vR 12 0, vI a1] M (some (vI x)) M' := by
  refine ct_i (ls := [some (vR 12 0), some (vI a1), none]) rfl rfl (Nat.le_of_ble_eq_true rfl) (fun Z => ?_) h
  show SW G (d + 5) YX11_years Z 0 [some (vR 12 0), some (vI a1), none] [] M _ _
  unfold m_X11_years
  refine s_step (g_iload_n (iRow iCX11_years_0 0 rfl) rfl rfl) ?_
  refine s_step (g_iconst (iRow iCX11_years_0 1 rfl) kc_1) ?_
  refine s_if (g_icmp_lt (tgt := 11) (iRow iCX11_years_0 2 rfl) (by decide)) (fun _ => ?_) (fun _ => ?_)
  · refine s_step (g_iconst (iRow iCX11_years_0 6 rfl) kc_m1) ?_
    exact s_reti (iRow iCX11_years_0 7 rfl) rfl
  · refine s_step (g_iload_n (iRow iCX11_years_0 3 rfl) rfl rfl) ?_
    refine s_step (g_bipush (iRow iCX11_years_0 4 rfl) kb_100) ?_
    refine s_if (g_icmp_le (tgt := 13) (iRow iCX11_years_0 5 rfl) (by decide)) (fun _ => ?_) (fun _ => ?_)
    · refine s_step (g_aload_n (iRow iCX11_years_0 8 rfl) rfl rfl) ?_
      refine s_step (g_getR (iRow iCX11_years_0 9 rfl) f11_86 ko_12 (r_12_9 _ _)) ?_
      refine s_step (g_aload_n (iRow iCX11_years_0 10 rfl) rfl rfl) ?_
      refine s_step (g_getR (iRow iCX11_years_0 11 rfl) f11_82 ko_12 (r_12_8 _ _)) ?_
      refine s_cv (stA := []) (fun _ h => h_V (As := [_]) (iRow iCX11_years_0 12 rfl) l11_201 iX4_copy ko_5 rfl rfl rfl rfl (t_X4_copy (d + 4) h) rfl (by omega) (by decide) (Nat.le_of_ble_eq_true rfl)) (fun M1 => ?_)
      refine s_step (g_iconst (iRow iCX11_years_0 13 rfl) kc_0) ?_
      refine s_step (g_istore_n (ls' := [some (vR 12 0), some (vI a1), some (vI (0 : Int32))]) (iRow iCX11_years_0 14 rfl) rfl (by decide) rfl) ?_
      refine s_lp (fun z => [some (vR 12 0), some (vI a1), some (vI (z.1))]) (fun z => z.2) (fun z => LM G (d + 5) YX11_years Z 52 [some (vR 12 0), none, none] [] z) rfl rfl ?_ ?_
      · rintro ⟨x2, M3⟩
        show SW G (d + 5) YX11_years Z 26 [some (vR 12 0), some (vI a1), some (vI x2)] [] M3 (b_X11_years_1c F a1 x2 M3) _
        unfold b_X11_years_1c
        refine s_step (g_iload_n (iRow iCX11_years_0 15 rfl) rfl rfl) ?_
        refine s_step (g_iload_n (iRow iCX11_years_0 16 rfl) rfl rfl) ?_
        refine s_if (g_icmp_ge (tgt := 52) (iRow iCX11_years_0 17 rfl) (by decide)) (fun _ => ?_) (fun _ => ?_)
        · refine s_step (g_keep [true, false, false] rfl) ?_
          exact s_end (fun h => h)
        · refine s_step (g_aload_n (iRow iCX11_years_0 18 rfl) rfl rfl) ?_
          refine s_step (g_getR (iRow iCX11_years_0 19 rfl) f11_57 ko_12 (r_12_3 _ _)) ?_
          refine s_step (g_aload_n (iRow iCX11_years_0 20 rfl) rfl rfl) ?_
          refine s_step (g_getR (iRow iCX11_years_0 21 rfl) f11_10 ko_12 (r_12_6 _ _)) ?_
          refine s_step (g_aload_n (iRow iCX11_years_0 22 rfl) rfl rfl) ?_
          refine s_step (g_getR (iRow iCX11_years_0 23 rfl) f11_82 ko_12 (r_12_8 _ _)) ?_
          refine s_cv (stA := []) (fun _ h => h_V (As := [_, _]) (iRow iCX11_years_1 0 rfl) l11_218 iX1_pass ko_2 rfl rfl rfl rfl (t_X1_pass (d + 0) h) rfl (by omega) (by decide) (Nat.le_of_ble_eq_true rfl)) (fun M4 => ?_)
          refine s_step (g_iincc (c := 1) (ls' := [some (vR 12 0), some (vI a1), some (vI (x2 + (1 : Int32)))]) (iRow iCX11_years_1 1 rfl) rfl kc_1 (by decide) rfl) ?_
          refine s_step (g_goto (tgt := 26) (iRow iCX11_years_1 2 rfl) (by decide)) ?_
          exact s_end (fun h => h)
      · rintro M5
        show SW G (d + 5) YX11_years Z 52 [some (vR 12 0), none, none] [] M5 _ _
        try dsimp only
        refine s_step (g_aload_n (iRow iCX11_years_1 3 rfl) rfl rfl) ?_
        refine s_cv (stA := []) (fun _ h => h_V (As := []) (iRow iCX11_years_1 4 rfl) l11_209 iX11_remember ko_12 rfl rfl rfl rfl (t_X11_remember (d + 3) h) rfl (by omega) (by decide) (Nat.le_of_ble_eq_true rfl)) (fun M6 => ?_)
        refine s_step (g_aload_n (iRow iCX11_years_1 5 rfl) rfl rfl) ?_
        refine s_step (g_getR (iRow iCX11_years_1 6 rfl) f11_86 ko_12 (r_12_9 _ _)) ?_
        refine s_step (g_getI (iRow iCX11_years_1 7 rfl) f11_188 ko_5) ?_
        refine s_step (g_aload_n (iRow iCX11_years_1 8 rfl) rfl rfl) ?_
        refine s_step (g_getR (iRow iCX11_years_1 9 rfl) f11_82 ko_12 (r_12_8 _ _)) ?_
        refine s_step (g_getI (iRow iCX11_years_1 10 rfl) f11_188 ko_5) ?_
        refine s_step (g_iconst (iRow iCX11_years_1 11 rfl) kc_m1) ?_
        refine s_step (g_ixor (iRow iCX11_years_1 12 rfl)) ?_
        refine s_step (g_iand (iRow iCX11_years_1 13 rfl)) ?_
        exact s_reti (iRow iCX11_years_1 14 rfl) rfl
    · refine s_step (g_iconst (iRow iCX11_years_0 6 rfl) kc_m1) ?_
      exact s_reti (iRow iCX11_years_0 7 rfl) rfl
abbrev YX11_undo : mY := (RX11, "undo", cX11_undo, 1, (some .boolean), none)
set_option maxHeartbeats 400000 in
set_option maxRecDepth 20000 in
theorem t_X11_undo {G : mg} {F : Nat} {M : mm} {x : Bool} {M' : mm} (d : Nat) (h : m_X11_undo F M = some (x, M')) : CM G yX11_undo cX11_undo 1 (some .boolean) (d + 1) [vR 12 0] M (some (vI (bI x))) M' := by
  refine ct_z (ls := [some (vR 12 0)]) rfl rfl (Nat.le_of_ble_eq_true rfl) (fun Z => ?_) h
  show SW G (d + 1) YX11_undo Z 0 [some (vR 12 0)] [] M _ _
  unfold m_X11_undo
  refine s_step (g_aload_n (iRow iCX11_undo_0 0 rfl) rfl rfl) ?_
  refine s_step (g_getI (iRow iCX11_undo_0 1 rfl) f11_116 ko_12) ?_
  refine s_if (g_if_gt (tgt := 9) (iRow iCX11_undo_0 2 rfl) (by decide)) (fun _ => ?_) (fun _ => ?_)
  · refine s_step (g_aload_n (iRow iCX11_undo_0 5 rfl) rfl rfl) ?_
    refine s_step (g_dup (iRow iCX11_undo_0 6 rfl) rfl) ?_
    refine s_step (g_getI (iRow iCX11_undo_0 7 rfl) f11_116 ko_12) ?_
    refine s_step (g_iconst (iRow iCX11_undo_0 8 rfl) kc_1) ?_
    refine s_step (g_isub (iRow iCX11_undo_0 9 rfl)) ?_
    refine s_step (g_putI (iRow iCX11_undo_0 10 rfl) f11_116 (Or.inl rfl) ko_12) ?_
    refine s_nmM (fun M1 => ?_)
    refine s_step (g_aload_n (iRow iCX11_undo_0 11 rfl) rfl rfl) ?_
    refine s_step (g_getR (iRow iCX11_undo_0 12 rfl) f11_82 ko_12 (r_12_8 _ _)) ?_
    refine s_step (g_aload_n (iRow iCX11_undo_0 13 rfl) rfl rfl) ?_
    refine s_step (g_getR (iRow iCX11_undo_0 14 rfl) f11_89 ko_12 (r_12_12 _ _)) ?_
    refine s_step (g_aload_n (iRow iCX11_undo_0 15 rfl) rfl rfl) ?_
    refine s_step (g_getI (iRow iCX11_undo_0 16 rfl) f11_221 ko_12) ?_
    refine s_step (g_aload_n (iRow iCX11_undo_0 17 rfl) rfl rfl) ?_
    refine s_step (g_getI (iRow iCX11_undo_0 18 rfl) f11_116 ko_12) ?_
    refine s_step (g_iadd (iRow iCX11_undo_0 19 rfl)) ?_
    refine s_step (g_bipush (iRow iCX11_undo_0 20 rfl) kb_16) ?_
    refine s_step (g_irem (iRow iCX11_undo_0 21 rfl) (by decide)) ?_
    refine s_gi (fun h => g_aald (iRow iCX11_undo_0 22 rfl) kn_60 ka_60 (by decide) h (r_60 _ _ _) rfl (fun _ h => by cases h)) ?_
    refine s_cv (stA := []) (fun _ h => h_V (As := [_]) (iRow iCX11_undo_0 23 rfl) l11_201 iX4_copy ko_5 rfl rfl rfl rfl (t_X4_copy (d + 0) h) rfl (by omega) (by decide) (Nat.le_of_ble_eq_true rfl)) (fun M2 => ?_)
    refine s_step (g_iconst (iRow iCX11_undo_1 0 rfl) kc_1) ?_
    exact s_retz (b := true) (iRow iCX11_undo_1 1 rfl) rfl rfl
  · refine s_step (g_iconst (iRow iCX11_undo_0 3 rfl) kc_0) ?_
    exact s_retz (b := false) (iRow iCX11_undo_0 4 rfl) rfl rfl
abbrev YX1_does : mY := (RX1, "does", cX1_does, 5, (some .boolean), none)
set_option maxHeartbeats 400000 in
set_option maxRecDepth 20000 in
theorem t_X1_does {G : mg} {F : Nat} {a1 : Nat} {a2 : Nat} {a3 : Int32} {a4 : Int32} {M : mm} {x : Bool} {M' : mm} (d : Nat) (h : m_X1_does F a1 a2 a3 a4 M = some (x, M')) : CM G yX1_does cX1_does 5 (some .boolean) (d + 5) [vR 2 0, vR 1 a1, vR 5 a2, vI a3, vI a4] M (some (vI (bI x))) M' := by
  refine ct_z (ls := [some (vR 2 0), some (vR 1 a1), some (vR 5 a2), some (vI a3), some (vI a4)]) rfl rfl (Nat.le_of_ble_eq_true rfl) (fun Z => ?_) h
  show SW G (d + 5) YX1_does Z 0 [some (vR 2 0), some (vR 1 a1), some (vR 5 a2), some (vI a3), some (vI a4)] [] M _ _
  unfold m_X1_does
  refine s_step (g_iload_n (iRow iCX1_does_0 0 rfl) rfl rfl) ?_
  refine s_ite (fun hs0 => ?_) (fun hs0 => ?_)
  · refine s_step (g_tableIn (tgt := 28) (off := 27) (iRow iCX1_does_0 1 rfl) (sw_lo hs0 (by decide)) (sw_hi hs0 (by decide)) (sw_at hs0 (by decide)) (by decide)) ?_
    refine s_step (g_aload_n (iRow iCX1_does_0 2 rfl) rfl rfl) ?_
    refine s_step (g_aload_n (iRow iCX1_does_0 3 rfl) rfl rfl) ?_
    refine s_step (g_aload_n (iRow iCX1_does_0 4 rfl) rfl rfl) ?_
    refine s_step (g_iload (iRow iCX1_does_0 5 rfl) rfl) ?_
    refine s_cb (sf := fun b => vI (bI b) :: []) (fun _ _ h => h_V (As := [_, _, _]) (iRow iCX1_does_0 6 rfl) l1_51 iX1_crack ko_2 rfl rfl rfl rfl (t_X1_crack (d + 0) h) rfl (by omega) (by decide) (Nat.le_of_ble_eq_true rfl)) (fun b2 M1 => ?_)
    exact s_retz (iRow iCX1_does_0 7 rfl) rfl rfl
  · refine s_ite (fun hs1 => ?_) (fun hs1 => ?_)
    · refine s_step (g_tableIn (tgt := 37) (off := 36) (iRow iCX1_does_0 1 rfl) (sw_lo hs1 (by decide)) (sw_hi hs1 (by decide)) (sw_at hs1 (by decide)) (by decide)) ?_
      refine s_step (g_aload_n (iRow iCX1_does_0 8 rfl) rfl rfl) ?_
      refine s_step (g_aload_n (iRow iCX1_does_0 9 rfl) rfl rfl) ?_
      refine s_step (g_aload_n (iRow iCX1_does_0 10 rfl) rfl rfl) ?_
      refine s_step (g_iload (iRow iCX1_does_0 11 rfl) rfl) ?_
      refine s_cb (sf := fun b => vI (bI b) :: []) (fun _ _ h => h_V (As := [_, _, _]) (iRow iCX1_does_0 12 rfl) l1_55 iX1_pardon ko_2 rfl rfl rfl rfl (t_X1_pardon (d + 0) h) rfl (by omega) (by decide) (Nat.le_of_ble_eq_true rfl)) (fun b4 M3 => ?_)
      exact s_retz (iRow iCX1_does_0 13 rfl) rfl rfl
    · refine s_ite (fun hs2 => ?_) (fun hs2 => ?_)
      · refine s_step (g_tableIn (tgt := 46) (off := 45) (iRow iCX1_does_0 1 rfl) (sw_lo hs2 (by decide)) (sw_hi hs2 (by decide)) (sw_at hs2 (by decide)) (by decide)) ?_
        refine s_step (g_aload_n (iRow iCX1_does_0 14 rfl) rfl rfl) ?_
        refine s_step (g_aload_n (iRow iCX1_does_0 15 rfl) rfl rfl) ?_
        refine s_step (g_aload_n (iRow iCX1_does_0 16 rfl) rfl rfl) ?_
        refine s_step (g_iload (iRow iCX1_does_0 17 rfl) rfl) ?_
        refine s_cb (sf := fun b => vI (bI b) :: []) (fun _ _ h => h_V (As := [_, _, _]) (iRow iCX1_does_0 18 rfl) l1_58 iX1_lift ko_2 rfl rfl rfl rfl (t_X1_lift (d + 0) h) rfl (by omega) (by decide) (Nat.le_of_ble_eq_true rfl)) (fun b6 M5 => ?_)
        exact s_retz (iRow iCX1_does_0 19 rfl) rfl rfl
      · refine s_step (g_tableOut (tgt := 55) (iRow iCX1_does_0 1 rfl) (sw_out [0, 1, 2] (by decide +kernel) ⟨hs0, hs1, hs2, trivial⟩) (by decide)) ?_
        refine s_step (g_aload_n (iRow iCX1_does_0 20 rfl) rfl rfl) ?_
        refine s_step (g_aload_n (iRow iCX1_does_0 21 rfl) rfl rfl) ?_
        refine s_step (g_aload_n (iRow iCX1_does_0 22 rfl) rfl rfl) ?_
        refine s_cv (stA := []) (fun _ h => h_V (As := [_, _]) (iRow iCX1_does_0 23 rfl) l1_61 iX1_pass ko_2 rfl rfl rfl rfl (t_X1_pass (d + 0) h) rfl (by omega) (by decide) (Nat.le_of_ble_eq_true rfl)) (fun M7 => ?_)
        refine s_step (g_iconst (iRow iCX1_does_1 0 rfl) kc_1) ?_
        exact s_retz (b := true) (iRow iCX1_does_1 1 rfl) rfl rfl
abbrev YX7_judge : mY := (RX7, "judge", cX7_judge, 6, none, none)
set_option maxHeartbeats 400000 in
set_option maxRecDepth 20000 in
theorem t_X7_judge {G : mg} {F : Nat} {a1 : Nat} {a2 : Nat} {M : mm} {M' : mm} (d : Nat) (h : m_X7_judge F a1 a2 M = some M') : CM G yX7_judge cX7_judge 6 none (d + 6) [vR 8 0, vR 1 a1, vR 9 a2] M none M' := by
  refine ct_v (ls := [some (vR 8 0), some (vR 1 a1), some (vR 9 a2), none, none, none]) rfl rfl (Nat.le_of_ble_eq_true rfl) (fun Z => ?_) h
  show SW G (d + 6) YX7_judge Z 0 [some (vR 8 0), some (vR 1 a1), some (vR 9 a2), none, none, none] [] M _ _
  unfold m_X7_judge
  refine s_step (g_aload_n (iRow iCX7_judge_0 0 rfl) rfl rfl) ?_
  refine s_step (g_iconst (iRow iCX7_judge_0 1 rfl) kc_m1) ?_
  refine s_step (g_putI (iRow iCX7_judge_0 2 rfl) f7_33 (Or.inl rfl) ko_8) ?_
  refine s_nmM (fun M1 => ?_)
  refine s_step (g_aload_n (iRow iCX7_judge_0 3 rfl) rfl rfl) ?_
  refine s_step (g_iconst (iRow iCX7_judge_0 4 rfl) kc_m1) ?_
  refine s_step (g_putI (iRow iCX7_judge_0 5 rfl) f7_37 (Or.inl rfl) ko_8) ?_
  refine s_nmM (fun M2 => ?_)
  refine s_step (g_aload_n (iRow iCX7_judge_0 6 rfl) rfl rfl) ?_
  refine s_step (g_getR (iRow iCX7_judge_0 7 rfl) f7_29 ko_8 (r_8_0 _ _)) ?_
  refine s_step (g_aload_n (iRow iCX7_judge_0 8 rfl) rfl rfl) ?_
  refine s_step (g_aload_n (iRow iCX7_judge_0 9 rfl) rfl rfl) ?_
  refine s_step (g_getR (iRow iCX7_judge_0 10 rfl) f7_12 ko_8 (r_8_1 _ _)) ?_
  refine s_cv (stA := []) (fun _ h => h_V (As := [_, _]) (iRow iCX7_judge_0 11 rfl) l7_40 iX1_begin ko_2 rfl rfl rfl rfl (t_X1_begin (d + 1) h) rfl (by omega) (by decide) (Nat.le_of_ble_eq_true rfl)) (fun M3 => ?_)
  refine s_step (g_iconst (iRow iCX7_judge_0 12 rfl) kc_0) ?_
  refine s_step (g_istore_n (ls' := [some (vR 8 0), some (vR 1 a1), some (vR 9 a2), some (vI (0 : Int32)), none, none]) (iRow iCX7_judge_0 13 rfl) rfl (by decide) rfl) ?_
  refine s_lp (fun z => [some (vR 8 0), some (vR 1 a1), some (vR 9 a2), some (vI (z.1)), none, none]) (fun z => z.2) (fun z => LM G (d + 6) YX7_judge Z 119 [some (vR 8 0), none, none, none, none, none] [] z) rfl rfl ?_ ?_
  · rintro ⟨x4, M5⟩
    show SW G (d + 6) YX7_judge Z 24 [some (vR 8 0), some (vR 1 a1), some (vR 9 a2), some (vI x4), none, none] [] M5 (b_X7_judge_1c F a1 a2 x4 M5) _
    unfold b_X7_judge_1c
    refine s_step (g_iload_n (iRow iCX7_judge_0 14 rfl) rfl rfl) ?_
    refine s_step (g_aload_n (iRow iCX7_judge_0 15 rfl) rfl rfl) ?_
    refine s_step (g_getI (iRow iCX7_judge_0 16 rfl) f7_46 ko_9) ?_
    refine s_if (g_icmp_ge (tgt := 119) (iRow iCX7_judge_0 17 rfl) (by decide)) (fun _ => ?_) (fun _ => ?_)
    · refine s_step (g_keep [true, false, false, false, false, false] rfl) ?_
      exact s_end (fun h => h)
    · refine s_step (g_aload_n (iRow iCX7_judge_0 18 rfl) rfl rfl) ?_
      refine s_step (g_getR (iRow iCX7_judge_0 19 rfl) f7_12 ko_8 (r_8_1 _ _)) ?_
      refine s_step (g_getI (iRow iCX7_judge_0 20 rfl) f7_51 ko_5) ?_
      refine s_nmI (fun x6 => ?_)
      refine s_step (g_istore (ls' := [some (vR 8 0), some (vR 1 a1), some (vR 9 a2), some (vI x4), some (vI x6), none]) (iRow iCX7_judge_0 21 rfl) (by decide) rfl) ?_
      refine s_step (g_aload_n (iRow iCX7_judge_0 22 rfl) rfl rfl) ?_
      refine s_step (g_getR (iRow iCX7_judge_0 23 rfl) f7_29 ko_8 (r_8_0 _ _)) ?_
      refine s_step (g_aload_n (iRow iCX7_judge_1 0 rfl) rfl rfl) ?_
      refine s_step (g_aload_n (iRow iCX7_judge_1 1 rfl) rfl rfl) ?_
      refine s_step (g_getR (iRow iCX7_judge_1 2 rfl) f7_12 ko_8 (r_8_1 _ _)) ?_
      refine s_step (g_aload_n (iRow iCX7_judge_1 3 rfl) rfl rfl) ?_
      refine s_step (g_getR (iRow iCX7_judge_1 4 rfl) f7_54 ko_9 (r_9_1 _ _)) ?_
      refine s_step (g_iload_n (iRow iCX7_judge_1 5 rfl) rfl rfl) ?_
      refine s_gi (fun h => g_iald (iRow iCX7_judge_1 6 rfl) kn_45 ka_45 h) ?_
      refine s_step (g_aload_n (iRow iCX7_judge_1 7 rfl) rfl rfl) ?_
      refine s_step (g_getR (iRow iCX7_judge_1 8 rfl) f7_56 ko_9 (r_9_2 _ _)) ?_
      refine s_step (g_iload_n (iRow iCX7_judge_1 9 rfl) rfl rfl) ?_
      refine s_gi (fun h => g_iald (iRow iCX7_judge_1 10 rfl) kn_46 ka_46 h) ?_
      refine s_cb (sf := fun b => vI (bI b) :: []) (fun _ _ h => h_V (As := [_, _, _, _]) (iRow iCX7_judge_1 11 rfl) l7_59 iX1_does ko_2 rfl rfl rfl rfl (t_X1_does (d + 0) h) rfl (by omega) (by decide) (Nat.le_of_ble_eq_true rfl)) (fun b8 M7 => ?_)
      refine s_step (g_istore (ls' := [some (vR 8 0), some (vR 1 a1), some (vR 9 a2), some (vI x4), some (vI x6), some (vI (bI b8))]) (iRow iCX7_judge_1 12 rfl) (by decide) rfl) ?_
      refine s_step (g_iload (iRow iCX7_judge_1 13 rfl) rfl) ?_
      refine s_bd (fun z => LM G (d + 6) YX7_judge Z 85 [some (vR 8 0), some (vR 1 a1), some (vR 9 a2), some (vI x4), some (vI x6), none] [] z) ?_ ?_
      · refine s_ifneb (g_if_ne (tgt := 85) (iRow iCX7_judge_1 14 rfl) (by decide)) (fun _ => ?_) (fun _ => ?_)
        · refine s_step (g_keep [true, true, true, true, true, false] rfl) ?_
          exact s_end (fun h => h)
        · refine s_step (g_aload_n (iRow iCX7_judge_1 15 rfl) rfl rfl) ?_
          refine s_step (g_getI (iRow iCX7_judge_1 16 rfl) f7_33 ko_8) ?_
          refine s_step (g_iconst (iRow iCX7_judge_1 17 rfl) kc_m1) ?_
          refine s_ifn (g_icmp_ne (tgt := 85) (iRow iCX7_judge_1 18 rfl) (by decide)) (fun _ => ?_) (fun _ => ?_)
          · refine s_step (g_aload_n (iRow iCX7_judge_1 19 rfl) rfl rfl) ?_
            refine s_step (g_iload_n (iRow iCX7_judge_1 20 rfl) rfl rfl) ?_
            refine s_step (g_putI (iRow iCX7_judge_1 21 rfl) f7_33 (Or.inl rfl) ko_8) ?_
            refine s_nmM (fun M9 => ?_)
            refine s_step (g_keep [true, true, true, true, true, false] rfl) ?_
            exact s_end (fun h => h)
          · refine s_step (g_keep [true, true, true, true, true, false] rfl) ?_
            exact s_end (fun h => h)
      · rintro M10
        show SW G (d + 6) YX7_judge Z 85 [some (vR 8 0), some (vR 1 a1), some (vR 9 a2), some (vI x4), some (vI x6), none] [] M10 _ _
        try dsimp only
        refine s_step (g_iload (iRow iCX7_judge_1 22 rfl) rfl) ?_
        refine s_step (g_aload_n (iRow iCX7_judge_1 23 rfl) rfl rfl) ?_
        refine s_step (g_getR (iRow iCX7_judge_2 0 rfl) f7_12 ko_8 (r_8_1 _ _)) ?_
        refine s_step (g_getI (iRow iCX7_judge_2 1 rfl) f7_51 ko_5) ?_
        refine s_step (g_iconst (iRow iCX7_judge_2 2 rfl) kc_m1) ?_
        refine s_step (g_ixor (iRow iCX7_judge_2 3 rfl)) ?_
        refine s_step (g_iand (iRow iCX7_judge_2 4 rfl)) ?_
        refine s_bd (fun z => LM G (d + 6) YX7_judge Z 113 [some (vR 8 0), some (vR 1 a1), some (vR 9 a2), some (vI x4), none, none] [] z) ?_ ?_
        · refine s_if (g_if_eq (tgt := 113) (iRow iCX7_judge_2 5 rfl) (by decide)) (fun _ => ?_) (fun _ => ?_)
          · refine s_step (g_keep [true, true, true, true, false, false] rfl) ?_
            exact s_end (fun h => h)
          · refine s_step (g_aload_n (iRow iCX7_judge_2 6 rfl) rfl rfl) ?_
            refine s_step (g_getI (iRow iCX7_judge_2 7 rfl) f7_37 ko_8) ?_
            refine s_step (g_iconst (iRow iCX7_judge_2 8 rfl) kc_m1) ?_
            refine s_ifn (g_icmp_ne (tgt := 113) (iRow iCX7_judge_2 9 rfl) (by decide)) (fun _ => ?_) (fun _ => ?_)
            · refine s_step (g_aload_n (iRow iCX7_judge_2 10 rfl) rfl rfl) ?_
              refine s_step (g_iload_n (iRow iCX7_judge_2 11 rfl) rfl rfl) ?_
              refine s_step (g_putI (iRow iCX7_judge_2 12 rfl) f7_37 (Or.inl rfl) ko_8) ?_
              refine s_nmM (fun M11 => ?_)
              refine s_step (g_keep [true, true, true, true, false, false] rfl) ?_
              exact s_end (fun h => h)
            · refine s_step (g_keep [true, true, true, true, false, false] rfl) ?_
              exact s_end (fun h => h)
        · rintro M12
          show SW G (d + 6) YX7_judge Z 113 [some (vR 8 0), some (vR 1 a1), some (vR 9 a2), some (vI x4), none, none] [] M12 _ _
          try dsimp only
          refine s_step (g_iincc (c := 1) (ls' := [some (vR 8 0), some (vR 1 a1), some (vR 9 a2), some (vI (x4 + (1 : Int32))), none, none]) (iRow iCX7_judge_2 13 rfl) rfl kc_1 (by decide) rfl) ?_
          refine s_step (g_goto (tgt := 24) (iRow iCX7_judge_2 14 rfl) (by decide)) ?_
          exact s_end (fun h => h)
  · rintro M13
    show SW G (d + 6) YX7_judge Z 119 [some (vR 8 0), none, none, none, none, none] [] M13 _ _
    try dsimp only
    refine s_step (g_aload_n (iRow iCX7_judge_2 15 rfl) rfl rfl) ?_
    refine s_step (g_aload_n (iRow iCX7_judge_2 16 rfl) rfl rfl) ?_
    refine s_step (g_getR (iRow iCX7_judge_2 17 rfl) f7_12 ko_8 (r_8_1 _ _)) ?_
    refine s_step (g_getI (iRow iCX7_judge_2 18 rfl) f7_51 ko_5) ?_
    refine s_step (g_putI (iRow iCX7_judge_2 19 rfl) f7_63 (Or.inl rfl) ko_8) ?_
    refine s_nmM (fun M14 => ?_)
    exact s_retv (iRow iCX7_judge_2 20 rfl) rfl
abbrev YX11_judged : mY := (RX11, "judged", cX11_judged, 2, (some .int), none)
set_option maxHeartbeats 400000 in
set_option maxRecDepth 20000 in
theorem t_X11_judged {G : mg} {F : Nat} {a1 : Int32} {M : mm} {x : Int32} {M' : mm} (d : Nat) (h : m_X11_judged F a1 M = some (x, M')) : CM G yX11_judged cX11_judged 2 (some .int) (d + 7) [vR 12 0, vI a1] M (some (vI x)) M' := by
  refine ct_i (ls := [some (vR 12 0), some (vI a1)]) rfl rfl (Nat.le_of_ble_eq_true rfl) (fun Z => ?_) h
  show SW G (d + 7) YX11_judged Z 0 [some (vR 12 0), some (vI a1)] [] M _ _
  unfold m_X11_judged
  refine s_step (g_iload_n (iRow iCX11_judged_0 0 rfl) rfl rfl) ?_
  refine s_if (g_if_lt (tgt := 9) (iRow iCX11_judged_0 1 rfl) (by decide)) (fun _ => ?_) (fun _ => ?_)
  · refine s_step (g_bipush (iRow iCX11_judged_0 5 rfl) kb_m2) ?_
    exact s_reti (iRow iCX11_judged_0 6 rfl) rfl
  · refine s_step (g_iload_n (iRow iCX11_judged_0 2 rfl) rfl rfl) ?_
    refine s_step (g_iconst (iRow iCX11_judged_0 3 rfl) kc_2) ?_
    refine s_if (g_icmp_le (tgt := 12) (iRow iCX11_judged_0 4 rfl) (by decide)) (fun _ => ?_) (fun _ => ?_)
    · refine s_step (g_aload_n (iRow iCX11_judged_0 7 rfl) rfl rfl) ?_
      refine s_step (g_getR (iRow iCX11_judged_0 8 rfl) f11_75 ko_12 (r_12_5 _ _)) ?_
      refine s_step (g_aload_n (iRow iCX11_judged_0 9 rfl) rfl rfl) ?_
      refine s_step (g_getR (iRow iCX11_judged_0 10 rfl) f11_10 ko_12 (r_12_6 _ _)) ?_
      refine s_step (g_aload_n (iRow iCX11_judged_0 11 rfl) rfl rfl) ?_
      refine s_step (g_getR (iRow iCX11_judged_0 12 rfl) f11_22 ko_12 (r_12_10 _ _)) ?_
      refine s_cv (stA := []) (fun _ h => h_V (As := [_, _]) (iRow iCX11_judged_0 13 rfl) l11_224 iX7_judge ko_8 rfl rfl rfl rfl (t_X7_judge (d + 0) h) rfl (by omega) (by decide) (Nat.le_of_ble_eq_true rfl)) (fun M1 => ?_)
      refine s_step (g_iload_n (iRow iCX11_judged_0 14 rfl) rfl rfl) ?_
      refine s_ifn (g_if_ne (tgt := 39) (iRow iCX11_judged_0 15 rfl) (by decide)) (fun _ => ?_) (fun _ => ?_)
      · refine s_step (g_aload_n (iRow iCX11_judged_0 16 rfl) rfl rfl) ?_
        refine s_step (g_getR (iRow iCX11_judged_0 17 rfl) f11_75 ko_12 (r_12_5 _ _)) ?_
        refine s_step (g_getI (iRow iCX11_judged_0 18 rfl) f11_228 ko_8) ?_
        exact s_reti (iRow iCX11_judged_0 19 rfl) rfl
      · refine s_step (g_iload_n (iRow iCX11_judged_0 20 rfl) rfl rfl) ?_
        refine s_step (g_iconst (iRow iCX11_judged_0 21 rfl) kc_1) ?_
        refine s_ifn (g_icmp_ne (tgt := 54) (iRow iCX11_judged_0 22 rfl) (by decide)) (fun _ => ?_) (fun _ => ?_)
        · refine s_step (g_aload_n (iRow iCX11_judged_0 23 rfl) rfl rfl) ?_
          refine s_step (g_getR (iRow iCX11_judged_1 0 rfl) f11_75 ko_12 (r_12_5 _ _)) ?_
          refine s_step (g_getI (iRow iCX11_judged_1 1 rfl) f11_231 ko_8) ?_
          refine s_step (g_goto (tgt := 61) (iRow iCX11_judged_1 2 rfl) (by decide)) ?_
          exact s_reti (iRow iCX11_judged_1 6 rfl) rfl
        · refine s_step (g_aload_n (iRow iCX11_judged_1 3 rfl) rfl rfl) ?_
          refine s_step (g_getR (iRow iCX11_judged_1 4 rfl) f11_75 ko_12 (r_12_5 _ _)) ?_
          refine s_step (g_getI (iRow iCX11_judged_1 5 rfl) f11_234 ko_8) ?_
          exact s_reti (iRow iCX11_judged_1 6 rfl) rfl
    · refine s_step (g_bipush (iRow iCX11_judged_0 5 rfl) kb_m2) ?_
      exact s_reti (iRow iCX11_judged_0 6 rfl) rfl
abbrev YX9_most : mY := (RX9, "most", cX9_most, 5, (some .int), none)
set_option maxHeartbeats 400000 in
set_option maxRecDepth 20000 in
theorem t_X9_most {G : mg} {F : Nat} {a1 : Nat} {a2 : Nat} {M : mm} {x : Int32} {M' : mm} (d : Nat) (h : m_X9_most F a1 a2 M = some (x, M')) : CM G yX9_most cX9_most 5 (some .int) (d + 4) [vR 10 0, vR 1 a1, vR 5 a2] M (some (vI x)) M' := by
  refine ct_i (ls := [some (vR 10 0), some (vR 1 a1), some (vR 5 a2), none, none]) rfl rfl (Nat.le_of_ble_eq_true rfl) (fun Z => ?_) h
  show SW G (d + 4) YX9_most Z 0 [some (vR 10 0), some (vR 1 a1), some (vR 5 a2), none, none] [] M _ _
  unfold m_X9_most
  refine s_step (g_aload_n (iRow iCX9_most_0 0 rfl) rfl rfl) ?_
  refine s_step (g_aload_n (iRow iCX9_most_0 1 rfl) rfl rfl) ?_
  refine s_step (g_aload_n (iRow iCX9_most_0 2 rfl) rfl rfl) ?_
  refine s_step (g_iconst (iRow iCX9_most_0 3 rfl) kc_0) ?_
  refine s_cl (sf := fun x => vI x :: []) (fun _ _ h => h_V (As := [_, _, _]) (iRow iCX9_most_0 4 rfl) l9_69 iX9_standing ko_10 rfl rfl rfl rfl (t_X9_standing (d + 0) h) rfl (by omega) (by decide) (Nat.le_of_ble_eq_true rfl)) (fun x2 M1 => ?_)
  refine s_step (g_pop (iRow iCX9_most_0 5 rfl) rfl) ?_
  refine s_step (g_aload_n (iRow iCX9_most_0 6 rfl) rfl rfl) ?_
  refine s_step (g_aload_n (iRow iCX9_most_0 7 rfl) rfl rfl) ?_
  refine s_step (g_aload_n (iRow iCX9_most_0 8 rfl) rfl rfl) ?_
  refine s_step (g_getI (iRow iCX9_most_0 9 rfl) f9_73 ko_5) ?_
  refine s_cv (stA := []) (fun _ h => h_V (As := [_, _]) (iRow iCX9_most_0 10 rfl) l9_58 iX9_settle ko_10 rfl rfl rfl rfl (t_X9_settle (d + 3) h) rfl (by omega) (by decide) (Nat.le_of_ble_eq_true rfl)) (fun M3 => ?_)
  refine s_step (g_iconst (iRow iCX9_most_0 11 rfl) kc_0) ?_
  refine s_step (g_istore_n (ls' := [some (vR 10 0), some (vR 1 a1), some (vR 5 a2), some (vI (0 : Int32)), none]) (iRow iCX9_most_0 12 rfl) rfl (by decide) rfl) ?_
  refine s_step (g_iconst (iRow iCX9_most_0 13 rfl) kc_0) ?_
  refine s_step (g_istore (ls' := [some (vR 10 0), some (vR 1 a1), some (vR 5 a2), some (vI (0 : Int32)), some (vI (0 : Int32))]) (iRow iCX9_most_0 14 rfl) (by decide) rfl) ?_
  refine s_lp (fun z => [some (vR 10 0), some (vR 1 a1), some (vR 5 a2), some (vI (z.1)), some (vI (z.2.1))]) (fun z => z.2.2) (fun z => LM G (d + 4) YX9_most Z 73 [none, none, none, some (vI (z.1)), none] [] z.2) rfl rfl ?_ ?_
  · rintro ⟨x4, x5, M6⟩
    show SW G (d + 4) YX9_most Z 22 [some (vR 10 0), some (vR 1 a1), some (vR 5 a2), some (vI x4), some (vI x5)] [] M6 (b_X9_most_1c F a1 a2 x4 x5 M6) _
    unfold b_X9_most_1c
    refine s_step (g_iload (iRow iCX9_most_0 15 rfl) rfl) ?_
    refine s_step (g_aload_n (iRow iCX9_most_0 16 rfl) rfl rfl) ?_
    refine s_step (g_getI (iRow iCX9_most_0 17 rfl) f9_36 ko_1) ?_
    refine s_if (g_icmp_ge (tgt := 73) (iRow iCX9_most_0 18 rfl) (by decide)) (fun _ => ?_) (fun _ => ?_)
    · refine s_step (g_keep [false, false, false, true, false] rfl) ?_
      exact s_end (fun h => h)
    · refine s_step (g_aload_n (iRow iCX9_most_0 19 rfl) rfl rfl) ?_
      refine s_step (g_getI (iRow iCX9_most_0 20 rfl) f9_73 ko_5) ?_
      refine s_step (g_iload (iRow iCX9_most_0 21 rfl) rfl) ?_
      refine s_step (g_ishr (iRow iCX9_most_0 22 rfl)) ?_
      refine s_step (g_iconst (iRow iCX9_most_0 23 rfl) kc_1) ?_
      refine s_step (g_iand (iRow iCX9_most_1 0 rfl)) ?_
      refine s_bd (fun z => LM G (d + 4) YX9_most Z 67 [some (vR 10 0), some (vR 1 a1), some (vR 5 a2), some (vI (z.1)), some (vI x5)] [] z.2) ?_ ?_
      · refine s_if (g_if_eq (tgt := 67) (iRow iCX9_most_1 1 rfl) (by decide)) (fun _ => ?_) (fun _ => ?_)
        · exact s_end (fun h => h)
        · refine s_step (g_iload_n (iRow iCX9_most_1 2 rfl) rfl rfl) ?_
          refine s_step (g_aload_n (iRow iCX9_most_1 3 rfl) rfl rfl) ?_
          refine s_step (g_getR (iRow iCX9_most_1 4 rfl) f9_62 ko_1 (r_1_15 _ _)) ?_
          refine s_step (g_iload (iRow iCX9_most_1 5 rfl) rfl) ?_
          refine s_gi (fun h => g_iald (iRow iCX9_most_1 6 rfl) kn_31 ka_31 h) ?_
          refine s_step (g_aload_n (iRow iCX9_most_1 7 rfl) rfl rfl) ?_
          refine s_step (g_iload (iRow iCX9_most_1 8 rfl) rfl) ?_
          refine s_step (g_aload_n (iRow iCX9_most_1 9 rfl) rfl rfl) ?_
          refine s_step (g_getR (iRow iCX9_most_1 10 rfl) f9_62 ko_1 (r_1_15 _ _)) ?_
          refine s_step (g_iload (iRow iCX9_most_1 11 rfl) rfl) ?_
          refine s_gi (fun h => g_iald (iRow iCX9_most_1 12 rfl) kn_31 ka_31 h) ?_
          refine s_cl (sf := fun x => vI x :: [vI (M6.1 31 a1 (Int32.toNatClampNeg x5)), vI x4]) (fun _ _ h => h_V (As := [_, _]) (iRow iCX9_most_1 13 rfl) l9_65 iX9_lay ko_10 rfl rfl rfl rfl (t_X9_lay (d + 1) h) rfl (by omega) (by decide) (Nat.le_of_ble_eq_true rfl)) (fun x8 M7 => ?_)
          refine s_step (g_isub (iRow iCX9_most_1 14 rfl)) ?_
          refine s_step (g_iadd (iRow iCX9_most_1 15 rfl)) ?_
          refine s_nmI (fun x9 => ?_)
          refine s_step (g_istore_n (ls' := [some (vR 10 0), some (vR 1 a1), some (vR 5 a2), some (vI x9), some (vI x5)]) (iRow iCX9_most_1 16 rfl) rfl (by decide) rfl) ?_
          exact s_end (fun h => h)
      · rintro ⟨x10, M11⟩
        show SW G (d + 4) YX9_most Z 67 [some (vR 10 0), some (vR 1 a1), some (vR 5 a2), some (vI x10), some (vI x5)] [] M11 _ _
        try dsimp only
        refine s_step (g_iincc (c := 1) (ls' := [some (vR 10 0), some (vR 1 a1), some (vR 5 a2), some (vI x10), some (vI (x5 + (1 : Int32)))]) (iRow iCX9_most_1 17 rfl) rfl kc_1 (by decide) rfl) ?_
        refine s_step (g_goto (tgt := 22) (iRow iCX9_most_1 18 rfl) (by decide)) ?_
        exact s_end (fun h => h)
  · rintro ⟨x12, M13⟩
    show SW G (d + 4) YX9_most Z 73 [none, none, none, some (vI x12), none] [] M13 _ _
    try dsimp only
    refine s_step (g_iload_n (iRow iCX9_most_1 19 rfl) rfl rfl) ?_
    exact s_reti (iRow iCX9_most_1 20 rfl) rfl
abbrev YX11_bears : mY := (RX11, "bears", cX11_bears, 1, (some .int), none)
set_option maxHeartbeats 400000 in
set_option maxRecDepth 20000 in
theorem t_X11_bears {G : mg} {F : Nat} {M : mm} {x : Int32} {M' : mm} (d : Nat) (h : m_X11_bears F M = some (x, M')) : CM G yX11_bears cX11_bears 1 (some .int) (d + 5) [vR 12 0] M (some (vI x)) M' := by
  refine ct_i (ls := [some (vR 12 0)]) rfl rfl (Nat.le_of_ble_eq_true rfl) (fun Z => ?_) h
  show SW G (d + 5) YX11_bears Z 0 [some (vR 12 0)] [] M _ _
  unfold m_X11_bears
  refine s_step (g_aload_n (iRow iCX11_bears_0 0 rfl) rfl rfl) ?_
  refine s_step (g_getR (iRow iCX11_bears_0 1 rfl) f11_48 ko_12 (r_12_2 _ _)) ?_
  refine s_step (g_aload_n (iRow iCX11_bears_0 2 rfl) rfl rfl) ?_
  refine s_step (g_getR (iRow iCX11_bears_0 3 rfl) f11_10 ko_12 (r_12_6 _ _)) ?_
  refine s_step (g_aload_n (iRow iCX11_bears_0 4 rfl) rfl rfl) ?_
  refine s_step (g_getR (iRow iCX11_bears_0 5 rfl) f11_82 ko_12 (r_12_8 _ _)) ?_
  refine s_cl (sf := fun x => vI x :: []) (fun _ _ h => h_V (As := [_, _]) (iRow iCX11_bears_0 6 rfl) l11_237 iX9_most ko_10 rfl rfl rfl rfl (t_X9_most (d + 0) h) rfl (by omega) (by decide) (Nat.le_of_ble_eq_true rfl)) (fun x2 M1 => ?_)
  exact s_reti (iRow iCX11_bears_0 7 rfl) rfl
abbrev YX4_isLike : mY := (RX4, "isLike", cX4_isLike, 2, (some .boolean), none)
set_option maxHeartbeats 400000 in
set_option maxRecDepth 20000 in
theorem t_X4_isLike {G : mg} {F : Nat} {o : Nat} {a1 : Nat} {M : mm} {x : Bool} {M' : mm} (d : Nat) (h : m_X4_isLike F o a1 M = some (x, M')) : CM G yX4_isLike cX4_isLike 2 (some .boolean) (d + 0) [vR 5 o, vR 5 a1] M (some (vI (bI x))) M' := by
  refine ct_z (ls := [some (vR 5 o), some (vR 5 a1)]) rfl rfl (Nat.le_of_ble_eq_true rfl) (fun Z => ?_) h
  show SW G (d + 0) YX4_isLike Z 0 [some (vR 5 o), some (vR 5 a1)] [] M _ _
  unfold m_X4_isLike
  refine s_step (g_aload_n (iRow iCX4_isLike_0 0 rfl) rfl rfl) ?_
  refine s_step (g_getI (iRow iCX4_isLike_0 1 rfl) f4_7 ko_5) ?_
  refine s_step (g_aload_n (iRow iCX4_isLike_0 2 rfl) rfl rfl) ?_
  refine s_step (g_getI (iRow iCX4_isLike_0 3 rfl) f4_7 ko_5) ?_
  refine s_ifn (g_icmp_ne (tgt := 48) (iRow iCX4_isLike_0 4 rfl) (by decide)) (fun _ => ?_) (fun _ => ?_)
  · refine s_step (g_aload_n (iRow iCX4_isLike_0 5 rfl) rfl rfl) ?_
    refine s_step (g_getI (iRow iCX4_isLike_0 6 rfl) f4_13 ko_5) ?_
    refine s_step (g_aload_n (iRow iCX4_isLike_0 7 rfl) rfl rfl) ?_
    refine s_step (g_getI (iRow iCX4_isLike_0 8 rfl) f4_13 ko_5) ?_
    refine s_ifn (g_icmp_ne (tgt := 48) (iRow iCX4_isLike_0 9 rfl) (by decide)) (fun _ => ?_) (fun _ => ?_)
    · refine s_step (g_aload_n (iRow iCX4_isLike_0 10 rfl) rfl rfl) ?_
      refine s_step (g_getI (iRow iCX4_isLike_0 11 rfl) f4_16 ko_5) ?_
      refine s_step (g_aload_n (iRow iCX4_isLike_0 12 rfl) rfl rfl) ?_
      refine s_step (g_getI (iRow iCX4_isLike_0 13 rfl) f4_16 ko_5) ?_
      refine s_ifn (g_icmp_ne (tgt := 48) (iRow iCX4_isLike_0 14 rfl) (by decide)) (fun _ => ?_) (fun _ => ?_)
      · refine s_step (g_aload_n (iRow iCX4_isLike_0 15 rfl) rfl rfl) ?_
        refine s_step (g_getI (iRow iCX4_isLike_0 16 rfl) f4_19 ko_5) ?_
        refine s_step (g_aload_n (iRow iCX4_isLike_0 17 rfl) rfl rfl) ?_
        refine s_step (g_getI (iRow iCX4_isLike_0 18 rfl) f4_19 ko_5) ?_
        refine s_ifn (g_icmp_ne (tgt := 48) (iRow iCX4_isLike_0 19 rfl) (by decide)) (fun _ => ?_) (fun _ => ?_)
        · refine s_step (g_iconst (iRow iCX4_isLike_0 20 rfl) kc_1) ?_
          refine s_step (g_goto (tgt := 49) (iRow iCX4_isLike_0 21 rfl) (by decide)) ?_
          exact s_retz (b := true) (iRow iCX4_isLike_0 23 rfl) rfl rfl
        · refine s_step (g_iconst (iRow iCX4_isLike_0 22 rfl) kc_0) ?_
          exact s_retz (b := false) (iRow iCX4_isLike_0 23 rfl) rfl rfl
      · refine s_step (g_iconst (iRow iCX4_isLike_0 22 rfl) kc_0) ?_
        exact s_retz (b := false) (iRow iCX4_isLike_0 23 rfl) rfl rfl
    · refine s_step (g_iconst (iRow iCX4_isLike_0 22 rfl) kc_0) ?_
      exact s_retz (b := false) (iRow iCX4_isLike_0 23 rfl) rfl rfl
  · refine s_step (g_iconst (iRow iCX4_isLike_0 22 rfl) kc_0) ?_
    exact s_retz (b := false) (iRow iCX4_isLike_0 23 rfl) rfl rfl
abbrev YX10_look : mY := (RX10, "look", cX10_look, 3, none, none)
set_option maxHeartbeats 400000 in
set_option maxRecDepth 20000 in
theorem t_X10_look {G : mg} {F : Nat} {a1 : Nat} {a2 : Nat} {M : mm} {M' : mm} (d : Nat) (h : m_X10_look F a1 a2 M = some M') : CM G yX10_look cX10_look 3 none (d + 1) [vR 11 0, vR 1 a1, vR 5 a2] M none M' := by
  refine ct_v (ls := [some (vR 11 0), some (vR 1 a1), some (vR 5 a2)]) rfl rfl (Nat.le_of_ble_eq_true rfl) (fun Z => ?_) h
  show SW G (d + 1) YX10_look Z 0 [some (vR 11 0), some (vR 1 a1), some (vR 5 a2)] [] M _ _
  unfold m_X10_look
  refine s_step (g_aload_n (iRow iCX10_look_0 0 rfl) rfl rfl) ?_
  refine s_step (g_getZ (iRow iCX10_look_0 1 rfl) f10_45 ko_11) ?_
  refine s_nj 19 (fun z => [some (vR 11 0), some (vR 1 a1), some (vR 5 a2)]) (fun z => []) (fun z => z) ?_ (fun j19 hj19 => ?_)
  · rintro M3
    show SW G (d + 1) YX10_look Z 19 [some (vR 11 0), some (vR 1 a1), some (vR 5 a2)] [] M3 _ _
    try dsimp only
    refine s_step (g_aload_n (iRow iCX10_look_0 9 rfl) rfl rfl) ?_
    refine s_step (g_iconst (iRow iCX10_look_0 10 rfl) kc_1) ?_
    refine s_step (g_putZ (iRow iCX10_look_0 11 rfl) f10_45 (Or.inl rfl) ko_11 (by decide)) ?_
    refine s_nmM (fun M4 => ?_)
    refine s_step (g_aload_n (iRow iCX10_look_0 12 rfl) rfl rfl) ?_
    refine s_step (g_dup (iRow iCX10_look_0 13 rfl) rfl) ?_
    refine s_step (g_getI (iRow iCX10_look_0 14 rfl) f10_53 ko_11) ?_
    refine s_step (g_iconst (iRow iCX10_look_0 15 rfl) kc_1) ?_
    refine s_step (g_iadd (iRow iCX10_look_0 16 rfl)) ?_
    refine s_step (g_putI (iRow iCX10_look_0 17 rfl) f10_53 (Or.inl rfl) ko_11) ?_
    refine s_nmM (fun M5 => ?_)
    refine s_step (g_aload_n (iRow iCX10_look_0 18 rfl) rfl rfl) ?_
    refine s_step (g_aload_n (iRow iCX10_look_0 19 rfl) rfl rfl) ?_
    refine s_step (g_putR (r := a1) (iRow iCX10_look_0 20 rfl) f10_41 (Or.inl rfl) ko_11 (r_11_1 _ _)) ?_
    refine s_nmM (fun M6 => ?_)
    refine s_step (g_aload_n (iRow iCX10_look_0 21 rfl) rfl rfl) ?_
    refine s_step (g_getR (iRow iCX10_look_0 22 rfl) f10_12 ko_11 (r_11_2 _ _)) ?_
    refine s_step (g_aload_n (iRow iCX10_look_0 23 rfl) rfl rfl) ?_
    refine s_cv (stA := []) (fun _ h => h_V (As := [_]) (iRow iCX10_look_1 0 rfl) l10_57 iX4_copy ko_5 rfl rfl rfl rfl (t_X4_copy (d + 0) h) rfl (by omega) (by decide) (Nat.le_of_ble_eq_true rfl)) (fun M7 => ?_)
    refine s_step (g_aload_n (iRow iCX10_look_1 1 rfl) rfl rfl) ?_
    refine s_step (g_iconst (iRow iCX10_look_1 2 rfl) kc_1) ?_
    refine s_step (g_aload_n (iRow iCX10_look_1 3 rfl) rfl rfl) ?_
    refine s_step (g_getR (iRow iCX10_look_1 4 rfl) f10_41 ko_11 (r_11_1 _ _)) ?_
    refine s_step (g_getI (iRow iCX10_look_1 5 rfl) f10_61 ko_1) ?_
    refine s_step (g_ishl (iRow iCX10_look_1 6 rfl)) ?_
    refine s_step (g_iconst (iRow iCX10_look_1 7 rfl) kc_1) ?_
    refine s_step (g_isub (iRow iCX10_look_1 8 rfl)) ?_
    refine s_step (g_aload_n (iRow iCX10_look_1 9 rfl) rfl rfl) ?_
    refine s_step (g_getR (iRow iCX10_look_1 10 rfl) f10_41 ko_11 (r_11_1 _ _)) ?_
    refine s_step (g_getI (iRow iCX10_look_1 11 rfl) f10_66 ko_1) ?_
    refine s_step (g_iconst (iRow iCX10_look_1 12 rfl) kc_m1) ?_
    refine s_step (g_ixor (iRow iCX10_look_1 13 rfl)) ?_
    refine s_step (g_iand (iRow iCX10_look_1 14 rfl)) ?_
    refine s_step (g_aload_n (iRow iCX10_look_1 15 rfl) rfl rfl) ?_
    refine s_step (g_getI (iRow iCX10_look_1 16 rfl) f10_69 ko_5) ?_
    refine s_step (g_iconst (iRow iCX10_look_1 17 rfl) kc_m1) ?_
    refine s_step (g_ixor (iRow iCX10_look_1 18 rfl)) ?_
    refine s_step (g_iand (iRow iCX10_look_1 19 rfl)) ?_
    refine s_step (g_putI (iRow iCX10_look_1 20 rfl) f10_72 (Or.inl rfl) ko_11) ?_
    refine s_nmM (fun M8 => ?_)
    exact s_retv (iRow iCX10_look_1 21 rfl) rfl
  · refine s_if (g_if_eq (tgt := 19) (iRow iCX10_look_0 2 rfl) (by decide)) (fun _ => ?_) (fun _ => ?_)
    · exact hj19 _
    · refine s_step (g_aload_n (iRow iCX10_look_0 3 rfl) rfl rfl) ?_
      refine s_step (g_getR (iRow iCX10_look_0 4 rfl) f10_12 ko_11 (r_11_2 _ _)) ?_
      refine s_step (g_aload_n (iRow iCX10_look_0 5 rfl) rfl rfl) ?_
      refine s_cb (sf := fun b => vI (bI b) :: []) (fun _ _ h => h_V (As := [_]) (iRow iCX10_look_0 6 rfl) l10_49 iX4_isLike ko_5 rfl rfl rfl rfl (t_X4_isLike (d + 0) h) rfl (by omega) (by decide) (Nat.le_of_ble_eq_true rfl)) (fun b2 M1 => ?_)
      refine s_ifeqb (g_if_eq (tgt := 19) (iRow iCX10_look_0 7 rfl) (by decide)) (fun _ => ?_) (fun _ => ?_)
      · exact s_retv (iRow iCX10_look_0 8 rfl) rfl
      · exact hj19 _
abbrev YX10_upIf : mY := (RX10, "upIf", cX10_upIf, 3, (some .int), none)
set_option maxHeartbeats 400000 in
set_option maxRecDepth 20000 in
theorem t_X10_upIf {G : mg} {F : Nat} {a1 : Int32} {M : mm} {x : Int32} {M' : mm} (d : Nat) (h : m_X10_upIf F a1 M = some (x, M')) : CM G yX10_upIf cX10_upIf 3 (some .int) (d + 4) [vR 11 0, vI a1] M (some (vI x)) M' := by
  refine ct_i (ls := [some (vR 11 0), some (vI a1), none]) rfl rfl (Nat.le_of_ble_eq_true rfl) (fun Z => ?_) h
  show SW G (d + 4) YX10_upIf Z 0 [some (vR 11 0), some (vI a1), none] [] M _ _
  unfold m_X10_upIf
  refine s_step (g_iload_n (iRow iCX10_upIf_0 0 rfl) rfl rfl) ?_
  refine s_step (g_aload_n (iRow iCX10_upIf_0 1 rfl) rfl rfl) ?_
  refine s_step (g_getI (iRow iCX10_upIf_0 2 rfl) f10_72 ko_11) ?_
  refine s_step (g_iand (iRow iCX10_upIf_0 3 rfl)) ?_
  refine s_nmI (fun x1 => ?_)
  refine s_step (g_istore_n (ls' := [some (vR 11 0), some (vI a1), some (vI x1)]) (iRow iCX10_upIf_0 4 rfl) rfl (by decide) rfl) ?_
  refine s_step (g_aload_n (iRow iCX10_upIf_0 5 rfl) rfl rfl) ?_
  refine s_step (g_getR (iRow iCX10_upIf_0 6 rfl) f10_25 ko_11 (r_11_5 _ _)) ?_
  refine s_step (g_iload_n (iRow iCX10_upIf_0 7 rfl) rfl rfl) ?_
  refine s_gi (fun h => g_iald (iRow iCX10_upIf_0 8 rfl) kn_56 ka_56 h) ?_
  refine s_step (g_aload_n (iRow iCX10_upIf_0 9 rfl) rfl rfl) ?_
  refine s_step (g_getI (iRow iCX10_upIf_0 10 rfl) f10_53 ko_11) ?_
  refine s_bd (fun z => LM G (d + 4) YX10_upIf Z 82 [some (vR 11 0), none, some (vI x1)] [] z) ?_ ?_
  · refine s_if (g_icmp_eq (tgt := 82) (iRow iCX10_upIf_0 11 rfl) (by decide)) (fun _ => ?_) (fun _ => ?_)
    · refine s_step (g_keep [true, false, true] rfl) ?_
      exact s_end (fun h => h)
    · refine s_step (g_aload_n (iRow iCX10_upIf_0 12 rfl) rfl rfl) ?_
      refine s_step (g_getR (iRow iCX10_upIf_0 13 rfl) f10_18 ko_11 (r_11_3 _ _)) ?_
      refine s_step (g_aload_n (iRow iCX10_upIf_0 14 rfl) rfl rfl) ?_
      refine s_step (g_getR (iRow iCX10_upIf_0 15 rfl) f10_12 ko_11 (r_11_2 _ _)) ?_
      refine s_cv (stA := []) (fun _ h => h_V (As := [_]) (iRow iCX10_upIf_0 16 rfl) l10_57 iX4_copy ko_5 rfl rfl rfl rfl (t_X4_copy (d + 3) h) rfl (by omega) (by decide) (Nat.le_of_ble_eq_true rfl)) (fun M2 => ?_)
      refine s_step (g_aload_n (iRow iCX10_upIf_0 17 rfl) rfl rfl) ?_
      refine s_step (g_getR (iRow iCX10_upIf_0 18 rfl) f10_18 ko_11 (r_11_3 _ _)) ?_
      refine s_step (g_dup (iRow iCX10_upIf_0 19 rfl) rfl) ?_
      refine s_step (g_getI (iRow iCX10_upIf_0 20 rfl) f10_69 ko_5) ?_
      refine s_step (g_iload_n (iRow iCX10_upIf_0 21 rfl) rfl rfl) ?_
      refine s_step (g_ior (iRow iCX10_upIf_0 22 rfl)) ?_
      refine s_step (g_putI (iRow iCX10_upIf_0 23 rfl) f10_69 (Or.inl rfl) ko_5) ?_
      refine s_nmM (fun M3 => ?_)
      refine s_step (g_aload_n (iRow iCX10_upIf_1 0 rfl) rfl rfl) ?_
      refine s_step (g_getR (iRow iCX10_upIf_1 1 rfl) f10_21 ko_11 (r_11_4 _ _)) ?_
      refine s_step (g_iload_n (iRow iCX10_upIf_1 2 rfl) rfl rfl) ?_
      refine s_step (g_aload_n (iRow iCX10_upIf_1 3 rfl) rfl rfl) ?_
      refine s_step (g_getR (iRow iCX10_upIf_1 4 rfl) f10_37 ko_11 (r_11_0 _ _)) ?_
      refine s_step (g_aload_n (iRow iCX10_upIf_1 5 rfl) rfl rfl) ?_
      refine s_step (g_getR (iRow iCX10_upIf_1 6 rfl) f10_41 ko_11 (r_11_1 _ _)) ?_
      refine s_step (g_aload_n (iRow iCX10_upIf_1 7 rfl) rfl rfl) ?_
      refine s_step (g_getR (iRow iCX10_upIf_1 8 rfl) f10_18 ko_11 (r_11_3 _ _)) ?_
      refine s_step (g_aload_n (iRow iCX10_upIf_1 9 rfl) rfl rfl) ?_
      refine s_step (g_getR (iRow iCX10_upIf_1 10 rfl) f10_12 ko_11 (r_11_2 _ _)) ?_
      refine s_step (g_getI (iRow iCX10_upIf_1 11 rfl) f10_75 ko_5) ?_
      refine s_cl (sf := fun x => vI x :: [vI x1, vR 55 0]) (fun _ _ h => h_V (As := [_, _, _]) (iRow iCX10_upIf_1 12 rfl) l10_78 iX9_standing ko_10 rfl rfl rfl rfl (t_X9_standing (d + 0) h) rfl (by omega) (by decide) (Nat.le_of_ble_eq_true rfl)) (fun x5 M4 => ?_)
      refine s_gi (fun h => g_iast (iRow iCX10_upIf_1 13 rfl) kn_55 ka_55 h) ?_
      refine s_nmM (fun M6 => ?_)
      refine s_step (g_aload_n (iRow iCX10_upIf_1 14 rfl) rfl rfl) ?_
      refine s_step (g_getR (iRow iCX10_upIf_1 15 rfl) f10_25 ko_11 (r_11_5 _ _)) ?_
      refine s_step (g_iload_n (iRow iCX10_upIf_1 16 rfl) rfl rfl) ?_
      refine s_step (g_aload_n (iRow iCX10_upIf_1 17 rfl) rfl rfl) ?_
      refine s_step (g_getI (iRow iCX10_upIf_1 18 rfl) f10_53 ko_11) ?_
      refine s_gi (fun h => g_iast (iRow iCX10_upIf_1 19 rfl) kn_56 ka_56 h) ?_
      refine s_nmM (fun M7 => ?_)
      refine s_step (g_keep [true, false, true] rfl) ?_
      exact s_end (fun h => h)
  · rintro M8
    show SW G (d + 4) YX10_upIf Z 82 [some (vR 11 0), none, some (vI x1)] [] M8 _ _
    try dsimp only
    refine s_step (g_aload_n (iRow iCX10_upIf_1 20 rfl) rfl rfl) ?_
    refine s_step (g_getR (iRow iCX10_upIf_1 21 rfl) f10_21 ko_11 (r_11_4 _ _)) ?_
    refine s_step (g_iload_n (iRow iCX10_upIf_1 22 rfl) rfl rfl) ?_
    refine s_gi (fun h => g_iald (iRow iCX10_upIf_1 23 rfl) kn_55 ka_55 h) ?_
    exact s_reti (iRow iCX10_upIf_2 0 rfl) rfl
abbrev YX11_stands : mY := (RX11, "stands", cX11_stands, 2, (some .int), none)
set_option maxHeartbeats 400000 in
set_option maxRecDepth 20000 in
theorem t_X11_stands {G : mg} {F : Nat} {a1 : Int32} {M : mm} {x : Int32} {M' : mm} (d : Nat) (h : m_X11_stands F a1 M = some (x, M')) : CM G yX11_stands cX11_stands 2 (some .int) (d + 5) [vR 12 0, vI a1] M (some (vI x)) M' := by
  refine ct_i (ls := [some (vR 12 0), some (vI a1)]) rfl rfl (Nat.le_of_ble_eq_true rfl) (fun Z => ?_) h
  show SW G (d + 5) YX11_stands Z 0 [some (vR 12 0), some (vI a1)] [] M _ _
  unfold m_X11_stands
  refine s_step (g_iload_n (iRow iCX11_stands_0 0 rfl) rfl rfl) ?_
  refine s_if (g_if_lt (tgt := 17) (iRow iCX11_stands_0 1 rfl) (by decide)) (fun _ => ?_) (fun _ => ?_)
  · refine s_step (g_iconst (iRow iCX11_stands_0 9 rfl) kc_m1) ?_
    exact s_reti (iRow iCX11_stands_0 10 rfl) rfl
  · refine s_step (g_iload_n (iRow iCX11_stands_0 2 rfl) rfl rfl) ?_
    refine s_step (g_iconst (iRow iCX11_stands_0 3 rfl) kc_1) ?_
    refine s_step (g_aload_n (iRow iCX11_stands_0 4 rfl) rfl rfl) ?_
    refine s_step (g_getR (iRow iCX11_stands_0 5 rfl) f11_10 ko_12 (r_12_6 _ _)) ?_
    refine s_step (g_getI (iRow iCX11_stands_0 6 rfl) f11_241 ko_1) ?_
    refine s_step (g_ishl (iRow iCX11_stands_0 7 rfl)) ?_
    refine s_if (g_icmp_lt (tgt := 19) (iRow iCX11_stands_0 8 rfl) (by decide)) (fun _ => ?_) (fun _ => ?_)
    · refine s_step (g_aload_n (iRow iCX11_stands_0 11 rfl) rfl rfl) ?_
      refine s_step (g_getR (iRow iCX11_stands_0 12 rfl) f11_66 ko_12 (r_12_4 _ _)) ?_
      refine s_step (g_aload_n (iRow iCX11_stands_0 13 rfl) rfl rfl) ?_
      refine s_step (g_getR (iRow iCX11_stands_0 14 rfl) f11_10 ko_12 (r_12_6 _ _)) ?_
      refine s_step (g_aload_n (iRow iCX11_stands_0 15 rfl) rfl rfl) ?_
      refine s_step (g_getR (iRow iCX11_stands_0 16 rfl) f11_82 ko_12 (r_12_8 _ _)) ?_
      refine s_cv (stA := []) (fun _ h => h_V (As := [_, _]) (iRow iCX11_stands_0 17 rfl) l11_244 iX10_look ko_11 rfl rfl rfl rfl (t_X10_look (d + 3) h) rfl (by omega) (by decide) (Nat.le_of_ble_eq_true rfl)) (fun M1 => ?_)
      refine s_step (g_aload_n (iRow iCX11_stands_0 18 rfl) rfl rfl) ?_
      refine s_step (g_getR (iRow iCX11_stands_0 19 rfl) f11_66 ko_12 (r_12_4 _ _)) ?_
      refine s_step (g_iload_n (iRow iCX11_stands_0 20 rfl) rfl rfl) ?_
      refine s_cl (sf := fun x => vI x :: []) (fun _ _ h => h_V (As := [_]) (iRow iCX11_stands_0 21 rfl) l11_247 iX10_upIf ko_11 rfl rfl rfl rfl (t_X10_upIf (d + 0) h) rfl (by omega) (by decide) (Nat.le_of_ble_eq_true rfl)) (fun x3 M2 => ?_)
      exact s_reti (iRow iCX11_stands_0 22 rfl) rfl
    · refine s_step (g_iconst (iRow iCX11_stands_0 9 rfl) kc_m1) ?_
      exact s_reti (iRow iCX11_stands_0 10 rfl) rfl
abbrev YX11_isUp : mY := (RX11, "isUp", cX11_isUp, 2, (some .boolean), none)
set_option maxHeartbeats 400000 in
set_option maxRecDepth 20000 in
theorem t_X11_isUp {G : mg} {F : Nat} {a1 : Int32} {M : mm} {x : Bool} {M' : mm} (d : Nat) (h : m_X11_isUp F a1 M = some (x, M')) : CM G yX11_isUp cX11_isUp 2 (some .boolean) (d + 1) [vR 12 0, vI a1] M (some (vI (bI x))) M' := by
  refine ct_z (ls := [some (vR 12 0), some (vI a1)]) rfl rfl (Nat.le_of_ble_eq_true rfl) (fun Z => ?_) h
  show SW G (d + 1) YX11_isUp Z 0 [some (vR 12 0), some (vI a1)] [] M _ _
  unfold m_X11_isUp
  refine s_step (g_aload_n (iRow iCX11_isUp_0 0 rfl) rfl rfl) ?_
  refine s_step (g_getR (iRow iCX11_isUp_0 1 rfl) f11_10 ko_12 (r_12_6 _ _)) ?_
  refine s_step (g_iload_n (iRow iCX11_isUp_0 2 rfl) rfl rfl) ?_
  refine s_cb (sf := fun b => vI (bI b) :: []) (fun _ _ h => h_V (As := [_]) (iRow iCX11_isUp_0 3 rfl) l11_179 iX0_hasStone ko_1 rfl rfl rfl rfl (t_X0_hasStone (d + 0) h) rfl (by omega) (by decide) (Nat.le_of_ble_eq_true rfl)) (fun b2 M1 => ?_)
  refine s_ifeqb (g_if_eq (tgt := 29) (iRow iCX11_isUp_0 4 rfl) (by decide)) (fun _ => ?_) (fun _ => ?_)
  · refine s_step (g_aload_n (iRow iCX11_isUp_0 5 rfl) rfl rfl) ?_
    refine s_step (g_getR (iRow iCX11_isUp_0 6 rfl) f11_82 ko_12 (r_12_8 _ _)) ?_
    refine s_step (g_getI (iRow iCX11_isUp_0 7 rfl) f11_188 ko_5) ?_
    refine s_step (g_iload_n (iRow iCX11_isUp_0 8 rfl) rfl rfl) ?_
    refine s_step (g_ishr (iRow iCX11_isUp_0 9 rfl)) ?_
    refine s_step (g_iconst (iRow iCX11_isUp_0 10 rfl) kc_1) ?_
    refine s_step (g_iand (iRow iCX11_isUp_0 11 rfl)) ?_
    refine s_if (g_if_eq (tgt := 29) (iRow iCX11_isUp_0 12 rfl) (by decide)) (fun _ => ?_) (fun _ => ?_)
    · refine s_step (g_iconst (iRow iCX11_isUp_0 15 rfl) kc_0) ?_
      exact s_retz (b := false) (iRow iCX11_isUp_0 16 rfl) rfl rfl
    · refine s_step (g_iconst (iRow iCX11_isUp_0 13 rfl) kc_1) ?_
      refine s_step (g_goto (tgt := 30) (iRow iCX11_isUp_0 14 rfl) (by decide)) ?_
      exact s_retz (b := true) (iRow iCX11_isUp_0 16 rfl) rfl rfl
  · refine s_step (g_iconst (iRow iCX11_isUp_0 15 rfl) kc_0) ?_
    exact s_retz (b := false) (iRow iCX11_isUp_0 16 rfl) rfl rfl
abbrev YX10_canBreak : mY := (RX10, "canBreak", cX10_canBreak, 2, (some .boolean), none)
set_option maxHeartbeats 400000 in
set_option maxRecDepth 20000 in
theorem t_X10_canBreak {G : mg} {F : Nat} {a1 : Int32} {M : mm} {x : Bool} {M' : mm} (d : Nat) (h : m_X10_canBreak F a1 M = some (x, M')) : CM G yX10_canBreak cX10_canBreak 2 (some .boolean) (d + 0) [vR 11 0, vI a1] M (some (vI (bI x))) M' := by
  refine ct_z (ls := [some (vR 11 0), some (vI a1)]) rfl rfl (Nat.le_of_ble_eq_true rfl) (fun Z => ?_) h
  show SW G (d + 0) YX10_canBreak Z 0 [some (vR 11 0), some (vI a1)] [] M _ _
  unfold m_X10_canBreak
  refine s_step (g_iload_n (iRow iCX10_canBreak_0 0 rfl) rfl rfl) ?_
  refine s_step (g_aload_n (iRow iCX10_canBreak_0 1 rfl) rfl rfl) ?_
  refine s_step (g_getI (iRow iCX10_canBreak_0 2 rfl) f10_72 ko_11) ?_
  refine s_step (g_iconst (iRow iCX10_canBreak_0 3 rfl) kc_m1) ?_
  refine s_step (g_ixor (iRow iCX10_canBreak_0 4 rfl)) ?_
  refine s_step (g_iand (iRow iCX10_canBreak_0 5 rfl)) ?_
  refine s_ifn (g_if_ne (tgt := 15) (iRow iCX10_canBreak_0 6 rfl) (by decide)) (fun _ => ?_) (fun _ => ?_)
  · refine s_step (g_iconst (iRow iCX10_canBreak_0 7 rfl) kc_1) ?_
    refine s_step (g_goto (tgt := 16) (iRow iCX10_canBreak_0 8 rfl) (by decide)) ?_
    exact s_retz (b := true) (iRow iCX10_canBreak_0 10 rfl) rfl rfl
  · refine s_step (g_iconst (iRow iCX10_canBreak_0 9 rfl) kc_0) ?_
    exact s_retz (b := false) (iRow iCX10_canBreak_0 10 rfl) rfl rfl
abbrev YJ6_bitCount_0f7a4 : mY := ("java/lang/Integer", "bitCount", cJ6_bitCount_0f7a4, 1, (some .int), none)
set_option maxHeartbeats 400000 in
set_option maxRecDepth 20000 in
theorem t_J6_bitCount_0f7a4 {G : mg} {F : Nat} {a1 : Int32} {M : mm} {x : Int32} {M' : mm} (d : Nat) (h : m_J6_bitCount_0f7a4 F a1 M = some (x, M')) : CM G yJ6_bitCount_0f7a4 cJ6_bitCount_0f7a4 1 (some .int) (d + 0) [vI a1] M (some (vI x)) M' := by
  refine ct_i (ls := [some (vI a1)]) rfl rfl (Nat.le_of_ble_eq_true rfl) (fun Z => ?_) h
  show SW G (d + 0) YJ6_bitCount_0f7a4 Z 0 [some (vI a1)] [] M _ _
  unfold m_J6_bitCount_0f7a4
  refine s_step (g_iload_n (iRow iCJ6_bitCount_0f7a4_0 0 rfl) rfl rfl) ?_
  refine s_step (g_iload_n (iRow iCJ6_bitCount_0f7a4_0 1 rfl) rfl rfl) ?_
  refine s_step (g_iconst (iRow iCJ6_bitCount_0f7a4_0 2 rfl) kc_1) ?_
  refine s_step (g_iushr (iRow iCJ6_bitCount_0f7a4_0 3 rfl) rfl) ?_
  refine s_step (g_ldcw (iRow iCJ6_bitCount_0f7a4_0 4 rfl) kJ6_265) ?_
  refine s_step (g_iand (iRow iCJ6_bitCount_0f7a4_0 5 rfl)) ?_
  refine s_step (g_isub (iRow iCJ6_bitCount_0f7a4_0 6 rfl)) ?_
  refine s_nmI (fun x1 => ?_)
  refine s_step (g_istore_n (ls' := [some (vI x1)]) (iRow iCJ6_bitCount_0f7a4_0 7 rfl) rfl (by decide) rfl) ?_
  refine s_step (g_iload_n (iRow iCJ6_bitCount_0f7a4_0 8 rfl) rfl rfl) ?_
  refine s_step (g_ldcw (iRow iCJ6_bitCount_0f7a4_0 9 rfl) kJ6_266) ?_
  refine s_step (g_iand (iRow iCJ6_bitCount_0f7a4_0 10 rfl)) ?_
  refine s_step (g_iload_n (iRow iCJ6_bitCount_0f7a4_0 11 rfl) rfl rfl) ?_
  refine s_step (g_iconst (iRow iCJ6_bitCount_0f7a4_0 12 rfl) kc_2) ?_
  refine s_step (g_iushr (iRow iCJ6_bitCount_0f7a4_0 13 rfl) rfl) ?_
  refine s_step (g_ldcw (iRow iCJ6_bitCount_0f7a4_0 14 rfl) kJ6_266) ?_
  refine s_step (g_iand (iRow iCJ6_bitCount_0f7a4_0 15 rfl)) ?_
  refine s_step (g_iadd (iRow iCJ6_bitCount_0f7a4_0 16 rfl)) ?_
  refine s_nmI (fun x2 => ?_)
  refine s_step (g_istore_n (ls' := [some (vI x2)]) (iRow iCJ6_bitCount_0f7a4_0 17 rfl) rfl (by decide) rfl) ?_
  refine s_step (g_iload_n (iRow iCJ6_bitCount_0f7a4_0 18 rfl) rfl rfl) ?_
  refine s_step (g_iload_n (iRow iCJ6_bitCount_0f7a4_0 19 rfl) rfl rfl) ?_
  refine s_step (g_iconst (iRow iCJ6_bitCount_0f7a4_0 20 rfl) kc_4) ?_
  refine s_step (g_iushr (iRow iCJ6_bitCount_0f7a4_0 21 rfl) rfl) ?_
  refine s_step (g_iadd (iRow iCJ6_bitCount_0f7a4_0 22 rfl)) ?_
  refine s_step (g_ldcw (iRow iCJ6_bitCount_0f7a4_0 23 rfl) kJ6_267) ?_
  refine s_step (g_iand (iRow iCJ6_bitCount_0f7a4_1 0 rfl)) ?_
  refine s_nmI (fun x3 => ?_)
  refine s_step (g_istore_n (ls' := [some (vI x3)]) (iRow iCJ6_bitCount_0f7a4_1 1 rfl) rfl (by decide) rfl) ?_
  refine s_step (g_iload_n (iRow iCJ6_bitCount_0f7a4_1 2 rfl) rfl rfl) ?_
  refine s_step (g_iload_n (iRow iCJ6_bitCount_0f7a4_1 3 rfl) rfl rfl) ?_
  refine s_step (g_bipush (iRow iCJ6_bitCount_0f7a4_1 4 rfl) kb_8) ?_
  refine s_step (g_iushr (iRow iCJ6_bitCount_0f7a4_1 5 rfl) rfl) ?_
  refine s_step (g_iadd (iRow iCJ6_bitCount_0f7a4_1 6 rfl)) ?_
  refine s_nmI (fun x4 => ?_)
  refine s_step (g_istore_n (ls' := [some (vI x4)]) (iRow iCJ6_bitCount_0f7a4_1 7 rfl) rfl (by decide) rfl) ?_
  refine s_step (g_iload_n (iRow iCJ6_bitCount_0f7a4_1 8 rfl) rfl rfl) ?_
  refine s_step (g_iload_n (iRow iCJ6_bitCount_0f7a4_1 9 rfl) rfl rfl) ?_
  refine s_step (g_bipush (iRow iCJ6_bitCount_0f7a4_1 10 rfl) kb_16) ?_
  refine s_step (g_iushr (iRow iCJ6_bitCount_0f7a4_1 11 rfl) rfl) ?_
  refine s_step (g_iadd (iRow iCJ6_bitCount_0f7a4_1 12 rfl)) ?_
  refine s_nmI (fun x5 => ?_)
  refine s_step (g_istore_n (ls' := [some (vI x5)]) (iRow iCJ6_bitCount_0f7a4_1 13 rfl) rfl (by decide) rfl) ?_
  refine s_step (g_iload_n (iRow iCJ6_bitCount_0f7a4_1 14 rfl) rfl rfl) ?_
  refine s_step (g_bipush (iRow iCJ6_bitCount_0f7a4_1 15 rfl) kb_63) ?_
  refine s_step (g_iand (iRow iCJ6_bitCount_0f7a4_1 16 rfl)) ?_
  exact s_reti (iRow iCJ6_bitCount_0f7a4_1 17 rfl) rfl
abbrev YX10_fewestAgainst : mY := (RX10, "fewestAgainst", cX10_fewestAgainst, 4, (some .int), none)
set_option maxHeartbeats 400000 in
set_option maxRecDepth 20000 in
theorem t_X10_fewestAgainst {G : mg} {F : Nat} {a1 : Int32} {M : mm} {x : Int32} {M' : mm} (d : Nat) (h : m_X10_fewestAgainst F a1 M = some (x, M')) : CM G yX10_fewestAgainst cX10_fewestAgainst 4 (some .int) (d + 5) [vR 11 0, vI a1] M (some (vI x)) M' := by
  refine ct_i (ls := [some (vR 11 0), some (vI a1), none, none]) rfl rfl (Nat.le_of_ble_eq_true rfl) (fun Z => ?_) h
  show SW G (d + 5) YX10_fewestAgainst Z 0 [some (vR 11 0), some (vI a1), none, none] [] M _ _
  unfold m_X10_fewestAgainst
  refine s_step (g_iconst (iRow iCX10_fewestAgainst_0 0 rfl) kc_1) ?_
  refine s_step (g_istore_n (ls' := [some (vR 11 0), some (vI a1), some (vI (1 : Int32)), none]) (iRow iCX10_fewestAgainst_0 1 rfl) rfl (by decide) rfl) ?_
  refine s_lp (fun z => [some (vR 11 0), some (vI a1), some (vI (z.1)), none]) (fun z => z.2) (Sum.elim (fun z => LM G (d + 5) YX10_fewestAgainst Z 56 [none, none, none, some (vI (z.1))] [] z.2) (fun z => LM G (d + 5) YX10_fewestAgainst Z 70 [none, none, none, none] [] z)) rfl rfl ?_ ?_
  · rintro ⟨x1, M2⟩
    show SW G (d + 5) YX10_fewestAgainst Z 2 [some (vR 11 0), some (vI a1), some (vI x1), none] [] M2 (b_X10_fewestAgainst_1c F a1 x1 M2) _
    unfold b_X10_fewestAgainst_1c
    refine s_step (g_iload_n (iRow iCX10_fewestAgainst_0 2 rfl) rfl rfl) ?_
    refine s_step (g_aload_n (iRow iCX10_fewestAgainst_0 3 rfl) rfl rfl) ?_
    refine s_step (g_getR (iRow iCX10_fewestAgainst_0 4 rfl) f10_41 ko_11 (r_11_1 _ _)) ?_
    refine s_step (g_getI (iRow iCX10_fewestAgainst_0 5 rfl) f10_61 ko_1) ?_
    refine s_if (g_icmp_gt (tgt := 70) (iRow iCX10_fewestAgainst_0 6 rfl) (by decide)) (fun _ => ?_) (fun _ => ?_)
    · refine s_step (g_keep [false, false, false, false] rfl) ?_
      exact s_end (fun h => h)
    · refine s_step (g_iconst (iRow iCX10_fewestAgainst_0 7 rfl) kc_1) ?_
      refine s_step (g_istore_n (ls' := [some (vR 11 0), some (vI a1), some (vI x1), some (vI (1 : Int32))]) (iRow iCX10_fewestAgainst_0 8 rfl) rfl (by decide) rfl) ?_
      refine s_lp (fun z => [some (vR 11 0), some (vI a1), some (vI x1), some (vI (z.1))]) (fun z => z.2) (Sum.elim (fun z => LM G (d + 5) YX10_fewestAgainst Z 56 [none, none, none, some (vI (z.1))] [] z.2) (fun z => LM G (d + 5) YX10_fewestAgainst Z 64 [some (vR 11 0), some (vI a1), some (vI x1), none] [] z)) rfl rfl ?_ ?_
      · rintro ⟨x3, M4⟩
        show SW G (d + 5) YX10_fewestAgainst Z 15 [some (vR 11 0), some (vI a1), some (vI x1), some (vI x3)] [] M4 (b_X10_fewestAgainst_2c F a1 x1 x3 M4) _
        unfold b_X10_fewestAgainst_2c
        refine s_step (g_iload_n (iRow iCX10_fewestAgainst_0 9 rfl) rfl rfl) ?_
        refine s_step (g_iconst (iRow iCX10_fewestAgainst_0 10 rfl) kc_1) ?_
        refine s_step (g_aload_n (iRow iCX10_fewestAgainst_0 11 rfl) rfl rfl) ?_
        refine s_step (g_getR (iRow iCX10_fewestAgainst_0 12 rfl) f10_41 ko_11 (r_11_1 _ _)) ?_
        refine s_step (g_getI (iRow iCX10_fewestAgainst_0 13 rfl) f10_61 ko_1) ?_
        refine s_step (g_ishl (iRow iCX10_fewestAgainst_0 14 rfl)) ?_
        refine s_if (g_icmp_ge (tgt := 64) (iRow iCX10_fewestAgainst_0 15 rfl) (by decide)) (fun _ => ?_) (fun _ => ?_)
        · refine s_step (g_keep [true, true, true, false] rfl) ?_
          exact s_end (fun h => h)
        · refine s_step (g_aload_n (iRow iCX10_fewestAgainst_0 16 rfl) rfl rfl) ?_
          refine s_step (g_iload_n (iRow iCX10_fewestAgainst_0 17 rfl) rfl rfl) ?_
          refine s_cb (sf := fun b => vI (bI b) :: []) (fun _ _ h => h_V (As := [_]) (iRow iCX10_fewestAgainst_0 18 rfl) l10_84 iX10_canBreak ko_11 rfl rfl rfl rfl (t_X10_canBreak (d + 4) h) rfl (by omega) (by decide) (Nat.le_of_ble_eq_true rfl)) (fun b6 M5 => ?_)
          refine s_nj 58 (fun z => [some (vR 11 0), some (vI a1), some (vI x1), some (vI x3)]) (fun z => []) (fun z => z) ?_ (fun j58 hj58 => ?_)
          · rintro M11
            show SW G (d + 5) YX10_fewestAgainst Z 58 [some (vR 11 0), some (vI a1), some (vI x1), some (vI x3)] [] M11 _ _
            try dsimp only
            refine s_step (g_iincc (c := 1) (ls' := [some (vR 11 0), some (vI a1), some (vI x1), some (vI (x3 + (1 : Int32)))]) (iRow iCX10_fewestAgainst_1 10 rfl) rfl kc_1 (by decide) rfl) ?_
            refine s_step (g_goto (tgt := 15) (iRow iCX10_fewestAgainst_1 11 rfl) (by decide)) ?_
            exact s_end (fun h => h)
          · refine s_ifeqb (g_if_eq (tgt := 58) (iRow iCX10_fewestAgainst_0 19 rfl) (by decide)) (fun _ => ?_) (fun _ => ?_)
            · refine s_step (g_iload_n (iRow iCX10_fewestAgainst_0 20 rfl) rfl rfl) ?_
              refine s_cl (sf := fun x => vI x :: []) (fun _ _ h => h_S (As := [_]) (iRow iCX10_fewestAgainst_0 21 rfl) l10_88 iJ6_bitCount_0f7a4 rfl rfl (t_J6_bitCount_0f7a4 (d + 4) h) rfl (by omega) (by decide) (Nat.le_of_ble_eq_true rfl)) (fun x8 M7 => ?_)
              refine s_step (g_iload_n (iRow iCX10_fewestAgainst_0 22 rfl) rfl rfl) ?_
              refine s_ifn (g_icmp_ne (tgt := 58) (iRow iCX10_fewestAgainst_0 23 rfl) (by decide)) (fun _ => ?_) (fun _ => ?_)
              · refine s_step (g_aload_n (iRow iCX10_fewestAgainst_1 0 rfl) rfl rfl) ?_
                refine s_step (g_iload_n (iRow iCX10_fewestAgainst_1 1 rfl) rfl rfl) ?_
                refine s_cl (sf := fun x => vI x :: []) (fun _ _ h => h_V (As := [_]) (iRow iCX10_fewestAgainst_1 2 rfl) l10_94 iX10_upIf ko_11 rfl rfl rfl rfl (t_X10_upIf (d + 0) h) rfl (by omega) (by decide) (Nat.le_of_ble_eq_true rfl)) (fun x10 M9 => ?_)
                refine s_step (g_iload_n (iRow iCX10_fewestAgainst_1 3 rfl) rfl rfl) ?_
                refine s_step (g_ishr (iRow iCX10_fewestAgainst_1 4 rfl)) ?_
                refine s_step (g_iconst (iRow iCX10_fewestAgainst_1 5 rfl) kc_1) ?_
                refine s_step (g_iand (iRow iCX10_fewestAgainst_1 6 rfl)) ?_
                refine s_ifn (g_if_ne (tgt := 58) (iRow iCX10_fewestAgainst_1 7 rfl) (by decide)) (fun _ => ?_) (fun _ => ?_)
                · refine s_step (g_keep [false, false, false, true] rfl) ?_
                  exact s_end (fun h => h)
                · exact hj58 _
              · exact hj58 _
            · exact hj58 _
      · intro z
        rcases z with z | z
        · obtain ⟨x12, M13⟩ := z
          show SW G (d + 5) YX10_fewestAgainst Z 56 [none, none, none, some (vI x12)] [] M13 _ _
          try dsimp only [Sum.elim]
          exact s_end (fun h => h)
        · generalize z = M14
          show SW G (d + 5) YX10_fewestAgainst Z 64 [some (vR 11 0), some (vI a1), some (vI x1), none] [] M14 _ _
          try dsimp only [Sum.elim]
          refine s_step (g_iincc (c := 1) (ls' := [some (vR 11 0), some (vI a1), some (vI (x1 + (1 : Int32))), none]) (iRow iCX10_fewestAgainst_1 12 rfl) rfl kc_1 (by decide) rfl) ?_
          refine s_step (g_goto (tgt := 2) (iRow iCX10_fewestAgainst_1 13 rfl) (by decide)) ?_
          exact s_end (fun h => h)
  · intro z
    rcases z with z | z
    · obtain ⟨x15, M16⟩ := z
      show SW G (d + 5) YX10_fewestAgainst Z 56 [none, none, none, some (vI x15)] [] M16 _ _
      try dsimp only [Sum.elim]
      refine s_step (g_iload_n (iRow iCX10_fewestAgainst_1 8 rfl) rfl rfl) ?_
      exact s_reti (iRow iCX10_fewestAgainst_1 9 rfl) rfl
    · generalize z = M17
      show SW G (d + 5) YX10_fewestAgainst Z 70 [none, none, none, none] [] M17 _ _
      try dsimp only [Sum.elim]
      refine s_step (g_iconst (iRow iCX10_fewestAgainst_1 14 rfl) kc_m1) ?_
      exact s_reti (iRow iCX10_fewestAgainst_1 15 rfl) rfl
abbrev YX11_weakest : mY := (RX11, "weakest", cX11_weakest, 2, (some .int), none)
set_option maxHeartbeats 400000 in
set_option maxRecDepth 20000 in
theorem t_X11_weakest {G : mg} {F : Nat} {a1 : Int32} {M : mm} {x : Int32} {M' : mm} (d : Nat) (h : m_X11_weakest F a1 M = some (x, M')) : CM G yX11_weakest cX11_weakest 2 (some .int) (d + 6) [vR 12 0, vI a1] M (some (vI x)) M' := by
  refine ct_i (ls := [some (vR 12 0), some (vI a1)]) rfl rfl (Nat.le_of_ble_eq_true rfl) (fun Z => ?_) h
  show SW G (d + 6) YX11_weakest Z 0 [some (vR 12 0), some (vI a1)] [] M _ _
  unfold m_X11_weakest
  refine s_step (g_aload_n (iRow iCX11_weakest_0 0 rfl) rfl rfl) ?_
  refine s_step (g_iload_n (iRow iCX11_weakest_0 1 rfl) rfl rfl) ?_
  refine s_cb (sf := fun b => vI (bI b) :: []) (fun _ _ h => h_V (As := [_]) (iRow iCX11_weakest_0 2 rfl) l11_251 iX11_isUp ko_12 rfl rfl rfl rfl (t_X11_isUp (d + 4) h) rfl (by omega) (by decide) (Nat.le_of_ble_eq_true rfl)) (fun b2 M1 => ?_)
  refine s_ifneb (g_if_ne (tgt := 10) (iRow iCX11_weakest_0 3 rfl) (by decide)) (fun _ => ?_) (fun _ => ?_)
  · refine s_step (g_aload_n (iRow iCX11_weakest_0 6 rfl) rfl rfl) ?_
    refine s_step (g_getR (iRow iCX11_weakest_0 7 rfl) f11_66 ko_12 (r_12_4 _ _)) ?_
    refine s_step (g_aload_n (iRow iCX11_weakest_0 8 rfl) rfl rfl) ?_
    refine s_step (g_getR (iRow iCX11_weakest_0 9 rfl) f11_10 ko_12 (r_12_6 _ _)) ?_
    refine s_step (g_aload_n (iRow iCX11_weakest_0 10 rfl) rfl rfl) ?_
    refine s_step (g_getR (iRow iCX11_weakest_0 11 rfl) f11_82 ko_12 (r_12_8 _ _)) ?_
    refine s_cv (stA := []) (fun _ h => h_V (As := [_, _]) (iRow iCX11_weakest_0 12 rfl) l11_244 iX10_look ko_11 rfl rfl rfl rfl (t_X10_look (d + 4) h) rfl (by omega) (by decide) (Nat.le_of_ble_eq_true rfl)) (fun M3 => ?_)
    refine s_step (g_aload_n (iRow iCX11_weakest_0 13 rfl) rfl rfl) ?_
    refine s_step (g_getR (iRow iCX11_weakest_0 14 rfl) f11_66 ko_12 (r_12_4 _ _)) ?_
    refine s_step (g_iload_n (iRow iCX11_weakest_0 15 rfl) rfl rfl) ?_
    refine s_cl (sf := fun x => vI x :: []) (fun _ _ h => h_V (As := [_]) (iRow iCX11_weakest_0 16 rfl) l11_254 iX10_fewestAgainst ko_11 rfl rfl rfl rfl (t_X10_fewestAgainst (d + 0) h) rfl (by omega) (by decide) (Nat.le_of_ble_eq_true rfl)) (fun x5 M4 => ?_)
    exact s_reti (iRow iCX11_weakest_0 17 rfl) rfl
  · refine s_step (g_iconst (iRow iCX11_weakest_0 4 rfl) kc_m1) ?_
    exact s_reti (iRow iCX11_weakest_0 5 rfl) rfl
abbrev YX10_brokenBy : mY := (RX10, "brokenBy", cX10_brokenBy, 4, (some .int), none)
set_option maxHeartbeats 400000 in
set_option maxRecDepth 20000 in
theorem t_X10_brokenBy {G : mg} {F : Nat} {a1 : Int32} {M : mm} {x : Int32} {M' : mm} (d : Nat) (h : m_X10_brokenBy F a1 M = some (x, M')) : CM G yX10_brokenBy cX10_brokenBy 4 (some .int) (d + 0) [vR 11 0, vI a1] M (some (vI x)) M' := by
  refine ct_i (ls := [some (vR 11 0), some (vI a1), none, none]) rfl rfl (Nat.le_of_ble_eq_true rfl) (fun Z => ?_) h
  show SW G (d + 0) YX10_brokenBy Z 0 [some (vR 11 0), some (vI a1), none, none] [] M _ _
  unfold m_X10_brokenBy
  refine s_step (g_iconst (iRow iCX10_brokenBy_0 0 rfl) kc_0) ?_
  refine s_step (g_istore_n (ls' := [some (vR 11 0), some (vI a1), some (vI (0 : Int32)), none]) (iRow iCX10_brokenBy_0 1 rfl) rfl (by decide) rfl) ?_
  refine s_step (g_iconst (iRow iCX10_brokenBy_0 2 rfl) kc_0) ?_
  refine s_step (g_istore_n (ls' := [some (vR 11 0), some (vI a1), some (vI (0 : Int32)), some (vI (0 : Int32))]) (iRow iCX10_brokenBy_0 3 rfl) rfl (by decide) rfl) ?_
  refine s_lp (fun z => [some (vR 11 0), some (vI a1), some (vI (z.1)), some (vI (z.2))]) (fun _ => M) (fun z => LM G (d + 0) YX10_brokenBy Z 45 [some (vR 11 0), none, some (vI z), none] [] M) rfl rfl ?_ ?_
  · rintro ⟨x1, x2⟩
    show SW G (d + 0) YX10_brokenBy Z 4 [some (vR 11 0), some (vI a1), some (vI x1), some (vI x2)] [] M (b_X10_brokenBy_1c F a1 M x1 x2) _
    unfold b_X10_brokenBy_1c
    refine s_step (g_iload_n (iRow iCX10_brokenBy_0 4 rfl) rfl rfl) ?_
    refine s_step (g_aload_n (iRow iCX10_brokenBy_0 5 rfl) rfl rfl) ?_
    refine s_step (g_getR (iRow iCX10_brokenBy_0 6 rfl) f10_41 ko_11 (r_11_1 _ _)) ?_
    refine s_step (g_getI (iRow iCX10_brokenBy_0 7 rfl) f10_103 ko_1) ?_
    refine s_if (g_icmp_ge (tgt := 45) (iRow iCX10_brokenBy_0 8 rfl) (by decide)) (fun _ => ?_) (fun _ => ?_)
    · refine s_step (g_keep [true, false, true, false] rfl) ?_
      exact s_end (fun h => h)
    · refine s_step (g_iload_n (iRow iCX10_brokenBy_0 9 rfl) rfl rfl) ?_
      refine s_step (g_iload_n (iRow iCX10_brokenBy_0 10 rfl) rfl rfl) ?_
      refine s_step (g_iload_n (iRow iCX10_brokenBy_0 11 rfl) rfl rfl) ?_
      refine s_step (g_ishr (iRow iCX10_brokenBy_0 12 rfl)) ?_
      refine s_step (g_iconst (iRow iCX10_brokenBy_0 13 rfl) kc_1) ?_
      refine s_step (g_iand (iRow iCX10_brokenBy_0 14 rfl)) ?_
      refine s_bd (fun z => LM G (d + 0) YX10_brokenBy Z 37 [some (vR 11 0), some (vI a1), none, some (vI x2)] [vI z, vI x1] M) ?_ ?_
      · refine s_if (g_if_eq (tgt := 36) (iRow iCX10_brokenBy_0 15 rfl) (by decide)) (fun _ => ?_) (fun _ => ?_)
        · refine s_step (g_iconst (iRow iCX10_brokenBy_0 22 rfl) kc_0) ?_
          refine s_step (g_keep [true, true, false, true] rfl) ?_
          exact s_end (fun h => h)
        · refine s_step (g_aload_n (iRow iCX10_brokenBy_0 16 rfl) rfl rfl) ?_
          refine s_step (g_getR (iRow iCX10_brokenBy_0 17 rfl) f10_41 ko_11 (r_11_1 _ _)) ?_
          refine s_step (g_getR (iRow iCX10_brokenBy_0 18 rfl) f10_115 ko_1 (r_1_4 _ _)) ?_
          refine s_step (g_iload_n (iRow iCX10_brokenBy_0 19 rfl) rfl rfl) ?_
          refine s_gi (fun h => g_iald (iRow iCX10_brokenBy_0 20 rfl) kn_23 ka_23 h) ?_
          refine s_step (g_goto (tgt := 37) (iRow iCX10_brokenBy_0 21 rfl) (by decide)) ?_
          refine s_step (g_keep [true, true, false, true] rfl) ?_
          exact s_end (fun h => h)
      · rintro x3
        show SW G (d + 0) YX10_brokenBy Z 37 [some (vR 11 0), some (vI a1), none, some (vI x2)] [vI x3, vI x1] M _ _
        try dsimp only
        refine s_step (g_ior (iRow iCX10_brokenBy_0 23 rfl)) ?_
        refine s_nmI (fun x4 => ?_)
        refine s_step (g_istore_n (ls' := [some (vR 11 0), some (vI a1), some (vI x4), some (vI x2)]) (iRow iCX10_brokenBy_1 0 rfl) rfl (by decide) rfl) ?_
        refine s_step (g_iincc (c := 1) (ls' := [some (vR 11 0), some (vI a1), some (vI x4), some (vI (x2 + (1 : Int32)))]) (iRow iCX10_brokenBy_1 1 rfl) rfl kc_1 (by decide) rfl) ?_
        refine s_step (g_goto (tgt := 4) (iRow iCX10_brokenBy_1 2 rfl) (by decide)) ?_
        exact s_end (fun h => h)
  · rintro x5
    show SW G (d + 0) YX10_brokenBy Z 45 [some (vR 11 0), none, some (vI x5), none] [] M _ _
    try dsimp only
    refine s_step (g_iload_n (iRow iCX10_brokenBy_1 3 rfl) rfl rfl) ?_
    refine s_step (g_aload_n (iRow iCX10_brokenBy_1 4 rfl) rfl rfl) ?_
    refine s_step (g_getI (iRow iCX10_brokenBy_1 5 rfl) f10_72 ko_11) ?_
    refine s_step (g_iand (iRow iCX10_brokenBy_1 6 rfl)) ?_
    exact s_reti (iRow iCX10_brokenBy_1 7 rfl) rfl
abbrev YX10_chanceOfChoices : mY := (RX10, "chanceOfChoices", cX10_chanceOfChoices, 4, (some .int), none)
set_option maxHeartbeats 400000 in
set_option maxRecDepth 20000 in
theorem t_X10_chanceOfChoices {G : mg} {F : Nat} {a1 : Int32} {M : mm} {x : Int32} {M' : mm} (d : Nat) (h : m_X10_chanceOfChoices F a1 M = some (x, M')) : CM G yX10_chanceOfChoices cX10_chanceOfChoices 4 (some .int) (d + 0) [vR 11 0, vI a1] M (some (vI x)) M' := by
  refine ct_i (ls := [some (vR 11 0), some (vI a1), none, none]) rfl rfl (Nat.le_of_ble_eq_true rfl) (fun Z => ?_) h
  show SW G (d + 0) YX10_chanceOfChoices Z 0 [some (vR 11 0), some (vI a1), none, none] [] M _ _
  unfold m_X10_chanceOfChoices
  refine s_step (g_iconst (iRow iCX10_chanceOfChoices_0 0 rfl) kc_1) ?_
  refine s_step (g_istore_n (ls' := [some (vR 11 0), some (vI a1), some (vI (1 : Int32)), none]) (iRow iCX10_chanceOfChoices_0 1 rfl) rfl (by decide) rfl) ?_
  refine s_step (g_iconst (iRow iCX10_chanceOfChoices_0 2 rfl) kc_0) ?_
  refine s_step (g_istore_n (ls' := [some (vR 11 0), some (vI a1), some (vI (1 : Int32)), some (vI (0 : Int32))]) (iRow iCX10_chanceOfChoices_0 3 rfl) rfl (by decide) rfl) ?_
  refine s_lp (fun z => [some (vR 11 0), some (vI a1), some (vI (z.1)), some (vI (z.2))]) (fun _ => M) (fun z => LM G (d + 0) YX10_chanceOfChoices Z 70 [none, none, some (vI z), none] [] M) rfl rfl ?_ ?_
  · rintro ⟨x1, x2⟩
    show SW G (d + 0) YX10_chanceOfChoices Z 4 [some (vR 11 0), some (vI a1), some (vI x1), some (vI x2)] [] M (b_X10_chanceOfChoices_1c F a1 M x1 x2) _
    unfold b_X10_chanceOfChoices_1c
    refine s_step (g_iload_n (iRow iCX10_chanceOfChoices_0 4 rfl) rfl rfl) ?_
    refine s_step (g_bipush (iRow iCX10_chanceOfChoices_0 5 rfl) kb_6) ?_
    refine s_if (g_icmp_ge (tgt := 70) (iRow iCX10_chanceOfChoices_0 6 rfl) (by decide)) (fun _ => ?_) (fun _ => ?_)
    · refine s_step (g_keep [false, false, true, false] rfl) ?_
      exact s_end (fun h => h)
    · refine s_step (g_iload_n (iRow iCX10_chanceOfChoices_0 7 rfl) rfl rfl) ?_
      refine s_step (g_aload_n (iRow iCX10_chanceOfChoices_0 8 rfl) rfl rfl) ?_
      refine s_step (g_getR (iRow iCX10_chanceOfChoices_0 9 rfl) f10_41 ko_11 (r_11_1 _ _)) ?_
      refine s_step (g_getI (iRow iCX10_chanceOfChoices_0 10 rfl) f10_103 ko_1) ?_
      refine s_bd (fun z => LM G (d + 0) YX10_chanceOfChoices Z 64 [some (vR 11 0), some (vI a1), some (vI z), some (vI x2)] [] M) ?_ ?_
      · refine s_if (g_icmp_lt (tgt := 29) (iRow iCX10_chanceOfChoices_0 11 rfl) (by decide)) (fun _ => ?_) (fun _ => ?_)
        · refine s_step (g_iload_n (iRow iCX10_chanceOfChoices_0 17 rfl) rfl rfl) ?_
          refine s_step (g_iload_n (iRow iCX10_chanceOfChoices_0 18 rfl) rfl rfl) ?_
          refine s_step (g_iload_n (iRow iCX10_chanceOfChoices_0 19 rfl) rfl rfl) ?_
          refine s_step (g_ishr (iRow iCX10_chanceOfChoices_0 20 rfl)) ?_
          refine s_step (g_iconst (iRow iCX10_chanceOfChoices_0 21 rfl) kc_1) ?_
          refine s_step (g_iand (iRow iCX10_chanceOfChoices_0 22 rfl)) ?_
          refine s_bd (fun z => LM G (d + 0) YX10_chanceOfChoices Z 62 [some (vR 11 0), some (vI a1), none, some (vI x2)] [vI z, vI x1] M) ?_ ?_
          · refine s_if (g_if_eq (tgt := 53) (iRow iCX10_chanceOfChoices_0 23 rfl) (by decide)) (fun _ => ?_) (fun _ => ?_)
            · refine s_step (g_aload_n (iRow iCX10_chanceOfChoices_1 8 rfl) rfl rfl) ?_
              refine s_step (g_getR (iRow iCX10_chanceOfChoices_1 9 rfl) f10_41 ko_11 (r_11_1 _ _)) ?_
              refine s_step (g_getR (iRow iCX10_chanceOfChoices_1 10 rfl) f10_112 ko_1 (r_1_2 _ _)) ?_
              refine s_step (g_iload_n (iRow iCX10_chanceOfChoices_1 11 rfl) rfl rfl) ?_
              refine s_gi (fun h => g_iald (iRow iCX10_chanceOfChoices_1 12 rfl) kn_21 ka_21 h) ?_
              refine s_step (g_keep [true, true, false, true] rfl) ?_
              exact s_end (fun h => h)
            · refine s_step (g_bipush (iRow iCX10_chanceOfChoices_1 0 rfl) kb_10) ?_
              refine s_step (g_aload_n (iRow iCX10_chanceOfChoices_1 1 rfl) rfl rfl) ?_
              refine s_step (g_getR (iRow iCX10_chanceOfChoices_1 2 rfl) f10_41 ko_11 (r_11_1 _ _)) ?_
              refine s_step (g_getR (iRow iCX10_chanceOfChoices_1 3 rfl) f10_112 ko_1 (r_1_2 _ _)) ?_
              refine s_step (g_iload_n (iRow iCX10_chanceOfChoices_1 4 rfl) rfl rfl) ?_
              refine s_gi (fun h => g_iald (iRow iCX10_chanceOfChoices_1 5 rfl) kn_21 ka_21 h) ?_
              refine s_step (g_isub (iRow iCX10_chanceOfChoices_1 6 rfl)) ?_
              refine s_step (g_goto (tgt := 62) (iRow iCX10_chanceOfChoices_1 7 rfl) (by decide)) ?_
              refine s_step (g_keep [true, true, false, true] rfl) ?_
              exact s_end (fun h => h)
          · rintro x3
            show SW G (d + 0) YX10_chanceOfChoices Z 62 [some (vR 11 0), some (vI a1), none, some (vI x2)] [vI x3, vI x1] M _ _
            try dsimp only
            refine s_step (g_imul (iRow iCX10_chanceOfChoices_1 13 rfl)) ?_
            refine s_nmI (fun x4 => ?_)
            refine s_step (g_istore_n (ls' := [some (vR 11 0), some (vI a1), some (vI x4), some (vI x2)]) (iRow iCX10_chanceOfChoices_1 14 rfl) rfl (by decide) rfl) ?_
            exact s_end (fun h => h)
        · refine s_step (g_iload_n (iRow iCX10_chanceOfChoices_0 12 rfl) rfl rfl) ?_
          refine s_step (g_bipush (iRow iCX10_chanceOfChoices_0 13 rfl) kb_10) ?_
          refine s_step (g_imul (iRow iCX10_chanceOfChoices_0 14 rfl)) ?_
          refine s_nmI (fun x5 => ?_)
          refine s_step (g_istore_n (ls' := [some (vR 11 0), some (vI a1), some (vI x5), some (vI x2)]) (iRow iCX10_chanceOfChoices_0 15 rfl) rfl (by decide) rfl) ?_
          refine s_step (g_goto (tgt := 64) (iRow iCX10_chanceOfChoices_0 16 rfl) (by decide)) ?_
          exact s_end (fun h => h)
      · rintro x6
        show SW G (d + 0) YX10_chanceOfChoices Z 64 [some (vR 11 0), some (vI a1), some (vI x6), some (vI x2)] [] M _ _
        try dsimp only
        refine s_step (g_iincc (c := 1) (ls' := [some (vR 11 0), some (vI a1), some (vI x6), some (vI (x2 + (1 : Int32)))]) (iRow iCX10_chanceOfChoices_1 15 rfl) rfl kc_1 (by decide) rfl) ?_
        refine s_step (g_goto (tgt := 4) (iRow iCX10_chanceOfChoices_1 16 rfl) (by decide)) ?_
        exact s_end (fun h => h)
  · rintro x7
    show SW G (d + 0) YX10_chanceOfChoices Z 70 [none, none, some (vI x7), none] [] M _ _
    try dsimp only
    refine s_step (g_iload_n (iRow iCX10_chanceOfChoices_1 17 rfl) rfl rfl) ?_
    exact s_reti (iRow iCX10_chanceOfChoices_1 18 rfl) rfl
abbrev YX10_chanceOf : mY := (RX10, "chanceOf", cX10_chanceOf, 4, (some .int), none)
set_option maxHeartbeats 400000 in
set_option maxRecDepth 20000 in
theorem t_X10_chanceOf {G : mg} {F : Nat} {a1 : Int32} {M : mm} {x : Int32} {M' : mm} (d : Nat) (h : m_X10_chanceOf F a1 M = some (x, M')) : CM G yX10_chanceOf cX10_chanceOf 4 (some .int) (d + 5) [vR 11 0, vI a1] M (some (vI x)) M' := by
  refine ct_i (ls := [some (vR 11 0), some (vI a1), none, none]) rfl rfl (Nat.le_of_ble_eq_true rfl) (fun Z => ?_) h
  show SW G (d + 5) YX10_chanceOf Z 0 [some (vR 11 0), some (vI a1), none, none] [] M _ _
  unfold m_X10_chanceOf
  refine s_step (g_iconst (iRow iCX10_chanceOf_0 0 rfl) kc_0) ?_
  refine s_step (g_istore_n (ls' := [some (vR 11 0), some (vI a1), some (vI (0 : Int32)), none]) (iRow iCX10_chanceOf_0 1 rfl) rfl (by decide) rfl) ?_
  refine s_step (g_iconst (iRow iCX10_chanceOf_0 2 rfl) kc_0) ?_
  refine s_step (g_istore_n (ls' := [some (vR 11 0), some (vI a1), some (vI (0 : Int32)), some (vI (0 : Int32))]) (iRow iCX10_chanceOf_0 3 rfl) rfl (by decide) rfl) ?_
  refine s_lp (fun z => [some (vR 11 0), some (vI a1), some (vI (z.1)), some (vI (z.2.1))]) (fun z => z.2.2) (fun z => LM G (d + 5) YX10_chanceOf Z 47 [none, none, some (vI (z.1)), none] [] z.2) rfl rfl ?_ ?_
  · rintro ⟨x1, x2, M3⟩
    show SW G (d + 5) YX10_chanceOf Z 4 [some (vR 11 0), some (vI a1), some (vI x1), some (vI x2)] [] M3 (b_X10_chanceOf_1c F a1 x1 x2 M3) _
    unfold b_X10_chanceOf_1c
    refine s_step (g_iload_n (iRow iCX10_chanceOf_0 4 rfl) rfl rfl) ?_
    refine s_step (g_iconst (iRow iCX10_chanceOf_0 5 rfl) kc_1) ?_
    refine s_step (g_aload_n (iRow iCX10_chanceOf_0 6 rfl) rfl rfl) ?_
    refine s_step (g_getR (iRow iCX10_chanceOf_0 7 rfl) f10_41 ko_11 (r_11_1 _ _)) ?_
    refine s_step (g_getI (iRow iCX10_chanceOf_0 8 rfl) f10_103 ko_1) ?_
    refine s_step (g_ishl (iRow iCX10_chanceOf_0 9 rfl)) ?_
    refine s_if (g_icmp_ge (tgt := 47) (iRow iCX10_chanceOf_0 10 rfl) (by decide)) (fun _ => ?_) (fun _ => ?_)
    · refine s_step (g_keep [false, false, true, false] rfl) ?_
      exact s_end (fun h => h)
    · refine s_step (g_aload_n (iRow iCX10_chanceOf_0 11 rfl) rfl rfl) ?_
      refine s_step (g_aload_n (iRow iCX10_chanceOf_0 12 rfl) rfl rfl) ?_
      refine s_step (g_iload_n (iRow iCX10_chanceOf_0 13 rfl) rfl rfl) ?_
      refine s_cl (sf := fun x => vI x :: [vR 11 0]) (fun _ _ h => h_V (As := [_]) (iRow iCX10_chanceOf_0 14 rfl) l10_106 iX10_brokenBy ko_11 rfl rfl rfl rfl (t_X10_brokenBy (d + 4) h) rfl (by omega) (by decide) (Nat.le_of_ble_eq_true rfl)) (fun x5 M4 => ?_)
      refine s_cl (sf := fun x => vI x :: []) (fun _ _ h => h_V (As := [_]) (iRow iCX10_chanceOf_0 15 rfl) l10_94 iX10_upIf ko_11 rfl rfl rfl rfl (t_X10_upIf (d + 0) h) rfl (by omega) (by decide) (Nat.le_of_ble_eq_true rfl)) (fun x7 M6 => ?_)
      refine s_step (g_iload_n (iRow iCX10_chanceOf_0 16 rfl) rfl rfl) ?_
      refine s_step (g_ishr (iRow iCX10_chanceOf_0 17 rfl)) ?_
      refine s_step (g_iconst (iRow iCX10_chanceOf_0 18 rfl) kc_1) ?_
      refine s_step (g_iand (iRow iCX10_chanceOf_0 19 rfl)) ?_
      refine s_bd (fun z => LM G (d + 5) YX10_chanceOf Z 41 [some (vR 11 0), some (vI a1), some (vI (z.1)), some (vI x2)] [] z.2) ?_ ?_
      · refine s_if (g_if_eq (tgt := 41) (iRow iCX10_chanceOf_0 20 rfl) (by decide)) (fun _ => ?_) (fun _ => ?_)
        · exact s_end (fun h => h)
        · refine s_step (g_iload_n (iRow iCX10_chanceOf_0 21 rfl) rfl rfl) ?_
          refine s_step (g_aload_n (iRow iCX10_chanceOf_0 22 rfl) rfl rfl) ?_
          refine s_step (g_iload_n (iRow iCX10_chanceOf_0 23 rfl) rfl rfl) ?_
          refine s_cl (sf := fun x => vI x :: [vI x1]) (fun _ _ h => h_V (As := [_]) (iRow iCX10_chanceOf_1 0 rfl) l10_109 iX10_chanceOfChoices ko_11 rfl rfl rfl rfl (t_X10_chanceOfChoices (d + 4) h) rfl (by omega) (by decide) (Nat.le_of_ble_eq_true rfl)) (fun x9 M8 => ?_)
          refine s_step (g_iadd (iRow iCX10_chanceOf_1 1 rfl)) ?_
          refine s_nmI (fun x10 => ?_)
          refine s_step (g_istore_n (ls' := [some (vR 11 0), some (vI a1), some (vI x10), some (vI x2)]) (iRow iCX10_chanceOf_1 2 rfl) rfl (by decide) rfl) ?_
          exact s_end (fun h => h)
      · rintro ⟨x11, M12⟩
        show SW G (d + 5) YX10_chanceOf Z 41 [some (vR 11 0), some (vI a1), some (vI x11), some (vI x2)] [] M12 _ _
        try dsimp only
        refine s_step (g_iincc (c := 1) (ls' := [some (vR 11 0), some (vI a1), some (vI x11), some (vI (x2 + (1 : Int32)))]) (iRow iCX10_chanceOf_1 3 rfl) rfl kc_1 (by decide) rfl) ?_
        refine s_step (g_goto (tgt := 4) (iRow iCX10_chanceOf_1 4 rfl) (by decide)) ?_
        exact s_end (fun h => h)
  · rintro ⟨x13, M14⟩
    show SW G (d + 5) YX10_chanceOf Z 47 [none, none, some (vI x13), none] [] M14 _ _
    try dsimp only
    refine s_step (g_iload_n (iRow iCX10_chanceOf_1 5 rfl) rfl rfl) ?_
    exact s_reti (iRow iCX10_chanceOf_1 6 rfl) rfl
abbrev YX11_sure : mY := (RX11, "sure", cX11_sure, 2, (some .int), none)
set_option maxHeartbeats 400000 in
set_option maxRecDepth 20000 in
theorem t_X11_sure {G : mg} {F : Nat} {a1 : Int32} {M : mm} {x : Int32} {M' : mm} (d : Nat) (h : m_X11_sure F a1 M = some (x, M')) : CM G yX11_sure cX11_sure 2 (some .int) (d + 6) [vR 12 0, vI a1] M (some (vI x)) M' := by
  refine ct_i (ls := [some (vR 12 0), some (vI a1)]) rfl rfl (Nat.le_of_ble_eq_true rfl) (fun Z => ?_) h
  show SW G (d + 6) YX11_sure Z 0 [some (vR 12 0), some (vI a1)] [] M _ _
  unfold m_X11_sure
  refine s_step (g_aload_n (iRow iCX11_sure_0 0 rfl) rfl rfl) ?_
  refine s_step (g_iload_n (iRow iCX11_sure_0 1 rfl) rfl rfl) ?_
  refine s_cb (sf := fun b => vI (bI b) :: []) (fun _ _ h => h_V (As := [_]) (iRow iCX11_sure_0 2 rfl) l11_251 iX11_isUp ko_12 rfl rfl rfl rfl (t_X11_isUp (d + 4) h) rfl (by omega) (by decide) (Nat.le_of_ble_eq_true rfl)) (fun b2 M1 => ?_)
  refine s_ifneb (g_if_ne (tgt := 10) (iRow iCX11_sure_0 3 rfl) (by decide)) (fun _ => ?_) (fun _ => ?_)
  · refine s_step (g_aload_n (iRow iCX11_sure_0 6 rfl) rfl rfl) ?_
    refine s_step (g_getR (iRow iCX11_sure_0 7 rfl) f11_66 ko_12 (r_12_4 _ _)) ?_
    refine s_step (g_aload_n (iRow iCX11_sure_0 8 rfl) rfl rfl) ?_
    refine s_step (g_getR (iRow iCX11_sure_0 9 rfl) f11_10 ko_12 (r_12_6 _ _)) ?_
    refine s_step (g_aload_n (iRow iCX11_sure_0 10 rfl) rfl rfl) ?_
    refine s_step (g_getR (iRow iCX11_sure_0 11 rfl) f11_82 ko_12 (r_12_8 _ _)) ?_
    refine s_cv (stA := []) (fun _ h => h_V (As := [_, _]) (iRow iCX11_sure_0 12 rfl) l11_244 iX10_look ko_11 rfl rfl rfl rfl (t_X10_look (d + 4) h) rfl (by omega) (by decide) (Nat.le_of_ble_eq_true rfl)) (fun M3 => ?_)
    refine s_step (g_aload_n (iRow iCX11_sure_0 13 rfl) rfl rfl) ?_
    refine s_step (g_getR (iRow iCX11_sure_0 14 rfl) f11_66 ko_12 (r_12_4 _ _)) ?_
    refine s_step (g_iload_n (iRow iCX11_sure_0 15 rfl) rfl rfl) ?_
    refine s_cl (sf := fun x => vI x :: []) (fun _ _ h => h_V (As := [_]) (iRow iCX11_sure_0 16 rfl) l11_257 iX10_chanceOf ko_11 rfl rfl rfl rfl (t_X10_chanceOf (d + 0) h) rfl (by omega) (by decide) (Nat.le_of_ble_eq_true rfl)) (fun x5 M4 => ?_)
    exact s_reti (iRow iCX11_sure_0 17 rfl) rfl
  · refine s_step (g_iconst (iRow iCX11_sure_0 4 rfl) kc_m1) ?_
    exact s_reti (iRow iCX11_sure_0 5 rfl) rfl
abbrev YX9_save : mY := (RX9, "save", cX9_save, 1, none, none)
set_option maxHeartbeats 400000 in
set_option maxRecDepth 20000 in
theorem t_X9_save {G : mg} {F : Nat} {M : mm} {M' : mm} (d : Nat) (h : m_X9_save F M = some M') : CM G yX9_save cX9_save 1 none (d + 1) [vR 10 0] M none M' := by
  refine ct_v (ls := [some (vR 10 0)]) rfl rfl (Nat.le_of_ble_eq_true rfl) (fun Z => ?_) h
  show SW G (d + 1) YX9_save Z 0 [some (vR 10 0)] [] M _ _
  unfold m_X9_save
  refine s_step (g_aload_n (iRow iCX9_save_0 0 rfl) rfl rfl) ?_
  refine s_step (g_aload_n (iRow iCX9_save_0 1 rfl) rfl rfl) ?_
  refine s_step (g_getI (iRow iCX9_save_0 2 rfl) f9_48 ko_10) ?_
  refine s_step (g_putI (iRow iCX9_save_0 3 rfl) f9_78 (Or.inl rfl) ko_10) ?_
  refine s_nmM (fun M1 => ?_)
  refine s_step (g_aload_n (iRow iCX9_save_0 4 rfl) rfl rfl) ?_
  refine s_step (g_getR (iRow iCX9_save_0 5 rfl) f9_15 ko_10 (r_10_1 _ _)) ?_
  refine s_step (g_iconst (iRow iCX9_save_0 6 rfl) kc_0) ?_
  refine s_step (g_aload_n (iRow iCX9_save_0 7 rfl) rfl rfl) ?_
  refine s_step (g_getR (iRow iCX9_save_0 8 rfl) f9_21 ko_10 (r_10_3 _ _)) ?_
  refine s_step (g_iconst (iRow iCX9_save_0 9 rfl) kc_0) ?_
  refine s_step (g_aload_n (iRow iCX9_save_0 10 rfl) rfl rfl) ?_
  refine s_step (g_getR (iRow iCX9_save_0 11 rfl) f9_15 ko_10 (r_10_1 _ _)) ?_
  refine s_step (g_alen (iRow iCX9_save_0 12 rfl) kn_48 ka_48 (by decide) (by decide) kl_10) ?_
  refine s_step (g_copy (iRow iCX9_save_0 13 rfl) w9_81 kn_48 ka_48 kn_50 ka_50 (by decide) kl_10 (by decide) (by omega)) ?_
  refine s_nmM (fun M2 => ?_)
  refine s_step (g_aload_n (iRow iCX9_save_0 14 rfl) rfl rfl) ?_
  refine s_step (g_getR (iRow iCX9_save_0 15 rfl) f9_18 ko_10 (r_10_2 _ _)) ?_
  refine s_step (g_iconst (iRow iCX9_save_0 16 rfl) kc_0) ?_
  refine s_step (g_aload_n (iRow iCX9_save_0 17 rfl) rfl rfl) ?_
  refine s_step (g_getR (iRow iCX9_save_0 18 rfl) f9_24 ko_10 (r_10_4 _ _)) ?_
  refine s_step (g_iconst (iRow iCX9_save_0 19 rfl) kc_0) ?_
  refine s_step (g_aload_n (iRow iCX9_save_0 20 rfl) rfl rfl) ?_
  refine s_step (g_getR (iRow iCX9_save_0 21 rfl) f9_18 ko_10 (r_10_2 _ _)) ?_
  refine s_step (g_alen (iRow iCX9_save_0 22 rfl) kn_49 ka_49 (by decide) (by decide) kl_110) ?_
  refine s_step (g_copy (iRow iCX9_save_0 23 rfl) w9_81 kn_49 ka_49 kn_51 ka_51 (by decide) kl_110 (by decide) (by omega)) ?_
  refine s_nmM (fun M3 => ?_)
  exact s_retv (iRow iCX9_save_1 0 rfl) rfl
abbrev YX10_layBase : mY := (RX10, "layBase", cX10_layBase, 2, none, none)
set_option maxHeartbeats 400000 in
set_option maxRecDepth 20000 in
theorem t_X10_layBase {G : mg} {F : Nat} {a1 : Int32} {M : mm} {M' : mm} (d : Nat) (h : m_X10_layBase F a1 M = some M') : CM G yX10_layBase cX10_layBase 2 none (d + 4) [vR 11 0, vI a1] M none M' := by
  refine ct_v (ls := [some (vR 11 0), some (vI a1)]) rfl rfl (Nat.le_of_ble_eq_true rfl) (fun Z => ?_) h
  show SW G (d + 4) YX10_layBase Z 0 [some (vR 11 0), some (vI a1)] [] M _ _
  unfold m_X10_layBase
  refine s_step (g_aload_n (iRow iCX10_layBase_0 0 rfl) rfl rfl) ?_
  refine s_step (g_getR (iRow iCX10_layBase_0 1 rfl) f10_18 ko_11 (r_11_3 _ _)) ?_
  refine s_step (g_aload_n (iRow iCX10_layBase_0 2 rfl) rfl rfl) ?_
  refine s_step (g_getR (iRow iCX10_layBase_0 3 rfl) f10_12 ko_11 (r_11_2 _ _)) ?_
  refine s_cv (stA := []) (fun _ h => h_V (As := [_]) (iRow iCX10_layBase_0 4 rfl) l10_57 iX4_copy ko_5 rfl rfl rfl rfl (t_X4_copy (d + 3) h) rfl (by omega) (by decide) (Nat.le_of_ble_eq_true rfl)) (fun M1 => ?_)
  refine s_step (g_aload_n (iRow iCX10_layBase_0 5 rfl) rfl rfl) ?_
  refine s_step (g_getR (iRow iCX10_layBase_0 6 rfl) f10_18 ko_11 (r_11_3 _ _)) ?_
  refine s_step (g_dup (iRow iCX10_layBase_0 7 rfl) rfl) ?_
  refine s_step (g_getI (iRow iCX10_layBase_0 8 rfl) f10_69 ko_5) ?_
  refine s_step (g_iload_n (iRow iCX10_layBase_0 9 rfl) rfl rfl) ?_
  refine s_step (g_ior (iRow iCX10_layBase_0 10 rfl)) ?_
  refine s_step (g_putI (iRow iCX10_layBase_0 11 rfl) f10_69 (Or.inl rfl) ko_5) ?_
  refine s_nmM (fun M2 => ?_)
  refine s_step (g_aload_n (iRow iCX10_layBase_0 12 rfl) rfl rfl) ?_
  refine s_step (g_getR (iRow iCX10_layBase_0 13 rfl) f10_37 ko_11 (r_11_0 _ _)) ?_
  refine s_step (g_aload_n (iRow iCX10_layBase_0 14 rfl) rfl rfl) ?_
  refine s_step (g_getR (iRow iCX10_layBase_0 15 rfl) f10_41 ko_11 (r_11_1 _ _)) ?_
  refine s_step (g_aload_n (iRow iCX10_layBase_0 16 rfl) rfl rfl) ?_
  refine s_step (g_getR (iRow iCX10_layBase_0 17 rfl) f10_18 ko_11 (r_11_3 _ _)) ?_
  refine s_step (g_aload_n (iRow iCX10_layBase_0 18 rfl) rfl rfl) ?_
  refine s_step (g_getR (iRow iCX10_layBase_0 19 rfl) f10_12 ko_11 (r_11_2 _ _)) ?_
  refine s_step (g_getI (iRow iCX10_layBase_0 20 rfl) f10_75 ko_5) ?_
  refine s_cl (sf := fun x => vI x :: []) (fun _ _ h => h_V (As := [_, _, _]) (iRow iCX10_layBase_0 21 rfl) l10_78 iX9_standing ko_10 rfl rfl rfl rfl (t_X9_standing (d + 0) h) rfl (by omega) (by decide) (Nat.le_of_ble_eq_true rfl)) (fun x4 M3 => ?_)
  refine s_step (g_pop (iRow iCX10_layBase_0 22 rfl) rfl) ?_
  refine s_step (g_aload_n (iRow iCX10_layBase_0 23 rfl) rfl rfl) ?_
  refine s_step (g_getR (iRow iCX10_layBase_1 0 rfl) f10_37 ko_11 (r_11_0 _ _)) ?_
  refine s_cv (stA := []) (fun _ h => h_V (As := []) (iRow iCX10_layBase_1 1 rfl) l10_136 iX9_save ko_10 rfl rfl rfl rfl (t_X9_save (d + 2) h) rfl (by omega) (by decide) (Nat.le_of_ble_eq_true rfl)) (fun M5 => ?_)
  exact s_retv (iRow iCX10_layBase_1 2 rfl) rfl
abbrev YX9_bearsNew : mY := (RX9, "bearsNew", cX9_bearsNew, 3, (some .boolean), none)
set_option maxHeartbeats 400000 in
set_option maxRecDepth 20000 in
theorem t_X9_bearsNew {G : mg} {F : Nat} {a1 : Int32} {a2 : Int32} {M : mm} {x : Bool} {M' : mm} (d : Nat) (h : m_X9_bearsNew F a1 a2 M = some (x, M')) : CM G yX9_bearsNew cX9_bearsNew 3 (some .boolean) (d + 3) [vR 10 0, vI a1, vI a2] M (some (vI (bI x))) M' := by
  refine ct_z (ls := [some (vR 10 0), some (vI a1), some (vI a2)]) rfl rfl (Nat.le_of_ble_eq_true rfl) (fun Z => ?_) h
  show SW G (d + 3) YX9_bearsNew Z 0 [some (vR 10 0), some (vI a1), some (vI a2)] [] M _ _
  unfold m_X9_bearsNew
  refine s_step (g_aload_n (iRow iCX9_bearsNew_0 0 rfl) rfl rfl) ?_
  refine s_step (g_aload_n (iRow iCX9_bearsNew_0 1 rfl) rfl rfl) ?_
  refine s_step (g_getI (iRow iCX9_bearsNew_0 2 rfl) f9_78 ko_10) ?_
  refine s_step (g_putI (iRow iCX9_bearsNew_0 3 rfl) f9_48 (Or.inl rfl) ko_10) ?_
  refine s_nmM (fun M1 => ?_)
  refine s_step (g_aload_n (iRow iCX9_bearsNew_0 4 rfl) rfl rfl) ?_
  refine s_step (g_getR (iRow iCX9_bearsNew_0 5 rfl) f9_21 ko_10 (r_10_3 _ _)) ?_
  refine s_step (g_iconst (iRow iCX9_bearsNew_0 6 rfl) kc_0) ?_
  refine s_step (g_aload_n (iRow iCX9_bearsNew_0 7 rfl) rfl rfl) ?_
  refine s_step (g_getR (iRow iCX9_bearsNew_0 8 rfl) f9_15 ko_10 (r_10_1 _ _)) ?_
  refine s_step (g_iconst (iRow iCX9_bearsNew_0 9 rfl) kc_0) ?_
  refine s_step (g_aload_n (iRow iCX9_bearsNew_0 10 rfl) rfl rfl) ?_
  refine s_step (g_getR (iRow iCX9_bearsNew_0 11 rfl) f9_15 ko_10 (r_10_1 _ _)) ?_
  refine s_step (g_alen (iRow iCX9_bearsNew_0 12 rfl) kn_48 ka_48 (by decide) (by decide) kl_10) ?_
  refine s_step (g_copy (iRow iCX9_bearsNew_0 13 rfl) w9_81 kn_50 ka_50 kn_48 ka_48 (by decide) kl_10 (by decide) (by omega)) ?_
  refine s_nmM (fun M2 => ?_)
  refine s_step (g_aload_n (iRow iCX9_bearsNew_0 14 rfl) rfl rfl) ?_
  refine s_step (g_getR (iRow iCX9_bearsNew_0 15 rfl) f9_24 ko_10 (r_10_4 _ _)) ?_
  refine s_step (g_iconst (iRow iCX9_bearsNew_0 16 rfl) kc_0) ?_
  refine s_step (g_aload_n (iRow iCX9_bearsNew_0 17 rfl) rfl rfl) ?_
  refine s_step (g_getR (iRow iCX9_bearsNew_0 18 rfl) f9_18 ko_10 (r_10_2 _ _)) ?_
  refine s_step (g_iconst (iRow iCX9_bearsNew_0 19 rfl) kc_0) ?_
  refine s_step (g_aload_n (iRow iCX9_bearsNew_0 20 rfl) rfl rfl) ?_
  refine s_step (g_getR (iRow iCX9_bearsNew_0 21 rfl) f9_18 ko_10 (r_10_2 _ _)) ?_
  refine s_step (g_alen (iRow iCX9_bearsNew_0 22 rfl) kn_49 ka_49 (by decide) (by decide) kl_110) ?_
  refine s_step (g_copy (iRow iCX9_bearsNew_0 23 rfl) w9_81 kn_51 ka_51 kn_49 ka_49 (by decide) kl_110 (by decide) (by omega)) ?_
  refine s_nmM (fun M3 => ?_)
  refine s_step (g_aload_n (iRow iCX9_bearsNew_1 0 rfl) rfl rfl) ?_
  refine s_step (g_getR (iRow iCX9_bearsNew_1 1 rfl) f9_11 ko_10 (r_10_0 _ _)) ?_
  refine s_step (g_bipush (iRow iCX9_bearsNew_1 2 rfl) kb_10) ?_
  refine s_step (g_iload_n (iRow iCX9_bearsNew_1 3 rfl) rfl rfl) ?_
  refine s_gi (fun h => g_iast (iRow iCX9_bearsNew_1 4 rfl) kn_47 ka_47 h) ?_
  refine s_nmM (fun M4 => ?_)
  refine s_step (g_aload_n (iRow iCX9_bearsNew_1 5 rfl) rfl rfl) ?_
  refine s_step (g_bipush (iRow iCX9_bearsNew_1 6 rfl) kb_10) ?_
  refine s_step (g_iload_n (iRow iCX9_bearsNew_1 7 rfl) rfl rfl) ?_
  refine s_cl (sf := fun x => vI x :: []) (fun _ _ h => h_V (As := [_, _]) (iRow iCX9_bearsNew_1 8 rfl) l9_65 iX9_lay ko_10 rfl rfl rfl rfl (t_X9_lay (d + 0) h) rfl (by omega) (by decide) (Nat.le_of_ble_eq_true rfl)) (fun x6 M5 => ?_)
  refine s_ifn (g_if_ne (tgt := 66) (iRow iCX9_bearsNew_1 9 rfl) (by decide)) (fun _ => ?_) (fun _ => ?_)
  · refine s_step (g_iconst (iRow iCX9_bearsNew_1 10 rfl) kc_1) ?_
    refine s_step (g_goto (tgt := 67) (iRow iCX9_bearsNew_1 11 rfl) (by decide)) ?_
    exact s_retz (b := true) (iRow iCX9_bearsNew_1 13 rfl) rfl rfl
  · refine s_step (g_iconst (iRow iCX9_bearsNew_1 12 rfl) kc_0) ?_
    exact s_retz (b := false) (iRow iCX9_bearsNew_1 13 rfl) rfl rfl
abbrev YX10_addChances : mY := (RX10, "addChances", cX10_addChances, 7, none, none)
set_option maxHeartbeats 400000 in
set_option maxRecDepth 20000 in
theorem t_X10_addChances {G : mg} {F : Nat} {a1 : Int32} {a2 : Int32} {a3 : Int32} {M : mm} {M' : mm} (d : Nat) (h : m_X10_addChances F a1 a2 a3 M = some M') : CM G yX10_addChances cX10_addChances 7 none (d + 4) [vR 11 0, vI a1, vI a2, vI a3] M none M' := by
  refine ct_v (ls := [some (vR 11 0), some (vI a1), some (vI a2), some (vI a3), none, none, none]) rfl rfl (Nat.le_of_ble_eq_true rfl) (fun Z => ?_) h
  show SW G (d + 4) YX10_addChances Z 0 [some (vR 11 0), some (vI a1), some (vI a2), some (vI a3), none, none, none] [] M _ _
  unfold m_X10_addChances
  refine s_step (g_iconst (iRow iCX10_addChances_0 0 rfl) kc_0) ?_
  refine s_step (g_istore (ls' := [some (vR 11 0), some (vI a1), some (vI a2), some (vI a3), some (vI (0 : Int32)), none, none]) (iRow iCX10_addChances_0 1 rfl) (by decide) rfl) ?_
  refine s_lp (fun z => [some (vR 11 0), some (vI a1), some (vI a2), some (vI a3), some (vI (z.1)), none, none]) (fun z => z.2) (fun z => LM G (d + 4) YX10_addChances Z 106 [none, none, none, none, none, none, none] [] z) rfl rfl ?_ ?_
  · rintro ⟨x1, M2⟩
    show SW G (d + 4) YX10_addChances Z 3 [some (vR 11 0), some (vI a1), some (vI a2), some (vI a3), some (vI x1), none, none] [] M2 (b_X10_addChances_1c F a1 a2 a3 x1 M2) _
    unfold b_X10_addChances_1c
    refine s_step (g_iload (iRow iCX10_addChances_0 2 rfl) rfl) ?_
    refine s_step (g_aload_n (iRow iCX10_addChances_0 3 rfl) rfl rfl) ?_
    refine s_step (g_getR (iRow iCX10_addChances_0 4 rfl) f10_41 ko_11 (r_11_1 _ _)) ?_
    refine s_step (g_getI (iRow iCX10_addChances_0 5 rfl) f10_61 ko_1) ?_
    refine s_if (g_icmp_ge (tgt := 106) (iRow iCX10_addChances_0 6 rfl) (by decide)) (fun _ => ?_) (fun _ => ?_)
    · refine s_step (g_keep [false, false, false, false, false, false, false] rfl) ?_
      exact s_end (fun h => h)
    · refine s_step (g_iconst (iRow iCX10_addChances_0 7 rfl) kc_0) ?_
      refine s_step (g_istore (ls' := [some (vR 11 0), some (vI a1), some (vI a2), some (vI a3), some (vI x1), some (vI (0 : Int32)), none]) (iRow iCX10_addChances_0 8 rfl) (by decide) rfl) ?_
      refine s_lp (fun z => [some (vR 11 0), some (vI a1), some (vI a2), some (vI a3), some (vI x1), some (vI (z.1)), none]) (fun z => z.2) (fun z => LM G (d + 4) YX10_addChances Z 100 [some (vR 11 0), some (vI a1), some (vI a2), some (vI a3), some (vI x1), none, none] [] z) rfl rfl ?_ ?_
      · rintro ⟨x3, M4⟩
        show SW G (d + 4) YX10_addChances Z 18 [some (vR 11 0), some (vI a1), some (vI a2), some (vI a3), some (vI x1), some (vI x3), none] [] M4 (b_X10_addChances_2c F a1 a2 a3 x1 x3 M4) _
        unfold b_X10_addChances_2c
        refine s_step (g_iload (iRow iCX10_addChances_0 9 rfl) rfl) ?_
        refine s_step (g_iload (iRow iCX10_addChances_0 10 rfl) rfl) ?_
        refine s_if (g_icmp_gt (tgt := 100) (iRow iCX10_addChances_0 11 rfl) (by decide)) (fun _ => ?_) (fun _ => ?_)
        · refine s_step (g_keep [true, true, true, true, true, false, false] rfl) ?_
          exact s_end (fun h => h)
        · refine s_step (g_iload (iRow iCX10_addChances_0 12 rfl) rfl) ?_
          refine s_step (g_bipush (iRow iCX10_addChances_0 13 rfl) kb_10) ?_
          refine s_step (g_imul (iRow iCX10_addChances_0 14 rfl)) ?_
          refine s_step (g_iload (iRow iCX10_addChances_0 15 rfl) rfl) ?_
          refine s_step (g_iadd (iRow iCX10_addChances_0 16 rfl)) ?_
          refine s_nmI (fun x5 => ?_)
          refine s_step (g_istore (ls' := [some (vR 11 0), some (vI a1), some (vI a2), some (vI a3), some (vI x1), some (vI x3), some (vI x5)]) (iRow iCX10_addChances_0 17 rfl) (by decide) rfl) ?_
          refine s_step (g_iload_n (iRow iCX10_addChances_0 18 rfl) rfl rfl) ?_
          refine s_bd (fun z => LM G (d + 4) YX10_addChances Z 94 [some (vR 11 0), some (vI a1), some (vI a2), some (vI a3), some (vI x1), some (vI x3), none] [] z) ?_ ?_
          · refine s_nj 50 (fun z => [some (vR 11 0), some (vI a1), some (vI a2), some (vI a3), some (vI x1), some (vI x3), some (vI x5)]) (fun z => []) (fun z => M4) ?_ (fun j50 hj50 => ?_)
            · intro _
              show SW G (d + 4) YX10_addChances Z 50 [some (vR 11 0), some (vI a1), some (vI a2), some (vI a3), some (vI x1), some (vI x3), some (vI x5)] [] M4 _ _
              try dsimp only
              refine s_step (g_aload_n (iRow iCX10_addChances_1 2 rfl) rfl rfl) ?_
              refine s_step (g_getR (iRow iCX10_addChances_1 3 rfl) f10_37 ko_11 (r_11_0 _ _)) ?_
              refine s_step (g_iconst (iRow iCX10_addChances_1 4 rfl) kc_1) ?_
              refine s_step (g_iload (iRow iCX10_addChances_1 5 rfl) rfl) ?_
              refine s_step (g_ishl (iRow iCX10_addChances_1 6 rfl)) ?_
              refine s_step (g_iconst (iRow iCX10_addChances_1 7 rfl) kc_1) ?_
              refine s_step (g_iload (iRow iCX10_addChances_1 8 rfl) rfl) ?_
              refine s_step (g_ishl (iRow iCX10_addChances_1 9 rfl)) ?_
              refine s_step (g_ior (iRow iCX10_addChances_1 10 rfl)) ?_
              refine s_step (g_iload_n (iRow iCX10_addChances_1 11 rfl) rfl rfl) ?_
              refine s_cb (sf := fun b => vI (bI b) :: []) (fun _ _ h => h_V (As := [_, _]) (iRow iCX10_addChances_1 12 rfl) l10_139 iX9_bearsNew ko_10 rfl rfl rfl rfl (t_X9_bearsNew (d + 0) h) rfl (by omega) (by decide) (Nat.le_of_ble_eq_true rfl)) (fun b7 M6 => ?_)
              refine s_ifeqb (g_if_eq (tgt := 94) (iRow iCX10_addChances_1 13 rfl) (by decide)) (fun _ => ?_) (fun _ => ?_)
              · refine s_step (g_aload_n (iRow iCX10_addChances_1 14 rfl) rfl rfl) ?_
                refine s_step (g_getR (iRow iCX10_addChances_1 15 rfl) f10_28 ko_11 (r_11_9 _ _)) ?_
                refine s_step (g_iload (iRow iCX10_addChances_1 16 rfl) rfl) ?_
                refine s_step (g_iload_n (iRow iCX10_addChances_1 17 rfl) rfl rfl) ?_
                refine s_bd (fun z => LM G (d + 4) YX10_addChances Z 93 [some (vR 11 0), some (vI a1), some (vI a2), some (vI a3), some (vI x1), some (vI x3), none] [vI z, vI x5, vR 57 0] M6) ?_ ?_
                · refine s_if (g_if_eq (tgt := 84) (iRow iCX10_addChances_1 18 rfl) (by decide)) (fun _ => ?_) (fun _ => ?_)
                  · refine s_step (g_aload_n (iRow iCX10_addChances_1 21 rfl) rfl rfl) ?_
                    refine s_step (g_getR (iRow iCX10_addChances_1 22 rfl) f10_28 ko_11 (r_11_9 _ _)) ?_
                    refine s_step (g_iload (iRow iCX10_addChances_1 23 rfl) rfl) ?_
                    refine s_gi (fun h => g_iald (iRow iCX10_addChances_2 0 rfl) kn_57 ka_57 h) ?_
                    refine s_step (g_iload_n (iRow iCX10_addChances_2 1 rfl) rfl rfl) ?_
                    refine s_step (g_iadd (iRow iCX10_addChances_2 2 rfl)) ?_
                    refine s_step (g_keep [true, true, true, true, true, true, false] rfl) ?_
                    exact s_end (fun h => h)
                  · refine s_step (g_iconst (iRow iCX10_addChances_1 19 rfl) kc_0) ?_
                    refine s_step (g_goto (tgt := 93) (iRow iCX10_addChances_1 20 rfl) (by decide)) ?_
                    refine s_step (g_keep [true, true, true, true, true, true, false] rfl) ?_
                    exact s_end (fun h => h)
                · rintro x8
                  show SW G (d + 4) YX10_addChances Z 93 [some (vR 11 0), some (vI a1), some (vI a2), some (vI a3), some (vI x1), some (vI x3), none] [vI x8, vI x5, vR 57 0] M6 _ _
                  try dsimp only
                  refine s_gi (fun h => g_iast (iRow iCX10_addChances_2 3 rfl) kn_57 ka_57 h) ?_
                  refine s_nmM (fun M9 => ?_)
                  exact s_end (fun h => h)
              · refine s_step (g_keep [true, true, true, true, true, true, false] rfl) ?_
                exact s_end (fun h => h)
            · refine s_ifn (g_if_ne (tgt := 50) (iRow iCX10_addChances_0 19 rfl) (by decide)) (fun _ => ?_) (fun _ => ?_)
              · refine s_step (g_aload_n (iRow iCX10_addChances_0 20 rfl) rfl rfl) ?_
                refine s_step (g_getR (iRow iCX10_addChances_0 21 rfl) f10_28 ko_11 (r_11_9 _ _)) ?_
                refine s_step (g_iload (iRow iCX10_addChances_0 22 rfl) rfl) ?_
                refine s_gi (fun h => g_iald (iRow iCX10_addChances_0 23 rfl) kn_57 ka_57 h) ?_
                refine s_step (g_iconst (iRow iCX10_addChances_1 0 rfl) kc_m1) ?_
                refine s_if (g_icmp_eq (tgt := 94) (iRow iCX10_addChances_1 1 rfl) (by decide)) (fun _ => ?_) (fun _ => ?_)
                · refine s_step (g_keep [true, true, true, true, true, true, false] rfl) ?_
                  exact s_end (fun h => h)
                · exact hj50 _
              · exact hj50 _
          · rintro M10
            show SW G (d + 4) YX10_addChances Z 94 [some (vR 11 0), some (vI a1), some (vI a2), some (vI a3), some (vI x1), some (vI x3), none] [] M10 _ _
            try dsimp only
            refine s_step (g_iincc (c := 1) (ls' := [some (vR 11 0), some (vI a1), some (vI a2), some (vI a3), some (vI x1), some (vI (x3 + (1 : Int32))), none]) (iRow iCX10_addChances_2 4 rfl) rfl kc_1 (by decide) rfl) ?_
            refine s_step (g_goto (tgt := 18) (iRow iCX10_addChances_2 5 rfl) (by decide)) ?_
            exact s_end (fun h => h)
      · rintro M11
        show SW G (d + 4) YX10_addChances Z 100 [some (vR 11 0), some (vI a1), some (vI a2), some (vI a3), some (vI x1), none, none] [] M11 _ _
        try dsimp only
        refine s_step (g_iincc (c := 1) (ls' := [some (vR 11 0), some (vI a1), some (vI a2), some (vI a3), some (vI (x1 + (1 : Int32))), none, none]) (iRow iCX10_addChances_2 6 rfl) rfl kc_1 (by decide) rfl) ?_
        refine s_step (g_goto (tgt := 3) (iRow iCX10_addChances_2 7 rfl) (by decide)) ?_
        exact s_end (fun h => h)
  · rintro M12
    show SW G (d + 4) YX10_addChances Z 106 [none, none, none, none, none, none, none] [] M12 _ _
    try dsimp only
    exact s_retv (iRow iCX10_addChances_2 8 rfl) rfl
abbrev YX10_prefer : mY := (RX10, "prefer", cX10_prefer, 4, none, none)
set_option maxHeartbeats 400000 in
set_option maxRecDepth 20000 in
theorem t_X10_prefer {G : mg} {F : Nat} {a1 : Int32} {a2 : Int32} {M : mm} {M' : mm} (d : Nat) (h : m_X10_prefer F a1 a2 M = some M') : CM G yX10_prefer cX10_prefer 4 none (d + 0) [vR 11 0, vI a1, vI a2] M none M' := by
  refine ct_v (ls := [some (vR 11 0), some (vI a1), some (vI a2), none]) rfl rfl (Nat.le_of_ble_eq_true rfl) (fun Z => ?_) h
  show SW G (d + 0) YX10_prefer Z 0 [some (vR 11 0), some (vI a1), some (vI a2), none] [] M _ _
  unfold m_X10_prefer
  refine s_step (g_aload_n (iRow iCX10_prefer_0 0 rfl) rfl rfl) ?_
  refine s_step (g_getR (iRow iCX10_prefer_0 1 rfl) f10_28 ko_11 (r_11_9 _ _)) ?_
  refine s_step (g_iload_n (iRow iCX10_prefer_0 2 rfl) rfl rfl) ?_
  refine s_step (g_bipush (iRow iCX10_prefer_0 3 rfl) kb_10) ?_
  refine s_step (g_imul (iRow iCX10_prefer_0 4 rfl)) ?_
  refine s_step (g_iload_n (iRow iCX10_prefer_0 5 rfl) rfl rfl) ?_
  refine s_step (g_iadd (iRow iCX10_prefer_0 6 rfl)) ?_
  refine s_gi (fun h => g_iald (iRow iCX10_prefer_0 7 rfl) kn_57 ka_57 h) ?_
  refine s_nmI (fun x1 => ?_)
  refine s_step (g_istore_n (ls' := [some (vR 11 0), some (vI a1), some (vI a2), some (vI x1)]) (iRow iCX10_prefer_0 8 rfl) rfl (by decide) rfl) ?_
  refine s_step (g_iload_n (iRow iCX10_prefer_0 9 rfl) rfl rfl) ?_
  refine s_step (g_aload_n (iRow iCX10_prefer_0 10 rfl) rfl rfl) ?_
  refine s_step (g_getI (iRow iCX10_prefer_0 11 rfl) f10_126 ko_11) ?_
  refine s_if (g_icmp_le (tgt := 36) (iRow iCX10_prefer_0 12 rfl) (by decide)) (fun _ => ?_) (fun _ => ?_)
  · exact s_retv (iRow iCX10_prefer_1 1 rfl) rfl
  · refine s_step (g_aload_n (iRow iCX10_prefer_0 13 rfl) rfl rfl) ?_
    refine s_step (g_iload_n (iRow iCX10_prefer_0 14 rfl) rfl rfl) ?_
    refine s_step (g_putI (iRow iCX10_prefer_0 15 rfl) f10_126 (Or.inl rfl) ko_11) ?_
    refine s_nmM (fun M2 => ?_)
    refine s_step (g_aload_n (iRow iCX10_prefer_0 16 rfl) rfl rfl) ?_
    refine s_step (g_iconst (iRow iCX10_prefer_0 17 rfl) kc_1) ?_
    refine s_step (g_iload_n (iRow iCX10_prefer_0 18 rfl) rfl rfl) ?_
    refine s_step (g_ishl (iRow iCX10_prefer_0 19 rfl)) ?_
    refine s_step (g_iconst (iRow iCX10_prefer_0 20 rfl) kc_1) ?_
    refine s_step (g_iload_n (iRow iCX10_prefer_0 21 rfl) rfl rfl) ?_
    refine s_step (g_ishl (iRow iCX10_prefer_0 22 rfl)) ?_
    refine s_step (g_ior (iRow iCX10_prefer_0 23 rfl)) ?_
    refine s_step (g_putI (iRow iCX10_prefer_1 0 rfl) f10_129 (Or.inl rfl) ko_11) ?_
    refine s_nmM (fun M3 => ?_)
    exact s_retv (iRow iCX10_prefer_1 1 rfl) rfl
abbrev YX10_findSurest : mY := (RX10, "findSurest", cX10_findSurest, 5, none, none)
set_option maxHeartbeats 400000 in
set_option maxRecDepth 20000 in
theorem t_X10_findSurest {G : mg} {F : Nat} {a1 : Int32} {M : mm} {M' : mm} (d : Nat) (h : m_X10_findSurest F a1 M = some M') : CM G yX10_findSurest cX10_findSurest 5 none (d + 5) [vR 11 0, vI a1] M none M' := by
  refine ct_v (ls := [some (vR 11 0), some (vI a1), none, none, none]) rfl rfl (Nat.le_of_ble_eq_true rfl) (fun Z => ?_) h
  show SW G (d + 5) YX10_findSurest Z 0 [some (vR 11 0), some (vI a1), none, none, none] [] M _ _
  unfold m_X10_findSurest
  refine s_step (g_iconst (iRow iCX10_findSurest_0 0 rfl) kc_0) ?_
  refine s_step (g_istore_n (ls' := [some (vR 11 0), some (vI a1), some (vI (0 : Int32)), none, none]) (iRow iCX10_findSurest_0 1 rfl) rfl (by decide) rfl) ?_
  refine s_lp (fun z => [some (vR 11 0), some (vI a1), some (vI (z.1)), none, none]) (fun z => z.2) (fun z => LM G (d + 5) YX10_findSurest Z 24 [some (vR 11 0), some (vI a1), none, none, none] [] z) rfl rfl ?_ ?_
  · rintro ⟨x1, M2⟩
    show SW G (d + 5) YX10_findSurest Z 2 [some (vR 11 0), some (vI a1), some (vI x1), none, none] [] M2 (b_X10_findSurest_1c F x1 M2) _
    unfold b_X10_findSurest_1c
    refine s_step (g_iload_n (iRow iCX10_findSurest_0 2 rfl) rfl rfl) ?_
    refine s_step (g_aload_n (iRow iCX10_findSurest_0 3 rfl) rfl rfl) ?_
    refine s_step (g_getR (iRow iCX10_findSurest_0 4 rfl) f10_28 ko_11 (r_11_9 _ _)) ?_
    refine s_step (g_alen (iRow iCX10_findSurest_0 5 rfl) kn_57 ka_57 (by decide) (by decide) kl_100) ?_
    refine s_if (g_icmp_ge (tgt := 24) (iRow iCX10_findSurest_0 6 rfl) (by decide)) (fun _ => ?_) (fun _ => ?_)
    · refine s_step (g_keep [true, true, false, false, false] rfl) ?_
      exact s_end (fun h => h)
    · refine s_step (g_aload_n (iRow iCX10_findSurest_0 7 rfl) rfl rfl) ?_
      refine s_step (g_getR (iRow iCX10_findSurest_0 8 rfl) f10_28 ko_11 (r_11_9 _ _)) ?_
      refine s_step (g_iload_n (iRow iCX10_findSurest_0 9 rfl) rfl rfl) ?_
      refine s_step (g_iconst (iRow iCX10_findSurest_0 10 rfl) kc_m1) ?_
      refine s_gi (fun h => g_iast (iRow iCX10_findSurest_0 11 rfl) kn_57 ka_57 h) ?_
      refine s_nmM (fun M3 => ?_)
      refine s_step (g_iincc (c := 1) (ls' := [some (vR 11 0), some (vI a1), some (vI (x1 + (1 : Int32))), none, none]) (iRow iCX10_findSurest_0 12 rfl) rfl kc_1 (by decide) rfl) ?_
      refine s_step (g_goto (tgt := 2) (iRow iCX10_findSurest_0 13 rfl) (by decide)) ?_
      exact s_end (fun h => h)
  · rintro M4
    show SW G (d + 5) YX10_findSurest Z 24 [some (vR 11 0), some (vI a1), none, none, none] [] M4 _ _
    try dsimp only
    refine s_step (g_aload_n (iRow iCX10_findSurest_0 14 rfl) rfl rfl) ?_
    refine s_step (g_iconst (iRow iCX10_findSurest_0 15 rfl) kc_0) ?_
    refine s_cv (stA := []) (fun _ h => h_V (As := [_]) (iRow iCX10_findSurest_0 16 rfl) l10_118 iX10_layBase ko_11 rfl rfl rfl rfl (t_X10_layBase (d + 0) h) rfl (by omega) (by decide) (Nat.le_of_ble_eq_true rfl)) (fun M5 => ?_)
    refine s_step (g_aload_n (iRow iCX10_findSurest_0 17 rfl) rfl rfl) ?_
    refine s_step (g_iload_n (iRow iCX10_findSurest_0 18 rfl) rfl rfl) ?_
    refine s_step (g_iconst (iRow iCX10_findSurest_0 19 rfl) kc_0) ?_
    refine s_step (g_iconst (iRow iCX10_findSurest_0 20 rfl) kc_1) ?_
    refine s_cv (stA := []) (fun _ h => h_V (As := [_, _, _]) (iRow iCX10_findSurest_0 21 rfl) l10_122 iX10_addChances ko_11 rfl rfl rfl rfl (t_X10_addChances (d + 0) h) rfl (by omega) (by decide) (Nat.le_of_ble_eq_true rfl)) (fun M6 => ?_)
    refine s_step (g_iconst (iRow iCX10_findSurest_0 22 rfl) kc_0) ?_
    refine s_step (g_istore_n (ls' := [some (vR 11 0), some (vI a1), some (vI (0 : Int32)), none, none]) (iRow iCX10_findSurest_0 23 rfl) rfl (by decide) rfl) ?_
    refine s_lp (fun z => [some (vR 11 0), some (vI a1), some (vI (z.1)), none, none]) (fun z => z.2) (fun z => LM G (d + 5) YX10_findSurest Z 103 [some (vR 11 0), none, none, none, none] [] z) rfl rfl ?_ ?_
    · rintro ⟨x7, M8⟩
      show SW G (d + 5) YX10_findSurest Z 38 [some (vR 11 0), some (vI a1), some (vI x7), none, none] [] M8 (b_X10_findSurest_2c F a1 x7 M8) _
      unfold b_X10_findSurest_2c
      refine s_step (g_iload_n (iRow iCX10_findSurest_1 0 rfl) rfl rfl) ?_
      refine s_step (g_iconst (iRow iCX10_findSurest_1 1 rfl) kc_1) ?_
      refine s_step (g_aload_n (iRow iCX10_findSurest_1 2 rfl) rfl rfl) ?_
      refine s_step (g_getR (iRow iCX10_findSurest_1 3 rfl) f10_41 ko_11 (r_11_1 _ _)) ?_
      refine s_step (g_getI (iRow iCX10_findSurest_1 4 rfl) f10_103 ko_1) ?_
      refine s_step (g_ishl (iRow iCX10_findSurest_1 5 rfl)) ?_
      refine s_if (g_icmp_ge (tgt := 103) (iRow iCX10_findSurest_1 6 rfl) (by decide)) (fun _ => ?_) (fun _ => ?_)
      · refine s_step (g_keep [true, false, false, false, false] rfl) ?_
        exact s_end (fun h => h)
      · refine s_step (g_aload_n (iRow iCX10_findSurest_1 7 rfl) rfl rfl) ?_
        refine s_step (g_iload_n (iRow iCX10_findSurest_1 8 rfl) rfl rfl) ?_
        refine s_cl (sf := fun x => vI x :: []) (fun _ _ h => h_V (As := [_]) (iRow iCX10_findSurest_1 9 rfl) l10_109 iX10_chanceOfChoices ko_11 rfl rfl rfl rfl (t_X10_chanceOfChoices (d + 4) h) rfl (by omega) (by decide) (Nat.le_of_ble_eq_true rfl)) (fun x10 M9 => ?_)
        refine s_step (g_istore_n (ls' := [some (vR 11 0), some (vI a1), some (vI x7), some (vI x10), none]) (iRow iCX10_findSurest_1 10 rfl) rfl (by decide) rfl) ?_
        refine s_step (g_aload_n (iRow iCX10_findSurest_1 11 rfl) rfl rfl) ?_
        refine s_step (g_iload_n (iRow iCX10_findSurest_1 12 rfl) rfl rfl) ?_
        refine s_cl (sf := fun x => vI x :: []) (fun _ _ h => h_V (As := [_]) (iRow iCX10_findSurest_1 13 rfl) l10_106 iX10_brokenBy ko_11 rfl rfl rfl rfl (t_X10_brokenBy (d + 4) h) rfl (by omega) (by decide) (Nat.le_of_ble_eq_true rfl)) (fun x12 M11 => ?_)
        refine s_step (g_istore (ls' := [some (vR 11 0), some (vI a1), some (vI x7), some (vI x10), some (vI x12)]) (iRow iCX10_findSurest_1 14 rfl) (by decide) rfl) ?_
        refine s_step (g_iload_n (iRow iCX10_findSurest_1 15 rfl) rfl rfl) ?_
        refine s_bd (fun z => LM G (d + 5) YX10_findSurest Z 97 [some (vR 11 0), some (vI a1), some (vI x7), none, none] [] z) ?_ ?_
        · refine s_if (g_if_le (tgt := 97) (iRow iCX10_findSurest_1 16 rfl) (by decide)) (fun _ => ?_) (fun _ => ?_)
          · refine s_step (g_keep [true, true, true, false, false] rfl) ?_
            exact s_end (fun h => h)
          · refine s_step (g_aload_n (iRow iCX10_findSurest_1 17 rfl) rfl rfl) ?_
            refine s_step (g_iload (iRow iCX10_findSurest_1 18 rfl) rfl) ?_
            refine s_cl (sf := fun x => vI x :: []) (fun _ _ h => h_V (As := [_]) (iRow iCX10_findSurest_1 19 rfl) l10_94 iX10_upIf ko_11 rfl rfl rfl rfl (t_X10_upIf (d + 0) h) rfl (by omega) (by decide) (Nat.le_of_ble_eq_true rfl)) (fun x14 M13 => ?_)
            refine s_step (g_aload_n (iRow iCX10_findSurest_1 20 rfl) rfl rfl) ?_
            refine s_step (g_getR (iRow iCX10_findSurest_1 21 rfl) f10_12 ko_11 (r_11_2 _ _)) ?_
            refine s_step (g_getI (iRow iCX10_findSurest_1 22 rfl) f10_75 ko_5) ?_
            refine s_ifn (g_icmp_ne (tgt := 97) (iRow iCX10_findSurest_1 23 rfl) (by decide)) (fun _ => ?_) (fun _ => ?_)
            · refine s_step (g_aload_n (iRow iCX10_findSurest_2 0 rfl) rfl rfl) ?_
              refine s_step (g_iload (iRow iCX10_findSurest_2 1 rfl) rfl) ?_
              refine s_cv (stA := []) (fun _ h => h_V (As := [_]) (iRow iCX10_findSurest_2 2 rfl) l10_118 iX10_layBase ko_11 rfl rfl rfl rfl (t_X10_layBase (d + 0) h) rfl (by omega) (by decide) (Nat.le_of_ble_eq_true rfl)) (fun M15 => ?_)
              refine s_step (g_aload_n (iRow iCX10_findSurest_2 3 rfl) rfl rfl) ?_
              refine s_step (g_iload_n (iRow iCX10_findSurest_2 4 rfl) rfl rfl) ?_
              refine s_step (g_iload_n (iRow iCX10_findSurest_2 5 rfl) rfl rfl) ?_
              refine s_step (g_iconst (iRow iCX10_findSurest_2 6 rfl) kc_0) ?_
              refine s_cv (stA := []) (fun _ h => h_V (As := [_, _, _]) (iRow iCX10_findSurest_2 7 rfl) l10_122 iX10_addChances ko_11 rfl rfl rfl rfl (t_X10_addChances (d + 0) h) rfl (by omega) (by decide) (Nat.le_of_ble_eq_true rfl)) (fun M16 => ?_)
              refine s_step (g_keep [true, true, true, false, false] rfl) ?_
              exact s_end (fun h => h)
            · refine s_step (g_keep [true, true, true, false, false] rfl) ?_
              exact s_end (fun h => h)
        · rintro M17
          show SW G (d + 5) YX10_findSurest Z 97 [some (vR 11 0), some (vI a1), some (vI x7), none, none] [] M17 _ _
          try dsimp only
          refine s_step (g_iincc (c := 1) (ls' := [some (vR 11 0), some (vI a1), some (vI (x7 + (1 : Int32))), none, none]) (iRow iCX10_findSurest_2 8 rfl) rfl kc_1 (by decide) rfl) ?_
          refine s_step (g_goto (tgt := 38) (iRow iCX10_findSurest_2 9 rfl) (by decide)) ?_
          exact s_end (fun h => h)
    · rintro M18
      show SW G (d + 5) YX10_findSurest Z 103 [some (vR 11 0), none, none, none, none] [] M18 _ _
      try dsimp only
      refine s_step (g_aload_n (iRow iCX10_findSurest_2 10 rfl) rfl rfl) ?_
      refine s_step (g_iconst (iRow iCX10_findSurest_2 11 rfl) kc_m1) ?_
      refine s_step (g_putI (iRow iCX10_findSurest_2 12 rfl) f10_126 (Or.inl rfl) ko_11) ?_
      refine s_nmM (fun M19 => ?_)
      refine s_step (g_aload_n (iRow iCX10_findSurest_2 13 rfl) rfl rfl) ?_
      refine s_step (g_iconst (iRow iCX10_findSurest_2 14 rfl) kc_m1) ?_
      refine s_step (g_putI (iRow iCX10_findSurest_2 15 rfl) f10_129 (Or.inl rfl) ko_11) ?_
      refine s_nmM (fun M20 => ?_)
      refine s_step (g_iconst (iRow iCX10_findSurest_2 16 rfl) kc_0) ?_
      refine s_step (g_istore_n (ls' := [some (vR 11 0), none, some (vI (0 : Int32)), none, none]) (iRow iCX10_findSurest_2 17 rfl) rfl (by decide) rfl) ?_
      refine s_lp (fun z => [some (vR 11 0), none, some (vI (z.1)), none, none]) (fun z => z.2) (fun z => LM G (d + 5) YX10_findSurest Z 157 [none, none, none, none, none] [] z) rfl rfl ?_ ?_
      · rintro ⟨x21, M22⟩
        show SW G (d + 5) YX10_findSurest Z 115 [some (vR 11 0), none, some (vI x21), none, none] [] M22 (b_X10_findSurest_3c F x21 M22) _
        unfold b_X10_findSurest_3c
        refine s_step (g_iload_n (iRow iCX10_findSurest_2 18 rfl) rfl rfl) ?_
        refine s_step (g_aload_n (iRow iCX10_findSurest_2 19 rfl) rfl rfl) ?_
        refine s_step (g_getR (iRow iCX10_findSurest_2 20 rfl) f10_41 ko_11 (r_11_1 _ _)) ?_
        refine s_step (g_getI (iRow iCX10_findSurest_2 21 rfl) f10_61 ko_1) ?_
        refine s_if (g_icmp_ge (tgt := 157) (iRow iCX10_findSurest_2 22 rfl) (by decide)) (fun _ => ?_) (fun _ => ?_)
        · refine s_step (g_keep [false, false, false, false, false] rfl) ?_
          exact s_end (fun h => h)
        · refine s_step (g_aload_n (iRow iCX10_findSurest_2 23 rfl) rfl rfl) ?_
          refine s_step (g_iload_n (iRow iCX10_findSurest_3 0 rfl) rfl rfl) ?_
          refine s_step (g_iload_n (iRow iCX10_findSurest_3 1 rfl) rfl rfl) ?_
          refine s_cv (stA := []) (fun _ h => h_V (As := [_, _]) (iRow iCX10_findSurest_3 2 rfl) l10_132 iX10_prefer ko_11 rfl rfl rfl rfl (t_X10_prefer (d + 4) h) rfl (by omega) (by decide) (Nat.le_of_ble_eq_true rfl)) (fun M23 => ?_)
          refine s_step (g_iconst (iRow iCX10_findSurest_3 3 rfl) kc_0) ?_
          refine s_step (g_istore_n (ls' := [some (vR 11 0), none, some (vI x21), some (vI (0 : Int32)), none]) (iRow iCX10_findSurest_3 4 rfl) rfl (by decide) rfl) ?_
          refine s_lp (fun z => [some (vR 11 0), none, some (vI x21), some (vI (z.1)), none]) (fun z => z.2) (fun z => LM G (d + 5) YX10_findSurest Z 151 [some (vR 11 0), none, some (vI x21), none, none] [] z) rfl rfl ?_ ?_
          · rintro ⟨x24, M25⟩
            show SW G (d + 5) YX10_findSurest Z 134 [some (vR 11 0), none, some (vI x21), some (vI x24), none] [] M25 (b_X10_findSurest_4c F x21 x24 M25) _
            unfold b_X10_findSurest_4c
            refine s_step (g_iload_n (iRow iCX10_findSurest_3 5 rfl) rfl rfl) ?_
            refine s_step (g_iload_n (iRow iCX10_findSurest_3 6 rfl) rfl rfl) ?_
            refine s_if (g_icmp_ge (tgt := 151) (iRow iCX10_findSurest_3 7 rfl) (by decide)) (fun _ => ?_) (fun _ => ?_)
            · refine s_step (g_keep [true, false, true, false, false] rfl) ?_
              exact s_end (fun h => h)
            · refine s_step (g_aload_n (iRow iCX10_findSurest_3 8 rfl) rfl rfl) ?_
              refine s_step (g_iload_n (iRow iCX10_findSurest_3 9 rfl) rfl rfl) ?_
              refine s_step (g_iload_n (iRow iCX10_findSurest_3 10 rfl) rfl rfl) ?_
              refine s_cv (stA := []) (fun _ h => h_V (As := [_, _]) (iRow iCX10_findSurest_3 11 rfl) l10_132 iX10_prefer ko_11 rfl rfl rfl rfl (t_X10_prefer (d + 4) h) rfl (by omega) (by decide) (Nat.le_of_ble_eq_true rfl)) (fun M26 => ?_)
              refine s_step (g_iincc (c := 1) (ls' := [some (vR 11 0), none, some (vI x21), some (vI (x24 + (1 : Int32))), none]) (iRow iCX10_findSurest_3 12 rfl) rfl kc_1 (by decide) rfl) ?_
              refine s_step (g_goto (tgt := 134) (iRow iCX10_findSurest_3 13 rfl) (by decide)) ?_
              exact s_end (fun h => h)
          · rintro M27
            show SW G (d + 5) YX10_findSurest Z 151 [some (vR 11 0), none, some (vI x21), none, none] [] M27 _ _
            try dsimp only
            refine s_step (g_iincc (c := 1) (ls' := [some (vR 11 0), none, some (vI (x21 + (1 : Int32))), none, none]) (iRow iCX10_findSurest_3 14 rfl) rfl kc_1 (by decide) rfl) ?_
            refine s_step (g_goto (tgt := 115) (iRow iCX10_findSurest_3 15 rfl) (by decide)) ?_
            exact s_end (fun h => h)
      · rintro M28
        show SW G (d + 5) YX10_findSurest Z 157 [none, none, none, none, none] [] M28 _ _
        try dsimp only
        exact s_retv (iRow iCX10_findSurest_3 16 rfl) rfl
abbrev YX11_surest : mY := (RX11, "surest", cX11_surest, 3, (some .int), none)
set_option maxHeartbeats 400000 in
set_option maxRecDepth 20000 in
theorem t_X11_surest {G : mg} {F : Nat} {a1 : Int32} {a2 : Int32} {M : mm} {x : Int32} {M' : mm} (d : Nat) (h : m_X11_surest F a1 a2 M = some (x, M')) : CM G yX11_surest cX11_surest 3 (some .int) (d + 6) [vR 12 0, vI a1, vI a2] M (some (vI x)) M' := by
  refine ct_i (ls := [some (vR 12 0), some (vI a1), some (vI a2)]) rfl rfl (Nat.le_of_ble_eq_true rfl) (fun Z => ?_) h
  show SW G (d + 6) YX11_surest Z 0 [some (vR 12 0), some (vI a1), some (vI a2)] [] M _ _
  unfold m_X11_surest
  refine s_step (g_iload_n (iRow iCX11_surest_0 0 rfl) rfl rfl) ?_
  refine s_if (g_if_lt (tgt := 19) (iRow iCX11_surest_0 1 rfl) (by decide)) (fun _ => ?_) (fun _ => ?_)
  · refine s_step (g_iconst (iRow iCX11_surest_0 10 rfl) kc_m1) ?_
    exact s_reti (iRow iCX11_surest_0 11 rfl) rfl
  · refine s_step (g_iload_n (iRow iCX11_surest_0 2 rfl) rfl rfl) ?_
    refine s_step (g_bipush (iRow iCX11_surest_0 3 rfl) kb_99) ?_
    refine s_if (g_icmp_gt (tgt := 19) (iRow iCX11_surest_0 4 rfl) (by decide)) (fun _ => ?_) (fun _ => ?_)
    · refine s_step (g_iconst (iRow iCX11_surest_0 10 rfl) kc_m1) ?_
      exact s_reti (iRow iCX11_surest_0 11 rfl) rfl
    · refine s_step (g_iload_n (iRow iCX11_surest_0 5 rfl) rfl rfl) ?_
      refine s_if (g_if_lt (tgt := 19) (iRow iCX11_surest_0 6 rfl) (by decide)) (fun _ => ?_) (fun _ => ?_)
      · refine s_step (g_iconst (iRow iCX11_surest_0 10 rfl) kc_m1) ?_
        exact s_reti (iRow iCX11_surest_0 11 rfl) rfl
      · refine s_step (g_iload_n (iRow iCX11_surest_0 7 rfl) rfl rfl) ?_
        refine s_step (g_iconst (iRow iCX11_surest_0 8 rfl) kc_1) ?_
        refine s_if (g_icmp_le (tgt := 21) (iRow iCX11_surest_0 9 rfl) (by decide)) (fun _ => ?_) (fun _ => ?_)
        · refine s_step (g_aload_n (iRow iCX11_surest_0 12 rfl) rfl rfl) ?_
          refine s_step (g_getR (iRow iCX11_surest_0 13 rfl) f11_66 ko_12 (r_12_4 _ _)) ?_
          refine s_step (g_aload_n (iRow iCX11_surest_0 14 rfl) rfl rfl) ?_
          refine s_step (g_getR (iRow iCX11_surest_0 15 rfl) f11_10 ko_12 (r_12_6 _ _)) ?_
          refine s_step (g_aload_n (iRow iCX11_surest_0 16 rfl) rfl rfl) ?_
          refine s_step (g_getR (iRow iCX11_surest_0 17 rfl) f11_82 ko_12 (r_12_8 _ _)) ?_
          refine s_cv (stA := []) (fun _ h => h_V (As := [_, _]) (iRow iCX11_surest_0 18 rfl) l11_244 iX10_look ko_11 rfl rfl rfl rfl (t_X10_look (d + 4) h) rfl (by omega) (by decide) (Nat.le_of_ble_eq_true rfl)) (fun M1 => ?_)
          refine s_step (g_aload_n (iRow iCX11_surest_0 19 rfl) rfl rfl) ?_
          refine s_step (g_getR (iRow iCX11_surest_0 20 rfl) f11_66 ko_12 (r_12_4 _ _)) ?_
          refine s_step (g_iload_n (iRow iCX11_surest_0 21 rfl) rfl rfl) ?_
          refine s_cv (stA := []) (fun _ h => h_V (As := [_]) (iRow iCX11_surest_0 22 rfl) l11_260 iX10_findSurest ko_11 rfl rfl rfl rfl (t_X10_findSurest (d + 0) h) rfl (by omega) (by decide) (Nat.le_of_ble_eq_true rfl)) (fun M2 => ?_)
          refine s_step (g_iload_n (iRow iCX11_surest_0 23 rfl) rfl rfl) ?_
          refine s_ifn (g_if_ne (tgt := 58) (iRow iCX11_surest_1 0 rfl) (by decide)) (fun _ => ?_) (fun _ => ?_)
          · refine s_step (g_aload_n (iRow iCX11_surest_1 1 rfl) rfl rfl) ?_
            refine s_step (g_getR (iRow iCX11_surest_1 2 rfl) f11_66 ko_12 (r_12_4 _ _)) ?_
            refine s_step (g_getI (iRow iCX11_surest_1 3 rfl) f11_264 ko_11) ?_
            refine s_step (g_goto (tgt := 65) (iRow iCX11_surest_1 4 rfl) (by decide)) ?_
            exact s_reti (iRow iCX11_surest_1 8 rfl) rfl
          · refine s_step (g_aload_n (iRow iCX11_surest_1 5 rfl) rfl rfl) ?_
            refine s_step (g_getR (iRow iCX11_surest_1 6 rfl) f11_66 ko_12 (r_12_4 _ _)) ?_
            refine s_step (g_getI (iRow iCX11_surest_1 7 rfl) f11_267 ko_11) ?_
            exact s_reti (iRow iCX11_surest_1 8 rfl) rfl
        · refine s_step (g_iconst (iRow iCX11_surest_0 10 rfl) kc_m1) ?_
          exact s_reti (iRow iCX11_surest_0 11 rfl) rfl
