abbrev YX5_readSupport : mY := (RX5, "readSupport", cX5_readSupport, 6, (some .boolean), none)
set_option maxHeartbeats 400000 in
set_option maxRecDepth 20000 in
theorem t_X5_readSupport {G : mg} {F : Nat} {a1 : Int32} {M : mm} {x : Bool} {M' : mm} (d : Nat) (h : m_X5_readSupport F a1 M = some (x, M')) : CM G yX5_readSupport cX5_readSupport 6 (some .boolean) (d + 1) [vR 6 0, vI a1] M (some (vI (bI x))) M' := by
  refine ct_z (ls := [some (vR 6 0), some (vI a1), none, none, none, none]) rfl rfl (Nat.le_of_ble_eq_true rfl) (fun Z => ?_) h
  show SW G (d + 1) YX5_readSupport Z 0 [some (vR 6 0), some (vI a1), none, none, none, none] [] M _ _
  unfold m_X5_readSupport
  refine s_step (g_aload_n (iRow iCX5_readSupport_0 0 rfl) rfl rfl) ?_
  refine s_step (g_getR (iRow iCX5_readSupport_0 1 rfl) f5_9 ko_6 (r_6_0 _ _)) ?_
  refine s_cb (sf := fun b => vI (bI b) :: []) (fun _ _ h => h_V (As := []) (iRow iCX5_readSupport_0 2 rfl) l5_178 iX6_isName ko_7 rfl rfl rfl rfl (t_X6_isName (d + 0) h) rfl (by omega) (by decide) (Nat.le_of_ble_eq_true rfl)) (fun b2 M1 => ?_)
  refine s_ifneb (g_if_ne (tgt := 16) (iRow iCX5_readSupport_0 3 rfl) (by decide)) (fun _ => ?_) (fun _ => ?_)
  · refine s_step (g_aload_n (iRow iCX5_readSupport_0 8 rfl) rfl rfl) ?_
    refine s_step (g_getR (iRow iCX5_readSupport_0 9 rfl) f5_15 ko_6 (r_6_2 _ _)) ?_
    refine s_step (g_getR (iRow iCX5_readSupport_0 10 rfl) f5_142 ko_1 (r_1_6 _ _)) ?_
    refine s_step (g_aload_n (iRow iCX5_readSupport_0 11 rfl) rfl rfl) ?_
    refine s_step (g_getR (iRow iCX5_readSupport_0 12 rfl) f5_15 ko_6 (r_6_2 _ _)) ?_
    refine s_step (g_getI (iRow iCX5_readSupport_0 13 rfl) f5_128 ko_1) ?_
    refine s_step (g_aload_n (iRow iCX5_readSupport_0 14 rfl) rfl rfl) ?_
    refine s_step (g_getR (iRow iCX5_readSupport_0 15 rfl) f5_9 ko_6 (r_6_0 _ _)) ?_
    refine s_step (g_getL (iRow iCX5_readSupport_0 16 rfl) f5_97 ko_7) ?_
    refine s_cl (sf := fun x => vI x :: []) (fun _ _ h => h_S (As := [_, _, _]) (iRow iCX5_readSupport_0 17 rfl) l5_181 iX5_find rfl rfl (t_X5_find_24 (d + 0) h) rfl (by omega) (by decide) (Nat.le_of_ble_eq_true rfl)) (fun x4 M3 => ?_)
    refine s_step (g_istore_n (ls' := [some (vR 6 0), some (vI a1), some (vI x4), none, none, none]) (iRow iCX5_readSupport_0 18 rfl) rfl (by decide) rfl) ?_
    refine s_step (g_aload_n (iRow iCX5_readSupport_0 19 rfl) rfl rfl) ?_
    refine s_step (g_getR (iRow iCX5_readSupport_0 20 rfl) f5_15 ko_6 (r_6_2 _ _)) ?_
    refine s_step (g_getR (iRow iCX5_readSupport_0 21 rfl) f5_172 ko_1 (r_1_14 _ _)) ?_
    refine s_step (g_aload_n (iRow iCX5_readSupport_0 22 rfl) rfl rfl) ?_
    refine s_step (g_getR (iRow iCX5_readSupport_0 23 rfl) f5_15 ko_6 (r_6_2 _ _)) ?_
    refine s_step (g_getI (iRow iCX5_readSupport_1 0 rfl) f5_151 ko_1) ?_
    refine s_step (g_aload_n (iRow iCX5_readSupport_1 1 rfl) rfl rfl) ?_
    refine s_step (g_getR (iRow iCX5_readSupport_1 2 rfl) f5_9 ko_6 (r_6_0 _ _)) ?_
    refine s_step (g_getL (iRow iCX5_readSupport_1 3 rfl) f5_97 ko_7) ?_
    refine s_cl (sf := fun x => vI x :: []) (fun _ _ h => h_S (As := [_, _, _]) (iRow iCX5_readSupport_1 4 rfl) l5_181 iX5_find rfl rfl (t_X5_find_30 (d + 0) h) rfl (by omega) (by decide) (Nat.le_of_ble_eq_true rfl)) (fun x6 M5 => ?_)
    refine s_step (g_istore_n (ls' := [some (vR 6 0), some (vI a1), some (vI x4), some (vI x6), none, none]) (iRow iCX5_readSupport_1 5 rfl) rfl (by decide) rfl) ?_
    refine s_step (g_iload_n (iRow iCX5_readSupport_1 6 rfl) rfl rfl) ?_
    refine s_step (g_iconst (iRow iCX5_readSupport_1 7 rfl) kc_m1) ?_
    refine s_nj 82 (fun z => [some (vR 6 0), some (vI a1), some (vI x4), some (vI x6), none, none]) (fun z => []) (fun z => M5) ?_ (fun j82 hj82 => ?_)
    · intro _
      show SW G (d + 1) YX5_readSupport Z 82 [some (vR 6 0), some (vI a1), some (vI x4), some (vI x6), none, none] [] M5 _ _
      try dsimp only
      refine s_step (g_iload_n (iRow iCX5_readSupport_1 16 rfl) rfl rfl) ?_
      refine s_step (g_iconst (iRow iCX5_readSupport_1 17 rfl) kc_m1) ?_
      refine s_bd (fun z => LM G (d + 1) YX5_readSupport Z 94 [some (vR 6 0), some (vI a1), none, some (vI x6), none, none] [vI z] M5) ?_ ?_
      · refine s_ifn (g_icmp_ne (tgt := 91) (iRow iCX5_readSupport_1 18 rfl) (by decide)) (fun _ => ?_) (fun _ => ?_)
        · refine s_step (g_iconst (iRow iCX5_readSupport_1 19 rfl) kc_0) ?_
          refine s_step (g_goto (tgt := 94) (iRow iCX5_readSupport_1 20 rfl) (by decide)) ?_
          refine s_step (g_keep [true, true, false, true, false, false] rfl) ?_
          exact s_end (fun h => h)
        · refine s_step (g_iconst (iRow iCX5_readSupport_1 21 rfl) kc_1) ?_
          refine s_step (g_iload_n (iRow iCX5_readSupport_1 22 rfl) rfl rfl) ?_
          refine s_step (g_ishl (iRow iCX5_readSupport_1 23 rfl)) ?_
          refine s_step (g_keep [true, true, false, true, false, false] rfl) ?_
          exact s_end (fun h => h)
      · rintro x9
        show SW G (d + 1) YX5_readSupport Z 94 [some (vR 6 0), some (vI a1), none, some (vI x6), none, none] [vI x9] M5 _ _
        try dsimp only
        refine s_step (g_istore (ls' := [some (vR 6 0), some (vI a1), none, some (vI x6), some (vI x9), none]) (iRow iCX5_readSupport_2 0 rfl) (by decide) rfl) ?_
        refine s_step (g_iload_n (iRow iCX5_readSupport_2 1 rfl) rfl rfl) ?_
        refine s_step (g_iconst (iRow iCX5_readSupport_2 2 rfl) kc_m1) ?_
        refine s_bd (fun z => LM G (d + 1) YX5_readSupport Z 108 [some (vR 6 0), some (vI a1), none, none, some (vI x9), none] [vI z] M5) ?_ ?_
        · refine s_ifn (g_icmp_ne (tgt := 105) (iRow iCX5_readSupport_2 3 rfl) (by decide)) (fun _ => ?_) (fun _ => ?_)
          · refine s_step (g_iconst (iRow iCX5_readSupport_2 4 rfl) kc_0) ?_
            refine s_step (g_goto (tgt := 108) (iRow iCX5_readSupport_2 5 rfl) (by decide)) ?_
            refine s_step (g_keep [true, true, false, false, true, false] rfl) ?_
            exact s_end (fun h => h)
          · refine s_step (g_iconst (iRow iCX5_readSupport_2 6 rfl) kc_1) ?_
            refine s_step (g_iload_n (iRow iCX5_readSupport_2 7 rfl) rfl rfl) ?_
            refine s_step (g_ishl (iRow iCX5_readSupport_2 8 rfl)) ?_
            refine s_step (g_keep [true, true, false, false, true, false] rfl) ?_
            exact s_end (fun h => h)
        · rintro x10
          show SW G (d + 1) YX5_readSupport Z 108 [some (vR 6 0), some (vI a1), none, none, some (vI x9), none] [vI x10] M5 _ _
          try dsimp only
          refine s_step (g_istore (ls' := [some (vR 6 0), some (vI a1), none, none, some (vI x9), some (vI x10)]) (iRow iCX5_readSupport_2 9 rfl) (by decide) rfl) ?_
          refine s_step (g_aload_n (iRow iCX5_readSupport_2 10 rfl) rfl rfl) ?_
          refine s_step (g_getR (iRow iCX5_readSupport_2 11 rfl) f5_15 ko_6 (r_6_2 _ _)) ?_
          refine s_step (g_getR (iRow iCX5_readSupport_2 12 rfl) f5_160 ko_1 (r_1_17 _ _)) ?_
          refine s_step (g_iload_n (iRow iCX5_readSupport_2 13 rfl) rfl rfl) ?_
          refine s_gi (fun h => g_iald (iRow iCX5_readSupport_2 14 rfl) kn_33 ka_33 h) ?_
          refine s_step (g_iload (iRow iCX5_readSupport_2 15 rfl) rfl) ?_
          refine s_step (g_iand (iRow iCX5_readSupport_2 16 rfl)) ?_
          refine s_nj 140 (fun z => [some (vR 6 0), none, none, none, none, none]) (fun z => []) (fun z => M5) ?_ (fun j140 hj140 => ?_)
          · intro _
            show SW G (d + 1) YX5_readSupport Z 140 [some (vR 6 0), none, none, none, none, none] [] M5 _ _
            try dsimp only
            refine s_step (g_aload_n (iRow iCX5_readSupport_3 2 rfl) rfl rfl) ?_
            refine s_step (g_iconst (iRow iCX5_readSupport_3 3 rfl) kc_3) ?_
            refine s_cb (sf := fun b => vI (bI b) :: []) (fun _ _ h => h_V (As := [_]) (iRow iCX5_readSupport_3 4 rfl) l5_87 iX5_wrong ko_6 rfl rfl rfl rfl (t_X5_wrong (d + 0) h) rfl (by omega) (by decide) (Nat.le_of_ble_eq_true rfl)) (fun b14 M13 => ?_)
            exact s_retz (iRow iCX5_readSupport_3 5 rfl) rfl rfl
          · refine s_ifn (g_if_ne (tgt := 140) (iRow iCX5_readSupport_2 17 rfl) (by decide)) (fun _ => ?_) (fun _ => ?_)
            · refine s_step (g_aload_n (iRow iCX5_readSupport_2 18 rfl) rfl rfl) ?_
              refine s_step (g_getR (iRow iCX5_readSupport_2 19 rfl) f5_15 ko_6 (r_6_2 _ _)) ?_
              refine s_step (g_getR (iRow iCX5_readSupport_2 20 rfl) f5_163 ko_1 (r_1_18 _ _)) ?_
              refine s_step (g_iload_n (iRow iCX5_readSupport_2 21 rfl) rfl rfl) ?_
              refine s_gi (fun h => g_iald (iRow iCX5_readSupport_2 22 rfl) kn_34 ka_34 h) ?_
              refine s_step (g_iload (iRow iCX5_readSupport_2 23 rfl) rfl) ?_
              refine s_step (g_iand (iRow iCX5_readSupport_3 0 rfl)) ?_
              refine s_if (g_if_eq (tgt := 146) (iRow iCX5_readSupport_3 1 rfl) (by decide)) (fun _ => ?_) (fun _ => ?_)
              · refine s_step (g_aload_n (iRow iCX5_readSupport_3 6 rfl) rfl rfl) ?_
                refine s_step (g_getR (iRow iCX5_readSupport_3 7 rfl) f5_15 ko_6 (r_6_2 _ _)) ?_
                refine s_step (g_getR (iRow iCX5_readSupport_3 8 rfl) f5_160 ko_1 (r_1_17 _ _)) ?_
                refine s_step (g_iload_n (iRow iCX5_readSupport_3 9 rfl) rfl rfl) ?_
                refine s_step (g_dup2 (iRow iCX5_readSupport_3 10 rfl) rfl rfl) ?_
                refine s_gi (fun h => g_iald (iRow iCX5_readSupport_3 11 rfl) kn_33 ka_33 h) ?_
                refine s_step (g_iload (iRow iCX5_readSupport_3 12 rfl) rfl) ?_
                refine s_step (g_ior (iRow iCX5_readSupport_3 13 rfl)) ?_
                refine s_gi (fun h => g_iast (iRow iCX5_readSupport_3 14 rfl) kn_33 ka_33 h) ?_
                refine s_nmM (fun M11 => ?_)
                refine s_step (g_aload_n (iRow iCX5_readSupport_3 15 rfl) rfl rfl) ?_
                refine s_step (g_getR (iRow iCX5_readSupport_3 16 rfl) f5_15 ko_6 (r_6_2 _ _)) ?_
                refine s_step (g_getR (iRow iCX5_readSupport_3 17 rfl) f5_163 ko_1 (r_1_18 _ _)) ?_
                refine s_step (g_iload_n (iRow iCX5_readSupport_3 18 rfl) rfl rfl) ?_
                refine s_step (g_dup2 (iRow iCX5_readSupport_3 19 rfl) rfl rfl) ?_
                refine s_gi (fun h => g_iald (iRow iCX5_readSupport_3 20 rfl) kn_34 ka_34 h) ?_
                refine s_step (g_iload (iRow iCX5_readSupport_3 21 rfl) rfl) ?_
                refine s_step (g_ior (iRow iCX5_readSupport_3 22 rfl)) ?_
                refine s_gi (fun h => g_iast (iRow iCX5_readSupport_3 23 rfl) kn_34 ka_34 h) ?_
                refine s_nmM (fun M12 => ?_)
                refine s_step (g_iconst (iRow iCX5_readSupport_4 0 rfl) kc_1) ?_
                exact s_retz (b := true) (iRow iCX5_readSupport_4 1 rfl) rfl rfl
              · refine s_step (g_keep [true, false, false, false, false, false] rfl) ?_
                exact hj140 _
            · refine s_step (g_keep [true, false, false, false, false, false] rfl) ?_
              exact hj140 _
    · refine s_ifn (g_icmp_ne (tgt := 82) (iRow iCX5_readSupport_1 8 rfl) (by decide)) (fun _ => ?_) (fun _ => ?_)
      · refine s_step (g_iload_n (iRow iCX5_readSupport_1 9 rfl) rfl rfl) ?_
        refine s_step (g_iconst (iRow iCX5_readSupport_1 10 rfl) kc_m1) ?_
        refine s_ifn (g_icmp_ne (tgt := 82) (iRow iCX5_readSupport_1 11 rfl) (by decide)) (fun _ => ?_) (fun _ => ?_)
        · refine s_step (g_aload_n (iRow iCX5_readSupport_1 12 rfl) rfl rfl) ?_
          refine s_step (g_iconst (iRow iCX5_readSupport_1 13 rfl) kc_2) ?_
          refine s_cb (sf := fun b => vI (bI b) :: []) (fun _ _ h => h_V (As := [_]) (iRow iCX5_readSupport_1 14 rfl) l5_87 iX5_wrong ko_6 rfl rfl rfl rfl (t_X5_wrong (d + 0) h) rfl (by omega) (by decide) (Nat.le_of_ble_eq_true rfl)) (fun b8 M7 => ?_)
          exact s_retz (iRow iCX5_readSupport_1 15 rfl) rfl rfl
        · exact hj82 _
      · exact hj82 _
  · refine s_step (g_aload_n (iRow iCX5_readSupport_0 4 rfl) rfl rfl) ?_
    refine s_step (g_iconst (iRow iCX5_readSupport_0 5 rfl) kc_1) ?_
    refine s_cb (sf := fun b => vI (bI b) :: []) (fun _ _ h => h_V (As := [_]) (iRow iCX5_readSupport_0 6 rfl) l5_87 iX5_wrong ko_6 rfl rfl rfl rfl (t_X5_wrong (d + 0) h) rfl (by omega) (by decide) (Nat.le_of_ble_eq_true rfl)) (fun b16 M15 => ?_)
    exact s_retz (iRow iCX5_readSupport_0 7 rfl) rfl rfl
abbrev YX5_readOn : mY := (RX5, "readOn", cX5_readOn, 4, (some .boolean), none)
set_option maxHeartbeats 400000 in
set_option maxRecDepth 20000 in
theorem t_X5_readOn {G : mg} {F : Nat} {a1 : Int32} {M : mm} {x : Bool} {M' : mm} (d : Nat) (h : m_X5_readOn F a1 M = some (x, M')) : CM G yX5_readOn cX5_readOn 4 (some .boolean) (d + 3) [vR 6 0, vI a1] M (some (vI (bI x))) M' := by
  refine ct_z (ls := [some (vR 6 0), some (vI a1), none, none]) rfl rfl (Nat.le_of_ble_eq_true rfl) (fun Z => ?_) h
  show SW G (d + 3) YX5_readOn Z 0 [some (vR 6 0), some (vI a1), none, none] [] M _ _
  unfold m_X5_readOn
  refine s_step (g_aload_n (iRow iCX5_readOn_0 0 rfl) rfl rfl) ?_
  refine s_step (g_getR (iRow iCX5_readOn_0 1 rfl) f5_9 ko_6 (r_6_0 _ _)) ?_
  refine s_cv (stA := []) (fun _ h => h_V (As := []) (iRow iCX5_readOn_0 2 rfl) l5_94 iX6_next ko_7 rfl rfl rfl rfl (t_X6_next (d + 0) h) rfl (by omega) (by decide) (Nat.le_of_ble_eq_true rfl)) (fun M1 => ?_)
  refine s_step (g_iconst (iRow iCX5_readOn_0 3 rfl) kc_1) ?_
  refine s_step (g_istore_n (ls' := [some (vR 6 0), some (vI a1), some (vI (1 : Int32)), none]) (iRow iCX5_readOn_0 4 rfl) rfl (by decide) rfl) ?_
  refine s_step (g_iconst (iRow iCX5_readOn_0 5 rfl) kc_0) ?_
  refine s_step (g_istore_n (ls' := [some (vR 6 0), some (vI a1), some (vI (1 : Int32)), some (vI (0 : Int32))]) (iRow iCX5_readOn_0 6 rfl) rfl (by decide) rfl) ?_
  refine s_lp (fun z => [some (vR 6 0), some (vI a1), some (vI (z.1)), some (vI (z.2.1))]) (fun z => z.2.2) (Sum.elim (fun z => LM G (d + 3) YX5_readOn Z 30 [none, none, none, none] [] z) (fun z => LM G (d + 3) YX5_readOn Z 53 [none, none, none, none] [] z)) rfl rfl ?_ ?_
  · rintro ⟨x2, x3, M4⟩
    show SW G (d + 3) YX5_readOn Z 11 [some (vR 6 0), some (vI a1), some (vI x2), some (vI x3)] [] M4 (b_X5_readOn_1c F a1 x2 x3 M4) _
    unfold b_X5_readOn_1c
    refine s_step (g_iload_n (iRow iCX5_readOn_0 7 rfl) rfl rfl) ?_
    refine s_step (g_sipush (iRow iCX5_readOn_0 8 rfl) ks_1000) ?_
    refine s_if (g_icmp_gt (tgt := 53) (iRow iCX5_readOn_0 9 rfl) (by decide)) (fun _ => ?_) (fun _ => ?_)
    · refine s_step (g_keep [false, false, false, false] rfl) ?_
      exact s_end (fun h => h)
    · refine s_step (g_iload_n (iRow iCX5_readOn_0 10 rfl) rfl rfl) ?_
      refine s_if (g_if_eq (tgt := 53) (iRow iCX5_readOn_0 11 rfl) (by decide)) (fun _ => ?_) (fun _ => ?_)
      · refine s_step (g_keep [false, false, false, false] rfl) ?_
        exact s_end (fun h => h)
      · refine s_step (g_aload_n (iRow iCX5_readOn_0 12 rfl) rfl rfl) ?_
        refine s_step (g_iload_n (iRow iCX5_readOn_0 13 rfl) rfl rfl) ?_
        refine s_cb (sf := fun b => vI (bI b) :: []) (fun _ _ h => h_V (As := [_]) (iRow iCX5_readOn_0 14 rfl) l5_175 iX5_readSupport ko_6 rfl rfl rfl rfl (t_X5_readSupport (d + 1) h) rfl (by omega) (by decide) (Nat.le_of_ble_eq_true rfl)) (fun b6 M5 => ?_)
        refine s_ifneb (g_if_ne (tgt := 32) (iRow iCX5_readOn_0 15 rfl) (by decide)) (fun _ => ?_) (fun _ => ?_)
        · refine s_step (g_aload_n (iRow iCX5_readOn_0 18 rfl) rfl rfl) ?_
          refine s_step (g_getR (iRow iCX5_readOn_0 19 rfl) f5_9 ko_6 (r_6_0 _ _)) ?_
          refine s_cv (stA := []) (fun _ h => h_V (As := []) (iRow iCX5_readOn_0 20 rfl) l5_94 iX6_next ko_7 rfl rfl rfl rfl (t_X6_next (d + 0) h) rfl (by omega) (by decide) (Nat.le_of_ble_eq_true rfl)) (fun M7 => ?_)
          refine s_step (g_aload_n (iRow iCX5_readOn_0 21 rfl) rfl rfl) ?_
          refine s_step (g_getR (iRow iCX5_readOn_0 22 rfl) f5_9 ko_6 (r_6_0 _ _)) ?_
          refine s_cb (sf := fun b => vI (bI b) :: []) (fun _ _ h => h_V (As := []) (iRow iCX5_readOn_0 23 rfl) l5_178 iX6_isName ko_7 rfl rfl rfl rfl (t_X6_isName (d + 2) h) rfl (by omega) (by decide) (Nat.le_of_ble_eq_true rfl)) (fun b9 M8 => ?_)
          refine s_step (g_istore_n (ls' := [some (vR 6 0), some (vI a1), some (vI (bI b9)), some (vI x3)]) (iRow iCX5_readOn_1 0 rfl) rfl (by decide) rfl) ?_
          refine s_step (g_iincc (c := 1) (ls' := [some (vR 6 0), some (vI a1), some (vI (bI b9)), some (vI (x3 + (1 : Int32)))]) (iRow iCX5_readOn_1 1 rfl) rfl kc_1 (by decide) rfl) ?_
          refine s_step (g_goto (tgt := 11) (iRow iCX5_readOn_1 2 rfl) (by decide)) ?_
          exact s_end (fun h => h)
        · refine s_step (g_keep [false, false, false, false] rfl) ?_
          exact s_end (fun h => h)
  · intro z
    rcases z with z | z
    · generalize z = M10
      show SW G (d + 3) YX5_readOn Z 30 [none, none, none, none] [] M10 _ _
      try dsimp only [Sum.elim]
      refine s_step (g_iconst (iRow iCX5_readOn_0 16 rfl) kc_0) ?_
      exact s_retz (b := false) (iRow iCX5_readOn_0 17 rfl) rfl rfl
    · generalize z = M11
      show SW G (d + 3) YX5_readOn Z 53 [none, none, none, none] [] M11 _ _
      try dsimp only [Sum.elim]
      refine s_step (g_iconst (iRow iCX5_readOn_1 3 rfl) kc_1) ?_
      exact s_retz (b := true) (iRow iCX5_readOn_1 4 rfl) rfl rfl
abbrev YX5_readStone : mY := (RX5, "readStone", cX5_readStone, 4, (some .boolean), none)
set_option maxHeartbeats 400000 in
set_option maxRecDepth 20000 in
theorem t_X5_readStone {G : mg} {F : Nat} {M : mm} {x : Bool} {M' : mm} (d : Nat) (h : m_X5_readStone F M = some (x, M')) : CM G yX5_readStone cX5_readStone 4 (some .boolean) (d + 4) [vR 6 0] M (some (vI (bI x))) M' := by
  refine ct_z (ls := [some (vR 6 0), none, none, none]) rfl rfl (Nat.le_of_ble_eq_true rfl) (fun Z => ?_) h
  show SW G (d + 4) YX5_readStone Z 0 [some (vR 6 0), none, none, none] [] M _ _
  unfold m_X5_readStone
  refine s_step (g_aload_n (iRow iCX5_readStone_0 0 rfl) rfl rfl) ?_
  refine s_step (g_getR (iRow iCX5_readStone_0 1 rfl) f5_15 ko_6 (r_6_2 _ _)) ?_
  refine s_step (g_getI (iRow iCX5_readStone_0 2 rfl) f5_151 ko_1) ?_
  refine s_nmI (fun x1 => ?_)
  refine s_step (g_istore_n (ls' := [some (vR 6 0), some (vI x1), none, none]) (iRow iCX5_readStone_0 3 rfl) rfl (by decide) rfl) ?_
  refine s_step (g_iload_n (iRow iCX5_readStone_0 4 rfl) rfl rfl) ?_
  refine s_step (g_bipush (iRow iCX5_readStone_0 5 rfl) kb_10) ?_
  refine s_if (g_icmp_lt (tgt := 20) (iRow iCX5_readStone_0 6 rfl) (by decide)) (fun _ => ?_) (fun _ => ?_)
  · refine s_step (g_aload_n (iRow iCX5_readStone_0 11 rfl) rfl rfl) ?_
    refine s_step (g_getR (iRow iCX5_readStone_0 12 rfl) f5_9 ko_6 (r_6_0 _ _)) ?_
    refine s_cv (stA := []) (fun _ h => h_V (As := []) (iRow iCX5_readStone_0 13 rfl) l5_94 iX6_next ko_7 rfl rfl rfl rfl (t_X6_next (d + 1) h) rfl (by omega) (by decide) (Nat.le_of_ble_eq_true rfl)) (fun M2 => ?_)
    refine s_step (g_aload_n (iRow iCX5_readStone_0 14 rfl) rfl rfl) ?_
    refine s_step (g_getR (iRow iCX5_readStone_0 15 rfl) f5_9 ko_6 (r_6_0 _ _)) ?_
    refine s_step (g_getL (iRow iCX5_readStone_0 16 rfl) f5_97 ko_7) ?_
    refine s_nmL (fun x3 => ?_)
    refine s_step (g_lstore_n (ls' := [some (vR 6 0), some (vI x1), some (vL (x3)), none]) (iRow iCX5_readStone_0 17 rfl) rfl (by decide) rfl) ?_
    refine s_step (g_aload_n (iRow iCX5_readStone_0 18 rfl) rfl rfl) ?_
    refine s_cb (sf := fun b => vI (bI b) :: []) (fun _ _ h => h_V (As := []) (iRow iCX5_readStone_0 19 rfl) l5_101 iX5_takeNewName ko_6 rfl rfl rfl rfl (t_X5_takeNewName (d + 0) h) rfl (by omega) (by decide) (Nat.le_of_ble_eq_true rfl)) (fun b5 M4 => ?_)
    refine s_ifeqb (g_if_eq (tgt := 61) (iRow iCX5_readStone_0 20 rfl) (by decide)) (fun _ => ?_) (fun _ => ?_)
    · refine s_step (g_aload_n (iRow iCX5_readStone_0 21 rfl) rfl rfl) ?_
      refine s_step (g_bipush (iRow iCX5_readStone_0 22 rfl) kb_9) ?_
      refine s_cb (sf := fun b => vI (bI b) :: []) (fun _ _ h => h_V (As := [_]) (iRow iCX5_readStone_0 23 rfl) l5_104 iX5_takeWord ko_6 rfl rfl rfl rfl (t_X5_takeWord (d + 0) h) rfl (by omega) (by decide) (Nat.le_of_ble_eq_true rfl)) (fun b7 M6 => ?_)
      refine s_ifeqb (g_if_eq (tgt := 61) (iRow iCX5_readStone_1 0 rfl) (by decide)) (fun _ => ?_) (fun _ => ?_)
      · refine s_step (g_aload_n (iRow iCX5_readStone_1 1 rfl) rfl rfl) ?_
        refine s_step (g_iconst (iRow iCX5_readStone_1 2 rfl) kc_0) ?_
        refine s_step (g_bipush (iRow iCX5_readStone_1 3 rfl) kb_99) ?_
        refine s_cb (sf := fun b => vI (bI b) :: []) (fun _ _ h => h_V (As := [_, _]) (iRow iCX5_readStone_1 4 rfl) l5_107 iX5_takeNumber ko_6 rfl rfl rfl rfl (t_X5_takeNumber (d + 0) h) rfl (by omega) (by decide) (Nat.le_of_ble_eq_true rfl)) (fun b9 M8 => ?_)
        refine s_ifneb (g_if_ne (tgt := 63) (iRow iCX5_readStone_1 5 rfl) (by decide)) (fun _ => ?_) (fun _ => ?_)
        · refine s_step (g_aload_n (iRow iCX5_readStone_1 8 rfl) rfl rfl) ?_
          refine s_step (g_getR (iRow iCX5_readStone_1 9 rfl) f5_15 ko_6 (r_6_2 _ _)) ?_
          refine s_step (g_getR (iRow iCX5_readStone_1 10 rfl) f5_154 ko_1 (r_1_15 _ _)) ?_
          refine s_step (g_iload_n (iRow iCX5_readStone_1 11 rfl) rfl rfl) ?_
          refine s_step (g_aload_n (iRow iCX5_readStone_1 12 rfl) rfl rfl) ?_
          refine s_step (g_getI (iRow iCX5_readStone_1 13 rfl) f5_115 ko_6) ?_
          refine s_gi (fun h => g_iast (iRow iCX5_readStone_1 14 rfl) kn_31 ka_31 h) ?_
          refine s_nmM (fun M10 => ?_)
          refine s_step (g_aload_n (iRow iCX5_readStone_1 15 rfl) rfl rfl) ?_
          refine s_step (g_bipush (iRow iCX5_readStone_1 16 rfl) kb_10) ?_
          refine s_cb (sf := fun b => vI (bI b) :: []) (fun _ _ h => h_V (As := [_]) (iRow iCX5_readStone_1 17 rfl) l5_104 iX5_takeWord ko_6 rfl rfl rfl rfl (t_X5_takeWord (d + 0) h) rfl (by omega) (by decide) (Nat.le_of_ble_eq_true rfl)) (fun b12 M11 => ?_)
          refine s_ifeqb (g_if_eq (tgt := 95) (iRow iCX5_readStone_1 18 rfl) (by decide)) (fun _ => ?_) (fun _ => ?_)
          · refine s_step (g_aload_n (iRow iCX5_readStone_1 19 rfl) rfl rfl) ?_
            refine s_step (g_iconst (iRow iCX5_readStone_1 20 rfl) kc_0) ?_
            refine s_step (g_bipush (iRow iCX5_readStone_1 21 rfl) kb_99) ?_
            refine s_cb (sf := fun b => vI (bI b) :: []) (fun _ _ h => h_V (As := [_, _]) (iRow iCX5_readStone_1 22 rfl) l5_107 iX5_takeNumber ko_6 rfl rfl rfl rfl (t_X5_takeNumber (d + 0) h) rfl (by omega) (by decide) (Nat.le_of_ble_eq_true rfl)) (fun b14 M13 => ?_)
            refine s_ifneb (g_if_ne (tgt := 97) (iRow iCX5_readStone_1 23 rfl) (by decide)) (fun _ => ?_) (fun _ => ?_)
            · refine s_step (g_aload_n (iRow iCX5_readStone_2 2 rfl) rfl rfl) ?_
              refine s_step (g_getR (iRow iCX5_readStone_2 3 rfl) f5_15 ko_6 (r_6_2 _ _)) ?_
              refine s_step (g_getR (iRow iCX5_readStone_2 4 rfl) f5_157 ko_1 (r_1_16 _ _)) ?_
              refine s_step (g_iload_n (iRow iCX5_readStone_2 5 rfl) rfl rfl) ?_
              refine s_step (g_aload_n (iRow iCX5_readStone_2 6 rfl) rfl rfl) ?_
              refine s_step (g_getI (iRow iCX5_readStone_2 7 rfl) f5_115 ko_6) ?_
              refine s_gi (fun h => g_iast (iRow iCX5_readStone_2 8 rfl) kn_32 ka_32 h) ?_
              refine s_nmM (fun M15 => ?_)
              refine s_step (g_aload_n (iRow iCX5_readStone_2 9 rfl) rfl rfl) ?_
              refine s_step (g_getR (iRow iCX5_readStone_2 10 rfl) f5_15 ko_6 (r_6_2 _ _)) ?_
              refine s_step (g_getR (iRow iCX5_readStone_2 11 rfl) f5_160 ko_1 (r_1_17 _ _)) ?_
              refine s_step (g_iload_n (iRow iCX5_readStone_2 12 rfl) rfl rfl) ?_
              refine s_step (g_iconst (iRow iCX5_readStone_2 13 rfl) kc_0) ?_
              refine s_gi (fun h => g_iast (iRow iCX5_readStone_2 14 rfl) kn_33 ka_33 h) ?_
              refine s_nmM (fun M16 => ?_)
              refine s_step (g_aload_n (iRow iCX5_readStone_2 15 rfl) rfl rfl) ?_
              refine s_step (g_getR (iRow iCX5_readStone_2 16 rfl) f5_15 ko_6 (r_6_2 _ _)) ?_
              refine s_step (g_getR (iRow iCX5_readStone_2 17 rfl) f5_163 ko_1 (r_1_18 _ _)) ?_
              refine s_step (g_iload_n (iRow iCX5_readStone_2 18 rfl) rfl rfl) ?_
              refine s_step (g_iconst (iRow iCX5_readStone_2 19 rfl) kc_0) ?_
              refine s_gi (fun h => g_iast (iRow iCX5_readStone_2 20 rfl) kn_34 ka_34 h) ?_
              refine s_nmM (fun M17 => ?_)
              refine s_step (g_aload_n (iRow iCX5_readStone_2 21 rfl) rfl rfl) ?_
              refine s_step (g_getR (iRow iCX5_readStone_2 22 rfl) f5_9 ko_6 (r_6_0 _ _)) ?_
              refine s_step (g_bipush (iRow iCX5_readStone_2 23 rfl) kb_11) ?_
              refine s_cb (sf := fun b => vI (bI b) :: []) (fun _ _ h => h_V (As := [_]) (iRow iCX5_readStone_3 0 rfl) l5_166 iX6_isWord ko_7 rfl rfl rfl rfl (t_X6_isWord (d + 3) h) rfl (by omega) (by decide) (Nat.le_of_ble_eq_true rfl)) (fun b19 M18 => ?_)
              refine s_nj 152 (fun z => [some (vR 6 0), some (vI x1), some (vL (x3)), none]) (fun z => []) (fun z => z) ?_ (fun j152 hj152 => ?_)
              · rintro M22
                show SW G (d + 4) YX5_readStone Z 152 [some (vR 6 0), some (vI x1), some (vL (x3)), none] [] M22 _ _
                try dsimp only
                refine s_step (g_aload_n (iRow iCX5_readStone_3 8 rfl) rfl rfl) ?_
                refine s_cb (sf := fun b => vI (bI b) :: []) (fun _ _ h => h_V (As := []) (iRow iCX5_readStone_3 9 rfl) l5_118 iX5_takeEnd ko_6 rfl rfl rfl rfl (t_X5_takeEnd (d + 0) h) rfl (by omega) (by decide) (Nat.le_of_ble_eq_true rfl)) (fun b24 M23 => ?_)
                refine s_ifneb (g_if_ne (tgt := 161) (iRow iCX5_readStone_3 10 rfl) (by decide)) (fun _ => ?_) (fun _ => ?_)
                · refine s_step (g_aload_n (iRow iCX5_readStone_3 13 rfl) rfl rfl) ?_
                  refine s_step (g_getR (iRow iCX5_readStone_3 14 rfl) f5_15 ko_6 (r_6_2 _ _)) ?_
                  refine s_step (g_getR (iRow iCX5_readStone_3 15 rfl) f5_172 ko_1 (r_1_14 _ _)) ?_
                  refine s_step (g_iload_n (iRow iCX5_readStone_3 16 rfl) rfl rfl) ?_
                  refine s_step (g_lload_n (iRow iCX5_readStone_3 17 rfl) rfl rfl) ?_
                  refine s_gi (fun h => g_last (iRow iCX5_readStone_3 18 rfl) kn_30 ka_30 h) ?_
                  refine s_nmM (fun M25 => ?_)
                  refine s_step (g_aload_n (iRow iCX5_readStone_3 19 rfl) rfl rfl) ?_
                  refine s_step (g_getR (iRow iCX5_readStone_3 20 rfl) f5_15 ko_6 (r_6_2 _ _)) ?_
                  refine s_step (g_dup (iRow iCX5_readStone_3 21 rfl) rfl) ?_
                  refine s_step (g_getI (iRow iCX5_readStone_3 22 rfl) f5_151 ko_1) ?_
                  refine s_step (g_iconst (iRow iCX5_readStone_3 23 rfl) kc_1) ?_
                  refine s_step (g_iadd (iRow iCX5_readStone_4 0 rfl)) ?_
                  refine s_step (g_putI (iRow iCX5_readStone_4 1 rfl) f5_151 (Or.inl rfl) ko_1) ?_
                  refine s_nmM (fun M26 => ?_)
                  refine s_step (g_iconst (iRow iCX5_readStone_4 2 rfl) kc_1) ?_
                  exact s_retz (b := true) (iRow iCX5_readStone_4 3 rfl) rfl rfl
                · refine s_step (g_iconst (iRow iCX5_readStone_3 11 rfl) kc_0) ?_
                  exact s_retz (b := false) (iRow iCX5_readStone_3 12 rfl) rfl rfl
              · refine s_ifeqb (g_if_eq (tgt := 152) (iRow iCX5_readStone_3 1 rfl) (by decide)) (fun _ => ?_) (fun _ => ?_)
                · refine s_step (g_aload_n (iRow iCX5_readStone_3 2 rfl) rfl rfl) ?_
                  refine s_step (g_iload_n (iRow iCX5_readStone_3 3 rfl) rfl rfl) ?_
                  refine s_cb (sf := fun b => vI (bI b) :: []) (fun _ _ h => h_V (As := [_]) (iRow iCX5_readStone_3 4 rfl) l5_169 iX5_readOn ko_6 rfl rfl rfl rfl (t_X5_readOn (d + 0) h) rfl (by omega) (by decide) (Nat.le_of_ble_eq_true rfl)) (fun b21 M20 => ?_)
                  refine s_ifneb (g_if_ne (tgt := 152) (iRow iCX5_readStone_3 5 rfl) (by decide)) (fun _ => ?_) (fun _ => ?_)
                  · exact hj152 _
                  · refine s_step (g_iconst (iRow iCX5_readStone_3 6 rfl) kc_0) ?_
                    exact s_retz (b := false) (iRow iCX5_readStone_3 7 rfl) rfl rfl
                · exact hj152 _
            · refine s_step (g_iconst (iRow iCX5_readStone_2 0 rfl) kc_0) ?_
              exact s_retz (b := false) (iRow iCX5_readStone_2 1 rfl) rfl rfl
          · refine s_step (g_iconst (iRow iCX5_readStone_2 0 rfl) kc_0) ?_
            exact s_retz (b := false) (iRow iCX5_readStone_2 1 rfl) rfl rfl
        · refine s_step (g_iconst (iRow iCX5_readStone_1 6 rfl) kc_0) ?_
          exact s_retz (b := false) (iRow iCX5_readStone_1 7 rfl) rfl rfl
      · refine s_step (g_iconst (iRow iCX5_readStone_1 6 rfl) kc_0) ?_
        exact s_retz (b := false) (iRow iCX5_readStone_1 7 rfl) rfl rfl
    · refine s_step (g_iconst (iRow iCX5_readStone_1 6 rfl) kc_0) ?_
      exact s_retz (b := false) (iRow iCX5_readStone_1 7 rfl) rfl rfl
  · refine s_step (g_aload_n (iRow iCX5_readStone_0 7 rfl) rfl rfl) ?_
    refine s_step (g_iconst (iRow iCX5_readStone_0 8 rfl) kc_5) ?_
    refine s_cb (sf := fun b => vI (bI b) :: []) (fun _ _ h => h_V (As := [_]) (iRow iCX5_readStone_0 9 rfl) l5_87 iX5_wrong ko_6 rfl rfl rfl rfl (t_X5_wrong (d + 3) h) rfl (by omega) (by decide) (Nat.le_of_ble_eq_true rfl)) (fun b28 M27 => ?_)
    exact s_retz (iRow iCX5_readStone_0 10 rfl) rfl rfl
abbrev YX2_renew : mY := (RX2, "renew", cX2_renew, 1, none, none)
set_option maxHeartbeats 400000 in
set_option maxRecDepth 20000 in
theorem t_X2_renew {G : mg} {F : Nat} {o : Nat} {M : mm} {M' : mm} (d : Nat) (h : m_X2_renew F o M = some M') : CM G yX2_renew cX2_renew 1 none (d + 0) [vR 3 o] M none M' := by
  refine ct_v (ls := [some (vR 3 o)]) rfl rfl (Nat.le_of_ble_eq_true rfl) (fun Z => ?_) h
  show SW G (d + 0) YX2_renew Z 0 [some (vR 3 o)] [] M _ _
  unfold m_X2_renew
  refine s_step (g_aload_n (iRow iCX2_renew_0 0 rfl) rfl rfl) ?_
  refine s_step (g_iconst (iRow iCX2_renew_0 1 rfl) kc_1) ?_
  refine s_step (g_putZ (iRow iCX2_renew_0 2 rfl) f2_34 (Or.inl rfl) ko_3 (by decide)) ?_
  refine s_nmM (fun M1 => ?_)
  refine s_step (g_aload_n (iRow iCX2_renew_0 3 rfl) rfl rfl) ?_
  refine s_step (g_iconst (iRow iCX2_renew_0 4 rfl) kc_0) ?_
  refine s_step (g_putI (iRow iCX2_renew_0 5 rfl) f2_37 (Or.inl rfl) ko_3) ?_
  refine s_nmM (fun M2 => ?_)
  exact s_retv (iRow iCX2_renew_0 6 rfl) rfl
abbrev YX3_jointCode : mY := (RX3, "jointCode", cX3_jointCode, 1, (some .int), none)
set_option maxHeartbeats 400000 in
set_option maxRecDepth 20000 in
theorem t_X3_jointCode {G : mg} {F : Nat} {M : mm} {x : Int32} {M' : mm} (d : Nat) (h : m_X3_jointCode F M = some (x, M')) : CM G yX3_jointCode cX3_jointCode 1 (some .int) (d + 1) [vR 4 0] M (some (vI x)) M' := by
  refine ct_i (ls := [some (vR 4 0)]) rfl rfl (Nat.le_of_ble_eq_true rfl) (fun Z => ?_) h
  show SW G (d + 1) YX3_jointCode Z 0 [some (vR 4 0)] [] M _ _
  unfold m_X3_jointCode
  refine s_step (g_aload_n (iRow iCX3_jointCode_0 0 rfl) rfl rfl) ?_
  refine s_step (g_getR (iRow iCX3_jointCode_0 1 rfl) f3_13 ko_4 (r_4_0 _ _)) ?_
  refine s_step (g_bipush (iRow iCX3_jointCode_0 2 rfl) kb_23) ?_
  refine s_cb (sf := fun b => vI (bI b) :: []) (fun _ _ h => h_V (As := [_]) (iRow iCX3_jointCode_0 3 rfl) l3_87 iX6_isWord ko_7 rfl rfl rfl rfl (t_X6_isWord (d + 0) h) rfl (by omega) (by decide) (Nat.le_of_ble_eq_true rfl)) (fun b2 M1 => ?_)
  refine s_ifeqb (g_if_eq (tgt := 15) (iRow iCX3_jointCode_0 4 rfl) (by decide)) (fun _ => ?_) (fun _ => ?_)
  · refine s_step (g_bipush (iRow iCX3_jointCode_0 5 rfl) kb_m6) ?_
    exact s_reti (iRow iCX3_jointCode_0 6 rfl) rfl
  · refine s_step (g_aload_n (iRow iCX3_jointCode_0 7 rfl) rfl rfl) ?_
    refine s_step (g_getR (iRow iCX3_jointCode_0 8 rfl) f3_13 ko_4 (r_4_0 _ _)) ?_
    refine s_step (g_bipush (iRow iCX3_jointCode_0 9 rfl) kb_24) ?_
    refine s_cb (sf := fun b => vI (bI b) :: []) (fun _ _ h => h_V (As := [_]) (iRow iCX3_jointCode_0 10 rfl) l3_87 iX6_isWord ko_7 rfl rfl rfl rfl (t_X6_isWord (d + 0) h) rfl (by omega) (by decide) (Nat.le_of_ble_eq_true rfl)) (fun b4 M3 => ?_)
    refine s_ifeqb (g_if_eq (tgt := 30) (iRow iCX3_jointCode_0 11 rfl) (by decide)) (fun _ => ?_) (fun _ => ?_)
    · refine s_step (g_bipush (iRow iCX3_jointCode_0 12 rfl) kb_m7) ?_
      exact s_reti (iRow iCX3_jointCode_0 13 rfl) rfl
    · refine s_step (g_aload_n (iRow iCX3_jointCode_0 14 rfl) rfl rfl) ?_
      refine s_step (g_getR (iRow iCX3_jointCode_0 15 rfl) f3_13 ko_4 (r_4_0 _ _)) ?_
      refine s_step (g_getI (iRow iCX3_jointCode_0 16 rfl) f3_81 ko_7) ?_
      refine s_step (g_iconst (iRow iCX3_jointCode_0 17 rfl) kc_4) ?_
      refine s_if (g_icmp_eq (tgt := 44) (iRow iCX3_jointCode_0 18 rfl) (by decide)) (fun _ => ?_) (fun _ => ?_)
      · refine s_step (g_aload_n (iRow iCX3_jointCode_0 21 rfl) rfl rfl) ?_
        refine s_step (g_getR (iRow iCX3_jointCode_0 22 rfl) f3_13 ko_4 (r_4_0 _ _)) ?_
        refine s_step (g_getI (iRow iCX3_jointCode_0 23 rfl) f3_84 ko_7) ?_
        refine s_nmI (fun x5 => ?_)
        refine s_ite (fun hs42 => ?_) (fun hs42 => ?_)
        · refine s_step (g_lookup (tgt := 112) (off := 61) (iRow iCX3_jointCode_1 0 rfl) (by decide) (sw_lookc hs42 (by decide)) (by decide)) ?_
          refine s_step (g_bipush (iRow iCX3_jointCode_1 9 rfl) kb_m12) ?_
          exact s_reti (iRow iCX3_jointCode_1 10 rfl) rfl
        · refine s_ite (fun hs43 => ?_) (fun hs43 => ?_)
          · refine s_step (g_lookup (tgt := 106) (off := 55) (iRow iCX3_jointCode_1 0 rfl) (by decide) (sw_lookc hs43 (by decide)) (by decide)) ?_
            refine s_step (g_bipush (iRow iCX3_jointCode_1 5 rfl) kb_m10) ?_
            exact s_reti (iRow iCX3_jointCode_1 6 rfl) rfl
          · refine s_ite (fun hs45 => ?_) (fun hs45 => ?_)
            · refine s_step (g_lookup (tgt := 109) (off := 58) (iRow iCX3_jointCode_1 0 rfl) (by decide) (sw_lookc hs45 (by decide)) (by decide)) ?_
              refine s_step (g_bipush (iRow iCX3_jointCode_1 7 rfl) kb_m11) ?_
              exact s_reti (iRow iCX3_jointCode_1 8 rfl) rfl
            · refine s_ite (fun hs60 => ?_) (fun hs60 => ?_)
              · refine s_step (g_lookup (tgt := 100) (off := 49) (iRow iCX3_jointCode_1 0 rfl) (by decide) (sw_lookc hs60 (by decide)) (by decide)) ?_
                refine s_step (g_bipush (iRow iCX3_jointCode_1 1 rfl) kb_m8) ?_
                exact s_reti (iRow iCX3_jointCode_1 2 rfl) rfl
              · refine s_ite (fun hs61 => ?_) (fun hs61 => ?_)
                · refine s_step (g_lookup (tgt := 103) (off := 52) (iRow iCX3_jointCode_1 0 rfl) (by decide) (sw_lookc hs61 (by decide)) (by decide)) ?_
                  refine s_step (g_bipush (iRow iCX3_jointCode_1 3 rfl) kb_m9) ?_
                  exact s_reti (iRow iCX3_jointCode_1 4 rfl) rfl
                · refine s_step (g_lookup (tgt := 115) (off := 64) (iRow iCX3_jointCode_1 0 rfl) (by decide) (sw_lookd [42, 43, 45, 60, 61] (by decide) ⟨hs42, hs43, hs45, hs60, hs61, trivial⟩) (by decide)) ?_
                  refine s_step (g_bipush (iRow iCX3_jointCode_1 11 rfl) kb_m14) ?_
                  exact s_reti (iRow iCX3_jointCode_1 12 rfl) rfl
      · refine s_step (g_bipush (iRow iCX3_jointCode_0 19 rfl) kb_m14) ?_
        exact s_reti (iRow iCX3_jointCode_0 20 rfl) rfl
abbrev YX3_rank : mY := (RX3, "rank", cX3_rank, 1, (some .int), none)
set_option maxHeartbeats 400000 in
set_option maxRecDepth 20000 in
theorem t_X3_rank {G : mg} {F : Nat} {a1 : Int32} {M : mm} {x : Int32} {M' : mm} (d : Nat) (h : m_X3_rank F a1 M = some (x, M')) : CM G yX3_rank cX3_rank 1 (some .int) (d + 0) [vI a1] M (some (vI x)) M' := by
  refine ct_i (ls := [some (vI a1)]) rfl rfl (Nat.le_of_ble_eq_true rfl) (fun Z => ?_) h
  show SW G (d + 0) YX3_rank Z 0 [some (vI a1)] [] M _ _
  unfold m_X3_rank
  refine s_step (g_iload_n (iRow iCX3_rank_0 0 rfl) rfl rfl) ?_
  refine s_ite (fun hsm12 => ?_) (fun hsm12 => ?_)
  · refine s_step (g_tableIn (tgt := 50) (off := 49) (iRow iCX3_rank_0 1 rfl) (sw_lo hsm12 (by decide)) (sw_hi hsm12 (by decide)) (sw_at hsm12 (by decide)) (by decide)) ?_
    refine s_step (g_iconst (iRow iCX3_rank_0 8 rfl) kc_4) ?_
    exact s_reti (iRow iCX3_rank_0 9 rfl) rfl
  · refine s_ite (fun hsm11 => ?_) (fun hsm11 => ?_)
    · refine s_step (g_tableIn (tgt := 48) (off := 47) (iRow iCX3_rank_0 1 rfl) (sw_lo hsm11 (by decide)) (sw_hi hsm11 (by decide)) (sw_at hsm11 (by decide)) (by decide)) ?_
      refine s_step (g_iconst (iRow iCX3_rank_0 6 rfl) kc_3) ?_
      exact s_reti (iRow iCX3_rank_0 7 rfl) rfl
    · refine s_ite (fun hsm10 => ?_) (fun hsm10 => ?_)
      · refine s_step (g_tableIn (tgt := 48) (off := 47) (iRow iCX3_rank_0 1 rfl) (sw_lo hsm10 (by decide)) (sw_hi hsm10 (by decide)) (sw_at hsm10 (by decide)) (by decide)) ?_
        refine s_step (g_iconst (iRow iCX3_rank_0 6 rfl) kc_3) ?_
        exact s_reti (iRow iCX3_rank_0 7 rfl) rfl
      · refine s_ite (fun hsm9 => ?_) (fun hsm9 => ?_)
        · refine s_step (g_tableIn (tgt := 46) (off := 45) (iRow iCX3_rank_0 1 rfl) (sw_lo hsm9 (by decide)) (sw_hi hsm9 (by decide)) (sw_at hsm9 (by decide)) (by decide)) ?_
          refine s_step (g_iconst (iRow iCX3_rank_0 4 rfl) kc_2) ?_
          exact s_reti (iRow iCX3_rank_0 5 rfl) rfl
        · refine s_ite (fun hsm8 => ?_) (fun hsm8 => ?_)
          · refine s_step (g_tableIn (tgt := 46) (off := 45) (iRow iCX3_rank_0 1 rfl) (sw_lo hsm8 (by decide)) (sw_hi hsm8 (by decide)) (sw_at hsm8 (by decide)) (by decide)) ?_
            refine s_step (g_iconst (iRow iCX3_rank_0 4 rfl) kc_2) ?_
            exact s_reti (iRow iCX3_rank_0 5 rfl) rfl
          · refine s_ite (fun hsm7 => ?_) (fun hsm7 => ?_)
            · refine s_step (g_tableIn (tgt := 44) (off := 43) (iRow iCX3_rank_0 1 rfl) (sw_lo hsm7 (by decide)) (sw_hi hsm7 (by decide)) (sw_at hsm7 (by decide)) (by decide)) ?_
              refine s_step (g_iconst (iRow iCX3_rank_0 2 rfl) kc_1) ?_
              exact s_reti (iRow iCX3_rank_0 3 rfl) rfl
            · refine s_ite (fun hsm6 => ?_) (fun hsm6 => ?_)
              · refine s_step (g_tableIn (tgt := 44) (off := 43) (iRow iCX3_rank_0 1 rfl) (sw_lo hsm6 (by decide)) (sw_hi hsm6 (by decide)) (sw_at hsm6 (by decide)) (by decide)) ?_
                refine s_step (g_iconst (iRow iCX3_rank_0 2 rfl) kc_1) ?_
                exact s_reti (iRow iCX3_rank_0 3 rfl) rfl
              · refine s_step (g_tableOut (tgt := 52) (iRow iCX3_rank_0 1 rfl) (sw_out [(-12), (-11), (-10), (-9), (-8), (-7), (-6)] (by decide +kernel) ⟨hsm12, hsm11, hsm10, hsm9, hsm8, hsm7, hsm6, trivial⟩) (by decide)) ?_
                refine s_step (g_iconst (iRow iCX3_rank_0 10 rfl) kc_0) ?_
                exact s_reti (iRow iCX3_rank_0 11 rfl) rfl
abbrev YX2_add : mY := (RX2, "add", cX2_add, 2, none, none)
set_option maxHeartbeats 400000 in
set_option maxRecDepth 20000 in
theorem t_X2_add {G : mg} {F : Nat} {o : Nat} {a1 : Int32} {M : mm} {M' : mm} (d : Nat) (h : m_X2_add F o a1 M = some M') : CM G yX2_add cX2_add 2 none (d + 0) [vR 3 o, vI a1] M none M' := by
  refine ct_v (ls := [some (vR 3 o), some (vI a1)]) rfl rfl (Nat.le_of_ble_eq_true rfl) (fun Z => ?_) h
  show SW G (d + 0) YX2_add Z 0 [some (vR 3 o), some (vI a1)] [] M _ _
  unfold m_X2_add
  refine s_step (g_aload_n (iRow iCX2_add_0 0 rfl) rfl rfl) ?_
  refine s_step (g_getI (iRow iCX2_add_0 1 rfl) f2_37 ko_3) ?_
  refine s_step (g_aload_n (iRow iCX2_add_0 2 rfl) rfl rfl) ?_
  refine s_step (g_getR (iRow iCX2_add_0 3 rfl) f2_17 ko_3 (r_3_3 _ _)) ?_
  refine s_step (g_alen (iRow iCX2_add_0 4 rfl) kn_35 ka_35 (by decide) (by decide) kl_1000) ?_
  refine s_if (g_icmp_ge (tgt := 32) (iRow iCX2_add_0 5 rfl) (by decide)) (fun _ => ?_) (fun _ => ?_)
  · exact s_retv (iRow iCX2_add_0 18 rfl) rfl
  · refine s_step (g_aload_n (iRow iCX2_add_0 6 rfl) rfl rfl) ?_
    refine s_step (g_getR (iRow iCX2_add_0 7 rfl) f2_17 ko_3 (r_3_3 _ _)) ?_
    refine s_step (g_aload_n (iRow iCX2_add_0 8 rfl) rfl rfl) ?_
    refine s_step (g_getI (iRow iCX2_add_0 9 rfl) f2_37 ko_3) ?_
    refine s_step (g_iload_n (iRow iCX2_add_0 10 rfl) rfl rfl) ?_
    refine s_gi (fun h => g_iast (iRow iCX2_add_0 11 rfl) kn_35 ka_35 h) ?_
    refine s_nmM (fun M1 => ?_)
    refine s_step (g_aload_n (iRow iCX2_add_0 12 rfl) rfl rfl) ?_
    refine s_step (g_dup (iRow iCX2_add_0 13 rfl) rfl) ?_
    refine s_step (g_getI (iRow iCX2_add_0 14 rfl) f2_37 ko_3) ?_
    refine s_step (g_iconst (iRow iCX2_add_0 15 rfl) kc_1) ?_
    refine s_step (g_iadd (iRow iCX2_add_0 16 rfl)) ?_
    refine s_step (g_putI (iRow iCX2_add_0 17 rfl) f2_37 (Or.inl rfl) ko_3) ?_
    refine s_nmM (fun M2 => ?_)
    exact s_retv (iRow iCX2_add_0 18 rfl) rfl
abbrev YX3_settle : mY := (RX3, "settle", cX3_settle, 2, none, none)
set_option maxHeartbeats 400000 in
set_option maxRecDepth 20000 in
theorem t_X3_settle {G : mg} {F : Nat} {a1 : Int32} {M : mm} {M' : mm} (d : Nat) (h : m_X3_settle F a1 M = some M') : CM G yX3_settle cX3_settle 2 none (d + 1) [vR 4 0, vI a1] M none M' := by
  refine ct_v (ls := [some (vR 4 0), some (vI a1)]) rfl rfl (Nat.le_of_ble_eq_true rfl) (fun Z => ?_) h
  show SW G (d + 1) YX3_settle Z 0 [some (vR 4 0), some (vI a1)] [] M _ _
  unfold m_X3_settle
  refine s_lp (fun z => [some (vR 4 0), some (vI a1)]) (fun z => z) (fun z => LM G (d + 1) YX3_settle Z 54 [none, none] [] z) rfl rfl ?_ ?_
  · rintro M1
    show SW G (d + 1) YX3_settle Z 0 [some (vR 4 0), some (vI a1)] [] M1 (b_X3_settle_1c F a1 M1) _
    unfold b_X3_settle_1c
    refine s_step (g_aload_n (iRow iCX3_settle_0 0 rfl) rfl rfl) ?_
    refine s_step (g_getI (iRow iCX3_settle_0 1 rfl) f3_26 ko_4) ?_
    refine s_if (g_if_le (tgt := 54) (iRow iCX3_settle_0 2 rfl) (by decide)) (fun _ => ?_) (fun _ => ?_)
    · refine s_step (g_keep [false, false] rfl) ?_
      exact s_end (fun h => h)
    · refine s_step (g_aload_n (iRow iCX3_settle_0 3 rfl) rfl rfl) ?_
      refine s_step (g_getR (iRow iCX3_settle_0 4 rfl) f3_7 ko_4 (r_4_1 _ _)) ?_
      refine s_step (g_aload_n (iRow iCX3_settle_0 5 rfl) rfl rfl) ?_
      refine s_step (g_getI (iRow iCX3_settle_0 6 rfl) f3_26 ko_4) ?_
      refine s_step (g_iconst (iRow iCX3_settle_0 7 rfl) kc_1) ?_
      refine s_step (g_isub (iRow iCX3_settle_0 8 rfl)) ?_
      refine s_gi (fun h => g_iald (iRow iCX3_settle_0 9 rfl) kn_39 ka_39 h) ?_
      refine s_cl (sf := fun x => vI x :: []) (fun _ _ h => h_S (As := [_]) (iRow iCX3_settle_0 10 rfl) l3_77 iX3_rank rfl rfl (t_X3_rank (d + 0) h) rfl (by omega) (by decide) (Nat.le_of_ble_eq_true rfl)) (fun x3 M2 => ?_)
      refine s_step (g_iload_n (iRow iCX3_settle_0 11 rfl) rfl rfl) ?_
      refine s_if (g_icmp_lt (tgt := 54) (iRow iCX3_settle_0 12 rfl) (by decide)) (fun _ => ?_) (fun _ => ?_)
      · refine s_step (g_keep [false, false] rfl) ?_
        exact s_end (fun h => h)
      · refine s_step (g_aload_n (iRow iCX3_settle_0 13 rfl) rfl rfl) ?_
        refine s_step (g_dup (iRow iCX3_settle_0 14 rfl) rfl) ?_
        refine s_step (g_getI (iRow iCX3_settle_0 15 rfl) f3_26 ko_4) ?_
        refine s_step (g_iconst (iRow iCX3_settle_0 16 rfl) kc_1) ?_
        refine s_step (g_isub (iRow iCX3_settle_0 17 rfl)) ?_
        refine s_step (g_putI (iRow iCX3_settle_0 18 rfl) f3_26 (Or.inl rfl) ko_4) ?_
        refine s_nmM (fun M4 => ?_)
        refine s_step (g_aload_n (iRow iCX3_settle_0 19 rfl) rfl rfl) ?_
        refine s_step (g_getR (iRow iCX3_settle_0 20 rfl) f3_17 ko_4 (r_4_6 _ _)) ?_
        refine s_step (g_aload_n (iRow iCX3_settle_0 21 rfl) rfl rfl) ?_
        refine s_step (g_getR (iRow iCX3_settle_0 22 rfl) f3_7 ko_4 (r_4_1 _ _)) ?_
        refine s_step (g_aload_n (iRow iCX3_settle_0 23 rfl) rfl rfl) ?_
        refine s_step (g_getI (iRow iCX3_settle_1 0 rfl) f3_26 ko_4) ?_
        refine s_gi (fun h => g_iald (iRow iCX3_settle_1 1 rfl) kn_39 ka_39 h) ?_
        refine s_cv (stA := []) (fun _ h => h_V (As := [_]) (iRow iCX3_settle_1 2 rfl) l3_68 iX2_add ko_3 rfl rfl rfl rfl (t_X2_add (d + 0) h) rfl (by omega) (by decide) (Nat.le_of_ble_eq_true rfl)) (fun M5 => ?_)
        refine s_step (g_goto (tgt := 0) (iRow iCX3_settle_1 3 rfl) (by decide)) ?_
        exact s_end (fun h => h)
  · rintro M6
    show SW G (d + 1) YX3_settle Z 54 [none, none] [] M6 _ _
    try dsimp only
    exact s_retv (iRow iCX3_settle_1 4 rfl) rfl
abbrev YX3_push : mY := (RX3, "push", cX3_push, 2, none, none)
set_option maxHeartbeats 400000 in
set_option maxRecDepth 20000 in
theorem t_X3_push {G : mg} {F : Nat} {a1 : Int32} {M : mm} {M' : mm} (d : Nat) (h : m_X3_push F a1 M = some M') : CM G yX3_push cX3_push 2 none (d + 0) [vR 4 0, vI a1] M none M' := by
  refine ct_v (ls := [some (vR 4 0), some (vI a1)]) rfl rfl (Nat.le_of_ble_eq_true rfl) (fun Z => ?_) h
  show SW G (d + 0) YX3_push Z 0 [some (vR 4 0), some (vI a1)] [] M _ _
  unfold m_X3_push
  refine s_step (g_aload_n (iRow iCX3_push_0 0 rfl) rfl rfl) ?_
  refine s_step (g_getI (iRow iCX3_push_0 1 rfl) f3_26 ko_4) ?_
  refine s_step (g_aload_n (iRow iCX3_push_0 2 rfl) rfl rfl) ?_
  refine s_step (g_getR (iRow iCX3_push_0 3 rfl) f3_7 ko_4 (r_4_1 _ _)) ?_
  refine s_step (g_alen (iRow iCX3_push_0 4 rfl) kn_39 ka_39 (by decide) (by decide) kl_64) ?_
  refine s_if (g_icmp_ge (tgt := 32) (iRow iCX3_push_0 5 rfl) (by decide)) (fun _ => ?_) (fun _ => ?_)
  · exact s_retv (iRow iCX3_push_0 18 rfl) rfl
  · refine s_step (g_aload_n (iRow iCX3_push_0 6 rfl) rfl rfl) ?_
    refine s_step (g_getR (iRow iCX3_push_0 7 rfl) f3_7 ko_4 (r_4_1 _ _)) ?_
    refine s_step (g_aload_n (iRow iCX3_push_0 8 rfl) rfl rfl) ?_
    refine s_step (g_getI (iRow iCX3_push_0 9 rfl) f3_26 ko_4) ?_
    refine s_step (g_iload_n (iRow iCX3_push_0 10 rfl) rfl rfl) ?_
    refine s_gi (fun h => g_iast (iRow iCX3_push_0 11 rfl) kn_39 ka_39 h) ?_
    refine s_nmM (fun M1 => ?_)
    refine s_step (g_aload_n (iRow iCX3_push_0 12 rfl) rfl rfl) ?_
    refine s_step (g_dup (iRow iCX3_push_0 13 rfl) rfl) ?_
    refine s_step (g_getI (iRow iCX3_push_0 14 rfl) f3_26 ko_4) ?_
    refine s_step (g_iconst (iRow iCX3_push_0 15 rfl) kc_1) ?_
    refine s_step (g_iadd (iRow iCX3_push_0 16 rfl)) ?_
    refine s_step (g_putI (iRow iCX3_push_0 17 rfl) f3_26 (Or.inl rfl) ko_4) ?_
    refine s_nmM (fun M2 => ?_)
    exact s_retv (iRow iCX3_push_0 18 rfl) rfl
abbrev YX3_endPart : mY := (RX3, "endPart", cX3_endPart, 1, none, none)
set_option maxHeartbeats 400000 in
set_option maxRecDepth 20000 in
theorem t_X3_endPart {G : mg} {F : Nat} {M : mm} {M' : mm} (d : Nat) (h : m_X3_endPart F M = some M') : CM G yX3_endPart cX3_endPart 1 none (d + 1) [vR 4 0] M none M' := by
  refine ct_v (ls := [some (vR 4 0)]) rfl rfl (Nat.le_of_ble_eq_true rfl) (fun Z => ?_) h
  show SW G (d + 1) YX3_endPart Z 0 [some (vR 4 0)] [] M _ _
  unfold m_X3_endPart
  refine s_lp (fun z => [some (vR 4 0)]) (fun z => z) (fun z => LM G (d + 1) YX3_endPart Z 55 [some (vR 4 0)] [] z) rfl rfl ?_ ?_
  · rintro M1
    show SW G (d + 1) YX3_endPart Z 0 [some (vR 4 0)] [] M1 (b_X3_endPart_1c F M1) _
    unfold b_X3_endPart_1c
    refine s_step (g_aload_n (iRow iCX3_endPart_0 0 rfl) rfl rfl) ?_
    refine s_step (g_getI (iRow iCX3_endPart_0 1 rfl) f3_26 ko_4) ?_
    refine s_if (g_if_le (tgt := 55) (iRow iCX3_endPart_0 2 rfl) (by decide)) (fun _ => ?_) (fun _ => ?_)
    · exact s_end (fun h => h)
    · refine s_step (g_aload_n (iRow iCX3_endPart_0 3 rfl) rfl rfl) ?_
      refine s_step (g_getR (iRow iCX3_endPart_0 4 rfl) f3_7 ko_4 (r_4_1 _ _)) ?_
      refine s_step (g_aload_n (iRow iCX3_endPart_0 5 rfl) rfl rfl) ?_
      refine s_step (g_getI (iRow iCX3_endPart_0 6 rfl) f3_26 ko_4) ?_
      refine s_step (g_iconst (iRow iCX3_endPart_0 7 rfl) kc_1) ?_
      refine s_step (g_isub (iRow iCX3_endPart_0 8 rfl)) ?_
      refine s_gi (fun h => g_iald (iRow iCX3_endPart_0 9 rfl) kn_39 ka_39 h) ?_
      refine s_step (g_bipush (iRow iCX3_endPart_0 10 rfl) kb_m5) ?_
      refine s_ifn (g_icmp_ne (tgt := 55) (iRow iCX3_endPart_0 11 rfl) (by decide)) (fun _ => ?_) (fun _ => ?_)
      · refine s_step (g_aload_n (iRow iCX3_endPart_0 12 rfl) rfl rfl) ?_
        refine s_step (g_dup (iRow iCX3_endPart_0 13 rfl) rfl) ?_
        refine s_step (g_getI (iRow iCX3_endPart_0 14 rfl) f3_26 ko_4) ?_
        refine s_step (g_iconst (iRow iCX3_endPart_0 15 rfl) kc_1) ?_
        refine s_step (g_isub (iRow iCX3_endPart_0 16 rfl)) ?_
        refine s_step (g_putI (iRow iCX3_endPart_0 17 rfl) f3_26 (Or.inl rfl) ko_4) ?_
        refine s_nmM (fun M2 => ?_)
        refine s_step (g_aload_n (iRow iCX3_endPart_0 18 rfl) rfl rfl) ?_
        refine s_step (g_dup (iRow iCX3_endPart_0 19 rfl) rfl) ?_
        refine s_step (g_getI (iRow iCX3_endPart_0 20 rfl) f3_30 ko_4) ?_
        refine s_step (g_iconst (iRow iCX3_endPart_0 21 rfl) kc_1) ?_
        refine s_step (g_isub (iRow iCX3_endPart_0 22 rfl)) ?_
        refine s_step (g_putI (iRow iCX3_endPart_0 23 rfl) f3_30 (Or.inl rfl) ko_4) ?_
        refine s_nmM (fun M3 => ?_)
        refine s_step (g_aload_n (iRow iCX3_endPart_1 0 rfl) rfl rfl) ?_
        refine s_step (g_getR (iRow iCX3_endPart_1 1 rfl) f3_17 ko_4 (r_4_6 _ _)) ?_
        refine s_step (g_bipush (iRow iCX3_endPart_1 2 rfl) kb_m5) ?_
        refine s_cv (stA := []) (fun _ h => h_V (As := [_]) (iRow iCX3_endPart_1 3 rfl) l3_68 iX2_add ko_3 rfl rfl rfl rfl (t_X2_add (d + 0) h) rfl (by omega) (by decide) (Nat.le_of_ble_eq_true rfl)) (fun M4 => ?_)
        refine s_step (g_goto (tgt := 0) (iRow iCX3_endPart_1 4 rfl) (by decide)) ?_
        exact s_end (fun h => h)
      · exact s_end (fun h => h)
  · rintro M5
    show SW G (d + 1) YX3_endPart Z 55 [some (vR 4 0)] [] M5 _ _
    try dsimp only
    refine s_step (g_aload_n (iRow iCX3_endPart_1 5 rfl) rfl rfl) ?_
    refine s_step (g_iconst (iRow iCX3_endPart_1 6 rfl) kc_0) ?_
    refine s_step (g_putZ (iRow iCX3_endPart_1 7 rfl) f3_36 (Or.inl rfl) ko_4 (by decide)) ?_
    refine s_nmM (fun M6 => ?_)
    exact s_retv (iRow iCX3_endPart_1 8 rfl) rfl
abbrev YX3_readJoint : mY := (RX3, "readJoint", cX3_readJoint, 4, (some .int), none)
set_option maxHeartbeats 400000 in
set_option maxRecDepth 20000 in
theorem t_X3_readJoint {G : mg} {F : Nat} {M : mm} {x : Int32} {M' : mm} (d : Nat) (h : m_X3_readJoint F M = some (x, M')) : CM G yX3_readJoint cX3_readJoint 4 (some .int) (d + 2) [vR 4 0] M (some (vI x)) M' := by
  refine ct_i (ls := [some (vR 4 0), none, none, none]) rfl rfl (Nat.le_of_ble_eq_true rfl) (fun Z => ?_) h
  show SW G (d + 2) YX3_readJoint Z 0 [some (vR 4 0), none, none, none] [] M _ _
  unfold m_X3_readJoint
  refine s_step (g_aload_n (iRow iCX3_readJoint_0 0 rfl) rfl rfl) ?_
  refine s_step (g_getR (iRow iCX3_readJoint_0 1 rfl) f3_13 ko_4 (r_4_0 _ _)) ?_
  refine s_step (g_bipush (iRow iCX3_readJoint_0 2 rfl) kb_41) ?_
  refine s_cb (sf := fun b => vI (bI b) :: []) (fun _ _ h => h_V (As := [_]) (iRow iCX3_readJoint_0 3 rfl) l3_42 iX6_isSign ko_7 rfl rfl rfl rfl (t_X6_isSign (d + 1) h) rfl (by omega) (by decide) (Nat.le_of_ble_eq_true rfl)) (fun b2 M1 => ?_)
  refine s_ifeqb (g_if_eq (tgt := 62) (iRow iCX3_readJoint_0 4 rfl) (by decide)) (fun _ => ?_) (fun _ => ?_)
  · refine s_step (g_aload_n (iRow iCX3_readJoint_0 5 rfl) rfl rfl) ?_
    refine s_step (g_getI (iRow iCX3_readJoint_0 6 rfl) f3_33 ko_4) ?_
    refine s_ifn (g_if_ne (tgt := 21) (iRow iCX3_readJoint_0 7 rfl) (by decide)) (fun _ => ?_) (fun _ => ?_)
    · refine s_step (g_iconst (iRow iCX3_readJoint_0 8 rfl) kc_1) ?_
      exact s_reti (iRow iCX3_readJoint_0 9 rfl) rfl
    · refine s_step (g_aload_n (iRow iCX3_readJoint_0 10 rfl) rfl rfl) ?_
      refine s_step (g_iconst (iRow iCX3_readJoint_0 11 rfl) kc_1) ?_
      refine s_cv (stA := []) (fun _ h => h_V (As := [_]) (iRow iCX3_readJoint_0 12 rfl) l3_46 iX3_settle ko_4 rfl rfl rfl rfl (t_X3_settle (d + 0) h) rfl (by omega) (by decide) (Nat.le_of_ble_eq_true rfl)) (fun M17 => ?_)
      refine s_step (g_aload_n (iRow iCX3_readJoint_0 13 rfl) rfl rfl) ?_
      refine s_step (g_dup (iRow iCX3_readJoint_0 14 rfl) rfl) ?_
      refine s_step (g_getI (iRow iCX3_readJoint_0 15 rfl) f3_26 ko_4) ?_
      refine s_step (g_iconst (iRow iCX3_readJoint_0 16 rfl) kc_1) ?_
      refine s_step (g_isub (iRow iCX3_readJoint_0 17 rfl)) ?_
      refine s_step (g_putI (iRow iCX3_readJoint_0 18 rfl) f3_26 (Or.inl rfl) ko_4) ?_
      refine s_nmM (fun M18 => ?_)
      refine s_step (g_aload_n (iRow iCX3_readJoint_0 19 rfl) rfl rfl) ?_
      refine s_step (g_dup (iRow iCX3_readJoint_0 20 rfl) rfl) ?_
      refine s_step (g_getI (iRow iCX3_readJoint_0 21 rfl) f3_30 ko_4) ?_
      refine s_step (g_iconst (iRow iCX3_readJoint_0 22 rfl) kc_1) ?_
      refine s_step (g_isub (iRow iCX3_readJoint_0 23 rfl)) ?_
      refine s_step (g_putI (iRow iCX3_readJoint_1 0 rfl) f3_30 (Or.inl rfl) ko_4) ?_
      refine s_nmM (fun M19 => ?_)
      refine s_step (g_aload_n (iRow iCX3_readJoint_1 1 rfl) rfl rfl) ?_
      refine s_step (g_dup (iRow iCX3_readJoint_1 2 rfl) rfl) ?_
      refine s_step (g_getI (iRow iCX3_readJoint_1 3 rfl) f3_33 ko_4) ?_
      refine s_step (g_iconst (iRow iCX3_readJoint_1 4 rfl) kc_1) ?_
      refine s_step (g_isub (iRow iCX3_readJoint_1 5 rfl)) ?_
      refine s_step (g_putI (iRow iCX3_readJoint_1 6 rfl) f3_33 (Or.inl rfl) ko_4) ?_
      refine s_nmM (fun M20 => ?_)
      refine s_step (g_aload_n (iRow iCX3_readJoint_1 7 rfl) rfl rfl) ?_
      refine s_cv (stA := []) (fun _ h => h_V (As := []) (iRow iCX3_readJoint_1 8 rfl) l3_71 iX3_endPart ko_4 rfl rfl rfl rfl (t_X3_endPart (d + 0) h) rfl (by omega) (by decide) (Nat.le_of_ble_eq_true rfl)) (fun M21 => ?_)
      refine s_step (g_iconst (iRow iCX3_readJoint_1 9 rfl) kc_0) ?_
      exact s_reti (iRow iCX3_readJoint_1 10 rfl) rfl
  · refine s_step (g_aload_n (iRow iCX3_readJoint_1 11 rfl) rfl rfl) ?_
    refine s_cl (sf := fun x => vI x :: []) (fun _ _ h => h_V (As := []) (iRow iCX3_readJoint_1 12 rfl) l3_74 iX3_jointCode ko_4 rfl rfl rfl rfl (t_X3_jointCode (d + 0) h) rfl (by omega) (by decide) (Nat.le_of_ble_eq_true rfl)) (fun x4 M3 => ?_)
    refine s_step (g_istore_n (ls' := [some (vR 4 0), some (vI x4), none, none]) (iRow iCX3_readJoint_1 13 rfl) rfl (by decide) rfl) ?_
    refine s_step (g_iload_n (iRow iCX3_readJoint_1 14 rfl) rfl rfl) ?_
    refine s_step (g_bipush (iRow iCX3_readJoint_1 15 rfl) kb_m14) ?_
    refine s_ifn (g_icmp_ne (tgt := 75) (iRow iCX3_readJoint_1 16 rfl) (by decide)) (fun _ => ?_) (fun _ => ?_)
    · refine s_step (g_iconst (iRow iCX3_readJoint_1 17 rfl) kc_1) ?_
      exact s_reti (iRow iCX3_readJoint_1 18 rfl) rfl
    · refine s_step (g_iload_n (iRow iCX3_readJoint_1 19 rfl) rfl rfl) ?_
      refine s_cl (sf := fun x => vI x :: []) (fun _ _ h => h_S (As := [_]) (iRow iCX3_readJoint_1 20 rfl) l3_77 iX3_rank rfl rfl (t_X3_rank (d + 1) h) rfl (by omega) (by decide) (Nat.le_of_ble_eq_true rfl)) (fun x6 M5 => ?_)
      refine s_step (g_istore_n (ls' := [some (vR 4 0), some (vI x4), some (vI x6), none]) (iRow iCX3_readJoint_1 21 rfl) rfl (by decide) rfl) ?_
      refine s_step (g_iload_n (iRow iCX3_readJoint_1 22 rfl) rfl rfl) ?_
      refine s_step (g_bipush (iRow iCX3_readJoint_1 23 rfl) kb_m8) ?_
      refine s_cl (sf := fun x => vI x :: [vI x6]) (fun _ _ h => h_S (As := [_]) (iRow iCX3_readJoint_2 0 rfl) l3_77 iX3_rank rfl rfl (t_X3_rank (d + 1) h) rfl (by omega) (by decide) (Nat.le_of_ble_eq_true rfl)) (fun x8 M7 => ?_)
      refine s_bd (fun z => LM G (d + 2) YX3_readJoint Z 94 [some (vR 4 0), some (vI x4), some (vI x6), none] [vI z] M7) ?_ ?_
      · refine s_ifn (g_icmp_ne (tgt := 93) (iRow iCX3_readJoint_2 1 rfl) (by decide)) (fun _ => ?_) (fun _ => ?_)
        · refine s_step (g_iconst (iRow iCX3_readJoint_2 2 rfl) kc_1) ?_
          refine s_step (g_goto (tgt := 94) (iRow iCX3_readJoint_2 3 rfl) (by decide)) ?_
          exact s_end (fun h => h)
        · refine s_step (g_iconst (iRow iCX3_readJoint_2 4 rfl) kc_0) ?_
          exact s_end (fun h => h)
      · rintro x9
        show SW G (d + 2) YX3_readJoint Z 94 [some (vR 4 0), some (vI x4), some (vI x6), none] [vI x9] M7 _ _
        try dsimp only
        refine s_step (g_istore_n (ls' := [some (vR 4 0), some (vI x4), some (vI x6), some (vI x9)]) (iRow iCX3_readJoint_2 5 rfl) rfl (by decide) rfl) ?_
        refine s_step (g_aload_n (iRow iCX3_readJoint_2 6 rfl) rfl rfl) ?_
        refine s_step (g_iload_n (iRow iCX3_readJoint_2 7 rfl) rfl rfl) ?_
        refine s_bd (fun z => LM G (d + 2) YX3_readJoint Z 107 [some (vR 4 0), some (vI x4), some (vI x6), some (vI x9)] [vI z, vR 4 0] M7) ?_ ?_
        · refine s_if (g_if_eq (tgt := 106) (iRow iCX3_readJoint_2 8 rfl) (by decide)) (fun _ => ?_) (fun _ => ?_)
          · refine s_step (g_iload_n (iRow iCX3_readJoint_2 13 rfl) rfl rfl) ?_
            exact s_end (fun h => h)
          · refine s_step (g_iload_n (iRow iCX3_readJoint_2 9 rfl) rfl rfl) ?_
            refine s_step (g_iconst (iRow iCX3_readJoint_2 10 rfl) kc_1) ?_
            refine s_step (g_iadd (iRow iCX3_readJoint_2 11 rfl)) ?_
            refine s_step (g_goto (tgt := 107) (iRow iCX3_readJoint_2 12 rfl) (by decide)) ?_
            exact s_end (fun h => h)
        · rintro x10
          show SW G (d + 2) YX3_readJoint Z 107 [some (vR 4 0), some (vI x4), some (vI x6), some (vI x9)] [vI x10, vR 4 0] M7 _ _
          try dsimp only
          refine s_cv (stA := []) (fun _ h => h_V (As := [_]) (iRow iCX3_readJoint_2 14 rfl) l3_46 iX3_settle ko_4 rfl rfl rfl rfl (t_X3_settle (d + 0) h) rfl (by omega) (by decide) (Nat.le_of_ble_eq_true rfl)) (fun M11 => ?_)
          refine s_step (g_iload_n (iRow iCX3_readJoint_2 15 rfl) rfl rfl) ?_
          refine s_nj 141 (fun z => [some (vR 4 0), some (vI x4), none, none]) (fun z => []) (fun z => z) ?_ (fun j141 hj141 => ?_)
          · rintro M14
            show SW G (d + 2) YX3_readJoint Z 141 [some (vR 4 0), some (vI x4), none, none] [] M14 _ _
            try dsimp only
            refine s_step (g_aload_n (iRow iCX3_readJoint_3 8 rfl) rfl rfl) ?_
            refine s_step (g_iload_n (iRow iCX3_readJoint_3 9 rfl) rfl rfl) ?_
            refine s_cv (stA := []) (fun _ h => h_V (As := [_]) (iRow iCX3_readJoint_3 10 rfl) l3_65 iX3_push ko_4 rfl rfl rfl rfl (t_X3_push (d + 1) h) rfl (by omega) (by decide) (Nat.le_of_ble_eq_true rfl)) (fun M15 => ?_)
            refine s_step (g_aload_n (iRow iCX3_readJoint_3 11 rfl) rfl rfl) ?_
            refine s_step (g_iconst (iRow iCX3_readJoint_3 12 rfl) kc_1) ?_
            refine s_step (g_putZ (iRow iCX3_readJoint_3 13 rfl) f3_36 (Or.inl rfl) ko_4 (by decide)) ?_
            refine s_nmM (fun M16 => ?_)
            refine s_step (g_iconst (iRow iCX3_readJoint_3 14 rfl) kc_0) ?_
            exact s_reti (iRow iCX3_readJoint_3 15 rfl) rfl
          · refine s_if (g_if_eq (tgt := 141) (iRow iCX3_readJoint_2 16 rfl) (by decide)) (fun _ => ?_) (fun _ => ?_)
            · refine s_step (g_keep [true, true, false, false] rfl) ?_
              exact hj141 _
            · refine s_step (g_aload_n (iRow iCX3_readJoint_2 17 rfl) rfl rfl) ?_
              refine s_step (g_getI (iRow iCX3_readJoint_2 18 rfl) f3_26 ko_4) ?_
              refine s_if (g_if_le (tgt := 141) (iRow iCX3_readJoint_2 19 rfl) (by decide)) (fun _ => ?_) (fun _ => ?_)
              · refine s_step (g_keep [true, true, false, false] rfl) ?_
                exact hj141 _
              · refine s_step (g_aload_n (iRow iCX3_readJoint_2 20 rfl) rfl rfl) ?_
                refine s_step (g_getR (iRow iCX3_readJoint_2 21 rfl) f3_7 ko_4 (r_4_1 _ _)) ?_
                refine s_step (g_aload_n (iRow iCX3_readJoint_2 22 rfl) rfl rfl) ?_
                refine s_step (g_getI (iRow iCX3_readJoint_2 23 rfl) f3_26 ko_4) ?_
                refine s_step (g_iconst (iRow iCX3_readJoint_3 0 rfl) kc_1) ?_
                refine s_step (g_isub (iRow iCX3_readJoint_3 1 rfl)) ?_
                refine s_gi (fun h => g_iald (iRow iCX3_readJoint_3 2 rfl) kn_39 ka_39 h) ?_
                refine s_cl (sf := fun x => vI x :: []) (fun _ _ h => h_S (As := [_]) (iRow iCX3_readJoint_3 3 rfl) l3_77 iX3_rank rfl rfl (t_X3_rank (d + 1) h) rfl (by omega) (by decide) (Nat.le_of_ble_eq_true rfl)) (fun x13 M12 => ?_)
                refine s_step (g_iload_n (iRow iCX3_readJoint_3 4 rfl) rfl rfl) ?_
                refine s_ifn (g_icmp_ne (tgt := 141) (iRow iCX3_readJoint_3 5 rfl) (by decide)) (fun _ => ?_) (fun _ => ?_)
                · refine s_step (g_iconst (iRow iCX3_readJoint_3 6 rfl) kc_1) ?_
                  exact s_reti (iRow iCX3_readJoint_3 7 rfl) rfl
                · refine s_step (g_keep [true, true, false, false] rfl) ?_
                  exact hj141 _
abbrev YX3_partCode : mY := (RX3, "partCode", cX3_partCode, 2, (some .int), none)
set_option maxHeartbeats 400000 in
set_option maxRecDepth 20000 in
theorem t_X3_partCode {G : mg} {F : Nat} {M : mm} {x : Int32} {M' : mm} (d : Nat) (h : m_X3_partCode F M = some (x, M')) : CM G yX3_partCode cX3_partCode 2 (some .int) (d + 1) [vR 4 0] M (some (vI x)) M' := by
  refine ct_i (ls := [some (vR 4 0), none]) rfl rfl (Nat.le_of_ble_eq_true rfl) (fun Z => ?_) h
  show SW G (d + 1) YX3_partCode Z 0 [some (vR 4 0), none] [] M _ _
  unfold m_X3_partCode
  refine s_step (g_aload_n (iRow iCX3_partCode_0 0 rfl) rfl rfl) ?_
  refine s_step (g_getR (iRow iCX3_partCode_0 1 rfl) f3_13 ko_4 (r_4_0 _ _)) ?_
  refine s_step (g_getI (iRow iCX3_partCode_0 2 rfl) f3_81 ko_7) ?_
  refine s_step (g_iconst (iRow iCX3_partCode_0 3 rfl) kc_3) ?_
  refine s_ifn (g_icmp_ne (tgt := 19) (iRow iCX3_partCode_0 4 rfl) (by decide)) (fun _ => ?_) (fun _ => ?_)
  · refine s_step (g_aload_n (iRow iCX3_partCode_0 5 rfl) rfl rfl) ?_
    refine s_step (g_getR (iRow iCX3_partCode_0 6 rfl) f3_13 ko_4 (r_4_0 _ _)) ?_
    refine s_step (g_getI (iRow iCX3_partCode_0 7 rfl) f3_84 ko_7) ?_
    exact s_reti (iRow iCX3_partCode_0 8 rfl) rfl
  · refine s_step (g_aload_n (iRow iCX3_partCode_0 9 rfl) rfl rfl) ?_
    refine s_step (g_getR (iRow iCX3_partCode_0 10 rfl) f3_13 ko_4 (r_4_0 _ _)) ?_
    refine s_step (g_bipush (iRow iCX3_partCode_0 11 rfl) kb_40) ?_
    refine s_cb (sf := fun b => vI (bI b) :: []) (fun _ _ h => h_V (As := [_]) (iRow iCX3_partCode_0 12 rfl) l3_42 iX6_isSign ko_7 rfl rfl rfl rfl (t_X6_isSign (d + 0) h) rfl (by omega) (by decide) (Nat.le_of_ble_eq_true rfl)) (fun b2 M1 => ?_)
    refine s_ifeqb (g_if_eq (tgt := 34) (iRow iCX3_partCode_0 13 rfl) (by decide)) (fun _ => ?_) (fun _ => ?_)
    · refine s_step (g_bipush (iRow iCX3_partCode_0 14 rfl) kb_m13) ?_
      exact s_reti (iRow iCX3_partCode_0 15 rfl) rfl
    · refine s_step (g_aload_n (iRow iCX3_partCode_0 16 rfl) rfl rfl) ?_
      refine s_step (g_getR (iRow iCX3_partCode_0 17 rfl) f3_13 ko_4 (r_4_0 _ _)) ?_
      refine s_step (g_bipush (iRow iCX3_partCode_0 18 rfl) kb_22) ?_
      refine s_cb (sf := fun b => vI (bI b) :: []) (fun _ _ h => h_V (As := [_]) (iRow iCX3_partCode_0 19 rfl) l3_87 iX6_isWord ko_7 rfl rfl rfl rfl (t_X6_isWord (d + 0) h) rfl (by omega) (by decide) (Nat.le_of_ble_eq_true rfl)) (fun b4 M3 => ?_)
      refine s_ifeqb (g_if_eq (tgt := 49) (iRow iCX3_partCode_0 20 rfl) (by decide)) (fun _ => ?_) (fun _ => ?_)
      · refine s_step (g_bipush (iRow iCX3_partCode_0 21 rfl) kb_m5) ?_
        exact s_reti (iRow iCX3_partCode_0 22 rfl) rfl
      · refine s_step (g_aload_n (iRow iCX3_partCode_0 23 rfl) rfl rfl) ?_
        refine s_step (g_getR (iRow iCX3_partCode_1 0 rfl) f3_13 ko_4 (r_4_0 _ _)) ?_
        refine s_step (g_getI (iRow iCX3_partCode_1 1 rfl) f3_81 ko_7) ?_
        refine s_step (g_iconst (iRow iCX3_partCode_1 2 rfl) kc_2) ?_
        refine s_bd (fun z => LM G (d + 1) YX3_partCode Z 77 [some (vR 4 0), none] [vI z] M3) ?_ ?_
        · refine s_nj 76 (fun z => [some (vR 4 0), none]) (fun z => []) (fun z => M3) ?_ (fun j76 hj76 => ?_)
          · intro _
            show SW G (d + 1) YX3_partCode Z 76 [some (vR 4 0), none] [] M3 _ _
            try dsimp only
            refine s_step (g_iconst (iRow iCX3_partCode_1 11 rfl) kc_0) ?_
            exact s_end (fun h => h)
          · refine s_ifn (g_icmp_ne (tgt := 76) (iRow iCX3_partCode_1 3 rfl) (by decide)) (fun _ => ?_) (fun _ => ?_)
            · refine s_step (g_aload_n (iRow iCX3_partCode_1 4 rfl) rfl rfl) ?_
              refine s_step (g_getR (iRow iCX3_partCode_1 5 rfl) f3_13 ko_4 (r_4_0 _ _)) ?_
              refine s_step (g_getI (iRow iCX3_partCode_1 6 rfl) f3_91 ko_7) ?_
              refine s_step (g_bipush (iRow iCX3_partCode_1 7 rfl) kb_25) ?_
              refine s_if (g_icmp_lt (tgt := 76) (iRow iCX3_partCode_1 8 rfl) (by decide)) (fun _ => ?_) (fun _ => ?_)
              · exact hj76 _
              · refine s_step (g_iconst (iRow iCX3_partCode_1 9 rfl) kc_1) ?_
                refine s_step (g_goto (tgt := 77) (iRow iCX3_partCode_1 10 rfl) (by decide)) ?_
                exact s_end (fun h => h)
            · exact hj76 _
        · rintro x5
          show SW G (d + 1) YX3_partCode Z 77 [some (vR 4 0), none] [vI x5] M3 _ _
          try dsimp only
          refine s_step (g_istore_n (ls' := [some (vR 4 0), some (vI x5)]) (iRow iCX3_partCode_1 12 rfl) rfl (by decide) rfl) ?_
          refine s_step (g_iload_n (iRow iCX3_partCode_1 13 rfl) rfl rfl) ?_
          refine s_if (g_if_eq (tgt := 97) (iRow iCX3_partCode_1 14 rfl) (by decide)) (fun _ => ?_) (fun _ => ?_)
          · refine s_step (g_bipush (iRow iCX3_partCode_1 23 rfl) kb_m14) ?_
            exact s_reti (iRow iCX3_partCode_2 0 rfl) rfl
          · refine s_step (g_iconst (iRow iCX3_partCode_1 15 rfl) kc_m1) ?_
            refine s_step (g_aload_n (iRow iCX3_partCode_1 16 rfl) rfl rfl) ?_
            refine s_step (g_getR (iRow iCX3_partCode_1 17 rfl) f3_13 ko_4 (r_4_0 _ _)) ?_
            refine s_step (g_getI (iRow iCX3_partCode_1 18 rfl) f3_91 ko_7) ?_
            refine s_step (g_bipush (iRow iCX3_partCode_1 19 rfl) kb_25) ?_
            refine s_step (g_isub (iRow iCX3_partCode_1 20 rfl)) ?_
            refine s_step (g_isub (iRow iCX3_partCode_1 21 rfl)) ?_
            refine s_step (g_goto (tgt := 99) (iRow iCX3_partCode_1 22 rfl) (by decide)) ?_
            exact s_reti (iRow iCX3_partCode_2 0 rfl) rfl
abbrev YX3_readPart : mY := (RX3, "readPart", cX3_readPart, 2, (some .int), none)
set_option maxHeartbeats 400000 in
set_option maxRecDepth 20000 in
theorem t_X3_readPart {G : mg} {F : Nat} {M : mm} {x : Int32} {M' : mm} (d : Nat) (h : m_X3_readPart F M = some (x, M')) : CM G yX3_readPart cX3_readPart 2 (some .int) (d + 2) [vR 4 0] M (some (vI x)) M' := by
  refine ct_i (ls := [some (vR 4 0), none]) rfl rfl (Nat.le_of_ble_eq_true rfl) (fun Z => ?_) h
  show SW G (d + 2) YX3_readPart Z 0 [some (vR 4 0), none] [] M _ _
  unfold m_X3_readPart
  refine s_step (g_aload_n (iRow iCX3_readPart_0 0 rfl) rfl rfl) ?_
  refine s_cl (sf := fun x => vI x :: []) (fun _ _ h => h_V (As := []) (iRow iCX3_readPart_0 1 rfl) l3_62 iX3_partCode ko_4 rfl rfl rfl rfl (t_X3_partCode (d + 0) h) rfl (by omega) (by decide) (Nat.le_of_ble_eq_true rfl)) (fun x2 M1 => ?_)
  refine s_step (g_istore_n (ls' := [some (vR 4 0), some (vI x2)]) (iRow iCX3_readPart_0 2 rfl) rfl (by decide) rfl) ?_
  refine s_step (g_iload_n (iRow iCX3_readPart_0 3 rfl) rfl rfl) ?_
  refine s_step (g_bipush (iRow iCX3_readPart_0 4 rfl) kb_m14) ?_
  refine s_ifn (g_icmp_ne (tgt := 13) (iRow iCX3_readPart_0 5 rfl) (by decide)) (fun _ => ?_) (fun _ => ?_)
  · refine s_step (g_iconst (iRow iCX3_readPart_0 6 rfl) kc_1) ?_
    exact s_reti (iRow iCX3_readPart_0 7 rfl) rfl
  · refine s_step (g_aload_n (iRow iCX3_readPart_0 8 rfl) rfl rfl) ?_
    refine s_step (g_getI (iRow iCX3_readPart_0 9 rfl) f3_30 ko_4) ?_
    refine s_step (g_iconst (iRow iCX3_readPart_0 10 rfl) kc_5) ?_
    refine s_if (g_icmp_lt (tgt := 23) (iRow iCX3_readPart_0 11 rfl) (by decide)) (fun _ => ?_) (fun _ => ?_)
    · refine s_step (g_iload_n (iRow iCX3_readPart_0 14 rfl) rfl rfl) ?_
      refine s_step (g_bipush (iRow iCX3_readPart_0 15 rfl) kb_m5) ?_
      refine s_nj 35 (fun z => [some (vR 4 0), some (vI x2)]) (fun z => []) (fun z => M1) ?_ (fun j35 hj35 => ?_)
      · intro _
        show SW G (d + 2) YX3_readPart Z 35 [some (vR 4 0), some (vI x2)] [] M1 _ _
        try dsimp only
        refine s_step (g_aload_n (iRow iCX3_readPart_0 20 rfl) rfl rfl) ?_
        refine s_step (g_iload_n (iRow iCX3_readPart_0 21 rfl) rfl rfl) ?_
        refine s_cv (stA := []) (fun _ h => h_V (As := [_]) (iRow iCX3_readPart_0 22 rfl) l3_65 iX3_push ko_4 rfl rfl rfl rfl (t_X3_push (d + 1) h) rfl (by omega) (by decide) (Nat.le_of_ble_eq_true rfl)) (fun M5 => ?_)
        refine s_step (g_aload_n (iRow iCX3_readPart_0 23 rfl) rfl rfl) ?_
        refine s_step (g_dup (iRow iCX3_readPart_1 0 rfl) rfl) ?_
        refine s_step (g_getI (iRow iCX3_readPart_1 1 rfl) f3_30 ko_4) ?_
        refine s_step (g_iconst (iRow iCX3_readPart_1 2 rfl) kc_1) ?_
        refine s_step (g_iadd (iRow iCX3_readPart_1 3 rfl)) ?_
        refine s_step (g_putI (iRow iCX3_readPart_1 4 rfl) f3_30 (Or.inl rfl) ko_4) ?_
        refine s_nmM (fun M6 => ?_)
        refine s_step (g_aload_n (iRow iCX3_readPart_1 5 rfl) rfl rfl) ?_
        refine s_step (g_dup (iRow iCX3_readPart_1 6 rfl) rfl) ?_
        refine s_step (g_getI (iRow iCX3_readPart_1 7 rfl) f3_33 ko_4) ?_
        refine s_step (g_iload_n (iRow iCX3_readPart_1 8 rfl) rfl rfl) ?_
        refine s_step (g_bipush (iRow iCX3_readPart_1 9 rfl) kb_m13) ?_
        refine s_bd (fun z => LM G (d + 2) YX3_readPart Z 66 [none, none] [vI z, vI (M6.1 4 0 4), vR 4 0] M6) ?_ ?_
        · refine s_ifn (g_icmp_ne (tgt := 65) (iRow iCX3_readPart_1 10 rfl) (by decide)) (fun _ => ?_) (fun _ => ?_)
          · refine s_step (g_iconst (iRow iCX3_readPart_1 11 rfl) kc_1) ?_
            refine s_step (g_goto (tgt := 66) (iRow iCX3_readPart_1 12 rfl) (by decide)) ?_
            refine s_step (g_keep [false, false] rfl) ?_
            exact s_end (fun h => h)
          · refine s_step (g_iconst (iRow iCX3_readPart_1 13 rfl) kc_0) ?_
            refine s_step (g_keep [false, false] rfl) ?_
            exact s_end (fun h => h)
        · rintro x7
          show SW G (d + 2) YX3_readPart Z 66 [none, none] [vI x7, vI (M6.1 4 0 4), vR 4 0] M6 _ _
          try dsimp only
          refine s_step (g_iadd (iRow iCX3_readPart_1 14 rfl)) ?_
          refine s_step (g_putI (iRow iCX3_readPart_1 15 rfl) f3_33 (Or.inl rfl) ko_4) ?_
          refine s_nmM (fun M8 => ?_)
          refine s_step (g_iconst (iRow iCX3_readPart_1 16 rfl) kc_0) ?_
          exact s_reti (iRow iCX3_readPart_1 17 rfl) rfl
      · refine s_if (g_icmp_eq (tgt := 35) (iRow iCX3_readPart_0 16 rfl) (by decide)) (fun _ => ?_) (fun _ => ?_)
        · exact hj35 _
        · refine s_step (g_iload_n (iRow iCX3_readPart_0 17 rfl) rfl rfl) ?_
          refine s_step (g_bipush (iRow iCX3_readPart_0 18 rfl) kb_m13) ?_
          refine s_ifn (g_icmp_ne (tgt := 72) (iRow iCX3_readPart_0 19 rfl) (by decide)) (fun _ => ?_) (fun _ => ?_)
          · exact hj35 _
          · refine s_step (g_aload_n (iRow iCX3_readPart_1 18 rfl) rfl rfl) ?_
            refine s_step (g_getR (iRow iCX3_readPart_1 19 rfl) f3_17 ko_4 (r_4_6 _ _)) ?_
            refine s_step (g_iload_n (iRow iCX3_readPart_1 20 rfl) rfl rfl) ?_
            refine s_cv (stA := []) (fun _ h => h_V (As := [_]) (iRow iCX3_readPart_1 21 rfl) l3_68 iX2_add ko_3 rfl rfl rfl rfl (t_X2_add (d + 1) h) rfl (by omega) (by decide) (Nat.le_of_ble_eq_true rfl)) (fun M3 => ?_)
            refine s_step (g_aload_n (iRow iCX3_readPart_1 22 rfl) rfl rfl) ?_
            refine s_cv (stA := []) (fun _ h => h_V (As := []) (iRow iCX3_readPart_1 23 rfl) l3_71 iX3_endPart ko_4 rfl rfl rfl rfl (t_X3_endPart (d + 0) h) rfl (by omega) (by decide) (Nat.le_of_ble_eq_true rfl)) (fun M4 => ?_)
            refine s_step (g_iconst (iRow iCX3_readPart_2 0 rfl) kc_0) ?_
            exact s_reti (iRow iCX3_readPart_2 1 rfl) rfl
    · refine s_step (g_iconst (iRow iCX3_readPart_0 12 rfl) kc_5) ?_
      exact s_reti (iRow iCX3_readPart_0 13 rfl) rfl
abbrev YX3_read : mY := (RX3, "read", cX3_read, 4, (some .int), none)
set_option maxHeartbeats 400000 in
set_option maxRecDepth 20000 in
theorem t_X3_read {G : mg} {F : Nat} {a1 : Nat} {M : mm} {x : Int32} {M' : mm} (d : Nat) (h : m_X3_read F a1 M = some (x, M')) : CM G yX3_read cX3_read 4 (some .int) (d + 3) [vR 4 0, vR 3 a1] M (some (vI x)) M' := by
  refine ct_i (ls := [some (vR 4 0), some (vR 3 a1), none, none]) rfl rfl (Nat.le_of_ble_eq_true rfl) (fun Z => ?_) h
  show SW G (d + 3) YX3_read Z 0 [some (vR 4 0), some (vR 3 a1), none, none] [] M _ _
  unfold m_X3_read
  refine s_step (g_aload_n (iRow iCX3_read_0 0 rfl) rfl rfl) ?_
  refine s_step (g_aload_n (iRow iCX3_read_0 1 rfl) rfl rfl) ?_
  refine s_step (g_putR (r := a1) (iRow iCX3_read_0 2 rfl) f3_17 (Or.inl rfl) ko_4 (r_4_6 _ _)) ?_
  refine s_nmM (fun M1 => ?_)
  refine s_step (g_aload_n (iRow iCX3_read_0 3 rfl) rfl rfl) ?_
  refine s_step (g_getR (iRow iCX3_read_0 4 rfl) f3_17 ko_4 (r_4_6 _ _)) ?_
  refine s_cv (stA := []) (fun _ h => h_V (As := []) (iRow iCX3_read_0 5 rfl) l3_21 iX2_renew ko_3 rfl rfl rfl rfl (t_X2_renew (d + 2) h) rfl (by omega) (by decide) (Nat.le_of_ble_eq_true rfl)) (fun M2 => ?_)
  refine s_step (g_aload_n (iRow iCX3_read_0 6 rfl) rfl rfl) ?_
  refine s_step (g_iconst (iRow iCX3_read_0 7 rfl) kc_0) ?_
  refine s_step (g_putI (iRow iCX3_read_0 8 rfl) f3_26 (Or.inl rfl) ko_4) ?_
  refine s_nmM (fun M3 => ?_)
  refine s_step (g_aload_n (iRow iCX3_read_0 9 rfl) rfl rfl) ?_
  refine s_step (g_iconst (iRow iCX3_read_0 10 rfl) kc_0) ?_
  refine s_step (g_putI (iRow iCX3_read_0 11 rfl) f3_30 (Or.inl rfl) ko_4) ?_
  refine s_nmM (fun M4 => ?_)
  refine s_step (g_aload_n (iRow iCX3_read_0 12 rfl) rfl rfl) ?_
  refine s_step (g_iconst (iRow iCX3_read_0 13 rfl) kc_0) ?_
  refine s_step (g_putI (iRow iCX3_read_0 14 rfl) f3_33 (Or.inl rfl) ko_4) ?_
  refine s_nmM (fun M5 => ?_)
  refine s_step (g_aload_n (iRow iCX3_read_0 15 rfl) rfl rfl) ?_
  refine s_step (g_iconst (iRow iCX3_read_0 16 rfl) kc_1) ?_
  refine s_step (g_putZ (iRow iCX3_read_0 17 rfl) f3_36 (Or.inl rfl) ko_4 (by decide)) ?_
  refine s_nmM (fun M6 => ?_)
  refine s_step (g_iconst (iRow iCX3_read_0 18 rfl) kc_0) ?_
  refine s_step (g_istore_n (ls' := [some (vR 4 0), some (vR 3 a1), some (vI (0 : Int32)), none]) (iRow iCX3_read_0 19 rfl) rfl (by decide) rfl) ?_
  refine s_step (g_keep [true, false, true, false] rfl) ?_
  refine s_lp (fun z => [some (vR 4 0), none, some (vI (z.1)), none]) (fun z => z.2) (Sum.elim (fun z => LM G (d + 3) YX3_read Z 67 [some (vR 4 0), none, none, none] [] z) (Sum.elim (fun z => LM G (d + 3) YX3_read Z 97 [none, none, none, some (vI (z.1))] [] z.2) (fun z => LM G (d + 3) YX3_read Z 112 [none, none, none, none] [] z))) rfl rfl ?_ ?_
  · rintro ⟨x7, M8⟩
    show SW G (d + 3) YX3_read Z 34 [some (vR 4 0), none, some (vI x7), none] [] M8 (b_X3_read_1c F x7 M8) _
    unfold b_X3_read_1c
    refine s_step (g_iload_n (iRow iCX3_read_0 20 rfl) rfl rfl) ?_
    refine s_step (g_sipush (iRow iCX3_read_0 21 rfl) ks_1000) ?_
    refine s_if (g_icmp_gt (tgt := 112) (iRow iCX3_read_0 22 rfl) (by decide)) (fun _ => ?_) (fun _ => ?_)
    · refine s_step (g_keep [false, false, false, false] rfl) ?_
      exact s_end (fun h => h)
    · refine s_step (g_aload_n (iRow iCX3_read_0 23 rfl) rfl rfl) ?_
      refine s_step (g_getZ (iRow iCX3_read_1 0 rfl) f3_36 ko_4) ?_
      refine s_nj 74 (fun z => [some (vR 4 0), none, some (vI x7), none]) (fun z => []) (fun z => z) ?_ (fun j74 hj74 => ?_)
      · rintro M11
        show SW G (d + 3) YX3_read Z 74 [some (vR 4 0), none, some (vI x7), none] [] M11 _ _
        try dsimp only
        refine s_step (g_aload_n (iRow iCX3_read_1 15 rfl) rfl rfl) ?_
        refine s_step (g_getZ (iRow iCX3_read_1 16 rfl) f3_36 ko_4) ?_
        refine s_bd (fun z => LM G (d + 3) YX3_read Z 92 [some (vR 4 0), none, some (vI x7), none] [vI (z.1)] z.2) ?_ ?_
        · refine s_if (g_if_eq (tgt := 88) (iRow iCX3_read_1 17 rfl) (by decide)) (fun _ => ?_) (fun _ => ?_)
          · refine s_step (g_aload_n (iRow iCX3_read_1 21 rfl) rfl rfl) ?_
            refine s_cl (sf := fun x => vI x :: []) (fun _ _ h => h_V (As := []) (iRow iCX3_read_1 22 rfl) l3_54 iX3_readJoint ko_4 rfl rfl rfl rfl (t_X3_readJoint (d + 0) h) rfl (by omega) (by decide) (Nat.le_of_ble_eq_true rfl)) (fun x13 M12 => ?_)
            exact s_end (fun h => h)
          · refine s_step (g_aload_n (iRow iCX3_read_1 18 rfl) rfl rfl) ?_
            refine s_cl (sf := fun x => vI x :: []) (fun _ _ h => h_V (As := []) (iRow iCX3_read_1 19 rfl) l3_50 iX3_readPart ko_4 rfl rfl rfl rfl (t_X3_readPart (d + 0) h) rfl (by omega) (by decide) (Nat.le_of_ble_eq_true rfl)) (fun x15 M14 => ?_)
            refine s_step (g_goto (tgt := 92) (iRow iCX3_read_1 20 rfl) (by decide)) ?_
            exact s_end (fun h => h)
        · rintro ⟨x16, M17⟩
          show SW G (d + 3) YX3_read Z 92 [some (vR 4 0), none, some (vI x7), none] [vI x16] M17 _ _
          try dsimp only
          refine s_step (g_istore_n (ls' := [some (vR 4 0), none, some (vI x7), some (vI x16)]) (iRow iCX3_read_1 23 rfl) rfl (by decide) rfl) ?_
          refine s_step (g_iload_n (iRow iCX3_read_2 0 rfl) rfl rfl) ?_
          refine s_if (g_if_eq (tgt := 99) (iRow iCX3_read_2 1 rfl) (by decide)) (fun _ => ?_) (fun _ => ?_)
          · refine s_step (g_aload_n (iRow iCX3_read_2 4 rfl) rfl rfl) ?_
            refine s_step (g_getR (iRow iCX3_read_2 5 rfl) f3_13 ko_4 (r_4_0 _ _)) ?_
            refine s_cv (stA := []) (fun _ h => h_V (As := []) (iRow iCX3_read_2 6 rfl) l3_57 iX6_next ko_7 rfl rfl rfl rfl (t_X6_next (d + 0) h) rfl (by omega) (by decide) (Nat.le_of_ble_eq_true rfl)) (fun M18 => ?_)
            refine s_step (g_iincc (c := 1) (ls' := [some (vR 4 0), none, some (vI (x7 + (1 : Int32))), some (vI x16)]) (iRow iCX3_read_2 7 rfl) rfl kc_1 (by decide) rfl) ?_
            refine s_step (g_goto (tgt := 34) (iRow iCX3_read_2 8 rfl) (by decide)) ?_
            refine s_step (g_keep [true, false, true, false] rfl) ?_
            exact s_end (fun h => h)
          · refine s_step (g_keep [false, false, false, true] rfl) ?_
            exact s_end (fun h => h)
      · refine s_ifn (g_if_ne (tgt := 74) (iRow iCX3_read_1 1 rfl) (by decide)) (fun _ => ?_) (fun _ => ?_)
        · refine s_step (g_aload_n (iRow iCX3_read_1 2 rfl) rfl rfl) ?_
          refine s_step (g_getI (iRow iCX3_read_1 3 rfl) f3_33 ko_4) ?_
          refine s_ifn (g_if_ne (tgt := 74) (iRow iCX3_read_1 4 rfl) (by decide)) (fun _ => ?_) (fun _ => ?_)
          · refine s_step (g_aload_n (iRow iCX3_read_1 5 rfl) rfl rfl) ?_
            refine s_step (g_getR (iRow iCX3_read_1 6 rfl) f3_13 ko_4 (r_4_0 _ _)) ?_
            refine s_step (g_bipush (iRow iCX3_read_1 7 rfl) kb_59) ?_
            refine s_cb (sf := fun b => vI (bI b) :: []) (fun _ _ h => h_V (As := [_]) (iRow iCX3_read_1 8 rfl) l3_42 iX6_isSign ko_7 rfl rfl rfl rfl (t_X6_isSign (d + 2) h) rfl (by omega) (by decide) (Nat.le_of_ble_eq_true rfl)) (fun b10 M9 => ?_)
            refine s_ifeqb (g_if_eq (tgt := 74) (iRow iCX3_read_1 9 rfl) (by decide)) (fun _ => ?_) (fun _ => ?_)
            · refine s_step (g_keep [true, false, false, false] rfl) ?_
              exact s_end (fun h => h)
            · exact hj74 _
          · exact hj74 _
        · exact hj74 _
  · intro z
    rcases z with z | z
    · generalize z = M19
      show SW G (d + 3) YX3_read Z 67 [some (vR 4 0), none, none, none] [] M19 _ _
      try dsimp only [Sum.elim]
      refine s_step (g_aload_n (iRow iCX3_read_1 10 rfl) rfl rfl) ?_
      refine s_step (g_iconst (iRow iCX3_read_1 11 rfl) kc_1) ?_
      refine s_cv (stA := []) (fun _ h => h_V (As := [_]) (iRow iCX3_read_1 12 rfl) l3_46 iX3_settle ko_4 rfl rfl rfl rfl (t_X3_settle (d + 1) h) rfl (by omega) (by decide) (Nat.le_of_ble_eq_true rfl)) (fun M20 => ?_)
      refine s_step (g_iconst (iRow iCX3_read_1 13 rfl) kc_0) ?_
      exact s_reti (iRow iCX3_read_1 14 rfl) rfl
    · rcases z with z | z
      · obtain ⟨x21, M22⟩ := z
        show SW G (d + 3) YX3_read Z 97 [none, none, none, some (vI x21)] [] M22 _ _
        try dsimp only [Sum.elim]
        refine s_step (g_iload_n (iRow iCX3_read_2 2 rfl) rfl rfl) ?_
        exact s_reti (iRow iCX3_read_2 3 rfl) rfl
      · generalize z = M23
        show SW G (d + 3) YX3_read Z 112 [none, none, none, none] [] M23 _ _
        try dsimp only [Sum.elim]
        refine s_step (g_iconst (iRow iCX3_read_2 9 rfl) kc_1) ?_
        exact s_reti (iRow iCX3_read_2 10 rfl) rfl
abbrev YX5_readAge : mY := (RX5, "readAge", cX5_readAge, 2, (some .boolean), none)
set_option maxHeartbeats 400000 in
set_option maxRecDepth 20000 in
theorem t_X5_readAge {G : mg} {F : Nat} {M : mm} {x : Bool} {M' : mm} (d : Nat) (h : m_X5_readAge F M = some (x, M')) : CM G yX5_readAge cX5_readAge 2 (some .boolean) (d + 4) [vR 6 0] M (some (vI (bI x))) M' := by
  refine ct_z (ls := [some (vR 6 0), none]) rfl rfl (Nat.le_of_ble_eq_true rfl) (fun Z => ?_) h
  show SW G (d + 4) YX5_readAge Z 0 [some (vR 6 0), none] [] M _ _
  unfold m_X5_readAge
  refine s_step (g_aload_n (iRow iCX5_readAge_0 0 rfl) rfl rfl) ?_
  refine s_step (g_getR (iRow iCX5_readAge_0 1 rfl) f5_15 ko_6 (r_6_2 _ _)) ?_
  refine s_step (g_getR (iRow iCX5_readAge_0 2 rfl) f5_25 ko_1 (r_1_19 _ _)) ?_
  refine s_step (g_getZ (iRow iCX5_readAge_0 3 rfl) f5_185 ko_3) ?_
  refine s_if (g_if_eq (tgt := 19) (iRow iCX5_readAge_0 4 rfl) (by decide)) (fun _ => ?_) (fun _ => ?_)
  · refine s_step (g_aload_n (iRow iCX5_readAge_0 9 rfl) rfl rfl) ?_
    refine s_step (g_getR (iRow iCX5_readAge_0 10 rfl) f5_9 ko_6 (r_6_0 _ _)) ?_
    refine s_cv (stA := []) (fun _ h => h_V (As := []) (iRow iCX5_readAge_0 11 rfl) l5_94 iX6_next ko_7 rfl rfl rfl rfl (t_X6_next (d + 1) h) rfl (by omega) (by decide) (Nat.le_of_ble_eq_true rfl)) (fun M1 => ?_)
    refine s_step (g_aload_n (iRow iCX5_readAge_0 12 rfl) rfl rfl) ?_
    refine s_step (g_getR (iRow iCX5_readAge_0 13 rfl) f5_34 ko_6 (r_6_1 _ _)) ?_
    refine s_step (g_aload_n (iRow iCX5_readAge_0 14 rfl) rfl rfl) ?_
    refine s_step (g_getR (iRow iCX5_readAge_0 15 rfl) f5_15 ko_6 (r_6_2 _ _)) ?_
    refine s_step (g_getR (iRow iCX5_readAge_0 16 rfl) f5_25 ko_1 (r_1_19 _ _)) ?_
    refine s_cl (sf := fun x => vI x :: []) (fun _ _ h => h_V (As := [_]) (iRow iCX5_readAge_0 17 rfl) l5_191 iX3_read ko_4 rfl rfl rfl rfl (t_X3_read (d + 0) h) rfl (by omega) (by decide) (Nat.le_of_ble_eq_true rfl)) (fun x3 M2 => ?_)
    refine s_step (g_istore_n (ls' := [some (vR 6 0), some (vI x3)]) (iRow iCX5_readAge_0 18 rfl) rfl (by decide) rfl) ?_
    refine s_step (g_iload_n (iRow iCX5_readAge_0 19 rfl) rfl rfl) ?_
    refine s_ifn (g_if_ne (tgt := 52) (iRow iCX5_readAge_0 20 rfl) (by decide)) (fun _ => ?_) (fun _ => ?_)
    · refine s_step (g_aload_n (iRow iCX5_readAge_0 21 rfl) rfl rfl) ?_
      refine s_cb (sf := fun b => vI (bI b) :: []) (fun _ _ h => h_V (As := []) (iRow iCX5_readAge_0 22 rfl) l5_118 iX5_takeEnd ko_6 rfl rfl rfl rfl (t_X5_takeEnd (d + 0) h) rfl (by omega) (by decide) (Nat.le_of_ble_eq_true rfl)) (fun b7 M6 => ?_)
      refine s_step (g_goto (tgt := 57) (iRow iCX5_readAge_0 23 rfl) (by decide)) ?_
      exact s_retz (iRow iCX5_readAge_1 3 rfl) rfl rfl
    · refine s_step (g_aload_n (iRow iCX5_readAge_1 0 rfl) rfl rfl) ?_
      refine s_step (g_iload_n (iRow iCX5_readAge_1 1 rfl) rfl rfl) ?_
      refine s_cb (sf := fun b => vI (bI b) :: []) (fun _ _ h => h_V (As := [_]) (iRow iCX5_readAge_1 2 rfl) l5_87 iX5_wrong ko_6 rfl rfl rfl rfl (t_X5_wrong (d + 3) h) rfl (by omega) (by decide) (Nat.le_of_ble_eq_true rfl)) (fun b5 M4 => ?_)
      exact s_retz (iRow iCX5_readAge_1 3 rfl) rfl rfl
  · refine s_step (g_aload_n (iRow iCX5_readAge_0 5 rfl) rfl rfl) ?_
    refine s_step (g_iconst (iRow iCX5_readAge_0 6 rfl) kc_3) ?_
    refine s_cb (sf := fun b => vI (bI b) :: []) (fun _ _ h => h_V (As := [_]) (iRow iCX5_readAge_0 7 rfl) l5_87 iX5_wrong ko_6 rfl rfl rfl rfl (t_X5_wrong (d + 3) h) rfl (by omega) (by decide) (Nat.le_of_ble_eq_true rfl)) (fun b9 M8 => ?_)
    exact s_retz (iRow iCX5_readAge_0 8 rfl) rfl rfl
abbrev YX5_readMend : mY := (RX5, "readMend", cX5_readMend, 1, (some .boolean), none)
set_option maxHeartbeats 400000 in
set_option maxRecDepth 20000 in
theorem t_X5_readMend {G : mg} {F : Nat} {M : mm} {x : Bool} {M' : mm} (d : Nat) (h : m_X5_readMend F M = some (x, M')) : CM G yX5_readMend cX5_readMend 1 (some .boolean) (d + 4) [vR 6 0] M (some (vI (bI x))) M' := by
  refine ct_z (ls := [some (vR 6 0)]) rfl rfl (Nat.le_of_ble_eq_true rfl) (fun Z => ?_) h
  show SW G (d + 4) YX5_readMend Z 0 [some (vR 6 0)] [] M _ _
  unfold m_X5_readMend
  refine s_step (g_aload_n (iRow iCX5_readMend_0 0 rfl) rfl rfl) ?_
  refine s_step (g_getR (iRow iCX5_readMend_0 1 rfl) f5_15 ko_6 (r_6_2 _ _)) ?_
  refine s_step (g_getR (iRow iCX5_readMend_0 2 rfl) f5_25 ko_1 (r_1_19 _ _)) ?_
  refine s_step (g_getZ (iRow iCX5_readMend_0 3 rfl) f5_195 ko_3) ?_
  refine s_if (g_if_eq (tgt := 19) (iRow iCX5_readMend_0 4 rfl) (by decide)) (fun _ => ?_) (fun _ => ?_)
  · refine s_step (g_aload_n (iRow iCX5_readMend_0 9 rfl) rfl rfl) ?_
    refine s_step (g_getR (iRow iCX5_readMend_0 10 rfl) f5_9 ko_6 (r_6_0 _ _)) ?_
    refine s_cv (stA := []) (fun _ h => h_V (As := []) (iRow iCX5_readMend_0 11 rfl) l5_94 iX6_next ko_7 rfl rfl rfl rfl (t_X6_next (d + 1) h) rfl (by omega) (by decide) (Nat.le_of_ble_eq_true rfl)) (fun M1 => ?_)
    refine s_step (g_aload_n (iRow iCX5_readMend_0 12 rfl) rfl rfl) ?_
    refine s_step (g_iconst (iRow iCX5_readMend_0 13 rfl) kc_0) ?_
    refine s_step (g_bipush (iRow iCX5_readMend_0 14 rfl) kb_10) ?_
    refine s_cb (sf := fun b => vI (bI b) :: []) (fun _ _ h => h_V (As := [_, _]) (iRow iCX5_readMend_0 15 rfl) l5_107 iX5_takeNumber ko_6 rfl rfl rfl rfl (t_X5_takeNumber (d + 0) h) rfl (by omega) (by decide) (Nat.le_of_ble_eq_true rfl)) (fun b3 M2 => ?_)
    refine s_ifneb (g_if_ne (tgt := 38) (iRow iCX5_readMend_0 16 rfl) (by decide)) (fun _ => ?_) (fun _ => ?_)
    · refine s_step (g_aload_n (iRow iCX5_readMend_0 19 rfl) rfl rfl) ?_
      refine s_step (g_getR (iRow iCX5_readMend_0 20 rfl) f5_15 ko_6 (r_6_2 _ _)) ?_
      refine s_step (g_getR (iRow iCX5_readMend_0 21 rfl) f5_25 ko_1 (r_1_19 _ _)) ?_
      refine s_step (g_aload_n (iRow iCX5_readMend_0 22 rfl) rfl rfl) ?_
      refine s_step (g_getI (iRow iCX5_readMend_0 23 rfl) f5_115 ko_6) ?_
      refine s_step (g_putI (iRow iCX5_readMend_1 0 rfl) f5_198 (Or.inl rfl) ko_3) ?_
      refine s_nmM (fun M4 => ?_)
      refine s_step (g_aload_n (iRow iCX5_readMend_1 1 rfl) rfl rfl) ?_
      refine s_step (g_getR (iRow iCX5_readMend_1 2 rfl) f5_15 ko_6 (r_6_2 _ _)) ?_
      refine s_step (g_getR (iRow iCX5_readMend_1 3 rfl) f5_25 ko_1 (r_1_19 _ _)) ?_
      refine s_step (g_iconst (iRow iCX5_readMend_1 4 rfl) kc_1) ?_
      refine s_step (g_putZ (iRow iCX5_readMend_1 5 rfl) f5_195 (Or.inl rfl) ko_3 (by decide)) ?_
      refine s_nmM (fun M5 => ?_)
      refine s_step (g_aload_n (iRow iCX5_readMend_1 6 rfl) rfl rfl) ?_
      refine s_cb (sf := fun b => vI (bI b) :: []) (fun _ _ h => h_V (As := []) (iRow iCX5_readMend_1 7 rfl) l5_118 iX5_takeEnd ko_6 rfl rfl rfl rfl (t_X5_takeEnd (d + 0) h) rfl (by omega) (by decide) (Nat.le_of_ble_eq_true rfl)) (fun b7 M6 => ?_)
      exact s_retz (iRow iCX5_readMend_1 8 rfl) rfl rfl
    · refine s_step (g_iconst (iRow iCX5_readMend_0 17 rfl) kc_0) ?_
      exact s_retz (b := false) (iRow iCX5_readMend_0 18 rfl) rfl rfl
  · refine s_step (g_aload_n (iRow iCX5_readMend_0 5 rfl) rfl rfl) ?_
    refine s_step (g_iconst (iRow iCX5_readMend_0 6 rfl) kc_3) ?_
    refine s_cb (sf := fun b => vI (bI b) :: []) (fun _ _ h => h_V (As := [_]) (iRow iCX5_readMend_0 7 rfl) l5_87 iX5_wrong ko_6 rfl rfl rfl rfl (t_X5_wrong (d + 3) h) rfl (by omega) (by decide) (Nat.le_of_ble_eq_true rfl)) (fun b9 M8 => ?_)
    exact s_retz (iRow iCX5_readMend_0 8 rfl) rfl rfl
abbrev YX5_readCityLine : mY := (RX5, "readCityLine", cX5_readCityLine, 1, (some .boolean), none)
set_option maxHeartbeats 400000 in
set_option maxRecDepth 20000 in
theorem t_X5_readCityLine {G : mg} {F : Nat} {M : mm} {x : Bool} {M' : mm} (d : Nat) (h : m_X5_readCityLine F M = some (x, M')) : CM G yX5_readCityLine cX5_readCityLine 1 (some .boolean) (d + 5) [vR 6 0] M (some (vI (bI x))) M' := by
  refine ct_z (ls := [some (vR 6 0)]) rfl rfl (Nat.le_of_ble_eq_true rfl) (fun Z => ?_) h
  show SW G (d + 5) YX5_readCityLine Z 0 [some (vR 6 0)] [] M _ _
  unfold m_X5_readCityLine
  refine s_step (g_aload_n (iRow iCX5_readCityLine_0 0 rfl) rfl rfl) ?_
  refine s_step (g_getR (iRow iCX5_readCityLine_0 1 rfl) f5_9 ko_6 (r_6_0 _ _)) ?_
  refine s_step (g_getI (iRow iCX5_readCityLine_0 2 rfl) f5_63 ko_7) ?_
  refine s_nmI (fun x1 => ?_)
  refine s_ite (fun hs0 => ?_) (fun hs0 => ?_)
  · refine s_step (g_tableIn (tgt := 76) (off := 69) (iRow iCX5_readCityLine_0 3 rfl) (sw_lo hs0 (by decide)) (sw_hi hs0 (by decide)) (sw_at hs0 (by decide)) (by decide)) ?_
    refine s_step (g_aload_n (iRow iCX5_readCityLine_0 4 rfl) rfl rfl) ?_
    refine s_cb (sf := fun b => vI (bI b) :: []) (fun _ _ h => h_V (As := []) (iRow iCX5_readCityLine_0 5 rfl) l5_66 iX5_readPerson ko_6 rfl rfl rfl rfl (t_X5_readPerson (d + 0) h) rfl (by omega) (by decide) (Nat.le_of_ble_eq_true rfl)) (fun b3 M2 => ?_)
    exact s_retz (iRow iCX5_readCityLine_0 6 rfl) rfl rfl
  · refine s_ite (fun hs1 => ?_) (fun hs1 => ?_)
    · refine s_step (g_tableIn (tgt := 111) (off := 104) (iRow iCX5_readCityLine_0 3 rfl) (sw_lo hs1 (by decide)) (sw_hi hs1 (by decide)) (sw_at hs1 (by decide)) (by decide)) ?_
      refine s_step (g_aload_n (iRow iCX5_readCityLine_1 1 rfl) rfl rfl) ?_
      refine s_step (g_iconst (iRow iCX5_readCityLine_1 2 rfl) kc_1) ?_
      refine s_cb (sf := fun b => vI (bI b) :: []) (fun _ _ h => h_V (As := [_]) (iRow iCX5_readCityLine_1 3 rfl) l5_87 iX5_wrong ko_6 rfl rfl rfl rfl (t_X5_wrong (d + 4) h) rfl (by omega) (by decide) (Nat.le_of_ble_eq_true rfl)) (fun b5 M4 => ?_)
      exact s_retz (iRow iCX5_readCityLine_1 4 rfl) rfl rfl
    · refine s_ite (fun hs2 => ?_) (fun hs2 => ?_)
      · refine s_step (g_tableIn (tgt := 111) (off := 104) (iRow iCX5_readCityLine_0 3 rfl) (sw_lo hs2 (by decide)) (sw_hi hs2 (by decide)) (sw_at hs2 (by decide)) (by decide)) ?_
        refine s_step (g_aload_n (iRow iCX5_readCityLine_1 1 rfl) rfl rfl) ?_
        refine s_step (g_iconst (iRow iCX5_readCityLine_1 2 rfl) kc_1) ?_
        refine s_cb (sf := fun b => vI (bI b) :: []) (fun _ _ h => h_V (As := [_]) (iRow iCX5_readCityLine_1 3 rfl) l5_87 iX5_wrong ko_6 rfl rfl rfl rfl (t_X5_wrong (d + 4) h) rfl (by omega) (by decide) (Nat.le_of_ble_eq_true rfl)) (fun b7 M6 => ?_)
        exact s_retz (iRow iCX5_readCityLine_1 4 rfl) rfl rfl
      · refine s_ite (fun hs3 => ?_) (fun hs3 => ?_)
        · refine s_step (g_tableIn (tgt := 81) (off := 74) (iRow iCX5_readCityLine_0 3 rfl) (sw_lo hs3 (by decide)) (sw_hi hs3 (by decide)) (sw_at hs3 (by decide)) (by decide)) ?_
          refine s_step (g_aload_n (iRow iCX5_readCityLine_0 7 rfl) rfl rfl) ?_
          refine s_cb (sf := fun b => vI (bI b) :: []) (fun _ _ h => h_V (As := []) (iRow iCX5_readCityLine_0 8 rfl) l5_69 iX5_readOath ko_6 rfl rfl rfl rfl (t_X5_readOath (d + 0) h) rfl (by omega) (by decide) (Nat.le_of_ble_eq_true rfl)) (fun b9 M8 => ?_)
          exact s_retz (iRow iCX5_readCityLine_0 9 rfl) rfl rfl
        · refine s_ite (fun hs4 => ?_) (fun hs4 => ?_)
          · refine s_step (g_tableIn (tgt := 111) (off := 104) (iRow iCX5_readCityLine_0 3 rfl) (sw_lo hs4 (by decide)) (sw_hi hs4 (by decide)) (sw_at hs4 (by decide)) (by decide)) ?_
            refine s_step (g_aload_n (iRow iCX5_readCityLine_1 1 rfl) rfl rfl) ?_
            refine s_step (g_iconst (iRow iCX5_readCityLine_1 2 rfl) kc_1) ?_
            refine s_cb (sf := fun b => vI (bI b) :: []) (fun _ _ h => h_V (As := [_]) (iRow iCX5_readCityLine_1 3 rfl) l5_87 iX5_wrong ko_6 rfl rfl rfl rfl (t_X5_wrong (d + 4) h) rfl (by omega) (by decide) (Nat.le_of_ble_eq_true rfl)) (fun b11 M10 => ?_)
            exact s_retz (iRow iCX5_readCityLine_1 4 rfl) rfl rfl
          · refine s_ite (fun hs5 => ?_) (fun hs5 => ?_)
            · refine s_step (g_tableIn (tgt := 111) (off := 104) (iRow iCX5_readCityLine_0 3 rfl) (sw_lo hs5 (by decide)) (sw_hi hs5 (by decide)) (sw_at hs5 (by decide)) (by decide)) ?_
              refine s_step (g_aload_n (iRow iCX5_readCityLine_1 1 rfl) rfl rfl) ?_
              refine s_step (g_iconst (iRow iCX5_readCityLine_1 2 rfl) kc_1) ?_
              refine s_cb (sf := fun b => vI (bI b) :: []) (fun _ _ h => h_V (As := [_]) (iRow iCX5_readCityLine_1 3 rfl) l5_87 iX5_wrong ko_6 rfl rfl rfl rfl (t_X5_wrong (d + 4) h) rfl (by omega) (by decide) (Nat.le_of_ble_eq_true rfl)) (fun b13 M12 => ?_)
              exact s_retz (iRow iCX5_readCityLine_1 4 rfl) rfl rfl
            · refine s_ite (fun hs6 => ?_) (fun hs6 => ?_)
              · refine s_step (g_tableIn (tgt := 86) (off := 79) (iRow iCX5_readCityLine_0 3 rfl) (sw_lo hs6 (by decide)) (sw_hi hs6 (by decide)) (sw_at hs6 (by decide)) (by decide)) ?_
                refine s_step (g_aload_n (iRow iCX5_readCityLine_0 10 rfl) rfl rfl) ?_
                refine s_cb (sf := fun b => vI (bI b) :: []) (fun _ _ h => h_V (As := []) (iRow iCX5_readCityLine_0 11 rfl) l5_72 iX5_readLean ko_6 rfl rfl rfl rfl (t_X5_readLean (d + 0) h) rfl (by omega) (by decide) (Nat.le_of_ble_eq_true rfl)) (fun b15 M14 => ?_)
                exact s_retz (iRow iCX5_readCityLine_0 12 rfl) rfl rfl
              · refine s_ite (fun hs7 => ?_) (fun hs7 => ?_)
                · refine s_step (g_tableIn (tgt := 91) (off := 84) (iRow iCX5_readCityLine_0 3 rfl) (sw_lo hs7 (by decide)) (sw_hi hs7 (by decide)) (sw_at hs7 (by decide)) (by decide)) ?_
                  refine s_step (g_aload_n (iRow iCX5_readCityLine_0 13 rfl) rfl rfl) ?_
                  refine s_cb (sf := fun b => vI (bI b) :: []) (fun _ _ h => h_V (As := []) (iRow iCX5_readCityLine_0 14 rfl) l5_75 iX5_readClash ko_6 rfl rfl rfl rfl (t_X5_readClash (d + 0) h) rfl (by omega) (by decide) (Nat.le_of_ble_eq_true rfl)) (fun b17 M16 => ?_)
                  exact s_retz (iRow iCX5_readCityLine_0 15 rfl) rfl rfl
                · refine s_ite (fun hs8 => ?_) (fun hs8 => ?_)
                  · refine s_step (g_tableIn (tgt := 96) (off := 89) (iRow iCX5_readCityLine_0 3 rfl) (sw_lo hs8 (by decide)) (sw_hi hs8 (by decide)) (sw_at hs8 (by decide)) (by decide)) ?_
                    refine s_step (g_aload_n (iRow iCX5_readCityLine_0 16 rfl) rfl rfl) ?_
                    refine s_cb (sf := fun b => vI (bI b) :: []) (fun _ _ h => h_V (As := []) (iRow iCX5_readCityLine_0 17 rfl) l5_78 iX5_readStone ko_6 rfl rfl rfl rfl (t_X5_readStone (d + 0) h) rfl (by omega) (by decide) (Nat.le_of_ble_eq_true rfl)) (fun b19 M18 => ?_)
                    exact s_retz (iRow iCX5_readCityLine_0 18 rfl) rfl rfl
                  · refine s_ite (fun hs9 => ?_) (fun hs9 => ?_)
                    · refine s_step (g_tableIn (tgt := 111) (off := 104) (iRow iCX5_readCityLine_0 3 rfl) (sw_lo hs9 (by decide)) (sw_hi hs9 (by decide)) (sw_at hs9 (by decide)) (by decide)) ?_
                      refine s_step (g_aload_n (iRow iCX5_readCityLine_1 1 rfl) rfl rfl) ?_
                      refine s_step (g_iconst (iRow iCX5_readCityLine_1 2 rfl) kc_1) ?_
                      refine s_cb (sf := fun b => vI (bI b) :: []) (fun _ _ h => h_V (As := [_]) (iRow iCX5_readCityLine_1 3 rfl) l5_87 iX5_wrong ko_6 rfl rfl rfl rfl (t_X5_wrong (d + 4) h) rfl (by omega) (by decide) (Nat.le_of_ble_eq_true rfl)) (fun b21 M20 => ?_)
                      exact s_retz (iRow iCX5_readCityLine_1 4 rfl) rfl rfl
                    · refine s_ite (fun hs10 => ?_) (fun hs10 => ?_)
                      · refine s_step (g_tableIn (tgt := 111) (off := 104) (iRow iCX5_readCityLine_0 3 rfl) (sw_lo hs10 (by decide)) (sw_hi hs10 (by decide)) (sw_at hs10 (by decide)) (by decide)) ?_
                        refine s_step (g_aload_n (iRow iCX5_readCityLine_1 1 rfl) rfl rfl) ?_
                        refine s_step (g_iconst (iRow iCX5_readCityLine_1 2 rfl) kc_1) ?_
                        refine s_cb (sf := fun b => vI (bI b) :: []) (fun _ _ h => h_V (As := [_]) (iRow iCX5_readCityLine_1 3 rfl) l5_87 iX5_wrong ko_6 rfl rfl rfl rfl (t_X5_wrong (d + 4) h) rfl (by omega) (by decide) (Nat.le_of_ble_eq_true rfl)) (fun b23 M22 => ?_)
                        exact s_retz (iRow iCX5_readCityLine_1 4 rfl) rfl rfl
                      · refine s_ite (fun hs11 => ?_) (fun hs11 => ?_)
                        · refine s_step (g_tableIn (tgt := 111) (off := 104) (iRow iCX5_readCityLine_0 3 rfl) (sw_lo hs11 (by decide)) (sw_hi hs11 (by decide)) (sw_at hs11 (by decide)) (by decide)) ?_
                          refine s_step (g_aload_n (iRow iCX5_readCityLine_1 1 rfl) rfl rfl) ?_
                          refine s_step (g_iconst (iRow iCX5_readCityLine_1 2 rfl) kc_1) ?_
                          refine s_cb (sf := fun b => vI (bI b) :: []) (fun _ _ h => h_V (As := [_]) (iRow iCX5_readCityLine_1 3 rfl) l5_87 iX5_wrong ko_6 rfl rfl rfl rfl (t_X5_wrong (d + 4) h) rfl (by omega) (by decide) (Nat.le_of_ble_eq_true rfl)) (fun b25 M24 => ?_)
                          exact s_retz (iRow iCX5_readCityLine_1 4 rfl) rfl rfl
                        · refine s_ite (fun hs12 => ?_) (fun hs12 => ?_)
                          · refine s_step (g_tableIn (tgt := 101) (off := 94) (iRow iCX5_readCityLine_0 3 rfl) (sw_lo hs12 (by decide)) (sw_hi hs12 (by decide)) (sw_at hs12 (by decide)) (by decide)) ?_
                            refine s_step (g_aload_n (iRow iCX5_readCityLine_0 19 rfl) rfl rfl) ?_
                            refine s_cb (sf := fun b => vI (bI b) :: []) (fun _ _ h => h_V (As := []) (iRow iCX5_readCityLine_0 20 rfl) l5_81 iX5_readAge ko_6 rfl rfl rfl rfl (t_X5_readAge (d + 0) h) rfl (by omega) (by decide) (Nat.le_of_ble_eq_true rfl)) (fun b27 M26 => ?_)
                            exact s_retz (iRow iCX5_readCityLine_0 21 rfl) rfl rfl
                          · refine s_ite (fun hs13 => ?_) (fun hs13 => ?_)
                            · refine s_step (g_tableIn (tgt := 106) (off := 99) (iRow iCX5_readCityLine_0 3 rfl) (sw_lo hs13 (by decide)) (sw_hi hs13 (by decide)) (sw_at hs13 (by decide)) (by decide)) ?_
                              refine s_step (g_aload_n (iRow iCX5_readCityLine_0 22 rfl) rfl rfl) ?_
                              refine s_cb (sf := fun b => vI (bI b) :: []) (fun _ _ h => h_V (As := []) (iRow iCX5_readCityLine_0 23 rfl) l5_84 iX5_readMend ko_6 rfl rfl rfl rfl (t_X5_readMend (d + 0) h) rfl (by omega) (by decide) (Nat.le_of_ble_eq_true rfl)) (fun b29 M28 => ?_)
                              exact s_retz (iRow iCX5_readCityLine_1 0 rfl) rfl rfl
                            · refine s_step (g_tableOut (tgt := 111) (iRow iCX5_readCityLine_0 3 rfl) (sw_out [0, 1, 2, 3, 4, 5, 6, 7, 8, 9, 10, 11, 12, 13] (by decide +kernel) ⟨hs0, hs1, hs2, hs3, hs4, hs5, hs6, hs7, hs8, hs9, hs10, hs11, hs12, hs13, trivial⟩) (by decide)) ?_
                              refine s_step (g_aload_n (iRow iCX5_readCityLine_1 1 rfl) rfl rfl) ?_
                              refine s_step (g_iconst (iRow iCX5_readCityLine_1 2 rfl) kc_1) ?_
                              refine s_cb (sf := fun b => vI (bI b) :: []) (fun _ _ h => h_V (As := [_]) (iRow iCX5_readCityLine_1 3 rfl) l5_87 iX5_wrong ko_6 rfl rfl rfl rfl (t_X5_wrong (d + 4) h) rfl (by omega) (by decide) (Nat.le_of_ble_eq_true rfl)) (fun b31 M30 => ?_)
                              exact s_retz (iRow iCX5_readCityLine_1 4 rfl) rfl rfl
abbrev YX5_readCity : mY := (RX5, "readCity", cX5_readCity, 3, (some .int), none)
set_option maxHeartbeats 400000 in
set_option maxRecDepth 20000 in
theorem t_X5_readCity {G : mg} {F : Nat} {a1 : Nat} {M : mm} {x : Int32} {M' : mm} (d : Nat) (h : m_X5_readCity F a1 M = some (x, M')) : CM G yX5_readCity cX5_readCity 3 (some .int) (d + 6) [vR 6 0, vR 1 a1] M (some (vI x)) M' := by
  refine ct_i (ls := [some (vR 6 0), some (vR 1 a1), none]) rfl rfl (Nat.le_of_ble_eq_true rfl) (fun Z => ?_) h
  show SW G (d + 6) YX5_readCity Z 0 [some (vR 6 0), some (vR 1 a1), none] [] M _ _
  unfold m_X5_readCity
  refine s_step (g_aload_n (iRow iCX5_readCity_0 0 rfl) rfl rfl) ?_
  refine s_step (g_aload_n (iRow iCX5_readCity_0 1 rfl) rfl rfl) ?_
  refine s_step (g_putR (r := a1) (iRow iCX5_readCity_0 2 rfl) f5_15 (Or.inl rfl) ko_6 (r_6_2 _ _)) ?_
  refine s_nmM (fun M1 => ?_)
  refine s_step (g_aload_n (iRow iCX5_readCity_0 3 rfl) rfl rfl) ?_
  refine s_step (g_getR (iRow iCX5_readCity_0 4 rfl) f5_15 ko_6 (r_6_2 _ _)) ?_
  refine s_cv (stA := []) (fun _ h => h_V (As := []) (iRow iCX5_readCity_0 5 rfl) l5_38 iX0_clear ko_1 rfl rfl rfl rfl (t_X0_clear (d + 4) h) rfl (by omega) (by decide) (Nat.le_of_ble_eq_true rfl)) (fun M2 => ?_)
  refine s_step (g_aload_n (iRow iCX5_readCity_0 6 rfl) rfl rfl) ?_
  refine s_step (g_iconst (iRow iCX5_readCity_0 7 rfl) kc_0) ?_
  refine s_step (g_putI (iRow iCX5_readCity_0 8 rfl) f5_41 (Or.inl rfl) ko_6) ?_
  refine s_nmM (fun M3 => ?_)
  refine s_step (g_aload_n (iRow iCX5_readCity_0 9 rfl) rfl rfl) ?_
  refine s_step (g_getR (iRow iCX5_readCity_0 10 rfl) f5_9 ko_6 (r_6_0 _ _)) ?_
  refine s_cv (stA := []) (fun _ h => h_V (As := []) (iRow iCX5_readCity_0 11 rfl) l5_45 iX6_start ko_7 rfl rfl rfl rfl (t_X6_start (d + 2) h) rfl (by omega) (by decide) (Nat.le_of_ble_eq_true rfl)) (fun M4 => ?_)
  refine s_step (g_iconst (iRow iCX5_readCity_0 12 rfl) kc_0) ?_
  refine s_step (g_istore_n (ls' := [some (vR 6 0), some (vR 1 a1), some (vI (0 : Int32))]) (iRow iCX5_readCity_0 13 rfl) rfl (by decide) rfl) ?_
  refine s_step (g_keep [true, false, true] rfl) ?_
  refine s_lp (fun z => [some (vR 6 0), none, some (vI (z.1))]) (fun z => z.2) (Sum.elim (fun z => LM G (d + 6) YX5_readCity Z 50 [some (vR 6 0), none, none] [] z) (fun z => LM G (d + 6) YX5_readCity Z 61 [none, none, none] [] z)) rfl rfl ?_ ?_
  · rintro ⟨x5, M6⟩
    show SW G (d + 6) YX5_readCity Z 26 [some (vR 6 0), none, some (vI x5)] [] M6 (b_X5_readCity_1c F x5 M6) _
    unfold b_X5_readCity_1c
    refine s_step (g_iload_n (iRow iCX5_readCity_0 14 rfl) rfl rfl) ?_
    refine s_step (g_sipush (iRow iCX5_readCity_0 15 rfl) ks_1000) ?_
    refine s_if (g_icmp_gt (tgt := 61) (iRow iCX5_readCity_0 16 rfl) (by decide)) (fun _ => ?_) (fun _ => ?_)
    · refine s_step (g_keep [false, false, false] rfl) ?_
      exact s_end (fun h => h)
    · refine s_step (g_aload_n (iRow iCX5_readCity_0 17 rfl) rfl rfl) ?_
      refine s_step (g_getR (iRow iCX5_readCity_0 18 rfl) f5_9 ko_6 (r_6_0 _ _)) ?_
      refine s_step (g_getI (iRow iCX5_readCity_0 19 rfl) f5_50 ko_7) ?_
      refine s_if (g_if_eq (tgt := 61) (iRow iCX5_readCity_0 20 rfl) (by decide)) (fun _ => ?_) (fun _ => ?_)
      · refine s_step (g_keep [false, false, false] rfl) ?_
        exact s_end (fun h => h)
      · refine s_step (g_aload_n (iRow iCX5_readCity_0 21 rfl) rfl rfl) ?_
        refine s_cb (sf := fun b => vI (bI b) :: []) (fun _ _ h => h_V (As := []) (iRow iCX5_readCity_0 22 rfl) l5_53 iX5_readCityLine ko_6 rfl rfl rfl rfl (t_X5_readCityLine (d + 0) h) rfl (by omega) (by decide) (Nat.le_of_ble_eq_true rfl)) (fun b8 M7 => ?_)
        refine s_ifneb (g_if_ne (tgt := 55) (iRow iCX5_readCity_0 23 rfl) (by decide)) (fun _ => ?_) (fun _ => ?_)
        · refine s_step (g_iincc (c := 1) (ls' := [some (vR 6 0), none, some (vI (x5 + (1 : Int32)))]) (iRow iCX5_readCity_1 3 rfl) rfl kc_1 (by decide) rfl) ?_
          refine s_step (g_goto (tgt := 26) (iRow iCX5_readCity_1 4 rfl) (by decide)) ?_
          exact s_end (fun h => h)
        · refine s_step (g_keep [true, false, false] rfl) ?_
          exact s_end (fun h => h)
  · intro z
    rcases z with z | z
    · generalize z = M9
      show SW G (d + 6) YX5_readCity Z 50 [some (vR 6 0), none, none] [] M9 _ _
      try dsimp only [Sum.elim]
      refine s_step (g_aload_n (iRow iCX5_readCity_1 0 rfl) rfl rfl) ?_
      refine s_step (g_getI (iRow iCX5_readCity_1 1 rfl) f5_41 ko_6) ?_
      exact s_reti (iRow iCX5_readCity_1 2 rfl) rfl
    · generalize z = M10
      show SW G (d + 6) YX5_readCity Z 61 [none, none, none] [] M10 _ _
      try dsimp only [Sum.elim]
      refine s_step (g_iconst (iRow iCX5_readCity_1 5 rfl) kc_0) ?_
      exact s_reti (iRow iCX5_readCity_1 6 rfl) rfl
abbrev YX6_clear : mY := (RX6, "clear", cX6_clear, 1, none, none)
set_option maxHeartbeats 400000 in
set_option maxRecDepth 20000 in
theorem t_X6_clear {G : mg} {F : Nat} {M : mm} {M' : mm} (d : Nat) (h : m_X6_clear F M = some M') : CM G yX6_clear cX6_clear 1 none (d + 0) [vR 7 0] M none M' := by
  refine ct_v (ls := [some (vR 7 0)]) rfl rfl (Nat.le_of_ble_eq_true rfl) (fun Z => ?_) h
  show SW G (d + 0) YX6_clear Z 0 [some (vR 7 0)] [] M _ _
  unfold m_X6_clear
  refine s_step (g_aload_n (iRow iCX6_clear_0 0 rfl) rfl rfl) ?_
  refine s_step (g_iconst (iRow iCX6_clear_0 1 rfl) kc_0) ?_
  refine s_step (g_putI (iRow iCX6_clear_0 2 rfl) f6_29 (Or.inl rfl) ko_7) ?_
  refine s_nmM (fun M1 => ?_)
  refine s_step (g_aload_n (iRow iCX6_clear_0 3 rfl) rfl rfl) ?_
  refine s_step (g_iconst (iRow iCX6_clear_0 4 rfl) kc_0) ?_
  refine s_step (g_putI (iRow iCX6_clear_0 5 rfl) f6_33 (Or.inl rfl) ko_7) ?_
  refine s_nmM (fun M2 => ?_)
  exact s_retv (iRow iCX6_clear_0 6 rfl) rfl
abbrev YX8_clear : mY := (RX8, "clear", cX8_clear, 1, none, none)
set_option maxHeartbeats 400000 in
set_option maxRecDepth 20000 in
theorem t_X8_clear {G : mg} {F : Nat} {o : Nat} {M : mm} {M' : mm} (d : Nat) (h : m_X8_clear F o M = some M') : CM G yX8_clear cX8_clear 1 none (d + 0) [vR 9 o] M none M' := by
  refine ct_v (ls := [some (vR 9 o)]) rfl rfl (Nat.le_of_ble_eq_true rfl) (fun Z => ?_) h
  show SW G (d + 0) YX8_clear Z 0 [some (vR 9 o)] [] M _ _
  unfold m_X8_clear
  refine s_step (g_aload_n (iRow iCX8_clear_0 0 rfl) rfl rfl) ?_
  refine s_step (g_iconst (iRow iCX8_clear_0 1 rfl) kc_0) ?_
  refine s_step (g_putI (iRow iCX8_clear_0 2 rfl) f8_18 (Or.inl rfl) ko_9) ?_
  refine s_nmM (fun M1 => ?_)
  refine s_step (g_aload_n (iRow iCX8_clear_0 3 rfl) rfl rfl) ?_
  refine s_step (g_iconst (iRow iCX8_clear_0 4 rfl) kc_0) ?_
  refine s_step (g_putI (iRow iCX8_clear_0 5 rfl) f8_22 (Or.inl rfl) ko_9) ?_
  refine s_nmM (fun M2 => ?_)
  refine s_step (g_aload_n (iRow iCX8_clear_0 6 rfl) rfl rfl) ?_
  refine s_step (g_iconst (iRow iCX8_clear_0 7 rfl) kc_0) ?_
  refine s_step (g_putI (iRow iCX8_clear_0 8 rfl) f8_25 (Or.inl rfl) ko_9) ?_
  refine s_nmM (fun M3 => ?_)
  refine s_step (g_aload_n (iRow iCX8_clear_0 9 rfl) rfl rfl) ?_
  refine s_step (g_iconst (iRow iCX8_clear_0 10 rfl) kc_0) ?_
  refine s_step (g_putI (iRow iCX8_clear_0 11 rfl) f8_28 (Or.inl rfl) ko_9) ?_
  refine s_nmM (fun M4 => ?_)
  exact s_retv (iRow iCX8_clear_0 12 rfl) rfl
abbrev YX10_forget : mY := (RX10, "forget", cX10_forget, 1, none, none)
set_option maxHeartbeats 400000 in
set_option maxRecDepth 20000 in
theorem t_X10_forget {G : mg} {F : Nat} {M : mm} {M' : mm} (d : Nat) (h : m_X10_forget F M = some M') : CM G yX10_forget cX10_forget 1 none (d + 0) [vR 11 0] M none M' := by
  refine ct_v (ls := [some (vR 11 0)]) rfl rfl (Nat.le_of_ble_eq_true rfl) (fun Z => ?_) h
  show SW G (d + 0) YX10_forget Z 0 [some (vR 11 0)] [] M _ _
  unfold m_X10_forget
  refine s_step (g_aload_n (iRow iCX10_forget_0 0 rfl) rfl rfl) ?_
  refine s_step (g_iconst (iRow iCX10_forget_0 1 rfl) kc_0) ?_
  refine s_step (g_putZ (iRow iCX10_forget_0 2 rfl) f10_45 (Or.inl rfl) ko_11 (by decide)) ?_
  refine s_nmM (fun M1 => ?_)
  exact s_retv (iRow iCX10_forget_0 3 rfl) rfl
abbrev YX2_plainWorth : mY := (RX2, "plainWorth", cX2_plainWorth, 4, (some .int), none)
set_option maxHeartbeats 400000 in
set_option maxRecDepth 20000 in
theorem t_X2_plainWorth {G : mg} {F : Nat} {a1 : Int32} {a2 : Int32} {a3 : Int32} {a4 : Int32} {M : mm} {x : Int32} {M' : mm} (d : Nat) (h : m_X2_plainWorth F a1 a2 a3 a4 M = some (x, M')) : CM G yX2_plainWorth cX2_plainWorth 4 (some .int) (d + 0) [vI a1, vI a2, vI a3, vI a4] M (some (vI x)) M' := by
  refine ct_i (ls := [some (vI a1), some (vI a2), some (vI a3), some (vI a4)]) rfl rfl (Nat.le_of_ble_eq_true rfl) (fun Z => ?_) h
  show SW G (d + 0) YX2_plainWorth Z 0 [some (vI a1), some (vI a2), some (vI a3), some (vI a4)] [] M _ _
  unfold m_X2_plainWorth
  refine s_step (g_iload_n (iRow iCX2_plainWorth_0 0 rfl) rfl rfl) ?_
  refine s_step (g_iconst (iRow iCX2_plainWorth_0 1 rfl) kc_1) ?_
  refine s_ifn (g_icmp_ne (tgt := 9) (iRow iCX2_plainWorth_0 2 rfl) (by decide)) (fun _ => ?_) (fun _ => ?_)
  · refine s_step (g_iload_n (iRow iCX2_plainWorth_0 3 rfl) rfl rfl) ?_
    refine s_step (g_iload_n (iRow iCX2_plainWorth_0 4 rfl) rfl rfl) ?_
    refine s_step (g_iadd (iRow iCX2_plainWorth_0 5 rfl)) ?_
    exact s_reti (iRow iCX2_plainWorth_0 6 rfl) rfl
  · refine s_step (g_iload_n (iRow iCX2_plainWorth_0 7 rfl) rfl rfl) ?_
    refine s_step (g_iconst (iRow iCX2_plainWorth_0 8 rfl) kc_3) ?_
    refine s_nj 24 (fun z => [some (vI a1), none, none, none]) (fun z => []) (fun z => M) ?_ (fun j24 hj24 => ?_)
    · intro _
      show SW G (d + 0) YX2_plainWorth Z 24 [some (vI a1), none, none, none] [] M _ _
      try dsimp only
      refine s_step (g_iload_n (iRow iCX2_plainWorth_0 16 rfl) rfl rfl) ?_
      exact s_reti (iRow iCX2_plainWorth_0 17 rfl) rfl
    · refine s_ifn (g_icmp_ne (tgt := 24) (iRow iCX2_plainWorth_0 9 rfl) (by decide)) (fun _ => ?_) (fun _ => ?_)
      · refine s_step (g_iload_n (iRow iCX2_plainWorth_0 10 rfl) rfl rfl) ?_
        refine s_if (g_if_eq (tgt := 24) (iRow iCX2_plainWorth_0 11 rfl) (by decide)) (fun _ => ?_) (fun _ => ?_)
        · refine s_step (g_keep [true, false, false, false] rfl) ?_
          exact hj24 _
        · refine s_step (g_iconst (iRow iCX2_plainWorth_0 12 rfl) kc_2) ?_
          refine s_step (g_iload_n (iRow iCX2_plainWorth_0 13 rfl) rfl rfl) ?_
          refine s_step (g_imul (iRow iCX2_plainWorth_0 14 rfl)) ?_
          refine s_step (g_goto (tgt := 25) (iRow iCX2_plainWorth_0 15 rfl) (by decide)) ?_
          exact s_reti (iRow iCX2_plainWorth_0 17 rfl) rfl
      · refine s_step (g_keep [true, false, false, false] rfl) ?_
        exact hj24 _
abbrev YX2_joined : mY := (RX2, "joined", cX2_joined, 3, (some .int), none)
set_option maxHeartbeats 400000 in
set_option maxRecDepth 20000 in
theorem t_X2_joined {G : mg} {F : Nat} {a1 : Int32} {a2 : Int32} {a3 : Int32} {M : mm} {x : Int32} {M' : mm} (d : Nat) (h : m_X2_joined F a1 a2 a3 M = some (x, M')) : CM G yX2_joined cX2_joined 3 (some .int) (d + 0) [vI a1, vI a2, vI a3] M (some (vI x)) M' := by
  refine ct_i (ls := [some (vI a1), some (vI a2), some (vI a3)]) rfl rfl (Nat.le_of_ble_eq_true rfl) (fun Z => ?_) h
  show SW G (d + 0) YX2_joined Z 0 [some (vI a1), some (vI a2), some (vI a3)] [] M _ _
  unfold m_X2_joined
  refine s_step (g_iload_n (iRow iCX2_joined_0 0 rfl) rfl rfl) ?_
  refine s_ite (fun hsm11 => ?_) (fun hsm11 => ?_)
  · refine s_step (g_tableIn (tgt := 94) (off := 93) (iRow iCX2_joined_0 1 rfl) (sw_lo hsm11 (by decide)) (sw_hi hsm11 (by decide)) (sw_at hsm11 (by decide)) (by decide)) ?_
    refine s_step (g_iload_n (iRow iCX2_joined_1 12 rfl) rfl rfl) ?_
    refine s_step (g_iload_n (iRow iCX2_joined_1 13 rfl) rfl rfl) ?_
    refine s_step (g_isub (iRow iCX2_joined_1 14 rfl)) ?_
    exact s_reti (iRow iCX2_joined_1 15 rfl) rfl
  · refine s_ite (fun hsm10 => ?_) (fun hsm10 => ?_)
    · refine s_step (g_tableIn (tgt := 90) (off := 89) (iRow iCX2_joined_0 1 rfl) (sw_lo hsm10 (by decide)) (sw_hi hsm10 (by decide)) (sw_at hsm10 (by decide)) (by decide)) ?_
      refine s_step (g_iload_n (iRow iCX2_joined_1 8 rfl) rfl rfl) ?_
      refine s_step (g_iload_n (iRow iCX2_joined_1 9 rfl) rfl rfl) ?_
      refine s_step (g_iadd (iRow iCX2_joined_1 10 rfl)) ?_
      exact s_reti (iRow iCX2_joined_1 11 rfl) rfl
    · refine s_ite (fun hsm9 => ?_) (fun hsm9 => ?_)
      · refine s_step (g_tableIn (tgt := 79) (off := 78) (iRow iCX2_joined_0 1 rfl) (sw_lo hsm9 (by decide)) (sw_hi hsm9 (by decide)) (sw_at hsm9 (by decide)) (by decide)) ?_
        refine s_step (g_iload_n (iRow iCX2_joined_1 1 rfl) rfl rfl) ?_
        refine s_step (g_iload_n (iRow iCX2_joined_1 2 rfl) rfl rfl) ?_
        refine s_ifn (g_icmp_ne (tgt := 88) (iRow iCX2_joined_1 3 rfl) (by decide)) (fun _ => ?_) (fun _ => ?_)
        · refine s_step (g_iconst (iRow iCX2_joined_1 4 rfl) kc_1) ?_
          refine s_step (g_goto (tgt := 89) (iRow iCX2_joined_1 5 rfl) (by decide)) ?_
          exact s_reti (iRow iCX2_joined_1 7 rfl) rfl
        · refine s_step (g_iconst (iRow iCX2_joined_1 6 rfl) kc_0) ?_
          exact s_reti (iRow iCX2_joined_1 7 rfl) rfl
      · refine s_ite (fun hsm8 => ?_) (fun hsm8 => ?_)
        · refine s_step (g_tableIn (tgt := 68) (off := 67) (iRow iCX2_joined_0 1 rfl) (sw_lo hsm8 (by decide)) (sw_hi hsm8 (by decide)) (sw_at hsm8 (by decide)) (by decide)) ?_
          refine s_step (g_iload_n (iRow iCX2_joined_0 18 rfl) rfl rfl) ?_
          refine s_step (g_iload_n (iRow iCX2_joined_0 19 rfl) rfl rfl) ?_
          refine s_if (g_icmp_ge (tgt := 77) (iRow iCX2_joined_0 20 rfl) (by decide)) (fun _ => ?_) (fun _ => ?_)
          · refine s_step (g_iconst (iRow iCX2_joined_0 23 rfl) kc_0) ?_
            exact s_reti (iRow iCX2_joined_1 0 rfl) rfl
          · refine s_step (g_iconst (iRow iCX2_joined_0 21 rfl) kc_1) ?_
            refine s_step (g_goto (tgt := 78) (iRow iCX2_joined_0 22 rfl) (by decide)) ?_
            exact s_reti (iRow iCX2_joined_1 0 rfl) rfl
        · refine s_ite (fun hsm7 => ?_) (fun hsm7 => ?_)
          · refine s_step (g_tableIn (tgt := 54) (off := 53) (iRow iCX2_joined_0 1 rfl) (sw_lo hsm7 (by decide)) (sw_hi hsm7 (by decide)) (sw_at hsm7 (by decide)) (by decide)) ?_
            refine s_step (g_iload_n (iRow iCX2_joined_0 10 rfl) rfl rfl) ?_
            refine s_ifn (g_if_ne (tgt := 62) (iRow iCX2_joined_0 11 rfl) (by decide)) (fun _ => ?_) (fun _ => ?_)
            · refine s_step (g_iload_n (iRow iCX2_joined_0 12 rfl) rfl rfl) ?_
              refine s_if (g_if_eq (tgt := 66) (iRow iCX2_joined_0 13 rfl) (by decide)) (fun _ => ?_) (fun _ => ?_)
              · refine s_step (g_iconst (iRow iCX2_joined_0 16 rfl) kc_0) ?_
                exact s_reti (iRow iCX2_joined_0 17 rfl) rfl
              · refine s_step (g_iconst (iRow iCX2_joined_0 14 rfl) kc_1) ?_
                refine s_step (g_goto (tgt := 67) (iRow iCX2_joined_0 15 rfl) (by decide)) ?_
                exact s_reti (iRow iCX2_joined_0 17 rfl) rfl
            · refine s_step (g_iconst (iRow iCX2_joined_0 14 rfl) kc_1) ?_
              refine s_step (g_goto (tgt := 67) (iRow iCX2_joined_0 15 rfl) (by decide)) ?_
              exact s_reti (iRow iCX2_joined_0 17 rfl) rfl
          · refine s_ite (fun hsm6 => ?_) (fun hsm6 => ?_)
            · refine s_step (g_tableIn (tgt := 40) (off := 39) (iRow iCX2_joined_0 1 rfl) (sw_lo hsm6 (by decide)) (sw_hi hsm6 (by decide)) (sw_at hsm6 (by decide)) (by decide)) ?_
              refine s_step (g_iload_n (iRow iCX2_joined_0 2 rfl) rfl rfl) ?_
              refine s_if (g_if_eq (tgt := 52) (iRow iCX2_joined_0 3 rfl) (by decide)) (fun _ => ?_) (fun _ => ?_)
              · refine s_step (g_iconst (iRow iCX2_joined_0 8 rfl) kc_0) ?_
                exact s_reti (iRow iCX2_joined_0 9 rfl) rfl
              · refine s_step (g_iload_n (iRow iCX2_joined_0 4 rfl) rfl rfl) ?_
                refine s_if (g_if_eq (tgt := 52) (iRow iCX2_joined_0 5 rfl) (by decide)) (fun _ => ?_) (fun _ => ?_)
                · refine s_step (g_iconst (iRow iCX2_joined_0 8 rfl) kc_0) ?_
                  exact s_reti (iRow iCX2_joined_0 9 rfl) rfl
                · refine s_step (g_iconst (iRow iCX2_joined_0 6 rfl) kc_1) ?_
                  refine s_step (g_goto (tgt := 53) (iRow iCX2_joined_0 7 rfl) (by decide)) ?_
                  exact s_reti (iRow iCX2_joined_0 9 rfl) rfl
            · refine s_step (g_tableOut (tgt := 98) (iRow iCX2_joined_0 1 rfl) (sw_out [(-11), (-10), (-9), (-8), (-7), (-6)] (by decide +kernel) ⟨hsm11, hsm10, hsm9, hsm8, hsm7, hsm6, trivial⟩) (by decide)) ?_
              refine s_step (g_iload_n (iRow iCX2_joined_1 16 rfl) rfl rfl) ?_
              refine s_step (g_iload_n (iRow iCX2_joined_1 17 rfl) rfl rfl) ?_
              refine s_step (g_imul (iRow iCX2_joined_1 18 rfl)) ?_
              exact s_reti (iRow iCX2_joined_1 19 rfl) rfl
abbrev YX2_note : mY := (RX2, "note", cX2_note, 11, none, none)
set_option maxHeartbeats 400000 in
set_option maxRecDepth 20000 in
theorem t_X2_note {G : mg} {F : Nat} {o : Nat} {a1 : Nat} {a2 : Int32} {a3 : Int32} {a4 : Int32} {M : mm} {M' : mm} (d : Nat) (h : m_X2_note F o a1 a2 a3 a4 M = some M') : CM G yX2_note cX2_note 11 none (d + 1) [vR 3 o, vR 1 a1, vI a2, vI a3, vI a4] M none M' := by
  refine ct_v (ls := [some (vR 3 o), some (vR 1 a1), some (vI a2), some (vI a3), some (vI a4), none, none, none, none, none, none]) rfl rfl (Nat.le_of_ble_eq_true rfl) (fun Z => ?_) h
  show SW G (d + 1) YX2_note Z 0 [some (vR 3 o), some (vR 1 a1), some (vI a2), some (vI a3), some (vI a4), none, none, none, none, none, none] [] M _ _
  unfold m_X2_note
  refine s_step (g_aload_n (iRow iCX2_note_0 0 rfl) rfl rfl) ?_
  refine s_step (g_getR (iRow iCX2_note_0 1 rfl) f2_40 ko_1 (r_1_9 _ _)) ?_
  refine s_step (g_iload_n (iRow iCX2_note_0 2 rfl) rfl rfl) ?_
  refine s_gi (fun h => g_iald (iRow iCX2_note_0 3 rfl) kn_27 ka_27 h) ?_
  refine s_nmI (fun x1 => ?_)
  refine s_step (g_istore (ls' := [some (vR 3 o), some (vR 1 a1), some (vI a2), some (vI a3), some (vI a4), some (vI x1), none, none, none, none, none]) (iRow iCX2_note_0 4 rfl) (by decide) rfl) ?_
  refine s_step (g_aload_n (iRow iCX2_note_0 5 rfl) rfl rfl) ?_
  refine s_step (g_getR (iRow iCX2_note_0 6 rfl) f2_45 ko_1 (r_1_7 _ _)) ?_
  refine s_step (g_iload_n (iRow iCX2_note_0 7 rfl) rfl rfl) ?_
  refine s_gi (fun h => g_iald (iRow iCX2_note_0 8 rfl) kn_25 ka_25 h) ?_
  refine s_nmI (fun x2 => ?_)
  refine s_step (g_istore (ls' := [some (vR 3 o), some (vR 1 a1), some (vI a2), some (vI a3), some (vI a4), some (vI x1), some (vI x2), none, none, none, none]) (iRow iCX2_note_0 9 rfl) (by decide) rfl) ?_
  refine s_step (g_aload_n (iRow iCX2_note_0 10 rfl) rfl rfl) ?_
  refine s_step (g_getZ (iRow iCX2_note_0 11 rfl) f2_34 ko_3) ?_
  refine s_bd (fun z => LM G (d + 1) YX2_note Z 37 [some (vR 3 o), none, some (vI a2), some (vI a3), some (vI a4), some (vI x1), some (vI x2), none, none, none, none] [vI (z.1)] z.2) ?_ ?_
  · refine s_if (g_if_eq (tgt := 27) (iRow iCX2_note_0 12 rfl) (by decide)) (fun _ => ?_) (fun _ => ?_)
    · refine s_step (g_iload (iRow iCX2_note_0 15 rfl) rfl) ?_
      refine s_step (g_iload_n (iRow iCX2_note_0 16 rfl) rfl rfl) ?_
      refine s_step (g_iload (iRow iCX2_note_0 17 rfl) rfl) ?_
      refine s_step (g_iload (iRow iCX2_note_0 18 rfl) rfl) ?_
      refine s_cl (sf := fun x => vI x :: []) (fun _ _ h => h_S (As := [_, _, _, _]) (iRow iCX2_note_0 19 rfl) l2_48 iX2_plainWorth rfl rfl (t_X2_plainWorth (d + 0) h) rfl (by omega) (by decide) (Nat.le_of_ble_eq_true rfl)) (fun x4 M3 => ?_)
      refine s_step (g_keep [true, false, true, true, true, true, true, false, false, false, false] rfl) ?_
      exact s_end (fun h => h)
    · refine s_step (g_iconst (iRow iCX2_note_0 13 rfl) kc_0) ?_
      refine s_step (g_goto (tgt := 37) (iRow iCX2_note_0 14 rfl) (by decide)) ?_
      refine s_step (g_keep [true, false, true, true, true, true, true, false, false, false, false] rfl) ?_
      exact s_end (fun h => h)
  · rintro ⟨x5, M6⟩
    show SW G (d + 1) YX2_note Z 37 [some (vR 3 o), none, some (vI a2), some (vI a3), some (vI a4), some (vI x1), some (vI x2), none, none, none, none] [vI x5] M6 _ _
    try dsimp only
    refine s_step (g_istore (ls' := [some (vR 3 o), none, some (vI a2), some (vI a3), some (vI a4), some (vI x1), some (vI x2), some (vI x5), none, none, none]) (iRow iCX2_note_0 20 rfl) (by decide) rfl) ?_
    refine s_step (g_iconst (iRow iCX2_note_0 21 rfl) kc_0) ?_
    refine s_step (g_istore (ls' := [some (vR 3 o), none, some (vI a2), some (vI a3), some (vI a4), some (vI x1), some (vI x2), some (vI x5), some (vI (0 : Int32)), none, none]) (iRow iCX2_note_0 22 rfl) (by decide) rfl) ?_
    refine s_step (g_iconst (iRow iCX2_note_0 23 rfl) kc_0) ?_
    refine s_step (g_istore (ls' := [some (vR 3 o), none, some (vI a2), some (vI a3), some (vI a4), some (vI x1), some (vI x2), some (vI x5), some (vI (0 : Int32)), some (vI (0 : Int32)), none]) (iRow iCX2_note_1 0 rfl) (by decide) rfl) ?_
    refine s_lp (fun z => [some (vR 3 o), none, some (vI a2), some (vI a3), some (vI a4), some (vI x1), some (vI x2), some (vI x5), some (vI (z.1)), some (vI (z.2.1)), none]) (fun z => z.2.2) (fun z => LM G (d + 1) YX2_note Z 232 [some (vR 3 o), none, some (vI a2), some (vI a3), some (vI a4), none, none, some (vI x5), some (vI (z.1)), none, none] [] z.2) rfl rfl ?_ ?_
    · rintro ⟨x7, x8, M9⟩
      show SW G (d + 1) YX2_note Z 45 [some (vR 3 o), none, some (vI a2), some (vI a3), some (vI a4), some (vI x1), some (vI x2), some (vI x5), some (vI x7), some (vI x8), none] [] M9 (b_X2_note_1c F o a3 a4 x1 x2 x7 x8 M9) _
      unfold b_X2_note_1c
      refine s_step (g_iload (iRow iCX2_note_1 1 rfl) rfl) ?_
      refine s_step (g_aload_n (iRow iCX2_note_1 2 rfl) rfl rfl) ?_
      refine s_step (g_getI (iRow iCX2_note_1 3 rfl) f2_37 ko_3) ?_
      refine s_if (g_icmp_ge (tgt := 232) (iRow iCX2_note_1 4 rfl) (by decide)) (fun _ => ?_) (fun _ => ?_)
      · refine s_step (g_keep [true, false, true, true, true, false, false, true, true, false, false] rfl) ?_
        exact s_end (fun h => h)
      · refine s_step (g_aload_n (iRow iCX2_note_1 5 rfl) rfl rfl) ?_
        refine s_step (g_getR (iRow iCX2_note_1 6 rfl) f2_17 ko_3 (r_3_3 _ _)) ?_
        refine s_step (g_iload (iRow iCX2_note_1 7 rfl) rfl) ?_
        refine s_gi (fun h => g_iald (iRow iCX2_note_1 8 rfl) kn_35 ka_35 h) ?_
        refine s_nmI (fun x10 => ?_)
        refine s_step (g_istore (ls' := [some (vR 3 o), none, some (vI a2), some (vI a3), some (vI a4), some (vI x1), some (vI x2), some (vI x5), some (vI x7), some (vI x8), some (vI x10)]) (iRow iCX2_note_1 9 rfl) (by decide) rfl) ?_
        refine s_step (g_iload (iRow iCX2_note_1 10 rfl) rfl) ?_
        refine s_step (g_bipush (iRow iCX2_note_1 11 rfl) kb_m5) ?_
        refine s_bd (fun z => LM G (d + 1) YX2_note Z 226 [some (vR 3 o), none, some (vI a2), some (vI a3), some (vI a4), some (vI x1), some (vI x2), some (vI x5), some (vI (z.1)), some (vI x8), none] [] z.2) ?_ ?_
        · refine s_nj 139 (fun z => [some (vR 3 o), none, some (vI a2), some (vI a3), some (vI a4), some (vI x1), some (vI x2), some (vI x5), some (vI x7), some (vI x8), some (vI x10)]) (fun z => []) (fun z => M9) ?_ (fun j139 hj139 => ?_)
          · intro _
            show SW G (d + 1) YX2_note Z 139 [some (vR 3 o), none, some (vI a2), some (vI a3), some (vI a4), some (vI x1), some (vI x2), some (vI x5), some (vI x7), some (vI x8), some (vI x10)] [] M9 _ _
            try dsimp only
            refine s_step (g_iload (iRow iCX2_note_2 20 rfl) rfl) ?_
            refine s_step (g_bipush (iRow iCX2_note_2 21 rfl) kb_m5) ?_
            refine s_nj 180 (fun z => [some (vR 3 o), none, some (vI a2), some (vI a3), some (vI a4), some (vI x1), some (vI x2), some (vI x5), some (vI x7), some (vI x8), some (vI x10)]) (fun z => []) (fun z => M9) ?_ (fun j180 hj180 => ?_)
            · intro _
              show SW G (d + 1) YX2_note Z 180 [some (vR 3 o), none, some (vI a2), some (vI a3), some (vI a4), some (vI x1), some (vI x2), some (vI x5), some (vI x7), some (vI x8), some (vI x10)] [] M9 _ _
              try dsimp only
              refine s_step (g_iload (iRow iCX2_note_3 18 rfl) rfl) ?_
              refine s_step (g_bipush (iRow iCX2_note_3 19 rfl) kb_m5) ?_
              refine s_if (g_icmp_ge (tgt := 226) (iRow iCX2_note_3 20 rfl) (by decide)) (fun _ => ?_) (fun _ => ?_)
              · refine s_step (g_keep [true, false, true, true, true, true, true, true, true, true, false] rfl) ?_
                exact s_end (fun h => h)
              · refine s_step (g_iload (iRow iCX2_note_3 21 rfl) rfl) ?_
                refine s_step (g_iconst (iRow iCX2_note_3 22 rfl) kc_1) ?_
                refine s_if (g_icmp_le (tgt := 226) (iRow iCX2_note_3 23 rfl) (by decide)) (fun _ => ?_) (fun _ => ?_)
                · refine s_step (g_keep [true, false, true, true, true, true, true, true, true, true, false] rfl) ?_
                  exact s_end (fun h => h)
                · refine s_step (g_iincc (c := (-1)) (ls' := [some (vR 3 o), none, some (vI a2), some (vI a3), some (vI a4), some (vI x1), some (vI x2), some (vI x5), some (vI (x7 + (-1 : Int32))), some (vI x8), some (vI x10)]) (iRow iCX2_note_4 0 rfl) rfl kc_m1 (by decide) rfl) ?_
                  refine s_step (g_aload_n (iRow iCX2_note_4 1 rfl) rfl rfl) ?_
                  refine s_step (g_getR (iRow iCX2_note_4 2 rfl) f2_21 ko_3 (r_3_5 _ _)) ?_
                  refine s_step (g_iload (iRow iCX2_note_4 3 rfl) rfl) ?_
                  refine s_step (g_iconst (iRow iCX2_note_4 4 rfl) kc_1) ?_
                  refine s_step (g_isub (iRow iCX2_note_4 5 rfl)) ?_
                  refine s_step (g_iload (iRow iCX2_note_4 6 rfl) rfl) ?_
                  refine s_step (g_aload_n (iRow iCX2_note_4 7 rfl) rfl rfl) ?_
                  refine s_step (g_getR (iRow iCX2_note_4 8 rfl) f2_21 ko_3 (r_3_5 _ _)) ?_
                  refine s_step (g_iload (iRow iCX2_note_4 9 rfl) rfl) ?_
                  refine s_step (g_iconst (iRow iCX2_note_4 10 rfl) kc_1) ?_
                  refine s_step (g_isub (iRow iCX2_note_4 11 rfl)) ?_
                  refine s_gi (fun h => g_iald (iRow iCX2_note_4 12 rfl) kn_36 ka_36 h) ?_
                  refine s_step (g_aload_n (iRow iCX2_note_4 13 rfl) rfl rfl) ?_
                  refine s_step (g_getR (iRow iCX2_note_4 14 rfl) f2_21 ko_3 (r_3_5 _ _)) ?_
                  refine s_step (g_iload (iRow iCX2_note_4 15 rfl) rfl) ?_
                  refine s_gi (fun h => g_iald (iRow iCX2_note_4 16 rfl) kn_36 ka_36 h) ?_
                  refine s_cl (sf := fun x => vI x :: [vI ((x7 + (-1 : Int32)) - (1 : Int32)), vR 36 o]) (fun _ _ h => h_S (As := [_, _, _]) (iRow iCX2_note_4 17 rfl) l2_52 iX2_joined rfl rfl (t_X2_joined (d + 0) h) rfl (by omega) (by decide) (Nat.le_of_ble_eq_true rfl)) (fun x16 M15 => ?_)
                  refine s_gi (fun h => g_iast (iRow iCX2_note_4 18 rfl) kn_36 ka_36 h) ?_
                  refine s_nmM (fun M17 => ?_)
                  refine s_step (g_keep [true, false, true, true, true, true, true, true, true, true, false] rfl) ?_
                  exact s_end (fun h => h)
            · refine s_ifn (g_icmp_ne (tgt := 180) (iRow iCX2_note_2 22 rfl) (by decide)) (fun _ => ?_) (fun _ => ?_)
              · refine s_step (g_iload (iRow iCX2_note_2 23 rfl) rfl) ?_
                refine s_if (g_if_le (tgt := 180) (iRow iCX2_note_3 0 rfl) (by decide)) (fun _ => ?_) (fun _ => ?_)
                · exact hj180 _
                · refine s_step (g_aload_n (iRow iCX2_note_3 1 rfl) rfl rfl) ?_
                  refine s_step (g_getR (iRow iCX2_note_3 2 rfl) f2_21 ko_3 (r_3_5 _ _)) ?_
                  refine s_step (g_iload (iRow iCX2_note_3 3 rfl) rfl) ?_
                  refine s_step (g_iconst (iRow iCX2_note_3 4 rfl) kc_1) ?_
                  refine s_step (g_isub (iRow iCX2_note_3 5 rfl)) ?_
                  refine s_step (g_aload_n (iRow iCX2_note_3 6 rfl) rfl rfl) ?_
                  refine s_step (g_getR (iRow iCX2_note_3 7 rfl) f2_21 ko_3 (r_3_5 _ _)) ?_
                  refine s_step (g_iload (iRow iCX2_note_3 8 rfl) rfl) ?_
                  refine s_step (g_iconst (iRow iCX2_note_3 9 rfl) kc_1) ?_
                  refine s_step (g_isub (iRow iCX2_note_3 10 rfl)) ?_
                  refine s_gi (fun h => g_iald (iRow iCX2_note_3 11 rfl) kn_36 ka_36 h) ?_
                  refine s_bd (fun z => LM G (d + 1) YX2_note Z 176 [some (vR 3 o), none, some (vI a2), some (vI a3), some (vI a4), some (vI x1), some (vI x2), some (vI x5), some (vI x7), some (vI x8), none] [vI z, vI (x7 - (1 : Int32)), vR 36 o] M9) ?_ ?_
                  · refine s_ifn (g_if_ne (tgt := 175) (iRow iCX2_note_3 12 rfl) (by decide)) (fun _ => ?_) (fun _ => ?_)
                    · refine s_step (g_iconst (iRow iCX2_note_3 13 rfl) kc_1) ?_
                      refine s_step (g_goto (tgt := 176) (iRow iCX2_note_3 14 rfl) (by decide)) ?_
                      refine s_step (g_keep [true, false, true, true, true, true, true, true, true, true, false] rfl) ?_
                      exact s_end (fun h => h)
                    · refine s_step (g_iconst (iRow iCX2_note_3 15 rfl) kc_0) ?_
                      refine s_step (g_keep [true, false, true, true, true, true, true, true, true, true, false] rfl) ?_
                      exact s_end (fun h => h)
                  · rintro x13
                    show SW G (d + 1) YX2_note Z 176 [some (vR 3 o), none, some (vI a2), some (vI a3), some (vI a4), some (vI x1), some (vI x2), some (vI x5), some (vI x7), some (vI x8), none] [vI x13, vI (x7 - (1 : Int32)), vR 36 o] M9 _ _
                    try dsimp only
                    refine s_gi (fun h => g_iast (iRow iCX2_note_3 16 rfl) kn_36 ka_36 h) ?_
                    refine s_nmM (fun M14 => ?_)
                    refine s_step (g_goto (tgt := 226) (iRow iCX2_note_3 17 rfl) (by decide)) ?_
                    exact s_end (fun h => h)
              · exact hj180 _
          · refine s_if (g_icmp_le (tgt := 139) (iRow iCX2_note_1 12 rfl) (by decide)) (fun _ => ?_) (fun _ => ?_)
            · exact hj139 _
            · refine s_step (g_iload (iRow iCX2_note_1 13 rfl) rfl) ?_
              refine s_step (g_aload_n (iRow iCX2_note_1 14 rfl) rfl rfl) ?_
              refine s_step (g_getR (iRow iCX2_note_1 15 rfl) f2_21 ko_3 (r_3_5 _ _)) ?_
              refine s_step (g_alen (iRow iCX2_note_1 16 rfl) kn_36 ka_36 (by decide) (by decide) kl_64) ?_
              refine s_if (g_icmp_ge (tgt := 139) (iRow iCX2_note_1 17 rfl) (by decide)) (fun _ => ?_) (fun _ => ?_)
              · exact hj139 _
              · refine s_step (g_aload_n (iRow iCX2_note_1 18 rfl) rfl rfl) ?_
                refine s_step (g_getR (iRow iCX2_note_1 19 rfl) f2_21 ko_3 (r_3_5 _ _)) ?_
                refine s_step (g_iload (iRow iCX2_note_1 20 rfl) rfl) ?_
                refine s_step (g_iload (iRow iCX2_note_1 21 rfl) rfl) ?_
                refine s_bd (fun z => LM G (d + 1) YX2_note Z 132 [some (vR 3 o), none, some (vI a2), some (vI a3), some (vI a4), some (vI x1), some (vI x2), some (vI x5), some (vI x7), some (vI x8), none] [vI z, vI x7, vR 36 o] M9) ?_ ?_
                · refine s_if (g_if_lt (tgt := 96) (iRow iCX2_note_1 22 rfl) (by decide)) (fun _ => ?_) (fun _ => ?_)
                  · refine s_step (g_iload (iRow iCX2_note_2 1 rfl) rfl) ?_
                    refine s_step (g_iconst (iRow iCX2_note_2 2 rfl) kc_m1) ?_
                    refine s_ifn (g_icmp_ne (tgt := 107) (iRow iCX2_note_2 3 rfl) (by decide)) (fun _ => ?_) (fun _ => ?_)
                    · refine s_step (g_iload (iRow iCX2_note_2 4 rfl) rfl) ?_
                      refine s_step (g_goto (tgt := 132) (iRow iCX2_note_2 5 rfl) (by decide)) ?_
                      refine s_step (g_keep [true, false, true, true, true, true, true, true, true, true, false] rfl) ?_
                      exact s_end (fun h => h)
                    · refine s_step (g_iload (iRow iCX2_note_2 6 rfl) rfl) ?_
                      refine s_step (g_bipush (iRow iCX2_note_2 7 rfl) kb_m2) ?_
                      refine s_ifn (g_icmp_ne (tgt := 118) (iRow iCX2_note_2 8 rfl) (by decide)) (fun _ => ?_) (fun _ => ?_)
                      · refine s_step (g_iload_n (iRow iCX2_note_2 9 rfl) rfl rfl) ?_
                        refine s_step (g_goto (tgt := 132) (iRow iCX2_note_2 10 rfl) (by decide)) ?_
                        refine s_step (g_keep [true, false, true, true, true, true, true, true, true, true, false] rfl) ?_
                        exact s_end (fun h => h)
                      · refine s_step (g_iload (iRow iCX2_note_2 11 rfl) rfl) ?_
                        refine s_step (g_bipush (iRow iCX2_note_2 12 rfl) kb_m3) ?_
                        refine s_ifn (g_icmp_ne (tgt := 130) (iRow iCX2_note_2 13 rfl) (by decide)) (fun _ => ?_) (fun _ => ?_)
                        · refine s_step (g_iload (iRow iCX2_note_2 14 rfl) rfl) ?_
                          refine s_step (g_goto (tgt := 132) (iRow iCX2_note_2 15 rfl) (by decide)) ?_
                          refine s_step (g_keep [true, false, true, true, true, true, true, true, true, true, false] rfl) ?_
                          exact s_end (fun h => h)
                        · refine s_step (g_iload (iRow iCX2_note_2 16 rfl) rfl) ?_
                          refine s_step (g_keep [true, false, true, true, true, true, true, true, true, true, false] rfl) ?_
                          exact s_end (fun h => h)
                  · refine s_step (g_iload (iRow iCX2_note_1 23 rfl) rfl) ?_
                    refine s_step (g_goto (tgt := 132) (iRow iCX2_note_2 0 rfl) (by decide)) ?_
                    refine s_step (g_keep [true, false, true, true, true, true, true, true, true, true, false] rfl) ?_
                    exact s_end (fun h => h)
                · rintro x11
                  show SW G (d + 1) YX2_note Z 132 [some (vR 3 o), none, some (vI a2), some (vI a3), some (vI a4), some (vI x1), some (vI x2), some (vI x5), some (vI x7), some (vI x8), none] [vI x11, vI x7, vR 36 o] M9 _ _
                  try dsimp only
                  refine s_gi (fun h => g_iast (iRow iCX2_note_2 17 rfl) kn_36 ka_36 h) ?_
                  refine s_nmM (fun M12 => ?_)
                  refine s_step (g_iincc (c := 1) (ls' := [some (vR 3 o), none, some (vI a2), some (vI a3), some (vI a4), some (vI x1), some (vI x2), some (vI x5), some (vI (x7 + (1 : Int32))), some (vI x8), none]) (iRow iCX2_note_2 18 rfl) rfl kc_1 (by decide) rfl) ?_
                  refine s_step (g_goto (tgt := 226) (iRow iCX2_note_2 19 rfl) (by decide)) ?_
                  exact s_end (fun h => h)
        · rintro ⟨x18, M19⟩
          show SW G (d + 1) YX2_note Z 226 [some (vR 3 o), none, some (vI a2), some (vI a3), some (vI a4), some (vI x1), some (vI x2), some (vI x5), some (vI x18), some (vI x8), none] [] M19 _ _
          try dsimp only
          refine s_step (g_iincc (c := 1) (ls' := [some (vR 3 o), none, some (vI a2), some (vI a3), some (vI a4), some (vI x1), some (vI x2), some (vI x5), some (vI x18), some (vI (x8 + (1 : Int32))), none]) (iRow iCX2_note_4 19 rfl) rfl kc_1 (by decide) rfl) ?_
          refine s_step (g_goto (tgt := 45) (iRow iCX2_note_4 20 rfl) (by decide)) ?_
          exact s_end (fun h => h)
    · rintro ⟨x20, M21⟩
      show SW G (d + 1) YX2_note Z 232 [some (vR 3 o), none, some (vI a2), some (vI a3), some (vI a4), none, none, some (vI x5), some (vI x20), none, none] [] M21 _ _
      try dsimp only
      refine s_step (g_iload (iRow iCX2_note_4 21 rfl) rfl) ?_
      refine s_bd (fun z => LM G (d + 1) YX2_note Z 248 [some (vR 3 o), none, some (vI a2), some (vI a3), some (vI a4), none, none, none, none, none, none] [vI z] M21) ?_ ?_
      · refine s_if (g_if_le (tgt := 246) (iRow iCX2_note_4 22 rfl) (by decide)) (fun _ => ?_) (fun _ => ?_)
        · refine s_step (g_iload (iRow iCX2_note_5 4 rfl) rfl) ?_
          refine s_step (g_keep [true, false, true, true, true, false, false, false, false, false, false] rfl) ?_
          exact s_end (fun h => h)
        · refine s_step (g_aload_n (iRow iCX2_note_4 23 rfl) rfl rfl) ?_
          refine s_step (g_getR (iRow iCX2_note_5 0 rfl) f2_21 ko_3 (r_3_5 _ _)) ?_
          refine s_step (g_iconst (iRow iCX2_note_5 1 rfl) kc_0) ?_
          refine s_gi (fun h => g_iald (iRow iCX2_note_5 2 rfl) kn_36 ka_36 h) ?_
          refine s_step (g_goto (tgt := 248) (iRow iCX2_note_5 3 rfl) (by decide)) ?_
          refine s_step (g_keep [true, false, true, true, true, false, false, false, false, false, false] rfl) ?_
          exact s_end (fun h => h)
      · rintro x22
        show SW G (d + 1) YX2_note Z 248 [some (vR 3 o), none, some (vI a2), some (vI a3), some (vI a4), none, none, none, none, none, none] [vI x22] M21 _ _
        try dsimp only
        refine s_step (g_istore (ls' := [some (vR 3 o), none, some (vI a2), some (vI a3), some (vI a4), none, none, some (vI x22), none, none, none]) (iRow iCX2_note_5 5 rfl) (by decide) rfl) ?_
        refine s_step (g_aload_n (iRow iCX2_note_5 6 rfl) rfl rfl) ?_
        refine s_step (g_getR (iRow iCX2_note_5 7 rfl) f2_24 ko_3 (r_3_6 _ _)) ?_
        refine s_step (g_iconst (iRow iCX2_note_5 8 rfl) kc_2) ?_
        refine s_step (g_iload_n (iRow iCX2_note_5 9 rfl) rfl rfl) ?_
        refine s_step (g_imul (iRow iCX2_note_5 10 rfl)) ?_
        refine s_step (g_iload (iRow iCX2_note_5 11 rfl) rfl) ?_
        refine s_step (g_iadd (iRow iCX2_note_5 12 rfl)) ?_
        refine s_step (g_iload (iRow iCX2_note_5 13 rfl) rfl) ?_
        refine s_bd (fun z => LM G (d + 1) YX2_note Z 285 [some (vR 3 o), none, some (vI a2), some (vI a3), some (vI a4), none, none, none, none, none, none] [vI z, vI (((2 : Int32) * a2) + a4), vR 37 o] M21) ?_ ?_
        · refine s_if (g_if_ge (tgt := 269) (iRow iCX2_note_5 14 rfl) (by decide)) (fun _ => ?_) (fun _ => ?_)
          · refine s_step (g_iload (iRow iCX2_note_5 17 rfl) rfl) ?_
            refine s_step (g_sipush (iRow iCX2_note_5 18 rfl) ks_999) ?_
            refine s_if (g_icmp_le (tgt := 283) (iRow iCX2_note_5 19 rfl) (by decide)) (fun _ => ?_) (fun _ => ?_)
            · refine s_step (g_iload (iRow iCX2_note_5 22 rfl) rfl) ?_
              refine s_step (g_keep [true, false, true, true, true, false, false, false, false, false, false] rfl) ?_
              exact s_end (fun h => h)
            · refine s_step (g_sipush (iRow iCX2_note_5 20 rfl) ks_999) ?_
              refine s_step (g_goto (tgt := 285) (iRow iCX2_note_5 21 rfl) (by decide)) ?_
              refine s_step (g_keep [true, false, true, true, true, false, false, false, false, false, false] rfl) ?_
              exact s_end (fun h => h)
          · refine s_step (g_iconst (iRow iCX2_note_5 15 rfl) kc_0) ?_
            refine s_step (g_goto (tgt := 285) (iRow iCX2_note_5 16 rfl) (by decide)) ?_
            refine s_step (g_keep [true, false, true, true, true, false, false, false, false, false, false] rfl) ?_
            exact s_end (fun h => h)
        · rintro x23
          show SW G (d + 1) YX2_note Z 285 [some (vR 3 o), none, some (vI a2), some (vI a3), some (vI a4), none, none, none, none, none, none] [vI x23, vI (((2 : Int32) * a2) + a4), vR 37 o] M21 _ _
          try dsimp only
          refine s_gi (fun h => g_iast (iRow iCX2_note_5 23 rfl) kn_37 ka_37 h) ?_
          refine s_nmM (fun M24 => ?_)
          refine s_step (g_aload_n (iRow iCX2_note_6 0 rfl) rfl rfl) ?_
          refine s_step (g_getR (iRow iCX2_note_6 1 rfl) f2_27 ko_3 (r_3_7 _ _)) ?_
          refine s_step (g_iconst (iRow iCX2_note_6 2 rfl) kc_2) ?_
          refine s_step (g_iload_n (iRow iCX2_note_6 3 rfl) rfl rfl) ?_
          refine s_step (g_imul (iRow iCX2_note_6 4 rfl)) ?_
          refine s_step (g_iload (iRow iCX2_note_6 5 rfl) rfl) ?_
          refine s_step (g_iadd (iRow iCX2_note_6 6 rfl)) ?_
          refine s_step (g_iload_n (iRow iCX2_note_6 7 rfl) rfl rfl) ?_
          refine s_gi (fun h => g_iast (iRow iCX2_note_6 8 rfl) kn_38 ka_38 h) ?_
          refine s_nmM (fun M25 => ?_)
          exact s_retv (iRow iCX2_note_6 9 rfl) rfl
