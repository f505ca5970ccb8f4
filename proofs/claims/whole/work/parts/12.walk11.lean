abbrev YX12_mark : mY := (RX12, "mark", cX12_mark, 5, (some .boolean), none)
set_option maxHeartbeats 400000 in
set_option maxRecDepth 20000 in
theorem t_X12_mark {G : mg} {F : Nat} {a1 : Int32} {a2 : Int32} {M : mm} {x : Bool} {M' : mm} (d : Nat) (h : m_X12_mark F a1 a2 M = some (x, M')) : CM G yX12_mark cX12_mark 5 (some .boolean) (d + 1) [vR 13 0, vI a1, vI a2] M (some (vI (bI x))) M' := by
  refine ct_z (ls := [some (vR 13 0), some (vI a1), some (vI a2), none, none]) rfl rfl (Nat.le_of_ble_eq_true rfl) (fun Z => ?_) h
  show SW G (d + 1) YX12_mark Z 0 [some (vR 13 0), some (vI a1), some (vI a2), none, none] [] M _ _
  unfold m_X12_mark
  refine s_step (g_aload_n (iRow iCX12_mark_0 0 rfl) rfl rfl) ?_
  refine s_step (g_iconst (iRow iCX12_mark_0 1 rfl) kc_0) ?_
  refine s_step (g_putI (iRow iCX12_mark_0 2 rfl) f12_157 (Or.inl rfl) ko_13) ?_
  refine s_nmM (fun M1 => ?_)
  refine s_step (g_iload_n (iRow iCX12_mark_0 3 rfl) rfl rfl) ?_
  refine s_step (g_iconst (iRow iCX12_mark_0 4 rfl) kc_0) ?_
  refine s_step (g_iconst (iRow iCX12_mark_0 5 rfl) kc_3) ?_
  refine s_cb (sf := fun b => vI (bI b) :: []) (fun _ _ h => h_S (As := [_, _, _]) (iRow iCX12_mark_0 6 rfl) l12_291 iX12_within rfl rfl (t_X12_within (d + 0) h) rfl (by omega) (by decide) (Nat.le_of_ble_eq_true rfl)) (fun b3 M2 => ?_)
  refine s_ifeqb (g_if_eq (tgt := 27) (iRow iCX12_mark_0 7 rfl) (by decide)) (fun _ => ?_) (fun _ => ?_)
  · refine s_step (g_iload_n (iRow iCX12_mark_0 8 rfl) rfl rfl) ?_
    refine s_nj 29 (fun z => [some (vR 13 0), some (vI a1), some (vI a2), none, none]) (fun z => []) (fun z => M2) ?_ (fun j29 hj29 => ?_)
    · intro _
      show SW G (d + 1) YX12_mark Z 29 [some (vR 13 0), some (vI a1), some (vI a2), none, none] [] M2 _ _
      try dsimp only
      refine s_step (g_aload_n (iRow iCX12_mark_0 17 rfl) rfl rfl) ?_
      refine s_step (g_getR (iRow iCX12_mark_0 18 rfl) f12_135 ko_13 (r_13_53 _ _)) ?_
      refine s_step (g_iload_n (iRow iCX12_mark_0 19 rfl) rfl rfl) ?_
      refine s_step (g_iconst (iRow iCX12_mark_0 20 rfl) kc_1) ?_
      refine s_gi (fun h => g_zast (iRow iCX12_mark_0 21 rfl) kn_104 ka_104 h) ?_
      refine s_nmM (fun M4 => ?_)
      refine s_step (g_iload_n (iRow iCX12_mark_0 22 rfl) rfl rfl) ?_
      refine s_bd (fun z => LM G (d + 1) YX12_mark Z 47 [some (vR 13 0), some (vI a1), some (vI a2), none, none] [vI z] M4) ?_ ?_
      · refine s_if (g_if_eq (tgt := 46) (iRow iCX12_mark_0 23 rfl) (by decide)) (fun _ => ?_) (fun _ => ?_)
        · refine s_step (g_iconst (iRow iCX12_mark_1 4 rfl) kc_0) ?_
          exact s_end (fun h => h)
        · refine s_step (g_iconst (iRow iCX12_mark_1 0 rfl) kc_1) ?_
          refine s_step (g_iload_n (iRow iCX12_mark_1 1 rfl) rfl rfl) ?_
          refine s_step (g_iadd (iRow iCX12_mark_1 2 rfl)) ?_
          refine s_step (g_goto (tgt := 47) (iRow iCX12_mark_1 3 rfl) (by decide)) ?_
          exact s_end (fun h => h)
      · rintro x5
        show SW G (d + 1) YX12_mark Z 47 [some (vR 13 0), some (vI a1), some (vI a2), none, none] [vI x5] M4 _ _
        try dsimp only
        refine s_step (g_istore_n (ls' := [some (vR 13 0), some (vI a1), some (vI a2), some (vI x5), none]) (iRow iCX12_mark_1 5 rfl) rfl (by decide) rfl) ?_
        refine s_step (g_iload_n (iRow iCX12_mark_1 6 rfl) rfl rfl) ?_
        refine s_bd (fun z => LM G (d + 1) YX12_mark Z 59 [some (vR 13 0), some (vI a1), some (vI a2), some (vI x5), none] [vI z] M4) ?_ ?_
        · refine s_if (g_if_eq (tgt := 56) (iRow iCX12_mark_1 7 rfl) (by decide)) (fun _ => ?_) (fun _ => ?_)
          · refine s_step (g_iconst (iRow iCX12_mark_1 10 rfl) kc_1) ?_
            refine s_step (g_iload_n (iRow iCX12_mark_1 11 rfl) rfl rfl) ?_
            refine s_step (g_iadd (iRow iCX12_mark_1 12 rfl)) ?_
            exact s_end (fun h => h)
          · refine s_step (g_iconst (iRow iCX12_mark_1 8 rfl) kc_0) ?_
            refine s_step (g_goto (tgt := 59) (iRow iCX12_mark_1 9 rfl) (by decide)) ?_
            exact s_end (fun h => h)
        · rintro x6
          show SW G (d + 1) YX12_mark Z 59 [some (vR 13 0), some (vI a1), some (vI a2), some (vI x5), none] [vI x6] M4 _ _
          try dsimp only
          refine s_step (g_istore (ls' := [some (vR 13 0), some (vI a1), some (vI a2), some (vI x5), some (vI x6)]) (iRow iCX12_mark_1 13 rfl) (by decide) rfl) ?_
          refine s_step (g_aload_n (iRow iCX12_mark_1 14 rfl) rfl rfl) ?_
          refine s_step (g_iload_n (iRow iCX12_mark_1 15 rfl) rfl rfl) ?_
          refine s_step (g_iload (iRow iCX12_mark_1 16 rfl) rfl) ?_
          refine s_cv (stA := []) (fun _ h => h_V (As := [_, _]) (iRow iCX12_mark_1 17 rfl) l12_389 iX12_laysLines ko_13 rfl rfl rfl rfl (t_X12_laysLines (d + 0) h) rfl (by omega) (by decide) (Nat.le_of_ble_eq_true rfl)) (fun M7 => ?_)
          refine s_step (g_aload_n (iRow iCX12_mark_1 18 rfl) rfl rfl) ?_
          refine s_step (g_iload_n (iRow iCX12_mark_1 19 rfl) rfl rfl) ?_
          refine s_step (g_iload (iRow iCX12_mark_1 20 rfl) rfl) ?_
          refine s_cv (stA := []) (fun _ h => h_V (As := [_, _]) (iRow iCX12_mark_1 21 rfl) l12_520 iX12_laysHeard ko_13 rfl rfl rfl rfl (t_X12_laysHeard (d + 0) h) rfl (by omega) (by decide) (Nat.le_of_ble_eq_true rfl)) (fun M8 => ?_)
          refine s_step (g_iload_n (iRow iCX12_mark_1 22 rfl) rfl rfl) ?_
          refine s_if (g_if_eq (tgt := 102) (iRow iCX12_mark_1 23 rfl) (by decide)) (fun _ => ?_) (fun _ => ?_)
          · refine s_step (g_aload_n (iRow iCX12_mark_2 13 rfl) rfl rfl) ?_
            refine s_step (g_getR (iRow iCX12_mark_2 14 rfl) f12_123 ko_13 (r_13_49 _ _)) ?_
            refine s_step (g_iconst (iRow iCX12_mark_2 15 rfl) kc_0) ?_
            refine s_step (g_aload_n (iRow iCX12_mark_2 16 rfl) rfl rfl) ?_
            refine s_step (g_getR (iRow iCX12_mark_2 17 rfl) f12_129 ko_13 (r_13_51 _ _)) ?_
            refine s_step (g_iconst (iRow iCX12_mark_2 18 rfl) kc_4) ?_
            refine s_step (g_iload_n (iRow iCX12_mark_2 19 rfl) rfl rfl) ?_
            refine s_step (g_imul (iRow iCX12_mark_2 20 rfl)) ?_
            refine s_cv (stA := []) (fun _ h => h_S (As := [_, _, _, _]) (iRow iCX12_mark_2 21 rfl) l12_428 iX12_copies rfl rfl (t_X12_copies_100_102 (d + 0) h) rfl (by omega) (by decide) (Nat.le_of_ble_eq_true rfl)) (fun M9 => ?_)
            refine s_step (g_iconst (iRow iCX12_mark_2 22 rfl) kc_1) ?_
            exact s_retz (b := true) (iRow iCX12_mark_2 23 rfl) rfl rfl
          · refine s_step (g_aload_n (iRow iCX12_mark_2 0 rfl) rfl rfl) ?_
            refine s_step (g_getR (iRow iCX12_mark_2 1 rfl) f12_129 ko_13 (r_13_51 _ _)) ?_
            refine s_step (g_iconst (iRow iCX12_mark_2 2 rfl) kc_4) ?_
            refine s_step (g_iload_n (iRow iCX12_mark_2 3 rfl) rfl rfl) ?_
            refine s_step (g_imul (iRow iCX12_mark_2 4 rfl)) ?_
            refine s_step (g_aload_n (iRow iCX12_mark_2 5 rfl) rfl rfl) ?_
            refine s_step (g_getR (iRow iCX12_mark_2 6 rfl) f12_123 ko_13 (r_13_49 _ _)) ?_
            refine s_step (g_iconst (iRow iCX12_mark_2 7 rfl) kc_0) ?_
            refine s_cv (stA := []) (fun _ h => h_S (As := [_, _, _, _]) (iRow iCX12_mark_2 8 rfl) l12_428 iX12_copies rfl rfl (t_X12_copies_102_100 (d + 0) h) rfl (by omega) (by decide) (Nat.le_of_ble_eq_true rfl)) (fun M10 => ?_)
            refine s_step (g_aload_n (iRow iCX12_mark_2 9 rfl) rfl rfl) ?_
            refine s_step (g_iconst (iRow iCX12_mark_2 10 rfl) kc_0) ?_
            refine s_step (g_putI (iRow iCX12_mark_2 11 rfl) f12_383 (Or.inl rfl) ko_13) ?_
            refine s_nmM (fun M11 => ?_)
            refine s_step (g_goto (tgt := 117) (iRow iCX12_mark_2 12 rfl) (by decide)) ?_
            refine s_step (g_iconst (iRow iCX12_mark_2 22 rfl) kc_1) ?_
            exact s_retz (b := true) (iRow iCX12_mark_2 23 rfl) rfl rfl
    · refine s_if (g_if_eq (tgt := 29) (iRow iCX12_mark_0 9 rfl) (by decide)) (fun _ => ?_) (fun _ => ?_)
      · exact hj29 _
      · refine s_step (g_aload_n (iRow iCX12_mark_0 10 rfl) rfl rfl) ?_
        refine s_step (g_getR (iRow iCX12_mark_0 11 rfl) f12_135 ko_13 (r_13_53 _ _)) ?_
        refine s_step (g_iload_n (iRow iCX12_mark_0 12 rfl) rfl rfl) ?_
        refine s_gi (fun h => g_zald (iRow iCX12_mark_0 13 rfl) kn_104 ka_104 h) ?_
        refine s_ifn (g_if_ne (tgt := 29) (iRow iCX12_mark_0 14 rfl) (by decide)) (fun _ => ?_) (fun _ => ?_)
        · refine s_step (g_iconst (iRow iCX12_mark_0 15 rfl) kc_0) ?_
          exact s_retz (b := false) (iRow iCX12_mark_0 16 rfl) rfl rfl
        · exact hj29 _
  · refine s_step (g_iconst (iRow iCX12_mark_0 15 rfl) kc_0) ?_
    exact s_retz (b := false) (iRow iCX12_mark_0 16 rfl) rfl rfl
abbrev YX12_count : mY := (RX12, "count", cX12_count, 2, (some .int), none)
set_option maxHeartbeats 400000 in
set_option maxRecDepth 20000 in
theorem t_X12_count {G : mg} {F : Nat} {a1 : Int32} {M : mm} {x : Int32} {M' : mm} (d : Nat) (h : m_X12_count F a1 M = some (x, M')) : CM G yX12_count cX12_count 2 (some .int) (d + 1) [vR 13 0, vI a1] M (some (vI x)) M' := by
  refine ct_i (ls := [some (vR 13 0), some (vI a1)]) rfl rfl (Nat.le_of_ble_eq_true rfl) (fun Z => ?_) h
  show SW G (d + 1) YX12_count Z 0 [some (vR 13 0), some (vI a1)] [] M _ _
  unfold m_X12_count
  refine s_step (g_aload_n (iRow iCX12_count_0 0 rfl) rfl rfl) ?_
  refine s_step (g_iconst (iRow iCX12_count_0 1 rfl) kc_0) ?_
  refine s_step (g_putI (iRow iCX12_count_0 2 rfl) f12_157 (Or.inl rfl) ko_13) ?_
  refine s_nmM (fun M1 => ?_)
  refine s_step (g_iload_n (iRow iCX12_count_0 3 rfl) rfl rfl) ?_
  refine s_step (g_iconst (iRow iCX12_count_0 4 rfl) kc_0) ?_
  refine s_step (g_bipush (iRow iCX12_count_0 5 rfl) kb_12) ?_
  refine s_cb (sf := fun b => vI (bI b) :: []) (fun _ _ h => h_S (As := [_, _, _]) (iRow iCX12_count_0 6 rfl) l12_291 iX12_within rfl rfl (t_X12_within (d + 0) h) rfl (by omega) (by decide) (Nat.le_of_ble_eq_true rfl)) (fun b3 M2 => ?_)
  refine s_ifneb (g_if_ne (tgt := 17) (iRow iCX12_count_0 7 rfl) (by decide)) (fun _ => ?_) (fun _ => ?_)
  · refine s_step (g_iload_n (iRow iCX12_count_0 10 rfl) rfl rfl) ?_
    refine s_step (g_iconst (iRow iCX12_count_0 11 rfl) kc_3) ?_
    refine s_if (g_icmp_ge (tgt := 29) (iRow iCX12_count_0 12 rfl) (by decide)) (fun _ => ?_) (fun _ => ?_)
    · refine s_step (g_iload_n (iRow iCX12_count_0 18 rfl) rfl rfl) ?_
      refine s_step (g_bipush (iRow iCX12_count_0 19 rfl) kb_6) ?_
      refine s_if (g_icmp_ge (tgt := 73) (iRow iCX12_count_0 20 rfl) (by decide)) (fun _ => ?_) (fun _ => ?_)
      · refine s_step (g_iload_n (iRow iCX12_count_1 19 rfl) rfl rfl) ?_
        refine s_step (g_bipush (iRow iCX12_count_1 20 rfl) kb_9) ?_
        refine s_if (g_icmp_ge (tgt := 120) (iRow iCX12_count_1 21 rfl) (by decide)) (fun _ => ?_) (fun _ => ?_)
        · refine s_step (g_iload_n (iRow iCX12_count_2 21 rfl) rfl rfl) ?_
          refine s_step (g_bipush (iRow iCX12_count_2 22 rfl) kb_11) ?_
          refine s_if (g_icmp_ge (tgt := 137) (iRow iCX12_count_2 23 rfl) (by decide)) (fun _ => ?_) (fun _ => ?_)
          · refine s_step (g_iload_n (iRow iCX12_count_3 7 rfl) rfl rfl) ?_
            refine s_step (g_bipush (iRow iCX12_count_3 8 rfl) kb_11) ?_
            refine s_ifn (g_icmp_ne (tgt := 150) (iRow iCX12_count_3 9 rfl) (by decide)) (fun _ => ?_) (fun _ => ?_)
            · refine s_step (g_aload_n (iRow iCX12_count_3 10 rfl) rfl rfl) ?_
              refine s_step (g_getI (iRow iCX12_count_3 11 rfl) f12_383 ko_13) ?_
              refine s_step (g_goto (tgt := 154) (iRow iCX12_count_3 12 rfl) (by decide)) ?_
              exact s_reti (iRow iCX12_count_3 15 rfl) rfl
            · refine s_step (g_aload_n (iRow iCX12_count_3 13 rfl) rfl rfl) ?_
              refine s_step (g_getI (iRow iCX12_count_3 14 rfl) f12_163 ko_13) ?_
              exact s_reti (iRow iCX12_count_3 15 rfl) rfl
          · refine s_step (g_aload_n (iRow iCX12_count_3 0 rfl) rfl rfl) ?_
            refine s_step (g_getR (iRow iCX12_count_3 1 rfl) f12_13 ko_13 (r_13_10 _ _)) ?_
            refine s_step (g_iload_n (iRow iCX12_count_3 2 rfl) rfl rfl) ?_
            refine s_step (g_iconst (iRow iCX12_count_3 3 rfl) kc_5) ?_
            refine s_step (g_isub (iRow iCX12_count_3 4 rfl)) ?_
            refine s_gi (fun h => g_iald (iRow iCX12_count_3 5 rfl) kn_64 ka_64 h) ?_
            refine s_step (g_goto (tgt := 154) (iRow iCX12_count_3 6 rfl) (by decide)) ?_
            exact s_reti (iRow iCX12_count_3 15 rfl) rfl
        · refine s_step (g_iload_n (iRow iCX12_count_1 22 rfl) rfl rfl) ?_
          refine s_step (g_bipush (iRow iCX12_count_1 23 rfl) kb_6) ?_
          refine s_ifn (g_icmp_ne (tgt := 98) (iRow iCX12_count_2 0 rfl) (by decide)) (fun _ => ?_) (fun _ => ?_)
          · refine s_step (g_aload_n (iRow iCX12_count_2 1 rfl) rfl rfl) ?_
            refine s_step (g_aload_n (iRow iCX12_count_2 2 rfl) rfl rfl) ?_
            refine s_step (g_getR (iRow iCX12_count_2 3 rfl) f12_123 ko_13 (r_13_49 _ _)) ?_
            refine s_step (g_iconst (iRow iCX12_count_2 4 rfl) kc_3) ?_
            refine s_gi (fun h => g_iald (iRow iCX12_count_2 5 rfl) kn_100 ka_100 h) ?_
            refine s_cl (sf := fun x => vI x :: []) (fun _ _ h => h_V (As := [_]) (iRow iCX12_count_2 6 rfl) l12_453 iX12_weighed ko_13 rfl rfl rfl rfl (t_X12_weighed (d + 0) h) rfl (by omega) (by decide) (Nat.le_of_ble_eq_true rfl)) (fun x5 M4 => ?_)
            refine s_step (g_goto (tgt := 119) (iRow iCX12_count_2 7 rfl) (by decide)) ?_
            exact s_reti (iRow iCX12_count_2 20 rfl) rfl
          · refine s_step (g_iload_n (iRow iCX12_count_2 8 rfl) rfl rfl) ?_
            refine s_step (g_bipush (iRow iCX12_count_2 9 rfl) kb_7) ?_
            refine s_ifn (g_icmp_ne (tgt := 113) (iRow iCX12_count_2 10 rfl) (by decide)) (fun _ => ?_) (fun _ => ?_)
            · refine s_step (g_aload_n (iRow iCX12_count_2 11 rfl) rfl rfl) ?_
              refine s_step (g_getR (iRow iCX12_count_2 12 rfl) f12_105 ko_13 (r_13_43 _ _)) ?_
              refine s_step (g_iconst (iRow iCX12_count_2 13 rfl) kc_0) ?_
              refine s_gi (fun h => g_iald (iRow iCX12_count_2 14 rfl) kn_94 ka_94 h) ?_
              refine s_step (g_goto (tgt := 119) (iRow iCX12_count_2 15 rfl) (by decide)) ?_
              exact s_reti (iRow iCX12_count_2 20 rfl) rfl
            · refine s_step (g_aload_n (iRow iCX12_count_2 16 rfl) rfl rfl) ?_
              refine s_step (g_getR (iRow iCX12_count_2 17 rfl) f12_114 ko_13 (r_13_46 _ _)) ?_
              refine s_step (g_iconst (iRow iCX12_count_2 18 rfl) kc_0) ?_
              refine s_gi (fun h => g_iald (iRow iCX12_count_2 19 rfl) kn_97 ka_97 h) ?_
              exact s_reti (iRow iCX12_count_2 20 rfl) rfl
      · refine s_step (g_iload_n (iRow iCX12_count_0 21 rfl) rfl rfl) ?_
        refine s_step (g_iconst (iRow iCX12_count_0 22 rfl) kc_3) ?_
        refine s_ifn (g_icmp_ne (tgt := 49) (iRow iCX12_count_0 23 rfl) (by decide)) (fun _ => ?_) (fun _ => ?_)
        · refine s_step (g_aload_n (iRow iCX12_count_1 0 rfl) rfl rfl) ?_
          refine s_step (g_getR (iRow iCX12_count_1 1 rfl) f12_123 ko_13 (r_13_49 _ _)) ?_
          refine s_step (g_iconst (iRow iCX12_count_1 2 rfl) kc_0) ?_
          refine s_gi (fun h => g_iald (iRow iCX12_count_1 3 rfl) kn_100 ka_100 h) ?_
          refine s_step (g_goto (tgt := 72) (iRow iCX12_count_1 4 rfl) (by decide)) ?_
          exact s_reti (iRow iCX12_count_1 18 rfl) rfl
        · refine s_step (g_iload_n (iRow iCX12_count_1 5 rfl) rfl rfl) ?_
          refine s_step (g_iconst (iRow iCX12_count_1 6 rfl) kc_4) ?_
          refine s_bd (fun z => LM G (d + 1) YX12_count Z 69 [none, none] [vI z] M2) ?_ ?_
          · refine s_ifn (g_icmp_ne (tgt := 63) (iRow iCX12_count_1 7 rfl) (by decide)) (fun _ => ?_) (fun _ => ?_)
            · refine s_step (g_aload_n (iRow iCX12_count_1 8 rfl) rfl rfl) ?_
              refine s_step (g_getR (iRow iCX12_count_1 9 rfl) f12_123 ko_13 (r_13_49 _ _)) ?_
              refine s_step (g_iconst (iRow iCX12_count_1 10 rfl) kc_1) ?_
              refine s_gi (fun h => g_iald (iRow iCX12_count_1 11 rfl) kn_100 ka_100 h) ?_
              refine s_step (g_goto (tgt := 69) (iRow iCX12_count_1 12 rfl) (by decide)) ?_
              refine s_step (g_keep [false, false] rfl) ?_
              exact s_end (fun h => h)
            · refine s_step (g_aload_n (iRow iCX12_count_1 13 rfl) rfl rfl) ?_
              refine s_step (g_getR (iRow iCX12_count_1 14 rfl) f12_123 ko_13 (r_13_49 _ _)) ?_
              refine s_step (g_iconst (iRow iCX12_count_1 15 rfl) kc_3) ?_
              refine s_gi (fun h => g_iald (iRow iCX12_count_1 16 rfl) kn_100 ka_100 h) ?_
              refine s_step (g_keep [false, false] rfl) ?_
              exact s_end (fun h => h)
          · rintro x6
            show SW G (d + 1) YX12_count Z 69 [none, none] [vI x6] M2 _ _
            try dsimp only
            refine s_cl (sf := fun x => vI x :: []) (fun _ _ h => h_S (As := [_]) (iRow iCX12_count_1 17 rfl) l12_470 iX12_bits rfl rfl (t_X12_bits (d + 0) h) rfl (by omega) (by decide) (Nat.le_of_ble_eq_true rfl)) (fun x8 M7 => ?_)
            exact s_reti (iRow iCX12_count_1 18 rfl) rfl
    · refine s_step (g_aload_n (iRow iCX12_count_0 13 rfl) rfl rfl) ?_
      refine s_step (g_getR (iRow iCX12_count_0 14 rfl) f12_13 ko_13 (r_13_10 _ _)) ?_
      refine s_step (g_iload_n (iRow iCX12_count_0 15 rfl) rfl rfl) ?_
      refine s_gi (fun h => g_iald (iRow iCX12_count_0 16 rfl) kn_64 ka_64 h) ?_
      exact s_reti (iRow iCX12_count_0 17 rfl) rfl
  · refine s_step (g_iconst (iRow iCX12_count_0 8 rfl) kc_m1) ?_
    exact s_reti (iRow iCX12_count_0 9 rfl) rfl
