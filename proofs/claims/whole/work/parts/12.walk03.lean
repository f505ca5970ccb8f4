abbrev YX0_strengthOf : mY := (RX0, "strengthOf", cX0_strengthOf, 7, (some .int), none)
set_option maxHeartbeats 400000 in
set_option maxRecDepth 20000 in
theorem t_X0_strengthOf {G : mg} {F : Nat} {o : Nat} {a1 : Int32} {a2 : Nat} {M : mm} {x : Int32} {M' : mm} (d : Nat) (h : m_X0_strengthOf F o a1 a2 M = some (x, M')) : CM G yX0_strengthOf cX0_strengthOf 7 (some .int) (d + 2) [vR 1 o, vI a1, vR 5 a2] M (some (vI x)) M' := by
  refine ct_i (ls := [some (vR 1 o), some (vI a1), some (vR 5 a2), none, none, none, none]) rfl rfl (Nat.le_of_ble_eq_true rfl) (fun Z => ?_) h
  show SW G (d + 2) YX0_strengthOf Z 0 [some (vR 1 o), some (vI a1), some (vR 5 a2), none, none, none, none] [] M _ _
  unfold m_X0_strengthOf
  refine s_step (g_aload_n (iRow iCX0_strengthOf_0 0 rfl) rfl rfl) ?_
  refine s_step (g_getI (iRow iCX0_strengthOf_0 1 rfl) f0_81 ko_5) ?_
  refine s_step (g_iload_n (iRow iCX0_strengthOf_0 2 rfl) rfl rfl) ?_
  refine s_step (g_ishr (iRow iCX0_strengthOf_0 3 rfl)) ?_
  refine s_step (g_iconst (iRow iCX0_strengthOf_0 4 rfl) kc_1) ?_
  refine s_step (g_iand (iRow iCX0_strengthOf_0 5 rfl)) ?_
  refine s_if (g_if_eq (tgt := 13) (iRow iCX0_strengthOf_0 6 rfl) (by decide)) (fun _ => ?_) (fun _ => ?_)
  · refine s_step (g_aload_n (iRow iCX0_strengthOf_0 9 rfl) rfl rfl) ?_
    refine s_step (g_getR (iRow iCX0_strengthOf_0 10 rfl) f0_37 ko_1 (r_1_10 _ _)) ?_
    refine s_step (g_iload_n (iRow iCX0_strengthOf_0 11 rfl) rfl rfl) ?_
    refine s_gi (fun h => g_iald (iRow iCX0_strengthOf_0 12 rfl) kn_28 ka_28 h) ?_
    refine s_nmI (fun x1 => ?_)
    refine s_step (g_istore_n (ls' := [some (vR 1 o), some (vI a1), some (vR 5 a2), some (vI x1), none, none, none]) (iRow iCX0_strengthOf_0 13 rfl) rfl (by decide) rfl) ?_
    refine s_step (g_iload_n (iRow iCX0_strengthOf_0 14 rfl) rfl rfl) ?_
    refine s_step (g_iconst (iRow iCX0_strengthOf_0 15 rfl) kc_m1) ?_
    refine s_nj 38 (fun z => [some (vR 1 o), some (vI a1), some (vR 5 a2), some (vI x1), none, none, none]) (fun z => []) (fun z => M) ?_ (fun j38 hj38 => ?_)
    · intro _
      show SW G (d + 2) YX0_strengthOf Z 38 [some (vR 1 o), some (vI a1), some (vR 5 a2), some (vI x1), none, none, none] [] M _ _
      try dsimp only
      refine s_step (g_aload_n (iRow iCX0_strengthOf_1 2 rfl) rfl rfl) ?_
      refine s_step (g_getR (iRow iCX0_strengthOf_1 3 rfl) f0_22 ko_1 (r_1_4 _ _)) ?_
      refine s_step (g_aload_n (iRow iCX0_strengthOf_1 4 rfl) rfl rfl) ?_
      refine s_step (g_getR (iRow iCX0_strengthOf_1 5 rfl) f0_31 ko_1 (r_1_8 _ _)) ?_
      refine s_step (g_iload_n (iRow iCX0_strengthOf_1 6 rfl) rfl rfl) ?_
      refine s_gi (fun h => g_iald (iRow iCX0_strengthOf_1 7 rfl) kn_26 ka_26 h) ?_
      refine s_gi (fun h => g_iald (iRow iCX0_strengthOf_1 8 rfl) kn_23 ka_23 h) ?_
      refine s_step (g_aload_n (iRow iCX0_strengthOf_1 9 rfl) rfl rfl) ?_
      refine s_step (g_getI (iRow iCX0_strengthOf_1 10 rfl) f0_81 ko_5) ?_
      refine s_step (g_iconst (iRow iCX0_strengthOf_1 11 rfl) kc_m1) ?_
      refine s_step (g_ixor (iRow iCX0_strengthOf_1 12 rfl)) ?_
      refine s_step (g_iand (iRow iCX0_strengthOf_1 13 rfl)) ?_
      refine s_step (g_iconst (iRow iCX0_strengthOf_1 14 rfl) kc_1) ?_
      refine s_step (g_iload_n (iRow iCX0_strengthOf_1 15 rfl) rfl rfl) ?_
      refine s_step (g_ishl (iRow iCX0_strengthOf_1 16 rfl)) ?_
      refine s_step (g_iconst (iRow iCX0_strengthOf_1 17 rfl) kc_m1) ?_
      refine s_step (g_ixor (iRow iCX0_strengthOf_1 18 rfl)) ?_
      refine s_step (g_iand (iRow iCX0_strengthOf_1 19 rfl)) ?_
      refine s_nmI (fun x2 => ?_)
      refine s_step (g_istore (ls' := [some (vR 1 o), some (vI a1), some (vR 5 a2), some (vI x1), some (vI x2), none, none]) (iRow iCX0_strengthOf_1 20 rfl) (by decide) rfl) ?_
      refine s_step (g_iload (iRow iCX0_strengthOf_1 21 rfl) rfl) ?_
      refine s_bd (fun z => LM G (d + 2) YX0_strengthOf Z 74 [some (vR 1 o), some (vI a1), some (vR 5 a2), some (vI x1), none, none, none] [vI z] M) ?_ ?_
      · refine s_ifn (g_if_ne (tgt := 73) (iRow iCX0_strengthOf_1 22 rfl) (by decide)) (fun _ => ?_) (fun _ => ?_)
        · refine s_step (g_iconst (iRow iCX0_strengthOf_1 23 rfl) kc_1) ?_
          refine s_step (g_goto (tgt := 74) (iRow iCX0_strengthOf_2 0 rfl) (by decide)) ?_
          refine s_step (g_keep [true, true, true, true, false, false, false] rfl) ?_
          exact s_end (fun h => h)
        · refine s_step (g_iconst (iRow iCX0_strengthOf_2 1 rfl) kc_0) ?_
          refine s_step (g_keep [true, true, true, true, false, false, false] rfl) ?_
          exact s_end (fun h => h)
      · rintro x3
        show SW G (d + 2) YX0_strengthOf Z 74 [some (vR 1 o), some (vI a1), some (vR 5 a2), some (vI x1), none, none, none] [vI x3] M _ _
        try dsimp only
        refine s_step (g_istore (ls' := [some (vR 1 o), some (vI a1), some (vR 5 a2), some (vI x1), none, some (vI x3), none]) (iRow iCX0_strengthOf_2 2 rfl) (by decide) rfl) ?_
        refine s_step (g_aload_n (iRow iCX0_strengthOf_2 3 rfl) rfl rfl) ?_
        refine s_step (g_getR (iRow iCX0_strengthOf_2 4 rfl) f0_61 ko_1 (r_1_19 _ _)) ?_
        refine s_step (g_getR (iRow iCX0_strengthOf_2 5 rfl) f0_86 ko_3 (r_3_7 _ _)) ?_
        refine s_step (g_iconst (iRow iCX0_strengthOf_2 6 rfl) kc_2) ?_
        refine s_step (g_iload_n (iRow iCX0_strengthOf_2 7 rfl) rfl rfl) ?_
        refine s_step (g_imul (iRow iCX0_strengthOf_2 8 rfl)) ?_
        refine s_step (g_iload (iRow iCX0_strengthOf_2 9 rfl) rfl) ?_
        refine s_step (g_iadd (iRow iCX0_strengthOf_2 10 rfl)) ?_
        refine s_gi (fun h => g_iald (iRow iCX0_strengthOf_2 11 rfl) kn_38 ka_38 h) ?_
        refine s_step (g_aload_n (iRow iCX0_strengthOf_2 12 rfl) rfl rfl) ?_
        refine s_step (g_getI (iRow iCX0_strengthOf_2 13 rfl) f0_89 ko_5) ?_
        refine s_bd (fun z => LM G (d + 2) YX0_strengthOf Z 112 [some (vR 1 o), some (vI a1), some (vR 5 a2), some (vI x1), none, some (vI x3), none] [] z) ?_ ?_
        · refine s_if (g_icmp_eq (tgt := 112) (iRow iCX0_strengthOf_2 14 rfl) (by decide)) (fun _ => ?_) (fun _ => ?_)
          · exact s_end (fun h => h)
          · refine s_step (g_aload_n (iRow iCX0_strengthOf_2 15 rfl) rfl rfl) ?_
            refine s_step (g_getR (iRow iCX0_strengthOf_2 16 rfl) f0_61 ko_1 (r_1_19 _ _)) ?_
            refine s_step (g_aload_n (iRow iCX0_strengthOf_2 17 rfl) rfl rfl) ?_
            refine s_step (g_iload_n (iRow iCX0_strengthOf_2 18 rfl) rfl rfl) ?_
            refine s_step (g_aload_n (iRow iCX0_strengthOf_2 19 rfl) rfl rfl) ?_
            refine s_step (g_getI (iRow iCX0_strengthOf_2 20 rfl) f0_89 ko_5) ?_
            refine s_step (g_iload (iRow iCX0_strengthOf_2 21 rfl) rfl) ?_
            refine s_cv (stA := []) (fun _ h => h_V (As := [_, _, _, _]) (iRow iCX0_strengthOf_2 22 rfl) l0_92 iX2_note ko_3 rfl rfl rfl rfl (t_X2_note (d + 0) h) rfl (by omega) (by decide) (Nat.le_of_ble_eq_true rfl)) (fun M4 => ?_)
            exact s_end (fun h => h)
        · rintro M5
          show SW G (d + 2) YX0_strengthOf Z 112 [some (vR 1 o), some (vI a1), some (vR 5 a2), some (vI x1), none, some (vI x3), none] [] M5 _ _
          try dsimp only
          refine s_step (g_aload_n (iRow iCX0_strengthOf_2 23 rfl) rfl rfl) ?_
          refine s_step (g_getR (iRow iCX0_strengthOf_3 0 rfl) f0_61 ko_1 (r_1_19 _ _)) ?_
          refine s_step (g_getR (iRow iCX0_strengthOf_3 1 rfl) f0_96 ko_3 (r_3_6 _ _)) ?_
          refine s_step (g_iconst (iRow iCX0_strengthOf_3 2 rfl) kc_2) ?_
          refine s_step (g_iload_n (iRow iCX0_strengthOf_3 3 rfl) rfl rfl) ?_
          refine s_step (g_imul (iRow iCX0_strengthOf_3 4 rfl)) ?_
          refine s_step (g_iload (iRow iCX0_strengthOf_3 5 rfl) rfl) ?_
          refine s_step (g_iadd (iRow iCX0_strengthOf_3 6 rfl)) ?_
          refine s_gi (fun h => g_iald (iRow iCX0_strengthOf_3 7 rfl) kn_37 ka_37 h) ?_
          refine s_nmI (fun x6 => ?_)
          refine s_step (g_istore (ls' := [some (vR 1 o), some (vI a1), some (vR 5 a2), some (vI x1), none, some (vI x3), some (vI x6)]) (iRow iCX0_strengthOf_3 8 rfl) (by decide) rfl) ?_
          refine s_step (g_aload_n (iRow iCX0_strengthOf_3 9 rfl) rfl rfl) ?_
          refine s_step (g_getI (iRow iCX0_strengthOf_3 10 rfl) f0_99 ko_5) ?_
          refine s_step (g_iload_n (iRow iCX0_strengthOf_3 11 rfl) rfl rfl) ?_
          refine s_step (g_ishr (iRow iCX0_strengthOf_3 12 rfl)) ?_
          refine s_step (g_iconst (iRow iCX0_strengthOf_3 13 rfl) kc_1) ?_
          refine s_step (g_iand (iRow iCX0_strengthOf_3 14 rfl)) ?_
          refine s_bd (fun z => LM G (d + 2) YX0_strengthOf Z 154 [none, none, none, some (vI x1), none, none, some (vI z)] [] M5) ?_ ?_
          · refine s_if (g_if_eq (tgt := 154) (iRow iCX0_strengthOf_3 15 rfl) (by decide)) (fun _ => ?_) (fun _ => ?_)
            · refine s_step (g_keep [false, false, false, true, false, false, true] rfl) ?_
              exact s_end (fun h => h)
            · refine s_step (g_iload (iRow iCX0_strengthOf_3 16 rfl) rfl) ?_
              refine s_step (g_aload_n (iRow iCX0_strengthOf_3 17 rfl) rfl rfl) ?_
              refine s_step (g_getR (iRow iCX0_strengthOf_3 18 rfl) f0_61 ko_1 (r_1_19 _ _)) ?_
              refine s_step (g_getI (iRow iCX0_strengthOf_3 19 rfl) f0_102 ko_3) ?_
              refine s_step (g_imul (iRow iCX0_strengthOf_3 20 rfl)) ?_
              refine s_step (g_bipush (iRow iCX0_strengthOf_3 21 rfl) kb_10) ?_
              refine s_step (g_idiv (iRow iCX0_strengthOf_3 22 rfl) (by decide)) ?_
              refine s_nmI (fun x7 => ?_)
              refine s_step (g_istore (ls' := [some (vR 1 o), some (vI a1), some (vR 5 a2), some (vI x1), none, some (vI x3), some (vI x7)]) (iRow iCX0_strengthOf_3 23 rfl) (by decide) rfl) ?_
              refine s_step (g_keep [false, false, false, true, false, false, true] rfl) ?_
              exact s_end (fun h => h)
          · rintro x8
            show SW G (d + 2) YX0_strengthOf Z 154 [none, none, none, some (vI x1), none, none, some (vI x8)] [] M5 _ _
            try dsimp only
            refine s_step (g_iload_n (iRow iCX0_strengthOf_4 0 rfl) rfl rfl) ?_
            refine s_step (g_iconst (iRow iCX0_strengthOf_4 1 rfl) kc_m1) ?_
            refine s_ifn (g_icmp_ne (tgt := 164) (iRow iCX0_strengthOf_4 2 rfl) (by decide)) (fun _ => ?_) (fun _ => ?_)
            · refine s_step (g_iload (iRow iCX0_strengthOf_4 3 rfl) rfl) ?_
              refine s_step (g_goto (tgt := 168) (iRow iCX0_strengthOf_4 4 rfl) (by decide)) ?_
              exact s_reti (iRow iCX0_strengthOf_4 8 rfl) rfl
            · refine s_step (g_iload (iRow iCX0_strengthOf_4 5 rfl) rfl) ?_
              refine s_step (g_iconst (iRow iCX0_strengthOf_4 6 rfl) kc_5) ?_
              refine s_step (g_iadd (iRow iCX0_strengthOf_4 7 rfl)) ?_
              exact s_reti (iRow iCX0_strengthOf_4 8 rfl) rfl
    · refine s_if (g_icmp_eq (tgt := 38) (iRow iCX0_strengthOf_0 16 rfl) (by decide)) (fun _ => ?_) (fun _ => ?_)
      · exact hj38 _
      · refine s_step (g_aload_n (iRow iCX0_strengthOf_0 17 rfl) rfl rfl) ?_
        refine s_step (g_getI (iRow iCX0_strengthOf_0 18 rfl) f0_81 ko_5) ?_
        refine s_step (g_iload_n (iRow iCX0_strengthOf_0 19 rfl) rfl rfl) ?_
        refine s_step (g_ishr (iRow iCX0_strengthOf_0 20 rfl)) ?_
        refine s_step (g_iconst (iRow iCX0_strengthOf_0 21 rfl) kc_1) ?_
        refine s_step (g_iand (iRow iCX0_strengthOf_0 22 rfl)) ?_
        refine s_if (g_if_eq (tgt := 38) (iRow iCX0_strengthOf_0 23 rfl) (by decide)) (fun _ => ?_) (fun _ => ?_)
        · exact hj38 _
        · refine s_step (g_iconst (iRow iCX0_strengthOf_1 0 rfl) kc_0) ?_
          exact s_reti (iRow iCX0_strengthOf_1 1 rfl) rfl
  · refine s_step (g_iconst (iRow iCX0_strengthOf_0 7 rfl) kc_0) ?_
    exact s_reti (iRow iCX0_strengthOf_0 8 rfl) rfl
abbrev YX9_settle : mY := (RX9, "settle", cX9_settle, 7, none, none)
set_option maxHeartbeats 400000 in
set_option maxRecDepth 20000 in
theorem t_X9_settle {G : mg} {F : Nat} {a1 : Nat} {a2 : Int32} {M : mm} {M' : mm} (d : Nat) (h : m_X9_settle F a1 a2 M = some M') : CM G yX9_settle cX9_settle 7 none (d + 0) [vR 10 0, vR 1 a1, vI a2] M none M' := by
  refine ct_v (ls := [some (vR 10 0), some (vR 1 a1), some (vI a2), none, none, none, none]) rfl rfl (Nat.le_of_ble_eq_true rfl) (fun Z => ?_) h
  show SW G (d + 0) YX9_settle Z 0 [some (vR 10 0), some (vR 1 a1), some (vI a2), none, none, none, none] [] M _ _
  unfold m_X9_settle
  refine s_step (g_iconst (iRow iCX9_settle_0 0 rfl) kc_0) ?_
  refine s_step (g_istore_n (ls' := [some (vR 10 0), some (vR 1 a1), some (vI a2), some (vI (0 : Int32)), none, none, none]) (iRow iCX9_settle_0 1 rfl) rfl (by decide) rfl) ?_
  refine s_lp (fun z => [some (vR 10 0), some (vR 1 a1), some (vI a2), some (vI (z.1)), none, none, none]) (fun z => z.2) (fun z => LM G (d + 0) YX9_settle Z 83 [none, none, none, none, none, none, none] [] z) rfl rfl ?_ ?_
  · rintro ⟨x1, M2⟩
    show SW G (d + 0) YX9_settle Z 2 [some (vR 10 0), some (vR 1 a1), some (vI a2), some (vI x1), none, none, none] [] M2 (b_X9_settle_1c F a1 a2 x1 M2) _
    unfold b_X9_settle_1c
    refine s_step (g_iload_n (iRow iCX9_settle_0 2 rfl) rfl rfl) ?_
    refine s_step (g_aload_n (iRow iCX9_settle_0 3 rfl) rfl rfl) ?_
    refine s_step (g_getI (iRow iCX9_settle_0 4 rfl) f9_36 ko_1) ?_
    refine s_if (g_icmp_ge (tgt := 83) (iRow iCX9_settle_0 5 rfl) (by decide)) (fun _ => ?_) (fun _ => ?_)
    · refine s_step (g_keep [false, false, false, false, false, false, false] rfl) ?_
      exact s_end (fun h => h)
    · refine s_step (g_aload_n (iRow iCX9_settle_0 6 rfl) rfl rfl) ?_
      refine s_step (g_getR (iRow iCX9_settle_0 7 rfl) f9_42 ko_1 (r_1_17 _ _)) ?_
      refine s_step (g_iload_n (iRow iCX9_settle_0 8 rfl) rfl rfl) ?_
      refine s_gi (fun h => g_iald (iRow iCX9_settle_0 9 rfl) kn_33 ka_33 h) ?_
      refine s_nmI (fun x3 => ?_)
      refine s_step (g_istore (ls' := [some (vR 10 0), some (vR 1 a1), some (vI a2), some (vI x1), some (vI x3), none, none]) (iRow iCX9_settle_0 10 rfl) (by decide) rfl) ?_
      refine s_step (g_aload_n (iRow iCX9_settle_0 11 rfl) rfl rfl) ?_
      refine s_step (g_getR (iRow iCX9_settle_0 12 rfl) f9_45 ko_1 (r_1_18 _ _)) ?_
      refine s_step (g_iload_n (iRow iCX9_settle_0 13 rfl) rfl rfl) ?_
      refine s_gi (fun h => g_iald (iRow iCX9_settle_0 14 rfl) kn_34 ka_34 h) ?_
      refine s_step (g_iload_n (iRow iCX9_settle_0 15 rfl) rfl rfl) ?_
      refine s_step (g_iand (iRow iCX9_settle_0 16 rfl)) ?_
      refine s_nmI (fun x4 => ?_)
      refine s_step (g_istore (ls' := [some (vR 10 0), some (vR 1 a1), some (vI a2), some (vI x1), some (vI x3), some (vI x4), none]) (iRow iCX9_settle_0 17 rfl) (by decide) rfl) ?_
      refine s_step (g_iconst (iRow iCX9_settle_0 18 rfl) kc_0) ?_
      refine s_step (g_istore (ls' := [some (vR 10 0), some (vR 1 a1), some (vI a2), some (vI x1), some (vI x3), some (vI x4), some (vI (0 : Int32))]) (iRow iCX9_settle_0 19 rfl) (by decide) rfl) ?_
      refine s_lp (fun z => [some (vR 10 0), some (vR 1 a1), some (vI a2), some (vI x1), some (vI (z.1)), some (vI x4), some (vI (z.2))]) (fun _ => M2) (fun z => LM G (d + 0) YX9_settle Z 69 [some (vR 10 0), some (vR 1 a1), some (vI a2), some (vI x1), some (vI z), none, none] [] M2) rfl rfl ?_ ?_
      · rintro ⟨x5, x6⟩
        show SW G (d + 0) YX9_settle Z 31 [some (vR 10 0), some (vR 1 a1), some (vI a2), some (vI x1), some (vI x5), some (vI x4), some (vI x6)] [] M2 (b_X9_settle_2c F x1 x4 M2 x5 x6) _
        unfold b_X9_settle_2c
        refine s_step (g_iload (iRow iCX9_settle_0 20 rfl) rfl) ?_
        refine s_step (g_iload_n (iRow iCX9_settle_0 21 rfl) rfl rfl) ?_
        refine s_if (g_icmp_ge (tgt := 69) (iRow iCX9_settle_0 22 rfl) (by decide)) (fun _ => ?_) (fun _ => ?_)
        · refine s_step (g_keep [true, true, true, true, true, false, false] rfl) ?_
          exact s_end (fun h => h)
        · refine s_step (g_iload (iRow iCX9_settle_0 23 rfl) rfl) ?_
          refine s_step (g_iload (iRow iCX9_settle_1 0 rfl) rfl) ?_
          refine s_step (g_iload (iRow iCX9_settle_1 1 rfl) rfl) ?_
          refine s_step (g_ishr (iRow iCX9_settle_1 2 rfl)) ?_
          refine s_step (g_iconst (iRow iCX9_settle_1 3 rfl) kc_1) ?_
          refine s_step (g_iand (iRow iCX9_settle_1 4 rfl)) ?_
          refine s_bd (fun z => LM G (d + 0) YX9_settle Z 60 [some (vR 10 0), some (vR 1 a1), some (vI a2), some (vI x1), none, some (vI x4), some (vI x6)] [vI z, vI x5] M2) ?_ ?_
          · refine s_if (g_if_eq (tgt := 59) (iRow iCX9_settle_1 5 rfl) (by decide)) (fun _ => ?_) (fun _ => ?_)
            · refine s_step (g_iconst (iRow iCX9_settle_1 11 rfl) kc_0) ?_
              refine s_step (g_keep [true, true, true, true, false, true, true] rfl) ?_
              exact s_end (fun h => h)
            · refine s_step (g_aload_n (iRow iCX9_settle_1 6 rfl) rfl rfl) ?_
              refine s_step (g_getR (iRow iCX9_settle_1 7 rfl) f9_11 ko_10 (r_10_0 _ _)) ?_
              refine s_step (g_iload (iRow iCX9_settle_1 8 rfl) rfl) ?_
              refine s_gi (fun h => g_iald (iRow iCX9_settle_1 9 rfl) kn_47 ka_47 h) ?_
              refine s_step (g_goto (tgt := 60) (iRow iCX9_settle_1 10 rfl) (by decide)) ?_
              refine s_step (g_keep [true, true, true, true, false, true, true] rfl) ?_
              exact s_end (fun h => h)
          · rintro x7
            show SW G (d + 0) YX9_settle Z 60 [some (vR 10 0), some (vR 1 a1), some (vI a2), some (vI x1), none, some (vI x4), some (vI x6)] [vI x7, vI x5] M2 _ _
            try dsimp only
            refine s_step (g_ior (iRow iCX9_settle_1 12 rfl)) ?_
            refine s_nmI (fun x8 => ?_)
            refine s_step (g_istore (ls' := [some (vR 10 0), some (vR 1 a1), some (vI a2), some (vI x1), some (vI x8), some (vI x4), some (vI x6)]) (iRow iCX9_settle_1 13 rfl) (by decide) rfl) ?_
            refine s_step (g_iincc (c := 1) (ls' := [some (vR 10 0), some (vR 1 a1), some (vI a2), some (vI x1), some (vI x8), some (vI x4), some (vI (x6 + (1 : Int32)))]) (iRow iCX9_settle_1 14 rfl) rfl kc_1 (by decide) rfl) ?_
            refine s_step (g_goto (tgt := 31) (iRow iCX9_settle_1 15 rfl) (by decide)) ?_
            exact s_end (fun h => h)
      · rintro x9
        show SW G (d + 0) YX9_settle Z 69 [some (vR 10 0), some (vR 1 a1), some (vI a2), some (vI x1), some (vI x9), none, none] [] M2 _ _
        try dsimp only
        refine s_step (g_aload_n (iRow iCX9_settle_1 16 rfl) rfl rfl) ?_
        refine s_step (g_getR (iRow iCX9_settle_1 17 rfl) f9_11 ko_10 (r_10_0 _ _)) ?_
        refine s_step (g_iload_n (iRow iCX9_settle_1 18 rfl) rfl rfl) ?_
        refine s_step (g_iload (iRow iCX9_settle_1 19 rfl) rfl) ?_
        refine s_gi (fun h => g_iast (iRow iCX9_settle_1 20 rfl) kn_47 ka_47 h) ?_
        refine s_nmM (fun M10 => ?_)
        refine s_step (g_iincc (c := 1) (ls' := [some (vR 10 0), some (vR 1 a1), some (vI a2), some (vI (x1 + (1 : Int32))), some (vI x9), none, none]) (iRow iCX9_settle_1 21 rfl) rfl kc_1 (by decide) rfl) ?_
        refine s_step (g_goto (tgt := 2) (iRow iCX9_settle_1 22 rfl) (by decide)) ?_
        refine s_step (g_keep [true, true, true, true, false, false, false] rfl) ?_
        exact s_end (fun h => h)
  · rintro M11
    show SW G (d + 0) YX9_settle Z 83 [none, none, none, none, none, none, none] [] M11 _ _
    try dsimp only
    exact s_retv (iRow iCX9_settle_1 23 rfl) rfl
abbrev YX9_reach : mY := (RX9, "reach", cX9_reach, 6, (some .int), none)
set_option maxHeartbeats 400000 in
set_option maxRecDepth 20000 in
theorem t_X9_reach {G : mg} {F : Nat} {a1 : Int32} {a2 : Int32} {a3 : Int32} {M : mm} {x : Int32} {M' : mm} (d : Nat) (h : m_X9_reach F a1 a2 a3 M = some (x, M')) : CM G yX9_reach cX9_reach 6 (some .int) (d + 0) [vR 10 0, vI a1, vI a2, vI a3] M (some (vI x)) M' := by
  refine ct_i (ls := [some (vR 10 0), some (vI a1), some (vI a2), some (vI a3), none, none]) rfl rfl (Nat.le_of_ble_eq_true rfl) (fun Z => ?_) h
  show SW G (d + 0) YX9_reach Z 0 [some (vR 10 0), some (vI a1), some (vI a2), some (vI a3), none, none] [] M _ _
  unfold m_X9_reach
  refine s_step (g_iload_n (iRow iCX9_reach_0 0 rfl) rfl rfl) ?_
  refine s_step (g_istore (ls' := [some (vR 10 0), some (vI a1), some (vI a2), some (vI a3), some (vI a3), none]) (iRow iCX9_reach_0 1 rfl) (by decide) rfl) ?_
  refine s_step (g_iconst (iRow iCX9_reach_0 2 rfl) kc_0) ?_
  refine s_step (g_istore (ls' := [some (vR 10 0), some (vI a1), some (vI a2), some (vI a3), some (vI a3), some (vI (0 : Int32))]) (iRow iCX9_reach_0 3 rfl) (by decide) rfl) ?_
  refine s_step (g_keep [true, true, true, false, true, true] rfl) ?_
  refine s_lp (fun z => [some (vR 10 0), some (vI a1), some (vI a2), none, some (vI (z.1)), some (vI (z.2.1))]) (fun z => z.2.2) (fun z => LM G (d + 0) YX9_reach Z 64 [none, none, none, none, some (vI (z.1)), none] [] z.2) rfl rfl ?_ ?_
  · rintro ⟨x1, x2, M3⟩
    show SW G (d + 0) YX9_reach Z 6 [some (vR 10 0), some (vI a1), some (vI a2), none, some (vI x1), some (vI x2)] [] M3 (b_X9_reach_1c F a1 a2 x1 x2 M3) _
    unfold b_X9_reach_1c
    refine s_step (g_iload (iRow iCX9_reach_0 4 rfl) rfl) ?_
    refine s_step (g_bipush (iRow iCX9_reach_0 5 rfl) kb_10) ?_
    refine s_if (g_icmp_ge (tgt := 64) (iRow iCX9_reach_0 6 rfl) (by decide)) (fun _ => ?_) (fun _ => ?_)
    · refine s_step (g_keep [false, false, false, false, true, false] rfl) ?_
      exact s_end (fun h => h)
    · refine s_step (g_aload_n (iRow iCX9_reach_0 7 rfl) rfl rfl) ?_
      refine s_step (g_getR (iRow iCX9_reach_0 8 rfl) f9_11 ko_10 (r_10_0 _ _)) ?_
      refine s_step (g_iload_n (iRow iCX9_reach_0 9 rfl) rfl rfl) ?_
      refine s_gi (fun h => g_iald (iRow iCX9_reach_0 10 rfl) kn_47 ka_47 h) ?_
      refine s_step (g_iload_n (iRow iCX9_reach_0 11 rfl) rfl rfl) ?_
      refine s_step (g_iconst (iRow iCX9_reach_0 12 rfl) kc_m1) ?_
      refine s_step (g_ixor (iRow iCX9_reach_0 13 rfl)) ?_
      refine s_step (g_iand (iRow iCX9_reach_0 14 rfl)) ?_
      refine s_step (g_iconst (iRow iCX9_reach_0 15 rfl) kc_1) ?_
      refine s_step (g_iload (iRow iCX9_reach_0 16 rfl) rfl) ?_
      refine s_step (g_ishl (iRow iCX9_reach_0 17 rfl)) ?_
      refine s_step (g_iand (iRow iCX9_reach_0 18 rfl)) ?_
      refine s_bd (fun z => LM G (d + 0) YX9_reach Z 58 [some (vR 10 0), some (vI a1), some (vI a2), none, some (vI (z.1)), some (vI x2)] [] z.2) ?_ ?_
      · refine s_if (g_if_eq (tgt := 58) (iRow iCX9_reach_0 19 rfl) (by decide)) (fun _ => ?_) (fun _ => ?_)
        · exact s_end (fun h => h)
        · refine s_step (g_iload (iRow iCX9_reach_0 20 rfl) rfl) ?_
          refine s_step (g_bipush (iRow iCX9_reach_0 21 rfl) kb_10) ?_
          refine s_if (g_icmp_ge (tgt := 58) (iRow iCX9_reach_0 22 rfl) (by decide)) (fun _ => ?_) (fun _ => ?_)
          · exact s_end (fun h => h)
          · refine s_step (g_aload_n (iRow iCX9_reach_0 23 rfl) rfl rfl) ?_
            refine s_step (g_getR (iRow iCX9_reach_1 0 rfl) f9_27 ko_10 (r_10_7 _ _)) ?_
            refine s_step (g_iload (iRow iCX9_reach_1 1 rfl) rfl) ?_
            refine s_step (g_iload (iRow iCX9_reach_1 2 rfl) rfl) ?_
            refine s_gi (fun h => g_iast (iRow iCX9_reach_1 3 rfl) kn_52 ka_52 h) ?_
            refine s_nmM (fun M4 => ?_)
            refine s_step (g_aload_n (iRow iCX9_reach_1 4 rfl) rfl rfl) ?_
            refine s_step (g_getR (iRow iCX9_reach_1 5 rfl) f9_30 ko_10 (r_10_8 _ _)) ?_
            refine s_step (g_iload (iRow iCX9_reach_1 6 rfl) rfl) ?_
            refine s_step (g_iload_n (iRow iCX9_reach_1 7 rfl) rfl rfl) ?_
            refine s_gi (fun h => g_iast (iRow iCX9_reach_1 8 rfl) kn_53 ka_53 h) ?_
            refine s_nmM (fun M5 => ?_)
            refine s_step (g_iincc (c := 1) (ls' := [some (vR 10 0), some (vI a1), some (vI a2), none, some (vI (x1 + (1 : Int32))), some (vI x2)]) (iRow iCX9_reach_1 9 rfl) rfl kc_1 (by decide) rfl) ?_
            exact s_end (fun h => h)
      · rintro ⟨x6, M7⟩
        show SW G (d + 0) YX9_reach Z 58 [some (vR 10 0), some (vI a1), some (vI a2), none, some (vI x6), some (vI x2)] [] M7 _ _
        try dsimp only
        refine s_step (g_iincc (c := 1) (ls' := [some (vR 10 0), some (vI a1), some (vI a2), none, some (vI x6), some (vI (x2 + (1 : Int32)))]) (iRow iCX9_reach_1 10 rfl) rfl kc_1 (by decide) rfl) ?_
        refine s_step (g_goto (tgt := 6) (iRow iCX9_reach_1 11 rfl) (by decide)) ?_
        exact s_end (fun h => h)
  · rintro ⟨x8, M9⟩
    show SW G (d + 0) YX9_reach Z 64 [none, none, none, none, some (vI x8), none] [] M9 _ _
    try dsimp only
    refine s_step (g_iload (iRow iCX9_reach_1 12 rfl) rfl) ?_
    exact s_reti (iRow iCX9_reach_1 13 rfl) rfl
abbrev YX9_moveOver : mY := (RX9, "moveOver", cX9_moveOver, 9, (some .int), none)
set_option maxHeartbeats 400000 in
set_option maxRecDepth 20000 in
theorem t_X9_moveOver {G : mg} {F : Nat} {a1 : Int32} {a2 : Int32} {a3 : Int32} {M : mm} {x : Int32} {M' : mm} (d : Nat) (h : m_X9_moveOver F a1 a2 a3 M = some (x, M')) : CM G yX9_moveOver cX9_moveOver 9 (some .int) (d + 0) [vR 10 0, vI a1, vI a2, vI a3] M (some (vI x)) M' := by
  refine ct_i (ls := [some (vR 10 0), some (vI a1), some (vI a2), some (vI a3), none, none, none, none, none]) rfl rfl (Nat.le_of_ble_eq_true rfl) (fun Z => ?_) h
  show SW G (d + 0) YX9_moveOver Z 0 [some (vR 10 0), some (vI a1), some (vI a2), some (vI a3), none, none, none, none, none] [] M _ _
  unfold m_X9_moveOver
  refine s_step (g_iload_n (iRow iCX9_moveOver_0 0 rfl) rfl rfl) ?_
  refine s_step (g_aload_n (iRow iCX9_moveOver_0 1 rfl) rfl rfl) ?_
  refine s_step (g_getR (iRow iCX9_moveOver_0 2 rfl) f9_15 ko_10 (r_10_1 _ _)) ?_
  refine s_step (g_iload_n (iRow iCX9_moveOver_0 3 rfl) rfl rfl) ?_
  refine s_gi (fun h => g_iald (iRow iCX9_moveOver_0 4 rfl) kn_48 ka_48 h) ?_
  refine s_bd (fun z => LM G (d + 0) YX9_moveOver Z 20 [some (vR 10 0), some (vI a1), some (vI a2), none, none, none, none, none, none] [vI z] M) ?_ ?_
  · refine s_if (g_icmp_ge (tgt := 14) (iRow iCX9_moveOver_0 5 rfl) (by decide)) (fun _ => ?_) (fun _ => ?_)
    · refine s_step (g_aload_n (iRow iCX9_moveOver_0 8 rfl) rfl rfl) ?_
      refine s_step (g_getR (iRow iCX9_moveOver_0 9 rfl) f9_15 ko_10 (r_10_1 _ _)) ?_
      refine s_step (g_iload_n (iRow iCX9_moveOver_0 10 rfl) rfl rfl) ?_
      refine s_gi (fun h => g_iald (iRow iCX9_moveOver_0 11 rfl) kn_48 ka_48 h) ?_
      refine s_step (g_keep [true, true, true, false, false, false, false, false, false] rfl) ?_
      exact s_end (fun h => h)
    · refine s_step (g_iload_n (iRow iCX9_moveOver_0 6 rfl) rfl rfl) ?_
      refine s_step (g_goto (tgt := 20) (iRow iCX9_moveOver_0 7 rfl) (by decide)) ?_
      refine s_step (g_keep [true, true, true, false, false, false, false, false, false] rfl) ?_
      exact s_end (fun h => h)
  · rintro x1
    show SW G (d + 0) YX9_moveOver Z 20 [some (vR 10 0), some (vI a1), some (vI a2), none, none, none, none, none, none] [vI x1] M _ _
    try dsimp only
    refine s_step (g_istore (ls' := [some (vR 10 0), some (vI a1), some (vI a2), none, some (vI x1), none, none, none, none]) (iRow iCX9_moveOver_0 12 rfl) (by decide) rfl) ?_
    refine s_step (g_iload_n (iRow iCX9_moveOver_0 13 rfl) rfl rfl) ?_
    refine s_step (g_istore (ls' := [some (vR 10 0), some (vI a1), some (vI a2), none, some (vI x1), some (vI a2), none, none, none]) (iRow iCX9_moveOver_0 14 rfl) (by decide) rfl) ?_
    refine s_step (g_iconst (iRow iCX9_moveOver_0 15 rfl) kc_0) ?_
    refine s_step (g_istore (ls' := [some (vR 10 0), some (vI a1), some (vI a2), none, some (vI x1), some (vI a2), some (vI (0 : Int32)), none, none]) (iRow iCX9_moveOver_0 16 rfl) (by decide) rfl) ?_
    refine s_lp (fun z => [some (vR 10 0), some (vI a1), some (vI a2), none, some (vI (z.1)), some (vI (z.2.1)), some (vI (z.2.2)), none, none]) (fun _ => M) (fun z => LM G (d + 0) YX9_moveOver Z 101 [some (vR 10 0), some (vI a1), some (vI a2), none, some (vI z), none, none, none, none] [] M) rfl rfl ?_ ?_
    · rintro ⟨x2, x3, x4⟩
      show SW G (d + 0) YX9_moveOver Z 28 [some (vR 10 0), some (vI a1), some (vI a2), none, some (vI x2), some (vI x3), some (vI x4), none, none] [] M (b_X9_moveOver_1c F a1 M x2 x3 x4) _
      unfold b_X9_moveOver_1c
      refine s_step (g_iload (iRow iCX9_moveOver_0 17 rfl) rfl) ?_
      refine s_step (g_bipush (iRow iCX9_moveOver_0 18 rfl) kb_11) ?_
      refine s_if (g_icmp_ge (tgt := 101) (iRow iCX9_moveOver_0 19 rfl) (by decide)) (fun _ => ?_) (fun _ => ?_)
      · refine s_step (g_keep [true, true, true, false, true, false, false, false, false] rfl) ?_
        exact s_end (fun h => h)
      · refine s_step (g_aload_n (iRow iCX9_moveOver_0 20 rfl) rfl rfl) ?_
        refine s_step (g_getR (iRow iCX9_moveOver_0 21 rfl) f9_30 ko_10 (r_10_8 _ _)) ?_
        refine s_step (g_iload (iRow iCX9_moveOver_0 22 rfl) rfl) ?_
        refine s_gi (fun h => g_iald (iRow iCX9_moveOver_0 23 rfl) kn_53 ka_53 h) ?_
        refine s_step (g_iload_n (iRow iCX9_moveOver_1 0 rfl) rfl rfl) ?_
        refine s_if (g_icmp_eq (tgt := 101) (iRow iCX9_moveOver_1 1 rfl) (by decide)) (fun _ => ?_) (fun _ => ?_)
        · refine s_step (g_keep [true, true, true, false, true, false, false, false, false] rfl) ?_
          exact s_end (fun h => h)
        · refine s_step (g_aload_n (iRow iCX9_moveOver_1 2 rfl) rfl rfl) ?_
          refine s_step (g_getR (iRow iCX9_moveOver_1 3 rfl) f9_30 ko_10 (r_10_8 _ _)) ?_
          refine s_step (g_iload (iRow iCX9_moveOver_1 4 rfl) rfl) ?_
          refine s_gi (fun h => g_iald (iRow iCX9_moveOver_1 5 rfl) kn_53 ka_53 h) ?_
          refine s_nmI (fun x5 => ?_)
          refine s_step (g_istore (ls' := [some (vR 10 0), some (vI a1), some (vI a2), none, some (vI x2), some (vI x3), some (vI x4), some (vI x5), none]) (iRow iCX9_moveOver_1 6 rfl) (by decide) rfl) ?_
          refine s_step (g_aload_n (iRow iCX9_moveOver_1 7 rfl) rfl rfl) ?_
          refine s_step (g_getR (iRow iCX9_moveOver_1 8 rfl) f9_33 ko_10 (r_10_9 _ _)) ?_
          refine s_step (g_iload (iRow iCX9_moveOver_1 9 rfl) rfl) ?_
          refine s_gi (fun h => g_iald (iRow iCX9_moveOver_1 10 rfl) kn_54 ka_54 h) ?_
          refine s_nmI (fun x6 => ?_)
          refine s_step (g_istore (ls' := [some (vR 10 0), some (vI a1), some (vI a2), none, some (vI x2), some (vI x6), some (vI x4), some (vI x5), none]) (iRow iCX9_moveOver_1 11 rfl) (by decide) rfl) ?_
          refine s_step (g_aload_n (iRow iCX9_moveOver_1 12 rfl) rfl rfl) ?_
          refine s_step (g_getR (iRow iCX9_moveOver_1 13 rfl) f9_18 ko_10 (r_10_2 _ _)) ?_
          refine s_step (g_iload (iRow iCX9_moveOver_1 14 rfl) rfl) ?_
          refine s_step (g_bipush (iRow iCX9_moveOver_1 15 rfl) kb_10) ?_
          refine s_step (g_imul (iRow iCX9_moveOver_1 16 rfl)) ?_
          refine s_step (g_iload (iRow iCX9_moveOver_1 17 rfl) rfl) ?_
          refine s_step (g_iadd (iRow iCX9_moveOver_1 18 rfl)) ?_
          refine s_gi (fun h => g_iald (iRow iCX9_moveOver_1 19 rfl) kn_49 ka_49 h) ?_
          refine s_nmI (fun x7 => ?_)
          refine s_step (g_istore (ls' := [some (vR 10 0), some (vI a1), some (vI a2), none, some (vI x2), some (vI x6), some (vI x4), some (vI x5), some (vI x7)]) (iRow iCX9_moveOver_1 20 rfl) (by decide) rfl) ?_
          refine s_step (g_iload (iRow iCX9_moveOver_1 21 rfl) rfl) ?_
          refine s_step (g_iload (iRow iCX9_moveOver_1 22 rfl) rfl) ?_
          refine s_bd (fun z => LM G (d + 0) YX9_moveOver Z 93 [some (vR 10 0), some (vI a1), some (vI a2), none, none, some (vI x6), some (vI x4), none, none] [vI z] M) ?_ ?_
          · refine s_if (g_icmp_ge (tgt := 91) (iRow iCX9_moveOver_1 23 rfl) (by decide)) (fun _ => ?_) (fun _ => ?_)
            · refine s_step (g_iload (iRow iCX9_moveOver_2 2 rfl) rfl) ?_
              refine s_step (g_keep [true, true, true, false, false, true, true, false, false] rfl) ?_
              exact s_end (fun h => h)
            · refine s_step (g_iload (iRow iCX9_moveOver_2 0 rfl) rfl) ?_
              refine s_step (g_goto (tgt := 93) (iRow iCX9_moveOver_2 1 rfl) (by decide)) ?_
              refine s_step (g_keep [true, true, true, false, false, true, true, false, false] rfl) ?_
              exact s_end (fun h => h)
          · rintro x8
            show SW G (d + 0) YX9_moveOver Z 93 [some (vR 10 0), some (vI a1), some (vI a2), none, none, some (vI x6), some (vI x4), none, none] [vI x8] M _ _
            try dsimp only
            refine s_step (g_istore (ls' := [some (vR 10 0), some (vI a1), some (vI a2), none, some (vI x8), some (vI x6), some (vI x4), none, none]) (iRow iCX9_moveOver_2 3 rfl) (by decide) rfl) ?_
            refine s_step (g_iincc (c := 1) (ls' := [some (vR 10 0), some (vI a1), some (vI a2), none, some (vI x8), some (vI x6), some (vI (x4 + (1 : Int32))), none, none]) (iRow iCX9_moveOver_2 4 rfl) rfl kc_1 (by decide) rfl) ?_
            refine s_step (g_goto (tgt := 28) (iRow iCX9_moveOver_2 5 rfl) (by decide)) ?_
            exact s_end (fun h => h)
    · rintro x9
      show SW G (d + 0) YX9_moveOver Z 101 [some (vR 10 0), some (vI a1), some (vI a2), none, some (vI x9), none, none, none, none] [] M _ _
      try dsimp only
      refine s_step (g_aload_n (iRow iCX9_moveOver_2 6 rfl) rfl rfl) ?_
      refine s_step (g_getR (iRow iCX9_moveOver_2 7 rfl) f9_15 ko_10 (r_10_1 _ _)) ?_
      refine s_step (g_iload_n (iRow iCX9_moveOver_2 8 rfl) rfl rfl) ?_
      refine s_step (g_dup2 (iRow iCX9_moveOver_2 9 rfl) rfl rfl) ?_
      refine s_gi (fun h => g_iald (iRow iCX9_moveOver_2 10 rfl) kn_48 ka_48 h) ?_
      refine s_step (g_iload (iRow iCX9_moveOver_2 11 rfl) rfl) ?_
      refine s_step (g_isub (iRow iCX9_moveOver_2 12 rfl)) ?_
      refine s_gi (fun h => g_iast (iRow iCX9_moveOver_2 13 rfl) kn_48 ka_48 h) ?_
      refine s_nmM (fun M10 => ?_)
      refine s_step (g_iload_n (iRow iCX9_moveOver_2 14 rfl) rfl rfl) ?_
      refine s_step (g_istore (ls' := [some (vR 10 0), some (vI a1), some (vI a2), none, some (vI x9), some (vI a2), none, none, none]) (iRow iCX9_moveOver_2 15 rfl) (by decide) rfl) ?_
      refine s_step (g_iconst (iRow iCX9_moveOver_2 16 rfl) kc_0) ?_
      refine s_step (g_istore (ls' := [some (vR 10 0), some (vI a1), some (vI a2), none, some (vI x9), some (vI a2), some (vI (0 : Int32)), none, none]) (iRow iCX9_moveOver_2 17 rfl) (by decide) rfl) ?_
      refine s_step (g_keep [true, true, false, false, true, true, true, false, false] rfl) ?_
      refine s_lp (fun z => [some (vR 10 0), some (vI a1), none, none, some (vI x9), some (vI (z.1)), some (vI (z.2.1)), none, none]) (fun z => z.2.2) (fun z => LM G (d + 0) YX9_moveOver Z 196 [some (vR 10 0), some (vI a1), none, none, some (vI x9), some (vI (z.1)), none, none, none] [] z.2) rfl rfl ?_ ?_
      · rintro ⟨x11, x12, M13⟩
        show SW G (d + 0) YX9_moveOver Z 118 [some (vR 10 0), some (vI a1), none, none, some (vI x9), some (vI x11), some (vI x12), none, none] [] M13 (b_X9_moveOver_2c F a1 x9 x11 x12 M13) _
        unfold b_X9_moveOver_2c
        refine s_step (g_iload (iRow iCX9_moveOver_2 18 rfl) rfl) ?_
        refine s_step (g_bipush (iRow iCX9_moveOver_2 19 rfl) kb_11) ?_
        refine s_if (g_icmp_ge (tgt := 196) (iRow iCX9_moveOver_2 20 rfl) (by decide)) (fun _ => ?_) (fun _ => ?_)
        · refine s_step (g_keep [true, true, false, false, true, true, false, false, false] rfl) ?_
          exact s_end (fun h => h)
        · refine s_step (g_aload_n (iRow iCX9_moveOver_2 21 rfl) rfl rfl) ?_
          refine s_step (g_getR (iRow iCX9_moveOver_2 22 rfl) f9_30 ko_10 (r_10_8 _ _)) ?_
          refine s_step (g_iload (iRow iCX9_moveOver_2 23 rfl) rfl) ?_
          refine s_gi (fun h => g_iald (iRow iCX9_moveOver_3 0 rfl) kn_53 ka_53 h) ?_
          refine s_step (g_iload_n (iRow iCX9_moveOver_3 1 rfl) rfl rfl) ?_
          refine s_if (g_icmp_eq (tgt := 196) (iRow iCX9_moveOver_3 2 rfl) (by decide)) (fun _ => ?_) (fun _ => ?_)
          · refine s_step (g_keep [true, true, false, false, true, true, false, false, false] rfl) ?_
            exact s_end (fun h => h)
          · refine s_step (g_aload_n (iRow iCX9_moveOver_3 3 rfl) rfl rfl) ?_
            refine s_step (g_getR (iRow iCX9_moveOver_3 4 rfl) f9_30 ko_10 (r_10_8 _ _)) ?_
            refine s_step (g_iload (iRow iCX9_moveOver_3 5 rfl) rfl) ?_
            refine s_gi (fun h => g_iald (iRow iCX9_moveOver_3 6 rfl) kn_53 ka_53 h) ?_
            refine s_nmI (fun x14 => ?_)
            refine s_step (g_istore (ls' := [some (vR 10 0), some (vI a1), none, none, some (vI x9), some (vI x11), some (vI x12), some (vI x14), none]) (iRow iCX9_moveOver_3 7 rfl) (by decide) rfl) ?_
            refine s_step (g_aload_n (iRow iCX9_moveOver_3 8 rfl) rfl rfl) ?_
            refine s_step (g_getR (iRow iCX9_moveOver_3 9 rfl) f9_18 ko_10 (r_10_2 _ _)) ?_
            refine s_step (g_iload (iRow iCX9_moveOver_3 10 rfl) rfl) ?_
            refine s_step (g_bipush (iRow iCX9_moveOver_3 11 rfl) kb_10) ?_
            refine s_step (g_imul (iRow iCX9_moveOver_3 12 rfl)) ?_
            refine s_step (g_iload (iRow iCX9_moveOver_3 13 rfl) rfl) ?_
            refine s_step (g_iadd (iRow iCX9_moveOver_3 14 rfl)) ?_
            refine s_step (g_dup2 (iRow iCX9_moveOver_3 15 rfl) rfl rfl) ?_
            refine s_gi (fun h => g_iald (iRow iCX9_moveOver_3 16 rfl) kn_49 ka_49 h) ?_
            refine s_step (g_iload (iRow iCX9_moveOver_3 17 rfl) rfl) ?_
            refine s_step (g_iadd (iRow iCX9_moveOver_3 18 rfl)) ?_
            refine s_gi (fun h => g_iast (iRow iCX9_moveOver_3 19 rfl) kn_49 ka_49 h) ?_
            refine s_nmM (fun M15 => ?_)
            refine s_step (g_aload_n (iRow iCX9_moveOver_3 20 rfl) rfl rfl) ?_
            refine s_step (g_getR (iRow iCX9_moveOver_3 21 rfl) f9_33 ko_10 (r_10_9 _ _)) ?_
            refine s_step (g_iload (iRow iCX9_moveOver_3 22 rfl) rfl) ?_
            refine s_gi (fun h => g_iald (iRow iCX9_moveOver_3 23 rfl) kn_54 ka_54 h) ?_
            refine s_nmI (fun x16 => ?_)
            refine s_step (g_istore (ls' := [some (vR 10 0), some (vI a1), none, none, some (vI x9), some (vI x16), some (vI x12), some (vI x14), none]) (iRow iCX9_moveOver_4 0 rfl) (by decide) rfl) ?_
            refine s_step (g_aload_n (iRow iCX9_moveOver_4 1 rfl) rfl rfl) ?_
            refine s_step (g_getR (iRow iCX9_moveOver_4 2 rfl) f9_18 ko_10 (r_10_2 _ _)) ?_
            refine s_step (g_iload (iRow iCX9_moveOver_4 3 rfl) rfl) ?_
            refine s_step (g_bipush (iRow iCX9_moveOver_4 4 rfl) kb_10) ?_
            refine s_step (g_imul (iRow iCX9_moveOver_4 5 rfl)) ?_
            refine s_step (g_iload (iRow iCX9_moveOver_4 6 rfl) rfl) ?_
            refine s_step (g_iadd (iRow iCX9_moveOver_4 7 rfl)) ?_
            refine s_step (g_dup2 (iRow iCX9_moveOver_4 8 rfl) rfl rfl) ?_
            refine s_gi (fun h => g_iald (iRow iCX9_moveOver_4 9 rfl) kn_49 ka_49 h) ?_
            refine s_step (g_iload (iRow iCX9_moveOver_4 10 rfl) rfl) ?_
            refine s_step (g_isub (iRow iCX9_moveOver_4 11 rfl)) ?_
            refine s_gi (fun h => g_iast (iRow iCX9_moveOver_4 12 rfl) kn_49 ka_49 h) ?_
            refine s_nmM (fun M17 => ?_)
            refine s_step (g_iincc (c := 1) (ls' := [some (vR 10 0), some (vI a1), none, none, some (vI x9), some (vI x16), some (vI (x12 + (1 : Int32))), some (vI x14), none]) (iRow iCX9_moveOver_4 13 rfl) rfl kc_1 (by decide) rfl) ?_
            refine s_step (g_goto (tgt := 118) (iRow iCX9_moveOver_4 14 rfl) (by decide)) ?_
            refine s_step (g_keep [true, true, false, false, true, true, true, false, false] rfl) ?_
            exact s_end (fun h => h)
      · rintro ⟨x18, M19⟩
        show SW G (d + 0) YX9_moveOver Z 196 [some (vR 10 0), some (vI a1), none, none, some (vI x9), some (vI x18), none, none, none] [] M19 _ _
        try dsimp only
        refine s_step (g_aload_n (iRow iCX9_moveOver_4 15 rfl) rfl rfl) ?_
        refine s_step (g_getR (iRow iCX9_moveOver_4 16 rfl) f9_18 ko_10 (r_10_2 _ _)) ?_
        refine s_step (g_iload_n (iRow iCX9_moveOver_4 17 rfl) rfl rfl) ?_
        refine s_step (g_bipush (iRow iCX9_moveOver_4 18 rfl) kb_10) ?_
        refine s_step (g_imul (iRow iCX9_moveOver_4 19 rfl)) ?_
        refine s_step (g_iload (iRow iCX9_moveOver_4 20 rfl) rfl) ?_
        refine s_step (g_iadd (iRow iCX9_moveOver_4 21 rfl)) ?_
        refine s_step (g_dup2 (iRow iCX9_moveOver_4 22 rfl) rfl rfl) ?_
        refine s_gi (fun h => g_iald (iRow iCX9_moveOver_4 23 rfl) kn_49 ka_49 h) ?_
        refine s_step (g_iload (iRow iCX9_moveOver_5 0 rfl) rfl) ?_
        refine s_step (g_iadd (iRow iCX9_moveOver_5 1 rfl)) ?_
        refine s_gi (fun h => g_iast (iRow iCX9_moveOver_5 2 rfl) kn_49 ka_49 h) ?_
        refine s_nmM (fun M20 => ?_)
        refine s_step (g_iload (iRow iCX9_moveOver_5 3 rfl) rfl) ?_
        exact s_reti (iRow iCX9_moveOver_5 4 rfl) rfl
abbrev YX9_makeRoom : mY := (RX9, "makeRoom", cX9_makeRoom, 9, (some .int), none)
set_option maxHeartbeats 400000 in
set_option maxRecDepth 20000 in
theorem t_X9_makeRoom {G : mg} {F : Nat} {a1 : Int32} {a2 : Int32} {M : mm} {x : Int32} {M' : mm} (d : Nat) (h : m_X9_makeRoom F a1 a2 M = some (x, M')) : CM G yX9_makeRoom cX9_makeRoom 9 (some .int) (d + 1) [vR 10 0, vI a1, vI a2] M (some (vI x)) M' := by
  refine ct_i (ls := [some (vR 10 0), some (vI a1), some (vI a2), none, none, none, none, none, none]) rfl rfl (Nat.le_of_ble_eq_true rfl) (fun Z => ?_) h
  show SW G (d + 1) YX9_makeRoom Z 0 [some (vR 10 0), some (vI a1), some (vI a2), none, none, none, none, none, none] [] M _ _
  unfold m_X9_makeRoom
  refine s_step (g_aload_n (iRow iCX9_makeRoom_0 0 rfl) rfl rfl) ?_
  refine s_step (g_iload_n (iRow iCX9_makeRoom_0 1 rfl) rfl rfl) ?_
  refine s_step (g_iconst (iRow iCX9_makeRoom_0 2 rfl) kc_0) ?_
  refine s_step (g_iconst (iRow iCX9_makeRoom_0 3 rfl) kc_0) ?_
  refine s_cl (sf := fun x => vI x :: []) (fun _ _ h => h_V (As := [_, _, _]) (iRow iCX9_makeRoom_0 4 rfl) l9_90 iX9_reach ko_10 rfl rfl rfl rfl (t_X9_reach (d + 0) h) rfl (by omega) (by decide) (Nat.le_of_ble_eq_true rfl)) (fun x2 M1 => ?_)
  refine s_step (g_istore_n (ls' := [some (vR 10 0), some (vI a1), some (vI a2), some (vI x2), none, none, none, none, none]) (iRow iCX9_makeRoom_0 5 rfl) rfl (by decide) rfl) ?_
  refine s_step (g_aload_n (iRow iCX9_makeRoom_0 6 rfl) rfl rfl) ?_
  refine s_step (g_getR (iRow iCX9_makeRoom_0 7 rfl) f9_11 ko_10 (r_10_0 _ _)) ?_
  refine s_step (g_iload_n (iRow iCX9_makeRoom_0 8 rfl) rfl rfl) ?_
  refine s_gi (fun h => g_iald (iRow iCX9_makeRoom_0 9 rfl) kn_47 ka_47 h) ?_
  refine s_nmI (fun x3 => ?_)
  refine s_step (g_istore (ls' := [some (vR 10 0), some (vI a1), some (vI a2), some (vI x2), some (vI x3), none, none, none, none]) (iRow iCX9_makeRoom_0 10 rfl) (by decide) rfl) ?_
  refine s_step (g_iconst (iRow iCX9_makeRoom_0 11 rfl) kc_1) ?_
  refine s_step (g_iload_n (iRow iCX9_makeRoom_0 12 rfl) rfl rfl) ?_
  refine s_step (g_ishl (iRow iCX9_makeRoom_0 13 rfl)) ?_
  refine s_nmI (fun x4 => ?_)
  refine s_step (g_istore (ls' := [some (vR 10 0), some (vI a1), some (vI a2), some (vI x2), some (vI x3), some (vI x4), none, none, none]) (iRow iCX9_makeRoom_0 14 rfl) (by decide) rfl) ?_
  refine s_step (g_iconst (iRow iCX9_makeRoom_0 15 rfl) kc_0) ?_
  refine s_step (g_istore (ls' := [some (vR 10 0), some (vI a1), some (vI a2), some (vI x2), some (vI x3), some (vI x4), some (vI (0 : Int32)), none, none]) (iRow iCX9_makeRoom_0 16 rfl) (by decide) rfl) ?_
  refine s_lp (fun z => [some (vR 10 0), some (vI a1), some (vI a2), some (vI (z.1)), some (vI (z.2.1)), some (vI (z.2.2.1)), some (vI (z.2.2.2.1)), none, none]) (fun z => z.2.2.2.2) (Sum.elim (fun z => LM G (d + 1) YX9_makeRoom Z 56 [some (vR 10 0), some (vI a1), some (vI a2), none, none, none, none, some (vI (z.1)), none] [] z.2) (fun z => LM G (d + 1) YX9_makeRoom Z 160 [none, none, none, none, none, none, none, none, none] [] z)) rfl rfl ?_ ?_
  · rintro ⟨x5, x6, x7, x8, M9⟩
    show SW G (d + 1) YX9_makeRoom Z 24 [some (vR 10 0), some (vI a1), some (vI a2), some (vI x5), some (vI x6), some (vI x7), some (vI x8), none, none] [] M9 (b_X9_makeRoom_1c F x5 x6 x7 x8 M9) _
    unfold b_X9_makeRoom_1c
    refine s_step (g_iload (iRow iCX9_makeRoom_0 17 rfl) rfl) ?_
    refine s_step (g_iload_n (iRow iCX9_makeRoom_0 18 rfl) rfl rfl) ?_
    refine s_if (g_icmp_ge (tgt := 160) (iRow iCX9_makeRoom_0 19 rfl) (by decide)) (fun _ => ?_) (fun _ => ?_)
    · refine s_step (g_keep [false, false, false, false, false, false, false, false, false] rfl) ?_
      exact s_end (fun h => h)
    · refine s_step (g_iload (iRow iCX9_makeRoom_0 20 rfl) rfl) ?_
      refine s_step (g_bipush (iRow iCX9_makeRoom_0 21 rfl) kb_10) ?_
      refine s_if (g_icmp_ge (tgt := 160) (iRow iCX9_makeRoom_0 22 rfl) (by decide)) (fun _ => ?_) (fun _ => ?_)
      · refine s_step (g_keep [false, false, false, false, false, false, false, false, false] rfl) ?_
        exact s_end (fun h => h)
      · refine s_step (g_aload_n (iRow iCX9_makeRoom_0 23 rfl) rfl rfl) ?_
        refine s_step (g_getR (iRow iCX9_makeRoom_1 0 rfl) f9_27 ko_10 (r_10_7 _ _)) ?_
        refine s_step (g_iload (iRow iCX9_makeRoom_1 1 rfl) rfl) ?_
        refine s_gi (fun h => g_iald (iRow iCX9_makeRoom_1 2 rfl) kn_52 ka_52 h) ?_
        refine s_nmI (fun x10 => ?_)
        refine s_step (g_istore (ls' := [some (vR 10 0), some (vI a1), some (vI a2), some (vI x5), some (vI x6), some (vI x7), some (vI x8), some (vI x10), none]) (iRow iCX9_makeRoom_1 3 rfl) (by decide) rfl) ?_
        refine s_step (g_aload_n (iRow iCX9_makeRoom_1 4 rfl) rfl rfl) ?_
        refine s_step (g_getR (iRow iCX9_makeRoom_1 5 rfl) f9_15 ko_10 (r_10_1 _ _)) ?_
        refine s_step (g_iload (iRow iCX9_makeRoom_1 6 rfl) rfl) ?_
        refine s_gi (fun h => g_iald (iRow iCX9_makeRoom_1 7 rfl) kn_48 ka_48 h) ?_
        refine s_if (g_if_le (tgt := 65) (iRow iCX9_makeRoom_1 8 rfl) (by decide)) (fun _ => ?_) (fun _ => ?_)
        · refine s_step (g_iconst (iRow iCX9_makeRoom_1 15 rfl) kc_0) ?_
          refine s_step (g_istore (ls' := [some (vR 10 0), some (vI a1), some (vI a2), some (vI x5), some (vI x6), some (vI x7), some (vI x8), some (vI x10), some (vI (0 : Int32))]) (iRow iCX9_makeRoom_1 16 rfl) (by decide) rfl) ?_
          refine s_lp (fun z => [some (vR 10 0), some (vI a1), some (vI a2), some (vI (z.1)), some (vI (z.2.1)), some (vI (z.2.2.1)), some (vI x8), some (vI x10), some (vI (z.2.2.2.1))]) (fun z => z.2.2.2.2) (fun z => LM G (d + 1) YX9_makeRoom Z 154 [some (vR 10 0), some (vI a1), some (vI a2), some (vI (z.1)), some (vI (z.2.1)), some (vI (z.2.2.1)), some (vI x8), none, none] [] z.2.2.2) rfl rfl ?_ ?_
          · rintro ⟨x11, x12, x13, x14, M15⟩
            show SW G (d + 1) YX9_makeRoom Z 68 [some (vR 10 0), some (vI a1), some (vI a2), some (vI x11), some (vI x12), some (vI x13), some (vI x8), some (vI x10), some (vI x14)] [] M15 (b_X9_makeRoom_2c F x10 x11 x12 x13 x14 M15) _
            unfold b_X9_makeRoom_2c
            refine s_step (g_iload (iRow iCX9_makeRoom_1 17 rfl) rfl) ?_
            refine s_step (g_bipush (iRow iCX9_makeRoom_1 18 rfl) kb_11) ?_
            refine s_if (g_icmp_ge (tgt := 154) (iRow iCX9_makeRoom_1 19 rfl) (by decide)) (fun _ => ?_) (fun _ => ?_)
            · refine s_step (g_keep [true, true, true, true, true, true, true, false, false] rfl) ?_
              exact s_end (fun h => h)
            · refine s_step (g_aload_n (iRow iCX9_makeRoom_1 20 rfl) rfl rfl) ?_
              refine s_step (g_getI (iRow iCX9_makeRoom_1 21 rfl) f9_48 ko_10) ?_
              refine s_step (g_iload (iRow iCX9_makeRoom_1 22 rfl) rfl) ?_
              refine s_step (g_iconst (iRow iCX9_makeRoom_1 23 rfl) kc_m1) ?_
              refine s_step (g_ixor (iRow iCX9_makeRoom_2 0 rfl)) ?_
              refine s_step (g_iand (iRow iCX9_makeRoom_2 1 rfl)) ?_
              refine s_step (g_iconst (iRow iCX9_makeRoom_2 2 rfl) kc_1) ?_
              refine s_step (g_iload (iRow iCX9_makeRoom_2 3 rfl) rfl) ?_
              refine s_step (g_ishl (iRow iCX9_makeRoom_2 4 rfl)) ?_
              refine s_step (g_iand (iRow iCX9_makeRoom_2 5 rfl)) ?_
              refine s_bd (fun z => LM G (d + 1) YX9_makeRoom Z 148 [some (vR 10 0), some (vI a1), some (vI a2), some (vI (z.1)), some (vI (z.2.1)), some (vI (z.2.2.1)), some (vI x8), some (vI x10), some (vI x14)] [] z.2.2.2) ?_ ?_
              · refine s_if (g_if_eq (tgt := 148) (iRow iCX9_makeRoom_2 6 rfl) (by decide)) (fun _ => ?_) (fun _ => ?_)
                · exact s_end (fun h => h)
                · refine s_step (g_aload_n (iRow iCX9_makeRoom_2 7 rfl) rfl rfl) ?_
                  refine s_step (g_getR (iRow iCX9_makeRoom_2 8 rfl) f9_18 ko_10 (r_10_2 _ _)) ?_
                  refine s_step (g_iload (iRow iCX9_makeRoom_2 9 rfl) rfl) ?_
                  refine s_step (g_bipush (iRow iCX9_makeRoom_2 10 rfl) kb_10) ?_
                  refine s_step (g_imul (iRow iCX9_makeRoom_2 11 rfl)) ?_
                  refine s_step (g_iload (iRow iCX9_makeRoom_2 12 rfl) rfl) ?_
                  refine s_step (g_iadd (iRow iCX9_makeRoom_2 13 rfl)) ?_
                  refine s_gi (fun h => g_iald (iRow iCX9_makeRoom_2 14 rfl) kn_49 ka_49 h) ?_
                  refine s_if (g_if_le (tgt := 148) (iRow iCX9_makeRoom_2 15 rfl) (by decide)) (fun _ => ?_) (fun _ => ?_)
                  · exact s_end (fun h => h)
                  · refine s_step (g_iload (iRow iCX9_makeRoom_2 16 rfl) rfl) ?_
                    refine s_step (g_iconst (iRow iCX9_makeRoom_2 17 rfl) kc_1) ?_
                    refine s_step (g_iload (iRow iCX9_makeRoom_2 18 rfl) rfl) ?_
                    refine s_step (g_ishl (iRow iCX9_makeRoom_2 19 rfl)) ?_
                    refine s_step (g_ior (iRow iCX9_makeRoom_2 20 rfl)) ?_
                    refine s_nmI (fun x16 => ?_)
                    refine s_step (g_istore (ls' := [some (vR 10 0), some (vI a1), some (vI a2), some (vI x11), some (vI x12), some (vI x16), some (vI x8), some (vI x10), some (vI x14)]) (iRow iCX9_makeRoom_2 21 rfl) (by decide) rfl) ?_
                    refine s_step (g_aload_n (iRow iCX9_makeRoom_2 22 rfl) rfl rfl) ?_
                    refine s_step (g_getR (iRow iCX9_makeRoom_2 23 rfl) f9_33 ko_10 (r_10_9 _ _)) ?_
                    refine s_step (g_iload (iRow iCX9_makeRoom_3 0 rfl) rfl) ?_
                    refine s_step (g_iload (iRow iCX9_makeRoom_3 1 rfl) rfl) ?_
                    refine s_gi (fun h => g_iast (iRow iCX9_makeRoom_3 2 rfl) kn_54 ka_54 h) ?_
                    refine s_nmM (fun M17 => ?_)
                    refine s_step (g_aload_n (iRow iCX9_makeRoom_3 3 rfl) rfl rfl) ?_
                    refine s_step (g_iload (iRow iCX9_makeRoom_3 4 rfl) rfl) ?_
                    refine s_step (g_iload (iRow iCX9_makeRoom_3 5 rfl) rfl) ?_
                    refine s_step (g_iload_n (iRow iCX9_makeRoom_3 6 rfl) rfl rfl) ?_
                    refine s_cl (sf := fun x => vI x :: []) (fun _ _ h => h_V (As := [_, _, _]) (iRow iCX9_makeRoom_3 7 rfl) l9_90 iX9_reach ko_10 rfl rfl rfl rfl (t_X9_reach (d + 0) h) rfl (by omega) (by decide) (Nat.le_of_ble_eq_true rfl)) (fun x19 M18 => ?_)
                    refine s_step (g_istore_n (ls' := [some (vR 10 0), some (vI a1), some (vI a2), some (vI x19), some (vI x12), some (vI x16), some (vI x8), some (vI x10), some (vI x14)]) (iRow iCX9_makeRoom_3 8 rfl) rfl (by decide) rfl) ?_
                    refine s_step (g_iload (iRow iCX9_makeRoom_3 9 rfl) rfl) ?_
                    refine s_step (g_aload_n (iRow iCX9_makeRoom_3 10 rfl) rfl rfl) ?_
                    refine s_step (g_getR (iRow iCX9_makeRoom_3 11 rfl) f9_11 ko_10 (r_10_0 _ _)) ?_
                    refine s_step (g_iload (iRow iCX9_makeRoom_3 12 rfl) rfl) ?_
                    refine s_gi (fun h => g_iald (iRow iCX9_makeRoom_3 13 rfl) kn_47 ka_47 h) ?_
                    refine s_step (g_ior (iRow iCX9_makeRoom_3 14 rfl)) ?_
                    refine s_nmI (fun x20 => ?_)
                    refine s_step (g_istore (ls' := [some (vR 10 0), some (vI a1), some (vI a2), some (vI x19), some (vI x20), some (vI x16), some (vI x8), some (vI x10), some (vI x14)]) (iRow iCX9_makeRoom_3 15 rfl) (by decide) rfl) ?_
                    exact s_end (fun h => h)
              · rintro ⟨x21, x22, x23, M24⟩
                show SW G (d + 1) YX9_makeRoom Z 148 [some (vR 10 0), some (vI a1), some (vI a2), some (vI x21), some (vI x22), some (vI x23), some (vI x8), some (vI x10), some (vI x14)] [] M24 _ _
                try dsimp only
                refine s_step (g_iincc (c := 1) (ls' := [some (vR 10 0), some (vI a1), some (vI a2), some (vI x21), some (vI x22), some (vI x23), some (vI x8), some (vI x10), some (vI (x14 + (1 : Int32)))]) (iRow iCX9_makeRoom_3 16 rfl) rfl kc_1 (by decide) rfl) ?_
                refine s_step (g_goto (tgt := 68) (iRow iCX9_makeRoom_3 17 rfl) (by decide)) ?_
                exact s_end (fun h => h)
          · rintro ⟨x25, x26, x27, M28⟩
            show SW G (d + 1) YX9_makeRoom Z 154 [some (vR 10 0), some (vI a1), some (vI a2), some (vI x25), some (vI x26), some (vI x27), some (vI x8), none, none] [] M28 _ _
            try dsimp only
            refine s_step (g_iincc (c := 1) (ls' := [some (vR 10 0), some (vI a1), some (vI a2), some (vI x25), some (vI x26), some (vI x27), some (vI (x8 + (1 : Int32))), none, none]) (iRow iCX9_makeRoom_3 18 rfl) rfl kc_1 (by decide) rfl) ?_
            refine s_step (g_goto (tgt := 24) (iRow iCX9_makeRoom_3 19 rfl) (by decide)) ?_
            exact s_end (fun h => h)
        · refine s_step (g_keep [true, true, true, false, false, false, false, true, false] rfl) ?_
          exact s_end (fun h => h)
  · intro z
    rcases z with z | z
    · obtain ⟨x29, M30⟩ := z
      show SW G (d + 1) YX9_makeRoom Z 56 [some (vR 10 0), some (vI a1), some (vI a2), none, none, none, none, some (vI x29), none] [] M30 _ _
      try dsimp only [Sum.elim]
      refine s_step (g_aload_n (iRow iCX9_makeRoom_1 9 rfl) rfl rfl) ?_
      refine s_step (g_iload_n (iRow iCX9_makeRoom_1 10 rfl) rfl rfl) ?_
      refine s_step (g_iload (iRow iCX9_makeRoom_1 11 rfl) rfl) ?_
      refine s_step (g_iload_n (iRow iCX9_makeRoom_1 12 rfl) rfl rfl) ?_
      refine s_cl (sf := fun x => vI x :: []) (fun _ _ h => h_V (As := [_, _, _]) (iRow iCX9_makeRoom_1 13 rfl) l9_94 iX9_moveOver ko_10 rfl rfl rfl rfl (t_X9_moveOver (d + 0) h) rfl (by omega) (by decide) (Nat.le_of_ble_eq_true rfl)) (fun x32 M31 => ?_)
      exact s_reti (iRow iCX9_makeRoom_1 14 rfl) rfl
    · generalize z = M33
      show SW G (d + 1) YX9_makeRoom Z 160 [none, none, none, none, none, none, none, none, none] [] M33 _ _
      try dsimp only [Sum.elim]
      refine s_step (g_iconst (iRow iCX9_makeRoom_3 20 rfl) kc_0) ?_
      exact s_reti (iRow iCX9_makeRoom_3 21 rfl) rfl
abbrev YX9_lay : mY := (RX9, "lay", cX9_lay, 6, (some .int), none)
set_option maxHeartbeats 400000 in
set_option maxRecDepth 20000 in
theorem t_X9_lay {G : mg} {F : Nat} {a1 : Int32} {a2 : Int32} {M : mm} {x : Int32} {M' : mm} (d : Nat) (h : m_X9_lay F a1 a2 M = some (x, M')) : CM G yX9_lay cX9_lay 6 (some .int) (d + 2) [vR 10 0, vI a1, vI a2] M (some (vI x)) M' := by
  refine ct_i (ls := [some (vR 10 0), some (vI a1), some (vI a2), none, none, none]) rfl rfl (Nat.le_of_ble_eq_true rfl) (fun Z => ?_) h
  show SW G (d + 2) YX9_lay Z 0 [some (vR 10 0), some (vI a1), some (vI a2), none, none, none] [] M _ _
  unfold m_X9_lay
  refine s_step (g_iload_n (iRow iCX9_lay_0 0 rfl) rfl rfl) ?_
  refine s_step (g_istore_n (ls' := [some (vR 10 0), some (vI a1), some (vI a2), some (vI a2), none, none]) (iRow iCX9_lay_0 1 rfl) rfl (by decide) rfl) ?_
  refine s_step (g_iconst (iRow iCX9_lay_0 2 rfl) kc_0) ?_
  refine s_step (g_istore (ls' := [some (vR 10 0), some (vI a1), some (vI a2), some (vI a2), some (vI (0 : Int32)), none]) (iRow iCX9_lay_0 3 rfl) (by decide) rfl) ?_
  refine s_lp (fun z => [some (vR 10 0), some (vI a1), some (vI a2), some (vI (z.1)), some (vI (z.2.1)), none]) (fun z => z.2.2) (fun z => LM G (d + 2) YX9_lay Z 90 [some (vR 10 0), some (vI a1), some (vI a2), some (vI (z.1)), none, none] [] z.2) rfl rfl ?_ ?_
  · rintro ⟨x1, x2, M3⟩
    show SW G (d + 2) YX9_lay Z 5 [some (vR 10 0), some (vI a1), some (vI a2), some (vI x1), some (vI x2), none] [] M3 (b_X9_lay_1c F a1 x1 x2 M3) _
    unfold b_X9_lay_1c
    refine s_step (g_iload (iRow iCX9_lay_0 4 rfl) rfl) ?_
    refine s_step (g_bipush (iRow iCX9_lay_0 5 rfl) kb_10) ?_
    refine s_if (g_icmp_ge (tgt := 90) (iRow iCX9_lay_0 6 rfl) (by decide)) (fun _ => ?_) (fun _ => ?_)
    · refine s_step (g_keep [true, true, true, true, false, false] rfl) ?_
      exact s_end (fun h => h)
    · refine s_step (g_iconst (iRow iCX9_lay_0 7 rfl) kc_0) ?_
      refine s_step (g_istore (ls' := [some (vR 10 0), some (vI a1), some (vI a2), some (vI x1), some (vI x2), some (vI (0 : Int32))]) (iRow iCX9_lay_0 8 rfl) (by decide) rfl) ?_
      refine s_step (g_aload_n (iRow iCX9_lay_0 9 rfl) rfl rfl) ?_
      refine s_step (g_getR (iRow iCX9_lay_0 10 rfl) f9_11 ko_10 (r_10_0 _ _)) ?_
      refine s_step (g_iload_n (iRow iCX9_lay_0 11 rfl) rfl rfl) ?_
      refine s_gi (fun h => g_iald (iRow iCX9_lay_0 12 rfl) kn_47 ka_47 h) ?_
      refine s_step (g_iload (iRow iCX9_lay_0 13 rfl) rfl) ?_
      refine s_step (g_ishr (iRow iCX9_lay_0 14 rfl)) ?_
      refine s_step (g_iconst (iRow iCX9_lay_0 15 rfl) kc_1) ?_
      refine s_step (g_iand (iRow iCX9_lay_0 16 rfl)) ?_
      refine s_bd (fun z => LM G (d + 2) YX9_lay Z 70 [some (vR 10 0), some (vI a1), some (vI a2), some (vI (z.1)), some (vI x2), some (vI (z.2.1))] [] z.2.2) ?_ ?_
      · refine s_if (g_if_eq (tgt := 70) (iRow iCX9_lay_0 17 rfl) (by decide)) (fun _ => ?_) (fun _ => ?_)
        · exact s_end (fun h => h)
        · refine s_step (g_iload_n (iRow iCX9_lay_0 18 rfl) rfl rfl) ?_
          refine s_step (g_aload_n (iRow iCX9_lay_0 19 rfl) rfl rfl) ?_
          refine s_step (g_getR (iRow iCX9_lay_0 20 rfl) f9_15 ko_10 (r_10_1 _ _)) ?_
          refine s_step (g_iload (iRow iCX9_lay_0 21 rfl) rfl) ?_
          refine s_gi (fun h => g_iald (iRow iCX9_lay_0 22 rfl) kn_48 ka_48 h) ?_
          refine s_bd (fun z => LM G (d + 2) YX9_lay Z 51 [some (vR 10 0), some (vI a1), some (vI a2), some (vI x1), some (vI x2), none] [vI z] M3) ?_ ?_
          · refine s_if (g_icmp_ge (tgt := 44) (iRow iCX9_lay_0 23 rfl) (by decide)) (fun _ => ?_) (fun _ => ?_)
            · refine s_step (g_aload_n (iRow iCX9_lay_1 2 rfl) rfl rfl) ?_
              refine s_step (g_getR (iRow iCX9_lay_1 3 rfl) f9_15 ko_10 (r_10_1 _ _)) ?_
              refine s_step (g_iload (iRow iCX9_lay_1 4 rfl) rfl) ?_
              refine s_gi (fun h => g_iald (iRow iCX9_lay_1 5 rfl) kn_48 ka_48 h) ?_
              refine s_step (g_keep [true, true, true, true, true, false] rfl) ?_
              exact s_end (fun h => h)
            · refine s_step (g_iload_n (iRow iCX9_lay_1 0 rfl) rfl rfl) ?_
              refine s_step (g_goto (tgt := 51) (iRow iCX9_lay_1 1 rfl) (by decide)) ?_
              refine s_step (g_keep [true, true, true, true, true, false] rfl) ?_
              exact s_end (fun h => h)
          · rintro x4
            show SW G (d + 2) YX9_lay Z 51 [some (vR 10 0), some (vI a1), some (vI a2), some (vI x1), some (vI x2), none] [vI x4] M3 _ _
            try dsimp only
            refine s_step (g_istore (ls' := [some (vR 10 0), some (vI a1), some (vI a2), some (vI x1), some (vI x2), some (vI x4)]) (iRow iCX9_lay_1 6 rfl) (by decide) rfl) ?_
            refine s_step (g_aload_n (iRow iCX9_lay_1 7 rfl) rfl rfl) ?_
            refine s_step (g_getR (iRow iCX9_lay_1 8 rfl) f9_15 ko_10 (r_10_1 _ _)) ?_
            refine s_step (g_iload (iRow iCX9_lay_1 9 rfl) rfl) ?_
            refine s_step (g_dup2 (iRow iCX9_lay_1 10 rfl) rfl rfl) ?_
            refine s_gi (fun h => g_iald (iRow iCX9_lay_1 11 rfl) kn_48 ka_48 h) ?_
            refine s_step (g_iload (iRow iCX9_lay_1 12 rfl) rfl) ?_
            refine s_step (g_isub (iRow iCX9_lay_1 13 rfl)) ?_
            refine s_gi (fun h => g_iast (iRow iCX9_lay_1 14 rfl) kn_48 ka_48 h) ?_
            refine s_nmM (fun M5 => ?_)
            refine s_step (g_iload_n (iRow iCX9_lay_1 15 rfl) rfl rfl) ?_
            refine s_step (g_iload (iRow iCX9_lay_1 16 rfl) rfl) ?_
            refine s_step (g_isub (iRow iCX9_lay_1 17 rfl)) ?_
            refine s_nmI (fun x6 => ?_)
            refine s_step (g_istore_n (ls' := [some (vR 10 0), some (vI a1), some (vI a2), some (vI x6), some (vI x2), some (vI x4)]) (iRow iCX9_lay_1 18 rfl) rfl (by decide) rfl) ?_
            exact s_end (fun h => h)
      · rintro ⟨x7, x8, M9⟩
        show SW G (d + 2) YX9_lay Z 70 [some (vR 10 0), some (vI a1), some (vI a2), some (vI x7), some (vI x2), some (vI x8)] [] M9 _ _
        try dsimp only
        refine s_step (g_aload_n (iRow iCX9_lay_1 19 rfl) rfl rfl) ?_
        refine s_step (g_getR (iRow iCX9_lay_1 20 rfl) f9_18 ko_10 (r_10_2 _ _)) ?_
        refine s_step (g_iload_n (iRow iCX9_lay_1 21 rfl) rfl rfl) ?_
        refine s_step (g_bipush (iRow iCX9_lay_1 22 rfl) kb_10) ?_
        refine s_step (g_imul (iRow iCX9_lay_1 23 rfl)) ?_
        refine s_step (g_iload (iRow iCX9_lay_2 0 rfl) rfl) ?_
        refine s_step (g_iadd (iRow iCX9_lay_2 1 rfl)) ?_
        refine s_step (g_iload (iRow iCX9_lay_2 2 rfl) rfl) ?_
        refine s_gi (fun h => g_iast (iRow iCX9_lay_2 3 rfl) kn_49 ka_49 h) ?_
        refine s_nmM (fun M10 => ?_)
        refine s_step (g_iincc (c := 1) (ls' := [some (vR 10 0), some (vI a1), some (vI a2), some (vI x7), some (vI (x2 + (1 : Int32))), some (vI x8)]) (iRow iCX9_lay_2 4 rfl) rfl kc_1 (by decide) rfl) ?_
        refine s_step (g_goto (tgt := 5) (iRow iCX9_lay_2 5 rfl) (by decide)) ?_
        refine s_step (g_keep [true, true, true, true, true, false] rfl) ?_
        exact s_end (fun h => h)
  · rintro ⟨x11, M12⟩
    show SW G (d + 2) YX9_lay Z 90 [some (vR 10 0), some (vI a1), some (vI a2), some (vI x11), none, none] [] M12 _ _
    try dsimp only
    refine s_step (g_aload_n (iRow iCX9_lay_2 6 rfl) rfl rfl) ?_
    refine s_step (g_dup (iRow iCX9_lay_2 7 rfl) rfl) ?_
    refine s_step (g_getI (iRow iCX9_lay_2 8 rfl) f9_48 ko_10) ?_
    refine s_step (g_iconst (iRow iCX9_lay_2 9 rfl) kc_1) ?_
    refine s_step (g_iload_n (iRow iCX9_lay_2 10 rfl) rfl rfl) ?_
    refine s_step (g_ishl (iRow iCX9_lay_2 11 rfl)) ?_
    refine s_step (g_ior (iRow iCX9_lay_2 12 rfl)) ?_
    refine s_step (g_putI (iRow iCX9_lay_2 13 rfl) f9_48 (Or.inl rfl) ko_10) ?_
    refine s_nmM (fun M13 => ?_)
    refine s_step (g_iconst (iRow iCX9_lay_2 14 rfl) kc_0) ?_
    refine s_step (g_istore (ls' := [some (vR 10 0), some (vI a1), some (vI a2), some (vI x11), some (vI (0 : Int32)), none]) (iRow iCX9_lay_2 15 rfl) (by decide) rfl) ?_
    refine s_lp (fun z => [some (vR 10 0), some (vI a1), some (vI a2), some (vI (z.1)), some (vI (z.2.1)), none]) (fun z => z.2.2) (Sum.elim (fun z => LM G (d + 2) YX9_lay Z 128 [none, none, none, some (vI (z.1)), none, none] [] z.2) (fun z => LM G (d + 2) YX9_lay Z 141 [none, none, none, some (vI (z.1)), none, none] [] z.2)) rfl rfl ?_ ?_
    · rintro ⟨x14, x15, M16⟩
      show SW G (d + 2) YX9_lay Z 105 [some (vR 10 0), some (vI a1), some (vI a2), some (vI x14), some (vI x15), none] [] M16 (b_X9_lay_2c F a1 a2 x14 x15 M16) _
      unfold b_X9_lay_2c
      refine s_step (g_iload (iRow iCX9_lay_2 16 rfl) rfl) ?_
      refine s_step (g_iload_n (iRow iCX9_lay_2 17 rfl) rfl rfl) ?_
      refine s_if (g_icmp_ge (tgt := 141) (iRow iCX9_lay_2 18 rfl) (by decide)) (fun _ => ?_) (fun _ => ?_)
      · refine s_step (g_keep [false, false, false, true, false, false] rfl) ?_
        exact s_end (fun h => h)
      · refine s_step (g_iload_n (iRow iCX9_lay_2 19 rfl) rfl rfl) ?_
        refine s_if (g_if_le (tgt := 141) (iRow iCX9_lay_2 20 rfl) (by decide)) (fun _ => ?_) (fun _ => ?_)
        · refine s_step (g_keep [false, false, false, true, false, false] rfl) ?_
          exact s_end (fun h => h)
        · refine s_step (g_aload_n (iRow iCX9_lay_2 21 rfl) rfl rfl) ?_
          refine s_step (g_iload_n (iRow iCX9_lay_2 22 rfl) rfl rfl) ?_
          refine s_step (g_iload_n (iRow iCX9_lay_2 23 rfl) rfl rfl) ?_
          refine s_cl (sf := fun x => vI x :: []) (fun _ _ h => h_V (As := [_, _]) (iRow iCX9_lay_3 0 rfl) l9_87 iX9_makeRoom ko_10 rfl rfl rfl rfl (t_X9_makeRoom (d + 0) h) rfl (by omega) (by decide) (Nat.le_of_ble_eq_true rfl)) (fun x18 M17 => ?_)
          refine s_step (g_istore (ls' := [some (vR 10 0), some (vI a1), some (vI a2), some (vI x14), some (vI x15), some (vI x18)]) (iRow iCX9_lay_3 1 rfl) (by decide) rfl) ?_
          refine s_step (g_iload (iRow iCX9_lay_3 2 rfl) rfl) ?_
          refine s_ifn (g_if_ne (tgt := 130) (iRow iCX9_lay_3 3 rfl) (by decide)) (fun _ => ?_) (fun _ => ?_)
          · refine s_step (g_keep [false, false, false, true, false, false] rfl) ?_
            exact s_end (fun h => h)
          · refine s_step (g_iload_n (iRow iCX9_lay_3 6 rfl) rfl rfl) ?_
            refine s_step (g_iload (iRow iCX9_lay_3 7 rfl) rfl) ?_
            refine s_step (g_isub (iRow iCX9_lay_3 8 rfl)) ?_
            refine s_nmI (fun x19 => ?_)
            refine s_step (g_istore_n (ls' := [some (vR 10 0), some (vI a1), some (vI a2), some (vI x19), some (vI x15), some (vI x18)]) (iRow iCX9_lay_3 9 rfl) rfl (by decide) rfl) ?_
            refine s_step (g_iincc (c := 1) (ls' := [some (vR 10 0), some (vI a1), some (vI a2), some (vI x19), some (vI (x15 + (1 : Int32))), some (vI x18)]) (iRow iCX9_lay_3 10 rfl) rfl kc_1 (by decide) rfl) ?_
            refine s_step (g_goto (tgt := 105) (iRow iCX9_lay_3 11 rfl) (by decide)) ?_
            refine s_step (g_keep [true, true, true, true, true, false] rfl) ?_
            exact s_end (fun h => h)
    · intro z
      rcases z with z | z
      · obtain ⟨x20, M21⟩ := z
        show SW G (d + 2) YX9_lay Z 128 [none, none, none, some (vI x20), none, none] [] M21 _ _
        try dsimp only [Sum.elim]
        refine s_step (g_iload_n (iRow iCX9_lay_3 4 rfl) rfl rfl) ?_
        exact s_reti (iRow iCX9_lay_3 5 rfl) rfl
      · obtain ⟨x22, M23⟩ := z
        show SW G (d + 2) YX9_lay Z 141 [none, none, none, some (vI x22), none, none] [] M23 _ _
        try dsimp only [Sum.elim]
        refine s_step (g_iload_n (iRow iCX9_lay_3 12 rfl) rfl rfl) ?_
        exact s_reti (iRow iCX9_lay_3 13 rfl) rfl
abbrev YX9_standing : mY := (RX9, "standing", cX9_standing, 5, (some .int), none)
set_option maxHeartbeats 400000 in
set_option maxRecDepth 20000 in
theorem t_X9_standing {G : mg} {F : Nat} {a1 : Nat} {a2 : Nat} {a3 : Int32} {M : mm} {x : Int32} {M' : mm} (d : Nat) (h : m_X9_standing F a1 a2 a3 M = some (x, M')) : CM G yX9_standing cX9_standing 5 (some .int) (d + 3) [vR 10 0, vR 1 a1, vR 5 a2, vI a3] M (some (vI x)) M' := by
  refine ct_i (ls := [some (vR 10 0), some (vR 1 a1), some (vR 5 a2), some (vI a3), none]) rfl rfl (Nat.le_of_ble_eq_true rfl) (fun Z => ?_) h
  show SW G (d + 3) YX9_standing Z 0 [some (vR 10 0), some (vR 1 a1), some (vR 5 a2), some (vI a3), none] [] M _ _
  unfold m_X9_standing
  refine s_step (g_aload_n (iRow iCX9_standing_0 0 rfl) rfl rfl) ?_
  refine s_step (g_iconst (iRow iCX9_standing_0 1 rfl) kc_0) ?_
  refine s_step (g_putI (iRow iCX9_standing_0 2 rfl) f9_48 (Or.inl rfl) ko_10) ?_
  refine s_nmM (fun M1 => ?_)
  refine s_step (g_iconst (iRow iCX9_standing_0 3 rfl) kc_0) ?_
  refine s_step (g_istore (ls' := [some (vR 10 0), some (vR 1 a1), some (vR 5 a2), some (vI a3), some (vI (0 : Int32))]) (iRow iCX9_standing_0 4 rfl) (by decide) rfl) ?_
  refine s_lp (fun z => [some (vR 10 0), some (vR 1 a1), some (vR 5 a2), some (vI a3), some (vI (z.1))]) (fun z => z.2) (fun z => LM G (d + 3) YX9_standing Z 37 [some (vR 10 0), some (vR 1 a1), none, some (vI a3), none] [] z) rfl rfl ?_ ?_
  · rintro ⟨x2, M3⟩
    show SW G (d + 3) YX9_standing Z 8 [some (vR 10 0), some (vR 1 a1), some (vR 5 a2), some (vI a3), some (vI x2)] [] M3 (b_X9_standing_1c F a1 a2 x2 M3) _
    unfold b_X9_standing_1c
    refine s_step (g_iload (iRow iCX9_standing_0 5 rfl) rfl) ?_
    refine s_step (g_aload_n (iRow iCX9_standing_0 6 rfl) rfl rfl) ?_
    refine s_step (g_getI (iRow iCX9_standing_0 7 rfl) f9_51 ko_1) ?_
    refine s_if (g_icmp_ge (tgt := 37) (iRow iCX9_standing_0 8 rfl) (by decide)) (fun _ => ?_) (fun _ => ?_)
    · refine s_step (g_keep [true, true, false, true, false] rfl) ?_
      exact s_end (fun h => h)
    · refine s_step (g_aload_n (iRow iCX9_standing_0 9 rfl) rfl rfl) ?_
      refine s_step (g_getR (iRow iCX9_standing_0 10 rfl) f9_15 ko_10 (r_10_1 _ _)) ?_
      refine s_step (g_iload (iRow iCX9_standing_0 11 rfl) rfl) ?_
      refine s_step (g_aload_n (iRow iCX9_standing_0 12 rfl) rfl rfl) ?_
      refine s_step (g_iload (iRow iCX9_standing_0 13 rfl) rfl) ?_
      refine s_step (g_aload_n (iRow iCX9_standing_0 14 rfl) rfl rfl) ?_
      refine s_cl (sf := fun x => vI x :: [vI x2, vR 48 0]) (fun _ _ h => h_V (As := [_, _]) (iRow iCX9_standing_0 15 rfl) l9_54 iX0_strengthOf ko_1 rfl rfl rfl rfl (t_X0_strengthOf (d + 0) h) rfl (by omega) (by decide) (Nat.le_of_ble_eq_true rfl)) (fun x5 M4 => ?_)
      refine s_gi (fun h => g_iast (iRow iCX9_standing_0 16 rfl) kn_48 ka_48 h) ?_
      refine s_nmM (fun M6 => ?_)
      refine s_step (g_iincc (c := 1) (ls' := [some (vR 10 0), some (vR 1 a1), some (vR 5 a2), some (vI a3), some (vI (x2 + (1 : Int32)))]) (iRow iCX9_standing_0 17 rfl) rfl kc_1 (by decide) rfl) ?_
      refine s_step (g_goto (tgt := 8) (iRow iCX9_standing_0 18 rfl) (by decide)) ?_
      exact s_end (fun h => h)
  · rintro M7
    show SW G (d + 3) YX9_standing Z 37 [some (vR 10 0), some (vR 1 a1), none, some (vI a3), none] [] M7 _ _
    try dsimp only
    refine s_step (g_aload_n (iRow iCX9_standing_0 19 rfl) rfl rfl) ?_
    refine s_step (g_aload_n (iRow iCX9_standing_0 20 rfl) rfl rfl) ?_
    refine s_step (g_iload_n (iRow iCX9_standing_0 21 rfl) rfl rfl) ?_
    refine s_cv (stA := []) (fun _ h => h_V (As := [_, _]) (iRow iCX9_standing_0 22 rfl) l9_58 iX9_settle ko_10 rfl rfl rfl rfl (t_X9_settle (d + 2) h) rfl (by omega) (by decide) (Nat.le_of_ble_eq_true rfl)) (fun M8 => ?_)
    refine s_step (g_iconst (iRow iCX9_standing_0 23 rfl) kc_0) ?_
    refine s_step (g_istore (ls' := [some (vR 10 0), some (vR 1 a1), none, some (vI a3), some (vI (0 : Int32))]) (iRow iCX9_standing_1 0 rfl) (by decide) rfl) ?_
    refine s_lp (fun z => [some (vR 10 0), some (vR 1 a1), none, some (vI a3), some (vI (z.1))]) (fun z => z.2) (Sum.elim (fun z => LM G (d + 3) YX9_standing Z 80 [none, none, none, some (vI a3), some (vI (z.1))] [] z.2) (fun z => LM G (d + 3) YX9_standing Z 95 [none, none, none, some (vI a3), none] [] z)) rfl rfl ?_ ?_
    · rintro ⟨x9, M10⟩
      show SW G (d + 3) YX9_standing Z 46 [some (vR 10 0), some (vR 1 a1), none, some (vI a3), some (vI x9)] [] M10 (b_X9_standing_2c F a1 a3 x9 M10) _
      unfold b_X9_standing_2c
      refine s_step (g_iload (iRow iCX9_standing_1 1 rfl) rfl) ?_
      refine s_step (g_aload_n (iRow iCX9_standing_1 2 rfl) rfl rfl) ?_
      refine s_step (g_getI (iRow iCX9_standing_1 3 rfl) f9_36 ko_1) ?_
      refine s_if (g_icmp_ge (tgt := 95) (iRow iCX9_standing_1 4 rfl) (by decide)) (fun _ => ?_) (fun _ => ?_)
      · refine s_step (g_keep [false, false, false, true, false] rfl) ?_
        exact s_end (fun h => h)
      · refine s_step (g_iload_n (iRow iCX9_standing_1 5 rfl) rfl rfl) ?_
        refine s_step (g_iload (iRow iCX9_standing_1 6 rfl) rfl) ?_
        refine s_step (g_ishr (iRow iCX9_standing_1 7 rfl)) ?_
        refine s_step (g_iconst (iRow iCX9_standing_1 8 rfl) kc_1) ?_
        refine s_step (g_iand (iRow iCX9_standing_1 9 rfl)) ?_
        refine s_nj 89 (fun z => [some (vR 10 0), some (vR 1 a1), none, some (vI a3), some (vI x9)]) (fun z => []) (fun z => z) ?_ (fun j89 hj89 => ?_)
        · rintro M13
          show SW G (d + 3) YX9_standing Z 89 [some (vR 10 0), some (vR 1 a1), none, some (vI a3), some (vI x9)] [] M13 _ _
          try dsimp only
          refine s_step (g_iincc (c := 1) (ls' := [some (vR 10 0), some (vR 1 a1), none, some (vI a3), some (vI (x9 + (1 : Int32)))]) (iRow iCX9_standing_2 3 rfl) rfl kc_1 (by decide) rfl) ?_
          refine s_step (g_goto (tgt := 46) (iRow iCX9_standing_2 4 rfl) (by decide)) ?_
          exact s_end (fun h => h)
        · refine s_if (g_if_eq (tgt := 89) (iRow iCX9_standing_1 10 rfl) (by decide)) (fun _ => ?_) (fun _ => ?_)
          · exact hj89 _
          · refine s_step (g_aload_n (iRow iCX9_standing_1 11 rfl) rfl rfl) ?_
            refine s_step (g_iload (iRow iCX9_standing_1 12 rfl) rfl) ?_
            refine s_step (g_aload_n (iRow iCX9_standing_1 13 rfl) rfl rfl) ?_
            refine s_step (g_getR (iRow iCX9_standing_1 14 rfl) f9_62 ko_1 (r_1_15 _ _)) ?_
            refine s_step (g_iload (iRow iCX9_standing_1 15 rfl) rfl) ?_
            refine s_gi (fun h => g_iald (iRow iCX9_standing_1 16 rfl) kn_31 ka_31 h) ?_
            refine s_cl (sf := fun x => vI x :: []) (fun _ _ h => h_V (As := [_, _]) (iRow iCX9_standing_1 17 rfl) l9_65 iX9_lay ko_10 rfl rfl rfl rfl (t_X9_lay (d + 0) h) rfl (by omega) (by decide) (Nat.le_of_ble_eq_true rfl)) (fun x12 M11 => ?_)
            refine s_if (g_if_le (tgt := 89) (iRow iCX9_standing_1 18 rfl) (by decide)) (fun _ => ?_) (fun _ => ?_)
            · exact hj89 _
            · refine s_step (g_keep [false, false, false, true, true] rfl) ?_
              exact s_end (fun h => h)
    · intro z
      rcases z with z | z
      · obtain ⟨x14, M15⟩ := z
        show SW G (d + 3) YX9_standing Z 80 [none, none, none, some (vI a3), some (vI x14)] [] M15 _ _
        try dsimp only [Sum.elim]
        refine s_step (g_iload_n (iRow iCX9_standing_1 19 rfl) rfl rfl) ?_
        refine s_step (g_iconst (iRow iCX9_standing_1 20 rfl) kc_1) ?_
        refine s_step (g_iload (iRow iCX9_standing_1 21 rfl) rfl) ?_
        refine s_step (g_ishl (iRow iCX9_standing_1 22 rfl)) ?_
        refine s_step (g_iconst (iRow iCX9_standing_1 23 rfl) kc_1) ?_
        refine s_step (g_isub (iRow iCX9_standing_2 0 rfl)) ?_
        refine s_step (g_iand (iRow iCX9_standing_2 1 rfl)) ?_
        exact s_reti (iRow iCX9_standing_2 2 rfl) rfl
      · generalize z = M16
        show SW G (d + 3) YX9_standing Z 95 [none, none, none, some (vI a3), none] [] M16 _ _
        try dsimp only [Sum.elim]
        refine s_step (g_iload_n (iRow iCX9_standing_2 5 rfl) rfl rfl) ?_
        exact s_reti (iRow iCX9_standing_2 6 rfl) rfl
abbrev YX1_begin : mY := (RX1, "begin", cX1_begin, 3, none, none)
set_option maxHeartbeats 400000 in
set_option maxRecDepth 20000 in
theorem t_X1_begin {G : mg} {F : Nat} {a1 : Nat} {a2 : Nat} {M : mm} {M' : mm} (d : Nat) (h : m_X1_begin F a1 a2 M = some M') : CM G yX1_begin cX1_begin 3 none (d + 4) [vR 2 0, vR 1 a1, vR 5 a2] M none M' := by
  refine ct_v (ls := [some (vR 2 0), some (vR 1 a1), some (vR 5 a2)]) rfl rfl (Nat.le_of_ble_eq_true rfl) (fun Z => ?_) h
  show SW G (d + 4) YX1_begin Z 0 [some (vR 2 0), some (vR 1 a1), some (vR 5 a2)] [] M _ _
  unfold m_X1_begin
  refine s_step (g_aload_n (iRow iCX1_begin_0 0 rfl) rfl rfl) ?_
  refine s_step (g_iconst (iRow iCX1_begin_0 1 rfl) kc_0) ?_
  refine s_step (g_putI (iRow iCX1_begin_0 2 rfl) f1_15 (Or.inl rfl) ko_5) ?_
  refine s_nmM (fun M1 => ?_)
  refine s_step (g_aload_n (iRow iCX1_begin_0 3 rfl) rfl rfl) ?_
  refine s_step (g_iconst (iRow iCX1_begin_0 4 rfl) kc_0) ?_
  refine s_step (g_putI (iRow iCX1_begin_0 5 rfl) f1_21 (Or.inl rfl) ko_5) ?_
  refine s_nmM (fun M2 => ?_)
  refine s_step (g_aload_n (iRow iCX1_begin_0 6 rfl) rfl rfl) ?_
  refine s_step (g_iconst (iRow iCX1_begin_0 7 rfl) kc_0) ?_
  refine s_step (g_putI (iRow iCX1_begin_0 8 rfl) f1_24 (Or.inl rfl) ko_5) ?_
  refine s_nmM (fun M3 => ?_)
  refine s_step (g_aload_n (iRow iCX1_begin_0 9 rfl) rfl rfl) ?_
  refine s_step (g_aload_n (iRow iCX1_begin_0 10 rfl) rfl rfl) ?_
  refine s_step (g_getR (iRow iCX1_begin_0 11 rfl) f1_9 ko_2 (r_2_0 _ _)) ?_
  refine s_step (g_aload_n (iRow iCX1_begin_0 12 rfl) rfl rfl) ?_
  refine s_step (g_aload_n (iRow iCX1_begin_0 13 rfl) rfl rfl) ?_
  refine s_step (g_iconst (iRow iCX1_begin_0 14 rfl) kc_1) ?_
  refine s_step (g_aload_n (iRow iCX1_begin_0 15 rfl) rfl rfl) ?_
  refine s_step (g_getI (iRow iCX1_begin_0 16 rfl) f1_27 ko_1) ?_
  refine s_step (g_ishl (iRow iCX1_begin_0 17 rfl)) ?_
  refine s_step (g_iconst (iRow iCX1_begin_0 18 rfl) kc_1) ?_
  refine s_step (g_isub (iRow iCX1_begin_0 19 rfl)) ?_
  refine s_cl (sf := fun x => vI x :: [vR 5 a2]) (fun _ _ h => h_V (As := [_, _, _]) (iRow iCX1_begin_0 20 rfl) l1_32 iX9_standing ko_10 rfl rfl rfl rfl (t_X9_standing (d + 0) h) rfl (by omega) (by decide) (Nat.le_of_ble_eq_true rfl)) (fun x5 M4 => ?_)
  refine s_step (g_putI (iRow iCX1_begin_0 21 rfl) f1_38 (Or.inl rfl) ko_5) ?_
  refine s_nmM (fun M6 => ?_)
  exact s_retv (iRow iCX1_begin_0 22 rfl) rfl
abbrev YX11_city : mY := (RX11, "city", cX11_city, 3, (some .int), none)
set_option maxHeartbeats 400000 in
set_option maxRecDepth 20000 in
theorem t_X11_city {G : mg} {F : Nat} {M : mm} {x : Int32} {M' : mm} (d : Nat) (h : m_X11_city F M = some (x, M')) : CM G yX11_city cX11_city 3 (some .int) (d + 7) [vR 12 0] M (some (vI x)) M' := by
  refine ct_i (ls := [some (vR 12 0), none, none]) rfl rfl (Nat.le_of_ble_eq_true rfl) (fun Z => ?_) h
  show SW G (d + 7) YX11_city Z 0 [some (vR 12 0), none, none] [] M _ _
  unfold m_X11_city
  refine s_step (g_aload_n (iRow iCX11_city_0 0 rfl) rfl rfl) ?_
  refine s_step (g_getR (iRow iCX11_city_0 1 rfl) f11_41 ko_12 (r_12_1 _ _)) ?_
  refine s_step (g_aload_n (iRow iCX11_city_0 2 rfl) rfl rfl) ?_
  refine s_step (g_getR (iRow iCX11_city_0 3 rfl) f11_16 ko_12 (r_12_7 _ _)) ?_
  refine s_cl (sf := fun x => vI x :: []) (fun _ _ h => h_V (As := [_]) (iRow iCX11_city_0 4 rfl) l11_108 iX5_readCity ko_6 rfl rfl rfl rfl (t_X5_readCity (d + 0) h) rfl (by omega) (by decide) (Nat.le_of_ble_eq_true rfl)) (fun x2 M1 => ?_)
  refine s_step (g_istore_n (ls' := [some (vR 12 0), some (vI x2), none]) (iRow iCX11_city_0 5 rfl) rfl (by decide) rfl) ?_
  refine s_step (g_aload_n (iRow iCX11_city_0 6 rfl) rfl rfl) ?_
  refine s_step (g_getR (iRow iCX11_city_0 7 rfl) f11_32 ko_12 (r_12_0 _ _)) ?_
  refine s_cv (stA := []) (fun _ h => h_V (As := []) (iRow iCX11_city_0 8 rfl) l11_112 iX6_clear ko_7 rfl rfl rfl rfl (t_X6_clear (d + 6) h) rfl (by omega) (by decide) (Nat.le_of_ble_eq_true rfl)) (fun M3 => ?_)
  refine s_step (g_iload_n (iRow iCX11_city_0 9 rfl) rfl rfl) ?_
  refine s_if (g_if_eq (tgt := 25) (iRow iCX11_city_0 10 rfl) (by decide)) (fun _ => ?_) (fun _ => ?_)
  · refine s_step (g_aload_n (iRow iCX11_city_0 13 rfl) rfl rfl) ?_
    refine s_step (g_getR (iRow iCX11_city_0 14 rfl) f11_10 ko_12 (r_12_6 _ _)) ?_
    refine s_nmR (fun x4 => ?_)
    refine s_step (g_astore_n (ls' := [some (vR 12 0), some (vI x2), some (vR 1 x4)]) (iRow iCX11_city_0 15 rfl) rfl (by decide) rfl) ?_
    refine s_step (g_aload_n (iRow iCX11_city_0 16 rfl) rfl rfl) ?_
    refine s_step (g_aload_n (iRow iCX11_city_0 17 rfl) rfl rfl) ?_
    refine s_step (g_getR (iRow iCX11_city_0 18 rfl) f11_16 ko_12 (r_12_7 _ _)) ?_
    refine s_step (g_putR (r := (M3.2.2 12 0 7)) (iRow iCX11_city_0 19 rfl) f11_10 (Or.inl rfl) ko_12 (r_12_6 _ _)) ?_
    refine s_nmM (fun M5 => ?_)
    refine s_step (g_aload_n (iRow iCX11_city_0 20 rfl) rfl rfl) ?_
    refine s_step (g_aload_n (iRow iCX11_city_0 21 rfl) rfl rfl) ?_
    refine s_step (g_putR (r := x4) (iRow iCX11_city_0 22 rfl) f11_16 (Or.inl rfl) ko_12 (r_12_7 _ _)) ?_
    refine s_nmM (fun M6 => ?_)
    refine s_step (g_aload_n (iRow iCX11_city_0 23 rfl) rfl rfl) ?_
    refine s_step (g_getR (iRow iCX11_city_1 0 rfl) f11_22 ko_12 (r_12_10 _ _)) ?_
    refine s_cv (stA := []) (fun _ h => h_V (As := []) (iRow iCX11_city_1 1 rfl) l11_115 iX8_clear ko_9 rfl rfl rfl rfl (t_X8_clear (d + 6) h) rfl (by omega) (by decide) (Nat.le_of_ble_eq_true rfl)) (fun M7 => ?_)
    refine s_step (g_aload_n (iRow iCX11_city_1 2 rfl) rfl rfl) ?_
    refine s_step (g_iconst (iRow iCX11_city_1 3 rfl) kc_0) ?_
    refine s_step (g_putI (iRow iCX11_city_1 4 rfl) f11_116 (Or.inl rfl) ko_12) ?_
    refine s_nmM (fun M8 => ?_)
    refine s_step (g_aload_n (iRow iCX11_city_1 5 rfl) rfl rfl) ?_
    refine s_step (g_iconst (iRow iCX11_city_1 6 rfl) kc_0) ?_
    refine s_step (g_putI (iRow iCX11_city_1 7 rfl) f11_119 (Or.inl rfl) ko_12) ?_
    refine s_nmM (fun M9 => ?_)
    refine s_step (g_aload_n (iRow iCX11_city_1 8 rfl) rfl rfl) ?_
    refine s_step (g_getR (iRow iCX11_city_1 9 rfl) f11_66 ko_12 (r_12_4 _ _)) ?_
    refine s_cv (stA := []) (fun _ h => h_V (As := []) (iRow iCX11_city_1 10 rfl) l11_122 iX10_forget ko_11 rfl rfl rfl rfl (t_X10_forget (d + 6) h) rfl (by omega) (by decide) (Nat.le_of_ble_eq_true rfl)) (fun M10 => ?_)
    refine s_step (g_aload_n (iRow iCX11_city_1 11 rfl) rfl rfl) ?_
    refine s_step (g_getR (iRow iCX11_city_1 12 rfl) f11_57 ko_12 (r_12_3 _ _)) ?_
    refine s_step (g_aload_n (iRow iCX11_city_1 13 rfl) rfl rfl) ?_
    refine s_step (g_getR (iRow iCX11_city_1 14 rfl) f11_10 ko_12 (r_12_6 _ _)) ?_
    refine s_step (g_aload_n (iRow iCX11_city_1 15 rfl) rfl rfl) ?_
    refine s_step (g_getR (iRow iCX11_city_1 16 rfl) f11_82 ko_12 (r_12_8 _ _)) ?_
    refine s_cv (stA := []) (fun _ h => h_V (As := [_, _]) (iRow iCX11_city_1 17 rfl) l11_125 iX1_begin ko_2 rfl rfl rfl rfl (t_X1_begin (d + 2) h) rfl (by omega) (by decide) (Nat.le_of_ble_eq_true rfl)) (fun M11 => ?_)
    refine s_step (g_iconst (iRow iCX11_city_1 18 rfl) kc_0) ?_
    exact s_reti (iRow iCX11_city_1 19 rfl) rfl
  · refine s_step (g_iload_n (iRow iCX11_city_0 11 rfl) rfl rfl) ?_
    exact s_reti (iRow iCX11_city_0 12 rfl) rfl
abbrev YX5_seeKnown_30 : mY := (RX5, "seeKnown", cX5_seeKnown, 3, (some .boolean), none)
set_option maxHeartbeats 400000 in
set_option maxRecDepth 20000 in
theorem t_X5_seeKnown_30 {G : mg} {F : Nat} {a1 : Nat} {a2 : Int32} {M : mm} {x : Bool} {M' : mm} (d : Nat) (h : m_X5_seeKnown_30 F a1 a2 M = some (x, M')) : CM G yX5_seeKnown cX5_seeKnown 3 (some .boolean) (d + 1) [vR 6 0, vR 30 a1, vI a2] M (some (vI (bI x))) M' := by
  refine ct_z (ls := [some (vR 6 0), some (vR 30 a1), some (vI a2)]) rfl rfl (Nat.le_of_ble_eq_true rfl) (fun Z => ?_) h
  show SW G (d + 1) YX5_seeKnown_30 Z 0 [some (vR 6 0), some (vR 30 a1), some (vI a2)] [] M _ _
  unfold m_X5_seeKnown_30
  refine s_step (g_aload_n (iRow iCX5_seeKnown_0 0 rfl) rfl rfl) ?_
  refine s_step (g_getR (iRow iCX5_seeKnown_0 1 rfl) f5_9 ko_6 (r_6_0 _ _)) ?_
  refine s_cb (sf := fun b => vI (bI b) :: []) (fun _ _ h => h_V (As := []) (iRow iCX5_seeKnown_0 2 rfl) l5_178 iX6_isName ko_7 rfl rfl rfl rfl (t_X6_isName (d + 0) h) rfl (by omega) (by decide) (Nat.le_of_ble_eq_true rfl)) (fun b2 M1 => ?_)
  refine s_ifneb (g_if_ne (tgt := 16) (iRow iCX5_seeKnown_0 3 rfl) (by decide)) (fun _ => ?_) (fun _ => ?_)
  · refine s_step (g_aload_n (iRow iCX5_seeKnown_0 8 rfl) rfl rfl) ?_
    refine s_step (g_aload_n (iRow iCX5_seeKnown_0 9 rfl) rfl rfl) ?_
    refine s_step (g_iload_n (iRow iCX5_seeKnown_0 10 rfl) rfl rfl) ?_
    refine s_step (g_aload_n (iRow iCX5_seeKnown_0 11 rfl) rfl rfl) ?_
    refine s_step (g_getR (iRow iCX5_seeKnown_0 12 rfl) f5_9 ko_6 (r_6_0 _ _)) ?_
    refine s_step (g_getL (iRow iCX5_seeKnown_0 13 rfl) f5_97 ko_7) ?_
    refine s_cl (sf := fun x => vI x :: [vR 6 0]) (fun _ _ h => h_S (As := [_, _, _]) (iRow iCX5_seeKnown_0 14 rfl) l5_181 iX5_find rfl rfl (t_X5_find_30 (d + 0) h) rfl (by omega) (by decide) (Nat.le_of_ble_eq_true rfl)) (fun x4 M3 => ?_)
    refine s_step (g_putI (iRow iCX5_seeKnown_0 15 rfl) f5_135 (Or.inl rfl) ko_6) ?_
    refine s_nmM (fun M5 => ?_)
    refine s_step (g_aload_n (iRow iCX5_seeKnown_0 16 rfl) rfl rfl) ?_
    refine s_step (g_getI (iRow iCX5_seeKnown_0 17 rfl) f5_135 ko_6) ?_
    refine s_step (g_iconst (iRow iCX5_seeKnown_0 18 rfl) kc_m1) ?_
    refine s_ifn (g_icmp_ne (tgt := 48) (iRow iCX5_seeKnown_0 19 rfl) (by decide)) (fun _ => ?_) (fun _ => ?_)
    · refine s_step (g_aload_n (iRow iCX5_seeKnown_0 20 rfl) rfl rfl) ?_
      refine s_step (g_iconst (iRow iCX5_seeKnown_0 21 rfl) kc_2) ?_
      refine s_cb (sf := fun b => vI (bI b) :: []) (fun _ _ h => h_V (As := [_]) (iRow iCX5_seeKnown_0 22 rfl) l5_87 iX5_wrong ko_6 rfl rfl rfl rfl (t_X5_wrong (d + 0) h) rfl (by omega) (by decide) (Nat.le_of_ble_eq_true rfl)) (fun b7 M6 => ?_)
      refine s_ifeqb (g_if_eq (tgt := 52) (iRow iCX5_seeKnown_0 23 rfl) (by decide)) (fun _ => ?_) (fun _ => ?_)
      · refine s_step (g_iconst (iRow iCX5_seeKnown_1 0 rfl) kc_1) ?_
        refine s_step (g_goto (tgt := 53) (iRow iCX5_seeKnown_1 1 rfl) (by decide)) ?_
        exact s_retz (b := true) (iRow iCX5_seeKnown_1 3 rfl) rfl rfl
      · refine s_step (g_iconst (iRow iCX5_seeKnown_1 2 rfl) kc_0) ?_
        exact s_retz (b := false) (iRow iCX5_seeKnown_1 3 rfl) rfl rfl
    · refine s_step (g_iconst (iRow iCX5_seeKnown_1 0 rfl) kc_1) ?_
      refine s_step (g_goto (tgt := 53) (iRow iCX5_seeKnown_1 1 rfl) (by decide)) ?_
      exact s_retz (b := true) (iRow iCX5_seeKnown_1 3 rfl) rfl rfl
  · refine s_step (g_aload_n (iRow iCX5_seeKnown_0 4 rfl) rfl rfl) ?_
    refine s_step (g_iconst (iRow iCX5_seeKnown_0 5 rfl) kc_1) ?_
    refine s_cb (sf := fun b => vI (bI b) :: []) (fun _ _ h => h_V (As := [_]) (iRow iCX5_seeKnown_0 6 rfl) l5_87 iX5_wrong ko_6 rfl rfl rfl rfl (t_X5_wrong (d + 0) h) rfl (by omega) (by decide) (Nat.le_of_ble_eq_true rfl)) (fun b9 M8 => ?_)
    exact s_retz (iRow iCX5_seeKnown_0 7 rfl) rfl rfl
abbrev YX8_addLine : mY := (RX8, "addLine", cX8_addLine, 3, none, none)
set_option maxHeartbeats 400000 in
set_option maxRecDepth 20000 in
theorem t_X8_addLine {G : mg} {F : Nat} {o : Nat} {a1 : Int32} {a2 : Int32} {M : mm} {M' : mm} (d : Nat) (h : m_X8_addLine F o a1 a2 M = some M') : CM G yX8_addLine cX8_addLine 3 none (d + 0) [vR 9 o, vI a1, vI a2] M none M' := by
  refine ct_v (ls := [some (vR 9 o), some (vI a1), some (vI a2)]) rfl rfl (Nat.le_of_ble_eq_true rfl) (fun Z => ?_) h
  show SW G (d + 0) YX8_addLine Z 0 [some (vR 9 o), some (vI a1), some (vI a2)] [] M _ _
  unfold m_X8_addLine
  refine s_step (g_aload_n (iRow iCX8_addLine_0 0 rfl) rfl rfl) ?_
  refine s_step (g_getI (iRow iCX8_addLine_0 1 rfl) f8_18 ko_9) ?_
  refine s_step (g_bipush (iRow iCX8_addLine_0 2 rfl) kb_40) ?_
  refine s_if (g_icmp_ge (tgt := 39) (iRow iCX8_addLine_0 3 rfl) (by decide)) (fun _ => ?_) (fun _ => ?_)
  · exact s_retv (iRow iCX8_addLine_0 22 rfl) rfl
  · refine s_step (g_aload_n (iRow iCX8_addLine_0 4 rfl) rfl rfl) ?_
    refine s_step (g_getR (iRow iCX8_addLine_0 5 rfl) f8_9 ko_9 (r_9_1 _ _)) ?_
    refine s_step (g_aload_n (iRow iCX8_addLine_0 6 rfl) rfl rfl) ?_
    refine s_step (g_getI (iRow iCX8_addLine_0 7 rfl) f8_18 ko_9) ?_
    refine s_step (g_iload_n (iRow iCX8_addLine_0 8 rfl) rfl rfl) ?_
    refine s_gi (fun h => g_iast (iRow iCX8_addLine_0 9 rfl) kn_45 ka_45 h) ?_
    refine s_nmM (fun M1 => ?_)
    refine s_step (g_aload_n (iRow iCX8_addLine_0 10 rfl) rfl rfl) ?_
    refine s_step (g_getR (iRow iCX8_addLine_0 11 rfl) f8_15 ko_9 (r_9_2 _ _)) ?_
    refine s_step (g_aload_n (iRow iCX8_addLine_0 12 rfl) rfl rfl) ?_
    refine s_step (g_getI (iRow iCX8_addLine_0 13 rfl) f8_18 ko_9) ?_
    refine s_step (g_iload_n (iRow iCX8_addLine_0 14 rfl) rfl rfl) ?_
    refine s_gi (fun h => g_iast (iRow iCX8_addLine_0 15 rfl) kn_46 ka_46 h) ?_
    refine s_nmM (fun M2 => ?_)
    refine s_step (g_aload_n (iRow iCX8_addLine_0 16 rfl) rfl rfl) ?_
    refine s_step (g_dup (iRow iCX8_addLine_0 17 rfl) rfl) ?_
    refine s_step (g_getI (iRow iCX8_addLine_0 18 rfl) f8_18 ko_9) ?_
    refine s_step (g_iconst (iRow iCX8_addLine_0 19 rfl) kc_1) ?_
    refine s_step (g_iadd (iRow iCX8_addLine_0 20 rfl)) ?_
    refine s_step (g_putI (iRow iCX8_addLine_0 21 rfl) f8_18 (Or.inl rfl) ko_9) ?_
    refine s_nmM (fun M3 => ?_)
    exact s_retv (iRow iCX8_addLine_0 22 rfl) rfl
abbrev YX5_readLifeLine : mY := (RX5, "readLifeLine", cX5_readLifeLine, 3, (some .boolean), none)
set_option maxHeartbeats 400000 in
set_option maxRecDepth 20000 in
theorem t_X5_readLifeLine {G : mg} {F : Nat} {M : mm} {x : Bool} {M' : mm} (d : Nat) (h : m_X5_readLifeLine F M = some (x, M')) : CM G yX5_readLifeLine cX5_readLifeLine 3 (some .boolean) (d + 4) [vR 6 0] M (some (vI (bI x))) M' := by
  refine ct_z (ls := [some (vR 6 0), none, none]) rfl rfl (Nat.le_of_ble_eq_true rfl) (fun Z => ?_) h
  show SW G (d + 4) YX5_readLifeLine Z 0 [some (vR 6 0), none, none] [] M _ _
  unfold m_X5_readLifeLine
  refine s_step (g_aload_n (iRow iCX5_readLifeLine_0 0 rfl) rfl rfl) ?_
  refine s_step (g_getR (iRow iCX5_readLifeLine_0 1 rfl) f5_9 ko_6 (r_6_0 _ _)) ?_
  refine s_step (g_getI (iRow iCX5_readLifeLine_0 2 rfl) f5_63 ko_7) ?_
  refine s_step (g_bipush (iRow iCX5_readLifeLine_0 3 rfl) kb_14) ?_
  refine s_nj 24 (fun z => [some (vR 6 0), none, none]) (fun z => []) (fun z => M) ?_ (fun j24 hj24 => ?_)
  · intro _
    show SW G (d + 4) YX5_readLifeLine Z 24 [some (vR 6 0), none, none] [] M _ _
    try dsimp only
    refine s_step (g_aload_n (iRow iCX5_readLifeLine_0 10 rfl) rfl rfl) ?_
    refine s_step (g_iconst (iRow iCX5_readLifeLine_0 11 rfl) kc_1) ?_
    refine s_cb (sf := fun b => vI (bI b) :: []) (fun _ _ h => h_V (As := [_]) (iRow iCX5_readLifeLine_0 12 rfl) l5_87 iX5_wrong ko_6 rfl rfl rfl rfl (t_X5_wrong (d + 3) h) rfl (by omega) (by decide) (Nat.le_of_ble_eq_true rfl)) (fun b18 M17 => ?_)
    exact s_retz (iRow iCX5_readLifeLine_0 13 rfl) rfl rfl
  · refine s_if (g_icmp_lt (tgt := 24) (iRow iCX5_readLifeLine_0 4 rfl) (by decide)) (fun _ => ?_) (fun _ => ?_)
    · exact hj24 _
    · refine s_step (g_aload_n (iRow iCX5_readLifeLine_0 5 rfl) rfl rfl) ?_
      refine s_step (g_getR (iRow iCX5_readLifeLine_0 6 rfl) f5_9 ko_6 (r_6_0 _ _)) ?_
      refine s_step (g_getI (iRow iCX5_readLifeLine_0 7 rfl) f5_63 ko_7) ?_
      refine s_step (g_bipush (iRow iCX5_readLifeLine_0 8 rfl) kb_17) ?_
      refine s_if (g_icmp_le (tgt := 30) (iRow iCX5_readLifeLine_0 9 rfl) (by decide)) (fun _ => ?_) (fun _ => ?_)
      · refine s_step (g_aload_n (iRow iCX5_readLifeLine_0 14 rfl) rfl rfl) ?_
        refine s_step (g_getR (iRow iCX5_readLifeLine_0 15 rfl) f5_19 ko_6 (r_6_3 _ _)) ?_
        refine s_step (g_getI (iRow iCX5_readLifeLine_0 16 rfl) f5_201 ko_9) ?_
        refine s_step (g_bipush (iRow iCX5_readLifeLine_0 17 rfl) kb_40) ?_
        refine s_if (g_icmp_lt (tgt := 48) (iRow iCX5_readLifeLine_0 18 rfl) (by decide)) (fun _ => ?_) (fun _ => ?_)
        · refine s_step (g_aload_n (iRow iCX5_readLifeLine_0 23 rfl) rfl rfl) ?_
          refine s_step (g_getR (iRow iCX5_readLifeLine_1 0 rfl) f5_9 ko_6 (r_6_0 _ _)) ?_
          refine s_step (g_getI (iRow iCX5_readLifeLine_1 1 rfl) f5_63 ko_7) ?_
          refine s_step (g_bipush (iRow iCX5_readLifeLine_1 2 rfl) kb_14) ?_
          refine s_step (g_isub (iRow iCX5_readLifeLine_1 3 rfl)) ?_
          refine s_nmI (fun x1 => ?_)
          refine s_step (g_istore_n (ls' := [some (vR 6 0), some (vI x1), none]) (iRow iCX5_readLifeLine_1 4 rfl) rfl (by decide) rfl) ?_
          refine s_step (g_aload_n (iRow iCX5_readLifeLine_1 5 rfl) rfl rfl) ?_
          refine s_step (g_getR (iRow iCX5_readLifeLine_1 6 rfl) f5_9 ko_6 (r_6_0 _ _)) ?_
          refine s_cv (stA := []) (fun _ h => h_V (As := []) (iRow iCX5_readLifeLine_1 7 rfl) l5_94 iX6_next ko_7 rfl rfl rfl rfl (t_X6_next (d + 1) h) rfl (by omega) (by decide) (Nat.le_of_ble_eq_true rfl)) (fun M2 => ?_)
          refine s_step (g_aload_n (iRow iCX5_readLifeLine_1 8 rfl) rfl rfl) ?_
          refine s_step (g_iconst (iRow iCX5_readLifeLine_1 9 rfl) kc_0) ?_
          refine s_step (g_putI (iRow iCX5_readLifeLine_1 10 rfl) f5_135 (Or.inl rfl) ko_6) ?_
          refine s_nmM (fun M3 => ?_)
          refine s_step (g_iload_n (iRow iCX5_readLifeLine_1 11 rfl) rfl rfl) ?_
          refine s_step (g_iconst (iRow iCX5_readLifeLine_1 12 rfl) kc_3) ?_
          refine s_nj 134 (fun z => [some (vR 6 0), some (vI x1), none]) (fun z => []) (fun z => z) ?_ (fun j134 hj134 => ?_)
          · rintro M11
            show SW G (d + 4) YX5_readLifeLine Z 134 [some (vR 6 0), some (vI x1), none] [] M11 _ _
            try dsimp only
            refine s_step (g_aload_n (iRow iCX5_readLifeLine_2 18 rfl) rfl rfl) ?_
            refine s_step (g_getR (iRow iCX5_readLifeLine_2 19 rfl) f5_19 ko_6 (r_6_3 _ _)) ?_
            refine s_step (g_iload_n (iRow iCX5_readLifeLine_2 20 rfl) rfl rfl) ?_
            refine s_step (g_aload_n (iRow iCX5_readLifeLine_2 21 rfl) rfl rfl) ?_
            refine s_step (g_getI (iRow iCX5_readLifeLine_2 22 rfl) f5_135 ko_6) ?_
            refine s_cv (stA := []) (fun _ h => h_V (As := [_, _]) (iRow iCX5_readLifeLine_2 23 rfl) l5_204 iX8_addLine ko_9 rfl rfl rfl rfl (t_X8_addLine (d + 3) h) rfl (by omega) (by decide) (Nat.le_of_ble_eq_true rfl)) (fun M12 => ?_)
            refine s_step (g_aload_n (iRow iCX5_readLifeLine_3 0 rfl) rfl rfl) ?_
            refine s_cb (sf := fun b => vI (bI b) :: []) (fun _ _ h => h_V (As := []) (iRow iCX5_readLifeLine_3 1 rfl) l5_118 iX5_takeEnd ko_6 rfl rfl rfl rfl (t_X5_takeEnd (d + 0) h) rfl (by omega) (by decide) (Nat.le_of_ble_eq_true rfl)) (fun b14 M13 => ?_)
            exact s_retz (iRow iCX5_readLifeLine_3 2 rfl) rfl rfl
          · refine s_if (g_icmp_eq (tgt := 134) (iRow iCX5_readLifeLine_1 13 rfl) (by decide)) (fun _ => ?_) (fun _ => ?_)
            · exact hj134 _
            · refine s_step (g_iload_n (iRow iCX5_readLifeLine_1 14 rfl) rfl rfl) ?_
              refine s_step (g_iconst (iRow iCX5_readLifeLine_1 15 rfl) kc_2) ?_
              refine s_bd (fun z => LM G (d + 4) YX5_readLifeLine Z 120 [some (vR 6 0), some (vI x1), none] [vI (z.1)] z.2) ?_ ?_
              · refine s_ifn (g_icmp_ne (tgt := 102) (iRow iCX5_readLifeLine_1 16 rfl) (by decide)) (fun _ => ?_) (fun _ => ?_)
                · refine s_step (g_aload_n (iRow iCX5_readLifeLine_1 17 rfl) rfl rfl) ?_
                  refine s_step (g_aload_n (iRow iCX5_readLifeLine_1 18 rfl) rfl rfl) ?_
                  refine s_step (g_getR (iRow iCX5_readLifeLine_1 19 rfl) f5_15 ko_6 (r_6_2 _ _)) ?_
                  refine s_step (g_getR (iRow iCX5_readLifeLine_1 20 rfl) f5_172 ko_1 (r_1_14 _ _)) ?_
                  refine s_step (g_aload_n (iRow iCX5_readLifeLine_1 21 rfl) rfl rfl) ?_
                  refine s_step (g_getR (iRow iCX5_readLifeLine_1 22 rfl) f5_15 ko_6 (r_6_2 _ _)) ?_
                  refine s_step (g_getI (iRow iCX5_readLifeLine_1 23 rfl) f5_151 ko_1) ?_
                  refine s_cb (sf := fun b => vI (bI b) :: []) (fun _ _ h => h_V (As := [_, _]) (iRow iCX5_readLifeLine_2 0 rfl) l5_131 iX5_seeKnown ko_6 rfl rfl rfl rfl (t_X5_seeKnown_30 (d + 2) h) rfl (by omega) (by decide) (Nat.le_of_ble_eq_true rfl)) (fun b7 M6 => ?_)
                  refine s_step (g_goto (tgt := 120) (iRow iCX5_readLifeLine_2 1 rfl) (by decide)) ?_
                  exact s_end (fun h => h)
                · refine s_step (g_aload_n (iRow iCX5_readLifeLine_2 2 rfl) rfl rfl) ?_
                  refine s_step (g_aload_n (iRow iCX5_readLifeLine_2 3 rfl) rfl rfl) ?_
                  refine s_step (g_getR (iRow iCX5_readLifeLine_2 4 rfl) f5_15 ko_6 (r_6_2 _ _)) ?_
                  refine s_step (g_getR (iRow iCX5_readLifeLine_2 5 rfl) f5_142 ko_1 (r_1_6 _ _)) ?_
                  refine s_step (g_aload_n (iRow iCX5_readLifeLine_2 6 rfl) rfl rfl) ?_
                  refine s_step (g_getR (iRow iCX5_readLifeLine_2 7 rfl) f5_15 ko_6 (r_6_2 _ _)) ?_
                  refine s_step (g_getI (iRow iCX5_readLifeLine_2 8 rfl) f5_128 ko_1) ?_
                  refine s_cb (sf := fun b => vI (bI b) :: []) (fun _ _ h => h_V (As := [_, _]) (iRow iCX5_readLifeLine_2 9 rfl) l5_131 iX5_seeKnown ko_6 rfl rfl rfl rfl (t_X5_seeKnown_24 (d + 2) h) rfl (by omega) (by decide) (Nat.le_of_ble_eq_true rfl)) (fun b5 M4 => ?_)
                  exact s_end (fun h => h)
              · rintro ⟨x8, M9⟩
                show SW G (d + 4) YX5_readLifeLine Z 120 [some (vR 6 0), some (vI x1), none] [vI x8] M9 _ _
                try dsimp only
                refine s_step (g_istore_n (ls' := [some (vR 6 0), some (vI x1), some (vI x8)]) (iRow iCX5_readLifeLine_2 10 rfl) rfl (by decide) rfl) ?_
                refine s_step (g_iload_n (iRow iCX5_readLifeLine_2 11 rfl) rfl rfl) ?_
                refine s_ifn (g_if_ne (tgt := 127) (iRow iCX5_readLifeLine_2 12 rfl) (by decide)) (fun _ => ?_) (fun _ => ?_)
                · refine s_step (g_iconst (iRow iCX5_readLifeLine_2 13 rfl) kc_0) ?_
                  exact s_retz (b := false) (iRow iCX5_readLifeLine_2 14 rfl) rfl rfl
                · refine s_step (g_aload_n (iRow iCX5_readLifeLine_2 15 rfl) rfl rfl) ?_
                  refine s_step (g_getR (iRow iCX5_readLifeLine_2 16 rfl) f5_9 ko_6 (r_6_0 _ _)) ?_
                  refine s_cv (stA := []) (fun _ h => h_V (As := []) (iRow iCX5_readLifeLine_2 17 rfl) l5_94 iX6_next ko_7 rfl rfl rfl rfl (t_X6_next (d + 1) h) rfl (by omega) (by decide) (Nat.le_of_ble_eq_true rfl)) (fun M10 => ?_)
                  refine s_step (g_keep [true, true, false] rfl) ?_
                  exact hj134 _
        · refine s_step (g_aload_n (iRow iCX5_readLifeLine_0 19 rfl) rfl rfl) ?_
          refine s_step (g_iconst (iRow iCX5_readLifeLine_0 20 rfl) kc_5) ?_
          refine s_cb (sf := fun b => vI (bI b) :: []) (fun _ _ h => h_V (As := [_]) (iRow iCX5_readLifeLine_0 21 rfl) l5_87 iX5_wrong ko_6 rfl rfl rfl rfl (t_X5_wrong (d + 3) h) rfl (by omega) (by decide) (Nat.le_of_ble_eq_true rfl)) (fun b16 M15 => ?_)
          exact s_retz (iRow iCX5_readLifeLine_0 22 rfl) rfl rfl
      · exact hj24 _
abbrev YX5_readLife : mY := (RX5, "readLife", cX5_readLife, 4, (some .int), none)
set_option maxHeartbeats 400000 in
set_option maxRecDepth 20000 in
theorem t_X5_readLife {G : mg} {F : Nat} {a1 : Nat} {a2 : Nat} {M : mm} {x : Int32} {M' : mm} (d : Nat) (h : m_X5_readLife F a1 a2 M = some (x, M')) : CM G yX5_readLife cX5_readLife 4 (some .int) (d + 5) [vR 6 0, vR 1 a1, vR 9 a2] M (some (vI x)) M' := by
  refine ct_i (ls := [some (vR 6 0), some (vR 1 a1), some (vR 9 a2), none]) rfl rfl (Nat.le_of_ble_eq_true rfl) (fun Z => ?_) h
  show SW G (d + 5) YX5_readLife Z 0 [some (vR 6 0), some (vR 1 a1), some (vR 9 a2), none] [] M _ _
  unfold m_X5_readLife
  refine s_step (g_aload_n (iRow iCX5_readLife_0 0 rfl) rfl rfl) ?_
  refine s_step (g_aload_n (iRow iCX5_readLife_0 1 rfl) rfl rfl) ?_
  refine s_step (g_putR (r := a1) (iRow iCX5_readLife_0 2 rfl) f5_15 (Or.inl rfl) ko_6 (r_6_2 _ _)) ?_
  refine s_nmM (fun M1 => ?_)
  refine s_step (g_aload_n (iRow iCX5_readLife_0 3 rfl) rfl rfl) ?_
  refine s_step (g_aload_n (iRow iCX5_readLife_0 4 rfl) rfl rfl) ?_
  refine s_step (g_putR (r := a2) (iRow iCX5_readLife_0 5 rfl) f5_19 (Or.inl rfl) ko_6 (r_6_3 _ _)) ?_
  refine s_nmM (fun M2 => ?_)
  refine s_step (g_aload_n (iRow iCX5_readLife_0 6 rfl) rfl rfl) ?_
  refine s_step (g_getR (iRow iCX5_readLife_0 7 rfl) f5_19 ko_6 (r_6_3 _ _)) ?_
  refine s_cv (stA := []) (fun _ h => h_V (As := []) (iRow iCX5_readLife_0 8 rfl) l5_57 iX8_clear ko_9 rfl rfl rfl rfl (t_X8_clear (d + 4) h) rfl (by omega) (by decide) (Nat.le_of_ble_eq_true rfl)) (fun M3 => ?_)
  refine s_step (g_aload_n (iRow iCX5_readLife_0 9 rfl) rfl rfl) ?_
  refine s_step (g_iconst (iRow iCX5_readLife_0 10 rfl) kc_0) ?_
  refine s_step (g_putI (iRow iCX5_readLife_0 11 rfl) f5_41 (Or.inl rfl) ko_6) ?_
  refine s_nmM (fun M4 => ?_)
  refine s_step (g_aload_n (iRow iCX5_readLife_0 12 rfl) rfl rfl) ?_
  refine s_step (g_getR (iRow iCX5_readLife_0 13 rfl) f5_9 ko_6 (r_6_0 _ _)) ?_
  refine s_cv (stA := []) (fun _ h => h_V (As := []) (iRow iCX5_readLife_0 14 rfl) l5_45 iX6_start ko_7 rfl rfl rfl rfl (t_X6_start (d + 1) h) rfl (by omega) (by decide) (Nat.le_of_ble_eq_true rfl)) (fun M5 => ?_)
  refine s_step (g_iconst (iRow iCX5_readLife_0 15 rfl) kc_0) ?_
  refine s_step (g_istore_n (ls' := [some (vR 6 0), some (vR 1 a1), some (vR 9 a2), some (vI (0 : Int32))]) (iRow iCX5_readLife_0 16 rfl) rfl (by decide) rfl) ?_
  refine s_step (g_keep [true, false, false, true] rfl) ?_
  refine s_lp (fun z => [some (vR 6 0), none, none, some (vI (z.1))]) (fun z => z.2) (Sum.elim (fun z => LM G (d + 5) YX5_readLife Z 55 [some (vR 6 0), none, none, none] [] z) (fun z => LM G (d + 5) YX5_readLife Z 66 [none, none, none, none] [] z)) rfl rfl ?_ ?_
  · rintro ⟨x6, M7⟩
    show SW G (d + 5) YX5_readLife Z 31 [some (vR 6 0), none, none, some (vI x6)] [] M7 (b_X5_readLife_1c F x6 M7) _
    unfold b_X5_readLife_1c
    refine s_step (g_iload_n (iRow iCX5_readLife_0 17 rfl) rfl rfl) ?_
    refine s_step (g_sipush (iRow iCX5_readLife_0 18 rfl) ks_1000) ?_
    refine s_if (g_icmp_gt (tgt := 66) (iRow iCX5_readLife_0 19 rfl) (by decide)) (fun _ => ?_) (fun _ => ?_)
    · refine s_step (g_keep [false, false, false, false] rfl) ?_
      exact s_end (fun h => h)
    · refine s_step (g_aload_n (iRow iCX5_readLife_0 20 rfl) rfl rfl) ?_
      refine s_step (g_getR (iRow iCX5_readLife_0 21 rfl) f5_9 ko_6 (r_6_0 _ _)) ?_
      refine s_step (g_getI (iRow iCX5_readLife_0 22 rfl) f5_50 ko_7) ?_
      refine s_if (g_if_eq (tgt := 66) (iRow iCX5_readLife_0 23 rfl) (by decide)) (fun _ => ?_) (fun _ => ?_)
      · refine s_step (g_keep [false, false, false, false] rfl) ?_
        exact s_end (fun h => h)
      · refine s_step (g_aload_n (iRow iCX5_readLife_1 0 rfl) rfl rfl) ?_
        refine s_cb (sf := fun b => vI (bI b) :: []) (fun _ _ h => h_V (As := []) (iRow iCX5_readLife_1 1 rfl) l5_60 iX5_readLifeLine ko_6 rfl rfl rfl rfl (t_X5_readLifeLine (d + 0) h) rfl (by omega) (by decide) (Nat.le_of_ble_eq_true rfl)) (fun b9 M8 => ?_)
        refine s_ifneb (g_if_ne (tgt := 60) (iRow iCX5_readLife_1 2 rfl) (by decide)) (fun _ => ?_) (fun _ => ?_)
        · refine s_step (g_iincc (c := 1) (ls' := [some (vR 6 0), none, none, some (vI (x6 + (1 : Int32)))]) (iRow iCX5_readLife_1 6 rfl) rfl kc_1 (by decide) rfl) ?_
          refine s_step (g_goto (tgt := 31) (iRow iCX5_readLife_1 7 rfl) (by decide)) ?_
          exact s_end (fun h => h)
        · refine s_step (g_keep [true, false, false, false] rfl) ?_
          exact s_end (fun h => h)
  · intro z
    rcases z with z | z
    · generalize z = M10
      show SW G (d + 5) YX5_readLife Z 55 [some (vR 6 0), none, none, none] [] M10 _ _
      try dsimp only [Sum.elim]
      refine s_step (g_aload_n (iRow iCX5_readLife_1 3 rfl) rfl rfl) ?_
      refine s_step (g_getI (iRow iCX5_readLife_1 4 rfl) f5_41 ko_6) ?_
      exact s_reti (iRow iCX5_readLife_1 5 rfl) rfl
    · generalize z = M11
      show SW G (d + 5) YX5_readLife Z 66 [none, none, none, none] [] M11 _ _
      try dsimp only [Sum.elim]
      refine s_step (g_iconst (iRow iCX5_readLife_1 8 rfl) kc_0) ?_
      exact s_reti (iRow iCX5_readLife_1 9 rfl) rfl
abbrev YX8_copyLife : mY := (RX8, "copyLife", cX8_copyLife, 3, none, none)
set_option maxHeartbeats 400000 in
set_option maxRecDepth 20000 in
theorem t_X8_copyLife {G : mg} {F : Nat} {o : Nat} {a1 : Nat} {M : mm} {M' : mm} (d : Nat) (h : m_X8_copyLife F o a1 M = some M') : CM G yX8_copyLife cX8_copyLife 3 none (d + 0) [vR 9 o, vR 9 a1] M none M' := by
  refine ct_v (ls := [some (vR 9 o), some (vR 9 a1), none]) rfl rfl (Nat.le_of_ble_eq_true rfl) (fun Z => ?_) h
  show SW G (d + 0) YX8_copyLife Z 0 [some (vR 9 o), some (vR 9 a1), none] [] M _ _
  unfold m_X8_copyLife
  refine s_step (g_aload_n (iRow iCX8_copyLife_0 0 rfl) rfl rfl) ?_
  refine s_step (g_aload_n (iRow iCX8_copyLife_0 1 rfl) rfl rfl) ?_
  refine s_step (g_getI (iRow iCX8_copyLife_0 2 rfl) f8_18 ko_9) ?_
  refine s_step (g_putI (iRow iCX8_copyLife_0 3 rfl) f8_18 (Or.inl rfl) ko_9) ?_
  refine s_nmM (fun M1 => ?_)
  refine s_step (g_iconst (iRow iCX8_copyLife_0 4 rfl) kc_0) ?_
  refine s_step (g_istore_n (ls' := [some (vR 9 o), some (vR 9 a1), some (vI (0 : Int32))]) (iRow iCX8_copyLife_0 5 rfl) rfl (by decide) rfl) ?_
  refine s_lp (fun z => [some (vR 9 o), some (vR 9 a1), some (vI (z.1))]) (fun z => z.2) (fun z => LM G (d + 0) YX8_copyLife Z 46 [none, none, none] [] z) rfl rfl ?_ ?_
  · rintro ⟨x2, M3⟩
    show SW G (d + 0) YX8_copyLife Z 10 [some (vR 9 o), some (vR 9 a1), some (vI x2)] [] M3 (b_X8_copyLife_1c F o a1 x2 M3) _
    unfold b_X8_copyLife_1c
    refine s_step (g_iload_n (iRow iCX8_copyLife_0 6 rfl) rfl rfl) ?_
    refine s_step (g_bipush (iRow iCX8_copyLife_0 7 rfl) kb_40) ?_
    refine s_if (g_icmp_ge (tgt := 46) (iRow iCX8_copyLife_0 8 rfl) (by decide)) (fun _ => ?_) (fun _ => ?_)
    · refine s_step (g_keep [false, false, false] rfl) ?_
      exact s_end (fun h => h)
    · refine s_step (g_aload_n (iRow iCX8_copyLife_0 9 rfl) rfl rfl) ?_
      refine s_step (g_getR (iRow iCX8_copyLife_0 10 rfl) f8_9 ko_9 (r_9_1 _ _)) ?_
      refine s_step (g_iload_n (iRow iCX8_copyLife_0 11 rfl) rfl rfl) ?_
      refine s_step (g_aload_n (iRow iCX8_copyLife_0 12 rfl) rfl rfl) ?_
      refine s_step (g_getR (iRow iCX8_copyLife_0 13 rfl) f8_9 ko_9 (r_9_1 _ _)) ?_
      refine s_step (g_iload_n (iRow iCX8_copyLife_0 14 rfl) rfl rfl) ?_
      refine s_gi (fun h => g_iald (iRow iCX8_copyLife_0 15 rfl) kn_45 ka_45 h) ?_
      refine s_gi (fun h => g_iast (iRow iCX8_copyLife_0 16 rfl) kn_45 ka_45 h) ?_
      refine s_nmM (fun M4 => ?_)
      refine s_step (g_aload_n (iRow iCX8_copyLife_0 17 rfl) rfl rfl) ?_
      refine s_step (g_getR (iRow iCX8_copyLife_0 18 rfl) f8_15 ko_9 (r_9_2 _ _)) ?_
      refine s_step (g_iload_n (iRow iCX8_copyLife_0 19 rfl) rfl rfl) ?_
      refine s_step (g_aload_n (iRow iCX8_copyLife_0 20 rfl) rfl rfl) ?_
      refine s_step (g_getR (iRow iCX8_copyLife_0 21 rfl) f8_15 ko_9 (r_9_2 _ _)) ?_
      refine s_step (g_iload_n (iRow iCX8_copyLife_0 22 rfl) rfl rfl) ?_
      refine s_gi (fun h => g_iald (iRow iCX8_copyLife_0 23 rfl) kn_46 ka_46 h) ?_
      refine s_gi (fun h => g_iast (iRow iCX8_copyLife_1 0 rfl) kn_46 ka_46 h) ?_
      refine s_nmM (fun M5 => ?_)
      refine s_step (g_iincc (c := 1) (ls' := [some (vR 9 o), some (vR 9 a1), some (vI (x2 + (1 : Int32)))]) (iRow iCX8_copyLife_1 1 rfl) rfl kc_1 (by decide) rfl) ?_
      refine s_step (g_goto (tgt := 10) (iRow iCX8_copyLife_1 2 rfl) (by decide)) ?_
      exact s_end (fun h => h)
  · rintro M6
    show SW G (d + 0) YX8_copyLife Z 46 [none, none, none] [] M6 _ _
    try dsimp only
    exact s_retv (iRow iCX8_copyLife_1 3 rfl) rfl
abbrev YX11_life : mY := (RX11, "life", cX11_life, 2, (some .int), none)
set_option maxHeartbeats 400000 in
set_option maxRecDepth 20000 in
theorem t_X11_life {G : mg} {F : Nat} {M : mm} {x : Int32} {M' : mm} (d : Nat) (h : m_X11_life F M = some (x, M')) : CM G yX11_life cX11_life 2 (some .int) (d + 6) [vR 12 0] M (some (vI x)) M' := by
  refine ct_i (ls := [some (vR 12 0), none]) rfl rfl (Nat.le_of_ble_eq_true rfl) (fun Z => ?_) h
  show SW G (d + 6) YX11_life Z 0 [some (vR 12 0), none] [] M _ _
  unfold m_X11_life
  refine s_step (g_aload_n (iRow iCX11_life_0 0 rfl) rfl rfl) ?_
  refine s_step (g_getR (iRow iCX11_life_0 1 rfl) f11_41 ko_12 (r_12_1 _ _)) ?_
  refine s_step (g_aload_n (iRow iCX11_life_0 2 rfl) rfl rfl) ?_
  refine s_step (g_getR (iRow iCX11_life_0 3 rfl) f11_10 ko_12 (r_12_6 _ _)) ?_
  refine s_step (g_aload_n (iRow iCX11_life_0 4 rfl) rfl rfl) ?_
  refine s_step (g_getR (iRow iCX11_life_0 5 rfl) f11_26 ko_12 (r_12_11 _ _)) ?_
  refine s_cl (sf := fun x => vI x :: []) (fun _ _ h => h_V (As := [_, _]) (iRow iCX11_life_0 6 rfl) l11_129 iX5_readLife ko_6 rfl rfl rfl rfl (t_X5_readLife (d + 0) h) rfl (by omega) (by decide) (Nat.le_of_ble_eq_true rfl)) (fun x2 M1 => ?_)
  refine s_step (g_istore_n (ls' := [some (vR 12 0), some (vI x2)]) (iRow iCX11_life_0 7 rfl) rfl (by decide) rfl) ?_
  refine s_step (g_aload_n (iRow iCX11_life_0 8 rfl) rfl rfl) ?_
  refine s_step (g_getR (iRow iCX11_life_0 9 rfl) f11_32 ko_12 (r_12_0 _ _)) ?_
  refine s_cv (stA := []) (fun _ h => h_V (As := []) (iRow iCX11_life_0 10 rfl) l11_112 iX6_clear ko_7 rfl rfl rfl rfl (t_X6_clear (d + 5) h) rfl (by omega) (by decide) (Nat.le_of_ble_eq_true rfl)) (fun M3 => ?_)
  refine s_step (g_iload_n (iRow iCX11_life_0 11 rfl) rfl rfl) ?_
  refine s_ifn (g_if_ne (tgt := 38) (iRow iCX11_life_0 12 rfl) (by decide)) (fun _ => ?_) (fun _ => ?_)
  · refine s_step (g_aload_n (iRow iCX11_life_0 13 rfl) rfl rfl) ?_
    refine s_step (g_getR (iRow iCX11_life_0 14 rfl) f11_22 ko_12 (r_12_10 _ _)) ?_
    refine s_step (g_aload_n (iRow iCX11_life_0 15 rfl) rfl rfl) ?_
    refine s_step (g_getR (iRow iCX11_life_0 16 rfl) f11_26 ko_12 (r_12_11 _ _)) ?_
    refine s_cv (stA := []) (fun _ h => h_V (As := [_]) (iRow iCX11_life_0 17 rfl) l11_133 iX8_copyLife ko_9 rfl rfl rfl rfl (t_X8_copyLife (d + 5) h) rfl (by omega) (by decide) (Nat.le_of_ble_eq_true rfl)) (fun M4 => ?_)
    refine s_step (g_iload_n (iRow iCX11_life_0 18 rfl) rfl rfl) ?_
    exact s_reti (iRow iCX11_life_0 19 rfl) rfl
  · refine s_step (g_iload_n (iRow iCX11_life_0 18 rfl) rfl rfl) ?_
    exact s_reti (iRow iCX11_life_0 19 rfl) rfl
abbrev YX11_person : mY := (RX11, "person", cX11_person, 3, (some .int), none)
set_option maxHeartbeats 400000 in
set_option maxRecDepth 20000 in
theorem t_X11_person {G : mg} {F : Nat} {a1 : Int32} {a2 : Int32} {M : mm} {x : Int32} {M' : mm} (d : Nat) (h : m_X11_person F a1 a2 M = some (x, M')) : CM G yX11_person cX11_person 3 (some .int) (d + 0) [vR 12 0, vI a1, vI a2] M (some (vI x)) M' := by
  refine ct_i (ls := [some (vR 12 0), some (vI a1), some (vI a2)]) rfl rfl (Nat.le_of_ble_eq_true rfl) (fun Z => ?_) h
  show SW G (d + 0) YX11_person Z 0 [some (vR 12 0), some (vI a1), some (vI a2)] [] M _ _
  unfold m_X11_person
  refine s_step (g_iload_n (iRow iCX11_person_0 0 rfl) rfl rfl) ?_
  refine s_if (g_if_lt (tgt := 15) (iRow iCX11_person_0 1 rfl) (by decide)) (fun _ => ?_) (fun _ => ?_)
  · refine s_step (g_iconst (iRow iCX11_person_0 7 rfl) kc_m1) ?_
    exact s_reti (iRow iCX11_person_0 8 rfl) rfl
  · refine s_step (g_iload_n (iRow iCX11_person_0 2 rfl) rfl rfl) ?_
    refine s_step (g_aload_n (iRow iCX11_person_0 3 rfl) rfl rfl) ?_
    refine s_step (g_getR (iRow iCX11_person_0 4 rfl) f11_10 ko_12 (r_12_6 _ _)) ?_
    refine s_step (g_getI (iRow iCX11_person_0 5 rfl) f11_137 ko_1) ?_
    refine s_if (g_icmp_lt (tgt := 17) (iRow iCX11_person_0 6 rfl) (by decide)) (fun _ => ?_) (fun _ => ?_)
    · refine s_step (g_iload_n (iRow iCX11_person_0 9 rfl) rfl rfl) ?_
      refine s_ite (fun hs0 => ?_) (fun hs0 => ?_)
      · refine s_step (g_tableIn (tgt := 48) (off := 30) (iRow iCX11_person_0 10 rfl) (sw_lo hs0 (by decide)) (sw_hi hs0 (by decide)) (sw_at hs0 (by decide)) (by decide)) ?_
        refine s_step (g_aload_n (iRow iCX11_person_0 11 rfl) rfl rfl) ?_
        refine s_step (g_getR (iRow iCX11_person_0 12 rfl) f11_10 ko_12 (r_12_6 _ _)) ?_
        refine s_step (g_getR (iRow iCX11_person_0 13 rfl) f11_140 ko_1 (r_1_2 _ _)) ?_
        refine s_step (g_iload_n (iRow iCX11_person_0 14 rfl) rfl rfl) ?_
        refine s_gi (fun h => g_iald (iRow iCX11_person_0 15 rfl) kn_21 ka_21 h) ?_
        exact s_reti (iRow iCX11_person_0 16 rfl) rfl
      · refine s_ite (fun hs1 => ?_) (fun hs1 => ?_)
        · refine s_step (g_tableIn (tgt := 58) (off := 40) (iRow iCX11_person_0 10 rfl) (sw_lo hs1 (by decide)) (sw_hi hs1 (by decide)) (sw_at hs1 (by decide)) (by decide)) ?_
          refine s_step (g_aload_n (iRow iCX11_person_0 17 rfl) rfl rfl) ?_
          refine s_step (g_getR (iRow iCX11_person_0 18 rfl) f11_10 ko_12 (r_12_6 _ _)) ?_
          refine s_step (g_getR (iRow iCX11_person_0 19 rfl) f11_144 ko_1 (r_1_3 _ _)) ?_
          refine s_step (g_iload_n (iRow iCX11_person_0 20 rfl) rfl rfl) ?_
          refine s_gi (fun h => g_iald (iRow iCX11_person_0 21 rfl) kn_22 ka_22 h) ?_
          exact s_reti (iRow iCX11_person_0 22 rfl) rfl
        · refine s_ite (fun hs2 => ?_) (fun hs2 => ?_)
          · refine s_step (g_tableIn (tgt := 68) (off := 50) (iRow iCX11_person_0 10 rfl) (sw_lo hs2 (by decide)) (sw_hi hs2 (by decide)) (sw_at hs2 (by decide)) (by decide)) ?_
            refine s_step (g_aload_n (iRow iCX11_person_0 23 rfl) rfl rfl) ?_
            refine s_step (g_getR (iRow iCX11_person_1 0 rfl) f11_10 ko_12 (r_12_6 _ _)) ?_
            refine s_step (g_getR (iRow iCX11_person_1 1 rfl) f11_147 ko_1 (r_1_4 _ _)) ?_
            refine s_step (g_iload_n (iRow iCX11_person_1 2 rfl) rfl rfl) ?_
            refine s_gi (fun h => g_iald (iRow iCX11_person_1 3 rfl) kn_23 ka_23 h) ?_
            exact s_reti (iRow iCX11_person_1 4 rfl) rfl
          · refine s_ite (fun hs3 => ?_) (fun hs3 => ?_)
            · refine s_step (g_tableIn (tgt := 78) (off := 60) (iRow iCX11_person_0 10 rfl) (sw_lo hs3 (by decide)) (sw_hi hs3 (by decide)) (sw_at hs3 (by decide)) (by decide)) ?_
              refine s_step (g_aload_n (iRow iCX11_person_1 5 rfl) rfl rfl) ?_
              refine s_step (g_getR (iRow iCX11_person_1 6 rfl) f11_10 ko_12 (r_12_6 _ _)) ?_
              refine s_step (g_getR (iRow iCX11_person_1 7 rfl) f11_147 ko_1 (r_1_4 _ _)) ?_
              refine s_step (g_iload_n (iRow iCX11_person_1 8 rfl) rfl rfl) ?_
              refine s_gi (fun h => g_iald (iRow iCX11_person_1 9 rfl) kn_23 ka_23 h) ?_
              refine s_step (g_aload_n (iRow iCX11_person_1 10 rfl) rfl rfl) ?_
              refine s_step (g_getR (iRow iCX11_person_1 11 rfl) f11_82 ko_12 (r_12_8 _ _)) ?_
              refine s_step (g_getI (iRow iCX11_person_1 12 rfl) f11_150 ko_5) ?_
              refine s_step (g_iconst (iRow iCX11_person_1 13 rfl) kc_m1) ?_
              refine s_step (g_ixor (iRow iCX11_person_1 14 rfl)) ?_
              refine s_step (g_iand (iRow iCX11_person_1 15 rfl)) ?_
              exact s_reti (iRow iCX11_person_1 16 rfl) rfl
            · refine s_step (g_tableOut (tgt := 98) (iRow iCX11_person_0 10 rfl) (sw_out [0, 1, 2, 3] (by decide +kernel) ⟨hs0, hs1, hs2, hs3, trivial⟩) (by decide)) ?_
              refine s_step (g_iconst (iRow iCX11_person_1 17 rfl) kc_m1) ?_
              exact s_reti (iRow iCX11_person_1 18 rfl) rfl
    · refine s_step (g_iconst (iRow iCX11_person_0 7 rfl) kc_m1) ?_
      exact s_reti (iRow iCX11_person_0 8 rfl) rfl
abbrev YX0_hasOath : mY := (RX0, "hasOath", cX0_hasOath, 2, (some .boolean), none)
set_option maxHeartbeats 400000 in
set_option maxRecDepth 20000 in
theorem t_X0_hasOath {G : mg} {F : Nat} {o : Nat} {a1 : Int32} {M : mm} {x : Bool} {M' : mm} (d : Nat) (h : m_X0_hasOath F o a1 M = some (x, M')) : CM G yX0_hasOath cX0_hasOath 2 (some .boolean) (d + 0) [vR 1 o, vI a1] M (some (vI (bI x))) M' := by
  refine ct_z (ls := [some (vR 1 o), some (vI a1)]) rfl rfl (Nat.le_of_ble_eq_true rfl) (fun Z => ?_) h
  show SW G (d + 0) YX0_hasOath Z 0 [some (vR 1 o), some (vI a1)] [] M _ _
  unfold m_X0_hasOath
  refine s_step (g_iload_n (iRow iCX0_hasOath_0 0 rfl) rfl rfl) ?_
  refine s_if (g_if_lt (tgt := 16) (iRow iCX0_hasOath_0 1 rfl) (by decide)) (fun _ => ?_) (fun _ => ?_)
  · refine s_step (g_iconst (iRow iCX0_hasOath_0 8 rfl) kc_0) ?_
    exact s_retz (b := false) (iRow iCX0_hasOath_0 9 rfl) rfl rfl
  · refine s_step (g_iload_n (iRow iCX0_hasOath_0 2 rfl) rfl rfl) ?_
    refine s_step (g_aload_n (iRow iCX0_hasOath_0 3 rfl) rfl rfl) ?_
    refine s_step (g_getI (iRow iCX0_hasOath_0 4 rfl) f0_69 ko_1) ?_
    refine s_if (g_icmp_ge (tgt := 16) (iRow iCX0_hasOath_0 5 rfl) (by decide)) (fun _ => ?_) (fun _ => ?_)
    · refine s_step (g_iconst (iRow iCX0_hasOath_0 8 rfl) kc_0) ?_
      exact s_retz (b := false) (iRow iCX0_hasOath_0 9 rfl) rfl rfl
    · refine s_step (g_iconst (iRow iCX0_hasOath_0 6 rfl) kc_1) ?_
      refine s_step (g_goto (tgt := 17) (iRow iCX0_hasOath_0 7 rfl) (by decide)) ?_
      exact s_retz (b := true) (iRow iCX0_hasOath_0 9 rfl) rfl rfl
abbrev YX11_oath : mY := (RX11, "oath", cX11_oath, 3, (some .int), none)
set_option maxHeartbeats 400000 in
set_option maxRecDepth 20000 in
theorem t_X11_oath {G : mg} {F : Nat} {a1 : Int32} {a2 : Int32} {M : mm} {x : Int32} {M' : mm} (d : Nat) (h : m_X11_oath F a1 a2 M = some (x, M')) : CM G yX11_oath cX11_oath 3 (some .int) (d + 3) [vR 12 0, vI a1, vI a2] M (some (vI x)) M' := by
  refine ct_i (ls := [some (vR 12 0), some (vI a1), some (vI a2)]) rfl rfl (Nat.le_of_ble_eq_true rfl) (fun Z => ?_) h
  show SW G (d + 3) YX11_oath Z 0 [some (vR 12 0), some (vI a1), some (vI a2)] [] M _ _
  unfold m_X11_oath
  refine s_step (g_aload_n (iRow iCX11_oath_0 0 rfl) rfl rfl) ?_
  refine s_step (g_getR (iRow iCX11_oath_0 1 rfl) f11_10 ko_12 (r_12_6 _ _)) ?_
  refine s_step (g_iload_n (iRow iCX11_oath_0 2 rfl) rfl rfl) ?_
  refine s_cb (sf := fun b => vI (bI b) :: []) (fun _ _ h => h_V (As := [_]) (iRow iCX11_oath_0 3 rfl) l11_153 iX0_hasOath ko_1 rfl rfl rfl rfl (t_X0_hasOath (d + 2) h) rfl (by omega) (by decide) (Nat.le_of_ble_eq_true rfl)) (fun b2 M1 => ?_)
  refine s_ifneb (g_if_ne (tgt := 13) (iRow iCX11_oath_0 4 rfl) (by decide)) (fun _ => ?_) (fun _ => ?_)
  · refine s_step (g_iload_n (iRow iCX11_oath_0 7 rfl) rfl rfl) ?_
    refine s_ite (fun hs0 => ?_) (fun hs0 => ?_)
    · refine s_step (g_tableIn (tgt := 60) (off := 46) (iRow iCX11_oath_0 8 rfl) (sw_lo hs0 (by decide)) (sw_hi hs0 (by decide)) (sw_at hs0 (by decide)) (by decide)) ?_
      refine s_step (g_aload_n (iRow iCX11_oath_0 9 rfl) rfl rfl) ?_
      refine s_step (g_getR (iRow iCX11_oath_0 10 rfl) f11_10 ko_12 (r_12_6 _ _)) ?_
      refine s_step (g_getR (iRow iCX11_oath_0 11 rfl) f11_157 ko_1 (r_1_7 _ _)) ?_
      refine s_step (g_iload_n (iRow iCX11_oath_0 12 rfl) rfl rfl) ?_
      refine s_gi (fun h => g_iald (iRow iCX11_oath_0 13 rfl) kn_25 ka_25 h) ?_
      exact s_reti (iRow iCX11_oath_0 14 rfl) rfl
    · refine s_ite (fun hs1 => ?_) (fun hs1 => ?_)
      · refine s_step (g_tableIn (tgt := 70) (off := 56) (iRow iCX11_oath_0 8 rfl) (sw_lo hs1 (by decide)) (sw_hi hs1 (by decide)) (sw_at hs1 (by decide)) (by decide)) ?_
        refine s_step (g_aload_n (iRow iCX11_oath_0 15 rfl) rfl rfl) ?_
        refine s_step (g_getR (iRow iCX11_oath_0 16 rfl) f11_10 ko_12 (r_12_6 _ _)) ?_
        refine s_step (g_getR (iRow iCX11_oath_0 17 rfl) f11_160 ko_1 (r_1_8 _ _)) ?_
        refine s_step (g_iload_n (iRow iCX11_oath_0 18 rfl) rfl rfl) ?_
        refine s_gi (fun h => g_iald (iRow iCX11_oath_0 19 rfl) kn_26 ka_26 h) ?_
        exact s_reti (iRow iCX11_oath_0 20 rfl) rfl
      · refine s_ite (fun hs2 => ?_) (fun hs2 => ?_)
        · refine s_step (g_tableIn (tgt := 80) (off := 66) (iRow iCX11_oath_0 8 rfl) (sw_lo hs2 (by decide)) (sw_hi hs2 (by decide)) (sw_at hs2 (by decide)) (by decide)) ?_
          refine s_step (g_aload_n (iRow iCX11_oath_0 21 rfl) rfl rfl) ?_
          refine s_step (g_getR (iRow iCX11_oath_0 22 rfl) f11_10 ko_12 (r_12_6 _ _)) ?_
          refine s_step (g_getR (iRow iCX11_oath_0 23 rfl) f11_163 ko_1 (r_1_9 _ _)) ?_
          refine s_step (g_iload_n (iRow iCX11_oath_1 0 rfl) rfl rfl) ?_
          refine s_gi (fun h => g_iald (iRow iCX11_oath_1 1 rfl) kn_27 ka_27 h) ?_
          exact s_reti (iRow iCX11_oath_1 2 rfl) rfl
        · refine s_ite (fun hs3 => ?_) (fun hs3 => ?_)
          · refine s_step (g_tableIn (tgt := 90) (off := 76) (iRow iCX11_oath_0 8 rfl) (sw_lo hs3 (by decide)) (sw_hi hs3 (by decide)) (sw_at hs3 (by decide)) (by decide)) ?_
            refine s_step (g_aload_n (iRow iCX11_oath_1 3 rfl) rfl rfl) ?_
            refine s_step (g_getR (iRow iCX11_oath_1 4 rfl) f11_10 ko_12 (r_12_6 _ _)) ?_
            refine s_step (g_iload_n (iRow iCX11_oath_1 5 rfl) rfl rfl) ?_
            refine s_step (g_aload_n (iRow iCX11_oath_1 6 rfl) rfl rfl) ?_
            refine s_step (g_getR (iRow iCX11_oath_1 7 rfl) f11_82 ko_12 (r_12_8 _ _)) ?_
            refine s_cl (sf := fun x => vI x :: []) (fun _ _ h => h_V (As := [_, _]) (iRow iCX11_oath_1 8 rfl) l11_166 iX0_strengthOf ko_1 rfl rfl rfl rfl (t_X0_strengthOf (d + 0) h) rfl (by omega) (by decide) (Nat.le_of_ble_eq_true rfl)) (fun x4 M3 => ?_)
            exact s_reti (iRow iCX11_oath_1 9 rfl) rfl
          · refine s_ite (fun hs4 => ?_) (fun hs4 => ?_)
            · refine s_step (g_tableIn (tgt := 103) (off := 89) (iRow iCX11_oath_0 8 rfl) (sw_lo hs4 (by decide)) (sw_hi hs4 (by decide)) (sw_at hs4 (by decide)) (by decide)) ?_
              refine s_step (g_aload_n (iRow iCX11_oath_1 10 rfl) rfl rfl) ?_
              refine s_step (g_getR (iRow iCX11_oath_1 11 rfl) f11_82 ko_12 (r_12_8 _ _)) ?_
              refine s_step (g_getI (iRow iCX11_oath_1 12 rfl) f11_150 ko_5) ?_
              refine s_step (g_iload_n (iRow iCX11_oath_1 13 rfl) rfl rfl) ?_
              refine s_step (g_ishr (iRow iCX11_oath_1 14 rfl)) ?_
              refine s_step (g_iconst (iRow iCX11_oath_1 15 rfl) kc_1) ?_
              refine s_step (g_iand (iRow iCX11_oath_1 16 rfl)) ?_
              exact s_reti (iRow iCX11_oath_1 17 rfl) rfl
            · refine s_ite (fun hs5 => ?_) (fun hs5 => ?_)
              · refine s_step (g_tableIn (tgt := 115) (off := 101) (iRow iCX11_oath_0 8 rfl) (sw_lo hs5 (by decide)) (sw_hi hs5 (by decide)) (sw_at hs5 (by decide)) (by decide)) ?_
                refine s_step (g_aload_n (iRow iCX11_oath_1 18 rfl) rfl rfl) ?_
                refine s_step (g_getR (iRow iCX11_oath_1 19 rfl) f11_82 ko_12 (r_12_8 _ _)) ?_
                refine s_step (g_getI (iRow iCX11_oath_1 20 rfl) f11_170 ko_5) ?_
                refine s_step (g_iload_n (iRow iCX11_oath_1 21 rfl) rfl rfl) ?_
                refine s_step (g_ishr (iRow iCX11_oath_1 22 rfl)) ?_
                refine s_step (g_iconst (iRow iCX11_oath_1 23 rfl) kc_1) ?_
                refine s_step (g_iand (iRow iCX11_oath_2 0 rfl)) ?_
                exact s_reti (iRow iCX11_oath_2 1 rfl) rfl
              · refine s_ite (fun hs6 => ?_) (fun hs6 => ?_)
                · refine s_step (g_tableIn (tgt := 127) (off := 113) (iRow iCX11_oath_0 8 rfl) (sw_lo hs6 (by decide)) (sw_hi hs6 (by decide)) (sw_at hs6 (by decide)) (by decide)) ?_
                  refine s_step (g_aload_n (iRow iCX11_oath_2 2 rfl) rfl rfl) ?_
                  refine s_step (g_getR (iRow iCX11_oath_2 3 rfl) f11_10 ko_12 (r_12_6 _ _)) ?_
                  refine s_step (g_getR (iRow iCX11_oath_2 4 rfl) f11_173 ko_1 (r_1_10 _ _)) ?_
                  refine s_step (g_iload_n (iRow iCX11_oath_2 5 rfl) rfl rfl) ?_
                  refine s_gi (fun h => g_iald (iRow iCX11_oath_2 6 rfl) kn_28 ka_28 h) ?_
                  exact s_reti (iRow iCX11_oath_2 7 rfl) rfl
                · refine s_ite (fun hs7 => ?_) (fun hs7 => ?_)
                  · refine s_step (g_tableIn (tgt := 137) (off := 123) (iRow iCX11_oath_0 8 rfl) (sw_lo hs7 (by decide)) (sw_hi hs7 (by decide)) (sw_at hs7 (by decide)) (by decide)) ?_
                    refine s_step (g_aload_n (iRow iCX11_oath_2 8 rfl) rfl rfl) ?_
                    refine s_step (g_getR (iRow iCX11_oath_2 9 rfl) f11_10 ko_12 (r_12_6 _ _)) ?_
                    refine s_step (g_getR (iRow iCX11_oath_2 10 rfl) f11_176 ko_1 (r_1_11 _ _)) ?_
                    refine s_step (g_iload_n (iRow iCX11_oath_2 11 rfl) rfl rfl) ?_
                    refine s_gi (fun h => g_iald (iRow iCX11_oath_2 12 rfl) kn_29 ka_29 h) ?_
                    exact s_reti (iRow iCX11_oath_2 13 rfl) rfl
                  · refine s_step (g_tableOut (tgt := 147) (iRow iCX11_oath_0 8 rfl) (sw_out [0, 1, 2, 3, 4, 5, 6, 7] (by decide +kernel) ⟨hs0, hs1, hs2, hs3, hs4, hs5, hs6, hs7, trivial⟩) (by decide)) ?_
                    refine s_step (g_iconst (iRow iCX11_oath_2 14 rfl) kc_m1) ?_
                    exact s_reti (iRow iCX11_oath_2 15 rfl) rfl
  · refine s_step (g_iconst (iRow iCX11_oath_0 5 rfl) kc_m1) ?_
    exact s_reti (iRow iCX11_oath_0 6 rfl) rfl
abbrev YX0_hasStone : mY := (RX0, "hasStone", cX0_hasStone, 2, (some .boolean), none)
set_option maxHeartbeats 400000 in
set_option maxRecDepth 20000 in
theorem t_X0_hasStone {G : mg} {F : Nat} {o : Nat} {a1 : Int32} {M : mm} {x : Bool} {M' : mm} (d : Nat) (h : m_X0_hasStone F o a1 M = some (x, M')) : CM G yX0_hasStone cX0_hasStone 2 (some .boolean) (d + 0) [vR 1 o, vI a1] M (some (vI (bI x))) M' := by
  refine ct_z (ls := [some (vR 1 o), some (vI a1)]) rfl rfl (Nat.le_of_ble_eq_true rfl) (fun Z => ?_) h
  show SW G (d + 0) YX0_hasStone Z 0 [some (vR 1 o), some (vI a1)] [] M _ _
  unfold m_X0_hasStone
  refine s_step (g_iload_n (iRow iCX0_hasStone_0 0 rfl) rfl rfl) ?_
  refine s_if (g_if_lt (tgt := 16) (iRow iCX0_hasStone_0 1 rfl) (by decide)) (fun _ => ?_) (fun _ => ?_)
  · refine s_step (g_iconst (iRow iCX0_hasStone_0 8 rfl) kc_0) ?_
    exact s_retz (b := false) (iRow iCX0_hasStone_0 9 rfl) rfl rfl
  · refine s_step (g_iload_n (iRow iCX0_hasStone_0 2 rfl) rfl rfl) ?_
    refine s_step (g_aload_n (iRow iCX0_hasStone_0 3 rfl) rfl rfl) ?_
    refine s_step (g_getI (iRow iCX0_hasStone_0 4 rfl) f0_72 ko_1) ?_
    refine s_if (g_icmp_ge (tgt := 16) (iRow iCX0_hasStone_0 5 rfl) (by decide)) (fun _ => ?_) (fun _ => ?_)
    · refine s_step (g_iconst (iRow iCX0_hasStone_0 8 rfl) kc_0) ?_
      exact s_retz (b := false) (iRow iCX0_hasStone_0 9 rfl) rfl rfl
    · refine s_step (g_iconst (iRow iCX0_hasStone_0 6 rfl) kc_1) ?_
      refine s_step (g_goto (tgt := 17) (iRow iCX0_hasStone_0 7 rfl) (by decide)) ?_
      exact s_retz (b := true) (iRow iCX0_hasStone_0 9 rfl) rfl rfl
abbrev YX11_stone : mY := (RX11, "stone", cX11_stone, 3, (some .int), none)
set_option maxHeartbeats 400000 in
set_option maxRecDepth 20000 in
theorem t_X11_stone {G : mg} {F : Nat} {a1 : Int32} {a2 : Int32} {M : mm} {x : Int32} {M' : mm} (d : Nat) (h : m_X11_stone F a1 a2 M = some (x, M')) : CM G yX11_stone cX11_stone 3 (some .int) (d + 1) [vR 12 0, vI a1, vI a2] M (some (vI x)) M' := by
  refine ct_i (ls := [some (vR 12 0), some (vI a1), some (vI a2)]) rfl rfl (Nat.le_of_ble_eq_true rfl) (fun Z => ?_) h
  show SW G (d + 1) YX11_stone Z 0 [some (vR 12 0), some (vI a1), some (vI a2)] [] M _ _
  unfold m_X11_stone
  refine s_step (g_aload_n (iRow iCX11_stone_0 0 rfl) rfl rfl) ?_
  refine s_step (g_getR (iRow iCX11_stone_0 1 rfl) f11_10 ko_12 (r_12_6 _ _)) ?_
  refine s_step (g_iload_n (iRow iCX11_stone_0 2 rfl) rfl rfl) ?_
  refine s_cb (sf := fun b => vI (bI b) :: []) (fun _ _ h => h_V (As := [_]) (iRow iCX11_stone_0 3 rfl) l11_179 iX0_hasStone ko_1 rfl rfl rfl rfl (t_X0_hasStone (d + 0) h) rfl (by omega) (by decide) (Nat.le_of_ble_eq_true rfl)) (fun b2 M1 => ?_)
  refine s_ifneb (g_if_ne (tgt := 13) (iRow iCX11_stone_0 4 rfl) (by decide)) (fun _ => ?_) (fun _ => ?_)
  · refine s_step (g_iload_n (iRow iCX11_stone_0 7 rfl) rfl rfl) ?_
    refine s_ite (fun hs0 => ?_) (fun hs0 => ?_)
    · refine s_step (g_tableIn (tgt := 48) (off := 34) (iRow iCX11_stone_0 8 rfl) (sw_lo hs0 (by decide)) (sw_hi hs0 (by decide)) (sw_at hs0 (by decide)) (by decide)) ?_
      refine s_step (g_aload_n (iRow iCX11_stone_0 9 rfl) rfl rfl) ?_
      refine s_step (g_getR (iRow iCX11_stone_0 10 rfl) f11_10 ko_12 (r_12_6 _ _)) ?_
      refine s_step (g_getR (iRow iCX11_stone_0 11 rfl) f11_182 ko_1 (r_1_15 _ _)) ?_
      refine s_step (g_iload_n (iRow iCX11_stone_0 12 rfl) rfl rfl) ?_
      refine s_gi (fun h => g_iald (iRow iCX11_stone_0 13 rfl) kn_31 ka_31 h) ?_
      exact s_reti (iRow iCX11_stone_0 14 rfl) rfl
    · refine s_ite (fun hs1 => ?_) (fun hs1 => ?_)
      · refine s_step (g_tableIn (tgt := 58) (off := 44) (iRow iCX11_stone_0 8 rfl) (sw_lo hs1 (by decide)) (sw_hi hs1 (by decide)) (sw_at hs1 (by decide)) (by decide)) ?_
        refine s_step (g_aload_n (iRow iCX11_stone_0 15 rfl) rfl rfl) ?_
        refine s_step (g_getR (iRow iCX11_stone_0 16 rfl) f11_10 ko_12 (r_12_6 _ _)) ?_
        refine s_step (g_getR (iRow iCX11_stone_0 17 rfl) f11_185 ko_1 (r_1_16 _ _)) ?_
        refine s_step (g_iload_n (iRow iCX11_stone_0 18 rfl) rfl rfl) ?_
        refine s_gi (fun h => g_iald (iRow iCX11_stone_0 19 rfl) kn_32 ka_32 h) ?_
        exact s_reti (iRow iCX11_stone_0 20 rfl) rfl
      · refine s_ite (fun hs2 => ?_) (fun hs2 => ?_)
        · refine s_step (g_tableIn (tgt := 68) (off := 54) (iRow iCX11_stone_0 8 rfl) (sw_lo hs2 (by decide)) (sw_hi hs2 (by decide)) (sw_at hs2 (by decide)) (by decide)) ?_
          refine s_step (g_aload_n (iRow iCX11_stone_0 21 rfl) rfl rfl) ?_
          refine s_step (g_getR (iRow iCX11_stone_0 22 rfl) f11_82 ko_12 (r_12_8 _ _)) ?_
          refine s_step (g_getI (iRow iCX11_stone_0 23 rfl) f11_188 ko_5) ?_
          refine s_step (g_iload_n (iRow iCX11_stone_1 0 rfl) rfl rfl) ?_
          refine s_step (g_ishr (iRow iCX11_stone_1 1 rfl)) ?_
          refine s_step (g_iconst (iRow iCX11_stone_1 2 rfl) kc_1) ?_
          refine s_step (g_iand (iRow iCX11_stone_1 3 rfl)) ?_
          exact s_reti (iRow iCX11_stone_1 4 rfl) rfl
        · refine s_ite (fun hs3 => ?_) (fun hs3 => ?_)
          · refine s_step (g_tableIn (tgt := 80) (off := 66) (iRow iCX11_stone_0 8 rfl) (sw_lo hs3 (by decide)) (sw_hi hs3 (by decide)) (sw_at hs3 (by decide)) (by decide)) ?_
            refine s_step (g_aload_n (iRow iCX11_stone_1 5 rfl) rfl rfl) ?_
            refine s_step (g_getR (iRow iCX11_stone_1 6 rfl) f11_48 ko_12 (r_12_2 _ _)) ?_
            refine s_step (g_aload_n (iRow iCX11_stone_1 7 rfl) rfl rfl) ?_
            refine s_step (g_getR (iRow iCX11_stone_1 8 rfl) f11_10 ko_12 (r_12_6 _ _)) ?_
            refine s_step (g_aload_n (iRow iCX11_stone_1 9 rfl) rfl rfl) ?_
            refine s_step (g_getR (iRow iCX11_stone_1 10 rfl) f11_82 ko_12 (r_12_8 _ _)) ?_
            refine s_step (g_getI (iRow iCX11_stone_1 11 rfl) f11_188 ko_5) ?_
            refine s_cv (stA := []) (fun _ h => h_V (As := [_, _]) (iRow iCX11_stone_1 12 rfl) l11_191 iX9_settle ko_10 rfl rfl rfl rfl (t_X9_settle (d + 0) h) rfl (by omega) (by decide) (Nat.le_of_ble_eq_true rfl)) (fun M3 => ?_)
            refine s_step (g_aload_n (iRow iCX11_stone_1 13 rfl) rfl rfl) ?_
            refine s_step (g_getR (iRow iCX11_stone_1 14 rfl) f11_48 ko_12 (r_12_2 _ _)) ?_
            refine s_step (g_getR (iRow iCX11_stone_1 15 rfl) f11_195 ko_10 (r_10_0 _ _)) ?_
            refine s_step (g_iload_n (iRow iCX11_stone_1 16 rfl) rfl rfl) ?_
            refine s_gi (fun h => g_iald (iRow iCX11_stone_1 17 rfl) kn_47 ka_47 h) ?_
            exact s_reti (iRow iCX11_stone_1 18 rfl) rfl
          · refine s_ite (fun hs4 => ?_) (fun hs4 => ?_)
            · refine s_step (g_tableIn (tgt := 108) (off := 94) (iRow iCX11_stone_0 8 rfl) (sw_lo hs4 (by decide)) (sw_hi hs4 (by decide)) (sw_at hs4 (by decide)) (by decide)) ?_
              refine s_step (g_aload_n (iRow iCX11_stone_1 19 rfl) rfl rfl) ?_
              refine s_step (g_getR (iRow iCX11_stone_1 20 rfl) f11_10 ko_12 (r_12_6 _ _)) ?_
              refine s_step (g_getR (iRow iCX11_stone_1 21 rfl) f11_198 ko_1 (r_1_18 _ _)) ?_
              refine s_step (g_iload_n (iRow iCX11_stone_1 22 rfl) rfl rfl) ?_
              refine s_gi (fun h => g_iald (iRow iCX11_stone_1 23 rfl) kn_34 ka_34 h) ?_
              exact s_reti (iRow iCX11_stone_2 0 rfl) rfl
            · refine s_step (g_tableOut (tgt := 118) (iRow iCX11_stone_0 8 rfl) (sw_out [0, 1, 2, 3, 4] (by decide +kernel) ⟨hs0, hs1, hs2, hs3, hs4, trivial⟩) (by decide)) ?_
              refine s_step (g_iconst (iRow iCX11_stone_2 1 rfl) kc_m1) ?_
              exact s_reti (iRow iCX11_stone_2 2 rfl) rfl
  · refine s_step (g_iconst (iRow iCX11_stone_0 5 rfl) kc_m1) ?_
    exact s_reti (iRow iCX11_stone_0 6 rfl) rfl
abbrev YX4_copy : mY := (RX4, "copy", cX4_copy, 2, none, none)
set_option maxHeartbeats 400000 in
set_option maxRecDepth 20000 in
theorem t_X4_copy {G : mg} {F : Nat} {o : Nat} {a1 : Nat} {M : mm} {M' : mm} (d : Nat) (h : m_X4_copy F o a1 M = some M') : CM G yX4_copy cX4_copy 2 none (d + 0) [vR 5 o, vR 5 a1] M none M' := by
  refine ct_v (ls := [some (vR 5 o), some (vR 5 a1)]) rfl rfl (Nat.le_of_ble_eq_true rfl) (fun Z => ?_) h
  show SW G (d + 0) YX4_copy Z 0 [some (vR 5 o), some (vR 5 a1)] [] M _ _
  unfold m_X4_copy
  refine s_step (g_aload_n (iRow iCX4_copy_0 0 rfl) rfl rfl) ?_
  refine s_step (g_aload_n (iRow iCX4_copy_0 1 rfl) rfl rfl) ?_
  refine s_step (g_getI (iRow iCX4_copy_0 2 rfl) f4_7 ko_5) ?_
  refine s_step (g_putI (iRow iCX4_copy_0 3 rfl) f4_7 (Or.inl rfl) ko_5) ?_
  refine s_nmM (fun M1 => ?_)
  refine s_step (g_aload_n (iRow iCX4_copy_0 4 rfl) rfl rfl) ?_
  refine s_step (g_aload_n (iRow iCX4_copy_0 5 rfl) rfl rfl) ?_
  refine s_step (g_getI (iRow iCX4_copy_0 6 rfl) f4_13 ko_5) ?_
  refine s_step (g_putI (iRow iCX4_copy_0 7 rfl) f4_13 (Or.inl rfl) ko_5) ?_
  refine s_nmM (fun M2 => ?_)
  refine s_step (g_aload_n (iRow iCX4_copy_0 8 rfl) rfl rfl) ?_
  refine s_step (g_aload_n (iRow iCX4_copy_0 9 rfl) rfl rfl) ?_
  refine s_step (g_getI (iRow iCX4_copy_0 10 rfl) f4_16 ko_5) ?_
  refine s_step (g_putI (iRow iCX4_copy_0 11 rfl) f4_16 (Or.inl rfl) ko_5) ?_
  refine s_nmM (fun M3 => ?_)
  refine s_step (g_aload_n (iRow iCX4_copy_0 12 rfl) rfl rfl) ?_
  refine s_step (g_aload_n (iRow iCX4_copy_0 13 rfl) rfl rfl) ?_
  refine s_step (g_getI (iRow iCX4_copy_0 14 rfl) f4_19 ko_5) ?_
  refine s_step (g_putI (iRow iCX4_copy_0 15 rfl) f4_19 (Or.inl rfl) ko_5) ?_
  refine s_nmM (fun M4 => ?_)
  exact s_retv (iRow iCX4_copy_0 16 rfl) rfl
abbrev YX1_crack : mY := (RX1, "crack", cX1_crack, 4, (some .boolean), none)
set_option maxHeartbeats 400000 in
set_option maxRecDepth 20000 in
theorem t_X1_crack {G : mg} {F : Nat} {a1 : Nat} {a2 : Nat} {a3 : Int32} {M : mm} {x : Bool} {M' : mm} (d : Nat) (h : m_X1_crack F a1 a2 a3 M = some (x, M')) : CM G yX1_crack cX1_crack 4 (some .boolean) (d + 4) [vR 2 0, vR 1 a1, vR 5 a2, vI a3] M (some (vI (bI x))) M' := by
  refine ct_z (ls := [some (vR 2 0), some (vR 1 a1), some (vR 5 a2), some (vI a3)]) rfl rfl (Nat.le_of_ble_eq_true rfl) (fun Z => ?_) h
  show SW G (d + 4) YX1_crack Z 0 [some (vR 2 0), some (vR 1 a1), some (vR 5 a2), some (vI a3)] [] M _ _
  unfold m_X1_crack
  refine s_step (g_aload_n (iRow iCX1_crack_0 0 rfl) rfl rfl) ?_
  refine s_step (g_iload_n (iRow iCX1_crack_0 1 rfl) rfl rfl) ?_
  refine s_cb (sf := fun b => vI (bI b) :: []) (fun _ _ h => h_V (As := [_]) (iRow iCX1_crack_0 2 rfl) l1_41 iX0_hasOath ko_1 rfl rfl rfl rfl (t_X0_hasOath (d + 3) h) rfl (by omega) (by decide) (Nat.le_of_ble_eq_true rfl)) (fun b2 M1 => ?_)
  refine s_ifeqb (g_if_eq (tgt := 24) (iRow iCX1_crack_0 3 rfl) (by decide)) (fun _ => ?_) (fun _ => ?_)
  · refine s_step (g_aload_n (iRow iCX1_crack_0 4 rfl) rfl rfl) ?_
    refine s_step (g_getI (iRow iCX1_crack_0 5 rfl) f1_21 ko_5) ?_
    refine s_step (g_aload_n (iRow iCX1_crack_0 6 rfl) rfl rfl) ?_
    refine s_step (g_getI (iRow iCX1_crack_0 7 rfl) f1_45 ko_1) ?_
    refine s_step (g_ior (iRow iCX1_crack_0 8 rfl)) ?_
    refine s_step (g_iload_n (iRow iCX1_crack_0 9 rfl) rfl rfl) ?_
    refine s_step (g_ishr (iRow iCX1_crack_0 10 rfl)) ?_
    refine s_step (g_iconst (iRow iCX1_crack_0 11 rfl) kc_1) ?_
    refine s_step (g_iand (iRow iCX1_crack_0 12 rfl)) ?_
    refine s_if (g_if_eq (tgt := 26) (iRow iCX1_crack_0 13 rfl) (by decide)) (fun _ => ?_) (fun _ => ?_)
    · refine s_step (g_aload_n (iRow iCX1_crack_0 16 rfl) rfl rfl) ?_
      refine s_step (g_dup (iRow iCX1_crack_0 17 rfl) rfl) ?_
      refine s_step (g_getI (iRow iCX1_crack_0 18 rfl) f1_21 ko_5) ?_
      refine s_step (g_iconst (iRow iCX1_crack_0 19 rfl) kc_1) ?_
      refine s_step (g_iload_n (iRow iCX1_crack_0 20 rfl) rfl rfl) ?_
      refine s_step (g_ishl (iRow iCX1_crack_0 21 rfl)) ?_
      refine s_step (g_ior (iRow iCX1_crack_0 22 rfl)) ?_
      refine s_step (g_putI (iRow iCX1_crack_0 23 rfl) f1_21 (Or.inl rfl) ko_5) ?_
      refine s_nmM (fun M3 => ?_)
      refine s_step (g_aload_n (iRow iCX1_crack_1 0 rfl) rfl rfl) ?_
      refine s_step (g_aload_n (iRow iCX1_crack_1 1 rfl) rfl rfl) ?_
      refine s_step (g_getR (iRow iCX1_crack_1 2 rfl) f1_9 ko_2 (r_2_0 _ _)) ?_
      refine s_step (g_aload_n (iRow iCX1_crack_1 3 rfl) rfl rfl) ?_
      refine s_step (g_aload_n (iRow iCX1_crack_1 4 rfl) rfl rfl) ?_
      refine s_step (g_aload_n (iRow iCX1_crack_1 5 rfl) rfl rfl) ?_
      refine s_step (g_getI (iRow iCX1_crack_1 6 rfl) f1_38 ko_5) ?_
      refine s_cl (sf := fun x => vI x :: [vR 5 a2]) (fun _ _ h => h_V (As := [_, _, _]) (iRow iCX1_crack_1 7 rfl) l1_32 iX9_standing ko_10 rfl rfl rfl rfl (t_X9_standing (d + 0) h) rfl (by omega) (by decide) (Nat.le_of_ble_eq_true rfl)) (fun x5 M4 => ?_)
      refine s_step (g_putI (iRow iCX1_crack_1 8 rfl) f1_38 (Or.inl rfl) ko_5) ?_
      refine s_nmM (fun M6 => ?_)
      refine s_step (g_iconst (iRow iCX1_crack_1 9 rfl) kc_1) ?_
      exact s_retz (b := true) (iRow iCX1_crack_1 10 rfl) rfl rfl
    · refine s_step (g_iconst (iRow iCX1_crack_0 14 rfl) kc_0) ?_
      exact s_retz (b := false) (iRow iCX1_crack_0 15 rfl) rfl rfl
  · refine s_step (g_iconst (iRow iCX1_crack_0 14 rfl) kc_0) ?_
    exact s_retz (b := false) (iRow iCX1_crack_0 15 rfl) rfl rfl
abbrev YX11_remember : mY := (RX11, "remember", cX11_remember, 1, none, none)
set_option maxHeartbeats 400000 in
set_option maxRecDepth 20000 in
theorem t_X11_remember {G : mg} {F : Nat} {M : mm} {M' : mm} (d : Nat) (h : m_X11_remember F M = some M') : CM G yX11_remember cX11_remember 1 none (d + 1) [vR 12 0] M none M' := by
  refine ct_v (ls := [some (vR 12 0)]) rfl rfl (Nat.le_of_ble_eq_true rfl) (fun Z => ?_) h
  show SW G (d + 1) YX11_remember Z 0 [some (vR 12 0)] [] M _ _
  unfold m_X11_remember
  refine s_step (g_aload_n (iRow iCX11_remember_0 0 rfl) rfl rfl) ?_
  refine s_step (g_getI (iRow iCX11_remember_0 1 rfl) f11_116 ko_12) ?_
  refine s_step (g_bipush (iRow iCX11_remember_0 2 rfl) kb_16) ?_
  refine s_bd (fun z => LM G (d + 1) YX11_remember Z 32 [some (vR 12 0)] [] z) ?_ ?_
  · refine s_ifn (g_icmp_ne (tgt := 32) (iRow iCX11_remember_0 3 rfl) (by decide)) (fun _ => ?_) (fun _ => ?_)
    · refine s_step (g_aload_n (iRow iCX11_remember_0 4 rfl) rfl rfl) ?_
      refine s_step (g_aload_n (iRow iCX11_remember_0 5 rfl) rfl rfl) ?_
      refine s_step (g_getI (iRow iCX11_remember_0 6 rfl) f11_221 ko_12) ?_
      refine s_step (g_iconst (iRow iCX11_remember_0 7 rfl) kc_1) ?_
      refine s_step (g_iadd (iRow iCX11_remember_0 8 rfl)) ?_
      refine s_step (g_bipush (iRow iCX11_remember_0 9 rfl) kb_16) ?_
      refine s_step (g_irem (iRow iCX11_remember_0 10 rfl) (by decide)) ?_
      refine s_step (g_putI (iRow iCX11_remember_0 11 rfl) f11_221 (Or.inl rfl) ko_12) ?_
      refine s_nmM (fun M1 => ?_)
      refine s_step (g_aload_n (iRow iCX11_remember_0 12 rfl) rfl rfl) ?_
      refine s_step (g_dup (iRow iCX11_remember_0 13 rfl) rfl) ?_
      refine s_step (g_getI (iRow iCX11_remember_0 14 rfl) f11_116 ko_12) ?_
      refine s_step (g_iconst (iRow iCX11_remember_0 15 rfl) kc_1) ?_
      refine s_step (g_isub (iRow iCX11_remember_0 16 rfl)) ?_
      refine s_step (g_putI (iRow iCX11_remember_0 17 rfl) f11_116 (Or.inl rfl) ko_12) ?_
      refine s_nmM (fun M2 => ?_)
      exact s_end (fun h => h)
    · exact s_end (fun h => h)
  · rintro M3
    show SW G (d + 1) YX11_remember Z 32 [some (vR 12 0)] [] M3 _ _
    try dsimp only
    refine s_step (g_aload_n (iRow iCX11_remember_0 18 rfl) rfl rfl) ?_
    refine s_step (g_getR (iRow iCX11_remember_0 19 rfl) f11_89 ko_12 (r_12_12 _ _)) ?_
    refine s_step (g_aload_n (iRow iCX11_remember_0 20 rfl) rfl rfl) ?_
    refine s_step (g_getI (iRow iCX11_remember_0 21 rfl) f11_221 ko_12) ?_
    refine s_step (g_aload_n (iRow iCX11_remember_0 22 rfl) rfl rfl) ?_
    refine s_step (g_getI (iRow iCX11_remember_0 23 rfl) f11_116 ko_12) ?_
    refine s_step (g_iadd (iRow iCX11_remember_1 0 rfl)) ?_
    refine s_step (g_bipush (iRow iCX11_remember_1 1 rfl) kb_16) ?_
    refine s_step (g_irem (iRow iCX11_remember_1 2 rfl) (by decide)) ?_
    refine s_gi (fun h => g_aald (iRow iCX11_remember_1 3 rfl) kn_60 ka_60 (by decide) h (r_60 _ _ _) rfl (fun _ h => by cases h)) ?_
    refine s_step (g_aload_n (iRow iCX11_remember_1 4 rfl) rfl rfl) ?_
    refine s_step (g_getR (iRow iCX11_remember_1 5 rfl) f11_86 ko_12 (r_12_9 _ _)) ?_
    refine s_cv (stA := []) (fun _ h => h_V (As := [_]) (iRow iCX11_remember_1 6 rfl) l11_201 iX4_copy ko_5 rfl rfl rfl rfl (t_X4_copy (d + 0) h) rfl (by omega) (by decide) (Nat.le_of_ble_eq_true rfl)) (fun M4 => ?_)
    refine s_step (g_aload_n (iRow iCX11_remember_1 7 rfl) rfl rfl) ?_
    refine s_step (g_dup (iRow iCX11_remember_1 8 rfl) rfl) ?_
    refine s_step (g_getI (iRow iCX11_remember_1 9 rfl) f11_116 ko_12) ?_
    refine s_step (g_iconst (iRow iCX11_remember_1 10 rfl) kc_1) ?_
    refine s_step (g_iadd (iRow iCX11_remember_1 11 rfl)) ?_
    refine s_step (g_putI (iRow iCX11_remember_1 12 rfl) f11_116 (Or.inl rfl) ko_12) ?_
    refine s_nmM (fun M5 => ?_)
    exact s_retv (iRow iCX11_remember_1 13 rfl) rfl
abbrev YX11_breaks : mY := (RX11, "breaks", cX11_breaks, 2, (some .int), none)
set_option maxHeartbeats 400000 in
set_option maxRecDepth 20000 in
theorem t_X11_breaks {G : mg} {F : Nat} {a1 : Int32} {M : mm} {x : Int32} {M' : mm} (d : Nat) (h : m_X11_breaks F a1 M = some (x, M')) : CM G yX11_breaks cX11_breaks 2 (some .int) (d + 5) [vR 12 0, vI a1] M (some (vI x)) M' := by
  refine ct_i (ls := [some (vR 12 0), some (vI a1)]) rfl rfl (Nat.le_of_ble_eq_true rfl) (fun Z => ?_) h
  show SW G (d + 5) YX11_breaks Z 0 [some (vR 12 0), some (vI a1)] [] M _ _
  unfold m_X11_breaks
  refine s_step (g_aload_n (iRow iCX11_breaks_0 0 rfl) rfl rfl) ?_
  refine s_step (g_getR (iRow iCX11_breaks_0 1 rfl) f11_86 ko_12 (r_12_9 _ _)) ?_
  refine s_step (g_aload_n (iRow iCX11_breaks_0 2 rfl) rfl rfl) ?_
  refine s_step (g_getR (iRow iCX11_breaks_0 3 rfl) f11_82 ko_12 (r_12_8 _ _)) ?_
  refine s_cv (stA := []) (fun _ h => h_V (As := [_]) (iRow iCX11_breaks_0 4 rfl) l11_201 iX4_copy ko_5 rfl rfl rfl rfl (t_X4_copy (d + 4) h) rfl (by omega) (by decide) (Nat.le_of_ble_eq_true rfl)) (fun M1 => ?_)
  refine s_step (g_aload_n (iRow iCX11_breaks_0 5 rfl) rfl rfl) ?_
  refine s_step (g_getR (iRow iCX11_breaks_0 6 rfl) f11_57 ko_12 (r_12_3 _ _)) ?_
  refine s_step (g_aload_n (iRow iCX11_breaks_0 7 rfl) rfl rfl) ?_
  refine s_step (g_getR (iRow iCX11_breaks_0 8 rfl) f11_10 ko_12 (r_12_6 _ _)) ?_
  refine s_step (g_aload_n (iRow iCX11_breaks_0 9 rfl) rfl rfl) ?_
  refine s_step (g_getR (iRow iCX11_breaks_0 10 rfl) f11_82 ko_12 (r_12_8 _ _)) ?_
  refine s_step (g_iload_n (iRow iCX11_breaks_0 11 rfl) rfl rfl) ?_
  refine s_cb (sf := fun b => vI (bI b) :: []) (fun _ _ h => h_V (As := [_, _, _]) (iRow iCX11_breaks_0 12 rfl) l11_205 iX1_crack ko_2 rfl rfl rfl rfl (t_X1_crack (d + 0) h) rfl (by omega) (by decide) (Nat.le_of_ble_eq_true rfl)) (fun b3 M2 => ?_)
  refine s_ifneb (g_if_ne (tgt := 32) (iRow iCX11_breaks_0 13 rfl) (by decide)) (fun _ => ?_) (fun _ => ?_)
  · refine s_step (g_aload_n (iRow iCX11_breaks_0 16 rfl) rfl rfl) ?_
    refine s_cv (stA := []) (fun _ h => h_V (As := []) (iRow iCX11_breaks_0 17 rfl) l11_209 iX11_remember ko_12 rfl rfl rfl rfl (t_X11_remember (d + 3) h) rfl (by omega) (by decide) (Nat.le_of_ble_eq_true rfl)) (fun M4 => ?_)
    refine s_step (g_aload_n (iRow iCX11_breaks_0 18 rfl) rfl rfl) ?_
    refine s_step (g_getR (iRow iCX11_breaks_0 19 rfl) f11_86 ko_12 (r_12_9 _ _)) ?_
    refine s_step (g_getI (iRow iCX11_breaks_0 20 rfl) f11_188 ko_5) ?_
    refine s_step (g_aload_n (iRow iCX11_breaks_0 21 rfl) rfl rfl) ?_
    refine s_step (g_getR (iRow iCX11_breaks_0 22 rfl) f11_82 ko_12 (r_12_8 _ _)) ?_
    refine s_step (g_getI (iRow iCX11_breaks_0 23 rfl) f11_188 ko_5) ?_
    refine s_step (g_iconst (iRow iCX11_breaks_1 0 rfl) kc_m1) ?_
    refine s_step (g_ixor (iRow iCX11_breaks_1 1 rfl)) ?_
    refine s_step (g_iand (iRow iCX11_breaks_1 2 rfl)) ?_
    exact s_reti (iRow iCX11_breaks_1 3 rfl) rfl
  · refine s_step (g_iconst (iRow iCX11_breaks_0 14 rfl) kc_m1) ?_
    exact s_reti (iRow iCX11_breaks_0 15 rfl) rfl
