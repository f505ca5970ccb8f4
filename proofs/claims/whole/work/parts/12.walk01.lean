abbrev YX6_add : mY := (RX6, "add", cX6_add, 5, none, none)
set_option maxHeartbeats 400000 in
set_option maxRecDepth 20000 in
theorem t_X6_add {G : mg} {F : Nat} {a1 : Int64} {M : mm} {M' : mm} (d : Nat) (h : m_X6_add F a1 M = some M') : CM G yX6_add cX6_add 5 none (d + 0) [vR 7 0, vL (a1)] M none M' := by
  refine ct_v (ls := [some (vR 7 0), some (vL (a1)), none, none, none]) rfl rfl (Nat.le_of_ble_eq_true rfl) (fun Z => ?_) h
  show SW G (d + 0) YX6_add Z 0 [some (vR 7 0), some (vL (a1)), none, none, none] [] M _ _
  unfold m_X6_add
  refine s_step (g_bipush (iRow iCX6_add_0 0 rfl) kb_56) ?_
  refine s_step (g_istore_n (ls' := [some (vR 7 0), some (vL (a1)), none, some (vI (56 : Int32)), none]) (iRow iCX6_add_0 1 rfl) rfl (by decide) rfl) ?_
  refine s_lp (fun z => [some (vR 7 0), some (vL (a1)), none, some (vI (z.1)), none]) (fun z => z.2) (fun z => LM G (d + 0) YX6_add Z 76 [none, none, none, none, none] [] z) rfl rfl ?_ ?_
  · rintro ⟨x1, M2⟩
    show SW G (d + 0) YX6_add Z 3 [some (vR 7 0), some (vL (a1)), none, some (vI x1), none] [] M2 (b_X6_add_1c F a1 x1 M2) _
    unfold b_X6_add_1c
    refine s_step (g_iload_n (iRow iCX6_add_0 2 rfl) rfl rfl) ?_
    refine s_if (g_if_lt (tgt := 76) (iRow iCX6_add_0 3 rfl) (by decide)) (fun _ => ?_) (fun _ => ?_)
    · refine s_step (g_keep [false, false, false, false, false] rfl) ?_
      exact s_end (fun h => h)
    · refine s_step (g_lload_n (iRow iCX6_add_0 4 rfl) rfl rfl) ?_
      refine s_step (g_iload_n (iRow iCX6_add_0 5 rfl) rfl rfl) ?_
      refine s_step (g_lshr (iRow iCX6_add_0 6 rfl) rfl) ?_
      refine s_step (g_l2i (iRow iCX6_add_0 7 rfl)) ?_
      refine s_step (g_sipush (iRow iCX6_add_0 8 rfl) ks_255) ?_
      refine s_step (g_iand (iRow iCX6_add_0 9 rfl)) ?_
      refine s_nmI (fun x3 => ?_)
      refine s_step (g_istore (ls' := [some (vR 7 0), some (vL (a1)), none, some (vI x1), some (vI x3)]) (iRow iCX6_add_0 10 rfl) (by decide) rfl) ?_
      refine s_step (g_iload (iRow iCX6_add_0 11 rfl) rfl) ?_
      refine s_step (g_bipush (iRow iCX6_add_0 12 rfl) kb_10) ?_
      refine s_bd (fun z => LM G (d + 0) YX6_add Z 70 [some (vR 7 0), some (vL (a1)), none, some (vI x1), none] [] z) ?_ ?_
      · refine s_nj 38 (fun z => [some (vR 7 0), some (vL (a1)), none, some (vI x1), some (vI x3)]) (fun z => []) (fun z => M2) ?_ (fun j38 hj38 => ?_)
        · intro _
          show SW G (d + 0) YX6_add Z 38 [some (vR 7 0), some (vL (a1)), none, some (vI x1), some (vI x3)] [] M2 _ _
          try dsimp only
          refine s_step (g_aload_n (iRow iCX6_add_0 20 rfl) rfl rfl) ?_
          refine s_step (g_getI (iRow iCX6_add_0 21 rfl) f6_29 ko_7) ?_
          refine s_step (g_sipush (iRow iCX6_add_0 22 rfl) ks_1000) ?_
          refine s_if (g_icmp_ge (tgt := 70) (iRow iCX6_add_0 23 rfl) (by decide)) (fun _ => ?_) (fun _ => ?_)
          · refine s_step (g_keep [true, true, false, true, false] rfl) ?_
            exact s_end (fun h => h)
          · refine s_step (g_aload_n (iRow iCX6_add_1 0 rfl) rfl rfl) ?_
            refine s_step (g_getR (iRow iCX6_add_1 1 rfl) f6_11 ko_7 (r_7_0 _ _)) ?_
            refine s_step (g_aload_n (iRow iCX6_add_1 2 rfl) rfl rfl) ?_
            refine s_step (g_getI (iRow iCX6_add_1 3 rfl) f6_29 ko_7) ?_
            refine s_step (g_iload (iRow iCX6_add_1 4 rfl) rfl) ?_
            refine s_step (g_i2b (iRow iCX6_add_1 5 rfl)) ?_
            refine s_gi (fun h => g_bast (iRow iCX6_add_1 6 rfl) kn_40 ka_40 h) ?_
            refine s_nmM (fun M4 => ?_)
            refine s_step (g_aload_n (iRow iCX6_add_1 7 rfl) rfl rfl) ?_
            refine s_step (g_dup (iRow iCX6_add_1 8 rfl) rfl) ?_
            refine s_step (g_getI (iRow iCX6_add_1 9 rfl) f6_29 ko_7) ?_
            refine s_step (g_iconst (iRow iCX6_add_1 10 rfl) kc_1) ?_
            refine s_step (g_iadd (iRow iCX6_add_1 11 rfl)) ?_
            refine s_step (g_putI (iRow iCX6_add_1 12 rfl) f6_29 (Or.inl rfl) ko_7) ?_
            refine s_nmM (fun M5 => ?_)
            refine s_step (g_keep [true, true, false, true, false] rfl) ?_
            exact s_end (fun h => h)
        · refine s_if (g_icmp_eq (tgt := 38) (iRow iCX6_add_0 13 rfl) (by decide)) (fun _ => ?_) (fun _ => ?_)
          · exact hj38 _
          · refine s_step (g_iload (iRow iCX6_add_0 14 rfl) rfl) ?_
            refine s_step (g_bipush (iRow iCX6_add_0 15 rfl) kb_32) ?_
            refine s_if (g_icmp_lt (tgt := 70) (iRow iCX6_add_0 16 rfl) (by decide)) (fun _ => ?_) (fun _ => ?_)
            · refine s_step (g_keep [true, true, false, true, false] rfl) ?_
              exact s_end (fun h => h)
            · refine s_step (g_iload (iRow iCX6_add_0 17 rfl) rfl) ?_
              refine s_step (g_bipush (iRow iCX6_add_0 18 rfl) kb_126) ?_
              refine s_if (g_icmp_gt (tgt := 70) (iRow iCX6_add_0 19 rfl) (by decide)) (fun _ => ?_) (fun _ => ?_)
              · refine s_step (g_keep [true, true, false, true, false] rfl) ?_
                exact s_end (fun h => h)
              · exact hj38 _
      · rintro M6
        show SW G (d + 0) YX6_add Z 70 [some (vR 7 0), some (vL (a1)), none, some (vI x1), none] [] M6 _ _
        try dsimp only
        refine s_step (g_iincc (c := (-8)) (ls' := [some (vR 7 0), some (vL (a1)), none, some (vI (x1 + (-8 : Int32))), none]) (iRow iCX6_add_1 13 rfl) rfl kc_m8 (by decide) rfl) ?_
        refine s_step (g_goto (tgt := 3) (iRow iCX6_add_1 14 rfl) (by decide)) ?_
        exact s_end (fun h => h)
  · rintro M7
    show SW G (d + 0) YX6_add Z 76 [none, none, none, none, none] [] M7 _ _
    try dsimp only
    exact s_retv (iRow iCX6_add_1 15 rfl) rfl
abbrev YX11_feed : mY := (RX11, "feed", cX11_feed, 7, (some .int), none)
set_option maxHeartbeats 400000 in
set_option maxRecDepth 20000 in
theorem t_X11_feed {G : mg} {F : Nat} {a1 : Int64} {a2 : Int64} {a3 : Int64} {M : mm} {x : Int32} {M' : mm} (d : Nat) (h : m_X11_feed F a1 a2 a3 M = some (x, M')) : CM G yX11_feed cX11_feed 7 (some .int) (d + 1) [vR 12 0, vL (a1), vL (a2), vL (a3)] M (some (vI x)) M' := by
  refine ct_i (ls := [some (vR 12 0), some (vL (a1)), none, some (vL (a2)), none, some (vL (a3)), none]) rfl rfl (Nat.le_of_ble_eq_true rfl) (fun Z => ?_) h
  show SW G (d + 1) YX11_feed Z 0 [some (vR 12 0), some (vL (a1)), none, some (vL (a2)), none, some (vL (a3)), none] [] M _ _
  unfold m_X11_feed
  refine s_step (g_aload_n (iRow iCX11_feed_0 0 rfl) rfl rfl) ?_
  refine s_step (g_getR (iRow iCX11_feed_0 1 rfl) f11_32 ko_12 (r_12_0 _ _)) ?_
  refine s_step (g_lload_n (iRow iCX11_feed_0 2 rfl) rfl rfl) ?_
  refine s_cv (stA := []) (fun _ h => h_V (As := [_]) (iRow iCX11_feed_0 3 rfl) l11_100 iX6_add ko_7 rfl rfl rfl rfl (t_X6_add (d + 0) h) rfl (by omega) (by decide) (Nat.le_of_ble_eq_true rfl)) (fun M1 => ?_)
  refine s_step (g_aload_n (iRow iCX11_feed_0 4 rfl) rfl rfl) ?_
  refine s_step (g_getR (iRow iCX11_feed_0 5 rfl) f11_32 ko_12 (r_12_0 _ _)) ?_
  refine s_step (g_lload_n (iRow iCX11_feed_0 6 rfl) rfl rfl) ?_
  refine s_cv (stA := []) (fun _ h => h_V (As := [_]) (iRow iCX11_feed_0 7 rfl) l11_100 iX6_add ko_7 rfl rfl rfl rfl (t_X6_add (d + 0) h) rfl (by omega) (by decide) (Nat.le_of_ble_eq_true rfl)) (fun M2 => ?_)
  refine s_step (g_aload_n (iRow iCX11_feed_0 8 rfl) rfl rfl) ?_
  refine s_step (g_getR (iRow iCX11_feed_0 9 rfl) f11_32 ko_12 (r_12_0 _ _)) ?_
  refine s_step (g_lload (iRow iCX11_feed_0 10 rfl) rfl) ?_
  refine s_cv (stA := []) (fun _ h => h_V (As := [_]) (iRow iCX11_feed_0 11 rfl) l11_100 iX6_add ko_7 rfl rfl rfl rfl (t_X6_add (d + 0) h) rfl (by omega) (by decide) (Nat.le_of_ble_eq_true rfl)) (fun M3 => ?_)
  refine s_step (g_aload_n (iRow iCX11_feed_0 12 rfl) rfl rfl) ?_
  refine s_step (g_getR (iRow iCX11_feed_0 13 rfl) f11_32 ko_12 (r_12_0 _ _)) ?_
  refine s_step (g_getI (iRow iCX11_feed_0 14 rfl) f11_104 ko_7) ?_
  exact s_reti (iRow iCX11_feed_0 15 rfl) rfl
abbrev YX2_reset : mY := (RX2, "reset", cX2_reset, 2, none, none)
set_option maxHeartbeats 400000 in
set_option maxRecDepth 20000 in
theorem t_X2_reset {G : mg} {F : Nat} {o : Nat} {M : mm} {M' : mm} (d : Nat) (h : m_X2_reset F o M = some M') : CM G yX2_reset cX2_reset 2 none (d + 0) [vR 3 o] M none M' := by
  refine ct_v (ls := [some (vR 3 o), none]) rfl rfl (Nat.le_of_ble_eq_true rfl) (fun Z => ?_) h
  show SW G (d + 0) YX2_reset Z 0 [some (vR 3 o), none] [] M _ _
  unfold m_X2_reset
  refine s_step (g_aload_n (iRow iCX2_reset_0 0 rfl) rfl rfl) ?_
  refine s_step (g_iconst (iRow iCX2_reset_0 1 rfl) kc_5) ?_
  refine s_step (g_putI (iRow iCX2_reset_0 2 rfl) f2_11 (Or.inl rfl) ko_3) ?_
  refine s_nmM (fun M1 => ?_)
  refine s_step (g_aload_n (iRow iCX2_reset_0 3 rfl) rfl rfl) ?_
  refine s_step (g_iconst (iRow iCX2_reset_0 4 rfl) kc_0) ?_
  refine s_step (g_putZ (iRow iCX2_reset_0 5 rfl) f2_30 (Or.inl rfl) ko_3 (by decide)) ?_
  refine s_nmM (fun M2 => ?_)
  refine s_step (g_aload_n (iRow iCX2_reset_0 6 rfl) rfl rfl) ?_
  refine s_step (g_iconst (iRow iCX2_reset_0 7 rfl) kc_0) ?_
  refine s_step (g_putZ (iRow iCX2_reset_0 8 rfl) f2_34 (Or.inl rfl) ko_3 (by decide)) ?_
  refine s_nmM (fun M3 => ?_)
  refine s_step (g_aload_n (iRow iCX2_reset_0 9 rfl) rfl rfl) ?_
  refine s_step (g_iconst (iRow iCX2_reset_0 10 rfl) kc_0) ?_
  refine s_step (g_putI (iRow iCX2_reset_0 11 rfl) f2_37 (Or.inl rfl) ko_3) ?_
  refine s_nmM (fun M4 => ?_)
  refine s_step (g_iconst (iRow iCX2_reset_0 12 rfl) kc_0) ?_
  refine s_step (g_istore_n (ls' := [some (vR 3 o), some (vI (0 : Int32))]) (iRow iCX2_reset_0 13 rfl) rfl (by decide) rfl) ?_
  refine s_lp (fun z => [some (vR 3 o), some (vI (z.1))]) (fun z => z.2) (fun z => LM G (d + 0) YX2_reset Z 44 [none, none] [] z) rfl rfl ?_ ?_
  · rintro ⟨x5, M6⟩
    show SW G (d + 0) YX2_reset Z 22 [some (vR 3 o), some (vI x5)] [] M6 (b_X2_reset_1c F o x5 M6) _
    unfold b_X2_reset_1c
    refine s_step (g_iload_n (iRow iCX2_reset_0 14 rfl) rfl rfl) ?_
    refine s_step (g_aload_n (iRow iCX2_reset_0 15 rfl) rfl rfl) ?_
    refine s_step (g_getR (iRow iCX2_reset_0 16 rfl) f2_27 ko_3 (r_3_7 _ _)) ?_
    refine s_step (g_alen (iRow iCX2_reset_0 17 rfl) kn_38 ka_38 (by decide) (by decide) kl_20) ?_
    refine s_if (g_icmp_ge (tgt := 44) (iRow iCX2_reset_0 18 rfl) (by decide)) (fun _ => ?_) (fun _ => ?_)
    · refine s_step (g_keep [false, false] rfl) ?_
      exact s_end (fun h => h)
    · refine s_step (g_aload_n (iRow iCX2_reset_0 19 rfl) rfl rfl) ?_
      refine s_step (g_getR (iRow iCX2_reset_0 20 rfl) f2_27 ko_3 (r_3_7 _ _)) ?_
      refine s_step (g_iload_n (iRow iCX2_reset_0 21 rfl) rfl rfl) ?_
      refine s_step (g_iconst (iRow iCX2_reset_0 22 rfl) kc_m1) ?_
      refine s_gi (fun h => g_iast (iRow iCX2_reset_0 23 rfl) kn_38 ka_38 h) ?_
      refine s_nmM (fun M7 => ?_)
      refine s_step (g_iincc (c := 1) (ls' := [some (vR 3 o), some (vI (x5 + (1 : Int32)))]) (iRow iCX2_reset_1 0 rfl) rfl kc_1 (by decide) rfl) ?_
      refine s_step (g_goto (tgt := 22) (iRow iCX2_reset_1 1 rfl) (by decide)) ?_
      exact s_end (fun h => h)
  · rintro M8
    show SW G (d + 0) YX2_reset Z 44 [none, none] [] M8 _ _
    try dsimp only
    exact s_retv (iRow iCX2_reset_1 2 rfl) rfl
abbrev YX0_clear : mY := (RX0, "clear", cX0_clear, 2, none, none)
set_option maxHeartbeats 400000 in
set_option maxRecDepth 20000 in
theorem t_X0_clear {G : mg} {F : Nat} {o : Nat} {M : mm} {M' : mm} (d : Nat) (h : m_X0_clear F o M = some M') : CM G yX0_clear cX0_clear 2 none (d + 1) [vR 1 o] M none M' := by
  refine ct_v (ls := [some (vR 1 o), none]) rfl rfl (Nat.le_of_ble_eq_true rfl) (fun Z => ?_) h
  show SW G (d + 1) YX0_clear Z 0 [some (vR 1 o), none] [] M _ _
  unfold m_X0_clear
  refine s_step (g_aload_n (iRow iCX0_clear_0 0 rfl) rfl rfl) ?_
  refine s_step (g_iconst (iRow iCX0_clear_0 1 rfl) kc_0) ?_
  refine s_step (g_putI (iRow iCX0_clear_0 2 rfl) f0_65 (Or.inl rfl) ko_1) ?_
  refine s_nmM (fun M1 => ?_)
  refine s_step (g_aload_n (iRow iCX0_clear_0 3 rfl) rfl rfl) ?_
  refine s_step (g_iconst (iRow iCX0_clear_0 4 rfl) kc_0) ?_
  refine s_step (g_putI (iRow iCX0_clear_0 5 rfl) f0_69 (Or.inl rfl) ko_1) ?_
  refine s_nmM (fun M2 => ?_)
  refine s_step (g_aload_n (iRow iCX0_clear_0 6 rfl) rfl rfl) ?_
  refine s_step (g_iconst (iRow iCX0_clear_0 7 rfl) kc_0) ?_
  refine s_step (g_putI (iRow iCX0_clear_0 8 rfl) f0_72 (Or.inl rfl) ko_1) ?_
  refine s_nmM (fun M3 => ?_)
  refine s_step (g_aload_n (iRow iCX0_clear_0 9 rfl) rfl rfl) ?_
  refine s_step (g_iconst (iRow iCX0_clear_0 10 rfl) kc_0) ?_
  refine s_step (g_putI (iRow iCX0_clear_0 11 rfl) f0_75 (Or.inl rfl) ko_1) ?_
  refine s_nmM (fun M4 => ?_)
  refine s_step (g_iconst (iRow iCX0_clear_0 12 rfl) kc_0) ?_
  refine s_step (g_istore_n (ls' := [some (vR 1 o), some (vI (0 : Int32))]) (iRow iCX0_clear_0 13 rfl) rfl (by decide) rfl) ?_
  refine s_lp (fun z => [some (vR 1 o), some (vI (z.1))]) (fun z => z.2) (fun z => LM G (d + 1) YX0_clear Z 41 [some (vR 1 o), none] [] z) rfl rfl ?_ ?_
  · rintro ⟨x5, M6⟩
    show SW G (d + 1) YX0_clear Z 22 [some (vR 1 o), some (vI x5)] [] M6 (b_X0_clear_1c F o x5 M6) _
    unfold b_X0_clear_1c
    refine s_step (g_iload_n (iRow iCX0_clear_0 14 rfl) rfl rfl) ?_
    refine s_step (g_bipush (iRow iCX0_clear_0 15 rfl) kb_6) ?_
    refine s_if (g_icmp_ge (tgt := 41) (iRow iCX0_clear_0 16 rfl) (by decide)) (fun _ => ?_) (fun _ => ?_)
    · refine s_step (g_keep [true, false] rfl) ?_
      exact s_end (fun h => h)
    · refine s_step (g_aload_n (iRow iCX0_clear_0 17 rfl) rfl rfl) ?_
      refine s_step (g_getR (iRow iCX0_clear_0 18 rfl) f0_22 ko_1 (r_1_4 _ _)) ?_
      refine s_step (g_iload_n (iRow iCX0_clear_0 19 rfl) rfl rfl) ?_
      refine s_step (g_iconst (iRow iCX0_clear_0 20 rfl) kc_0) ?_
      refine s_gi (fun h => g_iast (iRow iCX0_clear_0 21 rfl) kn_23 ka_23 h) ?_
      refine s_nmM (fun M7 => ?_)
      refine s_step (g_iincc (c := 1) (ls' := [some (vR 1 o), some (vI (x5 + (1 : Int32)))]) (iRow iCX0_clear_0 22 rfl) rfl kc_1 (by decide) rfl) ?_
      refine s_step (g_goto (tgt := 22) (iRow iCX0_clear_0 23 rfl) (by decide)) ?_
      exact s_end (fun h => h)
  · rintro M8
    show SW G (d + 1) YX0_clear Z 41 [some (vR 1 o), none] [] M8 _ _
    try dsimp only
    refine s_step (g_aload_n (iRow iCX0_clear_1 0 rfl) rfl rfl) ?_
    refine s_step (g_getR (iRow iCX0_clear_1 1 rfl) f0_61 ko_1 (r_1_19 _ _)) ?_
    refine s_cv (stA := []) (fun _ h => h_V (As := []) (iRow iCX0_clear_1 2 rfl) l0_78 iX2_reset ko_3 rfl rfl rfl rfl (t_X2_reset (d + 0) h) rfl (by omega) (by decide) (Nat.le_of_ble_eq_true rfl)) (fun M9 => ?_)
    exact s_retv (iRow iCX0_clear_1 3 rfl) rfl
abbrev YX6_isLetter : mY := (RX6, "isLetter", cX6_isLetter, 1, (some .boolean), none)
set_option maxHeartbeats 400000 in
set_option maxRecDepth 20000 in
theorem t_X6_isLetter {G : mg} {F : Nat} {a1 : Int32} {M : mm} {x : Bool} {M' : mm} (d : Nat) (h : m_X6_isLetter F a1 M = some (x, M')) : CM G yX6_isLetter cX6_isLetter 1 (some .boolean) (d + 0) [vI a1] M (some (vI (bI x))) M' := by
  refine ct_z (ls := [some (vI a1)]) rfl rfl (Nat.le_of_ble_eq_true rfl) (fun Z => ?_) h
  show SW G (d + 0) YX6_isLetter Z 0 [some (vI a1)] [] M _ _
  unfold m_X6_isLetter
  refine s_step (g_iload_n (iRow iCX6_isLetter_0 0 rfl) rfl rfl) ?_
  refine s_step (g_bipush (iRow iCX6_isLetter_0 1 rfl) kb_97) ?_
  refine s_if (g_icmp_lt (tgt := 16) (iRow iCX6_isLetter_0 2 rfl) (by decide)) (fun _ => ?_) (fun _ => ?_)
  · refine s_step (g_iconst (iRow iCX6_isLetter_0 8 rfl) kc_0) ?_
    exact s_retz (b := false) (iRow iCX6_isLetter_0 9 rfl) rfl rfl
  · refine s_step (g_iload_n (iRow iCX6_isLetter_0 3 rfl) rfl rfl) ?_
    refine s_step (g_bipush (iRow iCX6_isLetter_0 4 rfl) kb_122) ?_
    refine s_if (g_icmp_gt (tgt := 16) (iRow iCX6_isLetter_0 5 rfl) (by decide)) (fun _ => ?_) (fun _ => ?_)
    · refine s_step (g_iconst (iRow iCX6_isLetter_0 8 rfl) kc_0) ?_
      exact s_retz (b := false) (iRow iCX6_isLetter_0 9 rfl) rfl rfl
    · refine s_step (g_iconst (iRow iCX6_isLetter_0 6 rfl) kc_1) ?_
      refine s_step (g_goto (tgt := 17) (iRow iCX6_isLetter_0 7 rfl) (by decide)) ?_
      exact s_retz (b := true) (iRow iCX6_isLetter_0 9 rfl) rfl rfl
abbrev YX6_isDigit : mY := (RX6, "isDigit", cX6_isDigit, 1, (some .boolean), none)
set_option maxHeartbeats 400000 in
set_option maxRecDepth 20000 in
theorem t_X6_isDigit {G : mg} {F : Nat} {a1 : Int32} {M : mm} {x : Bool} {M' : mm} (d : Nat) (h : m_X6_isDigit F a1 M = some (x, M')) : CM G yX6_isDigit cX6_isDigit 1 (some .boolean) (d + 0) [vI a1] M (some (vI (bI x))) M' := by
  refine ct_z (ls := [some (vI a1)]) rfl rfl (Nat.le_of_ble_eq_true rfl) (fun Z => ?_) h
  show SW G (d + 0) YX6_isDigit Z 0 [some (vI a1)] [] M _ _
  unfold m_X6_isDigit
  refine s_step (g_iload_n (iRow iCX6_isDigit_0 0 rfl) rfl rfl) ?_
  refine s_step (g_bipush (iRow iCX6_isDigit_0 1 rfl) kb_48) ?_
  refine s_if (g_icmp_lt (tgt := 16) (iRow iCX6_isDigit_0 2 rfl) (by decide)) (fun _ => ?_) (fun _ => ?_)
  · refine s_step (g_iconst (iRow iCX6_isDigit_0 8 rfl) kc_0) ?_
    exact s_retz (b := false) (iRow iCX6_isDigit_0 9 rfl) rfl rfl
  · refine s_step (g_iload_n (iRow iCX6_isDigit_0 3 rfl) rfl rfl) ?_
    refine s_step (g_bipush (iRow iCX6_isDigit_0 4 rfl) kb_57) ?_
    refine s_if (g_icmp_gt (tgt := 16) (iRow iCX6_isDigit_0 5 rfl) (by decide)) (fun _ => ?_) (fun _ => ?_)
    · refine s_step (g_iconst (iRow iCX6_isDigit_0 8 rfl) kc_0) ?_
      exact s_retz (b := false) (iRow iCX6_isDigit_0 9 rfl) rfl rfl
    · refine s_step (g_iconst (iRow iCX6_isDigit_0 6 rfl) kc_1) ?_
      refine s_step (g_goto (tgt := 17) (iRow iCX6_isDigit_0 7 rfl) (by decide)) ?_
      exact s_retz (b := true) (iRow iCX6_isDigit_0 9 rfl) rfl rfl
abbrev YX6_isSignOfLanguage : mY := (RX6, "isSignOfLanguage", cX6_isSignOfLanguage, 1, (some .boolean), none)
set_option maxHeartbeats 400000 in
set_option maxRecDepth 20000 in
theorem t_X6_isSignOfLanguage {G : mg} {F : Nat} {a1 : Int32} {M : mm} {x : Bool} {M' : mm} (d : Nat) (h : m_X6_isSignOfLanguage F a1 M = some (x, M')) : CM G yX6_isSignOfLanguage cX6_isSignOfLanguage 1 (some .boolean) (d + 0) [vI a1] M (some (vI (bI x))) M' := by
  refine ct_z (ls := [some (vI a1)]) rfl rfl (Nat.le_of_ble_eq_true rfl) (fun Z => ?_) h
  show SW G (d + 0) YX6_isSignOfLanguage Z 0 [some (vI a1)] [] M _ _
  unfold m_X6_isSignOfLanguage
  refine s_step (g_iload_n (iRow iCX6_isSignOfLanguage_0 0 rfl) rfl rfl) ?_
  refine s_step (g_bipush (iRow iCX6_isSignOfLanguage_0 1 rfl) kb_40) ?_
  refine s_if (g_icmp_eq (tgt := 48) (iRow iCX6_isSignOfLanguage_0 2 rfl) (by decide)) (fun _ => ?_) (fun _ => ?_)
  · refine s_step (g_iconst (iRow iCX6_isSignOfLanguage_1 0 rfl) kc_1) ?_
    refine s_step (g_goto (tgt := 53) (iRow iCX6_isSignOfLanguage_1 1 rfl) (by decide)) ?_
    exact s_retz (b := true) (iRow iCX6_isSignOfLanguage_1 3 rfl) rfl rfl
  · refine s_step (g_iload_n (iRow iCX6_isSignOfLanguage_0 3 rfl) rfl rfl) ?_
    refine s_step (g_bipush (iRow iCX6_isSignOfLanguage_0 4 rfl) kb_41) ?_
    refine s_if (g_icmp_eq (tgt := 48) (iRow iCX6_isSignOfLanguage_0 5 rfl) (by decide)) (fun _ => ?_) (fun _ => ?_)
    · refine s_step (g_iconst (iRow iCX6_isSignOfLanguage_1 0 rfl) kc_1) ?_
      refine s_step (g_goto (tgt := 53) (iRow iCX6_isSignOfLanguage_1 1 rfl) (by decide)) ?_
      exact s_retz (b := true) (iRow iCX6_isSignOfLanguage_1 3 rfl) rfl rfl
    · refine s_step (g_iload_n (iRow iCX6_isSignOfLanguage_0 6 rfl) rfl rfl) ?_
      refine s_step (g_bipush (iRow iCX6_isSignOfLanguage_0 7 rfl) kb_60) ?_
      refine s_if (g_icmp_eq (tgt := 48) (iRow iCX6_isSignOfLanguage_0 8 rfl) (by decide)) (fun _ => ?_) (fun _ => ?_)
      · refine s_step (g_iconst (iRow iCX6_isSignOfLanguage_1 0 rfl) kc_1) ?_
        refine s_step (g_goto (tgt := 53) (iRow iCX6_isSignOfLanguage_1 1 rfl) (by decide)) ?_
        exact s_retz (b := true) (iRow iCX6_isSignOfLanguage_1 3 rfl) rfl rfl
      · refine s_step (g_iload_n (iRow iCX6_isSignOfLanguage_0 9 rfl) rfl rfl) ?_
        refine s_step (g_bipush (iRow iCX6_isSignOfLanguage_0 10 rfl) kb_61) ?_
        refine s_if (g_icmp_eq (tgt := 48) (iRow iCX6_isSignOfLanguage_0 11 rfl) (by decide)) (fun _ => ?_) (fun _ => ?_)
        · refine s_step (g_iconst (iRow iCX6_isSignOfLanguage_1 0 rfl) kc_1) ?_
          refine s_step (g_goto (tgt := 53) (iRow iCX6_isSignOfLanguage_1 1 rfl) (by decide)) ?_
          exact s_retz (b := true) (iRow iCX6_isSignOfLanguage_1 3 rfl) rfl rfl
        · refine s_step (g_iload_n (iRow iCX6_isSignOfLanguage_0 12 rfl) rfl rfl) ?_
          refine s_step (g_bipush (iRow iCX6_isSignOfLanguage_0 13 rfl) kb_43) ?_
          refine s_if (g_icmp_eq (tgt := 48) (iRow iCX6_isSignOfLanguage_0 14 rfl) (by decide)) (fun _ => ?_) (fun _ => ?_)
          · refine s_step (g_iconst (iRow iCX6_isSignOfLanguage_1 0 rfl) kc_1) ?_
            refine s_step (g_goto (tgt := 53) (iRow iCX6_isSignOfLanguage_1 1 rfl) (by decide)) ?_
            exact s_retz (b := true) (iRow iCX6_isSignOfLanguage_1 3 rfl) rfl rfl
          · refine s_step (g_iload_n (iRow iCX6_isSignOfLanguage_0 15 rfl) rfl rfl) ?_
            refine s_step (g_bipush (iRow iCX6_isSignOfLanguage_0 16 rfl) kb_45) ?_
            refine s_if (g_icmp_eq (tgt := 48) (iRow iCX6_isSignOfLanguage_0 17 rfl) (by decide)) (fun _ => ?_) (fun _ => ?_)
            · refine s_step (g_iconst (iRow iCX6_isSignOfLanguage_1 0 rfl) kc_1) ?_
              refine s_step (g_goto (tgt := 53) (iRow iCX6_isSignOfLanguage_1 1 rfl) (by decide)) ?_
              exact s_retz (b := true) (iRow iCX6_isSignOfLanguage_1 3 rfl) rfl rfl
            · refine s_step (g_iload_n (iRow iCX6_isSignOfLanguage_0 18 rfl) rfl rfl) ?_
              refine s_step (g_bipush (iRow iCX6_isSignOfLanguage_0 19 rfl) kb_42) ?_
              refine s_if (g_icmp_eq (tgt := 48) (iRow iCX6_isSignOfLanguage_0 20 rfl) (by decide)) (fun _ => ?_) (fun _ => ?_)
              · refine s_step (g_iconst (iRow iCX6_isSignOfLanguage_1 0 rfl) kc_1) ?_
                refine s_step (g_goto (tgt := 53) (iRow iCX6_isSignOfLanguage_1 1 rfl) (by decide)) ?_
                exact s_retz (b := true) (iRow iCX6_isSignOfLanguage_1 3 rfl) rfl rfl
              · refine s_step (g_iload_n (iRow iCX6_isSignOfLanguage_0 21 rfl) rfl rfl) ?_
                refine s_step (g_bipush (iRow iCX6_isSignOfLanguage_0 22 rfl) kb_59) ?_
                refine s_ifn (g_icmp_ne (tgt := 52) (iRow iCX6_isSignOfLanguage_0 23 rfl) (by decide)) (fun _ => ?_) (fun _ => ?_)
                · refine s_step (g_iconst (iRow iCX6_isSignOfLanguage_1 0 rfl) kc_1) ?_
                  refine s_step (g_goto (tgt := 53) (iRow iCX6_isSignOfLanguage_1 1 rfl) (by decide)) ?_
                  exact s_retz (b := true) (iRow iCX6_isSignOfLanguage_1 3 rfl) rfl rfl
                · refine s_step (g_iconst (iRow iCX6_isSignOfLanguage_1 2 rfl) kc_0) ?_
                  exact s_retz (b := false) (iRow iCX6_isSignOfLanguage_1 3 rfl) rfl rfl
abbrev YX6_readNumber : mY := (RX6, "readNumber", cX6_readNumber, 1, none, none)
set_option maxHeartbeats 400000 in
set_option maxRecDepth 20000 in
theorem t_X6_readNumber {G : mg} {F : Nat} {M : mm} {M' : mm} (d : Nat) (h : m_X6_readNumber F M = some M') : CM G yX6_readNumber cX6_readNumber 1 none (d + 1) [vR 7 0] M none M' := by
  refine ct_v (ls := [some (vR 7 0)]) rfl rfl (Nat.le_of_ble_eq_true rfl) (fun Z => ?_) h
  show SW G (d + 1) YX6_readNumber Z 0 [some (vR 7 0)] [] M _ _
  unfold m_X6_readNumber
  refine s_step (g_aload_n (iRow iCX6_readNumber_0 0 rfl) rfl rfl) ?_
  refine s_step (g_iconst (iRow iCX6_readNumber_0 1 rfl) kc_0) ?_
  refine s_step (g_putI (iRow iCX6_readNumber_0 2 rfl) f6_61 (Or.inl rfl) ko_7) ?_
  refine s_nmM (fun M1 => ?_)
  refine s_lp (fun z => [some (vR 7 0)]) (fun z => z) (fun z => LM G (d + 1) YX6_readNumber Z 68 [some (vR 7 0)] [] z) rfl rfl ?_ ?_
  · rintro M2
    show SW G (d + 1) YX6_readNumber Z 5 [some (vR 7 0)] [] M2 (b_X6_readNumber_1c F M2) _
    unfold b_X6_readNumber_1c
    refine s_step (g_aload_n (iRow iCX6_readNumber_0 3 rfl) rfl rfl) ?_
    refine s_step (g_getI (iRow iCX6_readNumber_0 4 rfl) f6_33 ko_7) ?_
    refine s_step (g_aload_n (iRow iCX6_readNumber_0 5 rfl) rfl rfl) ?_
    refine s_step (g_getI (iRow iCX6_readNumber_0 6 rfl) f6_29 ko_7) ?_
    refine s_if (g_icmp_ge (tgt := 68) (iRow iCX6_readNumber_0 7 rfl) (by decide)) (fun _ => ?_) (fun _ => ?_)
    · exact s_end (fun h => h)
    · refine s_step (g_aload_n (iRow iCX6_readNumber_0 8 rfl) rfl rfl) ?_
      refine s_step (g_getR (iRow iCX6_readNumber_0 9 rfl) f6_11 ko_7 (r_7_0 _ _)) ?_
      refine s_step (g_aload_n (iRow iCX6_readNumber_0 10 rfl) rfl rfl) ?_
      refine s_step (g_getI (iRow iCX6_readNumber_0 11 rfl) f6_33 ko_7) ?_
      refine s_gi (fun h => g_bald (iRow iCX6_readNumber_0 12 rfl) kn_40 ka_40 h) ?_
      refine s_cb (sf := fun b => vI (bI b) :: []) (fun _ _ h => h_S (As := [_]) (iRow iCX6_readNumber_0 13 rfl) l6_55 iX6_isDigit rfl rfl (t_X6_isDigit (d + 0) h) rfl (by omega) (by decide) (Nat.le_of_ble_eq_true rfl)) (fun b4 M3 => ?_)
      refine s_ifeqb (g_if_eq (tgt := 68) (iRow iCX6_readNumber_0 14 rfl) (by decide)) (fun _ => ?_) (fun _ => ?_)
      · refine s_step (g_aload_n (iRow iCX6_readNumber_0 15 rfl) rfl rfl) ?_
        refine s_step (g_aload_n (iRow iCX6_readNumber_0 16 rfl) rfl rfl) ?_
        refine s_step (g_getI (iRow iCX6_readNumber_0 17 rfl) f6_61 ko_7) ?_
        refine s_step (g_bipush (iRow iCX6_readNumber_0 18 rfl) kb_10) ?_
        refine s_step (g_imul (iRow iCX6_readNumber_0 19 rfl)) ?_
        refine s_step (g_aload_n (iRow iCX6_readNumber_0 20 rfl) rfl rfl) ?_
        refine s_step (g_getR (iRow iCX6_readNumber_0 21 rfl) f6_11 ko_7 (r_7_0 _ _)) ?_
        refine s_step (g_aload_n (iRow iCX6_readNumber_0 22 rfl) rfl rfl) ?_
        refine s_step (g_getI (iRow iCX6_readNumber_0 23 rfl) f6_33 ko_7) ?_
        refine s_gi (fun h => g_bald (iRow iCX6_readNumber_1 0 rfl) kn_40 ka_40 h) ?_
        refine s_step (g_bipush (iRow iCX6_readNumber_1 1 rfl) kb_48) ?_
        refine s_step (g_isub (iRow iCX6_readNumber_1 2 rfl)) ?_
        refine s_step (g_iadd (iRow iCX6_readNumber_1 3 rfl)) ?_
        refine s_step (g_putI (iRow iCX6_readNumber_1 4 rfl) f6_61 (Or.inl rfl) ko_7) ?_
        refine s_nmM (fun M5 => ?_)
        refine s_step (g_aload_n (iRow iCX6_readNumber_1 5 rfl) rfl rfl) ?_
        refine s_step (g_dup (iRow iCX6_readNumber_1 6 rfl) rfl) ?_
        refine s_step (g_getI (iRow iCX6_readNumber_1 7 rfl) f6_33 ko_7) ?_
        refine s_step (g_iconst (iRow iCX6_readNumber_1 8 rfl) kc_1) ?_
        refine s_step (g_iadd (iRow iCX6_readNumber_1 9 rfl)) ?_
        refine s_step (g_putI (iRow iCX6_readNumber_1 10 rfl) f6_33 (Or.inl rfl) ko_7) ?_
        refine s_nmM (fun M6 => ?_)
        refine s_step (g_goto (tgt := 5) (iRow iCX6_readNumber_1 11 rfl) (by decide)) ?_
        exact s_end (fun h => h)
      · exact s_end (fun h => h)
  · rintro M7
    show SW G (d + 1) YX6_readNumber Z 68 [some (vR 7 0)] [] M7 _ _
    try dsimp only
    refine s_step (g_aload_n (iRow iCX6_readNumber_1 12 rfl) rfl rfl) ?_
    refine s_step (g_aload_n (iRow iCX6_readNumber_1 13 rfl) rfl rfl) ?_
    refine s_step (g_getI (iRow iCX6_readNumber_1 14 rfl) f6_33 ko_7) ?_
    refine s_step (g_aload_n (iRow iCX6_readNumber_1 15 rfl) rfl rfl) ?_
    refine s_step (g_getI (iRow iCX6_readNumber_1 16 rfl) f6_39 ko_7) ?_
    refine s_step (g_isub (iRow iCX6_readNumber_1 17 rfl)) ?_
    refine s_step (g_iconst (iRow iCX6_readNumber_1 18 rfl) kc_4) ?_
    refine s_bd (fun z => LM G (d + 1) YX6_readNumber Z 87 [none] [vI z, vR 7 0] M7) ?_ ?_
    · refine s_if (g_icmp_le (tgt := 86) (iRow iCX6_readNumber_1 19 rfl) (by decide)) (fun _ => ?_) (fun _ => ?_)
      · refine s_step (g_iconst (iRow iCX6_readNumber_1 22 rfl) kc_3) ?_
        refine s_step (g_keep [false] rfl) ?_
        exact s_end (fun h => h)
      · refine s_step (g_iconst (iRow iCX6_readNumber_1 20 rfl) kc_1) ?_
        refine s_step (g_goto (tgt := 87) (iRow iCX6_readNumber_1 21 rfl) (by decide)) ?_
        refine s_step (g_keep [false] rfl) ?_
        exact s_end (fun h => h)
    · rintro x8
      show SW G (d + 1) YX6_readNumber Z 87 [none] [vI x8, vR 7 0] M7 _ _
      try dsimp only
      refine s_step (g_putI (iRow iCX6_readNumber_1 23 rfl) f6_45 (Or.inl rfl) ko_7) ?_
      refine s_nmM (fun M9 => ?_)
      exact s_retv (iRow iCX6_readNumber_2 0 rfl) rfl
abbrev YX6_readWord : mY := (RX6, "readWord", cX6_readWord, 2, none, none)
set_option maxHeartbeats 400000 in
set_option maxRecDepth 20000 in
theorem t_X6_readWord {G : mg} {F : Nat} {M : mm} {M' : mm} (d : Nat) (h : m_X6_readWord F M = some M') : CM G yX6_readWord cX6_readWord 2 none (d + 1) [vR 7 0] M none M' := by
  refine ct_v (ls := [some (vR 7 0), none]) rfl rfl (Nat.le_of_ble_eq_true rfl) (fun Z => ?_) h
  show SW G (d + 1) YX6_readWord Z 0 [some (vR 7 0), none] [] M _ _
  unfold m_X6_readWord
  refine s_step (g_aload_n (iRow iCX6_readWord_0 0 rfl) rfl rfl) ?_
  refine s_step (g_lconst (v := 0) (iRow iCX6_readWord_0 1 rfl) rfl) ?_
  refine s_step (g_putL (iRow iCX6_readWord_0 2 rfl) f6_67 (Or.inl rfl) ko_7) ?_
  refine s_nmM (fun M1 => ?_)
  refine s_lp (fun z => [some (vR 7 0), none]) (fun z => z) (fun z => LM G (d + 1) YX6_readWord Z 72 [some (vR 7 0), none] [] z) rfl rfl ?_ ?_
  · rintro M2
    show SW G (d + 1) YX6_readWord Z 5 [some (vR 7 0), none] [] M2 (b_X6_readWord_1c F M2) _
    unfold b_X6_readWord_1c
    refine s_step (g_aload_n (iRow iCX6_readWord_0 3 rfl) rfl rfl) ?_
    refine s_step (g_getI (iRow iCX6_readWord_0 4 rfl) f6_33 ko_7) ?_
    refine s_step (g_aload_n (iRow iCX6_readWord_0 5 rfl) rfl rfl) ?_
    refine s_step (g_getI (iRow iCX6_readWord_0 6 rfl) f6_29 ko_7) ?_
    refine s_if (g_icmp_ge (tgt := 72) (iRow iCX6_readWord_0 7 rfl) (by decide)) (fun _ => ?_) (fun _ => ?_)
    · exact s_end (fun h => h)
    · refine s_step (g_aload_n (iRow iCX6_readWord_0 8 rfl) rfl rfl) ?_
      refine s_step (g_getR (iRow iCX6_readWord_0 9 rfl) f6_11 ko_7 (r_7_0 _ _)) ?_
      refine s_step (g_aload_n (iRow iCX6_readWord_0 10 rfl) rfl rfl) ?_
      refine s_step (g_getI (iRow iCX6_readWord_0 11 rfl) f6_33 ko_7) ?_
      refine s_gi (fun h => g_bald (iRow iCX6_readWord_0 12 rfl) kn_40 ka_40 h) ?_
      refine s_cb (sf := fun b => vI (bI b) :: []) (fun _ _ h => h_S (As := [_]) (iRow iCX6_readWord_0 13 rfl) l6_48 iX6_isLetter rfl rfl (t_X6_isLetter (d + 0) h) rfl (by omega) (by decide) (Nat.le_of_ble_eq_true rfl)) (fun b4 M3 => ?_)
      refine s_ifeqb (g_if_eq (tgt := 72) (iRow iCX6_readWord_0 14 rfl) (by decide)) (fun _ => ?_) (fun _ => ?_)
      · refine s_step (g_aload_n (iRow iCX6_readWord_0 15 rfl) rfl rfl) ?_
        refine s_step (g_aload_n (iRow iCX6_readWord_0 16 rfl) rfl rfl) ?_
        refine s_step (g_getL (iRow iCX6_readWord_0 17 rfl) f6_67 ko_7) ?_
        refine s_step (g_ldc2 (iRow iCX6_readWord_0 18 rfl) k6_27) ?_
        refine s_step (g_lmul (iRow iCX6_readWord_0 19 rfl)) ?_
        refine s_step (g_aload_n (iRow iCX6_readWord_0 20 rfl) rfl rfl) ?_
        refine s_step (g_getR (iRow iCX6_readWord_0 21 rfl) f6_11 ko_7 (r_7_0 _ _)) ?_
        refine s_step (g_aload_n (iRow iCX6_readWord_0 22 rfl) rfl rfl) ?_
        refine s_step (g_getI (iRow iCX6_readWord_0 23 rfl) f6_33 ko_7) ?_
        refine s_gi (fun h => g_bald (iRow iCX6_readWord_1 0 rfl) kn_40 ka_40 h) ?_
        refine s_step (g_bipush (iRow iCX6_readWord_1 1 rfl) kb_97) ?_
        refine s_step (g_isub (iRow iCX6_readWord_1 2 rfl)) ?_
        refine s_step (g_iconst (iRow iCX6_readWord_1 3 rfl) kc_1) ?_
        refine s_step (g_iadd (iRow iCX6_readWord_1 4 rfl)) ?_
        refine s_step (g_i2l (iRow iCX6_readWord_1 5 rfl)) ?_
        refine s_step (g_ladd (iRow iCX6_readWord_1 6 rfl)) ?_
        refine s_step (g_putL (iRow iCX6_readWord_1 7 rfl) f6_67 (Or.inl rfl) ko_7) ?_
        refine s_nmM (fun M5 => ?_)
        refine s_step (g_aload_n (iRow iCX6_readWord_1 8 rfl) rfl rfl) ?_
        refine s_step (g_dup (iRow iCX6_readWord_1 9 rfl) rfl) ?_
        refine s_step (g_getI (iRow iCX6_readWord_1 10 rfl) f6_33 ko_7) ?_
        refine s_step (g_iconst (iRow iCX6_readWord_1 11 rfl) kc_1) ?_
        refine s_step (g_iadd (iRow iCX6_readWord_1 12 rfl)) ?_
        refine s_step (g_putI (iRow iCX6_readWord_1 13 rfl) f6_33 (Or.inl rfl) ko_7) ?_
        refine s_nmM (fun M6 => ?_)
        refine s_step (g_goto (tgt := 5) (iRow iCX6_readWord_1 14 rfl) (by decide)) ?_
        exact s_end (fun h => h)
      · exact s_end (fun h => h)
  · rintro M7
    show SW G (d + 1) YX6_readWord Z 72 [some (vR 7 0), none] [] M7 _ _
    try dsimp only
    refine s_step (g_aload_n (iRow iCX6_readWord_1 15 rfl) rfl rfl) ?_
    refine s_step (g_getI (iRow iCX6_readWord_1 16 rfl) f6_33 ko_7) ?_
    refine s_step (g_aload_n (iRow iCX6_readWord_1 17 rfl) rfl rfl) ?_
    refine s_step (g_getI (iRow iCX6_readWord_1 18 rfl) f6_39 ko_7) ?_
    refine s_step (g_isub (iRow iCX6_readWord_1 19 rfl)) ?_
    refine s_step (g_bipush (iRow iCX6_readWord_1 20 rfl) kb_8) ?_
    refine s_if (g_icmp_le (tgt := 92) (iRow iCX6_readWord_1 21 rfl) (by decide)) (fun _ => ?_) (fun _ => ?_)
    · refine s_step (g_aload_n (iRow iCX6_readWord_2 2 rfl) rfl rfl) ?_
      refine s_step (g_iconst (iRow iCX6_readWord_2 3 rfl) kc_2) ?_
      refine s_step (g_putI (iRow iCX6_readWord_2 4 rfl) f6_45 (Or.inl rfl) ko_7) ?_
      refine s_nmM (fun M8 => ?_)
      refine s_step (g_iconst (iRow iCX6_readWord_2 5 rfl) kc_0) ?_
      refine s_step (g_istore_n (ls' := [some (vR 7 0), some (vI (0 : Int32))]) (iRow iCX6_readWord_2 6 rfl) rfl (by decide) rfl) ?_
      refine s_lp (fun z => [some (vR 7 0), some (vI (z.1))]) (fun z => z.2) (fun z => LM G (d + 1) YX6_readWord Z 130 [none, none] [] z) rfl rfl ?_ ?_
      · rintro ⟨x9, M10⟩
        show SW G (d + 1) YX6_readWord Z 99 [some (vR 7 0), some (vI x9)] [] M10 (b_X6_readWord_2c F x9 M10) _
        unfold b_X6_readWord_2c
        refine s_step (g_iload_n (iRow iCX6_readWord_2 7 rfl) rfl rfl) ?_
        refine s_step (g_bipush (iRow iCX6_readWord_2 8 rfl) kb_29) ?_
        refine s_if (g_icmp_ge (tgt := 130) (iRow iCX6_readWord_2 9 rfl) (by decide)) (fun _ => ?_) (fun _ => ?_)
        · refine s_step (g_keep [false, false] rfl) ?_
          exact s_end (fun h => h)
        · refine s_step (g_aload_n (iRow iCX6_readWord_2 10 rfl) rfl rfl) ?_
          refine s_step (g_getR (iRow iCX6_readWord_2 11 rfl) f6_15 ko_7 (r_7_1 _ _)) ?_
          refine s_step (g_iload_n (iRow iCX6_readWord_2 12 rfl) rfl rfl) ?_
          refine s_gi (fun h => g_lald (iRow iCX6_readWord_2 13 rfl) kn_41 ka_41 h) ?_
          refine s_step (g_aload_n (iRow iCX6_readWord_2 14 rfl) rfl rfl) ?_
          refine s_step (g_getL (iRow iCX6_readWord_2 15 rfl) f6_67 ko_7) ?_
          refine s_step (g_lcmp (iRow iCX6_readWord_2 16 rfl)) ?_
          refine s_bd (fun z => LM G (d + 1) YX6_readWord Z 124 [some (vR 7 0), some (vI x9)] [] z) ?_ ?_
          · refine s_ifn (g_if_ne (tgt := 124) (iRow iCX6_readWord_2 17 rfl) (by decide)) (fun _ => ?_) (fun _ => ?_)
            · refine s_step (g_aload_n (iRow iCX6_readWord_2 18 rfl) rfl rfl) ?_
              refine s_step (g_iload_n (iRow iCX6_readWord_2 19 rfl) rfl rfl) ?_
              refine s_step (g_putI (iRow iCX6_readWord_2 20 rfl) f6_42 (Or.inl rfl) ko_7) ?_
              refine s_nmM (fun M11 => ?_)
              exact s_end (fun h => h)
            · exact s_end (fun h => h)
          · rintro M12
            show SW G (d + 1) YX6_readWord Z 124 [some (vR 7 0), some (vI x9)] [] M12 _ _
            try dsimp only
            refine s_step (g_iincc (c := 1) (ls' := [some (vR 7 0), some (vI (x9 + (1 : Int32)))]) (iRow iCX6_readWord_2 21 rfl) rfl kc_1 (by decide) rfl) ?_
            refine s_step (g_goto (tgt := 99) (iRow iCX6_readWord_2 22 rfl) (by decide)) ?_
            exact s_end (fun h => h)
      · rintro M13
        show SW G (d + 1) YX6_readWord Z 130 [none, none] [] M13 _ _
        try dsimp only
        exact s_retv (iRow iCX6_readWord_2 23 rfl) rfl
    · refine s_step (g_aload_n (iRow iCX6_readWord_1 22 rfl) rfl rfl) ?_
      refine s_step (g_iconst (iRow iCX6_readWord_1 23 rfl) kc_1) ?_
      refine s_step (g_putI (iRow iCX6_readWord_2 0 rfl) f6_45 (Or.inl rfl) ko_7) ?_
      refine s_nmM (fun M14 => ?_)
      exact s_retv (iRow iCX6_readWord_2 1 rfl) rfl
abbrev YX6_next : mY := (RX6, "next", cX6_next, 1, none, none)
set_option maxHeartbeats 400000 in
set_option maxRecDepth 20000 in
theorem t_X6_next {G : mg} {F : Nat} {M : mm} {M' : mm} (d : Nat) (h : m_X6_next F M = some M') : CM G yX6_next cX6_next 1 none (d + 2) [vR 7 0] M none M' := by
  refine ct_v (ls := [some (vR 7 0)]) rfl rfl (Nat.le_of_ble_eq_true rfl) (fun Z => ?_) h
  show SW G (d + 2) YX6_next Z 0 [some (vR 7 0)] [] M _ _
  unfold m_X6_next
  refine s_lp (fun z => [some (vR 7 0)]) (fun z => z) (fun z => LM G (d + 2) YX6_next Z 52 [some (vR 7 0)] [] z) rfl rfl ?_ ?_
  · rintro M1
    show SW G (d + 2) YX6_next Z 0 [some (vR 7 0)] [] M1 (b_X6_next_1c F M1) _
    unfold b_X6_next_1c
    refine s_step (g_aload_n (iRow iCX6_next_0 0 rfl) rfl rfl) ?_
    refine s_step (g_getI (iRow iCX6_next_0 1 rfl) f6_33 ko_7) ?_
    refine s_step (g_aload_n (iRow iCX6_next_0 2 rfl) rfl rfl) ?_
    refine s_step (g_getI (iRow iCX6_next_0 3 rfl) f6_29 ko_7) ?_
    refine s_if (g_icmp_ge (tgt := 52) (iRow iCX6_next_0 4 rfl) (by decide)) (fun _ => ?_) (fun _ => ?_)
    · exact s_end (fun h => h)
    · refine s_step (g_aload_n (iRow iCX6_next_0 5 rfl) rfl rfl) ?_
      refine s_step (g_getR (iRow iCX6_next_0 6 rfl) f6_11 ko_7 (r_7_0 _ _)) ?_
      refine s_step (g_aload_n (iRow iCX6_next_0 7 rfl) rfl rfl) ?_
      refine s_step (g_getI (iRow iCX6_next_0 8 rfl) f6_33 ko_7) ?_
      refine s_gi (fun h => g_bald (iRow iCX6_next_0 9 rfl) kn_40 ka_40 h) ?_
      refine s_step (g_bipush (iRow iCX6_next_0 10 rfl) kb_32) ?_
      refine s_nj 39 (fun z => [some (vR 7 0)]) (fun z => []) (fun z => M1) ?_ (fun j39 hj39 => ?_)
      · intro _
        show SW G (d + 2) YX6_next Z 39 [some (vR 7 0)] [] M1 _ _
        try dsimp only
        refine s_step (g_aload_n (iRow iCX6_next_0 19 rfl) rfl rfl) ?_
        refine s_step (g_dup (iRow iCX6_next_0 20 rfl) rfl) ?_
        refine s_step (g_getI (iRow iCX6_next_0 21 rfl) f6_33 ko_7) ?_
        refine s_step (g_iconst (iRow iCX6_next_0 22 rfl) kc_1) ?_
        refine s_step (g_iadd (iRow iCX6_next_0 23 rfl)) ?_
        refine s_step (g_putI (iRow iCX6_next_1 0 rfl) f6_33 (Or.inl rfl) ko_7) ?_
        refine s_nmM (fun M2 => ?_)
        refine s_step (g_goto (tgt := 0) (iRow iCX6_next_1 1 rfl) (by decide)) ?_
        exact s_end (fun h => h)
      · refine s_if (g_icmp_eq (tgt := 39) (iRow iCX6_next_0 11 rfl) (by decide)) (fun _ => ?_) (fun _ => ?_)
        · exact hj39 _
        · refine s_step (g_aload_n (iRow iCX6_next_0 12 rfl) rfl rfl) ?_
          refine s_step (g_getR (iRow iCX6_next_0 13 rfl) f6_11 ko_7 (r_7_0 _ _)) ?_
          refine s_step (g_aload_n (iRow iCX6_next_0 14 rfl) rfl rfl) ?_
          refine s_step (g_getI (iRow iCX6_next_0 15 rfl) f6_33 ko_7) ?_
          refine s_gi (fun h => g_bald (iRow iCX6_next_0 16 rfl) kn_40 ka_40 h) ?_
          refine s_step (g_bipush (iRow iCX6_next_0 17 rfl) kb_10) ?_
          refine s_ifn (g_icmp_ne (tgt := 52) (iRow iCX6_next_0 18 rfl) (by decide)) (fun _ => ?_) (fun _ => ?_)
          · exact hj39 _
          · exact s_end (fun h => h)
  · rintro M3
    show SW G (d + 2) YX6_next Z 52 [some (vR 7 0)] [] M3 _ _
    try dsimp only
    refine s_step (g_aload_n (iRow iCX6_next_1 2 rfl) rfl rfl) ?_
    refine s_step (g_aload_n (iRow iCX6_next_1 3 rfl) rfl rfl) ?_
    refine s_step (g_getI (iRow iCX6_next_1 4 rfl) f6_33 ko_7) ?_
    refine s_step (g_putI (iRow iCX6_next_1 5 rfl) f6_39 (Or.inl rfl) ko_7) ?_
    refine s_nmM (fun M4 => ?_)
    refine s_step (g_aload_n (iRow iCX6_next_1 6 rfl) rfl rfl) ?_
    refine s_step (g_iconst (iRow iCX6_next_1 7 rfl) kc_m1) ?_
    refine s_step (g_putI (iRow iCX6_next_1 8 rfl) f6_42 (Or.inl rfl) ko_7) ?_
    refine s_nmM (fun M5 => ?_)
    refine s_step (g_aload_n (iRow iCX6_next_1 9 rfl) rfl rfl) ?_
    refine s_step (g_getI (iRow iCX6_next_1 10 rfl) f6_33 ko_7) ?_
    refine s_step (g_aload_n (iRow iCX6_next_1 11 rfl) rfl rfl) ?_
    refine s_step (g_getI (iRow iCX6_next_1 12 rfl) f6_29 ko_7) ?_
    refine s_if (g_icmp_lt (tgt := 84) (iRow iCX6_next_1 13 rfl) (by decide)) (fun _ => ?_) (fun _ => ?_)
    · refine s_step (g_aload_n (iRow iCX6_next_1 18 rfl) rfl rfl) ?_
      refine s_step (g_getR (iRow iCX6_next_1 19 rfl) f6_11 ko_7 (r_7_0 _ _)) ?_
      refine s_step (g_aload_n (iRow iCX6_next_1 20 rfl) rfl rfl) ?_
      refine s_step (g_getI (iRow iCX6_next_1 21 rfl) f6_33 ko_7) ?_
      refine s_gi (fun h => g_bald (iRow iCX6_next_1 22 rfl) kn_40 ka_40 h) ?_
      refine s_cb (sf := fun b => vI (bI b) :: []) (fun _ _ h => h_S (As := [_]) (iRow iCX6_next_1 23 rfl) l6_48 iX6_isLetter rfl rfl (t_X6_isLetter (d + 1) h) rfl (by omega) (by decide) (Nat.le_of_ble_eq_true rfl)) (fun b7 M6 => ?_)
      refine s_ifeqb (g_if_eq (tgt := 106) (iRow iCX6_next_2 0 rfl) (by decide)) (fun _ => ?_) (fun _ => ?_)
      · refine s_step (g_aload_n (iRow iCX6_next_2 1 rfl) rfl rfl) ?_
        refine s_cv (stA := []) (fun _ h => h_V (As := []) (iRow iCX6_next_2 2 rfl) l6_52 iX6_readWord ko_7 rfl rfl rfl rfl (t_X6_readWord (d + 0) h) rfl (by omega) (by decide) (Nat.le_of_ble_eq_true rfl)) (fun M17 => ?_)
        refine s_step (g_goto (tgt := 170) (iRow iCX6_next_2 3 rfl) (by decide)) ?_
        exact s_retv (iRow iCX6_next_3 12 rfl) rfl
      · refine s_step (g_aload_n (iRow iCX6_next_2 4 rfl) rfl rfl) ?_
        refine s_step (g_getR (iRow iCX6_next_2 5 rfl) f6_11 ko_7 (r_7_0 _ _)) ?_
        refine s_step (g_aload_n (iRow iCX6_next_2 6 rfl) rfl rfl) ?_
        refine s_step (g_getI (iRow iCX6_next_2 7 rfl) f6_33 ko_7) ?_
        refine s_gi (fun h => g_bald (iRow iCX6_next_2 8 rfl) kn_40 ka_40 h) ?_
        refine s_cb (sf := fun b => vI (bI b) :: []) (fun _ _ h => h_S (As := [_]) (iRow iCX6_next_2 9 rfl) l6_55 iX6_isDigit rfl rfl (t_X6_isDigit (d + 1) h) rfl (by omega) (by decide) (Nat.le_of_ble_eq_true rfl)) (fun b9 M8 => ?_)
        refine s_ifeqb (g_if_eq (tgt := 128) (iRow iCX6_next_2 10 rfl) (by decide)) (fun _ => ?_) (fun _ => ?_)
        · refine s_step (g_aload_n (iRow iCX6_next_2 11 rfl) rfl rfl) ?_
          refine s_cv (stA := []) (fun _ h => h_V (As := []) (iRow iCX6_next_2 12 rfl) l6_58 iX6_readNumber ko_7 rfl rfl rfl rfl (t_X6_readNumber (d + 0) h) rfl (by omega) (by decide) (Nat.le_of_ble_eq_true rfl)) (fun M16 => ?_)
          refine s_step (g_goto (tgt := 170) (iRow iCX6_next_2 13 rfl) (by decide)) ?_
          exact s_retv (iRow iCX6_next_3 12 rfl) rfl
        · refine s_step (g_aload_n (iRow iCX6_next_2 14 rfl) rfl rfl) ?_
          refine s_step (g_aload_n (iRow iCX6_next_2 15 rfl) rfl rfl) ?_
          refine s_step (g_getR (iRow iCX6_next_2 16 rfl) f6_11 ko_7 (r_7_0 _ _)) ?_
          refine s_step (g_aload_n (iRow iCX6_next_2 17 rfl) rfl rfl) ?_
          refine s_step (g_getI (iRow iCX6_next_2 18 rfl) f6_33 ko_7) ?_
          refine s_gi (fun h => g_bald (iRow iCX6_next_2 19 rfl) kn_40 ka_40 h) ?_
          refine s_step (g_putI (iRow iCX6_next_2 20 rfl) f6_61 (Or.inl rfl) ko_7) ?_
          refine s_nmM (fun M10 => ?_)
          refine s_step (g_aload_n (iRow iCX6_next_2 21 rfl) rfl rfl) ?_
          refine s_step (g_aload_n (iRow iCX6_next_2 22 rfl) rfl rfl) ?_
          refine s_step (g_getI (iRow iCX6_next_2 23 rfl) f6_61 ko_7) ?_
          refine s_cb (sf := fun b => vI (bI b) :: [vR 7 0]) (fun _ _ h => h_S (As := [_]) (iRow iCX6_next_3 0 rfl) l6_64 iX6_isSignOfLanguage rfl rfl (t_X6_isSignOfLanguage (d + 1) h) rfl (by omega) (by decide) (Nat.le_of_ble_eq_true rfl)) (fun b12 M11 => ?_)
          refine s_bd (fun z => LM G (d + 2) YX6_next Z 157 [some (vR 7 0)] [vI z, vR 7 0] M11) ?_ ?_
          · refine s_ifeqb (g_if_eq (tgt := 156) (iRow iCX6_next_3 1 rfl) (by decide)) (fun _ => ?_) (fun _ => ?_)
            · refine s_step (g_iconst (iRow iCX6_next_3 2 rfl) kc_4) ?_
              refine s_step (g_goto (tgt := 157) (iRow iCX6_next_3 3 rfl) (by decide)) ?_
              exact s_end (fun h => h)
            · refine s_step (g_iconst (iRow iCX6_next_3 4 rfl) kc_1) ?_
              exact s_end (fun h => h)
          · rintro x13
            show SW G (d + 2) YX6_next Z 157 [some (vR 7 0)] [vI x13, vR 7 0] M11 _ _
            try dsimp only
            refine s_step (g_putI (iRow iCX6_next_3 5 rfl) f6_45 (Or.inl rfl) ko_7) ?_
            refine s_nmM (fun M14 => ?_)
            refine s_step (g_aload_n (iRow iCX6_next_3 6 rfl) rfl rfl) ?_
            refine s_step (g_dup (iRow iCX6_next_3 7 rfl) rfl) ?_
            refine s_step (g_getI (iRow iCX6_next_3 8 rfl) f6_33 ko_7) ?_
            refine s_step (g_iconst (iRow iCX6_next_3 9 rfl) kc_1) ?_
            refine s_step (g_iadd (iRow iCX6_next_3 10 rfl)) ?_
            refine s_step (g_putI (iRow iCX6_next_3 11 rfl) f6_33 (Or.inl rfl) ko_7) ?_
            refine s_nmM (fun M15 => ?_)
            exact s_retv (iRow iCX6_next_3 12 rfl) rfl
    · refine s_step (g_aload_n (iRow iCX6_next_1 14 rfl) rfl rfl) ?_
      refine s_step (g_iconst (iRow iCX6_next_1 15 rfl) kc_0) ?_
      refine s_step (g_putI (iRow iCX6_next_1 16 rfl) f6_45 (Or.inl rfl) ko_7) ?_
      refine s_nmM (fun M18 => ?_)
      refine s_step (g_goto (tgt := 170) (iRow iCX6_next_1 17 rfl) (by decide)) ?_
      exact s_retv (iRow iCX6_next_3 12 rfl) rfl
abbrev YX6_start : mY := (RX6, "start", cX6_start, 1, none, none)
set_option maxHeartbeats 400000 in
set_option maxRecDepth 20000 in
theorem t_X6_start {G : mg} {F : Nat} {M : mm} {M' : mm} (d : Nat) (h : m_X6_start F M = some M') : CM G yX6_start cX6_start 1 none (d + 3) [vR 7 0] M none M' := by
  refine ct_v (ls := [some (vR 7 0)]) rfl rfl (Nat.le_of_ble_eq_true rfl) (fun Z => ?_) h
  show SW G (d + 3) YX6_start Z 0 [some (vR 7 0)] [] M _ _
  unfold m_X6_start
  refine s_step (g_aload_n (iRow iCX6_start_0 0 rfl) rfl rfl) ?_
  refine s_step (g_iconst (iRow iCX6_start_0 1 rfl) kc_0) ?_
  refine s_step (g_putI (iRow iCX6_start_0 2 rfl) f6_33 (Or.inl rfl) ko_7) ?_
  refine s_nmM (fun M1 => ?_)
  refine s_step (g_aload_n (iRow iCX6_start_0 3 rfl) rfl rfl) ?_
  refine s_cv (stA := []) (fun _ h => h_V (As := []) (iRow iCX6_start_0 4 rfl) l6_36 iX6_next ko_7 rfl rfl rfl rfl (t_X6_next (d + 0) h) rfl (by omega) (by decide) (Nat.le_of_ble_eq_true rfl)) (fun M2 => ?_)
  exact s_retv (iRow iCX6_start_0 5 rfl) rfl
abbrev YX6_isName : mY := (RX6, "isName", cX6_isName, 1, (some .boolean), none)
set_option maxHeartbeats 400000 in
set_option maxRecDepth 20000 in
theorem t_X6_isName {G : mg} {F : Nat} {M : mm} {x : Bool} {M' : mm} (d : Nat) (h : m_X6_isName F M = some (x, M')) : CM G yX6_isName cX6_isName 1 (some .boolean) (d + 0) [vR 7 0] M (some (vI (bI x))) M' := by
  refine ct_z (ls := [some (vR 7 0)]) rfl rfl (Nat.le_of_ble_eq_true rfl) (fun Z => ?_) h
  show SW G (d + 0) YX6_isName Z 0 [some (vR 7 0)] [] M _ _
  unfold m_X6_isName
  refine s_step (g_aload_n (iRow iCX6_isName_0 0 rfl) rfl rfl) ?_
  refine s_step (g_getI (iRow iCX6_isName_0 1 rfl) f6_45 ko_7) ?_
  refine s_step (g_iconst (iRow iCX6_isName_0 2 rfl) kc_2) ?_
  refine s_ifn (g_icmp_ne (tgt := 29) (iRow iCX6_isName_0 3 rfl) (by decide)) (fun _ => ?_) (fun _ => ?_)
  · refine s_step (g_aload_n (iRow iCX6_isName_0 4 rfl) rfl rfl) ?_
    refine s_step (g_getI (iRow iCX6_isName_0 5 rfl) f6_42 ko_7) ?_
    refine s_step (g_iconst (iRow iCX6_isName_0 6 rfl) kc_m1) ?_
    refine s_if (g_icmp_eq (tgt := 25) (iRow iCX6_isName_0 7 rfl) (by decide)) (fun _ => ?_) (fun _ => ?_)
    · refine s_step (g_iconst (iRow iCX6_isName_0 12 rfl) kc_1) ?_
      refine s_step (g_goto (tgt := 30) (iRow iCX6_isName_0 13 rfl) (by decide)) ?_
      exact s_retz (b := true) (iRow iCX6_isName_0 15 rfl) rfl rfl
    · refine s_step (g_aload_n (iRow iCX6_isName_0 8 rfl) rfl rfl) ?_
      refine s_step (g_getI (iRow iCX6_isName_0 9 rfl) f6_42 ko_7) ?_
      refine s_step (g_bipush (iRow iCX6_isName_0 10 rfl) kb_25) ?_
      refine s_if (g_icmp_lt (tgt := 29) (iRow iCX6_isName_0 11 rfl) (by decide)) (fun _ => ?_) (fun _ => ?_)
      · refine s_step (g_iconst (iRow iCX6_isName_0 14 rfl) kc_0) ?_
        exact s_retz (b := false) (iRow iCX6_isName_0 15 rfl) rfl rfl
      · refine s_step (g_iconst (iRow iCX6_isName_0 12 rfl) kc_1) ?_
        refine s_step (g_goto (tgt := 30) (iRow iCX6_isName_0 13 rfl) (by decide)) ?_
        exact s_retz (b := true) (iRow iCX6_isName_0 15 rfl) rfl rfl
  · refine s_step (g_iconst (iRow iCX6_isName_0 14 rfl) kc_0) ?_
    exact s_retz (b := false) (iRow iCX6_isName_0 15 rfl) rfl rfl
abbrev YX5_find_20 : mY := (RX5, "find", cX5_find, 5, (some .int), none)
set_option maxHeartbeats 400000 in
set_option maxRecDepth 20000 in
theorem t_X5_find_20 {G : mg} {F : Nat} {a1 : Nat} {a2 : Int32} {a3 : Int64} {M : mm} {x : Int32} {M' : mm} (d : Nat) (h : m_X5_find_20 F a1 a2 a3 M = some (x, M')) : CM G yX5_find cX5_find 5 (some .int) (d + 0) [vR 20 a1, vI a2, vL (a3)] M (some (vI x)) M' := by
  refine ct_i (ls := [some (vR 20 a1), some (vI a2), some (vL (a3)), none, none]) rfl rfl (Nat.le_of_ble_eq_true rfl) (fun Z => ?_) h
  show SW G (d + 0) YX5_find_20 Z 0 [some (vR 20 a1), some (vI a2), some (vL (a3)), none, none] [] M _ _
  unfold m_X5_find_20
  refine s_step (g_iconst (iRow iCX5_find_0 0 rfl) kc_0) ?_
  refine s_step (g_istore (ls' := [some (vR 20 a1), some (vI a2), some (vL (a3)), none, some (vI (0 : Int32))]) (iRow iCX5_find_0 1 rfl) (by decide) rfl) ?_
  refine s_lp (fun z => [some (vR 20 a1), some (vI a2), some (vL (a3)), none, some (vI z)]) (fun _ => M) (Sum.elim (fun z => LM G (d + 0) YX5_find_20 Z 25 [none, none, none, none, some (vI z)] [] M) (fun z => LM G (d + 0) YX5_find_20 Z 34 [none, none, none, none, none] [] M)) rfl rfl ?_ ?_
  · rintro x1
    show SW G (d + 0) YX5_find_20 Z 3 [some (vR 20 a1), some (vI a2), some (vL (a3)), none, some (vI x1)] [] M (b_X5_find_20_1c F a1 a2 a3 M x1) _
    unfold b_X5_find_20_1c
    refine s_step (g_iload (iRow iCX5_find_0 2 rfl) rfl) ?_
    refine s_step (g_iload_n (iRow iCX5_find_0 3 rfl) rfl rfl) ?_
    refine s_if (g_icmp_ge (tgt := 34) (iRow iCX5_find_0 4 rfl) (by decide)) (fun _ => ?_) (fun _ => ?_)
    · refine s_step (g_keep [false, false, false, false, false] rfl) ?_
      exact s_end (fun h => h)
    · refine s_step (g_iload (iRow iCX5_find_0 5 rfl) rfl) ?_
      refine s_step (g_aload_n (iRow iCX5_find_0 6 rfl) rfl rfl) ?_
      refine s_step (g_alen (iRow iCX5_find_0 7 rfl) kn_20 ka_20 (by decide) (by decide) kl_6) ?_
      refine s_if (g_icmp_ge (tgt := 34) (iRow iCX5_find_0 8 rfl) (by decide)) (fun _ => ?_) (fun _ => ?_)
      · refine s_step (g_keep [false, false, false, false, false] rfl) ?_
        exact s_end (fun h => h)
      · refine s_step (g_aload_n (iRow iCX5_find_0 9 rfl) rfl rfl) ?_
        refine s_step (g_iload (iRow iCX5_find_0 10 rfl) rfl) ?_
        refine s_gi (fun h => g_lald (iRow iCX5_find_0 11 rfl) kn_20 ka_20 h) ?_
        refine s_step (g_lload_n (iRow iCX5_find_0 12 rfl) rfl rfl) ?_
        refine s_step (g_lcmp (iRow iCX5_find_0 13 rfl)) ?_
        refine s_ifn (g_if_ne (tgt := 28) (iRow iCX5_find_0 14 rfl) (by decide)) (fun _ => ?_) (fun _ => ?_)
        · refine s_step (g_keep [false, false, false, false, true] rfl) ?_
          exact s_end (fun h => h)
        · refine s_step (g_iincc (c := 1) (ls' := [some (vR 20 a1), some (vI a2), some (vL (a3)), none, some (vI (x1 + (1 : Int32)))]) (iRow iCX5_find_0 17 rfl) rfl kc_1 (by decide) rfl) ?_
          refine s_step (g_goto (tgt := 3) (iRow iCX5_find_0 18 rfl) (by decide)) ?_
          exact s_end (fun h => h)
  · intro z
    rcases z with z | z
    · generalize z = x2
      show SW G (d + 0) YX5_find_20 Z 25 [none, none, none, none, some (vI x2)] [] M _ _
      try dsimp only [Sum.elim]
      refine s_step (g_iload (iRow iCX5_find_0 15 rfl) rfl) ?_
      exact s_reti (iRow iCX5_find_0 16 rfl) rfl
    · obtain ⟨⟩ := z
      show SW G (d + 0) YX5_find_20 Z 34 [none, none, none, none, none] [] M _ _
      try dsimp only [Sum.elim]
      refine s_step (g_iconst (iRow iCX5_find_0 19 rfl) kc_m1) ?_
      exact s_reti (iRow iCX5_find_0 20 rfl) rfl
abbrev YX5_find_24 : mY := (RX5, "find", cX5_find, 5, (some .int), none)
set_option maxHeartbeats 400000 in
set_option maxRecDepth 20000 in
theorem t_X5_find_24 {G : mg} {F : Nat} {a1 : Nat} {a2 : Int32} {a3 : Int64} {M : mm} {x : Int32} {M' : mm} (d : Nat) (h : m_X5_find_24 F a1 a2 a3 M = some (x, M')) : CM G yX5_find cX5_find 5 (some .int) (d + 0) [vR 24 a1, vI a2, vL (a3)] M (some (vI x)) M' := by
  refine ct_i (ls := [some (vR 24 a1), some (vI a2), some (vL (a3)), none, none]) rfl rfl (Nat.le_of_ble_eq_true rfl) (fun Z => ?_) h
  show SW G (d + 0) YX5_find_24 Z 0 [some (vR 24 a1), some (vI a2), some (vL (a3)), none, none] [] M _ _
  unfold m_X5_find_24
  refine s_step (g_iconst (iRow iCX5_find_0 0 rfl) kc_0) ?_
  refine s_step (g_istore (ls' := [some (vR 24 a1), some (vI a2), some (vL (a3)), none, some (vI (0 : Int32))]) (iRow iCX5_find_0 1 rfl) (by decide) rfl) ?_
  refine s_lp (fun z => [some (vR 24 a1), some (vI a2), some (vL (a3)), none, some (vI z)]) (fun _ => M) (Sum.elim (fun z => LM G (d + 0) YX5_find_24 Z 25 [none, none, none, none, some (vI z)] [] M) (fun z => LM G (d + 0) YX5_find_24 Z 34 [none, none, none, none, none] [] M)) rfl rfl ?_ ?_
  · rintro x1
    show SW G (d + 0) YX5_find_24 Z 3 [some (vR 24 a1), some (vI a2), some (vL (a3)), none, some (vI x1)] [] M (b_X5_find_24_1c F a1 a2 a3 M x1) _
    unfold b_X5_find_24_1c
    refine s_step (g_iload (iRow iCX5_find_0 2 rfl) rfl) ?_
    refine s_step (g_iload_n (iRow iCX5_find_0 3 rfl) rfl rfl) ?_
    refine s_if (g_icmp_ge (tgt := 34) (iRow iCX5_find_0 4 rfl) (by decide)) (fun _ => ?_) (fun _ => ?_)
    · refine s_step (g_keep [false, false, false, false, false] rfl) ?_
      exact s_end (fun h => h)
    · refine s_step (g_iload (iRow iCX5_find_0 5 rfl) rfl) ?_
      refine s_step (g_aload_n (iRow iCX5_find_0 6 rfl) rfl rfl) ?_
      refine s_step (g_alen (iRow iCX5_find_0 7 rfl) kn_24 ka_24 (by decide) (by decide) kl_10) ?_
      refine s_if (g_icmp_ge (tgt := 34) (iRow iCX5_find_0 8 rfl) (by decide)) (fun _ => ?_) (fun _ => ?_)
      · refine s_step (g_keep [false, false, false, false, false] rfl) ?_
        exact s_end (fun h => h)
      · refine s_step (g_aload_n (iRow iCX5_find_0 9 rfl) rfl rfl) ?_
        refine s_step (g_iload (iRow iCX5_find_0 10 rfl) rfl) ?_
        refine s_gi (fun h => g_lald (iRow iCX5_find_0 11 rfl) kn_24 ka_24 h) ?_
        refine s_step (g_lload_n (iRow iCX5_find_0 12 rfl) rfl rfl) ?_
        refine s_step (g_lcmp (iRow iCX5_find_0 13 rfl)) ?_
        refine s_ifn (g_if_ne (tgt := 28) (iRow iCX5_find_0 14 rfl) (by decide)) (fun _ => ?_) (fun _ => ?_)
        · refine s_step (g_keep [false, false, false, false, true] rfl) ?_
          exact s_end (fun h => h)
        · refine s_step (g_iincc (c := 1) (ls' := [some (vR 24 a1), some (vI a2), some (vL (a3)), none, some (vI (x1 + (1 : Int32)))]) (iRow iCX5_find_0 17 rfl) rfl kc_1 (by decide) rfl) ?_
          refine s_step (g_goto (tgt := 3) (iRow iCX5_find_0 18 rfl) (by decide)) ?_
          exact s_end (fun h => h)
  · intro z
    rcases z with z | z
    · generalize z = x2
      show SW G (d + 0) YX5_find_24 Z 25 [none, none, none, none, some (vI x2)] [] M _ _
      try dsimp only [Sum.elim]
      refine s_step (g_iload (iRow iCX5_find_0 15 rfl) rfl) ?_
      exact s_reti (iRow iCX5_find_0 16 rfl) rfl
    · obtain ⟨⟩ := z
      show SW G (d + 0) YX5_find_24 Z 34 [none, none, none, none, none] [] M _ _
      try dsimp only [Sum.elim]
      refine s_step (g_iconst (iRow iCX5_find_0 19 rfl) kc_m1) ?_
      exact s_reti (iRow iCX5_find_0 20 rfl) rfl
abbrev YX5_find_30 : mY := (RX5, "find", cX5_find, 5, (some .int), none)
set_option maxHeartbeats 400000 in
set_option maxRecDepth 20000 in
theorem t_X5_find_30 {G : mg} {F : Nat} {a1 : Nat} {a2 : Int32} {a3 : Int64} {M : mm} {x : Int32} {M' : mm} (d : Nat) (h : m_X5_find_30 F a1 a2 a3 M = some (x, M')) : CM G yX5_find cX5_find 5 (some .int) (d + 0) [vR 30 a1, vI a2, vL (a3)] M (some (vI x)) M' := by
  refine ct_i (ls := [some (vR 30 a1), some (vI a2), some (vL (a3)), none, none]) rfl rfl (Nat.le_of_ble_eq_true rfl) (fun Z => ?_) h
  show SW G (d + 0) YX5_find_30 Z 0 [some (vR 30 a1), some (vI a2), some (vL (a3)), none, none] [] M _ _
  unfold m_X5_find_30
  refine s_step (g_iconst (iRow iCX5_find_0 0 rfl) kc_0) ?_
  refine s_step (g_istore (ls' := [some (vR 30 a1), some (vI a2), some (vL (a3)), none, some (vI (0 : Int32))]) (iRow iCX5_find_0 1 rfl) (by decide) rfl) ?_
  refine s_lp (fun z => [some (vR 30 a1), some (vI a2), some (vL (a3)), none, some (vI z)]) (fun _ => M) (Sum.elim (fun z => LM G (d + 0) YX5_find_30 Z 25 [none, none, none, none, some (vI z)] [] M) (fun z => LM G (d + 0) YX5_find_30 Z 34 [none, none, none, none, none] [] M)) rfl rfl ?_ ?_
  · rintro x1
    show SW G (d + 0) YX5_find_30 Z 3 [some (vR 30 a1), some (vI a2), some (vL (a3)), none, some (vI x1)] [] M (b_X5_find_30_1c F a1 a2 a3 M x1) _
    unfold b_X5_find_30_1c
    refine s_step (g_iload (iRow iCX5_find_0 2 rfl) rfl) ?_
    refine s_step (g_iload_n (iRow iCX5_find_0 3 rfl) rfl rfl) ?_
    refine s_if (g_icmp_ge (tgt := 34) (iRow iCX5_find_0 4 rfl) (by decide)) (fun _ => ?_) (fun _ => ?_)
    · refine s_step (g_keep [false, false, false, false, false] rfl) ?_
      exact s_end (fun h => h)
    · refine s_step (g_iload (iRow iCX5_find_0 5 rfl) rfl) ?_
      refine s_step (g_aload_n (iRow iCX5_find_0 6 rfl) rfl rfl) ?_
      refine s_step (g_alen (iRow iCX5_find_0 7 rfl) kn_30 ka_30 (by decide) (by decide) kl_10) ?_
      refine s_if (g_icmp_ge (tgt := 34) (iRow iCX5_find_0 8 rfl) (by decide)) (fun _ => ?_) (fun _ => ?_)
      · refine s_step (g_keep [false, false, false, false, false] rfl) ?_
        exact s_end (fun h => h)
      · refine s_step (g_aload_n (iRow iCX5_find_0 9 rfl) rfl rfl) ?_
        refine s_step (g_iload (iRow iCX5_find_0 10 rfl) rfl) ?_
        refine s_gi (fun h => g_lald (iRow iCX5_find_0 11 rfl) kn_30 ka_30 h) ?_
        refine s_step (g_lload_n (iRow iCX5_find_0 12 rfl) rfl rfl) ?_
        refine s_step (g_lcmp (iRow iCX5_find_0 13 rfl)) ?_
        refine s_ifn (g_if_ne (tgt := 28) (iRow iCX5_find_0 14 rfl) (by decide)) (fun _ => ?_) (fun _ => ?_)
        · refine s_step (g_keep [false, false, false, false, true] rfl) ?_
          exact s_end (fun h => h)
        · refine s_step (g_iincc (c := 1) (ls' := [some (vR 30 a1), some (vI a2), some (vL (a3)), none, some (vI (x1 + (1 : Int32)))]) (iRow iCX5_find_0 17 rfl) rfl kc_1 (by decide) rfl) ?_
          refine s_step (g_goto (tgt := 3) (iRow iCX5_find_0 18 rfl) (by decide)) ?_
          exact s_end (fun h => h)
  · intro z
    rcases z with z | z
    · generalize z = x2
      show SW G (d + 0) YX5_find_30 Z 25 [none, none, none, none, some (vI x2)] [] M _ _
      try dsimp only [Sum.elim]
      refine s_step (g_iload (iRow iCX5_find_0 15 rfl) rfl) ?_
      exact s_reti (iRow iCX5_find_0 16 rfl) rfl
    · obtain ⟨⟩ := z
      show SW G (d + 0) YX5_find_30 Z 34 [none, none, none, none, none] [] M _ _
      try dsimp only [Sum.elim]
      refine s_step (g_iconst (iRow iCX5_find_0 19 rfl) kc_m1) ?_
      exact s_reti (iRow iCX5_find_0 20 rfl) rfl
abbrev YX5_wrong : mY := (RX5, "wrong", cX5_wrong, 2, (some .boolean), none)
set_option maxHeartbeats 400000 in
set_option maxRecDepth 20000 in
theorem t_X5_wrong {G : mg} {F : Nat} {a1 : Int32} {M : mm} {x : Bool} {M' : mm} (d : Nat) (h : m_X5_wrong F a1 M = some (x, M')) : CM G yX5_wrong cX5_wrong 2 (some .boolean) (d + 0) [vR 6 0, vI a1] M (some (vI (bI x))) M' := by
  refine ct_z (ls := [some (vR 6 0), some (vI a1)]) rfl rfl (Nat.le_of_ble_eq_true rfl) (fun Z => ?_) h
  show SW G (d + 0) YX5_wrong Z 0 [some (vR 6 0), some (vI a1)] [] M _ _
  unfold m_X5_wrong
  refine s_step (g_aload_n (iRow iCX5_wrong_0 0 rfl) rfl rfl) ?_
  refine s_step (g_iload_n (iRow iCX5_wrong_0 1 rfl) rfl rfl) ?_
  refine s_step (g_bipush (iRow iCX5_wrong_0 2 rfl) kb_16) ?_
  refine s_step (g_aload_n (iRow iCX5_wrong_0 3 rfl) rfl rfl) ?_
  refine s_step (g_getR (iRow iCX5_wrong_0 4 rfl) f5_9 ko_6 (r_6_0 _ _)) ?_
  refine s_step (g_getI (iRow iCX5_wrong_0 5 rfl) f5_215 ko_7) ?_
  refine s_step (g_imul (iRow iCX5_wrong_0 6 rfl)) ?_
  refine s_step (g_iadd (iRow iCX5_wrong_0 7 rfl)) ?_
  refine s_step (g_putI (iRow iCX5_wrong_0 8 rfl) f5_41 (Or.inl rfl) ko_6) ?_
  refine s_nmM (fun M1 => ?_)
  refine s_step (g_iconst (iRow iCX5_wrong_0 9 rfl) kc_0) ?_
  exact s_retz (b := false) (iRow iCX5_wrong_0 10 rfl) rfl rfl
abbrev YX5_takeNewName : mY := (RX5, "takeNewName", cX5_takeNewName, 1, (some .boolean), none)
set_option maxHeartbeats 400000 in
set_option maxRecDepth 20000 in
theorem t_X5_takeNewName {G : mg} {F : Nat} {M : mm} {x : Bool} {M' : mm} (d : Nat) (h : m_X5_takeNewName F M = some (x, M')) : CM G yX5_takeNewName cX5_takeNewName 1 (some .boolean) (d + 3) [vR 6 0] M (some (vI (bI x))) M' := by
  refine ct_z (ls := [some (vR 6 0)]) rfl rfl (Nat.le_of_ble_eq_true rfl) (fun Z => ?_) h
  show SW G (d + 3) YX5_takeNewName Z 0 [some (vR 6 0)] [] M _ _
  unfold m_X5_takeNewName
  refine s_step (g_aload_n (iRow iCX5_takeNewName_0 0 rfl) rfl rfl) ?_
  refine s_step (g_getR (iRow iCX5_takeNewName_0 1 rfl) f5_9 ko_6 (r_6_0 _ _)) ?_
  refine s_cb (sf := fun b => vI (bI b) :: []) (fun _ _ h => h_V (As := []) (iRow iCX5_takeNewName_0 2 rfl) l5_178 iX6_isName ko_7 rfl rfl rfl rfl (t_X6_isName (d + 2) h) rfl (by omega) (by decide) (Nat.le_of_ble_eq_true rfl)) (fun b2 M1 => ?_)
  refine s_ifneb (g_if_ne (tgt := 16) (iRow iCX5_takeNewName_0 3 rfl) (by decide)) (fun _ => ?_) (fun _ => ?_)
  · refine s_step (g_aload_n (iRow iCX5_takeNewName_0 8 rfl) rfl rfl) ?_
    refine s_step (g_getR (iRow iCX5_takeNewName_0 9 rfl) f5_15 ko_6 (r_6_2 _ _)) ?_
    refine s_step (g_getR (iRow iCX5_takeNewName_0 10 rfl) f5_124 ko_1 (r_1_1 _ _)) ?_
    refine s_step (g_aload_n (iRow iCX5_takeNewName_0 11 rfl) rfl rfl) ?_
    refine s_step (g_getR (iRow iCX5_takeNewName_0 12 rfl) f5_15 ko_6 (r_6_2 _ _)) ?_
    refine s_step (g_getI (iRow iCX5_takeNewName_0 13 rfl) f5_91 ko_1) ?_
    refine s_step (g_aload_n (iRow iCX5_takeNewName_0 14 rfl) rfl rfl) ?_
    refine s_step (g_getR (iRow iCX5_takeNewName_0 15 rfl) f5_9 ko_6 (r_6_0 _ _)) ?_
    refine s_step (g_getL (iRow iCX5_takeNewName_0 16 rfl) f5_97 ko_7) ?_
    refine s_cl (sf := fun x => vI x :: []) (fun _ _ h => h_S (As := [_, _, _]) (iRow iCX5_takeNewName_0 17 rfl) l5_181 iX5_find rfl rfl (t_X5_find_20 (d + 2) h) rfl (by omega) (by decide) (Nat.le_of_ble_eq_true rfl)) (fun x4 M3 => ?_)
    refine s_step (g_iconst (iRow iCX5_takeNewName_0 18 rfl) kc_m1) ?_
    refine s_nj 100 (fun z => [some (vR 6 0)]) (fun z => []) (fun z => z) ?_ (fun j100 hj100 => ?_)
    · rintro M10
      show SW G (d + 3) YX5_takeNewName Z 100 [some (vR 6 0)] [] M10 _ _
      try dsimp only
      refine s_step (g_aload_n (iRow iCX5_takeNewName_1 20 rfl) rfl rfl) ?_
      refine s_step (g_iconst (iRow iCX5_takeNewName_1 21 rfl) kc_3) ?_
      refine s_cb (sf := fun b => vI (bI b) :: []) (fun _ _ h => h_V (As := [_]) (iRow iCX5_takeNewName_1 22 rfl) l5_87 iX5_wrong ko_6 rfl rfl rfl rfl (t_X5_wrong (d + 2) h) rfl (by omega) (by decide) (Nat.le_of_ble_eq_true rfl)) (fun b12 M11 => ?_)
      exact s_retz (iRow iCX5_takeNewName_1 23 rfl) rfl rfl
    · refine s_ifn (g_icmp_ne (tgt := 100) (iRow iCX5_takeNewName_0 19 rfl) (by decide)) (fun _ => ?_) (fun _ => ?_)
      · refine s_step (g_aload_n (iRow iCX5_takeNewName_0 20 rfl) rfl rfl) ?_
        refine s_step (g_getR (iRow iCX5_takeNewName_0 21 rfl) f5_15 ko_6 (r_6_2 _ _)) ?_
        refine s_step (g_getR (iRow iCX5_takeNewName_0 22 rfl) f5_142 ko_1 (r_1_6 _ _)) ?_
        refine s_step (g_aload_n (iRow iCX5_takeNewName_0 23 rfl) rfl rfl) ?_
        refine s_step (g_getR (iRow iCX5_takeNewName_1 0 rfl) f5_15 ko_6 (r_6_2 _ _)) ?_
        refine s_step (g_getI (iRow iCX5_takeNewName_1 1 rfl) f5_128 ko_1) ?_
        refine s_step (g_aload_n (iRow iCX5_takeNewName_1 2 rfl) rfl rfl) ?_
        refine s_step (g_getR (iRow iCX5_takeNewName_1 3 rfl) f5_9 ko_6 (r_6_0 _ _)) ?_
        refine s_step (g_getL (iRow iCX5_takeNewName_1 4 rfl) f5_97 ko_7) ?_
        refine s_cl (sf := fun x => vI x :: []) (fun _ _ h => h_S (As := [_, _, _]) (iRow iCX5_takeNewName_1 5 rfl) l5_181 iX5_find rfl rfl (t_X5_find_24 (d + 2) h) rfl (by omega) (by decide) (Nat.le_of_ble_eq_true rfl)) (fun x6 M5 => ?_)
        refine s_step (g_iconst (iRow iCX5_takeNewName_1 6 rfl) kc_m1) ?_
        refine s_ifn (g_icmp_ne (tgt := 100) (iRow iCX5_takeNewName_1 7 rfl) (by decide)) (fun _ => ?_) (fun _ => ?_)
        · refine s_step (g_aload_n (iRow iCX5_takeNewName_1 8 rfl) rfl rfl) ?_
          refine s_step (g_getR (iRow iCX5_takeNewName_1 9 rfl) f5_15 ko_6 (r_6_2 _ _)) ?_
          refine s_step (g_getR (iRow iCX5_takeNewName_1 10 rfl) f5_172 ko_1 (r_1_14 _ _)) ?_
          refine s_step (g_aload_n (iRow iCX5_takeNewName_1 11 rfl) rfl rfl) ?_
          refine s_step (g_getR (iRow iCX5_takeNewName_1 12 rfl) f5_15 ko_6 (r_6_2 _ _)) ?_
          refine s_step (g_getI (iRow iCX5_takeNewName_1 13 rfl) f5_151 ko_1) ?_
          refine s_step (g_aload_n (iRow iCX5_takeNewName_1 14 rfl) rfl rfl) ?_
          refine s_step (g_getR (iRow iCX5_takeNewName_1 15 rfl) f5_9 ko_6 (r_6_0 _ _)) ?_
          refine s_step (g_getL (iRow iCX5_takeNewName_1 16 rfl) f5_97 ko_7) ?_
          refine s_cl (sf := fun x => vI x :: []) (fun _ _ h => h_S (As := [_, _, _]) (iRow iCX5_takeNewName_1 17 rfl) l5_181 iX5_find rfl rfl (t_X5_find_30 (d + 2) h) rfl (by omega) (by decide) (Nat.le_of_ble_eq_true rfl)) (fun x8 M7 => ?_)
          refine s_step (g_iconst (iRow iCX5_takeNewName_1 18 rfl) kc_m1) ?_
          refine s_if (g_icmp_eq (tgt := 106) (iRow iCX5_takeNewName_1 19 rfl) (by decide)) (fun _ => ?_) (fun _ => ?_)
          · refine s_step (g_aload_n (iRow iCX5_takeNewName_2 0 rfl) rfl rfl) ?_
            refine s_step (g_getR (iRow iCX5_takeNewName_2 1 rfl) f5_9 ko_6 (r_6_0 _ _)) ?_
            refine s_cv (stA := []) (fun _ h => h_V (As := []) (iRow iCX5_takeNewName_2 2 rfl) l5_94 iX6_next ko_7 rfl rfl rfl rfl (t_X6_next (d + 0) h) rfl (by omega) (by decide) (Nat.le_of_ble_eq_true rfl)) (fun M9 => ?_)
            refine s_step (g_iconst (iRow iCX5_takeNewName_2 3 rfl) kc_1) ?_
            exact s_retz (b := true) (iRow iCX5_takeNewName_2 4 rfl) rfl rfl
          · exact hj100 _
        · exact hj100 _
      · exact hj100 _
  · refine s_step (g_aload_n (iRow iCX5_takeNewName_0 4 rfl) rfl rfl) ?_
    refine s_step (g_iconst (iRow iCX5_takeNewName_0 5 rfl) kc_1) ?_
    refine s_cb (sf := fun b => vI (bI b) :: []) (fun _ _ h => h_V (As := [_]) (iRow iCX5_takeNewName_0 6 rfl) l5_87 iX5_wrong ko_6 rfl rfl rfl rfl (t_X5_wrong (d + 2) h) rfl (by omega) (by decide) (Nat.le_of_ble_eq_true rfl)) (fun b14 M13 => ?_)
    exact s_retz (iRow iCX5_takeNewName_0 7 rfl) rfl rfl
abbrev YX6_isWord : mY := (RX6, "isWord", cX6_isWord, 2, (some .boolean), none)
set_option maxHeartbeats 400000 in
set_option maxRecDepth 20000 in
theorem t_X6_isWord {G : mg} {F : Nat} {a1 : Int32} {M : mm} {x : Bool} {M' : mm} (d : Nat) (h : m_X6_isWord F a1 M = some (x, M')) : CM G yX6_isWord cX6_isWord 2 (some .boolean) (d + 0) [vR 7 0, vI a1] M (some (vI (bI x))) M' := by
  refine ct_z (ls := [some (vR 7 0), some (vI a1)]) rfl rfl (Nat.le_of_ble_eq_true rfl) (fun Z => ?_) h
  show SW G (d + 0) YX6_isWord Z 0 [some (vR 7 0), some (vI a1)] [] M _ _
  unfold m_X6_isWord
  refine s_step (g_aload_n (iRow iCX6_isWord_0 0 rfl) rfl rfl) ?_
  refine s_step (g_getI (iRow iCX6_isWord_0 1 rfl) f6_45 ko_7) ?_
  refine s_step (g_iconst (iRow iCX6_isWord_0 2 rfl) kc_2) ?_
  refine s_ifn (g_icmp_ne (tgt := 20) (iRow iCX6_isWord_0 3 rfl) (by decide)) (fun _ => ?_) (fun _ => ?_)
  · refine s_step (g_aload_n (iRow iCX6_isWord_0 4 rfl) rfl rfl) ?_
    refine s_step (g_getI (iRow iCX6_isWord_0 5 rfl) f6_42 ko_7) ?_
    refine s_step (g_iload_n (iRow iCX6_isWord_0 6 rfl) rfl rfl) ?_
    refine s_ifn (g_icmp_ne (tgt := 20) (iRow iCX6_isWord_0 7 rfl) (by decide)) (fun _ => ?_) (fun _ => ?_)
    · refine s_step (g_iconst (iRow iCX6_isWord_0 8 rfl) kc_1) ?_
      refine s_step (g_goto (tgt := 21) (iRow iCX6_isWord_0 9 rfl) (by decide)) ?_
      exact s_retz (b := true) (iRow iCX6_isWord_0 11 rfl) rfl rfl
    · refine s_step (g_iconst (iRow iCX6_isWord_0 10 rfl) kc_0) ?_
      exact s_retz (b := false) (iRow iCX6_isWord_0 11 rfl) rfl rfl
  · refine s_step (g_iconst (iRow iCX6_isWord_0 10 rfl) kc_0) ?_
    exact s_retz (b := false) (iRow iCX6_isWord_0 11 rfl) rfl rfl
abbrev YX5_takeWord : mY := (RX5, "takeWord", cX5_takeWord, 2, (some .boolean), none)
set_option maxHeartbeats 400000 in
set_option maxRecDepth 20000 in
theorem t_X5_takeWord {G : mg} {F : Nat} {a1 : Int32} {M : mm} {x : Bool} {M' : mm} (d : Nat) (h : m_X5_takeWord F a1 M = some (x, M')) : CM G yX5_takeWord cX5_takeWord 2 (some .boolean) (d + 3) [vR 6 0, vI a1] M (some (vI (bI x))) M' := by
  refine ct_z (ls := [some (vR 6 0), some (vI a1)]) rfl rfl (Nat.le_of_ble_eq_true rfl) (fun Z => ?_) h
  show SW G (d + 3) YX5_takeWord Z 0 [some (vR 6 0), some (vI a1)] [] M _ _
  unfold m_X5_takeWord
  refine s_step (g_aload_n (iRow iCX5_takeWord_0 0 rfl) rfl rfl) ?_
  refine s_step (g_getR (iRow iCX5_takeWord_0 1 rfl) f5_9 ko_6 (r_6_0 _ _)) ?_
  refine s_step (g_iload_n (iRow iCX5_takeWord_0 2 rfl) rfl rfl) ?_
  refine s_cb (sf := fun b => vI (bI b) :: []) (fun _ _ h => h_V (As := [_]) (iRow iCX5_takeWord_0 3 rfl) l5_166 iX6_isWord ko_7 rfl rfl rfl rfl (t_X6_isWord (d + 2) h) rfl (by omega) (by decide) (Nat.le_of_ble_eq_true rfl)) (fun b2 M1 => ?_)
  refine s_ifneb (g_if_ne (tgt := 17) (iRow iCX5_takeWord_0 4 rfl) (by decide)) (fun _ => ?_) (fun _ => ?_)
  · refine s_step (g_aload_n (iRow iCX5_takeWord_0 9 rfl) rfl rfl) ?_
    refine s_step (g_getR (iRow iCX5_takeWord_0 10 rfl) f5_9 ko_6 (r_6_0 _ _)) ?_
    refine s_cv (stA := []) (fun _ h => h_V (As := []) (iRow iCX5_takeWord_0 11 rfl) l5_94 iX6_next ko_7 rfl rfl rfl rfl (t_X6_next (d + 0) h) rfl (by omega) (by decide) (Nat.le_of_ble_eq_true rfl)) (fun M3 => ?_)
    refine s_step (g_iconst (iRow iCX5_takeWord_0 12 rfl) kc_1) ?_
    exact s_retz (b := true) (iRow iCX5_takeWord_0 13 rfl) rfl rfl
  · refine s_step (g_aload_n (iRow iCX5_takeWord_0 5 rfl) rfl rfl) ?_
    refine s_step (g_iconst (iRow iCX5_takeWord_0 6 rfl) kc_1) ?_
    refine s_cb (sf := fun b => vI (bI b) :: []) (fun _ _ h => h_V (As := [_]) (iRow iCX5_takeWord_0 7 rfl) l5_87 iX5_wrong ko_6 rfl rfl rfl rfl (t_X5_wrong (d + 2) h) rfl (by omega) (by decide) (Nat.le_of_ble_eq_true rfl)) (fun b5 M4 => ?_)
    exact s_retz (iRow iCX5_takeWord_0 8 rfl) rfl rfl
abbrev YX5_takeNumber : mY := (RX5, "takeNumber", cX5_takeNumber, 3, (some .boolean), none)
set_option maxHeartbeats 400000 in
set_option maxRecDepth 20000 in
theorem t_X5_takeNumber {G : mg} {F : Nat} {a1 : Int32} {a2 : Int32} {M : mm} {x : Bool} {M' : mm} (d : Nat) (h : m_X5_takeNumber F a1 a2 M = some (x, M')) : CM G yX5_takeNumber cX5_takeNumber 3 (some .boolean) (d + 3) [vR 6 0, vI a1, vI a2] M (some (vI (bI x))) M' := by
  refine ct_z (ls := [some (vR 6 0), some (vI a1), some (vI a2)]) rfl rfl (Nat.le_of_ble_eq_true rfl) (fun Z => ?_) h
  show SW G (d + 3) YX5_takeNumber Z 0 [some (vR 6 0), some (vI a1), some (vI a2)] [] M _ _
  unfold m_X5_takeNumber
  refine s_step (g_aload_n (iRow iCX5_takeNumber_0 0 rfl) rfl rfl) ?_
  refine s_step (g_getR (iRow iCX5_takeNumber_0 1 rfl) f5_9 ko_6 (r_6_0 _ _)) ?_
  refine s_step (g_getI (iRow iCX5_takeNumber_0 2 rfl) f5_50 ko_7) ?_
  refine s_step (g_iconst (iRow iCX5_takeNumber_0 3 rfl) kc_3) ?_
  refine s_if (g_icmp_eq (tgt := 17) (iRow iCX5_takeNumber_0 4 rfl) (by decide)) (fun _ => ?_) (fun _ => ?_)
  · refine s_step (g_aload_n (iRow iCX5_takeNumber_0 9 rfl) rfl rfl) ?_
    refine s_step (g_aload_n (iRow iCX5_takeNumber_0 10 rfl) rfl rfl) ?_
    refine s_step (g_getR (iRow iCX5_takeNumber_0 11 rfl) f5_9 ko_6 (r_6_0 _ _)) ?_
    refine s_step (g_getI (iRow iCX5_takeNumber_0 12 rfl) f5_208 ko_7) ?_
    refine s_step (g_putI (iRow iCX5_takeNumber_0 13 rfl) f5_115 (Or.inl rfl) ko_6) ?_
    refine s_nmM (fun M1 => ?_)
    refine s_step (g_aload_n (iRow iCX5_takeNumber_0 14 rfl) rfl rfl) ?_
    refine s_step (g_getI (iRow iCX5_takeNumber_0 15 rfl) f5_115 ko_6) ?_
    refine s_step (g_iload_n (iRow iCX5_takeNumber_0 16 rfl) rfl rfl) ?_
    refine s_nj 44 (fun z => [some (vR 6 0), none, none]) (fun z => []) (fun z => M1) ?_ (fun j44 hj44 => ?_)
    · intro _
      show SW G (d + 3) YX5_takeNumber Z 44 [some (vR 6 0), none, none] [] M1 _ _
      try dsimp only
      refine s_step (g_aload_n (iRow iCX5_takeNumber_0 22 rfl) rfl rfl) ?_
      refine s_step (g_iconst (iRow iCX5_takeNumber_0 23 rfl) kc_4) ?_
      refine s_cb (sf := fun b => vI (bI b) :: []) (fun _ _ h => h_V (As := [_]) (iRow iCX5_takeNumber_1 0 rfl) l5_87 iX5_wrong ko_6 rfl rfl rfl rfl (t_X5_wrong (d + 2) h) rfl (by omega) (by decide) (Nat.le_of_ble_eq_true rfl)) (fun b4 M3 => ?_)
      exact s_retz (iRow iCX5_takeNumber_1 1 rfl) rfl rfl
    · refine s_if (g_icmp_lt (tgt := 44) (iRow iCX5_takeNumber_0 17 rfl) (by decide)) (fun _ => ?_) (fun _ => ?_)
      · refine s_step (g_keep [true, false, false] rfl) ?_
        exact hj44 _
      · refine s_step (g_aload_n (iRow iCX5_takeNumber_0 18 rfl) rfl rfl) ?_
        refine s_step (g_getI (iRow iCX5_takeNumber_0 19 rfl) f5_115 ko_6) ?_
        refine s_step (g_iload_n (iRow iCX5_takeNumber_0 20 rfl) rfl rfl) ?_
        refine s_if (g_icmp_le (tgt := 50) (iRow iCX5_takeNumber_0 21 rfl) (by decide)) (fun _ => ?_) (fun _ => ?_)
        · refine s_step (g_aload_n (iRow iCX5_takeNumber_1 2 rfl) rfl rfl) ?_
          refine s_step (g_getR (iRow iCX5_takeNumber_1 3 rfl) f5_9 ko_6 (r_6_0 _ _)) ?_
          refine s_cv (stA := []) (fun _ h => h_V (As := []) (iRow iCX5_takeNumber_1 4 rfl) l5_94 iX6_next ko_7 rfl rfl rfl rfl (t_X6_next (d + 0) h) rfl (by omega) (by decide) (Nat.le_of_ble_eq_true rfl)) (fun M2 => ?_)
          refine s_step (g_iconst (iRow iCX5_takeNumber_1 5 rfl) kc_1) ?_
          exact s_retz (b := true) (iRow iCX5_takeNumber_1 6 rfl) rfl rfl
        · refine s_step (g_keep [true, false, false] rfl) ?_
          exact hj44 _
  · refine s_step (g_aload_n (iRow iCX5_takeNumber_0 5 rfl) rfl rfl) ?_
    refine s_step (g_iconst (iRow iCX5_takeNumber_0 6 rfl) kc_1) ?_
    refine s_cb (sf := fun b => vI (bI b) :: []) (fun _ _ h => h_V (As := [_]) (iRow iCX5_takeNumber_0 7 rfl) l5_87 iX5_wrong ko_6 rfl rfl rfl rfl (t_X5_wrong (d + 2) h) rfl (by omega) (by decide) (Nat.le_of_ble_eq_true rfl)) (fun b6 M5 => ?_)
    exact s_retz (iRow iCX5_takeNumber_0 8 rfl) rfl rfl
abbrev YX6_isSign : mY := (RX6, "isSign", cX6_isSign, 2, (some .boolean), none)
set_option maxHeartbeats 400000 in
set_option maxRecDepth 20000 in
theorem t_X6_isSign {G : mg} {F : Nat} {a1 : Int32} {M : mm} {x : Bool} {M' : mm} (d : Nat) (h : m_X6_isSign F a1 M = some (x, M')) : CM G yX6_isSign cX6_isSign 2 (some .boolean) (d + 0) [vR 7 0, vI a1] M (some (vI (bI x))) M' := by
  refine ct_z (ls := [some (vR 7 0), some (vI a1)]) rfl rfl (Nat.le_of_ble_eq_true rfl) (fun Z => ?_) h
  show SW G (d + 0) YX6_isSign Z 0 [some (vR 7 0), some (vI a1)] [] M _ _
  unfold m_X6_isSign
  refine s_step (g_aload_n (iRow iCX6_isSign_0 0 rfl) rfl rfl) ?_
  refine s_step (g_getI (iRow iCX6_isSign_0 1 rfl) f6_45 ko_7) ?_
  refine s_step (g_iconst (iRow iCX6_isSign_0 2 rfl) kc_4) ?_
  refine s_ifn (g_icmp_ne (tgt := 20) (iRow iCX6_isSign_0 3 rfl) (by decide)) (fun _ => ?_) (fun _ => ?_)
  · refine s_step (g_aload_n (iRow iCX6_isSign_0 4 rfl) rfl rfl) ?_
    refine s_step (g_getI (iRow iCX6_isSign_0 5 rfl) f6_61 ko_7) ?_
    refine s_step (g_iload_n (iRow iCX6_isSign_0 6 rfl) rfl rfl) ?_
    refine s_ifn (g_icmp_ne (tgt := 20) (iRow iCX6_isSign_0 7 rfl) (by decide)) (fun _ => ?_) (fun _ => ?_)
    · refine s_step (g_iconst (iRow iCX6_isSign_0 8 rfl) kc_1) ?_
      refine s_step (g_goto (tgt := 21) (iRow iCX6_isSign_0 9 rfl) (by decide)) ?_
      exact s_retz (b := true) (iRow iCX6_isSign_0 11 rfl) rfl rfl
    · refine s_step (g_iconst (iRow iCX6_isSign_0 10 rfl) kc_0) ?_
      exact s_retz (b := false) (iRow iCX6_isSign_0 11 rfl) rfl rfl
  · refine s_step (g_iconst (iRow iCX6_isSign_0 10 rfl) kc_0) ?_
    exact s_retz (b := false) (iRow iCX6_isSign_0 11 rfl) rfl rfl
abbrev YX5_takeEnd : mY := (RX5, "takeEnd", cX5_takeEnd, 1, (some .boolean), none)
set_option maxHeartbeats 400000 in
set_option maxRecDepth 20000 in
theorem t_X5_takeEnd {G : mg} {F : Nat} {M : mm} {x : Bool} {M' : mm} (d : Nat) (h : m_X5_takeEnd F M = some (x, M')) : CM G yX5_takeEnd cX5_takeEnd 1 (some .boolean) (d + 3) [vR 6 0] M (some (vI (bI x))) M' := by
  refine ct_z (ls := [some (vR 6 0)]) rfl rfl (Nat.le_of_ble_eq_true rfl) (fun Z => ?_) h
  show SW G (d + 3) YX5_takeEnd Z 0 [some (vR 6 0)] [] M _ _
  unfold m_X5_takeEnd
  refine s_step (g_aload_n (iRow iCX5_takeEnd_0 0 rfl) rfl rfl) ?_
  refine s_step (g_getR (iRow iCX5_takeEnd_0 1 rfl) f5_9 ko_6 (r_6_0 _ _)) ?_
  refine s_step (g_bipush (iRow iCX5_takeEnd_0 2 rfl) kb_59) ?_
  refine s_cb (sf := fun b => vI (bI b) :: []) (fun _ _ h => h_V (As := [_]) (iRow iCX5_takeEnd_0 3 rfl) l5_211 iX6_isSign ko_7 rfl rfl rfl rfl (t_X6_isSign (d + 2) h) rfl (by omega) (by decide) (Nat.le_of_ble_eq_true rfl)) (fun b2 M1 => ?_)
  refine s_ifneb (g_if_ne (tgt := 18) (iRow iCX5_takeEnd_0 4 rfl) (by decide)) (fun _ => ?_) (fun _ => ?_)
  · refine s_step (g_aload_n (iRow iCX5_takeEnd_0 9 rfl) rfl rfl) ?_
    refine s_step (g_getR (iRow iCX5_takeEnd_0 10 rfl) f5_9 ko_6 (r_6_0 _ _)) ?_
    refine s_cv (stA := []) (fun _ h => h_V (As := []) (iRow iCX5_takeEnd_0 11 rfl) l5_94 iX6_next ko_7 rfl rfl rfl rfl (t_X6_next (d + 0) h) rfl (by omega) (by decide) (Nat.le_of_ble_eq_true rfl)) (fun M3 => ?_)
    refine s_step (g_iconst (iRow iCX5_takeEnd_0 12 rfl) kc_1) ?_
    exact s_retz (b := true) (iRow iCX5_takeEnd_0 13 rfl) rfl rfl
  · refine s_step (g_aload_n (iRow iCX5_takeEnd_0 5 rfl) rfl rfl) ?_
    refine s_step (g_iconst (iRow iCX5_takeEnd_0 6 rfl) kc_1) ?_
    refine s_cb (sf := fun b => vI (bI b) :: []) (fun _ _ h => h_V (As := [_]) (iRow iCX5_takeEnd_0 7 rfl) l5_87 iX5_wrong ko_6 rfl rfl rfl rfl (t_X5_wrong (d + 2) h) rfl (by omega) (by decide) (Nat.le_of_ble_eq_true rfl)) (fun b5 M4 => ?_)
    exact s_retz (iRow iCX5_takeEnd_0 8 rfl) rfl rfl
abbrev YX5_readPerson : mY := (RX5, "readPerson", cX5_readPerson, 4, (some .boolean), none)
set_option maxHeartbeats 400000 in
set_option maxRecDepth 20000 in
theorem t_X5_readPerson {G : mg} {F : Nat} {M : mm} {x : Bool} {M' : mm} (d : Nat) (h : m_X5_readPerson F M = some (x, M')) : CM G yX5_readPerson cX5_readPerson 4 (some .boolean) (d + 4) [vR 6 0] M (some (vI (bI x))) M' := by
  refine ct_z (ls := [some (vR 6 0), none, none, none]) rfl rfl (Nat.le_of_ble_eq_true rfl) (fun Z => ?_) h
  show SW G (d + 4) YX5_readPerson Z 0 [some (vR 6 0), none, none, none] [] M _ _
  unfold m_X5_readPerson
  refine s_step (g_aload_n (iRow iCX5_readPerson_0 0 rfl) rfl rfl) ?_
  refine s_step (g_getR (iRow iCX5_readPerson_0 1 rfl) f5_15 ko_6 (r_6_2 _ _)) ?_
  refine s_step (g_getI (iRow iCX5_readPerson_0 2 rfl) f5_91 ko_1) ?_
  refine s_nmI (fun x1 => ?_)
  refine s_step (g_istore_n (ls' := [some (vR 6 0), some (vI x1), none, none]) (iRow iCX5_readPerson_0 3 rfl) rfl (by decide) rfl) ?_
  refine s_step (g_iload_n (iRow iCX5_readPerson_0 4 rfl) rfl rfl) ?_
  refine s_step (g_bipush (iRow iCX5_readPerson_0 5 rfl) kb_6) ?_
  refine s_if (g_icmp_lt (tgt := 20) (iRow iCX5_readPerson_0 6 rfl) (by decide)) (fun _ => ?_) (fun _ => ?_)
  · refine s_step (g_aload_n (iRow iCX5_readPerson_0 11 rfl) rfl rfl) ?_
    refine s_step (g_getR (iRow iCX5_readPerson_0 12 rfl) f5_9 ko_6 (r_6_0 _ _)) ?_
    refine s_cv (stA := []) (fun _ h => h_V (As := []) (iRow iCX5_readPerson_0 13 rfl) l5_94 iX6_next ko_7 rfl rfl rfl rfl (t_X6_next (d + 1) h) rfl (by omega) (by decide) (Nat.le_of_ble_eq_true rfl)) (fun M2 => ?_)
    refine s_step (g_aload_n (iRow iCX5_readPerson_0 14 rfl) rfl rfl) ?_
    refine s_step (g_getR (iRow iCX5_readPerson_0 15 rfl) f5_9 ko_6 (r_6_0 _ _)) ?_
    refine s_step (g_getL (iRow iCX5_readPerson_0 16 rfl) f5_97 ko_7) ?_
    refine s_nmL (fun x3 => ?_)
    refine s_step (g_lstore_n (ls' := [some (vR 6 0), some (vI x1), some (vL (x3)), none]) (iRow iCX5_readPerson_0 17 rfl) rfl (by decide) rfl) ?_
    refine s_step (g_aload_n (iRow iCX5_readPerson_0 18 rfl) rfl rfl) ?_
    refine s_cb (sf := fun b => vI (bI b) :: []) (fun _ _ h => h_V (As := []) (iRow iCX5_readPerson_0 19 rfl) l5_101 iX5_takeNewName ko_6 rfl rfl rfl rfl (t_X5_takeNewName (d + 0) h) rfl (by omega) (by decide) (Nat.le_of_ble_eq_true rfl)) (fun b5 M4 => ?_)
    refine s_ifeqb (g_if_eq (tgt := 60) (iRow iCX5_readPerson_0 20 rfl) (by decide)) (fun _ => ?_) (fun _ => ?_)
    · refine s_step (g_aload_n (iRow iCX5_readPerson_0 21 rfl) rfl rfl) ?_
      refine s_step (g_iconst (iRow iCX5_readPerson_0 22 rfl) kc_1) ?_
      refine s_cb (sf := fun b => vI (bI b) :: []) (fun _ _ h => h_V (As := [_]) (iRow iCX5_readPerson_0 23 rfl) l5_104 iX5_takeWord ko_6 rfl rfl rfl rfl (t_X5_takeWord (d + 0) h) rfl (by omega) (by decide) (Nat.le_of_ble_eq_true rfl)) (fun b7 M6 => ?_)
      refine s_ifeqb (g_if_eq (tgt := 60) (iRow iCX5_readPerson_1 0 rfl) (by decide)) (fun _ => ?_) (fun _ => ?_)
      · refine s_step (g_aload_n (iRow iCX5_readPerson_1 1 rfl) rfl rfl) ?_
        refine s_step (g_iconst (iRow iCX5_readPerson_1 2 rfl) kc_0) ?_
        refine s_step (g_bipush (iRow iCX5_readPerson_1 3 rfl) kb_10) ?_
        refine s_cb (sf := fun b => vI (bI b) :: []) (fun _ _ h => h_V (As := [_, _]) (iRow iCX5_readPerson_1 4 rfl) l5_107 iX5_takeNumber ko_6 rfl rfl rfl rfl (t_X5_takeNumber (d + 0) h) rfl (by omega) (by decide) (Nat.le_of_ble_eq_true rfl)) (fun b9 M8 => ?_)
        refine s_ifneb (g_if_ne (tgt := 62) (iRow iCX5_readPerson_1 5 rfl) (by decide)) (fun _ => ?_) (fun _ => ?_)
        · refine s_step (g_aload_n (iRow iCX5_readPerson_1 8 rfl) rfl rfl) ?_
          refine s_step (g_getR (iRow iCX5_readPerson_1 9 rfl) f5_15 ko_6 (r_6_2 _ _)) ?_
          refine s_step (g_getR (iRow iCX5_readPerson_1 10 rfl) f5_111 ko_1 (r_1_2 _ _)) ?_
          refine s_step (g_iload_n (iRow iCX5_readPerson_1 11 rfl) rfl rfl) ?_
          refine s_step (g_aload_n (iRow iCX5_readPerson_1 12 rfl) rfl rfl) ?_
          refine s_step (g_getI (iRow iCX5_readPerson_1 13 rfl) f5_115 ko_6) ?_
          refine s_gi (fun h => g_iast (iRow iCX5_readPerson_1 14 rfl) kn_21 ka_21 h) ?_
          refine s_nmM (fun M10 => ?_)
          refine s_step (g_aload_n (iRow iCX5_readPerson_1 15 rfl) rfl rfl) ?_
          refine s_step (g_iconst (iRow iCX5_readPerson_1 16 rfl) kc_2) ?_
          refine s_cb (sf := fun b => vI (bI b) :: []) (fun _ _ h => h_V (As := [_]) (iRow iCX5_readPerson_1 17 rfl) l5_104 iX5_takeWord ko_6 rfl rfl rfl rfl (t_X5_takeWord (d + 0) h) rfl (by omega) (by decide) (Nat.le_of_ble_eq_true rfl)) (fun b12 M11 => ?_)
          refine s_ifeqb (g_if_eq (tgt := 100) (iRow iCX5_readPerson_1 18 rfl) (by decide)) (fun _ => ?_) (fun _ => ?_)
          · refine s_step (g_aload_n (iRow iCX5_readPerson_1 19 rfl) rfl rfl) ?_
            refine s_step (g_iconst (iRow iCX5_readPerson_1 20 rfl) kc_0) ?_
            refine s_step (g_bipush (iRow iCX5_readPerson_1 21 rfl) kb_99) ?_
            refine s_cb (sf := fun b => vI (bI b) :: []) (fun _ _ h => h_V (As := [_, _]) (iRow iCX5_readPerson_1 22 rfl) l5_107 iX5_takeNumber ko_6 rfl rfl rfl rfl (t_X5_takeNumber (d + 0) h) rfl (by omega) (by decide) (Nat.le_of_ble_eq_true rfl)) (fun b14 M13 => ?_)
            refine s_ifeqb (g_if_eq (tgt := 100) (iRow iCX5_readPerson_1 23 rfl) (by decide)) (fun _ => ?_) (fun _ => ?_)
            · refine s_step (g_aload_n (iRow iCX5_readPerson_2 0 rfl) rfl rfl) ?_
              refine s_cb (sf := fun b => vI (bI b) :: []) (fun _ _ h => h_V (As := []) (iRow iCX5_readPerson_2 1 rfl) l5_118 iX5_takeEnd ko_6 rfl rfl rfl rfl (t_X5_takeEnd (d + 0) h) rfl (by omega) (by decide) (Nat.le_of_ble_eq_true rfl)) (fun b16 M15 => ?_)
              refine s_ifneb (g_if_ne (tgt := 102) (iRow iCX5_readPerson_2 2 rfl) (by decide)) (fun _ => ?_) (fun _ => ?_)
              · refine s_step (g_aload_n (iRow iCX5_readPerson_2 5 rfl) rfl rfl) ?_
                refine s_step (g_getR (iRow iCX5_readPerson_2 6 rfl) f5_15 ko_6 (r_6_2 _ _)) ?_
                refine s_step (g_getR (iRow iCX5_readPerson_2 7 rfl) f5_121 ko_1 (r_1_3 _ _)) ?_
                refine s_step (g_iload_n (iRow iCX5_readPerson_2 8 rfl) rfl rfl) ?_
                refine s_step (g_aload_n (iRow iCX5_readPerson_2 9 rfl) rfl rfl) ?_
                refine s_step (g_getI (iRow iCX5_readPerson_2 10 rfl) f5_115 ko_6) ?_
                refine s_gi (fun h => g_iast (iRow iCX5_readPerson_2 11 rfl) kn_22 ka_22 h) ?_
                refine s_nmM (fun M17 => ?_)
                refine s_step (g_aload_n (iRow iCX5_readPerson_2 12 rfl) rfl rfl) ?_
                refine s_step (g_getR (iRow iCX5_readPerson_2 13 rfl) f5_15 ko_6 (r_6_2 _ _)) ?_
                refine s_step (g_getR (iRow iCX5_readPerson_2 14 rfl) f5_124 ko_1 (r_1_1 _ _)) ?_
                refine s_step (g_iload_n (iRow iCX5_readPerson_2 15 rfl) rfl rfl) ?_
                refine s_step (g_lload_n (iRow iCX5_readPerson_2 16 rfl) rfl rfl) ?_
                refine s_gi (fun h => g_last (iRow iCX5_readPerson_2 17 rfl) kn_20 ka_20 h) ?_
                refine s_nmM (fun M18 => ?_)
                refine s_step (g_aload_n (iRow iCX5_readPerson_2 18 rfl) rfl rfl) ?_
                refine s_step (g_getR (iRow iCX5_readPerson_2 19 rfl) f5_15 ko_6 (r_6_2 _ _)) ?_
                refine s_step (g_dup (iRow iCX5_readPerson_2 20 rfl) rfl) ?_
                refine s_step (g_getI (iRow iCX5_readPerson_2 21 rfl) f5_91 ko_1) ?_
                refine s_step (g_iconst (iRow iCX5_readPerson_2 22 rfl) kc_1) ?_
                refine s_step (g_iadd (iRow iCX5_readPerson_2 23 rfl)) ?_
                refine s_step (g_putI (iRow iCX5_readPerson_3 0 rfl) f5_91 (Or.inl rfl) ko_1) ?_
                refine s_nmM (fun M19 => ?_)
                refine s_step (g_iconst (iRow iCX5_readPerson_3 1 rfl) kc_1) ?_
                exact s_retz (b := true) (iRow iCX5_readPerson_3 2 rfl) rfl rfl
              · refine s_step (g_iconst (iRow iCX5_readPerson_2 3 rfl) kc_0) ?_
                exact s_retz (b := false) (iRow iCX5_readPerson_2 4 rfl) rfl rfl
            · refine s_step (g_iconst (iRow iCX5_readPerson_2 3 rfl) kc_0) ?_
              exact s_retz (b := false) (iRow iCX5_readPerson_2 4 rfl) rfl rfl
          · refine s_step (g_iconst (iRow iCX5_readPerson_2 3 rfl) kc_0) ?_
            exact s_retz (b := false) (iRow iCX5_readPerson_2 4 rfl) rfl rfl
        · refine s_step (g_iconst (iRow iCX5_readPerson_1 6 rfl) kc_0) ?_
          exact s_retz (b := false) (iRow iCX5_readPerson_1 7 rfl) rfl rfl
      · refine s_step (g_iconst (iRow iCX5_readPerson_1 6 rfl) kc_0) ?_
        exact s_retz (b := false) (iRow iCX5_readPerson_1 7 rfl) rfl rfl
    · refine s_step (g_iconst (iRow iCX5_readPerson_1 6 rfl) kc_0) ?_
      exact s_retz (b := false) (iRow iCX5_readPerson_1 7 rfl) rfl rfl
  · refine s_step (g_aload_n (iRow iCX5_readPerson_0 7 rfl) rfl rfl) ?_
    refine s_step (g_iconst (iRow iCX5_readPerson_0 8 rfl) kc_5) ?_
    refine s_cb (sf := fun b => vI (bI b) :: []) (fun _ _ h => h_V (As := [_]) (iRow iCX5_readPerson_0 9 rfl) l5_87 iX5_wrong ko_6 rfl rfl rfl rfl (t_X5_wrong (d + 3) h) rfl (by omega) (by decide) (Nat.le_of_ble_eq_true rfl)) (fun b21 M20 => ?_)
    exact s_retz (iRow iCX5_readPerson_0 10 rfl) rfl rfl
abbrev YX5_seeKnown_20 : mY := (RX5, "seeKnown", cX5_seeKnown, 3, (some .boolean), none)
set_option maxHeartbeats 400000 in
set_option maxRecDepth 20000 in
theorem t_X5_seeKnown_20 {G : mg} {F : Nat} {a1 : Nat} {a2 : Int32} {M : mm} {x : Bool} {M' : mm} (d : Nat) (h : m_X5_seeKnown_20 F a1 a2 M = some (x, M')) : CM G yX5_seeKnown cX5_seeKnown 3 (some .boolean) (d + 1) [vR 6 0, vR 20 a1, vI a2] M (some (vI (bI x))) M' := by
  refine ct_z (ls := [some (vR 6 0), some (vR 20 a1), some (vI a2)]) rfl rfl (Nat.le_of_ble_eq_true rfl) (fun Z => ?_) h
  show SW G (d + 1) YX5_seeKnown_20 Z 0 [some (vR 6 0), some (vR 20 a1), some (vI a2)] [] M _ _
  unfold m_X5_seeKnown_20
  refine s_step (g_aload_n (iRow iCX5_seeKnown_0 0 rfl) rfl rfl) ?_
  refine s_step (g_getR (iRow iCX5_seeKnown_0 1 rfl) f5_9 ko_6 (r_6_0 _ _)) ?_
  refine s_cb (sf := fun b => vI (bI b) :: []) (fun _ _ h => h_V (As := []) (iRow iCX5_seeKnown_0 2 rfl) l5_178 iX6_isName ko_7 rfl rfl rfl rfl (t_X6_isName (d + 0) h) rfl (by omega) (by decide) (Nat.le_of_ble_eq_true rfl)) (fun b2 M1 => ?_)
  refine s_ifneb (g_if_ne (tgt := 16) (iRow iCX5_seeKnown_0 3 rfl) (by decide)) (fun _ => ?_) (fun _ => ?_)
  · refine s_step (g_aload_n (iRow iCX5_seeKnown_0 8 rfl) rfl rfl) ?_
    refine s_step (g_aload_n (iRow iCX5_seeKnown_0 9 rfl) rfl rfl) ?_
    refine s_step (g_iload_n (iRow iCX5_seeKnown_0 10 rfl) rfl rfl) ?_
    refine s_step (g_aload_n (iRow iCX5_seeKnown_0 11 rfl) rfl rfl) ?_
    refine s_step (g_getR (iRow iCX5_seeKnown_0 12 rfl) f5_9 ko_6 (r_6_0 _ _)) ?_
    refine s_step (g_getL (iRow iCX5_seeKnown_0 13 rfl) f5_97 ko_7) ?_
    refine s_cl (sf := fun x => vI x :: [vR 6 0]) (fun _ _ h => h_S (As := [_, _, _]) (iRow iCX5_seeKnown_0 14 rfl) l5_181 iX5_find rfl rfl (t_X5_find_20 (d + 0) h) rfl (by omega) (by decide) (Nat.le_of_ble_eq_true rfl)) (fun x4 M3 => ?_)
    refine s_step (g_putI (iRow iCX5_seeKnown_0 15 rfl) f5_135 (Or.inl rfl) ko_6) ?_
    refine s_nmM (fun M5 => ?_)
    refine s_step (g_aload_n (iRow iCX5_seeKnown_0 16 rfl) rfl rfl) ?_
    refine s_step (g_getI (iRow iCX5_seeKnown_0 17 rfl) f5_135 ko_6) ?_
    refine s_step (g_iconst (iRow iCX5_seeKnown_0 18 rfl) kc_m1) ?_
    refine s_ifn (g_icmp_ne (tgt := 48) (iRow iCX5_seeKnown_0 19 rfl) (by decide)) (fun _ => ?_) (fun _ => ?_)
    · refine s_step (g_aload_n (iRow iCX5_seeKnown_0 20 rfl) rfl rfl) ?_
      refine s_step (g_iconst (iRow iCX5_seeKnown_0 21 rfl) kc_2) ?_
      refine s_cb (sf := fun b => vI (bI b) :: []) (fun _ _ h => h_V (As := [_]) (iRow iCX5_seeKnown_0 22 rfl) l5_87 iX5_wrong ko_6 rfl rfl rfl rfl (t_X5_wrong (d + 0) h) rfl (by omega) (by decide) (Nat.le_of_ble_eq_true rfl)) (fun b7 M6 => ?_)
      refine s_ifeqb (g_if_eq (tgt := 52) (iRow iCX5_seeKnown_0 23 rfl) (by decide)) (fun _ => ?_) (fun _ => ?_)
      · refine s_step (g_iconst (iRow iCX5_seeKnown_1 0 rfl) kc_1) ?_
        refine s_step (g_goto (tgt := 53) (iRow iCX5_seeKnown_1 1 rfl) (by decide)) ?_
        exact s_retz (b := true) (iRow iCX5_seeKnown_1 3 rfl) rfl rfl
      · refine s_step (g_iconst (iRow iCX5_seeKnown_1 2 rfl) kc_0) ?_
        exact s_retz (b := false) (iRow iCX5_seeKnown_1 3 rfl) rfl rfl
    · refine s_step (g_iconst (iRow iCX5_seeKnown_1 0 rfl) kc_1) ?_
      refine s_step (g_goto (tgt := 53) (iRow iCX5_seeKnown_1 1 rfl) (by decide)) ?_
      exact s_retz (b := true) (iRow iCX5_seeKnown_1 3 rfl) rfl rfl
  · refine s_step (g_aload_n (iRow iCX5_seeKnown_0 4 rfl) rfl rfl) ?_
    refine s_step (g_iconst (iRow iCX5_seeKnown_0 5 rfl) kc_1) ?_
    refine s_cb (sf := fun b => vI (bI b) :: []) (fun _ _ h => h_V (As := [_]) (iRow iCX5_seeKnown_0 6 rfl) l5_87 iX5_wrong ko_6 rfl rfl rfl rfl (t_X5_wrong (d + 0) h) rfl (by omega) (by decide) (Nat.le_of_ble_eq_true rfl)) (fun b9 M8 => ?_)
    exact s_retz (iRow iCX5_seeKnown_0 7 rfl) rfl rfl
abbrev YX0_addOath : mY := (RX0, "addOath", cX0_addOath, 6, none, none)
set_option maxHeartbeats 400000 in
set_option maxRecDepth 20000 in
theorem t_X0_addOath {G : mg} {F : Nat} {o : Nat} {a1 : Int64} {a2 : Int32} {a3 : Int32} {a4 : Int32} {M : mm} {M' : mm} (d : Nat) (h : m_X0_addOath F o a1 a2 a3 a4 M = some M') : CM G yX0_addOath cX0_addOath 6 none (d + 0) [vR 1 o, vL (a1), vI a2, vI a3, vI a4] M none M' := by
  refine ct_v (ls := [some (vR 1 o), some (vL (a1)), none, some (vI a2), some (vI a3), some (vI a4)]) rfl rfl (Nat.le_of_ble_eq_true rfl) (fun Z => ?_) h
  show SW G (d + 0) YX0_addOath Z 0 [some (vR 1 o), some (vL (a1)), none, some (vI a2), some (vI a3), some (vI a4)] [] M _ _
  unfold m_X0_addOath
  refine s_step (g_aload_n (iRow iCX0_addOath_0 0 rfl) rfl rfl) ?_
  refine s_step (g_getI (iRow iCX0_addOath_0 1 rfl) f0_69 ko_1) ?_
  refine s_step (g_bipush (iRow iCX0_addOath_0 2 rfl) kb_10) ?_
  refine s_if (g_icmp_ge (tgt := 21) (iRow iCX0_addOath_0 3 rfl) (by decide)) (fun _ => ?_) (fun _ => ?_)
  · exact s_retv (iRow iCX0_addOath_0 9 rfl) rfl
  · refine s_step (g_iload (iRow iCX0_addOath_0 4 rfl) rfl) ?_
    refine s_if (g_if_lt (tgt := 21) (iRow iCX0_addOath_0 5 rfl) (by decide)) (fun _ => ?_) (fun _ => ?_)
    · exact s_retv (iRow iCX0_addOath_0 9 rfl) rfl
    · refine s_step (g_iload (iRow iCX0_addOath_0 6 rfl) rfl) ?_
      refine s_step (g_bipush (iRow iCX0_addOath_0 7 rfl) kb_6) ?_
      refine s_if (g_icmp_lt (tgt := 22) (iRow iCX0_addOath_0 8 rfl) (by decide)) (fun _ => ?_) (fun _ => ?_)
      · refine s_step (g_aload_n (iRow iCX0_addOath_0 10 rfl) rfl rfl) ?_
        refine s_step (g_getR (iRow iCX0_addOath_0 11 rfl) f0_25 ko_1 (r_1_6 _ _)) ?_
        refine s_step (g_aload_n (iRow iCX0_addOath_0 12 rfl) rfl rfl) ?_
        refine s_step (g_getI (iRow iCX0_addOath_0 13 rfl) f0_69 ko_1) ?_
        refine s_step (g_lload_n (iRow iCX0_addOath_0 14 rfl) rfl rfl) ?_
        refine s_gi (fun h => g_last (iRow iCX0_addOath_0 15 rfl) kn_24 ka_24 h) ?_
        refine s_nmM (fun M1 => ?_)
        refine s_step (g_aload_n (iRow iCX0_addOath_0 16 rfl) rfl rfl) ?_
        refine s_step (g_getR (iRow iCX0_addOath_0 17 rfl) f0_28 ko_1 (r_1_7 _ _)) ?_
        refine s_step (g_aload_n (iRow iCX0_addOath_0 18 rfl) rfl rfl) ?_
        refine s_step (g_getI (iRow iCX0_addOath_0 19 rfl) f0_69 ko_1) ?_
        refine s_step (g_iload_n (iRow iCX0_addOath_0 20 rfl) rfl rfl) ?_
        refine s_gi (fun h => g_iast (iRow iCX0_addOath_0 21 rfl) kn_25 ka_25 h) ?_
        refine s_nmM (fun M2 => ?_)
        refine s_step (g_aload_n (iRow iCX0_addOath_0 22 rfl) rfl rfl) ?_
        refine s_step (g_getR (iRow iCX0_addOath_0 23 rfl) f0_31 ko_1 (r_1_8 _ _)) ?_
        refine s_step (g_aload_n (iRow iCX0_addOath_1 0 rfl) rfl rfl) ?_
        refine s_step (g_getI (iRow iCX0_addOath_1 1 rfl) f0_69 ko_1) ?_
        refine s_step (g_iload (iRow iCX0_addOath_1 2 rfl) rfl) ?_
        refine s_gi (fun h => g_iast (iRow iCX0_addOath_1 3 rfl) kn_26 ka_26 h) ?_
        refine s_nmM (fun M3 => ?_)
        refine s_step (g_aload_n (iRow iCX0_addOath_1 4 rfl) rfl rfl) ?_
        refine s_step (g_getR (iRow iCX0_addOath_1 5 rfl) f0_34 ko_1 (r_1_9 _ _)) ?_
        refine s_step (g_aload_n (iRow iCX0_addOath_1 6 rfl) rfl rfl) ?_
        refine s_step (g_getI (iRow iCX0_addOath_1 7 rfl) f0_69 ko_1) ?_
        refine s_step (g_iload (iRow iCX0_addOath_1 8 rfl) rfl) ?_
        refine s_gi (fun h => g_iast (iRow iCX0_addOath_1 9 rfl) kn_27 ka_27 h) ?_
        refine s_nmM (fun M4 => ?_)
        refine s_step (g_aload_n (iRow iCX0_addOath_1 10 rfl) rfl rfl) ?_
        refine s_step (g_getR (iRow iCX0_addOath_1 11 rfl) f0_37 ko_1 (r_1_10 _ _)) ?_
        refine s_step (g_aload_n (iRow iCX0_addOath_1 12 rfl) rfl rfl) ?_
        refine s_step (g_getI (iRow iCX0_addOath_1 13 rfl) f0_69 ko_1) ?_
        refine s_step (g_iconst (iRow iCX0_addOath_1 14 rfl) kc_m1) ?_
        refine s_gi (fun h => g_iast (iRow iCX0_addOath_1 15 rfl) kn_28 ka_28 h) ?_
        refine s_nmM (fun M5 => ?_)
        refine s_step (g_aload_n (iRow iCX0_addOath_1 16 rfl) rfl rfl) ?_
        refine s_step (g_getR (iRow iCX0_addOath_1 17 rfl) f0_40 ko_1 (r_1_11 _ _)) ?_
        refine s_step (g_aload_n (iRow iCX0_addOath_1 18 rfl) rfl rfl) ?_
        refine s_step (g_getI (iRow iCX0_addOath_1 19 rfl) f0_69 ko_1) ?_
        refine s_step (g_iconst (iRow iCX0_addOath_1 20 rfl) kc_0) ?_
        refine s_gi (fun h => g_iast (iRow iCX0_addOath_1 21 rfl) kn_29 ka_29 h) ?_
        refine s_nmM (fun M6 => ?_)
        refine s_step (g_aload_n (iRow iCX0_addOath_1 22 rfl) rfl rfl) ?_
        refine s_step (g_getR (iRow iCX0_addOath_1 23 rfl) f0_22 ko_1 (r_1_4 _ _)) ?_
        refine s_step (g_iload (iRow iCX0_addOath_2 0 rfl) rfl) ?_
        refine s_step (g_dup2 (iRow iCX0_addOath_2 1 rfl) rfl rfl) ?_
        refine s_gi (fun h => g_iald (iRow iCX0_addOath_2 2 rfl) kn_23 ka_23 h) ?_
        refine s_step (g_iconst (iRow iCX0_addOath_2 3 rfl) kc_1) ?_
        refine s_step (g_aload_n (iRow iCX0_addOath_2 4 rfl) rfl rfl) ?_
        refine s_step (g_getI (iRow iCX0_addOath_2 5 rfl) f0_69 ko_1) ?_
        refine s_step (g_ishl (iRow iCX0_addOath_2 6 rfl)) ?_
        refine s_step (g_ior (iRow iCX0_addOath_2 7 rfl)) ?_
        refine s_gi (fun h => g_iast (iRow iCX0_addOath_2 8 rfl) kn_23 ka_23 h) ?_
        refine s_nmM (fun M7 => ?_)
        refine s_step (g_aload_n (iRow iCX0_addOath_2 9 rfl) rfl rfl) ?_
        refine s_step (g_dup (iRow iCX0_addOath_2 10 rfl) rfl) ?_
        refine s_step (g_getI (iRow iCX0_addOath_2 11 rfl) f0_75 ko_1) ?_
        refine s_step (g_iload_n (iRow iCX0_addOath_2 12 rfl) rfl rfl) ?_
        refine s_step (g_iconst (iRow iCX0_addOath_2 13 rfl) kc_2) ?_
        refine s_bd (fun z => LM G (d + 0) YX0_addOath Z 120 [some (vR 1 o), none, none, none, none, none] [vI z, vI (M7.1 1 o 12), vR 1 o] M7) ?_ ?_
        · refine s_ifn (g_icmp_ne (tgt := 119) (iRow iCX0_addOath_2 14 rfl) (by decide)) (fun _ => ?_) (fun _ => ?_)
          · refine s_step (g_iconst (iRow iCX0_addOath_2 15 rfl) kc_1) ?_
            refine s_step (g_aload_n (iRow iCX0_addOath_2 16 rfl) rfl rfl) ?_
            refine s_step (g_getI (iRow iCX0_addOath_2 17 rfl) f0_69 ko_1) ?_
            refine s_step (g_ishl (iRow iCX0_addOath_2 18 rfl)) ?_
            refine s_step (g_goto (tgt := 120) (iRow iCX0_addOath_2 19 rfl) (by decide)) ?_
            refine s_step (g_keep [true, false, false, false, false, false] rfl) ?_
            exact s_end (fun h => h)
          · refine s_step (g_iconst (iRow iCX0_addOath_2 20 rfl) kc_0) ?_
            refine s_step (g_keep [true, false, false, false, false, false] rfl) ?_
            exact s_end (fun h => h)
        · rintro x8
          show SW G (d + 0) YX0_addOath Z 120 [some (vR 1 o), none, none, none, none, none] [vI x8, vI (M7.1 1 o 12), vR 1 o] M7 _ _
          try dsimp only
          refine s_step (g_ior (iRow iCX0_addOath_2 21 rfl)) ?_
          refine s_step (g_putI (iRow iCX0_addOath_2 22 rfl) f0_75 (Or.inl rfl) ko_1) ?_
          refine s_nmM (fun M9 => ?_)
          refine s_step (g_aload_n (iRow iCX0_addOath_2 23 rfl) rfl rfl) ?_
          refine s_step (g_dup (iRow iCX0_addOath_3 0 rfl) rfl) ?_
          refine s_step (g_getI (iRow iCX0_addOath_3 1 rfl) f0_69 ko_1) ?_
          refine s_step (g_iconst (iRow iCX0_addOath_3 2 rfl) kc_1) ?_
          refine s_step (g_iadd (iRow iCX0_addOath_3 3 rfl)) ?_
          refine s_step (g_putI (iRow iCX0_addOath_3 4 rfl) f0_69 (Or.inl rfl) ko_1) ?_
          refine s_nmM (fun M10 => ?_)
          exact s_retv (iRow iCX0_addOath_3 5 rfl) rfl
      · exact s_retv (iRow iCX0_addOath_0 9 rfl) rfl
abbrev YX5_readOath : mY := (RX5, "readOath", cX5_readOath, 6, (some .boolean), none)
set_option maxHeartbeats 400000 in
set_option maxRecDepth 20000 in
theorem t_X5_readOath {G : mg} {F : Nat} {M : mm} {x : Bool} {M' : mm} (d : Nat) (h : m_X5_readOath F M = some (x, M')) : CM G yX5_readOath cX5_readOath 6 (some .boolean) (d + 4) [vR 6 0] M (some (vI (bI x))) M' := by
  refine ct_z (ls := [some (vR 6 0), none, none, none, none, none]) rfl rfl (Nat.le_of_ble_eq_true rfl) (fun Z => ?_) h
  show SW G (d + 4) YX5_readOath Z 0 [some (vR 6 0), none, none, none, none, none] [] M _ _
  unfold m_X5_readOath
  refine s_step (g_aload_n (iRow iCX5_readOath_0 0 rfl) rfl rfl) ?_
  refine s_step (g_getR (iRow iCX5_readOath_0 1 rfl) f5_15 ko_6 (r_6_2 _ _)) ?_
  refine s_step (g_getI (iRow iCX5_readOath_0 2 rfl) f5_128 ko_1) ?_
  refine s_nmI (fun x1 => ?_)
  refine s_step (g_istore_n (ls' := [some (vR 6 0), some (vI x1), none, none, none, none]) (iRow iCX5_readOath_0 3 rfl) rfl (by decide) rfl) ?_
  refine s_step (g_iload_n (iRow iCX5_readOath_0 4 rfl) rfl rfl) ?_
  refine s_step (g_bipush (iRow iCX5_readOath_0 5 rfl) kb_10) ?_
  refine s_if (g_icmp_lt (tgt := 20) (iRow iCX5_readOath_0 6 rfl) (by decide)) (fun _ => ?_) (fun _ => ?_)
  · refine s_step (g_aload_n (iRow iCX5_readOath_0 11 rfl) rfl rfl) ?_
    refine s_step (g_getR (iRow iCX5_readOath_0 12 rfl) f5_9 ko_6 (r_6_0 _ _)) ?_
    refine s_cv (stA := []) (fun _ h => h_V (As := []) (iRow iCX5_readOath_0 13 rfl) l5_94 iX6_next ko_7 rfl rfl rfl rfl (t_X6_next (d + 1) h) rfl (by omega) (by decide) (Nat.le_of_ble_eq_true rfl)) (fun M2 => ?_)
    refine s_step (g_aload_n (iRow iCX5_readOath_0 14 rfl) rfl rfl) ?_
    refine s_step (g_getR (iRow iCX5_readOath_0 15 rfl) f5_9 ko_6 (r_6_0 _ _)) ?_
    refine s_step (g_getL (iRow iCX5_readOath_0 16 rfl) f5_97 ko_7) ?_
    refine s_nmL (fun x3 => ?_)
    refine s_step (g_lstore_n (ls' := [some (vR 6 0), some (vI x1), some (vL (x3)), none, none, none]) (iRow iCX5_readOath_0 17 rfl) rfl (by decide) rfl) ?_
    refine s_step (g_aload_n (iRow iCX5_readOath_0 18 rfl) rfl rfl) ?_
    refine s_cb (sf := fun b => vI (bI b) :: []) (fun _ _ h => h_V (As := []) (iRow iCX5_readOath_0 19 rfl) l5_101 iX5_takeNewName ko_6 rfl rfl rfl rfl (t_X5_takeNewName (d + 0) h) rfl (by omega) (by decide) (Nat.le_of_ble_eq_true rfl)) (fun b5 M4 => ?_)
    refine s_ifneb (g_if_ne (tgt := 44) (iRow iCX5_readOath_0 20 rfl) (by decide)) (fun _ => ?_) (fun _ => ?_)
    · refine s_step (g_aload_n (iRow iCX5_readOath_0 23 rfl) rfl rfl) ?_
      refine s_step (g_getR (iRow iCX5_readOath_1 0 rfl) f5_9 ko_6 (r_6_0 _ _)) ?_
      refine s_step (g_getI (iRow iCX5_readOath_1 1 rfl) f5_63 ko_7) ?_
      refine s_step (g_bipush (iRow iCX5_readOath_1 2 rfl) kb_18) ?_
      refine s_nj 68 (fun z => [some (vR 6 0), none, none, none, none, none]) (fun z => []) (fun z => M4) ?_ (fun j68 hj68 => ?_)
      · intro _
        show SW G (d + 4) YX5_readOath Z 68 [some (vR 6 0), none, none, none, none, none] [] M4 _ _
        try dsimp only
        refine s_step (g_aload_n (iRow iCX5_readOath_1 9 rfl) rfl rfl) ?_
        refine s_step (g_iconst (iRow iCX5_readOath_1 10 rfl) kc_1) ?_
        refine s_cb (sf := fun b => vI (bI b) :: []) (fun _ _ h => h_V (As := [_]) (iRow iCX5_readOath_1 11 rfl) l5_87 iX5_wrong ko_6 rfl rfl rfl rfl (t_X5_wrong (d + 3) h) rfl (by omega) (by decide) (Nat.le_of_ble_eq_true rfl)) (fun b22 M21 => ?_)
        exact s_retz (iRow iCX5_readOath_1 12 rfl) rfl rfl
      · refine s_if (g_icmp_lt (tgt := 68) (iRow iCX5_readOath_1 3 rfl) (by decide)) (fun _ => ?_) (fun _ => ?_)
        · refine s_step (g_keep [true, false, false, false, false, false] rfl) ?_
          exact hj68 _
        · refine s_step (g_aload_n (iRow iCX5_readOath_1 4 rfl) rfl rfl) ?_
          refine s_step (g_getR (iRow iCX5_readOath_1 5 rfl) f5_9 ko_6 (r_6_0 _ _)) ?_
          refine s_step (g_getI (iRow iCX5_readOath_1 6 rfl) f5_63 ko_7) ?_
          refine s_step (g_bipush (iRow iCX5_readOath_1 7 rfl) kb_21) ?_
          refine s_if (g_icmp_le (tgt := 74) (iRow iCX5_readOath_1 8 rfl) (by decide)) (fun _ => ?_) (fun _ => ?_)
          · refine s_step (g_aload_n (iRow iCX5_readOath_1 13 rfl) rfl rfl) ?_
            refine s_step (g_getR (iRow iCX5_readOath_1 14 rfl) f5_9 ko_6 (r_6_0 _ _)) ?_
            refine s_step (g_getI (iRow iCX5_readOath_1 15 rfl) f5_63 ko_7) ?_
            refine s_step (g_bipush (iRow iCX5_readOath_1 16 rfl) kb_18) ?_
            refine s_step (g_isub (iRow iCX5_readOath_1 17 rfl)) ?_
            refine s_nmI (fun x6 => ?_)
            refine s_step (g_istore (ls' := [some (vR 6 0), some (vI x1), some (vL (x3)), none, some (vI x6), none]) (iRow iCX5_readOath_1 18 rfl) (by decide) rfl) ?_
            refine s_step (g_aload_n (iRow iCX5_readOath_1 19 rfl) rfl rfl) ?_
            refine s_step (g_getR (iRow iCX5_readOath_1 20 rfl) f5_9 ko_6 (r_6_0 _ _)) ?_
            refine s_cv (stA := []) (fun _ h => h_V (As := []) (iRow iCX5_readOath_1 21 rfl) l5_94 iX6_next ko_7 rfl rfl rfl rfl (t_X6_next (d + 1) h) rfl (by omega) (by decide) (Nat.le_of_ble_eq_true rfl)) (fun M7 => ?_)
            refine s_step (g_aload_n (iRow iCX5_readOath_1 22 rfl) rfl rfl) ?_
            refine s_step (g_iconst (iRow iCX5_readOath_1 23 rfl) kc_4) ?_
            refine s_cb (sf := fun b => vI (bI b) :: []) (fun _ _ h => h_V (As := [_]) (iRow iCX5_readOath_2 0 rfl) l5_104 iX5_takeWord ko_6 rfl rfl rfl rfl (t_X5_takeWord (d + 0) h) rfl (by omega) (by decide) (Nat.le_of_ble_eq_true rfl)) (fun b9 M8 => ?_)
            refine s_ifeqb (g_if_eq (tgt := 122) (iRow iCX5_readOath_2 1 rfl) (by decide)) (fun _ => ?_) (fun _ => ?_)
            · refine s_step (g_aload_n (iRow iCX5_readOath_2 2 rfl) rfl rfl) ?_
              refine s_step (g_aload_n (iRow iCX5_readOath_2 3 rfl) rfl rfl) ?_
              refine s_step (g_getR (iRow iCX5_readOath_2 4 rfl) f5_15 ko_6 (r_6_2 _ _)) ?_
              refine s_step (g_getR (iRow iCX5_readOath_2 5 rfl) f5_124 ko_1 (r_1_1 _ _)) ?_
              refine s_step (g_aload_n (iRow iCX5_readOath_2 6 rfl) rfl rfl) ?_
              refine s_step (g_getR (iRow iCX5_readOath_2 7 rfl) f5_15 ko_6 (r_6_2 _ _)) ?_
              refine s_step (g_getI (iRow iCX5_readOath_2 8 rfl) f5_91 ko_1) ?_
              refine s_cb (sf := fun b => vI (bI b) :: []) (fun _ _ h => h_V (As := [_, _]) (iRow iCX5_readOath_2 9 rfl) l5_131 iX5_seeKnown ko_6 rfl rfl rfl rfl (t_X5_seeKnown_20 (d + 2) h) rfl (by omega) (by decide) (Nat.le_of_ble_eq_true rfl)) (fun b11 M10 => ?_)
              refine s_ifneb (g_if_ne (tgt := 124) (iRow iCX5_readOath_2 10 rfl) (by decide)) (fun _ => ?_) (fun _ => ?_)
              · refine s_step (g_aload_n (iRow iCX5_readOath_2 13 rfl) rfl rfl) ?_
                refine s_step (g_getI (iRow iCX5_readOath_2 14 rfl) f5_135 ko_6) ?_
                refine s_nmI (fun x12 => ?_)
                refine s_step (g_istore (ls' := [some (vR 6 0), some (vI x1), some (vL (x3)), none, some (vI x6), some (vI x12)]) (iRow iCX5_readOath_2 15 rfl) (by decide) rfl) ?_
                refine s_step (g_aload_n (iRow iCX5_readOath_2 16 rfl) rfl rfl) ?_
                refine s_step (g_getR (iRow iCX5_readOath_2 17 rfl) f5_9 ko_6 (r_6_0 _ _)) ?_
                refine s_cv (stA := []) (fun _ h => h_V (As := []) (iRow iCX5_readOath_2 18 rfl) l5_94 iX6_next ko_7 rfl rfl rfl rfl (t_X6_next (d + 1) h) rfl (by omega) (by decide) (Nat.le_of_ble_eq_true rfl)) (fun M13 => ?_)
                refine s_step (g_aload_n (iRow iCX5_readOath_2 19 rfl) rfl rfl) ?_
                refine s_step (g_iconst (iRow iCX5_readOath_2 20 rfl) kc_5) ?_
                refine s_cb (sf := fun b => vI (bI b) :: []) (fun _ _ h => h_V (As := [_]) (iRow iCX5_readOath_2 21 rfl) l5_104 iX5_takeWord ko_6 rfl rfl rfl rfl (t_X5_takeWord (d + 0) h) rfl (by omega) (by decide) (Nat.le_of_ble_eq_true rfl)) (fun b15 M14 => ?_)
                refine s_ifeqb (g_if_eq (tgt := 162) (iRow iCX5_readOath_2 22 rfl) (by decide)) (fun _ => ?_) (fun _ => ?_)
                · refine s_step (g_aload_n (iRow iCX5_readOath_2 23 rfl) rfl rfl) ?_
                  refine s_step (g_iconst (iRow iCX5_readOath_3 0 rfl) kc_1) ?_
                  refine s_step (g_bipush (iRow iCX5_readOath_3 1 rfl) kb_99) ?_
                  refine s_cb (sf := fun b => vI (bI b) :: []) (fun _ _ h => h_V (As := [_, _]) (iRow iCX5_readOath_3 2 rfl) l5_107 iX5_takeNumber ko_6 rfl rfl rfl rfl (t_X5_takeNumber (d + 0) h) rfl (by omega) (by decide) (Nat.le_of_ble_eq_true rfl)) (fun b17 M16 => ?_)
                  refine s_ifeqb (g_if_eq (tgt := 162) (iRow iCX5_readOath_3 3 rfl) (by decide)) (fun _ => ?_) (fun _ => ?_)
                  · refine s_step (g_aload_n (iRow iCX5_readOath_3 4 rfl) rfl rfl) ?_
                    refine s_cb (sf := fun b => vI (bI b) :: []) (fun _ _ h => h_V (As := []) (iRow iCX5_readOath_3 5 rfl) l5_118 iX5_takeEnd ko_6 rfl rfl rfl rfl (t_X5_takeEnd (d + 0) h) rfl (by omega) (by decide) (Nat.le_of_ble_eq_true rfl)) (fun b19 M18 => ?_)
                    refine s_ifneb (g_if_ne (tgt := 164) (iRow iCX5_readOath_3 6 rfl) (by decide)) (fun _ => ?_) (fun _ => ?_)
                    · refine s_step (g_aload_n (iRow iCX5_readOath_3 9 rfl) rfl rfl) ?_
                      refine s_step (g_getR (iRow iCX5_readOath_3 10 rfl) f5_15 ko_6 (r_6_2 _ _)) ?_
                      refine s_step (g_lload_n (iRow iCX5_readOath_3 11 rfl) rfl rfl) ?_
                      refine s_step (g_iload (iRow iCX5_readOath_3 12 rfl) rfl) ?_
                      refine s_step (g_iload (iRow iCX5_readOath_3 13 rfl) rfl) ?_
                      refine s_step (g_aload_n (iRow iCX5_readOath_3 14 rfl) rfl rfl) ?_
                      refine s_step (g_getI (iRow iCX5_readOath_3 15 rfl) f5_115 ko_6) ?_
                      refine s_cv (stA := []) (fun _ h => h_V (As := [_, _, _, _]) (iRow iCX5_readOath_3 16 rfl) l5_138 iX0_addOath ko_1 rfl rfl rfl rfl (t_X0_addOath (d + 3) h) rfl (by omega) (by decide) (Nat.le_of_ble_eq_true rfl)) (fun M20 => ?_)
                      refine s_step (g_iconst (iRow iCX5_readOath_3 17 rfl) kc_1) ?_
                      exact s_retz (b := true) (iRow iCX5_readOath_3 18 rfl) rfl rfl
                    · refine s_step (g_iconst (iRow iCX5_readOath_3 7 rfl) kc_0) ?_
                      exact s_retz (b := false) (iRow iCX5_readOath_3 8 rfl) rfl rfl
                  · refine s_step (g_iconst (iRow iCX5_readOath_3 7 rfl) kc_0) ?_
                    exact s_retz (b := false) (iRow iCX5_readOath_3 8 rfl) rfl rfl
                · refine s_step (g_iconst (iRow iCX5_readOath_3 7 rfl) kc_0) ?_
                  exact s_retz (b := false) (iRow iCX5_readOath_3 8 rfl) rfl rfl
              · refine s_step (g_iconst (iRow iCX5_readOath_2 11 rfl) kc_0) ?_
                exact s_retz (b := false) (iRow iCX5_readOath_2 12 rfl) rfl rfl
            · refine s_step (g_iconst (iRow iCX5_readOath_2 11 rfl) kc_0) ?_
              exact s_retz (b := false) (iRow iCX5_readOath_2 12 rfl) rfl rfl
          · refine s_step (g_keep [true, false, false, false, false, false] rfl) ?_
            exact hj68 _
    · refine s_step (g_iconst (iRow iCX5_readOath_0 21 rfl) kc_0) ?_
      exact s_retz (b := false) (iRow iCX5_readOath_0 22 rfl) rfl rfl
  · refine s_step (g_aload_n (iRow iCX5_readOath_0 7 rfl) rfl rfl) ?_
    refine s_step (g_iconst (iRow iCX5_readOath_0 8 rfl) kc_5) ?_
    refine s_cb (sf := fun b => vI (bI b) :: []) (fun _ _ h => h_V (As := [_]) (iRow iCX5_readOath_0 9 rfl) l5_87 iX5_wrong ko_6 rfl rfl rfl rfl (t_X5_wrong (d + 3) h) rfl (by omega) (by decide) (Nat.le_of_ble_eq_true rfl)) (fun b24 M23 => ?_)
    exact s_retz (iRow iCX5_readOath_0 10 rfl) rfl rfl
abbrev YX5_seeKnown_24 : mY := (RX5, "seeKnown", cX5_seeKnown, 3, (some .boolean), none)
set_option maxHeartbeats 400000 in
set_option maxRecDepth 20000 in
theorem t_X5_seeKnown_24 {G : mg} {F : Nat} {a1 : Nat} {a2 : Int32} {M : mm} {x : Bool} {M' : mm} (d : Nat) (h : m_X5_seeKnown_24 F a1 a2 M = some (x, M')) : CM G yX5_seeKnown cX5_seeKnown 3 (some .boolean) (d + 1) [vR 6 0, vR 24 a1, vI a2] M (some (vI (bI x))) M' := by
  refine ct_z (ls := [some (vR 6 0), some (vR 24 a1), some (vI a2)]) rfl rfl (Nat.le_of_ble_eq_true rfl) (fun Z => ?_) h
  show SW G (d + 1) YX5_seeKnown_24 Z 0 [some (vR 6 0), some (vR 24 a1), some (vI a2)] [] M _ _
  unfold m_X5_seeKnown_24
  refine s_step (g_aload_n (iRow iCX5_seeKnown_0 0 rfl) rfl rfl) ?_
  refine s_step (g_getR (iRow iCX5_seeKnown_0 1 rfl) f5_9 ko_6 (r_6_0 _ _)) ?_
  refine s_cb (sf := fun b => vI (bI b) :: []) (fun _ _ h => h_V (As := []) (iRow iCX5_seeKnown_0 2 rfl) l5_178 iX6_isName ko_7 rfl rfl rfl rfl (t_X6_isName (d + 0) h) rfl (by omega) (by decide) (Nat.le_of_ble_eq_true rfl)) (fun b2 M1 => ?_)
  refine s_ifneb (g_if_ne (tgt := 16) (iRow iCX5_seeKnown_0 3 rfl) (by decide)) (fun _ => ?_) (fun _ => ?_)
  · refine s_step (g_aload_n (iRow iCX5_seeKnown_0 8 rfl) rfl rfl) ?_
    refine s_step (g_aload_n (iRow iCX5_seeKnown_0 9 rfl) rfl rfl) ?_
    refine s_step (g_iload_n (iRow iCX5_seeKnown_0 10 rfl) rfl rfl) ?_
    refine s_step (g_aload_n (iRow iCX5_seeKnown_0 11 rfl) rfl rfl) ?_
    refine s_step (g_getR (iRow iCX5_seeKnown_0 12 rfl) f5_9 ko_6 (r_6_0 _ _)) ?_
    refine s_step (g_getL (iRow iCX5_seeKnown_0 13 rfl) f5_97 ko_7) ?_
    refine s_cl (sf := fun x => vI x :: [vR 6 0]) (fun _ _ h => h_S (As := [_, _, _]) (iRow iCX5_seeKnown_0 14 rfl) l5_181 iX5_find rfl rfl (t_X5_find_24 (d + 0) h) rfl (by omega) (by decide) (Nat.le_of_ble_eq_true rfl)) (fun x4 M3 => ?_)
    refine s_step (g_putI (iRow iCX5_seeKnown_0 15 rfl) f5_135 (Or.inl rfl) ko_6) ?_
    refine s_nmM (fun M5 => ?_)
    refine s_step (g_aload_n (iRow iCX5_seeKnown_0 16 rfl) rfl rfl) ?_
    refine s_step (g_getI (iRow iCX5_seeKnown_0 17 rfl) f5_135 ko_6) ?_
    refine s_step (g_iconst (iRow iCX5_seeKnown_0 18 rfl) kc_m1) ?_
    refine s_ifn (g_icmp_ne (tgt := 48) (iRow iCX5_seeKnown_0 19 rfl) (by decide)) (fun _ => ?_) (fun _ => ?_)
    · refine s_step (g_aload_n (iRow iCX5_seeKnown_0 20 rfl) rfl rfl) ?_
      refine s_step (g_iconst (iRow iCX5_seeKnown_0 21 rfl) kc_2) ?_
      refine s_cb (sf := fun b => vI (bI b) :: []) (fun _ _ h => h_V (As := [_]) (iRow iCX5_seeKnown_0 22 rfl) l5_87 iX5_wrong ko_6 rfl rfl rfl rfl (t_X5_wrong (d + 0) h) rfl (by omega) (by decide) (Nat.le_of_ble_eq_true rfl)) (fun b7 M6 => ?_)
      refine s_ifeqb (g_if_eq (tgt := 52) (iRow iCX5_seeKnown_0 23 rfl) (by decide)) (fun _ => ?_) (fun _ => ?_)
      · refine s_step (g_iconst (iRow iCX5_seeKnown_1 0 rfl) kc_1) ?_
        refine s_step (g_goto (tgt := 53) (iRow iCX5_seeKnown_1 1 rfl) (by decide)) ?_
        exact s_retz (b := true) (iRow iCX5_seeKnown_1 3 rfl) rfl rfl
      · refine s_step (g_iconst (iRow iCX5_seeKnown_1 2 rfl) kc_0) ?_
        exact s_retz (b := false) (iRow iCX5_seeKnown_1 3 rfl) rfl rfl
    · refine s_step (g_iconst (iRow iCX5_seeKnown_1 0 rfl) kc_1) ?_
      refine s_step (g_goto (tgt := 53) (iRow iCX5_seeKnown_1 1 rfl) (by decide)) ?_
      exact s_retz (b := true) (iRow iCX5_seeKnown_1 3 rfl) rfl rfl
  · refine s_step (g_aload_n (iRow iCX5_seeKnown_0 4 rfl) rfl rfl) ?_
    refine s_step (g_iconst (iRow iCX5_seeKnown_0 5 rfl) kc_1) ?_
    refine s_cb (sf := fun b => vI (bI b) :: []) (fun _ _ h => h_V (As := [_]) (iRow iCX5_seeKnown_0 6 rfl) l5_87 iX5_wrong ko_6 rfl rfl rfl rfl (t_X5_wrong (d + 0) h) rfl (by omega) (by decide) (Nat.le_of_ble_eq_true rfl)) (fun b9 M8 => ?_)
    exact s_retz (iRow iCX5_seeKnown_0 7 rfl) rfl rfl
abbrev YX5_readLean : mY := (RX5, "readLean", cX5_readLean, 3, (some .boolean), none)
set_option maxHeartbeats 400000 in
set_option maxRecDepth 20000 in
theorem t_X5_readLean {G : mg} {F : Nat} {M : mm} {x : Bool} {M' : mm} (d : Nat) (h : m_X5_readLean F M = some (x, M')) : CM G yX5_readLean cX5_readLean 3 (some .boolean) (d + 4) [vR 6 0] M (some (vI (bI x))) M' := by
  refine ct_z (ls := [some (vR 6 0), none, none]) rfl rfl (Nat.le_of_ble_eq_true rfl) (fun Z => ?_) h
  show SW G (d + 4) YX5_readLean Z 0 [some (vR 6 0), none, none] [] M _ _
  unfold m_X5_readLean
  refine s_step (g_aload_n (iRow iCX5_readLean_0 0 rfl) rfl rfl) ?_
  refine s_step (g_getR (iRow iCX5_readLean_0 1 rfl) f5_9 ko_6 (r_6_0 _ _)) ?_
  refine s_cv (stA := []) (fun _ h => h_V (As := []) (iRow iCX5_readLean_0 2 rfl) l5_94 iX6_next ko_7 rfl rfl rfl rfl (t_X6_next (d + 1) h) rfl (by omega) (by decide) (Nat.le_of_ble_eq_true rfl)) (fun M1 => ?_)
  refine s_step (g_aload_n (iRow iCX5_readLean_0 3 rfl) rfl rfl) ?_
  refine s_step (g_aload_n (iRow iCX5_readLean_0 4 rfl) rfl rfl) ?_
  refine s_step (g_getR (iRow iCX5_readLean_0 5 rfl) f5_15 ko_6 (r_6_2 _ _)) ?_
  refine s_step (g_getR (iRow iCX5_readLean_0 6 rfl) f5_142 ko_1 (r_1_6 _ _)) ?_
  refine s_step (g_aload_n (iRow iCX5_readLean_0 7 rfl) rfl rfl) ?_
  refine s_step (g_getR (iRow iCX5_readLean_0 8 rfl) f5_15 ko_6 (r_6_2 _ _)) ?_
  refine s_step (g_getI (iRow iCX5_readLean_0 9 rfl) f5_128 ko_1) ?_
  refine s_cb (sf := fun b => vI (bI b) :: []) (fun _ _ h => h_V (As := [_, _]) (iRow iCX5_readLean_0 10 rfl) l5_131 iX5_seeKnown ko_6 rfl rfl rfl rfl (t_X5_seeKnown_24 (d + 2) h) rfl (by omega) (by decide) (Nat.le_of_ble_eq_true rfl)) (fun b3 M2 => ?_)
  refine s_ifneb (g_if_ne (tgt := 30) (iRow iCX5_readLean_0 11 rfl) (by decide)) (fun _ => ?_) (fun _ => ?_)
  · refine s_step (g_aload_n (iRow iCX5_readLean_0 14 rfl) rfl rfl) ?_
    refine s_step (g_getI (iRow iCX5_readLean_0 15 rfl) f5_135 ko_6) ?_
    refine s_nmI (fun x4 => ?_)
    refine s_step (g_istore_n (ls' := [some (vR 6 0), some (vI x4), none]) (iRow iCX5_readLean_0 16 rfl) rfl (by decide) rfl) ?_
    refine s_step (g_aload_n (iRow iCX5_readLean_0 17 rfl) rfl rfl) ?_
    refine s_step (g_getR (iRow iCX5_readLean_0 18 rfl) f5_15 ko_6 (r_6_2 _ _)) ?_
    refine s_step (g_getR (iRow iCX5_readLean_0 19 rfl) f5_145 ko_1 (r_1_10 _ _)) ?_
    refine s_step (g_iload_n (iRow iCX5_readLean_0 20 rfl) rfl rfl) ?_
    refine s_gi (fun h => g_iald (iRow iCX5_readLean_0 21 rfl) kn_28 ka_28 h) ?_
    refine s_step (g_iconst (iRow iCX5_readLean_0 22 rfl) kc_m1) ?_
    refine s_if (g_icmp_eq (tgt := 54) (iRow iCX5_readLean_0 23 rfl) (by decide)) (fun _ => ?_) (fun _ => ?_)
    · refine s_step (g_aload_n (iRow iCX5_readLean_1 4 rfl) rfl rfl) ?_
      refine s_step (g_getR (iRow iCX5_readLean_1 5 rfl) f5_9 ko_6 (r_6_0 _ _)) ?_
      refine s_cv (stA := []) (fun _ h => h_V (As := []) (iRow iCX5_readLean_1 6 rfl) l5_94 iX6_next ko_7 rfl rfl rfl rfl (t_X6_next (d + 1) h) rfl (by omega) (by decide) (Nat.le_of_ble_eq_true rfl)) (fun M5 => ?_)
      refine s_step (g_aload_n (iRow iCX5_readLean_1 7 rfl) rfl rfl) ?_
      refine s_step (g_aload_n (iRow iCX5_readLean_1 8 rfl) rfl rfl) ?_
      refine s_step (g_getR (iRow iCX5_readLean_1 9 rfl) f5_15 ko_6 (r_6_2 _ _)) ?_
      refine s_step (g_getR (iRow iCX5_readLean_1 10 rfl) f5_142 ko_1 (r_1_6 _ _)) ?_
      refine s_step (g_aload_n (iRow iCX5_readLean_1 11 rfl) rfl rfl) ?_
      refine s_step (g_getR (iRow iCX5_readLean_1 12 rfl) f5_15 ko_6 (r_6_2 _ _)) ?_
      refine s_step (g_getI (iRow iCX5_readLean_1 13 rfl) f5_128 ko_1) ?_
      refine s_cb (sf := fun b => vI (bI b) :: []) (fun _ _ h => h_V (As := [_, _]) (iRow iCX5_readLean_1 14 rfl) l5_131 iX5_seeKnown ko_6 rfl rfl rfl rfl (t_X5_seeKnown_24 (d + 2) h) rfl (by omega) (by decide) (Nat.le_of_ble_eq_true rfl)) (fun b7 M6 => ?_)
      refine s_ifneb (g_if_ne (tgt := 84) (iRow iCX5_readLean_1 15 rfl) (by decide)) (fun _ => ?_) (fun _ => ?_)
      · refine s_step (g_aload_n (iRow iCX5_readLean_1 18 rfl) rfl rfl) ?_
        refine s_step (g_getI (iRow iCX5_readLean_1 19 rfl) f5_135 ko_6) ?_
        refine s_nmI (fun x8 => ?_)
        refine s_step (g_istore_n (ls' := [some (vR 6 0), some (vI x4), some (vI x8)]) (iRow iCX5_readLean_1 20 rfl) rfl (by decide) rfl) ?_
        refine s_step (g_iload_n (iRow iCX5_readLean_1 21 rfl) rfl rfl) ?_
        refine s_step (g_iload_n (iRow iCX5_readLean_1 22 rfl) rfl rfl) ?_
        refine s_nj 107 (fun z => [some (vR 6 0), none, none]) (fun z => []) (fun z => M6) ?_ (fun j107 hj107 => ?_)
        · intro _
          show SW G (d + 4) YX5_readLean Z 107 [some (vR 6 0), none, none] [] M6 _ _
          try dsimp only
          refine s_step (g_aload_n (iRow iCX5_readLean_2 7 rfl) rfl rfl) ?_
          refine s_step (g_iconst (iRow iCX5_readLean_2 8 rfl) kc_3) ?_
          refine s_cb (sf := fun b => vI (bI b) :: []) (fun _ _ h => h_V (As := [_]) (iRow iCX5_readLean_2 9 rfl) l5_87 iX5_wrong ko_6 rfl rfl rfl rfl (t_X5_wrong (d + 3) h) rfl (by omega) (by decide) (Nat.le_of_ble_eq_true rfl)) (fun b15 M14 => ?_)
          exact s_retz (iRow iCX5_readLean_2 10 rfl) rfl rfl
        · refine s_if (g_icmp_eq (tgt := 107) (iRow iCX5_readLean_1 23 rfl) (by decide)) (fun _ => ?_) (fun _ => ?_)
          · refine s_step (g_keep [true, false, false] rfl) ?_
            exact hj107 _
          · refine s_step (g_aload_n (iRow iCX5_readLean_2 0 rfl) rfl rfl) ?_
            refine s_step (g_getR (iRow iCX5_readLean_2 1 rfl) f5_15 ko_6 (r_6_2 _ _)) ?_
            refine s_step (g_getR (iRow iCX5_readLean_2 2 rfl) f5_145 ko_1 (r_1_10 _ _)) ?_
            refine s_step (g_iload_n (iRow iCX5_readLean_2 3 rfl) rfl rfl) ?_
            refine s_gi (fun h => g_iald (iRow iCX5_readLean_2 4 rfl) kn_28 ka_28 h) ?_
            refine s_step (g_iconst (iRow iCX5_readLean_2 5 rfl) kc_m1) ?_
            refine s_if (g_icmp_eq (tgt := 113) (iRow iCX5_readLean_2 6 rfl) (by decide)) (fun _ => ?_) (fun _ => ?_)
            · refine s_step (g_aload_n (iRow iCX5_readLean_2 11 rfl) rfl rfl) ?_
              refine s_step (g_getR (iRow iCX5_readLean_2 12 rfl) f5_9 ko_6 (r_6_0 _ _)) ?_
              refine s_cv (stA := []) (fun _ h => h_V (As := []) (iRow iCX5_readLean_2 13 rfl) l5_94 iX6_next ko_7 rfl rfl rfl rfl (t_X6_next (d + 1) h) rfl (by omega) (by decide) (Nat.le_of_ble_eq_true rfl)) (fun M9 => ?_)
              refine s_step (g_aload_n (iRow iCX5_readLean_2 14 rfl) rfl rfl) ?_
              refine s_step (g_getR (iRow iCX5_readLean_2 15 rfl) f5_15 ko_6 (r_6_2 _ _)) ?_
              refine s_step (g_getR (iRow iCX5_readLean_2 16 rfl) f5_145 ko_1 (r_1_10 _ _)) ?_
              refine s_step (g_iload_n (iRow iCX5_readLean_2 17 rfl) rfl rfl) ?_
              refine s_step (g_iload_n (iRow iCX5_readLean_2 18 rfl) rfl rfl) ?_
              refine s_gi (fun h => g_iast (iRow iCX5_readLean_2 19 rfl) kn_28 ka_28 h) ?_
              refine s_nmM (fun M10 => ?_)
              refine s_step (g_aload_n (iRow iCX5_readLean_2 20 rfl) rfl rfl) ?_
              refine s_step (g_getR (iRow iCX5_readLean_2 21 rfl) f5_15 ko_6 (r_6_2 _ _)) ?_
              refine s_step (g_getR (iRow iCX5_readLean_2 22 rfl) f5_145 ko_1 (r_1_10 _ _)) ?_
              refine s_step (g_iload_n (iRow iCX5_readLean_2 23 rfl) rfl rfl) ?_
              refine s_step (g_iload_n (iRow iCX5_readLean_3 0 rfl) rfl rfl) ?_
              refine s_gi (fun h => g_iast (iRow iCX5_readLean_3 1 rfl) kn_28 ka_28 h) ?_
              refine s_nmM (fun M11 => ?_)
              refine s_step (g_aload_n (iRow iCX5_readLean_3 2 rfl) rfl rfl) ?_
              refine s_cb (sf := fun b => vI (bI b) :: []) (fun _ _ h => h_V (As := []) (iRow iCX5_readLean_3 3 rfl) l5_118 iX5_takeEnd ko_6 rfl rfl rfl rfl (t_X5_takeEnd (d + 0) h) rfl (by omega) (by decide) (Nat.le_of_ble_eq_true rfl)) (fun b13 M12 => ?_)
              exact s_retz (iRow iCX5_readLean_3 4 rfl) rfl rfl
            · refine s_step (g_keep [true, false, false] rfl) ?_
              exact hj107 _
      · refine s_step (g_iconst (iRow iCX5_readLean_1 16 rfl) kc_0) ?_
        exact s_retz (b := false) (iRow iCX5_readLean_1 17 rfl) rfl rfl
    · refine s_step (g_aload_n (iRow iCX5_readLean_1 0 rfl) rfl rfl) ?_
      refine s_step (g_iconst (iRow iCX5_readLean_1 1 rfl) kc_3) ?_
      refine s_cb (sf := fun b => vI (bI b) :: []) (fun _ _ h => h_V (As := [_]) (iRow iCX5_readLean_1 2 rfl) l5_87 iX5_wrong ko_6 rfl rfl rfl rfl (t_X5_wrong (d + 3) h) rfl (by omega) (by decide) (Nat.le_of_ble_eq_true rfl)) (fun b17 M16 => ?_)
      exact s_retz (iRow iCX5_readLean_1 3 rfl) rfl rfl
  · refine s_step (g_iconst (iRow iCX5_readLean_0 12 rfl) kc_0) ?_
    exact s_retz (b := false) (iRow iCX5_readLean_0 13 rfl) rfl rfl
abbrev YX5_readClash : mY := (RX5, "readClash", cX5_readClash, 3, (some .boolean), none)
set_option maxHeartbeats 400000 in
set_option maxRecDepth 20000 in
theorem t_X5_readClash {G : mg} {F : Nat} {M : mm} {x : Bool} {M' : mm} (d : Nat) (h : m_X5_readClash F M = some (x, M')) : CM G yX5_readClash cX5_readClash 3 (some .boolean) (d + 4) [vR 6 0] M (some (vI (bI x))) M' := by
  refine ct_z (ls := [some (vR 6 0), none, none]) rfl rfl (Nat.le_of_ble_eq_true rfl) (fun Z => ?_) h
  show SW G (d + 4) YX5_readClash Z 0 [some (vR 6 0), none, none] [] M _ _
  unfold m_X5_readClash
  refine s_step (g_aload_n (iRow iCX5_readClash_0 0 rfl) rfl rfl) ?_
  refine s_step (g_getR (iRow iCX5_readClash_0 1 rfl) f5_9 ko_6 (r_6_0 _ _)) ?_
  refine s_cv (stA := []) (fun _ h => h_V (As := []) (iRow iCX5_readClash_0 2 rfl) l5_94 iX6_next ko_7 rfl rfl rfl rfl (t_X6_next (d + 1) h) rfl (by omega) (by decide) (Nat.le_of_ble_eq_true rfl)) (fun M1 => ?_)
  refine s_step (g_aload_n (iRow iCX5_readClash_0 3 rfl) rfl rfl) ?_
  refine s_step (g_aload_n (iRow iCX5_readClash_0 4 rfl) rfl rfl) ?_
  refine s_step (g_getR (iRow iCX5_readClash_0 5 rfl) f5_15 ko_6 (r_6_2 _ _)) ?_
  refine s_step (g_getR (iRow iCX5_readClash_0 6 rfl) f5_142 ko_1 (r_1_6 _ _)) ?_
  refine s_step (g_aload_n (iRow iCX5_readClash_0 7 rfl) rfl rfl) ?_
  refine s_step (g_getR (iRow iCX5_readClash_0 8 rfl) f5_15 ko_6 (r_6_2 _ _)) ?_
  refine s_step (g_getI (iRow iCX5_readClash_0 9 rfl) f5_128 ko_1) ?_
  refine s_cb (sf := fun b => vI (bI b) :: []) (fun _ _ h => h_V (As := [_, _]) (iRow iCX5_readClash_0 10 rfl) l5_131 iX5_seeKnown ko_6 rfl rfl rfl rfl (t_X5_seeKnown_24 (d + 2) h) rfl (by omega) (by decide) (Nat.le_of_ble_eq_true rfl)) (fun b3 M2 => ?_)
  refine s_ifneb (g_if_ne (tgt := 30) (iRow iCX5_readClash_0 11 rfl) (by decide)) (fun _ => ?_) (fun _ => ?_)
  · refine s_step (g_aload_n (iRow iCX5_readClash_0 14 rfl) rfl rfl) ?_
    refine s_step (g_getI (iRow iCX5_readClash_0 15 rfl) f5_135 ko_6) ?_
    refine s_nmI (fun x4 => ?_)
    refine s_step (g_istore_n (ls' := [some (vR 6 0), some (vI x4), none]) (iRow iCX5_readClash_0 16 rfl) rfl (by decide) rfl) ?_
    refine s_step (g_aload_n (iRow iCX5_readClash_0 17 rfl) rfl rfl) ?_
    refine s_step (g_getR (iRow iCX5_readClash_0 18 rfl) f5_9 ko_6 (r_6_0 _ _)) ?_
    refine s_cv (stA := []) (fun _ h => h_V (As := []) (iRow iCX5_readClash_0 19 rfl) l5_94 iX6_next ko_7 rfl rfl rfl rfl (t_X6_next (d + 1) h) rfl (by omega) (by decide) (Nat.le_of_ble_eq_true rfl)) (fun M5 => ?_)
    refine s_step (g_aload_n (iRow iCX5_readClash_0 20 rfl) rfl rfl) ?_
    refine s_step (g_aload_n (iRow iCX5_readClash_0 21 rfl) rfl rfl) ?_
    refine s_step (g_getR (iRow iCX5_readClash_0 22 rfl) f5_15 ko_6 (r_6_2 _ _)) ?_
    refine s_step (g_getR (iRow iCX5_readClash_0 23 rfl) f5_142 ko_1 (r_1_6 _ _)) ?_
    refine s_step (g_aload_n (iRow iCX5_readClash_1 0 rfl) rfl rfl) ?_
    refine s_step (g_getR (iRow iCX5_readClash_1 1 rfl) f5_15 ko_6 (r_6_2 _ _)) ?_
    refine s_step (g_getI (iRow iCX5_readClash_1 2 rfl) f5_128 ko_1) ?_
    refine s_cb (sf := fun b => vI (bI b) :: []) (fun _ _ h => h_V (As := [_, _]) (iRow iCX5_readClash_1 3 rfl) l5_131 iX5_seeKnown ko_6 rfl rfl rfl rfl (t_X5_seeKnown_24 (d + 2) h) rfl (by omega) (by decide) (Nat.le_of_ble_eq_true rfl)) (fun b7 M6 => ?_)
    refine s_ifneb (g_if_ne (tgt := 65) (iRow iCX5_readClash_1 4 rfl) (by decide)) (fun _ => ?_) (fun _ => ?_)
    · refine s_step (g_aload_n (iRow iCX5_readClash_1 7 rfl) rfl rfl) ?_
      refine s_step (g_getI (iRow iCX5_readClash_1 8 rfl) f5_135 ko_6) ?_
      refine s_nmI (fun x8 => ?_)
      refine s_step (g_istore_n (ls' := [some (vR 6 0), some (vI x4), some (vI x8)]) (iRow iCX5_readClash_1 9 rfl) rfl (by decide) rfl) ?_
      refine s_step (g_iload_n (iRow iCX5_readClash_1 10 rfl) rfl rfl) ?_
      refine s_step (g_iload_n (iRow iCX5_readClash_1 11 rfl) rfl rfl) ?_
      refine s_nj 91 (fun z => [some (vR 6 0), none, none]) (fun z => []) (fun z => M6) ?_ (fun j91 hj91 => ?_)
      · intro _
        show SW G (d + 4) YX5_readClash Z 91 [some (vR 6 0), none, none] [] M6 _ _
        try dsimp only
        refine s_step (g_aload_n (iRow iCX5_readClash_1 23 rfl) rfl rfl) ?_
        refine s_step (g_iconst (iRow iCX5_readClash_2 0 rfl) kc_3) ?_
        refine s_cb (sf := fun b => vI (bI b) :: []) (fun _ _ h => h_V (As := [_]) (iRow iCX5_readClash_2 1 rfl) l5_87 iX5_wrong ko_6 rfl rfl rfl rfl (t_X5_wrong (d + 3) h) rfl (by omega) (by decide) (Nat.le_of_ble_eq_true rfl)) (fun b15 M14 => ?_)
        exact s_retz (iRow iCX5_readClash_2 2 rfl) rfl rfl
      · refine s_if (g_icmp_eq (tgt := 91) (iRow iCX5_readClash_1 12 rfl) (by decide)) (fun _ => ?_) (fun _ => ?_)
        · refine s_step (g_keep [true, false, false] rfl) ?_
          exact hj91 _
        · refine s_step (g_aload_n (iRow iCX5_readClash_1 13 rfl) rfl rfl) ?_
          refine s_step (g_getR (iRow iCX5_readClash_1 14 rfl) f5_15 ko_6 (r_6_2 _ _)) ?_
          refine s_step (g_getR (iRow iCX5_readClash_1 15 rfl) f5_148 ko_1 (r_1_11 _ _)) ?_
          refine s_step (g_iload_n (iRow iCX5_readClash_1 16 rfl) rfl rfl) ?_
          refine s_gi (fun h => g_iald (iRow iCX5_readClash_1 17 rfl) kn_29 ka_29 h) ?_
          refine s_step (g_iload_n (iRow iCX5_readClash_1 18 rfl) rfl rfl) ?_
          refine s_step (g_ishr (iRow iCX5_readClash_1 19 rfl)) ?_
          refine s_step (g_iconst (iRow iCX5_readClash_1 20 rfl) kc_1) ?_
          refine s_step (g_iand (iRow iCX5_readClash_1 21 rfl)) ?_
          refine s_if (g_if_eq (tgt := 97) (iRow iCX5_readClash_1 22 rfl) (by decide)) (fun _ => ?_) (fun _ => ?_)
          · refine s_step (g_aload_n (iRow iCX5_readClash_2 3 rfl) rfl rfl) ?_
            refine s_step (g_getR (iRow iCX5_readClash_2 4 rfl) f5_9 ko_6 (r_6_0 _ _)) ?_
            refine s_cv (stA := []) (fun _ h => h_V (As := []) (iRow iCX5_readClash_2 5 rfl) l5_94 iX6_next ko_7 rfl rfl rfl rfl (t_X6_next (d + 1) h) rfl (by omega) (by decide) (Nat.le_of_ble_eq_true rfl)) (fun M9 => ?_)
            refine s_step (g_aload_n (iRow iCX5_readClash_2 6 rfl) rfl rfl) ?_
            refine s_step (g_getR (iRow iCX5_readClash_2 7 rfl) f5_15 ko_6 (r_6_2 _ _)) ?_
            refine s_step (g_getR (iRow iCX5_readClash_2 8 rfl) f5_148 ko_1 (r_1_11 _ _)) ?_
            refine s_step (g_iload_n (iRow iCX5_readClash_2 9 rfl) rfl rfl) ?_
            refine s_step (g_dup2 (iRow iCX5_readClash_2 10 rfl) rfl rfl) ?_
            refine s_gi (fun h => g_iald (iRow iCX5_readClash_2 11 rfl) kn_29 ka_29 h) ?_
            refine s_step (g_iconst (iRow iCX5_readClash_2 12 rfl) kc_1) ?_
            refine s_step (g_iload_n (iRow iCX5_readClash_2 13 rfl) rfl rfl) ?_
            refine s_step (g_ishl (iRow iCX5_readClash_2 14 rfl)) ?_
            refine s_step (g_ior (iRow iCX5_readClash_2 15 rfl)) ?_
            refine s_gi (fun h => g_iast (iRow iCX5_readClash_2 16 rfl) kn_29 ka_29 h) ?_
            refine s_nmM (fun M10 => ?_)
            refine s_step (g_aload_n (iRow iCX5_readClash_2 17 rfl) rfl rfl) ?_
            refine s_step (g_getR (iRow iCX5_readClash_2 18 rfl) f5_15 ko_6 (r_6_2 _ _)) ?_
            refine s_step (g_getR (iRow iCX5_readClash_2 19 rfl) f5_148 ko_1 (r_1_11 _ _)) ?_
            refine s_step (g_iload_n (iRow iCX5_readClash_2 20 rfl) rfl rfl) ?_
            refine s_step (g_dup2 (iRow iCX5_readClash_2 21 rfl) rfl rfl) ?_
            refine s_gi (fun h => g_iald (iRow iCX5_readClash_2 22 rfl) kn_29 ka_29 h) ?_
            refine s_step (g_iconst (iRow iCX5_readClash_2 23 rfl) kc_1) ?_
            refine s_step (g_iload_n (iRow iCX5_readClash_3 0 rfl) rfl rfl) ?_
            refine s_step (g_ishl (iRow iCX5_readClash_3 1 rfl)) ?_
            refine s_step (g_ior (iRow iCX5_readClash_3 2 rfl)) ?_
            refine s_gi (fun h => g_iast (iRow iCX5_readClash_3 3 rfl) kn_29 ka_29 h) ?_
            refine s_nmM (fun M11 => ?_)
            refine s_step (g_aload_n (iRow iCX5_readClash_3 4 rfl) rfl rfl) ?_
            refine s_cb (sf := fun b => vI (bI b) :: []) (fun _ _ h => h_V (As := []) (iRow iCX5_readClash_3 5 rfl) l5_118 iX5_takeEnd ko_6 rfl rfl rfl rfl (t_X5_takeEnd (d + 0) h) rfl (by omega) (by decide) (Nat.le_of_ble_eq_true rfl)) (fun b13 M12 => ?_)
            exact s_retz (iRow iCX5_readClash_3 6 rfl) rfl rfl
          · refine s_step (g_keep [true, false, false] rfl) ?_
            exact hj91 _
    · refine s_step (g_iconst (iRow iCX5_readClash_1 5 rfl) kc_0) ?_
      exact s_retz (b := false) (iRow iCX5_readClash_1 6 rfl) rfl rfl
  · refine s_step (g_iconst (iRow iCX5_readClash_0 12 rfl) kc_0) ?_
    exact s_retz (b := false) (iRow iCX5_readClash_0 13 rfl) rfl rfl
